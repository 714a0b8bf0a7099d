section
-- ===== PART A: goes FIRST, ahead of the names: the tables' words, and 'selects' of the private methods out of them =====
/-- a private method of a class that the tables say can be made, by its rows of tables_1 -/
def lw_okq (q : MethodName × Nat) : Prop := (q.1.cls ≠ "java/lang/invoke/MethodHandle" ∧ q.1.cls ≠ "java/lang/invoke/VarHandle") ∧ Cond.instantiable q.1.cls q.2 ∈ tables_1 ∧ Cond.privateMethod q.1 ∈ tables_1 ∧ Cond.instanceMethod q.1 ∈ tables_1
theorem lw_p0 : lw_okq (⟨"ArcTape$Packer", "bestReference", "(I)I"⟩, 7) := ⟨⟨by decide +kernel, by decide +kernel⟩, List.mem_of_getElem? (i := 84) (by decide +kernel), List.mem_of_getElem? (i := 221) (by decide +kernel), List.mem_of_getElem? (i := 222) (by decide +kernel)⟩
theorem lw_p1 : lw_okq (⟨"ArcTape$Packer", "mayBeReferredTo", "(I)Z"⟩, 7) := ⟨⟨by decide +kernel, by decide +kernel⟩, List.mem_of_getElem? (i := 84) (by decide +kernel), List.mem_of_getElem? (i := 226) (by decide +kernel), List.mem_of_getElem? (i := 227) (by decide +kernel)⟩
theorem lw_p2 : lw_okq (⟨"ArcTape$Packer", "writeRecord", "(II)V"⟩, 7) := ⟨⟨by decide +kernel, by decide +kernel⟩, List.mem_of_getElem? (i := 84) (by decide +kernel), List.mem_of_getElem? (i := 230) (by decide +kernel), List.mem_of_getElem? (i := 231) (by decide +kernel)⟩
theorem lw_p3 : lw_okq (⟨"ArcTape$Packer", "writeRuns", "(II)V"⟩, 7) := ⟨⟨by decide +kernel, by decide +kernel⟩, List.mem_of_getElem? (i := 84) (by decide +kernel), List.mem_of_getElem? (i := 255) (by decide +kernel), List.mem_of_getElem? (i := 256) (by decide +kernel)⟩
theorem lw_p4 : lw_okq (⟨"ArcTape$Packer", "writeIntervals", "(II)I"⟩, 7) := ⟨⟨by decide +kernel, by decide +kernel⟩, List.mem_of_getElem? (i := 84) (by decide +kernel), List.mem_of_getElem? (i := 262) (by decide +kernel), List.mem_of_getElem? (i := 263) (by decide +kernel)⟩
theorem lw_p5 : lw_okq (⟨"ArcTape$Packer", "rowLength", "(II)I"⟩, 7) := ⟨⟨by decide +kernel, by decide +kernel⟩, List.mem_of_getElem? (i := 84) (by decide +kernel), List.mem_of_getElem? (i := 266) (by decide +kernel), List.mem_of_getElem? (i := 267) (by decide +kernel)⟩
theorem lw_p6 : lw_okq (⟨"ArcTape$Packer", "writeSingles", "(II)V"⟩, 7) := ⟨⟨by decide +kernel, by decide +kernel⟩, List.mem_of_getElem? (i := 84) (by decide +kernel), List.mem_of_getElem? (i := 273) (by decide +kernel), List.mem_of_getElem? (i := 274) (by decide +kernel)⟩
theorem lw_p7 : lw_okq (⟨"ArcTape$Reader", "readRecord", "()V"⟩, 14) := ⟨⟨by decide +kernel, by decide +kernel⟩, List.mem_of_getElem? (i := 112) (by decide +kernel), List.mem_of_getElem? (i := 285) (by decide +kernel), List.mem_of_getElem? (i := 286) (by decide +kernel)⟩
theorem lw_p8 : lw_okq (⟨"ArcTape$Reader", "nextGamma", "()I"⟩, 14) := ⟨⟨by decide +kernel, by decide +kernel⟩, List.mem_of_getElem? (i := 112) (by decide +kernel), List.mem_of_getElem? (i := 289) (by decide +kernel), List.mem_of_getElem? (i := 290) (by decide +kernel)⟩
theorem lw_p9 : lw_okq (⟨"ArcTape$Reader", "nextUnary", "()I"⟩, 14) := ⟨⟨by decide +kernel, by decide +kernel⟩, List.mem_of_getElem? (i := 112) (by decide +kernel), List.mem_of_getElem? (i := 293) (by decide +kernel), List.mem_of_getElem? (i := 294) (by decide +kernel)⟩
theorem lw_p10 : lw_okq (⟨"ArcTape$Reader", "nextBit", "()I"⟩, 14) := ⟨⟨by decide +kernel, by decide +kernel⟩, List.mem_of_getElem? (i := 112) (by decide +kernel), List.mem_of_getElem? (i := 297) (by decide +kernel), List.mem_of_getElem? (i := 298) (by decide +kernel)⟩
theorem lw_p11 : lw_okq (⟨"ArcTape$Reader", "failIf", "(ZI)V"⟩, 14) := ⟨⟨by decide +kernel, by decide +kernel⟩, List.mem_of_getElem? (i := 112) (by decide +kernel), List.mem_of_getElem? (i := 301) (by decide +kernel), List.mem_of_getElem? (i := 302) (by decide +kernel)⟩
theorem lw_p12 : lw_okq (⟨"ArcTape$Reader", "nextNumber", "(II)I"⟩, 14) := ⟨⟨by decide +kernel, by decide +kernel⟩, List.mem_of_getElem? (i := 112) (by decide +kernel), List.mem_of_getElem? (i := 305) (by decide +kernel), List.mem_of_getElem? (i := 306) (by decide +kernel)⟩
theorem lw_p13 : lw_okq (⟨"ArcTape$Reader", "goesOn", "()Z"⟩, 14) := ⟨⟨by decide +kernel, by decide +kernel⟩, List.mem_of_getElem? (i := 112) (by decide +kernel), List.mem_of_getElem? (i := 309) (by decide +kernel), List.mem_of_getElem? (i := 310) (by decide +kernel)⟩
theorem lw_p14 : lw_okq (⟨"ArcTape$Reader", "readReference", "()V"⟩, 14) := ⟨⟨by decide +kernel, by decide +kernel⟩, List.mem_of_getElem? (i := 112) (by decide +kernel), List.mem_of_getElem? (i := 313) (by decide +kernel), List.mem_of_getElem? (i := 314) (by decide +kernel)⟩
theorem lw_p15 : lw_okq (⟨"ArcTape$Reader", "readRuns", "(I)V"⟩, 14) := ⟨⟨by decide +kernel, by decide +kernel⟩, List.mem_of_getElem? (i := 112) (by decide +kernel), List.mem_of_getElem? (i := 317) (by decide +kernel), List.mem_of_getElem? (i := 318) (by decide +kernel)⟩
def lw_privs_1 : List (MethodName × Nat) := [(⟨"ArcTape$Packer", "bestReference", "(I)I"⟩, 7), (⟨"ArcTape$Packer", "mayBeReferredTo", "(I)Z"⟩, 7), (⟨"ArcTape$Packer", "writeRecord", "(II)V"⟩, 7), (⟨"ArcTape$Packer", "writeRuns", "(II)V"⟩, 7), (⟨"ArcTape$Packer", "writeIntervals", "(II)I"⟩, 7), (⟨"ArcTape$Packer", "rowLength", "(II)I"⟩, 7), (⟨"ArcTape$Packer", "writeSingles", "(II)V"⟩, 7), (⟨"ArcTape$Reader", "readRecord", "()V"⟩, 14), (⟨"ArcTape$Reader", "nextGamma", "()I"⟩, 14), (⟨"ArcTape$Reader", "nextUnary", "()I"⟩, 14), (⟨"ArcTape$Reader", "nextBit", "()I"⟩, 14), (⟨"ArcTape$Reader", "failIf", "(ZI)V"⟩, 14), (⟨"ArcTape$Reader", "nextNumber", "(II)I"⟩, 14), (⟨"ArcTape$Reader", "goesOn", "()Z"⟩, 14), (⟨"ArcTape$Reader", "readReference", "()V"⟩, 14), (⟨"ArcTape$Reader", "readRuns", "(I)V"⟩, 14)]
theorem lw_r1 : ∀ q ∈ lw_privs_1, lw_okq q := List.forall_mem_cons.mpr ⟨lw_p0, List.forall_mem_cons.mpr ⟨lw_p1, List.forall_mem_cons.mpr ⟨lw_p2, List.forall_mem_cons.mpr ⟨lw_p3, List.forall_mem_cons.mpr ⟨lw_p4, List.forall_mem_cons.mpr ⟨lw_p5, List.forall_mem_cons.mpr ⟨lw_p6, List.forall_mem_cons.mpr ⟨lw_p7, List.forall_mem_cons.mpr ⟨lw_p8, List.forall_mem_cons.mpr ⟨lw_p9, List.forall_mem_cons.mpr ⟨lw_p10, List.forall_mem_cons.mpr ⟨lw_p11, List.forall_mem_cons.mpr ⟨lw_p12, List.forall_mem_cons.mpr ⟨lw_p13, List.forall_mem_cons.mpr ⟨lw_p14, List.forall_mem_cons.mpr ⟨lw_p15, fun _ h => absurd h List.not_mem_nil⟩⟩⟩⟩⟩⟩⟩⟩⟩⟩⟩⟩⟩⟩⟩⟩
theorem lw_p16 : lw_okq (⟨"ArcTape$Reader", "take", "(I)V"⟩, 14) := ⟨⟨by decide +kernel, by decide +kernel⟩, List.mem_of_getElem? (i := 112) (by decide +kernel), List.mem_of_getElem? (i := 325) (by decide +kernel), List.mem_of_getElem? (i := 326) (by decide +kernel)⟩
theorem lw_p17 : lw_okq (⟨"ArcTape$Reader", "readIntervals", "()V"⟩, 14) := ⟨⟨by decide +kernel, by decide +kernel⟩, List.mem_of_getElem? (i := 112) (by decide +kernel), List.mem_of_getElem? (i := 329) (by decide +kernel), List.mem_of_getElem? (i := 330) (by decide +kernel)⟩
theorem lw_p18 : lw_okq (⟨"ArcTape$Reader", "readSingles", "()V"⟩, 14) := ⟨⟨by decide +kernel, by decide +kernel⟩, List.mem_of_getElem? (i := 112) (by decide +kernel), List.mem_of_getElem? (i := 339) (by decide +kernel), List.mem_of_getElem? (i := 340) (by decide +kernel)⟩
theorem lw_p19 : lw_okq (⟨"ArcTape$Reader", "nextZeta", "()I"⟩, 14) := ⟨⟨by decide +kernel, by decide +kernel⟩, List.mem_of_getElem? (i := 112) (by decide +kernel), List.mem_of_getElem? (i := 343) (by decide +kernel), List.mem_of_getElem? (i := 344) (by decide +kernel)⟩
theorem lw_p20 : lw_okq (⟨"ArcTape", "isNode", "(I)Z"⟩, 8) := ⟨⟨by decide +kernel, by decide +kernel⟩, List.mem_of_getElem? (i := 13) (by decide +kernel), List.mem_of_getElem? (i := 385) (by decide +kernel), List.mem_of_getElem? (i := 386) (by decide +kernel)⟩
theorem lw_p21 : lw_okq (⟨"ArcTape", "isPlace", "(I)Z"⟩, 8) := ⟨⟨by decide +kernel, by decide +kernel⟩, List.mem_of_getElem? (i := 13) (by decide +kernel), List.mem_of_getElem? (i := 407) (by decide +kernel), List.mem_of_getElem? (i := 408) (by decide +kernel)⟩
theorem lw_p22 : lw_okq (⟨"ArcTape$Parts", "findReached", "()V"⟩, 3) := ⟨⟨by decide +kernel, by decide +kernel⟩, List.mem_of_getElem? (i := 164) (by decide +kernel), List.mem_of_getElem? (i := 436) (by decide +kernel), List.mem_of_getElem? (i := 437) (by decide +kernel)⟩
theorem lw_p23 : lw_okq (⟨"ArcTape$Parts", "nextReady", "(I)I"⟩, 3) := ⟨⟨by decide +kernel, by decide +kernel⟩, List.mem_of_getElem? (i := 164) (by decide +kernel), List.mem_of_getElem? (i := 441) (by decide +kernel), List.mem_of_getElem? (i := 442) (by decide +kernel)⟩
theorem lw_p24 : lw_okq (⟨"ArcTape$Parts", "partOf", "(I)I"⟩, 3) := ⟨⟨by decide +kernel, by decide +kernel⟩, List.mem_of_getElem? (i := 164) (by decide +kernel), List.mem_of_getElem? (i := 445) (by decide +kernel), List.mem_of_getElem? (i := 446) (by decide +kernel)⟩
theorem lw_p25 : lw_okq (⟨"ArcTape$Scores", "stepOnce", "()V"⟩, 8) := ⟨⟨by decide +kernel, by decide +kernel⟩, List.mem_of_getElem? (i := 181) (by decide +kernel), List.mem_of_getElem? (i := 473) (by decide +kernel), List.mem_of_getElem? (i := 474) (by decide +kernel)⟩
theorem lw_p26 : lw_okq (⟨"ArcTape$Scores", "stepByRank", "()V"⟩, 8) := ⟨⟨by decide +kernel, by decide +kernel⟩, List.mem_of_getElem? (i := 181) (by decide +kernel), List.mem_of_getElem? (i := 480) (by decide +kernel), List.mem_of_getElem? (i := 481) (by decide +kernel)⟩
theorem lw_p27 : lw_okq (⟨"ArcTape$Scores", "linksFrom", "(I)I"⟩, 8) := ⟨⟨by decide +kernel, by decide +kernel⟩, List.mem_of_getElem? (i := 181) (by decide +kernel), List.mem_of_getElem? (i := 486) (by decide +kernel), List.mem_of_getElem? (i := 487) (by decide +kernel)⟩
theorem lw_p28 : lw_okq (⟨"ArcTape$Scores", "stepByGreatest", "()V"⟩, 8) := ⟨⟨by decide +kernel, by decide +kernel⟩, List.mem_of_getElem? (i := 181) (by decide +kernel), List.mem_of_getElem? (i := 493) (by decide +kernel), List.mem_of_getElem? (i := 494) (by decide +kernel)⟩
theorem lw_p29 : lw_okq (⟨"ArcTape$Scores", "stepByShares", "()V"⟩, 8) := ⟨⟨by decide +kernel, by decide +kernel⟩, List.mem_of_getElem? (i := 181) (by decide +kernel), List.mem_of_getElem? (i := 503) (by decide +kernel), List.mem_of_getElem? (i := 504) (by decide +kernel)⟩
theorem lw_p30 : lw_okq (⟨"ArcTape$Scores", "linksTo", "(I)I"⟩, 8) := ⟨⟨by decide +kernel, by decide +kernel⟩, List.mem_of_getElem? (i := 181) (by decide +kernel), List.mem_of_getElem? (i := 507) (by decide +kernel), List.mem_of_getElem? (i := 508) (by decide +kernel)⟩
theorem lw_p31 : lw_okq (⟨"ArcTapeModel", "putRecord", "(II)V"⟩, 29) := ⟨⟨by decide +kernel, by decide +kernel⟩, List.mem_of_getElem? (i := 538) (by decide +kernel), List.mem_of_getElem? (i := 549) (by decide +kernel), List.mem_of_getElem? (i := 550) (by decide +kernel)⟩
def lw_privs_2 : List (MethodName × Nat) := [(⟨"ArcTape$Reader", "take", "(I)V"⟩, 14), (⟨"ArcTape$Reader", "readIntervals", "()V"⟩, 14), (⟨"ArcTape$Reader", "readSingles", "()V"⟩, 14), (⟨"ArcTape$Reader", "nextZeta", "()I"⟩, 14), (⟨"ArcTape", "isNode", "(I)Z"⟩, 8), (⟨"ArcTape", "isPlace", "(I)Z"⟩, 8), (⟨"ArcTape$Parts", "findReached", "()V"⟩, 3), (⟨"ArcTape$Parts", "nextReady", "(I)I"⟩, 3), (⟨"ArcTape$Parts", "partOf", "(I)I"⟩, 3), (⟨"ArcTape$Scores", "stepOnce", "()V"⟩, 8), (⟨"ArcTape$Scores", "stepByRank", "()V"⟩, 8), (⟨"ArcTape$Scores", "linksFrom", "(I)I"⟩, 8), (⟨"ArcTape$Scores", "stepByGreatest", "()V"⟩, 8), (⟨"ArcTape$Scores", "stepByShares", "()V"⟩, 8), (⟨"ArcTape$Scores", "linksTo", "(I)I"⟩, 8), (⟨"ArcTapeModel", "putRecord", "(II)V"⟩, 29)]
theorem lw_r2 : ∀ q ∈ lw_privs_2, lw_okq q := List.forall_mem_cons.mpr ⟨lw_p16, List.forall_mem_cons.mpr ⟨lw_p17, List.forall_mem_cons.mpr ⟨lw_p18, List.forall_mem_cons.mpr ⟨lw_p19, List.forall_mem_cons.mpr ⟨lw_p20, List.forall_mem_cons.mpr ⟨lw_p21, List.forall_mem_cons.mpr ⟨lw_p22, List.forall_mem_cons.mpr ⟨lw_p23, List.forall_mem_cons.mpr ⟨lw_p24, List.forall_mem_cons.mpr ⟨lw_p25, List.forall_mem_cons.mpr ⟨lw_p26, List.forall_mem_cons.mpr ⟨lw_p27, List.forall_mem_cons.mpr ⟨lw_p28, List.forall_mem_cons.mpr ⟨lw_p29, List.forall_mem_cons.mpr ⟨lw_p30, List.forall_mem_cons.mpr ⟨lw_p31, fun _ h => absurd h List.not_mem_nil⟩⟩⟩⟩⟩⟩⟩⟩⟩⟩⟩⟩⟩⟩⟩⟩
theorem lw_p32 : lw_okq (⟨"ArcTapeModel", "putGamma", "(I)V"⟩, 29) := ⟨⟨by decide +kernel, by decide +kernel⟩, List.mem_of_getElem? (i := 538) (by decide +kernel), List.mem_of_getElem? (i := 556) (by decide +kernel), List.mem_of_getElem? (i := 557) (by decide +kernel)⟩
theorem lw_p33 : lw_okq (⟨"ArcTapeModel", "putUnary", "(I)V"⟩, 29) := ⟨⟨by decide +kernel, by decide +kernel⟩, List.mem_of_getElem? (i := 538) (by decide +kernel), List.mem_of_getElem? (i := 560) (by decide +kernel), List.mem_of_getElem? (i := 561) (by decide +kernel)⟩
theorem lw_p34 : lw_okq (⟨"ArcTapeModel", "put", "(I)V"⟩, 29) := ⟨⟨by decide +kernel, by decide +kernel⟩, List.mem_of_getElem? (i := 538) (by decide +kernel), List.mem_of_getElem? (i := 564) (by decide +kernel), List.mem_of_getElem? (i := 565) (by decide +kernel)⟩
theorem lw_p35 : lw_okq (⟨"ArcTapeModel", "putNumber", "(II)V"⟩, 29) := ⟨⟨by decide +kernel, by decide +kernel⟩, List.mem_of_getElem? (i := 538) (by decide +kernel), List.mem_of_getElem? (i := 568) (by decide +kernel), List.mem_of_getElem? (i := 569) (by decide +kernel)⟩
theorem lw_p36 : lw_okq (⟨"ArcTapeModel", "putRuns", "(II)V"⟩, 29) := ⟨⟨by decide +kernel, by decide +kernel⟩, List.mem_of_getElem? (i := 538) (by decide +kernel), List.mem_of_getElem? (i := 572) (by decide +kernel), List.mem_of_getElem? (i := 573) (by decide +kernel)⟩
theorem lw_p37 : lw_okq (⟨"ArcTapeModel", "putRest", "(II)V"⟩, 29) := ⟨⟨by decide +kernel, by decide +kernel⟩, List.mem_of_getElem? (i := 538) (by decide +kernel), List.mem_of_getElem? (i := 576) (by decide +kernel), List.mem_of_getElem? (i := 577) (by decide +kernel)⟩
theorem lw_p38 : lw_okq (⟨"ArcTapeModel", "rowAt", "(II)I"⟩, 29) := ⟨⟨by decide +kernel, by decide +kernel⟩, List.mem_of_getElem? (i := 538) (by decide +kernel), List.mem_of_getElem? (i := 580) (by decide +kernel), List.mem_of_getElem? (i := 581) (by decide +kernel)⟩
theorem lw_p39 : lw_okq (⟨"ArcTapeModel", "putZeta", "(I)V"⟩, 29) := ⟨⟨by decide +kernel, by decide +kernel⟩, List.mem_of_getElem? (i := 538) (by decide +kernel), List.mem_of_getElem? (i := 587) (by decide +kernel), List.mem_of_getElem? (i := 588) (by decide +kernel)⟩
theorem lw_p40 : lw_okq (⟨"ArcTapeModel", "node", "(I)Z"⟩, 29) := ⟨⟨by decide +kernel, by decide +kernel⟩, List.mem_of_getElem? (i := 538) (by decide +kernel), List.mem_of_getElem? (i := 689) (by decide +kernel), List.mem_of_getElem? (i := 690) (by decide +kernel)⟩
theorem lw_p41 : lw_okq (⟨"ArcTapeModel", "read", "()V"⟩, 29) := ⟨⟨by decide +kernel, by decide +kernel⟩, List.mem_of_getElem? (i := 538) (by decide +kernel), List.mem_of_getElem? (i := 714) (by decide +kernel), List.mem_of_getElem? (i := 715) (by decide +kernel)⟩
theorem lw_p42 : lw_okq (⟨"ArcTapeModel", "nextGamma", "()I"⟩, 29) := ⟨⟨by decide +kernel, by decide +kernel⟩, List.mem_of_getElem? (i := 538) (by decide +kernel), List.mem_of_getElem? (i := 718) (by decide +kernel), List.mem_of_getElem? (i := 719) (by decide +kernel)⟩
theorem lw_p43 : lw_okq (⟨"ArcTapeModel", "nextUnary", "()I"⟩, 29) := ⟨⟨by decide +kernel, by decide +kernel⟩, List.mem_of_getElem? (i := 538) (by decide +kernel), List.mem_of_getElem? (i := 722) (by decide +kernel), List.mem_of_getElem? (i := 723) (by decide +kernel)⟩
theorem lw_p44 : lw_okq (⟨"ArcTapeModel", "next", "()I"⟩, 29) := ⟨⟨by decide +kernel, by decide +kernel⟩, List.mem_of_getElem? (i := 538) (by decide +kernel), List.mem_of_getElem? (i := 726) (by decide +kernel), List.mem_of_getElem? (i := 727) (by decide +kernel)⟩
theorem lw_p45 : lw_okq (⟨"ArcTapeModel", "nextNumber", "(I)I"⟩, 29) := ⟨⟨by decide +kernel, by decide +kernel⟩, List.mem_of_getElem? (i := 538) (by decide +kernel), List.mem_of_getElem? (i := 730) (by decide +kernel), List.mem_of_getElem? (i := 731) (by decide +kernel)⟩
theorem lw_p46 : lw_okq (⟨"ArcTapeModel", "readParts", "(II)V"⟩, 29) := ⟨⟨by decide +kernel, by decide +kernel⟩, List.mem_of_getElem? (i := 538) (by decide +kernel), List.mem_of_getElem? (i := 734) (by decide +kernel), List.mem_of_getElem? (i := 735) (by decide +kernel)⟩
theorem lw_p47 : lw_okq (⟨"ArcTapeModel", "readRuns", "(II)V"⟩, 29) := ⟨⟨by decide +kernel, by decide +kernel⟩, List.mem_of_getElem? (i := 538) (by decide +kernel), List.mem_of_getElem? (i := 738) (by decide +kernel), List.mem_of_getElem? (i := 739) (by decide +kernel)⟩
def lw_privs_3 : List (MethodName × Nat) := [(⟨"ArcTapeModel", "putGamma", "(I)V"⟩, 29), (⟨"ArcTapeModel", "putUnary", "(I)V"⟩, 29), (⟨"ArcTapeModel", "put", "(I)V"⟩, 29), (⟨"ArcTapeModel", "putNumber", "(II)V"⟩, 29), (⟨"ArcTapeModel", "putRuns", "(II)V"⟩, 29), (⟨"ArcTapeModel", "putRest", "(II)V"⟩, 29), (⟨"ArcTapeModel", "rowAt", "(II)I"⟩, 29), (⟨"ArcTapeModel", "putZeta", "(I)V"⟩, 29), (⟨"ArcTapeModel", "node", "(I)Z"⟩, 29), (⟨"ArcTapeModel", "read", "()V"⟩, 29), (⟨"ArcTapeModel", "nextGamma", "()I"⟩, 29), (⟨"ArcTapeModel", "nextUnary", "()I"⟩, 29), (⟨"ArcTapeModel", "next", "()I"⟩, 29), (⟨"ArcTapeModel", "nextNumber", "(I)I"⟩, 29), (⟨"ArcTapeModel", "readParts", "(II)V"⟩, 29), (⟨"ArcTapeModel", "readRuns", "(II)V"⟩, 29)]
theorem lw_r3 : ∀ q ∈ lw_privs_3, lw_okq q := List.forall_mem_cons.mpr ⟨lw_p32, List.forall_mem_cons.mpr ⟨lw_p33, List.forall_mem_cons.mpr ⟨lw_p34, List.forall_mem_cons.mpr ⟨lw_p35, List.forall_mem_cons.mpr ⟨lw_p36, List.forall_mem_cons.mpr ⟨lw_p37, List.forall_mem_cons.mpr ⟨lw_p38, List.forall_mem_cons.mpr ⟨lw_p39, List.forall_mem_cons.mpr ⟨lw_p40, List.forall_mem_cons.mpr ⟨lw_p41, List.forall_mem_cons.mpr ⟨lw_p42, List.forall_mem_cons.mpr ⟨lw_p43, List.forall_mem_cons.mpr ⟨lw_p44, List.forall_mem_cons.mpr ⟨lw_p45, List.forall_mem_cons.mpr ⟨lw_p46, List.forall_mem_cons.mpr ⟨lw_p47, fun _ h => absurd h List.not_mem_nil⟩⟩⟩⟩⟩⟩⟩⟩⟩⟩⟩⟩⟩⟩⟩⟩
theorem lw_p48 : lw_okq (⟨"ArcTapeModel", "copy", "(III)V"⟩, 29) := ⟨⟨by decide +kernel, by decide +kernel⟩, List.mem_of_getElem? (i := 538) (by decide +kernel), List.mem_of_getElem? (i := 742) (by decide +kernel), List.mem_of_getElem? (i := 743) (by decide +kernel)⟩
theorem lw_p49 : lw_okq (⟨"ArcTapeModel", "take", "(I)V"⟩, 29) := ⟨⟨by decide +kernel, by decide +kernel⟩, List.mem_of_getElem? (i := 538) (by decide +kernel), List.mem_of_getElem? (i := 746) (by decide +kernel), List.mem_of_getElem? (i := 747) (by decide +kernel)⟩
theorem lw_p50 : lw_okq (⟨"ArcTapeModel", "readIntervals", "(II)I"⟩, 29) := ⟨⟨by decide +kernel, by decide +kernel⟩, List.mem_of_getElem? (i := 538) (by decide +kernel), List.mem_of_getElem? (i := 750) (by decide +kernel), List.mem_of_getElem? (i := 751) (by decide +kernel)⟩
theorem lw_p51 : lw_okq (⟨"ArcTapeModel", "nextZeta", "()I"⟩, 29) := ⟨⟨by decide +kernel, by decide +kernel⟩, List.mem_of_getElem? (i := 538) (by decide +kernel), List.mem_of_getElem? (i := 757) (by decide +kernel), List.mem_of_getElem? (i := 758) (by decide +kernel)⟩
theorem lw_p52 : lw_okq (⟨"ArcTapeModel", "count", "()V"⟩, 29) := ⟨⟨by decide +kernel, by decide +kernel⟩, List.mem_of_getElem? (i := 538) (by decide +kernel), List.mem_of_getElem? (i := 773) (by decide +kernel), List.mem_of_getElem? (i := 774) (by decide +kernel)⟩
theorem lw_p53 : lw_okq (⟨"ArcTapeModel", "firstReady", "(I)I"⟩, 29) := ⟨⟨by decide +kernel, by decide +kernel⟩, List.mem_of_getElem? (i := 538) (by decide +kernel), List.mem_of_getElem? (i := 777) (by decide +kernel), List.mem_of_getElem? (i := 778) (by decide +kernel)⟩
theorem lw_p54 : lw_okq (⟨"ArcTapeModel", "together", "(I)I"⟩, 29) := ⟨⟨by decide +kernel, by decide +kernel⟩, List.mem_of_getElem? (i := 538) (by decide +kernel), List.mem_of_getElem? (i := 781) (by decide +kernel), List.mem_of_getElem? (i := 782) (by decide +kernel)⟩
theorem lw_p55 : lw_okq (⟨"ArcTapeModel", "total", "()I"⟩, 29) := ⟨⟨by decide +kernel, by decide +kernel⟩, List.mem_of_getElem? (i := 538) (by decide +kernel), List.mem_of_getElem? (i := 793) (by decide +kernel), List.mem_of_getElem? (i := 794) (by decide +kernel)⟩
theorem lw_p56 : lw_okq (⟨"ArcTapeModel", "stepRank", "()V"⟩, 29) := ⟨⟨by decide +kernel, by decide +kernel⟩, List.mem_of_getElem? (i := 538) (by decide +kernel), List.mem_of_getElem? (i := 802) (by decide +kernel), List.mem_of_getElem? (i := 803) (by decide +kernel)⟩
theorem lw_p57 : lw_okq (⟨"ArcTapeModel", "links", "(II)Z"⟩, 29) := ⟨⟨by decide +kernel, by decide +kernel⟩, List.mem_of_getElem? (i := 538) (by decide +kernel), List.mem_of_getElem? (i := 806) (by decide +kernel), List.mem_of_getElem? (i := 807) (by decide +kernel)⟩
theorem lw_p58 : lw_okq (⟨"ArcTapeModel", "stepHubs", "()V"⟩, 29) := ⟨⟨by decide +kernel, by decide +kernel⟩, List.mem_of_getElem? (i := 538) (by decide +kernel), List.mem_of_getElem? (i := 812) (by decide +kernel), List.mem_of_getElem? (i := 813) (by decide +kernel)⟩
theorem lw_p59 : lw_okq (⟨"ArcTapeModel", "bring", "(Z)V"⟩, 29) := ⟨⟨by decide +kernel, by decide +kernel⟩, List.mem_of_getElem? (i := 538) (by decide +kernel), List.mem_of_getElem? (i := 816) (by decide +kernel), List.mem_of_getElem? (i := 817) (by decide +kernel)⟩
theorem lw_p60 : lw_okq (⟨"ArcTapeModel", "stepShares", "()V"⟩, 29) := ⟨⟨by decide +kernel, by decide +kernel⟩, List.mem_of_getElem? (i := 538) (by decide +kernel), List.mem_of_getElem? (i := 820) (by decide +kernel), List.mem_of_getElem? (i := 821) (by decide +kernel)⟩
theorem lw_p61 : lw_okq (⟨"ArcTapeModel", "into", "(I)I"⟩, 29) := ⟨⟨by decide +kernel, by decide +kernel⟩, List.mem_of_getElem? (i := 538) (by decide +kernel), List.mem_of_getElem? (i := 824) (by decide +kernel), List.mem_of_getElem? (i := 825) (by decide +kernel)⟩
def lw_privs_4 : List (MethodName × Nat) := [(⟨"ArcTapeModel", "copy", "(III)V"⟩, 29), (⟨"ArcTapeModel", "take", "(I)V"⟩, 29), (⟨"ArcTapeModel", "readIntervals", "(II)I"⟩, 29), (⟨"ArcTapeModel", "nextZeta", "()I"⟩, 29), (⟨"ArcTapeModel", "count", "()V"⟩, 29), (⟨"ArcTapeModel", "firstReady", "(I)I"⟩, 29), (⟨"ArcTapeModel", "together", "(I)I"⟩, 29), (⟨"ArcTapeModel", "total", "()I"⟩, 29), (⟨"ArcTapeModel", "stepRank", "()V"⟩, 29), (⟨"ArcTapeModel", "links", "(II)Z"⟩, 29), (⟨"ArcTapeModel", "stepHubs", "()V"⟩, 29), (⟨"ArcTapeModel", "bring", "(Z)V"⟩, 29), (⟨"ArcTapeModel", "stepShares", "()V"⟩, 29), (⟨"ArcTapeModel", "into", "(I)I"⟩, 29)]
theorem lw_r4 : ∀ q ∈ lw_privs_4, lw_okq q := List.forall_mem_cons.mpr ⟨lw_p48, List.forall_mem_cons.mpr ⟨lw_p49, List.forall_mem_cons.mpr ⟨lw_p50, List.forall_mem_cons.mpr ⟨lw_p51, List.forall_mem_cons.mpr ⟨lw_p52, List.forall_mem_cons.mpr ⟨lw_p53, List.forall_mem_cons.mpr ⟨lw_p54, List.forall_mem_cons.mpr ⟨lw_p55, List.forall_mem_cons.mpr ⟨lw_p56, List.forall_mem_cons.mpr ⟨lw_p57, List.forall_mem_cons.mpr ⟨lw_p58, List.forall_mem_cons.mpr ⟨lw_p59, List.forall_mem_cons.mpr ⟨lw_p60, List.forall_mem_cons.mpr ⟨lw_p61, fun _ h => absurd h List.not_mem_nil⟩⟩⟩⟩⟩⟩⟩⟩⟩⟩⟩⟩⟩⟩
def lw_privs : List (MethodName × Nat) := lw_privs_1 ++ (lw_privs_2 ++ (lw_privs_3 ++ (lw_privs_4)))
def lw_tbl : List Cond := k2_sels lw_privs ++ tables_1
theorem lw_privs_ok : ∀ q ∈ lw_privs, lw_okq q := by
  show ∀ q ∈ lw_privs_1 ++ (lw_privs_2 ++ (lw_privs_3 ++ (lw_privs_4))), lw_okq q
  exact List.forall_mem_append.mpr ⟨lw_r1, List.forall_mem_append.mpr ⟨lw_r2, List.forall_mem_append.mpr ⟨lw_r3, lw_r4⟩⟩⟩
-- ===== end of PART A; then your names; then what follows =====
end
section
/- a memory: ints and longs by component and place -/
abbrev me_M : Type := (Nat → Nat → Int32) × (Nat → Nat → Int64)
def me_wi (μ : me_M) (c i : Nat) (x : Int32) : me_M := (fun c' => bif Nat.beq c' c then upd (μ.1 c) i x else μ.1 c', μ.2)
def me_wl (μ : me_M) (c i : Nat) (x : Int64) : me_M := (μ.1, fun c' => bif Nat.beq c' c then vp_updL (μ.2 c) i x else μ.2 c')
def me_cp (μ : me_M) (a c sp dp n : Nat) : me_M := (μ.1, fun c' => bif Nat.beq c' c then va_cpy (μ.2 a) (μ.2 c) sp dp n else μ.2 c')
/- guards: an index in its bounds, no division by zero, a truth value, a copy in its bounds -/
def me_gi {α : Type} (i : Int32) (n : Nat) (k : Option α) : Option α := if i < 0 ∨ n ≤ i.toNatClampNeg then none else k
def me_gd {α β : Type} [DecidableEq β] (y z : β) (k : Option α) : Option α := if y = z then none else k
def me_gz {α : Type} (x : Int32) (k : Option α) : Option α := if x = 0 ∨ x = 1 then k else none
def me_gc {α : Type} (sp dp ln : Int32) (n0 n1 : Nat) (k : Option α) : Option α := if ¬ sp < 0 ∧ ¬ dp < 0 ∧ ¬ ln < 0 ∧ sp.toNatClampNeg + ln.toNatClampNeg ≤ n0 ∧ dp.toNatClampNeg + ln.toNatClampNeg ≤ n1 then k else none
end
section
noncomputable section
def fT_putNumber_49 (N : Nat) (n : Nat) (μ : me_M) : Option me_M :=
  some μ
def fT_putNumber_4b (N : Nat) (n : Nat) (k4 : Int32 → Int32 → me_M → Option me_M) (l1 : Int32) (l3 : Int32) (μ : me_M) : Option me_M :=
  if l3 < 0 then
    fT_putNumber_49 N n μ
  else
    if (800 : Int32) ≤ (μ.1 301 0) then
      fT_putNumber_49 N n μ
    else
      me_gi (μ.1 301 0) 800 <|
      k4 l1 (l3 + (-1 : Int32)) (me_wi (me_wi μ 3 (μ.1 301 0).toNatClampNeg (vp_nar .byte (((l1 >>> (l3 &&& 31)) &&& (1 : Int32)).toInt8.toInt32))) 301 0 (((me_wi μ 3 (μ.1 301 0).toNatClampNeg (vp_nar .byte (((l1 >>> (l3 &&& 31)) &&& (1 : Int32)).toInt8.toInt32))).1 301 0) + (1 : Int32)))
def fT_putNumber_4 (N : Nat) (n : Nat) (F : Nat) : Int32 → Int32 → me_M → Option me_M := Nat.rec (motive := fun _ => Int32 → Int32 → me_M → Option me_M) (fun _ _ _ => none) (fun _ k4 => fT_putNumber_4b N n k4) F
def fT_putNumber (N : Nat) (n : Nat) (l1 : Int32) (l2 : Int32) (μ : me_M) : Option me_M :=
  fT_putNumber_4 N n N l1 (l2 - (1 : Int32)) μ
def fT_putUnary (N : Nat) (n : Nat) (l1 : Int32) (μ : me_M) : Option me_M :=
  (fT_putNumber N n (1 : Int32) (l1 + (1 : Int32)) μ).bind fun r1 =>
  some r1
def fT_exponent_23 (N : Nat) (l1 : Int32) : Option Int32 :=
  some l1
def fT_exponent_2b (N : Nat) (k2 : Int32 → Int32 → Option Int32) (l0 : Int32) (l1 : Int32) : Option Int32 :=
  if (30 : Int32) ≤ l1 then
    fT_exponent_23 N l1
  else
    if l0 < ((1 : Int32) <<< ((l1 + (1 : Int32)) &&& 31)) then
      fT_exponent_23 N l1
    else
      k2 l0 (l1 + (1 : Int32))
def fT_exponent_2 (N : Nat) (F : Nat) : Int32 → Int32 → Option Int32 := Nat.rec (motive := fun _ => Int32 → Int32 → Option Int32) (fun _ _ => none) (fun _ k2 => fT_exponent_2b N k2) F
def fT_exponent (N : Nat) (l0 : Int32) : Option Int32 :=
  fT_exponent_2 N N l0 (0 : Int32)
def fT_putGamma (N : Nat) (n : Nat) (l1 : Int32) (μ : me_M) : Option me_M :=
  (fT_exponent N (l1 + (1 : Int32))).bind fun r1 =>
  (fT_putNumber N n (l1 + (1 : Int32)) (((2 : Int32) * r1) + (1 : Int32)) μ).bind fun r2 =>
  some r2
def fT_putZeta_66 (N : Nat) (n : Nat) (μ : me_M) : Option me_M :=
  some μ
def fT_putZeta (N : Nat) (n : Nat) (l1 : Int32) (l2 : Int32) (μ : me_M) : Option me_M :=
  (fT_exponent N (l1 + (1 : Int32))).bind fun r1 =>
  me_gd l2 0 <|
  (fT_putNumber N n (1 : Int32) ((r1 / l2) + (1 : Int32)) μ).bind fun r3 =>
  if ((2 : Int32) * ((1 : Int32) <<< (((r1 / l2) * l2) &&& 31))) ≤ (l1 + (1 : Int32)) then
    (fT_putNumber N n (l1 + (1 : Int32)) (((r1 / l2) * l2) + l2) r3).bind fun r5 =>
    fT_putZeta_66 N n r5
  else
    (fT_putNumber N n ((l1 + (1 : Int32)) - ((1 : Int32) <<< (((r1 / l2) * l2) &&& 31))) ((((r1 / l2) * l2) + l2) - (1 : Int32)) r3).bind fun r6 =>
    fT_putZeta_66 N n r6
def fT_withoutSign_16 (N : Nat) (s0 : Int32) : Option Int32 :=
  some s0
def fT_withoutSign (N : Nat) (l0 : Int32) : Option Int32 :=
  if l0 < 0 then
    fT_withoutSign_16 N (((-2 : Int32) * l0) - (1 : Int32))
  else
    fT_withoutSign_16 N ((2 : Int32) * l0)
def fT_withSign_18 (N : Nat) (s0 : Int32) : Option Int32 :=
  some s0
def fT_withSign (N : Nat) (l0 : Int32) : Option Int32 :=
  if (l0 - l0 / (2 : Int32) * (2 : Int32)) = 0 then
    fT_withSign_18 N (l0 / (2 : Int32))
  else
    fT_withSign_18 N ((-(l0 + (1 : Int32))) / (2 : Int32))
def fK_mayBeReferredTo_30 (N : Nat) (n : Nat) (μ : me_M) (s0 : Int32) : Option Int32 :=
  me_gz s0 <|
  some s0
def fK_mayBeReferredTo_29 (N : Nat) (n : Nat) (μ : me_M) : Option Int32 :=
  fK_mayBeReferredTo_30 N n μ (0 : Int32)
def fK_mayBeReferredTo (N : Nat) (n : Nat) (μ : me_M) (l1 : Int32) : Option Int32 :=
  me_gi l1 n <|
  if (μ.1 1 l1.toNatClampNeg) = 0 then
    fK_mayBeReferredTo_29 N n μ
  else
    me_gi l1 n <|
    if (μ.1 501 0) ≤ (μ.1 10 l1.toNatClampNeg) then
      fK_mayBeReferredTo_29 N n μ
    else
      fK_mayBeReferredTo_30 N n μ (1 : Int32)
def fJ_bitCount_48 (N : Nat) (l0 : Int32) : Option Int32 :=
  some (l0 &&& (63 : Int32))
def fJ_bitCount_41 (N : Nat) (l0 : Int32) : Option Int32 :=
  fJ_bitCount_48 N (l0 + ((l0.toUInt32 >>> ((16 : Int32).toUInt32 &&& Int32.toUInt32 31)).toInt32))
def fJ_bitCount_34 (N : Nat) (l0 : Int32) : Option Int32 :=
  fJ_bitCount_41 N (l0 + ((l0.toUInt32 >>> ((8 : Int32).toUInt32 &&& Int32.toUInt32 31)).toInt32))
def fJ_bitCount_24 (N : Nat) (l0 : Int32) : Option Int32 :=
  fJ_bitCount_34 N ((l0 + ((l0.toUInt32 >>> ((4 : Int32).toUInt32 &&& Int32.toUInt32 31)).toInt32)) &&& (252645135 : Int32))
def fJ_bitCount_10 (N : Nat) (l0 : Int32) : Option Int32 :=
  fJ_bitCount_24 N ((l0 &&& (858993459 : Int32)) + (((l0.toUInt32 >>> ((2 : Int32).toUInt32 &&& Int32.toUInt32 31)).toInt32) &&& (858993459 : Int32)))
def fJ_bitCount (N : Nat) (l0 : Int32) : Option Int32 :=
  fJ_bitCount_10 N (l0 - (((l0.toUInt32 >>> ((1 : Int32).toUInt32 &&& Int32.toUInt32 31)).toInt32) &&& (1431655765 : Int32)))
def fA_holds_13 (N : Nat) (s0 : Int32) : Option Int32 :=
  me_gz s0 <|
  some s0
def fA_holds (N : Nat) (l0 : Int32) (l1 : Int32) : Option Int32 :=
  if ((l0 >>> (l1 &&& 31)) &&& (1 : Int32)) = 0 then
    fA_holds_13 N (0 : Int32)
  else
    fA_holds_13 N (1 : Int32)
def fK_writeRuns_137 (N : Nat) (n : Nat) (μ : me_M) : Option me_M :=
  some μ
def fK_writeRuns_128 (N : Nat) (n : Nat) (k94 : Int32 → Int32 → me_M → Option me_M) (l3 : Int32) (l5 : Int32) (s1 : Int32) (μ : me_M) : Option me_M :=
  (fT_putGamma N n s1 μ).bind fun r1 =>
  k94 l3 (l5 + (1 : Int32)) r1
def fK_writeRuns_94b (N : Nat) (n : Nat) (k94 : Int32 → Int32 → me_M → Option me_M) (l3 : Int32) (l5 : Int32) (μ : me_M) : Option me_M :=
  if l3 ≤ l5 then
    fK_writeRuns_137 N n μ
  else
    if l5 = 0 then
      me_gi l5 13 <|
      fK_writeRuns_128 N n k94 l3 l5 (μ.1 7 l5.toNatClampNeg) μ
    else
      me_gi l5 13 <|
      fK_writeRuns_128 N n k94 l3 l5 ((μ.1 7 l5.toNatClampNeg) - (1 : Int32)) μ
def fK_writeRuns_94 (N : Nat) (n : Nat) (F : Nat) : Int32 → Int32 → me_M → Option me_M := Nat.rec (motive := fun _ => Int32 → Int32 → me_M → Option me_M) (fun _ _ _ => none) (fun _ k94 => fK_writeRuns_94b N n k94) F
def fK_writeRuns_83 (N : Nat) (n : Nat) (l3 : Int32) (μ : me_M) : Option me_M :=
  (fT_putGamma N n l3 μ).bind fun r6 =>
  fK_writeRuns_94 N n N l3 (0 : Int32) r6
def fK_writeRuns_77 (N : Nat) (n : Nat) (k15 : Int32 → Int32 → Int32 → Int32 → Int32 → me_M → Option me_M) (l1 : Int32) (l2 : Int32) (l3 : Int32) (l4 : Int32) (l5 : Int32) (μ : me_M) : Option me_M :=
  k15 l1 l2 l3 l4 (l5 + (1 : Int32)) μ
def fK_writeRuns_67 (N : Nat) (n : Nat) (k15 : Int32 → Int32 → Int32 → Int32 → Int32 → me_M → Option me_M) (l1 : Int32) (l2 : Int32) (l3 : Int32) (l4 : Int32) (l5 : Int32) (μ : me_M) : Option me_M :=
  me_gi l3 13 <|
  me_gi l3 13 <|
  fK_writeRuns_77 N n k15 l1 l2 l3 l4 l5 (me_wi μ 7 l3.toNatClampNeg ((μ.1 7 l3.toNatClampNeg) + (1 : Int32)))
def fK_writeRuns_55 (N : Nat) (n : Nat) (k15 : Int32 → Int32 → Int32 → Int32 → Int32 → me_M → Option me_M) (l1 : Int32) (l2 : Int32) (l3 : Int32) (l5 : Int32) (s0 : Int32) (μ : me_M) : Option me_M :=
  me_gi (l3 + (1 : Int32)) 13 <|
  fK_writeRuns_67 N n k15 l1 l2 (l3 + (1 : Int32)) s0 l5 (me_wi μ 7 (l3 + (1 : Int32)).toNatClampNeg (0 : Int32))
def fK_writeRuns_15b (N : Nat) (n : Nat) (k15 : Int32 → Int32 → Int32 → Int32 → Int32 → me_M → Option me_M) (l1 : Int32) (l2 : Int32) (l3 : Int32) (l4 : Int32) (l5 : Int32) (μ : me_M) : Option me_M :=
  if (nI n) ≤ l5 then
    fK_writeRuns_83 N n l3 μ
  else
    (fA_holds N l2 l5).bind fun r11 =>
    if r11 = 0 then
      fK_writeRuns_77 N n k15 l1 l2 l3 l4 l5 μ
    else
      (fA_holds N l1 l5).bind fun r13 =>
      if r13 = l4 then
        fK_writeRuns_67 N n k15 l1 l2 l3 l4 l5 μ
      else
        if l4 = 0 then
          fK_writeRuns_55 N n k15 l1 l2 l3 l5 (1 : Int32) μ
        else
          fK_writeRuns_55 N n k15 l1 l2 l3 l5 (0 : Int32) μ
def fK_writeRuns_15 (N : Nat) (n : Nat) (F : Nat) : Int32 → Int32 → Int32 → Int32 → Int32 → me_M → Option me_M := Nat.rec (motive := fun _ => Int32 → Int32 → Int32 → Int32 → Int32 → me_M → Option me_M) (fun _ _ _ _ _ _ => none) (fun _ k15 => fK_writeRuns_15b N n k15) F
def fK_writeRuns (N : Nat) (n : Nat) (l1 : Int32) (l2 : Int32) (μ : me_M) : Option me_M :=
  me_gi (0 : Int32) 13 <|
  fK_writeRuns_15 N n N l1 l2 (0 : Int32) (1 : Int32) (0 : Int32) (me_wi μ 7 (0 : Int32).toNatClampNeg (0 : Int32))
def fK_rowLength_29 (N : Nat) (n : Nat) (μ : me_M) (l3 : Int32) : Option Int32 :=
  some l3
def fK_rowLength_2b (N : Nat) (n : Nat) (μ : me_M) (k2 : Int32 → Int32 → Int32 → Option Int32) (l1 : Int32) (l2 : Int32) (l3 : Int32) : Option Int32 :=
  if (nI n) ≤ (l2 + l3) then
    fK_rowLength_29 N n μ l3
  else
    (fA_holds N l1 (l2 + l3)).bind fun r2 =>
    if r2 = 0 then
      fK_rowLength_29 N n μ l3
    else
      k2 l1 l2 (l3 + (1 : Int32))
def fK_rowLength_2 (N : Nat) (n : Nat) (μ : me_M) (F : Nat) : Int32 → Int32 → Int32 → Option Int32 := Nat.rec (motive := fun _ => Int32 → Int32 → Int32 → Option Int32) (fun _ _ _ => none) (fun _ k2 => fK_rowLength_2b N n μ k2) F
def fK_rowLength (N : Nat) (n : Nat) (μ : me_M) (l1 : Int32) (l2 : Int32) : Option Int32 :=
  fK_rowLength_2 N n μ N l1 l2 (0 : Int32)
def fK_writeIntervals_197 (N : Nat) (n : Nat) (l4 : Int32) (μ : me_M) : Option (Int32 × me_M) :=
  some (l4, μ)
def fK_writeIntervals_147 (N : Nat) (n : Nat) (k105 : Int32 → Int32 → Int32 → Int32 → Int32 → me_M → Option (Int32 × me_M)) (l1 : Int32) (l3 : Int32) (l4 : Int32) (l6 : Int32) (s1 : Int32) (μ : me_M) : Option (Int32 × me_M) :=
  (fT_putGamma N n s1 μ).bind fun r1 =>
  me_gi l6 12 <|
  (fT_putGamma N n ((r1.1 9 l6.toNatClampNeg) - (r1.1 502 0)) r1).bind fun r3 =>
  me_gi l6 12 <|
  me_gi l6 12 <|
  k105 l1 l3 l4 (((r3.1 8 l6.toNatClampNeg) + (r3.1 9 l6.toNatClampNeg)) - (1 : Int32)) (l6 + (1 : Int32)) r3
def fK_writeIntervals_105b (N : Nat) (n : Nat) (k105 : Int32 → Int32 → Int32 → Int32 → Int32 → me_M → Option (Int32 × me_M)) (l1 : Int32) (l3 : Int32) (l4 : Int32) (l5 : Int32) (l6 : Int32) (μ : me_M) : Option (Int32 × me_M) :=
  if l3 ≤ l6 then
    fK_writeIntervals_197 N n l4 μ
  else
    if l6 = 0 then
      me_gi l6 12 <|
      (fT_withoutSign N ((μ.1 8 l6.toNatClampNeg) - l1)).bind fun r10 =>
      fK_writeIntervals_147 N n k105 l1 l3 l4 l6 r10 μ
    else
      me_gi l6 12 <|
      fK_writeIntervals_147 N n k105 l1 l3 l4 l6 (((μ.1 8 l6.toNatClampNeg) - l5) - (2 : Int32)) μ
def fK_writeIntervals_105 (N : Nat) (n : Nat) (F : Nat) : Int32 → Int32 → Int32 → Int32 → Int32 → me_M → Option (Int32 × me_M) := Nat.rec (motive := fun _ => Int32 → Int32 → Int32 → Int32 → Int32 → me_M → Option (Int32 × me_M)) (fun _ _ _ _ _ _ => none) (fun _ k105 => fK_writeIntervals_105b N n k105) F
def fK_writeIntervals_91 (N : Nat) (n : Nat) (l1 : Int32) (l3 : Int32) (l4 : Int32) (μ : me_M) : Option (Int32 × me_M) :=
  (fT_putGamma N n l3 μ).bind fun r11 =>
  fK_writeIntervals_105 N n N l1 l3 l4 (0 : Int32) (0 : Int32) r11
def fK_writeIntervals_74 (N : Nat) (n : Nat) (k8 : Int32 → Int32 → Int32 → Int32 → Int32 → me_M → Option (Int32 × me_M)) (l1 : Int32) (l2 : Int32) (l3 : Int32) (l4 : Int32) (l5 : Int32) (μ : me_M) : Option (Int32 × me_M) :=
  (fK_rowLength N n μ l2 l5).bind fun r12 =>
  k8 l1 l2 l3 l4 (l5 + (r12 + (1 : Int32))) μ
def fK_writeIntervals_8b (N : Nat) (n : Nat) (k8 : Int32 → Int32 → Int32 → Int32 → Int32 → me_M → Option (Int32 × me_M)) (l1 : Int32) (l2 : Int32) (l3 : Int32) (l4 : Int32) (l5 : Int32) (μ : me_M) : Option (Int32 × me_M) :=
  if (nI n) ≤ l5 then
    fK_writeIntervals_91 N n l1 l3 l4 μ
  else
    (fK_rowLength N n μ l2 l5).bind fun r14 =>
    if r14 < (μ.1 502 0) then
      fK_writeIntervals_74 N n k8 l1 l2 l3 l4 l5 μ
    else
      me_gi l3 12 <|
      me_gi l3 12 <|
      fK_writeIntervals_74 N n k8 l1 l2 (l3 + (1 : Int32)) (l4 &&& (((((1 : Int32) <<< (r14 &&& 31)) - (1 : Int32)) <<< (l5 &&& 31)) ^^^ (-1 : Int32))) l5 (me_wi (me_wi μ 8 l3.toNatClampNeg l5) 9 l3.toNatClampNeg r14)
def fK_writeIntervals_8 (N : Nat) (n : Nat) (F : Nat) : Int32 → Int32 → Int32 → Int32 → Int32 → me_M → Option (Int32 × me_M) := Nat.rec (motive := fun _ => Int32 → Int32 → Int32 → Int32 → Int32 → me_M → Option (Int32 × me_M)) (fun _ _ _ _ _ _ => none) (fun _ k8 => fK_writeIntervals_8b N n k8) F
def fK_writeIntervals (N : Nat) (n : Nat) (l1 : Int32) (l2 : Int32) (μ : me_M) : Option (Int32 × me_M) :=
  fK_writeIntervals_8 N n N l1 l2 (0 : Int32) l2 (0 : Int32) μ
def fK_writeSingles_67 (N : Nat) (n : Nat) (μ : me_M) : Option me_M :=
  some μ
def fK_writeSingles_61 (N : Nat) (n : Nat) (k5 : Int32 → Int32 → Int32 → Int32 → me_M → Option me_M) (l1 : Int32) (l2 : Int32) (l3 : Int32) (l4 : Int32) (μ : me_M) : Option me_M :=
  k5 l1 l2 l3 (l4 + (1 : Int32)) μ
def fK_writeSingles_48 (N : Nat) (n : Nat) (k5 : Int32 → Int32 → Int32 → Int32 → me_M → Option me_M) (l1 : Int32) (l2 : Int32) (l4 : Int32) (s1 : Int32) (μ : me_M) : Option me_M :=
  (fT_putZeta N n s1 (μ.1 503 0) μ).bind fun r1 =>
  fK_writeSingles_61 N n k5 l1 l2 l4 l4 r1
def fK_writeSingles_5b (N : Nat) (n : Nat) (k5 : Int32 → Int32 → Int32 → Int32 → me_M → Option me_M) (l1 : Int32) (l2 : Int32) (l3 : Int32) (l4 : Int32) (μ : me_M) : Option me_M :=
  if (nI n) ≤ l4 then
    fK_writeSingles_67 N n μ
  else
    (fA_holds N l2 l4).bind fun r3 =>
    if r3 = 0 then
      fK_writeSingles_61 N n k5 l1 l2 l3 l4 μ
    else
      if 0 ≤ l3 then
        fK_writeSingles_48 N n k5 l1 l2 l4 ((l4 - l3) - (1 : Int32)) μ
      else
        (fT_withoutSign N (l4 - l1)).bind fun r6 =>
        fK_writeSingles_48 N n k5 l1 l2 l4 r6 μ
def fK_writeSingles_5 (N : Nat) (n : Nat) (F : Nat) : Int32 → Int32 → Int32 → Int32 → me_M → Option me_M := Nat.rec (motive := fun _ => Int32 → Int32 → Int32 → Int32 → me_M → Option me_M) (fun _ _ _ _ _ => none) (fun _ k5 => fK_writeSingles_5b N n k5) F
def fK_writeSingles (N : Nat) (n : Nat) (l1 : Int32) (l2 : Int32) (μ : me_M) : Option me_M :=
  fK_writeSingles_5 N n N l1 l2 (-1 : Int32) (0 : Int32) μ
def fK_writeRecord_91 (N : Nat) (n : Nat) (l1 : Int32) (l3 : Int32) (μ : me_M) : Option me_M :=
  (fK_writeSingles N n l1 l3 μ).bind fun r1 =>
  some r1
def fK_writeRecord_70 (N : Nat) (n : Nat) (l1 : Int32) (l3 : Int32) (μ : me_M) : Option me_M :=
  if l3 = 0 then
    fK_writeRecord_91 N n l1 l3 μ
  else
    if (μ.1 502 0) ≤ 0 then
      fK_writeRecord_91 N n l1 l3 μ
    else
      (fK_writeIntervals N n l1 l3 μ).bind fun r4 =>
      fK_writeRecord_91 N n l1 r4.1 r4.2
def fK_writeRecord_40 (N : Nat) (n : Nat) (l1 : Int32) (l2 : Int32) (l3 : Int32) (μ : me_M) : Option me_M :=
  if l2 ≤ 0 then
    fK_writeRecord_70 N n l1 l3 μ
  else
    me_gi (l1 - l2) n <|
    (fK_writeRuns N n l3 (μ.1 1 (l1 - l2).toNatClampNeg) μ).bind fun r7 =>
    me_gi (l1 - l2) n <|
    fK_writeRecord_70 N n l1 (l3 &&& ((r7.1 1 (l1 - l2).toNatClampNeg) ^^^ (-1 : Int32))) r7
def fK_writeRecord (N : Nat) (n : Nat) (l1 : Int32) (l2 : Int32) (μ : me_M) : Option me_M :=
  me_gi l1 n <|
  (fJ_bitCount N (μ.1 1 l1.toNatClampNeg)).bind fun r10 =>
  (fT_putGamma N n r10 μ).bind fun r11 =>
  if (μ.1 1 l1.toNatClampNeg) = 0 then
    fK_writeRecord_40 N n l1 l2 (μ.1 1 l1.toNatClampNeg) r11
  else
    if (r11.1 500 0) ≤ 0 then
      fK_writeRecord_40 N n l1 l2 (μ.1 1 l1.toNatClampNeg) r11
    else
      (fT_putUnary N n l2 r11).bind fun r14 =>
      fK_writeRecord_40 N n l1 l2 (μ.1 1 l1.toNatClampNeg) r14
def fK_bestReference_116 (N : Nat) (n : Nat) (l3 : Int32) (μ : me_M) : Option (Int32 × me_M) :=
  some (l3, μ)
def fK_bestReference_110 (N : Nat) (n : Nat) (k44 : Int32 → Int32 → Int32 → Int32 → Int32 → Int32 → me_M → Option (Int32 × me_M)) (l1 : Int32) (l2 : Int32) (l3 : Int32) (l4 : Int32) (l5 : Int32) (l6 : Int32) (μ : me_M) : Option (Int32 × me_M) :=
  k44 l1 l2 l3 l4 l5 (l6 + (1 : Int32)) μ
def fK_bestReference_102 (N : Nat) (n : Nat) (k44 : Int32 → Int32 → Int32 → Int32 → Int32 → Int32 → me_M → Option (Int32 × me_M)) (l1 : Int32) (l2 : Int32) (l3 : Int32) (l4 : Int32) (l5 : Int32) (l6 : Int32) (μ : me_M) : Option (Int32 × me_M) :=
  fK_bestReference_110 N n k44 l1 l2 l3 l4 l5 l6 (me_wi μ 301 0 l2)
def fK_bestReference_67 (N : Nat) (n : Nat) (k44 : Int32 → Int32 → Int32 → Int32 → Int32 → Int32 → me_M → Option (Int32 × me_M)) (l1 : Int32) (l2 : Int32) (l3 : Int32) (l4 : Int32) (l5 : Int32) (l6 : Int32) (μ : me_M) : Option (Int32 × me_M) :=
  (fK_writeRecord N n l1 l6 μ).bind fun r1 =>
  if l4 ≤ ((r1.1 301 0) - l2) then
    fK_bestReference_102 N n k44 l1 l2 l3 l4 l5 l6 r1
  else
    fK_bestReference_102 N n k44 l1 l2 l6 ((r1.1 301 0) - l2) l5 l6 r1
def fK_bestReference_44b (N : Nat) (n : Nat) (k44 : Int32 → Int32 → Int32 → Int32 → Int32 → Int32 → me_M → Option (Int32 × me_M)) (l1 : Int32) (l2 : Int32) (l3 : Int32) (l4 : Int32) (l5 : Int32) (l6 : Int32) (μ : me_M) : Option (Int32 × me_M) :=
  if l5 < l6 then
    fK_bestReference_116 N n l3 μ
  else
    if l6 = 0 then
      fK_bestReference_67 N n k44 l1 l2 l3 l4 l5 l6 μ
    else
      (fK_mayBeReferredTo N n μ (l1 - l6)).bind fun r5 =>
      if r5 = 0 then
        fK_bestReference_110 N n k44 l1 l2 l3 l4 l5 l6 μ
      else
        fK_bestReference_67 N n k44 l1 l2 l3 l4 l5 l6 μ
def fK_bestReference_44 (N : Nat) (n : Nat) (F : Nat) : Int32 → Int32 → Int32 → Int32 → Int32 → Int32 → me_M → Option (Int32 × me_M) := Nat.rec (motive := fun _ => Int32 → Int32 → Int32 → Int32 → Int32 → Int32 → me_M → Option (Int32 × me_M)) (fun _ _ _ _ _ _ _ => none) (fun _ k44 => fK_bestReference_44b N n k44) F
def fK_bestReference_39 (N : Nat) (n : Nat) (l1 : Int32) (l2 : Int32) (l3 : Int32) (l4 : Int32) (s0 : Int32) (μ : me_M) : Option (Int32 × me_M) :=
  fK_bestReference_44 N n N l1 l2 l3 l4 s0 (0 : Int32) μ
def fK_bestReference (N : Nat) (n : Nat) (l1 : Int32) (μ : me_M) : Option (Int32 × me_M) :=
  me_gi l1 n <|
  if (μ.1 1 l1.toNatClampNeg) = 0 then
    fK_bestReference_39 N n l1 (μ.1 301 0) (0 : Int32) (800 : Int32) (0 : Int32) μ
  else
    fK_bestReference_39 N n l1 (μ.1 301 0) (0 : Int32) (800 : Int32) (if l1 < (μ.1 500 0) then l1 else (μ.1 500 0)) μ
def fK_writeAll_77 (N : Nat) (n : Nat) (μ : me_M) : Option me_M :=
  me_gi (nI n) (n + 1) <|
  some (me_wi μ 5 (nI n).toNatClampNeg (μ.1 301 0))
def fK_writeAll_70 (N : Nat) (n : Nat) (k10 : Int32 → me_M → Option me_M) (l1 : Int32) (s1 : Int32) (s2 : Int32) (μ : me_M) : Option me_M :=
  me_gi s1 n <|
  k10 (l1 + (1 : Int32)) (me_wi μ 10 s1.toNatClampNeg s2)
def fK_writeAll_10b (N : Nat) (n : Nat) (k10 : Int32 → me_M → Option me_M) (l1 : Int32) (μ : me_M) : Option me_M :=
  if (nI n) ≤ l1 then
    fK_writeAll_77 N n μ
  else
    me_gi l1 (n + 1) <|
    (fK_bestReference N n l1 (me_wi μ 5 l1.toNatClampNeg (μ.1 301 0))).bind fun r5 =>
    (fK_writeRecord N n l1 r5.1 r5.2).bind fun r6 =>
    if r5.1 = 0 then
      fK_writeAll_70 N n k10 l1 l1 (0 : Int32) r6
    else
      me_gi (l1 - r5.1) n <|
      fK_writeAll_70 N n k10 l1 l1 ((r6.1 10 (l1 - r5.1).toNatClampNeg) + (1 : Int32)) r6
def fK_writeAll_10 (N : Nat) (n : Nat) (F : Nat) : Int32 → me_M → Option me_M := Nat.rec (motive := fun _ => Int32 → me_M → Option me_M) (fun _ _ => none) (fun _ k10 => fK_writeAll_10b N n k10) F
def fK_writeAll (N : Nat) (n : Nat) (μ : me_M) : Option me_M :=
  fK_writeAll_10 N n N (0 : Int32) (me_wi μ 301 0 (0 : Int32))
def fD_nextBit_26 (N : Nat) (n : Nat) (μ : me_M) : Option (Int32 × me_M) :=
  if (μ.1 1209 0) = 0 then
    me_gi (((me_wi μ 1208 0 ((μ.1 1208 0) + (1 : Int32))).1 1208 0) - (1 : Int32)) 800 <|
    some ((me_wi μ 1208 0 ((μ.1 1208 0) + (1 : Int32))).1 3 (((me_wi μ 1208 0 ((μ.1 1208 0) + (1 : Int32))).1 1208 0) - (1 : Int32)).toNatClampNeg, me_wi μ 1208 0 ((μ.1 1208 0) + (1 : Int32)))
  else
    some ((1 : Int32), μ)
def fD_nextBit (N : Nat) (n : Nat) (μ : me_M) : Option (Int32 × me_M) :=
  if (μ.1 1209 0) = 0 then
    if (μ.1 1208 0) < (μ.1 301 0) then
      fD_nextBit_26 N n μ
    else
      fD_nextBit_26 N n (me_wi μ 1209 0 (1 : Int32))
  else
    fD_nextBit_26 N n μ
def fD_failIf_16 (N : Nat) (n : Nat) (μ : me_M) : Option me_M :=
  some μ
def fD_failIf (N : Nat) (n : Nat) (l1 : Int32) (l2 : Int32) (μ : me_M) : Option me_M :=
  if l1 = 0 then
    fD_failIf_16 N n μ
  else
    if (μ.1 1209 0) = 0 then
      fD_failIf_16 N n (me_wi μ 1209 0 l2)
    else
      fD_failIf_16 N n μ
def fD_nextUnary_24 (N : Nat) (n : Nat) (μ : me_M) : Option (Int32 × me_M) :=
  (fD_failIf N n (1 : Int32) (2 : Int32) μ).bind fun r1 =>
  some ((0 : Int32), r1)
def fD_nextUnary_2b (N : Nat) (n : Nat) (k2 : Int32 → me_M → Option (Int32 × me_M)) (l1 : Int32) (μ : me_M) : Option (Int32 × me_M) :=
  if (7 : Int32) ≤ l1 then
    fD_nextUnary_24 N n μ
  else
    (fD_nextBit N n μ).bind fun r3 =>
    if r3.1 = (1 : Int32) then
      some (l1, r3.2)
    else
      k2 (l1 + (1 : Int32)) r3.2
def fD_nextUnary_2 (N : Nat) (n : Nat) (F : Nat) : Int32 → me_M → Option (Int32 × me_M) := Nat.rec (motive := fun _ => Int32 → me_M → Option (Int32 × me_M)) (fun _ _ => none) (fun _ k2 => fD_nextUnary_2b N n k2) F
def fD_nextUnary (N : Nat) (n : Nat) (μ : me_M) : Option (Int32 × me_M) :=
  fD_nextUnary_2 N n N (0 : Int32) μ
def fD_nextNumber_26 (N : Nat) (n : Nat) (l3 : Int32) (μ : me_M) : Option (Int32 × me_M) :=
  some (l3, μ)
def fD_nextNumber_5b (N : Nat) (n : Nat) (k5 : Int32 → Int32 → Int32 → me_M → Option (Int32 × me_M)) (l2 : Int32) (l3 : Int32) (l4 : Int32) (μ : me_M) : Option (Int32 × me_M) :=
  if l2 ≤ l4 then
    fD_nextNumber_26 N n l3 μ
  else
    (fD_nextBit N n μ).bind fun r2 =>
    k5 l2 (((2 : Int32) * l3) + r2.1) (l4 + (1 : Int32)) r2.2
def fD_nextNumber_5 (N : Nat) (n : Nat) (F : Nat) : Int32 → Int32 → Int32 → me_M → Option (Int32 × me_M) := Nat.rec (motive := fun _ => Int32 → Int32 → Int32 → me_M → Option (Int32 × me_M)) (fun _ _ _ _ => none) (fun _ k5 => fD_nextNumber_5b N n k5) F
def fD_nextNumber (N : Nat) (n : Nat) (l1 : Int32) (l2 : Int32) (μ : me_M) : Option (Int32 × me_M) :=
  fD_nextNumber_5 N n N l2 l1 (0 : Int32) μ
def fD_nextGamma (N : Nat) (n : Nat) (μ : me_M) : Option (Int32 × me_M) :=
  (fD_nextUnary N n μ).bind fun r1 =>
  (fD_nextNumber N n (1 : Int32) r1.1 r1.2).bind fun r2 =>
  some (r2.1 - (1 : Int32), r2.2)
def fD_goesOn_19 (N : Nat) (n : Nat) (μ : me_M) (s0 : Int32) : Option Int32 :=
  me_gz s0 <|
  some s0
def fD_goesOn_18 (N : Nat) (n : Nat) (μ : me_M) : Option Int32 :=
  fD_goesOn_19 N n μ (0 : Int32)
def fD_goesOn (N : Nat) (n : Nat) (μ : me_M) : Option Int32 :=
  if (μ.1 1209 0) = 0 then
    if (μ.1 1212 0) ≤ 0 then
      fD_goesOn_18 N n μ
    else
      fD_goesOn_19 N n μ (1 : Int32)
  else
    fD_goesOn_18 N n μ
def fD_readReference_102 (N : Nat) (n : Nat) (μ : me_M) : Option me_M :=
  some μ
def fD_readReference_98 (N : Nat) (n : Nat) (s1 : Int32) (μ : me_M) : Option me_M :=
  (fD_failIf N n s1 (5 : Int32) μ).bind fun r1 =>
  fD_readReference_102 N n r1
def fD_readReference_93 (N : Nat) (n : Nat) (μ : me_M) : Option me_M :=
  fD_readReference_98 N n (1 : Int32) μ
def fD_readReference_39 (N : Nat) (n : Nat) (s1 : Int32) (μ : me_M) : Option me_M :=
  (fD_failIf N n s1 (4 : Int32) μ).bind fun r2 =>
  if (r2.1 1209 0) = 0 then
    if (r2.1 1210 0) ≤ 0 then
      fD_readReference_102 N n r2
    else
      me_gi ((r2.1 1207 0) - (r2.1 1210 0)) n <|
      if (r2.1 13 ((r2.1 1207 0) - (r2.1 1210 0)).toNatClampNeg) = 0 then
        me_gi ((r2.1 1207 0) - (r2.1 1210 0)) n <|
        if (r2.1 15 ((r2.1 1207 0) - (r2.1 1210 0)).toNatClampNeg) < (r2.1 501 0) then
          fD_readReference_98 N n (0 : Int32) r2
        else
          fD_readReference_93 N n r2
      else
        fD_readReference_93 N n r2
  else
    fD_readReference_102 N n r2
def fD_readReference_34 (N : Nat) (n : Nat) (μ : me_M) : Option me_M :=
  fD_readReference_39 N n (1 : Int32) μ
def fD_readReference (N : Nat) (n : Nat) (μ : me_M) : Option me_M :=
  (fD_nextUnary N n μ).bind fun r9 =>
  if ((me_wi r9.2 1210 0 r9.1).1 500 0) < ((me_wi r9.2 1210 0 r9.1).1 1210 0) then
    fD_readReference_34 N n (me_wi r9.2 1210 0 r9.1)
  else
    if ((me_wi r9.2 1210 0 r9.1).1 1210 0) ≤ ((me_wi r9.2 1210 0 r9.1).1 1207 0) then
      fD_readReference_39 N n (0 : Int32) (me_wi r9.2 1210 0 r9.1)
    else
      fD_readReference_34 N n (me_wi r9.2 1210 0 r9.1)
def fD_lowest_25 (N : Nat) (l0 : Int32) (l2 : Int32) : Option Int32 :=
  some (l0 &&& (l2 ^^^ (-1 : Int32)))
def fD_lowest_4b (N : Nat) (k4 : Int32 → Int32 → Int32 → Int32 → Option Int32) (l0 : Int32) (l1 : Int32) (l2 : Int32) (l3 : Int32) : Option Int32 :=
  if l1 ≤ l3 then
    fD_lowest_25 N l0 l2
  else
    if l2 = 0 then
      fD_lowest_25 N l0 l2
    else
      k4 l0 l1 (l2 &&& (l2 - (1 : Int32))) (l3 + (1 : Int32))
def fD_lowest_4 (N : Nat) (F : Nat) : Int32 → Int32 → Int32 → Int32 → Option Int32 := Nat.rec (motive := fun _ => Int32 → Int32 → Int32 → Int32 → Option Int32) (fun _ _ _ _ => none) (fun _ k4 => fD_lowest_4b N k4) F
def fD_lowest (N : Nat) (l0 : Int32) (l1 : Int32) : Option Int32 :=
  fD_lowest_4 N N l0 l1 l0 (0 : Int32)
def fD_take_22 (N : Nat) (n : Nat) (l1 : Int32) (s1 : Int32) (μ : me_M) : Option me_M :=
  me_gz s1 <|
  (fJ_bitCount N l1).bind fun r2 =>
  some (me_wi (me_wi (me_wi μ 1213 0 s1) 1211 0 (((me_wi μ 1213 0 s1).1 1211 0) ||| l1)) 1212 0 (((me_wi (me_wi μ 1213 0 s1) 1211 0 (((me_wi μ 1213 0 s1).1 1211 0) ||| l1)).1 1212 0) - r2))
def fD_take_17 (N : Nat) (n : Nat) (l1 : Int32) (μ : me_M) : Option me_M :=
  fD_take_22 N n l1 (1 : Int32) μ
def fD_take (N : Nat) (n : Nat) (l1 : Int32) (μ : me_M) : Option me_M :=
  if (μ.1 1213 0) = 0 then
    if ((μ.1 1211 0) &&& l1) = 0 then
      fD_take_22 N n l1 (0 : Int32) μ
    else
      fD_take_17 N n l1 μ
  else
    fD_take_17 N n l1 μ
def fD_readRuns_128 (N : Nat) (n : Nat) (l2 : Int32) (s1 : Int32) (μ : me_M) : Option me_M :=
  (fD_failIf N n s1 (6 : Int32) μ).bind fun r1 =>
  (fD_take N n l2 r1).bind fun r2 =>
  some r2
def fD_readRuns_111 (N : Nat) (n : Nat) (l2 : Int32) (μ : me_M) : Option me_M :=
  (fJ_bitCount N l2).bind fun r3 =>
  if r3 ≤ (μ.1 1212 0) then
    fD_readRuns_128 N n l2 (0 : Int32) μ
  else
    fD_readRuns_128 N n l2 (1 : Int32) μ
def fD_readRuns_100 (N : Nat) (n : Nat) (l2 : Int32) (l3 : Int32) (l4 : Int32) (μ : me_M) : Option me_M :=
  if (l4 - l4 / (2 : Int32) * (2 : Int32)) = 0 then
    fD_readRuns_111 N n (l2 ||| l3) μ
  else
    fD_readRuns_111 N n l2 μ
def fD_readRuns_94 (N : Nat) (n : Nat) (k13 : Int32 → Int32 → Int32 → Int32 → me_M → Option me_M) (l2 : Int32) (l3 : Int32) (l4 : Int32) (l5 : Int32) (μ : me_M) : Option me_M :=
  k13 l2 l3 l4 (l5 + (1 : Int32)) μ
def fD_readRuns_62 (N : Nat) (n : Nat) (k13 : Int32 → Int32 → Int32 → Int32 → me_M → Option me_M) (l2 : Int32) (l3 : Int32) (l4 : Int32) (l5 : Int32) (l6 : Int32) (s1 : Int32) (μ : me_M) : Option me_M :=
  (fD_failIf N n s1 (6 : Int32) μ).bind fun r7 =>
  (fD_lowest N l3 l6).bind fun r8 =>
  if (l5 - l5 / (2 : Int32) * (2 : Int32)) = 0 then
    fD_readRuns_94 N n k13 (l2 ||| r8) (l3 &&& (r8 ^^^ (-1 : Int32))) l4 l5 r7
  else
    fD_readRuns_94 N n k13 l2 (l3 &&& (r8 ^^^ (-1 : Int32))) l4 l5 r7
def fD_readRuns_45 (N : Nat) (n : Nat) (k13 : Int32 → Int32 → Int32 → Int32 → me_M → Option me_M) (l2 : Int32) (l3 : Int32) (l4 : Int32) (l5 : Int32) (s0 : Int32) (μ : me_M) : Option me_M :=
  (fJ_bitCount N l3).bind fun r11 =>
  if s0 ≤ r11 then
    fD_readRuns_62 N n k13 l2 l3 l4 l5 s0 (0 : Int32) μ
  else
    fD_readRuns_62 N n k13 l2 l3 l4 l5 s0 (1 : Int32) μ
def fD_readRuns_13b (N : Nat) (n : Nat) (k13 : Int32 → Int32 → Int32 → Int32 → me_M → Option me_M) (l2 : Int32) (l3 : Int32) (l4 : Int32) (l5 : Int32) (μ : me_M) : Option me_M :=
  if l4 ≤ l5 then
    fD_readRuns_100 N n l2 l3 l4 μ
  else
    if (μ.1 1209 0) = 0 then
      if l5 = 0 then
        (fD_nextGamma N n μ).bind fun r17 =>
        fD_readRuns_45 N n k13 l2 l3 l4 l5 r17.1 r17.2
      else
        (fD_nextGamma N n μ).bind fun r16 =>
        fD_readRuns_45 N n k13 l2 l3 l4 l5 (r16.1 + (1 : Int32)) r16.2
    else
      fD_readRuns_100 N n l2 l3 l4 μ
def fD_readRuns_13 (N : Nat) (n : Nat) (F : Nat) : Int32 → Int32 → Int32 → Int32 → me_M → Option me_M := Nat.rec (motive := fun _ => Int32 → Int32 → Int32 → Int32 → me_M → Option me_M) (fun _ _ _ _ _ => none) (fun _ k13 => fD_readRuns_13b N n k13) F
def fD_readRuns (N : Nat) (n : Nat) (l1 : Int32) (μ : me_M) : Option me_M :=
  (fD_nextGamma N n μ).bind fun r18 =>
  fD_readRuns_13 N n N (0 : Int32) l1 r18.1 (0 : Int32) r18.2
def fA_within_15 (N : Nat) (s0 : Int32) : Option Int32 :=
  me_gz s0 <|
  some s0
def fA_within_14 (N : Nat) : Option Int32 :=
  fA_within_15 N (0 : Int32)
def fA_within (N : Nat) (l0 : Int32) (l1 : Int32) (l2 : Int32) : Option Int32 :=
  if l0 < l1 then
    fA_within_14 N
  else
    if l2 < l0 then
      fA_within_14 N
    else
      fA_within_15 N (1 : Int32)
def fD_readIntervals_154 (N : Nat) (n : Nat) (μ : me_M) : Option me_M :=
  some μ
def fD_readIntervals_148 (N : Nat) (n : Nat) (k9 : Int32 → Int32 → Int32 → me_M → Option me_M) (l1 : Int32) (l2 : Int32) (l3 : Int32) (μ : me_M) : Option me_M :=
  k9 l1 l2 (l3 + (1 : Int32)) μ
def fD_readIntervals_123 (N : Nat) (n : Nat) (k9 : Int32 → Int32 → Int32 → me_M → Option me_M) (l1 : Int32) (l2 : Int32) (l3 : Int32) (l4 : Int32) (l5 : Int32) (s1 : Int32) (μ : me_M) : Option me_M :=
  (fD_failIf N n s1 (7 : Int32) μ).bind fun r1 =>
  if (r1.1 1209 0) = 0 then
    (fD_take N n ((((1 : Int32) <<< (l5 &&& 31)) - (1 : Int32)) <<< (l4 &&& 31)) r1).bind fun r3 =>
    fD_readIntervals_148 N n k9 l1 l2 l3 r3
  else
    fD_readIntervals_148 N n k9 l1 l2 l3 r1
def fD_readIntervals_118 (N : Nat) (n : Nat) (k9 : Int32 → Int32 → Int32 → me_M → Option me_M) (l1 : Int32) (l2 : Int32) (l3 : Int32) (l4 : Int32) (l5 : Int32) (μ : me_M) : Option me_M :=
  fD_readIntervals_123 N n k9 l1 l2 l3 l4 l5 (1 : Int32) μ
def fD_readIntervals_71 (N : Nat) (n : Nat) (k9 : Int32 → Int32 → Int32 → me_M → Option me_M) (l1 : Int32) (l3 : Int32) (l4 : Int32) (s1 : Int32) (μ : me_M) : Option me_M :=
  (fD_failIf N n s1 (7 : Int32) μ).bind fun r4 =>
  (fD_nextGamma N n r4).bind fun r5 =>
  if ((nI n) - (1 : Int32)) < ((l4 + (r5.1 + (r5.2.1 502 0))) - (1 : Int32)) then
    fD_readIntervals_118 N n k9 l1 ((l4 + (r5.1 + (r5.2.1 502 0))) - (1 : Int32)) l3 l4 (r5.1 + (r5.2.1 502 0)) r5.2
  else
    if (r5.1 + (r5.2.1 502 0)) ≤ (r5.2.1 1212 0) then
      fD_readIntervals_123 N n k9 l1 ((l4 + (r5.1 + (r5.2.1 502 0))) - (1 : Int32)) l3 l4 (r5.1 + (r5.2.1 502 0)) (0 : Int32) r5.2
    else
      fD_readIntervals_118 N n k9 l1 ((l4 + (r5.1 + (r5.2.1 502 0))) - (1 : Int32)) l3 l4 (r5.1 + (r5.2.1 502 0)) r5.2
def fD_readIntervals_48 (N : Nat) (n : Nat) (k9 : Int32 → Int32 → Int32 → me_M → Option me_M) (l1 : Int32) (l3 : Int32) (s0 : Int32) (μ : me_M) : Option me_M :=
  (fA_within N s0 (0 : Int32) ((nI n) - (1 : Int32))).bind fun r8 =>
  if r8 = 0 then
    fD_readIntervals_71 N n k9 l1 l3 s0 (1 : Int32) μ
  else
    fD_readIntervals_71 N n k9 l1 l3 s0 (0 : Int32) μ
def fD_readIntervals_9b (N : Nat) (n : Nat) (k9 : Int32 → Int32 → Int32 → me_M → Option me_M) (l1 : Int32) (l2 : Int32) (l3 : Int32) (μ : me_M) : Option me_M :=
  if l1 ≤ l3 then
    fD_readIntervals_154 N n μ
  else
    if (μ.1 1209 0) = 0 then
      if l3 = 0 then
        (fD_nextGamma N n μ).bind fun r14 =>
        (fT_withSign N r14.1).bind fun r15 =>
        fD_readIntervals_48 N n k9 l1 l3 ((μ.1 1207 0) + r15) r14.2
      else
        (fD_nextGamma N n μ).bind fun r13 =>
        fD_readIntervals_48 N n k9 l1 l3 ((l2 + (2 : Int32)) + r13.1) r13.2
    else
      fD_readIntervals_154 N n μ
def fD_readIntervals_9 (N : Nat) (n : Nat) (F : Nat) : Int32 → Int32 → Int32 → me_M → Option me_M := Nat.rec (motive := fun _ => Int32 → Int32 → Int32 → me_M → Option me_M) (fun _ _ _ _ => none) (fun _ k9 => fD_readIntervals_9b N n k9) F
def fD_readIntervals (N : Nat) (n : Nat) (μ : me_M) : Option me_M :=
  (fD_nextGamma N n μ).bind fun r16 =>
  fD_readIntervals_9 N n N r16.1 (0 : Int32) (0 : Int32) r16.2
def fD_nextZeta_63 (N : Nat) (n : Nat) (s0 : Int32) (μ : me_M) : Option (Int32 × me_M) :=
  some (s0, μ)
def fD_nextZeta (N : Nat) (n : Nat) (μ : me_M) : Option (Int32 × me_M) :=
  (fD_nextUnary N n μ).bind fun r1 =>
  (fD_nextNumber N n (0 : Int32) (((r1.1 * (r1.2.1 503 0)) + (r1.2.1 503 0)) - (1 : Int32)) r1.2).bind fun r2 =>
  if ((1 : Int32) <<< ((r1.1 * (r1.2.1 503 0)) &&& 31)) ≤ r2.1 then
    (fD_nextNumber N n r2.1 (1 : Int32) r2.2).bind fun r4 =>
    fD_nextZeta_63 N n (r4.1 - (1 : Int32)) r4.2
  else
    fD_nextZeta_63 N n ((r2.1 + ((1 : Int32) <<< ((r1.1 * (r1.2.1 503 0)) &&& 31))) - (1 : Int32)) r2.2
def fD_readSingles_94 (N : Nat) (n : Nat) (μ : me_M) : Option me_M :=
  some μ
def fD_readSingles_88 (N : Nat) (n : Nat) (k9 : Int32 → Int32 → Int32 → me_M → Option me_M) (l1 : Int32) (l2 : Int32) (l3 : Int32) (μ : me_M) : Option me_M :=
  k9 l1 l2 (l3 + (1 : Int32)) μ
def fD_readSingles_69 (N : Nat) (n : Nat) (k9 : Int32 → Int32 → Int32 → me_M → Option me_M) (l1 : Int32) (l2 : Int32) (l3 : Int32) (s1 : Int32) (μ : me_M) : Option me_M :=
  (fD_failIf N n s1 (8 : Int32) μ).bind fun r1 =>
  if (r1.1 1209 0) = 0 then
    (fD_take N n ((1 : Int32) <<< (l2 &&& 31)) r1).bind fun r3 =>
    fD_readSingles_88 N n k9 l1 l2 l3 r3
  else
    fD_readSingles_88 N n k9 l1 l2 l3 r1
def fD_readSingles_48 (N : Nat) (n : Nat) (k9 : Int32 → Int32 → Int32 → me_M → Option me_M) (l1 : Int32) (l3 : Int32) (s0 : Int32) (μ : me_M) : Option me_M :=
  (fA_within N s0 (0 : Int32) ((nI n) - (1 : Int32))).bind fun r4 =>
  if r4 = 0 then
    fD_readSingles_69 N n k9 l1 s0 l3 (1 : Int32) μ
  else
    fD_readSingles_69 N n k9 l1 s0 l3 (0 : Int32) μ
def fD_readSingles_9b (N : Nat) (n : Nat) (k9 : Int32 → Int32 → Int32 → me_M → Option me_M) (l1 : Int32) (l2 : Int32) (l3 : Int32) (μ : me_M) : Option me_M :=
  if l1 ≤ l3 then
    fD_readSingles_94 N n μ
  else
    if (μ.1 1209 0) = 0 then
      if l3 = 0 then
        (fD_nextZeta N n μ).bind fun r10 =>
        (fT_withSign N r10.1).bind fun r11 =>
        fD_readSingles_48 N n k9 l1 l3 ((μ.1 1207 0) + r11) r10.2
      else
        (fD_nextZeta N n μ).bind fun r9 =>
        fD_readSingles_48 N n k9 l1 l3 ((l2 + (1 : Int32)) + r9.1) r9.2
    else
      fD_readSingles_94 N n μ
def fD_readSingles_9 (N : Nat) (n : Nat) (F : Nat) : Int32 → Int32 → Int32 → me_M → Option me_M := Nat.rec (motive := fun _ => Int32 → Int32 → Int32 → me_M → Option me_M) (fun _ _ _ _ => none) (fun _ k9 => fD_readSingles_9b N n k9) F
def fD_readSingles (N : Nat) (n : Nat) (μ : me_M) : Option me_M :=
  fD_readSingles_9 N n N (μ.1 1212 0) (0 : Int32) (0 : Int32) μ
def fD_readRecord_151 (N : Nat) (n : Nat) (s1 : Int32) (μ : me_M) : Option me_M :=
  (fD_failIf N n s1 (10 : Int32) μ).bind fun r1 =>
  some r1
def fD_readRecord_114 (N : Nat) (n : Nat) (μ : me_M) : Option me_M :=
  (fD_failIf N n (μ.1 1213 0) (9 : Int32) μ).bind fun r2 =>
  me_gi ((r2.1 1207 0) + (1 : Int32)) (n + 1) <|
  if (r2.1 1208 0) = (r2.1 5 ((r2.1 1207 0) + (1 : Int32)).toNatClampNeg) then
    fD_readRecord_151 N n (0 : Int32) r2
  else
    fD_readRecord_151 N n (1 : Int32) r2
def fD_readRecord_103 (N : Nat) (n : Nat) (μ : me_M) : Option me_M :=
  (fD_goesOn N n μ).bind fun r5 =>
  if r5 = 0 then
    fD_readRecord_114 N n μ
  else
    (fD_readSingles N n μ).bind fun r7 =>
    fD_readRecord_114 N n r7
def fD_readRecord_82 (N : Nat) (n : Nat) (μ : me_M) : Option me_M :=
  (fD_goesOn N n μ).bind fun r8 =>
  if r8 = 0 then
    fD_readRecord_103 N n μ
  else
    if (μ.1 502 0) ≤ 0 then
      fD_readRecord_103 N n μ
    else
      (fD_readIntervals N n μ).bind fun r11 =>
      fD_readRecord_103 N n r11
def fD_readRecord_50 (N : Nat) (n : Nat) (μ : me_M) : Option me_M :=
  (fD_goesOn N n μ).bind fun r12 =>
  if r12 = 0 then
    fD_readRecord_82 N n μ
  else
    if (μ.1 1210 0) ≤ 0 then
      fD_readRecord_82 N n μ
    else
      me_gi ((μ.1 1207 0) - (μ.1 1210 0)) n <|
      (fD_readRuns N n (μ.1 12 ((μ.1 1207 0) - (μ.1 1210 0)).toNatClampNeg) μ).bind fun r16 =>
      fD_readRecord_82 N n r16
def fD_readRecord_25 (N : Nat) (n : Nat) (s1 : Int32) (μ : me_M) : Option me_M :=
  (fD_failIf N n s1 (3 : Int32) μ).bind fun r17 =>
  (fD_goesOn N n r17).bind fun r18 =>
  if r18 = 0 then
    fD_readRecord_50 N n r17
  else
    if (r17.1 500 0) ≤ 0 then
      fD_readRecord_50 N n r17
    else
      (fD_readReference N n r17).bind fun r21 =>
      fD_readRecord_50 N n r21
def fD_readRecord (N : Nat) (n : Nat) (μ : me_M) : Option me_M :=
  (fD_nextGamma N n μ).bind fun r22 =>
  if ((me_wi r22.2 1212 0 r22.1).1 1212 0) ≤ (nI n) then
    fD_readRecord_25 N n (0 : Int32) (me_wi r22.2 1212 0 r22.1)
  else
    fD_readRecord_25 N n (1 : Int32) (me_wi r22.2 1212 0 r22.1)
def fD_readAll_144 (N : Nat) (n : Nat) (μ : me_M) : Option me_M :=
  some μ
def fD_readAll_137 (N : Nat) (n : Nat) (k2 : Int32 → me_M → Option me_M) (l1 : Int32) (s1 : Int32) (s2 : Int32) (μ : me_M) : Option me_M :=
  me_gi s1 n <|
  k2 (l1 + (1 : Int32)) (me_wi μ 15 s1.toNatClampNeg s2)
def fD_readAll_103 (N : Nat) (n : Nat) (k2 : Int32 → me_M → Option me_M) (l1 : Int32) (s1 : Int32) (s2 : Int32) (μ : me_M) : Option me_M :=
  me_gi s1 n <|
  me_gi l1 n <|
  if ((me_wi μ 14 s1.toNatClampNeg s2).1 14 l1.toNatClampNeg) = 0 then
    fD_readAll_137 N n k2 l1 l1 (0 : Int32) (me_wi μ 14 s1.toNatClampNeg s2)
  else
    me_gi l1 n <|
    me_gi (l1 - ((me_wi μ 14 s1.toNatClampNeg s2).1 14 l1.toNatClampNeg)) n <|
    fD_readAll_137 N n k2 l1 l1 (((me_wi μ 14 s1.toNatClampNeg s2).1 15 (l1 - ((me_wi μ 14 s1.toNatClampNeg s2).1 14 l1.toNatClampNeg)).toNatClampNeg) + (1 : Int32)) (me_wi μ 14 s1.toNatClampNeg s2)
def fD_readAll_82 (N : Nat) (n : Nat) (k2 : Int32 → me_M → Option me_M) (l1 : Int32) (s1 : Int32) (s2 : Int32) (μ : me_M) : Option me_M :=
  me_gi s1 n <|
  if ((me_wi μ 12 s1.toNatClampNeg s2).1 1209 0) = 0 then
    fD_readAll_103 N n k2 l1 l1 ((me_wi μ 12 s1.toNatClampNeg s2).1 1210 0) (me_wi μ 12 s1.toNatClampNeg s2)
  else
    fD_readAll_103 N n k2 l1 l1 (0 : Int32) (me_wi μ 12 s1.toNatClampNeg s2)
def fD_readAll_2b (N : Nat) (n : Nat) (k2 : Int32 → me_M → Option me_M) (l1 : Int32) (μ : me_M) : Option me_M :=
  if (nI n) ≤ l1 then
    fD_readAll_144 N n μ
  else
    me_gi l1 (n + 1) <|
    (fD_readRecord N n (me_wi (me_wi (me_wi (me_wi (me_wi (me_wi μ 1207 0 l1) 1208 0 ((me_wi μ 1207 0 l1).1 5 l1.toNatClampNeg)) 1209 0 (0 : Int32)) 1210 0 (0 : Int32)) 1211 0 (0 : Int32)) 1213 0 (0 : Int32))).bind fun r11 =>
    me_gi l1 n <|
    if ((me_wi r11 13 l1.toNatClampNeg (r11.1 1209 0)).1 1209 0) = 0 then
      fD_readAll_82 N n k2 l1 l1 ((me_wi r11 13 l1.toNatClampNeg (r11.1 1209 0)).1 1211 0) (me_wi r11 13 l1.toNatClampNeg (r11.1 1209 0))
    else
      fD_readAll_82 N n k2 l1 l1 (0 : Int32) (me_wi r11 13 l1.toNatClampNeg (r11.1 1209 0))
def fD_readAll_2 (N : Nat) (n : Nat) (F : Nat) : Int32 → me_M → Option me_M := Nat.rec (motive := fun _ => Int32 → me_M → Option me_M) (fun _ _ => none) (fun _ k2 => fD_readAll_2b N n k2) F
def fD_readAll (N : Nat) (n : Nat) (μ : me_M) : Option me_M :=
  fD_readAll_2 N n N (0 : Int32) μ
def fO_quotient_13 (N : Nat) (s0 : Int64) : Option Int64 :=
  some s0
def fO_quotient (N : Nat) (l0 : Int64) (l2 : Int64) : Option Int64 :=
  if (lg_cmp l2 (0 : Int64)) = 0 then
    fO_quotient_13 N (0 : Int64)
  else
    me_gd l2 0 <|
    fO_quotient_13 N (l0 / l2)
def fO_begin_85 (N : Nat) (n : Nat) (μ : me_M) : Option me_M :=
  some μ
def fO_begin_78 (N : Nat) (n : Nat) (k17 : Int32 → me_M → Option me_M) (l3 : Int32) (s1 : Int32) (s2 : Int64) (μ : me_M) : Option me_M :=
  me_gi s1 n <|
  k17 (l3 + (1 : Int32)) (me_wl μ 21 s1.toNatClampNeg s2)
def fO_begin_57 (N : Nat) (n : Nat) (k17 : Int32 → me_M → Option me_M) (l3 : Int32) (s1 : Int32) (s2 : Int64) (μ : me_M) : Option me_M :=
  me_gi s1 n <|
  if ((me_wl μ 20 s1.toNatClampNeg s2).1 2006 0) = (1 : Int32) then
    fO_begin_78 N n k17 l3 l3 (1000000 : Int64) (me_wl μ 20 s1.toNatClampNeg s2)
  else
    fO_begin_78 N n k17 l3 l3 (0 : Int64) (me_wl μ 20 s1.toNatClampNeg s2)
def fO_begin_17b (N : Nat) (n : Nat) (k17 : Int32 → me_M → Option me_M) (l3 : Int32) (μ : me_M) : Option me_M :=
  if (nI n) ≤ l3 then
    fO_begin_85 N n μ
  else
    if (μ.1 2006 0) = (1 : Int32) then
      fO_begin_57 N n k17 l3 l3 (1000000 : Int64) μ
    else
      (fO_quotient N (1000000000000 : Int64) ((nI n).toInt64)).bind fun r6 =>
      fO_begin_57 N n k17 l3 l3 r6 μ
def fO_begin_17 (N : Nat) (n : Nat) (F : Nat) : Int32 → me_M → Option me_M := Nat.rec (motive := fun _ => Int32 → me_M → Option me_M) (fun _ _ => none) (fun _ k17 => fO_begin_17b N n k17) F
def fO_begin (N : Nat) (n : Nat) (l1 : Int32) (l2 : Int32) (μ : me_M) : Option me_M :=
  fO_begin_17 N n N (0 : Int32) (me_wl (me_wi (me_wi μ 2006 0 l1) 2007 0 l2) 2003 0 (0 : Int64))
def fA_isNode (N : Nat) (n : Nat) (μ : me_M) (l1 : Int32) : Option Int32 :=
  (fA_within N l1 (0 : Int32) ((nI n) - (1 : Int32))).bind fun r1 =>
  me_gz r1 <|
  some r1
def fA_add_29 (N : Nat) (n : Nat) (μ : me_M) : Option (Int32 × me_M) :=
  me_gz (0 : Int32) <|
  some ((0 : Int32), μ)
def fA_add (N : Nat) (n : Nat) (l1 : Int32) (l2 : Int32) (μ : me_M) : Option (Int32 × me_M) :=
  (fA_isNode N n μ l1).bind fun r2 =>
  if r2 = 0 then
    fA_add_29 N n μ
  else
    (fA_isNode N n μ l2).bind fun r4 =>
    if r4 = 0 then
      fA_add_29 N n μ
    else
      me_gi l1 n <|
      (fA_holds N (μ.1 1 l1.toNatClampNeg) l2).bind fun r7 =>
      if r7 = 0 then
        me_gi l1 n <|
        me_gi l1 n <|
        me_gz (1 : Int32) <|
        some ((1 : Int32), me_wi μ 1 l1.toNatClampNeg ((μ.1 1 l1.toNatClampNeg) ||| ((1 : Int32) <<< (l2 &&& 31))))
      else
        fA_add_29 N n μ
def fA_drop_29 (N : Nat) (n : Nat) (μ : me_M) : Option (Int32 × me_M) :=
  me_gz (0 : Int32) <|
  some ((0 : Int32), μ)
def fA_drop (N : Nat) (n : Nat) (l1 : Int32) (l2 : Int32) (μ : me_M) : Option (Int32 × me_M) :=
  (fA_isNode N n μ l1).bind fun r2 =>
  if r2 = 0 then
    fA_drop_29 N n μ
  else
    (fA_isNode N n μ l2).bind fun r4 =>
    if r4 = 0 then
      fA_drop_29 N n μ
    else
      me_gi l1 n <|
      (fA_holds N (μ.1 1 l1.toNatClampNeg) l2).bind fun r7 =>
      if r7 = 0 then
        fA_drop_29 N n μ
      else
        me_gi l1 n <|
        me_gi l1 n <|
        me_gz (1 : Int32) <|
        some ((1 : Int32), me_wi μ 1 l1.toNatClampNeg ((μ.1 1 l1.toNatClampNeg) &&& (((1 : Int32) <<< (l2 &&& 31)) ^^^ (-1 : Int32))))
def fA_pack_39 (N : Nat) (n : Nat) (μ : me_M) : Option (Int32 × me_M) :=
  some ((-1 : Int32), μ)
def fA_pack (N : Nat) (n : Nat) (l1 : Int32) (l2 : Int32) (l3 : Int32) (l4 : Int32) (μ : me_M) : Option (Int32 × me_M) :=
  (fA_within N l1 (0 : Int32) (6 : Int32)).bind fun r1 =>
  if r1 = 0 then
    fA_pack_39 N n μ
  else
    (fA_within N l2 (0 : Int32) (3 : Int32)).bind fun r3 =>
    if r3 = 0 then
      fA_pack_39 N n μ
    else
      (fA_within N l3 (0 : Int32) (9 : Int32)).bind fun r5 =>
      if r5 = 0 then
        fA_pack_39 N n μ
      else
        (fA_within N l4 (1 : Int32) (4 : Int32)).bind fun r7 =>
        if r7 = 0 then
          fA_pack_39 N n μ
        else
          (fK_writeAll N n (me_wi (me_wi (me_wi (me_wi μ 500 0 l1) 501 0 l2) 502 0 l3) 503 0 l4)).bind fun r9 =>
          (fD_readAll N n r9).bind fun r10 =>
          some (r10.1 301 0, r10)
def fA_offset_25 (N : Nat) (n : Nat) (μ : me_M) (s0 : Int32) : Option Int32 :=
  some s0
def fA_offset (N : Nat) (n : Nat) (μ : me_M) (l1 : Int32) : Option Int32 :=
  (fA_within N l1 (0 : Int32) (nI n)).bind fun r1 =>
  if r1 = 0 then
    fA_offset_25 N n μ (-1 : Int32)
  else
    me_gi l1 (n + 1) <|
    fA_offset_25 N n μ (μ.1 5 l1.toNatClampNeg)
def fA_isPlace (N : Nat) (n : Nat) (μ : me_M) (l1 : Int32) : Option Int32 :=
  (fA_within N l1 (0 : Int32) ((μ.1 301 0) - (1 : Int32))).bind fun r1 =>
  me_gz r1 <|
  some r1
def fA_bit_21 (N : Nat) (n : Nat) (μ : me_M) (s0 : Int32) : Option Int32 :=
  some s0
def fA_bit (N : Nat) (n : Nat) (μ : me_M) (l1 : Int32) : Option Int32 :=
  (fA_isPlace N n μ l1).bind fun r1 =>
  if r1 = 0 then
    fA_bit_21 N n μ (-1 : Int32)
  else
    me_gi l1 800 <|
    fA_bit_21 N n μ (μ.1 3 l1.toNatClampNeg)
def fA_flip (N : Nat) (n : Nat) (l1 : Int32) (μ : me_M) : Option (Int32 × me_M) :=
  (fA_isPlace N n μ l1).bind fun r1 =>
  if r1 = 0 then
    me_gz (0 : Int32) <|
    some ((0 : Int32), μ)
  else
    me_gi l1 800 <|
    me_gi l1 800 <|
    (fD_readAll N n (me_wi μ 3 l1.toNatClampNeg (vp_nar .byte (((1 : Int32) - (μ.1 3 l1.toNatClampNeg)).toInt8.toInt32)))).bind fun r5 =>
    me_gz (1 : Int32) <|
    some ((1 : Int32), r5)
def fA_degree_48 (N : Nat) (n : Nat) (μ : me_M) (s0 : Int32) : Option Int32 :=
  some s0
def fA_degree (N : Nat) (n : Nat) (μ : me_M) (l1 : Int32) : Option Int32 :=
  (fA_isNode N n μ l1).bind fun r1 =>
  if r1 = 0 then
    some (-100 : Int32)
  else
    me_gi l1 n <|
    if (μ.1 13 l1.toNatClampNeg) = 0 then
      me_gi l1 n <|
      (fJ_bitCount N (μ.1 12 l1.toNatClampNeg)).bind fun r7 =>
      fA_degree_48 N n μ r7
    else
      me_gi l1 n <|
      fA_degree_48 N n μ (-(μ.1 13 l1.toNatClampNeg))
def fA_successor_58 (N : Nat) (n : Nat) (μ : me_M) : Option Int32 :=
  some (-1 : Int32)
def fA_successor_52 (N : Nat) (n : Nat) (μ : me_M) (k15 : Int32 → Int32 → Int32 → Int32 → Option Int32) (l1 : Int32) (l2 : Int32) (l3 : Int32) (l4 : Int32) : Option Int32 :=
  k15 l1 l2 l3 (l4 + (1 : Int32))
def fA_successor_15b (N : Nat) (n : Nat) (μ : me_M) (k15 : Int32 → Int32 → Int32 → Int32 → Option Int32) (l1 : Int32) (l2 : Int32) (l3 : Int32) (l4 : Int32) : Option Int32 :=
  if (nI n) ≤ l4 then
    fA_successor_58 N n μ
  else
    me_gi l1 n <|
    (fA_holds N (μ.1 12 l1.toNatClampNeg) l4).bind fun r3 =>
    if r3 = 0 then
      fA_successor_52 N n μ k15 l1 l2 l3 l4
    else
      if l3 = l2 then
        some l4
      else
        fA_successor_52 N n μ k15 l1 l2 (l3 + (1 : Int32)) l4
def fA_successor_15 (N : Nat) (n : Nat) (μ : me_M) (F : Nat) : Int32 → Int32 → Int32 → Int32 → Option Int32 := Nat.rec (motive := fun _ => Int32 → Int32 → Int32 → Int32 → Option Int32) (fun _ _ _ _ => none) (fun _ k15 => fA_successor_15b N n μ k15) F
def fA_successor (N : Nat) (n : Nat) (μ : me_M) (l1 : Int32) (l2 : Int32) : Option Int32 :=
  (fA_isNode N n μ l1).bind fun r6 =>
  if r6 = 0 then
    some (-1 : Int32)
  else
    fA_successor_15 N n μ N l1 l2 (0 : Int32) (0 : Int32)
def fA_reference_33 (N : Nat) (n : Nat) (μ : me_M) (s0 : Int32) : Option Int32 :=
  some s0
def fA_reference_32 (N : Nat) (n : Nat) (μ : me_M) : Option Int32 :=
  fA_reference_33 N n μ (-1 : Int32)
def fA_reference (N : Nat) (n : Nat) (μ : me_M) (l1 : Int32) : Option Int32 :=
  (fA_isNode N n μ l1).bind fun r1 =>
  if r1 = 0 then
    fA_reference_32 N n μ
  else
    me_gi l1 n <|
    if (μ.1 13 l1.toNatClampNeg) = 0 then
      me_gi l1 n <|
      fA_reference_33 N n μ (μ.1 14 l1.toNatClampNeg)
    else
      fA_reference_32 N n μ
def fS_findReached_95 (N : Nat) (n : Nat) (μ : me_M) : Option me_M :=
  some μ
def fS_findReached_89 (N : Nat) (n : Nat) (k35 : Int32 → me_M → Option me_M) (l1 : Int32) (μ : me_M) : Option me_M :=
  k35 (l1 + (1 : Int32)) μ
def fS_findReached_83 (N : Nat) (n : Nat) (k35 : Int32 → me_M → Option me_M) (k46 : Int32 → Int32 → me_M → Option me_M) (l1 : Int32) (l2 : Int32) (μ : me_M) : Option me_M :=
  k46 l1 (l2 + (1 : Int32)) μ
def fS_findReached_46b (N : Nat) (n : Nat) (k35 : Int32 → me_M → Option me_M) (k46 : Int32 → Int32 → me_M → Option me_M) (l1 : Int32) (l2 : Int32) (μ : me_M) : Option me_M :=
  if (nI n) ≤ l2 then
    fS_findReached_89 N n k35 l1 μ
  else
    me_gi l2 n <|
    (fA_holds N (μ.1 18 l2.toNatClampNeg) l1).bind fun r3 =>
    if r3 = 0 then
      fS_findReached_83 N n k35 k46 l1 l2 μ
    else
      me_gi l2 n <|
      me_gi l1 n <|
      me_gi l2 n <|
      fS_findReached_83 N n k35 k46 l1 l2 (me_wi μ 18 l2.toNatClampNeg ((μ.1 18 l2.toNatClampNeg) ||| (μ.1 18 l1.toNatClampNeg)))
def fS_findReached_46 (N : Nat) (n : Nat) (k35 : Int32 → me_M → Option me_M) (F : Nat) : Int32 → Int32 → me_M → Option me_M := Nat.rec (motive := fun _ => Int32 → Int32 → me_M → Option me_M) (fun _ _ _ => none) (fun _ k46 => fS_findReached_46b N n k35 k46) F
def fS_findReached_35b (N : Nat) (n : Nat) (k35 : Int32 → me_M → Option me_M) (l1 : Int32) (μ : me_M) : Option me_M :=
  if (nI n) ≤ l1 then
    fS_findReached_95 N n μ
  else
    fS_findReached_46 N n k35 N l1 (0 : Int32) μ
def fS_findReached_35 (N : Nat) (n : Nat) (F : Nat) : Int32 → me_M → Option me_M := Nat.rec (motive := fun _ => Int32 → me_M → Option me_M) (fun _ _ => none) (fun _ k35 => fS_findReached_35b N n k35) F
def fS_findReached_33 (N : Nat) (n : Nat) (μ : me_M) : Option me_M :=
  fS_findReached_35 N n N (0 : Int32) μ
def fS_findReached_2b (N : Nat) (n : Nat) (k2 : Int32 → me_M → Option me_M) (l1 : Int32) (μ : me_M) : Option me_M :=
  if (nI n) ≤ l1 then
    fS_findReached_33 N n μ
  else
    me_gi l1 n <|
    me_gi l1 n <|
    k2 (l1 + (1 : Int32)) (me_wi μ 18 l1.toNatClampNeg ((μ.1 12 l1.toNatClampNeg) ||| ((1 : Int32) <<< (l1 &&& 31))))
def fS_findReached_2 (N : Nat) (n : Nat) (F : Nat) : Int32 → me_M → Option me_M := Nat.rec (motive := fun _ => Int32 → me_M → Option me_M) (fun _ _ => none) (fun _ k2 => fS_findReached_2b N n k2) F
def fS_findReached (N : Nat) (n : Nat) (μ : me_M) : Option me_M :=
  fS_findReached_2 N n N (0 : Int32) μ
def fS_partOf_51 (N : Nat) (n : Nat) (μ : me_M) (l2 : Int32) : Option Int32 :=
  some l2
def fS_partOf_45 (N : Nat) (n : Nat) (μ : me_M) (k4 : Int32 → Int32 → Int32 → Option Int32) (l1 : Int32) (l2 : Int32) (l3 : Int32) : Option Int32 :=
  k4 l1 l2 (l3 + (1 : Int32))
def fS_partOf_4b (N : Nat) (n : Nat) (μ : me_M) (k4 : Int32 → Int32 → Int32 → Option Int32) (l1 : Int32) (l2 : Int32) (l3 : Int32) : Option Int32 :=
  if (nI n) ≤ l3 then
    fS_partOf_51 N n μ l2
  else
    me_gi l1 n <|
    (fA_holds N (μ.1 18 l1.toNatClampNeg) l3).bind fun r3 =>
    if r3 = 0 then
      fS_partOf_45 N n μ k4 l1 l2 l3
    else
      me_gi l3 n <|
      (fA_holds N (μ.1 18 l3.toNatClampNeg) l1).bind fun r6 =>
      if r6 = 0 then
        fS_partOf_45 N n μ k4 l1 l2 l3
      else
        fS_partOf_45 N n μ k4 l1 (l2 ||| ((1 : Int32) <<< (l3 &&& 31))) l3
def fS_partOf_4 (N : Nat) (n : Nat) (μ : me_M) (F : Nat) : Int32 → Int32 → Int32 → Option Int32 := Nat.rec (motive := fun _ => Int32 → Int32 → Int32 → Option Int32) (fun _ _ _ => none) (fun _ k4 => fS_partOf_4b N n μ k4) F
def fS_partOf (N : Nat) (n : Nat) (μ : me_M) (l1 : Int32) : Option Int32 :=
  fS_partOf_4 N n μ N l1 (0 : Int32) (0 : Int32)
def fS_nextReady_48 (N : Nat) (n : Nat) (μ : me_M) : Option Int32 :=
  some (-1 : Int32)
def fS_nextReady_42 (N : Nat) (n : Nat) (μ : me_M) (k2 : Int32 → Int32 → Option Int32) (l1 : Int32) (l2 : Int32) : Option Int32 :=
  k2 l1 (l2 + (1 : Int32))
def fS_nextReady_2b (N : Nat) (n : Nat) (μ : me_M) (k2 : Int32 → Int32 → Option Int32) (l1 : Int32) (l2 : Int32) : Option Int32 :=
  if (nI n) ≤ l2 then
    fS_nextReady_48 N n μ
  else
    (fA_holds N l1 l2).bind fun r2 =>
    if r2 = 0 then
      me_gi l2 n <|
      (fS_partOf N n μ l2).bind fun r5 =>
      if (((μ.1 18 l2.toNatClampNeg) &&& (l1 ^^^ (-1 : Int32))) &&& (r5 ^^^ (-1 : Int32))) = 0 then
        some l2
      else
        fS_nextReady_42 N n μ k2 l1 l2
    else
      fS_nextReady_42 N n μ k2 l1 l2
def fS_nextReady_2 (N : Nat) (n : Nat) (μ : me_M) (F : Nat) : Int32 → Int32 → Option Int32 := Nat.rec (motive := fun _ => Int32 → Int32 → Option Int32) (fun _ _ => none) (fun _ k2 => fS_nextReady_2b N n μ k2) F
def fS_nextReady (N : Nat) (n : Nat) (μ : me_M) (l1 : Int32) : Option Int32 :=
  fS_nextReady_2 N n μ N l1 (0 : Int32)
def fS_numberAll_88 (N : Nat) (n : Nat) (l2 : Int32) (μ : me_M) : Option (Int32 × me_M) :=
  some (l2, μ)
def fS_numberAll_71 (N : Nat) (n : Nat) (k14 : Int32 → Int32 → Int32 → me_M → Option (Int32 × me_M)) (l1 : Int32) (l2 : Int32) (l4 : Int32) (μ : me_M) : Option (Int32 × me_M) :=
  (fS_nextReady N n μ (l1 ||| l4)).bind fun r1 =>
  k14 (l1 ||| l4) (l2 + (1 : Int32)) r1 μ
def fS_numberAll_65 (N : Nat) (n : Nat) (k14 : Int32 → Int32 → Int32 → me_M → Option (Int32 × me_M)) (k37 : Int32 → Int32 → Int32 → Int32 → me_M → Option (Int32 × me_M)) (l1 : Int32) (l2 : Int32) (l4 : Int32) (l5 : Int32) (μ : me_M) : Option (Int32 × me_M) :=
  k37 l1 l2 l4 (l5 + (1 : Int32)) μ
def fS_numberAll_37b (N : Nat) (n : Nat) (k14 : Int32 → Int32 → Int32 → me_M → Option (Int32 × me_M)) (k37 : Int32 → Int32 → Int32 → Int32 → me_M → Option (Int32 × me_M)) (l1 : Int32) (l2 : Int32) (l4 : Int32) (l5 : Int32) (μ : me_M) : Option (Int32 × me_M) :=
  if (nI n) ≤ l5 then
    fS_numberAll_71 N n k14 l1 l2 l4 μ
  else
    (fA_holds N l4 l5).bind fun r3 =>
    if r3 = 0 then
      fS_numberAll_65 N n k14 k37 l1 l2 l4 l5 μ
    else
      me_gi l5 n <|
      fS_numberAll_65 N n k14 k37 l1 l2 l4 l5 (me_wi μ 17 l5.toNatClampNeg l2)
def fS_numberAll_37 (N : Nat) (n : Nat) (k14 : Int32 → Int32 → Int32 → me_M → Option (Int32 × me_M)) (F : Nat) : Int32 → Int32 → Int32 → Int32 → me_M → Option (Int32 × me_M) := Nat.rec (motive := fun _ => Int32 → Int32 → Int32 → Int32 → me_M → Option (Int32 × me_M)) (fun _ _ _ _ _ => none) (fun _ k37 => fS_numberAll_37b N n k14 k37) F
def fS_numberAll_14b (N : Nat) (n : Nat) (k14 : Int32 → Int32 → Int32 → me_M → Option (Int32 × me_M)) (l1 : Int32) (l2 : Int32) (l3 : Int32) (μ : me_M) : Option (Int32 × me_M) :=
  if l3 < 0 then
    fS_numberAll_88 N n l2 μ
  else
    if (nI n) ≤ l2 then
      fS_numberAll_88 N n l2 μ
    else
      (fS_partOf N n μ l3).bind fun r8 =>
      fS_numberAll_37 N n k14 N l1 l2 r8 (0 : Int32) μ
def fS_numberAll_14 (N : Nat) (n : Nat) (F : Nat) : Int32 → Int32 → Int32 → me_M → Option (Int32 × me_M) := Nat.rec (motive := fun _ => Int32 → Int32 → Int32 → me_M → Option (Int32 × me_M)) (fun _ _ _ _ => none) (fun _ k14 => fS_numberAll_14b N n k14) F
def fS_numberAll (N : Nat) (n : Nat) (μ : me_M) : Option (Int32 × me_M) :=
  (fS_findReached N n μ).bind fun r9 =>
  (fS_nextReady N n r9 (0 : Int32)).bind fun r10 =>
  fS_numberAll_14 N n N (0 : Int32) (0 : Int32) r10 r9
def fA_components (N : Nat) (n : Nat) (μ : me_M) : Option (Int32 × me_M) :=
  (fS_numberAll N n μ).bind fun r1 =>
  some (r1.1, r1.2)
def fA_component (N : Nat) (n : Nat) (l1 : Int32) (μ : me_M) : Option (Int32 × me_M) :=
  (fA_isNode N n μ l1).bind fun r1 =>
  if r1 = 0 then
    some ((-1 : Int32), μ)
  else
    (fS_numberAll N n μ).bind fun r3 =>
    me_gi l1 n <|
    some (r3.2.1 17 l1.toNatClampNeg, r3.2)
def fO_weightOfOthers_33 (N : Nat) (n : Nat) (μ : me_M) (l2 : Int32) : Option Int32 :=
  some l2
def fO_weightOfOthers_27 (N : Nat) (n : Nat) (μ : me_M) (k4 : Int32 → Int32 → Int32 → Option Int32) (l1 : Int32) (l2 : Int32) (l3 : Int32) : Option Int32 :=
  k4 l1 l2 (l3 + (1 : Int32))
def fO_weightOfOthers_4b (N : Nat) (n : Nat) (μ : me_M) (k4 : Int32 → Int32 → Int32 → Option Int32) (l1 : Int32) (l2 : Int32) (l3 : Int32) : Option Int32 :=
  if (nI n) ≤ l3 then
    fO_weightOfOthers_33 N n μ l2
  else
    if l3 = l1 then
      fO_weightOfOthers_27 N n μ k4 l1 l2 l3
    else
      me_gi l3 n <|
      fO_weightOfOthers_27 N n μ k4 l1 (l2 + (μ.1 23 l3.toNatClampNeg)) l3
def fO_weightOfOthers_4 (N : Nat) (n : Nat) (μ : me_M) (F : Nat) : Int32 → Int32 → Int32 → Option Int32 := Nat.rec (motive := fun _ => Int32 → Int32 → Int32 → Option Int32) (fun _ _ _ => none) (fun _ k4 => fO_weightOfOthers_4b N n μ k4) F
def fO_weightOfOthers (N : Nat) (n : Nat) (μ : me_M) (l1 : Int32) : Option Int32 :=
  fO_weightOfOthers_4 N n μ N l1 (0 : Int32) (0 : Int32)
def fA_prefer_31 (N : Nat) (n : Nat) (μ : me_M) : Option (Int32 × me_M) :=
  me_gz (0 : Int32) <|
  some ((0 : Int32), μ)
def fA_prefer (N : Nat) (n : Nat) (l1 : Int32) (l2 : Int32) (μ : me_M) : Option (Int32 × me_M) :=
  (fA_isNode N n μ l1).bind fun r2 =>
  if r2 = 0 then
    fA_prefer_31 N n μ
  else
    (fA_within N l2 (0 : Int32) (100 : Int32)).bind fun r4 =>
    if r4 = 0 then
      fA_prefer_31 N n μ
    else
      (fO_weightOfOthers N n μ l1).bind fun r6 =>
      if (r6 + l2) = 0 then
        fA_prefer_31 N n μ
      else
        me_gi l1 n <|
        me_gz (1 : Int32) <|
        some ((1 : Int32), me_wi μ 23 l1.toNatClampNeg l2)
def fA_start_20 (N : Nat) (n : Nat) (μ : me_M) : Option (Int32 × me_M) :=
  me_gz (0 : Int32) <|
  some ((0 : Int32), μ)
def fA_start (N : Nat) (n : Nat) (l1 : Int32) (l2 : Int32) (μ : me_M) : Option (Int32 × me_M) :=
  (fA_within N l1 (0 : Int32) (2 : Int32)).bind fun r2 =>
  if r2 = 0 then
    fA_start_20 N n μ
  else
    (fA_within N l2 (0 : Int32) (1000 : Int32)).bind fun r4 =>
    if r4 = 0 then
      fA_start_20 N n μ
    else
      (fO_begin N n l1 l2 μ).bind fun r6 =>
      me_gz (1 : Int32) <|
      some ((1 : Int32), r6)
def fO_linksFrom (N : Nat) (n : Nat) (μ : me_M) (l1 : Int32) : Option Int32 :=
  me_gi l1 n <|
  (fJ_bitCount N (μ.1 12 l1.toNatClampNeg)).bind fun r2 =>
  some r2
def fO_stepByRank_199 (N : Nat) (n : Nat) (μ : me_M) : Option me_M :=
  some μ
def fO_stepByRank_128 (N : Nat) (n : Nat) (k55 : Int64 → Int64 → Int32 → me_M → Option me_M) (l1 : Int64) (l3 : Int64) (l5 : Int32) (l6 : Int64) (μ : me_M) : Option me_M :=
  me_gi l5 n <|
  (fO_quotient N (((((1000 : Int32) - (μ.1 2007 0)).toInt64) * (1000000000 : Int64)) * ((μ.1 23 l5.toNatClampNeg).toInt64)) l1).bind fun r2 =>
  me_gi l5 n <|
  (fO_quotient N (l3 * ((μ.1 23 l5.toNatClampNeg).toInt64)) l1).bind fun r4 =>
  me_gi l5 n <|
  k55 l1 l3 (l5 + (1 : Int32)) (me_wl μ 20 l5.toNatClampNeg (r2 + ((((μ.1 2007 0).toInt64) * (l6 + r4)) / (1000 : Int64))))
def fO_stepByRank_119 (N : Nat) (n : Nat) (k55 : Int64 → Int64 → Int32 → me_M → Option me_M) (k71 : Int64 → Int64 → Int32 → Int64 → Int32 → me_M → Option me_M) (l1 : Int64) (l3 : Int64) (l5 : Int32) (l8 : Int32) (s0 : Int64) (s1 : Int64) (μ : me_M) : Option me_M :=
  k71 l1 l3 l5 (s0 + s1) (l8 + (1 : Int32)) μ
def fO_stepByRank_71b (N : Nat) (n : Nat) (k55 : Int64 → Int64 → Int32 → me_M → Option me_M) (k71 : Int64 → Int64 → Int32 → Int64 → Int32 → me_M → Option me_M) (l1 : Int64) (l3 : Int64) (l5 : Int32) (l6 : Int64) (l8 : Int32) (μ : me_M) : Option me_M :=
  if (nI n) ≤ l8 then
    fO_stepByRank_128 N n k55 l1 l3 l5 l6 μ
  else
    me_gi l8 n <|
    (fA_holds N (μ.1 12 l8.toNatClampNeg) l5).bind fun r9 =>
    if r9 = 0 then
      fO_stepByRank_119 N n k55 k71 l1 l3 l5 l8 l6 (0 : Int64) μ
    else
      me_gi l8 n <|
      (fO_linksFrom N n μ l8).bind fun r12 =>
      (fO_quotient N (μ.2 22 l8.toNatClampNeg) r12.toInt64).bind fun r13 =>
      fO_stepByRank_119 N n k55 k71 l1 l3 l5 l8 l6 r13 μ
def fO_stepByRank_71 (N : Nat) (n : Nat) (k55 : Int64 → Int64 → Int32 → me_M → Option me_M) (F : Nat) : Int64 → Int64 → Int32 → Int64 → Int32 → me_M → Option me_M := Nat.rec (motive := fun _ => Int64 → Int64 → Int32 → Int64 → Int32 → me_M → Option me_M) (fun _ _ _ _ _ _ => none) (fun _ k71 => fO_stepByRank_71b N n k55 k71) F
def fO_stepByRank_55b (N : Nat) (n : Nat) (k55 : Int64 → Int64 → Int32 → me_M → Option me_M) (l1 : Int64) (l3 : Int64) (l5 : Int32) (μ : me_M) : Option me_M :=
  if (nI n) ≤ l5 then
    fO_stepByRank_199 N n μ
  else
    fO_stepByRank_71 N n k55 N l1 l3 l5 (0 : Int64) (0 : Int32) μ
def fO_stepByRank_55 (N : Nat) (n : Nat) (F : Nat) : Int64 → Int64 → Int32 → me_M → Option me_M := Nat.rec (motive := fun _ => Int64 → Int64 → Int32 → me_M → Option me_M) (fun _ _ _ _ => none) (fun _ k55 => fO_stepByRank_55b N n k55) F
def fO_stepByRank_52 (N : Nat) (n : Nat) (l1 : Int64) (l3 : Int64) (μ : me_M) : Option me_M :=
  fO_stepByRank_55 N n N l1 l3 (0 : Int32) μ
def fO_stepByRank_44 (N : Nat) (n : Nat) (k12 : Int64 → Int64 → Int32 → me_M → Option me_M) (l1 : Int64) (l5 : Int32) (s0 : Int64) (s1 : Int64) (μ : me_M) : Option me_M :=
  k12 l1 (s0 + s1) (l5 + (1 : Int32)) μ
def fO_stepByRank_12b (N : Nat) (n : Nat) (k12 : Int64 → Int64 → Int32 → me_M → Option me_M) (l1 : Int64) (l3 : Int64) (l5 : Int32) (μ : me_M) : Option me_M :=
  if (nI n) ≤ l5 then
    fO_stepByRank_52 N n l1 l3 μ
  else
    me_gi l5 n <|
    if (μ.1 12 l5.toNatClampNeg) = 0 then
      me_gi l5 n <|
      fO_stepByRank_44 N n k12 l1 l5 l3 (μ.2 22 l5.toNatClampNeg) μ
    else
      fO_stepByRank_44 N n k12 l1 l5 l3 (0 : Int64) μ
def fO_stepByRank_12 (N : Nat) (n : Nat) (F : Nat) : Int64 → Int64 → Int32 → me_M → Option me_M := Nat.rec (motive := fun _ => Int64 → Int64 → Int32 → me_M → Option me_M) (fun _ _ _ _ => none) (fun _ k12 => fO_stepByRank_12b N n k12) F
def fO_stepByRank (N : Nat) (n : Nat) (μ : me_M) : Option me_M :=
  (fO_weightOfOthers N n μ (-1 : Int32)).bind fun r19 =>
  fO_stepByRank_12 N n N r19.toInt64 (0 : Int64) (0 : Int32) μ
def fO_bringToGreatest_20_52 (N : Nat) (n : Nat) (μ : me_M) : Option me_M :=
  some μ
def fO_bringToGreatest_20_26b (N : Nat) (n : Nat) (k26 : Int64 → Int32 → me_M → Option me_M) (l1 : Int64) (l3 : Int32) (μ : me_M) : Option me_M :=
  if (nI n) ≤ l3 then
    fO_bringToGreatest_20_52 N n μ
  else
    me_gi l3 n <|
    (fO_quotient N ((μ.2 20 l3.toNatClampNeg) * (1000000 : Int64)) l1).bind fun r3 =>
    me_gi l3 n <|
    k26 l1 (l3 + (1 : Int32)) (me_wl μ 20 l3.toNatClampNeg r3)
def fO_bringToGreatest_20_26 (N : Nat) (n : Nat) (F : Nat) : Int64 → Int32 → me_M → Option me_M := Nat.rec (motive := fun _ => Int64 → Int32 → me_M → Option me_M) (fun _ _ _ => none) (fun _ k26 => fO_bringToGreatest_20_26b N n k26) F
def fO_bringToGreatest_20_24 (N : Nat) (n : Nat) (l1 : Int64) (μ : me_M) : Option me_M :=
  fO_bringToGreatest_20_26 N n N l1 (0 : Int32) μ
def fO_bringToGreatest_20_4b (N : Nat) (n : Nat) (k4 : Int64 → Int32 → me_M → Option me_M) (l1 : Int64) (l3 : Int32) (μ : me_M) : Option me_M :=
  if (nI n) ≤ l3 then
    fO_bringToGreatest_20_24 N n l1 μ
  else
    me_gi l3 n <|
    k4 (if (μ.2 20 l3.toNatClampNeg) < l1 then l1 else (μ.2 20 l3.toNatClampNeg)) (l3 + (1 : Int32)) μ
def fO_bringToGreatest_20_4 (N : Nat) (n : Nat) (F : Nat) : Int64 → Int32 → me_M → Option me_M := Nat.rec (motive := fun _ => Int64 → Int32 → me_M → Option me_M) (fun _ _ _ => none) (fun _ k4 => fO_bringToGreatest_20_4b N n k4) F
def fO_bringToGreatest_20 (N : Nat) (n : Nat) (μ : me_M) : Option me_M :=
  fO_bringToGreatest_20_4 N n N (0 : Int64) (0 : Int32) μ
def fO_bringToGreatest_21_52 (N : Nat) (n : Nat) (μ : me_M) : Option me_M :=
  some μ
def fO_bringToGreatest_21_26b (N : Nat) (n : Nat) (k26 : Int64 → Int32 → me_M → Option me_M) (l1 : Int64) (l3 : Int32) (μ : me_M) : Option me_M :=
  if (nI n) ≤ l3 then
    fO_bringToGreatest_21_52 N n μ
  else
    me_gi l3 n <|
    (fO_quotient N ((μ.2 21 l3.toNatClampNeg) * (1000000 : Int64)) l1).bind fun r3 =>
    me_gi l3 n <|
    k26 l1 (l3 + (1 : Int32)) (me_wl μ 21 l3.toNatClampNeg r3)
def fO_bringToGreatest_21_26 (N : Nat) (n : Nat) (F : Nat) : Int64 → Int32 → me_M → Option me_M := Nat.rec (motive := fun _ => Int64 → Int32 → me_M → Option me_M) (fun _ _ _ => none) (fun _ k26 => fO_bringToGreatest_21_26b N n k26) F
def fO_bringToGreatest_21_24 (N : Nat) (n : Nat) (l1 : Int64) (μ : me_M) : Option me_M :=
  fO_bringToGreatest_21_26 N n N l1 (0 : Int32) μ
def fO_bringToGreatest_21_4b (N : Nat) (n : Nat) (k4 : Int64 → Int32 → me_M → Option me_M) (l1 : Int64) (l3 : Int32) (μ : me_M) : Option me_M :=
  if (nI n) ≤ l3 then
    fO_bringToGreatest_21_24 N n l1 μ
  else
    me_gi l3 n <|
    k4 (if (μ.2 21 l3.toNatClampNeg) < l1 then l1 else (μ.2 21 l3.toNatClampNeg)) (l3 + (1 : Int32)) μ
def fO_bringToGreatest_21_4 (N : Nat) (n : Nat) (F : Nat) : Int64 → Int32 → me_M → Option me_M := Nat.rec (motive := fun _ => Int64 → Int32 → me_M → Option me_M) (fun _ _ _ => none) (fun _ k4 => fO_bringToGreatest_21_4b N n k4) F
def fO_bringToGreatest_21 (N : Nat) (n : Nat) (μ : me_M) : Option me_M :=
  fO_bringToGreatest_21_4 N n N (0 : Int64) (0 : Int32) μ
def fO_stepByGreatest_153 (N : Nat) (n : Nat) (μ : me_M) : Option me_M :=
  (fO_bringToGreatest_21 N n μ).bind fun r1 =>
  some r1
def fO_stepByGreatest_147 (N : Nat) (n : Nat) (k82 : Int32 → me_M → Option me_M) (l1 : Int32) (μ : me_M) : Option me_M :=
  k82 (l1 + (1 : Int32)) μ
def fO_stepByGreatest_139 (N : Nat) (n : Nat) (k82 : Int32 → me_M → Option me_M) (k100 : Int32 → Int32 → me_M → Option me_M) (l1 : Int32) (l2 : Int32) (s1 : Int32) (s2 : Int64) (s3 : Int64) (μ : me_M) : Option me_M :=
  me_gi s1 n <|
  k100 l1 (l2 + (1 : Int32)) (me_wl μ 21 s1.toNatClampNeg (s2 + s3))
def fO_stepByGreatest_100b (N : Nat) (n : Nat) (k82 : Int32 → me_M → Option me_M) (k100 : Int32 → Int32 → me_M → Option me_M) (l1 : Int32) (l2 : Int32) (μ : me_M) : Option me_M :=
  if (nI n) ≤ l2 then
    fO_stepByGreatest_147 N n k82 l1 μ
  else
    me_gi l1 n <|
    me_gi l1 n <|
    (fA_holds N (μ.1 12 l1.toNatClampNeg) l2).bind fun r6 =>
    if r6 = 0 then
      fO_stepByGreatest_139 N n k82 k100 l1 l2 l1 (μ.2 21 l1.toNatClampNeg) (0 : Int64) μ
    else
      me_gi l2 n <|
      fO_stepByGreatest_139 N n k82 k100 l1 l2 l1 (μ.2 21 l1.toNatClampNeg) (μ.2 20 l2.toNatClampNeg) μ
def fO_stepByGreatest_100 (N : Nat) (n : Nat) (k82 : Int32 → me_M → Option me_M) (F : Nat) : Int32 → Int32 → me_M → Option me_M := Nat.rec (motive := fun _ => Int32 → Int32 → me_M → Option me_M) (fun _ _ _ => none) (fun _ k100 => fO_stepByGreatest_100b N n k82 k100) F
def fO_stepByGreatest_82b (N : Nat) (n : Nat) (k82 : Int32 → me_M → Option me_M) (l1 : Int32) (μ : me_M) : Option me_M :=
  if (nI n) ≤ l1 then
    fO_stepByGreatest_153 N n μ
  else
    me_gi l1 n <|
    fO_stepByGreatest_100 N n k82 N l1 (0 : Int32) (me_wl μ 21 l1.toNatClampNeg (0 : Int64))
def fO_stepByGreatest_82 (N : Nat) (n : Nat) (F : Nat) : Int32 → me_M → Option me_M := Nat.rec (motive := fun _ => Int32 → me_M → Option me_M) (fun _ _ => none) (fun _ k82 => fO_stepByGreatest_82b N n k82) F
def fO_stepByGreatest_73 (N : Nat) (n : Nat) (μ : me_M) : Option me_M :=
  (fO_bringToGreatest_20 N n μ).bind fun r11 =>
  fO_stepByGreatest_82 N n N (0 : Int32) r11
def fO_stepByGreatest_67 (N : Nat) (n : Nat) (k2 : Int32 → me_M → Option me_M) (l1 : Int32) (μ : me_M) : Option me_M :=
  k2 (l1 + (1 : Int32)) μ
def fO_stepByGreatest_59 (N : Nat) (n : Nat) (k2 : Int32 → me_M → Option me_M) (k20 : Int32 → Int32 → me_M → Option me_M) (l1 : Int32) (l2 : Int32) (s1 : Int32) (s2 : Int64) (s3 : Int64) (μ : me_M) : Option me_M :=
  me_gi s1 n <|
  k20 l1 (l2 + (1 : Int32)) (me_wl μ 20 s1.toNatClampNeg (s2 + s3))
def fO_stepByGreatest_20b (N : Nat) (n : Nat) (k2 : Int32 → me_M → Option me_M) (k20 : Int32 → Int32 → me_M → Option me_M) (l1 : Int32) (l2 : Int32) (μ : me_M) : Option me_M :=
  if (nI n) ≤ l2 then
    fO_stepByGreatest_67 N n k2 l1 μ
  else
    me_gi l1 n <|
    me_gi l2 n <|
    (fA_holds N (μ.1 12 l2.toNatClampNeg) l1).bind fun r16 =>
    if r16 = 0 then
      fO_stepByGreatest_59 N n k2 k20 l1 l2 l1 (μ.2 20 l1.toNatClampNeg) (0 : Int64) μ
    else
      me_gi l2 n <|
      fO_stepByGreatest_59 N n k2 k20 l1 l2 l1 (μ.2 20 l1.toNatClampNeg) (μ.2 21 l2.toNatClampNeg) μ
def fO_stepByGreatest_20 (N : Nat) (n : Nat) (k2 : Int32 → me_M → Option me_M) (F : Nat) : Int32 → Int32 → me_M → Option me_M := Nat.rec (motive := fun _ => Int32 → Int32 → me_M → Option me_M) (fun _ _ _ => none) (fun _ k20 => fO_stepByGreatest_20b N n k2 k20) F
def fO_stepByGreatest_2b (N : Nat) (n : Nat) (k2 : Int32 → me_M → Option me_M) (l1 : Int32) (μ : me_M) : Option me_M :=
  if (nI n) ≤ l1 then
    fO_stepByGreatest_73 N n μ
  else
    me_gi l1 n <|
    fO_stepByGreatest_20 N n k2 N l1 (0 : Int32) (me_wl μ 20 l1.toNatClampNeg (0 : Int64))
def fO_stepByGreatest_2 (N : Nat) (n : Nat) (F : Nat) : Int32 → me_M → Option me_M := Nat.rec (motive := fun _ => Int32 → me_M → Option me_M) (fun _ _ => none) (fun _ k2 => fO_stepByGreatest_2b N n k2) F
def fO_stepByGreatest (N : Nat) (n : Nat) (μ : me_M) : Option me_M :=
  fO_stepByGreatest_2 N n N (0 : Int32) μ
def fO_linksTo_40 (N : Nat) (n : Nat) (μ : me_M) (l2 : Int32) : Option Int32 :=
  some l2
def fO_linksTo_32 (N : Nat) (n : Nat) (μ : me_M) (k4 : Int32 → Int32 → Int32 → Option Int32) (l1 : Int32) (l3 : Int32) (s0 : Int32) (s1 : Int32) : Option Int32 :=
  k4 l1 (s0 + s1) (l3 + (1 : Int32))
def fO_linksTo_4b (N : Nat) (n : Nat) (μ : me_M) (k4 : Int32 → Int32 → Int32 → Option Int32) (l1 : Int32) (l2 : Int32) (l3 : Int32) : Option Int32 :=
  if (nI n) ≤ l3 then
    fO_linksTo_40 N n μ l2
  else
    me_gi l3 n <|
    (fA_holds N (μ.1 12 l3.toNatClampNeg) l1).bind fun r3 =>
    if r3 = 0 then
      fO_linksTo_32 N n μ k4 l1 l3 l2 (0 : Int32)
    else
      fO_linksTo_32 N n μ k4 l1 l3 l2 (1 : Int32)
def fO_linksTo_4 (N : Nat) (n : Nat) (μ : me_M) (F : Nat) : Int32 → Int32 → Int32 → Option Int32 := Nat.rec (motive := fun _ => Int32 → Int32 → Int32 → Option Int32) (fun _ _ _ => none) (fun _ k4 => fO_linksTo_4b N n μ k4) F
def fO_linksTo (N : Nat) (n : Nat) (μ : me_M) (l1 : Int32) : Option Int32 :=
  fO_linksTo_4 N n μ N l1 (0 : Int32) (0 : Int32)
def fO_stepByShares_164 (N : Nat) (n : Nat) (μ : me_M) : Option me_M :=
  some μ
def fO_stepByShares_158 (N : Nat) (n : Nat) (k84 : Int32 → me_M → Option me_M) (l1 : Int32) (μ : me_M) : Option me_M :=
  k84 (l1 + (1 : Int32)) μ
def fO_stepByShares_150 (N : Nat) (n : Nat) (k84 : Int32 → me_M → Option me_M) (k102 : Int32 → Int32 → me_M → Option me_M) (l1 : Int32) (l2 : Int32) (s1 : Int32) (s2 : Int64) (s3 : Int64) (μ : me_M) : Option me_M :=
  me_gi s1 n <|
  k102 l1 (l2 + (1 : Int32)) (me_wl μ 20 s1.toNatClampNeg (s2 + s3))
def fO_stepByShares_102b (N : Nat) (n : Nat) (k84 : Int32 → me_M → Option me_M) (k102 : Int32 → Int32 → me_M → Option me_M) (l1 : Int32) (l2 : Int32) (μ : me_M) : Option me_M :=
  if (nI n) ≤ l2 then
    fO_stepByShares_158 N n k84 l1 μ
  else
    me_gi l1 n <|
    me_gi l2 n <|
    (fA_holds N (μ.1 12 l2.toNatClampNeg) l1).bind fun r5 =>
    if r5 = 0 then
      fO_stepByShares_150 N n k84 k102 l1 l2 l1 (μ.2 20 l1.toNatClampNeg) (0 : Int64) μ
    else
      me_gi l2 n <|
      (fO_linksFrom N n μ l2).bind fun r8 =>
      (fO_quotient N (μ.2 21 l2.toNatClampNeg) r8.toInt64).bind fun r9 =>
      fO_stepByShares_150 N n k84 k102 l1 l2 l1 (μ.2 20 l1.toNatClampNeg) r9 μ
def fO_stepByShares_102 (N : Nat) (n : Nat) (k84 : Int32 → me_M → Option me_M) (F : Nat) : Int32 → Int32 → me_M → Option me_M := Nat.rec (motive := fun _ => Int32 → Int32 → me_M → Option me_M) (fun _ _ _ => none) (fun _ k102 => fO_stepByShares_102b N n k84 k102) F
def fO_stepByShares_84b (N : Nat) (n : Nat) (k84 : Int32 → me_M → Option me_M) (l1 : Int32) (μ : me_M) : Option me_M :=
  if (nI n) ≤ l1 then
    fO_stepByShares_164 N n μ
  else
    me_gi l1 n <|
    fO_stepByShares_102 N n k84 N l1 (0 : Int32) (me_wl μ 20 l1.toNatClampNeg (0 : Int64))
def fO_stepByShares_84 (N : Nat) (n : Nat) (F : Nat) : Int32 → me_M → Option me_M := Nat.rec (motive := fun _ => Int32 → me_M → Option me_M) (fun _ _ => none) (fun _ k84 => fO_stepByShares_84b N n k84) F
def fO_stepByShares_82 (N : Nat) (n : Nat) (μ : me_M) : Option me_M :=
  fO_stepByShares_84 N n N (0 : Int32) μ
def fO_stepByShares_76 (N : Nat) (n : Nat) (k2 : Int32 → me_M → Option me_M) (l1 : Int32) (μ : me_M) : Option me_M :=
  k2 (l1 + (1 : Int32)) μ
def fO_stepByShares_68 (N : Nat) (n : Nat) (k2 : Int32 → me_M → Option me_M) (k20 : Int32 → Int32 → me_M → Option me_M) (l1 : Int32) (l2 : Int32) (s1 : Int32) (s2 : Int64) (s3 : Int64) (μ : me_M) : Option me_M :=
  me_gi s1 n <|
  k20 l1 (l2 + (1 : Int32)) (me_wl μ 21 s1.toNatClampNeg (s2 + s3))
def fO_stepByShares_20b (N : Nat) (n : Nat) (k2 : Int32 → me_M → Option me_M) (k20 : Int32 → Int32 → me_M → Option me_M) (l1 : Int32) (l2 : Int32) (μ : me_M) : Option me_M :=
  if (nI n) ≤ l2 then
    fO_stepByShares_76 N n k2 l1 μ
  else
    me_gi l1 n <|
    me_gi l1 n <|
    (fA_holds N (μ.1 12 l1.toNatClampNeg) l2).bind fun r16 =>
    if r16 = 0 then
      fO_stepByShares_68 N n k2 k20 l1 l2 l1 (μ.2 21 l1.toNatClampNeg) (0 : Int64) μ
    else
      me_gi l2 n <|
      (fO_linksTo N n μ l2).bind fun r19 =>
      (fO_quotient N (μ.2 20 l2.toNatClampNeg) r19.toInt64).bind fun r20 =>
      fO_stepByShares_68 N n k2 k20 l1 l2 l1 (μ.2 21 l1.toNatClampNeg) r20 μ
def fO_stepByShares_20 (N : Nat) (n : Nat) (k2 : Int32 → me_M → Option me_M) (F : Nat) : Int32 → Int32 → me_M → Option me_M := Nat.rec (motive := fun _ => Int32 → Int32 → me_M → Option me_M) (fun _ _ _ => none) (fun _ k20 => fO_stepByShares_20b N n k2 k20) F
def fO_stepByShares_2b (N : Nat) (n : Nat) (k2 : Int32 → me_M → Option me_M) (l1 : Int32) (μ : me_M) : Option me_M :=
  if (nI n) ≤ l1 then
    fO_stepByShares_82 N n μ
  else
    me_gi l1 n <|
    fO_stepByShares_20 N n k2 N l1 (0 : Int32) (me_wl μ 21 l1.toNatClampNeg (0 : Int64))
def fO_stepByShares_2 (N : Nat) (n : Nat) (F : Nat) : Int32 → me_M → Option me_M := Nat.rec (motive := fun _ => Int32 → me_M → Option me_M) (fun _ _ => none) (fun _ k2 => fO_stepByShares_2b N n k2) F
def fO_stepByShares (N : Nat) (n : Nat) (μ : me_M) : Option me_M :=
  fO_stepByShares_2 N n N (0 : Int32) μ
def fO_stepOnce_98 (N : Nat) (n : Nat) (μ : me_M) : Option me_M :=
  some μ
def fO_stepOnce_58b (N : Nat) (n : Nat) (k58 : Int32 → me_M → Option me_M) (l1 : Int32) (μ : me_M) : Option me_M :=
  if (nI n) ≤ l1 then
    fO_stepOnce_98 N n μ
  else
    me_gi l1 n <|
    me_gi l1 n <|
    k58 (l1 + (1 : Int32)) (me_wl μ 2003 0 ((μ.2 2003 0) + (if 0 < ((μ.2 20 l1.toNatClampNeg) - (μ.2 22 l1.toNatClampNeg)) then ((μ.2 20 l1.toNatClampNeg) - (μ.2 22 l1.toNatClampNeg)) else -((μ.2 20 l1.toNatClampNeg) - (μ.2 22 l1.toNatClampNeg)))))
def fO_stepOnce_58 (N : Nat) (n : Nat) (F : Nat) : Int32 → me_M → Option me_M := Nat.rec (motive := fun _ => Int32 → me_M → Option me_M) (fun _ _ => none) (fun _ k58 => fO_stepOnce_58b N n k58) F
def fO_stepOnce_51 (N : Nat) (n : Nat) (μ : me_M) : Option me_M :=
  fO_stepOnce_58 N n N (0 : Int32) (me_wl μ 2003 0 (0 : Int64))
def fO_stepOnce (N : Nat) (n : Nat) (μ : me_M) : Option me_M :=
  me_gc (0 : Int32) (0 : Int32) (nI n) n n <|
  if ((me_cp μ 20 22 (0 : Int32).toNatClampNeg (0 : Int32).toNatClampNeg (nI n).toNatClampNeg).1 2006 0) = 0 then
    (fO_stepByRank N n (me_cp μ 20 22 (0 : Int32).toNatClampNeg (0 : Int32).toNatClampNeg (nI n).toNatClampNeg)).bind fun r9 =>
    fO_stepOnce_51 N n r9
  else
    if ((me_cp μ 20 22 (0 : Int32).toNatClampNeg (0 : Int32).toNatClampNeg (nI n).toNatClampNeg).1 2006 0) = (1 : Int32) then
      (fO_stepByGreatest N n (me_cp μ 20 22 (0 : Int32).toNatClampNeg (0 : Int32).toNatClampNeg (nI n).toNatClampNeg)).bind fun r8 =>
      fO_stepOnce_51 N n r8
    else
      (fO_stepByShares N n (me_cp μ 20 22 (0 : Int32).toNatClampNeg (0 : Int32).toNatClampNeg (nI n).toNatClampNeg)).bind fun r7 =>
      fO_stepOnce_51 N n r7
def fO_advance_30 (N : Nat) (n : Nat) (l1 : Int32) (μ : me_M) : Option (Int32 × me_M) :=
  some (l1, μ)
def fO_advance_2b (N : Nat) (n : Nat) (k2 : Int32 → Int32 → me_M → Option (Int32 × me_M)) (l1 : Int32) (l2 : Int32) (μ : me_M) : Option (Int32 × me_M) :=
  if l1 ≤ l2 then
    fO_advance_30 N n l1 μ
  else
    (fO_stepOnce N n μ).bind fun r2 =>
    if (lg_cmp (r2.2 2003 0) (0 : Int64)) = 0 then
      some (l2 + (1 : Int32), r2)
    else
      k2 l1 (l2 + (1 : Int32)) r2
def fO_advance_2 (N : Nat) (n : Nat) (F : Nat) : Int32 → Int32 → me_M → Option (Int32 × me_M) := Nat.rec (motive := fun _ => Int32 → Int32 → me_M → Option (Int32 × me_M)) (fun _ _ _ => none) (fun _ k2 => fO_advance_2b N n k2) F
def fO_advance (N : Nat) (n : Nat) (l1 : Int32) (μ : me_M) : Option (Int32 × me_M) :=
  fO_advance_2 N n N l1 (0 : Int32) μ
def fA_step_22 (N : Nat) (n : Nat) (s0 : Int32) (μ : me_M) : Option (Int32 × me_M) :=
  some (s0, μ)
def fA_step (N : Nat) (n : Nat) (l1 : Int32) (μ : me_M) : Option (Int32 × me_M) :=
  (fA_within N l1 (0 : Int32) (20 : Int32)).bind fun r1 =>
  if r1 = 0 then
    fA_step_22 N n (-1 : Int32) μ
  else
    (fO_advance N n l1 μ).bind fun r3 =>
    fA_step_22 N n r3.1 r3.2
def fA_score_23 (N : Nat) (n : Nat) (μ : me_M) (s0 : Int64) : Option Int64 :=
  some s0
def fA_score (N : Nat) (n : Nat) (μ : me_M) (l1 : Int32) : Option Int64 :=
  (fA_isNode N n μ l1).bind fun r1 =>
  if r1 = 0 then
    fA_score_23 N n μ (-1 : Int64)
  else
    me_gi l1 n <|
    fA_score_23 N n μ (μ.2 20 l1.toNatClampNeg)
def fA_hub_23 (N : Nat) (n : Nat) (μ : me_M) (s0 : Int64) : Option Int64 :=
  some s0
def fA_hub (N : Nat) (n : Nat) (μ : me_M) (l1 : Int32) : Option Int64 :=
  (fA_isNode N n μ l1).bind fun r1 =>
  if r1 = 0 then
    fA_hub_23 N n μ (-1 : Int64)
  else
    me_gi l1 n <|
    fA_hub_23 N n μ (μ.2 21 l1.toNatClampNeg)
def fO_placeOf_59 (N : Nat) (n : Nat) (μ : me_M) (l2 : Int32) : Option Int32 :=
  some l2
def fO_placeOf_53 (N : Nat) (n : Nat) (μ : me_M) (k4 : Int32 → Int32 → Int32 → Option Int32) (l1 : Int32) (l2 : Int32) (l3 : Int32) : Option Int32 :=
  k4 l1 l2 (l3 + (1 : Int32))
def fO_placeOf_50 (N : Nat) (n : Nat) (μ : me_M) (k4 : Int32 → Int32 → Int32 → Option Int32) (l1 : Int32) (l2 : Int32) (l3 : Int32) : Option Int32 :=
  fO_placeOf_53 N n μ k4 l1 (l2 + (1 : Int32)) l3
def fO_placeOf_4b (N : Nat) (n : Nat) (μ : me_M) (k4 : Int32 → Int32 → Int32 → Option Int32) (l1 : Int32) (l2 : Int32) (l3 : Int32) : Option Int32 :=
  if (nI n) ≤ l3 then
    fO_placeOf_59 N n μ l2
  else
    me_gi l3 n <|
    me_gi l1 n <|
    if 0 < (lg_cmp (μ.2 20 l3.toNatClampNeg) (μ.2 20 l1.toNatClampNeg)) then
      fO_placeOf_50 N n μ k4 l1 l2 l3
    else
      me_gi l3 n <|
      me_gi l1 n <|
      if (lg_cmp (μ.2 20 l3.toNatClampNeg) (μ.2 20 l1.toNatClampNeg)) = 0 then
        if l1 ≤ l3 then
          fO_placeOf_53 N n μ k4 l1 l2 l3
        else
          fO_placeOf_50 N n μ k4 l1 l2 l3
      else
        fO_placeOf_53 N n μ k4 l1 l2 l3
def fO_placeOf_4 (N : Nat) (n : Nat) (μ : me_M) (F : Nat) : Int32 → Int32 → Int32 → Option Int32 := Nat.rec (motive := fun _ => Int32 → Int32 → Int32 → Option Int32) (fun _ _ _ => none) (fun _ k4 => fO_placeOf_4b N n μ k4) F
def fO_placeOf (N : Nat) (n : Nat) (μ : me_M) (l1 : Int32) : Option Int32 :=
  fO_placeOf_4 N n μ N l1 (0 : Int32) (0 : Int32)
def fA_top_30 (N : Nat) (n : Nat) (μ : me_M) : Option Int32 :=
  some (-1 : Int32)
def fA_top_2b (N : Nat) (n : Nat) (μ : me_M) (k2 : Int32 → Int32 → Option Int32) (l1 : Int32) (l2 : Int32) : Option Int32 :=
  if (nI n) ≤ l2 then
    fA_top_30 N n μ
  else
    (fO_placeOf N n μ l2).bind fun r2 =>
    if r2 = l1 then
      some l2
    else
      k2 l1 (l2 + (1 : Int32))
def fA_top_2 (N : Nat) (n : Nat) (μ : me_M) (F : Nat) : Int32 → Int32 → Option Int32 := Nat.rec (motive := fun _ => Int32 → Int32 → Option Int32) (fun _ _ => none) (fun _ k2 => fA_top_2b N n μ k2) F
def fA_top (N : Nat) (n : Nat) (μ : me_M) (l1 : Int32) : Option Int32 :=
  fA_top_2 N n μ N l1 (0 : Int32)
def fA_change (N : Nat) (n : Nat) (μ : me_M) : Option Int64 :=
  some (μ.2 2003 0)
def fM_ones_24 (N : Nat) (l1 : Int32) : Option Int32 :=
  some l1
def fM_ones_4b (N : Nat) (k4 : Int32 → Int32 → Int32 → Option Int32) (l0 : Int32) (l1 : Int32) (l2 : Int32) : Option Int32 :=
  if (12 : Int32) ≤ l2 then
    fM_ones_24 N l1
  else
    k4 l0 (l1 + ((l0 >>> (l2 &&& 31)) &&& (1 : Int32))) (l2 + (1 : Int32))
def fM_ones_4 (N : Nat) (F : Nat) : Int32 → Int32 → Int32 → Option Int32 := Nat.rec (motive := fun _ => Int32 → Int32 → Int32 → Option Int32) (fun _ _ _ => none) (fun _ k4 => fM_ones_4b N k4) F
def fM_ones (N : Nat) (l0 : Int32) : Option Int32 :=
  fM_ones_4 N N l0 (0 : Int32) (0 : Int32)
def fM_put (N : Nat) (l1 : Int32) (μ : me_M) : Option me_M :=
  me_gi (μ.1 103 0) 2048 <|
  some (me_wi (me_wi μ 2 (μ.1 103 0).toNatClampNeg l1) 103 0 (((me_wi μ 2 (μ.1 103 0).toNatClampNeg l1).1 103 0) + (1 : Int32)))
def fM_putUnary_18 (N : Nat) (μ : me_M) : Option me_M :=
  (fM_put N (1 : Int32) μ).bind fun r1 =>
  some r1
def fM_putUnary_2b (N : Nat) (k2 : Int32 → Int32 → me_M → Option me_M) (l1 : Int32) (l2 : Int32) (μ : me_M) : Option me_M :=
  if l1 ≤ l2 then
    fM_putUnary_18 N μ
  else
    (fM_put N (0 : Int32) μ).bind fun r3 =>
    k2 l1 (l2 + (1 : Int32)) r3
def fM_putUnary_2 (N : Nat) (F : Nat) : Int32 → Int32 → me_M → Option me_M := Nat.rec (motive := fun _ => Int32 → Int32 → me_M → Option me_M) (fun _ _ _ => none) (fun _ k2 => fM_putUnary_2b N k2) F
def fM_putUnary (N : Nat) (l1 : Int32) (μ : me_M) : Option me_M :=
  fM_putUnary_2 N N l1 (0 : Int32) μ
def fM_putNumber_23 (N : Nat) (μ : me_M) : Option me_M :=
  some μ
def fM_putNumber_4b (N : Nat) (k4 : Int32 → Int32 → me_M → Option me_M) (l1 : Int32) (l3 : Int32) (μ : me_M) : Option me_M :=
  if l3 < 0 then
    fM_putNumber_23 N μ
  else
    (fM_put N ((l1 >>> (l3 &&& 31)) &&& (1 : Int32)) μ).bind fun r2 =>
    k4 l1 (l3 + (-1 : Int32)) r2
def fM_putNumber_4 (N : Nat) (F : Nat) : Int32 → Int32 → me_M → Option me_M := Nat.rec (motive := fun _ => Int32 → Int32 → me_M → Option me_M) (fun _ _ _ => none) (fun _ k4 => fM_putNumber_4b N k4) F
def fM_putNumber (N : Nat) (l1 : Int32) (l2 : Int32) (μ : me_M) : Option me_M :=
  fM_putNumber_4 N N l1 (l2 - (1 : Int32)) μ
def fM_putGamma_25 (N : Nat) (l1 : Int32) (l2 : Int32) (μ : me_M) : Option me_M :=
  (fM_putUnary N l2 μ).bind fun r1 =>
  (fM_putNumber N (l1 + (1 : Int32)) l2 r1).bind fun r2 =>
  some r2
def fM_putGamma_2b (N : Nat) (k2 : Int32 → Int32 → me_M → Option me_M) (l1 : Int32) (l2 : Int32) (μ : me_M) : Option me_M :=
  if (20 : Int32) ≤ l2 then
    fM_putGamma_25 N l1 l2 μ
  else
    if (l1 + (1 : Int32)) < ((1 : Int32) <<< ((l2 + (1 : Int32)) &&& 31)) then
      fM_putGamma_25 N l1 l2 μ
    else
      k2 l1 (l2 + (1 : Int32)) μ
def fM_putGamma_2 (N : Nat) (F : Nat) : Int32 → Int32 → me_M → Option me_M := Nat.rec (motive := fun _ => Int32 → Int32 → me_M → Option me_M) (fun _ _ _ => none) (fun _ k2 => fM_putGamma_2b N k2) F
def fM_putGamma (N : Nat) (l1 : Int32) (μ : me_M) : Option me_M :=
  fM_putGamma_2 N N l1 (0 : Int32) μ
def fM_putRuns_117 (N : Nat) (μ : me_M) : Option me_M :=
  some μ
def fM_putRuns_108 (N : Nat) (k78 : Int32 → Int32 → me_M → Option me_M) (l3 : Int32) (l6 : Int32) (s1 : Int32) (μ : me_M) : Option me_M :=
  (fM_putGamma N s1 μ).bind fun r1 =>
  k78 l3 (l6 + (1 : Int32)) r1
def fM_putRuns_78b (N : Nat) (k78 : Int32 → Int32 → me_M → Option me_M) (l3 : Int32) (l6 : Int32) (μ : me_M) : Option me_M :=
  if l3 ≤ l6 then
    fM_putRuns_117 N μ
  else
    if l6 = 0 then
      me_gi (0 : Int32) 13 <|
      fM_putRuns_108 N k78 l3 l6 (μ.1 5 (0 : Int32).toNatClampNeg) μ
    else
      me_gi l6 13 <|
      fM_putRuns_108 N k78 l3 l6 ((μ.1 5 l6.toNatClampNeg) - (1 : Int32)) μ
def fM_putRuns_78 (N : Nat) (F : Nat) : Int32 → Int32 → me_M → Option me_M := Nat.rec (motive := fun _ => Int32 → Int32 → me_M → Option me_M) (fun _ _ _ => none) (fun _ k78 => fM_putRuns_78b N k78) F
def fM_putRuns_70 (N : Nat) (l3 : Int32) (μ : me_M) : Option me_M :=
  (fM_putGamma N l3 μ).bind fun r6 =>
  fM_putRuns_78 N N l3 (0 : Int32) r6
def fM_putRuns_64 (N : Nat) (k11 : Int32 → Int32 → Int32 → Int32 → Int32 → Int32 → me_M → Option me_M) (l1 : Int32) (l2 : Int32) (l3 : Int32) (l4 : Int32) (l5 : Int32) (l6 : Int32) (μ : me_M) : Option me_M :=
  k11 l1 l2 l3 l4 l5 (l6 + (1 : Int32)) μ
def fM_putRuns_61 (N : Nat) (k11 : Int32 → Int32 → Int32 → Int32 → Int32 → Int32 → me_M → Option me_M) (l1 : Int32) (l2 : Int32) (l3 : Int32) (l4 : Int32) (l5 : Int32) (l6 : Int32) (μ : me_M) : Option me_M :=
  fM_putRuns_64 N k11 l1 l2 l3 l4 (l5 + (1 : Int32)) l6 μ
def fM_putRuns_11b (N : Nat) (k11 : Int32 → Int32 → Int32 → Int32 → Int32 → Int32 → me_M → Option me_M) (l1 : Int32) (l2 : Int32) (l3 : Int32) (l4 : Int32) (l5 : Int32) (l6 : Int32) (μ : me_M) : Option me_M :=
  if (μ.1 100 0) ≤ l6 then
    fM_putRuns_70 N l3 μ
  else
    if ((l2 >>> (l6 &&& 31)) &&& (1 : Int32)) = (1 : Int32) then
      if ((l1 >>> (l6 &&& 31)) &&& (1 : Int32)) = l4 then
        fM_putRuns_61 N k11 l1 l2 l3 l4 l5 l6 μ
      else
        me_gi l3 13 <|
        fM_putRuns_61 N k11 l1 l2 (l3 + (1 : Int32)) ((1 : Int32) - l4) (0 : Int32) l6 (me_wi μ 5 l3.toNatClampNeg l5)
    else
      fM_putRuns_64 N k11 l1 l2 l3 l4 l5 l6 μ
def fM_putRuns_11 (N : Nat) (F : Nat) : Int32 → Int32 → Int32 → Int32 → Int32 → Int32 → me_M → Option me_M := Nat.rec (motive := fun _ => Int32 → Int32 → Int32 → Int32 → Int32 → Int32 → me_M → Option me_M) (fun _ _ _ _ _ _ _ => none) (fun _ k11 => fM_putRuns_11b N k11) F
def fM_putRuns (N : Nat) (l1 : Int32) (l2 : Int32) (μ : me_M) : Option me_M :=
  fM_putRuns_11 N N l1 l2 (0 : Int32) (1 : Int32) (0 : Int32) (0 : Int32) μ
def fM_rowAt_54 (N : Nat) (μ : me_M) (l3 : Int32) : Option Int32 :=
  some l3
def fM_rowAt_27b (N : Nat) (μ : me_M) (k27 : Int32 → Int32 → Int32 → Option Int32) (l1 : Int32) (l2 : Int32) (l3 : Int32) : Option Int32 :=
  if (μ.1 100 0) ≤ (l2 + l3) then
    fM_rowAt_54 N μ l3
  else
    if ((l1 >>> ((l2 + l3) &&& 31)) &&& (1 : Int32)) = (1 : Int32) then
      k27 l1 l2 (l3 + (1 : Int32))
    else
      fM_rowAt_54 N μ l3
def fM_rowAt_27 (N : Nat) (μ : me_M) (F : Nat) : Int32 → Int32 → Int32 → Option Int32 := Nat.rec (motive := fun _ => Int32 → Int32 → Int32 → Option Int32) (fun _ _ _ => none) (fun _ k27 => fM_rowAt_27b N μ k27) F
def fM_rowAt_25 (N : Nat) (μ : me_M) (l1 : Int32) (l2 : Int32) : Option Int32 :=
  fM_rowAt_27 N μ N l1 l2 (0 : Int32)
def fM_rowAt_23 (N : Nat) (μ : me_M) : Option Int32 :=
  some (0 : Int32)
def fM_rowAt (N : Nat) (μ : me_M) (l1 : Int32) (l2 : Int32) : Option Int32 :=
  if ((l1 >>> (l2 &&& 31)) &&& (1 : Int32)) = 0 then
    fM_rowAt_23 N μ
  else
    if l2 ≤ 0 then
      fM_rowAt_25 N μ l1 l2
    else
      if ((l1 >>> ((l2 - (1 : Int32)) &&& 31)) &&& (1 : Int32)) = (1 : Int32) then
        fM_rowAt_23 N μ
      else
        fM_rowAt_25 N μ l1 l2
def fM_natural_16 (N : Nat) (s0 : Int32) : Option Int32 :=
  some s0
def fM_natural (N : Nat) (l0 : Int32) : Option Int32 :=
  if l0 < 0 then
    fM_natural_16 N (((-2 : Int32) * l0) - (1 : Int32))
  else
    fM_natural_16 N ((2 : Int32) * l0)
def fM_putZeta_96 (N : Nat) (μ : me_M) : Option me_M :=
  some μ
def fM_putZeta_30 (N : Nat) (l1 : Int32) (l2 : Int32) (μ : me_M) : Option me_M :=
  (fM_putUnary N l2 μ).bind fun r1 =>
  if ((2 : Int32) * ((1 : Int32) <<< ((l2 * (r1.1 108 0)) &&& 31))) ≤ (l1 + (1 : Int32)) then
    (fM_putNumber N (l1 + (1 : Int32)) ((l2 * (r1.1 108 0)) + (r1.1 108 0)) r1).bind fun r3 =>
    fM_putZeta_96 N r3
  else
    (fM_putNumber N ((l1 + (1 : Int32)) - ((1 : Int32) <<< ((l2 * (r1.1 108 0)) &&& 31))) (((l2 * (r1.1 108 0)) + (r1.1 108 0)) - (1 : Int32)) r1).bind fun r4 =>
    fM_putZeta_96 N r4
def fM_putZeta_2b (N : Nat) (k2 : Int32 → Int32 → me_M → Option me_M) (l1 : Int32) (l2 : Int32) (μ : me_M) : Option me_M :=
  if (6 : Int32) ≤ l2 then
    fM_putZeta_30 N l1 l2 μ
  else
    if (l1 + (1 : Int32)) < ((1 : Int32) <<< (((l2 + (1 : Int32)) * (μ.1 108 0)) &&& 31)) then
      fM_putZeta_30 N l1 l2 μ
    else
      k2 l1 (l2 + (1 : Int32)) μ
def fM_putZeta_2 (N : Nat) (F : Nat) : Int32 → Int32 → me_M → Option me_M := Nat.rec (motive := fun _ => Int32 → Int32 → me_M → Option me_M) (fun _ _ _ => none) (fun _ k2 => fM_putZeta_2b N k2) F
def fM_putZeta (N : Nat) (l1 : Int32) (μ : me_M) : Option me_M :=
  fM_putZeta_2 N N l1 (0 : Int32) μ
def fM_putRest_220 (N : Nat) (μ : me_M) : Option me_M :=
  some μ
def fM_putRest_214 (N : Nat) (k165 : Int32 → Int32 → Int32 → Int32 → me_M → Option me_M) (l1 : Int32) (l3 : Int32) (l4 : Int32) (l5 : Int32) (μ : me_M) : Option me_M :=
  k165 l1 l3 l4 (l5 + (1 : Int32)) μ
def fM_putRest_207 (N : Nat) (k165 : Int32 → Int32 → Int32 → Int32 → me_M → Option me_M) (l1 : Int32) (l3 : Int32) (l5 : Int32) (s1 : Int32) (μ : me_M) : Option me_M :=
  (fM_putZeta N s1 μ).bind fun r1 =>
  fM_putRest_214 N k165 l1 l3 l5 l5 r1
def fM_putRest_165b (N : Nat) (k165 : Int32 → Int32 → Int32 → Int32 → me_M → Option me_M) (l1 : Int32) (l3 : Int32) (l4 : Int32) (l5 : Int32) (μ : me_M) : Option me_M :=
  if (μ.1 100 0) ≤ l5 then
    fM_putRest_220 N μ
  else
    if ((l3 >>> (l5 &&& 31)) &&& (1 : Int32)) = (1 : Int32) then
      if 0 ≤ l4 then
        fM_putRest_207 N k165 l1 l3 l5 ((l5 - l4) - (1 : Int32)) μ
      else
        (fM_natural N (l5 - l1)).bind fun r5 =>
        fM_putRest_207 N k165 l1 l3 l5 r5 μ
    else
      fM_putRest_214 N k165 l1 l3 l4 l5 μ
def fM_putRest_165 (N : Nat) (F : Nat) : Int32 → Int32 → Int32 → Int32 → me_M → Option me_M := Nat.rec (motive := fun _ => Int32 → Int32 → Int32 → Int32 → me_M → Option me_M) (fun _ _ _ _ _ => none) (fun _ k165 => fM_putRest_165b N k165) F
def fM_putRest_159 (N : Nat) (l1 : Int32) (l3 : Int32) (μ : me_M) : Option me_M :=
  fM_putRest_165 N N l1 l3 (-1 : Int32) (0 : Int32) μ
def fM_putRest_153 (N : Nat) (k66 : Int32 → Int32 → Int32 → Int32 → Int32 → me_M → Option me_M) (l1 : Int32) (l2 : Int32) (l3 : Int32) (l5 : Int32) (l6 : Int32) (μ : me_M) : Option me_M :=
  k66 l1 l2 l3 l5 (l6 + (1 : Int32)) μ
def fM_putRest_116 (N : Nat) (k66 : Int32 → Int32 → Int32 → Int32 → Int32 → me_M → Option me_M) (l1 : Int32) (l2 : Int32) (l3 : Int32) (l6 : Int32) (l7 : Int32) (s1 : Int32) (μ : me_M) : Option me_M :=
  (fM_putGamma N s1 μ).bind fun r6 =>
  (fM_putGamma N (l7 - (r6.1 107 0)) r6).bind fun r7 =>
  fM_putRest_153 N k66 l1 l2 (l3 &&& (((((1 : Int32) <<< (l7 &&& 31)) - (1 : Int32)) <<< (l6 &&& 31)) ^^^ (-1 : Int32))) ((l6 + l7) - (1 : Int32)) l6 r7
def fM_putRest_66b (N : Nat) (k66 : Int32 → Int32 → Int32 → Int32 → Int32 → me_M → Option me_M) (l1 : Int32) (l2 : Int32) (l3 : Int32) (l5 : Int32) (l6 : Int32) (μ : me_M) : Option me_M :=
  if (μ.1 100 0) ≤ l6 then
    fM_putRest_159 N l1 l3 μ
  else
    (fM_rowAt N μ l2 l6).bind fun r9 =>
    if r9 < (μ.1 107 0) then
      fM_putRest_153 N k66 l1 l2 l3 l5 l6 μ
    else
      if 0 ≤ l5 then
        fM_putRest_116 N k66 l1 l2 l3 l6 r9 ((l6 - l5) - (2 : Int32)) μ
      else
        (fM_natural N (l6 - l1)).bind fun r12 =>
        fM_putRest_116 N k66 l1 l2 l3 l6 r9 r12 μ
def fM_putRest_66 (N : Nat) (F : Nat) : Int32 → Int32 → Int32 → Int32 → Int32 → me_M → Option me_M := Nat.rec (motive := fun _ => Int32 → Int32 → Int32 → Int32 → Int32 → me_M → Option me_M) (fun _ _ _ _ _ _ => none) (fun _ k66 => fM_putRest_66b N k66) F
def fM_putRest_54 (N : Nat) (l1 : Int32) (l2 : Int32) (l3 : Int32) (l4 : Int32) (μ : me_M) : Option me_M :=
  (fM_putGamma N l4 μ).bind fun r13 =>
  fM_putRest_66 N N l1 l2 l3 (-1 : Int32) (0 : Int32) r13
def fM_putRest_45 (N : Nat) (k15 : Int32 → Int32 → Int32 → Int32 → Int32 → me_M → Option me_M) (l1 : Int32) (l2 : Int32) (l3 : Int32) (l5 : Int32) (s0 : Int32) (s1 : Int32) (μ : me_M) : Option me_M :=
  k15 l1 l2 l3 (s0 + s1) (l5 + (1 : Int32)) μ
def fM_putRest_15b (N : Nat) (k15 : Int32 → Int32 → Int32 → Int32 → Int32 → me_M → Option me_M) (l1 : Int32) (l2 : Int32) (l3 : Int32) (l4 : Int32) (l5 : Int32) (μ : me_M) : Option me_M :=
  if (μ.1 100 0) ≤ l5 then
    fM_putRest_54 N l1 l2 l3 l4 μ
  else
    (fM_rowAt N μ l2 l5).bind fun r15 =>
    if r15 < (μ.1 107 0) then
      fM_putRest_45 N k15 l1 l2 l3 l5 l4 (0 : Int32) μ
    else
      fM_putRest_45 N k15 l1 l2 l3 l5 l4 (1 : Int32) μ
def fM_putRest_15 (N : Nat) (F : Nat) : Int32 → Int32 → Int32 → Int32 → Int32 → me_M → Option me_M := Nat.rec (motive := fun _ => Int32 → Int32 → Int32 → Int32 → Int32 → me_M → Option me_M) (fun _ _ _ _ _ _ => none) (fun _ k15 => fM_putRest_15b N k15) F
def fM_putRest (N : Nat) (l1 : Int32) (l2 : Int32) (μ : me_M) : Option me_M :=
  if (μ.1 107 0) ≤ 0 then
    fM_putRest_159 N l1 l2 μ
  else
    fM_putRest_15 N N l1 l2 l2 (0 : Int32) (0 : Int32) μ
def fM_putRecord_78 (N : Nat) (μ : me_M) : Option me_M :=
  some μ
def fM_putRecord_66 (N : Nat) (l1 : Int32) (l4 : Int32) (μ : me_M) : Option me_M :=
  if l4 = 0 then
    fM_putRecord_78 N μ
  else
    (fM_putRest N l1 l4 μ).bind fun r2 =>
    fM_putRecord_78 N r2
def fM_putRecord_32 (N : Nat) (l1 : Int32) (l2 : Int32) (l3 : Int32) (μ : me_M) : Option me_M :=
  if l2 ≤ 0 then
    fM_putRecord_66 N l1 l3 μ
  else
    me_gi (l1 - l2) 12 <|
    (fM_putRuns N l3 (μ.1 1 (l1 - l2).toNatClampNeg) μ).bind fun r5 =>
    me_gi (l1 - l2) 12 <|
    fM_putRecord_66 N l1 (l3 &&& ((r5.1 1 (l1 - l2).toNatClampNeg) ^^^ (-1 : Int32))) r5
def fM_putRecord (N : Nat) (l1 : Int32) (l2 : Int32) (μ : me_M) : Option me_M :=
  me_gi l1 12 <|
  (fM_ones N (μ.1 1 l1.toNatClampNeg)).bind fun r8 =>
  (fM_putGamma N r8 μ).bind fun r9 =>
  if (μ.1 1 l1.toNatClampNeg) = 0 then
    some r9
  else
    if (r9.1 105 0) ≤ 0 then
      fM_putRecord_32 N l1 l2 (μ.1 1 l1.toNatClampNeg) r9
    else
      (fM_putUnary N l2 r9).bind fun r12 =>
      fM_putRecord_32 N l1 l2 (μ.1 1 l1.toNatClampNeg) r12
def fM_pack_281 (N : Nat) (μ : me_M) : Option (Int32 × me_M) :=
  me_gi (μ.1 100 0) 13 <|
  some ((me_wi μ 3 (μ.1 100 0).toNatClampNeg (μ.1 103 0)).1 103 0, me_wi μ 3 (μ.1 100 0).toNatClampNeg (μ.1 103 0))
def fM_pack_274 (N : Nat) (k72 : Int32 → me_M → Option (Int32 × me_M)) (l5 : Int32) (s1 : Int32) (s2 : Int32) (μ : me_M) : Option (Int32 × me_M) :=
  me_gi s1 12 <|
  k72 (l5 + (1 : Int32)) (me_wi μ 4 s1.toNatClampNeg s2)
def fM_pack_239 (N : Nat) (k72 : Int32 → me_M → Option (Int32 × me_M)) (l5 : Int32) (l6 : Int32) (μ : me_M) : Option (Int32 × me_M) :=
  (fM_putRecord N l5 l6 μ).bind fun r3 =>
  if l6 ≤ 0 then
    fM_pack_274 N k72 l5 l5 (0 : Int32) r3
  else
    me_gi (l5 - l6) 12 <|
    fM_pack_274 N k72 l5 l5 ((1 : Int32) + (r3.1 4 (l5 - l6).toNatClampNeg)) r3
def fM_pack_233 (N : Nat) (k72 : Int32 → me_M → Option (Int32 × me_M)) (k102 : Int32 → Int32 → Int32 → Int32 → me_M → Option (Int32 × me_M)) (l5 : Int32) (l6 : Int32) (l7 : Int32) (l8 : Int32) (μ : me_M) : Option (Int32 × me_M) :=
  k102 l5 l6 l7 (l8 + (1 : Int32)) μ
def fM_pack_231 (N : Nat) (k72 : Int32 → me_M → Option (Int32 × me_M)) (k102 : Int32 → Int32 → Int32 → Int32 → me_M → Option (Int32 × me_M)) (l5 : Int32) (l6 : Int32) (l8 : Int32) (s0 : Int32) (μ : me_M) : Option (Int32 × me_M) :=
  fM_pack_233 N k72 k102 l5 l6 s0 l8 μ
def fM_pack_215 (N : Nat) (k72 : Int32 → me_M → Option (Int32 × me_M)) (k102 : Int32 → Int32 → Int32 → Int32 → me_M → Option (Int32 × me_M)) (l5 : Int32) (l7 : Int32) (l8 : Int32) (l9 : Int32) (s0 : Int32) (μ : me_M) : Option (Int32 × me_M) :=
  if l7 ≤ l9 then
    fM_pack_231 N k72 k102 l5 s0 l8 l7 μ
  else
    fM_pack_231 N k72 k102 l5 s0 l8 l9 μ
def fM_pack_168 (N : Nat) (k72 : Int32 → me_M → Option (Int32 × me_M)) (k102 : Int32 → Int32 → Int32 → Int32 → me_M → Option (Int32 × me_M)) (l5 : Int32) (l6 : Int32) (l7 : Int32) (l8 : Int32) (μ : me_M) : Option (Int32 × me_M) :=
  (fM_putRecord N l5 l8 μ).bind fun r7 =>
  me_gi l5 13 <|
  me_gi l5 13 <|
  if l7 ≤ ((r7.1 103 0) - (r7.1 3 l5.toNatClampNeg)) then
    fM_pack_215 N k72 k102 l5 l7 l8 ((r7.1 103 0) - (r7.1 3 l5.toNatClampNeg)) l6 (me_wi r7 103 0 (r7.1 3 l5.toNatClampNeg))
  else
    fM_pack_215 N k72 k102 l5 l7 l8 ((r7.1 103 0) - (r7.1 3 l5.toNatClampNeg)) l8 (me_wi r7 103 0 (r7.1 3 l5.toNatClampNeg))
def fM_pack_133 (N : Nat) (k72 : Int32 → me_M → Option (Int32 × me_M)) (k102 : Int32 → Int32 → Int32 → Int32 → me_M → Option (Int32 × me_M)) (l5 : Int32) (l6 : Int32) (l7 : Int32) (l8 : Int32) (μ : me_M) : Option (Int32 × me_M) :=
  if l8 = 0 then
    fM_pack_168 N k72 k102 l5 l6 l7 l8 μ
  else
    me_gi (l5 - l8) 12 <|
    if (μ.1 1 (l5 - l8).toNatClampNeg) = 0 then
      fM_pack_233 N k72 k102 l5 l6 l7 l8 μ
    else
      me_gi (l5 - l8) 12 <|
      if (μ.1 106 0) ≤ (μ.1 4 (l5 - l8).toNatClampNeg) then
        fM_pack_233 N k72 k102 l5 l6 l7 l8 μ
      else
        fM_pack_168 N k72 k102 l5 l6 l7 l8 μ
def fM_pack_102b (N : Nat) (k72 : Int32 → me_M → Option (Int32 × me_M)) (k102 : Int32 → Int32 → Int32 → Int32 → me_M → Option (Int32 × me_M)) (l5 : Int32) (l6 : Int32) (l7 : Int32) (l8 : Int32) (μ : me_M) : Option (Int32 × me_M) :=
  if (μ.1 105 0) < l8 then
    fM_pack_239 N k72 l5 l6 μ
  else
    if l5 < l8 then
      fM_pack_239 N k72 l5 l6 μ
    else
      if l8 = 0 then
        fM_pack_133 N k72 k102 l5 l6 l7 l8 μ
      else
        me_gi l5 12 <|
        if (μ.1 1 l5.toNatClampNeg) = 0 then
          fM_pack_239 N k72 l5 l6 μ
        else
          fM_pack_133 N k72 k102 l5 l6 l7 l8 μ
def fM_pack_102 (N : Nat) (k72 : Int32 → me_M → Option (Int32 × me_M)) (F : Nat) : Int32 → Int32 → Int32 → Int32 → me_M → Option (Int32 × me_M) := Nat.rec (motive := fun _ => Int32 → Int32 → Int32 → Int32 → me_M → Option (Int32 × me_M)) (fun _ _ _ _ _ => none) (fun _ k102 => fM_pack_102b N k72 k102) F
def fM_pack_72b (N : Nat) (k72 : Int32 → me_M → Option (Int32 × me_M)) (l5 : Int32) (μ : me_M) : Option (Int32 × me_M) :=
  if (μ.1 100 0) ≤ l5 then
    fM_pack_281 N μ
  else
    me_gi l5 13 <|
    fM_pack_102 N k72 N l5 (0 : Int32) (1048576 : Int32) (0 : Int32) (me_wi μ 3 l5.toNatClampNeg (μ.1 103 0))
def fM_pack_72 (N : Nat) (F : Nat) : Int32 → me_M → Option (Int32 × me_M) := Nat.rec (motive := fun _ => Int32 → me_M → Option (Int32 × me_M)) (fun _ _ => none) (fun _ k72 => fM_pack_72b N k72) F
def fM_pack_41 (N : Nat) (μ : me_M) : Option (Int32 × me_M) :=
  some ((-1 : Int32), μ)
def fM_pack (N : Nat) (l1 : Int32) (l2 : Int32) (l3 : Int32) (l4 : Int32) (μ : me_M) : Option (Int32 × me_M) :=
  if l1 < 0 then
    fM_pack_41 N μ
  else
    if (6 : Int32) < l1 then
      fM_pack_41 N μ
    else
      if l2 < 0 then
        fM_pack_41 N μ
      else
        if (3 : Int32) < l2 then
          fM_pack_41 N μ
        else
          if l3 < 0 then
            fM_pack_41 N μ
          else
            if (9 : Int32) < l3 then
              fM_pack_41 N μ
            else
              if l4 < (1 : Int32) then
                fM_pack_41 N μ
              else
                if l4 ≤ (4 : Int32) then
                  fM_pack_72 N N (0 : Int32) (me_wi (me_wi (me_wi (me_wi (me_wi μ 105 0 l1) 106 0 l2) 107 0 l3) 108 0 l4) 103 0 (0 : Int32))
                else
                  fM_pack_41 N μ
def fM_start_97 (N : Nat) (μ : me_M) : Option (Int32 × me_M) :=
  me_gz (1 : Int32) <|
  some ((1 : Int32), μ)
def fM_start_90 (N : Nat) (k39 : Int32 → Int32 → me_M → Option (Int32 × me_M)) (l1 : Int32) (l3 : Int32) (s1 : Int32) (s2 : Int64) (μ : me_M) : Option (Int32 × me_M) :=
  me_gi s1 12 <|
  k39 l1 (l3 + (1 : Int32)) (me_wl μ 12 s1.toNatClampNeg s2)
def fM_start_72 (N : Nat) (k39 : Int32 → Int32 → me_M → Option (Int32 × me_M)) (l1 : Int32) (l3 : Int32) (s1 : Int32) (s2 : Int64) (μ : me_M) : Option (Int32 × me_M) :=
  me_gi s1 12 <|
  if l1 = (1 : Int32) then
    fM_start_90 N k39 l1 l3 l3 (1000000 : Int64) (me_wl μ 11 s1.toNatClampNeg s2)
  else
    fM_start_90 N k39 l1 l3 l3 (0 : Int64) (me_wl μ 11 s1.toNatClampNeg s2)
def fM_start_39b (N : Nat) (k39 : Int32 → Int32 → me_M → Option (Int32 × me_M)) (l1 : Int32) (l3 : Int32) (μ : me_M) : Option (Int32 × me_M) :=
  if (μ.1 100 0) ≤ l3 then
    fM_start_97 N μ
  else
    if l1 = (1 : Int32) then
      fM_start_72 N k39 l1 l3 l3 (1000000 : Int64) μ
    else
      me_gd ((μ.1 100 0).toInt64) 0 <|
      fM_start_72 N k39 l1 l3 l3 ((1000000000000 : Int64) / ((μ.1 100 0).toInt64)) μ
def fM_start_39 (N : Nat) (F : Nat) : Int32 → Int32 → me_M → Option (Int32 × me_M) := Nat.rec (motive := fun _ => Int32 → Int32 → me_M → Option (Int32 × me_M)) (fun _ _ _ => none) (fun _ k39 => fM_start_39b N k39) F
def fM_start_20 (N : Nat) (μ : me_M) : Option (Int32 × me_M) :=
  me_gz (0 : Int32) <|
  some ((0 : Int32), μ)
def fM_start (N : Nat) (l1 : Int32) (l2 : Int32) (μ : me_M) : Option (Int32 × me_M) :=
  if l1 < 0 then
    fM_start_20 N μ
  else
    if (2 : Int32) < l1 then
      fM_start_20 N μ
    else
      if l2 < 0 then
        fM_start_20 N μ
      else
        if l2 ≤ (1000 : Int32) then
          fM_start_39 N N l1 (0 : Int32) (me_wl (me_wi (me_wi μ 120 0 l1) 121 0 l2) 125 0 (0 : Int64))
        else
          fM_start_20 N μ
def fM_node_17 (N : Nat) (μ : me_M) (s0 : Int32) : Option Int32 :=
  me_gz s0 <|
  some s0
def fM_node_16 (N : Nat) (μ : me_M) : Option Int32 :=
  fM_node_17 N μ (0 : Int32)
def fM_node (N : Nat) (μ : me_M) (l1 : Int32) : Option Int32 :=
  if l1 < 0 then
    fM_node_16 N μ
  else
    if (μ.1 100 0) ≤ l1 then
      fM_node_16 N μ
    else
      fM_node_17 N μ (1 : Int32)
def fM_add_30 (N : Nat) (μ : me_M) : Option (Int32 × me_M) :=
  me_gz (0 : Int32) <|
  some ((0 : Int32), μ)
def fM_add (N : Nat) (l1 : Int32) (l2 : Int32) (μ : me_M) : Option (Int32 × me_M) :=
  (fM_node N μ l1).bind fun r2 =>
  if r2 = 0 then
    fM_add_30 N μ
  else
    (fM_node N μ l2).bind fun r4 =>
    if r4 = 0 then
      fM_add_30 N μ
    else
      me_gi l1 12 <|
      if (((μ.1 1 l1.toNatClampNeg) >>> (l2 &&& 31)) &&& (1 : Int32)) = (1 : Int32) then
        fM_add_30 N μ
      else
        me_gi l1 12 <|
        me_gi l1 12 <|
        me_gz (1 : Int32) <|
        some ((1 : Int32), me_wi μ 1 l1.toNatClampNeg ((μ.1 1 l1.toNatClampNeg) ||| ((1 : Int32) <<< (l2 &&& 31))))
def fM_drop_29 (N : Nat) (μ : me_M) : Option (Int32 × me_M) :=
  me_gz (0 : Int32) <|
  some ((0 : Int32), μ)
def fM_drop (N : Nat) (l1 : Int32) (l2 : Int32) (μ : me_M) : Option (Int32 × me_M) :=
  (fM_node N μ l1).bind fun r2 =>
  if r2 = 0 then
    fM_drop_29 N μ
  else
    (fM_node N μ l2).bind fun r4 =>
    if r4 = 0 then
      fM_drop_29 N μ
    else
      me_gi l1 12 <|
      if (((μ.1 1 l1.toNatClampNeg) >>> (l2 &&& 31)) &&& (1 : Int32)) = 0 then
        fM_drop_29 N μ
      else
        me_gi l1 12 <|
        me_gi l1 12 <|
        me_gz (1 : Int32) <|
        some ((1 : Int32), me_wi μ 1 l1.toNatClampNeg ((μ.1 1 l1.toNatClampNeg) &&& (((1 : Int32) <<< (l2 &&& 31)) ^^^ (-1 : Int32))))
def fM_whole_18 (N : Nat) (s0 : Int32) : Option Int32 :=
  some s0
def fM_whole (N : Nat) (l0 : Int32) : Option Int32 :=
  if (l0 &&& (1 : Int32)) = 0 then
    fM_whole_18 N (l0 >>> ((1 : Int32) &&& 31))
  else
    fM_whole_18 N (-((l0 + (1 : Int32)) >>> ((1 : Int32) &&& 31)))
def fM_offset_22 (N : Nat) (μ : me_M) (s0 : Int32) : Option Int32 :=
  some s0
def fM_offset_21 (N : Nat) (μ : me_M) : Option Int32 :=
  fM_offset_22 N μ (-1 : Int32)
def fM_offset (N : Nat) (μ : me_M) (l1 : Int32) : Option Int32 :=
  if l1 < 0 then
    fM_offset_21 N μ
  else
    if (μ.1 100 0) < l1 then
      fM_offset_21 N μ
    else
      me_gi l1 13 <|
      fM_offset_22 N μ (μ.1 3 l1.toNatClampNeg)
def fM_bit_22 (N : Nat) (μ : me_M) (s0 : Int32) : Option Int32 :=
  some s0
def fM_bit_21 (N : Nat) (μ : me_M) : Option Int32 :=
  fM_bit_22 N μ (-1 : Int32)
def fM_bit (N : Nat) (μ : me_M) (l1 : Int32) : Option Int32 :=
  if l1 < 0 then
    fM_bit_21 N μ
  else
    if (μ.1 103 0) ≤ l1 then
      fM_bit_21 N μ
    else
      me_gi l1 2048 <|
      fM_bit_22 N μ (μ.1 2 l1.toNatClampNeg)
def fM_flip_12 (N : Nat) (μ : me_M) : Option (Int32 × me_M) :=
  me_gz (0 : Int32) <|
  some ((0 : Int32), μ)
def fM_flip (N : Nat) (l1 : Int32) (μ : me_M) : Option (Int32 × me_M) :=
  if l1 < 0 then
    fM_flip_12 N μ
  else
    if l1 < (μ.1 103 0) then
      me_gi l1 2048 <|
      me_gi l1 2048 <|
      me_gz (1 : Int32) <|
      some ((1 : Int32), me_wi μ 2 l1.toNatClampNeg ((1 : Int32) - (μ.1 2 l1.toNatClampNeg)))
    else
      fM_flip_12 N μ
def fM_next_34 (N : Nat) (s1 : Int32) (μ : me_M) : Option (Int32 × me_M) :=
  some ((0 : Int32), me_wi μ 112 0 s1)
def fM_next_18 (N : Nat) (μ : me_M) : Option (Int32 × me_M) :=
  if (μ.1 112 0) ≤ 0 then
    fM_next_34 N (1 : Int32) μ
  else
    fM_next_34 N (μ.1 112 0) μ
def fM_next (N : Nat) (μ : me_M) : Option (Int32 × me_M) :=
  if 0 < (μ.1 112 0) then
    fM_next_18 N μ
  else
    if (μ.1 111 0) < (μ.1 103 0) then
      me_gi (((me_wi μ 111 0 ((μ.1 111 0) + (1 : Int32))).1 111 0) - (1 : Int32)) 2048 <|
      some ((me_wi μ 111 0 ((μ.1 111 0) + (1 : Int32))).1 2 (((me_wi μ 111 0 ((μ.1 111 0) + (1 : Int32))).1 111 0) - (1 : Int32)).toNatClampNeg, me_wi μ 111 0 ((μ.1 111 0) + (1 : Int32)))
    else
      fM_next_18 N μ
def fM_nextUnary_52 (N : Nat) (s0 : Int32) (μ : me_M) : Option (Int32 × me_M) :=
  some (s0, μ)
def fM_nextUnary_40 (N : Nat) (l1 : Int32) (μ : me_M) : Option (Int32 × me_M) :=
  if (μ.1 112 0) ≤ 0 then
    fM_nextUnary_52 N l1 μ
  else
    fM_nextUnary_52 N (0 : Int32) μ
def fM_nextUnary_2b (N : Nat) (k2 : Int32 → me_M → Option (Int32 × me_M)) (l1 : Int32) (μ : me_M) : Option (Int32 × me_M) :=
  if (μ.1 112 0) = 0 then
    (fM_next N μ).bind fun r3 =>
    if r3.1 = 0 then
      if (r3.2.1 112 0) = 0 then
        if (l1 + (1 : Int32)) = (7 : Int32) then
          k2 (l1 + (1 : Int32)) (me_wi r3.2 112 0 (2 : Int32))
        else
          k2 (l1 + (1 : Int32)) r3.2
      else
        k2 (l1 + (1 : Int32)) r3.2
    else
      fM_nextUnary_40 N l1 r3.2
  else
    fM_nextUnary_40 N l1 μ
def fM_nextUnary_2 (N : Nat) (F : Nat) : Int32 → me_M → Option (Int32 × me_M) := Nat.rec (motive := fun _ => Int32 → me_M → Option (Int32 × me_M)) (fun _ _ => none) (fun _ k2 => fM_nextUnary_2b N k2) F
def fM_nextUnary (N : Nat) (μ : me_M) : Option (Int32 × me_M) :=
  fM_nextUnary_2 N N (0 : Int32) μ
def fM_nextNumber_24 (N : Nat) (l2 : Int32) (μ : me_M) : Option (Int32 × me_M) :=
  some (l2, μ)
def fM_nextNumber_4b (N : Nat) (k4 : Int32 → Int32 → Int32 → me_M → Option (Int32 × me_M)) (l1 : Int32) (l2 : Int32) (l3 : Int32) (μ : me_M) : Option (Int32 × me_M) :=
  if l1 ≤ l3 then
    fM_nextNumber_24 N l2 μ
  else
    (fM_next N μ).bind fun r2 =>
    k4 l1 (((2 : Int32) * l2) + r2.1) (l3 + (1 : Int32)) r2.2
def fM_nextNumber_4 (N : Nat) (F : Nat) : Int32 → Int32 → Int32 → me_M → Option (Int32 × me_M) := Nat.rec (motive := fun _ => Int32 → Int32 → Int32 → me_M → Option (Int32 × me_M)) (fun _ _ _ _ => none) (fun _ k4 => fM_nextNumber_4b N k4) F
def fM_nextNumber (N : Nat) (l1 : Int32) (μ : me_M) : Option (Int32 × me_M) :=
  fM_nextNumber_4 N N l1 (0 : Int32) (0 : Int32) μ
def fM_nextGamma (N : Nat) (μ : me_M) : Option (Int32 × me_M) :=
  (fM_nextUnary N μ).bind fun r1 =>
  (fM_nextNumber N r1.1 r1.2).bind fun r2 =>
  some ((((1 : Int32) <<< (r1.1 &&& 31)) - (1 : Int32)) + r2.1, r2.2)
def fM_nextZeta (N : Nat) (μ : me_M) : Option (Int32 × me_M) :=
  (fM_nextUnary N μ).bind fun r1 =>
  (fM_nextNumber N (((r1.1 * (r1.2.1 108 0)) + (r1.2.1 108 0)) - (1 : Int32)) r1.2).bind fun r2 =>
  if ((1 : Int32) <<< ((r1.1 * (r2.2.1 108 0)) &&& 31)) ≤ r2.1 then
    (fM_next N r2.2).bind fun r4 =>
    some ((((2 : Int32) * r2.1) + r4.1) - (1 : Int32), r4.2)
  else
    some ((r2.1 + ((1 : Int32) <<< ((r1.1 * (r2.2.1 108 0)) &&& 31))) - (1 : Int32), r2.2)
def fM_take_25 (N : Nat) (l1 : Int32) (s1 : Int32) (μ : me_M) : Option me_M :=
  me_gz s1 <|
  some (me_wi (me_wi μ 114 0 s1) 113 0 (((me_wi μ 114 0 s1).1 113 0) ||| ((1 : Int32) <<< (l1 &&& 31))))
def fM_take_20 (N : Nat) (l1 : Int32) (μ : me_M) : Option me_M :=
  fM_take_25 N l1 (1 : Int32) μ
def fM_take (N : Nat) (l1 : Int32) (μ : me_M) : Option me_M :=
  if (μ.1 114 0) = 0 then
    if (((μ.1 113 0) >>> (l1 &&& 31)) &&& (1 : Int32)) = (1 : Int32) then
      fM_take_20 N l1 μ
    else
      fM_take_25 N l1 (0 : Int32) μ
  else
    fM_take_20 N l1 μ
def fM_copy_52 (N : Nat) (μ : me_M) : Option me_M :=
  some μ
def fM_copy_46 (N : Nat) (k6 : Int32 → Int32 → Int32 → Int32 → Int32 → me_M → Option me_M) (l1 : Int32) (l2 : Int32) (l3 : Int32) (l4 : Int32) (l5 : Int32) (μ : me_M) : Option me_M :=
  k6 l1 l2 l3 l4 (l5 + (1 : Int32)) μ
def fM_copy_43 (N : Nat) (k6 : Int32 → Int32 → Int32 → Int32 → Int32 → me_M → Option me_M) (l1 : Int32) (l2 : Int32) (l3 : Int32) (l4 : Int32) (l5 : Int32) (μ : me_M) : Option me_M :=
  fM_copy_46 N k6 l1 l2 l3 (l4 + (1 : Int32)) l5 μ
def fM_copy_6b (N : Nat) (k6 : Int32 → Int32 → Int32 → Int32 → Int32 → me_M → Option me_M) (l1 : Int32) (l2 : Int32) (l3 : Int32) (l4 : Int32) (l5 : Int32) (μ : me_M) : Option me_M :=
  if (μ.1 100 0) ≤ l5 then
    fM_copy_52 N μ
  else
    if ((l1 >>> (l5 &&& 31)) &&& (1 : Int32)) = (1 : Int32) then
      if l4 < l2 then
        fM_copy_43 N k6 l1 l2 l3 l4 l5 μ
      else
        if l3 ≤ l4 then
          fM_copy_43 N k6 l1 l2 l3 l4 l5 μ
        else
          (fM_take N l5 μ).bind fun r5 =>
          fM_copy_43 N k6 l1 l2 l3 l4 l5 r5
    else
      fM_copy_46 N k6 l1 l2 l3 l4 l5 μ
def fM_copy_6 (N : Nat) (F : Nat) : Int32 → Int32 → Int32 → Int32 → Int32 → me_M → Option me_M := Nat.rec (motive := fun _ => Int32 → Int32 → Int32 → Int32 → Int32 → me_M → Option me_M) (fun _ _ _ _ _ _ => none) (fun _ k6 => fM_copy_6b N k6) F
def fM_copy (N : Nat) (l1 : Int32) (l2 : Int32) (l3 : Int32) (μ : me_M) : Option me_M :=
  fM_copy_6 N N l1 l2 l3 (0 : Int32) (0 : Int32) μ
def fM_readRuns_149 (N : Nat) (μ : me_M) : Option me_M :=
  some μ
def fM_readRuns_125 (N : Nat) (l2 : Int32) (μ : me_M) : Option me_M :=
  if (μ.1 112 0) = 0 then
    (fM_ones N (μ.1 113 0)).bind fun r2 =>
    if r2 ≤ l2 then
      fM_readRuns_149 N μ
    else
      fM_readRuns_149 N (me_wi μ 112 0 (6 : Int32))
  else
    fM_readRuns_149 N μ
def fM_readRuns_103 (N : Nat) (l1 : Int32) (l2 : Int32) (l3 : Int32) (l4 : Int32) (μ : me_M) : Option me_M :=
  if (μ.1 112 0) = 0 then
    if (l3 - l3 / (2 : Int32) * (2 : Int32)) = 0 then
      (fM_copy N l1 l4 (12 : Int32) μ).bind fun r7 =>
      fM_readRuns_125 N l2 r7
    else
      fM_readRuns_125 N l2 μ
  else
    fM_readRuns_125 N l2 μ
def fM_readRuns_97 (N : Nat) (k11 : Int32 → Int32 → Int32 → Int32 → Int32 → me_M → Option me_M) (l1 : Int32) (l2 : Int32) (l3 : Int32) (l4 : Int32) (l5 : Int32) (μ : me_M) : Option me_M :=
  k11 l1 l2 l3 l4 (l5 + (1 : Int32)) μ
def fM_readRuns_74 (N : Nat) (k11 : Int32 → Int32 → Int32 → Int32 → Int32 → me_M → Option me_M) (l1 : Int32) (l2 : Int32) (l3 : Int32) (l4 : Int32) (l5 : Int32) (l7 : Int32) (μ : me_M) : Option me_M :=
  if (μ.1 112 0) = 0 then
    if (l5 - l5 / (2 : Int32) * (2 : Int32)) = 0 then
      (fM_copy N l1 l7 l4 μ).bind fun r11 =>
      fM_readRuns_97 N k11 l1 l2 l3 l4 l5 r11
    else
      fM_readRuns_97 N k11 l1 l2 l3 l4 l5 μ
  else
    fM_readRuns_97 N k11 l1 l2 l3 l4 l5 μ
def fM_readRuns_38 (N : Nat) (k11 : Int32 → Int32 → Int32 → Int32 → Int32 → me_M → Option me_M) (l1 : Int32) (l2 : Int32) (l3 : Int32) (l4 : Int32) (l5 : Int32) (s0 : Int32) (s1 : Int32) (μ : me_M) : Option me_M :=
  if (μ.1 112 0) = 0 then
    (fM_ones N l1).bind fun r13 =>
    if (l4 + (s0 + s1)) ≤ r13 then
      fM_readRuns_74 N k11 l1 l2 l3 (l4 + (s0 + s1)) l5 l4 μ
    else
      fM_readRuns_74 N k11 l1 l2 l3 (l4 + (s0 + s1)) l5 l4 (me_wi μ 112 0 (6 : Int32))
  else
    fM_readRuns_74 N k11 l1 l2 l3 (l4 + (s0 + s1)) l5 l4 μ
def fM_readRuns_11b (N : Nat) (k11 : Int32 → Int32 → Int32 → Int32 → Int32 → me_M → Option me_M) (l1 : Int32) (l2 : Int32) (l3 : Int32) (l4 : Int32) (l5 : Int32) (μ : me_M) : Option me_M :=
  if l3 ≤ l5 then
    fM_readRuns_103 N l1 l2 l3 l4 μ
  else
    if (μ.1 112 0) = 0 then
      (fM_nextGamma N μ).bind fun r17 =>
      if l5 ≤ 0 then
        fM_readRuns_38 N k11 l1 l2 l3 l4 l5 r17.1 (0 : Int32) r17.2
      else
        fM_readRuns_38 N k11 l1 l2 l3 l4 l5 r17.1 (1 : Int32) r17.2
    else
      fM_readRuns_103 N l1 l2 l3 l4 μ
def fM_readRuns_11 (N : Nat) (F : Nat) : Int32 → Int32 → Int32 → Int32 → Int32 → me_M → Option me_M := Nat.rec (motive := fun _ => Int32 → Int32 → Int32 → Int32 → Int32 → me_M → Option me_M) (fun _ _ _ _ _ _ => none) (fun _ k11 => fM_readRuns_11b N k11) F
def fM_readRuns (N : Nat) (l1 : Int32) (l2 : Int32) (μ : me_M) : Option me_M :=
  (fM_nextGamma N μ).bind fun r19 =>
  fM_readRuns_11 N N l1 l2 r19.1 (0 : Int32) (0 : Int32) r19.2
def fM_readIntervals_172 (N : Nat) (l4 : Int32) (μ : me_M) : Option (Int32 × me_M) :=
  some (l4, μ)
def fM_readIntervals_166 (N : Nat) (k14 : Int32 → Int32 → Int32 → Int32 → Int32 → Int32 → me_M → Option (Int32 × me_M)) (l1 : Int32) (l2 : Int32) (l3 : Int32) (l4 : Int32) (l5 : Int32) (l6 : Int32) (μ : me_M) : Option (Int32 × me_M) :=
  k14 l1 l2 l3 l4 l5 (l6 + (1 : Int32)) μ
def fM_readIntervals_140b (N : Nat) (k14 : Int32 → Int32 → Int32 → Int32 → Int32 → Int32 → me_M → Option (Int32 × me_M)) (k140 : Int32 → Int32 → Int32 → Int32 → Int32 → Int32 → Int32 → me_M → Option (Int32 × me_M)) (l1 : Int32) (l2 : Int32) (l3 : Int32) (l4 : Int32) (l5 : Int32) (l6 : Int32) (l10 : Int32) (μ : me_M) : Option (Int32 × me_M) :=
  if l5 < l10 then
    fM_readIntervals_166 N k14 l1 l2 l3 l4 l5 l6 μ
  else
    if (μ.1 112 0) = 0 then
      (fM_take N l10 μ).bind fun r3 =>
      k140 l1 l2 l3 l4 l5 l6 (l10 + (1 : Int32)) r3
    else
      fM_readIntervals_166 N k14 l1 l2 l3 l4 l5 l6 μ
def fM_readIntervals_140 (N : Nat) (k14 : Int32 → Int32 → Int32 → Int32 → Int32 → Int32 → me_M → Option (Int32 × me_M)) (F : Nat) : Int32 → Int32 → Int32 → Int32 → Int32 → Int32 → Int32 → me_M → Option (Int32 × me_M) := Nat.rec (motive := fun _ => Int32 → Int32 → Int32 → Int32 → Int32 → Int32 → Int32 → me_M → Option (Int32 × me_M)) (fun _ _ _ _ _ _ _ _ => none) (fun _ k140 => fM_readIntervals_140b N k14 k140) F
def fM_readIntervals_136 (N : Nat) (k14 : Int32 → Int32 → Int32 → Int32 → Int32 → Int32 → me_M → Option (Int32 × me_M)) (l1 : Int32) (l2 : Int32) (l3 : Int32) (l4 : Int32) (l5 : Int32) (l6 : Int32) (l8 : Int32) (μ : me_M) : Option (Int32 × me_M) :=
  fM_readIntervals_140 N k14 N l1 l2 l3 l4 l5 l6 l8 μ
def fM_readIntervals_130 (N : Nat) (k14 : Int32 → Int32 → Int32 → Int32 → Int32 → Int32 → me_M → Option (Int32 × me_M)) (l1 : Int32) (l2 : Int32) (l3 : Int32) (l4 : Int32) (l5 : Int32) (l6 : Int32) (l8 : Int32) (μ : me_M) : Option (Int32 × me_M) :=
  fM_readIntervals_136 N k14 l1 l2 l3 l4 l5 l6 l8 (me_wi μ 112 0 (7 : Int32))
def fM_readIntervals_79 (N : Nat) (k14 : Int32 → Int32 → Int32 → Int32 → Int32 → Int32 → me_M → Option (Int32 × me_M)) (l1 : Int32) (l2 : Int32) (l3 : Int32) (l4 : Int32) (l6 : Int32) (l8 : Int32) (μ : me_M) : Option (Int32 × me_M) :=
  (fM_nextGamma N μ).bind fun r4 =>
  if (r4.2.1 112 0) = 0 then
    if ((r4.2.1 100 0) - (1 : Int32)) < ((l8 + (r4.1 + (r4.2.1 107 0))) - (1 : Int32)) then
      fM_readIntervals_130 N k14 l1 l2 l3 (l4 + (r4.1 + (r4.2.1 107 0))) ((l8 + (r4.1 + (r4.2.1 107 0))) - (1 : Int32)) l6 l8 r4.2
    else
      if (l4 + (r4.1 + (r4.2.1 107 0))) ≤ l2 then
        fM_readIntervals_136 N k14 l1 l2 l3 (l4 + (r4.1 + (r4.2.1 107 0))) ((l8 + (r4.1 + (r4.2.1 107 0))) - (1 : Int32)) l6 l8 r4.2
      else
        fM_readIntervals_130 N k14 l1 l2 l3 (l4 + (r4.1 + (r4.2.1 107 0))) ((l8 + (r4.1 + (r4.2.1 107 0))) - (1 : Int32)) l6 l8 r4.2
  else
    fM_readIntervals_136 N k14 l1 l2 l3 (l4 + (r4.1 + (r4.2.1 107 0))) ((l8 + (r4.1 + (r4.2.1 107 0))) - (1 : Int32)) l6 l8 r4.2
def fM_readIntervals_55 (N : Nat) (k14 : Int32 → Int32 → Int32 → Int32 → Int32 → Int32 → me_M → Option (Int32 × me_M)) (l1 : Int32) (l2 : Int32) (l3 : Int32) (l4 : Int32) (l6 : Int32) (s0 : Int32) (μ : me_M) : Option (Int32 × me_M) :=
  if (μ.1 112 0) = 0 then
    (fM_node N μ s0).bind fun r9 =>
    if r9 = 0 then
      fM_readIntervals_79 N k14 l1 l2 l3 l4 l6 s0 (me_wi μ 112 0 (7 : Int32))
    else
      fM_readIntervals_79 N k14 l1 l2 l3 l4 l6 s0 μ
  else
    fM_readIntervals_79 N k14 l1 l2 l3 l4 l6 s0 μ
def fM_readIntervals_14b (N : Nat) (k14 : Int32 → Int32 → Int32 → Int32 → Int32 → Int32 → me_M → Option (Int32 × me_M)) (l1 : Int32) (l2 : Int32) (l3 : Int32) (l4 : Int32) (l5 : Int32) (l6 : Int32) (μ : me_M) : Option (Int32 × me_M) :=
  if l3 ≤ l6 then
    fM_readIntervals_172 N l4 μ
  else
    if (μ.1 112 0) = 0 then
      (fM_nextGamma N μ).bind fun r13 =>
      if l6 = 0 then
        (fM_whole N r13.1).bind fun r15 =>
        fM_readIntervals_55 N k14 l1 l2 l3 l4 l6 (l1 + r15) r13.2
      else
        fM_readIntervals_55 N k14 l1 l2 l3 l4 l6 ((l5 + (2 : Int32)) + r13.1) r13.2
    else
      fM_readIntervals_172 N l4 μ
def fM_readIntervals_14 (N : Nat) (F : Nat) : Int32 → Int32 → Int32 → Int32 → Int32 → Int32 → me_M → Option (Int32 × me_M) := Nat.rec (motive := fun _ => Int32 → Int32 → Int32 → Int32 → Int32 → Int32 → me_M → Option (Int32 × me_M)) (fun _ _ _ _ _ _ _ => none) (fun _ k14 => fM_readIntervals_14b N k14) F
def fM_readIntervals (N : Nat) (l1 : Int32) (l2 : Int32) (μ : me_M) : Option (Int32 × me_M) :=
  (fM_nextGamma N μ).bind fun r16 =>
  fM_readIntervals_14 N N l1 l2 r16.1 (0 : Int32) (0 : Int32) (0 : Int32) r16.2
def fM_readParts_273 (N : Nat) (μ : me_M) : Option me_M :=
  some μ
def fM_readParts_263 (N : Nat) (k184 : Int32 → Int32 → Int32 → Int32 → me_M → Option me_M) (l1 : Int32) (l5 : Int32) (l7 : Int32) (l9 : Int32) (μ : me_M) : Option me_M :=
  k184 l1 l5 l9 (l7 + (1 : Int32)) μ
def fM_readParts_250 (N : Nat) (k184 : Int32 → Int32 → Int32 → Int32 → me_M → Option me_M) (l1 : Int32) (l5 : Int32) (l7 : Int32) (l9 : Int32) (μ : me_M) : Option me_M :=
  if (μ.1 112 0) = 0 then
    (fM_take N l9 μ).bind fun r2 =>
    fM_readParts_263 N k184 l1 l5 l7 l9 r2
  else
    fM_readParts_263 N k184 l1 l5 l7 l9 μ
def fM_readParts_226 (N : Nat) (k184 : Int32 → Int32 → Int32 → Int32 → me_M → Option me_M) (l1 : Int32) (l5 : Int32) (l7 : Int32) (s0 : Int32) (μ : me_M) : Option me_M :=
  if (μ.1 112 0) = 0 then
    (fM_node N μ s0).bind fun r4 =>
    if r4 = 0 then
      fM_readParts_250 N k184 l1 l5 l7 s0 (me_wi μ 112 0 (8 : Int32))
    else
      fM_readParts_250 N k184 l1 l5 l7 s0 μ
  else
    fM_readParts_250 N k184 l1 l5 l7 s0 μ
def fM_readParts_184b (N : Nat) (k184 : Int32 → Int32 → Int32 → Int32 → me_M → Option me_M) (l1 : Int32) (l5 : Int32) (l6 : Int32) (l7 : Int32) (μ : me_M) : Option me_M :=
  if l5 ≤ l7 then
    fM_readParts_273 N μ
  else
    if (μ.1 112 0) = 0 then
      (fM_nextZeta N μ).bind fun r8 =>
      if l7 = 0 then
        (fM_whole N r8.1).bind fun r10 =>
        fM_readParts_226 N k184 l1 l5 l7 (l1 + r10) r8.2
      else
        fM_readParts_226 N k184 l1 l5 l7 ((l6 + (1 : Int32)) + r8.1) r8.2
    else
      fM_readParts_273 N μ
def fM_readParts_184 (N : Nat) (F : Nat) : Int32 → Int32 → Int32 → Int32 → me_M → Option me_M := Nat.rec (motive := fun _ => Int32 → Int32 → Int32 → Int32 → me_M → Option me_M) (fun _ _ _ _ _ => none) (fun _ k184 => fM_readParts_184b N k184) F
def fM_readParts_176 (N : Nat) (l1 : Int32) (s0 : Int32) (μ : me_M) : Option me_M :=
  fM_readParts_184 N N l1 s0 (0 : Int32) (0 : Int32) μ
def fM_readParts_153 (N : Nat) (μ : me_M) : Option me_M :=
  some μ
def fM_readParts_130 (N : Nat) (l1 : Int32) (l2 : Int32) (μ : me_M) : Option me_M :=
  (fM_ones N (μ.1 113 0)).bind fun r11 =>
  if 0 < (μ.1 112 0) then
    fM_readParts_153 N μ
  else
    if (l2 - r11) = 0 then
      fM_readParts_153 N μ
    else
      if (μ.1 107 0) ≤ 0 then
        fM_readParts_176 N l1 (l2 - r11) μ
      else
        (fM_readIntervals N l1 (l2 - r11) μ).bind fun r15 =>
        fM_readParts_176 N l1 ((l2 - r11) - r15.1) r15.2
def fM_readParts_83 (N : Nat) (l1 : Int32) (l2 : Int32) (l3 : Int32) (μ : me_M) : Option me_M :=
  if (μ.1 112 0) = 0 then
    if l3 ≤ 0 then
      fM_readParts_130 N l1 l2 μ
    else
      me_gi l1 12 <|
      me_gi (l1 - l3) 12 <|
      me_gi l1 12 <|
      me_gi (l1 - l3) 12 <|
      (fM_readRuns N ((me_wi (me_wi μ 8 l1.toNatClampNeg l3) 9 l1.toNatClampNeg ((1 : Int32) + ((me_wi μ 8 l1.toNatClampNeg l3).1 9 (l1 - l3).toNatClampNeg))).1 6 (l1 - l3).toNatClampNeg) l2 (me_wi (me_wi μ 8 l1.toNatClampNeg l3) 9 l1.toNatClampNeg ((1 : Int32) + ((me_wi μ 8 l1.toNatClampNeg l3).1 9 (l1 - l3).toNatClampNeg)))).bind fun r22 =>
      fM_readParts_130 N l1 l2 r22
  else
    fM_readParts_130 N l1 l2 μ
def fM_readParts_78 (N : Nat) (l1 : Int32) (l2 : Int32) (l3 : Int32) (μ : me_M) : Option me_M :=
  fM_readParts_83 N l1 l2 l3 (me_wi μ 112 0 (5 : Int32))
def fM_readParts_41 (N : Nat) (l1 : Int32) (l2 : Int32) (l3 : Int32) (μ : me_M) : Option me_M :=
  if (μ.1 112 0) = 0 then
    if l3 ≤ 0 then
      fM_readParts_83 N l1 l2 l3 μ
    else
      me_gi (l1 - l3) 12 <|
      if 0 < (μ.1 7 (l1 - l3).toNatClampNeg) then
        fM_readParts_78 N l1 l2 l3 μ
      else
        me_gi (l1 - l3) 12 <|
        if (μ.1 9 (l1 - l3).toNatClampNeg) < (μ.1 106 0) then
          fM_readParts_83 N l1 l2 l3 μ
        else
          fM_readParts_78 N l1 l2 l3 μ
  else
    fM_readParts_83 N l1 l2 l3 μ
def fM_readParts_36 (N : Nat) (l1 : Int32) (l2 : Int32) (l3 : Int32) (μ : me_M) : Option me_M :=
  fM_readParts_41 N l1 l2 l3 (me_wi μ 112 0 (4 : Int32))
def fM_readParts_15 (N : Nat) (l1 : Int32) (l2 : Int32) (s0 : Int32) (μ : me_M) : Option me_M :=
  if (μ.1 112 0) = 0 then
    if (μ.1 105 0) < s0 then
      fM_readParts_36 N l1 l2 s0 μ
    else
      if s0 ≤ l1 then
        fM_readParts_41 N l1 l2 s0 μ
      else
        fM_readParts_36 N l1 l2 s0 μ
  else
    fM_readParts_41 N l1 l2 s0 μ
def fM_readParts (N : Nat) (l1 : Int32) (l2 : Int32) (μ : me_M) : Option me_M :=
  if (μ.1 105 0) ≤ 0 then
    fM_readParts_15 N l1 l2 (0 : Int32) μ
  else
    (fM_nextUnary N μ).bind fun r33 =>
    fM_readParts_15 N l1 l2 r33.1 r33.2
def fM_read_176 (N : Nat) (μ : me_M) : Option me_M :=
  some μ
def fM_read_169 (N : Nat) (k2 : Int32 → me_M → Option me_M) (l1 : Int32) (s1 : Int32) (s2 : Int32) (μ : me_M) : Option me_M :=
  me_gi s1 12 <|
  k2 (l1 + (1 : Int32)) (me_wi μ 6 s1.toNatClampNeg s2)
def fM_read_139 (N : Nat) (k2 : Int32 → me_M → Option me_M) (l1 : Int32) (μ : me_M) : Option me_M :=
  me_gi l1 12 <|
  if ((me_wi μ 7 l1.toNatClampNeg (μ.1 112 0)).1 112 0) ≤ 0 then
    fM_read_169 N k2 l1 l1 ((me_wi μ 7 l1.toNatClampNeg (μ.1 112 0)).1 113 0) (me_wi μ 7 l1.toNatClampNeg (μ.1 112 0))
  else
    fM_read_169 N k2 l1 l1 (0 : Int32) (me_wi μ 7 l1.toNatClampNeg (μ.1 112 0))
def fM_read_111 (N : Nat) (k2 : Int32 → me_M → Option me_M) (l1 : Int32) (μ : me_M) : Option me_M :=
  if (μ.1 112 0) = 0 then
    me_gi (l1 + (1 : Int32)) 13 <|
    if (μ.1 111 0) = (μ.1 3 (l1 + (1 : Int32)).toNatClampNeg) then
      fM_read_139 N k2 l1 μ
    else
      fM_read_139 N k2 l1 (me_wi μ 112 0 (10 : Int32))
  else
    fM_read_139 N k2 l1 μ
def fM_read_91 (N : Nat) (k2 : Int32 → me_M → Option me_M) (l1 : Int32) (μ : me_M) : Option me_M :=
  if (μ.1 112 0) = 0 then
    if (μ.1 114 0) = 0 then
      fM_read_111 N k2 l1 μ
    else
      fM_read_111 N k2 l1 (me_wi μ 112 0 (9 : Int32))
  else
    fM_read_111 N k2 l1 μ
def fM_read_74 (N : Nat) (k2 : Int32 → me_M → Option me_M) (l1 : Int32) (l2 : Int32) (μ : me_M) : Option me_M :=
  if (μ.1 112 0) = 0 then
    if l2 ≤ 0 then
      fM_read_91 N k2 l1 μ
    else
      (fM_readParts N l1 l2 μ).bind fun r11 =>
      fM_read_91 N k2 l1 r11
  else
    fM_read_91 N k2 l1 μ
def fM_read_2b (N : Nat) (k2 : Int32 → me_M → Option me_M) (l1 : Int32) (μ : me_M) : Option me_M :=
  if (μ.1 100 0) ≤ l1 then
    fM_read_176 N μ
  else
    me_gi l1 13 <|
    me_gi l1 12 <|
    me_gi l1 12 <|
    (fM_nextGamma N (me_wi (me_wi (me_wi (me_wi (me_wi (me_wi μ 111 0 (μ.1 3 l1.toNatClampNeg)) 112 0 (0 : Int32)) 113 0 (0 : Int32)) 114 0 (0 : Int32)) 8 l1.toNatClampNeg (0 : Int32)) 9 l1.toNatClampNeg (0 : Int32))).bind fun r16 =>
    if (r16.2.1 112 0) = 0 then
      if r16.1 ≤ (r16.2.1 100 0) then
        fM_read_74 N k2 l1 r16.1 r16.2
      else
        fM_read_74 N k2 l1 r16.1 (me_wi r16.2 112 0 (3 : Int32))
    else
      fM_read_74 N k2 l1 r16.1 r16.2
def fM_read_2 (N : Nat) (F : Nat) : Int32 → me_M → Option me_M := Nat.rec (motive := fun _ => Int32 → me_M → Option me_M) (fun _ _ => none) (fun _ k2 => fM_read_2b N k2) F
def fM_read (N : Nat) (μ : me_M) : Option me_M :=
  fM_read_2 N N (0 : Int32) μ
def fM_degree_43 (N : Nat) (s0 : Int32) (μ : me_M) : Option (Int32 × me_M) :=
  some (s0, μ)
def fM_degree (N : Nat) (l1 : Int32) (μ : me_M) : Option (Int32 × me_M) :=
  (fM_node N μ l1).bind fun r1 =>
  if r1 = 0 then
    some ((-100 : Int32), μ)
  else
    (fM_read N μ).bind fun r3 =>
    me_gi l1 12 <|
    if (r3.1 7 l1.toNatClampNeg) ≤ 0 then
      me_gi l1 12 <|
      (fM_ones N (r3.1 6 l1.toNatClampNeg)).bind fun r7 =>
      fM_degree_43 N r7 r3
    else
      me_gi l1 12 <|
      fM_degree_43 N (-(r3.1 7 l1.toNatClampNeg)) r3
def fM_successor_64 (N : Nat) (μ : me_M) : Option (Int32 × me_M) :=
  some ((-1 : Int32), μ)
def fM_successor_58 (N : Nat) (k23 : Int32 → Int32 → Int32 → Int32 → me_M → Option (Int32 × me_M)) (l1 : Int32) (l2 : Int32) (l3 : Int32) (l4 : Int32) (μ : me_M) : Option (Int32 × me_M) :=
  k23 l1 l2 l3 (l4 + (1 : Int32)) μ
def fM_successor_23b (N : Nat) (k23 : Int32 → Int32 → Int32 → Int32 → me_M → Option (Int32 × me_M)) (l1 : Int32) (l2 : Int32) (l3 : Int32) (l4 : Int32) (μ : me_M) : Option (Int32 × me_M) :=
  if (μ.1 100 0) ≤ l4 then
    fM_successor_64 N μ
  else
    me_gi l1 12 <|
    if (((μ.1 6 l1.toNatClampNeg) >>> (l4 &&& 31)) &&& (1 : Int32)) = (1 : Int32) then
      if l3 = l2 then
        some (l4, μ)
      else
        fM_successor_58 N k23 l1 l2 (l3 + (1 : Int32)) l4 μ
    else
      fM_successor_58 N k23 l1 l2 l3 l4 μ
def fM_successor_23 (N : Nat) (F : Nat) : Int32 → Int32 → Int32 → Int32 → me_M → Option (Int32 × me_M) := Nat.rec (motive := fun _ => Int32 → Int32 → Int32 → Int32 → me_M → Option (Int32 × me_M)) (fun _ _ _ _ _ => none) (fun _ k23 => fM_successor_23b N k23) F
def fM_successor_12 (N : Nat) (μ : me_M) : Option (Int32 × me_M) :=
  some ((-1 : Int32), μ)
def fM_successor (N : Nat) (l1 : Int32) (l2 : Int32) (μ : me_M) : Option (Int32 × me_M) :=
  (fM_node N μ l1).bind fun r5 =>
  if r5 = 0 then
    fM_successor_12 N μ
  else
    if 0 ≤ l2 then
      (fM_read N μ).bind fun r8 =>
      fM_successor_23 N N l1 l2 (0 : Int32) (0 : Int32) r8
    else
      fM_successor_12 N μ
def fM_reference_33 (N : Nat) (s0 : Int32) (μ : me_M) : Option (Int32 × me_M) :=
  some (s0, μ)
def fM_reference (N : Nat) (l1 : Int32) (μ : me_M) : Option (Int32 × me_M) :=
  (fM_node N μ l1).bind fun r1 =>
  if r1 = 0 then
    some ((-1 : Int32), μ)
  else
    (fM_read N μ).bind fun r3 =>
    me_gi l1 12 <|
    if (r3.1 7 l1.toNatClampNeg) ≤ 0 then
      me_gi l1 12 <|
      fM_reference_33 N (r3.1 8 l1.toNatClampNeg) r3
    else
      fM_reference_33 N (-1 : Int32) r3
def fM_together_56 (N : Nat) (μ : me_M) (l2 : Int32) : Option Int32 :=
  some l2
def fM_together_48 (N : Nat) (μ : me_M) (k4 : Int32 → Int32 → Int32 → Option Int32) (l1 : Int32) (l3 : Int32) (s0 : Int32) (s1 : Int32) : Option Int32 :=
  k4 l1 (s0 ||| s1) (l3 + (1 : Int32))
def fM_together_47 (N : Nat) (μ : me_M) (k4 : Int32 → Int32 → Int32 → Option Int32) (l1 : Int32) (l3 : Int32) (s0 : Int32) : Option Int32 :=
  fM_together_48 N μ k4 l1 l3 s0 (0 : Int32)
def fM_together_4b (N : Nat) (μ : me_M) (k4 : Int32 → Int32 → Int32 → Option Int32) (l1 : Int32) (l2 : Int32) (l3 : Int32) : Option Int32 :=
  if (μ.1 100 0) ≤ l3 then
    fM_together_56 N μ l2
  else
    me_gi l1 12 <|
    if (((μ.1 14 l1.toNatClampNeg) >>> (l3 &&& 31)) &&& (1 : Int32)) = (1 : Int32) then
      me_gi l3 12 <|
      if (((μ.1 14 l3.toNatClampNeg) >>> (l1 &&& 31)) &&& (1 : Int32)) = (1 : Int32) then
        fM_together_48 N μ k4 l1 l3 l2 ((1 : Int32) <<< (l3 &&& 31))
      else
        fM_together_47 N μ k4 l1 l3 l2
    else
      fM_together_47 N μ k4 l1 l3 l2
def fM_together_4 (N : Nat) (μ : me_M) (F : Nat) : Int32 → Int32 → Int32 → Option Int32 := Nat.rec (motive := fun _ => Int32 → Int32 → Int32 → Option Int32) (fun _ _ _ => none) (fun _ k4 => fM_together_4b N μ k4) F
def fM_together (N : Nat) (μ : me_M) (l1 : Int32) : Option Int32 :=
  fM_together_4 N μ N l1 (0 : Int32) (0 : Int32)
def fM_firstReady_91 (N : Nat) (μ : me_M) : Option Int32 :=
  some (-1 : Int32)
def fM_firstReady_85 (N : Nat) (μ : me_M) (k2 : Int32 → Int32 → Option Int32) (l1 : Int32) (l2 : Int32) : Option Int32 :=
  k2 l1 (l2 + (1 : Int32))
def fM_firstReady_72 (N : Nat) (μ : me_M) (k2 : Int32 → Int32 → Option Int32) (l1 : Int32) (l2 : Int32) (l3 : Int32) (l4 : Int32) : Option Int32 :=
  if (l4 &&& ((l3 ||| l1) ^^^ (-1 : Int32))) = 0 then
    some l2
  else
    fM_firstReady_85 N μ k2 l1 l2
def fM_firstReady_63 (N : Nat) (μ : me_M) (k2 : Int32 → Int32 → Option Int32) (k31 : Int32 → Int32 → Int32 → Int32 → Int32 → Option Int32) (l1 : Int32) (l2 : Int32) (l3 : Int32) (l5 : Int32) (s0 : Int32) (s1 : Int32) : Option Int32 :=
  k31 l1 l2 l3 (s0 ||| s1) (l5 + (1 : Int32))
def fM_firstReady_31b (N : Nat) (μ : me_M) (k2 : Int32 → Int32 → Option Int32) (k31 : Int32 → Int32 → Int32 → Int32 → Int32 → Option Int32) (l1 : Int32) (l2 : Int32) (l3 : Int32) (l4 : Int32) (l5 : Int32) : Option Int32 :=
  if (μ.1 100 0) ≤ l5 then
    fM_firstReady_72 N μ k2 l1 l2 l3 l4
  else
    if ((l3 >>> (l5 &&& 31)) &&& (1 : Int32)) = (1 : Int32) then
      me_gi l5 12 <|
      fM_firstReady_63 N μ k2 k31 l1 l2 l3 l5 l4 (μ.1 6 l5.toNatClampNeg)
    else
      fM_firstReady_63 N μ k2 k31 l1 l2 l3 l5 l4 (0 : Int32)
def fM_firstReady_31 (N : Nat) (μ : me_M) (k2 : Int32 → Int32 → Option Int32) (F : Nat) : Int32 → Int32 → Int32 → Int32 → Int32 → Option Int32 := Nat.rec (motive := fun _ => Int32 → Int32 → Int32 → Int32 → Int32 → Option Int32) (fun _ _ _ _ _ => none) (fun _ k31 => fM_firstReady_31b N μ k2 k31) F
def fM_firstReady_2b (N : Nat) (μ : me_M) (k2 : Int32 → Int32 → Option Int32) (l1 : Int32) (l2 : Int32) : Option Int32 :=
  if (μ.1 100 0) ≤ l2 then
    fM_firstReady_91 N μ
  else
    me_gi l2 12 <|
    if 0 ≤ (μ.1 15 l2.toNatClampNeg) then
      fM_firstReady_85 N μ k2 l1 l2
    else
      (fM_together N μ l2).bind fun r8 =>
      fM_firstReady_31 N μ k2 N l1 l2 r8 (0 : Int32) (0 : Int32)
def fM_firstReady_2 (N : Nat) (μ : me_M) (F : Nat) : Int32 → Int32 → Option Int32 := Nat.rec (motive := fun _ => Int32 → Int32 → Option Int32) (fun _ _ => none) (fun _ k2 => fM_firstReady_2b N μ k2) F
def fM_firstReady (N : Nat) (μ : me_M) (l1 : Int32) : Option Int32 :=
  fM_firstReady_2 N μ N l1 (0 : Int32)
def fM_count_213 (N : Nat) (μ : me_M) : Option me_M :=
  some μ
def fM_count_207 (N : Nat) (k117 : Int32 → Int32 → me_M → Option me_M) (l1 : Int32) (l2 : Int32) (μ : me_M) : Option me_M :=
  k117 l1 (l2 + (1 : Int32)) μ
def fM_count_192 (N : Nat) (k117 : Int32 → Int32 → me_M → Option me_M) (l1 : Int32) (l2 : Int32) (l4 : Int32) (μ : me_M) : Option me_M :=
  fM_count_207 N k117 (l1 ||| l4) l2 (me_wi μ 128 0 ((μ.1 128 0) + (1 : Int32)))
def fM_count_185 (N : Nat) (k117 : Int32 → Int32 → me_M → Option me_M) (k145 : Int32 → Int32 → Int32 → Int32 → me_M → Option me_M) (l1 : Int32) (l2 : Int32) (l4 : Int32) (l5 : Int32) (s1 : Int32) (s2 : Int32) (μ : me_M) : Option me_M :=
  me_gi s1 12 <|
  k145 l1 l2 l4 (l5 + (1 : Int32)) (me_wi μ 15 s1.toNatClampNeg s2)
def fM_count_145b (N : Nat) (k117 : Int32 → Int32 → me_M → Option me_M) (k145 : Int32 → Int32 → Int32 → Int32 → me_M → Option me_M) (l1 : Int32) (l2 : Int32) (l4 : Int32) (l5 : Int32) (μ : me_M) : Option me_M :=
  if (μ.1 100 0) ≤ l5 then
    fM_count_192 N k117 l1 l2 l4 μ
  else
    if ((l4 >>> (l5 &&& 31)) &&& (1 : Int32)) = (1 : Int32) then
      fM_count_185 N k117 k145 l1 l2 l4 l5 l5 (μ.1 128 0) μ
    else
      me_gi l5 12 <|
      fM_count_185 N k117 k145 l1 l2 l4 l5 l5 (μ.1 15 l5.toNatClampNeg) μ
def fM_count_145 (N : Nat) (k117 : Int32 → Int32 → me_M → Option me_M) (F : Nat) : Int32 → Int32 → Int32 → Int32 → me_M → Option me_M := Nat.rec (motive := fun _ => Int32 → Int32 → Int32 → Int32 → me_M → Option me_M) (fun _ _ _ _ _ => none) (fun _ k145 => fM_count_145b N k117 k145) F
def fM_count_117b (N : Nat) (k117 : Int32 → Int32 → me_M → Option me_M) (l1 : Int32) (l2 : Int32) (μ : me_M) : Option me_M :=
  if (μ.1 100 0) ≤ l2 then
    fM_count_213 N μ
  else
    (fM_firstReady N μ l1).bind fun r6 =>
    if r6 < 0 then
      fM_count_207 N k117 l1 l2 μ
    else
      (fM_together N μ r6).bind fun r8 =>
      fM_count_145 N k117 N l1 l2 r8 (0 : Int32) μ
def fM_count_117 (N : Nat) (F : Nat) : Int32 → Int32 → me_M → Option me_M := Nat.rec (motive := fun _ => Int32 → Int32 → me_M → Option me_M) (fun _ _ _ => none) (fun _ k117 => fM_count_117b N k117) F
def fM_count_108 (N : Nat) (μ : me_M) : Option me_M :=
  fM_count_117 N N (0 : Int32) (0 : Int32) (me_wi μ 128 0 (0 : Int32))
def fM_count_102 (N : Nat) (k45 : Int32 → me_M → Option me_M) (l1 : Int32) (μ : me_M) : Option me_M :=
  k45 (l1 + (1 : Int32)) μ
def fM_count_94 (N : Nat) (k45 : Int32 → me_M → Option me_M) (k55 : Int32 → Int32 → me_M → Option me_M) (l1 : Int32) (l2 : Int32) (s1 : Int32) (s2 : Int32) (s3 : Int32) (μ : me_M) : Option me_M :=
  me_gi s1 12 <|
  k55 l1 (l2 + (1 : Int32)) (me_wi μ 14 s1.toNatClampNeg (s2 ||| s3))
def fM_count_55b (N : Nat) (k45 : Int32 → me_M → Option me_M) (k55 : Int32 → Int32 → me_M → Option me_M) (l1 : Int32) (l2 : Int32) (μ : me_M) : Option me_M :=
  if (μ.1 100 0) ≤ l2 then
    fM_count_102 N k45 l1 μ
  else
    me_gi l2 12 <|
    me_gi l2 12 <|
    if (((μ.1 14 l2.toNatClampNeg) >>> (l1 &&& 31)) &&& (1 : Int32)) = (1 : Int32) then
      me_gi l1 12 <|
      fM_count_94 N k45 k55 l1 l2 l2 (μ.1 14 l2.toNatClampNeg) (μ.1 14 l1.toNatClampNeg) μ
    else
      fM_count_94 N k45 k55 l1 l2 l2 (μ.1 14 l2.toNatClampNeg) (0 : Int32) μ
def fM_count_55 (N : Nat) (k45 : Int32 → me_M → Option me_M) (F : Nat) : Int32 → Int32 → me_M → Option me_M := Nat.rec (motive := fun _ => Int32 → Int32 → me_M → Option me_M) (fun _ _ _ => none) (fun _ k55 => fM_count_55b N k45 k55) F
def fM_count_45b (N : Nat) (k45 : Int32 → me_M → Option me_M) (l1 : Int32) (μ : me_M) : Option me_M :=
  if (μ.1 100 0) ≤ l1 then
    fM_count_108 N μ
  else
    fM_count_55 N k45 N l1 (0 : Int32) μ
def fM_count_45 (N : Nat) (F : Nat) : Int32 → me_M → Option me_M := Nat.rec (motive := fun _ => Int32 → me_M → Option me_M) (fun _ _ => none) (fun _ k45 => fM_count_45b N k45) F
def fM_count_43 (N : Nat) (μ : me_M) : Option me_M :=
  fM_count_45 N N (0 : Int32) μ
def fM_count_6b (N : Nat) (k6 : Int32 → me_M → Option me_M) (l1 : Int32) (μ : me_M) : Option me_M :=
  if (μ.1 100 0) ≤ l1 then
    fM_count_43 N μ
  else
    me_gi l1 12 <|
    me_gi l1 12 <|
    me_gi l1 12 <|
    k6 (l1 + (1 : Int32)) (me_wi (me_wi μ 14 l1.toNatClampNeg ((μ.1 6 l1.toNatClampNeg) ||| ((1 : Int32) <<< (l1 &&& 31)))) 15 l1.toNatClampNeg (-1 : Int32))
def fM_count_6 (N : Nat) (F : Nat) : Int32 → me_M → Option me_M := Nat.rec (motive := fun _ => Int32 → me_M → Option me_M) (fun _ _ => none) (fun _ k6 => fM_count_6b N k6) F
def fM_count (N : Nat) (μ : me_M) : Option me_M :=
  (fM_read N μ).bind fun r20 =>
  fM_count_6 N N (0 : Int32) r20
def fM_components (N : Nat) (μ : me_M) : Option (Int32 × me_M) :=
  (fM_count N μ).bind fun r1 =>
  some (r1.1 128 0, r1)
def fM_component (N : Nat) (l1 : Int32) (μ : me_M) : Option (Int32 × me_M) :=
  (fM_node N μ l1).bind fun r1 =>
  if r1 = 0 then
    some ((-1 : Int32), μ)
  else
    (fM_count N μ).bind fun r3 =>
    me_gi l1 12 <|
    some (r3.1 15 l1.toNatClampNeg, r3)
def fM_total_27 (N : Nat) (μ : me_M) (l1 : Int32) : Option Int32 :=
  some l1
def fM_total_4b (N : Nat) (μ : me_M) (k4 : Int32 → Int32 → Option Int32) (l1 : Int32) (l2 : Int32) : Option Int32 :=
  if (μ.1 100 0) ≤ l2 then
    fM_total_27 N μ l1
  else
    me_gi l2 12 <|
    k4 (l1 + (μ.1 10 l2.toNatClampNeg)) (l2 + (1 : Int32))
def fM_total_4 (N : Nat) (μ : me_M) (F : Nat) : Int32 → Int32 → Option Int32 := Nat.rec (motive := fun _ => Int32 → Int32 → Option Int32) (fun _ _ => none) (fun _ k4 => fM_total_4b N μ k4) F
def fM_total (N : Nat) (μ : me_M) : Option Int32 :=
  fM_total_4 N μ N (0 : Int32) (0 : Int32)
def fM_prefer_37 (N : Nat) (l1 : Int32) (l2 : Int32) (μ : me_M) : Option (Int32 × me_M) :=
  me_gi l1 12 <|
  me_gz (1 : Int32) <|
  some ((1 : Int32), me_wi μ 10 l1.toNatClampNeg l2)
def fM_prefer_35 (N : Nat) (μ : me_M) : Option (Int32 × me_M) :=
  me_gz (0 : Int32) <|
  some ((0 : Int32), μ)
def fM_prefer (N : Nat) (l1 : Int32) (l2 : Int32) (μ : me_M) : Option (Int32 × me_M) :=
  (fM_node N μ l1).bind fun r4 =>
  if r4 = 0 then
    fM_prefer_35 N μ
  else
    if l2 < 0 then
      fM_prefer_35 N μ
    else
      if (100 : Int32) < l2 then
        fM_prefer_35 N μ
      else
        if l2 = 0 then
          (fM_total N μ).bind fun r9 =>
          me_gi l1 12 <|
          if r9 = (μ.1 10 l1.toNatClampNeg) then
            fM_prefer_35 N μ
          else
            fM_prefer_37 N l1 l2 μ
        else
          fM_prefer_37 N l1 l2 μ
def fM_links_19 (N : Nat) (μ : me_M) (s0 : Int32) : Option Int32 :=
  me_gz s0 <|
  some s0
def fM_links (N : Nat) (μ : me_M) (l1 : Int32) (l2 : Int32) : Option Int32 :=
  me_gi l1 12 <|
  if (((μ.1 6 l1.toNatClampNeg) >>> (l2 &&& 31)) &&& (1 : Int32)) = (1 : Int32) then
    fM_links_19 N μ (1 : Int32)
  else
    fM_links_19 N μ (0 : Int32)
def fM_into_35 (N : Nat) (μ : me_M) (l2 : Int32) : Option Int32 :=
  some l2
def fM_into_27 (N : Nat) (μ : me_M) (k4 : Int32 → Int32 → Int32 → Option Int32) (l1 : Int32) (l3 : Int32) (s0 : Int32) (s1 : Int32) : Option Int32 :=
  k4 l1 (s0 + s1) (l3 + (1 : Int32))
def fM_into_4b (N : Nat) (μ : me_M) (k4 : Int32 → Int32 → Int32 → Option Int32) (l1 : Int32) (l2 : Int32) (l3 : Int32) : Option Int32 :=
  if (μ.1 100 0) ≤ l3 then
    fM_into_35 N μ l2
  else
    (fM_links N μ l3 l1).bind fun r2 =>
    if r2 = 0 then
      fM_into_27 N μ k4 l1 l3 l2 (0 : Int32)
    else
      fM_into_27 N μ k4 l1 l3 l2 (1 : Int32)
def fM_into_4 (N : Nat) (μ : me_M) (F : Nat) : Int32 → Int32 → Int32 → Option Int32 := Nat.rec (motive := fun _ => Int32 → Int32 → Int32 → Option Int32) (fun _ _ _ => none) (fun _ k4 => fM_into_4b N μ k4) F
def fM_into (N : Nat) (μ : me_M) (l1 : Int32) : Option Int32 :=
  fM_into_4 N μ N l1 (0 : Int32) (0 : Int32)
def fM_stepRank_185 (N : Nat) (μ : me_M) : Option me_M :=
  some μ
def fM_stepRank_122 (N : Nat) (k53 : Int64 → Int64 → Int32 → me_M → Option me_M) (l1 : Int64) (l3 : Int64) (l5 : Int32) (l6 : Int64) (μ : me_M) : Option me_M :=
  me_gi l5 12 <|
  me_gd l1 0 <|
  me_gi l5 12 <|
  me_gd l1 0 <|
  me_gi l5 12 <|
  k53 l1 l3 (l5 + (1 : Int32)) (me_wl μ 13 l5.toNatClampNeg (((((((1000 : Int32) - (μ.1 121 0)).toInt64) * (1000000000 : Int64)) * ((μ.1 10 l5.toNatClampNeg).toInt64)) / l1) + ((((μ.1 121 0).toInt64) * (l6 + ((l3 * ((μ.1 10 l5.toNatClampNeg).toInt64)) / l1))) / (1000 : Int64))))
def fM_stepRank_113 (N : Nat) (k53 : Int64 → Int64 → Int32 → me_M → Option me_M) (k68 : Int64 → Int64 → Int32 → Int64 → Int32 → me_M → Option me_M) (l1 : Int64) (l3 : Int64) (l5 : Int32) (l8 : Int32) (s0 : Int64) (s1 : Int64) (μ : me_M) : Option me_M :=
  k68 l1 l3 l5 (s0 + s1) (l8 + (1 : Int32)) μ
def fM_stepRank_68b (N : Nat) (k53 : Int64 → Int64 → Int32 → me_M → Option me_M) (k68 : Int64 → Int64 → Int32 → Int64 → Int32 → me_M → Option me_M) (l1 : Int64) (l3 : Int64) (l5 : Int32) (l6 : Int64) (l8 : Int32) (μ : me_M) : Option me_M :=
  if (μ.1 100 0) ≤ l8 then
    fM_stepRank_122 N k53 l1 l3 l5 l6 μ
  else
    (fM_links N μ l8 l5).bind fun r8 =>
    if r8 = 0 then
      fM_stepRank_113 N k53 k68 l1 l3 l5 l8 l6 (0 : Int64) μ
    else
      me_gi l8 12 <|
      me_gi l8 12 <|
      (fM_ones N (μ.1 6 l8.toNatClampNeg)).bind fun r12 =>
      me_gd r12.toInt64 0 <|
      fM_stepRank_113 N k53 k68 l1 l3 l5 l8 l6 ((μ.2 11 l8.toNatClampNeg) / r12.toInt64) μ
def fM_stepRank_68 (N : Nat) (k53 : Int64 → Int64 → Int32 → me_M → Option me_M) (F : Nat) : Int64 → Int64 → Int32 → Int64 → Int32 → me_M → Option me_M := Nat.rec (motive := fun _ => Int64 → Int64 → Int32 → Int64 → Int32 → me_M → Option me_M) (fun _ _ _ _ _ _ => none) (fun _ k68 => fM_stepRank_68b N k53 k68) F
def fM_stepRank_53b (N : Nat) (k53 : Int64 → Int64 → Int32 → me_M → Option me_M) (l1 : Int64) (l3 : Int64) (l5 : Int32) (μ : me_M) : Option me_M :=
  if (μ.1 100 0) ≤ l5 then
    fM_stepRank_185 N μ
  else
    fM_stepRank_68 N k53 N l1 l3 l5 (0 : Int64) (0 : Int32) μ
def fM_stepRank_53 (N : Nat) (F : Nat) : Int64 → Int64 → Int32 → me_M → Option me_M := Nat.rec (motive := fun _ => Int64 → Int64 → Int32 → me_M → Option me_M) (fun _ _ _ _ => none) (fun _ k53 => fM_stepRank_53b N k53) F
def fM_stepRank_50 (N : Nat) (l1 : Int64) (l3 : Int64) (μ : me_M) : Option me_M :=
  fM_stepRank_53 N N l1 l3 (0 : Int32) μ
def fM_stepRank_42 (N : Nat) (k11 : Int64 → Int64 → Int32 → me_M → Option me_M) (l1 : Int64) (l5 : Int32) (s0 : Int64) (s1 : Int64) (μ : me_M) : Option me_M :=
  k11 l1 (s0 + s1) (l5 + (1 : Int32)) μ
def fM_stepRank_11b (N : Nat) (k11 : Int64 → Int64 → Int32 → me_M → Option me_M) (l1 : Int64) (l3 : Int64) (l5 : Int32) (μ : me_M) : Option me_M :=
  if (μ.1 100 0) ≤ l5 then
    fM_stepRank_50 N l1 l3 μ
  else
    me_gi l5 12 <|
    if (μ.1 6 l5.toNatClampNeg) = 0 then
      me_gi l5 12 <|
      fM_stepRank_42 N k11 l1 l5 l3 (μ.2 11 l5.toNatClampNeg) μ
    else
      fM_stepRank_42 N k11 l1 l5 l3 (0 : Int64) μ
def fM_stepRank_11 (N : Nat) (F : Nat) : Int64 → Int64 → Int32 → me_M → Option me_M := Nat.rec (motive := fun _ => Int64 → Int64 → Int32 → me_M → Option me_M) (fun _ _ _ _ => none) (fun _ k11 => fM_stepRank_11b N k11) F
def fM_stepRank (N : Nat) (μ : me_M) : Option me_M :=
  (fM_total N μ).bind fun r19 =>
  fM_stepRank_11 N N r19.toInt64 (0 : Int64) (0 : Int32) μ
def fM_bring_128 (N : Nat) (μ : me_M) : Option me_M :=
  some μ
def fM_bring_122 (N : Nat) (k60 : Int32 → Int64 → Int32 → me_M → Option me_M) (l1 : Int32) (l2 : Int64) (l4 : Int32) (μ : me_M) : Option me_M :=
  k60 l1 l2 (l4 + (1 : Int32)) μ
def fM_bring_60b (N : Nat) (k60 : Int32 → Int64 → Int32 → me_M → Option me_M) (l1 : Int32) (l2 : Int64) (l4 : Int32) (μ : me_M) : Option me_M :=
  if (μ.1 100 0) ≤ l4 then
    fM_bring_128 N μ
  else
    if (lg_cmp l2 (0 : Int64)) ≤ 0 then
      fM_bring_128 N μ
    else
      if l1 = 0 then
        me_gi l4 12 <|
        me_gd l2 0 <|
        me_gi l4 12 <|
        fM_bring_122 N k60 l1 l2 l4 (me_wl μ 13 l4.toNatClampNeg (((μ.2 13 l4.toNatClampNeg) * (1000000 : Int64)) / l2))
      else
        me_gi l4 12 <|
        me_gd l2 0 <|
        me_gi l4 12 <|
        fM_bring_122 N k60 l1 l2 l4 (me_wl μ 12 l4.toNatClampNeg (((μ.2 12 l4.toNatClampNeg) * (1000000 : Int64)) / l2))
def fM_bring_60 (N : Nat) (F : Nat) : Int32 → Int64 → Int32 → me_M → Option me_M := Nat.rec (motive := fun _ => Int32 → Int64 → Int32 → me_M → Option me_M) (fun _ _ _ _ => none) (fun _ k60 => fM_bring_60b N k60) F
def fM_bring_57 (N : Nat) (l1 : Int32) (l2 : Int64) (μ : me_M) : Option me_M :=
  fM_bring_60 N N l1 l2 (0 : Int32) μ
def fM_bring_50 (N : Nat) (k5 : Int32 → Int64 → Int32 → me_M → Option me_M) (l1 : Int32) (l4 : Int32) (s0 : Int64) (μ : me_M) : Option me_M :=
  k5 l1 s0 (l4 + (1 : Int32)) μ
def fM_bring_35 (N : Nat) (k5 : Int32 → Int64 → Int32 → me_M → Option me_M) (l1 : Int32) (l2 : Int64) (l4 : Int32) (s0 : Int64) (μ : me_M) : Option me_M :=
  if (lg_cmp s0 l2) ≤ 0 then
    fM_bring_50 N k5 l1 l4 l2 μ
  else
    fM_bring_50 N k5 l1 l4 s0 μ
def fM_bring_5b (N : Nat) (k5 : Int32 → Int64 → Int32 → me_M → Option me_M) (l1 : Int32) (l2 : Int64) (l4 : Int32) (μ : me_M) : Option me_M :=
  if (μ.1 100 0) ≤ l4 then
    fM_bring_57 N l1 l2 μ
  else
    if l1 = 0 then
      me_gi l4 12 <|
      fM_bring_35 N k5 l1 l2 l4 (μ.2 13 l4.toNatClampNeg) μ
    else
      me_gi l4 12 <|
      fM_bring_35 N k5 l1 l2 l4 (μ.2 12 l4.toNatClampNeg) μ
def fM_bring_5 (N : Nat) (F : Nat) : Int32 → Int64 → Int32 → me_M → Option me_M := Nat.rec (motive := fun _ => Int32 → Int64 → Int32 → me_M → Option me_M) (fun _ _ _ _ => none) (fun _ k5 => fM_bring_5b N k5) F
def fM_bring (N : Nat) (l1 : Int32) (μ : me_M) : Option me_M :=
  fM_bring_5 N N l1 (0 : Int64) (0 : Int32) μ
def fM_stepHubs_139 (N : Nat) (μ : me_M) : Option me_M :=
  (fM_bring N (1 : Int32) μ).bind fun r1 =>
  some r1
def fM_stepHubs_133 (N : Nat) (k74 : Int32 → me_M → Option me_M) (l1 : Int32) (μ : me_M) : Option me_M :=
  k74 (l1 + (1 : Int32)) μ
def fM_stepHubs_125 (N : Nat) (k74 : Int32 → me_M → Option me_M) (k91 : Int32 → Int32 → me_M → Option me_M) (l1 : Int32) (l2 : Int32) (s1 : Int32) (s2 : Int64) (s3 : Int64) (μ : me_M) : Option me_M :=
  me_gi s1 12 <|
  k91 l1 (l2 + (1 : Int32)) (me_wl μ 12 s1.toNatClampNeg (s2 + s3))
def fM_stepHubs_91b (N : Nat) (k74 : Int32 → me_M → Option me_M) (k91 : Int32 → Int32 → me_M → Option me_M) (l1 : Int32) (l2 : Int32) (μ : me_M) : Option me_M :=
  if (μ.1 100 0) ≤ l2 then
    fM_stepHubs_133 N k74 l1 μ
  else
    me_gi l1 12 <|
    (fM_links N μ l1 l2).bind fun r5 =>
    if r5 = 0 then
      fM_stepHubs_125 N k74 k91 l1 l2 l1 (μ.2 12 l1.toNatClampNeg) (0 : Int64) μ
    else
      me_gi l2 12 <|
      fM_stepHubs_125 N k74 k91 l1 l2 l1 (μ.2 12 l1.toNatClampNeg) (μ.2 13 l2.toNatClampNeg) μ
def fM_stepHubs_91 (N : Nat) (k74 : Int32 → me_M → Option me_M) (F : Nat) : Int32 → Int32 → me_M → Option me_M := Nat.rec (motive := fun _ => Int32 → Int32 → me_M → Option me_M) (fun _ _ _ => none) (fun _ k91 => fM_stepHubs_91b N k74 k91) F
def fM_stepHubs_74b (N : Nat) (k74 : Int32 → me_M → Option me_M) (l1 : Int32) (μ : me_M) : Option me_M :=
  if (μ.1 100 0) ≤ l1 then
    fM_stepHubs_139 N μ
  else
    me_gi l1 12 <|
    fM_stepHubs_91 N k74 N l1 (0 : Int32) (me_wl μ 12 l1.toNatClampNeg (0 : Int64))
def fM_stepHubs_74 (N : Nat) (F : Nat) : Int32 → me_M → Option me_M := Nat.rec (motive := fun _ => Int32 → me_M → Option me_M) (fun _ _ => none) (fun _ k74 => fM_stepHubs_74b N k74) F
def fM_stepHubs_67 (N : Nat) (μ : me_M) : Option me_M :=
  (fM_bring N (0 : Int32) μ).bind fun r10 =>
  fM_stepHubs_74 N N (0 : Int32) r10
def fM_stepHubs_61 (N : Nat) (k2 : Int32 → me_M → Option me_M) (l1 : Int32) (μ : me_M) : Option me_M :=
  k2 (l1 + (1 : Int32)) μ
def fM_stepHubs_53 (N : Nat) (k2 : Int32 → me_M → Option me_M) (k19 : Int32 → Int32 → me_M → Option me_M) (l1 : Int32) (l2 : Int32) (s1 : Int32) (s2 : Int64) (s3 : Int64) (μ : me_M) : Option me_M :=
  me_gi s1 12 <|
  k19 l1 (l2 + (1 : Int32)) (me_wl μ 13 s1.toNatClampNeg (s2 + s3))
def fM_stepHubs_19b (N : Nat) (k2 : Int32 → me_M → Option me_M) (k19 : Int32 → Int32 → me_M → Option me_M) (l1 : Int32) (l2 : Int32) (μ : me_M) : Option me_M :=
  if (μ.1 100 0) ≤ l2 then
    fM_stepHubs_61 N k2 l1 μ
  else
    me_gi l1 12 <|
    (fM_links N μ l2 l1).bind fun r14 =>
    if r14 = 0 then
      fM_stepHubs_53 N k2 k19 l1 l2 l1 (μ.2 13 l1.toNatClampNeg) (0 : Int64) μ
    else
      me_gi l2 12 <|
      fM_stepHubs_53 N k2 k19 l1 l2 l1 (μ.2 13 l1.toNatClampNeg) (μ.2 12 l2.toNatClampNeg) μ
def fM_stepHubs_19 (N : Nat) (k2 : Int32 → me_M → Option me_M) (F : Nat) : Int32 → Int32 → me_M → Option me_M := Nat.rec (motive := fun _ => Int32 → Int32 → me_M → Option me_M) (fun _ _ _ => none) (fun _ k19 => fM_stepHubs_19b N k2 k19) F
def fM_stepHubs_2b (N : Nat) (k2 : Int32 → me_M → Option me_M) (l1 : Int32) (μ : me_M) : Option me_M :=
  if (μ.1 100 0) ≤ l1 then
    fM_stepHubs_67 N μ
  else
    me_gi l1 12 <|
    fM_stepHubs_19 N k2 N l1 (0 : Int32) (me_wl μ 13 l1.toNatClampNeg (0 : Int64))
def fM_stepHubs_2 (N : Nat) (F : Nat) : Int32 → me_M → Option me_M := Nat.rec (motive := fun _ => Int32 → me_M → Option me_M) (fun _ _ => none) (fun _ k2 => fM_stepHubs_2b N k2) F
def fM_stepHubs (N : Nat) (μ : me_M) : Option me_M :=
  fM_stepHubs_2 N N (0 : Int32) μ
def fM_stepShares_152 (N : Nat) (μ : me_M) : Option me_M :=
  some μ
def fM_stepShares_146 (N : Nat) (k76 : Int32 → me_M → Option me_M) (l1 : Int32) (μ : me_M) : Option me_M :=
  k76 (l1 + (1 : Int32)) μ
def fM_stepShares_138 (N : Nat) (k76 : Int32 → me_M → Option me_M) (k93 : Int32 → Int32 → me_M → Option me_M) (l1 : Int32) (l2 : Int32) (s1 : Int32) (s2 : Int64) (s3 : Int64) (μ : me_M) : Option me_M :=
  me_gi s1 12 <|
  k93 l1 (l2 + (1 : Int32)) (me_wl μ 13 s1.toNatClampNeg (s2 + s3))
def fM_stepShares_93b (N : Nat) (k76 : Int32 → me_M → Option me_M) (k93 : Int32 → Int32 → me_M → Option me_M) (l1 : Int32) (l2 : Int32) (μ : me_M) : Option me_M :=
  if (μ.1 100 0) ≤ l2 then
    fM_stepShares_146 N k76 l1 μ
  else
    me_gi l1 12 <|
    (fM_links N μ l2 l1).bind fun r4 =>
    if r4 = 0 then
      fM_stepShares_138 N k76 k93 l1 l2 l1 (μ.2 13 l1.toNatClampNeg) (0 : Int64) μ
    else
      me_gi l2 12 <|
      me_gi l2 12 <|
      (fM_ones N (μ.1 6 l2.toNatClampNeg)).bind fun r8 =>
      me_gd r8.toInt64 0 <|
      fM_stepShares_138 N k76 k93 l1 l2 l1 (μ.2 13 l1.toNatClampNeg) ((μ.2 12 l2.toNatClampNeg) / r8.toInt64) μ
def fM_stepShares_93 (N : Nat) (k76 : Int32 → me_M → Option me_M) (F : Nat) : Int32 → Int32 → me_M → Option me_M := Nat.rec (motive := fun _ => Int32 → Int32 → me_M → Option me_M) (fun _ _ _ => none) (fun _ k93 => fM_stepShares_93b N k76 k93) F
def fM_stepShares_76b (N : Nat) (k76 : Int32 → me_M → Option me_M) (l1 : Int32) (μ : me_M) : Option me_M :=
  if (μ.1 100 0) ≤ l1 then
    fM_stepShares_152 N μ
  else
    me_gi l1 12 <|
    fM_stepShares_93 N k76 N l1 (0 : Int32) (me_wl μ 13 l1.toNatClampNeg (0 : Int64))
def fM_stepShares_76 (N : Nat) (F : Nat) : Int32 → me_M → Option me_M := Nat.rec (motive := fun _ => Int32 → me_M → Option me_M) (fun _ _ => none) (fun _ k76 => fM_stepShares_76b N k76) F
def fM_stepShares_74 (N : Nat) (μ : me_M) : Option me_M :=
  fM_stepShares_76 N N (0 : Int32) μ
def fM_stepShares_68 (N : Nat) (k2 : Int32 → me_M → Option me_M) (l1 : Int32) (μ : me_M) : Option me_M :=
  k2 (l1 + (1 : Int32)) μ
def fM_stepShares_60 (N : Nat) (k2 : Int32 → me_M → Option me_M) (k19 : Int32 → Int32 → me_M → Option me_M) (l1 : Int32) (l2 : Int32) (s1 : Int32) (s2 : Int64) (s3 : Int64) (μ : me_M) : Option me_M :=
  me_gi s1 12 <|
  k19 l1 (l2 + (1 : Int32)) (me_wl μ 12 s1.toNatClampNeg (s2 + s3))
def fM_stepShares_19b (N : Nat) (k2 : Int32 → me_M → Option me_M) (k19 : Int32 → Int32 → me_M → Option me_M) (l1 : Int32) (l2 : Int32) (μ : me_M) : Option me_M :=
  if (μ.1 100 0) ≤ l2 then
    fM_stepShares_68 N k2 l1 μ
  else
    me_gi l1 12 <|
    (fM_links N μ l1 l2).bind fun r15 =>
    if r15 = 0 then
      fM_stepShares_60 N k2 k19 l1 l2 l1 (μ.2 12 l1.toNatClampNeg) (0 : Int64) μ
    else
      me_gi l2 12 <|
      (fM_into N μ l2).bind fun r18 =>
      me_gd r18.toInt64 0 <|
      fM_stepShares_60 N k2 k19 l1 l2 l1 (μ.2 12 l1.toNatClampNeg) ((μ.2 11 l2.toNatClampNeg) / r18.toInt64) μ
def fM_stepShares_19 (N : Nat) (k2 : Int32 → me_M → Option me_M) (F : Nat) : Int32 → Int32 → me_M → Option me_M := Nat.rec (motive := fun _ => Int32 → Int32 → me_M → Option me_M) (fun _ _ _ => none) (fun _ k19 => fM_stepShares_19b N k2 k19) F
def fM_stepShares_2b (N : Nat) (k2 : Int32 → me_M → Option me_M) (l1 : Int32) (μ : me_M) : Option me_M :=
  if (μ.1 100 0) ≤ l1 then
    fM_stepShares_74 N μ
  else
    me_gi l1 12 <|
    fM_stepShares_19 N k2 N l1 (0 : Int32) (me_wl μ 12 l1.toNatClampNeg (0 : Int64))
def fM_stepShares_2 (N : Nat) (F : Nat) : Int32 → me_M → Option me_M := Nat.rec (motive := fun _ => Int32 → me_M → Option me_M) (fun _ _ => none) (fun _ k2 => fM_stepShares_2b N k2) F
def fM_stepShares (N : Nat) (μ : me_M) : Option me_M :=
  fM_stepShares_2 N N (0 : Int32) μ
def fM_step_162 (N : Nat) (l1 : Int32) (μ : me_M) : Option (Int32 × me_M) :=
  some (l1, μ)
def fM_step_143 (N : Nat) (k18 : Int32 → Int32 → me_M → Option (Int32 × me_M)) (l1 : Int32) (l2 : Int32) (μ : me_M) : Option (Int32 × me_M) :=
  if (lg_cmp (μ.2 125 0) (0 : Int64)) = 0 then
    some (l2 + (1 : Int32), μ)
  else
    k18 l1 (l2 + (1 : Int32)) μ
def fM_step_121 (N : Nat) (k18 : Int32 → Int32 → me_M → Option (Int32 × me_M)) (k63 : Int32 → Int32 → Int32 → me_M → Option (Int32 × me_M)) (l1 : Int32) (l2 : Int32) (l3 : Int32) (s1 : Int64) (s2 : Int64) (μ : me_M) : Option (Int32 × me_M) :=
  me_gi l3 12 <|
  me_gi l3 12 <|
  k63 l1 l2 (l3 + (1 : Int32)) (me_wl (me_wl μ 125 0 (s1 + s2)) 11 l3.toNatClampNeg ((me_wl μ 125 0 (s1 + s2)).2 13 l3.toNatClampNeg))
def fM_step_63b (N : Nat) (k18 : Int32 → Int32 → me_M → Option (Int32 × me_M)) (k63 : Int32 → Int32 → Int32 → me_M → Option (Int32 × me_M)) (l1 : Int32) (l2 : Int32) (l3 : Int32) (μ : me_M) : Option (Int32 × me_M) :=
  if (μ.1 100 0) ≤ l3 then
    fM_step_143 N k18 l1 l2 μ
  else
    me_gi l3 12 <|
    me_gi l3 12 <|
    if (lg_cmp (μ.2 13 l3.toNatClampNeg) (μ.2 11 l3.toNatClampNeg)) ≤ 0 then
      me_gi l3 12 <|
      me_gi l3 12 <|
      fM_step_121 N k18 k63 l1 l2 l3 (μ.2 125 0) ((μ.2 11 l3.toNatClampNeg) - (μ.2 13 l3.toNatClampNeg)) μ
    else
      me_gi l3 12 <|
      me_gi l3 12 <|
      fM_step_121 N k18 k63 l1 l2 l3 (μ.2 125 0) ((μ.2 13 l3.toNatClampNeg) - (μ.2 11 l3.toNatClampNeg)) μ
def fM_step_63 (N : Nat) (k18 : Int32 → Int32 → me_M → Option (Int32 × me_M)) (F : Nat) : Int32 → Int32 → Int32 → me_M → Option (Int32 × me_M) := Nat.rec (motive := fun _ => Int32 → Int32 → Int32 → me_M → Option (Int32 × me_M)) (fun _ _ _ _ => none) (fun _ k63 => fM_step_63b N k18 k63) F
def fM_step_56 (N : Nat) (k18 : Int32 → Int32 → me_M → Option (Int32 × me_M)) (l1 : Int32) (l2 : Int32) (μ : me_M) : Option (Int32 × me_M) :=
  fM_step_63 N k18 N l1 l2 (0 : Int32) (me_wl μ 125 0 (0 : Int64))
def fM_step_18b (N : Nat) (k18 : Int32 → Int32 → me_M → Option (Int32 × me_M)) (l1 : Int32) (l2 : Int32) (μ : me_M) : Option (Int32 × me_M) :=
  if l1 ≤ l2 then
    fM_step_162 N l1 μ
  else
    if (μ.1 120 0) = 0 then
      (fM_stepRank N μ).bind fun r17 =>
      fM_step_56 N k18 l1 l2 r17
    else
      if (μ.1 120 0) = (1 : Int32) then
        (fM_stepHubs N μ).bind fun r16 =>
        fM_step_56 N k18 l1 l2 r16
      else
        (fM_stepShares N μ).bind fun r15 =>
        fM_step_56 N k18 l1 l2 r15
def fM_step_18 (N : Nat) (F : Nat) : Int32 → Int32 → me_M → Option (Int32 × me_M) := Nat.rec (motive := fun _ => Int32 → Int32 → me_M → Option (Int32 × me_M)) (fun _ _ _ => none) (fun _ k18 => fM_step_18b N k18) F
def fM_step_10 (N : Nat) (μ : me_M) : Option (Int32 × me_M) :=
  some ((-1 : Int32), μ)
def fM_step (N : Nat) (l1 : Int32) (μ : me_M) : Option (Int32 × me_M) :=
  if l1 < 0 then
    fM_step_10 N μ
  else
    if l1 ≤ (20 : Int32) then
      (fM_read N μ).bind fun r20 =>
      fM_step_18 N N l1 (0 : Int32) r20
    else
      fM_step_10 N μ
def fM_score_20 (N : Nat) (μ : me_M) (s0 : Int64) : Option Int64 :=
  some s0
def fM_score (N : Nat) (μ : me_M) (l1 : Int32) : Option Int64 :=
  (fM_node N μ l1).bind fun r1 =>
  if r1 = 0 then
    fM_score_20 N μ (-1 : Int64)
  else
    me_gi l1 12 <|
    fM_score_20 N μ (μ.2 11 l1.toNatClampNeg)
def fM_hub_20 (N : Nat) (μ : me_M) (s0 : Int64) : Option Int64 :=
  some s0
def fM_hub (N : Nat) (μ : me_M) (l1 : Int32) : Option Int64 :=
  (fM_node N μ l1).bind fun r1 =>
  if r1 = 0 then
    fM_hub_20 N μ (-1 : Int64)
  else
    me_gi l1 12 <|
    fM_hub_20 N μ (μ.2 12 l1.toNatClampNeg)
def fM_top_91 (N : Nat) (μ : me_M) : Option Int32 :=
  some (-1 : Int32)
def fM_top_78 (N : Nat) (μ : me_M) (k2 : Int32 → Int32 → Option Int32) (l1 : Int32) (l2 : Int32) (l3 : Int32) : Option Int32 :=
  if l3 = l1 then
    some l2
  else
    k2 l1 (l2 + (1 : Int32))
def fM_top_70 (N : Nat) (μ : me_M) (k2 : Int32 → Int32 → Option Int32) (k15 : Int32 → Int32 → Int32 → Int32 → Option Int32) (l1 : Int32) (l2 : Int32) (l4 : Int32) (s0 : Int32) (s1 : Int32) : Option Int32 :=
  k15 l1 l2 (s0 + s1) (l4 + (1 : Int32))
def fM_top_69 (N : Nat) (μ : me_M) (k2 : Int32 → Int32 → Option Int32) (k15 : Int32 → Int32 → Int32 → Int32 → Option Int32) (l1 : Int32) (l2 : Int32) (l4 : Int32) (s0 : Int32) : Option Int32 :=
  fM_top_70 N μ k2 k15 l1 l2 l4 s0 (0 : Int32)
def fM_top_65 (N : Nat) (μ : me_M) (k2 : Int32 → Int32 → Option Int32) (k15 : Int32 → Int32 → Int32 → Int32 → Option Int32) (l1 : Int32) (l2 : Int32) (l4 : Int32) (s0 : Int32) : Option Int32 :=
  fM_top_70 N μ k2 k15 l1 l2 l4 s0 (1 : Int32)
def fM_top_15b (N : Nat) (μ : me_M) (k2 : Int32 → Int32 → Option Int32) (k15 : Int32 → Int32 → Int32 → Int32 → Option Int32) (l1 : Int32) (l2 : Int32) (l3 : Int32) (l4 : Int32) : Option Int32 :=
  if (μ.1 100 0) ≤ l4 then
    fM_top_78 N μ k2 l1 l2 l3
  else
    me_gi l4 12 <|
    me_gi l2 12 <|
    if 0 < (lg_cmp (μ.2 11 l4.toNatClampNeg) (μ.2 11 l2.toNatClampNeg)) then
      fM_top_65 N μ k2 k15 l1 l2 l4 l3
    else
      me_gi l4 12 <|
      me_gi l2 12 <|
      if (lg_cmp (μ.2 11 l4.toNatClampNeg) (μ.2 11 l2.toNatClampNeg)) = 0 then
        if l2 ≤ l4 then
          fM_top_69 N μ k2 k15 l1 l2 l4 l3
        else
          fM_top_65 N μ k2 k15 l1 l2 l4 l3
      else
        fM_top_69 N μ k2 k15 l1 l2 l4 l3
def fM_top_15 (N : Nat) (μ : me_M) (k2 : Int32 → Int32 → Option Int32) (F : Nat) : Int32 → Int32 → Int32 → Int32 → Option Int32 := Nat.rec (motive := fun _ => Int32 → Int32 → Int32 → Int32 → Option Int32) (fun _ _ _ _ => none) (fun _ k15 => fM_top_15b N μ k2 k15) F
def fM_top_2b (N : Nat) (μ : me_M) (k2 : Int32 → Int32 → Option Int32) (l1 : Int32) (l2 : Int32) : Option Int32 :=
  if (μ.1 100 0) ≤ l2 then
    fM_top_91 N μ
  else
    fM_top_15 N μ k2 N l1 l2 (0 : Int32) (0 : Int32)
def fM_top_2 (N : Nat) (μ : me_M) (F : Nat) : Int32 → Int32 → Option Int32 := Nat.rec (motive := fun _ => Int32 → Int32 → Option Int32) (fun _ _ => none) (fun _ k2 => fM_top_2b N μ k2) F
def fM_top (N : Nat) (μ : me_M) (l1 : Int32) : Option Int32 :=
  fM_top_2 N μ N l1 (0 : Int32)
def fM_change (N : Nat) (μ : me_M) : Option Int64 :=
  some (μ.2 125 0)
end
end
section
/- names: the classes' fields, the methods, the words of the tables -/
def ft_Y : u_T := fun k => match k with
  | 0 => ("ArcTape$Layout", "window", "I", false)
  | 1 => ("ArcTape$Layout", "chain", "I", false)
  | 2 => ("ArcTape$Layout", "least", "I", false)
  | 3 => ("ArcTape$Layout", "k", "I", false)
  | _ => ("ArcTape$Layout", "offsets", "[I", true)
def ty_Y : Nat → FieldType := fun k => match k with
  | 0 => .int
  | 1 => .int
  | 2 => .int
  | 3 => .int
  | _ => .array .int
def ft_K : u_T := fun k => match k with
  | 0 => ("ArcTape$Packer", "draft", "[I", true)
  | 1 => ("ArcTape$Packer", "layout", "LArcTape$Layout;", true)
  | 2 => ("ArcTape$Packer", "tape", "LArcTape$Tape;", true)
  | 3 => ("ArcTape$Packer", "depths", "[I", true)
  | 4 => ("ArcTape$Packer", "runs", "[I", true)
  | 5 => ("ArcTape$Packer", "firsts", "[I", true)
  | _ => ("ArcTape$Packer", "lengths", "[I", true)
def ty_K : Nat → FieldType := fun k => match k with
  | 0 => .array .int
  | 1 => .object "ArcTape$Layout"
  | 2 => .object "ArcTape$Tape"
  | 3 => .array .int
  | 4 => .array .int
  | 5 => .array .int
  | _ => .array .int
def ft_S : u_T := fun k => match k with
  | 0 => ("ArcTape$Parts", "numbers", "[I", true)
  | 1 => ("ArcTape$Parts", "lists", "[I", true)
  | _ => ("ArcTape$Parts", "reached", "[I", true)
def ty_S : Nat → FieldType := fun k => match k with
  | 0 => .array .int
  | 1 => .array .int
  | _ => .array .int
def ft_D : u_T := fun k => match k with
  | 0 => ("ArcTape$Reader", "lists", "[I", true)
  | 1 => ("ArcTape$Reader", "faults", "[I", true)
  | 2 => ("ArcTape$Reader", "references", "[I", true)
  | 3 => ("ArcTape$Reader", "depths", "[I", true)
  | 4 => ("ArcTape$Reader", "n", "I", true)
  | 5 => ("ArcTape$Reader", "layout", "LArcTape$Layout;", true)
  | 6 => ("ArcTape$Reader", "tape", "LArcTape$Tape;", true)
  | 7 => ("ArcTape$Reader", "node", "I", false)
  | 8 => ("ArcTape$Reader", "place", "I", false)
  | 9 => ("ArcTape$Reader", "fault", "I", false)
  | 10 => ("ArcTape$Reader", "reference", "I", false)
  | 11 => ("ArcTape$Reader", "list", "I", false)
  | 12 => ("ArcTape$Reader", "due", "I", false)
  | _ => ("ArcTape$Reader", "twice", "Z", false)
def ty_D : Nat → FieldType := fun k => match k with
  | 0 => .array .int
  | 1 => .array .int
  | 2 => .array .int
  | 3 => .array .int
  | 4 => .int
  | 5 => .object "ArcTape$Layout"
  | 6 => .object "ArcTape$Tape"
  | 7 => .int
  | 8 => .int
  | 9 => .int
  | 10 => .int
  | 11 => .int
  | 12 => .int
  | _ => .boolean
def ft_O : u_T := fun k => match k with
  | 0 => ("ArcTape$Scores", "scores", "[J", true)
  | 1 => ("ArcTape$Scores", "hubs", "[J", true)
  | 2 => ("ArcTape$Scores", "weights", "[I", true)
  | 3 => ("ArcTape$Scores", "moved", "J", false)
  | 4 => ("ArcTape$Scores", "lists", "[I", true)
  | 5 => ("ArcTape$Scores", "old", "[J", true)
  | 6 => ("ArcTape$Scores", "kind", "I", false)
  | _ => ("ArcTape$Scores", "damping", "I", false)
def ty_O : Nat → FieldType := fun k => match k with
  | 0 => .array .long
  | 1 => .array .long
  | 2 => .array .int
  | 3 => .long
  | 4 => .array .int
  | 5 => .array .long
  | 6 => .int
  | _ => .int
def ft_T : u_T := fun k => match k with
  | 0 => ("ArcTape$Tape", "bits", "[B", true)
  | _ => ("ArcTape$Tape", "length", "I", false)
def ty_T : Nat → FieldType := fun k => match k with
  | 0 => .array .byte
  | _ => .int
def ft_A : u_T := fun k => match k with
  | 0 => ("ArcTape", "n", "I", true)
  | 1 => ("ArcTape", "draft", "[I", true)
  | 2 => ("ArcTape", "tape", "LArcTape$Tape;", true)
  | 3 => ("ArcTape", "layout", "LArcTape$Layout;", true)
  | 4 => ("ArcTape", "packer", "LArcTape$Packer;", true)
  | 5 => ("ArcTape", "reader", "LArcTape$Reader;", true)
  | 6 => ("ArcTape", "parts", "LArcTape$Parts;", true)
  | _ => ("ArcTape", "scores", "LArcTape$Scores;", true)
def ty_A : Nat → FieldType := fun k => match k with
  | 0 => .int
  | 1 => .array .int
  | 2 => .object "ArcTape$Tape"
  | 3 => .object "ArcTape$Layout"
  | 4 => .object "ArcTape$Packer"
  | 5 => .object "ArcTape$Reader"
  | 6 => .object "ArcTape$Parts"
  | _ => .object "ArcTape$Scores"
def ft_M : u_T := fun k => match k with
  | 0 => ("ArcTapeModel", "n", "I", false)
  | 1 => ("ArcTapeModel", "draft", "[I", false)
  | 2 => ("ArcTapeModel", "bits", "[I", false)
  | 3 => ("ArcTapeModel", "length", "I", false)
  | 4 => ("ArcTapeModel", "offsets", "[I", false)
  | 5 => ("ArcTapeModel", "window", "I", false)
  | 6 => ("ArcTapeModel", "chain", "I", false)
  | 7 => ("ArcTapeModel", "least", "I", false)
  | 8 => ("ArcTapeModel", "zetaK", "I", false)
  | 9 => ("ArcTapeModel", "deepDraft", "[I", false)
  | 10 => ("ArcTapeModel", "runs", "[I", false)
  | 11 => ("ArcTapeModel", "at", "I", false)
  | 12 => ("ArcTapeModel", "wrong", "I", false)
  | 13 => ("ArcTapeModel", "taken", "I", false)
  | 14 => ("ArcTapeModel", "twice", "Z", false)
  | 15 => ("ArcTapeModel", "list", "[I", false)
  | 16 => ("ArcTapeModel", "fault", "[I", false)
  | 17 => ("ArcTapeModel", "refers", "[I", false)
  | 18 => ("ArcTapeModel", "deep", "[I", false)
  | 19 => ("ArcTapeModel", "weight", "[I", false)
  | 20 => ("ArcTapeModel", "kind", "I", false)
  | 21 => ("ArcTapeModel", "damping", "I", false)
  | 22 => ("ArcTapeModel", "scores", "[J", false)
  | 23 => ("ArcTapeModel", "hubs", "[J", false)
  | 24 => ("ArcTapeModel", "fresh", "[J", false)
  | 25 => ("ArcTapeModel", "moved", "J", false)
  | 26 => ("ArcTapeModel", "leads", "[I", false)
  | 27 => ("ArcTapeModel", "number", "[I", false)
  | _ => ("ArcTapeModel", "numbers", "I", false)
def ty_M : Nat → FieldType := fun k => match k with
  | 0 => .int
  | 1 => .array .int
  | 2 => .array .int
  | 3 => .int
  | 4 => .array .int
  | 5 => .int
  | 6 => .int
  | 7 => .int
  | 8 => .int
  | 9 => .array .int
  | 10 => .array .int
  | 11 => .int
  | 12 => .int
  | 13 => .int
  | 14 => .boolean
  | 15 => .array .int
  | 16 => .array .int
  | 17 => .array .int
  | 18 => .array .int
  | 19 => .array .int
  | 20 => .int
  | 21 => .int
  | 22 => .array .long
  | 23 => .array .long
  | 24 => .array .long
  | 25 => .long
  | 26 => .array .int
  | 27 => .array .int
  | _ => .int
abbrev vwCl : List vw_C := [("ArcTape$Layout", ft_Y, 5), ("ArcTape$Packer", ft_K, 7), ("ArcTape$Parts", ft_S, 3), ("ArcTape$Reader", ft_D, 14), ("ArcTape$Scores", ft_O, 8), ("ArcTape$Tape", ft_T, 2), ("ArcTape", ft_A, 8), ("ArcTapeModel", ft_M, 29)]
def tyTab : List FieldType := [.int, .byte, .long]
def wsAll : List Cond := lw_tbl.filter goodWord
theorem wsAll_good : wsAll.all goodWord = true := List.all_eq_true.mpr (fun w hw => (List.mem_filter.mp hw).2)
theorem wl_in {w : Cond} (i : Nat) (h : tables_1[i]? = some w) (g : goodWord w = true) : w ∈ wsAll := List.mem_filter.mpr ⟨List.mem_append_right _ (List.mem_of_getElem? h), g⟩
theorem wl_se {y : MethodName} {k : Nat} (i : Nat) (h : lw_privs[i]? = some (y, k)) (g : goodWord (Cond.selects y.cls y y) = true) : Cond.selects y.cls y y ∈ wsAll := List.mem_filter.mpr ⟨List.mem_append_left _ (List.mem_map.mpr ⟨(y, k), List.mem_of_getElem? h, rfl⟩), g⟩
abbrev c_T_init : ByteArray := prog_7_method_1_code
abbrev y_T_init : MethodName := ⟨"ArcTape$Tape", "<init>", "()V"⟩
abbrev c_T_putNumber : ByteArray := prog_7_method_2_code
abbrev y_T_putNumber : MethodName := ⟨"ArcTape$Tape", "putNumber", "(II)V"⟩
abbrev c_T_putUnary : ByteArray := prog_7_method_3_code
abbrev y_T_putUnary : MethodName := ⟨"ArcTape$Tape", "putUnary", "(I)V"⟩
abbrev c_T_putGamma : ByteArray := prog_7_method_4_code
abbrev y_T_putGamma : MethodName := ⟨"ArcTape$Tape", "putGamma", "(I)V"⟩
abbrev c_T_putZeta : ByteArray := prog_7_method_5_code
abbrev y_T_putZeta : MethodName := ⟨"ArcTape$Tape", "putZeta", "(II)V"⟩
abbrev c_T_exponent : ByteArray := prog_7_method_6_code
abbrev y_T_exponent : MethodName := ⟨"ArcTape$Tape", "exponent", "(I)I"⟩
abbrev c_T_withoutSign : ByteArray := prog_7_method_7_code
abbrev y_T_withoutSign : MethodName := ⟨"ArcTape$Tape", "withoutSign", "(I)I"⟩
abbrev c_T_withSign : ByteArray := prog_7_method_8_code
abbrev y_T_withSign : MethodName := ⟨"ArcTape$Tape", "withSign", "(I)I"⟩
abbrev c_A_init : ByteArray := prog_1_method_1_code
abbrev y_A_init : MethodName := ⟨"ArcTape", "<init>", "(I)V"⟩
abbrev c_A_add : ByteArray := prog_1_method_2_code
abbrev y_A_add : MethodName := ⟨"ArcTape", "add", "(II)Z"⟩
abbrev c_A_drop : ByteArray := prog_1_method_3_code
abbrev y_A_drop : MethodName := ⟨"ArcTape", "drop", "(II)Z"⟩
abbrev c_A_pack : ByteArray := prog_1_method_4_code
abbrev y_A_pack : MethodName := ⟨"ArcTape", "pack", "(IIII)I"⟩
abbrev c_A_offset : ByteArray := prog_1_method_5_code
abbrev y_A_offset : MethodName := ⟨"ArcTape", "offset", "(I)I"⟩
abbrev c_A_bit : ByteArray := prog_1_method_6_code
abbrev y_A_bit : MethodName := ⟨"ArcTape", "bit", "(I)I"⟩
abbrev c_A_flip : ByteArray := prog_1_method_7_code
abbrev y_A_flip : MethodName := ⟨"ArcTape", "flip", "(I)Z"⟩
abbrev c_A_degree : ByteArray := prog_1_method_8_code
abbrev y_A_degree : MethodName := ⟨"ArcTape", "degree", "(I)I"⟩
abbrev c_A_successor : ByteArray := prog_1_method_9_code
abbrev y_A_successor : MethodName := ⟨"ArcTape", "successor", "(II)I"⟩
abbrev c_A_reference : ByteArray := prog_1_method_10_code
abbrev y_A_reference : MethodName := ⟨"ArcTape", "reference", "(I)I"⟩
abbrev c_A_components : ByteArray := prog_1_method_11_code
abbrev y_A_components : MethodName := ⟨"ArcTape", "components", "()I"⟩
abbrev c_A_component : ByteArray := prog_1_method_12_code
abbrev y_A_component : MethodName := ⟨"ArcTape", "component", "(I)I"⟩
abbrev c_A_prefer : ByteArray := prog_1_method_13_code
abbrev y_A_prefer : MethodName := ⟨"ArcTape", "prefer", "(II)Z"⟩
abbrev c_A_start : ByteArray := prog_1_method_14_code
abbrev y_A_start : MethodName := ⟨"ArcTape", "start", "(II)Z"⟩
abbrev c_A_step : ByteArray := prog_1_method_15_code
abbrev y_A_step : MethodName := ⟨"ArcTape", "step", "(I)I"⟩
abbrev c_A_score : ByteArray := prog_1_method_16_code
abbrev y_A_score : MethodName := ⟨"ArcTape", "score", "(I)J"⟩
abbrev c_A_hub : ByteArray := prog_1_method_17_code
abbrev y_A_hub : MethodName := ⟨"ArcTape", "hub", "(I)J"⟩
abbrev c_A_top : ByteArray := prog_1_method_18_code
abbrev y_A_top : MethodName := ⟨"ArcTape", "top", "(I)I"⟩
abbrev c_A_change : ByteArray := prog_1_method_19_code
abbrev y_A_change : MethodName := ⟨"ArcTape", "change", "()J"⟩
abbrev c_A_isNode : ByteArray := prog_1_method_20_code
abbrev y_A_isNode : MethodName := ⟨"ArcTape", "isNode", "(I)Z"⟩
abbrev c_A_isPlace : ByteArray := prog_1_method_21_code
abbrev y_A_isPlace : MethodName := ⟨"ArcTape", "isPlace", "(I)Z"⟩
abbrev c_A_within : ByteArray := prog_1_method_22_code
abbrev y_A_within : MethodName := ⟨"ArcTape", "within", "(III)Z"⟩
abbrev c_A_holds : ByteArray := prog_1_method_23_code
abbrev y_A_holds : MethodName := ⟨"ArcTape", "holds", "(II)Z"⟩
abbrev c_K_init : ByteArray := prog_3_method_1_code
abbrev y_K_init : MethodName := ⟨"ArcTape$Packer", "<init>", "([ILArcTape$Layout;LArcTape$Tape;)V"⟩
abbrev c_K_writeAll : ByteArray := prog_3_method_2_code
abbrev y_K_writeAll : MethodName := ⟨"ArcTape$Packer", "writeAll", "()V"⟩
abbrev c_K_bestReference : ByteArray := prog_3_method_3_code
abbrev y_K_bestReference : MethodName := ⟨"ArcTape$Packer", "bestReference", "(I)I"⟩
abbrev c_K_mayBeReferredTo : ByteArray := prog_3_method_4_code
abbrev y_K_mayBeReferredTo : MethodName := ⟨"ArcTape$Packer", "mayBeReferredTo", "(I)Z"⟩
abbrev c_K_writeRecord : ByteArray := prog_3_method_5_code
abbrev y_K_writeRecord : MethodName := ⟨"ArcTape$Packer", "writeRecord", "(II)V"⟩
abbrev c_K_writeRuns : ByteArray := prog_3_method_6_code
abbrev y_K_writeRuns : MethodName := ⟨"ArcTape$Packer", "writeRuns", "(II)V"⟩
abbrev c_K_writeIntervals : ByteArray := prog_3_method_7_code
abbrev y_K_writeIntervals : MethodName := ⟨"ArcTape$Packer", "writeIntervals", "(II)I"⟩
abbrev c_K_rowLength : ByteArray := prog_3_method_8_code
abbrev y_K_rowLength : MethodName := ⟨"ArcTape$Packer", "rowLength", "(II)I"⟩
abbrev c_K_writeSingles : ByteArray := prog_3_method_9_code
abbrev y_K_writeSingles : MethodName := ⟨"ArcTape$Packer", "writeSingles", "(II)V"⟩
abbrev c_O_init : ByteArray := prog_6_method_1_code
abbrev y_O_init : MethodName := ⟨"ArcTape$Scores", "<init>", "([I)V"⟩
abbrev c_O_begin : ByteArray := prog_6_method_2_code
abbrev y_O_begin : MethodName := ⟨"ArcTape$Scores", "begin", "(II)V"⟩
abbrev c_O_advance : ByteArray := prog_6_method_3_code
abbrev y_O_advance : MethodName := ⟨"ArcTape$Scores", "advance", "(I)I"⟩
abbrev c_O_weightOfOthers : ByteArray := prog_6_method_4_code
abbrev y_O_weightOfOthers : MethodName := ⟨"ArcTape$Scores", "weightOfOthers", "(I)I"⟩
abbrev c_O_placeOf : ByteArray := prog_6_method_5_code
abbrev y_O_placeOf : MethodName := ⟨"ArcTape$Scores", "placeOf", "(I)I"⟩
abbrev c_O_stepOnce : ByteArray := prog_6_method_6_code
abbrev y_O_stepOnce : MethodName := ⟨"ArcTape$Scores", "stepOnce", "()V"⟩
abbrev c_O_stepByRank : ByteArray := prog_6_method_7_code
abbrev y_O_stepByRank : MethodName := ⟨"ArcTape$Scores", "stepByRank", "()V"⟩
abbrev c_O_stepByGreatest : ByteArray := prog_6_method_8_code
abbrev y_O_stepByGreatest : MethodName := ⟨"ArcTape$Scores", "stepByGreatest", "()V"⟩
abbrev c_O_bringToGreatest : ByteArray := prog_6_method_9_code
abbrev y_O_bringToGreatest : MethodName := ⟨"ArcTape$Scores", "bringToGreatest", "([J)V"⟩
abbrev c_O_stepByShares : ByteArray := prog_6_method_10_code
abbrev y_O_stepByShares : MethodName := ⟨"ArcTape$Scores", "stepByShares", "()V"⟩
abbrev c_O_linksFrom : ByteArray := prog_6_method_11_code
abbrev y_O_linksFrom : MethodName := ⟨"ArcTape$Scores", "linksFrom", "(I)I"⟩
abbrev c_O_linksTo : ByteArray := prog_6_method_12_code
abbrev y_O_linksTo : MethodName := ⟨"ArcTape$Scores", "linksTo", "(I)I"⟩
abbrev c_O_quotient : ByteArray := prog_6_method_13_code
abbrev y_O_quotient : MethodName := ⟨"ArcTape$Scores", "quotient", "(JJ)J"⟩
abbrev c_S_init : ByteArray := prog_4_method_1_code
abbrev y_S_init : MethodName := ⟨"ArcTape$Parts", "<init>", "([I)V"⟩
abbrev c_S_numberAll : ByteArray := prog_4_method_2_code
abbrev y_S_numberAll : MethodName := ⟨"ArcTape$Parts", "numberAll", "()I"⟩
abbrev c_S_findReached : ByteArray := prog_4_method_3_code
abbrev y_S_findReached : MethodName := ⟨"ArcTape$Parts", "findReached", "()V"⟩
abbrev c_S_nextReady : ByteArray := prog_4_method_4_code
abbrev y_S_nextReady : MethodName := ⟨"ArcTape$Parts", "nextReady", "(I)I"⟩
abbrev c_S_partOf : ByteArray := prog_4_method_5_code
abbrev y_S_partOf : MethodName := ⟨"ArcTape$Parts", "partOf", "(I)I"⟩
abbrev c_Y_init : ByteArray := prog_2_method_1_code
abbrev y_Y_init : MethodName := ⟨"ArcTape$Layout", "<init>", "(I)V"⟩
abbrev c_M_init : ByteArray := prog_9_method_1_code
abbrev y_M_init : MethodName := ⟨"ArcTapeModel", "<init>", "(I)V"⟩
abbrev c_M_node : ByteArray := prog_9_method_2_code
abbrev y_M_node : MethodName := ⟨"ArcTapeModel", "node", "(I)Z"⟩
abbrev c_M_ones : ByteArray := prog_9_method_3_code
abbrev y_M_ones : MethodName := ⟨"ArcTapeModel", "ones", "(I)I"⟩
abbrev c_M_add : ByteArray := prog_9_method_4_code
abbrev y_M_add : MethodName := ⟨"ArcTapeModel", "add", "(II)Z"⟩
abbrev c_M_drop : ByteArray := prog_9_method_5_code
abbrev y_M_drop : MethodName := ⟨"ArcTapeModel", "drop", "(II)Z"⟩
abbrev c_M_put : ByteArray := prog_9_method_6_code
abbrev y_M_put : MethodName := ⟨"ArcTapeModel", "put", "(I)V"⟩
abbrev c_M_putUnary : ByteArray := prog_9_method_7_code
abbrev y_M_putUnary : MethodName := ⟨"ArcTapeModel", "putUnary", "(I)V"⟩
abbrev c_M_putNumber : ByteArray := prog_9_method_8_code
abbrev y_M_putNumber : MethodName := ⟨"ArcTapeModel", "putNumber", "(II)V"⟩
abbrev c_M_putGamma : ByteArray := prog_9_method_9_code
abbrev y_M_putGamma : MethodName := ⟨"ArcTapeModel", "putGamma", "(I)V"⟩
abbrev c_M_putZeta : ByteArray := prog_9_method_10_code
abbrev y_M_putZeta : MethodName := ⟨"ArcTapeModel", "putZeta", "(I)V"⟩
abbrev c_M_natural : ByteArray := prog_9_method_11_code
abbrev y_M_natural : MethodName := ⟨"ArcTapeModel", "natural", "(I)I"⟩
abbrev c_M_whole : ByteArray := prog_9_method_12_code
abbrev y_M_whole : MethodName := ⟨"ArcTapeModel", "whole", "(I)I"⟩
abbrev c_M_putRuns : ByteArray := prog_9_method_13_code
abbrev y_M_putRuns : MethodName := ⟨"ArcTapeModel", "putRuns", "(II)V"⟩
abbrev c_M_rowAt : ByteArray := prog_9_method_14_code
abbrev y_M_rowAt : MethodName := ⟨"ArcTapeModel", "rowAt", "(II)I"⟩
abbrev c_M_putRest : ByteArray := prog_9_method_15_code
abbrev y_M_putRest : MethodName := ⟨"ArcTapeModel", "putRest", "(II)V"⟩
abbrev c_M_putRecord : ByteArray := prog_9_method_16_code
abbrev y_M_putRecord : MethodName := ⟨"ArcTapeModel", "putRecord", "(II)V"⟩
abbrev c_M_pack : ByteArray := prog_9_method_17_code
abbrev y_M_pack : MethodName := ⟨"ArcTapeModel", "pack", "(IIII)I"⟩
abbrev c_M_offset : ByteArray := prog_9_method_18_code
abbrev y_M_offset : MethodName := ⟨"ArcTapeModel", "offset", "(I)I"⟩
abbrev c_M_bit : ByteArray := prog_9_method_19_code
abbrev y_M_bit : MethodName := ⟨"ArcTapeModel", "bit", "(I)I"⟩
abbrev c_M_flip : ByteArray := prog_9_method_20_code
abbrev y_M_flip : MethodName := ⟨"ArcTapeModel", "flip", "(I)Z"⟩
abbrev c_M_next : ByteArray := prog_9_method_21_code
abbrev y_M_next : MethodName := ⟨"ArcTapeModel", "next", "()I"⟩
abbrev c_M_nextUnary : ByteArray := prog_9_method_22_code
abbrev y_M_nextUnary : MethodName := ⟨"ArcTapeModel", "nextUnary", "()I"⟩
abbrev c_M_nextNumber : ByteArray := prog_9_method_23_code
abbrev y_M_nextNumber : MethodName := ⟨"ArcTapeModel", "nextNumber", "(I)I"⟩
abbrev c_M_nextGamma : ByteArray := prog_9_method_24_code
abbrev y_M_nextGamma : MethodName := ⟨"ArcTapeModel", "nextGamma", "()I"⟩
abbrev c_M_nextZeta : ByteArray := prog_9_method_25_code
abbrev y_M_nextZeta : MethodName := ⟨"ArcTapeModel", "nextZeta", "()I"⟩
abbrev c_M_take : ByteArray := prog_9_method_26_code
abbrev y_M_take : MethodName := ⟨"ArcTapeModel", "take", "(I)V"⟩
abbrev c_M_readRuns : ByteArray := prog_9_method_27_code
abbrev y_M_readRuns : MethodName := ⟨"ArcTapeModel", "readRuns", "(II)V"⟩
abbrev c_M_copy : ByteArray := prog_9_method_28_code
abbrev y_M_copy : MethodName := ⟨"ArcTapeModel", "copy", "(III)V"⟩
abbrev c_M_readIntervals : ByteArray := prog_9_method_29_code
abbrev y_M_readIntervals : MethodName := ⟨"ArcTapeModel", "readIntervals", "(II)I"⟩
abbrev c_M_readParts : ByteArray := prog_9_method_30_code
abbrev y_M_readParts : MethodName := ⟨"ArcTapeModel", "readParts", "(II)V"⟩
abbrev c_M_read : ByteArray := prog_9_method_31_code
abbrev y_M_read : MethodName := ⟨"ArcTapeModel", "read", "()V"⟩
abbrev c_M_degree : ByteArray := prog_9_method_32_code
abbrev y_M_degree : MethodName := ⟨"ArcTapeModel", "degree", "(I)I"⟩
abbrev c_M_successor : ByteArray := prog_9_method_33_code
abbrev y_M_successor : MethodName := ⟨"ArcTapeModel", "successor", "(II)I"⟩
abbrev c_M_reference : ByteArray := prog_9_method_34_code
abbrev y_M_reference : MethodName := ⟨"ArcTapeModel", "reference", "(I)I"⟩
abbrev c_M_count : ByteArray := prog_9_method_35_code
abbrev y_M_count : MethodName := ⟨"ArcTapeModel", "count", "()V"⟩
abbrev c_M_together : ByteArray := prog_9_method_36_code
abbrev y_M_together : MethodName := ⟨"ArcTapeModel", "together", "(I)I"⟩
abbrev c_M_firstReady : ByteArray := prog_9_method_37_code
abbrev y_M_firstReady : MethodName := ⟨"ArcTapeModel", "firstReady", "(I)I"⟩
abbrev c_M_components : ByteArray := prog_9_method_38_code
abbrev y_M_components : MethodName := ⟨"ArcTapeModel", "components", "()I"⟩
abbrev c_M_component : ByteArray := prog_9_method_39_code
abbrev y_M_component : MethodName := ⟨"ArcTapeModel", "component", "(I)I"⟩
abbrev c_M_prefer : ByteArray := prog_9_method_40_code
abbrev y_M_prefer : MethodName := ⟨"ArcTapeModel", "prefer", "(II)Z"⟩
abbrev c_M_total : ByteArray := prog_9_method_41_code
abbrev y_M_total : MethodName := ⟨"ArcTapeModel", "total", "()I"⟩
abbrev c_M_start : ByteArray := prog_9_method_42_code
abbrev y_M_start : MethodName := ⟨"ArcTapeModel", "start", "(II)Z"⟩
abbrev c_M_links : ByteArray := prog_9_method_43_code
abbrev y_M_links : MethodName := ⟨"ArcTapeModel", "links", "(II)Z"⟩
abbrev c_M_into : ByteArray := prog_9_method_44_code
abbrev y_M_into : MethodName := ⟨"ArcTapeModel", "into", "(I)I"⟩
abbrev c_M_stepRank : ByteArray := prog_9_method_45_code
abbrev y_M_stepRank : MethodName := ⟨"ArcTapeModel", "stepRank", "()V"⟩
abbrev c_M_bring : ByteArray := prog_9_method_46_code
abbrev y_M_bring : MethodName := ⟨"ArcTapeModel", "bring", "(Z)V"⟩
abbrev c_M_stepHubs : ByteArray := prog_9_method_47_code
abbrev y_M_stepHubs : MethodName := ⟨"ArcTapeModel", "stepHubs", "()V"⟩
abbrev c_M_stepShares : ByteArray := prog_9_method_48_code
abbrev y_M_stepShares : MethodName := ⟨"ArcTapeModel", "stepShares", "()V"⟩
abbrev c_M_step : ByteArray := prog_9_method_49_code
abbrev y_M_step : MethodName := ⟨"ArcTapeModel", "step", "(I)I"⟩
abbrev c_M_score : ByteArray := prog_9_method_50_code
abbrev y_M_score : MethodName := ⟨"ArcTapeModel", "score", "(I)J"⟩
abbrev c_M_hub : ByteArray := prog_9_method_51_code
abbrev y_M_hub : MethodName := ⟨"ArcTapeModel", "hub", "(I)J"⟩
abbrev c_M_top : ByteArray := prog_9_method_52_code
abbrev y_M_top : MethodName := ⟨"ArcTapeModel", "top", "(I)I"⟩
abbrev c_M_change : ByteArray := prog_9_method_53_code
abbrev y_M_change : MethodName := ⟨"ArcTapeModel", "change", "()J"⟩
abbrev c_D_init : ByteArray := prog_5_method_1_code
abbrev y_D_init : MethodName := ⟨"ArcTape$Reader", "<init>", "(ILArcTape$Layout;LArcTape$Tape;)V"⟩
abbrev c_D_readAll : ByteArray := prog_5_method_2_code
abbrev y_D_readAll : MethodName := ⟨"ArcTape$Reader", "readAll", "()V"⟩
abbrev c_D_readRecord : ByteArray := prog_5_method_3_code
abbrev y_D_readRecord : MethodName := ⟨"ArcTape$Reader", "readRecord", "()V"⟩
abbrev c_D_goesOn : ByteArray := prog_5_method_4_code
abbrev y_D_goesOn : MethodName := ⟨"ArcTape$Reader", "goesOn", "()Z"⟩
abbrev c_D_failIf : ByteArray := prog_5_method_5_code
abbrev y_D_failIf : MethodName := ⟨"ArcTape$Reader", "failIf", "(ZI)V"⟩
abbrev c_D_readReference : ByteArray := prog_5_method_6_code
abbrev y_D_readReference : MethodName := ⟨"ArcTape$Reader", "readReference", "()V"⟩
abbrev c_D_readRuns : ByteArray := prog_5_method_7_code
abbrev y_D_readRuns : MethodName := ⟨"ArcTape$Reader", "readRuns", "(I)V"⟩
abbrev c_D_lowest : ByteArray := prog_5_method_8_code
abbrev y_D_lowest : MethodName := ⟨"ArcTape$Reader", "lowest", "(II)I"⟩
abbrev c_D_readIntervals : ByteArray := prog_5_method_9_code
abbrev y_D_readIntervals : MethodName := ⟨"ArcTape$Reader", "readIntervals", "()V"⟩
abbrev c_D_readSingles : ByteArray := prog_5_method_10_code
abbrev y_D_readSingles : MethodName := ⟨"ArcTape$Reader", "readSingles", "()V"⟩
abbrev c_D_take : ByteArray := prog_5_method_11_code
abbrev y_D_take : MethodName := ⟨"ArcTape$Reader", "take", "(I)V"⟩
abbrev c_D_nextBit : ByteArray := prog_5_method_12_code
abbrev y_D_nextBit : MethodName := ⟨"ArcTape$Reader", "nextBit", "()I"⟩
abbrev c_D_nextUnary : ByteArray := prog_5_method_13_code
abbrev y_D_nextUnary : MethodName := ⟨"ArcTape$Reader", "nextUnary", "()I"⟩
abbrev c_D_nextNumber : ByteArray := prog_5_method_14_code
abbrev y_D_nextNumber : MethodName := ⟨"ArcTape$Reader", "nextNumber", "(II)I"⟩
abbrev c_D_nextGamma : ByteArray := prog_5_method_15_code
abbrev y_D_nextGamma : MethodName := ⟨"ArcTape$Reader", "nextGamma", "()I"⟩
abbrev c_D_nextZeta : ByteArray := prog_5_method_16_code
abbrev y_D_nextZeta : MethodName := ⟨"ArcTape$Reader", "nextZeta", "()I"⟩
abbrev c_J_bitCount : ByteArray := prog_10_method_49_code
abbrev y_J_bitCount : MethodName := ⟨"java/lang/Integer", "bitCount", "(I)I"⟩
def nwM : List (String × Nat × MethodName × String) := [("ArcTape", 28, y_T_init, "ArcTape"), ("ArcTape$Packer", 94, y_A_holds, "ArcTape"), ("ArcTape$Reader", 119, y_A_within, "ArcTape"), ("ArcTape$Parts", 29, y_A_holds, "ArcTape"), ("ArcTape$Scores", 75, y_A_holds, "ArcTape")]
set_option maxRecDepth 20000 in
theorem nwM_in : ∀ q ∈ nwM, Cond.methodLinkNest q.1 q.2.1 q.2.2.1 q.2.2.2 ∈ lw_tbl := List.forall_mem_cons.mpr ⟨List.mem_append_right _ (List.mem_of_getElem? (i := 28) rfl), List.forall_mem_cons.mpr ⟨List.mem_append_right _ (List.mem_of_getElem? (i := 258) rfl), List.forall_mem_cons.mpr ⟨List.mem_append_right _ (List.mem_of_getElem? (i := 335) rfl), List.forall_mem_cons.mpr ⟨List.mem_append_right _ (List.mem_of_getElem? (i := 439) rfl), List.forall_mem_cons.mpr ⟨List.mem_append_right _ (List.mem_of_getElem? (i := 484) rfl), fun _ h => absurd h List.not_mem_nil⟩⟩⟩⟩⟩
end
section
/- worlds by handles: handle k is the cell at base + k. gr: the world lies at the heap's end and may grow; else its cells are those below base + lim -/
abbrev aw_E : Type := (Nat × vp_A) ⊕ (Nat × List Value)
abbrev aw_H : Type := List aw_E
def aw_v (b : Nat) (v : Value) : Value := match v with
  | .ref k => .ref (b + k)
  | w => w
def aw_a (b : Nat) (a : vp_A) : vp_A := match a with
  | (n, .inr (.inr (.inr (.inr f)))) => (n, .inr (.inr (.inr (.inr (fun j => (f j).map (fun k => b + k))))))
  | x => x
def aw_e (b : Nat) (dA : Nat → ClassId) (e : aw_E) : va_E := match e with
  | .inl (t, a) => .inl (dA t, aw_a b a)
  | .inr (ci, fs) => .inr (ci, fs.map (aw_v b))
def aw_A (b lim : Nat) (gr : Bool) : Nat → Prop := fun q => b ≤ q ∧ (gr = true ∨ q < b + lim)
def aw_md (md : Nat) (gr : Bool) : Prop := (md = 1 → gr = true) ∧ (md = 2 → gr = false)
theorem aw_md_use {md md' : Nat} {gr : Bool} (h : md' = 0 ∨ md' = md) (g : aw_md md gr) : aw_md md' gr := by
  rcases h with q | q
  · exact ⟨fun z => by omega, fun z => by omega⟩
  · rw [q]; exact g
def aw_P (D : va_G) (dA : Nat → ClassId) (b lim : Nat) (gr : Bool) (h : aw_H) (H : Heap) : Prop := (gr = true → H.size = b + h.length) ∧ (gr = false → h.length ≤ lim) ∧ ∀ (k : Nat) (e : aw_E), h[k]? = some e → va_at D vwCl (b + k, aw_e b dA e) H
def aw_K (D : va_G) (dA : Nat → ClassId) (U : State) : Prop := (∀ (c : Nat) (q : vw_C), vwCl[c]? = some q → u_Kn U q.1 q.2.1 q.2.2 (D.1 c) (D.2 c)) ∧ ∀ (t : Nat) (ty : FieldType), tyTab[t]? = some ty → ArrOfT U (dA t) ty ∧ va_RA U (dA t) ty
theorem aw_K.moved {D : va_G} {dA : Nat → ClassId} {u U : State} (hvm : u.vm.Alike U.vm) (h : aw_K D dA u) : aw_K D dA U := ⟨fun c q hq => u_Kn_moved hvm (h.1 c q hq), fun t ty ht => ⟨arrOfT_moved hvm (h.2 t ty ht).1, (h.2 t ty ht).2.moved hvm⟩⟩
theorem aw_K.one {D : va_G} {dA : Nat → ClassId} {U : State} (h : aw_K D dA U) {t : Nat} {ty : FieldType} (ht : tyTab[t]? = some ty) : va_K D vwCl [(dA t, ty)] U := by
  refine ⟨h.1, fun k q hk => ?_⟩
  have hz : k < 1 := (List.getElem?_eq_some_iff.mp hk).1
  rw [show k = 0 by omega] at hk
  cases hk
  exact h.2 t ty ht
theorem aw_K.nil {D : va_G} {dA : Nat → ClassId} {U : State} (h : aw_K D dA U) : va_K D vwCl [] U := ⟨h.1, fun k q hk => by simp at hk⟩
theorem aw_P.one {D : va_G} {dA : Nat → ClassId} {b lim : Nat} {gr : Bool} {h : aw_H} {H : Heap} (hP : aw_P D dA b lim gr h H) {k : Nat} {e : aw_E} (hk : h[k]? = some e) : va_P D vwCl [(b + k, aw_e b dA e)] H := by
  intro j q hj
  have hz : j < 1 := (List.getElem?_eq_some_iff.mp hj).1
  rw [show j = 0 by omega] at hj
  cases hj
  exact hP.2.2 k e hk
theorem aw_P.inA {D : va_G} {dA : Nat → ClassId} {b lim : Nat} {gr : Bool} {h : aw_H} {H : Heap} (hP : aw_P D dA b lim gr h H) {k : Nat} (hk : k < h.length) : aw_A b lim gr (b + k) := by
  refine ⟨Nat.le_add_right b k, ?_⟩
  cases gr with
  | true => exact Or.inl rfl
  | false => exact Or.inr (by have := hP.2.1 rfl; omega)
theorem aw_P.put {D : va_G} {dA : Nat → ClassId} {b lim : Nat} {gr : Bool} {h : aw_H} {H H1 : Heap} (hP : aw_P D dA b lim gr h H) {k : Nat} {e : aw_E} (hk : k < h.length) (z : H1.size = H.size) (he : va_at D vwCl (b + k, aw_e b dA e) H1) (oq : ∀ q : Nat, q ≠ b + k → H1[q]? = H[q]?) : aw_P D dA b lim gr (h.set k e) H1 := by
  refine ⟨fun g => by rw [z, List.length_set]; exact hP.1 g, fun g => by rw [List.length_set]; exact hP.2.1 g, fun j x hj => ?_⟩
  by_cases hjk : j = k
  · subst hjk
    rw [List.getElem?_set_self hk] at hj
    cases hj
    exact he
  · rw [List.getElem?_set_ne (Ne.symm hjk)] at hj
    exact (hP.2.2 j x hj).kept (oq _ (by omega))
theorem aw_P.push {D : va_G} {dA : Nat → ClassId} {b lim : Nat} {gr : Bool} {h : aw_H} {H H1 : Heap} (hg : gr = true) (hP : aw_P D dA b lim gr h H) {e : aw_E} (z : H1.size = H.size + 1) (he : va_at D vwCl (b + h.length, aw_e b dA e) H1) (oq : ∀ q : Nat, q < H.size → H1[q]? = H[q]?) : aw_P D dA b lim gr (h ++ [e]) H1 := by
  refine ⟨fun g => by rw [z, hP.1 g, List.length_append]; rfl, (fun g => by rw [hg] at g; cases g), fun j x hj => ?_⟩
  by_cases hl : j < h.length
  · rw [List.getElem?_append_left hl] at hj
    exact (hP.2.2 j x hj).kept (oq _ (by have := hP.1 hg; show b + j < _; omega))
  · rw [List.getElem?_append_right (by omega)] at hj
    have hz : j - h.length < 1 := (List.getElem?_eq_some_iff.mp hj).1
    have hjl : j = h.length := by omega
    subst hjl
    rw [Nat.sub_self] at hj
    cases hj
    exact he
/- links to members of a nest mate -/
def aw_N (U : State) : Prop := ∀ q ∈ nwM, va_Nw (.methodLinkNest q.1 q.2.1 q.2.2.1 q.2.2.2) U
theorem aw_N.warm {s U : State} (hW : s.WarmedH U.vm) (h : aw_N s) : aw_N U := fun q hq => va_Nw.warmM hW (h q hq)
theorem aw_N.same {u U : State} (hv : u.vm = U.vm) (h : aw_N u) : aw_N U := fun q hq => va_Nw.same rfl hv (h q hq)
/- known values of the locals -/
def aw_L (b : Nat) (L : List (Option Value)) (nL : Nat) (ls : Array Slot) : Prop := ∃ lv : List (Nat × Value), lv_has ls nL lv ∧ ∀ (i : Nat) (v : Value), L[i]? = some (some v) → (i, aw_v b v) ∈ lv
theorem aw_L.at {b nL i : Nat} {L : List (Option Value)} {ls : Array Slot} {v : Value} (h : aw_L b L nL ls) (hi : L[i]? = some (some v)) : ls[i]? = some (.val (aw_v b v)) := by
  obtain ⟨lv, h1, h2⟩ := h
  exact h1.2.2 _ (h2 i v hi)
def aw_mask (ms : List Bool) (L : List (Option Value)) : List (Option Value) := List.zipWith (fun (m : Bool) (x : Option Value) => match m with | true => x | false => none) ms L
theorem aw_mask_at {ms : List Bool} {L : List (Option Value)} {i : Nat} {v : Value} (h : (aw_mask ms L)[i]? = some (some v)) : L[i]? = some (some v) := by
  unfold aw_mask at h
  rw [List.getElem?_zipWith] at h
  cases hm : ms[i]? with
  | none => rw [hm] at h; cases h
  | some m =>
    cases hl : L[i]? with
    | none => rw [hm, hl] at h; cases h
    | some x =>
      rw [hm, hl] at h
      cases m with
      | true => exact h
      | false => cases h
theorem aw_L.mask {b nL : Nat} {L : List (Option Value)} {ls : Array Slot} (ms : List Bool) (h : aw_L b L nL ls) : aw_L b (aw_mask ms L) nL ls := by
  obtain ⟨lv, h1, h2⟩ := h
  exact ⟨lv, h1, fun i v hi => h2 i v (aw_mask_at hi)⟩
def aw_clr (L : List (Option Value)) (i : Nat) : List (Option Value) := match i with
  | 0 => L
  | j + 1 => match L[j]? with
    | some (some (.long _)) => L.set j none
    | some (some (.double _)) => L.set j none
    | _ => L
def aw_s1 (L : List (Option Value)) (i : Nat) (v : Value) : List (Option Value) := (aw_clr L i).set i (some v)
def aw_s2 (L : List (Option Value)) (i : Nat) (v : Value) : List (Option Value) := ((aw_clr L i).set (i + 1) none).set i (some v)

def aw_C (own nm : String) (cc : ByteArray) (nL : Nat) (ret : Option FieldType) (d md mc ms : Nat) (p : Program) (R : Room) (s : State) (m : MethodId) (args : Array Value) (meth : Method) (c : Code) (D : va_G) (dA : Nat → ClassId) (b : Nat) (gr : Bool) : Prop :=
  p.tables.exec = Jvm.exec ∧ c.code = cc ∧ c.maxLocals = nL ∧ s.vm.findClass own = some m.cls ∧ (∀ w ∈ wsAll, w.before args s = true) ∧ meth.sig.returnType = ret ∧ meth.locks = false ∧ meth.name = nm ∧ (d ≤ R.frames ∧ 40 * d ≤ R.locals ∧ R.cells = mc ∧ R.slots = ms) ∧ aw_K D dA s ∧ aw_N s ∧ aw_md md gr
abbrev aw_Qc (D : va_G) (dA : Nat → ClassId) (b lim : Nat) (gr : Bool) (Q : Option Value → aw_H → Prop) : Array Value → State → Outcome → State → Prop := fun _ st oc t => (∃ (v : Option Value) (h : aw_H), oc = .returned (v.map (aw_v b)) ∧ Q v h ∧ aw_P D dA b lim gr h t.heap) ∧ va_F (aw_A b lim gr) st t
def AW (own nm : String) (cc : ByteArray) (nL : Nat) (ret : Option FieldType) (d md mc ms : Nat) (Q : Option Value → aw_H → Prop) (pc : Nat) (L : List (Option Value)) (st : List Value) (h : aw_H) (kc kn : Nat) : Prop :=
  ∀ (p : Program) (l : Launch) (e : Env) (R : Room) (s : State) (m : MethodId) (args : Array Value) (below : List Frame) (meth : Method) (c : Code) (D : va_G) (dA : Nat → ClassId) (b lim : Nat) (gr : Bool) (H : Heap) (locs : List Loc) (ls : Array Slot),
    aw_C own nm cc nL ret d md mc ms p R s m args meth c D dA b gr → va_S (aw_A b lim gr) s.heap H locs → aw_P D dA b lim gr h H → aw_L b L nL ls →
    W p l e R s m args below meth c H locs kc kn (MQ below (aw_Qc D dA b lim gr Q) args s mc ms (aw_A b lim gr)) (F0 m pc ls (st.map (aw_v b)))
def AM (y : MethodName) (cc : ByteArray) (nL : Nat) (ret : Option FieldType) (d md mc ms : Nat) (av : List Value) (h : aw_H) (Q : Option Value → aw_H → Prop) : Prop :=
  ∀ (l : Launch) (D : va_G) (dA : Nat → ClassId) (b lim : Nat) (gr : Bool), aw_md md gr → Met l y (Cond.code y cc nL ret :: wsAll) ({ frames := d, cells := mc, slots := ms, locals := 40 * d }) (va_Pc (av.map (aw_v b)) (fun U => aw_P D dA b lim gr h U.heap ∧ aw_K D dA U ∧ aw_N U)) (aw_Qc D dA b lim gr Q) mc ms (aw_A b lim gr)
section AWR
variable {own nm : String} {cc : ByteArray} {nL : Nat} {ret : Option FieldType} {d md mc ms : Nat} {Q : Option Value → aw_H → Prop} {pc pc' : Nat} {L L' : List (Option Value)} {st : List Value} {h h' : aw_H} {kc kn : Nat}

theorem aw_weak (ms' : List Bool) (e : aw_mask ms' L = L') (k : AW own nm cc nL ret d md mc ms Q pc L' st h kc kn) : AW own nm cc nL ret d md mc ms Q pc L st h kc kn := by
  subst e
  intro p l e R s m args below meth c D dA b lim gr H locs ls C S P hL
  exact k p l e R s m args below meth c D dA b lim gr H locs ls C S P (hL.mask ms')
theorem aw_iadd {x y : Int32} (hd : decode cc pc = .ok (.iadd, 1)) (hp : pc + 1 = pc')  (k : AW own nm cc nL ret d md mc ms Q pc' L (.int (x + y) :: st) h kc kn) : AW own nm cc nL ret d md mc ms Q pc L (.int y :: .int x :: st) h kc kn := by
  subst hp
  intro p l e R s m args below meth c D dA b lim gr H locs ls C S P hL
  exact lv_iadd C.1 C.2.1 hd  (k p l e R s m args below meth c D dA b lim gr H locs ls C S P hL)
theorem aw_isub {x y : Int32} (hd : decode cc pc = .ok (.isub, 1)) (hp : pc + 1 = pc')  (k : AW own nm cc nL ret d md mc ms Q pc' L (.int (x - y) :: st) h kc kn) : AW own nm cc nL ret d md mc ms Q pc L (.int y :: .int x :: st) h kc kn := by
  subst hp
  intro p l e R s m args below meth c D dA b lim gr H locs ls C S P hL
  exact lv_isub C.1 C.2.1 hd  (k p l e R s m args below meth c D dA b lim gr H locs ls C S P hL)
theorem aw_imul {x y : Int32} (hd : decode cc pc = .ok (.imul, 1)) (hp : pc + 1 = pc')  (k : AW own nm cc nL ret d md mc ms Q pc' L (.int (x * y) :: st) h kc kn) : AW own nm cc nL ret d md mc ms Q pc L (.int y :: .int x :: st) h kc kn := by
  subst hp
  intro p l e R s m args below meth c D dA b lim gr H locs ls C S P hL
  exact lv_imul C.1 C.2.1 hd  (k p l e R s m args below meth c D dA b lim gr H locs ls C S P hL)
theorem aw_iand {x y : Int32} (hd : decode cc pc = .ok (.iand, 1)) (hp : pc + 1 = pc')  (k : AW own nm cc nL ret d md mc ms Q pc' L (.int (x &&& y) :: st) h kc kn) : AW own nm cc nL ret d md mc ms Q pc L (.int y :: .int x :: st) h kc kn := by
  subst hp
  intro p l e R s m args below meth c D dA b lim gr H locs ls C S P hL
  exact lv_iand C.1 C.2.1 hd  (k p l e R s m args below meth c D dA b lim gr H locs ls C S P hL)
theorem aw_ior {x y : Int32} (hd : decode cc pc = .ok (.ior, 1)) (hp : pc + 1 = pc')  (k : AW own nm cc nL ret d md mc ms Q pc' L (.int (x ||| y) :: st) h kc kn) : AW own nm cc nL ret d md mc ms Q pc L (.int y :: .int x :: st) h kc kn := by
  subst hp
  intro p l e R s m args below meth c D dA b lim gr H locs ls C S P hL
  exact lv_ior C.1 C.2.1 hd  (k p l e R s m args below meth c D dA b lim gr H locs ls C S P hL)
theorem aw_ixor {x y : Int32} (hd : decode cc pc = .ok (.ixor, 1)) (hp : pc + 1 = pc')  (k : AW own nm cc nL ret d md mc ms Q pc' L (.int (x ^^^ y) :: st) h kc kn) : AW own nm cc nL ret d md mc ms Q pc L (.int y :: .int x :: st) h kc kn := by
  subst hp
  intro p l e R s m args below meth c D dA b lim gr H locs ls C S P hL
  exact lv_ixor C.1 C.2.1 hd  (k p l e R s m args below meth c D dA b lim gr H locs ls C S P hL)
theorem aw_ishl {x y : Int32} (hd : decode cc pc = .ok (.ishl, 1)) (hp : pc + 1 = pc')  (k : AW own nm cc nL ret d md mc ms Q pc' L (.int (x <<< (y &&& 31)) :: st) h kc kn) : AW own nm cc nL ret d md mc ms Q pc L (.int y :: .int x :: st) h kc kn := by
  subst hp
  intro p l e R s m args below meth c D dA b lim gr H locs ls C S P hL
  exact lv_ishl C.1 C.2.1 hd  (k p l e R s m args below meth c D dA b lim gr H locs ls C S P hL)
theorem aw_ishr {x y : Int32} (hd : decode cc pc = .ok (.ishr, 1)) (hp : pc + 1 = pc')  (k : AW own nm cc nL ret d md mc ms Q pc' L (.int (x >>> (y &&& 31)) :: st) h kc kn) : AW own nm cc nL ret d md mc ms Q pc L (.int y :: .int x :: st) h kc kn := by
  subst hp
  intro p l e R s m args below meth c D dA b lim gr H locs ls C S P hL
  exact lv_ishr C.1 C.2.1 hd  (k p l e R s m args below meth c D dA b lim gr H locs ls C S P hL)
theorem aw_iushr {x y : Int32} (hd : decode cc pc = .ok (.iushr, 1)) (hp : pc + 1 = pc')  (k : AW own nm cc nL ret d md mc ms Q pc' L (.int ((x.toUInt32 >>> (y.toUInt32 &&& Int32.toUInt32 31)).toInt32) :: st) h kc kn) : AW own nm cc nL ret d md mc ms Q pc L (.int y :: .int x :: st) h kc kn := by
  subst hp
  intro p l e R s m args below meth c D dA b lim gr H locs ls C S P hL
  exact lv_iushr C.1 C.2.1 hd rfl (k p l e R s m args below meth c D dA b lim gr H locs ls C S P hL)
theorem aw_idiv {x y : Int32} (hd : decode cc pc = .ok (.idiv, 1)) (hp : pc + 1 = pc') (hne : ¬ y = 0) (k : AW own nm cc nL ret d md mc ms Q pc' L (.int (x / y) :: st) h kc kn) : AW own nm cc nL ret d md mc ms Q pc L (.int y :: .int x :: st) h kc kn := by
  subst hp
  intro p l e R s m args below meth c D dA b lim gr H locs ls C S P hL
  exact lv_idiv C.1 C.2.1 hd hne (k p l e R s m args below meth c D dA b lim gr H locs ls C S P hL)
theorem aw_irem {x y : Int32} (hd : decode cc pc = .ok (.irem, 1)) (hp : pc + 1 = pc') (hne : ¬ y = 0) (k : AW own nm cc nL ret d md mc ms Q pc' L (.int (x - x / y * y) :: st) h kc kn) : AW own nm cc nL ret d md mc ms Q pc L (.int y :: .int x :: st) h kc kn := by
  subst hp
  intro p l e R s m args below meth c D dA b lim gr H locs ls C S P hL
  exact lv_irem C.1 C.2.1 hd hne (k p l e R s m args below meth c D dA b lim gr H locs ls C S P hL)
theorem aw_ladd {x y : Int64} (hd : decode cc pc = .ok (.ladd, 1)) (hp : pc + 1 = pc')  (k : AW own nm cc nL ret d md mc ms Q pc' L (.long (x + y) :: st) h kc kn) : AW own nm cc nL ret d md mc ms Q pc L (.long y :: .long x :: st) h kc kn := by
  subst hp
  intro p l e R s m args below meth c D dA b lim gr H locs ls C S P hL
  exact lv_ladd C.1 C.2.1 hd  (k p l e R s m args below meth c D dA b lim gr H locs ls C S P hL)
theorem aw_lsub {x y : Int64} (hd : decode cc pc = .ok (.lsub, 1)) (hp : pc + 1 = pc')  (k : AW own nm cc nL ret d md mc ms Q pc' L (.long (x - y) :: st) h kc kn) : AW own nm cc nL ret d md mc ms Q pc L (.long y :: .long x :: st) h kc kn := by
  subst hp
  intro p l e R s m args below meth c D dA b lim gr H locs ls C S P hL
  exact lv_lsub C.1 C.2.1 hd  (k p l e R s m args below meth c D dA b lim gr H locs ls C S P hL)
theorem aw_lmul {x y : Int64} (hd : decode cc pc = .ok (.lmul, 1)) (hp : pc + 1 = pc')  (k : AW own nm cc nL ret d md mc ms Q pc' L (.long (x * y) :: st) h kc kn) : AW own nm cc nL ret d md mc ms Q pc L (.long y :: .long x :: st) h kc kn := by
  subst hp
  intro p l e R s m args below meth c D dA b lim gr H locs ls C S P hL
  exact lv_lmul C.1 C.2.1 hd  (k p l e R s m args below meth c D dA b lim gr H locs ls C S P hL)
theorem aw_ldiv {x y : Int64} (hd : decode cc pc = .ok (.ldiv, 1)) (hp : pc + 1 = pc') (hne : ¬ y = 0) (k : AW own nm cc nL ret d md mc ms Q pc' L (.long (x / y) :: st) h kc kn) : AW own nm cc nL ret d md mc ms Q pc L (.long y :: .long x :: st) h kc kn := by
  subst hp
  intro p l e R s m args below meth c D dA b lim gr H locs ls C S P hL
  exact lv_ldiv C.1 C.2.1 hd hne (k p l e R s m args below meth c D dA b lim gr H locs ls C S P hL)
theorem aw_ineg {x : Int32} (hd : decode cc pc = .ok (.ineg, 1)) (hp : pc + 1 = pc')  (k : AW own nm cc nL ret d md mc ms Q pc' L (.int (-x) :: st) h kc kn) : AW own nm cc nL ret d md mc ms Q pc L (.int x :: st) h kc kn := by
  subst hp
  intro p l e R s m args below meth c D dA b lim gr H locs ls C S P hL
  exact lv_ineg C.1 C.2.1 hd  (k p l e R s m args below meth c D dA b lim gr H locs ls C S P hL)
theorem aw_i2l {x : Int32} (hd : decode cc pc = .ok (.i2l, 1)) (hp : pc + 1 = pc')  (k : AW own nm cc nL ret d md mc ms Q pc' L (.long x.toInt64 :: st) h kc kn) : AW own nm cc nL ret d md mc ms Q pc L (.int x :: st) h kc kn := by
  subst hp
  intro p l e R s m args below meth c D dA b lim gr H locs ls C S P hL
  exact lv_i2l C.1 C.2.1 hd rfl (k p l e R s m args below meth c D dA b lim gr H locs ls C S P hL)
theorem aw_i2b {x : Int32} (hd : decode cc pc = .ok (.i2b, 1)) (hp : pc + 1 = pc')  (k : AW own nm cc nL ret d md mc ms Q pc' L (.int x.toInt8.toInt32 :: st) h kc kn) : AW own nm cc nL ret d md mc ms Q pc L (.int x :: st) h kc kn := by
  subst hp
  intro p l e R s m args below meth c D dA b lim gr H locs ls C S P hL
  exact lv_i2b C.1 C.2.1 hd rfl (k p l e R s m args below meth c D dA b lim gr H locs ls C S P hL)
theorem aw_lcmp {x y : Int64} (hd : decode cc pc = .ok (.lcmp, 1)) (hp : pc + 1 = pc')  (k : AW own nm cc nL ret d md mc ms Q pc' L (.int (lg_cmp x y) :: st) h kc kn) : AW own nm cc nL ret d md mc ms Q pc L (.long y :: .long x :: st) h kc kn := by
  subst hp
  intro p l e R s m args below meth c D dA b lim gr H locs ls C S P hL
  exact W.lcmp C.1 C.2.1 hd  (k p l e R s m args below meth c D dA b lim gr H locs ls C S P hL)
theorem aw_iconst {n : Int} {v : Int32} (hd : decode cc pc = .ok (.iconst n, 1)) (hp : pc + 1 = pc') (hv : Int32.ofInt n = v) (k : AW own nm cc nL ret d md mc ms Q pc' L (.int v :: st) h kc kn) : AW own nm cc nL ret d md mc ms Q pc L (st) h kc kn := by
  subst hp
  intro p l e R s m args below meth c D dA b lim gr H locs ls C S P hL
  exact lv_iconst C.1 C.2.1 hd hv (k p l e R s m args below meth c D dA b lim gr H locs ls C S P hL)
theorem aw_lconst {n : Fin 2} {v : Int64} (hd : decode cc pc = .ok (.lconst n, 1)) (hp : pc + 1 = pc') (hv : Int64.ofNat (n : Nat) = v) (k : AW own nm cc nL ret d md mc ms Q pc' L (.long v :: st) h kc kn) : AW own nm cc nL ret d md mc ms Q pc L (st) h kc kn := by
  subst hp
  intro p l e R s m args below meth c D dA b lim gr H locs ls C S P hL
  exact lv_lconst C.1 C.2.1 hd hv (k p l e R s m args below meth c D dA b lim gr H locs ls C S P hL)
theorem aw_bipush {n : Int} {v : Int32} (hd : decode cc pc = .ok (.bipush n, 2)) (hp : pc + 2 = pc') (hv : (Int8.ofInt n).toInt32 = v) (k : AW own nm cc nL ret d md mc ms Q pc' L (.int v :: st) h kc kn) : AW own nm cc nL ret d md mc ms Q pc L (st) h kc kn := by
  subst hp
  intro p l e R s m args below meth c D dA b lim gr H locs ls C S P hL
  exact lv_bipush C.1 C.2.1 hd hv (k p l e R s m args below meth c D dA b lim gr H locs ls C S P hL)
theorem aw_sipush {n : Int} {v : Int32} (hd : decode cc pc = .ok (.sipush n, 3)) (hp : pc + 3 = pc') (hv : (Int16.ofInt n).toInt32 = v) (k : AW own nm cc nL ret d md mc ms Q pc' L (.int v :: st) h kc kn) : AW own nm cc nL ret d md mc ms Q pc L (st) h kc kn := by
  subst hp
  intro p l e R s m args below meth c D dA b lim gr H locs ls C S P hL
  exact lv_sipush C.1 C.2.1 hd hv (k p l e R s m args below meth c D dA b lim gr H locs ls C S P hL)
theorem aw_cat (b : Nat) (v : Value) : (aw_v b v).category = v.category := by cases v <;> rfl
theorem aw_dup {va : Value} (hd : decode cc pc = .ok (.dup, 1)) (hp : pc + 1 = pc') (hva : va.category = 1) (k : AW own nm cc nL ret d md mc ms Q pc' L (va :: va :: st) h kc kn) : AW own nm cc nL ret d md mc ms Q pc L (va :: st) h kc kn := by
  subst hp
  intro p l e R s m args below meth c D dA b lim gr H locs ls C S P hL
  exact lv_dup C.1 C.2.1 hd ((aw_cat b va).trans hva) (k p l e R s m args below meth c D dA b lim gr H locs ls C S P hL)
theorem aw_pop {va : Value} (hd : decode cc pc = .ok (.pop, 1)) (hp : pc + 1 = pc') (hva : va.category = 1) (k : AW own nm cc nL ret d md mc ms Q pc' L (st) h kc kn) : AW own nm cc nL ret d md mc ms Q pc L (va :: st) h kc kn := by
  subst hp
  intro p l e R s m args below meth c D dA b lim gr H locs ls C S P hL
  exact lv_pop C.1 C.2.1 hd ((aw_cat b va).trans hva) (k p l e R s m args below meth c D dA b lim gr H locs ls C S P hL)
theorem aw_dup2 {va vb : Value} (hd : decode cc pc = .ok (.dup2, 1)) (hp : pc + 1 = pc') (hva : va.category = 1) (hvb : vb.category = 1) (k : AW own nm cc nL ret d md mc ms Q pc' L (va :: vb :: va :: vb :: st) h kc kn) : AW own nm cc nL ret d md mc ms Q pc L (va :: vb :: st) h kc kn := by
  subst hp
  intro p l e R s m args below meth c D dA b lim gr H locs ls C S P hL
  exact lv_dup2_11 C.1 C.2.1 hd ((aw_cat b va).trans hva) ((aw_cat b vb).trans hvb) (k p l e R s m args below meth c D dA b lim gr H locs ls C S P hL)
theorem aw_if_eq {x : Int32} {off : Int} {tgt : Nat} (hd : decode cc pc = .ok (.ifCond .eq off, 3)) (ht : (pc : Int) + off = (tgt : Int)) (hp : pc + 3 = pc') (kt : x = 0 → AW own nm cc nL ret d md mc ms Q tgt L st h kc kn) (kf : ¬ x = 0 → AW own nm cc nL ret d md mc ms Q pc' L st h kc kn) : AW own nm cc nL ret d md mc ms Q pc L (.int x :: st) h kc kn := by
  subst hp
  intro p l e R s m args below meth c D dA b lim gr H locs ls C S P hL
  exact lv_if_eq C.1 C.2.1 hd ht (fun q => kt q p l e R s m args below meth c D dA b lim gr H locs ls C S P hL) (fun q => kf q p l e R s m args below meth c D dA b lim gr H locs ls C S P hL)
theorem aw_if_ne {x : Int32} {off : Int} {tgt : Nat} (hd : decode cc pc = .ok (.ifCond .ne off, 3)) (ht : (pc : Int) + off = (tgt : Int)) (hp : pc + 3 = pc') (kt : ¬ x = 0 → AW own nm cc nL ret d md mc ms Q tgt L st h kc kn) (kf : x = 0 → AW own nm cc nL ret d md mc ms Q pc' L st h kc kn) : AW own nm cc nL ret d md mc ms Q pc L (.int x :: st) h kc kn := by
  subst hp
  intro p l e R s m args below meth c D dA b lim gr H locs ls C S P hL
  exact lv_if_ne C.1 C.2.1 hd ht (fun q => kt q p l e R s m args below meth c D dA b lim gr H locs ls C S P hL) (fun q => kf q p l e R s m args below meth c D dA b lim gr H locs ls C S P hL)
theorem aw_if_lt {x : Int32} {off : Int} {tgt : Nat} (hd : decode cc pc = .ok (.ifCond .lt off, 3)) (ht : (pc : Int) + off = (tgt : Int)) (hp : pc + 3 = pc') (kt : x < 0 → AW own nm cc nL ret d md mc ms Q tgt L st h kc kn) (kf : ¬ x < 0 → AW own nm cc nL ret d md mc ms Q pc' L st h kc kn) : AW own nm cc nL ret d md mc ms Q pc L (.int x :: st) h kc kn := by
  subst hp
  intro p l e R s m args below meth c D dA b lim gr H locs ls C S P hL
  exact lv_if_lt C.1 C.2.1 hd ht (fun q => kt q p l e R s m args below meth c D dA b lim gr H locs ls C S P hL) (fun q => kf q p l e R s m args below meth c D dA b lim gr H locs ls C S P hL)
theorem aw_if_ge {x : Int32} {off : Int} {tgt : Nat} (hd : decode cc pc = .ok (.ifCond .ge off, 3)) (ht : (pc : Int) + off = (tgt : Int)) (hp : pc + 3 = pc') (kt : 0 ≤ x → AW own nm cc nL ret d md mc ms Q tgt L st h kc kn) (kf : ¬ 0 ≤ x → AW own nm cc nL ret d md mc ms Q pc' L st h kc kn) : AW own nm cc nL ret d md mc ms Q pc L (.int x :: st) h kc kn := by
  subst hp
  intro p l e R s m args below meth c D dA b lim gr H locs ls C S P hL
  exact lv_if_ge C.1 C.2.1 hd ht (fun q => kt q p l e R s m args below meth c D dA b lim gr H locs ls C S P hL) (fun q => kf q p l e R s m args below meth c D dA b lim gr H locs ls C S P hL)
theorem aw_if_gt {x : Int32} {off : Int} {tgt : Nat} (hd : decode cc pc = .ok (.ifCond .gt off, 3)) (ht : (pc : Int) + off = (tgt : Int)) (hp : pc + 3 = pc') (kt : 0 < x → AW own nm cc nL ret d md mc ms Q tgt L st h kc kn) (kf : ¬ 0 < x → AW own nm cc nL ret d md mc ms Q pc' L st h kc kn) : AW own nm cc nL ret d md mc ms Q pc L (.int x :: st) h kc kn := by
  subst hp
  intro p l e R s m args below meth c D dA b lim gr H locs ls C S P hL
  exact lv_if_gt C.1 C.2.1 hd ht (fun q => kt q p l e R s m args below meth c D dA b lim gr H locs ls C S P hL) (fun q => kf q p l e R s m args below meth c D dA b lim gr H locs ls C S P hL)
theorem aw_if_le {x : Int32} {off : Int} {tgt : Nat} (hd : decode cc pc = .ok (.ifCond .le off, 3)) (ht : (pc : Int) + off = (tgt : Int)) (hp : pc + 3 = pc') (kt : x ≤ 0 → AW own nm cc nL ret d md mc ms Q tgt L st h kc kn) (kf : ¬ x ≤ 0 → AW own nm cc nL ret d md mc ms Q pc' L st h kc kn) : AW own nm cc nL ret d md mc ms Q pc L (.int x :: st) h kc kn := by
  subst hp
  intro p l e R s m args below meth c D dA b lim gr H locs ls C S P hL
  exact lv_if_le C.1 C.2.1 hd ht (fun q => kt q p l e R s m args below meth c D dA b lim gr H locs ls C S P hL) (fun q => kf q p l e R s m args below meth c D dA b lim gr H locs ls C S P hL)
theorem aw_icmp_eq {x y : Int32} {off : Int} {tgt : Nat} (hd : decode cc pc = .ok (.if_icmp .eq off, 3)) (ht : (pc : Int) + off = (tgt : Int)) (hp : pc + 3 = pc') (kt : x = y → AW own nm cc nL ret d md mc ms Q tgt L st h kc kn) (kf : ¬ x = y → AW own nm cc nL ret d md mc ms Q pc' L st h kc kn) : AW own nm cc nL ret d md mc ms Q pc L (.int y :: .int x :: st) h kc kn := by
  subst hp
  intro p l e R s m args below meth c D dA b lim gr H locs ls C S P hL
  exact lv_icmp_eq C.1 C.2.1 hd ht (fun q => kt q p l e R s m args below meth c D dA b lim gr H locs ls C S P hL) (fun q => kf q p l e R s m args below meth c D dA b lim gr H locs ls C S P hL)
theorem aw_icmp_ne {x y : Int32} {off : Int} {tgt : Nat} (hd : decode cc pc = .ok (.if_icmp .ne off, 3)) (ht : (pc : Int) + off = (tgt : Int)) (hp : pc + 3 = pc') (kt : ¬ x = y → AW own nm cc nL ret d md mc ms Q tgt L st h kc kn) (kf : x = y → AW own nm cc nL ret d md mc ms Q pc' L st h kc kn) : AW own nm cc nL ret d md mc ms Q pc L (.int y :: .int x :: st) h kc kn := by
  subst hp
  intro p l e R s m args below meth c D dA b lim gr H locs ls C S P hL
  exact lv_icmp_ne C.1 C.2.1 hd ht (fun q => kt q p l e R s m args below meth c D dA b lim gr H locs ls C S P hL) (fun q => kf q p l e R s m args below meth c D dA b lim gr H locs ls C S P hL)
theorem aw_icmp_lt {x y : Int32} {off : Int} {tgt : Nat} (hd : decode cc pc = .ok (.if_icmp .lt off, 3)) (ht : (pc : Int) + off = (tgt : Int)) (hp : pc + 3 = pc') (kt : x < y → AW own nm cc nL ret d md mc ms Q tgt L st h kc kn) (kf : ¬ x < y → AW own nm cc nL ret d md mc ms Q pc' L st h kc kn) : AW own nm cc nL ret d md mc ms Q pc L (.int y :: .int x :: st) h kc kn := by
  subst hp
  intro p l e R s m args below meth c D dA b lim gr H locs ls C S P hL
  exact lv_icmp_lt C.1 C.2.1 hd ht (fun q => kt q p l e R s m args below meth c D dA b lim gr H locs ls C S P hL) (fun q => kf q p l e R s m args below meth c D dA b lim gr H locs ls C S P hL)
theorem aw_icmp_ge {x y : Int32} {off : Int} {tgt : Nat} (hd : decode cc pc = .ok (.if_icmp .ge off, 3)) (ht : (pc : Int) + off = (tgt : Int)) (hp : pc + 3 = pc') (kt : y ≤ x → AW own nm cc nL ret d md mc ms Q tgt L st h kc kn) (kf : ¬ y ≤ x → AW own nm cc nL ret d md mc ms Q pc' L st h kc kn) : AW own nm cc nL ret d md mc ms Q pc L (.int y :: .int x :: st) h kc kn := by
  subst hp
  intro p l e R s m args below meth c D dA b lim gr H locs ls C S P hL
  exact lv_icmp_ge C.1 C.2.1 hd ht (fun q => kt q p l e R s m args below meth c D dA b lim gr H locs ls C S P hL) (fun q => kf q p l e R s m args below meth c D dA b lim gr H locs ls C S P hL)
theorem aw_icmp_gt {x y : Int32} {off : Int} {tgt : Nat} (hd : decode cc pc = .ok (.if_icmp .gt off, 3)) (ht : (pc : Int) + off = (tgt : Int)) (hp : pc + 3 = pc') (kt : y < x → AW own nm cc nL ret d md mc ms Q tgt L st h kc kn) (kf : ¬ y < x → AW own nm cc nL ret d md mc ms Q pc' L st h kc kn) : AW own nm cc nL ret d md mc ms Q pc L (.int y :: .int x :: st) h kc kn := by
  subst hp
  intro p l e R s m args below meth c D dA b lim gr H locs ls C S P hL
  exact lv_icmp_gt C.1 C.2.1 hd ht (fun q => kt q p l e R s m args below meth c D dA b lim gr H locs ls C S P hL) (fun q => kf q p l e R s m args below meth c D dA b lim gr H locs ls C S P hL)
theorem aw_icmp_le {x y : Int32} {off : Int} {tgt : Nat} (hd : decode cc pc = .ok (.if_icmp .le off, 3)) (ht : (pc : Int) + off = (tgt : Int)) (hp : pc + 3 = pc') (kt : x ≤ y → AW own nm cc nL ret d md mc ms Q tgt L st h kc kn) (kf : ¬ x ≤ y → AW own nm cc nL ret d md mc ms Q pc' L st h kc kn) : AW own nm cc nL ret d md mc ms Q pc L (.int y :: .int x :: st) h kc kn := by
  subst hp
  intro p l e R s m args below meth c D dA b lim gr H locs ls C S P hL
  exact lv_icmp_le C.1 C.2.1 hd ht (fun q => kt q p l e R s m args below meth c D dA b lim gr H locs ls C S P hL) (fun q => kf q p l e R s m args below meth c D dA b lim gr H locs ls C S P hL)
theorem aw_goto {off : Int} {tgt : Nat} (hd : decode cc pc = .ok (.goto off, 3)) (ht : (pc : Int) + off = (tgt : Int)) (k : AW own nm cc nL ret d md mc ms Q tgt L st h kc kn) : AW own nm cc nL ret d md mc ms Q pc L st h kc kn := by
  intro p l e R s m args below meth c D dA b lim gr H locs ls C S P hL
  exact lv_goto C.1 C.2.1 hd ht (k p l e R s m args below meth c D dA b lim gr H locs ls C S P hL)
theorem aw_iload_n {i : Fin 4} {x : Int32} (hd : decode cc pc = .ok (.iload_n i, 1)) (hp : pc + 1 = pc') (hl : L[(i : Nat)]? = some (some (.int x))) (k : AW own nm cc nL ret d md mc ms Q pc' L (.int x :: st) h kc kn) : AW own nm cc nL ret d md mc ms Q pc L st h kc kn := by
  subst hp
  intro p l e R s m args below meth c D dA b lim gr H locs ls C S P hL
  exact lv_iload_n C.1 C.2.1 hd rfl (hL.at hl) (k p l e R s m args below meth c D dA b lim gr H locs ls C S P hL)
theorem aw_iload {i : Nat} {x : Int32} (hd : decode cc pc = .ok (.iload i, 2)) (hp : pc + 2 = pc') (hl : L[i]? = some (some (.int x))) (k : AW own nm cc nL ret d md mc ms Q pc' L (.int x :: st) h kc kn) : AW own nm cc nL ret d md mc ms Q pc L st h kc kn := by
  subst hp
  intro p l e R s m args below meth c D dA b lim gr H locs ls C S P hL
  exact lv_iload C.1 C.2.1 hd (hL.at hl) (k p l e R s m args below meth c D dA b lim gr H locs ls C S P hL)
theorem aw_lload_n {i : Fin 4} {x : Int64} (hd : decode cc pc = .ok (.lload_n i, 1)) (hp : pc + 1 = pc') (hl : L[(i : Nat)]? = some (some (.long x))) (k : AW own nm cc nL ret d md mc ms Q pc' L (.long x :: st) h kc kn) : AW own nm cc nL ret d md mc ms Q pc L st h kc kn := by
  subst hp
  intro p l e R s m args below meth c D dA b lim gr H locs ls C S P hL
  exact lv_lload_n C.1 C.2.1 hd rfl (hL.at hl) (k p l e R s m args below meth c D dA b lim gr H locs ls C S P hL)
theorem aw_lload {i : Nat} {x : Int64} (hd : decode cc pc = .ok (.lload i, 2)) (hp : pc + 2 = pc') (hl : L[i]? = some (some (.long x))) (k : AW own nm cc nL ret d md mc ms Q pc' L (.long x :: st) h kc kn) : AW own nm cc nL ret d md mc ms Q pc L st h kc kn := by
  subst hp
  intro p l e R s m args below meth c D dA b lim gr H locs ls C S P hL
  exact lv_lload C.1 C.2.1 hd (hL.at hl) (k p l e R s m args below meth c D dA b lim gr H locs ls C S P hL)
theorem aw_aload_n {i : Fin 4} {x : Nat} (hd : decode cc pc = .ok (.aload_n i, 1)) (hp : pc + 1 = pc') (hl : L[(i : Nat)]? = some (some (.ref x))) (k : AW own nm cc nL ret d md mc ms Q pc' L (.ref x :: st) h kc kn) : AW own nm cc nL ret d md mc ms Q pc L st h kc kn := by
  subst hp
  intro p l e R s m args below meth c D dA b lim gr H locs ls C S P hL
  exact lv_aload_n C.1 C.2.1 hd rfl (hL.at hl) (k p l e R s m args below meth c D dA b lim gr H locs ls C S P hL)
theorem aw_aload {i : Nat} {x : Nat} (hd : decode cc pc = .ok (.aload i, 2)) (hp : pc + 2 = pc') (hl : L[i]? = some (some (.ref x))) (k : AW own nm cc nL ret d md mc ms Q pc' L (.ref x :: st) h kc kn) : AW own nm cc nL ret d md mc ms Q pc L st h kc kn := by
  subst hp
  intro p l e R s m args below meth c D dA b lim gr H locs ls C S P hL
  exact lv_aload C.1 C.2.1 hd (hL.at hl) (k p l e R s m args below meth c D dA b lim gr H locs ls C S P hL)
theorem aw_clr_at {L : List (Option Value)} {i j : Nat} {u : Value} (h : (aw_clr L i)[j]? = some (some u)) : L[j]? = some (some u) ∧ ¬ (j + 1 = i ∧ u.category = 2) := by
  cases i with
  | zero => exact ⟨h, fun q => by omega⟩
  | succ i =>
    simp only [aw_clr] at h
    split at h
    · by_cases hj : j = i
      · subst hj
        simp [List.getElem?_set] at h
      · rw [List.getElem?_set_ne (Ne.symm hj)] at h
        exact ⟨h, fun q => by omega⟩
    · by_cases hj : j = i
      · subst hj
        simp [List.getElem?_set] at h
      · rw [List.getElem?_set_ne (Ne.symm hj)] at h
        exact ⟨h, fun q => by omega⟩
    · rename_i h1 h2
      refine ⟨h, fun q => ?_⟩
      obtain ⟨q1, q2⟩ := q
      have e : j = i := by omega
      subst e
      cases u with
      | long x => exact h1 x h
      | double x => exact h2 x h
      | _ => simp [Value.category] at q2
theorem aw_st1 {b i : Nat} {L : List (Option Value)} {v : Value} {lv : List (Nat × Value)} (h2 : ∀ (i : Nat) (v : Value), L[i]? = some (some v) → (i, aw_v b v) ∈ lv) : ∀ (j : Nat) (u : Value), (aw_s1 L i v)[j]? = some (some u) → (j, aw_v b u) ∈ (i, aw_v b v) :: lv.filter (fun q => !(q.1 == i) && !(q.1 + 1 == i && q.2.category == 2)) := by
  intro j u hj
  unfold aw_s1 at hj
  by_cases e : j = i
  · subst e
    rw [List.getElem?_set] at hj
    simp at hj
    rw [← hj.2]
    exact List.mem_cons_self
  · rw [List.getElem?_set_ne (Ne.symm e)] at hj
    obtain ⟨g1, g2⟩ := aw_clr_at hj
    refine List.mem_cons_of_mem _ (List.mem_filter.mpr ⟨h2 j u g1, ?_⟩)
    simp only [aw_cat, Bool.and_eq_true, Bool.not_eq_true', beq_eq_false_iff_ne, ne_eq, Bool.and_eq_false_iff]
    refine ⟨e, ?_⟩
    by_cases e2 : j + 1 = i
    · exact Or.inr (fun q => g2 ⟨e2, q⟩)
    · exact Or.inl e2
theorem aw_st2 {b i : Nat} {L : List (Option Value)} {v : Value} {lv : List (Nat × Value)} (h2 : ∀ (i : Nat) (v : Value), L[i]? = some (some v) → (i, aw_v b v) ∈ lv) : ∀ (j : Nat) (u : Value), (aw_s2 L i v)[j]? = some (some u) → (j, aw_v b u) ∈ (i, aw_v b v) :: lv.filter (fun q => !(q.1 == i) && (!(q.1 == i + 1) && !(q.1 + 1 == i && q.2.category == 2))) := by
  intro j u hj
  unfold aw_s2 at hj
  by_cases e : j = i
  · subst e
    rw [List.getElem?_set] at hj
    simp at hj
    rw [← hj.2]
    exact List.mem_cons_self
  · rw [List.getElem?_set_ne (Ne.symm e)] at hj
    by_cases e1 : j = i + 1
    · subst e1
      simp [List.getElem?_set] at hj
    · rw [List.getElem?_set_ne (Ne.symm e1)] at hj
      obtain ⟨g1, g2⟩ := aw_clr_at hj
      refine List.mem_cons_of_mem _ (List.mem_filter.mpr ⟨h2 j u g1, ?_⟩)
      simp only [aw_cat, Bool.and_eq_true, Bool.not_eq_true', beq_eq_false_iff_ne, ne_eq, Bool.and_eq_false_iff]
      refine ⟨e, e1, ?_⟩
      by_cases e2 : j + 1 = i
      · exact Or.inr (fun q => g2 ⟨e2, q⟩)
      · exact Or.inl e2
theorem aw_istore_n {i : Fin 4} {x : Int32} (hd : decode cc pc = .ok (.istore_n i, 1)) (hp : pc + 1 = pc') (hn : (i : Nat) < nL) (e : aw_s1 L i (.int x) = L') (k : AW own nm cc nL ret d md mc ms Q pc' L' st h kc kn) : AW own nm cc nL ret d md mc ms Q pc L (.int x :: st) h kc kn := by
  subst hp e
  intro p l e R s m args below meth c D dA b lim gr H locs ls C S P hL
  obtain ⟨lv, h1, h2⟩ := hL
  exact lv_istore_n C.1 C.2.1 hd rfl h1 hn rfl (fun ls' h' => k p l e R s m args below meth c D dA b lim gr H locs ls' C S P ⟨_, h', aw_st1 h2⟩)
theorem aw_istore {i : Nat} {x : Int32} (hd : decode cc pc = .ok (.istore i, 2)) (hp : pc + 2 = pc') (hn : i < nL) (e : aw_s1 L i (.int x) = L') (k : AW own nm cc nL ret d md mc ms Q pc' L' st h kc kn) : AW own nm cc nL ret d md mc ms Q pc L (.int x :: st) h kc kn := by
  subst hp e
  intro p l e R s m args below meth c D dA b lim gr H locs ls C S P hL
  obtain ⟨lv, h1, h2⟩ := hL
  exact lv_istore C.1 C.2.1 hd h1 hn rfl (fun ls' h' => k p l e R s m args below meth c D dA b lim gr H locs ls' C S P ⟨_, h', aw_st1 h2⟩)
theorem aw_lstore_n {i : Fin 4} {x : Int64} (hd : decode cc pc = .ok (.lstore_n i, 1)) (hp : pc + 1 = pc') (hn : (i : Nat) + 1 < nL) (e : aw_s2 L i (.long x) = L') (k : AW own nm cc nL ret d md mc ms Q pc' L' st h kc kn) : AW own nm cc nL ret d md mc ms Q pc L (.long x :: st) h kc kn := by
  subst hp e
  intro p l e R s m args below meth c D dA b lim gr H locs ls C S P hL
  obtain ⟨lv, h1, h2⟩ := hL
  exact lv_lstore_n C.1 C.2.1 hd rfl h1 hn rfl (fun ls' h' => k p l e R s m args below meth c D dA b lim gr H locs ls' C S P ⟨_, h', aw_st2 h2⟩)
theorem aw_lstore {i : Nat} {x : Int64} (hd : decode cc pc = .ok (.lstore i, 2)) (hp : pc + 2 = pc') (hn : i + 1 < nL) (e : aw_s2 L i (.long x) = L') (k : AW own nm cc nL ret d md mc ms Q pc' L' st h kc kn) : AW own nm cc nL ret d md mc ms Q pc L (.long x :: st) h kc kn := by
  subst hp e
  intro p l e R s m args below meth c D dA b lim gr H locs ls C S P hL
  obtain ⟨lv, h1, h2⟩ := hL
  exact lv_lstore C.1 C.2.1 hd h1 hn rfl (fun ls' h' => k p l e R s m args below meth c D dA b lim gr H locs ls' C S P ⟨_, h', aw_st2 h2⟩)
theorem aw_astore_n {i : Fin 4} {x : Nat} (hd : decode cc pc = .ok (.astore_n i, 1)) (hp : pc + 1 = pc') (hn : (i : Nat) < nL) (e : aw_s1 L i (.ref x) = L') (k : AW own nm cc nL ret d md mc ms Q pc' L' st h kc kn) : AW own nm cc nL ret d md mc ms Q pc L (.ref x :: st) h kc kn := by
  subst hp e
  intro p l e R s m args below meth c D dA b lim gr H locs ls C S P hL
  obtain ⟨lv, h1, h2⟩ := hL
  exact lv_astore_n C.1 C.2.1 hd rfl h1 hn rfl (fun ls' h' => k p l e R s m args below meth c D dA b lim gr H locs ls' C S P ⟨_, h', aw_st1 h2⟩)
theorem aw_astore {i : Nat} {x : Nat} (hd : decode cc pc = .ok (.astore i, 2)) (hp : pc + 2 = pc') (hn : i < nL) (e : aw_s1 L i (.ref x) = L') (k : AW own nm cc nL ret d md mc ms Q pc' L' st h kc kn) : AW own nm cc nL ret d md mc ms Q pc L (.ref x :: st) h kc kn := by
  subst hp e
  intro p l e R s m args below meth c D dA b lim gr H locs ls C S P hL
  obtain ⟨lv, h1, h2⟩ := hL
  exact lv_astore C.1 C.2.1 hd h1 hn rfl (fun ls' h' => k p l e R s m args below meth c D dA b lim gr H locs ls' C S P ⟨_, h', aw_st1 h2⟩)
theorem aw_iinc {i : Nat} {n : Int} {x v : Int32} (hd : decode cc pc = .ok (.iinc i n, 3)) (hp : pc + 3 = pc') (hv : Int32.ofInt n = v) (hl : L[i]? = some (some (.int x))) (hn : i < nL) (e : aw_s1 L i (.int (x + v)) = L') (k : AW own nm cc nL ret d md mc ms Q pc' L' st h kc kn) : AW own nm cc nL ret d md mc ms Q pc L st h kc kn := by
  subst hp hv e
  intro p l e R s m args below meth c D dA b lim gr H locs ls C S P hL
  obtain ⟨lv, h1, h2⟩ := hL
  obtain ⟨kk, hk⟩ := List.getElem?_of_mem (h2 i _ hl)
  exact lv_iinc C.1 C.2.1 hd h1 hk rfl hn rfl (fun ls' h' => k p l e R s m args below meth c D dA b lim gr H locs ls' C S P ⟨_, h', aw_st1 h2⟩)
theorem aw_ldc2 {index : Nat} {v : Int64} (hd : decode cc pc = .ok (.ldc2_w index, 3)) (hp : pc + 3 = pc') (hw : Cond.constantLong own index v ∈ wsAll) (k : AW own nm cc nL ret d md mc ms Q pc' L (.long v :: st) h kc kn) : AW own nm cc nL ret d md mc ms Q pc L st h kc kn := by
  subst hp
  intro p l e R s m args below meth c D dA b lim gr H locs ls C S P hL
  exact lv_ldc2 C.1 C.2.1 C.2.2.2.1 (C.2.2.2.2.1 _ hw) hd (k p l e R s m args below meth c D dA b lim gr H locs ls C S P hL)
theorem aw_ldc {index : Nat} {v : Int32} (hd : decode cc pc = .ok (.ldc index, 2)) (hp : pc + 2 = pc') (hw : Cond.constant own index v ∈ wsAll) (k : AW own nm cc nL ret d md mc ms Q pc' L (.int v :: st) h kc kn) : AW own nm cc nL ret d md mc ms Q pc L st h kc kn := by
  subst hp
  intro p l e R s m args below meth c D dA b lim gr H locs ls C S P hL
  exact lv_ldc C.1 C.2.1 C.2.2.2.1 (C.2.2.2.2.1 _ hw) hd (k p l e R s m args below meth c D dA b lim gr H locs ls C S P hL)
theorem aw_ireturn {x : Int32} (hr : ret = some .int) (hd : decode cc pc = .ok (.ireturn, 1)) (hc : kc ≤ mc) (hn : kn ≤ ms) (hq : Q (some (.int x)) h) : AW own nm cc nL ret d md mc ms Q pc L [.int x] h kc kn := by
  intro p l e R s m args below meth c D dA b lim gr H locs ls C S P hL
  refine W.widen (k := mc) (n := ms) hc hn ?_
  exact W.iret (v := x) C.1 C.2.1 (C.2.2.2.2.2.1.trans hr) (fun t ht hW => ⟨⟨some (.int x), h, rfl, hq, by rw [ht]; exact P⟩, S.F ht⟩) S.2.2 hd C.2.2.2.2.2.2.1
theorem aw_zreturn {x : Int32} {ty : FieldType} (hr : ret = some ty) (hx : narrow ty (.int x) = .int x) (hd : decode cc pc = .ok (.ireturn, 1)) (hc : kc ≤ mc) (hn : kn ≤ ms) (hq : Q (some (.int x)) h) : AW own nm cc nL ret d md mc ms Q pc L [.int x] h kc kn := by
  intro p l e R s m args below meth c D dA b lim gr H locs ls C S P hL
  refine W.widen (k := mc) (n := ms) hc hn ?_
  exact W.zret (v := x) C.1 C.2.1 (C.2.2.2.2.2.1.trans hr) hx (fun t ht hW => ⟨⟨some (.int x), h, rfl, hq, by rw [ht]; exact P⟩, S.F ht⟩) S.2.2 hd C.2.2.2.2.2.2.1
theorem aw_lreturn {x : Int64} (hr : ret = some .long) (hd : decode cc pc = .ok (.lreturn, 1)) (hc : kc ≤ mc) (hn : kn ≤ ms) (hq : Q (some (.long x)) h) : AW own nm cc nL ret d md mc ms Q pc L [.long x] h kc kn := by
  intro p l e R s m args below meth c D dA b lim gr H locs ls C S P hL
  refine W.widen (k := mc) (n := ms) hc hn ?_
  exact W.lret (v := x) C.1 C.2.1 (C.2.2.2.2.2.1.trans hr) (fun t ht hW => ⟨⟨some (.long x), h, rfl, hq, by rw [ht]; exact P⟩, S.F ht⟩) S.2.2 hd C.2.2.2.2.2.2.1
theorem aw_return (hr : ret = none) (hd : decode cc pc = .ok (.return_, 1)) (hc : kc ≤ mc) (hn : kn ≤ ms) (hq : Q none h) : AW own nm cc nL ret d md mc ms Q pc L [] h kc kn := by
  intro p l e R s m args below meth c D dA b lim gr H locs ls C S P hL
  refine W.widen (k := mc) (n := ms) hc hn ?_
  exact W.vret C.1 C.2.1 (C.2.2.2.2.2.1.trans hr) (fun t ht hW => ⟨⟨none, h, rfl, hq, by rw [ht]; exact P⟩, S.F ht⟩) S.2.2 hd C.2.2.2.2.2.2.1
theorem aw_ldcw {index : Nat} {v : Int32} (hd : decode cc pc = .ok (.ldc_w index, 3)) (hp : pc + 3 = pc') (hw : Cond.constant own index v ∈ wsAll) (k : AW own nm cc nL ret d md mc ms Q pc' L (.int v :: st) h kc kn) : AW own nm cc nL ret d md mc ms Q pc L st h kc kn := by
  subst hp
  intro p l e R s m args below meth c D dA b lim gr H locs ls C S P hL
  exact lv_ldcw C.1 C.2.1 C.2.2.2.1 (C.2.2.2.2.1 _ hw) hd (k p l e R s m args below meth c D dA b lim gr H locs ls C S P hL)
def aw_fl (own : String) (index ci k : Nat) (CC : String) (T : u_T) (N : Nat) : Prop := vwCl[ci]? = some (CC, T, N) ∧ (∀ w ∈ u_ws CC T N, w ∈ wsAll) ∧ k < N ∧ Cond.fieldLink own index (T k).1 (T k).2.1 (T k).2.2.1 ∈ wsAll
def aw_ty (T : u_T) (N : Nat) (ty0 : Nat → FieldType) : Prop := (∀ k, k < N → parseFieldDescriptor (T k).2.2.1 = some (ty0 k)) ∧ ∀ a, a < N → ∀ b, b < N → a ≠ b → (T a).2.1 ≠ (T b).2.1
theorem aw_get {N ci index k q : Nat} {CC : String} {T : u_T} {fs : List Value} {v : Value} (hd : decode cc pc = .ok (.getfield index, 3)) (hp : pc + 3 = pc') (F : aw_fl own index ci k CC T N) (he : h[q]? = some (.inr (ci, fs))) (hv : fs[k]? = some v) (kk : AW own nm cc nL ret d md mc ms Q pc' L (v :: st) h kc kn) : AW own nm cc nL ret d md mc ms Q pc L (.ref q :: st) h kc kn := by
  subst hp
  intro p l e R s m args below meth c D dA b lim gr H locs ls C S P hL
  obtain ⟨hc, hin, hk, hl⟩ := F
  exact va_get (D := D) (cl := vwCl) (ci := ci) (v := aw_v b v) (ws := [(b + q, aw_e b dA (.inr (ci, fs)))]) (tys := []) C.1 C.2.1 C.2.2.2.2.1 hin C.2.2.2.1 C.2.2.2.2.2.2.2.2.2.1.nil (P.one he) 0 rfl hc k hk (C.2.2.2.2.1 _ hl) (fun _ x => x) (by rw [List.getElem?_map, hv]; rfl) hd (kk p l e R s m args below meth c D dA b lim gr H locs ls C S P hL)
theorem aw_put {N ci index k q : Nat} {CC : String} {T : u_T} {fs : List Value} {v : Value} {ty : FieldType} {ty0 : Nat → FieldType} (hd : decode cc pc = .ok (.putfield index, 3)) (hp : pc + 3 = pc') (F : aw_fl own index ci k CC T N) (Y : aw_ty T N ty0) (hfin : (T k).2.2.2 = false) (hdsc : parseFieldDescriptor (T k).2.2.1 = some ty) (hn : ∀ b, narrow ty (aw_v b v) = aw_v b v) (hfit : ∀ b, fits ty (aw_v b v) = true) (he : h[q]? = some (.inr (ci, fs))) (hlen : k < fs.length) (hh : h.set q (.inr (ci, fs.set k v)) = h') (kk : AW own nm cc nL ret d md mc ms Q pc' L st h' kc kn) : AW own nm cc nL ret d md mc ms Q pc L (v :: .ref q :: st) h kc kn := by
  subst hp hh
  intro p l e R s m args below meth c D dA b lim gr H locs ls C S P hL
  obtain ⟨hc, hin, hk, hl⟩ := F
  obtain ⟨hty, hnm⟩ := Y
  have hts := C.2.2.2.2.1
  have hown := C.2.2.2.1
  have hK := C.2.2.2.2.2.2.2.2.2.1
  have hap := va_apart (own := own) hts hin ty0 hty hnm hK.nil hc
  obtain ⟨r, h1, cell, q1, q2, q3, q4⟩ := P.2.2 q _ he
  have hr : r = (CC, T, N) := Option.some.inj (h1.symm.trans hc)
  subst hr
  obtain ⟨hS, hfc, kC, hkC, hkind⟩ := hK.1 ci _ hc
  obtain ⟨cf, kf, fi, f, hi, hsl⟩ := hS k hk
  have hlay := hts _ (hin _ (u_in_lay hk))
  unfold u_lay at hlay
  rw [if_neg (by rw [hfin]; decide)] at hlay
  have hst := (u_facts hfc hkC (u_lays hts hin hk) hi).1
  have h6 := u_store hfc hkC hkind hlay hi hdsc (hn b) (hfit b)
  refine W.putK C.1 C.2.1 (f := f) ⟨hown, hts _ hl, ⟨_, _, _, hi⟩, hst⟩ (by rw [q2]; exact h6) q1 q3 (by rw [hsl]; exact k2_hasslot (q4 k hk)) rfl rfl hd fun H' e1 e2 e3 => ?_
  rw [hsl] at e1 ⊢
  have hql : q < h.length := (List.getElem?_eq_some_iff.mp he).1
  refine kk p l e R s m args below meth c D dA b lim gr H' _ ls C (S.put e2 e3 (P.inA hql)) (P.put hql e2 ?_ e3) hL
  show va_at D vwCl (b + q, .inr (ci, (fs.set k v).map (aw_v b))) H'
  rw [List.map_set]
  exact ⟨_, hc, t_OB.to (V := updV (vp_V (fs.map (aw_v b))) k (aw_v b v)) ⟨_, e1, q2, q3, t_set q4 hap hk _⟩ (fun j _ => vp_updV_set (by rw [List.length_map]; exact hlen) _ j)⟩
theorem aw_putF {N ci index k q : Nat} {CC : String} {T : u_T} {fs : List Value} {v : Value} {ty : FieldType} {ty0 : Nat → FieldType} (hd : decode cc pc = .ok (.putfield index, 3)) (hp : pc + 3 = pc') (F : aw_fl own index ci k CC T N) (Y : aw_ty T N ty0) (hfin : (T k).2.2.2 = true) (hini : nm = "<init>") (hdecl : (T k).1 = own) (hdsc : parseFieldDescriptor (T k).2.2.1 = some ty) (hn : ∀ b, narrow ty (aw_v b v) = aw_v b v) (hfit : ∀ b, fits ty (aw_v b v) = true) (he : h[q]? = some (.inr (ci, fs))) (hlen : k < fs.length) (hh : h.set q (.inr (ci, fs.set k v)) = h') (kk : AW own nm cc nL ret d md mc ms Q pc' L st h' kc kn) : AW own nm cc nL ret d md mc ms Q pc L (v :: .ref q :: st) h kc kn := by
  subst hp hh
  intro p l e R s m args below meth c D dA b lim gr H locs ls C S P hL
  obtain ⟨hc, hin, hk, hl⟩ := F
  obtain ⟨hty, hnm⟩ := Y
  have hts := C.2.2.2.2.1
  have hown := C.2.2.2.1
  have hK := C.2.2.2.2.2.2.2.2.2.1
  have hap := va_apart (own := own) hts hin ty0 hty hnm hK.nil hc
  obtain ⟨r, h1, cell, q1, q2, q3, q4⟩ := P.2.2 q _ he
  have hr : r = (CC, T, N) := Option.some.inj (h1.symm.trans hc)
  subst hr
  obtain ⟨hS, hfc, kC, hkC, hkind⟩ := hK.1 ci _ hc
  obtain ⟨cf, kf, fi, f, hi, hsl⟩ := hS k hk
  have hlay := hts _ (hin _ (u_in_lay hk))
  unfold u_lay at hlay
  rw [if_pos hfin] at hlay
  have hst := (u_facts hfc hkC (u_lays hts hin hk) hi).1
  have hcf : m.cls = cf := by
    obtain ⟨_, _, c', _, _, _, -, -, hf', -, -, -, hown2, -⟩ := Cond.laysFinal_spec hlay
    have e1 : c' = cf := by have := hi.symm.trans hf'; simp at this; exact this.1.symm
    rw [hdecl] at hown2
    rw [← e1]; exact Option.some.inj (hown.symm.trans hown2)
  have h6 := u_fits hfc hkC hkind (Or.inr hlay) hi hdsc (hn b) (hfit b)
  refine W.putFinK C.1 C.2.1 hown (hts _ hl) hi hst hcf (C.2.2.2.2.2.2.2.1.trans hini) (by rw [q2]; exact h6) q1 q3 (by rw [hsl]; exact k2_hasslot (q4 k hk)) rfl rfl hd fun H' e1 e2 e3 => ?_
  rw [hsl] at e1 ⊢
  have hql : q < h.length := (List.getElem?_eq_some_iff.mp he).1
  refine kk p l e R s m args below meth c D dA b lim gr H' _ ls C (S.put e2 e3 (P.inA hql)) (P.put hql e2 ?_ e3) hL
  show va_at D vwCl (b + q, .inr (ci, (fs.set k v).map (aw_v b))) H'
  rw [List.map_set]
  exact ⟨_, hc, t_OB.to (V := updV (vp_V (fs.map (aw_v b))) k (aw_v b v)) ⟨_, e1, q2, q3, t_set q4 hap hk _⟩ (fun j _ => vp_updV_set (by rw [List.length_map]; exact hlen) _ j)⟩
def aw_fp (own : String) (index ci k : Nat) (CC : String) (T : u_T) (N : Nat) (ty : FieldType) : Prop := aw_fl own index ci k CC T N ∧ (∃ ty0, aw_ty T N ty0) ∧ (T k).2.2.2 = false ∧ parseFieldDescriptor (T k).2.2.1 = some ty
theorem aw_puti {N ci index k q : Nat} {CC : String} {T : u_T} {fs : List Value} {x : Int32} (hd : decode cc pc = .ok (.putfield index, 3)) (hp : pc + 3 = pc') (X : aw_fp own index ci k CC T N .int)  (he : h[q]? = some (.inr (ci, fs))) (hlen : k < fs.length) (hh : h.set q (.inr (ci, fs.set k (.int x))) = h') (kk : AW own nm cc nL ret d md mc ms Q pc' L st h' kc kn) : AW own nm cc nL ret d md mc ms Q pc L (.int x :: .ref q :: st) h kc kn := by
  obtain ⟨F, ⟨ty0, Y⟩, hfin, hds⟩ := X
  exact aw_put hd hp F Y hfin hds (fun _ => vp_nar_int x) (fun _ => rfl) he hlen hh kk
theorem aw_putz {N ci index k q : Nat} {CC : String} {T : u_T} {fs : List Value} {x : Int32} (hd : decode cc pc = .ok (.putfield index, 3)) (hp : pc + 3 = pc') (X : aw_fp own index ci k CC T N .boolean) (g : narrow .boolean (.int x) = .int x ∧ fits .boolean (.int x) = true) (he : h[q]? = some (.inr (ci, fs))) (hlen : k < fs.length) (hh : h.set q (.inr (ci, fs.set k (.int x))) = h') (kk : AW own nm cc nL ret d md mc ms Q pc' L st h' kc kn) : AW own nm cc nL ret d md mc ms Q pc L (.int x :: .ref q :: st) h kc kn := by
  obtain ⟨F, ⟨ty0, Y⟩, hfin, hds⟩ := X
  exact aw_put hd hp F Y hfin hds (fun _ => g.1) (fun _ => g.2) he hlen hh kk
theorem aw_putj {N ci index k q : Nat} {CC : String} {T : u_T} {fs : List Value} {x : Int64} (hd : decode cc pc = .ok (.putfield index, 3)) (hp : pc + 3 = pc') (X : aw_fp own index ci k CC T N .long)  (he : h[q]? = some (.inr (ci, fs))) (hlen : k < fs.length) (hh : h.set q (.inr (ci, fs.set k (.long x))) = h') (kk : AW own nm cc nL ret d md mc ms Q pc' L st h' kc kn) : AW own nm cc nL ret d md mc ms Q pc L (.long x :: .ref q :: st) h kc kn := by
  obtain ⟨F, ⟨ty0, Y⟩, hfin, hds⟩ := X
  exact aw_put hd hp F Y hfin hds (fun _ => rfl) (fun _ => rfl) he hlen hh kk
theorem aw_iald {q t n : Nat} {f : Nat → Int32} {i : Int32} (hd : decode cc pc = .ok (.iaload, 1)) (hp : pc + 1 = pc') (ht : tyTab[t]? = some .int) (he : h[q]? = some (.inl (t, n, .inl f))) (hin : vp_in i n) (kk : AW own nm cc nL ret d md mc ms Q pc' L (.int (f i.toNatClampNeg) :: st) h kc kn) : AW own nm cc nL ret d md mc ms Q pc L (.int i :: .ref q :: st) h kc kn := by
  subst hp
  intro p l e R s m args below meth c D dA b lim gr H locs ls C S P hL
  exact va_iald C.1 C.2.1 (C.2.2.2.2.2.2.2.2.2.1.one ht) (P.one he) 0 0 rfl rfl hin hd (kk p l e R s m args below meth c D dA b lim gr H locs ls C S P hL)
theorem aw_bald {q t n : Nat} {f : Nat → Int32} {i : Int32} (hd : decode cc pc = .ok (.baload, 1)) (hp : pc + 1 = pc') (ht : tyTab[t]? = some .byte) (he : h[q]? = some (.inl (t, n, .inl f))) (hin : vp_in i n) (kk : AW own nm cc nL ret d md mc ms Q pc' L (.int (f i.toNatClampNeg) :: st) h kc kn) : AW own nm cc nL ret d md mc ms Q pc L (.int i :: .ref q :: st) h kc kn := by
  subst hp
  intro p l e R s m args below meth c D dA b lim gr H locs ls C S P hL
  exact va_bald C.1 C.2.1 (C.2.2.2.2.2.2.2.2.2.1.one ht) (P.one he) 0 0 rfl rfl hin hd (kk p l e R s m args below meth c D dA b lim gr H locs ls C S P hL)
theorem aw_lald {q t n : Nat} {f : Nat → Int64} {i : Int32} (hd : decode cc pc = .ok (.laload, 1)) (hp : pc + 1 = pc') (ht : tyTab[t]? = some .long) (he : h[q]? = some (.inl (t, n, .inr (.inl f)))) (hin : vp_in i n) (kk : AW own nm cc nL ret d md mc ms Q pc' L (.long (f i.toNatClampNeg) :: st) h kc kn) : AW own nm cc nL ret d md mc ms Q pc L (.int i :: .ref q :: st) h kc kn := by
  subst hp
  intro p l e R s m args below meth c D dA b lim gr H locs ls C S P hL
  exact va_lald C.1 C.2.1 (C.2.2.2.2.2.2.2.2.2.1.one ht) (P.one he) 0 0 rfl rfl hin hd (kk p l e R s m args below meth c D dA b lim gr H locs ls C S P hL)
theorem aw_a_len (b : Nat) (a : vp_A) : (aw_a b a).1 = a.1 := by
  obtain ⟨n, f | f | f | f | f⟩ := a <;> rfl
theorem aw_alen {q t n : Nat} {a : (Nat → Int32) ⊕ (Nat → Int64) ⊕ (Nat → UInt32) ⊕ (Nat → UInt64) ⊕ (Nat → Option Nat)} {ty : FieldType} (hd : decode cc pc = .ok (.arraylength, 1)) (hp : pc + 1 = pc') (ht : tyTab[t]? = some ty) (he : h[q]? = some (.inl (t, n, a))) (kk : AW own nm cc nL ret d md mc ms Q pc' L (.int (nI n) :: st) h kc kn) : AW own nm cc nL ret d md mc ms Q pc L (.ref q :: st) h kc kn := by
  subst hp
  intro p l e R s m args below meth c D dA b lim gr H locs ls C S P hL
  exact va_alen C.1 C.2.1 (C.2.2.2.2.2.2.2.2.2.1.one ht) (P.one he) 0 0 rfl rfl (by rw [aw_a_len]; rfl) hd (kk p l e R s m args below meth c D dA b lim gr H locs ls C S P hL)
theorem aw_iast {q t n : Nat} {f : Nat → Int32} {i : Int32} {x : Int32} (hd : decode cc pc = .ok (.iastore, 1)) (hp : pc + 1 = pc') (ht : tyTab[t]? = some .int) (he : h[q]? = some (.inl (t, n, .inl f))) (hin : vp_in i n) (hh : h.set q (.inl (t, n, .inl (upd f i.toNatClampNeg x))) = h') (kk : AW own nm cc nL ret d md mc ms Q pc' L st h' kc kn) : AW own nm cc nL ret d md mc ms Q pc L (.int x :: .int i :: .ref q :: st) h kc kn := by
  subst hp hh
  intro p l e R s m args below meth c D dA b lim gr H locs ls C S P hL
  have hK := C.2.2.2.2.2.2.2.2.2.1.one ht
  have hql : q < h.length := (List.getElem?_eq_some_iff.mp he).1
  refine W.iast C.1 C.2.1 (P.2.2 q _ he) ((hK.2 0 _ rfl).1 n (fun j => .int (f j))) (fun q => by cases q) (by show ¬ (i < 0 ∨ (arrV _ _ _).slots.size ≤ _); rw [arrV_size]; exact hin) rfl rfl hd fun H1 e1 z oq => ?_
  refine kk p l e R s m args below meth c D dA b lim gr H1 _ ls C (S.put z oq (P.inA hql)) (P.put hql z ?_ oq) hL
  show H1[b + q]? = some (vp_cell _ _)
  rw [e1]
  show some (Cell.setSlot (vp_cell _ (n, .inl f)) _ _) = some (vp_cell _ (n, .inl _))
  rw [vp_cell_i, vp_cell_i, arrV_store]
  congr 2
  funext j
  by_cases hj : j = i.toNatClampNeg
  · subst hj
    simp [updV, upd]
    try rfl
  · simp [updV, upd, hj]
theorem aw_bast {q t n : Nat} {f : Nat → Int32} {i : Int32} {x : Int32} (hd : decode cc pc = .ok (.bastore, 1)) (hp : pc + 1 = pc') (ht : tyTab[t]? = some .byte) (he : h[q]? = some (.inl (t, n, .inl f))) (hin : vp_in i n) (hh : h.set q (.inl (t, n, .inl (upd f i.toNatClampNeg (vp_nar .byte x)))) = h') (kk : AW own nm cc nL ret d md mc ms Q pc' L st h' kc kn) : AW own nm cc nL ret d md mc ms Q pc L (.int x :: .int i :: .ref q :: st) h kc kn := by
  subst hp hh
  intro p l e R s m args below meth c D dA b lim gr H locs ls C S P hL
  have hK := C.2.2.2.2.2.2.2.2.2.1.one ht
  have hql : q < h.length := (List.getElem?_eq_some_iff.mp he).1
  refine W.bast C.1 C.2.1 (P.2.2 q _ he) ((hK.2 0 _ rfl).1 n (fun j => .int (f j))) (fun q => by cases q) (by show ¬ (i < 0 ∨ (arrV _ _ _).slots.size ≤ _); rw [arrV_size]; exact hin) rfl rfl hd fun H1 e1 z oq => ?_
  refine kk p l e R s m args below meth c D dA b lim gr H1 _ ls C (S.put z oq (P.inA hql)) (P.put hql z ?_ oq) hL
  show H1[b + q]? = some (vp_cell _ _)
  rw [e1]
  show some (Cell.setSlot (vp_cell _ (n, .inl f)) _ _) = some (vp_cell _ (n, .inl _))
  rw [vp_cell_i, vp_cell_i, arrV_store]
  congr 2
  funext j
  by_cases hj : j = i.toNatClampNeg
  · subst hj
    simp [updV, upd, vp_nar]
    try rfl
  · simp [updV, upd, hj]
theorem aw_last {q t n : Nat} {f : Nat → Int64} {i : Int32} {x : Int64} (hd : decode cc pc = .ok (.lastore, 1)) (hp : pc + 1 = pc') (ht : tyTab[t]? = some .long) (he : h[q]? = some (.inl (t, n, .inr (.inl f)))) (hin : vp_in i n) (hh : h.set q (.inl (t, n, .inr (.inl (vp_updL f i.toNatClampNeg x)))) = h') (kk : AW own nm cc nL ret d md mc ms Q pc' L st h' kc kn) : AW own nm cc nL ret d md mc ms Q pc L (.long x :: .int i :: .ref q :: st) h kc kn := by
  subst hp hh
  intro p l e R s m args below meth c D dA b lim gr H locs ls C S P hL
  have hK := C.2.2.2.2.2.2.2.2.2.1.one ht
  have hql : q < h.length := (List.getElem?_eq_some_iff.mp he).1
  refine W.last C.1 C.2.1 (P.2.2 q _ he) ((hK.2 0 _ rfl).1 n (fun j => .long (f j))) (fun q => by cases q) (by show ¬ (i < 0 ∨ (arrV _ _ _).slots.size ≤ _); rw [arrV_size]; exact hin) rfl rfl hd fun H1 e1 z oq => ?_
  refine kk p l e R s m args below meth c D dA b lim gr H1 _ ls C (S.put z oq (P.inA hql)) (P.put hql z ?_ oq) hL
  show H1[b + q]? = some (vp_cell _ _)
  rw [e1]
  show some (Cell.setSlot (vp_cell _ (n, .inr (.inl f))) _ _) = some (vp_cell _ (n, .inr (.inl _)))
  rw [vp_cell_l, vp_cell_l, arrV_store]
  congr 2
  funext j
  by_cases hj : j = i.toNatClampNeg
  · subst hj
    simp [updV, vp_updL]
    try rfl
  · simp [updV, vp_updL, hj]
theorem aw_newa {atype : ArrayType} {ty : FieldType} {t N : Nat} {n : Int32} {a0 : vp_A} (hmd : md = 1) (hd : decode cc pc = .ok (.newarray atype, 2)) (hp : pc + 2 = pc') (ht : tyTab[t]? = some ty) (hty : newarray.typeOf atype = ty) (hw : Cond.arrayClass (newarray.typeOf atype) ∈ wsAll) (ha : ∀ (b : Nat) (cA : ClassId), vp_cell cA (aw_a b a0) = arrV cA N (fun _ => defaultValue ty)) (hra : ∀ (U : State) (cA : ClassId), va_RA U cA ty → U.vm.findClass ("[" ++ ty.toString) = some cA) (hn : ¬ n < 0) (hN : n.toNatClampNeg = N) (hby : N * componentBytes ty ≤ 536870912) (hc : kc + 1 ≤ mc) (hs : kn + N ≤ ms) (hh : h ++ [.inl (t, a0)] = h') {q : Nat} (hq : h.length = q) (kk : AW own nm cc nL ret d md mc ms Q pc' L (.ref q :: st) h' (kc + 1) (kn + N)) : AW own nm cc nL ret d md mc ms Q pc L (.int n :: st) h kc kn := by
  subst hp hh hq
  intro p l e R s m args below meth c D dA b lim gr H locs ls C S P hL
  have hgr : gr = true := C.2.2.2.2.2.2.2.2.2.2.2.1 hmd
  subst hty
  obtain ⟨hfr, hlo, hRc, hRs⟩ := C.2.2.2.2.2.2.2.2.1
  have hK := C.2.2.2.2.2.2.2.2.2.1
  refine va_newaK C.1 C.2.1 (C.2.2.2.2.1 _ hw) rfl hd rfl hn hN hby (by rw [hRc]; exact hc) (by rw [hRs]; exact hs) (P.1 hgr) fun H1 cA e1 z1 o1 hAr hNm => ?_
  have hcA : cA = dA t := Option.some.inj (hNm.symm.trans (hra s _ (hK.2 t _ ht).2))
  subst hcA
  have hPs := P.1 hgr
  refine kk p l e R s m args below meth c D dA b lim gr H1 locs ls C ⟨Nat.le_trans S.1 (by rw [z1, hPs]; omega), fun x g1 g2 => (o1 x (by have := S.1; omega)).trans (S.2.1 x g1 g2), S.2.2⟩ (P.push hgr (by rw [z1, hPs]) ?_ (fun q hq => o1 q (by rw [← hPs]; exact hq))) hL
  show H1[b + h.length]? = some (vp_cell _ _)
  rw [ha]
  exact e1
theorem aw_new {N ci index : Nat} {CC : String} {T : u_T} {fs : List Value} {ty0 : Nat → FieldType} (hmd : md = 1) (hd : decode cc pc = .ok (.new index, 3)) (hp : pc + 3 = pc') (hc : vwCl[ci]? = some (CC, T, N)) (hin : ∀ w ∈ u_ws CC T N, w ∈ wsAll) (Y : aw_ty T N ty0) (hcl : Cond.classLink own index CC ∈ wsAll) (hins : Cond.instantiable CC N ∈ wsAll) (hini : Cond.initialized CC ∈ wsAll) (hfs : ∀ (b j : Nat), j < N → defaultValue (ty0 j) = vp_V (fs.map (aw_v b)) j) (hc1 : kc + 1 ≤ mc) (hs1 : kn + N ≤ ms) (hh : h ++ [.inr (ci, fs)] = h') {q : Nat} (hq : h.length = q) (kk : AW own nm cc nL ret d md mc ms Q pc' L (.ref q :: st) h' (kc + 1) (kn + N)) : AW own nm cc nL ret d md mc ms Q pc L st h kc kn := by
  subst hp hh hq
  intro p l e R s m args below meth c D dA b lim gr H locs ls C S P hL
  have hgr : gr = true := C.2.2.2.2.2.2.2.2.2.2.2.1 hmd
  have hPs := P.1 hgr
  obtain ⟨hfr, hlo, hRc, hRs⟩ := C.2.2.2.2.2.2.2.2.1
  have hts := C.2.2.2.2.1
  have hK := C.2.2.2.2.2.2.2.2.2.1
  have hKn := hK.1 ci _ hc
  refine W.newcK C.1 C.2.1 C.2.2.2.1 (hts _ hcl) (hts _ hins) (hts _ hini) rfl hd (by rw [hRc]; exact hc1) (by rw [hRs]; exact hs1) hKn.2.1 hPs fun H1 kC hkC e1 z1 o1 => ?_
  refine kk p l e R s m args below meth c D dA b lim gr H1 locs ls C ⟨Nat.le_trans S.1 (by rw [z1, hPs]; omega), fun x g1 g2 => (o1 x (by have := S.1; omega)).trans (S.2.1 x g1 g2), S.2.2⟩ (P.push hgr (by rw [z1, hPs]) ?_ (fun q hq => o1 q (by rw [← hPs]; exact hq))) hL
  exact ⟨_, hc, (u_born ty0 hts hin hKn hkC e1 Y.1).to (hfs b)⟩
theorem aw_objInit {index q : Nat} (hd : decode cc pc = .ok (.invokespecial index, 3)) (hp : pc + 3 = pc') (hl : Cond.methodLink own index Lib.objectInit ∈ wsAll) (hi : Cond.instanceMethod Lib.objectInit ∈ wsAll) (hcw : Cond.code Lib.objectInit ⟨#[0xb1]⟩ 1 none ∈ wsAll) (hfr : 1 ≤ d) (hst : (st.map fun v => v.category).sum ≤ 8) (kk : AW own nm cc nL ret d md mc ms Q pc' L st h kc kn) : AW own nm cc nL ret d md mc ms Q pc L (.ref q :: st) h kc kn := by
  subst hp
  intro p l e R s m args below meth c D dA b lim gr H locs ls C S P hL
  obtain ⟨lv, g1, g2⟩ := id hL
  have hts := C.2.2.2.2.1
  have hcats : ((st.map (aw_v b)).map fun v => v.category).sum ≤ 8 := by
    rw [List.map_map]
    have : ((fun v : Value => v.category) ∘ aw_v b) = fun v => v.category := funext (fun v => aw_cat b v)
    rw [this]; exact hst
  refine W.objInit C.1 C.2.1 C.2.2.2.1 (hts _ hl) (hts _ hi) (hts _ hcw) rfl (by rw [C.2.2.1]; exact g1.1) rfl hd (Nat.le_trans hfr C.2.2.2.2.2.2.2.2.1.1) (by have := C.2.2.2.2.2.2.2.2.1.2.1; show 2 * 0 + _ + 12 ≤ _; omega) ?_
  exact kk p l e R s m args below meth c D dA b lim gr H locs ls C S P hL
theorem aw_good : GoodIn wsAll wsAll := fun w hw => ⟨hw, good_of_word (List.all_eq_true.mp wsAll_good w hw)⟩
theorem aw_goodC {y : MethodName} {cy : ByteArray} {nLy : Nat} {rt : Option FieldType} (hcw : Cond.code y cy nLy rt ∈ wsAll) : GoodIn wsAll (Cond.code y cy nLy rt :: wsAll) := by
  intro w hw
  rcases List.mem_cons.mp hw with rfl | hw
  · exact aw_good _ hcw
  · exact aw_good _ hw
theorem aw_cats (b : Nat) (st : List Value) : ((st.map (aw_v b)).map fun v => v.category).sum = (st.map fun v => v.category).sum := by
  rw [List.map_map]
  have e : ((fun v : Value => v.category) ∘ aw_v b) = fun v => v.category := funext (fun v => aw_cat b v)
  rw [e]
theorem aw_blind {D : va_G} {dA : Nat → ClassId} {b lim : Nat} {gr : Bool} {h : aw_H} {av : List Value} : FrameBlind (va_Pc (av.map (aw_v b)) (fun U => aw_P D dA b lim gr h U.heap ∧ aw_K D dA U ∧ aw_N U)) := by
  intro a U g mk q
  obtain ⟨q0, qP, qK, qN⟩ := q
  exact ⟨q0, qP, aw_K.moved (u := U) (U := U.calling g mk a) (Vm.Alike.refl U.vm) qK, aw_N.same (u := U) (U := U.calling g mk a) rfl qN⟩
/- behind a call -/
theorem aw_back {mc' ms' : Nat} {Q' : Option Value → aw_H → Prop} {a : Array Value} {st0 : List Value} {p : Program} {l : Launch} {e : Env} {R : Room} {s : State} {m : MethodId} {args : Array Value} {below : List Frame} {meth : Method} {c : Code} {D : va_G} {dA : Nat → ClassId} {b lim : Nat} {gr : Bool} {H : Heap} {locs : List Loc} {ls : Array Slot}
    (hr : va_Run p l e R s m args below meth c H locs kc kn mc' ms' (F0 m pc ls st0) (st.map (aw_v b)) (aw_Qc D dA b lim gr Q' a) (aw_A b lim gr))
    (C : aw_C own nm cc nL ret d md mc ms p R s m args meth c D dA b gr) (S : va_S (aw_A b lim gr) s.heap H locs) (P : aw_P D dA b lim gr h H) (hL : aw_L b L nL ls)
    (kk : ∀ (v : Option Value) (h' : aw_H), Q' v h' → AW own nm cc nL ret d md mc ms Q (pc + 3) L (v.toList ++ st) h' (kc + mc') (kn + ms')) : W p l e R s m args below meth c H locs kc kn (MQ below (aw_Qc D dA b lim gr Q) args s mc ms (aw_A b lim gr)) (F0 m pc ls st0) := by
  intro T hT X
  obtain ⟨v, st₀, t, T', Lc, h0, X', hLc, e1, e2, ⟨⟨v0, h', hv, hq, hP'⟩, hz, hk⟩, stp⟩ := hr T hT X
  rw [h0] at hz hk
  have hS' : va_S (aw_A b lim gr) s.heap T'.heap (locs ++ Lc) := by
    refine ⟨Nat.le_trans S.1 (by rw [e1]; exact hz), fun q g1 g2 => ?_, fun q hq' => ?_⟩
    · rw [e1, hk q (Nat.lt_of_lt_of_le g1 S.1) g2]
      exact S.2.1 q g1 g2
    · rcases List.mem_append.mp hq' with g | g
      · exact S.2.2 q g
      · exact hLc q g
  have hv' : v = v0.map (aw_v b) := by cases hv; rfl
  obtain ⟨t2, a1, b1⟩ := kk v0 h' hq p l e R s m args below meth c D dA b lim gr T'.heap (locs ++ Lc) ls C hS' (by rw [e1]; exact hP') hL T' rfl X'
  refine ⟨t2, stp t2 ?_, b1⟩
  rw [hv']
  cases v0 <;> exact a1
/- the words of a call: static, virtual, <init>; a nest mate's static -/
def aw_mok (y : MethodName) (n : Nat) : Prop := y.cls ≠ "java/lang/invoke/MethodHandle" ∧ y.cls ≠ "java/lang/invoke/VarHandle" ∧ (parseMethodDescriptor y.desc).map (fun d => d.parameters.length) = some n
def aw_wS (own : String) (index : Nat) (y : MethodName) (cy : ByteArray) (nLy : Nat) (rt : Option FieldType) (n : Nat) : Prop := Cond.code y cy nLy rt ∈ wsAll ∧ Cond.initialized y.cls ∈ wsAll ∧ Cond.methodLink own index y ∈ wsAll ∧ Cond.static y ∈ wsAll ∧ aw_mok y n ∧ nLy ≤ 20
def aw_wN (own : String) (index : Nat) (y : MethodName) (cy : ByteArray) (nLy : Nat) (rt : Option FieldType) (n : Nat) (host : String) : Prop := Cond.code y cy nLy rt ∈ wsAll ∧ Cond.initialized y.cls ∈ wsAll ∧ (own, index, y, host) ∈ nwM ∧ Cond.static y ∈ wsAll ∧ aw_mok y n ∧ nLy ≤ 20
def aw_wV (own : String) (index : Nat) (y : MethodName) (cy : ByteArray) (nLy : Nat) (rt : Option FieldType) (n ci : Nat) (CC : String) (T : u_T) (N : Nat) : Prop := Cond.code y cy nLy rt ∈ wsAll ∧ Cond.initialized y.cls ∈ wsAll ∧ Cond.methodLink own index y ∈ wsAll ∧ Cond.instanceMethod y ∈ wsAll ∧ Cond.selects CC y y ∈ wsAll ∧ vwCl[ci]? = some (CC, T, N) ∧ aw_mok y n ∧ nLy ≤ 20
def aw_wI (own : String) (index : Nat) (y : MethodName) (cy : ByteArray) (nLy : Nat) (n : Nat) : Prop := Cond.code y cy nLy none ∈ wsAll ∧ Cond.initialized y.cls ∈ wsAll ∧ Cond.methodLink own index y ∈ wsAll ∧ Cond.instanceMethod y ∈ wsAll ∧ y.name = "<init>" ∧ aw_mok y n ∧ nLy ≤ 20
theorem aw_callS {y : MethodName} {cy : ByteArray} {nLy d' md' mc' ms' index n : Nat} {av : List Value} {Q' : Option Value → aw_H → Prop} {rt : Option FieldType} (hd : decode cc pc = .ok (.invokestatic index, 3)) (hp : pc + 3 = pc') (X : aw_wS own index y cy nLy rt n) (hM : AM y cy nLy rt d' md' mc' ms' av h Q') (hmd : md' = 0 ∨ md' = md) (hn : av.length = n) (hR : d' + 1 ≤ d) (hf : kc + mc' ≤ mc ∧ kn + ms' ≤ ms) (hst : (st.map fun v => v.category).sum ≤ 8) (kk : ∀ (v : Option Value) (h' : aw_H), Q' v h' → AW own nm cc nL ret d md mc ms Q pc' L (v.toList ++ st) h' (kc + mc') (kn + ms')) : AW own nm cc nL ret d md mc ms Q pc L (av.reverse ++ st) h kc kn := by
  subst hp
  intro p l e R s m args below meth c D dA b lim gr H locs ls C S P hL
  obtain ⟨hcw, hini, hlk, hsta, hy, hnl⟩ := X
  have hts := C.2.2.2.2.1
  obtain ⟨hfr, hlo, hRc, hRs⟩ := C.2.2.2.2.2.2.2.2.1
  obtain ⟨lv, g1, g2⟩ := id hL
  refine aw_back (va_runS (g := F0 m pc ls ((av.reverse ++ st).map (aw_v b))) (As := av.map (aw_v b)) (Ts := wsAll) ⟨C.1, C.2.1, C.2.2.1, C.2.2.2.1, hts⟩ (hM l D dA b lim gr (aw_md_use hmd C.2.2.2.2.2.2.2.2.2.2.2)) ⟨callB_of n hts (aw_goodC hcw) rfl rfl rfl (hts _ hini) (hts _ hlk) hy ⟨by show d' + 1 ≤ _; omega, by show 8 + (nLy + 11) + 40 * d' ≤ _; omega⟩, hts _ hsta⟩ ⟨aw_blind, fun U hU hW => ⟨rfl, by rw [hU]; exact P, C.2.2.2.2.2.2.2.2.2.1.moved hW.alike, C.2.2.2.2.2.2.2.2.2.2.1.warm hW⟩⟩ rfl (by rw [List.length_map]; exact hn) g1.1 (by show (av.reverse ++ st).map (aw_v b) = _; rw [List.map_append, List.map_reverse]) (by show 2 * 0 + _ ≤ _; rw [aw_cats]; omega) hd ⟨by rw [hRc]; exact hf.1, by rw [hRs]; exact hf.2⟩) C S P hL kk
theorem aw_callN {y : MethodName} {cy : ByteArray} {nLy d' md' mc' ms' index n : Nat} {av : List Value} {Q' : Option Value → aw_H → Prop} {rt : Option FieldType} (hd : decode cc pc = .ok (.invokestatic index, 3)) (hp : pc + 3 = pc') {host : String} (X : aw_wN own index y cy nLy rt n host) (hM : AM y cy nLy rt d' md' mc' ms' av h Q') (hmd : md' = 0 ∨ md' = md) (hn : av.length = n) (hR : d' + 1 ≤ d) (hf : kc + mc' ≤ mc ∧ kn + ms' ≤ ms) (hst : (st.map fun v => v.category).sum ≤ 8) (kk : ∀ (v : Option Value) (h' : aw_H), Q' v h' → AW own nm cc nL ret d md mc ms Q pc' L (v.toList ++ st) h' (kc + mc') (kn + ms')) : AW own nm cc nL ret d md mc ms Q pc L (av.reverse ++ st) h kc kn := by
  subst hp
  intro p l e R s m args below meth c D dA b lim gr H locs ls C S P hL
  obtain ⟨hcw, hini, hlk, hsta, hy, hnl⟩ := X
  have hts := C.2.2.2.2.1
  obtain ⟨hfr, hlo, hRc, hRs⟩ := C.2.2.2.2.2.2.2.2.1
  obtain ⟨lv, g1, g2⟩ := id hL
  refine aw_back (va_runSN (g := F0 m pc ls ((av.reverse ++ st).map (aw_v b))) (As := av.map (aw_v b)) (Ts := wsAll) ⟨C.1, C.2.1, C.2.2.1, C.2.2.2.1, hts⟩ (hM l D dA b lim gr (aw_md_use hmd C.2.2.2.2.2.2.2.2.2.2.2)) ⟨va_cnB n hts (aw_goodC hcw) rfl rfl rfl (C.2.2.2.2.2.2.2.2.2.2.1 _ hlk) (hts _ hini) hy ⟨by show d' + 1 ≤ _; omega, by show 8 + (nLy + 11) + 40 * d' ≤ _; omega⟩, hts _ hsta, trivial⟩ ⟨aw_blind, fun U hU hW => ⟨rfl, by rw [hU]; exact P, C.2.2.2.2.2.2.2.2.2.1.moved hW.alike, C.2.2.2.2.2.2.2.2.2.2.1.warm hW⟩⟩ rfl (by rw [List.length_map]; exact hn) g1.1 (by show (av.reverse ++ st).map (aw_v b) = _; rw [List.map_append, List.map_reverse]) (by show 2 * 0 + _ ≤ _; rw [aw_cats]; omega) hd ⟨by rw [hRc]; exact hf.1, by rw [hRs]; exact hf.2⟩) C S P hL kk
theorem aw_callV {y : MethodName} {cy : ByteArray} {nLy d' md' mc' ms' index n : Nat} {av : List Value} {Q' : Option Value → aw_H → Prop} {rt : Option FieldType} {CC : String} {T : u_T} {N ci q : Nat} {fs : List Value} (hd : decode cc pc = .ok (.invokevirtual index, 3)) (hp : pc + 3 = pc') (X : aw_wV own index y cy nLy rt n ci CC T N) (he : h[q]? = some (.inr (ci, fs))) (hM : AM y cy nLy rt d' md' mc' ms' (.ref q :: av) h Q') (hmd : md' = 0 ∨ md' = md) (hn : av.length = n) (hR : d' + 1 ≤ d) (hf : kc + mc' ≤ mc ∧ kn + ms' ≤ ms) (hst : (st.map fun v => v.category).sum ≤ 8) (kk : ∀ (v : Option Value) (h' : aw_H), Q' v h' → AW own nm cc nL ret d md mc ms Q pc' L (v.toList ++ st) h' (kc + mc') (kn + ms')) : AW own nm cc nL ret d md mc ms Q pc L (av.reverse ++ .ref q :: st) h kc kn := by
  subst hp
  intro p l e R s m args below meth c D dA b lim gr H locs ls C S P hL
  obtain ⟨hcw, hini, hlk, hins, hsel, hc, hy, hnl⟩ := X
  have hts := C.2.2.2.2.1
  obtain ⟨hfr, hlo, hRc, hRs⟩ := C.2.2.2.2.2.2.2.2.1
  obtain ⟨lv, g1, g2⟩ := id hL
  refine aw_back (va_runV (g := F0 m pc ls ((av.reverse ++ .ref q :: st).map (aw_v b))) (b := b + q) (C := CC) (As := av.map (aw_v b)) (Ts := wsAll) ⟨C.1, C.2.1, C.2.2.1, C.2.2.2.1, hts⟩ (hM l D dA b lim gr (aw_md_use hmd C.2.2.2.2.2.2.2.2.2.2.2)) ⟨callB_of n hts (aw_goodC hcw) rfl rfl rfl (hts _ hini) (hts _ hlk) hy ⟨by show d' + 1 ≤ _; omega, by show 8 + (nLy + 11) + 40 * d' ≤ _; omega⟩, hts _ hins, hts _ hsel⟩ ⟨aw_blind, va_recv C.2.2.2.2.2.2.2.2.2.1.nil (P.one he) hc (q0 := 0) rfl, fun U hU hW => ⟨rfl, by rw [hU]; exact P, C.2.2.2.2.2.2.2.2.2.1.moved hW.alike, C.2.2.2.2.2.2.2.2.2.2.1.warm hW⟩⟩ rfl (by rw [List.length_map]; exact hn) g1.1 (by show (av.reverse ++ .ref q :: st).map (aw_v b) = _; rw [List.map_append, List.map_reverse]; rfl) (by show 2 * 0 + _ ≤ _; rw [aw_cats]; omega) hd ⟨by rw [hRc]; exact hf.1, by rw [hRs]; exact hf.2⟩) C S P hL kk
theorem aw_callI {y : MethodName} {cy : ByteArray} {nLy d' md' mc' ms' index n : Nat} {av : List Value} {Q' : Option Value → aw_H → Prop} {q : Nat} (hd : decode cc pc = .ok (.invokespecial index, 3)) (hp : pc + 3 = pc') (X : aw_wI own index y cy nLy n) (hM : AM y cy nLy none d' md' mc' ms' (.ref q :: av) h Q') (hmd : md' = 0 ∨ md' = md) (hn : av.length = n) (hR : d' + 1 ≤ d) (hf : kc + mc' ≤ mc ∧ kn + ms' ≤ ms) (hst : (st.map fun v => v.category).sum ≤ 8) (kk : ∀ (v : Option Value) (h' : aw_H), Q' v h' → AW own nm cc nL ret d md mc ms Q pc' L (v.toList ++ st) h' (kc + mc') (kn + ms')) : AW own nm cc nL ret d md mc ms Q pc L (av.reverse ++ .ref q :: st) h kc kn := by
  subst hp
  intro p l e R s m args below meth c D dA b lim gr H locs ls C S P hL
  obtain ⟨hcw, hini, hlk, hins, hy1, hy, hnl⟩ := X
  have hts := C.2.2.2.2.1
  obtain ⟨hfr, hlo, hRc, hRs⟩ := C.2.2.2.2.2.2.2.2.1
  obtain ⟨lv, g1, g2⟩ := id hL
  refine aw_back (va_runI (g := F0 m pc ls ((av.reverse ++ .ref q :: st).map (aw_v b))) (b := b + q) (As := av.map (aw_v b)) (Ts := wsAll) ⟨C.1, C.2.1, C.2.2.1, C.2.2.2.1, hts⟩ (hM l D dA b lim gr (aw_md_use hmd C.2.2.2.2.2.2.2.2.2.2.2)) ⟨callB_of n hts (aw_goodC hcw) rfl rfl rfl (hts _ hini) (hts _ hlk) hy ⟨by show d' + 1 ≤ _; omega, by show 8 + (nLy + 11) + 40 * d' ≤ _; omega⟩, hy1, hts _ hins⟩ ⟨aw_blind, fun U hU hW => ⟨rfl, by rw [hU]; exact P, C.2.2.2.2.2.2.2.2.2.1.moved hW.alike, C.2.2.2.2.2.2.2.2.2.2.1.warm hW⟩⟩ rfl (by rw [List.length_map]; exact hn) g1.1 (by show (av.reverse ++ .ref q :: st).map (aw_v b) = _; rw [List.map_append, List.map_reverse]; rfl) (by show 2 * 0 + _ ≤ _; rw [aw_cats]; omega) hd ⟨by rw [hRc]; exact hf.1, by rw [hRs]; exact hf.2⟩) C S P hL kk
def aw_is (v0 : Option Value) (h1 : aw_H) : Option Value → aw_H → Prop := fun v h => v = v0 ∧ h = h1
theorem aw_callSv {y : MethodName} {cy : ByteArray} {nLy d' md' index n : Nat} {av : List Value} {v : Value} {h1 : aw_H} {rt : Option FieldType} (hd : decode cc pc = .ok (.invokestatic index, 3)) (hp : pc + 3 = pc') (X : aw_wS own index y cy nLy rt n) (hM : AM y cy nLy rt d' md' 0 0 (av) h (aw_is (some v) h1)) (hmd : md' = 0 ∨ md' = md) (hn : av.length = n) (hR : d' + 1 ≤ d) (hst : (st.map fun v => v.category).sum ≤ 8) (hkc : kc ≤ mc ∧ kn ≤ ms) (kk : AW own nm cc nL ret d md mc ms Q pc' L (v :: st) h1 kc kn) : AW own nm cc nL ret d md mc ms Q pc L (av.reverse ++ st) h kc kn := by
  refine aw_callS hd hp X hM hmd hn hR hkc hst ?_
  rintro _ _ ⟨rfl, rfl⟩
  exact kk
theorem aw_callSn {y : MethodName} {cy : ByteArray} {nLy d' md' index n : Nat} {av : List Value}  {h1 : aw_H} {rt : Option FieldType} (hd : decode cc pc = .ok (.invokestatic index, 3)) (hp : pc + 3 = pc') (X : aw_wS own index y cy nLy rt n) (hM : AM y cy nLy rt d' md' 0 0 (av) h (aw_is (none) h1)) (hmd : md' = 0 ∨ md' = md) (hn : av.length = n) (hR : d' + 1 ≤ d) (hst : (st.map fun v => v.category).sum ≤ 8) (hkc : kc ≤ mc ∧ kn ≤ ms) (kk : AW own nm cc nL ret d md mc ms Q pc' L st h1 kc kn) : AW own nm cc nL ret d md mc ms Q pc L (av.reverse ++ st) h kc kn := by
  refine aw_callS hd hp X hM hmd hn hR hkc hst ?_
  rintro _ _ ⟨rfl, rfl⟩
  exact kk
theorem aw_callNv {y : MethodName} {cy : ByteArray} {nLy d' md' index n : Nat} {av : List Value} {v : Value} {h1 : aw_H} {rt : Option FieldType} (hd : decode cc pc = .ok (.invokestatic index, 3)) (hp : pc + 3 = pc') {host : String} (X : aw_wN own index y cy nLy rt n host) (hM : AM y cy nLy rt d' md' 0 0 (av) h (aw_is (some v) h1)) (hmd : md' = 0 ∨ md' = md) (hn : av.length = n) (hR : d' + 1 ≤ d) (hst : (st.map fun v => v.category).sum ≤ 8) (hkc : kc ≤ mc ∧ kn ≤ ms) (kk : AW own nm cc nL ret d md mc ms Q pc' L (v :: st) h1 kc kn) : AW own nm cc nL ret d md mc ms Q pc L (av.reverse ++ st) h kc kn := by
  refine aw_callN hd hp X hM hmd hn hR hkc hst ?_
  rintro _ _ ⟨rfl, rfl⟩
  exact kk
theorem aw_callNn {y : MethodName} {cy : ByteArray} {nLy d' md' index n : Nat} {av : List Value}  {h1 : aw_H} {rt : Option FieldType} (hd : decode cc pc = .ok (.invokestatic index, 3)) (hp : pc + 3 = pc') {host : String} (X : aw_wN own index y cy nLy rt n host) (hM : AM y cy nLy rt d' md' 0 0 (av) h (aw_is (none) h1)) (hmd : md' = 0 ∨ md' = md) (hn : av.length = n) (hR : d' + 1 ≤ d) (hst : (st.map fun v => v.category).sum ≤ 8) (hkc : kc ≤ mc ∧ kn ≤ ms) (kk : AW own nm cc nL ret d md mc ms Q pc' L st h1 kc kn) : AW own nm cc nL ret d md mc ms Q pc L (av.reverse ++ st) h kc kn := by
  refine aw_callN hd hp X hM hmd hn hR hkc hst ?_
  rintro _ _ ⟨rfl, rfl⟩
  exact kk
theorem aw_callVv {y : MethodName} {cy : ByteArray} {nLy d' md' index n : Nat} {av : List Value} {v : Value} {h1 : aw_H} {rt : Option FieldType} (hd : decode cc pc = .ok (.invokevirtual index, 3)) (hp : pc + 3 = pc') {CC : String} {T : u_T} {N ci q : Nat} {fs : List Value} (X : aw_wV own index y cy nLy rt n ci CC T N) (he : h[q]? = some (.inr (ci, fs))) (hM : AM y cy nLy rt d' md' 0 0 (.ref q :: av) h (aw_is (some v) h1)) (hmd : md' = 0 ∨ md' = md) (hn : av.length = n) (hR : d' + 1 ≤ d) (hst : (st.map fun v => v.category).sum ≤ 8) (hkc : kc ≤ mc ∧ kn ≤ ms) (kk : AW own nm cc nL ret d md mc ms Q pc' L (v :: st) h1 kc kn) : AW own nm cc nL ret d md mc ms Q pc L (av.reverse ++ .ref q :: st) h kc kn := by
  refine aw_callV hd hp X he hM hmd hn hR hkc hst ?_
  rintro _ _ ⟨rfl, rfl⟩
  exact kk
theorem aw_callVn {y : MethodName} {cy : ByteArray} {nLy d' md' index n : Nat} {av : List Value}  {h1 : aw_H} {rt : Option FieldType} (hd : decode cc pc = .ok (.invokevirtual index, 3)) (hp : pc + 3 = pc') {CC : String} {T : u_T} {N ci q : Nat} {fs : List Value} (X : aw_wV own index y cy nLy rt n ci CC T N) (he : h[q]? = some (.inr (ci, fs))) (hM : AM y cy nLy rt d' md' 0 0 (.ref q :: av) h (aw_is (none) h1)) (hmd : md' = 0 ∨ md' = md) (hn : av.length = n) (hR : d' + 1 ≤ d) (hst : (st.map fun v => v.category).sum ≤ 8) (hkc : kc ≤ mc ∧ kn ≤ ms) (kk : AW own nm cc nL ret d md mc ms Q pc' L st h1 kc kn) : AW own nm cc nL ret d md mc ms Q pc L (av.reverse ++ .ref q :: st) h kc kn := by
  refine aw_callV hd hp X he hM hmd hn hR hkc hst ?_
  rintro _ _ ⟨rfl, rfl⟩
  exact kk
theorem aw_mmax {index : Nat} {x y : Int32} (hd : decode cc pc = .ok (.invokestatic index, 3)) (hp : pc + 3 = pc') (X : Cond.methodLink own index Lib.Math.max.name ∈ wsAll ∧ Cond.static Lib.Math.max.name ∈ wsAll ∧ Cond.initialized "java/lang/Math" ∈ wsAll ∧ Cond.code Lib.Math.max.name Lib.Math.max.code 2 (some .int) ∈ wsAll) (hfr : 1 ≤ d) (hst : (st.map fun v => v.category).sum ≤ 8) (hc : kc ≤ mc) (hn : kn ≤ ms) (k : AW own nm cc nL ret d md mc ms Q pc' L (.int (if x < y then y else x) :: st) h kc kn) : AW own nm cc nL ret d md mc ms Q pc L (.int y :: .int x :: st) h kc kn := by
  subst hp
  intro p l e R s m args below meth c D dA b lim gr H locs ls C S P hL
  obtain ⟨hlk, hsta, hini, hcw⟩ := X
  have hts := C.2.2.2.2.1
  obtain ⟨hfr', hlo, hRc, hRs⟩ := C.2.2.2.2.2.2.2.2.1
  obtain ⟨lv, g1, g2⟩ := id hL
  exact va_mmax C.1 C.2.1 (C.2.2.1.trans g1.1.symm) C.2.2.2.1 (hts _ hlk) (hts _ hsta) (hts _ hini) (hts _ hcw) (Nat.le_trans hfr hfr') (by rw [aw_cats]; omega) (by rw [hRc]; exact hc) (by rw [hRs]; exact hn) hd (k p l e R s m args below meth c D dA b lim gr H locs ls C S P hL)
theorem aw_mmin {index : Nat} {x y : Int32} (hd : decode cc pc = .ok (.invokestatic index, 3)) (hp : pc + 3 = pc') (X : Cond.methodLink own index Lib.Math.min.name ∈ wsAll ∧ Cond.static Lib.Math.min.name ∈ wsAll ∧ Cond.initialized "java/lang/Math" ∈ wsAll ∧ Cond.code Lib.Math.min.name Lib.Math.min.code 2 (some .int) ∈ wsAll) (hfr : 1 ≤ d) (hst : (st.map fun v => v.category).sum ≤ 8) (hc : kc ≤ mc) (hn : kn ≤ ms) (k : AW own nm cc nL ret d md mc ms Q pc' L (.int (if y < x then y else x) :: st) h kc kn) : AW own nm cc nL ret d md mc ms Q pc L (.int y :: .int x :: st) h kc kn := by
  subst hp
  intro p l e R s m args below meth c D dA b lim gr H locs ls C S P hL
  obtain ⟨hlk, hsta, hini, hcw⟩ := X
  have hts := C.2.2.2.2.1
  obtain ⟨hfr', hlo, hRc, hRs⟩ := C.2.2.2.2.2.2.2.2.1
  obtain ⟨lv, g1, g2⟩ := id hL
  exact va_mmin C.1 C.2.1 (C.2.2.1.trans g1.1.symm) C.2.2.2.1 (hts _ hlk) (hts _ hsta) (hts _ hini) (hts _ hcw) (Nat.le_trans hfr hfr') (by rw [aw_cats]; omega) (by rw [hRc]; exact hc) (by rw [hRs]; exact hn) hd (k p l e R s m args below meth c D dA b lim gr H locs ls C S P hL)
theorem aw_mmaxl {index : Nat} {x y : Int64} (hd : decode cc pc = .ok (.invokestatic index, 3)) (hp : pc + 3 = pc') (X : Cond.methodLink own index Lib.MathLoose.max_long.x ∈ wsAll ∧ Cond.static Lib.MathLoose.max_long.x ∈ wsAll ∧ Cond.initialized "java/lang/Math" ∈ wsAll ∧ Cond.code Lib.MathLoose.max_long.x Lib.MathLoose.max_long.code 4 (some .long) ∈ wsAll) (hfr : 1 ≤ d) (hst : (st.map fun v => v.category).sum ≤ 8) (hc : kc ≤ mc) (hn : kn ≤ ms) (k : AW own nm cc nL ret d md mc ms Q pc' L (.long (if y < x then x else y) :: st) h kc kn) : AW own nm cc nL ret d md mc ms Q pc L (.long y :: .long x :: st) h kc kn := by
  subst hp
  intro p l e R s m args below meth c D dA b lim gr H locs ls C S P hL
  obtain ⟨hlk, hsta, hini, hcw⟩ := X
  have hts := C.2.2.2.2.1
  obtain ⟨hfr', hlo, hRc, hRs⟩ := C.2.2.2.2.2.2.2.2.1
  obtain ⟨lv, g1, g2⟩ := id hL
  exact va_mmax_long C.1 C.2.1 (C.2.2.1.trans g1.1.symm) C.2.2.2.1 (hts _ hlk) (hts _ hsta) (hts _ hini) (hts _ hcw) (Nat.le_trans hfr hfr') (by rw [aw_cats]; omega) (by rw [hRc]; exact hc) (by rw [hRs]; exact hn) hd (k p l e R s m args below meth c D dA b lim gr H locs ls C S P hL)
theorem aw_mabsl {index : Nat} {x : Int64} (hd : decode cc pc = .ok (.invokestatic index, 3)) (hp : pc + 3 = pc') (X : Cond.methodLink own index Lib.MathLoose.abs_long.x ∈ wsAll ∧ Cond.static Lib.MathLoose.abs_long.x ∈ wsAll ∧ Cond.initialized "java/lang/Math" ∈ wsAll ∧ Cond.code Lib.MathLoose.abs_long.x Lib.MathLoose.abs_long.code 2 (some .long) ∈ wsAll) (hfr : 1 ≤ d) (hst : (st.map fun v => v.category).sum ≤ 8) (hc : kc ≤ mc) (hn : kn ≤ ms) (k : AW own nm cc nL ret d md mc ms Q pc' L (.long (if 0 < x then x else -x) :: st) h kc kn) : AW own nm cc nL ret d md mc ms Q pc L (.long x :: st) h kc kn := by
  subst hp
  intro p l e R s m args below meth c D dA b lim gr H locs ls C S P hL
  obtain ⟨hlk, hsta, hini, hcw⟩ := X
  have hts := C.2.2.2.2.1
  obtain ⟨hfr', hlo, hRc, hRs⟩ := C.2.2.2.2.2.2.2.2.1
  obtain ⟨lv, g1, g2⟩ := id hL
  exact va_mabs_long C.1 C.2.1 (C.2.2.1.trans g1.1.symm) C.2.2.2.1 (hts _ hlk) (hts _ hsta) (hts _ hini) (hts _ hcw) (Nat.le_trans hfr hfr') (by rw [aw_cats]; omega) (by rw [hRc]; exact hc) (by rw [hRs]; exact hn) hd (k p l e R s m args below meth c D dA b lim gr H locs ls C S P hL)
def aw_ws (b : Nat) (dA : Nat → ClassId) (h : aw_H) : va_W := h.mapIdx (fun k e => (b + k, aw_e b dA e))
theorem aw_ws_at (b : Nat) (dA : Nat → ClassId) (h : aw_H) (k : Nat) : (aw_ws b dA h)[k]? = (h[k]?).map (fun e => (b + k, aw_e b dA e)) := by
  unfold aw_ws
  rw [List.getElem?_mapIdx]
theorem aw_ws_P {D : va_G} {dA : Nat → ClassId} {b lim : Nat} {gr : Bool} {h : aw_H} {H : Heap} (hP : aw_P D dA b lim gr h H) : va_P D vwCl (aw_ws b dA h) H := by
  intro k q hq
  rw [aw_ws_at] at hq
  cases he : h[k]? with
  | none => rw [he] at hq; cases hq
  | some e => rw [he] at hq; cases hq; exact hP.2.2 k e he
theorem aw_ws_D {D : va_G} {dA : Nat → ClassId} {b lim : Nat} {gr : Bool} {h : aw_H} {H : Heap} (hP : aw_P D dA b lim gr h H) : va_D (aw_A b lim gr) (aw_ws b dA h) := by
  refine ⟨fun i j p q hi hj e => ?_, fun k q hq => ?_⟩
  · rw [aw_ws_at] at hi hj
    cases h1 : h[i]? with
    | none => rw [h1] at hi; cases hi
    | some e1 =>
      cases h2 : h[j]? with
      | none => rw [h2] at hj; cases hj
      | some e2 =>
        rw [h1] at hi; rw [h2] at hj
        cases hi; cases hj
        simp only at e
        omega
  · rw [aw_ws_at] at hq
    cases he : h[k]? with
    | none => rw [he] at hq; cases hq
    | some e => rw [he] at hq; cases hq; exact hP.inA (List.getElem?_eq_some_iff.mp he).1
theorem aw_ws_set (b : Nat) (dA : Nat → ClassId) (h : aw_H) (k : Nat) (e : aw_E) : (aw_ws b dA h).set k (b + k, aw_e b dA e) = aw_ws b dA (h.set k e) := by
  apply List.ext_getElem?
  intro j
  rw [aw_ws_at, List.getElem?_set, List.getElem?_set]
  have hl : (aw_ws b dA h).length = h.length := by unfold aw_ws; rw [List.length_mapIdx]
  by_cases hj : k = j
  · subst hj
    rw [if_pos rfl, if_pos rfl, hl]
    by_cases hk : k < h.length
    · rw [if_pos hk, if_pos hk]; rfl
    · rw [if_neg hk, if_neg hk]; rfl
  · rw [if_neg hj, if_neg hj, aw_ws_at]
theorem aw_ws_of {D : va_G} {dA : Nat → ClassId} {b lim : Nat} {h : aw_H} {H : Heap} (hl : h.length ≤ lim) (hP : va_P D vwCl (aw_ws b dA h) H) : aw_P D dA b lim false h H := by
  refine ⟨(fun g => by cases g), fun _ => hl, fun k e he => ?_⟩
  have := hP k (b + k, aw_e b dA e) (by rw [aw_ws_at, he]; rfl)
  exact this
def aw_wY (own : String) (index : Nat) : Prop := Cond.methodLink own index arraycopyName ∈ wsAll ∧ Cond.native arraycopyName ∈ wsAll ∧ Cond.static arraycopyName ∈ wsAll ∧ Cond.initialized "java/lang/System" ∈ wsAll
theorem aw_native {b : Nat} {st : List Value} {d X : Nat} (hst : (st.map fun v => v.category).sum ≤ 8) (hlo : 40 * d ≤ X) (hd : 1 ≤ d) : ((st.map (aw_v b)).map fun v => v.category).sum + (nativeFrameWords "java/lang/System" "arraycopy" 5 + 11) ≤ X := by
  rw [aw_cats]
  have h : nativeFrameWords "java/lang/System" "arraycopy" 5 ≤ 20 := by decide +kernel
  omega
def aw_cg (sp dp ln : Int32) (n0 n1 : Nat) : Prop := ¬ sp < 0 ∧ ¬ dp < 0 ∧ ¬ ln < 0 ∧ sp.toNatClampNeg + ln.toNatClampNeg ≤ n0 ∧ dp.toNatClampNeg + ln.toNatClampNeg ≤ n1
theorem aw_copyl {index q0 q1 t n0 n1 : Nat} {f g : Nat → Int64} {sp dp ln : Int32} (hmd : md = 2) (hd : decode cc pc = .ok (.invokestatic index, 3)) (hp : pc + 3 = pc') (X : aw_wY own index) (ht : tyTab[t]? = some .long) (he0 : h[q0]? = some (.inl (t, n0, .inr (.inl f)))) (he1 : h[q1]? = some (.inl (t, n1, .inr (.inl g)))) (hg : aw_cg sp dp ln n0 n1) (hfr : 1 ≤ d) (hst : (st.map fun v => v.category).sum ≤ 8) (hh : h.set q1 (.inl (t, n1, .inr (.inl (va_cpy f g sp.toNatClampNeg dp.toNatClampNeg ln.toNatClampNeg)))) = h') (kk : AW own nm cc nL ret d md mc ms Q pc' L st h' kc kn) : AW own nm cc nL ret d md mc ms Q pc L (.int ln :: .int dp :: .ref q1 :: .int sp :: .ref q0 :: st) h kc kn := by
  subst hp hh
  intro p l e R s m args below meth c D dA b lim gr H locs ls C S P hL
  obtain ⟨hlk, hnat, hsta, hini⟩ := X
  obtain ⟨h1, h2, h3, h4, h5⟩ := hg
  have hts := C.2.2.2.2.1
  obtain ⟨hfr', hlo, hRc, hRs⟩ := C.2.2.2.2.2.2.2.2.1
  obtain ⟨lv, g1, g2⟩ := id hL
  have hgr : gr = false := C.2.2.2.2.2.2.2.2.2.2.2.2 hmd
  subst hgr
  have hq1 : q1 < h.length := (List.getElem?_eq_some_iff.mp he1).1
  refine va_copyl (D := D) (cl := vwCl) (tys := [(dA t, FieldType.long)]) (ws := aw_ws b dA h) (A := aw_A b lim false) (H0 := s.heap) (ty := .long) C.1 C.2.1 (C.2.2.1.trans g1.1.symm) C.2.2.2.1 (hts _ hlk) (hts _ hnat) (hts _ hsta) (hts _ hini) (C.2.2.2.2.2.2.2.2.2.1.one ht) (aw_ws_P P) (aw_ws_D P) S q0 q1 0 0 (a0 := b + q0) (a := b + q1) (by rw [aw_ws_at, he0]; rfl) (by rw [aw_ws_at, he1]; rfl) rfl rfl rfl h1 h2 h3 h4 h5 (fun _ _ => rfl) (Nat.le_trans hfr hfr') (aw_native hst hlo (Nat.le_trans hfr (Nat.le_refl d))) hd ?_
  intro H1 locs1 hP1 hD1 hS1
  have hP2 : va_P D vwCl (aw_ws b dA (h.set q1 (.inl (t, n1, .inr (.inl (va_cpy f g sp.toNatClampNeg dp.toNatClampNeg ln.toNatClampNeg)))))) H1 := by
    rw [← aw_ws_set]; exact hP1
  exact kk p l e R s m args below meth c D dA b lim false H1 locs1 ls C hS1 (aw_ws_of (by rw [List.length_set]; exact P.2.1 rfl) hP2) hL
end AWR
/- a method's start -/
def aw_al : List Value → List (Option Value)
  | [] => []
  | v :: vs => if v.category = 2 then some v :: none :: aw_al vs else some v :: aw_al vs
def aw_in (av : List Value) (nL : Nat) : List (Option Value) := aw_al av ++ List.replicate (nL - (aw_al av).length) none
theorem aw_al_at (b : Nat) : ∀ (av : List Value) (o i : Nat) (v : Value), (aw_al av)[i]? = some (some v) → (o + i, aw_v b v) ∈ lv_args o (av.map (aw_v b))
  | [], o, i, v, h => by simp [aw_al] at h
  | u :: us, o, i, v, h => by
    by_cases hc : u.category = 2
    · simp only [aw_al, hc, if_true] at h
      simp only [List.map_cons, lv_args, aw_cat, hc, if_true]
      match i, h with
      | 0, h => cases h; exact List.mem_cons_self
      | 1, h => simp at h
      | i + 2, h =>
        have := aw_al_at b us (o + 2) i v (by simpa using h)
        rw [show o + (i + 2) = o + 2 + i by omega]
        exact List.mem_cons_of_mem _ this
    · simp only [aw_al, hc, if_false] at h
      simp only [List.map_cons, lv_args, aw_cat, hc, if_false]
      match i, h with
      | 0, h => cases h; exact List.mem_cons_self
      | i + 1, h =>
        have := aw_al_at b us (o + 1) i v (by simpa using h)
        rw [show o + (i + 1) = o + 1 + i by omega]
        exact List.mem_cons_of_mem _ this
theorem aw_sl (b : Nat) : ∀ av : List Value, (lg_sl (av.map (aw_v b))).length = (lg_sl av).length
  | [] => rfl
  | v :: vs => by
    have ih := aw_sl b vs
    simp only [lg_sl, List.map_cons, List.flatMap_cons, List.length_append, aw_cat] at ih ⊢
    rw [ih]
    by_cases hc : v.category = 2 <;> simp [hc]
theorem AM.of {y : MethodName} {cc : ByteArray} {nL : Nat} {ret : Option FieldType} {d md mc ms : Nat} {av : List Value} {h : aw_H} {Q : Option Value → aw_H → Prop} {L : List (Option Value)} {own nm : String} (ho : y.cls = own) (hnm : y.name = nm) (hy : plainName y.cls = true) (hlen : (lg_sl av).length ≤ nL) (hL : aw_in av nL = L) (k : AW own nm cc nL ret d md mc ms Q 0 L [] h 0 0) : AM y cc nL ret d md mc ms av h Q := by
  subst hL ho hnm
  intro l D dA b lim gr hmd
  refine Met.ofW (cc := cc) (maxL := nL) (ret := ret) hy rfl ?_
  intro p e s m args below meth c s₁ B hml hv
  obtain ⟨rfl, hP, hK, hN⟩ := hv
  have hts := atoms_spec (ws := Cond.code y cc nL ret :: wsAll) B.pre
  have hown : s.vm.findClass y.cls = some m.cls := findClass_of_methodNamed B.named
  rw [lg_entry_eq]
  have hl := lv_entry (av.map (aw_v b)) (n := nL) (by rw [aw_sl]; exact hlen)
  refine k p l e _ s m _ below meth c D dA b lim gr s.heap [] _ ⟨B.exec, B.bytes, hml, hown, fun w hw => hts w (List.mem_cons_of_mem _ hw), B.returns, B.notSynchronized, (name_of_methodNamed B.named B.method).1, ⟨Nat.le_refl _, Nat.le_refl _, rfl, rfl⟩, hK, hN, hmd⟩ va_S.rf hP ⟨_, hl, ?_⟩
  intro i v hi
  unfold aw_in at hi
  by_cases g : i < (aw_al av).length
  · rw [List.getElem?_append_left g] at hi
    have := aw_al_at b av 0 i v hi
    rwa [Nat.zero_add] at this
  · rw [List.getElem?_append_right (by omega), List.getElem?_replicate] at hi
    split at hi <;> cases hi
/- steps of the pure texts -/
theorem aw_ifp {α : Type} {c : Prop} {A B : Option α} {r : α} (hc : c) [Decidable c] (hf : (if c then A else B) = some r) : A = some r := by rwa [if_pos hc] at hf
theorem aw_ifn {α : Type} {c : Prop} {A B : Option α} {r : α} (hc : ¬ c) [Decidable c] (hf : (if c then A else B) = some r) : B = some r := by rwa [if_neg hc] at hf
theorem aw_gi {α : Type} {i : Int32} {n : Nat} {k : Option α} {r : α} (h : me_gi i n k = some r) : vp_in i n ∧ k = some r := by
  unfold me_gi at h
  by_cases q : i < 0 ∨ n ≤ i.toNatClampNeg
  · rw [if_pos q] at h; cases h
  · rw [if_neg q] at h; exact ⟨q, h⟩
theorem aw_gd {α β : Type} [DecidableEq β] {y z : β} {k : Option α} {r : α} (h : me_gd y z k = some r) : ¬ y = z ∧ k = some r := by
  unfold me_gd at h
  by_cases q : y = z
  · rw [if_pos q] at h; cases h
  · rw [if_neg q] at h; exact ⟨q, h⟩
theorem aw_gz {α : Type} {x : Int32} {k : Option α} {r : α} (h : me_gz x k = some r) : (narrow .boolean (.int x) = .int x ∧ fits .boolean (.int x) = true) ∧ k = some r := by
  unfold me_gz at h
  by_cases q : x = 0 ∨ x = 1
  · rw [if_pos q] at h
    refine ⟨?_, h⟩
    rcases q with q | q <;> subst q <;> exact ⟨rfl, rfl⟩
  · rw [if_neg q] at h; cases h
theorem aw_gc {α : Type} {sp dp ln : Int32} {n0 n1 : Nat} {k : Option α} {r : α} (h : me_gc sp dp ln n0 n1 k = some r) : aw_cg sp dp ln n0 n1 ∧ k = some r := by
  unfold me_gc at h
  by_cases q : ¬ sp < 0 ∧ ¬ dp < 0 ∧ ¬ ln < 0 ∧ sp.toNatClampNeg + ln.toNatClampNeg ≤ n0 ∧ dp.toNatClampNeg + ln.toNatClampNeg ≤ n1
  · rw [if_pos q] at h; exact ⟨q, h⟩
  · rw [if_neg q] at h; cases h
theorem aw_no {α : Type} {r : α} {P : Prop} (h : (none : Option α) = some r) : P := by cases h
theorem aw_bind {α β : Type} {o : Option α} {k : α → Option β} {r : β} (h : o.bind k = some r) : ∃ a, o = some a ∧ k a = some r := by
  cases o with
  | none => cases h
  | some a => exact ⟨a, rfl, h⟩
end
section
def hD (n : Nat) (μ : me_M) (sv : Value) : aw_H := [.inr (6, [.int (nI n), .ref 1, .ref 2, .ref 4, .ref 6, .ref 11, .ref 16, sv]), .inl (0, n, .inl (μ.1 1)), .inr (5, [.ref 3, .int (μ.1 301 0)]), .inl (1, 800, .inl (μ.1 3)), .inr (0, [.int (μ.1 500 0), .int (μ.1 501 0), .int (μ.1 502 0), .int (μ.1 503 0), .ref 5]), .inl (0, (n + 1), .inl (μ.1 5)), .inr (1, [.ref 1, .ref 4, .ref 2, .ref 10, .ref 7, .ref 8, .ref 9]), .inl (0, 13, .inl (μ.1 7)), .inl (0, 12, .inl (μ.1 8)), .inl (0, 12, .inl (μ.1 9)), .inl (0, n, .inl (μ.1 10)), .inr (3, [.ref 12, .ref 13, .ref 14, .ref 15, .int (nI n), .ref 4, .ref 2, .int (μ.1 1207 0), .int (μ.1 1208 0), .int (μ.1 1209 0), .int (μ.1 1210 0), .int (μ.1 1211 0), .int (μ.1 1212 0), .int (μ.1 1213 0)]), .inl (0, n, .inl (μ.1 12)), .inl (0, n, .inl (μ.1 13)), .inl (0, n, .inl (μ.1 14)), .inl (0, n, .inl (μ.1 15)), .inr (2, [.ref 17, .ref 12, .ref 18]), .inl (0, n, .inl (μ.1 17)), .inl (0, n, .inl (μ.1 18)), .inr (4, [.ref 20, .ref 21, .ref 23, .long (μ.2 2003 0), .ref 12, .ref 22, .int (μ.1 2006 0), .int (μ.1 2007 0)]), .inl (2, n, .inr (.inl (μ.2 20))), .inl (2, n, .inr (.inl (μ.2 21))), .inl (2, n, .inr (.inl (μ.2 22))), .inl (0, n, .inl (μ.1 23))]
def hC (n : Nat) (μ : me_M) : aw_H := hD n μ (.ref 19)
theorem hC_0 {n : Nat} {μ : me_M} : (hC n μ)[0]? = some (.inr (6, [.int (nI n), .ref 1, .ref 2, .ref 4, .ref 6, .ref 11, .ref 16, .ref 19])) := rfl
theorem hC_1 {n : Nat} {μ : me_M} : (hC n μ)[1]? = some (.inl (0, n, .inl (μ.1 1))) := rfl
theorem hC_2 {n : Nat} {μ : me_M} : (hC n μ)[2]? = some (.inr (5, [.ref 3, .int (μ.1 301 0)])) := rfl
theorem hC_3 {n : Nat} {μ : me_M} : (hC n μ)[3]? = some (.inl (1, 800, .inl (μ.1 3))) := rfl
theorem hC_4 {n : Nat} {μ : me_M} : (hC n μ)[4]? = some (.inr (0, [.int (μ.1 500 0), .int (μ.1 501 0), .int (μ.1 502 0), .int (μ.1 503 0), .ref 5])) := rfl
theorem hC_5 {n : Nat} {μ : me_M} : (hC n μ)[5]? = some (.inl (0, (n + 1), .inl (μ.1 5))) := rfl
theorem hC_6 {n : Nat} {μ : me_M} : (hC n μ)[6]? = some (.inr (1, [.ref 1, .ref 4, .ref 2, .ref 10, .ref 7, .ref 8, .ref 9])) := rfl
theorem hC_7 {n : Nat} {μ : me_M} : (hC n μ)[7]? = some (.inl (0, 13, .inl (μ.1 7))) := rfl
theorem hC_8 {n : Nat} {μ : me_M} : (hC n μ)[8]? = some (.inl (0, 12, .inl (μ.1 8))) := rfl
theorem hC_9 {n : Nat} {μ : me_M} : (hC n μ)[9]? = some (.inl (0, 12, .inl (μ.1 9))) := rfl
theorem hC_10 {n : Nat} {μ : me_M} : (hC n μ)[10]? = some (.inl (0, n, .inl (μ.1 10))) := rfl
theorem hC_11 {n : Nat} {μ : me_M} : (hC n μ)[11]? = some (.inr (3, [.ref 12, .ref 13, .ref 14, .ref 15, .int (nI n), .ref 4, .ref 2, .int (μ.1 1207 0), .int (μ.1 1208 0), .int (μ.1 1209 0), .int (μ.1 1210 0), .int (μ.1 1211 0), .int (μ.1 1212 0), .int (μ.1 1213 0)])) := rfl
theorem hC_12 {n : Nat} {μ : me_M} : (hC n μ)[12]? = some (.inl (0, n, .inl (μ.1 12))) := rfl
theorem hC_13 {n : Nat} {μ : me_M} : (hC n μ)[13]? = some (.inl (0, n, .inl (μ.1 13))) := rfl
theorem hC_14 {n : Nat} {μ : me_M} : (hC n μ)[14]? = some (.inl (0, n, .inl (μ.1 14))) := rfl
theorem hC_15 {n : Nat} {μ : me_M} : (hC n μ)[15]? = some (.inl (0, n, .inl (μ.1 15))) := rfl
theorem hC_16 {n : Nat} {μ : me_M} : (hC n μ)[16]? = some (.inr (2, [.ref 17, .ref 12, .ref 18])) := rfl
theorem hC_17 {n : Nat} {μ : me_M} : (hC n μ)[17]? = some (.inl (0, n, .inl (μ.1 17))) := rfl
theorem hC_18 {n : Nat} {μ : me_M} : (hC n μ)[18]? = some (.inl (0, n, .inl (μ.1 18))) := rfl
theorem hC_19 {n : Nat} {μ : me_M} : (hC n μ)[19]? = some (.inr (4, [.ref 20, .ref 21, .ref 23, .long (μ.2 2003 0), .ref 12, .ref 22, .int (μ.1 2006 0), .int (μ.1 2007 0)])) := rfl
theorem hC_20 {n : Nat} {μ : me_M} : (hC n μ)[20]? = some (.inl (2, n, .inr (.inl (μ.2 20)))) := rfl
theorem hC_21 {n : Nat} {μ : me_M} : (hC n μ)[21]? = some (.inl (2, n, .inr (.inl (μ.2 21)))) := rfl
theorem hC_22 {n : Nat} {μ : me_M} : (hC n μ)[22]? = some (.inl (2, n, .inr (.inl (μ.2 22)))) := rfl
theorem hC_23 {n : Nat} {μ : me_M} : (hC n μ)[23]? = some (.inl (0, n, .inl (μ.1 23))) := rfl
theorem hD_0 {n : Nat} {μ : me_M} {sv : Value} : (hD n μ sv)[0]? = some (.inr (6, [.int (nI n), .ref 1, .ref 2, .ref 4, .ref 6, .ref 11, .ref 16, sv])) := rfl
theorem hD_1 {n : Nat} {μ : me_M} {sv : Value} : (hD n μ sv)[1]? = some (.inl (0, n, .inl (μ.1 1))) := rfl
theorem hD_2 {n : Nat} {μ : me_M} {sv : Value} : (hD n μ sv)[2]? = some (.inr (5, [.ref 3, .int (μ.1 301 0)])) := rfl
theorem hD_3 {n : Nat} {μ : me_M} {sv : Value} : (hD n μ sv)[3]? = some (.inl (1, 800, .inl (μ.1 3))) := rfl
theorem hD_4 {n : Nat} {μ : me_M} {sv : Value} : (hD n μ sv)[4]? = some (.inr (0, [.int (μ.1 500 0), .int (μ.1 501 0), .int (μ.1 502 0), .int (μ.1 503 0), .ref 5])) := rfl
theorem hD_5 {n : Nat} {μ : me_M} {sv : Value} : (hD n μ sv)[5]? = some (.inl (0, (n + 1), .inl (μ.1 5))) := rfl
theorem hD_6 {n : Nat} {μ : me_M} {sv : Value} : (hD n μ sv)[6]? = some (.inr (1, [.ref 1, .ref 4, .ref 2, .ref 10, .ref 7, .ref 8, .ref 9])) := rfl
theorem hD_7 {n : Nat} {μ : me_M} {sv : Value} : (hD n μ sv)[7]? = some (.inl (0, 13, .inl (μ.1 7))) := rfl
theorem hD_8 {n : Nat} {μ : me_M} {sv : Value} : (hD n μ sv)[8]? = some (.inl (0, 12, .inl (μ.1 8))) := rfl
theorem hD_9 {n : Nat} {μ : me_M} {sv : Value} : (hD n μ sv)[9]? = some (.inl (0, 12, .inl (μ.1 9))) := rfl
theorem hD_10 {n : Nat} {μ : me_M} {sv : Value} : (hD n μ sv)[10]? = some (.inl (0, n, .inl (μ.1 10))) := rfl
theorem hD_11 {n : Nat} {μ : me_M} {sv : Value} : (hD n μ sv)[11]? = some (.inr (3, [.ref 12, .ref 13, .ref 14, .ref 15, .int (nI n), .ref 4, .ref 2, .int (μ.1 1207 0), .int (μ.1 1208 0), .int (μ.1 1209 0), .int (μ.1 1210 0), .int (μ.1 1211 0), .int (μ.1 1212 0), .int (μ.1 1213 0)])) := rfl
theorem hD_12 {n : Nat} {μ : me_M} {sv : Value} : (hD n μ sv)[12]? = some (.inl (0, n, .inl (μ.1 12))) := rfl
theorem hD_13 {n : Nat} {μ : me_M} {sv : Value} : (hD n μ sv)[13]? = some (.inl (0, n, .inl (μ.1 13))) := rfl
theorem hD_14 {n : Nat} {μ : me_M} {sv : Value} : (hD n μ sv)[14]? = some (.inl (0, n, .inl (μ.1 14))) := rfl
theorem hD_15 {n : Nat} {μ : me_M} {sv : Value} : (hD n μ sv)[15]? = some (.inl (0, n, .inl (μ.1 15))) := rfl
theorem hD_16 {n : Nat} {μ : me_M} {sv : Value} : (hD n μ sv)[16]? = some (.inr (2, [.ref 17, .ref 12, .ref 18])) := rfl
theorem hD_17 {n : Nat} {μ : me_M} {sv : Value} : (hD n μ sv)[17]? = some (.inl (0, n, .inl (μ.1 17))) := rfl
theorem hD_18 {n : Nat} {μ : me_M} {sv : Value} : (hD n μ sv)[18]? = some (.inl (0, n, .inl (μ.1 18))) := rfl
theorem hD_19 {n : Nat} {μ : me_M} {sv : Value} : (hD n μ sv)[19]? = some (.inr (4, [.ref 20, .ref 21, .ref 23, .long (μ.2 2003 0), .ref 12, .ref 22, .int (μ.1 2006 0), .int (μ.1 2007 0)])) := rfl
theorem hD_20 {n : Nat} {μ : me_M} {sv : Value} : (hD n μ sv)[20]? = some (.inl (2, n, .inr (.inl (μ.2 20)))) := rfl
theorem hD_21 {n : Nat} {μ : me_M} {sv : Value} : (hD n μ sv)[21]? = some (.inl (2, n, .inr (.inl (μ.2 21)))) := rfl
theorem hD_22 {n : Nat} {μ : me_M} {sv : Value} : (hD n μ sv)[22]? = some (.inl (2, n, .inr (.inl (μ.2 22)))) := rfl
theorem hD_23 {n : Nat} {μ : me_M} {sv : Value} : (hD n μ sv)[23]? = some (.inl (0, n, .inl (μ.1 23))) := rfl
def hM (μ : me_M) : aw_H := [.inr (7, [.int (μ.1 100 0), .ref 1, .ref 2, .int (μ.1 103 0), .ref 3, .int (μ.1 105 0), .int (μ.1 106 0), .int (μ.1 107 0), .int (μ.1 108 0), .ref 4, .ref 5, .int (μ.1 111 0), .int (μ.1 112 0), .int (μ.1 113 0), .int (μ.1 114 0), .ref 6, .ref 7, .ref 8, .ref 9, .ref 10, .int (μ.1 120 0), .int (μ.1 121 0), .ref 11, .ref 12, .ref 13, .long (μ.2 125 0), .ref 14, .ref 15, .int (μ.1 128 0)]), .inl (0, 12, .inl (μ.1 1)), .inl (0, 2048, .inl (μ.1 2)), .inl (0, 13, .inl (μ.1 3)), .inl (0, 12, .inl (μ.1 4)), .inl (0, 13, .inl (μ.1 5)), .inl (0, 12, .inl (μ.1 6)), .inl (0, 12, .inl (μ.1 7)), .inl (0, 12, .inl (μ.1 8)), .inl (0, 12, .inl (μ.1 9)), .inl (0, 12, .inl (μ.1 10)), .inl (2, 12, .inr (.inl (μ.2 11))), .inl (2, 12, .inr (.inl (μ.2 12))), .inl (2, 12, .inr (.inl (μ.2 13))), .inl (0, 12, .inl (μ.1 14)), .inl (0, 12, .inl (μ.1 15))]
theorem hM_0 {μ : me_M} : (hM  μ)[0]? = some (.inr (7, [.int (μ.1 100 0), .ref 1, .ref 2, .int (μ.1 103 0), .ref 3, .int (μ.1 105 0), .int (μ.1 106 0), .int (μ.1 107 0), .int (μ.1 108 0), .ref 4, .ref 5, .int (μ.1 111 0), .int (μ.1 112 0), .int (μ.1 113 0), .int (μ.1 114 0), .ref 6, .ref 7, .ref 8, .ref 9, .ref 10, .int (μ.1 120 0), .int (μ.1 121 0), .ref 11, .ref 12, .ref 13, .long (μ.2 125 0), .ref 14, .ref 15, .int (μ.1 128 0)])) := rfl
theorem hM_1 {μ : me_M} : (hM  μ)[1]? = some (.inl (0, 12, .inl (μ.1 1))) := rfl
theorem hM_2 {μ : me_M} : (hM  μ)[2]? = some (.inl (0, 2048, .inl (μ.1 2))) := rfl
theorem hM_3 {μ : me_M} : (hM  μ)[3]? = some (.inl (0, 13, .inl (μ.1 3))) := rfl
theorem hM_4 {μ : me_M} : (hM  μ)[4]? = some (.inl (0, 12, .inl (μ.1 4))) := rfl
theorem hM_5 {μ : me_M} : (hM  μ)[5]? = some (.inl (0, 13, .inl (μ.1 5))) := rfl
theorem hM_6 {μ : me_M} : (hM  μ)[6]? = some (.inl (0, 12, .inl (μ.1 6))) := rfl
theorem hM_7 {μ : me_M} : (hM  μ)[7]? = some (.inl (0, 12, .inl (μ.1 7))) := rfl
theorem hM_8 {μ : me_M} : (hM  μ)[8]? = some (.inl (0, 12, .inl (μ.1 8))) := rfl
theorem hM_9 {μ : me_M} : (hM  μ)[9]? = some (.inl (0, 12, .inl (μ.1 9))) := rfl
theorem hM_10 {μ : me_M} : (hM  μ)[10]? = some (.inl (0, 12, .inl (μ.1 10))) := rfl
theorem hM_11 {μ : me_M} : (hM  μ)[11]? = some (.inl (2, 12, .inr (.inl (μ.2 11)))) := rfl
theorem hM_12 {μ : me_M} : (hM  μ)[12]? = some (.inl (2, 12, .inr (.inl (μ.2 12)))) := rfl
theorem hM_13 {μ : me_M} : (hM  μ)[13]? = some (.inl (2, 12, .inr (.inl (μ.2 13)))) := rfl
theorem hM_14 {μ : me_M} : (hM  μ)[14]? = some (.inl (0, 12, .inl (μ.1 14))) := rfl
theorem hM_15 {μ : me_M} : (hM  μ)[15]? = some (.inl (0, 12, .inl (μ.1 15))) := rfl
theorem kc_bi_m100 : (Int8.ofInt (-100)).toInt32 = (-100) := by decide
theorem kc_bi_m2 : (Int8.ofInt (-2)).toInt32 = (-2) := by decide
theorem kc_bi_6 : (Int8.ofInt 6).toInt32 = 6 := by decide
theorem kc_bi_7 : (Int8.ofInt 7).toInt32 = 7 := by decide
theorem kc_bi_8 : (Int8.ofInt 8).toInt32 = 8 := by decide
theorem kc_bi_9 : (Int8.ofInt 9).toInt32 = 9 := by decide
theorem kc_bi_10 : (Int8.ofInt 10).toInt32 = 10 := by decide
theorem kc_bi_12 : (Int8.ofInt 12).toInt32 = 12 := by decide
theorem kc_bi_16 : (Int8.ofInt 16).toInt32 = 16 := by decide
theorem kc_bi_20 : (Int8.ofInt 20).toInt32 = 20 := by decide
theorem kc_bi_30 : (Int8.ofInt 30).toInt32 = 30 := by decide
theorem kc_bi_63 : (Int8.ofInt 63).toInt32 = 63 := by decide
theorem kc_bi_100 : (Int8.ofInt 100).toInt32 = 100 := by decide
theorem kc_ic_m1 : Int32.ofInt (-1) = (-1) := by decide
theorem kc_ic_0 : Int32.ofInt 0 = 0 := by decide
theorem kc_ic_1 : Int32.ofInt 1 = 1 := by decide
theorem kc_ic_2 : Int32.ofInt 2 = 2 := by decide
theorem kc_ic_3 : Int32.ofInt 3 = 3 := by decide
theorem kc_ic_4 : Int32.ofInt 4 = 4 := by decide
theorem kc_ic_5 : Int32.ofInt 5 = 5 := by decide
theorem kc_lc_0 : Int64.ofNat ((0 : Fin 2) : Nat) = 0 := by decide
theorem kc_si_800 : (Int16.ofInt 800).toInt32 = 800 := by decide
theorem kc_si_1000 : (Int16.ofInt 1000).toInt32 = 1000 := by decide
end
section
set_option maxRecDepth 20000 in
theorem nm_Y : ∀ a, a < 5 → ∀ b, b < 5 → a ≠ b → (ft_Y a).2.1 ≠ (ft_Y b).2.1 := by decide +kernel
set_option maxRecDepth 20000 in
theorem tk_Y : ∀ k, k < 5 → parseFieldDescriptor (ft_Y k).2.2.1 = some (ty_Y k) := by decide +kernel
set_option maxRecDepth 20000 in
theorem tz_Y : aw_ty ft_Y 5 ty_Y := ⟨tk_Y, nm_Y⟩
set_option maxRecDepth 20000 in
theorem wu_Y : ∀ w ∈ u_ws "ArcTape$Layout" ft_Y 5, w ∈ wsAll := List.forall_mem_cons.mpr ⟨(wl_in 72 rfl rfl), List.forall_mem_cons.mpr ⟨(wl_in 74 rfl rfl), List.forall_mem_cons.mpr ⟨(wl_in 76 rfl rfl), List.forall_mem_cons.mpr ⟨(wl_in 78 rfl rfl), List.forall_mem_cons.mpr ⟨(wl_in 80 rfl rfl), fun _ h => absurd h List.not_mem_nil⟩⟩⟩⟩⟩
set_option maxRecDepth 20000 in
theorem nm_K : ∀ a, a < 7 → ∀ b, b < 7 → a ≠ b → (ft_K a).2.1 ≠ (ft_K b).2.1 := by decide +kernel
set_option maxRecDepth 20000 in
theorem tk_K : ∀ k, k < 7 → parseFieldDescriptor (ft_K k).2.2.1 = some (ty_K k) := by decide +kernel
set_option maxRecDepth 20000 in
theorem tz_K : aw_ty ft_K 7 ty_K := ⟨tk_K, nm_K⟩
set_option maxRecDepth 20000 in
theorem wu_K : ∀ w ∈ u_ws "ArcTape$Packer" ft_K 7, w ∈ wsAll := List.forall_mem_cons.mpr ⟨(wl_in 96 rfl rfl), List.forall_mem_cons.mpr ⟨(wl_in 98 rfl rfl), List.forall_mem_cons.mpr ⟨(wl_in 100 rfl rfl), List.forall_mem_cons.mpr ⟨(wl_in 102 rfl rfl), List.forall_mem_cons.mpr ⟨(wl_in 104 rfl rfl), List.forall_mem_cons.mpr ⟨(wl_in 106 rfl rfl), List.forall_mem_cons.mpr ⟨(wl_in 108 rfl rfl), fun _ h => absurd h List.not_mem_nil⟩⟩⟩⟩⟩⟩⟩
set_option maxRecDepth 20000 in
theorem nm_S : ∀ a, a < 3 → ∀ b, b < 3 → a ≠ b → (ft_S a).2.1 ≠ (ft_S b).2.1 := by decide +kernel
set_option maxRecDepth 20000 in
theorem tk_S : ∀ k, k < 3 → parseFieldDescriptor (ft_S k).2.2.1 = some (ty_S k) := by decide +kernel
set_option maxRecDepth 20000 in
theorem tz_S : aw_ty ft_S 3 ty_S := ⟨tk_S, nm_S⟩
set_option maxRecDepth 20000 in
theorem wu_S : ∀ w ∈ u_ws "ArcTape$Parts" ft_S 3, w ∈ wsAll := List.forall_mem_cons.mpr ⟨(wl_in 173 rfl rfl), List.forall_mem_cons.mpr ⟨(wl_in 175 rfl rfl), List.forall_mem_cons.mpr ⟨(wl_in 177 rfl rfl), fun _ h => absurd h List.not_mem_nil⟩⟩⟩
set_option maxRecDepth 20000 in
theorem nm_D : ∀ a, a < 14 → ∀ b, b < 14 → a ≠ b → (ft_D a).2.1 ≠ (ft_D b).2.1 := by decide +kernel
set_option maxRecDepth 20000 in
theorem tk_D : ∀ k, k < 14 → parseFieldDescriptor (ft_D k).2.2.1 = some (ty_D k) := by decide +kernel
set_option maxRecDepth 20000 in
theorem tz_D : aw_ty ft_D 14 ty_D := ⟨tk_D, nm_D⟩
set_option maxRecDepth 20000 in
theorem wu_D : ∀ w ∈ u_ws "ArcTape$Reader" ft_D 14, w ∈ wsAll := List.forall_mem_cons.mpr ⟨(wl_in 134 rfl rfl), List.forall_mem_cons.mpr ⟨(wl_in 136 rfl rfl), List.forall_mem_cons.mpr ⟨(wl_in 138 rfl rfl), List.forall_mem_cons.mpr ⟨(wl_in 140 rfl rfl), List.forall_mem_cons.mpr ⟨(wl_in 142 rfl rfl), List.forall_mem_cons.mpr ⟨(wl_in 144 rfl rfl), List.forall_mem_cons.mpr ⟨(wl_in 146 rfl rfl), List.forall_mem_cons.mpr ⟨(wl_in 148 rfl rfl), List.forall_mem_cons.mpr ⟨(wl_in 150 rfl rfl), List.forall_mem_cons.mpr ⟨(wl_in 152 rfl rfl), List.forall_mem_cons.mpr ⟨(wl_in 154 rfl rfl), List.forall_mem_cons.mpr ⟨(wl_in 156 rfl rfl), List.forall_mem_cons.mpr ⟨(wl_in 158 rfl rfl), List.forall_mem_cons.mpr ⟨(wl_in 160 rfl rfl), fun _ h => absurd h List.not_mem_nil⟩⟩⟩⟩⟩⟩⟩⟩⟩⟩⟩⟩⟩⟩
set_option maxRecDepth 20000 in
theorem nm_O : ∀ a, a < 8 → ∀ b, b < 8 → a ≠ b → (ft_O a).2.1 ≠ (ft_O b).2.1 := by decide +kernel
set_option maxRecDepth 20000 in
theorem tk_O : ∀ k, k < 8 → parseFieldDescriptor (ft_O k).2.2.1 = some (ty_O k) := by decide +kernel
set_option maxRecDepth 20000 in
theorem tz_O : aw_ty ft_O 8 ty_O := ⟨tk_O, nm_O⟩
set_option maxRecDepth 20000 in
theorem wu_O : ∀ w ∈ u_ws "ArcTape$Scores" ft_O 8, w ∈ wsAll := List.forall_mem_cons.mpr ⟨(wl_in 198 rfl rfl), List.forall_mem_cons.mpr ⟨(wl_in 200 rfl rfl), List.forall_mem_cons.mpr ⟨(wl_in 202 rfl rfl), List.forall_mem_cons.mpr ⟨(wl_in 204 rfl rfl), List.forall_mem_cons.mpr ⟨(wl_in 206 rfl rfl), List.forall_mem_cons.mpr ⟨(wl_in 208 rfl rfl), List.forall_mem_cons.mpr ⟨(wl_in 210 rfl rfl), List.forall_mem_cons.mpr ⟨(wl_in 212 rfl rfl), fun _ h => absurd h List.not_mem_nil⟩⟩⟩⟩⟩⟩⟩⟩
set_option maxRecDepth 20000 in
theorem nm_T : ∀ a, a < 2 → ∀ b, b < 2 → a ≠ b → (ft_T a).2.1 ≠ (ft_T b).2.1 := by decide +kernel
set_option maxRecDepth 20000 in
theorem tk_T : ∀ k, k < 2 → parseFieldDescriptor (ft_T k).2.2.1 = some (ty_T k) := by decide +kernel
set_option maxRecDepth 20000 in
theorem tz_T : aw_ty ft_T 2 ty_T := ⟨tk_T, nm_T⟩
set_option maxRecDepth 20000 in
theorem wu_T : ∀ w ∈ u_ws "ArcTape$Tape" ft_T 2, w ∈ wsAll := List.forall_mem_cons.mpr ⟨(wl_in 39 rfl rfl), List.forall_mem_cons.mpr ⟨(wl_in 41 rfl rfl), fun _ h => absurd h List.not_mem_nil⟩⟩
set_option maxRecDepth 20000 in
theorem nm_A : ∀ a, a < 8 → ∀ b, b < 8 → a ≠ b → (ft_A a).2.1 ≠ (ft_A b).2.1 := by decide +kernel
set_option maxRecDepth 20000 in
theorem tk_A : ∀ k, k < 8 → parseFieldDescriptor (ft_A k).2.2.1 = some (ty_A k) := by decide +kernel
set_option maxRecDepth 20000 in
theorem tz_A : aw_ty ft_A 8 ty_A := ⟨tk_A, nm_A⟩
set_option maxRecDepth 20000 in
theorem wu_A : ∀ w ∈ u_ws "ArcTape" ft_A 8, w ∈ wsAll := List.forall_mem_cons.mpr ⟨(wl_in 363 rfl rfl), List.forall_mem_cons.mpr ⟨(wl_in 365 rfl rfl), List.forall_mem_cons.mpr ⟨(wl_in 367 rfl rfl), List.forall_mem_cons.mpr ⟨(wl_in 369 rfl rfl), List.forall_mem_cons.mpr ⟨(wl_in 371 rfl rfl), List.forall_mem_cons.mpr ⟨(wl_in 373 rfl rfl), List.forall_mem_cons.mpr ⟨(wl_in 375 rfl rfl), List.forall_mem_cons.mpr ⟨(wl_in 377 rfl rfl), fun _ h => absurd h List.not_mem_nil⟩⟩⟩⟩⟩⟩⟩⟩
set_option maxRecDepth 20000 in
theorem nm_M : ∀ a, a < 29 → ∀ b, b < 29 → a ≠ b → (ft_M a).2.1 ≠ (ft_M b).2.1 := by decide +kernel
set_option maxRecDepth 20000 in
theorem tk_M : ∀ k, k < 29 → parseFieldDescriptor (ft_M k).2.2.1 = some (ty_M k) := by decide +kernel
set_option maxRecDepth 20000 in
theorem tz_M : aw_ty ft_M 29 ty_M := ⟨tk_M, nm_M⟩
set_option maxRecDepth 20000 in
theorem wu_M : ∀ w ∈ u_ws "ArcTapeModel" ft_M 29, w ∈ wsAll := List.forall_mem_cons.mpr ⟨(wl_in 625 rfl rfl), List.forall_mem_cons.mpr ⟨(wl_in 627 rfl rfl), List.forall_mem_cons.mpr ⟨(wl_in 629 rfl rfl), List.forall_mem_cons.mpr ⟨(wl_in 631 rfl rfl), List.forall_mem_cons.mpr ⟨(wl_in 633 rfl rfl), List.forall_mem_cons.mpr ⟨(wl_in 635 rfl rfl), List.forall_mem_cons.mpr ⟨(wl_in 637 rfl rfl), List.forall_mem_cons.mpr ⟨(wl_in 639 rfl rfl), List.forall_mem_cons.mpr ⟨(wl_in 641 rfl rfl), List.forall_mem_cons.mpr ⟨(wl_in 643 rfl rfl), List.forall_mem_cons.mpr ⟨(wl_in 645 rfl rfl), List.forall_mem_cons.mpr ⟨(wl_in 647 rfl rfl), List.forall_mem_cons.mpr ⟨(wl_in 649 rfl rfl), List.forall_mem_cons.mpr ⟨(wl_in 651 rfl rfl), List.forall_mem_cons.mpr ⟨(wl_in 653 rfl rfl), List.forall_mem_cons.mpr ⟨(wl_in 655 rfl rfl), List.forall_mem_cons.mpr ⟨(wl_in 657 rfl rfl), List.forall_mem_cons.mpr ⟨(wl_in 659 rfl rfl), List.forall_mem_cons.mpr ⟨(wl_in 661 rfl rfl), List.forall_mem_cons.mpr ⟨(wl_in 663 rfl rfl), List.forall_mem_cons.mpr ⟨(wl_in 665 rfl rfl), List.forall_mem_cons.mpr ⟨(wl_in 667 rfl rfl), List.forall_mem_cons.mpr ⟨(wl_in 669 rfl rfl), List.forall_mem_cons.mpr ⟨(wl_in 671 rfl rfl), List.forall_mem_cons.mpr ⟨(wl_in 673 rfl rfl), List.forall_mem_cons.mpr ⟨(wl_in 675 rfl rfl), List.forall_mem_cons.mpr ⟨(wl_in 677 rfl rfl), List.forall_mem_cons.mpr ⟨(wl_in 679 rfl rfl), List.forall_mem_cons.mpr ⟨(wl_in 681 rfl rfl), fun _ h => absurd h List.not_mem_nil⟩⟩⟩⟩⟩⟩⟩⟩⟩⟩⟩⟩⟩⟩⟩⟩⟩⟩⟩⟩⟩⟩⟩⟩⟩⟩⟩⟩⟩
set_option maxRecDepth 20000 in
theorem wa_I : Cond.arrayClass .int ∈ wsAll := (wl_in 44 rfl rfl)
set_option maxRecDepth 20000 in
theorem wa_B : Cond.arrayClass .byte ∈ wsAll := (wl_in 45 rfl rfl)
set_option maxRecDepth 20000 in
theorem wa_J : Cond.arrayClass .long ∈ wsAll := (wl_in 215 rfl rfl)
set_option maxRecDepth 20000 in
theorem fl_K_104 : aw_fl "ArcTape$Packer" 104 0 3 "ArcTape$Layout" ft_Y 5 := ⟨rfl, wu_Y, by decide, (wl_in 66 rfl rfl)⟩
set_option maxRecDepth 20000 in
theorem fl_K_15 : aw_fl "ArcTape$Packer" 15 1 5 "ArcTape$Packer" ft_K 7 := ⟨rfl, wu_K, by decide, (wl_in 94 rfl rfl)⟩
set_option maxRecDepth 20000 in
theorem fl_K_18 : aw_fl "ArcTape$Packer" 18 1 6 "ArcTape$Packer" ft_K 7 := ⟨rfl, wu_K, by decide, (wl_in 95 rfl rfl)⟩
set_option maxRecDepth 20000 in
theorem fl_K_21 : aw_fl "ArcTape$Packer" 21 1 0 "ArcTape$Packer" ft_K 7 := ⟨rfl, wu_K, by decide, (wl_in 89 rfl rfl)⟩
set_option maxRecDepth 20000 in
theorem fl_K_24 : aw_fl "ArcTape$Packer" 24 1 1 "ArcTape$Packer" ft_K 7 := ⟨rfl, wu_K, by decide, (wl_in 90 rfl rfl)⟩
set_option maxRecDepth 20000 in
theorem fl_K_28 : aw_fl "ArcTape$Packer" 28 1 2 "ArcTape$Packer" ft_K 7 := ⟨rfl, wu_K, by decide, (wl_in 91 rfl rfl)⟩
set_option maxRecDepth 20000 in
theorem fl_K_32 : aw_fl "ArcTape$Packer" 32 1 3 "ArcTape$Packer" ft_K 7 := ⟨rfl, wu_K, by decide, (wl_in 92 rfl rfl)⟩
set_option maxRecDepth 20000 in
theorem fl_K_35 : aw_fl "ArcTape$Packer" 35 5 1 "ArcTape$Tape" ft_T 2 := ⟨rfl, wu_T, by decide, (wl_in 36 rfl rfl)⟩
set_option maxRecDepth 20000 in
theorem fl_K_41 : aw_fl "ArcTape$Packer" 41 0 4 "ArcTape$Layout" ft_Y 5 := ⟨rfl, wu_Y, by decide, (wl_in 70 rfl rfl)⟩
set_option maxRecDepth 20000 in
theorem fl_K_54 : aw_fl "ArcTape$Packer" 54 0 0 "ArcTape$Layout" ft_Y 5 := ⟨rfl, wu_Y, by decide, (wl_in 53 rfl rfl)⟩
set_option maxRecDepth 20000 in
theorem fl_K_67 : aw_fl "ArcTape$Packer" 67 0 1 "ArcTape$Layout" ft_Y 5 := ⟨rfl, wu_Y, by decide, (wl_in 57 rfl rfl)⟩
set_option maxRecDepth 20000 in
theorem fl_K_85 : aw_fl "ArcTape$Packer" 85 0 2 "ArcTape$Layout" ft_Y 5 := ⟨rfl, wu_Y, by decide, (wl_in 63 rfl rfl)⟩
set_option maxRecDepth 20000 in
theorem fl_K_9 : aw_fl "ArcTape$Packer" 9 1 4 "ArcTape$Packer" ft_K 7 := ⟨rfl, wu_K, by decide, (wl_in 93 rfl rfl)⟩
set_option maxRecDepth 20000 in
theorem fl_S_13 : aw_fl "ArcTape$Parts" 13 2 0 "ArcTape$Parts" ft_S 3 := ⟨rfl, wu_S, by decide, (wl_in 169 rfl rfl)⟩
set_option maxRecDepth 20000 in
theorem fl_S_16 : aw_fl "ArcTape$Parts" 16 2 2 "ArcTape$Parts" ft_S 3 := ⟨rfl, wu_S, by decide, (wl_in 172 rfl rfl)⟩
set_option maxRecDepth 20000 in
theorem fl_S_7 : aw_fl "ArcTape$Parts" 7 2 1 "ArcTape$Parts" ft_S 3 := ⟨rfl, wu_S, by decide, (wl_in 171 rfl rfl)⟩
set_option maxRecDepth 20000 in
theorem fl_D_128 : aw_fl "ArcTape$Reader" 128 5 1 "ArcTape$Tape" ft_T 2 := ⟨rfl, wu_T, by decide, (wl_in 38 rfl rfl)⟩
set_option maxRecDepth 20000 in
theorem fl_D_13 : aw_fl "ArcTape$Reader" 13 3 5 "ArcTape$Reader" ft_D 14 := ⟨rfl, wu_D, by decide, (wl_in 125 rfl rfl)⟩
set_option maxRecDepth 20000 in
theorem fl_D_131 : aw_fl "ArcTape$Reader" 131 5 0 "ArcTape$Tape" ft_T 2 := ⟨rfl, wu_T, by decide, (wl_in 34 rfl rfl)⟩
set_option maxRecDepth 20000 in
theorem fl_D_141 : aw_fl "ArcTape$Reader" 141 0 3 "ArcTape$Layout" ft_Y 5 := ⟨rfl, wu_Y, by decide, (wl_in 67 rfl rfl)⟩
set_option maxRecDepth 20000 in
theorem fl_D_17 : aw_fl "ArcTape$Reader" 17 3 6 "ArcTape$Reader" ft_D 14 := ⟨rfl, wu_D, by decide, (wl_in 126 rfl rfl)⟩
set_option maxRecDepth 20000 in
theorem fl_D_21 : aw_fl "ArcTape$Reader" 21 3 0 "ArcTape$Reader" ft_D 14 := ⟨rfl, wu_D, by decide, (wl_in 117 rfl rfl)⟩
set_option maxRecDepth 20000 in
theorem fl_D_25 : aw_fl "ArcTape$Reader" 25 3 1 "ArcTape$Reader" ft_D 14 := ⟨rfl, wu_D, by decide, (wl_in 119 rfl rfl)⟩
set_option maxRecDepth 20000 in
theorem fl_D_28 : aw_fl "ArcTape$Reader" 28 3 2 "ArcTape$Reader" ft_D 14 := ⟨rfl, wu_D, by decide, (wl_in 121 rfl rfl)⟩
set_option maxRecDepth 20000 in
theorem fl_D_31 : aw_fl "ArcTape$Reader" 31 3 3 "ArcTape$Reader" ft_D 14 := ⟨rfl, wu_D, by decide, (wl_in 123 rfl rfl)⟩
set_option maxRecDepth 20000 in
theorem fl_D_34 : aw_fl "ArcTape$Reader" 34 3 7 "ArcTape$Reader" ft_D 14 := ⟨rfl, wu_D, by decide, (wl_in 127 rfl rfl)⟩
set_option maxRecDepth 20000 in
theorem fl_D_37 : aw_fl "ArcTape$Reader" 37 0 4 "ArcTape$Layout" ft_Y 5 := ⟨rfl, wu_Y, by decide, (wl_in 69 rfl rfl)⟩
set_option maxRecDepth 20000 in
theorem fl_D_42 : aw_fl "ArcTape$Reader" 42 3 8 "ArcTape$Reader" ft_D 14 := ⟨rfl, wu_D, by decide, (wl_in 128 rfl rfl)⟩
set_option maxRecDepth 20000 in
theorem fl_D_45 : aw_fl "ArcTape$Reader" 45 3 9 "ArcTape$Reader" ft_D 14 := ⟨rfl, wu_D, by decide, (wl_in 129 rfl rfl)⟩
set_option maxRecDepth 20000 in
theorem fl_D_48 : aw_fl "ArcTape$Reader" 48 3 10 "ArcTape$Reader" ft_D 14 := ⟨rfl, wu_D, by decide, (wl_in 130 rfl rfl)⟩
set_option maxRecDepth 20000 in
theorem fl_D_51 : aw_fl "ArcTape$Reader" 51 3 11 "ArcTape$Reader" ft_D 14 := ⟨rfl, wu_D, by decide, (wl_in 131 rfl rfl)⟩
set_option maxRecDepth 20000 in
theorem fl_D_54 : aw_fl "ArcTape$Reader" 54 3 13 "ArcTape$Reader" ft_D 14 := ⟨rfl, wu_D, by decide, (wl_in 133 rfl rfl)⟩
set_option maxRecDepth 20000 in
theorem fl_D_65 : aw_fl "ArcTape$Reader" 65 3 12 "ArcTape$Reader" ft_D 14 := ⟨rfl, wu_D, by decide, (wl_in 132 rfl rfl)⟩
set_option maxRecDepth 20000 in
theorem fl_D_7 : aw_fl "ArcTape$Reader" 7 3 4 "ArcTape$Reader" ft_D 14 := ⟨rfl, wu_D, by decide, (wl_in 124 rfl rfl)⟩
set_option maxRecDepth 20000 in
theorem fl_D_76 : aw_fl "ArcTape$Reader" 76 0 0 "ArcTape$Layout" ft_Y 5 := ⟨rfl, wu_Y, by decide, (wl_in 54 rfl rfl)⟩
set_option maxRecDepth 20000 in
theorem fl_D_86 : aw_fl "ArcTape$Reader" 86 0 2 "ArcTape$Layout" ft_Y 5 := ⟨rfl, wu_Y, by decide, (wl_in 61 rfl rfl)⟩
set_option maxRecDepth 20000 in
theorem fl_D_98 : aw_fl "ArcTape$Reader" 98 0 1 "ArcTape$Layout" ft_Y 5 := ⟨rfl, wu_Y, by decide, (wl_in 59 rfl rfl)⟩
set_option maxRecDepth 20000 in
theorem fl_O_15 : aw_fl "ArcTape$Scores" 15 4 0 "ArcTape$Scores" ft_O 8 := ⟨rfl, wu_O, by decide, (wl_in 186 rfl rfl)⟩
set_option maxRecDepth 20000 in
theorem fl_O_19 : aw_fl "ArcTape$Scores" 19 4 1 "ArcTape$Scores" ft_O 8 := ⟨rfl, wu_O, by decide, (wl_in 188 rfl rfl)⟩
set_option maxRecDepth 20000 in
theorem fl_O_22 : aw_fl "ArcTape$Scores" 22 4 5 "ArcTape$Scores" ft_O 8 := ⟨rfl, wu_O, by decide, (wl_in 195 rfl rfl)⟩
set_option maxRecDepth 20000 in
theorem fl_O_25 : aw_fl "ArcTape$Scores" 25 4 2 "ArcTape$Scores" ft_O 8 := ⟨rfl, wu_O, by decide, (wl_in 190 rfl rfl)⟩
set_option maxRecDepth 20000 in
theorem fl_O_28 : aw_fl "ArcTape$Scores" 28 4 6 "ArcTape$Scores" ft_O 8 := ⟨rfl, wu_O, by decide, (wl_in 196 rfl rfl)⟩
set_option maxRecDepth 20000 in
theorem fl_O_32 : aw_fl "ArcTape$Scores" 32 4 7 "ArcTape$Scores" ft_O 8 := ⟨rfl, wu_O, by decide, (wl_in 197 rfl rfl)⟩
set_option maxRecDepth 20000 in
theorem fl_O_35 : aw_fl "ArcTape$Scores" 35 4 3 "ArcTape$Scores" ft_O 8 := ⟨rfl, wu_O, by decide, (wl_in 192 rfl rfl)⟩
set_option maxRecDepth 20000 in
theorem fl_O_9 : aw_fl "ArcTape$Scores" 9 4 4 "ArcTape$Scores" ft_O 8 := ⟨rfl, wu_O, by decide, (wl_in 194 rfl rfl)⟩
set_option maxRecDepth 20000 in
theorem fl_T_13 : aw_fl "ArcTape$Tape" 13 5 1 "ArcTape$Tape" ft_T 2 := ⟨rfl, wu_T, by decide, (wl_in 35 rfl rfl)⟩
set_option maxRecDepth 20000 in
theorem fl_T_9 : aw_fl "ArcTape$Tape" 9 5 0 "ArcTape$Tape" ft_T 2 := ⟨rfl, wu_T, by decide, (wl_in 32 rfl rfl)⟩
set_option maxRecDepth 20000 in
theorem fl_A_101 : aw_fl "ArcTape" 101 0 0 "ArcTape$Layout" ft_Y 5 := ⟨rfl, wu_Y, by decide, (wl_in 55 rfl rfl)⟩
set_option maxRecDepth 20000 in
theorem fl_A_104 : aw_fl "ArcTape" 104 0 1 "ArcTape$Layout" ft_Y 5 := ⟨rfl, wu_Y, by decide, (wl_in 58 rfl rfl)⟩
set_option maxRecDepth 20000 in
theorem fl_A_107 : aw_fl "ArcTape" 107 0 2 "ArcTape$Layout" ft_Y 5 := ⟨rfl, wu_Y, by decide, (wl_in 62 rfl rfl)⟩
set_option maxRecDepth 20000 in
theorem fl_A_110 : aw_fl "ArcTape" 110 0 3 "ArcTape$Layout" ft_Y 5 := ⟨rfl, wu_Y, by decide, (wl_in 65 rfl rfl)⟩
set_option maxRecDepth 20000 in
theorem fl_A_113 : aw_fl "ArcTape" 113 5 1 "ArcTape$Tape" ft_T 2 := ⟨rfl, wu_T, by decide, (wl_in 37 rfl rfl)⟩
set_option maxRecDepth 20000 in
theorem fl_A_116 : aw_fl "ArcTape" 116 0 4 "ArcTape$Layout" ft_Y 5 := ⟨rfl, wu_Y, by decide, (wl_in 71 rfl rfl)⟩
set_option maxRecDepth 20000 in
theorem fl_A_122 : aw_fl "ArcTape" 122 5 0 "ArcTape$Tape" ft_T 2 := ⟨rfl, wu_T, by decide, (wl_in 33 rfl rfl)⟩
set_option maxRecDepth 20000 in
theorem fl_A_126 : aw_fl "ArcTape" 126 3 1 "ArcTape$Reader" ft_D 14 := ⟨rfl, wu_D, by decide, (wl_in 120 rfl rfl)⟩
set_option maxRecDepth 20000 in
theorem fl_A_135 : aw_fl "ArcTape" 135 3 2 "ArcTape$Reader" ft_D 14 := ⟨rfl, wu_D, by decide, (wl_in 122 rfl rfl)⟩
set_option maxRecDepth 20000 in
theorem fl_A_142 : aw_fl "ArcTape" 142 2 0 "ArcTape$Parts" ft_S 3 := ⟨rfl, wu_S, by decide, (wl_in 170 rfl rfl)⟩
set_option maxRecDepth 20000 in
theorem fl_A_148 : aw_fl "ArcTape" 148 4 2 "ArcTape$Scores" ft_O 8 := ⟨rfl, wu_O, by decide, (wl_in 191 rfl rfl)⟩
set_option maxRecDepth 20000 in
theorem fl_A_154 : aw_fl "ArcTape" 154 4 0 "ArcTape$Scores" ft_O 8 := ⟨rfl, wu_O, by decide, (wl_in 187 rfl rfl)⟩
set_option maxRecDepth 20000 in
theorem fl_A_159 : aw_fl "ArcTape" 159 4 1 "ArcTape$Scores" ft_O 8 := ⟨rfl, wu_O, by decide, (wl_in 189 rfl rfl)⟩
set_option maxRecDepth 20000 in
theorem fl_A_165 : aw_fl "ArcTape" 165 4 3 "ArcTape$Scores" ft_O 8 := ⟨rfl, wu_O, by decide, (wl_in 193 rfl rfl)⟩
set_option maxRecDepth 20000 in
theorem fl_A_18 : aw_fl "ArcTape" 18 6 0 "ArcTape" ft_A 8 := ⟨rfl, wu_A, by decide, (wl_in 355 rfl rfl)⟩
set_option maxRecDepth 20000 in
theorem fl_A_22 : aw_fl "ArcTape" 22 6 1 "ArcTape" ft_A 8 := ⟨rfl, wu_A, by decide, (wl_in 356 rfl rfl)⟩
set_option maxRecDepth 20000 in
theorem fl_A_29 : aw_fl "ArcTape" 29 6 2 "ArcTape" ft_A 8 := ⟨rfl, wu_A, by decide, (wl_in 357 rfl rfl)⟩
set_option maxRecDepth 20000 in
theorem fl_A_38 : aw_fl "ArcTape" 38 6 3 "ArcTape" ft_A 8 := ⟨rfl, wu_A, by decide, (wl_in 358 rfl rfl)⟩
set_option maxRecDepth 20000 in
theorem fl_A_47 : aw_fl "ArcTape" 47 6 4 "ArcTape" ft_A 8 := ⟨rfl, wu_A, by decide, (wl_in 359 rfl rfl)⟩
set_option maxRecDepth 20000 in
theorem fl_A_56 : aw_fl "ArcTape" 56 6 5 "ArcTape" ft_A 8 := ⟨rfl, wu_A, by decide, (wl_in 360 rfl rfl)⟩
set_option maxRecDepth 20000 in
theorem fl_A_62 : aw_fl "ArcTape" 62 3 0 "ArcTape$Reader" ft_D 14 := ⟨rfl, wu_D, by decide, (wl_in 118 rfl rfl)⟩
set_option maxRecDepth 20000 in
theorem fl_A_68 : aw_fl "ArcTape" 68 6 6 "ArcTape" ft_A 8 := ⟨rfl, wu_A, by decide, (wl_in 361 rfl rfl)⟩
set_option maxRecDepth 20000 in
theorem fl_A_75 : aw_fl "ArcTape" 75 6 7 "ArcTape" ft_A 8 := ⟨rfl, wu_A, by decide, (wl_in 362 rfl rfl)⟩
set_option maxRecDepth 20000 in
theorem fl_M_109 : aw_fl "ArcTapeModel" 109 7 5 "ArcTapeModel" ft_M 29 := ⟨rfl, wu_M, by decide, (wl_in 601 rfl rfl)⟩
set_option maxRecDepth 20000 in
theorem fl_M_118 : aw_fl "ArcTapeModel" 118 7 6 "ArcTapeModel" ft_M 29 := ⟨rfl, wu_M, by decide, (wl_in 602 rfl rfl)⟩
set_option maxRecDepth 20000 in
theorem fl_M_125 : aw_fl "ArcTapeModel" 125 7 12 "ArcTapeModel" ft_M 29 := ⟨rfl, wu_M, by decide, (wl_in 608 rfl rfl)⟩
set_option maxRecDepth 20000 in
theorem fl_M_128 : aw_fl "ArcTapeModel" 128 7 11 "ArcTapeModel" ft_M 29 := ⟨rfl, wu_M, by decide, (wl_in 607 rfl rfl)⟩
set_option maxRecDepth 20000 in
theorem fl_M_13 : aw_fl "ArcTapeModel" 13 7 2 "ArcTapeModel" ft_M 29 := ⟨rfl, wu_M, by decide, (wl_in 598 rfl rfl)⟩
set_option maxRecDepth 20000 in
theorem fl_M_141 : aw_fl "ArcTapeModel" 141 7 14 "ArcTapeModel" ft_M 29 := ⟨rfl, wu_M, by decide, (wl_in 610 rfl rfl)⟩
set_option maxRecDepth 20000 in
theorem fl_M_145 : aw_fl "ArcTapeModel" 145 7 13 "ArcTapeModel" ft_M 29 := ⟨rfl, wu_M, by decide, (wl_in 609 rfl rfl)⟩
set_option maxRecDepth 20000 in
theorem fl_M_16 : aw_fl "ArcTapeModel" 16 7 4 "ArcTapeModel" ft_M 29 := ⟨rfl, wu_M, by decide, (wl_in 600 rfl rfl)⟩
set_option maxRecDepth 20000 in
theorem fl_M_176 : aw_fl "ArcTapeModel" 176 7 28 "ArcTapeModel" ft_M 29 := ⟨rfl, wu_M, by decide, (wl_in 624 rfl rfl)⟩
set_option maxRecDepth 20000 in
theorem fl_M_19 : aw_fl "ArcTapeModel" 19 7 9 "ArcTapeModel" ft_M 29 := ⟨rfl, wu_M, by decide, (wl_in 605 rfl rfl)⟩
set_option maxRecDepth 20000 in
theorem fl_M_191 : aw_fl "ArcTapeModel" 191 7 20 "ArcTapeModel" ft_M 29 := ⟨rfl, wu_M, by decide, (wl_in 616 rfl rfl)⟩
set_option maxRecDepth 20000 in
theorem fl_M_194 : aw_fl "ArcTapeModel" 194 7 21 "ArcTapeModel" ft_M 29 := ⟨rfl, wu_M, by decide, (wl_in 617 rfl rfl)⟩
set_option maxRecDepth 20000 in
theorem fl_M_197 : aw_fl "ArcTapeModel" 197 7 25 "ArcTapeModel" ft_M 29 := ⟨rfl, wu_M, by decide, (wl_in 621 rfl rfl)⟩
set_option maxRecDepth 20000 in
theorem fl_M_22 : aw_fl "ArcTapeModel" 22 7 10 "ArcTapeModel" ft_M 29 := ⟨rfl, wu_M, by decide, (wl_in 606 rfl rfl)⟩
set_option maxRecDepth 20000 in
theorem fl_M_25 : aw_fl "ArcTapeModel" 25 7 15 "ArcTapeModel" ft_M 29 := ⟨rfl, wu_M, by decide, (wl_in 611 rfl rfl)⟩
set_option maxRecDepth 20000 in
theorem fl_M_28 : aw_fl "ArcTapeModel" 28 7 16 "ArcTapeModel" ft_M 29 := ⟨rfl, wu_M, by decide, (wl_in 612 rfl rfl)⟩
set_option maxRecDepth 20000 in
theorem fl_M_31 : aw_fl "ArcTapeModel" 31 7 17 "ArcTapeModel" ft_M 29 := ⟨rfl, wu_M, by decide, (wl_in 613 rfl rfl)⟩
set_option maxRecDepth 20000 in
theorem fl_M_34 : aw_fl "ArcTapeModel" 34 7 18 "ArcTapeModel" ft_M 29 := ⟨rfl, wu_M, by decide, (wl_in 614 rfl rfl)⟩
set_option maxRecDepth 20000 in
theorem fl_M_37 : aw_fl "ArcTapeModel" 37 7 19 "ArcTapeModel" ft_M 29 := ⟨rfl, wu_M, by decide, (wl_in 615 rfl rfl)⟩
set_option maxRecDepth 20000 in
theorem fl_M_40 : aw_fl "ArcTapeModel" 40 7 22 "ArcTapeModel" ft_M 29 := ⟨rfl, wu_M, by decide, (wl_in 618 rfl rfl)⟩
set_option maxRecDepth 20000 in
theorem fl_M_44 : aw_fl "ArcTapeModel" 44 7 23 "ArcTapeModel" ft_M 29 := ⟨rfl, wu_M, by decide, (wl_in 619 rfl rfl)⟩
set_option maxRecDepth 20000 in
theorem fl_M_47 : aw_fl "ArcTapeModel" 47 7 24 "ArcTapeModel" ft_M 29 := ⟨rfl, wu_M, by decide, (wl_in 620 rfl rfl)⟩
set_option maxRecDepth 20000 in
theorem fl_M_50 : aw_fl "ArcTapeModel" 50 7 26 "ArcTapeModel" ft_M 29 := ⟨rfl, wu_M, by decide, (wl_in 622 rfl rfl)⟩
set_option maxRecDepth 20000 in
theorem fl_M_53 : aw_fl "ArcTapeModel" 53 7 27 "ArcTapeModel" ft_M 29 := ⟨rfl, wu_M, by decide, (wl_in 623 rfl rfl)⟩
set_option maxRecDepth 20000 in
theorem fl_M_56 : aw_fl "ArcTapeModel" 56 7 0 "ArcTapeModel" ft_M 29 := ⟨rfl, wu_M, by decide, (wl_in 596 rfl rfl)⟩
set_option maxRecDepth 20000 in
theorem fl_M_7 : aw_fl "ArcTapeModel" 7 7 1 "ArcTapeModel" ft_M 29 := ⟨rfl, wu_M, by decide, (wl_in 597 rfl rfl)⟩
set_option maxRecDepth 20000 in
theorem fl_M_72 : aw_fl "ArcTapeModel" 72 7 3 "ArcTapeModel" ft_M 29 := ⟨rfl, wu_M, by decide, (wl_in 599 rfl rfl)⟩
set_option maxRecDepth 20000 in
theorem fl_M_86 : aw_fl "ArcTapeModel" 86 7 8 "ArcTapeModel" ft_M 29 := ⟨rfl, wu_M, by decide, (wl_in 604 rfl rfl)⟩
set_option maxRecDepth 20000 in
theorem fl_M_92 : aw_fl "ArcTapeModel" 92 7 7 "ArcTapeModel" ft_M 29 := ⟨rfl, wu_M, by decide, (wl_in 603 rfl rfl)⟩
set_option maxRecDepth 20000 in
theorem wk_O_39 : Cond.constantLong "ArcTape$Scores" 39 (1000000 : Int64) ∈ wsAll := (wl_in 350 rfl rfl)
set_option maxRecDepth 20000 in
theorem wk_O_41 : Cond.constantLong "ArcTape$Scores" 41 (1000000000000 : Int64) ∈ wsAll := (wl_in 351 rfl rfl)
set_option maxRecDepth 20000 in
theorem wk_O_82 : Cond.constantLong "ArcTape$Scores" 82 (1000000000 : Int64) ∈ wsAll := (wl_in 490 rfl rfl)
set_option maxRecDepth 20000 in
theorem wk_O_84 : Cond.constantLong "ArcTape$Scores" 84 (1000 : Int64) ∈ wsAll := (wl_in 491 rfl rfl)
set_option maxRecDepth 20000 in
theorem wk_A_157 : Cond.constantLong "ArcTape" 157 (-1 : Int64) ∈ wsAll := (wl_in 517 rfl rfl)
set_option maxRecDepth 20000 in
theorem wk_M_121 : Cond.constant "ArcTapeModel" 121 (1048576 : Int32) ∈ wsAll := (wl_in 547 rfl rfl)
set_option maxRecDepth 20000 in
theorem wk_M_201 : Cond.constantLong "ArcTapeModel" 201 (1000000 : Int64) ∈ wsAll := (wl_in 594 rfl rfl)
set_option maxRecDepth 20000 in
theorem wk_M_203 : Cond.constantLong "ArcTapeModel" 203 (1000000000000 : Int64) ∈ wsAll := (wl_in 595 rfl rfl)
set_option maxRecDepth 20000 in
theorem wk_M_208 : Cond.constantLong "ArcTapeModel" 208 (1000000000 : Int64) ∈ wsAll := (wl_in 809 rfl rfl)
set_option maxRecDepth 20000 in
theorem wk_M_210 : Cond.constantLong "ArcTapeModel" 210 (1000 : Int64) ∈ wsAll := (wl_in 810 rfl rfl)
set_option maxRecDepth 20000 in
theorem wk_M_228 : Cond.constantLong "ArcTapeModel" 228 (-1 : Int64) ∈ wsAll := (wl_in 831 rfl rfl)
set_option maxRecDepth 20000 in
theorem wk_J_265 : Cond.constant "java/lang/Integer" 265 (1431655765 : Int32) ∈ wsAll := (wl_in 236 rfl rfl)
set_option maxRecDepth 20000 in
theorem wk_J_266 : Cond.constant "java/lang/Integer" 266 (858993459 : Int32) ∈ wsAll := (wl_in 237 rfl rfl)
set_option maxRecDepth 20000 in
theorem wk_J_267 : Cond.constant "java/lang/Integer" 267 (252645135 : Int32) ∈ wsAll := (wl_in 238 rfl rfl)
set_option maxRecDepth 20000 in
theorem fp_K_35 : aw_fp "ArcTape$Packer" 35 5 1 "ArcTape$Tape" ft_T 2 .int := ⟨fl_K_35, ⟨ty_T, tz_T⟩, rfl, tk_T 1 (by decide)⟩
set_option maxRecDepth 20000 in
theorem fp_D_34 : aw_fp "ArcTape$Reader" 34 3 7 "ArcTape$Reader" ft_D 14 .int := ⟨fl_D_34, ⟨ty_D, tz_D⟩, rfl, tk_D 7 (by decide)⟩
set_option maxRecDepth 20000 in
theorem fp_D_42 : aw_fp "ArcTape$Reader" 42 3 8 "ArcTape$Reader" ft_D 14 .int := ⟨fl_D_42, ⟨ty_D, tz_D⟩, rfl, tk_D 8 (by decide)⟩
set_option maxRecDepth 20000 in
theorem fp_D_45 : aw_fp "ArcTape$Reader" 45 3 9 "ArcTape$Reader" ft_D 14 .int := ⟨fl_D_45, ⟨ty_D, tz_D⟩, rfl, tk_D 9 (by decide)⟩
set_option maxRecDepth 20000 in
theorem fp_D_48 : aw_fp "ArcTape$Reader" 48 3 10 "ArcTape$Reader" ft_D 14 .int := ⟨fl_D_48, ⟨ty_D, tz_D⟩, rfl, tk_D 10 (by decide)⟩
set_option maxRecDepth 20000 in
theorem fp_D_51 : aw_fp "ArcTape$Reader" 51 3 11 "ArcTape$Reader" ft_D 14 .int := ⟨fl_D_51, ⟨ty_D, tz_D⟩, rfl, tk_D 11 (by decide)⟩
set_option maxRecDepth 20000 in
theorem fp_D_54 : aw_fp "ArcTape$Reader" 54 3 13 "ArcTape$Reader" ft_D 14 .boolean := ⟨fl_D_54, ⟨ty_D, tz_D⟩, rfl, tk_D 13 (by decide)⟩
set_option maxRecDepth 20000 in
theorem fp_D_65 : aw_fp "ArcTape$Reader" 65 3 12 "ArcTape$Reader" ft_D 14 .int := ⟨fl_D_65, ⟨ty_D, tz_D⟩, rfl, tk_D 12 (by decide)⟩
set_option maxRecDepth 20000 in
theorem fp_O_28 : aw_fp "ArcTape$Scores" 28 4 6 "ArcTape$Scores" ft_O 8 .int := ⟨fl_O_28, ⟨ty_O, tz_O⟩, rfl, tk_O 6 (by decide)⟩
set_option maxRecDepth 20000 in
theorem fp_O_32 : aw_fp "ArcTape$Scores" 32 4 7 "ArcTape$Scores" ft_O 8 .int := ⟨fl_O_32, ⟨ty_O, tz_O⟩, rfl, tk_O 7 (by decide)⟩
set_option maxRecDepth 20000 in
theorem fp_O_35 : aw_fp "ArcTape$Scores" 35 4 3 "ArcTape$Scores" ft_O 8 .long := ⟨fl_O_35, ⟨ty_O, tz_O⟩, rfl, tk_O 3 (by decide)⟩
set_option maxRecDepth 20000 in
theorem fp_T_13 : aw_fp "ArcTape$Tape" 13 5 1 "ArcTape$Tape" ft_T 2 .int := ⟨fl_T_13, ⟨ty_T, tz_T⟩, rfl, tk_T 1 (by decide)⟩
set_option maxRecDepth 20000 in
theorem fp_A_101 : aw_fp "ArcTape" 101 0 0 "ArcTape$Layout" ft_Y 5 .int := ⟨fl_A_101, ⟨ty_Y, tz_Y⟩, rfl, tk_Y 0 (by decide)⟩
set_option maxRecDepth 20000 in
theorem fp_A_104 : aw_fp "ArcTape" 104 0 1 "ArcTape$Layout" ft_Y 5 .int := ⟨fl_A_104, ⟨ty_Y, tz_Y⟩, rfl, tk_Y 1 (by decide)⟩
set_option maxRecDepth 20000 in
theorem fp_A_107 : aw_fp "ArcTape" 107 0 2 "ArcTape$Layout" ft_Y 5 .int := ⟨fl_A_107, ⟨ty_Y, tz_Y⟩, rfl, tk_Y 2 (by decide)⟩
set_option maxRecDepth 20000 in
theorem fp_A_110 : aw_fp "ArcTape" 110 0 3 "ArcTape$Layout" ft_Y 5 .int := ⟨fl_A_110, ⟨ty_Y, tz_Y⟩, rfl, tk_Y 3 (by decide)⟩
set_option maxRecDepth 20000 in
theorem fp_M_109 : aw_fp "ArcTapeModel" 109 7 5 "ArcTapeModel" ft_M 29 .int := ⟨fl_M_109, ⟨ty_M, tz_M⟩, rfl, tk_M 5 (by decide)⟩
set_option maxRecDepth 20000 in
theorem fp_M_118 : aw_fp "ArcTapeModel" 118 7 6 "ArcTapeModel" ft_M 29 .int := ⟨fl_M_118, ⟨ty_M, tz_M⟩, rfl, tk_M 6 (by decide)⟩
set_option maxRecDepth 20000 in
theorem fp_M_125 : aw_fp "ArcTapeModel" 125 7 12 "ArcTapeModel" ft_M 29 .int := ⟨fl_M_125, ⟨ty_M, tz_M⟩, rfl, tk_M 12 (by decide)⟩
set_option maxRecDepth 20000 in
theorem fp_M_128 : aw_fp "ArcTapeModel" 128 7 11 "ArcTapeModel" ft_M 29 .int := ⟨fl_M_128, ⟨ty_M, tz_M⟩, rfl, tk_M 11 (by decide)⟩
set_option maxRecDepth 20000 in
theorem fp_M_141 : aw_fp "ArcTapeModel" 141 7 14 "ArcTapeModel" ft_M 29 .boolean := ⟨fl_M_141, ⟨ty_M, tz_M⟩, rfl, tk_M 14 (by decide)⟩
set_option maxRecDepth 20000 in
theorem fp_M_145 : aw_fp "ArcTapeModel" 145 7 13 "ArcTapeModel" ft_M 29 .int := ⟨fl_M_145, ⟨ty_M, tz_M⟩, rfl, tk_M 13 (by decide)⟩
set_option maxRecDepth 20000 in
theorem fp_M_176 : aw_fp "ArcTapeModel" 176 7 28 "ArcTapeModel" ft_M 29 .int := ⟨fl_M_176, ⟨ty_M, tz_M⟩, rfl, tk_M 28 (by decide)⟩
set_option maxRecDepth 20000 in
theorem fp_M_191 : aw_fp "ArcTapeModel" 191 7 20 "ArcTapeModel" ft_M 29 .int := ⟨fl_M_191, ⟨ty_M, tz_M⟩, rfl, tk_M 20 (by decide)⟩
set_option maxRecDepth 20000 in
theorem fp_M_194 : aw_fp "ArcTapeModel" 194 7 21 "ArcTapeModel" ft_M 29 .int := ⟨fl_M_194, ⟨ty_M, tz_M⟩, rfl, tk_M 21 (by decide)⟩
set_option maxRecDepth 20000 in
theorem fp_M_197 : aw_fp "ArcTapeModel" 197 7 25 "ArcTapeModel" ft_M 29 .long := ⟨fl_M_197, ⟨ty_M, tz_M⟩, rfl, tk_M 25 (by decide)⟩
set_option maxRecDepth 20000 in
theorem fp_M_72 : aw_fp "ArcTapeModel" 72 7 3 "ArcTapeModel" ft_M 29 .int := ⟨fl_M_72, ⟨ty_M, tz_M⟩, rfl, tk_M 3 (by decide)⟩
set_option maxRecDepth 20000 in
theorem fp_M_86 : aw_fp "ArcTapeModel" 86 7 8 "ArcTapeModel" ft_M 29 .int := ⟨fl_M_86, ⟨ty_M, tz_M⟩, rfl, tk_M 8 (by decide)⟩
set_option maxRecDepth 20000 in
theorem fp_M_92 : aw_fp "ArcTapeModel" 92 7 7 "ArcTapeModel" ft_M 29 .int := ⟨fl_M_92, ⟨ty_M, tz_M⟩, rfl, tk_M 7 (by decide)⟩
set_option maxRecDepth 20000 in
theorem wc_K_101 : aw_wS "ArcTape$Packer" 101 y_T_withoutSign c_T_withoutSign 1 (some .int) 1 := ⟨(wl_in 271 rfl rfl), (wl_in 3 rfl rfl), (wl_in 269 rfl rfl), (wl_in 270 rfl rfl), ⟨by decide, by decide, by decide +kernel⟩, by decide⟩
set_option maxRecDepth 20000 in
theorem wc_K_107 : aw_wV "ArcTape$Packer" 107 y_T_putZeta c_T_putZeta 5 none 2 5 "ArcTape$Tape" ft_T 2 := ⟨(wl_in 279 rfl rfl), (wl_in 3 rfl rfl), (wl_in 276 rfl rfl), (wl_in 277 rfl rfl), (wl_in 278 rfl rfl), rfl, ⟨by decide, by decide, by decide +kernel⟩, by decide⟩
set_option maxRecDepth 20000 in
theorem wc_K_46 : aw_wV "ArcTape$Packer" 46 y_K_bestReference c_K_bestReference 7 (some .int) 1 1 "ArcTape$Packer" ft_K 7 := ⟨(wl_in 223 rfl rfl), (wl_in 5 rfl rfl), (wl_in 220 rfl rfl), (wl_in 222 rfl rfl), (wl_se 0 rfl rfl), rfl, ⟨by decide, by decide, by decide +kernel⟩, by decide⟩
set_option maxRecDepth 20000 in
theorem wc_K_50 : aw_wV "ArcTape$Packer" 50 y_K_writeRecord c_K_writeRecord 4 none 2 1 "ArcTape$Packer" ft_K 7 := ⟨(wl_in 232 rfl rfl), (wl_in 5 rfl rfl), (wl_in 229 rfl rfl), (wl_in 231 rfl rfl), (wl_se 2 rfl rfl), rfl, ⟨by decide, by decide, by decide +kernel⟩, by decide⟩
set_option maxRecDepth 20000 in
theorem wc_K_63 : aw_wV "ArcTape$Packer" 63 y_K_mayBeReferredTo c_K_mayBeReferredTo 2 (some .boolean) 1 1 "ArcTape$Packer" ft_K 7 := ⟨(wl_in 228 rfl rfl), (wl_in 5 rfl rfl), (wl_in 225 rfl rfl), (wl_in 227 rfl rfl), (wl_se 1 rfl rfl), rfl, ⟨by decide, by decide, by decide +kernel⟩, by decide⟩
set_option maxRecDepth 20000 in
theorem wc_K_70 : aw_wS "ArcTape$Packer" 70 y_J_bitCount c_J_bitCount 1 (some .int) 1 := ⟨(wl_in 235 rfl rfl), (wl_in 9 rfl rfl), (wl_in 233 rfl rfl), (wl_in 234 rfl rfl), ⟨by decide, by decide, by decide +kernel⟩, by decide⟩
set_option maxRecDepth 20000 in
theorem wc_K_75 : aw_wV "ArcTape$Packer" 75 y_T_putGamma c_T_putGamma 2 none 1 5 "ArcTape$Tape" ft_T 2 := ⟨(wl_in 242 rfl rfl), (wl_in 3 rfl rfl), (wl_in 239 rfl rfl), (wl_in 240 rfl rfl), (wl_in 241 rfl rfl), rfl, ⟨by decide, by decide, by decide +kernel⟩, by decide⟩
set_option maxRecDepth 20000 in
theorem wc_K_79 : aw_wV "ArcTape$Packer" 79 y_T_putUnary c_T_putUnary 2 none 1 5 "ArcTape$Tape" ft_T 2 := ⟨(wl_in 253 rfl rfl), (wl_in 3 rfl rfl), (wl_in 250 rfl rfl), (wl_in 251 rfl rfl), (wl_in 252 rfl rfl), rfl, ⟨by decide, by decide, by decide +kernel⟩, by decide⟩
set_option maxRecDepth 20000 in
theorem wc_K_82 : aw_wV "ArcTape$Packer" 82 y_K_writeRuns c_K_writeRuns 6 none 2 1 "ArcTape$Packer" ft_K 7 := ⟨(wl_in 257 rfl rfl), (wl_in 5 rfl rfl), (wl_in 254 rfl rfl), (wl_in 256 rfl rfl), (wl_se 3 rfl rfl), rfl, ⟨by decide, by decide, by decide +kernel⟩, by decide⟩
set_option maxRecDepth 20000 in
theorem wc_K_88 : aw_wV "ArcTape$Packer" 88 y_K_writeIntervals c_K_writeIntervals 7 (some .int) 2 1 "ArcTape$Packer" ft_K 7 := ⟨(wl_in 264 rfl rfl), (wl_in 5 rfl rfl), (wl_in 261 rfl rfl), (wl_in 263 rfl rfl), (wl_se 4 rfl rfl), rfl, ⟨by decide, by decide, by decide +kernel⟩, by decide⟩
set_option maxRecDepth 20000 in
theorem wc_K_91 : aw_wV "ArcTape$Packer" 91 y_K_writeSingles c_K_writeSingles 5 none 2 1 "ArcTape$Packer" ft_K 7 := ⟨(wl_in 275 rfl rfl), (wl_in 5 rfl rfl), (wl_in 272 rfl rfl), (wl_in 274 rfl rfl), (wl_se 6 rfl rfl), rfl, ⟨by decide, by decide, by decide +kernel⟩, by decide⟩
set_option maxRecDepth 20000 in
theorem wc_K_94 : aw_wN "ArcTape$Packer" 94 y_A_holds c_A_holds 2 (some .boolean) 2 "ArcTape" := ⟨(wl_in 260 rfl rfl), (wl_in 1 rfl rfl), List.mem_of_getElem? (i := 1) rfl, (wl_in 259 rfl rfl), ⟨by decide, by decide, by decide +kernel⟩, by decide⟩
set_option maxRecDepth 20000 in
theorem wc_K_98 : aw_wV "ArcTape$Packer" 98 y_K_rowLength c_K_rowLength 4 (some .int) 2 1 "ArcTape$Packer" ft_K 7 := ⟨(wl_in 268 rfl rfl), (wl_in 5 rfl rfl), (wl_in 265 rfl rfl), (wl_in 267 rfl rfl), (wl_se 5 rfl rfl), rfl, ⟨by decide, by decide, by decide +kernel⟩, by decide⟩
set_option maxRecDepth 20000 in
theorem wc_S_19 : aw_wV "ArcTape$Parts" 19 y_S_findReached c_S_findReached 3 none 0 2 "ArcTape$Parts" ft_S 3 := ⟨(wl_in 438 rfl rfl), (wl_in 7 rfl rfl), (wl_in 435 rfl rfl), (wl_in 437 rfl rfl), (wl_se 22 rfl rfl), rfl, ⟨by decide, by decide, by decide +kernel⟩, by decide⟩
set_option maxRecDepth 20000 in
theorem wc_S_22 : aw_wV "ArcTape$Parts" 22 y_S_nextReady c_S_nextReady 3 (some .int) 1 2 "ArcTape$Parts" ft_S 3 := ⟨(wl_in 443 rfl rfl), (wl_in 7 rfl rfl), (wl_in 440 rfl rfl), (wl_in 442 rfl rfl), (wl_se 23 rfl rfl), rfl, ⟨by decide, by decide, by decide +kernel⟩, by decide⟩
set_option maxRecDepth 20000 in
theorem wc_S_26 : aw_wV "ArcTape$Parts" 26 y_S_partOf c_S_partOf 4 (some .int) 1 2 "ArcTape$Parts" ft_S 3 := ⟨(wl_in 447 rfl rfl), (wl_in 7 rfl rfl), (wl_in 444 rfl rfl), (wl_in 446 rfl rfl), (wl_se 24 rfl rfl), rfl, ⟨by decide, by decide, by decide +kernel⟩, by decide⟩
set_option maxRecDepth 20000 in
theorem wc_S_29 : aw_wN "ArcTape$Parts" 29 y_A_holds c_A_holds 2 (some .boolean) 2 "ArcTape" := ⟨(wl_in 260 rfl rfl), (wl_in 1 rfl rfl), List.mem_of_getElem? (i := 3) rfl, (wl_in 259 rfl rfl), ⟨by decide, by decide, by decide +kernel⟩, by decide⟩
set_option maxRecDepth 20000 in
theorem wc_D_101 : aw_wS "ArcTape$Reader" 101 y_J_bitCount c_J_bitCount 1 (some .int) 1 := ⟨(wl_in 235 rfl rfl), (wl_in 9 rfl rfl), (wl_in 320 rfl rfl), (wl_in 234 rfl rfl), ⟨by decide, by decide, by decide +kernel⟩, by decide⟩
set_option maxRecDepth 20000 in
theorem wc_D_107 : aw_wS "ArcTape$Reader" 107 y_D_lowest c_D_lowest 4 (some .int) 2 := ⟨(wl_in 323 rfl rfl), (wl_in 6 rfl rfl), (wl_in 321 rfl rfl), (wl_in 322 rfl rfl), ⟨by decide, by decide, by decide +kernel⟩, by decide⟩
set_option maxRecDepth 20000 in
theorem wc_D_111 : aw_wV "ArcTape$Reader" 111 y_D_take c_D_take 2 none 1 3 "ArcTape$Reader" ft_D 14 := ⟨(wl_in 327 rfl rfl), (wl_in 6 rfl rfl), (wl_in 324 rfl rfl), (wl_in 326 rfl rfl), (wl_se 16 rfl rfl), rfl, ⟨by decide, by decide, by decide +kernel⟩, by decide⟩
set_option maxRecDepth 20000 in
theorem wc_D_114 : aw_wS "ArcTape$Reader" 114 y_T_withSign c_T_withSign 1 (some .int) 1 := ⟨(wl_in 334 rfl rfl), (wl_in 3 rfl rfl), (wl_in 332 rfl rfl), (wl_in 333 rfl rfl), ⟨by decide, by decide, by decide +kernel⟩, by decide⟩
set_option maxRecDepth 20000 in
theorem wc_D_119 : aw_wN "ArcTape$Reader" 119 y_A_within c_A_within 3 (some .boolean) 3 "ArcTape" := ⟨(wl_in 337 rfl rfl), (wl_in 1 rfl rfl), List.mem_of_getElem? (i := 2) rfl, (wl_in 336 rfl rfl), ⟨by decide, by decide, by decide +kernel⟩, by decide⟩
set_option maxRecDepth 20000 in
theorem wc_D_125 : aw_wV "ArcTape$Reader" 125 y_D_nextZeta c_D_nextZeta 4 (some .int) 0 3 "ArcTape$Reader" ft_D 14 := ⟨(wl_in 345 rfl rfl), (wl_in 6 rfl rfl), (wl_in 342 rfl rfl), (wl_in 344 rfl rfl), (wl_se 19 rfl rfl), rfl, ⟨by decide, by decide, by decide +kernel⟩, by decide⟩
set_option maxRecDepth 20000 in
theorem wc_D_135 : aw_wV "ArcTape$Reader" 135 y_D_nextBit c_D_nextBit 1 (some .int) 0 3 "ArcTape$Reader" ft_D 14 := ⟨(wl_in 299 rfl rfl), (wl_in 6 rfl rfl), (wl_in 296 rfl rfl), (wl_in 298 rfl rfl), (wl_se 10 rfl rfl), rfl, ⟨by decide, by decide, by decide +kernel⟩, by decide⟩
set_option maxRecDepth 20000 in
theorem wc_D_138 : aw_wV "ArcTape$Reader" 138 y_D_nextNumber c_D_nextNumber 5 (some .int) 2 3 "ArcTape$Reader" ft_D 14 := ⟨(wl_in 307 rfl rfl), (wl_in 6 rfl rfl), (wl_in 304 rfl rfl), (wl_in 306 rfl rfl), (wl_se 12 rfl rfl), rfl, ⟨by decide, by decide, by decide +kernel⟩, by decide⟩
set_option maxRecDepth 20000 in
theorem wc_D_58 : aw_wV "ArcTape$Reader" 58 y_D_readRecord c_D_readRecord 1 none 0 3 "ArcTape$Reader" ft_D 14 := ⟨(wl_in 287 rfl rfl), (wl_in 6 rfl rfl), (wl_in 284 rfl rfl), (wl_in 286 rfl rfl), (wl_se 7 rfl rfl), rfl, ⟨by decide, by decide, by decide +kernel⟩, by decide⟩
set_option maxRecDepth 20000 in
theorem wc_D_61 : aw_wV "ArcTape$Reader" 61 y_D_nextGamma c_D_nextGamma 1 (some .int) 0 3 "ArcTape$Reader" ft_D 14 := ⟨(wl_in 291 rfl rfl), (wl_in 6 rfl rfl), (wl_in 288 rfl rfl), (wl_in 290 rfl rfl), (wl_se 8 rfl rfl), rfl, ⟨by decide, by decide, by decide +kernel⟩, by decide⟩
set_option maxRecDepth 20000 in
theorem wc_D_68 : aw_wV "ArcTape$Reader" 68 y_D_failIf c_D_failIf 3 none 2 3 "ArcTape$Reader" ft_D 14 := ⟨(wl_in 303 rfl rfl), (wl_in 6 rfl rfl), (wl_in 300 rfl rfl), (wl_in 302 rfl rfl), (wl_se 11 rfl rfl), rfl, ⟨by decide, by decide, by decide +kernel⟩, by decide⟩
set_option maxRecDepth 20000 in
theorem wc_D_72 : aw_wV "ArcTape$Reader" 72 y_D_goesOn c_D_goesOn 1 (some .boolean) 0 3 "ArcTape$Reader" ft_D 14 := ⟨(wl_in 311 rfl rfl), (wl_in 6 rfl rfl), (wl_in 308 rfl rfl), (wl_in 310 rfl rfl), (wl_se 13 rfl rfl), rfl, ⟨by decide, by decide, by decide +kernel⟩, by decide⟩
set_option maxRecDepth 20000 in
theorem wc_D_79 : aw_wV "ArcTape$Reader" 79 y_D_readReference c_D_readReference 2 none 0 3 "ArcTape$Reader" ft_D 14 := ⟨(wl_in 315 rfl rfl), (wl_in 6 rfl rfl), (wl_in 312 rfl rfl), (wl_in 314 rfl rfl), (wl_se 14 rfl rfl), rfl, ⟨by decide, by decide, by decide +kernel⟩, by decide⟩
set_option maxRecDepth 20000 in
theorem wc_D_82 : aw_wV "ArcTape$Reader" 82 y_D_readRuns c_D_readRuns 8 none 1 3 "ArcTape$Reader" ft_D 14 := ⟨(wl_in 319 rfl rfl), (wl_in 6 rfl rfl), (wl_in 316 rfl rfl), (wl_in 318 rfl rfl), (wl_se 15 rfl rfl), rfl, ⟨by decide, by decide, by decide +kernel⟩, by decide⟩
set_option maxRecDepth 20000 in
theorem wc_D_89 : aw_wV "ArcTape$Reader" 89 y_D_readIntervals c_D_readIntervals 6 none 0 3 "ArcTape$Reader" ft_D 14 := ⟨(wl_in 331 rfl rfl), (wl_in 6 rfl rfl), (wl_in 328 rfl rfl), (wl_in 330 rfl rfl), (wl_se 17 rfl rfl), rfl, ⟨by decide, by decide, by decide +kernel⟩, by decide⟩
set_option maxRecDepth 20000 in
theorem wc_D_92 : aw_wV "ArcTape$Reader" 92 y_D_readSingles c_D_readSingles 4 none 0 3 "ArcTape$Reader" ft_D 14 := ⟨(wl_in 341 rfl rfl), (wl_in 6 rfl rfl), (wl_in 338 rfl rfl), (wl_in 340 rfl rfl), (wl_se 18 rfl rfl), rfl, ⟨by decide, by decide, by decide +kernel⟩, by decide⟩
set_option maxRecDepth 20000 in
theorem wc_D_95 : aw_wV "ArcTape$Reader" 95 y_D_nextUnary c_D_nextUnary 2 (some .int) 0 3 "ArcTape$Reader" ft_D 14 := ⟨(wl_in 295 rfl rfl), (wl_in 6 rfl rfl), (wl_in 292 rfl rfl), (wl_in 294 rfl rfl), (wl_se 9 rfl rfl), rfl, ⟨by decide, by decide, by decide +kernel⟩, by decide⟩
set_option maxRecDepth 20000 in
theorem wc_O_43 : aw_wS "ArcTape$Scores" 43 y_O_quotient c_O_quotient 4 (some .long) 2 := ⟨(wl_in 354 rfl rfl), (wl_in 8 rfl rfl), (wl_in 352 rfl rfl), (wl_in 353 rfl rfl), ⟨by decide, by decide, by decide +kernel⟩, by decide⟩
set_option maxRecDepth 20000 in
theorem wc_O_47 : aw_wV "ArcTape$Scores" 47 y_O_stepOnce c_O_stepOnce 2 none 0 4 "ArcTape$Scores" ft_O 8 := ⟨(wl_in 475 rfl rfl), (wl_in 8 rfl rfl), (wl_in 472 rfl rfl), (wl_in 474 rfl rfl), (wl_se 25 rfl rfl), rfl, ⟨by decide, by decide, by decide +kernel⟩, by decide⟩
set_option maxRecDepth 20000 in
theorem wc_O_56 : aw_wV "ArcTape$Scores" 56 y_O_stepByRank c_O_stepByRank 10 none 0 4 "ArcTape$Scores" ft_O 8 := ⟨(wl_in 482 rfl rfl), (wl_in 8 rfl rfl), (wl_in 479 rfl rfl), (wl_in 481 rfl rfl), (wl_se 26 rfl rfl), rfl, ⟨by decide, by decide, by decide +kernel⟩, by decide⟩
set_option maxRecDepth 20000 in
theorem wc_O_59 : aw_wV "ArcTape$Scores" 59 y_O_stepByGreatest c_O_stepByGreatest 3 none 0 4 "ArcTape$Scores" ft_O 8 := ⟨(wl_in 495 rfl rfl), (wl_in 8 rfl rfl), (wl_in 492 rfl rfl), (wl_in 494 rfl rfl), (wl_se 28 rfl rfl), rfl, ⟨by decide, by decide, by decide +kernel⟩, by decide⟩
set_option maxRecDepth 20000 in
theorem wc_O_62 : aw_wV "ArcTape$Scores" 62 y_O_stepByShares c_O_stepByShares 3 none 0 4 "ArcTape$Scores" ft_O 8 := ⟨(wl_in 505 rfl rfl), (wl_in 8 rfl rfl), (wl_in 502 rfl rfl), (wl_in 504 rfl rfl), (wl_se 29 rfl rfl), rfl, ⟨by decide, by decide, by decide +kernel⟩, by decide⟩
set_option maxRecDepth 20000 in
theorem wc_O_71 : aw_wV "ArcTape$Scores" 71 y_O_weightOfOthers c_O_weightOfOthers 4 (some .int) 1 4 "ArcTape$Scores" ft_O 8 := ⟨(wl_in 459 rfl rfl), (wl_in 8 rfl rfl), (wl_in 483 rfl rfl), (wl_in 457 rfl rfl), (wl_in 458 rfl rfl), rfl, ⟨by decide, by decide, by decide +kernel⟩, by decide⟩
set_option maxRecDepth 20000 in
theorem wc_O_75 : aw_wN "ArcTape$Scores" 75 y_A_holds c_A_holds 2 (some .boolean) 2 "ArcTape" := ⟨(wl_in 260 rfl rfl), (wl_in 1 rfl rfl), List.mem_of_getElem? (i := 4) rfl, (wl_in 259 rfl rfl), ⟨by decide, by decide, by decide +kernel⟩, by decide⟩
set_option maxRecDepth 20000 in
theorem wc_O_79 : aw_wV "ArcTape$Scores" 79 y_O_linksFrom c_O_linksFrom 2 (some .int) 1 4 "ArcTape$Scores" ft_O 8 := ⟨(wl_in 488 rfl rfl), (wl_in 8 rfl rfl), (wl_in 485 rfl rfl), (wl_in 487 rfl rfl), (wl_se 27 rfl rfl), rfl, ⟨by decide, by decide, by decide +kernel⟩, by decide⟩
set_option maxRecDepth 20000 in
theorem wc_O_86 : aw_wS "ArcTape$Scores" 86 y_O_bringToGreatest c_O_bringToGreatest 4 none 1 := ⟨(wl_in 498 rfl rfl), (wl_in 8 rfl rfl), (wl_in 496 rfl rfl), (wl_in 497 rfl rfl), ⟨by decide, by decide, by decide +kernel⟩, by decide⟩
set_option maxRecDepth 20000 in
theorem wc_O_93 : aw_wV "ArcTape$Scores" 93 y_O_linksTo c_O_linksTo 4 (some .int) 1 4 "ArcTape$Scores" ft_O 8 := ⟨(wl_in 509 rfl rfl), (wl_in 8 rfl rfl), (wl_in 506 rfl rfl), (wl_in 508 rfl rfl), (wl_se 30 rfl rfl), rfl, ⟨by decide, by decide, by decide +kernel⟩, by decide⟩
set_option maxRecDepth 20000 in
theorem wc_O_96 : aw_wS "ArcTape$Scores" 96 y_J_bitCount c_J_bitCount 1 (some .int) 1 := ⟨(wl_in 235 rfl rfl), (wl_in 9 rfl rfl), (wl_in 489 rfl rfl), (wl_in 234 rfl rfl), ⟨by decide, by decide, by decide +kernel⟩, by decide⟩
set_option maxRecDepth 20000 in
theorem wc_T_17 : aw_wV "ArcTape$Tape" 17 y_T_putNumber c_T_putNumber 4 none 2 5 "ArcTape$Tape" ft_T 2 := ⟨(wl_in 249 rfl rfl), (wl_in 3 rfl rfl), (wl_in 246 rfl rfl), (wl_in 247 rfl rfl), (wl_in 248 rfl rfl), rfl, ⟨by decide, by decide, by decide +kernel⟩, by decide⟩
set_option maxRecDepth 20000 in
theorem wc_T_21 : aw_wS "ArcTape$Tape" 21 y_T_exponent c_T_exponent 2 (some .int) 1 := ⟨(wl_in 245 rfl rfl), (wl_in 3 rfl rfl), (wl_in 243 rfl rfl), (wl_in 244 rfl rfl), ⟨by decide, by decide, by decide +kernel⟩, by decide⟩
set_option maxRecDepth 20000 in
theorem wc_A_119 : aw_wV "ArcTape" 119 y_A_isPlace c_A_isPlace 2 (some .boolean) 1 6 "ArcTape" ft_A 8 := ⟨(wl_in 409 rfl rfl), (wl_in 1 rfl rfl), (wl_in 406 rfl rfl), (wl_in 408 rfl rfl), (wl_se 21 rfl rfl), rfl, ⟨by decide, by decide, by decide +kernel⟩, by decide⟩
set_option maxRecDepth 20000 in
theorem wc_A_129 : aw_wS "ArcTape" 129 y_J_bitCount c_J_bitCount 1 (some .int) 1 := ⟨(wl_in 235 rfl rfl), (wl_in 9 rfl rfl), (wl_in 418 rfl rfl), (wl_in 234 rfl rfl), ⟨by decide, by decide, by decide +kernel⟩, by decide⟩
set_option maxRecDepth 20000 in
theorem wc_A_138 : aw_wV "ArcTape" 138 y_S_numberAll c_S_numberAll 6 (some .int) 0 2 "ArcTape$Parts" ft_S 3 := ⟨(wl_in 434 rfl rfl), (wl_in 7 rfl rfl), (wl_in 431 rfl rfl), (wl_in 432 rfl rfl), (wl_in 433 rfl rfl), rfl, ⟨by decide, by decide, by decide +kernel⟩, by decide⟩
set_option maxRecDepth 20000 in
theorem wc_A_145 : aw_wV "ArcTape" 145 y_O_weightOfOthers c_O_weightOfOthers 4 (some .int) 1 4 "ArcTape$Scores" ft_O 8 := ⟨(wl_in 459 rfl rfl), (wl_in 8 rfl rfl), (wl_in 456 rfl rfl), (wl_in 457 rfl rfl), (wl_in 458 rfl rfl), rfl, ⟨by decide, by decide, by decide +kernel⟩, by decide⟩
set_option maxRecDepth 20000 in
theorem wc_A_151 : aw_wV "ArcTape" 151 y_O_advance c_O_advance 3 (some .int) 1 4 "ArcTape$Scores" ft_O 8 := ⟨(wl_in 471 rfl rfl), (wl_in 8 rfl rfl), (wl_in 468 rfl rfl), (wl_in 469 rfl rfl), (wl_in 470 rfl rfl), rfl, ⟨by decide, by decide, by decide +kernel⟩, by decide⟩
set_option maxRecDepth 20000 in
theorem wc_A_162 : aw_wV "ArcTape" 162 y_O_placeOf c_O_placeOf 4 (some .int) 1 4 "ArcTape$Scores" ft_O 8 := ⟨(wl_in 529 rfl rfl), (wl_in 8 rfl rfl), (wl_in 526 rfl rfl), (wl_in 527 rfl rfl), (wl_in 528 rfl rfl), rfl, ⟨by decide, by decide, by decide +kernel⟩, by decide⟩
set_option maxRecDepth 20000 in
theorem wc_A_79 : aw_wV "ArcTape" 79 y_K_writeAll c_K_writeAll 3 none 0 1 "ArcTape$Packer" ft_K 7 := ⟨(wl_in 219 rfl rfl), (wl_in 5 rfl rfl), (wl_in 216 rfl rfl), (wl_in 217 rfl rfl), (wl_in 218 rfl rfl), rfl, ⟨by decide, by decide, by decide +kernel⟩, by decide⟩
set_option maxRecDepth 20000 in
theorem wc_A_82 : aw_wV "ArcTape" 82 y_D_readAll c_D_readAll 2 none 0 3 "ArcTape$Reader" ft_D 14 := ⟨(wl_in 283 rfl rfl), (wl_in 6 rfl rfl), (wl_in 280 rfl rfl), (wl_in 281 rfl rfl), (wl_in 282 rfl rfl), rfl, ⟨by decide, by decide, by decide +kernel⟩, by decide⟩
set_option maxRecDepth 20000 in
theorem wc_A_85 : aw_wV "ArcTape" 85 y_O_begin c_O_begin 4 none 2 4 "ArcTape$Scores" ft_O 8 := ⟨(wl_in 349 rfl rfl), (wl_in 8 rfl rfl), (wl_in 346 rfl rfl), (wl_in 347 rfl rfl), (wl_in 348 rfl rfl), rfl, ⟨by decide, by decide, by decide +kernel⟩, by decide⟩
set_option maxRecDepth 20000 in
theorem wc_A_89 : aw_wV "ArcTape" 89 y_A_isNode c_A_isNode 2 (some .boolean) 1 6 "ArcTape" ft_A 8 := ⟨(wl_in 387 rfl rfl), (wl_in 1 rfl rfl), (wl_in 384 rfl rfl), (wl_in 386 rfl rfl), (wl_se 20 rfl rfl), rfl, ⟨by decide, by decide, by decide +kernel⟩, by decide⟩
set_option maxRecDepth 20000 in
theorem wc_A_93 : aw_wS "ArcTape" 93 y_A_holds c_A_holds 2 (some .boolean) 2 := ⟨(wl_in 260 rfl rfl), (wl_in 1 rfl rfl), (wl_in 389 rfl rfl), (wl_in 259 rfl rfl), ⟨by decide, by decide, by decide +kernel⟩, by decide⟩
set_option maxRecDepth 20000 in
theorem wc_A_97 : aw_wS "ArcTape" 97 y_A_within c_A_within 3 (some .boolean) 3 := ⟨(wl_in 337 rfl rfl), (wl_in 1 rfl rfl), (wl_in 388 rfl rfl), (wl_in 336 rfl rfl), ⟨by decide, by decide, by decide +kernel⟩, by decide⟩
set_option maxRecDepth 20000 in
theorem wc_M_103 : aw_wV "ArcTapeModel" 103 y_M_putZeta c_M_putZeta 4 none 1 7 "ArcTapeModel" ft_M 29 := ⟨(wl_in 589 rfl rfl), (wl_in 10 rfl rfl), (wl_in 586 rfl rfl), (wl_in 588 rfl rfl), (wl_se 39 rfl rfl), rfl, ⟨by decide, by decide, by decide +kernel⟩, by decide⟩
set_option maxRecDepth 20000 in
theorem wc_M_106 : aw_wS "ArcTapeModel" 106 y_M_ones c_M_ones 3 (some .int) 1 := ⟨(wl_in 554 rfl rfl), (wl_in 10 rfl rfl), (wl_in 552 rfl rfl), (wl_in 553 rfl rfl), ⟨by decide, by decide, by decide +kernel⟩, by decide⟩
set_option maxRecDepth 20000 in
theorem wc_M_112 : aw_wV "ArcTapeModel" 112 y_M_putRuns c_M_putRuns 7 none 2 7 "ArcTapeModel" ft_M 29 := ⟨(wl_in 574 rfl rfl), (wl_in 10 rfl rfl), (wl_in 571 rfl rfl), (wl_in 573 rfl rfl), (wl_se 36 rfl rfl), rfl, ⟨by decide, by decide, by decide +kernel⟩, by decide⟩
set_option maxRecDepth 20000 in
theorem wc_M_115 : aw_wV "ArcTapeModel" 115 y_M_putRest c_M_putRest 8 none 2 7 "ArcTapeModel" ft_M 29 := ⟨(wl_in 578 rfl rfl), (wl_in 10 rfl rfl), (wl_in 575 rfl rfl), (wl_in 577 rfl rfl), (wl_se 37 rfl rfl), rfl, ⟨by decide, by decide, by decide +kernel⟩, by decide⟩
set_option maxRecDepth 20000 in
theorem wc_M_122 : aw_wV "ArcTapeModel" 122 y_M_putRecord c_M_putRecord 5 none 2 7 "ArcTapeModel" ft_M 29 := ⟨(wl_in 551 rfl rfl), (wl_in 10 rfl rfl), (wl_in 548 rfl rfl), (wl_in 550 rfl rfl), (wl_se 31 rfl rfl), rfl, ⟨by decide, by decide, by decide +kernel⟩, by decide⟩
set_option maxRecDepth 20000 in
theorem wc_M_131 : aw_wV "ArcTapeModel" 131 y_M_next c_M_next 1 (some .int) 0 7 "ArcTapeModel" ft_M 29 := ⟨(wl_in 728 rfl rfl), (wl_in 10 rfl rfl), (wl_in 725 rfl rfl), (wl_in 727 rfl rfl), (wl_se 44 rfl rfl), rfl, ⟨by decide, by decide, by decide +kernel⟩, by decide⟩
set_option maxRecDepth 20000 in
theorem wc_M_135 : aw_wV "ArcTapeModel" 135 y_M_nextUnary c_M_nextUnary 2 (some .int) 0 7 "ArcTapeModel" ft_M 29 := ⟨(wl_in 724 rfl rfl), (wl_in 10 rfl rfl), (wl_in 721 rfl rfl), (wl_in 723 rfl rfl), (wl_se 43 rfl rfl), rfl, ⟨by decide, by decide, by decide +kernel⟩, by decide⟩
set_option maxRecDepth 20000 in
theorem wc_M_138 : aw_wV "ArcTapeModel" 138 y_M_nextNumber c_M_nextNumber 4 (some .int) 1 7 "ArcTapeModel" ft_M 29 := ⟨(wl_in 732 rfl rfl), (wl_in 10 rfl rfl), (wl_in 729 rfl rfl), (wl_in 731 rfl rfl), (wl_se 45 rfl rfl), rfl, ⟨by decide, by decide, by decide +kernel⟩, by decide⟩
set_option maxRecDepth 20000 in
theorem wc_M_148 : aw_wV "ArcTapeModel" 148 y_M_nextGamma c_M_nextGamma 3 (some .int) 0 7 "ArcTapeModel" ft_M 29 := ⟨(wl_in 720 rfl rfl), (wl_in 10 rfl rfl), (wl_in 717 rfl rfl), (wl_in 719 rfl rfl), (wl_se 42 rfl rfl), rfl, ⟨by decide, by decide, by decide +kernel⟩, by decide⟩
set_option maxRecDepth 20000 in
theorem wc_M_151 : aw_wV "ArcTapeModel" 151 y_M_copy c_M_copy 6 none 3 7 "ArcTapeModel" ft_M 29 := ⟨(wl_in 744 rfl rfl), (wl_in 10 rfl rfl), (wl_in 741 rfl rfl), (wl_in 743 rfl rfl), (wl_se 48 rfl rfl), rfl, ⟨by decide, by decide, by decide +kernel⟩, by decide⟩
set_option maxRecDepth 20000 in
theorem wc_M_155 : aw_wV "ArcTapeModel" 155 y_M_take c_M_take 2 none 1 7 "ArcTapeModel" ft_M 29 := ⟨(wl_in 748 rfl rfl), (wl_in 10 rfl rfl), (wl_in 745 rfl rfl), (wl_in 747 rfl rfl), (wl_se 49 rfl rfl), rfl, ⟨by decide, by decide, by decide +kernel⟩, by decide⟩
set_option maxRecDepth 20000 in
theorem wc_M_158 : aw_wS "ArcTapeModel" 158 y_M_whole c_M_whole 1 (some .int) 1 := ⟨(wl_in 755 rfl rfl), (wl_in 10 rfl rfl), (wl_in 753 rfl rfl), (wl_in 754 rfl rfl), ⟨by decide, by decide, by decide +kernel⟩, by decide⟩
set_option maxRecDepth 20000 in
theorem wc_M_161 : aw_wV "ArcTapeModel" 161 y_M_readRuns c_M_readRuns 8 none 2 7 "ArcTapeModel" ft_M 29 := ⟨(wl_in 740 rfl rfl), (wl_in 10 rfl rfl), (wl_in 737 rfl rfl), (wl_in 739 rfl rfl), (wl_se 47 rfl rfl), rfl, ⟨by decide, by decide, by decide +kernel⟩, by decide⟩
set_option maxRecDepth 20000 in
theorem wc_M_164 : aw_wV "ArcTapeModel" 164 y_M_readIntervals c_M_readIntervals 11 (some .int) 2 7 "ArcTapeModel" ft_M 29 := ⟨(wl_in 752 rfl rfl), (wl_in 10 rfl rfl), (wl_in 749 rfl rfl), (wl_in 751 rfl rfl), (wl_se 50 rfl rfl), rfl, ⟨by decide, by decide, by decide +kernel⟩, by decide⟩
set_option maxRecDepth 20000 in
theorem wc_M_167 : aw_wV "ArcTapeModel" 167 y_M_nextZeta c_M_nextZeta 5 (some .int) 0 7 "ArcTapeModel" ft_M 29 := ⟨(wl_in 759 rfl rfl), (wl_in 10 rfl rfl), (wl_in 756 rfl rfl), (wl_in 758 rfl rfl), (wl_se 51 rfl rfl), rfl, ⟨by decide, by decide, by decide +kernel⟩, by decide⟩
set_option maxRecDepth 20000 in
theorem wc_M_170 : aw_wV "ArcTapeModel" 170 y_M_readParts c_M_readParts 10 none 2 7 "ArcTapeModel" ft_M 29 := ⟨(wl_in 736 rfl rfl), (wl_in 10 rfl rfl), (wl_in 733 rfl rfl), (wl_in 735 rfl rfl), (wl_se 46 rfl rfl), rfl, ⟨by decide, by decide, by decide +kernel⟩, by decide⟩
set_option maxRecDepth 20000 in
theorem wc_M_173 : aw_wV "ArcTapeModel" 173 y_M_read c_M_read 3 none 0 7 "ArcTapeModel" ft_M 29 := ⟨(wl_in 716 rfl rfl), (wl_in 10 rfl rfl), (wl_in 713 rfl rfl), (wl_in 715 rfl rfl), (wl_se 41 rfl rfl), rfl, ⟨by decide, by decide, by decide +kernel⟩, by decide⟩
set_option maxRecDepth 20000 in
theorem wc_M_179 : aw_wV "ArcTapeModel" 179 y_M_firstReady c_M_firstReady 6 (some .int) 1 7 "ArcTapeModel" ft_M 29 := ⟨(wl_in 779 rfl rfl), (wl_in 10 rfl rfl), (wl_in 776 rfl rfl), (wl_in 778 rfl rfl), (wl_se 53 rfl rfl), rfl, ⟨by decide, by decide, by decide +kernel⟩, by decide⟩
set_option maxRecDepth 20000 in
theorem wc_M_182 : aw_wV "ArcTapeModel" 182 y_M_together c_M_together 4 (some .int) 1 7 "ArcTapeModel" ft_M 29 := ⟨(wl_in 783 rfl rfl), (wl_in 10 rfl rfl), (wl_in 780 rfl rfl), (wl_in 782 rfl rfl), (wl_se 54 rfl rfl), rfl, ⟨by decide, by decide, by decide +kernel⟩, by decide⟩
set_option maxRecDepth 20000 in
theorem wc_M_185 : aw_wV "ArcTapeModel" 185 y_M_count c_M_count 6 none 0 7 "ArcTapeModel" ft_M 29 := ⟨(wl_in 775 rfl rfl), (wl_in 10 rfl rfl), (wl_in 772 rfl rfl), (wl_in 774 rfl rfl), (wl_se 52 rfl rfl), rfl, ⟨by decide, by decide, by decide +kernel⟩, by decide⟩
set_option maxRecDepth 20000 in
theorem wc_M_188 : aw_wV "ArcTapeModel" 188 y_M_total c_M_total 3 (some .int) 0 7 "ArcTapeModel" ft_M 29 := ⟨(wl_in 795 rfl rfl), (wl_in 10 rfl rfl), (wl_in 792 rfl rfl), (wl_in 794 rfl rfl), (wl_se 55 rfl rfl), rfl, ⟨by decide, by decide, by decide +kernel⟩, by decide⟩
set_option maxRecDepth 20000 in
theorem wc_M_205 : aw_wV "ArcTapeModel" 205 y_M_links c_M_links 3 (some .boolean) 2 7 "ArcTapeModel" ft_M 29 := ⟨(wl_in 808 rfl rfl), (wl_in 10 rfl rfl), (wl_in 805 rfl rfl), (wl_in 807 rfl rfl), (wl_se 57 rfl rfl), rfl, ⟨by decide, by decide, by decide +kernel⟩, by decide⟩
set_option maxRecDepth 20000 in
theorem wc_M_212 : aw_wV "ArcTapeModel" 212 y_M_bring c_M_bring 7 none 1 7 "ArcTapeModel" ft_M 29 := ⟨(wl_in 818 rfl rfl), (wl_in 10 rfl rfl), (wl_in 815 rfl rfl), (wl_in 817 rfl rfl), (wl_se 59 rfl rfl), rfl, ⟨by decide, by decide, by decide +kernel⟩, by decide⟩
set_option maxRecDepth 20000 in
theorem wc_M_216 : aw_wV "ArcTapeModel" 216 y_M_into c_M_into 4 (some .int) 1 7 "ArcTapeModel" ft_M 29 := ⟨(wl_in 826 rfl rfl), (wl_in 10 rfl rfl), (wl_in 823 rfl rfl), (wl_in 825 rfl rfl), (wl_se 61 rfl rfl), rfl, ⟨by decide, by decide, by decide +kernel⟩, by decide⟩
set_option maxRecDepth 20000 in
theorem wc_M_219 : aw_wV "ArcTapeModel" 219 y_M_stepRank c_M_stepRank 9 none 0 7 "ArcTapeModel" ft_M 29 := ⟨(wl_in 804 rfl rfl), (wl_in 10 rfl rfl), (wl_in 801 rfl rfl), (wl_in 803 rfl rfl), (wl_se 56 rfl rfl), rfl, ⟨by decide, by decide, by decide +kernel⟩, by decide⟩
set_option maxRecDepth 20000 in
theorem wc_M_222 : aw_wV "ArcTapeModel" 222 y_M_stepHubs c_M_stepHubs 3 none 0 7 "ArcTapeModel" ft_M 29 := ⟨(wl_in 814 rfl rfl), (wl_in 10 rfl rfl), (wl_in 811 rfl rfl), (wl_in 813 rfl rfl), (wl_se 58 rfl rfl), rfl, ⟨by decide, by decide, by decide +kernel⟩, by decide⟩
set_option maxRecDepth 20000 in
theorem wc_M_225 : aw_wV "ArcTapeModel" 225 y_M_stepShares c_M_stepShares 3 none 0 7 "ArcTapeModel" ft_M 29 := ⟨(wl_in 822 rfl rfl), (wl_in 10 rfl rfl), (wl_in 819 rfl rfl), (wl_in 821 rfl rfl), (wl_se 60 rfl rfl), rfl, ⟨by decide, by decide, by decide +kernel⟩, by decide⟩
set_option maxRecDepth 20000 in
theorem wc_M_68 : aw_wV "ArcTapeModel" 68 y_M_node c_M_node 2 (some .boolean) 1 7 "ArcTapeModel" ft_M 29 := ⟨(wl_in 691 rfl rfl), (wl_in 10 rfl rfl), (wl_in 688 rfl rfl), (wl_in 690 rfl rfl), (wl_se 40 rfl rfl), rfl, ⟨by decide, by decide, by decide +kernel⟩, by decide⟩
set_option maxRecDepth 20000 in
theorem wc_M_75 : aw_wV "ArcTapeModel" 75 y_M_put c_M_put 2 none 1 7 "ArcTapeModel" ft_M 29 := ⟨(wl_in 566 rfl rfl), (wl_in 10 rfl rfl), (wl_in 563 rfl rfl), (wl_in 565 rfl rfl), (wl_se 34 rfl rfl), rfl, ⟨by decide, by decide, by decide +kernel⟩, by decide⟩
set_option maxRecDepth 20000 in
theorem wc_M_79 : aw_wV "ArcTapeModel" 79 y_M_putUnary c_M_putUnary 3 none 1 7 "ArcTapeModel" ft_M 29 := ⟨(wl_in 562 rfl rfl), (wl_in 10 rfl rfl), (wl_in 559 rfl rfl), (wl_in 561 rfl rfl), (wl_se 33 rfl rfl), rfl, ⟨by decide, by decide, by decide +kernel⟩, by decide⟩
set_option maxRecDepth 20000 in
theorem wc_M_82 : aw_wV "ArcTapeModel" 82 y_M_putNumber c_M_putNumber 4 none 2 7 "ArcTapeModel" ft_M 29 := ⟨(wl_in 570 rfl rfl), (wl_in 10 rfl rfl), (wl_in 567 rfl rfl), (wl_in 569 rfl rfl), (wl_se 35 rfl rfl), rfl, ⟨by decide, by decide, by decide +kernel⟩, by decide⟩
set_option maxRecDepth 20000 in
theorem wc_M_89 : aw_wV "ArcTapeModel" 89 y_M_putGamma c_M_putGamma 3 none 1 7 "ArcTapeModel" ft_M 29 := ⟨(wl_in 558 rfl rfl), (wl_in 10 rfl rfl), (wl_in 555 rfl rfl), (wl_in 557 rfl rfl), (wl_se 32 rfl rfl), rfl, ⟨by decide, by decide, by decide +kernel⟩, by decide⟩
set_option maxRecDepth 20000 in
theorem wc_M_95 : aw_wV "ArcTapeModel" 95 y_M_rowAt c_M_rowAt 4 (some .int) 2 7 "ArcTapeModel" ft_M 29 := ⟨(wl_in 582 rfl rfl), (wl_in 10 rfl rfl), (wl_in 579 rfl rfl), (wl_in 581 rfl rfl), (wl_se 38 rfl rfl), rfl, ⟨by decide, by decide, by decide +kernel⟩, by decide⟩
set_option maxRecDepth 20000 in
theorem wc_M_99 : aw_wS "ArcTapeModel" 99 y_M_natural c_M_natural 1 (some .int) 1 := ⟨(wl_in 585 rfl rfl), (wl_in 10 rfl rfl), (wl_in 583 rfl rfl), (wl_in 584 rfl rfl), ⟨by decide, by decide, by decide +kernel⟩, by decide⟩
set_option maxRecDepth 20000 in
theorem wc_K_57 : Cond.methodLink "ArcTape$Packer" 57 Lib.Math.min.name ∈ wsAll ∧ Cond.static Lib.Math.min.name ∈ wsAll ∧ Cond.initialized "java/lang/Math" ∈ wsAll ∧ Cond.code Lib.Math.min.name Lib.Math.min.code 2 (some .int) ∈ wsAll := ⟨(wl_in 224 rfl rfl), (wl_in 21 rfl rfl), (wl_in 2 rfl rfl), (wl_in 22 rfl rfl)⟩
set_option maxRecDepth 20000 in
theorem wc_O_65 : Cond.methodLink "ArcTape$Scores" 65 Lib.MathLoose.abs_long.x ∈ wsAll ∧ Cond.static Lib.MathLoose.abs_long.x ∈ wsAll ∧ Cond.initialized "java/lang/Math" ∈ wsAll ∧ Cond.code Lib.MathLoose.abs_long.x Lib.MathLoose.abs_long.code 2 (some .long) ∈ wsAll := ⟨(wl_in 510 rfl rfl), (wl_in 511 rfl rfl), (wl_in 2 rfl rfl), (wl_in 512 rfl rfl)⟩
set_option maxRecDepth 20000 in
theorem wc_O_90 : Cond.methodLink "ArcTape$Scores" 90 Lib.MathLoose.max_long.x ∈ wsAll ∧ Cond.static Lib.MathLoose.max_long.x ∈ wsAll ∧ Cond.initialized "java/lang/Math" ∈ wsAll ∧ Cond.code Lib.MathLoose.max_long.x Lib.MathLoose.max_long.code 4 (some .long) ∈ wsAll := ⟨(wl_in 499 rfl rfl), (wl_in 500 rfl rfl), (wl_in 2 rfl rfl), (wl_in 501 rfl rfl)⟩
set_option maxRecDepth 20000 in
theorem wc_O_50 : aw_wY "ArcTape$Scores" 50 := ⟨(wl_in 476 rfl rfl), (wl_in 478 rfl rfl), (wl_in 477 rfl rfl), (wl_in 11 rfl rfl)⟩
end
section
theorem d_T_init_0 : decode c_T_init 0 = .ok (.aload_n 0, 1) := by decide +kernel
theorem d_T_init_1 : decode c_T_init 1 = .ok (.invokespecial 1, 3) := by decide +kernel
theorem d_T_init_4 : decode c_T_init 4 = .ok (.aload_n 0, 1) := by decide +kernel
theorem d_T_init_5 : decode c_T_init 5 = .ok (.sipush 800, 3) := by decide +kernel
theorem d_T_init_8 : decode c_T_init 8 = .ok (.newarray .byte, 2) := by decide +kernel
theorem d_T_init_10 : decode c_T_init 10 = .ok (.putfield 9, 3) := by decide +kernel
theorem d_T_init_13 : decode c_T_init 13 = .ok (.aload_n 0, 1) := by decide +kernel
theorem d_T_init_14 : decode c_T_init 14 = .ok (.iconst 0, 1) := by decide +kernel
theorem d_T_init_15 : decode c_T_init 15 = .ok (.putfield 13, 3) := by decide +kernel
theorem d_T_init_18 : decode c_T_init 18 = .ok (.return_, 1) := by decide +kernel
theorem d_T_putNumber_0 : decode c_T_putNumber 0 = .ok (.iload_n 2, 1) := by decide +kernel
theorem d_T_putNumber_1 : decode c_T_putNumber 1 = .ok (.iconst 1, 1) := by decide +kernel
theorem d_T_putNumber_2 : decode c_T_putNumber 2 = .ok (.isub, 1) := by decide +kernel
theorem d_T_putNumber_3 : decode c_T_putNumber 3 = .ok (.istore_n 3, 1) := by decide +kernel
theorem d_T_putNumber_4 : decode c_T_putNumber 4 = .ok (.iload_n 3, 1) := by decide +kernel
theorem d_T_putNumber_5 : decode c_T_putNumber 5 = .ok (.ifCond .lt 44, 3) := by decide +kernel
theorem d_T_putNumber_8 : decode c_T_putNumber 8 = .ok (.aload_n 0, 1) := by decide +kernel
theorem d_T_putNumber_9 : decode c_T_putNumber 9 = .ok (.getfield 13, 3) := by decide +kernel
theorem d_T_putNumber_12 : decode c_T_putNumber 12 = .ok (.sipush 800, 3) := by decide +kernel
theorem d_T_putNumber_15 : decode c_T_putNumber 15 = .ok (.if_icmp .ge 34, 3) := by decide +kernel
theorem d_T_putNumber_18 : decode c_T_putNumber 18 = .ok (.aload_n 0, 1) := by decide +kernel
theorem d_T_putNumber_19 : decode c_T_putNumber 19 = .ok (.getfield 9, 3) := by decide +kernel
theorem d_T_putNumber_22 : decode c_T_putNumber 22 = .ok (.aload_n 0, 1) := by decide +kernel
theorem d_T_putNumber_23 : decode c_T_putNumber 23 = .ok (.getfield 13, 3) := by decide +kernel
theorem d_T_putNumber_26 : decode c_T_putNumber 26 = .ok (.iload_n 1, 1) := by decide +kernel
theorem d_T_putNumber_27 : decode c_T_putNumber 27 = .ok (.iload_n 3, 1) := by decide +kernel
theorem d_T_putNumber_28 : decode c_T_putNumber 28 = .ok (.ishr, 1) := by decide +kernel
theorem d_T_putNumber_29 : decode c_T_putNumber 29 = .ok (.iconst 1, 1) := by decide +kernel
theorem d_T_putNumber_30 : decode c_T_putNumber 30 = .ok (.iand, 1) := by decide +kernel
theorem d_T_putNumber_31 : decode c_T_putNumber 31 = .ok (.i2b, 1) := by decide +kernel
theorem d_T_putNumber_32 : decode c_T_putNumber 32 = .ok (.bastore, 1) := by decide +kernel
theorem d_T_putNumber_33 : decode c_T_putNumber 33 = .ok (.aload_n 0, 1) := by decide +kernel
theorem d_T_putNumber_34 : decode c_T_putNumber 34 = .ok (.dup, 1) := by decide +kernel
theorem d_T_putNumber_35 : decode c_T_putNumber 35 = .ok (.getfield 13, 3) := by decide +kernel
theorem d_T_putNumber_38 : decode c_T_putNumber 38 = .ok (.iconst 1, 1) := by decide +kernel
theorem d_T_putNumber_39 : decode c_T_putNumber 39 = .ok (.iadd, 1) := by decide +kernel
theorem d_T_putNumber_40 : decode c_T_putNumber 40 = .ok (.putfield 13, 3) := by decide +kernel
theorem d_T_putNumber_43 : decode c_T_putNumber 43 = .ok (.iinc 3 (-1), 3) := by decide +kernel
theorem d_T_putNumber_46 : decode c_T_putNumber 46 = .ok (.goto (-42), 3) := by decide +kernel
theorem d_T_putNumber_49 : decode c_T_putNumber 49 = .ok (.return_, 1) := by decide +kernel
theorem d_T_putUnary_0 : decode c_T_putUnary 0 = .ok (.aload_n 0, 1) := by decide +kernel
theorem d_T_putUnary_1 : decode c_T_putUnary 1 = .ok (.iconst 1, 1) := by decide +kernel
theorem d_T_putUnary_2 : decode c_T_putUnary 2 = .ok (.iload_n 1, 1) := by decide +kernel
theorem d_T_putUnary_3 : decode c_T_putUnary 3 = .ok (.iconst 1, 1) := by decide +kernel
theorem d_T_putUnary_4 : decode c_T_putUnary 4 = .ok (.iadd, 1) := by decide +kernel
theorem d_T_putUnary_5 : decode c_T_putUnary 5 = .ok (.invokevirtual 17, 3) := by decide +kernel
theorem d_T_putUnary_8 : decode c_T_putUnary 8 = .ok (.return_, 1) := by decide +kernel
theorem d_T_putGamma_0 : decode c_T_putGamma 0 = .ok (.aload_n 0, 1) := by decide +kernel
theorem d_T_putGamma_1 : decode c_T_putGamma 1 = .ok (.iload_n 1, 1) := by decide +kernel
theorem d_T_putGamma_2 : decode c_T_putGamma 2 = .ok (.iconst 1, 1) := by decide +kernel
theorem d_T_putGamma_3 : decode c_T_putGamma 3 = .ok (.iadd, 1) := by decide +kernel
theorem d_T_putGamma_4 : decode c_T_putGamma 4 = .ok (.iconst 2, 1) := by decide +kernel
theorem d_T_putGamma_5 : decode c_T_putGamma 5 = .ok (.iload_n 1, 1) := by decide +kernel
theorem d_T_putGamma_6 : decode c_T_putGamma 6 = .ok (.iconst 1, 1) := by decide +kernel
theorem d_T_putGamma_7 : decode c_T_putGamma 7 = .ok (.iadd, 1) := by decide +kernel
theorem d_T_putGamma_8 : decode c_T_putGamma 8 = .ok (.invokestatic 21, 3) := by decide +kernel
theorem d_T_putGamma_11 : decode c_T_putGamma 11 = .ok (.imul, 1) := by decide +kernel
theorem d_T_putGamma_12 : decode c_T_putGamma 12 = .ok (.iconst 1, 1) := by decide +kernel
theorem d_T_putGamma_13 : decode c_T_putGamma 13 = .ok (.iadd, 1) := by decide +kernel
theorem d_T_putGamma_14 : decode c_T_putGamma 14 = .ok (.invokevirtual 17, 3) := by decide +kernel
theorem d_T_putGamma_17 : decode c_T_putGamma 17 = .ok (.return_, 1) := by decide +kernel
theorem d_T_putZeta_0 : decode c_T_putZeta 0 = .ok (.iload_n 1, 1) := by decide +kernel
theorem d_T_putZeta_1 : decode c_T_putZeta 1 = .ok (.iconst 1, 1) := by decide +kernel
theorem d_T_putZeta_2 : decode c_T_putZeta 2 = .ok (.iadd, 1) := by decide +kernel
theorem d_T_putZeta_3 : decode c_T_putZeta 3 = .ok (.invokestatic 21, 3) := by decide +kernel
theorem d_T_putZeta_6 : decode c_T_putZeta 6 = .ok (.iload_n 2, 1) := by decide +kernel
theorem d_T_putZeta_7 : decode c_T_putZeta 7 = .ok (.idiv, 1) := by decide +kernel
theorem d_T_putZeta_8 : decode c_T_putZeta 8 = .ok (.istore_n 3, 1) := by decide +kernel
theorem d_T_putZeta_9 : decode c_T_putZeta 9 = .ok (.iconst 1, 1) := by decide +kernel
theorem d_T_putZeta_10 : decode c_T_putZeta 10 = .ok (.iload_n 3, 1) := by decide +kernel
theorem d_T_putZeta_11 : decode c_T_putZeta 11 = .ok (.iload_n 2, 1) := by decide +kernel
theorem d_T_putZeta_12 : decode c_T_putZeta 12 = .ok (.imul, 1) := by decide +kernel
theorem d_T_putZeta_13 : decode c_T_putZeta 13 = .ok (.ishl, 1) := by decide +kernel
theorem d_T_putZeta_14 : decode c_T_putZeta 14 = .ok (.istore 4, 2) := by decide +kernel
theorem d_T_putZeta_16 : decode c_T_putZeta 16 = .ok (.aload_n 0, 1) := by decide +kernel
theorem d_T_putZeta_17 : decode c_T_putZeta 17 = .ok (.iconst 1, 1) := by decide +kernel
theorem d_T_putZeta_18 : decode c_T_putZeta 18 = .ok (.iload_n 3, 1) := by decide +kernel
theorem d_T_putZeta_19 : decode c_T_putZeta 19 = .ok (.iconst 1, 1) := by decide +kernel
theorem d_T_putZeta_20 : decode c_T_putZeta 20 = .ok (.iadd, 1) := by decide +kernel
theorem d_T_putZeta_21 : decode c_T_putZeta 21 = .ok (.invokevirtual 17, 3) := by decide +kernel
theorem d_T_putZeta_24 : decode c_T_putZeta 24 = .ok (.iload_n 1, 1) := by decide +kernel
theorem d_T_putZeta_25 : decode c_T_putZeta 25 = .ok (.iconst 1, 1) := by decide +kernel
theorem d_T_putZeta_26 : decode c_T_putZeta 26 = .ok (.iadd, 1) := by decide +kernel
theorem d_T_putZeta_27 : decode c_T_putZeta 27 = .ok (.iconst 2, 1) := by decide +kernel
theorem d_T_putZeta_28 : decode c_T_putZeta 28 = .ok (.iload 4, 2) := by decide +kernel
theorem d_T_putZeta_30 : decode c_T_putZeta 30 = .ok (.imul, 1) := by decide +kernel
theorem d_T_putZeta_31 : decode c_T_putZeta 31 = .ok (.if_icmp .ge 23, 3) := by decide +kernel
theorem d_T_putZeta_34 : decode c_T_putZeta 34 = .ok (.aload_n 0, 1) := by decide +kernel
theorem d_T_putZeta_35 : decode c_T_putZeta 35 = .ok (.iload_n 1, 1) := by decide +kernel
theorem d_T_putZeta_36 : decode c_T_putZeta 36 = .ok (.iconst 1, 1) := by decide +kernel
theorem d_T_putZeta_37 : decode c_T_putZeta 37 = .ok (.iadd, 1) := by decide +kernel
theorem d_T_putZeta_38 : decode c_T_putZeta 38 = .ok (.iload 4, 2) := by decide +kernel
theorem d_T_putZeta_40 : decode c_T_putZeta 40 = .ok (.isub, 1) := by decide +kernel
theorem d_T_putZeta_41 : decode c_T_putZeta 41 = .ok (.iload_n 3, 1) := by decide +kernel
theorem d_T_putZeta_42 : decode c_T_putZeta 42 = .ok (.iload_n 2, 1) := by decide +kernel
theorem d_T_putZeta_43 : decode c_T_putZeta 43 = .ok (.imul, 1) := by decide +kernel
theorem d_T_putZeta_44 : decode c_T_putZeta 44 = .ok (.iload_n 2, 1) := by decide +kernel
theorem d_T_putZeta_45 : decode c_T_putZeta 45 = .ok (.iadd, 1) := by decide +kernel
theorem d_T_putZeta_46 : decode c_T_putZeta 46 = .ok (.iconst 1, 1) := by decide +kernel
theorem d_T_putZeta_47 : decode c_T_putZeta 47 = .ok (.isub, 1) := by decide +kernel
theorem d_T_putZeta_48 : decode c_T_putZeta 48 = .ok (.invokevirtual 17, 3) := by decide +kernel
theorem d_T_putZeta_51 : decode c_T_putZeta 51 = .ok (.goto 15, 3) := by decide +kernel
theorem d_T_putZeta_54 : decode c_T_putZeta 54 = .ok (.aload_n 0, 1) := by decide +kernel
theorem d_T_putZeta_55 : decode c_T_putZeta 55 = .ok (.iload_n 1, 1) := by decide +kernel
theorem d_T_putZeta_56 : decode c_T_putZeta 56 = .ok (.iconst 1, 1) := by decide +kernel
theorem d_T_putZeta_57 : decode c_T_putZeta 57 = .ok (.iadd, 1) := by decide +kernel
theorem d_T_putZeta_58 : decode c_T_putZeta 58 = .ok (.iload_n 3, 1) := by decide +kernel
theorem d_T_putZeta_59 : decode c_T_putZeta 59 = .ok (.iload_n 2, 1) := by decide +kernel
theorem d_T_putZeta_60 : decode c_T_putZeta 60 = .ok (.imul, 1) := by decide +kernel
theorem d_T_putZeta_61 : decode c_T_putZeta 61 = .ok (.iload_n 2, 1) := by decide +kernel
theorem d_T_putZeta_62 : decode c_T_putZeta 62 = .ok (.iadd, 1) := by decide +kernel
theorem d_T_putZeta_63 : decode c_T_putZeta 63 = .ok (.invokevirtual 17, 3) := by decide +kernel
theorem d_T_putZeta_66 : decode c_T_putZeta 66 = .ok (.return_, 1) := by decide +kernel
theorem d_T_exponent_0 : decode c_T_exponent 0 = .ok (.iconst 0, 1) := by decide +kernel
theorem d_T_exponent_1 : decode c_T_exponent 1 = .ok (.istore_n 1, 1) := by decide +kernel
theorem d_T_exponent_2 : decode c_T_exponent 2 = .ok (.iload_n 1, 1) := by decide +kernel
theorem d_T_exponent_3 : decode c_T_exponent 3 = .ok (.bipush 30, 2) := by decide +kernel
theorem d_T_exponent_5 : decode c_T_exponent 5 = .ok (.if_icmp .ge 18, 3) := by decide +kernel
theorem d_T_exponent_8 : decode c_T_exponent 8 = .ok (.iconst 1, 1) := by decide +kernel
theorem d_T_exponent_9 : decode c_T_exponent 9 = .ok (.iload_n 1, 1) := by decide +kernel
theorem d_T_exponent_10 : decode c_T_exponent 10 = .ok (.iconst 1, 1) := by decide +kernel
theorem d_T_exponent_11 : decode c_T_exponent 11 = .ok (.iadd, 1) := by decide +kernel
theorem d_T_exponent_12 : decode c_T_exponent 12 = .ok (.ishl, 1) := by decide +kernel
theorem d_T_exponent_13 : decode c_T_exponent 13 = .ok (.iload_n 0, 1) := by decide +kernel
theorem d_T_exponent_14 : decode c_T_exponent 14 = .ok (.if_icmp .gt 9, 3) := by decide +kernel
theorem d_T_exponent_17 : decode c_T_exponent 17 = .ok (.iinc 1 1, 3) := by decide +kernel
theorem d_T_exponent_20 : decode c_T_exponent 20 = .ok (.goto (-18), 3) := by decide +kernel
theorem d_T_exponent_23 : decode c_T_exponent 23 = .ok (.iload_n 1, 1) := by decide +kernel
theorem d_T_exponent_24 : decode c_T_exponent 24 = .ok (.ireturn, 1) := by decide +kernel
theorem d_T_withoutSign_0 : decode c_T_withoutSign 0 = .ok (.iload_n 0, 1) := by decide +kernel
theorem d_T_withoutSign_1 : decode c_T_withoutSign 1 = .ok (.ifCond .lt 9, 3) := by decide +kernel
theorem d_T_withoutSign_4 : decode c_T_withoutSign 4 = .ok (.iconst 2, 1) := by decide +kernel
theorem d_T_withoutSign_5 : decode c_T_withoutSign 5 = .ok (.iload_n 0, 1) := by decide +kernel
theorem d_T_withoutSign_6 : decode c_T_withoutSign 6 = .ok (.imul, 1) := by decide +kernel
theorem d_T_withoutSign_7 : decode c_T_withoutSign 7 = .ok (.goto 9, 3) := by decide +kernel
theorem d_T_withoutSign_10 : decode c_T_withoutSign 10 = .ok (.bipush (-2), 2) := by decide +kernel
theorem d_T_withoutSign_12 : decode c_T_withoutSign 12 = .ok (.iload_n 0, 1) := by decide +kernel
theorem d_T_withoutSign_13 : decode c_T_withoutSign 13 = .ok (.imul, 1) := by decide +kernel
theorem d_T_withoutSign_14 : decode c_T_withoutSign 14 = .ok (.iconst 1, 1) := by decide +kernel
theorem d_T_withoutSign_15 : decode c_T_withoutSign 15 = .ok (.isub, 1) := by decide +kernel
theorem d_T_withoutSign_16 : decode c_T_withoutSign 16 = .ok (.ireturn, 1) := by decide +kernel
theorem d_T_withSign_0 : decode c_T_withSign 0 = .ok (.iload_n 0, 1) := by decide +kernel
theorem d_T_withSign_1 : decode c_T_withSign 1 = .ok (.iconst 2, 1) := by decide +kernel
theorem d_T_withSign_2 : decode c_T_withSign 2 = .ok (.irem, 1) := by decide +kernel
theorem d_T_withSign_3 : decode c_T_withSign 3 = .ok (.ifCond .ne 9, 3) := by decide +kernel
theorem d_T_withSign_6 : decode c_T_withSign 6 = .ok (.iload_n 0, 1) := by decide +kernel
theorem d_T_withSign_7 : decode c_T_withSign 7 = .ok (.iconst 2, 1) := by decide +kernel
theorem d_T_withSign_8 : decode c_T_withSign 8 = .ok (.idiv, 1) := by decide +kernel
theorem d_T_withSign_9 : decode c_T_withSign 9 = .ok (.goto 9, 3) := by decide +kernel
theorem d_T_withSign_12 : decode c_T_withSign 12 = .ok (.iload_n 0, 1) := by decide +kernel
theorem d_T_withSign_13 : decode c_T_withSign 13 = .ok (.iconst 1, 1) := by decide +kernel
theorem d_T_withSign_14 : decode c_T_withSign 14 = .ok (.iadd, 1) := by decide +kernel
theorem d_T_withSign_15 : decode c_T_withSign 15 = .ok (.ineg, 1) := by decide +kernel
theorem d_T_withSign_16 : decode c_T_withSign 16 = .ok (.iconst 2, 1) := by decide +kernel
theorem d_T_withSign_17 : decode c_T_withSign 17 = .ok (.idiv, 1) := by decide +kernel
theorem d_T_withSign_18 : decode c_T_withSign 18 = .ok (.ireturn, 1) := by decide +kernel
theorem d_A_init_0 : decode c_A_init 0 = .ok (.aload_n 0, 1) := by decide +kernel
theorem d_A_init_1 : decode c_A_init 1 = .ok (.invokespecial 1, 3) := by decide +kernel
theorem d_A_init_4 : decode c_A_init 4 = .ok (.aload_n 0, 1) := by decide +kernel
theorem d_A_init_5 : decode c_A_init 5 = .ok (.iconst 1, 1) := by decide +kernel
theorem d_A_init_6 : decode c_A_init 6 = .ok (.bipush 12, 2) := by decide +kernel
theorem d_A_init_8 : decode c_A_init 8 = .ok (.iload_n 1, 1) := by decide +kernel
theorem d_A_init_9 : decode c_A_init 9 = .ok (.invokestatic 9, 3) := by decide +kernel
theorem d_A_init_12 : decode c_A_init 12 = .ok (.invokestatic 15, 3) := by decide +kernel
theorem d_A_init_15 : decode c_A_init 15 = .ok (.putfield 18, 3) := by decide +kernel
theorem d_A_init_18 : decode c_A_init 18 = .ok (.aload_n 0, 1) := by decide +kernel
theorem d_A_init_19 : decode c_A_init 19 = .ok (.aload_n 0, 1) := by decide +kernel
theorem d_A_init_20 : decode c_A_init 20 = .ok (.getfield 18, 3) := by decide +kernel
theorem d_A_init_23 : decode c_A_init 23 = .ok (.newarray .int, 2) := by decide +kernel
theorem d_A_init_25 : decode c_A_init 25 = .ok (.putfield 22, 3) := by decide +kernel
theorem d_A_init_28 : decode c_A_init 28 = .ok (.aload_n 0, 1) := by decide +kernel
theorem d_A_init_29 : decode c_A_init 29 = .ok (.new 26, 3) := by decide +kernel
theorem d_A_init_32 : decode c_A_init 32 = .ok (.dup, 1) := by decide +kernel
theorem d_A_init_33 : decode c_A_init 33 = .ok (.invokespecial 28, 3) := by decide +kernel
theorem d_A_init_36 : decode c_A_init 36 = .ok (.putfield 29, 3) := by decide +kernel
theorem d_A_init_39 : decode c_A_init 39 = .ok (.aload_n 0, 1) := by decide +kernel
theorem d_A_init_40 : decode c_A_init 40 = .ok (.new 33, 3) := by decide +kernel
theorem d_A_init_43 : decode c_A_init 43 = .ok (.dup, 1) := by decide +kernel
theorem d_A_init_44 : decode c_A_init 44 = .ok (.aload_n 0, 1) := by decide +kernel
theorem d_A_init_45 : decode c_A_init 45 = .ok (.getfield 18, 3) := by decide +kernel
theorem d_A_init_48 : decode c_A_init 48 = .ok (.invokespecial 35, 3) := by decide +kernel
theorem d_A_init_51 : decode c_A_init 51 = .ok (.putfield 38, 3) := by decide +kernel
theorem d_A_init_54 : decode c_A_init 54 = .ok (.aload_n 0, 1) := by decide +kernel
theorem d_A_init_55 : decode c_A_init 55 = .ok (.new 42, 3) := by decide +kernel
theorem d_A_init_58 : decode c_A_init 58 = .ok (.dup, 1) := by decide +kernel
theorem d_A_init_59 : decode c_A_init 59 = .ok (.aload_n 0, 1) := by decide +kernel
theorem d_A_init_60 : decode c_A_init 60 = .ok (.getfield 22, 3) := by decide +kernel
theorem d_A_init_63 : decode c_A_init 63 = .ok (.aload_n 0, 1) := by decide +kernel
theorem d_A_init_64 : decode c_A_init 64 = .ok (.getfield 38, 3) := by decide +kernel
theorem d_A_init_67 : decode c_A_init 67 = .ok (.aload_n 0, 1) := by decide +kernel
theorem d_A_init_68 : decode c_A_init 68 = .ok (.getfield 29, 3) := by decide +kernel
theorem d_A_init_71 : decode c_A_init 71 = .ok (.invokespecial 44, 3) := by decide +kernel
theorem d_A_init_74 : decode c_A_init 74 = .ok (.putfield 47, 3) := by decide +kernel
theorem d_A_init_77 : decode c_A_init 77 = .ok (.aload_n 0, 1) := by decide +kernel
theorem d_A_init_78 : decode c_A_init 78 = .ok (.new 51, 3) := by decide +kernel
theorem d_A_init_81 : decode c_A_init 81 = .ok (.dup, 1) := by decide +kernel
theorem d_A_init_82 : decode c_A_init 82 = .ok (.aload_n 0, 1) := by decide +kernel
theorem d_A_init_83 : decode c_A_init 83 = .ok (.getfield 18, 3) := by decide +kernel
theorem d_A_init_86 : decode c_A_init 86 = .ok (.aload_n 0, 1) := by decide +kernel
theorem d_A_init_87 : decode c_A_init 87 = .ok (.getfield 38, 3) := by decide +kernel
theorem d_A_init_90 : decode c_A_init 90 = .ok (.aload_n 0, 1) := by decide +kernel
theorem d_A_init_91 : decode c_A_init 91 = .ok (.getfield 29, 3) := by decide +kernel
theorem d_A_init_94 : decode c_A_init 94 = .ok (.invokespecial 53, 3) := by decide +kernel
theorem d_A_init_97 : decode c_A_init 97 = .ok (.putfield 56, 3) := by decide +kernel
theorem d_A_init_100 : decode c_A_init 100 = .ok (.aload_n 0, 1) := by decide +kernel
theorem d_A_init_101 : decode c_A_init 101 = .ok (.new 60, 3) := by decide +kernel
theorem d_A_init_104 : decode c_A_init 104 = .ok (.dup, 1) := by decide +kernel
theorem d_A_init_105 : decode c_A_init 105 = .ok (.aload_n 0, 1) := by decide +kernel
theorem d_A_init_106 : decode c_A_init 106 = .ok (.getfield 56, 3) := by decide +kernel
theorem d_A_init_109 : decode c_A_init 109 = .ok (.getfield 62, 3) := by decide +kernel
theorem d_A_init_112 : decode c_A_init 112 = .ok (.invokespecial 65, 3) := by decide +kernel
theorem d_A_init_115 : decode c_A_init 115 = .ok (.putfield 68, 3) := by decide +kernel
theorem d_A_init_118 : decode c_A_init 118 = .ok (.aload_n 0, 1) := by decide +kernel
theorem d_A_init_119 : decode c_A_init 119 = .ok (.new 72, 3) := by decide +kernel
theorem d_A_init_122 : decode c_A_init 122 = .ok (.dup, 1) := by decide +kernel
theorem d_A_init_123 : decode c_A_init 123 = .ok (.aload_n 0, 1) := by decide +kernel
theorem d_A_init_124 : decode c_A_init 124 = .ok (.getfield 56, 3) := by decide +kernel
theorem d_A_init_127 : decode c_A_init 127 = .ok (.getfield 62, 3) := by decide +kernel
theorem d_A_init_130 : decode c_A_init 130 = .ok (.invokespecial 74, 3) := by decide +kernel
theorem d_A_init_133 : decode c_A_init 133 = .ok (.putfield 75, 3) := by decide +kernel
theorem d_A_init_136 : decode c_A_init 136 = .ok (.aload_n 0, 1) := by decide +kernel
theorem d_A_init_137 : decode c_A_init 137 = .ok (.getfield 47, 3) := by decide +kernel
theorem d_A_init_140 : decode c_A_init 140 = .ok (.invokevirtual 79, 3) := by decide +kernel
theorem d_A_init_143 : decode c_A_init 143 = .ok (.aload_n 0, 1) := by decide +kernel
theorem d_A_init_144 : decode c_A_init 144 = .ok (.getfield 56, 3) := by decide +kernel
theorem d_A_init_147 : decode c_A_init 147 = .ok (.invokevirtual 82, 3) := by decide +kernel
theorem d_A_init_150 : decode c_A_init 150 = .ok (.aload_n 0, 1) := by decide +kernel
theorem d_A_init_151 : decode c_A_init 151 = .ok (.getfield 75, 3) := by decide +kernel
theorem d_A_init_154 : decode c_A_init 154 = .ok (.iconst 0, 1) := by decide +kernel
theorem d_A_init_155 : decode c_A_init 155 = .ok (.sipush 850, 3) := by decide +kernel
theorem d_A_init_158 : decode c_A_init 158 = .ok (.invokevirtual 85, 3) := by decide +kernel
theorem d_A_init_161 : decode c_A_init 161 = .ok (.return_, 1) := by decide +kernel
theorem d_A_add_0 : decode c_A_add 0 = .ok (.aload_n 0, 1) := by decide +kernel
theorem d_A_add_1 : decode c_A_add 1 = .ok (.iload_n 1, 1) := by decide +kernel
theorem d_A_add_2 : decode c_A_add 2 = .ok (.invokevirtual 89, 3) := by decide +kernel
theorem d_A_add_5 : decode c_A_add 5 = .ok (.ifCond .eq 24, 3) := by decide +kernel
theorem d_A_add_8 : decode c_A_add 8 = .ok (.aload_n 0, 1) := by decide +kernel
theorem d_A_add_9 : decode c_A_add 9 = .ok (.iload_n 2, 1) := by decide +kernel
theorem d_A_add_10 : decode c_A_add 10 = .ok (.invokevirtual 89, 3) := by decide +kernel
theorem d_A_add_13 : decode c_A_add 13 = .ok (.ifCond .eq 16, 3) := by decide +kernel
theorem d_A_add_16 : decode c_A_add 16 = .ok (.aload_n 0, 1) := by decide +kernel
theorem d_A_add_17 : decode c_A_add 17 = .ok (.getfield 22, 3) := by decide +kernel
theorem d_A_add_20 : decode c_A_add 20 = .ok (.iload_n 1, 1) := by decide +kernel
theorem d_A_add_21 : decode c_A_add 21 = .ok (.iaload, 1) := by decide +kernel
theorem d_A_add_22 : decode c_A_add 22 = .ok (.iload_n 2, 1) := by decide +kernel
theorem d_A_add_23 : decode c_A_add 23 = .ok (.invokestatic 93, 3) := by decide +kernel
theorem d_A_add_26 : decode c_A_add 26 = .ok (.ifCond .eq 5, 3) := by decide +kernel
theorem d_A_add_29 : decode c_A_add 29 = .ok (.iconst 0, 1) := by decide +kernel
theorem d_A_add_30 : decode c_A_add 30 = .ok (.ireturn, 1) := by decide +kernel
theorem d_A_add_31 : decode c_A_add 31 = .ok (.aload_n 0, 1) := by decide +kernel
theorem d_A_add_32 : decode c_A_add 32 = .ok (.getfield 22, 3) := by decide +kernel
theorem d_A_add_35 : decode c_A_add 35 = .ok (.iload_n 1, 1) := by decide +kernel
theorem d_A_add_36 : decode c_A_add 36 = .ok (.dup2, 1) := by decide +kernel
theorem d_A_add_37 : decode c_A_add 37 = .ok (.iaload, 1) := by decide +kernel
theorem d_A_add_38 : decode c_A_add 38 = .ok (.iconst 1, 1) := by decide +kernel
theorem d_A_add_39 : decode c_A_add 39 = .ok (.iload_n 2, 1) := by decide +kernel
theorem d_A_add_40 : decode c_A_add 40 = .ok (.ishl, 1) := by decide +kernel
theorem d_A_add_41 : decode c_A_add 41 = .ok (.ior, 1) := by decide +kernel
theorem d_A_add_42 : decode c_A_add 42 = .ok (.iastore, 1) := by decide +kernel
theorem d_A_add_43 : decode c_A_add 43 = .ok (.iconst 1, 1) := by decide +kernel
theorem d_A_add_44 : decode c_A_add 44 = .ok (.ireturn, 1) := by decide +kernel
theorem d_A_drop_0 : decode c_A_drop 0 = .ok (.aload_n 0, 1) := by decide +kernel
theorem d_A_drop_1 : decode c_A_drop 1 = .ok (.iload_n 1, 1) := by decide +kernel
theorem d_A_drop_2 : decode c_A_drop 2 = .ok (.invokevirtual 89, 3) := by decide +kernel
theorem d_A_drop_5 : decode c_A_drop 5 = .ok (.ifCond .eq 24, 3) := by decide +kernel
theorem d_A_drop_8 : decode c_A_drop 8 = .ok (.aload_n 0, 1) := by decide +kernel
theorem d_A_drop_9 : decode c_A_drop 9 = .ok (.iload_n 2, 1) := by decide +kernel
theorem d_A_drop_10 : decode c_A_drop 10 = .ok (.invokevirtual 89, 3) := by decide +kernel
theorem d_A_drop_13 : decode c_A_drop 13 = .ok (.ifCond .eq 16, 3) := by decide +kernel
theorem d_A_drop_16 : decode c_A_drop 16 = .ok (.aload_n 0, 1) := by decide +kernel
theorem d_A_drop_17 : decode c_A_drop 17 = .ok (.getfield 22, 3) := by decide +kernel
theorem d_A_drop_20 : decode c_A_drop 20 = .ok (.iload_n 1, 1) := by decide +kernel
theorem d_A_drop_21 : decode c_A_drop 21 = .ok (.iaload, 1) := by decide +kernel
theorem d_A_drop_22 : decode c_A_drop 22 = .ok (.iload_n 2, 1) := by decide +kernel
theorem d_A_drop_23 : decode c_A_drop 23 = .ok (.invokestatic 93, 3) := by decide +kernel
theorem d_A_drop_26 : decode c_A_drop 26 = .ok (.ifCond .ne 5, 3) := by decide +kernel
theorem d_A_drop_29 : decode c_A_drop 29 = .ok (.iconst 0, 1) := by decide +kernel
theorem d_A_drop_30 : decode c_A_drop 30 = .ok (.ireturn, 1) := by decide +kernel
theorem d_A_drop_31 : decode c_A_drop 31 = .ok (.aload_n 0, 1) := by decide +kernel
theorem d_A_drop_32 : decode c_A_drop 32 = .ok (.getfield 22, 3) := by decide +kernel
theorem d_A_drop_35 : decode c_A_drop 35 = .ok (.iload_n 1, 1) := by decide +kernel
theorem d_A_drop_36 : decode c_A_drop 36 = .ok (.dup2, 1) := by decide +kernel
theorem d_A_drop_37 : decode c_A_drop 37 = .ok (.iaload, 1) := by decide +kernel
theorem d_A_drop_38 : decode c_A_drop 38 = .ok (.iconst 1, 1) := by decide +kernel
theorem d_A_drop_39 : decode c_A_drop 39 = .ok (.iload_n 2, 1) := by decide +kernel
theorem d_A_drop_40 : decode c_A_drop 40 = .ok (.ishl, 1) := by decide +kernel
theorem d_A_drop_41 : decode c_A_drop 41 = .ok (.iconst (-1), 1) := by decide +kernel
theorem d_A_drop_42 : decode c_A_drop 42 = .ok (.ixor, 1) := by decide +kernel
theorem d_A_drop_43 : decode c_A_drop 43 = .ok (.iand, 1) := by decide +kernel
theorem d_A_drop_44 : decode c_A_drop 44 = .ok (.iastore, 1) := by decide +kernel
theorem d_A_drop_45 : decode c_A_drop 45 = .ok (.iconst 1, 1) := by decide +kernel
theorem d_A_drop_46 : decode c_A_drop 46 = .ok (.ireturn, 1) := by decide +kernel
theorem d_A_pack_0 : decode c_A_pack 0 = .ok (.iload_n 1, 1) := by decide +kernel
theorem d_A_pack_1 : decode c_A_pack 1 = .ok (.iconst 0, 1) := by decide +kernel
theorem d_A_pack_2 : decode c_A_pack 2 = .ok (.bipush 6, 2) := by decide +kernel
theorem d_A_pack_4 : decode c_A_pack 4 = .ok (.invokestatic 97, 3) := by decide +kernel
theorem d_A_pack_7 : decode c_A_pack 7 = .ok (.ifCond .eq 32, 3) := by decide +kernel
theorem d_A_pack_10 : decode c_A_pack 10 = .ok (.iload_n 2, 1) := by decide +kernel
theorem d_A_pack_11 : decode c_A_pack 11 = .ok (.iconst 0, 1) := by decide +kernel
theorem d_A_pack_12 : decode c_A_pack 12 = .ok (.iconst 3, 1) := by decide +kernel
theorem d_A_pack_13 : decode c_A_pack 13 = .ok (.invokestatic 97, 3) := by decide +kernel
theorem d_A_pack_16 : decode c_A_pack 16 = .ok (.ifCond .eq 23, 3) := by decide +kernel
theorem d_A_pack_19 : decode c_A_pack 19 = .ok (.iload_n 3, 1) := by decide +kernel
theorem d_A_pack_20 : decode c_A_pack 20 = .ok (.iconst 0, 1) := by decide +kernel
theorem d_A_pack_21 : decode c_A_pack 21 = .ok (.bipush 9, 2) := by decide +kernel
theorem d_A_pack_23 : decode c_A_pack 23 = .ok (.invokestatic 97, 3) := by decide +kernel
theorem d_A_pack_26 : decode c_A_pack 26 = .ok (.ifCond .eq 13, 3) := by decide +kernel
theorem d_A_pack_29 : decode c_A_pack 29 = .ok (.iload 4, 2) := by decide +kernel
theorem d_A_pack_31 : decode c_A_pack 31 = .ok (.iconst 1, 1) := by decide +kernel
theorem d_A_pack_32 : decode c_A_pack 32 = .ok (.iconst 4, 1) := by decide +kernel
theorem d_A_pack_33 : decode c_A_pack 33 = .ok (.invokestatic 97, 3) := by decide +kernel
theorem d_A_pack_36 : decode c_A_pack 36 = .ok (.ifCond .ne 5, 3) := by decide +kernel
theorem d_A_pack_39 : decode c_A_pack 39 = .ok (.iconst (-1), 1) := by decide +kernel
theorem d_A_pack_40 : decode c_A_pack 40 = .ok (.ireturn, 1) := by decide +kernel
theorem d_A_pack_41 : decode c_A_pack 41 = .ok (.aload_n 0, 1) := by decide +kernel
theorem d_A_pack_42 : decode c_A_pack 42 = .ok (.getfield 38, 3) := by decide +kernel
theorem d_A_pack_45 : decode c_A_pack 45 = .ok (.iload_n 1, 1) := by decide +kernel
theorem d_A_pack_46 : decode c_A_pack 46 = .ok (.putfield 101, 3) := by decide +kernel
theorem d_A_pack_49 : decode c_A_pack 49 = .ok (.aload_n 0, 1) := by decide +kernel
theorem d_A_pack_50 : decode c_A_pack 50 = .ok (.getfield 38, 3) := by decide +kernel
theorem d_A_pack_53 : decode c_A_pack 53 = .ok (.iload_n 2, 1) := by decide +kernel
theorem d_A_pack_54 : decode c_A_pack 54 = .ok (.putfield 104, 3) := by decide +kernel
theorem d_A_pack_57 : decode c_A_pack 57 = .ok (.aload_n 0, 1) := by decide +kernel
theorem d_A_pack_58 : decode c_A_pack 58 = .ok (.getfield 38, 3) := by decide +kernel
theorem d_A_pack_61 : decode c_A_pack 61 = .ok (.iload_n 3, 1) := by decide +kernel
theorem d_A_pack_62 : decode c_A_pack 62 = .ok (.putfield 107, 3) := by decide +kernel
theorem d_A_pack_65 : decode c_A_pack 65 = .ok (.aload_n 0, 1) := by decide +kernel
theorem d_A_pack_66 : decode c_A_pack 66 = .ok (.getfield 38, 3) := by decide +kernel
theorem d_A_pack_69 : decode c_A_pack 69 = .ok (.iload 4, 2) := by decide +kernel
theorem d_A_pack_71 : decode c_A_pack 71 = .ok (.putfield 110, 3) := by decide +kernel
theorem d_A_pack_74 : decode c_A_pack 74 = .ok (.aload_n 0, 1) := by decide +kernel
theorem d_A_pack_75 : decode c_A_pack 75 = .ok (.getfield 47, 3) := by decide +kernel
theorem d_A_pack_78 : decode c_A_pack 78 = .ok (.invokevirtual 79, 3) := by decide +kernel
theorem d_A_pack_81 : decode c_A_pack 81 = .ok (.aload_n 0, 1) := by decide +kernel
theorem d_A_pack_82 : decode c_A_pack 82 = .ok (.getfield 56, 3) := by decide +kernel
theorem d_A_pack_85 : decode c_A_pack 85 = .ok (.invokevirtual 82, 3) := by decide +kernel
theorem d_A_pack_88 : decode c_A_pack 88 = .ok (.aload_n 0, 1) := by decide +kernel
theorem d_A_pack_89 : decode c_A_pack 89 = .ok (.getfield 29, 3) := by decide +kernel
theorem d_A_pack_92 : decode c_A_pack 92 = .ok (.getfield 113, 3) := by decide +kernel
theorem d_A_pack_95 : decode c_A_pack 95 = .ok (.ireturn, 1) := by decide +kernel
theorem d_A_offset_0 : decode c_A_offset 0 = .ok (.iload_n 1, 1) := by decide +kernel
theorem d_A_offset_1 : decode c_A_offset 1 = .ok (.iconst 0, 1) := by decide +kernel
theorem d_A_offset_2 : decode c_A_offset 2 = .ok (.aload_n 0, 1) := by decide +kernel
theorem d_A_offset_3 : decode c_A_offset 3 = .ok (.getfield 18, 3) := by decide +kernel
theorem d_A_offset_6 : decode c_A_offset 6 = .ok (.invokestatic 97, 3) := by decide +kernel
theorem d_A_offset_9 : decode c_A_offset 9 = .ok (.ifCond .eq 15, 3) := by decide +kernel
theorem d_A_offset_12 : decode c_A_offset 12 = .ok (.aload_n 0, 1) := by decide +kernel
theorem d_A_offset_13 : decode c_A_offset 13 = .ok (.getfield 38, 3) := by decide +kernel
theorem d_A_offset_16 : decode c_A_offset 16 = .ok (.getfield 116, 3) := by decide +kernel
theorem d_A_offset_19 : decode c_A_offset 19 = .ok (.iload_n 1, 1) := by decide +kernel
theorem d_A_offset_20 : decode c_A_offset 20 = .ok (.iaload, 1) := by decide +kernel
theorem d_A_offset_21 : decode c_A_offset 21 = .ok (.goto 4, 3) := by decide +kernel
theorem d_A_offset_24 : decode c_A_offset 24 = .ok (.iconst (-1), 1) := by decide +kernel
theorem d_A_offset_25 : decode c_A_offset 25 = .ok (.ireturn, 1) := by decide +kernel
theorem d_A_bit_0 : decode c_A_bit 0 = .ok (.aload_n 0, 1) := by decide +kernel
theorem d_A_bit_1 : decode c_A_bit 1 = .ok (.iload_n 1, 1) := by decide +kernel
theorem d_A_bit_2 : decode c_A_bit 2 = .ok (.invokevirtual 119, 3) := by decide +kernel
theorem d_A_bit_5 : decode c_A_bit 5 = .ok (.ifCond .eq 15, 3) := by decide +kernel
theorem d_A_bit_8 : decode c_A_bit 8 = .ok (.aload_n 0, 1) := by decide +kernel
theorem d_A_bit_9 : decode c_A_bit 9 = .ok (.getfield 29, 3) := by decide +kernel
theorem d_A_bit_12 : decode c_A_bit 12 = .ok (.getfield 122, 3) := by decide +kernel
theorem d_A_bit_15 : decode c_A_bit 15 = .ok (.iload_n 1, 1) := by decide +kernel
theorem d_A_bit_16 : decode c_A_bit 16 = .ok (.baload, 1) := by decide +kernel
theorem d_A_bit_17 : decode c_A_bit 17 = .ok (.goto 4, 3) := by decide +kernel
theorem d_A_bit_20 : decode c_A_bit 20 = .ok (.iconst (-1), 1) := by decide +kernel
theorem d_A_bit_21 : decode c_A_bit 21 = .ok (.ireturn, 1) := by decide +kernel
theorem d_A_flip_0 : decode c_A_flip 0 = .ok (.aload_n 0, 1) := by decide +kernel
theorem d_A_flip_1 : decode c_A_flip 1 = .ok (.iload_n 1, 1) := by decide +kernel
theorem d_A_flip_2 : decode c_A_flip 2 = .ok (.invokevirtual 119, 3) := by decide +kernel
theorem d_A_flip_5 : decode c_A_flip 5 = .ok (.ifCond .ne 5, 3) := by decide +kernel
theorem d_A_flip_8 : decode c_A_flip 8 = .ok (.iconst 0, 1) := by decide +kernel
theorem d_A_flip_9 : decode c_A_flip 9 = .ok (.ireturn, 1) := by decide +kernel
theorem d_A_flip_10 : decode c_A_flip 10 = .ok (.aload_n 0, 1) := by decide +kernel
theorem d_A_flip_11 : decode c_A_flip 11 = .ok (.getfield 29, 3) := by decide +kernel
theorem d_A_flip_14 : decode c_A_flip 14 = .ok (.getfield 122, 3) := by decide +kernel
theorem d_A_flip_17 : decode c_A_flip 17 = .ok (.iload_n 1, 1) := by decide +kernel
theorem d_A_flip_18 : decode c_A_flip 18 = .ok (.iconst 1, 1) := by decide +kernel
theorem d_A_flip_19 : decode c_A_flip 19 = .ok (.aload_n 0, 1) := by decide +kernel
theorem d_A_flip_20 : decode c_A_flip 20 = .ok (.getfield 29, 3) := by decide +kernel
theorem d_A_flip_23 : decode c_A_flip 23 = .ok (.getfield 122, 3) := by decide +kernel
theorem d_A_flip_26 : decode c_A_flip 26 = .ok (.iload_n 1, 1) := by decide +kernel
theorem d_A_flip_27 : decode c_A_flip 27 = .ok (.baload, 1) := by decide +kernel
theorem d_A_flip_28 : decode c_A_flip 28 = .ok (.isub, 1) := by decide +kernel
theorem d_A_flip_29 : decode c_A_flip 29 = .ok (.i2b, 1) := by decide +kernel
theorem d_A_flip_30 : decode c_A_flip 30 = .ok (.bastore, 1) := by decide +kernel
theorem d_A_flip_31 : decode c_A_flip 31 = .ok (.aload_n 0, 1) := by decide +kernel
theorem d_A_flip_32 : decode c_A_flip 32 = .ok (.getfield 56, 3) := by decide +kernel
theorem d_A_flip_35 : decode c_A_flip 35 = .ok (.invokevirtual 82, 3) := by decide +kernel
theorem d_A_flip_38 : decode c_A_flip 38 = .ok (.iconst 1, 1) := by decide +kernel
theorem d_A_flip_39 : decode c_A_flip 39 = .ok (.ireturn, 1) := by decide +kernel
theorem d_A_degree_0 : decode c_A_degree 0 = .ok (.aload_n 0, 1) := by decide +kernel
theorem d_A_degree_1 : decode c_A_degree 1 = .ok (.iload_n 1, 1) := by decide +kernel
theorem d_A_degree_2 : decode c_A_degree 2 = .ok (.invokevirtual 89, 3) := by decide +kernel
theorem d_A_degree_5 : decode c_A_degree 5 = .ok (.ifCond .ne 6, 3) := by decide +kernel
theorem d_A_degree_8 : decode c_A_degree 8 = .ok (.bipush (-100), 2) := by decide +kernel
theorem d_A_degree_10 : decode c_A_degree 10 = .ok (.ireturn, 1) := by decide +kernel
theorem d_A_degree_11 : decode c_A_degree 11 = .ok (.aload_n 0, 1) := by decide +kernel
theorem d_A_degree_12 : decode c_A_degree 12 = .ok (.getfield 56, 3) := by decide +kernel
theorem d_A_degree_15 : decode c_A_degree 15 = .ok (.getfield 126, 3) := by decide +kernel
theorem d_A_degree_18 : decode c_A_degree 18 = .ok (.iload_n 1, 1) := by decide +kernel
theorem d_A_degree_19 : decode c_A_degree 19 = .ok (.iaload, 1) := by decide +kernel
theorem d_A_degree_20 : decode c_A_degree 20 = .ok (.ifCond .ne 18, 3) := by decide +kernel
theorem d_A_degree_23 : decode c_A_degree 23 = .ok (.aload_n 0, 1) := by decide +kernel
theorem d_A_degree_24 : decode c_A_degree 24 = .ok (.getfield 56, 3) := by decide +kernel
theorem d_A_degree_27 : decode c_A_degree 27 = .ok (.getfield 62, 3) := by decide +kernel
theorem d_A_degree_30 : decode c_A_degree 30 = .ok (.iload_n 1, 1) := by decide +kernel
theorem d_A_degree_31 : decode c_A_degree 31 = .ok (.iaload, 1) := by decide +kernel
theorem d_A_degree_32 : decode c_A_degree 32 = .ok (.invokestatic 129, 3) := by decide +kernel
theorem d_A_degree_35 : decode c_A_degree 35 = .ok (.goto 13, 3) := by decide +kernel
theorem d_A_degree_38 : decode c_A_degree 38 = .ok (.aload_n 0, 1) := by decide +kernel
theorem d_A_degree_39 : decode c_A_degree 39 = .ok (.getfield 56, 3) := by decide +kernel
theorem d_A_degree_42 : decode c_A_degree 42 = .ok (.getfield 126, 3) := by decide +kernel
theorem d_A_degree_45 : decode c_A_degree 45 = .ok (.iload_n 1, 1) := by decide +kernel
theorem d_A_degree_46 : decode c_A_degree 46 = .ok (.iaload, 1) := by decide +kernel
theorem d_A_degree_47 : decode c_A_degree 47 = .ok (.ineg, 1) := by decide +kernel
theorem d_A_degree_48 : decode c_A_degree 48 = .ok (.ireturn, 1) := by decide +kernel
theorem d_A_successor_0 : decode c_A_successor 0 = .ok (.aload_n 0, 1) := by decide +kernel
theorem d_A_successor_1 : decode c_A_successor 1 = .ok (.iload_n 1, 1) := by decide +kernel
theorem d_A_successor_2 : decode c_A_successor 2 = .ok (.invokevirtual 89, 3) := by decide +kernel
theorem d_A_successor_5 : decode c_A_successor 5 = .ok (.ifCond .ne 5, 3) := by decide +kernel
theorem d_A_successor_8 : decode c_A_successor 8 = .ok (.iconst (-1), 1) := by decide +kernel
theorem d_A_successor_9 : decode c_A_successor 9 = .ok (.ireturn, 1) := by decide +kernel
theorem d_A_successor_10 : decode c_A_successor 10 = .ok (.iconst 0, 1) := by decide +kernel
theorem d_A_successor_11 : decode c_A_successor 11 = .ok (.istore_n 3, 1) := by decide +kernel
theorem d_A_successor_12 : decode c_A_successor 12 = .ok (.iconst 0, 1) := by decide +kernel
theorem d_A_successor_13 : decode c_A_successor 13 = .ok (.istore 4, 2) := by decide +kernel
theorem d_A_successor_15 : decode c_A_successor 15 = .ok (.iload 4, 2) := by decide +kernel
theorem d_A_successor_17 : decode c_A_successor 17 = .ok (.aload_n 0, 1) := by decide +kernel
theorem d_A_successor_18 : decode c_A_successor 18 = .ok (.getfield 18, 3) := by decide +kernel
theorem d_A_successor_21 : decode c_A_successor 21 = .ok (.if_icmp .ge 37, 3) := by decide +kernel
theorem d_A_successor_24 : decode c_A_successor 24 = .ok (.aload_n 0, 1) := by decide +kernel
theorem d_A_successor_25 : decode c_A_successor 25 = .ok (.getfield 56, 3) := by decide +kernel
theorem d_A_successor_28 : decode c_A_successor 28 = .ok (.getfield 62, 3) := by decide +kernel
theorem d_A_successor_31 : decode c_A_successor 31 = .ok (.iload_n 1, 1) := by decide +kernel
theorem d_A_successor_32 : decode c_A_successor 32 = .ok (.iaload, 1) := by decide +kernel
theorem d_A_successor_33 : decode c_A_successor 33 = .ok (.iload 4, 2) := by decide +kernel
theorem d_A_successor_35 : decode c_A_successor 35 = .ok (.invokestatic 93, 3) := by decide +kernel
theorem d_A_successor_38 : decode c_A_successor 38 = .ok (.ifCond .eq 14, 3) := by decide +kernel
theorem d_A_successor_41 : decode c_A_successor 41 = .ok (.iload_n 3, 1) := by decide +kernel
theorem d_A_successor_42 : decode c_A_successor 42 = .ok (.iload_n 2, 1) := by decide +kernel
theorem d_A_successor_43 : decode c_A_successor 43 = .ok (.if_icmp .ne 6, 3) := by decide +kernel
theorem d_A_successor_46 : decode c_A_successor 46 = .ok (.iload 4, 2) := by decide +kernel
theorem d_A_successor_48 : decode c_A_successor 48 = .ok (.ireturn, 1) := by decide +kernel
theorem d_A_successor_49 : decode c_A_successor 49 = .ok (.iinc 3 1, 3) := by decide +kernel
theorem d_A_successor_52 : decode c_A_successor 52 = .ok (.iinc 4 1, 3) := by decide +kernel
theorem d_A_successor_55 : decode c_A_successor 55 = .ok (.goto (-40), 3) := by decide +kernel
theorem d_A_successor_58 : decode c_A_successor 58 = .ok (.iconst (-1), 1) := by decide +kernel
theorem d_A_successor_59 : decode c_A_successor 59 = .ok (.ireturn, 1) := by decide +kernel
theorem d_A_reference_0 : decode c_A_reference 0 = .ok (.aload_n 0, 1) := by decide +kernel
theorem d_A_reference_1 : decode c_A_reference 1 = .ok (.iload_n 1, 1) := by decide +kernel
theorem d_A_reference_2 : decode c_A_reference 2 = .ok (.invokevirtual 89, 3) := by decide +kernel
theorem d_A_reference_5 : decode c_A_reference 5 = .ok (.ifCond .eq 27, 3) := by decide +kernel
theorem d_A_reference_8 : decode c_A_reference 8 = .ok (.aload_n 0, 1) := by decide +kernel
theorem d_A_reference_9 : decode c_A_reference 9 = .ok (.getfield 56, 3) := by decide +kernel
theorem d_A_reference_12 : decode c_A_reference 12 = .ok (.getfield 126, 3) := by decide +kernel
theorem d_A_reference_15 : decode c_A_reference 15 = .ok (.iload_n 1, 1) := by decide +kernel
theorem d_A_reference_16 : decode c_A_reference 16 = .ok (.iaload, 1) := by decide +kernel
theorem d_A_reference_17 : decode c_A_reference 17 = .ok (.ifCond .ne 15, 3) := by decide +kernel
theorem d_A_reference_20 : decode c_A_reference 20 = .ok (.aload_n 0, 1) := by decide +kernel
theorem d_A_reference_21 : decode c_A_reference 21 = .ok (.getfield 56, 3) := by decide +kernel
theorem d_A_reference_24 : decode c_A_reference 24 = .ok (.getfield 135, 3) := by decide +kernel
theorem d_A_reference_27 : decode c_A_reference 27 = .ok (.iload_n 1, 1) := by decide +kernel
theorem d_A_reference_28 : decode c_A_reference 28 = .ok (.iaload, 1) := by decide +kernel
theorem d_A_reference_29 : decode c_A_reference 29 = .ok (.goto 4, 3) := by decide +kernel
theorem d_A_reference_32 : decode c_A_reference 32 = .ok (.iconst (-1), 1) := by decide +kernel
theorem d_A_reference_33 : decode c_A_reference 33 = .ok (.ireturn, 1) := by decide +kernel
theorem d_A_components_0 : decode c_A_components 0 = .ok (.aload_n 0, 1) := by decide +kernel
theorem d_A_components_1 : decode c_A_components 1 = .ok (.getfield 68, 3) := by decide +kernel
theorem d_A_components_4 : decode c_A_components 4 = .ok (.invokevirtual 138, 3) := by decide +kernel
theorem d_A_components_7 : decode c_A_components 7 = .ok (.ireturn, 1) := by decide +kernel
theorem d_A_component_0 : decode c_A_component 0 = .ok (.aload_n 0, 1) := by decide +kernel
theorem d_A_component_1 : decode c_A_component 1 = .ok (.iload_n 1, 1) := by decide +kernel
theorem d_A_component_2 : decode c_A_component 2 = .ok (.invokevirtual 89, 3) := by decide +kernel
theorem d_A_component_5 : decode c_A_component 5 = .ok (.ifCond .ne 5, 3) := by decide +kernel
theorem d_A_component_8 : decode c_A_component 8 = .ok (.iconst (-1), 1) := by decide +kernel
theorem d_A_component_9 : decode c_A_component 9 = .ok (.ireturn, 1) := by decide +kernel
theorem d_A_component_10 : decode c_A_component 10 = .ok (.aload_n 0, 1) := by decide +kernel
theorem d_A_component_11 : decode c_A_component 11 = .ok (.getfield 68, 3) := by decide +kernel
theorem d_A_component_14 : decode c_A_component 14 = .ok (.invokevirtual 138, 3) := by decide +kernel
theorem d_A_component_17 : decode c_A_component 17 = .ok (.pop, 1) := by decide +kernel
theorem d_A_component_18 : decode c_A_component 18 = .ok (.aload_n 0, 1) := by decide +kernel
theorem d_A_component_19 : decode c_A_component 19 = .ok (.getfield 68, 3) := by decide +kernel
theorem d_A_component_22 : decode c_A_component 22 = .ok (.getfield 142, 3) := by decide +kernel
theorem d_A_component_25 : decode c_A_component 25 = .ok (.iload_n 1, 1) := by decide +kernel
theorem d_A_component_26 : decode c_A_component 26 = .ok (.iaload, 1) := by decide +kernel
theorem d_A_component_27 : decode c_A_component 27 = .ok (.ireturn, 1) := by decide +kernel
theorem d_A_prefer_0 : decode c_A_prefer 0 = .ok (.aload_n 0, 1) := by decide +kernel
theorem d_A_prefer_1 : decode c_A_prefer 1 = .ok (.iload_n 1, 1) := by decide +kernel
theorem d_A_prefer_2 : decode c_A_prefer 2 = .ok (.invokevirtual 89, 3) := by decide +kernel
theorem d_A_prefer_5 : decode c_A_prefer 5 = .ok (.ifCond .eq 26, 3) := by decide +kernel
theorem d_A_prefer_8 : decode c_A_prefer 8 = .ok (.iload_n 2, 1) := by decide +kernel
theorem d_A_prefer_9 : decode c_A_prefer 9 = .ok (.iconst 0, 1) := by decide +kernel
theorem d_A_prefer_10 : decode c_A_prefer 10 = .ok (.bipush 100, 2) := by decide +kernel
theorem d_A_prefer_12 : decode c_A_prefer 12 = .ok (.invokestatic 97, 3) := by decide +kernel
theorem d_A_prefer_15 : decode c_A_prefer 15 = .ok (.ifCond .eq 16, 3) := by decide +kernel
theorem d_A_prefer_18 : decode c_A_prefer 18 = .ok (.aload_n 0, 1) := by decide +kernel
theorem d_A_prefer_19 : decode c_A_prefer 19 = .ok (.getfield 75, 3) := by decide +kernel
theorem d_A_prefer_22 : decode c_A_prefer 22 = .ok (.iload_n 1, 1) := by decide +kernel
theorem d_A_prefer_23 : decode c_A_prefer 23 = .ok (.invokevirtual 145, 3) := by decide +kernel
theorem d_A_prefer_26 : decode c_A_prefer 26 = .ok (.iload_n 2, 1) := by decide +kernel
theorem d_A_prefer_27 : decode c_A_prefer 27 = .ok (.iadd, 1) := by decide +kernel
theorem d_A_prefer_28 : decode c_A_prefer 28 = .ok (.ifCond .ne 5, 3) := by decide +kernel
theorem d_A_prefer_31 : decode c_A_prefer 31 = .ok (.iconst 0, 1) := by decide +kernel
theorem d_A_prefer_32 : decode c_A_prefer 32 = .ok (.ireturn, 1) := by decide +kernel
theorem d_A_prefer_33 : decode c_A_prefer 33 = .ok (.aload_n 0, 1) := by decide +kernel
theorem d_A_prefer_34 : decode c_A_prefer 34 = .ok (.getfield 75, 3) := by decide +kernel
theorem d_A_prefer_37 : decode c_A_prefer 37 = .ok (.getfield 148, 3) := by decide +kernel
theorem d_A_prefer_40 : decode c_A_prefer 40 = .ok (.iload_n 1, 1) := by decide +kernel
theorem d_A_prefer_41 : decode c_A_prefer 41 = .ok (.iload_n 2, 1) := by decide +kernel
theorem d_A_prefer_42 : decode c_A_prefer 42 = .ok (.iastore, 1) := by decide +kernel
theorem d_A_prefer_43 : decode c_A_prefer 43 = .ok (.iconst 1, 1) := by decide +kernel
theorem d_A_prefer_44 : decode c_A_prefer 44 = .ok (.ireturn, 1) := by decide +kernel
theorem d_A_start_0 : decode c_A_start 0 = .ok (.iload_n 1, 1) := by decide +kernel
theorem d_A_start_1 : decode c_A_start 1 = .ok (.iconst 0, 1) := by decide +kernel
theorem d_A_start_2 : decode c_A_start 2 = .ok (.iconst 2, 1) := by decide +kernel
theorem d_A_start_3 : decode c_A_start 3 = .ok (.invokestatic 97, 3) := by decide +kernel
theorem d_A_start_6 : decode c_A_start 6 = .ok (.ifCond .eq 14, 3) := by decide +kernel
theorem d_A_start_9 : decode c_A_start 9 = .ok (.iload_n 2, 1) := by decide +kernel
theorem d_A_start_10 : decode c_A_start 10 = .ok (.iconst 0, 1) := by decide +kernel
theorem d_A_start_11 : decode c_A_start 11 = .ok (.sipush 1000, 3) := by decide +kernel
theorem d_A_start_14 : decode c_A_start 14 = .ok (.invokestatic 97, 3) := by decide +kernel
theorem d_A_start_17 : decode c_A_start 17 = .ok (.ifCond .ne 5, 3) := by decide +kernel
theorem d_A_start_20 : decode c_A_start 20 = .ok (.iconst 0, 1) := by decide +kernel
theorem d_A_start_21 : decode c_A_start 21 = .ok (.ireturn, 1) := by decide +kernel
theorem d_A_start_22 : decode c_A_start 22 = .ok (.aload_n 0, 1) := by decide +kernel
theorem d_A_start_23 : decode c_A_start 23 = .ok (.getfield 75, 3) := by decide +kernel
theorem d_A_start_26 : decode c_A_start 26 = .ok (.iload_n 1, 1) := by decide +kernel
theorem d_A_start_27 : decode c_A_start 27 = .ok (.iload_n 2, 1) := by decide +kernel
theorem d_A_start_28 : decode c_A_start 28 = .ok (.invokevirtual 85, 3) := by decide +kernel
theorem d_A_start_31 : decode c_A_start 31 = .ok (.iconst 1, 1) := by decide +kernel
theorem d_A_start_32 : decode c_A_start 32 = .ok (.ireturn, 1) := by decide +kernel
theorem d_A_step_0 : decode c_A_step 0 = .ok (.iload_n 1, 1) := by decide +kernel
theorem d_A_step_1 : decode c_A_step 1 = .ok (.iconst 0, 1) := by decide +kernel
theorem d_A_step_2 : decode c_A_step 2 = .ok (.bipush 20, 2) := by decide +kernel
theorem d_A_step_4 : decode c_A_step 4 = .ok (.invokestatic 97, 3) := by decide +kernel
theorem d_A_step_7 : decode c_A_step 7 = .ok (.ifCond .eq 14, 3) := by decide +kernel
theorem d_A_step_10 : decode c_A_step 10 = .ok (.aload_n 0, 1) := by decide +kernel
theorem d_A_step_11 : decode c_A_step 11 = .ok (.getfield 75, 3) := by decide +kernel
theorem d_A_step_14 : decode c_A_step 14 = .ok (.iload_n 1, 1) := by decide +kernel
theorem d_A_step_15 : decode c_A_step 15 = .ok (.invokevirtual 151, 3) := by decide +kernel
theorem d_A_step_18 : decode c_A_step 18 = .ok (.goto 4, 3) := by decide +kernel
theorem d_A_step_21 : decode c_A_step 21 = .ok (.iconst (-1), 1) := by decide +kernel
theorem d_A_step_22 : decode c_A_step 22 = .ok (.ireturn, 1) := by decide +kernel
theorem d_A_score_0 : decode c_A_score 0 = .ok (.aload_n 0, 1) := by decide +kernel
theorem d_A_score_1 : decode c_A_score 1 = .ok (.iload_n 1, 1) := by decide +kernel
theorem d_A_score_2 : decode c_A_score 2 = .ok (.invokevirtual 89, 3) := by decide +kernel
theorem d_A_score_5 : decode c_A_score 5 = .ok (.ifCond .eq 15, 3) := by decide +kernel
theorem d_A_score_8 : decode c_A_score 8 = .ok (.aload_n 0, 1) := by decide +kernel
theorem d_A_score_9 : decode c_A_score 9 = .ok (.getfield 75, 3) := by decide +kernel
theorem d_A_score_12 : decode c_A_score 12 = .ok (.getfield 154, 3) := by decide +kernel
theorem d_A_score_15 : decode c_A_score 15 = .ok (.iload_n 1, 1) := by decide +kernel
theorem d_A_score_16 : decode c_A_score 16 = .ok (.laload, 1) := by decide +kernel
theorem d_A_score_17 : decode c_A_score 17 = .ok (.goto 6, 3) := by decide +kernel
theorem d_A_score_20 : decode c_A_score 20 = .ok (.ldc2_w 157, 3) := by decide +kernel
theorem d_A_score_23 : decode c_A_score 23 = .ok (.lreturn, 1) := by decide +kernel
theorem d_A_hub_0 : decode c_A_hub 0 = .ok (.aload_n 0, 1) := by decide +kernel
theorem d_A_hub_1 : decode c_A_hub 1 = .ok (.iload_n 1, 1) := by decide +kernel
theorem d_A_hub_2 : decode c_A_hub 2 = .ok (.invokevirtual 89, 3) := by decide +kernel
theorem d_A_hub_5 : decode c_A_hub 5 = .ok (.ifCond .eq 15, 3) := by decide +kernel
theorem d_A_hub_8 : decode c_A_hub 8 = .ok (.aload_n 0, 1) := by decide +kernel
theorem d_A_hub_9 : decode c_A_hub 9 = .ok (.getfield 75, 3) := by decide +kernel
theorem d_A_hub_12 : decode c_A_hub 12 = .ok (.getfield 159, 3) := by decide +kernel
theorem d_A_hub_15 : decode c_A_hub 15 = .ok (.iload_n 1, 1) := by decide +kernel
theorem d_A_hub_16 : decode c_A_hub 16 = .ok (.laload, 1) := by decide +kernel
theorem d_A_hub_17 : decode c_A_hub 17 = .ok (.goto 6, 3) := by decide +kernel
theorem d_A_hub_20 : decode c_A_hub 20 = .ok (.ldc2_w 157, 3) := by decide +kernel
theorem d_A_hub_23 : decode c_A_hub 23 = .ok (.lreturn, 1) := by decide +kernel
theorem d_A_top_0 : decode c_A_top 0 = .ok (.iconst 0, 1) := by decide +kernel
theorem d_A_top_1 : decode c_A_top 1 = .ok (.istore_n 2, 1) := by decide +kernel
theorem d_A_top_2 : decode c_A_top 2 = .ok (.iload_n 2, 1) := by decide +kernel
theorem d_A_top_3 : decode c_A_top 3 = .ok (.aload_n 0, 1) := by decide +kernel
theorem d_A_top_4 : decode c_A_top 4 = .ok (.getfield 18, 3) := by decide +kernel
theorem d_A_top_7 : decode c_A_top 7 = .ok (.if_icmp .ge 23, 3) := by decide +kernel
theorem d_A_top_10 : decode c_A_top 10 = .ok (.aload_n 0, 1) := by decide +kernel
theorem d_A_top_11 : decode c_A_top 11 = .ok (.getfield 75, 3) := by decide +kernel
theorem d_A_top_14 : decode c_A_top 14 = .ok (.iload_n 2, 1) := by decide +kernel
theorem d_A_top_15 : decode c_A_top 15 = .ok (.invokevirtual 162, 3) := by decide +kernel
theorem d_A_top_18 : decode c_A_top 18 = .ok (.iload_n 1, 1) := by decide +kernel
theorem d_A_top_19 : decode c_A_top 19 = .ok (.if_icmp .ne 5, 3) := by decide +kernel
theorem d_A_top_22 : decode c_A_top 22 = .ok (.iload_n 2, 1) := by decide +kernel
theorem d_A_top_23 : decode c_A_top 23 = .ok (.ireturn, 1) := by decide +kernel
theorem d_A_top_24 : decode c_A_top 24 = .ok (.iinc 2 1, 3) := by decide +kernel
theorem d_A_top_27 : decode c_A_top 27 = .ok (.goto (-25), 3) := by decide +kernel
theorem d_A_top_30 : decode c_A_top 30 = .ok (.iconst (-1), 1) := by decide +kernel
theorem d_A_top_31 : decode c_A_top 31 = .ok (.ireturn, 1) := by decide +kernel
theorem d_A_change_0 : decode c_A_change 0 = .ok (.aload_n 0, 1) := by decide +kernel
theorem d_A_change_1 : decode c_A_change 1 = .ok (.getfield 75, 3) := by decide +kernel
theorem d_A_change_4 : decode c_A_change 4 = .ok (.getfield 165, 3) := by decide +kernel
theorem d_A_change_7 : decode c_A_change 7 = .ok (.lreturn, 1) := by decide +kernel
theorem d_A_isNode_0 : decode c_A_isNode 0 = .ok (.iload_n 1, 1) := by decide +kernel
theorem d_A_isNode_1 : decode c_A_isNode 1 = .ok (.iconst 0, 1) := by decide +kernel
theorem d_A_isNode_2 : decode c_A_isNode 2 = .ok (.aload_n 0, 1) := by decide +kernel
theorem d_A_isNode_3 : decode c_A_isNode 3 = .ok (.getfield 18, 3) := by decide +kernel
theorem d_A_isNode_6 : decode c_A_isNode 6 = .ok (.iconst 1, 1) := by decide +kernel
theorem d_A_isNode_7 : decode c_A_isNode 7 = .ok (.isub, 1) := by decide +kernel
theorem d_A_isNode_8 : decode c_A_isNode 8 = .ok (.invokestatic 97, 3) := by decide +kernel
theorem d_A_isNode_11 : decode c_A_isNode 11 = .ok (.ireturn, 1) := by decide +kernel
theorem d_A_isPlace_0 : decode c_A_isPlace 0 = .ok (.iload_n 1, 1) := by decide +kernel
theorem d_A_isPlace_1 : decode c_A_isPlace 1 = .ok (.iconst 0, 1) := by decide +kernel
theorem d_A_isPlace_2 : decode c_A_isPlace 2 = .ok (.aload_n 0, 1) := by decide +kernel
theorem d_A_isPlace_3 : decode c_A_isPlace 3 = .ok (.getfield 29, 3) := by decide +kernel
theorem d_A_isPlace_6 : decode c_A_isPlace 6 = .ok (.getfield 113, 3) := by decide +kernel
theorem d_A_isPlace_9 : decode c_A_isPlace 9 = .ok (.iconst 1, 1) := by decide +kernel
theorem d_A_isPlace_10 : decode c_A_isPlace 10 = .ok (.isub, 1) := by decide +kernel
theorem d_A_isPlace_11 : decode c_A_isPlace 11 = .ok (.invokestatic 97, 3) := by decide +kernel
theorem d_A_isPlace_14 : decode c_A_isPlace 14 = .ok (.ireturn, 1) := by decide +kernel
theorem d_A_within_0 : decode c_A_within 0 = .ok (.iload_n 0, 1) := by decide +kernel
theorem d_A_within_1 : decode c_A_within 1 = .ok (.iload_n 1, 1) := by decide +kernel
theorem d_A_within_2 : decode c_A_within 2 = .ok (.if_icmp .lt 12, 3) := by decide +kernel
theorem d_A_within_5 : decode c_A_within 5 = .ok (.iload_n 0, 1) := by decide +kernel
theorem d_A_within_6 : decode c_A_within 6 = .ok (.iload_n 2, 1) := by decide +kernel
theorem d_A_within_7 : decode c_A_within 7 = .ok (.if_icmp .gt 7, 3) := by decide +kernel
theorem d_A_within_10 : decode c_A_within 10 = .ok (.iconst 1, 1) := by decide +kernel
theorem d_A_within_11 : decode c_A_within 11 = .ok (.goto 4, 3) := by decide +kernel
theorem d_A_within_14 : decode c_A_within 14 = .ok (.iconst 0, 1) := by decide +kernel
theorem d_A_within_15 : decode c_A_within 15 = .ok (.ireturn, 1) := by decide +kernel
theorem d_A_holds_0 : decode c_A_holds 0 = .ok (.iload_n 0, 1) := by decide +kernel
theorem d_A_holds_1 : decode c_A_holds 1 = .ok (.iload_n 1, 1) := by decide +kernel
theorem d_A_holds_2 : decode c_A_holds 2 = .ok (.ishr, 1) := by decide +kernel
theorem d_A_holds_3 : decode c_A_holds 3 = .ok (.iconst 1, 1) := by decide +kernel
theorem d_A_holds_4 : decode c_A_holds 4 = .ok (.iand, 1) := by decide +kernel
theorem d_A_holds_5 : decode c_A_holds 5 = .ok (.ifCond .eq 7, 3) := by decide +kernel
theorem d_A_holds_8 : decode c_A_holds 8 = .ok (.iconst 1, 1) := by decide +kernel
theorem d_A_holds_9 : decode c_A_holds 9 = .ok (.goto 4, 3) := by decide +kernel
theorem d_A_holds_12 : decode c_A_holds 12 = .ok (.iconst 0, 1) := by decide +kernel
theorem d_A_holds_13 : decode c_A_holds 13 = .ok (.ireturn, 1) := by decide +kernel
theorem d_K_init_0 : decode c_K_init 0 = .ok (.aload_n 0, 1) := by decide +kernel
theorem d_K_init_1 : decode c_K_init 1 = .ok (.invokespecial 3, 3) := by decide +kernel
theorem d_K_init_4 : decode c_K_init 4 = .ok (.aload_n 0, 1) := by decide +kernel
theorem d_K_init_5 : decode c_K_init 5 = .ok (.bipush 13, 2) := by decide +kernel
theorem d_K_init_7 : decode c_K_init 7 = .ok (.newarray .int, 2) := by decide +kernel
theorem d_K_init_9 : decode c_K_init 9 = .ok (.putfield 9, 3) := by decide +kernel
theorem d_K_init_12 : decode c_K_init 12 = .ok (.aload_n 0, 1) := by decide +kernel
theorem d_K_init_13 : decode c_K_init 13 = .ok (.bipush 12, 2) := by decide +kernel
theorem d_K_init_15 : decode c_K_init 15 = .ok (.newarray .int, 2) := by decide +kernel
theorem d_K_init_17 : decode c_K_init 17 = .ok (.putfield 15, 3) := by decide +kernel
theorem d_K_init_20 : decode c_K_init 20 = .ok (.aload_n 0, 1) := by decide +kernel
theorem d_K_init_21 : decode c_K_init 21 = .ok (.bipush 12, 2) := by decide +kernel
theorem d_K_init_23 : decode c_K_init 23 = .ok (.newarray .int, 2) := by decide +kernel
theorem d_K_init_25 : decode c_K_init 25 = .ok (.putfield 18, 3) := by decide +kernel
theorem d_K_init_28 : decode c_K_init 28 = .ok (.aload_n 0, 1) := by decide +kernel
theorem d_K_init_29 : decode c_K_init 29 = .ok (.aload_n 1, 1) := by decide +kernel
theorem d_K_init_30 : decode c_K_init 30 = .ok (.putfield 21, 3) := by decide +kernel
theorem d_K_init_33 : decode c_K_init 33 = .ok (.aload_n 0, 1) := by decide +kernel
theorem d_K_init_34 : decode c_K_init 34 = .ok (.aload_n 2, 1) := by decide +kernel
theorem d_K_init_35 : decode c_K_init 35 = .ok (.putfield 24, 3) := by decide +kernel
theorem d_K_init_38 : decode c_K_init 38 = .ok (.aload_n 0, 1) := by decide +kernel
theorem d_K_init_39 : decode c_K_init 39 = .ok (.aload_n 3, 1) := by decide +kernel
theorem d_K_init_40 : decode c_K_init 40 = .ok (.putfield 28, 3) := by decide +kernel
theorem d_K_init_43 : decode c_K_init 43 = .ok (.aload_n 0, 1) := by decide +kernel
theorem d_K_init_44 : decode c_K_init 44 = .ok (.aload_n 1, 1) := by decide +kernel
theorem d_K_init_45 : decode c_K_init 45 = .ok (.arraylength, 1) := by decide +kernel
theorem d_K_init_46 : decode c_K_init 46 = .ok (.newarray .int, 2) := by decide +kernel
theorem d_K_init_48 : decode c_K_init 48 = .ok (.putfield 32, 3) := by decide +kernel
theorem d_K_init_51 : decode c_K_init 51 = .ok (.return_, 1) := by decide +kernel
theorem d_K_writeAll_0 : decode c_K_writeAll 0 = .ok (.aload_n 0, 1) := by decide +kernel
theorem d_K_writeAll_1 : decode c_K_writeAll 1 = .ok (.getfield 28, 3) := by decide +kernel
theorem d_K_writeAll_4 : decode c_K_writeAll 4 = .ok (.iconst 0, 1) := by decide +kernel
theorem d_K_writeAll_5 : decode c_K_writeAll 5 = .ok (.putfield 35, 3) := by decide +kernel
theorem d_K_writeAll_8 : decode c_K_writeAll 8 = .ok (.iconst 0, 1) := by decide +kernel
theorem d_K_writeAll_9 : decode c_K_writeAll 9 = .ok (.istore_n 1, 1) := by decide +kernel
theorem d_K_writeAll_10 : decode c_K_writeAll 10 = .ok (.iload_n 1, 1) := by decide +kernel
theorem d_K_writeAll_11 : decode c_K_writeAll 11 = .ok (.aload_n 0, 1) := by decide +kernel
theorem d_K_writeAll_12 : decode c_K_writeAll 12 = .ok (.getfield 21, 3) := by decide +kernel
theorem d_K_writeAll_15 : decode c_K_writeAll 15 = .ok (.arraylength, 1) := by decide +kernel
theorem d_K_writeAll_16 : decode c_K_writeAll 16 = .ok (.if_icmp .ge 61, 3) := by decide +kernel
theorem d_K_writeAll_19 : decode c_K_writeAll 19 = .ok (.aload_n 0, 1) := by decide +kernel
theorem d_K_writeAll_20 : decode c_K_writeAll 20 = .ok (.getfield 24, 3) := by decide +kernel
theorem d_K_writeAll_23 : decode c_K_writeAll 23 = .ok (.getfield 41, 3) := by decide +kernel
theorem d_K_writeAll_26 : decode c_K_writeAll 26 = .ok (.iload_n 1, 1) := by decide +kernel
theorem d_K_writeAll_27 : decode c_K_writeAll 27 = .ok (.aload_n 0, 1) := by decide +kernel
theorem d_K_writeAll_28 : decode c_K_writeAll 28 = .ok (.getfield 28, 3) := by decide +kernel
theorem d_K_writeAll_31 : decode c_K_writeAll 31 = .ok (.getfield 35, 3) := by decide +kernel
theorem d_K_writeAll_34 : decode c_K_writeAll 34 = .ok (.iastore, 1) := by decide +kernel
theorem d_K_writeAll_35 : decode c_K_writeAll 35 = .ok (.aload_n 0, 1) := by decide +kernel
theorem d_K_writeAll_36 : decode c_K_writeAll 36 = .ok (.iload_n 1, 1) := by decide +kernel
theorem d_K_writeAll_37 : decode c_K_writeAll 37 = .ok (.invokevirtual 46, 3) := by decide +kernel
theorem d_K_writeAll_40 : decode c_K_writeAll 40 = .ok (.istore_n 2, 1) := by decide +kernel
theorem d_K_writeAll_41 : decode c_K_writeAll 41 = .ok (.aload_n 0, 1) := by decide +kernel
theorem d_K_writeAll_42 : decode c_K_writeAll 42 = .ok (.iload_n 1, 1) := by decide +kernel
theorem d_K_writeAll_43 : decode c_K_writeAll 43 = .ok (.iload_n 2, 1) := by decide +kernel
theorem d_K_writeAll_44 : decode c_K_writeAll 44 = .ok (.invokevirtual 50, 3) := by decide +kernel
theorem d_K_writeAll_47 : decode c_K_writeAll 47 = .ok (.aload_n 0, 1) := by decide +kernel
theorem d_K_writeAll_48 : decode c_K_writeAll 48 = .ok (.getfield 32, 3) := by decide +kernel
theorem d_K_writeAll_51 : decode c_K_writeAll 51 = .ok (.iload_n 1, 1) := by decide +kernel
theorem d_K_writeAll_52 : decode c_K_writeAll 52 = .ok (.iload_n 2, 1) := by decide +kernel
theorem d_K_writeAll_53 : decode c_K_writeAll 53 = .ok (.ifCond .ne 7, 3) := by decide +kernel
theorem d_K_writeAll_56 : decode c_K_writeAll 56 = .ok (.iconst 0, 1) := by decide +kernel
theorem d_K_writeAll_57 : decode c_K_writeAll 57 = .ok (.goto 13, 3) := by decide +kernel
theorem d_K_writeAll_60 : decode c_K_writeAll 60 = .ok (.aload_n 0, 1) := by decide +kernel
theorem d_K_writeAll_61 : decode c_K_writeAll 61 = .ok (.getfield 32, 3) := by decide +kernel
theorem d_K_writeAll_64 : decode c_K_writeAll 64 = .ok (.iload_n 1, 1) := by decide +kernel
theorem d_K_writeAll_65 : decode c_K_writeAll 65 = .ok (.iload_n 2, 1) := by decide +kernel
theorem d_K_writeAll_66 : decode c_K_writeAll 66 = .ok (.isub, 1) := by decide +kernel
theorem d_K_writeAll_67 : decode c_K_writeAll 67 = .ok (.iaload, 1) := by decide +kernel
theorem d_K_writeAll_68 : decode c_K_writeAll 68 = .ok (.iconst 1, 1) := by decide +kernel
theorem d_K_writeAll_69 : decode c_K_writeAll 69 = .ok (.iadd, 1) := by decide +kernel
theorem d_K_writeAll_70 : decode c_K_writeAll 70 = .ok (.iastore, 1) := by decide +kernel
theorem d_K_writeAll_71 : decode c_K_writeAll 71 = .ok (.iinc 1 1, 3) := by decide +kernel
theorem d_K_writeAll_74 : decode c_K_writeAll 74 = .ok (.goto (-64), 3) := by decide +kernel
theorem d_K_writeAll_77 : decode c_K_writeAll 77 = .ok (.aload_n 0, 1) := by decide +kernel
theorem d_K_writeAll_78 : decode c_K_writeAll 78 = .ok (.getfield 24, 3) := by decide +kernel
theorem d_K_writeAll_81 : decode c_K_writeAll 81 = .ok (.getfield 41, 3) := by decide +kernel
theorem d_K_writeAll_84 : decode c_K_writeAll 84 = .ok (.aload_n 0, 1) := by decide +kernel
theorem d_K_writeAll_85 : decode c_K_writeAll 85 = .ok (.getfield 21, 3) := by decide +kernel
theorem d_K_writeAll_88 : decode c_K_writeAll 88 = .ok (.arraylength, 1) := by decide +kernel
theorem d_K_writeAll_89 : decode c_K_writeAll 89 = .ok (.aload_n 0, 1) := by decide +kernel
theorem d_K_writeAll_90 : decode c_K_writeAll 90 = .ok (.getfield 28, 3) := by decide +kernel
theorem d_K_writeAll_93 : decode c_K_writeAll 93 = .ok (.getfield 35, 3) := by decide +kernel
theorem d_K_writeAll_96 : decode c_K_writeAll 96 = .ok (.iastore, 1) := by decide +kernel
theorem d_K_writeAll_97 : decode c_K_writeAll 97 = .ok (.return_, 1) := by decide +kernel
theorem d_K_bestReference_0 : decode c_K_bestReference 0 = .ok (.aload_n 0, 1) := by decide +kernel
theorem d_K_bestReference_1 : decode c_K_bestReference 1 = .ok (.getfield 28, 3) := by decide +kernel
theorem d_K_bestReference_4 : decode c_K_bestReference 4 = .ok (.getfield 35, 3) := by decide +kernel
theorem d_K_bestReference_7 : decode c_K_bestReference 7 = .ok (.istore_n 2, 1) := by decide +kernel
theorem d_K_bestReference_8 : decode c_K_bestReference 8 = .ok (.iconst 0, 1) := by decide +kernel
theorem d_K_bestReference_9 : decode c_K_bestReference 9 = .ok (.istore_n 3, 1) := by decide +kernel
theorem d_K_bestReference_10 : decode c_K_bestReference 10 = .ok (.sipush 800, 3) := by decide +kernel
theorem d_K_bestReference_13 : decode c_K_bestReference 13 = .ok (.istore 4, 2) := by decide +kernel
theorem d_K_bestReference_15 : decode c_K_bestReference 15 = .ok (.aload_n 0, 1) := by decide +kernel
theorem d_K_bestReference_16 : decode c_K_bestReference 16 = .ok (.getfield 21, 3) := by decide +kernel
theorem d_K_bestReference_19 : decode c_K_bestReference 19 = .ok (.iload_n 1, 1) := by decide +kernel
theorem d_K_bestReference_20 : decode c_K_bestReference 20 = .ok (.iaload, 1) := by decide +kernel
theorem d_K_bestReference_21 : decode c_K_bestReference 21 = .ok (.ifCond .ne 7, 3) := by decide +kernel
theorem d_K_bestReference_24 : decode c_K_bestReference 24 = .ok (.iconst 0, 1) := by decide +kernel
theorem d_K_bestReference_25 : decode c_K_bestReference 25 = .ok (.goto 14, 3) := by decide +kernel
theorem d_K_bestReference_28 : decode c_K_bestReference 28 = .ok (.aload_n 0, 1) := by decide +kernel
theorem d_K_bestReference_29 : decode c_K_bestReference 29 = .ok (.getfield 24, 3) := by decide +kernel
theorem d_K_bestReference_32 : decode c_K_bestReference 32 = .ok (.getfield 54, 3) := by decide +kernel
theorem d_K_bestReference_35 : decode c_K_bestReference 35 = .ok (.iload_n 1, 1) := by decide +kernel
theorem d_K_bestReference_36 : decode c_K_bestReference 36 = .ok (.invokestatic 57, 3) := by decide +kernel
theorem d_K_bestReference_39 : decode c_K_bestReference 39 = .ok (.istore 5, 2) := by decide +kernel
theorem d_K_bestReference_41 : decode c_K_bestReference 41 = .ok (.iconst 0, 1) := by decide +kernel
theorem d_K_bestReference_42 : decode c_K_bestReference 42 = .ok (.istore 6, 2) := by decide +kernel
theorem d_K_bestReference_44 : decode c_K_bestReference 44 = .ok (.iload 6, 2) := by decide +kernel
theorem d_K_bestReference_46 : decode c_K_bestReference 46 = .ok (.iload 5, 2) := by decide +kernel
theorem d_K_bestReference_48 : decode c_K_bestReference 48 = .ok (.if_icmp .gt 68, 3) := by decide +kernel
theorem d_K_bestReference_51 : decode c_K_bestReference 51 = .ok (.iload 6, 2) := by decide +kernel
theorem d_K_bestReference_53 : decode c_K_bestReference 53 = .ok (.ifCond .eq 14, 3) := by decide +kernel
theorem d_K_bestReference_56 : decode c_K_bestReference 56 = .ok (.aload_n 0, 1) := by decide +kernel
theorem d_K_bestReference_57 : decode c_K_bestReference 57 = .ok (.iload_n 1, 1) := by decide +kernel
theorem d_K_bestReference_58 : decode c_K_bestReference 58 = .ok (.iload 6, 2) := by decide +kernel
theorem d_K_bestReference_60 : decode c_K_bestReference 60 = .ok (.isub, 1) := by decide +kernel
theorem d_K_bestReference_61 : decode c_K_bestReference 61 = .ok (.invokevirtual 63, 3) := by decide +kernel
theorem d_K_bestReference_64 : decode c_K_bestReference 64 = .ok (.ifCond .eq 46, 3) := by decide +kernel
theorem d_K_bestReference_67 : decode c_K_bestReference 67 = .ok (.aload_n 0, 1) := by decide +kernel
theorem d_K_bestReference_68 : decode c_K_bestReference 68 = .ok (.iload_n 1, 1) := by decide +kernel
theorem d_K_bestReference_69 : decode c_K_bestReference 69 = .ok (.iload 6, 2) := by decide +kernel
theorem d_K_bestReference_71 : decode c_K_bestReference 71 = .ok (.invokevirtual 50, 3) := by decide +kernel
theorem d_K_bestReference_74 : decode c_K_bestReference 74 = .ok (.aload_n 0, 1) := by decide +kernel
theorem d_K_bestReference_75 : decode c_K_bestReference 75 = .ok (.getfield 28, 3) := by decide +kernel
theorem d_K_bestReference_78 : decode c_K_bestReference 78 = .ok (.getfield 35, 3) := by decide +kernel
theorem d_K_bestReference_81 : decode c_K_bestReference 81 = .ok (.iload_n 2, 1) := by decide +kernel
theorem d_K_bestReference_82 : decode c_K_bestReference 82 = .ok (.isub, 1) := by decide +kernel
theorem d_K_bestReference_83 : decode c_K_bestReference 83 = .ok (.iload 4, 2) := by decide +kernel
theorem d_K_bestReference_85 : decode c_K_bestReference 85 = .ok (.if_icmp .ge 17, 3) := by decide +kernel
theorem d_K_bestReference_88 : decode c_K_bestReference 88 = .ok (.aload_n 0, 1) := by decide +kernel
theorem d_K_bestReference_89 : decode c_K_bestReference 89 = .ok (.getfield 28, 3) := by decide +kernel
theorem d_K_bestReference_92 : decode c_K_bestReference 92 = .ok (.getfield 35, 3) := by decide +kernel
theorem d_K_bestReference_95 : decode c_K_bestReference 95 = .ok (.iload_n 2, 1) := by decide +kernel
theorem d_K_bestReference_96 : decode c_K_bestReference 96 = .ok (.isub, 1) := by decide +kernel
theorem d_K_bestReference_97 : decode c_K_bestReference 97 = .ok (.istore 4, 2) := by decide +kernel
theorem d_K_bestReference_99 : decode c_K_bestReference 99 = .ok (.iload 6, 2) := by decide +kernel
theorem d_K_bestReference_101 : decode c_K_bestReference 101 = .ok (.istore_n 3, 1) := by decide +kernel
theorem d_K_bestReference_102 : decode c_K_bestReference 102 = .ok (.aload_n 0, 1) := by decide +kernel
theorem d_K_bestReference_103 : decode c_K_bestReference 103 = .ok (.getfield 28, 3) := by decide +kernel
theorem d_K_bestReference_106 : decode c_K_bestReference 106 = .ok (.iload_n 2, 1) := by decide +kernel
theorem d_K_bestReference_107 : decode c_K_bestReference 107 = .ok (.putfield 35, 3) := by decide +kernel
theorem d_K_bestReference_110 : decode c_K_bestReference 110 = .ok (.iinc 6 1, 3) := by decide +kernel
theorem d_K_bestReference_113 : decode c_K_bestReference 113 = .ok (.goto (-69), 3) := by decide +kernel
theorem d_K_bestReference_116 : decode c_K_bestReference 116 = .ok (.iload_n 3, 1) := by decide +kernel
theorem d_K_bestReference_117 : decode c_K_bestReference 117 = .ok (.ireturn, 1) := by decide +kernel
theorem d_K_mayBeReferredTo_0 : decode c_K_mayBeReferredTo 0 = .ok (.aload_n 0, 1) := by decide +kernel
theorem d_K_mayBeReferredTo_1 : decode c_K_mayBeReferredTo 1 = .ok (.getfield 21, 3) := by decide +kernel
theorem d_K_mayBeReferredTo_4 : decode c_K_mayBeReferredTo 4 = .ok (.iload_n 1, 1) := by decide +kernel
theorem d_K_mayBeReferredTo_5 : decode c_K_mayBeReferredTo 5 = .ok (.iaload, 1) := by decide +kernel
theorem d_K_mayBeReferredTo_6 : decode c_K_mayBeReferredTo 6 = .ok (.ifCond .eq 23, 3) := by decide +kernel
theorem d_K_mayBeReferredTo_9 : decode c_K_mayBeReferredTo 9 = .ok (.aload_n 0, 1) := by decide +kernel
theorem d_K_mayBeReferredTo_10 : decode c_K_mayBeReferredTo 10 = .ok (.getfield 32, 3) := by decide +kernel
theorem d_K_mayBeReferredTo_13 : decode c_K_mayBeReferredTo 13 = .ok (.iload_n 1, 1) := by decide +kernel
theorem d_K_mayBeReferredTo_14 : decode c_K_mayBeReferredTo 14 = .ok (.iaload, 1) := by decide +kernel
theorem d_K_mayBeReferredTo_15 : decode c_K_mayBeReferredTo 15 = .ok (.aload_n 0, 1) := by decide +kernel
theorem d_K_mayBeReferredTo_16 : decode c_K_mayBeReferredTo 16 = .ok (.getfield 24, 3) := by decide +kernel
theorem d_K_mayBeReferredTo_19 : decode c_K_mayBeReferredTo 19 = .ok (.getfield 67, 3) := by decide +kernel
theorem d_K_mayBeReferredTo_22 : decode c_K_mayBeReferredTo 22 = .ok (.if_icmp .ge 7, 3) := by decide +kernel
theorem d_K_mayBeReferredTo_25 : decode c_K_mayBeReferredTo 25 = .ok (.iconst 1, 1) := by decide +kernel
theorem d_K_mayBeReferredTo_26 : decode c_K_mayBeReferredTo 26 = .ok (.goto 4, 3) := by decide +kernel
theorem d_K_mayBeReferredTo_29 : decode c_K_mayBeReferredTo 29 = .ok (.iconst 0, 1) := by decide +kernel
theorem d_K_mayBeReferredTo_30 : decode c_K_mayBeReferredTo 30 = .ok (.ireturn, 1) := by decide +kernel
theorem d_K_writeRecord_0 : decode c_K_writeRecord 0 = .ok (.aload_n 0, 1) := by decide +kernel
theorem d_K_writeRecord_1 : decode c_K_writeRecord 1 = .ok (.getfield 21, 3) := by decide +kernel
theorem d_K_writeRecord_4 : decode c_K_writeRecord 4 = .ok (.iload_n 1, 1) := by decide +kernel
theorem d_K_writeRecord_5 : decode c_K_writeRecord 5 = .ok (.iaload, 1) := by decide +kernel
theorem d_K_writeRecord_6 : decode c_K_writeRecord 6 = .ok (.istore_n 3, 1) := by decide +kernel
theorem d_K_writeRecord_7 : decode c_K_writeRecord 7 = .ok (.aload_n 0, 1) := by decide +kernel
theorem d_K_writeRecord_8 : decode c_K_writeRecord 8 = .ok (.getfield 28, 3) := by decide +kernel
theorem d_K_writeRecord_11 : decode c_K_writeRecord 11 = .ok (.iload_n 3, 1) := by decide +kernel
theorem d_K_writeRecord_12 : decode c_K_writeRecord 12 = .ok (.invokestatic 70, 3) := by decide +kernel
theorem d_K_writeRecord_15 : decode c_K_writeRecord 15 = .ok (.invokevirtual 75, 3) := by decide +kernel
theorem d_K_writeRecord_18 : decode c_K_writeRecord 18 = .ok (.iload_n 3, 1) := by decide +kernel
theorem d_K_writeRecord_19 : decode c_K_writeRecord 19 = .ok (.ifCond .eq 21, 3) := by decide +kernel
theorem d_K_writeRecord_22 : decode c_K_writeRecord 22 = .ok (.aload_n 0, 1) := by decide +kernel
theorem d_K_writeRecord_23 : decode c_K_writeRecord 23 = .ok (.getfield 24, 3) := by decide +kernel
theorem d_K_writeRecord_26 : decode c_K_writeRecord 26 = .ok (.getfield 54, 3) := by decide +kernel
theorem d_K_writeRecord_29 : decode c_K_writeRecord 29 = .ok (.ifCond .le 11, 3) := by decide +kernel
theorem d_K_writeRecord_32 : decode c_K_writeRecord 32 = .ok (.aload_n 0, 1) := by decide +kernel
theorem d_K_writeRecord_33 : decode c_K_writeRecord 33 = .ok (.getfield 28, 3) := by decide +kernel
theorem d_K_writeRecord_36 : decode c_K_writeRecord 36 = .ok (.iload_n 2, 1) := by decide +kernel
theorem d_K_writeRecord_37 : decode c_K_writeRecord 37 = .ok (.invokevirtual 79, 3) := by decide +kernel
theorem d_K_writeRecord_40 : decode c_K_writeRecord 40 = .ok (.iload_n 2, 1) := by decide +kernel
theorem d_K_writeRecord_41 : decode c_K_writeRecord 41 = .ok (.ifCond .le 29, 3) := by decide +kernel
theorem d_K_writeRecord_44 : decode c_K_writeRecord 44 = .ok (.aload_n 0, 1) := by decide +kernel
theorem d_K_writeRecord_45 : decode c_K_writeRecord 45 = .ok (.iload_n 3, 1) := by decide +kernel
theorem d_K_writeRecord_46 : decode c_K_writeRecord 46 = .ok (.aload_n 0, 1) := by decide +kernel
theorem d_K_writeRecord_47 : decode c_K_writeRecord 47 = .ok (.getfield 21, 3) := by decide +kernel
theorem d_K_writeRecord_50 : decode c_K_writeRecord 50 = .ok (.iload_n 1, 1) := by decide +kernel
theorem d_K_writeRecord_51 : decode c_K_writeRecord 51 = .ok (.iload_n 2, 1) := by decide +kernel
theorem d_K_writeRecord_52 : decode c_K_writeRecord 52 = .ok (.isub, 1) := by decide +kernel
theorem d_K_writeRecord_53 : decode c_K_writeRecord 53 = .ok (.iaload, 1) := by decide +kernel
theorem d_K_writeRecord_54 : decode c_K_writeRecord 54 = .ok (.invokevirtual 82, 3) := by decide +kernel
theorem d_K_writeRecord_57 : decode c_K_writeRecord 57 = .ok (.iload_n 3, 1) := by decide +kernel
theorem d_K_writeRecord_58 : decode c_K_writeRecord 58 = .ok (.aload_n 0, 1) := by decide +kernel
theorem d_K_writeRecord_59 : decode c_K_writeRecord 59 = .ok (.getfield 21, 3) := by decide +kernel
theorem d_K_writeRecord_62 : decode c_K_writeRecord 62 = .ok (.iload_n 1, 1) := by decide +kernel
theorem d_K_writeRecord_63 : decode c_K_writeRecord 63 = .ok (.iload_n 2, 1) := by decide +kernel
theorem d_K_writeRecord_64 : decode c_K_writeRecord 64 = .ok (.isub, 1) := by decide +kernel
theorem d_K_writeRecord_65 : decode c_K_writeRecord 65 = .ok (.iaload, 1) := by decide +kernel
theorem d_K_writeRecord_66 : decode c_K_writeRecord 66 = .ok (.iconst (-1), 1) := by decide +kernel
theorem d_K_writeRecord_67 : decode c_K_writeRecord 67 = .ok (.ixor, 1) := by decide +kernel
theorem d_K_writeRecord_68 : decode c_K_writeRecord 68 = .ok (.iand, 1) := by decide +kernel
theorem d_K_writeRecord_69 : decode c_K_writeRecord 69 = .ok (.istore_n 3, 1) := by decide +kernel
theorem d_K_writeRecord_70 : decode c_K_writeRecord 70 = .ok (.iload_n 3, 1) := by decide +kernel
theorem d_K_writeRecord_71 : decode c_K_writeRecord 71 = .ok (.ifCond .eq 20, 3) := by decide +kernel
theorem d_K_writeRecord_74 : decode c_K_writeRecord 74 = .ok (.aload_n 0, 1) := by decide +kernel
theorem d_K_writeRecord_75 : decode c_K_writeRecord 75 = .ok (.getfield 24, 3) := by decide +kernel
theorem d_K_writeRecord_78 : decode c_K_writeRecord 78 = .ok (.getfield 85, 3) := by decide +kernel
theorem d_K_writeRecord_81 : decode c_K_writeRecord 81 = .ok (.ifCond .le 10, 3) := by decide +kernel
theorem d_K_writeRecord_84 : decode c_K_writeRecord 84 = .ok (.aload_n 0, 1) := by decide +kernel
theorem d_K_writeRecord_85 : decode c_K_writeRecord 85 = .ok (.iload_n 1, 1) := by decide +kernel
theorem d_K_writeRecord_86 : decode c_K_writeRecord 86 = .ok (.iload_n 3, 1) := by decide +kernel
theorem d_K_writeRecord_87 : decode c_K_writeRecord 87 = .ok (.invokevirtual 88, 3) := by decide +kernel
theorem d_K_writeRecord_90 : decode c_K_writeRecord 90 = .ok (.istore_n 3, 1) := by decide +kernel
theorem d_K_writeRecord_91 : decode c_K_writeRecord 91 = .ok (.aload_n 0, 1) := by decide +kernel
theorem d_K_writeRecord_92 : decode c_K_writeRecord 92 = .ok (.iload_n 1, 1) := by decide +kernel
theorem d_K_writeRecord_93 : decode c_K_writeRecord 93 = .ok (.iload_n 3, 1) := by decide +kernel
theorem d_K_writeRecord_94 : decode c_K_writeRecord 94 = .ok (.invokevirtual 91, 3) := by decide +kernel
theorem d_K_writeRecord_97 : decode c_K_writeRecord 97 = .ok (.return_, 1) := by decide +kernel
theorem d_K_writeRuns_0 : decode c_K_writeRuns 0 = .ok (.iconst 0, 1) := by decide +kernel
theorem d_K_writeRuns_1 : decode c_K_writeRuns 1 = .ok (.istore_n 3, 1) := by decide +kernel
theorem d_K_writeRuns_2 : decode c_K_writeRuns 2 = .ok (.iconst 1, 1) := by decide +kernel
theorem d_K_writeRuns_3 : decode c_K_writeRuns 3 = .ok (.istore 4, 2) := by decide +kernel
theorem d_K_writeRuns_5 : decode c_K_writeRuns 5 = .ok (.aload_n 0, 1) := by decide +kernel
theorem d_K_writeRuns_6 : decode c_K_writeRuns 6 = .ok (.getfield 9, 3) := by decide +kernel
theorem d_K_writeRuns_9 : decode c_K_writeRuns 9 = .ok (.iconst 0, 1) := by decide +kernel
theorem d_K_writeRuns_10 : decode c_K_writeRuns 10 = .ok (.iconst 0, 1) := by decide +kernel
theorem d_K_writeRuns_11 : decode c_K_writeRuns 11 = .ok (.iastore, 1) := by decide +kernel
theorem d_K_writeRuns_12 : decode c_K_writeRuns 12 = .ok (.iconst 0, 1) := by decide +kernel
theorem d_K_writeRuns_13 : decode c_K_writeRuns 13 = .ok (.istore 5, 2) := by decide +kernel
theorem d_K_writeRuns_15 : decode c_K_writeRuns 15 = .ok (.iload 5, 2) := by decide +kernel
theorem d_K_writeRuns_17 : decode c_K_writeRuns 17 = .ok (.aload_n 0, 1) := by decide +kernel
theorem d_K_writeRuns_18 : decode c_K_writeRuns 18 = .ok (.getfield 21, 3) := by decide +kernel
theorem d_K_writeRuns_21 : decode c_K_writeRuns 21 = .ok (.arraylength, 1) := by decide +kernel
theorem d_K_writeRuns_22 : decode c_K_writeRuns 22 = .ok (.if_icmp .ge 61, 3) := by decide +kernel
theorem d_K_writeRuns_25 : decode c_K_writeRuns 25 = .ok (.iload_n 2, 1) := by decide +kernel
theorem d_K_writeRuns_26 : decode c_K_writeRuns 26 = .ok (.iload 5, 2) := by decide +kernel
theorem d_K_writeRuns_28 : decode c_K_writeRuns 28 = .ok (.invokestatic 94, 3) := by decide +kernel
theorem d_K_writeRuns_31 : decode c_K_writeRuns 31 = .ok (.ifCond .eq 46, 3) := by decide +kernel
theorem d_K_writeRuns_34 : decode c_K_writeRuns 34 = .ok (.iload_n 1, 1) := by decide +kernel
theorem d_K_writeRuns_35 : decode c_K_writeRuns 35 = .ok (.iload 5, 2) := by decide +kernel
theorem d_K_writeRuns_37 : decode c_K_writeRuns 37 = .ok (.invokestatic 94, 3) := by decide +kernel
theorem d_K_writeRuns_40 : decode c_K_writeRuns 40 = .ok (.iload 4, 2) := by decide +kernel
theorem d_K_writeRuns_42 : decode c_K_writeRuns 42 = .ok (.if_icmp .eq 25, 3) := by decide +kernel
theorem d_K_writeRuns_45 : decode c_K_writeRuns 45 = .ok (.iload 4, 2) := by decide +kernel
theorem d_K_writeRuns_47 : decode c_K_writeRuns 47 = .ok (.ifCond .ne 7, 3) := by decide +kernel
theorem d_K_writeRuns_50 : decode c_K_writeRuns 50 = .ok (.iconst 1, 1) := by decide +kernel
theorem d_K_writeRuns_51 : decode c_K_writeRuns 51 = .ok (.goto 4, 3) := by decide +kernel
theorem d_K_writeRuns_54 : decode c_K_writeRuns 54 = .ok (.iconst 0, 1) := by decide +kernel
theorem d_K_writeRuns_55 : decode c_K_writeRuns 55 = .ok (.istore 4, 2) := by decide +kernel
theorem d_K_writeRuns_57 : decode c_K_writeRuns 57 = .ok (.iinc 3 1, 3) := by decide +kernel
theorem d_K_writeRuns_60 : decode c_K_writeRuns 60 = .ok (.aload_n 0, 1) := by decide +kernel
theorem d_K_writeRuns_61 : decode c_K_writeRuns 61 = .ok (.getfield 9, 3) := by decide +kernel
theorem d_K_writeRuns_64 : decode c_K_writeRuns 64 = .ok (.iload_n 3, 1) := by decide +kernel
theorem d_K_writeRuns_65 : decode c_K_writeRuns 65 = .ok (.iconst 0, 1) := by decide +kernel
theorem d_K_writeRuns_66 : decode c_K_writeRuns 66 = .ok (.iastore, 1) := by decide +kernel
theorem d_K_writeRuns_67 : decode c_K_writeRuns 67 = .ok (.aload_n 0, 1) := by decide +kernel
theorem d_K_writeRuns_68 : decode c_K_writeRuns 68 = .ok (.getfield 9, 3) := by decide +kernel
theorem d_K_writeRuns_71 : decode c_K_writeRuns 71 = .ok (.iload_n 3, 1) := by decide +kernel
theorem d_K_writeRuns_72 : decode c_K_writeRuns 72 = .ok (.dup2, 1) := by decide +kernel
theorem d_K_writeRuns_73 : decode c_K_writeRuns 73 = .ok (.iaload, 1) := by decide +kernel
theorem d_K_writeRuns_74 : decode c_K_writeRuns 74 = .ok (.iconst 1, 1) := by decide +kernel
theorem d_K_writeRuns_75 : decode c_K_writeRuns 75 = .ok (.iadd, 1) := by decide +kernel
theorem d_K_writeRuns_76 : decode c_K_writeRuns 76 = .ok (.iastore, 1) := by decide +kernel
theorem d_K_writeRuns_77 : decode c_K_writeRuns 77 = .ok (.iinc 5 1, 3) := by decide +kernel
theorem d_K_writeRuns_80 : decode c_K_writeRuns 80 = .ok (.goto (-65), 3) := by decide +kernel
theorem d_K_writeRuns_83 : decode c_K_writeRuns 83 = .ok (.aload_n 0, 1) := by decide +kernel
theorem d_K_writeRuns_84 : decode c_K_writeRuns 84 = .ok (.getfield 28, 3) := by decide +kernel
theorem d_K_writeRuns_87 : decode c_K_writeRuns 87 = .ok (.iload_n 3, 1) := by decide +kernel
theorem d_K_writeRuns_88 : decode c_K_writeRuns 88 = .ok (.invokevirtual 75, 3) := by decide +kernel
theorem d_K_writeRuns_91 : decode c_K_writeRuns 91 = .ok (.iconst 0, 1) := by decide +kernel
theorem d_K_writeRuns_92 : decode c_K_writeRuns 92 = .ok (.istore 5, 2) := by decide +kernel
theorem d_K_writeRuns_94 : decode c_K_writeRuns 94 = .ok (.iload 5, 2) := by decide +kernel
theorem d_K_writeRuns_96 : decode c_K_writeRuns 96 = .ok (.iload_n 3, 1) := by decide +kernel
theorem d_K_writeRuns_97 : decode c_K_writeRuns 97 = .ok (.if_icmp .ge 40, 3) := by decide +kernel
theorem d_K_writeRuns_100 : decode c_K_writeRuns 100 = .ok (.aload_n 0, 1) := by decide +kernel
theorem d_K_writeRuns_101 : decode c_K_writeRuns 101 = .ok (.getfield 28, 3) := by decide +kernel
theorem d_K_writeRuns_104 : decode c_K_writeRuns 104 = .ok (.iload 5, 2) := by decide +kernel
theorem d_K_writeRuns_106 : decode c_K_writeRuns 106 = .ok (.ifCond .ne 13, 3) := by decide +kernel
theorem d_K_writeRuns_109 : decode c_K_writeRuns 109 = .ok (.aload_n 0, 1) := by decide +kernel
theorem d_K_writeRuns_110 : decode c_K_writeRuns 110 = .ok (.getfield 9, 3) := by decide +kernel
theorem d_K_writeRuns_113 : decode c_K_writeRuns 113 = .ok (.iload 5, 2) := by decide +kernel
theorem d_K_writeRuns_115 : decode c_K_writeRuns 115 = .ok (.iaload, 1) := by decide +kernel
theorem d_K_writeRuns_116 : decode c_K_writeRuns 116 = .ok (.goto 12, 3) := by decide +kernel
theorem d_K_writeRuns_119 : decode c_K_writeRuns 119 = .ok (.aload_n 0, 1) := by decide +kernel
theorem d_K_writeRuns_120 : decode c_K_writeRuns 120 = .ok (.getfield 9, 3) := by decide +kernel
theorem d_K_writeRuns_123 : decode c_K_writeRuns 123 = .ok (.iload 5, 2) := by decide +kernel
theorem d_K_writeRuns_125 : decode c_K_writeRuns 125 = .ok (.iaload, 1) := by decide +kernel
theorem d_K_writeRuns_126 : decode c_K_writeRuns 126 = .ok (.iconst 1, 1) := by decide +kernel
theorem d_K_writeRuns_127 : decode c_K_writeRuns 127 = .ok (.isub, 1) := by decide +kernel
theorem d_K_writeRuns_128 : decode c_K_writeRuns 128 = .ok (.invokevirtual 75, 3) := by decide +kernel
theorem d_K_writeRuns_131 : decode c_K_writeRuns 131 = .ok (.iinc 5 1, 3) := by decide +kernel
theorem d_K_writeRuns_134 : decode c_K_writeRuns 134 = .ok (.goto (-40), 3) := by decide +kernel
theorem d_K_writeRuns_137 : decode c_K_writeRuns 137 = .ok (.return_, 1) := by decide +kernel
theorem d_K_writeIntervals_0 : decode c_K_writeIntervals 0 = .ok (.iconst 0, 1) := by decide +kernel
theorem d_K_writeIntervals_1 : decode c_K_writeIntervals 1 = .ok (.istore_n 3, 1) := by decide +kernel
theorem d_K_writeIntervals_2 : decode c_K_writeIntervals 2 = .ok (.iload_n 2, 1) := by decide +kernel
theorem d_K_writeIntervals_3 : decode c_K_writeIntervals 3 = .ok (.istore 4, 2) := by decide +kernel
theorem d_K_writeIntervals_5 : decode c_K_writeIntervals 5 = .ok (.iconst 0, 1) := by decide +kernel
theorem d_K_writeIntervals_6 : decode c_K_writeIntervals 6 = .ok (.istore 5, 2) := by decide +kernel
theorem d_K_writeIntervals_8 : decode c_K_writeIntervals 8 = .ok (.iload 5, 2) := by decide +kernel
theorem d_K_writeIntervals_10 : decode c_K_writeIntervals 10 = .ok (.aload_n 0, 1) := by decide +kernel
theorem d_K_writeIntervals_11 : decode c_K_writeIntervals 11 = .ok (.getfield 21, 3) := by decide +kernel
theorem d_K_writeIntervals_14 : decode c_K_writeIntervals 14 = .ok (.arraylength, 1) := by decide +kernel
theorem d_K_writeIntervals_15 : decode c_K_writeIntervals 15 = .ok (.if_icmp .ge 76, 3) := by decide +kernel
theorem d_K_writeIntervals_18 : decode c_K_writeIntervals 18 = .ok (.aload_n 0, 1) := by decide +kernel
theorem d_K_writeIntervals_19 : decode c_K_writeIntervals 19 = .ok (.iload_n 2, 1) := by decide +kernel
theorem d_K_writeIntervals_20 : decode c_K_writeIntervals 20 = .ok (.iload 5, 2) := by decide +kernel
theorem d_K_writeIntervals_22 : decode c_K_writeIntervals 22 = .ok (.invokevirtual 98, 3) := by decide +kernel
theorem d_K_writeIntervals_25 : decode c_K_writeIntervals 25 = .ok (.istore 6, 2) := by decide +kernel
theorem d_K_writeIntervals_27 : decode c_K_writeIntervals 27 = .ok (.iload 6, 2) := by decide +kernel
theorem d_K_writeIntervals_29 : decode c_K_writeIntervals 29 = .ok (.aload_n 0, 1) := by decide +kernel
theorem d_K_writeIntervals_30 : decode c_K_writeIntervals 30 = .ok (.getfield 24, 3) := by decide +kernel
theorem d_K_writeIntervals_33 : decode c_K_writeIntervals 33 = .ok (.getfield 85, 3) := by decide +kernel
theorem d_K_writeIntervals_36 : decode c_K_writeIntervals 36 = .ok (.if_icmp .lt 38, 3) := by decide +kernel
theorem d_K_writeIntervals_39 : decode c_K_writeIntervals 39 = .ok (.aload_n 0, 1) := by decide +kernel
theorem d_K_writeIntervals_40 : decode c_K_writeIntervals 40 = .ok (.getfield 15, 3) := by decide +kernel
theorem d_K_writeIntervals_43 : decode c_K_writeIntervals 43 = .ok (.iload_n 3, 1) := by decide +kernel
theorem d_K_writeIntervals_44 : decode c_K_writeIntervals 44 = .ok (.iload 5, 2) := by decide +kernel
theorem d_K_writeIntervals_46 : decode c_K_writeIntervals 46 = .ok (.iastore, 1) := by decide +kernel
theorem d_K_writeIntervals_47 : decode c_K_writeIntervals 47 = .ok (.aload_n 0, 1) := by decide +kernel
theorem d_K_writeIntervals_48 : decode c_K_writeIntervals 48 = .ok (.getfield 18, 3) := by decide +kernel
theorem d_K_writeIntervals_51 : decode c_K_writeIntervals 51 = .ok (.iload_n 3, 1) := by decide +kernel
theorem d_K_writeIntervals_52 : decode c_K_writeIntervals 52 = .ok (.iload 6, 2) := by decide +kernel
theorem d_K_writeIntervals_54 : decode c_K_writeIntervals 54 = .ok (.iastore, 1) := by decide +kernel
theorem d_K_writeIntervals_55 : decode c_K_writeIntervals 55 = .ok (.iinc 3 1, 3) := by decide +kernel
theorem d_K_writeIntervals_58 : decode c_K_writeIntervals 58 = .ok (.iload 4, 2) := by decide +kernel
theorem d_K_writeIntervals_60 : decode c_K_writeIntervals 60 = .ok (.iconst 1, 1) := by decide +kernel
theorem d_K_writeIntervals_61 : decode c_K_writeIntervals 61 = .ok (.iload 6, 2) := by decide +kernel
theorem d_K_writeIntervals_63 : decode c_K_writeIntervals 63 = .ok (.ishl, 1) := by decide +kernel
theorem d_K_writeIntervals_64 : decode c_K_writeIntervals 64 = .ok (.iconst 1, 1) := by decide +kernel
theorem d_K_writeIntervals_65 : decode c_K_writeIntervals 65 = .ok (.isub, 1) := by decide +kernel
theorem d_K_writeIntervals_66 : decode c_K_writeIntervals 66 = .ok (.iload 5, 2) := by decide +kernel
theorem d_K_writeIntervals_68 : decode c_K_writeIntervals 68 = .ok (.ishl, 1) := by decide +kernel
theorem d_K_writeIntervals_69 : decode c_K_writeIntervals 69 = .ok (.iconst (-1), 1) := by decide +kernel
theorem d_K_writeIntervals_70 : decode c_K_writeIntervals 70 = .ok (.ixor, 1) := by decide +kernel
theorem d_K_writeIntervals_71 : decode c_K_writeIntervals 71 = .ok (.iand, 1) := by decide +kernel
theorem d_K_writeIntervals_72 : decode c_K_writeIntervals 72 = .ok (.istore 4, 2) := by decide +kernel
theorem d_K_writeIntervals_74 : decode c_K_writeIntervals 74 = .ok (.iload 5, 2) := by decide +kernel
theorem d_K_writeIntervals_76 : decode c_K_writeIntervals 76 = .ok (.aload_n 0, 1) := by decide +kernel
theorem d_K_writeIntervals_77 : decode c_K_writeIntervals 77 = .ok (.iload_n 2, 1) := by decide +kernel
theorem d_K_writeIntervals_78 : decode c_K_writeIntervals 78 = .ok (.iload 5, 2) := by decide +kernel
theorem d_K_writeIntervals_80 : decode c_K_writeIntervals 80 = .ok (.invokevirtual 98, 3) := by decide +kernel
theorem d_K_writeIntervals_83 : decode c_K_writeIntervals 83 = .ok (.iconst 1, 1) := by decide +kernel
theorem d_K_writeIntervals_84 : decode c_K_writeIntervals 84 = .ok (.iadd, 1) := by decide +kernel
theorem d_K_writeIntervals_85 : decode c_K_writeIntervals 85 = .ok (.iadd, 1) := by decide +kernel
theorem d_K_writeIntervals_86 : decode c_K_writeIntervals 86 = .ok (.istore 5, 2) := by decide +kernel
theorem d_K_writeIntervals_88 : decode c_K_writeIntervals 88 = .ok (.goto (-80), 3) := by decide +kernel
theorem d_K_writeIntervals_91 : decode c_K_writeIntervals 91 = .ok (.aload_n 0, 1) := by decide +kernel
theorem d_K_writeIntervals_92 : decode c_K_writeIntervals 92 = .ok (.getfield 28, 3) := by decide +kernel
theorem d_K_writeIntervals_95 : decode c_K_writeIntervals 95 = .ok (.iload_n 3, 1) := by decide +kernel
theorem d_K_writeIntervals_96 : decode c_K_writeIntervals 96 = .ok (.invokevirtual 75, 3) := by decide +kernel
theorem d_K_writeIntervals_99 : decode c_K_writeIntervals 99 = .ok (.iconst 0, 1) := by decide +kernel
theorem d_K_writeIntervals_100 : decode c_K_writeIntervals 100 = .ok (.istore 5, 2) := by decide +kernel
theorem d_K_writeIntervals_102 : decode c_K_writeIntervals 102 = .ok (.iconst 0, 1) := by decide +kernel
theorem d_K_writeIntervals_103 : decode c_K_writeIntervals 103 = .ok (.istore 6, 2) := by decide +kernel
theorem d_K_writeIntervals_105 : decode c_K_writeIntervals 105 = .ok (.iload 6, 2) := by decide +kernel
theorem d_K_writeIntervals_107 : decode c_K_writeIntervals 107 = .ok (.iload_n 3, 1) := by decide +kernel
theorem d_K_writeIntervals_108 : decode c_K_writeIntervals 108 = .ok (.if_icmp .ge 89, 3) := by decide +kernel
theorem d_K_writeIntervals_111 : decode c_K_writeIntervals 111 = .ok (.aload_n 0, 1) := by decide +kernel
theorem d_K_writeIntervals_112 : decode c_K_writeIntervals 112 = .ok (.getfield 28, 3) := by decide +kernel
theorem d_K_writeIntervals_115 : decode c_K_writeIntervals 115 = .ok (.iload 6, 2) := by decide +kernel
theorem d_K_writeIntervals_117 : decode c_K_writeIntervals 117 = .ok (.ifCond .ne 18, 3) := by decide +kernel
theorem d_K_writeIntervals_120 : decode c_K_writeIntervals 120 = .ok (.aload_n 0, 1) := by decide +kernel
theorem d_K_writeIntervals_121 : decode c_K_writeIntervals 121 = .ok (.getfield 15, 3) := by decide +kernel
theorem d_K_writeIntervals_124 : decode c_K_writeIntervals 124 = .ok (.iload 6, 2) := by decide +kernel
theorem d_K_writeIntervals_126 : decode c_K_writeIntervals 126 = .ok (.iaload, 1) := by decide +kernel
theorem d_K_writeIntervals_127 : decode c_K_writeIntervals 127 = .ok (.iload_n 1, 1) := by decide +kernel
theorem d_K_writeIntervals_128 : decode c_K_writeIntervals 128 = .ok (.isub, 1) := by decide +kernel
theorem d_K_writeIntervals_129 : decode c_K_writeIntervals 129 = .ok (.invokestatic 101, 3) := by decide +kernel
theorem d_K_writeIntervals_132 : decode c_K_writeIntervals 132 = .ok (.goto 15, 3) := by decide +kernel
theorem d_K_writeIntervals_135 : decode c_K_writeIntervals 135 = .ok (.aload_n 0, 1) := by decide +kernel
theorem d_K_writeIntervals_136 : decode c_K_writeIntervals 136 = .ok (.getfield 15, 3) := by decide +kernel
theorem d_K_writeIntervals_139 : decode c_K_writeIntervals 139 = .ok (.iload 6, 2) := by decide +kernel
theorem d_K_writeIntervals_141 : decode c_K_writeIntervals 141 = .ok (.iaload, 1) := by decide +kernel
theorem d_K_writeIntervals_142 : decode c_K_writeIntervals 142 = .ok (.iload 5, 2) := by decide +kernel
theorem d_K_writeIntervals_144 : decode c_K_writeIntervals 144 = .ok (.isub, 1) := by decide +kernel
theorem d_K_writeIntervals_145 : decode c_K_writeIntervals 145 = .ok (.iconst 2, 1) := by decide +kernel
theorem d_K_writeIntervals_146 : decode c_K_writeIntervals 146 = .ok (.isub, 1) := by decide +kernel
theorem d_K_writeIntervals_147 : decode c_K_writeIntervals 147 = .ok (.invokevirtual 75, 3) := by decide +kernel
theorem d_K_writeIntervals_150 : decode c_K_writeIntervals 150 = .ok (.aload_n 0, 1) := by decide +kernel
theorem d_K_writeIntervals_151 : decode c_K_writeIntervals 151 = .ok (.getfield 28, 3) := by decide +kernel
theorem d_K_writeIntervals_154 : decode c_K_writeIntervals 154 = .ok (.aload_n 0, 1) := by decide +kernel
theorem d_K_writeIntervals_155 : decode c_K_writeIntervals 155 = .ok (.getfield 18, 3) := by decide +kernel
theorem d_K_writeIntervals_158 : decode c_K_writeIntervals 158 = .ok (.iload 6, 2) := by decide +kernel
theorem d_K_writeIntervals_160 : decode c_K_writeIntervals 160 = .ok (.iaload, 1) := by decide +kernel
theorem d_K_writeIntervals_161 : decode c_K_writeIntervals 161 = .ok (.aload_n 0, 1) := by decide +kernel
theorem d_K_writeIntervals_162 : decode c_K_writeIntervals 162 = .ok (.getfield 24, 3) := by decide +kernel
theorem d_K_writeIntervals_165 : decode c_K_writeIntervals 165 = .ok (.getfield 85, 3) := by decide +kernel
theorem d_K_writeIntervals_168 : decode c_K_writeIntervals 168 = .ok (.isub, 1) := by decide +kernel
theorem d_K_writeIntervals_169 : decode c_K_writeIntervals 169 = .ok (.invokevirtual 75, 3) := by decide +kernel
theorem d_K_writeIntervals_172 : decode c_K_writeIntervals 172 = .ok (.aload_n 0, 1) := by decide +kernel
theorem d_K_writeIntervals_173 : decode c_K_writeIntervals 173 = .ok (.getfield 15, 3) := by decide +kernel
theorem d_K_writeIntervals_176 : decode c_K_writeIntervals 176 = .ok (.iload 6, 2) := by decide +kernel
theorem d_K_writeIntervals_178 : decode c_K_writeIntervals 178 = .ok (.iaload, 1) := by decide +kernel
theorem d_K_writeIntervals_179 : decode c_K_writeIntervals 179 = .ok (.aload_n 0, 1) := by decide +kernel
theorem d_K_writeIntervals_180 : decode c_K_writeIntervals 180 = .ok (.getfield 18, 3) := by decide +kernel
theorem d_K_writeIntervals_183 : decode c_K_writeIntervals 183 = .ok (.iload 6, 2) := by decide +kernel
theorem d_K_writeIntervals_185 : decode c_K_writeIntervals 185 = .ok (.iaload, 1) := by decide +kernel
theorem d_K_writeIntervals_186 : decode c_K_writeIntervals 186 = .ok (.iadd, 1) := by decide +kernel
theorem d_K_writeIntervals_187 : decode c_K_writeIntervals 187 = .ok (.iconst 1, 1) := by decide +kernel
theorem d_K_writeIntervals_188 : decode c_K_writeIntervals 188 = .ok (.isub, 1) := by decide +kernel
theorem d_K_writeIntervals_189 : decode c_K_writeIntervals 189 = .ok (.istore 5, 2) := by decide +kernel
theorem d_K_writeIntervals_191 : decode c_K_writeIntervals 191 = .ok (.iinc 6 1, 3) := by decide +kernel
theorem d_K_writeIntervals_194 : decode c_K_writeIntervals 194 = .ok (.goto (-89), 3) := by decide +kernel
theorem d_K_writeIntervals_197 : decode c_K_writeIntervals 197 = .ok (.iload 4, 2) := by decide +kernel
theorem d_K_writeIntervals_199 : decode c_K_writeIntervals 199 = .ok (.ireturn, 1) := by decide +kernel
theorem d_K_rowLength_0 : decode c_K_rowLength 0 = .ok (.iconst 0, 1) := by decide +kernel
theorem d_K_rowLength_1 : decode c_K_rowLength 1 = .ok (.istore_n 3, 1) := by decide +kernel
theorem d_K_rowLength_2 : decode c_K_rowLength 2 = .ok (.iload_n 2, 1) := by decide +kernel
theorem d_K_rowLength_3 : decode c_K_rowLength 3 = .ok (.iload_n 3, 1) := by decide +kernel
theorem d_K_rowLength_4 : decode c_K_rowLength 4 = .ok (.iadd, 1) := by decide +kernel
theorem d_K_rowLength_5 : decode c_K_rowLength 5 = .ok (.aload_n 0, 1) := by decide +kernel
theorem d_K_rowLength_6 : decode c_K_rowLength 6 = .ok (.getfield 21, 3) := by decide +kernel
theorem d_K_rowLength_9 : decode c_K_rowLength 9 = .ok (.arraylength, 1) := by decide +kernel
theorem d_K_rowLength_10 : decode c_K_rowLength 10 = .ok (.if_icmp .ge 19, 3) := by decide +kernel
theorem d_K_rowLength_13 : decode c_K_rowLength 13 = .ok (.iload_n 1, 1) := by decide +kernel
theorem d_K_rowLength_14 : decode c_K_rowLength 14 = .ok (.iload_n 2, 1) := by decide +kernel
theorem d_K_rowLength_15 : decode c_K_rowLength 15 = .ok (.iload_n 3, 1) := by decide +kernel
theorem d_K_rowLength_16 : decode c_K_rowLength 16 = .ok (.iadd, 1) := by decide +kernel
theorem d_K_rowLength_17 : decode c_K_rowLength 17 = .ok (.invokestatic 94, 3) := by decide +kernel
theorem d_K_rowLength_20 : decode c_K_rowLength 20 = .ok (.ifCond .eq 9, 3) := by decide +kernel
theorem d_K_rowLength_23 : decode c_K_rowLength 23 = .ok (.iinc 3 1, 3) := by decide +kernel
theorem d_K_rowLength_26 : decode c_K_rowLength 26 = .ok (.goto (-24), 3) := by decide +kernel
theorem d_K_rowLength_29 : decode c_K_rowLength 29 = .ok (.iload_n 3, 1) := by decide +kernel
theorem d_K_rowLength_30 : decode c_K_rowLength 30 = .ok (.ireturn, 1) := by decide +kernel
theorem d_K_writeSingles_0 : decode c_K_writeSingles 0 = .ok (.iconst (-1), 1) := by decide +kernel
theorem d_K_writeSingles_1 : decode c_K_writeSingles 1 = .ok (.istore_n 3, 1) := by decide +kernel
theorem d_K_writeSingles_2 : decode c_K_writeSingles 2 = .ok (.iconst 0, 1) := by decide +kernel
theorem d_K_writeSingles_3 : decode c_K_writeSingles 3 = .ok (.istore 4, 2) := by decide +kernel
theorem d_K_writeSingles_5 : decode c_K_writeSingles 5 = .ok (.iload 4, 2) := by decide +kernel
theorem d_K_writeSingles_7 : decode c_K_writeSingles 7 = .ok (.aload_n 0, 1) := by decide +kernel
theorem d_K_writeSingles_8 : decode c_K_writeSingles 8 = .ok (.getfield 21, 3) := by decide +kernel
theorem d_K_writeSingles_11 : decode c_K_writeSingles 11 = .ok (.arraylength, 1) := by decide +kernel
theorem d_K_writeSingles_12 : decode c_K_writeSingles 12 = .ok (.if_icmp .ge 55, 3) := by decide +kernel
theorem d_K_writeSingles_15 : decode c_K_writeSingles 15 = .ok (.iload_n 2, 1) := by decide +kernel
theorem d_K_writeSingles_16 : decode c_K_writeSingles 16 = .ok (.iload 4, 2) := by decide +kernel
theorem d_K_writeSingles_18 : decode c_K_writeSingles 18 = .ok (.invokestatic 94, 3) := by decide +kernel
theorem d_K_writeSingles_21 : decode c_K_writeSingles 21 = .ok (.ifCond .eq 40, 3) := by decide +kernel
theorem d_K_writeSingles_24 : decode c_K_writeSingles 24 = .ok (.aload_n 0, 1) := by decide +kernel
theorem d_K_writeSingles_25 : decode c_K_writeSingles 25 = .ok (.getfield 28, 3) := by decide +kernel
theorem d_K_writeSingles_28 : decode c_K_writeSingles 28 = .ok (.iload_n 3, 1) := by decide +kernel
theorem d_K_writeSingles_29 : decode c_K_writeSingles 29 = .ok (.ifCond .ge 13, 3) := by decide +kernel
theorem d_K_writeSingles_32 : decode c_K_writeSingles 32 = .ok (.iload 4, 2) := by decide +kernel
theorem d_K_writeSingles_34 : decode c_K_writeSingles 34 = .ok (.iload_n 1, 1) := by decide +kernel
theorem d_K_writeSingles_35 : decode c_K_writeSingles 35 = .ok (.isub, 1) := by decide +kernel
theorem d_K_writeSingles_36 : decode c_K_writeSingles 36 = .ok (.invokestatic 101, 3) := by decide +kernel
theorem d_K_writeSingles_39 : decode c_K_writeSingles 39 = .ok (.goto 9, 3) := by decide +kernel
theorem d_K_writeSingles_42 : decode c_K_writeSingles 42 = .ok (.iload 4, 2) := by decide +kernel
theorem d_K_writeSingles_44 : decode c_K_writeSingles 44 = .ok (.iload_n 3, 1) := by decide +kernel
theorem d_K_writeSingles_45 : decode c_K_writeSingles 45 = .ok (.isub, 1) := by decide +kernel
theorem d_K_writeSingles_46 : decode c_K_writeSingles 46 = .ok (.iconst 1, 1) := by decide +kernel
theorem d_K_writeSingles_47 : decode c_K_writeSingles 47 = .ok (.isub, 1) := by decide +kernel
theorem d_K_writeSingles_48 : decode c_K_writeSingles 48 = .ok (.aload_n 0, 1) := by decide +kernel
theorem d_K_writeSingles_49 : decode c_K_writeSingles 49 = .ok (.getfield 24, 3) := by decide +kernel
theorem d_K_writeSingles_52 : decode c_K_writeSingles 52 = .ok (.getfield 104, 3) := by decide +kernel
theorem d_K_writeSingles_55 : decode c_K_writeSingles 55 = .ok (.invokevirtual 107, 3) := by decide +kernel
theorem d_K_writeSingles_58 : decode c_K_writeSingles 58 = .ok (.iload 4, 2) := by decide +kernel
theorem d_K_writeSingles_60 : decode c_K_writeSingles 60 = .ok (.istore_n 3, 1) := by decide +kernel
theorem d_K_writeSingles_61 : decode c_K_writeSingles 61 = .ok (.iinc 4 1, 3) := by decide +kernel
theorem d_K_writeSingles_64 : decode c_K_writeSingles 64 = .ok (.goto (-59), 3) := by decide +kernel
theorem d_K_writeSingles_67 : decode c_K_writeSingles 67 = .ok (.return_, 1) := by decide +kernel
theorem d_O_init_0 : decode c_O_init 0 = .ok (.aload_n 0, 1) := by decide +kernel
theorem d_O_init_1 : decode c_O_init 1 = .ok (.invokespecial 3, 3) := by decide +kernel
theorem d_O_init_4 : decode c_O_init 4 = .ok (.aload_n 0, 1) := by decide +kernel
theorem d_O_init_5 : decode c_O_init 5 = .ok (.aload_n 1, 1) := by decide +kernel
theorem d_O_init_6 : decode c_O_init 6 = .ok (.putfield 9, 3) := by decide +kernel
theorem d_O_init_9 : decode c_O_init 9 = .ok (.aload_n 0, 1) := by decide +kernel
theorem d_O_init_10 : decode c_O_init 10 = .ok (.aload_n 1, 1) := by decide +kernel
theorem d_O_init_11 : decode c_O_init 11 = .ok (.arraylength, 1) := by decide +kernel
theorem d_O_init_12 : decode c_O_init 12 = .ok (.newarray .long, 2) := by decide +kernel
theorem d_O_init_14 : decode c_O_init 14 = .ok (.putfield 15, 3) := by decide +kernel
theorem d_O_init_17 : decode c_O_init 17 = .ok (.aload_n 0, 1) := by decide +kernel
theorem d_O_init_18 : decode c_O_init 18 = .ok (.aload_n 1, 1) := by decide +kernel
theorem d_O_init_19 : decode c_O_init 19 = .ok (.arraylength, 1) := by decide +kernel
theorem d_O_init_20 : decode c_O_init 20 = .ok (.newarray .long, 2) := by decide +kernel
theorem d_O_init_22 : decode c_O_init 22 = .ok (.putfield 19, 3) := by decide +kernel
theorem d_O_init_25 : decode c_O_init 25 = .ok (.aload_n 0, 1) := by decide +kernel
theorem d_O_init_26 : decode c_O_init 26 = .ok (.aload_n 1, 1) := by decide +kernel
theorem d_O_init_27 : decode c_O_init 27 = .ok (.arraylength, 1) := by decide +kernel
theorem d_O_init_28 : decode c_O_init 28 = .ok (.newarray .long, 2) := by decide +kernel
theorem d_O_init_30 : decode c_O_init 30 = .ok (.putfield 22, 3) := by decide +kernel
theorem d_O_init_33 : decode c_O_init 33 = .ok (.aload_n 0, 1) := by decide +kernel
theorem d_O_init_34 : decode c_O_init 34 = .ok (.aload_n 1, 1) := by decide +kernel
theorem d_O_init_35 : decode c_O_init 35 = .ok (.arraylength, 1) := by decide +kernel
theorem d_O_init_36 : decode c_O_init 36 = .ok (.newarray .int, 2) := by decide +kernel
theorem d_O_init_38 : decode c_O_init 38 = .ok (.putfield 25, 3) := by decide +kernel
theorem d_O_init_41 : decode c_O_init 41 = .ok (.iconst 0, 1) := by decide +kernel
theorem d_O_init_42 : decode c_O_init 42 = .ok (.istore_n 2, 1) := by decide +kernel
theorem d_O_init_43 : decode c_O_init 43 = .ok (.iload_n 2, 1) := by decide +kernel
theorem d_O_init_44 : decode c_O_init 44 = .ok (.aload_n 1, 1) := by decide +kernel
theorem d_O_init_45 : decode c_O_init 45 = .ok (.arraylength, 1) := by decide +kernel
theorem d_O_init_46 : decode c_O_init 46 = .ok (.if_icmp .ge 16, 3) := by decide +kernel
theorem d_O_init_49 : decode c_O_init 49 = .ok (.aload_n 0, 1) := by decide +kernel
theorem d_O_init_50 : decode c_O_init 50 = .ok (.getfield 25, 3) := by decide +kernel
theorem d_O_init_53 : decode c_O_init 53 = .ok (.iload_n 2, 1) := by decide +kernel
theorem d_O_init_54 : decode c_O_init 54 = .ok (.iconst 1, 1) := by decide +kernel
theorem d_O_init_55 : decode c_O_init 55 = .ok (.iastore, 1) := by decide +kernel
theorem d_O_init_56 : decode c_O_init 56 = .ok (.iinc 2 1, 3) := by decide +kernel
theorem d_O_init_59 : decode c_O_init 59 = .ok (.goto (-16), 3) := by decide +kernel
theorem d_O_init_62 : decode c_O_init 62 = .ok (.return_, 1) := by decide +kernel
theorem d_O_begin_0 : decode c_O_begin 0 = .ok (.aload_n 0, 1) := by decide +kernel
theorem d_O_begin_1 : decode c_O_begin 1 = .ok (.iload_n 1, 1) := by decide +kernel
theorem d_O_begin_2 : decode c_O_begin 2 = .ok (.putfield 28, 3) := by decide +kernel
theorem d_O_begin_5 : decode c_O_begin 5 = .ok (.aload_n 0, 1) := by decide +kernel
theorem d_O_begin_6 : decode c_O_begin 6 = .ok (.iload_n 2, 1) := by decide +kernel
theorem d_O_begin_7 : decode c_O_begin 7 = .ok (.putfield 32, 3) := by decide +kernel
theorem d_O_begin_10 : decode c_O_begin 10 = .ok (.aload_n 0, 1) := by decide +kernel
theorem d_O_begin_11 : decode c_O_begin 11 = .ok (.lconst 0, 1) := by decide +kernel
theorem d_O_begin_12 : decode c_O_begin 12 = .ok (.putfield 35, 3) := by decide +kernel
theorem d_O_begin_15 : decode c_O_begin 15 = .ok (.iconst 0, 1) := by decide +kernel
theorem d_O_begin_16 : decode c_O_begin 16 = .ok (.istore_n 3, 1) := by decide +kernel
theorem d_O_begin_17 : decode c_O_begin 17 = .ok (.iload_n 3, 1) := by decide +kernel
theorem d_O_begin_18 : decode c_O_begin 18 = .ok (.aload_n 0, 1) := by decide +kernel
theorem d_O_begin_19 : decode c_O_begin 19 = .ok (.getfield 9, 3) := by decide +kernel
theorem d_O_begin_22 : decode c_O_begin 22 = .ok (.arraylength, 1) := by decide +kernel
theorem d_O_begin_23 : decode c_O_begin 23 = .ok (.if_icmp .ge 62, 3) := by decide +kernel
theorem d_O_begin_26 : decode c_O_begin 26 = .ok (.aload_n 0, 1) := by decide +kernel
theorem d_O_begin_27 : decode c_O_begin 27 = .ok (.getfield 15, 3) := by decide +kernel
theorem d_O_begin_30 : decode c_O_begin 30 = .ok (.iload_n 3, 1) := by decide +kernel
theorem d_O_begin_31 : decode c_O_begin 31 = .ok (.aload_n 0, 1) := by decide +kernel
theorem d_O_begin_32 : decode c_O_begin 32 = .ok (.getfield 28, 3) := by decide +kernel
theorem d_O_begin_35 : decode c_O_begin 35 = .ok (.iconst 1, 1) := by decide +kernel
theorem d_O_begin_36 : decode c_O_begin 36 = .ok (.if_icmp .ne 9, 3) := by decide +kernel
theorem d_O_begin_39 : decode c_O_begin 39 = .ok (.ldc2_w 39, 3) := by decide +kernel
theorem d_O_begin_42 : decode c_O_begin 42 = .ok (.goto 15, 3) := by decide +kernel
theorem d_O_begin_45 : decode c_O_begin 45 = .ok (.ldc2_w 41, 3) := by decide +kernel
theorem d_O_begin_48 : decode c_O_begin 48 = .ok (.aload_n 0, 1) := by decide +kernel
theorem d_O_begin_49 : decode c_O_begin 49 = .ok (.getfield 9, 3) := by decide +kernel
theorem d_O_begin_52 : decode c_O_begin 52 = .ok (.arraylength, 1) := by decide +kernel
theorem d_O_begin_53 : decode c_O_begin 53 = .ok (.i2l, 1) := by decide +kernel
theorem d_O_begin_54 : decode c_O_begin 54 = .ok (.invokestatic 43, 3) := by decide +kernel
theorem d_O_begin_57 : decode c_O_begin 57 = .ok (.lastore, 1) := by decide +kernel
theorem d_O_begin_58 : decode c_O_begin 58 = .ok (.aload_n 0, 1) := by decide +kernel
theorem d_O_begin_59 : decode c_O_begin 59 = .ok (.getfield 19, 3) := by decide +kernel
theorem d_O_begin_62 : decode c_O_begin 62 = .ok (.iload_n 3, 1) := by decide +kernel
theorem d_O_begin_63 : decode c_O_begin 63 = .ok (.aload_n 0, 1) := by decide +kernel
theorem d_O_begin_64 : decode c_O_begin 64 = .ok (.getfield 28, 3) := by decide +kernel
theorem d_O_begin_67 : decode c_O_begin 67 = .ok (.iconst 1, 1) := by decide +kernel
theorem d_O_begin_68 : decode c_O_begin 68 = .ok (.if_icmp .ne 9, 3) := by decide +kernel
theorem d_O_begin_71 : decode c_O_begin 71 = .ok (.ldc2_w 39, 3) := by decide +kernel
theorem d_O_begin_74 : decode c_O_begin 74 = .ok (.goto 4, 3) := by decide +kernel
theorem d_O_begin_77 : decode c_O_begin 77 = .ok (.lconst 0, 1) := by decide +kernel
theorem d_O_begin_78 : decode c_O_begin 78 = .ok (.lastore, 1) := by decide +kernel
theorem d_O_begin_79 : decode c_O_begin 79 = .ok (.iinc 3 1, 3) := by decide +kernel
theorem d_O_begin_82 : decode c_O_begin 82 = .ok (.goto (-65), 3) := by decide +kernel
theorem d_O_begin_85 : decode c_O_begin 85 = .ok (.return_, 1) := by decide +kernel
theorem d_O_advance_0 : decode c_O_advance 0 = .ok (.iconst 0, 1) := by decide +kernel
theorem d_O_advance_1 : decode c_O_advance 1 = .ok (.istore_n 2, 1) := by decide +kernel
theorem d_O_advance_2 : decode c_O_advance 2 = .ok (.iload_n 2, 1) := by decide +kernel
theorem d_O_advance_3 : decode c_O_advance 3 = .ok (.iload_n 1, 1) := by decide +kernel
theorem d_O_advance_4 : decode c_O_advance 4 = .ok (.if_icmp .ge 26, 3) := by decide +kernel
theorem d_O_advance_7 : decode c_O_advance 7 = .ok (.aload_n 0, 1) := by decide +kernel
theorem d_O_advance_8 : decode c_O_advance 8 = .ok (.invokevirtual 47, 3) := by decide +kernel
theorem d_O_advance_11 : decode c_O_advance 11 = .ok (.aload_n 0, 1) := by decide +kernel
theorem d_O_advance_12 : decode c_O_advance 12 = .ok (.getfield 35, 3) := by decide +kernel
theorem d_O_advance_15 : decode c_O_advance 15 = .ok (.lconst 0, 1) := by decide +kernel
theorem d_O_advance_16 : decode c_O_advance 16 = .ok (.lcmp, 1) := by decide +kernel
theorem d_O_advance_17 : decode c_O_advance 17 = .ok (.ifCond .ne 7, 3) := by decide +kernel
theorem d_O_advance_20 : decode c_O_advance 20 = .ok (.iload_n 2, 1) := by decide +kernel
theorem d_O_advance_21 : decode c_O_advance 21 = .ok (.iconst 1, 1) := by decide +kernel
theorem d_O_advance_22 : decode c_O_advance 22 = .ok (.iadd, 1) := by decide +kernel
theorem d_O_advance_23 : decode c_O_advance 23 = .ok (.ireturn, 1) := by decide +kernel
theorem d_O_advance_24 : decode c_O_advance 24 = .ok (.iinc 2 1, 3) := by decide +kernel
theorem d_O_advance_27 : decode c_O_advance 27 = .ok (.goto (-25), 3) := by decide +kernel
theorem d_O_advance_30 : decode c_O_advance 30 = .ok (.iload_n 1, 1) := by decide +kernel
theorem d_O_advance_31 : decode c_O_advance 31 = .ok (.ireturn, 1) := by decide +kernel
theorem d_O_weightOfOthers_0 : decode c_O_weightOfOthers 0 = .ok (.iconst 0, 1) := by decide +kernel
theorem d_O_weightOfOthers_1 : decode c_O_weightOfOthers 1 = .ok (.istore_n 2, 1) := by decide +kernel
theorem d_O_weightOfOthers_2 : decode c_O_weightOfOthers 2 = .ok (.iconst 0, 1) := by decide +kernel
theorem d_O_weightOfOthers_3 : decode c_O_weightOfOthers 3 = .ok (.istore_n 3, 1) := by decide +kernel
theorem d_O_weightOfOthers_4 : decode c_O_weightOfOthers 4 = .ok (.iload_n 3, 1) := by decide +kernel
theorem d_O_weightOfOthers_5 : decode c_O_weightOfOthers 5 = .ok (.aload_n 0, 1) := by decide +kernel
theorem d_O_weightOfOthers_6 : decode c_O_weightOfOthers 6 = .ok (.getfield 9, 3) := by decide +kernel
theorem d_O_weightOfOthers_9 : decode c_O_weightOfOthers 9 = .ok (.arraylength, 1) := by decide +kernel
theorem d_O_weightOfOthers_10 : decode c_O_weightOfOthers 10 = .ok (.if_icmp .ge 23, 3) := by decide +kernel
theorem d_O_weightOfOthers_13 : decode c_O_weightOfOthers 13 = .ok (.iload_n 3, 1) := by decide +kernel
theorem d_O_weightOfOthers_14 : decode c_O_weightOfOthers 14 = .ok (.iload_n 1, 1) := by decide +kernel
theorem d_O_weightOfOthers_15 : decode c_O_weightOfOthers 15 = .ok (.if_icmp .eq 12, 3) := by decide +kernel
theorem d_O_weightOfOthers_18 : decode c_O_weightOfOthers 18 = .ok (.iload_n 2, 1) := by decide +kernel
theorem d_O_weightOfOthers_19 : decode c_O_weightOfOthers 19 = .ok (.aload_n 0, 1) := by decide +kernel
theorem d_O_weightOfOthers_20 : decode c_O_weightOfOthers 20 = .ok (.getfield 25, 3) := by decide +kernel
theorem d_O_weightOfOthers_23 : decode c_O_weightOfOthers 23 = .ok (.iload_n 3, 1) := by decide +kernel
theorem d_O_weightOfOthers_24 : decode c_O_weightOfOthers 24 = .ok (.iaload, 1) := by decide +kernel
theorem d_O_weightOfOthers_25 : decode c_O_weightOfOthers 25 = .ok (.iadd, 1) := by decide +kernel
theorem d_O_weightOfOthers_26 : decode c_O_weightOfOthers 26 = .ok (.istore_n 2, 1) := by decide +kernel
theorem d_O_weightOfOthers_27 : decode c_O_weightOfOthers 27 = .ok (.iinc 3 1, 3) := by decide +kernel
theorem d_O_weightOfOthers_30 : decode c_O_weightOfOthers 30 = .ok (.goto (-26), 3) := by decide +kernel
theorem d_O_weightOfOthers_33 : decode c_O_weightOfOthers 33 = .ok (.iload_n 2, 1) := by decide +kernel
theorem d_O_weightOfOthers_34 : decode c_O_weightOfOthers 34 = .ok (.ireturn, 1) := by decide +kernel
theorem d_O_placeOf_0 : decode c_O_placeOf 0 = .ok (.iconst 0, 1) := by decide +kernel
theorem d_O_placeOf_1 : decode c_O_placeOf 1 = .ok (.istore_n 2, 1) := by decide +kernel
theorem d_O_placeOf_2 : decode c_O_placeOf 2 = .ok (.iconst 0, 1) := by decide +kernel
theorem d_O_placeOf_3 : decode c_O_placeOf 3 = .ok (.istore_n 3, 1) := by decide +kernel
theorem d_O_placeOf_4 : decode c_O_placeOf 4 = .ok (.iload_n 3, 1) := by decide +kernel
theorem d_O_placeOf_5 : decode c_O_placeOf 5 = .ok (.aload_n 0, 1) := by decide +kernel
theorem d_O_placeOf_6 : decode c_O_placeOf 6 = .ok (.getfield 9, 3) := by decide +kernel
theorem d_O_placeOf_9 : decode c_O_placeOf 9 = .ok (.arraylength, 1) := by decide +kernel
theorem d_O_placeOf_10 : decode c_O_placeOf 10 = .ok (.if_icmp .ge 49, 3) := by decide +kernel
theorem d_O_placeOf_13 : decode c_O_placeOf 13 = .ok (.aload_n 0, 1) := by decide +kernel
theorem d_O_placeOf_14 : decode c_O_placeOf 14 = .ok (.getfield 15, 3) := by decide +kernel
theorem d_O_placeOf_17 : decode c_O_placeOf 17 = .ok (.iload_n 3, 1) := by decide +kernel
theorem d_O_placeOf_18 : decode c_O_placeOf 18 = .ok (.laload, 1) := by decide +kernel
theorem d_O_placeOf_19 : decode c_O_placeOf 19 = .ok (.aload_n 0, 1) := by decide +kernel
theorem d_O_placeOf_20 : decode c_O_placeOf 20 = .ok (.getfield 15, 3) := by decide +kernel
theorem d_O_placeOf_23 : decode c_O_placeOf 23 = .ok (.iload_n 1, 1) := by decide +kernel
theorem d_O_placeOf_24 : decode c_O_placeOf 24 = .ok (.laload, 1) := by decide +kernel
theorem d_O_placeOf_25 : decode c_O_placeOf 25 = .ok (.lcmp, 1) := by decide +kernel
theorem d_O_placeOf_26 : decode c_O_placeOf 26 = .ok (.ifCond .gt 24, 3) := by decide +kernel
theorem d_O_placeOf_29 : decode c_O_placeOf 29 = .ok (.aload_n 0, 1) := by decide +kernel
theorem d_O_placeOf_30 : decode c_O_placeOf 30 = .ok (.getfield 15, 3) := by decide +kernel
theorem d_O_placeOf_33 : decode c_O_placeOf 33 = .ok (.iload_n 3, 1) := by decide +kernel
theorem d_O_placeOf_34 : decode c_O_placeOf 34 = .ok (.laload, 1) := by decide +kernel
theorem d_O_placeOf_35 : decode c_O_placeOf 35 = .ok (.aload_n 0, 1) := by decide +kernel
theorem d_O_placeOf_36 : decode c_O_placeOf 36 = .ok (.getfield 15, 3) := by decide +kernel
theorem d_O_placeOf_39 : decode c_O_placeOf 39 = .ok (.iload_n 1, 1) := by decide +kernel
theorem d_O_placeOf_40 : decode c_O_placeOf 40 = .ok (.laload, 1) := by decide +kernel
theorem d_O_placeOf_41 : decode c_O_placeOf 41 = .ok (.lcmp, 1) := by decide +kernel
theorem d_O_placeOf_42 : decode c_O_placeOf 42 = .ok (.ifCond .ne 11, 3) := by decide +kernel
theorem d_O_placeOf_45 : decode c_O_placeOf 45 = .ok (.iload_n 3, 1) := by decide +kernel
theorem d_O_placeOf_46 : decode c_O_placeOf 46 = .ok (.iload_n 1, 1) := by decide +kernel
theorem d_O_placeOf_47 : decode c_O_placeOf 47 = .ok (.if_icmp .ge 6, 3) := by decide +kernel
theorem d_O_placeOf_50 : decode c_O_placeOf 50 = .ok (.iinc 2 1, 3) := by decide +kernel
theorem d_O_placeOf_53 : decode c_O_placeOf 53 = .ok (.iinc 3 1, 3) := by decide +kernel
theorem d_O_placeOf_56 : decode c_O_placeOf 56 = .ok (.goto (-52), 3) := by decide +kernel
theorem d_O_placeOf_59 : decode c_O_placeOf 59 = .ok (.iload_n 2, 1) := by decide +kernel
theorem d_O_placeOf_60 : decode c_O_placeOf 60 = .ok (.ireturn, 1) := by decide +kernel
theorem d_O_stepOnce_0 : decode c_O_stepOnce 0 = .ok (.aload_n 0, 1) := by decide +kernel
theorem d_O_stepOnce_1 : decode c_O_stepOnce 1 = .ok (.getfield 15, 3) := by decide +kernel
theorem d_O_stepOnce_4 : decode c_O_stepOnce 4 = .ok (.iconst 0, 1) := by decide +kernel
theorem d_O_stepOnce_5 : decode c_O_stepOnce 5 = .ok (.aload_n 0, 1) := by decide +kernel
theorem d_O_stepOnce_6 : decode c_O_stepOnce 6 = .ok (.getfield 22, 3) := by decide +kernel
theorem d_O_stepOnce_9 : decode c_O_stepOnce 9 = .ok (.iconst 0, 1) := by decide +kernel
theorem d_O_stepOnce_10 : decode c_O_stepOnce 10 = .ok (.aload_n 0, 1) := by decide +kernel
theorem d_O_stepOnce_11 : decode c_O_stepOnce 11 = .ok (.getfield 15, 3) := by decide +kernel
theorem d_O_stepOnce_14 : decode c_O_stepOnce 14 = .ok (.arraylength, 1) := by decide +kernel
theorem d_O_stepOnce_15 : decode c_O_stepOnce 15 = .ok (.invokestatic 50, 3) := by decide +kernel
theorem d_O_stepOnce_18 : decode c_O_stepOnce 18 = .ok (.aload_n 0, 1) := by decide +kernel
theorem d_O_stepOnce_19 : decode c_O_stepOnce 19 = .ok (.getfield 28, 3) := by decide +kernel
theorem d_O_stepOnce_22 : decode c_O_stepOnce 22 = .ok (.ifCond .ne 10, 3) := by decide +kernel
theorem d_O_stepOnce_25 : decode c_O_stepOnce 25 = .ok (.aload_n 0, 1) := by decide +kernel
theorem d_O_stepOnce_26 : decode c_O_stepOnce 26 = .ok (.invokevirtual 56, 3) := by decide +kernel
theorem d_O_stepOnce_29 : decode c_O_stepOnce 29 = .ok (.goto 22, 3) := by decide +kernel
theorem d_O_stepOnce_32 : decode c_O_stepOnce 32 = .ok (.aload_n 0, 1) := by decide +kernel
theorem d_O_stepOnce_33 : decode c_O_stepOnce 33 = .ok (.getfield 28, 3) := by decide +kernel
theorem d_O_stepOnce_36 : decode c_O_stepOnce 36 = .ok (.iconst 1, 1) := by decide +kernel
theorem d_O_stepOnce_37 : decode c_O_stepOnce 37 = .ok (.if_icmp .ne 10, 3) := by decide +kernel
theorem d_O_stepOnce_40 : decode c_O_stepOnce 40 = .ok (.aload_n 0, 1) := by decide +kernel
theorem d_O_stepOnce_41 : decode c_O_stepOnce 41 = .ok (.invokevirtual 59, 3) := by decide +kernel
theorem d_O_stepOnce_44 : decode c_O_stepOnce 44 = .ok (.goto 7, 3) := by decide +kernel
theorem d_O_stepOnce_47 : decode c_O_stepOnce 47 = .ok (.aload_n 0, 1) := by decide +kernel
theorem d_O_stepOnce_48 : decode c_O_stepOnce 48 = .ok (.invokevirtual 62, 3) := by decide +kernel
theorem d_O_stepOnce_51 : decode c_O_stepOnce 51 = .ok (.aload_n 0, 1) := by decide +kernel
theorem d_O_stepOnce_52 : decode c_O_stepOnce 52 = .ok (.lconst 0, 1) := by decide +kernel
theorem d_O_stepOnce_53 : decode c_O_stepOnce 53 = .ok (.putfield 35, 3) := by decide +kernel
theorem d_O_stepOnce_56 : decode c_O_stepOnce 56 = .ok (.iconst 0, 1) := by decide +kernel
theorem d_O_stepOnce_57 : decode c_O_stepOnce 57 = .ok (.istore_n 1, 1) := by decide +kernel
theorem d_O_stepOnce_58 : decode c_O_stepOnce 58 = .ok (.iload_n 1, 1) := by decide +kernel
theorem d_O_stepOnce_59 : decode c_O_stepOnce 59 = .ok (.aload_n 0, 1) := by decide +kernel
theorem d_O_stepOnce_60 : decode c_O_stepOnce 60 = .ok (.getfield 15, 3) := by decide +kernel
theorem d_O_stepOnce_63 : decode c_O_stepOnce 63 = .ok (.arraylength, 1) := by decide +kernel
theorem d_O_stepOnce_64 : decode c_O_stepOnce 64 = .ok (.if_icmp .ge 34, 3) := by decide +kernel
theorem d_O_stepOnce_67 : decode c_O_stepOnce 67 = .ok (.aload_n 0, 1) := by decide +kernel
theorem d_O_stepOnce_68 : decode c_O_stepOnce 68 = .ok (.dup, 1) := by decide +kernel
theorem d_O_stepOnce_69 : decode c_O_stepOnce 69 = .ok (.getfield 35, 3) := by decide +kernel
theorem d_O_stepOnce_72 : decode c_O_stepOnce 72 = .ok (.aload_n 0, 1) := by decide +kernel
theorem d_O_stepOnce_73 : decode c_O_stepOnce 73 = .ok (.getfield 15, 3) := by decide +kernel
theorem d_O_stepOnce_76 : decode c_O_stepOnce 76 = .ok (.iload_n 1, 1) := by decide +kernel
theorem d_O_stepOnce_77 : decode c_O_stepOnce 77 = .ok (.laload, 1) := by decide +kernel
theorem d_O_stepOnce_78 : decode c_O_stepOnce 78 = .ok (.aload_n 0, 1) := by decide +kernel
theorem d_O_stepOnce_79 : decode c_O_stepOnce 79 = .ok (.getfield 22, 3) := by decide +kernel
theorem d_O_stepOnce_82 : decode c_O_stepOnce 82 = .ok (.iload_n 1, 1) := by decide +kernel
theorem d_O_stepOnce_83 : decode c_O_stepOnce 83 = .ok (.laload, 1) := by decide +kernel
theorem d_O_stepOnce_84 : decode c_O_stepOnce 84 = .ok (.lsub, 1) := by decide +kernel
theorem d_O_stepOnce_85 : decode c_O_stepOnce 85 = .ok (.invokestatic 65, 3) := by decide +kernel
theorem d_O_stepOnce_88 : decode c_O_stepOnce 88 = .ok (.ladd, 1) := by decide +kernel
theorem d_O_stepOnce_89 : decode c_O_stepOnce 89 = .ok (.putfield 35, 3) := by decide +kernel
theorem d_O_stepOnce_92 : decode c_O_stepOnce 92 = .ok (.iinc 1 1, 3) := by decide +kernel
theorem d_O_stepOnce_95 : decode c_O_stepOnce 95 = .ok (.goto (-37), 3) := by decide +kernel
theorem d_O_stepOnce_98 : decode c_O_stepOnce 98 = .ok (.return_, 1) := by decide +kernel
theorem d_O_stepByRank_0 : decode c_O_stepByRank 0 = .ok (.aload_n 0, 1) := by decide +kernel
theorem d_O_stepByRank_1 : decode c_O_stepByRank 1 = .ok (.iconst (-1), 1) := by decide +kernel
theorem d_O_stepByRank_2 : decode c_O_stepByRank 2 = .ok (.invokevirtual 71, 3) := by decide +kernel
theorem d_O_stepByRank_5 : decode c_O_stepByRank 5 = .ok (.i2l, 1) := by decide +kernel
theorem d_O_stepByRank_6 : decode c_O_stepByRank 6 = .ok (.lstore_n 1, 1) := by decide +kernel
theorem d_O_stepByRank_7 : decode c_O_stepByRank 7 = .ok (.lconst 0, 1) := by decide +kernel
theorem d_O_stepByRank_8 : decode c_O_stepByRank 8 = .ok (.lstore_n 3, 1) := by decide +kernel
theorem d_O_stepByRank_9 : decode c_O_stepByRank 9 = .ok (.iconst 0, 1) := by decide +kernel
theorem d_O_stepByRank_10 : decode c_O_stepByRank 10 = .ok (.istore 5, 2) := by decide +kernel
theorem d_O_stepByRank_12 : decode c_O_stepByRank 12 = .ok (.iload 5, 2) := by decide +kernel
theorem d_O_stepByRank_14 : decode c_O_stepByRank 14 = .ok (.aload_n 0, 1) := by decide +kernel
theorem d_O_stepByRank_15 : decode c_O_stepByRank 15 = .ok (.getfield 9, 3) := by decide +kernel
theorem d_O_stepByRank_18 : decode c_O_stepByRank 18 = .ok (.arraylength, 1) := by decide +kernel
theorem d_O_stepByRank_19 : decode c_O_stepByRank 19 = .ok (.if_icmp .ge 33, 3) := by decide +kernel
theorem d_O_stepByRank_22 : decode c_O_stepByRank 22 = .ok (.lload_n 3, 1) := by decide +kernel
theorem d_O_stepByRank_23 : decode c_O_stepByRank 23 = .ok (.aload_n 0, 1) := by decide +kernel
theorem d_O_stepByRank_24 : decode c_O_stepByRank 24 = .ok (.getfield 9, 3) := by decide +kernel
theorem d_O_stepByRank_27 : decode c_O_stepByRank 27 = .ok (.iload 5, 2) := by decide +kernel
theorem d_O_stepByRank_29 : decode c_O_stepByRank 29 = .ok (.iaload, 1) := by decide +kernel
theorem d_O_stepByRank_30 : decode c_O_stepByRank 30 = .ok (.ifCond .ne 13, 3) := by decide +kernel
theorem d_O_stepByRank_33 : decode c_O_stepByRank 33 = .ok (.aload_n 0, 1) := by decide +kernel
theorem d_O_stepByRank_34 : decode c_O_stepByRank 34 = .ok (.getfield 22, 3) := by decide +kernel
theorem d_O_stepByRank_37 : decode c_O_stepByRank 37 = .ok (.iload 5, 2) := by decide +kernel
theorem d_O_stepByRank_39 : decode c_O_stepByRank 39 = .ok (.laload, 1) := by decide +kernel
theorem d_O_stepByRank_40 : decode c_O_stepByRank 40 = .ok (.goto 4, 3) := by decide +kernel
theorem d_O_stepByRank_43 : decode c_O_stepByRank 43 = .ok (.lconst 0, 1) := by decide +kernel
theorem d_O_stepByRank_44 : decode c_O_stepByRank 44 = .ok (.ladd, 1) := by decide +kernel
theorem d_O_stepByRank_45 : decode c_O_stepByRank 45 = .ok (.lstore_n 3, 1) := by decide +kernel
theorem d_O_stepByRank_46 : decode c_O_stepByRank 46 = .ok (.iinc 5 1, 3) := by decide +kernel
theorem d_O_stepByRank_49 : decode c_O_stepByRank 49 = .ok (.goto (-37), 3) := by decide +kernel
theorem d_O_stepByRank_52 : decode c_O_stepByRank 52 = .ok (.iconst 0, 1) := by decide +kernel
theorem d_O_stepByRank_53 : decode c_O_stepByRank 53 = .ok (.istore 5, 2) := by decide +kernel
theorem d_O_stepByRank_55 : decode c_O_stepByRank 55 = .ok (.iload 5, 2) := by decide +kernel
theorem d_O_stepByRank_57 : decode c_O_stepByRank 57 = .ok (.aload_n 0, 1) := by decide +kernel
theorem d_O_stepByRank_58 : decode c_O_stepByRank 58 = .ok (.getfield 9, 3) := by decide +kernel
theorem d_O_stepByRank_61 : decode c_O_stepByRank 61 = .ok (.arraylength, 1) := by decide +kernel
theorem d_O_stepByRank_62 : decode c_O_stepByRank 62 = .ok (.if_icmp .ge 137, 3) := by decide +kernel
theorem d_O_stepByRank_65 : decode c_O_stepByRank 65 = .ok (.lconst 0, 1) := by decide +kernel
theorem d_O_stepByRank_66 : decode c_O_stepByRank 66 = .ok (.lstore 6, 2) := by decide +kernel
theorem d_O_stepByRank_68 : decode c_O_stepByRank 68 = .ok (.iconst 0, 1) := by decide +kernel
theorem d_O_stepByRank_69 : decode c_O_stepByRank 69 = .ok (.istore 8, 2) := by decide +kernel
theorem d_O_stepByRank_71 : decode c_O_stepByRank 71 = .ok (.iload 8, 2) := by decide +kernel
theorem d_O_stepByRank_73 : decode c_O_stepByRank 73 = .ok (.aload_n 0, 1) := by decide +kernel
theorem d_O_stepByRank_74 : decode c_O_stepByRank 74 = .ok (.getfield 9, 3) := by decide +kernel
theorem d_O_stepByRank_77 : decode c_O_stepByRank 77 = .ok (.arraylength, 1) := by decide +kernel
theorem d_O_stepByRank_78 : decode c_O_stepByRank 78 = .ok (.if_icmp .ge 50, 3) := by decide +kernel
theorem d_O_stepByRank_81 : decode c_O_stepByRank 81 = .ok (.lload 6, 2) := by decide +kernel
theorem d_O_stepByRank_83 : decode c_O_stepByRank 83 = .ok (.aload_n 0, 1) := by decide +kernel
theorem d_O_stepByRank_84 : decode c_O_stepByRank 84 = .ok (.getfield 9, 3) := by decide +kernel
theorem d_O_stepByRank_87 : decode c_O_stepByRank 87 = .ok (.iload 8, 2) := by decide +kernel
theorem d_O_stepByRank_89 : decode c_O_stepByRank 89 = .ok (.iaload, 1) := by decide +kernel
theorem d_O_stepByRank_90 : decode c_O_stepByRank 90 = .ok (.iload 5, 2) := by decide +kernel
theorem d_O_stepByRank_92 : decode c_O_stepByRank 92 = .ok (.invokestatic 75, 3) := by decide +kernel
theorem d_O_stepByRank_95 : decode c_O_stepByRank 95 = .ok (.ifCond .eq 23, 3) := by decide +kernel
theorem d_O_stepByRank_98 : decode c_O_stepByRank 98 = .ok (.aload_n 0, 1) := by decide +kernel
theorem d_O_stepByRank_99 : decode c_O_stepByRank 99 = .ok (.getfield 22, 3) := by decide +kernel
theorem d_O_stepByRank_102 : decode c_O_stepByRank 102 = .ok (.iload 8, 2) := by decide +kernel
theorem d_O_stepByRank_104 : decode c_O_stepByRank 104 = .ok (.laload, 1) := by decide +kernel
theorem d_O_stepByRank_105 : decode c_O_stepByRank 105 = .ok (.aload_n 0, 1) := by decide +kernel
theorem d_O_stepByRank_106 : decode c_O_stepByRank 106 = .ok (.iload 8, 2) := by decide +kernel
theorem d_O_stepByRank_108 : decode c_O_stepByRank 108 = .ok (.invokevirtual 79, 3) := by decide +kernel
theorem d_O_stepByRank_111 : decode c_O_stepByRank 111 = .ok (.i2l, 1) := by decide +kernel
theorem d_O_stepByRank_112 : decode c_O_stepByRank 112 = .ok (.invokestatic 43, 3) := by decide +kernel
theorem d_O_stepByRank_115 : decode c_O_stepByRank 115 = .ok (.goto 4, 3) := by decide +kernel
theorem d_O_stepByRank_118 : decode c_O_stepByRank 118 = .ok (.lconst 0, 1) := by decide +kernel
theorem d_O_stepByRank_119 : decode c_O_stepByRank 119 = .ok (.ladd, 1) := by decide +kernel
theorem d_O_stepByRank_120 : decode c_O_stepByRank 120 = .ok (.lstore 6, 2) := by decide +kernel
theorem d_O_stepByRank_122 : decode c_O_stepByRank 122 = .ok (.iinc 8 1, 3) := by decide +kernel
theorem d_O_stepByRank_125 : decode c_O_stepByRank 125 = .ok (.goto (-54), 3) := by decide +kernel
theorem d_O_stepByRank_128 : decode c_O_stepByRank 128 = .ok (.sipush 1000, 3) := by decide +kernel
theorem d_O_stepByRank_131 : decode c_O_stepByRank 131 = .ok (.aload_n 0, 1) := by decide +kernel
theorem d_O_stepByRank_132 : decode c_O_stepByRank 132 = .ok (.getfield 32, 3) := by decide +kernel
theorem d_O_stepByRank_135 : decode c_O_stepByRank 135 = .ok (.isub, 1) := by decide +kernel
theorem d_O_stepByRank_136 : decode c_O_stepByRank 136 = .ok (.i2l, 1) := by decide +kernel
theorem d_O_stepByRank_137 : decode c_O_stepByRank 137 = .ok (.ldc2_w 82, 3) := by decide +kernel
theorem d_O_stepByRank_140 : decode c_O_stepByRank 140 = .ok (.lmul, 1) := by decide +kernel
theorem d_O_stepByRank_141 : decode c_O_stepByRank 141 = .ok (.aload_n 0, 1) := by decide +kernel
theorem d_O_stepByRank_142 : decode c_O_stepByRank 142 = .ok (.getfield 25, 3) := by decide +kernel
theorem d_O_stepByRank_145 : decode c_O_stepByRank 145 = .ok (.iload 5, 2) := by decide +kernel
theorem d_O_stepByRank_147 : decode c_O_stepByRank 147 = .ok (.iaload, 1) := by decide +kernel
theorem d_O_stepByRank_148 : decode c_O_stepByRank 148 = .ok (.i2l, 1) := by decide +kernel
theorem d_O_stepByRank_149 : decode c_O_stepByRank 149 = .ok (.lmul, 1) := by decide +kernel
theorem d_O_stepByRank_150 : decode c_O_stepByRank 150 = .ok (.lload_n 1, 1) := by decide +kernel
theorem d_O_stepByRank_151 : decode c_O_stepByRank 151 = .ok (.invokestatic 43, 3) := by decide +kernel
theorem d_O_stepByRank_154 : decode c_O_stepByRank 154 = .ok (.lstore 8, 2) := by decide +kernel
theorem d_O_stepByRank_156 : decode c_O_stepByRank 156 = .ok (.aload_n 0, 1) := by decide +kernel
theorem d_O_stepByRank_157 : decode c_O_stepByRank 157 = .ok (.getfield 15, 3) := by decide +kernel
theorem d_O_stepByRank_160 : decode c_O_stepByRank 160 = .ok (.iload 5, 2) := by decide +kernel
theorem d_O_stepByRank_162 : decode c_O_stepByRank 162 = .ok (.lload 8, 2) := by decide +kernel
theorem d_O_stepByRank_164 : decode c_O_stepByRank 164 = .ok (.aload_n 0, 1) := by decide +kernel
theorem d_O_stepByRank_165 : decode c_O_stepByRank 165 = .ok (.getfield 32, 3) := by decide +kernel
theorem d_O_stepByRank_168 : decode c_O_stepByRank 168 = .ok (.i2l, 1) := by decide +kernel
end
section
theorem d_O_stepByRank_169 : decode c_O_stepByRank 169 = .ok (.lload 6, 2) := by decide +kernel
theorem d_O_stepByRank_171 : decode c_O_stepByRank 171 = .ok (.lload_n 3, 1) := by decide +kernel
theorem d_O_stepByRank_172 : decode c_O_stepByRank 172 = .ok (.aload_n 0, 1) := by decide +kernel
theorem d_O_stepByRank_173 : decode c_O_stepByRank 173 = .ok (.getfield 25, 3) := by decide +kernel
theorem d_O_stepByRank_176 : decode c_O_stepByRank 176 = .ok (.iload 5, 2) := by decide +kernel
theorem d_O_stepByRank_178 : decode c_O_stepByRank 178 = .ok (.iaload, 1) := by decide +kernel
theorem d_O_stepByRank_179 : decode c_O_stepByRank 179 = .ok (.i2l, 1) := by decide +kernel
theorem d_O_stepByRank_180 : decode c_O_stepByRank 180 = .ok (.lmul, 1) := by decide +kernel
theorem d_O_stepByRank_181 : decode c_O_stepByRank 181 = .ok (.lload_n 1, 1) := by decide +kernel
theorem d_O_stepByRank_182 : decode c_O_stepByRank 182 = .ok (.invokestatic 43, 3) := by decide +kernel
theorem d_O_stepByRank_185 : decode c_O_stepByRank 185 = .ok (.ladd, 1) := by decide +kernel
theorem d_O_stepByRank_186 : decode c_O_stepByRank 186 = .ok (.lmul, 1) := by decide +kernel
theorem d_O_stepByRank_187 : decode c_O_stepByRank 187 = .ok (.ldc2_w 84, 3) := by decide +kernel
theorem d_O_stepByRank_190 : decode c_O_stepByRank 190 = .ok (.ldiv, 1) := by decide +kernel
theorem d_O_stepByRank_191 : decode c_O_stepByRank 191 = .ok (.ladd, 1) := by decide +kernel
theorem d_O_stepByRank_192 : decode c_O_stepByRank 192 = .ok (.lastore, 1) := by decide +kernel
theorem d_O_stepByRank_193 : decode c_O_stepByRank 193 = .ok (.iinc 5 1, 3) := by decide +kernel
theorem d_O_stepByRank_196 : decode c_O_stepByRank 196 = .ok (.goto (-141), 3) := by decide +kernel
theorem d_O_stepByRank_199 : decode c_O_stepByRank 199 = .ok (.return_, 1) := by decide +kernel
theorem d_O_stepByGreatest_0 : decode c_O_stepByGreatest 0 = .ok (.iconst 0, 1) := by decide +kernel
theorem d_O_stepByGreatest_1 : decode c_O_stepByGreatest 1 = .ok (.istore_n 1, 1) := by decide +kernel
theorem d_O_stepByGreatest_2 : decode c_O_stepByGreatest 2 = .ok (.iload_n 1, 1) := by decide +kernel
theorem d_O_stepByGreatest_3 : decode c_O_stepByGreatest 3 = .ok (.aload_n 0, 1) := by decide +kernel
theorem d_O_stepByGreatest_4 : decode c_O_stepByGreatest 4 = .ok (.getfield 9, 3) := by decide +kernel
theorem d_O_stepByGreatest_7 : decode c_O_stepByGreatest 7 = .ok (.arraylength, 1) := by decide +kernel
theorem d_O_stepByGreatest_8 : decode c_O_stepByGreatest 8 = .ok (.if_icmp .ge 65, 3) := by decide +kernel
theorem d_O_stepByGreatest_11 : decode c_O_stepByGreatest 11 = .ok (.aload_n 0, 1) := by decide +kernel
theorem d_O_stepByGreatest_12 : decode c_O_stepByGreatest 12 = .ok (.getfield 15, 3) := by decide +kernel
theorem d_O_stepByGreatest_15 : decode c_O_stepByGreatest 15 = .ok (.iload_n 1, 1) := by decide +kernel
theorem d_O_stepByGreatest_16 : decode c_O_stepByGreatest 16 = .ok (.lconst 0, 1) := by decide +kernel
theorem d_O_stepByGreatest_17 : decode c_O_stepByGreatest 17 = .ok (.lastore, 1) := by decide +kernel
theorem d_O_stepByGreatest_18 : decode c_O_stepByGreatest 18 = .ok (.iconst 0, 1) := by decide +kernel
theorem d_O_stepByGreatest_19 : decode c_O_stepByGreatest 19 = .ok (.istore_n 2, 1) := by decide +kernel
theorem d_O_stepByGreatest_20 : decode c_O_stepByGreatest 20 = .ok (.iload_n 2, 1) := by decide +kernel
theorem d_O_stepByGreatest_21 : decode c_O_stepByGreatest 21 = .ok (.aload_n 0, 1) := by decide +kernel
theorem d_O_stepByGreatest_22 : decode c_O_stepByGreatest 22 = .ok (.getfield 9, 3) := by decide +kernel
theorem d_O_stepByGreatest_25 : decode c_O_stepByGreatest 25 = .ok (.arraylength, 1) := by decide +kernel
theorem d_O_stepByGreatest_26 : decode c_O_stepByGreatest 26 = .ok (.if_icmp .ge 41, 3) := by decide +kernel
theorem d_O_stepByGreatest_29 : decode c_O_stepByGreatest 29 = .ok (.aload_n 0, 1) := by decide +kernel
theorem d_O_stepByGreatest_30 : decode c_O_stepByGreatest 30 = .ok (.getfield 15, 3) := by decide +kernel
theorem d_O_stepByGreatest_33 : decode c_O_stepByGreatest 33 = .ok (.iload_n 1, 1) := by decide +kernel
theorem d_O_stepByGreatest_34 : decode c_O_stepByGreatest 34 = .ok (.dup2, 1) := by decide +kernel
theorem d_O_stepByGreatest_35 : decode c_O_stepByGreatest 35 = .ok (.laload, 1) := by decide +kernel
theorem d_O_stepByGreatest_36 : decode c_O_stepByGreatest 36 = .ok (.aload_n 0, 1) := by decide +kernel
theorem d_O_stepByGreatest_37 : decode c_O_stepByGreatest 37 = .ok (.getfield 9, 3) := by decide +kernel
theorem d_O_stepByGreatest_40 : decode c_O_stepByGreatest 40 = .ok (.iload_n 2, 1) := by decide +kernel
theorem d_O_stepByGreatest_41 : decode c_O_stepByGreatest 41 = .ok (.iaload, 1) := by decide +kernel
theorem d_O_stepByGreatest_42 : decode c_O_stepByGreatest 42 = .ok (.iload_n 1, 1) := by decide +kernel
theorem d_O_stepByGreatest_43 : decode c_O_stepByGreatest 43 = .ok (.invokestatic 75, 3) := by decide +kernel
theorem d_O_stepByGreatest_46 : decode c_O_stepByGreatest 46 = .ok (.ifCond .eq 12, 3) := by decide +kernel
theorem d_O_stepByGreatest_49 : decode c_O_stepByGreatest 49 = .ok (.aload_n 0, 1) := by decide +kernel
theorem d_O_stepByGreatest_50 : decode c_O_stepByGreatest 50 = .ok (.getfield 19, 3) := by decide +kernel
theorem d_O_stepByGreatest_53 : decode c_O_stepByGreatest 53 = .ok (.iload_n 2, 1) := by decide +kernel
theorem d_O_stepByGreatest_54 : decode c_O_stepByGreatest 54 = .ok (.laload, 1) := by decide +kernel
theorem d_O_stepByGreatest_55 : decode c_O_stepByGreatest 55 = .ok (.goto 4, 3) := by decide +kernel
theorem d_O_stepByGreatest_58 : decode c_O_stepByGreatest 58 = .ok (.lconst 0, 1) := by decide +kernel
theorem d_O_stepByGreatest_59 : decode c_O_stepByGreatest 59 = .ok (.ladd, 1) := by decide +kernel
theorem d_O_stepByGreatest_60 : decode c_O_stepByGreatest 60 = .ok (.lastore, 1) := by decide +kernel
theorem d_O_stepByGreatest_61 : decode c_O_stepByGreatest 61 = .ok (.iinc 2 1, 3) := by decide +kernel
theorem d_O_stepByGreatest_64 : decode c_O_stepByGreatest 64 = .ok (.goto (-44), 3) := by decide +kernel
theorem d_O_stepByGreatest_67 : decode c_O_stepByGreatest 67 = .ok (.iinc 1 1, 3) := by decide +kernel
theorem d_O_stepByGreatest_70 : decode c_O_stepByGreatest 70 = .ok (.goto (-68), 3) := by decide +kernel
theorem d_O_stepByGreatest_73 : decode c_O_stepByGreatest 73 = .ok (.aload_n 0, 1) := by decide +kernel
theorem d_O_stepByGreatest_74 : decode c_O_stepByGreatest 74 = .ok (.getfield 15, 3) := by decide +kernel
theorem d_O_stepByGreatest_77 : decode c_O_stepByGreatest 77 = .ok (.invokestatic 86, 3) := by decide +kernel
theorem d_O_stepByGreatest_80 : decode c_O_stepByGreatest 80 = .ok (.iconst 0, 1) := by decide +kernel
theorem d_O_stepByGreatest_81 : decode c_O_stepByGreatest 81 = .ok (.istore_n 1, 1) := by decide +kernel
theorem d_O_stepByGreatest_82 : decode c_O_stepByGreatest 82 = .ok (.iload_n 1, 1) := by decide +kernel
theorem d_O_stepByGreatest_83 : decode c_O_stepByGreatest 83 = .ok (.aload_n 0, 1) := by decide +kernel
theorem d_O_stepByGreatest_84 : decode c_O_stepByGreatest 84 = .ok (.getfield 9, 3) := by decide +kernel
theorem d_O_stepByGreatest_87 : decode c_O_stepByGreatest 87 = .ok (.arraylength, 1) := by decide +kernel
theorem d_O_stepByGreatest_88 : decode c_O_stepByGreatest 88 = .ok (.if_icmp .ge 65, 3) := by decide +kernel
theorem d_O_stepByGreatest_91 : decode c_O_stepByGreatest 91 = .ok (.aload_n 0, 1) := by decide +kernel
theorem d_O_stepByGreatest_92 : decode c_O_stepByGreatest 92 = .ok (.getfield 19, 3) := by decide +kernel
theorem d_O_stepByGreatest_95 : decode c_O_stepByGreatest 95 = .ok (.iload_n 1, 1) := by decide +kernel
theorem d_O_stepByGreatest_96 : decode c_O_stepByGreatest 96 = .ok (.lconst 0, 1) := by decide +kernel
theorem d_O_stepByGreatest_97 : decode c_O_stepByGreatest 97 = .ok (.lastore, 1) := by decide +kernel
theorem d_O_stepByGreatest_98 : decode c_O_stepByGreatest 98 = .ok (.iconst 0, 1) := by decide +kernel
theorem d_O_stepByGreatest_99 : decode c_O_stepByGreatest 99 = .ok (.istore_n 2, 1) := by decide +kernel
theorem d_O_stepByGreatest_100 : decode c_O_stepByGreatest 100 = .ok (.iload_n 2, 1) := by decide +kernel
theorem d_O_stepByGreatest_101 : decode c_O_stepByGreatest 101 = .ok (.aload_n 0, 1) := by decide +kernel
theorem d_O_stepByGreatest_102 : decode c_O_stepByGreatest 102 = .ok (.getfield 9, 3) := by decide +kernel
theorem d_O_stepByGreatest_105 : decode c_O_stepByGreatest 105 = .ok (.arraylength, 1) := by decide +kernel
theorem d_O_stepByGreatest_106 : decode c_O_stepByGreatest 106 = .ok (.if_icmp .ge 41, 3) := by decide +kernel
theorem d_O_stepByGreatest_109 : decode c_O_stepByGreatest 109 = .ok (.aload_n 0, 1) := by decide +kernel
theorem d_O_stepByGreatest_110 : decode c_O_stepByGreatest 110 = .ok (.getfield 19, 3) := by decide +kernel
theorem d_O_stepByGreatest_113 : decode c_O_stepByGreatest 113 = .ok (.iload_n 1, 1) := by decide +kernel
theorem d_O_stepByGreatest_114 : decode c_O_stepByGreatest 114 = .ok (.dup2, 1) := by decide +kernel
theorem d_O_stepByGreatest_115 : decode c_O_stepByGreatest 115 = .ok (.laload, 1) := by decide +kernel
theorem d_O_stepByGreatest_116 : decode c_O_stepByGreatest 116 = .ok (.aload_n 0, 1) := by decide +kernel
theorem d_O_stepByGreatest_117 : decode c_O_stepByGreatest 117 = .ok (.getfield 9, 3) := by decide +kernel
theorem d_O_stepByGreatest_120 : decode c_O_stepByGreatest 120 = .ok (.iload_n 1, 1) := by decide +kernel
theorem d_O_stepByGreatest_121 : decode c_O_stepByGreatest 121 = .ok (.iaload, 1) := by decide +kernel
theorem d_O_stepByGreatest_122 : decode c_O_stepByGreatest 122 = .ok (.iload_n 2, 1) := by decide +kernel
theorem d_O_stepByGreatest_123 : decode c_O_stepByGreatest 123 = .ok (.invokestatic 75, 3) := by decide +kernel
theorem d_O_stepByGreatest_126 : decode c_O_stepByGreatest 126 = .ok (.ifCond .eq 12, 3) := by decide +kernel
theorem d_O_stepByGreatest_129 : decode c_O_stepByGreatest 129 = .ok (.aload_n 0, 1) := by decide +kernel
theorem d_O_stepByGreatest_130 : decode c_O_stepByGreatest 130 = .ok (.getfield 15, 3) := by decide +kernel
theorem d_O_stepByGreatest_133 : decode c_O_stepByGreatest 133 = .ok (.iload_n 2, 1) := by decide +kernel
theorem d_O_stepByGreatest_134 : decode c_O_stepByGreatest 134 = .ok (.laload, 1) := by decide +kernel
theorem d_O_stepByGreatest_135 : decode c_O_stepByGreatest 135 = .ok (.goto 4, 3) := by decide +kernel
theorem d_O_stepByGreatest_138 : decode c_O_stepByGreatest 138 = .ok (.lconst 0, 1) := by decide +kernel
theorem d_O_stepByGreatest_139 : decode c_O_stepByGreatest 139 = .ok (.ladd, 1) := by decide +kernel
theorem d_O_stepByGreatest_140 : decode c_O_stepByGreatest 140 = .ok (.lastore, 1) := by decide +kernel
theorem d_O_stepByGreatest_141 : decode c_O_stepByGreatest 141 = .ok (.iinc 2 1, 3) := by decide +kernel
theorem d_O_stepByGreatest_144 : decode c_O_stepByGreatest 144 = .ok (.goto (-44), 3) := by decide +kernel
theorem d_O_stepByGreatest_147 : decode c_O_stepByGreatest 147 = .ok (.iinc 1 1, 3) := by decide +kernel
theorem d_O_stepByGreatest_150 : decode c_O_stepByGreatest 150 = .ok (.goto (-68), 3) := by decide +kernel
theorem d_O_stepByGreatest_153 : decode c_O_stepByGreatest 153 = .ok (.aload_n 0, 1) := by decide +kernel
theorem d_O_stepByGreatest_154 : decode c_O_stepByGreatest 154 = .ok (.getfield 19, 3) := by decide +kernel
theorem d_O_stepByGreatest_157 : decode c_O_stepByGreatest 157 = .ok (.invokestatic 86, 3) := by decide +kernel
theorem d_O_stepByGreatest_160 : decode c_O_stepByGreatest 160 = .ok (.return_, 1) := by decide +kernel
theorem d_O_bringToGreatest_0 : decode c_O_bringToGreatest 0 = .ok (.lconst 0, 1) := by decide +kernel
theorem d_O_bringToGreatest_1 : decode c_O_bringToGreatest 1 = .ok (.lstore_n 1, 1) := by decide +kernel
theorem d_O_bringToGreatest_2 : decode c_O_bringToGreatest 2 = .ok (.iconst 0, 1) := by decide +kernel
theorem d_O_bringToGreatest_3 : decode c_O_bringToGreatest 3 = .ok (.istore_n 3, 1) := by decide +kernel
theorem d_O_bringToGreatest_4 : decode c_O_bringToGreatest 4 = .ok (.iload_n 3, 1) := by decide +kernel
theorem d_O_bringToGreatest_5 : decode c_O_bringToGreatest 5 = .ok (.aload_n 0, 1) := by decide +kernel
theorem d_O_bringToGreatest_6 : decode c_O_bringToGreatest 6 = .ok (.arraylength, 1) := by decide +kernel
theorem d_O_bringToGreatest_7 : decode c_O_bringToGreatest 7 = .ok (.if_icmp .ge 17, 3) := by decide +kernel
theorem d_O_bringToGreatest_10 : decode c_O_bringToGreatest 10 = .ok (.lload_n 1, 1) := by decide +kernel
theorem d_O_bringToGreatest_11 : decode c_O_bringToGreatest 11 = .ok (.aload_n 0, 1) := by decide +kernel
theorem d_O_bringToGreatest_12 : decode c_O_bringToGreatest 12 = .ok (.iload_n 3, 1) := by decide +kernel
theorem d_O_bringToGreatest_13 : decode c_O_bringToGreatest 13 = .ok (.laload, 1) := by decide +kernel
theorem d_O_bringToGreatest_14 : decode c_O_bringToGreatest 14 = .ok (.invokestatic 90, 3) := by decide +kernel
theorem d_O_bringToGreatest_17 : decode c_O_bringToGreatest 17 = .ok (.lstore_n 1, 1) := by decide +kernel
theorem d_O_bringToGreatest_18 : decode c_O_bringToGreatest 18 = .ok (.iinc 3 1, 3) := by decide +kernel
theorem d_O_bringToGreatest_21 : decode c_O_bringToGreatest 21 = .ok (.goto (-17), 3) := by decide +kernel
theorem d_O_bringToGreatest_24 : decode c_O_bringToGreatest 24 = .ok (.iconst 0, 1) := by decide +kernel
theorem d_O_bringToGreatest_25 : decode c_O_bringToGreatest 25 = .ok (.istore_n 3, 1) := by decide +kernel
theorem d_O_bringToGreatest_26 : decode c_O_bringToGreatest 26 = .ok (.iload_n 3, 1) := by decide +kernel
theorem d_O_bringToGreatest_27 : decode c_O_bringToGreatest 27 = .ok (.aload_n 0, 1) := by decide +kernel
theorem d_O_bringToGreatest_28 : decode c_O_bringToGreatest 28 = .ok (.arraylength, 1) := by decide +kernel
theorem d_O_bringToGreatest_29 : decode c_O_bringToGreatest 29 = .ok (.if_icmp .ge 23, 3) := by decide +kernel
theorem d_O_bringToGreatest_32 : decode c_O_bringToGreatest 32 = .ok (.aload_n 0, 1) := by decide +kernel
theorem d_O_bringToGreatest_33 : decode c_O_bringToGreatest 33 = .ok (.iload_n 3, 1) := by decide +kernel
theorem d_O_bringToGreatest_34 : decode c_O_bringToGreatest 34 = .ok (.aload_n 0, 1) := by decide +kernel
theorem d_O_bringToGreatest_35 : decode c_O_bringToGreatest 35 = .ok (.iload_n 3, 1) := by decide +kernel
theorem d_O_bringToGreatest_36 : decode c_O_bringToGreatest 36 = .ok (.laload, 1) := by decide +kernel
theorem d_O_bringToGreatest_37 : decode c_O_bringToGreatest 37 = .ok (.ldc2_w 39, 3) := by decide +kernel
theorem d_O_bringToGreatest_40 : decode c_O_bringToGreatest 40 = .ok (.lmul, 1) := by decide +kernel
theorem d_O_bringToGreatest_41 : decode c_O_bringToGreatest 41 = .ok (.lload_n 1, 1) := by decide +kernel
theorem d_O_bringToGreatest_42 : decode c_O_bringToGreatest 42 = .ok (.invokestatic 43, 3) := by decide +kernel
theorem d_O_bringToGreatest_45 : decode c_O_bringToGreatest 45 = .ok (.lastore, 1) := by decide +kernel
theorem d_O_bringToGreatest_46 : decode c_O_bringToGreatest 46 = .ok (.iinc 3 1, 3) := by decide +kernel
theorem d_O_bringToGreatest_49 : decode c_O_bringToGreatest 49 = .ok (.goto (-23), 3) := by decide +kernel
theorem d_O_bringToGreatest_52 : decode c_O_bringToGreatest 52 = .ok (.return_, 1) := by decide +kernel
theorem d_O_stepByShares_0 : decode c_O_stepByShares 0 = .ok (.iconst 0, 1) := by decide +kernel
theorem d_O_stepByShares_1 : decode c_O_stepByShares 1 = .ok (.istore_n 1, 1) := by decide +kernel
theorem d_O_stepByShares_2 : decode c_O_stepByShares 2 = .ok (.iload_n 1, 1) := by decide +kernel
theorem d_O_stepByShares_3 : decode c_O_stepByShares 3 = .ok (.aload_n 0, 1) := by decide +kernel
theorem d_O_stepByShares_4 : decode c_O_stepByShares 4 = .ok (.getfield 9, 3) := by decide +kernel
theorem d_O_stepByShares_7 : decode c_O_stepByShares 7 = .ok (.arraylength, 1) := by decide +kernel
theorem d_O_stepByShares_8 : decode c_O_stepByShares 8 = .ok (.if_icmp .ge 74, 3) := by decide +kernel
theorem d_O_stepByShares_11 : decode c_O_stepByShares 11 = .ok (.aload_n 0, 1) := by decide +kernel
theorem d_O_stepByShares_12 : decode c_O_stepByShares 12 = .ok (.getfield 19, 3) := by decide +kernel
theorem d_O_stepByShares_15 : decode c_O_stepByShares 15 = .ok (.iload_n 1, 1) := by decide +kernel
theorem d_O_stepByShares_16 : decode c_O_stepByShares 16 = .ok (.lconst 0, 1) := by decide +kernel
theorem d_O_stepByShares_17 : decode c_O_stepByShares 17 = .ok (.lastore, 1) := by decide +kernel
theorem d_O_stepByShares_18 : decode c_O_stepByShares 18 = .ok (.iconst 0, 1) := by decide +kernel
theorem d_O_stepByShares_19 : decode c_O_stepByShares 19 = .ok (.istore_n 2, 1) := by decide +kernel
theorem d_O_stepByShares_20 : decode c_O_stepByShares 20 = .ok (.iload_n 2, 1) := by decide +kernel
theorem d_O_stepByShares_21 : decode c_O_stepByShares 21 = .ok (.aload_n 0, 1) := by decide +kernel
theorem d_O_stepByShares_22 : decode c_O_stepByShares 22 = .ok (.getfield 9, 3) := by decide +kernel
theorem d_O_stepByShares_25 : decode c_O_stepByShares 25 = .ok (.arraylength, 1) := by decide +kernel
theorem d_O_stepByShares_26 : decode c_O_stepByShares 26 = .ok (.if_icmp .ge 50, 3) := by decide +kernel
theorem d_O_stepByShares_29 : decode c_O_stepByShares 29 = .ok (.aload_n 0, 1) := by decide +kernel
theorem d_O_stepByShares_30 : decode c_O_stepByShares 30 = .ok (.getfield 19, 3) := by decide +kernel
theorem d_O_stepByShares_33 : decode c_O_stepByShares 33 = .ok (.iload_n 1, 1) := by decide +kernel
theorem d_O_stepByShares_34 : decode c_O_stepByShares 34 = .ok (.dup2, 1) := by decide +kernel
theorem d_O_stepByShares_35 : decode c_O_stepByShares 35 = .ok (.laload, 1) := by decide +kernel
theorem d_O_stepByShares_36 : decode c_O_stepByShares 36 = .ok (.aload_n 0, 1) := by decide +kernel
theorem d_O_stepByShares_37 : decode c_O_stepByShares 37 = .ok (.getfield 9, 3) := by decide +kernel
theorem d_O_stepByShares_40 : decode c_O_stepByShares 40 = .ok (.iload_n 1, 1) := by decide +kernel
theorem d_O_stepByShares_41 : decode c_O_stepByShares 41 = .ok (.iaload, 1) := by decide +kernel
theorem d_O_stepByShares_42 : decode c_O_stepByShares 42 = .ok (.iload_n 2, 1) := by decide +kernel
theorem d_O_stepByShares_43 : decode c_O_stepByShares 43 = .ok (.invokestatic 75, 3) := by decide +kernel
theorem d_O_stepByShares_46 : decode c_O_stepByShares 46 = .ok (.ifCond .eq 21, 3) := by decide +kernel
theorem d_O_stepByShares_49 : decode c_O_stepByShares 49 = .ok (.aload_n 0, 1) := by decide +kernel
theorem d_O_stepByShares_50 : decode c_O_stepByShares 50 = .ok (.getfield 15, 3) := by decide +kernel
theorem d_O_stepByShares_53 : decode c_O_stepByShares 53 = .ok (.iload_n 2, 1) := by decide +kernel
theorem d_O_stepByShares_54 : decode c_O_stepByShares 54 = .ok (.laload, 1) := by decide +kernel
theorem d_O_stepByShares_55 : decode c_O_stepByShares 55 = .ok (.aload_n 0, 1) := by decide +kernel
theorem d_O_stepByShares_56 : decode c_O_stepByShares 56 = .ok (.iload_n 2, 1) := by decide +kernel
theorem d_O_stepByShares_57 : decode c_O_stepByShares 57 = .ok (.invokevirtual 93, 3) := by decide +kernel
theorem d_O_stepByShares_60 : decode c_O_stepByShares 60 = .ok (.i2l, 1) := by decide +kernel
theorem d_O_stepByShares_61 : decode c_O_stepByShares 61 = .ok (.invokestatic 43, 3) := by decide +kernel
theorem d_O_stepByShares_64 : decode c_O_stepByShares 64 = .ok (.goto 4, 3) := by decide +kernel
theorem d_O_stepByShares_67 : decode c_O_stepByShares 67 = .ok (.lconst 0, 1) := by decide +kernel
theorem d_O_stepByShares_68 : decode c_O_stepByShares 68 = .ok (.ladd, 1) := by decide +kernel
theorem d_O_stepByShares_69 : decode c_O_stepByShares 69 = .ok (.lastore, 1) := by decide +kernel
theorem d_O_stepByShares_70 : decode c_O_stepByShares 70 = .ok (.iinc 2 1, 3) := by decide +kernel
theorem d_O_stepByShares_73 : decode c_O_stepByShares 73 = .ok (.goto (-53), 3) := by decide +kernel
theorem d_O_stepByShares_76 : decode c_O_stepByShares 76 = .ok (.iinc 1 1, 3) := by decide +kernel
theorem d_O_stepByShares_79 : decode c_O_stepByShares 79 = .ok (.goto (-77), 3) := by decide +kernel
theorem d_O_stepByShares_82 : decode c_O_stepByShares 82 = .ok (.iconst 0, 1) := by decide +kernel
theorem d_O_stepByShares_83 : decode c_O_stepByShares 83 = .ok (.istore_n 1, 1) := by decide +kernel
theorem d_O_stepByShares_84 : decode c_O_stepByShares 84 = .ok (.iload_n 1, 1) := by decide +kernel
theorem d_O_stepByShares_85 : decode c_O_stepByShares 85 = .ok (.aload_n 0, 1) := by decide +kernel
theorem d_O_stepByShares_86 : decode c_O_stepByShares 86 = .ok (.getfield 9, 3) := by decide +kernel
theorem d_O_stepByShares_89 : decode c_O_stepByShares 89 = .ok (.arraylength, 1) := by decide +kernel
theorem d_O_stepByShares_90 : decode c_O_stepByShares 90 = .ok (.if_icmp .ge 74, 3) := by decide +kernel
theorem d_O_stepByShares_93 : decode c_O_stepByShares 93 = .ok (.aload_n 0, 1) := by decide +kernel
theorem d_O_stepByShares_94 : decode c_O_stepByShares 94 = .ok (.getfield 15, 3) := by decide +kernel
theorem d_O_stepByShares_97 : decode c_O_stepByShares 97 = .ok (.iload_n 1, 1) := by decide +kernel
theorem d_O_stepByShares_98 : decode c_O_stepByShares 98 = .ok (.lconst 0, 1) := by decide +kernel
theorem d_O_stepByShares_99 : decode c_O_stepByShares 99 = .ok (.lastore, 1) := by decide +kernel
theorem d_O_stepByShares_100 : decode c_O_stepByShares 100 = .ok (.iconst 0, 1) := by decide +kernel
theorem d_O_stepByShares_101 : decode c_O_stepByShares 101 = .ok (.istore_n 2, 1) := by decide +kernel
theorem d_O_stepByShares_102 : decode c_O_stepByShares 102 = .ok (.iload_n 2, 1) := by decide +kernel
theorem d_O_stepByShares_103 : decode c_O_stepByShares 103 = .ok (.aload_n 0, 1) := by decide +kernel
theorem d_O_stepByShares_104 : decode c_O_stepByShares 104 = .ok (.getfield 9, 3) := by decide +kernel
theorem d_O_stepByShares_107 : decode c_O_stepByShares 107 = .ok (.arraylength, 1) := by decide +kernel
theorem d_O_stepByShares_108 : decode c_O_stepByShares 108 = .ok (.if_icmp .ge 50, 3) := by decide +kernel
theorem d_O_stepByShares_111 : decode c_O_stepByShares 111 = .ok (.aload_n 0, 1) := by decide +kernel
theorem d_O_stepByShares_112 : decode c_O_stepByShares 112 = .ok (.getfield 15, 3) := by decide +kernel
theorem d_O_stepByShares_115 : decode c_O_stepByShares 115 = .ok (.iload_n 1, 1) := by decide +kernel
theorem d_O_stepByShares_116 : decode c_O_stepByShares 116 = .ok (.dup2, 1) := by decide +kernel
theorem d_O_stepByShares_117 : decode c_O_stepByShares 117 = .ok (.laload, 1) := by decide +kernel
theorem d_O_stepByShares_118 : decode c_O_stepByShares 118 = .ok (.aload_n 0, 1) := by decide +kernel
theorem d_O_stepByShares_119 : decode c_O_stepByShares 119 = .ok (.getfield 9, 3) := by decide +kernel
theorem d_O_stepByShares_122 : decode c_O_stepByShares 122 = .ok (.iload_n 2, 1) := by decide +kernel
theorem d_O_stepByShares_123 : decode c_O_stepByShares 123 = .ok (.iaload, 1) := by decide +kernel
theorem d_O_stepByShares_124 : decode c_O_stepByShares 124 = .ok (.iload_n 1, 1) := by decide +kernel
theorem d_O_stepByShares_125 : decode c_O_stepByShares 125 = .ok (.invokestatic 75, 3) := by decide +kernel
theorem d_O_stepByShares_128 : decode c_O_stepByShares 128 = .ok (.ifCond .eq 21, 3) := by decide +kernel
theorem d_O_stepByShares_131 : decode c_O_stepByShares 131 = .ok (.aload_n 0, 1) := by decide +kernel
theorem d_O_stepByShares_132 : decode c_O_stepByShares 132 = .ok (.getfield 19, 3) := by decide +kernel
theorem d_O_stepByShares_135 : decode c_O_stepByShares 135 = .ok (.iload_n 2, 1) := by decide +kernel
theorem d_O_stepByShares_136 : decode c_O_stepByShares 136 = .ok (.laload, 1) := by decide +kernel
theorem d_O_stepByShares_137 : decode c_O_stepByShares 137 = .ok (.aload_n 0, 1) := by decide +kernel
theorem d_O_stepByShares_138 : decode c_O_stepByShares 138 = .ok (.iload_n 2, 1) := by decide +kernel
theorem d_O_stepByShares_139 : decode c_O_stepByShares 139 = .ok (.invokevirtual 79, 3) := by decide +kernel
theorem d_O_stepByShares_142 : decode c_O_stepByShares 142 = .ok (.i2l, 1) := by decide +kernel
theorem d_O_stepByShares_143 : decode c_O_stepByShares 143 = .ok (.invokestatic 43, 3) := by decide +kernel
theorem d_O_stepByShares_146 : decode c_O_stepByShares 146 = .ok (.goto 4, 3) := by decide +kernel
theorem d_O_stepByShares_149 : decode c_O_stepByShares 149 = .ok (.lconst 0, 1) := by decide +kernel
theorem d_O_stepByShares_150 : decode c_O_stepByShares 150 = .ok (.ladd, 1) := by decide +kernel
theorem d_O_stepByShares_151 : decode c_O_stepByShares 151 = .ok (.lastore, 1) := by decide +kernel
theorem d_O_stepByShares_152 : decode c_O_stepByShares 152 = .ok (.iinc 2 1, 3) := by decide +kernel
theorem d_O_stepByShares_155 : decode c_O_stepByShares 155 = .ok (.goto (-53), 3) := by decide +kernel
theorem d_O_stepByShares_158 : decode c_O_stepByShares 158 = .ok (.iinc 1 1, 3) := by decide +kernel
theorem d_O_stepByShares_161 : decode c_O_stepByShares 161 = .ok (.goto (-77), 3) := by decide +kernel
theorem d_O_stepByShares_164 : decode c_O_stepByShares 164 = .ok (.return_, 1) := by decide +kernel
theorem d_O_linksFrom_0 : decode c_O_linksFrom 0 = .ok (.aload_n 0, 1) := by decide +kernel
theorem d_O_linksFrom_1 : decode c_O_linksFrom 1 = .ok (.getfield 9, 3) := by decide +kernel
theorem d_O_linksFrom_4 : decode c_O_linksFrom 4 = .ok (.iload_n 1, 1) := by decide +kernel
theorem d_O_linksFrom_5 : decode c_O_linksFrom 5 = .ok (.iaload, 1) := by decide +kernel
theorem d_O_linksFrom_6 : decode c_O_linksFrom 6 = .ok (.invokestatic 96, 3) := by decide +kernel
theorem d_O_linksFrom_9 : decode c_O_linksFrom 9 = .ok (.ireturn, 1) := by decide +kernel
theorem d_O_linksTo_0 : decode c_O_linksTo 0 = .ok (.iconst 0, 1) := by decide +kernel
theorem d_O_linksTo_1 : decode c_O_linksTo 1 = .ok (.istore_n 2, 1) := by decide +kernel
theorem d_O_linksTo_2 : decode c_O_linksTo 2 = .ok (.iconst 0, 1) := by decide +kernel
theorem d_O_linksTo_3 : decode c_O_linksTo 3 = .ok (.istore_n 3, 1) := by decide +kernel
theorem d_O_linksTo_4 : decode c_O_linksTo 4 = .ok (.iload_n 3, 1) := by decide +kernel
theorem d_O_linksTo_5 : decode c_O_linksTo 5 = .ok (.aload_n 0, 1) := by decide +kernel
theorem d_O_linksTo_6 : decode c_O_linksTo 6 = .ok (.getfield 9, 3) := by decide +kernel
theorem d_O_linksTo_9 : decode c_O_linksTo 9 = .ok (.arraylength, 1) := by decide +kernel
theorem d_O_linksTo_10 : decode c_O_linksTo 10 = .ok (.if_icmp .ge 30, 3) := by decide +kernel
theorem d_O_linksTo_13 : decode c_O_linksTo 13 = .ok (.iload_n 2, 1) := by decide +kernel
theorem d_O_linksTo_14 : decode c_O_linksTo 14 = .ok (.aload_n 0, 1) := by decide +kernel
theorem d_O_linksTo_15 : decode c_O_linksTo 15 = .ok (.getfield 9, 3) := by decide +kernel
theorem d_O_linksTo_18 : decode c_O_linksTo 18 = .ok (.iload_n 3, 1) := by decide +kernel
theorem d_O_linksTo_19 : decode c_O_linksTo 19 = .ok (.iaload, 1) := by decide +kernel
theorem d_O_linksTo_20 : decode c_O_linksTo 20 = .ok (.iload_n 1, 1) := by decide +kernel
theorem d_O_linksTo_21 : decode c_O_linksTo 21 = .ok (.invokestatic 75, 3) := by decide +kernel
theorem d_O_linksTo_24 : decode c_O_linksTo 24 = .ok (.ifCond .eq 7, 3) := by decide +kernel
theorem d_O_linksTo_27 : decode c_O_linksTo 27 = .ok (.iconst 1, 1) := by decide +kernel
theorem d_O_linksTo_28 : decode c_O_linksTo 28 = .ok (.goto 4, 3) := by decide +kernel
theorem d_O_linksTo_31 : decode c_O_linksTo 31 = .ok (.iconst 0, 1) := by decide +kernel
theorem d_O_linksTo_32 : decode c_O_linksTo 32 = .ok (.iadd, 1) := by decide +kernel
theorem d_O_linksTo_33 : decode c_O_linksTo 33 = .ok (.istore_n 2, 1) := by decide +kernel
theorem d_O_linksTo_34 : decode c_O_linksTo 34 = .ok (.iinc 3 1, 3) := by decide +kernel
theorem d_O_linksTo_37 : decode c_O_linksTo 37 = .ok (.goto (-33), 3) := by decide +kernel
theorem d_O_linksTo_40 : decode c_O_linksTo 40 = .ok (.iload_n 2, 1) := by decide +kernel
theorem d_O_linksTo_41 : decode c_O_linksTo 41 = .ok (.ireturn, 1) := by decide +kernel
theorem d_O_quotient_0 : decode c_O_quotient 0 = .ok (.lload_n 2, 1) := by decide +kernel
theorem d_O_quotient_1 : decode c_O_quotient 1 = .ok (.lconst 0, 1) := by decide +kernel
theorem d_O_quotient_2 : decode c_O_quotient 2 = .ok (.lcmp, 1) := by decide +kernel
theorem d_O_quotient_3 : decode c_O_quotient 3 = .ok (.ifCond .ne 7, 3) := by decide +kernel
theorem d_O_quotient_6 : decode c_O_quotient 6 = .ok (.lconst 0, 1) := by decide +kernel
theorem d_O_quotient_7 : decode c_O_quotient 7 = .ok (.goto 6, 3) := by decide +kernel
theorem d_O_quotient_10 : decode c_O_quotient 10 = .ok (.lload_n 0, 1) := by decide +kernel
theorem d_O_quotient_11 : decode c_O_quotient 11 = .ok (.lload_n 2, 1) := by decide +kernel
theorem d_O_quotient_12 : decode c_O_quotient 12 = .ok (.ldiv, 1) := by decide +kernel
theorem d_O_quotient_13 : decode c_O_quotient 13 = .ok (.lreturn, 1) := by decide +kernel
theorem d_S_init_0 : decode c_S_init 0 = .ok (.aload_n 0, 1) := by decide +kernel
theorem d_S_init_1 : decode c_S_init 1 = .ok (.invokespecial 1, 3) := by decide +kernel
theorem d_S_init_4 : decode c_S_init 4 = .ok (.aload_n 0, 1) := by decide +kernel
theorem d_S_init_5 : decode c_S_init 5 = .ok (.aload_n 1, 1) := by decide +kernel
theorem d_S_init_6 : decode c_S_init 6 = .ok (.putfield 7, 3) := by decide +kernel
theorem d_S_init_9 : decode c_S_init 9 = .ok (.aload_n 0, 1) := by decide +kernel
theorem d_S_init_10 : decode c_S_init 10 = .ok (.aload_n 1, 1) := by decide +kernel
theorem d_S_init_11 : decode c_S_init 11 = .ok (.arraylength, 1) := by decide +kernel
theorem d_S_init_12 : decode c_S_init 12 = .ok (.newarray .int, 2) := by decide +kernel
theorem d_S_init_14 : decode c_S_init 14 = .ok (.putfield 13, 3) := by decide +kernel
theorem d_S_init_17 : decode c_S_init 17 = .ok (.aload_n 0, 1) := by decide +kernel
theorem d_S_init_18 : decode c_S_init 18 = .ok (.aload_n 1, 1) := by decide +kernel
theorem d_S_init_19 : decode c_S_init 19 = .ok (.arraylength, 1) := by decide +kernel
theorem d_S_init_20 : decode c_S_init 20 = .ok (.newarray .int, 2) := by decide +kernel
theorem d_S_init_22 : decode c_S_init 22 = .ok (.putfield 16, 3) := by decide +kernel
theorem d_S_init_25 : decode c_S_init 25 = .ok (.return_, 1) := by decide +kernel
theorem d_S_numberAll_0 : decode c_S_numberAll 0 = .ok (.aload_n 0, 1) := by decide +kernel
theorem d_S_numberAll_1 : decode c_S_numberAll 1 = .ok (.invokevirtual 19, 3) := by decide +kernel
theorem d_S_numberAll_4 : decode c_S_numberAll 4 = .ok (.iconst 0, 1) := by decide +kernel
theorem d_S_numberAll_5 : decode c_S_numberAll 5 = .ok (.istore_n 1, 1) := by decide +kernel
theorem d_S_numberAll_6 : decode c_S_numberAll 6 = .ok (.iconst 0, 1) := by decide +kernel
theorem d_S_numberAll_7 : decode c_S_numberAll 7 = .ok (.istore_n 2, 1) := by decide +kernel
theorem d_S_numberAll_8 : decode c_S_numberAll 8 = .ok (.aload_n 0, 1) := by decide +kernel
theorem d_S_numberAll_9 : decode c_S_numberAll 9 = .ok (.iload_n 1, 1) := by decide +kernel
theorem d_S_numberAll_10 : decode c_S_numberAll 10 = .ok (.invokevirtual 22, 3) := by decide +kernel
theorem d_S_numberAll_13 : decode c_S_numberAll 13 = .ok (.istore_n 3, 1) := by decide +kernel
theorem d_S_numberAll_14 : decode c_S_numberAll 14 = .ok (.iload_n 3, 1) := by decide +kernel
theorem d_S_numberAll_15 : decode c_S_numberAll 15 = .ok (.ifCond .lt 73, 3) := by decide +kernel
theorem d_S_numberAll_18 : decode c_S_numberAll 18 = .ok (.iload_n 2, 1) := by decide +kernel
theorem d_S_numberAll_19 : decode c_S_numberAll 19 = .ok (.aload_n 0, 1) := by decide +kernel
theorem d_S_numberAll_20 : decode c_S_numberAll 20 = .ok (.getfield 7, 3) := by decide +kernel
theorem d_S_numberAll_23 : decode c_S_numberAll 23 = .ok (.arraylength, 1) := by decide +kernel
theorem d_S_numberAll_24 : decode c_S_numberAll 24 = .ok (.if_icmp .ge 64, 3) := by decide +kernel
theorem d_S_numberAll_27 : decode c_S_numberAll 27 = .ok (.aload_n 0, 1) := by decide +kernel
theorem d_S_numberAll_28 : decode c_S_numberAll 28 = .ok (.iload_n 3, 1) := by decide +kernel
theorem d_S_numberAll_29 : decode c_S_numberAll 29 = .ok (.invokevirtual 26, 3) := by decide +kernel
theorem d_S_numberAll_32 : decode c_S_numberAll 32 = .ok (.istore 4, 2) := by decide +kernel
theorem d_S_numberAll_34 : decode c_S_numberAll 34 = .ok (.iconst 0, 1) := by decide +kernel
theorem d_S_numberAll_35 : decode c_S_numberAll 35 = .ok (.istore 5, 2) := by decide +kernel
theorem d_S_numberAll_37 : decode c_S_numberAll 37 = .ok (.iload 5, 2) := by decide +kernel
theorem d_S_numberAll_39 : decode c_S_numberAll 39 = .ok (.aload_n 0, 1) := by decide +kernel
theorem d_S_numberAll_40 : decode c_S_numberAll 40 = .ok (.getfield 7, 3) := by decide +kernel
theorem d_S_numberAll_43 : decode c_S_numberAll 43 = .ok (.arraylength, 1) := by decide +kernel
theorem d_S_numberAll_44 : decode c_S_numberAll 44 = .ok (.if_icmp .ge 27, 3) := by decide +kernel
theorem d_S_numberAll_47 : decode c_S_numberAll 47 = .ok (.iload 4, 2) := by decide +kernel
theorem d_S_numberAll_49 : decode c_S_numberAll 49 = .ok (.iload 5, 2) := by decide +kernel
theorem d_S_numberAll_51 : decode c_S_numberAll 51 = .ok (.invokestatic 29, 3) := by decide +kernel
theorem d_S_numberAll_54 : decode c_S_numberAll 54 = .ok (.ifCond .eq 11, 3) := by decide +kernel
theorem d_S_numberAll_57 : decode c_S_numberAll 57 = .ok (.aload_n 0, 1) := by decide +kernel
theorem d_S_numberAll_58 : decode c_S_numberAll 58 = .ok (.getfield 13, 3) := by decide +kernel
theorem d_S_numberAll_61 : decode c_S_numberAll 61 = .ok (.iload 5, 2) := by decide +kernel
theorem d_S_numberAll_63 : decode c_S_numberAll 63 = .ok (.iload_n 2, 1) := by decide +kernel
theorem d_S_numberAll_64 : decode c_S_numberAll 64 = .ok (.iastore, 1) := by decide +kernel
theorem d_S_numberAll_65 : decode c_S_numberAll 65 = .ok (.iinc 5 1, 3) := by decide +kernel
theorem d_S_numberAll_68 : decode c_S_numberAll 68 = .ok (.goto (-31), 3) := by decide +kernel
theorem d_S_numberAll_71 : decode c_S_numberAll 71 = .ok (.iload_n 1, 1) := by decide +kernel
theorem d_S_numberAll_72 : decode c_S_numberAll 72 = .ok (.iload 4, 2) := by decide +kernel
theorem d_S_numberAll_74 : decode c_S_numberAll 74 = .ok (.ior, 1) := by decide +kernel
theorem d_S_numberAll_75 : decode c_S_numberAll 75 = .ok (.istore_n 1, 1) := by decide +kernel
theorem d_S_numberAll_76 : decode c_S_numberAll 76 = .ok (.iinc 2 1, 3) := by decide +kernel
theorem d_S_numberAll_79 : decode c_S_numberAll 79 = .ok (.aload_n 0, 1) := by decide +kernel
theorem d_S_numberAll_80 : decode c_S_numberAll 80 = .ok (.iload_n 1, 1) := by decide +kernel
theorem d_S_numberAll_81 : decode c_S_numberAll 81 = .ok (.invokevirtual 22, 3) := by decide +kernel
theorem d_S_numberAll_84 : decode c_S_numberAll 84 = .ok (.istore_n 3, 1) := by decide +kernel
theorem d_S_numberAll_85 : decode c_S_numberAll 85 = .ok (.goto (-71), 3) := by decide +kernel
theorem d_S_numberAll_88 : decode c_S_numberAll 88 = .ok (.iload_n 2, 1) := by decide +kernel
theorem d_S_numberAll_89 : decode c_S_numberAll 89 = .ok (.ireturn, 1) := by decide +kernel
theorem d_S_findReached_0 : decode c_S_findReached 0 = .ok (.iconst 0, 1) := by decide +kernel
theorem d_S_findReached_1 : decode c_S_findReached 1 = .ok (.istore_n 1, 1) := by decide +kernel
theorem d_S_findReached_2 : decode c_S_findReached 2 = .ok (.iload_n 1, 1) := by decide +kernel
theorem d_S_findReached_3 : decode c_S_findReached 3 = .ok (.aload_n 0, 1) := by decide +kernel
theorem d_S_findReached_4 : decode c_S_findReached 4 = .ok (.getfield 7, 3) := by decide +kernel
theorem d_S_findReached_7 : decode c_S_findReached 7 = .ok (.arraylength, 1) := by decide +kernel
theorem d_S_findReached_8 : decode c_S_findReached 8 = .ok (.if_icmp .ge 25, 3) := by decide +kernel
theorem d_S_findReached_11 : decode c_S_findReached 11 = .ok (.aload_n 0, 1) := by decide +kernel
theorem d_S_findReached_12 : decode c_S_findReached 12 = .ok (.getfield 16, 3) := by decide +kernel
theorem d_S_findReached_15 : decode c_S_findReached 15 = .ok (.iload_n 1, 1) := by decide +kernel
theorem d_S_findReached_16 : decode c_S_findReached 16 = .ok (.aload_n 0, 1) := by decide +kernel
theorem d_S_findReached_17 : decode c_S_findReached 17 = .ok (.getfield 7, 3) := by decide +kernel
theorem d_S_findReached_20 : decode c_S_findReached 20 = .ok (.iload_n 1, 1) := by decide +kernel
theorem d_S_findReached_21 : decode c_S_findReached 21 = .ok (.iaload, 1) := by decide +kernel
theorem d_S_findReached_22 : decode c_S_findReached 22 = .ok (.iconst 1, 1) := by decide +kernel
theorem d_S_findReached_23 : decode c_S_findReached 23 = .ok (.iload_n 1, 1) := by decide +kernel
theorem d_S_findReached_24 : decode c_S_findReached 24 = .ok (.ishl, 1) := by decide +kernel
theorem d_S_findReached_25 : decode c_S_findReached 25 = .ok (.ior, 1) := by decide +kernel
theorem d_S_findReached_26 : decode c_S_findReached 26 = .ok (.iastore, 1) := by decide +kernel
theorem d_S_findReached_27 : decode c_S_findReached 27 = .ok (.iinc 1 1, 3) := by decide +kernel
theorem d_S_findReached_30 : decode c_S_findReached 30 = .ok (.goto (-28), 3) := by decide +kernel
theorem d_S_findReached_33 : decode c_S_findReached 33 = .ok (.iconst 0, 1) := by decide +kernel
theorem d_S_findReached_34 : decode c_S_findReached 34 = .ok (.istore_n 1, 1) := by decide +kernel
theorem d_S_findReached_35 : decode c_S_findReached 35 = .ok (.iload_n 1, 1) := by decide +kernel
theorem d_S_findReached_36 : decode c_S_findReached 36 = .ok (.aload_n 0, 1) := by decide +kernel
theorem d_S_findReached_37 : decode c_S_findReached 37 = .ok (.getfield 7, 3) := by decide +kernel
theorem d_S_findReached_40 : decode c_S_findReached 40 = .ok (.arraylength, 1) := by decide +kernel
theorem d_S_findReached_41 : decode c_S_findReached 41 = .ok (.if_icmp .ge 54, 3) := by decide +kernel
theorem d_S_findReached_44 : decode c_S_findReached 44 = .ok (.iconst 0, 1) := by decide +kernel
theorem d_S_findReached_45 : decode c_S_findReached 45 = .ok (.istore_n 2, 1) := by decide +kernel
theorem d_S_findReached_46 : decode c_S_findReached 46 = .ok (.iload_n 2, 1) := by decide +kernel
theorem d_S_findReached_47 : decode c_S_findReached 47 = .ok (.aload_n 0, 1) := by decide +kernel
theorem d_S_findReached_48 : decode c_S_findReached 48 = .ok (.getfield 7, 3) := by decide +kernel
theorem d_S_findReached_51 : decode c_S_findReached 51 = .ok (.arraylength, 1) := by decide +kernel
theorem d_S_findReached_52 : decode c_S_findReached 52 = .ok (.if_icmp .ge 37, 3) := by decide +kernel
theorem d_S_findReached_55 : decode c_S_findReached 55 = .ok (.aload_n 0, 1) := by decide +kernel
theorem d_S_findReached_56 : decode c_S_findReached 56 = .ok (.getfield 16, 3) := by decide +kernel
theorem d_S_findReached_59 : decode c_S_findReached 59 = .ok (.iload_n 2, 1) := by decide +kernel
theorem d_S_findReached_60 : decode c_S_findReached 60 = .ok (.iaload, 1) := by decide +kernel
theorem d_S_findReached_61 : decode c_S_findReached 61 = .ok (.iload_n 1, 1) := by decide +kernel
theorem d_S_findReached_62 : decode c_S_findReached 62 = .ok (.invokestatic 29, 3) := by decide +kernel
theorem d_S_findReached_65 : decode c_S_findReached 65 = .ok (.ifCond .eq 18, 3) := by decide +kernel
theorem d_S_findReached_68 : decode c_S_findReached 68 = .ok (.aload_n 0, 1) := by decide +kernel
theorem d_S_findReached_69 : decode c_S_findReached 69 = .ok (.getfield 16, 3) := by decide +kernel
theorem d_S_findReached_72 : decode c_S_findReached 72 = .ok (.iload_n 2, 1) := by decide +kernel
theorem d_S_findReached_73 : decode c_S_findReached 73 = .ok (.dup2, 1) := by decide +kernel
theorem d_S_findReached_74 : decode c_S_findReached 74 = .ok (.iaload, 1) := by decide +kernel
theorem d_S_findReached_75 : decode c_S_findReached 75 = .ok (.aload_n 0, 1) := by decide +kernel
theorem d_S_findReached_76 : decode c_S_findReached 76 = .ok (.getfield 16, 3) := by decide +kernel
theorem d_S_findReached_79 : decode c_S_findReached 79 = .ok (.iload_n 1, 1) := by decide +kernel
theorem d_S_findReached_80 : decode c_S_findReached 80 = .ok (.iaload, 1) := by decide +kernel
theorem d_S_findReached_81 : decode c_S_findReached 81 = .ok (.ior, 1) := by decide +kernel
theorem d_S_findReached_82 : decode c_S_findReached 82 = .ok (.iastore, 1) := by decide +kernel
theorem d_S_findReached_83 : decode c_S_findReached 83 = .ok (.iinc 2 1, 3) := by decide +kernel
theorem d_S_findReached_86 : decode c_S_findReached 86 = .ok (.goto (-40), 3) := by decide +kernel
theorem d_S_findReached_89 : decode c_S_findReached 89 = .ok (.iinc 1 1, 3) := by decide +kernel
theorem d_S_findReached_92 : decode c_S_findReached 92 = .ok (.goto (-57), 3) := by decide +kernel
theorem d_S_findReached_95 : decode c_S_findReached 95 = .ok (.return_, 1) := by decide +kernel
theorem d_S_nextReady_0 : decode c_S_nextReady 0 = .ok (.iconst 0, 1) := by decide +kernel
theorem d_S_nextReady_1 : decode c_S_nextReady 1 = .ok (.istore_n 2, 1) := by decide +kernel
theorem d_S_nextReady_2 : decode c_S_nextReady 2 = .ok (.iload_n 2, 1) := by decide +kernel
theorem d_S_nextReady_3 : decode c_S_nextReady 3 = .ok (.aload_n 0, 1) := by decide +kernel
theorem d_S_nextReady_4 : decode c_S_nextReady 4 = .ok (.getfield 7, 3) := by decide +kernel
theorem d_S_nextReady_7 : decode c_S_nextReady 7 = .ok (.arraylength, 1) := by decide +kernel
theorem d_S_nextReady_8 : decode c_S_nextReady 8 = .ok (.if_icmp .ge 40, 3) := by decide +kernel
theorem d_S_nextReady_11 : decode c_S_nextReady 11 = .ok (.iload_n 1, 1) := by decide +kernel
theorem d_S_nextReady_12 : decode c_S_nextReady 12 = .ok (.iload_n 2, 1) := by decide +kernel
theorem d_S_nextReady_13 : decode c_S_nextReady 13 = .ok (.invokestatic 29, 3) := by decide +kernel
theorem d_S_nextReady_16 : decode c_S_nextReady 16 = .ok (.ifCond .ne 26, 3) := by decide +kernel
theorem d_S_nextReady_19 : decode c_S_nextReady 19 = .ok (.aload_n 0, 1) := by decide +kernel
theorem d_S_nextReady_20 : decode c_S_nextReady 20 = .ok (.getfield 16, 3) := by decide +kernel
theorem d_S_nextReady_23 : decode c_S_nextReady 23 = .ok (.iload_n 2, 1) := by decide +kernel
theorem d_S_nextReady_24 : decode c_S_nextReady 24 = .ok (.iaload, 1) := by decide +kernel
theorem d_S_nextReady_25 : decode c_S_nextReady 25 = .ok (.iload_n 1, 1) := by decide +kernel
theorem d_S_nextReady_26 : decode c_S_nextReady 26 = .ok (.iconst (-1), 1) := by decide +kernel
theorem d_S_nextReady_27 : decode c_S_nextReady 27 = .ok (.ixor, 1) := by decide +kernel
theorem d_S_nextReady_28 : decode c_S_nextReady 28 = .ok (.iand, 1) := by decide +kernel
theorem d_S_nextReady_29 : decode c_S_nextReady 29 = .ok (.aload_n 0, 1) := by decide +kernel
theorem d_S_nextReady_30 : decode c_S_nextReady 30 = .ok (.iload_n 2, 1) := by decide +kernel
theorem d_S_nextReady_31 : decode c_S_nextReady 31 = .ok (.invokevirtual 26, 3) := by decide +kernel
theorem d_S_nextReady_34 : decode c_S_nextReady 34 = .ok (.iconst (-1), 1) := by decide +kernel
theorem d_S_nextReady_35 : decode c_S_nextReady 35 = .ok (.ixor, 1) := by decide +kernel
theorem d_S_nextReady_36 : decode c_S_nextReady 36 = .ok (.iand, 1) := by decide +kernel
theorem d_S_nextReady_37 : decode c_S_nextReady 37 = .ok (.ifCond .ne 5, 3) := by decide +kernel
theorem d_S_nextReady_40 : decode c_S_nextReady 40 = .ok (.iload_n 2, 1) := by decide +kernel
theorem d_S_nextReady_41 : decode c_S_nextReady 41 = .ok (.ireturn, 1) := by decide +kernel
theorem d_S_nextReady_42 : decode c_S_nextReady 42 = .ok (.iinc 2 1, 3) := by decide +kernel
theorem d_S_nextReady_45 : decode c_S_nextReady 45 = .ok (.goto (-43), 3) := by decide +kernel
theorem d_S_nextReady_48 : decode c_S_nextReady 48 = .ok (.iconst (-1), 1) := by decide +kernel
theorem d_S_nextReady_49 : decode c_S_nextReady 49 = .ok (.ireturn, 1) := by decide +kernel
theorem d_S_partOf_0 : decode c_S_partOf 0 = .ok (.iconst 0, 1) := by decide +kernel
theorem d_S_partOf_1 : decode c_S_partOf 1 = .ok (.istore_n 2, 1) := by decide +kernel
theorem d_S_partOf_2 : decode c_S_partOf 2 = .ok (.iconst 0, 1) := by decide +kernel
theorem d_S_partOf_3 : decode c_S_partOf 3 = .ok (.istore_n 3, 1) := by decide +kernel
theorem d_S_partOf_4 : decode c_S_partOf 4 = .ok (.iload_n 3, 1) := by decide +kernel
theorem d_S_partOf_5 : decode c_S_partOf 5 = .ok (.aload_n 0, 1) := by decide +kernel
theorem d_S_partOf_6 : decode c_S_partOf 6 = .ok (.getfield 7, 3) := by decide +kernel
theorem d_S_partOf_9 : decode c_S_partOf 9 = .ok (.arraylength, 1) := by decide +kernel
theorem d_S_partOf_10 : decode c_S_partOf 10 = .ok (.if_icmp .ge 41, 3) := by decide +kernel
theorem d_S_partOf_13 : decode c_S_partOf 13 = .ok (.aload_n 0, 1) := by decide +kernel
theorem d_S_partOf_14 : decode c_S_partOf 14 = .ok (.getfield 16, 3) := by decide +kernel
theorem d_S_partOf_17 : decode c_S_partOf 17 = .ok (.iload_n 1, 1) := by decide +kernel
theorem d_S_partOf_18 : decode c_S_partOf 18 = .ok (.iaload, 1) := by decide +kernel
theorem d_S_partOf_19 : decode c_S_partOf 19 = .ok (.iload_n 3, 1) := by decide +kernel
theorem d_S_partOf_20 : decode c_S_partOf 20 = .ok (.invokestatic 29, 3) := by decide +kernel
theorem d_S_partOf_23 : decode c_S_partOf 23 = .ok (.ifCond .eq 22, 3) := by decide +kernel
theorem d_S_partOf_26 : decode c_S_partOf 26 = .ok (.aload_n 0, 1) := by decide +kernel
theorem d_S_partOf_27 : decode c_S_partOf 27 = .ok (.getfield 16, 3) := by decide +kernel
theorem d_S_partOf_30 : decode c_S_partOf 30 = .ok (.iload_n 3, 1) := by decide +kernel
theorem d_S_partOf_31 : decode c_S_partOf 31 = .ok (.iaload, 1) := by decide +kernel
theorem d_S_partOf_32 : decode c_S_partOf 32 = .ok (.iload_n 1, 1) := by decide +kernel
theorem d_S_partOf_33 : decode c_S_partOf 33 = .ok (.invokestatic 29, 3) := by decide +kernel
theorem d_S_partOf_36 : decode c_S_partOf 36 = .ok (.ifCond .eq 9, 3) := by decide +kernel
theorem d_S_partOf_39 : decode c_S_partOf 39 = .ok (.iload_n 2, 1) := by decide +kernel
theorem d_S_partOf_40 : decode c_S_partOf 40 = .ok (.iconst 1, 1) := by decide +kernel
theorem d_S_partOf_41 : decode c_S_partOf 41 = .ok (.iload_n 3, 1) := by decide +kernel
theorem d_S_partOf_42 : decode c_S_partOf 42 = .ok (.ishl, 1) := by decide +kernel
theorem d_S_partOf_43 : decode c_S_partOf 43 = .ok (.ior, 1) := by decide +kernel
theorem d_S_partOf_44 : decode c_S_partOf 44 = .ok (.istore_n 2, 1) := by decide +kernel
theorem d_S_partOf_45 : decode c_S_partOf 45 = .ok (.iinc 3 1, 3) := by decide +kernel
theorem d_S_partOf_48 : decode c_S_partOf 48 = .ok (.goto (-44), 3) := by decide +kernel
theorem d_S_partOf_51 : decode c_S_partOf 51 = .ok (.iload_n 2, 1) := by decide +kernel
theorem d_S_partOf_52 : decode c_S_partOf 52 = .ok (.ireturn, 1) := by decide +kernel
theorem d_Y_init_0 : decode c_Y_init 0 = .ok (.aload_n 0, 1) := by decide +kernel
theorem d_Y_init_1 : decode c_Y_init 1 = .ok (.invokespecial 1, 3) := by decide +kernel
theorem d_Y_init_4 : decode c_Y_init 4 = .ok (.aload_n 0, 1) := by decide +kernel
theorem d_Y_init_5 : decode c_Y_init 5 = .ok (.iconst 0, 1) := by decide +kernel
theorem d_Y_init_6 : decode c_Y_init 6 = .ok (.putfield 7, 3) := by decide +kernel
theorem d_Y_init_9 : decode c_Y_init 9 = .ok (.aload_n 0, 1) := by decide +kernel
theorem d_Y_init_10 : decode c_Y_init 10 = .ok (.iconst 0, 1) := by decide +kernel
theorem d_Y_init_11 : decode c_Y_init 11 = .ok (.putfield 13, 3) := by decide +kernel
theorem d_Y_init_14 : decode c_Y_init 14 = .ok (.aload_n 0, 1) := by decide +kernel
theorem d_Y_init_15 : decode c_Y_init 15 = .ok (.iconst 0, 1) := by decide +kernel
theorem d_Y_init_16 : decode c_Y_init 16 = .ok (.putfield 16, 3) := by decide +kernel
theorem d_Y_init_19 : decode c_Y_init 19 = .ok (.aload_n 0, 1) := by decide +kernel
theorem d_Y_init_20 : decode c_Y_init 20 = .ok (.iconst 1, 1) := by decide +kernel
theorem d_Y_init_21 : decode c_Y_init 21 = .ok (.putfield 19, 3) := by decide +kernel
theorem d_Y_init_24 : decode c_Y_init 24 = .ok (.aload_n 0, 1) := by decide +kernel
theorem d_Y_init_25 : decode c_Y_init 25 = .ok (.iload_n 1, 1) := by decide +kernel
theorem d_Y_init_26 : decode c_Y_init 26 = .ok (.iconst 1, 1) := by decide +kernel
theorem d_Y_init_27 : decode c_Y_init 27 = .ok (.iadd, 1) := by decide +kernel
theorem d_Y_init_28 : decode c_Y_init 28 = .ok (.newarray .int, 2) := by decide +kernel
theorem d_Y_init_30 : decode c_Y_init 30 = .ok (.putfield 22, 3) := by decide +kernel
theorem d_Y_init_33 : decode c_Y_init 33 = .ok (.return_, 1) := by decide +kernel
theorem d_M_init_0 : decode c_M_init 0 = .ok (.aload_n 0, 1) := by decide +kernel
theorem d_M_init_1 : decode c_M_init 1 = .ok (.invokespecial 1, 3) := by decide +kernel
theorem d_M_init_4 : decode c_M_init 4 = .ok (.aload_n 0, 1) := by decide +kernel
theorem d_M_init_5 : decode c_M_init 5 = .ok (.bipush 12, 2) := by decide +kernel
theorem d_M_init_7 : decode c_M_init 7 = .ok (.newarray .int, 2) := by decide +kernel
theorem d_M_init_9 : decode c_M_init 9 = .ok (.putfield 7, 3) := by decide +kernel
theorem d_M_init_12 : decode c_M_init 12 = .ok (.aload_n 0, 1) := by decide +kernel
theorem d_M_init_13 : decode c_M_init 13 = .ok (.sipush 2048, 3) := by decide +kernel
theorem d_M_init_16 : decode c_M_init 16 = .ok (.newarray .int, 2) := by decide +kernel
theorem d_M_init_18 : decode c_M_init 18 = .ok (.putfield 13, 3) := by decide +kernel
theorem d_M_init_21 : decode c_M_init 21 = .ok (.aload_n 0, 1) := by decide +kernel
theorem d_M_init_22 : decode c_M_init 22 = .ok (.bipush 13, 2) := by decide +kernel
theorem d_M_init_24 : decode c_M_init 24 = .ok (.newarray .int, 2) := by decide +kernel
theorem d_M_init_26 : decode c_M_init 26 = .ok (.putfield 16, 3) := by decide +kernel
theorem d_M_init_29 : decode c_M_init 29 = .ok (.aload_n 0, 1) := by decide +kernel
theorem d_M_init_30 : decode c_M_init 30 = .ok (.bipush 12, 2) := by decide +kernel
theorem d_M_init_32 : decode c_M_init 32 = .ok (.newarray .int, 2) := by decide +kernel
theorem d_M_init_34 : decode c_M_init 34 = .ok (.putfield 19, 3) := by decide +kernel
theorem d_M_init_37 : decode c_M_init 37 = .ok (.aload_n 0, 1) := by decide +kernel
theorem d_M_init_38 : decode c_M_init 38 = .ok (.bipush 13, 2) := by decide +kernel
theorem d_M_init_40 : decode c_M_init 40 = .ok (.newarray .int, 2) := by decide +kernel
theorem d_M_init_42 : decode c_M_init 42 = .ok (.putfield 22, 3) := by decide +kernel
theorem d_M_init_45 : decode c_M_init 45 = .ok (.aload_n 0, 1) := by decide +kernel
theorem d_M_init_46 : decode c_M_init 46 = .ok (.bipush 12, 2) := by decide +kernel
theorem d_M_init_48 : decode c_M_init 48 = .ok (.newarray .int, 2) := by decide +kernel
theorem d_M_init_50 : decode c_M_init 50 = .ok (.putfield 25, 3) := by decide +kernel
theorem d_M_init_53 : decode c_M_init 53 = .ok (.aload_n 0, 1) := by decide +kernel
theorem d_M_init_54 : decode c_M_init 54 = .ok (.bipush 12, 2) := by decide +kernel
theorem d_M_init_56 : decode c_M_init 56 = .ok (.newarray .int, 2) := by decide +kernel
theorem d_M_init_58 : decode c_M_init 58 = .ok (.putfield 28, 3) := by decide +kernel
theorem d_M_init_61 : decode c_M_init 61 = .ok (.aload_n 0, 1) := by decide +kernel
theorem d_M_init_62 : decode c_M_init 62 = .ok (.bipush 12, 2) := by decide +kernel
theorem d_M_init_64 : decode c_M_init 64 = .ok (.newarray .int, 2) := by decide +kernel
theorem d_M_init_66 : decode c_M_init 66 = .ok (.putfield 31, 3) := by decide +kernel
theorem d_M_init_69 : decode c_M_init 69 = .ok (.aload_n 0, 1) := by decide +kernel
theorem d_M_init_70 : decode c_M_init 70 = .ok (.bipush 12, 2) := by decide +kernel
theorem d_M_init_72 : decode c_M_init 72 = .ok (.newarray .int, 2) := by decide +kernel
theorem d_M_init_74 : decode c_M_init 74 = .ok (.putfield 34, 3) := by decide +kernel
theorem d_M_init_77 : decode c_M_init 77 = .ok (.aload_n 0, 1) := by decide +kernel
theorem d_M_init_78 : decode c_M_init 78 = .ok (.bipush 12, 2) := by decide +kernel
theorem d_M_init_80 : decode c_M_init 80 = .ok (.newarray .int, 2) := by decide +kernel
theorem d_M_init_82 : decode c_M_init 82 = .ok (.putfield 37, 3) := by decide +kernel
theorem d_M_init_85 : decode c_M_init 85 = .ok (.aload_n 0, 1) := by decide +kernel
theorem d_M_init_86 : decode c_M_init 86 = .ok (.bipush 12, 2) := by decide +kernel
theorem d_M_init_88 : decode c_M_init 88 = .ok (.newarray .long, 2) := by decide +kernel
theorem d_M_init_90 : decode c_M_init 90 = .ok (.putfield 40, 3) := by decide +kernel
theorem d_M_init_93 : decode c_M_init 93 = .ok (.aload_n 0, 1) := by decide +kernel
theorem d_M_init_94 : decode c_M_init 94 = .ok (.bipush 12, 2) := by decide +kernel
theorem d_M_init_96 : decode c_M_init 96 = .ok (.newarray .long, 2) := by decide +kernel
theorem d_M_init_98 : decode c_M_init 98 = .ok (.putfield 44, 3) := by decide +kernel
theorem d_M_init_101 : decode c_M_init 101 = .ok (.aload_n 0, 1) := by decide +kernel
theorem d_M_init_102 : decode c_M_init 102 = .ok (.bipush 12, 2) := by decide +kernel
theorem d_M_init_104 : decode c_M_init 104 = .ok (.newarray .long, 2) := by decide +kernel
theorem d_M_init_106 : decode c_M_init 106 = .ok (.putfield 47, 3) := by decide +kernel
theorem d_M_init_109 : decode c_M_init 109 = .ok (.aload_n 0, 1) := by decide +kernel
theorem d_M_init_110 : decode c_M_init 110 = .ok (.bipush 12, 2) := by decide +kernel
theorem d_M_init_112 : decode c_M_init 112 = .ok (.newarray .int, 2) := by decide +kernel
theorem d_M_init_114 : decode c_M_init 114 = .ok (.putfield 50, 3) := by decide +kernel
theorem d_M_init_117 : decode c_M_init 117 = .ok (.aload_n 0, 1) := by decide +kernel
theorem d_M_init_118 : decode c_M_init 118 = .ok (.bipush 12, 2) := by decide +kernel
theorem d_M_init_120 : decode c_M_init 120 = .ok (.newarray .int, 2) := by decide +kernel
theorem d_M_init_122 : decode c_M_init 122 = .ok (.putfield 53, 3) := by decide +kernel
theorem d_M_init_125 : decode c_M_init 125 = .ok (.aload_n 0, 1) := by decide +kernel
theorem d_M_init_126 : decode c_M_init 126 = .ok (.iload_n 1, 1) := by decide +kernel
theorem d_M_init_127 : decode c_M_init 127 = .ok (.iconst 1, 1) := by decide +kernel
theorem d_M_init_128 : decode c_M_init 128 = .ok (.if_icmp .ge 7, 3) := by decide +kernel
theorem d_M_init_131 : decode c_M_init 131 = .ok (.iconst 1, 1) := by decide +kernel
theorem d_M_init_132 : decode c_M_init 132 = .ok (.goto 15, 3) := by decide +kernel
theorem d_M_init_135 : decode c_M_init 135 = .ok (.iload_n 1, 1) := by decide +kernel
theorem d_M_init_136 : decode c_M_init 136 = .ok (.bipush 12, 2) := by decide +kernel
theorem d_M_init_138 : decode c_M_init 138 = .ok (.if_icmp .le 8, 3) := by decide +kernel
theorem d_M_init_141 : decode c_M_init 141 = .ok (.bipush 12, 2) := by decide +kernel
theorem d_M_init_143 : decode c_M_init 143 = .ok (.goto 4, 3) := by decide +kernel
theorem d_M_init_146 : decode c_M_init 146 = .ok (.iload_n 1, 1) := by decide +kernel
theorem d_M_init_147 : decode c_M_init 147 = .ok (.putfield 56, 3) := by decide +kernel
theorem d_M_init_150 : decode c_M_init 150 = .ok (.iconst 0, 1) := by decide +kernel
theorem d_M_init_151 : decode c_M_init 151 = .ok (.istore_n 2, 1) := by decide +kernel
theorem d_M_init_152 : decode c_M_init 152 = .ok (.iload_n 2, 1) := by decide +kernel
theorem d_M_init_153 : decode c_M_init 153 = .ok (.bipush 12, 2) := by decide +kernel
theorem d_M_init_155 : decode c_M_init 155 = .ok (.if_icmp .ge 16, 3) := by decide +kernel
theorem d_M_init_158 : decode c_M_init 158 = .ok (.aload_n 0, 1) := by decide +kernel
theorem d_M_init_159 : decode c_M_init 159 = .ok (.getfield 37, 3) := by decide +kernel
theorem d_M_init_162 : decode c_M_init 162 = .ok (.iload_n 2, 1) := by decide +kernel
theorem d_M_init_163 : decode c_M_init 163 = .ok (.iconst 1, 1) := by decide +kernel
theorem d_M_init_164 : decode c_M_init 164 = .ok (.iastore, 1) := by decide +kernel
theorem d_M_init_165 : decode c_M_init 165 = .ok (.iinc 2 1, 3) := by decide +kernel
theorem d_M_init_168 : decode c_M_init 168 = .ok (.goto (-16), 3) := by decide +kernel
theorem d_M_init_171 : decode c_M_init 171 = .ok (.aload_n 0, 1) := by decide +kernel
theorem d_M_init_172 : decode c_M_init 172 = .ok (.iconst 0, 1) := by decide +kernel
theorem d_M_init_173 : decode c_M_init 173 = .ok (.iconst 0, 1) := by decide +kernel
theorem d_M_init_174 : decode c_M_init 174 = .ok (.iconst 0, 1) := by decide +kernel
theorem d_M_init_175 : decode c_M_init 175 = .ok (.iconst 1, 1) := by decide +kernel
theorem d_M_init_176 : decode c_M_init 176 = .ok (.invokevirtual 60, 3) := by decide +kernel
theorem d_M_init_179 : decode c_M_init 179 = .ok (.pop, 1) := by decide +kernel
theorem d_M_init_180 : decode c_M_init 180 = .ok (.aload_n 0, 1) := by decide +kernel
theorem d_M_init_181 : decode c_M_init 181 = .ok (.iconst 0, 1) := by decide +kernel
theorem d_M_init_182 : decode c_M_init 182 = .ok (.sipush 850, 3) := by decide +kernel
theorem d_M_init_185 : decode c_M_init 185 = .ok (.invokevirtual 64, 3) := by decide +kernel
theorem d_M_init_188 : decode c_M_init 188 = .ok (.pop, 1) := by decide +kernel
theorem d_M_init_189 : decode c_M_init 189 = .ok (.return_, 1) := by decide +kernel
theorem d_M_node_0 : decode c_M_node 0 = .ok (.iload_n 1, 1) := by decide +kernel
theorem d_M_node_1 : decode c_M_node 1 = .ok (.ifCond .lt 15, 3) := by decide +kernel
theorem d_M_node_4 : decode c_M_node 4 = .ok (.iload_n 1, 1) := by decide +kernel
theorem d_M_node_5 : decode c_M_node 5 = .ok (.aload_n 0, 1) := by decide +kernel
theorem d_M_node_6 : decode c_M_node 6 = .ok (.getfield 56, 3) := by decide +kernel
theorem d_M_node_9 : decode c_M_node 9 = .ok (.if_icmp .ge 7, 3) := by decide +kernel
theorem d_M_node_12 : decode c_M_node 12 = .ok (.iconst 1, 1) := by decide +kernel
theorem d_M_node_13 : decode c_M_node 13 = .ok (.goto 4, 3) := by decide +kernel
theorem d_M_node_16 : decode c_M_node 16 = .ok (.iconst 0, 1) := by decide +kernel
theorem d_M_node_17 : decode c_M_node 17 = .ok (.ireturn, 1) := by decide +kernel
theorem d_M_ones_0 : decode c_M_ones 0 = .ok (.iconst 0, 1) := by decide +kernel
theorem d_M_ones_1 : decode c_M_ones 1 = .ok (.istore_n 1, 1) := by decide +kernel
theorem d_M_ones_2 : decode c_M_ones 2 = .ok (.iconst 0, 1) := by decide +kernel
theorem d_M_ones_3 : decode c_M_ones 3 = .ok (.istore_n 2, 1) := by decide +kernel
theorem d_M_ones_4 : decode c_M_ones 4 = .ok (.iload_n 2, 1) := by decide +kernel
theorem d_M_ones_5 : decode c_M_ones 5 = .ok (.bipush 12, 2) := by decide +kernel
theorem d_M_ones_7 : decode c_M_ones 7 = .ok (.if_icmp .ge 17, 3) := by decide +kernel
theorem d_M_ones_10 : decode c_M_ones 10 = .ok (.iload_n 1, 1) := by decide +kernel
theorem d_M_ones_11 : decode c_M_ones 11 = .ok (.iload_n 0, 1) := by decide +kernel
theorem d_M_ones_12 : decode c_M_ones 12 = .ok (.iload_n 2, 1) := by decide +kernel
theorem d_M_ones_13 : decode c_M_ones 13 = .ok (.ishr, 1) := by decide +kernel
theorem d_M_ones_14 : decode c_M_ones 14 = .ok (.iconst 1, 1) := by decide +kernel
theorem d_M_ones_15 : decode c_M_ones 15 = .ok (.iand, 1) := by decide +kernel
theorem d_M_ones_16 : decode c_M_ones 16 = .ok (.iadd, 1) := by decide +kernel
theorem d_M_ones_17 : decode c_M_ones 17 = .ok (.istore_n 1, 1) := by decide +kernel
theorem d_M_ones_18 : decode c_M_ones 18 = .ok (.iinc 2 1, 3) := by decide +kernel
theorem d_M_ones_21 : decode c_M_ones 21 = .ok (.goto (-17), 3) := by decide +kernel
theorem d_M_ones_24 : decode c_M_ones 24 = .ok (.iload_n 1, 1) := by decide +kernel
theorem d_M_ones_25 : decode c_M_ones 25 = .ok (.ireturn, 1) := by decide +kernel
theorem d_M_add_0 : decode c_M_add 0 = .ok (.aload_n 0, 1) := by decide +kernel
theorem d_M_add_1 : decode c_M_add 1 = .ok (.iload_n 1, 1) := by decide +kernel
theorem d_M_add_2 : decode c_M_add 2 = .ok (.invokevirtual 68, 3) := by decide +kernel
theorem d_M_add_5 : decode c_M_add 5 = .ok (.ifCond .eq 25, 3) := by decide +kernel
theorem d_M_add_8 : decode c_M_add 8 = .ok (.aload_n 0, 1) := by decide +kernel
theorem d_M_add_9 : decode c_M_add 9 = .ok (.iload_n 2, 1) := by decide +kernel
theorem d_M_add_10 : decode c_M_add 10 = .ok (.invokevirtual 68, 3) := by decide +kernel
theorem d_M_add_13 : decode c_M_add 13 = .ok (.ifCond .eq 17, 3) := by decide +kernel
theorem d_M_add_16 : decode c_M_add 16 = .ok (.aload_n 0, 1) := by decide +kernel
theorem d_M_add_17 : decode c_M_add 17 = .ok (.getfield 7, 3) := by decide +kernel
theorem d_M_add_20 : decode c_M_add 20 = .ok (.iload_n 1, 1) := by decide +kernel
theorem d_M_add_21 : decode c_M_add 21 = .ok (.iaload, 1) := by decide +kernel
theorem d_M_add_22 : decode c_M_add 22 = .ok (.iload_n 2, 1) := by decide +kernel
theorem d_M_add_23 : decode c_M_add 23 = .ok (.ishr, 1) := by decide +kernel
theorem d_M_add_24 : decode c_M_add 24 = .ok (.iconst 1, 1) := by decide +kernel
theorem d_M_add_25 : decode c_M_add 25 = .ok (.iand, 1) := by decide +kernel
theorem d_M_add_26 : decode c_M_add 26 = .ok (.iconst 1, 1) := by decide +kernel
theorem d_M_add_27 : decode c_M_add 27 = .ok (.if_icmp .ne 5, 3) := by decide +kernel
theorem d_M_add_30 : decode c_M_add 30 = .ok (.iconst 0, 1) := by decide +kernel
theorem d_M_add_31 : decode c_M_add 31 = .ok (.ireturn, 1) := by decide +kernel
theorem d_M_add_32 : decode c_M_add 32 = .ok (.aload_n 0, 1) := by decide +kernel
theorem d_M_add_33 : decode c_M_add 33 = .ok (.getfield 7, 3) := by decide +kernel
theorem d_M_add_36 : decode c_M_add 36 = .ok (.iload_n 1, 1) := by decide +kernel
theorem d_M_add_37 : decode c_M_add 37 = .ok (.dup2, 1) := by decide +kernel
theorem d_M_add_38 : decode c_M_add 38 = .ok (.iaload, 1) := by decide +kernel
theorem d_M_add_39 : decode c_M_add 39 = .ok (.iconst 1, 1) := by decide +kernel
theorem d_M_add_40 : decode c_M_add 40 = .ok (.iload_n 2, 1) := by decide +kernel
theorem d_M_add_41 : decode c_M_add 41 = .ok (.ishl, 1) := by decide +kernel
theorem d_M_add_42 : decode c_M_add 42 = .ok (.ior, 1) := by decide +kernel
theorem d_M_add_43 : decode c_M_add 43 = .ok (.iastore, 1) := by decide +kernel
theorem d_M_add_44 : decode c_M_add 44 = .ok (.iconst 1, 1) := by decide +kernel
theorem d_M_add_45 : decode c_M_add 45 = .ok (.ireturn, 1) := by decide +kernel
theorem d_M_drop_0 : decode c_M_drop 0 = .ok (.aload_n 0, 1) := by decide +kernel
theorem d_M_drop_1 : decode c_M_drop 1 = .ok (.iload_n 1, 1) := by decide +kernel
theorem d_M_drop_2 : decode c_M_drop 2 = .ok (.invokevirtual 68, 3) := by decide +kernel
theorem d_M_drop_5 : decode c_M_drop 5 = .ok (.ifCond .eq 24, 3) := by decide +kernel
theorem d_M_drop_8 : decode c_M_drop 8 = .ok (.aload_n 0, 1) := by decide +kernel
theorem d_M_drop_9 : decode c_M_drop 9 = .ok (.iload_n 2, 1) := by decide +kernel
theorem d_M_drop_10 : decode c_M_drop 10 = .ok (.invokevirtual 68, 3) := by decide +kernel
theorem d_M_drop_13 : decode c_M_drop 13 = .ok (.ifCond .eq 16, 3) := by decide +kernel
theorem d_M_drop_16 : decode c_M_drop 16 = .ok (.aload_n 0, 1) := by decide +kernel
theorem d_M_drop_17 : decode c_M_drop 17 = .ok (.getfield 7, 3) := by decide +kernel
theorem d_M_drop_20 : decode c_M_drop 20 = .ok (.iload_n 1, 1) := by decide +kernel
theorem d_M_drop_21 : decode c_M_drop 21 = .ok (.iaload, 1) := by decide +kernel
theorem d_M_drop_22 : decode c_M_drop 22 = .ok (.iload_n 2, 1) := by decide +kernel
theorem d_M_drop_23 : decode c_M_drop 23 = .ok (.ishr, 1) := by decide +kernel
theorem d_M_drop_24 : decode c_M_drop 24 = .ok (.iconst 1, 1) := by decide +kernel
theorem d_M_drop_25 : decode c_M_drop 25 = .ok (.iand, 1) := by decide +kernel
theorem d_M_drop_26 : decode c_M_drop 26 = .ok (.ifCond .ne 5, 3) := by decide +kernel
theorem d_M_drop_29 : decode c_M_drop 29 = .ok (.iconst 0, 1) := by decide +kernel
theorem d_M_drop_30 : decode c_M_drop 30 = .ok (.ireturn, 1) := by decide +kernel
theorem d_M_drop_31 : decode c_M_drop 31 = .ok (.aload_n 0, 1) := by decide +kernel
theorem d_M_drop_32 : decode c_M_drop 32 = .ok (.getfield 7, 3) := by decide +kernel
theorem d_M_drop_35 : decode c_M_drop 35 = .ok (.iload_n 1, 1) := by decide +kernel
theorem d_M_drop_36 : decode c_M_drop 36 = .ok (.dup2, 1) := by decide +kernel
theorem d_M_drop_37 : decode c_M_drop 37 = .ok (.iaload, 1) := by decide +kernel
theorem d_M_drop_38 : decode c_M_drop 38 = .ok (.iconst 1, 1) := by decide +kernel
theorem d_M_drop_39 : decode c_M_drop 39 = .ok (.iload_n 2, 1) := by decide +kernel
theorem d_M_drop_40 : decode c_M_drop 40 = .ok (.ishl, 1) := by decide +kernel
theorem d_M_drop_41 : decode c_M_drop 41 = .ok (.iconst (-1), 1) := by decide +kernel
theorem d_M_drop_42 : decode c_M_drop 42 = .ok (.ixor, 1) := by decide +kernel
theorem d_M_drop_43 : decode c_M_drop 43 = .ok (.iand, 1) := by decide +kernel
theorem d_M_drop_44 : decode c_M_drop 44 = .ok (.iastore, 1) := by decide +kernel
theorem d_M_drop_45 : decode c_M_drop 45 = .ok (.iconst 1, 1) := by decide +kernel
theorem d_M_drop_46 : decode c_M_drop 46 = .ok (.ireturn, 1) := by decide +kernel
theorem d_M_put_0 : decode c_M_put 0 = .ok (.aload_n 0, 1) := by decide +kernel
theorem d_M_put_1 : decode c_M_put 1 = .ok (.getfield 13, 3) := by decide +kernel
theorem d_M_put_4 : decode c_M_put 4 = .ok (.aload_n 0, 1) := by decide +kernel
theorem d_M_put_5 : decode c_M_put 5 = .ok (.getfield 72, 3) := by decide +kernel
theorem d_M_put_8 : decode c_M_put 8 = .ok (.iload_n 1, 1) := by decide +kernel
theorem d_M_put_9 : decode c_M_put 9 = .ok (.iastore, 1) := by decide +kernel
theorem d_M_put_10 : decode c_M_put 10 = .ok (.aload_n 0, 1) := by decide +kernel
theorem d_M_put_11 : decode c_M_put 11 = .ok (.dup, 1) := by decide +kernel
theorem d_M_put_12 : decode c_M_put 12 = .ok (.getfield 72, 3) := by decide +kernel
theorem d_M_put_15 : decode c_M_put 15 = .ok (.iconst 1, 1) := by decide +kernel
theorem d_M_put_16 : decode c_M_put 16 = .ok (.iadd, 1) := by decide +kernel
theorem d_M_put_17 : decode c_M_put 17 = .ok (.putfield 72, 3) := by decide +kernel
theorem d_M_put_20 : decode c_M_put 20 = .ok (.return_, 1) := by decide +kernel
theorem d_M_putUnary_0 : decode c_M_putUnary 0 = .ok (.iconst 0, 1) := by decide +kernel
theorem d_M_putUnary_1 : decode c_M_putUnary 1 = .ok (.istore_n 2, 1) := by decide +kernel
theorem d_M_putUnary_2 : decode c_M_putUnary 2 = .ok (.iload_n 2, 1) := by decide +kernel
theorem d_M_putUnary_3 : decode c_M_putUnary 3 = .ok (.iload_n 1, 1) := by decide +kernel
theorem d_M_putUnary_4 : decode c_M_putUnary 4 = .ok (.if_icmp .ge 14, 3) := by decide +kernel
theorem d_M_putUnary_7 : decode c_M_putUnary 7 = .ok (.aload_n 0, 1) := by decide +kernel
theorem d_M_putUnary_8 : decode c_M_putUnary 8 = .ok (.iconst 0, 1) := by decide +kernel
theorem d_M_putUnary_9 : decode c_M_putUnary 9 = .ok (.invokevirtual 75, 3) := by decide +kernel
theorem d_M_putUnary_12 : decode c_M_putUnary 12 = .ok (.iinc 2 1, 3) := by decide +kernel
theorem d_M_putUnary_15 : decode c_M_putUnary 15 = .ok (.goto (-13), 3) := by decide +kernel
theorem d_M_putUnary_18 : decode c_M_putUnary 18 = .ok (.aload_n 0, 1) := by decide +kernel
theorem d_M_putUnary_19 : decode c_M_putUnary 19 = .ok (.iconst 1, 1) := by decide +kernel
theorem d_M_putUnary_20 : decode c_M_putUnary 20 = .ok (.invokevirtual 75, 3) := by decide +kernel
theorem d_M_putUnary_23 : decode c_M_putUnary 23 = .ok (.return_, 1) := by decide +kernel
theorem d_M_putNumber_0 : decode c_M_putNumber 0 = .ok (.iload_n 2, 1) := by decide +kernel
theorem d_M_putNumber_1 : decode c_M_putNumber 1 = .ok (.iconst 1, 1) := by decide +kernel
theorem d_M_putNumber_2 : decode c_M_putNumber 2 = .ok (.isub, 1) := by decide +kernel
theorem d_M_putNumber_3 : decode c_M_putNumber 3 = .ok (.istore_n 3, 1) := by decide +kernel
theorem d_M_putNumber_4 : decode c_M_putNumber 4 = .ok (.iload_n 3, 1) := by decide +kernel
theorem d_M_putNumber_5 : decode c_M_putNumber 5 = .ok (.ifCond .lt 18, 3) := by decide +kernel
theorem d_M_putNumber_8 : decode c_M_putNumber 8 = .ok (.aload_n 0, 1) := by decide +kernel
theorem d_M_putNumber_9 : decode c_M_putNumber 9 = .ok (.iload_n 1, 1) := by decide +kernel
theorem d_M_putNumber_10 : decode c_M_putNumber 10 = .ok (.iload_n 3, 1) := by decide +kernel
theorem d_M_putNumber_11 : decode c_M_putNumber 11 = .ok (.ishr, 1) := by decide +kernel
theorem d_M_putNumber_12 : decode c_M_putNumber 12 = .ok (.iconst 1, 1) := by decide +kernel
theorem d_M_putNumber_13 : decode c_M_putNumber 13 = .ok (.iand, 1) := by decide +kernel
theorem d_M_putNumber_14 : decode c_M_putNumber 14 = .ok (.invokevirtual 75, 3) := by decide +kernel
theorem d_M_putNumber_17 : decode c_M_putNumber 17 = .ok (.iinc 3 (-1), 3) := by decide +kernel
theorem d_M_putNumber_20 : decode c_M_putNumber 20 = .ok (.goto (-16), 3) := by decide +kernel
theorem d_M_putNumber_23 : decode c_M_putNumber 23 = .ok (.return_, 1) := by decide +kernel
theorem d_M_putGamma_0 : decode c_M_putGamma 0 = .ok (.iconst 0, 1) := by decide +kernel
theorem d_M_putGamma_1 : decode c_M_putGamma 1 = .ok (.istore_n 2, 1) := by decide +kernel
theorem d_M_putGamma_2 : decode c_M_putGamma 2 = .ok (.iload_n 2, 1) := by decide +kernel
theorem d_M_putGamma_3 : decode c_M_putGamma 3 = .ok (.bipush 20, 2) := by decide +kernel
theorem d_M_putGamma_5 : decode c_M_putGamma 5 = .ok (.if_icmp .ge 20, 3) := by decide +kernel
theorem d_M_putGamma_8 : decode c_M_putGamma 8 = .ok (.iconst 1, 1) := by decide +kernel
theorem d_M_putGamma_9 : decode c_M_putGamma 9 = .ok (.iload_n 2, 1) := by decide +kernel
theorem d_M_putGamma_10 : decode c_M_putGamma 10 = .ok (.iconst 1, 1) := by decide +kernel
theorem d_M_putGamma_11 : decode c_M_putGamma 11 = .ok (.iadd, 1) := by decide +kernel
theorem d_M_putGamma_12 : decode c_M_putGamma 12 = .ok (.ishl, 1) := by decide +kernel
theorem d_M_putGamma_13 : decode c_M_putGamma 13 = .ok (.iload_n 1, 1) := by decide +kernel
theorem d_M_putGamma_14 : decode c_M_putGamma 14 = .ok (.iconst 1, 1) := by decide +kernel
theorem d_M_putGamma_15 : decode c_M_putGamma 15 = .ok (.iadd, 1) := by decide +kernel
theorem d_M_putGamma_16 : decode c_M_putGamma 16 = .ok (.if_icmp .gt 9, 3) := by decide +kernel
theorem d_M_putGamma_19 : decode c_M_putGamma 19 = .ok (.iinc 2 1, 3) := by decide +kernel
theorem d_M_putGamma_22 : decode c_M_putGamma 22 = .ok (.goto (-20), 3) := by decide +kernel
theorem d_M_putGamma_25 : decode c_M_putGamma 25 = .ok (.aload_n 0, 1) := by decide +kernel
theorem d_M_putGamma_26 : decode c_M_putGamma 26 = .ok (.iload_n 2, 1) := by decide +kernel
theorem d_M_putGamma_27 : decode c_M_putGamma 27 = .ok (.invokevirtual 79, 3) := by decide +kernel
theorem d_M_putGamma_30 : decode c_M_putGamma 30 = .ok (.aload_n 0, 1) := by decide +kernel
theorem d_M_putGamma_31 : decode c_M_putGamma 31 = .ok (.iload_n 1, 1) := by decide +kernel
theorem d_M_putGamma_32 : decode c_M_putGamma 32 = .ok (.iconst 1, 1) := by decide +kernel
theorem d_M_putGamma_33 : decode c_M_putGamma 33 = .ok (.iadd, 1) := by decide +kernel
theorem d_M_putGamma_34 : decode c_M_putGamma 34 = .ok (.iload_n 2, 1) := by decide +kernel
theorem d_M_putGamma_35 : decode c_M_putGamma 35 = .ok (.invokevirtual 82, 3) := by decide +kernel
theorem d_M_putGamma_38 : decode c_M_putGamma 38 = .ok (.return_, 1) := by decide +kernel
theorem d_M_putZeta_0 : decode c_M_putZeta 0 = .ok (.iconst 0, 1) := by decide +kernel
theorem d_M_putZeta_1 : decode c_M_putZeta 1 = .ok (.istore_n 2, 1) := by decide +kernel
theorem d_M_putZeta_2 : decode c_M_putZeta 2 = .ok (.iload_n 2, 1) := by decide +kernel
theorem d_M_putZeta_3 : decode c_M_putZeta 3 = .ok (.bipush 6, 2) := by decide +kernel
theorem d_M_putZeta_5 : decode c_M_putZeta 5 = .ok (.if_icmp .ge 25, 3) := by decide +kernel
theorem d_M_putZeta_8 : decode c_M_putZeta 8 = .ok (.iconst 1, 1) := by decide +kernel
theorem d_M_putZeta_9 : decode c_M_putZeta 9 = .ok (.iload_n 2, 1) := by decide +kernel
theorem d_M_putZeta_10 : decode c_M_putZeta 10 = .ok (.iconst 1, 1) := by decide +kernel
theorem d_M_putZeta_11 : decode c_M_putZeta 11 = .ok (.iadd, 1) := by decide +kernel
theorem d_M_putZeta_12 : decode c_M_putZeta 12 = .ok (.aload_n 0, 1) := by decide +kernel
theorem d_M_putZeta_13 : decode c_M_putZeta 13 = .ok (.getfield 86, 3) := by decide +kernel
theorem d_M_putZeta_16 : decode c_M_putZeta 16 = .ok (.imul, 1) := by decide +kernel
theorem d_M_putZeta_17 : decode c_M_putZeta 17 = .ok (.ishl, 1) := by decide +kernel
theorem d_M_putZeta_18 : decode c_M_putZeta 18 = .ok (.iload_n 1, 1) := by decide +kernel
theorem d_M_putZeta_19 : decode c_M_putZeta 19 = .ok (.iconst 1, 1) := by decide +kernel
theorem d_M_putZeta_20 : decode c_M_putZeta 20 = .ok (.iadd, 1) := by decide +kernel
theorem d_M_putZeta_21 : decode c_M_putZeta 21 = .ok (.if_icmp .gt 9, 3) := by decide +kernel
theorem d_M_putZeta_24 : decode c_M_putZeta 24 = .ok (.iinc 2 1, 3) := by decide +kernel
theorem d_M_putZeta_27 : decode c_M_putZeta 27 = .ok (.goto (-25), 3) := by decide +kernel
theorem d_M_putZeta_30 : decode c_M_putZeta 30 = .ok (.aload_n 0, 1) := by decide +kernel
theorem d_M_putZeta_31 : decode c_M_putZeta 31 = .ok (.iload_n 2, 1) := by decide +kernel
theorem d_M_putZeta_32 : decode c_M_putZeta 32 = .ok (.invokevirtual 79, 3) := by decide +kernel
theorem d_M_putZeta_35 : decode c_M_putZeta 35 = .ok (.iconst 1, 1) := by decide +kernel
theorem d_M_putZeta_36 : decode c_M_putZeta 36 = .ok (.iload_n 2, 1) := by decide +kernel
theorem d_M_putZeta_37 : decode c_M_putZeta 37 = .ok (.aload_n 0, 1) := by decide +kernel
theorem d_M_putZeta_38 : decode c_M_putZeta 38 = .ok (.getfield 86, 3) := by decide +kernel
theorem d_M_putZeta_41 : decode c_M_putZeta 41 = .ok (.imul, 1) := by decide +kernel
theorem d_M_putZeta_42 : decode c_M_putZeta 42 = .ok (.ishl, 1) := by decide +kernel
theorem d_M_putZeta_43 : decode c_M_putZeta 43 = .ok (.istore_n 3, 1) := by decide +kernel
theorem d_M_putZeta_44 : decode c_M_putZeta 44 = .ok (.iload_n 1, 1) := by decide +kernel
theorem d_M_putZeta_45 : decode c_M_putZeta 45 = .ok (.iconst 1, 1) := by decide +kernel
theorem d_M_putZeta_46 : decode c_M_putZeta 46 = .ok (.iadd, 1) := by decide +kernel
theorem d_M_putZeta_47 : decode c_M_putZeta 47 = .ok (.iconst 2, 1) := by decide +kernel
theorem d_M_putZeta_48 : decode c_M_putZeta 48 = .ok (.iload_n 3, 1) := by decide +kernel
theorem d_M_putZeta_49 : decode c_M_putZeta 49 = .ok (.imul, 1) := by decide +kernel
theorem d_M_putZeta_50 : decode c_M_putZeta 50 = .ok (.if_icmp .ge 28, 3) := by decide +kernel
theorem d_M_putZeta_53 : decode c_M_putZeta 53 = .ok (.aload_n 0, 1) := by decide +kernel
theorem d_M_putZeta_54 : decode c_M_putZeta 54 = .ok (.iload_n 1, 1) := by decide +kernel
theorem d_M_putZeta_55 : decode c_M_putZeta 55 = .ok (.iconst 1, 1) := by decide +kernel
theorem d_M_putZeta_56 : decode c_M_putZeta 56 = .ok (.iadd, 1) := by decide +kernel
theorem d_M_putZeta_57 : decode c_M_putZeta 57 = .ok (.iload_n 3, 1) := by decide +kernel
theorem d_M_putZeta_58 : decode c_M_putZeta 58 = .ok (.isub, 1) := by decide +kernel
theorem d_M_putZeta_59 : decode c_M_putZeta 59 = .ok (.iload_n 2, 1) := by decide +kernel
theorem d_M_putZeta_60 : decode c_M_putZeta 60 = .ok (.aload_n 0, 1) := by decide +kernel
theorem d_M_putZeta_61 : decode c_M_putZeta 61 = .ok (.getfield 86, 3) := by decide +kernel
theorem d_M_putZeta_64 : decode c_M_putZeta 64 = .ok (.imul, 1) := by decide +kernel
theorem d_M_putZeta_65 : decode c_M_putZeta 65 = .ok (.aload_n 0, 1) := by decide +kernel
theorem d_M_putZeta_66 : decode c_M_putZeta 66 = .ok (.getfield 86, 3) := by decide +kernel
theorem d_M_putZeta_69 : decode c_M_putZeta 69 = .ok (.iadd, 1) := by decide +kernel
theorem d_M_putZeta_70 : decode c_M_putZeta 70 = .ok (.iconst 1, 1) := by decide +kernel
theorem d_M_putZeta_71 : decode c_M_putZeta 71 = .ok (.isub, 1) := by decide +kernel
theorem d_M_putZeta_72 : decode c_M_putZeta 72 = .ok (.invokevirtual 82, 3) := by decide +kernel
theorem d_M_putZeta_75 : decode c_M_putZeta 75 = .ok (.goto 21, 3) := by decide +kernel
theorem d_M_putZeta_78 : decode c_M_putZeta 78 = .ok (.aload_n 0, 1) := by decide +kernel
theorem d_M_putZeta_79 : decode c_M_putZeta 79 = .ok (.iload_n 1, 1) := by decide +kernel
theorem d_M_putZeta_80 : decode c_M_putZeta 80 = .ok (.iconst 1, 1) := by decide +kernel
theorem d_M_putZeta_81 : decode c_M_putZeta 81 = .ok (.iadd, 1) := by decide +kernel
theorem d_M_putZeta_82 : decode c_M_putZeta 82 = .ok (.iload_n 2, 1) := by decide +kernel
theorem d_M_putZeta_83 : decode c_M_putZeta 83 = .ok (.aload_n 0, 1) := by decide +kernel
theorem d_M_putZeta_84 : decode c_M_putZeta 84 = .ok (.getfield 86, 3) := by decide +kernel
theorem d_M_putZeta_87 : decode c_M_putZeta 87 = .ok (.imul, 1) := by decide +kernel
theorem d_M_putZeta_88 : decode c_M_putZeta 88 = .ok (.aload_n 0, 1) := by decide +kernel
theorem d_M_putZeta_89 : decode c_M_putZeta 89 = .ok (.getfield 86, 3) := by decide +kernel
theorem d_M_putZeta_92 : decode c_M_putZeta 92 = .ok (.iadd, 1) := by decide +kernel
theorem d_M_putZeta_93 : decode c_M_putZeta 93 = .ok (.invokevirtual 82, 3) := by decide +kernel
theorem d_M_putZeta_96 : decode c_M_putZeta 96 = .ok (.return_, 1) := by decide +kernel
theorem d_M_natural_0 : decode c_M_natural 0 = .ok (.iload_n 0, 1) := by decide +kernel
theorem d_M_natural_1 : decode c_M_natural 1 = .ok (.ifCond .lt 9, 3) := by decide +kernel
theorem d_M_natural_4 : decode c_M_natural 4 = .ok (.iconst 2, 1) := by decide +kernel
theorem d_M_natural_5 : decode c_M_natural 5 = .ok (.iload_n 0, 1) := by decide +kernel
theorem d_M_natural_6 : decode c_M_natural 6 = .ok (.imul, 1) := by decide +kernel
theorem d_M_natural_7 : decode c_M_natural 7 = .ok (.goto 9, 3) := by decide +kernel
theorem d_M_natural_10 : decode c_M_natural 10 = .ok (.bipush (-2), 2) := by decide +kernel
theorem d_M_natural_12 : decode c_M_natural 12 = .ok (.iload_n 0, 1) := by decide +kernel
theorem d_M_natural_13 : decode c_M_natural 13 = .ok (.imul, 1) := by decide +kernel
theorem d_M_natural_14 : decode c_M_natural 14 = .ok (.iconst 1, 1) := by decide +kernel
theorem d_M_natural_15 : decode c_M_natural 15 = .ok (.isub, 1) := by decide +kernel
theorem d_M_natural_16 : decode c_M_natural 16 = .ok (.ireturn, 1) := by decide +kernel
theorem d_M_whole_0 : decode c_M_whole 0 = .ok (.iload_n 0, 1) := by decide +kernel
theorem d_M_whole_1 : decode c_M_whole 1 = .ok (.iconst 1, 1) := by decide +kernel
theorem d_M_whole_2 : decode c_M_whole 2 = .ok (.iand, 1) := by decide +kernel
theorem d_M_whole_3 : decode c_M_whole 3 = .ok (.ifCond .ne 9, 3) := by decide +kernel
theorem d_M_whole_6 : decode c_M_whole 6 = .ok (.iload_n 0, 1) := by decide +kernel
theorem d_M_whole_7 : decode c_M_whole 7 = .ok (.iconst 1, 1) := by decide +kernel
theorem d_M_whole_8 : decode c_M_whole 8 = .ok (.ishr, 1) := by decide +kernel
theorem d_M_whole_9 : decode c_M_whole 9 = .ok (.goto 9, 3) := by decide +kernel
theorem d_M_whole_12 : decode c_M_whole 12 = .ok (.iload_n 0, 1) := by decide +kernel
theorem d_M_whole_13 : decode c_M_whole 13 = .ok (.iconst 1, 1) := by decide +kernel
theorem d_M_whole_14 : decode c_M_whole 14 = .ok (.iadd, 1) := by decide +kernel
theorem d_M_whole_15 : decode c_M_whole 15 = .ok (.iconst 1, 1) := by decide +kernel
theorem d_M_whole_16 : decode c_M_whole 16 = .ok (.ishr, 1) := by decide +kernel
theorem d_M_whole_17 : decode c_M_whole 17 = .ok (.ineg, 1) := by decide +kernel
theorem d_M_whole_18 : decode c_M_whole 18 = .ok (.ireturn, 1) := by decide +kernel
theorem d_M_putRuns_0 : decode c_M_putRuns 0 = .ok (.iconst 0, 1) := by decide +kernel
theorem d_M_putRuns_1 : decode c_M_putRuns 1 = .ok (.istore_n 3, 1) := by decide +kernel
theorem d_M_putRuns_2 : decode c_M_putRuns 2 = .ok (.iconst 1, 1) := by decide +kernel
theorem d_M_putRuns_3 : decode c_M_putRuns 3 = .ok (.istore 4, 2) := by decide +kernel
theorem d_M_putRuns_5 : decode c_M_putRuns 5 = .ok (.iconst 0, 1) := by decide +kernel
theorem d_M_putRuns_6 : decode c_M_putRuns 6 = .ok (.istore 5, 2) := by decide +kernel
theorem d_M_putRuns_8 : decode c_M_putRuns 8 = .ok (.iconst 0, 1) := by decide +kernel
theorem d_M_putRuns_9 : decode c_M_putRuns 9 = .ok (.istore 6, 2) := by decide +kernel
theorem d_M_putRuns_11 : decode c_M_putRuns 11 = .ok (.iload 6, 2) := by decide +kernel
theorem d_M_putRuns_13 : decode c_M_putRuns 13 = .ok (.aload_n 0, 1) := by decide +kernel
theorem d_M_putRuns_14 : decode c_M_putRuns 14 = .ok (.getfield 56, 3) := by decide +kernel
theorem d_M_putRuns_17 : decode c_M_putRuns 17 = .ok (.if_icmp .ge 53, 3) := by decide +kernel
theorem d_M_putRuns_20 : decode c_M_putRuns 20 = .ok (.iload_n 2, 1) := by decide +kernel
theorem d_M_putRuns_21 : decode c_M_putRuns 21 = .ok (.iload 6, 2) := by decide +kernel
theorem d_M_putRuns_23 : decode c_M_putRuns 23 = .ok (.ishr, 1) := by decide +kernel
theorem d_M_putRuns_24 : decode c_M_putRuns 24 = .ok (.iconst 1, 1) := by decide +kernel
theorem d_M_putRuns_25 : decode c_M_putRuns 25 = .ok (.iand, 1) := by decide +kernel
theorem d_M_putRuns_26 : decode c_M_putRuns 26 = .ok (.iconst 1, 1) := by decide +kernel
theorem d_M_putRuns_27 : decode c_M_putRuns 27 = .ok (.if_icmp .ne 37, 3) := by decide +kernel
theorem d_M_putRuns_30 : decode c_M_putRuns 30 = .ok (.iload_n 1, 1) := by decide +kernel
theorem d_M_putRuns_31 : decode c_M_putRuns 31 = .ok (.iload 6, 2) := by decide +kernel
theorem d_M_putRuns_33 : decode c_M_putRuns 33 = .ok (.ishr, 1) := by decide +kernel
theorem d_M_putRuns_34 : decode c_M_putRuns 34 = .ok (.iconst 1, 1) := by decide +kernel
theorem d_M_putRuns_35 : decode c_M_putRuns 35 = .ok (.iand, 1) := by decide +kernel
theorem d_M_putRuns_36 : decode c_M_putRuns 36 = .ok (.iload 4, 2) := by decide +kernel
theorem d_M_putRuns_38 : decode c_M_putRuns 38 = .ok (.if_icmp .eq 23, 3) := by decide +kernel
theorem d_M_putRuns_41 : decode c_M_putRuns 41 = .ok (.aload_n 0, 1) := by decide +kernel
theorem d_M_putRuns_42 : decode c_M_putRuns 42 = .ok (.getfield 22, 3) := by decide +kernel
theorem d_M_putRuns_45 : decode c_M_putRuns 45 = .ok (.iload_n 3, 1) := by decide +kernel
theorem d_M_putRuns_46 : decode c_M_putRuns 46 = .ok (.iload 5, 2) := by decide +kernel
theorem d_M_putRuns_48 : decode c_M_putRuns 48 = .ok (.iastore, 1) := by decide +kernel
theorem d_M_putRuns_49 : decode c_M_putRuns 49 = .ok (.iinc 3 1, 3) := by decide +kernel
theorem d_M_putRuns_52 : decode c_M_putRuns 52 = .ok (.iconst 1, 1) := by decide +kernel
theorem d_M_putRuns_53 : decode c_M_putRuns 53 = .ok (.iload 4, 2) := by decide +kernel
theorem d_M_putRuns_55 : decode c_M_putRuns 55 = .ok (.isub, 1) := by decide +kernel
theorem d_M_putRuns_56 : decode c_M_putRuns 56 = .ok (.istore 4, 2) := by decide +kernel
theorem d_M_putRuns_58 : decode c_M_putRuns 58 = .ok (.iconst 0, 1) := by decide +kernel
theorem d_M_putRuns_59 : decode c_M_putRuns 59 = .ok (.istore 5, 2) := by decide +kernel
theorem d_M_putRuns_61 : decode c_M_putRuns 61 = .ok (.iinc 5 1, 3) := by decide +kernel
theorem d_M_putRuns_64 : decode c_M_putRuns 64 = .ok (.iinc 6 1, 3) := by decide +kernel
theorem d_M_putRuns_67 : decode c_M_putRuns 67 = .ok (.goto (-56), 3) := by decide +kernel
theorem d_M_putRuns_70 : decode c_M_putRuns 70 = .ok (.aload_n 0, 1) := by decide +kernel
theorem d_M_putRuns_71 : decode c_M_putRuns 71 = .ok (.iload_n 3, 1) := by decide +kernel
theorem d_M_putRuns_72 : decode c_M_putRuns 72 = .ok (.invokevirtual 89, 3) := by decide +kernel
theorem d_M_putRuns_75 : decode c_M_putRuns 75 = .ok (.iconst 0, 1) := by decide +kernel
theorem d_M_putRuns_76 : decode c_M_putRuns 76 = .ok (.istore 6, 2) := by decide +kernel
theorem d_M_putRuns_78 : decode c_M_putRuns 78 = .ok (.iload 6, 2) := by decide +kernel
theorem d_M_putRuns_80 : decode c_M_putRuns 80 = .ok (.iload_n 3, 1) := by decide +kernel
theorem d_M_putRuns_81 : decode c_M_putRuns 81 = .ok (.if_icmp .ge 36, 3) := by decide +kernel
theorem d_M_putRuns_84 : decode c_M_putRuns 84 = .ok (.aload_n 0, 1) := by decide +kernel
theorem d_M_putRuns_85 : decode c_M_putRuns 85 = .ok (.iload 6, 2) := by decide +kernel
theorem d_M_putRuns_87 : decode c_M_putRuns 87 = .ok (.ifCond .ne 12, 3) := by decide +kernel
theorem d_M_putRuns_90 : decode c_M_putRuns 90 = .ok (.aload_n 0, 1) := by decide +kernel
theorem d_M_putRuns_91 : decode c_M_putRuns 91 = .ok (.getfield 22, 3) := by decide +kernel
theorem d_M_putRuns_94 : decode c_M_putRuns 94 = .ok (.iconst 0, 1) := by decide +kernel
theorem d_M_putRuns_95 : decode c_M_putRuns 95 = .ok (.iaload, 1) := by decide +kernel
theorem d_M_putRuns_96 : decode c_M_putRuns 96 = .ok (.goto 12, 3) := by decide +kernel
theorem d_M_putRuns_99 : decode c_M_putRuns 99 = .ok (.aload_n 0, 1) := by decide +kernel
theorem d_M_putRuns_100 : decode c_M_putRuns 100 = .ok (.getfield 22, 3) := by decide +kernel
theorem d_M_putRuns_103 : decode c_M_putRuns 103 = .ok (.iload 6, 2) := by decide +kernel
theorem d_M_putRuns_105 : decode c_M_putRuns 105 = .ok (.iaload, 1) := by decide +kernel
theorem d_M_putRuns_106 : decode c_M_putRuns 106 = .ok (.iconst 1, 1) := by decide +kernel
theorem d_M_putRuns_107 : decode c_M_putRuns 107 = .ok (.isub, 1) := by decide +kernel
theorem d_M_putRuns_108 : decode c_M_putRuns 108 = .ok (.invokevirtual 89, 3) := by decide +kernel
theorem d_M_putRuns_111 : decode c_M_putRuns 111 = .ok (.iinc 6 1, 3) := by decide +kernel
theorem d_M_putRuns_114 : decode c_M_putRuns 114 = .ok (.goto (-36), 3) := by decide +kernel
theorem d_M_putRuns_117 : decode c_M_putRuns 117 = .ok (.return_, 1) := by decide +kernel
theorem d_M_rowAt_0 : decode c_M_rowAt 0 = .ok (.iload_n 1, 1) := by decide +kernel
theorem d_M_rowAt_1 : decode c_M_rowAt 1 = .ok (.iload_n 2, 1) := by decide +kernel
theorem d_M_rowAt_2 : decode c_M_rowAt 2 = .ok (.ishr, 1) := by decide +kernel
theorem d_M_rowAt_3 : decode c_M_rowAt 3 = .ok (.iconst 1, 1) := by decide +kernel
theorem d_M_rowAt_4 : decode c_M_rowAt 4 = .ok (.iand, 1) := by decide +kernel
theorem d_M_rowAt_5 : decode c_M_rowAt 5 = .ok (.ifCond .eq 18, 3) := by decide +kernel
theorem d_M_rowAt_8 : decode c_M_rowAt 8 = .ok (.iload_n 2, 1) := by decide +kernel
theorem d_M_rowAt_9 : decode c_M_rowAt 9 = .ok (.ifCond .le 16, 3) := by decide +kernel
theorem d_M_rowAt_12 : decode c_M_rowAt 12 = .ok (.iload_n 1, 1) := by decide +kernel
theorem d_M_rowAt_13 : decode c_M_rowAt 13 = .ok (.iload_n 2, 1) := by decide +kernel
theorem d_M_rowAt_14 : decode c_M_rowAt 14 = .ok (.iconst 1, 1) := by decide +kernel
theorem d_M_rowAt_15 : decode c_M_rowAt 15 = .ok (.isub, 1) := by decide +kernel
theorem d_M_rowAt_16 : decode c_M_rowAt 16 = .ok (.ishr, 1) := by decide +kernel
theorem d_M_rowAt_17 : decode c_M_rowAt 17 = .ok (.iconst 1, 1) := by decide +kernel
theorem d_M_rowAt_18 : decode c_M_rowAt 18 = .ok (.iand, 1) := by decide +kernel
theorem d_M_rowAt_19 : decode c_M_rowAt 19 = .ok (.iconst 1, 1) := by decide +kernel
theorem d_M_rowAt_20 : decode c_M_rowAt 20 = .ok (.if_icmp .ne 5, 3) := by decide +kernel
theorem d_M_rowAt_23 : decode c_M_rowAt 23 = .ok (.iconst 0, 1) := by decide +kernel
theorem d_M_rowAt_24 : decode c_M_rowAt 24 = .ok (.ireturn, 1) := by decide +kernel
theorem d_M_rowAt_25 : decode c_M_rowAt 25 = .ok (.iconst 0, 1) := by decide +kernel
theorem d_M_rowAt_26 : decode c_M_rowAt 26 = .ok (.istore_n 3, 1) := by decide +kernel
theorem d_M_rowAt_27 : decode c_M_rowAt 27 = .ok (.iload_n 2, 1) := by decide +kernel
theorem d_M_rowAt_28 : decode c_M_rowAt 28 = .ok (.iload_n 3, 1) := by decide +kernel
theorem d_M_rowAt_29 : decode c_M_rowAt 29 = .ok (.iadd, 1) := by decide +kernel
theorem d_M_rowAt_30 : decode c_M_rowAt 30 = .ok (.aload_n 0, 1) := by decide +kernel
theorem d_M_rowAt_31 : decode c_M_rowAt 31 = .ok (.getfield 56, 3) := by decide +kernel
theorem d_M_rowAt_34 : decode c_M_rowAt 34 = .ok (.if_icmp .ge 20, 3) := by decide +kernel
theorem d_M_rowAt_37 : decode c_M_rowAt 37 = .ok (.iload_n 1, 1) := by decide +kernel
theorem d_M_rowAt_38 : decode c_M_rowAt 38 = .ok (.iload_n 2, 1) := by decide +kernel
theorem d_M_rowAt_39 : decode c_M_rowAt 39 = .ok (.iload_n 3, 1) := by decide +kernel
theorem d_M_rowAt_40 : decode c_M_rowAt 40 = .ok (.iadd, 1) := by decide +kernel
theorem d_M_rowAt_41 : decode c_M_rowAt 41 = .ok (.ishr, 1) := by decide +kernel
theorem d_M_rowAt_42 : decode c_M_rowAt 42 = .ok (.iconst 1, 1) := by decide +kernel
theorem d_M_rowAt_43 : decode c_M_rowAt 43 = .ok (.iand, 1) := by decide +kernel
theorem d_M_rowAt_44 : decode c_M_rowAt 44 = .ok (.iconst 1, 1) := by decide +kernel
theorem d_M_rowAt_45 : decode c_M_rowAt 45 = .ok (.if_icmp .ne 9, 3) := by decide +kernel
theorem d_M_rowAt_48 : decode c_M_rowAt 48 = .ok (.iinc 3 1, 3) := by decide +kernel
theorem d_M_rowAt_51 : decode c_M_rowAt 51 = .ok (.goto (-24), 3) := by decide +kernel
theorem d_M_rowAt_54 : decode c_M_rowAt 54 = .ok (.iload_n 3, 1) := by decide +kernel
theorem d_M_rowAt_55 : decode c_M_rowAt 55 = .ok (.ireturn, 1) := by decide +kernel
theorem d_M_putRest_0 : decode c_M_putRest 0 = .ok (.iload_n 2, 1) := by decide +kernel
theorem d_M_putRest_1 : decode c_M_putRest 1 = .ok (.istore_n 3, 1) := by decide +kernel
theorem d_M_putRest_2 : decode c_M_putRest 2 = .ok (.aload_n 0, 1) := by decide +kernel
theorem d_M_putRest_3 : decode c_M_putRest 3 = .ok (.getfield 92, 3) := by decide +kernel
theorem d_M_putRest_6 : decode c_M_putRest 6 = .ok (.ifCond .le 153, 3) := by decide +kernel
theorem d_M_putRest_9 : decode c_M_putRest 9 = .ok (.iconst 0, 1) := by decide +kernel
theorem d_M_putRest_10 : decode c_M_putRest 10 = .ok (.istore 4, 2) := by decide +kernel
theorem d_M_putRest_12 : decode c_M_putRest 12 = .ok (.iconst 0, 1) := by decide +kernel
theorem d_M_putRest_13 : decode c_M_putRest 13 = .ok (.istore 5, 2) := by decide +kernel
theorem d_M_putRest_15 : decode c_M_putRest 15 = .ok (.iload 5, 2) := by decide +kernel
theorem d_M_putRest_17 : decode c_M_putRest 17 = .ok (.aload_n 0, 1) := by decide +kernel
theorem d_M_putRest_18 : decode c_M_putRest 18 = .ok (.getfield 56, 3) := by decide +kernel
theorem d_M_putRest_21 : decode c_M_putRest 21 = .ok (.if_icmp .ge 33, 3) := by decide +kernel
theorem d_M_putRest_24 : decode c_M_putRest 24 = .ok (.iload 4, 2) := by decide +kernel
theorem d_M_putRest_26 : decode c_M_putRest 26 = .ok (.aload_n 0, 1) := by decide +kernel
theorem d_M_putRest_27 : decode c_M_putRest 27 = .ok (.iload_n 2, 1) := by decide +kernel
theorem d_M_putRest_28 : decode c_M_putRest 28 = .ok (.iload 5, 2) := by decide +kernel
theorem d_M_putRest_30 : decode c_M_putRest 30 = .ok (.invokevirtual 95, 3) := by decide +kernel
theorem d_M_putRest_33 : decode c_M_putRest 33 = .ok (.aload_n 0, 1) := by decide +kernel
theorem d_M_putRest_34 : decode c_M_putRest 34 = .ok (.getfield 92, 3) := by decide +kernel
theorem d_M_putRest_37 : decode c_M_putRest 37 = .ok (.if_icmp .lt 7, 3) := by decide +kernel
theorem d_M_putRest_40 : decode c_M_putRest 40 = .ok (.iconst 1, 1) := by decide +kernel
theorem d_M_putRest_41 : decode c_M_putRest 41 = .ok (.goto 4, 3) := by decide +kernel
theorem d_M_putRest_44 : decode c_M_putRest 44 = .ok (.iconst 0, 1) := by decide +kernel
theorem d_M_putRest_45 : decode c_M_putRest 45 = .ok (.iadd, 1) := by decide +kernel
theorem d_M_putRest_46 : decode c_M_putRest 46 = .ok (.istore 4, 2) := by decide +kernel
theorem d_M_putRest_48 : decode c_M_putRest 48 = .ok (.iinc 5 1, 3) := by decide +kernel
theorem d_M_putRest_51 : decode c_M_putRest 51 = .ok (.goto (-36), 3) := by decide +kernel
theorem d_M_putRest_54 : decode c_M_putRest 54 = .ok (.aload_n 0, 1) := by decide +kernel
theorem d_M_putRest_55 : decode c_M_putRest 55 = .ok (.iload 4, 2) := by decide +kernel
theorem d_M_putRest_57 : decode c_M_putRest 57 = .ok (.invokevirtual 89, 3) := by decide +kernel
theorem d_M_putRest_60 : decode c_M_putRest 60 = .ok (.iconst (-1), 1) := by decide +kernel
theorem d_M_putRest_61 : decode c_M_putRest 61 = .ok (.istore 5, 2) := by decide +kernel
theorem d_M_putRest_63 : decode c_M_putRest 63 = .ok (.iconst 0, 1) := by decide +kernel
theorem d_M_putRest_64 : decode c_M_putRest 64 = .ok (.istore 6, 2) := by decide +kernel
theorem d_M_putRest_66 : decode c_M_putRest 66 = .ok (.iload 6, 2) := by decide +kernel
theorem d_M_putRest_68 : decode c_M_putRest 68 = .ok (.aload_n 0, 1) := by decide +kernel
theorem d_M_putRest_69 : decode c_M_putRest 69 = .ok (.getfield 56, 3) := by decide +kernel
theorem d_M_putRest_72 : decode c_M_putRest 72 = .ok (.if_icmp .ge 87, 3) := by decide +kernel
theorem d_M_putRest_75 : decode c_M_putRest 75 = .ok (.aload_n 0, 1) := by decide +kernel
theorem d_M_putRest_76 : decode c_M_putRest 76 = .ok (.iload_n 2, 1) := by decide +kernel
theorem d_M_putRest_77 : decode c_M_putRest 77 = .ok (.iload 6, 2) := by decide +kernel
theorem d_M_putRest_79 : decode c_M_putRest 79 = .ok (.invokevirtual 95, 3) := by decide +kernel
theorem d_M_putRest_82 : decode c_M_putRest 82 = .ok (.istore 7, 2) := by decide +kernel
theorem d_M_putRest_84 : decode c_M_putRest 84 = .ok (.iload 7, 2) := by decide +kernel
theorem d_M_putRest_86 : decode c_M_putRest 86 = .ok (.aload_n 0, 1) := by decide +kernel
theorem d_M_putRest_87 : decode c_M_putRest 87 = .ok (.getfield 92, 3) := by decide +kernel
theorem d_M_putRest_90 : decode c_M_putRest 90 = .ok (.if_icmp .lt 63, 3) := by decide +kernel
theorem d_M_putRest_93 : decode c_M_putRest 93 = .ok (.aload_n 0, 1) := by decide +kernel
theorem d_M_putRest_94 : decode c_M_putRest 94 = .ok (.iload 5, 2) := by decide +kernel
theorem d_M_putRest_96 : decode c_M_putRest 96 = .ok (.ifCond .ge 13, 3) := by decide +kernel
theorem d_M_putRest_99 : decode c_M_putRest 99 = .ok (.iload 6, 2) := by decide +kernel
theorem d_M_putRest_101 : decode c_M_putRest 101 = .ok (.iload_n 1, 1) := by decide +kernel
theorem d_M_putRest_102 : decode c_M_putRest 102 = .ok (.isub, 1) := by decide +kernel
theorem d_M_putRest_103 : decode c_M_putRest 103 = .ok (.invokestatic 99, 3) := by decide +kernel
theorem d_M_putRest_106 : decode c_M_putRest 106 = .ok (.goto 10, 3) := by decide +kernel
theorem d_M_putRest_109 : decode c_M_putRest 109 = .ok (.iload 6, 2) := by decide +kernel
theorem d_M_putRest_111 : decode c_M_putRest 111 = .ok (.iload 5, 2) := by decide +kernel
theorem d_M_putRest_113 : decode c_M_putRest 113 = .ok (.isub, 1) := by decide +kernel
theorem d_M_putRest_114 : decode c_M_putRest 114 = .ok (.iconst 2, 1) := by decide +kernel
theorem d_M_putRest_115 : decode c_M_putRest 115 = .ok (.isub, 1) := by decide +kernel
theorem d_M_putRest_116 : decode c_M_putRest 116 = .ok (.invokevirtual 89, 3) := by decide +kernel
theorem d_M_putRest_119 : decode c_M_putRest 119 = .ok (.aload_n 0, 1) := by decide +kernel
theorem d_M_putRest_120 : decode c_M_putRest 120 = .ok (.iload 7, 2) := by decide +kernel
theorem d_M_putRest_122 : decode c_M_putRest 122 = .ok (.aload_n 0, 1) := by decide +kernel
theorem d_M_putRest_123 : decode c_M_putRest 123 = .ok (.getfield 92, 3) := by decide +kernel
theorem d_M_putRest_126 : decode c_M_putRest 126 = .ok (.isub, 1) := by decide +kernel
theorem d_M_putRest_127 : decode c_M_putRest 127 = .ok (.invokevirtual 89, 3) := by decide +kernel
theorem d_M_putRest_130 : decode c_M_putRest 130 = .ok (.iload 6, 2) := by decide +kernel
theorem d_M_putRest_132 : decode c_M_putRest 132 = .ok (.iload 7, 2) := by decide +kernel
theorem d_M_putRest_134 : decode c_M_putRest 134 = .ok (.iadd, 1) := by decide +kernel
theorem d_M_putRest_135 : decode c_M_putRest 135 = .ok (.iconst 1, 1) := by decide +kernel
theorem d_M_putRest_136 : decode c_M_putRest 136 = .ok (.isub, 1) := by decide +kernel
theorem d_M_putRest_137 : decode c_M_putRest 137 = .ok (.istore 5, 2) := by decide +kernel
theorem d_M_putRest_139 : decode c_M_putRest 139 = .ok (.iload_n 3, 1) := by decide +kernel
theorem d_M_putRest_140 : decode c_M_putRest 140 = .ok (.iconst 1, 1) := by decide +kernel
theorem d_M_putRest_141 : decode c_M_putRest 141 = .ok (.iload 7, 2) := by decide +kernel
theorem d_M_putRest_143 : decode c_M_putRest 143 = .ok (.ishl, 1) := by decide +kernel
theorem d_M_putRest_144 : decode c_M_putRest 144 = .ok (.iconst 1, 1) := by decide +kernel
theorem d_M_putRest_145 : decode c_M_putRest 145 = .ok (.isub, 1) := by decide +kernel
theorem d_M_putRest_146 : decode c_M_putRest 146 = .ok (.iload 6, 2) := by decide +kernel
theorem d_M_putRest_148 : decode c_M_putRest 148 = .ok (.ishl, 1) := by decide +kernel
theorem d_M_putRest_149 : decode c_M_putRest 149 = .ok (.iconst (-1), 1) := by decide +kernel
theorem d_M_putRest_150 : decode c_M_putRest 150 = .ok (.ixor, 1) := by decide +kernel
theorem d_M_putRest_151 : decode c_M_putRest 151 = .ok (.iand, 1) := by decide +kernel
theorem d_M_putRest_152 : decode c_M_putRest 152 = .ok (.istore_n 3, 1) := by decide +kernel
theorem d_M_putRest_153 : decode c_M_putRest 153 = .ok (.iinc 6 1, 3) := by decide +kernel
theorem d_M_putRest_156 : decode c_M_putRest 156 = .ok (.goto (-90), 3) := by decide +kernel
theorem d_M_putRest_159 : decode c_M_putRest 159 = .ok (.iconst (-1), 1) := by decide +kernel
theorem d_M_putRest_160 : decode c_M_putRest 160 = .ok (.istore 4, 2) := by decide +kernel
theorem d_M_putRest_162 : decode c_M_putRest 162 = .ok (.iconst 0, 1) := by decide +kernel
theorem d_M_putRest_163 : decode c_M_putRest 163 = .ok (.istore 5, 2) := by decide +kernel
theorem d_M_putRest_165 : decode c_M_putRest 165 = .ok (.iload 5, 2) := by decide +kernel
theorem d_M_putRest_167 : decode c_M_putRest 167 = .ok (.aload_n 0, 1) := by decide +kernel
theorem d_M_putRest_168 : decode c_M_putRest 168 = .ok (.getfield 56, 3) := by decide +kernel
theorem d_M_putRest_171 : decode c_M_putRest 171 = .ok (.if_icmp .ge 49, 3) := by decide +kernel
theorem d_M_putRest_174 : decode c_M_putRest 174 = .ok (.iload_n 3, 1) := by decide +kernel
theorem d_M_putRest_175 : decode c_M_putRest 175 = .ok (.iload 5, 2) := by decide +kernel
theorem d_M_putRest_177 : decode c_M_putRest 177 = .ok (.ishr, 1) := by decide +kernel
theorem d_M_putRest_178 : decode c_M_putRest 178 = .ok (.iconst 1, 1) := by decide +kernel
theorem d_M_putRest_179 : decode c_M_putRest 179 = .ok (.iand, 1) := by decide +kernel
theorem d_M_putRest_180 : decode c_M_putRest 180 = .ok (.iconst 1, 1) := by decide +kernel
theorem d_M_putRest_181 : decode c_M_putRest 181 = .ok (.if_icmp .ne 33, 3) := by decide +kernel
theorem d_M_putRest_184 : decode c_M_putRest 184 = .ok (.aload_n 0, 1) := by decide +kernel
theorem d_M_putRest_185 : decode c_M_putRest 185 = .ok (.iload 4, 2) := by decide +kernel
theorem d_M_putRest_187 : decode c_M_putRest 187 = .ok (.ifCond .ge 13, 3) := by decide +kernel
theorem d_M_putRest_190 : decode c_M_putRest 190 = .ok (.iload 5, 2) := by decide +kernel
theorem d_M_putRest_192 : decode c_M_putRest 192 = .ok (.iload_n 1, 1) := by decide +kernel
theorem d_M_putRest_193 : decode c_M_putRest 193 = .ok (.isub, 1) := by decide +kernel
theorem d_M_putRest_194 : decode c_M_putRest 194 = .ok (.invokestatic 99, 3) := by decide +kernel
theorem d_M_putRest_197 : decode c_M_putRest 197 = .ok (.goto 10, 3) := by decide +kernel
theorem d_M_putRest_200 : decode c_M_putRest 200 = .ok (.iload 5, 2) := by decide +kernel
theorem d_M_putRest_202 : decode c_M_putRest 202 = .ok (.iload 4, 2) := by decide +kernel
theorem d_M_putRest_204 : decode c_M_putRest 204 = .ok (.isub, 1) := by decide +kernel
theorem d_M_putRest_205 : decode c_M_putRest 205 = .ok (.iconst 1, 1) := by decide +kernel
theorem d_M_putRest_206 : decode c_M_putRest 206 = .ok (.isub, 1) := by decide +kernel
theorem d_M_putRest_207 : decode c_M_putRest 207 = .ok (.invokevirtual 103, 3) := by decide +kernel
theorem d_M_putRest_210 : decode c_M_putRest 210 = .ok (.iload 5, 2) := by decide +kernel
theorem d_M_putRest_212 : decode c_M_putRest 212 = .ok (.istore 4, 2) := by decide +kernel
theorem d_M_putRest_214 : decode c_M_putRest 214 = .ok (.iinc 5 1, 3) := by decide +kernel
theorem d_M_putRest_217 : decode c_M_putRest 217 = .ok (.goto (-52), 3) := by decide +kernel
theorem d_M_putRest_220 : decode c_M_putRest 220 = .ok (.return_, 1) := by decide +kernel
theorem d_M_putRecord_0 : decode c_M_putRecord 0 = .ok (.aload_n 0, 1) := by decide +kernel
theorem d_M_putRecord_1 : decode c_M_putRecord 1 = .ok (.getfield 7, 3) := by decide +kernel
theorem d_M_putRecord_4 : decode c_M_putRecord 4 = .ok (.iload_n 1, 1) := by decide +kernel
theorem d_M_putRecord_5 : decode c_M_putRecord 5 = .ok (.iaload, 1) := by decide +kernel
theorem d_M_putRecord_6 : decode c_M_putRecord 6 = .ok (.istore_n 3, 1) := by decide +kernel
theorem d_M_putRecord_7 : decode c_M_putRecord 7 = .ok (.aload_n 0, 1) := by decide +kernel
theorem d_M_putRecord_8 : decode c_M_putRecord 8 = .ok (.iload_n 3, 1) := by decide +kernel
theorem d_M_putRecord_9 : decode c_M_putRecord 9 = .ok (.invokestatic 106, 3) := by decide +kernel
theorem d_M_putRecord_12 : decode c_M_putRecord 12 = .ok (.invokevirtual 89, 3) := by decide +kernel
theorem d_M_putRecord_15 : decode c_M_putRecord 15 = .ok (.iload_n 3, 1) := by decide +kernel
theorem d_M_putRecord_16 : decode c_M_putRecord 16 = .ok (.ifCond .ne 4, 3) := by decide +kernel
theorem d_M_putRecord_19 : decode c_M_putRecord 19 = .ok (.return_, 1) := by decide +kernel
theorem d_M_putRecord_20 : decode c_M_putRecord 20 = .ok (.aload_n 0, 1) := by decide +kernel
theorem d_M_putRecord_21 : decode c_M_putRecord 21 = .ok (.getfield 109, 3) := by decide +kernel
theorem d_M_putRecord_24 : decode c_M_putRecord 24 = .ok (.ifCond .le 8, 3) := by decide +kernel
theorem d_M_putRecord_27 : decode c_M_putRecord 27 = .ok (.aload_n 0, 1) := by decide +kernel
theorem d_M_putRecord_28 : decode c_M_putRecord 28 = .ok (.iload_n 2, 1) := by decide +kernel
theorem d_M_putRecord_29 : decode c_M_putRecord 29 = .ok (.invokevirtual 79, 3) := by decide +kernel
theorem d_M_putRecord_32 : decode c_M_putRecord 32 = .ok (.iload_n 3, 1) := by decide +kernel
theorem d_M_putRecord_33 : decode c_M_putRecord 33 = .ok (.istore 4, 2) := by decide +kernel
theorem d_M_putRecord_35 : decode c_M_putRecord 35 = .ok (.iload_n 2, 1) := by decide +kernel
theorem d_M_putRecord_36 : decode c_M_putRecord 36 = .ok (.ifCond .le 30, 3) := by decide +kernel
theorem d_M_putRecord_39 : decode c_M_putRecord 39 = .ok (.aload_n 0, 1) := by decide +kernel
theorem d_M_putRecord_40 : decode c_M_putRecord 40 = .ok (.iload_n 3, 1) := by decide +kernel
theorem d_M_putRecord_41 : decode c_M_putRecord 41 = .ok (.aload_n 0, 1) := by decide +kernel
theorem d_M_putRecord_42 : decode c_M_putRecord 42 = .ok (.getfield 7, 3) := by decide +kernel
theorem d_M_putRecord_45 : decode c_M_putRecord 45 = .ok (.iload_n 1, 1) := by decide +kernel
theorem d_M_putRecord_46 : decode c_M_putRecord 46 = .ok (.iload_n 2, 1) := by decide +kernel
theorem d_M_putRecord_47 : decode c_M_putRecord 47 = .ok (.isub, 1) := by decide +kernel
theorem d_M_putRecord_48 : decode c_M_putRecord 48 = .ok (.iaload, 1) := by decide +kernel
theorem d_M_putRecord_49 : decode c_M_putRecord 49 = .ok (.invokevirtual 112, 3) := by decide +kernel
theorem d_M_putRecord_52 : decode c_M_putRecord 52 = .ok (.iload_n 3, 1) := by decide +kernel
theorem d_M_putRecord_53 : decode c_M_putRecord 53 = .ok (.aload_n 0, 1) := by decide +kernel
theorem d_M_putRecord_54 : decode c_M_putRecord 54 = .ok (.getfield 7, 3) := by decide +kernel
theorem d_M_putRecord_57 : decode c_M_putRecord 57 = .ok (.iload_n 1, 1) := by decide +kernel
theorem d_M_putRecord_58 : decode c_M_putRecord 58 = .ok (.iload_n 2, 1) := by decide +kernel
theorem d_M_putRecord_59 : decode c_M_putRecord 59 = .ok (.isub, 1) := by decide +kernel
theorem d_M_putRecord_60 : decode c_M_putRecord 60 = .ok (.iaload, 1) := by decide +kernel
theorem d_M_putRecord_61 : decode c_M_putRecord 61 = .ok (.iconst (-1), 1) := by decide +kernel
theorem d_M_putRecord_62 : decode c_M_putRecord 62 = .ok (.ixor, 1) := by decide +kernel
theorem d_M_putRecord_63 : decode c_M_putRecord 63 = .ok (.iand, 1) := by decide +kernel
theorem d_M_putRecord_64 : decode c_M_putRecord 64 = .ok (.istore 4, 2) := by decide +kernel
theorem d_M_putRecord_66 : decode c_M_putRecord 66 = .ok (.iload 4, 2) := by decide +kernel
theorem d_M_putRecord_68 : decode c_M_putRecord 68 = .ok (.ifCond .eq 10, 3) := by decide +kernel
theorem d_M_putRecord_71 : decode c_M_putRecord 71 = .ok (.aload_n 0, 1) := by decide +kernel
theorem d_M_putRecord_72 : decode c_M_putRecord 72 = .ok (.iload_n 1, 1) := by decide +kernel
theorem d_M_putRecord_73 : decode c_M_putRecord 73 = .ok (.iload 4, 2) := by decide +kernel
theorem d_M_putRecord_75 : decode c_M_putRecord 75 = .ok (.invokevirtual 115, 3) := by decide +kernel
theorem d_M_putRecord_78 : decode c_M_putRecord 78 = .ok (.return_, 1) := by decide +kernel
theorem d_M_pack_0 : decode c_M_pack 0 = .ok (.iload_n 1, 1) := by decide +kernel
theorem d_M_pack_1 : decode c_M_pack 1 = .ok (.ifCond .lt 40, 3) := by decide +kernel
theorem d_M_pack_4 : decode c_M_pack 4 = .ok (.iload_n 1, 1) := by decide +kernel
theorem d_M_pack_5 : decode c_M_pack 5 = .ok (.bipush 6, 2) := by decide +kernel
theorem d_M_pack_7 : decode c_M_pack 7 = .ok (.if_icmp .gt 34, 3) := by decide +kernel
theorem d_M_pack_10 : decode c_M_pack 10 = .ok (.iload_n 2, 1) := by decide +kernel
theorem d_M_pack_11 : decode c_M_pack 11 = .ok (.ifCond .lt 30, 3) := by decide +kernel
theorem d_M_pack_14 : decode c_M_pack 14 = .ok (.iload_n 2, 1) := by decide +kernel
theorem d_M_pack_15 : decode c_M_pack 15 = .ok (.iconst 3, 1) := by decide +kernel
theorem d_M_pack_16 : decode c_M_pack 16 = .ok (.if_icmp .gt 25, 3) := by decide +kernel
theorem d_M_pack_19 : decode c_M_pack 19 = .ok (.iload_n 3, 1) := by decide +kernel
theorem d_M_pack_20 : decode c_M_pack 20 = .ok (.ifCond .lt 21, 3) := by decide +kernel
theorem d_M_pack_23 : decode c_M_pack 23 = .ok (.iload_n 3, 1) := by decide +kernel
theorem d_M_pack_24 : decode c_M_pack 24 = .ok (.bipush 9, 2) := by decide +kernel
theorem d_M_pack_26 : decode c_M_pack 26 = .ok (.if_icmp .gt 15, 3) := by decide +kernel
theorem d_M_pack_29 : decode c_M_pack 29 = .ok (.iload 4, 2) := by decide +kernel
theorem d_M_pack_31 : decode c_M_pack 31 = .ok (.iconst 1, 1) := by decide +kernel
theorem d_M_pack_32 : decode c_M_pack 32 = .ok (.if_icmp .lt 9, 3) := by decide +kernel
theorem d_M_pack_35 : decode c_M_pack 35 = .ok (.iload 4, 2) := by decide +kernel
theorem d_M_pack_37 : decode c_M_pack 37 = .ok (.iconst 4, 1) := by decide +kernel
theorem d_M_pack_38 : decode c_M_pack 38 = .ok (.if_icmp .le 5, 3) := by decide +kernel
theorem d_M_pack_41 : decode c_M_pack 41 = .ok (.iconst (-1), 1) := by decide +kernel
theorem d_M_pack_42 : decode c_M_pack 42 = .ok (.ireturn, 1) := by decide +kernel
theorem d_M_pack_43 : decode c_M_pack 43 = .ok (.aload_n 0, 1) := by decide +kernel
theorem d_M_pack_44 : decode c_M_pack 44 = .ok (.iload_n 1, 1) := by decide +kernel
theorem d_M_pack_45 : decode c_M_pack 45 = .ok (.putfield 109, 3) := by decide +kernel
theorem d_M_pack_48 : decode c_M_pack 48 = .ok (.aload_n 0, 1) := by decide +kernel
theorem d_M_pack_49 : decode c_M_pack 49 = .ok (.iload_n 2, 1) := by decide +kernel
theorem d_M_pack_50 : decode c_M_pack 50 = .ok (.putfield 118, 3) := by decide +kernel
theorem d_M_pack_53 : decode c_M_pack 53 = .ok (.aload_n 0, 1) := by decide +kernel
theorem d_M_pack_54 : decode c_M_pack 54 = .ok (.iload_n 3, 1) := by decide +kernel
theorem d_M_pack_55 : decode c_M_pack 55 = .ok (.putfield 92, 3) := by decide +kernel
theorem d_M_pack_58 : decode c_M_pack 58 = .ok (.aload_n 0, 1) := by decide +kernel
theorem d_M_pack_59 : decode c_M_pack 59 = .ok (.iload 4, 2) := by decide +kernel
theorem d_M_pack_61 : decode c_M_pack 61 = .ok (.putfield 86, 3) := by decide +kernel
theorem d_M_pack_64 : decode c_M_pack 64 = .ok (.aload_n 0, 1) := by decide +kernel
theorem d_M_pack_65 : decode c_M_pack 65 = .ok (.iconst 0, 1) := by decide +kernel
theorem d_M_pack_66 : decode c_M_pack 66 = .ok (.putfield 72, 3) := by decide +kernel
theorem d_M_pack_69 : decode c_M_pack 69 = .ok (.iconst 0, 1) := by decide +kernel
theorem d_M_pack_70 : decode c_M_pack 70 = .ok (.istore 5, 2) := by decide +kernel
theorem d_M_pack_72 : decode c_M_pack 72 = .ok (.iload 5, 2) := by decide +kernel
theorem d_M_pack_74 : decode c_M_pack 74 = .ok (.aload_n 0, 1) := by decide +kernel
theorem d_M_pack_75 : decode c_M_pack 75 = .ok (.getfield 56, 3) := by decide +kernel
theorem d_M_pack_78 : decode c_M_pack 78 = .ok (.if_icmp .ge 203, 3) := by decide +kernel
theorem d_M_pack_81 : decode c_M_pack 81 = .ok (.aload_n 0, 1) := by decide +kernel
theorem d_M_pack_82 : decode c_M_pack 82 = .ok (.getfield 16, 3) := by decide +kernel
theorem d_M_pack_85 : decode c_M_pack 85 = .ok (.iload 5, 2) := by decide +kernel
theorem d_M_pack_87 : decode c_M_pack 87 = .ok (.aload_n 0, 1) := by decide +kernel
theorem d_M_pack_88 : decode c_M_pack 88 = .ok (.getfield 72, 3) := by decide +kernel
theorem d_M_pack_91 : decode c_M_pack 91 = .ok (.iastore, 1) := by decide +kernel
theorem d_M_pack_92 : decode c_M_pack 92 = .ok (.iconst 0, 1) := by decide +kernel
theorem d_M_pack_93 : decode c_M_pack 93 = .ok (.istore 6, 2) := by decide +kernel
theorem d_M_pack_95 : decode c_M_pack 95 = .ok (.ldc 121, 2) := by decide +kernel
theorem d_M_pack_97 : decode c_M_pack 97 = .ok (.istore 7, 2) := by decide +kernel
theorem d_M_pack_99 : decode c_M_pack 99 = .ok (.iconst 0, 1) := by decide +kernel
theorem d_M_pack_100 : decode c_M_pack 100 = .ok (.istore 8, 2) := by decide +kernel
theorem d_M_pack_102 : decode c_M_pack 102 = .ok (.iload 8, 2) := by decide +kernel
theorem d_M_pack_104 : decode c_M_pack 104 = .ok (.aload_n 0, 1) := by decide +kernel
theorem d_M_pack_105 : decode c_M_pack 105 = .ok (.getfield 109, 3) := by decide +kernel
theorem d_M_pack_108 : decode c_M_pack 108 = .ok (.if_icmp .gt 131, 3) := by decide +kernel
theorem d_M_pack_111 : decode c_M_pack 111 = .ok (.iload 8, 2) := by decide +kernel
theorem d_M_pack_113 : decode c_M_pack 113 = .ok (.iload 5, 2) := by decide +kernel
theorem d_M_pack_115 : decode c_M_pack 115 = .ok (.if_icmp .gt 124, 3) := by decide +kernel
theorem d_M_pack_118 : decode c_M_pack 118 = .ok (.iload 8, 2) := by decide +kernel
theorem d_M_pack_120 : decode c_M_pack 120 = .ok (.ifCond .eq 13, 3) := by decide +kernel
theorem d_M_pack_123 : decode c_M_pack 123 = .ok (.aload_n 0, 1) := by decide +kernel
theorem d_M_pack_124 : decode c_M_pack 124 = .ok (.getfield 7, 3) := by decide +kernel
theorem d_M_pack_127 : decode c_M_pack 127 = .ok (.iload 5, 2) := by decide +kernel
theorem d_M_pack_129 : decode c_M_pack 129 = .ok (.iaload, 1) := by decide +kernel
theorem d_M_pack_130 : decode c_M_pack 130 = .ok (.ifCond .eq 109, 3) := by decide +kernel
theorem d_M_pack_133 : decode c_M_pack 133 = .ok (.iload 8, 2) := by decide +kernel
theorem d_M_pack_135 : decode c_M_pack 135 = .ok (.ifCond .eq 33, 3) := by decide +kernel
theorem d_M_pack_138 : decode c_M_pack 138 = .ok (.aload_n 0, 1) := by decide +kernel
theorem d_M_pack_139 : decode c_M_pack 139 = .ok (.getfield 7, 3) := by decide +kernel
theorem d_M_pack_142 : decode c_M_pack 142 = .ok (.iload 5, 2) := by decide +kernel
theorem d_M_pack_144 : decode c_M_pack 144 = .ok (.iload 8, 2) := by decide +kernel
theorem d_M_pack_146 : decode c_M_pack 146 = .ok (.isub, 1) := by decide +kernel
theorem d_M_pack_147 : decode c_M_pack 147 = .ok (.iaload, 1) := by decide +kernel
theorem d_M_pack_148 : decode c_M_pack 148 = .ok (.ifCond .eq 85, 3) := by decide +kernel
theorem d_M_pack_151 : decode c_M_pack 151 = .ok (.aload_n 0, 1) := by decide +kernel
theorem d_M_pack_152 : decode c_M_pack 152 = .ok (.getfield 19, 3) := by decide +kernel
theorem d_M_pack_155 : decode c_M_pack 155 = .ok (.iload 5, 2) := by decide +kernel
theorem d_M_pack_157 : decode c_M_pack 157 = .ok (.iload 8, 2) := by decide +kernel
theorem d_M_pack_159 : decode c_M_pack 159 = .ok (.isub, 1) := by decide +kernel
theorem d_M_pack_160 : decode c_M_pack 160 = .ok (.iaload, 1) := by decide +kernel
theorem d_M_pack_161 : decode c_M_pack 161 = .ok (.aload_n 0, 1) := by decide +kernel
theorem d_M_pack_162 : decode c_M_pack 162 = .ok (.getfield 118, 3) := by decide +kernel
theorem d_M_pack_165 : decode c_M_pack 165 = .ok (.if_icmp .ge 68, 3) := by decide +kernel
theorem d_M_pack_168 : decode c_M_pack 168 = .ok (.aload_n 0, 1) := by decide +kernel
theorem d_M_pack_169 : decode c_M_pack 169 = .ok (.iload 5, 2) := by decide +kernel
theorem d_M_pack_171 : decode c_M_pack 171 = .ok (.iload 8, 2) := by decide +kernel
theorem d_M_pack_173 : decode c_M_pack 173 = .ok (.invokevirtual 122, 3) := by decide +kernel
theorem d_M_pack_176 : decode c_M_pack 176 = .ok (.aload_n 0, 1) := by decide +kernel
theorem d_M_pack_177 : decode c_M_pack 177 = .ok (.getfield 72, 3) := by decide +kernel
theorem d_M_pack_180 : decode c_M_pack 180 = .ok (.aload_n 0, 1) := by decide +kernel
theorem d_M_pack_181 : decode c_M_pack 181 = .ok (.getfield 16, 3) := by decide +kernel
theorem d_M_pack_184 : decode c_M_pack 184 = .ok (.iload 5, 2) := by decide +kernel
theorem d_M_pack_186 : decode c_M_pack 186 = .ok (.iaload, 1) := by decide +kernel
theorem d_M_pack_187 : decode c_M_pack 187 = .ok (.isub, 1) := by decide +kernel
theorem d_M_pack_188 : decode c_M_pack 188 = .ok (.istore 9, 2) := by decide +kernel
theorem d_M_pack_190 : decode c_M_pack 190 = .ok (.aload_n 0, 1) := by decide +kernel
theorem d_M_pack_191 : decode c_M_pack 191 = .ok (.aload_n 0, 1) := by decide +kernel
theorem d_M_pack_192 : decode c_M_pack 192 = .ok (.getfield 16, 3) := by decide +kernel
theorem d_M_pack_195 : decode c_M_pack 195 = .ok (.iload 5, 2) := by decide +kernel
theorem d_M_pack_197 : decode c_M_pack 197 = .ok (.iaload, 1) := by decide +kernel
theorem d_M_pack_198 : decode c_M_pack 198 = .ok (.putfield 72, 3) := by decide +kernel
theorem d_M_pack_201 : decode c_M_pack 201 = .ok (.iload 9, 2) := by decide +kernel
theorem d_M_pack_203 : decode c_M_pack 203 = .ok (.iload 7, 2) := by decide +kernel
theorem d_M_pack_205 : decode c_M_pack 205 = .ok (.if_icmp .ge 8, 3) := by decide +kernel
theorem d_M_pack_208 : decode c_M_pack 208 = .ok (.iload 8, 2) := by decide +kernel
theorem d_M_pack_210 : decode c_M_pack 210 = .ok (.goto 5, 3) := by decide +kernel
theorem d_M_pack_213 : decode c_M_pack 213 = .ok (.iload 6, 2) := by decide +kernel
theorem d_M_pack_215 : decode c_M_pack 215 = .ok (.istore 6, 2) := by decide +kernel
theorem d_M_pack_217 : decode c_M_pack 217 = .ok (.iload 9, 2) := by decide +kernel
theorem d_M_pack_219 : decode c_M_pack 219 = .ok (.iload 7, 2) := by decide +kernel
theorem d_M_pack_221 : decode c_M_pack 221 = .ok (.if_icmp .ge 8, 3) := by decide +kernel
theorem d_M_pack_224 : decode c_M_pack 224 = .ok (.iload 9, 2) := by decide +kernel
theorem d_M_pack_226 : decode c_M_pack 226 = .ok (.goto 5, 3) := by decide +kernel
theorem d_M_pack_229 : decode c_M_pack 229 = .ok (.iload 7, 2) := by decide +kernel
theorem d_M_pack_231 : decode c_M_pack 231 = .ok (.istore 7, 2) := by decide +kernel
theorem d_M_pack_233 : decode c_M_pack 233 = .ok (.iinc 8 1, 3) := by decide +kernel
theorem d_M_pack_236 : decode c_M_pack 236 = .ok (.goto (-134), 3) := by decide +kernel
theorem d_M_pack_239 : decode c_M_pack 239 = .ok (.aload_n 0, 1) := by decide +kernel
theorem d_M_pack_240 : decode c_M_pack 240 = .ok (.iload 5, 2) := by decide +kernel
theorem d_M_pack_242 : decode c_M_pack 242 = .ok (.iload 6, 2) := by decide +kernel
theorem d_M_pack_244 : decode c_M_pack 244 = .ok (.invokevirtual 122, 3) := by decide +kernel
theorem d_M_pack_247 : decode c_M_pack 247 = .ok (.aload_n 0, 1) := by decide +kernel
theorem d_M_pack_248 : decode c_M_pack 248 = .ok (.getfield 19, 3) := by decide +kernel
theorem d_M_pack_251 : decode c_M_pack 251 = .ok (.iload 5, 2) := by decide +kernel
theorem d_M_pack_253 : decode c_M_pack 253 = .ok (.iload 6, 2) := by decide +kernel
theorem d_M_pack_255 : decode c_M_pack 255 = .ok (.ifCond .le 18, 3) := by decide +kernel
theorem d_M_pack_258 : decode c_M_pack 258 = .ok (.iconst 1, 1) := by decide +kernel
theorem d_M_pack_259 : decode c_M_pack 259 = .ok (.aload_n 0, 1) := by decide +kernel
theorem d_M_pack_260 : decode c_M_pack 260 = .ok (.getfield 19, 3) := by decide +kernel
theorem d_M_pack_263 : decode c_M_pack 263 = .ok (.iload 5, 2) := by decide +kernel
theorem d_M_pack_265 : decode c_M_pack 265 = .ok (.iload 6, 2) := by decide +kernel
theorem d_M_pack_267 : decode c_M_pack 267 = .ok (.isub, 1) := by decide +kernel
theorem d_M_pack_268 : decode c_M_pack 268 = .ok (.iaload, 1) := by decide +kernel
theorem d_M_pack_269 : decode c_M_pack 269 = .ok (.iadd, 1) := by decide +kernel
theorem d_M_pack_270 : decode c_M_pack 270 = .ok (.goto 4, 3) := by decide +kernel
theorem d_M_pack_273 : decode c_M_pack 273 = .ok (.iconst 0, 1) := by decide +kernel
theorem d_M_pack_274 : decode c_M_pack 274 = .ok (.iastore, 1) := by decide +kernel
theorem d_M_pack_275 : decode c_M_pack 275 = .ok (.iinc 5 1, 3) := by decide +kernel
theorem d_M_pack_278 : decode c_M_pack 278 = .ok (.goto (-206), 3) := by decide +kernel
theorem d_M_pack_281 : decode c_M_pack 281 = .ok (.aload_n 0, 1) := by decide +kernel
theorem d_M_pack_282 : decode c_M_pack 282 = .ok (.getfield 16, 3) := by decide +kernel
theorem d_M_pack_285 : decode c_M_pack 285 = .ok (.aload_n 0, 1) := by decide +kernel
theorem d_M_pack_286 : decode c_M_pack 286 = .ok (.getfield 56, 3) := by decide +kernel
theorem d_M_pack_289 : decode c_M_pack 289 = .ok (.aload_n 0, 1) := by decide +kernel
theorem d_M_pack_290 : decode c_M_pack 290 = .ok (.getfield 72, 3) := by decide +kernel
theorem d_M_pack_293 : decode c_M_pack 293 = .ok (.iastore, 1) := by decide +kernel
theorem d_M_pack_294 : decode c_M_pack 294 = .ok (.aload_n 0, 1) := by decide +kernel
theorem d_M_pack_295 : decode c_M_pack 295 = .ok (.getfield 72, 3) := by decide +kernel
theorem d_M_pack_298 : decode c_M_pack 298 = .ok (.ireturn, 1) := by decide +kernel
theorem d_M_offset_0 : decode c_M_offset 0 = .ok (.iload_n 1, 1) := by decide +kernel
theorem d_M_offset_1 : decode c_M_offset 1 = .ok (.ifCond .lt 20, 3) := by decide +kernel
theorem d_M_offset_4 : decode c_M_offset 4 = .ok (.iload_n 1, 1) := by decide +kernel
theorem d_M_offset_5 : decode c_M_offset 5 = .ok (.aload_n 0, 1) := by decide +kernel
theorem d_M_offset_6 : decode c_M_offset 6 = .ok (.getfield 56, 3) := by decide +kernel
theorem d_M_offset_9 : decode c_M_offset 9 = .ok (.if_icmp .gt 12, 3) := by decide +kernel
theorem d_M_offset_12 : decode c_M_offset 12 = .ok (.aload_n 0, 1) := by decide +kernel
theorem d_M_offset_13 : decode c_M_offset 13 = .ok (.getfield 16, 3) := by decide +kernel
theorem d_M_offset_16 : decode c_M_offset 16 = .ok (.iload_n 1, 1) := by decide +kernel
theorem d_M_offset_17 : decode c_M_offset 17 = .ok (.iaload, 1) := by decide +kernel
theorem d_M_offset_18 : decode c_M_offset 18 = .ok (.goto 4, 3) := by decide +kernel
theorem d_M_offset_21 : decode c_M_offset 21 = .ok (.iconst (-1), 1) := by decide +kernel
theorem d_M_offset_22 : decode c_M_offset 22 = .ok (.ireturn, 1) := by decide +kernel
theorem d_M_bit_0 : decode c_M_bit 0 = .ok (.iload_n 1, 1) := by decide +kernel
theorem d_M_bit_1 : decode c_M_bit 1 = .ok (.ifCond .lt 20, 3) := by decide +kernel
theorem d_M_bit_4 : decode c_M_bit 4 = .ok (.iload_n 1, 1) := by decide +kernel
theorem d_M_bit_5 : decode c_M_bit 5 = .ok (.aload_n 0, 1) := by decide +kernel
theorem d_M_bit_6 : decode c_M_bit 6 = .ok (.getfield 72, 3) := by decide +kernel
theorem d_M_bit_9 : decode c_M_bit 9 = .ok (.if_icmp .ge 12, 3) := by decide +kernel
theorem d_M_bit_12 : decode c_M_bit 12 = .ok (.aload_n 0, 1) := by decide +kernel
theorem d_M_bit_13 : decode c_M_bit 13 = .ok (.getfield 13, 3) := by decide +kernel
theorem d_M_bit_16 : decode c_M_bit 16 = .ok (.iload_n 1, 1) := by decide +kernel
theorem d_M_bit_17 : decode c_M_bit 17 = .ok (.iaload, 1) := by decide +kernel
theorem d_M_bit_18 : decode c_M_bit 18 = .ok (.goto 4, 3) := by decide +kernel
theorem d_M_bit_21 : decode c_M_bit 21 = .ok (.iconst (-1), 1) := by decide +kernel
theorem d_M_bit_22 : decode c_M_bit 22 = .ok (.ireturn, 1) := by decide +kernel
theorem d_M_flip_0 : decode c_M_flip 0 = .ok (.iload_n 1, 1) := by decide +kernel
theorem d_M_flip_1 : decode c_M_flip 1 = .ok (.ifCond .lt 11, 3) := by decide +kernel
theorem d_M_flip_4 : decode c_M_flip 4 = .ok (.iload_n 1, 1) := by decide +kernel
theorem d_M_flip_5 : decode c_M_flip 5 = .ok (.aload_n 0, 1) := by decide +kernel
theorem d_M_flip_6 : decode c_M_flip 6 = .ok (.getfield 72, 3) := by decide +kernel
theorem d_M_flip_9 : decode c_M_flip 9 = .ok (.if_icmp .lt 5, 3) := by decide +kernel
theorem d_M_flip_12 : decode c_M_flip 12 = .ok (.iconst 0, 1) := by decide +kernel
theorem d_M_flip_13 : decode c_M_flip 13 = .ok (.ireturn, 1) := by decide +kernel
theorem d_M_flip_14 : decode c_M_flip 14 = .ok (.aload_n 0, 1) := by decide +kernel
theorem d_M_flip_15 : decode c_M_flip 15 = .ok (.getfield 13, 3) := by decide +kernel
theorem d_M_flip_18 : decode c_M_flip 18 = .ok (.iload_n 1, 1) := by decide +kernel
theorem d_M_flip_19 : decode c_M_flip 19 = .ok (.iconst 1, 1) := by decide +kernel
theorem d_M_flip_20 : decode c_M_flip 20 = .ok (.aload_n 0, 1) := by decide +kernel
theorem d_M_flip_21 : decode c_M_flip 21 = .ok (.getfield 13, 3) := by decide +kernel
theorem d_M_flip_24 : decode c_M_flip 24 = .ok (.iload_n 1, 1) := by decide +kernel
theorem d_M_flip_25 : decode c_M_flip 25 = .ok (.iaload, 1) := by decide +kernel
theorem d_M_flip_26 : decode c_M_flip 26 = .ok (.isub, 1) := by decide +kernel
theorem d_M_flip_27 : decode c_M_flip 27 = .ok (.iastore, 1) := by decide +kernel
theorem d_M_flip_28 : decode c_M_flip 28 = .ok (.iconst 1, 1) := by decide +kernel
theorem d_M_flip_29 : decode c_M_flip 29 = .ok (.ireturn, 1) := by decide +kernel
theorem d_M_next_0 : decode c_M_next 0 = .ok (.aload_n 0, 1) := by decide +kernel
theorem d_M_next_1 : decode c_M_next 1 = .ok (.getfield 125, 3) := by decide +kernel
theorem d_M_next_4 : decode c_M_next 4 = .ok (.ifCond .gt 14, 3) := by decide +kernel
theorem d_M_next_7 : decode c_M_next 7 = .ok (.aload_n 0, 1) := by decide +kernel
theorem d_M_next_8 : decode c_M_next 8 = .ok (.getfield 128, 3) := by decide +kernel
theorem d_M_next_11 : decode c_M_next 11 = .ok (.aload_n 0, 1) := by decide +kernel
theorem d_M_next_12 : decode c_M_next 12 = .ok (.getfield 72, 3) := by decide +kernel
theorem d_M_next_15 : decode c_M_next 15 = .ok (.if_icmp .lt 24, 3) := by decide +kernel
theorem d_M_next_18 : decode c_M_next 18 = .ok (.aload_n 0, 1) := by decide +kernel
theorem d_M_next_19 : decode c_M_next 19 = .ok (.aload_n 0, 1) := by decide +kernel
theorem d_M_next_20 : decode c_M_next 20 = .ok (.getfield 125, 3) := by decide +kernel
theorem d_M_next_23 : decode c_M_next 23 = .ok (.ifCond .le 10, 3) := by decide +kernel
theorem d_M_next_26 : decode c_M_next 26 = .ok (.aload_n 0, 1) := by decide +kernel
theorem d_M_next_27 : decode c_M_next 27 = .ok (.getfield 125, 3) := by decide +kernel
theorem d_M_next_30 : decode c_M_next 30 = .ok (.goto 4, 3) := by decide +kernel
theorem d_M_next_33 : decode c_M_next 33 = .ok (.iconst 1, 1) := by decide +kernel
theorem d_M_next_34 : decode c_M_next 34 = .ok (.putfield 125, 3) := by decide +kernel
theorem d_M_next_37 : decode c_M_next 37 = .ok (.iconst 0, 1) := by decide +kernel
theorem d_M_next_38 : decode c_M_next 38 = .ok (.ireturn, 1) := by decide +kernel
theorem d_M_next_39 : decode c_M_next 39 = .ok (.aload_n 0, 1) := by decide +kernel
theorem d_M_next_40 : decode c_M_next 40 = .ok (.dup, 1) := by decide +kernel
theorem d_M_next_41 : decode c_M_next 41 = .ok (.getfield 128, 3) := by decide +kernel
theorem d_M_next_44 : decode c_M_next 44 = .ok (.iconst 1, 1) := by decide +kernel
theorem d_M_next_45 : decode c_M_next 45 = .ok (.iadd, 1) := by decide +kernel
theorem d_M_next_46 : decode c_M_next 46 = .ok (.putfield 128, 3) := by decide +kernel
theorem d_M_next_49 : decode c_M_next 49 = .ok (.aload_n 0, 1) := by decide +kernel
theorem d_M_next_50 : decode c_M_next 50 = .ok (.getfield 13, 3) := by decide +kernel
theorem d_M_next_53 : decode c_M_next 53 = .ok (.aload_n 0, 1) := by decide +kernel
theorem d_M_next_54 : decode c_M_next 54 = .ok (.getfield 128, 3) := by decide +kernel
theorem d_M_next_57 : decode c_M_next 57 = .ok (.iconst 1, 1) := by decide +kernel
theorem d_M_next_58 : decode c_M_next 58 = .ok (.isub, 1) := by decide +kernel
theorem d_M_next_59 : decode c_M_next 59 = .ok (.iaload, 1) := by decide +kernel
theorem d_M_next_60 : decode c_M_next 60 = .ok (.ireturn, 1) := by decide +kernel
theorem d_M_nextUnary_0 : decode c_M_nextUnary 0 = .ok (.iconst 0, 1) := by decide +kernel
theorem d_M_nextUnary_1 : decode c_M_nextUnary 1 = .ok (.istore_n 1, 1) := by decide +kernel
theorem d_M_nextUnary_2 : decode c_M_nextUnary 2 = .ok (.aload_n 0, 1) := by decide +kernel
theorem d_M_nextUnary_3 : decode c_M_nextUnary 3 = .ok (.getfield 125, 3) := by decide +kernel
theorem d_M_nextUnary_6 : decode c_M_nextUnary 6 = .ok (.ifCond .ne 34, 3) := by decide +kernel
theorem d_M_nextUnary_9 : decode c_M_nextUnary 9 = .ok (.aload_n 0, 1) := by decide +kernel
theorem d_M_nextUnary_10 : decode c_M_nextUnary 10 = .ok (.invokevirtual 131, 3) := by decide +kernel
theorem d_M_nextUnary_13 : decode c_M_nextUnary 13 = .ok (.ifCond .ne 27, 3) := by decide +kernel
theorem d_M_nextUnary_16 : decode c_M_nextUnary 16 = .ok (.iinc 1 1, 3) := by decide +kernel
theorem d_M_nextUnary_19 : decode c_M_nextUnary 19 = .ok (.aload_n 0, 1) := by decide +kernel
theorem d_M_nextUnary_20 : decode c_M_nextUnary 20 = .ok (.getfield 125, 3) := by decide +kernel
theorem d_M_nextUnary_23 : decode c_M_nextUnary 23 = .ok (.ifCond .ne (-21), 3) := by decide +kernel
theorem d_M_nextUnary_26 : decode c_M_nextUnary 26 = .ok (.iload_n 1, 1) := by decide +kernel
theorem d_M_nextUnary_27 : decode c_M_nextUnary 27 = .ok (.bipush 7, 2) := by decide +kernel
theorem d_M_nextUnary_29 : decode c_M_nextUnary 29 = .ok (.if_icmp .ne (-27), 3) := by decide +kernel
theorem d_M_nextUnary_32 : decode c_M_nextUnary 32 = .ok (.aload_n 0, 1) := by decide +kernel
theorem d_M_nextUnary_33 : decode c_M_nextUnary 33 = .ok (.iconst 2, 1) := by decide +kernel
theorem d_M_nextUnary_34 : decode c_M_nextUnary 34 = .ok (.putfield 125, 3) := by decide +kernel
theorem d_M_nextUnary_37 : decode c_M_nextUnary 37 = .ok (.goto (-35), 3) := by decide +kernel
theorem d_M_nextUnary_40 : decode c_M_nextUnary 40 = .ok (.aload_n 0, 1) := by decide +kernel
theorem d_M_nextUnary_41 : decode c_M_nextUnary 41 = .ok (.getfield 125, 3) := by decide +kernel
theorem d_M_nextUnary_44 : decode c_M_nextUnary 44 = .ok (.ifCond .le 7, 3) := by decide +kernel
theorem d_M_nextUnary_47 : decode c_M_nextUnary 47 = .ok (.iconst 0, 1) := by decide +kernel
theorem d_M_nextUnary_48 : decode c_M_nextUnary 48 = .ok (.goto 4, 3) := by decide +kernel
theorem d_M_nextUnary_51 : decode c_M_nextUnary 51 = .ok (.iload_n 1, 1) := by decide +kernel
theorem d_M_nextUnary_52 : decode c_M_nextUnary 52 = .ok (.ireturn, 1) := by decide +kernel
theorem d_M_nextNumber_0 : decode c_M_nextNumber 0 = .ok (.iconst 0, 1) := by decide +kernel
theorem d_M_nextNumber_1 : decode c_M_nextNumber 1 = .ok (.istore_n 2, 1) := by decide +kernel
theorem d_M_nextNumber_2 : decode c_M_nextNumber 2 = .ok (.iconst 0, 1) := by decide +kernel
theorem d_M_nextNumber_3 : decode c_M_nextNumber 3 = .ok (.istore_n 3, 1) := by decide +kernel
theorem d_M_nextNumber_4 : decode c_M_nextNumber 4 = .ok (.iload_n 3, 1) := by decide +kernel
theorem d_M_nextNumber_5 : decode c_M_nextNumber 5 = .ok (.iload_n 1, 1) := by decide +kernel
theorem d_M_nextNumber_6 : decode c_M_nextNumber 6 = .ok (.if_icmp .ge 18, 3) := by decide +kernel
theorem d_M_nextNumber_9 : decode c_M_nextNumber 9 = .ok (.iconst 2, 1) := by decide +kernel
theorem d_M_nextNumber_10 : decode c_M_nextNumber 10 = .ok (.iload_n 2, 1) := by decide +kernel
theorem d_M_nextNumber_11 : decode c_M_nextNumber 11 = .ok (.imul, 1) := by decide +kernel
end
section
theorem d_M_nextNumber_12 : decode c_M_nextNumber 12 = .ok (.aload_n 0, 1) := by decide +kernel
theorem d_M_nextNumber_13 : decode c_M_nextNumber 13 = .ok (.invokevirtual 131, 3) := by decide +kernel
theorem d_M_nextNumber_16 : decode c_M_nextNumber 16 = .ok (.iadd, 1) := by decide +kernel
theorem d_M_nextNumber_17 : decode c_M_nextNumber 17 = .ok (.istore_n 2, 1) := by decide +kernel
theorem d_M_nextNumber_18 : decode c_M_nextNumber 18 = .ok (.iinc 3 1, 3) := by decide +kernel
theorem d_M_nextNumber_21 : decode c_M_nextNumber 21 = .ok (.goto (-17), 3) := by decide +kernel
theorem d_M_nextNumber_24 : decode c_M_nextNumber 24 = .ok (.iload_n 2, 1) := by decide +kernel
theorem d_M_nextNumber_25 : decode c_M_nextNumber 25 = .ok (.ireturn, 1) := by decide +kernel
theorem d_M_nextGamma_0 : decode c_M_nextGamma 0 = .ok (.aload_n 0, 1) := by decide +kernel
theorem d_M_nextGamma_1 : decode c_M_nextGamma 1 = .ok (.invokevirtual 135, 3) := by decide +kernel
theorem d_M_nextGamma_4 : decode c_M_nextGamma 4 = .ok (.istore_n 1, 1) := by decide +kernel
theorem d_M_nextGamma_5 : decode c_M_nextGamma 5 = .ok (.aload_n 0, 1) := by decide +kernel
theorem d_M_nextGamma_6 : decode c_M_nextGamma 6 = .ok (.iload_n 1, 1) := by decide +kernel
theorem d_M_nextGamma_7 : decode c_M_nextGamma 7 = .ok (.invokevirtual 138, 3) := by decide +kernel
theorem d_M_nextGamma_10 : decode c_M_nextGamma 10 = .ok (.istore_n 2, 1) := by decide +kernel
theorem d_M_nextGamma_11 : decode c_M_nextGamma 11 = .ok (.iconst 1, 1) := by decide +kernel
theorem d_M_nextGamma_12 : decode c_M_nextGamma 12 = .ok (.iload_n 1, 1) := by decide +kernel
theorem d_M_nextGamma_13 : decode c_M_nextGamma 13 = .ok (.ishl, 1) := by decide +kernel
theorem d_M_nextGamma_14 : decode c_M_nextGamma 14 = .ok (.iconst 1, 1) := by decide +kernel
theorem d_M_nextGamma_15 : decode c_M_nextGamma 15 = .ok (.isub, 1) := by decide +kernel
theorem d_M_nextGamma_16 : decode c_M_nextGamma 16 = .ok (.iload_n 2, 1) := by decide +kernel
theorem d_M_nextGamma_17 : decode c_M_nextGamma 17 = .ok (.iadd, 1) := by decide +kernel
theorem d_M_nextGamma_18 : decode c_M_nextGamma 18 = .ok (.ireturn, 1) := by decide +kernel
theorem d_M_nextZeta_0 : decode c_M_nextZeta 0 = .ok (.aload_n 0, 1) := by decide +kernel
theorem d_M_nextZeta_1 : decode c_M_nextZeta 1 = .ok (.invokevirtual 135, 3) := by decide +kernel
theorem d_M_nextZeta_4 : decode c_M_nextZeta 4 = .ok (.istore_n 1, 1) := by decide +kernel
theorem d_M_nextZeta_5 : decode c_M_nextZeta 5 = .ok (.aload_n 0, 1) := by decide +kernel
theorem d_M_nextZeta_6 : decode c_M_nextZeta 6 = .ok (.iload_n 1, 1) := by decide +kernel
theorem d_M_nextZeta_7 : decode c_M_nextZeta 7 = .ok (.aload_n 0, 1) := by decide +kernel
theorem d_M_nextZeta_8 : decode c_M_nextZeta 8 = .ok (.getfield 86, 3) := by decide +kernel
theorem d_M_nextZeta_11 : decode c_M_nextZeta 11 = .ok (.imul, 1) := by decide +kernel
theorem d_M_nextZeta_12 : decode c_M_nextZeta 12 = .ok (.aload_n 0, 1) := by decide +kernel
theorem d_M_nextZeta_13 : decode c_M_nextZeta 13 = .ok (.getfield 86, 3) := by decide +kernel
theorem d_M_nextZeta_16 : decode c_M_nextZeta 16 = .ok (.iadd, 1) := by decide +kernel
theorem d_M_nextZeta_17 : decode c_M_nextZeta 17 = .ok (.iconst 1, 1) := by decide +kernel
theorem d_M_nextZeta_18 : decode c_M_nextZeta 18 = .ok (.isub, 1) := by decide +kernel
theorem d_M_nextZeta_19 : decode c_M_nextZeta 19 = .ok (.invokevirtual 138, 3) := by decide +kernel
theorem d_M_nextZeta_22 : decode c_M_nextZeta 22 = .ok (.istore_n 2, 1) := by decide +kernel
theorem d_M_nextZeta_23 : decode c_M_nextZeta 23 = .ok (.iconst 1, 1) := by decide +kernel
theorem d_M_nextZeta_24 : decode c_M_nextZeta 24 = .ok (.iload_n 1, 1) := by decide +kernel
theorem d_M_nextZeta_25 : decode c_M_nextZeta 25 = .ok (.aload_n 0, 1) := by decide +kernel
theorem d_M_nextZeta_26 : decode c_M_nextZeta 26 = .ok (.getfield 86, 3) := by decide +kernel
theorem d_M_nextZeta_29 : decode c_M_nextZeta 29 = .ok (.imul, 1) := by decide +kernel
theorem d_M_nextZeta_30 : decode c_M_nextZeta 30 = .ok (.ishl, 1) := by decide +kernel
theorem d_M_nextZeta_31 : decode c_M_nextZeta 31 = .ok (.istore_n 3, 1) := by decide +kernel
theorem d_M_nextZeta_32 : decode c_M_nextZeta 32 = .ok (.iload_n 2, 1) := by decide +kernel
theorem d_M_nextZeta_33 : decode c_M_nextZeta 33 = .ok (.iload_n 3, 1) := by decide +kernel
theorem d_M_nextZeta_34 : decode c_M_nextZeta 34 = .ok (.if_icmp .ge 9, 3) := by decide +kernel
theorem d_M_nextZeta_37 : decode c_M_nextZeta 37 = .ok (.iload_n 2, 1) := by decide +kernel
theorem d_M_nextZeta_38 : decode c_M_nextZeta 38 = .ok (.iload_n 3, 1) := by decide +kernel
theorem d_M_nextZeta_39 : decode c_M_nextZeta 39 = .ok (.iadd, 1) := by decide +kernel
theorem d_M_nextZeta_40 : decode c_M_nextZeta 40 = .ok (.iconst 1, 1) := by decide +kernel
theorem d_M_nextZeta_41 : decode c_M_nextZeta 41 = .ok (.isub, 1) := by decide +kernel
theorem d_M_nextZeta_42 : decode c_M_nextZeta 42 = .ok (.ireturn, 1) := by decide +kernel
theorem d_M_nextZeta_43 : decode c_M_nextZeta 43 = .ok (.aload_n 0, 1) := by decide +kernel
theorem d_M_nextZeta_44 : decode c_M_nextZeta 44 = .ok (.invokevirtual 131, 3) := by decide +kernel
theorem d_M_nextZeta_47 : decode c_M_nextZeta 47 = .ok (.istore 4, 2) := by decide +kernel
theorem d_M_nextZeta_49 : decode c_M_nextZeta 49 = .ok (.iconst 2, 1) := by decide +kernel
theorem d_M_nextZeta_50 : decode c_M_nextZeta 50 = .ok (.iload_n 2, 1) := by decide +kernel
theorem d_M_nextZeta_51 : decode c_M_nextZeta 51 = .ok (.imul, 1) := by decide +kernel
theorem d_M_nextZeta_52 : decode c_M_nextZeta 52 = .ok (.iload 4, 2) := by decide +kernel
theorem d_M_nextZeta_54 : decode c_M_nextZeta 54 = .ok (.iadd, 1) := by decide +kernel
theorem d_M_nextZeta_55 : decode c_M_nextZeta 55 = .ok (.iconst 1, 1) := by decide +kernel
theorem d_M_nextZeta_56 : decode c_M_nextZeta 56 = .ok (.isub, 1) := by decide +kernel
theorem d_M_nextZeta_57 : decode c_M_nextZeta 57 = .ok (.ireturn, 1) := by decide +kernel
theorem d_M_take_0 : decode c_M_take 0 = .ok (.aload_n 0, 1) := by decide +kernel
theorem d_M_take_1 : decode c_M_take 1 = .ok (.aload_n 0, 1) := by decide +kernel
theorem d_M_take_2 : decode c_M_take 2 = .ok (.getfield 141, 3) := by decide +kernel
theorem d_M_take_5 : decode c_M_take 5 = .ok (.ifCond .ne 15, 3) := by decide +kernel
theorem d_M_take_8 : decode c_M_take 8 = .ok (.aload_n 0, 1) := by decide +kernel
theorem d_M_take_9 : decode c_M_take 9 = .ok (.getfield 145, 3) := by decide +kernel
theorem d_M_take_12 : decode c_M_take 12 = .ok (.iload_n 1, 1) := by decide +kernel
theorem d_M_take_13 : decode c_M_take 13 = .ok (.ishr, 1) := by decide +kernel
theorem d_M_take_14 : decode c_M_take 14 = .ok (.iconst 1, 1) := by decide +kernel
theorem d_M_take_15 : decode c_M_take 15 = .ok (.iand, 1) := by decide +kernel
theorem d_M_take_16 : decode c_M_take 16 = .ok (.iconst 1, 1) := by decide +kernel
theorem d_M_take_17 : decode c_M_take 17 = .ok (.if_icmp .ne 7, 3) := by decide +kernel
theorem d_M_take_20 : decode c_M_take 20 = .ok (.iconst 1, 1) := by decide +kernel
theorem d_M_take_21 : decode c_M_take 21 = .ok (.goto 4, 3) := by decide +kernel
theorem d_M_take_24 : decode c_M_take 24 = .ok (.iconst 0, 1) := by decide +kernel
theorem d_M_take_25 : decode c_M_take 25 = .ok (.putfield 141, 3) := by decide +kernel
theorem d_M_take_28 : decode c_M_take 28 = .ok (.aload_n 0, 1) := by decide +kernel
theorem d_M_take_29 : decode c_M_take 29 = .ok (.dup, 1) := by decide +kernel
theorem d_M_take_30 : decode c_M_take 30 = .ok (.getfield 145, 3) := by decide +kernel
theorem d_M_take_33 : decode c_M_take 33 = .ok (.iconst 1, 1) := by decide +kernel
theorem d_M_take_34 : decode c_M_take 34 = .ok (.iload_n 1, 1) := by decide +kernel
theorem d_M_take_35 : decode c_M_take 35 = .ok (.ishl, 1) := by decide +kernel
theorem d_M_take_36 : decode c_M_take 36 = .ok (.ior, 1) := by decide +kernel
theorem d_M_take_37 : decode c_M_take 37 = .ok (.putfield 145, 3) := by decide +kernel
theorem d_M_take_40 : decode c_M_take 40 = .ok (.return_, 1) := by decide +kernel
theorem d_M_readRuns_0 : decode c_M_readRuns 0 = .ok (.aload_n 0, 1) := by decide +kernel
theorem d_M_readRuns_1 : decode c_M_readRuns 1 = .ok (.invokevirtual 148, 3) := by decide +kernel
theorem d_M_readRuns_4 : decode c_M_readRuns 4 = .ok (.istore_n 3, 1) := by decide +kernel
theorem d_M_readRuns_5 : decode c_M_readRuns 5 = .ok (.iconst 0, 1) := by decide +kernel
theorem d_M_readRuns_6 : decode c_M_readRuns 6 = .ok (.istore 4, 2) := by decide +kernel
theorem d_M_readRuns_8 : decode c_M_readRuns 8 = .ok (.iconst 0, 1) := by decide +kernel
theorem d_M_readRuns_9 : decode c_M_readRuns 9 = .ok (.istore 5, 2) := by decide +kernel
theorem d_M_readRuns_11 : decode c_M_readRuns 11 = .ok (.iload 5, 2) := by decide +kernel
theorem d_M_readRuns_13 : decode c_M_readRuns 13 = .ok (.iload_n 3, 1) := by decide +kernel
theorem d_M_readRuns_14 : decode c_M_readRuns 14 = .ok (.if_icmp .ge 89, 3) := by decide +kernel
theorem d_M_readRuns_17 : decode c_M_readRuns 17 = .ok (.aload_n 0, 1) := by decide +kernel
theorem d_M_readRuns_18 : decode c_M_readRuns 18 = .ok (.getfield 125, 3) := by decide +kernel
theorem d_M_readRuns_21 : decode c_M_readRuns 21 = .ok (.ifCond .ne 82, 3) := by decide +kernel
theorem d_M_readRuns_24 : decode c_M_readRuns 24 = .ok (.aload_n 0, 1) := by decide +kernel
theorem d_M_readRuns_25 : decode c_M_readRuns 25 = .ok (.invokevirtual 148, 3) := by decide +kernel
theorem d_M_readRuns_28 : decode c_M_readRuns 28 = .ok (.iload 5, 2) := by decide +kernel
theorem d_M_readRuns_30 : decode c_M_readRuns 30 = .ok (.ifCond .le 7, 3) := by decide +kernel
theorem d_M_readRuns_33 : decode c_M_readRuns 33 = .ok (.iconst 1, 1) := by decide +kernel
theorem d_M_readRuns_34 : decode c_M_readRuns 34 = .ok (.goto 4, 3) := by decide +kernel
theorem d_M_readRuns_37 : decode c_M_readRuns 37 = .ok (.iconst 0, 1) := by decide +kernel
theorem d_M_readRuns_38 : decode c_M_readRuns 38 = .ok (.iadd, 1) := by decide +kernel
theorem d_M_readRuns_39 : decode c_M_readRuns 39 = .ok (.istore 6, 2) := by decide +kernel
theorem d_M_readRuns_41 : decode c_M_readRuns 41 = .ok (.iload 4, 2) := by decide +kernel
theorem d_M_readRuns_43 : decode c_M_readRuns 43 = .ok (.istore 7, 2) := by decide +kernel
theorem d_M_readRuns_45 : decode c_M_readRuns 45 = .ok (.iload 4, 2) := by decide +kernel
theorem d_M_readRuns_47 : decode c_M_readRuns 47 = .ok (.iload 6, 2) := by decide +kernel
theorem d_M_readRuns_49 : decode c_M_readRuns 49 = .ok (.iadd, 1) := by decide +kernel
theorem d_M_readRuns_50 : decode c_M_readRuns 50 = .ok (.istore 4, 2) := by decide +kernel
theorem d_M_readRuns_52 : decode c_M_readRuns 52 = .ok (.aload_n 0, 1) := by decide +kernel
theorem d_M_readRuns_53 : decode c_M_readRuns 53 = .ok (.getfield 125, 3) := by decide +kernel
theorem d_M_readRuns_56 : decode c_M_readRuns 56 = .ok (.ifCond .ne 18, 3) := by decide +kernel
theorem d_M_readRuns_59 : decode c_M_readRuns 59 = .ok (.iload 4, 2) := by decide +kernel
theorem d_M_readRuns_61 : decode c_M_readRuns 61 = .ok (.iload_n 1, 1) := by decide +kernel
theorem d_M_readRuns_62 : decode c_M_readRuns 62 = .ok (.invokestatic 106, 3) := by decide +kernel
theorem d_M_readRuns_65 : decode c_M_readRuns 65 = .ok (.if_icmp .le 9, 3) := by decide +kernel
theorem d_M_readRuns_68 : decode c_M_readRuns 68 = .ok (.aload_n 0, 1) := by decide +kernel
theorem d_M_readRuns_69 : decode c_M_readRuns 69 = .ok (.bipush 6, 2) := by decide +kernel
theorem d_M_readRuns_71 : decode c_M_readRuns 71 = .ok (.putfield 125, 3) := by decide +kernel
theorem d_M_readRuns_74 : decode c_M_readRuns 74 = .ok (.aload_n 0, 1) := by decide +kernel
theorem d_M_readRuns_75 : decode c_M_readRuns 75 = .ok (.getfield 125, 3) := by decide +kernel
theorem d_M_readRuns_78 : decode c_M_readRuns 78 = .ok (.ifCond .ne 19, 3) := by decide +kernel
theorem d_M_readRuns_81 : decode c_M_readRuns 81 = .ok (.iload 5, 2) := by decide +kernel
theorem d_M_readRuns_83 : decode c_M_readRuns 83 = .ok (.iconst 2, 1) := by decide +kernel
theorem d_M_readRuns_84 : decode c_M_readRuns 84 = .ok (.irem, 1) := by decide +kernel
theorem d_M_readRuns_85 : decode c_M_readRuns 85 = .ok (.ifCond .ne 12, 3) := by decide +kernel
theorem d_M_readRuns_88 : decode c_M_readRuns 88 = .ok (.aload_n 0, 1) := by decide +kernel
theorem d_M_readRuns_89 : decode c_M_readRuns 89 = .ok (.iload_n 1, 1) := by decide +kernel
theorem d_M_readRuns_90 : decode c_M_readRuns 90 = .ok (.iload 7, 2) := by decide +kernel
theorem d_M_readRuns_92 : decode c_M_readRuns 92 = .ok (.iload 4, 2) := by decide +kernel
theorem d_M_readRuns_94 : decode c_M_readRuns 94 = .ok (.invokevirtual 151, 3) := by decide +kernel
theorem d_M_readRuns_97 : decode c_M_readRuns 97 = .ok (.iinc 5 1, 3) := by decide +kernel
theorem d_M_readRuns_100 : decode c_M_readRuns 100 = .ok (.goto (-89), 3) := by decide +kernel
theorem d_M_readRuns_103 : decode c_M_readRuns 103 = .ok (.aload_n 0, 1) := by decide +kernel
theorem d_M_readRuns_104 : decode c_M_readRuns 104 = .ok (.getfield 125, 3) := by decide +kernel
theorem d_M_readRuns_107 : decode c_M_readRuns 107 = .ok (.ifCond .ne 18, 3) := by decide +kernel
theorem d_M_readRuns_110 : decode c_M_readRuns 110 = .ok (.iload_n 3, 1) := by decide +kernel
theorem d_M_readRuns_111 : decode c_M_readRuns 111 = .ok (.iconst 2, 1) := by decide +kernel
theorem d_M_readRuns_112 : decode c_M_readRuns 112 = .ok (.irem, 1) := by decide +kernel
theorem d_M_readRuns_113 : decode c_M_readRuns 113 = .ok (.ifCond .ne 12, 3) := by decide +kernel
theorem d_M_readRuns_116 : decode c_M_readRuns 116 = .ok (.aload_n 0, 1) := by decide +kernel
theorem d_M_readRuns_117 : decode c_M_readRuns 117 = .ok (.iload_n 1, 1) := by decide +kernel
theorem d_M_readRuns_118 : decode c_M_readRuns 118 = .ok (.iload 4, 2) := by decide +kernel
theorem d_M_readRuns_120 : decode c_M_readRuns 120 = .ok (.bipush 12, 2) := by decide +kernel
theorem d_M_readRuns_122 : decode c_M_readRuns 122 = .ok (.invokevirtual 151, 3) := by decide +kernel
theorem d_M_readRuns_125 : decode c_M_readRuns 125 = .ok (.aload_n 0, 1) := by decide +kernel
theorem d_M_readRuns_126 : decode c_M_readRuns 126 = .ok (.getfield 125, 3) := by decide +kernel
theorem d_M_readRuns_129 : decode c_M_readRuns 129 = .ok (.ifCond .ne 20, 3) := by decide +kernel
theorem d_M_readRuns_132 : decode c_M_readRuns 132 = .ok (.aload_n 0, 1) := by decide +kernel
theorem d_M_readRuns_133 : decode c_M_readRuns 133 = .ok (.getfield 145, 3) := by decide +kernel
theorem d_M_readRuns_136 : decode c_M_readRuns 136 = .ok (.invokestatic 106, 3) := by decide +kernel
theorem d_M_readRuns_139 : decode c_M_readRuns 139 = .ok (.iload_n 2, 1) := by decide +kernel
theorem d_M_readRuns_140 : decode c_M_readRuns 140 = .ok (.if_icmp .le 9, 3) := by decide +kernel
theorem d_M_readRuns_143 : decode c_M_readRuns 143 = .ok (.aload_n 0, 1) := by decide +kernel
theorem d_M_readRuns_144 : decode c_M_readRuns 144 = .ok (.bipush 6, 2) := by decide +kernel
theorem d_M_readRuns_146 : decode c_M_readRuns 146 = .ok (.putfield 125, 3) := by decide +kernel
theorem d_M_readRuns_149 : decode c_M_readRuns 149 = .ok (.return_, 1) := by decide +kernel
theorem d_M_copy_0 : decode c_M_copy 0 = .ok (.iconst 0, 1) := by decide +kernel
theorem d_M_copy_1 : decode c_M_copy 1 = .ok (.istore 4, 2) := by decide +kernel
theorem d_M_copy_3 : decode c_M_copy 3 = .ok (.iconst 0, 1) := by decide +kernel
theorem d_M_copy_4 : decode c_M_copy 4 = .ok (.istore 5, 2) := by decide +kernel
theorem d_M_copy_6 : decode c_M_copy 6 = .ok (.iload 5, 2) := by decide +kernel
theorem d_M_copy_8 : decode c_M_copy 8 = .ok (.aload_n 0, 1) := by decide +kernel
theorem d_M_copy_9 : decode c_M_copy 9 = .ok (.getfield 56, 3) := by decide +kernel
theorem d_M_copy_12 : decode c_M_copy 12 = .ok (.if_icmp .ge 40, 3) := by decide +kernel
theorem d_M_copy_15 : decode c_M_copy 15 = .ok (.iload_n 1, 1) := by decide +kernel
theorem d_M_copy_16 : decode c_M_copy 16 = .ok (.iload 5, 2) := by decide +kernel
theorem d_M_copy_18 : decode c_M_copy 18 = .ok (.ishr, 1) := by decide +kernel
theorem d_M_copy_19 : decode c_M_copy 19 = .ok (.iconst 1, 1) := by decide +kernel
theorem d_M_copy_20 : decode c_M_copy 20 = .ok (.iand, 1) := by decide +kernel
theorem d_M_copy_21 : decode c_M_copy 21 = .ok (.iconst 1, 1) := by decide +kernel
theorem d_M_copy_22 : decode c_M_copy 22 = .ok (.if_icmp .ne 24, 3) := by decide +kernel
theorem d_M_copy_25 : decode c_M_copy 25 = .ok (.iload 4, 2) := by decide +kernel
theorem d_M_copy_27 : decode c_M_copy 27 = .ok (.iload_n 2, 1) := by decide +kernel
theorem d_M_copy_28 : decode c_M_copy 28 = .ok (.if_icmp .lt 15, 3) := by decide +kernel
theorem d_M_copy_31 : decode c_M_copy 31 = .ok (.iload 4, 2) := by decide +kernel
theorem d_M_copy_33 : decode c_M_copy 33 = .ok (.iload_n 3, 1) := by decide +kernel
theorem d_M_copy_34 : decode c_M_copy 34 = .ok (.if_icmp .ge 9, 3) := by decide +kernel
theorem d_M_copy_37 : decode c_M_copy 37 = .ok (.aload_n 0, 1) := by decide +kernel
theorem d_M_copy_38 : decode c_M_copy 38 = .ok (.iload 5, 2) := by decide +kernel
theorem d_M_copy_40 : decode c_M_copy 40 = .ok (.invokevirtual 155, 3) := by decide +kernel
theorem d_M_copy_43 : decode c_M_copy 43 = .ok (.iinc 4 1, 3) := by decide +kernel
theorem d_M_copy_46 : decode c_M_copy 46 = .ok (.iinc 5 1, 3) := by decide +kernel
theorem d_M_copy_49 : decode c_M_copy 49 = .ok (.goto (-43), 3) := by decide +kernel
theorem d_M_copy_52 : decode c_M_copy 52 = .ok (.return_, 1) := by decide +kernel
theorem d_M_readIntervals_0 : decode c_M_readIntervals 0 = .ok (.aload_n 0, 1) := by decide +kernel
theorem d_M_readIntervals_1 : decode c_M_readIntervals 1 = .ok (.invokevirtual 148, 3) := by decide +kernel
theorem d_M_readIntervals_4 : decode c_M_readIntervals 4 = .ok (.istore_n 3, 1) := by decide +kernel
theorem d_M_readIntervals_5 : decode c_M_readIntervals 5 = .ok (.iconst 0, 1) := by decide +kernel
theorem d_M_readIntervals_6 : decode c_M_readIntervals 6 = .ok (.istore 4, 2) := by decide +kernel
theorem d_M_readIntervals_8 : decode c_M_readIntervals 8 = .ok (.iconst 0, 1) := by decide +kernel
theorem d_M_readIntervals_9 : decode c_M_readIntervals 9 = .ok (.istore 5, 2) := by decide +kernel
theorem d_M_readIntervals_11 : decode c_M_readIntervals 11 = .ok (.iconst 0, 1) := by decide +kernel
theorem d_M_readIntervals_12 : decode c_M_readIntervals 12 = .ok (.istore 6, 2) := by decide +kernel
theorem d_M_readIntervals_14 : decode c_M_readIntervals 14 = .ok (.iload 6, 2) := by decide +kernel
theorem d_M_readIntervals_16 : decode c_M_readIntervals 16 = .ok (.iload_n 3, 1) := by decide +kernel
theorem d_M_readIntervals_17 : decode c_M_readIntervals 17 = .ok (.if_icmp .ge 155, 3) := by decide +kernel
theorem d_M_readIntervals_20 : decode c_M_readIntervals 20 = .ok (.aload_n 0, 1) := by decide +kernel
theorem d_M_readIntervals_21 : decode c_M_readIntervals 21 = .ok (.getfield 125, 3) := by decide +kernel
theorem d_M_readIntervals_24 : decode c_M_readIntervals 24 = .ok (.ifCond .ne 148, 3) := by decide +kernel
theorem d_M_readIntervals_27 : decode c_M_readIntervals 27 = .ok (.aload_n 0, 1) := by decide +kernel
theorem d_M_readIntervals_28 : decode c_M_readIntervals 28 = .ok (.invokevirtual 148, 3) := by decide +kernel
theorem d_M_readIntervals_31 : decode c_M_readIntervals 31 = .ok (.istore 7, 2) := by decide +kernel
theorem d_M_readIntervals_33 : decode c_M_readIntervals 33 = .ok (.iload 6, 2) := by decide +kernel
theorem d_M_readIntervals_35 : decode c_M_readIntervals 35 = .ok (.ifCond .ne 13, 3) := by decide +kernel
theorem d_M_readIntervals_38 : decode c_M_readIntervals 38 = .ok (.iload_n 1, 1) := by decide +kernel
theorem d_M_readIntervals_39 : decode c_M_readIntervals 39 = .ok (.iload 7, 2) := by decide +kernel
theorem d_M_readIntervals_41 : decode c_M_readIntervals 41 = .ok (.invokestatic 158, 3) := by decide +kernel
theorem d_M_readIntervals_44 : decode c_M_readIntervals 44 = .ok (.iadd, 1) := by decide +kernel
theorem d_M_readIntervals_45 : decode c_M_readIntervals 45 = .ok (.goto 10, 3) := by decide +kernel
theorem d_M_readIntervals_48 : decode c_M_readIntervals 48 = .ok (.iload 5, 2) := by decide +kernel
theorem d_M_readIntervals_50 : decode c_M_readIntervals 50 = .ok (.iconst 2, 1) := by decide +kernel
theorem d_M_readIntervals_51 : decode c_M_readIntervals 51 = .ok (.iadd, 1) := by decide +kernel
theorem d_M_readIntervals_52 : decode c_M_readIntervals 52 = .ok (.iload 7, 2) := by decide +kernel
theorem d_M_readIntervals_54 : decode c_M_readIntervals 54 = .ok (.iadd, 1) := by decide +kernel
theorem d_M_readIntervals_55 : decode c_M_readIntervals 55 = .ok (.istore 8, 2) := by decide +kernel
theorem d_M_readIntervals_57 : decode c_M_readIntervals 57 = .ok (.aload_n 0, 1) := by decide +kernel
theorem d_M_readIntervals_58 : decode c_M_readIntervals 58 = .ok (.getfield 125, 3) := by decide +kernel
theorem d_M_readIntervals_61 : decode c_M_readIntervals 61 = .ok (.ifCond .ne 18, 3) := by decide +kernel
theorem d_M_readIntervals_64 : decode c_M_readIntervals 64 = .ok (.aload_n 0, 1) := by decide +kernel
theorem d_M_readIntervals_65 : decode c_M_readIntervals 65 = .ok (.iload 8, 2) := by decide +kernel
theorem d_M_readIntervals_67 : decode c_M_readIntervals 67 = .ok (.invokevirtual 68, 3) := by decide +kernel
theorem d_M_readIntervals_70 : decode c_M_readIntervals 70 = .ok (.ifCond .ne 9, 3) := by decide +kernel
theorem d_M_readIntervals_73 : decode c_M_readIntervals 73 = .ok (.aload_n 0, 1) := by decide +kernel
theorem d_M_readIntervals_74 : decode c_M_readIntervals 74 = .ok (.bipush 7, 2) := by decide +kernel
theorem d_M_readIntervals_76 : decode c_M_readIntervals 76 = .ok (.putfield 125, 3) := by decide +kernel
theorem d_M_readIntervals_79 : decode c_M_readIntervals 79 = .ok (.aload_n 0, 1) := by decide +kernel
theorem d_M_readIntervals_80 : decode c_M_readIntervals 80 = .ok (.invokevirtual 148, 3) := by decide +kernel
theorem d_M_readIntervals_83 : decode c_M_readIntervals 83 = .ok (.aload_n 0, 1) := by decide +kernel
theorem d_M_readIntervals_84 : decode c_M_readIntervals 84 = .ok (.getfield 92, 3) := by decide +kernel
theorem d_M_readIntervals_87 : decode c_M_readIntervals 87 = .ok (.iadd, 1) := by decide +kernel
theorem d_M_readIntervals_88 : decode c_M_readIntervals 88 = .ok (.istore 9, 2) := by decide +kernel
theorem d_M_readIntervals_90 : decode c_M_readIntervals 90 = .ok (.iload 8, 2) := by decide +kernel
theorem d_M_readIntervals_92 : decode c_M_readIntervals 92 = .ok (.iload 9, 2) := by decide +kernel
theorem d_M_readIntervals_94 : decode c_M_readIntervals 94 = .ok (.iadd, 1) := by decide +kernel
theorem d_M_readIntervals_95 : decode c_M_readIntervals 95 = .ok (.iconst 1, 1) := by decide +kernel
theorem d_M_readIntervals_96 : decode c_M_readIntervals 96 = .ok (.isub, 1) := by decide +kernel
theorem d_M_readIntervals_97 : decode c_M_readIntervals 97 = .ok (.istore 5, 2) := by decide +kernel
theorem d_M_readIntervals_99 : decode c_M_readIntervals 99 = .ok (.iload 4, 2) := by decide +kernel
theorem d_M_readIntervals_101 : decode c_M_readIntervals 101 = .ok (.iload 9, 2) := by decide +kernel
theorem d_M_readIntervals_103 : decode c_M_readIntervals 103 = .ok (.iadd, 1) := by decide +kernel
theorem d_M_readIntervals_104 : decode c_M_readIntervals 104 = .ok (.istore 4, 2) := by decide +kernel
theorem d_M_readIntervals_106 : decode c_M_readIntervals 106 = .ok (.aload_n 0, 1) := by decide +kernel
theorem d_M_readIntervals_107 : decode c_M_readIntervals 107 = .ok (.getfield 125, 3) := by decide +kernel
theorem d_M_readIntervals_110 : decode c_M_readIntervals 110 = .ok (.ifCond .ne 26, 3) := by decide +kernel
theorem d_M_readIntervals_113 : decode c_M_readIntervals 113 = .ok (.iload 5, 2) := by decide +kernel
theorem d_M_readIntervals_115 : decode c_M_readIntervals 115 = .ok (.aload_n 0, 1) := by decide +kernel
theorem d_M_readIntervals_116 : decode c_M_readIntervals 116 = .ok (.getfield 56, 3) := by decide +kernel
theorem d_M_readIntervals_119 : decode c_M_readIntervals 119 = .ok (.iconst 1, 1) := by decide +kernel
theorem d_M_readIntervals_120 : decode c_M_readIntervals 120 = .ok (.isub, 1) := by decide +kernel
theorem d_M_readIntervals_121 : decode c_M_readIntervals 121 = .ok (.if_icmp .gt 9, 3) := by decide +kernel
theorem d_M_readIntervals_124 : decode c_M_readIntervals 124 = .ok (.iload 4, 2) := by decide +kernel
theorem d_M_readIntervals_126 : decode c_M_readIntervals 126 = .ok (.iload_n 2, 1) := by decide +kernel
theorem d_M_readIntervals_127 : decode c_M_readIntervals 127 = .ok (.if_icmp .le 9, 3) := by decide +kernel
theorem d_M_readIntervals_130 : decode c_M_readIntervals 130 = .ok (.aload_n 0, 1) := by decide +kernel
theorem d_M_readIntervals_131 : decode c_M_readIntervals 131 = .ok (.bipush 7, 2) := by decide +kernel
theorem d_M_readIntervals_133 : decode c_M_readIntervals 133 = .ok (.putfield 125, 3) := by decide +kernel
theorem d_M_readIntervals_136 : decode c_M_readIntervals 136 = .ok (.iload 8, 2) := by decide +kernel
theorem d_M_readIntervals_138 : decode c_M_readIntervals 138 = .ok (.istore 10, 2) := by decide +kernel
theorem d_M_readIntervals_140 : decode c_M_readIntervals 140 = .ok (.iload 10, 2) := by decide +kernel
theorem d_M_readIntervals_142 : decode c_M_readIntervals 142 = .ok (.iload 5, 2) := by decide +kernel
theorem d_M_readIntervals_144 : decode c_M_readIntervals 144 = .ok (.if_icmp .gt 22, 3) := by decide +kernel
theorem d_M_readIntervals_147 : decode c_M_readIntervals 147 = .ok (.aload_n 0, 1) := by decide +kernel
theorem d_M_readIntervals_148 : decode c_M_readIntervals 148 = .ok (.getfield 125, 3) := by decide +kernel
theorem d_M_readIntervals_151 : decode c_M_readIntervals 151 = .ok (.ifCond .ne 15, 3) := by decide +kernel
theorem d_M_readIntervals_154 : decode c_M_readIntervals 154 = .ok (.aload_n 0, 1) := by decide +kernel
theorem d_M_readIntervals_155 : decode c_M_readIntervals 155 = .ok (.iload 10, 2) := by decide +kernel
theorem d_M_readIntervals_157 : decode c_M_readIntervals 157 = .ok (.invokevirtual 155, 3) := by decide +kernel
theorem d_M_readIntervals_160 : decode c_M_readIntervals 160 = .ok (.iinc 10 1, 3) := by decide +kernel
theorem d_M_readIntervals_163 : decode c_M_readIntervals 163 = .ok (.goto (-23), 3) := by decide +kernel
theorem d_M_readIntervals_166 : decode c_M_readIntervals 166 = .ok (.iinc 6 1, 3) := by decide +kernel
theorem d_M_readIntervals_169 : decode c_M_readIntervals 169 = .ok (.goto (-155), 3) := by decide +kernel
theorem d_M_readIntervals_172 : decode c_M_readIntervals 172 = .ok (.iload 4, 2) := by decide +kernel
theorem d_M_readIntervals_174 : decode c_M_readIntervals 174 = .ok (.ireturn, 1) := by decide +kernel
theorem d_M_readParts_0 : decode c_M_readParts 0 = .ok (.aload_n 0, 1) := by decide +kernel
theorem d_M_readParts_1 : decode c_M_readParts 1 = .ok (.getfield 109, 3) := by decide +kernel
theorem d_M_readParts_4 : decode c_M_readParts 4 = .ok (.ifCond .le 10, 3) := by decide +kernel
theorem d_M_readParts_7 : decode c_M_readParts 7 = .ok (.aload_n 0, 1) := by decide +kernel
theorem d_M_readParts_8 : decode c_M_readParts 8 = .ok (.invokevirtual 135, 3) := by decide +kernel
theorem d_M_readParts_11 : decode c_M_readParts 11 = .ok (.goto 4, 3) := by decide +kernel
theorem d_M_readParts_14 : decode c_M_readParts 14 = .ok (.iconst 0, 1) := by decide +kernel
theorem d_M_readParts_15 : decode c_M_readParts 15 = .ok (.istore_n 3, 1) := by decide +kernel
theorem d_M_readParts_16 : decode c_M_readParts 16 = .ok (.aload_n 0, 1) := by decide +kernel
theorem d_M_readParts_17 : decode c_M_readParts 17 = .ok (.getfield 125, 3) := by decide +kernel
theorem d_M_readParts_20 : decode c_M_readParts 20 = .ok (.ifCond .ne 21, 3) := by decide +kernel
theorem d_M_readParts_23 : decode c_M_readParts 23 = .ok (.iload_n 3, 1) := by decide +kernel
theorem d_M_readParts_24 : decode c_M_readParts 24 = .ok (.aload_n 0, 1) := by decide +kernel
theorem d_M_readParts_25 : decode c_M_readParts 25 = .ok (.getfield 109, 3) := by decide +kernel
theorem d_M_readParts_28 : decode c_M_readParts 28 = .ok (.if_icmp .gt 8, 3) := by decide +kernel
theorem d_M_readParts_31 : decode c_M_readParts 31 = .ok (.iload_n 3, 1) := by decide +kernel
theorem d_M_readParts_32 : decode c_M_readParts 32 = .ok (.iload_n 1, 1) := by decide +kernel
theorem d_M_readParts_33 : decode c_M_readParts 33 = .ok (.if_icmp .le 8, 3) := by decide +kernel
theorem d_M_readParts_36 : decode c_M_readParts 36 = .ok (.aload_n 0, 1) := by decide +kernel
theorem d_M_readParts_37 : decode c_M_readParts 37 = .ok (.iconst 4, 1) := by decide +kernel
theorem d_M_readParts_38 : decode c_M_readParts 38 = .ok (.putfield 125, 3) := by decide +kernel
theorem d_M_readParts_41 : decode c_M_readParts 41 = .ok (.aload_n 0, 1) := by decide +kernel
theorem d_M_readParts_42 : decode c_M_readParts 42 = .ok (.getfield 125, 3) := by decide +kernel
theorem d_M_readParts_45 : decode c_M_readParts 45 = .ok (.ifCond .ne 38, 3) := by decide +kernel
theorem d_M_readParts_48 : decode c_M_readParts 48 = .ok (.iload_n 3, 1) := by decide +kernel
theorem d_M_readParts_49 : decode c_M_readParts 49 = .ok (.ifCond .le 34, 3) := by decide +kernel
theorem d_M_readParts_52 : decode c_M_readParts 52 = .ok (.aload_n 0, 1) := by decide +kernel
theorem d_M_readParts_53 : decode c_M_readParts 53 = .ok (.getfield 28, 3) := by decide +kernel
theorem d_M_readParts_56 : decode c_M_readParts 56 = .ok (.iload_n 1, 1) := by decide +kernel
theorem d_M_readParts_57 : decode c_M_readParts 57 = .ok (.iload_n 3, 1) := by decide +kernel
theorem d_M_readParts_58 : decode c_M_readParts 58 = .ok (.isub, 1) := by decide +kernel
theorem d_M_readParts_59 : decode c_M_readParts 59 = .ok (.iaload, 1) := by decide +kernel
theorem d_M_readParts_60 : decode c_M_readParts 60 = .ok (.ifCond .gt 18, 3) := by decide +kernel
theorem d_M_readParts_63 : decode c_M_readParts 63 = .ok (.aload_n 0, 1) := by decide +kernel
theorem d_M_readParts_64 : decode c_M_readParts 64 = .ok (.getfield 34, 3) := by decide +kernel
theorem d_M_readParts_67 : decode c_M_readParts 67 = .ok (.iload_n 1, 1) := by decide +kernel
theorem d_M_readParts_68 : decode c_M_readParts 68 = .ok (.iload_n 3, 1) := by decide +kernel
theorem d_M_readParts_69 : decode c_M_readParts 69 = .ok (.isub, 1) := by decide +kernel
theorem d_M_readParts_70 : decode c_M_readParts 70 = .ok (.iaload, 1) := by decide +kernel
theorem d_M_readParts_71 : decode c_M_readParts 71 = .ok (.aload_n 0, 1) := by decide +kernel
theorem d_M_readParts_72 : decode c_M_readParts 72 = .ok (.getfield 118, 3) := by decide +kernel
theorem d_M_readParts_75 : decode c_M_readParts 75 = .ok (.if_icmp .lt 8, 3) := by decide +kernel
theorem d_M_readParts_78 : decode c_M_readParts 78 = .ok (.aload_n 0, 1) := by decide +kernel
theorem d_M_readParts_79 : decode c_M_readParts 79 = .ok (.iconst 5, 1) := by decide +kernel
theorem d_M_readParts_80 : decode c_M_readParts 80 = .ok (.putfield 125, 3) := by decide +kernel
theorem d_M_readParts_83 : decode c_M_readParts 83 = .ok (.aload_n 0, 1) := by decide +kernel
theorem d_M_readParts_84 : decode c_M_readParts 84 = .ok (.getfield 125, 3) := by decide +kernel
theorem d_M_readParts_87 : decode c_M_readParts 87 = .ok (.ifCond .ne 43, 3) := by decide +kernel
theorem d_M_readParts_90 : decode c_M_readParts 90 = .ok (.iload_n 3, 1) := by decide +kernel
theorem d_M_readParts_91 : decode c_M_readParts 91 = .ok (.ifCond .le 39, 3) := by decide +kernel
theorem d_M_readParts_94 : decode c_M_readParts 94 = .ok (.aload_n 0, 1) := by decide +kernel
theorem d_M_readParts_95 : decode c_M_readParts 95 = .ok (.getfield 31, 3) := by decide +kernel
theorem d_M_readParts_98 : decode c_M_readParts 98 = .ok (.iload_n 1, 1) := by decide +kernel
theorem d_M_readParts_99 : decode c_M_readParts 99 = .ok (.iload_n 3, 1) := by decide +kernel
theorem d_M_readParts_100 : decode c_M_readParts 100 = .ok (.iastore, 1) := by decide +kernel
theorem d_M_readParts_101 : decode c_M_readParts 101 = .ok (.aload_n 0, 1) := by decide +kernel
theorem d_M_readParts_102 : decode c_M_readParts 102 = .ok (.getfield 34, 3) := by decide +kernel
theorem d_M_readParts_105 : decode c_M_readParts 105 = .ok (.iload_n 1, 1) := by decide +kernel
theorem d_M_readParts_106 : decode c_M_readParts 106 = .ok (.iconst 1, 1) := by decide +kernel
theorem d_M_readParts_107 : decode c_M_readParts 107 = .ok (.aload_n 0, 1) := by decide +kernel
theorem d_M_readParts_108 : decode c_M_readParts 108 = .ok (.getfield 34, 3) := by decide +kernel
theorem d_M_readParts_111 : decode c_M_readParts 111 = .ok (.iload_n 1, 1) := by decide +kernel
theorem d_M_readParts_112 : decode c_M_readParts 112 = .ok (.iload_n 3, 1) := by decide +kernel
theorem d_M_readParts_113 : decode c_M_readParts 113 = .ok (.isub, 1) := by decide +kernel
theorem d_M_readParts_114 : decode c_M_readParts 114 = .ok (.iaload, 1) := by decide +kernel
theorem d_M_readParts_115 : decode c_M_readParts 115 = .ok (.iadd, 1) := by decide +kernel
theorem d_M_readParts_116 : decode c_M_readParts 116 = .ok (.iastore, 1) := by decide +kernel
theorem d_M_readParts_117 : decode c_M_readParts 117 = .ok (.aload_n 0, 1) := by decide +kernel
theorem d_M_readParts_118 : decode c_M_readParts 118 = .ok (.aload_n 0, 1) := by decide +kernel
theorem d_M_readParts_119 : decode c_M_readParts 119 = .ok (.getfield 25, 3) := by decide +kernel
theorem d_M_readParts_122 : decode c_M_readParts 122 = .ok (.iload_n 1, 1) := by decide +kernel
theorem d_M_readParts_123 : decode c_M_readParts 123 = .ok (.iload_n 3, 1) := by decide +kernel
theorem d_M_readParts_124 : decode c_M_readParts 124 = .ok (.isub, 1) := by decide +kernel
theorem d_M_readParts_125 : decode c_M_readParts 125 = .ok (.iaload, 1) := by decide +kernel
theorem d_M_readParts_126 : decode c_M_readParts 126 = .ok (.iload_n 2, 1) := by decide +kernel
theorem d_M_readParts_127 : decode c_M_readParts 127 = .ok (.invokevirtual 161, 3) := by decide +kernel
theorem d_M_readParts_130 : decode c_M_readParts 130 = .ok (.iload_n 2, 1) := by decide +kernel
theorem d_M_readParts_131 : decode c_M_readParts 131 = .ok (.aload_n 0, 1) := by decide +kernel
theorem d_M_readParts_132 : decode c_M_readParts 132 = .ok (.getfield 145, 3) := by decide +kernel
theorem d_M_readParts_135 : decode c_M_readParts 135 = .ok (.invokestatic 106, 3) := by decide +kernel
theorem d_M_readParts_138 : decode c_M_readParts 138 = .ok (.isub, 1) := by decide +kernel
theorem d_M_readParts_139 : decode c_M_readParts 139 = .ok (.istore 4, 2) := by decide +kernel
theorem d_M_readParts_141 : decode c_M_readParts 141 = .ok (.aload_n 0, 1) := by decide +kernel
theorem d_M_readParts_142 : decode c_M_readParts 142 = .ok (.getfield 125, 3) := by decide +kernel
theorem d_M_readParts_145 : decode c_M_readParts 145 = .ok (.ifCond .gt 8, 3) := by decide +kernel
theorem d_M_readParts_148 : decode c_M_readParts 148 = .ok (.iload 4, 2) := by decide +kernel
theorem d_M_readParts_150 : decode c_M_readParts 150 = .ok (.ifCond .ne 4, 3) := by decide +kernel
theorem d_M_readParts_153 : decode c_M_readParts 153 = .ok (.return_, 1) := by decide +kernel
theorem d_M_readParts_154 : decode c_M_readParts 154 = .ok (.aload_n 0, 1) := by decide +kernel
theorem d_M_readParts_155 : decode c_M_readParts 155 = .ok (.getfield 92, 3) := by decide +kernel
theorem d_M_readParts_158 : decode c_M_readParts 158 = .ok (.ifCond .le 16, 3) := by decide +kernel
theorem d_M_readParts_161 : decode c_M_readParts 161 = .ok (.iload 4, 2) := by decide +kernel
theorem d_M_readParts_163 : decode c_M_readParts 163 = .ok (.aload_n 0, 1) := by decide +kernel
theorem d_M_readParts_164 : decode c_M_readParts 164 = .ok (.iload_n 1, 1) := by decide +kernel
theorem d_M_readParts_165 : decode c_M_readParts 165 = .ok (.iload 4, 2) := by decide +kernel
theorem d_M_readParts_167 : decode c_M_readParts 167 = .ok (.invokevirtual 164, 3) := by decide +kernel
theorem d_M_readParts_170 : decode c_M_readParts 170 = .ok (.isub, 1) := by decide +kernel
theorem d_M_readParts_171 : decode c_M_readParts 171 = .ok (.goto 5, 3) := by decide +kernel
theorem d_M_readParts_174 : decode c_M_readParts 174 = .ok (.iload 4, 2) := by decide +kernel
theorem d_M_readParts_176 : decode c_M_readParts 176 = .ok (.istore 5, 2) := by decide +kernel
theorem d_M_readParts_178 : decode c_M_readParts 178 = .ok (.iconst 0, 1) := by decide +kernel
theorem d_M_readParts_179 : decode c_M_readParts 179 = .ok (.istore 6, 2) := by decide +kernel
theorem d_M_readParts_181 : decode c_M_readParts 181 = .ok (.iconst 0, 1) := by decide +kernel
theorem d_M_readParts_182 : decode c_M_readParts 182 = .ok (.istore 7, 2) := by decide +kernel
theorem d_M_readParts_184 : decode c_M_readParts 184 = .ok (.iload 7, 2) := by decide +kernel
theorem d_M_readParts_186 : decode c_M_readParts 186 = .ok (.iload 5, 2) := by decide +kernel
theorem d_M_readParts_188 : decode c_M_readParts 188 = .ok (.if_icmp .ge 85, 3) := by decide +kernel
theorem d_M_readParts_191 : decode c_M_readParts 191 = .ok (.aload_n 0, 1) := by decide +kernel
theorem d_M_readParts_192 : decode c_M_readParts 192 = .ok (.getfield 125, 3) := by decide +kernel
theorem d_M_readParts_195 : decode c_M_readParts 195 = .ok (.ifCond .ne 78, 3) := by decide +kernel
theorem d_M_readParts_198 : decode c_M_readParts 198 = .ok (.aload_n 0, 1) := by decide +kernel
theorem d_M_readParts_199 : decode c_M_readParts 199 = .ok (.invokevirtual 167, 3) := by decide +kernel
theorem d_M_readParts_202 : decode c_M_readParts 202 = .ok (.istore 8, 2) := by decide +kernel
theorem d_M_readParts_204 : decode c_M_readParts 204 = .ok (.iload 7, 2) := by decide +kernel
theorem d_M_readParts_206 : decode c_M_readParts 206 = .ok (.ifCond .ne 13, 3) := by decide +kernel
theorem d_M_readParts_209 : decode c_M_readParts 209 = .ok (.iload_n 1, 1) := by decide +kernel
theorem d_M_readParts_210 : decode c_M_readParts 210 = .ok (.iload 8, 2) := by decide +kernel
theorem d_M_readParts_212 : decode c_M_readParts 212 = .ok (.invokestatic 158, 3) := by decide +kernel
theorem d_M_readParts_215 : decode c_M_readParts 215 = .ok (.iadd, 1) := by decide +kernel
theorem d_M_readParts_216 : decode c_M_readParts 216 = .ok (.goto 10, 3) := by decide +kernel
theorem d_M_readParts_219 : decode c_M_readParts 219 = .ok (.iload 6, 2) := by decide +kernel
theorem d_M_readParts_221 : decode c_M_readParts 221 = .ok (.iconst 1, 1) := by decide +kernel
theorem d_M_readParts_222 : decode c_M_readParts 222 = .ok (.iadd, 1) := by decide +kernel
theorem d_M_readParts_223 : decode c_M_readParts 223 = .ok (.iload 8, 2) := by decide +kernel
theorem d_M_readParts_225 : decode c_M_readParts 225 = .ok (.iadd, 1) := by decide +kernel
theorem d_M_readParts_226 : decode c_M_readParts 226 = .ok (.istore 9, 2) := by decide +kernel
theorem d_M_readParts_228 : decode c_M_readParts 228 = .ok (.aload_n 0, 1) := by decide +kernel
theorem d_M_readParts_229 : decode c_M_readParts 229 = .ok (.getfield 125, 3) := by decide +kernel
theorem d_M_readParts_232 : decode c_M_readParts 232 = .ok (.ifCond .ne 18, 3) := by decide +kernel
theorem d_M_readParts_235 : decode c_M_readParts 235 = .ok (.aload_n 0, 1) := by decide +kernel
theorem d_M_readParts_236 : decode c_M_readParts 236 = .ok (.iload 9, 2) := by decide +kernel
theorem d_M_readParts_238 : decode c_M_readParts 238 = .ok (.invokevirtual 68, 3) := by decide +kernel
theorem d_M_readParts_241 : decode c_M_readParts 241 = .ok (.ifCond .ne 9, 3) := by decide +kernel
theorem d_M_readParts_244 : decode c_M_readParts 244 = .ok (.aload_n 0, 1) := by decide +kernel
theorem d_M_readParts_245 : decode c_M_readParts 245 = .ok (.bipush 8, 2) := by decide +kernel
theorem d_M_readParts_247 : decode c_M_readParts 247 = .ok (.putfield 125, 3) := by decide +kernel
theorem d_M_readParts_250 : decode c_M_readParts 250 = .ok (.aload_n 0, 1) := by decide +kernel
theorem d_M_readParts_251 : decode c_M_readParts 251 = .ok (.getfield 125, 3) := by decide +kernel
theorem d_M_readParts_254 : decode c_M_readParts 254 = .ok (.ifCond .ne 9, 3) := by decide +kernel
theorem d_M_readParts_257 : decode c_M_readParts 257 = .ok (.aload_n 0, 1) := by decide +kernel
theorem d_M_readParts_258 : decode c_M_readParts 258 = .ok (.iload 9, 2) := by decide +kernel
theorem d_M_readParts_260 : decode c_M_readParts 260 = .ok (.invokevirtual 155, 3) := by decide +kernel
theorem d_M_readParts_263 : decode c_M_readParts 263 = .ok (.iload 9, 2) := by decide +kernel
theorem d_M_readParts_265 : decode c_M_readParts 265 = .ok (.istore 6, 2) := by decide +kernel
theorem d_M_readParts_267 : decode c_M_readParts 267 = .ok (.iinc 7 1, 3) := by decide +kernel
theorem d_M_readParts_270 : decode c_M_readParts 270 = .ok (.goto (-86), 3) := by decide +kernel
theorem d_M_readParts_273 : decode c_M_readParts 273 = .ok (.return_, 1) := by decide +kernel
theorem d_M_read_0 : decode c_M_read 0 = .ok (.iconst 0, 1) := by decide +kernel
theorem d_M_read_1 : decode c_M_read 1 = .ok (.istore_n 1, 1) := by decide +kernel
theorem d_M_read_2 : decode c_M_read 2 = .ok (.iload_n 1, 1) := by decide +kernel
theorem d_M_read_3 : decode c_M_read 3 = .ok (.aload_n 0, 1) := by decide +kernel
theorem d_M_read_4 : decode c_M_read 4 = .ok (.getfield 56, 3) := by decide +kernel
theorem d_M_read_7 : decode c_M_read 7 = .ok (.if_icmp .ge 169, 3) := by decide +kernel
theorem d_M_read_10 : decode c_M_read 10 = .ok (.aload_n 0, 1) := by decide +kernel
theorem d_M_read_11 : decode c_M_read 11 = .ok (.aload_n 0, 1) := by decide +kernel
theorem d_M_read_12 : decode c_M_read 12 = .ok (.getfield 16, 3) := by decide +kernel
theorem d_M_read_15 : decode c_M_read 15 = .ok (.iload_n 1, 1) := by decide +kernel
theorem d_M_read_16 : decode c_M_read 16 = .ok (.iaload, 1) := by decide +kernel
theorem d_M_read_17 : decode c_M_read 17 = .ok (.putfield 128, 3) := by decide +kernel
theorem d_M_read_20 : decode c_M_read 20 = .ok (.aload_n 0, 1) := by decide +kernel
theorem d_M_read_21 : decode c_M_read 21 = .ok (.iconst 0, 1) := by decide +kernel
theorem d_M_read_22 : decode c_M_read 22 = .ok (.putfield 125, 3) := by decide +kernel
theorem d_M_read_25 : decode c_M_read 25 = .ok (.aload_n 0, 1) := by decide +kernel
theorem d_M_read_26 : decode c_M_read 26 = .ok (.iconst 0, 1) := by decide +kernel
theorem d_M_read_27 : decode c_M_read 27 = .ok (.putfield 145, 3) := by decide +kernel
theorem d_M_read_30 : decode c_M_read 30 = .ok (.aload_n 0, 1) := by decide +kernel
theorem d_M_read_31 : decode c_M_read 31 = .ok (.iconst 0, 1) := by decide +kernel
theorem d_M_read_32 : decode c_M_read 32 = .ok (.putfield 141, 3) := by decide +kernel
theorem d_M_read_35 : decode c_M_read 35 = .ok (.aload_n 0, 1) := by decide +kernel
theorem d_M_read_36 : decode c_M_read 36 = .ok (.getfield 31, 3) := by decide +kernel
theorem d_M_read_39 : decode c_M_read 39 = .ok (.iload_n 1, 1) := by decide +kernel
theorem d_M_read_40 : decode c_M_read 40 = .ok (.iconst 0, 1) := by decide +kernel
theorem d_M_read_41 : decode c_M_read 41 = .ok (.iastore, 1) := by decide +kernel
theorem d_M_read_42 : decode c_M_read 42 = .ok (.aload_n 0, 1) := by decide +kernel
theorem d_M_read_43 : decode c_M_read 43 = .ok (.getfield 34, 3) := by decide +kernel
theorem d_M_read_46 : decode c_M_read 46 = .ok (.iload_n 1, 1) := by decide +kernel
theorem d_M_read_47 : decode c_M_read 47 = .ok (.iconst 0, 1) := by decide +kernel
theorem d_M_read_48 : decode c_M_read 48 = .ok (.iastore, 1) := by decide +kernel
theorem d_M_read_49 : decode c_M_read 49 = .ok (.aload_n 0, 1) := by decide +kernel
theorem d_M_read_50 : decode c_M_read 50 = .ok (.invokevirtual 148, 3) := by decide +kernel
theorem d_M_read_53 : decode c_M_read 53 = .ok (.istore_n 2, 1) := by decide +kernel
theorem d_M_read_54 : decode c_M_read 54 = .ok (.aload_n 0, 1) := by decide +kernel
theorem d_M_read_55 : decode c_M_read 55 = .ok (.getfield 125, 3) := by decide +kernel
theorem d_M_read_58 : decode c_M_read 58 = .ok (.ifCond .ne 16, 3) := by decide +kernel
theorem d_M_read_61 : decode c_M_read 61 = .ok (.iload_n 2, 1) := by decide +kernel
theorem d_M_read_62 : decode c_M_read 62 = .ok (.aload_n 0, 1) := by decide +kernel
theorem d_M_read_63 : decode c_M_read 63 = .ok (.getfield 56, 3) := by decide +kernel
theorem d_M_read_66 : decode c_M_read 66 = .ok (.if_icmp .le 8, 3) := by decide +kernel
theorem d_M_read_69 : decode c_M_read 69 = .ok (.aload_n 0, 1) := by decide +kernel
theorem d_M_read_70 : decode c_M_read 70 = .ok (.iconst 3, 1) := by decide +kernel
theorem d_M_read_71 : decode c_M_read 71 = .ok (.putfield 125, 3) := by decide +kernel
theorem d_M_read_74 : decode c_M_read 74 = .ok (.aload_n 0, 1) := by decide +kernel
theorem d_M_read_75 : decode c_M_read 75 = .ok (.getfield 125, 3) := by decide +kernel
theorem d_M_read_78 : decode c_M_read 78 = .ok (.ifCond .ne 13, 3) := by decide +kernel
theorem d_M_read_81 : decode c_M_read 81 = .ok (.iload_n 2, 1) := by decide +kernel
theorem d_M_read_82 : decode c_M_read 82 = .ok (.ifCond .le 9, 3) := by decide +kernel
theorem d_M_read_85 : decode c_M_read 85 = .ok (.aload_n 0, 1) := by decide +kernel
theorem d_M_read_86 : decode c_M_read 86 = .ok (.iload_n 1, 1) := by decide +kernel
theorem d_M_read_87 : decode c_M_read 87 = .ok (.iload_n 2, 1) := by decide +kernel
theorem d_M_read_88 : decode c_M_read 88 = .ok (.invokevirtual 170, 3) := by decide +kernel
theorem d_M_read_91 : decode c_M_read 91 = .ok (.aload_n 0, 1) := by decide +kernel
theorem d_M_read_92 : decode c_M_read 92 = .ok (.getfield 125, 3) := by decide +kernel
theorem d_M_read_95 : decode c_M_read 95 = .ok (.ifCond .ne 16, 3) := by decide +kernel
theorem d_M_read_98 : decode c_M_read 98 = .ok (.aload_n 0, 1) := by decide +kernel
theorem d_M_read_99 : decode c_M_read 99 = .ok (.getfield 141, 3) := by decide +kernel
theorem d_M_read_102 : decode c_M_read 102 = .ok (.ifCond .eq 9, 3) := by decide +kernel
theorem d_M_read_105 : decode c_M_read 105 = .ok (.aload_n 0, 1) := by decide +kernel
theorem d_M_read_106 : decode c_M_read 106 = .ok (.bipush 9, 2) := by decide +kernel
theorem d_M_read_108 : decode c_M_read 108 = .ok (.putfield 125, 3) := by decide +kernel
theorem d_M_read_111 : decode c_M_read 111 = .ok (.aload_n 0, 1) := by decide +kernel
theorem d_M_read_112 : decode c_M_read 112 = .ok (.getfield 125, 3) := by decide +kernel
theorem d_M_read_115 : decode c_M_read 115 = .ok (.ifCond .ne 24, 3) := by decide +kernel
theorem d_M_read_118 : decode c_M_read 118 = .ok (.aload_n 0, 1) := by decide +kernel
theorem d_M_read_119 : decode c_M_read 119 = .ok (.getfield 128, 3) := by decide +kernel
theorem d_M_read_122 : decode c_M_read 122 = .ok (.aload_n 0, 1) := by decide +kernel
theorem d_M_read_123 : decode c_M_read 123 = .ok (.getfield 16, 3) := by decide +kernel
theorem d_M_read_126 : decode c_M_read 126 = .ok (.iload_n 1, 1) := by decide +kernel
theorem d_M_read_127 : decode c_M_read 127 = .ok (.iconst 1, 1) := by decide +kernel
theorem d_M_read_128 : decode c_M_read 128 = .ok (.iadd, 1) := by decide +kernel
theorem d_M_read_129 : decode c_M_read 129 = .ok (.iaload, 1) := by decide +kernel
theorem d_M_read_130 : decode c_M_read 130 = .ok (.if_icmp .eq 9, 3) := by decide +kernel
theorem d_M_read_133 : decode c_M_read 133 = .ok (.aload_n 0, 1) := by decide +kernel
theorem d_M_read_134 : decode c_M_read 134 = .ok (.bipush 10, 2) := by decide +kernel
theorem d_M_read_136 : decode c_M_read 136 = .ok (.putfield 125, 3) := by decide +kernel
theorem d_M_read_139 : decode c_M_read 139 = .ok (.aload_n 0, 1) := by decide +kernel
theorem d_M_read_140 : decode c_M_read 140 = .ok (.getfield 28, 3) := by decide +kernel
theorem d_M_read_143 : decode c_M_read 143 = .ok (.iload_n 1, 1) := by decide +kernel
theorem d_M_read_144 : decode c_M_read 144 = .ok (.aload_n 0, 1) := by decide +kernel
theorem d_M_read_145 : decode c_M_read 145 = .ok (.getfield 125, 3) := by decide +kernel
theorem d_M_read_148 : decode c_M_read 148 = .ok (.iastore, 1) := by decide +kernel
theorem d_M_read_149 : decode c_M_read 149 = .ok (.aload_n 0, 1) := by decide +kernel
theorem d_M_read_150 : decode c_M_read 150 = .ok (.getfield 25, 3) := by decide +kernel
theorem d_M_read_153 : decode c_M_read 153 = .ok (.iload_n 1, 1) := by decide +kernel
theorem d_M_read_154 : decode c_M_read 154 = .ok (.aload_n 0, 1) := by decide +kernel
theorem d_M_read_155 : decode c_M_read 155 = .ok (.getfield 125, 3) := by decide +kernel
theorem d_M_read_158 : decode c_M_read 158 = .ok (.ifCond .le 7, 3) := by decide +kernel
theorem d_M_read_161 : decode c_M_read 161 = .ok (.iconst 0, 1) := by decide +kernel
theorem d_M_read_162 : decode c_M_read 162 = .ok (.goto 7, 3) := by decide +kernel
theorem d_M_read_165 : decode c_M_read 165 = .ok (.aload_n 0, 1) := by decide +kernel
theorem d_M_read_166 : decode c_M_read 166 = .ok (.getfield 145, 3) := by decide +kernel
theorem d_M_read_169 : decode c_M_read 169 = .ok (.iastore, 1) := by decide +kernel
theorem d_M_read_170 : decode c_M_read 170 = .ok (.iinc 1 1, 3) := by decide +kernel
theorem d_M_read_173 : decode c_M_read 173 = .ok (.goto (-171), 3) := by decide +kernel
theorem d_M_read_176 : decode c_M_read 176 = .ok (.return_, 1) := by decide +kernel
theorem d_M_degree_0 : decode c_M_degree 0 = .ok (.aload_n 0, 1) := by decide +kernel
theorem d_M_degree_1 : decode c_M_degree 1 = .ok (.iload_n 1, 1) := by decide +kernel
theorem d_M_degree_2 : decode c_M_degree 2 = .ok (.invokevirtual 68, 3) := by decide +kernel
theorem d_M_degree_5 : decode c_M_degree 5 = .ok (.ifCond .ne 6, 3) := by decide +kernel
theorem d_M_degree_8 : decode c_M_degree 8 = .ok (.bipush (-100), 2) := by decide +kernel
theorem d_M_degree_10 : decode c_M_degree 10 = .ok (.ireturn, 1) := by decide +kernel
theorem d_M_degree_11 : decode c_M_degree 11 = .ok (.aload_n 0, 1) := by decide +kernel
theorem d_M_degree_12 : decode c_M_degree 12 = .ok (.invokevirtual 173, 3) := by decide +kernel
theorem d_M_degree_15 : decode c_M_degree 15 = .ok (.aload_n 0, 1) := by decide +kernel
theorem d_M_degree_16 : decode c_M_degree 16 = .ok (.getfield 28, 3) := by decide +kernel
theorem d_M_degree_19 : decode c_M_degree 19 = .ok (.iload_n 1, 1) := by decide +kernel
theorem d_M_degree_20 : decode c_M_degree 20 = .ok (.iaload, 1) := by decide +kernel
theorem d_M_degree_21 : decode c_M_degree 21 = .ok (.ifCond .le 13, 3) := by decide +kernel
theorem d_M_degree_24 : decode c_M_degree 24 = .ok (.aload_n 0, 1) := by decide +kernel
theorem d_M_degree_25 : decode c_M_degree 25 = .ok (.getfield 28, 3) := by decide +kernel
theorem d_M_degree_28 : decode c_M_degree 28 = .ok (.iload_n 1, 1) := by decide +kernel
theorem d_M_degree_29 : decode c_M_degree 29 = .ok (.iaload, 1) := by decide +kernel
theorem d_M_degree_30 : decode c_M_degree 30 = .ok (.ineg, 1) := by decide +kernel
theorem d_M_degree_31 : decode c_M_degree 31 = .ok (.goto 12, 3) := by decide +kernel
theorem d_M_degree_34 : decode c_M_degree 34 = .ok (.aload_n 0, 1) := by decide +kernel
theorem d_M_degree_35 : decode c_M_degree 35 = .ok (.getfield 25, 3) := by decide +kernel
theorem d_M_degree_38 : decode c_M_degree 38 = .ok (.iload_n 1, 1) := by decide +kernel
theorem d_M_degree_39 : decode c_M_degree 39 = .ok (.iaload, 1) := by decide +kernel
theorem d_M_degree_40 : decode c_M_degree 40 = .ok (.invokestatic 106, 3) := by decide +kernel
theorem d_M_degree_43 : decode c_M_degree 43 = .ok (.ireturn, 1) := by decide +kernel
theorem d_M_successor_0 : decode c_M_successor 0 = .ok (.aload_n 0, 1) := by decide +kernel
theorem d_M_successor_1 : decode c_M_successor 1 = .ok (.iload_n 1, 1) := by decide +kernel
theorem d_M_successor_2 : decode c_M_successor 2 = .ok (.invokevirtual 68, 3) := by decide +kernel
theorem d_M_successor_5 : decode c_M_successor 5 = .ok (.ifCond .eq 7, 3) := by decide +kernel
theorem d_M_successor_8 : decode c_M_successor 8 = .ok (.iload_n 2, 1) := by decide +kernel
theorem d_M_successor_9 : decode c_M_successor 9 = .ok (.ifCond .ge 5, 3) := by decide +kernel
theorem d_M_successor_12 : decode c_M_successor 12 = .ok (.iconst (-1), 1) := by decide +kernel
theorem d_M_successor_13 : decode c_M_successor 13 = .ok (.ireturn, 1) := by decide +kernel
theorem d_M_successor_14 : decode c_M_successor 14 = .ok (.aload_n 0, 1) := by decide +kernel
theorem d_M_successor_15 : decode c_M_successor 15 = .ok (.invokevirtual 173, 3) := by decide +kernel
theorem d_M_successor_18 : decode c_M_successor 18 = .ok (.iconst 0, 1) := by decide +kernel
theorem d_M_successor_19 : decode c_M_successor 19 = .ok (.istore_n 3, 1) := by decide +kernel
theorem d_M_successor_20 : decode c_M_successor 20 = .ok (.iconst 0, 1) := by decide +kernel
theorem d_M_successor_21 : decode c_M_successor 21 = .ok (.istore 4, 2) := by decide +kernel
theorem d_M_successor_23 : decode c_M_successor 23 = .ok (.iload 4, 2) := by decide +kernel
theorem d_M_successor_25 : decode c_M_successor 25 = .ok (.aload_n 0, 1) := by decide +kernel
theorem d_M_successor_26 : decode c_M_successor 26 = .ok (.getfield 56, 3) := by decide +kernel
theorem d_M_successor_29 : decode c_M_successor 29 = .ok (.if_icmp .ge 35, 3) := by decide +kernel
theorem d_M_successor_32 : decode c_M_successor 32 = .ok (.aload_n 0, 1) := by decide +kernel
theorem d_M_successor_33 : decode c_M_successor 33 = .ok (.getfield 25, 3) := by decide +kernel
theorem d_M_successor_36 : decode c_M_successor 36 = .ok (.iload_n 1, 1) := by decide +kernel
theorem d_M_successor_37 : decode c_M_successor 37 = .ok (.iaload, 1) := by decide +kernel
theorem d_M_successor_38 : decode c_M_successor 38 = .ok (.iload 4, 2) := by decide +kernel
theorem d_M_successor_40 : decode c_M_successor 40 = .ok (.ishr, 1) := by decide +kernel
theorem d_M_successor_41 : decode c_M_successor 41 = .ok (.iconst 1, 1) := by decide +kernel
theorem d_M_successor_42 : decode c_M_successor 42 = .ok (.iand, 1) := by decide +kernel
theorem d_M_successor_43 : decode c_M_successor 43 = .ok (.iconst 1, 1) := by decide +kernel
theorem d_M_successor_44 : decode c_M_successor 44 = .ok (.if_icmp .ne 14, 3) := by decide +kernel
theorem d_M_successor_47 : decode c_M_successor 47 = .ok (.iload_n 3, 1) := by decide +kernel
theorem d_M_successor_48 : decode c_M_successor 48 = .ok (.iload_n 2, 1) := by decide +kernel
theorem d_M_successor_49 : decode c_M_successor 49 = .ok (.if_icmp .ne 6, 3) := by decide +kernel
theorem d_M_successor_52 : decode c_M_successor 52 = .ok (.iload 4, 2) := by decide +kernel
theorem d_M_successor_54 : decode c_M_successor 54 = .ok (.ireturn, 1) := by decide +kernel
theorem d_M_successor_55 : decode c_M_successor 55 = .ok (.iinc 3 1, 3) := by decide +kernel
theorem d_M_successor_58 : decode c_M_successor 58 = .ok (.iinc 4 1, 3) := by decide +kernel
theorem d_M_successor_61 : decode c_M_successor 61 = .ok (.goto (-38), 3) := by decide +kernel
theorem d_M_successor_64 : decode c_M_successor 64 = .ok (.iconst (-1), 1) := by decide +kernel
theorem d_M_successor_65 : decode c_M_successor 65 = .ok (.ireturn, 1) := by decide +kernel
theorem d_M_reference_0 : decode c_M_reference 0 = .ok (.aload_n 0, 1) := by decide +kernel
theorem d_M_reference_1 : decode c_M_reference 1 = .ok (.iload_n 1, 1) := by decide +kernel
theorem d_M_reference_2 : decode c_M_reference 2 = .ok (.invokevirtual 68, 3) := by decide +kernel
theorem d_M_reference_5 : decode c_M_reference 5 = .ok (.ifCond .ne 5, 3) := by decide +kernel
theorem d_M_reference_8 : decode c_M_reference 8 = .ok (.iconst (-1), 1) := by decide +kernel
theorem d_M_reference_9 : decode c_M_reference 9 = .ok (.ireturn, 1) := by decide +kernel
theorem d_M_reference_10 : decode c_M_reference 10 = .ok (.aload_n 0, 1) := by decide +kernel
theorem d_M_reference_11 : decode c_M_reference 11 = .ok (.invokevirtual 173, 3) := by decide +kernel
theorem d_M_reference_14 : decode c_M_reference 14 = .ok (.aload_n 0, 1) := by decide +kernel
theorem d_M_reference_15 : decode c_M_reference 15 = .ok (.getfield 28, 3) := by decide +kernel
theorem d_M_reference_18 : decode c_M_reference 18 = .ok (.iload_n 1, 1) := by decide +kernel
theorem d_M_reference_19 : decode c_M_reference 19 = .ok (.iaload, 1) := by decide +kernel
theorem d_M_reference_20 : decode c_M_reference 20 = .ok (.ifCond .le 7, 3) := by decide +kernel
theorem d_M_reference_23 : decode c_M_reference 23 = .ok (.iconst (-1), 1) := by decide +kernel
theorem d_M_reference_24 : decode c_M_reference 24 = .ok (.goto 9, 3) := by decide +kernel
theorem d_M_reference_27 : decode c_M_reference 27 = .ok (.aload_n 0, 1) := by decide +kernel
theorem d_M_reference_28 : decode c_M_reference 28 = .ok (.getfield 31, 3) := by decide +kernel
theorem d_M_reference_31 : decode c_M_reference 31 = .ok (.iload_n 1, 1) := by decide +kernel
theorem d_M_reference_32 : decode c_M_reference 32 = .ok (.iaload, 1) := by decide +kernel
theorem d_M_reference_33 : decode c_M_reference 33 = .ok (.ireturn, 1) := by decide +kernel
theorem d_M_count_0 : decode c_M_count 0 = .ok (.aload_n 0, 1) := by decide +kernel
theorem d_M_count_1 : decode c_M_count 1 = .ok (.invokevirtual 173, 3) := by decide +kernel
theorem d_M_count_4 : decode c_M_count 4 = .ok (.iconst 0, 1) := by decide +kernel
theorem d_M_count_5 : decode c_M_count 5 = .ok (.istore_n 1, 1) := by decide +kernel
theorem d_M_count_6 : decode c_M_count 6 = .ok (.iload_n 1, 1) := by decide +kernel
theorem d_M_count_7 : decode c_M_count 7 = .ok (.aload_n 0, 1) := by decide +kernel
theorem d_M_count_8 : decode c_M_count 8 = .ok (.getfield 56, 3) := by decide +kernel
theorem d_M_count_11 : decode c_M_count 11 = .ok (.if_icmp .ge 32, 3) := by decide +kernel
theorem d_M_count_14 : decode c_M_count 14 = .ok (.aload_n 0, 1) := by decide +kernel
theorem d_M_count_15 : decode c_M_count 15 = .ok (.getfield 50, 3) := by decide +kernel
theorem d_M_count_18 : decode c_M_count 18 = .ok (.iload_n 1, 1) := by decide +kernel
theorem d_M_count_19 : decode c_M_count 19 = .ok (.aload_n 0, 1) := by decide +kernel
theorem d_M_count_20 : decode c_M_count 20 = .ok (.getfield 25, 3) := by decide +kernel
theorem d_M_count_23 : decode c_M_count 23 = .ok (.iload_n 1, 1) := by decide +kernel
theorem d_M_count_24 : decode c_M_count 24 = .ok (.iaload, 1) := by decide +kernel
theorem d_M_count_25 : decode c_M_count 25 = .ok (.iconst 1, 1) := by decide +kernel
theorem d_M_count_26 : decode c_M_count 26 = .ok (.iload_n 1, 1) := by decide +kernel
theorem d_M_count_27 : decode c_M_count 27 = .ok (.ishl, 1) := by decide +kernel
theorem d_M_count_28 : decode c_M_count 28 = .ok (.ior, 1) := by decide +kernel
theorem d_M_count_29 : decode c_M_count 29 = .ok (.iastore, 1) := by decide +kernel
theorem d_M_count_30 : decode c_M_count 30 = .ok (.aload_n 0, 1) := by decide +kernel
theorem d_M_count_31 : decode c_M_count 31 = .ok (.getfield 53, 3) := by decide +kernel
theorem d_M_count_34 : decode c_M_count 34 = .ok (.iload_n 1, 1) := by decide +kernel
theorem d_M_count_35 : decode c_M_count 35 = .ok (.iconst (-1), 1) := by decide +kernel
theorem d_M_count_36 : decode c_M_count 36 = .ok (.iastore, 1) := by decide +kernel
theorem d_M_count_37 : decode c_M_count 37 = .ok (.iinc 1 1, 3) := by decide +kernel
theorem d_M_count_40 : decode c_M_count 40 = .ok (.goto (-34), 3) := by decide +kernel
theorem d_M_count_43 : decode c_M_count 43 = .ok (.iconst 0, 1) := by decide +kernel
theorem d_M_count_44 : decode c_M_count 44 = .ok (.istore_n 1, 1) := by decide +kernel
theorem d_M_count_45 : decode c_M_count 45 = .ok (.iload_n 1, 1) := by decide +kernel
theorem d_M_count_46 : decode c_M_count 46 = .ok (.aload_n 0, 1) := by decide +kernel
theorem d_M_count_47 : decode c_M_count 47 = .ok (.getfield 56, 3) := by decide +kernel
theorem d_M_count_50 : decode c_M_count 50 = .ok (.if_icmp .ge 58, 3) := by decide +kernel
theorem d_M_count_53 : decode c_M_count 53 = .ok (.iconst 0, 1) := by decide +kernel
theorem d_M_count_54 : decode c_M_count 54 = .ok (.istore_n 2, 1) := by decide +kernel
theorem d_M_count_55 : decode c_M_count 55 = .ok (.iload_n 2, 1) := by decide +kernel
theorem d_M_count_56 : decode c_M_count 56 = .ok (.aload_n 0, 1) := by decide +kernel
theorem d_M_count_57 : decode c_M_count 57 = .ok (.getfield 56, 3) := by decide +kernel
theorem d_M_count_60 : decode c_M_count 60 = .ok (.if_icmp .ge 42, 3) := by decide +kernel
theorem d_M_count_63 : decode c_M_count 63 = .ok (.aload_n 0, 1) := by decide +kernel
theorem d_M_count_64 : decode c_M_count 64 = .ok (.getfield 50, 3) := by decide +kernel
theorem d_M_count_67 : decode c_M_count 67 = .ok (.iload_n 2, 1) := by decide +kernel
theorem d_M_count_68 : decode c_M_count 68 = .ok (.dup2, 1) := by decide +kernel
theorem d_M_count_69 : decode c_M_count 69 = .ok (.iaload, 1) := by decide +kernel
theorem d_M_count_70 : decode c_M_count 70 = .ok (.aload_n 0, 1) := by decide +kernel
theorem d_M_count_71 : decode c_M_count 71 = .ok (.getfield 50, 3) := by decide +kernel
theorem d_M_count_74 : decode c_M_count 74 = .ok (.iload_n 2, 1) := by decide +kernel
theorem d_M_count_75 : decode c_M_count 75 = .ok (.iaload, 1) := by decide +kernel
theorem d_M_count_76 : decode c_M_count 76 = .ok (.iload_n 1, 1) := by decide +kernel
theorem d_M_count_77 : decode c_M_count 77 = .ok (.ishr, 1) := by decide +kernel
theorem d_M_count_78 : decode c_M_count 78 = .ok (.iconst 1, 1) := by decide +kernel
theorem d_M_count_79 : decode c_M_count 79 = .ok (.iand, 1) := by decide +kernel
theorem d_M_count_80 : decode c_M_count 80 = .ok (.iconst 1, 1) := by decide +kernel
theorem d_M_count_81 : decode c_M_count 81 = .ok (.if_icmp .ne 12, 3) := by decide +kernel
theorem d_M_count_84 : decode c_M_count 84 = .ok (.aload_n 0, 1) := by decide +kernel
theorem d_M_count_85 : decode c_M_count 85 = .ok (.getfield 50, 3) := by decide +kernel
theorem d_M_count_88 : decode c_M_count 88 = .ok (.iload_n 1, 1) := by decide +kernel
theorem d_M_count_89 : decode c_M_count 89 = .ok (.iaload, 1) := by decide +kernel
theorem d_M_count_90 : decode c_M_count 90 = .ok (.goto 4, 3) := by decide +kernel
theorem d_M_count_93 : decode c_M_count 93 = .ok (.iconst 0, 1) := by decide +kernel
theorem d_M_count_94 : decode c_M_count 94 = .ok (.ior, 1) := by decide +kernel
theorem d_M_count_95 : decode c_M_count 95 = .ok (.iastore, 1) := by decide +kernel
theorem d_M_count_96 : decode c_M_count 96 = .ok (.iinc 2 1, 3) := by decide +kernel
theorem d_M_count_99 : decode c_M_count 99 = .ok (.goto (-44), 3) := by decide +kernel
theorem d_M_count_102 : decode c_M_count 102 = .ok (.iinc 1 1, 3) := by decide +kernel
theorem d_M_count_105 : decode c_M_count 105 = .ok (.goto (-60), 3) := by decide +kernel
theorem d_M_count_108 : decode c_M_count 108 = .ok (.aload_n 0, 1) := by decide +kernel
theorem d_M_count_109 : decode c_M_count 109 = .ok (.iconst 0, 1) := by decide +kernel
theorem d_M_count_110 : decode c_M_count 110 = .ok (.putfield 176, 3) := by decide +kernel
theorem d_M_count_113 : decode c_M_count 113 = .ok (.iconst 0, 1) := by decide +kernel
theorem d_M_count_114 : decode c_M_count 114 = .ok (.istore_n 1, 1) := by decide +kernel
theorem d_M_count_115 : decode c_M_count 115 = .ok (.iconst 0, 1) := by decide +kernel
theorem d_M_count_116 : decode c_M_count 116 = .ok (.istore_n 2, 1) := by decide +kernel
theorem d_M_count_117 : decode c_M_count 117 = .ok (.iload_n 2, 1) := by decide +kernel
theorem d_M_count_118 : decode c_M_count 118 = .ok (.aload_n 0, 1) := by decide +kernel
theorem d_M_count_119 : decode c_M_count 119 = .ok (.getfield 56, 3) := by decide +kernel
theorem d_M_count_122 : decode c_M_count 122 = .ok (.if_icmp .ge 91, 3) := by decide +kernel
theorem d_M_count_125 : decode c_M_count 125 = .ok (.aload_n 0, 1) := by decide +kernel
theorem d_M_count_126 : decode c_M_count 126 = .ok (.iload_n 1, 1) := by decide +kernel
theorem d_M_count_127 : decode c_M_count 127 = .ok (.invokevirtual 179, 3) := by decide +kernel
theorem d_M_count_130 : decode c_M_count 130 = .ok (.istore_n 3, 1) := by decide +kernel
theorem d_M_count_131 : decode c_M_count 131 = .ok (.iload_n 3, 1) := by decide +kernel
theorem d_M_count_132 : decode c_M_count 132 = .ok (.ifCond .lt 75, 3) := by decide +kernel
theorem d_M_count_135 : decode c_M_count 135 = .ok (.aload_n 0, 1) := by decide +kernel
theorem d_M_count_136 : decode c_M_count 136 = .ok (.iload_n 3, 1) := by decide +kernel
theorem d_M_count_137 : decode c_M_count 137 = .ok (.invokevirtual 182, 3) := by decide +kernel
theorem d_M_count_140 : decode c_M_count 140 = .ok (.istore 4, 2) := by decide +kernel
theorem d_M_count_142 : decode c_M_count 142 = .ok (.iconst 0, 1) := by decide +kernel
theorem d_M_count_143 : decode c_M_count 143 = .ok (.istore 5, 2) := by decide +kernel
theorem d_M_count_145 : decode c_M_count 145 = .ok (.iload 5, 2) := by decide +kernel
theorem d_M_count_147 : decode c_M_count 147 = .ok (.aload_n 0, 1) := by decide +kernel
theorem d_M_count_148 : decode c_M_count 148 = .ok (.getfield 56, 3) := by decide +kernel
theorem d_M_count_151 : decode c_M_count 151 = .ok (.if_icmp .ge 41, 3) := by decide +kernel
theorem d_M_count_154 : decode c_M_count 154 = .ok (.aload_n 0, 1) := by decide +kernel
theorem d_M_count_155 : decode c_M_count 155 = .ok (.getfield 53, 3) := by decide +kernel
theorem d_M_count_158 : decode c_M_count 158 = .ok (.iload 5, 2) := by decide +kernel
theorem d_M_count_160 : decode c_M_count 160 = .ok (.iload 4, 2) := by decide +kernel
theorem d_M_count_162 : decode c_M_count 162 = .ok (.iload 5, 2) := by decide +kernel
theorem d_M_count_164 : decode c_M_count 164 = .ok (.ishr, 1) := by decide +kernel
theorem d_M_count_165 : decode c_M_count 165 = .ok (.iconst 1, 1) := by decide +kernel
theorem d_M_count_166 : decode c_M_count 166 = .ok (.iand, 1) := by decide +kernel
theorem d_M_count_167 : decode c_M_count 167 = .ok (.iconst 1, 1) := by decide +kernel
theorem d_M_count_168 : decode c_M_count 168 = .ok (.if_icmp .ne 10, 3) := by decide +kernel
theorem d_M_count_171 : decode c_M_count 171 = .ok (.aload_n 0, 1) := by decide +kernel
theorem d_M_count_172 : decode c_M_count 172 = .ok (.getfield 176, 3) := by decide +kernel
theorem d_M_count_175 : decode c_M_count 175 = .ok (.goto 10, 3) := by decide +kernel
theorem d_M_count_178 : decode c_M_count 178 = .ok (.aload_n 0, 1) := by decide +kernel
theorem d_M_count_179 : decode c_M_count 179 = .ok (.getfield 53, 3) := by decide +kernel
theorem d_M_count_182 : decode c_M_count 182 = .ok (.iload 5, 2) := by decide +kernel
theorem d_M_count_184 : decode c_M_count 184 = .ok (.iaload, 1) := by decide +kernel
theorem d_M_count_185 : decode c_M_count 185 = .ok (.iastore, 1) := by decide +kernel
theorem d_M_count_186 : decode c_M_count 186 = .ok (.iinc 5 1, 3) := by decide +kernel
theorem d_M_count_189 : decode c_M_count 189 = .ok (.goto (-44), 3) := by decide +kernel
theorem d_M_count_192 : decode c_M_count 192 = .ok (.iload_n 1, 1) := by decide +kernel
theorem d_M_count_193 : decode c_M_count 193 = .ok (.iload 4, 2) := by decide +kernel
theorem d_M_count_195 : decode c_M_count 195 = .ok (.ior, 1) := by decide +kernel
theorem d_M_count_196 : decode c_M_count 196 = .ok (.istore_n 1, 1) := by decide +kernel
theorem d_M_count_197 : decode c_M_count 197 = .ok (.aload_n 0, 1) := by decide +kernel
theorem d_M_count_198 : decode c_M_count 198 = .ok (.dup, 1) := by decide +kernel
theorem d_M_count_199 : decode c_M_count 199 = .ok (.getfield 176, 3) := by decide +kernel
theorem d_M_count_202 : decode c_M_count 202 = .ok (.iconst 1, 1) := by decide +kernel
theorem d_M_count_203 : decode c_M_count 203 = .ok (.iadd, 1) := by decide +kernel
theorem d_M_count_204 : decode c_M_count 204 = .ok (.putfield 176, 3) := by decide +kernel
theorem d_M_count_207 : decode c_M_count 207 = .ok (.iinc 2 1, 3) := by decide +kernel
theorem d_M_count_210 : decode c_M_count 210 = .ok (.goto (-93), 3) := by decide +kernel
theorem d_M_count_213 : decode c_M_count 213 = .ok (.return_, 1) := by decide +kernel
theorem d_M_together_0 : decode c_M_together 0 = .ok (.iconst 0, 1) := by decide +kernel
theorem d_M_together_1 : decode c_M_together 1 = .ok (.istore_n 2, 1) := by decide +kernel
theorem d_M_together_2 : decode c_M_together 2 = .ok (.iconst 0, 1) := by decide +kernel
theorem d_M_together_3 : decode c_M_together 3 = .ok (.istore_n 3, 1) := by decide +kernel
theorem d_M_together_4 : decode c_M_together 4 = .ok (.iload_n 3, 1) := by decide +kernel
theorem d_M_together_5 : decode c_M_together 5 = .ok (.aload_n 0, 1) := by decide +kernel
theorem d_M_together_6 : decode c_M_together 6 = .ok (.getfield 56, 3) := by decide +kernel
theorem d_M_together_9 : decode c_M_together 9 = .ok (.if_icmp .ge 47, 3) := by decide +kernel
theorem d_M_together_12 : decode c_M_together 12 = .ok (.iload_n 2, 1) := by decide +kernel
theorem d_M_together_13 : decode c_M_together 13 = .ok (.aload_n 0, 1) := by decide +kernel
theorem d_M_together_14 : decode c_M_together 14 = .ok (.getfield 50, 3) := by decide +kernel
theorem d_M_together_17 : decode c_M_together 17 = .ok (.iload_n 1, 1) := by decide +kernel
theorem d_M_together_18 : decode c_M_together 18 = .ok (.iaload, 1) := by decide +kernel
theorem d_M_together_19 : decode c_M_together 19 = .ok (.iload_n 3, 1) := by decide +kernel
theorem d_M_together_20 : decode c_M_together 20 = .ok (.ishr, 1) := by decide +kernel
theorem d_M_together_21 : decode c_M_together 21 = .ok (.iconst 1, 1) := by decide +kernel
theorem d_M_together_22 : decode c_M_together 22 = .ok (.iand, 1) := by decide +kernel
theorem d_M_together_23 : decode c_M_together 23 = .ok (.iconst 1, 1) := by decide +kernel
theorem d_M_together_24 : decode c_M_together 24 = .ok (.if_icmp .ne 23, 3) := by decide +kernel
theorem d_M_together_27 : decode c_M_together 27 = .ok (.aload_n 0, 1) := by decide +kernel
theorem d_M_together_28 : decode c_M_together 28 = .ok (.getfield 50, 3) := by decide +kernel
theorem d_M_together_31 : decode c_M_together 31 = .ok (.iload_n 3, 1) := by decide +kernel
theorem d_M_together_32 : decode c_M_together 32 = .ok (.iaload, 1) := by decide +kernel
theorem d_M_together_33 : decode c_M_together 33 = .ok (.iload_n 1, 1) := by decide +kernel
theorem d_M_together_34 : decode c_M_together 34 = .ok (.ishr, 1) := by decide +kernel
theorem d_M_together_35 : decode c_M_together 35 = .ok (.iconst 1, 1) := by decide +kernel
theorem d_M_together_36 : decode c_M_together 36 = .ok (.iand, 1) := by decide +kernel
theorem d_M_together_37 : decode c_M_together 37 = .ok (.iconst 1, 1) := by decide +kernel
theorem d_M_together_38 : decode c_M_together 38 = .ok (.if_icmp .ne 9, 3) := by decide +kernel
theorem d_M_together_41 : decode c_M_together 41 = .ok (.iconst 1, 1) := by decide +kernel
theorem d_M_together_42 : decode c_M_together 42 = .ok (.iload_n 3, 1) := by decide +kernel
theorem d_M_together_43 : decode c_M_together 43 = .ok (.ishl, 1) := by decide +kernel
theorem d_M_together_44 : decode c_M_together 44 = .ok (.goto 4, 3) := by decide +kernel
theorem d_M_together_47 : decode c_M_together 47 = .ok (.iconst 0, 1) := by decide +kernel
theorem d_M_together_48 : decode c_M_together 48 = .ok (.ior, 1) := by decide +kernel
theorem d_M_together_49 : decode c_M_together 49 = .ok (.istore_n 2, 1) := by decide +kernel
theorem d_M_together_50 : decode c_M_together 50 = .ok (.iinc 3 1, 3) := by decide +kernel
theorem d_M_together_53 : decode c_M_together 53 = .ok (.goto (-49), 3) := by decide +kernel
theorem d_M_together_56 : decode c_M_together 56 = .ok (.iload_n 2, 1) := by decide +kernel
theorem d_M_together_57 : decode c_M_together 57 = .ok (.ireturn, 1) := by decide +kernel
theorem d_M_firstReady_0 : decode c_M_firstReady 0 = .ok (.iconst 0, 1) := by decide +kernel
theorem d_M_firstReady_1 : decode c_M_firstReady 1 = .ok (.istore_n 2, 1) := by decide +kernel
theorem d_M_firstReady_2 : decode c_M_firstReady 2 = .ok (.iload_n 2, 1) := by decide +kernel
theorem d_M_firstReady_3 : decode c_M_firstReady 3 = .ok (.aload_n 0, 1) := by decide +kernel
theorem d_M_firstReady_4 : decode c_M_firstReady 4 = .ok (.getfield 56, 3) := by decide +kernel
theorem d_M_firstReady_7 : decode c_M_firstReady 7 = .ok (.if_icmp .ge 84, 3) := by decide +kernel
theorem d_M_firstReady_10 : decode c_M_firstReady 10 = .ok (.aload_n 0, 1) := by decide +kernel
theorem d_M_firstReady_11 : decode c_M_firstReady 11 = .ok (.getfield 53, 3) := by decide +kernel
theorem d_M_firstReady_14 : decode c_M_firstReady 14 = .ok (.iload_n 2, 1) := by decide +kernel
theorem d_M_firstReady_15 : decode c_M_firstReady 15 = .ok (.iaload, 1) := by decide +kernel
theorem d_M_firstReady_16 : decode c_M_firstReady 16 = .ok (.ifCond .ge 69, 3) := by decide +kernel
theorem d_M_firstReady_19 : decode c_M_firstReady 19 = .ok (.aload_n 0, 1) := by decide +kernel
theorem d_M_firstReady_20 : decode c_M_firstReady 20 = .ok (.iload_n 2, 1) := by decide +kernel
theorem d_M_firstReady_21 : decode c_M_firstReady 21 = .ok (.invokevirtual 182, 3) := by decide +kernel
theorem d_M_firstReady_24 : decode c_M_firstReady 24 = .ok (.istore_n 3, 1) := by decide +kernel
theorem d_M_firstReady_25 : decode c_M_firstReady 25 = .ok (.iconst 0, 1) := by decide +kernel
theorem d_M_firstReady_26 : decode c_M_firstReady 26 = .ok (.istore 4, 2) := by decide +kernel
theorem d_M_firstReady_28 : decode c_M_firstReady 28 = .ok (.iconst 0, 1) := by decide +kernel
theorem d_M_firstReady_29 : decode c_M_firstReady 29 = .ok (.istore 5, 2) := by decide +kernel
theorem d_M_firstReady_31 : decode c_M_firstReady 31 = .ok (.iload 5, 2) := by decide +kernel
theorem d_M_firstReady_33 : decode c_M_firstReady 33 = .ok (.aload_n 0, 1) := by decide +kernel
theorem d_M_firstReady_34 : decode c_M_firstReady 34 = .ok (.getfield 56, 3) := by decide +kernel
theorem d_M_firstReady_37 : decode c_M_firstReady 37 = .ok (.if_icmp .ge 35, 3) := by decide +kernel
theorem d_M_firstReady_40 : decode c_M_firstReady 40 = .ok (.iload 4, 2) := by decide +kernel
theorem d_M_firstReady_42 : decode c_M_firstReady 42 = .ok (.iload_n 3, 1) := by decide +kernel
theorem d_M_firstReady_43 : decode c_M_firstReady 43 = .ok (.iload 5, 2) := by decide +kernel
theorem d_M_firstReady_45 : decode c_M_firstReady 45 = .ok (.ishr, 1) := by decide +kernel
theorem d_M_firstReady_46 : decode c_M_firstReady 46 = .ok (.iconst 1, 1) := by decide +kernel
theorem d_M_firstReady_47 : decode c_M_firstReady 47 = .ok (.iand, 1) := by decide +kernel
theorem d_M_firstReady_48 : decode c_M_firstReady 48 = .ok (.iconst 1, 1) := by decide +kernel
theorem d_M_firstReady_49 : decode c_M_firstReady 49 = .ok (.if_icmp .ne 13, 3) := by decide +kernel
theorem d_M_firstReady_52 : decode c_M_firstReady 52 = .ok (.aload_n 0, 1) := by decide +kernel
theorem d_M_firstReady_53 : decode c_M_firstReady 53 = .ok (.getfield 25, 3) := by decide +kernel
theorem d_M_firstReady_56 : decode c_M_firstReady 56 = .ok (.iload 5, 2) := by decide +kernel
theorem d_M_firstReady_58 : decode c_M_firstReady 58 = .ok (.iaload, 1) := by decide +kernel
theorem d_M_firstReady_59 : decode c_M_firstReady 59 = .ok (.goto 4, 3) := by decide +kernel
theorem d_M_firstReady_62 : decode c_M_firstReady 62 = .ok (.iconst 0, 1) := by decide +kernel
theorem d_M_firstReady_63 : decode c_M_firstReady 63 = .ok (.ior, 1) := by decide +kernel
theorem d_M_firstReady_64 : decode c_M_firstReady 64 = .ok (.istore 4, 2) := by decide +kernel
theorem d_M_firstReady_66 : decode c_M_firstReady 66 = .ok (.iinc 5 1, 3) := by decide +kernel
theorem d_M_firstReady_69 : decode c_M_firstReady 69 = .ok (.goto (-38), 3) := by decide +kernel
theorem d_M_firstReady_72 : decode c_M_firstReady 72 = .ok (.iload 4, 2) := by decide +kernel
theorem d_M_firstReady_74 : decode c_M_firstReady 74 = .ok (.iload_n 3, 1) := by decide +kernel
theorem d_M_firstReady_75 : decode c_M_firstReady 75 = .ok (.iload_n 1, 1) := by decide +kernel
theorem d_M_firstReady_76 : decode c_M_firstReady 76 = .ok (.ior, 1) := by decide +kernel
theorem d_M_firstReady_77 : decode c_M_firstReady 77 = .ok (.iconst (-1), 1) := by decide +kernel
theorem d_M_firstReady_78 : decode c_M_firstReady 78 = .ok (.ixor, 1) := by decide +kernel
theorem d_M_firstReady_79 : decode c_M_firstReady 79 = .ok (.iand, 1) := by decide +kernel
theorem d_M_firstReady_80 : decode c_M_firstReady 80 = .ok (.ifCond .ne 5, 3) := by decide +kernel
theorem d_M_firstReady_83 : decode c_M_firstReady 83 = .ok (.iload_n 2, 1) := by decide +kernel
theorem d_M_firstReady_84 : decode c_M_firstReady 84 = .ok (.ireturn, 1) := by decide +kernel
theorem d_M_firstReady_85 : decode c_M_firstReady 85 = .ok (.iinc 2 1, 3) := by decide +kernel
theorem d_M_firstReady_88 : decode c_M_firstReady 88 = .ok (.goto (-86), 3) := by decide +kernel
theorem d_M_firstReady_91 : decode c_M_firstReady 91 = .ok (.iconst (-1), 1) := by decide +kernel
theorem d_M_firstReady_92 : decode c_M_firstReady 92 = .ok (.ireturn, 1) := by decide +kernel
theorem d_M_components_0 : decode c_M_components 0 = .ok (.aload_n 0, 1) := by decide +kernel
theorem d_M_components_1 : decode c_M_components 1 = .ok (.invokevirtual 185, 3) := by decide +kernel
theorem d_M_components_4 : decode c_M_components 4 = .ok (.aload_n 0, 1) := by decide +kernel
theorem d_M_components_5 : decode c_M_components 5 = .ok (.getfield 176, 3) := by decide +kernel
theorem d_M_components_8 : decode c_M_components 8 = .ok (.ireturn, 1) := by decide +kernel
theorem d_M_component_0 : decode c_M_component 0 = .ok (.aload_n 0, 1) := by decide +kernel
theorem d_M_component_1 : decode c_M_component 1 = .ok (.iload_n 1, 1) := by decide +kernel
theorem d_M_component_2 : decode c_M_component 2 = .ok (.invokevirtual 68, 3) := by decide +kernel
theorem d_M_component_5 : decode c_M_component 5 = .ok (.ifCond .ne 5, 3) := by decide +kernel
theorem d_M_component_8 : decode c_M_component 8 = .ok (.iconst (-1), 1) := by decide +kernel
theorem d_M_component_9 : decode c_M_component 9 = .ok (.ireturn, 1) := by decide +kernel
theorem d_M_component_10 : decode c_M_component 10 = .ok (.aload_n 0, 1) := by decide +kernel
theorem d_M_component_11 : decode c_M_component 11 = .ok (.invokevirtual 185, 3) := by decide +kernel
theorem d_M_component_14 : decode c_M_component 14 = .ok (.aload_n 0, 1) := by decide +kernel
theorem d_M_component_15 : decode c_M_component 15 = .ok (.getfield 53, 3) := by decide +kernel
theorem d_M_component_18 : decode c_M_component 18 = .ok (.iload_n 1, 1) := by decide +kernel
theorem d_M_component_19 : decode c_M_component 19 = .ok (.iaload, 1) := by decide +kernel
theorem d_M_component_20 : decode c_M_component 20 = .ok (.ireturn, 1) := by decide +kernel
theorem d_M_prefer_0 : decode c_M_prefer 0 = .ok (.aload_n 0, 1) := by decide +kernel
theorem d_M_prefer_1 : decode c_M_prefer 1 = .ok (.iload_n 1, 1) := by decide +kernel
theorem d_M_prefer_2 : decode c_M_prefer 2 = .ok (.invokevirtual 68, 3) := by decide +kernel
theorem d_M_prefer_5 : decode c_M_prefer 5 = .ok (.ifCond .eq 30, 3) := by decide +kernel
theorem d_M_prefer_8 : decode c_M_prefer 8 = .ok (.iload_n 2, 1) := by decide +kernel
theorem d_M_prefer_9 : decode c_M_prefer 9 = .ok (.ifCond .lt 26, 3) := by decide +kernel
theorem d_M_prefer_12 : decode c_M_prefer 12 = .ok (.iload_n 2, 1) := by decide +kernel
theorem d_M_prefer_13 : decode c_M_prefer 13 = .ok (.bipush 100, 2) := by decide +kernel
theorem d_M_prefer_15 : decode c_M_prefer 15 = .ok (.if_icmp .gt 20, 3) := by decide +kernel
theorem d_M_prefer_18 : decode c_M_prefer 18 = .ok (.iload_n 2, 1) := by decide +kernel
theorem d_M_prefer_19 : decode c_M_prefer 19 = .ok (.ifCond .ne 18, 3) := by decide +kernel
theorem d_M_prefer_22 : decode c_M_prefer 22 = .ok (.aload_n 0, 1) := by decide +kernel
theorem d_M_prefer_23 : decode c_M_prefer 23 = .ok (.invokevirtual 188, 3) := by decide +kernel
theorem d_M_prefer_26 : decode c_M_prefer 26 = .ok (.aload_n 0, 1) := by decide +kernel
theorem d_M_prefer_27 : decode c_M_prefer 27 = .ok (.getfield 37, 3) := by decide +kernel
theorem d_M_prefer_30 : decode c_M_prefer 30 = .ok (.iload_n 1, 1) := by decide +kernel
theorem d_M_prefer_31 : decode c_M_prefer 31 = .ok (.iaload, 1) := by decide +kernel
theorem d_M_prefer_32 : decode c_M_prefer 32 = .ok (.if_icmp .ne 5, 3) := by decide +kernel
theorem d_M_prefer_35 : decode c_M_prefer 35 = .ok (.iconst 0, 1) := by decide +kernel
theorem d_M_prefer_36 : decode c_M_prefer 36 = .ok (.ireturn, 1) := by decide +kernel
theorem d_M_prefer_37 : decode c_M_prefer 37 = .ok (.aload_n 0, 1) := by decide +kernel
theorem d_M_prefer_38 : decode c_M_prefer 38 = .ok (.getfield 37, 3) := by decide +kernel
theorem d_M_prefer_41 : decode c_M_prefer 41 = .ok (.iload_n 1, 1) := by decide +kernel
theorem d_M_prefer_42 : decode c_M_prefer 42 = .ok (.iload_n 2, 1) := by decide +kernel
theorem d_M_prefer_43 : decode c_M_prefer 43 = .ok (.iastore, 1) := by decide +kernel
theorem d_M_prefer_44 : decode c_M_prefer 44 = .ok (.iconst 1, 1) := by decide +kernel
theorem d_M_prefer_45 : decode c_M_prefer 45 = .ok (.ireturn, 1) := by decide +kernel
theorem d_M_total_0 : decode c_M_total 0 = .ok (.iconst 0, 1) := by decide +kernel
theorem d_M_total_1 : decode c_M_total 1 = .ok (.istore_n 1, 1) := by decide +kernel
theorem d_M_total_2 : decode c_M_total 2 = .ok (.iconst 0, 1) := by decide +kernel
theorem d_M_total_3 : decode c_M_total 3 = .ok (.istore_n 2, 1) := by decide +kernel
theorem d_M_total_4 : decode c_M_total 4 = .ok (.iload_n 2, 1) := by decide +kernel
theorem d_M_total_5 : decode c_M_total 5 = .ok (.aload_n 0, 1) := by decide +kernel
theorem d_M_total_6 : decode c_M_total 6 = .ok (.getfield 56, 3) := by decide +kernel
theorem d_M_total_9 : decode c_M_total 9 = .ok (.if_icmp .ge 18, 3) := by decide +kernel
theorem d_M_total_12 : decode c_M_total 12 = .ok (.iload_n 1, 1) := by decide +kernel
theorem d_M_total_13 : decode c_M_total 13 = .ok (.aload_n 0, 1) := by decide +kernel
theorem d_M_total_14 : decode c_M_total 14 = .ok (.getfield 37, 3) := by decide +kernel
theorem d_M_total_17 : decode c_M_total 17 = .ok (.iload_n 2, 1) := by decide +kernel
theorem d_M_total_18 : decode c_M_total 18 = .ok (.iaload, 1) := by decide +kernel
theorem d_M_total_19 : decode c_M_total 19 = .ok (.iadd, 1) := by decide +kernel
theorem d_M_total_20 : decode c_M_total 20 = .ok (.istore_n 1, 1) := by decide +kernel
theorem d_M_total_21 : decode c_M_total 21 = .ok (.iinc 2 1, 3) := by decide +kernel
theorem d_M_total_24 : decode c_M_total 24 = .ok (.goto (-20), 3) := by decide +kernel
theorem d_M_total_27 : decode c_M_total 27 = .ok (.iload_n 1, 1) := by decide +kernel
theorem d_M_total_28 : decode c_M_total 28 = .ok (.ireturn, 1) := by decide +kernel
theorem d_M_start_0 : decode c_M_start 0 = .ok (.iload_n 1, 1) := by decide +kernel
theorem d_M_start_1 : decode c_M_start 1 = .ok (.ifCond .lt 19, 3) := by decide +kernel
theorem d_M_start_4 : decode c_M_start 4 = .ok (.iload_n 1, 1) := by decide +kernel
theorem d_M_start_5 : decode c_M_start 5 = .ok (.iconst 2, 1) := by decide +kernel
theorem d_M_start_6 : decode c_M_start 6 = .ok (.if_icmp .gt 14, 3) := by decide +kernel
theorem d_M_start_9 : decode c_M_start 9 = .ok (.iload_n 2, 1) := by decide +kernel
theorem d_M_start_10 : decode c_M_start 10 = .ok (.ifCond .lt 10, 3) := by decide +kernel
theorem d_M_start_13 : decode c_M_start 13 = .ok (.iload_n 2, 1) := by decide +kernel
theorem d_M_start_14 : decode c_M_start 14 = .ok (.sipush 1000, 3) := by decide +kernel
theorem d_M_start_17 : decode c_M_start 17 = .ok (.if_icmp .le 5, 3) := by decide +kernel
theorem d_M_start_20 : decode c_M_start 20 = .ok (.iconst 0, 1) := by decide +kernel
theorem d_M_start_21 : decode c_M_start 21 = .ok (.ireturn, 1) := by decide +kernel
theorem d_M_start_22 : decode c_M_start 22 = .ok (.aload_n 0, 1) := by decide +kernel
theorem d_M_start_23 : decode c_M_start 23 = .ok (.iload_n 1, 1) := by decide +kernel
theorem d_M_start_24 : decode c_M_start 24 = .ok (.putfield 191, 3) := by decide +kernel
theorem d_M_start_27 : decode c_M_start 27 = .ok (.aload_n 0, 1) := by decide +kernel
theorem d_M_start_28 : decode c_M_start 28 = .ok (.iload_n 2, 1) := by decide +kernel
theorem d_M_start_29 : decode c_M_start 29 = .ok (.putfield 194, 3) := by decide +kernel
theorem d_M_start_32 : decode c_M_start 32 = .ok (.aload_n 0, 1) := by decide +kernel
theorem d_M_start_33 : decode c_M_start 33 = .ok (.lconst 0, 1) := by decide +kernel
theorem d_M_start_34 : decode c_M_start 34 = .ok (.putfield 197, 3) := by decide +kernel
theorem d_M_start_37 : decode c_M_start 37 = .ok (.iconst 0, 1) := by decide +kernel
theorem d_M_start_38 : decode c_M_start 38 = .ok (.istore_n 3, 1) := by decide +kernel
theorem d_M_start_39 : decode c_M_start 39 = .ok (.iload_n 3, 1) := by decide +kernel
theorem d_M_start_40 : decode c_M_start 40 = .ok (.aload_n 0, 1) := by decide +kernel
theorem d_M_start_41 : decode c_M_start 41 = .ok (.getfield 56, 3) := by decide +kernel
theorem d_M_start_44 : decode c_M_start 44 = .ok (.if_icmp .ge 53, 3) := by decide +kernel
theorem d_M_start_47 : decode c_M_start 47 = .ok (.aload_n 0, 1) := by decide +kernel
theorem d_M_start_48 : decode c_M_start 48 = .ok (.getfield 40, 3) := by decide +kernel
theorem d_M_start_51 : decode c_M_start 51 = .ok (.iload_n 3, 1) := by decide +kernel
theorem d_M_start_52 : decode c_M_start 52 = .ok (.iload_n 1, 1) := by decide +kernel
theorem d_M_start_53 : decode c_M_start 53 = .ok (.iconst 1, 1) := by decide +kernel
theorem d_M_start_54 : decode c_M_start 54 = .ok (.if_icmp .ne 9, 3) := by decide +kernel
theorem d_M_start_57 : decode c_M_start 57 = .ok (.ldc2_w 201, 3) := by decide +kernel
theorem d_M_start_60 : decode c_M_start 60 = .ok (.goto 12, 3) := by decide +kernel
theorem d_M_start_63 : decode c_M_start 63 = .ok (.ldc2_w 203, 3) := by decide +kernel
theorem d_M_start_66 : decode c_M_start 66 = .ok (.aload_n 0, 1) := by decide +kernel
theorem d_M_start_67 : decode c_M_start 67 = .ok (.getfield 56, 3) := by decide +kernel
theorem d_M_start_70 : decode c_M_start 70 = .ok (.i2l, 1) := by decide +kernel
theorem d_M_start_71 : decode c_M_start 71 = .ok (.ldiv, 1) := by decide +kernel
theorem d_M_start_72 : decode c_M_start 72 = .ok (.lastore, 1) := by decide +kernel
theorem d_M_start_73 : decode c_M_start 73 = .ok (.aload_n 0, 1) := by decide +kernel
theorem d_M_start_74 : decode c_M_start 74 = .ok (.getfield 44, 3) := by decide +kernel
theorem d_M_start_77 : decode c_M_start 77 = .ok (.iload_n 3, 1) := by decide +kernel
theorem d_M_start_78 : decode c_M_start 78 = .ok (.iload_n 1, 1) := by decide +kernel
theorem d_M_start_79 : decode c_M_start 79 = .ok (.iconst 1, 1) := by decide +kernel
theorem d_M_start_80 : decode c_M_start 80 = .ok (.if_icmp .ne 9, 3) := by decide +kernel
theorem d_M_start_83 : decode c_M_start 83 = .ok (.ldc2_w 201, 3) := by decide +kernel
theorem d_M_start_86 : decode c_M_start 86 = .ok (.goto 4, 3) := by decide +kernel
theorem d_M_start_89 : decode c_M_start 89 = .ok (.lconst 0, 1) := by decide +kernel
theorem d_M_start_90 : decode c_M_start 90 = .ok (.lastore, 1) := by decide +kernel
theorem d_M_start_91 : decode c_M_start 91 = .ok (.iinc 3 1, 3) := by decide +kernel
theorem d_M_start_94 : decode c_M_start 94 = .ok (.goto (-55), 3) := by decide +kernel
theorem d_M_start_97 : decode c_M_start 97 = .ok (.iconst 1, 1) := by decide +kernel
theorem d_M_start_98 : decode c_M_start 98 = .ok (.ireturn, 1) := by decide +kernel
theorem d_M_links_0 : decode c_M_links 0 = .ok (.aload_n 0, 1) := by decide +kernel
theorem d_M_links_1 : decode c_M_links 1 = .ok (.getfield 25, 3) := by decide +kernel
theorem d_M_links_4 : decode c_M_links 4 = .ok (.iload_n 1, 1) := by decide +kernel
theorem d_M_links_5 : decode c_M_links 5 = .ok (.iaload, 1) := by decide +kernel
theorem d_M_links_6 : decode c_M_links 6 = .ok (.iload_n 2, 1) := by decide +kernel
theorem d_M_links_7 : decode c_M_links 7 = .ok (.ishr, 1) := by decide +kernel
theorem d_M_links_8 : decode c_M_links 8 = .ok (.iconst 1, 1) := by decide +kernel
theorem d_M_links_9 : decode c_M_links 9 = .ok (.iand, 1) := by decide +kernel
theorem d_M_links_10 : decode c_M_links 10 = .ok (.iconst 1, 1) := by decide +kernel
theorem d_M_links_11 : decode c_M_links 11 = .ok (.if_icmp .ne 7, 3) := by decide +kernel
theorem d_M_links_14 : decode c_M_links 14 = .ok (.iconst 1, 1) := by decide +kernel
theorem d_M_links_15 : decode c_M_links 15 = .ok (.goto 4, 3) := by decide +kernel
theorem d_M_links_18 : decode c_M_links 18 = .ok (.iconst 0, 1) := by decide +kernel
theorem d_M_links_19 : decode c_M_links 19 = .ok (.ireturn, 1) := by decide +kernel
theorem d_M_into_0 : decode c_M_into 0 = .ok (.iconst 0, 1) := by decide +kernel
theorem d_M_into_1 : decode c_M_into 1 = .ok (.istore_n 2, 1) := by decide +kernel
theorem d_M_into_2 : decode c_M_into 2 = .ok (.iconst 0, 1) := by decide +kernel
theorem d_M_into_3 : decode c_M_into 3 = .ok (.istore_n 3, 1) := by decide +kernel
theorem d_M_into_4 : decode c_M_into 4 = .ok (.iload_n 3, 1) := by decide +kernel
theorem d_M_into_5 : decode c_M_into 5 = .ok (.aload_n 0, 1) := by decide +kernel
theorem d_M_into_6 : decode c_M_into 6 = .ok (.getfield 56, 3) := by decide +kernel
theorem d_M_into_9 : decode c_M_into 9 = .ok (.if_icmp .ge 26, 3) := by decide +kernel
theorem d_M_into_12 : decode c_M_into 12 = .ok (.iload_n 2, 1) := by decide +kernel
theorem d_M_into_13 : decode c_M_into 13 = .ok (.aload_n 0, 1) := by decide +kernel
theorem d_M_into_14 : decode c_M_into 14 = .ok (.iload_n 3, 1) := by decide +kernel
theorem d_M_into_15 : decode c_M_into 15 = .ok (.iload_n 1, 1) := by decide +kernel
theorem d_M_into_16 : decode c_M_into 16 = .ok (.invokevirtual 205, 3) := by decide +kernel
theorem d_M_into_19 : decode c_M_into 19 = .ok (.ifCond .eq 7, 3) := by decide +kernel
theorem d_M_into_22 : decode c_M_into 22 = .ok (.iconst 1, 1) := by decide +kernel
theorem d_M_into_23 : decode c_M_into 23 = .ok (.goto 4, 3) := by decide +kernel
theorem d_M_into_26 : decode c_M_into 26 = .ok (.iconst 0, 1) := by decide +kernel
theorem d_M_into_27 : decode c_M_into 27 = .ok (.iadd, 1) := by decide +kernel
theorem d_M_into_28 : decode c_M_into 28 = .ok (.istore_n 2, 1) := by decide +kernel
theorem d_M_into_29 : decode c_M_into 29 = .ok (.iinc 3 1, 3) := by decide +kernel
theorem d_M_into_32 : decode c_M_into 32 = .ok (.goto (-28), 3) := by decide +kernel
theorem d_M_into_35 : decode c_M_into 35 = .ok (.iload_n 2, 1) := by decide +kernel
theorem d_M_into_36 : decode c_M_into 36 = .ok (.ireturn, 1) := by decide +kernel
theorem d_M_stepRank_0 : decode c_M_stepRank 0 = .ok (.aload_n 0, 1) := by decide +kernel
theorem d_M_stepRank_1 : decode c_M_stepRank 1 = .ok (.invokevirtual 188, 3) := by decide +kernel
theorem d_M_stepRank_4 : decode c_M_stepRank 4 = .ok (.i2l, 1) := by decide +kernel
theorem d_M_stepRank_5 : decode c_M_stepRank 5 = .ok (.lstore_n 1, 1) := by decide +kernel
theorem d_M_stepRank_6 : decode c_M_stepRank 6 = .ok (.lconst 0, 1) := by decide +kernel
theorem d_M_stepRank_7 : decode c_M_stepRank 7 = .ok (.lstore_n 3, 1) := by decide +kernel
theorem d_M_stepRank_8 : decode c_M_stepRank 8 = .ok (.iconst 0, 1) := by decide +kernel
theorem d_M_stepRank_9 : decode c_M_stepRank 9 = .ok (.istore 5, 2) := by decide +kernel
theorem d_M_stepRank_11 : decode c_M_stepRank 11 = .ok (.iload 5, 2) := by decide +kernel
theorem d_M_stepRank_13 : decode c_M_stepRank 13 = .ok (.aload_n 0, 1) := by decide +kernel
theorem d_M_stepRank_14 : decode c_M_stepRank 14 = .ok (.getfield 56, 3) := by decide +kernel
theorem d_M_stepRank_17 : decode c_M_stepRank 17 = .ok (.if_icmp .ge 33, 3) := by decide +kernel
theorem d_M_stepRank_20 : decode c_M_stepRank 20 = .ok (.lload_n 3, 1) := by decide +kernel
theorem d_M_stepRank_21 : decode c_M_stepRank 21 = .ok (.aload_n 0, 1) := by decide +kernel
theorem d_M_stepRank_22 : decode c_M_stepRank 22 = .ok (.getfield 25, 3) := by decide +kernel
theorem d_M_stepRank_25 : decode c_M_stepRank 25 = .ok (.iload 5, 2) := by decide +kernel
theorem d_M_stepRank_27 : decode c_M_stepRank 27 = .ok (.iaload, 1) := by decide +kernel
theorem d_M_stepRank_28 : decode c_M_stepRank 28 = .ok (.ifCond .ne 13, 3) := by decide +kernel
theorem d_M_stepRank_31 : decode c_M_stepRank 31 = .ok (.aload_n 0, 1) := by decide +kernel
theorem d_M_stepRank_32 : decode c_M_stepRank 32 = .ok (.getfield 40, 3) := by decide +kernel
theorem d_M_stepRank_35 : decode c_M_stepRank 35 = .ok (.iload 5, 2) := by decide +kernel
theorem d_M_stepRank_37 : decode c_M_stepRank 37 = .ok (.laload, 1) := by decide +kernel
theorem d_M_stepRank_38 : decode c_M_stepRank 38 = .ok (.goto 4, 3) := by decide +kernel
theorem d_M_stepRank_41 : decode c_M_stepRank 41 = .ok (.lconst 0, 1) := by decide +kernel
theorem d_M_stepRank_42 : decode c_M_stepRank 42 = .ok (.ladd, 1) := by decide +kernel
theorem d_M_stepRank_43 : decode c_M_stepRank 43 = .ok (.lstore_n 3, 1) := by decide +kernel
theorem d_M_stepRank_44 : decode c_M_stepRank 44 = .ok (.iinc 5 1, 3) := by decide +kernel
theorem d_M_stepRank_47 : decode c_M_stepRank 47 = .ok (.goto (-36), 3) := by decide +kernel
theorem d_M_stepRank_50 : decode c_M_stepRank 50 = .ok (.iconst 0, 1) := by decide +kernel
theorem d_M_stepRank_51 : decode c_M_stepRank 51 = .ok (.istore 5, 2) := by decide +kernel
theorem d_M_stepRank_53 : decode c_M_stepRank 53 = .ok (.iload 5, 2) := by decide +kernel
theorem d_M_stepRank_55 : decode c_M_stepRank 55 = .ok (.aload_n 0, 1) := by decide +kernel
theorem d_M_stepRank_56 : decode c_M_stepRank 56 = .ok (.getfield 56, 3) := by decide +kernel
theorem d_M_stepRank_59 : decode c_M_stepRank 59 = .ok (.if_icmp .ge 126, 3) := by decide +kernel
theorem d_M_stepRank_62 : decode c_M_stepRank 62 = .ok (.lconst 0, 1) := by decide +kernel
theorem d_M_stepRank_63 : decode c_M_stepRank 63 = .ok (.lstore 6, 2) := by decide +kernel
theorem d_M_stepRank_65 : decode c_M_stepRank 65 = .ok (.iconst 0, 1) := by decide +kernel
theorem d_M_stepRank_66 : decode c_M_stepRank 66 = .ok (.istore 8, 2) := by decide +kernel
theorem d_M_stepRank_68 : decode c_M_stepRank 68 = .ok (.iload 8, 2) := by decide +kernel
theorem d_M_stepRank_70 : decode c_M_stepRank 70 = .ok (.aload_n 0, 1) := by decide +kernel
theorem d_M_stepRank_71 : decode c_M_stepRank 71 = .ok (.getfield 56, 3) := by decide +kernel
theorem d_M_stepRank_74 : decode c_M_stepRank 74 = .ok (.if_icmp .ge 48, 3) := by decide +kernel
theorem d_M_stepRank_77 : decode c_M_stepRank 77 = .ok (.lload 6, 2) := by decide +kernel
theorem d_M_stepRank_79 : decode c_M_stepRank 79 = .ok (.aload_n 0, 1) := by decide +kernel
theorem d_M_stepRank_80 : decode c_M_stepRank 80 = .ok (.iload 8, 2) := by decide +kernel
theorem d_M_stepRank_82 : decode c_M_stepRank 82 = .ok (.iload 5, 2) := by decide +kernel
theorem d_M_stepRank_84 : decode c_M_stepRank 84 = .ok (.invokevirtual 205, 3) := by decide +kernel
theorem d_M_stepRank_87 : decode c_M_stepRank 87 = .ok (.ifCond .eq 25, 3) := by decide +kernel
theorem d_M_stepRank_90 : decode c_M_stepRank 90 = .ok (.aload_n 0, 1) := by decide +kernel
theorem d_M_stepRank_91 : decode c_M_stepRank 91 = .ok (.getfield 40, 3) := by decide +kernel
theorem d_M_stepRank_94 : decode c_M_stepRank 94 = .ok (.iload 8, 2) := by decide +kernel
theorem d_M_stepRank_96 : decode c_M_stepRank 96 = .ok (.laload, 1) := by decide +kernel
theorem d_M_stepRank_97 : decode c_M_stepRank 97 = .ok (.aload_n 0, 1) := by decide +kernel
theorem d_M_stepRank_98 : decode c_M_stepRank 98 = .ok (.getfield 25, 3) := by decide +kernel
theorem d_M_stepRank_101 : decode c_M_stepRank 101 = .ok (.iload 8, 2) := by decide +kernel
theorem d_M_stepRank_103 : decode c_M_stepRank 103 = .ok (.iaload, 1) := by decide +kernel
theorem d_M_stepRank_104 : decode c_M_stepRank 104 = .ok (.invokestatic 106, 3) := by decide +kernel
theorem d_M_stepRank_107 : decode c_M_stepRank 107 = .ok (.i2l, 1) := by decide +kernel
theorem d_M_stepRank_108 : decode c_M_stepRank 108 = .ok (.ldiv, 1) := by decide +kernel
theorem d_M_stepRank_109 : decode c_M_stepRank 109 = .ok (.goto 4, 3) := by decide +kernel
theorem d_M_stepRank_112 : decode c_M_stepRank 112 = .ok (.lconst 0, 1) := by decide +kernel
theorem d_M_stepRank_113 : decode c_M_stepRank 113 = .ok (.ladd, 1) := by decide +kernel
theorem d_M_stepRank_114 : decode c_M_stepRank 114 = .ok (.lstore 6, 2) := by decide +kernel
theorem d_M_stepRank_116 : decode c_M_stepRank 116 = .ok (.iinc 8 1, 3) := by decide +kernel
theorem d_M_stepRank_119 : decode c_M_stepRank 119 = .ok (.goto (-51), 3) := by decide +kernel
theorem d_M_stepRank_122 : decode c_M_stepRank 122 = .ok (.aload_n 0, 1) := by decide +kernel
theorem d_M_stepRank_123 : decode c_M_stepRank 123 = .ok (.getfield 47, 3) := by decide +kernel
theorem d_M_stepRank_126 : decode c_M_stepRank 126 = .ok (.iload 5, 2) := by decide +kernel
theorem d_M_stepRank_128 : decode c_M_stepRank 128 = .ok (.sipush 1000, 3) := by decide +kernel
theorem d_M_stepRank_131 : decode c_M_stepRank 131 = .ok (.aload_n 0, 1) := by decide +kernel
theorem d_M_stepRank_132 : decode c_M_stepRank 132 = .ok (.getfield 194, 3) := by decide +kernel
theorem d_M_stepRank_135 : decode c_M_stepRank 135 = .ok (.isub, 1) := by decide +kernel
theorem d_M_stepRank_136 : decode c_M_stepRank 136 = .ok (.i2l, 1) := by decide +kernel
theorem d_M_stepRank_137 : decode c_M_stepRank 137 = .ok (.ldc2_w 208, 3) := by decide +kernel
theorem d_M_stepRank_140 : decode c_M_stepRank 140 = .ok (.lmul, 1) := by decide +kernel
theorem d_M_stepRank_141 : decode c_M_stepRank 141 = .ok (.aload_n 0, 1) := by decide +kernel
theorem d_M_stepRank_142 : decode c_M_stepRank 142 = .ok (.getfield 37, 3) := by decide +kernel
theorem d_M_stepRank_145 : decode c_M_stepRank 145 = .ok (.iload 5, 2) := by decide +kernel
theorem d_M_stepRank_147 : decode c_M_stepRank 147 = .ok (.iaload, 1) := by decide +kernel
theorem d_M_stepRank_148 : decode c_M_stepRank 148 = .ok (.i2l, 1) := by decide +kernel
theorem d_M_stepRank_149 : decode c_M_stepRank 149 = .ok (.lmul, 1) := by decide +kernel
theorem d_M_stepRank_150 : decode c_M_stepRank 150 = .ok (.lload_n 1, 1) := by decide +kernel
theorem d_M_stepRank_151 : decode c_M_stepRank 151 = .ok (.ldiv, 1) := by decide +kernel
theorem d_M_stepRank_152 : decode c_M_stepRank 152 = .ok (.aload_n 0, 1) := by decide +kernel
theorem d_M_stepRank_153 : decode c_M_stepRank 153 = .ok (.getfield 194, 3) := by decide +kernel
theorem d_M_stepRank_156 : decode c_M_stepRank 156 = .ok (.i2l, 1) := by decide +kernel
theorem d_M_stepRank_157 : decode c_M_stepRank 157 = .ok (.lload 6, 2) := by decide +kernel
theorem d_M_stepRank_159 : decode c_M_stepRank 159 = .ok (.lload_n 3, 1) := by decide +kernel
theorem d_M_stepRank_160 : decode c_M_stepRank 160 = .ok (.aload_n 0, 1) := by decide +kernel
theorem d_M_stepRank_161 : decode c_M_stepRank 161 = .ok (.getfield 37, 3) := by decide +kernel
theorem d_M_stepRank_164 : decode c_M_stepRank 164 = .ok (.iload 5, 2) := by decide +kernel
theorem d_M_stepRank_166 : decode c_M_stepRank 166 = .ok (.iaload, 1) := by decide +kernel
theorem d_M_stepRank_167 : decode c_M_stepRank 167 = .ok (.i2l, 1) := by decide +kernel
theorem d_M_stepRank_168 : decode c_M_stepRank 168 = .ok (.lmul, 1) := by decide +kernel
theorem d_M_stepRank_169 : decode c_M_stepRank 169 = .ok (.lload_n 1, 1) := by decide +kernel
theorem d_M_stepRank_170 : decode c_M_stepRank 170 = .ok (.ldiv, 1) := by decide +kernel
theorem d_M_stepRank_171 : decode c_M_stepRank 171 = .ok (.ladd, 1) := by decide +kernel
theorem d_M_stepRank_172 : decode c_M_stepRank 172 = .ok (.lmul, 1) := by decide +kernel
theorem d_M_stepRank_173 : decode c_M_stepRank 173 = .ok (.ldc2_w 210, 3) := by decide +kernel
theorem d_M_stepRank_176 : decode c_M_stepRank 176 = .ok (.ldiv, 1) := by decide +kernel
theorem d_M_stepRank_177 : decode c_M_stepRank 177 = .ok (.ladd, 1) := by decide +kernel
theorem d_M_stepRank_178 : decode c_M_stepRank 178 = .ok (.lastore, 1) := by decide +kernel
theorem d_M_stepRank_179 : decode c_M_stepRank 179 = .ok (.iinc 5 1, 3) := by decide +kernel
theorem d_M_stepRank_182 : decode c_M_stepRank 182 = .ok (.goto (-129), 3) := by decide +kernel
theorem d_M_stepRank_185 : decode c_M_stepRank 185 = .ok (.return_, 1) := by decide +kernel
theorem d_M_bring_0 : decode c_M_bring 0 = .ok (.lconst 0, 1) := by decide +kernel
theorem d_M_bring_1 : decode c_M_bring 1 = .ok (.lstore_n 2, 1) := by decide +kernel
theorem d_M_bring_2 : decode c_M_bring 2 = .ok (.iconst 0, 1) := by decide +kernel
theorem d_M_bring_3 : decode c_M_bring 3 = .ok (.istore 4, 2) := by decide +kernel
theorem d_M_bring_5 : decode c_M_bring 5 = .ok (.iload 4, 2) := by decide +kernel
theorem d_M_bring_7 : decode c_M_bring 7 = .ok (.aload_n 0, 1) := by decide +kernel
theorem d_M_bring_8 : decode c_M_bring 8 = .ok (.getfield 56, 3) := by decide +kernel
theorem d_M_bring_11 : decode c_M_bring 11 = .ok (.if_icmp .ge 46, 3) := by decide +kernel
theorem d_M_bring_14 : decode c_M_bring 14 = .ok (.iload_n 1, 1) := by decide +kernel
theorem d_M_bring_15 : decode c_M_bring 15 = .ok (.ifCond .eq 13, 3) := by decide +kernel
theorem d_M_bring_18 : decode c_M_bring 18 = .ok (.aload_n 0, 1) := by decide +kernel
theorem d_M_bring_19 : decode c_M_bring 19 = .ok (.getfield 44, 3) := by decide +kernel
theorem d_M_bring_22 : decode c_M_bring 22 = .ok (.iload 4, 2) := by decide +kernel
theorem d_M_bring_24 : decode c_M_bring 24 = .ok (.laload, 1) := by decide +kernel
theorem d_M_bring_25 : decode c_M_bring 25 = .ok (.goto 10, 3) := by decide +kernel
theorem d_M_bring_28 : decode c_M_bring 28 = .ok (.aload_n 0, 1) := by decide +kernel
theorem d_M_bring_29 : decode c_M_bring 29 = .ok (.getfield 47, 3) := by decide +kernel
theorem d_M_bring_32 : decode c_M_bring 32 = .ok (.iload 4, 2) := by decide +kernel
theorem d_M_bring_34 : decode c_M_bring 34 = .ok (.laload, 1) := by decide +kernel
theorem d_M_bring_35 : decode c_M_bring 35 = .ok (.lstore 5, 2) := by decide +kernel
theorem d_M_bring_37 : decode c_M_bring 37 = .ok (.lload 5, 2) := by decide +kernel
theorem d_M_bring_39 : decode c_M_bring 39 = .ok (.lload_n 2, 1) := by decide +kernel
theorem d_M_bring_40 : decode c_M_bring 40 = .ok (.lcmp, 1) := by decide +kernel
theorem d_M_bring_41 : decode c_M_bring 41 = .ok (.ifCond .le 8, 3) := by decide +kernel
theorem d_M_bring_44 : decode c_M_bring 44 = .ok (.lload 5, 2) := by decide +kernel
theorem d_M_bring_46 : decode c_M_bring 46 = .ok (.goto 4, 3) := by decide +kernel
theorem d_M_bring_49 : decode c_M_bring 49 = .ok (.lload_n 2, 1) := by decide +kernel
theorem d_M_bring_50 : decode c_M_bring 50 = .ok (.lstore_n 2, 1) := by decide +kernel
theorem d_M_bring_51 : decode c_M_bring 51 = .ok (.iinc 4 1, 3) := by decide +kernel
theorem d_M_bring_54 : decode c_M_bring 54 = .ok (.goto (-49), 3) := by decide +kernel
theorem d_M_bring_57 : decode c_M_bring 57 = .ok (.iconst 0, 1) := by decide +kernel
theorem d_M_bring_58 : decode c_M_bring 58 = .ok (.istore 4, 2) := by decide +kernel
theorem d_M_bring_60 : decode c_M_bring 60 = .ok (.iload 4, 2) := by decide +kernel
theorem d_M_bring_62 : decode c_M_bring 62 = .ok (.aload_n 0, 1) := by decide +kernel
theorem d_M_bring_63 : decode c_M_bring 63 = .ok (.getfield 56, 3) := by decide +kernel
theorem d_M_bring_66 : decode c_M_bring 66 = .ok (.if_icmp .ge 62, 3) := by decide +kernel
theorem d_M_bring_69 : decode c_M_bring 69 = .ok (.lload_n 2, 1) := by decide +kernel
theorem d_M_bring_70 : decode c_M_bring 70 = .ok (.lconst 0, 1) := by decide +kernel
theorem d_M_bring_71 : decode c_M_bring 71 = .ok (.lcmp, 1) := by decide +kernel
theorem d_M_bring_72 : decode c_M_bring 72 = .ok (.ifCond .le 56, 3) := by decide +kernel
theorem d_M_bring_75 : decode c_M_bring 75 = .ok (.iload_n 1, 1) := by decide +kernel
theorem d_M_bring_76 : decode c_M_bring 76 = .ok (.ifCond .eq 26, 3) := by decide +kernel
theorem d_M_bring_79 : decode c_M_bring 79 = .ok (.aload_n 0, 1) := by decide +kernel
theorem d_M_bring_80 : decode c_M_bring 80 = .ok (.getfield 44, 3) := by decide +kernel
theorem d_M_bring_83 : decode c_M_bring 83 = .ok (.iload 4, 2) := by decide +kernel
theorem d_M_bring_85 : decode c_M_bring 85 = .ok (.aload_n 0, 1) := by decide +kernel
theorem d_M_bring_86 : decode c_M_bring 86 = .ok (.getfield 44, 3) := by decide +kernel
theorem d_M_bring_89 : decode c_M_bring 89 = .ok (.iload 4, 2) := by decide +kernel
theorem d_M_bring_91 : decode c_M_bring 91 = .ok (.laload, 1) := by decide +kernel
theorem d_M_bring_92 : decode c_M_bring 92 = .ok (.ldc2_w 201, 3) := by decide +kernel
theorem d_M_bring_95 : decode c_M_bring 95 = .ok (.lmul, 1) := by decide +kernel
theorem d_M_bring_96 : decode c_M_bring 96 = .ok (.lload_n 2, 1) := by decide +kernel
theorem d_M_bring_97 : decode c_M_bring 97 = .ok (.ldiv, 1) := by decide +kernel
theorem d_M_bring_98 : decode c_M_bring 98 = .ok (.lastore, 1) := by decide +kernel
theorem d_M_bring_99 : decode c_M_bring 99 = .ok (.goto 23, 3) := by decide +kernel
theorem d_M_bring_102 : decode c_M_bring 102 = .ok (.aload_n 0, 1) := by decide +kernel
theorem d_M_bring_103 : decode c_M_bring 103 = .ok (.getfield 47, 3) := by decide +kernel
theorem d_M_bring_106 : decode c_M_bring 106 = .ok (.iload 4, 2) := by decide +kernel
theorem d_M_bring_108 : decode c_M_bring 108 = .ok (.aload_n 0, 1) := by decide +kernel
theorem d_M_bring_109 : decode c_M_bring 109 = .ok (.getfield 47, 3) := by decide +kernel
theorem d_M_bring_112 : decode c_M_bring 112 = .ok (.iload 4, 2) := by decide +kernel
theorem d_M_bring_114 : decode c_M_bring 114 = .ok (.laload, 1) := by decide +kernel
theorem d_M_bring_115 : decode c_M_bring 115 = .ok (.ldc2_w 201, 3) := by decide +kernel
theorem d_M_bring_118 : decode c_M_bring 118 = .ok (.lmul, 1) := by decide +kernel
theorem d_M_bring_119 : decode c_M_bring 119 = .ok (.lload_n 2, 1) := by decide +kernel
theorem d_M_bring_120 : decode c_M_bring 120 = .ok (.ldiv, 1) := by decide +kernel
theorem d_M_bring_121 : decode c_M_bring 121 = .ok (.lastore, 1) := by decide +kernel
theorem d_M_bring_122 : decode c_M_bring 122 = .ok (.iinc 4 1, 3) := by decide +kernel
theorem d_M_bring_125 : decode c_M_bring 125 = .ok (.goto (-65), 3) := by decide +kernel
theorem d_M_bring_128 : decode c_M_bring 128 = .ok (.return_, 1) := by decide +kernel
theorem d_M_stepHubs_0 : decode c_M_stepHubs 0 = .ok (.iconst 0, 1) := by decide +kernel
theorem d_M_stepHubs_1 : decode c_M_stepHubs 1 = .ok (.istore_n 1, 1) := by decide +kernel
theorem d_M_stepHubs_2 : decode c_M_stepHubs 2 = .ok (.iload_n 1, 1) := by decide +kernel
theorem d_M_stepHubs_3 : decode c_M_stepHubs 3 = .ok (.aload_n 0, 1) := by decide +kernel
theorem d_M_stepHubs_4 : decode c_M_stepHubs 4 = .ok (.getfield 56, 3) := by decide +kernel
theorem d_M_stepHubs_7 : decode c_M_stepHubs 7 = .ok (.if_icmp .ge 60, 3) := by decide +kernel
theorem d_M_stepHubs_10 : decode c_M_stepHubs 10 = .ok (.aload_n 0, 1) := by decide +kernel
theorem d_M_stepHubs_11 : decode c_M_stepHubs 11 = .ok (.getfield 47, 3) := by decide +kernel
theorem d_M_stepHubs_14 : decode c_M_stepHubs 14 = .ok (.iload_n 1, 1) := by decide +kernel
theorem d_M_stepHubs_15 : decode c_M_stepHubs 15 = .ok (.lconst 0, 1) := by decide +kernel
theorem d_M_stepHubs_16 : decode c_M_stepHubs 16 = .ok (.lastore, 1) := by decide +kernel
theorem d_M_stepHubs_17 : decode c_M_stepHubs 17 = .ok (.iconst 0, 1) := by decide +kernel
theorem d_M_stepHubs_18 : decode c_M_stepHubs 18 = .ok (.istore_n 2, 1) := by decide +kernel
theorem d_M_stepHubs_19 : decode c_M_stepHubs 19 = .ok (.iload_n 2, 1) := by decide +kernel
theorem d_M_stepHubs_20 : decode c_M_stepHubs 20 = .ok (.aload_n 0, 1) := by decide +kernel
theorem d_M_stepHubs_21 : decode c_M_stepHubs 21 = .ok (.getfield 56, 3) := by decide +kernel
theorem d_M_stepHubs_24 : decode c_M_stepHubs 24 = .ok (.if_icmp .ge 37, 3) := by decide +kernel
theorem d_M_stepHubs_27 : decode c_M_stepHubs 27 = .ok (.aload_n 0, 1) := by decide +kernel
theorem d_M_stepHubs_28 : decode c_M_stepHubs 28 = .ok (.getfield 47, 3) := by decide +kernel
theorem d_M_stepHubs_31 : decode c_M_stepHubs 31 = .ok (.iload_n 1, 1) := by decide +kernel
theorem d_M_stepHubs_32 : decode c_M_stepHubs 32 = .ok (.dup2, 1) := by decide +kernel
theorem d_M_stepHubs_33 : decode c_M_stepHubs 33 = .ok (.laload, 1) := by decide +kernel
theorem d_M_stepHubs_34 : decode c_M_stepHubs 34 = .ok (.aload_n 0, 1) := by decide +kernel
theorem d_M_stepHubs_35 : decode c_M_stepHubs 35 = .ok (.iload_n 2, 1) := by decide +kernel
theorem d_M_stepHubs_36 : decode c_M_stepHubs 36 = .ok (.iload_n 1, 1) := by decide +kernel
theorem d_M_stepHubs_37 : decode c_M_stepHubs 37 = .ok (.invokevirtual 205, 3) := by decide +kernel
theorem d_M_stepHubs_40 : decode c_M_stepHubs 40 = .ok (.ifCond .eq 12, 3) := by decide +kernel
theorem d_M_stepHubs_43 : decode c_M_stepHubs 43 = .ok (.aload_n 0, 1) := by decide +kernel
theorem d_M_stepHubs_44 : decode c_M_stepHubs 44 = .ok (.getfield 44, 3) := by decide +kernel
theorem d_M_stepHubs_47 : decode c_M_stepHubs 47 = .ok (.iload_n 2, 1) := by decide +kernel
theorem d_M_stepHubs_48 : decode c_M_stepHubs 48 = .ok (.laload, 1) := by decide +kernel
theorem d_M_stepHubs_49 : decode c_M_stepHubs 49 = .ok (.goto 4, 3) := by decide +kernel
theorem d_M_stepHubs_52 : decode c_M_stepHubs 52 = .ok (.lconst 0, 1) := by decide +kernel
theorem d_M_stepHubs_53 : decode c_M_stepHubs 53 = .ok (.ladd, 1) := by decide +kernel
theorem d_M_stepHubs_54 : decode c_M_stepHubs 54 = .ok (.lastore, 1) := by decide +kernel
theorem d_M_stepHubs_55 : decode c_M_stepHubs 55 = .ok (.iinc 2 1, 3) := by decide +kernel
theorem d_M_stepHubs_58 : decode c_M_stepHubs 58 = .ok (.goto (-39), 3) := by decide +kernel
theorem d_M_stepHubs_61 : decode c_M_stepHubs 61 = .ok (.iinc 1 1, 3) := by decide +kernel
theorem d_M_stepHubs_64 : decode c_M_stepHubs 64 = .ok (.goto (-62), 3) := by decide +kernel
theorem d_M_stepHubs_67 : decode c_M_stepHubs 67 = .ok (.aload_n 0, 1) := by decide +kernel
theorem d_M_stepHubs_68 : decode c_M_stepHubs 68 = .ok (.iconst 0, 1) := by decide +kernel
theorem d_M_stepHubs_69 : decode c_M_stepHubs 69 = .ok (.invokevirtual 212, 3) := by decide +kernel
theorem d_M_stepHubs_72 : decode c_M_stepHubs 72 = .ok (.iconst 0, 1) := by decide +kernel
theorem d_M_stepHubs_73 : decode c_M_stepHubs 73 = .ok (.istore_n 1, 1) := by decide +kernel
theorem d_M_stepHubs_74 : decode c_M_stepHubs 74 = .ok (.iload_n 1, 1) := by decide +kernel
theorem d_M_stepHubs_75 : decode c_M_stepHubs 75 = .ok (.aload_n 0, 1) := by decide +kernel
theorem d_M_stepHubs_76 : decode c_M_stepHubs 76 = .ok (.getfield 56, 3) := by decide +kernel
theorem d_M_stepHubs_79 : decode c_M_stepHubs 79 = .ok (.if_icmp .ge 60, 3) := by decide +kernel
theorem d_M_stepHubs_82 : decode c_M_stepHubs 82 = .ok (.aload_n 0, 1) := by decide +kernel
theorem d_M_stepHubs_83 : decode c_M_stepHubs 83 = .ok (.getfield 44, 3) := by decide +kernel
theorem d_M_stepHubs_86 : decode c_M_stepHubs 86 = .ok (.iload_n 1, 1) := by decide +kernel
theorem d_M_stepHubs_87 : decode c_M_stepHubs 87 = .ok (.lconst 0, 1) := by decide +kernel
theorem d_M_stepHubs_88 : decode c_M_stepHubs 88 = .ok (.lastore, 1) := by decide +kernel
theorem d_M_stepHubs_89 : decode c_M_stepHubs 89 = .ok (.iconst 0, 1) := by decide +kernel
theorem d_M_stepHubs_90 : decode c_M_stepHubs 90 = .ok (.istore_n 2, 1) := by decide +kernel
theorem d_M_stepHubs_91 : decode c_M_stepHubs 91 = .ok (.iload_n 2, 1) := by decide +kernel
theorem d_M_stepHubs_92 : decode c_M_stepHubs 92 = .ok (.aload_n 0, 1) := by decide +kernel
theorem d_M_stepHubs_93 : decode c_M_stepHubs 93 = .ok (.getfield 56, 3) := by decide +kernel
theorem d_M_stepHubs_96 : decode c_M_stepHubs 96 = .ok (.if_icmp .ge 37, 3) := by decide +kernel
theorem d_M_stepHubs_99 : decode c_M_stepHubs 99 = .ok (.aload_n 0, 1) := by decide +kernel
theorem d_M_stepHubs_100 : decode c_M_stepHubs 100 = .ok (.getfield 44, 3) := by decide +kernel
theorem d_M_stepHubs_103 : decode c_M_stepHubs 103 = .ok (.iload_n 1, 1) := by decide +kernel
theorem d_M_stepHubs_104 : decode c_M_stepHubs 104 = .ok (.dup2, 1) := by decide +kernel
theorem d_M_stepHubs_105 : decode c_M_stepHubs 105 = .ok (.laload, 1) := by decide +kernel
theorem d_M_stepHubs_106 : decode c_M_stepHubs 106 = .ok (.aload_n 0, 1) := by decide +kernel
theorem d_M_stepHubs_107 : decode c_M_stepHubs 107 = .ok (.iload_n 1, 1) := by decide +kernel
theorem d_M_stepHubs_108 : decode c_M_stepHubs 108 = .ok (.iload_n 2, 1) := by decide +kernel
theorem d_M_stepHubs_109 : decode c_M_stepHubs 109 = .ok (.invokevirtual 205, 3) := by decide +kernel
theorem d_M_stepHubs_112 : decode c_M_stepHubs 112 = .ok (.ifCond .eq 12, 3) := by decide +kernel
theorem d_M_stepHubs_115 : decode c_M_stepHubs 115 = .ok (.aload_n 0, 1) := by decide +kernel
theorem d_M_stepHubs_116 : decode c_M_stepHubs 116 = .ok (.getfield 47, 3) := by decide +kernel
theorem d_M_stepHubs_119 : decode c_M_stepHubs 119 = .ok (.iload_n 2, 1) := by decide +kernel
theorem d_M_stepHubs_120 : decode c_M_stepHubs 120 = .ok (.laload, 1) := by decide +kernel
theorem d_M_stepHubs_121 : decode c_M_stepHubs 121 = .ok (.goto 4, 3) := by decide +kernel
theorem d_M_stepHubs_124 : decode c_M_stepHubs 124 = .ok (.lconst 0, 1) := by decide +kernel
theorem d_M_stepHubs_125 : decode c_M_stepHubs 125 = .ok (.ladd, 1) := by decide +kernel
theorem d_M_stepHubs_126 : decode c_M_stepHubs 126 = .ok (.lastore, 1) := by decide +kernel
theorem d_M_stepHubs_127 : decode c_M_stepHubs 127 = .ok (.iinc 2 1, 3) := by decide +kernel
theorem d_M_stepHubs_130 : decode c_M_stepHubs 130 = .ok (.goto (-39), 3) := by decide +kernel
theorem d_M_stepHubs_133 : decode c_M_stepHubs 133 = .ok (.iinc 1 1, 3) := by decide +kernel
theorem d_M_stepHubs_136 : decode c_M_stepHubs 136 = .ok (.goto (-62), 3) := by decide +kernel
theorem d_M_stepHubs_139 : decode c_M_stepHubs 139 = .ok (.aload_n 0, 1) := by decide +kernel
theorem d_M_stepHubs_140 : decode c_M_stepHubs 140 = .ok (.iconst 1, 1) := by decide +kernel
theorem d_M_stepHubs_141 : decode c_M_stepHubs 141 = .ok (.invokevirtual 212, 3) := by decide +kernel
theorem d_M_stepHubs_144 : decode c_M_stepHubs 144 = .ok (.return_, 1) := by decide +kernel
theorem d_M_stepShares_0 : decode c_M_stepShares 0 = .ok (.iconst 0, 1) := by decide +kernel
theorem d_M_stepShares_1 : decode c_M_stepShares 1 = .ok (.istore_n 1, 1) := by decide +kernel
theorem d_M_stepShares_2 : decode c_M_stepShares 2 = .ok (.iload_n 1, 1) := by decide +kernel
theorem d_M_stepShares_3 : decode c_M_stepShares 3 = .ok (.aload_n 0, 1) := by decide +kernel
theorem d_M_stepShares_4 : decode c_M_stepShares 4 = .ok (.getfield 56, 3) := by decide +kernel
theorem d_M_stepShares_7 : decode c_M_stepShares 7 = .ok (.if_icmp .ge 67, 3) := by decide +kernel
theorem d_M_stepShares_10 : decode c_M_stepShares 10 = .ok (.aload_n 0, 1) := by decide +kernel
theorem d_M_stepShares_11 : decode c_M_stepShares 11 = .ok (.getfield 44, 3) := by decide +kernel
theorem d_M_stepShares_14 : decode c_M_stepShares 14 = .ok (.iload_n 1, 1) := by decide +kernel
theorem d_M_stepShares_15 : decode c_M_stepShares 15 = .ok (.lconst 0, 1) := by decide +kernel
theorem d_M_stepShares_16 : decode c_M_stepShares 16 = .ok (.lastore, 1) := by decide +kernel
theorem d_M_stepShares_17 : decode c_M_stepShares 17 = .ok (.iconst 0, 1) := by decide +kernel
theorem d_M_stepShares_18 : decode c_M_stepShares 18 = .ok (.istore_n 2, 1) := by decide +kernel
theorem d_M_stepShares_19 : decode c_M_stepShares 19 = .ok (.iload_n 2, 1) := by decide +kernel
theorem d_M_stepShares_20 : decode c_M_stepShares 20 = .ok (.aload_n 0, 1) := by decide +kernel
theorem d_M_stepShares_21 : decode c_M_stepShares 21 = .ok (.getfield 56, 3) := by decide +kernel
theorem d_M_stepShares_24 : decode c_M_stepShares 24 = .ok (.if_icmp .ge 44, 3) := by decide +kernel
theorem d_M_stepShares_27 : decode c_M_stepShares 27 = .ok (.aload_n 0, 1) := by decide +kernel
theorem d_M_stepShares_28 : decode c_M_stepShares 28 = .ok (.getfield 44, 3) := by decide +kernel
theorem d_M_stepShares_31 : decode c_M_stepShares 31 = .ok (.iload_n 1, 1) := by decide +kernel
theorem d_M_stepShares_32 : decode c_M_stepShares 32 = .ok (.dup2, 1) := by decide +kernel
theorem d_M_stepShares_33 : decode c_M_stepShares 33 = .ok (.laload, 1) := by decide +kernel
theorem d_M_stepShares_34 : decode c_M_stepShares 34 = .ok (.aload_n 0, 1) := by decide +kernel
theorem d_M_stepShares_35 : decode c_M_stepShares 35 = .ok (.iload_n 1, 1) := by decide +kernel
theorem d_M_stepShares_36 : decode c_M_stepShares 36 = .ok (.iload_n 2, 1) := by decide +kernel
theorem d_M_stepShares_37 : decode c_M_stepShares 37 = .ok (.invokevirtual 205, 3) := by decide +kernel
theorem d_M_stepShares_40 : decode c_M_stepShares 40 = .ok (.ifCond .eq 19, 3) := by decide +kernel
theorem d_M_stepShares_43 : decode c_M_stepShares 43 = .ok (.aload_n 0, 1) := by decide +kernel
theorem d_M_stepShares_44 : decode c_M_stepShares 44 = .ok (.getfield 40, 3) := by decide +kernel
theorem d_M_stepShares_47 : decode c_M_stepShares 47 = .ok (.iload_n 2, 1) := by decide +kernel
theorem d_M_stepShares_48 : decode c_M_stepShares 48 = .ok (.laload, 1) := by decide +kernel
theorem d_M_stepShares_49 : decode c_M_stepShares 49 = .ok (.aload_n 0, 1) := by decide +kernel
theorem d_M_stepShares_50 : decode c_M_stepShares 50 = .ok (.iload_n 2, 1) := by decide +kernel
theorem d_M_stepShares_51 : decode c_M_stepShares 51 = .ok (.invokevirtual 216, 3) := by decide +kernel
theorem d_M_stepShares_54 : decode c_M_stepShares 54 = .ok (.i2l, 1) := by decide +kernel
theorem d_M_stepShares_55 : decode c_M_stepShares 55 = .ok (.ldiv, 1) := by decide +kernel
theorem d_M_stepShares_56 : decode c_M_stepShares 56 = .ok (.goto 4, 3) := by decide +kernel
theorem d_M_stepShares_59 : decode c_M_stepShares 59 = .ok (.lconst 0, 1) := by decide +kernel
theorem d_M_stepShares_60 : decode c_M_stepShares 60 = .ok (.ladd, 1) := by decide +kernel
theorem d_M_stepShares_61 : decode c_M_stepShares 61 = .ok (.lastore, 1) := by decide +kernel
theorem d_M_stepShares_62 : decode c_M_stepShares 62 = .ok (.iinc 2 1, 3) := by decide +kernel
theorem d_M_stepShares_65 : decode c_M_stepShares 65 = .ok (.goto (-46), 3) := by decide +kernel
theorem d_M_stepShares_68 : decode c_M_stepShares 68 = .ok (.iinc 1 1, 3) := by decide +kernel
theorem d_M_stepShares_71 : decode c_M_stepShares 71 = .ok (.goto (-69), 3) := by decide +kernel
theorem d_M_stepShares_74 : decode c_M_stepShares 74 = .ok (.iconst 0, 1) := by decide +kernel
theorem d_M_stepShares_75 : decode c_M_stepShares 75 = .ok (.istore_n 1, 1) := by decide +kernel
theorem d_M_stepShares_76 : decode c_M_stepShares 76 = .ok (.iload_n 1, 1) := by decide +kernel
theorem d_M_stepShares_77 : decode c_M_stepShares 77 = .ok (.aload_n 0, 1) := by decide +kernel
theorem d_M_stepShares_78 : decode c_M_stepShares 78 = .ok (.getfield 56, 3) := by decide +kernel
theorem d_M_stepShares_81 : decode c_M_stepShares 81 = .ok (.if_icmp .ge 71, 3) := by decide +kernel
theorem d_M_stepShares_84 : decode c_M_stepShares 84 = .ok (.aload_n 0, 1) := by decide +kernel
theorem d_M_stepShares_85 : decode c_M_stepShares 85 = .ok (.getfield 47, 3) := by decide +kernel
theorem d_M_stepShares_88 : decode c_M_stepShares 88 = .ok (.iload_n 1, 1) := by decide +kernel
theorem d_M_stepShares_89 : decode c_M_stepShares 89 = .ok (.lconst 0, 1) := by decide +kernel
theorem d_M_stepShares_90 : decode c_M_stepShares 90 = .ok (.lastore, 1) := by decide +kernel
theorem d_M_stepShares_91 : decode c_M_stepShares 91 = .ok (.iconst 0, 1) := by decide +kernel
theorem d_M_stepShares_92 : decode c_M_stepShares 92 = .ok (.istore_n 2, 1) := by decide +kernel
theorem d_M_stepShares_93 : decode c_M_stepShares 93 = .ok (.iload_n 2, 1) := by decide +kernel
theorem d_M_stepShares_94 : decode c_M_stepShares 94 = .ok (.aload_n 0, 1) := by decide +kernel
theorem d_M_stepShares_95 : decode c_M_stepShares 95 = .ok (.getfield 56, 3) := by decide +kernel
theorem d_M_stepShares_98 : decode c_M_stepShares 98 = .ok (.if_icmp .ge 48, 3) := by decide +kernel
theorem d_M_stepShares_101 : decode c_M_stepShares 101 = .ok (.aload_n 0, 1) := by decide +kernel
theorem d_M_stepShares_102 : decode c_M_stepShares 102 = .ok (.getfield 47, 3) := by decide +kernel
theorem d_M_stepShares_105 : decode c_M_stepShares 105 = .ok (.iload_n 1, 1) := by decide +kernel
theorem d_M_stepShares_106 : decode c_M_stepShares 106 = .ok (.dup2, 1) := by decide +kernel
theorem d_M_stepShares_107 : decode c_M_stepShares 107 = .ok (.laload, 1) := by decide +kernel
theorem d_M_stepShares_108 : decode c_M_stepShares 108 = .ok (.aload_n 0, 1) := by decide +kernel
theorem d_M_stepShares_109 : decode c_M_stepShares 109 = .ok (.iload_n 2, 1) := by decide +kernel
theorem d_M_stepShares_110 : decode c_M_stepShares 110 = .ok (.iload_n 1, 1) := by decide +kernel
theorem d_M_stepShares_111 : decode c_M_stepShares 111 = .ok (.invokevirtual 205, 3) := by decide +kernel
theorem d_M_stepShares_114 : decode c_M_stepShares 114 = .ok (.ifCond .eq 23, 3) := by decide +kernel
theorem d_M_stepShares_117 : decode c_M_stepShares 117 = .ok (.aload_n 0, 1) := by decide +kernel
theorem d_M_stepShares_118 : decode c_M_stepShares 118 = .ok (.getfield 44, 3) := by decide +kernel
theorem d_M_stepShares_121 : decode c_M_stepShares 121 = .ok (.iload_n 2, 1) := by decide +kernel
theorem d_M_stepShares_122 : decode c_M_stepShares 122 = .ok (.laload, 1) := by decide +kernel
theorem d_M_stepShares_123 : decode c_M_stepShares 123 = .ok (.aload_n 0, 1) := by decide +kernel
theorem d_M_stepShares_124 : decode c_M_stepShares 124 = .ok (.getfield 25, 3) := by decide +kernel
theorem d_M_stepShares_127 : decode c_M_stepShares 127 = .ok (.iload_n 2, 1) := by decide +kernel
theorem d_M_stepShares_128 : decode c_M_stepShares 128 = .ok (.iaload, 1) := by decide +kernel
theorem d_M_stepShares_129 : decode c_M_stepShares 129 = .ok (.invokestatic 106, 3) := by decide +kernel
theorem d_M_stepShares_132 : decode c_M_stepShares 132 = .ok (.i2l, 1) := by decide +kernel
theorem d_M_stepShares_133 : decode c_M_stepShares 133 = .ok (.ldiv, 1) := by decide +kernel
theorem d_M_stepShares_134 : decode c_M_stepShares 134 = .ok (.goto 4, 3) := by decide +kernel
theorem d_M_stepShares_137 : decode c_M_stepShares 137 = .ok (.lconst 0, 1) := by decide +kernel
theorem d_M_stepShares_138 : decode c_M_stepShares 138 = .ok (.ladd, 1) := by decide +kernel
theorem d_M_stepShares_139 : decode c_M_stepShares 139 = .ok (.lastore, 1) := by decide +kernel
theorem d_M_stepShares_140 : decode c_M_stepShares 140 = .ok (.iinc 2 1, 3) := by decide +kernel
theorem d_M_stepShares_143 : decode c_M_stepShares 143 = .ok (.goto (-50), 3) := by decide +kernel
theorem d_M_stepShares_146 : decode c_M_stepShares 146 = .ok (.iinc 1 1, 3) := by decide +kernel
theorem d_M_stepShares_149 : decode c_M_stepShares 149 = .ok (.goto (-73), 3) := by decide +kernel
theorem d_M_stepShares_152 : decode c_M_stepShares 152 = .ok (.return_, 1) := by decide +kernel
theorem d_M_step_0 : decode c_M_step 0 = .ok (.iload_n 1, 1) := by decide +kernel
theorem d_M_step_1 : decode c_M_step 1 = .ok (.ifCond .lt 9, 3) := by decide +kernel
theorem d_M_step_4 : decode c_M_step 4 = .ok (.iload_n 1, 1) := by decide +kernel
theorem d_M_step_5 : decode c_M_step 5 = .ok (.bipush 20, 2) := by decide +kernel
theorem d_M_step_7 : decode c_M_step 7 = .ok (.if_icmp .le 5, 3) := by decide +kernel
theorem d_M_step_10 : decode c_M_step 10 = .ok (.iconst (-1), 1) := by decide +kernel
theorem d_M_step_11 : decode c_M_step 11 = .ok (.ireturn, 1) := by decide +kernel
theorem d_M_step_12 : decode c_M_step 12 = .ok (.aload_n 0, 1) := by decide +kernel
theorem d_M_step_13 : decode c_M_step 13 = .ok (.invokevirtual 173, 3) := by decide +kernel
theorem d_M_step_16 : decode c_M_step 16 = .ok (.iconst 0, 1) := by decide +kernel
theorem d_M_step_17 : decode c_M_step 17 = .ok (.istore_n 2, 1) := by decide +kernel
theorem d_M_step_18 : decode c_M_step 18 = .ok (.iload_n 2, 1) := by decide +kernel
theorem d_M_step_19 : decode c_M_step 19 = .ok (.iload_n 1, 1) := by decide +kernel
theorem d_M_step_20 : decode c_M_step 20 = .ok (.if_icmp .ge 142, 3) := by decide +kernel
theorem d_M_step_23 : decode c_M_step 23 = .ok (.aload_n 0, 1) := by decide +kernel
theorem d_M_step_24 : decode c_M_step 24 = .ok (.getfield 191, 3) := by decide +kernel
theorem d_M_step_27 : decode c_M_step 27 = .ok (.ifCond .ne 10, 3) := by decide +kernel
theorem d_M_step_30 : decode c_M_step 30 = .ok (.aload_n 0, 1) := by decide +kernel
theorem d_M_step_31 : decode c_M_step 31 = .ok (.invokevirtual 219, 3) := by decide +kernel
theorem d_M_step_34 : decode c_M_step 34 = .ok (.goto 22, 3) := by decide +kernel
theorem d_M_step_37 : decode c_M_step 37 = .ok (.aload_n 0, 1) := by decide +kernel
theorem d_M_step_38 : decode c_M_step 38 = .ok (.getfield 191, 3) := by decide +kernel
theorem d_M_step_41 : decode c_M_step 41 = .ok (.iconst 1, 1) := by decide +kernel
theorem d_M_step_42 : decode c_M_step 42 = .ok (.if_icmp .ne 10, 3) := by decide +kernel
theorem d_M_step_45 : decode c_M_step 45 = .ok (.aload_n 0, 1) := by decide +kernel
theorem d_M_step_46 : decode c_M_step 46 = .ok (.invokevirtual 222, 3) := by decide +kernel
theorem d_M_step_49 : decode c_M_step 49 = .ok (.goto 7, 3) := by decide +kernel
theorem d_M_step_52 : decode c_M_step 52 = .ok (.aload_n 0, 1) := by decide +kernel
theorem d_M_step_53 : decode c_M_step 53 = .ok (.invokevirtual 225, 3) := by decide +kernel
theorem d_M_step_56 : decode c_M_step 56 = .ok (.aload_n 0, 1) := by decide +kernel
theorem d_M_step_57 : decode c_M_step 57 = .ok (.lconst 0, 1) := by decide +kernel
theorem d_M_step_58 : decode c_M_step 58 = .ok (.putfield 197, 3) := by decide +kernel
theorem d_M_step_61 : decode c_M_step 61 = .ok (.iconst 0, 1) := by decide +kernel
theorem d_M_step_62 : decode c_M_step 62 = .ok (.istore_n 3, 1) := by decide +kernel
theorem d_M_step_63 : decode c_M_step 63 = .ok (.iload_n 3, 1) := by decide +kernel
theorem d_M_step_64 : decode c_M_step 64 = .ok (.aload_n 0, 1) := by decide +kernel
theorem d_M_step_65 : decode c_M_step 65 = .ok (.getfield 56, 3) := by decide +kernel
theorem d_M_step_68 : decode c_M_step 68 = .ok (.if_icmp .ge 75, 3) := by decide +kernel
theorem d_M_step_71 : decode c_M_step 71 = .ok (.aload_n 0, 1) := by decide +kernel
theorem d_M_step_72 : decode c_M_step 72 = .ok (.dup, 1) := by decide +kernel
theorem d_M_step_73 : decode c_M_step 73 = .ok (.getfield 197, 3) := by decide +kernel
theorem d_M_step_76 : decode c_M_step 76 = .ok (.aload_n 0, 1) := by decide +kernel
theorem d_M_step_77 : decode c_M_step 77 = .ok (.getfield 47, 3) := by decide +kernel
theorem d_M_step_80 : decode c_M_step 80 = .ok (.iload_n 3, 1) := by decide +kernel
theorem d_M_step_81 : decode c_M_step 81 = .ok (.laload, 1) := by decide +kernel
theorem d_M_step_82 : decode c_M_step 82 = .ok (.aload_n 0, 1) := by decide +kernel
theorem d_M_step_83 : decode c_M_step 83 = .ok (.getfield 40, 3) := by decide +kernel
theorem d_M_step_86 : decode c_M_step 86 = .ok (.iload_n 3, 1) := by decide +kernel
theorem d_M_step_87 : decode c_M_step 87 = .ok (.laload, 1) := by decide +kernel
theorem d_M_step_88 : decode c_M_step 88 = .ok (.lcmp, 1) := by decide +kernel
theorem d_M_step_89 : decode c_M_step 89 = .ok (.ifCond .le 19, 3) := by decide +kernel
theorem d_M_step_92 : decode c_M_step 92 = .ok (.aload_n 0, 1) := by decide +kernel
theorem d_M_step_93 : decode c_M_step 93 = .ok (.getfield 47, 3) := by decide +kernel
theorem d_M_step_96 : decode c_M_step 96 = .ok (.iload_n 3, 1) := by decide +kernel
theorem d_M_step_97 : decode c_M_step 97 = .ok (.laload, 1) := by decide +kernel
theorem d_M_step_98 : decode c_M_step 98 = .ok (.aload_n 0, 1) := by decide +kernel
theorem d_M_step_99 : decode c_M_step 99 = .ok (.getfield 40, 3) := by decide +kernel
theorem d_M_step_102 : decode c_M_step 102 = .ok (.iload_n 3, 1) := by decide +kernel
theorem d_M_step_103 : decode c_M_step 103 = .ok (.laload, 1) := by decide +kernel
theorem d_M_step_104 : decode c_M_step 104 = .ok (.lsub, 1) := by decide +kernel
theorem d_M_step_105 : decode c_M_step 105 = .ok (.goto 16, 3) := by decide +kernel
theorem d_M_step_108 : decode c_M_step 108 = .ok (.aload_n 0, 1) := by decide +kernel
end
section
theorem d_M_step_109 : decode c_M_step 109 = .ok (.getfield 40, 3) := by decide +kernel
theorem d_M_step_112 : decode c_M_step 112 = .ok (.iload_n 3, 1) := by decide +kernel
theorem d_M_step_113 : decode c_M_step 113 = .ok (.laload, 1) := by decide +kernel
theorem d_M_step_114 : decode c_M_step 114 = .ok (.aload_n 0, 1) := by decide +kernel
theorem d_M_step_115 : decode c_M_step 115 = .ok (.getfield 47, 3) := by decide +kernel
theorem d_M_step_118 : decode c_M_step 118 = .ok (.iload_n 3, 1) := by decide +kernel
theorem d_M_step_119 : decode c_M_step 119 = .ok (.laload, 1) := by decide +kernel
theorem d_M_step_120 : decode c_M_step 120 = .ok (.lsub, 1) := by decide +kernel
theorem d_M_step_121 : decode c_M_step 121 = .ok (.ladd, 1) := by decide +kernel
theorem d_M_step_122 : decode c_M_step 122 = .ok (.putfield 197, 3) := by decide +kernel
theorem d_M_step_125 : decode c_M_step 125 = .ok (.aload_n 0, 1) := by decide +kernel
theorem d_M_step_126 : decode c_M_step 126 = .ok (.getfield 40, 3) := by decide +kernel
theorem d_M_step_129 : decode c_M_step 129 = .ok (.iload_n 3, 1) := by decide +kernel
theorem d_M_step_130 : decode c_M_step 130 = .ok (.aload_n 0, 1) := by decide +kernel
theorem d_M_step_131 : decode c_M_step 131 = .ok (.getfield 47, 3) := by decide +kernel
theorem d_M_step_134 : decode c_M_step 134 = .ok (.iload_n 3, 1) := by decide +kernel
theorem d_M_step_135 : decode c_M_step 135 = .ok (.laload, 1) := by decide +kernel
theorem d_M_step_136 : decode c_M_step 136 = .ok (.lastore, 1) := by decide +kernel
theorem d_M_step_137 : decode c_M_step 137 = .ok (.iinc 3 1, 3) := by decide +kernel
theorem d_M_step_140 : decode c_M_step 140 = .ok (.goto (-77), 3) := by decide +kernel
theorem d_M_step_143 : decode c_M_step 143 = .ok (.aload_n 0, 1) := by decide +kernel
theorem d_M_step_144 : decode c_M_step 144 = .ok (.getfield 197, 3) := by decide +kernel
theorem d_M_step_147 : decode c_M_step 147 = .ok (.lconst 0, 1) := by decide +kernel
theorem d_M_step_148 : decode c_M_step 148 = .ok (.lcmp, 1) := by decide +kernel
theorem d_M_step_149 : decode c_M_step 149 = .ok (.ifCond .ne 7, 3) := by decide +kernel
theorem d_M_step_152 : decode c_M_step 152 = .ok (.iload_n 2, 1) := by decide +kernel
theorem d_M_step_153 : decode c_M_step 153 = .ok (.iconst 1, 1) := by decide +kernel
theorem d_M_step_154 : decode c_M_step 154 = .ok (.iadd, 1) := by decide +kernel
theorem d_M_step_155 : decode c_M_step 155 = .ok (.ireturn, 1) := by decide +kernel
theorem d_M_step_156 : decode c_M_step 156 = .ok (.iinc 2 1, 3) := by decide +kernel
theorem d_M_step_159 : decode c_M_step 159 = .ok (.goto (-141), 3) := by decide +kernel
theorem d_M_step_162 : decode c_M_step 162 = .ok (.iload_n 1, 1) := by decide +kernel
theorem d_M_step_163 : decode c_M_step 163 = .ok (.ireturn, 1) := by decide +kernel
theorem d_M_score_0 : decode c_M_score 0 = .ok (.aload_n 0, 1) := by decide +kernel
theorem d_M_score_1 : decode c_M_score 1 = .ok (.iload_n 1, 1) := by decide +kernel
theorem d_M_score_2 : decode c_M_score 2 = .ok (.invokevirtual 68, 3) := by decide +kernel
theorem d_M_score_5 : decode c_M_score 5 = .ok (.ifCond .eq 12, 3) := by decide +kernel
theorem d_M_score_8 : decode c_M_score 8 = .ok (.aload_n 0, 1) := by decide +kernel
theorem d_M_score_9 : decode c_M_score 9 = .ok (.getfield 40, 3) := by decide +kernel
theorem d_M_score_12 : decode c_M_score 12 = .ok (.iload_n 1, 1) := by decide +kernel
theorem d_M_score_13 : decode c_M_score 13 = .ok (.laload, 1) := by decide +kernel
theorem d_M_score_14 : decode c_M_score 14 = .ok (.goto 6, 3) := by decide +kernel
theorem d_M_score_17 : decode c_M_score 17 = .ok (.ldc2_w 228, 3) := by decide +kernel
theorem d_M_score_20 : decode c_M_score 20 = .ok (.lreturn, 1) := by decide +kernel
theorem d_M_hub_0 : decode c_M_hub 0 = .ok (.aload_n 0, 1) := by decide +kernel
theorem d_M_hub_1 : decode c_M_hub 1 = .ok (.iload_n 1, 1) := by decide +kernel
theorem d_M_hub_2 : decode c_M_hub 2 = .ok (.invokevirtual 68, 3) := by decide +kernel
theorem d_M_hub_5 : decode c_M_hub 5 = .ok (.ifCond .eq 12, 3) := by decide +kernel
theorem d_M_hub_8 : decode c_M_hub 8 = .ok (.aload_n 0, 1) := by decide +kernel
theorem d_M_hub_9 : decode c_M_hub 9 = .ok (.getfield 44, 3) := by decide +kernel
theorem d_M_hub_12 : decode c_M_hub 12 = .ok (.iload_n 1, 1) := by decide +kernel
theorem d_M_hub_13 : decode c_M_hub 13 = .ok (.laload, 1) := by decide +kernel
theorem d_M_hub_14 : decode c_M_hub 14 = .ok (.goto 6, 3) := by decide +kernel
theorem d_M_hub_17 : decode c_M_hub 17 = .ok (.ldc2_w 228, 3) := by decide +kernel
theorem d_M_hub_20 : decode c_M_hub 20 = .ok (.lreturn, 1) := by decide +kernel
theorem d_M_top_0 : decode c_M_top 0 = .ok (.iconst 0, 1) := by decide +kernel
theorem d_M_top_1 : decode c_M_top 1 = .ok (.istore_n 2, 1) := by decide +kernel
theorem d_M_top_2 : decode c_M_top 2 = .ok (.iload_n 2, 1) := by decide +kernel
theorem d_M_top_3 : decode c_M_top 3 = .ok (.aload_n 0, 1) := by decide +kernel
theorem d_M_top_4 : decode c_M_top 4 = .ok (.getfield 56, 3) := by decide +kernel
theorem d_M_top_7 : decode c_M_top 7 = .ok (.if_icmp .ge 84, 3) := by decide +kernel
theorem d_M_top_10 : decode c_M_top 10 = .ok (.iconst 0, 1) := by decide +kernel
theorem d_M_top_11 : decode c_M_top 11 = .ok (.istore_n 3, 1) := by decide +kernel
theorem d_M_top_12 : decode c_M_top 12 = .ok (.iconst 0, 1) := by decide +kernel
theorem d_M_top_13 : decode c_M_top 13 = .ok (.istore 4, 2) := by decide +kernel
theorem d_M_top_15 : decode c_M_top 15 = .ok (.iload 4, 2) := by decide +kernel
theorem d_M_top_17 : decode c_M_top 17 = .ok (.aload_n 0, 1) := by decide +kernel
theorem d_M_top_18 : decode c_M_top 18 = .ok (.getfield 56, 3) := by decide +kernel
theorem d_M_top_21 : decode c_M_top 21 = .ok (.if_icmp .ge 57, 3) := by decide +kernel
theorem d_M_top_24 : decode c_M_top 24 = .ok (.iload_n 3, 1) := by decide +kernel
theorem d_M_top_25 : decode c_M_top 25 = .ok (.aload_n 0, 1) := by decide +kernel
theorem d_M_top_26 : decode c_M_top 26 = .ok (.getfield 40, 3) := by decide +kernel
theorem d_M_top_29 : decode c_M_top 29 = .ok (.iload 4, 2) := by decide +kernel
theorem d_M_top_31 : decode c_M_top 31 = .ok (.laload, 1) := by decide +kernel
theorem d_M_top_32 : decode c_M_top 32 = .ok (.aload_n 0, 1) := by decide +kernel
theorem d_M_top_33 : decode c_M_top 33 = .ok (.getfield 40, 3) := by decide +kernel
theorem d_M_top_36 : decode c_M_top 36 = .ok (.iload_n 2, 1) := by decide +kernel
theorem d_M_top_37 : decode c_M_top 37 = .ok (.laload, 1) := by decide +kernel
theorem d_M_top_38 : decode c_M_top 38 = .ok (.lcmp, 1) := by decide +kernel
theorem d_M_top_39 : decode c_M_top 39 = .ok (.ifCond .gt 26, 3) := by decide +kernel
theorem d_M_top_42 : decode c_M_top 42 = .ok (.aload_n 0, 1) := by decide +kernel
theorem d_M_top_43 : decode c_M_top 43 = .ok (.getfield 40, 3) := by decide +kernel
theorem d_M_top_46 : decode c_M_top 46 = .ok (.iload 4, 2) := by decide +kernel
theorem d_M_top_48 : decode c_M_top 48 = .ok (.laload, 1) := by decide +kernel
theorem d_M_top_49 : decode c_M_top 49 = .ok (.aload_n 0, 1) := by decide +kernel
theorem d_M_top_50 : decode c_M_top 50 = .ok (.getfield 40, 3) := by decide +kernel
theorem d_M_top_53 : decode c_M_top 53 = .ok (.iload_n 2, 1) := by decide +kernel
theorem d_M_top_54 : decode c_M_top 54 = .ok (.laload, 1) := by decide +kernel
theorem d_M_top_55 : decode c_M_top 55 = .ok (.lcmp, 1) := by decide +kernel
theorem d_M_top_56 : decode c_M_top 56 = .ok (.ifCond .ne 13, 3) := by decide +kernel
theorem d_M_top_59 : decode c_M_top 59 = .ok (.iload 4, 2) := by decide +kernel
theorem d_M_top_61 : decode c_M_top 61 = .ok (.iload_n 2, 1) := by decide +kernel
theorem d_M_top_62 : decode c_M_top 62 = .ok (.if_icmp .ge 7, 3) := by decide +kernel
theorem d_M_top_65 : decode c_M_top 65 = .ok (.iconst 1, 1) := by decide +kernel
theorem d_M_top_66 : decode c_M_top 66 = .ok (.goto 4, 3) := by decide +kernel
theorem d_M_top_69 : decode c_M_top 69 = .ok (.iconst 0, 1) := by decide +kernel
theorem d_M_top_70 : decode c_M_top 70 = .ok (.iadd, 1) := by decide +kernel
theorem d_M_top_71 : decode c_M_top 71 = .ok (.istore_n 3, 1) := by decide +kernel
theorem d_M_top_72 : decode c_M_top 72 = .ok (.iinc 4 1, 3) := by decide +kernel
theorem d_M_top_75 : decode c_M_top 75 = .ok (.goto (-60), 3) := by decide +kernel
theorem d_M_top_78 : decode c_M_top 78 = .ok (.iload_n 3, 1) := by decide +kernel
theorem d_M_top_79 : decode c_M_top 79 = .ok (.iload_n 1, 1) := by decide +kernel
theorem d_M_top_80 : decode c_M_top 80 = .ok (.if_icmp .ne 5, 3) := by decide +kernel
theorem d_M_top_83 : decode c_M_top 83 = .ok (.iload_n 2, 1) := by decide +kernel
theorem d_M_top_84 : decode c_M_top 84 = .ok (.ireturn, 1) := by decide +kernel
theorem d_M_top_85 : decode c_M_top 85 = .ok (.iinc 2 1, 3) := by decide +kernel
theorem d_M_top_88 : decode c_M_top 88 = .ok (.goto (-86), 3) := by decide +kernel
theorem d_M_top_91 : decode c_M_top 91 = .ok (.iconst (-1), 1) := by decide +kernel
theorem d_M_top_92 : decode c_M_top 92 = .ok (.ireturn, 1) := by decide +kernel
theorem d_M_change_0 : decode c_M_change 0 = .ok (.aload_n 0, 1) := by decide +kernel
theorem d_M_change_1 : decode c_M_change 1 = .ok (.getfield 197, 3) := by decide +kernel
theorem d_M_change_4 : decode c_M_change 4 = .ok (.lreturn, 1) := by decide +kernel
theorem d_D_init_0 : decode c_D_init 0 = .ok (.aload_n 0, 1) := by decide +kernel
theorem d_D_init_1 : decode c_D_init 1 = .ok (.invokespecial 1, 3) := by decide +kernel
theorem d_D_init_4 : decode c_D_init 4 = .ok (.aload_n 0, 1) := by decide +kernel
theorem d_D_init_5 : decode c_D_init 5 = .ok (.iload_n 1, 1) := by decide +kernel
theorem d_D_init_6 : decode c_D_init 6 = .ok (.putfield 7, 3) := by decide +kernel
theorem d_D_init_9 : decode c_D_init 9 = .ok (.aload_n 0, 1) := by decide +kernel
theorem d_D_init_10 : decode c_D_init 10 = .ok (.aload_n 2, 1) := by decide +kernel
theorem d_D_init_11 : decode c_D_init 11 = .ok (.putfield 13, 3) := by decide +kernel
theorem d_D_init_14 : decode c_D_init 14 = .ok (.aload_n 0, 1) := by decide +kernel
theorem d_D_init_15 : decode c_D_init 15 = .ok (.aload_n 3, 1) := by decide +kernel
theorem d_D_init_16 : decode c_D_init 16 = .ok (.putfield 17, 3) := by decide +kernel
theorem d_D_init_19 : decode c_D_init 19 = .ok (.aload_n 0, 1) := by decide +kernel
theorem d_D_init_20 : decode c_D_init 20 = .ok (.iload_n 1, 1) := by decide +kernel
theorem d_D_init_21 : decode c_D_init 21 = .ok (.newarray .int, 2) := by decide +kernel
theorem d_D_init_23 : decode c_D_init 23 = .ok (.putfield 21, 3) := by decide +kernel
theorem d_D_init_26 : decode c_D_init 26 = .ok (.aload_n 0, 1) := by decide +kernel
theorem d_D_init_27 : decode c_D_init 27 = .ok (.iload_n 1, 1) := by decide +kernel
theorem d_D_init_28 : decode c_D_init 28 = .ok (.newarray .int, 2) := by decide +kernel
theorem d_D_init_30 : decode c_D_init 30 = .ok (.putfield 25, 3) := by decide +kernel
theorem d_D_init_33 : decode c_D_init 33 = .ok (.aload_n 0, 1) := by decide +kernel
theorem d_D_init_34 : decode c_D_init 34 = .ok (.iload_n 1, 1) := by decide +kernel
theorem d_D_init_35 : decode c_D_init 35 = .ok (.newarray .int, 2) := by decide +kernel
theorem d_D_init_37 : decode c_D_init 37 = .ok (.putfield 28, 3) := by decide +kernel
theorem d_D_init_40 : decode c_D_init 40 = .ok (.aload_n 0, 1) := by decide +kernel
theorem d_D_init_41 : decode c_D_init 41 = .ok (.iload_n 1, 1) := by decide +kernel
theorem d_D_init_42 : decode c_D_init 42 = .ok (.newarray .int, 2) := by decide +kernel
theorem d_D_init_44 : decode c_D_init 44 = .ok (.putfield 31, 3) := by decide +kernel
theorem d_D_init_47 : decode c_D_init 47 = .ok (.return_, 1) := by decide +kernel
theorem d_D_readAll_0 : decode c_D_readAll 0 = .ok (.iconst 0, 1) := by decide +kernel
theorem d_D_readAll_1 : decode c_D_readAll 1 = .ok (.istore_n 1, 1) := by decide +kernel
theorem d_D_readAll_2 : decode c_D_readAll 2 = .ok (.iload_n 1, 1) := by decide +kernel
theorem d_D_readAll_3 : decode c_D_readAll 3 = .ok (.aload_n 0, 1) := by decide +kernel
theorem d_D_readAll_4 : decode c_D_readAll 4 = .ok (.getfield 7, 3) := by decide +kernel
theorem d_D_readAll_7 : decode c_D_readAll 7 = .ok (.if_icmp .ge 137, 3) := by decide +kernel
theorem d_D_readAll_10 : decode c_D_readAll 10 = .ok (.aload_n 0, 1) := by decide +kernel
theorem d_D_readAll_11 : decode c_D_readAll 11 = .ok (.iload_n 1, 1) := by decide +kernel
theorem d_D_readAll_12 : decode c_D_readAll 12 = .ok (.putfield 34, 3) := by decide +kernel
theorem d_D_readAll_15 : decode c_D_readAll 15 = .ok (.aload_n 0, 1) := by decide +kernel
theorem d_D_readAll_16 : decode c_D_readAll 16 = .ok (.aload_n 0, 1) := by decide +kernel
theorem d_D_readAll_17 : decode c_D_readAll 17 = .ok (.getfield 13, 3) := by decide +kernel
theorem d_D_readAll_20 : decode c_D_readAll 20 = .ok (.getfield 37, 3) := by decide +kernel
theorem d_D_readAll_23 : decode c_D_readAll 23 = .ok (.iload_n 1, 1) := by decide +kernel
theorem d_D_readAll_24 : decode c_D_readAll 24 = .ok (.iaload, 1) := by decide +kernel
theorem d_D_readAll_25 : decode c_D_readAll 25 = .ok (.putfield 42, 3) := by decide +kernel
theorem d_D_readAll_28 : decode c_D_readAll 28 = .ok (.aload_n 0, 1) := by decide +kernel
theorem d_D_readAll_29 : decode c_D_readAll 29 = .ok (.iconst 0, 1) := by decide +kernel
theorem d_D_readAll_30 : decode c_D_readAll 30 = .ok (.putfield 45, 3) := by decide +kernel
theorem d_D_readAll_33 : decode c_D_readAll 33 = .ok (.aload_n 0, 1) := by decide +kernel
theorem d_D_readAll_34 : decode c_D_readAll 34 = .ok (.iconst 0, 1) := by decide +kernel
theorem d_D_readAll_35 : decode c_D_readAll 35 = .ok (.putfield 48, 3) := by decide +kernel
theorem d_D_readAll_38 : decode c_D_readAll 38 = .ok (.aload_n 0, 1) := by decide +kernel
theorem d_D_readAll_39 : decode c_D_readAll 39 = .ok (.iconst 0, 1) := by decide +kernel
theorem d_D_readAll_40 : decode c_D_readAll 40 = .ok (.putfield 51, 3) := by decide +kernel
theorem d_D_readAll_43 : decode c_D_readAll 43 = .ok (.aload_n 0, 1) := by decide +kernel
theorem d_D_readAll_44 : decode c_D_readAll 44 = .ok (.iconst 0, 1) := by decide +kernel
theorem d_D_readAll_45 : decode c_D_readAll 45 = .ok (.putfield 54, 3) := by decide +kernel
theorem d_D_readAll_48 : decode c_D_readAll 48 = .ok (.aload_n 0, 1) := by decide +kernel
theorem d_D_readAll_49 : decode c_D_readAll 49 = .ok (.invokevirtual 58, 3) := by decide +kernel
theorem d_D_readAll_52 : decode c_D_readAll 52 = .ok (.aload_n 0, 1) := by decide +kernel
theorem d_D_readAll_53 : decode c_D_readAll 53 = .ok (.getfield 25, 3) := by decide +kernel
theorem d_D_readAll_56 : decode c_D_readAll 56 = .ok (.iload_n 1, 1) := by decide +kernel
theorem d_D_readAll_57 : decode c_D_readAll 57 = .ok (.aload_n 0, 1) := by decide +kernel
theorem d_D_readAll_58 : decode c_D_readAll 58 = .ok (.getfield 45, 3) := by decide +kernel
theorem d_D_readAll_61 : decode c_D_readAll 61 = .ok (.iastore, 1) := by decide +kernel
theorem d_D_readAll_62 : decode c_D_readAll 62 = .ok (.aload_n 0, 1) := by decide +kernel
theorem d_D_readAll_63 : decode c_D_readAll 63 = .ok (.getfield 21, 3) := by decide +kernel
theorem d_D_readAll_66 : decode c_D_readAll 66 = .ok (.iload_n 1, 1) := by decide +kernel
theorem d_D_readAll_67 : decode c_D_readAll 67 = .ok (.aload_n 0, 1) := by decide +kernel
theorem d_D_readAll_68 : decode c_D_readAll 68 = .ok (.getfield 45, 3) := by decide +kernel
theorem d_D_readAll_71 : decode c_D_readAll 71 = .ok (.ifCond .ne 10, 3) := by decide +kernel
theorem d_D_readAll_74 : decode c_D_readAll 74 = .ok (.aload_n 0, 1) := by decide +kernel
theorem d_D_readAll_75 : decode c_D_readAll 75 = .ok (.getfield 51, 3) := by decide +kernel
theorem d_D_readAll_78 : decode c_D_readAll 78 = .ok (.goto 4, 3) := by decide +kernel
theorem d_D_readAll_81 : decode c_D_readAll 81 = .ok (.iconst 0, 1) := by decide +kernel
theorem d_D_readAll_82 : decode c_D_readAll 82 = .ok (.iastore, 1) := by decide +kernel
theorem d_D_readAll_83 : decode c_D_readAll 83 = .ok (.aload_n 0, 1) := by decide +kernel
theorem d_D_readAll_84 : decode c_D_readAll 84 = .ok (.getfield 28, 3) := by decide +kernel
theorem d_D_readAll_87 : decode c_D_readAll 87 = .ok (.iload_n 1, 1) := by decide +kernel
theorem d_D_readAll_88 : decode c_D_readAll 88 = .ok (.aload_n 0, 1) := by decide +kernel
theorem d_D_readAll_89 : decode c_D_readAll 89 = .ok (.getfield 45, 3) := by decide +kernel
theorem d_D_readAll_92 : decode c_D_readAll 92 = .ok (.ifCond .ne 10, 3) := by decide +kernel
theorem d_D_readAll_95 : decode c_D_readAll 95 = .ok (.aload_n 0, 1) := by decide +kernel
theorem d_D_readAll_96 : decode c_D_readAll 96 = .ok (.getfield 48, 3) := by decide +kernel
theorem d_D_readAll_99 : decode c_D_readAll 99 = .ok (.goto 4, 3) := by decide +kernel
theorem d_D_readAll_102 : decode c_D_readAll 102 = .ok (.iconst 0, 1) := by decide +kernel
theorem d_D_readAll_103 : decode c_D_readAll 103 = .ok (.iastore, 1) := by decide +kernel
theorem d_D_readAll_104 : decode c_D_readAll 104 = .ok (.aload_n 0, 1) := by decide +kernel
theorem d_D_readAll_105 : decode c_D_readAll 105 = .ok (.getfield 31, 3) := by decide +kernel
theorem d_D_readAll_108 : decode c_D_readAll 108 = .ok (.iload_n 1, 1) := by decide +kernel
theorem d_D_readAll_109 : decode c_D_readAll 109 = .ok (.aload_n 0, 1) := by decide +kernel
theorem d_D_readAll_110 : decode c_D_readAll 110 = .ok (.getfield 28, 3) := by decide +kernel
theorem d_D_readAll_113 : decode c_D_readAll 113 = .ok (.iload_n 1, 1) := by decide +kernel
theorem d_D_readAll_114 : decode c_D_readAll 114 = .ok (.iaload, 1) := by decide +kernel
theorem d_D_readAll_115 : decode c_D_readAll 115 = .ok (.ifCond .ne 7, 3) := by decide +kernel
theorem d_D_readAll_118 : decode c_D_readAll 118 = .ok (.iconst 0, 1) := by decide +kernel
theorem d_D_readAll_119 : decode c_D_readAll 119 = .ok (.goto 18, 3) := by decide +kernel
theorem d_D_readAll_122 : decode c_D_readAll 122 = .ok (.aload_n 0, 1) := by decide +kernel
theorem d_D_readAll_123 : decode c_D_readAll 123 = .ok (.getfield 31, 3) := by decide +kernel
theorem d_D_readAll_126 : decode c_D_readAll 126 = .ok (.iload_n 1, 1) := by decide +kernel
theorem d_D_readAll_127 : decode c_D_readAll 127 = .ok (.aload_n 0, 1) := by decide +kernel
theorem d_D_readAll_128 : decode c_D_readAll 128 = .ok (.getfield 28, 3) := by decide +kernel
theorem d_D_readAll_131 : decode c_D_readAll 131 = .ok (.iload_n 1, 1) := by decide +kernel
theorem d_D_readAll_132 : decode c_D_readAll 132 = .ok (.iaload, 1) := by decide +kernel
theorem d_D_readAll_133 : decode c_D_readAll 133 = .ok (.isub, 1) := by decide +kernel
theorem d_D_readAll_134 : decode c_D_readAll 134 = .ok (.iaload, 1) := by decide +kernel
theorem d_D_readAll_135 : decode c_D_readAll 135 = .ok (.iconst 1, 1) := by decide +kernel
theorem d_D_readAll_136 : decode c_D_readAll 136 = .ok (.iadd, 1) := by decide +kernel
theorem d_D_readAll_137 : decode c_D_readAll 137 = .ok (.iastore, 1) := by decide +kernel
theorem d_D_readAll_138 : decode c_D_readAll 138 = .ok (.iinc 1 1, 3) := by decide +kernel
theorem d_D_readAll_141 : decode c_D_readAll 141 = .ok (.goto (-139), 3) := by decide +kernel
theorem d_D_readAll_144 : decode c_D_readAll 144 = .ok (.return_, 1) := by decide +kernel
theorem d_D_readRecord_0 : decode c_D_readRecord 0 = .ok (.aload_n 0, 1) := by decide +kernel
theorem d_D_readRecord_1 : decode c_D_readRecord 1 = .ok (.aload_n 0, 1) := by decide +kernel
theorem d_D_readRecord_2 : decode c_D_readRecord 2 = .ok (.invokevirtual 61, 3) := by decide +kernel
theorem d_D_readRecord_5 : decode c_D_readRecord 5 = .ok (.putfield 65, 3) := by decide +kernel
theorem d_D_readRecord_8 : decode c_D_readRecord 8 = .ok (.aload_n 0, 1) := by decide +kernel
theorem d_D_readRecord_9 : decode c_D_readRecord 9 = .ok (.aload_n 0, 1) := by decide +kernel
theorem d_D_readRecord_10 : decode c_D_readRecord 10 = .ok (.getfield 65, 3) := by decide +kernel
theorem d_D_readRecord_13 : decode c_D_readRecord 13 = .ok (.aload_n 0, 1) := by decide +kernel
theorem d_D_readRecord_14 : decode c_D_readRecord 14 = .ok (.getfield 7, 3) := by decide +kernel
theorem d_D_readRecord_17 : decode c_D_readRecord 17 = .ok (.if_icmp .le 7, 3) := by decide +kernel
theorem d_D_readRecord_20 : decode c_D_readRecord 20 = .ok (.iconst 1, 1) := by decide +kernel
theorem d_D_readRecord_21 : decode c_D_readRecord 21 = .ok (.goto 4, 3) := by decide +kernel
theorem d_D_readRecord_24 : decode c_D_readRecord 24 = .ok (.iconst 0, 1) := by decide +kernel
theorem d_D_readRecord_25 : decode c_D_readRecord 25 = .ok (.iconst 3, 1) := by decide +kernel
theorem d_D_readRecord_26 : decode c_D_readRecord 26 = .ok (.invokevirtual 68, 3) := by decide +kernel
theorem d_D_readRecord_29 : decode c_D_readRecord 29 = .ok (.aload_n 0, 1) := by decide +kernel
theorem d_D_readRecord_30 : decode c_D_readRecord 30 = .ok (.invokevirtual 72, 3) := by decide +kernel
theorem d_D_readRecord_33 : decode c_D_readRecord 33 = .ok (.ifCond .eq 17, 3) := by decide +kernel
theorem d_D_readRecord_36 : decode c_D_readRecord 36 = .ok (.aload_n 0, 1) := by decide +kernel
theorem d_D_readRecord_37 : decode c_D_readRecord 37 = .ok (.getfield 13, 3) := by decide +kernel
theorem d_D_readRecord_40 : decode c_D_readRecord 40 = .ok (.getfield 76, 3) := by decide +kernel
theorem d_D_readRecord_43 : decode c_D_readRecord 43 = .ok (.ifCond .le 7, 3) := by decide +kernel
theorem d_D_readRecord_46 : decode c_D_readRecord 46 = .ok (.aload_n 0, 1) := by decide +kernel
theorem d_D_readRecord_47 : decode c_D_readRecord 47 = .ok (.invokevirtual 79, 3) := by decide +kernel
theorem d_D_readRecord_50 : decode c_D_readRecord 50 = .ok (.aload_n 0, 1) := by decide +kernel
theorem d_D_readRecord_51 : decode c_D_readRecord 51 = .ok (.invokevirtual 72, 3) := by decide +kernel
theorem d_D_readRecord_54 : decode c_D_readRecord 54 = .ok (.ifCond .eq 28, 3) := by decide +kernel
theorem d_D_readRecord_57 : decode c_D_readRecord 57 = .ok (.aload_n 0, 1) := by decide +kernel
theorem d_D_readRecord_58 : decode c_D_readRecord 58 = .ok (.getfield 48, 3) := by decide +kernel
theorem d_D_readRecord_61 : decode c_D_readRecord 61 = .ok (.ifCond .le 21, 3) := by decide +kernel
theorem d_D_readRecord_64 : decode c_D_readRecord 64 = .ok (.aload_n 0, 1) := by decide +kernel
theorem d_D_readRecord_65 : decode c_D_readRecord 65 = .ok (.aload_n 0, 1) := by decide +kernel
theorem d_D_readRecord_66 : decode c_D_readRecord 66 = .ok (.getfield 21, 3) := by decide +kernel
theorem d_D_readRecord_69 : decode c_D_readRecord 69 = .ok (.aload_n 0, 1) := by decide +kernel
theorem d_D_readRecord_70 : decode c_D_readRecord 70 = .ok (.getfield 34, 3) := by decide +kernel
theorem d_D_readRecord_73 : decode c_D_readRecord 73 = .ok (.aload_n 0, 1) := by decide +kernel
theorem d_D_readRecord_74 : decode c_D_readRecord 74 = .ok (.getfield 48, 3) := by decide +kernel
theorem d_D_readRecord_77 : decode c_D_readRecord 77 = .ok (.isub, 1) := by decide +kernel
theorem d_D_readRecord_78 : decode c_D_readRecord 78 = .ok (.iaload, 1) := by decide +kernel
theorem d_D_readRecord_79 : decode c_D_readRecord 79 = .ok (.invokevirtual 82, 3) := by decide +kernel
theorem d_D_readRecord_82 : decode c_D_readRecord 82 = .ok (.aload_n 0, 1) := by decide +kernel
theorem d_D_readRecord_83 : decode c_D_readRecord 83 = .ok (.invokevirtual 72, 3) := by decide +kernel
theorem d_D_readRecord_86 : decode c_D_readRecord 86 = .ok (.ifCond .eq 17, 3) := by decide +kernel
theorem d_D_readRecord_89 : decode c_D_readRecord 89 = .ok (.aload_n 0, 1) := by decide +kernel
theorem d_D_readRecord_90 : decode c_D_readRecord 90 = .ok (.getfield 13, 3) := by decide +kernel
theorem d_D_readRecord_93 : decode c_D_readRecord 93 = .ok (.getfield 86, 3) := by decide +kernel
theorem d_D_readRecord_96 : decode c_D_readRecord 96 = .ok (.ifCond .le 7, 3) := by decide +kernel
theorem d_D_readRecord_99 : decode c_D_readRecord 99 = .ok (.aload_n 0, 1) := by decide +kernel
theorem d_D_readRecord_100 : decode c_D_readRecord 100 = .ok (.invokevirtual 89, 3) := by decide +kernel
theorem d_D_readRecord_103 : decode c_D_readRecord 103 = .ok (.aload_n 0, 1) := by decide +kernel
theorem d_D_readRecord_104 : decode c_D_readRecord 104 = .ok (.invokevirtual 72, 3) := by decide +kernel
theorem d_D_readRecord_107 : decode c_D_readRecord 107 = .ok (.ifCond .eq 7, 3) := by decide +kernel
theorem d_D_readRecord_110 : decode c_D_readRecord 110 = .ok (.aload_n 0, 1) := by decide +kernel
theorem d_D_readRecord_111 : decode c_D_readRecord 111 = .ok (.invokevirtual 92, 3) := by decide +kernel
theorem d_D_readRecord_114 : decode c_D_readRecord 114 = .ok (.aload_n 0, 1) := by decide +kernel
theorem d_D_readRecord_115 : decode c_D_readRecord 115 = .ok (.aload_n 0, 1) := by decide +kernel
theorem d_D_readRecord_116 : decode c_D_readRecord 116 = .ok (.getfield 54, 3) := by decide +kernel
theorem d_D_readRecord_119 : decode c_D_readRecord 119 = .ok (.bipush 9, 2) := by decide +kernel
theorem d_D_readRecord_121 : decode c_D_readRecord 121 = .ok (.invokevirtual 68, 3) := by decide +kernel
theorem d_D_readRecord_124 : decode c_D_readRecord 124 = .ok (.aload_n 0, 1) := by decide +kernel
theorem d_D_readRecord_125 : decode c_D_readRecord 125 = .ok (.aload_n 0, 1) := by decide +kernel
theorem d_D_readRecord_126 : decode c_D_readRecord 126 = .ok (.getfield 42, 3) := by decide +kernel
theorem d_D_readRecord_129 : decode c_D_readRecord 129 = .ok (.aload_n 0, 1) := by decide +kernel
theorem d_D_readRecord_130 : decode c_D_readRecord 130 = .ok (.getfield 13, 3) := by decide +kernel
theorem d_D_readRecord_133 : decode c_D_readRecord 133 = .ok (.getfield 37, 3) := by decide +kernel
theorem d_D_readRecord_136 : decode c_D_readRecord 136 = .ok (.aload_n 0, 1) := by decide +kernel
theorem d_D_readRecord_137 : decode c_D_readRecord 137 = .ok (.getfield 34, 3) := by decide +kernel
theorem d_D_readRecord_140 : decode c_D_readRecord 140 = .ok (.iconst 1, 1) := by decide +kernel
theorem d_D_readRecord_141 : decode c_D_readRecord 141 = .ok (.iadd, 1) := by decide +kernel
theorem d_D_readRecord_142 : decode c_D_readRecord 142 = .ok (.iaload, 1) := by decide +kernel
theorem d_D_readRecord_143 : decode c_D_readRecord 143 = .ok (.if_icmp .eq 7, 3) := by decide +kernel
theorem d_D_readRecord_146 : decode c_D_readRecord 146 = .ok (.iconst 1, 1) := by decide +kernel
theorem d_D_readRecord_147 : decode c_D_readRecord 147 = .ok (.goto 4, 3) := by decide +kernel
theorem d_D_readRecord_150 : decode c_D_readRecord 150 = .ok (.iconst 0, 1) := by decide +kernel
theorem d_D_readRecord_151 : decode c_D_readRecord 151 = .ok (.bipush 10, 2) := by decide +kernel
theorem d_D_readRecord_153 : decode c_D_readRecord 153 = .ok (.invokevirtual 68, 3) := by decide +kernel
theorem d_D_readRecord_156 : decode c_D_readRecord 156 = .ok (.return_, 1) := by decide +kernel
theorem d_D_goesOn_0 : decode c_D_goesOn 0 = .ok (.aload_n 0, 1) := by decide +kernel
theorem d_D_goesOn_1 : decode c_D_goesOn 1 = .ok (.getfield 45, 3) := by decide +kernel
theorem d_D_goesOn_4 : decode c_D_goesOn 4 = .ok (.ifCond .ne 14, 3) := by decide +kernel
theorem d_D_goesOn_7 : decode c_D_goesOn 7 = .ok (.aload_n 0, 1) := by decide +kernel
theorem d_D_goesOn_8 : decode c_D_goesOn 8 = .ok (.getfield 65, 3) := by decide +kernel
theorem d_D_goesOn_11 : decode c_D_goesOn 11 = .ok (.ifCond .le 7, 3) := by decide +kernel
theorem d_D_goesOn_14 : decode c_D_goesOn 14 = .ok (.iconst 1, 1) := by decide +kernel
theorem d_D_goesOn_15 : decode c_D_goesOn 15 = .ok (.goto 4, 3) := by decide +kernel
theorem d_D_goesOn_18 : decode c_D_goesOn 18 = .ok (.iconst 0, 1) := by decide +kernel
theorem d_D_goesOn_19 : decode c_D_goesOn 19 = .ok (.ireturn, 1) := by decide +kernel
theorem d_D_failIf_0 : decode c_D_failIf 0 = .ok (.iload_n 1, 1) := by decide +kernel
theorem d_D_failIf_1 : decode c_D_failIf 1 = .ok (.ifCond .eq 15, 3) := by decide +kernel
theorem d_D_failIf_4 : decode c_D_failIf 4 = .ok (.aload_n 0, 1) := by decide +kernel
theorem d_D_failIf_5 : decode c_D_failIf 5 = .ok (.getfield 45, 3) := by decide +kernel
theorem d_D_failIf_8 : decode c_D_failIf 8 = .ok (.ifCond .ne 8, 3) := by decide +kernel
theorem d_D_failIf_11 : decode c_D_failIf 11 = .ok (.aload_n 0, 1) := by decide +kernel
theorem d_D_failIf_12 : decode c_D_failIf 12 = .ok (.iload_n 2, 1) := by decide +kernel
theorem d_D_failIf_13 : decode c_D_failIf 13 = .ok (.putfield 45, 3) := by decide +kernel
theorem d_D_failIf_16 : decode c_D_failIf 16 = .ok (.return_, 1) := by decide +kernel
theorem d_D_readReference_0 : decode c_D_readReference 0 = .ok (.aload_n 0, 1) := by decide +kernel
theorem d_D_readReference_1 : decode c_D_readReference 1 = .ok (.aload_n 0, 1) := by decide +kernel
theorem d_D_readReference_2 : decode c_D_readReference 2 = .ok (.invokevirtual 95, 3) := by decide +kernel
theorem d_D_readReference_5 : decode c_D_readReference 5 = .ok (.putfield 48, 3) := by decide +kernel
theorem d_D_readReference_8 : decode c_D_readReference 8 = .ok (.aload_n 0, 1) := by decide +kernel
theorem d_D_readReference_9 : decode c_D_readReference 9 = .ok (.aload_n 0, 1) := by decide +kernel
theorem d_D_readReference_10 : decode c_D_readReference 10 = .ok (.getfield 48, 3) := by decide +kernel
theorem d_D_readReference_13 : decode c_D_readReference 13 = .ok (.aload_n 0, 1) := by decide +kernel
theorem d_D_readReference_14 : decode c_D_readReference 14 = .ok (.getfield 13, 3) := by decide +kernel
theorem d_D_readReference_17 : decode c_D_readReference 17 = .ok (.getfield 76, 3) := by decide +kernel
theorem d_D_readReference_20 : decode c_D_readReference 20 = .ok (.if_icmp .gt 14, 3) := by decide +kernel
theorem d_D_readReference_23 : decode c_D_readReference 23 = .ok (.aload_n 0, 1) := by decide +kernel
theorem d_D_readReference_24 : decode c_D_readReference 24 = .ok (.getfield 48, 3) := by decide +kernel
theorem d_D_readReference_27 : decode c_D_readReference 27 = .ok (.aload_n 0, 1) := by decide +kernel
theorem d_D_readReference_28 : decode c_D_readReference 28 = .ok (.getfield 34, 3) := by decide +kernel
theorem d_D_readReference_31 : decode c_D_readReference 31 = .ok (.if_icmp .le 7, 3) := by decide +kernel
theorem d_D_readReference_34 : decode c_D_readReference 34 = .ok (.iconst 1, 1) := by decide +kernel
theorem d_D_readReference_35 : decode c_D_readReference 35 = .ok (.goto 4, 3) := by decide +kernel
theorem d_D_readReference_38 : decode c_D_readReference 38 = .ok (.iconst 0, 1) := by decide +kernel
theorem d_D_readReference_39 : decode c_D_readReference 39 = .ok (.iconst 4, 1) := by decide +kernel
theorem d_D_readReference_40 : decode c_D_readReference 40 = .ok (.invokevirtual 68, 3) := by decide +kernel
theorem d_D_readReference_43 : decode c_D_readReference 43 = .ok (.aload_n 0, 1) := by decide +kernel
theorem d_D_readReference_44 : decode c_D_readReference 44 = .ok (.getfield 45, 3) := by decide +kernel
theorem d_D_readReference_47 : decode c_D_readReference 47 = .ok (.ifCond .ne 55, 3) := by decide +kernel
theorem d_D_readReference_50 : decode c_D_readReference 50 = .ok (.aload_n 0, 1) := by decide +kernel
theorem d_D_readReference_51 : decode c_D_readReference 51 = .ok (.getfield 48, 3) := by decide +kernel
theorem d_D_readReference_54 : decode c_D_readReference 54 = .ok (.ifCond .le 48, 3) := by decide +kernel
theorem d_D_readReference_57 : decode c_D_readReference 57 = .ok (.aload_n 0, 1) := by decide +kernel
theorem d_D_readReference_58 : decode c_D_readReference 58 = .ok (.getfield 34, 3) := by decide +kernel
theorem d_D_readReference_61 : decode c_D_readReference 61 = .ok (.aload_n 0, 1) := by decide +kernel
theorem d_D_readReference_62 : decode c_D_readReference 62 = .ok (.getfield 48, 3) := by decide +kernel
theorem d_D_readReference_65 : decode c_D_readReference 65 = .ok (.isub, 1) := by decide +kernel
theorem d_D_readReference_66 : decode c_D_readReference 66 = .ok (.istore_n 1, 1) := by decide +kernel
theorem d_D_readReference_67 : decode c_D_readReference 67 = .ok (.aload_n 0, 1) := by decide +kernel
theorem d_D_readReference_68 : decode c_D_readReference 68 = .ok (.aload_n 0, 1) := by decide +kernel
theorem d_D_readReference_69 : decode c_D_readReference 69 = .ok (.getfield 25, 3) := by decide +kernel
theorem d_D_readReference_72 : decode c_D_readReference 72 = .ok (.iload_n 1, 1) := by decide +kernel
theorem d_D_readReference_73 : decode c_D_readReference 73 = .ok (.iaload, 1) := by decide +kernel
theorem d_D_readReference_74 : decode c_D_readReference 74 = .ok (.ifCond .ne 19, 3) := by decide +kernel
theorem d_D_readReference_77 : decode c_D_readReference 77 = .ok (.aload_n 0, 1) := by decide +kernel
theorem d_D_readReference_78 : decode c_D_readReference 78 = .ok (.getfield 31, 3) := by decide +kernel
theorem d_D_readReference_81 : decode c_D_readReference 81 = .ok (.iload_n 1, 1) := by decide +kernel
theorem d_D_readReference_82 : decode c_D_readReference 82 = .ok (.iaload, 1) := by decide +kernel
theorem d_D_readReference_83 : decode c_D_readReference 83 = .ok (.aload_n 0, 1) := by decide +kernel
theorem d_D_readReference_84 : decode c_D_readReference 84 = .ok (.getfield 13, 3) := by decide +kernel
theorem d_D_readReference_87 : decode c_D_readReference 87 = .ok (.getfield 98, 3) := by decide +kernel
theorem d_D_readReference_90 : decode c_D_readReference 90 = .ok (.if_icmp .lt 7, 3) := by decide +kernel
theorem d_D_readReference_93 : decode c_D_readReference 93 = .ok (.iconst 1, 1) := by decide +kernel
theorem d_D_readReference_94 : decode c_D_readReference 94 = .ok (.goto 4, 3) := by decide +kernel
theorem d_D_readReference_97 : decode c_D_readReference 97 = .ok (.iconst 0, 1) := by decide +kernel
theorem d_D_readReference_98 : decode c_D_readReference 98 = .ok (.iconst 5, 1) := by decide +kernel
theorem d_D_readReference_99 : decode c_D_readReference 99 = .ok (.invokevirtual 68, 3) := by decide +kernel
theorem d_D_readReference_102 : decode c_D_readReference 102 = .ok (.return_, 1) := by decide +kernel
theorem d_D_readRuns_0 : decode c_D_readRuns 0 = .ok (.iconst 0, 1) := by decide +kernel
theorem d_D_readRuns_1 : decode c_D_readRuns 1 = .ok (.istore_n 2, 1) := by decide +kernel
theorem d_D_readRuns_2 : decode c_D_readRuns 2 = .ok (.iload_n 1, 1) := by decide +kernel
theorem d_D_readRuns_3 : decode c_D_readRuns 3 = .ok (.istore_n 3, 1) := by decide +kernel
theorem d_D_readRuns_4 : decode c_D_readRuns 4 = .ok (.aload_n 0, 1) := by decide +kernel
theorem d_D_readRuns_5 : decode c_D_readRuns 5 = .ok (.invokevirtual 61, 3) := by decide +kernel
theorem d_D_readRuns_8 : decode c_D_readRuns 8 = .ok (.istore 4, 2) := by decide +kernel
theorem d_D_readRuns_10 : decode c_D_readRuns 10 = .ok (.iconst 0, 1) := by decide +kernel
theorem d_D_readRuns_11 : decode c_D_readRuns 11 = .ok (.istore 5, 2) := by decide +kernel
theorem d_D_readRuns_13 : decode c_D_readRuns 13 = .ok (.iload 5, 2) := by decide +kernel
theorem d_D_readRuns_15 : decode c_D_readRuns 15 = .ok (.iload 4, 2) := by decide +kernel
theorem d_D_readRuns_17 : decode c_D_readRuns 17 = .ok (.if_icmp .ge 83, 3) := by decide +kernel
theorem d_D_readRuns_20 : decode c_D_readRuns 20 = .ok (.aload_n 0, 1) := by decide +kernel
theorem d_D_readRuns_21 : decode c_D_readRuns 21 = .ok (.getfield 45, 3) := by decide +kernel
theorem d_D_readRuns_24 : decode c_D_readRuns 24 = .ok (.ifCond .ne 76, 3) := by decide +kernel
theorem d_D_readRuns_27 : decode c_D_readRuns 27 = .ok (.iload 5, 2) := by decide +kernel
theorem d_D_readRuns_29 : decode c_D_readRuns 29 = .ok (.ifCond .ne 10, 3) := by decide +kernel
theorem d_D_readRuns_32 : decode c_D_readRuns 32 = .ok (.aload_n 0, 1) := by decide +kernel
theorem d_D_readRuns_33 : decode c_D_readRuns 33 = .ok (.invokevirtual 61, 3) := by decide +kernel
theorem d_D_readRuns_36 : decode c_D_readRuns 36 = .ok (.goto 9, 3) := by decide +kernel
theorem d_D_readRuns_39 : decode c_D_readRuns 39 = .ok (.aload_n 0, 1) := by decide +kernel
theorem d_D_readRuns_40 : decode c_D_readRuns 40 = .ok (.invokevirtual 61, 3) := by decide +kernel
theorem d_D_readRuns_43 : decode c_D_readRuns 43 = .ok (.iconst 1, 1) := by decide +kernel
theorem d_D_readRuns_44 : decode c_D_readRuns 44 = .ok (.iadd, 1) := by decide +kernel
theorem d_D_readRuns_45 : decode c_D_readRuns 45 = .ok (.istore 6, 2) := by decide +kernel
theorem d_D_readRuns_47 : decode c_D_readRuns 47 = .ok (.aload_n 0, 1) := by decide +kernel
theorem d_D_readRuns_48 : decode c_D_readRuns 48 = .ok (.iload 6, 2) := by decide +kernel
theorem d_D_readRuns_50 : decode c_D_readRuns 50 = .ok (.iload_n 3, 1) := by decide +kernel
theorem d_D_readRuns_51 : decode c_D_readRuns 51 = .ok (.invokestatic 101, 3) := by decide +kernel
theorem d_D_readRuns_54 : decode c_D_readRuns 54 = .ok (.if_icmp .le 7, 3) := by decide +kernel
theorem d_D_readRuns_57 : decode c_D_readRuns 57 = .ok (.iconst 1, 1) := by decide +kernel
theorem d_D_readRuns_58 : decode c_D_readRuns 58 = .ok (.goto 4, 3) := by decide +kernel
theorem d_D_readRuns_61 : decode c_D_readRuns 61 = .ok (.iconst 0, 1) := by decide +kernel
theorem d_D_readRuns_62 : decode c_D_readRuns 62 = .ok (.bipush 6, 2) := by decide +kernel
theorem d_D_readRuns_64 : decode c_D_readRuns 64 = .ok (.invokevirtual 68, 3) := by decide +kernel
theorem d_D_readRuns_67 : decode c_D_readRuns 67 = .ok (.iload_n 3, 1) := by decide +kernel
theorem d_D_readRuns_68 : decode c_D_readRuns 68 = .ok (.iload 6, 2) := by decide +kernel
theorem d_D_readRuns_70 : decode c_D_readRuns 70 = .ok (.invokestatic 107, 3) := by decide +kernel
theorem d_D_readRuns_73 : decode c_D_readRuns 73 = .ok (.istore 7, 2) := by decide +kernel
theorem d_D_readRuns_75 : decode c_D_readRuns 75 = .ok (.iload_n 3, 1) := by decide +kernel
theorem d_D_readRuns_76 : decode c_D_readRuns 76 = .ok (.iload 7, 2) := by decide +kernel
theorem d_D_readRuns_78 : decode c_D_readRuns 78 = .ok (.iconst (-1), 1) := by decide +kernel
theorem d_D_readRuns_79 : decode c_D_readRuns 79 = .ok (.ixor, 1) := by decide +kernel
theorem d_D_readRuns_80 : decode c_D_readRuns 80 = .ok (.iand, 1) := by decide +kernel
theorem d_D_readRuns_81 : decode c_D_readRuns 81 = .ok (.istore_n 3, 1) := by decide +kernel
theorem d_D_readRuns_82 : decode c_D_readRuns 82 = .ok (.iload 5, 2) := by decide +kernel
theorem d_D_readRuns_84 : decode c_D_readRuns 84 = .ok (.iconst 2, 1) := by decide +kernel
theorem d_D_readRuns_85 : decode c_D_readRuns 85 = .ok (.irem, 1) := by decide +kernel
theorem d_D_readRuns_86 : decode c_D_readRuns 86 = .ok (.ifCond .ne 8, 3) := by decide +kernel
theorem d_D_readRuns_89 : decode c_D_readRuns 89 = .ok (.iload_n 2, 1) := by decide +kernel
theorem d_D_readRuns_90 : decode c_D_readRuns 90 = .ok (.iload 7, 2) := by decide +kernel
theorem d_D_readRuns_92 : decode c_D_readRuns 92 = .ok (.ior, 1) := by decide +kernel
theorem d_D_readRuns_93 : decode c_D_readRuns 93 = .ok (.istore_n 2, 1) := by decide +kernel
theorem d_D_readRuns_94 : decode c_D_readRuns 94 = .ok (.iinc 5 1, 3) := by decide +kernel
theorem d_D_readRuns_97 : decode c_D_readRuns 97 = .ok (.goto (-84), 3) := by decide +kernel
theorem d_D_readRuns_100 : decode c_D_readRuns 100 = .ok (.iload 4, 2) := by decide +kernel
theorem d_D_readRuns_102 : decode c_D_readRuns 102 = .ok (.iconst 2, 1) := by decide +kernel
theorem d_D_readRuns_103 : decode c_D_readRuns 103 = .ok (.irem, 1) := by decide +kernel
theorem d_D_readRuns_104 : decode c_D_readRuns 104 = .ok (.ifCond .ne 7, 3) := by decide +kernel
theorem d_D_readRuns_107 : decode c_D_readRuns 107 = .ok (.iload_n 2, 1) := by decide +kernel
theorem d_D_readRuns_108 : decode c_D_readRuns 108 = .ok (.iload_n 3, 1) := by decide +kernel
theorem d_D_readRuns_109 : decode c_D_readRuns 109 = .ok (.ior, 1) := by decide +kernel
theorem d_D_readRuns_110 : decode c_D_readRuns 110 = .ok (.istore_n 2, 1) := by decide +kernel
theorem d_D_readRuns_111 : decode c_D_readRuns 111 = .ok (.aload_n 0, 1) := by decide +kernel
theorem d_D_readRuns_112 : decode c_D_readRuns 112 = .ok (.iload_n 2, 1) := by decide +kernel
theorem d_D_readRuns_113 : decode c_D_readRuns 113 = .ok (.invokestatic 101, 3) := by decide +kernel
theorem d_D_readRuns_116 : decode c_D_readRuns 116 = .ok (.aload_n 0, 1) := by decide +kernel
theorem d_D_readRuns_117 : decode c_D_readRuns 117 = .ok (.getfield 65, 3) := by decide +kernel
theorem d_D_readRuns_120 : decode c_D_readRuns 120 = .ok (.if_icmp .le 7, 3) := by decide +kernel
theorem d_D_readRuns_123 : decode c_D_readRuns 123 = .ok (.iconst 1, 1) := by decide +kernel
theorem d_D_readRuns_124 : decode c_D_readRuns 124 = .ok (.goto 4, 3) := by decide +kernel
theorem d_D_readRuns_127 : decode c_D_readRuns 127 = .ok (.iconst 0, 1) := by decide +kernel
theorem d_D_readRuns_128 : decode c_D_readRuns 128 = .ok (.bipush 6, 2) := by decide +kernel
theorem d_D_readRuns_130 : decode c_D_readRuns 130 = .ok (.invokevirtual 68, 3) := by decide +kernel
theorem d_D_readRuns_133 : decode c_D_readRuns 133 = .ok (.aload_n 0, 1) := by decide +kernel
theorem d_D_readRuns_134 : decode c_D_readRuns 134 = .ok (.iload_n 2, 1) := by decide +kernel
theorem d_D_readRuns_135 : decode c_D_readRuns 135 = .ok (.invokevirtual 111, 3) := by decide +kernel
theorem d_D_readRuns_138 : decode c_D_readRuns 138 = .ok (.return_, 1) := by decide +kernel
theorem d_D_lowest_0 : decode c_D_lowest 0 = .ok (.iload_n 0, 1) := by decide +kernel
theorem d_D_lowest_1 : decode c_D_lowest 1 = .ok (.istore_n 2, 1) := by decide +kernel
theorem d_D_lowest_2 : decode c_D_lowest 2 = .ok (.iconst 0, 1) := by decide +kernel
theorem d_D_lowest_3 : decode c_D_lowest 3 = .ok (.istore_n 3, 1) := by decide +kernel
theorem d_D_lowest_4 : decode c_D_lowest 4 = .ok (.iload_n 3, 1) := by decide +kernel
theorem d_D_lowest_5 : decode c_D_lowest 5 = .ok (.iload_n 1, 1) := by decide +kernel
theorem d_D_lowest_6 : decode c_D_lowest 6 = .ok (.if_icmp .ge 19, 3) := by decide +kernel
theorem d_D_lowest_9 : decode c_D_lowest 9 = .ok (.iload_n 2, 1) := by decide +kernel
theorem d_D_lowest_10 : decode c_D_lowest 10 = .ok (.ifCond .eq 15, 3) := by decide +kernel
theorem d_D_lowest_13 : decode c_D_lowest 13 = .ok (.iload_n 2, 1) := by decide +kernel
theorem d_D_lowest_14 : decode c_D_lowest 14 = .ok (.iload_n 2, 1) := by decide +kernel
theorem d_D_lowest_15 : decode c_D_lowest 15 = .ok (.iconst 1, 1) := by decide +kernel
theorem d_D_lowest_16 : decode c_D_lowest 16 = .ok (.isub, 1) := by decide +kernel
theorem d_D_lowest_17 : decode c_D_lowest 17 = .ok (.iand, 1) := by decide +kernel
theorem d_D_lowest_18 : decode c_D_lowest 18 = .ok (.istore_n 2, 1) := by decide +kernel
theorem d_D_lowest_19 : decode c_D_lowest 19 = .ok (.iinc 3 1, 3) := by decide +kernel
theorem d_D_lowest_22 : decode c_D_lowest 22 = .ok (.goto (-18), 3) := by decide +kernel
theorem d_D_lowest_25 : decode c_D_lowest 25 = .ok (.iload_n 0, 1) := by decide +kernel
theorem d_D_lowest_26 : decode c_D_lowest 26 = .ok (.iload_n 2, 1) := by decide +kernel
theorem d_D_lowest_27 : decode c_D_lowest 27 = .ok (.iconst (-1), 1) := by decide +kernel
theorem d_D_lowest_28 : decode c_D_lowest 28 = .ok (.ixor, 1) := by decide +kernel
theorem d_D_lowest_29 : decode c_D_lowest 29 = .ok (.iand, 1) := by decide +kernel
theorem d_D_lowest_30 : decode c_D_lowest 30 = .ok (.ireturn, 1) := by decide +kernel
theorem d_D_readIntervals_0 : decode c_D_readIntervals 0 = .ok (.aload_n 0, 1) := by decide +kernel
theorem d_D_readIntervals_1 : decode c_D_readIntervals 1 = .ok (.invokevirtual 61, 3) := by decide +kernel
theorem d_D_readIntervals_4 : decode c_D_readIntervals 4 = .ok (.istore_n 1, 1) := by decide +kernel
theorem d_D_readIntervals_5 : decode c_D_readIntervals 5 = .ok (.iconst 0, 1) := by decide +kernel
theorem d_D_readIntervals_6 : decode c_D_readIntervals 6 = .ok (.istore_n 2, 1) := by decide +kernel
theorem d_D_readIntervals_7 : decode c_D_readIntervals 7 = .ok (.iconst 0, 1) := by decide +kernel
theorem d_D_readIntervals_8 : decode c_D_readIntervals 8 = .ok (.istore_n 3, 1) := by decide +kernel
theorem d_D_readIntervals_9 : decode c_D_readIntervals 9 = .ok (.iload_n 3, 1) := by decide +kernel
theorem d_D_readIntervals_10 : decode c_D_readIntervals 10 = .ok (.iload_n 1, 1) := by decide +kernel
theorem d_D_readIntervals_11 : decode c_D_readIntervals 11 = .ok (.if_icmp .ge 143, 3) := by decide +kernel
theorem d_D_readIntervals_14 : decode c_D_readIntervals 14 = .ok (.aload_n 0, 1) := by decide +kernel
theorem d_D_readIntervals_15 : decode c_D_readIntervals 15 = .ok (.getfield 45, 3) := by decide +kernel
theorem d_D_readIntervals_18 : decode c_D_readIntervals 18 = .ok (.ifCond .ne 136, 3) := by decide +kernel
theorem d_D_readIntervals_21 : decode c_D_readIntervals 21 = .ok (.iload_n 3, 1) := by decide +kernel
theorem d_D_readIntervals_22 : decode c_D_readIntervals 22 = .ok (.ifCond .ne 18, 3) := by decide +kernel
theorem d_D_readIntervals_25 : decode c_D_readIntervals 25 = .ok (.aload_n 0, 1) := by decide +kernel
theorem d_D_readIntervals_26 : decode c_D_readIntervals 26 = .ok (.getfield 34, 3) := by decide +kernel
theorem d_D_readIntervals_29 : decode c_D_readIntervals 29 = .ok (.aload_n 0, 1) := by decide +kernel
theorem d_D_readIntervals_30 : decode c_D_readIntervals 30 = .ok (.invokevirtual 61, 3) := by decide +kernel
theorem d_D_readIntervals_33 : decode c_D_readIntervals 33 = .ok (.invokestatic 114, 3) := by decide +kernel
theorem d_D_readIntervals_36 : decode c_D_readIntervals 36 = .ok (.iadd, 1) := by decide +kernel
theorem d_D_readIntervals_37 : decode c_D_readIntervals 37 = .ok (.goto 11, 3) := by decide +kernel
theorem d_D_readIntervals_40 : decode c_D_readIntervals 40 = .ok (.iload_n 2, 1) := by decide +kernel
theorem d_D_readIntervals_41 : decode c_D_readIntervals 41 = .ok (.iconst 2, 1) := by decide +kernel
theorem d_D_readIntervals_42 : decode c_D_readIntervals 42 = .ok (.iadd, 1) := by decide +kernel
theorem d_D_readIntervals_43 : decode c_D_readIntervals 43 = .ok (.aload_n 0, 1) := by decide +kernel
theorem d_D_readIntervals_44 : decode c_D_readIntervals 44 = .ok (.invokevirtual 61, 3) := by decide +kernel
theorem d_D_readIntervals_47 : decode c_D_readIntervals 47 = .ok (.iadd, 1) := by decide +kernel
theorem d_D_readIntervals_48 : decode c_D_readIntervals 48 = .ok (.istore 4, 2) := by decide +kernel
theorem d_D_readIntervals_50 : decode c_D_readIntervals 50 = .ok (.aload_n 0, 1) := by decide +kernel
theorem d_D_readIntervals_51 : decode c_D_readIntervals 51 = .ok (.iload 4, 2) := by decide +kernel
theorem d_D_readIntervals_53 : decode c_D_readIntervals 53 = .ok (.iconst 0, 1) := by decide +kernel
theorem d_D_readIntervals_54 : decode c_D_readIntervals 54 = .ok (.aload_n 0, 1) := by decide +kernel
theorem d_D_readIntervals_55 : decode c_D_readIntervals 55 = .ok (.getfield 7, 3) := by decide +kernel
theorem d_D_readIntervals_58 : decode c_D_readIntervals 58 = .ok (.iconst 1, 1) := by decide +kernel
theorem d_D_readIntervals_59 : decode c_D_readIntervals 59 = .ok (.isub, 1) := by decide +kernel
theorem d_D_readIntervals_60 : decode c_D_readIntervals 60 = .ok (.invokestatic 119, 3) := by decide +kernel
theorem d_D_readIntervals_63 : decode c_D_readIntervals 63 = .ok (.ifCond .ne 7, 3) := by decide +kernel
theorem d_D_readIntervals_66 : decode c_D_readIntervals 66 = .ok (.iconst 1, 1) := by decide +kernel
theorem d_D_readIntervals_67 : decode c_D_readIntervals 67 = .ok (.goto 4, 3) := by decide +kernel
theorem d_D_readIntervals_70 : decode c_D_readIntervals 70 = .ok (.iconst 0, 1) := by decide +kernel
theorem d_D_readIntervals_71 : decode c_D_readIntervals 71 = .ok (.bipush 7, 2) := by decide +kernel
theorem d_D_readIntervals_73 : decode c_D_readIntervals 73 = .ok (.invokevirtual 68, 3) := by decide +kernel
theorem d_D_readIntervals_76 : decode c_D_readIntervals 76 = .ok (.aload_n 0, 1) := by decide +kernel
theorem d_D_readIntervals_77 : decode c_D_readIntervals 77 = .ok (.invokevirtual 61, 3) := by decide +kernel
theorem d_D_readIntervals_80 : decode c_D_readIntervals 80 = .ok (.aload_n 0, 1) := by decide +kernel
theorem d_D_readIntervals_81 : decode c_D_readIntervals 81 = .ok (.getfield 13, 3) := by decide +kernel
theorem d_D_readIntervals_84 : decode c_D_readIntervals 84 = .ok (.getfield 86, 3) := by decide +kernel
theorem d_D_readIntervals_87 : decode c_D_readIntervals 87 = .ok (.iadd, 1) := by decide +kernel
theorem d_D_readIntervals_88 : decode c_D_readIntervals 88 = .ok (.istore 5, 2) := by decide +kernel
theorem d_D_readIntervals_90 : decode c_D_readIntervals 90 = .ok (.iload 4, 2) := by decide +kernel
theorem d_D_readIntervals_92 : decode c_D_readIntervals 92 = .ok (.iload 5, 2) := by decide +kernel
theorem d_D_readIntervals_94 : decode c_D_readIntervals 94 = .ok (.iadd, 1) := by decide +kernel
theorem d_D_readIntervals_95 : decode c_D_readIntervals 95 = .ok (.iconst 1, 1) := by decide +kernel
theorem d_D_readIntervals_96 : decode c_D_readIntervals 96 = .ok (.isub, 1) := by decide +kernel
theorem d_D_readIntervals_97 : decode c_D_readIntervals 97 = .ok (.istore_n 2, 1) := by decide +kernel
theorem d_D_readIntervals_98 : decode c_D_readIntervals 98 = .ok (.aload_n 0, 1) := by decide +kernel
theorem d_D_readIntervals_99 : decode c_D_readIntervals 99 = .ok (.iload_n 2, 1) := by decide +kernel
theorem d_D_readIntervals_100 : decode c_D_readIntervals 100 = .ok (.aload_n 0, 1) := by decide +kernel
theorem d_D_readIntervals_101 : decode c_D_readIntervals 101 = .ok (.getfield 7, 3) := by decide +kernel
theorem d_D_readIntervals_104 : decode c_D_readIntervals 104 = .ok (.iconst 1, 1) := by decide +kernel
theorem d_D_readIntervals_105 : decode c_D_readIntervals 105 = .ok (.isub, 1) := by decide +kernel
theorem d_D_readIntervals_106 : decode c_D_readIntervals 106 = .ok (.if_icmp .gt 12, 3) := by decide +kernel
theorem d_D_readIntervals_109 : decode c_D_readIntervals 109 = .ok (.iload 5, 2) := by decide +kernel
theorem d_D_readIntervals_111 : decode c_D_readIntervals 111 = .ok (.aload_n 0, 1) := by decide +kernel
theorem d_D_readIntervals_112 : decode c_D_readIntervals 112 = .ok (.getfield 65, 3) := by decide +kernel
theorem d_D_readIntervals_115 : decode c_D_readIntervals 115 = .ok (.if_icmp .le 7, 3) := by decide +kernel
theorem d_D_readIntervals_118 : decode c_D_readIntervals 118 = .ok (.iconst 1, 1) := by decide +kernel
theorem d_D_readIntervals_119 : decode c_D_readIntervals 119 = .ok (.goto 4, 3) := by decide +kernel
theorem d_D_readIntervals_122 : decode c_D_readIntervals 122 = .ok (.iconst 0, 1) := by decide +kernel
theorem d_D_readIntervals_123 : decode c_D_readIntervals 123 = .ok (.bipush 7, 2) := by decide +kernel
theorem d_D_readIntervals_125 : decode c_D_readIntervals 125 = .ok (.invokevirtual 68, 3) := by decide +kernel
theorem d_D_readIntervals_128 : decode c_D_readIntervals 128 = .ok (.aload_n 0, 1) := by decide +kernel
theorem d_D_readIntervals_129 : decode c_D_readIntervals 129 = .ok (.getfield 45, 3) := by decide +kernel
theorem d_D_readIntervals_132 : decode c_D_readIntervals 132 = .ok (.ifCond .ne 16, 3) := by decide +kernel
theorem d_D_readIntervals_135 : decode c_D_readIntervals 135 = .ok (.aload_n 0, 1) := by decide +kernel
theorem d_D_readIntervals_136 : decode c_D_readIntervals 136 = .ok (.iconst 1, 1) := by decide +kernel
theorem d_D_readIntervals_137 : decode c_D_readIntervals 137 = .ok (.iload 5, 2) := by decide +kernel
theorem d_D_readIntervals_139 : decode c_D_readIntervals 139 = .ok (.ishl, 1) := by decide +kernel
theorem d_D_readIntervals_140 : decode c_D_readIntervals 140 = .ok (.iconst 1, 1) := by decide +kernel
theorem d_D_readIntervals_141 : decode c_D_readIntervals 141 = .ok (.isub, 1) := by decide +kernel
theorem d_D_readIntervals_142 : decode c_D_readIntervals 142 = .ok (.iload 4, 2) := by decide +kernel
theorem d_D_readIntervals_144 : decode c_D_readIntervals 144 = .ok (.ishl, 1) := by decide +kernel
theorem d_D_readIntervals_145 : decode c_D_readIntervals 145 = .ok (.invokevirtual 111, 3) := by decide +kernel
theorem d_D_readIntervals_148 : decode c_D_readIntervals 148 = .ok (.iinc 3 1, 3) := by decide +kernel
theorem d_D_readIntervals_151 : decode c_D_readIntervals 151 = .ok (.goto (-142), 3) := by decide +kernel
theorem d_D_readIntervals_154 : decode c_D_readIntervals 154 = .ok (.return_, 1) := by decide +kernel
theorem d_D_readSingles_0 : decode c_D_readSingles 0 = .ok (.aload_n 0, 1) := by decide +kernel
theorem d_D_readSingles_1 : decode c_D_readSingles 1 = .ok (.getfield 65, 3) := by decide +kernel
theorem d_D_readSingles_4 : decode c_D_readSingles 4 = .ok (.istore_n 1, 1) := by decide +kernel
theorem d_D_readSingles_5 : decode c_D_readSingles 5 = .ok (.iconst 0, 1) := by decide +kernel
theorem d_D_readSingles_6 : decode c_D_readSingles 6 = .ok (.istore_n 2, 1) := by decide +kernel
theorem d_D_readSingles_7 : decode c_D_readSingles 7 = .ok (.iconst 0, 1) := by decide +kernel
theorem d_D_readSingles_8 : decode c_D_readSingles 8 = .ok (.istore_n 3, 1) := by decide +kernel
theorem d_D_readSingles_9 : decode c_D_readSingles 9 = .ok (.iload_n 3, 1) := by decide +kernel
theorem d_D_readSingles_10 : decode c_D_readSingles 10 = .ok (.iload_n 1, 1) := by decide +kernel
theorem d_D_readSingles_11 : decode c_D_readSingles 11 = .ok (.if_icmp .ge 83, 3) := by decide +kernel
theorem d_D_readSingles_14 : decode c_D_readSingles 14 = .ok (.aload_n 0, 1) := by decide +kernel
theorem d_D_readSingles_15 : decode c_D_readSingles 15 = .ok (.getfield 45, 3) := by decide +kernel
theorem d_D_readSingles_18 : decode c_D_readSingles 18 = .ok (.ifCond .ne 76, 3) := by decide +kernel
theorem d_D_readSingles_21 : decode c_D_readSingles 21 = .ok (.iload_n 3, 1) := by decide +kernel
theorem d_D_readSingles_22 : decode c_D_readSingles 22 = .ok (.ifCond .ne 18, 3) := by decide +kernel
theorem d_D_readSingles_25 : decode c_D_readSingles 25 = .ok (.aload_n 0, 1) := by decide +kernel
theorem d_D_readSingles_26 : decode c_D_readSingles 26 = .ok (.getfield 34, 3) := by decide +kernel
theorem d_D_readSingles_29 : decode c_D_readSingles 29 = .ok (.aload_n 0, 1) := by decide +kernel
theorem d_D_readSingles_30 : decode c_D_readSingles 30 = .ok (.invokevirtual 125, 3) := by decide +kernel
theorem d_D_readSingles_33 : decode c_D_readSingles 33 = .ok (.invokestatic 114, 3) := by decide +kernel
theorem d_D_readSingles_36 : decode c_D_readSingles 36 = .ok (.iadd, 1) := by decide +kernel
theorem d_D_readSingles_37 : decode c_D_readSingles 37 = .ok (.goto 11, 3) := by decide +kernel
theorem d_D_readSingles_40 : decode c_D_readSingles 40 = .ok (.iload_n 2, 1) := by decide +kernel
theorem d_D_readSingles_41 : decode c_D_readSingles 41 = .ok (.iconst 1, 1) := by decide +kernel
theorem d_D_readSingles_42 : decode c_D_readSingles 42 = .ok (.iadd, 1) := by decide +kernel
theorem d_D_readSingles_43 : decode c_D_readSingles 43 = .ok (.aload_n 0, 1) := by decide +kernel
theorem d_D_readSingles_44 : decode c_D_readSingles 44 = .ok (.invokevirtual 125, 3) := by decide +kernel
theorem d_D_readSingles_47 : decode c_D_readSingles 47 = .ok (.iadd, 1) := by decide +kernel
theorem d_D_readSingles_48 : decode c_D_readSingles 48 = .ok (.istore_n 2, 1) := by decide +kernel
theorem d_D_readSingles_49 : decode c_D_readSingles 49 = .ok (.aload_n 0, 1) := by decide +kernel
theorem d_D_readSingles_50 : decode c_D_readSingles 50 = .ok (.iload_n 2, 1) := by decide +kernel
theorem d_D_readSingles_51 : decode c_D_readSingles 51 = .ok (.iconst 0, 1) := by decide +kernel
theorem d_D_readSingles_52 : decode c_D_readSingles 52 = .ok (.aload_n 0, 1) := by decide +kernel
theorem d_D_readSingles_53 : decode c_D_readSingles 53 = .ok (.getfield 7, 3) := by decide +kernel
theorem d_D_readSingles_56 : decode c_D_readSingles 56 = .ok (.iconst 1, 1) := by decide +kernel
theorem d_D_readSingles_57 : decode c_D_readSingles 57 = .ok (.isub, 1) := by decide +kernel
theorem d_D_readSingles_58 : decode c_D_readSingles 58 = .ok (.invokestatic 119, 3) := by decide +kernel
theorem d_D_readSingles_61 : decode c_D_readSingles 61 = .ok (.ifCond .ne 7, 3) := by decide +kernel
theorem d_D_readSingles_64 : decode c_D_readSingles 64 = .ok (.iconst 1, 1) := by decide +kernel
theorem d_D_readSingles_65 : decode c_D_readSingles 65 = .ok (.goto 4, 3) := by decide +kernel
theorem d_D_readSingles_68 : decode c_D_readSingles 68 = .ok (.iconst 0, 1) := by decide +kernel
theorem d_D_readSingles_69 : decode c_D_readSingles 69 = .ok (.bipush 8, 2) := by decide +kernel
theorem d_D_readSingles_71 : decode c_D_readSingles 71 = .ok (.invokevirtual 68, 3) := by decide +kernel
theorem d_D_readSingles_74 : decode c_D_readSingles 74 = .ok (.aload_n 0, 1) := by decide +kernel
theorem d_D_readSingles_75 : decode c_D_readSingles 75 = .ok (.getfield 45, 3) := by decide +kernel
theorem d_D_readSingles_78 : decode c_D_readSingles 78 = .ok (.ifCond .ne 10, 3) := by decide +kernel
theorem d_D_readSingles_81 : decode c_D_readSingles 81 = .ok (.aload_n 0, 1) := by decide +kernel
theorem d_D_readSingles_82 : decode c_D_readSingles 82 = .ok (.iconst 1, 1) := by decide +kernel
theorem d_D_readSingles_83 : decode c_D_readSingles 83 = .ok (.iload_n 2, 1) := by decide +kernel
theorem d_D_readSingles_84 : decode c_D_readSingles 84 = .ok (.ishl, 1) := by decide +kernel
theorem d_D_readSingles_85 : decode c_D_readSingles 85 = .ok (.invokevirtual 111, 3) := by decide +kernel
theorem d_D_readSingles_88 : decode c_D_readSingles 88 = .ok (.iinc 3 1, 3) := by decide +kernel
theorem d_D_readSingles_91 : decode c_D_readSingles 91 = .ok (.goto (-82), 3) := by decide +kernel
theorem d_D_readSingles_94 : decode c_D_readSingles 94 = .ok (.return_, 1) := by decide +kernel
theorem d_D_take_0 : decode c_D_take 0 = .ok (.aload_n 0, 1) := by decide +kernel
theorem d_D_take_1 : decode c_D_take 1 = .ok (.aload_n 0, 1) := by decide +kernel
theorem d_D_take_2 : decode c_D_take 2 = .ok (.getfield 54, 3) := by decide +kernel
theorem d_D_take_5 : decode c_D_take 5 = .ok (.ifCond .ne 12, 3) := by decide +kernel
theorem d_D_take_8 : decode c_D_take 8 = .ok (.aload_n 0, 1) := by decide +kernel
theorem d_D_take_9 : decode c_D_take 9 = .ok (.getfield 51, 3) := by decide +kernel
theorem d_D_take_12 : decode c_D_take 12 = .ok (.iload_n 1, 1) := by decide +kernel
theorem d_D_take_13 : decode c_D_take 13 = .ok (.iand, 1) := by decide +kernel
theorem d_D_take_14 : decode c_D_take 14 = .ok (.ifCond .eq 7, 3) := by decide +kernel
theorem d_D_take_17 : decode c_D_take 17 = .ok (.iconst 1, 1) := by decide +kernel
theorem d_D_take_18 : decode c_D_take 18 = .ok (.goto 4, 3) := by decide +kernel
theorem d_D_take_21 : decode c_D_take 21 = .ok (.iconst 0, 1) := by decide +kernel
theorem d_D_take_22 : decode c_D_take 22 = .ok (.putfield 54, 3) := by decide +kernel
theorem d_D_take_25 : decode c_D_take 25 = .ok (.aload_n 0, 1) := by decide +kernel
theorem d_D_take_26 : decode c_D_take 26 = .ok (.dup, 1) := by decide +kernel
theorem d_D_take_27 : decode c_D_take 27 = .ok (.getfield 51, 3) := by decide +kernel
theorem d_D_take_30 : decode c_D_take 30 = .ok (.iload_n 1, 1) := by decide +kernel
theorem d_D_take_31 : decode c_D_take 31 = .ok (.ior, 1) := by decide +kernel
theorem d_D_take_32 : decode c_D_take 32 = .ok (.putfield 51, 3) := by decide +kernel
theorem d_D_take_35 : decode c_D_take 35 = .ok (.aload_n 0, 1) := by decide +kernel
theorem d_D_take_36 : decode c_D_take 36 = .ok (.dup, 1) := by decide +kernel
theorem d_D_take_37 : decode c_D_take 37 = .ok (.getfield 65, 3) := by decide +kernel
theorem d_D_take_40 : decode c_D_take 40 = .ok (.iload_n 1, 1) := by decide +kernel
theorem d_D_take_41 : decode c_D_take 41 = .ok (.invokestatic 101, 3) := by decide +kernel
theorem d_D_take_44 : decode c_D_take 44 = .ok (.isub, 1) := by decide +kernel
theorem d_D_take_45 : decode c_D_take 45 = .ok (.putfield 65, 3) := by decide +kernel
theorem d_D_take_48 : decode c_D_take 48 = .ok (.return_, 1) := by decide +kernel
theorem d_D_nextBit_0 : decode c_D_nextBit 0 = .ok (.aload_n 0, 1) := by decide +kernel
theorem d_D_nextBit_1 : decode c_D_nextBit 1 = .ok (.getfield 45, 3) := by decide +kernel
theorem d_D_nextBit_4 : decode c_D_nextBit 4 = .ok (.ifCond .ne 22, 3) := by decide +kernel
theorem d_D_nextBit_7 : decode c_D_nextBit 7 = .ok (.aload_n 0, 1) := by decide +kernel
theorem d_D_nextBit_8 : decode c_D_nextBit 8 = .ok (.getfield 42, 3) := by decide +kernel
theorem d_D_nextBit_11 : decode c_D_nextBit 11 = .ok (.aload_n 0, 1) := by decide +kernel
theorem d_D_nextBit_12 : decode c_D_nextBit 12 = .ok (.getfield 17, 3) := by decide +kernel
theorem d_D_nextBit_15 : decode c_D_nextBit 15 = .ok (.getfield 128, 3) := by decide +kernel
theorem d_D_nextBit_18 : decode c_D_nextBit 18 = .ok (.if_icmp .lt 8, 3) := by decide +kernel
theorem d_D_nextBit_21 : decode c_D_nextBit 21 = .ok (.aload_n 0, 1) := by decide +kernel
theorem d_D_nextBit_22 : decode c_D_nextBit 22 = .ok (.iconst 1, 1) := by decide +kernel
theorem d_D_nextBit_23 : decode c_D_nextBit 23 = .ok (.putfield 45, 3) := by decide +kernel
theorem d_D_nextBit_26 : decode c_D_nextBit 26 = .ok (.aload_n 0, 1) := by decide +kernel
theorem d_D_nextBit_27 : decode c_D_nextBit 27 = .ok (.getfield 45, 3) := by decide +kernel
theorem d_D_nextBit_30 : decode c_D_nextBit 30 = .ok (.ifCond .eq 5, 3) := by decide +kernel
theorem d_D_nextBit_33 : decode c_D_nextBit 33 = .ok (.iconst 1, 1) := by decide +kernel
theorem d_D_nextBit_34 : decode c_D_nextBit 34 = .ok (.ireturn, 1) := by decide +kernel
theorem d_D_nextBit_35 : decode c_D_nextBit 35 = .ok (.aload_n 0, 1) := by decide +kernel
theorem d_D_nextBit_36 : decode c_D_nextBit 36 = .ok (.dup, 1) := by decide +kernel
theorem d_D_nextBit_37 : decode c_D_nextBit 37 = .ok (.getfield 42, 3) := by decide +kernel
theorem d_D_nextBit_40 : decode c_D_nextBit 40 = .ok (.iconst 1, 1) := by decide +kernel
theorem d_D_nextBit_41 : decode c_D_nextBit 41 = .ok (.iadd, 1) := by decide +kernel
theorem d_D_nextBit_42 : decode c_D_nextBit 42 = .ok (.putfield 42, 3) := by decide +kernel
theorem d_D_nextBit_45 : decode c_D_nextBit 45 = .ok (.aload_n 0, 1) := by decide +kernel
theorem d_D_nextBit_46 : decode c_D_nextBit 46 = .ok (.getfield 17, 3) := by decide +kernel
theorem d_D_nextBit_49 : decode c_D_nextBit 49 = .ok (.getfield 131, 3) := by decide +kernel
theorem d_D_nextBit_52 : decode c_D_nextBit 52 = .ok (.aload_n 0, 1) := by decide +kernel
theorem d_D_nextBit_53 : decode c_D_nextBit 53 = .ok (.getfield 42, 3) := by decide +kernel
theorem d_D_nextBit_56 : decode c_D_nextBit 56 = .ok (.iconst 1, 1) := by decide +kernel
theorem d_D_nextBit_57 : decode c_D_nextBit 57 = .ok (.isub, 1) := by decide +kernel
theorem d_D_nextBit_58 : decode c_D_nextBit 58 = .ok (.baload, 1) := by decide +kernel
theorem d_D_nextBit_59 : decode c_D_nextBit 59 = .ok (.ireturn, 1) := by decide +kernel
theorem d_D_nextUnary_0 : decode c_D_nextUnary 0 = .ok (.iconst 0, 1) := by decide +kernel
theorem d_D_nextUnary_1 : decode c_D_nextUnary 1 = .ok (.istore_n 1, 1) := by decide +kernel
theorem d_D_nextUnary_2 : decode c_D_nextUnary 2 = .ok (.iload_n 1, 1) := by decide +kernel
theorem d_D_nextUnary_3 : decode c_D_nextUnary 3 = .ok (.bipush 7, 2) := by decide +kernel
theorem d_D_nextUnary_5 : decode c_D_nextUnary 5 = .ok (.if_icmp .ge 19, 3) := by decide +kernel
theorem d_D_nextUnary_8 : decode c_D_nextUnary 8 = .ok (.aload_n 0, 1) := by decide +kernel
theorem d_D_nextUnary_9 : decode c_D_nextUnary 9 = .ok (.invokevirtual 135, 3) := by decide +kernel
theorem d_D_nextUnary_12 : decode c_D_nextUnary 12 = .ok (.iconst 1, 1) := by decide +kernel
theorem d_D_nextUnary_13 : decode c_D_nextUnary 13 = .ok (.if_icmp .ne 5, 3) := by decide +kernel
theorem d_D_nextUnary_16 : decode c_D_nextUnary 16 = .ok (.iload_n 1, 1) := by decide +kernel
theorem d_D_nextUnary_17 : decode c_D_nextUnary 17 = .ok (.ireturn, 1) := by decide +kernel
theorem d_D_nextUnary_18 : decode c_D_nextUnary 18 = .ok (.iinc 1 1, 3) := by decide +kernel
theorem d_D_nextUnary_21 : decode c_D_nextUnary 21 = .ok (.goto (-19), 3) := by decide +kernel
theorem d_D_nextUnary_24 : decode c_D_nextUnary 24 = .ok (.aload_n 0, 1) := by decide +kernel
theorem d_D_nextUnary_25 : decode c_D_nextUnary 25 = .ok (.iconst 1, 1) := by decide +kernel
theorem d_D_nextUnary_26 : decode c_D_nextUnary 26 = .ok (.iconst 2, 1) := by decide +kernel
theorem d_D_nextUnary_27 : decode c_D_nextUnary 27 = .ok (.invokevirtual 68, 3) := by decide +kernel
theorem d_D_nextUnary_30 : decode c_D_nextUnary 30 = .ok (.iconst 0, 1) := by decide +kernel
theorem d_D_nextUnary_31 : decode c_D_nextUnary 31 = .ok (.ireturn, 1) := by decide +kernel
theorem d_D_nextNumber_0 : decode c_D_nextNumber 0 = .ok (.iload_n 1, 1) := by decide +kernel
theorem d_D_nextNumber_1 : decode c_D_nextNumber 1 = .ok (.istore_n 3, 1) := by decide +kernel
theorem d_D_nextNumber_2 : decode c_D_nextNumber 2 = .ok (.iconst 0, 1) := by decide +kernel
theorem d_D_nextNumber_3 : decode c_D_nextNumber 3 = .ok (.istore 4, 2) := by decide +kernel
theorem d_D_nextNumber_5 : decode c_D_nextNumber 5 = .ok (.iload 4, 2) := by decide +kernel
theorem d_D_nextNumber_7 : decode c_D_nextNumber 7 = .ok (.iload_n 2, 1) := by decide +kernel
theorem d_D_nextNumber_8 : decode c_D_nextNumber 8 = .ok (.if_icmp .ge 18, 3) := by decide +kernel
theorem d_D_nextNumber_11 : decode c_D_nextNumber 11 = .ok (.iconst 2, 1) := by decide +kernel
theorem d_D_nextNumber_12 : decode c_D_nextNumber 12 = .ok (.iload_n 3, 1) := by decide +kernel
theorem d_D_nextNumber_13 : decode c_D_nextNumber 13 = .ok (.imul, 1) := by decide +kernel
theorem d_D_nextNumber_14 : decode c_D_nextNumber 14 = .ok (.aload_n 0, 1) := by decide +kernel
theorem d_D_nextNumber_15 : decode c_D_nextNumber 15 = .ok (.invokevirtual 135, 3) := by decide +kernel
theorem d_D_nextNumber_18 : decode c_D_nextNumber 18 = .ok (.iadd, 1) := by decide +kernel
theorem d_D_nextNumber_19 : decode c_D_nextNumber 19 = .ok (.istore_n 3, 1) := by decide +kernel
theorem d_D_nextNumber_20 : decode c_D_nextNumber 20 = .ok (.iinc 4 1, 3) := by decide +kernel
theorem d_D_nextNumber_23 : decode c_D_nextNumber 23 = .ok (.goto (-18), 3) := by decide +kernel
theorem d_D_nextNumber_26 : decode c_D_nextNumber 26 = .ok (.iload_n 3, 1) := by decide +kernel
theorem d_D_nextNumber_27 : decode c_D_nextNumber 27 = .ok (.ireturn, 1) := by decide +kernel
theorem d_D_nextGamma_0 : decode c_D_nextGamma 0 = .ok (.aload_n 0, 1) := by decide +kernel
theorem d_D_nextGamma_1 : decode c_D_nextGamma 1 = .ok (.iconst 1, 1) := by decide +kernel
theorem d_D_nextGamma_2 : decode c_D_nextGamma 2 = .ok (.aload_n 0, 1) := by decide +kernel
theorem d_D_nextGamma_3 : decode c_D_nextGamma 3 = .ok (.invokevirtual 95, 3) := by decide +kernel
theorem d_D_nextGamma_6 : decode c_D_nextGamma 6 = .ok (.invokevirtual 138, 3) := by decide +kernel
theorem d_D_nextGamma_9 : decode c_D_nextGamma 9 = .ok (.iconst 1, 1) := by decide +kernel
theorem d_D_nextGamma_10 : decode c_D_nextGamma 10 = .ok (.isub, 1) := by decide +kernel
theorem d_D_nextGamma_11 : decode c_D_nextGamma 11 = .ok (.ireturn, 1) := by decide +kernel
theorem d_D_nextZeta_0 : decode c_D_nextZeta 0 = .ok (.aload_n 0, 1) := by decide +kernel
theorem d_D_nextZeta_1 : decode c_D_nextZeta 1 = .ok (.invokevirtual 95, 3) := by decide +kernel
theorem d_D_nextZeta_4 : decode c_D_nextZeta 4 = .ok (.istore_n 1, 1) := by decide +kernel
theorem d_D_nextZeta_5 : decode c_D_nextZeta 5 = .ok (.iconst 1, 1) := by decide +kernel
theorem d_D_nextZeta_6 : decode c_D_nextZeta 6 = .ok (.iload_n 1, 1) := by decide +kernel
theorem d_D_nextZeta_7 : decode c_D_nextZeta 7 = .ok (.aload_n 0, 1) := by decide +kernel
theorem d_D_nextZeta_8 : decode c_D_nextZeta 8 = .ok (.getfield 13, 3) := by decide +kernel
theorem d_D_nextZeta_11 : decode c_D_nextZeta 11 = .ok (.getfield 141, 3) := by decide +kernel
theorem d_D_nextZeta_14 : decode c_D_nextZeta 14 = .ok (.imul, 1) := by decide +kernel
theorem d_D_nextZeta_15 : decode c_D_nextZeta 15 = .ok (.ishl, 1) := by decide +kernel
theorem d_D_nextZeta_16 : decode c_D_nextZeta 16 = .ok (.istore_n 2, 1) := by decide +kernel
theorem d_D_nextZeta_17 : decode c_D_nextZeta 17 = .ok (.aload_n 0, 1) := by decide +kernel
theorem d_D_nextZeta_18 : decode c_D_nextZeta 18 = .ok (.iconst 0, 1) := by decide +kernel
theorem d_D_nextZeta_19 : decode c_D_nextZeta 19 = .ok (.iload_n 1, 1) := by decide +kernel
theorem d_D_nextZeta_20 : decode c_D_nextZeta 20 = .ok (.aload_n 0, 1) := by decide +kernel
theorem d_D_nextZeta_21 : decode c_D_nextZeta 21 = .ok (.getfield 13, 3) := by decide +kernel
theorem d_D_nextZeta_24 : decode c_D_nextZeta 24 = .ok (.getfield 141, 3) := by decide +kernel
theorem d_D_nextZeta_27 : decode c_D_nextZeta 27 = .ok (.imul, 1) := by decide +kernel
theorem d_D_nextZeta_28 : decode c_D_nextZeta 28 = .ok (.aload_n 0, 1) := by decide +kernel
theorem d_D_nextZeta_29 : decode c_D_nextZeta 29 = .ok (.getfield 13, 3) := by decide +kernel
theorem d_D_nextZeta_32 : decode c_D_nextZeta 32 = .ok (.getfield 141, 3) := by decide +kernel
theorem d_D_nextZeta_35 : decode c_D_nextZeta 35 = .ok (.iadd, 1) := by decide +kernel
theorem d_D_nextZeta_36 : decode c_D_nextZeta 36 = .ok (.iconst 1, 1) := by decide +kernel
theorem d_D_nextZeta_37 : decode c_D_nextZeta 37 = .ok (.isub, 1) := by decide +kernel
theorem d_D_nextZeta_38 : decode c_D_nextZeta 38 = .ok (.invokevirtual 138, 3) := by decide +kernel
theorem d_D_nextZeta_41 : decode c_D_nextZeta 41 = .ok (.istore_n 3, 1) := by decide +kernel
theorem d_D_nextZeta_42 : decode c_D_nextZeta 42 = .ok (.iload_n 3, 1) := by decide +kernel
theorem d_D_nextZeta_43 : decode c_D_nextZeta 43 = .ok (.iload_n 2, 1) := by decide +kernel
theorem d_D_nextZeta_44 : decode c_D_nextZeta 44 = .ok (.if_icmp .ge 11, 3) := by decide +kernel
theorem d_D_nextZeta_47 : decode c_D_nextZeta 47 = .ok (.iload_n 3, 1) := by decide +kernel
theorem d_D_nextZeta_48 : decode c_D_nextZeta 48 = .ok (.iload_n 2, 1) := by decide +kernel
theorem d_D_nextZeta_49 : decode c_D_nextZeta 49 = .ok (.iadd, 1) := by decide +kernel
theorem d_D_nextZeta_50 : decode c_D_nextZeta 50 = .ok (.iconst 1, 1) := by decide +kernel
theorem d_D_nextZeta_51 : decode c_D_nextZeta 51 = .ok (.isub, 1) := by decide +kernel
theorem d_D_nextZeta_52 : decode c_D_nextZeta 52 = .ok (.goto 11, 3) := by decide +kernel
theorem d_D_nextZeta_55 : decode c_D_nextZeta 55 = .ok (.aload_n 0, 1) := by decide +kernel
theorem d_D_nextZeta_56 : decode c_D_nextZeta 56 = .ok (.iload_n 3, 1) := by decide +kernel
theorem d_D_nextZeta_57 : decode c_D_nextZeta 57 = .ok (.iconst 1, 1) := by decide +kernel
theorem d_D_nextZeta_58 : decode c_D_nextZeta 58 = .ok (.invokevirtual 138, 3) := by decide +kernel
theorem d_D_nextZeta_61 : decode c_D_nextZeta 61 = .ok (.iconst 1, 1) := by decide +kernel
theorem d_D_nextZeta_62 : decode c_D_nextZeta 62 = .ok (.isub, 1) := by decide +kernel
theorem d_D_nextZeta_63 : decode c_D_nextZeta 63 = .ok (.ireturn, 1) := by decide +kernel
theorem d_J_bitCount_0 : decode c_J_bitCount 0 = .ok (.iload_n 0, 1) := by decide +kernel
theorem d_J_bitCount_1 : decode c_J_bitCount 1 = .ok (.iload_n 0, 1) := by decide +kernel
theorem d_J_bitCount_2 : decode c_J_bitCount 2 = .ok (.iconst 1, 1) := by decide +kernel
theorem d_J_bitCount_3 : decode c_J_bitCount 3 = .ok (.iushr, 1) := by decide +kernel
theorem d_J_bitCount_4 : decode c_J_bitCount 4 = .ok (.ldc_w 265, 3) := by decide +kernel
theorem d_J_bitCount_7 : decode c_J_bitCount 7 = .ok (.iand, 1) := by decide +kernel
theorem d_J_bitCount_8 : decode c_J_bitCount 8 = .ok (.isub, 1) := by decide +kernel
theorem d_J_bitCount_9 : decode c_J_bitCount 9 = .ok (.istore_n 0, 1) := by decide +kernel
theorem d_J_bitCount_10 : decode c_J_bitCount 10 = .ok (.iload_n 0, 1) := by decide +kernel
theorem d_J_bitCount_11 : decode c_J_bitCount 11 = .ok (.ldc_w 266, 3) := by decide +kernel
theorem d_J_bitCount_14 : decode c_J_bitCount 14 = .ok (.iand, 1) := by decide +kernel
theorem d_J_bitCount_15 : decode c_J_bitCount 15 = .ok (.iload_n 0, 1) := by decide +kernel
theorem d_J_bitCount_16 : decode c_J_bitCount 16 = .ok (.iconst 2, 1) := by decide +kernel
theorem d_J_bitCount_17 : decode c_J_bitCount 17 = .ok (.iushr, 1) := by decide +kernel
theorem d_J_bitCount_18 : decode c_J_bitCount 18 = .ok (.ldc_w 266, 3) := by decide +kernel
theorem d_J_bitCount_21 : decode c_J_bitCount 21 = .ok (.iand, 1) := by decide +kernel
theorem d_J_bitCount_22 : decode c_J_bitCount 22 = .ok (.iadd, 1) := by decide +kernel
theorem d_J_bitCount_23 : decode c_J_bitCount 23 = .ok (.istore_n 0, 1) := by decide +kernel
theorem d_J_bitCount_24 : decode c_J_bitCount 24 = .ok (.iload_n 0, 1) := by decide +kernel
theorem d_J_bitCount_25 : decode c_J_bitCount 25 = .ok (.iload_n 0, 1) := by decide +kernel
theorem d_J_bitCount_26 : decode c_J_bitCount 26 = .ok (.iconst 4, 1) := by decide +kernel
theorem d_J_bitCount_27 : decode c_J_bitCount 27 = .ok (.iushr, 1) := by decide +kernel
theorem d_J_bitCount_28 : decode c_J_bitCount 28 = .ok (.iadd, 1) := by decide +kernel
theorem d_J_bitCount_29 : decode c_J_bitCount 29 = .ok (.ldc_w 267, 3) := by decide +kernel
theorem d_J_bitCount_32 : decode c_J_bitCount 32 = .ok (.iand, 1) := by decide +kernel
theorem d_J_bitCount_33 : decode c_J_bitCount 33 = .ok (.istore_n 0, 1) := by decide +kernel
theorem d_J_bitCount_34 : decode c_J_bitCount 34 = .ok (.iload_n 0, 1) := by decide +kernel
theorem d_J_bitCount_35 : decode c_J_bitCount 35 = .ok (.iload_n 0, 1) := by decide +kernel
theorem d_J_bitCount_36 : decode c_J_bitCount 36 = .ok (.bipush 8, 2) := by decide +kernel
theorem d_J_bitCount_38 : decode c_J_bitCount 38 = .ok (.iushr, 1) := by decide +kernel
theorem d_J_bitCount_39 : decode c_J_bitCount 39 = .ok (.iadd, 1) := by decide +kernel
theorem d_J_bitCount_40 : decode c_J_bitCount 40 = .ok (.istore_n 0, 1) := by decide +kernel
theorem d_J_bitCount_41 : decode c_J_bitCount 41 = .ok (.iload_n 0, 1) := by decide +kernel
theorem d_J_bitCount_42 : decode c_J_bitCount 42 = .ok (.iload_n 0, 1) := by decide +kernel
theorem d_J_bitCount_43 : decode c_J_bitCount 43 = .ok (.bipush 16, 2) := by decide +kernel
theorem d_J_bitCount_45 : decode c_J_bitCount 45 = .ok (.iushr, 1) := by decide +kernel
theorem d_J_bitCount_46 : decode c_J_bitCount 46 = .ok (.iadd, 1) := by decide +kernel
theorem d_J_bitCount_47 : decode c_J_bitCount 47 = .ok (.istore_n 0, 1) := by decide +kernel
theorem d_J_bitCount_48 : decode c_J_bitCount 48 = .ok (.iload_n 0, 1) := by decide +kernel
theorem d_J_bitCount_49 : decode c_J_bitCount 49 = .ok (.bipush 63, 2) := by decide +kernel
theorem d_J_bitCount_51 : decode c_J_bitCount 51 = .ok (.iand, 1) := by decide +kernel
theorem d_J_bitCount_52 : decode c_J_bitCount 52 = .ok (.ireturn, 1) := by decide +kernel
end
section
set_option maxRecDepth 20000 in
theorem wT_putNumber_49 {N : Nat} {n : Nat} {r0 : me_M} (μ : me_M) (hf : fT_putNumber_49 N n μ = some r0) : AW "ArcTape$Tape" "putNumber" c_T_putNumber 4 none 0 0 0 0 (aw_is none (hC n r0)) 49 [none, none, none, none] [] (hC n μ) 0 0 := by
  unfold fT_putNumber_49 at hf
  cases hf
  exact aw_return rfl d_T_putNumber_49 (Nat.le_refl 0) (Nat.le_refl 0) ⟨rfl, rfl⟩
set_option maxRecDepth 20000 in
theorem wT_putNumber_4b {N : Nat} {n : Nat} {r0 : me_M} {k4 : Int32 → Int32 → me_M → Option me_M} (hk4 : ∀ (l1 : Int32) (l3 : Int32) (μ : me_M), k4 l1 l3 μ = some r0 → AW "ArcTape$Tape" "putNumber" c_T_putNumber 4 none 0 0 0 0 (aw_is none (hC n r0)) 4 [some (.ref 2), some (.int l1), none, some (.int l3)] [] (hC n μ) 0 0) (l1 : Int32) (l3 : Int32) (μ : me_M) (hf : fT_putNumber_4b N n k4 l1 l3 μ = some r0) : AW "ArcTape$Tape" "putNumber" c_T_putNumber 4 none 0 0 0 0 (aw_is none (hC n r0)) 4 [some (.ref 2), some (.int l1), none, some (.int l3)] [] (hC n μ) 0 0 := by
  unfold fT_putNumber_4b at hf
  refine aw_iload_n (pc' := 5) d_T_putNumber_4 rfl rfl ?_
  refine aw_if_lt (tgt := 49) (pc' := 8) d_T_putNumber_5 (by decide) rfl (fun c1 => ?_) (fun c1 => ?_)
  · replace hf := aw_ifp c1 hf
    exact aw_weak [false, false, false, false] rfl (wT_putNumber_49 _ hf)
  · replace hf := aw_ifn c1 hf
    refine aw_aload_n (pc' := 9) d_T_putNumber_8 rfl rfl ?_
    refine aw_get (pc' := 12) d_T_putNumber_9 rfl fl_T_13 hC_2 rfl ?_
    refine aw_sipush (pc' := 15) d_T_putNumber_12 rfl kc_si_800 ?_
    refine aw_icmp_ge (tgt := 49) (pc' := 18) d_T_putNumber_15 (by decide) rfl (fun c2 => ?_) (fun c2 => ?_)
    · replace hf := aw_ifp c2 hf
      exact aw_weak [false, false, false, false] rfl (wT_putNumber_49 _ hf)
    · replace hf := aw_ifn c2 hf
      refine aw_aload_n (pc' := 19) d_T_putNumber_18 rfl rfl ?_
      refine aw_get (pc' := 22) d_T_putNumber_19 rfl fl_T_9 hC_2 rfl ?_
      refine aw_aload_n (pc' := 23) d_T_putNumber_22 rfl rfl ?_
      refine aw_get (pc' := 26) d_T_putNumber_23 rfl fl_T_13 hC_2 rfl ?_
      refine aw_iload_n (pc' := 27) d_T_putNumber_26 rfl rfl ?_
      refine aw_iload_n (pc' := 28) d_T_putNumber_27 rfl rfl ?_
      refine aw_ishr (pc' := 29) d_T_putNumber_28 rfl ?_
      refine aw_iconst (pc' := 30) d_T_putNumber_29 rfl kc_ic_1 ?_
      refine aw_iand (pc' := 31) d_T_putNumber_30 rfl ?_
      refine aw_i2b (pc' := 32) d_T_putNumber_31 rfl ?_
      obtain ⟨g3, hf⟩ := aw_gi hf
      refine aw_bast (pc' := 33) (h' := (hC n (me_wi μ 3 (μ.1 301 0).toNatClampNeg (vp_nar .byte (((l1 >>> (l3 &&& 31)) &&& (1 : Int32)).toInt8.toInt32))))) d_T_putNumber_32 rfl rfl hC_3 g3 rfl ?_
      refine aw_aload_n (pc' := 34) d_T_putNumber_33 rfl rfl ?_
      refine aw_dup (pc' := 35) d_T_putNumber_34 rfl rfl ?_
      refine aw_get (pc' := 38) d_T_putNumber_35 rfl fl_T_13 hC_2 rfl ?_
      refine aw_iconst (pc' := 39) d_T_putNumber_38 rfl kc_ic_1 ?_
      refine aw_iadd (pc' := 40) d_T_putNumber_39 rfl ?_
      refine aw_puti (pc' := 43) (h' := (hC n (me_wi (me_wi μ 3 (μ.1 301 0).toNatClampNeg (vp_nar .byte (((l1 >>> (l3 &&& 31)) &&& (1 : Int32)).toInt8.toInt32))) 301 0 (((me_wi μ 3 (μ.1 301 0).toNatClampNeg (vp_nar .byte (((l1 >>> (l3 &&& 31)) &&& (1 : Int32)).toInt8.toInt32))).1 301 0) + (1 : Int32))))) d_T_putNumber_40 rfl fp_T_13 hC_2 (Nat.le_of_ble_eq_true rfl) rfl ?_
      refine aw_iinc (pc' := 46) (L' := [some (.ref 2), some (.int l1), none, some (.int (l3 + (-1 : Int32)))]) d_T_putNumber_43 rfl kc_ic_m1 rfl (by decide) rfl ?_
      refine aw_goto (tgt := 4) d_T_putNumber_46 (by decide) ?_
      exact aw_weak [true, true, false, true] rfl (hk4 _ _ _ hf)
set_option maxRecDepth 20000 in
theorem wT_putNumber_4 {N : Nat} {n : Nat} {r0 : me_M} : ∀ (F : Nat) (l1 : Int32) (l3 : Int32) (μ : me_M) (hf : fT_putNumber_4 N n F l1 l3 μ = some r0), AW "ArcTape$Tape" "putNumber" c_T_putNumber 4 none 0 0 0 0 (aw_is none (hC n r0)) 4 [some (.ref 2), some (.int l1), none, some (.int l3)] [] (hC n μ) 0 0 := by
  intro F
  induction F with
  | zero => intro l1 l3 μ hf; exact aw_no hf
  | succ F ih => intro l1 l3 μ hf; exact wT_putNumber_4b ih l1 l3 μ hf
set_option maxRecDepth 20000 in
theorem mT_putNumber {N : Nat} {n : Nat} {μ : me_M} {r0 : me_M} {l1 : Int32} {l2 : Int32} (hf : fT_putNumber N n l1 l2 μ = some r0) : AM y_T_putNumber c_T_putNumber 4 none 0 0 0 0 [.ref 2, .int l1, .int l2] (hC n μ) (aw_is none (hC n r0)) := by
  unfold fT_putNumber at hf
  refine AM.of (own := "ArcTape$Tape") (nm := "putNumber") (L := [some (.ref 2), some (.int l1), some (.int l2), none]) rfl rfl (by decide) (Nat.le_of_ble_eq_true rfl) rfl ?_
  refine aw_iload_n (pc' := 1) d_T_putNumber_0 rfl rfl ?_
  refine aw_iconst (pc' := 2) d_T_putNumber_1 rfl kc_ic_1 ?_
  refine aw_isub (pc' := 3) d_T_putNumber_2 rfl ?_
  refine aw_istore_n (pc' := 4) (L' := [some (.ref 2), some (.int l1), some (.int l2), some (.int (l2 - (1 : Int32)))]) d_T_putNumber_3 rfl (by decide) rfl ?_
  exact aw_weak [true, true, false, true] rfl (wT_putNumber_4 _ _ _ _ hf)
set_option maxRecDepth 20000 in
theorem mT_putUnary {N : Nat} {n : Nat} {μ : me_M} {r0 : me_M} {l1 : Int32} (hf : fT_putUnary N n l1 μ = some r0) : AM y_T_putUnary c_T_putUnary 2 none 1 0 0 0 [.ref 2, .int l1] (hC n μ) (aw_is none (hC n r0)) := by
  unfold fT_putUnary at hf
  refine AM.of (own := "ArcTape$Tape") (nm := "putUnary") (L := [some (.ref 2), some (.int l1)]) rfl rfl (by decide) (Nat.le_of_ble_eq_true rfl) rfl ?_
  refine aw_aload_n (pc' := 1) d_T_putUnary_0 rfl rfl ?_
  refine aw_iconst (pc' := 2) d_T_putUnary_1 rfl kc_ic_1 ?_
  refine aw_iload_n (pc' := 3) d_T_putUnary_2 rfl rfl ?_
  refine aw_iconst (pc' := 4) d_T_putUnary_3 rfl kc_ic_1 ?_
  refine aw_iadd (pc' := 5) d_T_putUnary_4 rfl ?_
  obtain ⟨r1, hr1, hf⟩ := aw_bind hf
  refine aw_callVn (pc' := 8) (av := [.int (1 : Int32), .int (l1 + (1 : Int32))]) d_T_putUnary_5 rfl wc_T_17 hC_2 (mT_putNumber hr1) (Or.inl rfl) rfl (by decide) (Nat.le_of_ble_eq_true rfl) ⟨Nat.le_refl 0, Nat.le_refl 0⟩ ?_
  cases hf
  exact aw_return rfl d_T_putUnary_8 (Nat.le_refl 0) (Nat.le_refl 0) ⟨rfl, rfl⟩
set_option maxRecDepth 20000 in
theorem wT_exponent_23 {N : Nat} {h0 : aw_H} {r0 : Int32} (l1 : Int32) (hf : fT_exponent_23 N l1 = some r0) : AW "ArcTape$Tape" "exponent" c_T_exponent 2 (some .int) 0 0 0 0 (aw_is (some (.int r0)) h0) 23 [none, some (.int l1)] [] h0 0 0 := by
  unfold fT_exponent_23 at hf
  refine aw_iload_n (pc' := 24) d_T_exponent_23 rfl rfl ?_
  cases hf
  exact aw_ireturn rfl d_T_exponent_24 (Nat.le_refl 0) (Nat.le_refl 0) ⟨rfl, rfl⟩
set_option maxRecDepth 20000 in
theorem wT_exponent_2b {N : Nat} {h0 : aw_H} {r0 : Int32} {k2 : Int32 → Int32 → Option Int32} (hk2 : ∀ (l0 : Int32) (l1 : Int32), k2 l0 l1 = some r0 → AW "ArcTape$Tape" "exponent" c_T_exponent 2 (some .int) 0 0 0 0 (aw_is (some (.int r0)) h0) 2 [some (.int l0), some (.int l1)] [] h0 0 0) (l0 : Int32) (l1 : Int32) (hf : fT_exponent_2b N k2 l0 l1 = some r0) : AW "ArcTape$Tape" "exponent" c_T_exponent 2 (some .int) 0 0 0 0 (aw_is (some (.int r0)) h0) 2 [some (.int l0), some (.int l1)] [] h0 0 0 := by
  unfold fT_exponent_2b at hf
  refine aw_iload_n (pc' := 3) d_T_exponent_2 rfl rfl ?_
  refine aw_bipush (pc' := 5) d_T_exponent_3 rfl kc_bi_30 ?_
  refine aw_icmp_ge (tgt := 23) (pc' := 8) d_T_exponent_5 (by decide) rfl (fun c1 => ?_) (fun c1 => ?_)
  · replace hf := aw_ifp c1 hf
    exact aw_weak [false, true] rfl (wT_exponent_23 _ hf)
  · replace hf := aw_ifn c1 hf
    refine aw_iconst (pc' := 9) d_T_exponent_8 rfl kc_ic_1 ?_
    refine aw_iload_n (pc' := 10) d_T_exponent_9 rfl rfl ?_
    refine aw_iconst (pc' := 11) d_T_exponent_10 rfl kc_ic_1 ?_
    refine aw_iadd (pc' := 12) d_T_exponent_11 rfl ?_
    refine aw_ishl (pc' := 13) d_T_exponent_12 rfl ?_
    refine aw_iload_n (pc' := 14) d_T_exponent_13 rfl rfl ?_
    refine aw_icmp_gt (tgt := 23) (pc' := 17) d_T_exponent_14 (by decide) rfl (fun c2 => ?_) (fun c2 => ?_)
    · replace hf := aw_ifp c2 hf
      exact aw_weak [false, true] rfl (wT_exponent_23 _ hf)
    · replace hf := aw_ifn c2 hf
      refine aw_iinc (pc' := 20) (L' := [some (.int l0), some (.int (l1 + (1 : Int32)))]) d_T_exponent_17 rfl kc_ic_1 rfl (by decide) rfl ?_
      refine aw_goto (tgt := 2) d_T_exponent_20 (by decide) ?_
      exact aw_weak [true, true] rfl (hk2 _ _ hf)
set_option maxRecDepth 20000 in
theorem wT_exponent_2 {N : Nat} {h0 : aw_H} {r0 : Int32} : ∀ (F : Nat) (l0 : Int32) (l1 : Int32) (hf : fT_exponent_2 N F l0 l1 = some r0), AW "ArcTape$Tape" "exponent" c_T_exponent 2 (some .int) 0 0 0 0 (aw_is (some (.int r0)) h0) 2 [some (.int l0), some (.int l1)] [] h0 0 0 := by
  intro F
  induction F with
  | zero => intro l0 l1 hf; exact aw_no hf
  | succ F ih => intro l0 l1 hf; exact wT_exponent_2b ih l0 l1 hf
set_option maxRecDepth 20000 in
theorem mT_exponent {N : Nat} {h0 : aw_H} {r0 : Int32} {l0 : Int32} (hf : fT_exponent N l0 = some r0) : AM y_T_exponent c_T_exponent 2 (some .int) 0 0 0 0 [.int l0] h0 (aw_is (some (.int r0)) h0) := by
  unfold fT_exponent at hf
  refine AM.of (own := "ArcTape$Tape") (nm := "exponent") (L := [some (.int l0), none]) rfl rfl (by decide) (Nat.le_of_ble_eq_true rfl) rfl ?_
  refine aw_iconst (pc' := 1) d_T_exponent_0 rfl kc_ic_0 ?_
  refine aw_istore_n (pc' := 2) (L' := [some (.int l0), some (.int (0 : Int32))]) d_T_exponent_1 rfl (by decide) rfl ?_
  exact aw_weak [true, true] rfl (wT_exponent_2 _ _ _ hf)
set_option maxRecDepth 20000 in
theorem mT_putGamma {N : Nat} {n : Nat} {μ : me_M} {r0 : me_M} {l1 : Int32} (hf : fT_putGamma N n l1 μ = some r0) : AM y_T_putGamma c_T_putGamma 2 none 1 0 0 0 [.ref 2, .int l1] (hC n μ) (aw_is none (hC n r0)) := by
  unfold fT_putGamma at hf
  refine AM.of (own := "ArcTape$Tape") (nm := "putGamma") (L := [some (.ref 2), some (.int l1)]) rfl rfl (by decide) (Nat.le_of_ble_eq_true rfl) rfl ?_
  refine aw_aload_n (pc' := 1) d_T_putGamma_0 rfl rfl ?_
  refine aw_iload_n (pc' := 2) d_T_putGamma_1 rfl rfl ?_
  refine aw_iconst (pc' := 3) d_T_putGamma_2 rfl kc_ic_1 ?_
  refine aw_iadd (pc' := 4) d_T_putGamma_3 rfl ?_
  refine aw_iconst (pc' := 5) d_T_putGamma_4 rfl kc_ic_2 ?_
  refine aw_iload_n (pc' := 6) d_T_putGamma_5 rfl rfl ?_
  refine aw_iconst (pc' := 7) d_T_putGamma_6 rfl kc_ic_1 ?_
  refine aw_iadd (pc' := 8) d_T_putGamma_7 rfl ?_
  obtain ⟨r1, hr1, hf⟩ := aw_bind hf
  refine aw_callSv (pc' := 11) (av := [.int (l1 + (1 : Int32))]) d_T_putGamma_8 rfl wc_T_21 (mT_exponent hr1) (Or.inl rfl) rfl (by decide) (Nat.le_of_ble_eq_true rfl) ⟨Nat.le_refl 0, Nat.le_refl 0⟩ ?_
  refine aw_imul (pc' := 12) d_T_putGamma_11 rfl ?_
  refine aw_iconst (pc' := 13) d_T_putGamma_12 rfl kc_ic_1 ?_
  refine aw_iadd (pc' := 14) d_T_putGamma_13 rfl ?_
  obtain ⟨r2, hr2, hf⟩ := aw_bind hf
  refine aw_callVn (pc' := 17) (av := [.int (l1 + (1 : Int32)), .int (((2 : Int32) * r1) + (1 : Int32))]) d_T_putGamma_14 rfl wc_T_17 hC_2 (mT_putNumber hr2) (Or.inl rfl) rfl (by decide) (Nat.le_of_ble_eq_true rfl) ⟨Nat.le_refl 0, Nat.le_refl 0⟩ ?_
  cases hf
  exact aw_return rfl d_T_putGamma_17 (Nat.le_refl 0) (Nat.le_refl 0) ⟨rfl, rfl⟩
set_option maxRecDepth 20000 in
theorem wT_putZeta_66 {N : Nat} {n : Nat} {r0 : me_M} (μ : me_M) (hf : fT_putZeta_66 N n μ = some r0) : AW "ArcTape$Tape" "putZeta" c_T_putZeta 5 none 1 0 0 0 (aw_is none (hC n r0)) 66 [none, none, none, none, none] [] (hC n μ) 0 0 := by
  unfold fT_putZeta_66 at hf
  cases hf
  exact aw_return rfl d_T_putZeta_66 (Nat.le_refl 0) (Nat.le_refl 0) ⟨rfl, rfl⟩
set_option maxRecDepth 20000 in
theorem mT_putZeta {N : Nat} {n : Nat} {μ : me_M} {r0 : me_M} {l1 : Int32} {l2 : Int32} (hf : fT_putZeta N n l1 l2 μ = some r0) : AM y_T_putZeta c_T_putZeta 5 none 1 0 0 0 [.ref 2, .int l1, .int l2] (hC n μ) (aw_is none (hC n r0)) := by
  unfold fT_putZeta at hf
  refine AM.of (own := "ArcTape$Tape") (nm := "putZeta") (L := [some (.ref 2), some (.int l1), some (.int l2), none, none]) rfl rfl (by decide) (Nat.le_of_ble_eq_true rfl) rfl ?_
  refine aw_iload_n (pc' := 1) d_T_putZeta_0 rfl rfl ?_
  refine aw_iconst (pc' := 2) d_T_putZeta_1 rfl kc_ic_1 ?_
  refine aw_iadd (pc' := 3) d_T_putZeta_2 rfl ?_
  obtain ⟨r1, hr1, hf⟩ := aw_bind hf
  refine aw_callSv (pc' := 6) (av := [.int (l1 + (1 : Int32))]) d_T_putZeta_3 rfl wc_T_21 (mT_exponent hr1) (Or.inl rfl) rfl (by decide) (Nat.le_of_ble_eq_true rfl) ⟨Nat.le_refl 0, Nat.le_refl 0⟩ ?_
  refine aw_iload_n (pc' := 7) d_T_putZeta_6 rfl rfl ?_
  obtain ⟨g2, hf⟩ := aw_gd hf
  refine aw_idiv (pc' := 8) d_T_putZeta_7 rfl g2 ?_
  refine aw_istore_n (pc' := 9) (L' := [some (.ref 2), some (.int l1), some (.int l2), some (.int (r1 / l2)), none]) d_T_putZeta_8 rfl (by decide) rfl ?_
  refine aw_iconst (pc' := 10) d_T_putZeta_9 rfl kc_ic_1 ?_
  refine aw_iload_n (pc' := 11) d_T_putZeta_10 rfl rfl ?_
  refine aw_iload_n (pc' := 12) d_T_putZeta_11 rfl rfl ?_
  refine aw_imul (pc' := 13) d_T_putZeta_12 rfl ?_
  refine aw_ishl (pc' := 14) d_T_putZeta_13 rfl ?_
  refine aw_istore (pc' := 16) (L' := [some (.ref 2), some (.int l1), some (.int l2), some (.int (r1 / l2)), some (.int ((1 : Int32) <<< (((r1 / l2) * l2) &&& 31)))]) d_T_putZeta_14 rfl (by decide) rfl ?_
  refine aw_aload_n (pc' := 17) d_T_putZeta_16 rfl rfl ?_
  refine aw_iconst (pc' := 18) d_T_putZeta_17 rfl kc_ic_1 ?_
  refine aw_iload_n (pc' := 19) d_T_putZeta_18 rfl rfl ?_
  refine aw_iconst (pc' := 20) d_T_putZeta_19 rfl kc_ic_1 ?_
  refine aw_iadd (pc' := 21) d_T_putZeta_20 rfl ?_
  obtain ⟨r3, hr3, hf⟩ := aw_bind hf
  refine aw_callVn (pc' := 24) (av := [.int (1 : Int32), .int ((r1 / l2) + (1 : Int32))]) d_T_putZeta_21 rfl wc_T_17 hC_2 (mT_putNumber hr3) (Or.inl rfl) rfl (by decide) (Nat.le_of_ble_eq_true rfl) ⟨Nat.le_refl 0, Nat.le_refl 0⟩ ?_
  refine aw_iload_n (pc' := 25) d_T_putZeta_24 rfl rfl ?_
  refine aw_iconst (pc' := 26) d_T_putZeta_25 rfl kc_ic_1 ?_
  refine aw_iadd (pc' := 27) d_T_putZeta_26 rfl ?_
  refine aw_iconst (pc' := 28) d_T_putZeta_27 rfl kc_ic_2 ?_
  refine aw_iload (pc' := 30) d_T_putZeta_28 rfl rfl ?_
  refine aw_imul (pc' := 31) d_T_putZeta_30 rfl ?_
  refine aw_icmp_ge (tgt := 54) (pc' := 34) d_T_putZeta_31 (by decide) rfl (fun c4 => ?_) (fun c4 => ?_)
  · replace hf := aw_ifp c4 hf
    refine aw_aload_n (pc' := 55) d_T_putZeta_54 rfl rfl ?_
    refine aw_iload_n (pc' := 56) d_T_putZeta_55 rfl rfl ?_
    refine aw_iconst (pc' := 57) d_T_putZeta_56 rfl kc_ic_1 ?_
    refine aw_iadd (pc' := 58) d_T_putZeta_57 rfl ?_
    refine aw_iload_n (pc' := 59) d_T_putZeta_58 rfl rfl ?_
    refine aw_iload_n (pc' := 60) d_T_putZeta_59 rfl rfl ?_
    refine aw_imul (pc' := 61) d_T_putZeta_60 rfl ?_
    refine aw_iload_n (pc' := 62) d_T_putZeta_61 rfl rfl ?_
    refine aw_iadd (pc' := 63) d_T_putZeta_62 rfl ?_
    obtain ⟨r5, hr5, hf⟩ := aw_bind hf
    refine aw_callVn (pc' := 66) (av := [.int (l1 + (1 : Int32)), .int (((r1 / l2) * l2) + l2)]) d_T_putZeta_63 rfl wc_T_17 hC_2 (mT_putNumber hr5) (Or.inl rfl) rfl (by decide) (Nat.le_of_ble_eq_true rfl) ⟨Nat.le_refl 0, Nat.le_refl 0⟩ ?_
    exact aw_weak [false, false, false, false, false] rfl (wT_putZeta_66 _ hf)
  · replace hf := aw_ifn c4 hf
    refine aw_aload_n (pc' := 35) d_T_putZeta_34 rfl rfl ?_
    refine aw_iload_n (pc' := 36) d_T_putZeta_35 rfl rfl ?_
    refine aw_iconst (pc' := 37) d_T_putZeta_36 rfl kc_ic_1 ?_
    refine aw_iadd (pc' := 38) d_T_putZeta_37 rfl ?_
    refine aw_iload (pc' := 40) d_T_putZeta_38 rfl rfl ?_
    refine aw_isub (pc' := 41) d_T_putZeta_40 rfl ?_
    refine aw_iload_n (pc' := 42) d_T_putZeta_41 rfl rfl ?_
    refine aw_iload_n (pc' := 43) d_T_putZeta_42 rfl rfl ?_
    refine aw_imul (pc' := 44) d_T_putZeta_43 rfl ?_
    refine aw_iload_n (pc' := 45) d_T_putZeta_44 rfl rfl ?_
    refine aw_iadd (pc' := 46) d_T_putZeta_45 rfl ?_
    refine aw_iconst (pc' := 47) d_T_putZeta_46 rfl kc_ic_1 ?_
    refine aw_isub (pc' := 48) d_T_putZeta_47 rfl ?_
    obtain ⟨r6, hr6, hf⟩ := aw_bind hf
    refine aw_callVn (pc' := 51) (av := [.int ((l1 + (1 : Int32)) - ((1 : Int32) <<< (((r1 / l2) * l2) &&& 31))), .int ((((r1 / l2) * l2) + l2) - (1 : Int32))]) d_T_putZeta_48 rfl wc_T_17 hC_2 (mT_putNumber hr6) (Or.inl rfl) rfl (by decide) (Nat.le_of_ble_eq_true rfl) ⟨Nat.le_refl 0, Nat.le_refl 0⟩ ?_
    refine aw_goto (tgt := 66) d_T_putZeta_51 (by decide) ?_
    exact aw_weak [false, false, false, false, false] rfl (wT_putZeta_66 _ hf)
set_option maxRecDepth 20000 in
theorem wT_withoutSign_16 {N : Nat} {h0 : aw_H} {r0 : Int32} (s0 : Int32) (hf : fT_withoutSign_16 N s0 = some r0) : AW "ArcTape$Tape" "withoutSign" c_T_withoutSign 1 (some .int) 0 0 0 0 (aw_is (some (.int r0)) h0) 16 [none] [.int s0] h0 0 0 := by
  unfold fT_withoutSign_16 at hf
  cases hf
  exact aw_ireturn rfl d_T_withoutSign_16 (Nat.le_refl 0) (Nat.le_refl 0) ⟨rfl, rfl⟩
set_option maxRecDepth 20000 in
theorem mT_withoutSign {N : Nat} {h0 : aw_H} {r0 : Int32} {l0 : Int32} (hf : fT_withoutSign N l0 = some r0) : AM y_T_withoutSign c_T_withoutSign 1 (some .int) 0 0 0 0 [.int l0] h0 (aw_is (some (.int r0)) h0) := by
  unfold fT_withoutSign at hf
  refine AM.of (own := "ArcTape$Tape") (nm := "withoutSign") (L := [some (.int l0)]) rfl rfl (by decide) (Nat.le_of_ble_eq_true rfl) rfl ?_
  refine aw_iload_n (pc' := 1) d_T_withoutSign_0 rfl rfl ?_
  refine aw_if_lt (tgt := 10) (pc' := 4) d_T_withoutSign_1 (by decide) rfl (fun c1 => ?_) (fun c1 => ?_)
  · replace hf := aw_ifp c1 hf
    refine aw_bipush (pc' := 12) d_T_withoutSign_10 rfl kc_bi_m2 ?_
    refine aw_iload_n (pc' := 13) d_T_withoutSign_12 rfl rfl ?_
    refine aw_imul (pc' := 14) d_T_withoutSign_13 rfl ?_
    refine aw_iconst (pc' := 15) d_T_withoutSign_14 rfl kc_ic_1 ?_
    refine aw_isub (pc' := 16) d_T_withoutSign_15 rfl ?_
    exact aw_weak [false] rfl (wT_withoutSign_16 _ hf)
  · replace hf := aw_ifn c1 hf
    refine aw_iconst (pc' := 5) d_T_withoutSign_4 rfl kc_ic_2 ?_
    refine aw_iload_n (pc' := 6) d_T_withoutSign_5 rfl rfl ?_
    refine aw_imul (pc' := 7) d_T_withoutSign_6 rfl ?_
    refine aw_goto (tgt := 16) d_T_withoutSign_7 (by decide) ?_
    exact aw_weak [false] rfl (wT_withoutSign_16 _ hf)
set_option maxRecDepth 20000 in
theorem wT_withSign_18 {N : Nat} {h0 : aw_H} {r0 : Int32} (s0 : Int32) (hf : fT_withSign_18 N s0 = some r0) : AW "ArcTape$Tape" "withSign" c_T_withSign 1 (some .int) 0 0 0 0 (aw_is (some (.int r0)) h0) 18 [none] [.int s0] h0 0 0 := by
  unfold fT_withSign_18 at hf
  cases hf
  exact aw_ireturn rfl d_T_withSign_18 (Nat.le_refl 0) (Nat.le_refl 0) ⟨rfl, rfl⟩
set_option maxRecDepth 20000 in
theorem mT_withSign {N : Nat} {h0 : aw_H} {r0 : Int32} {l0 : Int32} (hf : fT_withSign N l0 = some r0) : AM y_T_withSign c_T_withSign 1 (some .int) 0 0 0 0 [.int l0] h0 (aw_is (some (.int r0)) h0) := by
  unfold fT_withSign at hf
  refine AM.of (own := "ArcTape$Tape") (nm := "withSign") (L := [some (.int l0)]) rfl rfl (by decide) (Nat.le_of_ble_eq_true rfl) rfl ?_
  refine aw_iload_n (pc' := 1) d_T_withSign_0 rfl rfl ?_
  refine aw_iconst (pc' := 2) d_T_withSign_1 rfl kc_ic_2 ?_
  refine aw_irem (pc' := 3) d_T_withSign_2 rfl (by decide) ?_
  refine aw_if_ne (tgt := 12) (pc' := 6) d_T_withSign_3 (by decide) rfl (fun c2 => ?_) (fun c2 => ?_)
  · replace hf := aw_ifn c2 hf
    refine aw_iload_n (pc' := 13) d_T_withSign_12 rfl rfl ?_
    refine aw_iconst (pc' := 14) d_T_withSign_13 rfl kc_ic_1 ?_
    refine aw_iadd (pc' := 15) d_T_withSign_14 rfl ?_
    refine aw_ineg (pc' := 16) d_T_withSign_15 rfl ?_
    refine aw_iconst (pc' := 17) d_T_withSign_16 rfl kc_ic_2 ?_
    refine aw_idiv (pc' := 18) d_T_withSign_17 rfl (by decide) ?_
    exact aw_weak [false] rfl (wT_withSign_18 _ hf)
  · replace hf := aw_ifp c2 hf
    refine aw_iload_n (pc' := 7) d_T_withSign_6 rfl rfl ?_
    refine aw_iconst (pc' := 8) d_T_withSign_7 rfl kc_ic_2 ?_
    refine aw_idiv (pc' := 9) d_T_withSign_8 rfl (by decide) ?_
    refine aw_goto (tgt := 18) d_T_withSign_9 (by decide) ?_
    exact aw_weak [false] rfl (wT_withSign_18 _ hf)
set_option maxRecDepth 20000 in
theorem wK_mayBeReferredTo_30 {N : Nat} {n : Nat} {μ : me_M} {r0 : Int32} (s0 : Int32) (hf : fK_mayBeReferredTo_30 N n μ s0 = some r0) : AW "ArcTape$Packer" "mayBeReferredTo" c_K_mayBeReferredTo 2 (some .boolean) 0 0 0 0 (aw_is (some (.int r0)) (hC n μ)) 30 [none, none] [.int s0] (hC n μ) 0 0 := by
  unfold fK_mayBeReferredTo_30 at hf
  obtain ⟨g1, hf⟩ := aw_gz hf
  cases hf
  exact aw_zreturn rfl g1.1 d_K_mayBeReferredTo_30 (Nat.le_refl 0) (Nat.le_refl 0) ⟨rfl, rfl⟩
set_option maxRecDepth 20000 in
theorem wK_mayBeReferredTo_29 {N : Nat} {n : Nat} {μ : me_M} {r0 : Int32} (hf : fK_mayBeReferredTo_29 N n μ = some r0) : AW "ArcTape$Packer" "mayBeReferredTo" c_K_mayBeReferredTo 2 (some .boolean) 0 0 0 0 (aw_is (some (.int r0)) (hC n μ)) 29 [none, none] [] (hC n μ) 0 0 := by
  unfold fK_mayBeReferredTo_29 at hf
  refine aw_iconst (pc' := 30) d_K_mayBeReferredTo_29 rfl kc_ic_0 ?_
  exact aw_weak [false, false] rfl (wK_mayBeReferredTo_30 _ hf)
set_option maxRecDepth 20000 in
theorem mK_mayBeReferredTo {N : Nat} {n : Nat} {μ : me_M} {r0 : Int32} {l1 : Int32} (hf : fK_mayBeReferredTo N n μ l1 = some r0) : AM y_K_mayBeReferredTo c_K_mayBeReferredTo 2 (some .boolean) 0 0 0 0 [.ref 6, .int l1] (hC n μ) (aw_is (some (.int r0)) (hC n μ)) := by
  unfold fK_mayBeReferredTo at hf
  refine AM.of (own := "ArcTape$Packer") (nm := "mayBeReferredTo") (L := [some (.ref 6), some (.int l1)]) rfl rfl (by decide) (Nat.le_of_ble_eq_true rfl) rfl ?_
  refine aw_aload_n (pc' := 1) d_K_mayBeReferredTo_0 rfl rfl ?_
  refine aw_get (pc' := 4) d_K_mayBeReferredTo_1 rfl fl_K_21 hC_6 rfl ?_
  refine aw_iload_n (pc' := 5) d_K_mayBeReferredTo_4 rfl rfl ?_
  obtain ⟨g2, hf⟩ := aw_gi hf
  refine aw_iald (pc' := 6) d_K_mayBeReferredTo_5 rfl rfl hC_1 g2 ?_
  refine aw_if_eq (tgt := 29) (pc' := 9) d_K_mayBeReferredTo_6 (by decide) rfl (fun c3 => ?_) (fun c3 => ?_)
  · replace hf := aw_ifp c3 hf
    exact aw_weak [false, false] rfl (wK_mayBeReferredTo_29  hf)
  · replace hf := aw_ifn c3 hf
    refine aw_aload_n (pc' := 10) d_K_mayBeReferredTo_9 rfl rfl ?_
    refine aw_get (pc' := 13) d_K_mayBeReferredTo_10 rfl fl_K_32 hC_6 rfl ?_
    refine aw_iload_n (pc' := 14) d_K_mayBeReferredTo_13 rfl rfl ?_
    obtain ⟨g4, hf⟩ := aw_gi hf
    refine aw_iald (pc' := 15) d_K_mayBeReferredTo_14 rfl rfl hC_10 g4 ?_
    refine aw_aload_n (pc' := 16) d_K_mayBeReferredTo_15 rfl rfl ?_
    refine aw_get (pc' := 19) d_K_mayBeReferredTo_16 rfl fl_K_24 hC_6 rfl ?_
    refine aw_get (pc' := 22) d_K_mayBeReferredTo_19 rfl fl_K_67 hC_4 rfl ?_
    refine aw_icmp_ge (tgt := 29) (pc' := 25) d_K_mayBeReferredTo_22 (by decide) rfl (fun c5 => ?_) (fun c5 => ?_)
    · replace hf := aw_ifp c5 hf
      exact aw_weak [false, false] rfl (wK_mayBeReferredTo_29  hf)
    · replace hf := aw_ifn c5 hf
      refine aw_iconst (pc' := 26) d_K_mayBeReferredTo_25 rfl kc_ic_1 ?_
      refine aw_goto (tgt := 30) d_K_mayBeReferredTo_26 (by decide) ?_
      exact aw_weak [false, false] rfl (wK_mayBeReferredTo_30 _ hf)
set_option maxRecDepth 20000 in
theorem wJ_bitCount_48 {N : Nat} {h0 : aw_H} {r0 : Int32} (l0 : Int32) (hf : fJ_bitCount_48 N l0 = some r0) : AW "java/lang/Integer" "bitCount" c_J_bitCount 1 (some .int) 0 0 0 0 (aw_is (some (.int r0)) h0) 48 [some (.int l0)] [] h0 0 0 := by
  unfold fJ_bitCount_48 at hf
  refine aw_iload_n (pc' := 49) d_J_bitCount_48 rfl rfl ?_
  refine aw_bipush (pc' := 51) d_J_bitCount_49 rfl kc_bi_63 ?_
  refine aw_iand (pc' := 52) d_J_bitCount_51 rfl ?_
  cases hf
  exact aw_ireturn rfl d_J_bitCount_52 (Nat.le_refl 0) (Nat.le_refl 0) ⟨rfl, rfl⟩
set_option maxRecDepth 20000 in
theorem wJ_bitCount_41 {N : Nat} {h0 : aw_H} {r0 : Int32} (l0 : Int32) (hf : fJ_bitCount_41 N l0 = some r0) : AW "java/lang/Integer" "bitCount" c_J_bitCount 1 (some .int) 0 0 0 0 (aw_is (some (.int r0)) h0) 41 [some (.int l0)] [] h0 0 0 := by
  unfold fJ_bitCount_41 at hf
  refine aw_iload_n (pc' := 42) d_J_bitCount_41 rfl rfl ?_
  refine aw_iload_n (pc' := 43) d_J_bitCount_42 rfl rfl ?_
  refine aw_bipush (pc' := 45) d_J_bitCount_43 rfl kc_bi_16 ?_
  refine aw_iushr (pc' := 46) d_J_bitCount_45 rfl ?_
  refine aw_iadd (pc' := 47) d_J_bitCount_46 rfl ?_
  refine aw_istore_n (pc' := 48) (L' := [some (.int (l0 + ((l0.toUInt32 >>> ((16 : Int32).toUInt32 &&& Int32.toUInt32 31)).toInt32)))]) d_J_bitCount_47 rfl (by decide) rfl ?_
  exact aw_weak [true] rfl (wJ_bitCount_48 _ hf)
set_option maxRecDepth 20000 in
theorem wJ_bitCount_34 {N : Nat} {h0 : aw_H} {r0 : Int32} (l0 : Int32) (hf : fJ_bitCount_34 N l0 = some r0) : AW "java/lang/Integer" "bitCount" c_J_bitCount 1 (some .int) 0 0 0 0 (aw_is (some (.int r0)) h0) 34 [some (.int l0)] [] h0 0 0 := by
  unfold fJ_bitCount_34 at hf
  refine aw_iload_n (pc' := 35) d_J_bitCount_34 rfl rfl ?_
  refine aw_iload_n (pc' := 36) d_J_bitCount_35 rfl rfl ?_
  refine aw_bipush (pc' := 38) d_J_bitCount_36 rfl kc_bi_8 ?_
  refine aw_iushr (pc' := 39) d_J_bitCount_38 rfl ?_
  refine aw_iadd (pc' := 40) d_J_bitCount_39 rfl ?_
  refine aw_istore_n (pc' := 41) (L' := [some (.int (l0 + ((l0.toUInt32 >>> ((8 : Int32).toUInt32 &&& Int32.toUInt32 31)).toInt32)))]) d_J_bitCount_40 rfl (by decide) rfl ?_
  exact aw_weak [true] rfl (wJ_bitCount_41 _ hf)
set_option maxRecDepth 20000 in
theorem wJ_bitCount_24 {N : Nat} {h0 : aw_H} {r0 : Int32} (l0 : Int32) (hf : fJ_bitCount_24 N l0 = some r0) : AW "java/lang/Integer" "bitCount" c_J_bitCount 1 (some .int) 0 0 0 0 (aw_is (some (.int r0)) h0) 24 [some (.int l0)] [] h0 0 0 := by
  unfold fJ_bitCount_24 at hf
  refine aw_iload_n (pc' := 25) d_J_bitCount_24 rfl rfl ?_
  refine aw_iload_n (pc' := 26) d_J_bitCount_25 rfl rfl ?_
  refine aw_iconst (pc' := 27) d_J_bitCount_26 rfl kc_ic_4 ?_
  refine aw_iushr (pc' := 28) d_J_bitCount_27 rfl ?_
  refine aw_iadd (pc' := 29) d_J_bitCount_28 rfl ?_
  refine aw_ldcw (pc' := 32) d_J_bitCount_29 rfl wk_J_267 ?_
  refine aw_iand (pc' := 33) d_J_bitCount_32 rfl ?_
  refine aw_istore_n (pc' := 34) (L' := [some (.int ((l0 + ((l0.toUInt32 >>> ((4 : Int32).toUInt32 &&& Int32.toUInt32 31)).toInt32)) &&& (252645135 : Int32)))]) d_J_bitCount_33 rfl (by decide) rfl ?_
  exact aw_weak [true] rfl (wJ_bitCount_34 _ hf)
set_option maxRecDepth 20000 in
theorem wJ_bitCount_10 {N : Nat} {h0 : aw_H} {r0 : Int32} (l0 : Int32) (hf : fJ_bitCount_10 N l0 = some r0) : AW "java/lang/Integer" "bitCount" c_J_bitCount 1 (some .int) 0 0 0 0 (aw_is (some (.int r0)) h0) 10 [some (.int l0)] [] h0 0 0 := by
  unfold fJ_bitCount_10 at hf
  refine aw_iload_n (pc' := 11) d_J_bitCount_10 rfl rfl ?_
  refine aw_ldcw (pc' := 14) d_J_bitCount_11 rfl wk_J_266 ?_
  refine aw_iand (pc' := 15) d_J_bitCount_14 rfl ?_
  refine aw_iload_n (pc' := 16) d_J_bitCount_15 rfl rfl ?_
  refine aw_iconst (pc' := 17) d_J_bitCount_16 rfl kc_ic_2 ?_
  refine aw_iushr (pc' := 18) d_J_bitCount_17 rfl ?_
  refine aw_ldcw (pc' := 21) d_J_bitCount_18 rfl wk_J_266 ?_
  refine aw_iand (pc' := 22) d_J_bitCount_21 rfl ?_
  refine aw_iadd (pc' := 23) d_J_bitCount_22 rfl ?_
  refine aw_istore_n (pc' := 24) (L' := [some (.int ((l0 &&& (858993459 : Int32)) + (((l0.toUInt32 >>> ((2 : Int32).toUInt32 &&& Int32.toUInt32 31)).toInt32) &&& (858993459 : Int32))))]) d_J_bitCount_23 rfl (by decide) rfl ?_
  exact aw_weak [true] rfl (wJ_bitCount_24 _ hf)
set_option maxRecDepth 20000 in
theorem mJ_bitCount {N : Nat} {h0 : aw_H} {r0 : Int32} {l0 : Int32} (hf : fJ_bitCount N l0 = some r0) : AM y_J_bitCount c_J_bitCount 1 (some .int) 0 0 0 0 [.int l0] h0 (aw_is (some (.int r0)) h0) := by
  unfold fJ_bitCount at hf
  refine AM.of (own := "java/lang/Integer") (nm := "bitCount") (L := [some (.int l0)]) rfl rfl (by decide) (Nat.le_of_ble_eq_true rfl) rfl ?_
  refine aw_iload_n (pc' := 1) d_J_bitCount_0 rfl rfl ?_
  refine aw_iload_n (pc' := 2) d_J_bitCount_1 rfl rfl ?_
  refine aw_iconst (pc' := 3) d_J_bitCount_2 rfl kc_ic_1 ?_
  refine aw_iushr (pc' := 4) d_J_bitCount_3 rfl ?_
  refine aw_ldcw (pc' := 7) d_J_bitCount_4 rfl wk_J_265 ?_
  refine aw_iand (pc' := 8) d_J_bitCount_7 rfl ?_
  refine aw_isub (pc' := 9) d_J_bitCount_8 rfl ?_
  refine aw_istore_n (pc' := 10) (L' := [some (.int (l0 - (((l0.toUInt32 >>> ((1 : Int32).toUInt32 &&& Int32.toUInt32 31)).toInt32) &&& (1431655765 : Int32))))]) d_J_bitCount_9 rfl (by decide) rfl ?_
  exact aw_weak [true] rfl (wJ_bitCount_10 _ hf)
set_option maxRecDepth 20000 in
theorem wA_holds_13 {N : Nat} {h0 : aw_H} {r0 : Int32} (s0 : Int32) (hf : fA_holds_13 N s0 = some r0) : AW "ArcTape" "holds" c_A_holds 2 (some .boolean) 0 0 0 0 (aw_is (some (.int r0)) h0) 13 [none, none] [.int s0] h0 0 0 := by
  unfold fA_holds_13 at hf
  obtain ⟨g1, hf⟩ := aw_gz hf
  cases hf
  exact aw_zreturn rfl g1.1 d_A_holds_13 (Nat.le_refl 0) (Nat.le_refl 0) ⟨rfl, rfl⟩
set_option maxRecDepth 20000 in
theorem mA_holds {N : Nat} {h0 : aw_H} {r0 : Int32} {l0 : Int32} {l1 : Int32} (hf : fA_holds N l0 l1 = some r0) : AM y_A_holds c_A_holds 2 (some .boolean) 0 0 0 0 [.int l0, .int l1] h0 (aw_is (some (.int r0)) h0) := by
  unfold fA_holds at hf
  refine AM.of (own := "ArcTape") (nm := "holds") (L := [some (.int l0), some (.int l1)]) rfl rfl (by decide) (Nat.le_of_ble_eq_true rfl) rfl ?_
  refine aw_iload_n (pc' := 1) d_A_holds_0 rfl rfl ?_
  refine aw_iload_n (pc' := 2) d_A_holds_1 rfl rfl ?_
  refine aw_ishr (pc' := 3) d_A_holds_2 rfl ?_
  refine aw_iconst (pc' := 4) d_A_holds_3 rfl kc_ic_1 ?_
  refine aw_iand (pc' := 5) d_A_holds_4 rfl ?_
  refine aw_if_eq (tgt := 12) (pc' := 8) d_A_holds_5 (by decide) rfl (fun c2 => ?_) (fun c2 => ?_)
  · replace hf := aw_ifp c2 hf
    refine aw_iconst (pc' := 13) d_A_holds_12 rfl kc_ic_0 ?_
    exact aw_weak [false, false] rfl (wA_holds_13 _ hf)
  · replace hf := aw_ifn c2 hf
    refine aw_iconst (pc' := 9) d_A_holds_8 rfl kc_ic_1 ?_
    refine aw_goto (tgt := 13) d_A_holds_9 (by decide) ?_
    exact aw_weak [false, false] rfl (wA_holds_13 _ hf)
set_option maxRecDepth 20000 in
theorem wK_writeRuns_137 {N : Nat} {n : Nat} {r0 : me_M} (μ : me_M) (hf : fK_writeRuns_137 N n μ = some r0) : AW "ArcTape$Packer" "writeRuns" c_K_writeRuns 6 none 2 0 0 0 (aw_is none (hC n r0)) 137 [none, none, none, none, none, none] [] (hC n μ) 0 0 := by
  unfold fK_writeRuns_137 at hf
  cases hf
  exact aw_return rfl d_K_writeRuns_137 (Nat.le_refl 0) (Nat.le_refl 0) ⟨rfl, rfl⟩
set_option maxRecDepth 20000 in
theorem wK_writeRuns_128 {N : Nat} {n : Nat} {r0 : me_M} {k94 : Int32 → Int32 → me_M → Option me_M} (hk94 : ∀ (l3 : Int32) (l5 : Int32) (μ : me_M), k94 l3 l5 μ = some r0 → AW "ArcTape$Packer" "writeRuns" c_K_writeRuns 6 none 2 0 0 0 (aw_is none (hC n r0)) 94 [some (.ref 6), none, none, some (.int l3), none, some (.int l5)] [] (hC n μ) 0 0) (l3 : Int32) (l5 : Int32) (s1 : Int32) (μ : me_M) (hf : fK_writeRuns_128 N n k94 l3 l5 s1 μ = some r0) : AW "ArcTape$Packer" "writeRuns" c_K_writeRuns 6 none 2 0 0 0 (aw_is none (hC n r0)) 128 [some (.ref 6), none, none, some (.int l3), none, some (.int l5)] [.int s1, .ref 2] (hC n μ) 0 0 := by
  unfold fK_writeRuns_128 at hf
  obtain ⟨r1, hr1, hf⟩ := aw_bind hf
  refine aw_callVn (pc' := 131) (av := [.int s1]) d_K_writeRuns_128 rfl wc_K_75 hC_2 (mT_putGamma hr1) (Or.inl rfl) rfl (by decide) (Nat.le_of_ble_eq_true rfl) ⟨Nat.le_refl 0, Nat.le_refl 0⟩ ?_
  refine aw_iinc (pc' := 134) (L' := [some (.ref 6), none, none, some (.int l3), none, some (.int (l5 + (1 : Int32)))]) d_K_writeRuns_131 rfl kc_ic_1 rfl (by decide) rfl ?_
  refine aw_goto (tgt := 94) d_K_writeRuns_134 (by decide) ?_
  exact aw_weak [true, false, false, true, false, true] rfl (hk94 _ _ _ hf)
set_option maxRecDepth 20000 in
theorem wK_writeRuns_94b {N : Nat} {n : Nat} {r0 : me_M} {k94 : Int32 → Int32 → me_M → Option me_M} (hk94 : ∀ (l3 : Int32) (l5 : Int32) (μ : me_M), k94 l3 l5 μ = some r0 → AW "ArcTape$Packer" "writeRuns" c_K_writeRuns 6 none 2 0 0 0 (aw_is none (hC n r0)) 94 [some (.ref 6), none, none, some (.int l3), none, some (.int l5)] [] (hC n μ) 0 0) (l3 : Int32) (l5 : Int32) (μ : me_M) (hf : fK_writeRuns_94b N n k94 l3 l5 μ = some r0) : AW "ArcTape$Packer" "writeRuns" c_K_writeRuns 6 none 2 0 0 0 (aw_is none (hC n r0)) 94 [some (.ref 6), none, none, some (.int l3), none, some (.int l5)] [] (hC n μ) 0 0 := by
  unfold fK_writeRuns_94b at hf
  refine aw_iload (pc' := 96) d_K_writeRuns_94 rfl rfl ?_
  refine aw_iload_n (pc' := 97) d_K_writeRuns_96 rfl rfl ?_
  refine aw_icmp_ge (tgt := 137) (pc' := 100) d_K_writeRuns_97 (by decide) rfl (fun c2 => ?_) (fun c2 => ?_)
  · replace hf := aw_ifp c2 hf
    exact aw_weak [false, false, false, false, false, false] rfl (wK_writeRuns_137 _ hf)
  · replace hf := aw_ifn c2 hf
    refine aw_aload_n (pc' := 101) d_K_writeRuns_100 rfl rfl ?_
    refine aw_get (pc' := 104) d_K_writeRuns_101 rfl fl_K_28 hC_6 rfl ?_
    refine aw_iload (pc' := 106) d_K_writeRuns_104 rfl rfl ?_
    refine aw_if_ne (tgt := 119) (pc' := 109) d_K_writeRuns_106 (by decide) rfl (fun c3 => ?_) (fun c3 => ?_)
    · replace hf := aw_ifn c3 hf
      refine aw_aload_n (pc' := 120) d_K_writeRuns_119 rfl rfl ?_
      refine aw_get (pc' := 123) d_K_writeRuns_120 rfl fl_K_9 hC_6 rfl ?_
      refine aw_iload (pc' := 125) d_K_writeRuns_123 rfl rfl ?_
      obtain ⟨g4, hf⟩ := aw_gi hf
      refine aw_iald (pc' := 126) d_K_writeRuns_125 rfl rfl hC_7 g4 ?_
      refine aw_iconst (pc' := 127) d_K_writeRuns_126 rfl kc_ic_1 ?_
      refine aw_isub (pc' := 128) d_K_writeRuns_127 rfl ?_
      exact aw_weak [true, false, false, true, false, true] rfl (wK_writeRuns_128 hk94 _ _ _ _ hf)
    · replace hf := aw_ifp c3 hf
      refine aw_aload_n (pc' := 110) d_K_writeRuns_109 rfl rfl ?_
      refine aw_get (pc' := 113) d_K_writeRuns_110 rfl fl_K_9 hC_6 rfl ?_
      refine aw_iload (pc' := 115) d_K_writeRuns_113 rfl rfl ?_
      obtain ⟨g5, hf⟩ := aw_gi hf
      refine aw_iald (pc' := 116) d_K_writeRuns_115 rfl rfl hC_7 g5 ?_
      refine aw_goto (tgt := 128) d_K_writeRuns_116 (by decide) ?_
      exact aw_weak [true, false, false, true, false, true] rfl (wK_writeRuns_128 hk94 _ _ _ _ hf)
set_option maxRecDepth 20000 in
theorem wK_writeRuns_94 {N : Nat} {n : Nat} {r0 : me_M} : ∀ (F : Nat) (l3 : Int32) (l5 : Int32) (μ : me_M) (hf : fK_writeRuns_94 N n F l3 l5 μ = some r0), AW "ArcTape$Packer" "writeRuns" c_K_writeRuns 6 none 2 0 0 0 (aw_is none (hC n r0)) 94 [some (.ref 6), none, none, some (.int l3), none, some (.int l5)] [] (hC n μ) 0 0 := by
  intro F
  induction F with
  | zero => intro l3 l5 μ hf; exact aw_no hf
  | succ F ih => intro l3 l5 μ hf; exact wK_writeRuns_94b ih l3 l5 μ hf
set_option maxRecDepth 20000 in
theorem wK_writeRuns_83 {N : Nat} {n : Nat} {r0 : me_M} (l3 : Int32) (μ : me_M) (hf : fK_writeRuns_83 N n l3 μ = some r0) : AW "ArcTape$Packer" "writeRuns" c_K_writeRuns 6 none 2 0 0 0 (aw_is none (hC n r0)) 83 [some (.ref 6), none, none, some (.int l3), none, none] [] (hC n μ) 0 0 := by
  unfold fK_writeRuns_83 at hf
  refine aw_aload_n (pc' := 84) d_K_writeRuns_83 rfl rfl ?_
  refine aw_get (pc' := 87) d_K_writeRuns_84 rfl fl_K_28 hC_6 rfl ?_
  refine aw_iload_n (pc' := 88) d_K_writeRuns_87 rfl rfl ?_
  obtain ⟨r6, hr6, hf⟩ := aw_bind hf
  refine aw_callVn (pc' := 91) (av := [.int l3]) d_K_writeRuns_88 rfl wc_K_75 hC_2 (mT_putGamma hr6) (Or.inl rfl) rfl (by decide) (Nat.le_of_ble_eq_true rfl) ⟨Nat.le_refl 0, Nat.le_refl 0⟩ ?_
  refine aw_iconst (pc' := 92) d_K_writeRuns_91 rfl kc_ic_0 ?_
  refine aw_istore (pc' := 94) (L' := [some (.ref 6), none, none, some (.int l3), none, some (.int (0 : Int32))]) d_K_writeRuns_92 rfl (by decide) rfl ?_
  exact aw_weak [true, false, false, true, false, true] rfl (wK_writeRuns_94 _ _ _ _ hf)
set_option maxRecDepth 20000 in
theorem wK_writeRuns_77 {N : Nat} {n : Nat} {r0 : me_M} {k15 : Int32 → Int32 → Int32 → Int32 → Int32 → me_M → Option me_M} (hk15 : ∀ (l1 : Int32) (l2 : Int32) (l3 : Int32) (l4 : Int32) (l5 : Int32) (μ : me_M), k15 l1 l2 l3 l4 l5 μ = some r0 → AW "ArcTape$Packer" "writeRuns" c_K_writeRuns 6 none 2 0 0 0 (aw_is none (hC n r0)) 15 [some (.ref 6), some (.int l1), some (.int l2), some (.int l3), some (.int l4), some (.int l5)] [] (hC n μ) 0 0) (l1 : Int32) (l2 : Int32) (l3 : Int32) (l4 : Int32) (l5 : Int32) (μ : me_M) (hf : fK_writeRuns_77 N n k15 l1 l2 l3 l4 l5 μ = some r0) : AW "ArcTape$Packer" "writeRuns" c_K_writeRuns 6 none 2 0 0 0 (aw_is none (hC n r0)) 77 [some (.ref 6), some (.int l1), some (.int l2), some (.int l3), some (.int l4), some (.int l5)] [] (hC n μ) 0 0 := by
  unfold fK_writeRuns_77 at hf
  refine aw_iinc (pc' := 80) (L' := [some (.ref 6), some (.int l1), some (.int l2), some (.int l3), some (.int l4), some (.int (l5 + (1 : Int32)))]) d_K_writeRuns_77 rfl kc_ic_1 rfl (by decide) rfl ?_
  refine aw_goto (tgt := 15) d_K_writeRuns_80 (by decide) ?_
  exact aw_weak [true, true, true, true, true, true] rfl (hk15 _ _ _ _ _ _ hf)
set_option maxRecDepth 20000 in
theorem wK_writeRuns_67 {N : Nat} {n : Nat} {r0 : me_M} {k15 : Int32 → Int32 → Int32 → Int32 → Int32 → me_M → Option me_M} (hk15 : ∀ (l1 : Int32) (l2 : Int32) (l3 : Int32) (l4 : Int32) (l5 : Int32) (μ : me_M), k15 l1 l2 l3 l4 l5 μ = some r0 → AW "ArcTape$Packer" "writeRuns" c_K_writeRuns 6 none 2 0 0 0 (aw_is none (hC n r0)) 15 [some (.ref 6), some (.int l1), some (.int l2), some (.int l3), some (.int l4), some (.int l5)] [] (hC n μ) 0 0) (l1 : Int32) (l2 : Int32) (l3 : Int32) (l4 : Int32) (l5 : Int32) (μ : me_M) (hf : fK_writeRuns_67 N n k15 l1 l2 l3 l4 l5 μ = some r0) : AW "ArcTape$Packer" "writeRuns" c_K_writeRuns 6 none 2 0 0 0 (aw_is none (hC n r0)) 67 [some (.ref 6), some (.int l1), some (.int l2), some (.int l3), some (.int l4), some (.int l5)] [] (hC n μ) 0 0 := by
  unfold fK_writeRuns_67 at hf
  refine aw_aload_n (pc' := 68) d_K_writeRuns_67 rfl rfl ?_
  refine aw_get (pc' := 71) d_K_writeRuns_68 rfl fl_K_9 hC_6 rfl ?_
  refine aw_iload_n (pc' := 72) d_K_writeRuns_71 rfl rfl ?_
  refine aw_dup2 (pc' := 73) d_K_writeRuns_72 rfl rfl rfl ?_
  obtain ⟨g7, hf⟩ := aw_gi hf
  refine aw_iald (pc' := 74) d_K_writeRuns_73 rfl rfl hC_7 g7 ?_
  refine aw_iconst (pc' := 75) d_K_writeRuns_74 rfl kc_ic_1 ?_
  refine aw_iadd (pc' := 76) d_K_writeRuns_75 rfl ?_
  obtain ⟨g8, hf⟩ := aw_gi hf
  refine aw_iast (pc' := 77) (h' := (hC n (me_wi μ 7 l3.toNatClampNeg ((μ.1 7 l3.toNatClampNeg) + (1 : Int32))))) d_K_writeRuns_76 rfl rfl hC_7 g8 rfl ?_
  exact aw_weak [true, true, true, true, true, true] rfl (wK_writeRuns_77 hk15 _ _ _ _ _ _ hf)
set_option maxRecDepth 20000 in
theorem wK_writeRuns_55 {N : Nat} {n : Nat} {r0 : me_M} {k15 : Int32 → Int32 → Int32 → Int32 → Int32 → me_M → Option me_M} (hk15 : ∀ (l1 : Int32) (l2 : Int32) (l3 : Int32) (l4 : Int32) (l5 : Int32) (μ : me_M), k15 l1 l2 l3 l4 l5 μ = some r0 → AW "ArcTape$Packer" "writeRuns" c_K_writeRuns 6 none 2 0 0 0 (aw_is none (hC n r0)) 15 [some (.ref 6), some (.int l1), some (.int l2), some (.int l3), some (.int l4), some (.int l5)] [] (hC n μ) 0 0) (l1 : Int32) (l2 : Int32) (l3 : Int32) (l5 : Int32) (s0 : Int32) (μ : me_M) (hf : fK_writeRuns_55 N n k15 l1 l2 l3 l5 s0 μ = some r0) : AW "ArcTape$Packer" "writeRuns" c_K_writeRuns 6 none 2 0 0 0 (aw_is none (hC n r0)) 55 [some (.ref 6), some (.int l1), some (.int l2), some (.int l3), none, some (.int l5)] [.int s0] (hC n μ) 0 0 := by
  unfold fK_writeRuns_55 at hf
  refine aw_istore (pc' := 57) (L' := [some (.ref 6), some (.int l1), some (.int l2), some (.int l3), some (.int s0), some (.int l5)]) d_K_writeRuns_55 rfl (by decide) rfl ?_
  refine aw_iinc (pc' := 60) (L' := [some (.ref 6), some (.int l1), some (.int l2), some (.int (l3 + (1 : Int32))), some (.int s0), some (.int l5)]) d_K_writeRuns_57 rfl kc_ic_1 rfl (by decide) rfl ?_
  refine aw_aload_n (pc' := 61) d_K_writeRuns_60 rfl rfl ?_
  refine aw_get (pc' := 64) d_K_writeRuns_61 rfl fl_K_9 hC_6 rfl ?_
  refine aw_iload_n (pc' := 65) d_K_writeRuns_64 rfl rfl ?_
  refine aw_iconst (pc' := 66) d_K_writeRuns_65 rfl kc_ic_0 ?_
  obtain ⟨g9, hf⟩ := aw_gi hf
  refine aw_iast (pc' := 67) (h' := (hC n (me_wi μ 7 (l3 + (1 : Int32)).toNatClampNeg (0 : Int32)))) d_K_writeRuns_66 rfl rfl hC_7 g9 rfl ?_
  exact aw_weak [true, true, true, true, true, true] rfl (wK_writeRuns_67 hk15 _ _ _ _ _ _ hf)
set_option maxRecDepth 20000 in
theorem wK_writeRuns_15b {N : Nat} {n : Nat} {r0 : me_M} {k15 : Int32 → Int32 → Int32 → Int32 → Int32 → me_M → Option me_M} (hk15 : ∀ (l1 : Int32) (l2 : Int32) (l3 : Int32) (l4 : Int32) (l5 : Int32) (μ : me_M), k15 l1 l2 l3 l4 l5 μ = some r0 → AW "ArcTape$Packer" "writeRuns" c_K_writeRuns 6 none 2 0 0 0 (aw_is none (hC n r0)) 15 [some (.ref 6), some (.int l1), some (.int l2), some (.int l3), some (.int l4), some (.int l5)] [] (hC n μ) 0 0) (l1 : Int32) (l2 : Int32) (l3 : Int32) (l4 : Int32) (l5 : Int32) (μ : me_M) (hf : fK_writeRuns_15b N n k15 l1 l2 l3 l4 l5 μ = some r0) : AW "ArcTape$Packer" "writeRuns" c_K_writeRuns 6 none 2 0 0 0 (aw_is none (hC n r0)) 15 [some (.ref 6), some (.int l1), some (.int l2), some (.int l3), some (.int l4), some (.int l5)] [] (hC n μ) 0 0 := by
  unfold fK_writeRuns_15b at hf
  refine aw_iload (pc' := 17) d_K_writeRuns_15 rfl rfl ?_
  refine aw_aload_n (pc' := 18) d_K_writeRuns_17 rfl rfl ?_
  refine aw_get (pc' := 21) d_K_writeRuns_18 rfl fl_K_21 hC_6 rfl ?_
  refine aw_alen (pc' := 22) d_K_writeRuns_21 rfl rfl hC_1 ?_
  refine aw_icmp_ge (tgt := 83) (pc' := 25) d_K_writeRuns_22 (by decide) rfl (fun c10 => ?_) (fun c10 => ?_)
  · replace hf := aw_ifp c10 hf
    exact aw_weak [true, false, false, true, false, false] rfl (wK_writeRuns_83 _ _ hf)
  · replace hf := aw_ifn c10 hf
    refine aw_iload_n (pc' := 26) d_K_writeRuns_25 rfl rfl ?_
    refine aw_iload (pc' := 28) d_K_writeRuns_26 rfl rfl ?_
    obtain ⟨r11, hr11, hf⟩ := aw_bind hf
    refine aw_callNv (pc' := 31) (av := [.int l2, .int l5]) d_K_writeRuns_28 rfl wc_K_94 (mA_holds hr11) (Or.inl rfl) rfl (by decide) (Nat.le_of_ble_eq_true rfl) ⟨Nat.le_refl 0, Nat.le_refl 0⟩ ?_
    refine aw_if_eq (tgt := 77) (pc' := 34) d_K_writeRuns_31 (by decide) rfl (fun c12 => ?_) (fun c12 => ?_)
    · replace hf := aw_ifp c12 hf
      exact aw_weak [true, true, true, true, true, true] rfl (wK_writeRuns_77 hk15 _ _ _ _ _ _ hf)
    · replace hf := aw_ifn c12 hf
      refine aw_iload_n (pc' := 35) d_K_writeRuns_34 rfl rfl ?_
      refine aw_iload (pc' := 37) d_K_writeRuns_35 rfl rfl ?_
      obtain ⟨r13, hr13, hf⟩ := aw_bind hf
      refine aw_callNv (pc' := 40) (av := [.int l1, .int l5]) d_K_writeRuns_37 rfl wc_K_94 (mA_holds hr13) (Or.inl rfl) rfl (by decide) (Nat.le_of_ble_eq_true rfl) ⟨Nat.le_refl 0, Nat.le_refl 0⟩ ?_
      refine aw_iload (pc' := 42) d_K_writeRuns_40 rfl rfl ?_
      refine aw_icmp_eq (tgt := 67) (pc' := 45) d_K_writeRuns_42 (by decide) rfl (fun c14 => ?_) (fun c14 => ?_)
      · replace hf := aw_ifp c14 hf
        exact aw_weak [true, true, true, true, true, true] rfl (wK_writeRuns_67 hk15 _ _ _ _ _ _ hf)
      · replace hf := aw_ifn c14 hf
        refine aw_iload (pc' := 47) d_K_writeRuns_45 rfl rfl ?_
        refine aw_if_ne (tgt := 54) (pc' := 50) d_K_writeRuns_47 (by decide) rfl (fun c15 => ?_) (fun c15 => ?_)
        · replace hf := aw_ifn c15 hf
          refine aw_iconst (pc' := 55) d_K_writeRuns_54 rfl kc_ic_0 ?_
          exact aw_weak [true, true, true, true, false, true] rfl (wK_writeRuns_55 hk15 _ _ _ _ _ _ hf)
        · replace hf := aw_ifp c15 hf
          refine aw_iconst (pc' := 51) d_K_writeRuns_50 rfl kc_ic_1 ?_
          refine aw_goto (tgt := 55) d_K_writeRuns_51 (by decide) ?_
          exact aw_weak [true, true, true, true, false, true] rfl (wK_writeRuns_55 hk15 _ _ _ _ _ _ hf)
set_option maxRecDepth 20000 in
theorem wK_writeRuns_15 {N : Nat} {n : Nat} {r0 : me_M} : ∀ (F : Nat) (l1 : Int32) (l2 : Int32) (l3 : Int32) (l4 : Int32) (l5 : Int32) (μ : me_M) (hf : fK_writeRuns_15 N n F l1 l2 l3 l4 l5 μ = some r0), AW "ArcTape$Packer" "writeRuns" c_K_writeRuns 6 none 2 0 0 0 (aw_is none (hC n r0)) 15 [some (.ref 6), some (.int l1), some (.int l2), some (.int l3), some (.int l4), some (.int l5)] [] (hC n μ) 0 0 := by
  intro F
  induction F with
  | zero => intro l1 l2 l3 l4 l5 μ hf; exact aw_no hf
  | succ F ih => intro l1 l2 l3 l4 l5 μ hf; exact wK_writeRuns_15b ih l1 l2 l3 l4 l5 μ hf
set_option maxRecDepth 20000 in
theorem mK_writeRuns {N : Nat} {n : Nat} {μ : me_M} {r0 : me_M} {l1 : Int32} {l2 : Int32} (hf : fK_writeRuns N n l1 l2 μ = some r0) : AM y_K_writeRuns c_K_writeRuns 6 none 2 0 0 0 [.ref 6, .int l1, .int l2] (hC n μ) (aw_is none (hC n r0)) := by
  unfold fK_writeRuns at hf
  refine AM.of (own := "ArcTape$Packer") (nm := "writeRuns") (L := [some (.ref 6), some (.int l1), some (.int l2), none, none, none]) rfl rfl (by decide) (Nat.le_of_ble_eq_true rfl) rfl ?_
  refine aw_iconst (pc' := 1) d_K_writeRuns_0 rfl kc_ic_0 ?_
  refine aw_istore_n (pc' := 2) (L' := [some (.ref 6), some (.int l1), some (.int l2), some (.int (0 : Int32)), none, none]) d_K_writeRuns_1 rfl (by decide) rfl ?_
  refine aw_iconst (pc' := 3) d_K_writeRuns_2 rfl kc_ic_1 ?_
  refine aw_istore (pc' := 5) (L' := [some (.ref 6), some (.int l1), some (.int l2), some (.int (0 : Int32)), some (.int (1 : Int32)), none]) d_K_writeRuns_3 rfl (by decide) rfl ?_
  refine aw_aload_n (pc' := 6) d_K_writeRuns_5 rfl rfl ?_
  refine aw_get (pc' := 9) d_K_writeRuns_6 rfl fl_K_9 hC_6 rfl ?_
  refine aw_iconst (pc' := 10) d_K_writeRuns_9 rfl kc_ic_0 ?_
  refine aw_iconst (pc' := 11) d_K_writeRuns_10 rfl kc_ic_0 ?_
  obtain ⟨g16, hf⟩ := aw_gi hf
  refine aw_iast (pc' := 12) (h' := (hC n (me_wi μ 7 (0 : Int32).toNatClampNeg (0 : Int32)))) d_K_writeRuns_11 rfl rfl hC_7 g16 rfl ?_
  refine aw_iconst (pc' := 13) d_K_writeRuns_12 rfl kc_ic_0 ?_
  refine aw_istore (pc' := 15) (L' := [some (.ref 6), some (.int l1), some (.int l2), some (.int (0 : Int32)), some (.int (1 : Int32)), some (.int (0 : Int32))]) d_K_writeRuns_13 rfl (by decide) rfl ?_
  exact aw_weak [true, true, true, true, true, true] rfl (wK_writeRuns_15 _ _ _ _ _ _ _ hf)
set_option maxRecDepth 20000 in
theorem wK_rowLength_29 {N : Nat} {n : Nat} {μ : me_M} {r0 : Int32} (l3 : Int32) (hf : fK_rowLength_29 N n μ l3 = some r0) : AW "ArcTape$Packer" "rowLength" c_K_rowLength 4 (some .int) 1 0 0 0 (aw_is (some (.int r0)) (hC n μ)) 29 [none, none, none, some (.int l3)] [] (hC n μ) 0 0 := by
  unfold fK_rowLength_29 at hf
  refine aw_iload_n (pc' := 30) d_K_rowLength_29 rfl rfl ?_
  cases hf
  exact aw_ireturn rfl d_K_rowLength_30 (Nat.le_refl 0) (Nat.le_refl 0) ⟨rfl, rfl⟩
set_option maxRecDepth 20000 in
theorem wK_rowLength_2b {N : Nat} {n : Nat} {μ : me_M} {r0 : Int32} {k2 : Int32 → Int32 → Int32 → Option Int32} (hk2 : ∀ (l1 : Int32) (l2 : Int32) (l3 : Int32), k2 l1 l2 l3 = some r0 → AW "ArcTape$Packer" "rowLength" c_K_rowLength 4 (some .int) 1 0 0 0 (aw_is (some (.int r0)) (hC n μ)) 2 [some (.ref 6), some (.int l1), some (.int l2), some (.int l3)] [] (hC n μ) 0 0) (l1 : Int32) (l2 : Int32) (l3 : Int32) (hf : fK_rowLength_2b N n μ k2 l1 l2 l3 = some r0) : AW "ArcTape$Packer" "rowLength" c_K_rowLength 4 (some .int) 1 0 0 0 (aw_is (some (.int r0)) (hC n μ)) 2 [some (.ref 6), some (.int l1), some (.int l2), some (.int l3)] [] (hC n μ) 0 0 := by
  unfold fK_rowLength_2b at hf
  refine aw_iload_n (pc' := 3) d_K_rowLength_2 rfl rfl ?_
  refine aw_iload_n (pc' := 4) d_K_rowLength_3 rfl rfl ?_
  refine aw_iadd (pc' := 5) d_K_rowLength_4 rfl ?_
  refine aw_aload_n (pc' := 6) d_K_rowLength_5 rfl rfl ?_
  refine aw_get (pc' := 9) d_K_rowLength_6 rfl fl_K_21 hC_6 rfl ?_
  refine aw_alen (pc' := 10) d_K_rowLength_9 rfl rfl hC_1 ?_
  refine aw_icmp_ge (tgt := 29) (pc' := 13) d_K_rowLength_10 (by decide) rfl (fun c1 => ?_) (fun c1 => ?_)
  · replace hf := aw_ifp c1 hf
    exact aw_weak [false, false, false, true] rfl (wK_rowLength_29 _ hf)
  · replace hf := aw_ifn c1 hf
    refine aw_iload_n (pc' := 14) d_K_rowLength_13 rfl rfl ?_
    refine aw_iload_n (pc' := 15) d_K_rowLength_14 rfl rfl ?_
    refine aw_iload_n (pc' := 16) d_K_rowLength_15 rfl rfl ?_
    refine aw_iadd (pc' := 17) d_K_rowLength_16 rfl ?_
    obtain ⟨r2, hr2, hf⟩ := aw_bind hf
    refine aw_callNv (pc' := 20) (av := [.int l1, .int (l2 + l3)]) d_K_rowLength_17 rfl wc_K_94 (mA_holds hr2) (Or.inl rfl) rfl (by decide) (Nat.le_of_ble_eq_true rfl) ⟨Nat.le_refl 0, Nat.le_refl 0⟩ ?_
    refine aw_if_eq (tgt := 29) (pc' := 23) d_K_rowLength_20 (by decide) rfl (fun c3 => ?_) (fun c3 => ?_)
    · replace hf := aw_ifp c3 hf
      exact aw_weak [false, false, false, true] rfl (wK_rowLength_29 _ hf)
    · replace hf := aw_ifn c3 hf
      refine aw_iinc (pc' := 26) (L' := [some (.ref 6), some (.int l1), some (.int l2), some (.int (l3 + (1 : Int32)))]) d_K_rowLength_23 rfl kc_ic_1 rfl (by decide) rfl ?_
      refine aw_goto (tgt := 2) d_K_rowLength_26 (by decide) ?_
      exact aw_weak [true, true, true, true] rfl (hk2 _ _ _ hf)
set_option maxRecDepth 20000 in
theorem wK_rowLength_2 {N : Nat} {n : Nat} {μ : me_M} {r0 : Int32} : ∀ (F : Nat) (l1 : Int32) (l2 : Int32) (l3 : Int32) (hf : fK_rowLength_2 N n μ F l1 l2 l3 = some r0), AW "ArcTape$Packer" "rowLength" c_K_rowLength 4 (some .int) 1 0 0 0 (aw_is (some (.int r0)) (hC n μ)) 2 [some (.ref 6), some (.int l1), some (.int l2), some (.int l3)] [] (hC n μ) 0 0 := by
  intro F
  induction F with
  | zero => intro l1 l2 l3 hf; exact aw_no hf
  | succ F ih => intro l1 l2 l3 hf; exact wK_rowLength_2b ih l1 l2 l3 hf
set_option maxRecDepth 20000 in
theorem mK_rowLength {N : Nat} {n : Nat} {μ : me_M} {r0 : Int32} {l1 : Int32} {l2 : Int32} (hf : fK_rowLength N n μ l1 l2 = some r0) : AM y_K_rowLength c_K_rowLength 4 (some .int) 1 0 0 0 [.ref 6, .int l1, .int l2] (hC n μ) (aw_is (some (.int r0)) (hC n μ)) := by
  unfold fK_rowLength at hf
  refine AM.of (own := "ArcTape$Packer") (nm := "rowLength") (L := [some (.ref 6), some (.int l1), some (.int l2), none]) rfl rfl (by decide) (Nat.le_of_ble_eq_true rfl) rfl ?_
  refine aw_iconst (pc' := 1) d_K_rowLength_0 rfl kc_ic_0 ?_
  refine aw_istore_n (pc' := 2) (L' := [some (.ref 6), some (.int l1), some (.int l2), some (.int (0 : Int32))]) d_K_rowLength_1 rfl (by decide) rfl ?_
  exact aw_weak [true, true, true, true] rfl (wK_rowLength_2 _ _ _ _ hf)
set_option maxRecDepth 20000 in
theorem wK_writeIntervals_197 {N : Nat} {n : Nat} {r0 : (Int32 × me_M)} (l4 : Int32) (μ : me_M) (hf : fK_writeIntervals_197 N n l4 μ = some r0) : AW "ArcTape$Packer" "writeIntervals" c_K_writeIntervals 7 (some .int) 2 0 0 0 (aw_is (some (.int r0.1)) (hC n r0.2)) 197 [none, none, none, none, some (.int l4), none, none] [] (hC n μ) 0 0 := by
  unfold fK_writeIntervals_197 at hf
  refine aw_iload (pc' := 199) d_K_writeIntervals_197 rfl rfl ?_
  cases hf
  exact aw_ireturn rfl d_K_writeIntervals_199 (Nat.le_refl 0) (Nat.le_refl 0) ⟨rfl, rfl⟩
set_option maxRecDepth 20000 in
theorem wK_writeIntervals_147 {N : Nat} {n : Nat} {r0 : (Int32 × me_M)} {k105 : Int32 → Int32 → Int32 → Int32 → Int32 → me_M → Option (Int32 × me_M)} (hk105 : ∀ (l1 : Int32) (l3 : Int32) (l4 : Int32) (l5 : Int32) (l6 : Int32) (μ : me_M), k105 l1 l3 l4 l5 l6 μ = some r0 → AW "ArcTape$Packer" "writeIntervals" c_K_writeIntervals 7 (some .int) 2 0 0 0 (aw_is (some (.int r0.1)) (hC n r0.2)) 105 [some (.ref 6), some (.int l1), none, some (.int l3), some (.int l4), some (.int l5), some (.int l6)] [] (hC n μ) 0 0) (l1 : Int32) (l3 : Int32) (l4 : Int32) (l6 : Int32) (s1 : Int32) (μ : me_M) (hf : fK_writeIntervals_147 N n k105 l1 l3 l4 l6 s1 μ = some r0) : AW "ArcTape$Packer" "writeIntervals" c_K_writeIntervals 7 (some .int) 2 0 0 0 (aw_is (some (.int r0.1)) (hC n r0.2)) 147 [some (.ref 6), some (.int l1), none, some (.int l3), some (.int l4), none, some (.int l6)] [.int s1, .ref 2] (hC n μ) 0 0 := by
  unfold fK_writeIntervals_147 at hf
  obtain ⟨r1, hr1, hf⟩ := aw_bind hf
  refine aw_callVn (pc' := 150) (av := [.int s1]) d_K_writeIntervals_147 rfl wc_K_75 hC_2 (mT_putGamma hr1) (Or.inl rfl) rfl (by decide) (Nat.le_of_ble_eq_true rfl) ⟨Nat.le_refl 0, Nat.le_refl 0⟩ ?_
  refine aw_aload_n (pc' := 151) d_K_writeIntervals_150 rfl rfl ?_
  refine aw_get (pc' := 154) d_K_writeIntervals_151 rfl fl_K_28 hC_6 rfl ?_
  refine aw_aload_n (pc' := 155) d_K_writeIntervals_154 rfl rfl ?_
  refine aw_get (pc' := 158) d_K_writeIntervals_155 rfl fl_K_18 hC_6 rfl ?_
  refine aw_iload (pc' := 160) d_K_writeIntervals_158 rfl rfl ?_
  obtain ⟨g2, hf⟩ := aw_gi hf
  refine aw_iald (pc' := 161) d_K_writeIntervals_160 rfl rfl hC_9 g2 ?_
  refine aw_aload_n (pc' := 162) d_K_writeIntervals_161 rfl rfl ?_
  refine aw_get (pc' := 165) d_K_writeIntervals_162 rfl fl_K_24 hC_6 rfl ?_
  refine aw_get (pc' := 168) d_K_writeIntervals_165 rfl fl_K_85 hC_4 rfl ?_
  refine aw_isub (pc' := 169) d_K_writeIntervals_168 rfl ?_
  obtain ⟨r3, hr3, hf⟩ := aw_bind hf
  refine aw_callVn (pc' := 172) (av := [.int ((r1.1 9 l6.toNatClampNeg) - (r1.1 502 0))]) d_K_writeIntervals_169 rfl wc_K_75 hC_2 (mT_putGamma hr3) (Or.inl rfl) rfl (by decide) (Nat.le_of_ble_eq_true rfl) ⟨Nat.le_refl 0, Nat.le_refl 0⟩ ?_
  refine aw_aload_n (pc' := 173) d_K_writeIntervals_172 rfl rfl ?_
  refine aw_get (pc' := 176) d_K_writeIntervals_173 rfl fl_K_15 hC_6 rfl ?_
  refine aw_iload (pc' := 178) d_K_writeIntervals_176 rfl rfl ?_
  obtain ⟨g4, hf⟩ := aw_gi hf
  refine aw_iald (pc' := 179) d_K_writeIntervals_178 rfl rfl hC_8 g4 ?_
  refine aw_aload_n (pc' := 180) d_K_writeIntervals_179 rfl rfl ?_
  refine aw_get (pc' := 183) d_K_writeIntervals_180 rfl fl_K_18 hC_6 rfl ?_
  refine aw_iload (pc' := 185) d_K_writeIntervals_183 rfl rfl ?_
  obtain ⟨g5, hf⟩ := aw_gi hf
  refine aw_iald (pc' := 186) d_K_writeIntervals_185 rfl rfl hC_9 g5 ?_
  refine aw_iadd (pc' := 187) d_K_writeIntervals_186 rfl ?_
  refine aw_iconst (pc' := 188) d_K_writeIntervals_187 rfl kc_ic_1 ?_
  refine aw_isub (pc' := 189) d_K_writeIntervals_188 rfl ?_
  refine aw_istore (pc' := 191) (L' := [some (.ref 6), some (.int l1), none, some (.int l3), some (.int l4), some (.int (((r3.1 8 l6.toNatClampNeg) + (r3.1 9 l6.toNatClampNeg)) - (1 : Int32))), some (.int l6)]) d_K_writeIntervals_189 rfl (by decide) rfl ?_
  refine aw_iinc (pc' := 194) (L' := [some (.ref 6), some (.int l1), none, some (.int l3), some (.int l4), some (.int (((r3.1 8 l6.toNatClampNeg) + (r3.1 9 l6.toNatClampNeg)) - (1 : Int32))), some (.int (l6 + (1 : Int32)))]) d_K_writeIntervals_191 rfl kc_ic_1 rfl (by decide) rfl ?_
  refine aw_goto (tgt := 105) d_K_writeIntervals_194 (by decide) ?_
  exact aw_weak [true, true, false, true, true, true, true] rfl (hk105 _ _ _ _ _ _ hf)
set_option maxRecDepth 20000 in
theorem wK_writeIntervals_105b {N : Nat} {n : Nat} {r0 : (Int32 × me_M)} {k105 : Int32 → Int32 → Int32 → Int32 → Int32 → me_M → Option (Int32 × me_M)} (hk105 : ∀ (l1 : Int32) (l3 : Int32) (l4 : Int32) (l5 : Int32) (l6 : Int32) (μ : me_M), k105 l1 l3 l4 l5 l6 μ = some r0 → AW "ArcTape$Packer" "writeIntervals" c_K_writeIntervals 7 (some .int) 2 0 0 0 (aw_is (some (.int r0.1)) (hC n r0.2)) 105 [some (.ref 6), some (.int l1), none, some (.int l3), some (.int l4), some (.int l5), some (.int l6)] [] (hC n μ) 0 0) (l1 : Int32) (l3 : Int32) (l4 : Int32) (l5 : Int32) (l6 : Int32) (μ : me_M) (hf : fK_writeIntervals_105b N n k105 l1 l3 l4 l5 l6 μ = some r0) : AW "ArcTape$Packer" "writeIntervals" c_K_writeIntervals 7 (some .int) 2 0 0 0 (aw_is (some (.int r0.1)) (hC n r0.2)) 105 [some (.ref 6), some (.int l1), none, some (.int l3), some (.int l4), some (.int l5), some (.int l6)] [] (hC n μ) 0 0 := by
  unfold fK_writeIntervals_105b at hf
  refine aw_iload (pc' := 107) d_K_writeIntervals_105 rfl rfl ?_
  refine aw_iload_n (pc' := 108) d_K_writeIntervals_107 rfl rfl ?_
  refine aw_icmp_ge (tgt := 197) (pc' := 111) d_K_writeIntervals_108 (by decide) rfl (fun c6 => ?_) (fun c6 => ?_)
  · replace hf := aw_ifp c6 hf
    exact aw_weak [false, false, false, false, true, false, false] rfl (wK_writeIntervals_197 _ _ hf)
  · replace hf := aw_ifn c6 hf
    refine aw_aload_n (pc' := 112) d_K_writeIntervals_111 rfl rfl ?_
    refine aw_get (pc' := 115) d_K_writeIntervals_112 rfl fl_K_28 hC_6 rfl ?_
    refine aw_iload (pc' := 117) d_K_writeIntervals_115 rfl rfl ?_
    refine aw_if_ne (tgt := 135) (pc' := 120) d_K_writeIntervals_117 (by decide) rfl (fun c7 => ?_) (fun c7 => ?_)
    · replace hf := aw_ifn c7 hf
      refine aw_aload_n (pc' := 136) d_K_writeIntervals_135 rfl rfl ?_
      refine aw_get (pc' := 139) d_K_writeIntervals_136 rfl fl_K_15 hC_6 rfl ?_
      refine aw_iload (pc' := 141) d_K_writeIntervals_139 rfl rfl ?_
      obtain ⟨g8, hf⟩ := aw_gi hf
      refine aw_iald (pc' := 142) d_K_writeIntervals_141 rfl rfl hC_8 g8 ?_
      refine aw_iload (pc' := 144) d_K_writeIntervals_142 rfl rfl ?_
      refine aw_isub (pc' := 145) d_K_writeIntervals_144 rfl ?_
      refine aw_iconst (pc' := 146) d_K_writeIntervals_145 rfl kc_ic_2 ?_
      refine aw_isub (pc' := 147) d_K_writeIntervals_146 rfl ?_
      exact aw_weak [true, true, false, true, true, false, true] rfl (wK_writeIntervals_147 hk105 _ _ _ _ _ _ hf)
    · replace hf := aw_ifp c7 hf
      refine aw_aload_n (pc' := 121) d_K_writeIntervals_120 rfl rfl ?_
      refine aw_get (pc' := 124) d_K_writeIntervals_121 rfl fl_K_15 hC_6 rfl ?_
      refine aw_iload (pc' := 126) d_K_writeIntervals_124 rfl rfl ?_
      obtain ⟨g9, hf⟩ := aw_gi hf
      refine aw_iald (pc' := 127) d_K_writeIntervals_126 rfl rfl hC_8 g9 ?_
      refine aw_iload_n (pc' := 128) d_K_writeIntervals_127 rfl rfl ?_
      refine aw_isub (pc' := 129) d_K_writeIntervals_128 rfl ?_
      obtain ⟨r10, hr10, hf⟩ := aw_bind hf
      refine aw_callSv (pc' := 132) (av := [.int ((μ.1 8 l6.toNatClampNeg) - l1)]) d_K_writeIntervals_129 rfl wc_K_101 (mT_withoutSign hr10) (Or.inl rfl) rfl (by decide) (Nat.le_of_ble_eq_true rfl) ⟨Nat.le_refl 0, Nat.le_refl 0⟩ ?_
      refine aw_goto (tgt := 147) d_K_writeIntervals_132 (by decide) ?_
      exact aw_weak [true, true, false, true, true, false, true] rfl (wK_writeIntervals_147 hk105 _ _ _ _ _ _ hf)
set_option maxRecDepth 20000 in
theorem wK_writeIntervals_105 {N : Nat} {n : Nat} {r0 : (Int32 × me_M)} : ∀ (F : Nat) (l1 : Int32) (l3 : Int32) (l4 : Int32) (l5 : Int32) (l6 : Int32) (μ : me_M) (hf : fK_writeIntervals_105 N n F l1 l3 l4 l5 l6 μ = some r0), AW "ArcTape$Packer" "writeIntervals" c_K_writeIntervals 7 (some .int) 2 0 0 0 (aw_is (some (.int r0.1)) (hC n r0.2)) 105 [some (.ref 6), some (.int l1), none, some (.int l3), some (.int l4), some (.int l5), some (.int l6)] [] (hC n μ) 0 0 := by
  intro F
  induction F with
  | zero => intro l1 l3 l4 l5 l6 μ hf; exact aw_no hf
  | succ F ih => intro l1 l3 l4 l5 l6 μ hf; exact wK_writeIntervals_105b ih l1 l3 l4 l5 l6 μ hf
set_option maxRecDepth 20000 in
theorem wK_writeIntervals_91 {N : Nat} {n : Nat} {r0 : (Int32 × me_M)} (l1 : Int32) (l3 : Int32) (l4 : Int32) (μ : me_M) (hf : fK_writeIntervals_91 N n l1 l3 l4 μ = some r0) : AW "ArcTape$Packer" "writeIntervals" c_K_writeIntervals 7 (some .int) 2 0 0 0 (aw_is (some (.int r0.1)) (hC n r0.2)) 91 [some (.ref 6), some (.int l1), none, some (.int l3), some (.int l4), none, none] [] (hC n μ) 0 0 := by
  unfold fK_writeIntervals_91 at hf
  refine aw_aload_n (pc' := 92) d_K_writeIntervals_91 rfl rfl ?_
  refine aw_get (pc' := 95) d_K_writeIntervals_92 rfl fl_K_28 hC_6 rfl ?_
  refine aw_iload_n (pc' := 96) d_K_writeIntervals_95 rfl rfl ?_
  obtain ⟨r11, hr11, hf⟩ := aw_bind hf
  refine aw_callVn (pc' := 99) (av := [.int l3]) d_K_writeIntervals_96 rfl wc_K_75 hC_2 (mT_putGamma hr11) (Or.inl rfl) rfl (by decide) (Nat.le_of_ble_eq_true rfl) ⟨Nat.le_refl 0, Nat.le_refl 0⟩ ?_
  refine aw_iconst (pc' := 100) d_K_writeIntervals_99 rfl kc_ic_0 ?_
  refine aw_istore (pc' := 102) (L' := [some (.ref 6), some (.int l1), none, some (.int l3), some (.int l4), some (.int (0 : Int32)), none]) d_K_writeIntervals_100 rfl (by decide) rfl ?_
  refine aw_iconst (pc' := 103) d_K_writeIntervals_102 rfl kc_ic_0 ?_
  refine aw_istore (pc' := 105) (L' := [some (.ref 6), some (.int l1), none, some (.int l3), some (.int l4), some (.int (0 : Int32)), some (.int (0 : Int32))]) d_K_writeIntervals_103 rfl (by decide) rfl ?_
  exact aw_weak [true, true, false, true, true, true, true] rfl (wK_writeIntervals_105 _ _ _ _ _ _ _ hf)
set_option maxRecDepth 20000 in
theorem wK_writeIntervals_74 {N : Nat} {n : Nat} {r0 : (Int32 × me_M)} {k8 : Int32 → Int32 → Int32 → Int32 → Int32 → me_M → Option (Int32 × me_M)} (hk8 : ∀ (l1 : Int32) (l2 : Int32) (l3 : Int32) (l4 : Int32) (l5 : Int32) (μ : me_M), k8 l1 l2 l3 l4 l5 μ = some r0 → AW "ArcTape$Packer" "writeIntervals" c_K_writeIntervals 7 (some .int) 2 0 0 0 (aw_is (some (.int r0.1)) (hC n r0.2)) 8 [some (.ref 6), some (.int l1), some (.int l2), some (.int l3), some (.int l4), some (.int l5), none] [] (hC n μ) 0 0) (l1 : Int32) (l2 : Int32) (l3 : Int32) (l4 : Int32) (l5 : Int32) (μ : me_M) (hf : fK_writeIntervals_74 N n k8 l1 l2 l3 l4 l5 μ = some r0) : AW "ArcTape$Packer" "writeIntervals" c_K_writeIntervals 7 (some .int) 2 0 0 0 (aw_is (some (.int r0.1)) (hC n r0.2)) 74 [some (.ref 6), some (.int l1), some (.int l2), some (.int l3), some (.int l4), some (.int l5), none] [] (hC n μ) 0 0 := by
  unfold fK_writeIntervals_74 at hf
  refine aw_iload (pc' := 76) d_K_writeIntervals_74 rfl rfl ?_
  refine aw_aload_n (pc' := 77) d_K_writeIntervals_76 rfl rfl ?_
  refine aw_iload_n (pc' := 78) d_K_writeIntervals_77 rfl rfl ?_
  refine aw_iload (pc' := 80) d_K_writeIntervals_78 rfl rfl ?_
  obtain ⟨r12, hr12, hf⟩ := aw_bind hf
  refine aw_callVv (pc' := 83) (av := [.int l2, .int l5]) d_K_writeIntervals_80 rfl wc_K_98 hC_6 (mK_rowLength hr12) (Or.inl rfl) rfl (by decide) (Nat.le_of_ble_eq_true rfl) ⟨Nat.le_refl 0, Nat.le_refl 0⟩ ?_
  refine aw_iconst (pc' := 84) d_K_writeIntervals_83 rfl kc_ic_1 ?_
  refine aw_iadd (pc' := 85) d_K_writeIntervals_84 rfl ?_
  refine aw_iadd (pc' := 86) d_K_writeIntervals_85 rfl ?_
  refine aw_istore (pc' := 88) (L' := [some (.ref 6), some (.int l1), some (.int l2), some (.int l3), some (.int l4), some (.int (l5 + (r12 + (1 : Int32)))), none]) d_K_writeIntervals_86 rfl (by decide) rfl ?_
  refine aw_goto (tgt := 8) d_K_writeIntervals_88 (by decide) ?_
  exact aw_weak [true, true, true, true, true, true, false] rfl (hk8 _ _ _ _ _ _ hf)
set_option maxRecDepth 20000 in
theorem wK_writeIntervals_8b {N : Nat} {n : Nat} {r0 : (Int32 × me_M)} {k8 : Int32 → Int32 → Int32 → Int32 → Int32 → me_M → Option (Int32 × me_M)} (hk8 : ∀ (l1 : Int32) (l2 : Int32) (l3 : Int32) (l4 : Int32) (l5 : Int32) (μ : me_M), k8 l1 l2 l3 l4 l5 μ = some r0 → AW "ArcTape$Packer" "writeIntervals" c_K_writeIntervals 7 (some .int) 2 0 0 0 (aw_is (some (.int r0.1)) (hC n r0.2)) 8 [some (.ref 6), some (.int l1), some (.int l2), some (.int l3), some (.int l4), some (.int l5), none] [] (hC n μ) 0 0) (l1 : Int32) (l2 : Int32) (l3 : Int32) (l4 : Int32) (l5 : Int32) (μ : me_M) (hf : fK_writeIntervals_8b N n k8 l1 l2 l3 l4 l5 μ = some r0) : AW "ArcTape$Packer" "writeIntervals" c_K_writeIntervals 7 (some .int) 2 0 0 0 (aw_is (some (.int r0.1)) (hC n r0.2)) 8 [some (.ref 6), some (.int l1), some (.int l2), some (.int l3), some (.int l4), some (.int l5), none] [] (hC n μ) 0 0 := by
  unfold fK_writeIntervals_8b at hf
  refine aw_iload (pc' := 10) d_K_writeIntervals_8 rfl rfl ?_
  refine aw_aload_n (pc' := 11) d_K_writeIntervals_10 rfl rfl ?_
  refine aw_get (pc' := 14) d_K_writeIntervals_11 rfl fl_K_21 hC_6 rfl ?_
  refine aw_alen (pc' := 15) d_K_writeIntervals_14 rfl rfl hC_1 ?_
  refine aw_icmp_ge (tgt := 91) (pc' := 18) d_K_writeIntervals_15 (by decide) rfl (fun c13 => ?_) (fun c13 => ?_)
  · replace hf := aw_ifp c13 hf
    exact aw_weak [true, true, false, true, true, false, false] rfl (wK_writeIntervals_91 _ _ _ _ hf)
  · replace hf := aw_ifn c13 hf
    refine aw_aload_n (pc' := 19) d_K_writeIntervals_18 rfl rfl ?_
    refine aw_iload_n (pc' := 20) d_K_writeIntervals_19 rfl rfl ?_
    refine aw_iload (pc' := 22) d_K_writeIntervals_20 rfl rfl ?_
    obtain ⟨r14, hr14, hf⟩ := aw_bind hf
    refine aw_callVv (pc' := 25) (av := [.int l2, .int l5]) d_K_writeIntervals_22 rfl wc_K_98 hC_6 (mK_rowLength hr14) (Or.inl rfl) rfl (by decide) (Nat.le_of_ble_eq_true rfl) ⟨Nat.le_refl 0, Nat.le_refl 0⟩ ?_
    refine aw_istore (pc' := 27) (L' := [some (.ref 6), some (.int l1), some (.int l2), some (.int l3), some (.int l4), some (.int l5), some (.int r14)]) d_K_writeIntervals_25 rfl (by decide) rfl ?_
    refine aw_iload (pc' := 29) d_K_writeIntervals_27 rfl rfl ?_
    refine aw_aload_n (pc' := 30) d_K_writeIntervals_29 rfl rfl ?_
    refine aw_get (pc' := 33) d_K_writeIntervals_30 rfl fl_K_24 hC_6 rfl ?_
    refine aw_get (pc' := 36) d_K_writeIntervals_33 rfl fl_K_85 hC_4 rfl ?_
    refine aw_icmp_lt (tgt := 74) (pc' := 39) d_K_writeIntervals_36 (by decide) rfl (fun c15 => ?_) (fun c15 => ?_)
    · replace hf := aw_ifp c15 hf
      exact aw_weak [true, true, true, true, true, true, false] rfl (wK_writeIntervals_74 hk8 _ _ _ _ _ _ hf)
    · replace hf := aw_ifn c15 hf
      refine aw_aload_n (pc' := 40) d_K_writeIntervals_39 rfl rfl ?_
      refine aw_get (pc' := 43) d_K_writeIntervals_40 rfl fl_K_15 hC_6 rfl ?_
      refine aw_iload_n (pc' := 44) d_K_writeIntervals_43 rfl rfl ?_
      refine aw_iload (pc' := 46) d_K_writeIntervals_44 rfl rfl ?_
      obtain ⟨g16, hf⟩ := aw_gi hf
      refine aw_iast (pc' := 47) (h' := (hC n (me_wi μ 8 l3.toNatClampNeg l5))) d_K_writeIntervals_46 rfl rfl hC_8 g16 rfl ?_
      refine aw_aload_n (pc' := 48) d_K_writeIntervals_47 rfl rfl ?_
      refine aw_get (pc' := 51) d_K_writeIntervals_48 rfl fl_K_18 hC_6 rfl ?_
      refine aw_iload_n (pc' := 52) d_K_writeIntervals_51 rfl rfl ?_
      refine aw_iload (pc' := 54) d_K_writeIntervals_52 rfl rfl ?_
      obtain ⟨g17, hf⟩ := aw_gi hf
      refine aw_iast (pc' := 55) (h' := (hC n (me_wi (me_wi μ 8 l3.toNatClampNeg l5) 9 l3.toNatClampNeg r14))) d_K_writeIntervals_54 rfl rfl hC_9 g17 rfl ?_
      refine aw_iinc (pc' := 58) (L' := [some (.ref 6), some (.int l1), some (.int l2), some (.int (l3 + (1 : Int32))), some (.int l4), some (.int l5), some (.int r14)]) d_K_writeIntervals_55 rfl kc_ic_1 rfl (by decide) rfl ?_
      refine aw_iload (pc' := 60) d_K_writeIntervals_58 rfl rfl ?_
      refine aw_iconst (pc' := 61) d_K_writeIntervals_60 rfl kc_ic_1 ?_
      refine aw_iload (pc' := 63) d_K_writeIntervals_61 rfl rfl ?_
      refine aw_ishl (pc' := 64) d_K_writeIntervals_63 rfl ?_
      refine aw_iconst (pc' := 65) d_K_writeIntervals_64 rfl kc_ic_1 ?_
      refine aw_isub (pc' := 66) d_K_writeIntervals_65 rfl ?_
      refine aw_iload (pc' := 68) d_K_writeIntervals_66 rfl rfl ?_
      refine aw_ishl (pc' := 69) d_K_writeIntervals_68 rfl ?_
      refine aw_iconst (pc' := 70) d_K_writeIntervals_69 rfl kc_ic_m1 ?_
      refine aw_ixor (pc' := 71) d_K_writeIntervals_70 rfl ?_
      refine aw_iand (pc' := 72) d_K_writeIntervals_71 rfl ?_
      refine aw_istore (pc' := 74) (L' := [some (.ref 6), some (.int l1), some (.int l2), some (.int (l3 + (1 : Int32))), some (.int (l4 &&& (((((1 : Int32) <<< (r14 &&& 31)) - (1 : Int32)) <<< (l5 &&& 31)) ^^^ (-1 : Int32)))), some (.int l5), some (.int r14)]) d_K_writeIntervals_72 rfl (by decide) rfl ?_
      exact aw_weak [true, true, true, true, true, true, false] rfl (wK_writeIntervals_74 hk8 _ _ _ _ _ _ hf)
set_option maxRecDepth 20000 in
theorem wK_writeIntervals_8 {N : Nat} {n : Nat} {r0 : (Int32 × me_M)} : ∀ (F : Nat) (l1 : Int32) (l2 : Int32) (l3 : Int32) (l4 : Int32) (l5 : Int32) (μ : me_M) (hf : fK_writeIntervals_8 N n F l1 l2 l3 l4 l5 μ = some r0), AW "ArcTape$Packer" "writeIntervals" c_K_writeIntervals 7 (some .int) 2 0 0 0 (aw_is (some (.int r0.1)) (hC n r0.2)) 8 [some (.ref 6), some (.int l1), some (.int l2), some (.int l3), some (.int l4), some (.int l5), none] [] (hC n μ) 0 0 := by
  intro F
  induction F with
  | zero => intro l1 l2 l3 l4 l5 μ hf; exact aw_no hf
  | succ F ih => intro l1 l2 l3 l4 l5 μ hf; exact wK_writeIntervals_8b ih l1 l2 l3 l4 l5 μ hf
set_option maxRecDepth 20000 in
theorem mK_writeIntervals {N : Nat} {n : Nat} {μ : me_M} {r0 : (Int32 × me_M)} {l1 : Int32} {l2 : Int32} (hf : fK_writeIntervals N n l1 l2 μ = some r0) : AM y_K_writeIntervals c_K_writeIntervals 7 (some .int) 2 0 0 0 [.ref 6, .int l1, .int l2] (hC n μ) (aw_is (some (.int r0.1)) (hC n r0.2)) := by
  unfold fK_writeIntervals at hf
  refine AM.of (own := "ArcTape$Packer") (nm := "writeIntervals") (L := [some (.ref 6), some (.int l1), some (.int l2), none, none, none, none]) rfl rfl (by decide) (Nat.le_of_ble_eq_true rfl) rfl ?_
  refine aw_iconst (pc' := 1) d_K_writeIntervals_0 rfl kc_ic_0 ?_
  refine aw_istore_n (pc' := 2) (L' := [some (.ref 6), some (.int l1), some (.int l2), some (.int (0 : Int32)), none, none, none]) d_K_writeIntervals_1 rfl (by decide) rfl ?_
  refine aw_iload_n (pc' := 3) d_K_writeIntervals_2 rfl rfl ?_
  refine aw_istore (pc' := 5) (L' := [some (.ref 6), some (.int l1), some (.int l2), some (.int (0 : Int32)), some (.int l2), none, none]) d_K_writeIntervals_3 rfl (by decide) rfl ?_
  refine aw_iconst (pc' := 6) d_K_writeIntervals_5 rfl kc_ic_0 ?_
  refine aw_istore (pc' := 8) (L' := [some (.ref 6), some (.int l1), some (.int l2), some (.int (0 : Int32)), some (.int l2), some (.int (0 : Int32)), none]) d_K_writeIntervals_6 rfl (by decide) rfl ?_
  exact aw_weak [true, true, true, true, true, true, false] rfl (wK_writeIntervals_8 _ _ _ _ _ _ _ hf)
set_option maxRecDepth 20000 in
theorem wK_writeSingles_67 {N : Nat} {n : Nat} {r0 : me_M} (μ : me_M) (hf : fK_writeSingles_67 N n μ = some r0) : AW "ArcTape$Packer" "writeSingles" c_K_writeSingles 5 none 2 0 0 0 (aw_is none (hC n r0)) 67 [none, none, none, none, none] [] (hC n μ) 0 0 := by
  unfold fK_writeSingles_67 at hf
  cases hf
  exact aw_return rfl d_K_writeSingles_67 (Nat.le_refl 0) (Nat.le_refl 0) ⟨rfl, rfl⟩
set_option maxRecDepth 20000 in
theorem wK_writeSingles_61 {N : Nat} {n : Nat} {r0 : me_M} {k5 : Int32 → Int32 → Int32 → Int32 → me_M → Option me_M} (hk5 : ∀ (l1 : Int32) (l2 : Int32) (l3 : Int32) (l4 : Int32) (μ : me_M), k5 l1 l2 l3 l4 μ = some r0 → AW "ArcTape$Packer" "writeSingles" c_K_writeSingles 5 none 2 0 0 0 (aw_is none (hC n r0)) 5 [some (.ref 6), some (.int l1), some (.int l2), some (.int l3), some (.int l4)] [] (hC n μ) 0 0) (l1 : Int32) (l2 : Int32) (l3 : Int32) (l4 : Int32) (μ : me_M) (hf : fK_writeSingles_61 N n k5 l1 l2 l3 l4 μ = some r0) : AW "ArcTape$Packer" "writeSingles" c_K_writeSingles 5 none 2 0 0 0 (aw_is none (hC n r0)) 61 [some (.ref 6), some (.int l1), some (.int l2), some (.int l3), some (.int l4)] [] (hC n μ) 0 0 := by
  unfold fK_writeSingles_61 at hf
  refine aw_iinc (pc' := 64) (L' := [some (.ref 6), some (.int l1), some (.int l2), some (.int l3), some (.int (l4 + (1 : Int32)))]) d_K_writeSingles_61 rfl kc_ic_1 rfl (by decide) rfl ?_
  refine aw_goto (tgt := 5) d_K_writeSingles_64 (by decide) ?_
  exact aw_weak [true, true, true, true, true] rfl (hk5 _ _ _ _ _ hf)
set_option maxRecDepth 20000 in
theorem wK_writeSingles_48 {N : Nat} {n : Nat} {r0 : me_M} {k5 : Int32 → Int32 → Int32 → Int32 → me_M → Option me_M} (hk5 : ∀ (l1 : Int32) (l2 : Int32) (l3 : Int32) (l4 : Int32) (μ : me_M), k5 l1 l2 l3 l4 μ = some r0 → AW "ArcTape$Packer" "writeSingles" c_K_writeSingles 5 none 2 0 0 0 (aw_is none (hC n r0)) 5 [some (.ref 6), some (.int l1), some (.int l2), some (.int l3), some (.int l4)] [] (hC n μ) 0 0) (l1 : Int32) (l2 : Int32) (l4 : Int32) (s1 : Int32) (μ : me_M) (hf : fK_writeSingles_48 N n k5 l1 l2 l4 s1 μ = some r0) : AW "ArcTape$Packer" "writeSingles" c_K_writeSingles 5 none 2 0 0 0 (aw_is none (hC n r0)) 48 [some (.ref 6), some (.int l1), some (.int l2), none, some (.int l4)] [.int s1, .ref 2] (hC n μ) 0 0 := by
  unfold fK_writeSingles_48 at hf
  refine aw_aload_n (pc' := 49) d_K_writeSingles_48 rfl rfl ?_
  refine aw_get (pc' := 52) d_K_writeSingles_49 rfl fl_K_24 hC_6 rfl ?_
  refine aw_get (pc' := 55) d_K_writeSingles_52 rfl fl_K_104 hC_4 rfl ?_
  obtain ⟨r1, hr1, hf⟩ := aw_bind hf
  refine aw_callVn (pc' := 58) (av := [.int s1, .int (μ.1 503 0)]) d_K_writeSingles_55 rfl wc_K_107 hC_2 (mT_putZeta hr1) (Or.inl rfl) rfl (by decide) (Nat.le_of_ble_eq_true rfl) ⟨Nat.le_refl 0, Nat.le_refl 0⟩ ?_
  refine aw_iload (pc' := 60) d_K_writeSingles_58 rfl rfl ?_
  refine aw_istore_n (pc' := 61) (L' := [some (.ref 6), some (.int l1), some (.int l2), some (.int l4), some (.int l4)]) d_K_writeSingles_60 rfl (by decide) rfl ?_
  exact aw_weak [true, true, true, true, true] rfl (wK_writeSingles_61 hk5 _ _ _ _ _ hf)
set_option maxRecDepth 20000 in
theorem wK_writeSingles_5b {N : Nat} {n : Nat} {r0 : me_M} {k5 : Int32 → Int32 → Int32 → Int32 → me_M → Option me_M} (hk5 : ∀ (l1 : Int32) (l2 : Int32) (l3 : Int32) (l4 : Int32) (μ : me_M), k5 l1 l2 l3 l4 μ = some r0 → AW "ArcTape$Packer" "writeSingles" c_K_writeSingles 5 none 2 0 0 0 (aw_is none (hC n r0)) 5 [some (.ref 6), some (.int l1), some (.int l2), some (.int l3), some (.int l4)] [] (hC n μ) 0 0) (l1 : Int32) (l2 : Int32) (l3 : Int32) (l4 : Int32) (μ : me_M) (hf : fK_writeSingles_5b N n k5 l1 l2 l3 l4 μ = some r0) : AW "ArcTape$Packer" "writeSingles" c_K_writeSingles 5 none 2 0 0 0 (aw_is none (hC n r0)) 5 [some (.ref 6), some (.int l1), some (.int l2), some (.int l3), some (.int l4)] [] (hC n μ) 0 0 := by
  unfold fK_writeSingles_5b at hf
  refine aw_iload (pc' := 7) d_K_writeSingles_5 rfl rfl ?_
  refine aw_aload_n (pc' := 8) d_K_writeSingles_7 rfl rfl ?_
  refine aw_get (pc' := 11) d_K_writeSingles_8 rfl fl_K_21 hC_6 rfl ?_
  refine aw_alen (pc' := 12) d_K_writeSingles_11 rfl rfl hC_1 ?_
  refine aw_icmp_ge (tgt := 67) (pc' := 15) d_K_writeSingles_12 (by decide) rfl (fun c2 => ?_) (fun c2 => ?_)
  · replace hf := aw_ifp c2 hf
    exact aw_weak [false, false, false, false, false] rfl (wK_writeSingles_67 _ hf)
  · replace hf := aw_ifn c2 hf
    refine aw_iload_n (pc' := 16) d_K_writeSingles_15 rfl rfl ?_
    refine aw_iload (pc' := 18) d_K_writeSingles_16 rfl rfl ?_
    obtain ⟨r3, hr3, hf⟩ := aw_bind hf
    refine aw_callNv (pc' := 21) (av := [.int l2, .int l4]) d_K_writeSingles_18 rfl wc_K_94 (mA_holds hr3) (Or.inl rfl) rfl (by decide) (Nat.le_of_ble_eq_true rfl) ⟨Nat.le_refl 0, Nat.le_refl 0⟩ ?_
    refine aw_if_eq (tgt := 61) (pc' := 24) d_K_writeSingles_21 (by decide) rfl (fun c4 => ?_) (fun c4 => ?_)
    · replace hf := aw_ifp c4 hf
      exact aw_weak [true, true, true, true, true] rfl (wK_writeSingles_61 hk5 _ _ _ _ _ hf)
    · replace hf := aw_ifn c4 hf
      refine aw_aload_n (pc' := 25) d_K_writeSingles_24 rfl rfl ?_
      refine aw_get (pc' := 28) d_K_writeSingles_25 rfl fl_K_28 hC_6 rfl ?_
      refine aw_iload_n (pc' := 29) d_K_writeSingles_28 rfl rfl ?_
      refine aw_if_ge (tgt := 42) (pc' := 32) d_K_writeSingles_29 (by decide) rfl (fun c5 => ?_) (fun c5 => ?_)
      · replace hf := aw_ifp c5 hf
        refine aw_iload (pc' := 44) d_K_writeSingles_42 rfl rfl ?_
        refine aw_iload_n (pc' := 45) d_K_writeSingles_44 rfl rfl ?_
        refine aw_isub (pc' := 46) d_K_writeSingles_45 rfl ?_
        refine aw_iconst (pc' := 47) d_K_writeSingles_46 rfl kc_ic_1 ?_
        refine aw_isub (pc' := 48) d_K_writeSingles_47 rfl ?_
        exact aw_weak [true, true, true, false, true] rfl (wK_writeSingles_48 hk5 _ _ _ _ _ hf)
      · replace hf := aw_ifn c5 hf
        refine aw_iload (pc' := 34) d_K_writeSingles_32 rfl rfl ?_
        refine aw_iload_n (pc' := 35) d_K_writeSingles_34 rfl rfl ?_
        refine aw_isub (pc' := 36) d_K_writeSingles_35 rfl ?_
        obtain ⟨r6, hr6, hf⟩ := aw_bind hf
        refine aw_callSv (pc' := 39) (av := [.int (l4 - l1)]) d_K_writeSingles_36 rfl wc_K_101 (mT_withoutSign hr6) (Or.inl rfl) rfl (by decide) (Nat.le_of_ble_eq_true rfl) ⟨Nat.le_refl 0, Nat.le_refl 0⟩ ?_
        refine aw_goto (tgt := 48) d_K_writeSingles_39 (by decide) ?_
        exact aw_weak [true, true, true, false, true] rfl (wK_writeSingles_48 hk5 _ _ _ _ _ hf)
set_option maxRecDepth 20000 in
theorem wK_writeSingles_5 {N : Nat} {n : Nat} {r0 : me_M} : ∀ (F : Nat) (l1 : Int32) (l2 : Int32) (l3 : Int32) (l4 : Int32) (μ : me_M) (hf : fK_writeSingles_5 N n F l1 l2 l3 l4 μ = some r0), AW "ArcTape$Packer" "writeSingles" c_K_writeSingles 5 none 2 0 0 0 (aw_is none (hC n r0)) 5 [some (.ref 6), some (.int l1), some (.int l2), some (.int l3), some (.int l4)] [] (hC n μ) 0 0 := by
  intro F
  induction F with
  | zero => intro l1 l2 l3 l4 μ hf; exact aw_no hf
  | succ F ih => intro l1 l2 l3 l4 μ hf; exact wK_writeSingles_5b ih l1 l2 l3 l4 μ hf
set_option maxRecDepth 20000 in
theorem mK_writeSingles {N : Nat} {n : Nat} {μ : me_M} {r0 : me_M} {l1 : Int32} {l2 : Int32} (hf : fK_writeSingles N n l1 l2 μ = some r0) : AM y_K_writeSingles c_K_writeSingles 5 none 2 0 0 0 [.ref 6, .int l1, .int l2] (hC n μ) (aw_is none (hC n r0)) := by
  unfold fK_writeSingles at hf
  refine AM.of (own := "ArcTape$Packer") (nm := "writeSingles") (L := [some (.ref 6), some (.int l1), some (.int l2), none, none]) rfl rfl (by decide) (Nat.le_of_ble_eq_true rfl) rfl ?_
  refine aw_iconst (pc' := 1) d_K_writeSingles_0 rfl kc_ic_m1 ?_
  refine aw_istore_n (pc' := 2) (L' := [some (.ref 6), some (.int l1), some (.int l2), some (.int (-1 : Int32)), none]) d_K_writeSingles_1 rfl (by decide) rfl ?_
  refine aw_iconst (pc' := 3) d_K_writeSingles_2 rfl kc_ic_0 ?_
  refine aw_istore (pc' := 5) (L' := [some (.ref 6), some (.int l1), some (.int l2), some (.int (-1 : Int32)), some (.int (0 : Int32))]) d_K_writeSingles_3 rfl (by decide) rfl ?_
  exact aw_weak [true, true, true, true, true] rfl (wK_writeSingles_5 _ _ _ _ _ _ hf)
set_option maxRecDepth 20000 in
theorem wK_writeRecord_91 {N : Nat} {n : Nat} {r0 : me_M} (l1 : Int32) (l3 : Int32) (μ : me_M) (hf : fK_writeRecord_91 N n l1 l3 μ = some r0) : AW "ArcTape$Packer" "writeRecord" c_K_writeRecord 4 none 3 0 0 0 (aw_is none (hC n r0)) 91 [some (.ref 6), some (.int l1), none, some (.int l3)] [] (hC n μ) 0 0 := by
  unfold fK_writeRecord_91 at hf
  refine aw_aload_n (pc' := 92) d_K_writeRecord_91 rfl rfl ?_
  refine aw_iload_n (pc' := 93) d_K_writeRecord_92 rfl rfl ?_
  refine aw_iload_n (pc' := 94) d_K_writeRecord_93 rfl rfl ?_
  obtain ⟨r1, hr1, hf⟩ := aw_bind hf
  refine aw_callVn (pc' := 97) (av := [.int l1, .int l3]) d_K_writeRecord_94 rfl wc_K_91 hC_6 (mK_writeSingles hr1) (Or.inl rfl) rfl (by decide) (Nat.le_of_ble_eq_true rfl) ⟨Nat.le_refl 0, Nat.le_refl 0⟩ ?_
  cases hf
  exact aw_return rfl d_K_writeRecord_97 (Nat.le_refl 0) (Nat.le_refl 0) ⟨rfl, rfl⟩
set_option maxRecDepth 20000 in
theorem wK_writeRecord_70 {N : Nat} {n : Nat} {r0 : me_M} (l1 : Int32) (l3 : Int32) (μ : me_M) (hf : fK_writeRecord_70 N n l1 l3 μ = some r0) : AW "ArcTape$Packer" "writeRecord" c_K_writeRecord 4 none 3 0 0 0 (aw_is none (hC n r0)) 70 [some (.ref 6), some (.int l1), none, some (.int l3)] [] (hC n μ) 0 0 := by
  unfold fK_writeRecord_70 at hf
  refine aw_iload_n (pc' := 71) d_K_writeRecord_70 rfl rfl ?_
  refine aw_if_eq (tgt := 91) (pc' := 74) d_K_writeRecord_71 (by decide) rfl (fun c2 => ?_) (fun c2 => ?_)
  · replace hf := aw_ifp c2 hf
    exact aw_weak [true, true, false, true] rfl (wK_writeRecord_91 _ _ _ hf)
  · replace hf := aw_ifn c2 hf
    refine aw_aload_n (pc' := 75) d_K_writeRecord_74 rfl rfl ?_
    refine aw_get (pc' := 78) d_K_writeRecord_75 rfl fl_K_24 hC_6 rfl ?_
    refine aw_get (pc' := 81) d_K_writeRecord_78 rfl fl_K_85 hC_4 rfl ?_
    refine aw_if_le (tgt := 91) (pc' := 84) d_K_writeRecord_81 (by decide) rfl (fun c3 => ?_) (fun c3 => ?_)
    · replace hf := aw_ifp c3 hf
      exact aw_weak [true, true, false, true] rfl (wK_writeRecord_91 _ _ _ hf)
    · replace hf := aw_ifn c3 hf
      refine aw_aload_n (pc' := 85) d_K_writeRecord_84 rfl rfl ?_
      refine aw_iload_n (pc' := 86) d_K_writeRecord_85 rfl rfl ?_
      refine aw_iload_n (pc' := 87) d_K_writeRecord_86 rfl rfl ?_
      obtain ⟨r4, hr4, hf⟩ := aw_bind hf
      refine aw_callVv (pc' := 90) (av := [.int l1, .int l3]) d_K_writeRecord_87 rfl wc_K_88 hC_6 (mK_writeIntervals hr4) (Or.inl rfl) rfl (by decide) (Nat.le_of_ble_eq_true rfl) ⟨Nat.le_refl 0, Nat.le_refl 0⟩ ?_
      refine aw_istore_n (pc' := 91) (L' := [some (.ref 6), some (.int l1), none, some (.int r4.1)]) d_K_writeRecord_90 rfl (by decide) rfl ?_
      exact aw_weak [true, true, false, true] rfl (wK_writeRecord_91 _ _ _ hf)
set_option maxRecDepth 20000 in
theorem wK_writeRecord_40 {N : Nat} {n : Nat} {r0 : me_M} (l1 : Int32) (l2 : Int32) (l3 : Int32) (μ : me_M) (hf : fK_writeRecord_40 N n l1 l2 l3 μ = some r0) : AW "ArcTape$Packer" "writeRecord" c_K_writeRecord 4 none 3 0 0 0 (aw_is none (hC n r0)) 40 [some (.ref 6), some (.int l1), some (.int l2), some (.int l3)] [] (hC n μ) 0 0 := by
  unfold fK_writeRecord_40 at hf
  refine aw_iload_n (pc' := 41) d_K_writeRecord_40 rfl rfl ?_
  refine aw_if_le (tgt := 70) (pc' := 44) d_K_writeRecord_41 (by decide) rfl (fun c5 => ?_) (fun c5 => ?_)
  · replace hf := aw_ifp c5 hf
    exact aw_weak [true, true, false, true] rfl (wK_writeRecord_70 _ _ _ hf)
  · replace hf := aw_ifn c5 hf
    refine aw_aload_n (pc' := 45) d_K_writeRecord_44 rfl rfl ?_
    refine aw_iload_n (pc' := 46) d_K_writeRecord_45 rfl rfl ?_
    refine aw_aload_n (pc' := 47) d_K_writeRecord_46 rfl rfl ?_
    refine aw_get (pc' := 50) d_K_writeRecord_47 rfl fl_K_21 hC_6 rfl ?_
    refine aw_iload_n (pc' := 51) d_K_writeRecord_50 rfl rfl ?_
    refine aw_iload_n (pc' := 52) d_K_writeRecord_51 rfl rfl ?_
    refine aw_isub (pc' := 53) d_K_writeRecord_52 rfl ?_
    obtain ⟨g6, hf⟩ := aw_gi hf
    refine aw_iald (pc' := 54) d_K_writeRecord_53 rfl rfl hC_1 g6 ?_
    obtain ⟨r7, hr7, hf⟩ := aw_bind hf
    refine aw_callVn (pc' := 57) (av := [.int l3, .int (μ.1 1 (l1 - l2).toNatClampNeg)]) d_K_writeRecord_54 rfl wc_K_82 hC_6 (mK_writeRuns hr7) (Or.inl rfl) rfl (by decide) (Nat.le_of_ble_eq_true rfl) ⟨Nat.le_refl 0, Nat.le_refl 0⟩ ?_
    refine aw_iload_n (pc' := 58) d_K_writeRecord_57 rfl rfl ?_
    refine aw_aload_n (pc' := 59) d_K_writeRecord_58 rfl rfl ?_
    refine aw_get (pc' := 62) d_K_writeRecord_59 rfl fl_K_21 hC_6 rfl ?_
    refine aw_iload_n (pc' := 63) d_K_writeRecord_62 rfl rfl ?_
    refine aw_iload_n (pc' := 64) d_K_writeRecord_63 rfl rfl ?_
    refine aw_isub (pc' := 65) d_K_writeRecord_64 rfl ?_
    obtain ⟨g8, hf⟩ := aw_gi hf
    refine aw_iald (pc' := 66) d_K_writeRecord_65 rfl rfl hC_1 g8 ?_
    refine aw_iconst (pc' := 67) d_K_writeRecord_66 rfl kc_ic_m1 ?_
    refine aw_ixor (pc' := 68) d_K_writeRecord_67 rfl ?_
    refine aw_iand (pc' := 69) d_K_writeRecord_68 rfl ?_
    refine aw_istore_n (pc' := 70) (L' := [some (.ref 6), some (.int l1), some (.int l2), some (.int (l3 &&& ((r7.1 1 (l1 - l2).toNatClampNeg) ^^^ (-1 : Int32))))]) d_K_writeRecord_69 rfl (by decide) rfl ?_
    exact aw_weak [true, true, false, true] rfl (wK_writeRecord_70 _ _ _ hf)
set_option maxRecDepth 20000 in
theorem mK_writeRecord {N : Nat} {n : Nat} {μ : me_M} {r0 : me_M} {l1 : Int32} {l2 : Int32} (hf : fK_writeRecord N n l1 l2 μ = some r0) : AM y_K_writeRecord c_K_writeRecord 4 none 3 0 0 0 [.ref 6, .int l1, .int l2] (hC n μ) (aw_is none (hC n r0)) := by
  unfold fK_writeRecord at hf
  refine AM.of (own := "ArcTape$Packer") (nm := "writeRecord") (L := [some (.ref 6), some (.int l1), some (.int l2), none]) rfl rfl (by decide) (Nat.le_of_ble_eq_true rfl) rfl ?_
  refine aw_aload_n (pc' := 1) d_K_writeRecord_0 rfl rfl ?_
  refine aw_get (pc' := 4) d_K_writeRecord_1 rfl fl_K_21 hC_6 rfl ?_
  refine aw_iload_n (pc' := 5) d_K_writeRecord_4 rfl rfl ?_
  obtain ⟨g9, hf⟩ := aw_gi hf
  refine aw_iald (pc' := 6) d_K_writeRecord_5 rfl rfl hC_1 g9 ?_
  refine aw_istore_n (pc' := 7) (L' := [some (.ref 6), some (.int l1), some (.int l2), some (.int (μ.1 1 l1.toNatClampNeg))]) d_K_writeRecord_6 rfl (by decide) rfl ?_
  refine aw_aload_n (pc' := 8) d_K_writeRecord_7 rfl rfl ?_
  refine aw_get (pc' := 11) d_K_writeRecord_8 rfl fl_K_28 hC_6 rfl ?_
  refine aw_iload_n (pc' := 12) d_K_writeRecord_11 rfl rfl ?_
  obtain ⟨r10, hr10, hf⟩ := aw_bind hf
  refine aw_callSv (pc' := 15) (av := [.int (μ.1 1 l1.toNatClampNeg)]) d_K_writeRecord_12 rfl wc_K_70 (mJ_bitCount hr10) (Or.inl rfl) rfl (by decide) (Nat.le_of_ble_eq_true rfl) ⟨Nat.le_refl 0, Nat.le_refl 0⟩ ?_
  obtain ⟨r11, hr11, hf⟩ := aw_bind hf
  refine aw_callVn (pc' := 18) (av := [.int r10]) d_K_writeRecord_15 rfl wc_K_75 hC_2 (mT_putGamma hr11) (Or.inl rfl) rfl (by decide) (Nat.le_of_ble_eq_true rfl) ⟨Nat.le_refl 0, Nat.le_refl 0⟩ ?_
  refine aw_iload_n (pc' := 19) d_K_writeRecord_18 rfl rfl ?_
  refine aw_if_eq (tgt := 40) (pc' := 22) d_K_writeRecord_19 (by decide) rfl (fun c12 => ?_) (fun c12 => ?_)
  · replace hf := aw_ifp c12 hf
    exact aw_weak [true, true, true, true] rfl (wK_writeRecord_40 _ _ _ _ hf)
  · replace hf := aw_ifn c12 hf
    refine aw_aload_n (pc' := 23) d_K_writeRecord_22 rfl rfl ?_
    refine aw_get (pc' := 26) d_K_writeRecord_23 rfl fl_K_24 hC_6 rfl ?_
    refine aw_get (pc' := 29) d_K_writeRecord_26 rfl fl_K_54 hC_4 rfl ?_
    refine aw_if_le (tgt := 40) (pc' := 32) d_K_writeRecord_29 (by decide) rfl (fun c13 => ?_) (fun c13 => ?_)
    · replace hf := aw_ifp c13 hf
      exact aw_weak [true, true, true, true] rfl (wK_writeRecord_40 _ _ _ _ hf)
    · replace hf := aw_ifn c13 hf
      refine aw_aload_n (pc' := 33) d_K_writeRecord_32 rfl rfl ?_
      refine aw_get (pc' := 36) d_K_writeRecord_33 rfl fl_K_28 hC_6 rfl ?_
      refine aw_iload_n (pc' := 37) d_K_writeRecord_36 rfl rfl ?_
      obtain ⟨r14, hr14, hf⟩ := aw_bind hf
      refine aw_callVn (pc' := 40) (av := [.int l2]) d_K_writeRecord_37 rfl wc_K_79 hC_2 (mT_putUnary hr14) (Or.inl rfl) rfl (by decide) (Nat.le_of_ble_eq_true rfl) ⟨Nat.le_refl 0, Nat.le_refl 0⟩ ?_
      exact aw_weak [true, true, true, true] rfl (wK_writeRecord_40 _ _ _ _ hf)
set_option maxRecDepth 20000 in
theorem wK_bestReference_116 {N : Nat} {n : Nat} {r0 : (Int32 × me_M)} (l3 : Int32) (μ : me_M) (hf : fK_bestReference_116 N n l3 μ = some r0) : AW "ArcTape$Packer" "bestReference" c_K_bestReference 7 (some .int) 4 0 0 0 (aw_is (some (.int r0.1)) (hC n r0.2)) 116 [none, none, none, some (.int l3), none, none, none] [] (hC n μ) 0 0 := by
  unfold fK_bestReference_116 at hf
  refine aw_iload_n (pc' := 117) d_K_bestReference_116 rfl rfl ?_
  cases hf
  exact aw_ireturn rfl d_K_bestReference_117 (Nat.le_refl 0) (Nat.le_refl 0) ⟨rfl, rfl⟩
set_option maxRecDepth 20000 in
theorem wK_bestReference_110 {N : Nat} {n : Nat} {r0 : (Int32 × me_M)} {k44 : Int32 → Int32 → Int32 → Int32 → Int32 → Int32 → me_M → Option (Int32 × me_M)} (hk44 : ∀ (l1 : Int32) (l2 : Int32) (l3 : Int32) (l4 : Int32) (l5 : Int32) (l6 : Int32) (μ : me_M), k44 l1 l2 l3 l4 l5 l6 μ = some r0 → AW "ArcTape$Packer" "bestReference" c_K_bestReference 7 (some .int) 4 0 0 0 (aw_is (some (.int r0.1)) (hC n r0.2)) 44 [some (.ref 6), some (.int l1), some (.int l2), some (.int l3), some (.int l4), some (.int l5), some (.int l6)] [] (hC n μ) 0 0) (l1 : Int32) (l2 : Int32) (l3 : Int32) (l4 : Int32) (l5 : Int32) (l6 : Int32) (μ : me_M) (hf : fK_bestReference_110 N n k44 l1 l2 l3 l4 l5 l6 μ = some r0) : AW "ArcTape$Packer" "bestReference" c_K_bestReference 7 (some .int) 4 0 0 0 (aw_is (some (.int r0.1)) (hC n r0.2)) 110 [some (.ref 6), some (.int l1), some (.int l2), some (.int l3), some (.int l4), some (.int l5), some (.int l6)] [] (hC n μ) 0 0 := by
  unfold fK_bestReference_110 at hf
  refine aw_iinc (pc' := 113) (L' := [some (.ref 6), some (.int l1), some (.int l2), some (.int l3), some (.int l4), some (.int l5), some (.int (l6 + (1 : Int32)))]) d_K_bestReference_110 rfl kc_ic_1 rfl (by decide) rfl ?_
  refine aw_goto (tgt := 44) d_K_bestReference_113 (by decide) ?_
  exact aw_weak [true, true, true, true, true, true, true] rfl (hk44 _ _ _ _ _ _ _ hf)
set_option maxRecDepth 20000 in
theorem wK_bestReference_102 {N : Nat} {n : Nat} {r0 : (Int32 × me_M)} {k44 : Int32 → Int32 → Int32 → Int32 → Int32 → Int32 → me_M → Option (Int32 × me_M)} (hk44 : ∀ (l1 : Int32) (l2 : Int32) (l3 : Int32) (l4 : Int32) (l5 : Int32) (l6 : Int32) (μ : me_M), k44 l1 l2 l3 l4 l5 l6 μ = some r0 → AW "ArcTape$Packer" "bestReference" c_K_bestReference 7 (some .int) 4 0 0 0 (aw_is (some (.int r0.1)) (hC n r0.2)) 44 [some (.ref 6), some (.int l1), some (.int l2), some (.int l3), some (.int l4), some (.int l5), some (.int l6)] [] (hC n μ) 0 0) (l1 : Int32) (l2 : Int32) (l3 : Int32) (l4 : Int32) (l5 : Int32) (l6 : Int32) (μ : me_M) (hf : fK_bestReference_102 N n k44 l1 l2 l3 l4 l5 l6 μ = some r0) : AW "ArcTape$Packer" "bestReference" c_K_bestReference 7 (some .int) 4 0 0 0 (aw_is (some (.int r0.1)) (hC n r0.2)) 102 [some (.ref 6), some (.int l1), some (.int l2), some (.int l3), some (.int l4), some (.int l5), some (.int l6)] [] (hC n μ) 0 0 := by
  unfold fK_bestReference_102 at hf
  refine aw_aload_n (pc' := 103) d_K_bestReference_102 rfl rfl ?_
  refine aw_get (pc' := 106) d_K_bestReference_103 rfl fl_K_28 hC_6 rfl ?_
  refine aw_iload_n (pc' := 107) d_K_bestReference_106 rfl rfl ?_
  refine aw_puti (pc' := 110) (h' := (hC n (me_wi μ 301 0 l2))) d_K_bestReference_107 rfl fp_K_35 hC_2 (Nat.le_of_ble_eq_true rfl) rfl ?_
  exact aw_weak [true, true, true, true, true, true, true] rfl (wK_bestReference_110 hk44 _ _ _ _ _ _ _ hf)
set_option maxRecDepth 20000 in
theorem wK_bestReference_67 {N : Nat} {n : Nat} {r0 : (Int32 × me_M)} {k44 : Int32 → Int32 → Int32 → Int32 → Int32 → Int32 → me_M → Option (Int32 × me_M)} (hk44 : ∀ (l1 : Int32) (l2 : Int32) (l3 : Int32) (l4 : Int32) (l5 : Int32) (l6 : Int32) (μ : me_M), k44 l1 l2 l3 l4 l5 l6 μ = some r0 → AW "ArcTape$Packer" "bestReference" c_K_bestReference 7 (some .int) 4 0 0 0 (aw_is (some (.int r0.1)) (hC n r0.2)) 44 [some (.ref 6), some (.int l1), some (.int l2), some (.int l3), some (.int l4), some (.int l5), some (.int l6)] [] (hC n μ) 0 0) (l1 : Int32) (l2 : Int32) (l3 : Int32) (l4 : Int32) (l5 : Int32) (l6 : Int32) (μ : me_M) (hf : fK_bestReference_67 N n k44 l1 l2 l3 l4 l5 l6 μ = some r0) : AW "ArcTape$Packer" "bestReference" c_K_bestReference 7 (some .int) 4 0 0 0 (aw_is (some (.int r0.1)) (hC n r0.2)) 67 [some (.ref 6), some (.int l1), some (.int l2), some (.int l3), some (.int l4), some (.int l5), some (.int l6)] [] (hC n μ) 0 0 := by
  unfold fK_bestReference_67 at hf
  refine aw_aload_n (pc' := 68) d_K_bestReference_67 rfl rfl ?_
  refine aw_iload_n (pc' := 69) d_K_bestReference_68 rfl rfl ?_
  refine aw_iload (pc' := 71) d_K_bestReference_69 rfl rfl ?_
  obtain ⟨r1, hr1, hf⟩ := aw_bind hf
  refine aw_callVn (pc' := 74) (av := [.int l1, .int l6]) d_K_bestReference_71 rfl wc_K_50 hC_6 (mK_writeRecord hr1) (Or.inl rfl) rfl (by decide) (Nat.le_of_ble_eq_true rfl) ⟨Nat.le_refl 0, Nat.le_refl 0⟩ ?_
  refine aw_aload_n (pc' := 75) d_K_bestReference_74 rfl rfl ?_
  refine aw_get (pc' := 78) d_K_bestReference_75 rfl fl_K_28 hC_6 rfl ?_
  refine aw_get (pc' := 81) d_K_bestReference_78 rfl fl_K_35 hC_2 rfl ?_
  refine aw_iload_n (pc' := 82) d_K_bestReference_81 rfl rfl ?_
  refine aw_isub (pc' := 83) d_K_bestReference_82 rfl ?_
  refine aw_iload (pc' := 85) d_K_bestReference_83 rfl rfl ?_
  refine aw_icmp_ge (tgt := 102) (pc' := 88) d_K_bestReference_85 (by decide) rfl (fun c2 => ?_) (fun c2 => ?_)
  · replace hf := aw_ifp c2 hf
    exact aw_weak [true, true, true, true, true, true, true] rfl (wK_bestReference_102 hk44 _ _ _ _ _ _ _ hf)
  · replace hf := aw_ifn c2 hf
    refine aw_aload_n (pc' := 89) d_K_bestReference_88 rfl rfl ?_
    refine aw_get (pc' := 92) d_K_bestReference_89 rfl fl_K_28 hC_6 rfl ?_
    refine aw_get (pc' := 95) d_K_bestReference_92 rfl fl_K_35 hC_2 rfl ?_
    refine aw_iload_n (pc' := 96) d_K_bestReference_95 rfl rfl ?_
    refine aw_isub (pc' := 97) d_K_bestReference_96 rfl ?_
    refine aw_istore (pc' := 99) (L' := [some (.ref 6), some (.int l1), some (.int l2), some (.int l3), some (.int ((r1.1 301 0) - l2)), some (.int l5), some (.int l6)]) d_K_bestReference_97 rfl (by decide) rfl ?_
    refine aw_iload (pc' := 101) d_K_bestReference_99 rfl rfl ?_
    refine aw_istore_n (pc' := 102) (L' := [some (.ref 6), some (.int l1), some (.int l2), some (.int l6), some (.int ((r1.1 301 0) - l2)), some (.int l5), some (.int l6)]) d_K_bestReference_101 rfl (by decide) rfl ?_
    exact aw_weak [true, true, true, true, true, true, true] rfl (wK_bestReference_102 hk44 _ _ _ _ _ _ _ hf)
set_option maxRecDepth 20000 in
theorem wK_bestReference_44b {N : Nat} {n : Nat} {r0 : (Int32 × me_M)} {k44 : Int32 → Int32 → Int32 → Int32 → Int32 → Int32 → me_M → Option (Int32 × me_M)} (hk44 : ∀ (l1 : Int32) (l2 : Int32) (l3 : Int32) (l4 : Int32) (l5 : Int32) (l6 : Int32) (μ : me_M), k44 l1 l2 l3 l4 l5 l6 μ = some r0 → AW "ArcTape$Packer" "bestReference" c_K_bestReference 7 (some .int) 4 0 0 0 (aw_is (some (.int r0.1)) (hC n r0.2)) 44 [some (.ref 6), some (.int l1), some (.int l2), some (.int l3), some (.int l4), some (.int l5), some (.int l6)] [] (hC n μ) 0 0) (l1 : Int32) (l2 : Int32) (l3 : Int32) (l4 : Int32) (l5 : Int32) (l6 : Int32) (μ : me_M) (hf : fK_bestReference_44b N n k44 l1 l2 l3 l4 l5 l6 μ = some r0) : AW "ArcTape$Packer" "bestReference" c_K_bestReference 7 (some .int) 4 0 0 0 (aw_is (some (.int r0.1)) (hC n r0.2)) 44 [some (.ref 6), some (.int l1), some (.int l2), some (.int l3), some (.int l4), some (.int l5), some (.int l6)] [] (hC n μ) 0 0 := by
  unfold fK_bestReference_44b at hf
  refine aw_iload (pc' := 46) d_K_bestReference_44 rfl rfl ?_
  refine aw_iload (pc' := 48) d_K_bestReference_46 rfl rfl ?_
  refine aw_icmp_gt (tgt := 116) (pc' := 51) d_K_bestReference_48 (by decide) rfl (fun c3 => ?_) (fun c3 => ?_)
  · replace hf := aw_ifp c3 hf
    exact aw_weak [false, false, false, true, false, false, false] rfl (wK_bestReference_116 _ _ hf)
  · replace hf := aw_ifn c3 hf
    refine aw_iload (pc' := 53) d_K_bestReference_51 rfl rfl ?_
    refine aw_if_eq (tgt := 67) (pc' := 56) d_K_bestReference_53 (by decide) rfl (fun c4 => ?_) (fun c4 => ?_)
    · replace hf := aw_ifp c4 hf
      exact aw_weak [true, true, true, true, true, true, true] rfl (wK_bestReference_67 hk44 _ _ _ _ _ _ _ hf)
    · replace hf := aw_ifn c4 hf
      refine aw_aload_n (pc' := 57) d_K_bestReference_56 rfl rfl ?_
      refine aw_iload_n (pc' := 58) d_K_bestReference_57 rfl rfl ?_
      refine aw_iload (pc' := 60) d_K_bestReference_58 rfl rfl ?_
      refine aw_isub (pc' := 61) d_K_bestReference_60 rfl ?_
      obtain ⟨r5, hr5, hf⟩ := aw_bind hf
      refine aw_callVv (pc' := 64) (av := [.int (l1 - l6)]) d_K_bestReference_61 rfl wc_K_63 hC_6 (mK_mayBeReferredTo hr5) (Or.inl rfl) rfl (by decide) (Nat.le_of_ble_eq_true rfl) ⟨Nat.le_refl 0, Nat.le_refl 0⟩ ?_
      refine aw_if_eq (tgt := 110) (pc' := 67) d_K_bestReference_64 (by decide) rfl (fun c6 => ?_) (fun c6 => ?_)
      · replace hf := aw_ifp c6 hf
        exact aw_weak [true, true, true, true, true, true, true] rfl (wK_bestReference_110 hk44 _ _ _ _ _ _ _ hf)
      · replace hf := aw_ifn c6 hf
        exact aw_weak [true, true, true, true, true, true, true] rfl (wK_bestReference_67 hk44 _ _ _ _ _ _ _ hf)
set_option maxRecDepth 20000 in
theorem wK_bestReference_44 {N : Nat} {n : Nat} {r0 : (Int32 × me_M)} : ∀ (F : Nat) (l1 : Int32) (l2 : Int32) (l3 : Int32) (l4 : Int32) (l5 : Int32) (l6 : Int32) (μ : me_M) (hf : fK_bestReference_44 N n F l1 l2 l3 l4 l5 l6 μ = some r0), AW "ArcTape$Packer" "bestReference" c_K_bestReference 7 (some .int) 4 0 0 0 (aw_is (some (.int r0.1)) (hC n r0.2)) 44 [some (.ref 6), some (.int l1), some (.int l2), some (.int l3), some (.int l4), some (.int l5), some (.int l6)] [] (hC n μ) 0 0 := by
  intro F
  induction F with
  | zero => intro l1 l2 l3 l4 l5 l6 μ hf; exact aw_no hf
  | succ F ih => intro l1 l2 l3 l4 l5 l6 μ hf; exact wK_bestReference_44b ih l1 l2 l3 l4 l5 l6 μ hf
set_option maxRecDepth 20000 in
theorem wK_bestReference_39 {N : Nat} {n : Nat} {r0 : (Int32 × me_M)} (l1 : Int32) (l2 : Int32) (l3 : Int32) (l4 : Int32) (s0 : Int32) (μ : me_M) (hf : fK_bestReference_39 N n l1 l2 l3 l4 s0 μ = some r0) : AW "ArcTape$Packer" "bestReference" c_K_bestReference 7 (some .int) 4 0 0 0 (aw_is (some (.int r0.1)) (hC n r0.2)) 39 [some (.ref 6), some (.int l1), some (.int l2), some (.int l3), some (.int l4), none, none] [.int s0] (hC n μ) 0 0 := by
  unfold fK_bestReference_39 at hf
  refine aw_istore (pc' := 41) (L' := [some (.ref 6), some (.int l1), some (.int l2), some (.int l3), some (.int l4), some (.int s0), none]) d_K_bestReference_39 rfl (by decide) rfl ?_
  refine aw_iconst (pc' := 42) d_K_bestReference_41 rfl kc_ic_0 ?_
  refine aw_istore (pc' := 44) (L' := [some (.ref 6), some (.int l1), some (.int l2), some (.int l3), some (.int l4), some (.int s0), some (.int (0 : Int32))]) d_K_bestReference_42 rfl (by decide) rfl ?_
  exact aw_weak [true, true, true, true, true, true, true] rfl (wK_bestReference_44 _ _ _ _ _ _ _ _ hf)
set_option maxRecDepth 20000 in
theorem mK_bestReference {N : Nat} {n : Nat} {μ : me_M} {r0 : (Int32 × me_M)} {l1 : Int32} (hf : fK_bestReference N n l1 μ = some r0) : AM y_K_bestReference c_K_bestReference 7 (some .int) 4 0 0 0 [.ref 6, .int l1] (hC n μ) (aw_is (some (.int r0.1)) (hC n r0.2)) := by
  unfold fK_bestReference at hf
  refine AM.of (own := "ArcTape$Packer") (nm := "bestReference") (L := [some (.ref 6), some (.int l1), none, none, none, none, none]) rfl rfl (by decide) (Nat.le_of_ble_eq_true rfl) rfl ?_
  refine aw_aload_n (pc' := 1) d_K_bestReference_0 rfl rfl ?_
  refine aw_get (pc' := 4) d_K_bestReference_1 rfl fl_K_28 hC_6 rfl ?_
  refine aw_get (pc' := 7) d_K_bestReference_4 rfl fl_K_35 hC_2 rfl ?_
  refine aw_istore_n (pc' := 8) (L' := [some (.ref 6), some (.int l1), some (.int (μ.1 301 0)), none, none, none, none]) d_K_bestReference_7 rfl (by decide) rfl ?_
  refine aw_iconst (pc' := 9) d_K_bestReference_8 rfl kc_ic_0 ?_
  refine aw_istore_n (pc' := 10) (L' := [some (.ref 6), some (.int l1), some (.int (μ.1 301 0)), some (.int (0 : Int32)), none, none, none]) d_K_bestReference_9 rfl (by decide) rfl ?_
  refine aw_sipush (pc' := 13) d_K_bestReference_10 rfl kc_si_800 ?_
  refine aw_istore (pc' := 15) (L' := [some (.ref 6), some (.int l1), some (.int (μ.1 301 0)), some (.int (0 : Int32)), some (.int (800 : Int32)), none, none]) d_K_bestReference_13 rfl (by decide) rfl ?_
  refine aw_aload_n (pc' := 16) d_K_bestReference_15 rfl rfl ?_
  refine aw_get (pc' := 19) d_K_bestReference_16 rfl fl_K_21 hC_6 rfl ?_
  refine aw_iload_n (pc' := 20) d_K_bestReference_19 rfl rfl ?_
  obtain ⟨g7, hf⟩ := aw_gi hf
  refine aw_iald (pc' := 21) d_K_bestReference_20 rfl rfl hC_1 g7 ?_
  refine aw_if_ne (tgt := 28) (pc' := 24) d_K_bestReference_21 (by decide) rfl (fun c8 => ?_) (fun c8 => ?_)
  · replace hf := aw_ifn c8 hf
    refine aw_aload_n (pc' := 29) d_K_bestReference_28 rfl rfl ?_
    refine aw_get (pc' := 32) d_K_bestReference_29 rfl fl_K_24 hC_6 rfl ?_
    refine aw_get (pc' := 35) d_K_bestReference_32 rfl fl_K_54 hC_4 rfl ?_
    refine aw_iload_n (pc' := 36) d_K_bestReference_35 rfl rfl ?_
    refine aw_mmin (pc' := 39) d_K_bestReference_36 rfl wc_K_57 (by decide) (Nat.le_of_ble_eq_true rfl) (Nat.le_refl 0) (Nat.le_refl 0) ?_
    exact aw_weak [true, true, true, true, true, false, false] rfl (wK_bestReference_39 _ _ _ _ _ _ hf)
  · replace hf := aw_ifp c8 hf
    refine aw_iconst (pc' := 25) d_K_bestReference_24 rfl kc_ic_0 ?_
    refine aw_goto (tgt := 39) d_K_bestReference_25 (by decide) ?_
    exact aw_weak [true, true, true, true, true, false, false] rfl (wK_bestReference_39 _ _ _ _ _ _ hf)
set_option maxRecDepth 20000 in
theorem wK_writeAll_77 {N : Nat} {n : Nat} {r0 : me_M} (μ : me_M) (hf : fK_writeAll_77 N n μ = some r0) : AW "ArcTape$Packer" "writeAll" c_K_writeAll 3 none 5 0 0 0 (aw_is none (hC n r0)) 77 [some (.ref 6), none, none] [] (hC n μ) 0 0 := by
  unfold fK_writeAll_77 at hf
  refine aw_aload_n (pc' := 78) d_K_writeAll_77 rfl rfl ?_
  refine aw_get (pc' := 81) d_K_writeAll_78 rfl fl_K_24 hC_6 rfl ?_
  refine aw_get (pc' := 84) d_K_writeAll_81 rfl fl_K_41 hC_4 rfl ?_
  refine aw_aload_n (pc' := 85) d_K_writeAll_84 rfl rfl ?_
  refine aw_get (pc' := 88) d_K_writeAll_85 rfl fl_K_21 hC_6 rfl ?_
  refine aw_alen (pc' := 89) d_K_writeAll_88 rfl rfl hC_1 ?_
  refine aw_aload_n (pc' := 90) d_K_writeAll_89 rfl rfl ?_
  refine aw_get (pc' := 93) d_K_writeAll_90 rfl fl_K_28 hC_6 rfl ?_
  refine aw_get (pc' := 96) d_K_writeAll_93 rfl fl_K_35 hC_2 rfl ?_
  obtain ⟨g1, hf⟩ := aw_gi hf
  refine aw_iast (pc' := 97) (h' := (hC n (me_wi μ 5 (nI n).toNatClampNeg (μ.1 301 0)))) d_K_writeAll_96 rfl rfl hC_5 g1 rfl ?_
  cases hf
  exact aw_return rfl d_K_writeAll_97 (Nat.le_refl 0) (Nat.le_refl 0) ⟨rfl, rfl⟩
set_option maxRecDepth 20000 in
theorem wK_writeAll_70 {N : Nat} {n : Nat} {r0 : me_M} {k10 : Int32 → me_M → Option me_M} (hk10 : ∀ (l1 : Int32) (μ : me_M), k10 l1 μ = some r0 → AW "ArcTape$Packer" "writeAll" c_K_writeAll 3 none 5 0 0 0 (aw_is none (hC n r0)) 10 [some (.ref 6), some (.int l1), none] [] (hC n μ) 0 0) (l1 : Int32) (s1 : Int32) (s2 : Int32) (μ : me_M) (hf : fK_writeAll_70 N n k10 l1 s1 s2 μ = some r0) : AW "ArcTape$Packer" "writeAll" c_K_writeAll 3 none 5 0 0 0 (aw_is none (hC n r0)) 70 [some (.ref 6), some (.int l1), none] [.int s2, .int s1, .ref 10] (hC n μ) 0 0 := by
  unfold fK_writeAll_70 at hf
  obtain ⟨g2, hf⟩ := aw_gi hf
  refine aw_iast (pc' := 71) (h' := (hC n (me_wi μ 10 s1.toNatClampNeg s2))) d_K_writeAll_70 rfl rfl hC_10 g2 rfl ?_
  refine aw_iinc (pc' := 74) (L' := [some (.ref 6), some (.int (l1 + (1 : Int32))), none]) d_K_writeAll_71 rfl kc_ic_1 rfl (by decide) rfl ?_
  refine aw_goto (tgt := 10) d_K_writeAll_74 (by decide) ?_
  exact aw_weak [true, true, false] rfl (hk10 _ _ hf)
set_option maxRecDepth 20000 in
theorem wK_writeAll_10b {N : Nat} {n : Nat} {r0 : me_M} {k10 : Int32 → me_M → Option me_M} (hk10 : ∀ (l1 : Int32) (μ : me_M), k10 l1 μ = some r0 → AW "ArcTape$Packer" "writeAll" c_K_writeAll 3 none 5 0 0 0 (aw_is none (hC n r0)) 10 [some (.ref 6), some (.int l1), none] [] (hC n μ) 0 0) (l1 : Int32) (μ : me_M) (hf : fK_writeAll_10b N n k10 l1 μ = some r0) : AW "ArcTape$Packer" "writeAll" c_K_writeAll 3 none 5 0 0 0 (aw_is none (hC n r0)) 10 [some (.ref 6), some (.int l1), none] [] (hC n μ) 0 0 := by
  unfold fK_writeAll_10b at hf
  refine aw_iload_n (pc' := 11) d_K_writeAll_10 rfl rfl ?_
  refine aw_aload_n (pc' := 12) d_K_writeAll_11 rfl rfl ?_
  refine aw_get (pc' := 15) d_K_writeAll_12 rfl fl_K_21 hC_6 rfl ?_
  refine aw_alen (pc' := 16) d_K_writeAll_15 rfl rfl hC_1 ?_
  refine aw_icmp_ge (tgt := 77) (pc' := 19) d_K_writeAll_16 (by decide) rfl (fun c3 => ?_) (fun c3 => ?_)
  · replace hf := aw_ifp c3 hf
    exact aw_weak [true, false, false] rfl (wK_writeAll_77 _ hf)
  · replace hf := aw_ifn c3 hf
    refine aw_aload_n (pc' := 20) d_K_writeAll_19 rfl rfl ?_
    refine aw_get (pc' := 23) d_K_writeAll_20 rfl fl_K_24 hC_6 rfl ?_
    refine aw_get (pc' := 26) d_K_writeAll_23 rfl fl_K_41 hC_4 rfl ?_
    refine aw_iload_n (pc' := 27) d_K_writeAll_26 rfl rfl ?_
    refine aw_aload_n (pc' := 28) d_K_writeAll_27 rfl rfl ?_
    refine aw_get (pc' := 31) d_K_writeAll_28 rfl fl_K_28 hC_6 rfl ?_
    refine aw_get (pc' := 34) d_K_writeAll_31 rfl fl_K_35 hC_2 rfl ?_
    obtain ⟨g4, hf⟩ := aw_gi hf
    refine aw_iast (pc' := 35) (h' := (hC n (me_wi μ 5 l1.toNatClampNeg (μ.1 301 0)))) d_K_writeAll_34 rfl rfl hC_5 g4 rfl ?_
    refine aw_aload_n (pc' := 36) d_K_writeAll_35 rfl rfl ?_
    refine aw_iload_n (pc' := 37) d_K_writeAll_36 rfl rfl ?_
    obtain ⟨r5, hr5, hf⟩ := aw_bind hf
    refine aw_callVv (pc' := 40) (av := [.int l1]) d_K_writeAll_37 rfl wc_K_46 hC_6 (mK_bestReference hr5) (Or.inl rfl) rfl (by decide) (Nat.le_of_ble_eq_true rfl) ⟨Nat.le_refl 0, Nat.le_refl 0⟩ ?_
    refine aw_istore_n (pc' := 41) (L' := [some (.ref 6), some (.int l1), some (.int r5.1)]) d_K_writeAll_40 rfl (by decide) rfl ?_
    refine aw_aload_n (pc' := 42) d_K_writeAll_41 rfl rfl ?_
    refine aw_iload_n (pc' := 43) d_K_writeAll_42 rfl rfl ?_
    refine aw_iload_n (pc' := 44) d_K_writeAll_43 rfl rfl ?_
    obtain ⟨r6, hr6, hf⟩ := aw_bind hf
    refine aw_callVn (pc' := 47) (av := [.int l1, .int r5.1]) d_K_writeAll_44 rfl wc_K_50 hC_6 (mK_writeRecord hr6) (Or.inl rfl) rfl (by decide) (Nat.le_of_ble_eq_true rfl) ⟨Nat.le_refl 0, Nat.le_refl 0⟩ ?_
    refine aw_aload_n (pc' := 48) d_K_writeAll_47 rfl rfl ?_
    refine aw_get (pc' := 51) d_K_writeAll_48 rfl fl_K_32 hC_6 rfl ?_
    refine aw_iload_n (pc' := 52) d_K_writeAll_51 rfl rfl ?_
    refine aw_iload_n (pc' := 53) d_K_writeAll_52 rfl rfl ?_
    refine aw_if_ne (tgt := 60) (pc' := 56) d_K_writeAll_53 (by decide) rfl (fun c7 => ?_) (fun c7 => ?_)
    · replace hf := aw_ifn c7 hf
      refine aw_aload_n (pc' := 61) d_K_writeAll_60 rfl rfl ?_
      refine aw_get (pc' := 64) d_K_writeAll_61 rfl fl_K_32 hC_6 rfl ?_
      refine aw_iload_n (pc' := 65) d_K_writeAll_64 rfl rfl ?_
      refine aw_iload_n (pc' := 66) d_K_writeAll_65 rfl rfl ?_
      refine aw_isub (pc' := 67) d_K_writeAll_66 rfl ?_
      obtain ⟨g8, hf⟩ := aw_gi hf
      refine aw_iald (pc' := 68) d_K_writeAll_67 rfl rfl hC_10 g8 ?_
      refine aw_iconst (pc' := 69) d_K_writeAll_68 rfl kc_ic_1 ?_
      refine aw_iadd (pc' := 70) d_K_writeAll_69 rfl ?_
      exact aw_weak [true, true, false] rfl (wK_writeAll_70 hk10 _ _ _ _ hf)
    · replace hf := aw_ifp c7 hf
      refine aw_iconst (pc' := 57) d_K_writeAll_56 rfl kc_ic_0 ?_
      refine aw_goto (tgt := 70) d_K_writeAll_57 (by decide) ?_
      exact aw_weak [true, true, false] rfl (wK_writeAll_70 hk10 _ _ _ _ hf)
set_option maxRecDepth 20000 in
theorem wK_writeAll_10 {N : Nat} {n : Nat} {r0 : me_M} : ∀ (F : Nat) (l1 : Int32) (μ : me_M) (hf : fK_writeAll_10 N n F l1 μ = some r0), AW "ArcTape$Packer" "writeAll" c_K_writeAll 3 none 5 0 0 0 (aw_is none (hC n r0)) 10 [some (.ref 6), some (.int l1), none] [] (hC n μ) 0 0 := by
  intro F
  induction F with
  | zero => intro l1 μ hf; exact aw_no hf
  | succ F ih => intro l1 μ hf; exact wK_writeAll_10b ih l1 μ hf
set_option maxRecDepth 20000 in
theorem mK_writeAll {N : Nat} {n : Nat} {μ : me_M} {r0 : me_M} (hf : fK_writeAll N n μ = some r0) : AM y_K_writeAll c_K_writeAll 3 none 5 0 0 0 [.ref 6] (hC n μ) (aw_is none (hC n r0)) := by
  unfold fK_writeAll at hf
  refine AM.of (own := "ArcTape$Packer") (nm := "writeAll") (L := [some (.ref 6), none, none]) rfl rfl (by decide) (Nat.le_of_ble_eq_true rfl) rfl ?_
  refine aw_aload_n (pc' := 1) d_K_writeAll_0 rfl rfl ?_
  refine aw_get (pc' := 4) d_K_writeAll_1 rfl fl_K_28 hC_6 rfl ?_
  refine aw_iconst (pc' := 5) d_K_writeAll_4 rfl kc_ic_0 ?_
  refine aw_puti (pc' := 8) (h' := (hC n (me_wi μ 301 0 (0 : Int32)))) d_K_writeAll_5 rfl fp_K_35 hC_2 (Nat.le_of_ble_eq_true rfl) rfl ?_
  refine aw_iconst (pc' := 9) d_K_writeAll_8 rfl kc_ic_0 ?_
  refine aw_istore_n (pc' := 10) (L' := [some (.ref 6), some (.int (0 : Int32)), none]) d_K_writeAll_9 rfl (by decide) rfl ?_
  exact aw_weak [true, true, false] rfl (wK_writeAll_10 _ _ _ hf)
end
