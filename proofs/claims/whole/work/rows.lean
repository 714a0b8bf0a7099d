section
-- ===== PART A: goes FIRST, ahead of the names: the tables' words, and 'selects' of the private methods out of them =====
/-- a private method of a class that the tables say can be made, by its rows of tables_1 -/
def lw_okq (q : MethodName × Nat) : Prop := (q.1.cls ≠ "java/lang/invoke/MethodHandle" ∧ q.1.cls ≠ "java/lang/invoke/VarHandle") ∧ Cond.instantiable q.1.cls q.2 ∈ tables_1 ∧ Cond.privateMethod q.1 ∈ tables_1 ∧ Cond.instanceMethod q.1 ∈ tables_1
theorem lw_p0 : lw_okq (⟨"ArcTape$Packer", "bestReference", "(I)I"⟩, 7) := ⟨⟨by decide +kernel, by decide +kernel⟩, List.mem_of_getElem? (i := 84) (by decide +kernel), List.mem_of_getElem? (i := 221) (by decide +kernel), List.mem_of_getElem? (i := 222) (by decide +kernel)⟩
theorem lw_p1 : lw_okq (⟨"ArcTape$Packer", "mayBeReferredTo", "(I)Z"⟩, 7) := ⟨⟨by decide +kernel, by decide +kernel⟩, List.mem_of_getElem? (i := 84) (by decide +kernel), List.mem_of_getElem? (i := 226) (by decide +kernel), List.mem_of_getElem? (i := 227) (by decide +kernel)⟩
theorem lw_p2 : lw_okq (⟨"ArcTape$Packer", "writeRecord", "(II)V"⟩, 7) := ⟨⟨by decide +kernel, by decide +kernel⟩, List.mem_of_getElem? (i := 84) (by decide +kernel), List.mem_of_getElem? (i := 230) (by decide +kernel), List.mem_of_getElem? (i := 231) (by decide +kernel)⟩
theorem lw_p3 : lw_okq (⟨"ArcTape$Packer", "writeRuns", "(II)V"⟩, 7) := ⟨⟨by decide +kernel, by decide +kernel⟩, List.mem_of_getElem? (i := 84) (by decide +kernel), List.mem_of_getElem? (i := 255) (by decide +kernel), List.mem_of_getElem? (i := 256) (by decide +kernel)⟩
theorem lw_p4 : lw_okq (⟨"ArcTape$Packer", "writeIntervals", "(II)I"⟩, 7) := ⟨⟨by decide +kernel, by decide +kernel⟩, List.mem_of_getElem? (i := 84) (by decide +kernel), List.mem_of_getElem? (i := 262) (by decide +kernel), List.mem_of_getElem? (i := 263) (by decide +kernel)⟩
theorem lw_p5 : lw_okq (⟨"ArcTape$Packer", "rowLength", "(II)I"⟩, 7) := ⟨⟨by decide +kernel, by decide +kernel⟩, List.mem_of_getElem? (i := 84) (by decide +kernel), List.mem_of_getElem? (i := 266) (by decide +kernel), List.mem_of_getElem? (i := 267) (by decide +kernel)⟩
theorem lw_p6 : lw_okq (⟨"ArcTape$Packer", "writeSingles", "(II)V"⟩, 7) := ⟨⟨by decide +kernel, by decide +kernel⟩, List.mem_of_getElem? (i := 84) (by decide +kernel), List.mem_of_getElem? (i := 273) (by decide +kernel), List.mem_of_getElem? (i := 274) (by decide +kernel)⟩
theorem lw_p7 : lw_okq (⟨"ArcTape$Reader", "readRecord", "()V"⟩, 14) := ⟨⟨by decide +kernel, by decide +kernel⟩, List.mem_of_getElem? (i := 112) (by decide +kernel), List.mem_of_getElem? (i := 285) (by decide +kernel), List.mem_of_getElem? (i := 286) (by decide +kernel)⟩
theorem lw_p8 : lw_okq (⟨"ArcTape$Reader", "nextGamma", "()I"⟩, 14) := ⟨⟨by decide +kernel, by decide +kernel⟩, List.mem_of_getElem? (i := 112) (by decide +kernel), List.mem_of_getElem? (i := 289) (by decide +kernel), List.mem_of_getElem? (i := 290) (by decide +kernel)⟩
theorem lw_p9 : lw_okq (⟨"ArcTape$Reader", "nextUnary", "()I"⟩, 14) := ⟨⟨by decide +kernel, by decide +kernel⟩, List.mem_of_getElem? (i := 112) (by decide +kernel), List.mem_of_getElem? (i := 293) (by decide +kernel), List.mem_of_getElem? (i := 294) (by decide +kernel)⟩
theorem lw_p10 : lw_okq (⟨"ArcTape$Reader", "nextBit", "()I"⟩, 14) := ⟨⟨by decide +kernel, by decide +kernel⟩, List.mem_of_getElem? (i := 112) (by decide +kernel), List.mem_of_getElem? (i := 297) (by decide +kernel), List.mem_of_getElem? (i := 298) (by decide +kernel)⟩
theorem lw_p11 : lw_okq (⟨"ArcTape$Reader", "failIf", "(ZI)V"⟩, 14) := ⟨⟨by decide +kernel, by decide +kernel⟩, List.mem_of_getElem? (i := 112) (by decide +kernel), List.mem_of_getElem? (i := 301) (by decide +kernel), List.mem_of_getElem? (i := 302) (by decide +kernel)⟩
theorem lw_p12 : lw_okq (⟨"ArcTape$Reader", "nextNumber", "(II)I"⟩, 14) := ⟨⟨by decide +kernel, by decide +kernel⟩, List.mem_of_getElem? (i := 112) (by decide +kernel), List.mem_of_getElem? (i := 305) (by decide +kernel), List.mem_of_getElem? (i := 306) (by decide +kernel)⟩
theorem lw_p13 : lw_okq (⟨"ArcTape$Reader", "goesOn", "()Z"⟩, 14) := ⟨⟨by decide +kernel, by decide +kernel⟩, List.mem_of_getElem? (i := 112) (by decide +kernel), List.mem_of_getElem? (i := 309) (by decide +kernel), List.mem_of_getElem? (i := 310) (by decide +kernel)⟩
theorem lw_p14 : lw_okq (⟨"ArcTape$Reader", "readReference", "()V"⟩, 14) := ⟨⟨by decide +kernel, by decide +kernel⟩, List.mem_of_getElem? (i := 112) (by decide +kernel), List.mem_of_getElem? (i := 313) (by decide +kernel), List.mem_of_getElem? (i := 314) (by decide +kernel)⟩
theorem lw_p15 : lw_okq (⟨"ArcTape$Reader", "readRuns", "(I)V"⟩, 14) := ⟨⟨by decide +kernel, by decide +kernel⟩, List.mem_of_getElem? (i := 112) (by decide +kernel), List.mem_of_getElem? (i := 317) (by decide +kernel), List.mem_of_getElem? (i := 318) (by decide +kernel)⟩
def lw_privs_1 : List (MethodName × Nat) := [(⟨"ArcTape$Packer", "bestReference", "(I)I"⟩, 7), (⟨"ArcTape$Packer", "mayBeReferredTo", "(I)Z"⟩, 7), (⟨"ArcTape$Packer", "writeRecord", "(II)V"⟩, 7), (⟨"ArcTape$Packer", "writeRuns", "(II)V"⟩, 7), (⟨"ArcTape$Packer", "writeIntervals", "(II)I"⟩, 7), (⟨"ArcTape$Packer", "rowLength", "(II)I"⟩, 7), (⟨"ArcTape$Packer", "writeSingles", "(II)V"⟩, 7), (⟨"ArcTape$Reader", "readRecord", "()V"⟩, 14), (⟨"ArcTape$Reader", "nextGamma", "()I"⟩, 14), (⟨"ArcTape$Reader", "nextUnary", "()I"⟩, 14), (⟨"ArcTape$Reader", "nextBit", "()I"⟩, 14), (⟨"ArcTape$Reader", "failIf", "(ZI)V"⟩, 14), (⟨"ArcTape$Reader", "nextNumber", "(II)I"⟩, 14), (⟨"ArcTape$Reader", "goesOn", "()Z"⟩, 14), (⟨"ArcTape$Reader", "readReference", "()V"⟩, 14), (⟨"ArcTape$Reader", "readRuns", "(I)V"⟩, 14)]
theorem lw_r1 : ∀ q ∈ lw_privs_1, lw_okq q := List.forall_mem_cons.mpr ⟨lw_p0, List.forall_mem_cons.mpr ⟨lw_p1, List.forall_mem_cons.mpr ⟨lw_p2, List.forall_mem_cons.mpr ⟨lw_p3, List.forall_mem_cons.mpr ⟨lw_p4, List.forall_mem_cons.mpr ⟨lw_p5, List.forall_mem_cons.mpr ⟨lw_p6, List.forall_mem_cons.mpr ⟨lw_p7, List.forall_mem_cons.mpr ⟨lw_p8, List.forall_mem_cons.mpr ⟨lw_p9, List.forall_mem_cons.mpr ⟨lw_p10, List.forall_mem_cons.mpr ⟨lw_p11, List.forall_mem_cons.mpr ⟨lw_p12, List.forall_mem_cons.mpr ⟨lw_p13, List.forall_mem_cons.mpr ⟨lw_p14, List.forall_mem_cons.mpr ⟨lw_p15, fun _ h => absurd h List.not_mem_nil⟩⟩⟩⟩⟩⟩⟩⟩⟩⟩⟩⟩⟩⟩⟩⟩
theorem lw_p16 : lw_okq (⟨"ArcTape$Reader", "take", "(I)V"⟩, 14) := ⟨⟨by decide +kernel, by decide +kernel⟩, List.mem_of_getElem? (i := 112) (by decide +kernel), List.mem_of_getElem? (i := 325) (by decide +kernel), List.mem_of_getElem? (i := 326) (by decide +kernel)⟩
theorem lw_p17 : lw_okq (⟨"ArcTape$Reader", "readIntervals", "()V"⟩, 14) := ⟨⟨by decide +kernel, by decide +kernel⟩, List.mem_of_getElem? (i := 112) (by decide +kernel), List.mem_of_getElem? (i := 329) (by decide +kernel), List.mem_of_getElem? (i := 330) (by decide +kernel)⟩
theorem lw_p18 : lw_okq (⟨"ArcTape$Reader", "readSingles", "()V"⟩, 14) := ⟨⟨by decide +kernel, by decide +kernel⟩, List.mem_of_getElem? (i := 112) (by decide +kernel), List.mem_of_getElem? (i := 339) (by decide +kernel), List.mem_of_getElem? (i := 340) (by decide +kernel)⟩
theorem lw_p19 : lw_okq (⟨"ArcTape$Reader", "nextZeta", "()I"⟩, 14) := ⟨⟨by decide +kernel, by decide +kernel⟩, List.mem_of_getElem? (i := 112) (by decide +kernel), List.mem_of_getElem? (i := 343) (by decide +kernel), List.mem_of_getElem? (i := 344) (by decide +kernel)⟩
theorem lw_p20 : lw_okq (⟨"ArcTape", "isNode", "(I)Z"⟩, 8) := ⟨⟨by decide +kernel, by decide +kernel⟩, List.mem_of_getElem? (i := 13) (by decide +kernel), List.mem_of_getElem? (i := 385) (by decide +kernel), List.mem_of_getElem? (i := 386) (by decide +kernel)⟩
theorem lw_p21 : lw_okq (⟨"ArcTape", "isPlace", "(I)Z"⟩, 8) := ⟨⟨by decide +kernel, by decide +kernel⟩, List.mem_of_getElem? (i := 13) (by decide +kernel), List.mem_of_getElem? (i := 407) (by decide +kernel), List.mem_of_getElem? (i := 408) (by decide +kernel)⟩
theorem lw_p22 : lw_okq (⟨"ArcTape$Parts", "findReached", "()V"⟩, 3) := ⟨⟨by decide +kernel, by decide +kernel⟩, List.mem_of_getElem? (i := 164) (by decide +kernel), List.mem_of_getElem? (i := 436) (by decide +kernel), List.mem_of_getElem? (i := 437) (by decide +kernel)⟩
theorem lw_p23 : lw_okq (⟨"ArcTape$Parts", "nextReady", "(I)I"⟩, 3) := ⟨⟨by decide +kernel, by decide +kernel⟩, List.mem_of_getElem? (i := 164) (by decide +kernel), List.mem_of_getElem? (i := 441) (by decide +kernel), List.mem_of_getElem? (i := 442) (by decide +kernel)⟩
theorem lw_p24 : lw_okq (⟨"ArcTape$Parts", "partOf", "(I)I"⟩, 3) := ⟨⟨by decide +kernel, by decide +kernel⟩, List.mem_of_getElem? (i := 164) (by decide +kernel), List.mem_of_getElem? (i := 445) (by decide +kernel), List.mem_of_getElem? (i := 446) (by decide +kernel)⟩
theorem lw_p25 : lw_okq (⟨"ArcTape$Scores", "stepOnce", "()V"⟩, 8) := ⟨⟨by decide +kernel, by decide +kernel⟩, List.mem_of_getElem? (i := 181) (by decide +kernel), List.mem_of_getElem? (i := 473) (by decide +kernel), List.mem_of_getElem? (i := 474) (by decide +kernel)⟩
theorem lw_p26 : lw_okq (⟨"ArcTape$Scores", "stepByRank", "()V"⟩, 8) := ⟨⟨by decide +kernel, by decide +kernel⟩, List.mem_of_getElem? (i := 181) (by decide +kernel), List.mem_of_getElem? (i := 480) (by decide +kernel), List.mem_of_getElem? (i := 481) (by decide +kernel)⟩
theorem lw_p27 : lw_okq (⟨"ArcTape$Scores", "linksFrom", "(I)I"⟩, 8) := ⟨⟨by decide +kernel, by decide +kernel⟩, List.mem_of_getElem? (i := 181) (by decide +kernel), List.mem_of_getElem? (i := 486) (by decide +kernel), List.mem_of_getElem? (i := 487) (by decide +kernel)⟩
theorem lw_p28 : lw_okq (⟨"ArcTape$Scores", "stepByGreatest", "()V"⟩, 8) := ⟨⟨by decide +kernel, by decide +kernel⟩, List.mem_of_getElem? (i := 181) (by decide +kernel), List.mem_of_getElem? (i := 493) (by decide +kernel), List.mem_of_getElem? (i := 494) (by decide +kernel)⟩
theorem lw_p29 : lw_okq (⟨"ArcTape$Scores", "stepByShares", "()V"⟩, 8) := ⟨⟨by decide +kernel, by decide +kernel⟩, List.mem_of_getElem? (i := 181) (by decide +kernel), List.mem_of_getElem? (i := 503) (by decide +kernel), List.mem_of_getElem? (i := 504) (by decide +kernel)⟩
theorem lw_p30 : lw_okq (⟨"ArcTape$Scores", "linksTo", "(I)I"⟩, 8) := ⟨⟨by decide +kernel, by decide +kernel⟩, List.mem_of_getElem? (i := 181) (by decide +kernel), List.mem_of_getElem? (i := 507) (by decide +kernel), List.mem_of_getElem? (i := 508) (by decide +kernel)⟩
theorem lw_p31 : lw_okq (⟨"ArcTapeModel", "putRecord", "(II)V"⟩, 29) := ⟨⟨by decide +kernel, by decide +kernel⟩, List.mem_of_getElem? (i := 538) (by decide +kernel), List.mem_of_getElem? (i := 549) (by decide +kernel), List.mem_of_getElem? (i := 550) (by decide +kernel)⟩
def lw_privs_2 : List (MethodName × Nat) := [(⟨"ArcTape$Reader", "take", "(I)V"⟩, 14), (⟨"ArcTape$Reader", "readIntervals", "()V"⟩, 14), (⟨"ArcTape$Reader", "readSingles", "()V"⟩, 14), (⟨"ArcTape$Reader", "nextZeta", "()I"⟩, 14), (⟨"ArcTape", "isNode", "(I)Z"⟩, 8), (⟨"ArcTape", "isPlace", "(I)Z"⟩, 8), (⟨"ArcTape$Parts", "findReached", "()V"⟩, 3), (⟨"ArcTape$Parts", "nextReady", "(I)I"⟩, 3), (⟨"ArcTape$Parts", "partOf", "(I)I"⟩, 3), (⟨"ArcTape$Scores", "stepOnce", "()V"⟩, 8), (⟨"ArcTape$Scores", "stepByRank", "()V"⟩, 8), (⟨"ArcTape$Scores", "linksFrom", "(I)I"⟩, 8), (⟨"ArcTape$Scores", "stepByGreatest", "()V"⟩, 8), (⟨"ArcTape$Scores", "stepByShares", "()V"⟩, 8), (⟨"ArcTape$Scores", "linksTo", "(I)I"⟩, 8), (⟨"ArcTapeModel", "putRecord", "(II)V"⟩, 29)]
theorem lw_r2 : ∀ q ∈ lw_privs_2, lw_okq q := List.forall_mem_cons.mpr ⟨lw_p16, List.forall_mem_cons.mpr ⟨lw_p17, List.forall_mem_cons.mpr ⟨lw_p18, List.forall_mem_cons.mpr ⟨lw_p19, List.forall_mem_cons.mpr ⟨lw_p20, List.forall_mem_cons.mpr ⟨lw_p21, List.forall_mem_cons.mpr ⟨lw_p22, List.forall_mem_cons.mpr ⟨lw_p23, List.forall_mem_cons.mpr ⟨lw_p24, List.forall_mem_cons.mpr ⟨lw_p25, List.forall_mem_cons.mpr ⟨lw_p26, List.forall_mem_cons.mpr ⟨lw_p27, List.forall_mem_cons.mpr ⟨lw_p28, List.forall_mem_cons.mpr ⟨lw_p29, List.forall_mem_cons.mpr ⟨lw_p30, List.forall_mem_cons.mpr ⟨lw_p31, fun _ h => absurd h List.not_mem_nil⟩⟩⟩⟩⟩⟩⟩⟩⟩⟩⟩⟩⟩⟩⟩⟩
theorem lw_p32 : lw_okq (⟨"ArcTapeModel", "putGamma", "(I)V"⟩, 29) := ⟨⟨by decide +kernel, by decide +kernel⟩, List.mem_of_getElem? (i := 538) (by decide +kernel), List.mem_of_getElem? (i := 556) (by decide +kernel), List.mem_of_getElem? (i := 557) (by decide +kernel)⟩
theorem lw_p33 : lw_okq (⟨"ArcTapeModel", "putUnary", "(I)V"⟩, 29) := ⟨⟨by decide +kernel, by decide +kernel⟩, List.mem_of_getElem? (i := 538) (by decide +kernel), List.mem_of_getElem? (i := 560) (by decide +kernel), List.mem_of_getElem? (i := 561) (by decide +kernel)⟩
theorem lw_p34 : lw_okq (⟨"ArcTapeModel", "put", "(I)V"⟩, 29) := ⟨⟨by decide +kernel, by decide +kernel⟩, List.mem_of_getElem? (i := 538) (by decide +kernel), List.mem_of_getElem? (i := 564) (by decide +kernel), List.mem_of_getElem? (i := 565) (by decide +kernel)⟩
theorem lw_p35 : lw_okq (⟨"ArcTapeModel", "putNumber", "(II)V"⟩, 29) := ⟨⟨by decide +kernel, by decide +kernel⟩, List.mem_of_getElem? (i := 538) (by decide +kernel), List.mem_of_getElem? (i := 568) (by decide +kernel), List.mem_of_getElem? (i := 569) (by decide +kernel)⟩
theorem lw_p36 : lw_okq (⟨"ArcTapeModel", "putRuns", "(II)V"⟩, 29) := ⟨⟨by decide +kernel, by decide +kernel⟩, List.mem_of_getElem? (i := 538) (by decide +kernel), List.mem_of_getElem? (i := 572) (by decide +kernel), List.mem_of_getElem? (i := 573) (by decide +kernel)⟩
theorem lw_p37 : lw_okq (⟨"ArcTapeModel", "putRest", "(II)V"⟩, 29) := ⟨⟨by decide +kernel, by decide +kernel⟩, List.mem_of_getElem? (i := 538) (by decide +kernel), List.mem_of_getElem? (i := 576) (by decide +kernel), List.mem_of_getElem? (i := 577) (by decide +kernel)⟩
theorem lw_p38 : lw_okq (⟨"ArcTapeModel", "rowAt", "(II)I"⟩, 29) := ⟨⟨by decide +kernel, by decide +kernel⟩, List.mem_of_getElem? (i := 538) (by decide +kernel), List.mem_of_getElem? (i := 580) (by decide +kernel), List.mem_of_getElem? (i := 581) (by decide +kernel)⟩
theorem lw_p39 : lw_okq (⟨"ArcTapeModel", "putZeta", "(I)V"⟩, 29) := ⟨⟨by decide +kernel, by decide +kernel⟩, List.mem_of_getElem? (i := 538) (by decide +kernel), List.mem_of_getElem? (i := 587) (by decide +kernel), List.mem_of_getElem? (i := 588) (by decide +kernel)⟩
theorem lw_p40 : lw_okq (⟨"ArcTapeModel", "node", "(I)Z"⟩, 29) := ⟨⟨by decide +kernel, by decide +kernel⟩, List.mem_of_getElem? (i := 538) (by decide +kernel), List.mem_of_getElem? (i := 689) (by decide +kernel), List.mem_of_getElem? (i := 690) (by decide +kernel)⟩
theorem lw_p41 : lw_okq (⟨"ArcTapeModel", "read", "()V"⟩, 29) := ⟨⟨by decide +kernel, by decide +kernel⟩, List.mem_of_getElem? (i := 538) (by decide +kernel), List.mem_of_getElem? (i := 714) (by decide +kernel), List.mem_of_getElem? (i := 715) (by decide +kernel)⟩
theorem lw_p42 : lw_okq (⟨"ArcTapeModel", "nextGamma", "()I"⟩, 29) := ⟨⟨by decide +kernel, by decide +kernel⟩, List.mem_of_getElem? (i := 538) (by decide +kernel), List.mem_of_getElem? (i := 718) (by decide +kernel), List.mem_of_getElem? (i := 719) (by decide +kernel)⟩
theorem lw_p43 : lw_okq (⟨"ArcTapeModel", "nextUnary", "()I"⟩, 29) := ⟨⟨by decide +kernel, by decide +kernel⟩, List.mem_of_getElem? (i := 538) (by decide +kernel), List.mem_of_getElem? (i := 722) (by decide +kernel), List.mem_of_getElem? (i := 723) (by decide +kernel)⟩
theorem lw_p44 : lw_okq (⟨"ArcTapeModel", "next", "()I"⟩, 29) := ⟨⟨by decide +kernel, by decide +kernel⟩, List.mem_of_getElem? (i := 538) (by decide +kernel), List.mem_of_getElem? (i := 726) (by decide +kernel), List.mem_of_getElem? (i := 727) (by decide +kernel)⟩
theorem lw_p45 : lw_okq (⟨"ArcTapeModel", "nextNumber", "(I)I"⟩, 29) := ⟨⟨by decide +kernel, by decide +kernel⟩, List.mem_of_getElem? (i := 538) (by decide +kernel), List.mem_of_getElem? (i := 730) (by decide +kernel), List.mem_of_getElem? (i := 731) (by decide +kernel)⟩
theorem lw_p46 : lw_okq (⟨"ArcTapeModel", "readParts", "(II)V"⟩, 29) := ⟨⟨by decide +kernel, by decide +kernel⟩, List.mem_of_getElem? (i := 538) (by decide +kernel), List.mem_of_getElem? (i := 734) (by decide +kernel), List.mem_of_getElem? (i := 735) (by decide +kernel)⟩
theorem lw_p47 : lw_okq (⟨"ArcTapeModel", "readRuns", "(II)V"⟩, 29) := ⟨⟨by decide +kernel, by decide +kernel⟩, List.mem_of_getElem? (i := 538) (by decide +kernel), List.mem_of_getElem? (i := 738) (by decide +kernel), List.mem_of_getElem? (i := 739) (by decide +kernel)⟩
def lw_privs_3 : List (MethodName × Nat) := [(⟨"ArcTapeModel", "putGamma", "(I)V"⟩, 29), (⟨"ArcTapeModel", "putUnary", "(I)V"⟩, 29), (⟨"ArcTapeModel", "put", "(I)V"⟩, 29), (⟨"ArcTapeModel", "putNumber", "(II)V"⟩, 29), (⟨"ArcTapeModel", "putRuns", "(II)V"⟩, 29), (⟨"ArcTapeModel", "putRest", "(II)V"⟩, 29), (⟨"ArcTapeModel", "rowAt", "(II)I"⟩, 29), (⟨"ArcTapeModel", "putZeta", "(I)V"⟩, 29), (⟨"ArcTapeModel", "node", "(I)Z"⟩, 29), (⟨"ArcTapeModel", "read", "()V"⟩, 29), (⟨"ArcTapeModel", "nextGamma", "()I"⟩, 29), (⟨"ArcTapeModel", "nextUnary", "()I"⟩, 29), (⟨"ArcTapeModel", "next", "()I"⟩, 29), (⟨"ArcTapeModel", "nextNumber", "(I)I"⟩, 29), (⟨"ArcTapeModel", "readParts", "(II)V"⟩, 29), (⟨"ArcTapeModel", "readRuns", "(II)V"⟩, 29)]
theorem lw_r3 : ∀ q ∈ lw_privs_3, lw_okq q := List.forall_mem_cons.mpr ⟨lw_p32, List.forall_mem_cons.mpr ⟨lw_p33, List.forall_mem_cons.mpr ⟨lw_p34, List.forall_mem_cons.mpr ⟨lw_p35, List.forall_mem_cons.mpr ⟨lw_p36, List.forall_mem_cons.mpr ⟨lw_p37, List.forall_mem_cons.mpr ⟨lw_p38, List.forall_mem_cons.mpr ⟨lw_p39, List.forall_mem_cons.mpr ⟨lw_p40, List.forall_mem_cons.mpr ⟨lw_p41, List.forall_mem_cons.mpr ⟨lw_p42, List.forall_mem_cons.mpr ⟨lw_p43, List.forall_mem_cons.mpr ⟨lw_p44, List.forall_mem_cons.mpr ⟨lw_p45, List.forall_mem_cons.mpr ⟨lw_p46, List.forall_mem_cons.mpr ⟨lw_p47, fun _ h => absurd h List.not_mem_nil⟩⟩⟩⟩⟩⟩⟩⟩⟩⟩⟩⟩⟩⟩⟩⟩
theorem lw_p48 : lw_okq (⟨"ArcTapeModel", "copy", "(III)V"⟩, 29) := ⟨⟨by decide +kernel, by decide +kernel⟩, List.mem_of_getElem? (i := 538) (by decide +kernel), List.mem_of_getElem? (i := 742) (by decide +kernel), List.mem_of_getElem? (i := 743) (by decide +kernel)⟩
theorem lw_p49 : lw_okq (⟨"ArcTapeModel", "take", "(I)V"⟩, 29) := ⟨⟨by decide +kernel, by decide +kernel⟩, List.mem_of_getElem? (i := 538) (by decide +kernel), List.mem_of_getElem? (i := 746) (by decide +kernel), List.mem_of_getElem? (i := 747) (by decide +kernel)⟩
theorem lw_p50 : lw_okq (⟨"ArcTapeModel", "readIntervals", "(II)I"⟩, 29) := ⟨⟨by decide +kernel, by decide +kernel⟩, List.mem_of_getElem? (i := 538) (by decide +kernel), List.mem_of_getElem? (i := 750) (by decide +kernel), List.mem_of_getElem? (i := 751) (by decide +kernel)⟩
theorem lw_p51 : lw_okq (⟨"ArcTapeModel", "nextZeta", "()I"⟩, 29) := ⟨⟨by decide +kernel, by decide +kernel⟩, List.mem_of_getElem? (i := 538) (by decide +kernel), List.mem_of_getElem? (i := 757) (by decide +kernel), List.mem_of_getElem? (i := 758) (by decide +kernel)⟩
theorem lw_p52 : lw_okq (⟨"ArcTapeModel", "count", "()V"⟩, 29) := ⟨⟨by decide +kernel, by decide +kernel⟩, List.mem_of_getElem? (i := 538) (by decide +kernel), List.mem_of_getElem? (i := 773) (by decide +kernel), List.mem_of_getElem? (i := 774) (by decide +kernel)⟩
theorem lw_p53 : lw_okq (⟨"ArcTapeModel", "firstReady", "(I)I"⟩, 29) := ⟨⟨by decide +kernel, by decide +kernel⟩, List.mem_of_getElem? (i := 538) (by decide +kernel), List.mem_of_getElem? (i := 777) (by decide +kernel), List.mem_of_getElem? (i := 778) (by decide +kernel)⟩
theorem lw_p54 : lw_okq (⟨"ArcTapeModel", "together", "(I)I"⟩, 29) := ⟨⟨by decide +kernel, by decide +kernel⟩, List.mem_of_getElem? (i := 538) (by decide +kernel), List.mem_of_getElem? (i := 781) (by decide +kernel), List.mem_of_getElem? (i := 782) (by decide +kernel)⟩
theorem lw_p55 : lw_okq (⟨"ArcTapeModel", "total", "()I"⟩, 29) := ⟨⟨by decide +kernel, by decide +kernel⟩, List.mem_of_getElem? (i := 538) (by decide +kernel), List.mem_of_getElem? (i := 793) (by decide +kernel), List.mem_of_getElem? (i := 794) (by decide +kernel)⟩
theorem lw_p56 : lw_okq (⟨"ArcTapeModel", "stepRank", "()V"⟩, 29) := ⟨⟨by decide +kernel, by decide +kernel⟩, List.mem_of_getElem? (i := 538) (by decide +kernel), List.mem_of_getElem? (i := 802) (by decide +kernel), List.mem_of_getElem? (i := 803) (by decide +kernel)⟩
theorem lw_p57 : lw_okq (⟨"ArcTapeModel", "links", "(II)Z"⟩, 29) := ⟨⟨by decide +kernel, by decide +kernel⟩, List.mem_of_getElem? (i := 538) (by decide +kernel), List.mem_of_getElem? (i := 806) (by decide +kernel), List.mem_of_getElem? (i := 807) (by decide +kernel)⟩
theorem lw_p58 : lw_okq (⟨"ArcTapeModel", "stepHubs", "()V"⟩, 29) := ⟨⟨by decide +kernel, by decide +kernel⟩, List.mem_of_getElem? (i := 538) (by decide +kernel), List.mem_of_getElem? (i := 812) (by decide +kernel), List.mem_of_getElem? (i := 813) (by decide +kernel)⟩
theorem lw_p59 : lw_okq (⟨"ArcTapeModel", "bring", "(Z)V"⟩, 29) := ⟨⟨by decide +kernel, by decide +kernel⟩, List.mem_of_getElem? (i := 538) (by decide +kernel), List.mem_of_getElem? (i := 816) (by decide +kernel), List.mem_of_getElem? (i := 817) (by decide +kernel)⟩
theorem lw_p60 : lw_okq (⟨"ArcTapeModel", "stepShares", "()V"⟩, 29) := ⟨⟨by decide +kernel, by decide +kernel⟩, List.mem_of_getElem? (i := 538) (by decide +kernel), List.mem_of_getElem? (i := 820) (by decide +kernel), List.mem_of_getElem? (i := 821) (by decide +kernel)⟩
theorem lw_p61 : lw_okq (⟨"ArcTapeModel", "into", "(I)I"⟩, 29) := ⟨⟨by decide +kernel, by decide +kernel⟩, List.mem_of_getElem? (i := 538) (by decide +kernel), List.mem_of_getElem? (i := 824) (by decide +kernel), List.mem_of_getElem? (i := 825) (by decide +kernel)⟩
def lw_privs_4 : List (MethodName × Nat) := [(⟨"ArcTapeModel", "copy", "(III)V"⟩, 29), (⟨"ArcTapeModel", "take", "(I)V"⟩, 29), (⟨"ArcTapeModel", "readIntervals", "(II)I"⟩, 29), (⟨"ArcTapeModel", "nextZeta", "()I"⟩, 29), (⟨"ArcTapeModel", "count", "()V"⟩, 29), (⟨"ArcTapeModel", "firstReady", "(I)I"⟩, 29), (⟨"ArcTapeModel", "together", "(I)I"⟩, 29), (⟨"ArcTapeModel", "total", "()I"⟩, 29), (⟨"ArcTapeModel", "stepRank", "()V"⟩, 29), (⟨"ArcTapeModel", "links", "(II)Z"⟩, 29), (⟨"ArcTapeModel", "stepHubs", "()V"⟩, 29), (⟨"ArcTapeModel", "bring", "(Z)V"⟩, 29), (⟨"ArcTapeModel", "stepShares", "()V"⟩, 29), (⟨"ArcTapeModel", "into", "(I)I"⟩, 29)]
theorem lw_r4 : ∀ q ∈ lw_privs_4, lw_okq q := List.forall_mem_cons.mpr ⟨lw_p48, List.forall_mem_cons.mpr ⟨lw_p49, List.forall_mem_cons.mpr ⟨lw_p50, List.forall_mem_cons.mpr ⟨lw_p51, List.forall_mem_cons.mpr ⟨lw_p52, List.forall_mem_cons.mpr ⟨lw_p53, List.forall_mem_cons.mpr ⟨lw_p54, List.forall_mem_cons.mpr ⟨lw_p55, List.forall_mem_cons.mpr ⟨lw_p56, List.forall_mem_cons.mpr ⟨lw_p57, List.forall_mem_cons.mpr ⟨lw_p58, List.forall_mem_cons.mpr ⟨lw_p59, List.forall_mem_cons.mpr ⟨lw_p60, List.forall_mem_cons.mpr ⟨lw_p61, fun _ h => absurd h List.not_mem_nil⟩⟩⟩⟩⟩⟩⟩⟩⟩⟩⟩⟩⟩⟩
def lw_privs : List (MethodName × Nat) := lw_privs_1 ++ (lw_privs_2 ++ (lw_privs_3 ++ (lw_privs_4)))
def lw_tbl : List Cond := k2_sels lw_privs ++ tables_1
theorem lw_privs_ok : ∀ q ∈ lw_privs, lw_okq q := by
  show ∀ q ∈ lw_privs_1 ++ (lw_privs_2 ++ (lw_privs_3 ++ (lw_privs_4))), lw_okq q
  exact List.forall_mem_append.mpr ⟨lw_r1, List.forall_mem_append.mpr ⟨lw_r2, List.forall_mem_append.mpr ⟨lw_r3, lw_r4⟩⟩⟩
-- ===== end of PART A; then your names; then what follows =====
end
section
/- a memory: ints and longs by component and place -/
abbrev me_M : Type := (Nat → Nat → Int32) × (Nat → Nat → Int64)
def me_wi (μ : me_M) (c i : Nat) (x : Int32) : me_M := (fun c' => bif Nat.beq c' c then upd (μ.1 c) i x else μ.1 c', μ.2)
def me_wl (μ : me_M) (c i : Nat) (x : Int64) : me_M := (μ.1, fun c' => bif Nat.beq c' c then vp_updL (μ.2 c) i x else μ.2 c')
def me_cp (μ : me_M) (a c sp dp n : Nat) : me_M := (μ.1, fun c' => bif Nat.beq c' c then va_cpy (μ.2 a) (μ.2 c) sp dp n else μ.2 c')
/- guards: an index in its bounds, no division by zero, a truth value, a copy in its bounds -/
def me_gi {α : Type} (i : Int32) (n : Nat) (k : Option α) : Option α := if i < 0 ∨ n ≤ i.toNatClampNeg then none else k
def me_gd {α β : Type} [DecidableEq β] (y z : β) (k : Option α) : Option α := if y = z then none else k
def me_gz {α : Type} (x : Int32) (k : Option α) : Option α := if x = 0 ∨ x = 1 then k else none
def me_gc {α : Type} (sp dp ln : Int32) (n0 n1 : Nat) (k : Option α) : Option α := if ¬ sp < 0 ∧ ¬ dp < 0 ∧ ¬ ln < 0 ∧ sp.toNatClampNeg + ln.toNatClampNeg ≤ n0 ∧ dp.toNatClampNeg + ln.toNatClampNeg ≤ n1 then k else none
end
section
/- names: the classes' fields, the methods, the words of the tables -/
def ft_Y : u_T := fun k => match k with
  | 0 => ("ArcTape$Layout", "window", "I", false)
  | 1 => ("ArcTape$Layout", "chain", "I", false)
  | 2 => ("ArcTape$Layout", "least", "I", false)
  | 3 => ("ArcTape$Layout", "k", "I", false)
  | _ => ("ArcTape$Layout", "offsets", "[I", true)
def ty_Y : Nat → FieldType := fun k => match k with
  | 0 => .int
  | 1 => .int
  | 2 => .int
  | 3 => .int
  | _ => .array .int
def ft_K : u_T := fun k => match k with
  | 0 => ("ArcTape$Packer", "draft", "[I", true)
  | 1 => ("ArcTape$Packer", "layout", "LArcTape$Layout;", true)
  | 2 => ("ArcTape$Packer", "tape", "LArcTape$Tape;", true)
  | 3 => ("ArcTape$Packer", "depths", "[I", true)
  | 4 => ("ArcTape$Packer", "runs", "[I", true)
  | 5 => ("ArcTape$Packer", "firsts", "[I", true)
  | _ => ("ArcTape$Packer", "lengths", "[I", true)
def ty_K : Nat → FieldType := fun k => match k with
  | 0 => .array .int
  | 1 => .object "ArcTape$Layout"
  | 2 => .object "ArcTape$Tape"
  | 3 => .array .int
  | 4 => .array .int
  | 5 => .array .int
  | _ => .array .int
def ft_S : u_T := fun k => match k with
  | 0 => ("ArcTape$Parts", "numbers", "[I", true)
  | 1 => ("ArcTape$Parts", "lists", "[I", true)
  | _ => ("ArcTape$Parts", "reached", "[I", true)
def ty_S : Nat → FieldType := fun k => match k with
  | 0 => .array .int
  | 1 => .array .int
  | _ => .array .int
def ft_D : u_T := fun k => match k with
  | 0 => ("ArcTape$Reader", "lists", "[I", true)
  | 1 => ("ArcTape$Reader", "faults", "[I", true)
  | 2 => ("ArcTape$Reader", "references", "[I", true)
  | 3 => ("ArcTape$Reader", "depths", "[I", true)
  | 4 => ("ArcTape$Reader", "n", "I", true)
  | 5 => ("ArcTape$Reader", "layout", "LArcTape$Layout;", true)
  | 6 => ("ArcTape$Reader", "tape", "LArcTape$Tape;", true)
  | 7 => ("ArcTape$Reader", "node", "I", false)
  | 8 => ("ArcTape$Reader", "place", "I", false)
  | 9 => ("ArcTape$Reader", "fault", "I", false)
  | 10 => ("ArcTape$Reader", "reference", "I", false)
  | 11 => ("ArcTape$Reader", "list", "I", false)
  | 12 => ("ArcTape$Reader", "due", "I", false)
  | _ => ("ArcTape$Reader", "twice", "Z", false)
def ty_D : Nat → FieldType := fun k => match k with
  | 0 => .array .int
  | 1 => .array .int
  | 2 => .array .int
  | 3 => .array .int
  | 4 => .int
  | 5 => .object "ArcTape$Layout"
  | 6 => .object "ArcTape$Tape"
  | 7 => .int
  | 8 => .int
  | 9 => .int
  | 10 => .int
  | 11 => .int
  | 12 => .int
  | _ => .boolean
def ft_O : u_T := fun k => match k with
  | 0 => ("ArcTape$Scores", "scores", "[J", true)
  | 1 => ("ArcTape$Scores", "hubs", "[J", true)
  | 2 => ("ArcTape$Scores", "weights", "[I", true)
  | 3 => ("ArcTape$Scores", "moved", "J", false)
  | 4 => ("ArcTape$Scores", "lists", "[I", true)
  | 5 => ("ArcTape$Scores", "old", "[J", true)
  | 6 => ("ArcTape$Scores", "kind", "I", false)
  | _ => ("ArcTape$Scores", "damping", "I", false)
def ty_O : Nat → FieldType := fun k => match k with
  | 0 => .array .long
  | 1 => .array .long
  | 2 => .array .int
  | 3 => .long
  | 4 => .array .int
  | 5 => .array .long
  | 6 => .int
  | _ => .int
def ft_T : u_T := fun k => match k with
  | 0 => ("ArcTape$Tape", "bits", "[B", true)
  | _ => ("ArcTape$Tape", "length", "I", false)
def ty_T : Nat → FieldType := fun k => match k with
  | 0 => .array .byte
  | _ => .int
def ft_A : u_T := fun k => match k with
  | 0 => ("ArcTape", "n", "I", true)
  | 1 => ("ArcTape", "draft", "[I", true)
  | 2 => ("ArcTape", "tape", "LArcTape$Tape;", true)
  | 3 => ("ArcTape", "layout", "LArcTape$Layout;", true)
  | 4 => ("ArcTape", "packer", "LArcTape$Packer;", true)
  | 5 => ("ArcTape", "reader", "LArcTape$Reader;", true)
  | 6 => ("ArcTape", "parts", "LArcTape$Parts;", true)
  | _ => ("ArcTape", "scores", "LArcTape$Scores;", true)
def ty_A : Nat → FieldType := fun k => match k with
  | 0 => .int
  | 1 => .array .int
  | 2 => .object "ArcTape$Tape"
  | 3 => .object "ArcTape$Layout"
  | 4 => .object "ArcTape$Packer"
  | 5 => .object "ArcTape$Reader"
  | 6 => .object "ArcTape$Parts"
  | _ => .object "ArcTape$Scores"
def ft_M : u_T := fun k => match k with
  | 0 => ("ArcTapeModel", "n", "I", false)
  | 1 => ("ArcTapeModel", "draft", "[I", false)
  | 2 => ("ArcTapeModel", "bits", "[I", false)
  | 3 => ("ArcTapeModel", "length", "I", false)
  | 4 => ("ArcTapeModel", "offsets", "[I", false)
  | 5 => ("ArcTapeModel", "window", "I", false)
  | 6 => ("ArcTapeModel", "chain", "I", false)
  | 7 => ("ArcTapeModel", "least", "I", false)
  | 8 => ("ArcTapeModel", "zetaK", "I", false)
  | 9 => ("ArcTapeModel", "deepDraft", "[I", false)
  | 10 => ("ArcTapeModel", "runs", "[I", false)
  | 11 => ("ArcTapeModel", "at", "I", false)
  | 12 => ("ArcTapeModel", "wrong", "I", false)
  | 13 => ("ArcTapeModel", "taken", "I", false)
  | 14 => ("ArcTapeModel", "twice", "Z", false)
  | 15 => ("ArcTapeModel", "list", "[I", false)
  | 16 => ("ArcTapeModel", "fault", "[I", false)
  | 17 => ("ArcTapeModel", "refers", "[I", false)
  | 18 => ("ArcTapeModel", "deep", "[I", false)
  | 19 => ("ArcTapeModel", "weight", "[I", false)
  | 20 => ("ArcTapeModel", "kind", "I", false)
  | 21 => ("ArcTapeModel", "damping", "I", false)
  | 22 => ("ArcTapeModel", "scores", "[J", false)
  | 23 => ("ArcTapeModel", "hubs", "[J", false)
  | 24 => ("ArcTapeModel", "fresh", "[J", false)
  | 25 => ("ArcTapeModel", "moved", "J", false)
  | 26 => ("ArcTapeModel", "leads", "[I", false)
  | 27 => ("ArcTapeModel", "number", "[I", false)
  | _ => ("ArcTapeModel", "numbers", "I", false)
def ty_M : Nat → FieldType := fun k => match k with
  | 0 => .int
  | 1 => .array .int
  | 2 => .array .int
  | 3 => .int
  | 4 => .array .int
  | 5 => .int
  | 6 => .int
  | 7 => .int
  | 8 => .int
  | 9 => .array .int
  | 10 => .array .int
  | 11 => .int
  | 12 => .int
  | 13 => .int
  | 14 => .boolean
  | 15 => .array .int
  | 16 => .array .int
  | 17 => .array .int
  | 18 => .array .int
  | 19 => .array .int
  | 20 => .int
  | 21 => .int
  | 22 => .array .long
  | 23 => .array .long
  | 24 => .array .long
  | 25 => .long
  | 26 => .array .int
  | 27 => .array .int
  | _ => .int
abbrev vwCl : List vw_C := [("ArcTape$Layout", ft_Y, 5), ("ArcTape$Packer", ft_K, 7), ("ArcTape$Parts", ft_S, 3), ("ArcTape$Reader", ft_D, 14), ("ArcTape$Scores", ft_O, 8), ("ArcTape$Tape", ft_T, 2), ("ArcTape", ft_A, 8), ("ArcTapeModel", ft_M, 29)]
def tyTab : List FieldType := [.int, .byte, .long]
def wsAll : List Cond := lw_tbl.filter goodWord
theorem wsAll_good : wsAll.all goodWord = true := List.all_eq_true.mpr (fun w hw => (List.mem_filter.mp hw).2)
theorem wl_in {w : Cond} (i : Nat) (h : tables_1[i]? = some w) (g : goodWord w = true) : w ∈ wsAll := List.mem_filter.mpr ⟨List.mem_append_right _ (List.mem_of_getElem? h), g⟩
theorem wl_se {y : MethodName} {k : Nat} (i : Nat) (h : lw_privs[i]? = some (y, k)) (g : goodWord (Cond.selects y.cls y y) = true) : Cond.selects y.cls y y ∈ wsAll := List.mem_filter.mpr ⟨List.mem_append_left _ (List.mem_map.mpr ⟨(y, k), List.mem_of_getElem? h, rfl⟩), g⟩
abbrev c_T_init : ByteArray := prog_7_method_1_code
abbrev y_T_init : MethodName := ⟨"ArcTape$Tape", "<init>", "()V"⟩
abbrev c_T_putNumber : ByteArray := prog_7_method_2_code
abbrev y_T_putNumber : MethodName := ⟨"ArcTape$Tape", "putNumber", "(II)V"⟩
abbrev c_T_putUnary : ByteArray := prog_7_method_3_code
abbrev y_T_putUnary : MethodName := ⟨"ArcTape$Tape", "putUnary", "(I)V"⟩
abbrev c_T_putGamma : ByteArray := prog_7_method_4_code
abbrev y_T_putGamma : MethodName := ⟨"ArcTape$Tape", "putGamma", "(I)V"⟩
abbrev c_T_putZeta : ByteArray := prog_7_method_5_code
abbrev y_T_putZeta : MethodName := ⟨"ArcTape$Tape", "putZeta", "(II)V"⟩
abbrev c_T_exponent : ByteArray := prog_7_method_6_code
abbrev y_T_exponent : MethodName := ⟨"ArcTape$Tape", "exponent", "(I)I"⟩
abbrev c_T_withoutSign : ByteArray := prog_7_method_7_code
abbrev y_T_withoutSign : MethodName := ⟨"ArcTape$Tape", "withoutSign", "(I)I"⟩
abbrev c_T_withSign : ByteArray := prog_7_method_8_code
abbrev y_T_withSign : MethodName := ⟨"ArcTape$Tape", "withSign", "(I)I"⟩
abbrev c_A_init : ByteArray := prog_1_method_1_code
abbrev y_A_init : MethodName := ⟨"ArcTape", "<init>", "(I)V"⟩
abbrev c_A_add : ByteArray := prog_1_method_2_code
abbrev y_A_add : MethodName := ⟨"ArcTape", "add", "(II)Z"⟩
abbrev c_A_drop : ByteArray := prog_1_method_3_code
abbrev y_A_drop : MethodName := ⟨"ArcTape", "drop", "(II)Z"⟩
abbrev c_A_pack : ByteArray := prog_1_method_4_code
abbrev y_A_pack : MethodName := ⟨"ArcTape", "pack", "(IIII)I"⟩
abbrev c_A_offset : ByteArray := prog_1_method_5_code
abbrev y_A_offset : MethodName := ⟨"ArcTape", "offset", "(I)I"⟩
abbrev c_A_bit : ByteArray := prog_1_method_6_code
abbrev y_A_bit : MethodName := ⟨"ArcTape", "bit", "(I)I"⟩
abbrev c_A_flip : ByteArray := prog_1_method_7_code
abbrev y_A_flip : MethodName := ⟨"ArcTape", "flip", "(I)Z"⟩
abbrev c_A_degree : ByteArray := prog_1_method_8_code
abbrev y_A_degree : MethodName := ⟨"ArcTape", "degree", "(I)I"⟩
abbrev c_A_successor : ByteArray := prog_1_method_9_code
abbrev y_A_successor : MethodName := ⟨"ArcTape", "successor", "(II)I"⟩
abbrev c_A_reference : ByteArray := prog_1_method_10_code
abbrev y_A_reference : MethodName := ⟨"ArcTape", "reference", "(I)I"⟩
abbrev c_A_components : ByteArray := prog_1_method_11_code
abbrev y_A_components : MethodName := ⟨"ArcTape", "components", "()I"⟩
abbrev c_A_component : ByteArray := prog_1_method_12_code
abbrev y_A_component : MethodName := ⟨"ArcTape", "component", "(I)I"⟩
abbrev c_A_prefer : ByteArray := prog_1_method_13_code
abbrev y_A_prefer : MethodName := ⟨"ArcTape", "prefer", "(II)Z"⟩
abbrev c_A_start : ByteArray := prog_1_method_14_code
abbrev y_A_start : MethodName := ⟨"ArcTape", "start", "(II)Z"⟩
abbrev c_A_step : ByteArray := prog_1_method_15_code
abbrev y_A_step : MethodName := ⟨"ArcTape", "step", "(I)I"⟩
abbrev c_A_score : ByteArray := prog_1_method_16_code
abbrev y_A_score : MethodName := ⟨"ArcTape", "score", "(I)J"⟩
abbrev c_A_hub : ByteArray := prog_1_method_17_code
abbrev y_A_hub : MethodName := ⟨"ArcTape", "hub", "(I)J"⟩
abbrev c_A_top : ByteArray := prog_1_method_18_code
abbrev y_A_top : MethodName := ⟨"ArcTape", "top", "(I)I"⟩
abbrev c_A_change : ByteArray := prog_1_method_19_code
abbrev y_A_change : MethodName := ⟨"ArcTape", "change", "()J"⟩
abbrev c_A_isNode : ByteArray := prog_1_method_20_code
abbrev y_A_isNode : MethodName := ⟨"ArcTape", "isNode", "(I)Z"⟩
abbrev c_A_isPlace : ByteArray := prog_1_method_21_code
abbrev y_A_isPlace : MethodName := ⟨"ArcTape", "isPlace", "(I)Z"⟩
abbrev c_A_within : ByteArray := prog_1_method_22_code
abbrev y_A_within : MethodName := ⟨"ArcTape", "within", "(III)Z"⟩
abbrev c_A_holds : ByteArray := prog_1_method_23_code
abbrev y_A_holds : MethodName := ⟨"ArcTape", "holds", "(II)Z"⟩
abbrev c_K_init : ByteArray := prog_3_method_1_code
abbrev y_K_init : MethodName := ⟨"ArcTape$Packer", "<init>", "([ILArcTape$Layout;LArcTape$Tape;)V"⟩
abbrev c_K_writeAll : ByteArray := prog_3_method_2_code
abbrev y_K_writeAll : MethodName := ⟨"ArcTape$Packer", "writeAll", "()V"⟩
abbrev c_K_bestReference : ByteArray := prog_3_method_3_code
abbrev y_K_bestReference : MethodName := ⟨"ArcTape$Packer", "bestReference", "(I)I"⟩
abbrev c_K_mayBeReferredTo : ByteArray := prog_3_method_4_code
abbrev y_K_mayBeReferredTo : MethodName := ⟨"ArcTape$Packer", "mayBeReferredTo", "(I)Z"⟩
abbrev c_K_writeRecord : ByteArray := prog_3_method_5_code
abbrev y_K_writeRecord : MethodName := ⟨"ArcTape$Packer", "writeRecord", "(II)V"⟩
abbrev c_K_writeRuns : ByteArray := prog_3_method_6_code
abbrev y_K_writeRuns : MethodName := ⟨"ArcTape$Packer", "writeRuns", "(II)V"⟩
abbrev c_K_writeIntervals : ByteArray := prog_3_method_7_code
abbrev y_K_writeIntervals : MethodName := ⟨"ArcTape$Packer", "writeIntervals", "(II)I"⟩
abbrev c_K_rowLength : ByteArray := prog_3_method_8_code
abbrev y_K_rowLength : MethodName := ⟨"ArcTape$Packer", "rowLength", "(II)I"⟩
abbrev c_K_writeSingles : ByteArray := prog_3_method_9_code
abbrev y_K_writeSingles : MethodName := ⟨"ArcTape$Packer", "writeSingles", "(II)V"⟩
abbrev c_O_init : ByteArray := prog_6_method_1_code
abbrev y_O_init : MethodName := ⟨"ArcTape$Scores", "<init>", "([I)V"⟩
abbrev c_O_begin : ByteArray := prog_6_method_2_code
abbrev y_O_begin : MethodName := ⟨"ArcTape$Scores", "begin", "(II)V"⟩
abbrev c_O_advance : ByteArray := prog_6_method_3_code
abbrev y_O_advance : MethodName := ⟨"ArcTape$Scores", "advance", "(I)I"⟩
abbrev c_O_weightOfOthers : ByteArray := prog_6_method_4_code
abbrev y_O_weightOfOthers : MethodName := ⟨"ArcTape$Scores", "weightOfOthers", "(I)I"⟩
abbrev c_O_placeOf : ByteArray := prog_6_method_5_code
abbrev y_O_placeOf : MethodName := ⟨"ArcTape$Scores", "placeOf", "(I)I"⟩
abbrev c_O_stepOnce : ByteArray := prog_6_method_6_code
abbrev y_O_stepOnce : MethodName := ⟨"ArcTape$Scores", "stepOnce", "()V"⟩
abbrev c_O_stepByRank : ByteArray := prog_6_method_7_code
abbrev y_O_stepByRank : MethodName := ⟨"ArcTape$Scores", "stepByRank", "()V"⟩
abbrev c_O_stepByGreatest : ByteArray := prog_6_method_8_code
abbrev y_O_stepByGreatest : MethodName := ⟨"ArcTape$Scores", "stepByGreatest", "()V"⟩
abbrev c_O_bringToGreatest : ByteArray := prog_6_method_9_code
abbrev y_O_bringToGreatest : MethodName := ⟨"ArcTape$Scores", "bringToGreatest", "([J)V"⟩
abbrev c_O_stepByShares : ByteArray := prog_6_method_10_code
abbrev y_O_stepByShares : MethodName := ⟨"ArcTape$Scores", "stepByShares", "()V"⟩
abbrev c_O_linksFrom : ByteArray := prog_6_method_11_code
abbrev y_O_linksFrom : MethodName := ⟨"ArcTape$Scores", "linksFrom", "(I)I"⟩
abbrev c_O_linksTo : ByteArray := prog_6_method_12_code
abbrev y_O_linksTo : MethodName := ⟨"ArcTape$Scores", "linksTo", "(I)I"⟩
abbrev c_O_quotient : ByteArray := prog_6_method_13_code
abbrev y_O_quotient : MethodName := ⟨"ArcTape$Scores", "quotient", "(JJ)J"⟩
abbrev c_S_init : ByteArray := prog_4_method_1_code
abbrev y_S_init : MethodName := ⟨"ArcTape$Parts", "<init>", "([I)V"⟩
abbrev c_S_numberAll : ByteArray := prog_4_method_2_code
abbrev y_S_numberAll : MethodName := ⟨"ArcTape$Parts", "numberAll", "()I"⟩
abbrev c_S_findReached : ByteArray := prog_4_method_3_code
abbrev y_S_findReached : MethodName := ⟨"ArcTape$Parts", "findReached", "()V"⟩
abbrev c_S_nextReady : ByteArray := prog_4_method_4_code
abbrev y_S_nextReady : MethodName := ⟨"ArcTape$Parts", "nextReady", "(I)I"⟩
abbrev c_S_partOf : ByteArray := prog_4_method_5_code
abbrev y_S_partOf : MethodName := ⟨"ArcTape$Parts", "partOf", "(I)I"⟩
abbrev c_Y_init : ByteArray := prog_2_method_1_code
abbrev y_Y_init : MethodName := ⟨"ArcTape$Layout", "<init>", "(I)V"⟩
abbrev c_M_init : ByteArray := prog_9_method_1_code
abbrev y_M_init : MethodName := ⟨"ArcTapeModel", "<init>", "(I)V"⟩
abbrev c_M_node : ByteArray := prog_9_method_2_code
abbrev y_M_node : MethodName := ⟨"ArcTapeModel", "node", "(I)Z"⟩
abbrev c_M_ones : ByteArray := prog_9_method_3_code
abbrev y_M_ones : MethodName := ⟨"ArcTapeModel", "ones", "(I)I"⟩
abbrev c_M_add : ByteArray := prog_9_method_4_code
abbrev y_M_add : MethodName := ⟨"ArcTapeModel", "add", "(II)Z"⟩
abbrev c_M_drop : ByteArray := prog_9_method_5_code
abbrev y_M_drop : MethodName := ⟨"ArcTapeModel", "drop", "(II)Z"⟩
abbrev c_M_put : ByteArray := prog_9_method_6_code
abbrev y_M_put : MethodName := ⟨"ArcTapeModel", "put", "(I)V"⟩
abbrev c_M_putUnary : ByteArray := prog_9_method_7_code
abbrev y_M_putUnary : MethodName := ⟨"ArcTapeModel", "putUnary", "(I)V"⟩
abbrev c_M_putNumber : ByteArray := prog_9_method_8_code
abbrev y_M_putNumber : MethodName := ⟨"ArcTapeModel", "putNumber", "(II)V"⟩
abbrev c_M_putGamma : ByteArray := prog_9_method_9_code
abbrev y_M_putGamma : MethodName := ⟨"ArcTapeModel", "putGamma", "(I)V"⟩
abbrev c_M_putZeta : ByteArray := prog_9_method_10_code
abbrev y_M_putZeta : MethodName := ⟨"ArcTapeModel", "putZeta", "(I)V"⟩
abbrev c_M_natural : ByteArray := prog_9_method_11_code
abbrev y_M_natural : MethodName := ⟨"ArcTapeModel", "natural", "(I)I"⟩
abbrev c_M_whole : ByteArray := prog_9_method_12_code
abbrev y_M_whole : MethodName := ⟨"ArcTapeModel", "whole", "(I)I"⟩
abbrev c_M_putRuns : ByteArray := prog_9_method_13_code
abbrev y_M_putRuns : MethodName := ⟨"ArcTapeModel", "putRuns", "(II)V"⟩
abbrev c_M_rowAt : ByteArray := prog_9_method_14_code
abbrev y_M_rowAt : MethodName := ⟨"ArcTapeModel", "rowAt", "(II)I"⟩
abbrev c_M_putRest : ByteArray := prog_9_method_15_code
abbrev y_M_putRest : MethodName := ⟨"ArcTapeModel", "putRest", "(II)V"⟩
abbrev c_M_putRecord : ByteArray := prog_9_method_16_code
abbrev y_M_putRecord : MethodName := ⟨"ArcTapeModel", "putRecord", "(II)V"⟩
abbrev c_M_pack : ByteArray := prog_9_method_17_code
abbrev y_M_pack : MethodName := ⟨"ArcTapeModel", "pack", "(IIII)I"⟩
abbrev c_M_offset : ByteArray := prog_9_method_18_code
abbrev y_M_offset : MethodName := ⟨"ArcTapeModel", "offset", "(I)I"⟩
abbrev c_M_bit : ByteArray := prog_9_method_19_code
abbrev y_M_bit : MethodName := ⟨"ArcTapeModel", "bit", "(I)I"⟩
abbrev c_M_flip : ByteArray := prog_9_method_20_code
abbrev y_M_flip : MethodName := ⟨"ArcTapeModel", "flip", "(I)Z"⟩
abbrev c_M_next : ByteArray := prog_9_method_21_code
abbrev y_M_next : MethodName := ⟨"ArcTapeModel", "next", "()I"⟩
abbrev c_M_nextUnary : ByteArray := prog_9_method_22_code
abbrev y_M_nextUnary : MethodName := ⟨"ArcTapeModel", "nextUnary", "()I"⟩
abbrev c_M_nextNumber : ByteArray := prog_9_method_23_code
abbrev y_M_nextNumber : MethodName := ⟨"ArcTapeModel", "nextNumber", "(I)I"⟩
abbrev c_M_nextGamma : ByteArray := prog_9_method_24_code
abbrev y_M_nextGamma : MethodName := ⟨"ArcTapeModel", "nextGamma", "()I"⟩
abbrev c_M_nextZeta : ByteArray := prog_9_method_25_code
abbrev y_M_nextZeta : MethodName := ⟨"ArcTapeModel", "nextZeta", "()I"⟩
abbrev c_M_take : ByteArray := prog_9_method_26_code
abbrev y_M_take : MethodName := ⟨"ArcTapeModel", "take", "(I)V"⟩
abbrev c_M_readRuns : ByteArray := prog_9_method_27_code
abbrev y_M_readRuns : MethodName := ⟨"ArcTapeModel", "readRuns", "(II)V"⟩
abbrev c_M_copy : ByteArray := prog_9_method_28_code
abbrev y_M_copy : MethodName := ⟨"ArcTapeModel", "copy", "(III)V"⟩
abbrev c_M_readIntervals : ByteArray := prog_9_method_29_code
abbrev y_M_readIntervals : MethodName := ⟨"ArcTapeModel", "readIntervals", "(II)I"⟩
abbrev c_M_readParts : ByteArray := prog_9_method_30_code
abbrev y_M_readParts : MethodName := ⟨"ArcTapeModel", "readParts", "(II)V"⟩
abbrev c_M_read : ByteArray := prog_9_method_31_code
abbrev y_M_read : MethodName := ⟨"ArcTapeModel", "read", "()V"⟩
abbrev c_M_degree : ByteArray := prog_9_method_32_code
abbrev y_M_degree : MethodName := ⟨"ArcTapeModel", "degree", "(I)I"⟩
abbrev c_M_successor : ByteArray := prog_9_method_33_code
abbrev y_M_successor : MethodName := ⟨"ArcTapeModel", "successor", "(II)I"⟩
abbrev c_M_reference : ByteArray := prog_9_method_34_code
abbrev y_M_reference : MethodName := ⟨"ArcTapeModel", "reference", "(I)I"⟩
abbrev c_M_count : ByteArray := prog_9_method_35_code
abbrev y_M_count : MethodName := ⟨"ArcTapeModel", "count", "()V"⟩
abbrev c_M_together : ByteArray := prog_9_method_36_code
abbrev y_M_together : MethodName := ⟨"ArcTapeModel", "together", "(I)I"⟩
abbrev c_M_firstReady : ByteArray := prog_9_method_37_code
abbrev y_M_firstReady : MethodName := ⟨"ArcTapeModel", "firstReady", "(I)I"⟩
abbrev c_M_components : ByteArray := prog_9_method_38_code
abbrev y_M_components : MethodName := ⟨"ArcTapeModel", "components", "()I"⟩
abbrev c_M_component : ByteArray := prog_9_method_39_code
abbrev y_M_component : MethodName := ⟨"ArcTapeModel", "component", "(I)I"⟩
abbrev c_M_prefer : ByteArray := prog_9_method_40_code
abbrev y_M_prefer : MethodName := ⟨"ArcTapeModel", "prefer", "(II)Z"⟩
abbrev c_M_total : ByteArray := prog_9_method_41_code
abbrev y_M_total : MethodName := ⟨"ArcTapeModel", "total", "()I"⟩
abbrev c_M_start : ByteArray := prog_9_method_42_code
abbrev y_M_start : MethodName := ⟨"ArcTapeModel", "start", "(II)Z"⟩
abbrev c_M_links : ByteArray := prog_9_method_43_code
abbrev y_M_links : MethodName := ⟨"ArcTapeModel", "links", "(II)Z"⟩
abbrev c_M_into : ByteArray := prog_9_method_44_code
abbrev y_M_into : MethodName := ⟨"ArcTapeModel", "into", "(I)I"⟩
abbrev c_M_stepRank : ByteArray := prog_9_method_45_code
abbrev y_M_stepRank : MethodName := ⟨"ArcTapeModel", "stepRank", "()V"⟩
abbrev c_M_bring : ByteArray := prog_9_method_46_code
abbrev y_M_bring : MethodName := ⟨"ArcTapeModel", "bring", "(Z)V"⟩
abbrev c_M_stepHubs : ByteArray := prog_9_method_47_code
abbrev y_M_stepHubs : MethodName := ⟨"ArcTapeModel", "stepHubs", "()V"⟩
abbrev c_M_stepShares : ByteArray := prog_9_method_48_code
abbrev y_M_stepShares : MethodName := ⟨"ArcTapeModel", "stepShares", "()V"⟩
abbrev c_M_step : ByteArray := prog_9_method_49_code
abbrev y_M_step : MethodName := ⟨"ArcTapeModel", "step", "(I)I"⟩
abbrev c_M_score : ByteArray := prog_9_method_50_code
abbrev y_M_score : MethodName := ⟨"ArcTapeModel", "score", "(I)J"⟩
abbrev c_M_hub : ByteArray := prog_9_method_51_code
abbrev y_M_hub : MethodName := ⟨"ArcTapeModel", "hub", "(I)J"⟩
abbrev c_M_top : ByteArray := prog_9_method_52_code
abbrev y_M_top : MethodName := ⟨"ArcTapeModel", "top", "(I)I"⟩
abbrev c_M_change : ByteArray := prog_9_method_53_code
abbrev y_M_change : MethodName := ⟨"ArcTapeModel", "change", "()J"⟩
abbrev c_D_init : ByteArray := prog_5_method_1_code
abbrev y_D_init : MethodName := ⟨"ArcTape$Reader", "<init>", "(ILArcTape$Layout;LArcTape$Tape;)V"⟩
abbrev c_D_readAll : ByteArray := prog_5_method_2_code
abbrev y_D_readAll : MethodName := ⟨"ArcTape$Reader", "readAll", "()V"⟩
abbrev c_D_readRecord : ByteArray := prog_5_method_3_code
abbrev y_D_readRecord : MethodName := ⟨"ArcTape$Reader", "readRecord", "()V"⟩
abbrev c_D_goesOn : ByteArray := prog_5_method_4_code
abbrev y_D_goesOn : MethodName := ⟨"ArcTape$Reader", "goesOn", "()Z"⟩
abbrev c_D_failIf : ByteArray := prog_5_method_5_code
abbrev y_D_failIf : MethodName := ⟨"ArcTape$Reader", "failIf", "(ZI)V"⟩
abbrev c_D_readReference : ByteArray := prog_5_method_6_code
abbrev y_D_readReference : MethodName := ⟨"ArcTape$Reader", "readReference", "()V"⟩
abbrev c_D_readRuns : ByteArray := prog_5_method_7_code
abbrev y_D_readRuns : MethodName := ⟨"ArcTape$Reader", "readRuns", "(I)V"⟩
abbrev c_D_lowest : ByteArray := prog_5_method_8_code
abbrev y_D_lowest : MethodName := ⟨"ArcTape$Reader", "lowest", "(II)I"⟩
abbrev c_D_readIntervals : ByteArray := prog_5_method_9_code
abbrev y_D_readIntervals : MethodName := ⟨"ArcTape$Reader", "readIntervals", "()V"⟩
abbrev c_D_readSingles : ByteArray := prog_5_method_10_code
abbrev y_D_readSingles : MethodName := ⟨"ArcTape$Reader", "readSingles", "()V"⟩
abbrev c_D_take : ByteArray := prog_5_method_11_code
abbrev y_D_take : MethodName := ⟨"ArcTape$Reader", "take", "(I)V"⟩
abbrev c_D_nextBit : ByteArray := prog_5_method_12_code
abbrev y_D_nextBit : MethodName := ⟨"ArcTape$Reader", "nextBit", "()I"⟩
abbrev c_D_nextUnary : ByteArray := prog_5_method_13_code
abbrev y_D_nextUnary : MethodName := ⟨"ArcTape$Reader", "nextUnary", "()I"⟩
abbrev c_D_nextNumber : ByteArray := prog_5_method_14_code
abbrev y_D_nextNumber : MethodName := ⟨"ArcTape$Reader", "nextNumber", "(II)I"⟩
abbrev c_D_nextGamma : ByteArray := prog_5_method_15_code
abbrev y_D_nextGamma : MethodName := ⟨"ArcTape$Reader", "nextGamma", "()I"⟩
abbrev c_D_nextZeta : ByteArray := prog_5_method_16_code
abbrev y_D_nextZeta : MethodName := ⟨"ArcTape$Reader", "nextZeta", "()I"⟩
abbrev c_J_bitCount : ByteArray := prog_10_method_49_code
abbrev y_J_bitCount : MethodName := ⟨"java/lang/Integer", "bitCount", "(I)I"⟩
def nwM : List (String × Nat × MethodName × String) := [("ArcTape", 28, y_T_init, "ArcTape"), ("ArcTape$Packer", 94, y_A_holds, "ArcTape"), ("ArcTape$Reader", 119, y_A_within, "ArcTape"), ("ArcTape$Parts", 29, y_A_holds, "ArcTape"), ("ArcTape$Scores", 75, y_A_holds, "ArcTape")]
set_option maxRecDepth 20000 in
theorem nwM_in : ∀ q ∈ nwM, Cond.methodLinkNest q.1 q.2.1 q.2.2.1 q.2.2.2 ∈ lw_tbl := List.forall_mem_cons.mpr ⟨List.mem_append_right _ (List.mem_of_getElem? (i := 28) rfl), List.forall_mem_cons.mpr ⟨List.mem_append_right _ (List.mem_of_getElem? (i := 258) rfl), List.forall_mem_cons.mpr ⟨List.mem_append_right _ (List.mem_of_getElem? (i := 335) rfl), List.forall_mem_cons.mpr ⟨List.mem_append_right _ (List.mem_of_getElem? (i := 439) rfl), List.forall_mem_cons.mpr ⟨List.mem_append_right _ (List.mem_of_getElem? (i := 484) rfl), fun _ h => absurd h List.not_mem_nil⟩⟩⟩⟩⟩
end
section
/- worlds by handles: handle k is the cell at base + k. gr: the world lies at the heap's end and may grow; else its cells are those below base + lim -/
abbrev aw_E : Type := (Nat × vp_A) ⊕ (Nat × List Value)
abbrev aw_H : Type := List aw_E
def aw_v (b : Nat) (v : Value) : Value := match v with
  | .ref k => .ref (b + k)
  | w => w
def aw_a (b : Nat) (a : vp_A) : vp_A := match a with
  | (n, .inr (.inr (.inr (.inr f)))) => (n, .inr (.inr (.inr (.inr (fun j => (f j).map (fun k => b + k))))))
  | x => x
def aw_e (b : Nat) (dA : Nat → ClassId) (e : aw_E) : va_E := match e with
  | .inl (t, a) => .inl (dA t, aw_a b a)
  | .inr (ci, fs) => .inr (ci, fs.map (aw_v b))
def aw_A (b lim : Nat) (gr : Bool) : Nat → Prop := fun q => b ≤ q ∧ (gr = true ∨ q < b + lim)
def aw_md (md : Nat) (gr : Bool) : Prop := (md = 1 → gr = true) ∧ (md = 2 → gr = false)
theorem aw_md_use {md md' : Nat} {gr : Bool} (h : md' = 0 ∨ md' = md) (g : aw_md md gr) : aw_md md' gr := by
  rcases h with q | q
  · exact ⟨fun z => by omega, fun z => by omega⟩
  · rw [q]; exact g
def aw_P (D : va_G) (dA : Nat → ClassId) (b lim : Nat) (gr : Bool) (h : aw_H) (H : Heap) : Prop := (gr = true → H.size = b + h.length) ∧ (gr = false → h.length ≤ lim) ∧ ∀ (k : Nat) (e : aw_E), h[k]? = some e → va_at D vwCl (b + k, aw_e b dA e) H
def aw_K (D : va_G) (dA : Nat → ClassId) (U : State) : Prop := (∀ (c : Nat) (q : vw_C), vwCl[c]? = some q → u_Kn U q.1 q.2.1 q.2.2 (D.1 c) (D.2 c)) ∧ ∀ (t : Nat) (ty : FieldType), tyTab[t]? = some ty → ArrOfT U (dA t) ty ∧ va_RA U (dA t) ty
theorem aw_K.moved {D : va_G} {dA : Nat → ClassId} {u U : State} (hvm : u.vm.Alike U.vm) (h : aw_K D dA u) : aw_K D dA U := ⟨fun c q hq => u_Kn_moved hvm (h.1 c q hq), fun t ty ht => ⟨arrOfT_moved hvm (h.2 t ty ht).1, (h.2 t ty ht).2.moved hvm⟩⟩
theorem aw_K.one {D : va_G} {dA : Nat → ClassId} {U : State} (h : aw_K D dA U) {t : Nat} {ty : FieldType} (ht : tyTab[t]? = some ty) : va_K D vwCl [(dA t, ty)] U := by
  refine ⟨h.1, fun k q hk => ?_⟩
  have hz : k < 1 := (List.getElem?_eq_some_iff.mp hk).1
  rw [show k = 0 by omega] at hk
  cases hk
  exact h.2 t ty ht
theorem aw_K.nil {D : va_G} {dA : Nat → ClassId} {U : State} (h : aw_K D dA U) : va_K D vwCl [] U := ⟨h.1, fun k q hk => by simp at hk⟩
theorem aw_P.one {D : va_G} {dA : Nat → ClassId} {b lim : Nat} {gr : Bool} {h : aw_H} {H : Heap} (hP : aw_P D dA b lim gr h H) {k : Nat} {e : aw_E} (hk : h[k]? = some e) : va_P D vwCl [(b + k, aw_e b dA e)] H := by
  intro j q hj
  have hz : j < 1 := (List.getElem?_eq_some_iff.mp hj).1
  rw [show j = 0 by omega] at hj
  cases hj
  exact hP.2.2 k e hk
theorem aw_P.inA {D : va_G} {dA : Nat → ClassId} {b lim : Nat} {gr : Bool} {h : aw_H} {H : Heap} (hP : aw_P D dA b lim gr h H) {k : Nat} (hk : k < h.length) : aw_A b lim gr (b + k) := by
  refine ⟨Nat.le_add_right b k, ?_⟩
  cases gr with
  | true => exact Or.inl rfl
  | false => exact Or.inr (by have := hP.2.1 rfl; omega)
theorem aw_P.put {D : va_G} {dA : Nat → ClassId} {b lim : Nat} {gr : Bool} {h : aw_H} {H H1 : Heap} (hP : aw_P D dA b lim gr h H) {k : Nat} {e : aw_E} (hk : k < h.length) (z : H1.size = H.size) (he : va_at D vwCl (b + k, aw_e b dA e) H1) (oq : ∀ q : Nat, q ≠ b + k → H1[q]? = H[q]?) : aw_P D dA b lim gr (h.set k e) H1 := by
  refine ⟨fun g => by rw [z, List.length_set]; exact hP.1 g, fun g => by rw [List.length_set]; exact hP.2.1 g, fun j x hj => ?_⟩
  by_cases hjk : j = k
  · subst hjk
    rw [List.getElem?_set_self hk] at hj
    cases hj
    exact he
  · rw [List.getElem?_set_ne (Ne.symm hjk)] at hj
    exact (hP.2.2 j x hj).kept (oq _ (by omega))
theorem aw_P.push {D : va_G} {dA : Nat → ClassId} {b lim : Nat} {gr : Bool} {h : aw_H} {H H1 : Heap} (hg : gr = true) (hP : aw_P D dA b lim gr h H) {e : aw_E} (z : H1.size = H.size + 1) (he : va_at D vwCl (b + h.length, aw_e b dA e) H1) (oq : ∀ q : Nat, q < H.size → H1[q]? = H[q]?) : aw_P D dA b lim gr (h ++ [e]) H1 := by
  refine ⟨fun g => by rw [z, hP.1 g, List.length_append]; rfl, (fun g => by rw [hg] at g; cases g), fun j x hj => ?_⟩
  by_cases hl : j < h.length
  · rw [List.getElem?_append_left hl] at hj
    exact (hP.2.2 j x hj).kept (oq _ (by have := hP.1 hg; show b + j < _; omega))
  · rw [List.getElem?_append_right (by omega)] at hj
    have hz : j - h.length < 1 := (List.getElem?_eq_some_iff.mp hj).1
    have hjl : j = h.length := by omega
    subst hjl
    rw [Nat.sub_self] at hj
    cases hj
    exact he
/- links to members of a nest mate -/
def aw_N (U : State) : Prop := ∀ q ∈ nwM, va_Nw (.methodLinkNest q.1 q.2.1 q.2.2.1 q.2.2.2) U
theorem aw_N.warm {s U : State} (hW : s.WarmedH U.vm) (h : aw_N s) : aw_N U := fun q hq => va_Nw.warmM hW (h q hq)
theorem aw_N.same {u U : State} (hv : u.vm = U.vm) (h : aw_N u) : aw_N U := fun q hq => va_Nw.same rfl hv (h q hq)
/- known values of the locals -/
def aw_L (b : Nat) (L : List (Option Value)) (nL : Nat) (ls : Array Slot) : Prop := ∃ lv : List (Nat × Value), lv_has ls nL lv ∧ ∀ (i : Nat) (v : Value), L[i]? = some (some v) → (i, aw_v b v) ∈ lv
theorem aw_L.at {b nL i : Nat} {L : List (Option Value)} {ls : Array Slot} {v : Value} (h : aw_L b L nL ls) (hi : L[i]? = some (some v)) : ls[i]? = some (.val (aw_v b v)) := by
  obtain ⟨lv, h1, h2⟩ := h
  exact h1.2.2 _ (h2 i v hi)
def aw_mask (ms : List Bool) (L : List (Option Value)) : List (Option Value) := List.zipWith (fun (m : Bool) (x : Option Value) => match m with | true => x | false => none) ms L
theorem aw_mask_at {ms : List Bool} {L : List (Option Value)} {i : Nat} {v : Value} (h : (aw_mask ms L)[i]? = some (some v)) : L[i]? = some (some v) := by
  unfold aw_mask at h
  rw [List.getElem?_zipWith] at h
  cases hm : ms[i]? with
  | none => rw [hm] at h; cases h
  | some m =>
    cases hl : L[i]? with
    | none => rw [hm, hl] at h; cases h
    | some x =>
      rw [hm, hl] at h
      cases m with
      | true => exact h
      | false => cases h
theorem aw_L.mask {b nL : Nat} {L : List (Option Value)} {ls : Array Slot} (ms : List Bool) (h : aw_L b L nL ls) : aw_L b (aw_mask ms L) nL ls := by
  obtain ⟨lv, h1, h2⟩ := h
  exact ⟨lv, h1, fun i v hi => h2 i v (aw_mask_at hi)⟩
def aw_clr (L : List (Option Value)) (i : Nat) : List (Option Value) := match i with
  | 0 => L
  | j + 1 => match L[j]? with
    | some (some (.long _)) => L.set j none
    | some (some (.double _)) => L.set j none
    | _ => L
def aw_s1 (L : List (Option Value)) (i : Nat) (v : Value) : List (Option Value) := (aw_clr L i).set i (some v)
def aw_s2 (L : List (Option Value)) (i : Nat) (v : Value) : List (Option Value) := ((aw_clr L i).set (i + 1) none).set i (some v)

def aw_C (own nm : String) (cc : ByteArray) (nL : Nat) (ret : Option FieldType) (d md mc ms : Nat) (p : Program) (R : Room) (s : State) (m : MethodId) (args : Array Value) (meth : Method) (c : Code) (D : va_G) (dA : Nat → ClassId) (b : Nat) (gr : Bool) : Prop :=
  p.tables.exec = Jvm.exec ∧ c.code = cc ∧ c.maxLocals = nL ∧ s.vm.findClass own = some m.cls ∧ (∀ w ∈ wsAll, w.before args s = true) ∧ meth.sig.returnType = ret ∧ meth.locks = false ∧ meth.name = nm ∧ (d ≤ R.frames ∧ 40 * d ≤ R.locals ∧ R.cells = mc ∧ R.slots = ms) ∧ aw_K D dA s ∧ aw_N s ∧ aw_md md gr
abbrev aw_Qc (D : va_G) (dA : Nat → ClassId) (b lim : Nat) (gr : Bool) (Q : Option Value → aw_H → Prop) : Array Value → State → Outcome → State → Prop := fun _ st oc t => (∃ (v : Option Value) (h : aw_H), oc = .returned (v.map (aw_v b)) ∧ Q v h ∧ aw_P D dA b lim gr h t.heap) ∧ va_F (aw_A b lim gr) st t
def AW (own nm : String) (cc : ByteArray) (nL : Nat) (ret : Option FieldType) (d md mc ms : Nat) (Q : Option Value → aw_H → Prop) (pc : Nat) (L : List (Option Value)) (st : List Value) (h : aw_H) (kc kn : Nat) : Prop :=
  ∀ (p : Program) (l : Launch) (e : Env) (R : Room) (s : State) (m : MethodId) (args : Array Value) (below : List Frame) (meth : Method) (c : Code) (D : va_G) (dA : Nat → ClassId) (b lim : Nat) (gr : Bool) (H : Heap) (locs : List Loc) (ls : Array Slot),
    aw_C own nm cc nL ret d md mc ms p R s m args meth c D dA b gr → va_S (aw_A b lim gr) s.heap H locs → aw_P D dA b lim gr h H → aw_L b L nL ls →
    W p l e R s m args below meth c H locs kc kn (MQ below (aw_Qc D dA b lim gr Q) args s mc ms (aw_A b lim gr)) (F0 m pc ls (st.map (aw_v b)))
def AM (y : MethodName) (cc : ByteArray) (nL : Nat) (ret : Option FieldType) (d md mc ms : Nat) (av : List Value) (h : aw_H) (Q : Option Value → aw_H → Prop) : Prop :=
  ∀ (l : Launch) (D : va_G) (dA : Nat → ClassId) (b lim : Nat) (gr : Bool), aw_md md gr → Met l y (Cond.code y cc nL ret :: wsAll) ({ frames := d, cells := mc, slots := ms, locals := 40 * d }) (va_Pc (av.map (aw_v b)) (fun U => aw_P D dA b lim gr h U.heap ∧ aw_K D dA U ∧ aw_N U)) (aw_Qc D dA b lim gr Q) mc ms (aw_A b lim gr)
section AWR
variable {own nm : String} {cc : ByteArray} {nL : Nat} {ret : Option FieldType} {d md mc ms : Nat} {Q : Option Value → aw_H → Prop} {pc pc' : Nat} {L L' : List (Option Value)} {st : List Value} {h h' : aw_H} {kc kn : Nat}

theorem aw_weak (ms' : List Bool) (e : aw_mask ms' L = L') (k : AW own nm cc nL ret d md mc ms Q pc L' st h kc kn) : AW own nm cc nL ret d md mc ms Q pc L st h kc kn := by
  subst e
  intro p l e R s m args below meth c D dA b lim gr H locs ls C S P hL
  exact k p l e R s m args below meth c D dA b lim gr H locs ls C S P (hL.mask ms')
theorem aw_iadd {x y : Int32} (hd : decode cc pc = .ok (.iadd, 1)) (hp : pc + 1 = pc')  (k : AW own nm cc nL ret d md mc ms Q pc' L (.int (x + y) :: st) h kc kn) : AW own nm cc nL ret d md mc ms Q pc L (.int y :: .int x :: st) h kc kn := by
  subst hp
  intro p l e R s m args below meth c D dA b lim gr H locs ls C S P hL
  exact lv_iadd C.1 C.2.1 hd  (k p l e R s m args below meth c D dA b lim gr H locs ls C S P hL)
theorem aw_isub {x y : Int32} (hd : decode cc pc = .ok (.isub, 1)) (hp : pc + 1 = pc')  (k : AW own nm cc nL ret d md mc ms Q pc' L (.int (x - y) :: st) h kc kn) : AW own nm cc nL ret d md mc ms Q pc L (.int y :: .int x :: st) h kc kn := by
  subst hp
  intro p l e R s m args below meth c D dA b lim gr H locs ls C S P hL
  exact lv_isub C.1 C.2.1 hd  (k p l e R s m args below meth c D dA b lim gr H locs ls C S P hL)
theorem aw_imul {x y : Int32} (hd : decode cc pc = .ok (.imul, 1)) (hp : pc + 1 = pc')  (k : AW own nm cc nL ret d md mc ms Q pc' L (.int (x * y) :: st) h kc kn) : AW own nm cc nL ret d md mc ms Q pc L (.int y :: .int x :: st) h kc kn := by
  subst hp
  intro p l e R s m args below meth c D dA b lim gr H locs ls C S P hL
  exact lv_imul C.1 C.2.1 hd  (k p l e R s m args below meth c D dA b lim gr H locs ls C S P hL)
theorem aw_iand {x y : Int32} (hd : decode cc pc = .ok (.iand, 1)) (hp : pc + 1 = pc')  (k : AW own nm cc nL ret d md mc ms Q pc' L (.int (x &&& y) :: st) h kc kn) : AW own nm cc nL ret d md mc ms Q pc L (.int y :: .int x :: st) h kc kn := by
  subst hp
  intro p l e R s m args below meth c D dA b lim gr H locs ls C S P hL
  exact lv_iand C.1 C.2.1 hd  (k p l e R s m args below meth c D dA b lim gr H locs ls C S P hL)
theorem aw_ior {x y : Int32} (hd : decode cc pc = .ok (.ior, 1)) (hp : pc + 1 = pc')  (k : AW own nm cc nL ret d md mc ms Q pc' L (.int (x ||| y) :: st) h kc kn) : AW own nm cc nL ret d md mc ms Q pc L (.int y :: .int x :: st) h kc kn := by
  subst hp
  intro p l e R s m args below meth c D dA b lim gr H locs ls C S P hL
  exact lv_ior C.1 C.2.1 hd  (k p l e R s m args below meth c D dA b lim gr H locs ls C S P hL)
theorem aw_ixor {x y : Int32} (hd : decode cc pc = .ok (.ixor, 1)) (hp : pc + 1 = pc')  (k : AW own nm cc nL ret d md mc ms Q pc' L (.int (x ^^^ y) :: st) h kc kn) : AW own nm cc nL ret d md mc ms Q pc L (.int y :: .int x :: st) h kc kn := by
  subst hp
  intro p l e R s m args below meth c D dA b lim gr H locs ls C S P hL
  exact lv_ixor C.1 C.2.1 hd  (k p l e R s m args below meth c D dA b lim gr H locs ls C S P hL)
theorem aw_ishl {x y : Int32} (hd : decode cc pc = .ok (.ishl, 1)) (hp : pc + 1 = pc')  (k : AW own nm cc nL ret d md mc ms Q pc' L (.int (x <<< (y &&& 31)) :: st) h kc kn) : AW own nm cc nL ret d md mc ms Q pc L (.int y :: .int x :: st) h kc kn := by
  subst hp
  intro p l e R s m args below meth c D dA b lim gr H locs ls C S P hL
  exact lv_ishl C.1 C.2.1 hd  (k p l e R s m args below meth c D dA b lim gr H locs ls C S P hL)
theorem aw_ishr {x y : Int32} (hd : decode cc pc = .ok (.ishr, 1)) (hp : pc + 1 = pc')  (k : AW own nm cc nL ret d md mc ms Q pc' L (.int (x >>> (y &&& 31)) :: st) h kc kn) : AW own nm cc nL ret d md mc ms Q pc L (.int y :: .int x :: st) h kc kn := by
  subst hp
  intro p l e R s m args below meth c D dA b lim gr H locs ls C S P hL
  exact lv_ishr C.1 C.2.1 hd  (k p l e R s m args below meth c D dA b lim gr H locs ls C S P hL)
theorem aw_iushr {x y : Int32} (hd : decode cc pc = .ok (.iushr, 1)) (hp : pc + 1 = pc')  (k : AW own nm cc nL ret d md mc ms Q pc' L (.int ((x.toUInt32 >>> (y.toUInt32 &&& Int32.toUInt32 31)).toInt32) :: st) h kc kn) : AW own nm cc nL ret d md mc ms Q pc L (.int y :: .int x :: st) h kc kn := by
  subst hp
  intro p l e R s m args below meth c D dA b lim gr H locs ls C S P hL
  exact lv_iushr C.1 C.2.1 hd rfl (k p l e R s m args below meth c D dA b lim gr H locs ls C S P hL)
theorem aw_idiv {x y : Int32} (hd : decode cc pc = .ok (.idiv, 1)) (hp : pc + 1 = pc') (hne : ¬ y = 0) (k : AW own nm cc nL ret d md mc ms Q pc' L (.int (x / y) :: st) h kc kn) : AW own nm cc nL ret d md mc ms Q pc L (.int y :: .int x :: st) h kc kn := by
  subst hp
  intro p l e R s m args below meth c D dA b lim gr H locs ls C S P hL
  exact lv_idiv C.1 C.2.1 hd hne (k p l e R s m args below meth c D dA b lim gr H locs ls C S P hL)
theorem aw_irem {x y : Int32} (hd : decode cc pc = .ok (.irem, 1)) (hp : pc + 1 = pc') (hne : ¬ y = 0) (k : AW own nm cc nL ret d md mc ms Q pc' L (.int (x - x / y * y) :: st) h kc kn) : AW own nm cc nL ret d md mc ms Q pc L (.int y :: .int x :: st) h kc kn := by
  subst hp
  intro p l e R s m args below meth c D dA b lim gr H locs ls C S P hL
  exact lv_irem C.1 C.2.1 hd hne (k p l e R s m args below meth c D dA b lim gr H locs ls C S P hL)
theorem aw_ladd {x y : Int64} (hd : decode cc pc = .ok (.ladd, 1)) (hp : pc + 1 = pc')  (k : AW own nm cc nL ret d md mc ms Q pc' L (.long (x + y) :: st) h kc kn) : AW own nm cc nL ret d md mc ms Q pc L (.long y :: .long x :: st) h kc kn := by
  subst hp
  intro p l e R s m args below meth c D dA b lim gr H locs ls C S P hL
  exact lv_ladd C.1 C.2.1 hd  (k p l e R s m args below meth c D dA b lim gr H locs ls C S P hL)
theorem aw_lsub {x y : Int64} (hd : decode cc pc = .ok (.lsub, 1)) (hp : pc + 1 = pc')  (k : AW own nm cc nL ret d md mc ms Q pc' L (.long (x - y) :: st) h kc kn) : AW own nm cc nL ret d md mc ms Q pc L (.long y :: .long x :: st) h kc kn := by
  subst hp
  intro p l e R s m args below meth c D dA b lim gr H locs ls C S P hL
  exact lv_lsub C.1 C.2.1 hd  (k p l e R s m args below meth c D dA b lim gr H locs ls C S P hL)
theorem aw_lmul {x y : Int64} (hd : decode cc pc = .ok (.lmul, 1)) (hp : pc + 1 = pc')  (k : AW own nm cc nL ret d md mc ms Q pc' L (.long (x * y) :: st) h kc kn) : AW own nm cc nL ret d md mc ms Q pc L (.long y :: .long x :: st) h kc kn := by
  subst hp
  intro p l e R s m args below meth c D dA b lim gr H locs ls C S P hL
  exact lv_lmul C.1 C.2.1 hd  (k p l e R s m args below meth c D dA b lim gr H locs ls C S P hL)
theorem aw_ldiv {x y : Int64} (hd : decode cc pc = .ok (.ldiv, 1)) (hp : pc + 1 = pc') (hne : ¬ y = 0) (k : AW own nm cc nL ret d md mc ms Q pc' L (.long (x / y) :: st) h kc kn) : AW own nm cc nL ret d md mc ms Q pc L (.long y :: .long x :: st) h kc kn := by
  subst hp
  intro p l e R s m args below meth c D dA b lim gr H locs ls C S P hL
  exact lv_ldiv C.1 C.2.1 hd hne (k p l e R s m args below meth c D dA b lim gr H locs ls C S P hL)
theorem aw_ineg {x : Int32} (hd : decode cc pc = .ok (.ineg, 1)) (hp : pc + 1 = pc')  (k : AW own nm cc nL ret d md mc ms Q pc' L (.int (-x) :: st) h kc kn) : AW own nm cc nL ret d md mc ms Q pc L (.int x :: st) h kc kn := by
  subst hp
  intro p l e R s m args below meth c D dA b lim gr H locs ls C S P hL
  exact lv_ineg C.1 C.2.1 hd  (k p l e R s m args below meth c D dA b lim gr H locs ls C S P hL)
theorem aw_i2l {x : Int32} (hd : decode cc pc = .ok (.i2l, 1)) (hp : pc + 1 = pc')  (k : AW own nm cc nL ret d md mc ms Q pc' L (.long x.toInt64 :: st) h kc kn) : AW own nm cc nL ret d md mc ms Q pc L (.int x :: st) h kc kn := by
  subst hp
  intro p l e R s m args below meth c D dA b lim gr H locs ls C S P hL
  exact lv_i2l C.1 C.2.1 hd rfl (k p l e R s m args below meth c D dA b lim gr H locs ls C S P hL)
theorem aw_i2b {x : Int32} (hd : decode cc pc = .ok (.i2b, 1)) (hp : pc + 1 = pc')  (k : AW own nm cc nL ret d md mc ms Q pc' L (.int x.toInt8.toInt32 :: st) h kc kn) : AW own nm cc nL ret d md mc ms Q pc L (.int x :: st) h kc kn := by
  subst hp
  intro p l e R s m args below meth c D dA b lim gr H locs ls C S P hL
  exact lv_i2b C.1 C.2.1 hd rfl (k p l e R s m args below meth c D dA b lim gr H locs ls C S P hL)
theorem aw_lcmp {x y : Int64} (hd : decode cc pc = .ok (.lcmp, 1)) (hp : pc + 1 = pc')  (k : AW own nm cc nL ret d md mc ms Q pc' L (.int (lg_cmp x y) :: st) h kc kn) : AW own nm cc nL ret d md mc ms Q pc L (.long y :: .long x :: st) h kc kn := by
  subst hp
  intro p l e R s m args below meth c D dA b lim gr H locs ls C S P hL
  exact W.lcmp C.1 C.2.1 hd  (k p l e R s m args below meth c D dA b lim gr H locs ls C S P hL)
theorem aw_iconst {n : Int} {v : Int32} (hd : decode cc pc = .ok (.iconst n, 1)) (hp : pc + 1 = pc') (hv : Int32.ofInt n = v) (k : AW own nm cc nL ret d md mc ms Q pc' L (.int v :: st) h kc kn) : AW own nm cc nL ret d md mc ms Q pc L (st) h kc kn := by
  subst hp
  intro p l e R s m args below meth c D dA b lim gr H locs ls C S P hL
  exact lv_iconst C.1 C.2.1 hd hv (k p l e R s m args below meth c D dA b lim gr H locs ls C S P hL)
theorem aw_lconst {n : Fin 2} {v : Int64} (hd : decode cc pc = .ok (.lconst n, 1)) (hp : pc + 1 = pc') (hv : Int64.ofNat (n : Nat) = v) (k : AW own nm cc nL ret d md mc ms Q pc' L (.long v :: st) h kc kn) : AW own nm cc nL ret d md mc ms Q pc L (st) h kc kn := by
  subst hp
  intro p l e R s m args below meth c D dA b lim gr H locs ls C S P hL
  exact lv_lconst C.1 C.2.1 hd hv (k p l e R s m args below meth c D dA b lim gr H locs ls C S P hL)
theorem aw_bipush {n : Int} {v : Int32} (hd : decode cc pc = .ok (.bipush n, 2)) (hp : pc + 2 = pc') (hv : (Int8.ofInt n).toInt32 = v) (k : AW own nm cc nL ret d md mc ms Q pc' L (.int v :: st) h kc kn) : AW own nm cc nL ret d md mc ms Q pc L (st) h kc kn := by
  subst hp
  intro p l e R s m args below meth c D dA b lim gr H locs ls C S P hL
  exact lv_bipush C.1 C.2.1 hd hv (k p l e R s m args below meth c D dA b lim gr H locs ls C S P hL)
theorem aw_sipush {n : Int} {v : Int32} (hd : decode cc pc = .ok (.sipush n, 3)) (hp : pc + 3 = pc') (hv : (Int16.ofInt n).toInt32 = v) (k : AW own nm cc nL ret d md mc ms Q pc' L (.int v :: st) h kc kn) : AW own nm cc nL ret d md mc ms Q pc L (st) h kc kn := by
  subst hp
  intro p l e R s m args below meth c D dA b lim gr H locs ls C S P hL
  exact lv_sipush C.1 C.2.1 hd hv (k p l e R s m args below meth c D dA b lim gr H locs ls C S P hL)
theorem aw_cat (b : Nat) (v : Value) : (aw_v b v).category = v.category := by cases v <;> rfl
theorem aw_dup {va : Value} (hd : decode cc pc = .ok (.dup, 1)) (hp : pc + 1 = pc') (hva : va.category = 1) (k : AW own nm cc nL ret d md mc ms Q pc' L (va :: va :: st) h kc kn) : AW own nm cc nL ret d md mc ms Q pc L (va :: st) h kc kn := by
  subst hp
  intro p l e R s m args below meth c D dA b lim gr H locs ls C S P hL
  exact lv_dup C.1 C.2.1 hd ((aw_cat b va).trans hva) (k p l e R s m args below meth c D dA b lim gr H locs ls C S P hL)
theorem aw_pop {va : Value} (hd : decode cc pc = .ok (.pop, 1)) (hp : pc + 1 = pc') (hva : va.category = 1) (k : AW own nm cc nL ret d md mc ms Q pc' L (st) h kc kn) : AW own nm cc nL ret d md mc ms Q pc L (va :: st) h kc kn := by
  subst hp
  intro p l e R s m args below meth c D dA b lim gr H locs ls C S P hL
  exact lv_pop C.1 C.2.1 hd ((aw_cat b va).trans hva) (k p l e R s m args below meth c D dA b lim gr H locs ls C S P hL)
theorem aw_dup2 {va vb : Value} (hd : decode cc pc = .ok (.dup2, 1)) (hp : pc + 1 = pc') (hva : va.category = 1) (hvb : vb.category = 1) (k : AW own nm cc nL ret d md mc ms Q pc' L (va :: vb :: va :: vb :: st) h kc kn) : AW own nm cc nL ret d md mc ms Q pc L (va :: vb :: st) h kc kn := by
  subst hp
  intro p l e R s m args below meth c D dA b lim gr H locs ls C S P hL
  exact lv_dup2_11 C.1 C.2.1 hd ((aw_cat b va).trans hva) ((aw_cat b vb).trans hvb) (k p l e R s m args below meth c D dA b lim gr H locs ls C S P hL)
theorem aw_if_eq {x : Int32} {off : Int} {tgt : Nat} (hd : decode cc pc = .ok (.ifCond .eq off, 3)) (ht : (pc : Int) + off = (tgt : Int)) (hp : pc + 3 = pc') (kt : x = 0 → AW own nm cc nL ret d md mc ms Q tgt L st h kc kn) (kf : ¬ x = 0 → AW own nm cc nL ret d md mc ms Q pc' L st h kc kn) : AW own nm cc nL ret d md mc ms Q pc L (.int x :: st) h kc kn := by
  subst hp
  intro p l e R s m args below meth c D dA b lim gr H locs ls C S P hL
  exact lv_if_eq C.1 C.2.1 hd ht (fun q => kt q p l e R s m args below meth c D dA b lim gr H locs ls C S P hL) (fun q => kf q p l e R s m args below meth c D dA b lim gr H locs ls C S P hL)
theorem aw_if_ne {x : Int32} {off : Int} {tgt : Nat} (hd : decode cc pc = .ok (.ifCond .ne off, 3)) (ht : (pc : Int) + off = (tgt : Int)) (hp : pc + 3 = pc') (kt : ¬ x = 0 → AW own nm cc nL ret d md mc ms Q tgt L st h kc kn) (kf : x = 0 → AW own nm cc nL ret d md mc ms Q pc' L st h kc kn) : AW own nm cc nL ret d md mc ms Q pc L (.int x :: st) h kc kn := by
  subst hp
  intro p l e R s m args below meth c D dA b lim gr H locs ls C S P hL
  exact lv_if_ne C.1 C.2.1 hd ht (fun q => kt q p l e R s m args below meth c D dA b lim gr H locs ls C S P hL) (fun q => kf q p l e R s m args below meth c D dA b lim gr H locs ls C S P hL)
theorem aw_if_lt {x : Int32} {off : Int} {tgt : Nat} (hd : decode cc pc = .ok (.ifCond .lt off, 3)) (ht : (pc : Int) + off = (tgt : Int)) (hp : pc + 3 = pc') (kt : x < 0 → AW own nm cc nL ret d md mc ms Q tgt L st h kc kn) (kf : ¬ x < 0 → AW own nm cc nL ret d md mc ms Q pc' L st h kc kn) : AW own nm cc nL ret d md mc ms Q pc L (.int x :: st) h kc kn := by
  subst hp
  intro p l e R s m args below meth c D dA b lim gr H locs ls C S P hL
  exact lv_if_lt C.1 C.2.1 hd ht (fun q => kt q p l e R s m args below meth c D dA b lim gr H locs ls C S P hL) (fun q => kf q p l e R s m args below meth c D dA b lim gr H locs ls C S P hL)
theorem aw_if_ge {x : Int32} {off : Int} {tgt : Nat} (hd : decode cc pc = .ok (.ifCond .ge off, 3)) (ht : (pc : Int) + off = (tgt : Int)) (hp : pc + 3 = pc') (kt : 0 ≤ x → AW own nm cc nL ret d md mc ms Q tgt L st h kc kn) (kf : ¬ 0 ≤ x → AW own nm cc nL ret d md mc ms Q pc' L st h kc kn) : AW own nm cc nL ret d md mc ms Q pc L (.int x :: st) h kc kn := by
  subst hp
  intro p l e R s m args below meth c D dA b lim gr H locs ls C S P hL
  exact lv_if_ge C.1 C.2.1 hd ht (fun q => kt q p l e R s m args below meth c D dA b lim gr H locs ls C S P hL) (fun q => kf q p l e R s m args below meth c D dA b lim gr H locs ls C S P hL)
theorem aw_if_gt {x : Int32} {off : Int} {tgt : Nat} (hd : decode cc pc = .ok (.ifCond .gt off, 3)) (ht : (pc : Int) + off = (tgt : Int)) (hp : pc + 3 = pc') (kt : 0 < x → AW own nm cc nL ret d md mc ms Q tgt L st h kc kn) (kf : ¬ 0 < x → AW own nm cc nL ret d md mc ms Q pc' L st h kc kn) : AW own nm cc nL ret d md mc ms Q pc L (.int x :: st) h kc kn := by
  subst hp
  intro p l e R s m args below meth c D dA b lim gr H locs ls C S P hL
  exact lv_if_gt C.1 C.2.1 hd ht (fun q => kt q p l e R s m args below meth c D dA b lim gr H locs ls C S P hL) (fun q => kf q p l e R s m args below meth c D dA b lim gr H locs ls C S P hL)
theorem aw_if_le {x : Int32} {off : Int} {tgt : Nat} (hd : decode cc pc = .ok (.ifCond .le off, 3)) (ht : (pc : Int) + off = (tgt : Int)) (hp : pc + 3 = pc') (kt : x ≤ 0 → AW own nm cc nL ret d md mc ms Q tgt L st h kc kn) (kf : ¬ x ≤ 0 → AW own nm cc nL ret d md mc ms Q pc' L st h kc kn) : AW own nm cc nL ret d md mc ms Q pc L (.int x :: st) h kc kn := by
  subst hp
  intro p l e R s m args below meth c D dA b lim gr H locs ls C S P hL
  exact lv_if_le C.1 C.2.1 hd ht (fun q => kt q p l e R s m args below meth c D dA b lim gr H locs ls C S P hL) (fun q => kf q p l e R s m args below meth c D dA b lim gr H locs ls C S P hL)
theorem aw_icmp_eq {x y : Int32} {off : Int} {tgt : Nat} (hd : decode cc pc = .ok (.if_icmp .eq off, 3)) (ht : (pc : Int) + off = (tgt : Int)) (hp : pc + 3 = pc') (kt : x = y → AW own nm cc nL ret d md mc ms Q tgt L st h kc kn) (kf : ¬ x = y → AW own nm cc nL ret d md mc ms Q pc' L st h kc kn) : AW own nm cc nL ret d md mc ms Q pc L (.int y :: .int x :: st) h kc kn := by
  subst hp
  intro p l e R s m args below meth c D dA b lim gr H locs ls C S P hL
  exact lv_icmp_eq C.1 C.2.1 hd ht (fun q => kt q p l e R s m args below meth c D dA b lim gr H locs ls C S P hL) (fun q => kf q p l e R s m args below meth c D dA b lim gr H locs ls C S P hL)
theorem aw_icmp_ne {x y : Int32} {off : Int} {tgt : Nat} (hd : decode cc pc = .ok (.if_icmp .ne off, 3)) (ht : (pc : Int) + off = (tgt : Int)) (hp : pc + 3 = pc') (kt : ¬ x = y → AW own nm cc nL ret d md mc ms Q tgt L st h kc kn) (kf : x = y → AW own nm cc nL ret d md mc ms Q pc' L st h kc kn) : AW own nm cc nL ret d md mc ms Q pc L (.int y :: .int x :: st) h kc kn := by
  subst hp
  intro p l e R s m args below meth c D dA b lim gr H locs ls C S P hL
  exact lv_icmp_ne C.1 C.2.1 hd ht (fun q => kt q p l e R s m args below meth c D dA b lim gr H locs ls C S P hL) (fun q => kf q p l e R s m args below meth c D dA b lim gr H locs ls C S P hL)
theorem aw_icmp_lt {x y : Int32} {off : Int} {tgt : Nat} (hd : decode cc pc = .ok (.if_icmp .lt off, 3)) (ht : (pc : Int) + off = (tgt : Int)) (hp : pc + 3 = pc') (kt : x < y → AW own nm cc nL ret d md mc ms Q tgt L st h kc kn) (kf : ¬ x < y → AW own nm cc nL ret d md mc ms Q pc' L st h kc kn) : AW own nm cc nL ret d md mc ms Q pc L (.int y :: .int x :: st) h kc kn := by
  subst hp
  intro p l e R s m args below meth c D dA b lim gr H locs ls C S P hL
  exact lv_icmp_lt C.1 C.2.1 hd ht (fun q => kt q p l e R s m args below meth c D dA b lim gr H locs ls C S P hL) (fun q => kf q p l e R s m args below meth c D dA b lim gr H locs ls C S P hL)
theorem aw_icmp_ge {x y : Int32} {off : Int} {tgt : Nat} (hd : decode cc pc = .ok (.if_icmp .ge off, 3)) (ht : (pc : Int) + off = (tgt : Int)) (hp : pc + 3 = pc') (kt : y ≤ x → AW own nm cc nL ret d md mc ms Q tgt L st h kc kn) (kf : ¬ y ≤ x → AW own nm cc nL ret d md mc ms Q pc' L st h kc kn) : AW own nm cc nL ret d md mc ms Q pc L (.int y :: .int x :: st) h kc kn := by
  subst hp
  intro p l e R s m args below meth c D dA b lim gr H locs ls C S P hL
  exact lv_icmp_ge C.1 C.2.1 hd ht (fun q => kt q p l e R s m args below meth c D dA b lim gr H locs ls C S P hL) (fun q => kf q p l e R s m args below meth c D dA b lim gr H locs ls C S P hL)
theorem aw_icmp_gt {x y : Int32} {off : Int} {tgt : Nat} (hd : decode cc pc = .ok (.if_icmp .gt off, 3)) (ht : (pc : Int) + off = (tgt : Int)) (hp : pc + 3 = pc') (kt : y < x → AW own nm cc nL ret d md mc ms Q tgt L st h kc kn) (kf : ¬ y < x → AW own nm cc nL ret d md mc ms Q pc' L st h kc kn) : AW own nm cc nL ret d md mc ms Q pc L (.int y :: .int x :: st) h kc kn := by
  subst hp
  intro p l e R s m args below meth c D dA b lim gr H locs ls C S P hL
  exact lv_icmp_gt C.1 C.2.1 hd ht (fun q => kt q p l e R s m args below meth c D dA b lim gr H locs ls C S P hL) (fun q => kf q p l e R s m args below meth c D dA b lim gr H locs ls C S P hL)
theorem aw_icmp_le {x y : Int32} {off : Int} {tgt : Nat} (hd : decode cc pc = .ok (.if_icmp .le off, 3)) (ht : (pc : Int) + off = (tgt : Int)) (hp : pc + 3 = pc') (kt : x ≤ y → AW own nm cc nL ret d md mc ms Q tgt L st h kc kn) (kf : ¬ x ≤ y → AW own nm cc nL ret d md mc ms Q pc' L st h kc kn) : AW own nm cc nL ret d md mc ms Q pc L (.int y :: .int x :: st) h kc kn := by
  subst hp
  intro p l e R s m args below meth c D dA b lim gr H locs ls C S P hL
  exact lv_icmp_le C.1 C.2.1 hd ht (fun q => kt q p l e R s m args below meth c D dA b lim gr H locs ls C S P hL) (fun q => kf q p l e R s m args below meth c D dA b lim gr H locs ls C S P hL)
theorem aw_goto {off : Int} {tgt : Nat} (hd : decode cc pc = .ok (.goto off, 3)) (ht : (pc : Int) + off = (tgt : Int)) (k : AW own nm cc nL ret d md mc ms Q tgt L st h kc kn) : AW own nm cc nL ret d md mc ms Q pc L st h kc kn := by
  intro p l e R s m args below meth c D dA b lim gr H locs ls C S P hL
  exact lv_goto C.1 C.2.1 hd ht (k p l e R s m args below meth c D dA b lim gr H locs ls C S P hL)
theorem aw_iload_n {i : Fin 4} {x : Int32} (hd : decode cc pc = .ok (.iload_n i, 1)) (hp : pc + 1 = pc') (hl : L[(i : Nat)]? = some (some (.int x))) (k : AW own nm cc nL ret d md mc ms Q pc' L (.int x :: st) h kc kn) : AW own nm cc nL ret d md mc ms Q pc L st h kc kn := by
  subst hp
  intro p l e R s m args below meth c D dA b lim gr H locs ls C S P hL
  exact lv_iload_n C.1 C.2.1 hd rfl (hL.at hl) (k p l e R s m args below meth c D dA b lim gr H locs ls C S P hL)
theorem aw_iload {i : Nat} {x : Int32} (hd : decode cc pc = .ok (.iload i, 2)) (hp : pc + 2 = pc') (hl : L[i]? = some (some (.int x))) (k : AW own nm cc nL ret d md mc ms Q pc' L (.int x :: st) h kc kn) : AW own nm cc nL ret d md mc ms Q pc L st h kc kn := by
  subst hp
  intro p l e R s m args below meth c D dA b lim gr H locs ls C S P hL
  exact lv_iload C.1 C.2.1 hd (hL.at hl) (k p l e R s m args below meth c D dA b lim gr H locs ls C S P hL)
theorem aw_lload_n {i : Fin 4} {x : Int64} (hd : decode cc pc = .ok (.lload_n i, 1)) (hp : pc + 1 = pc') (hl : L[(i : Nat)]? = some (some (.long x))) (k : AW own nm cc nL ret d md mc ms Q pc' L (.long x :: st) h kc kn) : AW own nm cc nL ret d md mc ms Q pc L st h kc kn := by
  subst hp
  intro p l e R s m args below meth c D dA b lim gr H locs ls C S P hL
  exact lv_lload_n C.1 C.2.1 hd rfl (hL.at hl) (k p l e R s m args below meth c D dA b lim gr H locs ls C S P hL)
theorem aw_lload {i : Nat} {x : Int64} (hd : decode cc pc = .ok (.lload i, 2)) (hp : pc + 2 = pc') (hl : L[i]? = some (some (.long x))) (k : AW own nm cc nL ret d md mc ms Q pc' L (.long x :: st) h kc kn) : AW own nm cc nL ret d md mc ms Q pc L st h kc kn := by
  subst hp
  intro p l e R s m args below meth c D dA b lim gr H locs ls C S P hL
  exact lv_lload C.1 C.2.1 hd (hL.at hl) (k p l e R s m args below meth c D dA b lim gr H locs ls C S P hL)
theorem aw_aload_n {i : Fin 4} {x : Nat} (hd : decode cc pc = .ok (.aload_n i, 1)) (hp : pc + 1 = pc') (hl : L[(i : Nat)]? = some (some (.ref x))) (k : AW own nm cc nL ret d md mc ms Q pc' L (.ref x :: st) h kc kn) : AW own nm cc nL ret d md mc ms Q pc L st h kc kn := by
  subst hp
  intro p l e R s m args below meth c D dA b lim gr H locs ls C S P hL
  exact lv_aload_n C.1 C.2.1 hd rfl (hL.at hl) (k p l e R s m args below meth c D dA b lim gr H locs ls C S P hL)
theorem aw_aload {i : Nat} {x : Nat} (hd : decode cc pc = .ok (.aload i, 2)) (hp : pc + 2 = pc') (hl : L[i]? = some (some (.ref x))) (k : AW own nm cc nL ret d md mc ms Q pc' L (.ref x :: st) h kc kn) : AW own nm cc nL ret d md mc ms Q pc L st h kc kn := by
  subst hp
  intro p l e R s m args below meth c D dA b lim gr H locs ls C S P hL
  exact lv_aload C.1 C.2.1 hd (hL.at hl) (k p l e R s m args below meth c D dA b lim gr H locs ls C S P hL)
theorem aw_clr_at {L : List (Option Value)} {i j : Nat} {u : Value} (h : (aw_clr L i)[j]? = some (some u)) : L[j]? = some (some u) ∧ ¬ (j + 1 = i ∧ u.category = 2) := by
  cases i with
  | zero => exact ⟨h, fun q => by omega⟩
  | succ i =>
    simp only [aw_clr] at h
    split at h
    · by_cases hj : j = i
      · subst hj
        simp [List.getElem?_set] at h
      · rw [List.getElem?_set_ne (Ne.symm hj)] at h
        exact ⟨h, fun q => by omega⟩
    · by_cases hj : j = i
      · subst hj
        simp [List.getElem?_set] at h
      · rw [List.getElem?_set_ne (Ne.symm hj)] at h
        exact ⟨h, fun q => by omega⟩
    · rename_i h1 h2
      refine ⟨h, fun q => ?_⟩
      obtain ⟨q1, q2⟩ := q
      have e : j = i := by omega
      subst e
      cases u with
      | long x => exact h1 x h
      | double x => exact h2 x h
      | _ => simp [Value.category] at q2
theorem aw_st1 {b i : Nat} {L : List (Option Value)} {v : Value} {lv : List (Nat × Value)} (h2 : ∀ (i : Nat) (v : Value), L[i]? = some (some v) → (i, aw_v b v) ∈ lv) : ∀ (j : Nat) (u : Value), (aw_s1 L i v)[j]? = some (some u) → (j, aw_v b u) ∈ (i, aw_v b v) :: lv.filter (fun q => !(q.1 == i) && !(q.1 + 1 == i && q.2.category == 2)) := by
  intro j u hj
  unfold aw_s1 at hj
  by_cases e : j = i
  · subst e
    rw [List.getElem?_set] at hj
    simp at hj
    rw [← hj.2]
    exact List.mem_cons_self
  · rw [List.getElem?_set_ne (Ne.symm e)] at hj
    obtain ⟨g1, g2⟩ := aw_clr_at hj
    refine List.mem_cons_of_mem _ (List.mem_filter.mpr ⟨h2 j u g1, ?_⟩)
    simp only [aw_cat, Bool.and_eq_true, Bool.not_eq_true', beq_eq_false_iff_ne, ne_eq, Bool.and_eq_false_iff]
    refine ⟨e, ?_⟩
    by_cases e2 : j + 1 = i
    · exact Or.inr (fun q => g2 ⟨e2, q⟩)
    · exact Or.inl e2
theorem aw_st2 {b i : Nat} {L : List (Option Value)} {v : Value} {lv : List (Nat × Value)} (h2 : ∀ (i : Nat) (v : Value), L[i]? = some (some v) → (i, aw_v b v) ∈ lv) : ∀ (j : Nat) (u : Value), (aw_s2 L i v)[j]? = some (some u) → (j, aw_v b u) ∈ (i, aw_v b v) :: lv.filter (fun q => !(q.1 == i) && (!(q.1 == i + 1) && !(q.1 + 1 == i && q.2.category == 2))) := by
  intro j u hj
  unfold aw_s2 at hj
  by_cases e : j = i
  · subst e
    rw [List.getElem?_set] at hj
    simp at hj
    rw [← hj.2]
    exact List.mem_cons_self
  · rw [List.getElem?_set_ne (Ne.symm e)] at hj
    by_cases e1 : j = i + 1
    · subst e1
      simp [List.getElem?_set] at hj
    · rw [List.getElem?_set_ne (Ne.symm e1)] at hj
      obtain ⟨g1, g2⟩ := aw_clr_at hj
      refine List.mem_cons_of_mem _ (List.mem_filter.mpr ⟨h2 j u g1, ?_⟩)
      simp only [aw_cat, Bool.and_eq_true, Bool.not_eq_true', beq_eq_false_iff_ne, ne_eq, Bool.and_eq_false_iff]
      refine ⟨e, e1, ?_⟩
      by_cases e2 : j + 1 = i
      · exact Or.inr (fun q => g2 ⟨e2, q⟩)
      · exact Or.inl e2
theorem aw_istore_n {i : Fin 4} {x : Int32} (hd : decode cc pc = .ok (.istore_n i, 1)) (hp : pc + 1 = pc') (hn : (i : Nat) < nL) (e : aw_s1 L i (.int x) = L') (k : AW own nm cc nL ret d md mc ms Q pc' L' st h kc kn) : AW own nm cc nL ret d md mc ms Q pc L (.int x :: st) h kc kn := by
  subst hp e
  intro p l e R s m args below meth c D dA b lim gr H locs ls C S P hL
  obtain ⟨lv, h1, h2⟩ := hL
  exact lv_istore_n C.1 C.2.1 hd rfl h1 hn rfl (fun ls' h' => k p l e R s m args below meth c D dA b lim gr H locs ls' C S P ⟨_, h', aw_st1 h2⟩)
theorem aw_istore {i : Nat} {x : Int32} (hd : decode cc pc = .ok (.istore i, 2)) (hp : pc + 2 = pc') (hn : i < nL) (e : aw_s1 L i (.int x) = L') (k : AW own nm cc nL ret d md mc ms Q pc' L' st h kc kn) : AW own nm cc nL ret d md mc ms Q pc L (.int x :: st) h kc kn := by
  subst hp e
  intro p l e R s m args below meth c D dA b lim gr H locs ls C S P hL
  obtain ⟨lv, h1, h2⟩ := hL
  exact lv_istore C.1 C.2.1 hd h1 hn rfl (fun ls' h' => k p l e R s m args below meth c D dA b lim gr H locs ls' C S P ⟨_, h', aw_st1 h2⟩)
theorem aw_lstore_n {i : Fin 4} {x : Int64} (hd : decode cc pc = .ok (.lstore_n i, 1)) (hp : pc + 1 = pc') (hn : (i : Nat) + 1 < nL) (e : aw_s2 L i (.long x) = L') (k : AW own nm cc nL ret d md mc ms Q pc' L' st h kc kn) : AW own nm cc nL ret d md mc ms Q pc L (.long x :: st) h kc kn := by
  subst hp e
  intro p l e R s m args below meth c D dA b lim gr H locs ls C S P hL
  obtain ⟨lv, h1, h2⟩ := hL
  exact lv_lstore_n C.1 C.2.1 hd rfl h1 hn rfl (fun ls' h' => k p l e R s m args below meth c D dA b lim gr H locs ls' C S P ⟨_, h', aw_st2 h2⟩)
theorem aw_lstore {i : Nat} {x : Int64} (hd : decode cc pc = .ok (.lstore i, 2)) (hp : pc + 2 = pc') (hn : i + 1 < nL) (e : aw_s2 L i (.long x) = L') (k : AW own nm cc nL ret d md mc ms Q pc' L' st h kc kn) : AW own nm cc nL ret d md mc ms Q pc L (.long x :: st) h kc kn := by
  subst hp e
  intro p l e R s m args below meth c D dA b lim gr H locs ls C S P hL
  obtain ⟨lv, h1, h2⟩ := hL
  exact lv_lstore C.1 C.2.1 hd h1 hn rfl (fun ls' h' => k p l e R s m args below meth c D dA b lim gr H locs ls' C S P ⟨_, h', aw_st2 h2⟩)
theorem aw_astore_n {i : Fin 4} {x : Nat} (hd : decode cc pc = .ok (.astore_n i, 1)) (hp : pc + 1 = pc') (hn : (i : Nat) < nL) (e : aw_s1 L i (.ref x) = L') (k : AW own nm cc nL ret d md mc ms Q pc' L' st h kc kn) : AW own nm cc nL ret d md mc ms Q pc L (.ref x :: st) h kc kn := by
  subst hp e
  intro p l e R s m args below meth c D dA b lim gr H locs ls C S P hL
  obtain ⟨lv, h1, h2⟩ := hL
  exact lv_astore_n C.1 C.2.1 hd rfl h1 hn rfl (fun ls' h' => k p l e R s m args below meth c D dA b lim gr H locs ls' C S P ⟨_, h', aw_st1 h2⟩)
theorem aw_astore {i : Nat} {x : Nat} (hd : decode cc pc = .ok (.astore i, 2)) (hp : pc + 2 = pc') (hn : i < nL) (e : aw_s1 L i (.ref x) = L') (k : AW own nm cc nL ret d md mc ms Q pc' L' st h kc kn) : AW own nm cc nL ret d md mc ms Q pc L (.ref x :: st) h kc kn := by
  subst hp e
  intro p l e R s m args below meth c D dA b lim gr H locs ls C S P hL
  obtain ⟨lv, h1, h2⟩ := hL
  exact lv_astore C.1 C.2.1 hd h1 hn rfl (fun ls' h' => k p l e R s m args below meth c D dA b lim gr H locs ls' C S P ⟨_, h', aw_st1 h2⟩)
theorem aw_iinc {i : Nat} {n : Int} {x v : Int32} (hd : decode cc pc = .ok (.iinc i n, 3)) (hp : pc + 3 = pc') (hv : Int32.ofInt n = v) (hl : L[i]? = some (some (.int x))) (hn : i < nL) (e : aw_s1 L i (.int (x + v)) = L') (k : AW own nm cc nL ret d md mc ms Q pc' L' st h kc kn) : AW own nm cc nL ret d md mc ms Q pc L st h kc kn := by
  subst hp hv e
  intro p l e R s m args below meth c D dA b lim gr H locs ls C S P hL
  obtain ⟨lv, h1, h2⟩ := hL
  obtain ⟨kk, hk⟩ := List.getElem?_of_mem (h2 i _ hl)
  exact lv_iinc C.1 C.2.1 hd h1 hk rfl hn rfl (fun ls' h' => k p l e R s m args below meth c D dA b lim gr H locs ls' C S P ⟨_, h', aw_st1 h2⟩)
theorem aw_ldc2 {index : Nat} {v : Int64} (hd : decode cc pc = .ok (.ldc2_w index, 3)) (hp : pc + 3 = pc') (hw : Cond.constantLong own index v ∈ wsAll) (k : AW own nm cc nL ret d md mc ms Q pc' L (.long v :: st) h kc kn) : AW own nm cc nL ret d md mc ms Q pc L st h kc kn := by
  subst hp
  intro p l e R s m args below meth c D dA b lim gr H locs ls C S P hL
  exact lv_ldc2 C.1 C.2.1 C.2.2.2.1 (C.2.2.2.2.1 _ hw) hd (k p l e R s m args below meth c D dA b lim gr H locs ls C S P hL)
theorem aw_ldc {index : Nat} {v : Int32} (hd : decode cc pc = .ok (.ldc index, 2)) (hp : pc + 2 = pc') (hw : Cond.constant own index v ∈ wsAll) (k : AW own nm cc nL ret d md mc ms Q pc' L (.int v :: st) h kc kn) : AW own nm cc nL ret d md mc ms Q pc L st h kc kn := by
  subst hp
  intro p l e R s m args below meth c D dA b lim gr H locs ls C S P hL
  exact lv_ldc C.1 C.2.1 C.2.2.2.1 (C.2.2.2.2.1 _ hw) hd (k p l e R s m args below meth c D dA b lim gr H locs ls C S P hL)
theorem aw_ireturn {x : Int32} (hr : ret = some .int) (hd : decode cc pc = .ok (.ireturn, 1)) (hc : kc ≤ mc) (hn : kn ≤ ms) (hq : Q (some (.int x)) h) : AW own nm cc nL ret d md mc ms Q pc L [.int x] h kc kn := by
  intro p l e R s m args below meth c D dA b lim gr H locs ls C S P hL
  refine W.widen (k := mc) (n := ms) hc hn ?_
  exact W.iret (v := x) C.1 C.2.1 (C.2.2.2.2.2.1.trans hr) (fun t ht hW => ⟨⟨some (.int x), h, rfl, hq, by rw [ht]; exact P⟩, S.F ht⟩) S.2.2 hd C.2.2.2.2.2.2.1
theorem aw_zreturn {x : Int32} {ty : FieldType} (hr : ret = some ty) (hx : narrow ty (.int x) = .int x) (hd : decode cc pc = .ok (.ireturn, 1)) (hc : kc ≤ mc) (hn : kn ≤ ms) (hq : Q (some (.int x)) h) : AW own nm cc nL ret d md mc ms Q pc L [.int x] h kc kn := by
  intro p l e R s m args below meth c D dA b lim gr H locs ls C S P hL
  refine W.widen (k := mc) (n := ms) hc hn ?_
  exact W.zret (v := x) C.1 C.2.1 (C.2.2.2.2.2.1.trans hr) hx (fun t ht hW => ⟨⟨some (.int x), h, rfl, hq, by rw [ht]; exact P⟩, S.F ht⟩) S.2.2 hd C.2.2.2.2.2.2.1
theorem aw_lreturn {x : Int64} (hr : ret = some .long) (hd : decode cc pc = .ok (.lreturn, 1)) (hc : kc ≤ mc) (hn : kn ≤ ms) (hq : Q (some (.long x)) h) : AW own nm cc nL ret d md mc ms Q pc L [.long x] h kc kn := by
  intro p l e R s m args below meth c D dA b lim gr H locs ls C S P hL
  refine W.widen (k := mc) (n := ms) hc hn ?_
  exact W.lret (v := x) C.1 C.2.1 (C.2.2.2.2.2.1.trans hr) (fun t ht hW => ⟨⟨some (.long x), h, rfl, hq, by rw [ht]; exact P⟩, S.F ht⟩) S.2.2 hd C.2.2.2.2.2.2.1
theorem aw_return (hr : ret = none) (hd : decode cc pc = .ok (.return_, 1)) (hc : kc ≤ mc) (hn : kn ≤ ms) (hq : Q none h) : AW own nm cc nL ret d md mc ms Q pc L [] h kc kn := by
  intro p l e R s m args below meth c D dA b lim gr H locs ls C S P hL
  refine W.widen (k := mc) (n := ms) hc hn ?_
  exact W.vret C.1 C.2.1 (C.2.2.2.2.2.1.trans hr) (fun t ht hW => ⟨⟨none, h, rfl, hq, by rw [ht]; exact P⟩, S.F ht⟩) S.2.2 hd C.2.2.2.2.2.2.1
theorem aw_ldcw {index : Nat} {v : Int32} (hd : decode cc pc = .ok (.ldc_w index, 3)) (hp : pc + 3 = pc') (hw : Cond.constant own index v ∈ wsAll) (k : AW own nm cc nL ret d md mc ms Q pc' L (.int v :: st) h kc kn) : AW own nm cc nL ret d md mc ms Q pc L st h kc kn := by
  subst hp
  intro p l e R s m args below meth c D dA b lim gr H locs ls C S P hL
  exact lv_ldcw C.1 C.2.1 C.2.2.2.1 (C.2.2.2.2.1 _ hw) hd (k p l e R s m args below meth c D dA b lim gr H locs ls C S P hL)
def aw_fl (own : String) (index ci k : Nat) (CC : String) (T : u_T) (N : Nat) : Prop := vwCl[ci]? = some (CC, T, N) ∧ (∀ w ∈ u_ws CC T N, w ∈ wsAll) ∧ k < N ∧ Cond.fieldLink own index (T k).1 (T k).2.1 (T k).2.2.1 ∈ wsAll
def aw_ty (T : u_T) (N : Nat) (ty0 : Nat → FieldType) : Prop := (∀ k, k < N → parseFieldDescriptor (T k).2.2.1 = some (ty0 k)) ∧ ∀ a, a < N → ∀ b, b < N → a ≠ b → (T a).2.1 ≠ (T b).2.1
theorem aw_get {N ci index k q : Nat} {CC : String} {T : u_T} {fs : List Value} {v : Value} (hd : decode cc pc = .ok (.getfield index, 3)) (hp : pc + 3 = pc') (F : aw_fl own index ci k CC T N) (he : h[q]? = some (.inr (ci, fs))) (hv : fs[k]? = some v) (kk : AW own nm cc nL ret d md mc ms Q pc' L (v :: st) h kc kn) : AW own nm cc nL ret d md mc ms Q pc L (.ref q :: st) h kc kn := by
  subst hp
  intro p l e R s m args below meth c D dA b lim gr H locs ls C S P hL
  obtain ⟨hc, hin, hk, hl⟩ := F
  exact va_get (D := D) (cl := vwCl) (ci := ci) (v := aw_v b v) (ws := [(b + q, aw_e b dA (.inr (ci, fs)))]) (tys := []) C.1 C.2.1 C.2.2.2.2.1 hin C.2.2.2.1 C.2.2.2.2.2.2.2.2.2.1.nil (P.one he) 0 rfl hc k hk (C.2.2.2.2.1 _ hl) (fun _ x => x) (by rw [List.getElem?_map, hv]; rfl) hd (kk p l e R s m args below meth c D dA b lim gr H locs ls C S P hL)
theorem aw_put {N ci index k q : Nat} {CC : String} {T : u_T} {fs : List Value} {v : Value} {ty : FieldType} {ty0 : Nat → FieldType} (hd : decode cc pc = .ok (.putfield index, 3)) (hp : pc + 3 = pc') (F : aw_fl own index ci k CC T N) (Y : aw_ty T N ty0) (hfin : (T k).2.2.2 = false) (hdsc : parseFieldDescriptor (T k).2.2.1 = some ty) (hn : ∀ b, narrow ty (aw_v b v) = aw_v b v) (hfit : ∀ b, fits ty (aw_v b v) = true) (he : h[q]? = some (.inr (ci, fs))) (hlen : k < fs.length) (hh : h.set q (.inr (ci, fs.set k v)) = h') (kk : AW own nm cc nL ret d md mc ms Q pc' L st h' kc kn) : AW own nm cc nL ret d md mc ms Q pc L (v :: .ref q :: st) h kc kn := by
  subst hp hh
  intro p l e R s m args below meth c D dA b lim gr H locs ls C S P hL
  obtain ⟨hc, hin, hk, hl⟩ := F
  obtain ⟨hty, hnm⟩ := Y
  have hts := C.2.2.2.2.1
  have hown := C.2.2.2.1
  have hK := C.2.2.2.2.2.2.2.2.2.1
  have hap := va_apart (own := own) hts hin ty0 hty hnm hK.nil hc
  obtain ⟨r, h1, cell, q1, q2, q3, q4⟩ := P.2.2 q _ he
  have hr : r = (CC, T, N) := Option.some.inj (h1.symm.trans hc)
  subst hr
  obtain ⟨hS, hfc, kC, hkC, hkind⟩ := hK.1 ci _ hc
  obtain ⟨cf, kf, fi, f, hi, hsl⟩ := hS k hk
  have hlay := hts _ (hin _ (u_in_lay hk))
  unfold u_lay at hlay
  rw [if_neg (by rw [hfin]; decide)] at hlay
  have hst := (u_facts hfc hkC (u_lays hts hin hk) hi).1
  have h6 := u_store hfc hkC hkind hlay hi hdsc (hn b) (hfit b)
  refine W.putK C.1 C.2.1 (f := f) ⟨hown, hts _ hl, ⟨_, _, _, hi⟩, hst⟩ (by rw [q2]; exact h6) q1 q3 (by rw [hsl]; exact k2_hasslot (q4 k hk)) rfl rfl hd fun H' e1 e2 e3 => ?_
  rw [hsl] at e1 ⊢
  have hql : q < h.length := (List.getElem?_eq_some_iff.mp he).1
  refine kk p l e R s m args below meth c D dA b lim gr H' _ ls C (S.put e2 e3 (P.inA hql)) (P.put hql e2 ?_ e3) hL
  show va_at D vwCl (b + q, .inr (ci, (fs.set k v).map (aw_v b))) H'
  rw [List.map_set]
  exact ⟨_, hc, t_OB.to (V := updV (vp_V (fs.map (aw_v b))) k (aw_v b v)) ⟨_, e1, q2, q3, t_set q4 hap hk _⟩ (fun j _ => vp_updV_set (by rw [List.length_map]; exact hlen) _ j)⟩
theorem aw_putF {N ci index k q : Nat} {CC : String} {T : u_T} {fs : List Value} {v : Value} {ty : FieldType} {ty0 : Nat → FieldType} (hd : decode cc pc = .ok (.putfield index, 3)) (hp : pc + 3 = pc') (F : aw_fl own index ci k CC T N) (Y : aw_ty T N ty0) (hfin : (T k).2.2.2 = true) (hini : nm = "<init>") (hdecl : (T k).1 = own) (hdsc : parseFieldDescriptor (T k).2.2.1 = some ty) (hn : ∀ b, narrow ty (aw_v b v) = aw_v b v) (hfit : ∀ b, fits ty (aw_v b v) = true) (he : h[q]? = some (.inr (ci, fs))) (hlen : k < fs.length) (hh : h.set q (.inr (ci, fs.set k v)) = h') (kk : AW own nm cc nL ret d md mc ms Q pc' L st h' kc kn) : AW own nm cc nL ret d md mc ms Q pc L (v :: .ref q :: st) h kc kn := by
  subst hp hh
  intro p l e R s m args below meth c D dA b lim gr H locs ls C S P hL
  obtain ⟨hc, hin, hk, hl⟩ := F
  obtain ⟨hty, hnm⟩ := Y
  have hts := C.2.2.2.2.1
  have hown := C.2.2.2.1
  have hK := C.2.2.2.2.2.2.2.2.2.1
  have hap := va_apart (own := own) hts hin ty0 hty hnm hK.nil hc
  obtain ⟨r, h1, cell, q1, q2, q3, q4⟩ := P.2.2 q _ he
  have hr : r = (CC, T, N) := Option.some.inj (h1.symm.trans hc)
  subst hr
  obtain ⟨hS, hfc, kC, hkC, hkind⟩ := hK.1 ci _ hc
  obtain ⟨cf, kf, fi, f, hi, hsl⟩ := hS k hk
  have hlay := hts _ (hin _ (u_in_lay hk))
  unfold u_lay at hlay
  rw [if_pos hfin] at hlay
  have hst := (u_facts hfc hkC (u_lays hts hin hk) hi).1
  have hcf : m.cls = cf := by
    obtain ⟨_, _, c', _, _, _, -, -, hf', -, -, -, hown2, -⟩ := Cond.laysFinal_spec hlay
    have e1 : c' = cf := by have := hi.symm.trans hf'; simp at this; exact this.1.symm
    rw [hdecl] at hown2
    rw [← e1]; exact Option.some.inj (hown.symm.trans hown2)
  have h6 := u_fits hfc hkC hkind (Or.inr hlay) hi hdsc (hn b) (hfit b)
  refine W.putFinK C.1 C.2.1 hown (hts _ hl) hi hst hcf (C.2.2.2.2.2.2.2.1.trans hini) (by rw [q2]; exact h6) q1 q3 (by rw [hsl]; exact k2_hasslot (q4 k hk)) rfl rfl hd fun H' e1 e2 e3 => ?_
  rw [hsl] at e1 ⊢
  have hql : q < h.length := (List.getElem?_eq_some_iff.mp he).1
  refine kk p l e R s m args below meth c D dA b lim gr H' _ ls C (S.put e2 e3 (P.inA hql)) (P.put hql e2 ?_ e3) hL
  show va_at D vwCl (b + q, .inr (ci, (fs.set k v).map (aw_v b))) H'
  rw [List.map_set]
  exact ⟨_, hc, t_OB.to (V := updV (vp_V (fs.map (aw_v b))) k (aw_v b v)) ⟨_, e1, q2, q3, t_set q4 hap hk _⟩ (fun j _ => vp_updV_set (by rw [List.length_map]; exact hlen) _ j)⟩
def aw_fp (own : String) (index ci k : Nat) (CC : String) (T : u_T) (N : Nat) (ty : FieldType) : Prop := aw_fl own index ci k CC T N ∧ (∃ ty0, aw_ty T N ty0) ∧ (T k).2.2.2 = false ∧ parseFieldDescriptor (T k).2.2.1 = some ty
theorem aw_puti {N ci index k q : Nat} {CC : String} {T : u_T} {fs : List Value} {x : Int32} (hd : decode cc pc = .ok (.putfield index, 3)) (hp : pc + 3 = pc') (X : aw_fp own index ci k CC T N .int)  (he : h[q]? = some (.inr (ci, fs))) (hlen : k < fs.length) (hh : h.set q (.inr (ci, fs.set k (.int x))) = h') (kk : AW own nm cc nL ret d md mc ms Q pc' L st h' kc kn) : AW own nm cc nL ret d md mc ms Q pc L (.int x :: .ref q :: st) h kc kn := by
  obtain ⟨F, ⟨ty0, Y⟩, hfin, hds⟩ := X
  exact aw_put hd hp F Y hfin hds (fun _ => vp_nar_int x) (fun _ => rfl) he hlen hh kk
theorem aw_putz {N ci index k q : Nat} {CC : String} {T : u_T} {fs : List Value} {x : Int32} (hd : decode cc pc = .ok (.putfield index, 3)) (hp : pc + 3 = pc') (X : aw_fp own index ci k CC T N .boolean) (g : narrow .boolean (.int x) = .int x ∧ fits .boolean (.int x) = true) (he : h[q]? = some (.inr (ci, fs))) (hlen : k < fs.length) (hh : h.set q (.inr (ci, fs.set k (.int x))) = h') (kk : AW own nm cc nL ret d md mc ms Q pc' L st h' kc kn) : AW own nm cc nL ret d md mc ms Q pc L (.int x :: .ref q :: st) h kc kn := by
  obtain ⟨F, ⟨ty0, Y⟩, hfin, hds⟩ := X
  exact aw_put hd hp F Y hfin hds (fun _ => g.1) (fun _ => g.2) he hlen hh kk
theorem aw_putj {N ci index k q : Nat} {CC : String} {T : u_T} {fs : List Value} {x : Int64} (hd : decode cc pc = .ok (.putfield index, 3)) (hp : pc + 3 = pc') (X : aw_fp own index ci k CC T N .long)  (he : h[q]? = some (.inr (ci, fs))) (hlen : k < fs.length) (hh : h.set q (.inr (ci, fs.set k (.long x))) = h') (kk : AW own nm cc nL ret d md mc ms Q pc' L st h' kc kn) : AW own nm cc nL ret d md mc ms Q pc L (.long x :: .ref q :: st) h kc kn := by
  obtain ⟨F, ⟨ty0, Y⟩, hfin, hds⟩ := X
  exact aw_put hd hp F Y hfin hds (fun _ => rfl) (fun _ => rfl) he hlen hh kk
theorem aw_iald {q t n : Nat} {f : Nat → Int32} {i : Int32} (hd : decode cc pc = .ok (.iaload, 1)) (hp : pc + 1 = pc') (ht : tyTab[t]? = some .int) (he : h[q]? = some (.inl (t, n, .inl f))) (hin : vp_in i n) (kk : AW own nm cc nL ret d md mc ms Q pc' L (.int (f i.toNatClampNeg) :: st) h kc kn) : AW own nm cc nL ret d md mc ms Q pc L (.int i :: .ref q :: st) h kc kn := by
  subst hp
  intro p l e R s m args below meth c D dA b lim gr H locs ls C S P hL
  exact va_iald C.1 C.2.1 (C.2.2.2.2.2.2.2.2.2.1.one ht) (P.one he) 0 0 rfl rfl hin hd (kk p l e R s m args below meth c D dA b lim gr H locs ls C S P hL)
theorem aw_bald {q t n : Nat} {f : Nat → Int32} {i : Int32} (hd : decode cc pc = .ok (.baload, 1)) (hp : pc + 1 = pc') (ht : tyTab[t]? = some .byte) (he : h[q]? = some (.inl (t, n, .inl f))) (hin : vp_in i n) (kk : AW own nm cc nL ret d md mc ms Q pc' L (.int (f i.toNatClampNeg) :: st) h kc kn) : AW own nm cc nL ret d md mc ms Q pc L (.int i :: .ref q :: st) h kc kn := by
  subst hp
  intro p l e R s m args below meth c D dA b lim gr H locs ls C S P hL
  exact va_bald C.1 C.2.1 (C.2.2.2.2.2.2.2.2.2.1.one ht) (P.one he) 0 0 rfl rfl hin hd (kk p l e R s m args below meth c D dA b lim gr H locs ls C S P hL)
theorem aw_lald {q t n : Nat} {f : Nat → Int64} {i : Int32} (hd : decode cc pc = .ok (.laload, 1)) (hp : pc + 1 = pc') (ht : tyTab[t]? = some .long) (he : h[q]? = some (.inl (t, n, .inr (.inl f)))) (hin : vp_in i n) (kk : AW own nm cc nL ret d md mc ms Q pc' L (.long (f i.toNatClampNeg) :: st) h kc kn) : AW own nm cc nL ret d md mc ms Q pc L (.int i :: .ref q :: st) h kc kn := by
  subst hp
  intro p l e R s m args below meth c D dA b lim gr H locs ls C S P hL
  exact va_lald C.1 C.2.1 (C.2.2.2.2.2.2.2.2.2.1.one ht) (P.one he) 0 0 rfl rfl hin hd (kk p l e R s m args below meth c D dA b lim gr H locs ls C S P hL)
theorem aw_a_len (b : Nat) (a : vp_A) : (aw_a b a).1 = a.1 := by
  obtain ⟨n, f | f | f | f | f⟩ := a <;> rfl
theorem aw_alen {q t n : Nat} {a : (Nat → Int32) ⊕ (Nat → Int64) ⊕ (Nat → UInt32) ⊕ (Nat → UInt64) ⊕ (Nat → Option Nat)} {ty : FieldType} (hd : decode cc pc = .ok (.arraylength, 1)) (hp : pc + 1 = pc') (ht : tyTab[t]? = some ty) (he : h[q]? = some (.inl (t, n, a))) (kk : AW own nm cc nL ret d md mc ms Q pc' L (.int (nI n) :: st) h kc kn) : AW own nm cc nL ret d md mc ms Q pc L (.ref q :: st) h kc kn := by
  subst hp
  intro p l e R s m args below meth c D dA b lim gr H locs ls C S P hL
  exact va_alen C.1 C.2.1 (C.2.2.2.2.2.2.2.2.2.1.one ht) (P.one he) 0 0 rfl rfl (by rw [aw_a_len]; rfl) hd (kk p l e R s m args below meth c D dA b lim gr H locs ls C S P hL)
theorem aw_iast {q t n : Nat} {f : Nat → Int32} {i : Int32} {x : Int32} (hd : decode cc pc = .ok (.iastore, 1)) (hp : pc + 1 = pc') (ht : tyTab[t]? = some .int) (he : h[q]? = some (.inl (t, n, .inl f))) (hin : vp_in i n) (hh : h.set q (.inl (t, n, .inl (upd f i.toNatClampNeg x))) = h') (kk : AW own nm cc nL ret d md mc ms Q pc' L st h' kc kn) : AW own nm cc nL ret d md mc ms Q pc L (.int x :: .int i :: .ref q :: st) h kc kn := by
  subst hp hh
  intro p l e R s m args below meth c D dA b lim gr H locs ls C S P hL
  have hK := C.2.2.2.2.2.2.2.2.2.1.one ht
  have hql : q < h.length := (List.getElem?_eq_some_iff.mp he).1
  refine W.iast C.1 C.2.1 (P.2.2 q _ he) ((hK.2 0 _ rfl).1 n (fun j => .int (f j))) (fun q => by cases q) (by show ¬ (i < 0 ∨ (arrV _ _ _).slots.size ≤ _); rw [arrV_size]; exact hin) rfl rfl hd fun H1 e1 z oq => ?_
  refine kk p l e R s m args below meth c D dA b lim gr H1 _ ls C (S.put z oq (P.inA hql)) (P.put hql z ?_ oq) hL
  show H1[b + q]? = some (vp_cell _ _)
  rw [e1]
  show some (Cell.setSlot (vp_cell _ (n, .inl f)) _ _) = some (vp_cell _ (n, .inl _))
  rw [vp_cell_i, vp_cell_i, arrV_store]
  congr 2
  funext j
  by_cases hj : j = i.toNatClampNeg
  · subst hj
    simp [updV, upd]
    try rfl
  · simp [updV, upd, hj]
theorem aw_bast {q t n : Nat} {f : Nat → Int32} {i : Int32} {x : Int32} (hd : decode cc pc = .ok (.bastore, 1)) (hp : pc + 1 = pc') (ht : tyTab[t]? = some .byte) (he : h[q]? = some (.inl (t, n, .inl f))) (hin : vp_in i n) (hh : h.set q (.inl (t, n, .inl (upd f i.toNatClampNeg (vp_nar .byte x)))) = h') (kk : AW own nm cc nL ret d md mc ms Q pc' L st h' kc kn) : AW own nm cc nL ret d md mc ms Q pc L (.int x :: .int i :: .ref q :: st) h kc kn := by
  subst hp hh
  intro p l e R s m args below meth c D dA b lim gr H locs ls C S P hL
  have hK := C.2.2.2.2.2.2.2.2.2.1.one ht
  have hql : q < h.length := (List.getElem?_eq_some_iff.mp he).1
  refine W.bast C.1 C.2.1 (P.2.2 q _ he) ((hK.2 0 _ rfl).1 n (fun j => .int (f j))) (fun q => by cases q) (by show ¬ (i < 0 ∨ (arrV _ _ _).slots.size ≤ _); rw [arrV_size]; exact hin) rfl rfl hd fun H1 e1 z oq => ?_
  refine kk p l e R s m args below meth c D dA b lim gr H1 _ ls C (S.put z oq (P.inA hql)) (P.put hql z ?_ oq) hL
  show H1[b + q]? = some (vp_cell _ _)
  rw [e1]
  show some (Cell.setSlot (vp_cell _ (n, .inl f)) _ _) = some (vp_cell _ (n, .inl _))
  rw [vp_cell_i, vp_cell_i, arrV_store]
  congr 2
  funext j
  by_cases hj : j = i.toNatClampNeg
  · subst hj
    simp [updV, upd, vp_nar]
    try rfl
  · simp [updV, upd, hj]
theorem aw_last {q t n : Nat} {f : Nat → Int64} {i : Int32} {x : Int64} (hd : decode cc pc = .ok (.lastore, 1)) (hp : pc + 1 = pc') (ht : tyTab[t]? = some .long) (he : h[q]? = some (.inl (t, n, .inr (.inl f)))) (hin : vp_in i n) (hh : h.set q (.inl (t, n, .inr (.inl (vp_updL f i.toNatClampNeg x)))) = h') (kk : AW own nm cc nL ret d md mc ms Q pc' L st h' kc kn) : AW own nm cc nL ret d md mc ms Q pc L (.long x :: .int i :: .ref q :: st) h kc kn := by
  subst hp hh
  intro p l e R s m args below meth c D dA b lim gr H locs ls C S P hL
  have hK := C.2.2.2.2.2.2.2.2.2.1.one ht
  have hql : q < h.length := (List.getElem?_eq_some_iff.mp he).1
  refine W.last C.1 C.2.1 (P.2.2 q _ he) ((hK.2 0 _ rfl).1 n (fun j => .long (f j))) (fun q => by cases q) (by show ¬ (i < 0 ∨ (arrV _ _ _).slots.size ≤ _); rw [arrV_size]; exact hin) rfl rfl hd fun H1 e1 z oq => ?_
  refine kk p l e R s m args below meth c D dA b lim gr H1 _ ls C (S.put z oq (P.inA hql)) (P.put hql z ?_ oq) hL
  show H1[b + q]? = some (vp_cell _ _)
  rw [e1]
  show some (Cell.setSlot (vp_cell _ (n, .inr (.inl f))) _ _) = some (vp_cell _ (n, .inr (.inl _)))
  rw [vp_cell_l, vp_cell_l, arrV_store]
  congr 2
  funext j
  by_cases hj : j = i.toNatClampNeg
  · subst hj
    simp [updV, vp_updL]
    try rfl
  · simp [updV, vp_updL, hj]
theorem aw_newa {atype : ArrayType} {ty : FieldType} {t N : Nat} {n : Int32} {a0 : vp_A} (hmd : md = 1) (hd : decode cc pc = .ok (.newarray atype, 2)) (hp : pc + 2 = pc') (ht : tyTab[t]? = some ty) (hty : newarray.typeOf atype = ty) (hw : Cond.arrayClass (newarray.typeOf atype) ∈ wsAll) (ha : ∀ (b : Nat) (cA : ClassId), vp_cell cA (aw_a b a0) = arrV cA N (fun _ => defaultValue ty)) (hra : ∀ (U : State) (cA : ClassId), va_RA U cA ty → U.vm.findClass ("[" ++ ty.toString) = some cA) (hn : ¬ n < 0) (hN : n.toNatClampNeg = N) (hby : N * componentBytes ty ≤ 536870912) (hc : kc + 1 ≤ mc) (hs : kn + N ≤ ms) (hh : h ++ [.inl (t, a0)] = h') {q : Nat} (hq : h.length = q) (kk : AW own nm cc nL ret d md mc ms Q pc' L (.ref q :: st) h' (kc + 1) (kn + N)) : AW own nm cc nL ret d md mc ms Q pc L (.int n :: st) h kc kn := by
  subst hp hh hq
  intro p l e R s m args below meth c D dA b lim gr H locs ls C S P hL
  have hgr : gr = true := C.2.2.2.2.2.2.2.2.2.2.2.1 hmd
  subst hty
  obtain ⟨hfr, hlo, hRc, hRs⟩ := C.2.2.2.2.2.2.2.2.1
  have hK := C.2.2.2.2.2.2.2.2.2.1
  refine va_newaK C.1 C.2.1 (C.2.2.2.2.1 _ hw) rfl hd rfl hn hN hby (by rw [hRc]; exact hc) (by rw [hRs]; exact hs) (P.1 hgr) fun H1 cA e1 z1 o1 hAr hNm => ?_
  have hcA : cA = dA t := Option.some.inj (hNm.symm.trans (hra s _ (hK.2 t _ ht).2))
  subst hcA
  have hPs := P.1 hgr
  refine kk p l e R s m args below meth c D dA b lim gr H1 locs ls C ⟨Nat.le_trans S.1 (by rw [z1, hPs]; omega), fun x g1 g2 => (o1 x (by have := S.1; omega)).trans (S.2.1 x g1 g2), S.2.2⟩ (P.push hgr (by rw [z1, hPs]) ?_ (fun q hq => o1 q (by rw [← hPs]; exact hq))) hL
  show H1[b + h.length]? = some (vp_cell _ _)
  rw [ha]
  exact e1
theorem aw_new {N ci index : Nat} {CC : String} {T : u_T} {fs : List Value} {ty0 : Nat → FieldType} (hmd : md = 1) (hd : decode cc pc = .ok (.new index, 3)) (hp : pc + 3 = pc') (hc : vwCl[ci]? = some (CC, T, N)) (hin : ∀ w ∈ u_ws CC T N, w ∈ wsAll) (Y : aw_ty T N ty0) (hcl : Cond.classLink own index CC ∈ wsAll) (hins : Cond.instantiable CC N ∈ wsAll) (hini : Cond.initialized CC ∈ wsAll) (hfs : ∀ (b j : Nat), j < N → defaultValue (ty0 j) = vp_V (fs.map (aw_v b)) j) (hc1 : kc + 1 ≤ mc) (hs1 : kn + N ≤ ms) (hh : h ++ [.inr (ci, fs)] = h') {q : Nat} (hq : h.length = q) (kk : AW own nm cc nL ret d md mc ms Q pc' L (.ref q :: st) h' (kc + 1) (kn + N)) : AW own nm cc nL ret d md mc ms Q pc L st h kc kn := by
  subst hp hh hq
  intro p l e R s m args below meth c D dA b lim gr H locs ls C S P hL
  have hgr : gr = true := C.2.2.2.2.2.2.2.2.2.2.2.1 hmd
  have hPs := P.1 hgr
  obtain ⟨hfr, hlo, hRc, hRs⟩ := C.2.2.2.2.2.2.2.2.1
  have hts := C.2.2.2.2.1
  have hK := C.2.2.2.2.2.2.2.2.2.1
  have hKn := hK.1 ci _ hc
  refine W.newcK C.1 C.2.1 C.2.2.2.1 (hts _ hcl) (hts _ hins) (hts _ hini) rfl hd (by rw [hRc]; exact hc1) (by rw [hRs]; exact hs1) hKn.2.1 hPs fun H1 kC hkC e1 z1 o1 => ?_
  refine kk p l e R s m args below meth c D dA b lim gr H1 locs ls C ⟨Nat.le_trans S.1 (by rw [z1, hPs]; omega), fun x g1 g2 => (o1 x (by have := S.1; omega)).trans (S.2.1 x g1 g2), S.2.2⟩ (P.push hgr (by rw [z1, hPs]) ?_ (fun q hq => o1 q (by rw [← hPs]; exact hq))) hL
  exact ⟨_, hc, (u_born ty0 hts hin hKn hkC e1 Y.1).to (hfs b)⟩
theorem aw_objInit {index q : Nat} (hd : decode cc pc = .ok (.invokespecial index, 3)) (hp : pc + 3 = pc') (hl : Cond.methodLink own index Lib.objectInit ∈ wsAll) (hi : Cond.instanceMethod Lib.objectInit ∈ wsAll) (hcw : Cond.code Lib.objectInit ⟨#[0xb1]⟩ 1 none ∈ wsAll) (hfr : 1 ≤ d) (hst : (st.map fun v => v.category).sum ≤ 8) (kk : AW own nm cc nL ret d md mc ms Q pc' L st h kc kn) : AW own nm cc nL ret d md mc ms Q pc L (.ref q :: st) h kc kn := by
  subst hp
  intro p l e R s m args below meth c D dA b lim gr H locs ls C S P hL
  obtain ⟨lv, g1, g2⟩ := id hL
  have hts := C.2.2.2.2.1
  have hcats : ((st.map (aw_v b)).map fun v => v.category).sum ≤ 8 := by
    rw [List.map_map]
    have : ((fun v : Value => v.category) ∘ aw_v b) = fun v => v.category := funext (fun v => aw_cat b v)
    rw [this]; exact hst
  refine W.objInit C.1 C.2.1 C.2.2.2.1 (hts _ hl) (hts _ hi) (hts _ hcw) rfl (by rw [C.2.2.1]; exact g1.1) rfl hd (Nat.le_trans hfr C.2.2.2.2.2.2.2.2.1.1) (by have := C.2.2.2.2.2.2.2.2.1.2.1; show 2 * 0 + _ + 12 ≤ _; omega) ?_
  exact kk p l e R s m args below meth c D dA b lim gr H locs ls C S P hL
theorem aw_good : GoodIn wsAll wsAll := fun w hw => ⟨hw, good_of_word (List.all_eq_true.mp wsAll_good w hw)⟩
theorem aw_goodC {y : MethodName} {cy : ByteArray} {nLy : Nat} {rt : Option FieldType} (hcw : Cond.code y cy nLy rt ∈ wsAll) : GoodIn wsAll (Cond.code y cy nLy rt :: wsAll) := by
  intro w hw
  rcases List.mem_cons.mp hw with rfl | hw
  · exact aw_good _ hcw
  · exact aw_good _ hw
theorem aw_cats (b : Nat) (st : List Value) : ((st.map (aw_v b)).map fun v => v.category).sum = (st.map fun v => v.category).sum := by
  rw [List.map_map]
  have e : ((fun v : Value => v.category) ∘ aw_v b) = fun v => v.category := funext (fun v => aw_cat b v)
  rw [e]
theorem aw_blind {D : va_G} {dA : Nat → ClassId} {b lim : Nat} {gr : Bool} {h : aw_H} {av : List Value} : FrameBlind (va_Pc (av.map (aw_v b)) (fun U => aw_P D dA b lim gr h U.heap ∧ aw_K D dA U ∧ aw_N U)) := by
  intro a U g mk q
  obtain ⟨q0, qP, qK, qN⟩ := q
  exact ⟨q0, qP, aw_K.moved (u := U) (U := U.calling g mk a) (Vm.Alike.refl U.vm) qK, aw_N.same (u := U) (U := U.calling g mk a) rfl qN⟩
/- behind a call -/
theorem aw_back {mc' ms' : Nat} {Q' : Option Value → aw_H → Prop} {a : Array Value} {st0 : List Value} {p : Program} {l : Launch} {e : Env} {R : Room} {s : State} {m : MethodId} {args : Array Value} {below : List Frame} {meth : Method} {c : Code} {D : va_G} {dA : Nat → ClassId} {b lim : Nat} {gr : Bool} {H : Heap} {locs : List Loc} {ls : Array Slot}
    (hr : va_Run p l e R s m args below meth c H locs kc kn mc' ms' (F0 m pc ls st0) (st.map (aw_v b)) (aw_Qc D dA b lim gr Q' a) (aw_A b lim gr))
    (C : aw_C own nm cc nL ret d md mc ms p R s m args meth c D dA b gr) (S : va_S (aw_A b lim gr) s.heap H locs) (P : aw_P D dA b lim gr h H) (hL : aw_L b L nL ls)
    (kk : ∀ (v : Option Value) (h' : aw_H), Q' v h' → AW own nm cc nL ret d md mc ms Q (pc + 3) L (v.toList ++ st) h' (kc + mc') (kn + ms')) : W p l e R s m args below meth c H locs kc kn (MQ below (aw_Qc D dA b lim gr Q) args s mc ms (aw_A b lim gr)) (F0 m pc ls st0) := by
  intro T hT X
  obtain ⟨v, st₀, t, T', Lc, h0, X', hLc, e1, e2, ⟨⟨v0, h', hv, hq, hP'⟩, hz, hk⟩, stp⟩ := hr T hT X
  rw [h0] at hz hk
  have hS' : va_S (aw_A b lim gr) s.heap T'.heap (locs ++ Lc) := by
    refine ⟨Nat.le_trans S.1 (by rw [e1]; exact hz), fun q g1 g2 => ?_, fun q hq' => ?_⟩
    · rw [e1, hk q (Nat.lt_of_lt_of_le g1 S.1) g2]
      exact S.2.1 q g1 g2
    · rcases List.mem_append.mp hq' with g | g
      · exact S.2.2 q g
      · exact hLc q g
  have hv' : v = v0.map (aw_v b) := by cases hv; rfl
  obtain ⟨t2, a1, b1⟩ := kk v0 h' hq p l e R s m args below meth c D dA b lim gr T'.heap (locs ++ Lc) ls C hS' (by rw [e1]; exact hP') hL T' rfl X'
  refine ⟨t2, stp t2 ?_, b1⟩
  rw [hv']
  cases v0 <;> exact a1
/- the words of a call: static, virtual, <init>; a nest mate's static -/
def aw_mok (y : MethodName) (n : Nat) : Prop := y.cls ≠ "java/lang/invoke/MethodHandle" ∧ y.cls ≠ "java/lang/invoke/VarHandle" ∧ (parseMethodDescriptor y.desc).map (fun d => d.parameters.length) = some n
def aw_wS (own : String) (index : Nat) (y : MethodName) (cy : ByteArray) (nLy : Nat) (rt : Option FieldType) (n : Nat) : Prop := Cond.code y cy nLy rt ∈ wsAll ∧ Cond.initialized y.cls ∈ wsAll ∧ Cond.methodLink own index y ∈ wsAll ∧ Cond.static y ∈ wsAll ∧ aw_mok y n ∧ nLy ≤ 20
def aw_wN (own : String) (index : Nat) (y : MethodName) (cy : ByteArray) (nLy : Nat) (rt : Option FieldType) (n : Nat) (host : String) : Prop := Cond.code y cy nLy rt ∈ wsAll ∧ Cond.initialized y.cls ∈ wsAll ∧ (own, index, y, host) ∈ nwM ∧ Cond.static y ∈ wsAll ∧ aw_mok y n ∧ nLy ≤ 20
def aw_wV (own : String) (index : Nat) (y : MethodName) (cy : ByteArray) (nLy : Nat) (rt : Option FieldType) (n ci : Nat) (CC : String) (T : u_T) (N : Nat) : Prop := Cond.code y cy nLy rt ∈ wsAll ∧ Cond.initialized y.cls ∈ wsAll ∧ Cond.methodLink own index y ∈ wsAll ∧ Cond.instanceMethod y ∈ wsAll ∧ Cond.selects CC y y ∈ wsAll ∧ vwCl[ci]? = some (CC, T, N) ∧ aw_mok y n ∧ nLy ≤ 20
def aw_wI (own : String) (index : Nat) (y : MethodName) (cy : ByteArray) (nLy : Nat) (n : Nat) : Prop := Cond.code y cy nLy none ∈ wsAll ∧ Cond.initialized y.cls ∈ wsAll ∧ Cond.methodLink own index y ∈ wsAll ∧ Cond.instanceMethod y ∈ wsAll ∧ y.name = "<init>" ∧ aw_mok y n ∧ nLy ≤ 20
theorem aw_callS {y : MethodName} {cy : ByteArray} {nLy d' md' mc' ms' index n : Nat} {av : List Value} {Q' : Option Value → aw_H → Prop} {rt : Option FieldType} (hd : decode cc pc = .ok (.invokestatic index, 3)) (hp : pc + 3 = pc') (X : aw_wS own index y cy nLy rt n) (hM : AM y cy nLy rt d' md' mc' ms' av h Q') (hmd : md' = 0 ∨ md' = md) (hn : av.length = n) (hR : d' + 1 ≤ d) (hf : kc + mc' ≤ mc ∧ kn + ms' ≤ ms) (hst : (st.map fun v => v.category).sum ≤ 8) (kk : ∀ (v : Option Value) (h' : aw_H), Q' v h' → AW own nm cc nL ret d md mc ms Q pc' L (v.toList ++ st) h' (kc + mc') (kn + ms')) : AW own nm cc nL ret d md mc ms Q pc L (av.reverse ++ st) h kc kn := by
  subst hp
  intro p l e R s m args below meth c D dA b lim gr H locs ls C S P hL
  obtain ⟨hcw, hini, hlk, hsta, hy, hnl⟩ := X
  have hts := C.2.2.2.2.1
  obtain ⟨hfr, hlo, hRc, hRs⟩ := C.2.2.2.2.2.2.2.2.1
  obtain ⟨lv, g1, g2⟩ := id hL
  refine aw_back (va_runS (g := F0 m pc ls ((av.reverse ++ st).map (aw_v b))) (As := av.map (aw_v b)) (Ts := wsAll) ⟨C.1, C.2.1, C.2.2.1, C.2.2.2.1, hts⟩ (hM l D dA b lim gr (aw_md_use hmd C.2.2.2.2.2.2.2.2.2.2.2)) ⟨callB_of n hts (aw_goodC hcw) rfl rfl rfl (hts _ hini) (hts _ hlk) hy ⟨by show d' + 1 ≤ _; omega, by show 8 + (nLy + 11) + 40 * d' ≤ _; omega⟩, hts _ hsta⟩ ⟨aw_blind, fun U hU hW => ⟨rfl, by rw [hU]; exact P, C.2.2.2.2.2.2.2.2.2.1.moved hW.alike, C.2.2.2.2.2.2.2.2.2.2.1.warm hW⟩⟩ rfl (by rw [List.length_map]; exact hn) g1.1 (by show (av.reverse ++ st).map (aw_v b) = _; rw [List.map_append, List.map_reverse]) (by show 2 * 0 + _ ≤ _; rw [aw_cats]; omega) hd ⟨by rw [hRc]; exact hf.1, by rw [hRs]; exact hf.2⟩) C S P hL kk
theorem aw_callN {y : MethodName} {cy : ByteArray} {nLy d' md' mc' ms' index n : Nat} {av : List Value} {Q' : Option Value → aw_H → Prop} {rt : Option FieldType} (hd : decode cc pc = .ok (.invokestatic index, 3)) (hp : pc + 3 = pc') {host : String} (X : aw_wN own index y cy nLy rt n host) (hM : AM y cy nLy rt d' md' mc' ms' av h Q') (hmd : md' = 0 ∨ md' = md) (hn : av.length = n) (hR : d' + 1 ≤ d) (hf : kc + mc' ≤ mc ∧ kn + ms' ≤ ms) (hst : (st.map fun v => v.category).sum ≤ 8) (kk : ∀ (v : Option Value) (h' : aw_H), Q' v h' → AW own nm cc nL ret d md mc ms Q pc' L (v.toList ++ st) h' (kc + mc') (kn + ms')) : AW own nm cc nL ret d md mc ms Q pc L (av.reverse ++ st) h kc kn := by
  subst hp
  intro p l e R s m args below meth c D dA b lim gr H locs ls C S P hL
  obtain ⟨hcw, hini, hlk, hsta, hy, hnl⟩ := X
  have hts := C.2.2.2.2.1
  obtain ⟨hfr, hlo, hRc, hRs⟩ := C.2.2.2.2.2.2.2.2.1
  obtain ⟨lv, g1, g2⟩ := id hL
  refine aw_back (va_runSN (g := F0 m pc ls ((av.reverse ++ st).map (aw_v b))) (As := av.map (aw_v b)) (Ts := wsAll) ⟨C.1, C.2.1, C.2.2.1, C.2.2.2.1, hts⟩ (hM l D dA b lim gr (aw_md_use hmd C.2.2.2.2.2.2.2.2.2.2.2)) ⟨va_cnB n hts (aw_goodC hcw) rfl rfl rfl (C.2.2.2.2.2.2.2.2.2.2.1 _ hlk) (hts _ hini) hy ⟨by show d' + 1 ≤ _; omega, by show 8 + (nLy + 11) + 40 * d' ≤ _; omega⟩, hts _ hsta, trivial⟩ ⟨aw_blind, fun U hU hW => ⟨rfl, by rw [hU]; exact P, C.2.2.2.2.2.2.2.2.2.1.moved hW.alike, C.2.2.2.2.2.2.2.2.2.2.1.warm hW⟩⟩ rfl (by rw [List.length_map]; exact hn) g1.1 (by show (av.reverse ++ st).map (aw_v b) = _; rw [List.map_append, List.map_reverse]) (by show 2 * 0 + _ ≤ _; rw [aw_cats]; omega) hd ⟨by rw [hRc]; exact hf.1, by rw [hRs]; exact hf.2⟩) C S P hL kk
theorem aw_callV {y : MethodName} {cy : ByteArray} {nLy d' md' mc' ms' index n : Nat} {av : List Value} {Q' : Option Value → aw_H → Prop} {rt : Option FieldType} {CC : String} {T : u_T} {N ci q : Nat} {fs : List Value} (hd : decode cc pc = .ok (.invokevirtual index, 3)) (hp : pc + 3 = pc') (X : aw_wV own index y cy nLy rt n ci CC T N) (he : h[q]? = some (.inr (ci, fs))) (hM : AM y cy nLy rt d' md' mc' ms' (.ref q :: av) h Q') (hmd : md' = 0 ∨ md' = md) (hn : av.length = n) (hR : d' + 1 ≤ d) (hf : kc + mc' ≤ mc ∧ kn + ms' ≤ ms) (hst : (st.map fun v => v.category).sum ≤ 8) (kk : ∀ (v : Option Value) (h' : aw_H), Q' v h' → AW own nm cc nL ret d md mc ms Q pc' L (v.toList ++ st) h' (kc + mc') (kn + ms')) : AW own nm cc nL ret d md mc ms Q pc L (av.reverse ++ .ref q :: st) h kc kn := by
  subst hp
  intro p l e R s m args below meth c D dA b lim gr H locs ls C S P hL
  obtain ⟨hcw, hini, hlk, hins, hsel, hc, hy, hnl⟩ := X
  have hts := C.2.2.2.2.1
  obtain ⟨hfr, hlo, hRc, hRs⟩ := C.2.2.2.2.2.2.2.2.1
  obtain ⟨lv, g1, g2⟩ := id hL
  refine aw_back (va_runV (g := F0 m pc ls ((av.reverse ++ .ref q :: st).map (aw_v b))) (b := b + q) (C := CC) (As := av.map (aw_v b)) (Ts := wsAll) ⟨C.1, C.2.1, C.2.2.1, C.2.2.2.1, hts⟩ (hM l D dA b lim gr (aw_md_use hmd C.2.2.2.2.2.2.2.2.2.2.2)) ⟨callB_of n hts (aw_goodC hcw) rfl rfl rfl (hts _ hini) (hts _ hlk) hy ⟨by show d' + 1 ≤ _; omega, by show 8 + (nLy + 11) + 40 * d' ≤ _; omega⟩, hts _ hins, hts _ hsel⟩ ⟨aw_blind, va_recv C.2.2.2.2.2.2.2.2.2.1.nil (P.one he) hc (q0 := 0) rfl, fun U hU hW => ⟨rfl, by rw [hU]; exact P, C.2.2.2.2.2.2.2.2.2.1.moved hW.alike, C.2.2.2.2.2.2.2.2.2.2.1.warm hW⟩⟩ rfl (by rw [List.length_map]; exact hn) g1.1 (by show (av.reverse ++ .ref q :: st).map (aw_v b) = _; rw [List.map_append, List.map_reverse]; rfl) (by show 2 * 0 + _ ≤ _; rw [aw_cats]; omega) hd ⟨by rw [hRc]; exact hf.1, by rw [hRs]; exact hf.2⟩) C S P hL kk
theorem aw_callI {y : MethodName} {cy : ByteArray} {nLy d' md' mc' ms' index n : Nat} {av : List Value} {Q' : Option Value → aw_H → Prop} {q : Nat} (hd : decode cc pc = .ok (.invokespecial index, 3)) (hp : pc + 3 = pc') (X : aw_wI own index y cy nLy n) (hM : AM y cy nLy none d' md' mc' ms' (.ref q :: av) h Q') (hmd : md' = 0 ∨ md' = md) (hn : av.length = n) (hR : d' + 1 ≤ d) (hf : kc + mc' ≤ mc ∧ kn + ms' ≤ ms) (hst : (st.map fun v => v.category).sum ≤ 8) (kk : ∀ (v : Option Value) (h' : aw_H), Q' v h' → AW own nm cc nL ret d md mc ms Q pc' L (v.toList ++ st) h' (kc + mc') (kn + ms')) : AW own nm cc nL ret d md mc ms Q pc L (av.reverse ++ .ref q :: st) h kc kn := by
  subst hp
  intro p l e R s m args below meth c D dA b lim gr H locs ls C S P hL
  obtain ⟨hcw, hini, hlk, hins, hy1, hy, hnl⟩ := X
  have hts := C.2.2.2.2.1
  obtain ⟨hfr, hlo, hRc, hRs⟩ := C.2.2.2.2.2.2.2.2.1
  obtain ⟨lv, g1, g2⟩ := id hL
  refine aw_back (va_runI (g := F0 m pc ls ((av.reverse ++ .ref q :: st).map (aw_v b))) (b := b + q) (As := av.map (aw_v b)) (Ts := wsAll) ⟨C.1, C.2.1, C.2.2.1, C.2.2.2.1, hts⟩ (hM l D dA b lim gr (aw_md_use hmd C.2.2.2.2.2.2.2.2.2.2.2)) ⟨callB_of n hts (aw_goodC hcw) rfl rfl rfl (hts _ hini) (hts _ hlk) hy ⟨by show d' + 1 ≤ _; omega, by show 8 + (nLy + 11) + 40 * d' ≤ _; omega⟩, hy1, hts _ hins⟩ ⟨aw_blind, fun U hU hW => ⟨rfl, by rw [hU]; exact P, C.2.2.2.2.2.2.2.2.2.1.moved hW.alike, C.2.2.2.2.2.2.2.2.2.2.1.warm hW⟩⟩ rfl (by rw [List.length_map]; exact hn) g1.1 (by show (av.reverse ++ .ref q :: st).map (aw_v b) = _; rw [List.map_append, List.map_reverse]; rfl) (by show 2 * 0 + _ ≤ _; rw [aw_cats]; omega) hd ⟨by rw [hRc]; exact hf.1, by rw [hRs]; exact hf.2⟩) C S P hL kk
def aw_is (v0 : Option Value) (h1 : aw_H) : Option Value → aw_H → Prop := fun v h => v = v0 ∧ h = h1
theorem aw_callSv {y : MethodName} {cy : ByteArray} {nLy d' md' index n : Nat} {av : List Value} {v : Value} {h1 : aw_H} {rt : Option FieldType} (hd : decode cc pc = .ok (.invokestatic index, 3)) (hp : pc + 3 = pc') (X : aw_wS own index y cy nLy rt n) (hM : AM y cy nLy rt d' md' 0 0 (av) h (aw_is (some v) h1)) (hmd : md' = 0 ∨ md' = md) (hn : av.length = n) (hR : d' + 1 ≤ d) (hst : (st.map fun v => v.category).sum ≤ 8) (hkc : kc ≤ mc ∧ kn ≤ ms) (kk : AW own nm cc nL ret d md mc ms Q pc' L (v :: st) h1 kc kn) : AW own nm cc nL ret d md mc ms Q pc L (av.reverse ++ st) h kc kn := by
  refine aw_callS hd hp X hM hmd hn hR hkc hst ?_
  rintro _ _ ⟨rfl, rfl⟩
  exact kk
theorem aw_callSn {y : MethodName} {cy : ByteArray} {nLy d' md' index n : Nat} {av : List Value}  {h1 : aw_H} {rt : Option FieldType} (hd : decode cc pc = .ok (.invokestatic index, 3)) (hp : pc + 3 = pc') (X : aw_wS own index y cy nLy rt n) (hM : AM y cy nLy rt d' md' 0 0 (av) h (aw_is (none) h1)) (hmd : md' = 0 ∨ md' = md) (hn : av.length = n) (hR : d' + 1 ≤ d) (hst : (st.map fun v => v.category).sum ≤ 8) (hkc : kc ≤ mc ∧ kn ≤ ms) (kk : AW own nm cc nL ret d md mc ms Q pc' L st h1 kc kn) : AW own nm cc nL ret d md mc ms Q pc L (av.reverse ++ st) h kc kn := by
  refine aw_callS hd hp X hM hmd hn hR hkc hst ?_
  rintro _ _ ⟨rfl, rfl⟩
  exact kk
theorem aw_callNv {y : MethodName} {cy : ByteArray} {nLy d' md' index n : Nat} {av : List Value} {v : Value} {h1 : aw_H} {rt : Option FieldType} (hd : decode cc pc = .ok (.invokestatic index, 3)) (hp : pc + 3 = pc') {host : String} (X : aw_wN own index y cy nLy rt n host) (hM : AM y cy nLy rt d' md' 0 0 (av) h (aw_is (some v) h1)) (hmd : md' = 0 ∨ md' = md) (hn : av.length = n) (hR : d' + 1 ≤ d) (hst : (st.map fun v => v.category).sum ≤ 8) (hkc : kc ≤ mc ∧ kn ≤ ms) (kk : AW own nm cc nL ret d md mc ms Q pc' L (v :: st) h1 kc kn) : AW own nm cc nL ret d md mc ms Q pc L (av.reverse ++ st) h kc kn := by
  refine aw_callN hd hp X hM hmd hn hR hkc hst ?_
  rintro _ _ ⟨rfl, rfl⟩
  exact kk
theorem aw_callNn {y : MethodName} {cy : ByteArray} {nLy d' md' index n : Nat} {av : List Value}  {h1 : aw_H} {rt : Option FieldType} (hd : decode cc pc = .ok (.invokestatic index, 3)) (hp : pc + 3 = pc') {host : String} (X : aw_wN own index y cy nLy rt n host) (hM : AM y cy nLy rt d' md' 0 0 (av) h (aw_is (none) h1)) (hmd : md' = 0 ∨ md' = md) (hn : av.length = n) (hR : d' + 1 ≤ d) (hst : (st.map fun v => v.category).sum ≤ 8) (hkc : kc ≤ mc ∧ kn ≤ ms) (kk : AW own nm cc nL ret d md mc ms Q pc' L st h1 kc kn) : AW own nm cc nL ret d md mc ms Q pc L (av.reverse ++ st) h kc kn := by
  refine aw_callN hd hp X hM hmd hn hR hkc hst ?_
  rintro _ _ ⟨rfl, rfl⟩
  exact kk
theorem aw_callVv {y : MethodName} {cy : ByteArray} {nLy d' md' index n : Nat} {av : List Value} {v : Value} {h1 : aw_H} {rt : Option FieldType} (hd : decode cc pc = .ok (.invokevirtual index, 3)) (hp : pc + 3 = pc') {CC : String} {T : u_T} {N ci q : Nat} {fs : List Value} (X : aw_wV own index y cy nLy rt n ci CC T N) (he : h[q]? = some (.inr (ci, fs))) (hM : AM y cy nLy rt d' md' 0 0 (.ref q :: av) h (aw_is (some v) h1)) (hmd : md' = 0 ∨ md' = md) (hn : av.length = n) (hR : d' + 1 ≤ d) (hst : (st.map fun v => v.category).sum ≤ 8) (hkc : kc ≤ mc ∧ kn ≤ ms) (kk : AW own nm cc nL ret d md mc ms Q pc' L (v :: st) h1 kc kn) : AW own nm cc nL ret d md mc ms Q pc L (av.reverse ++ .ref q :: st) h kc kn := by
  refine aw_callV hd hp X he hM hmd hn hR hkc hst ?_
  rintro _ _ ⟨rfl, rfl⟩
  exact kk
theorem aw_callVn {y : MethodName} {cy : ByteArray} {nLy d' md' index n : Nat} {av : List Value}  {h1 : aw_H} {rt : Option FieldType} (hd : decode cc pc = .ok (.invokevirtual index, 3)) (hp : pc + 3 = pc') {CC : String} {T : u_T} {N ci q : Nat} {fs : List Value} (X : aw_wV own index y cy nLy rt n ci CC T N) (he : h[q]? = some (.inr (ci, fs))) (hM : AM y cy nLy rt d' md' 0 0 (.ref q :: av) h (aw_is (none) h1)) (hmd : md' = 0 ∨ md' = md) (hn : av.length = n) (hR : d' + 1 ≤ d) (hst : (st.map fun v => v.category).sum ≤ 8) (hkc : kc ≤ mc ∧ kn ≤ ms) (kk : AW own nm cc nL ret d md mc ms Q pc' L st h1 kc kn) : AW own nm cc nL ret d md mc ms Q pc L (av.reverse ++ .ref q :: st) h kc kn := by
  refine aw_callV hd hp X he hM hmd hn hR hkc hst ?_
  rintro _ _ ⟨rfl, rfl⟩
  exact kk
theorem aw_mmax {index : Nat} {x y : Int32} (hd : decode cc pc = .ok (.invokestatic index, 3)) (hp : pc + 3 = pc') (X : Cond.methodLink own index Lib.Math.max.name ∈ wsAll ∧ Cond.static Lib.Math.max.name ∈ wsAll ∧ Cond.initialized "java/lang/Math" ∈ wsAll ∧ Cond.code Lib.Math.max.name Lib.Math.max.code 2 (some .int) ∈ wsAll) (hfr : 1 ≤ d) (hst : (st.map fun v => v.category).sum ≤ 8) (hc : kc ≤ mc) (hn : kn ≤ ms) (k : AW own nm cc nL ret d md mc ms Q pc' L (.int (if x < y then y else x) :: st) h kc kn) : AW own nm cc nL ret d md mc ms Q pc L (.int y :: .int x :: st) h kc kn := by
  subst hp
  intro p l e R s m args below meth c D dA b lim gr H locs ls C S P hL
  obtain ⟨hlk, hsta, hini, hcw⟩ := X
  have hts := C.2.2.2.2.1
  obtain ⟨hfr', hlo, hRc, hRs⟩ := C.2.2.2.2.2.2.2.2.1
  obtain ⟨lv, g1, g2⟩ := id hL
  exact va_mmax C.1 C.2.1 (C.2.2.1.trans g1.1.symm) C.2.2.2.1 (hts _ hlk) (hts _ hsta) (hts _ hini) (hts _ hcw) (Nat.le_trans hfr hfr') (by rw [aw_cats]; omega) (by rw [hRc]; exact hc) (by rw [hRs]; exact hn) hd (k p l e R s m args below meth c D dA b lim gr H locs ls C S P hL)
theorem aw_mmin {index : Nat} {x y : Int32} (hd : decode cc pc = .ok (.invokestatic index, 3)) (hp : pc + 3 = pc') (X : Cond.methodLink own index Lib.Math.min.name ∈ wsAll ∧ Cond.static Lib.Math.min.name ∈ wsAll ∧ Cond.initialized "java/lang/Math" ∈ wsAll ∧ Cond.code Lib.Math.min.name Lib.Math.min.code 2 (some .int) ∈ wsAll) (hfr : 1 ≤ d) (hst : (st.map fun v => v.category).sum ≤ 8) (hc : kc ≤ mc) (hn : kn ≤ ms) (k : AW own nm cc nL ret d md mc ms Q pc' L (.int (if y < x then y else x) :: st) h kc kn) : AW own nm cc nL ret d md mc ms Q pc L (.int y :: .int x :: st) h kc kn := by
  subst hp
  intro p l e R s m args below meth c D dA b lim gr H locs ls C S P hL
  obtain ⟨hlk, hsta, hini, hcw⟩ := X
  have hts := C.2.2.2.2.1
  obtain ⟨hfr', hlo, hRc, hRs⟩ := C.2.2.2.2.2.2.2.2.1
  obtain ⟨lv, g1, g2⟩ := id hL
  exact va_mmin C.1 C.2.1 (C.2.2.1.trans g1.1.symm) C.2.2.2.1 (hts _ hlk) (hts _ hsta) (hts _ hini) (hts _ hcw) (Nat.le_trans hfr hfr') (by rw [aw_cats]; omega) (by rw [hRc]; exact hc) (by rw [hRs]; exact hn) hd (k p l e R s m args below meth c D dA b lim gr H locs ls C S P hL)
theorem aw_mmaxl {index : Nat} {x y : Int64} (hd : decode cc pc = .ok (.invokestatic index, 3)) (hp : pc + 3 = pc') (X : Cond.methodLink own index Lib.MathLoose.max_long.x ∈ wsAll ∧ Cond.static Lib.MathLoose.max_long.x ∈ wsAll ∧ Cond.initialized "java/lang/Math" ∈ wsAll ∧ Cond.code Lib.MathLoose.max_long.x Lib.MathLoose.max_long.code 4 (some .long) ∈ wsAll) (hfr : 1 ≤ d) (hst : (st.map fun v => v.category).sum ≤ 8) (hc : kc ≤ mc) (hn : kn ≤ ms) (k : AW own nm cc nL ret d md mc ms Q pc' L (.long (if y < x then x else y) :: st) h kc kn) : AW own nm cc nL ret d md mc ms Q pc L (.long y :: .long x :: st) h kc kn := by
  subst hp
  intro p l e R s m args below meth c D dA b lim gr H locs ls C S P hL
  obtain ⟨hlk, hsta, hini, hcw⟩ := X
  have hts := C.2.2.2.2.1
  obtain ⟨hfr', hlo, hRc, hRs⟩ := C.2.2.2.2.2.2.2.2.1
  obtain ⟨lv, g1, g2⟩ := id hL
  exact va_mmax_long C.1 C.2.1 (C.2.2.1.trans g1.1.symm) C.2.2.2.1 (hts _ hlk) (hts _ hsta) (hts _ hini) (hts _ hcw) (Nat.le_trans hfr hfr') (by rw [aw_cats]; omega) (by rw [hRc]; exact hc) (by rw [hRs]; exact hn) hd (k p l e R s m args below meth c D dA b lim gr H locs ls C S P hL)
theorem aw_mabsl {index : Nat} {x : Int64} (hd : decode cc pc = .ok (.invokestatic index, 3)) (hp : pc + 3 = pc') (X : Cond.methodLink own index Lib.MathLoose.abs_long.x ∈ wsAll ∧ Cond.static Lib.MathLoose.abs_long.x ∈ wsAll ∧ Cond.initialized "java/lang/Math" ∈ wsAll ∧ Cond.code Lib.MathLoose.abs_long.x Lib.MathLoose.abs_long.code 2 (some .long) ∈ wsAll) (hfr : 1 ≤ d) (hst : (st.map fun v => v.category).sum ≤ 8) (hc : kc ≤ mc) (hn : kn ≤ ms) (k : AW own nm cc nL ret d md mc ms Q pc' L (.long (if 0 < x then x else -x) :: st) h kc kn) : AW own nm cc nL ret d md mc ms Q pc L (.long x :: st) h kc kn := by
  subst hp
  intro p l e R s m args below meth c D dA b lim gr H locs ls C S P hL
  obtain ⟨hlk, hsta, hini, hcw⟩ := X
  have hts := C.2.2.2.2.1
  obtain ⟨hfr', hlo, hRc, hRs⟩ := C.2.2.2.2.2.2.2.2.1
  obtain ⟨lv, g1, g2⟩ := id hL
  exact va_mabs_long C.1 C.2.1 (C.2.2.1.trans g1.1.symm) C.2.2.2.1 (hts _ hlk) (hts _ hsta) (hts _ hini) (hts _ hcw) (Nat.le_trans hfr hfr') (by rw [aw_cats]; omega) (by rw [hRc]; exact hc) (by rw [hRs]; exact hn) hd (k p l e R s m args below meth c D dA b lim gr H locs ls C S P hL)
def aw_ws (b : Nat) (dA : Nat → ClassId) (h : aw_H) : va_W := h.mapIdx (fun k e => (b + k, aw_e b dA e))
theorem aw_ws_at (b : Nat) (dA : Nat → ClassId) (h : aw_H) (k : Nat) : (aw_ws b dA h)[k]? = (h[k]?).map (fun e => (b + k, aw_e b dA e)) := by
  unfold aw_ws
  rw [List.getElem?_mapIdx]
theorem aw_ws_P {D : va_G} {dA : Nat → ClassId} {b lim : Nat} {gr : Bool} {h : aw_H} {H : Heap} (hP : aw_P D dA b lim gr h H) : va_P D vwCl (aw_ws b dA h) H := by
  intro k q hq
  rw [aw_ws_at] at hq
  cases he : h[k]? with
  | none => rw [he] at hq; cases hq
  | some e => rw [he] at hq; cases hq; exact hP.2.2 k e he
theorem aw_ws_D {D : va_G} {dA : Nat → ClassId} {b lim : Nat} {gr : Bool} {h : aw_H} {H : Heap} (hP : aw_P D dA b lim gr h H) : va_D (aw_A b lim gr) (aw_ws b dA h) := by
  refine ⟨fun i j p q hi hj e => ?_, fun k q hq => ?_⟩
  · rw [aw_ws_at] at hi hj
    cases h1 : h[i]? with
    | none => rw [h1] at hi; cases hi
    | some e1 =>
      cases h2 : h[j]? with
      | none => rw [h2] at hj; cases hj
      | some e2 =>
        rw [h1] at hi; rw [h2] at hj
        cases hi; cases hj
        simp only at e
        omega
  · rw [aw_ws_at] at hq
    cases he : h[k]? with
    | none => rw [he] at hq; cases hq
    | some e => rw [he] at hq; cases hq; exact hP.inA (List.getElem?_eq_some_iff.mp he).1
theorem aw_ws_set (b : Nat) (dA : Nat → ClassId) (h : aw_H) (k : Nat) (e : aw_E) : (aw_ws b dA h).set k (b + k, aw_e b dA e) = aw_ws b dA (h.set k e) := by
  apply List.ext_getElem?
  intro j
  rw [aw_ws_at, List.getElem?_set, List.getElem?_set]
  have hl : (aw_ws b dA h).length = h.length := by unfold aw_ws; rw [List.length_mapIdx]
  by_cases hj : k = j
  · subst hj
    rw [if_pos rfl, if_pos rfl, hl]
    by_cases hk : k < h.length
    · rw [if_pos hk, if_pos hk]; rfl
    · rw [if_neg hk, if_neg hk]; rfl
  · rw [if_neg hj, if_neg hj, aw_ws_at]
theorem aw_ws_of {D : va_G} {dA : Nat → ClassId} {b lim : Nat} {h : aw_H} {H : Heap} (hl : h.length ≤ lim) (hP : va_P D vwCl (aw_ws b dA h) H) : aw_P D dA b lim false h H := by
  refine ⟨(fun g => by cases g), fun _ => hl, fun k e he => ?_⟩
  have := hP k (b + k, aw_e b dA e) (by rw [aw_ws_at, he]; rfl)
  exact this
def aw_wY (own : String) (index : Nat) : Prop := Cond.methodLink own index arraycopyName ∈ wsAll ∧ Cond.native arraycopyName ∈ wsAll ∧ Cond.static arraycopyName ∈ wsAll ∧ Cond.initialized "java/lang/System" ∈ wsAll
theorem aw_native {b : Nat} {st : List Value} {d X : Nat} (hst : (st.map fun v => v.category).sum ≤ 8) (hlo : 40 * d ≤ X) (hd : 1 ≤ d) : ((st.map (aw_v b)).map fun v => v.category).sum + (nativeFrameWords "java/lang/System" "arraycopy" 5 + 11) ≤ X := by
  rw [aw_cats]
  have h : nativeFrameWords "java/lang/System" "arraycopy" 5 ≤ 20 := by decide +kernel
  omega
def aw_cg (sp dp ln : Int32) (n0 n1 : Nat) : Prop := ¬ sp < 0 ∧ ¬ dp < 0 ∧ ¬ ln < 0 ∧ sp.toNatClampNeg + ln.toNatClampNeg ≤ n0 ∧ dp.toNatClampNeg + ln.toNatClampNeg ≤ n1
theorem aw_copyl {index q0 q1 t n0 n1 : Nat} {f g : Nat → Int64} {sp dp ln : Int32} (hmd : md = 2) (hd : decode cc pc = .ok (.invokestatic index, 3)) (hp : pc + 3 = pc') (X : aw_wY own index) (ht : tyTab[t]? = some .long) (he0 : h[q0]? = some (.inl (t, n0, .inr (.inl f)))) (he1 : h[q1]? = some (.inl (t, n1, .inr (.inl g)))) (hg : aw_cg sp dp ln n0 n1) (hfr : 1 ≤ d) (hst : (st.map fun v => v.category).sum ≤ 8) (hh : h.set q1 (.inl (t, n1, .inr (.inl (va_cpy f g sp.toNatClampNeg dp.toNatClampNeg ln.toNatClampNeg)))) = h') (kk : AW own nm cc nL ret d md mc ms Q pc' L st h' kc kn) : AW own nm cc nL ret d md mc ms Q pc L (.int ln :: .int dp :: .ref q1 :: .int sp :: .ref q0 :: st) h kc kn := by
  subst hp hh
  intro p l e R s m args below meth c D dA b lim gr H locs ls C S P hL
  obtain ⟨hlk, hnat, hsta, hini⟩ := X
  obtain ⟨h1, h2, h3, h4, h5⟩ := hg
  have hts := C.2.2.2.2.1
  obtain ⟨hfr', hlo, hRc, hRs⟩ := C.2.2.2.2.2.2.2.2.1
  obtain ⟨lv, g1, g2⟩ := id hL
  have hgr : gr = false := C.2.2.2.2.2.2.2.2.2.2.2.2 hmd
  subst hgr
  have hq1 : q1 < h.length := (List.getElem?_eq_some_iff.mp he1).1
  refine va_copyl (D := D) (cl := vwCl) (tys := [(dA t, FieldType.long)]) (ws := aw_ws b dA h) (A := aw_A b lim false) (H0 := s.heap) (ty := .long) C.1 C.2.1 (C.2.2.1.trans g1.1.symm) C.2.2.2.1 (hts _ hlk) (hts _ hnat) (hts _ hsta) (hts _ hini) (C.2.2.2.2.2.2.2.2.2.1.one ht) (aw_ws_P P) (aw_ws_D P) S q0 q1 0 0 (a0 := b + q0) (a := b + q1) (by rw [aw_ws_at, he0]; rfl) (by rw [aw_ws_at, he1]; rfl) rfl rfl rfl h1 h2 h3 h4 h5 (fun _ _ => rfl) (Nat.le_trans hfr hfr') (aw_native hst hlo (Nat.le_trans hfr (Nat.le_refl d))) hd ?_
  intro H1 locs1 hP1 hD1 hS1
  have hP2 : va_P D vwCl (aw_ws b dA (h.set q1 (.inl (t, n1, .inr (.inl (va_cpy f g sp.toNatClampNeg dp.toNatClampNeg ln.toNatClampNeg)))))) H1 := by
    rw [← aw_ws_set]; exact hP1
  exact kk p l e R s m args below meth c D dA b lim false H1 locs1 ls C hS1 (aw_ws_of (by rw [List.length_set]; exact P.2.1 rfl) hP2) hL
end AWR
/- a method's start -/
def aw_al : List Value → List (Option Value)
  | [] => []
  | v :: vs => if v.category = 2 then some v :: none :: aw_al vs else some v :: aw_al vs
def aw_in (av : List Value) (nL : Nat) : List (Option Value) := aw_al av ++ List.replicate (nL - (aw_al av).length) none
theorem aw_al_at (b : Nat) : ∀ (av : List Value) (o i : Nat) (v : Value), (aw_al av)[i]? = some (some v) → (o + i, aw_v b v) ∈ lv_args o (av.map (aw_v b))
  | [], o, i, v, h => by simp [aw_al] at h
  | u :: us, o, i, v, h => by
    by_cases hc : u.category = 2
    · simp only [aw_al, hc, if_true] at h
      simp only [List.map_cons, lv_args, aw_cat, hc, if_true]
      match i, h with
      | 0, h => cases h; exact List.mem_cons_self
      | 1, h => simp at h
      | i + 2, h =>
        have := aw_al_at b us (o + 2) i v (by simpa using h)
        rw [show o + (i + 2) = o + 2 + i by omega]
        exact List.mem_cons_of_mem _ this
    · simp only [aw_al, hc, if_false] at h
      simp only [List.map_cons, lv_args, aw_cat, hc, if_false]
      match i, h with
      | 0, h => cases h; exact List.mem_cons_self
      | i + 1, h =>
        have := aw_al_at b us (o + 1) i v (by simpa using h)
        rw [show o + (i + 1) = o + 1 + i by omega]
        exact List.mem_cons_of_mem _ this
theorem aw_sl (b : Nat) : ∀ av : List Value, (lg_sl (av.map (aw_v b))).length = (lg_sl av).length
  | [] => rfl
  | v :: vs => by
    have ih := aw_sl b vs
    simp only [lg_sl, List.map_cons, List.flatMap_cons, List.length_append, aw_cat] at ih ⊢
    rw [ih]
    by_cases hc : v.category = 2 <;> simp [hc]
theorem AM.of {y : MethodName} {cc : ByteArray} {nL : Nat} {ret : Option FieldType} {d md mc ms : Nat} {av : List Value} {h : aw_H} {Q : Option Value → aw_H → Prop} {L : List (Option Value)} {own nm : String} (ho : y.cls = own) (hnm : y.name = nm) (hy : plainName y.cls = true) (hlen : (lg_sl av).length ≤ nL) (hL : aw_in av nL = L) (k : AW own nm cc nL ret d md mc ms Q 0 L [] h 0 0) : AM y cc nL ret d md mc ms av h Q := by
  subst hL ho hnm
  intro l D dA b lim gr hmd
  refine Met.ofW (cc := cc) (maxL := nL) (ret := ret) hy rfl ?_
  intro p e s m args below meth c s₁ B hml hv
  obtain ⟨rfl, hP, hK, hN⟩ := hv
  have hts := atoms_spec (ws := Cond.code y cc nL ret :: wsAll) B.pre
  have hown : s.vm.findClass y.cls = some m.cls := findClass_of_methodNamed B.named
  rw [lg_entry_eq]
  have hl := lv_entry (av.map (aw_v b)) (n := nL) (by rw [aw_sl]; exact hlen)
  refine k p l e _ s m _ below meth c D dA b lim gr s.heap [] _ ⟨B.exec, B.bytes, hml, hown, fun w hw => hts w (List.mem_cons_of_mem _ hw), B.returns, B.notSynchronized, (name_of_methodNamed B.named B.method).1, ⟨Nat.le_refl _, Nat.le_refl _, rfl, rfl⟩, hK, hN, hmd⟩ va_S.rf hP ⟨_, hl, ?_⟩
  intro i v hi
  unfold aw_in at hi
  by_cases g : i < (aw_al av).length
  · rw [List.getElem?_append_left g] at hi
    have := aw_al_at b av 0 i v hi
    rwa [Nat.zero_add] at this
  · rw [List.getElem?_append_right (by omega), List.getElem?_replicate] at hi
    split at hi <;> cases hi
/- steps of the pure texts -/
theorem aw_ifp {α : Type} {c : Prop} {A B : Option α} {r : α} (hc : c) [Decidable c] (hf : (if c then A else B) = some r) : A = some r := by rwa [if_pos hc] at hf
theorem aw_ifn {α : Type} {c : Prop} {A B : Option α} {r : α} (hc : ¬ c) [Decidable c] (hf : (if c then A else B) = some r) : B = some r := by rwa [if_neg hc] at hf
theorem aw_gi {α : Type} {i : Int32} {n : Nat} {k : Option α} {r : α} (h : me_gi i n k = some r) : vp_in i n ∧ k = some r := by
  unfold me_gi at h
  by_cases q : i < 0 ∨ n ≤ i.toNatClampNeg
  · rw [if_pos q] at h; cases h
  · rw [if_neg q] at h; exact ⟨q, h⟩
theorem aw_gd {α β : Type} [DecidableEq β] {y z : β} {k : Option α} {r : α} (h : me_gd y z k = some r) : ¬ y = z ∧ k = some r := by
  unfold me_gd at h
  by_cases q : y = z
  · rw [if_pos q] at h; cases h
  · rw [if_neg q] at h; exact ⟨q, h⟩
theorem aw_gz {α : Type} {x : Int32} {k : Option α} {r : α} (h : me_gz x k = some r) : (narrow .boolean (.int x) = .int x ∧ fits .boolean (.int x) = true) ∧ k = some r := by
  unfold me_gz at h
  by_cases q : x = 0 ∨ x = 1
  · rw [if_pos q] at h
    refine ⟨?_, h⟩
    rcases q with q | q <;> subst q <;> exact ⟨rfl, rfl⟩
  · rw [if_neg q] at h; cases h
theorem aw_gc {α : Type} {sp dp ln : Int32} {n0 n1 : Nat} {k : Option α} {r : α} (h : me_gc sp dp ln n0 n1 k = some r) : aw_cg sp dp ln n0 n1 ∧ k = some r := by
  unfold me_gc at h
  by_cases q : ¬ sp < 0 ∧ ¬ dp < 0 ∧ ¬ ln < 0 ∧ sp.toNatClampNeg + ln.toNatClampNeg ≤ n0 ∧ dp.toNatClampNeg + ln.toNatClampNeg ≤ n1
  · rw [if_pos q] at h; exact ⟨q, h⟩
  · rw [if_neg q] at h; cases h
theorem aw_no {α : Type} {r : α} {P : Prop} (h : (none : Option α) = some r) : P := by cases h
theorem aw_bind {α β : Type} {o : Option α} {k : α → Option β} {r : β} (h : o.bind k = some r) : ∃ a, o = some a ∧ k a = some r := by
  cases o with
  | none => cases h
  | some a => exact ⟨a, rfl, h⟩
end
