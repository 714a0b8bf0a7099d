section
-- ===== PART A: goes FIRST, ahead of the names: the tables' words, and 'selects' of the private methods out of them =====
/-- a private method of a class that the tables say can be made, by its rows of tables_1 -/
def lw_okq (q : MethodName × Nat) : Prop := (q.1.cls ≠ "java/lang/invoke/MethodHandle" ∧ q.1.cls ≠ "java/lang/invoke/VarHandle") ∧ Cond.instantiable q.1.cls q.2 ∈ tables_1 ∧ Cond.privateMethod q.1 ∈ tables_1 ∧ Cond.instanceMethod q.1 ∈ tables_1
theorem lw_p0 : lw_okq (⟨"ArcTape$Packer", "bestReference", "(I)I"⟩, 7) := ⟨⟨by decide +kernel, by decide +kernel⟩, List.mem_of_getElem? (i := 84) (by decide +kernel), List.mem_of_getElem? (i := 221) (by decide +kernel), List.mem_of_getElem? (i := 222) (by decide +kernel)⟩
theorem lw_p1 : lw_okq (⟨"ArcTape$Packer", "mayBeReferredTo", "(I)Z"⟩, 7) := ⟨⟨by decide +kernel, by decide +kernel⟩, List.mem_of_getElem? (i := 84) (by decide +kernel), List.mem_of_getElem? (i := 226) (by decide +kernel), List.mem_of_getElem? (i := 227) (by decide +kernel)⟩
theorem lw_p2 : lw_okq (⟨"ArcTape$Packer", "writeRecord", "(II)V"⟩, 7) := ⟨⟨by decide +kernel, by decide +kernel⟩, List.mem_of_getElem? (i := 84) (by decide +kernel), List.mem_of_getElem? (i := 230) (by decide +kernel), List.mem_of_getElem? (i := 231) (by decide +kernel)⟩
theorem lw_p3 : lw_okq (⟨"ArcTape$Packer", "writeRuns", "(II)V"⟩, 7) := ⟨⟨by decide +kernel, by decide +kernel⟩, List.mem_of_getElem? (i := 84) (by decide +kernel), List.mem_of_getElem? (i := 255) (by decide +kernel), List.mem_of_getElem? (i := 256) (by decide +kernel)⟩
theorem lw_p4 : lw_okq (⟨"ArcTape$Packer", "writeIntervals", "(II)I"⟩, 7) := ⟨⟨by decide +kernel, by decide +kernel⟩, List.mem_of_getElem? (i := 84) (by decide +kernel), List.mem_of_getElem? (i := 262) (by decide +kernel), List.mem_of_getElem? (i := 263) (by decide +kernel)⟩
theorem lw_p5 : lw_okq (⟨"ArcTape$Packer", "rowLength", "(II)I"⟩, 7) := ⟨⟨by decide +kernel, by decide +kernel⟩, List.mem_of_getElem? (i := 84) (by decide +kernel), List.mem_of_getElem? (i := 266) (by decide +kernel), List.mem_of_getElem? (i := 267) (by decide +kernel)⟩
theorem lw_p6 : lw_okq (⟨"ArcTape$Packer", "writeSingles", "(II)V"⟩, 7) := ⟨⟨by decide +kernel, by decide +kernel⟩, List.mem_of_getElem? (i := 84) (by decide +kernel), List.mem_of_getElem? (i := 273) (by decide +kernel), List.mem_of_getElem? (i := 274) (by decide +kernel)⟩
theorem lw_p7 : lw_okq (⟨"ArcTape$Reader", "readRecord", "()V"⟩, 14) := ⟨⟨by decide +kernel, by decide +kernel⟩, List.mem_of_getElem? (i := 112) (by decide +kernel), List.mem_of_getElem? (i := 285) (by decide +kernel), List.mem_of_getElem? (i := 286) (by decide +kernel)⟩
theorem lw_p8 : lw_okq (⟨"ArcTape$Reader", "nextGamma", "()I"⟩, 14) := ⟨⟨by decide +kernel, by decide +kernel⟩, List.mem_of_getElem? (i := 112) (by decide +kernel), List.mem_of_getElem? (i := 289) (by decide +kernel), List.mem_of_getElem? (i := 290) (by decide +kernel)⟩
theorem lw_p9 : lw_okq (⟨"ArcTape$Reader", "nextUnary", "()I"⟩, 14) := ⟨⟨by decide +kernel, by decide +kernel⟩, List.mem_of_getElem? (i := 112) (by decide +kernel), List.mem_of_getElem? (i := 293) (by decide +kernel), List.mem_of_getElem? (i := 294) (by decide +kernel)⟩
theorem lw_p10 : lw_okq (⟨"ArcTape$Reader", "nextBit", "()I"⟩, 14) := ⟨⟨by decide +kernel, by decide +kernel⟩, List.mem_of_getElem? (i := 112) (by decide +kernel), List.mem_of_getElem? (i := 297) (by decide +kernel), List.mem_of_getElem? (i := 298) (by decide +kernel)⟩
theorem lw_p11 : lw_okq (⟨"ArcTape$Reader", "failIf", "(ZI)V"⟩, 14) := ⟨⟨by decide +kernel, by decide +kernel⟩, List.mem_of_getElem? (i := 112) (by decide +kernel), List.mem_of_getElem? (i := 301) (by decide +kernel), List.mem_of_getElem? (i := 302) (by decide +kernel)⟩
theorem lw_p12 : lw_okq (⟨"ArcTape$Reader", "nextNumber", "(II)I"⟩, 14) := ⟨⟨by decide +kernel, by decide +kernel⟩, List.mem_of_getElem? (i := 112) (by decide +kernel), List.mem_of_getElem? (i := 305) (by decide +kernel), List.mem_of_getElem? (i := 306) (by decide +kernel)⟩
theorem lw_p13 : lw_okq (⟨"ArcTape$Reader", "goesOn", "()Z"⟩, 14) := ⟨⟨by decide +kernel, by decide +kernel⟩, List.mem_of_getElem? (i := 112) (by decide +kernel), List.mem_of_getElem? (i := 309) (by decide +kernel), List.mem_of_getElem? (i := 310) (by decide +kernel)⟩
theorem lw_p14 : lw_okq (⟨"ArcTape$Reader", "readReference", "()V"⟩, 14) := ⟨⟨by decide +kernel, by decide +kernel⟩, List.mem_of_getElem? (i := 112) (by decide +kernel), List.mem_of_getElem? (i := 313) (by decide +kernel), List.mem_of_getElem? (i := 314) (by decide +kernel)⟩
theorem lw_p15 : lw_okq (⟨"ArcTape$Reader", "readRuns", "(I)V"⟩, 14) := ⟨⟨by decide +kernel, by decide +kernel⟩, List.mem_of_getElem? (i := 112) (by decide +kernel), List.mem_of_getElem? (i := 317) (by decide +kernel), List.mem_of_getElem? (i := 318) (by decide +kernel)⟩
def lw_privs_1 : List (MethodName × Nat) := [(⟨"ArcTape$Packer", "bestReference", "(I)I"⟩, 7), (⟨"ArcTape$Packer", "mayBeReferredTo", "(I)Z"⟩, 7), (⟨"ArcTape$Packer", "writeRecord", "(II)V"⟩, 7), (⟨"ArcTape$Packer", "writeRuns", "(II)V"⟩, 7), (⟨"ArcTape$Packer", "writeIntervals", "(II)I"⟩, 7), (⟨"ArcTape$Packer", "rowLength", "(II)I"⟩, 7), (⟨"ArcTape$Packer", "writeSingles", "(II)V"⟩, 7), (⟨"ArcTape$Reader", "readRecord", "()V"⟩, 14), (⟨"ArcTape$Reader", "nextGamma", "()I"⟩, 14), (⟨"ArcTape$Reader", "nextUnary", "()I"⟩, 14), (⟨"ArcTape$Reader", "nextBit", "()I"⟩, 14), (⟨"ArcTape$Reader", "failIf", "(ZI)V"⟩, 14), (⟨"ArcTape$Reader", "nextNumber", "(II)I"⟩, 14), (⟨"ArcTape$Reader", "goesOn", "()Z"⟩, 14), (⟨"ArcTape$Reader", "readReference", "()V"⟩, 14), (⟨"ArcTape$Reader", "readRuns", "(I)V"⟩, 14)]
theorem lw_r1 : ∀ q ∈ lw_privs_1, lw_okq q := List.forall_mem_cons.mpr ⟨lw_p0, List.forall_mem_cons.mpr ⟨lw_p1, List.forall_mem_cons.mpr ⟨lw_p2, List.forall_mem_cons.mpr ⟨lw_p3, List.forall_mem_cons.mpr ⟨lw_p4, List.forall_mem_cons.mpr ⟨lw_p5, List.forall_mem_cons.mpr ⟨lw_p6, List.forall_mem_cons.mpr ⟨lw_p7, List.forall_mem_cons.mpr ⟨lw_p8, List.forall_mem_cons.mpr ⟨lw_p9, List.forall_mem_cons.mpr ⟨lw_p10, List.forall_mem_cons.mpr ⟨lw_p11, List.forall_mem_cons.mpr ⟨lw_p12, List.forall_mem_cons.mpr ⟨lw_p13, List.forall_mem_cons.mpr ⟨lw_p14, List.forall_mem_cons.mpr ⟨lw_p15, fun _ h => absurd h List.not_mem_nil⟩⟩⟩⟩⟩⟩⟩⟩⟩⟩⟩⟩⟩⟩⟩⟩
theorem lw_p16 : lw_okq (⟨"ArcTape$Reader", "take", "(I)V"⟩, 14) := ⟨⟨by decide +kernel, by decide +kernel⟩, List.mem_of_getElem? (i := 112) (by decide +kernel), List.mem_of_getElem? (i := 325) (by decide +kernel), List.mem_of_getElem? (i := 326) (by decide +kernel)⟩
theorem lw_p17 : lw_okq (⟨"ArcTape$Reader", "readIntervals", "()V"⟩, 14) := ⟨⟨by decide +kernel, by decide +kernel⟩, List.mem_of_getElem? (i := 112) (by decide +kernel), List.mem_of_getElem? (i := 329) (by decide +kernel), List.mem_of_getElem? (i := 330) (by decide +kernel)⟩
theorem lw_p18 : lw_okq (⟨"ArcTape$Reader", "readSingles", "()V"⟩, 14) := ⟨⟨by decide +kernel, by decide +kernel⟩, List.mem_of_getElem? (i := 112) (by decide +kernel), List.mem_of_getElem? (i := 339) (by decide +kernel), List.mem_of_getElem? (i := 340) (by decide +kernel)⟩
theorem lw_p19 : lw_okq (⟨"ArcTape$Reader", "nextZeta", "()I"⟩, 14) := ⟨⟨by decide +kernel, by decide +kernel⟩, List.mem_of_getElem? (i := 112) (by decide +kernel), List.mem_of_getElem? (i := 343) (by decide +kernel), List.mem_of_getElem? (i := 344) (by decide +kernel)⟩
theorem lw_p20 : lw_okq (⟨"ArcTape", "isNode", "(I)Z"⟩, 8) := ⟨⟨by decide +kernel, by decide +kernel⟩, List.mem_of_getElem? (i := 13) (by decide +kernel), List.mem_of_getElem? (i := 385) (by decide +kernel), List.mem_of_getElem? (i := 386) (by decide +kernel)⟩
theorem lw_p21 : lw_okq (⟨"ArcTape", "isPlace", "(I)Z"⟩, 8) := ⟨⟨by decide +kernel, by decide +kernel⟩, List.mem_of_getElem? (i := 13) (by decide +kernel), List.mem_of_getElem? (i := 407) (by decide +kernel), List.mem_of_getElem? (i := 408) (by decide +kernel)⟩
theorem lw_p22 : lw_okq (⟨"ArcTape$Parts", "findReached", "()V"⟩, 3) := ⟨⟨by decide +kernel, by decide +kernel⟩, List.mem_of_getElem? (i := 164) (by decide +kernel), List.mem_of_getElem? (i := 436) (by decide +kernel), List.mem_of_getElem? (i := 437) (by decide +kernel)⟩
theorem lw_p23 : lw_okq (⟨"ArcTape$Parts", "nextReady", "(I)I"⟩, 3) := ⟨⟨by decide +kernel, by decide +kernel⟩, List.mem_of_getElem? (i := 164) (by decide +kernel), List.mem_of_getElem? (i := 441) (by decide +kernel), List.mem_of_getElem? (i := 442) (by decide +kernel)⟩
theorem lw_p24 : lw_okq (⟨"ArcTape$Parts", "partOf", "(I)I"⟩, 3) := ⟨⟨by decide +kernel, by decide +kernel⟩, List.mem_of_getElem? (i := 164) (by decide +kernel), List.mem_of_getElem? (i := 445) (by decide +kernel), List.mem_of_getElem? (i := 446) (by decide +kernel)⟩
theorem lw_p25 : lw_okq (⟨"ArcTape$Scores", "stepOnce", "()V"⟩, 8) := ⟨⟨by decide +kernel, by decide +kernel⟩, List.mem_of_getElem? (i := 181) (by decide +kernel), List.mem_of_getElem? (i := 473) (by decide +kernel), List.mem_of_getElem? (i := 474) (by decide +kernel)⟩
theorem lw_p26 : lw_okq (⟨"ArcTape$Scores", "stepByRank", "()V"⟩, 8) := ⟨⟨by decide +kernel, by decide +kernel⟩, List.mem_of_getElem? (i := 181) (by decide +kernel), List.mem_of_getElem? (i := 480) (by decide +kernel), List.mem_of_getElem? (i := 481) (by decide +kernel)⟩
theorem lw_p27 : lw_okq (⟨"ArcTape$Scores", "linksFrom", "(I)I"⟩, 8) := ⟨⟨by decide +kernel, by decide +kernel⟩, List.mem_of_getElem? (i := 181) (by decide +kernel), List.mem_of_getElem? (i := 486) (by decide +kernel), List.mem_of_getElem? (i := 487) (by decide +kernel)⟩
theorem lw_p28 : lw_okq (⟨"ArcTape$Scores", "stepByGreatest", "()V"⟩, 8) := ⟨⟨by decide +kernel, by decide +kernel⟩, List.mem_of_getElem? (i := 181) (by decide +kernel), List.mem_of_getElem? (i := 493) (by decide +kernel), List.mem_of_getElem? (i := 494) (by decide +kernel)⟩
theorem lw_p29 : lw_okq (⟨"ArcTape$Scores", "stepByShares", "()V"⟩, 8) := ⟨⟨by decide +kernel, by decide +kernel⟩, List.mem_of_getElem? (i := 181) (by decide +kernel), List.mem_of_getElem? (i := 503) (by decide +kernel), List.mem_of_getElem? (i := 504) (by decide +kernel)⟩
theorem lw_p30 : lw_okq (⟨"ArcTape$Scores", "linksTo", "(I)I"⟩, 8) := ⟨⟨by decide +kernel, by decide +kernel⟩, List.mem_of_getElem? (i := 181) (by decide +kernel), List.mem_of_getElem? (i := 507) (by decide +kernel), List.mem_of_getElem? (i := 508) (by decide +kernel)⟩
theorem lw_p31 : lw_okq (⟨"ArcTapeModel", "putRecord", "(II)V"⟩, 29) := ⟨⟨by decide +kernel, by decide +kernel⟩, List.mem_of_getElem? (i := 538) (by decide +kernel), List.mem_of_getElem? (i := 549) (by decide +kernel), List.mem_of_getElem? (i := 550) (by decide +kernel)⟩
def lw_privs_2 : List (MethodName × Nat) := [(⟨"ArcTape$Reader", "take", "(I)V"⟩, 14), (⟨"ArcTape$Reader", "readIntervals", "()V"⟩, 14), (⟨"ArcTape$Reader", "readSingles", "()V"⟩, 14), (⟨"ArcTape$Reader", "nextZeta", "()I"⟩, 14), (⟨"ArcTape", "isNode", "(I)Z"⟩, 8), (⟨"ArcTape", "isPlace", "(I)Z"⟩, 8), (⟨"ArcTape$Parts", "findReached", "()V"⟩, 3), (⟨"ArcTape$Parts", "nextReady", "(I)I"⟩, 3), (⟨"ArcTape$Parts", "partOf", "(I)I"⟩, 3), (⟨"ArcTape$Scores", "stepOnce", "()V"⟩, 8), (⟨"ArcTape$Scores", "stepByRank", "()V"⟩, 8), (⟨"ArcTape$Scores", "linksFrom", "(I)I"⟩, 8), (⟨"ArcTape$Scores", "stepByGreatest", "()V"⟩, 8), (⟨"ArcTape$Scores", "stepByShares", "()V"⟩, 8), (⟨"ArcTape$Scores", "linksTo", "(I)I"⟩, 8), (⟨"ArcTapeModel", "putRecord", "(II)V"⟩, 29)]
theorem lw_r2 : ∀ q ∈ lw_privs_2, lw_okq q := List.forall_mem_cons.mpr ⟨lw_p16, List.forall_mem_cons.mpr ⟨lw_p17, List.forall_mem_cons.mpr ⟨lw_p18, List.forall_mem_cons.mpr ⟨lw_p19, List.forall_mem_cons.mpr ⟨lw_p20, List.forall_mem_cons.mpr ⟨lw_p21, List.forall_mem_cons.mpr ⟨lw_p22, List.forall_mem_cons.mpr ⟨lw_p23, List.forall_mem_cons.mpr ⟨lw_p24, List.forall_mem_cons.mpr ⟨lw_p25, List.forall_mem_cons.mpr ⟨lw_p26, List.forall_mem_cons.mpr ⟨lw_p27, List.forall_mem_cons.mpr ⟨lw_p28, List.forall_mem_cons.mpr ⟨lw_p29, List.forall_mem_cons.mpr ⟨lw_p30, List.forall_mem_cons.mpr ⟨lw_p31, fun _ h => absurd h List.not_mem_nil⟩⟩⟩⟩⟩⟩⟩⟩⟩⟩⟩⟩⟩⟩⟩⟩
theorem lw_p32 : lw_okq (⟨"ArcTapeModel", "putGamma", "(I)V"⟩, 29) := ⟨⟨by decide +kernel, by decide +kernel⟩, List.mem_of_getElem? (i := 538) (by decide +kernel), List.mem_of_getElem? (i := 556) (by decide +kernel), List.mem_of_getElem? (i := 557) (by decide +kernel)⟩
theorem lw_p33 : lw_okq (⟨"ArcTapeModel", "putUnary", "(I)V"⟩, 29) := ⟨⟨by decide +kernel, by decide +kernel⟩, List.mem_of_getElem? (i := 538) (by decide +kernel), List.mem_of_getElem? (i := 560) (by decide +kernel), List.mem_of_getElem? (i := 561) (by decide +kernel)⟩
theorem lw_p34 : lw_okq (⟨"ArcTapeModel", "put", "(I)V"⟩, 29) := ⟨⟨by decide +kernel, by decide +kernel⟩, List.mem_of_getElem? (i := 538) (by decide +kernel), List.mem_of_getElem? (i := 564) (by decide +kernel), List.mem_of_getElem? (i := 565) (by decide +kernel)⟩
theorem lw_p35 : lw_okq (⟨"ArcTapeModel", "putNumber", "(II)V"⟩, 29) := ⟨⟨by decide +kernel, by decide +kernel⟩, List.mem_of_getElem? (i := 538) (by decide +kernel), List.mem_of_getElem? (i := 568) (by decide +kernel), List.mem_of_getElem? (i := 569) (by decide +kernel)⟩
theorem lw_p36 : lw_okq (⟨"ArcTapeModel", "putRuns", "(II)V"⟩, 29) := ⟨⟨by decide +kernel, by decide +kernel⟩, List.mem_of_getElem? (i := 538) (by decide +kernel), List.mem_of_getElem? (i := 572) (by decide +kernel), List.mem_of_getElem? (i := 573) (by decide +kernel)⟩
theorem lw_p37 : lw_okq (⟨"ArcTapeModel", "putRest", "(II)V"⟩, 29) := ⟨⟨by decide +kernel, by decide +kernel⟩, List.mem_of_getElem? (i := 538) (by decide +kernel), List.mem_of_getElem? (i := 576) (by decide +kernel), List.mem_of_getElem? (i := 577) (by decide +kernel)⟩
theorem lw_p38 : lw_okq (⟨"ArcTapeModel", "rowAt", "(II)I"⟩, 29) := ⟨⟨by decide +kernel, by decide +kernel⟩, List.mem_of_getElem? (i := 538) (by decide +kernel), List.mem_of_getElem? (i := 580) (by decide +kernel), List.mem_of_getElem? (i := 581) (by decide +kernel)⟩
theorem lw_p39 : lw_okq (⟨"ArcTapeModel", "putZeta", "(I)V"⟩, 29) := ⟨⟨by decide +kernel, by decide +kernel⟩, List.mem_of_getElem? (i := 538) (by decide +kernel), List.mem_of_getElem? (i := 587) (by decide +kernel), List.mem_of_getElem? (i := 588) (by decide +kernel)⟩
theorem lw_p40 : lw_okq (⟨"ArcTapeModel", "node", "(I)Z"⟩, 29) := ⟨⟨by decide +kernel, by decide +kernel⟩, List.mem_of_getElem? (i := 538) (by decide +kernel), List.mem_of_getElem? (i := 689) (by decide +kernel), List.mem_of_getElem? (i := 690) (by decide +kernel)⟩
theorem lw_p41 : lw_okq (⟨"ArcTapeModel", "read", "()V"⟩, 29) := ⟨⟨by decide +kernel, by decide +kernel⟩, List.mem_of_getElem? (i := 538) (by decide +kernel), List.mem_of_getElem? (i := 714) (by decide +kernel), List.mem_of_getElem? (i := 715) (by decide +kernel)⟩
theorem lw_p42 : lw_okq (⟨"ArcTapeModel", "nextGamma", "()I"⟩, 29) := ⟨⟨by decide +kernel, by decide +kernel⟩, List.mem_of_getElem? (i := 538) (by decide +kernel), List.mem_of_getElem? (i := 718) (by decide +kernel), List.mem_of_getElem? (i := 719) (by decide +kernel)⟩
theorem lw_p43 : lw_okq (⟨"ArcTapeModel", "nextUnary", "()I"⟩, 29) := ⟨⟨by decide +kernel, by decide +kernel⟩, List.mem_of_getElem? (i := 538) (by decide +kernel), List.mem_of_getElem? (i := 722) (by decide +kernel), List.mem_of_getElem? (i := 723) (by decide +kernel)⟩
theorem lw_p44 : lw_okq (⟨"ArcTapeModel", "next", "()I"⟩, 29) := ⟨⟨by decide +kernel, by decide +kernel⟩, List.mem_of_getElem? (i := 538) (by decide +kernel), List.mem_of_getElem? (i := 726) (by decide +kernel), List.mem_of_getElem? (i := 727) (by decide +kernel)⟩
theorem lw_p45 : lw_okq (⟨"ArcTapeModel", "nextNumber", "(I)I"⟩, 29) := ⟨⟨by decide +kernel, by decide +kernel⟩, List.mem_of_getElem? (i := 538) (by decide +kernel), List.mem_of_getElem? (i := 730) (by decide +kernel), List.mem_of_getElem? (i := 731) (by decide +kernel)⟩
theorem lw_p46 : lw_okq (⟨"ArcTapeModel", "readParts", "(II)V"⟩, 29) := ⟨⟨by decide +kernel, by decide +kernel⟩, List.mem_of_getElem? (i := 538) (by decide +kernel), List.mem_of_getElem? (i := 734) (by decide +kernel), List.mem_of_getElem? (i := 735) (by decide +kernel)⟩
theorem lw_p47 : lw_okq (⟨"ArcTapeModel", "readRuns", "(II)V"⟩, 29) := ⟨⟨by decide +kernel, by decide +kernel⟩, List.mem_of_getElem? (i := 538) (by decide +kernel), List.mem_of_getElem? (i := 738) (by decide +kernel), List.mem_of_getElem? (i := 739) (by decide +kernel)⟩
def lw_privs_3 : List (MethodName × Nat) := [(⟨"ArcTapeModel", "putGamma", "(I)V"⟩, 29), (⟨"ArcTapeModel", "putUnary", "(I)V"⟩, 29), (⟨"ArcTapeModel", "put", "(I)V"⟩, 29), (⟨"ArcTapeModel", "putNumber", "(II)V"⟩, 29), (⟨"ArcTapeModel", "putRuns", "(II)V"⟩, 29), (⟨"ArcTapeModel", "putRest", "(II)V"⟩, 29), (⟨"ArcTapeModel", "rowAt", "(II)I"⟩, 29), (⟨"ArcTapeModel", "putZeta", "(I)V"⟩, 29), (⟨"ArcTapeModel", "node", "(I)Z"⟩, 29), (⟨"ArcTapeModel", "read", "()V"⟩, 29), (⟨"ArcTapeModel", "nextGamma", "()I"⟩, 29), (⟨"ArcTapeModel", "nextUnary", "()I"⟩, 29), (⟨"ArcTapeModel", "next", "()I"⟩, 29), (⟨"ArcTapeModel", "nextNumber", "(I)I"⟩, 29), (⟨"ArcTapeModel", "readParts", "(II)V"⟩, 29), (⟨"ArcTapeModel", "readRuns", "(II)V"⟩, 29)]
theorem lw_r3 : ∀ q ∈ lw_privs_3, lw_okq q := List.forall_mem_cons.mpr ⟨lw_p32, List.forall_mem_cons.mpr ⟨lw_p33, List.forall_mem_cons.mpr ⟨lw_p34, List.forall_mem_cons.mpr ⟨lw_p35, List.forall_mem_cons.mpr ⟨lw_p36, List.forall_mem_cons.mpr ⟨lw_p37, List.forall_mem_cons.mpr ⟨lw_p38, List.forall_mem_cons.mpr ⟨lw_p39, List.forall_mem_cons.mpr ⟨lw_p40, List.forall_mem_cons.mpr ⟨lw_p41, List.forall_mem_cons.mpr ⟨lw_p42, List.forall_mem_cons.mpr ⟨lw_p43, List.forall_mem_cons.mpr ⟨lw_p44, List.forall_mem_cons.mpr ⟨lw_p45, List.forall_mem_cons.mpr ⟨lw_p46, List.forall_mem_cons.mpr ⟨lw_p47, fun _ h => absurd h List.not_mem_nil⟩⟩⟩⟩⟩⟩⟩⟩⟩⟩⟩⟩⟩⟩⟩⟩
theorem lw_p48 : lw_okq (⟨"ArcTapeModel", "copy", "(III)V"⟩, 29) := ⟨⟨by decide +kernel, by decide +kernel⟩, List.mem_of_getElem? (i := 538) (by decide +kernel), List.mem_of_getElem? (i := 742) (by decide +kernel), List.mem_of_getElem? (i := 743) (by decide +kernel)⟩
theorem lw_p49 : lw_okq (⟨"ArcTapeModel", "take", "(I)V"⟩, 29) := ⟨⟨by decide +kernel, by decide +kernel⟩, List.mem_of_getElem? (i := 538) (by decide +kernel), List.mem_of_getElem? (i := 746) (by decide +kernel), List.mem_of_getElem? (i := 747) (by decide +kernel)⟩
theorem lw_p50 : lw_okq (⟨"ArcTapeModel", "readIntervals", "(II)I"⟩, 29) := ⟨⟨by decide +kernel, by decide +kernel⟩, List.mem_of_getElem? (i := 538) (by decide +kernel), List.mem_of_getElem? (i := 750) (by decide +kernel), List.mem_of_getElem? (i := 751) (by decide +kernel)⟩
theorem lw_p51 : lw_okq (⟨"ArcTapeModel", "nextZeta", "()I"⟩, 29) := ⟨⟨by decide +kernel, by decide +kernel⟩, List.mem_of_getElem? (i := 538) (by decide +kernel), List.mem_of_getElem? (i := 757) (by decide +kernel), List.mem_of_getElem? (i := 758) (by decide +kernel)⟩
theorem lw_p52 : lw_okq (⟨"ArcTapeModel", "count", "()V"⟩, 29) := ⟨⟨by decide +kernel, by decide +kernel⟩, List.mem_of_getElem? (i := 538) (by decide +kernel), List.mem_of_getElem? (i := 773) (by decide +kernel), List.mem_of_getElem? (i := 774) (by decide +kernel)⟩
theorem lw_p53 : lw_okq (⟨"ArcTapeModel", "firstReady", "(I)I"⟩, 29) := ⟨⟨by decide +kernel, by decide +kernel⟩, List.mem_of_getElem? (i := 538) (by decide +kernel), List.mem_of_getElem? (i := 777) (by decide +kernel), List.mem_of_getElem? (i := 778) (by decide +kernel)⟩
theorem lw_p54 : lw_okq (⟨"ArcTapeModel", "together", "(I)I"⟩, 29) := ⟨⟨by decide +kernel, by decide +kernel⟩, List.mem_of_getElem? (i := 538) (by decide +kernel), List.mem_of_getElem? (i := 781) (by decide +kernel), List.mem_of_getElem? (i := 782) (by decide +kernel)⟩
theorem lw_p55 : lw_okq (⟨"ArcTapeModel", "total", "()I"⟩, 29) := ⟨⟨by decide +kernel, by decide +kernel⟩, List.mem_of_getElem? (i := 538) (by decide +kernel), List.mem_of_getElem? (i := 793) (by decide +kernel), List.mem_of_getElem? (i := 794) (by decide +kernel)⟩
theorem lw_p56 : lw_okq (⟨"ArcTapeModel", "stepRank", "()V"⟩, 29) := ⟨⟨by decide +kernel, by decide +kernel⟩, List.mem_of_getElem? (i := 538) (by decide +kernel), List.mem_of_getElem? (i := 802) (by decide +kernel), List.mem_of_getElem? (i := 803) (by decide +kernel)⟩
theorem lw_p57 : lw_okq (⟨"ArcTapeModel", "links", "(II)Z"⟩, 29) := ⟨⟨by decide +kernel, by decide +kernel⟩, List.mem_of_getElem? (i := 538) (by decide +kernel), List.mem_of_getElem? (i := 806) (by decide +kernel), List.mem_of_getElem? (i := 807) (by decide +kernel)⟩
theorem lw_p58 : lw_okq (⟨"ArcTapeModel", "stepHubs", "()V"⟩, 29) := ⟨⟨by decide +kernel, by decide +kernel⟩, List.mem_of_getElem? (i := 538) (by decide +kernel), List.mem_of_getElem? (i := 812) (by decide +kernel), List.mem_of_getElem? (i := 813) (by decide +kernel)⟩
theorem lw_p59 : lw_okq (⟨"ArcTapeModel", "bring", "(Z)V"⟩, 29) := ⟨⟨by decide +kernel, by decide +kernel⟩, List.mem_of_getElem? (i := 538) (by decide +kernel), List.mem_of_getElem? (i := 816) (by decide +kernel), List.mem_of_getElem? (i := 817) (by decide +kernel)⟩
theorem lw_p60 : lw_okq (⟨"ArcTapeModel", "stepShares", "()V"⟩, 29) := ⟨⟨by decide +kernel, by decide +kernel⟩, List.mem_of_getElem? (i := 538) (by decide +kernel), List.mem_of_getElem? (i := 820) (by decide +kernel), List.mem_of_getElem? (i := 821) (by decide +kernel)⟩
theorem lw_p61 : lw_okq (⟨"ArcTapeModel", "into", "(I)I"⟩, 29) := ⟨⟨by decide +kernel, by decide +kernel⟩, List.mem_of_getElem? (i := 538) (by decide +kernel), List.mem_of_getElem? (i := 824) (by decide +kernel), List.mem_of_getElem? (i := 825) (by decide +kernel)⟩
def lw_privs_4 : List (MethodName × Nat) := [(⟨"ArcTapeModel", "copy", "(III)V"⟩, 29), (⟨"ArcTapeModel", "take", "(I)V"⟩, 29), (⟨"ArcTapeModel", "readIntervals", "(II)I"⟩, 29), (⟨"ArcTapeModel", "nextZeta", "()I"⟩, 29), (⟨"ArcTapeModel", "count", "()V"⟩, 29), (⟨"ArcTapeModel", "firstReady", "(I)I"⟩, 29), (⟨"ArcTapeModel", "together", "(I)I"⟩, 29), (⟨"ArcTapeModel", "total", "()I"⟩, 29), (⟨"ArcTapeModel", "stepRank", "()V"⟩, 29), (⟨"ArcTapeModel", "links", "(II)Z"⟩, 29), (⟨"ArcTapeModel", "stepHubs", "()V"⟩, 29), (⟨"ArcTapeModel", "bring", "(Z)V"⟩, 29), (⟨"ArcTapeModel", "stepShares", "()V"⟩, 29), (⟨"ArcTapeModel", "into", "(I)I"⟩, 29)]
theorem lw_r4 : ∀ q ∈ lw_privs_4, lw_okq q := List.forall_mem_cons.mpr ⟨lw_p48, List.forall_mem_cons.mpr ⟨lw_p49, List.forall_mem_cons.mpr ⟨lw_p50, List.forall_mem_cons.mpr ⟨lw_p51, List.forall_mem_cons.mpr ⟨lw_p52, List.forall_mem_cons.mpr ⟨lw_p53, List.forall_mem_cons.mpr ⟨lw_p54, List.forall_mem_cons.mpr ⟨lw_p55, List.forall_mem_cons.mpr ⟨lw_p56, List.forall_mem_cons.mpr ⟨lw_p57, List.forall_mem_cons.mpr ⟨lw_p58, List.forall_mem_cons.mpr ⟨lw_p59, List.forall_mem_cons.mpr ⟨lw_p60, List.forall_mem_cons.mpr ⟨lw_p61, fun _ h => absurd h List.not_mem_nil⟩⟩⟩⟩⟩⟩⟩⟩⟩⟩⟩⟩⟩⟩
def lw_privs : List (MethodName × Nat) := lw_privs_1 ++ (lw_privs_2 ++ (lw_privs_3 ++ (lw_privs_4)))
def lw_tbl : List Cond := k2_sels lw_privs ++ tables_1
theorem lw_privs_ok : ∀ q ∈ lw_privs, lw_okq q := by
  show ∀ q ∈ lw_privs_1 ++ (lw_privs_2 ++ (lw_privs_3 ++ (lw_privs_4))), lw_okq q
  exact List.forall_mem_append.mpr ⟨lw_r1, List.forall_mem_append.mpr ⟨lw_r2, List.forall_mem_append.mpr ⟨lw_r3, lw_r4⟩⟩⟩
-- ===== end of PART A; then your names; then what follows =====
end
section
/- a memory: ints and longs by component and place -/
abbrev me_M : Type := (Nat → Nat → Int32) × (Nat → Nat → Int64)
def me_wi (μ : me_M) (c i : Nat) (x : Int32) : me_M := (fun c' => bif Nat.beq c' c then upd (μ.1 c) i x else μ.1 c', μ.2)
def me_wl (μ : me_M) (c i : Nat) (x : Int64) : me_M := (μ.1, fun c' => bif Nat.beq c' c then vp_updL (μ.2 c) i x else μ.2 c')
def me_cp (μ : me_M) (a c sp dp n : Nat) : me_M := (μ.1, fun c' => bif Nat.beq c' c then va_cpy (μ.2 a) (μ.2 c) sp dp n else μ.2 c')
/- guards: an index in its bounds, no division by zero, a truth value, a copy in its bounds -/
def me_gi {α : Type} (i : Int32) (n : Nat) (k : Option α) : Option α := if i < 0 ∨ n ≤ i.toNatClampNeg then none else k
def me_gd {α β : Type} [DecidableEq β] (y z : β) (k : Option α) : Option α := if y = z then none else k
def me_gz {α : Type} (x : Int32) (k : Option α) : Option α := if x = 0 ∨ x = 1 then k else none
def me_gc {α : Type} (sp dp ln : Int32) (n0 n1 : Nat) (k : Option α) : Option α := if ¬ sp < 0 ∧ ¬ dp < 0 ∧ ¬ ln < 0 ∧ sp.toNatClampNeg + ln.toNatClampNeg ≤ n0 ∧ dp.toNatClampNeg + ln.toNatClampNeg ≤ n1 then k else none
end
section
noncomputable section
def fT_putNumber_49 (N : Nat) (n : Nat) (μ : me_M) : Option me_M :=
  some μ
def fT_putNumber_4b (N : Nat) (n : Nat) (k4 : Int32 → Int32 → me_M → Option me_M) (l1 : Int32) (l3 : Int32) (μ : me_M) : Option me_M :=
  if l3 < 0 then
    fT_putNumber_49 N n μ
  else
    if (800 : Int32) ≤ (μ.1 301 0) then
      fT_putNumber_49 N n μ
    else
      me_gi (μ.1 301 0) 800 <|
      k4 l1 (l3 + (-1 : Int32)) (me_wi (me_wi μ 3 (μ.1 301 0).toNatClampNeg (vp_nar .byte (((l1 >>> (l3 &&& 31)) &&& (1 : Int32)).toInt8.toInt32))) 301 0 (((me_wi μ 3 (μ.1 301 0).toNatClampNeg (vp_nar .byte (((l1 >>> (l3 &&& 31)) &&& (1 : Int32)).toInt8.toInt32))).1 301 0) + (1 : Int32)))
def fT_putNumber_4 (N : Nat) (n : Nat) (F : Nat) : Int32 → Int32 → me_M → Option me_M := Nat.rec (motive := fun _ => Int32 → Int32 → me_M → Option me_M) (fun _ _ _ => none) (fun _ k4 => fT_putNumber_4b N n k4) F
def fT_putNumber (N : Nat) (n : Nat) (l1 : Int32) (l2 : Int32) (μ : me_M) : Option me_M :=
  fT_putNumber_4 N n N l1 (l2 - (1 : Int32)) μ
def fT_putUnary (N : Nat) (n : Nat) (l1 : Int32) (μ : me_M) : Option me_M :=
  (fT_putNumber N n (1 : Int32) (l1 + (1 : Int32)) μ).bind fun r1 =>
  some r1
def fT_exponent_23 (N : Nat) (l1 : Int32) : Option Int32 :=
  some l1
def fT_exponent_2b (N : Nat) (k2 : Int32 → Int32 → Option Int32) (l0 : Int32) (l1 : Int32) : Option Int32 :=
  if (30 : Int32) ≤ l1 then
    fT_exponent_23 N l1
  else
    if l0 < ((1 : Int32) <<< ((l1 + (1 : Int32)) &&& 31)) then
      fT_exponent_23 N l1
    else
      k2 l0 (l1 + (1 : Int32))
def fT_exponent_2 (N : Nat) (F : Nat) : Int32 → Int32 → Option Int32 := Nat.rec (motive := fun _ => Int32 → Int32 → Option Int32) (fun _ _ => none) (fun _ k2 => fT_exponent_2b N k2) F
def fT_exponent (N : Nat) (l0 : Int32) : Option Int32 :=
  fT_exponent_2 N N l0 (0 : Int32)
def fT_putGamma (N : Nat) (n : Nat) (l1 : Int32) (μ : me_M) : Option me_M :=
  (fT_exponent N (l1 + (1 : Int32))).bind fun r1 =>
  (fT_putNumber N n (l1 + (1 : Int32)) (((2 : Int32) * r1) + (1 : Int32)) μ).bind fun r2 =>
  some r2
def fT_putZeta_66 (N : Nat) (n : Nat) (μ : me_M) : Option me_M :=
  some μ
def fT_putZeta (N : Nat) (n : Nat) (l1 : Int32) (l2 : Int32) (μ : me_M) : Option me_M :=
  (fT_exponent N (l1 + (1 : Int32))).bind fun r1 =>
  me_gd l2 0 <|
  (fT_putNumber N n (1 : Int32) ((r1 / l2) + (1 : Int32)) μ).bind fun r3 =>
  if ((2 : Int32) * ((1 : Int32) <<< (((r1 / l2) * l2) &&& 31))) ≤ (l1 + (1 : Int32)) then
    (fT_putNumber N n (l1 + (1 : Int32)) (((r1 / l2) * l2) + l2) r3).bind fun r5 =>
    fT_putZeta_66 N n r5
  else
    (fT_putNumber N n ((l1 + (1 : Int32)) - ((1 : Int32) <<< (((r1 / l2) * l2) &&& 31))) ((((r1 / l2) * l2) + l2) - (1 : Int32)) r3).bind fun r6 =>
    fT_putZeta_66 N n r6
def fT_withoutSign_16 (N : Nat) (s0 : Int32) : Option Int32 :=
  some s0
def fT_withoutSign (N : Nat) (l0 : Int32) : Option Int32 :=
  if l0 < 0 then
    fT_withoutSign_16 N (((-2 : Int32) * l0) - (1 : Int32))
  else
    fT_withoutSign_16 N ((2 : Int32) * l0)
def fT_withSign_18 (N : Nat) (s0 : Int32) : Option Int32 :=
  some s0
def fT_withSign (N : Nat) (l0 : Int32) : Option Int32 :=
  if (l0 - l0 / (2 : Int32) * (2 : Int32)) = 0 then
    fT_withSign_18 N (l0 / (2 : Int32))
  else
    fT_withSign_18 N ((-(l0 + (1 : Int32))) / (2 : Int32))
def fK_mayBeReferredTo_30 (N : Nat) (n : Nat) (μ : me_M) (s0 : Int32) : Option Int32 :=
  me_gz s0 <|
  some s0
def fK_mayBeReferredTo_29 (N : Nat) (n : Nat) (μ : me_M) : Option Int32 :=
  fK_mayBeReferredTo_30 N n μ (0 : Int32)
def fK_mayBeReferredTo (N : Nat) (n : Nat) (μ : me_M) (l1 : Int32) : Option Int32 :=
  me_gi l1 n <|
  if (μ.1 1 l1.toNatClampNeg) = 0 then
    fK_mayBeReferredTo_29 N n μ
  else
    me_gi l1 n <|
    if (μ.1 501 0) ≤ (μ.1 10 l1.toNatClampNeg) then
      fK_mayBeReferredTo_29 N n μ
    else
      fK_mayBeReferredTo_30 N n μ (1 : Int32)
def fJ_bitCount_48 (N : Nat) (l0 : Int32) : Option Int32 :=
  some (l0 &&& (63 : Int32))
def fJ_bitCount_41 (N : Nat) (l0 : Int32) : Option Int32 :=
  fJ_bitCount_48 N (l0 + ((l0.toUInt32 >>> ((16 : Int32).toUInt32 &&& Int32.toUInt32 31)).toInt32))
def fJ_bitCount_34 (N : Nat) (l0 : Int32) : Option Int32 :=
  fJ_bitCount_41 N (l0 + ((l0.toUInt32 >>> ((8 : Int32).toUInt32 &&& Int32.toUInt32 31)).toInt32))
def fJ_bitCount_24 (N : Nat) (l0 : Int32) : Option Int32 :=
  fJ_bitCount_34 N ((l0 + ((l0.toUInt32 >>> ((4 : Int32).toUInt32 &&& Int32.toUInt32 31)).toInt32)) &&& (252645135 : Int32))
def fJ_bitCount_10 (N : Nat) (l0 : Int32) : Option Int32 :=
  fJ_bitCount_24 N ((l0 &&& (858993459 : Int32)) + (((l0.toUInt32 >>> ((2 : Int32).toUInt32 &&& Int32.toUInt32 31)).toInt32) &&& (858993459 : Int32)))
def fJ_bitCount (N : Nat) (l0 : Int32) : Option Int32 :=
  fJ_bitCount_10 N (l0 - (((l0.toUInt32 >>> ((1 : Int32).toUInt32 &&& Int32.toUInt32 31)).toInt32) &&& (1431655765 : Int32)))
def fA_holds_13 (N : Nat) (s0 : Int32) : Option Int32 :=
  me_gz s0 <|
  some s0
def fA_holds (N : Nat) (l0 : Int32) (l1 : Int32) : Option Int32 :=
  if ((l0 >>> (l1 &&& 31)) &&& (1 : Int32)) = 0 then
    fA_holds_13 N (0 : Int32)
  else
    fA_holds_13 N (1 : Int32)
def fK_writeRuns_137 (N : Nat) (n : Nat) (μ : me_M) : Option me_M :=
  some μ
def fK_writeRuns_128 (N : Nat) (n : Nat) (k94 : Int32 → Int32 → me_M → Option me_M) (l3 : Int32) (l5 : Int32) (s1 : Int32) (μ : me_M) : Option me_M :=
  (fT_putGamma N n s1 μ).bind fun r1 =>
  k94 l3 (l5 + (1 : Int32)) r1
def fK_writeRuns_94b (N : Nat) (n : Nat) (k94 : Int32 → Int32 → me_M → Option me_M) (l3 : Int32) (l5 : Int32) (μ : me_M) : Option me_M :=
  if l3 ≤ l5 then
    fK_writeRuns_137 N n μ
  else
    if l5 = 0 then
      me_gi l5 13 <|
      fK_writeRuns_128 N n k94 l3 l5 (μ.1 7 l5.toNatClampNeg) μ
    else
      me_gi l5 13 <|
      fK_writeRuns_128 N n k94 l3 l5 ((μ.1 7 l5.toNatClampNeg) - (1 : Int32)) μ
def fK_writeRuns_94 (N : Nat) (n : Nat) (F : Nat) : Int32 → Int32 → me_M → Option me_M := Nat.rec (motive := fun _ => Int32 → Int32 → me_M → Option me_M) (fun _ _ _ => none) (fun _ k94 => fK_writeRuns_94b N n k94) F
def fK_writeRuns_83 (N : Nat) (n : Nat) (l3 : Int32) (μ : me_M) : Option me_M :=
  (fT_putGamma N n l3 μ).bind fun r6 =>
  fK_writeRuns_94 N n N l3 (0 : Int32) r6
def fK_writeRuns_77 (N : Nat) (n : Nat) (k15 : Int32 → Int32 → Int32 → Int32 → Int32 → me_M → Option me_M) (l1 : Int32) (l2 : Int32) (l3 : Int32) (l4 : Int32) (l5 : Int32) (μ : me_M) : Option me_M :=
  k15 l1 l2 l3 l4 (l5 + (1 : Int32)) μ
def fK_writeRuns_67 (N : Nat) (n : Nat) (k15 : Int32 → Int32 → Int32 → Int32 → Int32 → me_M → Option me_M) (l1 : Int32) (l2 : Int32) (l3 : Int32) (l4 : Int32) (l5 : Int32) (μ : me_M) : Option me_M :=
  me_gi l3 13 <|
  me_gi l3 13 <|
  fK_writeRuns_77 N n k15 l1 l2 l3 l4 l5 (me_wi μ 7 l3.toNatClampNeg ((μ.1 7 l3.toNatClampNeg) + (1 : Int32)))
def fK_writeRuns_55 (N : Nat) (n : Nat) (k15 : Int32 → Int32 → Int32 → Int32 → Int32 → me_M → Option me_M) (l1 : Int32) (l2 : Int32) (l3 : Int32) (l5 : Int32) (s0 : Int32) (μ : me_M) : Option me_M :=
  me_gi (l3 + (1 : Int32)) 13 <|
  fK_writeRuns_67 N n k15 l1 l2 (l3 + (1 : Int32)) s0 l5 (me_wi μ 7 (l3 + (1 : Int32)).toNatClampNeg (0 : Int32))
def fK_writeRuns_15b (N : Nat) (n : Nat) (k15 : Int32 → Int32 → Int32 → Int32 → Int32 → me_M → Option me_M) (l1 : Int32) (l2 : Int32) (l3 : Int32) (l4 : Int32) (l5 : Int32) (μ : me_M) : Option me_M :=
  if (nI n) ≤ l5 then
    fK_writeRuns_83 N n l3 μ
  else
    (fA_holds N l2 l5).bind fun r11 =>
    if r11 = 0 then
      fK_writeRuns_77 N n k15 l1 l2 l3 l4 l5 μ
    else
      (fA_holds N l1 l5).bind fun r13 =>
      if r13 = l4 then
        fK_writeRuns_67 N n k15 l1 l2 l3 l4 l5 μ
      else
        if l4 = 0 then
          fK_writeRuns_55 N n k15 l1 l2 l3 l5 (1 : Int32) μ
        else
          fK_writeRuns_55 N n k15 l1 l2 l3 l5 (0 : Int32) μ
def fK_writeRuns_15 (N : Nat) (n : Nat) (F : Nat) : Int32 → Int32 → Int32 → Int32 → Int32 → me_M → Option me_M := Nat.rec (motive := fun _ => Int32 → Int32 → Int32 → Int32 → Int32 → me_M → Option me_M) (fun _ _ _ _ _ _ => none) (fun _ k15 => fK_writeRuns_15b N n k15) F
def fK_writeRuns (N : Nat) (n : Nat) (l1 : Int32) (l2 : Int32) (μ : me_M) : Option me_M :=
  me_gi (0 : Int32) 13 <|
  fK_writeRuns_15 N n N l1 l2 (0 : Int32) (1 : Int32) (0 : Int32) (me_wi μ 7 (0 : Int32).toNatClampNeg (0 : Int32))
def fK_rowLength_29 (N : Nat) (n : Nat) (μ : me_M) (l3 : Int32) : Option Int32 :=
  some l3
def fK_rowLength_2b (N : Nat) (n : Nat) (μ : me_M) (k2 : Int32 → Int32 → Int32 → Option Int32) (l1 : Int32) (l2 : Int32) (l3 : Int32) : Option Int32 :=
  if (nI n) ≤ (l2 + l3) then
    fK_rowLength_29 N n μ l3
  else
    (fA_holds N l1 (l2 + l3)).bind fun r2 =>
    if r2 = 0 then
      fK_rowLength_29 N n μ l3
    else
      k2 l1 l2 (l3 + (1 : Int32))
def fK_rowLength_2 (N : Nat) (n : Nat) (μ : me_M) (F : Nat) : Int32 → Int32 → Int32 → Option Int32 := Nat.rec (motive := fun _ => Int32 → Int32 → Int32 → Option Int32) (fun _ _ _ => none) (fun _ k2 => fK_rowLength_2b N n μ k2) F
def fK_rowLength (N : Nat) (n : Nat) (μ : me_M) (l1 : Int32) (l2 : Int32) : Option Int32 :=
  fK_rowLength_2 N n μ N l1 l2 (0 : Int32)
def fK_writeIntervals_197 (N : Nat) (n : Nat) (l4 : Int32) (μ : me_M) : Option (Int32 × me_M) :=
  some (l4, μ)
def fK_writeIntervals_147 (N : Nat) (n : Nat) (k105 : Int32 → Int32 → Int32 → Int32 → Int32 → me_M → Option (Int32 × me_M)) (l1 : Int32) (l3 : Int32) (l4 : Int32) (l6 : Int32) (s1 : Int32) (μ : me_M) : Option (Int32 × me_M) :=
  (fT_putGamma N n s1 μ).bind fun r1 =>
  me_gi l6 12 <|
  (fT_putGamma N n ((r1.1 9 l6.toNatClampNeg) - (r1.1 502 0)) r1).bind fun r3 =>
  me_gi l6 12 <|
  me_gi l6 12 <|
  k105 l1 l3 l4 (((r3.1 8 l6.toNatClampNeg) + (r3.1 9 l6.toNatClampNeg)) - (1 : Int32)) (l6 + (1 : Int32)) r3
def fK_writeIntervals_105b (N : Nat) (n : Nat) (k105 : Int32 → Int32 → Int32 → Int32 → Int32 → me_M → Option (Int32 × me_M)) (l1 : Int32) (l3 : Int32) (l4 : Int32) (l5 : Int32) (l6 : Int32) (μ : me_M) : Option (Int32 × me_M) :=
  if l3 ≤ l6 then
    fK_writeIntervals_197 N n l4 μ
  else
    if l6 = 0 then
      me_gi l6 12 <|
      (fT_withoutSign N ((μ.1 8 l6.toNatClampNeg) - l1)).bind fun r10 =>
      fK_writeIntervals_147 N n k105 l1 l3 l4 l6 r10 μ
    else
      me_gi l6 12 <|
      fK_writeIntervals_147 N n k105 l1 l3 l4 l6 (((μ.1 8 l6.toNatClampNeg) - l5) - (2 : Int32)) μ
def fK_writeIntervals_105 (N : Nat) (n : Nat) (F : Nat) : Int32 → Int32 → Int32 → Int32 → Int32 → me_M → Option (Int32 × me_M) := Nat.rec (motive := fun _ => Int32 → Int32 → Int32 → Int32 → Int32 → me_M → Option (Int32 × me_M)) (fun _ _ _ _ _ _ => none) (fun _ k105 => fK_writeIntervals_105b N n k105) F
def fK_writeIntervals_91 (N : Nat) (n : Nat) (l1 : Int32) (l3 : Int32) (l4 : Int32) (μ : me_M) : Option (Int32 × me_M) :=
  (fT_putGamma N n l3 μ).bind fun r11 =>
  fK_writeIntervals_105 N n N l1 l3 l4 (0 : Int32) (0 : Int32) r11
def fK_writeIntervals_74 (N : Nat) (n : Nat) (k8 : Int32 → Int32 → Int32 → Int32 → Int32 → me_M → Option (Int32 × me_M)) (l1 : Int32) (l2 : Int32) (l3 : Int32) (l4 : Int32) (l5 : Int32) (μ : me_M) : Option (Int32 × me_M) :=
  (fK_rowLength N n μ l2 l5).bind fun r12 =>
  k8 l1 l2 l3 l4 (l5 + (r12 + (1 : Int32))) μ
def fK_writeIntervals_8b (N : Nat) (n : Nat) (k8 : Int32 → Int32 → Int32 → Int32 → Int32 → me_M → Option (Int32 × me_M)) (l1 : Int32) (l2 : Int32) (l3 : Int32) (l4 : Int32) (l5 : Int32) (μ : me_M) : Option (Int32 × me_M) :=
  if (nI n) ≤ l5 then
    fK_writeIntervals_91 N n l1 l3 l4 μ
  else
    (fK_rowLength N n μ l2 l5).bind fun r14 =>
    if r14 < (μ.1 502 0) then
      fK_writeIntervals_74 N n k8 l1 l2 l3 l4 l5 μ
    else
      me_gi l3 12 <|
      me_gi l3 12 <|
      fK_writeIntervals_74 N n k8 l1 l2 (l3 + (1 : Int32)) (l4 &&& (((((1 : Int32) <<< (r14 &&& 31)) - (1 : Int32)) <<< (l5 &&& 31)) ^^^ (-1 : Int32))) l5 (me_wi (me_wi μ 8 l3.toNatClampNeg l5) 9 l3.toNatClampNeg r14)
def fK_writeIntervals_8 (N : Nat) (n : Nat) (F : Nat) : Int32 → Int32 → Int32 → Int32 → Int32 → me_M → Option (Int32 × me_M) := Nat.rec (motive := fun _ => Int32 → Int32 → Int32 → Int32 → Int32 → me_M → Option (Int32 × me_M)) (fun _ _ _ _ _ _ => none) (fun _ k8 => fK_writeIntervals_8b N n k8) F
def fK_writeIntervals (N : Nat) (n : Nat) (l1 : Int32) (l2 : Int32) (μ : me_M) : Option (Int32 × me_M) :=
  fK_writeIntervals_8 N n N l1 l2 (0 : Int32) l2 (0 : Int32) μ
def fK_writeSingles_67 (N : Nat) (n : Nat) (μ : me_M) : Option me_M :=
  some μ
def fK_writeSingles_61 (N : Nat) (n : Nat) (k5 : Int32 → Int32 → Int32 → Int32 → me_M → Option me_M) (l1 : Int32) (l2 : Int32) (l3 : Int32) (l4 : Int32) (μ : me_M) : Option me_M :=
  k5 l1 l2 l3 (l4 + (1 : Int32)) μ
def fK_writeSingles_48 (N : Nat) (n : Nat) (k5 : Int32 → Int32 → Int32 → Int32 → me_M → Option me_M) (l1 : Int32) (l2 : Int32) (l4 : Int32) (s1 : Int32) (μ : me_M) : Option me_M :=
  (fT_putZeta N n s1 (μ.1 503 0) μ).bind fun r1 =>
  fK_writeSingles_61 N n k5 l1 l2 l4 l4 r1
def fK_writeSingles_5b (N : Nat) (n : Nat) (k5 : Int32 → Int32 → Int32 → Int32 → me_M → Option me_M) (l1 : Int32) (l2 : Int32) (l3 : Int32) (l4 : Int32) (μ : me_M) : Option me_M :=
  if (nI n) ≤ l4 then
    fK_writeSingles_67 N n μ
  else
    (fA_holds N l2 l4).bind fun r3 =>
    if r3 = 0 then
      fK_writeSingles_61 N n k5 l1 l2 l3 l4 μ
    else
      if 0 ≤ l3 then
        fK_writeSingles_48 N n k5 l1 l2 l4 ((l4 - l3) - (1 : Int32)) μ
      else
        (fT_withoutSign N (l4 - l1)).bind fun r6 =>
        fK_writeSingles_48 N n k5 l1 l2 l4 r6 μ
def fK_writeSingles_5 (N : Nat) (n : Nat) (F : Nat) : Int32 → Int32 → Int32 → Int32 → me_M → Option me_M := Nat.rec (motive := fun _ => Int32 → Int32 → Int32 → Int32 → me_M → Option me_M) (fun _ _ _ _ _ => none) (fun _ k5 => fK_writeSingles_5b N n k5) F
def fK_writeSingles (N : Nat) (n : Nat) (l1 : Int32) (l2 : Int32) (μ : me_M) : Option me_M :=
  fK_writeSingles_5 N n N l1 l2 (-1 : Int32) (0 : Int32) μ
def fK_writeRecord_91 (N : Nat) (n : Nat) (l1 : Int32) (l3 : Int32) (μ : me_M) : Option me_M :=
  (fK_writeSingles N n l1 l3 μ).bind fun r1 =>
  some r1
def fK_writeRecord_70 (N : Nat) (n : Nat) (l1 : Int32) (l3 : Int32) (μ : me_M) : Option me_M :=
  if l3 = 0 then
    fK_writeRecord_91 N n l1 l3 μ
  else
    if (μ.1 502 0) ≤ 0 then
      fK_writeRecord_91 N n l1 l3 μ
    else
      (fK_writeIntervals N n l1 l3 μ).bind fun r4 =>
      fK_writeRecord_91 N n l1 r4.1 r4.2
def fK_writeRecord_40 (N : Nat) (n : Nat) (l1 : Int32) (l2 : Int32) (l3 : Int32) (μ : me_M) : Option me_M :=
  if l2 ≤ 0 then
    fK_writeRecord_70 N n l1 l3 μ
  else
    me_gi (l1 - l2) n <|
    (fK_writeRuns N n l3 (μ.1 1 (l1 - l2).toNatClampNeg) μ).bind fun r7 =>
    me_gi (l1 - l2) n <|
    fK_writeRecord_70 N n l1 (l3 &&& ((r7.1 1 (l1 - l2).toNatClampNeg) ^^^ (-1 : Int32))) r7
def fK_writeRecord (N : Nat) (n : Nat) (l1 : Int32) (l2 : Int32) (μ : me_M) : Option me_M :=
  me_gi l1 n <|
  (fJ_bitCount N (μ.1 1 l1.toNatClampNeg)).bind fun r10 =>
  (fT_putGamma N n r10 μ).bind fun r11 =>
  if (μ.1 1 l1.toNatClampNeg) = 0 then
    fK_writeRecord_40 N n l1 l2 (μ.1 1 l1.toNatClampNeg) r11
  else
    if (r11.1 500 0) ≤ 0 then
      fK_writeRecord_40 N n l1 l2 (μ.1 1 l1.toNatClampNeg) r11
    else
      (fT_putUnary N n l2 r11).bind fun r14 =>
      fK_writeRecord_40 N n l1 l2 (μ.1 1 l1.toNatClampNeg) r14
def fK_bestReference_116 (N : Nat) (n : Nat) (l3 : Int32) (μ : me_M) : Option (Int32 × me_M) :=
  some (l3, μ)
def fK_bestReference_110 (N : Nat) (n : Nat) (k44 : Int32 → Int32 → Int32 → Int32 → Int32 → Int32 → me_M → Option (Int32 × me_M)) (l1 : Int32) (l2 : Int32) (l3 : Int32) (l4 : Int32) (l5 : Int32) (l6 : Int32) (μ : me_M) : Option (Int32 × me_M) :=
  k44 l1 l2 l3 l4 l5 (l6 + (1 : Int32)) μ
def fK_bestReference_102 (N : Nat) (n : Nat) (k44 : Int32 → Int32 → Int32 → Int32 → Int32 → Int32 → me_M → Option (Int32 × me_M)) (l1 : Int32) (l2 : Int32) (l3 : Int32) (l4 : Int32) (l5 : Int32) (l6 : Int32) (μ : me_M) : Option (Int32 × me_M) :=
  fK_bestReference_110 N n k44 l1 l2 l3 l4 l5 l6 (me_wi μ 301 0 l2)
def fK_bestReference_67 (N : Nat) (n : Nat) (k44 : Int32 → Int32 → Int32 → Int32 → Int32 → Int32 → me_M → Option (Int32 × me_M)) (l1 : Int32) (l2 : Int32) (l3 : Int32) (l4 : Int32) (l5 : Int32) (l6 : Int32) (μ : me_M) : Option (Int32 × me_M) :=
  (fK_writeRecord N n l1 l6 μ).bind fun r1 =>
  if l4 ≤ ((r1.1 301 0) - l2) then
    fK_bestReference_102 N n k44 l1 l2 l3 l4 l5 l6 r1
  else
    fK_bestReference_102 N n k44 l1 l2 l6 ((r1.1 301 0) - l2) l5 l6 r1
def fK_bestReference_44b (N : Nat) (n : Nat) (k44 : Int32 → Int32 → Int32 → Int32 → Int32 → Int32 → me_M → Option (Int32 × me_M)) (l1 : Int32) (l2 : Int32) (l3 : Int32) (l4 : Int32) (l5 : Int32) (l6 : Int32) (μ : me_M) : Option (Int32 × me_M) :=
  if l5 < l6 then
    fK_bestReference_116 N n l3 μ
  else
    if l6 = 0 then
      fK_bestReference_67 N n k44 l1 l2 l3 l4 l5 l6 μ
    else
      (fK_mayBeReferredTo N n μ (l1 - l6)).bind fun r5 =>
      if r5 = 0 then
        fK_bestReference_110 N n k44 l1 l2 l3 l4 l5 l6 μ
      else
        fK_bestReference_67 N n k44 l1 l2 l3 l4 l5 l6 μ
def fK_bestReference_44 (N : Nat) (n : Nat) (F : Nat) : Int32 → Int32 → Int32 → Int32 → Int32 → Int32 → me_M → Option (Int32 × me_M) := Nat.rec (motive := fun _ => Int32 → Int32 → Int32 → Int32 → Int32 → Int32 → me_M → Option (Int32 × me_M)) (fun _ _ _ _ _ _ _ => none) (fun _ k44 => fK_bestReference_44b N n k44) F
def fK_bestReference_39 (N : Nat) (n : Nat) (l1 : Int32) (l2 : Int32) (l3 : Int32) (l4 : Int32) (s0 : Int32) (μ : me_M) : Option (Int32 × me_M) :=
  fK_bestReference_44 N n N l1 l2 l3 l4 s0 (0 : Int32) μ
def fK_bestReference (N : Nat) (n : Nat) (l1 : Int32) (μ : me_M) : Option (Int32 × me_M) :=
  me_gi l1 n <|
  if (μ.1 1 l1.toNatClampNeg) = 0 then
    fK_bestReference_39 N n l1 (μ.1 301 0) (0 : Int32) (800 : Int32) (0 : Int32) μ
  else
    fK_bestReference_39 N n l1 (μ.1 301 0) (0 : Int32) (800 : Int32) (if l1 < (μ.1 500 0) then l1 else (μ.1 500 0)) μ
def fK_writeAll_77 (N : Nat) (n : Nat) (μ : me_M) : Option me_M :=
  me_gi (nI n) (n + 1) <|
  some (me_wi μ 5 (nI n).toNatClampNeg (μ.1 301 0))
def fK_writeAll_70 (N : Nat) (n : Nat) (k10 : Int32 → me_M → Option me_M) (l1 : Int32) (s1 : Int32) (s2 : Int32) (μ : me_M) : Option me_M :=
  me_gi s1 n <|
  k10 (l1 + (1 : Int32)) (me_wi μ 10 s1.toNatClampNeg s2)
def fK_writeAll_10b (N : Nat) (n : Nat) (k10 : Int32 → me_M → Option me_M) (l1 : Int32) (μ : me_M) : Option me_M :=
  if (nI n) ≤ l1 then
    fK_writeAll_77 N n μ
  else
    me_gi l1 (n + 1) <|
    (fK_bestReference N n l1 (me_wi μ 5 l1.toNatClampNeg (μ.1 301 0))).bind fun r5 =>
    (fK_writeRecord N n l1 r5.1 r5.2).bind fun r6 =>
    if r5.1 = 0 then
      fK_writeAll_70 N n k10 l1 l1 (0 : Int32) r6
    else
      me_gi (l1 - r5.1) n <|
      fK_writeAll_70 N n k10 l1 l1 ((r6.1 10 (l1 - r5.1).toNatClampNeg) + (1 : Int32)) r6
def fK_writeAll_10 (N : Nat) (n : Nat) (F : Nat) : Int32 → me_M → Option me_M := Nat.rec (motive := fun _ => Int32 → me_M → Option me_M) (fun _ _ => none) (fun _ k10 => fK_writeAll_10b N n k10) F
def fK_writeAll (N : Nat) (n : Nat) (μ : me_M) : Option me_M :=
  fK_writeAll_10 N n N (0 : Int32) (me_wi μ 301 0 (0 : Int32))
def fD_nextBit_26 (N : Nat) (n : Nat) (μ : me_M) : Option (Int32 × me_M) :=
  if (μ.1 1209 0) = 0 then
    me_gi (((me_wi μ 1208 0 ((μ.1 1208 0) + (1 : Int32))).1 1208 0) - (1 : Int32)) 800 <|
    some ((me_wi μ 1208 0 ((μ.1 1208 0) + (1 : Int32))).1 3 (((me_wi μ 1208 0 ((μ.1 1208 0) + (1 : Int32))).1 1208 0) - (1 : Int32)).toNatClampNeg, me_wi μ 1208 0 ((μ.1 1208 0) + (1 : Int32)))
  else
    some ((1 : Int32), μ)
def fD_nextBit (N : Nat) (n : Nat) (μ : me_M) : Option (Int32 × me_M) :=
  if (μ.1 1209 0) = 0 then
    if (μ.1 1208 0) < (μ.1 301 0) then
      fD_nextBit_26 N n μ
    else
      fD_nextBit_26 N n (me_wi μ 1209 0 (1 : Int32))
  else
    fD_nextBit_26 N n μ
def fD_failIf_16 (N : Nat) (n : Nat) (μ : me_M) : Option me_M :=
  some μ
def fD_failIf (N : Nat) (n : Nat) (l1 : Int32) (l2 : Int32) (μ : me_M) : Option me_M :=
  if l1 = 0 then
    fD_failIf_16 N n μ
  else
    if (μ.1 1209 0) = 0 then
      fD_failIf_16 N n (me_wi μ 1209 0 l2)
    else
      fD_failIf_16 N n μ
def fD_nextUnary_24 (N : Nat) (n : Nat) (μ : me_M) : Option (Int32 × me_M) :=
  (fD_failIf N n (1 : Int32) (2 : Int32) μ).bind fun r1 =>
  some ((0 : Int32), r1)
def fD_nextUnary_2b (N : Nat) (n : Nat) (k2 : Int32 → me_M → Option (Int32 × me_M)) (l1 : Int32) (μ : me_M) : Option (Int32 × me_M) :=
  if (7 : Int32) ≤ l1 then
    fD_nextUnary_24 N n μ
  else
    (fD_nextBit N n μ).bind fun r3 =>
    if r3.1 = (1 : Int32) then
      some (l1, r3.2)
    else
      k2 (l1 + (1 : Int32)) r3.2
def fD_nextUnary_2 (N : Nat) (n : Nat) (F : Nat) : Int32 → me_M → Option (Int32 × me_M) := Nat.rec (motive := fun _ => Int32 → me_M → Option (Int32 × me_M)) (fun _ _ => none) (fun _ k2 => fD_nextUnary_2b N n k2) F
def fD_nextUnary (N : Nat) (n : Nat) (μ : me_M) : Option (Int32 × me_M) :=
  fD_nextUnary_2 N n N (0 : Int32) μ
def fD_nextNumber_26 (N : Nat) (n : Nat) (l3 : Int32) (μ : me_M) : Option (Int32 × me_M) :=
  some (l3, μ)
def fD_nextNumber_5b (N : Nat) (n : Nat) (k5 : Int32 → Int32 → Int32 → me_M → Option (Int32 × me_M)) (l2 : Int32) (l3 : Int32) (l4 : Int32) (μ : me_M) : Option (Int32 × me_M) :=
  if l2 ≤ l4 then
    fD_nextNumber_26 N n l3 μ
  else
    (fD_nextBit N n μ).bind fun r2 =>
    k5 l2 (((2 : Int32) * l3) + r2.1) (l4 + (1 : Int32)) r2.2
def fD_nextNumber_5 (N : Nat) (n : Nat) (F : Nat) : Int32 → Int32 → Int32 → me_M → Option (Int32 × me_M) := Nat.rec (motive := fun _ => Int32 → Int32 → Int32 → me_M → Option (Int32 × me_M)) (fun _ _ _ _ => none) (fun _ k5 => fD_nextNumber_5b N n k5) F
def fD_nextNumber (N : Nat) (n : Nat) (l1 : Int32) (l2 : Int32) (μ : me_M) : Option (Int32 × me_M) :=
  fD_nextNumber_5 N n N l2 l1 (0 : Int32) μ
def fD_nextGamma (N : Nat) (n : Nat) (μ : me_M) : Option (Int32 × me_M) :=
  (fD_nextUnary N n μ).bind fun r1 =>
  (fD_nextNumber N n (1 : Int32) r1.1 r1.2).bind fun r2 =>
  some (r2.1 - (1 : Int32), r2.2)
def fD_goesOn_19 (N : Nat) (n : Nat) (μ : me_M) (s0 : Int32) : Option Int32 :=
  me_gz s0 <|
  some s0
def fD_goesOn_18 (N : Nat) (n : Nat) (μ : me_M) : Option Int32 :=
  fD_goesOn_19 N n μ (0 : Int32)
def fD_goesOn (N : Nat) (n : Nat) (μ : me_M) : Option Int32 :=
  if (μ.1 1209 0) = 0 then
    if (μ.1 1212 0) ≤ 0 then
      fD_goesOn_18 N n μ
    else
      fD_goesOn_19 N n μ (1 : Int32)
  else
    fD_goesOn_18 N n μ
def fD_readReference_102 (N : Nat) (n : Nat) (μ : me_M) : Option me_M :=
  some μ
def fD_readReference_98 (N : Nat) (n : Nat) (s1 : Int32) (μ : me_M) : Option me_M :=
  (fD_failIf N n s1 (5 : Int32) μ).bind fun r1 =>
  fD_readReference_102 N n r1
def fD_readReference_93 (N : Nat) (n : Nat) (μ : me_M) : Option me_M :=
  fD_readReference_98 N n (1 : Int32) μ
def fD_readReference_39 (N : Nat) (n : Nat) (s1 : Int32) (μ : me_M) : Option me_M :=
  (fD_failIf N n s1 (4 : Int32) μ).bind fun r2 =>
  if (r2.1 1209 0) = 0 then
    if (r2.1 1210 0) ≤ 0 then
      fD_readReference_102 N n r2
    else
      me_gi ((r2.1 1207 0) - (r2.1 1210 0)) n <|
      if (r2.1 13 ((r2.1 1207 0) - (r2.1 1210 0)).toNatClampNeg) = 0 then
        me_gi ((r2.1 1207 0) - (r2.1 1210 0)) n <|
        if (r2.1 15 ((r2.1 1207 0) - (r2.1 1210 0)).toNatClampNeg) < (r2.1 501 0) then
          fD_readReference_98 N n (0 : Int32) r2
        else
          fD_readReference_93 N n r2
      else
        fD_readReference_93 N n r2
  else
    fD_readReference_102 N n r2
def fD_readReference_34 (N : Nat) (n : Nat) (μ : me_M) : Option me_M :=
  fD_readReference_39 N n (1 : Int32) μ
def fD_readReference (N : Nat) (n : Nat) (μ : me_M) : Option me_M :=
  (fD_nextUnary N n μ).bind fun r9 =>
  if ((me_wi r9.2 1210 0 r9.1).1 500 0) < ((me_wi r9.2 1210 0 r9.1).1 1210 0) then
    fD_readReference_34 N n (me_wi r9.2 1210 0 r9.1)
  else
    if ((me_wi r9.2 1210 0 r9.1).1 1210 0) ≤ ((me_wi r9.2 1210 0 r9.1).1 1207 0) then
      fD_readReference_39 N n (0 : Int32) (me_wi r9.2 1210 0 r9.1)
    else
      fD_readReference_34 N n (me_wi r9.2 1210 0 r9.1)
def fD_lowest_25 (N : Nat) (l0 : Int32) (l2 : Int32) : Option Int32 :=
  some (l0 &&& (l2 ^^^ (-1 : Int32)))
def fD_lowest_4b (N : Nat) (k4 : Int32 → Int32 → Int32 → Int32 → Option Int32) (l0 : Int32) (l1 : Int32) (l2 : Int32) (l3 : Int32) : Option Int32 :=
  if l1 ≤ l3 then
    fD_lowest_25 N l0 l2
  else
    if l2 = 0 then
      fD_lowest_25 N l0 l2
    else
      k4 l0 l1 (l2 &&& (l2 - (1 : Int32))) (l3 + (1 : Int32))
def fD_lowest_4 (N : Nat) (F : Nat) : Int32 → Int32 → Int32 → Int32 → Option Int32 := Nat.rec (motive := fun _ => Int32 → Int32 → Int32 → Int32 → Option Int32) (fun _ _ _ _ => none) (fun _ k4 => fD_lowest_4b N k4) F
def fD_lowest (N : Nat) (l0 : Int32) (l1 : Int32) : Option Int32 :=
  fD_lowest_4 N N l0 l1 l0 (0 : Int32)
def fD_take_22 (N : Nat) (n : Nat) (l1 : Int32) (s1 : Int32) (μ : me_M) : Option me_M :=
  me_gz s1 <|
  (fJ_bitCount N l1).bind fun r2 =>
  some (me_wi (me_wi (me_wi μ 1213 0 s1) 1211 0 (((me_wi μ 1213 0 s1).1 1211 0) ||| l1)) 1212 0 (((me_wi (me_wi μ 1213 0 s1) 1211 0 (((me_wi μ 1213 0 s1).1 1211 0) ||| l1)).1 1212 0) - r2))
def fD_take_17 (N : Nat) (n : Nat) (l1 : Int32) (μ : me_M) : Option me_M :=
  fD_take_22 N n l1 (1 : Int32) μ
def fD_take (N : Nat) (n : Nat) (l1 : Int32) (μ : me_M) : Option me_M :=
  if (μ.1 1213 0) = 0 then
    if ((μ.1 1211 0) &&& l1) = 0 then
      fD_take_22 N n l1 (0 : Int32) μ
    else
      fD_take_17 N n l1 μ
  else
    fD_take_17 N n l1 μ
def fD_readRuns_128 (N : Nat) (n : Nat) (l2 : Int32) (s1 : Int32) (μ : me_M) : Option me_M :=
  (fD_failIf N n s1 (6 : Int32) μ).bind fun r1 =>
  (fD_take N n l2 r1).bind fun r2 =>
  some r2
def fD_readRuns_111 (N : Nat) (n : Nat) (l2 : Int32) (μ : me_M) : Option me_M :=
  (fJ_bitCount N l2).bind fun r3 =>
  if r3 ≤ (μ.1 1212 0) then
    fD_readRuns_128 N n l2 (0 : Int32) μ
  else
    fD_readRuns_128 N n l2 (1 : Int32) μ
def fD_readRuns_100 (N : Nat) (n : Nat) (l2 : Int32) (l3 : Int32) (l4 : Int32) (μ : me_M) : Option me_M :=
  if (l4 - l4 / (2 : Int32) * (2 : Int32)) = 0 then
    fD_readRuns_111 N n (l2 ||| l3) μ
  else
    fD_readRuns_111 N n l2 μ
def fD_readRuns_94 (N : Nat) (n : Nat) (k13 : Int32 → Int32 → Int32 → Int32 → me_M → Option me_M) (l2 : Int32) (l3 : Int32) (l4 : Int32) (l5 : Int32) (μ : me_M) : Option me_M :=
  k13 l2 l3 l4 (l5 + (1 : Int32)) μ
def fD_readRuns_62 (N : Nat) (n : Nat) (k13 : Int32 → Int32 → Int32 → Int32 → me_M → Option me_M) (l2 : Int32) (l3 : Int32) (l4 : Int32) (l5 : Int32) (l6 : Int32) (s1 : Int32) (μ : me_M) : Option me_M :=
  (fD_failIf N n s1 (6 : Int32) μ).bind fun r7 =>
  (fD_lowest N l3 l6).bind fun r8 =>
  if (l5 - l5 / (2 : Int32) * (2 : Int32)) = 0 then
    fD_readRuns_94 N n k13 (l2 ||| r8) (l3 &&& (r8 ^^^ (-1 : Int32))) l4 l5 r7
  else
    fD_readRuns_94 N n k13 l2 (l3 &&& (r8 ^^^ (-1 : Int32))) l4 l5 r7
def fD_readRuns_45 (N : Nat) (n : Nat) (k13 : Int32 → Int32 → Int32 → Int32 → me_M → Option me_M) (l2 : Int32) (l3 : Int32) (l4 : Int32) (l5 : Int32) (s0 : Int32) (μ : me_M) : Option me_M :=
  (fJ_bitCount N l3).bind fun r11 =>
  if s0 ≤ r11 then
    fD_readRuns_62 N n k13 l2 l3 l4 l5 s0 (0 : Int32) μ
  else
    fD_readRuns_62 N n k13 l2 l3 l4 l5 s0 (1 : Int32) μ
def fD_readRuns_13b (N : Nat) (n : Nat) (k13 : Int32 → Int32 → Int32 → Int32 → me_M → Option me_M) (l2 : Int32) (l3 : Int32) (l4 : Int32) (l5 : Int32) (μ : me_M) : Option me_M :=
  if l4 ≤ l5 then
    fD_readRuns_100 N n l2 l3 l4 μ
  else
    if (μ.1 1209 0) = 0 then
      if l5 = 0 then
        (fD_nextGamma N n μ).bind fun r17 =>
        fD_readRuns_45 N n k13 l2 l3 l4 l5 r17.1 r17.2
      else
        (fD_nextGamma N n μ).bind fun r16 =>
        fD_readRuns_45 N n k13 l2 l3 l4 l5 (r16.1 + (1 : Int32)) r16.2
    else
      fD_readRuns_100 N n l2 l3 l4 μ
def fD_readRuns_13 (N : Nat) (n : Nat) (F : Nat) : Int32 → Int32 → Int32 → Int32 → me_M → Option me_M := Nat.rec (motive := fun _ => Int32 → Int32 → Int32 → Int32 → me_M → Option me_M) (fun _ _ _ _ _ => none) (fun _ k13 => fD_readRuns_13b N n k13) F
def fD_readRuns (N : Nat) (n : Nat) (l1 : Int32) (μ : me_M) : Option me_M :=
  (fD_nextGamma N n μ).bind fun r18 =>
  fD_readRuns_13 N n N (0 : Int32) l1 r18.1 (0 : Int32) r18.2
def fA_within_15 (N : Nat) (s0 : Int32) : Option Int32 :=
  me_gz s0 <|
  some s0
def fA_within_14 (N : Nat) : Option Int32 :=
  fA_within_15 N (0 : Int32)
def fA_within (N : Nat) (l0 : Int32) (l1 : Int32) (l2 : Int32) : Option Int32 :=
  if l0 < l1 then
    fA_within_14 N
  else
    if l2 < l0 then
      fA_within_14 N
    else
      fA_within_15 N (1 : Int32)
def fD_readIntervals_154 (N : Nat) (n : Nat) (μ : me_M) : Option me_M :=
  some μ
def fD_readIntervals_148 (N : Nat) (n : Nat) (k9 : Int32 → Int32 → Int32 → me_M → Option me_M) (l1 : Int32) (l2 : Int32) (l3 : Int32) (μ : me_M) : Option me_M :=
  k9 l1 l2 (l3 + (1 : Int32)) μ
def fD_readIntervals_123 (N : Nat) (n : Nat) (k9 : Int32 → Int32 → Int32 → me_M → Option me_M) (l1 : Int32) (l2 : Int32) (l3 : Int32) (l4 : Int32) (l5 : Int32) (s1 : Int32) (μ : me_M) : Option me_M :=
  (fD_failIf N n s1 (7 : Int32) μ).bind fun r1 =>
  if (r1.1 1209 0) = 0 then
    (fD_take N n ((((1 : Int32) <<< (l5 &&& 31)) - (1 : Int32)) <<< (l4 &&& 31)) r1).bind fun r3 =>
    fD_readIntervals_148 N n k9 l1 l2 l3 r3
  else
    fD_readIntervals_148 N n k9 l1 l2 l3 r1
def fD_readIntervals_118 (N : Nat) (n : Nat) (k9 : Int32 → Int32 → Int32 → me_M → Option me_M) (l1 : Int32) (l2 : Int32) (l3 : Int32) (l4 : Int32) (l5 : Int32) (μ : me_M) : Option me_M :=
  fD_readIntervals_123 N n k9 l1 l2 l3 l4 l5 (1 : Int32) μ
def fD_readIntervals_71 (N : Nat) (n : Nat) (k9 : Int32 → Int32 → Int32 → me_M → Option me_M) (l1 : Int32) (l3 : Int32) (l4 : Int32) (s1 : Int32) (μ : me_M) : Option me_M :=
  (fD_failIf N n s1 (7 : Int32) μ).bind fun r4 =>
  (fD_nextGamma N n r4).bind fun r5 =>
  if ((nI n) - (1 : Int32)) < ((l4 + (r5.1 + (r5.2.1 502 0))) - (1 : Int32)) then
    fD_readIntervals_118 N n k9 l1 ((l4 + (r5.1 + (r5.2.1 502 0))) - (1 : Int32)) l3 l4 (r5.1 + (r5.2.1 502 0)) r5.2
  else
    if (r5.1 + (r5.2.1 502 0)) ≤ (r5.2.1 1212 0) then
      fD_readIntervals_123 N n k9 l1 ((l4 + (r5.1 + (r5.2.1 502 0))) - (1 : Int32)) l3 l4 (r5.1 + (r5.2.1 502 0)) (0 : Int32) r5.2
    else
      fD_readIntervals_118 N n k9 l1 ((l4 + (r5.1 + (r5.2.1 502 0))) - (1 : Int32)) l3 l4 (r5.1 + (r5.2.1 502 0)) r5.2
def fD_readIntervals_48 (N : Nat) (n : Nat) (k9 : Int32 → Int32 → Int32 → me_M → Option me_M) (l1 : Int32) (l3 : Int32) (s0 : Int32) (μ : me_M) : Option me_M :=
  (fA_within N s0 (0 : Int32) ((nI n) - (1 : Int32))).bind fun r8 =>
  if r8 = 0 then
    fD_readIntervals_71 N n k9 l1 l3 s0 (1 : Int32) μ
  else
    fD_readIntervals_71 N n k9 l1 l3 s0 (0 : Int32) μ
def fD_readIntervals_9b (N : Nat) (n : Nat) (k9 : Int32 → Int32 → Int32 → me_M → Option me_M) (l1 : Int32) (l2 : Int32) (l3 : Int32) (μ : me_M) : Option me_M :=
  if l1 ≤ l3 then
    fD_readIntervals_154 N n μ
  else
    if (μ.1 1209 0) = 0 then
      if l3 = 0 then
        (fD_nextGamma N n μ).bind fun r14 =>
        (fT_withSign N r14.1).bind fun r15 =>
        fD_readIntervals_48 N n k9 l1 l3 ((μ.1 1207 0) + r15) r14.2
      else
        (fD_nextGamma N n μ).bind fun r13 =>
        fD_readIntervals_48 N n k9 l1 l3 ((l2 + (2 : Int32)) + r13.1) r13.2
    else
      fD_readIntervals_154 N n μ
def fD_readIntervals_9 (N : Nat) (n : Nat) (F : Nat) : Int32 → Int32 → Int32 → me_M → Option me_M := Nat.rec (motive := fun _ => Int32 → Int32 → Int32 → me_M → Option me_M) (fun _ _ _ _ => none) (fun _ k9 => fD_readIntervals_9b N n k9) F
def fD_readIntervals (N : Nat) (n : Nat) (μ : me_M) : Option me_M :=
  (fD_nextGamma N n μ).bind fun r16 =>
  fD_readIntervals_9 N n N r16.1 (0 : Int32) (0 : Int32) r16.2
def fD_nextZeta_63 (N : Nat) (n : Nat) (s0 : Int32) (μ : me_M) : Option (Int32 × me_M) :=
  some (s0, μ)
def fD_nextZeta (N : Nat) (n : Nat) (μ : me_M) : Option (Int32 × me_M) :=
  (fD_nextUnary N n μ).bind fun r1 =>
  (fD_nextNumber N n (0 : Int32) (((r1.1 * (r1.2.1 503 0)) + (r1.2.1 503 0)) - (1 : Int32)) r1.2).bind fun r2 =>
  if ((1 : Int32) <<< ((r1.1 * (r1.2.1 503 0)) &&& 31)) ≤ r2.1 then
    (fD_nextNumber N n r2.1 (1 : Int32) r2.2).bind fun r4 =>
    fD_nextZeta_63 N n (r4.1 - (1 : Int32)) r4.2
  else
    fD_nextZeta_63 N n ((r2.1 + ((1 : Int32) <<< ((r1.1 * (r1.2.1 503 0)) &&& 31))) - (1 : Int32)) r2.2
def fD_readSingles_94 (N : Nat) (n : Nat) (μ : me_M) : Option me_M :=
  some μ
def fD_readSingles_88 (N : Nat) (n : Nat) (k9 : Int32 → Int32 → Int32 → me_M → Option me_M) (l1 : Int32) (l2 : Int32) (l3 : Int32) (μ : me_M) : Option me_M :=
  k9 l1 l2 (l3 + (1 : Int32)) μ
def fD_readSingles_69 (N : Nat) (n : Nat) (k9 : Int32 → Int32 → Int32 → me_M → Option me_M) (l1 : Int32) (l2 : Int32) (l3 : Int32) (s1 : Int32) (μ : me_M) : Option me_M :=
  (fD_failIf N n s1 (8 : Int32) μ).bind fun r1 =>
  if (r1.1 1209 0) = 0 then
    (fD_take N n ((1 : Int32) <<< (l2 &&& 31)) r1).bind fun r3 =>
    fD_readSingles_88 N n k9 l1 l2 l3 r3
  else
    fD_readSingles_88 N n k9 l1 l2 l3 r1
def fD_readSingles_48 (N : Nat) (n : Nat) (k9 : Int32 → Int32 → Int32 → me_M → Option me_M) (l1 : Int32) (l3 : Int32) (s0 : Int32) (μ : me_M) : Option me_M :=
  (fA_within N s0 (0 : Int32) ((nI n) - (1 : Int32))).bind fun r4 =>
  if r4 = 0 then
    fD_readSingles_69 N n k9 l1 s0 l3 (1 : Int32) μ
  else
    fD_readSingles_69 N n k9 l1 s0 l3 (0 : Int32) μ
def fD_readSingles_9b (N : Nat) (n : Nat) (k9 : Int32 → Int32 → Int32 → me_M → Option me_M) (l1 : Int32) (l2 : Int32) (l3 : Int32) (μ : me_M) : Option me_M :=
  if l1 ≤ l3 then
    fD_readSingles_94 N n μ
  else
    if (μ.1 1209 0) = 0 then
      if l3 = 0 then
        (fD_nextZeta N n μ).bind fun r10 =>
        (fT_withSign N r10.1).bind fun r11 =>
        fD_readSingles_48 N n k9 l1 l3 ((μ.1 1207 0) + r11) r10.2
      else
        (fD_nextZeta N n μ).bind fun r9 =>
        fD_readSingles_48 N n k9 l1 l3 ((l2 + (1 : Int32)) + r9.1) r9.2
    else
      fD_readSingles_94 N n μ
def fD_readSingles_9 (N : Nat) (n : Nat) (F : Nat) : Int32 → Int32 → Int32 → me_M → Option me_M := Nat.rec (motive := fun _ => Int32 → Int32 → Int32 → me_M → Option me_M) (fun _ _ _ _ => none) (fun _ k9 => fD_readSingles_9b N n k9) F
def fD_readSingles (N : Nat) (n : Nat) (μ : me_M) : Option me_M :=
  fD_readSingles_9 N n N (μ.1 1212 0) (0 : Int32) (0 : Int32) μ
def fD_readRecord_151 (N : Nat) (n : Nat) (s1 : Int32) (μ : me_M) : Option me_M :=
  (fD_failIf N n s1 (10 : Int32) μ).bind fun r1 =>
  some r1
def fD_readRecord_114 (N : Nat) (n : Nat) (μ : me_M) : Option me_M :=
  (fD_failIf N n (μ.1 1213 0) (9 : Int32) μ).bind fun r2 =>
  me_gi ((r2.1 1207 0) + (1 : Int32)) (n + 1) <|
  if (r2.1 1208 0) = (r2.1 5 ((r2.1 1207 0) + (1 : Int32)).toNatClampNeg) then
    fD_readRecord_151 N n (0 : Int32) r2
  else
    fD_readRecord_151 N n (1 : Int32) r2
def fD_readRecord_103 (N : Nat) (n : Nat) (μ : me_M) : Option me_M :=
  (fD_goesOn N n μ).bind fun r5 =>
  if r5 = 0 then
    fD_readRecord_114 N n μ
  else
    (fD_readSingles N n μ).bind fun r7 =>
    fD_readRecord_114 N n r7
def fD_readRecord_82 (N : Nat) (n : Nat) (μ : me_M) : Option me_M :=
  (fD_goesOn N n μ).bind fun r8 =>
  if r8 = 0 then
    fD_readRecord_103 N n μ
  else
    if (μ.1 502 0) ≤ 0 then
      fD_readRecord_103 N n μ
    else
      (fD_readIntervals N n μ).bind fun r11 =>
      fD_readRecord_103 N n r11
def fD_readRecord_50 (N : Nat) (n : Nat) (μ : me_M) : Option me_M :=
  (fD_goesOn N n μ).bind fun r12 =>
  if r12 = 0 then
    fD_readRecord_82 N n μ
  else
    if (μ.1 1210 0) ≤ 0 then
      fD_readRecord_82 N n μ
    else
      me_gi ((μ.1 1207 0) - (μ.1 1210 0)) n <|
      (fD_readRuns N n (μ.1 12 ((μ.1 1207 0) - (μ.1 1210 0)).toNatClampNeg) μ).bind fun r16 =>
      fD_readRecord_82 N n r16
def fD_readRecord_25 (N : Nat) (n : Nat) (s1 : Int32) (μ : me_M) : Option me_M :=
  (fD_failIf N n s1 (3 : Int32) μ).bind fun r17 =>
  (fD_goesOn N n r17).bind fun r18 =>
  if r18 = 0 then
    fD_readRecord_50 N n r17
  else
    if (r17.1 500 0) ≤ 0 then
      fD_readRecord_50 N n r17
    else
      (fD_readReference N n r17).bind fun r21 =>
      fD_readRecord_50 N n r21
def fD_readRecord (N : Nat) (n : Nat) (μ : me_M) : Option me_M :=
  (fD_nextGamma N n μ).bind fun r22 =>
  if ((me_wi r22.2 1212 0 r22.1).1 1212 0) ≤ (nI n) then
    fD_readRecord_25 N n (0 : Int32) (me_wi r22.2 1212 0 r22.1)
  else
    fD_readRecord_25 N n (1 : Int32) (me_wi r22.2 1212 0 r22.1)
def fD_readAll_144 (N : Nat) (n : Nat) (μ : me_M) : Option me_M :=
  some μ
def fD_readAll_137 (N : Nat) (n : Nat) (k2 : Int32 → me_M → Option me_M) (l1 : Int32) (s1 : Int32) (s2 : Int32) (μ : me_M) : Option me_M :=
  me_gi s1 n <|
  k2 (l1 + (1 : Int32)) (me_wi μ 15 s1.toNatClampNeg s2)
def fD_readAll_103 (N : Nat) (n : Nat) (k2 : Int32 → me_M → Option me_M) (l1 : Int32) (s1 : Int32) (s2 : Int32) (μ : me_M) : Option me_M :=
  me_gi s1 n <|
  me_gi l1 n <|
  if ((me_wi μ 14 s1.toNatClampNeg s2).1 14 l1.toNatClampNeg) = 0 then
    fD_readAll_137 N n k2 l1 l1 (0 : Int32) (me_wi μ 14 s1.toNatClampNeg s2)
  else
    me_gi l1 n <|
    me_gi (l1 - ((me_wi μ 14 s1.toNatClampNeg s2).1 14 l1.toNatClampNeg)) n <|
    fD_readAll_137 N n k2 l1 l1 (((me_wi μ 14 s1.toNatClampNeg s2).1 15 (l1 - ((me_wi μ 14 s1.toNatClampNeg s2).1 14 l1.toNatClampNeg)).toNatClampNeg) + (1 : Int32)) (me_wi μ 14 s1.toNatClampNeg s2)
def fD_readAll_82 (N : Nat) (n : Nat) (k2 : Int32 → me_M → Option me_M) (l1 : Int32) (s1 : Int32) (s2 : Int32) (μ : me_M) : Option me_M :=
  me_gi s1 n <|
  if ((me_wi μ 12 s1.toNatClampNeg s2).1 1209 0) = 0 then
    fD_readAll_103 N n k2 l1 l1 ((me_wi μ 12 s1.toNatClampNeg s2).1 1210 0) (me_wi μ 12 s1.toNatClampNeg s2)
  else
    fD_readAll_103 N n k2 l1 l1 (0 : Int32) (me_wi μ 12 s1.toNatClampNeg s2)
def fD_readAll_2b (N : Nat) (n : Nat) (k2 : Int32 → me_M → Option me_M) (l1 : Int32) (μ : me_M) : Option me_M :=
  if (nI n) ≤ l1 then
    fD_readAll_144 N n μ
  else
    me_gi l1 (n + 1) <|
    (fD_readRecord N n (me_wi (me_wi (me_wi (me_wi (me_wi (me_wi μ 1207 0 l1) 1208 0 ((me_wi μ 1207 0 l1).1 5 l1.toNatClampNeg)) 1209 0 (0 : Int32)) 1210 0 (0 : Int32)) 1211 0 (0 : Int32)) 1213 0 (0 : Int32))).bind fun r11 =>
    me_gi l1 n <|
    if ((me_wi r11 13 l1.toNatClampNeg (r11.1 1209 0)).1 1209 0) = 0 then
      fD_readAll_82 N n k2 l1 l1 ((me_wi r11 13 l1.toNatClampNeg (r11.1 1209 0)).1 1211 0) (me_wi r11 13 l1.toNatClampNeg (r11.1 1209 0))
    else
      fD_readAll_82 N n k2 l1 l1 (0 : Int32) (me_wi r11 13 l1.toNatClampNeg (r11.1 1209 0))
def fD_readAll_2 (N : Nat) (n : Nat) (F : Nat) : Int32 → me_M → Option me_M := Nat.rec (motive := fun _ => Int32 → me_M → Option me_M) (fun _ _ => none) (fun _ k2 => fD_readAll_2b N n k2) F
def fD_readAll (N : Nat) (n : Nat) (μ : me_M) : Option me_M :=
  fD_readAll_2 N n N (0 : Int32) μ
def fO_quotient_13 (N : Nat) (s0 : Int64) : Option Int64 :=
  some s0
def fO_quotient (N : Nat) (l0 : Int64) (l2 : Int64) : Option Int64 :=
  if (lg_cmp l2 (0 : Int64)) = 0 then
    fO_quotient_13 N (0 : Int64)
  else
    me_gd l2 0 <|
    fO_quotient_13 N (l0 / l2)
def fO_begin_85 (N : Nat) (n : Nat) (μ : me_M) : Option me_M :=
  some μ
def fO_begin_78 (N : Nat) (n : Nat) (k17 : Int32 → me_M → Option me_M) (l3 : Int32) (s1 : Int32) (s2 : Int64) (μ : me_M) : Option me_M :=
  me_gi s1 n <|
  k17 (l3 + (1 : Int32)) (me_wl μ 21 s1.toNatClampNeg s2)
def fO_begin_57 (N : Nat) (n : Nat) (k17 : Int32 → me_M → Option me_M) (l3 : Int32) (s1 : Int32) (s2 : Int64) (μ : me_M) : Option me_M :=
  me_gi s1 n <|
  if ((me_wl μ 20 s1.toNatClampNeg s2).1 2006 0) = (1 : Int32) then
    fO_begin_78 N n k17 l3 l3 (1000000 : Int64) (me_wl μ 20 s1.toNatClampNeg s2)
  else
    fO_begin_78 N n k17 l3 l3 (0 : Int64) (me_wl μ 20 s1.toNatClampNeg s2)
def fO_begin_17b (N : Nat) (n : Nat) (k17 : Int32 → me_M → Option me_M) (l3 : Int32) (μ : me_M) : Option me_M :=
  if (nI n) ≤ l3 then
    fO_begin_85 N n μ
  else
    if (μ.1 2006 0) = (1 : Int32) then
      fO_begin_57 N n k17 l3 l3 (1000000 : Int64) μ
    else
      (fO_quotient N (1000000000000 : Int64) ((nI n).toInt64)).bind fun r6 =>
      fO_begin_57 N n k17 l3 l3 r6 μ
def fO_begin_17 (N : Nat) (n : Nat) (F : Nat) : Int32 → me_M → Option me_M := Nat.rec (motive := fun _ => Int32 → me_M → Option me_M) (fun _ _ => none) (fun _ k17 => fO_begin_17b N n k17) F
def fO_begin (N : Nat) (n : Nat) (l1 : Int32) (l2 : Int32) (μ : me_M) : Option me_M :=
  fO_begin_17 N n N (0 : Int32) (me_wl (me_wi (me_wi μ 2006 0 l1) 2007 0 l2) 2003 0 (0 : Int64))
def fA_isNode (N : Nat) (n : Nat) (μ : me_M) (l1 : Int32) : Option Int32 :=
  (fA_within N l1 (0 : Int32) ((nI n) - (1 : Int32))).bind fun r1 =>
  me_gz r1 <|
  some r1
def fA_add_29 (N : Nat) (n : Nat) (μ : me_M) : Option (Int32 × me_M) :=
  me_gz (0 : Int32) <|
  some ((0 : Int32), μ)
def fA_add (N : Nat) (n : Nat) (l1 : Int32) (l2 : Int32) (μ : me_M) : Option (Int32 × me_M) :=
  (fA_isNode N n μ l1).bind fun r2 =>
  if r2 = 0 then
    fA_add_29 N n μ
  else
    (fA_isNode N n μ l2).bind fun r4 =>
    if r4 = 0 then
      fA_add_29 N n μ
    else
      me_gi l1 n <|
      (fA_holds N (μ.1 1 l1.toNatClampNeg) l2).bind fun r7 =>
      if r7 = 0 then
        me_gi l1 n <|
        me_gi l1 n <|
        me_gz (1 : Int32) <|
        some ((1 : Int32), me_wi μ 1 l1.toNatClampNeg ((μ.1 1 l1.toNatClampNeg) ||| ((1 : Int32) <<< (l2 &&& 31))))
      else
        fA_add_29 N n μ
def fA_drop_29 (N : Nat) (n : Nat) (μ : me_M) : Option (Int32 × me_M) :=
  me_gz (0 : Int32) <|
  some ((0 : Int32), μ)
def fA_drop (N : Nat) (n : Nat) (l1 : Int32) (l2 : Int32) (μ : me_M) : Option (Int32 × me_M) :=
  (fA_isNode N n μ l1).bind fun r2 =>
  if r2 = 0 then
    fA_drop_29 N n μ
  else
    (fA_isNode N n μ l2).bind fun r4 =>
    if r4 = 0 then
      fA_drop_29 N n μ
    else
      me_gi l1 n <|
      (fA_holds N (μ.1 1 l1.toNatClampNeg) l2).bind fun r7 =>
      if r7 = 0 then
        fA_drop_29 N n μ
      else
        me_gi l1 n <|
        me_gi l1 n <|
        me_gz (1 : Int32) <|
        some ((1 : Int32), me_wi μ 1 l1.toNatClampNeg ((μ.1 1 l1.toNatClampNeg) &&& (((1 : Int32) <<< (l2 &&& 31)) ^^^ (-1 : Int32))))
def fA_pack_39 (N : Nat) (n : Nat) (μ : me_M) : Option (Int32 × me_M) :=
  some ((-1 : Int32), μ)
def fA_pack (N : Nat) (n : Nat) (l1 : Int32) (l2 : Int32) (l3 : Int32) (l4 : Int32) (μ : me_M) : Option (Int32 × me_M) :=
  (fA_within N l1 (0 : Int32) (6 : Int32)).bind fun r1 =>
  if r1 = 0 then
    fA_pack_39 N n μ
  else
    (fA_within N l2 (0 : Int32) (3 : Int32)).bind fun r3 =>
    if r3 = 0 then
      fA_pack_39 N n μ
    else
      (fA_within N l3 (0 : Int32) (9 : Int32)).bind fun r5 =>
      if r5 = 0 then
        fA_pack_39 N n μ
      else
        (fA_within N l4 (1 : Int32) (4 : Int32)).bind fun r7 =>
        if r7 = 0 then
          fA_pack_39 N n μ
        else
          (fK_writeAll N n (me_wi (me_wi (me_wi (me_wi μ 500 0 l1) 501 0 l2) 502 0 l3) 503 0 l4)).bind fun r9 =>
          (fD_readAll N n r9).bind fun r10 =>
          some (r10.1 301 0, r10)
def fA_offset_25 (N : Nat) (n : Nat) (μ : me_M) (s0 : Int32) : Option Int32 :=
  some s0
def fA_offset (N : Nat) (n : Nat) (μ : me_M) (l1 : Int32) : Option Int32 :=
  (fA_within N l1 (0 : Int32) (nI n)).bind fun r1 =>
  if r1 = 0 then
    fA_offset_25 N n μ (-1 : Int32)
  else
    me_gi l1 (n + 1) <|
    fA_offset_25 N n μ (μ.1 5 l1.toNatClampNeg)
def fA_isPlace (N : Nat) (n : Nat) (μ : me_M) (l1 : Int32) : Option Int32 :=
  (fA_within N l1 (0 : Int32) ((μ.1 301 0) - (1 : Int32))).bind fun r1 =>
  me_gz r1 <|
  some r1
def fA_bit_21 (N : Nat) (n : Nat) (μ : me_M) (s0 : Int32) : Option Int32 :=
  some s0
def fA_bit (N : Nat) (n : Nat) (μ : me_M) (l1 : Int32) : Option Int32 :=
  (fA_isPlace N n μ l1).bind fun r1 =>
  if r1 = 0 then
    fA_bit_21 N n μ (-1 : Int32)
  else
    me_gi l1 800 <|
    fA_bit_21 N n μ (μ.1 3 l1.toNatClampNeg)
def fA_flip (N : Nat) (n : Nat) (l1 : Int32) (μ : me_M) : Option (Int32 × me_M) :=
  (fA_isPlace N n μ l1).bind fun r1 =>
  if r1 = 0 then
    me_gz (0 : Int32) <|
    some ((0 : Int32), μ)
  else
    me_gi l1 800 <|
    me_gi l1 800 <|
    (fD_readAll N n (me_wi μ 3 l1.toNatClampNeg (vp_nar .byte (((1 : Int32) - (μ.1 3 l1.toNatClampNeg)).toInt8.toInt32)))).bind fun r5 =>
    me_gz (1 : Int32) <|
    some ((1 : Int32), r5)
def fA_degree_48 (N : Nat) (n : Nat) (μ : me_M) (s0 : Int32) : Option Int32 :=
  some s0
def fA_degree (N : Nat) (n : Nat) (μ : me_M) (l1 : Int32) : Option Int32 :=
  (fA_isNode N n μ l1).bind fun r1 =>
  if r1 = 0 then
    some (-100 : Int32)
  else
    me_gi l1 n <|
    if (μ.1 13 l1.toNatClampNeg) = 0 then
      me_gi l1 n <|
      (fJ_bitCount N (μ.1 12 l1.toNatClampNeg)).bind fun r7 =>
      fA_degree_48 N n μ r7
    else
      me_gi l1 n <|
      fA_degree_48 N n μ (-(μ.1 13 l1.toNatClampNeg))
def fA_successor_58 (N : Nat) (n : Nat) (μ : me_M) : Option Int32 :=
  some (-1 : Int32)
def fA_successor_52 (N : Nat) (n : Nat) (μ : me_M) (k15 : Int32 → Int32 → Int32 → Int32 → Option Int32) (l1 : Int32) (l2 : Int32) (l3 : Int32) (l4 : Int32) : Option Int32 :=
  k15 l1 l2 l3 (l4 + (1 : Int32))
def fA_successor_15b (N : Nat) (n : Nat) (μ : me_M) (k15 : Int32 → Int32 → Int32 → Int32 → Option Int32) (l1 : Int32) (l2 : Int32) (l3 : Int32) (l4 : Int32) : Option Int32 :=
  if (nI n) ≤ l4 then
    fA_successor_58 N n μ
  else
    me_gi l1 n <|
    (fA_holds N (μ.1 12 l1.toNatClampNeg) l4).bind fun r3 =>
    if r3 = 0 then
      fA_successor_52 N n μ k15 l1 l2 l3 l4
    else
      if l3 = l2 then
        some l4
      else
        fA_successor_52 N n μ k15 l1 l2 (l3 + (1 : Int32)) l4
def fA_successor_15 (N : Nat) (n : Nat) (μ : me_M) (F : Nat) : Int32 → Int32 → Int32 → Int32 → Option Int32 := Nat.rec (motive := fun _ => Int32 → Int32 → Int32 → Int32 → Option Int32) (fun _ _ _ _ => none) (fun _ k15 => fA_successor_15b N n μ k15) F
def fA_successor (N : Nat) (n : Nat) (μ : me_M) (l1 : Int32) (l2 : Int32) : Option Int32 :=
  (fA_isNode N n μ l1).bind fun r6 =>
  if r6 = 0 then
    some (-1 : Int32)
  else
    fA_successor_15 N n μ N l1 l2 (0 : Int32) (0 : Int32)
def fA_reference_33 (N : Nat) (n : Nat) (μ : me_M) (s0 : Int32) : Option Int32 :=
  some s0
def fA_reference_32 (N : Nat) (n : Nat) (μ : me_M) : Option Int32 :=
  fA_reference_33 N n μ (-1 : Int32)
def fA_reference (N : Nat) (n : Nat) (μ : me_M) (l1 : Int32) : Option Int32 :=
  (fA_isNode N n μ l1).bind fun r1 =>
  if r1 = 0 then
    fA_reference_32 N n μ
  else
    me_gi l1 n <|
    if (μ.1 13 l1.toNatClampNeg) = 0 then
      me_gi l1 n <|
      fA_reference_33 N n μ (μ.1 14 l1.toNatClampNeg)
    else
      fA_reference_32 N n μ
def fS_findReached_95 (N : Nat) (n : Nat) (μ : me_M) : Option me_M :=
  some μ
def fS_findReached_89 (N : Nat) (n : Nat) (k35 : Int32 → me_M → Option me_M) (l1 : Int32) (μ : me_M) : Option me_M :=
  k35 (l1 + (1 : Int32)) μ
def fS_findReached_83 (N : Nat) (n : Nat) (k35 : Int32 → me_M → Option me_M) (k46 : Int32 → Int32 → me_M → Option me_M) (l1 : Int32) (l2 : Int32) (μ : me_M) : Option me_M :=
  k46 l1 (l2 + (1 : Int32)) μ
def fS_findReached_46b (N : Nat) (n : Nat) (k35 : Int32 → me_M → Option me_M) (k46 : Int32 → Int32 → me_M → Option me_M) (l1 : Int32) (l2 : Int32) (μ : me_M) : Option me_M :=
  if (nI n) ≤ l2 then
    fS_findReached_89 N n k35 l1 μ
  else
    me_gi l2 n <|
    (fA_holds N (μ.1 18 l2.toNatClampNeg) l1).bind fun r3 =>
    if r3 = 0 then
      fS_findReached_83 N n k35 k46 l1 l2 μ
    else
      me_gi l2 n <|
      me_gi l1 n <|
      me_gi l2 n <|
      fS_findReached_83 N n k35 k46 l1 l2 (me_wi μ 18 l2.toNatClampNeg ((μ.1 18 l2.toNatClampNeg) ||| (μ.1 18 l1.toNatClampNeg)))
def fS_findReached_46 (N : Nat) (n : Nat) (k35 : Int32 → me_M → Option me_M) (F : Nat) : Int32 → Int32 → me_M → Option me_M := Nat.rec (motive := fun _ => Int32 → Int32 → me_M → Option me_M) (fun _ _ _ => none) (fun _ k46 => fS_findReached_46b N n k35 k46) F
def fS_findReached_35b (N : Nat) (n : Nat) (k35 : Int32 → me_M → Option me_M) (l1 : Int32) (μ : me_M) : Option me_M :=
  if (nI n) ≤ l1 then
    fS_findReached_95 N n μ
  else
    fS_findReached_46 N n k35 N l1 (0 : Int32) μ
def fS_findReached_35 (N : Nat) (n : Nat) (F : Nat) : Int32 → me_M → Option me_M := Nat.rec (motive := fun _ => Int32 → me_M → Option me_M) (fun _ _ => none) (fun _ k35 => fS_findReached_35b N n k35) F
def fS_findReached_33 (N : Nat) (n : Nat) (μ : me_M) : Option me_M :=
  fS_findReached_35 N n N (0 : Int32) μ
def fS_findReached_2b (N : Nat) (n : Nat) (k2 : Int32 → me_M → Option me_M) (l1 : Int32) (μ : me_M) : Option me_M :=
  if (nI n) ≤ l1 then
    fS_findReached_33 N n μ
  else
    me_gi l1 n <|
    me_gi l1 n <|
    k2 (l1 + (1 : Int32)) (me_wi μ 18 l1.toNatClampNeg ((μ.1 12 l1.toNatClampNeg) ||| ((1 : Int32) <<< (l1 &&& 31))))
def fS_findReached_2 (N : Nat) (n : Nat) (F : Nat) : Int32 → me_M → Option me_M := Nat.rec (motive := fun _ => Int32 → me_M → Option me_M) (fun _ _ => none) (fun _ k2 => fS_findReached_2b N n k2) F
def fS_findReached (N : Nat) (n : Nat) (μ : me_M) : Option me_M :=
  fS_findReached_2 N n N (0 : Int32) μ
def fS_partOf_51 (N : Nat) (n : Nat) (μ : me_M) (l2 : Int32) : Option Int32 :=
  some l2
def fS_partOf_45 (N : Nat) (n : Nat) (μ : me_M) (k4 : Int32 → Int32 → Int32 → Option Int32) (l1 : Int32) (l2 : Int32) (l3 : Int32) : Option Int32 :=
  k4 l1 l2 (l3 + (1 : Int32))
def fS_partOf_4b (N : Nat) (n : Nat) (μ : me_M) (k4 : Int32 → Int32 → Int32 → Option Int32) (l1 : Int32) (l2 : Int32) (l3 : Int32) : Option Int32 :=
  if (nI n) ≤ l3 then
    fS_partOf_51 N n μ l2
  else
    me_gi l1 n <|
    (fA_holds N (μ.1 18 l1.toNatClampNeg) l3).bind fun r3 =>
    if r3 = 0 then
      fS_partOf_45 N n μ k4 l1 l2 l3
    else
      me_gi l3 n <|
      (fA_holds N (μ.1 18 l3.toNatClampNeg) l1).bind fun r6 =>
      if r6 = 0 then
        fS_partOf_45 N n μ k4 l1 l2 l3
      else
        fS_partOf_45 N n μ k4 l1 (l2 ||| ((1 : Int32) <<< (l3 &&& 31))) l3
def fS_partOf_4 (N : Nat) (n : Nat) (μ : me_M) (F : Nat) : Int32 → Int32 → Int32 → Option Int32 := Nat.rec (motive := fun _ => Int32 → Int32 → Int32 → Option Int32) (fun _ _ _ => none) (fun _ k4 => fS_partOf_4b N n μ k4) F
def fS_partOf (N : Nat) (n : Nat) (μ : me_M) (l1 : Int32) : Option Int32 :=
  fS_partOf_4 N n μ N l1 (0 : Int32) (0 : Int32)
def fS_nextReady_48 (N : Nat) (n : Nat) (μ : me_M) : Option Int32 :=
  some (-1 : Int32)
def fS_nextReady_42 (N : Nat) (n : Nat) (μ : me_M) (k2 : Int32 → Int32 → Option Int32) (l1 : Int32) (l2 : Int32) : Option Int32 :=
  k2 l1 (l2 + (1 : Int32))
def fS_nextReady_2b (N : Nat) (n : Nat) (μ : me_M) (k2 : Int32 → Int32 → Option Int32) (l1 : Int32) (l2 : Int32) : Option Int32 :=
  if (nI n) ≤ l2 then
    fS_nextReady_48 N n μ
  else
    (fA_holds N l1 l2).bind fun r2 =>
    if r2 = 0 then
      me_gi l2 n <|
      (fS_partOf N n μ l2).bind fun r5 =>
      if (((μ.1 18 l2.toNatClampNeg) &&& (l1 ^^^ (-1 : Int32))) &&& (r5 ^^^ (-1 : Int32))) = 0 then
        some l2
      else
        fS_nextReady_42 N n μ k2 l1 l2
    else
      fS_nextReady_42 N n μ k2 l1 l2
def fS_nextReady_2 (N : Nat) (n : Nat) (μ : me_M) (F : Nat) : Int32 → Int32 → Option Int32 := Nat.rec (motive := fun _ => Int32 → Int32 → Option Int32) (fun _ _ => none) (fun _ k2 => fS_nextReady_2b N n μ k2) F
def fS_nextReady (N : Nat) (n : Nat) (μ : me_M) (l1 : Int32) : Option Int32 :=
  fS_nextReady_2 N n μ N l1 (0 : Int32)
def fS_numberAll_88 (N : Nat) (n : Nat) (l2 : Int32) (μ : me_M) : Option (Int32 × me_M) :=
  some (l2, μ)
def fS_numberAll_71 (N : Nat) (n : Nat) (k14 : Int32 → Int32 → Int32 → me_M → Option (Int32 × me_M)) (l1 : Int32) (l2 : Int32) (l4 : Int32) (μ : me_M) : Option (Int32 × me_M) :=
  (fS_nextReady N n μ (l1 ||| l4)).bind fun r1 =>
  k14 (l1 ||| l4) (l2 + (1 : Int32)) r1 μ
def fS_numberAll_65 (N : Nat) (n : Nat) (k14 : Int32 → Int32 → Int32 → me_M → Option (Int32 × me_M)) (k37 : Int32 → Int32 → Int32 → Int32 → me_M → Option (Int32 × me_M)) (l1 : Int32) (l2 : Int32) (l4 : Int32) (l5 : Int32) (μ : me_M) : Option (Int32 × me_M) :=
  k37 l1 l2 l4 (l5 + (1 : Int32)) μ
def fS_numberAll_37b (N : Nat) (n : Nat) (k14 : Int32 → Int32 → Int32 → me_M → Option (Int32 × me_M)) (k37 : Int32 → Int32 → Int32 → Int32 → me_M → Option (Int32 × me_M)) (l1 : Int32) (l2 : Int32) (l4 : Int32) (l5 : Int32) (μ : me_M) : Option (Int32 × me_M) :=
  if (nI n) ≤ l5 then
    fS_numberAll_71 N n k14 l1 l2 l4 μ
  else
    (fA_holds N l4 l5).bind fun r3 =>
    if r3 = 0 then
      fS_numberAll_65 N n k14 k37 l1 l2 l4 l5 μ
    else
      me_gi l5 n <|
      fS_numberAll_65 N n k14 k37 l1 l2 l4 l5 (me_wi μ 17 l5.toNatClampNeg l2)
def fS_numberAll_37 (N : Nat) (n : Nat) (k14 : Int32 → Int32 → Int32 → me_M → Option (Int32 × me_M)) (F : Nat) : Int32 → Int32 → Int32 → Int32 → me_M → Option (Int32 × me_M) := Nat.rec (motive := fun _ => Int32 → Int32 → Int32 → Int32 → me_M → Option (Int32 × me_M)) (fun _ _ _ _ _ => none) (fun _ k37 => fS_numberAll_37b N n k14 k37) F
def fS_numberAll_14b (N : Nat) (n : Nat) (k14 : Int32 → Int32 → Int32 → me_M → Option (Int32 × me_M)) (l1 : Int32) (l2 : Int32) (l3 : Int32) (μ : me_M) : Option (Int32 × me_M) :=
  if l3 < 0 then
    fS_numberAll_88 N n l2 μ
  else
    if (nI n) ≤ l2 then
      fS_numberAll_88 N n l2 μ
    else
      (fS_partOf N n μ l3).bind fun r8 =>
      fS_numberAll_37 N n k14 N l1 l2 r8 (0 : Int32) μ
def fS_numberAll_14 (N : Nat) (n : Nat) (F : Nat) : Int32 → Int32 → Int32 → me_M → Option (Int32 × me_M) := Nat.rec (motive := fun _ => Int32 → Int32 → Int32 → me_M → Option (Int32 × me_M)) (fun _ _ _ _ => none) (fun _ k14 => fS_numberAll_14b N n k14) F
def fS_numberAll (N : Nat) (n : Nat) (μ : me_M) : Option (Int32 × me_M) :=
  (fS_findReached N n μ).bind fun r9 =>
  (fS_nextReady N n r9 (0 : Int32)).bind fun r10 =>
  fS_numberAll_14 N n N (0 : Int32) (0 : Int32) r10 r9
def fA_components (N : Nat) (n : Nat) (μ : me_M) : Option (Int32 × me_M) :=
  (fS_numberAll N n μ).bind fun r1 =>
  some (r1.1, r1.2)
def fA_component (N : Nat) (n : Nat) (l1 : Int32) (μ : me_M) : Option (Int32 × me_M) :=
  (fA_isNode N n μ l1).bind fun r1 =>
  if r1 = 0 then
    some ((-1 : Int32), μ)
  else
    (fS_numberAll N n μ).bind fun r3 =>
    me_gi l1 n <|
    some (r3.2.1 17 l1.toNatClampNeg, r3.2)
def fO_weightOfOthers_33 (N : Nat) (n : Nat) (μ : me_M) (l2 : Int32) : Option Int32 :=
  some l2
def fO_weightOfOthers_27 (N : Nat) (n : Nat) (μ : me_M) (k4 : Int32 → Int32 → Int32 → Option Int32) (l1 : Int32) (l2 : Int32) (l3 : Int32) : Option Int32 :=
  k4 l1 l2 (l3 + (1 : Int32))
def fO_weightOfOthers_4b (N : Nat) (n : Nat) (μ : me_M) (k4 : Int32 → Int32 → Int32 → Option Int32) (l1 : Int32) (l2 : Int32) (l3 : Int32) : Option Int32 :=
  if (nI n) ≤ l3 then
    fO_weightOfOthers_33 N n μ l2
  else
    if l3 = l1 then
      fO_weightOfOthers_27 N n μ k4 l1 l2 l3
    else
      me_gi l3 n <|
      fO_weightOfOthers_27 N n μ k4 l1 (l2 + (μ.1 23 l3.toNatClampNeg)) l3
def fO_weightOfOthers_4 (N : Nat) (n : Nat) (μ : me_M) (F : Nat) : Int32 → Int32 → Int32 → Option Int32 := Nat.rec (motive := fun _ => Int32 → Int32 → Int32 → Option Int32) (fun _ _ _ => none) (fun _ k4 => fO_weightOfOthers_4b N n μ k4) F
def fO_weightOfOthers (N : Nat) (n : Nat) (μ : me_M) (l1 : Int32) : Option Int32 :=
  fO_weightOfOthers_4 N n μ N l1 (0 : Int32) (0 : Int32)
def fA_prefer_31 (N : Nat) (n : Nat) (μ : me_M) : Option (Int32 × me_M) :=
  me_gz (0 : Int32) <|
  some ((0 : Int32), μ)
def fA_prefer (N : Nat) (n : Nat) (l1 : Int32) (l2 : Int32) (μ : me_M) : Option (Int32 × me_M) :=
  (fA_isNode N n μ l1).bind fun r2 =>
  if r2 = 0 then
    fA_prefer_31 N n μ
  else
    (fA_within N l2 (0 : Int32) (100 : Int32)).bind fun r4 =>
    if r4 = 0 then
      fA_prefer_31 N n μ
    else
      (fO_weightOfOthers N n μ l1).bind fun r6 =>
      if (r6 + l2) = 0 then
        fA_prefer_31 N n μ
      else
        me_gi l1 n <|
        me_gz (1 : Int32) <|
        some ((1 : Int32), me_wi μ 23 l1.toNatClampNeg l2)
def fA_start_20 (N : Nat) (n : Nat) (μ : me_M) : Option (Int32 × me_M) :=
  me_gz (0 : Int32) <|
  some ((0 : Int32), μ)
def fA_start (N : Nat) (n : Nat) (l1 : Int32) (l2 : Int32) (μ : me_M) : Option (Int32 × me_M) :=
  (fA_within N l1 (0 : Int32) (2 : Int32)).bind fun r2 =>
  if r2 = 0 then
    fA_start_20 N n μ
  else
    (fA_within N l2 (0 : Int32) (1000 : Int32)).bind fun r4 =>
    if r4 = 0 then
      fA_start_20 N n μ
    else
      (fO_begin N n l1 l2 μ).bind fun r6 =>
      me_gz (1 : Int32) <|
      some ((1 : Int32), r6)
def fO_linksFrom (N : Nat) (n : Nat) (μ : me_M) (l1 : Int32) : Option Int32 :=
  me_gi l1 n <|
  (fJ_bitCount N (μ.1 12 l1.toNatClampNeg)).bind fun r2 =>
  some r2
def fO_stepByRank_199 (N : Nat) (n : Nat) (μ : me_M) : Option me_M :=
  some μ
def fO_stepByRank_128 (N : Nat) (n : Nat) (k55 : Int64 → Int64 → Int32 → me_M → Option me_M) (l1 : Int64) (l3 : Int64) (l5 : Int32) (l6 : Int64) (μ : me_M) : Option me_M :=
  me_gi l5 n <|
  (fO_quotient N (((((1000 : Int32) - (μ.1 2007 0)).toInt64) * (1000000000 : Int64)) * ((μ.1 23 l5.toNatClampNeg).toInt64)) l1).bind fun r2 =>
  me_gi l5 n <|
  (fO_quotient N (l3 * ((μ.1 23 l5.toNatClampNeg).toInt64)) l1).bind fun r4 =>
  me_gi l5 n <|
  k55 l1 l3 (l5 + (1 : Int32)) (me_wl μ 20 l5.toNatClampNeg (r2 + ((((μ.1 2007 0).toInt64) * (l6 + r4)) / (1000 : Int64))))
def fO_stepByRank_119 (N : Nat) (n : Nat) (k55 : Int64 → Int64 → Int32 → me_M → Option me_M) (k71 : Int64 → Int64 → Int32 → Int64 → Int32 → me_M → Option me_M) (l1 : Int64) (l3 : Int64) (l5 : Int32) (l8 : Int32) (s0 : Int64) (s1 : Int64) (μ : me_M) : Option me_M :=
  k71 l1 l3 l5 (s0 + s1) (l8 + (1 : Int32)) μ
def fO_stepByRank_71b (N : Nat) (n : Nat) (k55 : Int64 → Int64 → Int32 → me_M → Option me_M) (k71 : Int64 → Int64 → Int32 → Int64 → Int32 → me_M → Option me_M) (l1 : Int64) (l3 : Int64) (l5 : Int32) (l6 : Int64) (l8 : Int32) (μ : me_M) : Option me_M :=
  if (nI n) ≤ l8 then
    fO_stepByRank_128 N n k55 l1 l3 l5 l6 μ
  else
    me_gi l8 n <|
    (fA_holds N (μ.1 12 l8.toNatClampNeg) l5).bind fun r9 =>
    if r9 = 0 then
      fO_stepByRank_119 N n k55 k71 l1 l3 l5 l8 l6 (0 : Int64) μ
    else
      me_gi l8 n <|
      (fO_linksFrom N n μ l8).bind fun r12 =>
      (fO_quotient N (μ.2 22 l8.toNatClampNeg) r12.toInt64).bind fun r13 =>
      fO_stepByRank_119 N n k55 k71 l1 l3 l5 l8 l6 r13 μ
def fO_stepByRank_71 (N : Nat) (n : Nat) (k55 : Int64 → Int64 → Int32 → me_M → Option me_M) (F : Nat) : Int64 → Int64 → Int32 → Int64 → Int32 → me_M → Option me_M := Nat.rec (motive := fun _ => Int64 → Int64 → Int32 → Int64 → Int32 → me_M → Option me_M) (fun _ _ _ _ _ _ => none) (fun _ k71 => fO_stepByRank_71b N n k55 k71) F
def fO_stepByRank_55b (N : Nat) (n : Nat) (k55 : Int64 → Int64 → Int32 → me_M → Option me_M) (l1 : Int64) (l3 : Int64) (l5 : Int32) (μ : me_M) : Option me_M :=
  if (nI n) ≤ l5 then
    fO_stepByRank_199 N n μ
  else
    fO_stepByRank_71 N n k55 N l1 l3 l5 (0 : Int64) (0 : Int32) μ
def fO_stepByRank_55 (N : Nat) (n : Nat) (F : Nat) : Int64 → Int64 → Int32 → me_M → Option me_M := Nat.rec (motive := fun _ => Int64 → Int64 → Int32 → me_M → Option me_M) (fun _ _ _ _ => none) (fun _ k55 => fO_stepByRank_55b N n k55) F
def fO_stepByRank_52 (N : Nat) (n : Nat) (l1 : Int64) (l3 : Int64) (μ : me_M) : Option me_M :=
  fO_stepByRank_55 N n N l1 l3 (0 : Int32) μ
def fO_stepByRank_44 (N : Nat) (n : Nat) (k12 : Int64 → Int64 → Int32 → me_M → Option me_M) (l1 : Int64) (l5 : Int32) (s0 : Int64) (s1 : Int64) (μ : me_M) : Option me_M :=
  k12 l1 (s0 + s1) (l5 + (1 : Int32)) μ
def fO_stepByRank_12b (N : Nat) (n : Nat) (k12 : Int64 → Int64 → Int32 → me_M → Option me_M) (l1 : Int64) (l3 : Int64) (l5 : Int32) (μ : me_M) : Option me_M :=
  if (nI n) ≤ l5 then
    fO_stepByRank_52 N n l1 l3 μ
  else
    me_gi l5 n <|
    if (μ.1 12 l5.toNatClampNeg) = 0 then
      me_gi l5 n <|
      fO_stepByRank_44 N n k12 l1 l5 l3 (μ.2 22 l5.toNatClampNeg) μ
    else
      fO_stepByRank_44 N n k12 l1 l5 l3 (0 : Int64) μ
def fO_stepByRank_12 (N : Nat) (n : Nat) (F : Nat) : Int64 → Int64 → Int32 → me_M → Option me_M := Nat.rec (motive := fun _ => Int64 → Int64 → Int32 → me_M → Option me_M) (fun _ _ _ _ => none) (fun _ k12 => fO_stepByRank_12b N n k12) F
def fO_stepByRank (N : Nat) (n : Nat) (μ : me_M) : Option me_M :=
  (fO_weightOfOthers N n μ (-1 : Int32)).bind fun r19 =>
  fO_stepByRank_12 N n N r19.toInt64 (0 : Int64) (0 : Int32) μ
def fO_bringToGreatest_20_52 (N : Nat) (n : Nat) (μ : me_M) : Option me_M :=
  some μ
def fO_bringToGreatest_20_26b (N : Nat) (n : Nat) (k26 : Int64 → Int32 → me_M → Option me_M) (l1 : Int64) (l3 : Int32) (μ : me_M) : Option me_M :=
  if (nI n) ≤ l3 then
    fO_bringToGreatest_20_52 N n μ
  else
    me_gi l3 n <|
    (fO_quotient N ((μ.2 20 l3.toNatClampNeg) * (1000000 : Int64)) l1).bind fun r3 =>
    me_gi l3 n <|
    k26 l1 (l3 + (1 : Int32)) (me_wl μ 20 l3.toNatClampNeg r3)
def fO_bringToGreatest_20_26 (N : Nat) (n : Nat) (F : Nat) : Int64 → Int32 → me_M → Option me_M := Nat.rec (motive := fun _ => Int64 → Int32 → me_M → Option me_M) (fun _ _ _ => none) (fun _ k26 => fO_bringToGreatest_20_26b N n k26) F
def fO_bringToGreatest_20_24 (N : Nat) (n : Nat) (l1 : Int64) (μ : me_M) : Option me_M :=
  fO_bringToGreatest_20_26 N n N l1 (0 : Int32) μ
def fO_bringToGreatest_20_4b (N : Nat) (n : Nat) (k4 : Int64 → Int32 → me_M → Option me_M) (l1 : Int64) (l3 : Int32) (μ : me_M) : Option me_M :=
  if (nI n) ≤ l3 then
    fO_bringToGreatest_20_24 N n l1 μ
  else
    me_gi l3 n <|
    k4 (if (μ.2 20 l3.toNatClampNeg) < l1 then l1 else (μ.2 20 l3.toNatClampNeg)) (l3 + (1 : Int32)) μ
def fO_bringToGreatest_20_4 (N : Nat) (n : Nat) (F : Nat) : Int64 → Int32 → me_M → Option me_M := Nat.rec (motive := fun _ => Int64 → Int32 → me_M → Option me_M) (fun _ _ _ => none) (fun _ k4 => fO_bringToGreatest_20_4b N n k4) F
def fO_bringToGreatest_20 (N : Nat) (n : Nat) (μ : me_M) : Option me_M :=
  fO_bringToGreatest_20_4 N n N (0 : Int64) (0 : Int32) μ
def fO_bringToGreatest_21_52 (N : Nat) (n : Nat) (μ : me_M) : Option me_M :=
  some μ
def fO_bringToGreatest_21_26b (N : Nat) (n : Nat) (k26 : Int64 → Int32 → me_M → Option me_M) (l1 : Int64) (l3 : Int32) (μ : me_M) : Option me_M :=
  if (nI n) ≤ l3 then
    fO_bringToGreatest_21_52 N n μ
  else
    me_gi l3 n <|
    (fO_quotient N ((μ.2 21 l3.toNatClampNeg) * (1000000 : Int64)) l1).bind fun r3 =>
    me_gi l3 n <|
    k26 l1 (l3 + (1 : Int32)) (me_wl μ 21 l3.toNatClampNeg r3)
def fO_bringToGreatest_21_26 (N : Nat) (n : Nat) (F : Nat) : Int64 → Int32 → me_M → Option me_M := Nat.rec (motive := fun _ => Int64 → Int32 → me_M → Option me_M) (fun _ _ _ => none) (fun _ k26 => fO_bringToGreatest_21_26b N n k26) F
def fO_bringToGreatest_21_24 (N : Nat) (n : Nat) (l1 : Int64) (μ : me_M) : Option me_M :=
  fO_bringToGreatest_21_26 N n N l1 (0 : Int32) μ
def fO_bringToGreatest_21_4b (N : Nat) (n : Nat) (k4 : Int64 → Int32 → me_M → Option me_M) (l1 : Int64) (l3 : Int32) (μ : me_M) : Option me_M :=
  if (nI n) ≤ l3 then
    fO_bringToGreatest_21_24 N n l1 μ
  else
    me_gi l3 n <|
    k4 (if (μ.2 21 l3.toNatClampNeg) < l1 then l1 else (μ.2 21 l3.toNatClampNeg)) (l3 + (1 : Int32)) μ
def fO_bringToGreatest_21_4 (N : Nat) (n : Nat) (F : Nat) : Int64 → Int32 → me_M → Option me_M := Nat.rec (motive := fun _ => Int64 → Int32 → me_M → Option me_M) (fun _ _ _ => none) (fun _ k4 => fO_bringToGreatest_21_4b N n k4) F
def fO_bringToGreatest_21 (N : Nat) (n : Nat) (μ : me_M) : Option me_M :=
  fO_bringToGreatest_21_4 N n N (0 : Int64) (0 : Int32) μ
def fO_stepByGreatest_153 (N : Nat) (n : Nat) (μ : me_M) : Option me_M :=
  (fO_bringToGreatest_21 N n μ).bind fun r1 =>
  some r1
def fO_stepByGreatest_147 (N : Nat) (n : Nat) (k82 : Int32 → me_M → Option me_M) (l1 : Int32) (μ : me_M) : Option me_M :=
  k82 (l1 + (1 : Int32)) μ
def fO_stepByGreatest_139 (N : Nat) (n : Nat) (k82 : Int32 → me_M → Option me_M) (k100 : Int32 → Int32 → me_M → Option me_M) (l1 : Int32) (l2 : Int32) (s1 : Int32) (s2 : Int64) (s3 : Int64) (μ : me_M) : Option me_M :=
  me_gi s1 n <|
  k100 l1 (l2 + (1 : Int32)) (me_wl μ 21 s1.toNatClampNeg (s2 + s3))
def fO_stepByGreatest_100b (N : Nat) (n : Nat) (k82 : Int32 → me_M → Option me_M) (k100 : Int32 → Int32 → me_M → Option me_M) (l1 : Int32) (l2 : Int32) (μ : me_M) : Option me_M :=
  if (nI n) ≤ l2 then
    fO_stepByGreatest_147 N n k82 l1 μ
  else
    me_gi l1 n <|
    me_gi l1 n <|
    (fA_holds N (μ.1 12 l1.toNatClampNeg) l2).bind fun r6 =>
    if r6 = 0 then
      fO_stepByGreatest_139 N n k82 k100 l1 l2 l1 (μ.2 21 l1.toNatClampNeg) (0 : Int64) μ
    else
      me_gi l2 n <|
      fO_stepByGreatest_139 N n k82 k100 l1 l2 l1 (μ.2 21 l1.toNatClampNeg) (μ.2 20 l2.toNatClampNeg) μ
def fO_stepByGreatest_100 (N : Nat) (n : Nat) (k82 : Int32 → me_M → Option me_M) (F : Nat) : Int32 → Int32 → me_M → Option me_M := Nat.rec (motive := fun _ => Int32 → Int32 → me_M → Option me_M) (fun _ _ _ => none) (fun _ k100 => fO_stepByGreatest_100b N n k82 k100) F
def fO_stepByGreatest_82b (N : Nat) (n : Nat) (k82 : Int32 → me_M → Option me_M) (l1 : Int32) (μ : me_M) : Option me_M :=
  if (nI n) ≤ l1 then
    fO_stepByGreatest_153 N n μ
  else
    me_gi l1 n <|
    fO_stepByGreatest_100 N n k82 N l1 (0 : Int32) (me_wl μ 21 l1.toNatClampNeg (0 : Int64))
def fO_stepByGreatest_82 (N : Nat) (n : Nat) (F : Nat) : Int32 → me_M → Option me_M := Nat.rec (motive := fun _ => Int32 → me_M → Option me_M) (fun _ _ => none) (fun _ k82 => fO_stepByGreatest_82b N n k82) F
def fO_stepByGreatest_73 (N : Nat) (n : Nat) (μ : me_M) : Option me_M :=
  (fO_bringToGreatest_20 N n μ).bind fun r11 =>
  fO_stepByGreatest_82 N n N (0 : Int32) r11
def fO_stepByGreatest_67 (N : Nat) (n : Nat) (k2 : Int32 → me_M → Option me_M) (l1 : Int32) (μ : me_M) : Option me_M :=
  k2 (l1 + (1 : Int32)) μ
def fO_stepByGreatest_59 (N : Nat) (n : Nat) (k2 : Int32 → me_M → Option me_M) (k20 : Int32 → Int32 → me_M → Option me_M) (l1 : Int32) (l2 : Int32) (s1 : Int32) (s2 : Int64) (s3 : Int64) (μ : me_M) : Option me_M :=
  me_gi s1 n <|
  k20 l1 (l2 + (1 : Int32)) (me_wl μ 20 s1.toNatClampNeg (s2 + s3))
def fO_stepByGreatest_20b (N : Nat) (n : Nat) (k2 : Int32 → me_M → Option me_M) (k20 : Int32 → Int32 → me_M → Option me_M) (l1 : Int32) (l2 : Int32) (μ : me_M) : Option me_M :=
  if (nI n) ≤ l2 then
    fO_stepByGreatest_67 N n k2 l1 μ
  else
    me_gi l1 n <|
    me_gi l2 n <|
    (fA_holds N (μ.1 12 l2.toNatClampNeg) l1).bind fun r16 =>
    if r16 = 0 then
      fO_stepByGreatest_59 N n k2 k20 l1 l2 l1 (μ.2 20 l1.toNatClampNeg) (0 : Int64) μ
    else
      me_gi l2 n <|
      fO_stepByGreatest_59 N n k2 k20 l1 l2 l1 (μ.2 20 l1.toNatClampNeg) (μ.2 21 l2.toNatClampNeg) μ
def fO_stepByGreatest_20 (N : Nat) (n : Nat) (k2 : Int32 → me_M → Option me_M) (F : Nat) : Int32 → Int32 → me_M → Option me_M := Nat.rec (motive := fun _ => Int32 → Int32 → me_M → Option me_M) (fun _ _ _ => none) (fun _ k20 => fO_stepByGreatest_20b N n k2 k20) F
def fO_stepByGreatest_2b (N : Nat) (n : Nat) (k2 : Int32 → me_M → Option me_M) (l1 : Int32) (μ : me_M) : Option me_M :=
  if (nI n) ≤ l1 then
    fO_stepByGreatest_73 N n μ
  else
    me_gi l1 n <|
    fO_stepByGreatest_20 N n k2 N l1 (0 : Int32) (me_wl μ 20 l1.toNatClampNeg (0 : Int64))
def fO_stepByGreatest_2 (N : Nat) (n : Nat) (F : Nat) : Int32 → me_M → Option me_M := Nat.rec (motive := fun _ => Int32 → me_M → Option me_M) (fun _ _ => none) (fun _ k2 => fO_stepByGreatest_2b N n k2) F
def fO_stepByGreatest (N : Nat) (n : Nat) (μ : me_M) : Option me_M :=
  fO_stepByGreatest_2 N n N (0 : Int32) μ
def fO_linksTo_40 (N : Nat) (n : Nat) (μ : me_M) (l2 : Int32) : Option Int32 :=
  some l2
def fO_linksTo_32 (N : Nat) (n : Nat) (μ : me_M) (k4 : Int32 → Int32 → Int32 → Option Int32) (l1 : Int32) (l3 : Int32) (s0 : Int32) (s1 : Int32) : Option Int32 :=
  k4 l1 (s0 + s1) (l3 + (1 : Int32))
def fO_linksTo_4b (N : Nat) (n : Nat) (μ : me_M) (k4 : Int32 → Int32 → Int32 → Option Int32) (l1 : Int32) (l2 : Int32) (l3 : Int32) : Option Int32 :=
  if (nI n) ≤ l3 then
    fO_linksTo_40 N n μ l2
  else
    me_gi l3 n <|
    (fA_holds N (μ.1 12 l3.toNatClampNeg) l1).bind fun r3 =>
    if r3 = 0 then
      fO_linksTo_32 N n μ k4 l1 l3 l2 (0 : Int32)
    else
      fO_linksTo_32 N n μ k4 l1 l3 l2 (1 : Int32)
def fO_linksTo_4 (N : Nat) (n : Nat) (μ : me_M) (F : Nat) : Int32 → Int32 → Int32 → Option Int32 := Nat.rec (motive := fun _ => Int32 → Int32 → Int32 → Option Int32) (fun _ _ _ => none) (fun _ k4 => fO_linksTo_4b N n μ k4) F
def fO_linksTo (N : Nat) (n : Nat) (μ : me_M) (l1 : Int32) : Option Int32 :=
  fO_linksTo_4 N n μ N l1 (0 : Int32) (0 : Int32)
def fO_stepByShares_164 (N : Nat) (n : Nat) (μ : me_M) : Option me_M :=
  some μ
def fO_stepByShares_158 (N : Nat) (n : Nat) (k84 : Int32 → me_M → Option me_M) (l1 : Int32) (μ : me_M) : Option me_M :=
  k84 (l1 + (1 : Int32)) μ
def fO_stepByShares_150 (N : Nat) (n : Nat) (k84 : Int32 → me_M → Option me_M) (k102 : Int32 → Int32 → me_M → Option me_M) (l1 : Int32) (l2 : Int32) (s1 : Int32) (s2 : Int64) (s3 : Int64) (μ : me_M) : Option me_M :=
  me_gi s1 n <|
  k102 l1 (l2 + (1 : Int32)) (me_wl μ 20 s1.toNatClampNeg (s2 + s3))
def fO_stepByShares_102b (N : Nat) (n : Nat) (k84 : Int32 → me_M → Option me_M) (k102 : Int32 → Int32 → me_M → Option me_M) (l1 : Int32) (l2 : Int32) (μ : me_M) : Option me_M :=
  if (nI n) ≤ l2 then
    fO_stepByShares_158 N n k84 l1 μ
  else
    me_gi l1 n <|
    me_gi l2 n <|
    (fA_holds N (μ.1 12 l2.toNatClampNeg) l1).bind fun r5 =>
    if r5 = 0 then
      fO_stepByShares_150 N n k84 k102 l1 l2 l1 (μ.2 20 l1.toNatClampNeg) (0 : Int64) μ
    else
      me_gi l2 n <|
      (fO_linksFrom N n μ l2).bind fun r8 =>
      (fO_quotient N (μ.2 21 l2.toNatClampNeg) r8.toInt64).bind fun r9 =>
      fO_stepByShares_150 N n k84 k102 l1 l2 l1 (μ.2 20 l1.toNatClampNeg) r9 μ
def fO_stepByShares_102 (N : Nat) (n : Nat) (k84 : Int32 → me_M → Option me_M) (F : Nat) : Int32 → Int32 → me_M → Option me_M := Nat.rec (motive := fun _ => Int32 → Int32 → me_M → Option me_M) (fun _ _ _ => none) (fun _ k102 => fO_stepByShares_102b N n k84 k102) F
def fO_stepByShares_84b (N : Nat) (n : Nat) (k84 : Int32 → me_M → Option me_M) (l1 : Int32) (μ : me_M) : Option me_M :=
  if (nI n) ≤ l1 then
    fO_stepByShares_164 N n μ
  else
    me_gi l1 n <|
    fO_stepByShares_102 N n k84 N l1 (0 : Int32) (me_wl μ 20 l1.toNatClampNeg (0 : Int64))
def fO_stepByShares_84 (N : Nat) (n : Nat) (F : Nat) : Int32 → me_M → Option me_M := Nat.rec (motive := fun _ => Int32 → me_M → Option me_M) (fun _ _ => none) (fun _ k84 => fO_stepByShares_84b N n k84) F
def fO_stepByShares_82 (N : Nat) (n : Nat) (μ : me_M) : Option me_M :=
  fO_stepByShares_84 N n N (0 : Int32) μ
def fO_stepByShares_76 (N : Nat) (n : Nat) (k2 : Int32 → me_M → Option me_M) (l1 : Int32) (μ : me_M) : Option me_M :=
  k2 (l1 + (1 : Int32)) μ
def fO_stepByShares_68 (N : Nat) (n : Nat) (k2 : Int32 → me_M → Option me_M) (k20 : Int32 → Int32 → me_M → Option me_M) (l1 : Int32) (l2 : Int32) (s1 : Int32) (s2 : Int64) (s3 : Int64) (μ : me_M) : Option me_M :=
  me_gi s1 n <|
  k20 l1 (l2 + (1 : Int32)) (me_wl μ 21 s1.toNatClampNeg (s2 + s3))
def fO_stepByShares_20b (N : Nat) (n : Nat) (k2 : Int32 → me_M → Option me_M) (k20 : Int32 → Int32 → me_M → Option me_M) (l1 : Int32) (l2 : Int32) (μ : me_M) : Option me_M :=
  if (nI n) ≤ l2 then
    fO_stepByShares_76 N n k2 l1 μ
  else
    me_gi l1 n <|
    me_gi l1 n <|
    (fA_holds N (μ.1 12 l1.toNatClampNeg) l2).bind fun r16 =>
    if r16 = 0 then
      fO_stepByShares_68 N n k2 k20 l1 l2 l1 (μ.2 21 l1.toNatClampNeg) (0 : Int64) μ
    else
      me_gi l2 n <|
      (fO_linksTo N n μ l2).bind fun r19 =>
      (fO_quotient N (μ.2 20 l2.toNatClampNeg) r19.toInt64).bind fun r20 =>
      fO_stepByShares_68 N n k2 k20 l1 l2 l1 (μ.2 21 l1.toNatClampNeg) r20 μ
def fO_stepByShares_20 (N : Nat) (n : Nat) (k2 : Int32 → me_M → Option me_M) (F : Nat) : Int32 → Int32 → me_M → Option me_M := Nat.rec (motive := fun _ => Int32 → Int32 → me_M → Option me_M) (fun _ _ _ => none) (fun _ k20 => fO_stepByShares_20b N n k2 k20) F
def fO_stepByShares_2b (N : Nat) (n : Nat) (k2 : Int32 → me_M → Option me_M) (l1 : Int32) (μ : me_M) : Option me_M :=
  if (nI n) ≤ l1 then
    fO_stepByShares_82 N n μ
  else
    me_gi l1 n <|
    fO_stepByShares_20 N n k2 N l1 (0 : Int32) (me_wl μ 21 l1.toNatClampNeg (0 : Int64))
def fO_stepByShares_2 (N : Nat) (n : Nat) (F : Nat) : Int32 → me_M → Option me_M := Nat.rec (motive := fun _ => Int32 → me_M → Option me_M) (fun _ _ => none) (fun _ k2 => fO_stepByShares_2b N n k2) F
def fO_stepByShares (N : Nat) (n : Nat) (μ : me_M) : Option me_M :=
  fO_stepByShares_2 N n N (0 : Int32) μ
def fO_stepOnce_98 (N : Nat) (n : Nat) (μ : me_M) : Option me_M :=
  some μ
def fO_stepOnce_58b (N : Nat) (n : Nat) (k58 : Int32 → me_M → Option me_M) (l1 : Int32) (μ : me_M) : Option me_M :=
  if (nI n) ≤ l1 then
    fO_stepOnce_98 N n μ
  else
    me_gi l1 n <|
    me_gi l1 n <|
    k58 (l1 + (1 : Int32)) (me_wl μ 2003 0 ((μ.2 2003 0) + (if 0 < ((μ.2 20 l1.toNatClampNeg) - (μ.2 22 l1.toNatClampNeg)) then ((μ.2 20 l1.toNatClampNeg) - (μ.2 22 l1.toNatClampNeg)) else -((μ.2 20 l1.toNatClampNeg) - (μ.2 22 l1.toNatClampNeg)))))
def fO_stepOnce_58 (N : Nat) (n : Nat) (F : Nat) : Int32 → me_M → Option me_M := Nat.rec (motive := fun _ => Int32 → me_M → Option me_M) (fun _ _ => none) (fun _ k58 => fO_stepOnce_58b N n k58) F
def fO_stepOnce_51 (N : Nat) (n : Nat) (μ : me_M) : Option me_M :=
  fO_stepOnce_58 N n N (0 : Int32) (me_wl μ 2003 0 (0 : Int64))
def fO_stepOnce (N : Nat) (n : Nat) (μ : me_M) : Option me_M :=
  me_gc (0 : Int32) (0 : Int32) (nI n) n n <|
  if ((me_cp μ 20 22 (0 : Int32).toNatClampNeg (0 : Int32).toNatClampNeg (nI n).toNatClampNeg).1 2006 0) = 0 then
    (fO_stepByRank N n (me_cp μ 20 22 (0 : Int32).toNatClampNeg (0 : Int32).toNatClampNeg (nI n).toNatClampNeg)).bind fun r9 =>
    fO_stepOnce_51 N n r9
  else
    if ((me_cp μ 20 22 (0 : Int32).toNatClampNeg (0 : Int32).toNatClampNeg (nI n).toNatClampNeg).1 2006 0) = (1 : Int32) then
      (fO_stepByGreatest N n (me_cp μ 20 22 (0 : Int32).toNatClampNeg (0 : Int32).toNatClampNeg (nI n).toNatClampNeg)).bind fun r8 =>
      fO_stepOnce_51 N n r8
    else
      (fO_stepByShares N n (me_cp μ 20 22 (0 : Int32).toNatClampNeg (0 : Int32).toNatClampNeg (nI n).toNatClampNeg)).bind fun r7 =>
      fO_stepOnce_51 N n r7
def fO_advance_30 (N : Nat) (n : Nat) (l1 : Int32) (μ : me_M) : Option (Int32 × me_M) :=
  some (l1, μ)
def fO_advance_2b (N : Nat) (n : Nat) (k2 : Int32 → Int32 → me_M → Option (Int32 × me_M)) (l1 : Int32) (l2 : Int32) (μ : me_M) : Option (Int32 × me_M) :=
  if l1 ≤ l2 then
    fO_advance_30 N n l1 μ
  else
    (fO_stepOnce N n μ).bind fun r2 =>
    if (lg_cmp (r2.2 2003 0) (0 : Int64)) = 0 then
      some (l2 + (1 : Int32), r2)
    else
      k2 l1 (l2 + (1 : Int32)) r2
def fO_advance_2 (N : Nat) (n : Nat) (F : Nat) : Int32 → Int32 → me_M → Option (Int32 × me_M) := Nat.rec (motive := fun _ => Int32 → Int32 → me_M → Option (Int32 × me_M)) (fun _ _ _ => none) (fun _ k2 => fO_advance_2b N n k2) F
def fO_advance (N : Nat) (n : Nat) (l1 : Int32) (μ : me_M) : Option (Int32 × me_M) :=
  fO_advance_2 N n N l1 (0 : Int32) μ
def fA_step_22 (N : Nat) (n : Nat) (s0 : Int32) (μ : me_M) : Option (Int32 × me_M) :=
  some (s0, μ)
def fA_step (N : Nat) (n : Nat) (l1 : Int32) (μ : me_M) : Option (Int32 × me_M) :=
  (fA_within N l1 (0 : Int32) (20 : Int32)).bind fun r1 =>
  if r1 = 0 then
    fA_step_22 N n (-1 : Int32) μ
  else
    (fO_advance N n l1 μ).bind fun r3 =>
    fA_step_22 N n r3.1 r3.2
def fA_score_23 (N : Nat) (n : Nat) (μ : me_M) (s0 : Int64) : Option Int64 :=
  some s0
def fA_score (N : Nat) (n : Nat) (μ : me_M) (l1 : Int32) : Option Int64 :=
  (fA_isNode N n μ l1).bind fun r1 =>
  if r1 = 0 then
    fA_score_23 N n μ (-1 : Int64)
  else
    me_gi l1 n <|
    fA_score_23 N n μ (μ.2 20 l1.toNatClampNeg)
def fA_hub_23 (N : Nat) (n : Nat) (μ : me_M) (s0 : Int64) : Option Int64 :=
  some s0
def fA_hub (N : Nat) (n : Nat) (μ : me_M) (l1 : Int32) : Option Int64 :=
  (fA_isNode N n μ l1).bind fun r1 =>
  if r1 = 0 then
    fA_hub_23 N n μ (-1 : Int64)
  else
    me_gi l1 n <|
    fA_hub_23 N n μ (μ.2 21 l1.toNatClampNeg)
def fO_placeOf_59 (N : Nat) (n : Nat) (μ : me_M) (l2 : Int32) : Option Int32 :=
  some l2
def fO_placeOf_53 (N : Nat) (n : Nat) (μ : me_M) (k4 : Int32 → Int32 → Int32 → Option Int32) (l1 : Int32) (l2 : Int32) (l3 : Int32) : Option Int32 :=
  k4 l1 l2 (l3 + (1 : Int32))
def fO_placeOf_50 (N : Nat) (n : Nat) (μ : me_M) (k4 : Int32 → Int32 → Int32 → Option Int32) (l1 : Int32) (l2 : Int32) (l3 : Int32) : Option Int32 :=
  fO_placeOf_53 N n μ k4 l1 (l2 + (1 : Int32)) l3
def fO_placeOf_4b (N : Nat) (n : Nat) (μ : me_M) (k4 : Int32 → Int32 → Int32 → Option Int32) (l1 : Int32) (l2 : Int32) (l3 : Int32) : Option Int32 :=
  if (nI n) ≤ l3 then
    fO_placeOf_59 N n μ l2
  else
    me_gi l3 n <|
    me_gi l1 n <|
    if 0 < (lg_cmp (μ.2 20 l3.toNatClampNeg) (μ.2 20 l1.toNatClampNeg)) then
      fO_placeOf_50 N n μ k4 l1 l2 l3
    else
      me_gi l3 n <|
      me_gi l1 n <|
      if (lg_cmp (μ.2 20 l3.toNatClampNeg) (μ.2 20 l1.toNatClampNeg)) = 0 then
        if l1 ≤ l3 then
          fO_placeOf_53 N n μ k4 l1 l2 l3
        else
          fO_placeOf_50 N n μ k4 l1 l2 l3
      else
        fO_placeOf_53 N n μ k4 l1 l2 l3
def fO_placeOf_4 (N : Nat) (n : Nat) (μ : me_M) (F : Nat) : Int32 → Int32 → Int32 → Option Int32 := Nat.rec (motive := fun _ => Int32 → Int32 → Int32 → Option Int32) (fun _ _ _ => none) (fun _ k4 => fO_placeOf_4b N n μ k4) F
def fO_placeOf (N : Nat) (n : Nat) (μ : me_M) (l1 : Int32) : Option Int32 :=
  fO_placeOf_4 N n μ N l1 (0 : Int32) (0 : Int32)
def fA_top_30 (N : Nat) (n : Nat) (μ : me_M) : Option Int32 :=
  some (-1 : Int32)
def fA_top_2b (N : Nat) (n : Nat) (μ : me_M) (k2 : Int32 → Int32 → Option Int32) (l1 : Int32) (l2 : Int32) : Option Int32 :=
  if (nI n) ≤ l2 then
    fA_top_30 N n μ
  else
    (fO_placeOf N n μ l2).bind fun r2 =>
    if r2 = l1 then
      some l2
    else
      k2 l1 (l2 + (1 : Int32))
def fA_top_2 (N : Nat) (n : Nat) (μ : me_M) (F : Nat) : Int32 → Int32 → Option Int32 := Nat.rec (motive := fun _ => Int32 → Int32 → Option Int32) (fun _ _ => none) (fun _ k2 => fA_top_2b N n μ k2) F
def fA_top (N : Nat) (n : Nat) (μ : me_M) (l1 : Int32) : Option Int32 :=
  fA_top_2 N n μ N l1 (0 : Int32)
def fA_change (N : Nat) (n : Nat) (μ : me_M) : Option Int64 :=
  some (μ.2 2003 0)
def fM_ones_24 (N : Nat) (l1 : Int32) : Option Int32 :=
  some l1
def fM_ones_4b (N : Nat) (k4 : Int32 → Int32 → Int32 → Option Int32) (l0 : Int32) (l1 : Int32) (l2 : Int32) : Option Int32 :=
  if (12 : Int32) ≤ l2 then
    fM_ones_24 N l1
  else
    k4 l0 (l1 + ((l0 >>> (l2 &&& 31)) &&& (1 : Int32))) (l2 + (1 : Int32))
def fM_ones_4 (N : Nat) (F : Nat) : Int32 → Int32 → Int32 → Option Int32 := Nat.rec (motive := fun _ => Int32 → Int32 → Int32 → Option Int32) (fun _ _ _ => none) (fun _ k4 => fM_ones_4b N k4) F
def fM_ones (N : Nat) (l0 : Int32) : Option Int32 :=
  fM_ones_4 N N l0 (0 : Int32) (0 : Int32)
def fM_put (N : Nat) (l1 : Int32) (μ : me_M) : Option me_M :=
  me_gi (μ.1 103 0) 2048 <|
  some (me_wi (me_wi μ 2 (μ.1 103 0).toNatClampNeg l1) 103 0 (((me_wi μ 2 (μ.1 103 0).toNatClampNeg l1).1 103 0) + (1 : Int32)))
def fM_putUnary_18 (N : Nat) (μ : me_M) : Option me_M :=
  (fM_put N (1 : Int32) μ).bind fun r1 =>
  some r1
def fM_putUnary_2b (N : Nat) (k2 : Int32 → Int32 → me_M → Option me_M) (l1 : Int32) (l2 : Int32) (μ : me_M) : Option me_M :=
  if l1 ≤ l2 then
    fM_putUnary_18 N μ
  else
    (fM_put N (0 : Int32) μ).bind fun r3 =>
    k2 l1 (l2 + (1 : Int32)) r3
def fM_putUnary_2 (N : Nat) (F : Nat) : Int32 → Int32 → me_M → Option me_M := Nat.rec (motive := fun _ => Int32 → Int32 → me_M → Option me_M) (fun _ _ _ => none) (fun _ k2 => fM_putUnary_2b N k2) F
def fM_putUnary (N : Nat) (l1 : Int32) (μ : me_M) : Option me_M :=
  fM_putUnary_2 N N l1 (0 : Int32) μ
def fM_putNumber_23 (N : Nat) (μ : me_M) : Option me_M :=
  some μ
def fM_putNumber_4b (N : Nat) (k4 : Int32 → Int32 → me_M → Option me_M) (l1 : Int32) (l3 : Int32) (μ : me_M) : Option me_M :=
  if l3 < 0 then
    fM_putNumber_23 N μ
  else
    (fM_put N ((l1 >>> (l3 &&& 31)) &&& (1 : Int32)) μ).bind fun r2 =>
    k4 l1 (l3 + (-1 : Int32)) r2
def fM_putNumber_4 (N : Nat) (F : Nat) : Int32 → Int32 → me_M → Option me_M := Nat.rec (motive := fun _ => Int32 → Int32 → me_M → Option me_M) (fun _ _ _ => none) (fun _ k4 => fM_putNumber_4b N k4) F
def fM_putNumber (N : Nat) (l1 : Int32) (l2 : Int32) (μ : me_M) : Option me_M :=
  fM_putNumber_4 N N l1 (l2 - (1 : Int32)) μ
def fM_putGamma_25 (N : Nat) (l1 : Int32) (l2 : Int32) (μ : me_M) : Option me_M :=
  (fM_putUnary N l2 μ).bind fun r1 =>
  (fM_putNumber N (l1 + (1 : Int32)) l2 r1).bind fun r2 =>
  some r2
def fM_putGamma_2b (N : Nat) (k2 : Int32 → Int32 → me_M → Option me_M) (l1 : Int32) (l2 : Int32) (μ : me_M) : Option me_M :=
  if (20 : Int32) ≤ l2 then
    fM_putGamma_25 N l1 l2 μ
  else
    if (l1 + (1 : Int32)) < ((1 : Int32) <<< ((l2 + (1 : Int32)) &&& 31)) then
      fM_putGamma_25 N l1 l2 μ
    else
      k2 l1 (l2 + (1 : Int32)) μ
def fM_putGamma_2 (N : Nat) (F : Nat) : Int32 → Int32 → me_M → Option me_M := Nat.rec (motive := fun _ => Int32 → Int32 → me_M → Option me_M) (fun _ _ _ => none) (fun _ k2 => fM_putGamma_2b N k2) F
def fM_putGamma (N : Nat) (l1 : Int32) (μ : me_M) : Option me_M :=
  fM_putGamma_2 N N l1 (0 : Int32) μ
def fM_putRuns_117 (N : Nat) (μ : me_M) : Option me_M :=
  some μ
def fM_putRuns_108 (N : Nat) (k78 : Int32 → Int32 → me_M → Option me_M) (l3 : Int32) (l6 : Int32) (s1 : Int32) (μ : me_M) : Option me_M :=
  (fM_putGamma N s1 μ).bind fun r1 =>
  k78 l3 (l6 + (1 : Int32)) r1
def fM_putRuns_78b (N : Nat) (k78 : Int32 → Int32 → me_M → Option me_M) (l3 : Int32) (l6 : Int32) (μ : me_M) : Option me_M :=
  if l3 ≤ l6 then
    fM_putRuns_117 N μ
  else
    if l6 = 0 then
      me_gi (0 : Int32) 13 <|
      fM_putRuns_108 N k78 l3 l6 (μ.1 5 (0 : Int32).toNatClampNeg) μ
    else
      me_gi l6 13 <|
      fM_putRuns_108 N k78 l3 l6 ((μ.1 5 l6.toNatClampNeg) - (1 : Int32)) μ
def fM_putRuns_78 (N : Nat) (F : Nat) : Int32 → Int32 → me_M → Option me_M := Nat.rec (motive := fun _ => Int32 → Int32 → me_M → Option me_M) (fun _ _ _ => none) (fun _ k78 => fM_putRuns_78b N k78) F
def fM_putRuns_70 (N : Nat) (l3 : Int32) (μ : me_M) : Option me_M :=
  (fM_putGamma N l3 μ).bind fun r6 =>
  fM_putRuns_78 N N l3 (0 : Int32) r6
def fM_putRuns_64 (N : Nat) (k11 : Int32 → Int32 → Int32 → Int32 → Int32 → Int32 → me_M → Option me_M) (l1 : Int32) (l2 : Int32) (l3 : Int32) (l4 : Int32) (l5 : Int32) (l6 : Int32) (μ : me_M) : Option me_M :=
  k11 l1 l2 l3 l4 l5 (l6 + (1 : Int32)) μ
def fM_putRuns_61 (N : Nat) (k11 : Int32 → Int32 → Int32 → Int32 → Int32 → Int32 → me_M → Option me_M) (l1 : Int32) (l2 : Int32) (l3 : Int32) (l4 : Int32) (l5 : Int32) (l6 : Int32) (μ : me_M) : Option me_M :=
  fM_putRuns_64 N k11 l1 l2 l3 l4 (l5 + (1 : Int32)) l6 μ
def fM_putRuns_11b (N : Nat) (k11 : Int32 → Int32 → Int32 → Int32 → Int32 → Int32 → me_M → Option me_M) (l1 : Int32) (l2 : Int32) (l3 : Int32) (l4 : Int32) (l5 : Int32) (l6 : Int32) (μ : me_M) : Option me_M :=
  if (μ.1 100 0) ≤ l6 then
    fM_putRuns_70 N l3 μ
  else
    if ((l2 >>> (l6 &&& 31)) &&& (1 : Int32)) = (1 : Int32) then
      if ((l1 >>> (l6 &&& 31)) &&& (1 : Int32)) = l4 then
        fM_putRuns_61 N k11 l1 l2 l3 l4 l5 l6 μ
      else
        me_gi l3 13 <|
        fM_putRuns_61 N k11 l1 l2 (l3 + (1 : Int32)) ((1 : Int32) - l4) (0 : Int32) l6 (me_wi μ 5 l3.toNatClampNeg l5)
    else
      fM_putRuns_64 N k11 l1 l2 l3 l4 l5 l6 μ
def fM_putRuns_11 (N : Nat) (F : Nat) : Int32 → Int32 → Int32 → Int32 → Int32 → Int32 → me_M → Option me_M := Nat.rec (motive := fun _ => Int32 → Int32 → Int32 → Int32 → Int32 → Int32 → me_M → Option me_M) (fun _ _ _ _ _ _ _ => none) (fun _ k11 => fM_putRuns_11b N k11) F
def fM_putRuns (N : Nat) (l1 : Int32) (l2 : Int32) (μ : me_M) : Option me_M :=
  fM_putRuns_11 N N l1 l2 (0 : Int32) (1 : Int32) (0 : Int32) (0 : Int32) μ
def fM_rowAt_54 (N : Nat) (μ : me_M) (l3 : Int32) : Option Int32 :=
  some l3
def fM_rowAt_27b (N : Nat) (μ : me_M) (k27 : Int32 → Int32 → Int32 → Option Int32) (l1 : Int32) (l2 : Int32) (l3 : Int32) : Option Int32 :=
  if (μ.1 100 0) ≤ (l2 + l3) then
    fM_rowAt_54 N μ l3
  else
    if ((l1 >>> ((l2 + l3) &&& 31)) &&& (1 : Int32)) = (1 : Int32) then
      k27 l1 l2 (l3 + (1 : Int32))
    else
      fM_rowAt_54 N μ l3
def fM_rowAt_27 (N : Nat) (μ : me_M) (F : Nat) : Int32 → Int32 → Int32 → Option Int32 := Nat.rec (motive := fun _ => Int32 → Int32 → Int32 → Option Int32) (fun _ _ _ => none) (fun _ k27 => fM_rowAt_27b N μ k27) F
def fM_rowAt_25 (N : Nat) (μ : me_M) (l1 : Int32) (l2 : Int32) : Option Int32 :=
  fM_rowAt_27 N μ N l1 l2 (0 : Int32)
def fM_rowAt_23 (N : Nat) (μ : me_M) : Option Int32 :=
  some (0 : Int32)
def fM_rowAt (N : Nat) (μ : me_M) (l1 : Int32) (l2 : Int32) : Option Int32 :=
  if ((l1 >>> (l2 &&& 31)) &&& (1 : Int32)) = 0 then
    fM_rowAt_23 N μ
  else
    if l2 ≤ 0 then
      fM_rowAt_25 N μ l1 l2
    else
      if ((l1 >>> ((l2 - (1 : Int32)) &&& 31)) &&& (1 : Int32)) = (1 : Int32) then
        fM_rowAt_23 N μ
      else
        fM_rowAt_25 N μ l1 l2
def fM_natural_16 (N : Nat) (s0 : Int32) : Option Int32 :=
  some s0
def fM_natural (N : Nat) (l0 : Int32) : Option Int32 :=
  if l0 < 0 then
    fM_natural_16 N (((-2 : Int32) * l0) - (1 : Int32))
  else
    fM_natural_16 N ((2 : Int32) * l0)
def fM_putZeta_96 (N : Nat) (μ : me_M) : Option me_M :=
  some μ
def fM_putZeta_30 (N : Nat) (l1 : Int32) (l2 : Int32) (μ : me_M) : Option me_M :=
  (fM_putUnary N l2 μ).bind fun r1 =>
  if ((2 : Int32) * ((1 : Int32) <<< ((l2 * (r1.1 108 0)) &&& 31))) ≤ (l1 + (1 : Int32)) then
    (fM_putNumber N (l1 + (1 : Int32)) ((l2 * (r1.1 108 0)) + (r1.1 108 0)) r1).bind fun r3 =>
    fM_putZeta_96 N r3
  else
    (fM_putNumber N ((l1 + (1 : Int32)) - ((1 : Int32) <<< ((l2 * (r1.1 108 0)) &&& 31))) (((l2 * (r1.1 108 0)) + (r1.1 108 0)) - (1 : Int32)) r1).bind fun r4 =>
    fM_putZeta_96 N r4
def fM_putZeta_2b (N : Nat) (k2 : Int32 → Int32 → me_M → Option me_M) (l1 : Int32) (l2 : Int32) (μ : me_M) : Option me_M :=
  if (6 : Int32) ≤ l2 then
    fM_putZeta_30 N l1 l2 μ
  else
    if (l1 + (1 : Int32)) < ((1 : Int32) <<< (((l2 + (1 : Int32)) * (μ.1 108 0)) &&& 31)) then
      fM_putZeta_30 N l1 l2 μ
    else
      k2 l1 (l2 + (1 : Int32)) μ
def fM_putZeta_2 (N : Nat) (F : Nat) : Int32 → Int32 → me_M → Option me_M := Nat.rec (motive := fun _ => Int32 → Int32 → me_M → Option me_M) (fun _ _ _ => none) (fun _ k2 => fM_putZeta_2b N k2) F
def fM_putZeta (N : Nat) (l1 : Int32) (μ : me_M) : Option me_M :=
  fM_putZeta_2 N N l1 (0 : Int32) μ
def fM_putRest_220 (N : Nat) (μ : me_M) : Option me_M :=
  some μ
def fM_putRest_214 (N : Nat) (k165 : Int32 → Int32 → Int32 → Int32 → me_M → Option me_M) (l1 : Int32) (l3 : Int32) (l4 : Int32) (l5 : Int32) (μ : me_M) : Option me_M :=
  k165 l1 l3 l4 (l5 + (1 : Int32)) μ
def fM_putRest_207 (N : Nat) (k165 : Int32 → Int32 → Int32 → Int32 → me_M → Option me_M) (l1 : Int32) (l3 : Int32) (l5 : Int32) (s1 : Int32) (μ : me_M) : Option me_M :=
  (fM_putZeta N s1 μ).bind fun r1 =>
  fM_putRest_214 N k165 l1 l3 l5 l5 r1
def fM_putRest_165b (N : Nat) (k165 : Int32 → Int32 → Int32 → Int32 → me_M → Option me_M) (l1 : Int32) (l3 : Int32) (l4 : Int32) (l5 : Int32) (μ : me_M) : Option me_M :=
  if (μ.1 100 0) ≤ l5 then
    fM_putRest_220 N μ
  else
    if ((l3 >>> (l5 &&& 31)) &&& (1 : Int32)) = (1 : Int32) then
      if 0 ≤ l4 then
        fM_putRest_207 N k165 l1 l3 l5 ((l5 - l4) - (1 : Int32)) μ
      else
        (fM_natural N (l5 - l1)).bind fun r5 =>
        fM_putRest_207 N k165 l1 l3 l5 r5 μ
    else
      fM_putRest_214 N k165 l1 l3 l4 l5 μ
def fM_putRest_165 (N : Nat) (F : Nat) : Int32 → Int32 → Int32 → Int32 → me_M → Option me_M := Nat.rec (motive := fun _ => Int32 → Int32 → Int32 → Int32 → me_M → Option me_M) (fun _ _ _ _ _ => none) (fun _ k165 => fM_putRest_165b N k165) F
def fM_putRest_159 (N : Nat) (l1 : Int32) (l3 : Int32) (μ : me_M) : Option me_M :=
  fM_putRest_165 N N l1 l3 (-1 : Int32) (0 : Int32) μ
def fM_putRest_153 (N : Nat) (k66 : Int32 → Int32 → Int32 → Int32 → Int32 → me_M → Option me_M) (l1 : Int32) (l2 : Int32) (l3 : Int32) (l5 : Int32) (l6 : Int32) (μ : me_M) : Option me_M :=
  k66 l1 l2 l3 l5 (l6 + (1 : Int32)) μ
def fM_putRest_116 (N : Nat) (k66 : Int32 → Int32 → Int32 → Int32 → Int32 → me_M → Option me_M) (l1 : Int32) (l2 : Int32) (l3 : Int32) (l6 : Int32) (l7 : Int32) (s1 : Int32) (μ : me_M) : Option me_M :=
  (fM_putGamma N s1 μ).bind fun r6 =>
  (fM_putGamma N (l7 - (r6.1 107 0)) r6).bind fun r7 =>
  fM_putRest_153 N k66 l1 l2 (l3 &&& (((((1 : Int32) <<< (l7 &&& 31)) - (1 : Int32)) <<< (l6 &&& 31)) ^^^ (-1 : Int32))) ((l6 + l7) - (1 : Int32)) l6 r7
def fM_putRest_66b (N : Nat) (k66 : Int32 → Int32 → Int32 → Int32 → Int32 → me_M → Option me_M) (l1 : Int32) (l2 : Int32) (l3 : Int32) (l5 : Int32) (l6 : Int32) (μ : me_M) : Option me_M :=
  if (μ.1 100 0) ≤ l6 then
    fM_putRest_159 N l1 l3 μ
  else
    (fM_rowAt N μ l2 l6).bind fun r9 =>
    if r9 < (μ.1 107 0) then
      fM_putRest_153 N k66 l1 l2 l3 l5 l6 μ
    else
      if 0 ≤ l5 then
        fM_putRest_116 N k66 l1 l2 l3 l6 r9 ((l6 - l5) - (2 : Int32)) μ
      else
        (fM_natural N (l6 - l1)).bind fun r12 =>
        fM_putRest_116 N k66 l1 l2 l3 l6 r9 r12 μ
def fM_putRest_66 (N : Nat) (F : Nat) : Int32 → Int32 → Int32 → Int32 → Int32 → me_M → Option me_M := Nat.rec (motive := fun _ => Int32 → Int32 → Int32 → Int32 → Int32 → me_M → Option me_M) (fun _ _ _ _ _ _ => none) (fun _ k66 => fM_putRest_66b N k66) F
def fM_putRest_54 (N : Nat) (l1 : Int32) (l2 : Int32) (l3 : Int32) (l4 : Int32) (μ : me_M) : Option me_M :=
  (fM_putGamma N l4 μ).bind fun r13 =>
  fM_putRest_66 N N l1 l2 l3 (-1 : Int32) (0 : Int32) r13
def fM_putRest_45 (N : Nat) (k15 : Int32 → Int32 → Int32 → Int32 → Int32 → me_M → Option me_M) (l1 : Int32) (l2 : Int32) (l3 : Int32) (l5 : Int32) (s0 : Int32) (s1 : Int32) (μ : me_M) : Option me_M :=
  k15 l1 l2 l3 (s0 + s1) (l5 + (1 : Int32)) μ
def fM_putRest_15b (N : Nat) (k15 : Int32 → Int32 → Int32 → Int32 → Int32 → me_M → Option me_M) (l1 : Int32) (l2 : Int32) (l3 : Int32) (l4 : Int32) (l5 : Int32) (μ : me_M) : Option me_M :=
  if (μ.1 100 0) ≤ l5 then
    fM_putRest_54 N l1 l2 l3 l4 μ
  else
    (fM_rowAt N μ l2 l5).bind fun r15 =>
    if r15 < (μ.1 107 0) then
      fM_putRest_45 N k15 l1 l2 l3 l5 l4 (0 : Int32) μ
    else
      fM_putRest_45 N k15 l1 l2 l3 l5 l4 (1 : Int32) μ
def fM_putRest_15 (N : Nat) (F : Nat) : Int32 → Int32 → Int32 → Int32 → Int32 → me_M → Option me_M := Nat.rec (motive := fun _ => Int32 → Int32 → Int32 → Int32 → Int32 → me_M → Option me_M) (fun _ _ _ _ _ _ => none) (fun _ k15 => fM_putRest_15b N k15) F
def fM_putRest (N : Nat) (l1 : Int32) (l2 : Int32) (μ : me_M) : Option me_M :=
  if (μ.1 107 0) ≤ 0 then
    fM_putRest_159 N l1 l2 μ
  else
    fM_putRest_15 N N l1 l2 l2 (0 : Int32) (0 : Int32) μ
def fM_putRecord_78 (N : Nat) (μ : me_M) : Option me_M :=
  some μ
def fM_putRecord_66 (N : Nat) (l1 : Int32) (l4 : Int32) (μ : me_M) : Option me_M :=
  if l4 = 0 then
    fM_putRecord_78 N μ
  else
    (fM_putRest N l1 l4 μ).bind fun r2 =>
    fM_putRecord_78 N r2
def fM_putRecord_32 (N : Nat) (l1 : Int32) (l2 : Int32) (l3 : Int32) (μ : me_M) : Option me_M :=
  if l2 ≤ 0 then
    fM_putRecord_66 N l1 l3 μ
  else
    me_gi (l1 - l2) 12 <|
    (fM_putRuns N l3 (μ.1 1 (l1 - l2).toNatClampNeg) μ).bind fun r5 =>
    me_gi (l1 - l2) 12 <|
    fM_putRecord_66 N l1 (l3 &&& ((r5.1 1 (l1 - l2).toNatClampNeg) ^^^ (-1 : Int32))) r5
def fM_putRecord (N : Nat) (l1 : Int32) (l2 : Int32) (μ : me_M) : Option me_M :=
  me_gi l1 12 <|
  (fM_ones N (μ.1 1 l1.toNatClampNeg)).bind fun r8 =>
  (fM_putGamma N r8 μ).bind fun r9 =>
  if (μ.1 1 l1.toNatClampNeg) = 0 then
    some r9
  else
    if (r9.1 105 0) ≤ 0 then
      fM_putRecord_32 N l1 l2 (μ.1 1 l1.toNatClampNeg) r9
    else
      (fM_putUnary N l2 r9).bind fun r12 =>
      fM_putRecord_32 N l1 l2 (μ.1 1 l1.toNatClampNeg) r12
def fM_pack_281 (N : Nat) (μ : me_M) : Option (Int32 × me_M) :=
  me_gi (μ.1 100 0) 13 <|
  some ((me_wi μ 3 (μ.1 100 0).toNatClampNeg (μ.1 103 0)).1 103 0, me_wi μ 3 (μ.1 100 0).toNatClampNeg (μ.1 103 0))
def fM_pack_274 (N : Nat) (k72 : Int32 → me_M → Option (Int32 × me_M)) (l5 : Int32) (s1 : Int32) (s2 : Int32) (μ : me_M) : Option (Int32 × me_M) :=
  me_gi s1 12 <|
  k72 (l5 + (1 : Int32)) (me_wi μ 4 s1.toNatClampNeg s2)
def fM_pack_239 (N : Nat) (k72 : Int32 → me_M → Option (Int32 × me_M)) (l5 : Int32) (l6 : Int32) (μ : me_M) : Option (Int32 × me_M) :=
  (fM_putRecord N l5 l6 μ).bind fun r3 =>
  if l6 ≤ 0 then
    fM_pack_274 N k72 l5 l5 (0 : Int32) r3
  else
    me_gi (l5 - l6) 12 <|
    fM_pack_274 N k72 l5 l5 ((1 : Int32) + (r3.1 4 (l5 - l6).toNatClampNeg)) r3
def fM_pack_233 (N : Nat) (k72 : Int32 → me_M → Option (Int32 × me_M)) (k102 : Int32 → Int32 → Int32 → Int32 → me_M → Option (Int32 × me_M)) (l5 : Int32) (l6 : Int32) (l7 : Int32) (l8 : Int32) (μ : me_M) : Option (Int32 × me_M) :=
  k102 l5 l6 l7 (l8 + (1 : Int32)) μ
def fM_pack_231 (N : Nat) (k72 : Int32 → me_M → Option (Int32 × me_M)) (k102 : Int32 → Int32 → Int32 → Int32 → me_M → Option (Int32 × me_M)) (l5 : Int32) (l6 : Int32) (l8 : Int32) (s0 : Int32) (μ : me_M) : Option (Int32 × me_M) :=
  fM_pack_233 N k72 k102 l5 l6 s0 l8 μ
def fM_pack_215 (N : Nat) (k72 : Int32 → me_M → Option (Int32 × me_M)) (k102 : Int32 → Int32 → Int32 → Int32 → me_M → Option (Int32 × me_M)) (l5 : Int32) (l7 : Int32) (l8 : Int32) (l9 : Int32) (s0 : Int32) (μ : me_M) : Option (Int32 × me_M) :=
  if l7 ≤ l9 then
    fM_pack_231 N k72 k102 l5 s0 l8 l7 μ
  else
    fM_pack_231 N k72 k102 l5 s0 l8 l9 μ
def fM_pack_168 (N : Nat) (k72 : Int32 → me_M → Option (Int32 × me_M)) (k102 : Int32 → Int32 → Int32 → Int32 → me_M → Option (Int32 × me_M)) (l5 : Int32) (l6 : Int32) (l7 : Int32) (l8 : Int32) (μ : me_M) : Option (Int32 × me_M) :=
  (fM_putRecord N l5 l8 μ).bind fun r7 =>
  me_gi l5 13 <|
  me_gi l5 13 <|
  if l7 ≤ ((r7.1 103 0) - (r7.1 3 l5.toNatClampNeg)) then
    fM_pack_215 N k72 k102 l5 l7 l8 ((r7.1 103 0) - (r7.1 3 l5.toNatClampNeg)) l6 (me_wi r7 103 0 (r7.1 3 l5.toNatClampNeg))
  else
    fM_pack_215 N k72 k102 l5 l7 l8 ((r7.1 103 0) - (r7.1 3 l5.toNatClampNeg)) l8 (me_wi r7 103 0 (r7.1 3 l5.toNatClampNeg))
def fM_pack_133 (N : Nat) (k72 : Int32 → me_M → Option (Int32 × me_M)) (k102 : Int32 → Int32 → Int32 → Int32 → me_M → Option (Int32 × me_M)) (l5 : Int32) (l6 : Int32) (l7 : Int32) (l8 : Int32) (μ : me_M) : Option (Int32 × me_M) :=
  if l8 = 0 then
    fM_pack_168 N k72 k102 l5 l6 l7 l8 μ
  else
    me_gi (l5 - l8) 12 <|
    if (μ.1 1 (l5 - l8).toNatClampNeg) = 0 then
      fM_pack_233 N k72 k102 l5 l6 l7 l8 μ
    else
      me_gi (l5 - l8) 12 <|
      if (μ.1 106 0) ≤ (μ.1 4 (l5 - l8).toNatClampNeg) then
        fM_pack_233 N k72 k102 l5 l6 l7 l8 μ
      else
        fM_pack_168 N k72 k102 l5 l6 l7 l8 μ
def fM_pack_102b (N : Nat) (k72 : Int32 → me_M → Option (Int32 × me_M)) (k102 : Int32 → Int32 → Int32 → Int32 → me_M → Option (Int32 × me_M)) (l5 : Int32) (l6 : Int32) (l7 : Int32) (l8 : Int32) (μ : me_M) : Option (Int32 × me_M) :=
  if (μ.1 105 0) < l8 then
    fM_pack_239 N k72 l5 l6 μ
  else
    if l5 < l8 then
      fM_pack_239 N k72 l5 l6 μ
    else
      if l8 = 0 then
        fM_pack_133 N k72 k102 l5 l6 l7 l8 μ
      else
        me_gi l5 12 <|
        if (μ.1 1 l5.toNatClampNeg) = 0 then
          fM_pack_239 N k72 l5 l6 μ
        else
          fM_pack_133 N k72 k102 l5 l6 l7 l8 μ
def fM_pack_102 (N : Nat) (k72 : Int32 → me_M → Option (Int32 × me_M)) (F : Nat) : Int32 → Int32 → Int32 → Int32 → me_M → Option (Int32 × me_M) := Nat.rec (motive := fun _ => Int32 → Int32 → Int32 → Int32 → me_M → Option (Int32 × me_M)) (fun _ _ _ _ _ => none) (fun _ k102 => fM_pack_102b N k72 k102) F
def fM_pack_72b (N : Nat) (k72 : Int32 → me_M → Option (Int32 × me_M)) (l5 : Int32) (μ : me_M) : Option (Int32 × me_M) :=
  if (μ.1 100 0) ≤ l5 then
    fM_pack_281 N μ
  else
    me_gi l5 13 <|
    fM_pack_102 N k72 N l5 (0 : Int32) (1048576 : Int32) (0 : Int32) (me_wi μ 3 l5.toNatClampNeg (μ.1 103 0))
def fM_pack_72 (N : Nat) (F : Nat) : Int32 → me_M → Option (Int32 × me_M) := Nat.rec (motive := fun _ => Int32 → me_M → Option (Int32 × me_M)) (fun _ _ => none) (fun _ k72 => fM_pack_72b N k72) F
def fM_pack_41 (N : Nat) (μ : me_M) : Option (Int32 × me_M) :=
  some ((-1 : Int32), μ)
def fM_pack (N : Nat) (l1 : Int32) (l2 : Int32) (l3 : Int32) (l4 : Int32) (μ : me_M) : Option (Int32 × me_M) :=
  if l1 < 0 then
    fM_pack_41 N μ
  else
    if (6 : Int32) < l1 then
      fM_pack_41 N μ
    else
      if l2 < 0 then
        fM_pack_41 N μ
      else
        if (3 : Int32) < l2 then
          fM_pack_41 N μ
        else
          if l3 < 0 then
            fM_pack_41 N μ
          else
            if (9 : Int32) < l3 then
              fM_pack_41 N μ
            else
              if l4 < (1 : Int32) then
                fM_pack_41 N μ
              else
                if l4 ≤ (4 : Int32) then
                  fM_pack_72 N N (0 : Int32) (me_wi (me_wi (me_wi (me_wi (me_wi μ 105 0 l1) 106 0 l2) 107 0 l3) 108 0 l4) 103 0 (0 : Int32))
                else
                  fM_pack_41 N μ
def fM_start_97 (N : Nat) (μ : me_M) : Option (Int32 × me_M) :=
  me_gz (1 : Int32) <|
  some ((1 : Int32), μ)
def fM_start_90 (N : Nat) (k39 : Int32 → Int32 → me_M → Option (Int32 × me_M)) (l1 : Int32) (l3 : Int32) (s1 : Int32) (s2 : Int64) (μ : me_M) : Option (Int32 × me_M) :=
  me_gi s1 12 <|
  k39 l1 (l3 + (1 : Int32)) (me_wl μ 12 s1.toNatClampNeg s2)
def fM_start_72 (N : Nat) (k39 : Int32 → Int32 → me_M → Option (Int32 × me_M)) (l1 : Int32) (l3 : Int32) (s1 : Int32) (s2 : Int64) (μ : me_M) : Option (Int32 × me_M) :=
  me_gi s1 12 <|
  if l1 = (1 : Int32) then
    fM_start_90 N k39 l1 l3 l3 (1000000 : Int64) (me_wl μ 11 s1.toNatClampNeg s2)
  else
    fM_start_90 N k39 l1 l3 l3 (0 : Int64) (me_wl μ 11 s1.toNatClampNeg s2)
def fM_start_39b (N : Nat) (k39 : Int32 → Int32 → me_M → Option (Int32 × me_M)) (l1 : Int32) (l3 : Int32) (μ : me_M) : Option (Int32 × me_M) :=
  if (μ.1 100 0) ≤ l3 then
    fM_start_97 N μ
  else
    if l1 = (1 : Int32) then
      fM_start_72 N k39 l1 l3 l3 (1000000 : Int64) μ
    else
      me_gd ((μ.1 100 0).toInt64) 0 <|
      fM_start_72 N k39 l1 l3 l3 ((1000000000000 : Int64) / ((μ.1 100 0).toInt64)) μ
def fM_start_39 (N : Nat) (F : Nat) : Int32 → Int32 → me_M → Option (Int32 × me_M) := Nat.rec (motive := fun _ => Int32 → Int32 → me_M → Option (Int32 × me_M)) (fun _ _ _ => none) (fun _ k39 => fM_start_39b N k39) F
def fM_start_20 (N : Nat) (μ : me_M) : Option (Int32 × me_M) :=
  me_gz (0 : Int32) <|
  some ((0 : Int32), μ)
def fM_start (N : Nat) (l1 : Int32) (l2 : Int32) (μ : me_M) : Option (Int32 × me_M) :=
  if l1 < 0 then
    fM_start_20 N μ
  else
    if (2 : Int32) < l1 then
      fM_start_20 N μ
    else
      if l2 < 0 then
        fM_start_20 N μ
      else
        if l2 ≤ (1000 : Int32) then
          fM_start_39 N N l1 (0 : Int32) (me_wl (me_wi (me_wi μ 120 0 l1) 121 0 l2) 125 0 (0 : Int64))
        else
          fM_start_20 N μ
def fM_node_17 (N : Nat) (μ : me_M) (s0 : Int32) : Option Int32 :=
  me_gz s0 <|
  some s0
def fM_node_16 (N : Nat) (μ : me_M) : Option Int32 :=
  fM_node_17 N μ (0 : Int32)
def fM_node (N : Nat) (μ : me_M) (l1 : Int32) : Option Int32 :=
  if l1 < 0 then
    fM_node_16 N μ
  else
    if (μ.1 100 0) ≤ l1 then
      fM_node_16 N μ
    else
      fM_node_17 N μ (1 : Int32)
def fM_add_30 (N : Nat) (μ : me_M) : Option (Int32 × me_M) :=
  me_gz (0 : Int32) <|
  some ((0 : Int32), μ)
def fM_add (N : Nat) (l1 : Int32) (l2 : Int32) (μ : me_M) : Option (Int32 × me_M) :=
  (fM_node N μ l1).bind fun r2 =>
  if r2 = 0 then
    fM_add_30 N μ
  else
    (fM_node N μ l2).bind fun r4 =>
    if r4 = 0 then
      fM_add_30 N μ
    else
      me_gi l1 12 <|
      if (((μ.1 1 l1.toNatClampNeg) >>> (l2 &&& 31)) &&& (1 : Int32)) = (1 : Int32) then
        fM_add_30 N μ
      else
        me_gi l1 12 <|
        me_gi l1 12 <|
        me_gz (1 : Int32) <|
        some ((1 : Int32), me_wi μ 1 l1.toNatClampNeg ((μ.1 1 l1.toNatClampNeg) ||| ((1 : Int32) <<< (l2 &&& 31))))
def fM_drop_29 (N : Nat) (μ : me_M) : Option (Int32 × me_M) :=
  me_gz (0 : Int32) <|
  some ((0 : Int32), μ)
def fM_drop (N : Nat) (l1 : Int32) (l2 : Int32) (μ : me_M) : Option (Int32 × me_M) :=
  (fM_node N μ l1).bind fun r2 =>
  if r2 = 0 then
    fM_drop_29 N μ
  else
    (fM_node N μ l2).bind fun r4 =>
    if r4 = 0 then
      fM_drop_29 N μ
    else
      me_gi l1 12 <|
      if (((μ.1 1 l1.toNatClampNeg) >>> (l2 &&& 31)) &&& (1 : Int32)) = 0 then
        fM_drop_29 N μ
      else
        me_gi l1 12 <|
        me_gi l1 12 <|
        me_gz (1 : Int32) <|
        some ((1 : Int32), me_wi μ 1 l1.toNatClampNeg ((μ.1 1 l1.toNatClampNeg) &&& (((1 : Int32) <<< (l2 &&& 31)) ^^^ (-1 : Int32))))
def fM_whole_18 (N : Nat) (s0 : Int32) : Option Int32 :=
  some s0
def fM_whole (N : Nat) (l0 : Int32) : Option Int32 :=
  if (l0 &&& (1 : Int32)) = 0 then
    fM_whole_18 N (l0 >>> ((1 : Int32) &&& 31))
  else
    fM_whole_18 N (-((l0 + (1 : Int32)) >>> ((1 : Int32) &&& 31)))
def fM_offset_22 (N : Nat) (μ : me_M) (s0 : Int32) : Option Int32 :=
  some s0
def fM_offset_21 (N : Nat) (μ : me_M) : Option Int32 :=
  fM_offset_22 N μ (-1 : Int32)
def fM_offset (N : Nat) (μ : me_M) (l1 : Int32) : Option Int32 :=
  if l1 < 0 then
    fM_offset_21 N μ
  else
    if (μ.1 100 0) < l1 then
      fM_offset_21 N μ
    else
      me_gi l1 13 <|
      fM_offset_22 N μ (μ.1 3 l1.toNatClampNeg)
def fM_bit_22 (N : Nat) (μ : me_M) (s0 : Int32) : Option Int32 :=
  some s0
def fM_bit_21 (N : Nat) (μ : me_M) : Option Int32 :=
  fM_bit_22 N μ (-1 : Int32)
def fM_bit (N : Nat) (μ : me_M) (l1 : Int32) : Option Int32 :=
  if l1 < 0 then
    fM_bit_21 N μ
  else
    if (μ.1 103 0) ≤ l1 then
      fM_bit_21 N μ
    else
      me_gi l1 2048 <|
      fM_bit_22 N μ (μ.1 2 l1.toNatClampNeg)
def fM_flip_12 (N : Nat) (μ : me_M) : Option (Int32 × me_M) :=
  me_gz (0 : Int32) <|
  some ((0 : Int32), μ)
def fM_flip (N : Nat) (l1 : Int32) (μ : me_M) : Option (Int32 × me_M) :=
  if l1 < 0 then
    fM_flip_12 N μ
  else
    if l1 < (μ.1 103 0) then
      me_gi l1 2048 <|
      me_gi l1 2048 <|
      me_gz (1 : Int32) <|
      some ((1 : Int32), me_wi μ 2 l1.toNatClampNeg ((1 : Int32) - (μ.1 2 l1.toNatClampNeg)))
    else
      fM_flip_12 N μ
def fM_next_34 (N : Nat) (s1 : Int32) (μ : me_M) : Option (Int32 × me_M) :=
  some ((0 : Int32), me_wi μ 112 0 s1)
def fM_next_18 (N : Nat) (μ : me_M) : Option (Int32 × me_M) :=
  if (μ.1 112 0) ≤ 0 then
    fM_next_34 N (1 : Int32) μ
  else
    fM_next_34 N (μ.1 112 0) μ
def fM_next (N : Nat) (μ : me_M) : Option (Int32 × me_M) :=
  if 0 < (μ.1 112 0) then
    fM_next_18 N μ
  else
    if (μ.1 111 0) < (μ.1 103 0) then
      me_gi (((me_wi μ 111 0 ((μ.1 111 0) + (1 : Int32))).1 111 0) - (1 : Int32)) 2048 <|
      some ((me_wi μ 111 0 ((μ.1 111 0) + (1 : Int32))).1 2 (((me_wi μ 111 0 ((μ.1 111 0) + (1 : Int32))).1 111 0) - (1 : Int32)).toNatClampNeg, me_wi μ 111 0 ((μ.1 111 0) + (1 : Int32)))
    else
      fM_next_18 N μ
def fM_nextUnary_52 (N : Nat) (s0 : Int32) (μ : me_M) : Option (Int32 × me_M) :=
  some (s0, μ)
def fM_nextUnary_40 (N : Nat) (l1 : Int32) (μ : me_M) : Option (Int32 × me_M) :=
  if (μ.1 112 0) ≤ 0 then
    fM_nextUnary_52 N l1 μ
  else
    fM_nextUnary_52 N (0 : Int32) μ
def fM_nextUnary_2b (N : Nat) (k2 : Int32 → me_M → Option (Int32 × me_M)) (l1 : Int32) (μ : me_M) : Option (Int32 × me_M) :=
  if (μ.1 112 0) = 0 then
    (fM_next N μ).bind fun r3 =>
    if r3.1 = 0 then
      if (r3.2.1 112 0) = 0 then
        if (l1 + (1 : Int32)) = (7 : Int32) then
          k2 (l1 + (1 : Int32)) (me_wi r3.2 112 0 (2 : Int32))
        else
          k2 (l1 + (1 : Int32)) r3.2
      else
        k2 (l1 + (1 : Int32)) r3.2
    else
      fM_nextUnary_40 N l1 r3.2
  else
    fM_nextUnary_40 N l1 μ
def fM_nextUnary_2 (N : Nat) (F : Nat) : Int32 → me_M → Option (Int32 × me_M) := Nat.rec (motive := fun _ => Int32 → me_M → Option (Int32 × me_M)) (fun _ _ => none) (fun _ k2 => fM_nextUnary_2b N k2) F
def fM_nextUnary (N : Nat) (μ : me_M) : Option (Int32 × me_M) :=
  fM_nextUnary_2 N N (0 : Int32) μ
def fM_nextNumber_24 (N : Nat) (l2 : Int32) (μ : me_M) : Option (Int32 × me_M) :=
  some (l2, μ)
def fM_nextNumber_4b (N : Nat) (k4 : Int32 → Int32 → Int32 → me_M → Option (Int32 × me_M)) (l1 : Int32) (l2 : Int32) (l3 : Int32) (μ : me_M) : Option (Int32 × me_M) :=
  if l1 ≤ l3 then
    fM_nextNumber_24 N l2 μ
  else
    (fM_next N μ).bind fun r2 =>
    k4 l1 (((2 : Int32) * l2) + r2.1) (l3 + (1 : Int32)) r2.2
def fM_nextNumber_4 (N : Nat) (F : Nat) : Int32 → Int32 → Int32 → me_M → Option (Int32 × me_M) := Nat.rec (motive := fun _ => Int32 → Int32 → Int32 → me_M → Option (Int32 × me_M)) (fun _ _ _ _ => none) (fun _ k4 => fM_nextNumber_4b N k4) F
def fM_nextNumber (N : Nat) (l1 : Int32) (μ : me_M) : Option (Int32 × me_M) :=
  fM_nextNumber_4 N N l1 (0 : Int32) (0 : Int32) μ
def fM_nextGamma (N : Nat) (μ : me_M) : Option (Int32 × me_M) :=
  (fM_nextUnary N μ).bind fun r1 =>
  (fM_nextNumber N r1.1 r1.2).bind fun r2 =>
  some ((((1 : Int32) <<< (r1.1 &&& 31)) - (1 : Int32)) + r2.1, r2.2)
def fM_nextZeta (N : Nat) (μ : me_M) : Option (Int32 × me_M) :=
  (fM_nextUnary N μ).bind fun r1 =>
  (fM_nextNumber N (((r1.1 * (r1.2.1 108 0)) + (r1.2.1 108 0)) - (1 : Int32)) r1.2).bind fun r2 =>
  if ((1 : Int32) <<< ((r1.1 * (r2.2.1 108 0)) &&& 31)) ≤ r2.1 then
    (fM_next N r2.2).bind fun r4 =>
    some ((((2 : Int32) * r2.1) + r4.1) - (1 : Int32), r4.2)
  else
    some ((r2.1 + ((1 : Int32) <<< ((r1.1 * (r2.2.1 108 0)) &&& 31))) - (1 : Int32), r2.2)
def fM_take_25 (N : Nat) (l1 : Int32) (s1 : Int32) (μ : me_M) : Option me_M :=
  me_gz s1 <|
  some (me_wi (me_wi μ 114 0 s1) 113 0 (((me_wi μ 114 0 s1).1 113 0) ||| ((1 : Int32) <<< (l1 &&& 31))))
def fM_take_20 (N : Nat) (l1 : Int32) (μ : me_M) : Option me_M :=
  fM_take_25 N l1 (1 : Int32) μ
def fM_take (N : Nat) (l1 : Int32) (μ : me_M) : Option me_M :=
  if (μ.1 114 0) = 0 then
    if (((μ.1 113 0) >>> (l1 &&& 31)) &&& (1 : Int32)) = (1 : Int32) then
      fM_take_20 N l1 μ
    else
      fM_take_25 N l1 (0 : Int32) μ
  else
    fM_take_20 N l1 μ
def fM_copy_52 (N : Nat) (μ : me_M) : Option me_M :=
  some μ
def fM_copy_46 (N : Nat) (k6 : Int32 → Int32 → Int32 → Int32 → Int32 → me_M → Option me_M) (l1 : Int32) (l2 : Int32) (l3 : Int32) (l4 : Int32) (l5 : Int32) (μ : me_M) : Option me_M :=
  k6 l1 l2 l3 l4 (l5 + (1 : Int32)) μ
def fM_copy_43 (N : Nat) (k6 : Int32 → Int32 → Int32 → Int32 → Int32 → me_M → Option me_M) (l1 : Int32) (l2 : Int32) (l3 : Int32) (l4 : Int32) (l5 : Int32) (μ : me_M) : Option me_M :=
  fM_copy_46 N k6 l1 l2 l3 (l4 + (1 : Int32)) l5 μ
def fM_copy_6b (N : Nat) (k6 : Int32 → Int32 → Int32 → Int32 → Int32 → me_M → Option me_M) (l1 : Int32) (l2 : Int32) (l3 : Int32) (l4 : Int32) (l5 : Int32) (μ : me_M) : Option me_M :=
  if (μ.1 100 0) ≤ l5 then
    fM_copy_52 N μ
  else
    if ((l1 >>> (l5 &&& 31)) &&& (1 : Int32)) = (1 : Int32) then
      if l4 < l2 then
        fM_copy_43 N k6 l1 l2 l3 l4 l5 μ
      else
        if l3 ≤ l4 then
          fM_copy_43 N k6 l1 l2 l3 l4 l5 μ
        else
          (fM_take N l5 μ).bind fun r5 =>
          fM_copy_43 N k6 l1 l2 l3 l4 l5 r5
    else
      fM_copy_46 N k6 l1 l2 l3 l4 l5 μ
def fM_copy_6 (N : Nat) (F : Nat) : Int32 → Int32 → Int32 → Int32 → Int32 → me_M → Option me_M := Nat.rec (motive := fun _ => Int32 → Int32 → Int32 → Int32 → Int32 → me_M → Option me_M) (fun _ _ _ _ _ _ => none) (fun _ k6 => fM_copy_6b N k6) F
def fM_copy (N : Nat) (l1 : Int32) (l2 : Int32) (l3 : Int32) (μ : me_M) : Option me_M :=
  fM_copy_6 N N l1 l2 l3 (0 : Int32) (0 : Int32) μ
def fM_readRuns_149 (N : Nat) (μ : me_M) : Option me_M :=
  some μ
def fM_readRuns_125 (N : Nat) (l2 : Int32) (μ : me_M) : Option me_M :=
  if (μ.1 112 0) = 0 then
    (fM_ones N (μ.1 113 0)).bind fun r2 =>
    if r2 ≤ l2 then
      fM_readRuns_149 N μ
    else
      fM_readRuns_149 N (me_wi μ 112 0 (6 : Int32))
  else
    fM_readRuns_149 N μ
def fM_readRuns_103 (N : Nat) (l1 : Int32) (l2 : Int32) (l3 : Int32) (l4 : Int32) (μ : me_M) : Option me_M :=
  if (μ.1 112 0) = 0 then
    if (l3 - l3 / (2 : Int32) * (2 : Int32)) = 0 then
      (fM_copy N l1 l4 (12 : Int32) μ).bind fun r7 =>
      fM_readRuns_125 N l2 r7
    else
      fM_readRuns_125 N l2 μ
  else
    fM_readRuns_125 N l2 μ
def fM_readRuns_97 (N : Nat) (k11 : Int32 → Int32 → Int32 → Int32 → Int32 → me_M → Option me_M) (l1 : Int32) (l2 : Int32) (l3 : Int32) (l4 : Int32) (l5 : Int32) (μ : me_M) : Option me_M :=
  k11 l1 l2 l3 l4 (l5 + (1 : Int32)) μ
def fM_readRuns_74 (N : Nat) (k11 : Int32 → Int32 → Int32 → Int32 → Int32 → me_M → Option me_M) (l1 : Int32) (l2 : Int32) (l3 : Int32) (l4 : Int32) (l5 : Int32) (l7 : Int32) (μ : me_M) : Option me_M :=
  if (μ.1 112 0) = 0 then
    if (l5 - l5 / (2 : Int32) * (2 : Int32)) = 0 then
      (fM_copy N l1 l7 l4 μ).bind fun r11 =>
      fM_readRuns_97 N k11 l1 l2 l3 l4 l5 r11
    else
      fM_readRuns_97 N k11 l1 l2 l3 l4 l5 μ
  else
    fM_readRuns_97 N k11 l1 l2 l3 l4 l5 μ
def fM_readRuns_38 (N : Nat) (k11 : Int32 → Int32 → Int32 → Int32 → Int32 → me_M → Option me_M) (l1 : Int32) (l2 : Int32) (l3 : Int32) (l4 : Int32) (l5 : Int32) (s0 : Int32) (s1 : Int32) (μ : me_M) : Option me_M :=
  if (μ.1 112 0) = 0 then
    (fM_ones N l1).bind fun r13 =>
    if (l4 + (s0 + s1)) ≤ r13 then
      fM_readRuns_74 N k11 l1 l2 l3 (l4 + (s0 + s1)) l5 l4 μ
    else
      fM_readRuns_74 N k11 l1 l2 l3 (l4 + (s0 + s1)) l5 l4 (me_wi μ 112 0 (6 : Int32))
  else
    fM_readRuns_74 N k11 l1 l2 l3 (l4 + (s0 + s1)) l5 l4 μ
def fM_readRuns_11b (N : Nat) (k11 : Int32 → Int32 → Int32 → Int32 → Int32 → me_M → Option me_M) (l1 : Int32) (l2 : Int32) (l3 : Int32) (l4 : Int32) (l5 : Int32) (μ : me_M) : Option me_M :=
  if l3 ≤ l5 then
    fM_readRuns_103 N l1 l2 l3 l4 μ
  else
    if (μ.1 112 0) = 0 then
      (fM_nextGamma N μ).bind fun r17 =>
      if l5 ≤ 0 then
        fM_readRuns_38 N k11 l1 l2 l3 l4 l5 r17.1 (0 : Int32) r17.2
      else
        fM_readRuns_38 N k11 l1 l2 l3 l4 l5 r17.1 (1 : Int32) r17.2
    else
      fM_readRuns_103 N l1 l2 l3 l4 μ
def fM_readRuns_11 (N : Nat) (F : Nat) : Int32 → Int32 → Int32 → Int32 → Int32 → me_M → Option me_M := Nat.rec (motive := fun _ => Int32 → Int32 → Int32 → Int32 → Int32 → me_M → Option me_M) (fun _ _ _ _ _ _ => none) (fun _ k11 => fM_readRuns_11b N k11) F
def fM_readRuns (N : Nat) (l1 : Int32) (l2 : Int32) (μ : me_M) : Option me_M :=
  (fM_nextGamma N μ).bind fun r19 =>
  fM_readRuns_11 N N l1 l2 r19.1 (0 : Int32) (0 : Int32) r19.2
def fM_readIntervals_172 (N : Nat) (l4 : Int32) (μ : me_M) : Option (Int32 × me_M) :=
  some (l4, μ)
def fM_readIntervals_166 (N : Nat) (k14 : Int32 → Int32 → Int32 → Int32 → Int32 → Int32 → me_M → Option (Int32 × me_M)) (l1 : Int32) (l2 : Int32) (l3 : Int32) (l4 : Int32) (l5 : Int32) (l6 : Int32) (μ : me_M) : Option (Int32 × me_M) :=
  k14 l1 l2 l3 l4 l5 (l6 + (1 : Int32)) μ
def fM_readIntervals_140b (N : Nat) (k14 : Int32 → Int32 → Int32 → Int32 → Int32 → Int32 → me_M → Option (Int32 × me_M)) (k140 : Int32 → Int32 → Int32 → Int32 → Int32 → Int32 → Int32 → me_M → Option (Int32 × me_M)) (l1 : Int32) (l2 : Int32) (l3 : Int32) (l4 : Int32) (l5 : Int32) (l6 : Int32) (l10 : Int32) (μ : me_M) : Option (Int32 × me_M) :=
  if l5 < l10 then
    fM_readIntervals_166 N k14 l1 l2 l3 l4 l5 l6 μ
  else
    if (μ.1 112 0) = 0 then
      (fM_take N l10 μ).bind fun r3 =>
      k140 l1 l2 l3 l4 l5 l6 (l10 + (1 : Int32)) r3
    else
      fM_readIntervals_166 N k14 l1 l2 l3 l4 l5 l6 μ
def fM_readIntervals_140 (N : Nat) (k14 : Int32 → Int32 → Int32 → Int32 → Int32 → Int32 → me_M → Option (Int32 × me_M)) (F : Nat) : Int32 → Int32 → Int32 → Int32 → Int32 → Int32 → Int32 → me_M → Option (Int32 × me_M) := Nat.rec (motive := fun _ => Int32 → Int32 → Int32 → Int32 → Int32 → Int32 → Int32 → me_M → Option (Int32 × me_M)) (fun _ _ _ _ _ _ _ _ => none) (fun _ k140 => fM_readIntervals_140b N k14 k140) F
def fM_readIntervals_136 (N : Nat) (k14 : Int32 → Int32 → Int32 → Int32 → Int32 → Int32 → me_M → Option (Int32 × me_M)) (l1 : Int32) (l2 : Int32) (l3 : Int32) (l4 : Int32) (l5 : Int32) (l6 : Int32) (l8 : Int32) (μ : me_M) : Option (Int32 × me_M) :=
  fM_readIntervals_140 N k14 N l1 l2 l3 l4 l5 l6 l8 μ
def fM_readIntervals_130 (N : Nat) (k14 : Int32 → Int32 → Int32 → Int32 → Int32 → Int32 → me_M → Option (Int32 × me_M)) (l1 : Int32) (l2 : Int32) (l3 : Int32) (l4 : Int32) (l5 : Int32) (l6 : Int32) (l8 : Int32) (μ : me_M) : Option (Int32 × me_M) :=
  fM_readIntervals_136 N k14 l1 l2 l3 l4 l5 l6 l8 (me_wi μ 112 0 (7 : Int32))
def fM_readIntervals_79 (N : Nat) (k14 : Int32 → Int32 → Int32 → Int32 → Int32 → Int32 → me_M → Option (Int32 × me_M)) (l1 : Int32) (l2 : Int32) (l3 : Int32) (l4 : Int32) (l6 : Int32) (l8 : Int32) (μ : me_M) : Option (Int32 × me_M) :=
  (fM_nextGamma N μ).bind fun r4 =>
  if (r4.2.1 112 0) = 0 then
    if ((r4.2.1 100 0) - (1 : Int32)) < ((l8 + (r4.1 + (r4.2.1 107 0))) - (1 : Int32)) then
      fM_readIntervals_130 N k14 l1 l2 l3 (l4 + (r4.1 + (r4.2.1 107 0))) ((l8 + (r4.1 + (r4.2.1 107 0))) - (1 : Int32)) l6 l8 r4.2
    else
      if (l4 + (r4.1 + (r4.2.1 107 0))) ≤ l2 then
        fM_readIntervals_136 N k14 l1 l2 l3 (l4 + (r4.1 + (r4.2.1 107 0))) ((l8 + (r4.1 + (r4.2.1 107 0))) - (1 : Int32)) l6 l8 r4.2
      else
        fM_readIntervals_130 N k14 l1 l2 l3 (l4 + (r4.1 + (r4.2.1 107 0))) ((l8 + (r4.1 + (r4.2.1 107 0))) - (1 : Int32)) l6 l8 r4.2
  else
    fM_readIntervals_136 N k14 l1 l2 l3 (l4 + (r4.1 + (r4.2.1 107 0))) ((l8 + (r4.1 + (r4.2.1 107 0))) - (1 : Int32)) l6 l8 r4.2
def fM_readIntervals_55 (N : Nat) (k14 : Int32 → Int32 → Int32 → Int32 → Int32 → Int32 → me_M → Option (Int32 × me_M)) (l1 : Int32) (l2 : Int32) (l3 : Int32) (l4 : Int32) (l6 : Int32) (s0 : Int32) (μ : me_M) : Option (Int32 × me_M) :=
  if (μ.1 112 0) = 0 then
    (fM_node N μ s0).bind fun r9 =>
    if r9 = 0 then
      fM_readIntervals_79 N k14 l1 l2 l3 l4 l6 s0 (me_wi μ 112 0 (7 : Int32))
    else
      fM_readIntervals_79 N k14 l1 l2 l3 l4 l6 s0 μ
  else
    fM_readIntervals_79 N k14 l1 l2 l3 l4 l6 s0 μ
def fM_readIntervals_14b (N : Nat) (k14 : Int32 → Int32 → Int32 → Int32 → Int32 → Int32 → me_M → Option (Int32 × me_M)) (l1 : Int32) (l2 : Int32) (l3 : Int32) (l4 : Int32) (l5 : Int32) (l6 : Int32) (μ : me_M) : Option (Int32 × me_M) :=
  if l3 ≤ l6 then
    fM_readIntervals_172 N l4 μ
  else
    if (μ.1 112 0) = 0 then
      (fM_nextGamma N μ).bind fun r13 =>
      if l6 = 0 then
        (fM_whole N r13.1).bind fun r15 =>
        fM_readIntervals_55 N k14 l1 l2 l3 l4 l6 (l1 + r15) r13.2
      else
        fM_readIntervals_55 N k14 l1 l2 l3 l4 l6 ((l5 + (2 : Int32)) + r13.1) r13.2
    else
      fM_readIntervals_172 N l4 μ
def fM_readIntervals_14 (N : Nat) (F : Nat) : Int32 → Int32 → Int32 → Int32 → Int32 → Int32 → me_M → Option (Int32 × me_M) := Nat.rec (motive := fun _ => Int32 → Int32 → Int32 → Int32 → Int32 → Int32 → me_M → Option (Int32 × me_M)) (fun _ _ _ _ _ _ _ => none) (fun _ k14 => fM_readIntervals_14b N k14) F
def fM_readIntervals (N : Nat) (l1 : Int32) (l2 : Int32) (μ : me_M) : Option (Int32 × me_M) :=
  (fM_nextGamma N μ).bind fun r16 =>
  fM_readIntervals_14 N N l1 l2 r16.1 (0 : Int32) (0 : Int32) (0 : Int32) r16.2
def fM_readParts_273 (N : Nat) (μ : me_M) : Option me_M :=
  some μ
def fM_readParts_263 (N : Nat) (k184 : Int32 → Int32 → Int32 → Int32 → me_M → Option me_M) (l1 : Int32) (l5 : Int32) (l7 : Int32) (l9 : Int32) (μ : me_M) : Option me_M :=
  k184 l1 l5 l9 (l7 + (1 : Int32)) μ
def fM_readParts_250 (N : Nat) (k184 : Int32 → Int32 → Int32 → Int32 → me_M → Option me_M) (l1 : Int32) (l5 : Int32) (l7 : Int32) (l9 : Int32) (μ : me_M) : Option me_M :=
  if (μ.1 112 0) = 0 then
    (fM_take N l9 μ).bind fun r2 =>
    fM_readParts_263 N k184 l1 l5 l7 l9 r2
  else
    fM_readParts_263 N k184 l1 l5 l7 l9 μ
def fM_readParts_226 (N : Nat) (k184 : Int32 → Int32 → Int32 → Int32 → me_M → Option me_M) (l1 : Int32) (l5 : Int32) (l7 : Int32) (s0 : Int32) (μ : me_M) : Option me_M :=
  if (μ.1 112 0) = 0 then
    (fM_node N μ s0).bind fun r4 =>
    if r4 = 0 then
      fM_readParts_250 N k184 l1 l5 l7 s0 (me_wi μ 112 0 (8 : Int32))
    else
      fM_readParts_250 N k184 l1 l5 l7 s0 μ
  else
    fM_readParts_250 N k184 l1 l5 l7 s0 μ
def fM_readParts_184b (N : Nat) (k184 : Int32 → Int32 → Int32 → Int32 → me_M → Option me_M) (l1 : Int32) (l5 : Int32) (l6 : Int32) (l7 : Int32) (μ : me_M) : Option me_M :=
  if l5 ≤ l7 then
    fM_readParts_273 N μ
  else
    if (μ.1 112 0) = 0 then
      (fM_nextZeta N μ).bind fun r8 =>
      if l7 = 0 then
        (fM_whole N r8.1).bind fun r10 =>
        fM_readParts_226 N k184 l1 l5 l7 (l1 + r10) r8.2
      else
        fM_readParts_226 N k184 l1 l5 l7 ((l6 + (1 : Int32)) + r8.1) r8.2
    else
      fM_readParts_273 N μ
def fM_readParts_184 (N : Nat) (F : Nat) : Int32 → Int32 → Int32 → Int32 → me_M → Option me_M := Nat.rec (motive := fun _ => Int32 → Int32 → Int32 → Int32 → me_M → Option me_M) (fun _ _ _ _ _ => none) (fun _ k184 => fM_readParts_184b N k184) F
def fM_readParts_176 (N : Nat) (l1 : Int32) (s0 : Int32) (μ : me_M) : Option me_M :=
  fM_readParts_184 N N l1 s0 (0 : Int32) (0 : Int32) μ
def fM_readParts_153 (N : Nat) (μ : me_M) : Option me_M :=
  some μ
def fM_readParts_130 (N : Nat) (l1 : Int32) (l2 : Int32) (μ : me_M) : Option me_M :=
  (fM_ones N (μ.1 113 0)).bind fun r11 =>
  if 0 < (μ.1 112 0) then
    fM_readParts_153 N μ
  else
    if (l2 - r11) = 0 then
      fM_readParts_153 N μ
    else
      if (μ.1 107 0) ≤ 0 then
        fM_readParts_176 N l1 (l2 - r11) μ
      else
        (fM_readIntervals N l1 (l2 - r11) μ).bind fun r15 =>
        fM_readParts_176 N l1 ((l2 - r11) - r15.1) r15.2
def fM_readParts_83 (N : Nat) (l1 : Int32) (l2 : Int32) (l3 : Int32) (μ : me_M) : Option me_M :=
  if (μ.1 112 0) = 0 then
    if l3 ≤ 0 then
      fM_readParts_130 N l1 l2 μ
    else
      me_gi l1 12 <|
      me_gi (l1 - l3) 12 <|
      me_gi l1 12 <|
      me_gi (l1 - l3) 12 <|
      (fM_readRuns N ((me_wi (me_wi μ 8 l1.toNatClampNeg l3) 9 l1.toNatClampNeg ((1 : Int32) + ((me_wi μ 8 l1.toNatClampNeg l3).1 9 (l1 - l3).toNatClampNeg))).1 6 (l1 - l3).toNatClampNeg) l2 (me_wi (me_wi μ 8 l1.toNatClampNeg l3) 9 l1.toNatClampNeg ((1 : Int32) + ((me_wi μ 8 l1.toNatClampNeg l3).1 9 (l1 - l3).toNatClampNeg)))).bind fun r22 =>
      fM_readParts_130 N l1 l2 r22
  else
    fM_readParts_130 N l1 l2 μ
def fM_readParts_78 (N : Nat) (l1 : Int32) (l2 : Int32) (l3 : Int32) (μ : me_M) : Option me_M :=
  fM_readParts_83 N l1 l2 l3 (me_wi μ 112 0 (5 : Int32))
def fM_readParts_41 (N : Nat) (l1 : Int32) (l2 : Int32) (l3 : Int32) (μ : me_M) : Option me_M :=
  if (μ.1 112 0) = 0 then
    if l3 ≤ 0 then
      fM_readParts_83 N l1 l2 l3 μ
    else
      me_gi (l1 - l3) 12 <|
      if 0 < (μ.1 7 (l1 - l3).toNatClampNeg) then
        fM_readParts_78 N l1 l2 l3 μ
      else
        me_gi (l1 - l3) 12 <|
        if (μ.1 9 (l1 - l3).toNatClampNeg) < (μ.1 106 0) then
          fM_readParts_83 N l1 l2 l3 μ
        else
          fM_readParts_78 N l1 l2 l3 μ
  else
    fM_readParts_83 N l1 l2 l3 μ
def fM_readParts_36 (N : Nat) (l1 : Int32) (l2 : Int32) (l3 : Int32) (μ : me_M) : Option me_M :=
  fM_readParts_41 N l1 l2 l3 (me_wi μ 112 0 (4 : Int32))
def fM_readParts_15 (N : Nat) (l1 : Int32) (l2 : Int32) (s0 : Int32) (μ : me_M) : Option me_M :=
  if (μ.1 112 0) = 0 then
    if (μ.1 105 0) < s0 then
      fM_readParts_36 N l1 l2 s0 μ
    else
      if s0 ≤ l1 then
        fM_readParts_41 N l1 l2 s0 μ
      else
        fM_readParts_36 N l1 l2 s0 μ
  else
    fM_readParts_41 N l1 l2 s0 μ
def fM_readParts (N : Nat) (l1 : Int32) (l2 : Int32) (μ : me_M) : Option me_M :=
  if (μ.1 105 0) ≤ 0 then
    fM_readParts_15 N l1 l2 (0 : Int32) μ
  else
    (fM_nextUnary N μ).bind fun r33 =>
    fM_readParts_15 N l1 l2 r33.1 r33.2
def fM_read_176 (N : Nat) (μ : me_M) : Option me_M :=
  some μ
def fM_read_169 (N : Nat) (k2 : Int32 → me_M → Option me_M) (l1 : Int32) (s1 : Int32) (s2 : Int32) (μ : me_M) : Option me_M :=
  me_gi s1 12 <|
  k2 (l1 + (1 : Int32)) (me_wi μ 6 s1.toNatClampNeg s2)
def fM_read_139 (N : Nat) (k2 : Int32 → me_M → Option me_M) (l1 : Int32) (μ : me_M) : Option me_M :=
  me_gi l1 12 <|
  if ((me_wi μ 7 l1.toNatClampNeg (μ.1 112 0)).1 112 0) ≤ 0 then
    fM_read_169 N k2 l1 l1 ((me_wi μ 7 l1.toNatClampNeg (μ.1 112 0)).1 113 0) (me_wi μ 7 l1.toNatClampNeg (μ.1 112 0))
  else
    fM_read_169 N k2 l1 l1 (0 : Int32) (me_wi μ 7 l1.toNatClampNeg (μ.1 112 0))
def fM_read_111 (N : Nat) (k2 : Int32 → me_M → Option me_M) (l1 : Int32) (μ : me_M) : Option me_M :=
  if (μ.1 112 0) = 0 then
    me_gi (l1 + (1 : Int32)) 13 <|
    if (μ.1 111 0) = (μ.1 3 (l1 + (1 : Int32)).toNatClampNeg) then
      fM_read_139 N k2 l1 μ
    else
      fM_read_139 N k2 l1 (me_wi μ 112 0 (10 : Int32))
  else
    fM_read_139 N k2 l1 μ
def fM_read_91 (N : Nat) (k2 : Int32 → me_M → Option me_M) (l1 : Int32) (μ : me_M) : Option me_M :=
  if (μ.1 112 0) = 0 then
    if (μ.1 114 0) = 0 then
      fM_read_111 N k2 l1 μ
    else
      fM_read_111 N k2 l1 (me_wi μ 112 0 (9 : Int32))
  else
    fM_read_111 N k2 l1 μ
def fM_read_74 (N : Nat) (k2 : Int32 → me_M → Option me_M) (l1 : Int32) (l2 : Int32) (μ : me_M) : Option me_M :=
  if (μ.1 112 0) = 0 then
    if l2 ≤ 0 then
      fM_read_91 N k2 l1 μ
    else
      (fM_readParts N l1 l2 μ).bind fun r11 =>
      fM_read_91 N k2 l1 r11
  else
    fM_read_91 N k2 l1 μ
def fM_read_2b (N : Nat) (k2 : Int32 → me_M → Option me_M) (l1 : Int32) (μ : me_M) : Option me_M :=
  if (μ.1 100 0) ≤ l1 then
    fM_read_176 N μ
  else
    me_gi l1 13 <|
    me_gi l1 12 <|
    me_gi l1 12 <|
    (fM_nextGamma N (me_wi (me_wi (me_wi (me_wi (me_wi (me_wi μ 111 0 (μ.1 3 l1.toNatClampNeg)) 112 0 (0 : Int32)) 113 0 (0 : Int32)) 114 0 (0 : Int32)) 8 l1.toNatClampNeg (0 : Int32)) 9 l1.toNatClampNeg (0 : Int32))).bind fun r16 =>
    if (r16.2.1 112 0) = 0 then
      if r16.1 ≤ (r16.2.1 100 0) then
        fM_read_74 N k2 l1 r16.1 r16.2
      else
        fM_read_74 N k2 l1 r16.1 (me_wi r16.2 112 0 (3 : Int32))
    else
      fM_read_74 N k2 l1 r16.1 r16.2
def fM_read_2 (N : Nat) (F : Nat) : Int32 → me_M → Option me_M := Nat.rec (motive := fun _ => Int32 → me_M → Option me_M) (fun _ _ => none) (fun _ k2 => fM_read_2b N k2) F
def fM_read (N : Nat) (μ : me_M) : Option me_M :=
  fM_read_2 N N (0 : Int32) μ
def fM_degree_43 (N : Nat) (s0 : Int32) (μ : me_M) : Option (Int32 × me_M) :=
  some (s0, μ)
def fM_degree (N : Nat) (l1 : Int32) (μ : me_M) : Option (Int32 × me_M) :=
  (fM_node N μ l1).bind fun r1 =>
  if r1 = 0 then
    some ((-100 : Int32), μ)
  else
    (fM_read N μ).bind fun r3 =>
    me_gi l1 12 <|
    if (r3.1 7 l1.toNatClampNeg) ≤ 0 then
      me_gi l1 12 <|
      (fM_ones N (r3.1 6 l1.toNatClampNeg)).bind fun r7 =>
      fM_degree_43 N r7 r3
    else
      me_gi l1 12 <|
      fM_degree_43 N (-(r3.1 7 l1.toNatClampNeg)) r3
def fM_successor_64 (N : Nat) (μ : me_M) : Option (Int32 × me_M) :=
  some ((-1 : Int32), μ)
def fM_successor_58 (N : Nat) (k23 : Int32 → Int32 → Int32 → Int32 → me_M → Option (Int32 × me_M)) (l1 : Int32) (l2 : Int32) (l3 : Int32) (l4 : Int32) (μ : me_M) : Option (Int32 × me_M) :=
  k23 l1 l2 l3 (l4 + (1 : Int32)) μ
def fM_successor_23b (N : Nat) (k23 : Int32 → Int32 → Int32 → Int32 → me_M → Option (Int32 × me_M)) (l1 : Int32) (l2 : Int32) (l3 : Int32) (l4 : Int32) (μ : me_M) : Option (Int32 × me_M) :=
  if (μ.1 100 0) ≤ l4 then
    fM_successor_64 N μ
  else
    me_gi l1 12 <|
    if (((μ.1 6 l1.toNatClampNeg) >>> (l4 &&& 31)) &&& (1 : Int32)) = (1 : Int32) then
      if l3 = l2 then
        some (l4, μ)
      else
        fM_successor_58 N k23 l1 l2 (l3 + (1 : Int32)) l4 μ
    else
      fM_successor_58 N k23 l1 l2 l3 l4 μ
def fM_successor_23 (N : Nat) (F : Nat) : Int32 → Int32 → Int32 → Int32 → me_M → Option (Int32 × me_M) := Nat.rec (motive := fun _ => Int32 → Int32 → Int32 → Int32 → me_M → Option (Int32 × me_M)) (fun _ _ _ _ _ => none) (fun _ k23 => fM_successor_23b N k23) F
def fM_successor_12 (N : Nat) (μ : me_M) : Option (Int32 × me_M) :=
  some ((-1 : Int32), μ)
def fM_successor (N : Nat) (l1 : Int32) (l2 : Int32) (μ : me_M) : Option (Int32 × me_M) :=
  (fM_node N μ l1).bind fun r5 =>
  if r5 = 0 then
    fM_successor_12 N μ
  else
    if 0 ≤ l2 then
      (fM_read N μ).bind fun r8 =>
      fM_successor_23 N N l1 l2 (0 : Int32) (0 : Int32) r8
    else
      fM_successor_12 N μ
def fM_reference_33 (N : Nat) (s0 : Int32) (μ : me_M) : Option (Int32 × me_M) :=
  some (s0, μ)
def fM_reference (N : Nat) (l1 : Int32) (μ : me_M) : Option (Int32 × me_M) :=
  (fM_node N μ l1).bind fun r1 =>
  if r1 = 0 then
    some ((-1 : Int32), μ)
  else
    (fM_read N μ).bind fun r3 =>
    me_gi l1 12 <|
    if (r3.1 7 l1.toNatClampNeg) ≤ 0 then
      me_gi l1 12 <|
      fM_reference_33 N (r3.1 8 l1.toNatClampNeg) r3
    else
      fM_reference_33 N (-1 : Int32) r3
def fM_together_56 (N : Nat) (μ : me_M) (l2 : Int32) : Option Int32 :=
  some l2
def fM_together_48 (N : Nat) (μ : me_M) (k4 : Int32 → Int32 → Int32 → Option Int32) (l1 : Int32) (l3 : Int32) (s0 : Int32) (s1 : Int32) : Option Int32 :=
  k4 l1 (s0 ||| s1) (l3 + (1 : Int32))
def fM_together_47 (N : Nat) (μ : me_M) (k4 : Int32 → Int32 → Int32 → Option Int32) (l1 : Int32) (l3 : Int32) (s0 : Int32) : Option Int32 :=
  fM_together_48 N μ k4 l1 l3 s0 (0 : Int32)
def fM_together_4b (N : Nat) (μ : me_M) (k4 : Int32 → Int32 → Int32 → Option Int32) (l1 : Int32) (l2 : Int32) (l3 : Int32) : Option Int32 :=
  if (μ.1 100 0) ≤ l3 then
    fM_together_56 N μ l2
  else
    me_gi l1 12 <|
    if (((μ.1 14 l1.toNatClampNeg) >>> (l3 &&& 31)) &&& (1 : Int32)) = (1 : Int32) then
      me_gi l3 12 <|
      if (((μ.1 14 l3.toNatClampNeg) >>> (l1 &&& 31)) &&& (1 : Int32)) = (1 : Int32) then
        fM_together_48 N μ k4 l1 l3 l2 ((1 : Int32) <<< (l3 &&& 31))
      else
        fM_together_47 N μ k4 l1 l3 l2
    else
      fM_together_47 N μ k4 l1 l3 l2
def fM_together_4 (N : Nat) (μ : me_M) (F : Nat) : Int32 → Int32 → Int32 → Option Int32 := Nat.rec (motive := fun _ => Int32 → Int32 → Int32 → Option Int32) (fun _ _ _ => none) (fun _ k4 => fM_together_4b N μ k4) F
def fM_together (N : Nat) (μ : me_M) (l1 : Int32) : Option Int32 :=
  fM_together_4 N μ N l1 (0 : Int32) (0 : Int32)
def fM_firstReady_91 (N : Nat) (μ : me_M) : Option Int32 :=
  some (-1 : Int32)
def fM_firstReady_85 (N : Nat) (μ : me_M) (k2 : Int32 → Int32 → Option Int32) (l1 : Int32) (l2 : Int32) : Option Int32 :=
  k2 l1 (l2 + (1 : Int32))
def fM_firstReady_72 (N : Nat) (μ : me_M) (k2 : Int32 → Int32 → Option Int32) (l1 : Int32) (l2 : Int32) (l3 : Int32) (l4 : Int32) : Option Int32 :=
  if (l4 &&& ((l3 ||| l1) ^^^ (-1 : Int32))) = 0 then
    some l2
  else
    fM_firstReady_85 N μ k2 l1 l2
def fM_firstReady_63 (N : Nat) (μ : me_M) (k2 : Int32 → Int32 → Option Int32) (k31 : Int32 → Int32 → Int32 → Int32 → Int32 → Option Int32) (l1 : Int32) (l2 : Int32) (l3 : Int32) (l5 : Int32) (s0 : Int32) (s1 : Int32) : Option Int32 :=
  k31 l1 l2 l3 (s0 ||| s1) (l5 + (1 : Int32))
def fM_firstReady_31b (N : Nat) (μ : me_M) (k2 : Int32 → Int32 → Option Int32) (k31 : Int32 → Int32 → Int32 → Int32 → Int32 → Option Int32) (l1 : Int32) (l2 : Int32) (l3 : Int32) (l4 : Int32) (l5 : Int32) : Option Int32 :=
  if (μ.1 100 0) ≤ l5 then
    fM_firstReady_72 N μ k2 l1 l2 l3 l4
  else
    if ((l3 >>> (l5 &&& 31)) &&& (1 : Int32)) = (1 : Int32) then
      me_gi l5 12 <|
      fM_firstReady_63 N μ k2 k31 l1 l2 l3 l5 l4 (μ.1 6 l5.toNatClampNeg)
    else
      fM_firstReady_63 N μ k2 k31 l1 l2 l3 l5 l4 (0 : Int32)
def fM_firstReady_31 (N : Nat) (μ : me_M) (k2 : Int32 → Int32 → Option Int32) (F : Nat) : Int32 → Int32 → Int32 → Int32 → Int32 → Option Int32 := Nat.rec (motive := fun _ => Int32 → Int32 → Int32 → Int32 → Int32 → Option Int32) (fun _ _ _ _ _ => none) (fun _ k31 => fM_firstReady_31b N μ k2 k31) F
def fM_firstReady_2b (N : Nat) (μ : me_M) (k2 : Int32 → Int32 → Option Int32) (l1 : Int32) (l2 : Int32) : Option Int32 :=
  if (μ.1 100 0) ≤ l2 then
    fM_firstReady_91 N μ
  else
    me_gi l2 12 <|
    if 0 ≤ (μ.1 15 l2.toNatClampNeg) then
      fM_firstReady_85 N μ k2 l1 l2
    else
      (fM_together N μ l2).bind fun r8 =>
      fM_firstReady_31 N μ k2 N l1 l2 r8 (0 : Int32) (0 : Int32)
def fM_firstReady_2 (N : Nat) (μ : me_M) (F : Nat) : Int32 → Int32 → Option Int32 := Nat.rec (motive := fun _ => Int32 → Int32 → Option Int32) (fun _ _ => none) (fun _ k2 => fM_firstReady_2b N μ k2) F
def fM_firstReady (N : Nat) (μ : me_M) (l1 : Int32) : Option Int32 :=
  fM_firstReady_2 N μ N l1 (0 : Int32)
def fM_count_213 (N : Nat) (μ : me_M) : Option me_M :=
  some μ
def fM_count_207 (N : Nat) (k117 : Int32 → Int32 → me_M → Option me_M) (l1 : Int32) (l2 : Int32) (μ : me_M) : Option me_M :=
  k117 l1 (l2 + (1 : Int32)) μ
def fM_count_192 (N : Nat) (k117 : Int32 → Int32 → me_M → Option me_M) (l1 : Int32) (l2 : Int32) (l4 : Int32) (μ : me_M) : Option me_M :=
  fM_count_207 N k117 (l1 ||| l4) l2 (me_wi μ 128 0 ((μ.1 128 0) + (1 : Int32)))
def fM_count_185 (N : Nat) (k117 : Int32 → Int32 → me_M → Option me_M) (k145 : Int32 → Int32 → Int32 → Int32 → me_M → Option me_M) (l1 : Int32) (l2 : Int32) (l4 : Int32) (l5 : Int32) (s1 : Int32) (s2 : Int32) (μ : me_M) : Option me_M :=
  me_gi s1 12 <|
  k145 l1 l2 l4 (l5 + (1 : Int32)) (me_wi μ 15 s1.toNatClampNeg s2)
def fM_count_145b (N : Nat) (k117 : Int32 → Int32 → me_M → Option me_M) (k145 : Int32 → Int32 → Int32 → Int32 → me_M → Option me_M) (l1 : Int32) (l2 : Int32) (l4 : Int32) (l5 : Int32) (μ : me_M) : Option me_M :=
  if (μ.1 100 0) ≤ l5 then
    fM_count_192 N k117 l1 l2 l4 μ
  else
    if ((l4 >>> (l5 &&& 31)) &&& (1 : Int32)) = (1 : Int32) then
      fM_count_185 N k117 k145 l1 l2 l4 l5 l5 (μ.1 128 0) μ
    else
      me_gi l5 12 <|
      fM_count_185 N k117 k145 l1 l2 l4 l5 l5 (μ.1 15 l5.toNatClampNeg) μ
def fM_count_145 (N : Nat) (k117 : Int32 → Int32 → me_M → Option me_M) (F : Nat) : Int32 → Int32 → Int32 → Int32 → me_M → Option me_M := Nat.rec (motive := fun _ => Int32 → Int32 → Int32 → Int32 → me_M → Option me_M) (fun _ _ _ _ _ => none) (fun _ k145 => fM_count_145b N k117 k145) F
def fM_count_117b (N : Nat) (k117 : Int32 → Int32 → me_M → Option me_M) (l1 : Int32) (l2 : Int32) (μ : me_M) : Option me_M :=
  if (μ.1 100 0) ≤ l2 then
    fM_count_213 N μ
  else
    (fM_firstReady N μ l1).bind fun r6 =>
    if r6 < 0 then
      fM_count_207 N k117 l1 l2 μ
    else
      (fM_together N μ r6).bind fun r8 =>
      fM_count_145 N k117 N l1 l2 r8 (0 : Int32) μ
def fM_count_117 (N : Nat) (F : Nat) : Int32 → Int32 → me_M → Option me_M := Nat.rec (motive := fun _ => Int32 → Int32 → me_M → Option me_M) (fun _ _ _ => none) (fun _ k117 => fM_count_117b N k117) F
def fM_count_108 (N : Nat) (μ : me_M) : Option me_M :=
  fM_count_117 N N (0 : Int32) (0 : Int32) (me_wi μ 128 0 (0 : Int32))
def fM_count_102 (N : Nat) (k45 : Int32 → me_M → Option me_M) (l1 : Int32) (μ : me_M) : Option me_M :=
  k45 (l1 + (1 : Int32)) μ
def fM_count_94 (N : Nat) (k45 : Int32 → me_M → Option me_M) (k55 : Int32 → Int32 → me_M → Option me_M) (l1 : Int32) (l2 : Int32) (s1 : Int32) (s2 : Int32) (s3 : Int32) (μ : me_M) : Option me_M :=
  me_gi s1 12 <|
  k55 l1 (l2 + (1 : Int32)) (me_wi μ 14 s1.toNatClampNeg (s2 ||| s3))
def fM_count_55b (N : Nat) (k45 : Int32 → me_M → Option me_M) (k55 : Int32 → Int32 → me_M → Option me_M) (l1 : Int32) (l2 : Int32) (μ : me_M) : Option me_M :=
  if (μ.1 100 0) ≤ l2 then
    fM_count_102 N k45 l1 μ
  else
    me_gi l2 12 <|
    me_gi l2 12 <|
    if (((μ.1 14 l2.toNatClampNeg) >>> (l1 &&& 31)) &&& (1 : Int32)) = (1 : Int32) then
      me_gi l1 12 <|
      fM_count_94 N k45 k55 l1 l2 l2 (μ.1 14 l2.toNatClampNeg) (μ.1 14 l1.toNatClampNeg) μ
    else
      fM_count_94 N k45 k55 l1 l2 l2 (μ.1 14 l2.toNatClampNeg) (0 : Int32) μ
def fM_count_55 (N : Nat) (k45 : Int32 → me_M → Option me_M) (F : Nat) : Int32 → Int32 → me_M → Option me_M := Nat.rec (motive := fun _ => Int32 → Int32 → me_M → Option me_M) (fun _ _ _ => none) (fun _ k55 => fM_count_55b N k45 k55) F
def fM_count_45b (N : Nat) (k45 : Int32 → me_M → Option me_M) (l1 : Int32) (μ : me_M) : Option me_M :=
  if (μ.1 100 0) ≤ l1 then
    fM_count_108 N μ
  else
    fM_count_55 N k45 N l1 (0 : Int32) μ
def fM_count_45 (N : Nat) (F : Nat) : Int32 → me_M → Option me_M := Nat.rec (motive := fun _ => Int32 → me_M → Option me_M) (fun _ _ => none) (fun _ k45 => fM_count_45b N k45) F
def fM_count_43 (N : Nat) (μ : me_M) : Option me_M :=
  fM_count_45 N N (0 : Int32) μ
def fM_count_6b (N : Nat) (k6 : Int32 → me_M → Option me_M) (l1 : Int32) (μ : me_M) : Option me_M :=
  if (μ.1 100 0) ≤ l1 then
    fM_count_43 N μ
  else
    me_gi l1 12 <|
    me_gi l1 12 <|
    me_gi l1 12 <|
    k6 (l1 + (1 : Int32)) (me_wi (me_wi μ 14 l1.toNatClampNeg ((μ.1 6 l1.toNatClampNeg) ||| ((1 : Int32) <<< (l1 &&& 31)))) 15 l1.toNatClampNeg (-1 : Int32))
def fM_count_6 (N : Nat) (F : Nat) : Int32 → me_M → Option me_M := Nat.rec (motive := fun _ => Int32 → me_M → Option me_M) (fun _ _ => none) (fun _ k6 => fM_count_6b N k6) F
def fM_count (N : Nat) (μ : me_M) : Option me_M :=
  (fM_read N μ).bind fun r20 =>
  fM_count_6 N N (0 : Int32) r20
def fM_components (N : Nat) (μ : me_M) : Option (Int32 × me_M) :=
  (fM_count N μ).bind fun r1 =>
  some (r1.1 128 0, r1)
def fM_component (N : Nat) (l1 : Int32) (μ : me_M) : Option (Int32 × me_M) :=
  (fM_node N μ l1).bind fun r1 =>
  if r1 = 0 then
    some ((-1 : Int32), μ)
  else
    (fM_count N μ).bind fun r3 =>
    me_gi l1 12 <|
    some (r3.1 15 l1.toNatClampNeg, r3)
def fM_total_27 (N : Nat) (μ : me_M) (l1 : Int32) : Option Int32 :=
  some l1
def fM_total_4b (N : Nat) (μ : me_M) (k4 : Int32 → Int32 → Option Int32) (l1 : Int32) (l2 : Int32) : Option Int32 :=
  if (μ.1 100 0) ≤ l2 then
    fM_total_27 N μ l1
  else
    me_gi l2 12 <|
    k4 (l1 + (μ.1 10 l2.toNatClampNeg)) (l2 + (1 : Int32))
def fM_total_4 (N : Nat) (μ : me_M) (F : Nat) : Int32 → Int32 → Option Int32 := Nat.rec (motive := fun _ => Int32 → Int32 → Option Int32) (fun _ _ => none) (fun _ k4 => fM_total_4b N μ k4) F
def fM_total (N : Nat) (μ : me_M) : Option Int32 :=
  fM_total_4 N μ N (0 : Int32) (0 : Int32)
def fM_prefer_37 (N : Nat) (l1 : Int32) (l2 : Int32) (μ : me_M) : Option (Int32 × me_M) :=
  me_gi l1 12 <|
  me_gz (1 : Int32) <|
  some ((1 : Int32), me_wi μ 10 l1.toNatClampNeg l2)
def fM_prefer_35 (N : Nat) (μ : me_M) : Option (Int32 × me_M) :=
  me_gz (0 : Int32) <|
  some ((0 : Int32), μ)
def fM_prefer (N : Nat) (l1 : Int32) (l2 : Int32) (μ : me_M) : Option (Int32 × me_M) :=
  (fM_node N μ l1).bind fun r4 =>
  if r4 = 0 then
    fM_prefer_35 N μ
  else
    if l2 < 0 then
      fM_prefer_35 N μ
    else
      if (100 : Int32) < l2 then
        fM_prefer_35 N μ
      else
        if l2 = 0 then
          (fM_total N μ).bind fun r9 =>
          me_gi l1 12 <|
          if r9 = (μ.1 10 l1.toNatClampNeg) then
            fM_prefer_35 N μ
          else
            fM_prefer_37 N l1 l2 μ
        else
          fM_prefer_37 N l1 l2 μ
def fM_links_19 (N : Nat) (μ : me_M) (s0 : Int32) : Option Int32 :=
  me_gz s0 <|
  some s0
def fM_links (N : Nat) (μ : me_M) (l1 : Int32) (l2 : Int32) : Option Int32 :=
  me_gi l1 12 <|
  if (((μ.1 6 l1.toNatClampNeg) >>> (l2 &&& 31)) &&& (1 : Int32)) = (1 : Int32) then
    fM_links_19 N μ (1 : Int32)
  else
    fM_links_19 N μ (0 : Int32)
def fM_into_35 (N : Nat) (μ : me_M) (l2 : Int32) : Option Int32 :=
  some l2
def fM_into_27 (N : Nat) (μ : me_M) (k4 : Int32 → Int32 → Int32 → Option Int32) (l1 : Int32) (l3 : Int32) (s0 : Int32) (s1 : Int32) : Option Int32 :=
  k4 l1 (s0 + s1) (l3 + (1 : Int32))
def fM_into_4b (N : Nat) (μ : me_M) (k4 : Int32 → Int32 → Int32 → Option Int32) (l1 : Int32) (l2 : Int32) (l3 : Int32) : Option Int32 :=
  if (μ.1 100 0) ≤ l3 then
    fM_into_35 N μ l2
  else
    (fM_links N μ l3 l1).bind fun r2 =>
    if r2 = 0 then
      fM_into_27 N μ k4 l1 l3 l2 (0 : Int32)
    else
      fM_into_27 N μ k4 l1 l3 l2 (1 : Int32)
def fM_into_4 (N : Nat) (μ : me_M) (F : Nat) : Int32 → Int32 → Int32 → Option Int32 := Nat.rec (motive := fun _ => Int32 → Int32 → Int32 → Option Int32) (fun _ _ _ => none) (fun _ k4 => fM_into_4b N μ k4) F
def fM_into (N : Nat) (μ : me_M) (l1 : Int32) : Option Int32 :=
  fM_into_4 N μ N l1 (0 : Int32) (0 : Int32)
def fM_stepRank_185 (N : Nat) (μ : me_M) : Option me_M :=
  some μ
def fM_stepRank_122 (N : Nat) (k53 : Int64 → Int64 → Int32 → me_M → Option me_M) (l1 : Int64) (l3 : Int64) (l5 : Int32) (l6 : Int64) (μ : me_M) : Option me_M :=
  me_gi l5 12 <|
  me_gd l1 0 <|
  me_gi l5 12 <|
  me_gd l1 0 <|
  me_gi l5 12 <|
  k53 l1 l3 (l5 + (1 : Int32)) (me_wl μ 13 l5.toNatClampNeg (((((((1000 : Int32) - (μ.1 121 0)).toInt64) * (1000000000 : Int64)) * ((μ.1 10 l5.toNatClampNeg).toInt64)) / l1) + ((((μ.1 121 0).toInt64) * (l6 + ((l3 * ((μ.1 10 l5.toNatClampNeg).toInt64)) / l1))) / (1000 : Int64))))
def fM_stepRank_113 (N : Nat) (k53 : Int64 → Int64 → Int32 → me_M → Option me_M) (k68 : Int64 → Int64 → Int32 → Int64 → Int32 → me_M → Option me_M) (l1 : Int64) (l3 : Int64) (l5 : Int32) (l8 : Int32) (s0 : Int64) (s1 : Int64) (μ : me_M) : Option me_M :=
  k68 l1 l3 l5 (s0 + s1) (l8 + (1 : Int32)) μ
def fM_stepRank_68b (N : Nat) (k53 : Int64 → Int64 → Int32 → me_M → Option me_M) (k68 : Int64 → Int64 → Int32 → Int64 → Int32 → me_M → Option me_M) (l1 : Int64) (l3 : Int64) (l5 : Int32) (l6 : Int64) (l8 : Int32) (μ : me_M) : Option me_M :=
  if (μ.1 100 0) ≤ l8 then
    fM_stepRank_122 N k53 l1 l3 l5 l6 μ
  else
    (fM_links N μ l8 l5).bind fun r8 =>
    if r8 = 0 then
      fM_stepRank_113 N k53 k68 l1 l3 l5 l8 l6 (0 : Int64) μ
    else
      me_gi l8 12 <|
      me_gi l8 12 <|
      (fM_ones N (μ.1 6 l8.toNatClampNeg)).bind fun r12 =>
      me_gd r12.toInt64 0 <|
      fM_stepRank_113 N k53 k68 l1 l3 l5 l8 l6 ((μ.2 11 l8.toNatClampNeg) / r12.toInt64) μ
def fM_stepRank_68 (N : Nat) (k53 : Int64 → Int64 → Int32 → me_M → Option me_M) (F : Nat) : Int64 → Int64 → Int32 → Int64 → Int32 → me_M → Option me_M := Nat.rec (motive := fun _ => Int64 → Int64 → Int32 → Int64 → Int32 → me_M → Option me_M) (fun _ _ _ _ _ _ => none) (fun _ k68 => fM_stepRank_68b N k53 k68) F
def fM_stepRank_53b (N : Nat) (k53 : Int64 → Int64 → Int32 → me_M → Option me_M) (l1 : Int64) (l3 : Int64) (l5 : Int32) (μ : me_M) : Option me_M :=
  if (μ.1 100 0) ≤ l5 then
    fM_stepRank_185 N μ
  else
    fM_stepRank_68 N k53 N l1 l3 l5 (0 : Int64) (0 : Int32) μ
def fM_stepRank_53 (N : Nat) (F : Nat) : Int64 → Int64 → Int32 → me_M → Option me_M := Nat.rec (motive := fun _ => Int64 → Int64 → Int32 → me_M → Option me_M) (fun _ _ _ _ => none) (fun _ k53 => fM_stepRank_53b N k53) F
def fM_stepRank_50 (N : Nat) (l1 : Int64) (l3 : Int64) (μ : me_M) : Option me_M :=
  fM_stepRank_53 N N l1 l3 (0 : Int32) μ
def fM_stepRank_42 (N : Nat) (k11 : Int64 → Int64 → Int32 → me_M → Option me_M) (l1 : Int64) (l5 : Int32) (s0 : Int64) (s1 : Int64) (μ : me_M) : Option me_M :=
  k11 l1 (s0 + s1) (l5 + (1 : Int32)) μ
def fM_stepRank_11b (N : Nat) (k11 : Int64 → Int64 → Int32 → me_M → Option me_M) (l1 : Int64) (l3 : Int64) (l5 : Int32) (μ : me_M) : Option me_M :=
  if (μ.1 100 0) ≤ l5 then
    fM_stepRank_50 N l1 l3 μ
  else
    me_gi l5 12 <|
    if (μ.1 6 l5.toNatClampNeg) = 0 then
      me_gi l5 12 <|
      fM_stepRank_42 N k11 l1 l5 l3 (μ.2 11 l5.toNatClampNeg) μ
    else
      fM_stepRank_42 N k11 l1 l5 l3 (0 : Int64) μ
def fM_stepRank_11 (N : Nat) (F : Nat) : Int64 → Int64 → Int32 → me_M → Option me_M := Nat.rec (motive := fun _ => Int64 → Int64 → Int32 → me_M → Option me_M) (fun _ _ _ _ => none) (fun _ k11 => fM_stepRank_11b N k11) F
def fM_stepRank (N : Nat) (μ : me_M) : Option me_M :=
  (fM_total N μ).bind fun r19 =>
  fM_stepRank_11 N N r19.toInt64 (0 : Int64) (0 : Int32) μ
def fM_bring_128 (N : Nat) (μ : me_M) : Option me_M :=
  some μ
def fM_bring_122 (N : Nat) (k60 : Int32 → Int64 → Int32 → me_M → Option me_M) (l1 : Int32) (l2 : Int64) (l4 : Int32) (μ : me_M) : Option me_M :=
  k60 l1 l2 (l4 + (1 : Int32)) μ
def fM_bring_60b (N : Nat) (k60 : Int32 → Int64 → Int32 → me_M → Option me_M) (l1 : Int32) (l2 : Int64) (l4 : Int32) (μ : me_M) : Option me_M :=
  if (μ.1 100 0) ≤ l4 then
    fM_bring_128 N μ
  else
    if (lg_cmp l2 (0 : Int64)) ≤ 0 then
      fM_bring_128 N μ
    else
      if l1 = 0 then
        me_gi l4 12 <|
        me_gd l2 0 <|
        me_gi l4 12 <|
        fM_bring_122 N k60 l1 l2 l4 (me_wl μ 13 l4.toNatClampNeg (((μ.2 13 l4.toNatClampNeg) * (1000000 : Int64)) / l2))
      else
        me_gi l4 12 <|
        me_gd l2 0 <|
        me_gi l4 12 <|
        fM_bring_122 N k60 l1 l2 l4 (me_wl μ 12 l4.toNatClampNeg (((μ.2 12 l4.toNatClampNeg) * (1000000 : Int64)) / l2))
def fM_bring_60 (N : Nat) (F : Nat) : Int32 → Int64 → Int32 → me_M → Option me_M := Nat.rec (motive := fun _ => Int32 → Int64 → Int32 → me_M → Option me_M) (fun _ _ _ _ => none) (fun _ k60 => fM_bring_60b N k60) F
def fM_bring_57 (N : Nat) (l1 : Int32) (l2 : Int64) (μ : me_M) : Option me_M :=
  fM_bring_60 N N l1 l2 (0 : Int32) μ
def fM_bring_50 (N : Nat) (k5 : Int32 → Int64 → Int32 → me_M → Option me_M) (l1 : Int32) (l4 : Int32) (s0 : Int64) (μ : me_M) : Option me_M :=
  k5 l1 s0 (l4 + (1 : Int32)) μ
def fM_bring_35 (N : Nat) (k5 : Int32 → Int64 → Int32 → me_M → Option me_M) (l1 : Int32) (l2 : Int64) (l4 : Int32) (s0 : Int64) (μ : me_M) : Option me_M :=
  if (lg_cmp s0 l2) ≤ 0 then
    fM_bring_50 N k5 l1 l4 l2 μ
  else
    fM_bring_50 N k5 l1 l4 s0 μ
def fM_bring_5b (N : Nat) (k5 : Int32 → Int64 → Int32 → me_M → Option me_M) (l1 : Int32) (l2 : Int64) (l4 : Int32) (μ : me_M) : Option me_M :=
  if (μ.1 100 0) ≤ l4 then
    fM_bring_57 N l1 l2 μ
  else
    if l1 = 0 then
      me_gi l4 12 <|
      fM_bring_35 N k5 l1 l2 l4 (μ.2 13 l4.toNatClampNeg) μ
    else
      me_gi l4 12 <|
      fM_bring_35 N k5 l1 l2 l4 (μ.2 12 l4.toNatClampNeg) μ
def fM_bring_5 (N : Nat) (F : Nat) : Int32 → Int64 → Int32 → me_M → Option me_M := Nat.rec (motive := fun _ => Int32 → Int64 → Int32 → me_M → Option me_M) (fun _ _ _ _ => none) (fun _ k5 => fM_bring_5b N k5) F
def fM_bring (N : Nat) (l1 : Int32) (μ : me_M) : Option me_M :=
  fM_bring_5 N N l1 (0 : Int64) (0 : Int32) μ
def fM_stepHubs_139 (N : Nat) (μ : me_M) : Option me_M :=
  (fM_bring N (1 : Int32) μ).bind fun r1 =>
  some r1
def fM_stepHubs_133 (N : Nat) (k74 : Int32 → me_M → Option me_M) (l1 : Int32) (μ : me_M) : Option me_M :=
  k74 (l1 + (1 : Int32)) μ
def fM_stepHubs_125 (N : Nat) (k74 : Int32 → me_M → Option me_M) (k91 : Int32 → Int32 → me_M → Option me_M) (l1 : Int32) (l2 : Int32) (s1 : Int32) (s2 : Int64) (s3 : Int64) (μ : me_M) : Option me_M :=
  me_gi s1 12 <|
  k91 l1 (l2 + (1 : Int32)) (me_wl μ 12 s1.toNatClampNeg (s2 + s3))
def fM_stepHubs_91b (N : Nat) (k74 : Int32 → me_M → Option me_M) (k91 : Int32 → Int32 → me_M → Option me_M) (l1 : Int32) (l2 : Int32) (μ : me_M) : Option me_M :=
  if (μ.1 100 0) ≤ l2 then
    fM_stepHubs_133 N k74 l1 μ
  else
    me_gi l1 12 <|
    (fM_links N μ l1 l2).bind fun r5 =>
    if r5 = 0 then
      fM_stepHubs_125 N k74 k91 l1 l2 l1 (μ.2 12 l1.toNatClampNeg) (0 : Int64) μ
    else
      me_gi l2 12 <|
      fM_stepHubs_125 N k74 k91 l1 l2 l1 (μ.2 12 l1.toNatClampNeg) (μ.2 13 l2.toNatClampNeg) μ
def fM_stepHubs_91 (N : Nat) (k74 : Int32 → me_M → Option me_M) (F : Nat) : Int32 → Int32 → me_M → Option me_M := Nat.rec (motive := fun _ => Int32 → Int32 → me_M → Option me_M) (fun _ _ _ => none) (fun _ k91 => fM_stepHubs_91b N k74 k91) F
def fM_stepHubs_74b (N : Nat) (k74 : Int32 → me_M → Option me_M) (l1 : Int32) (μ : me_M) : Option me_M :=
  if (μ.1 100 0) ≤ l1 then
    fM_stepHubs_139 N μ
  else
    me_gi l1 12 <|
    fM_stepHubs_91 N k74 N l1 (0 : Int32) (me_wl μ 12 l1.toNatClampNeg (0 : Int64))
def fM_stepHubs_74 (N : Nat) (F : Nat) : Int32 → me_M → Option me_M := Nat.rec (motive := fun _ => Int32 → me_M → Option me_M) (fun _ _ => none) (fun _ k74 => fM_stepHubs_74b N k74) F
def fM_stepHubs_67 (N : Nat) (μ : me_M) : Option me_M :=
  (fM_bring N (0 : Int32) μ).bind fun r10 =>
  fM_stepHubs_74 N N (0 : Int32) r10
def fM_stepHubs_61 (N : Nat) (k2 : Int32 → me_M → Option me_M) (l1 : Int32) (μ : me_M) : Option me_M :=
  k2 (l1 + (1 : Int32)) μ
def fM_stepHubs_53 (N : Nat) (k2 : Int32 → me_M → Option me_M) (k19 : Int32 → Int32 → me_M → Option me_M) (l1 : Int32) (l2 : Int32) (s1 : Int32) (s2 : Int64) (s3 : Int64) (μ : me_M) : Option me_M :=
  me_gi s1 12 <|
  k19 l1 (l2 + (1 : Int32)) (me_wl μ 13 s1.toNatClampNeg (s2 + s3))
def fM_stepHubs_19b (N : Nat) (k2 : Int32 → me_M → Option me_M) (k19 : Int32 → Int32 → me_M → Option me_M) (l1 : Int32) (l2 : Int32) (μ : me_M) : Option me_M :=
  if (μ.1 100 0) ≤ l2 then
    fM_stepHubs_61 N k2 l1 μ
  else
    me_gi l1 12 <|
    (fM_links N μ l2 l1).bind fun r14 =>
    if r14 = 0 then
      fM_stepHubs_53 N k2 k19 l1 l2 l1 (μ.2 13 l1.toNatClampNeg) (0 : Int64) μ
    else
      me_gi l2 12 <|
      fM_stepHubs_53 N k2 k19 l1 l2 l1 (μ.2 13 l1.toNatClampNeg) (μ.2 12 l2.toNatClampNeg) μ
def fM_stepHubs_19 (N : Nat) (k2 : Int32 → me_M → Option me_M) (F : Nat) : Int32 → Int32 → me_M → Option me_M := Nat.rec (motive := fun _ => Int32 → Int32 → me_M → Option me_M) (fun _ _ _ => none) (fun _ k19 => fM_stepHubs_19b N k2 k19) F
def fM_stepHubs_2b (N : Nat) (k2 : Int32 → me_M → Option me_M) (l1 : Int32) (μ : me_M) : Option me_M :=
  if (μ.1 100 0) ≤ l1 then
    fM_stepHubs_67 N μ
  else
    me_gi l1 12 <|
    fM_stepHubs_19 N k2 N l1 (0 : Int32) (me_wl μ 13 l1.toNatClampNeg (0 : Int64))
def fM_stepHubs_2 (N : Nat) (F : Nat) : Int32 → me_M → Option me_M := Nat.rec (motive := fun _ => Int32 → me_M → Option me_M) (fun _ _ => none) (fun _ k2 => fM_stepHubs_2b N k2) F
def fM_stepHubs (N : Nat) (μ : me_M) : Option me_M :=
  fM_stepHubs_2 N N (0 : Int32) μ
def fM_stepShares_152 (N : Nat) (μ : me_M) : Option me_M :=
  some μ
def fM_stepShares_146 (N : Nat) (k76 : Int32 → me_M → Option me_M) (l1 : Int32) (μ : me_M) : Option me_M :=
  k76 (l1 + (1 : Int32)) μ
def fM_stepShares_138 (N : Nat) (k76 : Int32 → me_M → Option me_M) (k93 : Int32 → Int32 → me_M → Option me_M) (l1 : Int32) (l2 : Int32) (s1 : Int32) (s2 : Int64) (s3 : Int64) (μ : me_M) : Option me_M :=
  me_gi s1 12 <|
  k93 l1 (l2 + (1 : Int32)) (me_wl μ 13 s1.toNatClampNeg (s2 + s3))
def fM_stepShares_93b (N : Nat) (k76 : Int32 → me_M → Option me_M) (k93 : Int32 → Int32 → me_M → Option me_M) (l1 : Int32) (l2 : Int32) (μ : me_M) : Option me_M :=
  if (μ.1 100 0) ≤ l2 then
    fM_stepShares_146 N k76 l1 μ
  else
    me_gi l1 12 <|
    (fM_links N μ l2 l1).bind fun r4 =>
    if r4 = 0 then
      fM_stepShares_138 N k76 k93 l1 l2 l1 (μ.2 13 l1.toNatClampNeg) (0 : Int64) μ
    else
      me_gi l2 12 <|
      me_gi l2 12 <|
      (fM_ones N (μ.1 6 l2.toNatClampNeg)).bind fun r8 =>
      me_gd r8.toInt64 0 <|
      fM_stepShares_138 N k76 k93 l1 l2 l1 (μ.2 13 l1.toNatClampNeg) ((μ.2 12 l2.toNatClampNeg) / r8.toInt64) μ
def fM_stepShares_93 (N : Nat) (k76 : Int32 → me_M → Option me_M) (F : Nat) : Int32 → Int32 → me_M → Option me_M := Nat.rec (motive := fun _ => Int32 → Int32 → me_M → Option me_M) (fun _ _ _ => none) (fun _ k93 => fM_stepShares_93b N k76 k93) F
def fM_stepShares_76b (N : Nat) (k76 : Int32 → me_M → Option me_M) (l1 : Int32) (μ : me_M) : Option me_M :=
  if (μ.1 100 0) ≤ l1 then
    fM_stepShares_152 N μ
  else
    me_gi l1 12 <|
    fM_stepShares_93 N k76 N l1 (0 : Int32) (me_wl μ 13 l1.toNatClampNeg (0 : Int64))
def fM_stepShares_76 (N : Nat) (F : Nat) : Int32 → me_M → Option me_M := Nat.rec (motive := fun _ => Int32 → me_M → Option me_M) (fun _ _ => none) (fun _ k76 => fM_stepShares_76b N k76) F
def fM_stepShares_74 (N : Nat) (μ : me_M) : Option me_M :=
  fM_stepShares_76 N N (0 : Int32) μ
def fM_stepShares_68 (N : Nat) (k2 : Int32 → me_M → Option me_M) (l1 : Int32) (μ : me_M) : Option me_M :=
  k2 (l1 + (1 : Int32)) μ
def fM_stepShares_60 (N : Nat) (k2 : Int32 → me_M → Option me_M) (k19 : Int32 → Int32 → me_M → Option me_M) (l1 : Int32) (l2 : Int32) (s1 : Int32) (s2 : Int64) (s3 : Int64) (μ : me_M) : Option me_M :=
  me_gi s1 12 <|
  k19 l1 (l2 + (1 : Int32)) (me_wl μ 12 s1.toNatClampNeg (s2 + s3))
def fM_stepShares_19b (N : Nat) (k2 : Int32 → me_M → Option me_M) (k19 : Int32 → Int32 → me_M → Option me_M) (l1 : Int32) (l2 : Int32) (μ : me_M) : Option me_M :=
  if (μ.1 100 0) ≤ l2 then
    fM_stepShares_68 N k2 l1 μ
  else
    me_gi l1 12 <|
    (fM_links N μ l1 l2).bind fun r15 =>
    if r15 = 0 then
      fM_stepShares_60 N k2 k19 l1 l2 l1 (μ.2 12 l1.toNatClampNeg) (0 : Int64) μ
    else
      me_gi l2 12 <|
      (fM_into N μ l2).bind fun r18 =>
      me_gd r18.toInt64 0 <|
      fM_stepShares_60 N k2 k19 l1 l2 l1 (μ.2 12 l1.toNatClampNeg) ((μ.2 11 l2.toNatClampNeg) / r18.toInt64) μ
def fM_stepShares_19 (N : Nat) (k2 : Int32 → me_M → Option me_M) (F : Nat) : Int32 → Int32 → me_M → Option me_M := Nat.rec (motive := fun _ => Int32 → Int32 → me_M → Option me_M) (fun _ _ _ => none) (fun _ k19 => fM_stepShares_19b N k2 k19) F
def fM_stepShares_2b (N : Nat) (k2 : Int32 → me_M → Option me_M) (l1 : Int32) (μ : me_M) : Option me_M :=
  if (μ.1 100 0) ≤ l1 then
    fM_stepShares_74 N μ
  else
    me_gi l1 12 <|
    fM_stepShares_19 N k2 N l1 (0 : Int32) (me_wl μ 12 l1.toNatClampNeg (0 : Int64))
def fM_stepShares_2 (N : Nat) (F : Nat) : Int32 → me_M → Option me_M := Nat.rec (motive := fun _ => Int32 → me_M → Option me_M) (fun _ _ => none) (fun _ k2 => fM_stepShares_2b N k2) F
def fM_stepShares (N : Nat) (μ : me_M) : Option me_M :=
  fM_stepShares_2 N N (0 : Int32) μ
def fM_step_162 (N : Nat) (l1 : Int32) (μ : me_M) : Option (Int32 × me_M) :=
  some (l1, μ)
def fM_step_143 (N : Nat) (k18 : Int32 → Int32 → me_M → Option (Int32 × me_M)) (l1 : Int32) (l2 : Int32) (μ : me_M) : Option (Int32 × me_M) :=
  if (lg_cmp (μ.2 125 0) (0 : Int64)) = 0 then
    some (l2 + (1 : Int32), μ)
  else
    k18 l1 (l2 + (1 : Int32)) μ
def fM_step_121 (N : Nat) (k18 : Int32 → Int32 → me_M → Option (Int32 × me_M)) (k63 : Int32 → Int32 → Int32 → me_M → Option (Int32 × me_M)) (l1 : Int32) (l2 : Int32) (l3 : Int32) (s1 : Int64) (s2 : Int64) (μ : me_M) : Option (Int32 × me_M) :=
  me_gi l3 12 <|
  me_gi l3 12 <|
  k63 l1 l2 (l3 + (1 : Int32)) (me_wl (me_wl μ 125 0 (s1 + s2)) 11 l3.toNatClampNeg ((me_wl μ 125 0 (s1 + s2)).2 13 l3.toNatClampNeg))
def fM_step_63b (N : Nat) (k18 : Int32 → Int32 → me_M → Option (Int32 × me_M)) (k63 : Int32 → Int32 → Int32 → me_M → Option (Int32 × me_M)) (l1 : Int32) (l2 : Int32) (l3 : Int32) (μ : me_M) : Option (Int32 × me_M) :=
  if (μ.1 100 0) ≤ l3 then
    fM_step_143 N k18 l1 l2 μ
  else
    me_gi l3 12 <|
    me_gi l3 12 <|
    if (lg_cmp (μ.2 13 l3.toNatClampNeg) (μ.2 11 l3.toNatClampNeg)) ≤ 0 then
      me_gi l3 12 <|
      me_gi l3 12 <|
      fM_step_121 N k18 k63 l1 l2 l3 (μ.2 125 0) ((μ.2 11 l3.toNatClampNeg) - (μ.2 13 l3.toNatClampNeg)) μ
    else
      me_gi l3 12 <|
      me_gi l3 12 <|
      fM_step_121 N k18 k63 l1 l2 l3 (μ.2 125 0) ((μ.2 13 l3.toNatClampNeg) - (μ.2 11 l3.toNatClampNeg)) μ
def fM_step_63 (N : Nat) (k18 : Int32 → Int32 → me_M → Option (Int32 × me_M)) (F : Nat) : Int32 → Int32 → Int32 → me_M → Option (Int32 × me_M) := Nat.rec (motive := fun _ => Int32 → Int32 → Int32 → me_M → Option (Int32 × me_M)) (fun _ _ _ _ => none) (fun _ k63 => fM_step_63b N k18 k63) F
def fM_step_56 (N : Nat) (k18 : Int32 → Int32 → me_M → Option (Int32 × me_M)) (l1 : Int32) (l2 : Int32) (μ : me_M) : Option (Int32 × me_M) :=
  fM_step_63 N k18 N l1 l2 (0 : Int32) (me_wl μ 125 0 (0 : Int64))
def fM_step_18b (N : Nat) (k18 : Int32 → Int32 → me_M → Option (Int32 × me_M)) (l1 : Int32) (l2 : Int32) (μ : me_M) : Option (Int32 × me_M) :=
  if l1 ≤ l2 then
    fM_step_162 N l1 μ
  else
    if (μ.1 120 0) = 0 then
      (fM_stepRank N μ).bind fun r17 =>
      fM_step_56 N k18 l1 l2 r17
    else
      if (μ.1 120 0) = (1 : Int32) then
        (fM_stepHubs N μ).bind fun r16 =>
        fM_step_56 N k18 l1 l2 r16
      else
        (fM_stepShares N μ).bind fun r15 =>
        fM_step_56 N k18 l1 l2 r15
def fM_step_18 (N : Nat) (F : Nat) : Int32 → Int32 → me_M → Option (Int32 × me_M) := Nat.rec (motive := fun _ => Int32 → Int32 → me_M → Option (Int32 × me_M)) (fun _ _ _ => none) (fun _ k18 => fM_step_18b N k18) F
def fM_step_10 (N : Nat) (μ : me_M) : Option (Int32 × me_M) :=
  some ((-1 : Int32), μ)
def fM_step (N : Nat) (l1 : Int32) (μ : me_M) : Option (Int32 × me_M) :=
  if l1 < 0 then
    fM_step_10 N μ
  else
    if l1 ≤ (20 : Int32) then
      (fM_read N μ).bind fun r20 =>
      fM_step_18 N N l1 (0 : Int32) r20
    else
      fM_step_10 N μ
def fM_score_20 (N : Nat) (μ : me_M) (s0 : Int64) : Option Int64 :=
  some s0
def fM_score (N : Nat) (μ : me_M) (l1 : Int32) : Option Int64 :=
  (fM_node N μ l1).bind fun r1 =>
  if r1 = 0 then
    fM_score_20 N μ (-1 : Int64)
  else
    me_gi l1 12 <|
    fM_score_20 N μ (μ.2 11 l1.toNatClampNeg)
def fM_hub_20 (N : Nat) (μ : me_M) (s0 : Int64) : Option Int64 :=
  some s0
def fM_hub (N : Nat) (μ : me_M) (l1 : Int32) : Option Int64 :=
  (fM_node N μ l1).bind fun r1 =>
  if r1 = 0 then
    fM_hub_20 N μ (-1 : Int64)
  else
    me_gi l1 12 <|
    fM_hub_20 N μ (μ.2 12 l1.toNatClampNeg)
def fM_top_91 (N : Nat) (μ : me_M) : Option Int32 :=
  some (-1 : Int32)
def fM_top_78 (N : Nat) (μ : me_M) (k2 : Int32 → Int32 → Option Int32) (l1 : Int32) (l2 : Int32) (l3 : Int32) : Option Int32 :=
  if l3 = l1 then
    some l2
  else
    k2 l1 (l2 + (1 : Int32))
def fM_top_70 (N : Nat) (μ : me_M) (k2 : Int32 → Int32 → Option Int32) (k15 : Int32 → Int32 → Int32 → Int32 → Option Int32) (l1 : Int32) (l2 : Int32) (l4 : Int32) (s0 : Int32) (s1 : Int32) : Option Int32 :=
  k15 l1 l2 (s0 + s1) (l4 + (1 : Int32))
def fM_top_69 (N : Nat) (μ : me_M) (k2 : Int32 → Int32 → Option Int32) (k15 : Int32 → Int32 → Int32 → Int32 → Option Int32) (l1 : Int32) (l2 : Int32) (l4 : Int32) (s0 : Int32) : Option Int32 :=
  fM_top_70 N μ k2 k15 l1 l2 l4 s0 (0 : Int32)
def fM_top_65 (N : Nat) (μ : me_M) (k2 : Int32 → Int32 → Option Int32) (k15 : Int32 → Int32 → Int32 → Int32 → Option Int32) (l1 : Int32) (l2 : Int32) (l4 : Int32) (s0 : Int32) : Option Int32 :=
  fM_top_70 N μ k2 k15 l1 l2 l4 s0 (1 : Int32)
def fM_top_15b (N : Nat) (μ : me_M) (k2 : Int32 → Int32 → Option Int32) (k15 : Int32 → Int32 → Int32 → Int32 → Option Int32) (l1 : Int32) (l2 : Int32) (l3 : Int32) (l4 : Int32) : Option Int32 :=
  if (μ.1 100 0) ≤ l4 then
    fM_top_78 N μ k2 l1 l2 l3
  else
    me_gi l4 12 <|
    me_gi l2 12 <|
    if 0 < (lg_cmp (μ.2 11 l4.toNatClampNeg) (μ.2 11 l2.toNatClampNeg)) then
      fM_top_65 N μ k2 k15 l1 l2 l4 l3
    else
      me_gi l4 12 <|
      me_gi l2 12 <|
      if (lg_cmp (μ.2 11 l4.toNatClampNeg) (μ.2 11 l2.toNatClampNeg)) = 0 then
        if l2 ≤ l4 then
          fM_top_69 N μ k2 k15 l1 l2 l4 l3
        else
          fM_top_65 N μ k2 k15 l1 l2 l4 l3
      else
        fM_top_69 N μ k2 k15 l1 l2 l4 l3
def fM_top_15 (N : Nat) (μ : me_M) (k2 : Int32 → Int32 → Option Int32) (F : Nat) : Int32 → Int32 → Int32 → Int32 → Option Int32 := Nat.rec (motive := fun _ => Int32 → Int32 → Int32 → Int32 → Option Int32) (fun _ _ _ _ => none) (fun _ k15 => fM_top_15b N μ k2 k15) F
def fM_top_2b (N : Nat) (μ : me_M) (k2 : Int32 → Int32 → Option Int32) (l1 : Int32) (l2 : Int32) : Option Int32 :=
  if (μ.1 100 0) ≤ l2 then
    fM_top_91 N μ
  else
    fM_top_15 N μ k2 N l1 l2 (0 : Int32) (0 : Int32)
def fM_top_2 (N : Nat) (μ : me_M) (F : Nat) : Int32 → Int32 → Option Int32 := Nat.rec (motive := fun _ => Int32 → Int32 → Option Int32) (fun _ _ => none) (fun _ k2 => fM_top_2b N μ k2) F
def fM_top (N : Nat) (μ : me_M) (l1 : Int32) : Option Int32 :=
  fM_top_2 N μ N l1 (0 : Int32)
def fM_change (N : Nat) (μ : me_M) : Option Int64 :=
  some (μ.2 125 0)
end
end
section
/- names: the classes' fields, the methods, the words of the tables -/
def ft_Y : u_T := fun k => match k with
  | 0 => ("ArcTape$Layout", "window", "I", false)
  | 1 => ("ArcTape$Layout", "chain", "I", false)
  | 2 => ("ArcTape$Layout", "least", "I", false)
  | 3 => ("ArcTape$Layout", "k", "I", false)
  | _ => ("ArcTape$Layout", "offsets", "[I", true)
def ty_Y : Nat → FieldType := fun k => match k with
  | 0 => .int
  | 1 => .int
  | 2 => .int
  | 3 => .int
  | _ => .array .int
def ft_K : u_T := fun k => match k with
  | 0 => ("ArcTape$Packer", "draft", "[I", true)
  | 1 => ("ArcTape$Packer", "layout", "LArcTape$Layout;", true)
  | 2 => ("ArcTape$Packer", "tape", "LArcTape$Tape;", true)
  | 3 => ("ArcTape$Packer", "depths", "[I", true)
  | 4 => ("ArcTape$Packer", "runs", "[I", true)
  | 5 => ("ArcTape$Packer", "firsts", "[I", true)
  | _ => ("ArcTape$Packer", "lengths", "[I", true)
def ty_K : Nat → FieldType := fun k => match k with
  | 0 => .array .int
  | 1 => .object "ArcTape$Layout"
  | 2 => .object "ArcTape$Tape"
  | 3 => .array .int
  | 4 => .array .int
  | 5 => .array .int
  | _ => .array .int
def ft_S : u_T := fun k => match k with
  | 0 => ("ArcTape$Parts", "numbers", "[I", true)
  | 1 => ("ArcTape$Parts", "lists", "[I", true)
  | _ => ("ArcTape$Parts", "reached", "[I", true)
def ty_S : Nat → FieldType := fun k => match k with
  | 0 => .array .int
  | 1 => .array .int
  | _ => .array .int
def ft_D : u_T := fun k => match k with
  | 0 => ("ArcTape$Reader", "lists", "[I", true)
  | 1 => ("ArcTape$Reader", "faults", "[I", true)
  | 2 => ("ArcTape$Reader", "references", "[I", true)
  | 3 => ("ArcTape$Reader", "depths", "[I", true)
  | 4 => ("ArcTape$Reader", "n", "I", true)
  | 5 => ("ArcTape$Reader", "layout", "LArcTape$Layout;", true)
  | 6 => ("ArcTape$Reader", "tape", "LArcTape$Tape;", true)
  | 7 => ("ArcTape$Reader", "node", "I", false)
  | 8 => ("ArcTape$Reader", "place", "I", false)
  | 9 => ("ArcTape$Reader", "fault", "I", false)
  | 10 => ("ArcTape$Reader", "reference", "I", false)
  | 11 => ("ArcTape$Reader", "list", "I", false)
  | 12 => ("ArcTape$Reader", "due", "I", false)
  | _ => ("ArcTape$Reader", "twice", "Z", false)
def ty_D : Nat → FieldType := fun k => match k with
  | 0 => .array .int
  | 1 => .array .int
  | 2 => .array .int
  | 3 => .array .int
  | 4 => .int
  | 5 => .object "ArcTape$Layout"
  | 6 => .object "ArcTape$Tape"
  | 7 => .int
  | 8 => .int
  | 9 => .int
  | 10 => .int
  | 11 => .int
  | 12 => .int
  | _ => .boolean
def ft_O : u_T := fun k => match k with
  | 0 => ("ArcTape$Scores", "scores", "[J", true)
  | 1 => ("ArcTape$Scores", "hubs", "[J", true)
  | 2 => ("ArcTape$Scores", "weights", "[I", true)
  | 3 => ("ArcTape$Scores", "moved", "J", false)
  | 4 => ("ArcTape$Scores", "lists", "[I", true)
  | 5 => ("ArcTape$Scores", "old", "[J", true)
  | 6 => ("ArcTape$Scores", "kind", "I", false)
  | _ => ("ArcTape$Scores", "damping", "I", false)
def ty_O : Nat → FieldType := fun k => match k with
  | 0 => .array .long
  | 1 => .array .long
  | 2 => .array .int
  | 3 => .long
  | 4 => .array .int
  | 5 => .array .long
  | 6 => .int
  | _ => .int
def ft_T : u_T := fun k => match k with
  | 0 => ("ArcTape$Tape", "bits", "[B", true)
  | _ => ("ArcTape$Tape", "length", "I", false)
def ty_T : Nat → FieldType := fun k => match k with
  | 0 => .array .byte
  | _ => .int
def ft_A : u_T := fun k => match k with
  | 0 => ("ArcTape", "n", "I", true)
  | 1 => ("ArcTape", "draft", "[I", true)
  | 2 => ("ArcTape", "tape", "LArcTape$Tape;", true)
  | 3 => ("ArcTape", "layout", "LArcTape$Layout;", true)
  | 4 => ("ArcTape", "packer", "LArcTape$Packer;", true)
  | 5 => ("ArcTape", "reader", "LArcTape$Reader;", true)
  | 6 => ("ArcTape", "parts", "LArcTape$Parts;", true)
  | _ => ("ArcTape", "scores", "LArcTape$Scores;", true)
def ty_A : Nat → FieldType := fun k => match k with
  | 0 => .int
  | 1 => .array .int
  | 2 => .object "ArcTape$Tape"
  | 3 => .object "ArcTape$Layout"
  | 4 => .object "ArcTape$Packer"
  | 5 => .object "ArcTape$Reader"
  | 6 => .object "ArcTape$Parts"
  | _ => .object "ArcTape$Scores"
def ft_M : u_T := fun k => match k with
  | 0 => ("ArcTapeModel", "n", "I", false)
  | 1 => ("ArcTapeModel", "draft", "[I", false)
  | 2 => ("ArcTapeModel", "bits", "[I", false)
  | 3 => ("ArcTapeModel", "length", "I", false)
  | 4 => ("ArcTapeModel", "offsets", "[I", false)
  | 5 => ("ArcTapeModel", "window", "I", false)
  | 6 => ("ArcTapeModel", "chain", "I", false)
  | 7 => ("ArcTapeModel", "least", "I", false)
  | 8 => ("ArcTapeModel", "zetaK", "I", false)
  | 9 => ("ArcTapeModel", "deepDraft", "[I", false)
  | 10 => ("ArcTapeModel", "runs", "[I", false)
  | 11 => ("ArcTapeModel", "at", "I", false)
  | 12 => ("ArcTapeModel", "wrong", "I", false)
  | 13 => ("ArcTapeModel", "taken", "I", false)
  | 14 => ("ArcTapeModel", "twice", "Z", false)
  | 15 => ("ArcTapeModel", "list", "[I", false)
  | 16 => ("ArcTapeModel", "fault", "[I", false)
  | 17 => ("ArcTapeModel", "refers", "[I", false)
  | 18 => ("ArcTapeModel", "deep", "[I", false)
  | 19 => ("ArcTapeModel", "weight", "[I", false)
  | 20 => ("ArcTapeModel", "kind", "I", false)
  | 21 => ("ArcTapeModel", "damping", "I", false)
  | 22 => ("ArcTapeModel", "scores", "[J", false)
  | 23 => ("ArcTapeModel", "hubs", "[J", false)
  | 24 => ("ArcTapeModel", "fresh", "[J", false)
  | 25 => ("ArcTapeModel", "moved", "J", false)
  | 26 => ("ArcTapeModel", "leads", "[I", false)
  | 27 => ("ArcTapeModel", "number", "[I", false)
  | _ => ("ArcTapeModel", "numbers", "I", false)
def ty_M : Nat → FieldType := fun k => match k with
  | 0 => .int
  | 1 => .array .int
  | 2 => .array .int
  | 3 => .int
  | 4 => .array .int
  | 5 => .int
  | 6 => .int
  | 7 => .int
  | 8 => .int
  | 9 => .array .int
  | 10 => .array .int
  | 11 => .int
  | 12 => .int
  | 13 => .int
  | 14 => .boolean
  | 15 => .array .int
  | 16 => .array .int
  | 17 => .array .int
  | 18 => .array .int
  | 19 => .array .int
  | 20 => .int
  | 21 => .int
  | 22 => .array .long
  | 23 => .array .long
  | 24 => .array .long
  | 25 => .long
  | 26 => .array .int
  | 27 => .array .int
  | _ => .int
abbrev vwCl : List vw_C := [("ArcTape$Layout", ft_Y, 5), ("ArcTape$Packer", ft_K, 7), ("ArcTape$Parts", ft_S, 3), ("ArcTape$Reader", ft_D, 14), ("ArcTape$Scores", ft_O, 8), ("ArcTape$Tape", ft_T, 2), ("ArcTape", ft_A, 8), ("ArcTapeModel", ft_M, 29)]
def tyTab : List FieldType := [.int, .byte, .long]
def wsAll : List Cond := lw_tbl.filter goodWord
theorem wsAll_good : wsAll.all goodWord = true := List.all_eq_true.mpr (fun w hw => (List.mem_filter.mp hw).2)
theorem wl_in {w : Cond} (i : Nat) (h : tables_1[i]? = some w) (g : goodWord w = true) : w ∈ wsAll := List.mem_filter.mpr ⟨List.mem_append_right _ (List.mem_of_getElem? h), g⟩
theorem wl_se {y : MethodName} {k : Nat} (i : Nat) (h : lw_privs[i]? = some (y, k)) (g : goodWord (Cond.selects y.cls y y) = true) : Cond.selects y.cls y y ∈ wsAll := List.mem_filter.mpr ⟨List.mem_append_left _ (List.mem_map.mpr ⟨(y, k), List.mem_of_getElem? h, rfl⟩), g⟩
abbrev c_T_init : ByteArray := prog_7_method_1_code
abbrev y_T_init : MethodName := ⟨"ArcTape$Tape", "<init>", "()V"⟩
abbrev c_T_putNumber : ByteArray := prog_7_method_2_code
abbrev y_T_putNumber : MethodName := ⟨"ArcTape$Tape", "putNumber", "(II)V"⟩
abbrev c_T_putUnary : ByteArray := prog_7_method_3_code
abbrev y_T_putUnary : MethodName := ⟨"ArcTape$Tape", "putUnary", "(I)V"⟩
abbrev c_T_putGamma : ByteArray := prog_7_method_4_code
abbrev y_T_putGamma : MethodName := ⟨"ArcTape$Tape", "putGamma", "(I)V"⟩
abbrev c_T_putZeta : ByteArray := prog_7_method_5_code
abbrev y_T_putZeta : MethodName := ⟨"ArcTape$Tape", "putZeta", "(II)V"⟩
abbrev c_T_exponent : ByteArray := prog_7_method_6_code
abbrev y_T_exponent : MethodName := ⟨"ArcTape$Tape", "exponent", "(I)I"⟩
abbrev c_T_withoutSign : ByteArray := prog_7_method_7_code
abbrev y_T_withoutSign : MethodName := ⟨"ArcTape$Tape", "withoutSign", "(I)I"⟩
abbrev c_T_withSign : ByteArray := prog_7_method_8_code
abbrev y_T_withSign : MethodName := ⟨"ArcTape$Tape", "withSign", "(I)I"⟩
abbrev c_A_init : ByteArray := prog_1_method_1_code
abbrev y_A_init : MethodName := ⟨"ArcTape", "<init>", "(I)V"⟩
abbrev c_A_add : ByteArray := prog_1_method_2_code
abbrev y_A_add : MethodName := ⟨"ArcTape", "add", "(II)Z"⟩
abbrev c_A_drop : ByteArray := prog_1_method_3_code
abbrev y_A_drop : MethodName := ⟨"ArcTape", "drop", "(II)Z"⟩
abbrev c_A_pack : ByteArray := prog_1_method_4_code
abbrev y_A_pack : MethodName := ⟨"ArcTape", "pack", "(IIII)I"⟩
abbrev c_A_offset : ByteArray := prog_1_method_5_code
abbrev y_A_offset : MethodName := ⟨"ArcTape", "offset", "(I)I"⟩
abbrev c_A_bit : ByteArray := prog_1_method_6_code
abbrev y_A_bit : MethodName := ⟨"ArcTape", "bit", "(I)I"⟩
abbrev c_A_flip : ByteArray := prog_1_method_7_code
abbrev y_A_flip : MethodName := ⟨"ArcTape", "flip", "(I)Z"⟩
abbrev c_A_degree : ByteArray := prog_1_method_8_code
abbrev y_A_degree : MethodName := ⟨"ArcTape", "degree", "(I)I"⟩
abbrev c_A_successor : ByteArray := prog_1_method_9_code
abbrev y_A_successor : MethodName := ⟨"ArcTape", "successor", "(II)I"⟩
abbrev c_A_reference : ByteArray := prog_1_method_10_code
abbrev y_A_reference : MethodName := ⟨"ArcTape", "reference", "(I)I"⟩
abbrev c_A_components : ByteArray := prog_1_method_11_code
abbrev y_A_components : MethodName := ⟨"ArcTape", "components", "()I"⟩
abbrev c_A_component : ByteArray := prog_1_method_12_code
abbrev y_A_component : MethodName := ⟨"ArcTape", "component", "(I)I"⟩
abbrev c_A_prefer : ByteArray := prog_1_method_13_code
abbrev y_A_prefer : MethodName := ⟨"ArcTape", "prefer", "(II)Z"⟩
abbrev c_A_start : ByteArray := prog_1_method_14_code
abbrev y_A_start : MethodName := ⟨"ArcTape", "start", "(II)Z"⟩
abbrev c_A_step : ByteArray := prog_1_method_15_code
abbrev y_A_step : MethodName := ⟨"ArcTape", "step", "(I)I"⟩
abbrev c_A_score : ByteArray := prog_1_method_16_code
abbrev y_A_score : MethodName := ⟨"ArcTape", "score", "(I)J"⟩
abbrev c_A_hub : ByteArray := prog_1_method_17_code
abbrev y_A_hub : MethodName := ⟨"ArcTape", "hub", "(I)J"⟩
abbrev c_A_top : ByteArray := prog_1_method_18_code
abbrev y_A_top : MethodName := ⟨"ArcTape", "top", "(I)I"⟩
abbrev c_A_change : ByteArray := prog_1_method_19_code
abbrev y_A_change : MethodName := ⟨"ArcTape", "change", "()J"⟩
abbrev c_A_isNode : ByteArray := prog_1_method_20_code
abbrev y_A_isNode : MethodName := ⟨"ArcTape", "isNode", "(I)Z"⟩
abbrev c_A_isPlace : ByteArray := prog_1_method_21_code
abbrev y_A_isPlace : MethodName := ⟨"ArcTape", "isPlace", "(I)Z"⟩
abbrev c_A_within : ByteArray := prog_1_method_22_code
abbrev y_A_within : MethodName := ⟨"ArcTape", "within", "(III)Z"⟩
abbrev c_A_holds : ByteArray := prog_1_method_23_code
abbrev y_A_holds : MethodName := ⟨"ArcTape", "holds", "(II)Z"⟩
abbrev c_K_init : ByteArray := prog_3_method_1_code
abbrev y_K_init : MethodName := ⟨"ArcTape$Packer", "<init>", "([ILArcTape$Layout;LArcTape$Tape;)V"⟩
abbrev c_K_writeAll : ByteArray := prog_3_method_2_code
abbrev y_K_writeAll : MethodName := ⟨"ArcTape$Packer", "writeAll", "()V"⟩
abbrev c_K_bestReference : ByteArray := prog_3_method_3_code
abbrev y_K_bestReference : MethodName := ⟨"ArcTape$Packer", "bestReference", "(I)I"⟩
abbrev c_K_mayBeReferredTo : ByteArray := prog_3_method_4_code
abbrev y_K_mayBeReferredTo : MethodName := ⟨"ArcTape$Packer", "mayBeReferredTo", "(I)Z"⟩
abbrev c_K_writeRecord : ByteArray := prog_3_method_5_code
abbrev y_K_writeRecord : MethodName := ⟨"ArcTape$Packer", "writeRecord", "(II)V"⟩
abbrev c_K_writeRuns : ByteArray := prog_3_method_6_code
abbrev y_K_writeRuns : MethodName := ⟨"ArcTape$Packer", "writeRuns", "(II)V"⟩
abbrev c_K_writeIntervals : ByteArray := prog_3_method_7_code
abbrev y_K_writeIntervals : MethodName := ⟨"ArcTape$Packer", "writeIntervals", "(II)I"⟩
abbrev c_K_rowLength : ByteArray := prog_3_method_8_code
abbrev y_K_rowLength : MethodName := ⟨"ArcTape$Packer", "rowLength", "(II)I"⟩
abbrev c_K_writeSingles : ByteArray := prog_3_method_9_code
abbrev y_K_writeSingles : MethodName := ⟨"ArcTape$Packer", "writeSingles", "(II)V"⟩
abbrev c_O_init : ByteArray := prog_6_method_1_code
abbrev y_O_init : MethodName := ⟨"ArcTape$Scores", "<init>", "([I)V"⟩
abbrev c_O_begin : ByteArray := prog_6_method_2_code
abbrev y_O_begin : MethodName := ⟨"ArcTape$Scores", "begin", "(II)V"⟩
abbrev c_O_advance : ByteArray := prog_6_method_3_code
abbrev y_O_advance : MethodName := ⟨"ArcTape$Scores", "advance", "(I)I"⟩
abbrev c_O_weightOfOthers : ByteArray := prog_6_method_4_code
abbrev y_O_weightOfOthers : MethodName := ⟨"ArcTape$Scores", "weightOfOthers", "(I)I"⟩
abbrev c_O_placeOf : ByteArray := prog_6_method_5_code
abbrev y_O_placeOf : MethodName := ⟨"ArcTape$Scores", "placeOf", "(I)I"⟩
abbrev c_O_stepOnce : ByteArray := prog_6_method_6_code
abbrev y_O_stepOnce : MethodName := ⟨"ArcTape$Scores", "stepOnce", "()V"⟩
abbrev c_O_stepByRank : ByteArray := prog_6_method_7_code
abbrev y_O_stepByRank : MethodName := ⟨"ArcTape$Scores", "stepByRank", "()V"⟩
abbrev c_O_stepByGreatest : ByteArray := prog_6_method_8_code
abbrev y_O_stepByGreatest : MethodName := ⟨"ArcTape$Scores", "stepByGreatest", "()V"⟩
abbrev c_O_bringToGreatest : ByteArray := prog_6_method_9_code
abbrev y_O_bringToGreatest : MethodName := ⟨"ArcTape$Scores", "bringToGreatest", "([J)V"⟩
abbrev c_O_stepByShares : ByteArray := prog_6_method_10_code
abbrev y_O_stepByShares : MethodName := ⟨"ArcTape$Scores", "stepByShares", "()V"⟩
abbrev c_O_linksFrom : ByteArray := prog_6_method_11_code
abbrev y_O_linksFrom : MethodName := ⟨"ArcTape$Scores", "linksFrom", "(I)I"⟩
abbrev c_O_linksTo : ByteArray := prog_6_method_12_code
abbrev y_O_linksTo : MethodName := ⟨"ArcTape$Scores", "linksTo", "(I)I"⟩
abbrev c_O_quotient : ByteArray := prog_6_method_13_code
abbrev y_O_quotient : MethodName := ⟨"ArcTape$Scores", "quotient", "(JJ)J"⟩
abbrev c_S_init : ByteArray := prog_4_method_1_code
abbrev y_S_init : MethodName := ⟨"ArcTape$Parts", "<init>", "([I)V"⟩
abbrev c_S_numberAll : ByteArray := prog_4_method_2_code
abbrev y_S_numberAll : MethodName := ⟨"ArcTape$Parts", "numberAll", "()I"⟩
abbrev c_S_findReached : ByteArray := prog_4_method_3_code
abbrev y_S_findReached : MethodName := ⟨"ArcTape$Parts", "findReached", "()V"⟩
abbrev c_S_nextReady : ByteArray := prog_4_method_4_code
abbrev y_S_nextReady : MethodName := ⟨"ArcTape$Parts", "nextReady", "(I)I"⟩
abbrev c_S_partOf : ByteArray := prog_4_method_5_code
abbrev y_S_partOf : MethodName := ⟨"ArcTape$Parts", "partOf", "(I)I"⟩
abbrev c_Y_init : ByteArray := prog_2_method_1_code
abbrev y_Y_init : MethodName := ⟨"ArcTape$Layout", "<init>", "(I)V"⟩
abbrev c_M_init : ByteArray := prog_9_method_1_code
abbrev y_M_init : MethodName := ⟨"ArcTapeModel", "<init>", "(I)V"⟩
abbrev c_M_node : ByteArray := prog_9_method_2_code
abbrev y_M_node : MethodName := ⟨"ArcTapeModel", "node", "(I)Z"⟩
abbrev c_M_ones : ByteArray := prog_9_method_3_code
abbrev y_M_ones : MethodName := ⟨"ArcTapeModel", "ones", "(I)I"⟩
abbrev c_M_add : ByteArray := prog_9_method_4_code
abbrev y_M_add : MethodName := ⟨"ArcTapeModel", "add", "(II)Z"⟩
abbrev c_M_drop : ByteArray := prog_9_method_5_code
abbrev y_M_drop : MethodName := ⟨"ArcTapeModel", "drop", "(II)Z"⟩
abbrev c_M_put : ByteArray := prog_9_method_6_code
abbrev y_M_put : MethodName := ⟨"ArcTapeModel", "put", "(I)V"⟩
abbrev c_M_putUnary : ByteArray := prog_9_method_7_code
abbrev y_M_putUnary : MethodName := ⟨"ArcTapeModel", "putUnary", "(I)V"⟩
abbrev c_M_putNumber : ByteArray := prog_9_method_8_code
abbrev y_M_putNumber : MethodName := ⟨"ArcTapeModel", "putNumber", "(II)V"⟩
abbrev c_M_putGamma : ByteArray := prog_9_method_9_code
abbrev y_M_putGamma : MethodName := ⟨"ArcTapeModel", "putGamma", "(I)V"⟩
abbrev c_M_putZeta : ByteArray := prog_9_method_10_code
abbrev y_M_putZeta : MethodName := ⟨"ArcTapeModel", "putZeta", "(I)V"⟩
abbrev c_M_natural : ByteArray := prog_9_method_11_code
abbrev y_M_natural : MethodName := ⟨"ArcTapeModel", "natural", "(I)I"⟩
abbrev c_M_whole : ByteArray := prog_9_method_12_code
abbrev y_M_whole : MethodName := ⟨"ArcTapeModel", "whole", "(I)I"⟩
abbrev c_M_putRuns : ByteArray := prog_9_method_13_code
abbrev y_M_putRuns : MethodName := ⟨"ArcTapeModel", "putRuns", "(II)V"⟩
abbrev c_M_rowAt : ByteArray := prog_9_method_14_code
abbrev y_M_rowAt : MethodName := ⟨"ArcTapeModel", "rowAt", "(II)I"⟩
abbrev c_M_putRest : ByteArray := prog_9_method_15_code
abbrev y_M_putRest : MethodName := ⟨"ArcTapeModel", "putRest", "(II)V"⟩
abbrev c_M_putRecord : ByteArray := prog_9_method_16_code
abbrev y_M_putRecord : MethodName := ⟨"ArcTapeModel", "putRecord", "(II)V"⟩
abbrev c_M_pack : ByteArray := prog_9_method_17_code
abbrev y_M_pack : MethodName := ⟨"ArcTapeModel", "pack", "(IIII)I"⟩
abbrev c_M_offset : ByteArray := prog_9_method_18_code
abbrev y_M_offset : MethodName := ⟨"ArcTapeModel", "offset", "(I)I"⟩
abbrev c_M_bit : ByteArray := prog_9_method_19_code
abbrev y_M_bit : MethodName := ⟨"ArcTapeModel", "bit", "(I)I"⟩
abbrev c_M_flip : ByteArray := prog_9_method_20_code
abbrev y_M_flip : MethodName := ⟨"ArcTapeModel", "flip", "(I)Z"⟩
abbrev c_M_next : ByteArray := prog_9_method_21_code
abbrev y_M_next : MethodName := ⟨"ArcTapeModel", "next", "()I"⟩
abbrev c_M_nextUnary : ByteArray := prog_9_method_22_code
abbrev y_M_nextUnary : MethodName := ⟨"ArcTapeModel", "nextUnary", "()I"⟩
abbrev c_M_nextNumber : ByteArray := prog_9_method_23_code
abbrev y_M_nextNumber : MethodName := ⟨"ArcTapeModel", "nextNumber", "(I)I"⟩
abbrev c_M_nextGamma : ByteArray := prog_9_method_24_code
abbrev y_M_nextGamma : MethodName := ⟨"ArcTapeModel", "nextGamma", "()I"⟩
abbrev c_M_nextZeta : ByteArray := prog_9_method_25_code
abbrev y_M_nextZeta : MethodName := ⟨"ArcTapeModel", "nextZeta", "()I"⟩
abbrev c_M_take : ByteArray := prog_9_method_26_code
abbrev y_M_take : MethodName := ⟨"ArcTapeModel", "take", "(I)V"⟩
abbrev c_M_readRuns : ByteArray := prog_9_method_27_code
abbrev y_M_readRuns : MethodName := ⟨"ArcTapeModel", "readRuns", "(II)V"⟩
abbrev c_M_copy : ByteArray := prog_9_method_28_code
abbrev y_M_copy : MethodName := ⟨"ArcTapeModel", "copy", "(III)V"⟩
abbrev c_M_readIntervals : ByteArray := prog_9_method_29_code
abbrev y_M_readIntervals : MethodName := ⟨"ArcTapeModel", "readIntervals", "(II)I"⟩
abbrev c_M_readParts : ByteArray := prog_9_method_30_code
abbrev y_M_readParts : MethodName := ⟨"ArcTapeModel", "readParts", "(II)V"⟩
abbrev c_M_read : ByteArray := prog_9_method_31_code
abbrev y_M_read : MethodName := ⟨"ArcTapeModel", "read", "()V"⟩
abbrev c_M_degree : ByteArray := prog_9_method_32_code
abbrev y_M_degree : MethodName := ⟨"ArcTapeModel", "degree", "(I)I"⟩
abbrev c_M_successor : ByteArray := prog_9_method_33_code
abbrev y_M_successor : MethodName := ⟨"ArcTapeModel", "successor", "(II)I"⟩
abbrev c_M_reference : ByteArray := prog_9_method_34_code
abbrev y_M_reference : MethodName := ⟨"ArcTapeModel", "reference", "(I)I"⟩
abbrev c_M_count : ByteArray := prog_9_method_35_code
abbrev y_M_count : MethodName := ⟨"ArcTapeModel", "count", "()V"⟩
abbrev c_M_together : ByteArray := prog_9_method_36_code
abbrev y_M_together : MethodName := ⟨"ArcTapeModel", "together", "(I)I"⟩
abbrev c_M_firstReady : ByteArray := prog_9_method_37_code
abbrev y_M_firstReady : MethodName := ⟨"ArcTapeModel", "firstReady", "(I)I"⟩
abbrev c_M_components : ByteArray := prog_9_method_38_code
abbrev y_M_components : MethodName := ⟨"ArcTapeModel", "components", "()I"⟩
abbrev c_M_component : ByteArray := prog_9_method_39_code
abbrev y_M_component : MethodName := ⟨"ArcTapeModel", "component", "(I)I"⟩
abbrev c_M_prefer : ByteArray := prog_9_method_40_code
abbrev y_M_prefer : MethodName := ⟨"ArcTapeModel", "prefer", "(II)Z"⟩
abbrev c_M_total : ByteArray := prog_9_method_41_code
abbrev y_M_total : MethodName := ⟨"ArcTapeModel", "total", "()I"⟩
abbrev c_M_start : ByteArray := prog_9_method_42_code
abbrev y_M_start : MethodName := ⟨"ArcTapeModel", "start", "(II)Z"⟩
abbrev c_M_links : ByteArray := prog_9_method_43_code
abbrev y_M_links : MethodName := ⟨"ArcTapeModel", "links", "(II)Z"⟩
abbrev c_M_into : ByteArray := prog_9_method_44_code
abbrev y_M_into : MethodName := ⟨"ArcTapeModel", "into", "(I)I"⟩
abbrev c_M_stepRank : ByteArray := prog_9_method_45_code
abbrev y_M_stepRank : MethodName := ⟨"ArcTapeModel", "stepRank", "()V"⟩
abbrev c_M_bring : ByteArray := prog_9_method_46_code
abbrev y_M_bring : MethodName := ⟨"ArcTapeModel", "bring", "(Z)V"⟩
abbrev c_M_stepHubs : ByteArray := prog_9_method_47_code
abbrev y_M_stepHubs : MethodName := ⟨"ArcTapeModel", "stepHubs", "()V"⟩
abbrev c_M_stepShares : ByteArray := prog_9_method_48_code
abbrev y_M_stepShares : MethodName := ⟨"ArcTapeModel", "stepShares", "()V"⟩
abbrev c_M_step : ByteArray := prog_9_method_49_code
abbrev y_M_step : MethodName := ⟨"ArcTapeModel", "step", "(I)I"⟩
abbrev c_M_score : ByteArray := prog_9_method_50_code
abbrev y_M_score : MethodName := ⟨"ArcTapeModel", "score", "(I)J"⟩
abbrev c_M_hub : ByteArray := prog_9_method_51_code
abbrev y_M_hub : MethodName := ⟨"ArcTapeModel", "hub", "(I)J"⟩
abbrev c_M_top : ByteArray := prog_9_method_52_code
abbrev y_M_top : MethodName := ⟨"ArcTapeModel", "top", "(I)I"⟩
abbrev c_M_change : ByteArray := prog_9_method_53_code
abbrev y_M_change : MethodName := ⟨"ArcTapeModel", "change", "()J"⟩
abbrev c_D_init : ByteArray := prog_5_method_1_code
abbrev y_D_init : MethodName := ⟨"ArcTape$Reader", "<init>", "(ILArcTape$Layout;LArcTape$Tape;)V"⟩
abbrev c_D_readAll : ByteArray := prog_5_method_2_code
abbrev y_D_readAll : MethodName := ⟨"ArcTape$Reader", "readAll", "()V"⟩
abbrev c_D_readRecord : ByteArray := prog_5_method_3_code
abbrev y_D_readRecord : MethodName := ⟨"ArcTape$Reader", "readRecord", "()V"⟩
abbrev c_D_goesOn : ByteArray := prog_5_method_4_code
abbrev y_D_goesOn : MethodName := ⟨"ArcTape$Reader", "goesOn", "()Z"⟩
abbrev c_D_failIf : ByteArray := prog_5_method_5_code
abbrev y_D_failIf : MethodName := ⟨"ArcTape$Reader", "failIf", "(ZI)V"⟩
abbrev c_D_readReference : ByteArray := prog_5_method_6_code
abbrev y_D_readReference : MethodName := ⟨"ArcTape$Reader", "readReference", "()V"⟩
abbrev c_D_readRuns : ByteArray := prog_5_method_7_code
abbrev y_D_readRuns : MethodName := ⟨"ArcTape$Reader", "readRuns", "(I)V"⟩
abbrev c_D_lowest : ByteArray := prog_5_method_8_code
abbrev y_D_lowest : MethodName := ⟨"ArcTape$Reader", "lowest", "(II)I"⟩
abbrev c_D_readIntervals : ByteArray := prog_5_method_9_code
abbrev y_D_readIntervals : MethodName := ⟨"ArcTape$Reader", "readIntervals", "()V"⟩
abbrev c_D_readSingles : ByteArray := prog_5_method_10_code
abbrev y_D_readSingles : MethodName := ⟨"ArcTape$Reader", "readSingles", "()V"⟩
abbrev c_D_take : ByteArray := prog_5_method_11_code
abbrev y_D_take : MethodName := ⟨"ArcTape$Reader", "take", "(I)V"⟩
abbrev c_D_nextBit : ByteArray := prog_5_method_12_code
abbrev y_D_nextBit : MethodName := ⟨"ArcTape$Reader", "nextBit", "()I"⟩
abbrev c_D_nextUnary : ByteArray := prog_5_method_13_code
abbrev y_D_nextUnary : MethodName := ⟨"ArcTape$Reader", "nextUnary", "()I"⟩
abbrev c_D_nextNumber : ByteArray := prog_5_method_14_code
abbrev y_D_nextNumber : MethodName := ⟨"ArcTape$Reader", "nextNumber", "(II)I"⟩
abbrev c_D_nextGamma : ByteArray := prog_5_method_15_code
abbrev y_D_nextGamma : MethodName := ⟨"ArcTape$Reader", "nextGamma", "()I"⟩
abbrev c_D_nextZeta : ByteArray := prog_5_method_16_code
abbrev y_D_nextZeta : MethodName := ⟨"ArcTape$Reader", "nextZeta", "()I"⟩
abbrev c_J_bitCount : ByteArray := prog_10_method_49_code
abbrev y_J_bitCount : MethodName := ⟨"java/lang/Integer", "bitCount", "(I)I"⟩
def nwM : List (String × Nat × MethodName × String) := [("ArcTape", 28, y_T_init, "ArcTape"), ("ArcTape$Packer", 94, y_A_holds, "ArcTape"), ("ArcTape$Reader", 119, y_A_within, "ArcTape"), ("ArcTape$Parts", 29, y_A_holds, "ArcTape"), ("ArcTape$Scores", 75, y_A_holds, "ArcTape")]
set_option maxRecDepth 20000 in
theorem nwM_in : ∀ q ∈ nwM, Cond.methodLinkNest q.1 q.2.1 q.2.2.1 q.2.2.2 ∈ lw_tbl := List.forall_mem_cons.mpr ⟨List.mem_append_right _ (List.mem_of_getElem? (i := 28) rfl), List.forall_mem_cons.mpr ⟨List.mem_append_right _ (List.mem_of_getElem? (i := 258) rfl), List.forall_mem_cons.mpr ⟨List.mem_append_right _ (List.mem_of_getElem? (i := 335) rfl), List.forall_mem_cons.mpr ⟨List.mem_append_right _ (List.mem_of_getElem? (i := 439) rfl), List.forall_mem_cons.mpr ⟨List.mem_append_right _ (List.mem_of_getElem? (i := 484) rfl), fun _ h => absurd h List.not_mem_nil⟩⟩⟩⟩⟩
end
section
/- worlds by handles: handle k is the cell at base + k. gr: the world lies at the heap's end and may grow; else its cells are those below base + lim -/
abbrev aw_E : Type := (Nat × vp_A) ⊕ (Nat × List Value)
abbrev aw_H : Type := List aw_E
def aw_v (b : Nat) (v : Value) : Value := match v with
  | .ref k => .ref (b + k)
  | w => w
def aw_a (b : Nat) (a : vp_A) : vp_A := match a with
  | (n, .inr (.inr (.inr (.inr f)))) => (n, .inr (.inr (.inr (.inr (fun j => (f j).map (fun k => b + k))))))
  | x => x
def aw_e (b : Nat) (dA : Nat → ClassId) (e : aw_E) : va_E := match e with
  | .inl (t, a) => .inl (dA t, aw_a b a)
  | .inr (ci, fs) => .inr (ci, fs.map (aw_v b))
def aw_A (b lim : Nat) (gr : Bool) : Nat → Prop := fun q => b ≤ q ∧ (gr = true ∨ q < b + lim)
def aw_md (md : Nat) (gr : Bool) : Prop := (md = 1 → gr = true) ∧ (md = 2 → gr = false)
theorem aw_md_use {md md' : Nat} {gr : Bool} (h : md' = 0 ∨ md' = md) (g : aw_md md gr) : aw_md md' gr := by
  rcases h with q | q
  · exact ⟨fun z => by omega, fun z => by omega⟩
  · rw [q]; exact g
def aw_P (D : va_G) (dA : Nat → ClassId) (b lim : Nat) (gr : Bool) (h : aw_H) (H : Heap) : Prop := (gr = true → H.size = b + h.length) ∧ (gr = false → h.length ≤ lim) ∧ ∀ (k : Nat) (e : aw_E), h[k]? = some e → va_at D vwCl (b + k, aw_e b dA e) H
def aw_K (D : va_G) (dA : Nat → ClassId) (U : State) : Prop := (∀ (c : Nat) (q : vw_C), vwCl[c]? = some q → u_Kn U q.1 q.2.1 q.2.2 (D.1 c) (D.2 c)) ∧ ∀ (t : Nat) (ty : FieldType), tyTab[t]? = some ty → ArrOfT U (dA t) ty ∧ va_RA U (dA t) ty
theorem aw_K.moved {D : va_G} {dA : Nat → ClassId} {u U : State} (hvm : u.vm.Alike U.vm) (h : aw_K D dA u) : aw_K D dA U := ⟨fun c q hq => u_Kn_moved hvm (h.1 c q hq), fun t ty ht => ⟨arrOfT_moved hvm (h.2 t ty ht).1, (h.2 t ty ht).2.moved hvm⟩⟩
theorem aw_K.one {D : va_G} {dA : Nat → ClassId} {U : State} (h : aw_K D dA U) {t : Nat} {ty : FieldType} (ht : tyTab[t]? = some ty) : va_K D vwCl [(dA t, ty)] U := by
  refine ⟨h.1, fun k q hk => ?_⟩
  have hz : k < 1 := (List.getElem?_eq_some_iff.mp hk).1
  rw [show k = 0 by omega] at hk
  cases hk
  exact h.2 t ty ht
theorem aw_K.nil {D : va_G} {dA : Nat → ClassId} {U : State} (h : aw_K D dA U) : va_K D vwCl [] U := ⟨h.1, fun k q hk => by simp at hk⟩
theorem aw_P.one {D : va_G} {dA : Nat → ClassId} {b lim : Nat} {gr : Bool} {h : aw_H} {H : Heap} (hP : aw_P D dA b lim gr h H) {k : Nat} {e : aw_E} (hk : h[k]? = some e) : va_P D vwCl [(b + k, aw_e b dA e)] H := by
  intro j q hj
  have hz : j < 1 := (List.getElem?_eq_some_iff.mp hj).1
  rw [show j = 0 by omega] at hj
  cases hj
  exact hP.2.2 k e hk
theorem aw_P.inA {D : va_G} {dA : Nat → ClassId} {b lim : Nat} {gr : Bool} {h : aw_H} {H : Heap} (hP : aw_P D dA b lim gr h H) {k : Nat} (hk : k < h.length) : aw_A b lim gr (b + k) := by
  refine ⟨Nat.le_add_right b k, ?_⟩
  cases gr with
  | true => exact Or.inl rfl
  | false => exact Or.inr (by have := hP.2.1 rfl; omega)
theorem aw_P.put {D : va_G} {dA : Nat → ClassId} {b lim : Nat} {gr : Bool} {h : aw_H} {H H1 : Heap} (hP : aw_P D dA b lim gr h H) {k : Nat} {e : aw_E} (hk : k < h.length) (z : H1.size = H.size) (he : va_at D vwCl (b + k, aw_e b dA e) H1) (oq : ∀ q : Nat, q ≠ b + k → H1[q]? = H[q]?) : aw_P D dA b lim gr (h.set k e) H1 := by
  refine ⟨fun g => by rw [z, List.length_set]; exact hP.1 g, fun g => by rw [List.length_set]; exact hP.2.1 g, fun j x hj => ?_⟩
  by_cases hjk : j = k
  · subst hjk
    rw [List.getElem?_set_self hk] at hj
    cases hj
    exact he
  · rw [List.getElem?_set_ne (Ne.symm hjk)] at hj
    exact (hP.2.2 j x hj).kept (oq _ (by omega))
theorem aw_P.push {D : va_G} {dA : Nat → ClassId} {b lim : Nat} {gr : Bool} {h : aw_H} {H H1 : Heap} (hg : gr = true) (hP : aw_P D dA b lim gr h H) {e : aw_E} (z : H1.size = H.size + 1) (he : va_at D vwCl (b + h.length, aw_e b dA e) H1) (oq : ∀ q : Nat, q < H.size → H1[q]? = H[q]?) : aw_P D dA b lim gr (h ++ [e]) H1 := by
  refine ⟨fun g => by rw [z, hP.1 g, List.length_append]; rfl, (fun g => by rw [hg] at g; cases g), fun j x hj => ?_⟩
  by_cases hl : j < h.length
  · rw [List.getElem?_append_left hl] at hj
    exact (hP.2.2 j x hj).kept (oq _ (by have := hP.1 hg; show b + j < _; omega))
  · rw [List.getElem?_append_right (by omega)] at hj
    have hz : j - h.length < 1 := (List.getElem?_eq_some_iff.mp hj).1
    have hjl : j = h.length := by omega
    subst hjl
    rw [Nat.sub_self] at hj
    cases hj
    exact he
/- links to members of a nest mate -/
def aw_N (U : State) : Prop := ∀ q ∈ nwM, va_Nw (.methodLinkNest q.1 q.2.1 q.2.2.1 q.2.2.2) U
theorem aw_N.warm {s U : State} (hW : s.WarmedH U.vm) (h : aw_N s) : aw_N U := fun q hq => va_Nw.warmM hW (h q hq)
theorem aw_N.same {u U : State} (hv : u.vm = U.vm) (h : aw_N u) : aw_N U := fun q hq => va_Nw.same rfl hv (h q hq)
/- known values of the locals -/
def aw_L (b : Nat) (L : List (Option Value)) (nL : Nat) (ls : Array Slot) : Prop := ∃ lv : List (Nat × Value), lv_has ls nL lv ∧ ∀ (i : Nat) (v : Value), L[i]? = some (some v) → (i, aw_v b v) ∈ lv
theorem aw_L.at {b nL i : Nat} {L : List (Option Value)} {ls : Array Slot} {v : Value} (h : aw_L b L nL ls) (hi : L[i]? = some (some v)) : ls[i]? = some (.val (aw_v b v)) := by
  obtain ⟨lv, h1, h2⟩ := h
  exact h1.2.2 _ (h2 i v hi)
def aw_mask (ms : List Bool) (L : List (Option Value)) : List (Option Value) := List.zipWith (fun (m : Bool) (x : Option Value) => match m with | true => x | false => none) ms L
theorem aw_mask_at {ms : List Bool} {L : List (Option Value)} {i : Nat} {v : Value} (h : (aw_mask ms L)[i]? = some (some v)) : L[i]? = some (some v) := by
  unfold aw_mask at h
  rw [List.getElem?_zipWith] at h
  cases hm : ms[i]? with
  | none => rw [hm] at h; cases h
  | some m =>
    cases hl : L[i]? with
    | none => rw [hm, hl] at h; cases h
    | some x =>
      rw [hm, hl] at h
      cases m with
      | true => exact h
      | false => cases h
theorem aw_L.mask {b nL : Nat} {L : List (Option Value)} {ls : Array Slot} (ms : List Bool) (h : aw_L b L nL ls) : aw_L b (aw_mask ms L) nL ls := by
  obtain ⟨lv, h1, h2⟩ := h
  exact ⟨lv, h1, fun i v hi => h2 i v (aw_mask_at hi)⟩
def aw_clr (L : List (Option Value)) (i : Nat) : List (Option Value) := match i with
  | 0 => L
  | j + 1 => match L[j]? with
    | some (some (.long _)) => L.set j none
    | some (some (.double _)) => L.set j none
    | _ => L
def aw_s1 (L : List (Option Value)) (i : Nat) (v : Value) : List (Option Value) := (aw_clr L i).set i (some v)
def aw_s2 (L : List (Option Value)) (i : Nat) (v : Value) : List (Option Value) := ((aw_clr L i).set (i + 1) none).set i (some v)

def aw_C (own nm : String) (cc : ByteArray) (nL : Nat) (ret : Option FieldType) (d md mc ms : Nat) (p : Program) (R : Room) (s : State) (m : MethodId) (args : Array Value) (meth : Method) (c : Code) (D : va_G) (dA : Nat → ClassId) (b : Nat) (gr : Bool) : Prop :=
  p.tables.exec = Jvm.exec ∧ c.code = cc ∧ c.maxLocals = nL ∧ s.vm.findClass own = some m.cls ∧ (∀ w ∈ wsAll, w.before args s = true) ∧ meth.sig.returnType = ret ∧ meth.locks = false ∧ meth.name = nm ∧ (d ≤ R.frames ∧ 40 * d ≤ R.locals ∧ R.cells = mc ∧ R.slots = ms) ∧ aw_K D dA s ∧ aw_N s ∧ aw_md md gr
abbrev aw_Qc (D : va_G) (dA : Nat → ClassId) (b lim : Nat) (gr : Bool) (Q : Option Value → aw_H → Prop) : Array Value → State → Outcome → State → Prop := fun _ st oc t => (∃ (v : Option Value) (h : aw_H), oc = .returned (v.map (aw_v b)) ∧ Q v h ∧ aw_P D dA b lim gr h t.heap) ∧ va_F (aw_A b lim gr) st t
def AW (own nm : String) (cc : ByteArray) (nL : Nat) (ret : Option FieldType) (d md mc ms : Nat) (Q : Option Value → aw_H → Prop) (pc : Nat) (L : List (Option Value)) (st : List Value) (h : aw_H) (kc kn : Nat) : Prop :=
  ∀ (p : Program) (l : Launch) (e : Env) (R : Room) (s : State) (m : MethodId) (args : Array Value) (below : List Frame) (meth : Method) (c : Code) (D : va_G) (dA : Nat → ClassId) (b lim : Nat) (gr : Bool) (H : Heap) (locs : List Loc) (ls : Array Slot),
    aw_C own nm cc nL ret d md mc ms p R s m args meth c D dA b gr → va_S (aw_A b lim gr) s.heap H locs → aw_P D dA b lim gr h H → aw_L b L nL ls →
    W p l e R s m args below meth c H locs kc kn (MQ below (aw_Qc D dA b lim gr Q) args s mc ms (aw_A b lim gr)) (F0 m pc ls (st.map (aw_v b)))
def AM (y : MethodName) (cc : ByteArray) (nL : Nat) (ret : Option FieldType) (d md mc ms : Nat) (av : List Value) (h : aw_H) (Q : Option Value → aw_H → Prop) : Prop :=
  ∀ (l : Launch) (D : va_G) (dA : Nat → ClassId) (b lim : Nat) (gr : Bool), aw_md md gr → Met l y (Cond.code y cc nL ret :: wsAll) ({ frames := d, cells := mc, slots := ms, locals := 40 * d }) (va_Pc (av.map (aw_v b)) (fun U => aw_P D dA b lim gr h U.heap ∧ aw_K D dA U ∧ aw_N U)) (aw_Qc D dA b lim gr Q) mc ms (aw_A b lim gr)
section AWR
variable {own nm : String} {cc : ByteArray} {nL : Nat} {ret : Option FieldType} {d md mc ms : Nat} {Q : Option Value → aw_H → Prop} {pc pc' : Nat} {L L' : List (Option Value)} {st : List Value} {h h' : aw_H} {kc kn : Nat}

theorem aw_weak (ms' : List Bool) (e : aw_mask ms' L = L') (k : AW own nm cc nL ret d md mc ms Q pc L' st h kc kn) : AW own nm cc nL ret d md mc ms Q pc L st h kc kn := by
  subst e
  intro p l e R s m args below meth c D dA b lim gr H locs ls C S P hL
  exact k p l e R s m args below meth c D dA b lim gr H locs ls C S P (hL.mask ms')
theorem aw_iadd {x y : Int32} (hd : decode cc pc = .ok (.iadd, 1)) (hp : pc + 1 = pc')  (k : AW own nm cc nL ret d md mc ms Q pc' L (.int (x + y) :: st) h kc kn) : AW own nm cc nL ret d md mc ms Q pc L (.int y :: .int x :: st) h kc kn := by
  subst hp
  intro p l e R s m args below meth c D dA b lim gr H locs ls C S P hL
  exact lv_iadd C.1 C.2.1 hd  (k p l e R s m args below meth c D dA b lim gr H locs ls C S P hL)
theorem aw_isub {x y : Int32} (hd : decode cc pc = .ok (.isub, 1)) (hp : pc + 1 = pc')  (k : AW own nm cc nL ret d md mc ms Q pc' L (.int (x - y) :: st) h kc kn) : AW own nm cc nL ret d md mc ms Q pc L (.int y :: .int x :: st) h kc kn := by
  subst hp
  intro p l e R s m args below meth c D dA b lim gr H locs ls C S P hL
  exact lv_isub C.1 C.2.1 hd  (k p l e R s m args below meth c D dA b lim gr H locs ls C S P hL)
theorem aw_imul {x y : Int32} (hd : decode cc pc = .ok (.imul, 1)) (hp : pc + 1 = pc')  (k : AW own nm cc nL ret d md mc ms Q pc' L (.int (x * y) :: st) h kc kn) : AW own nm cc nL ret d md mc ms Q pc L (.int y :: .int x :: st) h kc kn := by
  subst hp
  intro p l e R s m args below meth c D dA b lim gr H locs ls C S P hL
  exact lv_imul C.1 C.2.1 hd  (k p l e R s m args below meth c D dA b lim gr H locs ls C S P hL)
theorem aw_iand {x y : Int32} (hd : decode cc pc = .ok (.iand, 1)) (hp : pc + 1 = pc')  (k : AW own nm cc nL ret d md mc ms Q pc' L (.int (x &&& y) :: st) h kc kn) : AW own nm cc nL ret d md mc ms Q pc L (.int y :: .int x :: st) h kc kn := by
  subst hp
  intro p l e R s m args below meth c D dA b lim gr H locs ls C S P hL
  exact lv_iand C.1 C.2.1 hd  (k p l e R s m args below meth c D dA b lim gr H locs ls C S P hL)
theorem aw_ior {x y : Int32} (hd : decode cc pc = .ok (.ior, 1)) (hp : pc + 1 = pc')  (k : AW own nm cc nL ret d md mc ms Q pc' L (.int (x ||| y) :: st) h kc kn) : AW own nm cc nL ret d md mc ms Q pc L (.int y :: .int x :: st) h kc kn := by
  subst hp
  intro p l e R s m args below meth c D dA b lim gr H locs ls C S P hL
  exact lv_ior C.1 C.2.1 hd  (k p l e R s m args below meth c D dA b lim gr H locs ls C S P hL)
theorem aw_ixor {x y : Int32} (hd : decode cc pc = .ok (.ixor, 1)) (hp : pc + 1 = pc')  (k : AW own nm cc nL ret d md mc ms Q pc' L (.int (x ^^^ y) :: st) h kc kn) : AW own nm cc nL ret d md mc ms Q pc L (.int y :: .int x :: st) h kc kn := by
  subst hp
  intro p l e R s m args below meth c D dA b lim gr H locs ls C S P hL
  exact lv_ixor C.1 C.2.1 hd  (k p l e R s m args below meth c D dA b lim gr H locs ls C S P hL)
theorem aw_ishl {x y : Int32} (hd : decode cc pc = .ok (.ishl, 1)) (hp : pc + 1 = pc')  (k : AW own nm cc nL ret d md mc ms Q pc' L (.int (x <<< (y &&& 31)) :: st) h kc kn) : AW own nm cc nL ret d md mc ms Q pc L (.int y :: .int x :: st) h kc kn := by
  subst hp
  intro p l e R s m args below meth c D dA b lim gr H locs ls C S P hL
  exact lv_ishl C.1 C.2.1 hd  (k p l e R s m args below meth c D dA b lim gr H locs ls C S P hL)
theorem aw_ishr {x y : Int32} (hd : decode cc pc = .ok (.ishr, 1)) (hp : pc + 1 = pc')  (k : AW own nm cc nL ret d md mc ms Q pc' L (.int (x >>> (y &&& 31)) :: st) h kc kn) : AW own nm cc nL ret d md mc ms Q pc L (.int y :: .int x :: st) h kc kn := by
  subst hp
  intro p l e R s m args below meth c D dA b lim gr H locs ls C S P hL
  exact lv_ishr C.1 C.2.1 hd  (k p l e R s m args below meth c D dA b lim gr H locs ls C S P hL)
theorem aw_iushr {x y : Int32} (hd : decode cc pc = .ok (.iushr, 1)) (hp : pc + 1 = pc')  (k : AW own nm cc nL ret d md mc ms Q pc' L (.int ((x.toUInt32 >>> (y.toUInt32 &&& Int32.toUInt32 31)).toInt32) :: st) h kc kn) : AW own nm cc nL ret d md mc ms Q pc L (.int y :: .int x :: st) h kc kn := by
  subst hp
  intro p l e R s m args below meth c D dA b lim gr H locs ls C S P hL
  exact lv_iushr C.1 C.2.1 hd rfl (k p l e R s m args below meth c D dA b lim gr H locs ls C S P hL)
theorem aw_idiv {x y : Int32} (hd : decode cc pc = .ok (.idiv, 1)) (hp : pc + 1 = pc') (hne : ¬ y = 0) (k : AW own nm cc nL ret d md mc ms Q pc' L (.int (x / y) :: st) h kc kn) : AW own nm cc nL ret d md mc ms Q pc L (.int y :: .int x :: st) h kc kn := by
  subst hp
  intro p l e R s m args below meth c D dA b lim gr H locs ls C S P hL
  exact lv_idiv C.1 C.2.1 hd hne (k p l e R s m args below meth c D dA b lim gr H locs ls C S P hL)
theorem aw_irem {x y : Int32} (hd : decode cc pc = .ok (.irem, 1)) (hp : pc + 1 = pc') (hne : ¬ y = 0) (k : AW own nm cc nL ret d md mc ms Q pc' L (.int (x - x / y * y) :: st) h kc kn) : AW own nm cc nL ret d md mc ms Q pc L (.int y :: .int x :: st) h kc kn := by
  subst hp
  intro p l e R s m args below meth c D dA b lim gr H locs ls C S P hL
  exact lv_irem C.1 C.2.1 hd hne (k p l e R s m args below meth c D dA b lim gr H locs ls C S P hL)
theorem aw_ladd {x y : Int64} (hd : decode cc pc = .ok (.ladd, 1)) (hp : pc + 1 = pc')  (k : AW own nm cc nL ret d md mc ms Q pc' L (.long (x + y) :: st) h kc kn) : AW own nm cc nL ret d md mc ms Q pc L (.long y :: .long x :: st) h kc kn := by
  subst hp
  intro p l e R s m args below meth c D dA b lim gr H locs ls C S P hL
  exact lv_ladd C.1 C.2.1 hd  (k p l e R s m args below meth c D dA b lim gr H locs ls C S P hL)
theorem aw_lsub {x y : Int64} (hd : decode cc pc = .ok (.lsub, 1)) (hp : pc + 1 = pc')  (k : AW own nm cc nL ret d md mc ms Q pc' L (.long (x - y) :: st) h kc kn) : AW own nm cc nL ret d md mc ms Q pc L (.long y :: .long x :: st) h kc kn := by
  subst hp
  intro p l e R s m args below meth c D dA b lim gr H locs ls C S P hL
  exact lv_lsub C.1 C.2.1 hd  (k p l e R s m args below meth c D dA b lim gr H locs ls C S P hL)
theorem aw_lmul {x y : Int64} (hd : decode cc pc = .ok (.lmul, 1)) (hp : pc + 1 = pc')  (k : AW own nm cc nL ret d md mc ms Q pc' L (.long (x * y) :: st) h kc kn) : AW own nm cc nL ret d md mc ms Q pc L (.long y :: .long x :: st) h kc kn := by
  subst hp
  intro p l e R s m args below meth c D dA b lim gr H locs ls C S P hL
  exact lv_lmul C.1 C.2.1 hd  (k p l e R s m args below meth c D dA b lim gr H locs ls C S P hL)
theorem aw_ldiv {x y : Int64} (hd : decode cc pc = .ok (.ldiv, 1)) (hp : pc + 1 = pc') (hne : ¬ y = 0) (k : AW own nm cc nL ret d md mc ms Q pc' L (.long (x / y) :: st) h kc kn) : AW own nm cc nL ret d md mc ms Q pc L (.long y :: .long x :: st) h kc kn := by
  subst hp
  intro p l e R s m args below meth c D dA b lim gr H locs ls C S P hL
  exact lv_ldiv C.1 C.2.1 hd hne (k p l e R s m args below meth c D dA b lim gr H locs ls C S P hL)
theorem aw_ineg {x : Int32} (hd : decode cc pc = .ok (.ineg, 1)) (hp : pc + 1 = pc')  (k : AW own nm cc nL ret d md mc ms Q pc' L (.int (-x) :: st) h kc kn) : AW own nm cc nL ret d md mc ms Q pc L (.int x :: st) h kc kn := by
  subst hp
  intro p l e R s m args below meth c D dA b lim gr H locs ls C S P hL
  exact lv_ineg C.1 C.2.1 hd  (k p l e R s m args below meth c D dA b lim gr H locs ls C S P hL)
theorem aw_i2l {x : Int32} (hd : decode cc pc = .ok (.i2l, 1)) (hp : pc + 1 = pc')  (k : AW own nm cc nL ret d md mc ms Q pc' L (.long x.toInt64 :: st) h kc kn) : AW own nm cc nL ret d md mc ms Q pc L (.int x :: st) h kc kn := by
  subst hp
  intro p l e R s m args below meth c D dA b lim gr H locs ls C S P hL
  exact lv_i2l C.1 C.2.1 hd rfl (k p l e R s m args below meth c D dA b lim gr H locs ls C S P hL)
theorem aw_i2b {x : Int32} (hd : decode cc pc = .ok (.i2b, 1)) (hp : pc + 1 = pc')  (k : AW own nm cc nL ret d md mc ms Q pc' L (.int x.toInt8.toInt32 :: st) h kc kn) : AW own nm cc nL ret d md mc ms Q pc L (.int x :: st) h kc kn := by
  subst hp
  intro p l e R s m args below meth c D dA b lim gr H locs ls C S P hL
  exact lv_i2b C.1 C.2.1 hd rfl (k p l e R s m args below meth c D dA b lim gr H locs ls C S P hL)
theorem aw_lcmp {x y : Int64} (hd : decode cc pc = .ok (.lcmp, 1)) (hp : pc + 1 = pc')  (k : AW own nm cc nL ret d md mc ms Q pc' L (.int (lg_cmp x y) :: st) h kc kn) : AW own nm cc nL ret d md mc ms Q pc L (.long y :: .long x :: st) h kc kn := by
  subst hp
  intro p l e R s m args below meth c D dA b lim gr H locs ls C S P hL
  exact W.lcmp C.1 C.2.1 hd  (k p l e R s m args below meth c D dA b lim gr H locs ls C S P hL)
theorem aw_iconst {n : Int} {v : Int32} (hd : decode cc pc = .ok (.iconst n, 1)) (hp : pc + 1 = pc') (hv : Int32.ofInt n = v) (k : AW own nm cc nL ret d md mc ms Q pc' L (.int v :: st) h kc kn) : AW own nm cc nL ret d md mc ms Q pc L (st) h kc kn := by
  subst hp
  intro p l e R s m args below meth c D dA b lim gr H locs ls C S P hL
  exact lv_iconst C.1 C.2.1 hd hv (k p l e R s m args below meth c D dA b lim gr H locs ls C S P hL)
theorem aw_lconst {n : Fin 2} {v : Int64} (hd : decode cc pc = .ok (.lconst n, 1)) (hp : pc + 1 = pc') (hv : Int64.ofNat (n : Nat) = v) (k : AW own nm cc nL ret d md mc ms Q pc' L (.long v :: st) h kc kn) : AW own nm cc nL ret d md mc ms Q pc L (st) h kc kn := by
  subst hp
  intro p l e R s m args below meth c D dA b lim gr H locs ls C S P hL
  exact lv_lconst C.1 C.2.1 hd hv (k p l e R s m args below meth c D dA b lim gr H locs ls C S P hL)
theorem aw_bipush {n : Int} {v : Int32} (hd : decode cc pc = .ok (.bipush n, 2)) (hp : pc + 2 = pc') (hv : (Int8.ofInt n).toInt32 = v) (k : AW own nm cc nL ret d md mc ms Q pc' L (.int v :: st) h kc kn) : AW own nm cc nL ret d md mc ms Q pc L (st) h kc kn := by
  subst hp
  intro p l e R s m args below meth c D dA b lim gr H locs ls C S P hL
  exact lv_bipush C.1 C.2.1 hd hv (k p l e R s m args below meth c D dA b lim gr H locs ls C S P hL)
theorem aw_sipush {n : Int} {v : Int32} (hd : decode cc pc = .ok (.sipush n, 3)) (hp : pc + 3 = pc') (hv : (Int16.ofInt n).toInt32 = v) (k : AW own nm cc nL ret d md mc ms Q pc' L (.int v :: st) h kc kn) : AW own nm cc nL ret d md mc ms Q pc L (st) h kc kn := by
  subst hp
  intro p l e R s m args below meth c D dA b lim gr H locs ls C S P hL
  exact lv_sipush C.1 C.2.1 hd hv (k p l e R s m args below meth c D dA b lim gr H locs ls C S P hL)
theorem aw_cat (b : Nat) (v : Value) : (aw_v b v).category = v.category := by cases v <;> rfl
theorem aw_dup {va : Value} (hd : decode cc pc = .ok (.dup, 1)) (hp : pc + 1 = pc') (hva : va.category = 1) (k : AW own nm cc nL ret d md mc ms Q pc' L (va :: va :: st) h kc kn) : AW own nm cc nL ret d md mc ms Q pc L (va :: st) h kc kn := by
  subst hp
  intro p l e R s m args below meth c D dA b lim gr H locs ls C S P hL
  exact lv_dup C.1 C.2.1 hd ((aw_cat b va).trans hva) (k p l e R s m args below meth c D dA b lim gr H locs ls C S P hL)
theorem aw_pop {va : Value} (hd : decode cc pc = .ok (.pop, 1)) (hp : pc + 1 = pc') (hva : va.category = 1) (k : AW own nm cc nL ret d md mc ms Q pc' L (st) h kc kn) : AW own nm cc nL ret d md mc ms Q pc L (va :: st) h kc kn := by
  subst hp
  intro p l e R s m args below meth c D dA b lim gr H locs ls C S P hL
  exact lv_pop C.1 C.2.1 hd ((aw_cat b va).trans hva) (k p l e R s m args below meth c D dA b lim gr H locs ls C S P hL)
theorem aw_dup2 {va vb : Value} (hd : decode cc pc = .ok (.dup2, 1)) (hp : pc + 1 = pc') (hva : va.category = 1) (hvb : vb.category = 1) (k : AW own nm cc nL ret d md mc ms Q pc' L (va :: vb :: va :: vb :: st) h kc kn) : AW own nm cc nL ret d md mc ms Q pc L (va :: vb :: st) h kc kn := by
  subst hp
  intro p l e R s m args below meth c D dA b lim gr H locs ls C S P hL
  exact lv_dup2_11 C.1 C.2.1 hd ((aw_cat b va).trans hva) ((aw_cat b vb).trans hvb) (k p l e R s m args below meth c D dA b lim gr H locs ls C S P hL)
theorem aw_if_eq {x : Int32} {off : Int} {tgt : Nat} (hd : decode cc pc = .ok (.ifCond .eq off, 3)) (ht : (pc : Int) + off = (tgt : Int)) (hp : pc + 3 = pc') (kt : x = 0 → AW own nm cc nL ret d md mc ms Q tgt L st h kc kn) (kf : ¬ x = 0 → AW own nm cc nL ret d md mc ms Q pc' L st h kc kn) : AW own nm cc nL ret d md mc ms Q pc L (.int x :: st) h kc kn := by
  subst hp
  intro p l e R s m args below meth c D dA b lim gr H locs ls C S P hL
  exact lv_if_eq C.1 C.2.1 hd ht (fun q => kt q p l e R s m args below meth c D dA b lim gr H locs ls C S P hL) (fun q => kf q p l e R s m args below meth c D dA b lim gr H locs ls C S P hL)
theorem aw_if_ne {x : Int32} {off : Int} {tgt : Nat} (hd : decode cc pc = .ok (.ifCond .ne off, 3)) (ht : (pc : Int) + off = (tgt : Int)) (hp : pc + 3 = pc') (kt : ¬ x = 0 → AW own nm cc nL ret d md mc ms Q tgt L st h kc kn) (kf : x = 0 → AW own nm cc nL ret d md mc ms Q pc' L st h kc kn) : AW own nm cc nL ret d md mc ms Q pc L (.int x :: st) h kc kn := by
  subst hp
  intro p l e R s m args below meth c D dA b lim gr H locs ls C S P hL
  exact lv_if_ne C.1 C.2.1 hd ht (fun q => kt q p l e R s m args below meth c D dA b lim gr H locs ls C S P hL) (fun q => kf q p l e R s m args below meth c D dA b lim gr H locs ls C S P hL)
theorem aw_if_lt {x : Int32} {off : Int} {tgt : Nat} (hd : decode cc pc = .ok (.ifCond .lt off, 3)) (ht : (pc : Int) + off = (tgt : Int)) (hp : pc + 3 = pc') (kt : x < 0 → AW own nm cc nL ret d md mc ms Q tgt L st h kc kn) (kf : ¬ x < 0 → AW own nm cc nL ret d md mc ms Q pc' L st h kc kn) : AW own nm cc nL ret d md mc ms Q pc L (.int x :: st) h kc kn := by
  subst hp
  intro p l e R s m args below meth c D dA b lim gr H locs ls C S P hL
  exact lv_if_lt C.1 C.2.1 hd ht (fun q => kt q p l e R s m args below meth c D dA b lim gr H locs ls C S P hL) (fun q => kf q p l e R s m args below meth c D dA b lim gr H locs ls C S P hL)
theorem aw_if_ge {x : Int32} {off : Int} {tgt : Nat} (hd : decode cc pc = .ok (.ifCond .ge off, 3)) (ht : (pc : Int) + off = (tgt : Int)) (hp : pc + 3 = pc') (kt : 0 ≤ x → AW own nm cc nL ret d md mc ms Q tgt L st h kc kn) (kf : ¬ 0 ≤ x → AW own nm cc nL ret d md mc ms Q pc' L st h kc kn) : AW own nm cc nL ret d md mc ms Q pc L (.int x :: st) h kc kn := by
  subst hp
  intro p l e R s m args below meth c D dA b lim gr H locs ls C S P hL
  exact lv_if_ge C.1 C.2.1 hd ht (fun q => kt q p l e R s m args below meth c D dA b lim gr H locs ls C S P hL) (fun q => kf q p l e R s m args below meth c D dA b lim gr H locs ls C S P hL)
theorem aw_if_gt {x : Int32} {off : Int} {tgt : Nat} (hd : decode cc pc = .ok (.ifCond .gt off, 3)) (ht : (pc : Int) + off = (tgt : Int)) (hp : pc + 3 = pc') (kt : 0 < x → AW own nm cc nL ret d md mc ms Q tgt L st h kc kn) (kf : ¬ 0 < x → AW own nm cc nL ret d md mc ms Q pc' L st h kc kn) : AW own nm cc nL ret d md mc ms Q pc L (.int x :: st) h kc kn := by
  subst hp
  intro p l e R s m args below meth c D dA b lim gr H locs ls C S P hL
  exact lv_if_gt C.1 C.2.1 hd ht (fun q => kt q p l e R s m args below meth c D dA b lim gr H locs ls C S P hL) (fun q => kf q p l e R s m args below meth c D dA b lim gr H locs ls C S P hL)
theorem aw_if_le {x : Int32} {off : Int} {tgt : Nat} (hd : decode cc pc = .ok (.ifCond .le off, 3)) (ht : (pc : Int) + off = (tgt : Int)) (hp : pc + 3 = pc') (kt : x ≤ 0 → AW own nm cc nL ret d md mc ms Q tgt L st h kc kn) (kf : ¬ x ≤ 0 → AW own nm cc nL ret d md mc ms Q pc' L st h kc kn) : AW own nm cc nL ret d md mc ms Q pc L (.int x :: st) h kc kn := by
  subst hp
  intro p l e R s m args below meth c D dA b lim gr H locs ls C S P hL
  exact lv_if_le C.1 C.2.1 hd ht (fun q => kt q p l e R s m args below meth c D dA b lim gr H locs ls C S P hL) (fun q => kf q p l e R s m args below meth c D dA b lim gr H locs ls C S P hL)
theorem aw_icmp_eq {x y : Int32} {off : Int} {tgt : Nat} (hd : decode cc pc = .ok (.if_icmp .eq off, 3)) (ht : (pc : Int) + off = (tgt : Int)) (hp : pc + 3 = pc') (kt : x = y → AW own nm cc nL ret d md mc ms Q tgt L st h kc kn) (kf : ¬ x = y → AW own nm cc nL ret d md mc ms Q pc' L st h kc kn) : AW own nm cc nL ret d md mc ms Q pc L (.int y :: .int x :: st) h kc kn := by
  subst hp
  intro p l e R s m args below meth c D dA b lim gr H locs ls C S P hL
  exact lv_icmp_eq C.1 C.2.1 hd ht (fun q => kt q p l e R s m args below meth c D dA b lim gr H locs ls C S P hL) (fun q => kf q p l e R s m args below meth c D dA b lim gr H locs ls C S P hL)
theorem aw_icmp_ne {x y : Int32} {off : Int} {tgt : Nat} (hd : decode cc pc = .ok (.if_icmp .ne off, 3)) (ht : (pc : Int) + off = (tgt : Int)) (hp : pc + 3 = pc') (kt : ¬ x = y → AW own nm cc nL ret d md mc ms Q tgt L st h kc kn) (kf : x = y → AW own nm cc nL ret d md mc ms Q pc' L st h kc kn) : AW own nm cc nL ret d md mc ms Q pc L (.int y :: .int x :: st) h kc kn := by
  subst hp
  intro p l e R s m args below meth c D dA b lim gr H locs ls C S P hL
  exact lv_icmp_ne C.1 C.2.1 hd ht (fun q => kt q p l e R s m args below meth c D dA b lim gr H locs ls C S P hL) (fun q => kf q p l e R s m args below meth c D dA b lim gr H locs ls C S P hL)
theorem aw_icmp_lt {x y : Int32} {off : Int} {tgt : Nat} (hd : decode cc pc = .ok (.if_icmp .lt off, 3)) (ht : (pc : Int) + off = (tgt : Int)) (hp : pc + 3 = pc') (kt : x < y → AW own nm cc nL ret d md mc ms Q tgt L st h kc kn) (kf : ¬ x < y → AW own nm cc nL ret d md mc ms Q pc' L st h kc kn) : AW own nm cc nL ret d md mc ms Q pc L (.int y :: .int x :: st) h kc kn := by
  subst hp
  intro p l e R s m args below meth c D dA b lim gr H locs ls C S P hL
  exact lv_icmp_lt C.1 C.2.1 hd ht (fun q => kt q p l e R s m args below meth c D dA b lim gr H locs ls C S P hL) (fun q => kf q p l e R s m args below meth c D dA b lim gr H locs ls C S P hL)
theorem aw_icmp_ge {x y : Int32} {off : Int} {tgt : Nat} (hd : decode cc pc = .ok (.if_icmp .ge off, 3)) (ht : (pc : Int) + off = (tgt : Int)) (hp : pc + 3 = pc') (kt : y ≤ x → AW own nm cc nL ret d md mc ms Q tgt L st h kc kn) (kf : ¬ y ≤ x → AW own nm cc nL ret d md mc ms Q pc' L st h kc kn) : AW own nm cc nL ret d md mc ms Q pc L (.int y :: .int x :: st) h kc kn := by
  subst hp
  intro p l e R s m args below meth c D dA b lim gr H locs ls C S P hL
  exact lv_icmp_ge C.1 C.2.1 hd ht (fun q => kt q p l e R s m args below meth c D dA b lim gr H locs ls C S P hL) (fun q => kf q p l e R s m args below meth c D dA b lim gr H locs ls C S P hL)
theorem aw_icmp_gt {x y : Int32} {off : Int} {tgt : Nat} (hd : decode cc pc = .ok (.if_icmp .gt off, 3)) (ht : (pc : Int) + off = (tgt : Int)) (hp : pc + 3 = pc') (kt : y < x → AW own nm cc nL ret d md mc ms Q tgt L st h kc kn) (kf : ¬ y < x → AW own nm cc nL ret d md mc ms Q pc' L st h kc kn) : AW own nm cc nL ret d md mc ms Q pc L (.int y :: .int x :: st) h kc kn := by
  subst hp
  intro p l e R s m args below meth c D dA b lim gr H locs ls C S P hL
  exact lv_icmp_gt C.1 C.2.1 hd ht (fun q => kt q p l e R s m args below meth c D dA b lim gr H locs ls C S P hL) (fun q => kf q p l e R s m args below meth c D dA b lim gr H locs ls C S P hL)
theorem aw_icmp_le {x y : Int32} {off : Int} {tgt : Nat} (hd : decode cc pc = .ok (.if_icmp .le off, 3)) (ht : (pc : Int) + off = (tgt : Int)) (hp : pc + 3 = pc') (kt : x ≤ y → AW own nm cc nL ret d md mc ms Q tgt L st h kc kn) (kf : ¬ x ≤ y → AW own nm cc nL ret d md mc ms Q pc' L st h kc kn) : AW own nm cc nL ret d md mc ms Q pc L (.int y :: .int x :: st) h kc kn := by
  subst hp
  intro p l e R s m args below meth c D dA b lim gr H locs ls C S P hL
  exact lv_icmp_le C.1 C.2.1 hd ht (fun q => kt q p l e R s m args below meth c D dA b lim gr H locs ls C S P hL) (fun q => kf q p l e R s m args below meth c D dA b lim gr H locs ls C S P hL)
theorem aw_goto {off : Int} {tgt : Nat} (hd : decode cc pc = .ok (.goto off, 3)) (ht : (pc : Int) + off = (tgt : Int)) (k : AW own nm cc nL ret d md mc ms Q tgt L st h kc kn) : AW own nm cc nL ret d md mc ms Q pc L st h kc kn := by
  intro p l e R s m args below meth c D dA b lim gr H locs ls C S P hL
  exact lv_goto C.1 C.2.1 hd ht (k p l e R s m args below meth c D dA b lim gr H locs ls C S P hL)
theorem aw_iload_n {i : Fin 4} {x : Int32} (hd : decode cc pc = .ok (.iload_n i, 1)) (hp : pc + 1 = pc') (hl : L[(i : Nat)]? = some (some (.int x))) (k : AW own nm cc nL ret d md mc ms Q pc' L (.int x :: st) h kc kn) : AW own nm cc nL ret d md mc ms Q pc L st h kc kn := by
  subst hp
  intro p l e R s m args below meth c D dA b lim gr H locs ls C S P hL
  exact lv_iload_n C.1 C.2.1 hd rfl (hL.at hl) (k p l e R s m args below meth c D dA b lim gr H locs ls C S P hL)
theorem aw_iload {i : Nat} {x : Int32} (hd : decode cc pc = .ok (.iload i, 2)) (hp : pc + 2 = pc') (hl : L[i]? = some (some (.int x))) (k : AW own nm cc nL ret d md mc ms Q pc' L (.int x :: st) h kc kn) : AW own nm cc nL ret d md mc ms Q pc L st h kc kn := by
  subst hp
  intro p l e R s m args below meth c D dA b lim gr H locs ls C S P hL
  exact lv_iload C.1 C.2.1 hd (hL.at hl) (k p l e R s m args below meth c D dA b lim gr H locs ls C S P hL)
theorem aw_lload_n {i : Fin 4} {x : Int64} (hd : decode cc pc = .ok (.lload_n i, 1)) (hp : pc + 1 = pc') (hl : L[(i : Nat)]? = some (some (.long x))) (k : AW own nm cc nL ret d md mc ms Q pc' L (.long x :: st) h kc kn) : AW own nm cc nL ret d md mc ms Q pc L st h kc kn := by
  subst hp
  intro p l e R s m args below meth c D dA b lim gr H locs ls C S P hL
  exact lv_lload_n C.1 C.2.1 hd rfl (hL.at hl) (k p l e R s m args below meth c D dA b lim gr H locs ls C S P hL)
theorem aw_lload {i : Nat} {x : Int64} (hd : decode cc pc = .ok (.lload i, 2)) (hp : pc + 2 = pc') (hl : L[i]? = some (some (.long x))) (k : AW own nm cc nL ret d md mc ms Q pc' L (.long x :: st) h kc kn) : AW own nm cc nL ret d md mc ms Q pc L st h kc kn := by
  subst hp
  intro p l e R s m args below meth c D dA b lim gr H locs ls C S P hL
  exact lv_lload C.1 C.2.1 hd (hL.at hl) (k p l e R s m args below meth c D dA b lim gr H locs ls C S P hL)
theorem aw_aload_n {i : Fin 4} {x : Nat} (hd : decode cc pc = .ok (.aload_n i, 1)) (hp : pc + 1 = pc') (hl : L[(i : Nat)]? = some (some (.ref x))) (k : AW own nm cc nL ret d md mc ms Q pc' L (.ref x :: st) h kc kn) : AW own nm cc nL ret d md mc ms Q pc L st h kc kn := by
  subst hp
  intro p l e R s m args below meth c D dA b lim gr H locs ls C S P hL
  exact lv_aload_n C.1 C.2.1 hd rfl (hL.at hl) (k p l e R s m args below meth c D dA b lim gr H locs ls C S P hL)
theorem aw_aload {i : Nat} {x : Nat} (hd : decode cc pc = .ok (.aload i, 2)) (hp : pc + 2 = pc') (hl : L[i]? = some (some (.ref x))) (k : AW own nm cc nL ret d md mc ms Q pc' L (.ref x :: st) h kc kn) : AW own nm cc nL ret d md mc ms Q pc L st h kc kn := by
  subst hp
  intro p l e R s m args below meth c D dA b lim gr H locs ls C S P hL
  exact lv_aload C.1 C.2.1 hd (hL.at hl) (k p l e R s m args below meth c D dA b lim gr H locs ls C S P hL)
theorem aw_clr_at {L : List (Option Value)} {i j : Nat} {u : Value} (h : (aw_clr L i)[j]? = some (some u)) : L[j]? = some (some u) ∧ ¬ (j + 1 = i ∧ u.category = 2) := by
  cases i with
  | zero => exact ⟨h, fun q => by omega⟩
  | succ i =>
    simp only [aw_clr] at h
    split at h
    · by_cases hj : j = i
      · subst hj
        simp [List.getElem?_set] at h
      · rw [List.getElem?_set_ne (Ne.symm hj)] at h
        exact ⟨h, fun q => by omega⟩
    · by_cases hj : j = i
      · subst hj
        simp [List.getElem?_set] at h
      · rw [List.getElem?_set_ne (Ne.symm hj)] at h
        exact ⟨h, fun q => by omega⟩
    · rename_i h1 h2
      refine ⟨h, fun q => ?_⟩
      obtain ⟨q1, q2⟩ := q
      have e : j = i := by omega
      subst e
      cases u with
      | long x => exact h1 x h
      | double x => exact h2 x h
      | _ => simp [Value.category] at q2
theorem aw_st1 {b i : Nat} {L : List (Option Value)} {v : Value} {lv : List (Nat × Value)} (h2 : ∀ (i : Nat) (v : Value), L[i]? = some (some v) → (i, aw_v b v) ∈ lv) : ∀ (j : Nat) (u : Value), (aw_s1 L i v)[j]? = some (some u) → (j, aw_v b u) ∈ (i, aw_v b v) :: lv.filter (fun q => !(q.1 == i) && !(q.1 + 1 == i && q.2.category == 2)) := by
  intro j u hj
  unfold aw_s1 at hj
  by_cases e : j = i
  · subst e
    rw [List.getElem?_set] at hj
    simp at hj
    rw [← hj.2]
    exact List.mem_cons_self
  · rw [List.getElem?_set_ne (Ne.symm e)] at hj
    obtain ⟨g1, g2⟩ := aw_clr_at hj
    refine List.mem_cons_of_mem _ (List.mem_filter.mpr ⟨h2 j u g1, ?_⟩)
    simp only [aw_cat, Bool.and_eq_true, Bool.not_eq_true', beq_eq_false_iff_ne, ne_eq, Bool.and_eq_false_iff]
    refine ⟨e, ?_⟩
    by_cases e2 : j + 1 = i
    · exact Or.inr (fun q => g2 ⟨e2, q⟩)
    · exact Or.inl e2
theorem aw_st2 {b i : Nat} {L : List (Option Value)} {v : Value} {lv : List (Nat × Value)} (h2 : ∀ (i : Nat) (v : Value), L[i]? = some (some v) → (i, aw_v b v) ∈ lv) : ∀ (j : Nat) (u : Value), (aw_s2 L i v)[j]? = some (some u) → (j, aw_v b u) ∈ (i, aw_v b v) :: lv.filter (fun q => !(q.1 == i) && (!(q.1 == i + 1) && !(q.1 + 1 == i && q.2.category == 2))) := by
  intro j u hj
  unfold aw_s2 at hj
  by_cases e : j = i
  · subst e
    rw [List.getElem?_set] at hj
    simp at hj
    rw [← hj.2]
    exact List.mem_cons_self
  · rw [List.getElem?_set_ne (Ne.symm e)] at hj
    by_cases e1 : j = i + 1
    · subst e1
      simp [List.getElem?_set] at hj
    · rw [List.getElem?_set_ne (Ne.symm e1)] at hj
      obtain ⟨g1, g2⟩ := aw_clr_at hj
      refine List.mem_cons_of_mem _ (List.mem_filter.mpr ⟨h2 j u g1, ?_⟩)
      simp only [aw_cat, Bool.and_eq_true, Bool.not_eq_true', beq_eq_false_iff_ne, ne_eq, Bool.and_eq_false_iff]
      refine ⟨e, e1, ?_⟩
      by_cases e2 : j + 1 = i
      · exact Or.inr (fun q => g2 ⟨e2, q⟩)
      · exact Or.inl e2
theorem aw_istore_n {i : Fin 4} {x : Int32} (hd : decode cc pc = .ok (.istore_n i, 1)) (hp : pc + 1 = pc') (hn : (i : Nat) < nL) (e : aw_s1 L i (.int x) = L') (k : AW own nm cc nL ret d md mc ms Q pc' L' st h kc kn) : AW own nm cc nL ret d md mc ms Q pc L (.int x :: st) h kc kn := by
  subst hp e
  intro p l e R s m args below meth c D dA b lim gr H locs ls C S P hL
  obtain ⟨lv, h1, h2⟩ := hL
  exact lv_istore_n C.1 C.2.1 hd rfl h1 hn rfl (fun ls' h' => k p l e R s m args below meth c D dA b lim gr H locs ls' C S P ⟨_, h', aw_st1 h2⟩)
theorem aw_istore {i : Nat} {x : Int32} (hd : decode cc pc = .ok (.istore i, 2)) (hp : pc + 2 = pc') (hn : i < nL) (e : aw_s1 L i (.int x) = L') (k : AW own nm cc nL ret d md mc ms Q pc' L' st h kc kn) : AW own nm cc nL ret d md mc ms Q pc L (.int x :: st) h kc kn := by
  subst hp e
  intro p l e R s m args below meth c D dA b lim gr H locs ls C S P hL
  obtain ⟨lv, h1, h2⟩ := hL
  exact lv_istore C.1 C.2.1 hd h1 hn rfl (fun ls' h' => k p l e R s m args below meth c D dA b lim gr H locs ls' C S P ⟨_, h', aw_st1 h2⟩)
theorem aw_lstore_n {i : Fin 4} {x : Int64} (hd : decode cc pc = .ok (.lstore_n i, 1)) (hp : pc + 1 = pc') (hn : (i : Nat) + 1 < nL) (e : aw_s2 L i (.long x) = L') (k : AW own nm cc nL ret d md mc ms Q pc' L' st h kc kn) : AW own nm cc nL ret d md mc ms Q pc L (.long x :: st) h kc kn := by
  subst hp e
  intro p l e R s m args below meth c D dA b lim gr H locs ls C S P hL
  obtain ⟨lv, h1, h2⟩ := hL
  exact lv_lstore_n C.1 C.2.1 hd rfl h1 hn rfl (fun ls' h' => k p l e R s m args below meth c D dA b lim gr H locs ls' C S P ⟨_, h', aw_st2 h2⟩)
theorem aw_lstore {i : Nat} {x : Int64} (hd : decode cc pc = .ok (.lstore i, 2)) (hp : pc + 2 = pc') (hn : i + 1 < nL) (e : aw_s2 L i (.long x) = L') (k : AW own nm cc nL ret d md mc ms Q pc' L' st h kc kn) : AW own nm cc nL ret d md mc ms Q pc L (.long x :: st) h kc kn := by
  subst hp e
  intro p l e R s m args below meth c D dA b lim gr H locs ls C S P hL
  obtain ⟨lv, h1, h2⟩ := hL
  exact lv_lstore C.1 C.2.1 hd h1 hn rfl (fun ls' h' => k p l e R s m args below meth c D dA b lim gr H locs ls' C S P ⟨_, h', aw_st2 h2⟩)
theorem aw_astore_n {i : Fin 4} {x : Nat} (hd : decode cc pc = .ok (.astore_n i, 1)) (hp : pc + 1 = pc') (hn : (i : Nat) < nL) (e : aw_s1 L i (.ref x) = L') (k : AW own nm cc nL ret d md mc ms Q pc' L' st h kc kn) : AW own nm cc nL ret d md mc ms Q pc L (.ref x :: st) h kc kn := by
  subst hp e
  intro p l e R s m args below meth c D dA b lim gr H locs ls C S P hL
  obtain ⟨lv, h1, h2⟩ := hL
  exact lv_astore_n C.1 C.2.1 hd rfl h1 hn rfl (fun ls' h' => k p l e R s m args below meth c D dA b lim gr H locs ls' C S P ⟨_, h', aw_st1 h2⟩)
theorem aw_astore {i : Nat} {x : Nat} (hd : decode cc pc = .ok (.astore i, 2)) (hp : pc + 2 = pc') (hn : i < nL) (e : aw_s1 L i (.ref x) = L') (k : AW own nm cc nL ret d md mc ms Q pc' L' st h kc kn) : AW own nm cc nL ret d md mc ms Q pc L (.ref x :: st) h kc kn := by
  subst hp e
  intro p l e R s m args below meth c D dA b lim gr H locs ls C S P hL
  obtain ⟨lv, h1, h2⟩ := hL
  exact lv_astore C.1 C.2.1 hd h1 hn rfl (fun ls' h' => k p l e R s m args below meth c D dA b lim gr H locs ls' C S P ⟨_, h', aw_st1 h2⟩)
theorem aw_iinc {i : Nat} {n : Int} {x v : Int32} (hd : decode cc pc = .ok (.iinc i n, 3)) (hp : pc + 3 = pc') (hv : Int32.ofInt n = v) (hl : L[i]? = some (some (.int x))) (hn : i < nL) (e : aw_s1 L i (.int (x + v)) = L') (k : AW own nm cc nL ret d md mc ms Q pc' L' st h kc kn) : AW own nm cc nL ret d md mc ms Q pc L st h kc kn := by
  subst hp hv e
  intro p l e R s m args below meth c D dA b lim gr H locs ls C S P hL
  obtain ⟨lv, h1, h2⟩ := hL
  obtain ⟨kk, hk⟩ := List.getElem?_of_mem (h2 i _ hl)
  exact lv_iinc C.1 C.2.1 hd h1 hk rfl hn rfl (fun ls' h' => k p l e R s m args below meth c D dA b lim gr H locs ls' C S P ⟨_, h', aw_st1 h2⟩)
theorem aw_ldc2 {index : Nat} {v : Int64} (hd : decode cc pc = .ok (.ldc2_w index, 3)) (hp : pc + 3 = pc') (hw : Cond.constantLong own index v ∈ wsAll) (k : AW own nm cc nL ret d md mc ms Q pc' L (.long v :: st) h kc kn) : AW own nm cc nL ret d md mc ms Q pc L st h kc kn := by
  subst hp
  intro p l e R s m args below meth c D dA b lim gr H locs ls C S P hL
  exact lv_ldc2 C.1 C.2.1 C.2.2.2.1 (C.2.2.2.2.1 _ hw) hd (k p l e R s m args below meth c D dA b lim gr H locs ls C S P hL)
theorem aw_ldc {index : Nat} {v : Int32} (hd : decode cc pc = .ok (.ldc index, 2)) (hp : pc + 2 = pc') (hw : Cond.constant own index v ∈ wsAll) (k : AW own nm cc nL ret d md mc ms Q pc' L (.int v :: st) h kc kn) : AW own nm cc nL ret d md mc ms Q pc L st h kc kn := by
  subst hp
  intro p l e R s m args below meth c D dA b lim gr H locs ls C S P hL
  exact lv_ldc C.1 C.2.1 C.2.2.2.1 (C.2.2.2.2.1 _ hw) hd (k p l e R s m args below meth c D dA b lim gr H locs ls C S P hL)
theorem aw_ireturn {x : Int32} (hr : ret = some .int) (hd : decode cc pc = .ok (.ireturn, 1)) (hc : kc ≤ mc) (hn : kn ≤ ms) (hq : Q (some (.int x)) h) : AW own nm cc nL ret d md mc ms Q pc L [.int x] h kc kn := by
  intro p l e R s m args below meth c D dA b lim gr H locs ls C S P hL
  refine W.widen (k := mc) (n := ms) hc hn ?_
  exact W.iret (v := x) C.1 C.2.1 (C.2.2.2.2.2.1.trans hr) (fun t ht hW => ⟨⟨some (.int x), h, rfl, hq, by rw [ht]; exact P⟩, S.F ht⟩) S.2.2 hd C.2.2.2.2.2.2.1
theorem aw_zreturn {x : Int32} {ty : FieldType} (hr : ret = some ty) (hx : narrow ty (.int x) = .int x) (hd : decode cc pc = .ok (.ireturn, 1)) (hc : kc ≤ mc) (hn : kn ≤ ms) (hq : Q (some (.int x)) h) : AW own nm cc nL ret d md mc ms Q pc L [.int x] h kc kn := by
  intro p l e R s m args below meth c D dA b lim gr H locs ls C S P hL
  refine W.widen (k := mc) (n := ms) hc hn ?_
  exact W.zret (v := x) C.1 C.2.1 (C.2.2.2.2.2.1.trans hr) hx (fun t ht hW => ⟨⟨some (.int x), h, rfl, hq, by rw [ht]; exact P⟩, S.F ht⟩) S.2.2 hd C.2.2.2.2.2.2.1
theorem aw_lreturn {x : Int64} (hr : ret = some .long) (hd : decode cc pc = .ok (.lreturn, 1)) (hc : kc ≤ mc) (hn : kn ≤ ms) (hq : Q (some (.long x)) h) : AW own nm cc nL ret d md mc ms Q pc L [.long x] h kc kn := by
  intro p l e R s m args below meth c D dA b lim gr H locs ls C S P hL
  refine W.widen (k := mc) (n := ms) hc hn ?_
  exact W.lret (v := x) C.1 C.2.1 (C.2.2.2.2.2.1.trans hr) (fun t ht hW => ⟨⟨some (.long x), h, rfl, hq, by rw [ht]; exact P⟩, S.F ht⟩) S.2.2 hd C.2.2.2.2.2.2.1
theorem aw_return (hr : ret = none) (hd : decode cc pc = .ok (.return_, 1)) (hc : kc ≤ mc) (hn : kn ≤ ms) (hq : Q none h) : AW own nm cc nL ret d md mc ms Q pc L [] h kc kn := by
  intro p l e R s m args below meth c D dA b lim gr H locs ls C S P hL
  refine W.widen (k := mc) (n := ms) hc hn ?_
  exact W.vret C.1 C.2.1 (C.2.2.2.2.2.1.trans hr) (fun t ht hW => ⟨⟨none, h, rfl, hq, by rw [ht]; exact P⟩, S.F ht⟩) S.2.2 hd C.2.2.2.2.2.2.1
theorem aw_ldcw {index : Nat} {v : Int32} (hd : decode cc pc = .ok (.ldc_w index, 3)) (hp : pc + 3 = pc') (hw : Cond.constant own index v ∈ wsAll) (k : AW own nm cc nL ret d md mc ms Q pc' L (.int v :: st) h kc kn) : AW own nm cc nL ret d md mc ms Q pc L st h kc kn := by
  subst hp
  intro p l e R s m args below meth c D dA b lim gr H locs ls C S P hL
  exact lv_ldcw C.1 C.2.1 C.2.2.2.1 (C.2.2.2.2.1 _ hw) hd (k p l e R s m args below meth c D dA b lim gr H locs ls C S P hL)
def aw_fl (own : String) (index ci k : Nat) (CC : String) (T : u_T) (N : Nat) : Prop := vwCl[ci]? = some (CC, T, N) ∧ (∀ w ∈ u_ws CC T N, w ∈ wsAll) ∧ k < N ∧ Cond.fieldLink own index (T k).1 (T k).2.1 (T k).2.2.1 ∈ wsAll
def aw_ty (T : u_T) (N : Nat) (ty0 : Nat → FieldType) : Prop := (∀ k, k < N → parseFieldDescriptor (T k).2.2.1 = some (ty0 k)) ∧ ∀ a, a < N → ∀ b, b < N → a ≠ b → (T a).2.1 ≠ (T b).2.1
theorem aw_get {N ci index k q : Nat} {CC : String} {T : u_T} {fs : List Value} {v : Value} (hd : decode cc pc = .ok (.getfield index, 3)) (hp : pc + 3 = pc') (F : aw_fl own index ci k CC T N) (he : h[q]? = some (.inr (ci, fs))) (hv : fs[k]? = some v) (kk : AW own nm cc nL ret d md mc ms Q pc' L (v :: st) h kc kn) : AW own nm cc nL ret d md mc ms Q pc L (.ref q :: st) h kc kn := by
  subst hp
  intro p l e R s m args below meth c D dA b lim gr H locs ls C S P hL
  obtain ⟨hc, hin, hk, hl⟩ := F
  exact va_get (D := D) (cl := vwCl) (ci := ci) (v := aw_v b v) (ws := [(b + q, aw_e b dA (.inr (ci, fs)))]) (tys := []) C.1 C.2.1 C.2.2.2.2.1 hin C.2.2.2.1 C.2.2.2.2.2.2.2.2.2.1.nil (P.one he) 0 rfl hc k hk (C.2.2.2.2.1 _ hl) (fun _ x => x) (by rw [List.getElem?_map, hv]; rfl) hd (kk p l e R s m args below meth c D dA b lim gr H locs ls C S P hL)
theorem aw_put {N ci index k q : Nat} {CC : String} {T : u_T} {fs : List Value} {v : Value} {ty : FieldType} {ty0 : Nat → FieldType} (hd : decode cc pc = .ok (.putfield index, 3)) (hp : pc + 3 = pc') (F : aw_fl own index ci k CC T N) (Y : aw_ty T N ty0) (hfin : (T k).2.2.2 = false) (hdsc : parseFieldDescriptor (T k).2.2.1 = some ty) (hn : ∀ b, narrow ty (aw_v b v) = aw_v b v) (hfit : ∀ b, fits ty (aw_v b v) = true) (he : h[q]? = some (.inr (ci, fs))) (hlen : k < fs.length) (hh : h.set q (.inr (ci, fs.set k v)) = h') (kk : AW own nm cc nL ret d md mc ms Q pc' L st h' kc kn) : AW own nm cc nL ret d md mc ms Q pc L (v :: .ref q :: st) h kc kn := by
  subst hp hh
  intro p l e R s m args below meth c D dA b lim gr H locs ls C S P hL
  obtain ⟨hc, hin, hk, hl⟩ := F
  obtain ⟨hty, hnm⟩ := Y
  have hts := C.2.2.2.2.1
  have hown := C.2.2.2.1
  have hK := C.2.2.2.2.2.2.2.2.2.1
  have hap := va_apart (own := own) hts hin ty0 hty hnm hK.nil hc
  obtain ⟨r, h1, cell, q1, q2, q3, q4⟩ := P.2.2 q _ he
  have hr : r = (CC, T, N) := Option.some.inj (h1.symm.trans hc)
  subst hr
  obtain ⟨hS, hfc, kC, hkC, hkind⟩ := hK.1 ci _ hc
  obtain ⟨cf, kf, fi, f, hi, hsl⟩ := hS k hk
  have hlay := hts _ (hin _ (u_in_lay hk))
  unfold u_lay at hlay
  rw [if_neg (by rw [hfin]; decide)] at hlay
  have hst := (u_facts hfc hkC (u_lays hts hin hk) hi).1
  have h6 := u_store hfc hkC hkind hlay hi hdsc (hn b) (hfit b)
  refine W.putK C.1 C.2.1 (f := f) ⟨hown, hts _ hl, ⟨_, _, _, hi⟩, hst⟩ (by rw [q2]; exact h6) q1 q3 (by rw [hsl]; exact k2_hasslot (q4 k hk)) rfl rfl hd fun H' e1 e2 e3 => ?_
  rw [hsl] at e1 ⊢
  have hql : q < h.length := (List.getElem?_eq_some_iff.mp he).1
  refine kk p l e R s m args below meth c D dA b lim gr H' _ ls C (S.put e2 e3 (P.inA hql)) (P.put hql e2 ?_ e3) hL
  show va_at D vwCl (b + q, .inr (ci, (fs.set k v).map (aw_v b))) H'
  rw [List.map_set]
  exact ⟨_, hc, t_OB.to (V := updV (vp_V (fs.map (aw_v b))) k (aw_v b v)) ⟨_, e1, q2, q3, t_set q4 hap hk _⟩ (fun j _ => vp_updV_set (by rw [List.length_map]; exact hlen) _ j)⟩
theorem aw_putF {N ci index k q : Nat} {CC : String} {T : u_T} {fs : List Value} {v : Value} {ty : FieldType} {ty0 : Nat → FieldType} (hd : decode cc pc = .ok (.putfield index, 3)) (hp : pc + 3 = pc') (F : aw_fl own index ci k CC T N) (Y : aw_ty T N ty0) (hfin : (T k).2.2.2 = true) (hini : nm = "<init>") (hdecl : (T k).1 = own) (hdsc : parseFieldDescriptor (T k).2.2.1 = some ty) (hn : ∀ b, narrow ty (aw_v b v) = aw_v b v) (hfit : ∀ b, fits ty (aw_v b v) = true) (he : h[q]? = some (.inr (ci, fs))) (hlen : k < fs.length) (hh : h.set q (.inr (ci, fs.set k v)) = h') (kk : AW own nm cc nL ret d md mc ms Q pc' L st h' kc kn) : AW own nm cc nL ret d md mc ms Q pc L (v :: .ref q :: st) h kc kn := by
  subst hp hh
  intro p l e R s m args below meth c D dA b lim gr H locs ls C S P hL
  obtain ⟨hc, hin, hk, hl⟩ := F
  obtain ⟨hty, hnm⟩ := Y
  have hts := C.2.2.2.2.1
  have hown := C.2.2.2.1
  have hK := C.2.2.2.2.2.2.2.2.2.1
  have hap := va_apart (own := own) hts hin ty0 hty hnm hK.nil hc
  obtain ⟨r, h1, cell, q1, q2, q3, q4⟩ := P.2.2 q _ he
  have hr : r = (CC, T, N) := Option.some.inj (h1.symm.trans hc)
  subst hr
  obtain ⟨hS, hfc, kC, hkC, hkind⟩ := hK.1 ci _ hc
  obtain ⟨cf, kf, fi, f, hi, hsl⟩ := hS k hk
  have hlay := hts _ (hin _ (u_in_lay hk))
  unfold u_lay at hlay
  rw [if_pos hfin] at hlay
  have hst := (u_facts hfc hkC (u_lays hts hin hk) hi).1
  have hcf : m.cls = cf := by
    obtain ⟨_, _, c', _, _, _, -, -, hf', -, -, -, hown2, -⟩ := Cond.laysFinal_spec hlay
    have e1 : c' = cf := by have := hi.symm.trans hf'; simp at this; exact this.1.symm
    rw [hdecl] at hown2
    rw [← e1]; exact Option.some.inj (hown.symm.trans hown2)
  have h6 := u_fits hfc hkC hkind (Or.inr hlay) hi hdsc (hn b) (hfit b)
  refine W.putFinK C.1 C.2.1 hown (hts _ hl) hi hst hcf (C.2.2.2.2.2.2.2.1.trans hini) (by rw [q2]; exact h6) q1 q3 (by rw [hsl]; exact k2_hasslot (q4 k hk)) rfl rfl hd fun H' e1 e2 e3 => ?_
  rw [hsl] at e1 ⊢
  have hql : q < h.length := (List.getElem?_eq_some_iff.mp he).1
  refine kk p l e R s m args below meth c D dA b lim gr H' _ ls C (S.put e2 e3 (P.inA hql)) (P.put hql e2 ?_ e3) hL
  show va_at D vwCl (b + q, .inr (ci, (fs.set k v).map (aw_v b))) H'
  rw [List.map_set]
  exact ⟨_, hc, t_OB.to (V := updV (vp_V (fs.map (aw_v b))) k (aw_v b v)) ⟨_, e1, q2, q3, t_set q4 hap hk _⟩ (fun j _ => vp_updV_set (by rw [List.length_map]; exact hlen) _ j)⟩
def aw_fp (own : String) (index ci k : Nat) (CC : String) (T : u_T) (N : Nat) (ty : FieldType) : Prop := aw_fl own index ci k CC T N ∧ (∃ ty0, aw_ty T N ty0) ∧ (T k).2.2.2 = false ∧ parseFieldDescriptor (T k).2.2.1 = some ty
theorem aw_puti {N ci index k q : Nat} {CC : String} {T : u_T} {fs : List Value} {x : Int32} (hd : decode cc pc = .ok (.putfield index, 3)) (hp : pc + 3 = pc') (X : aw_fp own index ci k CC T N .int)  (he : h[q]? = some (.inr (ci, fs))) (hlen : k < fs.length) (hh : h.set q (.inr (ci, fs.set k (.int x))) = h') (kk : AW own nm cc nL ret d md mc ms Q pc' L st h' kc kn) : AW own nm cc nL ret d md mc ms Q pc L (.int x :: .ref q :: st) h kc kn := by
  obtain ⟨F, ⟨ty0, Y⟩, hfin, hds⟩ := X
  exact aw_put hd hp F Y hfin hds (fun _ => vp_nar_int x) (fun _ => rfl) he hlen hh kk
theorem aw_putz {N ci index k q : Nat} {CC : String} {T : u_T} {fs : List Value} {x : Int32} (hd : decode cc pc = .ok (.putfield index, 3)) (hp : pc + 3 = pc') (X : aw_fp own index ci k CC T N .boolean) (g : narrow .boolean (.int x) = .int x ∧ fits .boolean (.int x) = true) (he : h[q]? = some (.inr (ci, fs))) (hlen : k < fs.length) (hh : h.set q (.inr (ci, fs.set k (.int x))) = h') (kk : AW own nm cc nL ret d md mc ms Q pc' L st h' kc kn) : AW own nm cc nL ret d md mc ms Q pc L (.int x :: .ref q :: st) h kc kn := by
  obtain ⟨F, ⟨ty0, Y⟩, hfin, hds⟩ := X
  exact aw_put hd hp F Y hfin hds (fun _ => g.1) (fun _ => g.2) he hlen hh kk
theorem aw_putj {N ci index k q : Nat} {CC : String} {T : u_T} {fs : List Value} {x : Int64} (hd : decode cc pc = .ok (.putfield index, 3)) (hp : pc + 3 = pc') (X : aw_fp own index ci k CC T N .long)  (he : h[q]? = some (.inr (ci, fs))) (hlen : k < fs.length) (hh : h.set q (.inr (ci, fs.set k (.long x))) = h') (kk : AW own nm cc nL ret d md mc ms Q pc' L st h' kc kn) : AW own nm cc nL ret d md mc ms Q pc L (.long x :: .ref q :: st) h kc kn := by
  obtain ⟨F, ⟨ty0, Y⟩, hfin, hds⟩ := X
  exact aw_put hd hp F Y hfin hds (fun _ => rfl) (fun _ => rfl) he hlen hh kk
theorem aw_iald {q t n : Nat} {f : Nat → Int32} {i : Int32} (hd : decode cc pc = .ok (.iaload, 1)) (hp : pc + 1 = pc') (ht : tyTab[t]? = some .int) (he : h[q]? = some (.inl (t, n, .inl f))) (hin : vp_in i n) (kk : AW own nm cc nL ret d md mc ms Q pc' L (.int (f i.toNatClampNeg) :: st) h kc kn) : AW own nm cc nL ret d md mc ms Q pc L (.int i :: .ref q :: st) h kc kn := by
  subst hp
  intro p l e R s m args below meth c D dA b lim gr H locs ls C S P hL
  exact va_iald C.1 C.2.1 (C.2.2.2.2.2.2.2.2.2.1.one ht) (P.one he) 0 0 rfl rfl hin hd (kk p l e R s m args below meth c D dA b lim gr H locs ls C S P hL)
theorem aw_bald {q t n : Nat} {f : Nat → Int32} {i : Int32} (hd : decode cc pc = .ok (.baload, 1)) (hp : pc + 1 = pc') (ht : tyTab[t]? = some .byte) (he : h[q]? = some (.inl (t, n, .inl f))) (hin : vp_in i n) (kk : AW own nm cc nL ret d md mc ms Q pc' L (.int (f i.toNatClampNeg) :: st) h kc kn) : AW own nm cc nL ret d md mc ms Q pc L (.int i :: .ref q :: st) h kc kn := by
  subst hp
  intro p l e R s m args below meth c D dA b lim gr H locs ls C S P hL
  exact va_bald C.1 C.2.1 (C.2.2.2.2.2.2.2.2.2.1.one ht) (P.one he) 0 0 rfl rfl hin hd (kk p l e R s m args below meth c D dA b lim gr H locs ls C S P hL)
theorem aw_lald {q t n : Nat} {f : Nat → Int64} {i : Int32} (hd : decode cc pc = .ok (.laload, 1)) (hp : pc + 1 = pc') (ht : tyTab[t]? = some .long) (he : h[q]? = some (.inl (t, n, .inr (.inl f)))) (hin : vp_in i n) (kk : AW own nm cc nL ret d md mc ms Q pc' L (.long (f i.toNatClampNeg) :: st) h kc kn) : AW own nm cc nL ret d md mc ms Q pc L (.int i :: .ref q :: st) h kc kn := by
  subst hp
  intro p l e R s m args below meth c D dA b lim gr H locs ls C S P hL
  exact va_lald C.1 C.2.1 (C.2.2.2.2.2.2.2.2.2.1.one ht) (P.one he) 0 0 rfl rfl hin hd (kk p l e R s m args below meth c D dA b lim gr H locs ls C S P hL)
theorem aw_a_len (b : Nat) (a : vp_A) : (aw_a b a).1 = a.1 := by
  obtain ⟨n, f | f | f | f | f⟩ := a <;> rfl
theorem aw_alen {q t n : Nat} {a : (Nat → Int32) ⊕ (Nat → Int64) ⊕ (Nat → UInt32) ⊕ (Nat → UInt64) ⊕ (Nat → Option Nat)} {ty : FieldType} (hd : decode cc pc = .ok (.arraylength, 1)) (hp : pc + 1 = pc') (ht : tyTab[t]? = some ty) (he : h[q]? = some (.inl (t, n, a))) (kk : AW own nm cc nL ret d md mc ms Q pc' L (.int (nI n) :: st) h kc kn) : AW own nm cc nL ret d md mc ms Q pc L (.ref q :: st) h kc kn := by
  subst hp
  intro p l e R s m args below meth c D dA b lim gr H locs ls C S P hL
  exact va_alen C.1 C.2.1 (C.2.2.2.2.2.2.2.2.2.1.one ht) (P.one he) 0 0 rfl rfl (by rw [aw_a_len]; rfl) hd (kk p l e R s m args below meth c D dA b lim gr H locs ls C S P hL)
theorem aw_iast {q t n : Nat} {f : Nat → Int32} {i : Int32} {x : Int32} (hd : decode cc pc = .ok (.iastore, 1)) (hp : pc + 1 = pc') (ht : tyTab[t]? = some .int) (he : h[q]? = some (.inl (t, n, .inl f))) (hin : vp_in i n) (hh : h.set q (.inl (t, n, .inl (upd f i.toNatClampNeg x))) = h') (kk : AW own nm cc nL ret d md mc ms Q pc' L st h' kc kn) : AW own nm cc nL ret d md mc ms Q pc L (.int x :: .int i :: .ref q :: st) h kc kn := by
  subst hp hh
  intro p l e R s m args below meth c D dA b lim gr H locs ls C S P hL
  have hK := C.2.2.2.2.2.2.2.2.2.1.one ht
  have hql : q < h.length := (List.getElem?_eq_some_iff.mp he).1
  refine W.iast C.1 C.2.1 (P.2.2 q _ he) ((hK.2 0 _ rfl).1 n (fun j => .int (f j))) (fun q => by cases q) (by show ¬ (i < 0 ∨ (arrV _ _ _).slots.size ≤ _); rw [arrV_size]; exact hin) rfl rfl hd fun H1 e1 z oq => ?_
  refine kk p l e R s m args below meth c D dA b lim gr H1 _ ls C (S.put z oq (P.inA hql)) (P.put hql z ?_ oq) hL
  show H1[b + q]? = some (vp_cell _ _)
  rw [e1]
  show some (Cell.setSlot (vp_cell _ (n, .inl f)) _ _) = some (vp_cell _ (n, .inl _))
  rw [vp_cell_i, vp_cell_i, arrV_store]
  congr 2
  funext j
  by_cases hj : j = i.toNatClampNeg
  · subst hj
    simp [updV, upd]
    try rfl
  · simp [updV, upd, hj]
theorem aw_bast {q t n : Nat} {f : Nat → Int32} {i : Int32} {x : Int32} (hd : decode cc pc = .ok (.bastore, 1)) (hp : pc + 1 = pc') (ht : tyTab[t]? = some .byte) (he : h[q]? = some (.inl (t, n, .inl f))) (hin : vp_in i n) (hh : h.set q (.inl (t, n, .inl (upd f i.toNatClampNeg (vp_nar .byte x)))) = h') (kk : AW own nm cc nL ret d md mc ms Q pc' L st h' kc kn) : AW own nm cc nL ret d md mc ms Q pc L (.int x :: .int i :: .ref q :: st) h kc kn := by
  subst hp hh
  intro p l e R s m args below meth c D dA b lim gr H locs ls C S P hL
  have hK := C.2.2.2.2.2.2.2.2.2.1.one ht
  have hql : q < h.length := (List.getElem?_eq_some_iff.mp he).1
  refine W.bast C.1 C.2.1 (P.2.2 q _ he) ((hK.2 0 _ rfl).1 n (fun j => .int (f j))) (fun q => by cases q) (by show ¬ (i < 0 ∨ (arrV _ _ _).slots.size ≤ _); rw [arrV_size]; exact hin) rfl rfl hd fun H1 e1 z oq => ?_
  refine kk p l e R s m args below meth c D dA b lim gr H1 _ ls C (S.put z oq (P.inA hql)) (P.put hql z ?_ oq) hL
  show H1[b + q]? = some (vp_cell _ _)
  rw [e1]
  show some (Cell.setSlot (vp_cell _ (n, .inl f)) _ _) = some (vp_cell _ (n, .inl _))
  rw [vp_cell_i, vp_cell_i, arrV_store]
  congr 2
  funext j
  by_cases hj : j = i.toNatClampNeg
  · subst hj
    simp [updV, upd, vp_nar]
    try rfl
  · simp [updV, upd, hj]
theorem aw_last {q t n : Nat} {f : Nat → Int64} {i : Int32} {x : Int64} (hd : decode cc pc = .ok (.lastore, 1)) (hp : pc + 1 = pc') (ht : tyTab[t]? = some .long) (he : h[q]? = some (.inl (t, n, .inr (.inl f)))) (hin : vp_in i n) (hh : h.set q (.inl (t, n, .inr (.inl (vp_updL f i.toNatClampNeg x)))) = h') (kk : AW own nm cc nL ret d md mc ms Q pc' L st h' kc kn) : AW own nm cc nL ret d md mc ms Q pc L (.long x :: .int i :: .ref q :: st) h kc kn := by
  subst hp hh
  intro p l e R s m args below meth c D dA b lim gr H locs ls C S P hL
  have hK := C.2.2.2.2.2.2.2.2.2.1.one ht
  have hql : q < h.length := (List.getElem?_eq_some_iff.mp he).1
  refine W.last C.1 C.2.1 (P.2.2 q _ he) ((hK.2 0 _ rfl).1 n (fun j => .long (f j))) (fun q => by cases q) (by show ¬ (i < 0 ∨ (arrV _ _ _).slots.size ≤ _); rw [arrV_size]; exact hin) rfl rfl hd fun H1 e1 z oq => ?_
  refine kk p l e R s m args below meth c D dA b lim gr H1 _ ls C (S.put z oq (P.inA hql)) (P.put hql z ?_ oq) hL
  show H1[b + q]? = some (vp_cell _ _)
  rw [e1]
  show some (Cell.setSlot (vp_cell _ (n, .inr (.inl f))) _ _) = some (vp_cell _ (n, .inr (.inl _)))
  rw [vp_cell_l, vp_cell_l, arrV_store]
  congr 2
  funext j
  by_cases hj : j = i.toNatClampNeg
  · subst hj
    simp [updV, vp_updL]
    try rfl
  · simp [updV, vp_updL, hj]
theorem aw_newa {atype : ArrayType} {ty : FieldType} {t N : Nat} {n : Int32} {a0 : vp_A} (hmd : md = 1) (hd : decode cc pc = .ok (.newarray atype, 2)) (hp : pc + 2 = pc') (ht : tyTab[t]? = some ty) (hty : newarray.typeOf atype = ty) (hw : Cond.arrayClass (newarray.typeOf atype) ∈ wsAll) (ha : ∀ (b : Nat) (cA : ClassId), vp_cell cA (aw_a b a0) = arrV cA N (fun _ => defaultValue ty)) (hra : ∀ (U : State) (cA : ClassId), va_RA U cA ty → U.vm.findClass ("[" ++ ty.toString) = some cA) (hn : ¬ n < 0) (hN : n.toNatClampNeg = N) (hby : N * componentBytes ty ≤ 536870912) (hc : kc + 1 ≤ mc) (hs : kn + N ≤ ms) (hh : h ++ [.inl (t, a0)] = h') {q : Nat} (hq : h.length = q) (kk : AW own nm cc nL ret d md mc ms Q pc' L (.ref q :: st) h' (kc + 1) (kn + N)) : AW own nm cc nL ret d md mc ms Q pc L (.int n :: st) h kc kn := by
  subst hp hh hq
  intro p l e R s m args below meth c D dA b lim gr H locs ls C S P hL
  have hgr : gr = true := C.2.2.2.2.2.2.2.2.2.2.2.1 hmd
  subst hty
  obtain ⟨hfr, hlo, hRc, hRs⟩ := C.2.2.2.2.2.2.2.2.1
  have hK := C.2.2.2.2.2.2.2.2.2.1
  refine va_newaK C.1 C.2.1 (C.2.2.2.2.1 _ hw) rfl hd rfl hn hN hby (by rw [hRc]; exact hc) (by rw [hRs]; exact hs) (P.1 hgr) fun H1 cA e1 z1 o1 hAr hNm => ?_
  have hcA : cA = dA t := Option.some.inj (hNm.symm.trans (hra s _ (hK.2 t _ ht).2))
  subst hcA
  have hPs := P.1 hgr
  refine kk p l e R s m args below meth c D dA b lim gr H1 locs ls C ⟨Nat.le_trans S.1 (by rw [z1, hPs]; omega), fun x g1 g2 => (o1 x (by have := S.1; omega)).trans (S.2.1 x g1 g2), S.2.2⟩ (P.push hgr (by rw [z1, hPs]) ?_ (fun q hq => o1 q (by rw [← hPs]; exact hq))) hL
  show H1[b + h.length]? = some (vp_cell _ _)
  rw [ha]
  exact e1
theorem aw_new {N ci index : Nat} {CC : String} {T : u_T} {fs : List Value} {ty0 : Nat → FieldType} (hmd : md = 1) (hd : decode cc pc = .ok (.new index, 3)) (hp : pc + 3 = pc') (hc : vwCl[ci]? = some (CC, T, N)) (hin : ∀ w ∈ u_ws CC T N, w ∈ wsAll) (Y : aw_ty T N ty0) (hcl : Cond.classLink own index CC ∈ wsAll) (hins : Cond.instantiable CC N ∈ wsAll) (hini : Cond.initialized CC ∈ wsAll) (hfs : ∀ (b j : Nat), j < N → defaultValue (ty0 j) = vp_V (fs.map (aw_v b)) j) (hc1 : kc + 1 ≤ mc) (hs1 : kn + N ≤ ms) (hh : h ++ [.inr (ci, fs)] = h') {q : Nat} (hq : h.length = q) (kk : AW own nm cc nL ret d md mc ms Q pc' L (.ref q :: st) h' (kc + 1) (kn + N)) : AW own nm cc nL ret d md mc ms Q pc L st h kc kn := by
  subst hp hh hq
  intro p l e R s m args below meth c D dA b lim gr H locs ls C S P hL
  have hgr : gr = true := C.2.2.2.2.2.2.2.2.2.2.2.1 hmd
  have hPs := P.1 hgr
  obtain ⟨hfr, hlo, hRc, hRs⟩ := C.2.2.2.2.2.2.2.2.1
  have hts := C.2.2.2.2.1
  have hK := C.2.2.2.2.2.2.2.2.2.1
  have hKn := hK.1 ci _ hc
  refine W.newcK C.1 C.2.1 C.2.2.2.1 (hts _ hcl) (hts _ hins) (hts _ hini) rfl hd (by rw [hRc]; exact hc1) (by rw [hRs]; exact hs1) hKn.2.1 hPs fun H1 kC hkC e1 z1 o1 => ?_
  refine kk p l e R s m args below meth c D dA b lim gr H1 locs ls C ⟨Nat.le_trans S.1 (by rw [z1, hPs]; omega), fun x g1 g2 => (o1 x (by have := S.1; omega)).trans (S.2.1 x g1 g2), S.2.2⟩ (P.push hgr (by rw [z1, hPs]) ?_ (fun q hq => o1 q (by rw [← hPs]; exact hq))) hL
  exact ⟨_, hc, (u_born ty0 hts hin hKn hkC e1 Y.1).to (hfs b)⟩
theorem aw_objInit {index q : Nat} (hd : decode cc pc = .ok (.invokespecial index, 3)) (hp : pc + 3 = pc') (hl : Cond.methodLink own index Lib.objectInit ∈ wsAll) (hi : Cond.instanceMethod Lib.objectInit ∈ wsAll) (hcw : Cond.code Lib.objectInit ⟨#[0xb1]⟩ 1 none ∈ wsAll) (hfr : 1 ≤ d) (hst : (st.map fun v => v.category).sum ≤ 8) (kk : AW own nm cc nL ret d md mc ms Q pc' L st h kc kn) : AW own nm cc nL ret d md mc ms Q pc L (.ref q :: st) h kc kn := by
  subst hp
  intro p l e R s m args below meth c D dA b lim gr H locs ls C S P hL
  obtain ⟨lv, g1, g2⟩ := id hL
  have hts := C.2.2.2.2.1
  have hcats : ((st.map (aw_v b)).map fun v => v.category).sum ≤ 8 := by
    rw [List.map_map]
    have : ((fun v : Value => v.category) ∘ aw_v b) = fun v => v.category := funext (fun v => aw_cat b v)
    rw [this]; exact hst
  refine W.objInit C.1 C.2.1 C.2.2.2.1 (hts _ hl) (hts _ hi) (hts _ hcw) rfl (by rw [C.2.2.1]; exact g1.1) rfl hd (Nat.le_trans hfr C.2.2.2.2.2.2.2.2.1.1) (by have := C.2.2.2.2.2.2.2.2.1.2.1; show 2 * 0 + _ + 12 ≤ _; omega) ?_
  exact kk p l e R s m args below meth c D dA b lim gr H locs ls C S P hL
theorem aw_good : GoodIn wsAll wsAll := fun w hw => ⟨hw, good_of_word (List.all_eq_true.mp wsAll_good w hw)⟩
theorem aw_goodC {y : MethodName} {cy : ByteArray} {nLy : Nat} {rt : Option FieldType} (hcw : Cond.code y cy nLy rt ∈ wsAll) : GoodIn wsAll (Cond.code y cy nLy rt :: wsAll) := by
  intro w hw
  rcases List.mem_cons.mp hw with rfl | hw
  · exact aw_good _ hcw
  · exact aw_good _ hw
theorem aw_cats (b : Nat) (st : List Value) : ((st.map (aw_v b)).map fun v => v.category).sum = (st.map fun v => v.category).sum := by
  rw [List.map_map]
  have e : ((fun v : Value => v.category) ∘ aw_v b) = fun v => v.category := funext (fun v => aw_cat b v)
  rw [e]
theorem aw_blind {D : va_G} {dA : Nat → ClassId} {b lim : Nat} {gr : Bool} {h : aw_H} {av : List Value} : FrameBlind (va_Pc (av.map (aw_v b)) (fun U => aw_P D dA b lim gr h U.heap ∧ aw_K D dA U ∧ aw_N U)) := by
  intro a U g mk q
  obtain ⟨q0, qP, qK, qN⟩ := q
  exact ⟨q0, qP, aw_K.moved (u := U) (U := U.calling g mk a) (Vm.Alike.refl U.vm) qK, aw_N.same (u := U) (U := U.calling g mk a) rfl qN⟩
/- behind a call -/
theorem aw_back {mc' ms' : Nat} {Q' : Option Value → aw_H → Prop} {a : Array Value} {st0 : List Value} {p : Program} {l : Launch} {e : Env} {R : Room} {s : State} {m : MethodId} {args : Array Value} {below : List Frame} {meth : Method} {c : Code} {D : va_G} {dA : Nat → ClassId} {b lim : Nat} {gr : Bool} {H : Heap} {locs : List Loc} {ls : Array Slot}
    (hr : va_Run p l e R s m args below meth c H locs kc kn mc' ms' (F0 m pc ls st0) (st.map (aw_v b)) (aw_Qc D dA b lim gr Q' a) (aw_A b lim gr))
    (C : aw_C own nm cc nL ret d md mc ms p R s m args meth c D dA b gr) (S : va_S (aw_A b lim gr) s.heap H locs) (P : aw_P D dA b lim gr h H) (hL : aw_L b L nL ls)
    (kk : ∀ (v : Option Value) (h' : aw_H), Q' v h' → AW own nm cc nL ret d md mc ms Q (pc + 3) L (v.toList ++ st) h' (kc + mc') (kn + ms')) : W p l e R s m args below meth c H locs kc kn (MQ below (aw_Qc D dA b lim gr Q) args s mc ms (aw_A b lim gr)) (F0 m pc ls st0) := by
  intro T hT X
  obtain ⟨v, st₀, t, T', Lc, h0, X', hLc, e1, e2, ⟨⟨v0, h', hv, hq, hP'⟩, hz, hk⟩, stp⟩ := hr T hT X
  rw [h0] at hz hk
  have hS' : va_S (aw_A b lim gr) s.heap T'.heap (locs ++ Lc) := by
    refine ⟨Nat.le_trans S.1 (by rw [e1]; exact hz), fun q g1 g2 => ?_, fun q hq' => ?_⟩
    · rw [e1, hk q (Nat.lt_of_lt_of_le g1 S.1) g2]
      exact S.2.1 q g1 g2
    · rcases List.mem_append.mp hq' with g | g
      · exact S.2.2 q g
      · exact hLc q g
  have hv' : v = v0.map (aw_v b) := by cases hv; rfl
  obtain ⟨t2, a1, b1⟩ := kk v0 h' hq p l e R s m args below meth c D dA b lim gr T'.heap (locs ++ Lc) ls C hS' (by rw [e1]; exact hP') hL T' rfl X'
  refine ⟨t2, stp t2 ?_, b1⟩
  rw [hv']
  cases v0 <;> exact a1
/- the words of a call: static, virtual, <init>; a nest mate's static -/
def aw_mok (y : MethodName) (n : Nat) : Prop := y.cls ≠ "java/lang/invoke/MethodHandle" ∧ y.cls ≠ "java/lang/invoke/VarHandle" ∧ (parseMethodDescriptor y.desc).map (fun d => d.parameters.length) = some n
def aw_wS (own : String) (index : Nat) (y : MethodName) (cy : ByteArray) (nLy : Nat) (rt : Option FieldType) (n : Nat) : Prop := Cond.code y cy nLy rt ∈ wsAll ∧ Cond.initialized y.cls ∈ wsAll ∧ Cond.methodLink own index y ∈ wsAll ∧ Cond.static y ∈ wsAll ∧ aw_mok y n ∧ nLy ≤ 20
def aw_wN (own : String) (index : Nat) (y : MethodName) (cy : ByteArray) (nLy : Nat) (rt : Option FieldType) (n : Nat) (host : String) : Prop := Cond.code y cy nLy rt ∈ wsAll ∧ Cond.initialized y.cls ∈ wsAll ∧ (own, index, y, host) ∈ nwM ∧ Cond.static y ∈ wsAll ∧ aw_mok y n ∧ nLy ≤ 20
def aw_wV (own : String) (index : Nat) (y : MethodName) (cy : ByteArray) (nLy : Nat) (rt : Option FieldType) (n ci : Nat) (CC : String) (T : u_T) (N : Nat) : Prop := Cond.code y cy nLy rt ∈ wsAll ∧ Cond.initialized y.cls ∈ wsAll ∧ Cond.methodLink own index y ∈ wsAll ∧ Cond.instanceMethod y ∈ wsAll ∧ Cond.selects CC y y ∈ wsAll ∧ vwCl[ci]? = some (CC, T, N) ∧ aw_mok y n ∧ nLy ≤ 20
def aw_wI (own : String) (index : Nat) (y : MethodName) (cy : ByteArray) (nLy : Nat) (n : Nat) : Prop := Cond.code y cy nLy none ∈ wsAll ∧ Cond.initialized y.cls ∈ wsAll ∧ Cond.methodLink own index y ∈ wsAll ∧ Cond.instanceMethod y ∈ wsAll ∧ y.name = "<init>" ∧ aw_mok y n ∧ nLy ≤ 20
theorem aw_callS {y : MethodName} {cy : ByteArray} {nLy d' md' mc' ms' index n : Nat} {av : List Value} {Q' : Option Value → aw_H → Prop} {rt : Option FieldType} (hd : decode cc pc = .ok (.invokestatic index, 3)) (hp : pc + 3 = pc') (X : aw_wS own index y cy nLy rt n) (hM : AM y cy nLy rt d' md' mc' ms' av h Q') (hmd : md' = 0 ∨ md' = md) (hn : av.length = n) (hR : d' + 1 ≤ d) (hf : kc + mc' ≤ mc ∧ kn + ms' ≤ ms) (hst : (st.map fun v => v.category).sum ≤ 8) (kk : ∀ (v : Option Value) (h' : aw_H), Q' v h' → AW own nm cc nL ret d md mc ms Q pc' L (v.toList ++ st) h' (kc + mc') (kn + ms')) : AW own nm cc nL ret d md mc ms Q pc L (av.reverse ++ st) h kc kn := by
  subst hp
  intro p l e R s m args below meth c D dA b lim gr H locs ls C S P hL
  obtain ⟨hcw, hini, hlk, hsta, hy, hnl⟩ := X
  have hts := C.2.2.2.2.1
  obtain ⟨hfr, hlo, hRc, hRs⟩ := C.2.2.2.2.2.2.2.2.1
  obtain ⟨lv, g1, g2⟩ := id hL
  refine aw_back (va_runS (g := F0 m pc ls ((av.reverse ++ st).map (aw_v b))) (As := av.map (aw_v b)) (Ts := wsAll) ⟨C.1, C.2.1, C.2.2.1, C.2.2.2.1, hts⟩ (hM l D dA b lim gr (aw_md_use hmd C.2.2.2.2.2.2.2.2.2.2.2)) ⟨callB_of n hts (aw_goodC hcw) rfl rfl rfl (hts _ hini) (hts _ hlk) hy ⟨by show d' + 1 ≤ _; omega, by show 8 + (nLy + 11) + 40 * d' ≤ _; omega⟩, hts _ hsta⟩ ⟨aw_blind, fun U hU hW => ⟨rfl, by rw [hU]; exact P, C.2.2.2.2.2.2.2.2.2.1.moved hW.alike, C.2.2.2.2.2.2.2.2.2.2.1.warm hW⟩⟩ rfl (by rw [List.length_map]; exact hn) g1.1 (by show (av.reverse ++ st).map (aw_v b) = _; rw [List.map_append, List.map_reverse]) (by show 2 * 0 + _ ≤ _; rw [aw_cats]; omega) hd ⟨by rw [hRc]; exact hf.1, by rw [hRs]; exact hf.2⟩) C S P hL kk
theorem aw_callN {y : MethodName} {cy : ByteArray} {nLy d' md' mc' ms' index n : Nat} {av : List Value} {Q' : Option Value → aw_H → Prop} {rt : Option FieldType} (hd : decode cc pc = .ok (.invokestatic index, 3)) (hp : pc + 3 = pc') {host : String} (X : aw_wN own index y cy nLy rt n host) (hM : AM y cy nLy rt d' md' mc' ms' av h Q') (hmd : md' = 0 ∨ md' = md) (hn : av.length = n) (hR : d' + 1 ≤ d) (hf : kc + mc' ≤ mc ∧ kn + ms' ≤ ms) (hst : (st.map fun v => v.category).sum ≤ 8) (kk : ∀ (v : Option Value) (h' : aw_H), Q' v h' → AW own nm cc nL ret d md mc ms Q pc' L (v.toList ++ st) h' (kc + mc') (kn + ms')) : AW own nm cc nL ret d md mc ms Q pc L (av.reverse ++ st) h kc kn := by
  subst hp
  intro p l e R s m args below meth c D dA b lim gr H locs ls C S P hL
  obtain ⟨hcw, hini, hlk, hsta, hy, hnl⟩ := X
  have hts := C.2.2.2.2.1
  obtain ⟨hfr, hlo, hRc, hRs⟩ := C.2.2.2.2.2.2.2.2.1
  obtain ⟨lv, g1, g2⟩ := id hL
  refine aw_back (va_runSN (g := F0 m pc ls ((av.reverse ++ st).map (aw_v b))) (As := av.map (aw_v b)) (Ts := wsAll) ⟨C.1, C.2.1, C.2.2.1, C.2.2.2.1, hts⟩ (hM l D dA b lim gr (aw_md_use hmd C.2.2.2.2.2.2.2.2.2.2.2)) ⟨va_cnB n hts (aw_goodC hcw) rfl rfl rfl (C.2.2.2.2.2.2.2.2.2.2.1 _ hlk) (hts _ hini) hy ⟨by show d' + 1 ≤ _; omega, by show 8 + (nLy + 11) + 40 * d' ≤ _; omega⟩, hts _ hsta, trivial⟩ ⟨aw_blind, fun U hU hW => ⟨rfl, by rw [hU]; exact P, C.2.2.2.2.2.2.2.2.2.1.moved hW.alike, C.2.2.2.2.2.2.2.2.2.2.1.warm hW⟩⟩ rfl (by rw [List.length_map]; exact hn) g1.1 (by show (av.reverse ++ st).map (aw_v b) = _; rw [List.map_append, List.map_reverse]) (by show 2 * 0 + _ ≤ _; rw [aw_cats]; omega) hd ⟨by rw [hRc]; exact hf.1, by rw [hRs]; exact hf.2⟩) C S P hL kk
theorem aw_callV {y : MethodName} {cy : ByteArray} {nLy d' md' mc' ms' index n : Nat} {av : List Value} {Q' : Option Value → aw_H → Prop} {rt : Option FieldType} {CC : String} {T : u_T} {N ci q : Nat} {fs : List Value} (hd : decode cc pc = .ok (.invokevirtual index, 3)) (hp : pc + 3 = pc') (X : aw_wV own index y cy nLy rt n ci CC T N) (he : h[q]? = some (.inr (ci, fs))) (hM : AM y cy nLy rt d' md' mc' ms' (.ref q :: av) h Q') (hmd : md' = 0 ∨ md' = md) (hn : av.length = n) (hR : d' + 1 ≤ d) (hf : kc + mc' ≤ mc ∧ kn + ms' ≤ ms) (hst : (st.map fun v => v.category).sum ≤ 8) (kk : ∀ (v : Option Value) (h' : aw_H), Q' v h' → AW own nm cc nL ret d md mc ms Q pc' L (v.toList ++ st) h' (kc + mc') (kn + ms')) : AW own nm cc nL ret d md mc ms Q pc L (av.reverse ++ .ref q :: st) h kc kn := by
  subst hp
  intro p l e R s m args below meth c D dA b lim gr H locs ls C S P hL
  obtain ⟨hcw, hini, hlk, hins, hsel, hc, hy, hnl⟩ := X
  have hts := C.2.2.2.2.1
  obtain ⟨hfr, hlo, hRc, hRs⟩ := C.2.2.2.2.2.2.2.2.1
  obtain ⟨lv, g1, g2⟩ := id hL
  refine aw_back (va_runV (g := F0 m pc ls ((av.reverse ++ .ref q :: st).map (aw_v b))) (b := b + q) (C := CC) (As := av.map (aw_v b)) (Ts := wsAll) ⟨C.1, C.2.1, C.2.2.1, C.2.2.2.1, hts⟩ (hM l D dA b lim gr (aw_md_use hmd C.2.2.2.2.2.2.2.2.2.2.2)) ⟨callB_of n hts (aw_goodC hcw) rfl rfl rfl (hts _ hini) (hts _ hlk) hy ⟨by show d' + 1 ≤ _; omega, by show 8 + (nLy + 11) + 40 * d' ≤ _; omega⟩, hts _ hins, hts _ hsel⟩ ⟨aw_blind, va_recv C.2.2.2.2.2.2.2.2.2.1.nil (P.one he) hc (q0 := 0) rfl, fun U hU hW => ⟨rfl, by rw [hU]; exact P, C.2.2.2.2.2.2.2.2.2.1.moved hW.alike, C.2.2.2.2.2.2.2.2.2.2.1.warm hW⟩⟩ rfl (by rw [List.length_map]; exact hn) g1.1 (by show (av.reverse ++ .ref q :: st).map (aw_v b) = _; rw [List.map_append, List.map_reverse]; rfl) (by show 2 * 0 + _ ≤ _; rw [aw_cats]; omega) hd ⟨by rw [hRc]; exact hf.1, by rw [hRs]; exact hf.2⟩) C S P hL kk
theorem aw_callI {y : MethodName} {cy : ByteArray} {nLy d' md' mc' ms' index n : Nat} {av : List Value} {Q' : Option Value → aw_H → Prop} {q : Nat} (hd : decode cc pc = .ok (.invokespecial index, 3)) (hp : pc + 3 = pc') (X : aw_wI own index y cy nLy n) (hM : AM y cy nLy none d' md' mc' ms' (.ref q :: av) h Q') (hmd : md' = 0 ∨ md' = md) (hn : av.length = n) (hR : d' + 1 ≤ d) (hf : kc + mc' ≤ mc ∧ kn + ms' ≤ ms) (hst : (st.map fun v => v.category).sum ≤ 8) (kk : ∀ (v : Option Value) (h' : aw_H), Q' v h' → AW own nm cc nL ret d md mc ms Q pc' L (v.toList ++ st) h' (kc + mc') (kn + ms')) : AW own nm cc nL ret d md mc ms Q pc L (av.reverse ++ .ref q :: st) h kc kn := by
  subst hp
  intro p l e R s m args below meth c D dA b lim gr H locs ls C S P hL
  obtain ⟨hcw, hini, hlk, hins, hy1, hy, hnl⟩ := X
  have hts := C.2.2.2.2.1
  obtain ⟨hfr, hlo, hRc, hRs⟩ := C.2.2.2.2.2.2.2.2.1
  obtain ⟨lv, g1, g2⟩ := id hL
  refine aw_back (va_runI (g := F0 m pc ls ((av.reverse ++ .ref q :: st).map (aw_v b))) (b := b + q) (As := av.map (aw_v b)) (Ts := wsAll) ⟨C.1, C.2.1, C.2.2.1, C.2.2.2.1, hts⟩ (hM l D dA b lim gr (aw_md_use hmd C.2.2.2.2.2.2.2.2.2.2.2)) ⟨callB_of n hts (aw_goodC hcw) rfl rfl rfl (hts _ hini) (hts _ hlk) hy ⟨by show d' + 1 ≤ _; omega, by show 8 + (nLy + 11) + 40 * d' ≤ _; omega⟩, hy1, hts _ hins⟩ ⟨aw_blind, fun U hU hW => ⟨rfl, by rw [hU]; exact P, C.2.2.2.2.2.2.2.2.2.1.moved hW.alike, C.2.2.2.2.2.2.2.2.2.2.1.warm hW⟩⟩ rfl (by rw [List.length_map]; exact hn) g1.1 (by show (av.reverse ++ .ref q :: st).map (aw_v b) = _; rw [List.map_append, List.map_reverse]; rfl) (by show 2 * 0 + _ ≤ _; rw [aw_cats]; omega) hd ⟨by rw [hRc]; exact hf.1, by rw [hRs]; exact hf.2⟩) C S P hL kk
def aw_is (v0 : Option Value) (h1 : aw_H) : Option Value → aw_H → Prop := fun v h => v = v0 ∧ h = h1
theorem aw_callSv {y : MethodName} {cy : ByteArray} {nLy d' md' index n : Nat} {av : List Value} {v : Value} {h1 : aw_H} {rt : Option FieldType} (hd : decode cc pc = .ok (.invokestatic index, 3)) (hp : pc + 3 = pc') (X : aw_wS own index y cy nLy rt n) (hM : AM y cy nLy rt d' md' 0 0 (av) h (aw_is (some v) h1)) (hmd : md' = 0 ∨ md' = md) (hn : av.length = n) (hR : d' + 1 ≤ d) (hst : (st.map fun v => v.category).sum ≤ 8) (hkc : kc ≤ mc ∧ kn ≤ ms) (kk : AW own nm cc nL ret d md mc ms Q pc' L (v :: st) h1 kc kn) : AW own nm cc nL ret d md mc ms Q pc L (av.reverse ++ st) h kc kn := by
  refine aw_callS hd hp X hM hmd hn hR hkc hst ?_
  rintro _ _ ⟨rfl, rfl⟩
  exact kk
theorem aw_callSn {y : MethodName} {cy : ByteArray} {nLy d' md' index n : Nat} {av : List Value}  {h1 : aw_H} {rt : Option FieldType} (hd : decode cc pc = .ok (.invokestatic index, 3)) (hp : pc + 3 = pc') (X : aw_wS own index y cy nLy rt n) (hM : AM y cy nLy rt d' md' 0 0 (av) h (aw_is (none) h1)) (hmd : md' = 0 ∨ md' = md) (hn : av.length = n) (hR : d' + 1 ≤ d) (hst : (st.map fun v => v.category).sum ≤ 8) (hkc : kc ≤ mc ∧ kn ≤ ms) (kk : AW own nm cc nL ret d md mc ms Q pc' L st h1 kc kn) : AW own nm cc nL ret d md mc ms Q pc L (av.reverse ++ st) h kc kn := by
  refine aw_callS hd hp X hM hmd hn hR hkc hst ?_
  rintro _ _ ⟨rfl, rfl⟩
  exact kk
theorem aw_callNv {y : MethodName} {cy : ByteArray} {nLy d' md' index n : Nat} {av : List Value} {v : Value} {h1 : aw_H} {rt : Option FieldType} (hd : decode cc pc = .ok (.invokestatic index, 3)) (hp : pc + 3 = pc') {host : String} (X : aw_wN own index y cy nLy rt n host) (hM : AM y cy nLy rt d' md' 0 0 (av) h (aw_is (some v) h1)) (hmd : md' = 0 ∨ md' = md) (hn : av.length = n) (hR : d' + 1 ≤ d) (hst : (st.map fun v => v.category).sum ≤ 8) (hkc : kc ≤ mc ∧ kn ≤ ms) (kk : AW own nm cc nL ret d md mc ms Q pc' L (v :: st) h1 kc kn) : AW own nm cc nL ret d md mc ms Q pc L (av.reverse ++ st) h kc kn := by
  refine aw_callN hd hp X hM hmd hn hR hkc hst ?_
  rintro _ _ ⟨rfl, rfl⟩
  exact kk
theorem aw_callNn {y : MethodName} {cy : ByteArray} {nLy d' md' index n : Nat} {av : List Value}  {h1 : aw_H} {rt : Option FieldType} (hd : decode cc pc = .ok (.invokestatic index, 3)) (hp : pc + 3 = pc') {host : String} (X : aw_wN own index y cy nLy rt n host) (hM : AM y cy nLy rt d' md' 0 0 (av) h (aw_is (none) h1)) (hmd : md' = 0 ∨ md' = md) (hn : av.length = n) (hR : d' + 1 ≤ d) (hst : (st.map fun v => v.category).sum ≤ 8) (hkc : kc ≤ mc ∧ kn ≤ ms) (kk : AW own nm cc nL ret d md mc ms Q pc' L st h1 kc kn) : AW own nm cc nL ret d md mc ms Q pc L (av.reverse ++ st) h kc kn := by
  refine aw_callN hd hp X hM hmd hn hR hkc hst ?_
  rintro _ _ ⟨rfl, rfl⟩
  exact kk
theorem aw_callVv {y : MethodName} {cy : ByteArray} {nLy d' md' index n : Nat} {av : List Value} {v : Value} {h1 : aw_H} {rt : Option FieldType} (hd : decode cc pc = .ok (.invokevirtual index, 3)) (hp : pc + 3 = pc') {CC : String} {T : u_T} {N ci q : Nat} {fs : List Value} (X : aw_wV own index y cy nLy rt n ci CC T N) (he : h[q]? = some (.inr (ci, fs))) (hM : AM y cy nLy rt d' md' 0 0 (.ref q :: av) h (aw_is (some v) h1)) (hmd : md' = 0 ∨ md' = md) (hn : av.length = n) (hR : d' + 1 ≤ d) (hst : (st.map fun v => v.category).sum ≤ 8) (hkc : kc ≤ mc ∧ kn ≤ ms) (kk : AW own nm cc nL ret d md mc ms Q pc' L (v :: st) h1 kc kn) : AW own nm cc nL ret d md mc ms Q pc L (av.reverse ++ .ref q :: st) h kc kn := by
  refine aw_callV hd hp X he hM hmd hn hR hkc hst ?_
  rintro _ _ ⟨rfl, rfl⟩
  exact kk
theorem aw_callVn {y : MethodName} {cy : ByteArray} {nLy d' md' index n : Nat} {av : List Value}  {h1 : aw_H} {rt : Option FieldType} (hd : decode cc pc = .ok (.invokevirtual index, 3)) (hp : pc + 3 = pc') {CC : String} {T : u_T} {N ci q : Nat} {fs : List Value} (X : aw_wV own index y cy nLy rt n ci CC T N) (he : h[q]? = some (.inr (ci, fs))) (hM : AM y cy nLy rt d' md' 0 0 (.ref q :: av) h (aw_is (none) h1)) (hmd : md' = 0 ∨ md' = md) (hn : av.length = n) (hR : d' + 1 ≤ d) (hst : (st.map fun v => v.category).sum ≤ 8) (hkc : kc ≤ mc ∧ kn ≤ ms) (kk : AW own nm cc nL ret d md mc ms Q pc' L st h1 kc kn) : AW own nm cc nL ret d md mc ms Q pc L (av.reverse ++ .ref q :: st) h kc kn := by
  refine aw_callV hd hp X he hM hmd hn hR hkc hst ?_
  rintro _ _ ⟨rfl, rfl⟩
  exact kk
theorem aw_mmax {index : Nat} {x y : Int32} (hd : decode cc pc = .ok (.invokestatic index, 3)) (hp : pc + 3 = pc') (X : Cond.methodLink own index Lib.Math.max.name ∈ wsAll ∧ Cond.static Lib.Math.max.name ∈ wsAll ∧ Cond.initialized "java/lang/Math" ∈ wsAll ∧ Cond.code Lib.Math.max.name Lib.Math.max.code 2 (some .int) ∈ wsAll) (hfr : 1 ≤ d) (hst : (st.map fun v => v.category).sum ≤ 8) (hc : kc ≤ mc) (hn : kn ≤ ms) (k : AW own nm cc nL ret d md mc ms Q pc' L (.int (if x < y then y else x) :: st) h kc kn) : AW own nm cc nL ret d md mc ms Q pc L (.int y :: .int x :: st) h kc kn := by
  subst hp
  intro p l e R s m args below meth c D dA b lim gr H locs ls C S P hL
  obtain ⟨hlk, hsta, hini, hcw⟩ := X
  have hts := C.2.2.2.2.1
  obtain ⟨hfr', hlo, hRc, hRs⟩ := C.2.2.2.2.2.2.2.2.1
  obtain ⟨lv, g1, g2⟩ := id hL
  exact va_mmax C.1 C.2.1 (C.2.2.1.trans g1.1.symm) C.2.2.2.1 (hts _ hlk) (hts _ hsta) (hts _ hini) (hts _ hcw) (Nat.le_trans hfr hfr') (by rw [aw_cats]; omega) (by rw [hRc]; exact hc) (by rw [hRs]; exact hn) hd (k p l e R s m args below meth c D dA b lim gr H locs ls C S P hL)
theorem aw_mmin {index : Nat} {x y : Int32} (hd : decode cc pc = .ok (.invokestatic index, 3)) (hp : pc + 3 = pc') (X : Cond.methodLink own index Lib.Math.min.name ∈ wsAll ∧ Cond.static Lib.Math.min.name ∈ wsAll ∧ Cond.initialized "java/lang/Math" ∈ wsAll ∧ Cond.code Lib.Math.min.name Lib.Math.min.code 2 (some .int) ∈ wsAll) (hfr : 1 ≤ d) (hst : (st.map fun v => v.category).sum ≤ 8) (hc : kc ≤ mc) (hn : kn ≤ ms) (k : AW own nm cc nL ret d md mc ms Q pc' L (.int (if y < x then y else x) :: st) h kc kn) : AW own nm cc nL ret d md mc ms Q pc L (.int y :: .int x :: st) h kc kn := by
  subst hp
  intro p l e R s m args below meth c D dA b lim gr H locs ls C S P hL
  obtain ⟨hlk, hsta, hini, hcw⟩ := X
  have hts := C.2.2.2.2.1
  obtain ⟨hfr', hlo, hRc, hRs⟩ := C.2.2.2.2.2.2.2.2.1
  obtain ⟨lv, g1, g2⟩ := id hL
  exact va_mmin C.1 C.2.1 (C.2.2.1.trans g1.1.symm) C.2.2.2.1 (hts _ hlk) (hts _ hsta) (hts _ hini) (hts _ hcw) (Nat.le_trans hfr hfr') (by rw [aw_cats]; omega) (by rw [hRc]; exact hc) (by rw [hRs]; exact hn) hd (k p l e R s m args below meth c D dA b lim gr H locs ls C S P hL)
theorem aw_mmaxl {index : Nat} {x y : Int64} (hd : decode cc pc = .ok (.invokestatic index, 3)) (hp : pc + 3 = pc') (X : Cond.methodLink own index Lib.MathLoose.max_long.x ∈ wsAll ∧ Cond.static Lib.MathLoose.max_long.x ∈ wsAll ∧ Cond.initialized "java/lang/Math" ∈ wsAll ∧ Cond.code Lib.MathLoose.max_long.x Lib.MathLoose.max_long.code 4 (some .long) ∈ wsAll) (hfr : 1 ≤ d) (hst : (st.map fun v => v.category).sum ≤ 8) (hc : kc ≤ mc) (hn : kn ≤ ms) (k : AW own nm cc nL ret d md mc ms Q pc' L (.long (if y < x then x else y) :: st) h kc kn) : AW own nm cc nL ret d md mc ms Q pc L (.long y :: .long x :: st) h kc kn := by
  subst hp
  intro p l e R s m args below meth c D dA b lim gr H locs ls C S P hL
  obtain ⟨hlk, hsta, hini, hcw⟩ := X
  have hts := C.2.2.2.2.1
  obtain ⟨hfr', hlo, hRc, hRs⟩ := C.2.2.2.2.2.2.2.2.1
  obtain ⟨lv, g1, g2⟩ := id hL
  exact va_mmax_long C.1 C.2.1 (C.2.2.1.trans g1.1.symm) C.2.2.2.1 (hts _ hlk) (hts _ hsta) (hts _ hini) (hts _ hcw) (Nat.le_trans hfr hfr') (by rw [aw_cats]; omega) (by rw [hRc]; exact hc) (by rw [hRs]; exact hn) hd (k p l e R s m args below meth c D dA b lim gr H locs ls C S P hL)
theorem aw_mabsl {index : Nat} {x : Int64} (hd : decode cc pc = .ok (.invokestatic index, 3)) (hp : pc + 3 = pc') (X : Cond.methodLink own index Lib.MathLoose.abs_long.x ∈ wsAll ∧ Cond.static Lib.MathLoose.abs_long.x ∈ wsAll ∧ Cond.initialized "java/lang/Math" ∈ wsAll ∧ Cond.code Lib.MathLoose.abs_long.x Lib.MathLoose.abs_long.code 2 (some .long) ∈ wsAll) (hfr : 1 ≤ d) (hst : (st.map fun v => v.category).sum ≤ 8) (hc : kc ≤ mc) (hn : kn ≤ ms) (k : AW own nm cc nL ret d md mc ms Q pc' L (.long (if 0 < x then x else -x) :: st) h kc kn) : AW own nm cc nL ret d md mc ms Q pc L (.long x :: st) h kc kn := by
  subst hp
  intro p l e R s m args below meth c D dA b lim gr H locs ls C S P hL
  obtain ⟨hlk, hsta, hini, hcw⟩ := X
  have hts := C.2.2.2.2.1
  obtain ⟨hfr', hlo, hRc, hRs⟩ := C.2.2.2.2.2.2.2.2.1
  obtain ⟨lv, g1, g2⟩ := id hL
  exact va_mabs_long C.1 C.2.1 (C.2.2.1.trans g1.1.symm) C.2.2.2.1 (hts _ hlk) (hts _ hsta) (hts _ hini) (hts _ hcw) (Nat.le_trans hfr hfr') (by rw [aw_cats]; omega) (by rw [hRc]; exact hc) (by rw [hRs]; exact hn) hd (k p l e R s m args below meth c D dA b lim gr H locs ls C S P hL)
def aw_ws (b : Nat) (dA : Nat → ClassId) (h : aw_H) : va_W := h.mapIdx (fun k e => (b + k, aw_e b dA e))
theorem aw_ws_at (b : Nat) (dA : Nat → ClassId) (h : aw_H) (k : Nat) : (aw_ws b dA h)[k]? = (h[k]?).map (fun e => (b + k, aw_e b dA e)) := by
  unfold aw_ws
  rw [List.getElem?_mapIdx]
theorem aw_ws_P {D : va_G} {dA : Nat → ClassId} {b lim : Nat} {gr : Bool} {h : aw_H} {H : Heap} (hP : aw_P D dA b lim gr h H) : va_P D vwCl (aw_ws b dA h) H := by
  intro k q hq
  rw [aw_ws_at] at hq
  cases he : h[k]? with
  | none => rw [he] at hq; cases hq
  | some e => rw [he] at hq; cases hq; exact hP.2.2 k e he
theorem aw_ws_D {D : va_G} {dA : Nat → ClassId} {b lim : Nat} {gr : Bool} {h : aw_H} {H : Heap} (hP : aw_P D dA b lim gr h H) : va_D (aw_A b lim gr) (aw_ws b dA h) := by
  refine ⟨fun i j p q hi hj e => ?_, fun k q hq => ?_⟩
  · rw [aw_ws_at] at hi hj
    cases h1 : h[i]? with
    | none => rw [h1] at hi; cases hi
    | some e1 =>
      cases h2 : h[j]? with
      | none => rw [h2] at hj; cases hj
      | some e2 =>
        rw [h1] at hi; rw [h2] at hj
        cases hi; cases hj
        simp only at e
        omega
  · rw [aw_ws_at] at hq
    cases he : h[k]? with
    | none => rw [he] at hq; cases hq
    | some e => rw [he] at hq; cases hq; exact hP.inA (List.getElem?_eq_some_iff.mp he).1
theorem aw_ws_set (b : Nat) (dA : Nat → ClassId) (h : aw_H) (k : Nat) (e : aw_E) : (aw_ws b dA h).set k (b + k, aw_e b dA e) = aw_ws b dA (h.set k e) := by
  apply List.ext_getElem?
  intro j
  rw [aw_ws_at, List.getElem?_set, List.getElem?_set]
  have hl : (aw_ws b dA h).length = h.length := by unfold aw_ws; rw [List.length_mapIdx]
  by_cases hj : k = j
  · subst hj
    rw [if_pos rfl, if_pos rfl, hl]
    by_cases hk : k < h.length
    · rw [if_pos hk, if_pos hk]; rfl
    · rw [if_neg hk, if_neg hk]; rfl
  · rw [if_neg hj, if_neg hj, aw_ws_at]
theorem aw_ws_of {D : va_G} {dA : Nat → ClassId} {b lim : Nat} {h : aw_H} {H : Heap} (hl : h.length ≤ lim) (hP : va_P D vwCl (aw_ws b dA h) H) : aw_P D dA b lim false h H := by
  refine ⟨(fun g => by cases g), fun _ => hl, fun k e he => ?_⟩
  have := hP k (b + k, aw_e b dA e) (by rw [aw_ws_at, he]; rfl)
  exact this
def aw_wY (own : String) (index : Nat) : Prop := Cond.methodLink own index arraycopyName ∈ wsAll ∧ Cond.native arraycopyName ∈ wsAll ∧ Cond.static arraycopyName ∈ wsAll ∧ Cond.initialized "java/lang/System" ∈ wsAll
theorem aw_native {b : Nat} {st : List Value} {d X : Nat} (hst : (st.map fun v => v.category).sum ≤ 8) (hlo : 40 * d ≤ X) (hd : 1 ≤ d) : ((st.map (aw_v b)).map fun v => v.category).sum + (nativeFrameWords "java/lang/System" "arraycopy" 5 + 11) ≤ X := by
  rw [aw_cats]
  have h : nativeFrameWords "java/lang/System" "arraycopy" 5 ≤ 20 := by decide +kernel
  omega
def aw_cg (sp dp ln : Int32) (n0 n1 : Nat) : Prop := ¬ sp < 0 ∧ ¬ dp < 0 ∧ ¬ ln < 0 ∧ sp.toNatClampNeg + ln.toNatClampNeg ≤ n0 ∧ dp.toNatClampNeg + ln.toNatClampNeg ≤ n1
theorem aw_copyl {index q0 q1 t n0 n1 : Nat} {f g : Nat → Int64} {sp dp ln : Int32} (hmd : md = 2) (hd : decode cc pc = .ok (.invokestatic index, 3)) (hp : pc + 3 = pc') (X : aw_wY own index) (ht : tyTab[t]? = some .long) (he0 : h[q0]? = some (.inl (t, n0, .inr (.inl f)))) (he1 : h[q1]? = some (.inl (t, n1, .inr (.inl g)))) (hg : aw_cg sp dp ln n0 n1) (hfr : 1 ≤ d) (hst : (st.map fun v => v.category).sum ≤ 8) (hh : h.set q1 (.inl (t, n1, .inr (.inl (va_cpy f g sp.toNatClampNeg dp.toNatClampNeg ln.toNatClampNeg)))) = h') (kk : AW own nm cc nL ret d md mc ms Q pc' L st h' kc kn) : AW own nm cc nL ret d md mc ms Q pc L (.int ln :: .int dp :: .ref q1 :: .int sp :: .ref q0 :: st) h kc kn := by
  subst hp hh
  intro p l e R s m args below meth c D dA b lim gr H locs ls C S P hL
  obtain ⟨hlk, hnat, hsta, hini⟩ := X
  obtain ⟨h1, h2, h3, h4, h5⟩ := hg
  have hts := C.2.2.2.2.1
  obtain ⟨hfr', hlo, hRc, hRs⟩ := C.2.2.2.2.2.2.2.2.1
  obtain ⟨lv, g1, g2⟩ := id hL
  have hgr : gr = false := C.2.2.2.2.2.2.2.2.2.2.2.2 hmd
  subst hgr
  have hq1 : q1 < h.length := (List.getElem?_eq_some_iff.mp he1).1
  refine va_copyl (D := D) (cl := vwCl) (tys := [(dA t, FieldType.long)]) (ws := aw_ws b dA h) (A := aw_A b lim false) (H0 := s.heap) (ty := .long) C.1 C.2.1 (C.2.2.1.trans g1.1.symm) C.2.2.2.1 (hts _ hlk) (hts _ hnat) (hts _ hsta) (hts _ hini) (C.2.2.2.2.2.2.2.2.2.1.one ht) (aw_ws_P P) (aw_ws_D P) S q0 q1 0 0 (a0 := b + q0) (a := b + q1) (by rw [aw_ws_at, he0]; rfl) (by rw [aw_ws_at, he1]; rfl) rfl rfl rfl h1 h2 h3 h4 h5 (fun _ _ => rfl) (Nat.le_trans hfr hfr') (aw_native hst hlo (Nat.le_trans hfr (Nat.le_refl d))) hd ?_
  intro H1 locs1 hP1 hD1 hS1
  have hP2 : va_P D vwCl (aw_ws b dA (h.set q1 (.inl (t, n1, .inr (.inl (va_cpy f g sp.toNatClampNeg dp.toNatClampNeg ln.toNatClampNeg)))))) H1 := by
    rw [← aw_ws_set]; exact hP1
  exact kk p l e R s m args below meth c D dA b lim false H1 locs1 ls C hS1 (aw_ws_of (by rw [List.length_set]; exact P.2.1 rfl) hP2) hL
end AWR
/- a method's start -/
def aw_al : List Value → List (Option Value)
  | [] => []
  | v :: vs => if v.category = 2 then some v :: none :: aw_al vs else some v :: aw_al vs
def aw_in (av : List Value) (nL : Nat) : List (Option Value) := aw_al av ++ List.replicate (nL - (aw_al av).length) none
theorem aw_al_at (b : Nat) : ∀ (av : List Value) (o i : Nat) (v : Value), (aw_al av)[i]? = some (some v) → (o + i, aw_v b v) ∈ lv_args o (av.map (aw_v b))
  | [], o, i, v, h => by simp [aw_al] at h
  | u :: us, o, i, v, h => by
    by_cases hc : u.category = 2
    · simp only [aw_al, hc, if_true] at h
      simp only [List.map_cons, lv_args, aw_cat, hc, if_true]
      match i, h with
      | 0, h => cases h; exact List.mem_cons_self
      | 1, h => simp at h
      | i + 2, h =>
        have := aw_al_at b us (o + 2) i v (by simpa using h)
        rw [show o + (i + 2) = o + 2 + i by omega]
        exact List.mem_cons_of_mem _ this
    · simp only [aw_al, hc, if_false] at h
      simp only [List.map_cons, lv_args, aw_cat, hc, if_false]
      match i, h with
      | 0, h => cases h; exact List.mem_cons_self
      | i + 1, h =>
        have := aw_al_at b us (o + 1) i v (by simpa using h)
        rw [show o + (i + 1) = o + 1 + i by omega]
        exact List.mem_cons_of_mem _ this
theorem aw_sl (b : Nat) : ∀ av : List Value, (lg_sl (av.map (aw_v b))).length = (lg_sl av).length
  | [] => rfl
  | v :: vs => by
    have ih := aw_sl b vs
    simp only [lg_sl, List.map_cons, List.flatMap_cons, List.length_append, aw_cat] at ih ⊢
    rw [ih]
    by_cases hc : v.category = 2 <;> simp [hc]
theorem AM.of {y : MethodName} {cc : ByteArray} {nL : Nat} {ret : Option FieldType} {d md mc ms : Nat} {av : List Value} {h : aw_H} {Q : Option Value → aw_H → Prop} {L : List (Option Value)} {own nm : String} (ho : y.cls = own) (hnm : y.name = nm) (hy : plainName y.cls = true) (hlen : (lg_sl av).length ≤ nL) (hL : aw_in av nL = L) (k : AW own nm cc nL ret d md mc ms Q 0 L [] h 0 0) : AM y cc nL ret d md mc ms av h Q := by
  subst hL ho hnm
  intro l D dA b lim gr hmd
  refine Met.ofW (cc := cc) (maxL := nL) (ret := ret) hy rfl ?_
  intro p e s m args below meth c s₁ B hml hv
  obtain ⟨rfl, hP, hK, hN⟩ := hv
  have hts := atoms_spec (ws := Cond.code y cc nL ret :: wsAll) B.pre
  have hown : s.vm.findClass y.cls = some m.cls := findClass_of_methodNamed B.named
  rw [lg_entry_eq]
  have hl := lv_entry (av.map (aw_v b)) (n := nL) (by rw [aw_sl]; exact hlen)
  refine k p l e _ s m _ below meth c D dA b lim gr s.heap [] _ ⟨B.exec, B.bytes, hml, hown, fun w hw => hts w (List.mem_cons_of_mem _ hw), B.returns, B.notSynchronized, (name_of_methodNamed B.named B.method).1, ⟨Nat.le_refl _, Nat.le_refl _, rfl, rfl⟩, hK, hN, hmd⟩ va_S.rf hP ⟨_, hl, ?_⟩
  intro i v hi
  unfold aw_in at hi
  by_cases g : i < (aw_al av).length
  · rw [List.getElem?_append_left g] at hi
    have := aw_al_at b av 0 i v hi
    rwa [Nat.zero_add] at this
  · rw [List.getElem?_append_right (by omega), List.getElem?_replicate] at hi
    split at hi <;> cases hi
/- steps of the pure texts -/
theorem aw_ifp {α : Type} {c : Prop} {A B : Option α} {r : α} (hc : c) [Decidable c] (hf : (if c then A else B) = some r) : A = some r := by rwa [if_pos hc] at hf
theorem aw_ifn {α : Type} {c : Prop} {A B : Option α} {r : α} (hc : ¬ c) [Decidable c] (hf : (if c then A else B) = some r) : B = some r := by rwa [if_neg hc] at hf
theorem aw_gi {α : Type} {i : Int32} {n : Nat} {k : Option α} {r : α} (h : me_gi i n k = some r) : vp_in i n ∧ k = some r := by
  unfold me_gi at h
  by_cases q : i < 0 ∨ n ≤ i.toNatClampNeg
  · rw [if_pos q] at h; cases h
  · rw [if_neg q] at h; exact ⟨q, h⟩
theorem aw_gd {α β : Type} [DecidableEq β] {y z : β} {k : Option α} {r : α} (h : me_gd y z k = some r) : ¬ y = z ∧ k = some r := by
  unfold me_gd at h
  by_cases q : y = z
  · rw [if_pos q] at h; cases h
  · rw [if_neg q] at h; exact ⟨q, h⟩
theorem aw_gz {α : Type} {x : Int32} {k : Option α} {r : α} (h : me_gz x k = some r) : (narrow .boolean (.int x) = .int x ∧ fits .boolean (.int x) = true) ∧ k = some r := by
  unfold me_gz at h
  by_cases q : x = 0 ∨ x = 1
  · rw [if_pos q] at h
    refine ⟨?_, h⟩
    rcases q with q | q <;> subst q <;> exact ⟨rfl, rfl⟩
  · rw [if_neg q] at h; cases h
theorem aw_gc {α : Type} {sp dp ln : Int32} {n0 n1 : Nat} {k : Option α} {r : α} (h : me_gc sp dp ln n0 n1 k = some r) : aw_cg sp dp ln n0 n1 ∧ k = some r := by
  unfold me_gc at h
  by_cases q : ¬ sp < 0 ∧ ¬ dp < 0 ∧ ¬ ln < 0 ∧ sp.toNatClampNeg + ln.toNatClampNeg ≤ n0 ∧ dp.toNatClampNeg + ln.toNatClampNeg ≤ n1
  · rw [if_pos q] at h; exact ⟨q, h⟩
  · rw [if_neg q] at h; cases h
theorem aw_no {α : Type} {r : α} {P : Prop} (h : (none : Option α) = some r) : P := by cases h
theorem aw_bind {α β : Type} {o : Option α} {k : α → Option β} {r : β} (h : o.bind k = some r) : ∃ a, o = some a ∧ k a = some r := by
  cases o with
  | none => cases h
  | some a => exact ⟨a, rfl, h⟩
end
section
def hD (n : Nat) (μ : me_M) (sv : Value) : aw_H := [.inr (6, [.int (nI n), .ref 1, .ref 2, .ref 4, .ref 6, .ref 11, .ref 16, sv]), .inl (0, n, .inl (μ.1 1)), .inr (5, [.ref 3, .int (μ.1 301 0)]), .inl (1, 800, .inl (μ.1 3)), .inr (0, [.int (μ.1 500 0), .int (μ.1 501 0), .int (μ.1 502 0), .int (μ.1 503 0), .ref 5]), .inl (0, (n + 1), .inl (μ.1 5)), .inr (1, [.ref 1, .ref 4, .ref 2, .ref 10, .ref 7, .ref 8, .ref 9]), .inl (0, 13, .inl (μ.1 7)), .inl (0, 12, .inl (μ.1 8)), .inl (0, 12, .inl (μ.1 9)), .inl (0, n, .inl (μ.1 10)), .inr (3, [.ref 12, .ref 13, .ref 14, .ref 15, .int (nI n), .ref 4, .ref 2, .int (μ.1 1207 0), .int (μ.1 1208 0), .int (μ.1 1209 0), .int (μ.1 1210 0), .int (μ.1 1211 0), .int (μ.1 1212 0), .int (μ.1 1213 0)]), .inl (0, n, .inl (μ.1 12)), .inl (0, n, .inl (μ.1 13)), .inl (0, n, .inl (μ.1 14)), .inl (0, n, .inl (μ.1 15)), .inr (2, [.ref 17, .ref 12, .ref 18]), .inl (0, n, .inl (μ.1 17)), .inl (0, n, .inl (μ.1 18)), .inr (4, [.ref 20, .ref 21, .ref 23, .long (μ.2 2003 0), .ref 12, .ref 22, .int (μ.1 2006 0), .int (μ.1 2007 0)]), .inl (2, n, .inr (.inl (μ.2 20))), .inl (2, n, .inr (.inl (μ.2 21))), .inl (2, n, .inr (.inl (μ.2 22))), .inl (0, n, .inl (μ.1 23))]
def hC (n : Nat) (μ : me_M) : aw_H := hD n μ (.ref 19)
theorem hC_0 {n : Nat} {μ : me_M} : (hC n μ)[0]? = some (.inr (6, [.int (nI n), .ref 1, .ref 2, .ref 4, .ref 6, .ref 11, .ref 16, .ref 19])) := rfl
theorem hC_1 {n : Nat} {μ : me_M} : (hC n μ)[1]? = some (.inl (0, n, .inl (μ.1 1))) := rfl
theorem hC_2 {n : Nat} {μ : me_M} : (hC n μ)[2]? = some (.inr (5, [.ref 3, .int (μ.1 301 0)])) := rfl
theorem hC_3 {n : Nat} {μ : me_M} : (hC n μ)[3]? = some (.inl (1, 800, .inl (μ.1 3))) := rfl
theorem hC_4 {n : Nat} {μ : me_M} : (hC n μ)[4]? = some (.inr (0, [.int (μ.1 500 0), .int (μ.1 501 0), .int (μ.1 502 0), .int (μ.1 503 0), .ref 5])) := rfl
theorem hC_5 {n : Nat} {μ : me_M} : (hC n μ)[5]? = some (.inl (0, (n + 1), .inl (μ.1 5))) := rfl
theorem hC_6 {n : Nat} {μ : me_M} : (hC n μ)[6]? = some (.inr (1, [.ref 1, .ref 4, .ref 2, .ref 10, .ref 7, .ref 8, .ref 9])) := rfl
theorem hC_7 {n : Nat} {μ : me_M} : (hC n μ)[7]? = some (.inl (0, 13, .inl (μ.1 7))) := rfl
theorem hC_8 {n : Nat} {μ : me_M} : (hC n μ)[8]? = some (.inl (0, 12, .inl (μ.1 8))) := rfl
theorem hC_9 {n : Nat} {μ : me_M} : (hC n μ)[9]? = some (.inl (0, 12, .inl (μ.1 9))) := rfl
theorem hC_10 {n : Nat} {μ : me_M} : (hC n μ)[10]? = some (.inl (0, n, .inl (μ.1 10))) := rfl
theorem hC_11 {n : Nat} {μ : me_M} : (hC n μ)[11]? = some (.inr (3, [.ref 12, .ref 13, .ref 14, .ref 15, .int (nI n), .ref 4, .ref 2, .int (μ.1 1207 0), .int (μ.1 1208 0), .int (μ.1 1209 0), .int (μ.1 1210 0), .int (μ.1 1211 0), .int (μ.1 1212 0), .int (μ.1 1213 0)])) := rfl
theorem hC_12 {n : Nat} {μ : me_M} : (hC n μ)[12]? = some (.inl (0, n, .inl (μ.1 12))) := rfl
theorem hC_13 {n : Nat} {μ : me_M} : (hC n μ)[13]? = some (.inl (0, n, .inl (μ.1 13))) := rfl
theorem hC_14 {n : Nat} {μ : me_M} : (hC n μ)[14]? = some (.inl (0, n, .inl (μ.1 14))) := rfl
theorem hC_15 {n : Nat} {μ : me_M} : (hC n μ)[15]? = some (.inl (0, n, .inl (μ.1 15))) := rfl
theorem hC_16 {n : Nat} {μ : me_M} : (hC n μ)[16]? = some (.inr (2, [.ref 17, .ref 12, .ref 18])) := rfl
theorem hC_17 {n : Nat} {μ : me_M} : (hC n μ)[17]? = some (.inl (0, n, .inl (μ.1 17))) := rfl
theorem hC_18 {n : Nat} {μ : me_M} : (hC n μ)[18]? = some (.inl (0, n, .inl (μ.1 18))) := rfl
theorem hC_19 {n : Nat} {μ : me_M} : (hC n μ)[19]? = some (.inr (4, [.ref 20, .ref 21, .ref 23, .long (μ.2 2003 0), .ref 12, .ref 22, .int (μ.1 2006 0), .int (μ.1 2007 0)])) := rfl
theorem hC_20 {n : Nat} {μ : me_M} : (hC n μ)[20]? = some (.inl (2, n, .inr (.inl (μ.2 20)))) := rfl
theorem hC_21 {n : Nat} {μ : me_M} : (hC n μ)[21]? = some (.inl (2, n, .inr (.inl (μ.2 21)))) := rfl
theorem hC_22 {n : Nat} {μ : me_M} : (hC n μ)[22]? = some (.inl (2, n, .inr (.inl (μ.2 22)))) := rfl
theorem hC_23 {n : Nat} {μ : me_M} : (hC n μ)[23]? = some (.inl (0, n, .inl (μ.1 23))) := rfl
theorem hD_0 {n : Nat} {μ : me_M} {sv : Value} : (hD n μ sv)[0]? = some (.inr (6, [.int (nI n), .ref 1, .ref 2, .ref 4, .ref 6, .ref 11, .ref 16, sv])) := rfl
theorem hD_1 {n : Nat} {μ : me_M} {sv : Value} : (hD n μ sv)[1]? = some (.inl (0, n, .inl (μ.1 1))) := rfl
theorem hD_2 {n : Nat} {μ : me_M} {sv : Value} : (hD n μ sv)[2]? = some (.inr (5, [.ref 3, .int (μ.1 301 0)])) := rfl
theorem hD_3 {n : Nat} {μ : me_M} {sv : Value} : (hD n μ sv)[3]? = some (.inl (1, 800, .inl (μ.1 3))) := rfl
theorem hD_4 {n : Nat} {μ : me_M} {sv : Value} : (hD n μ sv)[4]? = some (.inr (0, [.int (μ.1 500 0), .int (μ.1 501 0), .int (μ.1 502 0), .int (μ.1 503 0), .ref 5])) := rfl
theorem hD_5 {n : Nat} {μ : me_M} {sv : Value} : (hD n μ sv)[5]? = some (.inl (0, (n + 1), .inl (μ.1 5))) := rfl
theorem hD_6 {n : Nat} {μ : me_M} {sv : Value} : (hD n μ sv)[6]? = some (.inr (1, [.ref 1, .ref 4, .ref 2, .ref 10, .ref 7, .ref 8, .ref 9])) := rfl
theorem hD_7 {n : Nat} {μ : me_M} {sv : Value} : (hD n μ sv)[7]? = some (.inl (0, 13, .inl (μ.1 7))) := rfl
theorem hD_8 {n : Nat} {μ : me_M} {sv : Value} : (hD n μ sv)[8]? = some (.inl (0, 12, .inl (μ.1 8))) := rfl
theorem hD_9 {n : Nat} {μ : me_M} {sv : Value} : (hD n μ sv)[9]? = some (.inl (0, 12, .inl (μ.1 9))) := rfl
theorem hD_10 {n : Nat} {μ : me_M} {sv : Value} : (hD n μ sv)[10]? = some (.inl (0, n, .inl (μ.1 10))) := rfl
theorem hD_11 {n : Nat} {μ : me_M} {sv : Value} : (hD n μ sv)[11]? = some (.inr (3, [.ref 12, .ref 13, .ref 14, .ref 15, .int (nI n), .ref 4, .ref 2, .int (μ.1 1207 0), .int (μ.1 1208 0), .int (μ.1 1209 0), .int (μ.1 1210 0), .int (μ.1 1211 0), .int (μ.1 1212 0), .int (μ.1 1213 0)])) := rfl
theorem hD_12 {n : Nat} {μ : me_M} {sv : Value} : (hD n μ sv)[12]? = some (.inl (0, n, .inl (μ.1 12))) := rfl
theorem hD_13 {n : Nat} {μ : me_M} {sv : Value} : (hD n μ sv)[13]? = some (.inl (0, n, .inl (μ.1 13))) := rfl
theorem hD_14 {n : Nat} {μ : me_M} {sv : Value} : (hD n μ sv)[14]? = some (.inl (0, n, .inl (μ.1 14))) := rfl
theorem hD_15 {n : Nat} {μ : me_M} {sv : Value} : (hD n μ sv)[15]? = some (.inl (0, n, .inl (μ.1 15))) := rfl
theorem hD_16 {n : Nat} {μ : me_M} {sv : Value} : (hD n μ sv)[16]? = some (.inr (2, [.ref 17, .ref 12, .ref 18])) := rfl
theorem hD_17 {n : Nat} {μ : me_M} {sv : Value} : (hD n μ sv)[17]? = some (.inl (0, n, .inl (μ.1 17))) := rfl
theorem hD_18 {n : Nat} {μ : me_M} {sv : Value} : (hD n μ sv)[18]? = some (.inl (0, n, .inl (μ.1 18))) := rfl
theorem hD_19 {n : Nat} {μ : me_M} {sv : Value} : (hD n μ sv)[19]? = some (.inr (4, [.ref 20, .ref 21, .ref 23, .long (μ.2 2003 0), .ref 12, .ref 22, .int (μ.1 2006 0), .int (μ.1 2007 0)])) := rfl
theorem hD_20 {n : Nat} {μ : me_M} {sv : Value} : (hD n μ sv)[20]? = some (.inl (2, n, .inr (.inl (μ.2 20)))) := rfl
theorem hD_21 {n : Nat} {μ : me_M} {sv : Value} : (hD n μ sv)[21]? = some (.inl (2, n, .inr (.inl (μ.2 21)))) := rfl
theorem hD_22 {n : Nat} {μ : me_M} {sv : Value} : (hD n μ sv)[22]? = some (.inl (2, n, .inr (.inl (μ.2 22)))) := rfl
theorem hD_23 {n : Nat} {μ : me_M} {sv : Value} : (hD n μ sv)[23]? = some (.inl (0, n, .inl (μ.1 23))) := rfl
def hM (μ : me_M) : aw_H := [.inr (7, [.int (μ.1 100 0), .ref 1, .ref 2, .int (μ.1 103 0), .ref 3, .int (μ.1 105 0), .int (μ.1 106 0), .int (μ.1 107 0), .int (μ.1 108 0), .ref 4, .ref 5, .int (μ.1 111 0), .int (μ.1 112 0), .int (μ.1 113 0), .int (μ.1 114 0), .ref 6, .ref 7, .ref 8, .ref 9, .ref 10, .int (μ.1 120 0), .int (μ.1 121 0), .ref 11, .ref 12, .ref 13, .long (μ.2 125 0), .ref 14, .ref 15, .int (μ.1 128 0)]), .inl (0, 12, .inl (μ.1 1)), .inl (0, 2048, .inl (μ.1 2)), .inl (0, 13, .inl (μ.1 3)), .inl (0, 12, .inl (μ.1 4)), .inl (0, 13, .inl (μ.1 5)), .inl (0, 12, .inl (μ.1 6)), .inl (0, 12, .inl (μ.1 7)), .inl (0, 12, .inl (μ.1 8)), .inl (0, 12, .inl (μ.1 9)), .inl (0, 12, .inl (μ.1 10)), .inl (2, 12, .inr (.inl (μ.2 11))), .inl (2, 12, .inr (.inl (μ.2 12))), .inl (2, 12, .inr (.inl (μ.2 13))), .inl (0, 12, .inl (μ.1 14)), .inl (0, 12, .inl (μ.1 15))]
theorem hM_0 {μ : me_M} : (hM  μ)[0]? = some (.inr (7, [.int (μ.1 100 0), .ref 1, .ref 2, .int (μ.1 103 0), .ref 3, .int (μ.1 105 0), .int (μ.1 106 0), .int (μ.1 107 0), .int (μ.1 108 0), .ref 4, .ref 5, .int (μ.1 111 0), .int (μ.1 112 0), .int (μ.1 113 0), .int (μ.1 114 0), .ref 6, .ref 7, .ref 8, .ref 9, .ref 10, .int (μ.1 120 0), .int (μ.1 121 0), .ref 11, .ref 12, .ref 13, .long (μ.2 125 0), .ref 14, .ref 15, .int (μ.1 128 0)])) := rfl
theorem hM_1 {μ : me_M} : (hM  μ)[1]? = some (.inl (0, 12, .inl (μ.1 1))) := rfl
theorem hM_2 {μ : me_M} : (hM  μ)[2]? = some (.inl (0, 2048, .inl (μ.1 2))) := rfl
theorem hM_3 {μ : me_M} : (hM  μ)[3]? = some (.inl (0, 13, .inl (μ.1 3))) := rfl
theorem hM_4 {μ : me_M} : (hM  μ)[4]? = some (.inl (0, 12, .inl (μ.1 4))) := rfl
theorem hM_5 {μ : me_M} : (hM  μ)[5]? = some (.inl (0, 13, .inl (μ.1 5))) := rfl
theorem hM_6 {μ : me_M} : (hM  μ)[6]? = some (.inl (0, 12, .inl (μ.1 6))) := rfl
theorem hM_7 {μ : me_M} : (hM  μ)[7]? = some (.inl (0, 12, .inl (μ.1 7))) := rfl
theorem hM_8 {μ : me_M} : (hM  μ)[8]? = some (.inl (0, 12, .inl (μ.1 8))) := rfl
theorem hM_9 {μ : me_M} : (hM  μ)[9]? = some (.inl (0, 12, .inl (μ.1 9))) := rfl
theorem hM_10 {μ : me_M} : (hM  μ)[10]? = some (.inl (0, 12, .inl (μ.1 10))) := rfl
theorem hM_11 {μ : me_M} : (hM  μ)[11]? = some (.inl (2, 12, .inr (.inl (μ.2 11)))) := rfl
theorem hM_12 {μ : me_M} : (hM  μ)[12]? = some (.inl (2, 12, .inr (.inl (μ.2 12)))) := rfl
theorem hM_13 {μ : me_M} : (hM  μ)[13]? = some (.inl (2, 12, .inr (.inl (μ.2 13)))) := rfl
theorem hM_14 {μ : me_M} : (hM  μ)[14]? = some (.inl (0, 12, .inl (μ.1 14))) := rfl
theorem hM_15 {μ : me_M} : (hM  μ)[15]? = some (.inl (0, 12, .inl (μ.1 15))) := rfl
theorem kc_bi_m100 : (Int8.ofInt (-100)).toInt32 = (-100) := by decide
theorem kc_bi_m2 : (Int8.ofInt (-2)).toInt32 = (-2) := by decide
theorem kc_bi_6 : (Int8.ofInt 6).toInt32 = 6 := by decide
theorem kc_bi_7 : (Int8.ofInt 7).toInt32 = 7 := by decide
theorem kc_bi_8 : (Int8.ofInt 8).toInt32 = 8 := by decide
theorem kc_bi_9 : (Int8.ofInt 9).toInt32 = 9 := by decide
theorem kc_bi_10 : (Int8.ofInt 10).toInt32 = 10 := by decide
theorem kc_bi_12 : (Int8.ofInt 12).toInt32 = 12 := by decide
theorem kc_bi_16 : (Int8.ofInt 16).toInt32 = 16 := by decide
theorem kc_bi_20 : (Int8.ofInt 20).toInt32 = 20 := by decide
theorem kc_bi_30 : (Int8.ofInt 30).toInt32 = 30 := by decide
theorem kc_bi_63 : (Int8.ofInt 63).toInt32 = 63 := by decide
theorem kc_bi_100 : (Int8.ofInt 100).toInt32 = 100 := by decide
theorem kc_ic_m1 : Int32.ofInt (-1) = (-1) := by decide
theorem kc_ic_0 : Int32.ofInt 0 = 0 := by decide
theorem kc_ic_1 : Int32.ofInt 1 = 1 := by decide
theorem kc_ic_2 : Int32.ofInt 2 = 2 := by decide
theorem kc_ic_3 : Int32.ofInt 3 = 3 := by decide
theorem kc_ic_4 : Int32.ofInt 4 = 4 := by decide
theorem kc_ic_5 : Int32.ofInt 5 = 5 := by decide
theorem kc_lc_0 : Int64.ofNat ((0 : Fin 2) : Nat) = 0 := by decide
theorem kc_si_800 : (Int16.ofInt 800).toInt32 = 800 := by decide
theorem kc_si_1000 : (Int16.ofInt 1000).toInt32 = 1000 := by decide
end
section
set_option maxRecDepth 20000 in
theorem nm_Y : ∀ a, a < 5 → ∀ b, b < 5 → a ≠ b → (ft_Y a).2.1 ≠ (ft_Y b).2.1 := by decide +kernel
set_option maxRecDepth 20000 in
theorem tk_Y : ∀ k, k < 5 → parseFieldDescriptor (ft_Y k).2.2.1 = some (ty_Y k) := by decide +kernel
set_option maxRecDepth 20000 in
theorem tz_Y : aw_ty ft_Y 5 ty_Y := ⟨tk_Y, nm_Y⟩
set_option maxRecDepth 20000 in
theorem wu_Y : ∀ w ∈ u_ws "ArcTape$Layout" ft_Y 5, w ∈ wsAll := List.forall_mem_cons.mpr ⟨(wl_in 72 rfl rfl), List.forall_mem_cons.mpr ⟨(wl_in 74 rfl rfl), List.forall_mem_cons.mpr ⟨(wl_in 76 rfl rfl), List.forall_mem_cons.mpr ⟨(wl_in 78 rfl rfl), List.forall_mem_cons.mpr ⟨(wl_in 80 rfl rfl), fun _ h => absurd h List.not_mem_nil⟩⟩⟩⟩⟩
set_option maxRecDepth 20000 in
theorem nm_K : ∀ a, a < 7 → ∀ b, b < 7 → a ≠ b → (ft_K a).2.1 ≠ (ft_K b).2.1 := by decide +kernel
set_option maxRecDepth 20000 in
theorem tk_K : ∀ k, k < 7 → parseFieldDescriptor (ft_K k).2.2.1 = some (ty_K k) := by decide +kernel
set_option maxRecDepth 20000 in
theorem tz_K : aw_ty ft_K 7 ty_K := ⟨tk_K, nm_K⟩
set_option maxRecDepth 20000 in
theorem wu_K : ∀ w ∈ u_ws "ArcTape$Packer" ft_K 7, w ∈ wsAll := List.forall_mem_cons.mpr ⟨(wl_in 96 rfl rfl), List.forall_mem_cons.mpr ⟨(wl_in 98 rfl rfl), List.forall_mem_cons.mpr ⟨(wl_in 100 rfl rfl), List.forall_mem_cons.mpr ⟨(wl_in 102 rfl rfl), List.forall_mem_cons.mpr ⟨(wl_in 104 rfl rfl), List.forall_mem_cons.mpr ⟨(wl_in 106 rfl rfl), List.forall_mem_cons.mpr ⟨(wl_in 108 rfl rfl), fun _ h => absurd h List.not_mem_nil⟩⟩⟩⟩⟩⟩⟩
set_option maxRecDepth 20000 in
theorem nm_S : ∀ a, a < 3 → ∀ b, b < 3 → a ≠ b → (ft_S a).2.1 ≠ (ft_S b).2.1 := by decide +kernel
set_option maxRecDepth 20000 in
theorem tk_S : ∀ k, k < 3 → parseFieldDescriptor (ft_S k).2.2.1 = some (ty_S k) := by decide +kernel
set_option maxRecDepth 20000 in
theorem tz_S : aw_ty ft_S 3 ty_S := ⟨tk_S, nm_S⟩
set_option maxRecDepth 20000 in
theorem wu_S : ∀ w ∈ u_ws "ArcTape$Parts" ft_S 3, w ∈ wsAll := List.forall_mem_cons.mpr ⟨(wl_in 173 rfl rfl), List.forall_mem_cons.mpr ⟨(wl_in 175 rfl rfl), List.forall_mem_cons.mpr ⟨(wl_in 177 rfl rfl), fun _ h => absurd h List.not_mem_nil⟩⟩⟩
set_option maxRecDepth 20000 in
theorem nm_D : ∀ a, a < 14 → ∀ b, b < 14 → a ≠ b → (ft_D a).2.1 ≠ (ft_D b).2.1 := by decide +kernel
set_option maxRecDepth 20000 in
theorem tk_D : ∀ k, k < 14 → parseFieldDescriptor (ft_D k).2.2.1 = some (ty_D k) := by decide +kernel
set_option maxRecDepth 20000 in
theorem tz_D : aw_ty ft_D 14 ty_D := ⟨tk_D, nm_D⟩
set_option maxRecDepth 20000 in
theorem wu_D : ∀ w ∈ u_ws "ArcTape$Reader" ft_D 14, w ∈ wsAll := List.forall_mem_cons.mpr ⟨(wl_in 134 rfl rfl), List.forall_mem_cons.mpr ⟨(wl_in 136 rfl rfl), List.forall_mem_cons.mpr ⟨(wl_in 138 rfl rfl), List.forall_mem_cons.mpr ⟨(wl_in 140 rfl rfl), List.forall_mem_cons.mpr ⟨(wl_in 142 rfl rfl), List.forall_mem_cons.mpr ⟨(wl_in 144 rfl rfl), List.forall_mem_cons.mpr ⟨(wl_in 146 rfl rfl), List.forall_mem_cons.mpr ⟨(wl_in 148 rfl rfl), List.forall_mem_cons.mpr ⟨(wl_in 150 rfl rfl), List.forall_mem_cons.mpr ⟨(wl_in 152 rfl rfl), List.forall_mem_cons.mpr ⟨(wl_in 154 rfl rfl), List.forall_mem_cons.mpr ⟨(wl_in 156 rfl rfl), List.forall_mem_cons.mpr ⟨(wl_in 158 rfl rfl), List.forall_mem_cons.mpr ⟨(wl_in 160 rfl rfl), fun _ h => absurd h List.not_mem_nil⟩⟩⟩⟩⟩⟩⟩⟩⟩⟩⟩⟩⟩⟩
set_option maxRecDepth 20000 in
theorem nm_O : ∀ a, a < 8 → ∀ b, b < 8 → a ≠ b → (ft_O a).2.1 ≠ (ft_O b).2.1 := by decide +kernel
set_option maxRecDepth 20000 in
theorem tk_O : ∀ k, k < 8 → parseFieldDescriptor (ft_O k).2.2.1 = some (ty_O k) := by decide +kernel
set_option maxRecDepth 20000 in
theorem tz_O : aw_ty ft_O 8 ty_O := ⟨tk_O, nm_O⟩
set_option maxRecDepth 20000 in
theorem wu_O : ∀ w ∈ u_ws "ArcTape$Scores" ft_O 8, w ∈ wsAll := List.forall_mem_cons.mpr ⟨(wl_in 198 rfl rfl), List.forall_mem_cons.mpr ⟨(wl_in 200 rfl rfl), List.forall_mem_cons.mpr ⟨(wl_in 202 rfl rfl), List.forall_mem_cons.mpr ⟨(wl_in 204 rfl rfl), List.forall_mem_cons.mpr ⟨(wl_in 206 rfl rfl), List.forall_mem_cons.mpr ⟨(wl_in 208 rfl rfl), List.forall_mem_cons.mpr ⟨(wl_in 210 rfl rfl), List.forall_mem_cons.mpr ⟨(wl_in 212 rfl rfl), fun _ h => absurd h List.not_mem_nil⟩⟩⟩⟩⟩⟩⟩⟩
set_option maxRecDepth 20000 in
theorem nm_T : ∀ a, a < 2 → ∀ b, b < 2 → a ≠ b → (ft_T a).2.1 ≠ (ft_T b).2.1 := by decide +kernel
set_option maxRecDepth 20000 in
theorem tk_T : ∀ k, k < 2 → parseFieldDescriptor (ft_T k).2.2.1 = some (ty_T k) := by decide +kernel
set_option maxRecDepth 20000 in
theorem tz_T : aw_ty ft_T 2 ty_T := ⟨tk_T, nm_T⟩
set_option maxRecDepth 20000 in
theorem wu_T : ∀ w ∈ u_ws "ArcTape$Tape" ft_T 2, w ∈ wsAll := List.forall_mem_cons.mpr ⟨(wl_in 39 rfl rfl), List.forall_mem_cons.mpr ⟨(wl_in 41 rfl rfl), fun _ h => absurd h List.not_mem_nil⟩⟩
set_option maxRecDepth 20000 in
theorem nm_A : ∀ a, a < 8 → ∀ b, b < 8 → a ≠ b → (ft_A a).2.1 ≠ (ft_A b).2.1 := by decide +kernel
set_option maxRecDepth 20000 in
theorem tk_A : ∀ k, k < 8 → parseFieldDescriptor (ft_A k).2.2.1 = some (ty_A k) := by decide +kernel
set_option maxRecDepth 20000 in
theorem tz_A : aw_ty ft_A 8 ty_A := ⟨tk_A, nm_A⟩
set_option maxRecDepth 20000 in
theorem wu_A : ∀ w ∈ u_ws "ArcTape" ft_A 8, w ∈ wsAll := List.forall_mem_cons.mpr ⟨(wl_in 363 rfl rfl), List.forall_mem_cons.mpr ⟨(wl_in 365 rfl rfl), List.forall_mem_cons.mpr ⟨(wl_in 367 rfl rfl), List.forall_mem_cons.mpr ⟨(wl_in 369 rfl rfl), List.forall_mem_cons.mpr ⟨(wl_in 371 rfl rfl), List.forall_mem_cons.mpr ⟨(wl_in 373 rfl rfl), List.forall_mem_cons.mpr ⟨(wl_in 375 rfl rfl), List.forall_mem_cons.mpr ⟨(wl_in 377 rfl rfl), fun _ h => absurd h List.not_mem_nil⟩⟩⟩⟩⟩⟩⟩⟩
set_option maxRecDepth 20000 in
theorem nm_M : ∀ a, a < 29 → ∀ b, b < 29 → a ≠ b → (ft_M a).2.1 ≠ (ft_M b).2.1 := by decide +kernel
set_option maxRecDepth 20000 in
theorem tk_M : ∀ k, k < 29 → parseFieldDescriptor (ft_M k).2.2.1 = some (ty_M k) := by decide +kernel
set_option maxRecDepth 20000 in
theorem tz_M : aw_ty ft_M 29 ty_M := ⟨tk_M, nm_M⟩
set_option maxRecDepth 20000 in
theorem wu_M : ∀ w ∈ u_ws "ArcTapeModel" ft_M 29, w ∈ wsAll := List.forall_mem_cons.mpr ⟨(wl_in 625 rfl rfl), List.forall_mem_cons.mpr ⟨(wl_in 627 rfl rfl), List.forall_mem_cons.mpr ⟨(wl_in 629 rfl rfl), List.forall_mem_cons.mpr ⟨(wl_in 631 rfl rfl), List.forall_mem_cons.mpr ⟨(wl_in 633 rfl rfl), List.forall_mem_cons.mpr ⟨(wl_in 635 rfl rfl), List.forall_mem_cons.mpr ⟨(wl_in 637 rfl rfl), List.forall_mem_cons.mpr ⟨(wl_in 639 rfl rfl), List.forall_mem_cons.mpr ⟨(wl_in 641 rfl rfl), List.forall_mem_cons.mpr ⟨(wl_in 643 rfl rfl), List.forall_mem_cons.mpr ⟨(wl_in 645 rfl rfl), List.forall_mem_cons.mpr ⟨(wl_in 647 rfl rfl), List.forall_mem_cons.mpr ⟨(wl_in 649 rfl rfl), List.forall_mem_cons.mpr ⟨(wl_in 651 rfl rfl), List.forall_mem_cons.mpr ⟨(wl_in 653 rfl rfl), List.forall_mem_cons.mpr ⟨(wl_in 655 rfl rfl), List.forall_mem_cons.mpr ⟨(wl_in 657 rfl rfl), List.forall_mem_cons.mpr ⟨(wl_in 659 rfl rfl), List.forall_mem_cons.mpr ⟨(wl_in 661 rfl rfl), List.forall_mem_cons.mpr ⟨(wl_in 663 rfl rfl), List.forall_mem_cons.mpr ⟨(wl_in 665 rfl rfl), List.forall_mem_cons.mpr ⟨(wl_in 667 rfl rfl), List.forall_mem_cons.mpr ⟨(wl_in 669 rfl rfl), List.forall_mem_cons.mpr ⟨(wl_in 671 rfl rfl), List.forall_mem_cons.mpr ⟨(wl_in 673 rfl rfl), List.forall_mem_cons.mpr ⟨(wl_in 675 rfl rfl), List.forall_mem_cons.mpr ⟨(wl_in 677 rfl rfl), List.forall_mem_cons.mpr ⟨(wl_in 679 rfl rfl), List.forall_mem_cons.mpr ⟨(wl_in 681 rfl rfl), fun _ h => absurd h List.not_mem_nil⟩⟩⟩⟩⟩⟩⟩⟩⟩⟩⟩⟩⟩⟩⟩⟩⟩⟩⟩⟩⟩⟩⟩⟩⟩⟩⟩⟩⟩
set_option maxRecDepth 20000 in
theorem wa_I : Cond.arrayClass .int ∈ wsAll := (wl_in 44 rfl rfl)
set_option maxRecDepth 20000 in
theorem wa_B : Cond.arrayClass .byte ∈ wsAll := (wl_in 45 rfl rfl)
set_option maxRecDepth 20000 in
theorem wa_J : Cond.arrayClass .long ∈ wsAll := (wl_in 215 rfl rfl)
set_option maxRecDepth 20000 in
theorem fl_K_104 : aw_fl "ArcTape$Packer" 104 0 3 "ArcTape$Layout" ft_Y 5 := ⟨rfl, wu_Y, by decide, (wl_in 66 rfl rfl)⟩
set_option maxRecDepth 20000 in
theorem fl_K_15 : aw_fl "ArcTape$Packer" 15 1 5 "ArcTape$Packer" ft_K 7 := ⟨rfl, wu_K, by decide, (wl_in 94 rfl rfl)⟩
set_option maxRecDepth 20000 in
theorem fl_K_18 : aw_fl "ArcTape$Packer" 18 1 6 "ArcTape$Packer" ft_K 7 := ⟨rfl, wu_K, by decide, (wl_in 95 rfl rfl)⟩
set_option maxRecDepth 20000 in
theorem fl_K_21 : aw_fl "ArcTape$Packer" 21 1 0 "ArcTape$Packer" ft_K 7 := ⟨rfl, wu_K, by decide, (wl_in 89 rfl rfl)⟩
set_option maxRecDepth 20000 in
theorem fl_K_24 : aw_fl "ArcTape$Packer" 24 1 1 "ArcTape$Packer" ft_K 7 := ⟨rfl, wu_K, by decide, (wl_in 90 rfl rfl)⟩
set_option maxRecDepth 20000 in
theorem fl_K_28 : aw_fl "ArcTape$Packer" 28 1 2 "ArcTape$Packer" ft_K 7 := ⟨rfl, wu_K, by decide, (wl_in 91 rfl rfl)⟩
set_option maxRecDepth 20000 in
theorem fl_K_32 : aw_fl "ArcTape$Packer" 32 1 3 "ArcTape$Packer" ft_K 7 := ⟨rfl, wu_K, by decide, (wl_in 92 rfl rfl)⟩
set_option maxRecDepth 20000 in
theorem fl_K_35 : aw_fl "ArcTape$Packer" 35 5 1 "ArcTape$Tape" ft_T 2 := ⟨rfl, wu_T, by decide, (wl_in 36 rfl rfl)⟩
set_option maxRecDepth 20000 in
theorem fl_K_41 : aw_fl "ArcTape$Packer" 41 0 4 "ArcTape$Layout" ft_Y 5 := ⟨rfl, wu_Y, by decide, (wl_in 70 rfl rfl)⟩
set_option maxRecDepth 20000 in
theorem fl_K_54 : aw_fl "ArcTape$Packer" 54 0 0 "ArcTape$Layout" ft_Y 5 := ⟨rfl, wu_Y, by decide, (wl_in 53 rfl rfl)⟩
set_option maxRecDepth 20000 in
theorem fl_K_67 : aw_fl "ArcTape$Packer" 67 0 1 "ArcTape$Layout" ft_Y 5 := ⟨rfl, wu_Y, by decide, (wl_in 57 rfl rfl)⟩
set_option maxRecDepth 20000 in
theorem fl_K_85 : aw_fl "ArcTape$Packer" 85 0 2 "ArcTape$Layout" ft_Y 5 := ⟨rfl, wu_Y, by decide, (wl_in 63 rfl rfl)⟩
set_option maxRecDepth 20000 in
theorem fl_K_9 : aw_fl "ArcTape$Packer" 9 1 4 "ArcTape$Packer" ft_K 7 := ⟨rfl, wu_K, by decide, (wl_in 93 rfl rfl)⟩
set_option maxRecDepth 20000 in
theorem fl_S_13 : aw_fl "ArcTape$Parts" 13 2 0 "ArcTape$Parts" ft_S 3 := ⟨rfl, wu_S, by decide, (wl_in 169 rfl rfl)⟩
set_option maxRecDepth 20000 in
theorem fl_S_16 : aw_fl "ArcTape$Parts" 16 2 2 "ArcTape$Parts" ft_S 3 := ⟨rfl, wu_S, by decide, (wl_in 172 rfl rfl)⟩
set_option maxRecDepth 20000 in
theorem fl_S_7 : aw_fl "ArcTape$Parts" 7 2 1 "ArcTape$Parts" ft_S 3 := ⟨rfl, wu_S, by decide, (wl_in 171 rfl rfl)⟩
set_option maxRecDepth 20000 in
theorem fl_D_128 : aw_fl "ArcTape$Reader" 128 5 1 "ArcTape$Tape" ft_T 2 := ⟨rfl, wu_T, by decide, (wl_in 38 rfl rfl)⟩
set_option maxRecDepth 20000 in
theorem fl_D_13 : aw_fl "ArcTape$Reader" 13 3 5 "ArcTape$Reader" ft_D 14 := ⟨rfl, wu_D, by decide, (wl_in 125 rfl rfl)⟩
set_option maxRecDepth 20000 in
theorem fl_D_131 : aw_fl "ArcTape$Reader" 131 5 0 "ArcTape$Tape" ft_T 2 := ⟨rfl, wu_T, by decide, (wl_in 34 rfl rfl)⟩
set_option maxRecDepth 20000 in
theorem fl_D_141 : aw_fl "ArcTape$Reader" 141 0 3 "ArcTape$Layout" ft_Y 5 := ⟨rfl, wu_Y, by decide, (wl_in 67 rfl rfl)⟩
set_option maxRecDepth 20000 in
theorem fl_D_17 : aw_fl "ArcTape$Reader" 17 3 6 "ArcTape$Reader" ft_D 14 := ⟨rfl, wu_D, by decide, (wl_in 126 rfl rfl)⟩
set_option maxRecDepth 20000 in
theorem fl_D_21 : aw_fl "ArcTape$Reader" 21 3 0 "ArcTape$Reader" ft_D 14 := ⟨rfl, wu_D, by decide, (wl_in 117 rfl rfl)⟩
set_option maxRecDepth 20000 in
theorem fl_D_25 : aw_fl "ArcTape$Reader" 25 3 1 "ArcTape$Reader" ft_D 14 := ⟨rfl, wu_D, by decide, (wl_in 119 rfl rfl)⟩
set_option maxRecDepth 20000 in
theorem fl_D_28 : aw_fl "ArcTape$Reader" 28 3 2 "ArcTape$Reader" ft_D 14 := ⟨rfl, wu_D, by decide, (wl_in 121 rfl rfl)⟩
set_option maxRecDepth 20000 in
theorem fl_D_31 : aw_fl "ArcTape$Reader" 31 3 3 "ArcTape$Reader" ft_D 14 := ⟨rfl, wu_D, by decide, (wl_in 123 rfl rfl)⟩
set_option maxRecDepth 20000 in
theorem fl_D_34 : aw_fl "ArcTape$Reader" 34 3 7 "ArcTape$Reader" ft_D 14 := ⟨rfl, wu_D, by decide, (wl_in 127 rfl rfl)⟩
set_option maxRecDepth 20000 in
theorem fl_D_37 : aw_fl "ArcTape$Reader" 37 0 4 "ArcTape$Layout" ft_Y 5 := ⟨rfl, wu_Y, by decide, (wl_in 69 rfl rfl)⟩
set_option maxRecDepth 20000 in
theorem fl_D_42 : aw_fl "ArcTape$Reader" 42 3 8 "ArcTape$Reader" ft_D 14 := ⟨rfl, wu_D, by decide, (wl_in 128 rfl rfl)⟩
set_option maxRecDepth 20000 in
theorem fl_D_45 : aw_fl "ArcTape$Reader" 45 3 9 "ArcTape$Reader" ft_D 14 := ⟨rfl, wu_D, by decide, (wl_in 129 rfl rfl)⟩
set_option maxRecDepth 20000 in
theorem fl_D_48 : aw_fl "ArcTape$Reader" 48 3 10 "ArcTape$Reader" ft_D 14 := ⟨rfl, wu_D, by decide, (wl_in 130 rfl rfl)⟩
set_option maxRecDepth 20000 in
theorem fl_D_51 : aw_fl "ArcTape$Reader" 51 3 11 "ArcTape$Reader" ft_D 14 := ⟨rfl, wu_D, by decide, (wl_in 131 rfl rfl)⟩
set_option maxRecDepth 20000 in
theorem fl_D_54 : aw_fl "ArcTape$Reader" 54 3 13 "ArcTape$Reader" ft_D 14 := ⟨rfl, wu_D, by decide, (wl_in 133 rfl rfl)⟩
set_option maxRecDepth 20000 in
theorem fl_D_65 : aw_fl "ArcTape$Reader" 65 3 12 "ArcTape$Reader" ft_D 14 := ⟨rfl, wu_D, by decide, (wl_in 132 rfl rfl)⟩
set_option maxRecDepth 20000 in
theorem fl_D_7 : aw_fl "ArcTape$Reader" 7 3 4 "ArcTape$Reader" ft_D 14 := ⟨rfl, wu_D, by decide, (wl_in 124 rfl rfl)⟩
set_option maxRecDepth 20000 in
theorem fl_D_76 : aw_fl "ArcTape$Reader" 76 0 0 "ArcTape$Layout" ft_Y 5 := ⟨rfl, wu_Y, by decide, (wl_in 54 rfl rfl)⟩
set_option maxRecDepth 20000 in
theorem fl_D_86 : aw_fl "ArcTape$Reader" 86 0 2 "ArcTape$Layout" ft_Y 5 := ⟨rfl, wu_Y, by decide, (wl_in 61 rfl rfl)⟩
set_option maxRecDepth 20000 in
theorem fl_D_98 : aw_fl "ArcTape$Reader" 98 0 1 "ArcTape$Layout" ft_Y 5 := ⟨rfl, wu_Y, by decide, (wl_in 59 rfl rfl)⟩
set_option maxRecDepth 20000 in
theorem fl_O_15 : aw_fl "ArcTape$Scores" 15 4 0 "ArcTape$Scores" ft_O 8 := ⟨rfl, wu_O, by decide, (wl_in 186 rfl rfl)⟩
set_option maxRecDepth 20000 in
theorem fl_O_19 : aw_fl "ArcTape$Scores" 19 4 1 "ArcTape$Scores" ft_O 8 := ⟨rfl, wu_O, by decide, (wl_in 188 rfl rfl)⟩
set_option maxRecDepth 20000 in
theorem fl_O_22 : aw_fl "ArcTape$Scores" 22 4 5 "ArcTape$Scores" ft_O 8 := ⟨rfl, wu_O, by decide, (wl_in 195 rfl rfl)⟩
set_option maxRecDepth 20000 in
theorem fl_O_25 : aw_fl "ArcTape$Scores" 25 4 2 "ArcTape$Scores" ft_O 8 := ⟨rfl, wu_O, by decide, (wl_in 190 rfl rfl)⟩
set_option maxRecDepth 20000 in
theorem fl_O_28 : aw_fl "ArcTape$Scores" 28 4 6 "ArcTape$Scores" ft_O 8 := ⟨rfl, wu_O, by decide, (wl_in 196 rfl rfl)⟩
set_option maxRecDepth 20000 in
theorem fl_O_32 : aw_fl "ArcTape$Scores" 32 4 7 "ArcTape$Scores" ft_O 8 := ⟨rfl, wu_O, by decide, (wl_in 197 rfl rfl)⟩
set_option maxRecDepth 20000 in
theorem fl_O_35 : aw_fl "ArcTape$Scores" 35 4 3 "ArcTape$Scores" ft_O 8 := ⟨rfl, wu_O, by decide, (wl_in 192 rfl rfl)⟩
set_option maxRecDepth 20000 in
theorem fl_O_9 : aw_fl "ArcTape$Scores" 9 4 4 "ArcTape$Scores" ft_O 8 := ⟨rfl, wu_O, by decide, (wl_in 194 rfl rfl)⟩
set_option maxRecDepth 20000 in
theorem fl_T_13 : aw_fl "ArcTape$Tape" 13 5 1 "ArcTape$Tape" ft_T 2 := ⟨rfl, wu_T, by decide, (wl_in 35 rfl rfl)⟩
set_option maxRecDepth 20000 in
theorem fl_T_9 : aw_fl "ArcTape$Tape" 9 5 0 "ArcTape$Tape" ft_T 2 := ⟨rfl, wu_T, by decide, (wl_in 32 rfl rfl)⟩
set_option maxRecDepth 20000 in
theorem fl_A_101 : aw_fl "ArcTape" 101 0 0 "ArcTape$Layout" ft_Y 5 := ⟨rfl, wu_Y, by decide, (wl_in 55 rfl rfl)⟩
set_option maxRecDepth 20000 in
theorem fl_A_104 : aw_fl "ArcTape" 104 0 1 "ArcTape$Layout" ft_Y 5 := ⟨rfl, wu_Y, by decide, (wl_in 58 rfl rfl)⟩
set_option maxRecDepth 20000 in
theorem fl_A_107 : aw_fl "ArcTape" 107 0 2 "ArcTape$Layout" ft_Y 5 := ⟨rfl, wu_Y, by decide, (wl_in 62 rfl rfl)⟩
set_option maxRecDepth 20000 in
theorem fl_A_110 : aw_fl "ArcTape" 110 0 3 "ArcTape$Layout" ft_Y 5 := ⟨rfl, wu_Y, by decide, (wl_in 65 rfl rfl)⟩
set_option maxRecDepth 20000 in
theorem fl_A_113 : aw_fl "ArcTape" 113 5 1 "ArcTape$Tape" ft_T 2 := ⟨rfl, wu_T, by decide, (wl_in 37 rfl rfl)⟩
set_option maxRecDepth 20000 in
theorem fl_A_116 : aw_fl "ArcTape" 116 0 4 "ArcTape$Layout" ft_Y 5 := ⟨rfl, wu_Y, by decide, (wl_in 71 rfl rfl)⟩
set_option maxRecDepth 20000 in
theorem fl_A_122 : aw_fl "ArcTape" 122 5 0 "ArcTape$Tape" ft_T 2 := ⟨rfl, wu_T, by decide, (wl_in 33 rfl rfl)⟩
set_option maxRecDepth 20000 in
theorem fl_A_126 : aw_fl "ArcTape" 126 3 1 "ArcTape$Reader" ft_D 14 := ⟨rfl, wu_D, by decide, (wl_in 120 rfl rfl)⟩
set_option maxRecDepth 20000 in
theorem fl_A_135 : aw_fl "ArcTape" 135 3 2 "ArcTape$Reader" ft_D 14 := ⟨rfl, wu_D, by decide, (wl_in 122 rfl rfl)⟩
set_option maxRecDepth 20000 in
theorem fl_A_142 : aw_fl "ArcTape" 142 2 0 "ArcTape$Parts" ft_S 3 := ⟨rfl, wu_S, by decide, (wl_in 170 rfl rfl)⟩
set_option maxRecDepth 20000 in
theorem fl_A_148 : aw_fl "ArcTape" 148 4 2 "ArcTape$Scores" ft_O 8 := ⟨rfl, wu_O, by decide, (wl_in 191 rfl rfl)⟩
set_option maxRecDepth 20000 in
theorem fl_A_154 : aw_fl "ArcTape" 154 4 0 "ArcTape$Scores" ft_O 8 := ⟨rfl, wu_O, by decide, (wl_in 187 rfl rfl)⟩
set_option maxRecDepth 20000 in
theorem fl_A_159 : aw_fl "ArcTape" 159 4 1 "ArcTape$Scores" ft_O 8 := ⟨rfl, wu_O, by decide, (wl_in 189 rfl rfl)⟩
set_option maxRecDepth 20000 in
theorem fl_A_165 : aw_fl "ArcTape" 165 4 3 "ArcTape$Scores" ft_O 8 := ⟨rfl, wu_O, by decide, (wl_in 193 rfl rfl)⟩
set_option maxRecDepth 20000 in
theorem fl_A_18 : aw_fl "ArcTape" 18 6 0 "ArcTape" ft_A 8 := ⟨rfl, wu_A, by decide, (wl_in 355 rfl rfl)⟩
set_option maxRecDepth 20000 in
theorem fl_A_22 : aw_fl "ArcTape" 22 6 1 "ArcTape" ft_A 8 := ⟨rfl, wu_A, by decide, (wl_in 356 rfl rfl)⟩
set_option maxRecDepth 20000 in
theorem fl_A_29 : aw_fl "ArcTape" 29 6 2 "ArcTape" ft_A 8 := ⟨rfl, wu_A, by decide, (wl_in 357 rfl rfl)⟩
set_option maxRecDepth 20000 in
theorem fl_A_38 : aw_fl "ArcTape" 38 6 3 "ArcTape" ft_A 8 := ⟨rfl, wu_A, by decide, (wl_in 358 rfl rfl)⟩
set_option maxRecDepth 20000 in
theorem fl_A_47 : aw_fl "ArcTape" 47 6 4 "ArcTape" ft_A 8 := ⟨rfl, wu_A, by decide, (wl_in 359 rfl rfl)⟩
set_option maxRecDepth 20000 in
theorem fl_A_56 : aw_fl "ArcTape" 56 6 5 "ArcTape" ft_A 8 := ⟨rfl, wu_A, by decide, (wl_in 360 rfl rfl)⟩
set_option maxRecDepth 20000 in
theorem fl_A_62 : aw_fl "ArcTape" 62 3 0 "ArcTape$Reader" ft_D 14 := ⟨rfl, wu_D, by decide, (wl_in 118 rfl rfl)⟩
set_option maxRecDepth 20000 in
theorem fl_A_68 : aw_fl "ArcTape" 68 6 6 "ArcTape" ft_A 8 := ⟨rfl, wu_A, by decide, (wl_in 361 rfl rfl)⟩
set_option maxRecDepth 20000 in
theorem fl_A_75 : aw_fl "ArcTape" 75 6 7 "ArcTape" ft_A 8 := ⟨rfl, wu_A, by decide, (wl_in 362 rfl rfl)⟩
set_option maxRecDepth 20000 in
theorem fl_M_109 : aw_fl "ArcTapeModel" 109 7 5 "ArcTapeModel" ft_M 29 := ⟨rfl, wu_M, by decide, (wl_in 601 rfl rfl)⟩
set_option maxRecDepth 20000 in
theorem fl_M_118 : aw_fl "ArcTapeModel" 118 7 6 "ArcTapeModel" ft_M 29 := ⟨rfl, wu_M, by decide, (wl_in 602 rfl rfl)⟩
set_option maxRecDepth 20000 in
theorem fl_M_125 : aw_fl "ArcTapeModel" 125 7 12 "ArcTapeModel" ft_M 29 := ⟨rfl, wu_M, by decide, (wl_in 608 rfl rfl)⟩
set_option maxRecDepth 20000 in
theorem fl_M_128 : aw_fl "ArcTapeModel" 128 7 11 "ArcTapeModel" ft_M 29 := ⟨rfl, wu_M, by decide, (wl_in 607 rfl rfl)⟩
set_option maxRecDepth 20000 in
theorem fl_M_13 : aw_fl "ArcTapeModel" 13 7 2 "ArcTapeModel" ft_M 29 := ⟨rfl, wu_M, by decide, (wl_in 598 rfl rfl)⟩
set_option maxRecDepth 20000 in
theorem fl_M_141 : aw_fl "ArcTapeModel" 141 7 14 "ArcTapeModel" ft_M 29 := ⟨rfl, wu_M, by decide, (wl_in 610 rfl rfl)⟩
set_option maxRecDepth 20000 in
theorem fl_M_145 : aw_fl "ArcTapeModel" 145 7 13 "ArcTapeModel" ft_M 29 := ⟨rfl, wu_M, by decide, (wl_in 609 rfl rfl)⟩
set_option maxRecDepth 20000 in
theorem fl_M_16 : aw_fl "ArcTapeModel" 16 7 4 "ArcTapeModel" ft_M 29 := ⟨rfl, wu_M, by decide, (wl_in 600 rfl rfl)⟩
set_option maxRecDepth 20000 in
theorem fl_M_176 : aw_fl "ArcTapeModel" 176 7 28 "ArcTapeModel" ft_M 29 := ⟨rfl, wu_M, by decide, (wl_in 624 rfl rfl)⟩
set_option maxRecDepth 20000 in
theorem fl_M_19 : aw_fl "ArcTapeModel" 19 7 9 "ArcTapeModel" ft_M 29 := ⟨rfl, wu_M, by decide, (wl_in 605 rfl rfl)⟩
set_option maxRecDepth 20000 in
theorem fl_M_191 : aw_fl "ArcTapeModel" 191 7 20 "ArcTapeModel" ft_M 29 := ⟨rfl, wu_M, by decide, (wl_in 616 rfl rfl)⟩
set_option maxRecDepth 20000 in
theorem fl_M_194 : aw_fl "ArcTapeModel" 194 7 21 "ArcTapeModel" ft_M 29 := ⟨rfl, wu_M, by decide, (wl_in 617 rfl rfl)⟩
set_option maxRecDepth 20000 in
theorem fl_M_197 : aw_fl "ArcTapeModel" 197 7 25 "ArcTapeModel" ft_M 29 := ⟨rfl, wu_M, by decide, (wl_in 621 rfl rfl)⟩
set_option maxRecDepth 20000 in
theorem fl_M_22 : aw_fl "ArcTapeModel" 22 7 10 "ArcTapeModel" ft_M 29 := ⟨rfl, wu_M, by decide, (wl_in 606 rfl rfl)⟩
set_option maxRecDepth 20000 in
theorem fl_M_25 : aw_fl "ArcTapeModel" 25 7 15 "ArcTapeModel" ft_M 29 := ⟨rfl, wu_M, by decide, (wl_in 611 rfl rfl)⟩
set_option maxRecDepth 20000 in
theorem fl_M_28 : aw_fl "ArcTapeModel" 28 7 16 "ArcTapeModel" ft_M 29 := ⟨rfl, wu_M, by decide, (wl_in 612 rfl rfl)⟩
set_option maxRecDepth 20000 in
theorem fl_M_31 : aw_fl "ArcTapeModel" 31 7 17 "ArcTapeModel" ft_M 29 := ⟨rfl, wu_M, by decide, (wl_in 613 rfl rfl)⟩
set_option maxRecDepth 20000 in
theorem fl_M_34 : aw_fl "ArcTapeModel" 34 7 18 "ArcTapeModel" ft_M 29 := ⟨rfl, wu_M, by decide, (wl_in 614 rfl rfl)⟩
set_option maxRecDepth 20000 in
theorem fl_M_37 : aw_fl "ArcTapeModel" 37 7 19 "ArcTapeModel" ft_M 29 := ⟨rfl, wu_M, by decide, (wl_in 615 rfl rfl)⟩
set_option maxRecDepth 20000 in
theorem fl_M_40 : aw_fl "ArcTapeModel" 40 7 22 "ArcTapeModel" ft_M 29 := ⟨rfl, wu_M, by decide, (wl_in 618 rfl rfl)⟩
set_option maxRecDepth 20000 in
theorem fl_M_44 : aw_fl "ArcTapeModel" 44 7 23 "ArcTapeModel" ft_M 29 := ⟨rfl, wu_M, by decide, (wl_in 619 rfl rfl)⟩
set_option maxRecDepth 20000 in
theorem fl_M_47 : aw_fl "ArcTapeModel" 47 7 24 "ArcTapeModel" ft_M 29 := ⟨rfl, wu_M, by decide, (wl_in 620 rfl rfl)⟩
set_option maxRecDepth 20000 in
theorem fl_M_50 : aw_fl "ArcTapeModel" 50 7 26 "ArcTapeModel" ft_M 29 := ⟨rfl, wu_M, by decide, (wl_in 622 rfl rfl)⟩
set_option maxRecDepth 20000 in
theorem fl_M_53 : aw_fl "ArcTapeModel" 53 7 27 "ArcTapeModel" ft_M 29 := ⟨rfl, wu_M, by decide, (wl_in 623 rfl rfl)⟩
set_option maxRecDepth 20000 in
theorem fl_M_56 : aw_fl "ArcTapeModel" 56 7 0 "ArcTapeModel" ft_M 29 := ⟨rfl, wu_M, by decide, (wl_in 596 rfl rfl)⟩
set_option maxRecDepth 20000 in
theorem fl_M_7 : aw_fl "ArcTapeModel" 7 7 1 "ArcTapeModel" ft_M 29 := ⟨rfl, wu_M, by decide, (wl_in 597 rfl rfl)⟩
set_option maxRecDepth 20000 in
theorem fl_M_72 : aw_fl "ArcTapeModel" 72 7 3 "ArcTapeModel" ft_M 29 := ⟨rfl, wu_M, by decide, (wl_in 599 rfl rfl)⟩
set_option maxRecDepth 20000 in
theorem fl_M_86 : aw_fl "ArcTapeModel" 86 7 8 "ArcTapeModel" ft_M 29 := ⟨rfl, wu_M, by decide, (wl_in 604 rfl rfl)⟩
set_option maxRecDepth 20000 in
theorem fl_M_92 : aw_fl "ArcTapeModel" 92 7 7 "ArcTapeModel" ft_M 29 := ⟨rfl, wu_M, by decide, (wl_in 603 rfl rfl)⟩
set_option maxRecDepth 20000 in
theorem wk_O_39 : Cond.constantLong "ArcTape$Scores" 39 (1000000 : Int64) ∈ wsAll := (wl_in 350 rfl rfl)
set_option maxRecDepth 20000 in
theorem wk_O_41 : Cond.constantLong "ArcTape$Scores" 41 (1000000000000 : Int64) ∈ wsAll := (wl_in 351 rfl rfl)
set_option maxRecDepth 20000 in
theorem wk_O_82 : Cond.constantLong "ArcTape$Scores" 82 (1000000000 : Int64) ∈ wsAll := (wl_in 490 rfl rfl)
set_option maxRecDepth 20000 in
theorem wk_O_84 : Cond.constantLong "ArcTape$Scores" 84 (1000 : Int64) ∈ wsAll := (wl_in 491 rfl rfl)
set_option maxRecDepth 20000 in
theorem wk_A_157 : Cond.constantLong "ArcTape" 157 (-1 : Int64) ∈ wsAll := (wl_in 517 rfl rfl)
set_option maxRecDepth 20000 in
theorem wk_M_121 : Cond.constant "ArcTapeModel" 121 (1048576 : Int32) ∈ wsAll := (wl_in 547 rfl rfl)
set_option maxRecDepth 20000 in
theorem wk_M_201 : Cond.constantLong "ArcTapeModel" 201 (1000000 : Int64) ∈ wsAll := (wl_in 594 rfl rfl)
set_option maxRecDepth 20000 in
theorem wk_M_203 : Cond.constantLong "ArcTapeModel" 203 (1000000000000 : Int64) ∈ wsAll := (wl_in 595 rfl rfl)
set_option maxRecDepth 20000 in
theorem wk_M_208 : Cond.constantLong "ArcTapeModel" 208 (1000000000 : Int64) ∈ wsAll := (wl_in 809 rfl rfl)
set_option maxRecDepth 20000 in
theorem wk_M_210 : Cond.constantLong "ArcTapeModel" 210 (1000 : Int64) ∈ wsAll := (wl_in 810 rfl rfl)
set_option maxRecDepth 20000 in
theorem wk_M_228 : Cond.constantLong "ArcTapeModel" 228 (-1 : Int64) ∈ wsAll := (wl_in 831 rfl rfl)
set_option maxRecDepth 20000 in
theorem wk_J_265 : Cond.constant "java/lang/Integer" 265 (1431655765 : Int32) ∈ wsAll := (wl_in 236 rfl rfl)
set_option maxRecDepth 20000 in
theorem wk_J_266 : Cond.constant "java/lang/Integer" 266 (858993459 : Int32) ∈ wsAll := (wl_in 237 rfl rfl)
set_option maxRecDepth 20000 in
theorem wk_J_267 : Cond.constant "java/lang/Integer" 267 (252645135 : Int32) ∈ wsAll := (wl_in 238 rfl rfl)
set_option maxRecDepth 20000 in
theorem fp_K_35 : aw_fp "ArcTape$Packer" 35 5 1 "ArcTape$Tape" ft_T 2 .int := ⟨fl_K_35, ⟨ty_T, tz_T⟩, rfl, tk_T 1 (by decide)⟩
set_option maxRecDepth 20000 in
theorem fp_D_34 : aw_fp "ArcTape$Reader" 34 3 7 "ArcTape$Reader" ft_D 14 .int := ⟨fl_D_34, ⟨ty_D, tz_D⟩, rfl, tk_D 7 (by decide)⟩
set_option maxRecDepth 20000 in
theorem fp_D_42 : aw_fp "ArcTape$Reader" 42 3 8 "ArcTape$Reader" ft_D 14 .int := ⟨fl_D_42, ⟨ty_D, tz_D⟩, rfl, tk_D 8 (by decide)⟩
set_option maxRecDepth 20000 in
theorem fp_D_45 : aw_fp "ArcTape$Reader" 45 3 9 "ArcTape$Reader" ft_D 14 .int := ⟨fl_D_45, ⟨ty_D, tz_D⟩, rfl, tk_D 9 (by decide)⟩
set_option maxRecDepth 20000 in
theorem fp_D_48 : aw_fp "ArcTape$Reader" 48 3 10 "ArcTape$Reader" ft_D 14 .int := ⟨fl_D_48, ⟨ty_D, tz_D⟩, rfl, tk_D 10 (by decide)⟩
set_option maxRecDepth 20000 in
theorem fp_D_51 : aw_fp "ArcTape$Reader" 51 3 11 "ArcTape$Reader" ft_D 14 .int := ⟨fl_D_51, ⟨ty_D, tz_D⟩, rfl, tk_D 11 (by decide)⟩
set_option maxRecDepth 20000 in
theorem fp_D_54 : aw_fp "ArcTape$Reader" 54 3 13 "ArcTape$Reader" ft_D 14 .boolean := ⟨fl_D_54, ⟨ty_D, tz_D⟩, rfl, tk_D 13 (by decide)⟩
set_option maxRecDepth 20000 in
theorem fp_D_65 : aw_fp "ArcTape$Reader" 65 3 12 "ArcTape$Reader" ft_D 14 .int := ⟨fl_D_65, ⟨ty_D, tz_D⟩, rfl, tk_D 12 (by decide)⟩
set_option maxRecDepth 20000 in
theorem fp_O_28 : aw_fp "ArcTape$Scores" 28 4 6 "ArcTape$Scores" ft_O 8 .int := ⟨fl_O_28, ⟨ty_O, tz_O⟩, rfl, tk_O 6 (by decide)⟩
set_option maxRecDepth 20000 in
theorem fp_O_32 : aw_fp "ArcTape$Scores" 32 4 7 "ArcTape$Scores" ft_O 8 .int := ⟨fl_O_32, ⟨ty_O, tz_O⟩, rfl, tk_O 7 (by decide)⟩
set_option maxRecDepth 20000 in
theorem fp_O_35 : aw_fp "ArcTape$Scores" 35 4 3 "ArcTape$Scores" ft_O 8 .long := ⟨fl_O_35, ⟨ty_O, tz_O⟩, rfl, tk_O 3 (by decide)⟩
set_option maxRecDepth 20000 in
theorem fp_T_13 : aw_fp "ArcTape$Tape" 13 5 1 "ArcTape$Tape" ft_T 2 .int := ⟨fl_T_13, ⟨ty_T, tz_T⟩, rfl, tk_T 1 (by decide)⟩
set_option maxRecDepth 20000 in
theorem fp_A_101 : aw_fp "ArcTape" 101 0 0 "ArcTape$Layout" ft_Y 5 .int := ⟨fl_A_101, ⟨ty_Y, tz_Y⟩, rfl, tk_Y 0 (by decide)⟩
set_option maxRecDepth 20000 in
theorem fp_A_104 : aw_fp "ArcTape" 104 0 1 "ArcTape$Layout" ft_Y 5 .int := ⟨fl_A_104, ⟨ty_Y, tz_Y⟩, rfl, tk_Y 1 (by decide)⟩
set_option maxRecDepth 20000 in
theorem fp_A_107 : aw_fp "ArcTape" 107 0 2 "ArcTape$Layout" ft_Y 5 .int := ⟨fl_A_107, ⟨ty_Y, tz_Y⟩, rfl, tk_Y 2 (by decide)⟩
set_option maxRecDepth 20000 in
theorem fp_A_110 : aw_fp "ArcTape" 110 0 3 "ArcTape$Layout" ft_Y 5 .int := ⟨fl_A_110, ⟨ty_Y, tz_Y⟩, rfl, tk_Y 3 (by decide)⟩
set_option maxRecDepth 20000 in
theorem fp_M_109 : aw_fp "ArcTapeModel" 109 7 5 "ArcTapeModel" ft_M 29 .int := ⟨fl_M_109, ⟨ty_M, tz_M⟩, rfl, tk_M 5 (by decide)⟩
set_option maxRecDepth 20000 in
theorem fp_M_118 : aw_fp "ArcTapeModel" 118 7 6 "ArcTapeModel" ft_M 29 .int := ⟨fl_M_118, ⟨ty_M, tz_M⟩, rfl, tk_M 6 (by decide)⟩
set_option maxRecDepth 20000 in
theorem fp_M_125 : aw_fp "ArcTapeModel" 125 7 12 "ArcTapeModel" ft_M 29 .int := ⟨fl_M_125, ⟨ty_M, tz_M⟩, rfl, tk_M 12 (by decide)⟩
set_option maxRecDepth 20000 in
theorem fp_M_128 : aw_fp "ArcTapeModel" 128 7 11 "ArcTapeModel" ft_M 29 .int := ⟨fl_M_128, ⟨ty_M, tz_M⟩, rfl, tk_M 11 (by decide)⟩
set_option maxRecDepth 20000 in
theorem fp_M_141 : aw_fp "ArcTapeModel" 141 7 14 "ArcTapeModel" ft_M 29 .boolean := ⟨fl_M_141, ⟨ty_M, tz_M⟩, rfl, tk_M 14 (by decide)⟩
set_option maxRecDepth 20000 in
theorem fp_M_145 : aw_fp "ArcTapeModel" 145 7 13 "ArcTapeModel" ft_M 29 .int := ⟨fl_M_145, ⟨ty_M, tz_M⟩, rfl, tk_M 13 (by decide)⟩
set_option maxRecDepth 20000 in
theorem fp_M_176 : aw_fp "ArcTapeModel" 176 7 28 "ArcTapeModel" ft_M 29 .int := ⟨fl_M_176, ⟨ty_M, tz_M⟩, rfl, tk_M 28 (by decide)⟩
set_option maxRecDepth 20000 in
theorem fp_M_191 : aw_fp "ArcTapeModel" 191 7 20 "ArcTapeModel" ft_M 29 .int := ⟨fl_M_191, ⟨ty_M, tz_M⟩, rfl, tk_M 20 (by decide)⟩
set_option maxRecDepth 20000 in
theorem fp_M_194 : aw_fp "ArcTapeModel" 194 7 21 "ArcTapeModel" ft_M 29 .int := ⟨fl_M_194, ⟨ty_M, tz_M⟩, rfl, tk_M 21 (by decide)⟩
set_option maxRecDepth 20000 in
theorem fp_M_197 : aw_fp "ArcTapeModel" 197 7 25 "ArcTapeModel" ft_M 29 .long := ⟨fl_M_197, ⟨ty_M, tz_M⟩, rfl, tk_M 25 (by decide)⟩
set_option maxRecDepth 20000 in
theorem fp_M_72 : aw_fp "ArcTapeModel" 72 7 3 "ArcTapeModel" ft_M 29 .int := ⟨fl_M_72, ⟨ty_M, tz_M⟩, rfl, tk_M 3 (by decide)⟩
set_option maxRecDepth 20000 in
theorem fp_M_86 : aw_fp "ArcTapeModel" 86 7 8 "ArcTapeModel" ft_M 29 .int := ⟨fl_M_86, ⟨ty_M, tz_M⟩, rfl, tk_M 8 (by decide)⟩
set_option maxRecDepth 20000 in
theorem fp_M_92 : aw_fp "ArcTapeModel" 92 7 7 "ArcTapeModel" ft_M 29 .int := ⟨fl_M_92, ⟨ty_M, tz_M⟩, rfl, tk_M 7 (by decide)⟩
set_option maxRecDepth 20000 in
theorem wc_K_101 : aw_wS "ArcTape$Packer" 101 y_T_withoutSign c_T_withoutSign 1 (some .int) 1 := ⟨(wl_in 271 rfl rfl), (wl_in 3 rfl rfl), (wl_in 269 rfl rfl), (wl_in 270 rfl rfl), ⟨by decide, by decide, by decide +kernel⟩, by decide⟩
set_option maxRecDepth 20000 in
theorem wc_K_107 : aw_wV "ArcTape$Packer" 107 y_T_putZeta c_T_putZeta 5 none 2 5 "ArcTape$Tape" ft_T 2 := ⟨(wl_in 279 rfl rfl), (wl_in 3 rfl rfl), (wl_in 276 rfl rfl), (wl_in 277 rfl rfl), (wl_in 278 rfl rfl), rfl, ⟨by decide, by decide, by decide +kernel⟩, by decide⟩
set_option maxRecDepth 20000 in
theorem wc_K_46 : aw_wV "ArcTape$Packer" 46 y_K_bestReference c_K_bestReference 7 (some .int) 1 1 "ArcTape$Packer" ft_K 7 := ⟨(wl_in 223 rfl rfl), (wl_in 5 rfl rfl), (wl_in 220 rfl rfl), (wl_in 222 rfl rfl), (wl_se 0 rfl rfl), rfl, ⟨by decide, by decide, by decide +kernel⟩, by decide⟩
set_option maxRecDepth 20000 in
theorem wc_K_50 : aw_wV "ArcTape$Packer" 50 y_K_writeRecord c_K_writeRecord 4 none 2 1 "ArcTape$Packer" ft_K 7 := ⟨(wl_in 232 rfl rfl), (wl_in 5 rfl rfl), (wl_in 229 rfl rfl), (wl_in 231 rfl rfl), (wl_se 2 rfl rfl), rfl, ⟨by decide, by decide, by decide +kernel⟩, by decide⟩
set_option maxRecDepth 20000 in
theorem wc_K_63 : aw_wV "ArcTape$Packer" 63 y_K_mayBeReferredTo c_K_mayBeReferredTo 2 (some .boolean) 1 1 "ArcTape$Packer" ft_K 7 := ⟨(wl_in 228 rfl rfl), (wl_in 5 rfl rfl), (wl_in 225 rfl rfl), (wl_in 227 rfl rfl), (wl_se 1 rfl rfl), rfl, ⟨by decide, by decide, by decide +kernel⟩, by decide⟩
set_option maxRecDepth 20000 in
theorem wc_K_70 : aw_wS "ArcTape$Packer" 70 y_J_bitCount c_J_bitCount 1 (some .int) 1 := ⟨(wl_in 235 rfl rfl), (wl_in 9 rfl rfl), (wl_in 233 rfl rfl), (wl_in 234 rfl rfl), ⟨by decide, by decide, by decide +kernel⟩, by decide⟩
set_option maxRecDepth 20000 in
theorem wc_K_75 : aw_wV "ArcTape$Packer" 75 y_T_putGamma c_T_putGamma 2 none 1 5 "ArcTape$Tape" ft_T 2 := ⟨(wl_in 242 rfl rfl), (wl_in 3 rfl rfl), (wl_in 239 rfl rfl), (wl_in 240 rfl rfl), (wl_in 241 rfl rfl), rfl, ⟨by decide, by decide, by decide +kernel⟩, by decide⟩
set_option maxRecDepth 20000 in
theorem wc_K_79 : aw_wV "ArcTape$Packer" 79 y_T_putUnary c_T_putUnary 2 none 1 5 "ArcTape$Tape" ft_T 2 := ⟨(wl_in 253 rfl rfl), (wl_in 3 rfl rfl), (wl_in 250 rfl rfl), (wl_in 251 rfl rfl), (wl_in 252 rfl rfl), rfl, ⟨by decide, by decide, by decide +kernel⟩, by decide⟩
set_option maxRecDepth 20000 in
theorem wc_K_82 : aw_wV "ArcTape$Packer" 82 y_K_writeRuns c_K_writeRuns 6 none 2 1 "ArcTape$Packer" ft_K 7 := ⟨(wl_in 257 rfl rfl), (wl_in 5 rfl rfl), (wl_in 254 rfl rfl), (wl_in 256 rfl rfl), (wl_se 3 rfl rfl), rfl, ⟨by decide, by decide, by decide +kernel⟩, by decide⟩
set_option maxRecDepth 20000 in
theorem wc_K_88 : aw_wV "ArcTape$Packer" 88 y_K_writeIntervals c_K_writeIntervals 7 (some .int) 2 1 "ArcTape$Packer" ft_K 7 := ⟨(wl_in 264 rfl rfl), (wl_in 5 rfl rfl), (wl_in 261 rfl rfl), (wl_in 263 rfl rfl), (wl_se 4 rfl rfl), rfl, ⟨by decide, by decide, by decide +kernel⟩, by decide⟩
set_option maxRecDepth 20000 in
theorem wc_K_91 : aw_wV "ArcTape$Packer" 91 y_K_writeSingles c_K_writeSingles 5 none 2 1 "ArcTape$Packer" ft_K 7 := ⟨(wl_in 275 rfl rfl), (wl_in 5 rfl rfl), (wl_in 272 rfl rfl), (wl_in 274 rfl rfl), (wl_se 6 rfl rfl), rfl, ⟨by decide, by decide, by decide +kernel⟩, by decide⟩
set_option maxRecDepth 20000 in
theorem wc_K_94 : aw_wN "ArcTape$Packer" 94 y_A_holds c_A_holds 2 (some .boolean) 2 "ArcTape" := ⟨(wl_in 260 rfl rfl), (wl_in 1 rfl rfl), List.mem_of_getElem? (i := 1) rfl, (wl_in 259 rfl rfl), ⟨by decide, by decide, by decide +kernel⟩, by decide⟩
set_option maxRecDepth 20000 in
theorem wc_K_98 : aw_wV "ArcTape$Packer" 98 y_K_rowLength c_K_rowLength 4 (some .int) 2 1 "ArcTape$Packer" ft_K 7 := ⟨(wl_in 268 rfl rfl), (wl_in 5 rfl rfl), (wl_in 265 rfl rfl), (wl_in 267 rfl rfl), (wl_se 5 rfl rfl), rfl, ⟨by decide, by decide, by decide +kernel⟩, by decide⟩
set_option maxRecDepth 20000 in
theorem wc_S_19 : aw_wV "ArcTape$Parts" 19 y_S_findReached c_S_findReached 3 none 0 2 "ArcTape$Parts" ft_S 3 := ⟨(wl_in 438 rfl rfl), (wl_in 7 rfl rfl), (wl_in 435 rfl rfl), (wl_in 437 rfl rfl), (wl_se 22 rfl rfl), rfl, ⟨by decide, by decide, by decide +kernel⟩, by decide⟩
set_option maxRecDepth 20000 in
theorem wc_S_22 : aw_wV "ArcTape$Parts" 22 y_S_nextReady c_S_nextReady 3 (some .int) 1 2 "ArcTape$Parts" ft_S 3 := ⟨(wl_in 443 rfl rfl), (wl_in 7 rfl rfl), (wl_in 440 rfl rfl), (wl_in 442 rfl rfl), (wl_se 23 rfl rfl), rfl, ⟨by decide, by decide, by decide +kernel⟩, by decide⟩
set_option maxRecDepth 20000 in
theorem wc_S_26 : aw_wV "ArcTape$Parts" 26 y_S_partOf c_S_partOf 4 (some .int) 1 2 "ArcTape$Parts" ft_S 3 := ⟨(wl_in 447 rfl rfl), (wl_in 7 rfl rfl), (wl_in 444 rfl rfl), (wl_in 446 rfl rfl), (wl_se 24 rfl rfl), rfl, ⟨by decide, by decide, by decide +kernel⟩, by decide⟩
set_option maxRecDepth 20000 in
theorem wc_S_29 : aw_wN "ArcTape$Parts" 29 y_A_holds c_A_holds 2 (some .boolean) 2 "ArcTape" := ⟨(wl_in 260 rfl rfl), (wl_in 1 rfl rfl), List.mem_of_getElem? (i := 3) rfl, (wl_in 259 rfl rfl), ⟨by decide, by decide, by decide +kernel⟩, by decide⟩
set_option maxRecDepth 20000 in
theorem wc_D_101 : aw_wS "ArcTape$Reader" 101 y_J_bitCount c_J_bitCount 1 (some .int) 1 := ⟨(wl_in 235 rfl rfl), (wl_in 9 rfl rfl), (wl_in 320 rfl rfl), (wl_in 234 rfl rfl), ⟨by decide, by decide, by decide +kernel⟩, by decide⟩
set_option maxRecDepth 20000 in
theorem wc_D_107 : aw_wS "ArcTape$Reader" 107 y_D_lowest c_D_lowest 4 (some .int) 2 := ⟨(wl_in 323 rfl rfl), (wl_in 6 rfl rfl), (wl_in 321 rfl rfl), (wl_in 322 rfl rfl), ⟨by decide, by decide, by decide +kernel⟩, by decide⟩
set_option maxRecDepth 20000 in
theorem wc_D_111 : aw_wV "ArcTape$Reader" 111 y_D_take c_D_take 2 none 1 3 "ArcTape$Reader" ft_D 14 := ⟨(wl_in 327 rfl rfl), (wl_in 6 rfl rfl), (wl_in 324 rfl rfl), (wl_in 326 rfl rfl), (wl_se 16 rfl rfl), rfl, ⟨by decide, by decide, by decide +kernel⟩, by decide⟩
set_option maxRecDepth 20000 in
theorem wc_D_114 : aw_wS "ArcTape$Reader" 114 y_T_withSign c_T_withSign 1 (some .int) 1 := ⟨(wl_in 334 rfl rfl), (wl_in 3 rfl rfl), (wl_in 332 rfl rfl), (wl_in 333 rfl rfl), ⟨by decide, by decide, by decide +kernel⟩, by decide⟩
set_option maxRecDepth 20000 in
theorem wc_D_119 : aw_wN "ArcTape$Reader" 119 y_A_within c_A_within 3 (some .boolean) 3 "ArcTape" := ⟨(wl_in 337 rfl rfl), (wl_in 1 rfl rfl), List.mem_of_getElem? (i := 2) rfl, (wl_in 336 rfl rfl), ⟨by decide, by decide, by decide +kernel⟩, by decide⟩
set_option maxRecDepth 20000 in
theorem wc_D_125 : aw_wV "ArcTape$Reader" 125 y_D_nextZeta c_D_nextZeta 4 (some .int) 0 3 "ArcTape$Reader" ft_D 14 := ⟨(wl_in 345 rfl rfl), (wl_in 6 rfl rfl), (wl_in 342 rfl rfl), (wl_in 344 rfl rfl), (wl_se 19 rfl rfl), rfl, ⟨by decide, by decide, by decide +kernel⟩, by decide⟩
set_option maxRecDepth 20000 in
theorem wc_D_135 : aw_wV "ArcTape$Reader" 135 y_D_nextBit c_D_nextBit 1 (some .int) 0 3 "ArcTape$Reader" ft_D 14 := ⟨(wl_in 299 rfl rfl), (wl_in 6 rfl rfl), (wl_in 296 rfl rfl), (wl_in 298 rfl rfl), (wl_se 10 rfl rfl), rfl, ⟨by decide, by decide, by decide +kernel⟩, by decide⟩
set_option maxRecDepth 20000 in
theorem wc_D_138 : aw_wV "ArcTape$Reader" 138 y_D_nextNumber c_D_nextNumber 5 (some .int) 2 3 "ArcTape$Reader" ft_D 14 := ⟨(wl_in 307 rfl rfl), (wl_in 6 rfl rfl), (wl_in 304 rfl rfl), (wl_in 306 rfl rfl), (wl_se 12 rfl rfl), rfl, ⟨by decide, by decide, by decide +kernel⟩, by decide⟩
set_option maxRecDepth 20000 in
theorem wc_D_58 : aw_wV "ArcTape$Reader" 58 y_D_readRecord c_D_readRecord 1 none 0 3 "ArcTape$Reader" ft_D 14 := ⟨(wl_in 287 rfl rfl), (wl_in 6 rfl rfl), (wl_in 284 rfl rfl), (wl_in 286 rfl rfl), (wl_se 7 rfl rfl), rfl, ⟨by decide, by decide, by decide +kernel⟩, by decide⟩
set_option maxRecDepth 20000 in
theorem wc_D_61 : aw_wV "ArcTape$Reader" 61 y_D_nextGamma c_D_nextGamma 1 (some .int) 0 3 "ArcTape$Reader" ft_D 14 := ⟨(wl_in 291 rfl rfl), (wl_in 6 rfl rfl), (wl_in 288 rfl rfl), (wl_in 290 rfl rfl), (wl_se 8 rfl rfl), rfl, ⟨by decide, by decide, by decide +kernel⟩, by decide⟩
set_option maxRecDepth 20000 in
theorem wc_D_68 : aw_wV "ArcTape$Reader" 68 y_D_failIf c_D_failIf 3 none 2 3 "ArcTape$Reader" ft_D 14 := ⟨(wl_in 303 rfl rfl), (wl_in 6 rfl rfl), (wl_in 300 rfl rfl), (wl_in 302 rfl rfl), (wl_se 11 rfl rfl), rfl, ⟨by decide, by decide, by decide +kernel⟩, by decide⟩
set_option maxRecDepth 20000 in
theorem wc_D_72 : aw_wV "ArcTape$Reader" 72 y_D_goesOn c_D_goesOn 1 (some .boolean) 0 3 "ArcTape$Reader" ft_D 14 := ⟨(wl_in 311 rfl rfl), (wl_in 6 rfl rfl), (wl_in 308 rfl rfl), (wl_in 310 rfl rfl), (wl_se 13 rfl rfl), rfl, ⟨by decide, by decide, by decide +kernel⟩, by decide⟩
set_option maxRecDepth 20000 in
theorem wc_D_79 : aw_wV "ArcTape$Reader" 79 y_D_readReference c_D_readReference 2 none 0 3 "ArcTape$Reader" ft_D 14 := ⟨(wl_in 315 rfl rfl), (wl_in 6 rfl rfl), (wl_in 312 rfl rfl), (wl_in 314 rfl rfl), (wl_se 14 rfl rfl), rfl, ⟨by decide, by decide, by decide +kernel⟩, by decide⟩
set_option maxRecDepth 20000 in
theorem wc_D_82 : aw_wV "ArcTape$Reader" 82 y_D_readRuns c_D_readRuns 8 none 1 3 "ArcTape$Reader" ft_D 14 := ⟨(wl_in 319 rfl rfl), (wl_in 6 rfl rfl), (wl_in 316 rfl rfl), (wl_in 318 rfl rfl), (wl_se 15 rfl rfl), rfl, ⟨by decide, by decide, by decide +kernel⟩, by decide⟩
set_option maxRecDepth 20000 in
theorem wc_D_89 : aw_wV "ArcTape$Reader" 89 y_D_readIntervals c_D_readIntervals 6 none 0 3 "ArcTape$Reader" ft_D 14 := ⟨(wl_in 331 rfl rfl), (wl_in 6 rfl rfl), (wl_in 328 rfl rfl), (wl_in 330 rfl rfl), (wl_se 17 rfl rfl), rfl, ⟨by decide, by decide, by decide +kernel⟩, by decide⟩
set_option maxRecDepth 20000 in
theorem wc_D_92 : aw_wV "ArcTape$Reader" 92 y_D_readSingles c_D_readSingles 4 none 0 3 "ArcTape$Reader" ft_D 14 := ⟨(wl_in 341 rfl rfl), (wl_in 6 rfl rfl), (wl_in 338 rfl rfl), (wl_in 340 rfl rfl), (wl_se 18 rfl rfl), rfl, ⟨by decide, by decide, by decide +kernel⟩, by decide⟩
set_option maxRecDepth 20000 in
theorem wc_D_95 : aw_wV "ArcTape$Reader" 95 y_D_nextUnary c_D_nextUnary 2 (some .int) 0 3 "ArcTape$Reader" ft_D 14 := ⟨(wl_in 295 rfl rfl), (wl_in 6 rfl rfl), (wl_in 292 rfl rfl), (wl_in 294 rfl rfl), (wl_se 9 rfl rfl), rfl, ⟨by decide, by decide, by decide +kernel⟩, by decide⟩
set_option maxRecDepth 20000 in
theorem wc_O_43 : aw_wS "ArcTape$Scores" 43 y_O_quotient c_O_quotient 4 (some .long) 2 := ⟨(wl_in 354 rfl rfl), (wl_in 8 rfl rfl), (wl_in 352 rfl rfl), (wl_in 353 rfl rfl), ⟨by decide, by decide, by decide +kernel⟩, by decide⟩
set_option maxRecDepth 20000 in
theorem wc_O_47 : aw_wV "ArcTape$Scores" 47 y_O_stepOnce c_O_stepOnce 2 none 0 4 "ArcTape$Scores" ft_O 8 := ⟨(wl_in 475 rfl rfl), (wl_in 8 rfl rfl), (wl_in 472 rfl rfl), (wl_in 474 rfl rfl), (wl_se 25 rfl rfl), rfl, ⟨by decide, by decide, by decide +kernel⟩, by decide⟩
set_option maxRecDepth 20000 in
theorem wc_O_56 : aw_wV "ArcTape$Scores" 56 y_O_stepByRank c_O_stepByRank 10 none 0 4 "ArcTape$Scores" ft_O 8 := ⟨(wl_in 482 rfl rfl), (wl_in 8 rfl rfl), (wl_in 479 rfl rfl), (wl_in 481 rfl rfl), (wl_se 26 rfl rfl), rfl, ⟨by decide, by decide, by decide +kernel⟩, by decide⟩
set_option maxRecDepth 20000 in
theorem wc_O_59 : aw_wV "ArcTape$Scores" 59 y_O_stepByGreatest c_O_stepByGreatest 3 none 0 4 "ArcTape$Scores" ft_O 8 := ⟨(wl_in 495 rfl rfl), (wl_in 8 rfl rfl), (wl_in 492 rfl rfl), (wl_in 494 rfl rfl), (wl_se 28 rfl rfl), rfl, ⟨by decide, by decide, by decide +kernel⟩, by decide⟩
set_option maxRecDepth 20000 in
theorem wc_O_62 : aw_wV "ArcTape$Scores" 62 y_O_stepByShares c_O_stepByShares 3 none 0 4 "ArcTape$Scores" ft_O 8 := ⟨(wl_in 505 rfl rfl), (wl_in 8 rfl rfl), (wl_in 502 rfl rfl), (wl_in 504 rfl rfl), (wl_se 29 rfl rfl), rfl, ⟨by decide, by decide, by decide +kernel⟩, by decide⟩
set_option maxRecDepth 20000 in
theorem wc_O_71 : aw_wV "ArcTape$Scores" 71 y_O_weightOfOthers c_O_weightOfOthers 4 (some .int) 1 4 "ArcTape$Scores" ft_O 8 := ⟨(wl_in 459 rfl rfl), (wl_in 8 rfl rfl), (wl_in 483 rfl rfl), (wl_in 457 rfl rfl), (wl_in 458 rfl rfl), rfl, ⟨by decide, by decide, by decide +kernel⟩, by decide⟩
set_option maxRecDepth 20000 in
theorem wc_O_75 : aw_wN "ArcTape$Scores" 75 y_A_holds c_A_holds 2 (some .boolean) 2 "ArcTape" := ⟨(wl_in 260 rfl rfl), (wl_in 1 rfl rfl), List.mem_of_getElem? (i := 4) rfl, (wl_in 259 rfl rfl), ⟨by decide, by decide, by decide +kernel⟩, by decide⟩
set_option maxRecDepth 20000 in
theorem wc_O_79 : aw_wV "ArcTape$Scores" 79 y_O_linksFrom c_O_linksFrom 2 (some .int) 1 4 "ArcTape$Scores" ft_O 8 := ⟨(wl_in 488 rfl rfl), (wl_in 8 rfl rfl), (wl_in 485 rfl rfl), (wl_in 487 rfl rfl), (wl_se 27 rfl rfl), rfl, ⟨by decide, by decide, by decide +kernel⟩, by decide⟩
set_option maxRecDepth 20000 in
theorem wc_O_86 : aw_wS "ArcTape$Scores" 86 y_O_bringToGreatest c_O_bringToGreatest 4 none 1 := ⟨(wl_in 498 rfl rfl), (wl_in 8 rfl rfl), (wl_in 496 rfl rfl), (wl_in 497 rfl rfl), ⟨by decide, by decide, by decide +kernel⟩, by decide⟩
set_option maxRecDepth 20000 in
theorem wc_O_93 : aw_wV "ArcTape$Scores" 93 y_O_linksTo c_O_linksTo 4 (some .int) 1 4 "ArcTape$Scores" ft_O 8 := ⟨(wl_in 509 rfl rfl), (wl_in 8 rfl rfl), (wl_in 506 rfl rfl), (wl_in 508 rfl rfl), (wl_se 30 rfl rfl), rfl, ⟨by decide, by decide, by decide +kernel⟩, by decide⟩
set_option maxRecDepth 20000 in
theorem wc_O_96 : aw_wS "ArcTape$Scores" 96 y_J_bitCount c_J_bitCount 1 (some .int) 1 := ⟨(wl_in 235 rfl rfl), (wl_in 9 rfl rfl), (wl_in 489 rfl rfl), (wl_in 234 rfl rfl), ⟨by decide, by decide, by decide +kernel⟩, by decide⟩
set_option maxRecDepth 20000 in
theorem wc_T_17 : aw_wV "ArcTape$Tape" 17 y_T_putNumber c_T_putNumber 4 none 2 5 "ArcTape$Tape" ft_T 2 := ⟨(wl_in 249 rfl rfl), (wl_in 3 rfl rfl), (wl_in 246 rfl rfl), (wl_in 247 rfl rfl), (wl_in 248 rfl rfl), rfl, ⟨by decide, by decide, by decide +kernel⟩, by decide⟩
set_option maxRecDepth 20000 in
theorem wc_T_21 : aw_wS "ArcTape$Tape" 21 y_T_exponent c_T_exponent 2 (some .int) 1 := ⟨(wl_in 245 rfl rfl), (wl_in 3 rfl rfl), (wl_in 243 rfl rfl), (wl_in 244 rfl rfl), ⟨by decide, by decide, by decide +kernel⟩, by decide⟩
set_option maxRecDepth 20000 in
theorem wc_A_119 : aw_wV "ArcTape" 119 y_A_isPlace c_A_isPlace 2 (some .boolean) 1 6 "ArcTape" ft_A 8 := ⟨(wl_in 409 rfl rfl), (wl_in 1 rfl rfl), (wl_in 406 rfl rfl), (wl_in 408 rfl rfl), (wl_se 21 rfl rfl), rfl, ⟨by decide, by decide, by decide +kernel⟩, by decide⟩
set_option maxRecDepth 20000 in
theorem wc_A_129 : aw_wS "ArcTape" 129 y_J_bitCount c_J_bitCount 1 (some .int) 1 := ⟨(wl_in 235 rfl rfl), (wl_in 9 rfl rfl), (wl_in 418 rfl rfl), (wl_in 234 rfl rfl), ⟨by decide, by decide, by decide +kernel⟩, by decide⟩
set_option maxRecDepth 20000 in
theorem wc_A_138 : aw_wV "ArcTape" 138 y_S_numberAll c_S_numberAll 6 (some .int) 0 2 "ArcTape$Parts" ft_S 3 := ⟨(wl_in 434 rfl rfl), (wl_in 7 rfl rfl), (wl_in 431 rfl rfl), (wl_in 432 rfl rfl), (wl_in 433 rfl rfl), rfl, ⟨by decide, by decide, by decide +kernel⟩, by decide⟩
set_option maxRecDepth 20000 in
theorem wc_A_145 : aw_wV "ArcTape" 145 y_O_weightOfOthers c_O_weightOfOthers 4 (some .int) 1 4 "ArcTape$Scores" ft_O 8 := ⟨(wl_in 459 rfl rfl), (wl_in 8 rfl rfl), (wl_in 456 rfl rfl), (wl_in 457 rfl rfl), (wl_in 458 rfl rfl), rfl, ⟨by decide, by decide, by decide +kernel⟩, by decide⟩
set_option maxRecDepth 20000 in
theorem wc_A_151 : aw_wV "ArcTape" 151 y_O_advance c_O_advance 3 (some .int) 1 4 "ArcTape$Scores" ft_O 8 := ⟨(wl_in 471 rfl rfl), (wl_in 8 rfl rfl), (wl_in 468 rfl rfl), (wl_in 469 rfl rfl), (wl_in 470 rfl rfl), rfl, ⟨by decide, by decide, by decide +kernel⟩, by decide⟩
set_option maxRecDepth 20000 in
theorem wc_A_162 : aw_wV "ArcTape" 162 y_O_placeOf c_O_placeOf 4 (some .int) 1 4 "ArcTape$Scores" ft_O 8 := ⟨(wl_in 529 rfl rfl), (wl_in 8 rfl rfl), (wl_in 526 rfl rfl), (wl_in 527 rfl rfl), (wl_in 528 rfl rfl), rfl, ⟨by decide, by decide, by decide +kernel⟩, by decide⟩
set_option maxRecDepth 20000 in
theorem wc_A_79 : aw_wV "ArcTape" 79 y_K_writeAll c_K_writeAll 3 none 0 1 "ArcTape$Packer" ft_K 7 := ⟨(wl_in 219 rfl rfl), (wl_in 5 rfl rfl), (wl_in 216 rfl rfl), (wl_in 217 rfl rfl), (wl_in 218 rfl rfl), rfl, ⟨by decide, by decide, by decide +kernel⟩, by decide⟩
set_option maxRecDepth 20000 in
theorem wc_A_82 : aw_wV "ArcTape" 82 y_D_readAll c_D_readAll 2 none 0 3 "ArcTape$Reader" ft_D 14 := ⟨(wl_in 283 rfl rfl), (wl_in 6 rfl rfl), (wl_in 280 rfl rfl), (wl_in 281 rfl rfl), (wl_in 282 rfl rfl), rfl, ⟨by decide, by decide, by decide +kernel⟩, by decide⟩
set_option maxRecDepth 20000 in
theorem wc_A_85 : aw_wV "ArcTape" 85 y_O_begin c_O_begin 4 none 2 4 "ArcTape$Scores" ft_O 8 := ⟨(wl_in 349 rfl rfl), (wl_in 8 rfl rfl), (wl_in 346 rfl rfl), (wl_in 347 rfl rfl), (wl_in 348 rfl rfl), rfl, ⟨by decide, by decide, by decide +kernel⟩, by decide⟩
set_option maxRecDepth 20000 in
theorem wc_A_89 : aw_wV "ArcTape" 89 y_A_isNode c_A_isNode 2 (some .boolean) 1 6 "ArcTape" ft_A 8 := ⟨(wl_in 387 rfl rfl), (wl_in 1 rfl rfl), (wl_in 384 rfl rfl), (wl_in 386 rfl rfl), (wl_se 20 rfl rfl), rfl, ⟨by decide, by decide, by decide +kernel⟩, by decide⟩
set_option maxRecDepth 20000 in
theorem wc_A_93 : aw_wS "ArcTape" 93 y_A_holds c_A_holds 2 (some .boolean) 2 := ⟨(wl_in 260 rfl rfl), (wl_in 1 rfl rfl), (wl_in 389 rfl rfl), (wl_in 259 rfl rfl), ⟨by decide, by decide, by decide +kernel⟩, by decide⟩
set_option maxRecDepth 20000 in
theorem wc_A_97 : aw_wS "ArcTape" 97 y_A_within c_A_within 3 (some .boolean) 3 := ⟨(wl_in 337 rfl rfl), (wl_in 1 rfl rfl), (wl_in 388 rfl rfl), (wl_in 336 rfl rfl), ⟨by decide, by decide, by decide +kernel⟩, by decide⟩
set_option maxRecDepth 20000 in
theorem wc_M_103 : aw_wV "ArcTapeModel" 103 y_M_putZeta c_M_putZeta 4 none 1 7 "ArcTapeModel" ft_M 29 := ⟨(wl_in 589 rfl rfl), (wl_in 10 rfl rfl), (wl_in 586 rfl rfl), (wl_in 588 rfl rfl), (wl_se 39 rfl rfl), rfl, ⟨by decide, by decide, by decide +kernel⟩, by decide⟩
set_option maxRecDepth 20000 in
theorem wc_M_106 : aw_wS "ArcTapeModel" 106 y_M_ones c_M_ones 3 (some .int) 1 := ⟨(wl_in 554 rfl rfl), (wl_in 10 rfl rfl), (wl_in 552 rfl rfl), (wl_in 553 rfl rfl), ⟨by decide, by decide, by decide +kernel⟩, by decide⟩
set_option maxRecDepth 20000 in
theorem wc_M_112 : aw_wV "ArcTapeModel" 112 y_M_putRuns c_M_putRuns 7 none 2 7 "ArcTapeModel" ft_M 29 := ⟨(wl_in 574 rfl rfl), (wl_in 10 rfl rfl), (wl_in 571 rfl rfl), (wl_in 573 rfl rfl), (wl_se 36 rfl rfl), rfl, ⟨by decide, by decide, by decide +kernel⟩, by decide⟩
set_option maxRecDepth 20000 in
theorem wc_M_115 : aw_wV "ArcTapeModel" 115 y_M_putRest c_M_putRest 8 none 2 7 "ArcTapeModel" ft_M 29 := ⟨(wl_in 578 rfl rfl), (wl_in 10 rfl rfl), (wl_in 575 rfl rfl), (wl_in 577 rfl rfl), (wl_se 37 rfl rfl), rfl, ⟨by decide, by decide, by decide +kernel⟩, by decide⟩
set_option maxRecDepth 20000 in
theorem wc_M_122 : aw_wV "ArcTapeModel" 122 y_M_putRecord c_M_putRecord 5 none 2 7 "ArcTapeModel" ft_M 29 := ⟨(wl_in 551 rfl rfl), (wl_in 10 rfl rfl), (wl_in 548 rfl rfl), (wl_in 550 rfl rfl), (wl_se 31 rfl rfl), rfl, ⟨by decide, by decide, by decide +kernel⟩, by decide⟩
set_option maxRecDepth 20000 in
theorem wc_M_131 : aw_wV "ArcTapeModel" 131 y_M_next c_M_next 1 (some .int) 0 7 "ArcTapeModel" ft_M 29 := ⟨(wl_in 728 rfl rfl), (wl_in 10 rfl rfl), (wl_in 725 rfl rfl), (wl_in 727 rfl rfl), (wl_se 44 rfl rfl), rfl, ⟨by decide, by decide, by decide +kernel⟩, by decide⟩
set_option maxRecDepth 20000 in
theorem wc_M_135 : aw_wV "ArcTapeModel" 135 y_M_nextUnary c_M_nextUnary 2 (some .int) 0 7 "ArcTapeModel" ft_M 29 := ⟨(wl_in 724 rfl rfl), (wl_in 10 rfl rfl), (wl_in 721 rfl rfl), (wl_in 723 rfl rfl), (wl_se 43 rfl rfl), rfl, ⟨by decide, by decide, by decide +kernel⟩, by decide⟩
set_option maxRecDepth 20000 in
theorem wc_M_138 : aw_wV "ArcTapeModel" 138 y_M_nextNumber c_M_nextNumber 4 (some .int) 1 7 "ArcTapeModel" ft_M 29 := ⟨(wl_in 732 rfl rfl), (wl_in 10 rfl rfl), (wl_in 729 rfl rfl), (wl_in 731 rfl rfl), (wl_se 45 rfl rfl), rfl, ⟨by decide, by decide, by decide +kernel⟩, by decide⟩
set_option maxRecDepth 20000 in
theorem wc_M_148 : aw_wV "ArcTapeModel" 148 y_M_nextGamma c_M_nextGamma 3 (some .int) 0 7 "ArcTapeModel" ft_M 29 := ⟨(wl_in 720 rfl rfl), (wl_in 10 rfl rfl), (wl_in 717 rfl rfl), (wl_in 719 rfl rfl), (wl_se 42 rfl rfl), rfl, ⟨by decide, by decide, by decide +kernel⟩, by decide⟩
set_option maxRecDepth 20000 in
theorem wc_M_151 : aw_wV "ArcTapeModel" 151 y_M_copy c_M_copy 6 none 3 7 "ArcTapeModel" ft_M 29 := ⟨(wl_in 744 rfl rfl), (wl_in 10 rfl rfl), (wl_in 741 rfl rfl), (wl_in 743 rfl rfl), (wl_se 48 rfl rfl), rfl, ⟨by decide, by decide, by decide +kernel⟩, by decide⟩
set_option maxRecDepth 20000 in
theorem wc_M_155 : aw_wV "ArcTapeModel" 155 y_M_take c_M_take 2 none 1 7 "ArcTapeModel" ft_M 29 := ⟨(wl_in 748 rfl rfl), (wl_in 10 rfl rfl), (wl_in 745 rfl rfl), (wl_in 747 rfl rfl), (wl_se 49 rfl rfl), rfl, ⟨by decide, by decide, by decide +kernel⟩, by decide⟩
set_option maxRecDepth 20000 in
theorem wc_M_158 : aw_wS "ArcTapeModel" 158 y_M_whole c_M_whole 1 (some .int) 1 := ⟨(wl_in 755 rfl rfl), (wl_in 10 rfl rfl), (wl_in 753 rfl rfl), (wl_in 754 rfl rfl), ⟨by decide, by decide, by decide +kernel⟩, by decide⟩
set_option maxRecDepth 20000 in
theorem wc_M_161 : aw_wV "ArcTapeModel" 161 y_M_readRuns c_M_readRuns 8 none 2 7 "ArcTapeModel" ft_M 29 := ⟨(wl_in 740 rfl rfl), (wl_in 10 rfl rfl), (wl_in 737 rfl rfl), (wl_in 739 rfl rfl), (wl_se 47 rfl rfl), rfl, ⟨by decide, by decide, by decide +kernel⟩, by decide⟩
set_option maxRecDepth 20000 in
theorem wc_M_164 : aw_wV "ArcTapeModel" 164 y_M_readIntervals c_M_readIntervals 11 (some .int) 2 7 "ArcTapeModel" ft_M 29 := ⟨(wl_in 752 rfl rfl), (wl_in 10 rfl rfl), (wl_in 749 rfl rfl), (wl_in 751 rfl rfl), (wl_se 50 rfl rfl), rfl, ⟨by decide, by decide, by decide +kernel⟩, by decide⟩
set_option maxRecDepth 20000 in
theorem wc_M_167 : aw_wV "ArcTapeModel" 167 y_M_nextZeta c_M_nextZeta 5 (some .int) 0 7 "ArcTapeModel" ft_M 29 := ⟨(wl_in 759 rfl rfl), (wl_in 10 rfl rfl), (wl_in 756 rfl rfl), (wl_in 758 rfl rfl), (wl_se 51 rfl rfl), rfl, ⟨by decide, by decide, by decide +kernel⟩, by decide⟩
set_option maxRecDepth 20000 in
theorem wc_M_170 : aw_wV "ArcTapeModel" 170 y_M_readParts c_M_readParts 10 none 2 7 "ArcTapeModel" ft_M 29 := ⟨(wl_in 736 rfl rfl), (wl_in 10 rfl rfl), (wl_in 733 rfl rfl), (wl_in 735 rfl rfl), (wl_se 46 rfl rfl), rfl, ⟨by decide, by decide, by decide +kernel⟩, by decide⟩
set_option maxRecDepth 20000 in
theorem wc_M_173 : aw_wV "ArcTapeModel" 173 y_M_read c_M_read 3 none 0 7 "ArcTapeModel" ft_M 29 := ⟨(wl_in 716 rfl rfl), (wl_in 10 rfl rfl), (wl_in 713 rfl rfl), (wl_in 715 rfl rfl), (wl_se 41 rfl rfl), rfl, ⟨by decide, by decide, by decide +kernel⟩, by decide⟩
set_option maxRecDepth 20000 in
theorem wc_M_179 : aw_wV "ArcTapeModel" 179 y_M_firstReady c_M_firstReady 6 (some .int) 1 7 "ArcTapeModel" ft_M 29 := ⟨(wl_in 779 rfl rfl), (wl_in 10 rfl rfl), (wl_in 776 rfl rfl), (wl_in 778 rfl rfl), (wl_se 53 rfl rfl), rfl, ⟨by decide, by decide, by decide +kernel⟩, by decide⟩
set_option maxRecDepth 20000 in
theorem wc_M_182 : aw_wV "ArcTapeModel" 182 y_M_together c_M_together 4 (some .int) 1 7 "ArcTapeModel" ft_M 29 := ⟨(wl_in 783 rfl rfl), (wl_in 10 rfl rfl), (wl_in 780 rfl rfl), (wl_in 782 rfl rfl), (wl_se 54 rfl rfl), rfl, ⟨by decide, by decide, by decide +kernel⟩, by decide⟩
set_option maxRecDepth 20000 in
theorem wc_M_185 : aw_wV "ArcTapeModel" 185 y_M_count c_M_count 6 none 0 7 "ArcTapeModel" ft_M 29 := ⟨(wl_in 775 rfl rfl), (wl_in 10 rfl rfl), (wl_in 772 rfl rfl), (wl_in 774 rfl rfl), (wl_se 52 rfl rfl), rfl, ⟨by decide, by decide, by decide +kernel⟩, by decide⟩
set_option maxRecDepth 20000 in
theorem wc_M_188 : aw_wV "ArcTapeModel" 188 y_M_total c_M_total 3 (some .int) 0 7 "ArcTapeModel" ft_M 29 := ⟨(wl_in 795 rfl rfl), (wl_in 10 rfl rfl), (wl_in 792 rfl rfl), (wl_in 794 rfl rfl), (wl_se 55 rfl rfl), rfl, ⟨by decide, by decide, by decide +kernel⟩, by decide⟩
set_option maxRecDepth 20000 in
theorem wc_M_205 : aw_wV "ArcTapeModel" 205 y_M_links c_M_links 3 (some .boolean) 2 7 "ArcTapeModel" ft_M 29 := ⟨(wl_in 808 rfl rfl), (wl_in 10 rfl rfl), (wl_in 805 rfl rfl), (wl_in 807 rfl rfl), (wl_se 57 rfl rfl), rfl, ⟨by decide, by decide, by decide +kernel⟩, by decide⟩
set_option maxRecDepth 20000 in
theorem wc_M_212 : aw_wV "ArcTapeModel" 212 y_M_bring c_M_bring 7 none 1 7 "ArcTapeModel" ft_M 29 := ⟨(wl_in 818 rfl rfl), (wl_in 10 rfl rfl), (wl_in 815 rfl rfl), (wl_in 817 rfl rfl), (wl_se 59 rfl rfl), rfl, ⟨by decide, by decide, by decide +kernel⟩, by decide⟩
set_option maxRecDepth 20000 in
theorem wc_M_216 : aw_wV "ArcTapeModel" 216 y_M_into c_M_into 4 (some .int) 1 7 "ArcTapeModel" ft_M 29 := ⟨(wl_in 826 rfl rfl), (wl_in 10 rfl rfl), (wl_in 823 rfl rfl), (wl_in 825 rfl rfl), (wl_se 61 rfl rfl), rfl, ⟨by decide, by decide, by decide +kernel⟩, by decide⟩
set_option maxRecDepth 20000 in
theorem wc_M_219 : aw_wV "ArcTapeModel" 219 y_M_stepRank c_M_stepRank 9 none 0 7 "ArcTapeModel" ft_M 29 := ⟨(wl_in 804 rfl rfl), (wl_in 10 rfl rfl), (wl_in 801 rfl rfl), (wl_in 803 rfl rfl), (wl_se 56 rfl rfl), rfl, ⟨by decide, by decide, by decide +kernel⟩, by decide⟩
set_option maxRecDepth 20000 in
theorem wc_M_222 : aw_wV "ArcTapeModel" 222 y_M_stepHubs c_M_stepHubs 3 none 0 7 "ArcTapeModel" ft_M 29 := ⟨(wl_in 814 rfl rfl), (wl_in 10 rfl rfl), (wl_in 811 rfl rfl), (wl_in 813 rfl rfl), (wl_se 58 rfl rfl), rfl, ⟨by decide, by decide, by decide +kernel⟩, by decide⟩
set_option maxRecDepth 20000 in
theorem wc_M_225 : aw_wV "ArcTapeModel" 225 y_M_stepShares c_M_stepShares 3 none 0 7 "ArcTapeModel" ft_M 29 := ⟨(wl_in 822 rfl rfl), (wl_in 10 rfl rfl), (wl_in 819 rfl rfl), (wl_in 821 rfl rfl), (wl_se 60 rfl rfl), rfl, ⟨by decide, by decide, by decide +kernel⟩, by decide⟩
set_option maxRecDepth 20000 in
theorem wc_M_68 : aw_wV "ArcTapeModel" 68 y_M_node c_M_node 2 (some .boolean) 1 7 "ArcTapeModel" ft_M 29 := ⟨(wl_in 691 rfl rfl), (wl_in 10 rfl rfl), (wl_in 688 rfl rfl), (wl_in 690 rfl rfl), (wl_se 40 rfl rfl), rfl, ⟨by decide, by decide, by decide +kernel⟩, by decide⟩
set_option maxRecDepth 20000 in
theorem wc_M_75 : aw_wV "ArcTapeModel" 75 y_M_put c_M_put 2 none 1 7 "ArcTapeModel" ft_M 29 := ⟨(wl_in 566 rfl rfl), (wl_in 10 rfl rfl), (wl_in 563 rfl rfl), (wl_in 565 rfl rfl), (wl_se 34 rfl rfl), rfl, ⟨by decide, by decide, by decide +kernel⟩, by decide⟩
set_option maxRecDepth 20000 in
theorem wc_M_79 : aw_wV "ArcTapeModel" 79 y_M_putUnary c_M_putUnary 3 none 1 7 "ArcTapeModel" ft_M 29 := ⟨(wl_in 562 rfl rfl), (wl_in 10 rfl rfl), (wl_in 559 rfl rfl), (wl_in 561 rfl rfl), (wl_se 33 rfl rfl), rfl, ⟨by decide, by decide, by decide +kernel⟩, by decide⟩
set_option maxRecDepth 20000 in
theorem wc_M_82 : aw_wV "ArcTapeModel" 82 y_M_putNumber c_M_putNumber 4 none 2 7 "ArcTapeModel" ft_M 29 := ⟨(wl_in 570 rfl rfl), (wl_in 10 rfl rfl), (wl_in 567 rfl rfl), (wl_in 569 rfl rfl), (wl_se 35 rfl rfl), rfl, ⟨by decide, by decide, by decide +kernel⟩, by decide⟩
set_option maxRecDepth 20000 in
theorem wc_M_89 : aw_wV "ArcTapeModel" 89 y_M_putGamma c_M_putGamma 3 none 1 7 "ArcTapeModel" ft_M 29 := ⟨(wl_in 558 rfl rfl), (wl_in 10 rfl rfl), (wl_in 555 rfl rfl), (wl_in 557 rfl rfl), (wl_se 32 rfl rfl), rfl, ⟨by decide, by decide, by decide +kernel⟩, by decide⟩
set_option maxRecDepth 20000 in
theorem wc_M_95 : aw_wV "ArcTapeModel" 95 y_M_rowAt c_M_rowAt 4 (some .int) 2 7 "ArcTapeModel" ft_M 29 := ⟨(wl_in 582 rfl rfl), (wl_in 10 rfl rfl), (wl_in 579 rfl rfl), (wl_in 581 rfl rfl), (wl_se 38 rfl rfl), rfl, ⟨by decide, by decide, by decide +kernel⟩, by decide⟩
set_option maxRecDepth 20000 in
theorem wc_M_99 : aw_wS "ArcTapeModel" 99 y_M_natural c_M_natural 1 (some .int) 1 := ⟨(wl_in 585 rfl rfl), (wl_in 10 rfl rfl), (wl_in 583 rfl rfl), (wl_in 584 rfl rfl), ⟨by decide, by decide, by decide +kernel⟩, by decide⟩
set_option maxRecDepth 20000 in
theorem wc_K_57 : Cond.methodLink "ArcTape$Packer" 57 Lib.Math.min.name ∈ wsAll ∧ Cond.static Lib.Math.min.name ∈ wsAll ∧ Cond.initialized "java/lang/Math" ∈ wsAll ∧ Cond.code Lib.Math.min.name Lib.Math.min.code 2 (some .int) ∈ wsAll := ⟨(wl_in 224 rfl rfl), (wl_in 21 rfl rfl), (wl_in 2 rfl rfl), (wl_in 22 rfl rfl)⟩
set_option maxRecDepth 20000 in
theorem wc_O_65 : Cond.methodLink "ArcTape$Scores" 65 Lib.MathLoose.abs_long.x ∈ wsAll ∧ Cond.static Lib.MathLoose.abs_long.x ∈ wsAll ∧ Cond.initialized "java/lang/Math" ∈ wsAll ∧ Cond.code Lib.MathLoose.abs_long.x Lib.MathLoose.abs_long.code 2 (some .long) ∈ wsAll := ⟨(wl_in 510 rfl rfl), (wl_in 511 rfl rfl), (wl_in 2 rfl rfl), (wl_in 512 rfl rfl)⟩
set_option maxRecDepth 20000 in
theorem wc_O_90 : Cond.methodLink "ArcTape$Scores" 90 Lib.MathLoose.max_long.x ∈ wsAll ∧ Cond.static Lib.MathLoose.max_long.x ∈ wsAll ∧ Cond.initialized "java/lang/Math" ∈ wsAll ∧ Cond.code Lib.MathLoose.max_long.x Lib.MathLoose.max_long.code 4 (some .long) ∈ wsAll := ⟨(wl_in 499 rfl rfl), (wl_in 500 rfl rfl), (wl_in 2 rfl rfl), (wl_in 501 rfl rfl)⟩
set_option maxRecDepth 20000 in
theorem wc_O_50 : aw_wY "ArcTape$Scores" 50 := ⟨(wl_in 476 rfl rfl), (wl_in 478 rfl rfl), (wl_in 477 rfl rfl), (wl_in 11 rfl rfl)⟩
end
section
theorem d_T_init_0 : decode c_T_init 0 = .ok (.aload_n 0, 1) := by decide +kernel
theorem d_T_init_1 : decode c_T_init 1 = .ok (.invokespecial 1, 3) := by decide +kernel
theorem d_T_init_4 : decode c_T_init 4 = .ok (.aload_n 0, 1) := by decide +kernel
theorem d_T_init_5 : decode c_T_init 5 = .ok (.sipush 800, 3) := by decide +kernel
theorem d_T_init_8 : decode c_T_init 8 = .ok (.newarray .byte, 2) := by decide +kernel
theorem d_T_init_10 : decode c_T_init 10 = .ok (.putfield 9, 3) := by decide +kernel
theorem d_T_init_13 : decode c_T_init 13 = .ok (.aload_n 0, 1) := by decide +kernel
theorem d_T_init_14 : decode c_T_init 14 = .ok (.iconst 0, 1) := by decide +kernel
theorem d_T_init_15 : decode c_T_init 15 = .ok (.putfield 13, 3) := by decide +kernel
theorem d_T_init_18 : decode c_T_init 18 = .ok (.return_, 1) := by decide +kernel
theorem d_T_putNumber_0 : decode c_T_putNumber 0 = .ok (.iload_n 2, 1) := by decide +kernel
theorem d_T_putNumber_1 : decode c_T_putNumber 1 = .ok (.iconst 1, 1) := by decide +kernel
theorem d_T_putNumber_2 : decode c_T_putNumber 2 = .ok (.isub, 1) := by decide +kernel
theorem d_T_putNumber_3 : decode c_T_putNumber 3 = .ok (.istore_n 3, 1) := by decide +kernel
theorem d_T_putNumber_4 : decode c_T_putNumber 4 = .ok (.iload_n 3, 1) := by decide +kernel
theorem d_T_putNumber_5 : decode c_T_putNumber 5 = .ok (.ifCond .lt 44, 3) := by decide +kernel
theorem d_T_putNumber_8 : decode c_T_putNumber 8 = .ok (.aload_n 0, 1) := by decide +kernel
theorem d_T_putNumber_9 : decode c_T_putNumber 9 = .ok (.getfield 13, 3) := by decide +kernel
theorem d_T_putNumber_12 : decode c_T_putNumber 12 = .ok (.sipush 800, 3) := by decide +kernel
theorem d_T_putNumber_15 : decode c_T_putNumber 15 = .ok (.if_icmp .ge 34, 3) := by decide +kernel
theorem d_T_putNumber_18 : decode c_T_putNumber 18 = .ok (.aload_n 0, 1) := by decide +kernel
theorem d_T_putNumber_19 : decode c_T_putNumber 19 = .ok (.getfield 9, 3) := by decide +kernel
theorem d_T_putNumber_22 : decode c_T_putNumber 22 = .ok (.aload_n 0, 1) := by decide +kernel
theorem d_T_putNumber_23 : decode c_T_putNumber 23 = .ok (.getfield 13, 3) := by decide +kernel
theorem d_T_putNumber_26 : decode c_T_putNumber 26 = .ok (.iload_n 1, 1) := by decide +kernel
theorem d_T_putNumber_27 : decode c_T_putNumber 27 = .ok (.iload_n 3, 1) := by decide +kernel
theorem d_T_putNumber_28 : decode c_T_putNumber 28 = .ok (.ishr, 1) := by decide +kernel
theorem d_T_putNumber_29 : decode c_T_putNumber 29 = .ok (.iconst 1, 1) := by decide +kernel
theorem d_T_putNumber_30 : decode c_T_putNumber 30 = .ok (.iand, 1) := by decide +kernel
theorem d_T_putNumber_31 : decode c_T_putNumber 31 = .ok (.i2b, 1) := by decide +kernel
theorem d_T_putNumber_32 : decode c_T_putNumber 32 = .ok (.bastore, 1) := by decide +kernel
theorem d_T_putNumber_33 : decode c_T_putNumber 33 = .ok (.aload_n 0, 1) := by decide +kernel
theorem d_T_putNumber_34 : decode c_T_putNumber 34 = .ok (.dup, 1) := by decide +kernel
theorem d_T_putNumber_35 : decode c_T_putNumber 35 = .ok (.getfield 13, 3) := by decide +kernel
theorem d_T_putNumber_38 : decode c_T_putNumber 38 = .ok (.iconst 1, 1) := by decide +kernel
theorem d_T_putNumber_39 : decode c_T_putNumber 39 = .ok (.iadd, 1) := by decide +kernel
theorem d_T_putNumber_40 : decode c_T_putNumber 40 = .ok (.putfield 13, 3) := by decide +kernel
theorem d_T_putNumber_43 : decode c_T_putNumber 43 = .ok (.iinc 3 (-1), 3) := by decide +kernel
theorem d_T_putNumber_46 : decode c_T_putNumber 46 = .ok (.goto (-42), 3) := by decide +kernel
theorem d_T_putNumber_49 : decode c_T_putNumber 49 = .ok (.return_, 1) := by decide +kernel
theorem d_T_putUnary_0 : decode c_T_putUnary 0 = .ok (.aload_n 0, 1) := by decide +kernel
theorem d_T_putUnary_1 : decode c_T_putUnary 1 = .ok (.iconst 1, 1) := by decide +kernel
theorem d_T_putUnary_2 : decode c_T_putUnary 2 = .ok (.iload_n 1, 1) := by decide +kernel
theorem d_T_putUnary_3 : decode c_T_putUnary 3 = .ok (.iconst 1, 1) := by decide +kernel
theorem d_T_putUnary_4 : decode c_T_putUnary 4 = .ok (.iadd, 1) := by decide +kernel
theorem d_T_putUnary_5 : decode c_T_putUnary 5 = .ok (.invokevirtual 17, 3) := by decide +kernel
theorem d_T_putUnary_8 : decode c_T_putUnary 8 = .ok (.return_, 1) := by decide +kernel
theorem d_T_putGamma_0 : decode c_T_putGamma 0 = .ok (.aload_n 0, 1) := by decide +kernel
theorem d_T_putGamma_1 : decode c_T_putGamma 1 = .ok (.iload_n 1, 1) := by decide +kernel
theorem d_T_putGamma_2 : decode c_T_putGamma 2 = .ok (.iconst 1, 1) := by decide +kernel
theorem d_T_putGamma_3 : decode c_T_putGamma 3 = .ok (.iadd, 1) := by decide +kernel
theorem d_T_putGamma_4 : decode c_T_putGamma 4 = .ok (.iconst 2, 1) := by decide +kernel
theorem d_T_putGamma_5 : decode c_T_putGamma 5 = .ok (.iload_n 1, 1) := by decide +kernel
theorem d_T_putGamma_6 : decode c_T_putGamma 6 = .ok (.iconst 1, 1) := by decide +kernel
theorem d_T_putGamma_7 : decode c_T_putGamma 7 = .ok (.iadd, 1) := by decide +kernel
theorem d_T_putGamma_8 : decode c_T_putGamma 8 = .ok (.invokestatic 21, 3) := by decide +kernel
theorem d_T_putGamma_11 : decode c_T_putGamma 11 = .ok (.imul, 1) := by decide +kernel
theorem d_T_putGamma_12 : decode c_T_putGamma 12 = .ok (.iconst 1, 1) := by decide +kernel
theorem d_T_putGamma_13 : decode c_T_putGamma 13 = .ok (.iadd, 1) := by decide +kernel
theorem d_T_putGamma_14 : decode c_T_putGamma 14 = .ok (.invokevirtual 17, 3) := by decide +kernel
theorem d_T_putGamma_17 : decode c_T_putGamma 17 = .ok (.return_, 1) := by decide +kernel
theorem d_T_putZeta_0 : decode c_T_putZeta 0 = .ok (.iload_n 1, 1) := by decide +kernel
theorem d_T_putZeta_1 : decode c_T_putZeta 1 = .ok (.iconst 1, 1) := by decide +kernel
theorem d_T_putZeta_2 : decode c_T_putZeta 2 = .ok (.iadd, 1) := by decide +kernel
theorem d_T_putZeta_3 : decode c_T_putZeta 3 = .ok (.invokestatic 21, 3) := by decide +kernel
theorem d_T_putZeta_6 : decode c_T_putZeta 6 = .ok (.iload_n 2, 1) := by decide +kernel
theorem d_T_putZeta_7 : decode c_T_putZeta 7 = .ok (.idiv, 1) := by decide +kernel
theorem d_T_putZeta_8 : decode c_T_putZeta 8 = .ok (.istore_n 3, 1) := by decide +kernel
theorem d_T_putZeta_9 : decode c_T_putZeta 9 = .ok (.iconst 1, 1) := by decide +kernel
theorem d_T_putZeta_10 : decode c_T_putZeta 10 = .ok (.iload_n 3, 1) := by decide +kernel
theorem d_T_putZeta_11 : decode c_T_putZeta 11 = .ok (.iload_n 2, 1) := by decide +kernel
theorem d_T_putZeta_12 : decode c_T_putZeta 12 = .ok (.imul, 1) := by decide +kernel
theorem d_T_putZeta_13 : decode c_T_putZeta 13 = .ok (.ishl, 1) := by decide +kernel
theorem d_T_putZeta_14 : decode c_T_putZeta 14 = .ok (.istore 4, 2) := by decide +kernel
theorem d_T_putZeta_16 : decode c_T_putZeta 16 = .ok (.aload_n 0, 1) := by decide +kernel
theorem d_T_putZeta_17 : decode c_T_putZeta 17 = .ok (.iconst 1, 1) := by decide +kernel
theorem d_T_putZeta_18 : decode c_T_putZeta 18 = .ok (.iload_n 3, 1) := by decide +kernel
theorem d_T_putZeta_19 : decode c_T_putZeta 19 = .ok (.iconst 1, 1) := by decide +kernel
theorem d_T_putZeta_20 : decode c_T_putZeta 20 = .ok (.iadd, 1) := by decide +kernel
theorem d_T_putZeta_21 : decode c_T_putZeta 21 = .ok (.invokevirtual 17, 3) := by decide +kernel
theorem d_T_putZeta_24 : decode c_T_putZeta 24 = .ok (.iload_n 1, 1) := by decide +kernel
theorem d_T_putZeta_25 : decode c_T_putZeta 25 = .ok (.iconst 1, 1) := by decide +kernel
theorem d_T_putZeta_26 : decode c_T_putZeta 26 = .ok (.iadd, 1) := by decide +kernel
theorem d_T_putZeta_27 : decode c_T_putZeta 27 = .ok (.iconst 2, 1) := by decide +kernel
theorem d_T_putZeta_28 : decode c_T_putZeta 28 = .ok (.iload 4, 2) := by decide +kernel
theorem d_T_putZeta_30 : decode c_T_putZeta 30 = .ok (.imul, 1) := by decide +kernel
theorem d_T_putZeta_31 : decode c_T_putZeta 31 = .ok (.if_icmp .ge 23, 3) := by decide +kernel
theorem d_T_putZeta_34 : decode c_T_putZeta 34 = .ok (.aload_n 0, 1) := by decide +kernel
theorem d_T_putZeta_35 : decode c_T_putZeta 35 = .ok (.iload_n 1, 1) := by decide +kernel
theorem d_T_putZeta_36 : decode c_T_putZeta 36 = .ok (.iconst 1, 1) := by decide +kernel
theorem d_T_putZeta_37 : decode c_T_putZeta 37 = .ok (.iadd, 1) := by decide +kernel
theorem d_T_putZeta_38 : decode c_T_putZeta 38 = .ok (.iload 4, 2) := by decide +kernel
theorem d_T_putZeta_40 : decode c_T_putZeta 40 = .ok (.isub, 1) := by decide +kernel
theorem d_T_putZeta_41 : decode c_T_putZeta 41 = .ok (.iload_n 3, 1) := by decide +kernel
theorem d_T_putZeta_42 : decode c_T_putZeta 42 = .ok (.iload_n 2, 1) := by decide +kernel
theorem d_T_putZeta_43 : decode c_T_putZeta 43 = .ok (.imul, 1) := by decide +kernel
theorem d_T_putZeta_44 : decode c_T_putZeta 44 = .ok (.iload_n 2, 1) := by decide +kernel
theorem d_T_putZeta_45 : decode c_T_putZeta 45 = .ok (.iadd, 1) := by decide +kernel
theorem d_T_putZeta_46 : decode c_T_putZeta 46 = .ok (.iconst 1, 1) := by decide +kernel
theorem d_T_putZeta_47 : decode c_T_putZeta 47 = .ok (.isub, 1) := by decide +kernel
theorem d_T_putZeta_48 : decode c_T_putZeta 48 = .ok (.invokevirtual 17, 3) := by decide +kernel
theorem d_T_putZeta_51 : decode c_T_putZeta 51 = .ok (.goto 15, 3) := by decide +kernel
theorem d_T_putZeta_54 : decode c_T_putZeta 54 = .ok (.aload_n 0, 1) := by decide +kernel
theorem d_T_putZeta_55 : decode c_T_putZeta 55 = .ok (.iload_n 1, 1) := by decide +kernel
theorem d_T_putZeta_56 : decode c_T_putZeta 56 = .ok (.iconst 1, 1) := by decide +kernel
theorem d_T_putZeta_57 : decode c_T_putZeta 57 = .ok (.iadd, 1) := by decide +kernel
theorem d_T_putZeta_58 : decode c_T_putZeta 58 = .ok (.iload_n 3, 1) := by decide +kernel
theorem d_T_putZeta_59 : decode c_T_putZeta 59 = .ok (.iload_n 2, 1) := by decide +kernel
theorem d_T_putZeta_60 : decode c_T_putZeta 60 = .ok (.imul, 1) := by decide +kernel
theorem d_T_putZeta_61 : decode c_T_putZeta 61 = .ok (.iload_n 2, 1) := by decide +kernel
theorem d_T_putZeta_62 : decode c_T_putZeta 62 = .ok (.iadd, 1) := by decide +kernel
theorem d_T_putZeta_63 : decode c_T_putZeta 63 = .ok (.invokevirtual 17, 3) := by decide +kernel
theorem d_T_putZeta_66 : decode c_T_putZeta 66 = .ok (.return_, 1) := by decide +kernel
theorem d_T_exponent_0 : decode c_T_exponent 0 = .ok (.iconst 0, 1) := by decide +kernel
theorem d_T_exponent_1 : decode c_T_exponent 1 = .ok (.istore_n 1, 1) := by decide +kernel
theorem d_T_exponent_2 : decode c_T_exponent 2 = .ok (.iload_n 1, 1) := by decide +kernel
theorem d_T_exponent_3 : decode c_T_exponent 3 = .ok (.bipush 30, 2) := by decide +kernel
theorem d_T_exponent_5 : decode c_T_exponent 5 = .ok (.if_icmp .ge 18, 3) := by decide +kernel
theorem d_T_exponent_8 : decode c_T_exponent 8 = .ok (.iconst 1, 1) := by decide +kernel
theorem d_T_exponent_9 : decode c_T_exponent 9 = .ok (.iload_n 1, 1) := by decide +kernel
theorem d_T_exponent_10 : decode c_T_exponent 10 = .ok (.iconst 1, 1) := by decide +kernel
theorem d_T_exponent_11 : decode c_T_exponent 11 = .ok (.iadd, 1) := by decide +kernel
theorem d_T_exponent_12 : decode c_T_exponent 12 = .ok (.ishl, 1) := by decide +kernel
theorem d_T_exponent_13 : decode c_T_exponent 13 = .ok (.iload_n 0, 1) := by decide +kernel
theorem d_T_exponent_14 : decode c_T_exponent 14 = .ok (.if_icmp .gt 9, 3) := by decide +kernel
theorem d_T_exponent_17 : decode c_T_exponent 17 = .ok (.iinc 1 1, 3) := by decide +kernel
theorem d_T_exponent_20 : decode c_T_exponent 20 = .ok (.goto (-18), 3) := by decide +kernel
theorem d_T_exponent_23 : decode c_T_exponent 23 = .ok (.iload_n 1, 1) := by decide +kernel
theorem d_T_exponent_24 : decode c_T_exponent 24 = .ok (.ireturn, 1) := by decide +kernel
theorem d_T_withoutSign_0 : decode c_T_withoutSign 0 = .ok (.iload_n 0, 1) := by decide +kernel
theorem d_T_withoutSign_1 : decode c_T_withoutSign 1 = .ok (.ifCond .lt 9, 3) := by decide +kernel
theorem d_T_withoutSign_4 : decode c_T_withoutSign 4 = .ok (.iconst 2, 1) := by decide +kernel
theorem d_T_withoutSign_5 : decode c_T_withoutSign 5 = .ok (.iload_n 0, 1) := by decide +kernel
theorem d_T_withoutSign_6 : decode c_T_withoutSign 6 = .ok (.imul, 1) := by decide +kernel
theorem d_T_withoutSign_7 : decode c_T_withoutSign 7 = .ok (.goto 9, 3) := by decide +kernel
theorem d_T_withoutSign_10 : decode c_T_withoutSign 10 = .ok (.bipush (-2), 2) := by decide +kernel
theorem d_T_withoutSign_12 : decode c_T_withoutSign 12 = .ok (.iload_n 0, 1) := by decide +kernel
theorem d_T_withoutSign_13 : decode c_T_withoutSign 13 = .ok (.imul, 1) := by decide +kernel
theorem d_T_withoutSign_14 : decode c_T_withoutSign 14 = .ok (.iconst 1, 1) := by decide +kernel
theorem d_T_withoutSign_15 : decode c_T_withoutSign 15 = .ok (.isub, 1) := by decide +kernel
theorem d_T_withoutSign_16 : decode c_T_withoutSign 16 = .ok (.ireturn, 1) := by decide +kernel
theorem d_T_withSign_0 : decode c_T_withSign 0 = .ok (.iload_n 0, 1) := by decide +kernel
theorem d_T_withSign_1 : decode c_T_withSign 1 = .ok (.iconst 2, 1) := by decide +kernel
theorem d_T_withSign_2 : decode c_T_withSign 2 = .ok (.irem, 1) := by decide +kernel
theorem d_T_withSign_3 : decode c_T_withSign 3 = .ok (.ifCond .ne 9, 3) := by decide +kernel
theorem d_T_withSign_6 : decode c_T_withSign 6 = .ok (.iload_n 0, 1) := by decide +kernel
theorem d_T_withSign_7 : decode c_T_withSign 7 = .ok (.iconst 2, 1) := by decide +kernel
theorem d_T_withSign_8 : decode c_T_withSign 8 = .ok (.idiv, 1) := by decide +kernel
theorem d_T_withSign_9 : decode c_T_withSign 9 = .ok (.goto 9, 3) := by decide +kernel
theorem d_T_withSign_12 : decode c_T_withSign 12 = .ok (.iload_n 0, 1) := by decide +kernel
theorem d_T_withSign_13 : decode c_T_withSign 13 = .ok (.iconst 1, 1) := by decide +kernel
theorem d_T_withSign_14 : decode c_T_withSign 14 = .ok (.iadd, 1) := by decide +kernel
theorem d_T_withSign_15 : decode c_T_withSign 15 = .ok (.ineg, 1) := by decide +kernel
theorem d_T_withSign_16 : decode c_T_withSign 16 = .ok (.iconst 2, 1) := by decide +kernel
theorem d_T_withSign_17 : decode c_T_withSign 17 = .ok (.idiv, 1) := by decide +kernel
theorem d_T_withSign_18 : decode c_T_withSign 18 = .ok (.ireturn, 1) := by decide +kernel
theorem d_A_init_0 : decode c_A_init 0 = .ok (.aload_n 0, 1) := by decide +kernel
theorem d_A_init_1 : decode c_A_init 1 = .ok (.invokespecial 1, 3) := by decide +kernel
theorem d_A_init_4 : decode c_A_init 4 = .ok (.aload_n 0, 1) := by decide +kernel
theorem d_A_init_5 : decode c_A_init 5 = .ok (.iconst 1, 1) := by decide +kernel
theorem d_A_init_6 : decode c_A_init 6 = .ok (.bipush 12, 2) := by decide +kernel
theorem d_A_init_8 : decode c_A_init 8 = .ok (.iload_n 1, 1) := by decide +kernel
theorem d_A_init_9 : decode c_A_init 9 = .ok (.invokestatic 9, 3) := by decide +kernel
theorem d_A_init_12 : decode c_A_init 12 = .ok (.invokestatic 15, 3) := by decide +kernel
theorem d_A_init_15 : decode c_A_init 15 = .ok (.putfield 18, 3) := by decide +kernel
theorem d_A_init_18 : decode c_A_init 18 = .ok (.aload_n 0, 1) := by decide +kernel
theorem d_A_init_19 : decode c_A_init 19 = .ok (.aload_n 0, 1) := by decide +kernel
theorem d_A_init_20 : decode c_A_init 20 = .ok (.getfield 18, 3) := by decide +kernel
theorem d_A_init_23 : decode c_A_init 23 = .ok (.newarray .int, 2) := by decide +kernel
theorem d_A_init_25 : decode c_A_init 25 = .ok (.putfield 22, 3) := by decide +kernel
theorem d_A_init_28 : decode c_A_init 28 = .ok (.aload_n 0, 1) := by decide +kernel
theorem d_A_init_29 : decode c_A_init 29 = .ok (.new 26, 3) := by decide +kernel
theorem d_A_init_32 : decode c_A_init 32 = .ok (.dup, 1) := by decide +kernel
theorem d_A_init_33 : decode c_A_init 33 = .ok (.invokespecial 28, 3) := by decide +kernel
theorem d_A_init_36 : decode c_A_init 36 = .ok (.putfield 29, 3) := by decide +kernel
theorem d_A_init_39 : decode c_A_init 39 = .ok (.aload_n 0, 1) := by decide +kernel
theorem d_A_init_40 : decode c_A_init 40 = .ok (.new 33, 3) := by decide +kernel
theorem d_A_init_43 : decode c_A_init 43 = .ok (.dup, 1) := by decide +kernel
theorem d_A_init_44 : decode c_A_init 44 = .ok (.aload_n 0, 1) := by decide +kernel
theorem d_A_init_45 : decode c_A_init 45 = .ok (.getfield 18, 3) := by decide +kernel
theorem d_A_init_48 : decode c_A_init 48 = .ok (.invokespecial 35, 3) := by decide +kernel
theorem d_A_init_51 : decode c_A_init 51 = .ok (.putfield 38, 3) := by decide +kernel
theorem d_A_init_54 : decode c_A_init 54 = .ok (.aload_n 0, 1) := by decide +kernel
theorem d_A_init_55 : decode c_A_init 55 = .ok (.new 42, 3) := by decide +kernel
theorem d_A_init_58 : decode c_A_init 58 = .ok (.dup, 1) := by decide +kernel
theorem d_A_init_59 : decode c_A_init 59 = .ok (.aload_n 0, 1) := by decide +kernel
theorem d_A_init_60 : decode c_A_init 60 = .ok (.getfield 22, 3) := by decide +kernel
theorem d_A_init_63 : decode c_A_init 63 = .ok (.aload_n 0, 1) := by decide +kernel
theorem d_A_init_64 : decode c_A_init 64 = .ok (.getfield 38, 3) := by decide +kernel
theorem d_A_init_67 : decode c_A_init 67 = .ok (.aload_n 0, 1) := by decide +kernel
theorem d_A_init_68 : decode c_A_init 68 = .ok (.getfield 29, 3) := by decide +kernel
theorem d_A_init_71 : decode c_A_init 71 = .ok (.invokespecial 44, 3) := by decide +kernel
theorem d_A_init_74 : decode c_A_init 74 = .ok (.putfield 47, 3) := by decide +kernel
theorem d_A_init_77 : decode c_A_init 77 = .ok (.aload_n 0, 1) := by decide +kernel
theorem d_A_init_78 : decode c_A_init 78 = .ok (.new 51, 3) := by decide +kernel
theorem d_A_init_81 : decode c_A_init 81 = .ok (.dup, 1) := by decide +kernel
theorem d_A_init_82 : decode c_A_init 82 = .ok (.aload_n 0, 1) := by decide +kernel
theorem d_A_init_83 : decode c_A_init 83 = .ok (.getfield 18, 3) := by decide +kernel
theorem d_A_init_86 : decode c_A_init 86 = .ok (.aload_n 0, 1) := by decide +kernel
theorem d_A_init_87 : decode c_A_init 87 = .ok (.getfield 38, 3) := by decide +kernel
theorem d_A_init_90 : decode c_A_init 90 = .ok (.aload_n 0, 1) := by decide +kernel
theorem d_A_init_91 : decode c_A_init 91 = .ok (.getfield 29, 3) := by decide +kernel
theorem d_A_init_94 : decode c_A_init 94 = .ok (.invokespecial 53, 3) := by decide +kernel
theorem d_A_init_97 : decode c_A_init 97 = .ok (.putfield 56, 3) := by decide +kernel
theorem d_A_init_100 : decode c_A_init 100 = .ok (.aload_n 0, 1) := by decide +kernel
theorem d_A_init_101 : decode c_A_init 101 = .ok (.new 60, 3) := by decide +kernel
theorem d_A_init_104 : decode c_A_init 104 = .ok (.dup, 1) := by decide +kernel
theorem d_A_init_105 : decode c_A_init 105 = .ok (.aload_n 0, 1) := by decide +kernel
theorem d_A_init_106 : decode c_A_init 106 = .ok (.getfield 56, 3) := by decide +kernel
theorem d_A_init_109 : decode c_A_init 109 = .ok (.getfield 62, 3) := by decide +kernel
theorem d_A_init_112 : decode c_A_init 112 = .ok (.invokespecial 65, 3) := by decide +kernel
theorem d_A_init_115 : decode c_A_init 115 = .ok (.putfield 68, 3) := by decide +kernel
theorem d_A_init_118 : decode c_A_init 118 = .ok (.aload_n 0, 1) := by decide +kernel
theorem d_A_init_119 : decode c_A_init 119 = .ok (.new 72, 3) := by decide +kernel
theorem d_A_init_122 : decode c_A_init 122 = .ok (.dup, 1) := by decide +kernel
theorem d_A_init_123 : decode c_A_init 123 = .ok (.aload_n 0, 1) := by decide +kernel
theorem d_A_init_124 : decode c_A_init 124 = .ok (.getfield 56, 3) := by decide +kernel
theorem d_A_init_127 : decode c_A_init 127 = .ok (.getfield 62, 3) := by decide +kernel
theorem d_A_init_130 : decode c_A_init 130 = .ok (.invokespecial 74, 3) := by decide +kernel
theorem d_A_init_133 : decode c_A_init 133 = .ok (.putfield 75, 3) := by decide +kernel
theorem d_A_init_136 : decode c_A_init 136 = .ok (.aload_n 0, 1) := by decide +kernel
theorem d_A_init_137 : decode c_A_init 137 = .ok (.getfield 47, 3) := by decide +kernel
theorem d_A_init_140 : decode c_A_init 140 = .ok (.invokevirtual 79, 3) := by decide +kernel
theorem d_A_init_143 : decode c_A_init 143 = .ok (.aload_n 0, 1) := by decide +kernel
theorem d_A_init_144 : decode c_A_init 144 = .ok (.getfield 56, 3) := by decide +kernel
theorem d_A_init_147 : decode c_A_init 147 = .ok (.invokevirtual 82, 3) := by decide +kernel
theorem d_A_init_150 : decode c_A_init 150 = .ok (.aload_n 0, 1) := by decide +kernel
theorem d_A_init_151 : decode c_A_init 151 = .ok (.getfield 75, 3) := by decide +kernel
theorem d_A_init_154 : decode c_A_init 154 = .ok (.iconst 0, 1) := by decide +kernel
theorem d_A_init_155 : decode c_A_init 155 = .ok (.sipush 850, 3) := by decide +kernel
theorem d_A_init_158 : decode c_A_init 158 = .ok (.invokevirtual 85, 3) := by decide +kernel
theorem d_A_init_161 : decode c_A_init 161 = .ok (.return_, 1) := by decide +kernel
theorem d_A_add_0 : decode c_A_add 0 = .ok (.aload_n 0, 1) := by decide +kernel
theorem d_A_add_1 : decode c_A_add 1 = .ok (.iload_n 1, 1) := by decide +kernel
theorem d_A_add_2 : decode c_A_add 2 = .ok (.invokevirtual 89, 3) := by decide +kernel
theorem d_A_add_5 : decode c_A_add 5 = .ok (.ifCond .eq 24, 3) := by decide +kernel
theorem d_A_add_8 : decode c_A_add 8 = .ok (.aload_n 0, 1) := by decide +kernel
theorem d_A_add_9 : decode c_A_add 9 = .ok (.iload_n 2, 1) := by decide +kernel
theorem d_A_add_10 : decode c_A_add 10 = .ok (.invokevirtual 89, 3) := by decide +kernel
theorem d_A_add_13 : decode c_A_add 13 = .ok (.ifCond .eq 16, 3) := by decide +kernel
theorem d_A_add_16 : decode c_A_add 16 = .ok (.aload_n 0, 1) := by decide +kernel
theorem d_A_add_17 : decode c_A_add 17 = .ok (.getfield 22, 3) := by decide +kernel
theorem d_A_add_20 : decode c_A_add 20 = .ok (.iload_n 1, 1) := by decide +kernel
theorem d_A_add_21 : decode c_A_add 21 = .ok (.iaload, 1) := by decide +kernel
theorem d_A_add_22 : decode c_A_add 22 = .ok (.iload_n 2, 1) := by decide +kernel
theorem d_A_add_23 : decode c_A_add 23 = .ok (.invokestatic 93, 3) := by decide +kernel
theorem d_A_add_26 : decode c_A_add 26 = .ok (.ifCond .eq 5, 3) := by decide +kernel
theorem d_A_add_29 : decode c_A_add 29 = .ok (.iconst 0, 1) := by decide +kernel
theorem d_A_add_30 : decode c_A_add 30 = .ok (.ireturn, 1) := by decide +kernel
theorem d_A_add_31 : decode c_A_add 31 = .ok (.aload_n 0, 1) := by decide +kernel
theorem d_A_add_32 : decode c_A_add 32 = .ok (.getfield 22, 3) := by decide +kernel
theorem d_A_add_35 : decode c_A_add 35 = .ok (.iload_n 1, 1) := by decide +kernel
theorem d_A_add_36 : decode c_A_add 36 = .ok (.dup2, 1) := by decide +kernel
theorem d_A_add_37 : decode c_A_add 37 = .ok (.iaload, 1) := by decide +kernel
theorem d_A_add_38 : decode c_A_add 38 = .ok (.iconst 1, 1) := by decide +kernel
theorem d_A_add_39 : decode c_A_add 39 = .ok (.iload_n 2, 1) := by decide +kernel
theorem d_A_add_40 : decode c_A_add 40 = .ok (.ishl, 1) := by decide +kernel
theorem d_A_add_41 : decode c_A_add 41 = .ok (.ior, 1) := by decide +kernel
theorem d_A_add_42 : decode c_A_add 42 = .ok (.iastore, 1) := by decide +kernel
theorem d_A_add_43 : decode c_A_add 43 = .ok (.iconst 1, 1) := by decide +kernel
theorem d_A_add_44 : decode c_A_add 44 = .ok (.ireturn, 1) := by decide +kernel
theorem d_A_drop_0 : decode c_A_drop 0 = .ok (.aload_n 0, 1) := by decide +kernel
theorem d_A_drop_1 : decode c_A_drop 1 = .ok (.iload_n 1, 1) := by decide +kernel
theorem d_A_drop_2 : decode c_A_drop 2 = .ok (.invokevirtual 89, 3) := by decide +kernel
theorem d_A_drop_5 : decode c_A_drop 5 = .ok (.ifCond .eq 24, 3) := by decide +kernel
theorem d_A_drop_8 : decode c_A_drop 8 = .ok (.aload_n 0, 1) := by decide +kernel
theorem d_A_drop_9 : decode c_A_drop 9 = .ok (.iload_n 2, 1) := by decide +kernel
theorem d_A_drop_10 : decode c_A_drop 10 = .ok (.invokevirtual 89, 3) := by decide +kernel
theorem d_A_drop_13 : decode c_A_drop 13 = .ok (.ifCond .eq 16, 3) := by decide +kernel
theorem d_A_drop_16 : decode c_A_drop 16 = .ok (.aload_n 0, 1) := by decide +kernel
theorem d_A_drop_17 : decode c_A_drop 17 = .ok (.getfield 22, 3) := by decide +kernel
theorem d_A_drop_20 : decode c_A_drop 20 = .ok (.iload_n 1, 1) := by decide +kernel
theorem d_A_drop_21 : decode c_A_drop 21 = .ok (.iaload, 1) := by decide +kernel
theorem d_A_drop_22 : decode c_A_drop 22 = .ok (.iload_n 2, 1) := by decide +kernel
theorem d_A_drop_23 : decode c_A_drop 23 = .ok (.invokestatic 93, 3) := by decide +kernel
theorem d_A_drop_26 : decode c_A_drop 26 = .ok (.ifCond .ne 5, 3) := by decide +kernel
theorem d_A_drop_29 : decode c_A_drop 29 = .ok (.iconst 0, 1) := by decide +kernel
theorem d_A_drop_30 : decode c_A_drop 30 = .ok (.ireturn, 1) := by decide +kernel
theorem d_A_drop_31 : decode c_A_drop 31 = .ok (.aload_n 0, 1) := by decide +kernel
theorem d_A_drop_32 : decode c_A_drop 32 = .ok (.getfield 22, 3) := by decide +kernel
theorem d_A_drop_35 : decode c_A_drop 35 = .ok (.iload_n 1, 1) := by decide +kernel
theorem d_A_drop_36 : decode c_A_drop 36 = .ok (.dup2, 1) := by decide +kernel
theorem d_A_drop_37 : decode c_A_drop 37 = .ok (.iaload, 1) := by decide +kernel
theorem d_A_drop_38 : decode c_A_drop 38 = .ok (.iconst 1, 1) := by decide +kernel
theorem d_A_drop_39 : decode c_A_drop 39 = .ok (.iload_n 2, 1) := by decide +kernel
theorem d_A_drop_40 : decode c_A_drop 40 = .ok (.ishl, 1) := by decide +kernel
theorem d_A_drop_41 : decode c_A_drop 41 = .ok (.iconst (-1), 1) := by decide +kernel
theorem d_A_drop_42 : decode c_A_drop 42 = .ok (.ixor, 1) := by decide +kernel
theorem d_A_drop_43 : decode c_A_drop 43 = .ok (.iand, 1) := by decide +kernel
theorem d_A_drop_44 : decode c_A_drop 44 = .ok (.iastore, 1) := by decide +kernel
theorem d_A_drop_45 : decode c_A_drop 45 = .ok (.iconst 1, 1) := by decide +kernel
theorem d_A_drop_46 : decode c_A_drop 46 = .ok (.ireturn, 1) := by decide +kernel
theorem d_A_pack_0 : decode c_A_pack 0 = .ok (.iload_n 1, 1) := by decide +kernel
theorem d_A_pack_1 : decode c_A_pack 1 = .ok (.iconst 0, 1) := by decide +kernel
theorem d_A_pack_2 : decode c_A_pack 2 = .ok (.bipush 6, 2) := by decide +kernel
theorem d_A_pack_4 : decode c_A_pack 4 = .ok (.invokestatic 97, 3) := by decide +kernel
theorem d_A_pack_7 : decode c_A_pack 7 = .ok (.ifCond .eq 32, 3) := by decide +kernel
theorem d_A_pack_10 : decode c_A_pack 10 = .ok (.iload_n 2, 1) := by decide +kernel
theorem d_A_pack_11 : decode c_A_pack 11 = .ok (.iconst 0, 1) := by decide +kernel
theorem d_A_pack_12 : decode c_A_pack 12 = .ok (.iconst 3, 1) := by decide +kernel
theorem d_A_pack_13 : decode c_A_pack 13 = .ok (.invokestatic 97, 3) := by decide +kernel
theorem d_A_pack_16 : decode c_A_pack 16 = .ok (.ifCond .eq 23, 3) := by decide +kernel
theorem d_A_pack_19 : decode c_A_pack 19 = .ok (.iload_n 3, 1) := by decide +kernel
theorem d_A_pack_20 : decode c_A_pack 20 = .ok (.iconst 0, 1) := by decide +kernel
theorem d_A_pack_21 : decode c_A_pack 21 = .ok (.bipush 9, 2) := by decide +kernel
theorem d_A_pack_23 : decode c_A_pack 23 = .ok (.invokestatic 97, 3) := by decide +kernel
theorem d_A_pack_26 : decode c_A_pack 26 = .ok (.ifCond .eq 13, 3) := by decide +kernel
theorem d_A_pack_29 : decode c_A_pack 29 = .ok (.iload 4, 2) := by decide +kernel
theorem d_A_pack_31 : decode c_A_pack 31 = .ok (.iconst 1, 1) := by decide +kernel
theorem d_A_pack_32 : decode c_A_pack 32 = .ok (.iconst 4, 1) := by decide +kernel
theorem d_A_pack_33 : decode c_A_pack 33 = .ok (.invokestatic 97, 3) := by decide +kernel
theorem d_A_pack_36 : decode c_A_pack 36 = .ok (.ifCond .ne 5, 3) := by decide +kernel
theorem d_A_pack_39 : decode c_A_pack 39 = .ok (.iconst (-1), 1) := by decide +kernel
theorem d_A_pack_40 : decode c_A_pack 40 = .ok (.ireturn, 1) := by decide +kernel
theorem d_A_pack_41 : decode c_A_pack 41 = .ok (.aload_n 0, 1) := by decide +kernel
theorem d_A_pack_42 : decode c_A_pack 42 = .ok (.getfield 38, 3) := by decide +kernel
theorem d_A_pack_45 : decode c_A_pack 45 = .ok (.iload_n 1, 1) := by decide +kernel
theorem d_A_pack_46 : decode c_A_pack 46 = .ok (.putfield 101, 3) := by decide +kernel
theorem d_A_pack_49 : decode c_A_pack 49 = .ok (.aload_n 0, 1) := by decide +kernel
theorem d_A_pack_50 : decode c_A_pack 50 = .ok (.getfield 38, 3) := by decide +kernel
theorem d_A_pack_53 : decode c_A_pack 53 = .ok (.iload_n 2, 1) := by decide +kernel
theorem d_A_pack_54 : decode c_A_pack 54 = .ok (.putfield 104, 3) := by decide +kernel
theorem d_A_pack_57 : decode c_A_pack 57 = .ok (.aload_n 0, 1) := by decide +kernel
theorem d_A_pack_58 : decode c_A_pack 58 = .ok (.getfield 38, 3) := by decide +kernel
theorem d_A_pack_61 : decode c_A_pack 61 = .ok (.iload_n 3, 1) := by decide +kernel
theorem d_A_pack_62 : decode c_A_pack 62 = .ok (.putfield 107, 3) := by decide +kernel
theorem d_A_pack_65 : decode c_A_pack 65 = .ok (.aload_n 0, 1) := by decide +kernel
theorem d_A_pack_66 : decode c_A_pack 66 = .ok (.getfield 38, 3) := by decide +kernel
theorem d_A_pack_69 : decode c_A_pack 69 = .ok (.iload 4, 2) := by decide +kernel
theorem d_A_pack_71 : decode c_A_pack 71 = .ok (.putfield 110, 3) := by decide +kernel
theorem d_A_pack_74 : decode c_A_pack 74 = .ok (.aload_n 0, 1) := by decide +kernel
theorem d_A_pack_75 : decode c_A_pack 75 = .ok (.getfield 47, 3) := by decide +kernel
theorem d_A_pack_78 : decode c_A_pack 78 = .ok (.invokevirtual 79, 3) := by decide +kernel
theorem d_A_pack_81 : decode c_A_pack 81 = .ok (.aload_n 0, 1) := by decide +kernel
theorem d_A_pack_82 : decode c_A_pack 82 = .ok (.getfield 56, 3) := by decide +kernel
theorem d_A_pack_85 : decode c_A_pack 85 = .ok (.invokevirtual 82, 3) := by decide +kernel
theorem d_A_pack_88 : decode c_A_pack 88 = .ok (.aload_n 0, 1) := by decide +kernel
theorem d_A_pack_89 : decode c_A_pack 89 = .ok (.getfield 29, 3) := by decide +kernel
theorem d_A_pack_92 : decode c_A_pack 92 = .ok (.getfield 113, 3) := by decide +kernel
theorem d_A_pack_95 : decode c_A_pack 95 = .ok (.ireturn, 1) := by decide +kernel
theorem d_A_offset_0 : decode c_A_offset 0 = .ok (.iload_n 1, 1) := by decide +kernel
theorem d_A_offset_1 : decode c_A_offset 1 = .ok (.iconst 0, 1) := by decide +kernel
theorem d_A_offset_2 : decode c_A_offset 2 = .ok (.aload_n 0, 1) := by decide +kernel
theorem d_A_offset_3 : decode c_A_offset 3 = .ok (.getfield 18, 3) := by decide +kernel
theorem d_A_offset_6 : decode c_A_offset 6 = .ok (.invokestatic 97, 3) := by decide +kernel
theorem d_A_offset_9 : decode c_A_offset 9 = .ok (.ifCond .eq 15, 3) := by decide +kernel
theorem d_A_offset_12 : decode c_A_offset 12 = .ok (.aload_n 0, 1) := by decide +kernel
theorem d_A_offset_13 : decode c_A_offset 13 = .ok (.getfield 38, 3) := by decide +kernel
theorem d_A_offset_16 : decode c_A_offset 16 = .ok (.getfield 116, 3) := by decide +kernel
theorem d_A_offset_19 : decode c_A_offset 19 = .ok (.iload_n 1, 1) := by decide +kernel
theorem d_A_offset_20 : decode c_A_offset 20 = .ok (.iaload, 1) := by decide +kernel
theorem d_A_offset_21 : decode c_A_offset 21 = .ok (.goto 4, 3) := by decide +kernel
theorem d_A_offset_24 : decode c_A_offset 24 = .ok (.iconst (-1), 1) := by decide +kernel
theorem d_A_offset_25 : decode c_A_offset 25 = .ok (.ireturn, 1) := by decide +kernel
theorem d_A_bit_0 : decode c_A_bit 0 = .ok (.aload_n 0, 1) := by decide +kernel
theorem d_A_bit_1 : decode c_A_bit 1 = .ok (.iload_n 1, 1) := by decide +kernel
theorem d_A_bit_2 : decode c_A_bit 2 = .ok (.invokevirtual 119, 3) := by decide +kernel
theorem d_A_bit_5 : decode c_A_bit 5 = .ok (.ifCond .eq 15, 3) := by decide +kernel
theorem d_A_bit_8 : decode c_A_bit 8 = .ok (.aload_n 0, 1) := by decide +kernel
theorem d_A_bit_9 : decode c_A_bit 9 = .ok (.getfield 29, 3) := by decide +kernel
theorem d_A_bit_12 : decode c_A_bit 12 = .ok (.getfield 122, 3) := by decide +kernel
theorem d_A_bit_15 : decode c_A_bit 15 = .ok (.iload_n 1, 1) := by decide +kernel
theorem d_A_bit_16 : decode c_A_bit 16 = .ok (.baload, 1) := by decide +kernel
theorem d_A_bit_17 : decode c_A_bit 17 = .ok (.goto 4, 3) := by decide +kernel
theorem d_A_bit_20 : decode c_A_bit 20 = .ok (.iconst (-1), 1) := by decide +kernel
theorem d_A_bit_21 : decode c_A_bit 21 = .ok (.ireturn, 1) := by decide +kernel
theorem d_A_flip_0 : decode c_A_flip 0 = .ok (.aload_n 0, 1) := by decide +kernel
theorem d_A_flip_1 : decode c_A_flip 1 = .ok (.iload_n 1, 1) := by decide +kernel
theorem d_A_flip_2 : decode c_A_flip 2 = .ok (.invokevirtual 119, 3) := by decide +kernel
theorem d_A_flip_5 : decode c_A_flip 5 = .ok (.ifCond .ne 5, 3) := by decide +kernel
theorem d_A_flip_8 : decode c_A_flip 8 = .ok (.iconst 0, 1) := by decide +kernel
theorem d_A_flip_9 : decode c_A_flip 9 = .ok (.ireturn, 1) := by decide +kernel
theorem d_A_flip_10 : decode c_A_flip 10 = .ok (.aload_n 0, 1) := by decide +kernel
theorem d_A_flip_11 : decode c_A_flip 11 = .ok (.getfield 29, 3) := by decide +kernel
theorem d_A_flip_14 : decode c_A_flip 14 = .ok (.getfield 122, 3) := by decide +kernel
theorem d_A_flip_17 : decode c_A_flip 17 = .ok (.iload_n 1, 1) := by decide +kernel
theorem d_A_flip_18 : decode c_A_flip 18 = .ok (.iconst 1, 1) := by decide +kernel
theorem d_A_flip_19 : decode c_A_flip 19 = .ok (.aload_n 0, 1) := by decide +kernel
theorem d_A_flip_20 : decode c_A_flip 20 = .ok (.getfield 29, 3) := by decide +kernel
theorem d_A_flip_23 : decode c_A_flip 23 = .ok (.getfield 122, 3) := by decide +kernel
theorem d_A_flip_26 : decode c_A_flip 26 = .ok (.iload_n 1, 1) := by decide +kernel
theorem d_A_flip_27 : decode c_A_flip 27 = .ok (.baload, 1) := by decide +kernel
theorem d_A_flip_28 : decode c_A_flip 28 = .ok (.isub, 1) := by decide +kernel
theorem d_A_flip_29 : decode c_A_flip 29 = .ok (.i2b, 1) := by decide +kernel
theorem d_A_flip_30 : decode c_A_flip 30 = .ok (.bastore, 1) := by decide +kernel
theorem d_A_flip_31 : decode c_A_flip 31 = .ok (.aload_n 0, 1) := by decide +kernel
theorem d_A_flip_32 : decode c_A_flip 32 = .ok (.getfield 56, 3) := by decide +kernel
theorem d_A_flip_35 : decode c_A_flip 35 = .ok (.invokevirtual 82, 3) := by decide +kernel
theorem d_A_flip_38 : decode c_A_flip 38 = .ok (.iconst 1, 1) := by decide +kernel
theorem d_A_flip_39 : decode c_A_flip 39 = .ok (.ireturn, 1) := by decide +kernel
theorem d_A_degree_0 : decode c_A_degree 0 = .ok (.aload_n 0, 1) := by decide +kernel
theorem d_A_degree_1 : decode c_A_degree 1 = .ok (.iload_n 1, 1) := by decide +kernel
theorem d_A_degree_2 : decode c_A_degree 2 = .ok (.invokevirtual 89, 3) := by decide +kernel
theorem d_A_degree_5 : decode c_A_degree 5 = .ok (.ifCond .ne 6, 3) := by decide +kernel
theorem d_A_degree_8 : decode c_A_degree 8 = .ok (.bipush (-100), 2) := by decide +kernel
theorem d_A_degree_10 : decode c_A_degree 10 = .ok (.ireturn, 1) := by decide +kernel
theorem d_A_degree_11 : decode c_A_degree 11 = .ok (.aload_n 0, 1) := by decide +kernel
theorem d_A_degree_12 : decode c_A_degree 12 = .ok (.getfield 56, 3) := by decide +kernel
theorem d_A_degree_15 : decode c_A_degree 15 = .ok (.getfield 126, 3) := by decide +kernel
theorem d_A_degree_18 : decode c_A_degree 18 = .ok (.iload_n 1, 1) := by decide +kernel
theorem d_A_degree_19 : decode c_A_degree 19 = .ok (.iaload, 1) := by decide +kernel
theorem d_A_degree_20 : decode c_A_degree 20 = .ok (.ifCond .ne 18, 3) := by decide +kernel
theorem d_A_degree_23 : decode c_A_degree 23 = .ok (.aload_n 0, 1) := by decide +kernel
theorem d_A_degree_24 : decode c_A_degree 24 = .ok (.getfield 56, 3) := by decide +kernel
theorem d_A_degree_27 : decode c_A_degree 27 = .ok (.getfield 62, 3) := by decide +kernel
theorem d_A_degree_30 : decode c_A_degree 30 = .ok (.iload_n 1, 1) := by decide +kernel
theorem d_A_degree_31 : decode c_A_degree 31 = .ok (.iaload, 1) := by decide +kernel
theorem d_A_degree_32 : decode c_A_degree 32 = .ok (.invokestatic 129, 3) := by decide +kernel
theorem d_A_degree_35 : decode c_A_degree 35 = .ok (.goto 13, 3) := by decide +kernel
theorem d_A_degree_38 : decode c_A_degree 38 = .ok (.aload_n 0, 1) := by decide +kernel
theorem d_A_degree_39 : decode c_A_degree 39 = .ok (.getfield 56, 3) := by decide +kernel
theorem d_A_degree_42 : decode c_A_degree 42 = .ok (.getfield 126, 3) := by decide +kernel
theorem d_A_degree_45 : decode c_A_degree 45 = .ok (.iload_n 1, 1) := by decide +kernel
theorem d_A_degree_46 : decode c_A_degree 46 = .ok (.iaload, 1) := by decide +kernel
theorem d_A_degree_47 : decode c_A_degree 47 = .ok (.ineg, 1) := by decide +kernel
theorem d_A_degree_48 : decode c_A_degree 48 = .ok (.ireturn, 1) := by decide +kernel
theorem d_A_successor_0 : decode c_A_successor 0 = .ok (.aload_n 0, 1) := by decide +kernel
theorem d_A_successor_1 : decode c_A_successor 1 = .ok (.iload_n 1, 1) := by decide +kernel
theorem d_A_successor_2 : decode c_A_successor 2 = .ok (.invokevirtual 89, 3) := by decide +kernel
theorem d_A_successor_5 : decode c_A_successor 5 = .ok (.ifCond .ne 5, 3) := by decide +kernel
theorem d_A_successor_8 : decode c_A_successor 8 = .ok (.iconst (-1), 1) := by decide +kernel
theorem d_A_successor_9 : decode c_A_successor 9 = .ok (.ireturn, 1) := by decide +kernel
theorem d_A_successor_10 : decode c_A_successor 10 = .ok (.iconst 0, 1) := by decide +kernel
theorem d_A_successor_11 : decode c_A_successor 11 = .ok (.istore_n 3, 1) := by decide +kernel
theorem d_A_successor_12 : decode c_A_successor 12 = .ok (.iconst 0, 1) := by decide +kernel
theorem d_A_successor_13 : decode c_A_successor 13 = .ok (.istore 4, 2) := by decide +kernel
theorem d_A_successor_15 : decode c_A_successor 15 = .ok (.iload 4, 2) := by decide +kernel
theorem d_A_successor_17 : decode c_A_successor 17 = .ok (.aload_n 0, 1) := by decide +kernel
theorem d_A_successor_18 : decode c_A_successor 18 = .ok (.getfield 18, 3) := by decide +kernel
theorem d_A_successor_21 : decode c_A_successor 21 = .ok (.if_icmp .ge 37, 3) := by decide +kernel
theorem d_A_successor_24 : decode c_A_successor 24 = .ok (.aload_n 0, 1) := by decide +kernel
theorem d_A_successor_25 : decode c_A_successor 25 = .ok (.getfield 56, 3) := by decide +kernel
theorem d_A_successor_28 : decode c_A_successor 28 = .ok (.getfield 62, 3) := by decide +kernel
theorem d_A_successor_31 : decode c_A_successor 31 = .ok (.iload_n 1, 1) := by decide +kernel
theorem d_A_successor_32 : decode c_A_successor 32 = .ok (.iaload, 1) := by decide +kernel
theorem d_A_successor_33 : decode c_A_successor 33 = .ok (.iload 4, 2) := by decide +kernel
theorem d_A_successor_35 : decode c_A_successor 35 = .ok (.invokestatic 93, 3) := by decide +kernel
theorem d_A_successor_38 : decode c_A_successor 38 = .ok (.ifCond .eq 14, 3) := by decide +kernel
theorem d_A_successor_41 : decode c_A_successor 41 = .ok (.iload_n 3, 1) := by decide +kernel
theorem d_A_successor_42 : decode c_A_successor 42 = .ok (.iload_n 2, 1) := by decide +kernel
theorem d_A_successor_43 : decode c_A_successor 43 = .ok (.if_icmp .ne 6, 3) := by decide +kernel
theorem d_A_successor_46 : decode c_A_successor 46 = .ok (.iload 4, 2) := by decide +kernel
theorem d_A_successor_48 : decode c_A_successor 48 = .ok (.ireturn, 1) := by decide +kernel
theorem d_A_successor_49 : decode c_A_successor 49 = .ok (.iinc 3 1, 3) := by decide +kernel
theorem d_A_successor_52 : decode c_A_successor 52 = .ok (.iinc 4 1, 3) := by decide +kernel
theorem d_A_successor_55 : decode c_A_successor 55 = .ok (.goto (-40), 3) := by decide +kernel
theorem d_A_successor_58 : decode c_A_successor 58 = .ok (.iconst (-1), 1) := by decide +kernel
theorem d_A_successor_59 : decode c_A_successor 59 = .ok (.ireturn, 1) := by decide +kernel
theorem d_A_reference_0 : decode c_A_reference 0 = .ok (.aload_n 0, 1) := by decide +kernel
theorem d_A_reference_1 : decode c_A_reference 1 = .ok (.iload_n 1, 1) := by decide +kernel
theorem d_A_reference_2 : decode c_A_reference 2 = .ok (.invokevirtual 89, 3) := by decide +kernel
theorem d_A_reference_5 : decode c_A_reference 5 = .ok (.ifCond .eq 27, 3) := by decide +kernel
theorem d_A_reference_8 : decode c_A_reference 8 = .ok (.aload_n 0, 1) := by decide +kernel
theorem d_A_reference_9 : decode c_A_reference 9 = .ok (.getfield 56, 3) := by decide +kernel
theorem d_A_reference_12 : decode c_A_reference 12 = .ok (.getfield 126, 3) := by decide +kernel
theorem d_A_reference_15 : decode c_A_reference 15 = .ok (.iload_n 1, 1) := by decide +kernel
theorem d_A_reference_16 : decode c_A_reference 16 = .ok (.iaload, 1) := by decide +kernel
theorem d_A_reference_17 : decode c_A_reference 17 = .ok (.ifCond .ne 15, 3) := by decide +kernel
theorem d_A_reference_20 : decode c_A_reference 20 = .ok (.aload_n 0, 1) := by decide +kernel
theorem d_A_reference_21 : decode c_A_reference 21 = .ok (.getfield 56, 3) := by decide +kernel
theorem d_A_reference_24 : decode c_A_reference 24 = .ok (.getfield 135, 3) := by decide +kernel
theorem d_A_reference_27 : decode c_A_reference 27 = .ok (.iload_n 1, 1) := by decide +kernel
theorem d_A_reference_28 : decode c_A_reference 28 = .ok (.iaload, 1) := by decide +kernel
theorem d_A_reference_29 : decode c_A_reference 29 = .ok (.goto 4, 3) := by decide +kernel
theorem d_A_reference_32 : decode c_A_reference 32 = .ok (.iconst (-1), 1) := by decide +kernel
theorem d_A_reference_33 : decode c_A_reference 33 = .ok (.ireturn, 1) := by decide +kernel
theorem d_A_components_0 : decode c_A_components 0 = .ok (.aload_n 0, 1) := by decide +kernel
theorem d_A_components_1 : decode c_A_components 1 = .ok (.getfield 68, 3) := by decide +kernel
theorem d_A_components_4 : decode c_A_components 4 = .ok (.invokevirtual 138, 3) := by decide +kernel
theorem d_A_components_7 : decode c_A_components 7 = .ok (.ireturn, 1) := by decide +kernel
theorem d_A_component_0 : decode c_A_component 0 = .ok (.aload_n 0, 1) := by decide +kernel
theorem d_A_component_1 : decode c_A_component 1 = .ok (.iload_n 1, 1) := by decide +kernel
theorem d_A_component_2 : decode c_A_component 2 = .ok (.invokevirtual 89, 3) := by decide +kernel
theorem d_A_component_5 : decode c_A_component 5 = .ok (.ifCond .ne 5, 3) := by decide +kernel
theorem d_A_component_8 : decode c_A_component 8 = .ok (.iconst (-1), 1) := by decide +kernel
theorem d_A_component_9 : decode c_A_component 9 = .ok (.ireturn, 1) := by decide +kernel
theorem d_A_component_10 : decode c_A_component 10 = .ok (.aload_n 0, 1) := by decide +kernel
theorem d_A_component_11 : decode c_A_component 11 = .ok (.getfield 68, 3) := by decide +kernel
theorem d_A_component_14 : decode c_A_component 14 = .ok (.invokevirtual 138, 3) := by decide +kernel
theorem d_A_component_17 : decode c_A_component 17 = .ok (.pop, 1) := by decide +kernel
theorem d_A_component_18 : decode c_A_component 18 = .ok (.aload_n 0, 1) := by decide +kernel
theorem d_A_component_19 : decode c_A_component 19 = .ok (.getfield 68, 3) := by decide +kernel
theorem d_A_component_22 : decode c_A_component 22 = .ok (.getfield 142, 3) := by decide +kernel
theorem d_A_component_25 : decode c_A_component 25 = .ok (.iload_n 1, 1) := by decide +kernel
theorem d_A_component_26 : decode c_A_component 26 = .ok (.iaload, 1) := by decide +kernel
theorem d_A_component_27 : decode c_A_component 27 = .ok (.ireturn, 1) := by decide +kernel
theorem d_A_prefer_0 : decode c_A_prefer 0 = .ok (.aload_n 0, 1) := by decide +kernel
theorem d_A_prefer_1 : decode c_A_prefer 1 = .ok (.iload_n 1, 1) := by decide +kernel
theorem d_A_prefer_2 : decode c_A_prefer 2 = .ok (.invokevirtual 89, 3) := by decide +kernel
theorem d_A_prefer_5 : decode c_A_prefer 5 = .ok (.ifCond .eq 26, 3) := by decide +kernel
theorem d_A_prefer_8 : decode c_A_prefer 8 = .ok (.iload_n 2, 1) := by decide +kernel
theorem d_A_prefer_9 : decode c_A_prefer 9 = .ok (.iconst 0, 1) := by decide +kernel
theorem d_A_prefer_10 : decode c_A_prefer 10 = .ok (.bipush 100, 2) := by decide +kernel
theorem d_A_prefer_12 : decode c_A_prefer 12 = .ok (.invokestatic 97, 3) := by decide +kernel
theorem d_A_prefer_15 : decode c_A_prefer 15 = .ok (.ifCond .eq 16, 3) := by decide +kernel
theorem d_A_prefer_18 : decode c_A_prefer 18 = .ok (.aload_n 0, 1) := by decide +kernel
theorem d_A_prefer_19 : decode c_A_prefer 19 = .ok (.getfield 75, 3) := by decide +kernel
theorem d_A_prefer_22 : decode c_A_prefer 22 = .ok (.iload_n 1, 1) := by decide +kernel
theorem d_A_prefer_23 : decode c_A_prefer 23 = .ok (.invokevirtual 145, 3) := by decide +kernel
theorem d_A_prefer_26 : decode c_A_prefer 26 = .ok (.iload_n 2, 1) := by decide +kernel
theorem d_A_prefer_27 : decode c_A_prefer 27 = .ok (.iadd, 1) := by decide +kernel
theorem d_A_prefer_28 : decode c_A_prefer 28 = .ok (.ifCond .ne 5, 3) := by decide +kernel
theorem d_A_prefer_31 : decode c_A_prefer 31 = .ok (.iconst 0, 1) := by decide +kernel
theorem d_A_prefer_32 : decode c_A_prefer 32 = .ok (.ireturn, 1) := by decide +kernel
theorem d_A_prefer_33 : decode c_A_prefer 33 = .ok (.aload_n 0, 1) := by decide +kernel
theorem d_A_prefer_34 : decode c_A_prefer 34 = .ok (.getfield 75, 3) := by decide +kernel
theorem d_A_prefer_37 : decode c_A_prefer 37 = .ok (.getfield 148, 3) := by decide +kernel
theorem d_A_prefer_40 : decode c_A_prefer 40 = .ok (.iload_n 1, 1) := by decide +kernel
theorem d_A_prefer_41 : decode c_A_prefer 41 = .ok (.iload_n 2, 1) := by decide +kernel
theorem d_A_prefer_42 : decode c_A_prefer 42 = .ok (.iastore, 1) := by decide +kernel
theorem d_A_prefer_43 : decode c_A_prefer 43 = .ok (.iconst 1, 1) := by decide +kernel
theorem d_A_prefer_44 : decode c_A_prefer 44 = .ok (.ireturn, 1) := by decide +kernel
theorem d_A_start_0 : decode c_A_start 0 = .ok (.iload_n 1, 1) := by decide +kernel
theorem d_A_start_1 : decode c_A_start 1 = .ok (.iconst 0, 1) := by decide +kernel
theorem d_A_start_2 : decode c_A_start 2 = .ok (.iconst 2, 1) := by decide +kernel
theorem d_A_start_3 : decode c_A_start 3 = .ok (.invokestatic 97, 3) := by decide +kernel
theorem d_A_start_6 : decode c_A_start 6 = .ok (.ifCond .eq 14, 3) := by decide +kernel
theorem d_A_start_9 : decode c_A_start 9 = .ok (.iload_n 2, 1) := by decide +kernel
theorem d_A_start_10 : decode c_A_start 10 = .ok (.iconst 0, 1) := by decide +kernel
theorem d_A_start_11 : decode c_A_start 11 = .ok (.sipush 1000, 3) := by decide +kernel
theorem d_A_start_14 : decode c_A_start 14 = .ok (.invokestatic 97, 3) := by decide +kernel
theorem d_A_start_17 : decode c_A_start 17 = .ok (.ifCond .ne 5, 3) := by decide +kernel
theorem d_A_start_20 : decode c_A_start 20 = .ok (.iconst 0, 1) := by decide +kernel
theorem d_A_start_21 : decode c_A_start 21 = .ok (.ireturn, 1) := by decide +kernel
theorem d_A_start_22 : decode c_A_start 22 = .ok (.aload_n 0, 1) := by decide +kernel
theorem d_A_start_23 : decode c_A_start 23 = .ok (.getfield 75, 3) := by decide +kernel
theorem d_A_start_26 : decode c_A_start 26 = .ok (.iload_n 1, 1) := by decide +kernel
theorem d_A_start_27 : decode c_A_start 27 = .ok (.iload_n 2, 1) := by decide +kernel
theorem d_A_start_28 : decode c_A_start 28 = .ok (.invokevirtual 85, 3) := by decide +kernel
theorem d_A_start_31 : decode c_A_start 31 = .ok (.iconst 1, 1) := by decide +kernel
theorem d_A_start_32 : decode c_A_start 32 = .ok (.ireturn, 1) := by decide +kernel
theorem d_A_step_0 : decode c_A_step 0 = .ok (.iload_n 1, 1) := by decide +kernel
theorem d_A_step_1 : decode c_A_step 1 = .ok (.iconst 0, 1) := by decide +kernel
theorem d_A_step_2 : decode c_A_step 2 = .ok (.bipush 20, 2) := by decide +kernel
theorem d_A_step_4 : decode c_A_step 4 = .ok (.invokestatic 97, 3) := by decide +kernel
theorem d_A_step_7 : decode c_A_step 7 = .ok (.ifCond .eq 14, 3) := by decide +kernel
theorem d_A_step_10 : decode c_A_step 10 = .ok (.aload_n 0, 1) := by decide +kernel
theorem d_A_step_11 : decode c_A_step 11 = .ok (.getfield 75, 3) := by decide +kernel
theorem d_A_step_14 : decode c_A_step 14 = .ok (.iload_n 1, 1) := by decide +kernel
theorem d_A_step_15 : decode c_A_step 15 = .ok (.invokevirtual 151, 3) := by decide +kernel
theorem d_A_step_18 : decode c_A_step 18 = .ok (.goto 4, 3) := by decide +kernel
theorem d_A_step_21 : decode c_A_step 21 = .ok (.iconst (-1), 1) := by decide +kernel
theorem d_A_step_22 : decode c_A_step 22 = .ok (.ireturn, 1) := by decide +kernel
theorem d_A_score_0 : decode c_A_score 0 = .ok (.aload_n 0, 1) := by decide +kernel
theorem d_A_score_1 : decode c_A_score 1 = .ok (.iload_n 1, 1) := by decide +kernel
theorem d_A_score_2 : decode c_A_score 2 = .ok (.invokevirtual 89, 3) := by decide +kernel
theorem d_A_score_5 : decode c_A_score 5 = .ok (.ifCond .eq 15, 3) := by decide +kernel
theorem d_A_score_8 : decode c_A_score 8 = .ok (.aload_n 0, 1) := by decide +kernel
theorem d_A_score_9 : decode c_A_score 9 = .ok (.getfield 75, 3) := by decide +kernel
theorem d_A_score_12 : decode c_A_score 12 = .ok (.getfield 154, 3) := by decide +kernel
theorem d_A_score_15 : decode c_A_score 15 = .ok (.iload_n 1, 1) := by decide +kernel
theorem d_A_score_16 : decode c_A_score 16 = .ok (.laload, 1) := by decide +kernel
theorem d_A_score_17 : decode c_A_score 17 = .ok (.goto 6, 3) := by decide +kernel
theorem d_A_score_20 : decode c_A_score 20 = .ok (.ldc2_w 157, 3) := by decide +kernel
theorem d_A_score_23 : decode c_A_score 23 = .ok (.lreturn, 1) := by decide +kernel
theorem d_A_hub_0 : decode c_A_hub 0 = .ok (.aload_n 0, 1) := by decide +kernel
theorem d_A_hub_1 : decode c_A_hub 1 = .ok (.iload_n 1, 1) := by decide +kernel
theorem d_A_hub_2 : decode c_A_hub 2 = .ok (.invokevirtual 89, 3) := by decide +kernel
theorem d_A_hub_5 : decode c_A_hub 5 = .ok (.ifCond .eq 15, 3) := by decide +kernel
theorem d_A_hub_8 : decode c_A_hub 8 = .ok (.aload_n 0, 1) := by decide +kernel
theorem d_A_hub_9 : decode c_A_hub 9 = .ok (.getfield 75, 3) := by decide +kernel
theorem d_A_hub_12 : decode c_A_hub 12 = .ok (.getfield 159, 3) := by decide +kernel
theorem d_A_hub_15 : decode c_A_hub 15 = .ok (.iload_n 1, 1) := by decide +kernel
theorem d_A_hub_16 : decode c_A_hub 16 = .ok (.laload, 1) := by decide +kernel
theorem d_A_hub_17 : decode c_A_hub 17 = .ok (.goto 6, 3) := by decide +kernel
theorem d_A_hub_20 : decode c_A_hub 20 = .ok (.ldc2_w 157, 3) := by decide +kernel
theorem d_A_hub_23 : decode c_A_hub 23 = .ok (.lreturn, 1) := by decide +kernel
theorem d_A_top_0 : decode c_A_top 0 = .ok (.iconst 0, 1) := by decide +kernel
theorem d_A_top_1 : decode c_A_top 1 = .ok (.istore_n 2, 1) := by decide +kernel
theorem d_A_top_2 : decode c_A_top 2 = .ok (.iload_n 2, 1) := by decide +kernel
theorem d_A_top_3 : decode c_A_top 3 = .ok (.aload_n 0, 1) := by decide +kernel
theorem d_A_top_4 : decode c_A_top 4 = .ok (.getfield 18, 3) := by decide +kernel
theorem d_A_top_7 : decode c_A_top 7 = .ok (.if_icmp .ge 23, 3) := by decide +kernel
theorem d_A_top_10 : decode c_A_top 10 = .ok (.aload_n 0, 1) := by decide +kernel
theorem d_A_top_11 : decode c_A_top 11 = .ok (.getfield 75, 3) := by decide +kernel
theorem d_A_top_14 : decode c_A_top 14 = .ok (.iload_n 2, 1) := by decide +kernel
theorem d_A_top_15 : decode c_A_top 15 = .ok (.invokevirtual 162, 3) := by decide +kernel
theorem d_A_top_18 : decode c_A_top 18 = .ok (.iload_n 1, 1) := by decide +kernel
theorem d_A_top_19 : decode c_A_top 19 = .ok (.if_icmp .ne 5, 3) := by decide +kernel
theorem d_A_top_22 : decode c_A_top 22 = .ok (.iload_n 2, 1) := by decide +kernel
theorem d_A_top_23 : decode c_A_top 23 = .ok (.ireturn, 1) := by decide +kernel
theorem d_A_top_24 : decode c_A_top 24 = .ok (.iinc 2 1, 3) := by decide +kernel
theorem d_A_top_27 : decode c_A_top 27 = .ok (.goto (-25), 3) := by decide +kernel
theorem d_A_top_30 : decode c_A_top 30 = .ok (.iconst (-1), 1) := by decide +kernel
theorem d_A_top_31 : decode c_A_top 31 = .ok (.ireturn, 1) := by decide +kernel
theorem d_A_change_0 : decode c_A_change 0 = .ok (.aload_n 0, 1) := by decide +kernel
theorem d_A_change_1 : decode c_A_change 1 = .ok (.getfield 75, 3) := by decide +kernel
theorem d_A_change_4 : decode c_A_change 4 = .ok (.getfield 165, 3) := by decide +kernel
theorem d_A_change_7 : decode c_A_change 7 = .ok (.lreturn, 1) := by decide +kernel
theorem d_A_isNode_0 : decode c_A_isNode 0 = .ok (.iload_n 1, 1) := by decide +kernel
theorem d_A_isNode_1 : decode c_A_isNode 1 = .ok (.iconst 0, 1) := by decide +kernel
theorem d_A_isNode_2 : decode c_A_isNode 2 = .ok (.aload_n 0, 1) := by decide +kernel
theorem d_A_isNode_3 : decode c_A_isNode 3 = .ok (.getfield 18, 3) := by decide +kernel
theorem d_A_isNode_6 : decode c_A_isNode 6 = .ok (.iconst 1, 1) := by decide +kernel
theorem d_A_isNode_7 : decode c_A_isNode 7 = .ok (.isub, 1) := by decide +kernel
theorem d_A_isNode_8 : decode c_A_isNode 8 = .ok (.invokestatic 97, 3) := by decide +kernel
theorem d_A_isNode_11 : decode c_A_isNode 11 = .ok (.ireturn, 1) := by decide +kernel
theorem d_A_isPlace_0 : decode c_A_isPlace 0 = .ok (.iload_n 1, 1) := by decide +kernel
theorem d_A_isPlace_1 : decode c_A_isPlace 1 = .ok (.iconst 0, 1) := by decide +kernel
theorem d_A_isPlace_2 : decode c_A_isPlace 2 = .ok (.aload_n 0, 1) := by decide +kernel
theorem d_A_isPlace_3 : decode c_A_isPlace 3 = .ok (.getfield 29, 3) := by decide +kernel
theorem d_A_isPlace_6 : decode c_A_isPlace 6 = .ok (.getfield 113, 3) := by decide +kernel
theorem d_A_isPlace_9 : decode c_A_isPlace 9 = .ok (.iconst 1, 1) := by decide +kernel
theorem d_A_isPlace_10 : decode c_A_isPlace 10 = .ok (.isub, 1) := by decide +kernel
theorem d_A_isPlace_11 : decode c_A_isPlace 11 = .ok (.invokestatic 97, 3) := by decide +kernel
theorem d_A_isPlace_14 : decode c_A_isPlace 14 = .ok (.ireturn, 1) := by decide +kernel
theorem d_A_within_0 : decode c_A_within 0 = .ok (.iload_n 0, 1) := by decide +kernel
theorem d_A_within_1 : decode c_A_within 1 = .ok (.iload_n 1, 1) := by decide +kernel
theorem d_A_within_2 : decode c_A_within 2 = .ok (.if_icmp .lt 12, 3) := by decide +kernel
theorem d_A_within_5 : decode c_A_within 5 = .ok (.iload_n 0, 1) := by decide +kernel
theorem d_A_within_6 : decode c_A_within 6 = .ok (.iload_n 2, 1) := by decide +kernel
theorem d_A_within_7 : decode c_A_within 7 = .ok (.if_icmp .gt 7, 3) := by decide +kernel
theorem d_A_within_10 : decode c_A_within 10 = .ok (.iconst 1, 1) := by decide +kernel
theorem d_A_within_11 : decode c_A_within 11 = .ok (.goto 4, 3) := by decide +kernel
theorem d_A_within_14 : decode c_A_within 14 = .ok (.iconst 0, 1) := by decide +kernel
theorem d_A_within_15 : decode c_A_within 15 = .ok (.ireturn, 1) := by decide +kernel
theorem d_A_holds_0 : decode c_A_holds 0 = .ok (.iload_n 0, 1) := by decide +kernel
theorem d_A_holds_1 : decode c_A_holds 1 = .ok (.iload_n 1, 1) := by decide +kernel
theorem d_A_holds_2 : decode c_A_holds 2 = .ok (.ishr, 1) := by decide +kernel
theorem d_A_holds_3 : decode c_A_holds 3 = .ok (.iconst 1, 1) := by decide +kernel
theorem d_A_holds_4 : decode c_A_holds 4 = .ok (.iand, 1) := by decide +kernel
theorem d_A_holds_5 : decode c_A_holds 5 = .ok (.ifCond .eq 7, 3) := by decide +kernel
theorem d_A_holds_8 : decode c_A_holds 8 = .ok (.iconst 1, 1) := by decide +kernel
theorem d_A_holds_9 : decode c_A_holds 9 = .ok (.goto 4, 3) := by decide +kernel
theorem d_A_holds_12 : decode c_A_holds 12 = .ok (.iconst 0, 1) := by decide +kernel
theorem d_A_holds_13 : decode c_A_holds 13 = .ok (.ireturn, 1) := by decide +kernel
theorem d_K_init_0 : decode c_K_init 0 = .ok (.aload_n 0, 1) := by decide +kernel
theorem d_K_init_1 : decode c_K_init 1 = .ok (.invokespecial 3, 3) := by decide +kernel
theorem d_K_init_4 : decode c_K_init 4 = .ok (.aload_n 0, 1) := by decide +kernel
theorem d_K_init_5 : decode c_K_init 5 = .ok (.bipush 13, 2) := by decide +kernel
theorem d_K_init_7 : decode c_K_init 7 = .ok (.newarray .int, 2) := by decide +kernel
theorem d_K_init_9 : decode c_K_init 9 = .ok (.putfield 9, 3) := by decide +kernel
theorem d_K_init_12 : decode c_K_init 12 = .ok (.aload_n 0, 1) := by decide +kernel
theorem d_K_init_13 : decode c_K_init 13 = .ok (.bipush 12, 2) := by decide +kernel
theorem d_K_init_15 : decode c_K_init 15 = .ok (.newarray .int, 2) := by decide +kernel
theorem d_K_init_17 : decode c_K_init 17 = .ok (.putfield 15, 3) := by decide +kernel
theorem d_K_init_20 : decode c_K_init 20 = .ok (.aload_n 0, 1) := by decide +kernel
theorem d_K_init_21 : decode c_K_init 21 = .ok (.bipush 12, 2) := by decide +kernel
theorem d_K_init_23 : decode c_K_init 23 = .ok (.newarray .int, 2) := by decide +kernel
theorem d_K_init_25 : decode c_K_init 25 = .ok (.putfield 18, 3) := by decide +kernel
theorem d_K_init_28 : decode c_K_init 28 = .ok (.aload_n 0, 1) := by decide +kernel
theorem d_K_init_29 : decode c_K_init 29 = .ok (.aload_n 1, 1) := by decide +kernel
theorem d_K_init_30 : decode c_K_init 30 = .ok (.putfield 21, 3) := by decide +kernel
theorem d_K_init_33 : decode c_K_init 33 = .ok (.aload_n 0, 1) := by decide +kernel
theorem d_K_init_34 : decode c_K_init 34 = .ok (.aload_n 2, 1) := by decide +kernel
theorem d_K_init_35 : decode c_K_init 35 = .ok (.putfield 24, 3) := by decide +kernel
theorem d_K_init_38 : decode c_K_init 38 = .ok (.aload_n 0, 1) := by decide +kernel
theorem d_K_init_39 : decode c_K_init 39 = .ok (.aload_n 3, 1) := by decide +kernel
theorem d_K_init_40 : decode c_K_init 40 = .ok (.putfield 28, 3) := by decide +kernel
theorem d_K_init_43 : decode c_K_init 43 = .ok (.aload_n 0, 1) := by decide +kernel
theorem d_K_init_44 : decode c_K_init 44 = .ok (.aload_n 1, 1) := by decide +kernel
theorem d_K_init_45 : decode c_K_init 45 = .ok (.arraylength, 1) := by decide +kernel
theorem d_K_init_46 : decode c_K_init 46 = .ok (.newarray .int, 2) := by decide +kernel
theorem d_K_init_48 : decode c_K_init 48 = .ok (.putfield 32, 3) := by decide +kernel
theorem d_K_init_51 : decode c_K_init 51 = .ok (.return_, 1) := by decide +kernel
theorem d_K_writeAll_0 : decode c_K_writeAll 0 = .ok (.aload_n 0, 1) := by decide +kernel
theorem d_K_writeAll_1 : decode c_K_writeAll 1 = .ok (.getfield 28, 3) := by decide +kernel
theorem d_K_writeAll_4 : decode c_K_writeAll 4 = .ok (.iconst 0, 1) := by decide +kernel
theorem d_K_writeAll_5 : decode c_K_writeAll 5 = .ok (.putfield 35, 3) := by decide +kernel
theorem d_K_writeAll_8 : decode c_K_writeAll 8 = .ok (.iconst 0, 1) := by decide +kernel
theorem d_K_writeAll_9 : decode c_K_writeAll 9 = .ok (.istore_n 1, 1) := by decide +kernel
theorem d_K_writeAll_10 : decode c_K_writeAll 10 = .ok (.iload_n 1, 1) := by decide +kernel
theorem d_K_writeAll_11 : decode c_K_writeAll 11 = .ok (.aload_n 0, 1) := by decide +kernel
theorem d_K_writeAll_12 : decode c_K_writeAll 12 = .ok (.getfield 21, 3) := by decide +kernel
theorem d_K_writeAll_15 : decode c_K_writeAll 15 = .ok (.arraylength, 1) := by decide +kernel
theorem d_K_writeAll_16 : decode c_K_writeAll 16 = .ok (.if_icmp .ge 61, 3) := by decide +kernel
theorem d_K_writeAll_19 : decode c_K_writeAll 19 = .ok (.aload_n 0, 1) := by decide +kernel
theorem d_K_writeAll_20 : decode c_K_writeAll 20 = .ok (.getfield 24, 3) := by decide +kernel
theorem d_K_writeAll_23 : decode c_K_writeAll 23 = .ok (.getfield 41, 3) := by decide +kernel
theorem d_K_writeAll_26 : decode c_K_writeAll 26 = .ok (.iload_n 1, 1) := by decide +kernel
theorem d_K_writeAll_27 : decode c_K_writeAll 27 = .ok (.aload_n 0, 1) := by decide +kernel
theorem d_K_writeAll_28 : decode c_K_writeAll 28 = .ok (.getfield 28, 3) := by decide +kernel
theorem d_K_writeAll_31 : decode c_K_writeAll 31 = .ok (.getfield 35, 3) := by decide +kernel
theorem d_K_writeAll_34 : decode c_K_writeAll 34 = .ok (.iastore, 1) := by decide +kernel
theorem d_K_writeAll_35 : decode c_K_writeAll 35 = .ok (.aload_n 0, 1) := by decide +kernel
theorem d_K_writeAll_36 : decode c_K_writeAll 36 = .ok (.iload_n 1, 1) := by decide +kernel
theorem d_K_writeAll_37 : decode c_K_writeAll 37 = .ok (.invokevirtual 46, 3) := by decide +kernel
theorem d_K_writeAll_40 : decode c_K_writeAll 40 = .ok (.istore_n 2, 1) := by decide +kernel
theorem d_K_writeAll_41 : decode c_K_writeAll 41 = .ok (.aload_n 0, 1) := by decide +kernel
theorem d_K_writeAll_42 : decode c_K_writeAll 42 = .ok (.iload_n 1, 1) := by decide +kernel
theorem d_K_writeAll_43 : decode c_K_writeAll 43 = .ok (.iload_n 2, 1) := by decide +kernel
theorem d_K_writeAll_44 : decode c_K_writeAll 44 = .ok (.invokevirtual 50, 3) := by decide +kernel
theorem d_K_writeAll_47 : decode c_K_writeAll 47 = .ok (.aload_n 0, 1) := by decide +kernel
theorem d_K_writeAll_48 : decode c_K_writeAll 48 = .ok (.getfield 32, 3) := by decide +kernel
theorem d_K_writeAll_51 : decode c_K_writeAll 51 = .ok (.iload_n 1, 1) := by decide +kernel
theorem d_K_writeAll_52 : decode c_K_writeAll 52 = .ok (.iload_n 2, 1) := by decide +kernel
theorem d_K_writeAll_53 : decode c_K_writeAll 53 = .ok (.ifCond .ne 7, 3) := by decide +kernel
theorem d_K_writeAll_56 : decode c_K_writeAll 56 = .ok (.iconst 0, 1) := by decide +kernel
theorem d_K_writeAll_57 : decode c_K_writeAll 57 = .ok (.goto 13, 3) := by decide +kernel
theorem d_K_writeAll_60 : decode c_K_writeAll 60 = .ok (.aload_n 0, 1) := by decide +kernel
theorem d_K_writeAll_61 : decode c_K_writeAll 61 = .ok (.getfield 32, 3) := by decide +kernel
theorem d_K_writeAll_64 : decode c_K_writeAll 64 = .ok (.iload_n 1, 1) := by decide +kernel
theorem d_K_writeAll_65 : decode c_K_writeAll 65 = .ok (.iload_n 2, 1) := by decide +kernel
theorem d_K_writeAll_66 : decode c_K_writeAll 66 = .ok (.isub, 1) := by decide +kernel
theorem d_K_writeAll_67 : decode c_K_writeAll 67 = .ok (.iaload, 1) := by decide +kernel
theorem d_K_writeAll_68 : decode c_K_writeAll 68 = .ok (.iconst 1, 1) := by decide +kernel
theorem d_K_writeAll_69 : decode c_K_writeAll 69 = .ok (.iadd, 1) := by decide +kernel
theorem d_K_writeAll_70 : decode c_K_writeAll 70 = .ok (.iastore, 1) := by decide +kernel
theorem d_K_writeAll_71 : decode c_K_writeAll 71 = .ok (.iinc 1 1, 3) := by decide +kernel
theorem d_K_writeAll_74 : decode c_K_writeAll 74 = .ok (.goto (-64), 3) := by decide +kernel
theorem d_K_writeAll_77 : decode c_K_writeAll 77 = .ok (.aload_n 0, 1) := by decide +kernel
theorem d_K_writeAll_78 : decode c_K_writeAll 78 = .ok (.getfield 24, 3) := by decide +kernel
theorem d_K_writeAll_81 : decode c_K_writeAll 81 = .ok (.getfield 41, 3) := by decide +kernel
theorem d_K_writeAll_84 : decode c_K_writeAll 84 = .ok (.aload_n 0, 1) := by decide +kernel
theorem d_K_writeAll_85 : decode c_K_writeAll 85 = .ok (.getfield 21, 3) := by decide +kernel
theorem d_K_writeAll_88 : decode c_K_writeAll 88 = .ok (.arraylength, 1) := by decide +kernel
theorem d_K_writeAll_89 : decode c_K_writeAll 89 = .ok (.aload_n 0, 1) := by decide +kernel
theorem d_K_writeAll_90 : decode c_K_writeAll 90 = .ok (.getfield 28, 3) := by decide +kernel
theorem d_K_writeAll_93 : decode c_K_writeAll 93 = .ok (.getfield 35, 3) := by decide +kernel
theorem d_K_writeAll_96 : decode c_K_writeAll 96 = .ok (.iastore, 1) := by decide +kernel
theorem d_K_writeAll_97 : decode c_K_writeAll 97 = .ok (.return_, 1) := by decide +kernel
theorem d_K_bestReference_0 : decode c_K_bestReference 0 = .ok (.aload_n 0, 1) := by decide +kernel
theorem d_K_bestReference_1 : decode c_K_bestReference 1 = .ok (.getfield 28, 3) := by decide +kernel
theorem d_K_bestReference_4 : decode c_K_bestReference 4 = .ok (.getfield 35, 3) := by decide +kernel
theorem d_K_bestReference_7 : decode c_K_bestReference 7 = .ok (.istore_n 2, 1) := by decide +kernel
theorem d_K_bestReference_8 : decode c_K_bestReference 8 = .ok (.iconst 0, 1) := by decide +kernel
theorem d_K_bestReference_9 : decode c_K_bestReference 9 = .ok (.istore_n 3, 1) := by decide +kernel
theorem d_K_bestReference_10 : decode c_K_bestReference 10 = .ok (.sipush 800, 3) := by decide +kernel
theorem d_K_bestReference_13 : decode c_K_bestReference 13 = .ok (.istore 4, 2) := by decide +kernel
theorem d_K_bestReference_15 : decode c_K_bestReference 15 = .ok (.aload_n 0, 1) := by decide +kernel
theorem d_K_bestReference_16 : decode c_K_bestReference 16 = .ok (.getfield 21, 3) := by decide +kernel
theorem d_K_bestReference_19 : decode c_K_bestReference 19 = .ok (.iload_n 1, 1) := by decide +kernel
theorem d_K_bestReference_20 : decode c_K_bestReference 20 = .ok (.iaload, 1) := by decide +kernel
theorem d_K_bestReference_21 : decode c_K_bestReference 21 = .ok (.ifCond .ne 7, 3) := by decide +kernel
theorem d_K_bestReference_24 : decode c_K_bestReference 24 = .ok (.iconst 0, 1) := by decide +kernel
theorem d_K_bestReference_25 : decode c_K_bestReference 25 = .ok (.goto 14, 3) := by decide +kernel
theorem d_K_bestReference_28 : decode c_K_bestReference 28 = .ok (.aload_n 0, 1) := by decide +kernel
theorem d_K_bestReference_29 : decode c_K_bestReference 29 = .ok (.getfield 24, 3) := by decide +kernel
theorem d_K_bestReference_32 : decode c_K_bestReference 32 = .ok (.getfield 54, 3) := by decide +kernel
theorem d_K_bestReference_35 : decode c_K_bestReference 35 = .ok (.iload_n 1, 1) := by decide +kernel
theorem d_K_bestReference_36 : decode c_K_bestReference 36 = .ok (.invokestatic 57, 3) := by decide +kernel
theorem d_K_bestReference_39 : decode c_K_bestReference 39 = .ok (.istore 5, 2) := by decide +kernel
theorem d_K_bestReference_41 : decode c_K_bestReference 41 = .ok (.iconst 0, 1) := by decide +kernel
theorem d_K_bestReference_42 : decode c_K_bestReference 42 = .ok (.istore 6, 2) := by decide +kernel
theorem d_K_bestReference_44 : decode c_K_bestReference 44 = .ok (.iload 6, 2) := by decide +kernel
theorem d_K_bestReference_46 : decode c_K_bestReference 46 = .ok (.iload 5, 2) := by decide +kernel
theorem d_K_bestReference_48 : decode c_K_bestReference 48 = .ok (.if_icmp .gt 68, 3) := by decide +kernel
theorem d_K_bestReference_51 : decode c_K_bestReference 51 = .ok (.iload 6, 2) := by decide +kernel
theorem d_K_bestReference_53 : decode c_K_bestReference 53 = .ok (.ifCond .eq 14, 3) := by decide +kernel
theorem d_K_bestReference_56 : decode c_K_bestReference 56 = .ok (.aload_n 0, 1) := by decide +kernel
theorem d_K_bestReference_57 : decode c_K_bestReference 57 = .ok (.iload_n 1, 1) := by decide +kernel
theorem d_K_bestReference_58 : decode c_K_bestReference 58 = .ok (.iload 6, 2) := by decide +kernel
theorem d_K_bestReference_60 : decode c_K_bestReference 60 = .ok (.isub, 1) := by decide +kernel
theorem d_K_bestReference_61 : decode c_K_bestReference 61 = .ok (.invokevirtual 63, 3) := by decide +kernel
theorem d_K_bestReference_64 : decode c_K_bestReference 64 = .ok (.ifCond .eq 46, 3) := by decide +kernel
theorem d_K_bestReference_67 : decode c_K_bestReference 67 = .ok (.aload_n 0, 1) := by decide +kernel
theorem d_K_bestReference_68 : decode c_K_bestReference 68 = .ok (.iload_n 1, 1) := by decide +kernel
theorem d_K_bestReference_69 : decode c_K_bestReference 69 = .ok (.iload 6, 2) := by decide +kernel
theorem d_K_bestReference_71 : decode c_K_bestReference 71 = .ok (.invokevirtual 50, 3) := by decide +kernel
theorem d_K_bestReference_74 : decode c_K_bestReference 74 = .ok (.aload_n 0, 1) := by decide +kernel
theorem d_K_bestReference_75 : decode c_K_bestReference 75 = .ok (.getfield 28, 3) := by decide +kernel
theorem d_K_bestReference_78 : decode c_K_bestReference 78 = .ok (.getfield 35, 3) := by decide +kernel
theorem d_K_bestReference_81 : decode c_K_bestReference 81 = .ok (.iload_n 2, 1) := by decide +kernel
theorem d_K_bestReference_82 : decode c_K_bestReference 82 = .ok (.isub, 1) := by decide +kernel
theorem d_K_bestReference_83 : decode c_K_bestReference 83 = .ok (.iload 4, 2) := by decide +kernel
theorem d_K_bestReference_85 : decode c_K_bestReference 85 = .ok (.if_icmp .ge 17, 3) := by decide +kernel
theorem d_K_bestReference_88 : decode c_K_bestReference 88 = .ok (.aload_n 0, 1) := by decide +kernel
theorem d_K_bestReference_89 : decode c_K_bestReference 89 = .ok (.getfield 28, 3) := by decide +kernel
theorem d_K_bestReference_92 : decode c_K_bestReference 92 = .ok (.getfield 35, 3) := by decide +kernel
theorem d_K_bestReference_95 : decode c_K_bestReference 95 = .ok (.iload_n 2, 1) := by decide +kernel
theorem d_K_bestReference_96 : decode c_K_bestReference 96 = .ok (.isub, 1) := by decide +kernel
theorem d_K_bestReference_97 : decode c_K_bestReference 97 = .ok (.istore 4, 2) := by decide +kernel
theorem d_K_bestReference_99 : decode c_K_bestReference 99 = .ok (.iload 6, 2) := by decide +kernel
theorem d_K_bestReference_101 : decode c_K_bestReference 101 = .ok (.istore_n 3, 1) := by decide +kernel
theorem d_K_bestReference_102 : decode c_K_bestReference 102 = .ok (.aload_n 0, 1) := by decide +kernel
theorem d_K_bestReference_103 : decode c_K_bestReference 103 = .ok (.getfield 28, 3) := by decide +kernel
theorem d_K_bestReference_106 : decode c_K_bestReference 106 = .ok (.iload_n 2, 1) := by decide +kernel
theorem d_K_bestReference_107 : decode c_K_bestReference 107 = .ok (.putfield 35, 3) := by decide +kernel
theorem d_K_bestReference_110 : decode c_K_bestReference 110 = .ok (.iinc 6 1, 3) := by decide +kernel
theorem d_K_bestReference_113 : decode c_K_bestReference 113 = .ok (.goto (-69), 3) := by decide +kernel
theorem d_K_bestReference_116 : decode c_K_bestReference 116 = .ok (.iload_n 3, 1) := by decide +kernel
theorem d_K_bestReference_117 : decode c_K_bestReference 117 = .ok (.ireturn, 1) := by decide +kernel
theorem d_K_mayBeReferredTo_0 : decode c_K_mayBeReferredTo 0 = .ok (.aload_n 0, 1) := by decide +kernel
theorem d_K_mayBeReferredTo_1 : decode c_K_mayBeReferredTo 1 = .ok (.getfield 21, 3) := by decide +kernel
theorem d_K_mayBeReferredTo_4 : decode c_K_mayBeReferredTo 4 = .ok (.iload_n 1, 1) := by decide +kernel
theorem d_K_mayBeReferredTo_5 : decode c_K_mayBeReferredTo 5 = .ok (.iaload, 1) := by decide +kernel
theorem d_K_mayBeReferredTo_6 : decode c_K_mayBeReferredTo 6 = .ok (.ifCond .eq 23, 3) := by decide +kernel
theorem d_K_mayBeReferredTo_9 : decode c_K_mayBeReferredTo 9 = .ok (.aload_n 0, 1) := by decide +kernel
theorem d_K_mayBeReferredTo_10 : decode c_K_mayBeReferredTo 10 = .ok (.getfield 32, 3) := by decide +kernel
theorem d_K_mayBeReferredTo_13 : decode c_K_mayBeReferredTo 13 = .ok (.iload_n 1, 1) := by decide +kernel
theorem d_K_mayBeReferredTo_14 : decode c_K_mayBeReferredTo 14 = .ok (.iaload, 1) := by decide +kernel
theorem d_K_mayBeReferredTo_15 : decode c_K_mayBeReferredTo 15 = .ok (.aload_n 0, 1) := by decide +kernel
theorem d_K_mayBeReferredTo_16 : decode c_K_mayBeReferredTo 16 = .ok (.getfield 24, 3) := by decide +kernel
theorem d_K_mayBeReferredTo_19 : decode c_K_mayBeReferredTo 19 = .ok (.getfield 67, 3) := by decide +kernel
theorem d_K_mayBeReferredTo_22 : decode c_K_mayBeReferredTo 22 = .ok (.if_icmp .ge 7, 3) := by decide +kernel
theorem d_K_mayBeReferredTo_25 : decode c_K_mayBeReferredTo 25 = .ok (.iconst 1, 1) := by decide +kernel
theorem d_K_mayBeReferredTo_26 : decode c_K_mayBeReferredTo 26 = .ok (.goto 4, 3) := by decide +kernel
theorem d_K_mayBeReferredTo_29 : decode c_K_mayBeReferredTo 29 = .ok (.iconst 0, 1) := by decide +kernel
theorem d_K_mayBeReferredTo_30 : decode c_K_mayBeReferredTo 30 = .ok (.ireturn, 1) := by decide +kernel
theorem d_K_writeRecord_0 : decode c_K_writeRecord 0 = .ok (.aload_n 0, 1) := by decide +kernel
theorem d_K_writeRecord_1 : decode c_K_writeRecord 1 = .ok (.getfield 21, 3) := by decide +kernel
theorem d_K_writeRecord_4 : decode c_K_writeRecord 4 = .ok (.iload_n 1, 1) := by decide +kernel
theorem d_K_writeRecord_5 : decode c_K_writeRecord 5 = .ok (.iaload, 1) := by decide +kernel
theorem d_K_writeRecord_6 : decode c_K_writeRecord 6 = .ok (.istore_n 3, 1) := by decide +kernel
theorem d_K_writeRecord_7 : decode c_K_writeRecord 7 = .ok (.aload_n 0, 1) := by decide +kernel
theorem d_K_writeRecord_8 : decode c_K_writeRecord 8 = .ok (.getfield 28, 3) := by decide +kernel
theorem d_K_writeRecord_11 : decode c_K_writeRecord 11 = .ok (.iload_n 3, 1) := by decide +kernel
theorem d_K_writeRecord_12 : decode c_K_writeRecord 12 = .ok (.invokestatic 70, 3) := by decide +kernel
theorem d_K_writeRecord_15 : decode c_K_writeRecord 15 = .ok (.invokevirtual 75, 3) := by decide +kernel
theorem d_K_writeRecord_18 : decode c_K_writeRecord 18 = .ok (.iload_n 3, 1) := by decide +kernel
theorem d_K_writeRecord_19 : decode c_K_writeRecord 19 = .ok (.ifCond .eq 21, 3) := by decide +kernel
theorem d_K_writeRecord_22 : decode c_K_writeRecord 22 = .ok (.aload_n 0, 1) := by decide +kernel
theorem d_K_writeRecord_23 : decode c_K_writeRecord 23 = .ok (.getfield 24, 3) := by decide +kernel
theorem d_K_writeRecord_26 : decode c_K_writeRecord 26 = .ok (.getfield 54, 3) := by decide +kernel
theorem d_K_writeRecord_29 : decode c_K_writeRecord 29 = .ok (.ifCond .le 11, 3) := by decide +kernel
theorem d_K_writeRecord_32 : decode c_K_writeRecord 32 = .ok (.aload_n 0, 1) := by decide +kernel
theorem d_K_writeRecord_33 : decode c_K_writeRecord 33 = .ok (.getfield 28, 3) := by decide +kernel
theorem d_K_writeRecord_36 : decode c_K_writeRecord 36 = .ok (.iload_n 2, 1) := by decide +kernel
theorem d_K_writeRecord_37 : decode c_K_writeRecord 37 = .ok (.invokevirtual 79, 3) := by decide +kernel
theorem d_K_writeRecord_40 : decode c_K_writeRecord 40 = .ok (.iload_n 2, 1) := by decide +kernel
theorem d_K_writeRecord_41 : decode c_K_writeRecord 41 = .ok (.ifCond .le 29, 3) := by decide +kernel
theorem d_K_writeRecord_44 : decode c_K_writeRecord 44 = .ok (.aload_n 0, 1) := by decide +kernel
theorem d_K_writeRecord_45 : decode c_K_writeRecord 45 = .ok (.iload_n 3, 1) := by decide +kernel
theorem d_K_writeRecord_46 : decode c_K_writeRecord 46 = .ok (.aload_n 0, 1) := by decide +kernel
theorem d_K_writeRecord_47 : decode c_K_writeRecord 47 = .ok (.getfield 21, 3) := by decide +kernel
theorem d_K_writeRecord_50 : decode c_K_writeRecord 50 = .ok (.iload_n 1, 1) := by decide +kernel
theorem d_K_writeRecord_51 : decode c_K_writeRecord 51 = .ok (.iload_n 2, 1) := by decide +kernel
theorem d_K_writeRecord_52 : decode c_K_writeRecord 52 = .ok (.isub, 1) := by decide +kernel
theorem d_K_writeRecord_53 : decode c_K_writeRecord 53 = .ok (.iaload, 1) := by decide +kernel
theorem d_K_writeRecord_54 : decode c_K_writeRecord 54 = .ok (.invokevirtual 82, 3) := by decide +kernel
theorem d_K_writeRecord_57 : decode c_K_writeRecord 57 = .ok (.iload_n 3, 1) := by decide +kernel
theorem d_K_writeRecord_58 : decode c_K_writeRecord 58 = .ok (.aload_n 0, 1) := by decide +kernel
theorem d_K_writeRecord_59 : decode c_K_writeRecord 59 = .ok (.getfield 21, 3) := by decide +kernel
theorem d_K_writeRecord_62 : decode c_K_writeRecord 62 = .ok (.iload_n 1, 1) := by decide +kernel
theorem d_K_writeRecord_63 : decode c_K_writeRecord 63 = .ok (.iload_n 2, 1) := by decide +kernel
theorem d_K_writeRecord_64 : decode c_K_writeRecord 64 = .ok (.isub, 1) := by decide +kernel
theorem d_K_writeRecord_65 : decode c_K_writeRecord 65 = .ok (.iaload, 1) := by decide +kernel
theorem d_K_writeRecord_66 : decode c_K_writeRecord 66 = .ok (.iconst (-1), 1) := by decide +kernel
theorem d_K_writeRecord_67 : decode c_K_writeRecord 67 = .ok (.ixor, 1) := by decide +kernel
theorem d_K_writeRecord_68 : decode c_K_writeRecord 68 = .ok (.iand, 1) := by decide +kernel
theorem d_K_writeRecord_69 : decode c_K_writeRecord 69 = .ok (.istore_n 3, 1) := by decide +kernel
theorem d_K_writeRecord_70 : decode c_K_writeRecord 70 = .ok (.iload_n 3, 1) := by decide +kernel
theorem d_K_writeRecord_71 : decode c_K_writeRecord 71 = .ok (.ifCond .eq 20, 3) := by decide +kernel
theorem d_K_writeRecord_74 : decode c_K_writeRecord 74 = .ok (.aload_n 0, 1) := by decide +kernel
theorem d_K_writeRecord_75 : decode c_K_writeRecord 75 = .ok (.getfield 24, 3) := by decide +kernel
theorem d_K_writeRecord_78 : decode c_K_writeRecord 78 = .ok (.getfield 85, 3) := by decide +kernel
theorem d_K_writeRecord_81 : decode c_K_writeRecord 81 = .ok (.ifCond .le 10, 3) := by decide +kernel
theorem d_K_writeRecord_84 : decode c_K_writeRecord 84 = .ok (.aload_n 0, 1) := by decide +kernel
theorem d_K_writeRecord_85 : decode c_K_writeRecord 85 = .ok (.iload_n 1, 1) := by decide +kernel
theorem d_K_writeRecord_86 : decode c_K_writeRecord 86 = .ok (.iload_n 3, 1) := by decide +kernel
theorem d_K_writeRecord_87 : decode c_K_writeRecord 87 = .ok (.invokevirtual 88, 3) := by decide +kernel
theorem d_K_writeRecord_90 : decode c_K_writeRecord 90 = .ok (.istore_n 3, 1) := by decide +kernel
theorem d_K_writeRecord_91 : decode c_K_writeRecord 91 = .ok (.aload_n 0, 1) := by decide +kernel
theorem d_K_writeRecord_92 : decode c_K_writeRecord 92 = .ok (.iload_n 1, 1) := by decide +kernel
theorem d_K_writeRecord_93 : decode c_K_writeRecord 93 = .ok (.iload_n 3, 1) := by decide +kernel
theorem d_K_writeRecord_94 : decode c_K_writeRecord 94 = .ok (.invokevirtual 91, 3) := by decide +kernel
theorem d_K_writeRecord_97 : decode c_K_writeRecord 97 = .ok (.return_, 1) := by decide +kernel
theorem d_K_writeRuns_0 : decode c_K_writeRuns 0 = .ok (.iconst 0, 1) := by decide +kernel
theorem d_K_writeRuns_1 : decode c_K_writeRuns 1 = .ok (.istore_n 3, 1) := by decide +kernel
theorem d_K_writeRuns_2 : decode c_K_writeRuns 2 = .ok (.iconst 1, 1) := by decide +kernel
theorem d_K_writeRuns_3 : decode c_K_writeRuns 3 = .ok (.istore 4, 2) := by decide +kernel
theorem d_K_writeRuns_5 : decode c_K_writeRuns 5 = .ok (.aload_n 0, 1) := by decide +kernel
theorem d_K_writeRuns_6 : decode c_K_writeRuns 6 = .ok (.getfield 9, 3) := by decide +kernel
theorem d_K_writeRuns_9 : decode c_K_writeRuns 9 = .ok (.iconst 0, 1) := by decide +kernel
theorem d_K_writeRuns_10 : decode c_K_writeRuns 10 = .ok (.iconst 0, 1) := by decide +kernel
theorem d_K_writeRuns_11 : decode c_K_writeRuns 11 = .ok (.iastore, 1) := by decide +kernel
theorem d_K_writeRuns_12 : decode c_K_writeRuns 12 = .ok (.iconst 0, 1) := by decide +kernel
theorem d_K_writeRuns_13 : decode c_K_writeRuns 13 = .ok (.istore 5, 2) := by decide +kernel
theorem d_K_writeRuns_15 : decode c_K_writeRuns 15 = .ok (.iload 5, 2) := by decide +kernel
theorem d_K_writeRuns_17 : decode c_K_writeRuns 17 = .ok (.aload_n 0, 1) := by decide +kernel
theorem d_K_writeRuns_18 : decode c_K_writeRuns 18 = .ok (.getfield 21, 3) := by decide +kernel
theorem d_K_writeRuns_21 : decode c_K_writeRuns 21 = .ok (.arraylength, 1) := by decide +kernel
theorem d_K_writeRuns_22 : decode c_K_writeRuns 22 = .ok (.if_icmp .ge 61, 3) := by decide +kernel
theorem d_K_writeRuns_25 : decode c_K_writeRuns 25 = .ok (.iload_n 2, 1) := by decide +kernel
theorem d_K_writeRuns_26 : decode c_K_writeRuns 26 = .ok (.iload 5, 2) := by decide +kernel
theorem d_K_writeRuns_28 : decode c_K_writeRuns 28 = .ok (.invokestatic 94, 3) := by decide +kernel
theorem d_K_writeRuns_31 : decode c_K_writeRuns 31 = .ok (.ifCond .eq 46, 3) := by decide +kernel
theorem d_K_writeRuns_34 : decode c_K_writeRuns 34 = .ok (.iload_n 1, 1) := by decide +kernel
theorem d_K_writeRuns_35 : decode c_K_writeRuns 35 = .ok (.iload 5, 2) := by decide +kernel
theorem d_K_writeRuns_37 : decode c_K_writeRuns 37 = .ok (.invokestatic 94, 3) := by decide +kernel
theorem d_K_writeRuns_40 : decode c_K_writeRuns 40 = .ok (.iload 4, 2) := by decide +kernel
theorem d_K_writeRuns_42 : decode c_K_writeRuns 42 = .ok (.if_icmp .eq 25, 3) := by decide +kernel
theorem d_K_writeRuns_45 : decode c_K_writeRuns 45 = .ok (.iload 4, 2) := by decide +kernel
theorem d_K_writeRuns_47 : decode c_K_writeRuns 47 = .ok (.ifCond .ne 7, 3) := by decide +kernel
theorem d_K_writeRuns_50 : decode c_K_writeRuns 50 = .ok (.iconst 1, 1) := by decide +kernel
theorem d_K_writeRuns_51 : decode c_K_writeRuns 51 = .ok (.goto 4, 3) := by decide +kernel
theorem d_K_writeRuns_54 : decode c_K_writeRuns 54 = .ok (.iconst 0, 1) := by decide +kernel
theorem d_K_writeRuns_55 : decode c_K_writeRuns 55 = .ok (.istore 4, 2) := by decide +kernel
theorem d_K_writeRuns_57 : decode c_K_writeRuns 57 = .ok (.iinc 3 1, 3) := by decide +kernel
theorem d_K_writeRuns_60 : decode c_K_writeRuns 60 = .ok (.aload_n 0, 1) := by decide +kernel
theorem d_K_writeRuns_61 : decode c_K_writeRuns 61 = .ok (.getfield 9, 3) := by decide +kernel
theorem d_K_writeRuns_64 : decode c_K_writeRuns 64 = .ok (.iload_n 3, 1) := by decide +kernel
theorem d_K_writeRuns_65 : decode c_K_writeRuns 65 = .ok (.iconst 0, 1) := by decide +kernel
theorem d_K_writeRuns_66 : decode c_K_writeRuns 66 = .ok (.iastore, 1) := by decide +kernel
theorem d_K_writeRuns_67 : decode c_K_writeRuns 67 = .ok (.aload_n 0, 1) := by decide +kernel
theorem d_K_writeRuns_68 : decode c_K_writeRuns 68 = .ok (.getfield 9, 3) := by decide +kernel
theorem d_K_writeRuns_71 : decode c_K_writeRuns 71 = .ok (.iload_n 3, 1) := by decide +kernel
theorem d_K_writeRuns_72 : decode c_K_writeRuns 72 = .ok (.dup2, 1) := by decide +kernel
theorem d_K_writeRuns_73 : decode c_K_writeRuns 73 = .ok (.iaload, 1) := by decide +kernel
theorem d_K_writeRuns_74 : decode c_K_writeRuns 74 = .ok (.iconst 1, 1) := by decide +kernel
theorem d_K_writeRuns_75 : decode c_K_writeRuns 75 = .ok (.iadd, 1) := by decide +kernel
theorem d_K_writeRuns_76 : decode c_K_writeRuns 76 = .ok (.iastore, 1) := by decide +kernel
theorem d_K_writeRuns_77 : decode c_K_writeRuns 77 = .ok (.iinc 5 1, 3) := by decide +kernel
theorem d_K_writeRuns_80 : decode c_K_writeRuns 80 = .ok (.goto (-65), 3) := by decide +kernel
theorem d_K_writeRuns_83 : decode c_K_writeRuns 83 = .ok (.aload_n 0, 1) := by decide +kernel
theorem d_K_writeRuns_84 : decode c_K_writeRuns 84 = .ok (.getfield 28, 3) := by decide +kernel
theorem d_K_writeRuns_87 : decode c_K_writeRuns 87 = .ok (.iload_n 3, 1) := by decide +kernel
theorem d_K_writeRuns_88 : decode c_K_writeRuns 88 = .ok (.invokevirtual 75, 3) := by decide +kernel
theorem d_K_writeRuns_91 : decode c_K_writeRuns 91 = .ok (.iconst 0, 1) := by decide +kernel
theorem d_K_writeRuns_92 : decode c_K_writeRuns 92 = .ok (.istore 5, 2) := by decide +kernel
theorem d_K_writeRuns_94 : decode c_K_writeRuns 94 = .ok (.iload 5, 2) := by decide +kernel
theorem d_K_writeRuns_96 : decode c_K_writeRuns 96 = .ok (.iload_n 3, 1) := by decide +kernel
theorem d_K_writeRuns_97 : decode c_K_writeRuns 97 = .ok (.if_icmp .ge 40, 3) := by decide +kernel
theorem d_K_writeRuns_100 : decode c_K_writeRuns 100 = .ok (.aload_n 0, 1) := by decide +kernel
theorem d_K_writeRuns_101 : decode c_K_writeRuns 101 = .ok (.getfield 28, 3) := by decide +kernel
theorem d_K_writeRuns_104 : decode c_K_writeRuns 104 = .ok (.iload 5, 2) := by decide +kernel
theorem d_K_writeRuns_106 : decode c_K_writeRuns 106 = .ok (.ifCond .ne 13, 3) := by decide +kernel
theorem d_K_writeRuns_109 : decode c_K_writeRuns 109 = .ok (.aload_n 0, 1) := by decide +kernel
theorem d_K_writeRuns_110 : decode c_K_writeRuns 110 = .ok (.getfield 9, 3) := by decide +kernel
theorem d_K_writeRuns_113 : decode c_K_writeRuns 113 = .ok (.iload 5, 2) := by decide +kernel
theorem d_K_writeRuns_115 : decode c_K_writeRuns 115 = .ok (.iaload, 1) := by decide +kernel
theorem d_K_writeRuns_116 : decode c_K_writeRuns 116 = .ok (.goto 12, 3) := by decide +kernel
theorem d_K_writeRuns_119 : decode c_K_writeRuns 119 = .ok (.aload_n 0, 1) := by decide +kernel
theorem d_K_writeRuns_120 : decode c_K_writeRuns 120 = .ok (.getfield 9, 3) := by decide +kernel
theorem d_K_writeRuns_123 : decode c_K_writeRuns 123 = .ok (.iload 5, 2) := by decide +kernel
theorem d_K_writeRuns_125 : decode c_K_writeRuns 125 = .ok (.iaload, 1) := by decide +kernel
theorem d_K_writeRuns_126 : decode c_K_writeRuns 126 = .ok (.iconst 1, 1) := by decide +kernel
theorem d_K_writeRuns_127 : decode c_K_writeRuns 127 = .ok (.isub, 1) := by decide +kernel
theorem d_K_writeRuns_128 : decode c_K_writeRuns 128 = .ok (.invokevirtual 75, 3) := by decide +kernel
theorem d_K_writeRuns_131 : decode c_K_writeRuns 131 = .ok (.iinc 5 1, 3) := by decide +kernel
theorem d_K_writeRuns_134 : decode c_K_writeRuns 134 = .ok (.goto (-40), 3) := by decide +kernel
theorem d_K_writeRuns_137 : decode c_K_writeRuns 137 = .ok (.return_, 1) := by decide +kernel
theorem d_K_writeIntervals_0 : decode c_K_writeIntervals 0 = .ok (.iconst 0, 1) := by decide +kernel
theorem d_K_writeIntervals_1 : decode c_K_writeIntervals 1 = .ok (.istore_n 3, 1) := by decide +kernel
theorem d_K_writeIntervals_2 : decode c_K_writeIntervals 2 = .ok (.iload_n 2, 1) := by decide +kernel
theorem d_K_writeIntervals_3 : decode c_K_writeIntervals 3 = .ok (.istore 4, 2) := by decide +kernel
theorem d_K_writeIntervals_5 : decode c_K_writeIntervals 5 = .ok (.iconst 0, 1) := by decide +kernel
theorem d_K_writeIntervals_6 : decode c_K_writeIntervals 6 = .ok (.istore 5, 2) := by decide +kernel
theorem d_K_writeIntervals_8 : decode c_K_writeIntervals 8 = .ok (.iload 5, 2) := by decide +kernel
theorem d_K_writeIntervals_10 : decode c_K_writeIntervals 10 = .ok (.aload_n 0, 1) := by decide +kernel
theorem d_K_writeIntervals_11 : decode c_K_writeIntervals 11 = .ok (.getfield 21, 3) := by decide +kernel
theorem d_K_writeIntervals_14 : decode c_K_writeIntervals 14 = .ok (.arraylength, 1) := by decide +kernel
theorem d_K_writeIntervals_15 : decode c_K_writeIntervals 15 = .ok (.if_icmp .ge 76, 3) := by decide +kernel
theorem d_K_writeIntervals_18 : decode c_K_writeIntervals 18 = .ok (.aload_n 0, 1) := by decide +kernel
theorem d_K_writeIntervals_19 : decode c_K_writeIntervals 19 = .ok (.iload_n 2, 1) := by decide +kernel
theorem d_K_writeIntervals_20 : decode c_K_writeIntervals 20 = .ok (.iload 5, 2) := by decide +kernel
theorem d_K_writeIntervals_22 : decode c_K_writeIntervals 22 = .ok (.invokevirtual 98, 3) := by decide +kernel
theorem d_K_writeIntervals_25 : decode c_K_writeIntervals 25 = .ok (.istore 6, 2) := by decide +kernel
theorem d_K_writeIntervals_27 : decode c_K_writeIntervals 27 = .ok (.iload 6, 2) := by decide +kernel
theorem d_K_writeIntervals_29 : decode c_K_writeIntervals 29 = .ok (.aload_n 0, 1) := by decide +kernel
theorem d_K_writeIntervals_30 : decode c_K_writeIntervals 30 = .ok (.getfield 24, 3) := by decide +kernel
theorem d_K_writeIntervals_33 : decode c_K_writeIntervals 33 = .ok (.getfield 85, 3) := by decide +kernel
theorem d_K_writeIntervals_36 : decode c_K_writeIntervals 36 = .ok (.if_icmp .lt 38, 3) := by decide +kernel
theorem d_K_writeIntervals_39 : decode c_K_writeIntervals 39 = .ok (.aload_n 0, 1) := by decide +kernel
theorem d_K_writeIntervals_40 : decode c_K_writeIntervals 40 = .ok (.getfield 15, 3) := by decide +kernel
theorem d_K_writeIntervals_43 : decode c_K_writeIntervals 43 = .ok (.iload_n 3, 1) := by decide +kernel
theorem d_K_writeIntervals_44 : decode c_K_writeIntervals 44 = .ok (.iload 5, 2) := by decide +kernel
theorem d_K_writeIntervals_46 : decode c_K_writeIntervals 46 = .ok (.iastore, 1) := by decide +kernel
theorem d_K_writeIntervals_47 : decode c_K_writeIntervals 47 = .ok (.aload_n 0, 1) := by decide +kernel
theorem d_K_writeIntervals_48 : decode c_K_writeIntervals 48 = .ok (.getfield 18, 3) := by decide +kernel
theorem d_K_writeIntervals_51 : decode c_K_writeIntervals 51 = .ok (.iload_n 3, 1) := by decide +kernel
theorem d_K_writeIntervals_52 : decode c_K_writeIntervals 52 = .ok (.iload 6, 2) := by decide +kernel
theorem d_K_writeIntervals_54 : decode c_K_writeIntervals 54 = .ok (.iastore, 1) := by decide +kernel
theorem d_K_writeIntervals_55 : decode c_K_writeIntervals 55 = .ok (.iinc 3 1, 3) := by decide +kernel
theorem d_K_writeIntervals_58 : decode c_K_writeIntervals 58 = .ok (.iload 4, 2) := by decide +kernel
theorem d_K_writeIntervals_60 : decode c_K_writeIntervals 60 = .ok (.iconst 1, 1) := by decide +kernel
theorem d_K_writeIntervals_61 : decode c_K_writeIntervals 61 = .ok (.iload 6, 2) := by decide +kernel
theorem d_K_writeIntervals_63 : decode c_K_writeIntervals 63 = .ok (.ishl, 1) := by decide +kernel
theorem d_K_writeIntervals_64 : decode c_K_writeIntervals 64 = .ok (.iconst 1, 1) := by decide +kernel
theorem d_K_writeIntervals_65 : decode c_K_writeIntervals 65 = .ok (.isub, 1) := by decide +kernel
theorem d_K_writeIntervals_66 : decode c_K_writeIntervals 66 = .ok (.iload 5, 2) := by decide +kernel
theorem d_K_writeIntervals_68 : decode c_K_writeIntervals 68 = .ok (.ishl, 1) := by decide +kernel
theorem d_K_writeIntervals_69 : decode c_K_writeIntervals 69 = .ok (.iconst (-1), 1) := by decide +kernel
theorem d_K_writeIntervals_70 : decode c_K_writeIntervals 70 = .ok (.ixor, 1) := by decide +kernel
theorem d_K_writeIntervals_71 : decode c_K_writeIntervals 71 = .ok (.iand, 1) := by decide +kernel
theorem d_K_writeIntervals_72 : decode c_K_writeIntervals 72 = .ok (.istore 4, 2) := by decide +kernel
theorem d_K_writeIntervals_74 : decode c_K_writeIntervals 74 = .ok (.iload 5, 2) := by decide +kernel
theorem d_K_writeIntervals_76 : decode c_K_writeIntervals 76 = .ok (.aload_n 0, 1) := by decide +kernel
theorem d_K_writeIntervals_77 : decode c_K_writeIntervals 77 = .ok (.iload_n 2, 1) := by decide +kernel
theorem d_K_writeIntervals_78 : decode c_K_writeIntervals 78 = .ok (.iload 5, 2) := by decide +kernel
theorem d_K_writeIntervals_80 : decode c_K_writeIntervals 80 = .ok (.invokevirtual 98, 3) := by decide +kernel
theorem d_K_writeIntervals_83 : decode c_K_writeIntervals 83 = .ok (.iconst 1, 1) := by decide +kernel
theorem d_K_writeIntervals_84 : decode c_K_writeIntervals 84 = .ok (.iadd, 1) := by decide +kernel
theorem d_K_writeIntervals_85 : decode c_K_writeIntervals 85 = .ok (.iadd, 1) := by decide +kernel
theorem d_K_writeIntervals_86 : decode c_K_writeIntervals 86 = .ok (.istore 5, 2) := by decide +kernel
theorem d_K_writeIntervals_88 : decode c_K_writeIntervals 88 = .ok (.goto (-80), 3) := by decide +kernel
theorem d_K_writeIntervals_91 : decode c_K_writeIntervals 91 = .ok (.aload_n 0, 1) := by decide +kernel
theorem d_K_writeIntervals_92 : decode c_K_writeIntervals 92 = .ok (.getfield 28, 3) := by decide +kernel
theorem d_K_writeIntervals_95 : decode c_K_writeIntervals 95 = .ok (.iload_n 3, 1) := by decide +kernel
theorem d_K_writeIntervals_96 : decode c_K_writeIntervals 96 = .ok (.invokevirtual 75, 3) := by decide +kernel
theorem d_K_writeIntervals_99 : decode c_K_writeIntervals 99 = .ok (.iconst 0, 1) := by decide +kernel
theorem d_K_writeIntervals_100 : decode c_K_writeIntervals 100 = .ok (.istore 5, 2) := by decide +kernel
theorem d_K_writeIntervals_102 : decode c_K_writeIntervals 102 = .ok (.iconst 0, 1) := by decide +kernel
theorem d_K_writeIntervals_103 : decode c_K_writeIntervals 103 = .ok (.istore 6, 2) := by decide +kernel
theorem d_K_writeIntervals_105 : decode c_K_writeIntervals 105 = .ok (.iload 6, 2) := by decide +kernel
theorem d_K_writeIntervals_107 : decode c_K_writeIntervals 107 = .ok (.iload_n 3, 1) := by decide +kernel
theorem d_K_writeIntervals_108 : decode c_K_writeIntervals 108 = .ok (.if_icmp .ge 89, 3) := by decide +kernel
theorem d_K_writeIntervals_111 : decode c_K_writeIntervals 111 = .ok (.aload_n 0, 1) := by decide +kernel
theorem d_K_writeIntervals_112 : decode c_K_writeIntervals 112 = .ok (.getfield 28, 3) := by decide +kernel
theorem d_K_writeIntervals_115 : decode c_K_writeIntervals 115 = .ok (.iload 6, 2) := by decide +kernel
theorem d_K_writeIntervals_117 : decode c_K_writeIntervals 117 = .ok (.ifCond .ne 18, 3) := by decide +kernel
theorem d_K_writeIntervals_120 : decode c_K_writeIntervals 120 = .ok (.aload_n 0, 1) := by decide +kernel
theorem d_K_writeIntervals_121 : decode c_K_writeIntervals 121 = .ok (.getfield 15, 3) := by decide +kernel
theorem d_K_writeIntervals_124 : decode c_K_writeIntervals 124 = .ok (.iload 6, 2) := by decide +kernel
theorem d_K_writeIntervals_126 : decode c_K_writeIntervals 126 = .ok (.iaload, 1) := by decide +kernel
theorem d_K_writeIntervals_127 : decode c_K_writeIntervals 127 = .ok (.iload_n 1, 1) := by decide +kernel
theorem d_K_writeIntervals_128 : decode c_K_writeIntervals 128 = .ok (.isub, 1) := by decide +kernel
theorem d_K_writeIntervals_129 : decode c_K_writeIntervals 129 = .ok (.invokestatic 101, 3) := by decide +kernel
theorem d_K_writeIntervals_132 : decode c_K_writeIntervals 132 = .ok (.goto 15, 3) := by decide +kernel
theorem d_K_writeIntervals_135 : decode c_K_writeIntervals 135 = .ok (.aload_n 0, 1) := by decide +kernel
theorem d_K_writeIntervals_136 : decode c_K_writeIntervals 136 = .ok (.getfield 15, 3) := by decide +kernel
theorem d_K_writeIntervals_139 : decode c_K_writeIntervals 139 = .ok (.iload 6, 2) := by decide +kernel
theorem d_K_writeIntervals_141 : decode c_K_writeIntervals 141 = .ok (.iaload, 1) := by decide +kernel
theorem d_K_writeIntervals_142 : decode c_K_writeIntervals 142 = .ok (.iload 5, 2) := by decide +kernel
theorem d_K_writeIntervals_144 : decode c_K_writeIntervals 144 = .ok (.isub, 1) := by decide +kernel
theorem d_K_writeIntervals_145 : decode c_K_writeIntervals 145 = .ok (.iconst 2, 1) := by decide +kernel
theorem d_K_writeIntervals_146 : decode c_K_writeIntervals 146 = .ok (.isub, 1) := by decide +kernel
theorem d_K_writeIntervals_147 : decode c_K_writeIntervals 147 = .ok (.invokevirtual 75, 3) := by decide +kernel
theorem d_K_writeIntervals_150 : decode c_K_writeIntervals 150 = .ok (.aload_n 0, 1) := by decide +kernel
theorem d_K_writeIntervals_151 : decode c_K_writeIntervals 151 = .ok (.getfield 28, 3) := by decide +kernel
theorem d_K_writeIntervals_154 : decode c_K_writeIntervals 154 = .ok (.aload_n 0, 1) := by decide +kernel
theorem d_K_writeIntervals_155 : decode c_K_writeIntervals 155 = .ok (.getfield 18, 3) := by decide +kernel
theorem d_K_writeIntervals_158 : decode c_K_writeIntervals 158 = .ok (.iload 6, 2) := by decide +kernel
theorem d_K_writeIntervals_160 : decode c_K_writeIntervals 160 = .ok (.iaload, 1) := by decide +kernel
theorem d_K_writeIntervals_161 : decode c_K_writeIntervals 161 = .ok (.aload_n 0, 1) := by decide +kernel
theorem d_K_writeIntervals_162 : decode c_K_writeIntervals 162 = .ok (.getfield 24, 3) := by decide +kernel
theorem d_K_writeIntervals_165 : decode c_K_writeIntervals 165 = .ok (.getfield 85, 3) := by decide +kernel
theorem d_K_writeIntervals_168 : decode c_K_writeIntervals 168 = .ok (.isub, 1) := by decide +kernel
theorem d_K_writeIntervals_169 : decode c_K_writeIntervals 169 = .ok (.invokevirtual 75, 3) := by decide +kernel
theorem d_K_writeIntervals_172 : decode c_K_writeIntervals 172 = .ok (.aload_n 0, 1) := by decide +kernel
theorem d_K_writeIntervals_173 : decode c_K_writeIntervals 173 = .ok (.getfield 15, 3) := by decide +kernel
theorem d_K_writeIntervals_176 : decode c_K_writeIntervals 176 = .ok (.iload 6, 2) := by decide +kernel
theorem d_K_writeIntervals_178 : decode c_K_writeIntervals 178 = .ok (.iaload, 1) := by decide +kernel
theorem d_K_writeIntervals_179 : decode c_K_writeIntervals 179 = .ok (.aload_n 0, 1) := by decide +kernel
theorem d_K_writeIntervals_180 : decode c_K_writeIntervals 180 = .ok (.getfield 18, 3) := by decide +kernel
theorem d_K_writeIntervals_183 : decode c_K_writeIntervals 183 = .ok (.iload 6, 2) := by decide +kernel
theorem d_K_writeIntervals_185 : decode c_K_writeIntervals 185 = .ok (.iaload, 1) := by decide +kernel
theorem d_K_writeIntervals_186 : decode c_K_writeIntervals 186 = .ok (.iadd, 1) := by decide +kernel
theorem d_K_writeIntervals_187 : decode c_K_writeIntervals 187 = .ok (.iconst 1, 1) := by decide +kernel
theorem d_K_writeIntervals_188 : decode c_K_writeIntervals 188 = .ok (.isub, 1) := by decide +kernel
theorem d_K_writeIntervals_189 : decode c_K_writeIntervals 189 = .ok (.istore 5, 2) := by decide +kernel
theorem d_K_writeIntervals_191 : decode c_K_writeIntervals 191 = .ok (.iinc 6 1, 3) := by decide +kernel
theorem d_K_writeIntervals_194 : decode c_K_writeIntervals 194 = .ok (.goto (-89), 3) := by decide +kernel
theorem d_K_writeIntervals_197 : decode c_K_writeIntervals 197 = .ok (.iload 4, 2) := by decide +kernel
theorem d_K_writeIntervals_199 : decode c_K_writeIntervals 199 = .ok (.ireturn, 1) := by decide +kernel
theorem d_K_rowLength_0 : decode c_K_rowLength 0 = .ok (.iconst 0, 1) := by decide +kernel
theorem d_K_rowLength_1 : decode c_K_rowLength 1 = .ok (.istore_n 3, 1) := by decide +kernel
theorem d_K_rowLength_2 : decode c_K_rowLength 2 = .ok (.iload_n 2, 1) := by decide +kernel
theorem d_K_rowLength_3 : decode c_K_rowLength 3 = .ok (.iload_n 3, 1) := by decide +kernel
theorem d_K_rowLength_4 : decode c_K_rowLength 4 = .ok (.iadd, 1) := by decide +kernel
theorem d_K_rowLength_5 : decode c_K_rowLength 5 = .ok (.aload_n 0, 1) := by decide +kernel
theorem d_K_rowLength_6 : decode c_K_rowLength 6 = .ok (.getfield 21, 3) := by decide +kernel
theorem d_K_rowLength_9 : decode c_K_rowLength 9 = .ok (.arraylength, 1) := by decide +kernel
theorem d_K_rowLength_10 : decode c_K_rowLength 10 = .ok (.if_icmp .ge 19, 3) := by decide +kernel
theorem d_K_rowLength_13 : decode c_K_rowLength 13 = .ok (.iload_n 1, 1) := by decide +kernel
theorem d_K_rowLength_14 : decode c_K_rowLength 14 = .ok (.iload_n 2, 1) := by decide +kernel
theorem d_K_rowLength_15 : decode c_K_rowLength 15 = .ok (.iload_n 3, 1) := by decide +kernel
theorem d_K_rowLength_16 : decode c_K_rowLength 16 = .ok (.iadd, 1) := by decide +kernel
theorem d_K_rowLength_17 : decode c_K_rowLength 17 = .ok (.invokestatic 94, 3) := by decide +kernel
theorem d_K_rowLength_20 : decode c_K_rowLength 20 = .ok (.ifCond .eq 9, 3) := by decide +kernel
theorem d_K_rowLength_23 : decode c_K_rowLength 23 = .ok (.iinc 3 1, 3) := by decide +kernel
theorem d_K_rowLength_26 : decode c_K_rowLength 26 = .ok (.goto (-24), 3) := by decide +kernel
theorem d_K_rowLength_29 : decode c_K_rowLength 29 = .ok (.iload_n 3, 1) := by decide +kernel
theorem d_K_rowLength_30 : decode c_K_rowLength 30 = .ok (.ireturn, 1) := by decide +kernel
theorem d_K_writeSingles_0 : decode c_K_writeSingles 0 = .ok (.iconst (-1), 1) := by decide +kernel
theorem d_K_writeSingles_1 : decode c_K_writeSingles 1 = .ok (.istore_n 3, 1) := by decide +kernel
theorem d_K_writeSingles_2 : decode c_K_writeSingles 2 = .ok (.iconst 0, 1) := by decide +kernel
theorem d_K_writeSingles_3 : decode c_K_writeSingles 3 = .ok (.istore 4, 2) := by decide +kernel
theorem d_K_writeSingles_5 : decode c_K_writeSingles 5 = .ok (.iload 4, 2) := by decide +kernel
theorem d_K_writeSingles_7 : decode c_K_writeSingles 7 = .ok (.aload_n 0, 1) := by decide +kernel
theorem d_K_writeSingles_8 : decode c_K_writeSingles 8 = .ok (.getfield 21, 3) := by decide +kernel
theorem d_K_writeSingles_11 : decode c_K_writeSingles 11 = .ok (.arraylength, 1) := by decide +kernel
theorem d_K_writeSingles_12 : decode c_K_writeSingles 12 = .ok (.if_icmp .ge 55, 3) := by decide +kernel
theorem d_K_writeSingles_15 : decode c_K_writeSingles 15 = .ok (.iload_n 2, 1) := by decide +kernel
theorem d_K_writeSingles_16 : decode c_K_writeSingles 16 = .ok (.iload 4, 2) := by decide +kernel
theorem d_K_writeSingles_18 : decode c_K_writeSingles 18 = .ok (.invokestatic 94, 3) := by decide +kernel
theorem d_K_writeSingles_21 : decode c_K_writeSingles 21 = .ok (.ifCond .eq 40, 3) := by decide +kernel
theorem d_K_writeSingles_24 : decode c_K_writeSingles 24 = .ok (.aload_n 0, 1) := by decide +kernel
theorem d_K_writeSingles_25 : decode c_K_writeSingles 25 = .ok (.getfield 28, 3) := by decide +kernel
theorem d_K_writeSingles_28 : decode c_K_writeSingles 28 = .ok (.iload_n 3, 1) := by decide +kernel
theorem d_K_writeSingles_29 : decode c_K_writeSingles 29 = .ok (.ifCond .ge 13, 3) := by decide +kernel
theorem d_K_writeSingles_32 : decode c_K_writeSingles 32 = .ok (.iload 4, 2) := by decide +kernel
theorem d_K_writeSingles_34 : decode c_K_writeSingles 34 = .ok (.iload_n 1, 1) := by decide +kernel
theorem d_K_writeSingles_35 : decode c_K_writeSingles 35 = .ok (.isub, 1) := by decide +kernel
theorem d_K_writeSingles_36 : decode c_K_writeSingles 36 = .ok (.invokestatic 101, 3) := by decide +kernel
theorem d_K_writeSingles_39 : decode c_K_writeSingles 39 = .ok (.goto 9, 3) := by decide +kernel
theorem d_K_writeSingles_42 : decode c_K_writeSingles 42 = .ok (.iload 4, 2) := by decide +kernel
theorem d_K_writeSingles_44 : decode c_K_writeSingles 44 = .ok (.iload_n 3, 1) := by decide +kernel
theorem d_K_writeSingles_45 : decode c_K_writeSingles 45 = .ok (.isub, 1) := by decide +kernel
theorem d_K_writeSingles_46 : decode c_K_writeSingles 46 = .ok (.iconst 1, 1) := by decide +kernel
theorem d_K_writeSingles_47 : decode c_K_writeSingles 47 = .ok (.isub, 1) := by decide +kernel
theorem d_K_writeSingles_48 : decode c_K_writeSingles 48 = .ok (.aload_n 0, 1) := by decide +kernel
theorem d_K_writeSingles_49 : decode c_K_writeSingles 49 = .ok (.getfield 24, 3) := by decide +kernel
theorem d_K_writeSingles_52 : decode c_K_writeSingles 52 = .ok (.getfield 104, 3) := by decide +kernel
theorem d_K_writeSingles_55 : decode c_K_writeSingles 55 = .ok (.invokevirtual 107, 3) := by decide +kernel
theorem d_K_writeSingles_58 : decode c_K_writeSingles 58 = .ok (.iload 4, 2) := by decide +kernel
theorem d_K_writeSingles_60 : decode c_K_writeSingles 60 = .ok (.istore_n 3, 1) := by decide +kernel
theorem d_K_writeSingles_61 : decode c_K_writeSingles 61 = .ok (.iinc 4 1, 3) := by decide +kernel
theorem d_K_writeSingles_64 : decode c_K_writeSingles 64 = .ok (.goto (-59), 3) := by decide +kernel
theorem d_K_writeSingles_67 : decode c_K_writeSingles 67 = .ok (.return_, 1) := by decide +kernel
theorem d_O_init_0 : decode c_O_init 0 = .ok (.aload_n 0, 1) := by decide +kernel
theorem d_O_init_1 : decode c_O_init 1 = .ok (.invokespecial 3, 3) := by decide +kernel
theorem d_O_init_4 : decode c_O_init 4 = .ok (.aload_n 0, 1) := by decide +kernel
theorem d_O_init_5 : decode c_O_init 5 = .ok (.aload_n 1, 1) := by decide +kernel
theorem d_O_init_6 : decode c_O_init 6 = .ok (.putfield 9, 3) := by decide +kernel
theorem d_O_init_9 : decode c_O_init 9 = .ok (.aload_n 0, 1) := by decide +kernel
theorem d_O_init_10 : decode c_O_init 10 = .ok (.aload_n 1, 1) := by decide +kernel
theorem d_O_init_11 : decode c_O_init 11 = .ok (.arraylength, 1) := by decide +kernel
theorem d_O_init_12 : decode c_O_init 12 = .ok (.newarray .long, 2) := by decide +kernel
theorem d_O_init_14 : decode c_O_init 14 = .ok (.putfield 15, 3) := by decide +kernel
theorem d_O_init_17 : decode c_O_init 17 = .ok (.aload_n 0, 1) := by decide +kernel
theorem d_O_init_18 : decode c_O_init 18 = .ok (.aload_n 1, 1) := by decide +kernel
theorem d_O_init_19 : decode c_O_init 19 = .ok (.arraylength, 1) := by decide +kernel
theorem d_O_init_20 : decode c_O_init 20 = .ok (.newarray .long, 2) := by decide +kernel
theorem d_O_init_22 : decode c_O_init 22 = .ok (.putfield 19, 3) := by decide +kernel
theorem d_O_init_25 : decode c_O_init 25 = .ok (.aload_n 0, 1) := by decide +kernel
theorem d_O_init_26 : decode c_O_init 26 = .ok (.aload_n 1, 1) := by decide +kernel
theorem d_O_init_27 : decode c_O_init 27 = .ok (.arraylength, 1) := by decide +kernel
theorem d_O_init_28 : decode c_O_init 28 = .ok (.newarray .long, 2) := by decide +kernel
theorem d_O_init_30 : decode c_O_init 30 = .ok (.putfield 22, 3) := by decide +kernel
theorem d_O_init_33 : decode c_O_init 33 = .ok (.aload_n 0, 1) := by decide +kernel
theorem d_O_init_34 : decode c_O_init 34 = .ok (.aload_n 1, 1) := by decide +kernel
theorem d_O_init_35 : decode c_O_init 35 = .ok (.arraylength, 1) := by decide +kernel
theorem d_O_init_36 : decode c_O_init 36 = .ok (.newarray .int, 2) := by decide +kernel
theorem d_O_init_38 : decode c_O_init 38 = .ok (.putfield 25, 3) := by decide +kernel
theorem d_O_init_41 : decode c_O_init 41 = .ok (.iconst 0, 1) := by decide +kernel
theorem d_O_init_42 : decode c_O_init 42 = .ok (.istore_n 2, 1) := by decide +kernel
theorem d_O_init_43 : decode c_O_init 43 = .ok (.iload_n 2, 1) := by decide +kernel
theorem d_O_init_44 : decode c_O_init 44 = .ok (.aload_n 1, 1) := by decide +kernel
theorem d_O_init_45 : decode c_O_init 45 = .ok (.arraylength, 1) := by decide +kernel
theorem d_O_init_46 : decode c_O_init 46 = .ok (.if_icmp .ge 16, 3) := by decide +kernel
theorem d_O_init_49 : decode c_O_init 49 = .ok (.aload_n 0, 1) := by decide +kernel
theorem d_O_init_50 : decode c_O_init 50 = .ok (.getfield 25, 3) := by decide +kernel
theorem d_O_init_53 : decode c_O_init 53 = .ok (.iload_n 2, 1) := by decide +kernel
theorem d_O_init_54 : decode c_O_init 54 = .ok (.iconst 1, 1) := by decide +kernel
theorem d_O_init_55 : decode c_O_init 55 = .ok (.iastore, 1) := by decide +kernel
theorem d_O_init_56 : decode c_O_init 56 = .ok (.iinc 2 1, 3) := by decide +kernel
theorem d_O_init_59 : decode c_O_init 59 = .ok (.goto (-16), 3) := by decide +kernel
theorem d_O_init_62 : decode c_O_init 62 = .ok (.return_, 1) := by decide +kernel
theorem d_O_begin_0 : decode c_O_begin 0 = .ok (.aload_n 0, 1) := by decide +kernel
theorem d_O_begin_1 : decode c_O_begin 1 = .ok (.iload_n 1, 1) := by decide +kernel
theorem d_O_begin_2 : decode c_O_begin 2 = .ok (.putfield 28, 3) := by decide +kernel
theorem d_O_begin_5 : decode c_O_begin 5 = .ok (.aload_n 0, 1) := by decide +kernel
theorem d_O_begin_6 : decode c_O_begin 6 = .ok (.iload_n 2, 1) := by decide +kernel
theorem d_O_begin_7 : decode c_O_begin 7 = .ok (.putfield 32, 3) := by decide +kernel
theorem d_O_begin_10 : decode c_O_begin 10 = .ok (.aload_n 0, 1) := by decide +kernel
theorem d_O_begin_11 : decode c_O_begin 11 = .ok (.lconst 0, 1) := by decide +kernel
theorem d_O_begin_12 : decode c_O_begin 12 = .ok (.putfield 35, 3) := by decide +kernel
theorem d_O_begin_15 : decode c_O_begin 15 = .ok (.iconst 0, 1) := by decide +kernel
theorem d_O_begin_16 : decode c_O_begin 16 = .ok (.istore_n 3, 1) := by decide +kernel
theorem d_O_begin_17 : decode c_O_begin 17 = .ok (.iload_n 3, 1) := by decide +kernel
theorem d_O_begin_18 : decode c_O_begin 18 = .ok (.aload_n 0, 1) := by decide +kernel
theorem d_O_begin_19 : decode c_O_begin 19 = .ok (.getfield 9, 3) := by decide +kernel
theorem d_O_begin_22 : decode c_O_begin 22 = .ok (.arraylength, 1) := by decide +kernel
theorem d_O_begin_23 : decode c_O_begin 23 = .ok (.if_icmp .ge 62, 3) := by decide +kernel
theorem d_O_begin_26 : decode c_O_begin 26 = .ok (.aload_n 0, 1) := by decide +kernel
theorem d_O_begin_27 : decode c_O_begin 27 = .ok (.getfield 15, 3) := by decide +kernel
theorem d_O_begin_30 : decode c_O_begin 30 = .ok (.iload_n 3, 1) := by decide +kernel
theorem d_O_begin_31 : decode c_O_begin 31 = .ok (.aload_n 0, 1) := by decide +kernel
theorem d_O_begin_32 : decode c_O_begin 32 = .ok (.getfield 28, 3) := by decide +kernel
theorem d_O_begin_35 : decode c_O_begin 35 = .ok (.iconst 1, 1) := by decide +kernel
theorem d_O_begin_36 : decode c_O_begin 36 = .ok (.if_icmp .ne 9, 3) := by decide +kernel
theorem d_O_begin_39 : decode c_O_begin 39 = .ok (.ldc2_w 39, 3) := by decide +kernel
theorem d_O_begin_42 : decode c_O_begin 42 = .ok (.goto 15, 3) := by decide +kernel
theorem d_O_begin_45 : decode c_O_begin 45 = .ok (.ldc2_w 41, 3) := by decide +kernel
theorem d_O_begin_48 : decode c_O_begin 48 = .ok (.aload_n 0, 1) := by decide +kernel
theorem d_O_begin_49 : decode c_O_begin 49 = .ok (.getfield 9, 3) := by decide +kernel
theorem d_O_begin_52 : decode c_O_begin 52 = .ok (.arraylength, 1) := by decide +kernel
theorem d_O_begin_53 : decode c_O_begin 53 = .ok (.i2l, 1) := by decide +kernel
theorem d_O_begin_54 : decode c_O_begin 54 = .ok (.invokestatic 43, 3) := by decide +kernel
theorem d_O_begin_57 : decode c_O_begin 57 = .ok (.lastore, 1) := by decide +kernel
theorem d_O_begin_58 : decode c_O_begin 58 = .ok (.aload_n 0, 1) := by decide +kernel
theorem d_O_begin_59 : decode c_O_begin 59 = .ok (.getfield 19, 3) := by decide +kernel
theorem d_O_begin_62 : decode c_O_begin 62 = .ok (.iload_n 3, 1) := by decide +kernel
theorem d_O_begin_63 : decode c_O_begin 63 = .ok (.aload_n 0, 1) := by decide +kernel
theorem d_O_begin_64 : decode c_O_begin 64 = .ok (.getfield 28, 3) := by decide +kernel
theorem d_O_begin_67 : decode c_O_begin 67 = .ok (.iconst 1, 1) := by decide +kernel
theorem d_O_begin_68 : decode c_O_begin 68 = .ok (.if_icmp .ne 9, 3) := by decide +kernel
theorem d_O_begin_71 : decode c_O_begin 71 = .ok (.ldc2_w 39, 3) := by decide +kernel
theorem d_O_begin_74 : decode c_O_begin 74 = .ok (.goto 4, 3) := by decide +kernel
theorem d_O_begin_77 : decode c_O_begin 77 = .ok (.lconst 0, 1) := by decide +kernel
theorem d_O_begin_78 : decode c_O_begin 78 = .ok (.lastore, 1) := by decide +kernel
theorem d_O_begin_79 : decode c_O_begin 79 = .ok (.iinc 3 1, 3) := by decide +kernel
theorem d_O_begin_82 : decode c_O_begin 82 = .ok (.goto (-65), 3) := by decide +kernel
theorem d_O_begin_85 : decode c_O_begin 85 = .ok (.return_, 1) := by decide +kernel
theorem d_O_advance_0 : decode c_O_advance 0 = .ok (.iconst 0, 1) := by decide +kernel
theorem d_O_advance_1 : decode c_O_advance 1 = .ok (.istore_n 2, 1) := by decide +kernel
theorem d_O_advance_2 : decode c_O_advance 2 = .ok (.iload_n 2, 1) := by decide +kernel
theorem d_O_advance_3 : decode c_O_advance 3 = .ok (.iload_n 1, 1) := by decide +kernel
theorem d_O_advance_4 : decode c_O_advance 4 = .ok (.if_icmp .ge 26, 3) := by decide +kernel
theorem d_O_advance_7 : decode c_O_advance 7 = .ok (.aload_n 0, 1) := by decide +kernel
theorem d_O_advance_8 : decode c_O_advance 8 = .ok (.invokevirtual 47, 3) := by decide +kernel
theorem d_O_advance_11 : decode c_O_advance 11 = .ok (.aload_n 0, 1) := by decide +kernel
theorem d_O_advance_12 : decode c_O_advance 12 = .ok (.getfield 35, 3) := by decide +kernel
theorem d_O_advance_15 : decode c_O_advance 15 = .ok (.lconst 0, 1) := by decide +kernel
theorem d_O_advance_16 : decode c_O_advance 16 = .ok (.lcmp, 1) := by decide +kernel
theorem d_O_advance_17 : decode c_O_advance 17 = .ok (.ifCond .ne 7, 3) := by decide +kernel
theorem d_O_advance_20 : decode c_O_advance 20 = .ok (.iload_n 2, 1) := by decide +kernel
theorem d_O_advance_21 : decode c_O_advance 21 = .ok (.iconst 1, 1) := by decide +kernel
theorem d_O_advance_22 : decode c_O_advance 22 = .ok (.iadd, 1) := by decide +kernel
theorem d_O_advance_23 : decode c_O_advance 23 = .ok (.ireturn, 1) := by decide +kernel
theorem d_O_advance_24 : decode c_O_advance 24 = .ok (.iinc 2 1, 3) := by decide +kernel
theorem d_O_advance_27 : decode c_O_advance 27 = .ok (.goto (-25), 3) := by decide +kernel
theorem d_O_advance_30 : decode c_O_advance 30 = .ok (.iload_n 1, 1) := by decide +kernel
theorem d_O_advance_31 : decode c_O_advance 31 = .ok (.ireturn, 1) := by decide +kernel
theorem d_O_weightOfOthers_0 : decode c_O_weightOfOthers 0 = .ok (.iconst 0, 1) := by decide +kernel
theorem d_O_weightOfOthers_1 : decode c_O_weightOfOthers 1 = .ok (.istore_n 2, 1) := by decide +kernel
theorem d_O_weightOfOthers_2 : decode c_O_weightOfOthers 2 = .ok (.iconst 0, 1) := by decide +kernel
theorem d_O_weightOfOthers_3 : decode c_O_weightOfOthers 3 = .ok (.istore_n 3, 1) := by decide +kernel
theorem d_O_weightOfOthers_4 : decode c_O_weightOfOthers 4 = .ok (.iload_n 3, 1) := by decide +kernel
theorem d_O_weightOfOthers_5 : decode c_O_weightOfOthers 5 = .ok (.aload_n 0, 1) := by decide +kernel
theorem d_O_weightOfOthers_6 : decode c_O_weightOfOthers 6 = .ok (.getfield 9, 3) := by decide +kernel
theorem d_O_weightOfOthers_9 : decode c_O_weightOfOthers 9 = .ok (.arraylength, 1) := by decide +kernel
theorem d_O_weightOfOthers_10 : decode c_O_weightOfOthers 10 = .ok (.if_icmp .ge 23, 3) := by decide +kernel
theorem d_O_weightOfOthers_13 : decode c_O_weightOfOthers 13 = .ok (.iload_n 3, 1) := by decide +kernel
theorem d_O_weightOfOthers_14 : decode c_O_weightOfOthers 14 = .ok (.iload_n 1, 1) := by decide +kernel
theorem d_O_weightOfOthers_15 : decode c_O_weightOfOthers 15 = .ok (.if_icmp .eq 12, 3) := by decide +kernel
theorem d_O_weightOfOthers_18 : decode c_O_weightOfOthers 18 = .ok (.iload_n 2, 1) := by decide +kernel
theorem d_O_weightOfOthers_19 : decode c_O_weightOfOthers 19 = .ok (.aload_n 0, 1) := by decide +kernel
theorem d_O_weightOfOthers_20 : decode c_O_weightOfOthers 20 = .ok (.getfield 25, 3) := by decide +kernel
theorem d_O_weightOfOthers_23 : decode c_O_weightOfOthers 23 = .ok (.iload_n 3, 1) := by decide +kernel
theorem d_O_weightOfOthers_24 : decode c_O_weightOfOthers 24 = .ok (.iaload, 1) := by decide +kernel
theorem d_O_weightOfOthers_25 : decode c_O_weightOfOthers 25 = .ok (.iadd, 1) := by decide +kernel
theorem d_O_weightOfOthers_26 : decode c_O_weightOfOthers 26 = .ok (.istore_n 2, 1) := by decide +kernel
theorem d_O_weightOfOthers_27 : decode c_O_weightOfOthers 27 = .ok (.iinc 3 1, 3) := by decide +kernel
theorem d_O_weightOfOthers_30 : decode c_O_weightOfOthers 30 = .ok (.goto (-26), 3) := by decide +kernel
theorem d_O_weightOfOthers_33 : decode c_O_weightOfOthers 33 = .ok (.iload_n 2, 1) := by decide +kernel
theorem d_O_weightOfOthers_34 : decode c_O_weightOfOthers 34 = .ok (.ireturn, 1) := by decide +kernel
theorem d_O_placeOf_0 : decode c_O_placeOf 0 = .ok (.iconst 0, 1) := by decide +kernel
theorem d_O_placeOf_1 : decode c_O_placeOf 1 = .ok (.istore_n 2, 1) := by decide +kernel
theorem d_O_placeOf_2 : decode c_O_placeOf 2 = .ok (.iconst 0, 1) := by decide +kernel
theorem d_O_placeOf_3 : decode c_O_placeOf 3 = .ok (.istore_n 3, 1) := by decide +kernel
theorem d_O_placeOf_4 : decode c_O_placeOf 4 = .ok (.iload_n 3, 1) := by decide +kernel
theorem d_O_placeOf_5 : decode c_O_placeOf 5 = .ok (.aload_n 0, 1) := by decide +kernel
theorem d_O_placeOf_6 : decode c_O_placeOf 6 = .ok (.getfield 9, 3) := by decide +kernel
theorem d_O_placeOf_9 : decode c_O_placeOf 9 = .ok (.arraylength, 1) := by decide +kernel
theorem d_O_placeOf_10 : decode c_O_placeOf 10 = .ok (.if_icmp .ge 49, 3) := by decide +kernel
theorem d_O_placeOf_13 : decode c_O_placeOf 13 = .ok (.aload_n 0, 1) := by decide +kernel
theorem d_O_placeOf_14 : decode c_O_placeOf 14 = .ok (.getfield 15, 3) := by decide +kernel
theorem d_O_placeOf_17 : decode c_O_placeOf 17 = .ok (.iload_n 3, 1) := by decide +kernel
theorem d_O_placeOf_18 : decode c_O_placeOf 18 = .ok (.laload, 1) := by decide +kernel
theorem d_O_placeOf_19 : decode c_O_placeOf 19 = .ok (.aload_n 0, 1) := by decide +kernel
theorem d_O_placeOf_20 : decode c_O_placeOf 20 = .ok (.getfield 15, 3) := by decide +kernel
theorem d_O_placeOf_23 : decode c_O_placeOf 23 = .ok (.iload_n 1, 1) := by decide +kernel
theorem d_O_placeOf_24 : decode c_O_placeOf 24 = .ok (.laload, 1) := by decide +kernel
theorem d_O_placeOf_25 : decode c_O_placeOf 25 = .ok (.lcmp, 1) := by decide +kernel
theorem d_O_placeOf_26 : decode c_O_placeOf 26 = .ok (.ifCond .gt 24, 3) := by decide +kernel
theorem d_O_placeOf_29 : decode c_O_placeOf 29 = .ok (.aload_n 0, 1) := by decide +kernel
theorem d_O_placeOf_30 : decode c_O_placeOf 30 = .ok (.getfield 15, 3) := by decide +kernel
theorem d_O_placeOf_33 : decode c_O_placeOf 33 = .ok (.iload_n 3, 1) := by decide +kernel
theorem d_O_placeOf_34 : decode c_O_placeOf 34 = .ok (.laload, 1) := by decide +kernel
theorem d_O_placeOf_35 : decode c_O_placeOf 35 = .ok (.aload_n 0, 1) := by decide +kernel
theorem d_O_placeOf_36 : decode c_O_placeOf 36 = .ok (.getfield 15, 3) := by decide +kernel
theorem d_O_placeOf_39 : decode c_O_placeOf 39 = .ok (.iload_n 1, 1) := by decide +kernel
theorem d_O_placeOf_40 : decode c_O_placeOf 40 = .ok (.laload, 1) := by decide +kernel
theorem d_O_placeOf_41 : decode c_O_placeOf 41 = .ok (.lcmp, 1) := by decide +kernel
theorem d_O_placeOf_42 : decode c_O_placeOf 42 = .ok (.ifCond .ne 11, 3) := by decide +kernel
theorem d_O_placeOf_45 : decode c_O_placeOf 45 = .ok (.iload_n 3, 1) := by decide +kernel
theorem d_O_placeOf_46 : decode c_O_placeOf 46 = .ok (.iload_n 1, 1) := by decide +kernel
theorem d_O_placeOf_47 : decode c_O_placeOf 47 = .ok (.if_icmp .ge 6, 3) := by decide +kernel
theorem d_O_placeOf_50 : decode c_O_placeOf 50 = .ok (.iinc 2 1, 3) := by decide +kernel
theorem d_O_placeOf_53 : decode c_O_placeOf 53 = .ok (.iinc 3 1, 3) := by decide +kernel
theorem d_O_placeOf_56 : decode c_O_placeOf 56 = .ok (.goto (-52), 3) := by decide +kernel
theorem d_O_placeOf_59 : decode c_O_placeOf 59 = .ok (.iload_n 2, 1) := by decide +kernel
theorem d_O_placeOf_60 : decode c_O_placeOf 60 = .ok (.ireturn, 1) := by decide +kernel
theorem d_O_stepOnce_0 : decode c_O_stepOnce 0 = .ok (.aload_n 0, 1) := by decide +kernel
theorem d_O_stepOnce_1 : decode c_O_stepOnce 1 = .ok (.getfield 15, 3) := by decide +kernel
theorem d_O_stepOnce_4 : decode c_O_stepOnce 4 = .ok (.iconst 0, 1) := by decide +kernel
theorem d_O_stepOnce_5 : decode c_O_stepOnce 5 = .ok (.aload_n 0, 1) := by decide +kernel
theorem d_O_stepOnce_6 : decode c_O_stepOnce 6 = .ok (.getfield 22, 3) := by decide +kernel
theorem d_O_stepOnce_9 : decode c_O_stepOnce 9 = .ok (.iconst 0, 1) := by decide +kernel
theorem d_O_stepOnce_10 : decode c_O_stepOnce 10 = .ok (.aload_n 0, 1) := by decide +kernel
theorem d_O_stepOnce_11 : decode c_O_stepOnce 11 = .ok (.getfield 15, 3) := by decide +kernel
theorem d_O_stepOnce_14 : decode c_O_stepOnce 14 = .ok (.arraylength, 1) := by decide +kernel
theorem d_O_stepOnce_15 : decode c_O_stepOnce 15 = .ok (.invokestatic 50, 3) := by decide +kernel
theorem d_O_stepOnce_18 : decode c_O_stepOnce 18 = .ok (.aload_n 0, 1) := by decide +kernel
theorem d_O_stepOnce_19 : decode c_O_stepOnce 19 = .ok (.getfield 28, 3) := by decide +kernel
theorem d_O_stepOnce_22 : decode c_O_stepOnce 22 = .ok (.ifCond .ne 10, 3) := by decide +kernel
theorem d_O_stepOnce_25 : decode c_O_stepOnce 25 = .ok (.aload_n 0, 1) := by decide +kernel
theorem d_O_stepOnce_26 : decode c_O_stepOnce 26 = .ok (.invokevirtual 56, 3) := by decide +kernel
theorem d_O_stepOnce_29 : decode c_O_stepOnce 29 = .ok (.goto 22, 3) := by decide +kernel
theorem d_O_stepOnce_32 : decode c_O_stepOnce 32 = .ok (.aload_n 0, 1) := by decide +kernel
theorem d_O_stepOnce_33 : decode c_O_stepOnce 33 = .ok (.getfield 28, 3) := by decide +kernel
theorem d_O_stepOnce_36 : decode c_O_stepOnce 36 = .ok (.iconst 1, 1) := by decide +kernel
theorem d_O_stepOnce_37 : decode c_O_stepOnce 37 = .ok (.if_icmp .ne 10, 3) := by decide +kernel
theorem d_O_stepOnce_40 : decode c_O_stepOnce 40 = .ok (.aload_n 0, 1) := by decide +kernel
theorem d_O_stepOnce_41 : decode c_O_stepOnce 41 = .ok (.invokevirtual 59, 3) := by decide +kernel
theorem d_O_stepOnce_44 : decode c_O_stepOnce 44 = .ok (.goto 7, 3) := by decide +kernel
theorem d_O_stepOnce_47 : decode c_O_stepOnce 47 = .ok (.aload_n 0, 1) := by decide +kernel
theorem d_O_stepOnce_48 : decode c_O_stepOnce 48 = .ok (.invokevirtual 62, 3) := by decide +kernel
theorem d_O_stepOnce_51 : decode c_O_stepOnce 51 = .ok (.aload_n 0, 1) := by decide +kernel
theorem d_O_stepOnce_52 : decode c_O_stepOnce 52 = .ok (.lconst 0, 1) := by decide +kernel
theorem d_O_stepOnce_53 : decode c_O_stepOnce 53 = .ok (.putfield 35, 3) := by decide +kernel
theorem d_O_stepOnce_56 : decode c_O_stepOnce 56 = .ok (.iconst 0, 1) := by decide +kernel
theorem d_O_stepOnce_57 : decode c_O_stepOnce 57 = .ok (.istore_n 1, 1) := by decide +kernel
theorem d_O_stepOnce_58 : decode c_O_stepOnce 58 = .ok (.iload_n 1, 1) := by decide +kernel
theorem d_O_stepOnce_59 : decode c_O_stepOnce 59 = .ok (.aload_n 0, 1) := by decide +kernel
theorem d_O_stepOnce_60 : decode c_O_stepOnce 60 = .ok (.getfield 15, 3) := by decide +kernel
theorem d_O_stepOnce_63 : decode c_O_stepOnce 63 = .ok (.arraylength, 1) := by decide +kernel
theorem d_O_stepOnce_64 : decode c_O_stepOnce 64 = .ok (.if_icmp .ge 34, 3) := by decide +kernel
theorem d_O_stepOnce_67 : decode c_O_stepOnce 67 = .ok (.aload_n 0, 1) := by decide +kernel
theorem d_O_stepOnce_68 : decode c_O_stepOnce 68 = .ok (.dup, 1) := by decide +kernel
theorem d_O_stepOnce_69 : decode c_O_stepOnce 69 = .ok (.getfield 35, 3) := by decide +kernel
theorem d_O_stepOnce_72 : decode c_O_stepOnce 72 = .ok (.aload_n 0, 1) := by decide +kernel
theorem d_O_stepOnce_73 : decode c_O_stepOnce 73 = .ok (.getfield 15, 3) := by decide +kernel
theorem d_O_stepOnce_76 : decode c_O_stepOnce 76 = .ok (.iload_n 1, 1) := by decide +kernel
theorem d_O_stepOnce_77 : decode c_O_stepOnce 77 = .ok (.laload, 1) := by decide +kernel
theorem d_O_stepOnce_78 : decode c_O_stepOnce 78 = .ok (.aload_n 0, 1) := by decide +kernel
theorem d_O_stepOnce_79 : decode c_O_stepOnce 79 = .ok (.getfield 22, 3) := by decide +kernel
theorem d_O_stepOnce_82 : decode c_O_stepOnce 82 = .ok (.iload_n 1, 1) := by decide +kernel
theorem d_O_stepOnce_83 : decode c_O_stepOnce 83 = .ok (.laload, 1) := by decide +kernel
theorem d_O_stepOnce_84 : decode c_O_stepOnce 84 = .ok (.lsub, 1) := by decide +kernel
theorem d_O_stepOnce_85 : decode c_O_stepOnce 85 = .ok (.invokestatic 65, 3) := by decide +kernel
theorem d_O_stepOnce_88 : decode c_O_stepOnce 88 = .ok (.ladd, 1) := by decide +kernel
theorem d_O_stepOnce_89 : decode c_O_stepOnce 89 = .ok (.putfield 35, 3) := by decide +kernel
theorem d_O_stepOnce_92 : decode c_O_stepOnce 92 = .ok (.iinc 1 1, 3) := by decide +kernel
theorem d_O_stepOnce_95 : decode c_O_stepOnce 95 = .ok (.goto (-37), 3) := by decide +kernel
theorem d_O_stepOnce_98 : decode c_O_stepOnce 98 = .ok (.return_, 1) := by decide +kernel
theorem d_O_stepByRank_0 : decode c_O_stepByRank 0 = .ok (.aload_n 0, 1) := by decide +kernel
theorem d_O_stepByRank_1 : decode c_O_stepByRank 1 = .ok (.iconst (-1), 1) := by decide +kernel
theorem d_O_stepByRank_2 : decode c_O_stepByRank 2 = .ok (.invokevirtual 71, 3) := by decide +kernel
theorem d_O_stepByRank_5 : decode c_O_stepByRank 5 = .ok (.i2l, 1) := by decide +kernel
theorem d_O_stepByRank_6 : decode c_O_stepByRank 6 = .ok (.lstore_n 1, 1) := by decide +kernel
theorem d_O_stepByRank_7 : decode c_O_stepByRank 7 = .ok (.lconst 0, 1) := by decide +kernel
theorem d_O_stepByRank_8 : decode c_O_stepByRank 8 = .ok (.lstore_n 3, 1) := by decide +kernel
theorem d_O_stepByRank_9 : decode c_O_stepByRank 9 = .ok (.iconst 0, 1) := by decide +kernel
theorem d_O_stepByRank_10 : decode c_O_stepByRank 10 = .ok (.istore 5, 2) := by decide +kernel
theorem d_O_stepByRank_12 : decode c_O_stepByRank 12 = .ok (.iload 5, 2) := by decide +kernel
theorem d_O_stepByRank_14 : decode c_O_stepByRank 14 = .ok (.aload_n 0, 1) := by decide +kernel
theorem d_O_stepByRank_15 : decode c_O_stepByRank 15 = .ok (.getfield 9, 3) := by decide +kernel
theorem d_O_stepByRank_18 : decode c_O_stepByRank 18 = .ok (.arraylength, 1) := by decide +kernel
theorem d_O_stepByRank_19 : decode c_O_stepByRank 19 = .ok (.if_icmp .ge 33, 3) := by decide +kernel
theorem d_O_stepByRank_22 : decode c_O_stepByRank 22 = .ok (.lload_n 3, 1) := by decide +kernel
theorem d_O_stepByRank_23 : decode c_O_stepByRank 23 = .ok (.aload_n 0, 1) := by decide +kernel
theorem d_O_stepByRank_24 : decode c_O_stepByRank 24 = .ok (.getfield 9, 3) := by decide +kernel
theorem d_O_stepByRank_27 : decode c_O_stepByRank 27 = .ok (.iload 5, 2) := by decide +kernel
theorem d_O_stepByRank_29 : decode c_O_stepByRank 29 = .ok (.iaload, 1) := by decide +kernel
theorem d_O_stepByRank_30 : decode c_O_stepByRank 30 = .ok (.ifCond .ne 13, 3) := by decide +kernel
theorem d_O_stepByRank_33 : decode c_O_stepByRank 33 = .ok (.aload_n 0, 1) := by decide +kernel
theorem d_O_stepByRank_34 : decode c_O_stepByRank 34 = .ok (.getfield 22, 3) := by decide +kernel
theorem d_O_stepByRank_37 : decode c_O_stepByRank 37 = .ok (.iload 5, 2) := by decide +kernel
theorem d_O_stepByRank_39 : decode c_O_stepByRank 39 = .ok (.laload, 1) := by decide +kernel
theorem d_O_stepByRank_40 : decode c_O_stepByRank 40 = .ok (.goto 4, 3) := by decide +kernel
theorem d_O_stepByRank_43 : decode c_O_stepByRank 43 = .ok (.lconst 0, 1) := by decide +kernel
theorem d_O_stepByRank_44 : decode c_O_stepByRank 44 = .ok (.ladd, 1) := by decide +kernel
theorem d_O_stepByRank_45 : decode c_O_stepByRank 45 = .ok (.lstore_n 3, 1) := by decide +kernel
theorem d_O_stepByRank_46 : decode c_O_stepByRank 46 = .ok (.iinc 5 1, 3) := by decide +kernel
theorem d_O_stepByRank_49 : decode c_O_stepByRank 49 = .ok (.goto (-37), 3) := by decide +kernel
theorem d_O_stepByRank_52 : decode c_O_stepByRank 52 = .ok (.iconst 0, 1) := by decide +kernel
theorem d_O_stepByRank_53 : decode c_O_stepByRank 53 = .ok (.istore 5, 2) := by decide +kernel
theorem d_O_stepByRank_55 : decode c_O_stepByRank 55 = .ok (.iload 5, 2) := by decide +kernel
theorem d_O_stepByRank_57 : decode c_O_stepByRank 57 = .ok (.aload_n 0, 1) := by decide +kernel
theorem d_O_stepByRank_58 : decode c_O_stepByRank 58 = .ok (.getfield 9, 3) := by decide +kernel
theorem d_O_stepByRank_61 : decode c_O_stepByRank 61 = .ok (.arraylength, 1) := by decide +kernel
theorem d_O_stepByRank_62 : decode c_O_stepByRank 62 = .ok (.if_icmp .ge 137, 3) := by decide +kernel
theorem d_O_stepByRank_65 : decode c_O_stepByRank 65 = .ok (.lconst 0, 1) := by decide +kernel
theorem d_O_stepByRank_66 : decode c_O_stepByRank 66 = .ok (.lstore 6, 2) := by decide +kernel
theorem d_O_stepByRank_68 : decode c_O_stepByRank 68 = .ok (.iconst 0, 1) := by decide +kernel
theorem d_O_stepByRank_69 : decode c_O_stepByRank 69 = .ok (.istore 8, 2) := by decide +kernel
theorem d_O_stepByRank_71 : decode c_O_stepByRank 71 = .ok (.iload 8, 2) := by decide +kernel
theorem d_O_stepByRank_73 : decode c_O_stepByRank 73 = .ok (.aload_n 0, 1) := by decide +kernel
theorem d_O_stepByRank_74 : decode c_O_stepByRank 74 = .ok (.getfield 9, 3) := by decide +kernel
theorem d_O_stepByRank_77 : decode c_O_stepByRank 77 = .ok (.arraylength, 1) := by decide +kernel
theorem d_O_stepByRank_78 : decode c_O_stepByRank 78 = .ok (.if_icmp .ge 50, 3) := by decide +kernel
theorem d_O_stepByRank_81 : decode c_O_stepByRank 81 = .ok (.lload 6, 2) := by decide +kernel
theorem d_O_stepByRank_83 : decode c_O_stepByRank 83 = .ok (.aload_n 0, 1) := by decide +kernel
theorem d_O_stepByRank_84 : decode c_O_stepByRank 84 = .ok (.getfield 9, 3) := by decide +kernel
theorem d_O_stepByRank_87 : decode c_O_stepByRank 87 = .ok (.iload 8, 2) := by decide +kernel
theorem d_O_stepByRank_89 : decode c_O_stepByRank 89 = .ok (.iaload, 1) := by decide +kernel
theorem d_O_stepByRank_90 : decode c_O_stepByRank 90 = .ok (.iload 5, 2) := by decide +kernel
theorem d_O_stepByRank_92 : decode c_O_stepByRank 92 = .ok (.invokestatic 75, 3) := by decide +kernel
theorem d_O_stepByRank_95 : decode c_O_stepByRank 95 = .ok (.ifCond .eq 23, 3) := by decide +kernel
theorem d_O_stepByRank_98 : decode c_O_stepByRank 98 = .ok (.aload_n 0, 1) := by decide +kernel
theorem d_O_stepByRank_99 : decode c_O_stepByRank 99 = .ok (.getfield 22, 3) := by decide +kernel
theorem d_O_stepByRank_102 : decode c_O_stepByRank 102 = .ok (.iload 8, 2) := by decide +kernel
theorem d_O_stepByRank_104 : decode c_O_stepByRank 104 = .ok (.laload, 1) := by decide +kernel
theorem d_O_stepByRank_105 : decode c_O_stepByRank 105 = .ok (.aload_n 0, 1) := by decide +kernel
theorem d_O_stepByRank_106 : decode c_O_stepByRank 106 = .ok (.iload 8, 2) := by decide +kernel
theorem d_O_stepByRank_108 : decode c_O_stepByRank 108 = .ok (.invokevirtual 79, 3) := by decide +kernel
theorem d_O_stepByRank_111 : decode c_O_stepByRank 111 = .ok (.i2l, 1) := by decide +kernel
theorem d_O_stepByRank_112 : decode c_O_stepByRank 112 = .ok (.invokestatic 43, 3) := by decide +kernel
theorem d_O_stepByRank_115 : decode c_O_stepByRank 115 = .ok (.goto 4, 3) := by decide +kernel
theorem d_O_stepByRank_118 : decode c_O_stepByRank 118 = .ok (.lconst 0, 1) := by decide +kernel
theorem d_O_stepByRank_119 : decode c_O_stepByRank 119 = .ok (.ladd, 1) := by decide +kernel
theorem d_O_stepByRank_120 : decode c_O_stepByRank 120 = .ok (.lstore 6, 2) := by decide +kernel
theorem d_O_stepByRank_122 : decode c_O_stepByRank 122 = .ok (.iinc 8 1, 3) := by decide +kernel
theorem d_O_stepByRank_125 : decode c_O_stepByRank 125 = .ok (.goto (-54), 3) := by decide +kernel
theorem d_O_stepByRank_128 : decode c_O_stepByRank 128 = .ok (.sipush 1000, 3) := by decide +kernel
theorem d_O_stepByRank_131 : decode c_O_stepByRank 131 = .ok (.aload_n 0, 1) := by decide +kernel
theorem d_O_stepByRank_132 : decode c_O_stepByRank 132 = .ok (.getfield 32, 3) := by decide +kernel
theorem d_O_stepByRank_135 : decode c_O_stepByRank 135 = .ok (.isub, 1) := by decide +kernel
theorem d_O_stepByRank_136 : decode c_O_stepByRank 136 = .ok (.i2l, 1) := by decide +kernel
theorem d_O_stepByRank_137 : decode c_O_stepByRank 137 = .ok (.ldc2_w 82, 3) := by decide +kernel
theorem d_O_stepByRank_140 : decode c_O_stepByRank 140 = .ok (.lmul, 1) := by decide +kernel
theorem d_O_stepByRank_141 : decode c_O_stepByRank 141 = .ok (.aload_n 0, 1) := by decide +kernel
theorem d_O_stepByRank_142 : decode c_O_stepByRank 142 = .ok (.getfield 25, 3) := by decide +kernel
theorem d_O_stepByRank_145 : decode c_O_stepByRank 145 = .ok (.iload 5, 2) := by decide +kernel
theorem d_O_stepByRank_147 : decode c_O_stepByRank 147 = .ok (.iaload, 1) := by decide +kernel
theorem d_O_stepByRank_148 : decode c_O_stepByRank 148 = .ok (.i2l, 1) := by decide +kernel
theorem d_O_stepByRank_149 : decode c_O_stepByRank 149 = .ok (.lmul, 1) := by decide +kernel
theorem d_O_stepByRank_150 : decode c_O_stepByRank 150 = .ok (.lload_n 1, 1) := by decide +kernel
theorem d_O_stepByRank_151 : decode c_O_stepByRank 151 = .ok (.invokestatic 43, 3) := by decide +kernel
theorem d_O_stepByRank_154 : decode c_O_stepByRank 154 = .ok (.lstore 8, 2) := by decide +kernel
theorem d_O_stepByRank_156 : decode c_O_stepByRank 156 = .ok (.aload_n 0, 1) := by decide +kernel
theorem d_O_stepByRank_157 : decode c_O_stepByRank 157 = .ok (.getfield 15, 3) := by decide +kernel
theorem d_O_stepByRank_160 : decode c_O_stepByRank 160 = .ok (.iload 5, 2) := by decide +kernel
theorem d_O_stepByRank_162 : decode c_O_stepByRank 162 = .ok (.lload 8, 2) := by decide +kernel
theorem d_O_stepByRank_164 : decode c_O_stepByRank 164 = .ok (.aload_n 0, 1) := by decide +kernel
theorem d_O_stepByRank_165 : decode c_O_stepByRank 165 = .ok (.getfield 32, 3) := by decide +kernel
theorem d_O_stepByRank_168 : decode c_O_stepByRank 168 = .ok (.i2l, 1) := by decide +kernel
end
