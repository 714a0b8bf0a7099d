set_option maxRecDepth 20000 in
theorem wO_quotient_13 {N : Nat} {h0 : aw_H} {r0 : Int64} (s0 : Int64) (hf : fO_quotient_13 N s0 = some r0) : AW "ArcTape$Scores" "quotient" c_O_quotient 4 (some .long) 0 0 0 0 (aw_is (some (.long r0)) h0) 13 [none, none, none, none] [.long s0] h0 0 0 := by
  unfold fO_quotient_13 at hf
  cases hf
  exact aw_lreturn rfl d_O_quotient_13 (Nat.le_refl 0) (Nat.le_refl 0) ⟨rfl, rfl⟩
set_option maxRecDepth 20000 in
theorem mO_quotient {N : Nat} {h0 : aw_H} {r0 : Int64} {l0 : Int64} {l2 : Int64} (hf : fO_quotient N l0 l2 = some r0) : AM y_O_quotient c_O_quotient 4 (some .long) 0 0 0 0 [.long l0, .long l2] h0 (aw_is (some (.long r0)) h0) := by
  unfold fO_quotient at hf
  refine AM.of (own := "ArcTape$Scores") (nm := "quotient") (L := [some (.long l0), none, some (.long l2), none]) rfl rfl (by decide) (Nat.le_of_ble_eq_true rfl) rfl ?_
  refine aw_lload_n (pc' := 1) d_O_quotient_0 rfl rfl ?_
  refine aw_lconst (pc' := 2) d_O_quotient_1 rfl kc_lc_0 ?_
  refine aw_lcmp (pc' := 3) d_O_quotient_2 rfl ?_
  refine aw_if_ne (tgt := 10) (pc' := 6) d_O_quotient_3 (by decide) rfl (fun c1 => ?_) (fun c1 => ?_)
  · replace hf := aw_ifn c1 hf
    refine aw_lload_n (pc' := 11) d_O_quotient_10 rfl rfl ?_
    refine aw_lload_n (pc' := 12) d_O_quotient_11 rfl rfl ?_
    obtain ⟨g2, hf⟩ := aw_gd hf
    refine aw_ldiv (pc' := 13) d_O_quotient_12 rfl g2 ?_
    exact aw_weak [false, false, false, false] rfl (wO_quotient_13 _ hf)
  · replace hf := aw_ifp c1 hf
    refine aw_lconst (pc' := 7) d_O_quotient_6 rfl kc_lc_0 ?_
    refine aw_goto (tgt := 13) d_O_quotient_7 (by decide) ?_
    exact aw_weak [false, false, false, false] rfl (wO_quotient_13 _ hf)
set_option maxRecDepth 20000 in
theorem wO_begin_85 {N : Nat} {n : Nat} {r0 : me_M} (μ : me_M) (hf : fO_begin_85 N n μ = some r0) : AW "ArcTape$Scores" "begin" c_O_begin 4 none 1 0 0 0 (aw_is none (hC n r0)) 85 [none, none, none, none] [] (hC n μ) 0 0 := by
  unfold fO_begin_85 at hf
  cases hf
  exact aw_return rfl d_O_begin_85 (Nat.le_refl 0) (Nat.le_refl 0) ⟨rfl, rfl⟩
set_option maxRecDepth 20000 in
theorem wO_begin_78 {N : Nat} {n : Nat} {r0 : me_M} {k17 : Int32 → me_M → Option me_M} (hk17 : ∀ (l3 : Int32) (μ : me_M), k17 l3 μ = some r0 → AW "ArcTape$Scores" "begin" c_O_begin 4 none 1 0 0 0 (aw_is none (hC n r0)) 17 [some (.ref 19), none, none, some (.int l3)] [] (hC n μ) 0 0) (l3 : Int32) (s1 : Int32) (s2 : Int64) (μ : me_M) (hf : fO_begin_78 N n k17 l3 s1 s2 μ = some r0) : AW "ArcTape$Scores" "begin" c_O_begin 4 none 1 0 0 0 (aw_is none (hC n r0)) 78 [some (.ref 19), none, none, some (.int l3)] [.long s2, .int s1, .ref 21] (hC n μ) 0 0 := by
  unfold fO_begin_78 at hf
  obtain ⟨g1, hf⟩ := aw_gi hf
  refine aw_last (pc' := 79) (h' := (hC n (me_wl μ 21 s1.toNatClampNeg s2))) d_O_begin_78 rfl rfl hC_21 g1 rfl ?_
  refine aw_iinc (pc' := 82) (L' := [some (.ref 19), none, none, some (.int (l3 + (1 : Int32)))]) d_O_begin_79 rfl kc_ic_1 rfl (by decide) rfl ?_
  refine aw_goto (tgt := 17) d_O_begin_82 (by decide) ?_
  exact aw_weak [true, false, false, true] rfl (hk17 _ _ hf)
set_option maxRecDepth 20000 in
theorem wO_begin_57 {N : Nat} {n : Nat} {r0 : me_M} {k17 : Int32 → me_M → Option me_M} (hk17 : ∀ (l3 : Int32) (μ : me_M), k17 l3 μ = some r0 → AW "ArcTape$Scores" "begin" c_O_begin 4 none 1 0 0 0 (aw_is none (hC n r0)) 17 [some (.ref 19), none, none, some (.int l3)] [] (hC n μ) 0 0) (l3 : Int32) (s1 : Int32) (s2 : Int64) (μ : me_M) (hf : fO_begin_57 N n k17 l3 s1 s2 μ = some r0) : AW "ArcTape$Scores" "begin" c_O_begin 4 none 1 0 0 0 (aw_is none (hC n r0)) 57 [some (.ref 19), none, none, some (.int l3)] [.long s2, .int s1, .ref 20] (hC n μ) 0 0 := by
  unfold fO_begin_57 at hf
  obtain ⟨g2, hf⟩ := aw_gi hf
  refine aw_last (pc' := 58) (h' := (hC n (me_wl μ 20 s1.toNatClampNeg s2))) d_O_begin_57 rfl rfl hC_20 g2 rfl ?_
  refine aw_aload_n (pc' := 59) d_O_begin_58 rfl rfl ?_
  refine aw_get (pc' := 62) d_O_begin_59 rfl fl_O_19 hC_19 rfl ?_
  refine aw_iload_n (pc' := 63) d_O_begin_62 rfl rfl ?_
  refine aw_aload_n (pc' := 64) d_O_begin_63 rfl rfl ?_
  refine aw_get (pc' := 67) d_O_begin_64 rfl fl_O_28 hC_19 rfl ?_
  refine aw_iconst (pc' := 68) d_O_begin_67 rfl kc_ic_1 ?_
  refine aw_icmp_ne (tgt := 77) (pc' := 71) d_O_begin_68 (by decide) rfl (fun c3 => ?_) (fun c3 => ?_)
  · replace hf := aw_ifn c3 hf
    refine aw_lconst (pc' := 78) d_O_begin_77 rfl kc_lc_0 ?_
    exact aw_weak [true, false, false, true] rfl (wO_begin_78 hk17 _ _ _ _ hf)
  · replace hf := aw_ifp c3 hf
    refine aw_ldc2 (pc' := 74) d_O_begin_71 rfl wk_O_39 ?_
    refine aw_goto (tgt := 78) d_O_begin_74 (by decide) ?_
    exact aw_weak [true, false, false, true] rfl (wO_begin_78 hk17 _ _ _ _ hf)
set_option maxRecDepth 20000 in
theorem wO_begin_17b {N : Nat} {n : Nat} {r0 : me_M} {k17 : Int32 → me_M → Option me_M} (hk17 : ∀ (l3 : Int32) (μ : me_M), k17 l3 μ = some r0 → AW "ArcTape$Scores" "begin" c_O_begin 4 none 1 0 0 0 (aw_is none (hC n r0)) 17 [some (.ref 19), none, none, some (.int l3)] [] (hC n μ) 0 0) (l3 : Int32) (μ : me_M) (hf : fO_begin_17b N n k17 l3 μ = some r0) : AW "ArcTape$Scores" "begin" c_O_begin 4 none 1 0 0 0 (aw_is none (hC n r0)) 17 [some (.ref 19), none, none, some (.int l3)] [] (hC n μ) 0 0 := by
  unfold fO_begin_17b at hf
  refine aw_iload_n (pc' := 18) d_O_begin_17 rfl rfl ?_
  refine aw_aload_n (pc' := 19) d_O_begin_18 rfl rfl ?_
  refine aw_get (pc' := 22) d_O_begin_19 rfl fl_O_9 hC_19 rfl ?_
  refine aw_alen (pc' := 23) d_O_begin_22 rfl rfl hC_12 ?_
  refine aw_icmp_ge (tgt := 85) (pc' := 26) d_O_begin_23 (by decide) rfl (fun c4 => ?_) (fun c4 => ?_)
  · replace hf := aw_ifp c4 hf
    exact aw_weak [false, false, false, false] rfl (wO_begin_85 _ hf)
  · replace hf := aw_ifn c4 hf
    refine aw_aload_n (pc' := 27) d_O_begin_26 rfl rfl ?_
    refine aw_get (pc' := 30) d_O_begin_27 rfl fl_O_15 hC_19 rfl ?_
    refine aw_iload_n (pc' := 31) d_O_begin_30 rfl rfl ?_
    refine aw_aload_n (pc' := 32) d_O_begin_31 rfl rfl ?_
    refine aw_get (pc' := 35) d_O_begin_32 rfl fl_O_28 hC_19 rfl ?_
    refine aw_iconst (pc' := 36) d_O_begin_35 rfl kc_ic_1 ?_
    refine aw_icmp_ne (tgt := 45) (pc' := 39) d_O_begin_36 (by decide) rfl (fun c5 => ?_) (fun c5 => ?_)
    · replace hf := aw_ifn c5 hf
      refine aw_ldc2 (pc' := 48) d_O_begin_45 rfl wk_O_41 ?_
      refine aw_aload_n (pc' := 49) d_O_begin_48 rfl rfl ?_
      refine aw_get (pc' := 52) d_O_begin_49 rfl fl_O_9 hC_19 rfl ?_
      refine aw_alen (pc' := 53) d_O_begin_52 rfl rfl hC_12 ?_
      refine aw_i2l (pc' := 54) d_O_begin_53 rfl ?_
      obtain ⟨r6, hr6, hf⟩ := aw_bind hf
      refine aw_callSv (pc' := 57) (av := [.long (1000000000000 : Int64), .long ((nI n).toInt64)]) d_O_begin_54 rfl wc_O_43 (mO_quotient hr6) (Or.inl rfl) rfl (by decide) (Nat.le_of_ble_eq_true rfl) ⟨(Nat.le_refl 0), (Nat.le_refl 0)⟩ ?_
      exact aw_weak [true, false, false, true] rfl (wO_begin_57 hk17 _ _ _ _ hf)
    · replace hf := aw_ifp c5 hf
      refine aw_ldc2 (pc' := 42) d_O_begin_39 rfl wk_O_39 ?_
      refine aw_goto (tgt := 57) d_O_begin_42 (by decide) ?_
      exact aw_weak [true, false, false, true] rfl (wO_begin_57 hk17 _ _ _ _ hf)
set_option maxRecDepth 20000 in
theorem wO_begin_17 {N : Nat} {n : Nat} {r0 : me_M} : ∀ (F : Nat) (l3 : Int32) (μ : me_M) (hf : fO_begin_17 N n F l3 μ = some r0), AW "ArcTape$Scores" "begin" c_O_begin 4 none 1 0 0 0 (aw_is none (hC n r0)) 17 [some (.ref 19), none, none, some (.int l3)] [] (hC n μ) 0 0 := by
  intro F
  induction F with
  | zero => intro l3 μ hf; exact aw_no hf
  | succ F ih => intro l3 μ hf; exact wO_begin_17b ih l3 μ hf
set_option maxRecDepth 20000 in
theorem mO_begin {N : Nat} {n : Nat} {μ : me_M} {r0 : me_M} {l1 : Int32} {l2 : Int32} (hf : fO_begin N n l1 l2 μ = some r0) : AM y_O_begin c_O_begin 4 none 1 0 0 0 [.ref 19, .int l1, .int l2] (hC n μ) (aw_is none (hC n r0)) := by
  unfold fO_begin at hf
  refine AM.of (own := "ArcTape$Scores") (nm := "begin") (L := [some (.ref 19), some (.int l1), some (.int l2), none]) rfl rfl (by decide) (Nat.le_of_ble_eq_true rfl) rfl ?_
  refine aw_aload_n (pc' := 1) d_O_begin_0 rfl rfl ?_
  refine aw_iload_n (pc' := 2) d_O_begin_1 rfl rfl ?_
  refine aw_puti (pc' := 5) (h' := (hC n (me_wi μ 2006 0 l1))) d_O_begin_2 rfl fp_O_28 hC_19 (Nat.le_of_ble_eq_true rfl) rfl ?_
  refine aw_aload_n (pc' := 6) d_O_begin_5 rfl rfl ?_
  refine aw_iload_n (pc' := 7) d_O_begin_6 rfl rfl ?_
  refine aw_puti (pc' := 10) (h' := (hC n (me_wi (me_wi μ 2006 0 l1) 2007 0 l2))) d_O_begin_7 rfl fp_O_32 hC_19 (Nat.le_of_ble_eq_true rfl) rfl ?_
  refine aw_aload_n (pc' := 11) d_O_begin_10 rfl rfl ?_
  refine aw_lconst (pc' := 12) d_O_begin_11 rfl kc_lc_0 ?_
  refine aw_putj (pc' := 15) (h' := (hC n (me_wl (me_wi (me_wi μ 2006 0 l1) 2007 0 l2) 2003 0 (0 : Int64)))) d_O_begin_12 rfl fp_O_35 hC_19 (Nat.le_of_ble_eq_true rfl) rfl ?_
  refine aw_iconst (pc' := 16) d_O_begin_15 rfl kc_ic_0 ?_
  refine aw_istore_n (pc' := 17) (L' := [some (.ref 19), some (.int l1), some (.int l2), some (.int (0 : Int32))]) d_O_begin_16 rfl (by decide) rfl ?_
  exact aw_weak [true, false, false, true] rfl (wO_begin_17 _ _ _ hf)
set_option maxRecDepth 20000 in
theorem mA_isNode {N : Nat} {n : Nat} {μ : me_M} {r0 : Int32} {l1 : Int32} (hf : fA_isNode N n μ l1 = some r0) : AM y_A_isNode c_A_isNode 2 (some .boolean) 1 0 0 0 [.ref 0, .int l1] (hC n μ) (aw_is (some (.int r0)) (hC n μ)) := by
  unfold fA_isNode at hf
  refine AM.of (own := "ArcTape") (nm := "isNode") (L := [some (.ref 0), some (.int l1)]) rfl rfl (by decide) (Nat.le_of_ble_eq_true rfl) rfl ?_
  refine aw_iload_n (pc' := 1) d_A_isNode_0 rfl rfl ?_
  refine aw_iconst (pc' := 2) d_A_isNode_1 rfl kc_ic_0 ?_
  refine aw_aload_n (pc' := 3) d_A_isNode_2 rfl rfl ?_
  refine aw_get (pc' := 6) d_A_isNode_3 rfl fl_A_18 hC_0 rfl ?_
  refine aw_iconst (pc' := 7) d_A_isNode_6 rfl kc_ic_1 ?_
  refine aw_isub (pc' := 8) d_A_isNode_7 rfl ?_
  obtain ⟨r1, hr1, hf⟩ := aw_bind hf
  refine aw_callSv (pc' := 11) (av := [.int l1, .int (0 : Int32), .int ((nI n) - (1 : Int32))]) d_A_isNode_8 rfl wc_A_97 (mA_within hr1) (Or.inl rfl) rfl (by decide) (Nat.le_of_ble_eq_true rfl) ⟨(Nat.le_refl 0), (Nat.le_refl 0)⟩ ?_
  obtain ⟨g2, hf⟩ := aw_gz hf
  cases hf
  exact aw_zreturn rfl g2.1 d_A_isNode_11 (Nat.le_refl 0) (Nat.le_refl 0) ⟨rfl, rfl⟩
set_option maxRecDepth 20000 in
theorem wA_add_29 {N : Nat} {n : Nat} {r0 : (Int32 × me_M)} (μ : me_M) (hf : fA_add_29 N n μ = some r0) : AW "ArcTape" "add" c_A_add 3 (some .boolean) 2 0 0 0 (aw_is (some (.int r0.1)) (hC n r0.2)) 29 [none, none, none] [] (hC n μ) 0 0 := by
  unfold fA_add_29 at hf
  refine aw_iconst (pc' := 30) d_A_add_29 rfl kc_ic_0 ?_
  obtain ⟨g1, hf⟩ := aw_gz hf
  cases hf
  exact aw_zreturn rfl g1.1 d_A_add_30 (Nat.le_refl 0) (Nat.le_refl 0) ⟨rfl, rfl⟩
set_option maxRecDepth 20000 in
theorem mA_add {N : Nat} {n : Nat} {μ : me_M} {r0 : (Int32 × me_M)} {l1 : Int32} {l2 : Int32} (hf : fA_add N n l1 l2 μ = some r0) : AM y_A_add c_A_add 3 (some .boolean) 2 0 0 0 [.ref 0, .int l1, .int l2] (hC n μ) (aw_is (some (.int r0.1)) (hC n r0.2)) := by
  unfold fA_add at hf
  refine AM.of (own := "ArcTape") (nm := "add") (L := [some (.ref 0), some (.int l1), some (.int l2)]) rfl rfl (by decide) (Nat.le_of_ble_eq_true rfl) rfl ?_
  refine aw_aload_n (pc' := 1) d_A_add_0 rfl rfl ?_
  refine aw_iload_n (pc' := 2) d_A_add_1 rfl rfl ?_
  obtain ⟨r2, hr2, hf⟩ := aw_bind hf
  refine aw_callVv (pc' := 5) (av := [.int l1]) d_A_add_2 rfl wc_A_89 hC_0 (mA_isNode hr2) (Or.inl rfl) rfl (by decide) (Nat.le_of_ble_eq_true rfl) ⟨(Nat.le_refl 0), (Nat.le_refl 0)⟩ ?_
  refine aw_if_eq (tgt := 29) (pc' := 8) d_A_add_5 (by decide) rfl (fun c3 => ?_) (fun c3 => ?_)
  · replace hf := aw_ifp c3 hf
    exact aw_weak [false, false, false] rfl (wA_add_29 _ hf)
  · replace hf := aw_ifn c3 hf
    refine aw_aload_n (pc' := 9) d_A_add_8 rfl rfl ?_
    refine aw_iload_n (pc' := 10) d_A_add_9 rfl rfl ?_
    obtain ⟨r4, hr4, hf⟩ := aw_bind hf
    refine aw_callVv (pc' := 13) (av := [.int l2]) d_A_add_10 rfl wc_A_89 hC_0 (mA_isNode hr4) (Or.inl rfl) rfl (by decide) (Nat.le_of_ble_eq_true rfl) ⟨(Nat.le_refl 0), (Nat.le_refl 0)⟩ ?_
    refine aw_if_eq (tgt := 29) (pc' := 16) d_A_add_13 (by decide) rfl (fun c5 => ?_) (fun c5 => ?_)
    · replace hf := aw_ifp c5 hf
      exact aw_weak [false, false, false] rfl (wA_add_29 _ hf)
    · replace hf := aw_ifn c5 hf
      refine aw_aload_n (pc' := 17) d_A_add_16 rfl rfl ?_
      refine aw_get (pc' := 20) d_A_add_17 rfl fl_A_22 hC_0 rfl ?_
      refine aw_iload_n (pc' := 21) d_A_add_20 rfl rfl ?_
      obtain ⟨g6, hf⟩ := aw_gi hf
      refine aw_iald (pc' := 22) d_A_add_21 rfl rfl hC_1 g6 ?_
      refine aw_iload_n (pc' := 23) d_A_add_22 rfl rfl ?_
      obtain ⟨r7, hr7, hf⟩ := aw_bind hf
      refine aw_callSv (pc' := 26) (av := [.int (μ.1 1 l1.toNatClampNeg), .int l2]) d_A_add_23 rfl wc_A_93 (mA_holds hr7) (Or.inl rfl) rfl (by decide) (Nat.le_of_ble_eq_true rfl) ⟨(Nat.le_refl 0), (Nat.le_refl 0)⟩ ?_
      refine aw_if_eq (tgt := 31) (pc' := 29) d_A_add_26 (by decide) rfl (fun c8 => ?_) (fun c8 => ?_)
      · replace hf := aw_ifp c8 hf
        refine aw_aload_n (pc' := 32) d_A_add_31 rfl rfl ?_
        refine aw_get (pc' := 35) d_A_add_32 rfl fl_A_22 hC_0 rfl ?_
        refine aw_iload_n (pc' := 36) d_A_add_35 rfl rfl ?_
        refine aw_dup2 (pc' := 37) d_A_add_36 rfl rfl rfl ?_
        obtain ⟨g9, hf⟩ := aw_gi hf
        refine aw_iald (pc' := 38) d_A_add_37 rfl rfl hC_1 g9 ?_
        refine aw_iconst (pc' := 39) d_A_add_38 rfl kc_ic_1 ?_
        refine aw_iload_n (pc' := 40) d_A_add_39 rfl rfl ?_
        refine aw_ishl (pc' := 41) d_A_add_40 rfl ?_
        refine aw_ior (pc' := 42) d_A_add_41 rfl ?_
        obtain ⟨g10, hf⟩ := aw_gi hf
        refine aw_iast (pc' := 43) (h' := (hC n (me_wi μ 1 l1.toNatClampNeg ((μ.1 1 l1.toNatClampNeg) ||| ((1 : Int32) <<< (l2 &&& 31)))))) d_A_add_42 rfl rfl hC_1 g10 rfl ?_
        refine aw_iconst (pc' := 44) d_A_add_43 rfl kc_ic_1 ?_
        obtain ⟨g11, hf⟩ := aw_gz hf
        cases hf
        exact aw_zreturn rfl g11.1 d_A_add_44 (Nat.le_refl 0) (Nat.le_refl 0) ⟨rfl, rfl⟩
      · replace hf := aw_ifn c8 hf
        exact aw_weak [false, false, false] rfl (wA_add_29 _ hf)
set_option maxRecDepth 20000 in
theorem wA_drop_29 {N : Nat} {n : Nat} {r0 : (Int32 × me_M)} (μ : me_M) (hf : fA_drop_29 N n μ = some r0) : AW "ArcTape" "drop" c_A_drop 3 (some .boolean) 2 0 0 0 (aw_is (some (.int r0.1)) (hC n r0.2)) 29 [none, none, none] [] (hC n μ) 0 0 := by
  unfold fA_drop_29 at hf
  refine aw_iconst (pc' := 30) d_A_drop_29 rfl kc_ic_0 ?_
  obtain ⟨g1, hf⟩ := aw_gz hf
  cases hf
  exact aw_zreturn rfl g1.1 d_A_drop_30 (Nat.le_refl 0) (Nat.le_refl 0) ⟨rfl, rfl⟩
set_option maxRecDepth 20000 in
theorem mA_drop {N : Nat} {n : Nat} {μ : me_M} {r0 : (Int32 × me_M)} {l1 : Int32} {l2 : Int32} (hf : fA_drop N n l1 l2 μ = some r0) : AM y_A_drop c_A_drop 3 (some .boolean) 2 0 0 0 [.ref 0, .int l1, .int l2] (hC n μ) (aw_is (some (.int r0.1)) (hC n r0.2)) := by
  unfold fA_drop at hf
  refine AM.of (own := "ArcTape") (nm := "drop") (L := [some (.ref 0), some (.int l1), some (.int l2)]) rfl rfl (by decide) (Nat.le_of_ble_eq_true rfl) rfl ?_
  refine aw_aload_n (pc' := 1) d_A_drop_0 rfl rfl ?_
  refine aw_iload_n (pc' := 2) d_A_drop_1 rfl rfl ?_
  obtain ⟨r2, hr2, hf⟩ := aw_bind hf
  refine aw_callVv (pc' := 5) (av := [.int l1]) d_A_drop_2 rfl wc_A_89 hC_0 (mA_isNode hr2) (Or.inl rfl) rfl (by decide) (Nat.le_of_ble_eq_true rfl) ⟨(Nat.le_refl 0), (Nat.le_refl 0)⟩ ?_
  refine aw_if_eq (tgt := 29) (pc' := 8) d_A_drop_5 (by decide) rfl (fun c3 => ?_) (fun c3 => ?_)
  · replace hf := aw_ifp c3 hf
    exact aw_weak [false, false, false] rfl (wA_drop_29 _ hf)
  · replace hf := aw_ifn c3 hf
    refine aw_aload_n (pc' := 9) d_A_drop_8 rfl rfl ?_
    refine aw_iload_n (pc' := 10) d_A_drop_9 rfl rfl ?_
    obtain ⟨r4, hr4, hf⟩ := aw_bind hf
    refine aw_callVv (pc' := 13) (av := [.int l2]) d_A_drop_10 rfl wc_A_89 hC_0 (mA_isNode hr4) (Or.inl rfl) rfl (by decide) (Nat.le_of_ble_eq_true rfl) ⟨(Nat.le_refl 0), (Nat.le_refl 0)⟩ ?_
    refine aw_if_eq (tgt := 29) (pc' := 16) d_A_drop_13 (by decide) rfl (fun c5 => ?_) (fun c5 => ?_)
    · replace hf := aw_ifp c5 hf
      exact aw_weak [false, false, false] rfl (wA_drop_29 _ hf)
    · replace hf := aw_ifn c5 hf
      refine aw_aload_n (pc' := 17) d_A_drop_16 rfl rfl ?_
      refine aw_get (pc' := 20) d_A_drop_17 rfl fl_A_22 hC_0 rfl ?_
      refine aw_iload_n (pc' := 21) d_A_drop_20 rfl rfl ?_
      obtain ⟨g6, hf⟩ := aw_gi hf
      refine aw_iald (pc' := 22) d_A_drop_21 rfl rfl hC_1 g6 ?_
      refine aw_iload_n (pc' := 23) d_A_drop_22 rfl rfl ?_
      obtain ⟨r7, hr7, hf⟩ := aw_bind hf
      refine aw_callSv (pc' := 26) (av := [.int (μ.1 1 l1.toNatClampNeg), .int l2]) d_A_drop_23 rfl wc_A_93 (mA_holds hr7) (Or.inl rfl) rfl (by decide) (Nat.le_of_ble_eq_true rfl) ⟨(Nat.le_refl 0), (Nat.le_refl 0)⟩ ?_
      refine aw_if_ne (tgt := 31) (pc' := 29) d_A_drop_26 (by decide) rfl (fun c8 => ?_) (fun c8 => ?_)
      · replace hf := aw_ifn c8 hf
        refine aw_aload_n (pc' := 32) d_A_drop_31 rfl rfl ?_
        refine aw_get (pc' := 35) d_A_drop_32 rfl fl_A_22 hC_0 rfl ?_
        refine aw_iload_n (pc' := 36) d_A_drop_35 rfl rfl ?_
        refine aw_dup2 (pc' := 37) d_A_drop_36 rfl rfl rfl ?_
        obtain ⟨g9, hf⟩ := aw_gi hf
        refine aw_iald (pc' := 38) d_A_drop_37 rfl rfl hC_1 g9 ?_
        refine aw_iconst (pc' := 39) d_A_drop_38 rfl kc_ic_1 ?_
        refine aw_iload_n (pc' := 40) d_A_drop_39 rfl rfl ?_
        refine aw_ishl (pc' := 41) d_A_drop_40 rfl ?_
        refine aw_iconst (pc' := 42) d_A_drop_41 rfl kc_ic_m1 ?_
        refine aw_ixor (pc' := 43) d_A_drop_42 rfl ?_
        refine aw_iand (pc' := 44) d_A_drop_43 rfl ?_
        obtain ⟨g10, hf⟩ := aw_gi hf
        refine aw_iast (pc' := 45) (h' := (hC n (me_wi μ 1 l1.toNatClampNeg ((μ.1 1 l1.toNatClampNeg) &&& (((1 : Int32) <<< (l2 &&& 31)) ^^^ (-1 : Int32)))))) d_A_drop_44 rfl rfl hC_1 g10 rfl ?_
        refine aw_iconst (pc' := 46) d_A_drop_45 rfl kc_ic_1 ?_
        obtain ⟨g11, hf⟩ := aw_gz hf
        cases hf
        exact aw_zreturn rfl g11.1 d_A_drop_46 (Nat.le_refl 0) (Nat.le_refl 0) ⟨rfl, rfl⟩
      · replace hf := aw_ifp c8 hf
        exact aw_weak [false, false, false] rfl (wA_drop_29 _ hf)
set_option maxRecDepth 20000 in
theorem wA_pack_39 {N : Nat} {n : Nat} {r0 : (Int32 × me_M)} (μ : me_M) (hf : fA_pack_39 N n μ = some r0) : AW "ArcTape" "pack" c_A_pack 5 (some .int) 6 0 0 0 (aw_is (some (.int r0.1)) (hC n r0.2)) 39 [none, none, none, none, none] [] (hC n μ) 0 0 := by
  unfold fA_pack_39 at hf
  refine aw_iconst (pc' := 40) d_A_pack_39 rfl kc_ic_m1 ?_
  cases hf
  exact aw_ireturn rfl d_A_pack_40 (Nat.le_refl 0) (Nat.le_refl 0) ⟨rfl, rfl⟩
set_option maxRecDepth 20000 in
theorem mA_pack {N : Nat} {n : Nat} {μ : me_M} {r0 : (Int32 × me_M)} {l1 : Int32} {l2 : Int32} {l3 : Int32} {l4 : Int32} (hf : fA_pack N n l1 l2 l3 l4 μ = some r0) : AM y_A_pack c_A_pack 5 (some .int) 6 0 0 0 [.ref 0, .int l1, .int l2, .int l3, .int l4] (hC n μ) (aw_is (some (.int r0.1)) (hC n r0.2)) := by
  unfold fA_pack at hf
  refine AM.of (own := "ArcTape") (nm := "pack") (L := [some (.ref 0), some (.int l1), some (.int l2), some (.int l3), some (.int l4)]) rfl rfl (by decide) (Nat.le_of_ble_eq_true rfl) rfl ?_
  refine aw_iload_n (pc' := 1) d_A_pack_0 rfl rfl ?_
  refine aw_iconst (pc' := 2) d_A_pack_1 rfl kc_ic_0 ?_
  refine aw_bipush (pc' := 4) d_A_pack_2 rfl kc_bi_6 ?_
  obtain ⟨r1, hr1, hf⟩ := aw_bind hf
  refine aw_callSv (pc' := 7) (av := [.int l1, .int (0 : Int32), .int (6 : Int32)]) d_A_pack_4 rfl wc_A_97 (mA_within hr1) (Or.inl rfl) rfl (by decide) (Nat.le_of_ble_eq_true rfl) ⟨(Nat.le_refl 0), (Nat.le_refl 0)⟩ ?_
  refine aw_if_eq (tgt := 39) (pc' := 10) d_A_pack_7 (by decide) rfl (fun c2 => ?_) (fun c2 => ?_)
  · replace hf := aw_ifp c2 hf
    exact aw_weak [false, false, false, false, false] rfl (wA_pack_39 _ hf)
  · replace hf := aw_ifn c2 hf
    refine aw_iload_n (pc' := 11) d_A_pack_10 rfl rfl ?_
    refine aw_iconst (pc' := 12) d_A_pack_11 rfl kc_ic_0 ?_
    refine aw_iconst (pc' := 13) d_A_pack_12 rfl kc_ic_3 ?_
    obtain ⟨r3, hr3, hf⟩ := aw_bind hf
    refine aw_callSv (pc' := 16) (av := [.int l2, .int (0 : Int32), .int (3 : Int32)]) d_A_pack_13 rfl wc_A_97 (mA_within hr3) (Or.inl rfl) rfl (by decide) (Nat.le_of_ble_eq_true rfl) ⟨(Nat.le_refl 0), (Nat.le_refl 0)⟩ ?_
    refine aw_if_eq (tgt := 39) (pc' := 19) d_A_pack_16 (by decide) rfl (fun c4 => ?_) (fun c4 => ?_)
    · replace hf := aw_ifp c4 hf
      exact aw_weak [false, false, false, false, false] rfl (wA_pack_39 _ hf)
    · replace hf := aw_ifn c4 hf
      refine aw_iload_n (pc' := 20) d_A_pack_19 rfl rfl ?_
      refine aw_iconst (pc' := 21) d_A_pack_20 rfl kc_ic_0 ?_
      refine aw_bipush (pc' := 23) d_A_pack_21 rfl kc_bi_9 ?_
      obtain ⟨r5, hr5, hf⟩ := aw_bind hf
      refine aw_callSv (pc' := 26) (av := [.int l3, .int (0 : Int32), .int (9 : Int32)]) d_A_pack_23 rfl wc_A_97 (mA_within hr5) (Or.inl rfl) rfl (by decide) (Nat.le_of_ble_eq_true rfl) ⟨(Nat.le_refl 0), (Nat.le_refl 0)⟩ ?_
      refine aw_if_eq (tgt := 39) (pc' := 29) d_A_pack_26 (by decide) rfl (fun c6 => ?_) (fun c6 => ?_)
      · replace hf := aw_ifp c6 hf
        exact aw_weak [false, false, false, false, false] rfl (wA_pack_39 _ hf)
      · replace hf := aw_ifn c6 hf
        refine aw_iload (pc' := 31) d_A_pack_29 rfl rfl ?_
        refine aw_iconst (pc' := 32) d_A_pack_31 rfl kc_ic_1 ?_
        refine aw_iconst (pc' := 33) d_A_pack_32 rfl kc_ic_4 ?_
        obtain ⟨r7, hr7, hf⟩ := aw_bind hf
        refine aw_callSv (pc' := 36) (av := [.int l4, .int (1 : Int32), .int (4 : Int32)]) d_A_pack_33 rfl wc_A_97 (mA_within hr7) (Or.inl rfl) rfl (by decide) (Nat.le_of_ble_eq_true rfl) ⟨(Nat.le_refl 0), (Nat.le_refl 0)⟩ ?_
        refine aw_if_ne (tgt := 41) (pc' := 39) d_A_pack_36 (by decide) rfl (fun c8 => ?_) (fun c8 => ?_)
        · replace hf := aw_ifn c8 hf
          refine aw_aload_n (pc' := 42) d_A_pack_41 rfl rfl ?_
          refine aw_get (pc' := 45) d_A_pack_42 rfl fl_A_38 hC_0 rfl ?_
          refine aw_iload_n (pc' := 46) d_A_pack_45 rfl rfl ?_
          refine aw_puti (pc' := 49) (h' := (hC n (me_wi μ 500 0 l1))) d_A_pack_46 rfl fp_A_101 hC_4 (Nat.le_of_ble_eq_true rfl) rfl ?_
          refine aw_aload_n (pc' := 50) d_A_pack_49 rfl rfl ?_
          refine aw_get (pc' := 53) d_A_pack_50 rfl fl_A_38 hC_0 rfl ?_
          refine aw_iload_n (pc' := 54) d_A_pack_53 rfl rfl ?_
          refine aw_puti (pc' := 57) (h' := (hC n (me_wi (me_wi μ 500 0 l1) 501 0 l2))) d_A_pack_54 rfl fp_A_104 hC_4 (Nat.le_of_ble_eq_true rfl) rfl ?_
          refine aw_aload_n (pc' := 58) d_A_pack_57 rfl rfl ?_
          refine aw_get (pc' := 61) d_A_pack_58 rfl fl_A_38 hC_0 rfl ?_
          refine aw_iload_n (pc' := 62) d_A_pack_61 rfl rfl ?_
          refine aw_puti (pc' := 65) (h' := (hC n (me_wi (me_wi (me_wi μ 500 0 l1) 501 0 l2) 502 0 l3))) d_A_pack_62 rfl fp_A_107 hC_4 (Nat.le_of_ble_eq_true rfl) rfl ?_
          refine aw_aload_n (pc' := 66) d_A_pack_65 rfl rfl ?_
          refine aw_get (pc' := 69) d_A_pack_66 rfl fl_A_38 hC_0 rfl ?_
          refine aw_iload (pc' := 71) d_A_pack_69 rfl rfl ?_
          refine aw_puti (pc' := 74) (h' := (hC n (me_wi (me_wi (me_wi (me_wi μ 500 0 l1) 501 0 l2) 502 0 l3) 503 0 l4))) d_A_pack_71 rfl fp_A_110 hC_4 (Nat.le_of_ble_eq_true rfl) rfl ?_
          refine aw_aload_n (pc' := 75) d_A_pack_74 rfl rfl ?_
          refine aw_get (pc' := 78) d_A_pack_75 rfl fl_A_47 hC_0 rfl ?_
          obtain ⟨r9, hr9, hf⟩ := aw_bind hf
          refine aw_callVn (pc' := 81) (av := []) d_A_pack_78 rfl wc_A_79 hC_6 (mK_writeAll hr9) (Or.inl rfl) rfl (by decide) (Nat.le_of_ble_eq_true rfl) ⟨(Nat.le_refl 0), (Nat.le_refl 0)⟩ ?_
          refine aw_aload_n (pc' := 82) d_A_pack_81 rfl rfl ?_
          refine aw_get (pc' := 85) d_A_pack_82 rfl fl_A_56 hC_0 rfl ?_
          obtain ⟨r10, hr10, hf⟩ := aw_bind hf
          refine aw_callVn (pc' := 88) (av := []) d_A_pack_85 rfl wc_A_82 hC_11 (mD_readAll hr10) (Or.inl rfl) rfl (by decide) (Nat.le_of_ble_eq_true rfl) ⟨(Nat.le_refl 0), (Nat.le_refl 0)⟩ ?_
          refine aw_aload_n (pc' := 89) d_A_pack_88 rfl rfl ?_
          refine aw_get (pc' := 92) d_A_pack_89 rfl fl_A_29 hC_0 rfl ?_
          refine aw_get (pc' := 95) d_A_pack_92 rfl fl_A_113 hC_2 rfl ?_
          cases hf
          exact aw_ireturn rfl d_A_pack_95 (Nat.le_refl 0) (Nat.le_refl 0) ⟨rfl, rfl⟩
        · replace hf := aw_ifp c8 hf
          exact aw_weak [false, false, false, false, false] rfl (wA_pack_39 _ hf)
set_option maxRecDepth 20000 in
theorem wA_offset_25 {N : Nat} {n : Nat} {μ : me_M} {r0 : Int32} (s0 : Int32) (hf : fA_offset_25 N n μ s0 = some r0) : AW "ArcTape" "offset" c_A_offset 2 (some .int) 1 0 0 0 (aw_is (some (.int r0)) (hC n μ)) 25 [none, none] [.int s0] (hC n μ) 0 0 := by
  unfold fA_offset_25 at hf
  cases hf
  exact aw_ireturn rfl d_A_offset_25 (Nat.le_refl 0) (Nat.le_refl 0) ⟨rfl, rfl⟩
set_option maxRecDepth 20000 in
theorem mA_offset {N : Nat} {n : Nat} {μ : me_M} {r0 : Int32} {l1 : Int32} (hf : fA_offset N n μ l1 = some r0) : AM y_A_offset c_A_offset 2 (some .int) 1 0 0 0 [.ref 0, .int l1] (hC n μ) (aw_is (some (.int r0)) (hC n μ)) := by
  unfold fA_offset at hf
  refine AM.of (own := "ArcTape") (nm := "offset") (L := [some (.ref 0), some (.int l1)]) rfl rfl (by decide) (Nat.le_of_ble_eq_true rfl) rfl ?_
  refine aw_iload_n (pc' := 1) d_A_offset_0 rfl rfl ?_
  refine aw_iconst (pc' := 2) d_A_offset_1 rfl kc_ic_0 ?_
  refine aw_aload_n (pc' := 3) d_A_offset_2 rfl rfl ?_
  refine aw_get (pc' := 6) d_A_offset_3 rfl fl_A_18 hC_0 rfl ?_
  obtain ⟨r1, hr1, hf⟩ := aw_bind hf
  refine aw_callSv (pc' := 9) (av := [.int l1, .int (0 : Int32), .int (nI n)]) d_A_offset_6 rfl wc_A_97 (mA_within hr1) (Or.inl rfl) rfl (by decide) (Nat.le_of_ble_eq_true rfl) ⟨(Nat.le_refl 0), (Nat.le_refl 0)⟩ ?_
  refine aw_if_eq (tgt := 24) (pc' := 12) d_A_offset_9 (by decide) rfl (fun c2 => ?_) (fun c2 => ?_)
  · replace hf := aw_ifp c2 hf
    refine aw_iconst (pc' := 25) d_A_offset_24 rfl kc_ic_m1 ?_
    exact aw_weak [false, false] rfl (wA_offset_25 _ hf)
  · replace hf := aw_ifn c2 hf
    refine aw_aload_n (pc' := 13) d_A_offset_12 rfl rfl ?_
    refine aw_get (pc' := 16) d_A_offset_13 rfl fl_A_38 hC_0 rfl ?_
    refine aw_get (pc' := 19) d_A_offset_16 rfl fl_A_116 hC_4 rfl ?_
    refine aw_iload_n (pc' := 20) d_A_offset_19 rfl rfl ?_
    obtain ⟨g3, hf⟩ := aw_gi hf
    refine aw_iald (pc' := 21) d_A_offset_20 rfl rfl hC_5 g3 ?_
    refine aw_goto (tgt := 25) d_A_offset_21 (by decide) ?_
    exact aw_weak [false, false] rfl (wA_offset_25 _ hf)
set_option maxRecDepth 20000 in
theorem mA_isPlace {N : Nat} {n : Nat} {μ : me_M} {r0 : Int32} {l1 : Int32} (hf : fA_isPlace N n μ l1 = some r0) : AM y_A_isPlace c_A_isPlace 2 (some .boolean) 1 0 0 0 [.ref 0, .int l1] (hC n μ) (aw_is (some (.int r0)) (hC n μ)) := by
  unfold fA_isPlace at hf
  refine AM.of (own := "ArcTape") (nm := "isPlace") (L := [some (.ref 0), some (.int l1)]) rfl rfl (by decide) (Nat.le_of_ble_eq_true rfl) rfl ?_
  refine aw_iload_n (pc' := 1) d_A_isPlace_0 rfl rfl ?_
  refine aw_iconst (pc' := 2) d_A_isPlace_1 rfl kc_ic_0 ?_
  refine aw_aload_n (pc' := 3) d_A_isPlace_2 rfl rfl ?_
  refine aw_get (pc' := 6) d_A_isPlace_3 rfl fl_A_29 hC_0 rfl ?_
  refine aw_get (pc' := 9) d_A_isPlace_6 rfl fl_A_113 hC_2 rfl ?_
  refine aw_iconst (pc' := 10) d_A_isPlace_9 rfl kc_ic_1 ?_
  refine aw_isub (pc' := 11) d_A_isPlace_10 rfl ?_
  obtain ⟨r1, hr1, hf⟩ := aw_bind hf
  refine aw_callSv (pc' := 14) (av := [.int l1, .int (0 : Int32), .int ((μ.1 301 0) - (1 : Int32))]) d_A_isPlace_11 rfl wc_A_97 (mA_within hr1) (Or.inl rfl) rfl (by decide) (Nat.le_of_ble_eq_true rfl) ⟨(Nat.le_refl 0), (Nat.le_refl 0)⟩ ?_
  obtain ⟨g2, hf⟩ := aw_gz hf
  cases hf
  exact aw_zreturn rfl g2.1 d_A_isPlace_14 (Nat.le_refl 0) (Nat.le_refl 0) ⟨rfl, rfl⟩
set_option maxRecDepth 20000 in
theorem wA_bit_21 {N : Nat} {n : Nat} {μ : me_M} {r0 : Int32} (s0 : Int32) (hf : fA_bit_21 N n μ s0 = some r0) : AW "ArcTape" "bit" c_A_bit 2 (some .int) 2 0 0 0 (aw_is (some (.int r0)) (hC n μ)) 21 [none, none] [.int s0] (hC n μ) 0 0 := by
  unfold fA_bit_21 at hf
  cases hf
  exact aw_ireturn rfl d_A_bit_21 (Nat.le_refl 0) (Nat.le_refl 0) ⟨rfl, rfl⟩
set_option maxRecDepth 20000 in
theorem mA_bit {N : Nat} {n : Nat} {μ : me_M} {r0 : Int32} {l1 : Int32} (hf : fA_bit N n μ l1 = some r0) : AM y_A_bit c_A_bit 2 (some .int) 2 0 0 0 [.ref 0, .int l1] (hC n μ) (aw_is (some (.int r0)) (hC n μ)) := by
  unfold fA_bit at hf
  refine AM.of (own := "ArcTape") (nm := "bit") (L := [some (.ref 0), some (.int l1)]) rfl rfl (by decide) (Nat.le_of_ble_eq_true rfl) rfl ?_
  refine aw_aload_n (pc' := 1) d_A_bit_0 rfl rfl ?_
  refine aw_iload_n (pc' := 2) d_A_bit_1 rfl rfl ?_
  obtain ⟨r1, hr1, hf⟩ := aw_bind hf
  refine aw_callVv (pc' := 5) (av := [.int l1]) d_A_bit_2 rfl wc_A_119 hC_0 (mA_isPlace hr1) (Or.inl rfl) rfl (by decide) (Nat.le_of_ble_eq_true rfl) ⟨(Nat.le_refl 0), (Nat.le_refl 0)⟩ ?_
  refine aw_if_eq (tgt := 20) (pc' := 8) d_A_bit_5 (by decide) rfl (fun c2 => ?_) (fun c2 => ?_)
  · replace hf := aw_ifp c2 hf
    refine aw_iconst (pc' := 21) d_A_bit_20 rfl kc_ic_m1 ?_
    exact aw_weak [false, false] rfl (wA_bit_21 _ hf)
  · replace hf := aw_ifn c2 hf
    refine aw_aload_n (pc' := 9) d_A_bit_8 rfl rfl ?_
    refine aw_get (pc' := 12) d_A_bit_9 rfl fl_A_29 hC_0 rfl ?_
    refine aw_get (pc' := 15) d_A_bit_12 rfl fl_A_122 hC_2 rfl ?_
    refine aw_iload_n (pc' := 16) d_A_bit_15 rfl rfl ?_
    obtain ⟨g3, hf⟩ := aw_gi hf
    refine aw_bald (pc' := 17) d_A_bit_16 rfl rfl hC_3 g3 ?_
    refine aw_goto (tgt := 21) d_A_bit_17 (by decide) ?_
    exact aw_weak [false, false] rfl (wA_bit_21 _ hf)
set_option maxRecDepth 20000 in
theorem mA_flip {N : Nat} {n : Nat} {μ : me_M} {r0 : (Int32 × me_M)} {l1 : Int32} (hf : fA_flip N n l1 μ = some r0) : AM y_A_flip c_A_flip 2 (some .boolean) 6 0 0 0 [.ref 0, .int l1] (hC n μ) (aw_is (some (.int r0.1)) (hC n r0.2)) := by
  unfold fA_flip at hf
  refine AM.of (own := "ArcTape") (nm := "flip") (L := [some (.ref 0), some (.int l1)]) rfl rfl (by decide) (Nat.le_of_ble_eq_true rfl) rfl ?_
  refine aw_aload_n (pc' := 1) d_A_flip_0 rfl rfl ?_
  refine aw_iload_n (pc' := 2) d_A_flip_1 rfl rfl ?_
  obtain ⟨r1, hr1, hf⟩ := aw_bind hf
  refine aw_callVv (pc' := 5) (av := [.int l1]) d_A_flip_2 rfl wc_A_119 hC_0 (mA_isPlace hr1) (Or.inl rfl) rfl (by decide) (Nat.le_of_ble_eq_true rfl) ⟨(Nat.le_refl 0), (Nat.le_refl 0)⟩ ?_
  refine aw_if_ne (tgt := 10) (pc' := 8) d_A_flip_5 (by decide) rfl (fun c2 => ?_) (fun c2 => ?_)
  · replace hf := aw_ifn c2 hf
    refine aw_aload_n (pc' := 11) d_A_flip_10 rfl rfl ?_
    refine aw_get (pc' := 14) d_A_flip_11 rfl fl_A_29 hC_0 rfl ?_
    refine aw_get (pc' := 17) d_A_flip_14 rfl fl_A_122 hC_2 rfl ?_
    refine aw_iload_n (pc' := 18) d_A_flip_17 rfl rfl ?_
    refine aw_iconst (pc' := 19) d_A_flip_18 rfl kc_ic_1 ?_
    refine aw_aload_n (pc' := 20) d_A_flip_19 rfl rfl ?_
    refine aw_get (pc' := 23) d_A_flip_20 rfl fl_A_29 hC_0 rfl ?_
    refine aw_get (pc' := 26) d_A_flip_23 rfl fl_A_122 hC_2 rfl ?_
    refine aw_iload_n (pc' := 27) d_A_flip_26 rfl rfl ?_
    obtain ⟨g3, hf⟩ := aw_gi hf
    refine aw_bald (pc' := 28) d_A_flip_27 rfl rfl hC_3 g3 ?_
    refine aw_isub (pc' := 29) d_A_flip_28 rfl ?_
    refine aw_i2b (pc' := 30) d_A_flip_29 rfl ?_
    obtain ⟨g4, hf⟩ := aw_gi hf
    refine aw_bast (pc' := 31) (h' := (hC n (me_wi μ 3 l1.toNatClampNeg (vp_nar .byte (((1 : Int32) - (μ.1 3 l1.toNatClampNeg)).toInt8.toInt32))))) d_A_flip_30 rfl rfl hC_3 g4 rfl ?_
    refine aw_aload_n (pc' := 32) d_A_flip_31 rfl rfl ?_
    refine aw_get (pc' := 35) d_A_flip_32 rfl fl_A_56 hC_0 rfl ?_
    obtain ⟨r5, hr5, hf⟩ := aw_bind hf
    refine aw_callVn (pc' := 38) (av := []) d_A_flip_35 rfl wc_A_82 hC_11 (mD_readAll hr5) (Or.inl rfl) rfl (by decide) (Nat.le_of_ble_eq_true rfl) ⟨(Nat.le_refl 0), (Nat.le_refl 0)⟩ ?_
    refine aw_iconst (pc' := 39) d_A_flip_38 rfl kc_ic_1 ?_
    obtain ⟨g6, hf⟩ := aw_gz hf
    cases hf
    exact aw_zreturn rfl g6.1 d_A_flip_39 (Nat.le_refl 0) (Nat.le_refl 0) ⟨rfl, rfl⟩
  · replace hf := aw_ifp c2 hf
    refine aw_iconst (pc' := 9) d_A_flip_8 rfl kc_ic_0 ?_
    obtain ⟨g7, hf⟩ := aw_gz hf
    cases hf
    exact aw_zreturn rfl g7.1 d_A_flip_9 (Nat.le_refl 0) (Nat.le_refl 0) ⟨rfl, rfl⟩
set_option maxRecDepth 20000 in
theorem wA_degree_48 {N : Nat} {n : Nat} {μ : me_M} {r0 : Int32} (s0 : Int32) (hf : fA_degree_48 N n μ s0 = some r0) : AW "ArcTape" "degree" c_A_degree 2 (some .int) 2 0 0 0 (aw_is (some (.int r0)) (hC n μ)) 48 [none, none] [.int s0] (hC n μ) 0 0 := by
  unfold fA_degree_48 at hf
  cases hf
  exact aw_ireturn rfl d_A_degree_48 (Nat.le_refl 0) (Nat.le_refl 0) ⟨rfl, rfl⟩
set_option maxRecDepth 20000 in
theorem mA_degree {N : Nat} {n : Nat} {μ : me_M} {r0 : Int32} {l1 : Int32} (hf : fA_degree N n μ l1 = some r0) : AM y_A_degree c_A_degree 2 (some .int) 2 0 0 0 [.ref 0, .int l1] (hC n μ) (aw_is (some (.int r0)) (hC n μ)) := by
  unfold fA_degree at hf
  refine AM.of (own := "ArcTape") (nm := "degree") (L := [some (.ref 0), some (.int l1)]) rfl rfl (by decide) (Nat.le_of_ble_eq_true rfl) rfl ?_
  refine aw_aload_n (pc' := 1) d_A_degree_0 rfl rfl ?_
  refine aw_iload_n (pc' := 2) d_A_degree_1 rfl rfl ?_
  obtain ⟨r1, hr1, hf⟩ := aw_bind hf
  refine aw_callVv (pc' := 5) (av := [.int l1]) d_A_degree_2 rfl wc_A_89 hC_0 (mA_isNode hr1) (Or.inl rfl) rfl (by decide) (Nat.le_of_ble_eq_true rfl) ⟨(Nat.le_refl 0), (Nat.le_refl 0)⟩ ?_
  refine aw_if_ne (tgt := 11) (pc' := 8) d_A_degree_5 (by decide) rfl (fun c2 => ?_) (fun c2 => ?_)
  · replace hf := aw_ifn c2 hf
    refine aw_aload_n (pc' := 12) d_A_degree_11 rfl rfl ?_
    refine aw_get (pc' := 15) d_A_degree_12 rfl fl_A_56 hC_0 rfl ?_
    refine aw_get (pc' := 18) d_A_degree_15 rfl fl_A_126 hC_11 rfl ?_
    refine aw_iload_n (pc' := 19) d_A_degree_18 rfl rfl ?_
    obtain ⟨g3, hf⟩ := aw_gi hf
    refine aw_iald (pc' := 20) d_A_degree_19 rfl rfl hC_13 g3 ?_
    refine aw_if_ne (tgt := 38) (pc' := 23) d_A_degree_20 (by decide) rfl (fun c4 => ?_) (fun c4 => ?_)
    · replace hf := aw_ifn c4 hf
      refine aw_aload_n (pc' := 39) d_A_degree_38 rfl rfl ?_
      refine aw_get (pc' := 42) d_A_degree_39 rfl fl_A_56 hC_0 rfl ?_
      refine aw_get (pc' := 45) d_A_degree_42 rfl fl_A_126 hC_11 rfl ?_
      refine aw_iload_n (pc' := 46) d_A_degree_45 rfl rfl ?_
      obtain ⟨g5, hf⟩ := aw_gi hf
      refine aw_iald (pc' := 47) d_A_degree_46 rfl rfl hC_13 g5 ?_
      refine aw_ineg (pc' := 48) d_A_degree_47 rfl ?_
      exact aw_weak [false, false] rfl (wA_degree_48 _ hf)
    · replace hf := aw_ifp c4 hf
      refine aw_aload_n (pc' := 24) d_A_degree_23 rfl rfl ?_
      refine aw_get (pc' := 27) d_A_degree_24 rfl fl_A_56 hC_0 rfl ?_
      refine aw_get (pc' := 30) d_A_degree_27 rfl fl_A_62 hC_11 rfl ?_
      refine aw_iload_n (pc' := 31) d_A_degree_30 rfl rfl ?_
      obtain ⟨g6, hf⟩ := aw_gi hf
      refine aw_iald (pc' := 32) d_A_degree_31 rfl rfl hC_12 g6 ?_
      obtain ⟨r7, hr7, hf⟩ := aw_bind hf
      refine aw_callSv (pc' := 35) (av := [.int (μ.1 12 l1.toNatClampNeg)]) d_A_degree_32 rfl wc_A_129 (mJ_bitCount hr7) (Or.inl rfl) rfl (by decide) (Nat.le_of_ble_eq_true rfl) ⟨(Nat.le_refl 0), (Nat.le_refl 0)⟩ ?_
      refine aw_goto (tgt := 48) d_A_degree_35 (by decide) ?_
      exact aw_weak [false, false] rfl (wA_degree_48 _ hf)
  · replace hf := aw_ifp c2 hf
    refine aw_bipush (pc' := 10) d_A_degree_8 rfl kc_bi_m100 ?_
    cases hf
    exact aw_ireturn rfl d_A_degree_10 (Nat.le_refl 0) (Nat.le_refl 0) ⟨rfl, rfl⟩
set_option maxRecDepth 20000 in
theorem wA_successor_58 {N : Nat} {n : Nat} {μ : me_M} {r0 : Int32} (hf : fA_successor_58 N n μ = some r0) : AW "ArcTape" "successor" c_A_successor 5 (some .int) 2 0 0 0 (aw_is (some (.int r0)) (hC n μ)) 58 [none, none, none, none, none] [] (hC n μ) 0 0 := by
  unfold fA_successor_58 at hf
  refine aw_iconst (pc' := 59) d_A_successor_58 rfl kc_ic_m1 ?_
  cases hf
  exact aw_ireturn rfl d_A_successor_59 (Nat.le_refl 0) (Nat.le_refl 0) ⟨rfl, rfl⟩
set_option maxRecDepth 20000 in
theorem wA_successor_52 {N : Nat} {n : Nat} {μ : me_M} {r0 : Int32} {k15 : Int32 → Int32 → Int32 → Int32 → Option Int32} (hk15 : ∀ (l1 : Int32) (l2 : Int32) (l3 : Int32) (l4 : Int32), k15 l1 l2 l3 l4 = some r0 → AW "ArcTape" "successor" c_A_successor 5 (some .int) 2 0 0 0 (aw_is (some (.int r0)) (hC n μ)) 15 [some (.ref 0), some (.int l1), some (.int l2), some (.int l3), some (.int l4)] [] (hC n μ) 0 0) (l1 : Int32) (l2 : Int32) (l3 : Int32) (l4 : Int32) (hf : fA_successor_52 N n μ k15 l1 l2 l3 l4 = some r0) : AW "ArcTape" "successor" c_A_successor 5 (some .int) 2 0 0 0 (aw_is (some (.int r0)) (hC n μ)) 52 [some (.ref 0), some (.int l1), some (.int l2), some (.int l3), some (.int l4)] [] (hC n μ) 0 0 := by
  unfold fA_successor_52 at hf
  refine aw_iinc (pc' := 55) (L' := [some (.ref 0), some (.int l1), some (.int l2), some (.int l3), some (.int (l4 + (1 : Int32)))]) d_A_successor_52 rfl kc_ic_1 rfl (by decide) rfl ?_
  refine aw_goto (tgt := 15) d_A_successor_55 (by decide) ?_
  exact aw_weak [true, true, true, true, true] rfl (hk15 _ _ _ _ hf)
set_option maxRecDepth 20000 in
theorem wA_successor_15b {N : Nat} {n : Nat} {μ : me_M} {r0 : Int32} {k15 : Int32 → Int32 → Int32 → Int32 → Option Int32} (hk15 : ∀ (l1 : Int32) (l2 : Int32) (l3 : Int32) (l4 : Int32), k15 l1 l2 l3 l4 = some r0 → AW "ArcTape" "successor" c_A_successor 5 (some .int) 2 0 0 0 (aw_is (some (.int r0)) (hC n μ)) 15 [some (.ref 0), some (.int l1), some (.int l2), some (.int l3), some (.int l4)] [] (hC n μ) 0 0) (l1 : Int32) (l2 : Int32) (l3 : Int32) (l4 : Int32) (hf : fA_successor_15b N n μ k15 l1 l2 l3 l4 = some r0) : AW "ArcTape" "successor" c_A_successor 5 (some .int) 2 0 0 0 (aw_is (some (.int r0)) (hC n μ)) 15 [some (.ref 0), some (.int l1), some (.int l2), some (.int l3), some (.int l4)] [] (hC n μ) 0 0 := by
  unfold fA_successor_15b at hf
  refine aw_iload (pc' := 17) d_A_successor_15 rfl rfl ?_
  refine aw_aload_n (pc' := 18) d_A_successor_17 rfl rfl ?_
  refine aw_get (pc' := 21) d_A_successor_18 rfl fl_A_18 hC_0 rfl ?_
  refine aw_icmp_ge (tgt := 58) (pc' := 24) d_A_successor_21 (by decide) rfl (fun c1 => ?_) (fun c1 => ?_)
  · replace hf := aw_ifp c1 hf
    exact aw_weak [false, false, false, false, false] rfl (wA_successor_58  hf)
  · replace hf := aw_ifn c1 hf
    refine aw_aload_n (pc' := 25) d_A_successor_24 rfl rfl ?_
    refine aw_get (pc' := 28) d_A_successor_25 rfl fl_A_56 hC_0 rfl ?_
    refine aw_get (pc' := 31) d_A_successor_28 rfl fl_A_62 hC_11 rfl ?_
    refine aw_iload_n (pc' := 32) d_A_successor_31 rfl rfl ?_
    obtain ⟨g2, hf⟩ := aw_gi hf
    refine aw_iald (pc' := 33) d_A_successor_32 rfl rfl hC_12 g2 ?_
    refine aw_iload (pc' := 35) d_A_successor_33 rfl rfl ?_
    obtain ⟨r3, hr3, hf⟩ := aw_bind hf
    refine aw_callSv (pc' := 38) (av := [.int (μ.1 12 l1.toNatClampNeg), .int l4]) d_A_successor_35 rfl wc_A_93 (mA_holds hr3) (Or.inl rfl) rfl (by decide) (Nat.le_of_ble_eq_true rfl) ⟨(Nat.le_refl 0), (Nat.le_refl 0)⟩ ?_
    refine aw_if_eq (tgt := 52) (pc' := 41) d_A_successor_38 (by decide) rfl (fun c4 => ?_) (fun c4 => ?_)
    · replace hf := aw_ifp c4 hf
      exact aw_weak [true, true, true, true, true] rfl (wA_successor_52 hk15 _ _ _ _ hf)
    · replace hf := aw_ifn c4 hf
      refine aw_iload_n (pc' := 42) d_A_successor_41 rfl rfl ?_
      refine aw_iload_n (pc' := 43) d_A_successor_42 rfl rfl ?_
      refine aw_icmp_ne (tgt := 49) (pc' := 46) d_A_successor_43 (by decide) rfl (fun c5 => ?_) (fun c5 => ?_)
      · replace hf := aw_ifn c5 hf
        refine aw_iinc (pc' := 52) (L' := [some (.ref 0), some (.int l1), some (.int l2), some (.int (l3 + (1 : Int32))), some (.int l4)]) d_A_successor_49 rfl kc_ic_1 rfl (by decide) rfl ?_
        exact aw_weak [true, true, true, true, true] rfl (wA_successor_52 hk15 _ _ _ _ hf)
      · replace hf := aw_ifp c5 hf
        refine aw_iload (pc' := 48) d_A_successor_46 rfl rfl ?_
        cases hf
        exact aw_ireturn rfl d_A_successor_48 (Nat.le_refl 0) (Nat.le_refl 0) ⟨rfl, rfl⟩
set_option maxRecDepth 20000 in
theorem wA_successor_15 {N : Nat} {n : Nat} {μ : me_M} {r0 : Int32} : ∀ (F : Nat) (l1 : Int32) (l2 : Int32) (l3 : Int32) (l4 : Int32) (hf : fA_successor_15 N n μ F l1 l2 l3 l4 = some r0), AW "ArcTape" "successor" c_A_successor 5 (some .int) 2 0 0 0 (aw_is (some (.int r0)) (hC n μ)) 15 [some (.ref 0), some (.int l1), some (.int l2), some (.int l3), some (.int l4)] [] (hC n μ) 0 0 := by
  intro F
  induction F with
  | zero => intro l1 l2 l3 l4 hf; exact aw_no hf
  | succ F ih => intro l1 l2 l3 l4 hf; exact wA_successor_15b ih l1 l2 l3 l4 hf
set_option maxRecDepth 20000 in
theorem mA_successor {N : Nat} {n : Nat} {μ : me_M} {r0 : Int32} {l1 : Int32} {l2 : Int32} (hf : fA_successor N n μ l1 l2 = some r0) : AM y_A_successor c_A_successor 5 (some .int) 2 0 0 0 [.ref 0, .int l1, .int l2] (hC n μ) (aw_is (some (.int r0)) (hC n μ)) := by
  unfold fA_successor at hf
  refine AM.of (own := "ArcTape") (nm := "successor") (L := [some (.ref 0), some (.int l1), some (.int l2), none, none]) rfl rfl (by decide) (Nat.le_of_ble_eq_true rfl) rfl ?_
  refine aw_aload_n (pc' := 1) d_A_successor_0 rfl rfl ?_
  refine aw_iload_n (pc' := 2) d_A_successor_1 rfl rfl ?_
  obtain ⟨r6, hr6, hf⟩ := aw_bind hf
  refine aw_callVv (pc' := 5) (av := [.int l1]) d_A_successor_2 rfl wc_A_89 hC_0 (mA_isNode hr6) (Or.inl rfl) rfl (by decide) (Nat.le_of_ble_eq_true rfl) ⟨(Nat.le_refl 0), (Nat.le_refl 0)⟩ ?_
  refine aw_if_ne (tgt := 10) (pc' := 8) d_A_successor_5 (by decide) rfl (fun c7 => ?_) (fun c7 => ?_)
  · replace hf := aw_ifn c7 hf
    refine aw_iconst (pc' := 11) d_A_successor_10 rfl kc_ic_0 ?_
    refine aw_istore_n (pc' := 12) (L' := [some (.ref 0), some (.int l1), some (.int l2), some (.int (0 : Int32)), none]) d_A_successor_11 rfl (by decide) rfl ?_
    refine aw_iconst (pc' := 13) d_A_successor_12 rfl kc_ic_0 ?_
    refine aw_istore (pc' := 15) (L' := [some (.ref 0), some (.int l1), some (.int l2), some (.int (0 : Int32)), some (.int (0 : Int32))]) d_A_successor_13 rfl (by decide) rfl ?_
    exact aw_weak [true, true, true, true, true] rfl (wA_successor_15 _ _ _ _ _ hf)
  · replace hf := aw_ifp c7 hf
    refine aw_iconst (pc' := 9) d_A_successor_8 rfl kc_ic_m1 ?_
    cases hf
    exact aw_ireturn rfl d_A_successor_9 (Nat.le_refl 0) (Nat.le_refl 0) ⟨rfl, rfl⟩
set_option maxRecDepth 20000 in
theorem wA_reference_33 {N : Nat} {n : Nat} {μ : me_M} {r0 : Int32} (s0 : Int32) (hf : fA_reference_33 N n μ s0 = some r0) : AW "ArcTape" "reference" c_A_reference 2 (some .int) 2 0 0 0 (aw_is (some (.int r0)) (hC n μ)) 33 [none, none] [.int s0] (hC n μ) 0 0 := by
  unfold fA_reference_33 at hf
  cases hf
  exact aw_ireturn rfl d_A_reference_33 (Nat.le_refl 0) (Nat.le_refl 0) ⟨rfl, rfl⟩
set_option maxRecDepth 20000 in
theorem wA_reference_32 {N : Nat} {n : Nat} {μ : me_M} {r0 : Int32} (hf : fA_reference_32 N n μ = some r0) : AW "ArcTape" "reference" c_A_reference 2 (some .int) 2 0 0 0 (aw_is (some (.int r0)) (hC n μ)) 32 [none, none] [] (hC n μ) 0 0 := by
  unfold fA_reference_32 at hf
  refine aw_iconst (pc' := 33) d_A_reference_32 rfl kc_ic_m1 ?_
  exact aw_weak [false, false] rfl (wA_reference_33 _ hf)
set_option maxRecDepth 20000 in
theorem mA_reference {N : Nat} {n : Nat} {μ : me_M} {r0 : Int32} {l1 : Int32} (hf : fA_reference N n μ l1 = some r0) : AM y_A_reference c_A_reference 2 (some .int) 2 0 0 0 [.ref 0, .int l1] (hC n μ) (aw_is (some (.int r0)) (hC n μ)) := by
  unfold fA_reference at hf
  refine AM.of (own := "ArcTape") (nm := "reference") (L := [some (.ref 0), some (.int l1)]) rfl rfl (by decide) (Nat.le_of_ble_eq_true rfl) rfl ?_
  refine aw_aload_n (pc' := 1) d_A_reference_0 rfl rfl ?_
  refine aw_iload_n (pc' := 2) d_A_reference_1 rfl rfl ?_
  obtain ⟨r1, hr1, hf⟩ := aw_bind hf
  refine aw_callVv (pc' := 5) (av := [.int l1]) d_A_reference_2 rfl wc_A_89 hC_0 (mA_isNode hr1) (Or.inl rfl) rfl (by decide) (Nat.le_of_ble_eq_true rfl) ⟨(Nat.le_refl 0), (Nat.le_refl 0)⟩ ?_
  refine aw_if_eq (tgt := 32) (pc' := 8) d_A_reference_5 (by decide) rfl (fun c2 => ?_) (fun c2 => ?_)
  · replace hf := aw_ifp c2 hf
    exact aw_weak [false, false] rfl (wA_reference_32  hf)
  · replace hf := aw_ifn c2 hf
    refine aw_aload_n (pc' := 9) d_A_reference_8 rfl rfl ?_
    refine aw_get (pc' := 12) d_A_reference_9 rfl fl_A_56 hC_0 rfl ?_
    refine aw_get (pc' := 15) d_A_reference_12 rfl fl_A_126 hC_11 rfl ?_
    refine aw_iload_n (pc' := 16) d_A_reference_15 rfl rfl ?_
    obtain ⟨g3, hf⟩ := aw_gi hf
    refine aw_iald (pc' := 17) d_A_reference_16 rfl rfl hC_13 g3 ?_
    refine aw_if_ne (tgt := 32) (pc' := 20) d_A_reference_17 (by decide) rfl (fun c4 => ?_) (fun c4 => ?_)
    · replace hf := aw_ifn c4 hf
      exact aw_weak [false, false] rfl (wA_reference_32  hf)
    · replace hf := aw_ifp c4 hf
      refine aw_aload_n (pc' := 21) d_A_reference_20 rfl rfl ?_
      refine aw_get (pc' := 24) d_A_reference_21 rfl fl_A_56 hC_0 rfl ?_
      refine aw_get (pc' := 27) d_A_reference_24 rfl fl_A_135 hC_11 rfl ?_
      refine aw_iload_n (pc' := 28) d_A_reference_27 rfl rfl ?_
      obtain ⟨g5, hf⟩ := aw_gi hf
      refine aw_iald (pc' := 29) d_A_reference_28 rfl rfl hC_14 g5 ?_
      refine aw_goto (tgt := 33) d_A_reference_29 (by decide) ?_
      exact aw_weak [false, false] rfl (wA_reference_33 _ hf)
set_option maxRecDepth 20000 in
theorem wS_findReached_95 {N : Nat} {n : Nat} {r0 : me_M} (μ : me_M) (hf : fS_findReached_95 N n μ = some r0) : AW "ArcTape$Parts" "findReached" c_S_findReached 3 none 1 0 0 0 (aw_is none (hC n r0)) 95 [none, none, none] [] (hC n μ) 0 0 := by
  unfold fS_findReached_95 at hf
  cases hf
  exact aw_return rfl d_S_findReached_95 (Nat.le_refl 0) (Nat.le_refl 0) ⟨rfl, rfl⟩
set_option maxRecDepth 20000 in
theorem wS_findReached_89 {N : Nat} {n : Nat} {r0 : me_M} {k35 : Int32 → me_M → Option me_M} (hk35 : ∀ (l1 : Int32) (μ : me_M), k35 l1 μ = some r0 → AW "ArcTape$Parts" "findReached" c_S_findReached 3 none 1 0 0 0 (aw_is none (hC n r0)) 35 [some (.ref 16), some (.int l1), none] [] (hC n μ) 0 0) (l1 : Int32) (μ : me_M) (hf : fS_findReached_89 N n k35 l1 μ = some r0) : AW "ArcTape$Parts" "findReached" c_S_findReached 3 none 1 0 0 0 (aw_is none (hC n r0)) 89 [some (.ref 16), some (.int l1), none] [] (hC n μ) 0 0 := by
  unfold fS_findReached_89 at hf
  refine aw_iinc (pc' := 92) (L' := [some (.ref 16), some (.int (l1 + (1 : Int32))), none]) d_S_findReached_89 rfl kc_ic_1 rfl (by decide) rfl ?_
  refine aw_goto (tgt := 35) d_S_findReached_92 (by decide) ?_
  exact aw_weak [true, true, false] rfl (hk35 _ _ hf)
set_option maxRecDepth 20000 in
theorem wS_findReached_83 {N : Nat} {n : Nat} {r0 : me_M} {k35 : Int32 → me_M → Option me_M} (hk35 : ∀ (l1 : Int32) (μ : me_M), k35 l1 μ = some r0 → AW "ArcTape$Parts" "findReached" c_S_findReached 3 none 1 0 0 0 (aw_is none (hC n r0)) 35 [some (.ref 16), some (.int l1), none] [] (hC n μ) 0 0) {k46 : Int32 → Int32 → me_M → Option me_M} (hk46 : ∀ (l1 : Int32) (l2 : Int32) (μ : me_M), k46 l1 l2 μ = some r0 → AW "ArcTape$Parts" "findReached" c_S_findReached 3 none 1 0 0 0 (aw_is none (hC n r0)) 46 [some (.ref 16), some (.int l1), some (.int l2)] [] (hC n μ) 0 0) (l1 : Int32) (l2 : Int32) (μ : me_M) (hf : fS_findReached_83 N n k35 k46 l1 l2 μ = some r0) : AW "ArcTape$Parts" "findReached" c_S_findReached 3 none 1 0 0 0 (aw_is none (hC n r0)) 83 [some (.ref 16), some (.int l1), some (.int l2)] [] (hC n μ) 0 0 := by
  unfold fS_findReached_83 at hf
  refine aw_iinc (pc' := 86) (L' := [some (.ref 16), some (.int l1), some (.int (l2 + (1 : Int32)))]) d_S_findReached_83 rfl kc_ic_1 rfl (by decide) rfl ?_
  refine aw_goto (tgt := 46) d_S_findReached_86 (by decide) ?_
  exact aw_weak [true, true, true] rfl (hk46 _ _ _ hf)
set_option maxRecDepth 20000 in
theorem wS_findReached_46b {N : Nat} {n : Nat} {r0 : me_M} {k35 : Int32 → me_M → Option me_M} (hk35 : ∀ (l1 : Int32) (μ : me_M), k35 l1 μ = some r0 → AW "ArcTape$Parts" "findReached" c_S_findReached 3 none 1 0 0 0 (aw_is none (hC n r0)) 35 [some (.ref 16), some (.int l1), none] [] (hC n μ) 0 0) {k46 : Int32 → Int32 → me_M → Option me_M} (hk46 : ∀ (l1 : Int32) (l2 : Int32) (μ : me_M), k46 l1 l2 μ = some r0 → AW "ArcTape$Parts" "findReached" c_S_findReached 3 none 1 0 0 0 (aw_is none (hC n r0)) 46 [some (.ref 16), some (.int l1), some (.int l2)] [] (hC n μ) 0 0) (l1 : Int32) (l2 : Int32) (μ : me_M) (hf : fS_findReached_46b N n k35 k46 l1 l2 μ = some r0) : AW "ArcTape$Parts" "findReached" c_S_findReached 3 none 1 0 0 0 (aw_is none (hC n r0)) 46 [some (.ref 16), some (.int l1), some (.int l2)] [] (hC n μ) 0 0 := by
  unfold fS_findReached_46b at hf
  refine aw_iload_n (pc' := 47) d_S_findReached_46 rfl rfl ?_
  refine aw_aload_n (pc' := 48) d_S_findReached_47 rfl rfl ?_
  refine aw_get (pc' := 51) d_S_findReached_48 rfl fl_S_7 hC_16 rfl ?_
  refine aw_alen (pc' := 52) d_S_findReached_51 rfl rfl hC_12 ?_
  refine aw_icmp_ge (tgt := 89) (pc' := 55) d_S_findReached_52 (by decide) rfl (fun c1 => ?_) (fun c1 => ?_)
  · replace hf := aw_ifp c1 hf
    exact aw_weak [true, true, false] rfl (wS_findReached_89 hk35 _ _ hf)
  · replace hf := aw_ifn c1 hf
    refine aw_aload_n (pc' := 56) d_S_findReached_55 rfl rfl ?_
    refine aw_get (pc' := 59) d_S_findReached_56 rfl fl_S_16 hC_16 rfl ?_
    refine aw_iload_n (pc' := 60) d_S_findReached_59 rfl rfl ?_
    obtain ⟨g2, hf⟩ := aw_gi hf
    refine aw_iald (pc' := 61) d_S_findReached_60 rfl rfl hC_18 g2 ?_
    refine aw_iload_n (pc' := 62) d_S_findReached_61 rfl rfl ?_
    obtain ⟨r3, hr3, hf⟩ := aw_bind hf
    refine aw_callNv (pc' := 65) (av := [.int (μ.1 18 l2.toNatClampNeg), .int l1]) d_S_findReached_62 rfl wc_S_29 (mA_holds hr3) (Or.inl rfl) rfl (by decide) (Nat.le_of_ble_eq_true rfl) ⟨(Nat.le_refl 0), (Nat.le_refl 0)⟩ ?_
    refine aw_if_eq (tgt := 83) (pc' := 68) d_S_findReached_65 (by decide) rfl (fun c4 => ?_) (fun c4 => ?_)
    · replace hf := aw_ifp c4 hf
      exact aw_weak [true, true, true] rfl (wS_findReached_83 hk35 hk46 _ _ _ hf)
    · replace hf := aw_ifn c4 hf
      refine aw_aload_n (pc' := 69) d_S_findReached_68 rfl rfl ?_
      refine aw_get (pc' := 72) d_S_findReached_69 rfl fl_S_16 hC_16 rfl ?_
      refine aw_iload_n (pc' := 73) d_S_findReached_72 rfl rfl ?_
      refine aw_dup2 (pc' := 74) d_S_findReached_73 rfl rfl rfl ?_
      obtain ⟨g5, hf⟩ := aw_gi hf
      refine aw_iald (pc' := 75) d_S_findReached_74 rfl rfl hC_18 g5 ?_
      refine aw_aload_n (pc' := 76) d_S_findReached_75 rfl rfl ?_
      refine aw_get (pc' := 79) d_S_findReached_76 rfl fl_S_16 hC_16 rfl ?_
      refine aw_iload_n (pc' := 80) d_S_findReached_79 rfl rfl ?_
      obtain ⟨g6, hf⟩ := aw_gi hf
      refine aw_iald (pc' := 81) d_S_findReached_80 rfl rfl hC_18 g6 ?_
      refine aw_ior (pc' := 82) d_S_findReached_81 rfl ?_
      obtain ⟨g7, hf⟩ := aw_gi hf
      refine aw_iast (pc' := 83) (h' := (hC n (me_wi μ 18 l2.toNatClampNeg ((μ.1 18 l2.toNatClampNeg) ||| (μ.1 18 l1.toNatClampNeg))))) d_S_findReached_82 rfl rfl hC_18 g7 rfl ?_
      exact aw_weak [true, true, true] rfl (wS_findReached_83 hk35 hk46 _ _ _ hf)
set_option maxRecDepth 20000 in
theorem wS_findReached_46 {N : Nat} {n : Nat} {r0 : me_M} {k35 : Int32 → me_M → Option me_M} (hk35 : ∀ (l1 : Int32) (μ : me_M), k35 l1 μ = some r0 → AW "ArcTape$Parts" "findReached" c_S_findReached 3 none 1 0 0 0 (aw_is none (hC n r0)) 35 [some (.ref 16), some (.int l1), none] [] (hC n μ) 0 0) : ∀ (F : Nat) (l1 : Int32) (l2 : Int32) (μ : me_M) (hf : fS_findReached_46 N n k35 F l1 l2 μ = some r0), AW "ArcTape$Parts" "findReached" c_S_findReached 3 none 1 0 0 0 (aw_is none (hC n r0)) 46 [some (.ref 16), some (.int l1), some (.int l2)] [] (hC n μ) 0 0 := by
  intro F
  induction F with
  | zero => intro l1 l2 μ hf; exact aw_no hf
  | succ F ih => intro l1 l2 μ hf; exact wS_findReached_46b hk35 ih l1 l2 μ hf
set_option maxRecDepth 20000 in
theorem wS_findReached_35b {N : Nat} {n : Nat} {r0 : me_M} {k35 : Int32 → me_M → Option me_M} (hk35 : ∀ (l1 : Int32) (μ : me_M), k35 l1 μ = some r0 → AW "ArcTape$Parts" "findReached" c_S_findReached 3 none 1 0 0 0 (aw_is none (hC n r0)) 35 [some (.ref 16), some (.int l1), none] [] (hC n μ) 0 0) (l1 : Int32) (μ : me_M) (hf : fS_findReached_35b N n k35 l1 μ = some r0) : AW "ArcTape$Parts" "findReached" c_S_findReached 3 none 1 0 0 0 (aw_is none (hC n r0)) 35 [some (.ref 16), some (.int l1), none] [] (hC n μ) 0 0 := by
  unfold fS_findReached_35b at hf
  refine aw_iload_n (pc' := 36) d_S_findReached_35 rfl rfl ?_
  refine aw_aload_n (pc' := 37) d_S_findReached_36 rfl rfl ?_
  refine aw_get (pc' := 40) d_S_findReached_37 rfl fl_S_7 hC_16 rfl ?_
  refine aw_alen (pc' := 41) d_S_findReached_40 rfl rfl hC_12 ?_
  refine aw_icmp_ge (tgt := 95) (pc' := 44) d_S_findReached_41 (by decide) rfl (fun c8 => ?_) (fun c8 => ?_)
  · replace hf := aw_ifp c8 hf
    exact aw_weak [false, false, false] rfl (wS_findReached_95 _ hf)
  · replace hf := aw_ifn c8 hf
    refine aw_iconst (pc' := 45) d_S_findReached_44 rfl kc_ic_0 ?_
    refine aw_istore_n (pc' := 46) (L' := [some (.ref 16), some (.int l1), some (.int (0 : Int32))]) d_S_findReached_45 rfl (by decide) rfl ?_
    exact aw_weak [true, true, true] rfl (wS_findReached_46 hk35 _ _ _ _ hf)
set_option maxRecDepth 20000 in
theorem wS_findReached_35 {N : Nat} {n : Nat} {r0 : me_M} : ∀ (F : Nat) (l1 : Int32) (μ : me_M) (hf : fS_findReached_35 N n F l1 μ = some r0), AW "ArcTape$Parts" "findReached" c_S_findReached 3 none 1 0 0 0 (aw_is none (hC n r0)) 35 [some (.ref 16), some (.int l1), none] [] (hC n μ) 0 0 := by
  intro F
  induction F with
  | zero => intro l1 μ hf; exact aw_no hf
  | succ F ih => intro l1 μ hf; exact wS_findReached_35b ih l1 μ hf
set_option maxRecDepth 20000 in
theorem wS_findReached_33 {N : Nat} {n : Nat} {r0 : me_M} (μ : me_M) (hf : fS_findReached_33 N n μ = some r0) : AW "ArcTape$Parts" "findReached" c_S_findReached 3 none 1 0 0 0 (aw_is none (hC n r0)) 33 [some (.ref 16), none, none] [] (hC n μ) 0 0 := by
  unfold fS_findReached_33 at hf
  refine aw_iconst (pc' := 34) d_S_findReached_33 rfl kc_ic_0 ?_
  refine aw_istore_n (pc' := 35) (L' := [some (.ref 16), some (.int (0 : Int32)), none]) d_S_findReached_34 rfl (by decide) rfl ?_
  exact aw_weak [true, true, false] rfl (wS_findReached_35 _ _ _ hf)
set_option maxRecDepth 20000 in
theorem wS_findReached_2b {N : Nat} {n : Nat} {r0 : me_M} {k2 : Int32 → me_M → Option me_M} (hk2 : ∀ (l1 : Int32) (μ : me_M), k2 l1 μ = some r0 → AW "ArcTape$Parts" "findReached" c_S_findReached 3 none 1 0 0 0 (aw_is none (hC n r0)) 2 [some (.ref 16), some (.int l1), none] [] (hC n μ) 0 0) (l1 : Int32) (μ : me_M) (hf : fS_findReached_2b N n k2 l1 μ = some r0) : AW "ArcTape$Parts" "findReached" c_S_findReached 3 none 1 0 0 0 (aw_is none (hC n r0)) 2 [some (.ref 16), some (.int l1), none] [] (hC n μ) 0 0 := by
  unfold fS_findReached_2b at hf
  refine aw_iload_n (pc' := 3) d_S_findReached_2 rfl rfl ?_
  refine aw_aload_n (pc' := 4) d_S_findReached_3 rfl rfl ?_
  refine aw_get (pc' := 7) d_S_findReached_4 rfl fl_S_7 hC_16 rfl ?_
  refine aw_alen (pc' := 8) d_S_findReached_7 rfl rfl hC_12 ?_
  refine aw_icmp_ge (tgt := 33) (pc' := 11) d_S_findReached_8 (by decide) rfl (fun c9 => ?_) (fun c9 => ?_)
  · replace hf := aw_ifp c9 hf
    exact aw_weak [true, false, false] rfl (wS_findReached_33 _ hf)
  · replace hf := aw_ifn c9 hf
    refine aw_aload_n (pc' := 12) d_S_findReached_11 rfl rfl ?_
    refine aw_get (pc' := 15) d_S_findReached_12 rfl fl_S_16 hC_16 rfl ?_
    refine aw_iload_n (pc' := 16) d_S_findReached_15 rfl rfl ?_
    refine aw_aload_n (pc' := 17) d_S_findReached_16 rfl rfl ?_
    refine aw_get (pc' := 20) d_S_findReached_17 rfl fl_S_7 hC_16 rfl ?_
    refine aw_iload_n (pc' := 21) d_S_findReached_20 rfl rfl ?_
    obtain ⟨g10, hf⟩ := aw_gi hf
    refine aw_iald (pc' := 22) d_S_findReached_21 rfl rfl hC_12 g10 ?_
    refine aw_iconst (pc' := 23) d_S_findReached_22 rfl kc_ic_1 ?_
    refine aw_iload_n (pc' := 24) d_S_findReached_23 rfl rfl ?_
    refine aw_ishl (pc' := 25) d_S_findReached_24 rfl ?_
    refine aw_ior (pc' := 26) d_S_findReached_25 rfl ?_
    obtain ⟨g11, hf⟩ := aw_gi hf
    refine aw_iast (pc' := 27) (h' := (hC n (me_wi μ 18 l1.toNatClampNeg ((μ.1 12 l1.toNatClampNeg) ||| ((1 : Int32) <<< (l1 &&& 31)))))) d_S_findReached_26 rfl rfl hC_18 g11 rfl ?_
    refine aw_iinc (pc' := 30) (L' := [some (.ref 16), some (.int (l1 + (1 : Int32))), none]) d_S_findReached_27 rfl kc_ic_1 rfl (by decide) rfl ?_
    refine aw_goto (tgt := 2) d_S_findReached_30 (by decide) ?_
    exact aw_weak [true, true, false] rfl (hk2 _ _ hf)
set_option maxRecDepth 20000 in
theorem wS_findReached_2 {N : Nat} {n : Nat} {r0 : me_M} : ∀ (F : Nat) (l1 : Int32) (μ : me_M) (hf : fS_findReached_2 N n F l1 μ = some r0), AW "ArcTape$Parts" "findReached" c_S_findReached 3 none 1 0 0 0 (aw_is none (hC n r0)) 2 [some (.ref 16), some (.int l1), none] [] (hC n μ) 0 0 := by
  intro F
  induction F with
  | zero => intro l1 μ hf; exact aw_no hf
  | succ F ih => intro l1 μ hf; exact wS_findReached_2b ih l1 μ hf
set_option maxRecDepth 20000 in
theorem mS_findReached {N : Nat} {n : Nat} {μ : me_M} {r0 : me_M} (hf : fS_findReached N n μ = some r0) : AM y_S_findReached c_S_findReached 3 none 1 0 0 0 [.ref 16] (hC n μ) (aw_is none (hC n r0)) := by
  unfold fS_findReached at hf
  refine AM.of (own := "ArcTape$Parts") (nm := "findReached") (L := [some (.ref 16), none, none]) rfl rfl (by decide) (Nat.le_of_ble_eq_true rfl) rfl ?_
  refine aw_iconst (pc' := 1) d_S_findReached_0 rfl kc_ic_0 ?_
  refine aw_istore_n (pc' := 2) (L' := [some (.ref 16), some (.int (0 : Int32)), none]) d_S_findReached_1 rfl (by decide) rfl ?_
  exact aw_weak [true, true, false] rfl (wS_findReached_2 _ _ _ hf)
set_option maxRecDepth 20000 in
theorem wS_partOf_51 {N : Nat} {n : Nat} {μ : me_M} {r0 : Int32} (l2 : Int32) (hf : fS_partOf_51 N n μ l2 = some r0) : AW "ArcTape$Parts" "partOf" c_S_partOf 4 (some .int) 1 0 0 0 (aw_is (some (.int r0)) (hC n μ)) 51 [none, none, some (.int l2), none] [] (hC n μ) 0 0 := by
  unfold fS_partOf_51 at hf
  refine aw_iload_n (pc' := 52) d_S_partOf_51 rfl rfl ?_
  cases hf
  exact aw_ireturn rfl d_S_partOf_52 (Nat.le_refl 0) (Nat.le_refl 0) ⟨rfl, rfl⟩
set_option maxRecDepth 20000 in
theorem wS_partOf_45 {N : Nat} {n : Nat} {μ : me_M} {r0 : Int32} {k4 : Int32 → Int32 → Int32 → Option Int32} (hk4 : ∀ (l1 : Int32) (l2 : Int32) (l3 : Int32), k4 l1 l2 l3 = some r0 → AW "ArcTape$Parts" "partOf" c_S_partOf 4 (some .int) 1 0 0 0 (aw_is (some (.int r0)) (hC n μ)) 4 [some (.ref 16), some (.int l1), some (.int l2), some (.int l3)] [] (hC n μ) 0 0) (l1 : Int32) (l2 : Int32) (l3 : Int32) (hf : fS_partOf_45 N n μ k4 l1 l2 l3 = some r0) : AW "ArcTape$Parts" "partOf" c_S_partOf 4 (some .int) 1 0 0 0 (aw_is (some (.int r0)) (hC n μ)) 45 [some (.ref 16), some (.int l1), some (.int l2), some (.int l3)] [] (hC n μ) 0 0 := by
  unfold fS_partOf_45 at hf
  refine aw_iinc (pc' := 48) (L' := [some (.ref 16), some (.int l1), some (.int l2), some (.int (l3 + (1 : Int32)))]) d_S_partOf_45 rfl kc_ic_1 rfl (by decide) rfl ?_
  refine aw_goto (tgt := 4) d_S_partOf_48 (by decide) ?_
  exact aw_weak [true, true, true, true] rfl (hk4 _ _ _ hf)
set_option maxRecDepth 20000 in
theorem wS_partOf_4b {N : Nat} {n : Nat} {μ : me_M} {r0 : Int32} {k4 : Int32 → Int32 → Int32 → Option Int32} (hk4 : ∀ (l1 : Int32) (l2 : Int32) (l3 : Int32), k4 l1 l2 l3 = some r0 → AW "ArcTape$Parts" "partOf" c_S_partOf 4 (some .int) 1 0 0 0 (aw_is (some (.int r0)) (hC n μ)) 4 [some (.ref 16), some (.int l1), some (.int l2), some (.int l3)] [] (hC n μ) 0 0) (l1 : Int32) (l2 : Int32) (l3 : Int32) (hf : fS_partOf_4b N n μ k4 l1 l2 l3 = some r0) : AW "ArcTape$Parts" "partOf" c_S_partOf 4 (some .int) 1 0 0 0 (aw_is (some (.int r0)) (hC n μ)) 4 [some (.ref 16), some (.int l1), some (.int l2), some (.int l3)] [] (hC n μ) 0 0 := by
  unfold fS_partOf_4b at hf
  refine aw_iload_n (pc' := 5) d_S_partOf_4 rfl rfl ?_
  refine aw_aload_n (pc' := 6) d_S_partOf_5 rfl rfl ?_
  refine aw_get (pc' := 9) d_S_partOf_6 rfl fl_S_7 hC_16 rfl ?_
  refine aw_alen (pc' := 10) d_S_partOf_9 rfl rfl hC_12 ?_
  refine aw_icmp_ge (tgt := 51) (pc' := 13) d_S_partOf_10 (by decide) rfl (fun c1 => ?_) (fun c1 => ?_)
  · replace hf := aw_ifp c1 hf
    exact aw_weak [false, false, true, false] rfl (wS_partOf_51 _ hf)
  · replace hf := aw_ifn c1 hf
    refine aw_aload_n (pc' := 14) d_S_partOf_13 rfl rfl ?_
    refine aw_get (pc' := 17) d_S_partOf_14 rfl fl_S_16 hC_16 rfl ?_
    refine aw_iload_n (pc' := 18) d_S_partOf_17 rfl rfl ?_
    obtain ⟨g2, hf⟩ := aw_gi hf
    refine aw_iald (pc' := 19) d_S_partOf_18 rfl rfl hC_18 g2 ?_
    refine aw_iload_n (pc' := 20) d_S_partOf_19 rfl rfl ?_
    obtain ⟨r3, hr3, hf⟩ := aw_bind hf
    refine aw_callNv (pc' := 23) (av := [.int (μ.1 18 l1.toNatClampNeg), .int l3]) d_S_partOf_20 rfl wc_S_29 (mA_holds hr3) (Or.inl rfl) rfl (by decide) (Nat.le_of_ble_eq_true rfl) ⟨(Nat.le_refl 0), (Nat.le_refl 0)⟩ ?_
    refine aw_if_eq (tgt := 45) (pc' := 26) d_S_partOf_23 (by decide) rfl (fun c4 => ?_) (fun c4 => ?_)
    · replace hf := aw_ifp c4 hf
      exact aw_weak [true, true, true, true] rfl (wS_partOf_45 hk4 _ _ _ hf)
    · replace hf := aw_ifn c4 hf
      refine aw_aload_n (pc' := 27) d_S_partOf_26 rfl rfl ?_
      refine aw_get (pc' := 30) d_S_partOf_27 rfl fl_S_16 hC_16 rfl ?_
      refine aw_iload_n (pc' := 31) d_S_partOf_30 rfl rfl ?_
      obtain ⟨g5, hf⟩ := aw_gi hf
      refine aw_iald (pc' := 32) d_S_partOf_31 rfl rfl hC_18 g5 ?_
      refine aw_iload_n (pc' := 33) d_S_partOf_32 rfl rfl ?_
      obtain ⟨r6, hr6, hf⟩ := aw_bind hf
      refine aw_callNv (pc' := 36) (av := [.int (μ.1 18 l3.toNatClampNeg), .int l1]) d_S_partOf_33 rfl wc_S_29 (mA_holds hr6) (Or.inl rfl) rfl (by decide) (Nat.le_of_ble_eq_true rfl) ⟨(Nat.le_refl 0), (Nat.le_refl 0)⟩ ?_
      refine aw_if_eq (tgt := 45) (pc' := 39) d_S_partOf_36 (by decide) rfl (fun c7 => ?_) (fun c7 => ?_)
      · replace hf := aw_ifp c7 hf
        exact aw_weak [true, true, true, true] rfl (wS_partOf_45 hk4 _ _ _ hf)
      · replace hf := aw_ifn c7 hf
        refine aw_iload_n (pc' := 40) d_S_partOf_39 rfl rfl ?_
        refine aw_iconst (pc' := 41) d_S_partOf_40 rfl kc_ic_1 ?_
        refine aw_iload_n (pc' := 42) d_S_partOf_41 rfl rfl ?_
        refine aw_ishl (pc' := 43) d_S_partOf_42 rfl ?_
        refine aw_ior (pc' := 44) d_S_partOf_43 rfl ?_
        refine aw_istore_n (pc' := 45) (L' := [some (.ref 16), some (.int l1), some (.int (l2 ||| ((1 : Int32) <<< (l3 &&& 31)))), some (.int l3)]) d_S_partOf_44 rfl (by decide) rfl ?_
        exact aw_weak [true, true, true, true] rfl (wS_partOf_45 hk4 _ _ _ hf)
set_option maxRecDepth 20000 in
theorem wS_partOf_4 {N : Nat} {n : Nat} {μ : me_M} {r0 : Int32} : ∀ (F : Nat) (l1 : Int32) (l2 : Int32) (l3 : Int32) (hf : fS_partOf_4 N n μ F l1 l2 l3 = some r0), AW "ArcTape$Parts" "partOf" c_S_partOf 4 (some .int) 1 0 0 0 (aw_is (some (.int r0)) (hC n μ)) 4 [some (.ref 16), some (.int l1), some (.int l2), some (.int l3)] [] (hC n μ) 0 0 := by
  intro F
  induction F with
  | zero => intro l1 l2 l3 hf; exact aw_no hf
  | succ F ih => intro l1 l2 l3 hf; exact wS_partOf_4b ih l1 l2 l3 hf
set_option maxRecDepth 20000 in
theorem mS_partOf {N : Nat} {n : Nat} {μ : me_M} {r0 : Int32} {l1 : Int32} (hf : fS_partOf N n μ l1 = some r0) : AM y_S_partOf c_S_partOf 4 (some .int) 1 0 0 0 [.ref 16, .int l1] (hC n μ) (aw_is (some (.int r0)) (hC n μ)) := by
  unfold fS_partOf at hf
  refine AM.of (own := "ArcTape$Parts") (nm := "partOf") (L := [some (.ref 16), some (.int l1), none, none]) rfl rfl (by decide) (Nat.le_of_ble_eq_true rfl) rfl ?_
  refine aw_iconst (pc' := 1) d_S_partOf_0 rfl kc_ic_0 ?_
  refine aw_istore_n (pc' := 2) (L' := [some (.ref 16), some (.int l1), some (.int (0 : Int32)), none]) d_S_partOf_1 rfl (by decide) rfl ?_
  refine aw_iconst (pc' := 3) d_S_partOf_2 rfl kc_ic_0 ?_
  refine aw_istore_n (pc' := 4) (L' := [some (.ref 16), some (.int l1), some (.int (0 : Int32)), some (.int (0 : Int32))]) d_S_partOf_3 rfl (by decide) rfl ?_
  exact aw_weak [true, true, true, true] rfl (wS_partOf_4 _ _ _ _ hf)
set_option maxRecDepth 20000 in
theorem wS_nextReady_48 {N : Nat} {n : Nat} {μ : me_M} {r0 : Int32} (hf : fS_nextReady_48 N n μ = some r0) : AW "ArcTape$Parts" "nextReady" c_S_nextReady 3 (some .int) 2 0 0 0 (aw_is (some (.int r0)) (hC n μ)) 48 [none, none, none] [] (hC n μ) 0 0 := by
  unfold fS_nextReady_48 at hf
  refine aw_iconst (pc' := 49) d_S_nextReady_48 rfl kc_ic_m1 ?_
  cases hf
  exact aw_ireturn rfl d_S_nextReady_49 (Nat.le_refl 0) (Nat.le_refl 0) ⟨rfl, rfl⟩
set_option maxRecDepth 20000 in
theorem wS_nextReady_42 {N : Nat} {n : Nat} {μ : me_M} {r0 : Int32} {k2 : Int32 → Int32 → Option Int32} (hk2 : ∀ (l1 : Int32) (l2 : Int32), k2 l1 l2 = some r0 → AW "ArcTape$Parts" "nextReady" c_S_nextReady 3 (some .int) 2 0 0 0 (aw_is (some (.int r0)) (hC n μ)) 2 [some (.ref 16), some (.int l1), some (.int l2)] [] (hC n μ) 0 0) (l1 : Int32) (l2 : Int32) (hf : fS_nextReady_42 N n μ k2 l1 l2 = some r0) : AW "ArcTape$Parts" "nextReady" c_S_nextReady 3 (some .int) 2 0 0 0 (aw_is (some (.int r0)) (hC n μ)) 42 [some (.ref 16), some (.int l1), some (.int l2)] [] (hC n μ) 0 0 := by
  unfold fS_nextReady_42 at hf
  refine aw_iinc (pc' := 45) (L' := [some (.ref 16), some (.int l1), some (.int (l2 + (1 : Int32)))]) d_S_nextReady_42 rfl kc_ic_1 rfl (by decide) rfl ?_
  refine aw_goto (tgt := 2) d_S_nextReady_45 (by decide) ?_
  exact aw_weak [true, true, true] rfl (hk2 _ _ hf)
set_option maxRecDepth 20000 in
theorem wS_nextReady_2b {N : Nat} {n : Nat} {μ : me_M} {r0 : Int32} {k2 : Int32 → Int32 → Option Int32} (hk2 : ∀ (l1 : Int32) (l2 : Int32), k2 l1 l2 = some r0 → AW "ArcTape$Parts" "nextReady" c_S_nextReady 3 (some .int) 2 0 0 0 (aw_is (some (.int r0)) (hC n μ)) 2 [some (.ref 16), some (.int l1), some (.int l2)] [] (hC n μ) 0 0) (l1 : Int32) (l2 : Int32) (hf : fS_nextReady_2b N n μ k2 l1 l2 = some r0) : AW "ArcTape$Parts" "nextReady" c_S_nextReady 3 (some .int) 2 0 0 0 (aw_is (some (.int r0)) (hC n μ)) 2 [some (.ref 16), some (.int l1), some (.int l2)] [] (hC n μ) 0 0 := by
  unfold fS_nextReady_2b at hf
  refine aw_iload_n (pc' := 3) d_S_nextReady_2 rfl rfl ?_
  refine aw_aload_n (pc' := 4) d_S_nextReady_3 rfl rfl ?_
  refine aw_get (pc' := 7) d_S_nextReady_4 rfl fl_S_7 hC_16 rfl ?_
  refine aw_alen (pc' := 8) d_S_nextReady_7 rfl rfl hC_12 ?_
  refine aw_icmp_ge (tgt := 48) (pc' := 11) d_S_nextReady_8 (by decide) rfl (fun c1 => ?_) (fun c1 => ?_)
  · replace hf := aw_ifp c1 hf
    exact aw_weak [false, false, false] rfl (wS_nextReady_48  hf)
  · replace hf := aw_ifn c1 hf
    refine aw_iload_n (pc' := 12) d_S_nextReady_11 rfl rfl ?_
    refine aw_iload_n (pc' := 13) d_S_nextReady_12 rfl rfl ?_
    obtain ⟨r2, hr2, hf⟩ := aw_bind hf
    refine aw_callNv (pc' := 16) (av := [.int l1, .int l2]) d_S_nextReady_13 rfl wc_S_29 (mA_holds hr2) (Or.inl rfl) rfl (by decide) (Nat.le_of_ble_eq_true rfl) ⟨(Nat.le_refl 0), (Nat.le_refl 0)⟩ ?_
    refine aw_if_ne (tgt := 42) (pc' := 19) d_S_nextReady_16 (by decide) rfl (fun c3 => ?_) (fun c3 => ?_)
    · replace hf := aw_ifn c3 hf
      exact aw_weak [true, true, true] rfl (wS_nextReady_42 hk2 _ _ hf)
    · replace hf := aw_ifp c3 hf
      refine aw_aload_n (pc' := 20) d_S_nextReady_19 rfl rfl ?_
      refine aw_get (pc' := 23) d_S_nextReady_20 rfl fl_S_16 hC_16 rfl ?_
      refine aw_iload_n (pc' := 24) d_S_nextReady_23 rfl rfl ?_
      obtain ⟨g4, hf⟩ := aw_gi hf
      refine aw_iald (pc' := 25) d_S_nextReady_24 rfl rfl hC_18 g4 ?_
      refine aw_iload_n (pc' := 26) d_S_nextReady_25 rfl rfl ?_
      refine aw_iconst (pc' := 27) d_S_nextReady_26 rfl kc_ic_m1 ?_
      refine aw_ixor (pc' := 28) d_S_nextReady_27 rfl ?_
      refine aw_iand (pc' := 29) d_S_nextReady_28 rfl ?_
      refine aw_aload_n (pc' := 30) d_S_nextReady_29 rfl rfl ?_
      refine aw_iload_n (pc' := 31) d_S_nextReady_30 rfl rfl ?_
      obtain ⟨r5, hr5, hf⟩ := aw_bind hf
      refine aw_callVv (pc' := 34) (av := [.int l2]) d_S_nextReady_31 rfl wc_S_26 hC_16 (mS_partOf hr5) (Or.inl rfl) rfl (by decide) (Nat.le_of_ble_eq_true rfl) ⟨(Nat.le_refl 0), (Nat.le_refl 0)⟩ ?_
      refine aw_iconst (pc' := 35) d_S_nextReady_34 rfl kc_ic_m1 ?_
      refine aw_ixor (pc' := 36) d_S_nextReady_35 rfl ?_
      refine aw_iand (pc' := 37) d_S_nextReady_36 rfl ?_
      refine aw_if_ne (tgt := 42) (pc' := 40) d_S_nextReady_37 (by decide) rfl (fun c6 => ?_) (fun c6 => ?_)
      · replace hf := aw_ifn c6 hf
        exact aw_weak [true, true, true] rfl (wS_nextReady_42 hk2 _ _ hf)
      · replace hf := aw_ifp c6 hf
        refine aw_iload_n (pc' := 41) d_S_nextReady_40 rfl rfl ?_
        cases hf
        exact aw_ireturn rfl d_S_nextReady_41 (Nat.le_refl 0) (Nat.le_refl 0) ⟨rfl, rfl⟩
set_option maxRecDepth 20000 in
theorem wS_nextReady_2 {N : Nat} {n : Nat} {μ : me_M} {r0 : Int32} : ∀ (F : Nat) (l1 : Int32) (l2 : Int32) (hf : fS_nextReady_2 N n μ F l1 l2 = some r0), AW "ArcTape$Parts" "nextReady" c_S_nextReady 3 (some .int) 2 0 0 0 (aw_is (some (.int r0)) (hC n μ)) 2 [some (.ref 16), some (.int l1), some (.int l2)] [] (hC n μ) 0 0 := by
  intro F
  induction F with
  | zero => intro l1 l2 hf; exact aw_no hf
  | succ F ih => intro l1 l2 hf; exact wS_nextReady_2b ih l1 l2 hf
set_option maxRecDepth 20000 in
theorem mS_nextReady {N : Nat} {n : Nat} {μ : me_M} {r0 : Int32} {l1 : Int32} (hf : fS_nextReady N n μ l1 = some r0) : AM y_S_nextReady c_S_nextReady 3 (some .int) 2 0 0 0 [.ref 16, .int l1] (hC n μ) (aw_is (some (.int r0)) (hC n μ)) := by
  unfold fS_nextReady at hf
  refine AM.of (own := "ArcTape$Parts") (nm := "nextReady") (L := [some (.ref 16), some (.int l1), none]) rfl rfl (by decide) (Nat.le_of_ble_eq_true rfl) rfl ?_
  refine aw_iconst (pc' := 1) d_S_nextReady_0 rfl kc_ic_0 ?_
  refine aw_istore_n (pc' := 2) (L' := [some (.ref 16), some (.int l1), some (.int (0 : Int32))]) d_S_nextReady_1 rfl (by decide) rfl ?_
  exact aw_weak [true, true, true] rfl (wS_nextReady_2 _ _ _ hf)
set_option maxRecDepth 20000 in
theorem wS_numberAll_88 {N : Nat} {n : Nat} {r0 : (Int32 × me_M)} (l2 : Int32) (μ : me_M) (hf : fS_numberAll_88 N n l2 μ = some r0) : AW "ArcTape$Parts" "numberAll" c_S_numberAll 6 (some .int) 3 0 0 0 (aw_is (some (.int r0.1)) (hC n r0.2)) 88 [none, none, some (.int l2), none, none, none] [] (hC n μ) 0 0 := by
  unfold fS_numberAll_88 at hf
  refine aw_iload_n (pc' := 89) d_S_numberAll_88 rfl rfl ?_
  cases hf
  exact aw_ireturn rfl d_S_numberAll_89 (Nat.le_refl 0) (Nat.le_refl 0) ⟨rfl, rfl⟩
set_option maxRecDepth 20000 in
theorem wS_numberAll_71 {N : Nat} {n : Nat} {r0 : (Int32 × me_M)} {k14 : Int32 → Int32 → Int32 → me_M → Option (Int32 × me_M)} (hk14 : ∀ (l1 : Int32) (l2 : Int32) (l3 : Int32) (μ : me_M), k14 l1 l2 l3 μ = some r0 → AW "ArcTape$Parts" "numberAll" c_S_numberAll 6 (some .int) 3 0 0 0 (aw_is (some (.int r0.1)) (hC n r0.2)) 14 [some (.ref 16), some (.int l1), some (.int l2), some (.int l3), none, none] [] (hC n μ) 0 0) (l1 : Int32) (l2 : Int32) (l4 : Int32) (μ : me_M) (hf : fS_numberAll_71 N n k14 l1 l2 l4 μ = some r0) : AW "ArcTape$Parts" "numberAll" c_S_numberAll 6 (some .int) 3 0 0 0 (aw_is (some (.int r0.1)) (hC n r0.2)) 71 [some (.ref 16), some (.int l1), some (.int l2), none, some (.int l4), none] [] (hC n μ) 0 0 := by
  unfold fS_numberAll_71 at hf
  refine aw_iload_n (pc' := 72) d_S_numberAll_71 rfl rfl ?_
  refine aw_iload (pc' := 74) d_S_numberAll_72 rfl rfl ?_
  refine aw_ior (pc' := 75) d_S_numberAll_74 rfl ?_
  refine aw_istore_n (pc' := 76) (L' := [some (.ref 16), some (.int (l1 ||| l4)), some (.int l2), none, some (.int l4), none]) d_S_numberAll_75 rfl (by decide) rfl ?_
  refine aw_iinc (pc' := 79) (L' := [some (.ref 16), some (.int (l1 ||| l4)), some (.int (l2 + (1 : Int32))), none, some (.int l4), none]) d_S_numberAll_76 rfl kc_ic_1 rfl (by decide) rfl ?_
  refine aw_aload_n (pc' := 80) d_S_numberAll_79 rfl rfl ?_
  refine aw_iload_n (pc' := 81) d_S_numberAll_80 rfl rfl ?_
  obtain ⟨r1, hr1, hf⟩ := aw_bind hf
  refine aw_callVv (pc' := 84) (av := [.int (l1 ||| l4)]) d_S_numberAll_81 rfl wc_S_22 hC_16 (mS_nextReady hr1) (Or.inl rfl) rfl (by decide) (Nat.le_of_ble_eq_true rfl) ⟨(Nat.le_refl 0), (Nat.le_refl 0)⟩ ?_
  refine aw_istore_n (pc' := 85) (L' := [some (.ref 16), some (.int (l1 ||| l4)), some (.int (l2 + (1 : Int32))), some (.int r1), some (.int l4), none]) d_S_numberAll_84 rfl (by decide) rfl ?_
  refine aw_goto (tgt := 14) d_S_numberAll_85 (by decide) ?_
  exact aw_weak [true, true, true, true, false, false] rfl (hk14 _ _ _ _ hf)
set_option maxRecDepth 20000 in
theorem wS_numberAll_65 {N : Nat} {n : Nat} {r0 : (Int32 × me_M)} {k14 : Int32 → Int32 → Int32 → me_M → Option (Int32 × me_M)} (hk14 : ∀ (l1 : Int32) (l2 : Int32) (l3 : Int32) (μ : me_M), k14 l1 l2 l3 μ = some r0 → AW "ArcTape$Parts" "numberAll" c_S_numberAll 6 (some .int) 3 0 0 0 (aw_is (some (.int r0.1)) (hC n r0.2)) 14 [some (.ref 16), some (.int l1), some (.int l2), some (.int l3), none, none] [] (hC n μ) 0 0) {k37 : Int32 → Int32 → Int32 → Int32 → me_M → Option (Int32 × me_M)} (hk37 : ∀ (l1 : Int32) (l2 : Int32) (l4 : Int32) (l5 : Int32) (μ : me_M), k37 l1 l2 l4 l5 μ = some r0 → AW "ArcTape$Parts" "numberAll" c_S_numberAll 6 (some .int) 3 0 0 0 (aw_is (some (.int r0.1)) (hC n r0.2)) 37 [some (.ref 16), some (.int l1), some (.int l2), none, some (.int l4), some (.int l5)] [] (hC n μ) 0 0) (l1 : Int32) (l2 : Int32) (l4 : Int32) (l5 : Int32) (μ : me_M) (hf : fS_numberAll_65 N n k14 k37 l1 l2 l4 l5 μ = some r0) : AW "ArcTape$Parts" "numberAll" c_S_numberAll 6 (some .int) 3 0 0 0 (aw_is (some (.int r0.1)) (hC n r0.2)) 65 [some (.ref 16), some (.int l1), some (.int l2), none, some (.int l4), some (.int l5)] [] (hC n μ) 0 0 := by
  unfold fS_numberAll_65 at hf
  refine aw_iinc (pc' := 68) (L' := [some (.ref 16), some (.int l1), some (.int l2), none, some (.int l4), some (.int (l5 + (1 : Int32)))]) d_S_numberAll_65 rfl kc_ic_1 rfl (by decide) rfl ?_
  refine aw_goto (tgt := 37) d_S_numberAll_68 (by decide) ?_
  exact aw_weak [true, true, true, false, true, true] rfl (hk37 _ _ _ _ _ hf)
set_option maxRecDepth 20000 in
theorem wS_numberAll_37b {N : Nat} {n : Nat} {r0 : (Int32 × me_M)} {k14 : Int32 → Int32 → Int32 → me_M → Option (Int32 × me_M)} (hk14 : ∀ (l1 : Int32) (l2 : Int32) (l3 : Int32) (μ : me_M), k14 l1 l2 l3 μ = some r0 → AW "ArcTape$Parts" "numberAll" c_S_numberAll 6 (some .int) 3 0 0 0 (aw_is (some (.int r0.1)) (hC n r0.2)) 14 [some (.ref 16), some (.int l1), some (.int l2), some (.int l3), none, none] [] (hC n μ) 0 0) {k37 : Int32 → Int32 → Int32 → Int32 → me_M → Option (Int32 × me_M)} (hk37 : ∀ (l1 : Int32) (l2 : Int32) (l4 : Int32) (l5 : Int32) (μ : me_M), k37 l1 l2 l4 l5 μ = some r0 → AW "ArcTape$Parts" "numberAll" c_S_numberAll 6 (some .int) 3 0 0 0 (aw_is (some (.int r0.1)) (hC n r0.2)) 37 [some (.ref 16), some (.int l1), some (.int l2), none, some (.int l4), some (.int l5)] [] (hC n μ) 0 0) (l1 : Int32) (l2 : Int32) (l4 : Int32) (l5 : Int32) (μ : me_M) (hf : fS_numberAll_37b N n k14 k37 l1 l2 l4 l5 μ = some r0) : AW "ArcTape$Parts" "numberAll" c_S_numberAll 6 (some .int) 3 0 0 0 (aw_is (some (.int r0.1)) (hC n r0.2)) 37 [some (.ref 16), some (.int l1), some (.int l2), none, some (.int l4), some (.int l5)] [] (hC n μ) 0 0 := by
  unfold fS_numberAll_37b at hf
  refine aw_iload (pc' := 39) d_S_numberAll_37 rfl rfl ?_
  refine aw_aload_n (pc' := 40) d_S_numberAll_39 rfl rfl ?_
  refine aw_get (pc' := 43) d_S_numberAll_40 rfl fl_S_7 hC_16 rfl ?_
  refine aw_alen (pc' := 44) d_S_numberAll_43 rfl rfl hC_12 ?_
  refine aw_icmp_ge (tgt := 71) (pc' := 47) d_S_numberAll_44 (by decide) rfl (fun c2 => ?_) (fun c2 => ?_)
  · replace hf := aw_ifp c2 hf
    exact aw_weak [true, true, true, false, true, false] rfl (wS_numberAll_71 hk14 _ _ _ _ hf)
  · replace hf := aw_ifn c2 hf
    refine aw_iload (pc' := 49) d_S_numberAll_47 rfl rfl ?_
    refine aw_iload (pc' := 51) d_S_numberAll_49 rfl rfl ?_
    obtain ⟨r3, hr3, hf⟩ := aw_bind hf
    refine aw_callNv (pc' := 54) (av := [.int l4, .int l5]) d_S_numberAll_51 rfl wc_S_29 (mA_holds hr3) (Or.inl rfl) rfl (by decide) (Nat.le_of_ble_eq_true rfl) ⟨(Nat.le_refl 0), (Nat.le_refl 0)⟩ ?_
    refine aw_if_eq (tgt := 65) (pc' := 57) d_S_numberAll_54 (by decide) rfl (fun c4 => ?_) (fun c4 => ?_)
    · replace hf := aw_ifp c4 hf
      exact aw_weak [true, true, true, false, true, true] rfl (wS_numberAll_65 hk14 hk37 _ _ _ _ _ hf)
    · replace hf := aw_ifn c4 hf
      refine aw_aload_n (pc' := 58) d_S_numberAll_57 rfl rfl ?_
      refine aw_get (pc' := 61) d_S_numberAll_58 rfl fl_S_13 hC_16 rfl ?_
      refine aw_iload (pc' := 63) d_S_numberAll_61 rfl rfl ?_
      refine aw_iload_n (pc' := 64) d_S_numberAll_63 rfl rfl ?_
      obtain ⟨g5, hf⟩ := aw_gi hf
      refine aw_iast (pc' := 65) (h' := (hC n (me_wi μ 17 l5.toNatClampNeg l2))) d_S_numberAll_64 rfl rfl hC_17 g5 rfl ?_
      exact aw_weak [true, true, true, false, true, true] rfl (wS_numberAll_65 hk14 hk37 _ _ _ _ _ hf)
set_option maxRecDepth 20000 in
theorem wS_numberAll_37 {N : Nat} {n : Nat} {r0 : (Int32 × me_M)} {k14 : Int32 → Int32 → Int32 → me_M → Option (Int32 × me_M)} (hk14 : ∀ (l1 : Int32) (l2 : Int32) (l3 : Int32) (μ : me_M), k14 l1 l2 l3 μ = some r0 → AW "ArcTape$Parts" "numberAll" c_S_numberAll 6 (some .int) 3 0 0 0 (aw_is (some (.int r0.1)) (hC n r0.2)) 14 [some (.ref 16), some (.int l1), some (.int l2), some (.int l3), none, none] [] (hC n μ) 0 0) : ∀ (F : Nat) (l1 : Int32) (l2 : Int32) (l4 : Int32) (l5 : Int32) (μ : me_M) (hf : fS_numberAll_37 N n k14 F l1 l2 l4 l5 μ = some r0), AW "ArcTape$Parts" "numberAll" c_S_numberAll 6 (some .int) 3 0 0 0 (aw_is (some (.int r0.1)) (hC n r0.2)) 37 [some (.ref 16), some (.int l1), some (.int l2), none, some (.int l4), some (.int l5)] [] (hC n μ) 0 0 := by
  intro F
  induction F with
  | zero => intro l1 l2 l4 l5 μ hf; exact aw_no hf
  | succ F ih => intro l1 l2 l4 l5 μ hf; exact wS_numberAll_37b hk14 ih l1 l2 l4 l5 μ hf
set_option maxRecDepth 20000 in
theorem wS_numberAll_14b {N : Nat} {n : Nat} {r0 : (Int32 × me_M)} {k14 : Int32 → Int32 → Int32 → me_M → Option (Int32 × me_M)} (hk14 : ∀ (l1 : Int32) (l2 : Int32) (l3 : Int32) (μ : me_M), k14 l1 l2 l3 μ = some r0 → AW "ArcTape$Parts" "numberAll" c_S_numberAll 6 (some .int) 3 0 0 0 (aw_is (some (.int r0.1)) (hC n r0.2)) 14 [some (.ref 16), some (.int l1), some (.int l2), some (.int l3), none, none] [] (hC n μ) 0 0) (l1 : Int32) (l2 : Int32) (l3 : Int32) (μ : me_M) (hf : fS_numberAll_14b N n k14 l1 l2 l3 μ = some r0) : AW "ArcTape$Parts" "numberAll" c_S_numberAll 6 (some .int) 3 0 0 0 (aw_is (some (.int r0.1)) (hC n r0.2)) 14 [some (.ref 16), some (.int l1), some (.int l2), some (.int l3), none, none] [] (hC n μ) 0 0 := by
  unfold fS_numberAll_14b at hf
  refine aw_iload_n (pc' := 15) d_S_numberAll_14 rfl rfl ?_
  refine aw_if_lt (tgt := 88) (pc' := 18) d_S_numberAll_15 (by decide) rfl (fun c6 => ?_) (fun c6 => ?_)
  · replace hf := aw_ifp c6 hf
    exact aw_weak [false, false, true, false, false, false] rfl (wS_numberAll_88 _ _ hf)
  · replace hf := aw_ifn c6 hf
    refine aw_iload_n (pc' := 19) d_S_numberAll_18 rfl rfl ?_
    refine aw_aload_n (pc' := 20) d_S_numberAll_19 rfl rfl ?_
    refine aw_get (pc' := 23) d_S_numberAll_20 rfl fl_S_7 hC_16 rfl ?_
    refine aw_alen (pc' := 24) d_S_numberAll_23 rfl rfl hC_12 ?_
    refine aw_icmp_ge (tgt := 88) (pc' := 27) d_S_numberAll_24 (by decide) rfl (fun c7 => ?_) (fun c7 => ?_)
    · replace hf := aw_ifp c7 hf
      exact aw_weak [false, false, true, false, false, false] rfl (wS_numberAll_88 _ _ hf)
    · replace hf := aw_ifn c7 hf
      refine aw_aload_n (pc' := 28) d_S_numberAll_27 rfl rfl ?_
      refine aw_iload_n (pc' := 29) d_S_numberAll_28 rfl rfl ?_
      obtain ⟨r8, hr8, hf⟩ := aw_bind hf
      refine aw_callVv (pc' := 32) (av := [.int l3]) d_S_numberAll_29 rfl wc_S_26 hC_16 (mS_partOf hr8) (Or.inl rfl) rfl (by decide) (Nat.le_of_ble_eq_true rfl) ⟨(Nat.le_refl 0), (Nat.le_refl 0)⟩ ?_
      refine aw_istore (pc' := 34) (L' := [some (.ref 16), some (.int l1), some (.int l2), some (.int l3), some (.int r8), none]) d_S_numberAll_32 rfl (by decide) rfl ?_
      refine aw_iconst (pc' := 35) d_S_numberAll_34 rfl kc_ic_0 ?_
      refine aw_istore (pc' := 37) (L' := [some (.ref 16), some (.int l1), some (.int l2), some (.int l3), some (.int r8), some (.int (0 : Int32))]) d_S_numberAll_35 rfl (by decide) rfl ?_
      exact aw_weak [true, true, true, false, true, true] rfl (wS_numberAll_37 hk14 _ _ _ _ _ _ hf)
set_option maxRecDepth 20000 in
theorem wS_numberAll_14 {N : Nat} {n : Nat} {r0 : (Int32 × me_M)} : ∀ (F : Nat) (l1 : Int32) (l2 : Int32) (l3 : Int32) (μ : me_M) (hf : fS_numberAll_14 N n F l1 l2 l3 μ = some r0), AW "ArcTape$Parts" "numberAll" c_S_numberAll 6 (some .int) 3 0 0 0 (aw_is (some (.int r0.1)) (hC n r0.2)) 14 [some (.ref 16), some (.int l1), some (.int l2), some (.int l3), none, none] [] (hC n μ) 0 0 := by
  intro F
  induction F with
  | zero => intro l1 l2 l3 μ hf; exact aw_no hf
  | succ F ih => intro l1 l2 l3 μ hf; exact wS_numberAll_14b ih l1 l2 l3 μ hf
set_option maxRecDepth 20000 in
theorem mS_numberAll {N : Nat} {n : Nat} {μ : me_M} {r0 : (Int32 × me_M)} (hf : fS_numberAll N n μ = some r0) : AM y_S_numberAll c_S_numberAll 6 (some .int) 3 0 0 0 [.ref 16] (hC n μ) (aw_is (some (.int r0.1)) (hC n r0.2)) := by
  unfold fS_numberAll at hf
  refine AM.of (own := "ArcTape$Parts") (nm := "numberAll") (L := [some (.ref 16), none, none, none, none, none]) rfl rfl (by decide) (Nat.le_of_ble_eq_true rfl) rfl ?_
  refine aw_aload_n (pc' := 1) d_S_numberAll_0 rfl rfl ?_
  obtain ⟨r9, hr9, hf⟩ := aw_bind hf
  refine aw_callVn (pc' := 4) (av := []) d_S_numberAll_1 rfl wc_S_19 hC_16 (mS_findReached hr9) (Or.inl rfl) rfl (by decide) (Nat.le_of_ble_eq_true rfl) ⟨(Nat.le_refl 0), (Nat.le_refl 0)⟩ ?_
  refine aw_iconst (pc' := 5) d_S_numberAll_4 rfl kc_ic_0 ?_
  refine aw_istore_n (pc' := 6) (L' := [some (.ref 16), some (.int (0 : Int32)), none, none, none, none]) d_S_numberAll_5 rfl (by decide) rfl ?_
  refine aw_iconst (pc' := 7) d_S_numberAll_6 rfl kc_ic_0 ?_
  refine aw_istore_n (pc' := 8) (L' := [some (.ref 16), some (.int (0 : Int32)), some (.int (0 : Int32)), none, none, none]) d_S_numberAll_7 rfl (by decide) rfl ?_
  refine aw_aload_n (pc' := 9) d_S_numberAll_8 rfl rfl ?_
  refine aw_iload_n (pc' := 10) d_S_numberAll_9 rfl rfl ?_
  obtain ⟨r10, hr10, hf⟩ := aw_bind hf
  refine aw_callVv (pc' := 13) (av := [.int (0 : Int32)]) d_S_numberAll_10 rfl wc_S_22 hC_16 (mS_nextReady hr10) (Or.inl rfl) rfl (by decide) (Nat.le_of_ble_eq_true rfl) ⟨(Nat.le_refl 0), (Nat.le_refl 0)⟩ ?_
  refine aw_istore_n (pc' := 14) (L' := [some (.ref 16), some (.int (0 : Int32)), some (.int (0 : Int32)), some (.int r10), none, none]) d_S_numberAll_13 rfl (by decide) rfl ?_
  exact aw_weak [true, true, true, true, false, false] rfl (wS_numberAll_14 _ _ _ _ _ hf)
set_option maxRecDepth 20000 in
theorem mA_components {N : Nat} {n : Nat} {μ : me_M} {r0 : (Int32 × me_M)} (hf : fA_components N n μ = some r0) : AM y_A_components c_A_components 1 (some .int) 4 0 0 0 [.ref 0] (hC n μ) (aw_is (some (.int r0.1)) (hC n r0.2)) := by
  unfold fA_components at hf
  refine AM.of (own := "ArcTape") (nm := "components") (L := [some (.ref 0)]) rfl rfl (by decide) (Nat.le_of_ble_eq_true rfl) rfl ?_
  refine aw_aload_n (pc' := 1) d_A_components_0 rfl rfl ?_
  refine aw_get (pc' := 4) d_A_components_1 rfl fl_A_68 hC_0 rfl ?_
  obtain ⟨r1, hr1, hf⟩ := aw_bind hf
  refine aw_callVv (pc' := 7) (av := []) d_A_components_4 rfl wc_A_138 hC_16 (mS_numberAll hr1) (Or.inl rfl) rfl (by decide) (Nat.le_of_ble_eq_true rfl) ⟨(Nat.le_refl 0), (Nat.le_refl 0)⟩ ?_
  cases hf
  exact aw_ireturn rfl d_A_components_7 (Nat.le_refl 0) (Nat.le_refl 0) ⟨rfl, rfl⟩
set_option maxRecDepth 20000 in
theorem mA_component {N : Nat} {n : Nat} {μ : me_M} {r0 : (Int32 × me_M)} {l1 : Int32} (hf : fA_component N n l1 μ = some r0) : AM y_A_component c_A_component 2 (some .int) 4 0 0 0 [.ref 0, .int l1] (hC n μ) (aw_is (some (.int r0.1)) (hC n r0.2)) := by
  unfold fA_component at hf
  refine AM.of (own := "ArcTape") (nm := "component") (L := [some (.ref 0), some (.int l1)]) rfl rfl (by decide) (Nat.le_of_ble_eq_true rfl) rfl ?_
  refine aw_aload_n (pc' := 1) d_A_component_0 rfl rfl ?_
  refine aw_iload_n (pc' := 2) d_A_component_1 rfl rfl ?_
  obtain ⟨r1, hr1, hf⟩ := aw_bind hf
  refine aw_callVv (pc' := 5) (av := [.int l1]) d_A_component_2 rfl wc_A_89 hC_0 (mA_isNode hr1) (Or.inl rfl) rfl (by decide) (Nat.le_of_ble_eq_true rfl) ⟨(Nat.le_refl 0), (Nat.le_refl 0)⟩ ?_
  refine aw_if_ne (tgt := 10) (pc' := 8) d_A_component_5 (by decide) rfl (fun c2 => ?_) (fun c2 => ?_)
  · replace hf := aw_ifn c2 hf
    refine aw_aload_n (pc' := 11) d_A_component_10 rfl rfl ?_
    refine aw_get (pc' := 14) d_A_component_11 rfl fl_A_68 hC_0 rfl ?_
    obtain ⟨r3, hr3, hf⟩ := aw_bind hf
    refine aw_callVv (pc' := 17) (av := []) d_A_component_14 rfl wc_A_138 hC_16 (mS_numberAll hr3) (Or.inl rfl) rfl (by decide) (Nat.le_of_ble_eq_true rfl) ⟨(Nat.le_refl 0), (Nat.le_refl 0)⟩ ?_
    refine aw_pop (pc' := 18) d_A_component_17 rfl rfl ?_
    refine aw_aload_n (pc' := 19) d_A_component_18 rfl rfl ?_
    refine aw_get (pc' := 22) d_A_component_19 rfl fl_A_68 hC_0 rfl ?_
    refine aw_get (pc' := 25) d_A_component_22 rfl fl_A_142 hC_16 rfl ?_
    refine aw_iload_n (pc' := 26) d_A_component_25 rfl rfl ?_
    obtain ⟨g4, hf⟩ := aw_gi hf
    refine aw_iald (pc' := 27) d_A_component_26 rfl rfl hC_17 g4 ?_
    cases hf
    exact aw_ireturn rfl d_A_component_27 (Nat.le_refl 0) (Nat.le_refl 0) ⟨rfl, rfl⟩
  · replace hf := aw_ifp c2 hf
    refine aw_iconst (pc' := 9) d_A_component_8 rfl kc_ic_m1 ?_
    cases hf
    exact aw_ireturn rfl d_A_component_9 (Nat.le_refl 0) (Nat.le_refl 0) ⟨rfl, rfl⟩
set_option maxRecDepth 20000 in
theorem wO_weightOfOthers_33 {N : Nat} {n : Nat} {μ : me_M} {r0 : Int32} (l2 : Int32) (hf : fO_weightOfOthers_33 N n μ l2 = some r0) : AW "ArcTape$Scores" "weightOfOthers" c_O_weightOfOthers 4 (some .int) 0 0 0 0 (aw_is (some (.int r0)) (hC n μ)) 33 [none, none, some (.int l2), none] [] (hC n μ) 0 0 := by
  unfold fO_weightOfOthers_33 at hf
  refine aw_iload_n (pc' := 34) d_O_weightOfOthers_33 rfl rfl ?_
  cases hf
  exact aw_ireturn rfl d_O_weightOfOthers_34 (Nat.le_refl 0) (Nat.le_refl 0) ⟨rfl, rfl⟩
set_option maxRecDepth 20000 in
theorem wO_weightOfOthers_27 {N : Nat} {n : Nat} {μ : me_M} {r0 : Int32} {k4 : Int32 → Int32 → Int32 → Option Int32} (hk4 : ∀ (l1 : Int32) (l2 : Int32) (l3 : Int32), k4 l1 l2 l3 = some r0 → AW "ArcTape$Scores" "weightOfOthers" c_O_weightOfOthers 4 (some .int) 0 0 0 0 (aw_is (some (.int r0)) (hC n μ)) 4 [some (.ref 19), some (.int l1), some (.int l2), some (.int l3)] [] (hC n μ) 0 0) (l1 : Int32) (l2 : Int32) (l3 : Int32) (hf : fO_weightOfOthers_27 N n μ k4 l1 l2 l3 = some r0) : AW "ArcTape$Scores" "weightOfOthers" c_O_weightOfOthers 4 (some .int) 0 0 0 0 (aw_is (some (.int r0)) (hC n μ)) 27 [some (.ref 19), some (.int l1), some (.int l2), some (.int l3)] [] (hC n μ) 0 0 := by
  unfold fO_weightOfOthers_27 at hf
  refine aw_iinc (pc' := 30) (L' := [some (.ref 19), some (.int l1), some (.int l2), some (.int (l3 + (1 : Int32)))]) d_O_weightOfOthers_27 rfl kc_ic_1 rfl (by decide) rfl ?_
  refine aw_goto (tgt := 4) d_O_weightOfOthers_30 (by decide) ?_
  exact aw_weak [true, true, true, true] rfl (hk4 _ _ _ hf)
set_option maxRecDepth 20000 in
theorem wO_weightOfOthers_4b {N : Nat} {n : Nat} {μ : me_M} {r0 : Int32} {k4 : Int32 → Int32 → Int32 → Option Int32} (hk4 : ∀ (l1 : Int32) (l2 : Int32) (l3 : Int32), k4 l1 l2 l3 = some r0 → AW "ArcTape$Scores" "weightOfOthers" c_O_weightOfOthers 4 (some .int) 0 0 0 0 (aw_is (some (.int r0)) (hC n μ)) 4 [some (.ref 19), some (.int l1), some (.int l2), some (.int l3)] [] (hC n μ) 0 0) (l1 : Int32) (l2 : Int32) (l3 : Int32) (hf : fO_weightOfOthers_4b N n μ k4 l1 l2 l3 = some r0) : AW "ArcTape$Scores" "weightOfOthers" c_O_weightOfOthers 4 (some .int) 0 0 0 0 (aw_is (some (.int r0)) (hC n μ)) 4 [some (.ref 19), some (.int l1), some (.int l2), some (.int l3)] [] (hC n μ) 0 0 := by
  unfold fO_weightOfOthers_4b at hf
  refine aw_iload_n (pc' := 5) d_O_weightOfOthers_4 rfl rfl ?_
  refine aw_aload_n (pc' := 6) d_O_weightOfOthers_5 rfl rfl ?_
  refine aw_get (pc' := 9) d_O_weightOfOthers_6 rfl fl_O_9 hC_19 rfl ?_
  refine aw_alen (pc' := 10) d_O_weightOfOthers_9 rfl rfl hC_12 ?_
  refine aw_icmp_ge (tgt := 33) (pc' := 13) d_O_weightOfOthers_10 (by decide) rfl (fun c1 => ?_) (fun c1 => ?_)
  · replace hf := aw_ifp c1 hf
    exact aw_weak [false, false, true, false] rfl (wO_weightOfOthers_33 _ hf)
  · replace hf := aw_ifn c1 hf
    refine aw_iload_n (pc' := 14) d_O_weightOfOthers_13 rfl rfl ?_
    refine aw_iload_n (pc' := 15) d_O_weightOfOthers_14 rfl rfl ?_
    refine aw_icmp_eq (tgt := 27) (pc' := 18) d_O_weightOfOthers_15 (by decide) rfl (fun c2 => ?_) (fun c2 => ?_)
    · replace hf := aw_ifp c2 hf
      exact aw_weak [true, true, true, true] rfl (wO_weightOfOthers_27 hk4 _ _ _ hf)
    · replace hf := aw_ifn c2 hf
      refine aw_iload_n (pc' := 19) d_O_weightOfOthers_18 rfl rfl ?_
      refine aw_aload_n (pc' := 20) d_O_weightOfOthers_19 rfl rfl ?_
      refine aw_get (pc' := 23) d_O_weightOfOthers_20 rfl fl_O_25 hC_19 rfl ?_
      refine aw_iload_n (pc' := 24) d_O_weightOfOthers_23 rfl rfl ?_
      obtain ⟨g3, hf⟩ := aw_gi hf
      refine aw_iald (pc' := 25) d_O_weightOfOthers_24 rfl rfl hC_23 g3 ?_
      refine aw_iadd (pc' := 26) d_O_weightOfOthers_25 rfl ?_
      refine aw_istore_n (pc' := 27) (L' := [some (.ref 19), some (.int l1), some (.int (l2 + (μ.1 23 l3.toNatClampNeg))), some (.int l3)]) d_O_weightOfOthers_26 rfl (by decide) rfl ?_
      exact aw_weak [true, true, true, true] rfl (wO_weightOfOthers_27 hk4 _ _ _ hf)
set_option maxRecDepth 20000 in
theorem wO_weightOfOthers_4 {N : Nat} {n : Nat} {μ : me_M} {r0 : Int32} : ∀ (F : Nat) (l1 : Int32) (l2 : Int32) (l3 : Int32) (hf : fO_weightOfOthers_4 N n μ F l1 l2 l3 = some r0), AW "ArcTape$Scores" "weightOfOthers" c_O_weightOfOthers 4 (some .int) 0 0 0 0 (aw_is (some (.int r0)) (hC n μ)) 4 [some (.ref 19), some (.int l1), some (.int l2), some (.int l3)] [] (hC n μ) 0 0 := by
  intro F
  induction F with
  | zero => intro l1 l2 l3 hf; exact aw_no hf
  | succ F ih => intro l1 l2 l3 hf; exact wO_weightOfOthers_4b ih l1 l2 l3 hf
set_option maxRecDepth 20000 in
theorem mO_weightOfOthers {N : Nat} {n : Nat} {μ : me_M} {r0 : Int32} {l1 : Int32} (hf : fO_weightOfOthers N n μ l1 = some r0) : AM y_O_weightOfOthers c_O_weightOfOthers 4 (some .int) 0 0 0 0 [.ref 19, .int l1] (hC n μ) (aw_is (some (.int r0)) (hC n μ)) := by
  unfold fO_weightOfOthers at hf
  refine AM.of (own := "ArcTape$Scores") (nm := "weightOfOthers") (L := [some (.ref 19), some (.int l1), none, none]) rfl rfl (by decide) (Nat.le_of_ble_eq_true rfl) rfl ?_
  refine aw_iconst (pc' := 1) d_O_weightOfOthers_0 rfl kc_ic_0 ?_
  refine aw_istore_n (pc' := 2) (L' := [some (.ref 19), some (.int l1), some (.int (0 : Int32)), none]) d_O_weightOfOthers_1 rfl (by decide) rfl ?_
  refine aw_iconst (pc' := 3) d_O_weightOfOthers_2 rfl kc_ic_0 ?_
  refine aw_istore_n (pc' := 4) (L' := [some (.ref 19), some (.int l1), some (.int (0 : Int32)), some (.int (0 : Int32))]) d_O_weightOfOthers_3 rfl (by decide) rfl ?_
  exact aw_weak [true, true, true, true] rfl (wO_weightOfOthers_4 _ _ _ _ hf)
set_option maxRecDepth 20000 in
theorem wA_prefer_31 {N : Nat} {n : Nat} {r0 : (Int32 × me_M)} (μ : me_M) (hf : fA_prefer_31 N n μ = some r0) : AW "ArcTape" "prefer" c_A_prefer 3 (some .boolean) 2 0 0 0 (aw_is (some (.int r0.1)) (hC n r0.2)) 31 [none, none, none] [] (hC n μ) 0 0 := by
  unfold fA_prefer_31 at hf
  refine aw_iconst (pc' := 32) d_A_prefer_31 rfl kc_ic_0 ?_
  obtain ⟨g1, hf⟩ := aw_gz hf
  cases hf
  exact aw_zreturn rfl g1.1 d_A_prefer_32 (Nat.le_refl 0) (Nat.le_refl 0) ⟨rfl, rfl⟩
set_option maxRecDepth 20000 in
theorem mA_prefer {N : Nat} {n : Nat} {μ : me_M} {r0 : (Int32 × me_M)} {l1 : Int32} {l2 : Int32} (hf : fA_prefer N n l1 l2 μ = some r0) : AM y_A_prefer c_A_prefer 3 (some .boolean) 2 0 0 0 [.ref 0, .int l1, .int l2] (hC n μ) (aw_is (some (.int r0.1)) (hC n r0.2)) := by
  unfold fA_prefer at hf
  refine AM.of (own := "ArcTape") (nm := "prefer") (L := [some (.ref 0), some (.int l1), some (.int l2)]) rfl rfl (by decide) (Nat.le_of_ble_eq_true rfl) rfl ?_
  refine aw_aload_n (pc' := 1) d_A_prefer_0 rfl rfl ?_
  refine aw_iload_n (pc' := 2) d_A_prefer_1 rfl rfl ?_
  obtain ⟨r2, hr2, hf⟩ := aw_bind hf
  refine aw_callVv (pc' := 5) (av := [.int l1]) d_A_prefer_2 rfl wc_A_89 hC_0 (mA_isNode hr2) (Or.inl rfl) rfl (by decide) (Nat.le_of_ble_eq_true rfl) ⟨(Nat.le_refl 0), (Nat.le_refl 0)⟩ ?_
  refine aw_if_eq (tgt := 31) (pc' := 8) d_A_prefer_5 (by decide) rfl (fun c3 => ?_) (fun c3 => ?_)
  · replace hf := aw_ifp c3 hf
    exact aw_weak [false, false, false] rfl (wA_prefer_31 _ hf)
  · replace hf := aw_ifn c3 hf
    refine aw_iload_n (pc' := 9) d_A_prefer_8 rfl rfl ?_
    refine aw_iconst (pc' := 10) d_A_prefer_9 rfl kc_ic_0 ?_
    refine aw_bipush (pc' := 12) d_A_prefer_10 rfl kc_bi_100 ?_
    obtain ⟨r4, hr4, hf⟩ := aw_bind hf
    refine aw_callSv (pc' := 15) (av := [.int l2, .int (0 : Int32), .int (100 : Int32)]) d_A_prefer_12 rfl wc_A_97 (mA_within hr4) (Or.inl rfl) rfl (by decide) (Nat.le_of_ble_eq_true rfl) ⟨(Nat.le_refl 0), (Nat.le_refl 0)⟩ ?_
    refine aw_if_eq (tgt := 31) (pc' := 18) d_A_prefer_15 (by decide) rfl (fun c5 => ?_) (fun c5 => ?_)
    · replace hf := aw_ifp c5 hf
      exact aw_weak [false, false, false] rfl (wA_prefer_31 _ hf)
    · replace hf := aw_ifn c5 hf
      refine aw_aload_n (pc' := 19) d_A_prefer_18 rfl rfl ?_
      refine aw_get (pc' := 22) d_A_prefer_19 rfl fl_A_75 hC_0 rfl ?_
      refine aw_iload_n (pc' := 23) d_A_prefer_22 rfl rfl ?_
      obtain ⟨r6, hr6, hf⟩ := aw_bind hf
      refine aw_callVv (pc' := 26) (av := [.int l1]) d_A_prefer_23 rfl wc_A_145 hC_19 (mO_weightOfOthers hr6) (Or.inl rfl) rfl (by decide) (Nat.le_of_ble_eq_true rfl) ⟨(Nat.le_refl 0), (Nat.le_refl 0)⟩ ?_
      refine aw_iload_n (pc' := 27) d_A_prefer_26 rfl rfl ?_
      refine aw_iadd (pc' := 28) d_A_prefer_27 rfl ?_
      refine aw_if_ne (tgt := 33) (pc' := 31) d_A_prefer_28 (by decide) rfl (fun c7 => ?_) (fun c7 => ?_)
      · replace hf := aw_ifn c7 hf
        refine aw_aload_n (pc' := 34) d_A_prefer_33 rfl rfl ?_
        refine aw_get (pc' := 37) d_A_prefer_34 rfl fl_A_75 hC_0 rfl ?_
        refine aw_get (pc' := 40) d_A_prefer_37 rfl fl_A_148 hC_19 rfl ?_
        refine aw_iload_n (pc' := 41) d_A_prefer_40 rfl rfl ?_
        refine aw_iload_n (pc' := 42) d_A_prefer_41 rfl rfl ?_
        obtain ⟨g8, hf⟩ := aw_gi hf
        refine aw_iast (pc' := 43) (h' := (hC n (me_wi μ 23 l1.toNatClampNeg l2))) d_A_prefer_42 rfl rfl hC_23 g8 rfl ?_
        refine aw_iconst (pc' := 44) d_A_prefer_43 rfl kc_ic_1 ?_
        obtain ⟨g9, hf⟩ := aw_gz hf
        cases hf
        exact aw_zreturn rfl g9.1 d_A_prefer_44 (Nat.le_refl 0) (Nat.le_refl 0) ⟨rfl, rfl⟩
      · replace hf := aw_ifp c7 hf
        exact aw_weak [false, false, false] rfl (wA_prefer_31 _ hf)
set_option maxRecDepth 20000 in
theorem wA_start_20 {N : Nat} {n : Nat} {r0 : (Int32 × me_M)} (μ : me_M) (hf : fA_start_20 N n μ = some r0) : AW "ArcTape" "start" c_A_start 3 (some .boolean) 2 0 0 0 (aw_is (some (.int r0.1)) (hC n r0.2)) 20 [none, none, none] [] (hC n μ) 0 0 := by
  unfold fA_start_20 at hf
  refine aw_iconst (pc' := 21) d_A_start_20 rfl kc_ic_0 ?_
  obtain ⟨g1, hf⟩ := aw_gz hf
  cases hf
  exact aw_zreturn rfl g1.1 d_A_start_21 (Nat.le_refl 0) (Nat.le_refl 0) ⟨rfl, rfl⟩
set_option maxRecDepth 20000 in
theorem mA_start {N : Nat} {n : Nat} {μ : me_M} {r0 : (Int32 × me_M)} {l1 : Int32} {l2 : Int32} (hf : fA_start N n l1 l2 μ = some r0) : AM y_A_start c_A_start 3 (some .boolean) 2 0 0 0 [.ref 0, .int l1, .int l2] (hC n μ) (aw_is (some (.int r0.1)) (hC n r0.2)) := by
  unfold fA_start at hf
  refine AM.of (own := "ArcTape") (nm := "start") (L := [some (.ref 0), some (.int l1), some (.int l2)]) rfl rfl (by decide) (Nat.le_of_ble_eq_true rfl) rfl ?_
  refine aw_iload_n (pc' := 1) d_A_start_0 rfl rfl ?_
  refine aw_iconst (pc' := 2) d_A_start_1 rfl kc_ic_0 ?_
  refine aw_iconst (pc' := 3) d_A_start_2 rfl kc_ic_2 ?_
  obtain ⟨r2, hr2, hf⟩ := aw_bind hf
  refine aw_callSv (pc' := 6) (av := [.int l1, .int (0 : Int32), .int (2 : Int32)]) d_A_start_3 rfl wc_A_97 (mA_within hr2) (Or.inl rfl) rfl (by decide) (Nat.le_of_ble_eq_true rfl) ⟨(Nat.le_refl 0), (Nat.le_refl 0)⟩ ?_
  refine aw_if_eq (tgt := 20) (pc' := 9) d_A_start_6 (by decide) rfl (fun c3 => ?_) (fun c3 => ?_)
  · replace hf := aw_ifp c3 hf
    exact aw_weak [false, false, false] rfl (wA_start_20 _ hf)
  · replace hf := aw_ifn c3 hf
    refine aw_iload_n (pc' := 10) d_A_start_9 rfl rfl ?_
    refine aw_iconst (pc' := 11) d_A_start_10 rfl kc_ic_0 ?_
    refine aw_sipush (pc' := 14) d_A_start_11 rfl kc_si_1000 ?_
    obtain ⟨r4, hr4, hf⟩ := aw_bind hf
    refine aw_callSv (pc' := 17) (av := [.int l2, .int (0 : Int32), .int (1000 : Int32)]) d_A_start_14 rfl wc_A_97 (mA_within hr4) (Or.inl rfl) rfl (by decide) (Nat.le_of_ble_eq_true rfl) ⟨(Nat.le_refl 0), (Nat.le_refl 0)⟩ ?_
    refine aw_if_ne (tgt := 22) (pc' := 20) d_A_start_17 (by decide) rfl (fun c5 => ?_) (fun c5 => ?_)
    · replace hf := aw_ifn c5 hf
      refine aw_aload_n (pc' := 23) d_A_start_22 rfl rfl ?_
      refine aw_get (pc' := 26) d_A_start_23 rfl fl_A_75 hC_0 rfl ?_
      refine aw_iload_n (pc' := 27) d_A_start_26 rfl rfl ?_
      refine aw_iload_n (pc' := 28) d_A_start_27 rfl rfl ?_
      obtain ⟨r6, hr6, hf⟩ := aw_bind hf
      refine aw_callVn (pc' := 31) (av := [.int l1, .int l2]) d_A_start_28 rfl wc_A_85 hC_19 (mO_begin hr6) (Or.inl rfl) rfl (by decide) (Nat.le_of_ble_eq_true rfl) ⟨(Nat.le_refl 0), (Nat.le_refl 0)⟩ ?_
      refine aw_iconst (pc' := 32) d_A_start_31 rfl kc_ic_1 ?_
      obtain ⟨g7, hf⟩ := aw_gz hf
      cases hf
      exact aw_zreturn rfl g7.1 d_A_start_32 (Nat.le_refl 0) (Nat.le_refl 0) ⟨rfl, rfl⟩
    · replace hf := aw_ifp c5 hf
      exact aw_weak [false, false, false] rfl (wA_start_20 _ hf)
set_option maxRecDepth 20000 in
theorem mO_linksFrom {N : Nat} {n : Nat} {μ : me_M} {r0 : Int32} {l1 : Int32} (hf : fO_linksFrom N n μ l1 = some r0) : AM y_O_linksFrom c_O_linksFrom 2 (some .int) 1 0 0 0 [.ref 19, .int l1] (hC n μ) (aw_is (some (.int r0)) (hC n μ)) := by
  unfold fO_linksFrom at hf
  refine AM.of (own := "ArcTape$Scores") (nm := "linksFrom") (L := [some (.ref 19), some (.int l1)]) rfl rfl (by decide) (Nat.le_of_ble_eq_true rfl) rfl ?_
  refine aw_aload_n (pc' := 1) d_O_linksFrom_0 rfl rfl ?_
  refine aw_get (pc' := 4) d_O_linksFrom_1 rfl fl_O_9 hC_19 rfl ?_
  refine aw_iload_n (pc' := 5) d_O_linksFrom_4 rfl rfl ?_
  obtain ⟨g1, hf⟩ := aw_gi hf
  refine aw_iald (pc' := 6) d_O_linksFrom_5 rfl rfl hC_12 g1 ?_
  obtain ⟨r2, hr2, hf⟩ := aw_bind hf
  refine aw_callSv (pc' := 9) (av := [.int (μ.1 12 l1.toNatClampNeg)]) d_O_linksFrom_6 rfl wc_O_96 (mJ_bitCount hr2) (Or.inl rfl) rfl (by decide) (Nat.le_of_ble_eq_true rfl) ⟨(Nat.le_refl 0), (Nat.le_refl 0)⟩ ?_
  cases hf
  exact aw_ireturn rfl d_O_linksFrom_9 (Nat.le_refl 0) (Nat.le_refl 0) ⟨rfl, rfl⟩
set_option maxRecDepth 20000 in
theorem wO_stepByRank_199 {N : Nat} {n : Nat} {r0 : me_M} (μ : me_M) (hf : fO_stepByRank_199 N n μ = some r0) : AW "ArcTape$Scores" "stepByRank" c_O_stepByRank 10 none 2 0 0 0 (aw_is none (hC n r0)) 199 [none, none, none, none, none, none, none, none, none, none] [] (hC n μ) 0 0 := by
  unfold fO_stepByRank_199 at hf
  cases hf
  exact aw_return rfl d_O_stepByRank_199 (Nat.le_refl 0) (Nat.le_refl 0) ⟨rfl, rfl⟩
set_option maxRecDepth 20000 in
theorem wO_stepByRank_128 {N : Nat} {n : Nat} {r0 : me_M} {k55 : Int64 → Int64 → Int32 → me_M → Option me_M} (hk55 : ∀ (l1 : Int64) (l3 : Int64) (l5 : Int32) (μ : me_M), k55 l1 l3 l5 μ = some r0 → AW "ArcTape$Scores" "stepByRank" c_O_stepByRank 10 none 2 0 0 0 (aw_is none (hC n r0)) 55 [some (.ref 19), some (.long l1), none, some (.long l3), none, some (.int l5), none, none, none, none] [] (hC n μ) 0 0) (l1 : Int64) (l3 : Int64) (l5 : Int32) (l6 : Int64) (μ : me_M) (hf : fO_stepByRank_128 N n k55 l1 l3 l5 l6 μ = some r0) : AW "ArcTape$Scores" "stepByRank" c_O_stepByRank 10 none 2 0 0 0 (aw_is none (hC n r0)) 128 [some (.ref 19), some (.long l1), none, some (.long l3), none, some (.int l5), some (.long l6), none, none, none] [] (hC n μ) 0 0 := by
  unfold fO_stepByRank_128 at hf
  refine aw_sipush (pc' := 131) d_O_stepByRank_128 rfl kc_si_1000 ?_
  refine aw_aload_n (pc' := 132) d_O_stepByRank_131 rfl rfl ?_
  refine aw_get (pc' := 135) d_O_stepByRank_132 rfl fl_O_32 hC_19 rfl ?_
  refine aw_isub (pc' := 136) d_O_stepByRank_135 rfl ?_
  refine aw_i2l (pc' := 137) d_O_stepByRank_136 rfl ?_
  refine aw_ldc2 (pc' := 140) d_O_stepByRank_137 rfl wk_O_82 ?_
  refine aw_lmul (pc' := 141) d_O_stepByRank_140 rfl ?_
  refine aw_aload_n (pc' := 142) d_O_stepByRank_141 rfl rfl ?_
  refine aw_get (pc' := 145) d_O_stepByRank_142 rfl fl_O_25 hC_19 rfl ?_
  refine aw_iload (pc' := 147) d_O_stepByRank_145 rfl rfl ?_
  obtain ⟨g1, hf⟩ := aw_gi hf
  refine aw_iald (pc' := 148) d_O_stepByRank_147 rfl rfl hC_23 g1 ?_
  refine aw_i2l (pc' := 149) d_O_stepByRank_148 rfl ?_
  refine aw_lmul (pc' := 150) d_O_stepByRank_149 rfl ?_
  refine aw_lload_n (pc' := 151) d_O_stepByRank_150 rfl rfl ?_
  obtain ⟨r2, hr2, hf⟩ := aw_bind hf
  refine aw_callSv (pc' := 154) (av := [.long (((((1000 : Int32) - (μ.1 2007 0)).toInt64) * (1000000000 : Int64)) * ((μ.1 23 l5.toNatClampNeg).toInt64)), .long l1]) d_O_stepByRank_151 rfl wc_O_43 (mO_quotient hr2) (Or.inl rfl) rfl (by decide) (Nat.le_of_ble_eq_true rfl) ⟨(Nat.le_refl 0), (Nat.le_refl 0)⟩ ?_
  refine aw_lstore (pc' := 156) (L' := [some (.ref 19), some (.long l1), none, some (.long l3), none, some (.int l5), some (.long l6), none, some (.long r2), none]) d_O_stepByRank_154 rfl (by decide) rfl ?_
  refine aw_aload_n (pc' := 157) d_O_stepByRank_156 rfl rfl ?_
  refine aw_get (pc' := 160) d_O_stepByRank_157 rfl fl_O_15 hC_19 rfl ?_
  refine aw_iload (pc' := 162) d_O_stepByRank_160 rfl rfl ?_
  refine aw_lload (pc' := 164) d_O_stepByRank_162 rfl rfl ?_
  refine aw_aload_n (pc' := 165) d_O_stepByRank_164 rfl rfl ?_
  refine aw_get (pc' := 168) d_O_stepByRank_165 rfl fl_O_32 hC_19 rfl ?_
  refine aw_i2l (pc' := 169) d_O_stepByRank_168 rfl ?_
  refine aw_lload (pc' := 171) d_O_stepByRank_169 rfl rfl ?_
  refine aw_lload_n (pc' := 172) d_O_stepByRank_171 rfl rfl ?_
  refine aw_aload_n (pc' := 173) d_O_stepByRank_172 rfl rfl ?_
  refine aw_get (pc' := 176) d_O_stepByRank_173 rfl fl_O_25 hC_19 rfl ?_
  refine aw_iload (pc' := 178) d_O_stepByRank_176 rfl rfl ?_
  obtain ⟨g3, hf⟩ := aw_gi hf
  refine aw_iald (pc' := 179) d_O_stepByRank_178 rfl rfl hC_23 g3 ?_
  refine aw_i2l (pc' := 180) d_O_stepByRank_179 rfl ?_
  refine aw_lmul (pc' := 181) d_O_stepByRank_180 rfl ?_
  refine aw_lload_n (pc' := 182) d_O_stepByRank_181 rfl rfl ?_
  obtain ⟨r4, hr4, hf⟩ := aw_bind hf
  refine aw_callSv (pc' := 185) (av := [.long (l3 * ((μ.1 23 l5.toNatClampNeg).toInt64)), .long l1]) d_O_stepByRank_182 rfl wc_O_43 (mO_quotient hr4) (Or.inl rfl) rfl (by decide) (Nat.le_of_ble_eq_true rfl) ⟨(Nat.le_refl 0), (Nat.le_refl 0)⟩ ?_
  refine aw_ladd (pc' := 186) d_O_stepByRank_185 rfl ?_
  refine aw_lmul (pc' := 187) d_O_stepByRank_186 rfl ?_
  refine aw_ldc2 (pc' := 190) d_O_stepByRank_187 rfl wk_O_84 ?_
  refine aw_ldiv (pc' := 191) d_O_stepByRank_190 rfl (by decide) ?_
  refine aw_ladd (pc' := 192) d_O_stepByRank_191 rfl ?_
  obtain ⟨g6, hf⟩ := aw_gi hf
  refine aw_last (pc' := 193) (h' := (hC n (me_wl μ 20 l5.toNatClampNeg (r2 + ((((μ.1 2007 0).toInt64) * (l6 + r4)) / (1000 : Int64)))))) d_O_stepByRank_192 rfl rfl hC_20 g6 rfl ?_
  refine aw_iinc (pc' := 196) (L' := [some (.ref 19), some (.long l1), none, some (.long l3), none, some (.int (l5 + (1 : Int32))), some (.long l6), none, some (.long r2), none]) d_O_stepByRank_193 rfl kc_ic_1 rfl (by decide) rfl ?_
  refine aw_goto (tgt := 55) d_O_stepByRank_196 (by decide) ?_
  exact aw_weak [true, true, false, true, false, true, false, false, false, false] rfl (hk55 _ _ _ _ hf)
set_option maxRecDepth 20000 in
theorem wO_stepByRank_119 {N : Nat} {n : Nat} {r0 : me_M} {k55 : Int64 → Int64 → Int32 → me_M → Option me_M} (hk55 : ∀ (l1 : Int64) (l3 : Int64) (l5 : Int32) (μ : me_M), k55 l1 l3 l5 μ = some r0 → AW "ArcTape$Scores" "stepByRank" c_O_stepByRank 10 none 2 0 0 0 (aw_is none (hC n r0)) 55 [some (.ref 19), some (.long l1), none, some (.long l3), none, some (.int l5), none, none, none, none] [] (hC n μ) 0 0) {k71 : Int64 → Int64 → Int32 → Int64 → Int32 → me_M → Option me_M} (hk71 : ∀ (l1 : Int64) (l3 : Int64) (l5 : Int32) (l6 : Int64) (l8 : Int32) (μ : me_M), k71 l1 l3 l5 l6 l8 μ = some r0 → AW "ArcTape$Scores" "stepByRank" c_O_stepByRank 10 none 2 0 0 0 (aw_is none (hC n r0)) 71 [some (.ref 19), some (.long l1), none, some (.long l3), none, some (.int l5), some (.long l6), none, some (.int l8), none] [] (hC n μ) 0 0) (l1 : Int64) (l3 : Int64) (l5 : Int32) (l8 : Int32) (s0 : Int64) (s1 : Int64) (μ : me_M) (hf : fO_stepByRank_119 N n k55 k71 l1 l3 l5 l8 s0 s1 μ = some r0) : AW "ArcTape$Scores" "stepByRank" c_O_stepByRank 10 none 2 0 0 0 (aw_is none (hC n r0)) 119 [some (.ref 19), some (.long l1), none, some (.long l3), none, some (.int l5), none, none, some (.int l8), none] [.long s1, .long s0] (hC n μ) 0 0 := by
  unfold fO_stepByRank_119 at hf
  refine aw_ladd (pc' := 120) d_O_stepByRank_119 rfl ?_
  refine aw_lstore (pc' := 122) (L' := [some (.ref 19), some (.long l1), none, some (.long l3), none, some (.int l5), some (.long (s0 + s1)), none, some (.int l8), none]) d_O_stepByRank_120 rfl (by decide) rfl ?_
  refine aw_iinc (pc' := 125) (L' := [some (.ref 19), some (.long l1), none, some (.long l3), none, some (.int l5), some (.long (s0 + s1)), none, some (.int (l8 + (1 : Int32))), none]) d_O_stepByRank_122 rfl kc_ic_1 rfl (by decide) rfl ?_
  refine aw_goto (tgt := 71) d_O_stepByRank_125 (by decide) ?_
  exact aw_weak [true, true, false, true, false, true, true, false, true, false] rfl (hk71 _ _ _ _ _ _ hf)
set_option maxRecDepth 20000 in
theorem wO_stepByRank_71b {N : Nat} {n : Nat} {r0 : me_M} {k55 : Int64 → Int64 → Int32 → me_M → Option me_M} (hk55 : ∀ (l1 : Int64) (l3 : Int64) (l5 : Int32) (μ : me_M), k55 l1 l3 l5 μ = some r0 → AW "ArcTape$Scores" "stepByRank" c_O_stepByRank 10 none 2 0 0 0 (aw_is none (hC n r0)) 55 [some (.ref 19), some (.long l1), none, some (.long l3), none, some (.int l5), none, none, none, none] [] (hC n μ) 0 0) {k71 : Int64 → Int64 → Int32 → Int64 → Int32 → me_M → Option me_M} (hk71 : ∀ (l1 : Int64) (l3 : Int64) (l5 : Int32) (l6 : Int64) (l8 : Int32) (μ : me_M), k71 l1 l3 l5 l6 l8 μ = some r0 → AW "ArcTape$Scores" "stepByRank" c_O_stepByRank 10 none 2 0 0 0 (aw_is none (hC n r0)) 71 [some (.ref 19), some (.long l1), none, some (.long l3), none, some (.int l5), some (.long l6), none, some (.int l8), none] [] (hC n μ) 0 0) (l1 : Int64) (l3 : Int64) (l5 : Int32) (l6 : Int64) (l8 : Int32) (μ : me_M) (hf : fO_stepByRank_71b N n k55 k71 l1 l3 l5 l6 l8 μ = some r0) : AW "ArcTape$Scores" "stepByRank" c_O_stepByRank 10 none 2 0 0 0 (aw_is none (hC n r0)) 71 [some (.ref 19), some (.long l1), none, some (.long l3), none, some (.int l5), some (.long l6), none, some (.int l8), none] [] (hC n μ) 0 0 := by
  unfold fO_stepByRank_71b at hf
  refine aw_iload (pc' := 73) d_O_stepByRank_71 rfl rfl ?_
  refine aw_aload_n (pc' := 74) d_O_stepByRank_73 rfl rfl ?_
  refine aw_get (pc' := 77) d_O_stepByRank_74 rfl fl_O_9 hC_19 rfl ?_
  refine aw_alen (pc' := 78) d_O_stepByRank_77 rfl rfl hC_12 ?_
  refine aw_icmp_ge (tgt := 128) (pc' := 81) d_O_stepByRank_78 (by decide) rfl (fun c7 => ?_) (fun c7 => ?_)
  · replace hf := aw_ifp c7 hf
    exact aw_weak [true, true, false, true, false, true, true, false, false, false] rfl (wO_stepByRank_128 hk55 _ _ _ _ _ hf)
  · replace hf := aw_ifn c7 hf
    refine aw_lload (pc' := 83) d_O_stepByRank_81 rfl rfl ?_
    refine aw_aload_n (pc' := 84) d_O_stepByRank_83 rfl rfl ?_
    refine aw_get (pc' := 87) d_O_stepByRank_84 rfl fl_O_9 hC_19 rfl ?_
    refine aw_iload (pc' := 89) d_O_stepByRank_87 rfl rfl ?_
    obtain ⟨g8, hf⟩ := aw_gi hf
    refine aw_iald (pc' := 90) d_O_stepByRank_89 rfl rfl hC_12 g8 ?_
    refine aw_iload (pc' := 92) d_O_stepByRank_90 rfl rfl ?_
    obtain ⟨r9, hr9, hf⟩ := aw_bind hf
    refine aw_callNv (pc' := 95) (av := [.int (μ.1 12 l8.toNatClampNeg), .int l5]) d_O_stepByRank_92 rfl wc_O_75 (mA_holds hr9) (Or.inl rfl) rfl (by decide) (Nat.le_of_ble_eq_true rfl) ⟨(Nat.le_refl 0), (Nat.le_refl 0)⟩ ?_
    refine aw_if_eq (tgt := 118) (pc' := 98) d_O_stepByRank_95 (by decide) rfl (fun c10 => ?_) (fun c10 => ?_)
    · replace hf := aw_ifp c10 hf
      refine aw_lconst (pc' := 119) d_O_stepByRank_118 rfl kc_lc_0 ?_
      exact aw_weak [true, true, false, true, false, true, false, false, true, false] rfl (wO_stepByRank_119 hk55 hk71 _ _ _ _ _ _ _ hf)
    · replace hf := aw_ifn c10 hf
      refine aw_aload_n (pc' := 99) d_O_stepByRank_98 rfl rfl ?_
      refine aw_get (pc' := 102) d_O_stepByRank_99 rfl fl_O_22 hC_19 rfl ?_
      refine aw_iload (pc' := 104) d_O_stepByRank_102 rfl rfl ?_
      obtain ⟨g11, hf⟩ := aw_gi hf
      refine aw_lald (pc' := 105) d_O_stepByRank_104 rfl rfl hC_22 g11 ?_
      refine aw_aload_n (pc' := 106) d_O_stepByRank_105 rfl rfl ?_
      refine aw_iload (pc' := 108) d_O_stepByRank_106 rfl rfl ?_
      obtain ⟨r12, hr12, hf⟩ := aw_bind hf
      refine aw_callVv (pc' := 111) (av := [.int l8]) d_O_stepByRank_108 rfl wc_O_79 hC_19 (mO_linksFrom hr12) (Or.inl rfl) rfl (by decide) (Nat.le_of_ble_eq_true rfl) ⟨(Nat.le_refl 0), (Nat.le_refl 0)⟩ ?_
      refine aw_i2l (pc' := 112) d_O_stepByRank_111 rfl ?_
      obtain ⟨r13, hr13, hf⟩ := aw_bind hf
      refine aw_callSv (pc' := 115) (av := [.long (μ.2 22 l8.toNatClampNeg), .long r12.toInt64]) d_O_stepByRank_112 rfl wc_O_43 (mO_quotient hr13) (Or.inl rfl) rfl (by decide) (Nat.le_of_ble_eq_true rfl) ⟨(Nat.le_refl 0), (Nat.le_refl 0)⟩ ?_
      refine aw_goto (tgt := 119) d_O_stepByRank_115 (by decide) ?_
      exact aw_weak [true, true, false, true, false, true, false, false, true, false] rfl (wO_stepByRank_119 hk55 hk71 _ _ _ _ _ _ _ hf)
set_option maxRecDepth 20000 in
theorem wO_stepByRank_71 {N : Nat} {n : Nat} {r0 : me_M} {k55 : Int64 → Int64 → Int32 → me_M → Option me_M} (hk55 : ∀ (l1 : Int64) (l3 : Int64) (l5 : Int32) (μ : me_M), k55 l1 l3 l5 μ = some r0 → AW "ArcTape$Scores" "stepByRank" c_O_stepByRank 10 none 2 0 0 0 (aw_is none (hC n r0)) 55 [some (.ref 19), some (.long l1), none, some (.long l3), none, some (.int l5), none, none, none, none] [] (hC n μ) 0 0) : ∀ (F : Nat) (l1 : Int64) (l3 : Int64) (l5 : Int32) (l6 : Int64) (l8 : Int32) (μ : me_M) (hf : fO_stepByRank_71 N n k55 F l1 l3 l5 l6 l8 μ = some r0), AW "ArcTape$Scores" "stepByRank" c_O_stepByRank 10 none 2 0 0 0 (aw_is none (hC n r0)) 71 [some (.ref 19), some (.long l1), none, some (.long l3), none, some (.int l5), some (.long l6), none, some (.int l8), none] [] (hC n μ) 0 0 := by
  intro F
  induction F with
  | zero => intro l1 l3 l5 l6 l8 μ hf; exact aw_no hf
  | succ F ih => intro l1 l3 l5 l6 l8 μ hf; exact wO_stepByRank_71b hk55 ih l1 l3 l5 l6 l8 μ hf
set_option maxRecDepth 20000 in
theorem wO_stepByRank_55b {N : Nat} {n : Nat} {r0 : me_M} {k55 : Int64 → Int64 → Int32 → me_M → Option me_M} (hk55 : ∀ (l1 : Int64) (l3 : Int64) (l5 : Int32) (μ : me_M), k55 l1 l3 l5 μ = some r0 → AW "ArcTape$Scores" "stepByRank" c_O_stepByRank 10 none 2 0 0 0 (aw_is none (hC n r0)) 55 [some (.ref 19), some (.long l1), none, some (.long l3), none, some (.int l5), none, none, none, none] [] (hC n μ) 0 0) (l1 : Int64) (l3 : Int64) (l5 : Int32) (μ : me_M) (hf : fO_stepByRank_55b N n k55 l1 l3 l5 μ = some r0) : AW "ArcTape$Scores" "stepByRank" c_O_stepByRank 10 none 2 0 0 0 (aw_is none (hC n r0)) 55 [some (.ref 19), some (.long l1), none, some (.long l3), none, some (.int l5), none, none, none, none] [] (hC n μ) 0 0 := by
  unfold fO_stepByRank_55b at hf
  refine aw_iload (pc' := 57) d_O_stepByRank_55 rfl rfl ?_
  refine aw_aload_n (pc' := 58) d_O_stepByRank_57 rfl rfl ?_
  refine aw_get (pc' := 61) d_O_stepByRank_58 rfl fl_O_9 hC_19 rfl ?_
  refine aw_alen (pc' := 62) d_O_stepByRank_61 rfl rfl hC_12 ?_
  refine aw_icmp_ge (tgt := 199) (pc' := 65) d_O_stepByRank_62 (by decide) rfl (fun c14 => ?_) (fun c14 => ?_)
  · replace hf := aw_ifp c14 hf
    exact aw_weak [false, false, false, false, false, false, false, false, false, false] rfl (wO_stepByRank_199 _ hf)
  · replace hf := aw_ifn c14 hf
    refine aw_lconst (pc' := 66) d_O_stepByRank_65 rfl kc_lc_0 ?_
    refine aw_lstore (pc' := 68) (L' := [some (.ref 19), some (.long l1), none, some (.long l3), none, some (.int l5), some (.long (0 : Int64)), none, none, none]) d_O_stepByRank_66 rfl (by decide) rfl ?_
    refine aw_iconst (pc' := 69) d_O_stepByRank_68 rfl kc_ic_0 ?_
    refine aw_istore (pc' := 71) (L' := [some (.ref 19), some (.long l1), none, some (.long l3), none, some (.int l5), some (.long (0 : Int64)), none, some (.int (0 : Int32)), none]) d_O_stepByRank_69 rfl (by decide) rfl ?_
    exact aw_weak [true, true, false, true, false, true, true, false, true, false] rfl (wO_stepByRank_71 hk55 _ _ _ _ _ _ _ hf)
set_option maxRecDepth 20000 in
theorem wO_stepByRank_55 {N : Nat} {n : Nat} {r0 : me_M} : ∀ (F : Nat) (l1 : Int64) (l3 : Int64) (l5 : Int32) (μ : me_M) (hf : fO_stepByRank_55 N n F l1 l3 l5 μ = some r0), AW "ArcTape$Scores" "stepByRank" c_O_stepByRank 10 none 2 0 0 0 (aw_is none (hC n r0)) 55 [some (.ref 19), some (.long l1), none, some (.long l3), none, some (.int l5), none, none, none, none] [] (hC n μ) 0 0 := by
  intro F
  induction F with
  | zero => intro l1 l3 l5 μ hf; exact aw_no hf
  | succ F ih => intro l1 l3 l5 μ hf; exact wO_stepByRank_55b ih l1 l3 l5 μ hf
set_option maxRecDepth 20000 in
theorem wO_stepByRank_52 {N : Nat} {n : Nat} {r0 : me_M} (l1 : Int64) (l3 : Int64) (μ : me_M) (hf : fO_stepByRank_52 N n l1 l3 μ = some r0) : AW "ArcTape$Scores" "stepByRank" c_O_stepByRank 10 none 2 0 0 0 (aw_is none (hC n r0)) 52 [some (.ref 19), some (.long l1), none, some (.long l3), none, none, none, none, none, none] [] (hC n μ) 0 0 := by
  unfold fO_stepByRank_52 at hf
  refine aw_iconst (pc' := 53) d_O_stepByRank_52 rfl kc_ic_0 ?_
  refine aw_istore (pc' := 55) (L' := [some (.ref 19), some (.long l1), none, some (.long l3), none, some (.int (0 : Int32)), none, none, none, none]) d_O_stepByRank_53 rfl (by decide) rfl ?_
  exact aw_weak [true, true, false, true, false, true, false, false, false, false] rfl (wO_stepByRank_55 _ _ _ _ _ hf)
set_option maxRecDepth 20000 in
theorem wO_stepByRank_44 {N : Nat} {n : Nat} {r0 : me_M} {k12 : Int64 → Int64 → Int32 → me_M → Option me_M} (hk12 : ∀ (l1 : Int64) (l3 : Int64) (l5 : Int32) (μ : me_M), k12 l1 l3 l5 μ = some r0 → AW "ArcTape$Scores" "stepByRank" c_O_stepByRank 10 none 2 0 0 0 (aw_is none (hC n r0)) 12 [some (.ref 19), some (.long l1), none, some (.long l3), none, some (.int l5), none, none, none, none] [] (hC n μ) 0 0) (l1 : Int64) (l5 : Int32) (s0 : Int64) (s1 : Int64) (μ : me_M) (hf : fO_stepByRank_44 N n k12 l1 l5 s0 s1 μ = some r0) : AW "ArcTape$Scores" "stepByRank" c_O_stepByRank 10 none 2 0 0 0 (aw_is none (hC n r0)) 44 [some (.ref 19), some (.long l1), none, none, none, some (.int l5), none, none, none, none] [.long s1, .long s0] (hC n μ) 0 0 := by
  unfold fO_stepByRank_44 at hf
  refine aw_ladd (pc' := 45) d_O_stepByRank_44 rfl ?_
  refine aw_lstore_n (pc' := 46) (L' := [some (.ref 19), some (.long l1), none, some (.long (s0 + s1)), none, some (.int l5), none, none, none, none]) d_O_stepByRank_45 rfl (by decide) rfl ?_
  refine aw_iinc (pc' := 49) (L' := [some (.ref 19), some (.long l1), none, some (.long (s0 + s1)), none, some (.int (l5 + (1 : Int32))), none, none, none, none]) d_O_stepByRank_46 rfl kc_ic_1 rfl (by decide) rfl ?_
  refine aw_goto (tgt := 12) d_O_stepByRank_49 (by decide) ?_
  exact aw_weak [true, true, false, true, false, true, false, false, false, false] rfl (hk12 _ _ _ _ hf)
set_option maxRecDepth 20000 in
theorem wO_stepByRank_12b {N : Nat} {n : Nat} {r0 : me_M} {k12 : Int64 → Int64 → Int32 → me_M → Option me_M} (hk12 : ∀ (l1 : Int64) (l3 : Int64) (l5 : Int32) (μ : me_M), k12 l1 l3 l5 μ = some r0 → AW "ArcTape$Scores" "stepByRank" c_O_stepByRank 10 none 2 0 0 0 (aw_is none (hC n r0)) 12 [some (.ref 19), some (.long l1), none, some (.long l3), none, some (.int l5), none, none, none, none] [] (hC n μ) 0 0) (l1 : Int64) (l3 : Int64) (l5 : Int32) (μ : me_M) (hf : fO_stepByRank_12b N n k12 l1 l3 l5 μ = some r0) : AW "ArcTape$Scores" "stepByRank" c_O_stepByRank 10 none 2 0 0 0 (aw_is none (hC n r0)) 12 [some (.ref 19), some (.long l1), none, some (.long l3), none, some (.int l5), none, none, none, none] [] (hC n μ) 0 0 := by
  unfold fO_stepByRank_12b at hf
  refine aw_iload (pc' := 14) d_O_stepByRank_12 rfl rfl ?_
  refine aw_aload_n (pc' := 15) d_O_stepByRank_14 rfl rfl ?_
  refine aw_get (pc' := 18) d_O_stepByRank_15 rfl fl_O_9 hC_19 rfl ?_
  refine aw_alen (pc' := 19) d_O_stepByRank_18 rfl rfl hC_12 ?_
  refine aw_icmp_ge (tgt := 52) (pc' := 22) d_O_stepByRank_19 (by decide) rfl (fun c15 => ?_) (fun c15 => ?_)
  · replace hf := aw_ifp c15 hf
    exact aw_weak [true, true, false, true, false, false, false, false, false, false] rfl (wO_stepByRank_52 _ _ _ hf)
  · replace hf := aw_ifn c15 hf
    refine aw_lload_n (pc' := 23) d_O_stepByRank_22 rfl rfl ?_
    refine aw_aload_n (pc' := 24) d_O_stepByRank_23 rfl rfl ?_
    refine aw_get (pc' := 27) d_O_stepByRank_24 rfl fl_O_9 hC_19 rfl ?_
    refine aw_iload (pc' := 29) d_O_stepByRank_27 rfl rfl ?_
    obtain ⟨g16, hf⟩ := aw_gi hf
    refine aw_iald (pc' := 30) d_O_stepByRank_29 rfl rfl hC_12 g16 ?_
    refine aw_if_ne (tgt := 43) (pc' := 33) d_O_stepByRank_30 (by decide) rfl (fun c17 => ?_) (fun c17 => ?_)
    · replace hf := aw_ifn c17 hf
      refine aw_lconst (pc' := 44) d_O_stepByRank_43 rfl kc_lc_0 ?_
      exact aw_weak [true, true, false, false, false, true, false, false, false, false] rfl (wO_stepByRank_44 hk12 _ _ _ _ _ hf)
    · replace hf := aw_ifp c17 hf
      refine aw_aload_n (pc' := 34) d_O_stepByRank_33 rfl rfl ?_
      refine aw_get (pc' := 37) d_O_stepByRank_34 rfl fl_O_22 hC_19 rfl ?_
      refine aw_iload (pc' := 39) d_O_stepByRank_37 rfl rfl ?_
      obtain ⟨g18, hf⟩ := aw_gi hf
      refine aw_lald (pc' := 40) d_O_stepByRank_39 rfl rfl hC_22 g18 ?_
      refine aw_goto (tgt := 44) d_O_stepByRank_40 (by decide) ?_
      exact aw_weak [true, true, false, false, false, true, false, false, false, false] rfl (wO_stepByRank_44 hk12 _ _ _ _ _ hf)
set_option maxRecDepth 20000 in
theorem wO_stepByRank_12 {N : Nat} {n : Nat} {r0 : me_M} : ∀ (F : Nat) (l1 : Int64) (l3 : Int64) (l5 : Int32) (μ : me_M) (hf : fO_stepByRank_12 N n F l1 l3 l5 μ = some r0), AW "ArcTape$Scores" "stepByRank" c_O_stepByRank 10 none 2 0 0 0 (aw_is none (hC n r0)) 12 [some (.ref 19), some (.long l1), none, some (.long l3), none, some (.int l5), none, none, none, none] [] (hC n μ) 0 0 := by
  intro F
  induction F with
  | zero => intro l1 l3 l5 μ hf; exact aw_no hf
  | succ F ih => intro l1 l3 l5 μ hf; exact wO_stepByRank_12b ih l1 l3 l5 μ hf
set_option maxRecDepth 20000 in
theorem mO_stepByRank {N : Nat} {n : Nat} {μ : me_M} {r0 : me_M} (hf : fO_stepByRank N n μ = some r0) : AM y_O_stepByRank c_O_stepByRank 10 none 2 0 0 0 [.ref 19] (hC n μ) (aw_is none (hC n r0)) := by
  unfold fO_stepByRank at hf
  refine AM.of (own := "ArcTape$Scores") (nm := "stepByRank") (L := [some (.ref 19), none, none, none, none, none, none, none, none, none]) rfl rfl (by decide) (Nat.le_of_ble_eq_true rfl) rfl ?_
  refine aw_aload_n (pc' := 1) d_O_stepByRank_0 rfl rfl ?_
  refine aw_iconst (pc' := 2) d_O_stepByRank_1 rfl kc_ic_m1 ?_
  obtain ⟨r19, hr19, hf⟩ := aw_bind hf
  refine aw_callVv (pc' := 5) (av := [.int (-1 : Int32)]) d_O_stepByRank_2 rfl wc_O_71 hC_19 (mO_weightOfOthers hr19) (Or.inl rfl) rfl (by decide) (Nat.le_of_ble_eq_true rfl) ⟨(Nat.le_refl 0), (Nat.le_refl 0)⟩ ?_
  refine aw_i2l (pc' := 6) d_O_stepByRank_5 rfl ?_
  refine aw_lstore_n (pc' := 7) (L' := [some (.ref 19), some (.long r19.toInt64), none, none, none, none, none, none, none, none]) d_O_stepByRank_6 rfl (by decide) rfl ?_
  refine aw_lconst (pc' := 8) d_O_stepByRank_7 rfl kc_lc_0 ?_
  refine aw_lstore_n (pc' := 9) (L' := [some (.ref 19), some (.long r19.toInt64), none, some (.long (0 : Int64)), none, none, none, none, none, none]) d_O_stepByRank_8 rfl (by decide) rfl ?_
  refine aw_iconst (pc' := 10) d_O_stepByRank_9 rfl kc_ic_0 ?_
  refine aw_istore (pc' := 12) (L' := [some (.ref 19), some (.long r19.toInt64), none, some (.long (0 : Int64)), none, some (.int (0 : Int32)), none, none, none, none]) d_O_stepByRank_10 rfl (by decide) rfl ?_
  exact aw_weak [true, true, false, true, false, true, false, false, false, false] rfl (wO_stepByRank_12 _ _ _ _ _ hf)
