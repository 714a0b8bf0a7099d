set_option maxRecDepth 20000 in
theorem wO_bringToGreatest_20_52 {N : Nat} {n : Nat} {r0 : me_M} (μ : me_M) (hf : fO_bringToGreatest_20_52 N n μ = some r0) : AW "ArcTape$Scores" "bringToGreatest" c_O_bringToGreatest 4 none 1 0 0 0 (aw_is none (hC n r0)) 52 [none, none, none, none] [] (hC n μ) 0 0 := by
  unfold fO_bringToGreatest_20_52 at hf
  cases hf
  exact aw_return rfl d_O_bringToGreatest_52 (Nat.le_refl 0) (Nat.le_refl 0) ⟨rfl, rfl⟩
set_option maxRecDepth 20000 in
theorem wO_bringToGreatest_20_26b {N : Nat} {n : Nat} {r0 : me_M} {k26 : Int64 → Int32 → me_M → Option me_M} (hk26 : ∀ (l1 : Int64) (l3 : Int32) (μ : me_M), k26 l1 l3 μ = some r0 → AW "ArcTape$Scores" "bringToGreatest" c_O_bringToGreatest 4 none 1 0 0 0 (aw_is none (hC n r0)) 26 [some (.ref 20), some (.long l1), none, some (.int l3)] [] (hC n μ) 0 0) (l1 : Int64) (l3 : Int32) (μ : me_M) (hf : fO_bringToGreatest_20_26b N n k26 l1 l3 μ = some r0) : AW "ArcTape$Scores" "bringToGreatest" c_O_bringToGreatest 4 none 1 0 0 0 (aw_is none (hC n r0)) 26 [some (.ref 20), some (.long l1), none, some (.int l3)] [] (hC n μ) 0 0 := by
  unfold fO_bringToGreatest_20_26b at hf
  refine aw_iload_n (pc' := 27) d_O_bringToGreatest_26 rfl rfl ?_
  refine aw_aload_n (pc' := 28) d_O_bringToGreatest_27 rfl rfl ?_
  refine aw_alen (pc' := 29) d_O_bringToGreatest_28 rfl rfl hC_20 ?_
  refine aw_icmp_ge (tgt := 52) (pc' := 32) d_O_bringToGreatest_29 (by decide) rfl (fun c1 => ?_) (fun c1 => ?_)
  · replace hf := aw_ifp c1 hf
    exact aw_weak [false, false, false, false] rfl (wO_bringToGreatest_20_52 _ hf)
  · replace hf := aw_ifn c1 hf
    refine aw_aload_n (pc' := 33) d_O_bringToGreatest_32 rfl rfl ?_
    refine aw_iload_n (pc' := 34) d_O_bringToGreatest_33 rfl rfl ?_
    refine aw_aload_n (pc' := 35) d_O_bringToGreatest_34 rfl rfl ?_
    refine aw_iload_n (pc' := 36) d_O_bringToGreatest_35 rfl rfl ?_
    obtain ⟨g2, hf⟩ := aw_gi hf
    refine aw_lald (pc' := 37) d_O_bringToGreatest_36 rfl rfl hC_20 g2 ?_
    refine aw_ldc2 (pc' := 40) d_O_bringToGreatest_37 rfl wk_O_39 ?_
    refine aw_lmul (pc' := 41) d_O_bringToGreatest_40 rfl ?_
    refine aw_lload_n (pc' := 42) d_O_bringToGreatest_41 rfl rfl ?_
    obtain ⟨r3, hr3, hf⟩ := aw_bind hf
    refine aw_callSv (pc' := 45) (av := [.long ((μ.2 20 l3.toNatClampNeg) * (1000000 : Int64)), .long l1]) d_O_bringToGreatest_42 rfl wc_O_43 (mO_quotient hr3) (Or.inl rfl) rfl (by decide) (Nat.le_of_ble_eq_true rfl) ⟨(Nat.le_refl 0), (Nat.le_refl 0)⟩ ?_
    obtain ⟨g4, hf⟩ := aw_gi hf
    refine aw_last (pc' := 46) (h' := (hC n (me_wl μ 20 l3.toNatClampNeg r3))) d_O_bringToGreatest_45 rfl rfl hC_20 g4 rfl ?_
    refine aw_iinc (pc' := 49) (L' := [some (.ref 20), some (.long l1), none, some (.int (l3 + (1 : Int32)))]) d_O_bringToGreatest_46 rfl kc_ic_1 rfl (by decide) rfl ?_
    refine aw_goto (tgt := 26) d_O_bringToGreatest_49 (by decide) ?_
    exact aw_weak [true, true, false, true] rfl (hk26 _ _ _ hf)
set_option maxRecDepth 20000 in
theorem wO_bringToGreatest_20_26 {N : Nat} {n : Nat} {r0 : me_M} : ∀ (F : Nat) (l1 : Int64) (l3 : Int32) (μ : me_M) (hf : fO_bringToGreatest_20_26 N n F l1 l3 μ = some r0), AW "ArcTape$Scores" "bringToGreatest" c_O_bringToGreatest 4 none 1 0 0 0 (aw_is none (hC n r0)) 26 [some (.ref 20), some (.long l1), none, some (.int l3)] [] (hC n μ) 0 0 := by
  intro F
  induction F with
  | zero => intro l1 l3 μ hf; exact aw_no hf
  | succ F ih => intro l1 l3 μ hf; exact wO_bringToGreatest_20_26b ih l1 l3 μ hf
set_option maxRecDepth 20000 in
theorem wO_bringToGreatest_20_24 {N : Nat} {n : Nat} {r0 : me_M} (l1 : Int64) (μ : me_M) (hf : fO_bringToGreatest_20_24 N n l1 μ = some r0) : AW "ArcTape$Scores" "bringToGreatest" c_O_bringToGreatest 4 none 1 0 0 0 (aw_is none (hC n r0)) 24 [some (.ref 20), some (.long l1), none, none] [] (hC n μ) 0 0 := by
  unfold fO_bringToGreatest_20_24 at hf
  refine aw_iconst (pc' := 25) d_O_bringToGreatest_24 rfl kc_ic_0 ?_
  refine aw_istore_n (pc' := 26) (L' := [some (.ref 20), some (.long l1), none, some (.int (0 : Int32))]) d_O_bringToGreatest_25 rfl (by decide) rfl ?_
  exact aw_weak [true, true, false, true] rfl (wO_bringToGreatest_20_26 _ _ _ _ hf)
set_option maxRecDepth 20000 in
theorem wO_bringToGreatest_20_4b {N : Nat} {n : Nat} {r0 : me_M} {k4 : Int64 → Int32 → me_M → Option me_M} (hk4 : ∀ (l1 : Int64) (l3 : Int32) (μ : me_M), k4 l1 l3 μ = some r0 → AW "ArcTape$Scores" "bringToGreatest" c_O_bringToGreatest 4 none 1 0 0 0 (aw_is none (hC n r0)) 4 [some (.ref 20), some (.long l1), none, some (.int l3)] [] (hC n μ) 0 0) (l1 : Int64) (l3 : Int32) (μ : me_M) (hf : fO_bringToGreatest_20_4b N n k4 l1 l3 μ = some r0) : AW "ArcTape$Scores" "bringToGreatest" c_O_bringToGreatest 4 none 1 0 0 0 (aw_is none (hC n r0)) 4 [some (.ref 20), some (.long l1), none, some (.int l3)] [] (hC n μ) 0 0 := by
  unfold fO_bringToGreatest_20_4b at hf
  refine aw_iload_n (pc' := 5) d_O_bringToGreatest_4 rfl rfl ?_
  refine aw_aload_n (pc' := 6) d_O_bringToGreatest_5 rfl rfl ?_
  refine aw_alen (pc' := 7) d_O_bringToGreatest_6 rfl rfl hC_20 ?_
  refine aw_icmp_ge (tgt := 24) (pc' := 10) d_O_bringToGreatest_7 (by decide) rfl (fun c5 => ?_) (fun c5 => ?_)
  · replace hf := aw_ifp c5 hf
    exact aw_weak [true, true, false, false] rfl (wO_bringToGreatest_20_24 _ _ hf)
  · replace hf := aw_ifn c5 hf
    refine aw_lload_n (pc' := 11) d_O_bringToGreatest_10 rfl rfl ?_
    refine aw_aload_n (pc' := 12) d_O_bringToGreatest_11 rfl rfl ?_
    refine aw_iload_n (pc' := 13) d_O_bringToGreatest_12 rfl rfl ?_
    obtain ⟨g6, hf⟩ := aw_gi hf
    refine aw_lald (pc' := 14) d_O_bringToGreatest_13 rfl rfl hC_20 g6 ?_
    refine aw_mmaxl (pc' := 17) d_O_bringToGreatest_14 rfl wc_O_90 (by decide) (Nat.le_of_ble_eq_true rfl) (Nat.le_refl 0) (Nat.le_refl 0) ?_
    refine aw_lstore_n (pc' := 18) (L' := [some (.ref 20), some (.long (if (μ.2 20 l3.toNatClampNeg) < l1 then l1 else (μ.2 20 l3.toNatClampNeg))), none, some (.int l3)]) d_O_bringToGreatest_17 rfl (by decide) rfl ?_
    refine aw_iinc (pc' := 21) (L' := [some (.ref 20), some (.long (if (μ.2 20 l3.toNatClampNeg) < l1 then l1 else (μ.2 20 l3.toNatClampNeg))), none, some (.int (l3 + (1 : Int32)))]) d_O_bringToGreatest_18 rfl kc_ic_1 rfl (by decide) rfl ?_
    refine aw_goto (tgt := 4) d_O_bringToGreatest_21 (by decide) ?_
    exact aw_weak [true, true, false, true] rfl (hk4 _ _ _ hf)
set_option maxRecDepth 20000 in
theorem wO_bringToGreatest_20_4 {N : Nat} {n : Nat} {r0 : me_M} : ∀ (F : Nat) (l1 : Int64) (l3 : Int32) (μ : me_M) (hf : fO_bringToGreatest_20_4 N n F l1 l3 μ = some r0), AW "ArcTape$Scores" "bringToGreatest" c_O_bringToGreatest 4 none 1 0 0 0 (aw_is none (hC n r0)) 4 [some (.ref 20), some (.long l1), none, some (.int l3)] [] (hC n μ) 0 0 := by
  intro F
  induction F with
  | zero => intro l1 l3 μ hf; exact aw_no hf
  | succ F ih => intro l1 l3 μ hf; exact wO_bringToGreatest_20_4b ih l1 l3 μ hf
set_option maxRecDepth 20000 in
theorem mO_bringToGreatest_20 {N : Nat} {n : Nat} {μ : me_M} {r0 : me_M} (hf : fO_bringToGreatest_20 N n μ = some r0) : AM y_O_bringToGreatest c_O_bringToGreatest 4 none 1 0 0 0 [.ref 20] (hC n μ) (aw_is none (hC n r0)) := by
  unfold fO_bringToGreatest_20 at hf
  refine AM.of (own := "ArcTape$Scores") (nm := "bringToGreatest") (L := [some (.ref 20), none, none, none]) rfl rfl (by decide) (Nat.le_of_ble_eq_true rfl) rfl ?_
  refine aw_lconst (pc' := 1) d_O_bringToGreatest_0 rfl kc_lc_0 ?_
  refine aw_lstore_n (pc' := 2) (L' := [some (.ref 20), some (.long (0 : Int64)), none, none]) d_O_bringToGreatest_1 rfl (by decide) rfl ?_
  refine aw_iconst (pc' := 3) d_O_bringToGreatest_2 rfl kc_ic_0 ?_
  refine aw_istore_n (pc' := 4) (L' := [some (.ref 20), some (.long (0 : Int64)), none, some (.int (0 : Int32))]) d_O_bringToGreatest_3 rfl (by decide) rfl ?_
  exact aw_weak [true, true, false, true] rfl (wO_bringToGreatest_20_4 _ _ _ _ hf)
set_option maxRecDepth 20000 in
theorem wO_bringToGreatest_21_52 {N : Nat} {n : Nat} {r0 : me_M} (μ : me_M) (hf : fO_bringToGreatest_21_52 N n μ = some r0) : AW "ArcTape$Scores" "bringToGreatest" c_O_bringToGreatest 4 none 1 0 0 0 (aw_is none (hC n r0)) 52 [none, none, none, none] [] (hC n μ) 0 0 := by
  unfold fO_bringToGreatest_21_52 at hf
  cases hf
  exact aw_return rfl d_O_bringToGreatest_52 (Nat.le_refl 0) (Nat.le_refl 0) ⟨rfl, rfl⟩
set_option maxRecDepth 20000 in
theorem wO_bringToGreatest_21_26b {N : Nat} {n : Nat} {r0 : me_M} {k26 : Int64 → Int32 → me_M → Option me_M} (hk26 : ∀ (l1 : Int64) (l3 : Int32) (μ : me_M), k26 l1 l3 μ = some r0 → AW "ArcTape$Scores" "bringToGreatest" c_O_bringToGreatest 4 none 1 0 0 0 (aw_is none (hC n r0)) 26 [some (.ref 21), some (.long l1), none, some (.int l3)] [] (hC n μ) 0 0) (l1 : Int64) (l3 : Int32) (μ : me_M) (hf : fO_bringToGreatest_21_26b N n k26 l1 l3 μ = some r0) : AW "ArcTape$Scores" "bringToGreatest" c_O_bringToGreatest 4 none 1 0 0 0 (aw_is none (hC n r0)) 26 [some (.ref 21), some (.long l1), none, some (.int l3)] [] (hC n μ) 0 0 := by
  unfold fO_bringToGreatest_21_26b at hf
  refine aw_iload_n (pc' := 27) d_O_bringToGreatest_26 rfl rfl ?_
  refine aw_aload_n (pc' := 28) d_O_bringToGreatest_27 rfl rfl ?_
  refine aw_alen (pc' := 29) d_O_bringToGreatest_28 rfl rfl hC_21 ?_
  refine aw_icmp_ge (tgt := 52) (pc' := 32) d_O_bringToGreatest_29 (by decide) rfl (fun c1 => ?_) (fun c1 => ?_)
  · replace hf := aw_ifp c1 hf
    exact aw_weak [false, false, false, false] rfl (wO_bringToGreatest_21_52 _ hf)
  · replace hf := aw_ifn c1 hf
    refine aw_aload_n (pc' := 33) d_O_bringToGreatest_32 rfl rfl ?_
    refine aw_iload_n (pc' := 34) d_O_bringToGreatest_33 rfl rfl ?_
    refine aw_aload_n (pc' := 35) d_O_bringToGreatest_34 rfl rfl ?_
    refine aw_iload_n (pc' := 36) d_O_bringToGreatest_35 rfl rfl ?_
    obtain ⟨g2, hf⟩ := aw_gi hf
    refine aw_lald (pc' := 37) d_O_bringToGreatest_36 rfl rfl hC_21 g2 ?_
    refine aw_ldc2 (pc' := 40) d_O_bringToGreatest_37 rfl wk_O_39 ?_
    refine aw_lmul (pc' := 41) d_O_bringToGreatest_40 rfl ?_
    refine aw_lload_n (pc' := 42) d_O_bringToGreatest_41 rfl rfl ?_
    obtain ⟨r3, hr3, hf⟩ := aw_bind hf
    refine aw_callSv (pc' := 45) (av := [.long ((μ.2 21 l3.toNatClampNeg) * (1000000 : Int64)), .long l1]) d_O_bringToGreatest_42 rfl wc_O_43 (mO_quotient hr3) (Or.inl rfl) rfl (by decide) (Nat.le_of_ble_eq_true rfl) ⟨(Nat.le_refl 0), (Nat.le_refl 0)⟩ ?_
    obtain ⟨g4, hf⟩ := aw_gi hf
    refine aw_last (pc' := 46) (h' := (hC n (me_wl μ 21 l3.toNatClampNeg r3))) d_O_bringToGreatest_45 rfl rfl hC_21 g4 rfl ?_
    refine aw_iinc (pc' := 49) (L' := [some (.ref 21), some (.long l1), none, some (.int (l3 + (1 : Int32)))]) d_O_bringToGreatest_46 rfl kc_ic_1 rfl (by decide) rfl ?_
    refine aw_goto (tgt := 26) d_O_bringToGreatest_49 (by decide) ?_
    exact aw_weak [true, true, false, true] rfl (hk26 _ _ _ hf)
set_option maxRecDepth 20000 in
theorem wO_bringToGreatest_21_26 {N : Nat} {n : Nat} {r0 : me_M} : ∀ (F : Nat) (l1 : Int64) (l3 : Int32) (μ : me_M) (hf : fO_bringToGreatest_21_26 N n F l1 l3 μ = some r0), AW "ArcTape$Scores" "bringToGreatest" c_O_bringToGreatest 4 none 1 0 0 0 (aw_is none (hC n r0)) 26 [some (.ref 21), some (.long l1), none, some (.int l3)] [] (hC n μ) 0 0 := by
  intro F
  induction F with
  | zero => intro l1 l3 μ hf; exact aw_no hf
  | succ F ih => intro l1 l3 μ hf; exact wO_bringToGreatest_21_26b ih l1 l3 μ hf
set_option maxRecDepth 20000 in
theorem wO_bringToGreatest_21_24 {N : Nat} {n : Nat} {r0 : me_M} (l1 : Int64) (μ : me_M) (hf : fO_bringToGreatest_21_24 N n l1 μ = some r0) : AW "ArcTape$Scores" "bringToGreatest" c_O_bringToGreatest 4 none 1 0 0 0 (aw_is none (hC n r0)) 24 [some (.ref 21), some (.long l1), none, none] [] (hC n μ) 0 0 := by
  unfold fO_bringToGreatest_21_24 at hf
  refine aw_iconst (pc' := 25) d_O_bringToGreatest_24 rfl kc_ic_0 ?_
  refine aw_istore_n (pc' := 26) (L' := [some (.ref 21), some (.long l1), none, some (.int (0 : Int32))]) d_O_bringToGreatest_25 rfl (by decide) rfl ?_
  exact aw_weak [true, true, false, true] rfl (wO_bringToGreatest_21_26 _ _ _ _ hf)
set_option maxRecDepth 20000 in
theorem wO_bringToGreatest_21_4b {N : Nat} {n : Nat} {r0 : me_M} {k4 : Int64 → Int32 → me_M → Option me_M} (hk4 : ∀ (l1 : Int64) (l3 : Int32) (μ : me_M), k4 l1 l3 μ = some r0 → AW "ArcTape$Scores" "bringToGreatest" c_O_bringToGreatest 4 none 1 0 0 0 (aw_is none (hC n r0)) 4 [some (.ref 21), some (.long l1), none, some (.int l3)] [] (hC n μ) 0 0) (l1 : Int64) (l3 : Int32) (μ : me_M) (hf : fO_bringToGreatest_21_4b N n k4 l1 l3 μ = some r0) : AW "ArcTape$Scores" "bringToGreatest" c_O_bringToGreatest 4 none 1 0 0 0 (aw_is none (hC n r0)) 4 [some (.ref 21), some (.long l1), none, some (.int l3)] [] (hC n μ) 0 0 := by
  unfold fO_bringToGreatest_21_4b at hf
  refine aw_iload_n (pc' := 5) d_O_bringToGreatest_4 rfl rfl ?_
  refine aw_aload_n (pc' := 6) d_O_bringToGreatest_5 rfl rfl ?_
  refine aw_alen (pc' := 7) d_O_bringToGreatest_6 rfl rfl hC_21 ?_
  refine aw_icmp_ge (tgt := 24) (pc' := 10) d_O_bringToGreatest_7 (by decide) rfl (fun c5 => ?_) (fun c5 => ?_)
  · replace hf := aw_ifp c5 hf
    exact aw_weak [true, true, false, false] rfl (wO_bringToGreatest_21_24 _ _ hf)
  · replace hf := aw_ifn c5 hf
    refine aw_lload_n (pc' := 11) d_O_bringToGreatest_10 rfl rfl ?_
    refine aw_aload_n (pc' := 12) d_O_bringToGreatest_11 rfl rfl ?_
    refine aw_iload_n (pc' := 13) d_O_bringToGreatest_12 rfl rfl ?_
    obtain ⟨g6, hf⟩ := aw_gi hf
    refine aw_lald (pc' := 14) d_O_bringToGreatest_13 rfl rfl hC_21 g6 ?_
    refine aw_mmaxl (pc' := 17) d_O_bringToGreatest_14 rfl wc_O_90 (by decide) (Nat.le_of_ble_eq_true rfl) (Nat.le_refl 0) (Nat.le_refl 0) ?_
    refine aw_lstore_n (pc' := 18) (L' := [some (.ref 21), some (.long (if (μ.2 21 l3.toNatClampNeg) < l1 then l1 else (μ.2 21 l3.toNatClampNeg))), none, some (.int l3)]) d_O_bringToGreatest_17 rfl (by decide) rfl ?_
    refine aw_iinc (pc' := 21) (L' := [some (.ref 21), some (.long (if (μ.2 21 l3.toNatClampNeg) < l1 then l1 else (μ.2 21 l3.toNatClampNeg))), none, some (.int (l3 + (1 : Int32)))]) d_O_bringToGreatest_18 rfl kc_ic_1 rfl (by decide) rfl ?_
    refine aw_goto (tgt := 4) d_O_bringToGreatest_21 (by decide) ?_
    exact aw_weak [true, true, false, true] rfl (hk4 _ _ _ hf)
set_option maxRecDepth 20000 in
theorem wO_bringToGreatest_21_4 {N : Nat} {n : Nat} {r0 : me_M} : ∀ (F : Nat) (l1 : Int64) (l3 : Int32) (μ : me_M) (hf : fO_bringToGreatest_21_4 N n F l1 l3 μ = some r0), AW "ArcTape$Scores" "bringToGreatest" c_O_bringToGreatest 4 none 1 0 0 0 (aw_is none (hC n r0)) 4 [some (.ref 21), some (.long l1), none, some (.int l3)] [] (hC n μ) 0 0 := by
  intro F
  induction F with
  | zero => intro l1 l3 μ hf; exact aw_no hf
  | succ F ih => intro l1 l3 μ hf; exact wO_bringToGreatest_21_4b ih l1 l3 μ hf
set_option maxRecDepth 20000 in
theorem mO_bringToGreatest_21 {N : Nat} {n : Nat} {μ : me_M} {r0 : me_M} (hf : fO_bringToGreatest_21 N n μ = some r0) : AM y_O_bringToGreatest c_O_bringToGreatest 4 none 1 0 0 0 [.ref 21] (hC n μ) (aw_is none (hC n r0)) := by
  unfold fO_bringToGreatest_21 at hf
  refine AM.of (own := "ArcTape$Scores") (nm := "bringToGreatest") (L := [some (.ref 21), none, none, none]) rfl rfl (by decide) (Nat.le_of_ble_eq_true rfl) rfl ?_
  refine aw_lconst (pc' := 1) d_O_bringToGreatest_0 rfl kc_lc_0 ?_
  refine aw_lstore_n (pc' := 2) (L' := [some (.ref 21), some (.long (0 : Int64)), none, none]) d_O_bringToGreatest_1 rfl (by decide) rfl ?_
  refine aw_iconst (pc' := 3) d_O_bringToGreatest_2 rfl kc_ic_0 ?_
  refine aw_istore_n (pc' := 4) (L' := [some (.ref 21), some (.long (0 : Int64)), none, some (.int (0 : Int32))]) d_O_bringToGreatest_3 rfl (by decide) rfl ?_
  exact aw_weak [true, true, false, true] rfl (wO_bringToGreatest_21_4 _ _ _ _ hf)
set_option maxRecDepth 20000 in
theorem wO_stepByGreatest_153 {N : Nat} {n : Nat} {r0 : me_M} (μ : me_M) (hf : fO_stepByGreatest_153 N n μ = some r0) : AW "ArcTape$Scores" "stepByGreatest" c_O_stepByGreatest 3 none 2 0 0 0 (aw_is none (hC n r0)) 153 [some (.ref 19), none, none] [] (hC n μ) 0 0 := by
  unfold fO_stepByGreatest_153 at hf
  refine aw_aload_n (pc' := 154) d_O_stepByGreatest_153 rfl rfl ?_
  refine aw_get (pc' := 157) d_O_stepByGreatest_154 rfl fl_O_19 hC_19 rfl ?_
  obtain ⟨r1, hr1, hf⟩ := aw_bind hf
  refine aw_callSn (pc' := 160) (av := [.ref 21]) d_O_stepByGreatest_157 rfl wc_O_86 (mO_bringToGreatest_21 hr1) (Or.inl rfl) rfl (by decide) (Nat.le_of_ble_eq_true rfl) ⟨(Nat.le_refl 0), (Nat.le_refl 0)⟩ ?_
  cases hf
  exact aw_return rfl d_O_stepByGreatest_160 (Nat.le_refl 0) (Nat.le_refl 0) ⟨rfl, rfl⟩
set_option maxRecDepth 20000 in
theorem wO_stepByGreatest_147 {N : Nat} {n : Nat} {r0 : me_M} {k82 : Int32 → me_M → Option me_M} (hk82 : ∀ (l1 : Int32) (μ : me_M), k82 l1 μ = some r0 → AW "ArcTape$Scores" "stepByGreatest" c_O_stepByGreatest 3 none 2 0 0 0 (aw_is none (hC n r0)) 82 [some (.ref 19), some (.int l1), none] [] (hC n μ) 0 0) (l1 : Int32) (μ : me_M) (hf : fO_stepByGreatest_147 N n k82 l1 μ = some r0) : AW "ArcTape$Scores" "stepByGreatest" c_O_stepByGreatest 3 none 2 0 0 0 (aw_is none (hC n r0)) 147 [some (.ref 19), some (.int l1), none] [] (hC n μ) 0 0 := by
  unfold fO_stepByGreatest_147 at hf
  refine aw_iinc (pc' := 150) (L' := [some (.ref 19), some (.int (l1 + (1 : Int32))), none]) d_O_stepByGreatest_147 rfl kc_ic_1 rfl (by decide) rfl ?_
  refine aw_goto (tgt := 82) d_O_stepByGreatest_150 (by decide) ?_
  exact aw_weak [true, true, false] rfl (hk82 _ _ hf)
set_option maxRecDepth 20000 in
theorem wO_stepByGreatest_139 {N : Nat} {n : Nat} {r0 : me_M} {k82 : Int32 → me_M → Option me_M} (hk82 : ∀ (l1 : Int32) (μ : me_M), k82 l1 μ = some r0 → AW "ArcTape$Scores" "stepByGreatest" c_O_stepByGreatest 3 none 2 0 0 0 (aw_is none (hC n r0)) 82 [some (.ref 19), some (.int l1), none] [] (hC n μ) 0 0) {k100 : Int32 → Int32 → me_M → Option me_M} (hk100 : ∀ (l1 : Int32) (l2 : Int32) (μ : me_M), k100 l1 l2 μ = some r0 → AW "ArcTape$Scores" "stepByGreatest" c_O_stepByGreatest 3 none 2 0 0 0 (aw_is none (hC n r0)) 100 [some (.ref 19), some (.int l1), some (.int l2)] [] (hC n μ) 0 0) (l1 : Int32) (l2 : Int32) (s1 : Int32) (s2 : Int64) (s3 : Int64) (μ : me_M) (hf : fO_stepByGreatest_139 N n k82 k100 l1 l2 s1 s2 s3 μ = some r0) : AW "ArcTape$Scores" "stepByGreatest" c_O_stepByGreatest 3 none 2 0 0 0 (aw_is none (hC n r0)) 139 [some (.ref 19), some (.int l1), some (.int l2)] [.long s3, .long s2, .int s1, .ref 21] (hC n μ) 0 0 := by
  unfold fO_stepByGreatest_139 at hf
  refine aw_ladd (pc' := 140) d_O_stepByGreatest_139 rfl ?_
  obtain ⟨g2, hf⟩ := aw_gi hf
  refine aw_last (pc' := 141) (h' := (hC n (me_wl μ 21 s1.toNatClampNeg (s2 + s3)))) d_O_stepByGreatest_140 rfl rfl hC_21 g2 rfl ?_
  refine aw_iinc (pc' := 144) (L' := [some (.ref 19), some (.int l1), some (.int (l2 + (1 : Int32)))]) d_O_stepByGreatest_141 rfl kc_ic_1 rfl (by decide) rfl ?_
  refine aw_goto (tgt := 100) d_O_stepByGreatest_144 (by decide) ?_
  exact aw_weak [true, true, true] rfl (hk100 _ _ _ hf)
set_option maxRecDepth 20000 in
theorem wO_stepByGreatest_100b {N : Nat} {n : Nat} {r0 : me_M} {k82 : Int32 → me_M → Option me_M} (hk82 : ∀ (l1 : Int32) (μ : me_M), k82 l1 μ = some r0 → AW "ArcTape$Scores" "stepByGreatest" c_O_stepByGreatest 3 none 2 0 0 0 (aw_is none (hC n r0)) 82 [some (.ref 19), some (.int l1), none] [] (hC n μ) 0 0) {k100 : Int32 → Int32 → me_M → Option me_M} (hk100 : ∀ (l1 : Int32) (l2 : Int32) (μ : me_M), k100 l1 l2 μ = some r0 → AW "ArcTape$Scores" "stepByGreatest" c_O_stepByGreatest 3 none 2 0 0 0 (aw_is none (hC n r0)) 100 [some (.ref 19), some (.int l1), some (.int l2)] [] (hC n μ) 0 0) (l1 : Int32) (l2 : Int32) (μ : me_M) (hf : fO_stepByGreatest_100b N n k82 k100 l1 l2 μ = some r0) : AW "ArcTape$Scores" "stepByGreatest" c_O_stepByGreatest 3 none 2 0 0 0 (aw_is none (hC n r0)) 100 [some (.ref 19), some (.int l1), some (.int l2)] [] (hC n μ) 0 0 := by
  unfold fO_stepByGreatest_100b at hf
  refine aw_iload_n (pc' := 101) d_O_stepByGreatest_100 rfl rfl ?_
  refine aw_aload_n (pc' := 102) d_O_stepByGreatest_101 rfl rfl ?_
  refine aw_get (pc' := 105) d_O_stepByGreatest_102 rfl fl_O_9 hC_19 rfl ?_
  refine aw_alen (pc' := 106) d_O_stepByGreatest_105 rfl rfl hC_12 ?_
  refine aw_icmp_ge (tgt := 147) (pc' := 109) d_O_stepByGreatest_106 (by decide) rfl (fun c3 => ?_) (fun c3 => ?_)
  · replace hf := aw_ifp c3 hf
    exact aw_weak [true, true, false] rfl (wO_stepByGreatest_147 hk82 _ _ hf)
  · replace hf := aw_ifn c3 hf
    refine aw_aload_n (pc' := 110) d_O_stepByGreatest_109 rfl rfl ?_
    refine aw_get (pc' := 113) d_O_stepByGreatest_110 rfl fl_O_19 hC_19 rfl ?_
    refine aw_iload_n (pc' := 114) d_O_stepByGreatest_113 rfl rfl ?_
    refine aw_dup2 (pc' := 115) d_O_stepByGreatest_114 rfl rfl rfl ?_
    obtain ⟨g4, hf⟩ := aw_gi hf
    refine aw_lald (pc' := 116) d_O_stepByGreatest_115 rfl rfl hC_21 g4 ?_
    refine aw_aload_n (pc' := 117) d_O_stepByGreatest_116 rfl rfl ?_
    refine aw_get (pc' := 120) d_O_stepByGreatest_117 rfl fl_O_9 hC_19 rfl ?_
    refine aw_iload_n (pc' := 121) d_O_stepByGreatest_120 rfl rfl ?_
    obtain ⟨g5, hf⟩ := aw_gi hf
    refine aw_iald (pc' := 122) d_O_stepByGreatest_121 rfl rfl hC_12 g5 ?_
    refine aw_iload_n (pc' := 123) d_O_stepByGreatest_122 rfl rfl ?_
    obtain ⟨r6, hr6, hf⟩ := aw_bind hf
    refine aw_callNv (pc' := 126) (av := [.int (μ.1 12 l1.toNatClampNeg), .int l2]) d_O_stepByGreatest_123 rfl wc_O_75 (mA_holds hr6) (Or.inl rfl) rfl (by decide) (Nat.le_of_ble_eq_true rfl) ⟨(Nat.le_refl 0), (Nat.le_refl 0)⟩ ?_
    refine aw_if_eq (tgt := 138) (pc' := 129) d_O_stepByGreatest_126 (by decide) rfl (fun c7 => ?_) (fun c7 => ?_)
    · replace hf := aw_ifp c7 hf
      refine aw_lconst (pc' := 139) d_O_stepByGreatest_138 rfl kc_lc_0 ?_
      exact aw_weak [true, true, true] rfl (wO_stepByGreatest_139 hk82 hk100 _ _ _ _ _ _ hf)
    · replace hf := aw_ifn c7 hf
      refine aw_aload_n (pc' := 130) d_O_stepByGreatest_129 rfl rfl ?_
      refine aw_get (pc' := 133) d_O_stepByGreatest_130 rfl fl_O_15 hC_19 rfl ?_
      refine aw_iload_n (pc' := 134) d_O_stepByGreatest_133 rfl rfl ?_
      obtain ⟨g8, hf⟩ := aw_gi hf
      refine aw_lald (pc' := 135) d_O_stepByGreatest_134 rfl rfl hC_20 g8 ?_
      refine aw_goto (tgt := 139) d_O_stepByGreatest_135 (by decide) ?_
      exact aw_weak [true, true, true] rfl (wO_stepByGreatest_139 hk82 hk100 _ _ _ _ _ _ hf)
set_option maxRecDepth 20000 in
theorem wO_stepByGreatest_100 {N : Nat} {n : Nat} {r0 : me_M} {k82 : Int32 → me_M → Option me_M} (hk82 : ∀ (l1 : Int32) (μ : me_M), k82 l1 μ = some r0 → AW "ArcTape$Scores" "stepByGreatest" c_O_stepByGreatest 3 none 2 0 0 0 (aw_is none (hC n r0)) 82 [some (.ref 19), some (.int l1), none] [] (hC n μ) 0 0) : ∀ (F : Nat) (l1 : Int32) (l2 : Int32) (μ : me_M) (hf : fO_stepByGreatest_100 N n k82 F l1 l2 μ = some r0), AW "ArcTape$Scores" "stepByGreatest" c_O_stepByGreatest 3 none 2 0 0 0 (aw_is none (hC n r0)) 100 [some (.ref 19), some (.int l1), some (.int l2)] [] (hC n μ) 0 0 := by
  intro F
  induction F with
  | zero => intro l1 l2 μ hf; exact aw_no hf
  | succ F ih => intro l1 l2 μ hf; exact wO_stepByGreatest_100b hk82 ih l1 l2 μ hf
set_option maxRecDepth 20000 in
theorem wO_stepByGreatest_82b {N : Nat} {n : Nat} {r0 : me_M} {k82 : Int32 → me_M → Option me_M} (hk82 : ∀ (l1 : Int32) (μ : me_M), k82 l1 μ = some r0 → AW "ArcTape$Scores" "stepByGreatest" c_O_stepByGreatest 3 none 2 0 0 0 (aw_is none (hC n r0)) 82 [some (.ref 19), some (.int l1), none] [] (hC n μ) 0 0) (l1 : Int32) (μ : me_M) (hf : fO_stepByGreatest_82b N n k82 l1 μ = some r0) : AW "ArcTape$Scores" "stepByGreatest" c_O_stepByGreatest 3 none 2 0 0 0 (aw_is none (hC n r0)) 82 [some (.ref 19), some (.int l1), none] [] (hC n μ) 0 0 := by
  unfold fO_stepByGreatest_82b at hf
  refine aw_iload_n (pc' := 83) d_O_stepByGreatest_82 rfl rfl ?_
  refine aw_aload_n (pc' := 84) d_O_stepByGreatest_83 rfl rfl ?_
  refine aw_get (pc' := 87) d_O_stepByGreatest_84 rfl fl_O_9 hC_19 rfl ?_
  refine aw_alen (pc' := 88) d_O_stepByGreatest_87 rfl rfl hC_12 ?_
  refine aw_icmp_ge (tgt := 153) (pc' := 91) d_O_stepByGreatest_88 (by decide) rfl (fun c9 => ?_) (fun c9 => ?_)
  · replace hf := aw_ifp c9 hf
    exact aw_weak [true, false, false] rfl (wO_stepByGreatest_153 _ hf)
  · replace hf := aw_ifn c9 hf
    refine aw_aload_n (pc' := 92) d_O_stepByGreatest_91 rfl rfl ?_
    refine aw_get (pc' := 95) d_O_stepByGreatest_92 rfl fl_O_19 hC_19 rfl ?_
    refine aw_iload_n (pc' := 96) d_O_stepByGreatest_95 rfl rfl ?_
    refine aw_lconst (pc' := 97) d_O_stepByGreatest_96 rfl kc_lc_0 ?_
    obtain ⟨g10, hf⟩ := aw_gi hf
    refine aw_last (pc' := 98) (h' := (hC n (me_wl μ 21 l1.toNatClampNeg (0 : Int64)))) d_O_stepByGreatest_97 rfl rfl hC_21 g10 rfl ?_
    refine aw_iconst (pc' := 99) d_O_stepByGreatest_98 rfl kc_ic_0 ?_
    refine aw_istore_n (pc' := 100) (L' := [some (.ref 19), some (.int l1), some (.int (0 : Int32))]) d_O_stepByGreatest_99 rfl (by decide) rfl ?_
    exact aw_weak [true, true, true] rfl (wO_stepByGreatest_100 hk82 _ _ _ _ hf)
set_option maxRecDepth 20000 in
theorem wO_stepByGreatest_82 {N : Nat} {n : Nat} {r0 : me_M} : ∀ (F : Nat) (l1 : Int32) (μ : me_M) (hf : fO_stepByGreatest_82 N n F l1 μ = some r0), AW "ArcTape$Scores" "stepByGreatest" c_O_stepByGreatest 3 none 2 0 0 0 (aw_is none (hC n r0)) 82 [some (.ref 19), some (.int l1), none] [] (hC n μ) 0 0 := by
  intro F
  induction F with
  | zero => intro l1 μ hf; exact aw_no hf
  | succ F ih => intro l1 μ hf; exact wO_stepByGreatest_82b ih l1 μ hf
set_option maxRecDepth 20000 in
theorem wO_stepByGreatest_73 {N : Nat} {n : Nat} {r0 : me_M} (μ : me_M) (hf : fO_stepByGreatest_73 N n μ = some r0) : AW "ArcTape$Scores" "stepByGreatest" c_O_stepByGreatest 3 none 2 0 0 0 (aw_is none (hC n r0)) 73 [some (.ref 19), none, none] [] (hC n μ) 0 0 := by
  unfold fO_stepByGreatest_73 at hf
  refine aw_aload_n (pc' := 74) d_O_stepByGreatest_73 rfl rfl ?_
  refine aw_get (pc' := 77) d_O_stepByGreatest_74 rfl fl_O_15 hC_19 rfl ?_
  obtain ⟨r11, hr11, hf⟩ := aw_bind hf
  refine aw_callSn (pc' := 80) (av := [.ref 20]) d_O_stepByGreatest_77 rfl wc_O_86 (mO_bringToGreatest_20 hr11) (Or.inl rfl) rfl (by decide) (Nat.le_of_ble_eq_true rfl) ⟨(Nat.le_refl 0), (Nat.le_refl 0)⟩ ?_
  refine aw_iconst (pc' := 81) d_O_stepByGreatest_80 rfl kc_ic_0 ?_
  refine aw_istore_n (pc' := 82) (L' := [some (.ref 19), some (.int (0 : Int32)), none]) d_O_stepByGreatest_81 rfl (by decide) rfl ?_
  exact aw_weak [true, true, false] rfl (wO_stepByGreatest_82 _ _ _ hf)
set_option maxRecDepth 20000 in
theorem wO_stepByGreatest_67 {N : Nat} {n : Nat} {r0 : me_M} {k2 : Int32 → me_M → Option me_M} (hk2 : ∀ (l1 : Int32) (μ : me_M), k2 l1 μ = some r0 → AW "ArcTape$Scores" "stepByGreatest" c_O_stepByGreatest 3 none 2 0 0 0 (aw_is none (hC n r0)) 2 [some (.ref 19), some (.int l1), none] [] (hC n μ) 0 0) (l1 : Int32) (μ : me_M) (hf : fO_stepByGreatest_67 N n k2 l1 μ = some r0) : AW "ArcTape$Scores" "stepByGreatest" c_O_stepByGreatest 3 none 2 0 0 0 (aw_is none (hC n r0)) 67 [some (.ref 19), some (.int l1), none] [] (hC n μ) 0 0 := by
  unfold fO_stepByGreatest_67 at hf
  refine aw_iinc (pc' := 70) (L' := [some (.ref 19), some (.int (l1 + (1 : Int32))), none]) d_O_stepByGreatest_67 rfl kc_ic_1 rfl (by decide) rfl ?_
  refine aw_goto (tgt := 2) d_O_stepByGreatest_70 (by decide) ?_
  exact aw_weak [true, true, false] rfl (hk2 _ _ hf)
set_option maxRecDepth 20000 in
theorem wO_stepByGreatest_59 {N : Nat} {n : Nat} {r0 : me_M} {k2 : Int32 → me_M → Option me_M} (hk2 : ∀ (l1 : Int32) (μ : me_M), k2 l1 μ = some r0 → AW "ArcTape$Scores" "stepByGreatest" c_O_stepByGreatest 3 none 2 0 0 0 (aw_is none (hC n r0)) 2 [some (.ref 19), some (.int l1), none] [] (hC n μ) 0 0) {k20 : Int32 → Int32 → me_M → Option me_M} (hk20 : ∀ (l1 : Int32) (l2 : Int32) (μ : me_M), k20 l1 l2 μ = some r0 → AW "ArcTape$Scores" "stepByGreatest" c_O_stepByGreatest 3 none 2 0 0 0 (aw_is none (hC n r0)) 20 [some (.ref 19), some (.int l1), some (.int l2)] [] (hC n μ) 0 0) (l1 : Int32) (l2 : Int32) (s1 : Int32) (s2 : Int64) (s3 : Int64) (μ : me_M) (hf : fO_stepByGreatest_59 N n k2 k20 l1 l2 s1 s2 s3 μ = some r0) : AW "ArcTape$Scores" "stepByGreatest" c_O_stepByGreatest 3 none 2 0 0 0 (aw_is none (hC n r0)) 59 [some (.ref 19), some (.int l1), some (.int l2)] [.long s3, .long s2, .int s1, .ref 20] (hC n μ) 0 0 := by
  unfold fO_stepByGreatest_59 at hf
  refine aw_ladd (pc' := 60) d_O_stepByGreatest_59 rfl ?_
  obtain ⟨g12, hf⟩ := aw_gi hf
  refine aw_last (pc' := 61) (h' := (hC n (me_wl μ 20 s1.toNatClampNeg (s2 + s3)))) d_O_stepByGreatest_60 rfl rfl hC_20 g12 rfl ?_
  refine aw_iinc (pc' := 64) (L' := [some (.ref 19), some (.int l1), some (.int (l2 + (1 : Int32)))]) d_O_stepByGreatest_61 rfl kc_ic_1 rfl (by decide) rfl ?_
  refine aw_goto (tgt := 20) d_O_stepByGreatest_64 (by decide) ?_
  exact aw_weak [true, true, true] rfl (hk20 _ _ _ hf)
set_option maxRecDepth 20000 in
theorem wO_stepByGreatest_20b {N : Nat} {n : Nat} {r0 : me_M} {k2 : Int32 → me_M → Option me_M} (hk2 : ∀ (l1 : Int32) (μ : me_M), k2 l1 μ = some r0 → AW "ArcTape$Scores" "stepByGreatest" c_O_stepByGreatest 3 none 2 0 0 0 (aw_is none (hC n r0)) 2 [some (.ref 19), some (.int l1), none] [] (hC n μ) 0 0) {k20 : Int32 → Int32 → me_M → Option me_M} (hk20 : ∀ (l1 : Int32) (l2 : Int32) (μ : me_M), k20 l1 l2 μ = some r0 → AW "ArcTape$Scores" "stepByGreatest" c_O_stepByGreatest 3 none 2 0 0 0 (aw_is none (hC n r0)) 20 [some (.ref 19), some (.int l1), some (.int l2)] [] (hC n μ) 0 0) (l1 : Int32) (l2 : Int32) (μ : me_M) (hf : fO_stepByGreatest_20b N n k2 k20 l1 l2 μ = some r0) : AW "ArcTape$Scores" "stepByGreatest" c_O_stepByGreatest 3 none 2 0 0 0 (aw_is none (hC n r0)) 20 [some (.ref 19), some (.int l1), some (.int l2)] [] (hC n μ) 0 0 := by
  unfold fO_stepByGreatest_20b at hf
  refine aw_iload_n (pc' := 21) d_O_stepByGreatest_20 rfl rfl ?_
  refine aw_aload_n (pc' := 22) d_O_stepByGreatest_21 rfl rfl ?_
  refine aw_get (pc' := 25) d_O_stepByGreatest_22 rfl fl_O_9 hC_19 rfl ?_
  refine aw_alen (pc' := 26) d_O_stepByGreatest_25 rfl rfl hC_12 ?_
  refine aw_icmp_ge (tgt := 67) (pc' := 29) d_O_stepByGreatest_26 (by decide) rfl (fun c13 => ?_) (fun c13 => ?_)
  · replace hf := aw_ifp c13 hf
    exact aw_weak [true, true, false] rfl (wO_stepByGreatest_67 hk2 _ _ hf)
  · replace hf := aw_ifn c13 hf
    refine aw_aload_n (pc' := 30) d_O_stepByGreatest_29 rfl rfl ?_
    refine aw_get (pc' := 33) d_O_stepByGreatest_30 rfl fl_O_15 hC_19 rfl ?_
    refine aw_iload_n (pc' := 34) d_O_stepByGreatest_33 rfl rfl ?_
    refine aw_dup2 (pc' := 35) d_O_stepByGreatest_34 rfl rfl rfl ?_
    obtain ⟨g14, hf⟩ := aw_gi hf
    refine aw_lald (pc' := 36) d_O_stepByGreatest_35 rfl rfl hC_20 g14 ?_
    refine aw_aload_n (pc' := 37) d_O_stepByGreatest_36 rfl rfl ?_
    refine aw_get (pc' := 40) d_O_stepByGreatest_37 rfl fl_O_9 hC_19 rfl ?_
    refine aw_iload_n (pc' := 41) d_O_stepByGreatest_40 rfl rfl ?_
    obtain ⟨g15, hf⟩ := aw_gi hf
    refine aw_iald (pc' := 42) d_O_stepByGreatest_41 rfl rfl hC_12 g15 ?_
    refine aw_iload_n (pc' := 43) d_O_stepByGreatest_42 rfl rfl ?_
    obtain ⟨r16, hr16, hf⟩ := aw_bind hf
    refine aw_callNv (pc' := 46) (av := [.int (μ.1 12 l2.toNatClampNeg), .int l1]) d_O_stepByGreatest_43 rfl wc_O_75 (mA_holds hr16) (Or.inl rfl) rfl (by decide) (Nat.le_of_ble_eq_true rfl) ⟨(Nat.le_refl 0), (Nat.le_refl 0)⟩ ?_
    refine aw_if_eq (tgt := 58) (pc' := 49) d_O_stepByGreatest_46 (by decide) rfl (fun c17 => ?_) (fun c17 => ?_)
    · replace hf := aw_ifp c17 hf
      refine aw_lconst (pc' := 59) d_O_stepByGreatest_58 rfl kc_lc_0 ?_
      exact aw_weak [true, true, true] rfl (wO_stepByGreatest_59 hk2 hk20 _ _ _ _ _ _ hf)
    · replace hf := aw_ifn c17 hf
      refine aw_aload_n (pc' := 50) d_O_stepByGreatest_49 rfl rfl ?_
      refine aw_get (pc' := 53) d_O_stepByGreatest_50 rfl fl_O_19 hC_19 rfl ?_
      refine aw_iload_n (pc' := 54) d_O_stepByGreatest_53 rfl rfl ?_
      obtain ⟨g18, hf⟩ := aw_gi hf
      refine aw_lald (pc' := 55) d_O_stepByGreatest_54 rfl rfl hC_21 g18 ?_
      refine aw_goto (tgt := 59) d_O_stepByGreatest_55 (by decide) ?_
      exact aw_weak [true, true, true] rfl (wO_stepByGreatest_59 hk2 hk20 _ _ _ _ _ _ hf)
set_option maxRecDepth 20000 in
theorem wO_stepByGreatest_20 {N : Nat} {n : Nat} {r0 : me_M} {k2 : Int32 → me_M → Option me_M} (hk2 : ∀ (l1 : Int32) (μ : me_M), k2 l1 μ = some r0 → AW "ArcTape$Scores" "stepByGreatest" c_O_stepByGreatest 3 none 2 0 0 0 (aw_is none (hC n r0)) 2 [some (.ref 19), some (.int l1), none] [] (hC n μ) 0 0) : ∀ (F : Nat) (l1 : Int32) (l2 : Int32) (μ : me_M) (hf : fO_stepByGreatest_20 N n k2 F l1 l2 μ = some r0), AW "ArcTape$Scores" "stepByGreatest" c_O_stepByGreatest 3 none 2 0 0 0 (aw_is none (hC n r0)) 20 [some (.ref 19), some (.int l1), some (.int l2)] [] (hC n μ) 0 0 := by
  intro F
  induction F with
  | zero => intro l1 l2 μ hf; exact aw_no hf
  | succ F ih => intro l1 l2 μ hf; exact wO_stepByGreatest_20b hk2 ih l1 l2 μ hf
set_option maxRecDepth 20000 in
theorem wO_stepByGreatest_2b {N : Nat} {n : Nat} {r0 : me_M} {k2 : Int32 → me_M → Option me_M} (hk2 : ∀ (l1 : Int32) (μ : me_M), k2 l1 μ = some r0 → AW "ArcTape$Scores" "stepByGreatest" c_O_stepByGreatest 3 none 2 0 0 0 (aw_is none (hC n r0)) 2 [some (.ref 19), some (.int l1), none] [] (hC n μ) 0 0) (l1 : Int32) (μ : me_M) (hf : fO_stepByGreatest_2b N n k2 l1 μ = some r0) : AW "ArcTape$Scores" "stepByGreatest" c_O_stepByGreatest 3 none 2 0 0 0 (aw_is none (hC n r0)) 2 [some (.ref 19), some (.int l1), none] [] (hC n μ) 0 0 := by
  unfold fO_stepByGreatest_2b at hf
  refine aw_iload_n (pc' := 3) d_O_stepByGreatest_2 rfl rfl ?_
  refine aw_aload_n (pc' := 4) d_O_stepByGreatest_3 rfl rfl ?_
  refine aw_get (pc' := 7) d_O_stepByGreatest_4 rfl fl_O_9 hC_19 rfl ?_
  refine aw_alen (pc' := 8) d_O_stepByGreatest_7 rfl rfl hC_12 ?_
  refine aw_icmp_ge (tgt := 73) (pc' := 11) d_O_stepByGreatest_8 (by decide) rfl (fun c19 => ?_) (fun c19 => ?_)
  · replace hf := aw_ifp c19 hf
    exact aw_weak [true, false, false] rfl (wO_stepByGreatest_73 _ hf)
  · replace hf := aw_ifn c19 hf
    refine aw_aload_n (pc' := 12) d_O_stepByGreatest_11 rfl rfl ?_
    refine aw_get (pc' := 15) d_O_stepByGreatest_12 rfl fl_O_15 hC_19 rfl ?_
    refine aw_iload_n (pc' := 16) d_O_stepByGreatest_15 rfl rfl ?_
    refine aw_lconst (pc' := 17) d_O_stepByGreatest_16 rfl kc_lc_0 ?_
    obtain ⟨g20, hf⟩ := aw_gi hf
    refine aw_last (pc' := 18) (h' := (hC n (me_wl μ 20 l1.toNatClampNeg (0 : Int64)))) d_O_stepByGreatest_17 rfl rfl hC_20 g20 rfl ?_
    refine aw_iconst (pc' := 19) d_O_stepByGreatest_18 rfl kc_ic_0 ?_
    refine aw_istore_n (pc' := 20) (L' := [some (.ref 19), some (.int l1), some (.int (0 : Int32))]) d_O_stepByGreatest_19 rfl (by decide) rfl ?_
    exact aw_weak [true, true, true] rfl (wO_stepByGreatest_20 hk2 _ _ _ _ hf)
set_option maxRecDepth 20000 in
theorem wO_stepByGreatest_2 {N : Nat} {n : Nat} {r0 : me_M} : ∀ (F : Nat) (l1 : Int32) (μ : me_M) (hf : fO_stepByGreatest_2 N n F l1 μ = some r0), AW "ArcTape$Scores" "stepByGreatest" c_O_stepByGreatest 3 none 2 0 0 0 (aw_is none (hC n r0)) 2 [some (.ref 19), some (.int l1), none] [] (hC n μ) 0 0 := by
  intro F
  induction F with
  | zero => intro l1 μ hf; exact aw_no hf
  | succ F ih => intro l1 μ hf; exact wO_stepByGreatest_2b ih l1 μ hf
set_option maxRecDepth 20000 in
theorem mO_stepByGreatest {N : Nat} {n : Nat} {μ : me_M} {r0 : me_M} (hf : fO_stepByGreatest N n μ = some r0) : AM y_O_stepByGreatest c_O_stepByGreatest 3 none 2 0 0 0 [.ref 19] (hC n μ) (aw_is none (hC n r0)) := by
  unfold fO_stepByGreatest at hf
  refine AM.of (own := "ArcTape$Scores") (nm := "stepByGreatest") (L := [some (.ref 19), none, none]) rfl rfl (by decide) (Nat.le_of_ble_eq_true rfl) rfl ?_
  refine aw_iconst (pc' := 1) d_O_stepByGreatest_0 rfl kc_ic_0 ?_
  refine aw_istore_n (pc' := 2) (L' := [some (.ref 19), some (.int (0 : Int32)), none]) d_O_stepByGreatest_1 rfl (by decide) rfl ?_
  exact aw_weak [true, true, false] rfl (wO_stepByGreatest_2 _ _ _ hf)
set_option maxRecDepth 20000 in
theorem wO_linksTo_40 {N : Nat} {n : Nat} {μ : me_M} {r0 : Int32} (l2 : Int32) (hf : fO_linksTo_40 N n μ l2 = some r0) : AW "ArcTape$Scores" "linksTo" c_O_linksTo 4 (some .int) 1 0 0 0 (aw_is (some (.int r0)) (hC n μ)) 40 [none, none, some (.int l2), none] [] (hC n μ) 0 0 := by
  unfold fO_linksTo_40 at hf
  refine aw_iload_n (pc' := 41) d_O_linksTo_40 rfl rfl ?_
  cases hf
  exact aw_ireturn rfl d_O_linksTo_41 (Nat.le_refl 0) (Nat.le_refl 0) ⟨rfl, rfl⟩
set_option maxRecDepth 20000 in
theorem wO_linksTo_32 {N : Nat} {n : Nat} {μ : me_M} {r0 : Int32} {k4 : Int32 → Int32 → Int32 → Option Int32} (hk4 : ∀ (l1 : Int32) (l2 : Int32) (l3 : Int32), k4 l1 l2 l3 = some r0 → AW "ArcTape$Scores" "linksTo" c_O_linksTo 4 (some .int) 1 0 0 0 (aw_is (some (.int r0)) (hC n μ)) 4 [some (.ref 19), some (.int l1), some (.int l2), some (.int l3)] [] (hC n μ) 0 0) (l1 : Int32) (l3 : Int32) (s0 : Int32) (s1 : Int32) (hf : fO_linksTo_32 N n μ k4 l1 l3 s0 s1 = some r0) : AW "ArcTape$Scores" "linksTo" c_O_linksTo 4 (some .int) 1 0 0 0 (aw_is (some (.int r0)) (hC n μ)) 32 [some (.ref 19), some (.int l1), none, some (.int l3)] [.int s1, .int s0] (hC n μ) 0 0 := by
  unfold fO_linksTo_32 at hf
  refine aw_iadd (pc' := 33) d_O_linksTo_32 rfl ?_
  refine aw_istore_n (pc' := 34) (L' := [some (.ref 19), some (.int l1), some (.int (s0 + s1)), some (.int l3)]) d_O_linksTo_33 rfl (by decide) rfl ?_
  refine aw_iinc (pc' := 37) (L' := [some (.ref 19), some (.int l1), some (.int (s0 + s1)), some (.int (l3 + (1 : Int32)))]) d_O_linksTo_34 rfl kc_ic_1 rfl (by decide) rfl ?_
  refine aw_goto (tgt := 4) d_O_linksTo_37 (by decide) ?_
  exact aw_weak [true, true, true, true] rfl (hk4 _ _ _ hf)
set_option maxRecDepth 20000 in
theorem wO_linksTo_4b {N : Nat} {n : Nat} {μ : me_M} {r0 : Int32} {k4 : Int32 → Int32 → Int32 → Option Int32} (hk4 : ∀ (l1 : Int32) (l2 : Int32) (l3 : Int32), k4 l1 l2 l3 = some r0 → AW "ArcTape$Scores" "linksTo" c_O_linksTo 4 (some .int) 1 0 0 0 (aw_is (some (.int r0)) (hC n μ)) 4 [some (.ref 19), some (.int l1), some (.int l2), some (.int l3)] [] (hC n μ) 0 0) (l1 : Int32) (l2 : Int32) (l3 : Int32) (hf : fO_linksTo_4b N n μ k4 l1 l2 l3 = some r0) : AW "ArcTape$Scores" "linksTo" c_O_linksTo 4 (some .int) 1 0 0 0 (aw_is (some (.int r0)) (hC n μ)) 4 [some (.ref 19), some (.int l1), some (.int l2), some (.int l3)] [] (hC n μ) 0 0 := by
  unfold fO_linksTo_4b at hf
  refine aw_iload_n (pc' := 5) d_O_linksTo_4 rfl rfl ?_
  refine aw_aload_n (pc' := 6) d_O_linksTo_5 rfl rfl ?_
  refine aw_get (pc' := 9) d_O_linksTo_6 rfl fl_O_9 hC_19 rfl ?_
  refine aw_alen (pc' := 10) d_O_linksTo_9 rfl rfl hC_12 ?_
  refine aw_icmp_ge (tgt := 40) (pc' := 13) d_O_linksTo_10 (by decide) rfl (fun c1 => ?_) (fun c1 => ?_)
  · replace hf := aw_ifp c1 hf
    exact aw_weak [false, false, true, false] rfl (wO_linksTo_40 _ hf)
  · replace hf := aw_ifn c1 hf
    refine aw_iload_n (pc' := 14) d_O_linksTo_13 rfl rfl ?_
    refine aw_aload_n (pc' := 15) d_O_linksTo_14 rfl rfl ?_
    refine aw_get (pc' := 18) d_O_linksTo_15 rfl fl_O_9 hC_19 rfl ?_
    refine aw_iload_n (pc' := 19) d_O_linksTo_18 rfl rfl ?_
    obtain ⟨g2, hf⟩ := aw_gi hf
    refine aw_iald (pc' := 20) d_O_linksTo_19 rfl rfl hC_12 g2 ?_
    refine aw_iload_n (pc' := 21) d_O_linksTo_20 rfl rfl ?_
    obtain ⟨r3, hr3, hf⟩ := aw_bind hf
    refine aw_callNv (pc' := 24) (av := [.int (μ.1 12 l3.toNatClampNeg), .int l1]) d_O_linksTo_21 rfl wc_O_75 (mA_holds hr3) (Or.inl rfl) rfl (by decide) (Nat.le_of_ble_eq_true rfl) ⟨(Nat.le_refl 0), (Nat.le_refl 0)⟩ ?_
    refine aw_if_eq (tgt := 31) (pc' := 27) d_O_linksTo_24 (by decide) rfl (fun c4 => ?_) (fun c4 => ?_)
    · replace hf := aw_ifp c4 hf
      refine aw_iconst (pc' := 32) d_O_linksTo_31 rfl kc_ic_0 ?_
      exact aw_weak [true, true, false, true] rfl (wO_linksTo_32 hk4 _ _ _ _ hf)
    · replace hf := aw_ifn c4 hf
      refine aw_iconst (pc' := 28) d_O_linksTo_27 rfl kc_ic_1 ?_
      refine aw_goto (tgt := 32) d_O_linksTo_28 (by decide) ?_
      exact aw_weak [true, true, false, true] rfl (wO_linksTo_32 hk4 _ _ _ _ hf)
set_option maxRecDepth 20000 in
theorem wO_linksTo_4 {N : Nat} {n : Nat} {μ : me_M} {r0 : Int32} : ∀ (F : Nat) (l1 : Int32) (l2 : Int32) (l3 : Int32) (hf : fO_linksTo_4 N n μ F l1 l2 l3 = some r0), AW "ArcTape$Scores" "linksTo" c_O_linksTo 4 (some .int) 1 0 0 0 (aw_is (some (.int r0)) (hC n μ)) 4 [some (.ref 19), some (.int l1), some (.int l2), some (.int l3)] [] (hC n μ) 0 0 := by
  intro F
  induction F with
  | zero => intro l1 l2 l3 hf; exact aw_no hf
  | succ F ih => intro l1 l2 l3 hf; exact wO_linksTo_4b ih l1 l2 l3 hf
set_option maxRecDepth 20000 in
theorem mO_linksTo {N : Nat} {n : Nat} {μ : me_M} {r0 : Int32} {l1 : Int32} (hf : fO_linksTo N n μ l1 = some r0) : AM y_O_linksTo c_O_linksTo 4 (some .int) 1 0 0 0 [.ref 19, .int l1] (hC n μ) (aw_is (some (.int r0)) (hC n μ)) := by
  unfold fO_linksTo at hf
  refine AM.of (own := "ArcTape$Scores") (nm := "linksTo") (L := [some (.ref 19), some (.int l1), none, none]) rfl rfl (by decide) (Nat.le_of_ble_eq_true rfl) rfl ?_
  refine aw_iconst (pc' := 1) d_O_linksTo_0 rfl kc_ic_0 ?_
  refine aw_istore_n (pc' := 2) (L' := [some (.ref 19), some (.int l1), some (.int (0 : Int32)), none]) d_O_linksTo_1 rfl (by decide) rfl ?_
  refine aw_iconst (pc' := 3) d_O_linksTo_2 rfl kc_ic_0 ?_
  refine aw_istore_n (pc' := 4) (L' := [some (.ref 19), some (.int l1), some (.int (0 : Int32)), some (.int (0 : Int32))]) d_O_linksTo_3 rfl (by decide) rfl ?_
  exact aw_weak [true, true, true, true] rfl (wO_linksTo_4 _ _ _ _ hf)
set_option maxRecDepth 20000 in
theorem wO_stepByShares_164 {N : Nat} {n : Nat} {r0 : me_M} (μ : me_M) (hf : fO_stepByShares_164 N n μ = some r0) : AW "ArcTape$Scores" "stepByShares" c_O_stepByShares 3 none 2 0 0 0 (aw_is none (hC n r0)) 164 [none, none, none] [] (hC n μ) 0 0 := by
  unfold fO_stepByShares_164 at hf
  cases hf
  exact aw_return rfl d_O_stepByShares_164 (Nat.le_refl 0) (Nat.le_refl 0) ⟨rfl, rfl⟩
set_option maxRecDepth 20000 in
theorem wO_stepByShares_158 {N : Nat} {n : Nat} {r0 : me_M} {k84 : Int32 → me_M → Option me_M} (hk84 : ∀ (l1 : Int32) (μ : me_M), k84 l1 μ = some r0 → AW "ArcTape$Scores" "stepByShares" c_O_stepByShares 3 none 2 0 0 0 (aw_is none (hC n r0)) 84 [some (.ref 19), some (.int l1), none] [] (hC n μ) 0 0) (l1 : Int32) (μ : me_M) (hf : fO_stepByShares_158 N n k84 l1 μ = some r0) : AW "ArcTape$Scores" "stepByShares" c_O_stepByShares 3 none 2 0 0 0 (aw_is none (hC n r0)) 158 [some (.ref 19), some (.int l1), none] [] (hC n μ) 0 0 := by
  unfold fO_stepByShares_158 at hf
  refine aw_iinc (pc' := 161) (L' := [some (.ref 19), some (.int (l1 + (1 : Int32))), none]) d_O_stepByShares_158 rfl kc_ic_1 rfl (by decide) rfl ?_
  refine aw_goto (tgt := 84) d_O_stepByShares_161 (by decide) ?_
  exact aw_weak [true, true, false] rfl (hk84 _ _ hf)
set_option maxRecDepth 20000 in
theorem wO_stepByShares_150 {N : Nat} {n : Nat} {r0 : me_M} {k84 : Int32 → me_M → Option me_M} (hk84 : ∀ (l1 : Int32) (μ : me_M), k84 l1 μ = some r0 → AW "ArcTape$Scores" "stepByShares" c_O_stepByShares 3 none 2 0 0 0 (aw_is none (hC n r0)) 84 [some (.ref 19), some (.int l1), none] [] (hC n μ) 0 0) {k102 : Int32 → Int32 → me_M → Option me_M} (hk102 : ∀ (l1 : Int32) (l2 : Int32) (μ : me_M), k102 l1 l2 μ = some r0 → AW "ArcTape$Scores" "stepByShares" c_O_stepByShares 3 none 2 0 0 0 (aw_is none (hC n r0)) 102 [some (.ref 19), some (.int l1), some (.int l2)] [] (hC n μ) 0 0) (l1 : Int32) (l2 : Int32) (s1 : Int32) (s2 : Int64) (s3 : Int64) (μ : me_M) (hf : fO_stepByShares_150 N n k84 k102 l1 l2 s1 s2 s3 μ = some r0) : AW "ArcTape$Scores" "stepByShares" c_O_stepByShares 3 none 2 0 0 0 (aw_is none (hC n r0)) 150 [some (.ref 19), some (.int l1), some (.int l2)] [.long s3, .long s2, .int s1, .ref 20] (hC n μ) 0 0 := by
  unfold fO_stepByShares_150 at hf
  refine aw_ladd (pc' := 151) d_O_stepByShares_150 rfl ?_
  obtain ⟨g1, hf⟩ := aw_gi hf
  refine aw_last (pc' := 152) (h' := (hC n (me_wl μ 20 s1.toNatClampNeg (s2 + s3)))) d_O_stepByShares_151 rfl rfl hC_20 g1 rfl ?_
  refine aw_iinc (pc' := 155) (L' := [some (.ref 19), some (.int l1), some (.int (l2 + (1 : Int32)))]) d_O_stepByShares_152 rfl kc_ic_1 rfl (by decide) rfl ?_
  refine aw_goto (tgt := 102) d_O_stepByShares_155 (by decide) ?_
  exact aw_weak [true, true, true] rfl (hk102 _ _ _ hf)
set_option maxRecDepth 20000 in
theorem wO_stepByShares_102b {N : Nat} {n : Nat} {r0 : me_M} {k84 : Int32 → me_M → Option me_M} (hk84 : ∀ (l1 : Int32) (μ : me_M), k84 l1 μ = some r0 → AW "ArcTape$Scores" "stepByShares" c_O_stepByShares 3 none 2 0 0 0 (aw_is none (hC n r0)) 84 [some (.ref 19), some (.int l1), none] [] (hC n μ) 0 0) {k102 : Int32 → Int32 → me_M → Option me_M} (hk102 : ∀ (l1 : Int32) (l2 : Int32) (μ : me_M), k102 l1 l2 μ = some r0 → AW "ArcTape$Scores" "stepByShares" c_O_stepByShares 3 none 2 0 0 0 (aw_is none (hC n r0)) 102 [some (.ref 19), some (.int l1), some (.int l2)] [] (hC n μ) 0 0) (l1 : Int32) (l2 : Int32) (μ : me_M) (hf : fO_stepByShares_102b N n k84 k102 l1 l2 μ = some r0) : AW "ArcTape$Scores" "stepByShares" c_O_stepByShares 3 none 2 0 0 0 (aw_is none (hC n r0)) 102 [some (.ref 19), some (.int l1), some (.int l2)] [] (hC n μ) 0 0 := by
  unfold fO_stepByShares_102b at hf
  refine aw_iload_n (pc' := 103) d_O_stepByShares_102 rfl rfl ?_
  refine aw_aload_n (pc' := 104) d_O_stepByShares_103 rfl rfl ?_
  refine aw_get (pc' := 107) d_O_stepByShares_104 rfl fl_O_9 hC_19 rfl ?_
  refine aw_alen (pc' := 108) d_O_stepByShares_107 rfl rfl hC_12 ?_
  refine aw_icmp_ge (tgt := 158) (pc' := 111) d_O_stepByShares_108 (by decide) rfl (fun c2 => ?_) (fun c2 => ?_)
  · replace hf := aw_ifp c2 hf
    exact aw_weak [true, true, false] rfl (wO_stepByShares_158 hk84 _ _ hf)
  · replace hf := aw_ifn c2 hf
    refine aw_aload_n (pc' := 112) d_O_stepByShares_111 rfl rfl ?_
    refine aw_get (pc' := 115) d_O_stepByShares_112 rfl fl_O_15 hC_19 rfl ?_
    refine aw_iload_n (pc' := 116) d_O_stepByShares_115 rfl rfl ?_
    refine aw_dup2 (pc' := 117) d_O_stepByShares_116 rfl rfl rfl ?_
    obtain ⟨g3, hf⟩ := aw_gi hf
    refine aw_lald (pc' := 118) d_O_stepByShares_117 rfl rfl hC_20 g3 ?_
    refine aw_aload_n (pc' := 119) d_O_stepByShares_118 rfl rfl ?_
    refine aw_get (pc' := 122) d_O_stepByShares_119 rfl fl_O_9 hC_19 rfl ?_
    refine aw_iload_n (pc' := 123) d_O_stepByShares_122 rfl rfl ?_
    obtain ⟨g4, hf⟩ := aw_gi hf
    refine aw_iald (pc' := 124) d_O_stepByShares_123 rfl rfl hC_12 g4 ?_
    refine aw_iload_n (pc' := 125) d_O_stepByShares_124 rfl rfl ?_
    obtain ⟨r5, hr5, hf⟩ := aw_bind hf
    refine aw_callNv (pc' := 128) (av := [.int (μ.1 12 l2.toNatClampNeg), .int l1]) d_O_stepByShares_125 rfl wc_O_75 (mA_holds hr5) (Or.inl rfl) rfl (by decide) (Nat.le_of_ble_eq_true rfl) ⟨(Nat.le_refl 0), (Nat.le_refl 0)⟩ ?_
    refine aw_if_eq (tgt := 149) (pc' := 131) d_O_stepByShares_128 (by decide) rfl (fun c6 => ?_) (fun c6 => ?_)
    · replace hf := aw_ifp c6 hf
      refine aw_lconst (pc' := 150) d_O_stepByShares_149 rfl kc_lc_0 ?_
      exact aw_weak [true, true, true] rfl (wO_stepByShares_150 hk84 hk102 _ _ _ _ _ _ hf)
    · replace hf := aw_ifn c6 hf
      refine aw_aload_n (pc' := 132) d_O_stepByShares_131 rfl rfl ?_
      refine aw_get (pc' := 135) d_O_stepByShares_132 rfl fl_O_19 hC_19 rfl ?_
      refine aw_iload_n (pc' := 136) d_O_stepByShares_135 rfl rfl ?_
      obtain ⟨g7, hf⟩ := aw_gi hf
      refine aw_lald (pc' := 137) d_O_stepByShares_136 rfl rfl hC_21 g7 ?_
      refine aw_aload_n (pc' := 138) d_O_stepByShares_137 rfl rfl ?_
      refine aw_iload_n (pc' := 139) d_O_stepByShares_138 rfl rfl ?_
      obtain ⟨r8, hr8, hf⟩ := aw_bind hf
      refine aw_callVv (pc' := 142) (av := [.int l2]) d_O_stepByShares_139 rfl wc_O_79 hC_19 (mO_linksFrom hr8) (Or.inl rfl) rfl (by decide) (Nat.le_of_ble_eq_true rfl) ⟨(Nat.le_refl 0), (Nat.le_refl 0)⟩ ?_
      refine aw_i2l (pc' := 143) d_O_stepByShares_142 rfl ?_
      obtain ⟨r9, hr9, hf⟩ := aw_bind hf
      refine aw_callSv (pc' := 146) (av := [.long (μ.2 21 l2.toNatClampNeg), .long r8.toInt64]) d_O_stepByShares_143 rfl wc_O_43 (mO_quotient hr9) (Or.inl rfl) rfl (by decide) (Nat.le_of_ble_eq_true rfl) ⟨(Nat.le_refl 0), (Nat.le_refl 0)⟩ ?_
      refine aw_goto (tgt := 150) d_O_stepByShares_146 (by decide) ?_
      exact aw_weak [true, true, true] rfl (wO_stepByShares_150 hk84 hk102 _ _ _ _ _ _ hf)
set_option maxRecDepth 20000 in
theorem wO_stepByShares_102 {N : Nat} {n : Nat} {r0 : me_M} {k84 : Int32 → me_M → Option me_M} (hk84 : ∀ (l1 : Int32) (μ : me_M), k84 l1 μ = some r0 → AW "ArcTape$Scores" "stepByShares" c_O_stepByShares 3 none 2 0 0 0 (aw_is none (hC n r0)) 84 [some (.ref 19), some (.int l1), none] [] (hC n μ) 0 0) : ∀ (F : Nat) (l1 : Int32) (l2 : Int32) (μ : me_M) (hf : fO_stepByShares_102 N n k84 F l1 l2 μ = some r0), AW "ArcTape$Scores" "stepByShares" c_O_stepByShares 3 none 2 0 0 0 (aw_is none (hC n r0)) 102 [some (.ref 19), some (.int l1), some (.int l2)] [] (hC n μ) 0 0 := by
  intro F
  induction F with
  | zero => intro l1 l2 μ hf; exact aw_no hf
  | succ F ih => intro l1 l2 μ hf; exact wO_stepByShares_102b hk84 ih l1 l2 μ hf
set_option maxRecDepth 20000 in
theorem wO_stepByShares_84b {N : Nat} {n : Nat} {r0 : me_M} {k84 : Int32 → me_M → Option me_M} (hk84 : ∀ (l1 : Int32) (μ : me_M), k84 l1 μ = some r0 → AW "ArcTape$Scores" "stepByShares" c_O_stepByShares 3 none 2 0 0 0 (aw_is none (hC n r0)) 84 [some (.ref 19), some (.int l1), none] [] (hC n μ) 0 0) (l1 : Int32) (μ : me_M) (hf : fO_stepByShares_84b N n k84 l1 μ = some r0) : AW "ArcTape$Scores" "stepByShares" c_O_stepByShares 3 none 2 0 0 0 (aw_is none (hC n r0)) 84 [some (.ref 19), some (.int l1), none] [] (hC n μ) 0 0 := by
  unfold fO_stepByShares_84b at hf
  refine aw_iload_n (pc' := 85) d_O_stepByShares_84 rfl rfl ?_
  refine aw_aload_n (pc' := 86) d_O_stepByShares_85 rfl rfl ?_
  refine aw_get (pc' := 89) d_O_stepByShares_86 rfl fl_O_9 hC_19 rfl ?_
  refine aw_alen (pc' := 90) d_O_stepByShares_89 rfl rfl hC_12 ?_
  refine aw_icmp_ge (tgt := 164) (pc' := 93) d_O_stepByShares_90 (by decide) rfl (fun c10 => ?_) (fun c10 => ?_)
  · replace hf := aw_ifp c10 hf
    exact aw_weak [false, false, false] rfl (wO_stepByShares_164 _ hf)
  · replace hf := aw_ifn c10 hf
    refine aw_aload_n (pc' := 94) d_O_stepByShares_93 rfl rfl ?_
    refine aw_get (pc' := 97) d_O_stepByShares_94 rfl fl_O_15 hC_19 rfl ?_
    refine aw_iload_n (pc' := 98) d_O_stepByShares_97 rfl rfl ?_
    refine aw_lconst (pc' := 99) d_O_stepByShares_98 rfl kc_lc_0 ?_
    obtain ⟨g11, hf⟩ := aw_gi hf
    refine aw_last (pc' := 100) (h' := (hC n (me_wl μ 20 l1.toNatClampNeg (0 : Int64)))) d_O_stepByShares_99 rfl rfl hC_20 g11 rfl ?_
    refine aw_iconst (pc' := 101) d_O_stepByShares_100 rfl kc_ic_0 ?_
    refine aw_istore_n (pc' := 102) (L' := [some (.ref 19), some (.int l1), some (.int (0 : Int32))]) d_O_stepByShares_101 rfl (by decide) rfl ?_
    exact aw_weak [true, true, true] rfl (wO_stepByShares_102 hk84 _ _ _ _ hf)
set_option maxRecDepth 20000 in
theorem wO_stepByShares_84 {N : Nat} {n : Nat} {r0 : me_M} : ∀ (F : Nat) (l1 : Int32) (μ : me_M) (hf : fO_stepByShares_84 N n F l1 μ = some r0), AW "ArcTape$Scores" "stepByShares" c_O_stepByShares 3 none 2 0 0 0 (aw_is none (hC n r0)) 84 [some (.ref 19), some (.int l1), none] [] (hC n μ) 0 0 := by
  intro F
  induction F with
  | zero => intro l1 μ hf; exact aw_no hf
  | succ F ih => intro l1 μ hf; exact wO_stepByShares_84b ih l1 μ hf
set_option maxRecDepth 20000 in
theorem wO_stepByShares_82 {N : Nat} {n : Nat} {r0 : me_M} (μ : me_M) (hf : fO_stepByShares_82 N n μ = some r0) : AW "ArcTape$Scores" "stepByShares" c_O_stepByShares 3 none 2 0 0 0 (aw_is none (hC n r0)) 82 [some (.ref 19), none, none] [] (hC n μ) 0 0 := by
  unfold fO_stepByShares_82 at hf
  refine aw_iconst (pc' := 83) d_O_stepByShares_82 rfl kc_ic_0 ?_
  refine aw_istore_n (pc' := 84) (L' := [some (.ref 19), some (.int (0 : Int32)), none]) d_O_stepByShares_83 rfl (by decide) rfl ?_
  exact aw_weak [true, true, false] rfl (wO_stepByShares_84 _ _ _ hf)
set_option maxRecDepth 20000 in
theorem wO_stepByShares_76 {N : Nat} {n : Nat} {r0 : me_M} {k2 : Int32 → me_M → Option me_M} (hk2 : ∀ (l1 : Int32) (μ : me_M), k2 l1 μ = some r0 → AW "ArcTape$Scores" "stepByShares" c_O_stepByShares 3 none 2 0 0 0 (aw_is none (hC n r0)) 2 [some (.ref 19), some (.int l1), none] [] (hC n μ) 0 0) (l1 : Int32) (μ : me_M) (hf : fO_stepByShares_76 N n k2 l1 μ = some r0) : AW "ArcTape$Scores" "stepByShares" c_O_stepByShares 3 none 2 0 0 0 (aw_is none (hC n r0)) 76 [some (.ref 19), some (.int l1), none] [] (hC n μ) 0 0 := by
  unfold fO_stepByShares_76 at hf
  refine aw_iinc (pc' := 79) (L' := [some (.ref 19), some (.int (l1 + (1 : Int32))), none]) d_O_stepByShares_76 rfl kc_ic_1 rfl (by decide) rfl ?_
  refine aw_goto (tgt := 2) d_O_stepByShares_79 (by decide) ?_
  exact aw_weak [true, true, false] rfl (hk2 _ _ hf)
set_option maxRecDepth 20000 in
theorem wO_stepByShares_68 {N : Nat} {n : Nat} {r0 : me_M} {k2 : Int32 → me_M → Option me_M} (hk2 : ∀ (l1 : Int32) (μ : me_M), k2 l1 μ = some r0 → AW "ArcTape$Scores" "stepByShares" c_O_stepByShares 3 none 2 0 0 0 (aw_is none (hC n r0)) 2 [some (.ref 19), some (.int l1), none] [] (hC n μ) 0 0) {k20 : Int32 → Int32 → me_M → Option me_M} (hk20 : ∀ (l1 : Int32) (l2 : Int32) (μ : me_M), k20 l1 l2 μ = some r0 → AW "ArcTape$Scores" "stepByShares" c_O_stepByShares 3 none 2 0 0 0 (aw_is none (hC n r0)) 20 [some (.ref 19), some (.int l1), some (.int l2)] [] (hC n μ) 0 0) (l1 : Int32) (l2 : Int32) (s1 : Int32) (s2 : Int64) (s3 : Int64) (μ : me_M) (hf : fO_stepByShares_68 N n k2 k20 l1 l2 s1 s2 s3 μ = some r0) : AW "ArcTape$Scores" "stepByShares" c_O_stepByShares 3 none 2 0 0 0 (aw_is none (hC n r0)) 68 [some (.ref 19), some (.int l1), some (.int l2)] [.long s3, .long s2, .int s1, .ref 21] (hC n μ) 0 0 := by
  unfold fO_stepByShares_68 at hf
  refine aw_ladd (pc' := 69) d_O_stepByShares_68 rfl ?_
  obtain ⟨g12, hf⟩ := aw_gi hf
  refine aw_last (pc' := 70) (h' := (hC n (me_wl μ 21 s1.toNatClampNeg (s2 + s3)))) d_O_stepByShares_69 rfl rfl hC_21 g12 rfl ?_
  refine aw_iinc (pc' := 73) (L' := [some (.ref 19), some (.int l1), some (.int (l2 + (1 : Int32)))]) d_O_stepByShares_70 rfl kc_ic_1 rfl (by decide) rfl ?_
  refine aw_goto (tgt := 20) d_O_stepByShares_73 (by decide) ?_
  exact aw_weak [true, true, true] rfl (hk20 _ _ _ hf)
set_option maxRecDepth 20000 in
theorem wO_stepByShares_20b {N : Nat} {n : Nat} {r0 : me_M} {k2 : Int32 → me_M → Option me_M} (hk2 : ∀ (l1 : Int32) (μ : me_M), k2 l1 μ = some r0 → AW "ArcTape$Scores" "stepByShares" c_O_stepByShares 3 none 2 0 0 0 (aw_is none (hC n r0)) 2 [some (.ref 19), some (.int l1), none] [] (hC n μ) 0 0) {k20 : Int32 → Int32 → me_M → Option me_M} (hk20 : ∀ (l1 : Int32) (l2 : Int32) (μ : me_M), k20 l1 l2 μ = some r0 → AW "ArcTape$Scores" "stepByShares" c_O_stepByShares 3 none 2 0 0 0 (aw_is none (hC n r0)) 20 [some (.ref 19), some (.int l1), some (.int l2)] [] (hC n μ) 0 0) (l1 : Int32) (l2 : Int32) (μ : me_M) (hf : fO_stepByShares_20b N n k2 k20 l1 l2 μ = some r0) : AW "ArcTape$Scores" "stepByShares" c_O_stepByShares 3 none 2 0 0 0 (aw_is none (hC n r0)) 20 [some (.ref 19), some (.int l1), some (.int l2)] [] (hC n μ) 0 0 := by
  unfold fO_stepByShares_20b at hf
  refine aw_iload_n (pc' := 21) d_O_stepByShares_20 rfl rfl ?_
  refine aw_aload_n (pc' := 22) d_O_stepByShares_21 rfl rfl ?_
  refine aw_get (pc' := 25) d_O_stepByShares_22 rfl fl_O_9 hC_19 rfl ?_
  refine aw_alen (pc' := 26) d_O_stepByShares_25 rfl rfl hC_12 ?_
  refine aw_icmp_ge (tgt := 76) (pc' := 29) d_O_stepByShares_26 (by decide) rfl (fun c13 => ?_) (fun c13 => ?_)
  · replace hf := aw_ifp c13 hf
    exact aw_weak [true, true, false] rfl (wO_stepByShares_76 hk2 _ _ hf)
  · replace hf := aw_ifn c13 hf
    refine aw_aload_n (pc' := 30) d_O_stepByShares_29 rfl rfl ?_
    refine aw_get (pc' := 33) d_O_stepByShares_30 rfl fl_O_19 hC_19 rfl ?_
    refine aw_iload_n (pc' := 34) d_O_stepByShares_33 rfl rfl ?_
    refine aw_dup2 (pc' := 35) d_O_stepByShares_34 rfl rfl rfl ?_
    obtain ⟨g14, hf⟩ := aw_gi hf
    refine aw_lald (pc' := 36) d_O_stepByShares_35 rfl rfl hC_21 g14 ?_
    refine aw_aload_n (pc' := 37) d_O_stepByShares_36 rfl rfl ?_
    refine aw_get (pc' := 40) d_O_stepByShares_37 rfl fl_O_9 hC_19 rfl ?_
    refine aw_iload_n (pc' := 41) d_O_stepByShares_40 rfl rfl ?_
    obtain ⟨g15, hf⟩ := aw_gi hf
    refine aw_iald (pc' := 42) d_O_stepByShares_41 rfl rfl hC_12 g15 ?_
    refine aw_iload_n (pc' := 43) d_O_stepByShares_42 rfl rfl ?_
    obtain ⟨r16, hr16, hf⟩ := aw_bind hf
    refine aw_callNv (pc' := 46) (av := [.int (μ.1 12 l1.toNatClampNeg), .int l2]) d_O_stepByShares_43 rfl wc_O_75 (mA_holds hr16) (Or.inl rfl) rfl (by decide) (Nat.le_of_ble_eq_true rfl) ⟨(Nat.le_refl 0), (Nat.le_refl 0)⟩ ?_
    refine aw_if_eq (tgt := 67) (pc' := 49) d_O_stepByShares_46 (by decide) rfl (fun c17 => ?_) (fun c17 => ?_)
    · replace hf := aw_ifp c17 hf
      refine aw_lconst (pc' := 68) d_O_stepByShares_67 rfl kc_lc_0 ?_
      exact aw_weak [true, true, true] rfl (wO_stepByShares_68 hk2 hk20 _ _ _ _ _ _ hf)
    · replace hf := aw_ifn c17 hf
      refine aw_aload_n (pc' := 50) d_O_stepByShares_49 rfl rfl ?_
      refine aw_get (pc' := 53) d_O_stepByShares_50 rfl fl_O_15 hC_19 rfl ?_
      refine aw_iload_n (pc' := 54) d_O_stepByShares_53 rfl rfl ?_
      obtain ⟨g18, hf⟩ := aw_gi hf
      refine aw_lald (pc' := 55) d_O_stepByShares_54 rfl rfl hC_20 g18 ?_
      refine aw_aload_n (pc' := 56) d_O_stepByShares_55 rfl rfl ?_
      refine aw_iload_n (pc' := 57) d_O_stepByShares_56 rfl rfl ?_
      obtain ⟨r19, hr19, hf⟩ := aw_bind hf
      refine aw_callVv (pc' := 60) (av := [.int l2]) d_O_stepByShares_57 rfl wc_O_93 hC_19 (mO_linksTo hr19) (Or.inl rfl) rfl (by decide) (Nat.le_of_ble_eq_true rfl) ⟨(Nat.le_refl 0), (Nat.le_refl 0)⟩ ?_
      refine aw_i2l (pc' := 61) d_O_stepByShares_60 rfl ?_
      obtain ⟨r20, hr20, hf⟩ := aw_bind hf
      refine aw_callSv (pc' := 64) (av := [.long (μ.2 20 l2.toNatClampNeg), .long r19.toInt64]) d_O_stepByShares_61 rfl wc_O_43 (mO_quotient hr20) (Or.inl rfl) rfl (by decide) (Nat.le_of_ble_eq_true rfl) ⟨(Nat.le_refl 0), (Nat.le_refl 0)⟩ ?_
      refine aw_goto (tgt := 68) d_O_stepByShares_64 (by decide) ?_
      exact aw_weak [true, true, true] rfl (wO_stepByShares_68 hk2 hk20 _ _ _ _ _ _ hf)
set_option maxRecDepth 20000 in
theorem wO_stepByShares_20 {N : Nat} {n : Nat} {r0 : me_M} {k2 : Int32 → me_M → Option me_M} (hk2 : ∀ (l1 : Int32) (μ : me_M), k2 l1 μ = some r0 → AW "ArcTape$Scores" "stepByShares" c_O_stepByShares 3 none 2 0 0 0 (aw_is none (hC n r0)) 2 [some (.ref 19), some (.int l1), none] [] (hC n μ) 0 0) : ∀ (F : Nat) (l1 : Int32) (l2 : Int32) (μ : me_M) (hf : fO_stepByShares_20 N n k2 F l1 l2 μ = some r0), AW "ArcTape$Scores" "stepByShares" c_O_stepByShares 3 none 2 0 0 0 (aw_is none (hC n r0)) 20 [some (.ref 19), some (.int l1), some (.int l2)] [] (hC n μ) 0 0 := by
  intro F
  induction F with
  | zero => intro l1 l2 μ hf; exact aw_no hf
  | succ F ih => intro l1 l2 μ hf; exact wO_stepByShares_20b hk2 ih l1 l2 μ hf
set_option maxRecDepth 20000 in
theorem wO_stepByShares_2b {N : Nat} {n : Nat} {r0 : me_M} {k2 : Int32 → me_M → Option me_M} (hk2 : ∀ (l1 : Int32) (μ : me_M), k2 l1 μ = some r0 → AW "ArcTape$Scores" "stepByShares" c_O_stepByShares 3 none 2 0 0 0 (aw_is none (hC n r0)) 2 [some (.ref 19), some (.int l1), none] [] (hC n μ) 0 0) (l1 : Int32) (μ : me_M) (hf : fO_stepByShares_2b N n k2 l1 μ = some r0) : AW "ArcTape$Scores" "stepByShares" c_O_stepByShares 3 none 2 0 0 0 (aw_is none (hC n r0)) 2 [some (.ref 19), some (.int l1), none] [] (hC n μ) 0 0 := by
  unfold fO_stepByShares_2b at hf
  refine aw_iload_n (pc' := 3) d_O_stepByShares_2 rfl rfl ?_
  refine aw_aload_n (pc' := 4) d_O_stepByShares_3 rfl rfl ?_
  refine aw_get (pc' := 7) d_O_stepByShares_4 rfl fl_O_9 hC_19 rfl ?_
  refine aw_alen (pc' := 8) d_O_stepByShares_7 rfl rfl hC_12 ?_
  refine aw_icmp_ge (tgt := 82) (pc' := 11) d_O_stepByShares_8 (by decide) rfl (fun c21 => ?_) (fun c21 => ?_)
  · replace hf := aw_ifp c21 hf
    exact aw_weak [true, false, false] rfl (wO_stepByShares_82 _ hf)
  · replace hf := aw_ifn c21 hf
    refine aw_aload_n (pc' := 12) d_O_stepByShares_11 rfl rfl ?_
    refine aw_get (pc' := 15) d_O_stepByShares_12 rfl fl_O_19 hC_19 rfl ?_
    refine aw_iload_n (pc' := 16) d_O_stepByShares_15 rfl rfl ?_
    refine aw_lconst (pc' := 17) d_O_stepByShares_16 rfl kc_lc_0 ?_
    obtain ⟨g22, hf⟩ := aw_gi hf
    refine aw_last (pc' := 18) (h' := (hC n (me_wl μ 21 l1.toNatClampNeg (0 : Int64)))) d_O_stepByShares_17 rfl rfl hC_21 g22 rfl ?_
    refine aw_iconst (pc' := 19) d_O_stepByShares_18 rfl kc_ic_0 ?_
    refine aw_istore_n (pc' := 20) (L' := [some (.ref 19), some (.int l1), some (.int (0 : Int32))]) d_O_stepByShares_19 rfl (by decide) rfl ?_
    exact aw_weak [true, true, true] rfl (wO_stepByShares_20 hk2 _ _ _ _ hf)
set_option maxRecDepth 20000 in
theorem wO_stepByShares_2 {N : Nat} {n : Nat} {r0 : me_M} : ∀ (F : Nat) (l1 : Int32) (μ : me_M) (hf : fO_stepByShares_2 N n F l1 μ = some r0), AW "ArcTape$Scores" "stepByShares" c_O_stepByShares 3 none 2 0 0 0 (aw_is none (hC n r0)) 2 [some (.ref 19), some (.int l1), none] [] (hC n μ) 0 0 := by
  intro F
  induction F with
  | zero => intro l1 μ hf; exact aw_no hf
  | succ F ih => intro l1 μ hf; exact wO_stepByShares_2b ih l1 μ hf
set_option maxRecDepth 20000 in
theorem mO_stepByShares {N : Nat} {n : Nat} {μ : me_M} {r0 : me_M} (hf : fO_stepByShares N n μ = some r0) : AM y_O_stepByShares c_O_stepByShares 3 none 2 0 0 0 [.ref 19] (hC n μ) (aw_is none (hC n r0)) := by
  unfold fO_stepByShares at hf
  refine AM.of (own := "ArcTape$Scores") (nm := "stepByShares") (L := [some (.ref 19), none, none]) rfl rfl (by decide) (Nat.le_of_ble_eq_true rfl) rfl ?_
  refine aw_iconst (pc' := 1) d_O_stepByShares_0 rfl kc_ic_0 ?_
  refine aw_istore_n (pc' := 2) (L' := [some (.ref 19), some (.int (0 : Int32)), none]) d_O_stepByShares_1 rfl (by decide) rfl ?_
  exact aw_weak [true, true, false] rfl (wO_stepByShares_2 _ _ _ hf)
set_option maxRecDepth 20000 in
theorem wO_stepOnce_98 {N : Nat} {n : Nat} {r0 : me_M} (μ : me_M) (hf : fO_stepOnce_98 N n μ = some r0) : AW "ArcTape$Scores" "stepOnce" c_O_stepOnce 2 none 3 2 0 0 (aw_is none (hC n r0)) 98 [none, none] [] (hC n μ) 0 0 := by
  unfold fO_stepOnce_98 at hf
  cases hf
  exact aw_return rfl d_O_stepOnce_98 (Nat.le_refl 0) (Nat.le_refl 0) ⟨rfl, rfl⟩
set_option maxRecDepth 20000 in
theorem wO_stepOnce_58b {N : Nat} {n : Nat} {r0 : me_M} {k58 : Int32 → me_M → Option me_M} (hk58 : ∀ (l1 : Int32) (μ : me_M), k58 l1 μ = some r0 → AW "ArcTape$Scores" "stepOnce" c_O_stepOnce 2 none 3 2 0 0 (aw_is none (hC n r0)) 58 [some (.ref 19), some (.int l1)] [] (hC n μ) 0 0) (l1 : Int32) (μ : me_M) (hf : fO_stepOnce_58b N n k58 l1 μ = some r0) : AW "ArcTape$Scores" "stepOnce" c_O_stepOnce 2 none 3 2 0 0 (aw_is none (hC n r0)) 58 [some (.ref 19), some (.int l1)] [] (hC n μ) 0 0 := by
  unfold fO_stepOnce_58b at hf
  refine aw_iload_n (pc' := 59) d_O_stepOnce_58 rfl rfl ?_
  refine aw_aload_n (pc' := 60) d_O_stepOnce_59 rfl rfl ?_
  refine aw_get (pc' := 63) d_O_stepOnce_60 rfl fl_O_15 hC_19 rfl ?_
  refine aw_alen (pc' := 64) d_O_stepOnce_63 rfl rfl hC_20 ?_
  refine aw_icmp_ge (tgt := 98) (pc' := 67) d_O_stepOnce_64 (by decide) rfl (fun c1 => ?_) (fun c1 => ?_)
  · replace hf := aw_ifp c1 hf
    exact aw_weak [false, false] rfl (wO_stepOnce_98 _ hf)
  · replace hf := aw_ifn c1 hf
    refine aw_aload_n (pc' := 68) d_O_stepOnce_67 rfl rfl ?_
    refine aw_dup (pc' := 69) d_O_stepOnce_68 rfl rfl ?_
    refine aw_get (pc' := 72) d_O_stepOnce_69 rfl fl_O_35 hC_19 rfl ?_
    refine aw_aload_n (pc' := 73) d_O_stepOnce_72 rfl rfl ?_
    refine aw_get (pc' := 76) d_O_stepOnce_73 rfl fl_O_15 hC_19 rfl ?_
    refine aw_iload_n (pc' := 77) d_O_stepOnce_76 rfl rfl ?_
    obtain ⟨g2, hf⟩ := aw_gi hf
    refine aw_lald (pc' := 78) d_O_stepOnce_77 rfl rfl hC_20 g2 ?_
    refine aw_aload_n (pc' := 79) d_O_stepOnce_78 rfl rfl ?_
    refine aw_get (pc' := 82) d_O_stepOnce_79 rfl fl_O_22 hC_19 rfl ?_
    refine aw_iload_n (pc' := 83) d_O_stepOnce_82 rfl rfl ?_
    obtain ⟨g3, hf⟩ := aw_gi hf
    refine aw_lald (pc' := 84) d_O_stepOnce_83 rfl rfl hC_22 g3 ?_
    refine aw_lsub (pc' := 85) d_O_stepOnce_84 rfl ?_
    refine aw_mabsl (pc' := 88) d_O_stepOnce_85 rfl wc_O_65 (by decide) (Nat.le_of_ble_eq_true rfl) (Nat.le_refl 0) (Nat.le_refl 0) ?_
    refine aw_ladd (pc' := 89) d_O_stepOnce_88 rfl ?_
    refine aw_putj (pc' := 92) (h' := (hC n (me_wl μ 2003 0 ((μ.2 2003 0) + (if 0 < ((μ.2 20 l1.toNatClampNeg) - (μ.2 22 l1.toNatClampNeg)) then ((μ.2 20 l1.toNatClampNeg) - (μ.2 22 l1.toNatClampNeg)) else -((μ.2 20 l1.toNatClampNeg) - (μ.2 22 l1.toNatClampNeg))))))) d_O_stepOnce_89 rfl fp_O_35 hC_19 (Nat.le_of_ble_eq_true rfl) rfl ?_
    refine aw_iinc (pc' := 95) (L' := [some (.ref 19), some (.int (l1 + (1 : Int32)))]) d_O_stepOnce_92 rfl kc_ic_1 rfl (by decide) rfl ?_
    refine aw_goto (tgt := 58) d_O_stepOnce_95 (by decide) ?_
    exact aw_weak [true, true] rfl (hk58 _ _ hf)
set_option maxRecDepth 20000 in
theorem wO_stepOnce_58 {N : Nat} {n : Nat} {r0 : me_M} : ∀ (F : Nat) (l1 : Int32) (μ : me_M) (hf : fO_stepOnce_58 N n F l1 μ = some r0), AW "ArcTape$Scores" "stepOnce" c_O_stepOnce 2 none 3 2 0 0 (aw_is none (hC n r0)) 58 [some (.ref 19), some (.int l1)] [] (hC n μ) 0 0 := by
  intro F
  induction F with
  | zero => intro l1 μ hf; exact aw_no hf
  | succ F ih => intro l1 μ hf; exact wO_stepOnce_58b ih l1 μ hf
set_option maxRecDepth 20000 in
theorem wO_stepOnce_51 {N : Nat} {n : Nat} {r0 : me_M} (μ : me_M) (hf : fO_stepOnce_51 N n μ = some r0) : AW "ArcTape$Scores" "stepOnce" c_O_stepOnce 2 none 3 2 0 0 (aw_is none (hC n r0)) 51 [some (.ref 19), none] [] (hC n μ) 0 0 := by
  unfold fO_stepOnce_51 at hf
  refine aw_aload_n (pc' := 52) d_O_stepOnce_51 rfl rfl ?_
  refine aw_lconst (pc' := 53) d_O_stepOnce_52 rfl kc_lc_0 ?_
  refine aw_putj (pc' := 56) (h' := (hC n (me_wl μ 2003 0 (0 : Int64)))) d_O_stepOnce_53 rfl fp_O_35 hC_19 (Nat.le_of_ble_eq_true rfl) rfl ?_
  refine aw_iconst (pc' := 57) d_O_stepOnce_56 rfl kc_ic_0 ?_
  refine aw_istore_n (pc' := 58) (L' := [some (.ref 19), some (.int (0 : Int32))]) d_O_stepOnce_57 rfl (by decide) rfl ?_
  exact aw_weak [true, true] rfl (wO_stepOnce_58 _ _ _ hf)
set_option maxRecDepth 20000 in
theorem mO_stepOnce {N : Nat} {n : Nat} {μ : me_M} {r0 : me_M} (hf : fO_stepOnce N n μ = some r0) : AM y_O_stepOnce c_O_stepOnce 2 none 3 2 0 0 [.ref 19] (hC n μ) (aw_is none (hC n r0)) := by
  unfold fO_stepOnce at hf
  refine AM.of (own := "ArcTape$Scores") (nm := "stepOnce") (L := [some (.ref 19), none]) rfl rfl (by decide) (Nat.le_of_ble_eq_true rfl) rfl ?_
  refine aw_aload_n (pc' := 1) d_O_stepOnce_0 rfl rfl ?_
  refine aw_get (pc' := 4) d_O_stepOnce_1 rfl fl_O_15 hC_19 rfl ?_
  refine aw_iconst (pc' := 5) d_O_stepOnce_4 rfl kc_ic_0 ?_
  refine aw_aload_n (pc' := 6) d_O_stepOnce_5 rfl rfl ?_
  refine aw_get (pc' := 9) d_O_stepOnce_6 rfl fl_O_22 hC_19 rfl ?_
  refine aw_iconst (pc' := 10) d_O_stepOnce_9 rfl kc_ic_0 ?_
  refine aw_aload_n (pc' := 11) d_O_stepOnce_10 rfl rfl ?_
  refine aw_get (pc' := 14) d_O_stepOnce_11 rfl fl_O_15 hC_19 rfl ?_
  refine aw_alen (pc' := 15) d_O_stepOnce_14 rfl rfl hC_20 ?_
  obtain ⟨g4, hf⟩ := aw_gc hf
  refine aw_copyl (pc' := 18) (h' := (hC n (me_cp μ 20 22 (0 : Int32).toNatClampNeg (0 : Int32).toNatClampNeg (nI n).toNatClampNeg))) rfl d_O_stepOnce_15 rfl wc_O_50 rfl hC_20 hC_22 g4 (by decide) (Nat.le_of_ble_eq_true rfl) rfl ?_
  refine aw_aload_n (pc' := 19) d_O_stepOnce_18 rfl rfl ?_
  refine aw_get (pc' := 22) d_O_stepOnce_19 rfl fl_O_28 hC_19 rfl ?_
  refine aw_if_ne (tgt := 32) (pc' := 25) d_O_stepOnce_22 (by decide) rfl (fun c5 => ?_) (fun c5 => ?_)
  · replace hf := aw_ifn c5 hf
    refine aw_aload_n (pc' := 33) d_O_stepOnce_32 rfl rfl ?_
    refine aw_get (pc' := 36) d_O_stepOnce_33 rfl fl_O_28 hC_19 rfl ?_
    refine aw_iconst (pc' := 37) d_O_stepOnce_36 rfl kc_ic_1 ?_
    refine aw_icmp_ne (tgt := 47) (pc' := 40) d_O_stepOnce_37 (by decide) rfl (fun c6 => ?_) (fun c6 => ?_)
    · replace hf := aw_ifn c6 hf
      refine aw_aload_n (pc' := 48) d_O_stepOnce_47 rfl rfl ?_
      obtain ⟨r7, hr7, hf⟩ := aw_bind hf
      refine aw_callVn (pc' := 51) (av := []) d_O_stepOnce_48 rfl wc_O_62 hC_19 (mO_stepByShares hr7) (Or.inl rfl) rfl (by decide) (Nat.le_of_ble_eq_true rfl) ⟨(Nat.le_refl 0), (Nat.le_refl 0)⟩ ?_
      exact aw_weak [true, false] rfl (wO_stepOnce_51 _ hf)
    · replace hf := aw_ifp c6 hf
      refine aw_aload_n (pc' := 41) d_O_stepOnce_40 rfl rfl ?_
      obtain ⟨r8, hr8, hf⟩ := aw_bind hf
      refine aw_callVn (pc' := 44) (av := []) d_O_stepOnce_41 rfl wc_O_59 hC_19 (mO_stepByGreatest hr8) (Or.inl rfl) rfl (by decide) (Nat.le_of_ble_eq_true rfl) ⟨(Nat.le_refl 0), (Nat.le_refl 0)⟩ ?_
      refine aw_goto (tgt := 51) d_O_stepOnce_44 (by decide) ?_
      exact aw_weak [true, false] rfl (wO_stepOnce_51 _ hf)
  · replace hf := aw_ifp c5 hf
    refine aw_aload_n (pc' := 26) d_O_stepOnce_25 rfl rfl ?_
    obtain ⟨r9, hr9, hf⟩ := aw_bind hf
    refine aw_callVn (pc' := 29) (av := []) d_O_stepOnce_26 rfl wc_O_56 hC_19 (mO_stepByRank hr9) (Or.inl rfl) rfl (by decide) (Nat.le_of_ble_eq_true rfl) ⟨(Nat.le_refl 0), (Nat.le_refl 0)⟩ ?_
    refine aw_goto (tgt := 51) d_O_stepOnce_29 (by decide) ?_
    exact aw_weak [true, false] rfl (wO_stepOnce_51 _ hf)
set_option maxRecDepth 20000 in
theorem wO_advance_30 {N : Nat} {n : Nat} {r0 : (Int32 × me_M)} (l1 : Int32) (μ : me_M) (hf : fO_advance_30 N n l1 μ = some r0) : AW "ArcTape$Scores" "advance" c_O_advance 3 (some .int) 4 2 0 0 (aw_is (some (.int r0.1)) (hC n r0.2)) 30 [none, some (.int l1), none] [] (hC n μ) 0 0 := by
  unfold fO_advance_30 at hf
  refine aw_iload_n (pc' := 31) d_O_advance_30 rfl rfl ?_
  cases hf
  exact aw_ireturn rfl d_O_advance_31 (Nat.le_refl 0) (Nat.le_refl 0) ⟨rfl, rfl⟩
set_option maxRecDepth 20000 in
theorem wO_advance_2b {N : Nat} {n : Nat} {r0 : (Int32 × me_M)} {k2 : Int32 → Int32 → me_M → Option (Int32 × me_M)} (hk2 : ∀ (l1 : Int32) (l2 : Int32) (μ : me_M), k2 l1 l2 μ = some r0 → AW "ArcTape$Scores" "advance" c_O_advance 3 (some .int) 4 2 0 0 (aw_is (some (.int r0.1)) (hC n r0.2)) 2 [some (.ref 19), some (.int l1), some (.int l2)] [] (hC n μ) 0 0) (l1 : Int32) (l2 : Int32) (μ : me_M) (hf : fO_advance_2b N n k2 l1 l2 μ = some r0) : AW "ArcTape$Scores" "advance" c_O_advance 3 (some .int) 4 2 0 0 (aw_is (some (.int r0.1)) (hC n r0.2)) 2 [some (.ref 19), some (.int l1), some (.int l2)] [] (hC n μ) 0 0 := by
  unfold fO_advance_2b at hf
  refine aw_iload_n (pc' := 3) d_O_advance_2 rfl rfl ?_
  refine aw_iload_n (pc' := 4) d_O_advance_3 rfl rfl ?_
  refine aw_icmp_ge (tgt := 30) (pc' := 7) d_O_advance_4 (by decide) rfl (fun c1 => ?_) (fun c1 => ?_)
  · replace hf := aw_ifp c1 hf
    exact aw_weak [false, true, false] rfl (wO_advance_30 _ _ hf)
  · replace hf := aw_ifn c1 hf
    refine aw_aload_n (pc' := 8) d_O_advance_7 rfl rfl ?_
    obtain ⟨r2, hr2, hf⟩ := aw_bind hf
    refine aw_callVn (pc' := 11) (av := []) d_O_advance_8 rfl wc_O_47 hC_19 (mO_stepOnce hr2) (Or.inr rfl) rfl (by decide) (Nat.le_of_ble_eq_true rfl) ⟨(Nat.le_refl 0), (Nat.le_refl 0)⟩ ?_
    refine aw_aload_n (pc' := 12) d_O_advance_11 rfl rfl ?_
    refine aw_get (pc' := 15) d_O_advance_12 rfl fl_O_35 hC_19 rfl ?_
    refine aw_lconst (pc' := 16) d_O_advance_15 rfl kc_lc_0 ?_
    refine aw_lcmp (pc' := 17) d_O_advance_16 rfl ?_
    refine aw_if_ne (tgt := 24) (pc' := 20) d_O_advance_17 (by decide) rfl (fun c3 => ?_) (fun c3 => ?_)
    · replace hf := aw_ifn c3 hf
      refine aw_iinc (pc' := 27) (L' := [some (.ref 19), some (.int l1), some (.int (l2 + (1 : Int32)))]) d_O_advance_24 rfl kc_ic_1 rfl (by decide) rfl ?_
      refine aw_goto (tgt := 2) d_O_advance_27 (by decide) ?_
      exact aw_weak [true, true, true] rfl (hk2 _ _ _ hf)
    · replace hf := aw_ifp c3 hf
      refine aw_iload_n (pc' := 21) d_O_advance_20 rfl rfl ?_
      refine aw_iconst (pc' := 22) d_O_advance_21 rfl kc_ic_1 ?_
      refine aw_iadd (pc' := 23) d_O_advance_22 rfl ?_
      cases hf
      exact aw_ireturn rfl d_O_advance_23 (Nat.le_refl 0) (Nat.le_refl 0) ⟨rfl, rfl⟩
set_option maxRecDepth 20000 in
theorem wO_advance_2 {N : Nat} {n : Nat} {r0 : (Int32 × me_M)} : ∀ (F : Nat) (l1 : Int32) (l2 : Int32) (μ : me_M) (hf : fO_advance_2 N n F l1 l2 μ = some r0), AW "ArcTape$Scores" "advance" c_O_advance 3 (some .int) 4 2 0 0 (aw_is (some (.int r0.1)) (hC n r0.2)) 2 [some (.ref 19), some (.int l1), some (.int l2)] [] (hC n μ) 0 0 := by
  intro F
  induction F with
  | zero => intro l1 l2 μ hf; exact aw_no hf
  | succ F ih => intro l1 l2 μ hf; exact wO_advance_2b ih l1 l2 μ hf
set_option maxRecDepth 20000 in
theorem mO_advance {N : Nat} {n : Nat} {μ : me_M} {r0 : (Int32 × me_M)} {l1 : Int32} (hf : fO_advance N n l1 μ = some r0) : AM y_O_advance c_O_advance 3 (some .int) 4 2 0 0 [.ref 19, .int l1] (hC n μ) (aw_is (some (.int r0.1)) (hC n r0.2)) := by
  unfold fO_advance at hf
  refine AM.of (own := "ArcTape$Scores") (nm := "advance") (L := [some (.ref 19), some (.int l1), none]) rfl rfl (by decide) (Nat.le_of_ble_eq_true rfl) rfl ?_
  refine aw_iconst (pc' := 1) d_O_advance_0 rfl kc_ic_0 ?_
  refine aw_istore_n (pc' := 2) (L' := [some (.ref 19), some (.int l1), some (.int (0 : Int32))]) d_O_advance_1 rfl (by decide) rfl ?_
  exact aw_weak [true, true, true] rfl (wO_advance_2 _ _ _ _ hf)
set_option maxRecDepth 20000 in
theorem wA_step_22 {N : Nat} {n : Nat} {r0 : (Int32 × me_M)} (s0 : Int32) (μ : me_M) (hf : fA_step_22 N n s0 μ = some r0) : AW "ArcTape" "step" c_A_step 2 (some .int) 5 2 0 0 (aw_is (some (.int r0.1)) (hC n r0.2)) 22 [none, none] [.int s0] (hC n μ) 0 0 := by
  unfold fA_step_22 at hf
  cases hf
  exact aw_ireturn rfl d_A_step_22 (Nat.le_refl 0) (Nat.le_refl 0) ⟨rfl, rfl⟩
set_option maxRecDepth 20000 in
theorem mA_step {N : Nat} {n : Nat} {μ : me_M} {r0 : (Int32 × me_M)} {l1 : Int32} (hf : fA_step N n l1 μ = some r0) : AM y_A_step c_A_step 2 (some .int) 5 2 0 0 [.ref 0, .int l1] (hC n μ) (aw_is (some (.int r0.1)) (hC n r0.2)) := by
  unfold fA_step at hf
  refine AM.of (own := "ArcTape") (nm := "step") (L := [some (.ref 0), some (.int l1)]) rfl rfl (by decide) (Nat.le_of_ble_eq_true rfl) rfl ?_
  refine aw_iload_n (pc' := 1) d_A_step_0 rfl rfl ?_
  refine aw_iconst (pc' := 2) d_A_step_1 rfl kc_ic_0 ?_
  refine aw_bipush (pc' := 4) d_A_step_2 rfl kc_bi_20 ?_
  obtain ⟨r1, hr1, hf⟩ := aw_bind hf
  refine aw_callSv (pc' := 7) (av := [.int l1, .int (0 : Int32), .int (20 : Int32)]) d_A_step_4 rfl wc_A_97 (mA_within hr1) (Or.inl rfl) rfl (by decide) (Nat.le_of_ble_eq_true rfl) ⟨(Nat.le_refl 0), (Nat.le_refl 0)⟩ ?_
  refine aw_if_eq (tgt := 21) (pc' := 10) d_A_step_7 (by decide) rfl (fun c2 => ?_) (fun c2 => ?_)
  · replace hf := aw_ifp c2 hf
    refine aw_iconst (pc' := 22) d_A_step_21 rfl kc_ic_m1 ?_
    exact aw_weak [false, false] rfl (wA_step_22 _ _ hf)
  · replace hf := aw_ifn c2 hf
    refine aw_aload_n (pc' := 11) d_A_step_10 rfl rfl ?_
    refine aw_get (pc' := 14) d_A_step_11 rfl fl_A_75 hC_0 rfl ?_
    refine aw_iload_n (pc' := 15) d_A_step_14 rfl rfl ?_
    obtain ⟨r3, hr3, hf⟩ := aw_bind hf
    refine aw_callVv (pc' := 18) (av := [.int l1]) d_A_step_15 rfl wc_A_151 hC_19 (mO_advance hr3) (Or.inr rfl) rfl (by decide) (Nat.le_of_ble_eq_true rfl) ⟨(Nat.le_refl 0), (Nat.le_refl 0)⟩ ?_
    refine aw_goto (tgt := 22) d_A_step_18 (by decide) ?_
    exact aw_weak [false, false] rfl (wA_step_22 _ _ hf)
set_option maxRecDepth 20000 in
theorem wA_score_23 {N : Nat} {n : Nat} {μ : me_M} {r0 : Int64} (s0 : Int64) (hf : fA_score_23 N n μ s0 = some r0) : AW "ArcTape" "score" c_A_score 2 (some .long) 2 0 0 0 (aw_is (some (.long r0)) (hC n μ)) 23 [none, none] [.long s0] (hC n μ) 0 0 := by
  unfold fA_score_23 at hf
  cases hf
  exact aw_lreturn rfl d_A_score_23 (Nat.le_refl 0) (Nat.le_refl 0) ⟨rfl, rfl⟩
set_option maxRecDepth 20000 in
theorem mA_score {N : Nat} {n : Nat} {μ : me_M} {r0 : Int64} {l1 : Int32} (hf : fA_score N n μ l1 = some r0) : AM y_A_score c_A_score 2 (some .long) 2 0 0 0 [.ref 0, .int l1] (hC n μ) (aw_is (some (.long r0)) (hC n μ)) := by
  unfold fA_score at hf
  refine AM.of (own := "ArcTape") (nm := "score") (L := [some (.ref 0), some (.int l1)]) rfl rfl (by decide) (Nat.le_of_ble_eq_true rfl) rfl ?_
  refine aw_aload_n (pc' := 1) d_A_score_0 rfl rfl ?_
  refine aw_iload_n (pc' := 2) d_A_score_1 rfl rfl ?_
  obtain ⟨r1, hr1, hf⟩ := aw_bind hf
  refine aw_callVv (pc' := 5) (av := [.int l1]) d_A_score_2 rfl wc_A_89 hC_0 (mA_isNode hr1) (Or.inl rfl) rfl (by decide) (Nat.le_of_ble_eq_true rfl) ⟨(Nat.le_refl 0), (Nat.le_refl 0)⟩ ?_
  refine aw_if_eq (tgt := 20) (pc' := 8) d_A_score_5 (by decide) rfl (fun c2 => ?_) (fun c2 => ?_)
  · replace hf := aw_ifp c2 hf
    refine aw_ldc2 (pc' := 23) d_A_score_20 rfl wk_A_157 ?_
    exact aw_weak [false, false] rfl (wA_score_23 _ hf)
  · replace hf := aw_ifn c2 hf
    refine aw_aload_n (pc' := 9) d_A_score_8 rfl rfl ?_
    refine aw_get (pc' := 12) d_A_score_9 rfl fl_A_75 hC_0 rfl ?_
    refine aw_get (pc' := 15) d_A_score_12 rfl fl_A_154 hC_19 rfl ?_
    refine aw_iload_n (pc' := 16) d_A_score_15 rfl rfl ?_
    obtain ⟨g3, hf⟩ := aw_gi hf
    refine aw_lald (pc' := 17) d_A_score_16 rfl rfl hC_20 g3 ?_
    refine aw_goto (tgt := 23) d_A_score_17 (by decide) ?_
    exact aw_weak [false, false] rfl (wA_score_23 _ hf)
set_option maxRecDepth 20000 in
theorem wA_hub_23 {N : Nat} {n : Nat} {μ : me_M} {r0 : Int64} (s0 : Int64) (hf : fA_hub_23 N n μ s0 = some r0) : AW "ArcTape" "hub" c_A_hub 2 (some .long) 2 0 0 0 (aw_is (some (.long r0)) (hC n μ)) 23 [none, none] [.long s0] (hC n μ) 0 0 := by
  unfold fA_hub_23 at hf
  cases hf
  exact aw_lreturn rfl d_A_hub_23 (Nat.le_refl 0) (Nat.le_refl 0) ⟨rfl, rfl⟩
set_option maxRecDepth 20000 in
theorem mA_hub {N : Nat} {n : Nat} {μ : me_M} {r0 : Int64} {l1 : Int32} (hf : fA_hub N n μ l1 = some r0) : AM y_A_hub c_A_hub 2 (some .long) 2 0 0 0 [.ref 0, .int l1] (hC n μ) (aw_is (some (.long r0)) (hC n μ)) := by
  unfold fA_hub at hf
  refine AM.of (own := "ArcTape") (nm := "hub") (L := [some (.ref 0), some (.int l1)]) rfl rfl (by decide) (Nat.le_of_ble_eq_true rfl) rfl ?_
  refine aw_aload_n (pc' := 1) d_A_hub_0 rfl rfl ?_
  refine aw_iload_n (pc' := 2) d_A_hub_1 rfl rfl ?_
  obtain ⟨r1, hr1, hf⟩ := aw_bind hf
  refine aw_callVv (pc' := 5) (av := [.int l1]) d_A_hub_2 rfl wc_A_89 hC_0 (mA_isNode hr1) (Or.inl rfl) rfl (by decide) (Nat.le_of_ble_eq_true rfl) ⟨(Nat.le_refl 0), (Nat.le_refl 0)⟩ ?_
  refine aw_if_eq (tgt := 20) (pc' := 8) d_A_hub_5 (by decide) rfl (fun c2 => ?_) (fun c2 => ?_)
  · replace hf := aw_ifp c2 hf
    refine aw_ldc2 (pc' := 23) d_A_hub_20 rfl wk_A_157 ?_
    exact aw_weak [false, false] rfl (wA_hub_23 _ hf)
  · replace hf := aw_ifn c2 hf
    refine aw_aload_n (pc' := 9) d_A_hub_8 rfl rfl ?_
    refine aw_get (pc' := 12) d_A_hub_9 rfl fl_A_75 hC_0 rfl ?_
    refine aw_get (pc' := 15) d_A_hub_12 rfl fl_A_159 hC_19 rfl ?_
    refine aw_iload_n (pc' := 16) d_A_hub_15 rfl rfl ?_
    obtain ⟨g3, hf⟩ := aw_gi hf
    refine aw_lald (pc' := 17) d_A_hub_16 rfl rfl hC_21 g3 ?_
    refine aw_goto (tgt := 23) d_A_hub_17 (by decide) ?_
    exact aw_weak [false, false] rfl (wA_hub_23 _ hf)
set_option maxRecDepth 20000 in
theorem wO_placeOf_59 {N : Nat} {n : Nat} {μ : me_M} {r0 : Int32} (l2 : Int32) (hf : fO_placeOf_59 N n μ l2 = some r0) : AW "ArcTape$Scores" "placeOf" c_O_placeOf 4 (some .int) 0 0 0 0 (aw_is (some (.int r0)) (hC n μ)) 59 [none, none, some (.int l2), none] [] (hC n μ) 0 0 := by
  unfold fO_placeOf_59 at hf
  refine aw_iload_n (pc' := 60) d_O_placeOf_59 rfl rfl ?_
  cases hf
  exact aw_ireturn rfl d_O_placeOf_60 (Nat.le_refl 0) (Nat.le_refl 0) ⟨rfl, rfl⟩
set_option maxRecDepth 20000 in
theorem wO_placeOf_53 {N : Nat} {n : Nat} {μ : me_M} {r0 : Int32} {k4 : Int32 → Int32 → Int32 → Option Int32} (hk4 : ∀ (l1 : Int32) (l2 : Int32) (l3 : Int32), k4 l1 l2 l3 = some r0 → AW "ArcTape$Scores" "placeOf" c_O_placeOf 4 (some .int) 0 0 0 0 (aw_is (some (.int r0)) (hC n μ)) 4 [some (.ref 19), some (.int l1), some (.int l2), some (.int l3)] [] (hC n μ) 0 0) (l1 : Int32) (l2 : Int32) (l3 : Int32) (hf : fO_placeOf_53 N n μ k4 l1 l2 l3 = some r0) : AW "ArcTape$Scores" "placeOf" c_O_placeOf 4 (some .int) 0 0 0 0 (aw_is (some (.int r0)) (hC n μ)) 53 [some (.ref 19), some (.int l1), some (.int l2), some (.int l3)] [] (hC n μ) 0 0 := by
  unfold fO_placeOf_53 at hf
  refine aw_iinc (pc' := 56) (L' := [some (.ref 19), some (.int l1), some (.int l2), some (.int (l3 + (1 : Int32)))]) d_O_placeOf_53 rfl kc_ic_1 rfl (by decide) rfl ?_
  refine aw_goto (tgt := 4) d_O_placeOf_56 (by decide) ?_
  exact aw_weak [true, true, true, true] rfl (hk4 _ _ _ hf)
set_option maxRecDepth 20000 in
theorem wO_placeOf_50 {N : Nat} {n : Nat} {μ : me_M} {r0 : Int32} {k4 : Int32 → Int32 → Int32 → Option Int32} (hk4 : ∀ (l1 : Int32) (l2 : Int32) (l3 : Int32), k4 l1 l2 l3 = some r0 → AW "ArcTape$Scores" "placeOf" c_O_placeOf 4 (some .int) 0 0 0 0 (aw_is (some (.int r0)) (hC n μ)) 4 [some (.ref 19), some (.int l1), some (.int l2), some (.int l3)] [] (hC n μ) 0 0) (l1 : Int32) (l2 : Int32) (l3 : Int32) (hf : fO_placeOf_50 N n μ k4 l1 l2 l3 = some r0) : AW "ArcTape$Scores" "placeOf" c_O_placeOf 4 (some .int) 0 0 0 0 (aw_is (some (.int r0)) (hC n μ)) 50 [some (.ref 19), some (.int l1), some (.int l2), some (.int l3)] [] (hC n μ) 0 0 := by
  unfold fO_placeOf_50 at hf
  refine aw_iinc (pc' := 53) (L' := [some (.ref 19), some (.int l1), some (.int (l2 + (1 : Int32))), some (.int l3)]) d_O_placeOf_50 rfl kc_ic_1 rfl (by decide) rfl ?_
  exact aw_weak [true, true, true, true] rfl (wO_placeOf_53 hk4 _ _ _ hf)
set_option maxRecDepth 20000 in
theorem wO_placeOf_4b {N : Nat} {n : Nat} {μ : me_M} {r0 : Int32} {k4 : Int32 → Int32 → Int32 → Option Int32} (hk4 : ∀ (l1 : Int32) (l2 : Int32) (l3 : Int32), k4 l1 l2 l3 = some r0 → AW "ArcTape$Scores" "placeOf" c_O_placeOf 4 (some .int) 0 0 0 0 (aw_is (some (.int r0)) (hC n μ)) 4 [some (.ref 19), some (.int l1), some (.int l2), some (.int l3)] [] (hC n μ) 0 0) (l1 : Int32) (l2 : Int32) (l3 : Int32) (hf : fO_placeOf_4b N n μ k4 l1 l2 l3 = some r0) : AW "ArcTape$Scores" "placeOf" c_O_placeOf 4 (some .int) 0 0 0 0 (aw_is (some (.int r0)) (hC n μ)) 4 [some (.ref 19), some (.int l1), some (.int l2), some (.int l3)] [] (hC n μ) 0 0 := by
  unfold fO_placeOf_4b at hf
  refine aw_iload_n (pc' := 5) d_O_placeOf_4 rfl rfl ?_
  refine aw_aload_n (pc' := 6) d_O_placeOf_5 rfl rfl ?_
  refine aw_get (pc' := 9) d_O_placeOf_6 rfl fl_O_9 hC_19 rfl ?_
  refine aw_alen (pc' := 10) d_O_placeOf_9 rfl rfl hC_12 ?_
  refine aw_icmp_ge (tgt := 59) (pc' := 13) d_O_placeOf_10 (by decide) rfl (fun c1 => ?_) (fun c1 => ?_)
  · replace hf := aw_ifp c1 hf
    exact aw_weak [false, false, true, false] rfl (wO_placeOf_59 _ hf)
  · replace hf := aw_ifn c1 hf
    refine aw_aload_n (pc' := 14) d_O_placeOf_13 rfl rfl ?_
    refine aw_get (pc' := 17) d_O_placeOf_14 rfl fl_O_15 hC_19 rfl ?_
    refine aw_iload_n (pc' := 18) d_O_placeOf_17 rfl rfl ?_
    obtain ⟨g2, hf⟩ := aw_gi hf
    refine aw_lald (pc' := 19) d_O_placeOf_18 rfl rfl hC_20 g2 ?_
    refine aw_aload_n (pc' := 20) d_O_placeOf_19 rfl rfl ?_
    refine aw_get (pc' := 23) d_O_placeOf_20 rfl fl_O_15 hC_19 rfl ?_
    refine aw_iload_n (pc' := 24) d_O_placeOf_23 rfl rfl ?_
    obtain ⟨g3, hf⟩ := aw_gi hf
    refine aw_lald (pc' := 25) d_O_placeOf_24 rfl rfl hC_20 g3 ?_
    refine aw_lcmp (pc' := 26) d_O_placeOf_25 rfl ?_
    refine aw_if_gt (tgt := 50) (pc' := 29) d_O_placeOf_26 (by decide) rfl (fun c4 => ?_) (fun c4 => ?_)
    · replace hf := aw_ifp c4 hf
      exact aw_weak [true, true, true, true] rfl (wO_placeOf_50 hk4 _ _ _ hf)
    · replace hf := aw_ifn c4 hf
      refine aw_aload_n (pc' := 30) d_O_placeOf_29 rfl rfl ?_
      refine aw_get (pc' := 33) d_O_placeOf_30 rfl fl_O_15 hC_19 rfl ?_
      refine aw_iload_n (pc' := 34) d_O_placeOf_33 rfl rfl ?_
      obtain ⟨g5, hf⟩ := aw_gi hf
      refine aw_lald (pc' := 35) d_O_placeOf_34 rfl rfl hC_20 g5 ?_
      refine aw_aload_n (pc' := 36) d_O_placeOf_35 rfl rfl ?_
      refine aw_get (pc' := 39) d_O_placeOf_36 rfl fl_O_15 hC_19 rfl ?_
      refine aw_iload_n (pc' := 40) d_O_placeOf_39 rfl rfl ?_
      obtain ⟨g6, hf⟩ := aw_gi hf
      refine aw_lald (pc' := 41) d_O_placeOf_40 rfl rfl hC_20 g6 ?_
      refine aw_lcmp (pc' := 42) d_O_placeOf_41 rfl ?_
      refine aw_if_ne (tgt := 53) (pc' := 45) d_O_placeOf_42 (by decide) rfl (fun c7 => ?_) (fun c7 => ?_)
      · replace hf := aw_ifn c7 hf
        exact aw_weak [true, true, true, true] rfl (wO_placeOf_53 hk4 _ _ _ hf)
      · replace hf := aw_ifp c7 hf
        refine aw_iload_n (pc' := 46) d_O_placeOf_45 rfl rfl ?_
        refine aw_iload_n (pc' := 47) d_O_placeOf_46 rfl rfl ?_
        refine aw_icmp_ge (tgt := 53) (pc' := 50) d_O_placeOf_47 (by decide) rfl (fun c8 => ?_) (fun c8 => ?_)
        · replace hf := aw_ifp c8 hf
          exact aw_weak [true, true, true, true] rfl (wO_placeOf_53 hk4 _ _ _ hf)
        · replace hf := aw_ifn c8 hf
          exact aw_weak [true, true, true, true] rfl (wO_placeOf_50 hk4 _ _ _ hf)
set_option maxRecDepth 20000 in
theorem wO_placeOf_4 {N : Nat} {n : Nat} {μ : me_M} {r0 : Int32} : ∀ (F : Nat) (l1 : Int32) (l2 : Int32) (l3 : Int32) (hf : fO_placeOf_4 N n μ F l1 l2 l3 = some r0), AW "ArcTape$Scores" "placeOf" c_O_placeOf 4 (some .int) 0 0 0 0 (aw_is (some (.int r0)) (hC n μ)) 4 [some (.ref 19), some (.int l1), some (.int l2), some (.int l3)] [] (hC n μ) 0 0 := by
  intro F
  induction F with
  | zero => intro l1 l2 l3 hf; exact aw_no hf
  | succ F ih => intro l1 l2 l3 hf; exact wO_placeOf_4b ih l1 l2 l3 hf
set_option maxRecDepth 20000 in
theorem mO_placeOf {N : Nat} {n : Nat} {μ : me_M} {r0 : Int32} {l1 : Int32} (hf : fO_placeOf N n μ l1 = some r0) : AM y_O_placeOf c_O_placeOf 4 (some .int) 0 0 0 0 [.ref 19, .int l1] (hC n μ) (aw_is (some (.int r0)) (hC n μ)) := by
  unfold fO_placeOf at hf
  refine AM.of (own := "ArcTape$Scores") (nm := "placeOf") (L := [some (.ref 19), some (.int l1), none, none]) rfl rfl (by decide) (Nat.le_of_ble_eq_true rfl) rfl ?_
  refine aw_iconst (pc' := 1) d_O_placeOf_0 rfl kc_ic_0 ?_
  refine aw_istore_n (pc' := 2) (L' := [some (.ref 19), some (.int l1), some (.int (0 : Int32)), none]) d_O_placeOf_1 rfl (by decide) rfl ?_
  refine aw_iconst (pc' := 3) d_O_placeOf_2 rfl kc_ic_0 ?_
  refine aw_istore_n (pc' := 4) (L' := [some (.ref 19), some (.int l1), some (.int (0 : Int32)), some (.int (0 : Int32))]) d_O_placeOf_3 rfl (by decide) rfl ?_
  exact aw_weak [true, true, true, true] rfl (wO_placeOf_4 _ _ _ _ hf)
set_option maxRecDepth 20000 in
theorem wA_top_30 {N : Nat} {n : Nat} {μ : me_M} {r0 : Int32} (hf : fA_top_30 N n μ = some r0) : AW "ArcTape" "top" c_A_top 3 (some .int) 1 0 0 0 (aw_is (some (.int r0)) (hC n μ)) 30 [none, none, none] [] (hC n μ) 0 0 := by
  unfold fA_top_30 at hf
  refine aw_iconst (pc' := 31) d_A_top_30 rfl kc_ic_m1 ?_
  cases hf
  exact aw_ireturn rfl d_A_top_31 (Nat.le_refl 0) (Nat.le_refl 0) ⟨rfl, rfl⟩
set_option maxRecDepth 20000 in
theorem wA_top_2b {N : Nat} {n : Nat} {μ : me_M} {r0 : Int32} {k2 : Int32 → Int32 → Option Int32} (hk2 : ∀ (l1 : Int32) (l2 : Int32), k2 l1 l2 = some r0 → AW "ArcTape" "top" c_A_top 3 (some .int) 1 0 0 0 (aw_is (some (.int r0)) (hC n μ)) 2 [some (.ref 0), some (.int l1), some (.int l2)] [] (hC n μ) 0 0) (l1 : Int32) (l2 : Int32) (hf : fA_top_2b N n μ k2 l1 l2 = some r0) : AW "ArcTape" "top" c_A_top 3 (some .int) 1 0 0 0 (aw_is (some (.int r0)) (hC n μ)) 2 [some (.ref 0), some (.int l1), some (.int l2)] [] (hC n μ) 0 0 := by
  unfold fA_top_2b at hf
  refine aw_iload_n (pc' := 3) d_A_top_2 rfl rfl ?_
  refine aw_aload_n (pc' := 4) d_A_top_3 rfl rfl ?_
  refine aw_get (pc' := 7) d_A_top_4 rfl fl_A_18 hC_0 rfl ?_
  refine aw_icmp_ge (tgt := 30) (pc' := 10) d_A_top_7 (by decide) rfl (fun c1 => ?_) (fun c1 => ?_)
  · replace hf := aw_ifp c1 hf
    exact aw_weak [false, false, false] rfl (wA_top_30  hf)
  · replace hf := aw_ifn c1 hf
    refine aw_aload_n (pc' := 11) d_A_top_10 rfl rfl ?_
    refine aw_get (pc' := 14) d_A_top_11 rfl fl_A_75 hC_0 rfl ?_
    refine aw_iload_n (pc' := 15) d_A_top_14 rfl rfl ?_
    obtain ⟨r2, hr2, hf⟩ := aw_bind hf
    refine aw_callVv (pc' := 18) (av := [.int l2]) d_A_top_15 rfl wc_A_162 hC_19 (mO_placeOf hr2) (Or.inl rfl) rfl (by decide) (Nat.le_of_ble_eq_true rfl) ⟨(Nat.le_refl 0), (Nat.le_refl 0)⟩ ?_
    refine aw_iload_n (pc' := 19) d_A_top_18 rfl rfl ?_
    refine aw_icmp_ne (tgt := 24) (pc' := 22) d_A_top_19 (by decide) rfl (fun c3 => ?_) (fun c3 => ?_)
    · replace hf := aw_ifn c3 hf
      refine aw_iinc (pc' := 27) (L' := [some (.ref 0), some (.int l1), some (.int (l2 + (1 : Int32)))]) d_A_top_24 rfl kc_ic_1 rfl (by decide) rfl ?_
      refine aw_goto (tgt := 2) d_A_top_27 (by decide) ?_
      exact aw_weak [true, true, true] rfl (hk2 _ _ hf)
    · replace hf := aw_ifp c3 hf
      refine aw_iload_n (pc' := 23) d_A_top_22 rfl rfl ?_
      cases hf
      exact aw_ireturn rfl d_A_top_23 (Nat.le_refl 0) (Nat.le_refl 0) ⟨rfl, rfl⟩
set_option maxRecDepth 20000 in
theorem wA_top_2 {N : Nat} {n : Nat} {μ : me_M} {r0 : Int32} : ∀ (F : Nat) (l1 : Int32) (l2 : Int32) (hf : fA_top_2 N n μ F l1 l2 = some r0), AW "ArcTape" "top" c_A_top 3 (some .int) 1 0 0 0 (aw_is (some (.int r0)) (hC n μ)) 2 [some (.ref 0), some (.int l1), some (.int l2)] [] (hC n μ) 0 0 := by
  intro F
  induction F with
  | zero => intro l1 l2 hf; exact aw_no hf
  | succ F ih => intro l1 l2 hf; exact wA_top_2b ih l1 l2 hf
set_option maxRecDepth 20000 in
theorem mA_top {N : Nat} {n : Nat} {μ : me_M} {r0 : Int32} {l1 : Int32} (hf : fA_top N n μ l1 = some r0) : AM y_A_top c_A_top 3 (some .int) 1 0 0 0 [.ref 0, .int l1] (hC n μ) (aw_is (some (.int r0)) (hC n μ)) := by
  unfold fA_top at hf
  refine AM.of (own := "ArcTape") (nm := "top") (L := [some (.ref 0), some (.int l1), none]) rfl rfl (by decide) (Nat.le_of_ble_eq_true rfl) rfl ?_
  refine aw_iconst (pc' := 1) d_A_top_0 rfl kc_ic_0 ?_
  refine aw_istore_n (pc' := 2) (L' := [some (.ref 0), some (.int l1), some (.int (0 : Int32))]) d_A_top_1 rfl (by decide) rfl ?_
  exact aw_weak [true, true, true] rfl (wA_top_2 _ _ _ hf)
set_option maxRecDepth 20000 in
theorem mA_change {N : Nat} {n : Nat} {μ : me_M} {r0 : Int64} (hf : fA_change N n μ = some r0) : AM y_A_change c_A_change 1 (some .long) 0 0 0 0 [.ref 0] (hC n μ) (aw_is (some (.long r0)) (hC n μ)) := by
  unfold fA_change at hf
  refine AM.of (own := "ArcTape") (nm := "change") (L := [some (.ref 0)]) rfl rfl (by decide) (Nat.le_of_ble_eq_true rfl) rfl ?_
  refine aw_aload_n (pc' := 1) d_A_change_0 rfl rfl ?_
  refine aw_get (pc' := 4) d_A_change_1 rfl fl_A_75 hC_0 rfl ?_
  refine aw_get (pc' := 7) d_A_change_4 rfl fl_A_165 hC_19 rfl ?_
  cases hf
  exact aw_lreturn rfl d_A_change_7 (Nat.le_refl 0) (Nat.le_refl 0) ⟨rfl, rfl⟩
set_option maxRecDepth 20000 in
theorem wM_ones_24 {N : Nat} {h0 : aw_H} {r0 : Int32} (l1 : Int32) (hf : fM_ones_24 N l1 = some r0) : AW "ArcTapeModel" "ones" c_M_ones 3 (some .int) 0 0 0 0 (aw_is (some (.int r0)) h0) 24 [none, some (.int l1), none] [] h0 0 0 := by
  unfold fM_ones_24 at hf
  refine aw_iload_n (pc' := 25) d_M_ones_24 rfl rfl ?_
  cases hf
  exact aw_ireturn rfl d_M_ones_25 (Nat.le_refl 0) (Nat.le_refl 0) ⟨rfl, rfl⟩
set_option maxRecDepth 20000 in
theorem wM_ones_4b {N : Nat} {h0 : aw_H} {r0 : Int32} {k4 : Int32 → Int32 → Int32 → Option Int32} (hk4 : ∀ (l0 : Int32) (l1 : Int32) (l2 : Int32), k4 l0 l1 l2 = some r0 → AW "ArcTapeModel" "ones" c_M_ones 3 (some .int) 0 0 0 0 (aw_is (some (.int r0)) h0) 4 [some (.int l0), some (.int l1), some (.int l2)] [] h0 0 0) (l0 : Int32) (l1 : Int32) (l2 : Int32) (hf : fM_ones_4b N k4 l0 l1 l2 = some r0) : AW "ArcTapeModel" "ones" c_M_ones 3 (some .int) 0 0 0 0 (aw_is (some (.int r0)) h0) 4 [some (.int l0), some (.int l1), some (.int l2)] [] h0 0 0 := by
  unfold fM_ones_4b at hf
  refine aw_iload_n (pc' := 5) d_M_ones_4 rfl rfl ?_
  refine aw_bipush (pc' := 7) d_M_ones_5 rfl kc_bi_12 ?_
  refine aw_icmp_ge (tgt := 24) (pc' := 10) d_M_ones_7 (by decide) rfl (fun c1 => ?_) (fun c1 => ?_)
  · replace hf := aw_ifp c1 hf
    exact aw_weak [false, true, false] rfl (wM_ones_24 _ hf)
  · replace hf := aw_ifn c1 hf
    refine aw_iload_n (pc' := 11) d_M_ones_10 rfl rfl ?_
    refine aw_iload_n (pc' := 12) d_M_ones_11 rfl rfl ?_
    refine aw_iload_n (pc' := 13) d_M_ones_12 rfl rfl ?_
    refine aw_ishr (pc' := 14) d_M_ones_13 rfl ?_
    refine aw_iconst (pc' := 15) d_M_ones_14 rfl kc_ic_1 ?_
    refine aw_iand (pc' := 16) d_M_ones_15 rfl ?_
    refine aw_iadd (pc' := 17) d_M_ones_16 rfl ?_
    refine aw_istore_n (pc' := 18) (L' := [some (.int l0), some (.int (l1 + ((l0 >>> (l2 &&& 31)) &&& (1 : Int32)))), some (.int l2)]) d_M_ones_17 rfl (by decide) rfl ?_
    refine aw_iinc (pc' := 21) (L' := [some (.int l0), some (.int (l1 + ((l0 >>> (l2 &&& 31)) &&& (1 : Int32)))), some (.int (l2 + (1 : Int32)))]) d_M_ones_18 rfl kc_ic_1 rfl (by decide) rfl ?_
    refine aw_goto (tgt := 4) d_M_ones_21 (by decide) ?_
    exact aw_weak [true, true, true] rfl (hk4 _ _ _ hf)
set_option maxRecDepth 20000 in
theorem wM_ones_4 {N : Nat} {h0 : aw_H} {r0 : Int32} : ∀ (F : Nat) (l0 : Int32) (l1 : Int32) (l2 : Int32) (hf : fM_ones_4 N F l0 l1 l2 = some r0), AW "ArcTapeModel" "ones" c_M_ones 3 (some .int) 0 0 0 0 (aw_is (some (.int r0)) h0) 4 [some (.int l0), some (.int l1), some (.int l2)] [] h0 0 0 := by
  intro F
  induction F with
  | zero => intro l0 l1 l2 hf; exact aw_no hf
  | succ F ih => intro l0 l1 l2 hf; exact wM_ones_4b ih l0 l1 l2 hf
set_option maxRecDepth 20000 in
theorem mM_ones {N : Nat} {h0 : aw_H} {r0 : Int32} {l0 : Int32} (hf : fM_ones N l0 = some r0) : AM y_M_ones c_M_ones 3 (some .int) 0 0 0 0 [.int l0] h0 (aw_is (some (.int r0)) h0) := by
  unfold fM_ones at hf
  refine AM.of (own := "ArcTapeModel") (nm := "ones") (L := [some (.int l0), none, none]) rfl rfl (by decide) (Nat.le_of_ble_eq_true rfl) rfl ?_
  refine aw_iconst (pc' := 1) d_M_ones_0 rfl kc_ic_0 ?_
  refine aw_istore_n (pc' := 2) (L' := [some (.int l0), some (.int (0 : Int32)), none]) d_M_ones_1 rfl (by decide) rfl ?_
  refine aw_iconst (pc' := 3) d_M_ones_2 rfl kc_ic_0 ?_
  refine aw_istore_n (pc' := 4) (L' := [some (.int l0), some (.int (0 : Int32)), some (.int (0 : Int32))]) d_M_ones_3 rfl (by decide) rfl ?_
  exact aw_weak [true, true, true] rfl (wM_ones_4 _ _ _ _ hf)
set_option maxRecDepth 20000 in
theorem mM_put {N : Nat} {μ : me_M} {r0 : me_M} {l1 : Int32} (hf : fM_put N l1 μ = some r0) : AM y_M_put c_M_put 2 none 0 0 0 0 [.ref 0, .int l1] (hM  μ) (aw_is none (hM  r0)) := by
  unfold fM_put at hf
  refine AM.of (own := "ArcTapeModel") (nm := "put") (L := [some (.ref 0), some (.int l1)]) rfl rfl (by decide) (Nat.le_of_ble_eq_true rfl) rfl ?_
  refine aw_aload_n (pc' := 1) d_M_put_0 rfl rfl ?_
  refine aw_get (pc' := 4) d_M_put_1 rfl fl_M_13 hM_0 rfl ?_
  refine aw_aload_n (pc' := 5) d_M_put_4 rfl rfl ?_
  refine aw_get (pc' := 8) d_M_put_5 rfl fl_M_72 hM_0 rfl ?_
  refine aw_iload_n (pc' := 9) d_M_put_8 rfl rfl ?_
  obtain ⟨g1, hf⟩ := aw_gi hf
  refine aw_iast (pc' := 10) (h' := (hM  (me_wi μ 2 (μ.1 103 0).toNatClampNeg l1))) d_M_put_9 rfl rfl hM_2 g1 rfl ?_
  refine aw_aload_n (pc' := 11) d_M_put_10 rfl rfl ?_
  refine aw_dup (pc' := 12) d_M_put_11 rfl rfl ?_
  refine aw_get (pc' := 15) d_M_put_12 rfl fl_M_72 hM_0 rfl ?_
  refine aw_iconst (pc' := 16) d_M_put_15 rfl kc_ic_1 ?_
  refine aw_iadd (pc' := 17) d_M_put_16 rfl ?_
  refine aw_puti (pc' := 20) (h' := (hM  (me_wi (me_wi μ 2 (μ.1 103 0).toNatClampNeg l1) 103 0 (((me_wi μ 2 (μ.1 103 0).toNatClampNeg l1).1 103 0) + (1 : Int32))))) d_M_put_17 rfl fp_M_72 hM_0 (Nat.le_of_ble_eq_true rfl) rfl ?_
  cases hf
  exact aw_return rfl d_M_put_20 (Nat.le_refl 0) (Nat.le_refl 0) ⟨rfl, rfl⟩
set_option maxRecDepth 20000 in
theorem wM_putUnary_18 {N : Nat} {r0 : me_M} (μ : me_M) (hf : fM_putUnary_18 N μ = some r0) : AW "ArcTapeModel" "putUnary" c_M_putUnary 3 none 1 0 0 0 (aw_is none (hM  r0)) 18 [some (.ref 0), none, none] [] (hM  μ) 0 0 := by
  unfold fM_putUnary_18 at hf
  refine aw_aload_n (pc' := 19) d_M_putUnary_18 rfl rfl ?_
  refine aw_iconst (pc' := 20) d_M_putUnary_19 rfl kc_ic_1 ?_
  obtain ⟨r1, hr1, hf⟩ := aw_bind hf
  refine aw_callVn (pc' := 23) (av := [.int (1 : Int32)]) d_M_putUnary_20 rfl wc_M_75 hM_0 (mM_put hr1) (Or.inl rfl) rfl (by decide) (Nat.le_of_ble_eq_true rfl) ⟨(Nat.le_refl 0), (Nat.le_refl 0)⟩ ?_
  cases hf
  exact aw_return rfl d_M_putUnary_23 (Nat.le_refl 0) (Nat.le_refl 0) ⟨rfl, rfl⟩
set_option maxRecDepth 20000 in
theorem wM_putUnary_2b {N : Nat} {r0 : me_M} {k2 : Int32 → Int32 → me_M → Option me_M} (hk2 : ∀ (l1 : Int32) (l2 : Int32) (μ : me_M), k2 l1 l2 μ = some r0 → AW "ArcTapeModel" "putUnary" c_M_putUnary 3 none 1 0 0 0 (aw_is none (hM  r0)) 2 [some (.ref 0), some (.int l1), some (.int l2)] [] (hM  μ) 0 0) (l1 : Int32) (l2 : Int32) (μ : me_M) (hf : fM_putUnary_2b N k2 l1 l2 μ = some r0) : AW "ArcTapeModel" "putUnary" c_M_putUnary 3 none 1 0 0 0 (aw_is none (hM  r0)) 2 [some (.ref 0), some (.int l1), some (.int l2)] [] (hM  μ) 0 0 := by
  unfold fM_putUnary_2b at hf
  refine aw_iload_n (pc' := 3) d_M_putUnary_2 rfl rfl ?_
  refine aw_iload_n (pc' := 4) d_M_putUnary_3 rfl rfl ?_
  refine aw_icmp_ge (tgt := 18) (pc' := 7) d_M_putUnary_4 (by decide) rfl (fun c2 => ?_) (fun c2 => ?_)
  · replace hf := aw_ifp c2 hf
    exact aw_weak [true, false, false] rfl (wM_putUnary_18 _ hf)
  · replace hf := aw_ifn c2 hf
    refine aw_aload_n (pc' := 8) d_M_putUnary_7 rfl rfl ?_
    refine aw_iconst (pc' := 9) d_M_putUnary_8 rfl kc_ic_0 ?_
    obtain ⟨r3, hr3, hf⟩ := aw_bind hf
    refine aw_callVn (pc' := 12) (av := [.int (0 : Int32)]) d_M_putUnary_9 rfl wc_M_75 hM_0 (mM_put hr3) (Or.inl rfl) rfl (by decide) (Nat.le_of_ble_eq_true rfl) ⟨(Nat.le_refl 0), (Nat.le_refl 0)⟩ ?_
    refine aw_iinc (pc' := 15) (L' := [some (.ref 0), some (.int l1), some (.int (l2 + (1 : Int32)))]) d_M_putUnary_12 rfl kc_ic_1 rfl (by decide) rfl ?_
    refine aw_goto (tgt := 2) d_M_putUnary_15 (by decide) ?_
    exact aw_weak [true, true, true] rfl (hk2 _ _ _ hf)
set_option maxRecDepth 20000 in
theorem wM_putUnary_2 {N : Nat} {r0 : me_M} : ∀ (F : Nat) (l1 : Int32) (l2 : Int32) (μ : me_M) (hf : fM_putUnary_2 N F l1 l2 μ = some r0), AW "ArcTapeModel" "putUnary" c_M_putUnary 3 none 1 0 0 0 (aw_is none (hM  r0)) 2 [some (.ref 0), some (.int l1), some (.int l2)] [] (hM  μ) 0 0 := by
  intro F
  induction F with
  | zero => intro l1 l2 μ hf; exact aw_no hf
  | succ F ih => intro l1 l2 μ hf; exact wM_putUnary_2b ih l1 l2 μ hf
set_option maxRecDepth 20000 in
theorem mM_putUnary {N : Nat} {μ : me_M} {r0 : me_M} {l1 : Int32} (hf : fM_putUnary N l1 μ = some r0) : AM y_M_putUnary c_M_putUnary 3 none 1 0 0 0 [.ref 0, .int l1] (hM  μ) (aw_is none (hM  r0)) := by
  unfold fM_putUnary at hf
  refine AM.of (own := "ArcTapeModel") (nm := "putUnary") (L := [some (.ref 0), some (.int l1), none]) rfl rfl (by decide) (Nat.le_of_ble_eq_true rfl) rfl ?_
  refine aw_iconst (pc' := 1) d_M_putUnary_0 rfl kc_ic_0 ?_
  refine aw_istore_n (pc' := 2) (L' := [some (.ref 0), some (.int l1), some (.int (0 : Int32))]) d_M_putUnary_1 rfl (by decide) rfl ?_
  exact aw_weak [true, true, true] rfl (wM_putUnary_2 _ _ _ _ hf)
set_option maxRecDepth 20000 in
theorem wM_putNumber_23 {N : Nat} {r0 : me_M} (μ : me_M) (hf : fM_putNumber_23 N μ = some r0) : AW "ArcTapeModel" "putNumber" c_M_putNumber 4 none 1 0 0 0 (aw_is none (hM  r0)) 23 [none, none, none, none] [] (hM  μ) 0 0 := by
  unfold fM_putNumber_23 at hf
  cases hf
  exact aw_return rfl d_M_putNumber_23 (Nat.le_refl 0) (Nat.le_refl 0) ⟨rfl, rfl⟩
set_option maxRecDepth 20000 in
theorem wM_putNumber_4b {N : Nat} {r0 : me_M} {k4 : Int32 → Int32 → me_M → Option me_M} (hk4 : ∀ (l1 : Int32) (l3 : Int32) (μ : me_M), k4 l1 l3 μ = some r0 → AW "ArcTapeModel" "putNumber" c_M_putNumber 4 none 1 0 0 0 (aw_is none (hM  r0)) 4 [some (.ref 0), some (.int l1), none, some (.int l3)] [] (hM  μ) 0 0) (l1 : Int32) (l3 : Int32) (μ : me_M) (hf : fM_putNumber_4b N k4 l1 l3 μ = some r0) : AW "ArcTapeModel" "putNumber" c_M_putNumber 4 none 1 0 0 0 (aw_is none (hM  r0)) 4 [some (.ref 0), some (.int l1), none, some (.int l3)] [] (hM  μ) 0 0 := by
  unfold fM_putNumber_4b at hf
  refine aw_iload_n (pc' := 5) d_M_putNumber_4 rfl rfl ?_
  refine aw_if_lt (tgt := 23) (pc' := 8) d_M_putNumber_5 (by decide) rfl (fun c1 => ?_) (fun c1 => ?_)
  · replace hf := aw_ifp c1 hf
    exact aw_weak [false, false, false, false] rfl (wM_putNumber_23 _ hf)
  · replace hf := aw_ifn c1 hf
    refine aw_aload_n (pc' := 9) d_M_putNumber_8 rfl rfl ?_
    refine aw_iload_n (pc' := 10) d_M_putNumber_9 rfl rfl ?_
    refine aw_iload_n (pc' := 11) d_M_putNumber_10 rfl rfl ?_
    refine aw_ishr (pc' := 12) d_M_putNumber_11 rfl ?_
    refine aw_iconst (pc' := 13) d_M_putNumber_12 rfl kc_ic_1 ?_
    refine aw_iand (pc' := 14) d_M_putNumber_13 rfl ?_
    obtain ⟨r2, hr2, hf⟩ := aw_bind hf
    refine aw_callVn (pc' := 17) (av := [.int ((l1 >>> (l3 &&& 31)) &&& (1 : Int32))]) d_M_putNumber_14 rfl wc_M_75 hM_0 (mM_put hr2) (Or.inl rfl) rfl (by decide) (Nat.le_of_ble_eq_true rfl) ⟨(Nat.le_refl 0), (Nat.le_refl 0)⟩ ?_
    refine aw_iinc (pc' := 20) (L' := [some (.ref 0), some (.int l1), none, some (.int (l3 + (-1 : Int32)))]) d_M_putNumber_17 rfl kc_ic_m1 rfl (by decide) rfl ?_
    refine aw_goto (tgt := 4) d_M_putNumber_20 (by decide) ?_
    exact aw_weak [true, true, false, true] rfl (hk4 _ _ _ hf)
set_option maxRecDepth 20000 in
theorem wM_putNumber_4 {N : Nat} {r0 : me_M} : ∀ (F : Nat) (l1 : Int32) (l3 : Int32) (μ : me_M) (hf : fM_putNumber_4 N F l1 l3 μ = some r0), AW "ArcTapeModel" "putNumber" c_M_putNumber 4 none 1 0 0 0 (aw_is none (hM  r0)) 4 [some (.ref 0), some (.int l1), none, some (.int l3)] [] (hM  μ) 0 0 := by
  intro F
  induction F with
  | zero => intro l1 l3 μ hf; exact aw_no hf
  | succ F ih => intro l1 l3 μ hf; exact wM_putNumber_4b ih l1 l3 μ hf
set_option maxRecDepth 20000 in
theorem mM_putNumber {N : Nat} {μ : me_M} {r0 : me_M} {l1 : Int32} {l2 : Int32} (hf : fM_putNumber N l1 l2 μ = some r0) : AM y_M_putNumber c_M_putNumber 4 none 1 0 0 0 [.ref 0, .int l1, .int l2] (hM  μ) (aw_is none (hM  r0)) := by
  unfold fM_putNumber at hf
  refine AM.of (own := "ArcTapeModel") (nm := "putNumber") (L := [some (.ref 0), some (.int l1), some (.int l2), none]) rfl rfl (by decide) (Nat.le_of_ble_eq_true rfl) rfl ?_
  refine aw_iload_n (pc' := 1) d_M_putNumber_0 rfl rfl ?_
  refine aw_iconst (pc' := 2) d_M_putNumber_1 rfl kc_ic_1 ?_
  refine aw_isub (pc' := 3) d_M_putNumber_2 rfl ?_
  refine aw_istore_n (pc' := 4) (L' := [some (.ref 0), some (.int l1), some (.int l2), some (.int (l2 - (1 : Int32)))]) d_M_putNumber_3 rfl (by decide) rfl ?_
  exact aw_weak [true, true, false, true] rfl (wM_putNumber_4 _ _ _ _ hf)
set_option maxRecDepth 20000 in
theorem wM_putGamma_25 {N : Nat} {r0 : me_M} (l1 : Int32) (l2 : Int32) (μ : me_M) (hf : fM_putGamma_25 N l1 l2 μ = some r0) : AW "ArcTapeModel" "putGamma" c_M_putGamma 3 none 2 0 0 0 (aw_is none (hM  r0)) 25 [some (.ref 0), some (.int l1), some (.int l2)] [] (hM  μ) 0 0 := by
  unfold fM_putGamma_25 at hf
  refine aw_aload_n (pc' := 26) d_M_putGamma_25 rfl rfl ?_
  refine aw_iload_n (pc' := 27) d_M_putGamma_26 rfl rfl ?_
  obtain ⟨r1, hr1, hf⟩ := aw_bind hf
  refine aw_callVn (pc' := 30) (av := [.int l2]) d_M_putGamma_27 rfl wc_M_79 hM_0 (mM_putUnary hr1) (Or.inl rfl) rfl (by decide) (Nat.le_of_ble_eq_true rfl) ⟨(Nat.le_refl 0), (Nat.le_refl 0)⟩ ?_
  refine aw_aload_n (pc' := 31) d_M_putGamma_30 rfl rfl ?_
  refine aw_iload_n (pc' := 32) d_M_putGamma_31 rfl rfl ?_
  refine aw_iconst (pc' := 33) d_M_putGamma_32 rfl kc_ic_1 ?_
  refine aw_iadd (pc' := 34) d_M_putGamma_33 rfl ?_
  refine aw_iload_n (pc' := 35) d_M_putGamma_34 rfl rfl ?_
  obtain ⟨r2, hr2, hf⟩ := aw_bind hf
  refine aw_callVn (pc' := 38) (av := [.int (l1 + (1 : Int32)), .int l2]) d_M_putGamma_35 rfl wc_M_82 hM_0 (mM_putNumber hr2) (Or.inl rfl) rfl (by decide) (Nat.le_of_ble_eq_true rfl) ⟨(Nat.le_refl 0), (Nat.le_refl 0)⟩ ?_
  cases hf
  exact aw_return rfl d_M_putGamma_38 (Nat.le_refl 0) (Nat.le_refl 0) ⟨rfl, rfl⟩
set_option maxRecDepth 20000 in
theorem wM_putGamma_2b {N : Nat} {r0 : me_M} {k2 : Int32 → Int32 → me_M → Option me_M} (hk2 : ∀ (l1 : Int32) (l2 : Int32) (μ : me_M), k2 l1 l2 μ = some r0 → AW "ArcTapeModel" "putGamma" c_M_putGamma 3 none 2 0 0 0 (aw_is none (hM  r0)) 2 [some (.ref 0), some (.int l1), some (.int l2)] [] (hM  μ) 0 0) (l1 : Int32) (l2 : Int32) (μ : me_M) (hf : fM_putGamma_2b N k2 l1 l2 μ = some r0) : AW "ArcTapeModel" "putGamma" c_M_putGamma 3 none 2 0 0 0 (aw_is none (hM  r0)) 2 [some (.ref 0), some (.int l1), some (.int l2)] [] (hM  μ) 0 0 := by
  unfold fM_putGamma_2b at hf
  refine aw_iload_n (pc' := 3) d_M_putGamma_2 rfl rfl ?_
  refine aw_bipush (pc' := 5) d_M_putGamma_3 rfl kc_bi_20 ?_
  refine aw_icmp_ge (tgt := 25) (pc' := 8) d_M_putGamma_5 (by decide) rfl (fun c3 => ?_) (fun c3 => ?_)
  · replace hf := aw_ifp c3 hf
    exact aw_weak [true, true, true] rfl (wM_putGamma_25 _ _ _ hf)
  · replace hf := aw_ifn c3 hf
    refine aw_iconst (pc' := 9) d_M_putGamma_8 rfl kc_ic_1 ?_
    refine aw_iload_n (pc' := 10) d_M_putGamma_9 rfl rfl ?_
    refine aw_iconst (pc' := 11) d_M_putGamma_10 rfl kc_ic_1 ?_
    refine aw_iadd (pc' := 12) d_M_putGamma_11 rfl ?_
    refine aw_ishl (pc' := 13) d_M_putGamma_12 rfl ?_
    refine aw_iload_n (pc' := 14) d_M_putGamma_13 rfl rfl ?_
    refine aw_iconst (pc' := 15) d_M_putGamma_14 rfl kc_ic_1 ?_
    refine aw_iadd (pc' := 16) d_M_putGamma_15 rfl ?_
    refine aw_icmp_gt (tgt := 25) (pc' := 19) d_M_putGamma_16 (by decide) rfl (fun c4 => ?_) (fun c4 => ?_)
    · replace hf := aw_ifp c4 hf
      exact aw_weak [true, true, true] rfl (wM_putGamma_25 _ _ _ hf)
    · replace hf := aw_ifn c4 hf
      refine aw_iinc (pc' := 22) (L' := [some (.ref 0), some (.int l1), some (.int (l2 + (1 : Int32)))]) d_M_putGamma_19 rfl kc_ic_1 rfl (by decide) rfl ?_
      refine aw_goto (tgt := 2) d_M_putGamma_22 (by decide) ?_
      exact aw_weak [true, true, true] rfl (hk2 _ _ _ hf)
set_option maxRecDepth 20000 in
theorem wM_putGamma_2 {N : Nat} {r0 : me_M} : ∀ (F : Nat) (l1 : Int32) (l2 : Int32) (μ : me_M) (hf : fM_putGamma_2 N F l1 l2 μ = some r0), AW "ArcTapeModel" "putGamma" c_M_putGamma 3 none 2 0 0 0 (aw_is none (hM  r0)) 2 [some (.ref 0), some (.int l1), some (.int l2)] [] (hM  μ) 0 0 := by
  intro F
  induction F with
  | zero => intro l1 l2 μ hf; exact aw_no hf
  | succ F ih => intro l1 l2 μ hf; exact wM_putGamma_2b ih l1 l2 μ hf
set_option maxRecDepth 20000 in
theorem mM_putGamma {N : Nat} {μ : me_M} {r0 : me_M} {l1 : Int32} (hf : fM_putGamma N l1 μ = some r0) : AM y_M_putGamma c_M_putGamma 3 none 2 0 0 0 [.ref 0, .int l1] (hM  μ) (aw_is none (hM  r0)) := by
  unfold fM_putGamma at hf
  refine AM.of (own := "ArcTapeModel") (nm := "putGamma") (L := [some (.ref 0), some (.int l1), none]) rfl rfl (by decide) (Nat.le_of_ble_eq_true rfl) rfl ?_
  refine aw_iconst (pc' := 1) d_M_putGamma_0 rfl kc_ic_0 ?_
  refine aw_istore_n (pc' := 2) (L' := [some (.ref 0), some (.int l1), some (.int (0 : Int32))]) d_M_putGamma_1 rfl (by decide) rfl ?_
  exact aw_weak [true, true, true] rfl (wM_putGamma_2 _ _ _ _ hf)
set_option maxRecDepth 20000 in
theorem wM_putRuns_117 {N : Nat} {r0 : me_M} (μ : me_M) (hf : fM_putRuns_117 N μ = some r0) : AW "ArcTapeModel" "putRuns" c_M_putRuns 7 none 3 0 0 0 (aw_is none (hM  r0)) 117 [none, none, none, none, none, none, none] [] (hM  μ) 0 0 := by
  unfold fM_putRuns_117 at hf
  cases hf
  exact aw_return rfl d_M_putRuns_117 (Nat.le_refl 0) (Nat.le_refl 0) ⟨rfl, rfl⟩
set_option maxRecDepth 20000 in
theorem wM_putRuns_108 {N : Nat} {r0 : me_M} {k78 : Int32 → Int32 → me_M → Option me_M} (hk78 : ∀ (l3 : Int32) (l6 : Int32) (μ : me_M), k78 l3 l6 μ = some r0 → AW "ArcTapeModel" "putRuns" c_M_putRuns 7 none 3 0 0 0 (aw_is none (hM  r0)) 78 [some (.ref 0), none, none, some (.int l3), none, none, some (.int l6)] [] (hM  μ) 0 0) (l3 : Int32) (l6 : Int32) (s1 : Int32) (μ : me_M) (hf : fM_putRuns_108 N k78 l3 l6 s1 μ = some r0) : AW "ArcTapeModel" "putRuns" c_M_putRuns 7 none 3 0 0 0 (aw_is none (hM  r0)) 108 [some (.ref 0), none, none, some (.int l3), none, none, some (.int l6)] [.int s1, .ref 0] (hM  μ) 0 0 := by
  unfold fM_putRuns_108 at hf
  obtain ⟨r1, hr1, hf⟩ := aw_bind hf
  refine aw_callVn (pc' := 111) (av := [.int s1]) d_M_putRuns_108 rfl wc_M_89 hM_0 (mM_putGamma hr1) (Or.inl rfl) rfl (by decide) (Nat.le_of_ble_eq_true rfl) ⟨(Nat.le_refl 0), (Nat.le_refl 0)⟩ ?_
  refine aw_iinc (pc' := 114) (L' := [some (.ref 0), none, none, some (.int l3), none, none, some (.int (l6 + (1 : Int32)))]) d_M_putRuns_111 rfl kc_ic_1 rfl (by decide) rfl ?_
  refine aw_goto (tgt := 78) d_M_putRuns_114 (by decide) ?_
  exact aw_weak [true, false, false, true, false, false, true] rfl (hk78 _ _ _ hf)
set_option maxRecDepth 20000 in
theorem wM_putRuns_78b {N : Nat} {r0 : me_M} {k78 : Int32 → Int32 → me_M → Option me_M} (hk78 : ∀ (l3 : Int32) (l6 : Int32) (μ : me_M), k78 l3 l6 μ = some r0 → AW "ArcTapeModel" "putRuns" c_M_putRuns 7 none 3 0 0 0 (aw_is none (hM  r0)) 78 [some (.ref 0), none, none, some (.int l3), none, none, some (.int l6)] [] (hM  μ) 0 0) (l3 : Int32) (l6 : Int32) (μ : me_M) (hf : fM_putRuns_78b N k78 l3 l6 μ = some r0) : AW "ArcTapeModel" "putRuns" c_M_putRuns 7 none 3 0 0 0 (aw_is none (hM  r0)) 78 [some (.ref 0), none, none, some (.int l3), none, none, some (.int l6)] [] (hM  μ) 0 0 := by
  unfold fM_putRuns_78b at hf
  refine aw_iload (pc' := 80) d_M_putRuns_78 rfl rfl ?_
  refine aw_iload_n (pc' := 81) d_M_putRuns_80 rfl rfl ?_
  refine aw_icmp_ge (tgt := 117) (pc' := 84) d_M_putRuns_81 (by decide) rfl (fun c2 => ?_) (fun c2 => ?_)
  · replace hf := aw_ifp c2 hf
    exact aw_weak [false, false, false, false, false, false, false] rfl (wM_putRuns_117 _ hf)
  · replace hf := aw_ifn c2 hf
    refine aw_aload_n (pc' := 85) d_M_putRuns_84 rfl rfl ?_
    refine aw_iload (pc' := 87) d_M_putRuns_85 rfl rfl ?_
    refine aw_if_ne (tgt := 99) (pc' := 90) d_M_putRuns_87 (by decide) rfl (fun c3 => ?_) (fun c3 => ?_)
    · replace hf := aw_ifn c3 hf
      refine aw_aload_n (pc' := 100) d_M_putRuns_99 rfl rfl ?_
      refine aw_get (pc' := 103) d_M_putRuns_100 rfl fl_M_22 hM_0 rfl ?_
      refine aw_iload (pc' := 105) d_M_putRuns_103 rfl rfl ?_
      obtain ⟨g4, hf⟩ := aw_gi hf
      refine aw_iald (pc' := 106) d_M_putRuns_105 rfl rfl hM_5 g4 ?_
      refine aw_iconst (pc' := 107) d_M_putRuns_106 rfl kc_ic_1 ?_
      refine aw_isub (pc' := 108) d_M_putRuns_107 rfl ?_
      exact aw_weak [true, false, false, true, false, false, true] rfl (wM_putRuns_108 hk78 _ _ _ _ hf)
    · replace hf := aw_ifp c3 hf
      refine aw_aload_n (pc' := 91) d_M_putRuns_90 rfl rfl ?_
      refine aw_get (pc' := 94) d_M_putRuns_91 rfl fl_M_22 hM_0 rfl ?_
      refine aw_iconst (pc' := 95) d_M_putRuns_94 rfl kc_ic_0 ?_
      obtain ⟨g5, hf⟩ := aw_gi hf
      refine aw_iald (pc' := 96) d_M_putRuns_95 rfl rfl hM_5 g5 ?_
      refine aw_goto (tgt := 108) d_M_putRuns_96 (by decide) ?_
      exact aw_weak [true, false, false, true, false, false, true] rfl (wM_putRuns_108 hk78 _ _ _ _ hf)
set_option maxRecDepth 20000 in
theorem wM_putRuns_78 {N : Nat} {r0 : me_M} : ∀ (F : Nat) (l3 : Int32) (l6 : Int32) (μ : me_M) (hf : fM_putRuns_78 N F l3 l6 μ = some r0), AW "ArcTapeModel" "putRuns" c_M_putRuns 7 none 3 0 0 0 (aw_is none (hM  r0)) 78 [some (.ref 0), none, none, some (.int l3), none, none, some (.int l6)] [] (hM  μ) 0 0 := by
  intro F
  induction F with
  | zero => intro l3 l6 μ hf; exact aw_no hf
  | succ F ih => intro l3 l6 μ hf; exact wM_putRuns_78b ih l3 l6 μ hf
set_option maxRecDepth 20000 in
theorem wM_putRuns_70 {N : Nat} {r0 : me_M} (l3 : Int32) (μ : me_M) (hf : fM_putRuns_70 N l3 μ = some r0) : AW "ArcTapeModel" "putRuns" c_M_putRuns 7 none 3 0 0 0 (aw_is none (hM  r0)) 70 [some (.ref 0), none, none, some (.int l3), none, none, none] [] (hM  μ) 0 0 := by
  unfold fM_putRuns_70 at hf
  refine aw_aload_n (pc' := 71) d_M_putRuns_70 rfl rfl ?_
  refine aw_iload_n (pc' := 72) d_M_putRuns_71 rfl rfl ?_
  obtain ⟨r6, hr6, hf⟩ := aw_bind hf
  refine aw_callVn (pc' := 75) (av := [.int l3]) d_M_putRuns_72 rfl wc_M_89 hM_0 (mM_putGamma hr6) (Or.inl rfl) rfl (by decide) (Nat.le_of_ble_eq_true rfl) ⟨(Nat.le_refl 0), (Nat.le_refl 0)⟩ ?_
  refine aw_iconst (pc' := 76) d_M_putRuns_75 rfl kc_ic_0 ?_
  refine aw_istore (pc' := 78) (L' := [some (.ref 0), none, none, some (.int l3), none, none, some (.int (0 : Int32))]) d_M_putRuns_76 rfl (by decide) rfl ?_
  exact aw_weak [true, false, false, true, false, false, true] rfl (wM_putRuns_78 _ _ _ _ hf)
set_option maxRecDepth 20000 in
theorem wM_putRuns_64 {N : Nat} {r0 : me_M} {k11 : Int32 → Int32 → Int32 → Int32 → Int32 → Int32 → me_M → Option me_M} (hk11 : ∀ (l1 : Int32) (l2 : Int32) (l3 : Int32) (l4 : Int32) (l5 : Int32) (l6 : Int32) (μ : me_M), k11 l1 l2 l3 l4 l5 l6 μ = some r0 → AW "ArcTapeModel" "putRuns" c_M_putRuns 7 none 3 0 0 0 (aw_is none (hM  r0)) 11 [some (.ref 0), some (.int l1), some (.int l2), some (.int l3), some (.int l4), some (.int l5), some (.int l6)] [] (hM  μ) 0 0) (l1 : Int32) (l2 : Int32) (l3 : Int32) (l4 : Int32) (l5 : Int32) (l6 : Int32) (μ : me_M) (hf : fM_putRuns_64 N k11 l1 l2 l3 l4 l5 l6 μ = some r0) : AW "ArcTapeModel" "putRuns" c_M_putRuns 7 none 3 0 0 0 (aw_is none (hM  r0)) 64 [some (.ref 0), some (.int l1), some (.int l2), some (.int l3), some (.int l4), some (.int l5), some (.int l6)] [] (hM  μ) 0 0 := by
  unfold fM_putRuns_64 at hf
  refine aw_iinc (pc' := 67) (L' := [some (.ref 0), some (.int l1), some (.int l2), some (.int l3), some (.int l4), some (.int l5), some (.int (l6 + (1 : Int32)))]) d_M_putRuns_64 rfl kc_ic_1 rfl (by decide) rfl ?_
  refine aw_goto (tgt := 11) d_M_putRuns_67 (by decide) ?_
  exact aw_weak [true, true, true, true, true, true, true] rfl (hk11 _ _ _ _ _ _ _ hf)
set_option maxRecDepth 20000 in
theorem wM_putRuns_61 {N : Nat} {r0 : me_M} {k11 : Int32 → Int32 → Int32 → Int32 → Int32 → Int32 → me_M → Option me_M} (hk11 : ∀ (l1 : Int32) (l2 : Int32) (l3 : Int32) (l4 : Int32) (l5 : Int32) (l6 : Int32) (μ : me_M), k11 l1 l2 l3 l4 l5 l6 μ = some r0 → AW "ArcTapeModel" "putRuns" c_M_putRuns 7 none 3 0 0 0 (aw_is none (hM  r0)) 11 [some (.ref 0), some (.int l1), some (.int l2), some (.int l3), some (.int l4), some (.int l5), some (.int l6)] [] (hM  μ) 0 0) (l1 : Int32) (l2 : Int32) (l3 : Int32) (l4 : Int32) (l5 : Int32) (l6 : Int32) (μ : me_M) (hf : fM_putRuns_61 N k11 l1 l2 l3 l4 l5 l6 μ = some r0) : AW "ArcTapeModel" "putRuns" c_M_putRuns 7 none 3 0 0 0 (aw_is none (hM  r0)) 61 [some (.ref 0), some (.int l1), some (.int l2), some (.int l3), some (.int l4), some (.int l5), some (.int l6)] [] (hM  μ) 0 0 := by
  unfold fM_putRuns_61 at hf
  refine aw_iinc (pc' := 64) (L' := [some (.ref 0), some (.int l1), some (.int l2), some (.int l3), some (.int l4), some (.int (l5 + (1 : Int32))), some (.int l6)]) d_M_putRuns_61 rfl kc_ic_1 rfl (by decide) rfl ?_
  exact aw_weak [true, true, true, true, true, true, true] rfl (wM_putRuns_64 hk11 _ _ _ _ _ _ _ hf)
set_option maxRecDepth 20000 in
theorem wM_putRuns_11b {N : Nat} {r0 : me_M} {k11 : Int32 → Int32 → Int32 → Int32 → Int32 → Int32 → me_M → Option me_M} (hk11 : ∀ (l1 : Int32) (l2 : Int32) (l3 : Int32) (l4 : Int32) (l5 : Int32) (l6 : Int32) (μ : me_M), k11 l1 l2 l3 l4 l5 l6 μ = some r0 → AW "ArcTapeModel" "putRuns" c_M_putRuns 7 none 3 0 0 0 (aw_is none (hM  r0)) 11 [some (.ref 0), some (.int l1), some (.int l2), some (.int l3), some (.int l4), some (.int l5), some (.int l6)] [] (hM  μ) 0 0) (l1 : Int32) (l2 : Int32) (l3 : Int32) (l4 : Int32) (l5 : Int32) (l6 : Int32) (μ : me_M) (hf : fM_putRuns_11b N k11 l1 l2 l3 l4 l5 l6 μ = some r0) : AW "ArcTapeModel" "putRuns" c_M_putRuns 7 none 3 0 0 0 (aw_is none (hM  r0)) 11 [some (.ref 0), some (.int l1), some (.int l2), some (.int l3), some (.int l4), some (.int l5), some (.int l6)] [] (hM  μ) 0 0 := by
  unfold fM_putRuns_11b at hf
  refine aw_iload (pc' := 13) d_M_putRuns_11 rfl rfl ?_
  refine aw_aload_n (pc' := 14) d_M_putRuns_13 rfl rfl ?_
  refine aw_get (pc' := 17) d_M_putRuns_14 rfl fl_M_56 hM_0 rfl ?_
  refine aw_icmp_ge (tgt := 70) (pc' := 20) d_M_putRuns_17 (by decide) rfl (fun c7 => ?_) (fun c7 => ?_)
  · replace hf := aw_ifp c7 hf
    exact aw_weak [true, false, false, true, false, false, false] rfl (wM_putRuns_70 _ _ hf)
  · replace hf := aw_ifn c7 hf
    refine aw_iload_n (pc' := 21) d_M_putRuns_20 rfl rfl ?_
    refine aw_iload (pc' := 23) d_M_putRuns_21 rfl rfl ?_
    refine aw_ishr (pc' := 24) d_M_putRuns_23 rfl ?_
    refine aw_iconst (pc' := 25) d_M_putRuns_24 rfl kc_ic_1 ?_
    refine aw_iand (pc' := 26) d_M_putRuns_25 rfl ?_
    refine aw_iconst (pc' := 27) d_M_putRuns_26 rfl kc_ic_1 ?_
    refine aw_icmp_ne (tgt := 64) (pc' := 30) d_M_putRuns_27 (by decide) rfl (fun c8 => ?_) (fun c8 => ?_)
    · replace hf := aw_ifn c8 hf
      exact aw_weak [true, true, true, true, true, true, true] rfl (wM_putRuns_64 hk11 _ _ _ _ _ _ _ hf)
    · replace hf := aw_ifp c8 hf
      refine aw_iload_n (pc' := 31) d_M_putRuns_30 rfl rfl ?_
      refine aw_iload (pc' := 33) d_M_putRuns_31 rfl rfl ?_
      refine aw_ishr (pc' := 34) d_M_putRuns_33 rfl ?_
      refine aw_iconst (pc' := 35) d_M_putRuns_34 rfl kc_ic_1 ?_
      refine aw_iand (pc' := 36) d_M_putRuns_35 rfl ?_
      refine aw_iload (pc' := 38) d_M_putRuns_36 rfl rfl ?_
      refine aw_icmp_eq (tgt := 61) (pc' := 41) d_M_putRuns_38 (by decide) rfl (fun c9 => ?_) (fun c9 => ?_)
      · replace hf := aw_ifp c9 hf
        exact aw_weak [true, true, true, true, true, true, true] rfl (wM_putRuns_61 hk11 _ _ _ _ _ _ _ hf)
      · replace hf := aw_ifn c9 hf
        refine aw_aload_n (pc' := 42) d_M_putRuns_41 rfl rfl ?_
        refine aw_get (pc' := 45) d_M_putRuns_42 rfl fl_M_22 hM_0 rfl ?_
        refine aw_iload_n (pc' := 46) d_M_putRuns_45 rfl rfl ?_
        refine aw_iload (pc' := 48) d_M_putRuns_46 rfl rfl ?_
        obtain ⟨g10, hf⟩ := aw_gi hf
        refine aw_iast (pc' := 49) (h' := (hM  (me_wi μ 5 l3.toNatClampNeg l5))) d_M_putRuns_48 rfl rfl hM_5 g10 rfl ?_
        refine aw_iinc (pc' := 52) (L' := [some (.ref 0), some (.int l1), some (.int l2), some (.int (l3 + (1 : Int32))), some (.int l4), some (.int l5), some (.int l6)]) d_M_putRuns_49 rfl kc_ic_1 rfl (by decide) rfl ?_
        refine aw_iconst (pc' := 53) d_M_putRuns_52 rfl kc_ic_1 ?_
        refine aw_iload (pc' := 55) d_M_putRuns_53 rfl rfl ?_
        refine aw_isub (pc' := 56) d_M_putRuns_55 rfl ?_
        refine aw_istore (pc' := 58) (L' := [some (.ref 0), some (.int l1), some (.int l2), some (.int (l3 + (1 : Int32))), some (.int ((1 : Int32) - l4)), some (.int l5), some (.int l6)]) d_M_putRuns_56 rfl (by decide) rfl ?_
        refine aw_iconst (pc' := 59) d_M_putRuns_58 rfl kc_ic_0 ?_
        refine aw_istore (pc' := 61) (L' := [some (.ref 0), some (.int l1), some (.int l2), some (.int (l3 + (1 : Int32))), some (.int ((1 : Int32) - l4)), some (.int (0 : Int32)), some (.int l6)]) d_M_putRuns_59 rfl (by decide) rfl ?_
        exact aw_weak [true, true, true, true, true, true, true] rfl (wM_putRuns_61 hk11 _ _ _ _ _ _ _ hf)
set_option maxRecDepth 20000 in
theorem wM_putRuns_11 {N : Nat} {r0 : me_M} : ∀ (F : Nat) (l1 : Int32) (l2 : Int32) (l3 : Int32) (l4 : Int32) (l5 : Int32) (l6 : Int32) (μ : me_M) (hf : fM_putRuns_11 N F l1 l2 l3 l4 l5 l6 μ = some r0), AW "ArcTapeModel" "putRuns" c_M_putRuns 7 none 3 0 0 0 (aw_is none (hM  r0)) 11 [some (.ref 0), some (.int l1), some (.int l2), some (.int l3), some (.int l4), some (.int l5), some (.int l6)] [] (hM  μ) 0 0 := by
  intro F
  induction F with
  | zero => intro l1 l2 l3 l4 l5 l6 μ hf; exact aw_no hf
  | succ F ih => intro l1 l2 l3 l4 l5 l6 μ hf; exact wM_putRuns_11b ih l1 l2 l3 l4 l5 l6 μ hf
set_option maxRecDepth 20000 in
theorem mM_putRuns {N : Nat} {μ : me_M} {r0 : me_M} {l1 : Int32} {l2 : Int32} (hf : fM_putRuns N l1 l2 μ = some r0) : AM y_M_putRuns c_M_putRuns 7 none 3 0 0 0 [.ref 0, .int l1, .int l2] (hM  μ) (aw_is none (hM  r0)) := by
  unfold fM_putRuns at hf
  refine AM.of (own := "ArcTapeModel") (nm := "putRuns") (L := [some (.ref 0), some (.int l1), some (.int l2), none, none, none, none]) rfl rfl (by decide) (Nat.le_of_ble_eq_true rfl) rfl ?_
  refine aw_iconst (pc' := 1) d_M_putRuns_0 rfl kc_ic_0 ?_
  refine aw_istore_n (pc' := 2) (L' := [some (.ref 0), some (.int l1), some (.int l2), some (.int (0 : Int32)), none, none, none]) d_M_putRuns_1 rfl (by decide) rfl ?_
  refine aw_iconst (pc' := 3) d_M_putRuns_2 rfl kc_ic_1 ?_
  refine aw_istore (pc' := 5) (L' := [some (.ref 0), some (.int l1), some (.int l2), some (.int (0 : Int32)), some (.int (1 : Int32)), none, none]) d_M_putRuns_3 rfl (by decide) rfl ?_
  refine aw_iconst (pc' := 6) d_M_putRuns_5 rfl kc_ic_0 ?_
  refine aw_istore (pc' := 8) (L' := [some (.ref 0), some (.int l1), some (.int l2), some (.int (0 : Int32)), some (.int (1 : Int32)), some (.int (0 : Int32)), none]) d_M_putRuns_6 rfl (by decide) rfl ?_
  refine aw_iconst (pc' := 9) d_M_putRuns_8 rfl kc_ic_0 ?_
  refine aw_istore (pc' := 11) (L' := [some (.ref 0), some (.int l1), some (.int l2), some (.int (0 : Int32)), some (.int (1 : Int32)), some (.int (0 : Int32)), some (.int (0 : Int32))]) d_M_putRuns_9 rfl (by decide) rfl ?_
  exact aw_weak [true, true, true, true, true, true, true] rfl (wM_putRuns_11 _ _ _ _ _ _ _ _ hf)
