set_option maxRecDepth 20000 in
theorem wD_nextBit_26 {N : Nat} {n : Nat} {r0 : (Int32 × me_M)} (μ : me_M) (hf : fD_nextBit_26 N n μ = some r0) : AW "ArcTape$Reader" "nextBit" c_D_nextBit 1 (some .int) 0 0 0 0 (aw_is (some (.int r0.1)) (hC n r0.2)) 26 [some (.ref 11)] [] (hC n μ) 0 0 := by
  unfold fD_nextBit_26 at hf
  refine aw_aload_n (pc' := 27) d_D_nextBit_26 rfl rfl ?_
  refine aw_get (pc' := 30) d_D_nextBit_27 rfl fl_D_45 hC_11 rfl ?_
  refine aw_if_eq (tgt := 35) (pc' := 33) d_D_nextBit_30 (by decide) rfl (fun c1 => ?_) (fun c1 => ?_)
  · replace hf := aw_ifp c1 hf
    refine aw_aload_n (pc' := 36) d_D_nextBit_35 rfl rfl ?_
    refine aw_dup (pc' := 37) d_D_nextBit_36 rfl rfl ?_
    refine aw_get (pc' := 40) d_D_nextBit_37 rfl fl_D_42 hC_11 rfl ?_
    refine aw_iconst (pc' := 41) d_D_nextBit_40 rfl kc_ic_1 ?_
    refine aw_iadd (pc' := 42) d_D_nextBit_41 rfl ?_
    refine aw_puti (pc' := 45) (h' := (hC n (me_wi μ 1208 0 ((μ.1 1208 0) + (1 : Int32))))) d_D_nextBit_42 rfl fp_D_42 hC_11 (Nat.le_of_ble_eq_true rfl) rfl ?_
    refine aw_aload_n (pc' := 46) d_D_nextBit_45 rfl rfl ?_
    refine aw_get (pc' := 49) d_D_nextBit_46 rfl fl_D_17 hC_11 rfl ?_
    refine aw_get (pc' := 52) d_D_nextBit_49 rfl fl_D_131 hC_2 rfl ?_
    refine aw_aload_n (pc' := 53) d_D_nextBit_52 rfl rfl ?_
    refine aw_get (pc' := 56) d_D_nextBit_53 rfl fl_D_42 hC_11 rfl ?_
    refine aw_iconst (pc' := 57) d_D_nextBit_56 rfl kc_ic_1 ?_
    refine aw_isub (pc' := 58) d_D_nextBit_57 rfl ?_
    obtain ⟨g2, hf⟩ := aw_gi hf
    refine aw_bald (pc' := 59) d_D_nextBit_58 rfl rfl hC_3 g2 ?_
    cases hf
    exact aw_ireturn rfl d_D_nextBit_59 (Nat.le_refl 0) (Nat.le_refl 0) ⟨rfl, rfl⟩
  · replace hf := aw_ifn c1 hf
    refine aw_iconst (pc' := 34) d_D_nextBit_33 rfl kc_ic_1 ?_
    cases hf
    exact aw_ireturn rfl d_D_nextBit_34 (Nat.le_refl 0) (Nat.le_refl 0) ⟨rfl, rfl⟩
set_option maxRecDepth 20000 in
theorem mD_nextBit {N : Nat} {n : Nat} {μ : me_M} {r0 : (Int32 × me_M)} (hf : fD_nextBit N n μ = some r0) : AM y_D_nextBit c_D_nextBit 1 (some .int) 0 0 0 0 [.ref 11] (hC n μ) (aw_is (some (.int r0.1)) (hC n r0.2)) := by
  unfold fD_nextBit at hf
  refine AM.of (own := "ArcTape$Reader") (nm := "nextBit") (L := [some (.ref 11)]) rfl rfl (by decide) (Nat.le_of_ble_eq_true rfl) rfl ?_
  refine aw_aload_n (pc' := 1) d_D_nextBit_0 rfl rfl ?_
  refine aw_get (pc' := 4) d_D_nextBit_1 rfl fl_D_45 hC_11 rfl ?_
  refine aw_if_ne (tgt := 26) (pc' := 7) d_D_nextBit_4 (by decide) rfl (fun c3 => ?_) (fun c3 => ?_)
  · replace hf := aw_ifn c3 hf
    exact aw_weak [true] rfl (wD_nextBit_26 _ hf)
  · replace hf := aw_ifp c3 hf
    refine aw_aload_n (pc' := 8) d_D_nextBit_7 rfl rfl ?_
    refine aw_get (pc' := 11) d_D_nextBit_8 rfl fl_D_42 hC_11 rfl ?_
    refine aw_aload_n (pc' := 12) d_D_nextBit_11 rfl rfl ?_
    refine aw_get (pc' := 15) d_D_nextBit_12 rfl fl_D_17 hC_11 rfl ?_
    refine aw_get (pc' := 18) d_D_nextBit_15 rfl fl_D_128 hC_2 rfl ?_
    refine aw_icmp_lt (tgt := 26) (pc' := 21) d_D_nextBit_18 (by decide) rfl (fun c4 => ?_) (fun c4 => ?_)
    · replace hf := aw_ifp c4 hf
      exact aw_weak [true] rfl (wD_nextBit_26 _ hf)
    · replace hf := aw_ifn c4 hf
      refine aw_aload_n (pc' := 22) d_D_nextBit_21 rfl rfl ?_
      refine aw_iconst (pc' := 23) d_D_nextBit_22 rfl kc_ic_1 ?_
      refine aw_puti (pc' := 26) (h' := (hC n (me_wi μ 1209 0 (1 : Int32)))) d_D_nextBit_23 rfl fp_D_45 hC_11 (Nat.le_of_ble_eq_true rfl) rfl ?_
      exact aw_weak [true] rfl (wD_nextBit_26 _ hf)
set_option maxRecDepth 20000 in
theorem wD_failIf_16 {N : Nat} {n : Nat} {r0 : me_M} (μ : me_M) (hf : fD_failIf_16 N n μ = some r0) : AW "ArcTape$Reader" "failIf" c_D_failIf 3 none 0 0 0 0 (aw_is none (hC n r0)) 16 [none, none, none] [] (hC n μ) 0 0 := by
  unfold fD_failIf_16 at hf
  cases hf
  exact aw_return rfl d_D_failIf_16 (Nat.le_refl 0) (Nat.le_refl 0) ⟨rfl, rfl⟩
set_option maxRecDepth 20000 in
theorem mD_failIf {N : Nat} {n : Nat} {μ : me_M} {r0 : me_M} {l1 : Int32} {l2 : Int32} (hf : fD_failIf N n l1 l2 μ = some r0) : AM y_D_failIf c_D_failIf 3 none 0 0 0 0 [.ref 11, .int l1, .int l2] (hC n μ) (aw_is none (hC n r0)) := by
  unfold fD_failIf at hf
  refine AM.of (own := "ArcTape$Reader") (nm := "failIf") (L := [some (.ref 11), some (.int l1), some (.int l2)]) rfl rfl (by decide) (Nat.le_of_ble_eq_true rfl) rfl ?_
  refine aw_iload_n (pc' := 1) d_D_failIf_0 rfl rfl ?_
  refine aw_if_eq (tgt := 16) (pc' := 4) d_D_failIf_1 (by decide) rfl (fun c1 => ?_) (fun c1 => ?_)
  · replace hf := aw_ifp c1 hf
    exact aw_weak [false, false, false] rfl (wD_failIf_16 _ hf)
  · replace hf := aw_ifn c1 hf
    refine aw_aload_n (pc' := 5) d_D_failIf_4 rfl rfl ?_
    refine aw_get (pc' := 8) d_D_failIf_5 rfl fl_D_45 hC_11 rfl ?_
    refine aw_if_ne (tgt := 16) (pc' := 11) d_D_failIf_8 (by decide) rfl (fun c2 => ?_) (fun c2 => ?_)
    · replace hf := aw_ifn c2 hf
      exact aw_weak [false, false, false] rfl (wD_failIf_16 _ hf)
    · replace hf := aw_ifp c2 hf
      refine aw_aload_n (pc' := 12) d_D_failIf_11 rfl rfl ?_
      refine aw_iload_n (pc' := 13) d_D_failIf_12 rfl rfl ?_
      refine aw_puti (pc' := 16) (h' := (hC n (me_wi μ 1209 0 l2))) d_D_failIf_13 rfl fp_D_45 hC_11 (Nat.le_of_ble_eq_true rfl) rfl ?_
      exact aw_weak [false, false, false] rfl (wD_failIf_16 _ hf)
set_option maxRecDepth 20000 in
theorem wD_nextUnary_24 {N : Nat} {n : Nat} {r0 : (Int32 × me_M)} (μ : me_M) (hf : fD_nextUnary_24 N n μ = some r0) : AW "ArcTape$Reader" "nextUnary" c_D_nextUnary 2 (some .int) 1 0 0 0 (aw_is (some (.int r0.1)) (hC n r0.2)) 24 [some (.ref 11), none] [] (hC n μ) 0 0 := by
  unfold fD_nextUnary_24 at hf
  refine aw_aload_n (pc' := 25) d_D_nextUnary_24 rfl rfl ?_
  refine aw_iconst (pc' := 26) d_D_nextUnary_25 rfl kc_ic_1 ?_
  refine aw_iconst (pc' := 27) d_D_nextUnary_26 rfl kc_ic_2 ?_
  obtain ⟨r1, hr1, hf⟩ := aw_bind hf
  refine aw_callVn (pc' := 30) (av := [.int (1 : Int32), .int (2 : Int32)]) d_D_nextUnary_27 rfl wc_D_68 hC_11 (mD_failIf hr1) (Or.inl rfl) rfl (by decide) (Nat.le_of_ble_eq_true rfl) ⟨(Nat.le_refl 0), (Nat.le_refl 0)⟩ ?_
  refine aw_iconst (pc' := 31) d_D_nextUnary_30 rfl kc_ic_0 ?_
  cases hf
  exact aw_ireturn rfl d_D_nextUnary_31 (Nat.le_refl 0) (Nat.le_refl 0) ⟨rfl, rfl⟩
set_option maxRecDepth 20000 in
theorem wD_nextUnary_2b {N : Nat} {n : Nat} {r0 : (Int32 × me_M)} {k2 : Int32 → me_M → Option (Int32 × me_M)} (hk2 : ∀ (l1 : Int32) (μ : me_M), k2 l1 μ = some r0 → AW "ArcTape$Reader" "nextUnary" c_D_nextUnary 2 (some .int) 1 0 0 0 (aw_is (some (.int r0.1)) (hC n r0.2)) 2 [some (.ref 11), some (.int l1)] [] (hC n μ) 0 0) (l1 : Int32) (μ : me_M) (hf : fD_nextUnary_2b N n k2 l1 μ = some r0) : AW "ArcTape$Reader" "nextUnary" c_D_nextUnary 2 (some .int) 1 0 0 0 (aw_is (some (.int r0.1)) (hC n r0.2)) 2 [some (.ref 11), some (.int l1)] [] (hC n μ) 0 0 := by
  unfold fD_nextUnary_2b at hf
  refine aw_iload_n (pc' := 3) d_D_nextUnary_2 rfl rfl ?_
  refine aw_bipush (pc' := 5) d_D_nextUnary_3 rfl kc_bi_7 ?_
  refine aw_icmp_ge (tgt := 24) (pc' := 8) d_D_nextUnary_5 (by decide) rfl (fun c2 => ?_) (fun c2 => ?_)
  · replace hf := aw_ifp c2 hf
    exact aw_weak [true, false] rfl (wD_nextUnary_24 _ hf)
  · replace hf := aw_ifn c2 hf
    refine aw_aload_n (pc' := 9) d_D_nextUnary_8 rfl rfl ?_
    obtain ⟨r3, hr3, hf⟩ := aw_bind hf
    refine aw_callVv (pc' := 12) (av := []) d_D_nextUnary_9 rfl wc_D_135 hC_11 (mD_nextBit hr3) (Or.inl rfl) rfl (by decide) (Nat.le_of_ble_eq_true rfl) ⟨(Nat.le_refl 0), (Nat.le_refl 0)⟩ ?_
    refine aw_iconst (pc' := 13) d_D_nextUnary_12 rfl kc_ic_1 ?_
    refine aw_icmp_ne (tgt := 18) (pc' := 16) d_D_nextUnary_13 (by decide) rfl (fun c4 => ?_) (fun c4 => ?_)
    · replace hf := aw_ifn c4 hf
      refine aw_iinc (pc' := 21) (L' := [some (.ref 11), some (.int (l1 + (1 : Int32)))]) d_D_nextUnary_18 rfl kc_ic_1 rfl (by decide) rfl ?_
      refine aw_goto (tgt := 2) d_D_nextUnary_21 (by decide) ?_
      exact aw_weak [true, true] rfl (hk2 _ _ hf)
    · replace hf := aw_ifp c4 hf
      refine aw_iload_n (pc' := 17) d_D_nextUnary_16 rfl rfl ?_
      cases hf
      exact aw_ireturn rfl d_D_nextUnary_17 (Nat.le_refl 0) (Nat.le_refl 0) ⟨rfl, rfl⟩
set_option maxRecDepth 20000 in
theorem wD_nextUnary_2 {N : Nat} {n : Nat} {r0 : (Int32 × me_M)} : ∀ (F : Nat) (l1 : Int32) (μ : me_M) (hf : fD_nextUnary_2 N n F l1 μ = some r0), AW "ArcTape$Reader" "nextUnary" c_D_nextUnary 2 (some .int) 1 0 0 0 (aw_is (some (.int r0.1)) (hC n r0.2)) 2 [some (.ref 11), some (.int l1)] [] (hC n μ) 0 0 := by
  intro F
  induction F with
  | zero => intro l1 μ hf; exact aw_no hf
  | succ F ih => intro l1 μ hf; exact wD_nextUnary_2b ih l1 μ hf
set_option maxRecDepth 20000 in
theorem mD_nextUnary {N : Nat} {n : Nat} {μ : me_M} {r0 : (Int32 × me_M)} (hf : fD_nextUnary N n μ = some r0) : AM y_D_nextUnary c_D_nextUnary 2 (some .int) 1 0 0 0 [.ref 11] (hC n μ) (aw_is (some (.int r0.1)) (hC n r0.2)) := by
  unfold fD_nextUnary at hf
  refine AM.of (own := "ArcTape$Reader") (nm := "nextUnary") (L := [some (.ref 11), none]) rfl rfl (by decide) (Nat.le_of_ble_eq_true rfl) rfl ?_
  refine aw_iconst (pc' := 1) d_D_nextUnary_0 rfl kc_ic_0 ?_
  refine aw_istore_n (pc' := 2) (L' := [some (.ref 11), some (.int (0 : Int32))]) d_D_nextUnary_1 rfl (by decide) rfl ?_
  exact aw_weak [true, true] rfl (wD_nextUnary_2 _ _ _ hf)
set_option maxRecDepth 20000 in
theorem wD_nextNumber_26 {N : Nat} {n : Nat} {r0 : (Int32 × me_M)} (l3 : Int32) (μ : me_M) (hf : fD_nextNumber_26 N n l3 μ = some r0) : AW "ArcTape$Reader" "nextNumber" c_D_nextNumber 5 (some .int) 1 0 0 0 (aw_is (some (.int r0.1)) (hC n r0.2)) 26 [none, none, none, some (.int l3), none] [] (hC n μ) 0 0 := by
  unfold fD_nextNumber_26 at hf
  refine aw_iload_n (pc' := 27) d_D_nextNumber_26 rfl rfl ?_
  cases hf
  exact aw_ireturn rfl d_D_nextNumber_27 (Nat.le_refl 0) (Nat.le_refl 0) ⟨rfl, rfl⟩
set_option maxRecDepth 20000 in
theorem wD_nextNumber_5b {N : Nat} {n : Nat} {r0 : (Int32 × me_M)} {k5 : Int32 → Int32 → Int32 → me_M → Option (Int32 × me_M)} (hk5 : ∀ (l2 : Int32) (l3 : Int32) (l4 : Int32) (μ : me_M), k5 l2 l3 l4 μ = some r0 → AW "ArcTape$Reader" "nextNumber" c_D_nextNumber 5 (some .int) 1 0 0 0 (aw_is (some (.int r0.1)) (hC n r0.2)) 5 [some (.ref 11), none, some (.int l2), some (.int l3), some (.int l4)] [] (hC n μ) 0 0) (l2 : Int32) (l3 : Int32) (l4 : Int32) (μ : me_M) (hf : fD_nextNumber_5b N n k5 l2 l3 l4 μ = some r0) : AW "ArcTape$Reader" "nextNumber" c_D_nextNumber 5 (some .int) 1 0 0 0 (aw_is (some (.int r0.1)) (hC n r0.2)) 5 [some (.ref 11), none, some (.int l2), some (.int l3), some (.int l4)] [] (hC n μ) 0 0 := by
  unfold fD_nextNumber_5b at hf
  refine aw_iload (pc' := 7) d_D_nextNumber_5 rfl rfl ?_
  refine aw_iload_n (pc' := 8) d_D_nextNumber_7 rfl rfl ?_
  refine aw_icmp_ge (tgt := 26) (pc' := 11) d_D_nextNumber_8 (by decide) rfl (fun c1 => ?_) (fun c1 => ?_)
  · replace hf := aw_ifp c1 hf
    exact aw_weak [false, false, false, true, false] rfl (wD_nextNumber_26 _ _ hf)
  · replace hf := aw_ifn c1 hf
    refine aw_iconst (pc' := 12) d_D_nextNumber_11 rfl kc_ic_2 ?_
    refine aw_iload_n (pc' := 13) d_D_nextNumber_12 rfl rfl ?_
    refine aw_imul (pc' := 14) d_D_nextNumber_13 rfl ?_
    refine aw_aload_n (pc' := 15) d_D_nextNumber_14 rfl rfl ?_
    obtain ⟨r2, hr2, hf⟩ := aw_bind hf
    refine aw_callVv (pc' := 18) (av := []) d_D_nextNumber_15 rfl wc_D_135 hC_11 (mD_nextBit hr2) (Or.inl rfl) rfl (by decide) (Nat.le_of_ble_eq_true rfl) ⟨(Nat.le_refl 0), (Nat.le_refl 0)⟩ ?_
    refine aw_iadd (pc' := 19) d_D_nextNumber_18 rfl ?_
    refine aw_istore_n (pc' := 20) (L' := [some (.ref 11), none, some (.int l2), some (.int (((2 : Int32) * l3) + r2.1)), some (.int l4)]) d_D_nextNumber_19 rfl (by decide) rfl ?_
    refine aw_iinc (pc' := 23) (L' := [some (.ref 11), none, some (.int l2), some (.int (((2 : Int32) * l3) + r2.1)), some (.int (l4 + (1 : Int32)))]) d_D_nextNumber_20 rfl kc_ic_1 rfl (by decide) rfl ?_
    refine aw_goto (tgt := 5) d_D_nextNumber_23 (by decide) ?_
    exact aw_weak [true, false, true, true, true] rfl (hk5 _ _ _ _ hf)
set_option maxRecDepth 20000 in
theorem wD_nextNumber_5 {N : Nat} {n : Nat} {r0 : (Int32 × me_M)} : ∀ (F : Nat) (l2 : Int32) (l3 : Int32) (l4 : Int32) (μ : me_M) (hf : fD_nextNumber_5 N n F l2 l3 l4 μ = some r0), AW "ArcTape$Reader" "nextNumber" c_D_nextNumber 5 (some .int) 1 0 0 0 (aw_is (some (.int r0.1)) (hC n r0.2)) 5 [some (.ref 11), none, some (.int l2), some (.int l3), some (.int l4)] [] (hC n μ) 0 0 := by
  intro F
  induction F with
  | zero => intro l2 l3 l4 μ hf; exact aw_no hf
  | succ F ih => intro l2 l3 l4 μ hf; exact wD_nextNumber_5b ih l2 l3 l4 μ hf
set_option maxRecDepth 20000 in
theorem mD_nextNumber {N : Nat} {n : Nat} {μ : me_M} {r0 : (Int32 × me_M)} {l1 : Int32} {l2 : Int32} (hf : fD_nextNumber N n l1 l2 μ = some r0) : AM y_D_nextNumber c_D_nextNumber 5 (some .int) 1 0 0 0 [.ref 11, .int l1, .int l2] (hC n μ) (aw_is (some (.int r0.1)) (hC n r0.2)) := by
  unfold fD_nextNumber at hf
  refine AM.of (own := "ArcTape$Reader") (nm := "nextNumber") (L := [some (.ref 11), some (.int l1), some (.int l2), none, none]) rfl rfl (by decide) (Nat.le_of_ble_eq_true rfl) rfl ?_
  refine aw_iload_n (pc' := 1) d_D_nextNumber_0 rfl rfl ?_
  refine aw_istore_n (pc' := 2) (L' := [some (.ref 11), some (.int l1), some (.int l2), some (.int l1), none]) d_D_nextNumber_1 rfl (by decide) rfl ?_
  refine aw_iconst (pc' := 3) d_D_nextNumber_2 rfl kc_ic_0 ?_
  refine aw_istore (pc' := 5) (L' := [some (.ref 11), some (.int l1), some (.int l2), some (.int l1), some (.int (0 : Int32))]) d_D_nextNumber_3 rfl (by decide) rfl ?_
  exact aw_weak [true, false, true, true, true] rfl (wD_nextNumber_5 _ _ _ _ _ hf)
set_option maxRecDepth 20000 in
theorem mD_nextGamma {N : Nat} {n : Nat} {μ : me_M} {r0 : (Int32 × me_M)} (hf : fD_nextGamma N n μ = some r0) : AM y_D_nextGamma c_D_nextGamma 1 (some .int) 2 0 0 0 [.ref 11] (hC n μ) (aw_is (some (.int r0.1)) (hC n r0.2)) := by
  unfold fD_nextGamma at hf
  refine AM.of (own := "ArcTape$Reader") (nm := "nextGamma") (L := [some (.ref 11)]) rfl rfl (by decide) (Nat.le_of_ble_eq_true rfl) rfl ?_
  refine aw_aload_n (pc' := 1) d_D_nextGamma_0 rfl rfl ?_
  refine aw_iconst (pc' := 2) d_D_nextGamma_1 rfl kc_ic_1 ?_
  refine aw_aload_n (pc' := 3) d_D_nextGamma_2 rfl rfl ?_
  obtain ⟨r1, hr1, hf⟩ := aw_bind hf
  refine aw_callVv (pc' := 6) (av := []) d_D_nextGamma_3 rfl wc_D_95 hC_11 (mD_nextUnary hr1) (Or.inl rfl) rfl (by decide) (Nat.le_of_ble_eq_true rfl) ⟨(Nat.le_refl 0), (Nat.le_refl 0)⟩ ?_
  obtain ⟨r2, hr2, hf⟩ := aw_bind hf
  refine aw_callVv (pc' := 9) (av := [.int (1 : Int32), .int r1.1]) d_D_nextGamma_6 rfl wc_D_138 hC_11 (mD_nextNumber hr2) (Or.inl rfl) rfl (by decide) (Nat.le_of_ble_eq_true rfl) ⟨(Nat.le_refl 0), (Nat.le_refl 0)⟩ ?_
  refine aw_iconst (pc' := 10) d_D_nextGamma_9 rfl kc_ic_1 ?_
  refine aw_isub (pc' := 11) d_D_nextGamma_10 rfl ?_
  cases hf
  exact aw_ireturn rfl d_D_nextGamma_11 (Nat.le_refl 0) (Nat.le_refl 0) ⟨rfl, rfl⟩
set_option maxRecDepth 20000 in
theorem wD_goesOn_19 {N : Nat} {n : Nat} {μ : me_M} {r0 : Int32} (s0 : Int32) (hf : fD_goesOn_19 N n μ s0 = some r0) : AW "ArcTape$Reader" "goesOn" c_D_goesOn 1 (some .boolean) 0 0 0 0 (aw_is (some (.int r0)) (hC n μ)) 19 [none] [.int s0] (hC n μ) 0 0 := by
  unfold fD_goesOn_19 at hf
  obtain ⟨g1, hf⟩ := aw_gz hf
  cases hf
  exact aw_zreturn rfl g1.1 d_D_goesOn_19 (Nat.le_refl 0) (Nat.le_refl 0) ⟨rfl, rfl⟩
set_option maxRecDepth 20000 in
theorem wD_goesOn_18 {N : Nat} {n : Nat} {μ : me_M} {r0 : Int32} (hf : fD_goesOn_18 N n μ = some r0) : AW "ArcTape$Reader" "goesOn" c_D_goesOn 1 (some .boolean) 0 0 0 0 (aw_is (some (.int r0)) (hC n μ)) 18 [none] [] (hC n μ) 0 0 := by
  unfold fD_goesOn_18 at hf
  refine aw_iconst (pc' := 19) d_D_goesOn_18 rfl kc_ic_0 ?_
  exact aw_weak [false] rfl (wD_goesOn_19 _ hf)
set_option maxRecDepth 20000 in
theorem mD_goesOn {N : Nat} {n : Nat} {μ : me_M} {r0 : Int32} (hf : fD_goesOn N n μ = some r0) : AM y_D_goesOn c_D_goesOn 1 (some .boolean) 0 0 0 0 [.ref 11] (hC n μ) (aw_is (some (.int r0)) (hC n μ)) := by
  unfold fD_goesOn at hf
  refine AM.of (own := "ArcTape$Reader") (nm := "goesOn") (L := [some (.ref 11)]) rfl rfl (by decide) (Nat.le_of_ble_eq_true rfl) rfl ?_
  refine aw_aload_n (pc' := 1) d_D_goesOn_0 rfl rfl ?_
  refine aw_get (pc' := 4) d_D_goesOn_1 rfl fl_D_45 hC_11 rfl ?_
  refine aw_if_ne (tgt := 18) (pc' := 7) d_D_goesOn_4 (by decide) rfl (fun c2 => ?_) (fun c2 => ?_)
  · replace hf := aw_ifn c2 hf
    exact aw_weak [false] rfl (wD_goesOn_18  hf)
  · replace hf := aw_ifp c2 hf
    refine aw_aload_n (pc' := 8) d_D_goesOn_7 rfl rfl ?_
    refine aw_get (pc' := 11) d_D_goesOn_8 rfl fl_D_65 hC_11 rfl ?_
    refine aw_if_le (tgt := 18) (pc' := 14) d_D_goesOn_11 (by decide) rfl (fun c3 => ?_) (fun c3 => ?_)
    · replace hf := aw_ifp c3 hf
      exact aw_weak [false] rfl (wD_goesOn_18  hf)
    · replace hf := aw_ifn c3 hf
      refine aw_iconst (pc' := 15) d_D_goesOn_14 rfl kc_ic_1 ?_
      refine aw_goto (tgt := 19) d_D_goesOn_15 (by decide) ?_
      exact aw_weak [false] rfl (wD_goesOn_19 _ hf)
set_option maxRecDepth 20000 in
theorem wD_readReference_102 {N : Nat} {n : Nat} {r0 : me_M} (μ : me_M) (hf : fD_readReference_102 N n μ = some r0) : AW "ArcTape$Reader" "readReference" c_D_readReference 2 none 2 0 0 0 (aw_is none (hC n r0)) 102 [none, none] [] (hC n μ) 0 0 := by
  unfold fD_readReference_102 at hf
  cases hf
  exact aw_return rfl d_D_readReference_102 (Nat.le_refl 0) (Nat.le_refl 0) ⟨rfl, rfl⟩
set_option maxRecDepth 20000 in
theorem wD_readReference_98 {N : Nat} {n : Nat} {r0 : me_M} (s1 : Int32) (μ : me_M) (hf : fD_readReference_98 N n s1 μ = some r0) : AW "ArcTape$Reader" "readReference" c_D_readReference 2 none 2 0 0 0 (aw_is none (hC n r0)) 98 [none, none] [.int s1, .ref 11] (hC n μ) 0 0 := by
  unfold fD_readReference_98 at hf
  refine aw_iconst (pc' := 99) d_D_readReference_98 rfl kc_ic_5 ?_
  obtain ⟨r1, hr1, hf⟩ := aw_bind hf
  refine aw_callVn (pc' := 102) (av := [.int s1, .int (5 : Int32)]) d_D_readReference_99 rfl wc_D_68 hC_11 (mD_failIf hr1) (Or.inl rfl) rfl (by decide) (Nat.le_of_ble_eq_true rfl) ⟨(Nat.le_refl 0), (Nat.le_refl 0)⟩ ?_
  exact aw_weak [false, false] rfl (wD_readReference_102 _ hf)
set_option maxRecDepth 20000 in
theorem wD_readReference_93 {N : Nat} {n : Nat} {r0 : me_M} (μ : me_M) (hf : fD_readReference_93 N n μ = some r0) : AW "ArcTape$Reader" "readReference" c_D_readReference 2 none 2 0 0 0 (aw_is none (hC n r0)) 93 [none, none] [.ref 11] (hC n μ) 0 0 := by
  unfold fD_readReference_93 at hf
  refine aw_iconst (pc' := 94) d_D_readReference_93 rfl kc_ic_1 ?_
  refine aw_goto (tgt := 98) d_D_readReference_94 (by decide) ?_
  exact aw_weak [false, false] rfl (wD_readReference_98 _ _ hf)
set_option maxRecDepth 20000 in
theorem wD_readReference_39 {N : Nat} {n : Nat} {r0 : me_M} (s1 : Int32) (μ : me_M) (hf : fD_readReference_39 N n s1 μ = some r0) : AW "ArcTape$Reader" "readReference" c_D_readReference 2 none 2 0 0 0 (aw_is none (hC n r0)) 39 [some (.ref 11), none] [.int s1, .ref 11] (hC n μ) 0 0 := by
  unfold fD_readReference_39 at hf
  refine aw_iconst (pc' := 40) d_D_readReference_39 rfl kc_ic_4 ?_
  obtain ⟨r2, hr2, hf⟩ := aw_bind hf
  refine aw_callVn (pc' := 43) (av := [.int s1, .int (4 : Int32)]) d_D_readReference_40 rfl wc_D_68 hC_11 (mD_failIf hr2) (Or.inl rfl) rfl (by decide) (Nat.le_of_ble_eq_true rfl) ⟨(Nat.le_refl 0), (Nat.le_refl 0)⟩ ?_
  refine aw_aload_n (pc' := 44) d_D_readReference_43 rfl rfl ?_
  refine aw_get (pc' := 47) d_D_readReference_44 rfl fl_D_45 hC_11 rfl ?_
  refine aw_if_ne (tgt := 102) (pc' := 50) d_D_readReference_47 (by decide) rfl (fun c3 => ?_) (fun c3 => ?_)
  · replace hf := aw_ifn c3 hf
    exact aw_weak [false, false] rfl (wD_readReference_102 _ hf)
  · replace hf := aw_ifp c3 hf
    refine aw_aload_n (pc' := 51) d_D_readReference_50 rfl rfl ?_
    refine aw_get (pc' := 54) d_D_readReference_51 rfl fl_D_48 hC_11 rfl ?_
    refine aw_if_le (tgt := 102) (pc' := 57) d_D_readReference_54 (by decide) rfl (fun c4 => ?_) (fun c4 => ?_)
    · replace hf := aw_ifp c4 hf
      exact aw_weak [false, false] rfl (wD_readReference_102 _ hf)
    · replace hf := aw_ifn c4 hf
      refine aw_aload_n (pc' := 58) d_D_readReference_57 rfl rfl ?_
      refine aw_get (pc' := 61) d_D_readReference_58 rfl fl_D_34 hC_11 rfl ?_
      refine aw_aload_n (pc' := 62) d_D_readReference_61 rfl rfl ?_
      refine aw_get (pc' := 65) d_D_readReference_62 rfl fl_D_48 hC_11 rfl ?_
      refine aw_isub (pc' := 66) d_D_readReference_65 rfl ?_
      refine aw_istore_n (pc' := 67) (L' := [some (.ref 11), some (.int ((r2.1 1207 0) - (r2.1 1210 0)))]) d_D_readReference_66 rfl (by decide) rfl ?_
      refine aw_aload_n (pc' := 68) d_D_readReference_67 rfl rfl ?_
      refine aw_aload_n (pc' := 69) d_D_readReference_68 rfl rfl ?_
      refine aw_get (pc' := 72) d_D_readReference_69 rfl fl_D_25 hC_11 rfl ?_
      refine aw_iload_n (pc' := 73) d_D_readReference_72 rfl rfl ?_
      obtain ⟨g5, hf⟩ := aw_gi hf
      refine aw_iald (pc' := 74) d_D_readReference_73 rfl rfl hC_13 g5 ?_
      refine aw_if_ne (tgt := 93) (pc' := 77) d_D_readReference_74 (by decide) rfl (fun c6 => ?_) (fun c6 => ?_)
      · replace hf := aw_ifn c6 hf
        exact aw_weak [false, false] rfl (wD_readReference_93 _ hf)
      · replace hf := aw_ifp c6 hf
        refine aw_aload_n (pc' := 78) d_D_readReference_77 rfl rfl ?_
        refine aw_get (pc' := 81) d_D_readReference_78 rfl fl_D_31 hC_11 rfl ?_
        refine aw_iload_n (pc' := 82) d_D_readReference_81 rfl rfl ?_
        obtain ⟨g7, hf⟩ := aw_gi hf
        refine aw_iald (pc' := 83) d_D_readReference_82 rfl rfl hC_15 g7 ?_
        refine aw_aload_n (pc' := 84) d_D_readReference_83 rfl rfl ?_
        refine aw_get (pc' := 87) d_D_readReference_84 rfl fl_D_13 hC_11 rfl ?_
        refine aw_get (pc' := 90) d_D_readReference_87 rfl fl_D_98 hC_4 rfl ?_
        refine aw_icmp_lt (tgt := 97) (pc' := 93) d_D_readReference_90 (by decide) rfl (fun c8 => ?_) (fun c8 => ?_)
        · replace hf := aw_ifp c8 hf
          refine aw_iconst (pc' := 98) d_D_readReference_97 rfl kc_ic_0 ?_
          exact aw_weak [false, false] rfl (wD_readReference_98 _ _ hf)
        · replace hf := aw_ifn c8 hf
          exact aw_weak [false, false] rfl (wD_readReference_93 _ hf)
set_option maxRecDepth 20000 in
theorem wD_readReference_34 {N : Nat} {n : Nat} {r0 : me_M} (μ : me_M) (hf : fD_readReference_34 N n μ = some r0) : AW "ArcTape$Reader" "readReference" c_D_readReference 2 none 2 0 0 0 (aw_is none (hC n r0)) 34 [some (.ref 11), none] [.ref 11] (hC n μ) 0 0 := by
  unfold fD_readReference_34 at hf
  refine aw_iconst (pc' := 35) d_D_readReference_34 rfl kc_ic_1 ?_
  refine aw_goto (tgt := 39) d_D_readReference_35 (by decide) ?_
  exact aw_weak [true, false] rfl (wD_readReference_39 _ _ hf)
set_option maxRecDepth 20000 in
theorem mD_readReference {N : Nat} {n : Nat} {μ : me_M} {r0 : me_M} (hf : fD_readReference N n μ = some r0) : AM y_D_readReference c_D_readReference 2 none 2 0 0 0 [.ref 11] (hC n μ) (aw_is none (hC n r0)) := by
  unfold fD_readReference at hf
  refine AM.of (own := "ArcTape$Reader") (nm := "readReference") (L := [some (.ref 11), none]) rfl rfl (by decide) (Nat.le_of_ble_eq_true rfl) rfl ?_
  refine aw_aload_n (pc' := 1) d_D_readReference_0 rfl rfl ?_
  refine aw_aload_n (pc' := 2) d_D_readReference_1 rfl rfl ?_
  obtain ⟨r9, hr9, hf⟩ := aw_bind hf
  refine aw_callVv (pc' := 5) (av := []) d_D_readReference_2 rfl wc_D_95 hC_11 (mD_nextUnary hr9) (Or.inl rfl) rfl (by decide) (Nat.le_of_ble_eq_true rfl) ⟨(Nat.le_refl 0), (Nat.le_refl 0)⟩ ?_
  refine aw_puti (pc' := 8) (h' := (hC n (me_wi r9.2 1210 0 r9.1))) d_D_readReference_5 rfl fp_D_48 hC_11 (Nat.le_of_ble_eq_true rfl) rfl ?_
  refine aw_aload_n (pc' := 9) d_D_readReference_8 rfl rfl ?_
  refine aw_aload_n (pc' := 10) d_D_readReference_9 rfl rfl ?_
  refine aw_get (pc' := 13) d_D_readReference_10 rfl fl_D_48 hC_11 rfl ?_
  refine aw_aload_n (pc' := 14) d_D_readReference_13 rfl rfl ?_
  refine aw_get (pc' := 17) d_D_readReference_14 rfl fl_D_13 hC_11 rfl ?_
  refine aw_get (pc' := 20) d_D_readReference_17 rfl fl_D_76 hC_4 rfl ?_
  refine aw_icmp_gt (tgt := 34) (pc' := 23) d_D_readReference_20 (by decide) rfl (fun c10 => ?_) (fun c10 => ?_)
  · replace hf := aw_ifp c10 hf
    exact aw_weak [true, false] rfl (wD_readReference_34 _ hf)
  · replace hf := aw_ifn c10 hf
    refine aw_aload_n (pc' := 24) d_D_readReference_23 rfl rfl ?_
    refine aw_get (pc' := 27) d_D_readReference_24 rfl fl_D_48 hC_11 rfl ?_
    refine aw_aload_n (pc' := 28) d_D_readReference_27 rfl rfl ?_
    refine aw_get (pc' := 31) d_D_readReference_28 rfl fl_D_34 hC_11 rfl ?_
    refine aw_icmp_le (tgt := 38) (pc' := 34) d_D_readReference_31 (by decide) rfl (fun c11 => ?_) (fun c11 => ?_)
    · replace hf := aw_ifp c11 hf
      refine aw_iconst (pc' := 39) d_D_readReference_38 rfl kc_ic_0 ?_
      exact aw_weak [true, false] rfl (wD_readReference_39 _ _ hf)
    · replace hf := aw_ifn c11 hf
      exact aw_weak [true, false] rfl (wD_readReference_34 _ hf)
set_option maxRecDepth 20000 in
theorem wD_lowest_25 {N : Nat} {h0 : aw_H} {r0 : Int32} (l0 : Int32) (l2 : Int32) (hf : fD_lowest_25 N l0 l2 = some r0) : AW "ArcTape$Reader" "lowest" c_D_lowest 4 (some .int) 0 0 0 0 (aw_is (some (.int r0)) h0) 25 [some (.int l0), none, some (.int l2), none] [] h0 0 0 := by
  unfold fD_lowest_25 at hf
  refine aw_iload_n (pc' := 26) d_D_lowest_25 rfl rfl ?_
  refine aw_iload_n (pc' := 27) d_D_lowest_26 rfl rfl ?_
  refine aw_iconst (pc' := 28) d_D_lowest_27 rfl kc_ic_m1 ?_
  refine aw_ixor (pc' := 29) d_D_lowest_28 rfl ?_
  refine aw_iand (pc' := 30) d_D_lowest_29 rfl ?_
  cases hf
  exact aw_ireturn rfl d_D_lowest_30 (Nat.le_refl 0) (Nat.le_refl 0) ⟨rfl, rfl⟩
set_option maxRecDepth 20000 in
theorem wD_lowest_4b {N : Nat} {h0 : aw_H} {r0 : Int32} {k4 : Int32 → Int32 → Int32 → Int32 → Option Int32} (hk4 : ∀ (l0 : Int32) (l1 : Int32) (l2 : Int32) (l3 : Int32), k4 l0 l1 l2 l3 = some r0 → AW "ArcTape$Reader" "lowest" c_D_lowest 4 (some .int) 0 0 0 0 (aw_is (some (.int r0)) h0) 4 [some (.int l0), some (.int l1), some (.int l2), some (.int l3)] [] h0 0 0) (l0 : Int32) (l1 : Int32) (l2 : Int32) (l3 : Int32) (hf : fD_lowest_4b N k4 l0 l1 l2 l3 = some r0) : AW "ArcTape$Reader" "lowest" c_D_lowest 4 (some .int) 0 0 0 0 (aw_is (some (.int r0)) h0) 4 [some (.int l0), some (.int l1), some (.int l2), some (.int l3)] [] h0 0 0 := by
  unfold fD_lowest_4b at hf
  refine aw_iload_n (pc' := 5) d_D_lowest_4 rfl rfl ?_
  refine aw_iload_n (pc' := 6) d_D_lowest_5 rfl rfl ?_
  refine aw_icmp_ge (tgt := 25) (pc' := 9) d_D_lowest_6 (by decide) rfl (fun c1 => ?_) (fun c1 => ?_)
  · replace hf := aw_ifp c1 hf
    exact aw_weak [true, false, true, false] rfl (wD_lowest_25 _ _ hf)
  · replace hf := aw_ifn c1 hf
    refine aw_iload_n (pc' := 10) d_D_lowest_9 rfl rfl ?_
    refine aw_if_eq (tgt := 25) (pc' := 13) d_D_lowest_10 (by decide) rfl (fun c2 => ?_) (fun c2 => ?_)
    · replace hf := aw_ifp c2 hf
      exact aw_weak [true, false, true, false] rfl (wD_lowest_25 _ _ hf)
    · replace hf := aw_ifn c2 hf
      refine aw_iload_n (pc' := 14) d_D_lowest_13 rfl rfl ?_
      refine aw_iload_n (pc' := 15) d_D_lowest_14 rfl rfl ?_
      refine aw_iconst (pc' := 16) d_D_lowest_15 rfl kc_ic_1 ?_
      refine aw_isub (pc' := 17) d_D_lowest_16 rfl ?_
      refine aw_iand (pc' := 18) d_D_lowest_17 rfl ?_
      refine aw_istore_n (pc' := 19) (L' := [some (.int l0), some (.int l1), some (.int (l2 &&& (l2 - (1 : Int32)))), some (.int l3)]) d_D_lowest_18 rfl (by decide) rfl ?_
      refine aw_iinc (pc' := 22) (L' := [some (.int l0), some (.int l1), some (.int (l2 &&& (l2 - (1 : Int32)))), some (.int (l3 + (1 : Int32)))]) d_D_lowest_19 rfl kc_ic_1 rfl (by decide) rfl ?_
      refine aw_goto (tgt := 4) d_D_lowest_22 (by decide) ?_
      exact aw_weak [true, true, true, true] rfl (hk4 _ _ _ _ hf)
set_option maxRecDepth 20000 in
theorem wD_lowest_4 {N : Nat} {h0 : aw_H} {r0 : Int32} : ∀ (F : Nat) (l0 : Int32) (l1 : Int32) (l2 : Int32) (l3 : Int32) (hf : fD_lowest_4 N F l0 l1 l2 l3 = some r0), AW "ArcTape$Reader" "lowest" c_D_lowest 4 (some .int) 0 0 0 0 (aw_is (some (.int r0)) h0) 4 [some (.int l0), some (.int l1), some (.int l2), some (.int l3)] [] h0 0 0 := by
  intro F
  induction F with
  | zero => intro l0 l1 l2 l3 hf; exact aw_no hf
  | succ F ih => intro l0 l1 l2 l3 hf; exact wD_lowest_4b ih l0 l1 l2 l3 hf
set_option maxRecDepth 20000 in
theorem mD_lowest {N : Nat} {h0 : aw_H} {r0 : Int32} {l0 : Int32} {l1 : Int32} (hf : fD_lowest N l0 l1 = some r0) : AM y_D_lowest c_D_lowest 4 (some .int) 0 0 0 0 [.int l0, .int l1] h0 (aw_is (some (.int r0)) h0) := by
  unfold fD_lowest at hf
  refine AM.of (own := "ArcTape$Reader") (nm := "lowest") (L := [some (.int l0), some (.int l1), none, none]) rfl rfl (by decide) (Nat.le_of_ble_eq_true rfl) rfl ?_
  refine aw_iload_n (pc' := 1) d_D_lowest_0 rfl rfl ?_
  refine aw_istore_n (pc' := 2) (L' := [some (.int l0), some (.int l1), some (.int l0), none]) d_D_lowest_1 rfl (by decide) rfl ?_
  refine aw_iconst (pc' := 3) d_D_lowest_2 rfl kc_ic_0 ?_
  refine aw_istore_n (pc' := 4) (L' := [some (.int l0), some (.int l1), some (.int l0), some (.int (0 : Int32))]) d_D_lowest_3 rfl (by decide) rfl ?_
  exact aw_weak [true, true, true, true] rfl (wD_lowest_4 _ _ _ _ _ hf)
set_option maxRecDepth 20000 in
theorem wD_take_22 {N : Nat} {n : Nat} {r0 : me_M} (l1 : Int32) (s1 : Int32) (μ : me_M) (hf : fD_take_22 N n l1 s1 μ = some r0) : AW "ArcTape$Reader" "take" c_D_take 2 none 1 0 0 0 (aw_is none (hC n r0)) 22 [some (.ref 11), some (.int l1)] [.int s1, .ref 11] (hC n μ) 0 0 := by
  unfold fD_take_22 at hf
  obtain ⟨g1, hf⟩ := aw_gz hf
  refine aw_putz (pc' := 25) (h' := (hC n (me_wi μ 1213 0 s1))) d_D_take_22 rfl fp_D_54 g1 hC_11 (Nat.le_of_ble_eq_true rfl) rfl ?_
  refine aw_aload_n (pc' := 26) d_D_take_25 rfl rfl ?_
  refine aw_dup (pc' := 27) d_D_take_26 rfl rfl ?_
  refine aw_get (pc' := 30) d_D_take_27 rfl fl_D_51 hC_11 rfl ?_
  refine aw_iload_n (pc' := 31) d_D_take_30 rfl rfl ?_
  refine aw_ior (pc' := 32) d_D_take_31 rfl ?_
  refine aw_puti (pc' := 35) (h' := (hC n (me_wi (me_wi μ 1213 0 s1) 1211 0 (((me_wi μ 1213 0 s1).1 1211 0) ||| l1)))) d_D_take_32 rfl fp_D_51 hC_11 (Nat.le_of_ble_eq_true rfl) rfl ?_
  refine aw_aload_n (pc' := 36) d_D_take_35 rfl rfl ?_
  refine aw_dup (pc' := 37) d_D_take_36 rfl rfl ?_
  refine aw_get (pc' := 40) d_D_take_37 rfl fl_D_65 hC_11 rfl ?_
  refine aw_iload_n (pc' := 41) d_D_take_40 rfl rfl ?_
  obtain ⟨r2, hr2, hf⟩ := aw_bind hf
  refine aw_callSv (pc' := 44) (av := [.int l1]) d_D_take_41 rfl wc_D_101 (mJ_bitCount hr2) (Or.inl rfl) rfl (by decide) (Nat.le_of_ble_eq_true rfl) ⟨(Nat.le_refl 0), (Nat.le_refl 0)⟩ ?_
  refine aw_isub (pc' := 45) d_D_take_44 rfl ?_
  refine aw_puti (pc' := 48) (h' := (hC n (me_wi (me_wi (me_wi μ 1213 0 s1) 1211 0 (((me_wi μ 1213 0 s1).1 1211 0) ||| l1)) 1212 0 (((me_wi (me_wi μ 1213 0 s1) 1211 0 (((me_wi μ 1213 0 s1).1 1211 0) ||| l1)).1 1212 0) - r2)))) d_D_take_45 rfl fp_D_65 hC_11 (Nat.le_of_ble_eq_true rfl) rfl ?_
  cases hf
  exact aw_return rfl d_D_take_48 (Nat.le_refl 0) (Nat.le_refl 0) ⟨rfl, rfl⟩
set_option maxRecDepth 20000 in
theorem wD_take_17 {N : Nat} {n : Nat} {r0 : me_M} (l1 : Int32) (μ : me_M) (hf : fD_take_17 N n l1 μ = some r0) : AW "ArcTape$Reader" "take" c_D_take 2 none 1 0 0 0 (aw_is none (hC n r0)) 17 [some (.ref 11), some (.int l1)] [.ref 11] (hC n μ) 0 0 := by
  unfold fD_take_17 at hf
  refine aw_iconst (pc' := 18) d_D_take_17 rfl kc_ic_1 ?_
  refine aw_goto (tgt := 22) d_D_take_18 (by decide) ?_
  exact aw_weak [true, true] rfl (wD_take_22 _ _ _ hf)
set_option maxRecDepth 20000 in
theorem mD_take {N : Nat} {n : Nat} {μ : me_M} {r0 : me_M} {l1 : Int32} (hf : fD_take N n l1 μ = some r0) : AM y_D_take c_D_take 2 none 1 0 0 0 [.ref 11, .int l1] (hC n μ) (aw_is none (hC n r0)) := by
  unfold fD_take at hf
  refine AM.of (own := "ArcTape$Reader") (nm := "take") (L := [some (.ref 11), some (.int l1)]) rfl rfl (by decide) (Nat.le_of_ble_eq_true rfl) rfl ?_
  refine aw_aload_n (pc' := 1) d_D_take_0 rfl rfl ?_
  refine aw_aload_n (pc' := 2) d_D_take_1 rfl rfl ?_
  refine aw_get (pc' := 5) d_D_take_2 rfl fl_D_54 hC_11 rfl ?_
  refine aw_if_ne (tgt := 17) (pc' := 8) d_D_take_5 (by decide) rfl (fun c3 => ?_) (fun c3 => ?_)
  · replace hf := aw_ifn c3 hf
    exact aw_weak [true, true] rfl (wD_take_17 _ _ hf)
  · replace hf := aw_ifp c3 hf
    refine aw_aload_n (pc' := 9) d_D_take_8 rfl rfl ?_
    refine aw_get (pc' := 12) d_D_take_9 rfl fl_D_51 hC_11 rfl ?_
    refine aw_iload_n (pc' := 13) d_D_take_12 rfl rfl ?_
    refine aw_iand (pc' := 14) d_D_take_13 rfl ?_
    refine aw_if_eq (tgt := 21) (pc' := 17) d_D_take_14 (by decide) rfl (fun c4 => ?_) (fun c4 => ?_)
    · replace hf := aw_ifp c4 hf
      refine aw_iconst (pc' := 22) d_D_take_21 rfl kc_ic_0 ?_
      exact aw_weak [true, true] rfl (wD_take_22 _ _ _ hf)
    · replace hf := aw_ifn c4 hf
      exact aw_weak [true, true] rfl (wD_take_17 _ _ hf)
set_option maxRecDepth 20000 in
theorem wD_readRuns_128 {N : Nat} {n : Nat} {r0 : me_M} (l2 : Int32) (s1 : Int32) (μ : me_M) (hf : fD_readRuns_128 N n l2 s1 μ = some r0) : AW "ArcTape$Reader" "readRuns" c_D_readRuns 8 none 3 0 0 0 (aw_is none (hC n r0)) 128 [some (.ref 11), none, some (.int l2), none, none, none, none, none] [.int s1, .ref 11] (hC n μ) 0 0 := by
  unfold fD_readRuns_128 at hf
  refine aw_bipush (pc' := 130) d_D_readRuns_128 rfl kc_bi_6 ?_
  obtain ⟨r1, hr1, hf⟩ := aw_bind hf
  refine aw_callVn (pc' := 133) (av := [.int s1, .int (6 : Int32)]) d_D_readRuns_130 rfl wc_D_68 hC_11 (mD_failIf hr1) (Or.inl rfl) rfl (by decide) (Nat.le_of_ble_eq_true rfl) ⟨(Nat.le_refl 0), (Nat.le_refl 0)⟩ ?_
  refine aw_aload_n (pc' := 134) d_D_readRuns_133 rfl rfl ?_
  refine aw_iload_n (pc' := 135) d_D_readRuns_134 rfl rfl ?_
  obtain ⟨r2, hr2, hf⟩ := aw_bind hf
  refine aw_callVn (pc' := 138) (av := [.int l2]) d_D_readRuns_135 rfl wc_D_111 hC_11 (mD_take hr2) (Or.inl rfl) rfl (by decide) (Nat.le_of_ble_eq_true rfl) ⟨(Nat.le_refl 0), (Nat.le_refl 0)⟩ ?_
  cases hf
  exact aw_return rfl d_D_readRuns_138 (Nat.le_refl 0) (Nat.le_refl 0) ⟨rfl, rfl⟩
set_option maxRecDepth 20000 in
theorem wD_readRuns_111 {N : Nat} {n : Nat} {r0 : me_M} (l2 : Int32) (μ : me_M) (hf : fD_readRuns_111 N n l2 μ = some r0) : AW "ArcTape$Reader" "readRuns" c_D_readRuns 8 none 3 0 0 0 (aw_is none (hC n r0)) 111 [some (.ref 11), none, some (.int l2), none, none, none, none, none] [] (hC n μ) 0 0 := by
  unfold fD_readRuns_111 at hf
  refine aw_aload_n (pc' := 112) d_D_readRuns_111 rfl rfl ?_
  refine aw_iload_n (pc' := 113) d_D_readRuns_112 rfl rfl ?_
  obtain ⟨r3, hr3, hf⟩ := aw_bind hf
  refine aw_callSv (pc' := 116) (av := [.int l2]) d_D_readRuns_113 rfl wc_D_101 (mJ_bitCount hr3) (Or.inl rfl) rfl (by decide) (Nat.le_of_ble_eq_true rfl) ⟨(Nat.le_refl 0), (Nat.le_refl 0)⟩ ?_
  refine aw_aload_n (pc' := 117) d_D_readRuns_116 rfl rfl ?_
  refine aw_get (pc' := 120) d_D_readRuns_117 rfl fl_D_65 hC_11 rfl ?_
  refine aw_icmp_le (tgt := 127) (pc' := 123) d_D_readRuns_120 (by decide) rfl (fun c4 => ?_) (fun c4 => ?_)
  · replace hf := aw_ifp c4 hf
    refine aw_iconst (pc' := 128) d_D_readRuns_127 rfl kc_ic_0 ?_
    exact aw_weak [true, false, true, false, false, false, false, false] rfl (wD_readRuns_128 _ _ _ hf)
  · replace hf := aw_ifn c4 hf
    refine aw_iconst (pc' := 124) d_D_readRuns_123 rfl kc_ic_1 ?_
    refine aw_goto (tgt := 128) d_D_readRuns_124 (by decide) ?_
    exact aw_weak [true, false, true, false, false, false, false, false] rfl (wD_readRuns_128 _ _ _ hf)
set_option maxRecDepth 20000 in
theorem wD_readRuns_100 {N : Nat} {n : Nat} {r0 : me_M} (l2 : Int32) (l3 : Int32) (l4 : Int32) (μ : me_M) (hf : fD_readRuns_100 N n l2 l3 l4 μ = some r0) : AW "ArcTape$Reader" "readRuns" c_D_readRuns 8 none 3 0 0 0 (aw_is none (hC n r0)) 100 [some (.ref 11), none, some (.int l2), some (.int l3), some (.int l4), none, none, none] [] (hC n μ) 0 0 := by
  unfold fD_readRuns_100 at hf
  refine aw_iload (pc' := 102) d_D_readRuns_100 rfl rfl ?_
  refine aw_iconst (pc' := 103) d_D_readRuns_102 rfl kc_ic_2 ?_
  refine aw_irem (pc' := 104) d_D_readRuns_103 rfl (by decide) ?_
  refine aw_if_ne (tgt := 111) (pc' := 107) d_D_readRuns_104 (by decide) rfl (fun c6 => ?_) (fun c6 => ?_)
  · replace hf := aw_ifn c6 hf
    exact aw_weak [true, false, true, false, false, false, false, false] rfl (wD_readRuns_111 _ _ hf)
  · replace hf := aw_ifp c6 hf
    refine aw_iload_n (pc' := 108) d_D_readRuns_107 rfl rfl ?_
    refine aw_iload_n (pc' := 109) d_D_readRuns_108 rfl rfl ?_
    refine aw_ior (pc' := 110) d_D_readRuns_109 rfl ?_
    refine aw_istore_n (pc' := 111) (L' := [some (.ref 11), none, some (.int (l2 ||| l3)), some (.int l3), some (.int l4), none, none, none]) d_D_readRuns_110 rfl (by decide) rfl ?_
    exact aw_weak [true, false, true, false, false, false, false, false] rfl (wD_readRuns_111 _ _ hf)
set_option maxRecDepth 20000 in
theorem wD_readRuns_94 {N : Nat} {n : Nat} {r0 : me_M} {k13 : Int32 → Int32 → Int32 → Int32 → me_M → Option me_M} (hk13 : ∀ (l2 : Int32) (l3 : Int32) (l4 : Int32) (l5 : Int32) (μ : me_M), k13 l2 l3 l4 l5 μ = some r0 → AW "ArcTape$Reader" "readRuns" c_D_readRuns 8 none 3 0 0 0 (aw_is none (hC n r0)) 13 [some (.ref 11), none, some (.int l2), some (.int l3), some (.int l4), some (.int l5), none, none] [] (hC n μ) 0 0) (l2 : Int32) (l3 : Int32) (l4 : Int32) (l5 : Int32) (μ : me_M) (hf : fD_readRuns_94 N n k13 l2 l3 l4 l5 μ = some r0) : AW "ArcTape$Reader" "readRuns" c_D_readRuns 8 none 3 0 0 0 (aw_is none (hC n r0)) 94 [some (.ref 11), none, some (.int l2), some (.int l3), some (.int l4), some (.int l5), none, none] [] (hC n μ) 0 0 := by
  unfold fD_readRuns_94 at hf
  refine aw_iinc (pc' := 97) (L' := [some (.ref 11), none, some (.int l2), some (.int l3), some (.int l4), some (.int (l5 + (1 : Int32))), none, none]) d_D_readRuns_94 rfl kc_ic_1 rfl (by decide) rfl ?_
  refine aw_goto (tgt := 13) d_D_readRuns_97 (by decide) ?_
  exact aw_weak [true, false, true, true, true, true, false, false] rfl (hk13 _ _ _ _ _ hf)
set_option maxRecDepth 20000 in
theorem wD_readRuns_62 {N : Nat} {n : Nat} {r0 : me_M} {k13 : Int32 → Int32 → Int32 → Int32 → me_M → Option me_M} (hk13 : ∀ (l2 : Int32) (l3 : Int32) (l4 : Int32) (l5 : Int32) (μ : me_M), k13 l2 l3 l4 l5 μ = some r0 → AW "ArcTape$Reader" "readRuns" c_D_readRuns 8 none 3 0 0 0 (aw_is none (hC n r0)) 13 [some (.ref 11), none, some (.int l2), some (.int l3), some (.int l4), some (.int l5), none, none] [] (hC n μ) 0 0) (l2 : Int32) (l3 : Int32) (l4 : Int32) (l5 : Int32) (l6 : Int32) (s1 : Int32) (μ : me_M) (hf : fD_readRuns_62 N n k13 l2 l3 l4 l5 l6 s1 μ = some r0) : AW "ArcTape$Reader" "readRuns" c_D_readRuns 8 none 3 0 0 0 (aw_is none (hC n r0)) 62 [some (.ref 11), none, some (.int l2), some (.int l3), some (.int l4), some (.int l5), some (.int l6), none] [.int s1, .ref 11] (hC n μ) 0 0 := by
  unfold fD_readRuns_62 at hf
  refine aw_bipush (pc' := 64) d_D_readRuns_62 rfl kc_bi_6 ?_
  obtain ⟨r7, hr7, hf⟩ := aw_bind hf
  refine aw_callVn (pc' := 67) (av := [.int s1, .int (6 : Int32)]) d_D_readRuns_64 rfl wc_D_68 hC_11 (mD_failIf hr7) (Or.inl rfl) rfl (by decide) (Nat.le_of_ble_eq_true rfl) ⟨(Nat.le_refl 0), (Nat.le_refl 0)⟩ ?_
  refine aw_iload_n (pc' := 68) d_D_readRuns_67 rfl rfl ?_
  refine aw_iload (pc' := 70) d_D_readRuns_68 rfl rfl ?_
  obtain ⟨r8, hr8, hf⟩ := aw_bind hf
  refine aw_callSv (pc' := 73) (av := [.int l3, .int l6]) d_D_readRuns_70 rfl wc_D_107 (mD_lowest hr8) (Or.inl rfl) rfl (by decide) (Nat.le_of_ble_eq_true rfl) ⟨(Nat.le_refl 0), (Nat.le_refl 0)⟩ ?_
  refine aw_istore (pc' := 75) (L' := [some (.ref 11), none, some (.int l2), some (.int l3), some (.int l4), some (.int l5), some (.int l6), some (.int r8)]) d_D_readRuns_73 rfl (by decide) rfl ?_
  refine aw_iload_n (pc' := 76) d_D_readRuns_75 rfl rfl ?_
  refine aw_iload (pc' := 78) d_D_readRuns_76 rfl rfl ?_
  refine aw_iconst (pc' := 79) d_D_readRuns_78 rfl kc_ic_m1 ?_
  refine aw_ixor (pc' := 80) d_D_readRuns_79 rfl ?_
  refine aw_iand (pc' := 81) d_D_readRuns_80 rfl ?_
  refine aw_istore_n (pc' := 82) (L' := [some (.ref 11), none, some (.int l2), some (.int (l3 &&& (r8 ^^^ (-1 : Int32)))), some (.int l4), some (.int l5), some (.int l6), some (.int r8)]) d_D_readRuns_81 rfl (by decide) rfl ?_
  refine aw_iload (pc' := 84) d_D_readRuns_82 rfl rfl ?_
  refine aw_iconst (pc' := 85) d_D_readRuns_84 rfl kc_ic_2 ?_
  refine aw_irem (pc' := 86) d_D_readRuns_85 rfl (by decide) ?_
  refine aw_if_ne (tgt := 94) (pc' := 89) d_D_readRuns_86 (by decide) rfl (fun c10 => ?_) (fun c10 => ?_)
  · replace hf := aw_ifn c10 hf
    exact aw_weak [true, false, true, true, true, true, false, false] rfl (wD_readRuns_94 hk13 _ _ _ _ _ hf)
  · replace hf := aw_ifp c10 hf
    refine aw_iload_n (pc' := 90) d_D_readRuns_89 rfl rfl ?_
    refine aw_iload (pc' := 92) d_D_readRuns_90 rfl rfl ?_
    refine aw_ior (pc' := 93) d_D_readRuns_92 rfl ?_
    refine aw_istore_n (pc' := 94) (L' := [some (.ref 11), none, some (.int (l2 ||| r8)), some (.int (l3 &&& (r8 ^^^ (-1 : Int32)))), some (.int l4), some (.int l5), some (.int l6), some (.int r8)]) d_D_readRuns_93 rfl (by decide) rfl ?_
    exact aw_weak [true, false, true, true, true, true, false, false] rfl (wD_readRuns_94 hk13 _ _ _ _ _ hf)
set_option maxRecDepth 20000 in
theorem wD_readRuns_45 {N : Nat} {n : Nat} {r0 : me_M} {k13 : Int32 → Int32 → Int32 → Int32 → me_M → Option me_M} (hk13 : ∀ (l2 : Int32) (l3 : Int32) (l4 : Int32) (l5 : Int32) (μ : me_M), k13 l2 l3 l4 l5 μ = some r0 → AW "ArcTape$Reader" "readRuns" c_D_readRuns 8 none 3 0 0 0 (aw_is none (hC n r0)) 13 [some (.ref 11), none, some (.int l2), some (.int l3), some (.int l4), some (.int l5), none, none] [] (hC n μ) 0 0) (l2 : Int32) (l3 : Int32) (l4 : Int32) (l5 : Int32) (s0 : Int32) (μ : me_M) (hf : fD_readRuns_45 N n k13 l2 l3 l4 l5 s0 μ = some r0) : AW "ArcTape$Reader" "readRuns" c_D_readRuns 8 none 3 0 0 0 (aw_is none (hC n r0)) 45 [some (.ref 11), none, some (.int l2), some (.int l3), some (.int l4), some (.int l5), none, none] [.int s0] (hC n μ) 0 0 := by
  unfold fD_readRuns_45 at hf
  refine aw_istore (pc' := 47) (L' := [some (.ref 11), none, some (.int l2), some (.int l3), some (.int l4), some (.int l5), some (.int s0), none]) d_D_readRuns_45 rfl (by decide) rfl ?_
  refine aw_aload_n (pc' := 48) d_D_readRuns_47 rfl rfl ?_
  refine aw_iload (pc' := 50) d_D_readRuns_48 rfl rfl ?_
  refine aw_iload_n (pc' := 51) d_D_readRuns_50 rfl rfl ?_
  obtain ⟨r11, hr11, hf⟩ := aw_bind hf
  refine aw_callSv (pc' := 54) (av := [.int l3]) d_D_readRuns_51 rfl wc_D_101 (mJ_bitCount hr11) (Or.inl rfl) rfl (by decide) (Nat.le_of_ble_eq_true rfl) ⟨(Nat.le_refl 0), (Nat.le_refl 0)⟩ ?_
  refine aw_icmp_le (tgt := 61) (pc' := 57) d_D_readRuns_54 (by decide) rfl (fun c12 => ?_) (fun c12 => ?_)
  · replace hf := aw_ifp c12 hf
    refine aw_iconst (pc' := 62) d_D_readRuns_61 rfl kc_ic_0 ?_
    exact aw_weak [true, false, true, true, true, true, true, false] rfl (wD_readRuns_62 hk13 _ _ _ _ _ _ _ hf)
  · replace hf := aw_ifn c12 hf
    refine aw_iconst (pc' := 58) d_D_readRuns_57 rfl kc_ic_1 ?_
    refine aw_goto (tgt := 62) d_D_readRuns_58 (by decide) ?_
    exact aw_weak [true, false, true, true, true, true, true, false] rfl (wD_readRuns_62 hk13 _ _ _ _ _ _ _ hf)
set_option maxRecDepth 20000 in
theorem wD_readRuns_13b {N : Nat} {n : Nat} {r0 : me_M} {k13 : Int32 → Int32 → Int32 → Int32 → me_M → Option me_M} (hk13 : ∀ (l2 : Int32) (l3 : Int32) (l4 : Int32) (l5 : Int32) (μ : me_M), k13 l2 l3 l4 l5 μ = some r0 → AW "ArcTape$Reader" "readRuns" c_D_readRuns 8 none 3 0 0 0 (aw_is none (hC n r0)) 13 [some (.ref 11), none, some (.int l2), some (.int l3), some (.int l4), some (.int l5), none, none] [] (hC n μ) 0 0) (l2 : Int32) (l3 : Int32) (l4 : Int32) (l5 : Int32) (μ : me_M) (hf : fD_readRuns_13b N n k13 l2 l3 l4 l5 μ = some r0) : AW "ArcTape$Reader" "readRuns" c_D_readRuns 8 none 3 0 0 0 (aw_is none (hC n r0)) 13 [some (.ref 11), none, some (.int l2), some (.int l3), some (.int l4), some (.int l5), none, none] [] (hC n μ) 0 0 := by
  unfold fD_readRuns_13b at hf
  refine aw_iload (pc' := 15) d_D_readRuns_13 rfl rfl ?_
  refine aw_iload (pc' := 17) d_D_readRuns_15 rfl rfl ?_
  refine aw_icmp_ge (tgt := 100) (pc' := 20) d_D_readRuns_17 (by decide) rfl (fun c13 => ?_) (fun c13 => ?_)
  · replace hf := aw_ifp c13 hf
    exact aw_weak [true, false, true, true, true, false, false, false] rfl (wD_readRuns_100 _ _ _ _ hf)
  · replace hf := aw_ifn c13 hf
    refine aw_aload_n (pc' := 21) d_D_readRuns_20 rfl rfl ?_
    refine aw_get (pc' := 24) d_D_readRuns_21 rfl fl_D_45 hC_11 rfl ?_
    refine aw_if_ne (tgt := 100) (pc' := 27) d_D_readRuns_24 (by decide) rfl (fun c14 => ?_) (fun c14 => ?_)
    · replace hf := aw_ifn c14 hf
      exact aw_weak [true, false, true, true, true, false, false, false] rfl (wD_readRuns_100 _ _ _ _ hf)
    · replace hf := aw_ifp c14 hf
      refine aw_iload (pc' := 29) d_D_readRuns_27 rfl rfl ?_
      refine aw_if_ne (tgt := 39) (pc' := 32) d_D_readRuns_29 (by decide) rfl (fun c15 => ?_) (fun c15 => ?_)
      · replace hf := aw_ifn c15 hf
        refine aw_aload_n (pc' := 40) d_D_readRuns_39 rfl rfl ?_
        obtain ⟨r16, hr16, hf⟩ := aw_bind hf
        refine aw_callVv (pc' := 43) (av := []) d_D_readRuns_40 rfl wc_D_61 hC_11 (mD_nextGamma hr16) (Or.inl rfl) rfl (by decide) (Nat.le_of_ble_eq_true rfl) ⟨(Nat.le_refl 0), (Nat.le_refl 0)⟩ ?_
        refine aw_iconst (pc' := 44) d_D_readRuns_43 rfl kc_ic_1 ?_
        refine aw_iadd (pc' := 45) d_D_readRuns_44 rfl ?_
        exact aw_weak [true, false, true, true, true, true, false, false] rfl (wD_readRuns_45 hk13 _ _ _ _ _ _ hf)
      · replace hf := aw_ifp c15 hf
        refine aw_aload_n (pc' := 33) d_D_readRuns_32 rfl rfl ?_
        obtain ⟨r17, hr17, hf⟩ := aw_bind hf
        refine aw_callVv (pc' := 36) (av := []) d_D_readRuns_33 rfl wc_D_61 hC_11 (mD_nextGamma hr17) (Or.inl rfl) rfl (by decide) (Nat.le_of_ble_eq_true rfl) ⟨(Nat.le_refl 0), (Nat.le_refl 0)⟩ ?_
        refine aw_goto (tgt := 45) d_D_readRuns_36 (by decide) ?_
        exact aw_weak [true, false, true, true, true, true, false, false] rfl (wD_readRuns_45 hk13 _ _ _ _ _ _ hf)
set_option maxRecDepth 20000 in
theorem wD_readRuns_13 {N : Nat} {n : Nat} {r0 : me_M} : ∀ (F : Nat) (l2 : Int32) (l3 : Int32) (l4 : Int32) (l5 : Int32) (μ : me_M) (hf : fD_readRuns_13 N n F l2 l3 l4 l5 μ = some r0), AW "ArcTape$Reader" "readRuns" c_D_readRuns 8 none 3 0 0 0 (aw_is none (hC n r0)) 13 [some (.ref 11), none, some (.int l2), some (.int l3), some (.int l4), some (.int l5), none, none] [] (hC n μ) 0 0 := by
  intro F
  induction F with
  | zero => intro l2 l3 l4 l5 μ hf; exact aw_no hf
  | succ F ih => intro l2 l3 l4 l5 μ hf; exact wD_readRuns_13b ih l2 l3 l4 l5 μ hf
set_option maxRecDepth 20000 in
theorem mD_readRuns {N : Nat} {n : Nat} {μ : me_M} {r0 : me_M} {l1 : Int32} (hf : fD_readRuns N n l1 μ = some r0) : AM y_D_readRuns c_D_readRuns 8 none 3 0 0 0 [.ref 11, .int l1] (hC n μ) (aw_is none (hC n r0)) := by
  unfold fD_readRuns at hf
  refine AM.of (own := "ArcTape$Reader") (nm := "readRuns") (L := [some (.ref 11), some (.int l1), none, none, none, none, none, none]) rfl rfl (by decide) (Nat.le_of_ble_eq_true rfl) rfl ?_
  refine aw_iconst (pc' := 1) d_D_readRuns_0 rfl kc_ic_0 ?_
  refine aw_istore_n (pc' := 2) (L' := [some (.ref 11), some (.int l1), some (.int (0 : Int32)), none, none, none, none, none]) d_D_readRuns_1 rfl (by decide) rfl ?_
  refine aw_iload_n (pc' := 3) d_D_readRuns_2 rfl rfl ?_
  refine aw_istore_n (pc' := 4) (L' := [some (.ref 11), some (.int l1), some (.int (0 : Int32)), some (.int l1), none, none, none, none]) d_D_readRuns_3 rfl (by decide) rfl ?_
  refine aw_aload_n (pc' := 5) d_D_readRuns_4 rfl rfl ?_
  obtain ⟨r18, hr18, hf⟩ := aw_bind hf
  refine aw_callVv (pc' := 8) (av := []) d_D_readRuns_5 rfl wc_D_61 hC_11 (mD_nextGamma hr18) (Or.inl rfl) rfl (by decide) (Nat.le_of_ble_eq_true rfl) ⟨(Nat.le_refl 0), (Nat.le_refl 0)⟩ ?_
  refine aw_istore (pc' := 10) (L' := [some (.ref 11), some (.int l1), some (.int (0 : Int32)), some (.int l1), some (.int r18.1), none, none, none]) d_D_readRuns_8 rfl (by decide) rfl ?_
  refine aw_iconst (pc' := 11) d_D_readRuns_10 rfl kc_ic_0 ?_
  refine aw_istore (pc' := 13) (L' := [some (.ref 11), some (.int l1), some (.int (0 : Int32)), some (.int l1), some (.int r18.1), some (.int (0 : Int32)), none, none]) d_D_readRuns_11 rfl (by decide) rfl ?_
  exact aw_weak [true, false, true, true, true, true, false, false] rfl (wD_readRuns_13 _ _ _ _ _ _ hf)
set_option maxRecDepth 20000 in
theorem wA_within_15 {N : Nat} {h0 : aw_H} {r0 : Int32} (s0 : Int32) (hf : fA_within_15 N s0 = some r0) : AW "ArcTape" "within" c_A_within 3 (some .boolean) 0 0 0 0 (aw_is (some (.int r0)) h0) 15 [none, none, none] [.int s0] h0 0 0 := by
  unfold fA_within_15 at hf
  obtain ⟨g1, hf⟩ := aw_gz hf
  cases hf
  exact aw_zreturn rfl g1.1 d_A_within_15 (Nat.le_refl 0) (Nat.le_refl 0) ⟨rfl, rfl⟩
set_option maxRecDepth 20000 in
theorem wA_within_14 {N : Nat} {h0 : aw_H} {r0 : Int32} (hf : fA_within_14 N = some r0) : AW "ArcTape" "within" c_A_within 3 (some .boolean) 0 0 0 0 (aw_is (some (.int r0)) h0) 14 [none, none, none] [] h0 0 0 := by
  unfold fA_within_14 at hf
  refine aw_iconst (pc' := 15) d_A_within_14 rfl kc_ic_0 ?_
  exact aw_weak [false, false, false] rfl (wA_within_15 _ hf)
set_option maxRecDepth 20000 in
theorem mA_within {N : Nat} {h0 : aw_H} {r0 : Int32} {l0 : Int32} {l1 : Int32} {l2 : Int32} (hf : fA_within N l0 l1 l2 = some r0) : AM y_A_within c_A_within 3 (some .boolean) 0 0 0 0 [.int l0, .int l1, .int l2] h0 (aw_is (some (.int r0)) h0) := by
  unfold fA_within at hf
  refine AM.of (own := "ArcTape") (nm := "within") (L := [some (.int l0), some (.int l1), some (.int l2)]) rfl rfl (by decide) (Nat.le_of_ble_eq_true rfl) rfl ?_
  refine aw_iload_n (pc' := 1) d_A_within_0 rfl rfl ?_
  refine aw_iload_n (pc' := 2) d_A_within_1 rfl rfl ?_
  refine aw_icmp_lt (tgt := 14) (pc' := 5) d_A_within_2 (by decide) rfl (fun c2 => ?_) (fun c2 => ?_)
  · replace hf := aw_ifp c2 hf
    exact aw_weak [false, false, false] rfl (wA_within_14  hf)
  · replace hf := aw_ifn c2 hf
    refine aw_iload_n (pc' := 6) d_A_within_5 rfl rfl ?_
    refine aw_iload_n (pc' := 7) d_A_within_6 rfl rfl ?_
    refine aw_icmp_gt (tgt := 14) (pc' := 10) d_A_within_7 (by decide) rfl (fun c3 => ?_) (fun c3 => ?_)
    · replace hf := aw_ifp c3 hf
      exact aw_weak [false, false, false] rfl (wA_within_14  hf)
    · replace hf := aw_ifn c3 hf
      refine aw_iconst (pc' := 11) d_A_within_10 rfl kc_ic_1 ?_
      refine aw_goto (tgt := 15) d_A_within_11 (by decide) ?_
      exact aw_weak [false, false, false] rfl (wA_within_15 _ hf)
set_option maxRecDepth 20000 in
theorem wD_readIntervals_154 {N : Nat} {n : Nat} {r0 : me_M} (μ : me_M) (hf : fD_readIntervals_154 N n μ = some r0) : AW "ArcTape$Reader" "readIntervals" c_D_readIntervals 6 none 3 0 0 0 (aw_is none (hC n r0)) 154 [none, none, none, none, none, none] [] (hC n μ) 0 0 := by
  unfold fD_readIntervals_154 at hf
  cases hf
  exact aw_return rfl d_D_readIntervals_154 (Nat.le_refl 0) (Nat.le_refl 0) ⟨rfl, rfl⟩
set_option maxRecDepth 20000 in
theorem wD_readIntervals_148 {N : Nat} {n : Nat} {r0 : me_M} {k9 : Int32 → Int32 → Int32 → me_M → Option me_M} (hk9 : ∀ (l1 : Int32) (l2 : Int32) (l3 : Int32) (μ : me_M), k9 l1 l2 l3 μ = some r0 → AW "ArcTape$Reader" "readIntervals" c_D_readIntervals 6 none 3 0 0 0 (aw_is none (hC n r0)) 9 [some (.ref 11), some (.int l1), some (.int l2), some (.int l3), none, none] [] (hC n μ) 0 0) (l1 : Int32) (l2 : Int32) (l3 : Int32) (μ : me_M) (hf : fD_readIntervals_148 N n k9 l1 l2 l3 μ = some r0) : AW "ArcTape$Reader" "readIntervals" c_D_readIntervals 6 none 3 0 0 0 (aw_is none (hC n r0)) 148 [some (.ref 11), some (.int l1), some (.int l2), some (.int l3), none, none] [] (hC n μ) 0 0 := by
  unfold fD_readIntervals_148 at hf
  refine aw_iinc (pc' := 151) (L' := [some (.ref 11), some (.int l1), some (.int l2), some (.int (l3 + (1 : Int32))), none, none]) d_D_readIntervals_148 rfl kc_ic_1 rfl (by decide) rfl ?_
  refine aw_goto (tgt := 9) d_D_readIntervals_151 (by decide) ?_
  exact aw_weak [true, true, true, true, false, false] rfl (hk9 _ _ _ _ hf)
set_option maxRecDepth 20000 in
theorem wD_readIntervals_123 {N : Nat} {n : Nat} {r0 : me_M} {k9 : Int32 → Int32 → Int32 → me_M → Option me_M} (hk9 : ∀ (l1 : Int32) (l2 : Int32) (l3 : Int32) (μ : me_M), k9 l1 l2 l3 μ = some r0 → AW "ArcTape$Reader" "readIntervals" c_D_readIntervals 6 none 3 0 0 0 (aw_is none (hC n r0)) 9 [some (.ref 11), some (.int l1), some (.int l2), some (.int l3), none, none] [] (hC n μ) 0 0) (l1 : Int32) (l2 : Int32) (l3 : Int32) (l4 : Int32) (l5 : Int32) (s1 : Int32) (μ : me_M) (hf : fD_readIntervals_123 N n k9 l1 l2 l3 l4 l5 s1 μ = some r0) : AW "ArcTape$Reader" "readIntervals" c_D_readIntervals 6 none 3 0 0 0 (aw_is none (hC n r0)) 123 [some (.ref 11), some (.int l1), some (.int l2), some (.int l3), some (.int l4), some (.int l5)] [.int s1, .ref 11] (hC n μ) 0 0 := by
  unfold fD_readIntervals_123 at hf
  refine aw_bipush (pc' := 125) d_D_readIntervals_123 rfl kc_bi_7 ?_
  obtain ⟨r1, hr1, hf⟩ := aw_bind hf
  refine aw_callVn (pc' := 128) (av := [.int s1, .int (7 : Int32)]) d_D_readIntervals_125 rfl wc_D_68 hC_11 (mD_failIf hr1) (Or.inl rfl) rfl (by decide) (Nat.le_of_ble_eq_true rfl) ⟨(Nat.le_refl 0), (Nat.le_refl 0)⟩ ?_
  refine aw_aload_n (pc' := 129) d_D_readIntervals_128 rfl rfl ?_
  refine aw_get (pc' := 132) d_D_readIntervals_129 rfl fl_D_45 hC_11 rfl ?_
  refine aw_if_ne (tgt := 148) (pc' := 135) d_D_readIntervals_132 (by decide) rfl (fun c2 => ?_) (fun c2 => ?_)
  · replace hf := aw_ifn c2 hf
    exact aw_weak [true, true, true, true, false, false] rfl (wD_readIntervals_148 hk9 _ _ _ _ hf)
  · replace hf := aw_ifp c2 hf
    refine aw_aload_n (pc' := 136) d_D_readIntervals_135 rfl rfl ?_
    refine aw_iconst (pc' := 137) d_D_readIntervals_136 rfl kc_ic_1 ?_
    refine aw_iload (pc' := 139) d_D_readIntervals_137 rfl rfl ?_
    refine aw_ishl (pc' := 140) d_D_readIntervals_139 rfl ?_
    refine aw_iconst (pc' := 141) d_D_readIntervals_140 rfl kc_ic_1 ?_
    refine aw_isub (pc' := 142) d_D_readIntervals_141 rfl ?_
    refine aw_iload (pc' := 144) d_D_readIntervals_142 rfl rfl ?_
    refine aw_ishl (pc' := 145) d_D_readIntervals_144 rfl ?_
    obtain ⟨r3, hr3, hf⟩ := aw_bind hf
    refine aw_callVn (pc' := 148) (av := [.int ((((1 : Int32) <<< (l5 &&& 31)) - (1 : Int32)) <<< (l4 &&& 31))]) d_D_readIntervals_145 rfl wc_D_111 hC_11 (mD_take hr3) (Or.inl rfl) rfl (by decide) (Nat.le_of_ble_eq_true rfl) ⟨(Nat.le_refl 0), (Nat.le_refl 0)⟩ ?_
    exact aw_weak [true, true, true, true, false, false] rfl (wD_readIntervals_148 hk9 _ _ _ _ hf)
set_option maxRecDepth 20000 in
theorem wD_readIntervals_118 {N : Nat} {n : Nat} {r0 : me_M} {k9 : Int32 → Int32 → Int32 → me_M → Option me_M} (hk9 : ∀ (l1 : Int32) (l2 : Int32) (l3 : Int32) (μ : me_M), k9 l1 l2 l3 μ = some r0 → AW "ArcTape$Reader" "readIntervals" c_D_readIntervals 6 none 3 0 0 0 (aw_is none (hC n r0)) 9 [some (.ref 11), some (.int l1), some (.int l2), some (.int l3), none, none] [] (hC n μ) 0 0) (l1 : Int32) (l2 : Int32) (l3 : Int32) (l4 : Int32) (l5 : Int32) (μ : me_M) (hf : fD_readIntervals_118 N n k9 l1 l2 l3 l4 l5 μ = some r0) : AW "ArcTape$Reader" "readIntervals" c_D_readIntervals 6 none 3 0 0 0 (aw_is none (hC n r0)) 118 [some (.ref 11), some (.int l1), some (.int l2), some (.int l3), some (.int l4), some (.int l5)] [.ref 11] (hC n μ) 0 0 := by
  unfold fD_readIntervals_118 at hf
  refine aw_iconst (pc' := 119) d_D_readIntervals_118 rfl kc_ic_1 ?_
  refine aw_goto (tgt := 123) d_D_readIntervals_119 (by decide) ?_
  exact aw_weak [true, true, true, true, true, true] rfl (wD_readIntervals_123 hk9 _ _ _ _ _ _ _ hf)
set_option maxRecDepth 20000 in
theorem wD_readIntervals_71 {N : Nat} {n : Nat} {r0 : me_M} {k9 : Int32 → Int32 → Int32 → me_M → Option me_M} (hk9 : ∀ (l1 : Int32) (l2 : Int32) (l3 : Int32) (μ : me_M), k9 l1 l2 l3 μ = some r0 → AW "ArcTape$Reader" "readIntervals" c_D_readIntervals 6 none 3 0 0 0 (aw_is none (hC n r0)) 9 [some (.ref 11), some (.int l1), some (.int l2), some (.int l3), none, none] [] (hC n μ) 0 0) (l1 : Int32) (l3 : Int32) (l4 : Int32) (s1 : Int32) (μ : me_M) (hf : fD_readIntervals_71 N n k9 l1 l3 l4 s1 μ = some r0) : AW "ArcTape$Reader" "readIntervals" c_D_readIntervals 6 none 3 0 0 0 (aw_is none (hC n r0)) 71 [some (.ref 11), some (.int l1), none, some (.int l3), some (.int l4), none] [.int s1, .ref 11] (hC n μ) 0 0 := by
  unfold fD_readIntervals_71 at hf
  refine aw_bipush (pc' := 73) d_D_readIntervals_71 rfl kc_bi_7 ?_
  obtain ⟨r4, hr4, hf⟩ := aw_bind hf
  refine aw_callVn (pc' := 76) (av := [.int s1, .int (7 : Int32)]) d_D_readIntervals_73 rfl wc_D_68 hC_11 (mD_failIf hr4) (Or.inl rfl) rfl (by decide) (Nat.le_of_ble_eq_true rfl) ⟨(Nat.le_refl 0), (Nat.le_refl 0)⟩ ?_
  refine aw_aload_n (pc' := 77) d_D_readIntervals_76 rfl rfl ?_
  obtain ⟨r5, hr5, hf⟩ := aw_bind hf
  refine aw_callVv (pc' := 80) (av := []) d_D_readIntervals_77 rfl wc_D_61 hC_11 (mD_nextGamma hr5) (Or.inl rfl) rfl (by decide) (Nat.le_of_ble_eq_true rfl) ⟨(Nat.le_refl 0), (Nat.le_refl 0)⟩ ?_
  refine aw_aload_n (pc' := 81) d_D_readIntervals_80 rfl rfl ?_
  refine aw_get (pc' := 84) d_D_readIntervals_81 rfl fl_D_13 hC_11 rfl ?_
  refine aw_get (pc' := 87) d_D_readIntervals_84 rfl fl_D_86 hC_4 rfl ?_
  refine aw_iadd (pc' := 88) d_D_readIntervals_87 rfl ?_
  refine aw_istore (pc' := 90) (L' := [some (.ref 11), some (.int l1), none, some (.int l3), some (.int l4), some (.int (r5.1 + (r5.2.1 502 0)))]) d_D_readIntervals_88 rfl (by decide) rfl ?_
  refine aw_iload (pc' := 92) d_D_readIntervals_90 rfl rfl ?_
  refine aw_iload (pc' := 94) d_D_readIntervals_92 rfl rfl ?_
  refine aw_iadd (pc' := 95) d_D_readIntervals_94 rfl ?_
  refine aw_iconst (pc' := 96) d_D_readIntervals_95 rfl kc_ic_1 ?_
  refine aw_isub (pc' := 97) d_D_readIntervals_96 rfl ?_
  refine aw_istore_n (pc' := 98) (L' := [some (.ref 11), some (.int l1), some (.int ((l4 + (r5.1 + (r5.2.1 502 0))) - (1 : Int32))), some (.int l3), some (.int l4), some (.int (r5.1 + (r5.2.1 502 0)))]) d_D_readIntervals_97 rfl (by decide) rfl ?_
  refine aw_aload_n (pc' := 99) d_D_readIntervals_98 rfl rfl ?_
  refine aw_iload_n (pc' := 100) d_D_readIntervals_99 rfl rfl ?_
  refine aw_aload_n (pc' := 101) d_D_readIntervals_100 rfl rfl ?_
  refine aw_get (pc' := 104) d_D_readIntervals_101 rfl fl_D_7 hC_11 rfl ?_
  refine aw_iconst (pc' := 105) d_D_readIntervals_104 rfl kc_ic_1 ?_
  refine aw_isub (pc' := 106) d_D_readIntervals_105 rfl ?_
  refine aw_icmp_gt (tgt := 118) (pc' := 109) d_D_readIntervals_106 (by decide) rfl (fun c6 => ?_) (fun c6 => ?_)
  · replace hf := aw_ifp c6 hf
    exact aw_weak [true, true, true, true, true, true] rfl (wD_readIntervals_118 hk9 _ _ _ _ _ _ hf)
  · replace hf := aw_ifn c6 hf
    refine aw_iload (pc' := 111) d_D_readIntervals_109 rfl rfl ?_
    refine aw_aload_n (pc' := 112) d_D_readIntervals_111 rfl rfl ?_
    refine aw_get (pc' := 115) d_D_readIntervals_112 rfl fl_D_65 hC_11 rfl ?_
    refine aw_icmp_le (tgt := 122) (pc' := 118) d_D_readIntervals_115 (by decide) rfl (fun c7 => ?_) (fun c7 => ?_)
    · replace hf := aw_ifp c7 hf
      refine aw_iconst (pc' := 123) d_D_readIntervals_122 rfl kc_ic_0 ?_
      exact aw_weak [true, true, true, true, true, true] rfl (wD_readIntervals_123 hk9 _ _ _ _ _ _ _ hf)
    · replace hf := aw_ifn c7 hf
      exact aw_weak [true, true, true, true, true, true] rfl (wD_readIntervals_118 hk9 _ _ _ _ _ _ hf)
set_option maxRecDepth 20000 in
theorem wD_readIntervals_48 {N : Nat} {n : Nat} {r0 : me_M} {k9 : Int32 → Int32 → Int32 → me_M → Option me_M} (hk9 : ∀ (l1 : Int32) (l2 : Int32) (l3 : Int32) (μ : me_M), k9 l1 l2 l3 μ = some r0 → AW "ArcTape$Reader" "readIntervals" c_D_readIntervals 6 none 3 0 0 0 (aw_is none (hC n r0)) 9 [some (.ref 11), some (.int l1), some (.int l2), some (.int l3), none, none] [] (hC n μ) 0 0) (l1 : Int32) (l3 : Int32) (s0 : Int32) (μ : me_M) (hf : fD_readIntervals_48 N n k9 l1 l3 s0 μ = some r0) : AW "ArcTape$Reader" "readIntervals" c_D_readIntervals 6 none 3 0 0 0 (aw_is none (hC n r0)) 48 [some (.ref 11), some (.int l1), none, some (.int l3), none, none] [.int s0] (hC n μ) 0 0 := by
  unfold fD_readIntervals_48 at hf
  refine aw_istore (pc' := 50) (L' := [some (.ref 11), some (.int l1), none, some (.int l3), some (.int s0), none]) d_D_readIntervals_48 rfl (by decide) rfl ?_
  refine aw_aload_n (pc' := 51) d_D_readIntervals_50 rfl rfl ?_
  refine aw_iload (pc' := 53) d_D_readIntervals_51 rfl rfl ?_
  refine aw_iconst (pc' := 54) d_D_readIntervals_53 rfl kc_ic_0 ?_
  refine aw_aload_n (pc' := 55) d_D_readIntervals_54 rfl rfl ?_
  refine aw_get (pc' := 58) d_D_readIntervals_55 rfl fl_D_7 hC_11 rfl ?_
  refine aw_iconst (pc' := 59) d_D_readIntervals_58 rfl kc_ic_1 ?_
  refine aw_isub (pc' := 60) d_D_readIntervals_59 rfl ?_
  obtain ⟨r8, hr8, hf⟩ := aw_bind hf
  refine aw_callNv (pc' := 63) (av := [.int s0, .int (0 : Int32), .int ((nI n) - (1 : Int32))]) d_D_readIntervals_60 rfl wc_D_119 (mA_within hr8) (Or.inl rfl) rfl (by decide) (Nat.le_of_ble_eq_true rfl) ⟨(Nat.le_refl 0), (Nat.le_refl 0)⟩ ?_
  refine aw_if_ne (tgt := 70) (pc' := 66) d_D_readIntervals_63 (by decide) rfl (fun c9 => ?_) (fun c9 => ?_)
  · replace hf := aw_ifn c9 hf
    refine aw_iconst (pc' := 71) d_D_readIntervals_70 rfl kc_ic_0 ?_
    exact aw_weak [true, true, false, true, true, false] rfl (wD_readIntervals_71 hk9 _ _ _ _ _ hf)
  · replace hf := aw_ifp c9 hf
    refine aw_iconst (pc' := 67) d_D_readIntervals_66 rfl kc_ic_1 ?_
    refine aw_goto (tgt := 71) d_D_readIntervals_67 (by decide) ?_
    exact aw_weak [true, true, false, true, true, false] rfl (wD_readIntervals_71 hk9 _ _ _ _ _ hf)
set_option maxRecDepth 20000 in
theorem wD_readIntervals_9b {N : Nat} {n : Nat} {r0 : me_M} {k9 : Int32 → Int32 → Int32 → me_M → Option me_M} (hk9 : ∀ (l1 : Int32) (l2 : Int32) (l3 : Int32) (μ : me_M), k9 l1 l2 l3 μ = some r0 → AW "ArcTape$Reader" "readIntervals" c_D_readIntervals 6 none 3 0 0 0 (aw_is none (hC n r0)) 9 [some (.ref 11), some (.int l1), some (.int l2), some (.int l3), none, none] [] (hC n μ) 0 0) (l1 : Int32) (l2 : Int32) (l3 : Int32) (μ : me_M) (hf : fD_readIntervals_9b N n k9 l1 l2 l3 μ = some r0) : AW "ArcTape$Reader" "readIntervals" c_D_readIntervals 6 none 3 0 0 0 (aw_is none (hC n r0)) 9 [some (.ref 11), some (.int l1), some (.int l2), some (.int l3), none, none] [] (hC n μ) 0 0 := by
  unfold fD_readIntervals_9b at hf
  refine aw_iload_n (pc' := 10) d_D_readIntervals_9 rfl rfl ?_
  refine aw_iload_n (pc' := 11) d_D_readIntervals_10 rfl rfl ?_
  refine aw_icmp_ge (tgt := 154) (pc' := 14) d_D_readIntervals_11 (by decide) rfl (fun c10 => ?_) (fun c10 => ?_)
  · replace hf := aw_ifp c10 hf
    exact aw_weak [false, false, false, false, false, false] rfl (wD_readIntervals_154 _ hf)
  · replace hf := aw_ifn c10 hf
    refine aw_aload_n (pc' := 15) d_D_readIntervals_14 rfl rfl ?_
    refine aw_get (pc' := 18) d_D_readIntervals_15 rfl fl_D_45 hC_11 rfl ?_
    refine aw_if_ne (tgt := 154) (pc' := 21) d_D_readIntervals_18 (by decide) rfl (fun c11 => ?_) (fun c11 => ?_)
    · replace hf := aw_ifn c11 hf
      exact aw_weak [false, false, false, false, false, false] rfl (wD_readIntervals_154 _ hf)
    · replace hf := aw_ifp c11 hf
      refine aw_iload_n (pc' := 22) d_D_readIntervals_21 rfl rfl ?_
      refine aw_if_ne (tgt := 40) (pc' := 25) d_D_readIntervals_22 (by decide) rfl (fun c12 => ?_) (fun c12 => ?_)
      · replace hf := aw_ifn c12 hf
        refine aw_iload_n (pc' := 41) d_D_readIntervals_40 rfl rfl ?_
        refine aw_iconst (pc' := 42) d_D_readIntervals_41 rfl kc_ic_2 ?_
        refine aw_iadd (pc' := 43) d_D_readIntervals_42 rfl ?_
        refine aw_aload_n (pc' := 44) d_D_readIntervals_43 rfl rfl ?_
        obtain ⟨r13, hr13, hf⟩ := aw_bind hf
        refine aw_callVv (pc' := 47) (av := []) d_D_readIntervals_44 rfl wc_D_61 hC_11 (mD_nextGamma hr13) (Or.inl rfl) rfl (by decide) (Nat.le_of_ble_eq_true rfl) ⟨(Nat.le_refl 0), (Nat.le_refl 0)⟩ ?_
        refine aw_iadd (pc' := 48) d_D_readIntervals_47 rfl ?_
        exact aw_weak [true, true, false, true, false, false] rfl (wD_readIntervals_48 hk9 _ _ _ _ hf)
      · replace hf := aw_ifp c12 hf
        refine aw_aload_n (pc' := 26) d_D_readIntervals_25 rfl rfl ?_
        refine aw_get (pc' := 29) d_D_readIntervals_26 rfl fl_D_34 hC_11 rfl ?_
        refine aw_aload_n (pc' := 30) d_D_readIntervals_29 rfl rfl ?_
        obtain ⟨r14, hr14, hf⟩ := aw_bind hf
        refine aw_callVv (pc' := 33) (av := []) d_D_readIntervals_30 rfl wc_D_61 hC_11 (mD_nextGamma hr14) (Or.inl rfl) rfl (by decide) (Nat.le_of_ble_eq_true rfl) ⟨(Nat.le_refl 0), (Nat.le_refl 0)⟩ ?_
        obtain ⟨r15, hr15, hf⟩ := aw_bind hf
        refine aw_callSv (pc' := 36) (av := [.int r14.1]) d_D_readIntervals_33 rfl wc_D_114 (mT_withSign hr15) (Or.inl rfl) rfl (by decide) (Nat.le_of_ble_eq_true rfl) ⟨(Nat.le_refl 0), (Nat.le_refl 0)⟩ ?_
        refine aw_iadd (pc' := 37) d_D_readIntervals_36 rfl ?_
        refine aw_goto (tgt := 48) d_D_readIntervals_37 (by decide) ?_
        exact aw_weak [true, true, false, true, false, false] rfl (wD_readIntervals_48 hk9 _ _ _ _ hf)
set_option maxRecDepth 20000 in
theorem wD_readIntervals_9 {N : Nat} {n : Nat} {r0 : me_M} : ∀ (F : Nat) (l1 : Int32) (l2 : Int32) (l3 : Int32) (μ : me_M) (hf : fD_readIntervals_9 N n F l1 l2 l3 μ = some r0), AW "ArcTape$Reader" "readIntervals" c_D_readIntervals 6 none 3 0 0 0 (aw_is none (hC n r0)) 9 [some (.ref 11), some (.int l1), some (.int l2), some (.int l3), none, none] [] (hC n μ) 0 0 := by
  intro F
  induction F with
  | zero => intro l1 l2 l3 μ hf; exact aw_no hf
  | succ F ih => intro l1 l2 l3 μ hf; exact wD_readIntervals_9b ih l1 l2 l3 μ hf
set_option maxRecDepth 20000 in
theorem mD_readIntervals {N : Nat} {n : Nat} {μ : me_M} {r0 : me_M} (hf : fD_readIntervals N n μ = some r0) : AM y_D_readIntervals c_D_readIntervals 6 none 3 0 0 0 [.ref 11] (hC n μ) (aw_is none (hC n r0)) := by
  unfold fD_readIntervals at hf
  refine AM.of (own := "ArcTape$Reader") (nm := "readIntervals") (L := [some (.ref 11), none, none, none, none, none]) rfl rfl (by decide) (Nat.le_of_ble_eq_true rfl) rfl ?_
  refine aw_aload_n (pc' := 1) d_D_readIntervals_0 rfl rfl ?_
  obtain ⟨r16, hr16, hf⟩ := aw_bind hf
  refine aw_callVv (pc' := 4) (av := []) d_D_readIntervals_1 rfl wc_D_61 hC_11 (mD_nextGamma hr16) (Or.inl rfl) rfl (by decide) (Nat.le_of_ble_eq_true rfl) ⟨(Nat.le_refl 0), (Nat.le_refl 0)⟩ ?_
  refine aw_istore_n (pc' := 5) (L' := [some (.ref 11), some (.int r16.1), none, none, none, none]) d_D_readIntervals_4 rfl (by decide) rfl ?_
  refine aw_iconst (pc' := 6) d_D_readIntervals_5 rfl kc_ic_0 ?_
  refine aw_istore_n (pc' := 7) (L' := [some (.ref 11), some (.int r16.1), some (.int (0 : Int32)), none, none, none]) d_D_readIntervals_6 rfl (by decide) rfl ?_
  refine aw_iconst (pc' := 8) d_D_readIntervals_7 rfl kc_ic_0 ?_
  refine aw_istore_n (pc' := 9) (L' := [some (.ref 11), some (.int r16.1), some (.int (0 : Int32)), some (.int (0 : Int32)), none, none]) d_D_readIntervals_8 rfl (by decide) rfl ?_
  exact aw_weak [true, true, true, true, false, false] rfl (wD_readIntervals_9 _ _ _ _ _ hf)
set_option maxRecDepth 20000 in
theorem wD_nextZeta_63 {N : Nat} {n : Nat} {r0 : (Int32 × me_M)} (s0 : Int32) (μ : me_M) (hf : fD_nextZeta_63 N n s0 μ = some r0) : AW "ArcTape$Reader" "nextZeta" c_D_nextZeta 4 (some .int) 2 0 0 0 (aw_is (some (.int r0.1)) (hC n r0.2)) 63 [none, none, none, none] [.int s0] (hC n μ) 0 0 := by
  unfold fD_nextZeta_63 at hf
  cases hf
  exact aw_ireturn rfl d_D_nextZeta_63 (Nat.le_refl 0) (Nat.le_refl 0) ⟨rfl, rfl⟩
set_option maxRecDepth 20000 in
theorem mD_nextZeta {N : Nat} {n : Nat} {μ : me_M} {r0 : (Int32 × me_M)} (hf : fD_nextZeta N n μ = some r0) : AM y_D_nextZeta c_D_nextZeta 4 (some .int) 2 0 0 0 [.ref 11] (hC n μ) (aw_is (some (.int r0.1)) (hC n r0.2)) := by
  unfold fD_nextZeta at hf
  refine AM.of (own := "ArcTape$Reader") (nm := "nextZeta") (L := [some (.ref 11), none, none, none]) rfl rfl (by decide) (Nat.le_of_ble_eq_true rfl) rfl ?_
  refine aw_aload_n (pc' := 1) d_D_nextZeta_0 rfl rfl ?_
  obtain ⟨r1, hr1, hf⟩ := aw_bind hf
  refine aw_callVv (pc' := 4) (av := []) d_D_nextZeta_1 rfl wc_D_95 hC_11 (mD_nextUnary hr1) (Or.inl rfl) rfl (by decide) (Nat.le_of_ble_eq_true rfl) ⟨(Nat.le_refl 0), (Nat.le_refl 0)⟩ ?_
  refine aw_istore_n (pc' := 5) (L' := [some (.ref 11), some (.int r1.1), none, none]) d_D_nextZeta_4 rfl (by decide) rfl ?_
  refine aw_iconst (pc' := 6) d_D_nextZeta_5 rfl kc_ic_1 ?_
  refine aw_iload_n (pc' := 7) d_D_nextZeta_6 rfl rfl ?_
  refine aw_aload_n (pc' := 8) d_D_nextZeta_7 rfl rfl ?_
  refine aw_get (pc' := 11) d_D_nextZeta_8 rfl fl_D_13 hC_11 rfl ?_
  refine aw_get (pc' := 14) d_D_nextZeta_11 rfl fl_D_141 hC_4 rfl ?_
  refine aw_imul (pc' := 15) d_D_nextZeta_14 rfl ?_
  refine aw_ishl (pc' := 16) d_D_nextZeta_15 rfl ?_
  refine aw_istore_n (pc' := 17) (L' := [some (.ref 11), some (.int r1.1), some (.int ((1 : Int32) <<< ((r1.1 * (r1.2.1 503 0)) &&& 31))), none]) d_D_nextZeta_16 rfl (by decide) rfl ?_
  refine aw_aload_n (pc' := 18) d_D_nextZeta_17 rfl rfl ?_
  refine aw_iconst (pc' := 19) d_D_nextZeta_18 rfl kc_ic_0 ?_
  refine aw_iload_n (pc' := 20) d_D_nextZeta_19 rfl rfl ?_
  refine aw_aload_n (pc' := 21) d_D_nextZeta_20 rfl rfl ?_
  refine aw_get (pc' := 24) d_D_nextZeta_21 rfl fl_D_13 hC_11 rfl ?_
  refine aw_get (pc' := 27) d_D_nextZeta_24 rfl fl_D_141 hC_4 rfl ?_
  refine aw_imul (pc' := 28) d_D_nextZeta_27 rfl ?_
  refine aw_aload_n (pc' := 29) d_D_nextZeta_28 rfl rfl ?_
  refine aw_get (pc' := 32) d_D_nextZeta_29 rfl fl_D_13 hC_11 rfl ?_
  refine aw_get (pc' := 35) d_D_nextZeta_32 rfl fl_D_141 hC_4 rfl ?_
  refine aw_iadd (pc' := 36) d_D_nextZeta_35 rfl ?_
  refine aw_iconst (pc' := 37) d_D_nextZeta_36 rfl kc_ic_1 ?_
  refine aw_isub (pc' := 38) d_D_nextZeta_37 rfl ?_
  obtain ⟨r2, hr2, hf⟩ := aw_bind hf
  refine aw_callVv (pc' := 41) (av := [.int (0 : Int32), .int (((r1.1 * (r1.2.1 503 0)) + (r1.2.1 503 0)) - (1 : Int32))]) d_D_nextZeta_38 rfl wc_D_138 hC_11 (mD_nextNumber hr2) (Or.inl rfl) rfl (by decide) (Nat.le_of_ble_eq_true rfl) ⟨(Nat.le_refl 0), (Nat.le_refl 0)⟩ ?_
  refine aw_istore_n (pc' := 42) (L' := [some (.ref 11), some (.int r1.1), some (.int ((1 : Int32) <<< ((r1.1 * (r1.2.1 503 0)) &&& 31))), some (.int r2.1)]) d_D_nextZeta_41 rfl (by decide) rfl ?_
  refine aw_iload_n (pc' := 43) d_D_nextZeta_42 rfl rfl ?_
  refine aw_iload_n (pc' := 44) d_D_nextZeta_43 rfl rfl ?_
  refine aw_icmp_ge (tgt := 55) (pc' := 47) d_D_nextZeta_44 (by decide) rfl (fun c3 => ?_) (fun c3 => ?_)
  · replace hf := aw_ifp c3 hf
    refine aw_aload_n (pc' := 56) d_D_nextZeta_55 rfl rfl ?_
    refine aw_iload_n (pc' := 57) d_D_nextZeta_56 rfl rfl ?_
    refine aw_iconst (pc' := 58) d_D_nextZeta_57 rfl kc_ic_1 ?_
    obtain ⟨r4, hr4, hf⟩ := aw_bind hf
    refine aw_callVv (pc' := 61) (av := [.int r2.1, .int (1 : Int32)]) d_D_nextZeta_58 rfl wc_D_138 hC_11 (mD_nextNumber hr4) (Or.inl rfl) rfl (by decide) (Nat.le_of_ble_eq_true rfl) ⟨(Nat.le_refl 0), (Nat.le_refl 0)⟩ ?_
    refine aw_iconst (pc' := 62) d_D_nextZeta_61 rfl kc_ic_1 ?_
    refine aw_isub (pc' := 63) d_D_nextZeta_62 rfl ?_
    exact aw_weak [false, false, false, false] rfl (wD_nextZeta_63 _ _ hf)
  · replace hf := aw_ifn c3 hf
    refine aw_iload_n (pc' := 48) d_D_nextZeta_47 rfl rfl ?_
    refine aw_iload_n (pc' := 49) d_D_nextZeta_48 rfl rfl ?_
    refine aw_iadd (pc' := 50) d_D_nextZeta_49 rfl ?_
    refine aw_iconst (pc' := 51) d_D_nextZeta_50 rfl kc_ic_1 ?_
    refine aw_isub (pc' := 52) d_D_nextZeta_51 rfl ?_
    refine aw_goto (tgt := 63) d_D_nextZeta_52 (by decide) ?_
    exact aw_weak [false, false, false, false] rfl (wD_nextZeta_63 _ _ hf)
set_option maxRecDepth 20000 in
theorem wD_readSingles_94 {N : Nat} {n : Nat} {r0 : me_M} (μ : me_M) (hf : fD_readSingles_94 N n μ = some r0) : AW "ArcTape$Reader" "readSingles" c_D_readSingles 4 none 3 0 0 0 (aw_is none (hC n r0)) 94 [none, none, none, none] [] (hC n μ) 0 0 := by
  unfold fD_readSingles_94 at hf
  cases hf
  exact aw_return rfl d_D_readSingles_94 (Nat.le_refl 0) (Nat.le_refl 0) ⟨rfl, rfl⟩
set_option maxRecDepth 20000 in
theorem wD_readSingles_88 {N : Nat} {n : Nat} {r0 : me_M} {k9 : Int32 → Int32 → Int32 → me_M → Option me_M} (hk9 : ∀ (l1 : Int32) (l2 : Int32) (l3 : Int32) (μ : me_M), k9 l1 l2 l3 μ = some r0 → AW "ArcTape$Reader" "readSingles" c_D_readSingles 4 none 3 0 0 0 (aw_is none (hC n r0)) 9 [some (.ref 11), some (.int l1), some (.int l2), some (.int l3)] [] (hC n μ) 0 0) (l1 : Int32) (l2 : Int32) (l3 : Int32) (μ : me_M) (hf : fD_readSingles_88 N n k9 l1 l2 l3 μ = some r0) : AW "ArcTape$Reader" "readSingles" c_D_readSingles 4 none 3 0 0 0 (aw_is none (hC n r0)) 88 [some (.ref 11), some (.int l1), some (.int l2), some (.int l3)] [] (hC n μ) 0 0 := by
  unfold fD_readSingles_88 at hf
  refine aw_iinc (pc' := 91) (L' := [some (.ref 11), some (.int l1), some (.int l2), some (.int (l3 + (1 : Int32)))]) d_D_readSingles_88 rfl kc_ic_1 rfl (by decide) rfl ?_
  refine aw_goto (tgt := 9) d_D_readSingles_91 (by decide) ?_
  exact aw_weak [true, true, true, true] rfl (hk9 _ _ _ _ hf)
set_option maxRecDepth 20000 in
theorem wD_readSingles_69 {N : Nat} {n : Nat} {r0 : me_M} {k9 : Int32 → Int32 → Int32 → me_M → Option me_M} (hk9 : ∀ (l1 : Int32) (l2 : Int32) (l3 : Int32) (μ : me_M), k9 l1 l2 l3 μ = some r0 → AW "ArcTape$Reader" "readSingles" c_D_readSingles 4 none 3 0 0 0 (aw_is none (hC n r0)) 9 [some (.ref 11), some (.int l1), some (.int l2), some (.int l3)] [] (hC n μ) 0 0) (l1 : Int32) (l2 : Int32) (l3 : Int32) (s1 : Int32) (μ : me_M) (hf : fD_readSingles_69 N n k9 l1 l2 l3 s1 μ = some r0) : AW "ArcTape$Reader" "readSingles" c_D_readSingles 4 none 3 0 0 0 (aw_is none (hC n r0)) 69 [some (.ref 11), some (.int l1), some (.int l2), some (.int l3)] [.int s1, .ref 11] (hC n μ) 0 0 := by
  unfold fD_readSingles_69 at hf
  refine aw_bipush (pc' := 71) d_D_readSingles_69 rfl kc_bi_8 ?_
  obtain ⟨r1, hr1, hf⟩ := aw_bind hf
  refine aw_callVn (pc' := 74) (av := [.int s1, .int (8 : Int32)]) d_D_readSingles_71 rfl wc_D_68 hC_11 (mD_failIf hr1) (Or.inl rfl) rfl (by decide) (Nat.le_of_ble_eq_true rfl) ⟨(Nat.le_refl 0), (Nat.le_refl 0)⟩ ?_
  refine aw_aload_n (pc' := 75) d_D_readSingles_74 rfl rfl ?_
  refine aw_get (pc' := 78) d_D_readSingles_75 rfl fl_D_45 hC_11 rfl ?_
  refine aw_if_ne (tgt := 88) (pc' := 81) d_D_readSingles_78 (by decide) rfl (fun c2 => ?_) (fun c2 => ?_)
  · replace hf := aw_ifn c2 hf
    exact aw_weak [true, true, true, true] rfl (wD_readSingles_88 hk9 _ _ _ _ hf)
  · replace hf := aw_ifp c2 hf
    refine aw_aload_n (pc' := 82) d_D_readSingles_81 rfl rfl ?_
    refine aw_iconst (pc' := 83) d_D_readSingles_82 rfl kc_ic_1 ?_
    refine aw_iload_n (pc' := 84) d_D_readSingles_83 rfl rfl ?_
    refine aw_ishl (pc' := 85) d_D_readSingles_84 rfl ?_
    obtain ⟨r3, hr3, hf⟩ := aw_bind hf
    refine aw_callVn (pc' := 88) (av := [.int ((1 : Int32) <<< (l2 &&& 31))]) d_D_readSingles_85 rfl wc_D_111 hC_11 (mD_take hr3) (Or.inl rfl) rfl (by decide) (Nat.le_of_ble_eq_true rfl) ⟨(Nat.le_refl 0), (Nat.le_refl 0)⟩ ?_
    exact aw_weak [true, true, true, true] rfl (wD_readSingles_88 hk9 _ _ _ _ hf)
set_option maxRecDepth 20000 in
theorem wD_readSingles_48 {N : Nat} {n : Nat} {r0 : me_M} {k9 : Int32 → Int32 → Int32 → me_M → Option me_M} (hk9 : ∀ (l1 : Int32) (l2 : Int32) (l3 : Int32) (μ : me_M), k9 l1 l2 l3 μ = some r0 → AW "ArcTape$Reader" "readSingles" c_D_readSingles 4 none 3 0 0 0 (aw_is none (hC n r0)) 9 [some (.ref 11), some (.int l1), some (.int l2), some (.int l3)] [] (hC n μ) 0 0) (l1 : Int32) (l3 : Int32) (s0 : Int32) (μ : me_M) (hf : fD_readSingles_48 N n k9 l1 l3 s0 μ = some r0) : AW "ArcTape$Reader" "readSingles" c_D_readSingles 4 none 3 0 0 0 (aw_is none (hC n r0)) 48 [some (.ref 11), some (.int l1), none, some (.int l3)] [.int s0] (hC n μ) 0 0 := by
  unfold fD_readSingles_48 at hf
  refine aw_istore_n (pc' := 49) (L' := [some (.ref 11), some (.int l1), some (.int s0), some (.int l3)]) d_D_readSingles_48 rfl (by decide) rfl ?_
  refine aw_aload_n (pc' := 50) d_D_readSingles_49 rfl rfl ?_
  refine aw_iload_n (pc' := 51) d_D_readSingles_50 rfl rfl ?_
  refine aw_iconst (pc' := 52) d_D_readSingles_51 rfl kc_ic_0 ?_
  refine aw_aload_n (pc' := 53) d_D_readSingles_52 rfl rfl ?_
  refine aw_get (pc' := 56) d_D_readSingles_53 rfl fl_D_7 hC_11 rfl ?_
  refine aw_iconst (pc' := 57) d_D_readSingles_56 rfl kc_ic_1 ?_
  refine aw_isub (pc' := 58) d_D_readSingles_57 rfl ?_
  obtain ⟨r4, hr4, hf⟩ := aw_bind hf
  refine aw_callNv (pc' := 61) (av := [.int s0, .int (0 : Int32), .int ((nI n) - (1 : Int32))]) d_D_readSingles_58 rfl wc_D_119 (mA_within hr4) (Or.inl rfl) rfl (by decide) (Nat.le_of_ble_eq_true rfl) ⟨(Nat.le_refl 0), (Nat.le_refl 0)⟩ ?_
  refine aw_if_ne (tgt := 68) (pc' := 64) d_D_readSingles_61 (by decide) rfl (fun c5 => ?_) (fun c5 => ?_)
  · replace hf := aw_ifn c5 hf
    refine aw_iconst (pc' := 69) d_D_readSingles_68 rfl kc_ic_0 ?_
    exact aw_weak [true, true, true, true] rfl (wD_readSingles_69 hk9 _ _ _ _ _ hf)
  · replace hf := aw_ifp c5 hf
    refine aw_iconst (pc' := 65) d_D_readSingles_64 rfl kc_ic_1 ?_
    refine aw_goto (tgt := 69) d_D_readSingles_65 (by decide) ?_
    exact aw_weak [true, true, true, true] rfl (wD_readSingles_69 hk9 _ _ _ _ _ hf)
set_option maxRecDepth 20000 in
theorem wD_readSingles_9b {N : Nat} {n : Nat} {r0 : me_M} {k9 : Int32 → Int32 → Int32 → me_M → Option me_M} (hk9 : ∀ (l1 : Int32) (l2 : Int32) (l3 : Int32) (μ : me_M), k9 l1 l2 l3 μ = some r0 → AW "ArcTape$Reader" "readSingles" c_D_readSingles 4 none 3 0 0 0 (aw_is none (hC n r0)) 9 [some (.ref 11), some (.int l1), some (.int l2), some (.int l3)] [] (hC n μ) 0 0) (l1 : Int32) (l2 : Int32) (l3 : Int32) (μ : me_M) (hf : fD_readSingles_9b N n k9 l1 l2 l3 μ = some r0) : AW "ArcTape$Reader" "readSingles" c_D_readSingles 4 none 3 0 0 0 (aw_is none (hC n r0)) 9 [some (.ref 11), some (.int l1), some (.int l2), some (.int l3)] [] (hC n μ) 0 0 := by
  unfold fD_readSingles_9b at hf
  refine aw_iload_n (pc' := 10) d_D_readSingles_9 rfl rfl ?_
  refine aw_iload_n (pc' := 11) d_D_readSingles_10 rfl rfl ?_
  refine aw_icmp_ge (tgt := 94) (pc' := 14) d_D_readSingles_11 (by decide) rfl (fun c6 => ?_) (fun c6 => ?_)
  · replace hf := aw_ifp c6 hf
    exact aw_weak [false, false, false, false] rfl (wD_readSingles_94 _ hf)
  · replace hf := aw_ifn c6 hf
    refine aw_aload_n (pc' := 15) d_D_readSingles_14 rfl rfl ?_
    refine aw_get (pc' := 18) d_D_readSingles_15 rfl fl_D_45 hC_11 rfl ?_
    refine aw_if_ne (tgt := 94) (pc' := 21) d_D_readSingles_18 (by decide) rfl (fun c7 => ?_) (fun c7 => ?_)
    · replace hf := aw_ifn c7 hf
      exact aw_weak [false, false, false, false] rfl (wD_readSingles_94 _ hf)
    · replace hf := aw_ifp c7 hf
      refine aw_iload_n (pc' := 22) d_D_readSingles_21 rfl rfl ?_
      refine aw_if_ne (tgt := 40) (pc' := 25) d_D_readSingles_22 (by decide) rfl (fun c8 => ?_) (fun c8 => ?_)
      · replace hf := aw_ifn c8 hf
        refine aw_iload_n (pc' := 41) d_D_readSingles_40 rfl rfl ?_
        refine aw_iconst (pc' := 42) d_D_readSingles_41 rfl kc_ic_1 ?_
        refine aw_iadd (pc' := 43) d_D_readSingles_42 rfl ?_
        refine aw_aload_n (pc' := 44) d_D_readSingles_43 rfl rfl ?_
        obtain ⟨r9, hr9, hf⟩ := aw_bind hf
        refine aw_callVv (pc' := 47) (av := []) d_D_readSingles_44 rfl wc_D_125 hC_11 (mD_nextZeta hr9) (Or.inl rfl) rfl (by decide) (Nat.le_of_ble_eq_true rfl) ⟨(Nat.le_refl 0), (Nat.le_refl 0)⟩ ?_
        refine aw_iadd (pc' := 48) d_D_readSingles_47 rfl ?_
        exact aw_weak [true, true, false, true] rfl (wD_readSingles_48 hk9 _ _ _ _ hf)
      · replace hf := aw_ifp c8 hf
        refine aw_aload_n (pc' := 26) d_D_readSingles_25 rfl rfl ?_
        refine aw_get (pc' := 29) d_D_readSingles_26 rfl fl_D_34 hC_11 rfl ?_
        refine aw_aload_n (pc' := 30) d_D_readSingles_29 rfl rfl ?_
        obtain ⟨r10, hr10, hf⟩ := aw_bind hf
        refine aw_callVv (pc' := 33) (av := []) d_D_readSingles_30 rfl wc_D_125 hC_11 (mD_nextZeta hr10) (Or.inl rfl) rfl (by decide) (Nat.le_of_ble_eq_true rfl) ⟨(Nat.le_refl 0), (Nat.le_refl 0)⟩ ?_
        obtain ⟨r11, hr11, hf⟩ := aw_bind hf
        refine aw_callSv (pc' := 36) (av := [.int r10.1]) d_D_readSingles_33 rfl wc_D_114 (mT_withSign hr11) (Or.inl rfl) rfl (by decide) (Nat.le_of_ble_eq_true rfl) ⟨(Nat.le_refl 0), (Nat.le_refl 0)⟩ ?_
        refine aw_iadd (pc' := 37) d_D_readSingles_36 rfl ?_
        refine aw_goto (tgt := 48) d_D_readSingles_37 (by decide) ?_
        exact aw_weak [true, true, false, true] rfl (wD_readSingles_48 hk9 _ _ _ _ hf)
set_option maxRecDepth 20000 in
theorem wD_readSingles_9 {N : Nat} {n : Nat} {r0 : me_M} : ∀ (F : Nat) (l1 : Int32) (l2 : Int32) (l3 : Int32) (μ : me_M) (hf : fD_readSingles_9 N n F l1 l2 l3 μ = some r0), AW "ArcTape$Reader" "readSingles" c_D_readSingles 4 none 3 0 0 0 (aw_is none (hC n r0)) 9 [some (.ref 11), some (.int l1), some (.int l2), some (.int l3)] [] (hC n μ) 0 0 := by
  intro F
  induction F with
  | zero => intro l1 l2 l3 μ hf; exact aw_no hf
  | succ F ih => intro l1 l2 l3 μ hf; exact wD_readSingles_9b ih l1 l2 l3 μ hf
set_option maxRecDepth 20000 in
theorem mD_readSingles {N : Nat} {n : Nat} {μ : me_M} {r0 : me_M} (hf : fD_readSingles N n μ = some r0) : AM y_D_readSingles c_D_readSingles 4 none 3 0 0 0 [.ref 11] (hC n μ) (aw_is none (hC n r0)) := by
  unfold fD_readSingles at hf
  refine AM.of (own := "ArcTape$Reader") (nm := "readSingles") (L := [some (.ref 11), none, none, none]) rfl rfl (by decide) (Nat.le_of_ble_eq_true rfl) rfl ?_
  refine aw_aload_n (pc' := 1) d_D_readSingles_0 rfl rfl ?_
  refine aw_get (pc' := 4) d_D_readSingles_1 rfl fl_D_65 hC_11 rfl ?_
  refine aw_istore_n (pc' := 5) (L' := [some (.ref 11), some (.int (μ.1 1212 0)), none, none]) d_D_readSingles_4 rfl (by decide) rfl ?_
  refine aw_iconst (pc' := 6) d_D_readSingles_5 rfl kc_ic_0 ?_
  refine aw_istore_n (pc' := 7) (L' := [some (.ref 11), some (.int (μ.1 1212 0)), some (.int (0 : Int32)), none]) d_D_readSingles_6 rfl (by decide) rfl ?_
  refine aw_iconst (pc' := 8) d_D_readSingles_7 rfl kc_ic_0 ?_
  refine aw_istore_n (pc' := 9) (L' := [some (.ref 11), some (.int (μ.1 1212 0)), some (.int (0 : Int32)), some (.int (0 : Int32))]) d_D_readSingles_8 rfl (by decide) rfl ?_
  exact aw_weak [true, true, true, true] rfl (wD_readSingles_9 _ _ _ _ _ hf)
set_option maxRecDepth 20000 in
theorem wD_readRecord_151 {N : Nat} {n : Nat} {r0 : me_M} (s1 : Int32) (μ : me_M) (hf : fD_readRecord_151 N n s1 μ = some r0) : AW "ArcTape$Reader" "readRecord" c_D_readRecord 1 none 4 0 0 0 (aw_is none (hC n r0)) 151 [none] [.int s1, .ref 11] (hC n μ) 0 0 := by
  unfold fD_readRecord_151 at hf
  refine aw_bipush (pc' := 153) d_D_readRecord_151 rfl kc_bi_10 ?_
  obtain ⟨r1, hr1, hf⟩ := aw_bind hf
  refine aw_callVn (pc' := 156) (av := [.int s1, .int (10 : Int32)]) d_D_readRecord_153 rfl wc_D_68 hC_11 (mD_failIf hr1) (Or.inl rfl) rfl (by decide) (Nat.le_of_ble_eq_true rfl) ⟨(Nat.le_refl 0), (Nat.le_refl 0)⟩ ?_
  cases hf
  exact aw_return rfl d_D_readRecord_156 (Nat.le_refl 0) (Nat.le_refl 0) ⟨rfl, rfl⟩
set_option maxRecDepth 20000 in
theorem wD_readRecord_114 {N : Nat} {n : Nat} {r0 : me_M} (μ : me_M) (hf : fD_readRecord_114 N n μ = some r0) : AW "ArcTape$Reader" "readRecord" c_D_readRecord 1 none 4 0 0 0 (aw_is none (hC n r0)) 114 [some (.ref 11)] [] (hC n μ) 0 0 := by
  unfold fD_readRecord_114 at hf
  refine aw_aload_n (pc' := 115) d_D_readRecord_114 rfl rfl ?_
  refine aw_aload_n (pc' := 116) d_D_readRecord_115 rfl rfl ?_
  refine aw_get (pc' := 119) d_D_readRecord_116 rfl fl_D_54 hC_11 rfl ?_
  refine aw_bipush (pc' := 121) d_D_readRecord_119 rfl kc_bi_9 ?_
  obtain ⟨r2, hr2, hf⟩ := aw_bind hf
  refine aw_callVn (pc' := 124) (av := [.int (μ.1 1213 0), .int (9 : Int32)]) d_D_readRecord_121 rfl wc_D_68 hC_11 (mD_failIf hr2) (Or.inl rfl) rfl (by decide) (Nat.le_of_ble_eq_true rfl) ⟨(Nat.le_refl 0), (Nat.le_refl 0)⟩ ?_
  refine aw_aload_n (pc' := 125) d_D_readRecord_124 rfl rfl ?_
  refine aw_aload_n (pc' := 126) d_D_readRecord_125 rfl rfl ?_
  refine aw_get (pc' := 129) d_D_readRecord_126 rfl fl_D_42 hC_11 rfl ?_
  refine aw_aload_n (pc' := 130) d_D_readRecord_129 rfl rfl ?_
  refine aw_get (pc' := 133) d_D_readRecord_130 rfl fl_D_13 hC_11 rfl ?_
  refine aw_get (pc' := 136) d_D_readRecord_133 rfl fl_D_37 hC_4 rfl ?_
  refine aw_aload_n (pc' := 137) d_D_readRecord_136 rfl rfl ?_
  refine aw_get (pc' := 140) d_D_readRecord_137 rfl fl_D_34 hC_11 rfl ?_
  refine aw_iconst (pc' := 141) d_D_readRecord_140 rfl kc_ic_1 ?_
  refine aw_iadd (pc' := 142) d_D_readRecord_141 rfl ?_
  obtain ⟨g3, hf⟩ := aw_gi hf
  refine aw_iald (pc' := 143) d_D_readRecord_142 rfl rfl hC_5 g3 ?_
  refine aw_icmp_eq (tgt := 150) (pc' := 146) d_D_readRecord_143 (by decide) rfl (fun c4 => ?_) (fun c4 => ?_)
  · replace hf := aw_ifp c4 hf
    refine aw_iconst (pc' := 151) d_D_readRecord_150 rfl kc_ic_0 ?_
    exact aw_weak [false] rfl (wD_readRecord_151 _ _ hf)
  · replace hf := aw_ifn c4 hf
    refine aw_iconst (pc' := 147) d_D_readRecord_146 rfl kc_ic_1 ?_
    refine aw_goto (tgt := 151) d_D_readRecord_147 (by decide) ?_
    exact aw_weak [false] rfl (wD_readRecord_151 _ _ hf)
set_option maxRecDepth 20000 in
theorem wD_readRecord_103 {N : Nat} {n : Nat} {r0 : me_M} (μ : me_M) (hf : fD_readRecord_103 N n μ = some r0) : AW "ArcTape$Reader" "readRecord" c_D_readRecord 1 none 4 0 0 0 (aw_is none (hC n r0)) 103 [some (.ref 11)] [] (hC n μ) 0 0 := by
  unfold fD_readRecord_103 at hf
  refine aw_aload_n (pc' := 104) d_D_readRecord_103 rfl rfl ?_
  obtain ⟨r5, hr5, hf⟩ := aw_bind hf
  refine aw_callVv (pc' := 107) (av := []) d_D_readRecord_104 rfl wc_D_72 hC_11 (mD_goesOn hr5) (Or.inl rfl) rfl (by decide) (Nat.le_of_ble_eq_true rfl) ⟨(Nat.le_refl 0), (Nat.le_refl 0)⟩ ?_
  refine aw_if_eq (tgt := 114) (pc' := 110) d_D_readRecord_107 (by decide) rfl (fun c6 => ?_) (fun c6 => ?_)
  · replace hf := aw_ifp c6 hf
    exact aw_weak [true] rfl (wD_readRecord_114 _ hf)
  · replace hf := aw_ifn c6 hf
    refine aw_aload_n (pc' := 111) d_D_readRecord_110 rfl rfl ?_
    obtain ⟨r7, hr7, hf⟩ := aw_bind hf
    refine aw_callVn (pc' := 114) (av := []) d_D_readRecord_111 rfl wc_D_92 hC_11 (mD_readSingles hr7) (Or.inl rfl) rfl (by decide) (Nat.le_of_ble_eq_true rfl) ⟨(Nat.le_refl 0), (Nat.le_refl 0)⟩ ?_
    exact aw_weak [true] rfl (wD_readRecord_114 _ hf)
set_option maxRecDepth 20000 in
theorem wD_readRecord_82 {N : Nat} {n : Nat} {r0 : me_M} (μ : me_M) (hf : fD_readRecord_82 N n μ = some r0) : AW "ArcTape$Reader" "readRecord" c_D_readRecord 1 none 4 0 0 0 (aw_is none (hC n r0)) 82 [some (.ref 11)] [] (hC n μ) 0 0 := by
  unfold fD_readRecord_82 at hf
  refine aw_aload_n (pc' := 83) d_D_readRecord_82 rfl rfl ?_
  obtain ⟨r8, hr8, hf⟩ := aw_bind hf
  refine aw_callVv (pc' := 86) (av := []) d_D_readRecord_83 rfl wc_D_72 hC_11 (mD_goesOn hr8) (Or.inl rfl) rfl (by decide) (Nat.le_of_ble_eq_true rfl) ⟨(Nat.le_refl 0), (Nat.le_refl 0)⟩ ?_
  refine aw_if_eq (tgt := 103) (pc' := 89) d_D_readRecord_86 (by decide) rfl (fun c9 => ?_) (fun c9 => ?_)
  · replace hf := aw_ifp c9 hf
    exact aw_weak [true] rfl (wD_readRecord_103 _ hf)
  · replace hf := aw_ifn c9 hf
    refine aw_aload_n (pc' := 90) d_D_readRecord_89 rfl rfl ?_
    refine aw_get (pc' := 93) d_D_readRecord_90 rfl fl_D_13 hC_11 rfl ?_
    refine aw_get (pc' := 96) d_D_readRecord_93 rfl fl_D_86 hC_4 rfl ?_
    refine aw_if_le (tgt := 103) (pc' := 99) d_D_readRecord_96 (by decide) rfl (fun c10 => ?_) (fun c10 => ?_)
    · replace hf := aw_ifp c10 hf
      exact aw_weak [true] rfl (wD_readRecord_103 _ hf)
    · replace hf := aw_ifn c10 hf
      refine aw_aload_n (pc' := 100) d_D_readRecord_99 rfl rfl ?_
      obtain ⟨r11, hr11, hf⟩ := aw_bind hf
      refine aw_callVn (pc' := 103) (av := []) d_D_readRecord_100 rfl wc_D_89 hC_11 (mD_readIntervals hr11) (Or.inl rfl) rfl (by decide) (Nat.le_of_ble_eq_true rfl) ⟨(Nat.le_refl 0), (Nat.le_refl 0)⟩ ?_
      exact aw_weak [true] rfl (wD_readRecord_103 _ hf)
set_option maxRecDepth 20000 in
theorem wD_readRecord_50 {N : Nat} {n : Nat} {r0 : me_M} (μ : me_M) (hf : fD_readRecord_50 N n μ = some r0) : AW "ArcTape$Reader" "readRecord" c_D_readRecord 1 none 4 0 0 0 (aw_is none (hC n r0)) 50 [some (.ref 11)] [] (hC n μ) 0 0 := by
  unfold fD_readRecord_50 at hf
  refine aw_aload_n (pc' := 51) d_D_readRecord_50 rfl rfl ?_
  obtain ⟨r12, hr12, hf⟩ := aw_bind hf
  refine aw_callVv (pc' := 54) (av := []) d_D_readRecord_51 rfl wc_D_72 hC_11 (mD_goesOn hr12) (Or.inl rfl) rfl (by decide) (Nat.le_of_ble_eq_true rfl) ⟨(Nat.le_refl 0), (Nat.le_refl 0)⟩ ?_
  refine aw_if_eq (tgt := 82) (pc' := 57) d_D_readRecord_54 (by decide) rfl (fun c13 => ?_) (fun c13 => ?_)
  · replace hf := aw_ifp c13 hf
    exact aw_weak [true] rfl (wD_readRecord_82 _ hf)
  · replace hf := aw_ifn c13 hf
    refine aw_aload_n (pc' := 58) d_D_readRecord_57 rfl rfl ?_
    refine aw_get (pc' := 61) d_D_readRecord_58 rfl fl_D_48 hC_11 rfl ?_
    refine aw_if_le (tgt := 82) (pc' := 64) d_D_readRecord_61 (by decide) rfl (fun c14 => ?_) (fun c14 => ?_)
    · replace hf := aw_ifp c14 hf
      exact aw_weak [true] rfl (wD_readRecord_82 _ hf)
    · replace hf := aw_ifn c14 hf
      refine aw_aload_n (pc' := 65) d_D_readRecord_64 rfl rfl ?_
      refine aw_aload_n (pc' := 66) d_D_readRecord_65 rfl rfl ?_
      refine aw_get (pc' := 69) d_D_readRecord_66 rfl fl_D_21 hC_11 rfl ?_
      refine aw_aload_n (pc' := 70) d_D_readRecord_69 rfl rfl ?_
      refine aw_get (pc' := 73) d_D_readRecord_70 rfl fl_D_34 hC_11 rfl ?_
      refine aw_aload_n (pc' := 74) d_D_readRecord_73 rfl rfl ?_
      refine aw_get (pc' := 77) d_D_readRecord_74 rfl fl_D_48 hC_11 rfl ?_
      refine aw_isub (pc' := 78) d_D_readRecord_77 rfl ?_
      obtain ⟨g15, hf⟩ := aw_gi hf
      refine aw_iald (pc' := 79) d_D_readRecord_78 rfl rfl hC_12 g15 ?_
      obtain ⟨r16, hr16, hf⟩ := aw_bind hf
      refine aw_callVn (pc' := 82) (av := [.int (μ.1 12 ((μ.1 1207 0) - (μ.1 1210 0)).toNatClampNeg)]) d_D_readRecord_79 rfl wc_D_82 hC_11 (mD_readRuns hr16) (Or.inl rfl) rfl (by decide) (Nat.le_of_ble_eq_true rfl) ⟨(Nat.le_refl 0), (Nat.le_refl 0)⟩ ?_
      exact aw_weak [true] rfl (wD_readRecord_82 _ hf)
set_option maxRecDepth 20000 in
theorem wD_readRecord_25 {N : Nat} {n : Nat} {r0 : me_M} (s1 : Int32) (μ : me_M) (hf : fD_readRecord_25 N n s1 μ = some r0) : AW "ArcTape$Reader" "readRecord" c_D_readRecord 1 none 4 0 0 0 (aw_is none (hC n r0)) 25 [some (.ref 11)] [.int s1, .ref 11] (hC n μ) 0 0 := by
  unfold fD_readRecord_25 at hf
  refine aw_iconst (pc' := 26) d_D_readRecord_25 rfl kc_ic_3 ?_
  obtain ⟨r17, hr17, hf⟩ := aw_bind hf
  refine aw_callVn (pc' := 29) (av := [.int s1, .int (3 : Int32)]) d_D_readRecord_26 rfl wc_D_68 hC_11 (mD_failIf hr17) (Or.inl rfl) rfl (by decide) (Nat.le_of_ble_eq_true rfl) ⟨(Nat.le_refl 0), (Nat.le_refl 0)⟩ ?_
  refine aw_aload_n (pc' := 30) d_D_readRecord_29 rfl rfl ?_
  obtain ⟨r18, hr18, hf⟩ := aw_bind hf
  refine aw_callVv (pc' := 33) (av := []) d_D_readRecord_30 rfl wc_D_72 hC_11 (mD_goesOn hr18) (Or.inl rfl) rfl (by decide) (Nat.le_of_ble_eq_true rfl) ⟨(Nat.le_refl 0), (Nat.le_refl 0)⟩ ?_
  refine aw_if_eq (tgt := 50) (pc' := 36) d_D_readRecord_33 (by decide) rfl (fun c19 => ?_) (fun c19 => ?_)
  · replace hf := aw_ifp c19 hf
    exact aw_weak [true] rfl (wD_readRecord_50 _ hf)
  · replace hf := aw_ifn c19 hf
    refine aw_aload_n (pc' := 37) d_D_readRecord_36 rfl rfl ?_
    refine aw_get (pc' := 40) d_D_readRecord_37 rfl fl_D_13 hC_11 rfl ?_
    refine aw_get (pc' := 43) d_D_readRecord_40 rfl fl_D_76 hC_4 rfl ?_
    refine aw_if_le (tgt := 50) (pc' := 46) d_D_readRecord_43 (by decide) rfl (fun c20 => ?_) (fun c20 => ?_)
    · replace hf := aw_ifp c20 hf
      exact aw_weak [true] rfl (wD_readRecord_50 _ hf)
    · replace hf := aw_ifn c20 hf
      refine aw_aload_n (pc' := 47) d_D_readRecord_46 rfl rfl ?_
      obtain ⟨r21, hr21, hf⟩ := aw_bind hf
      refine aw_callVn (pc' := 50) (av := []) d_D_readRecord_47 rfl wc_D_79 hC_11 (mD_readReference hr21) (Or.inl rfl) rfl (by decide) (Nat.le_of_ble_eq_true rfl) ⟨(Nat.le_refl 0), (Nat.le_refl 0)⟩ ?_
      exact aw_weak [true] rfl (wD_readRecord_50 _ hf)
set_option maxRecDepth 20000 in
theorem mD_readRecord {N : Nat} {n : Nat} {μ : me_M} {r0 : me_M} (hf : fD_readRecord N n μ = some r0) : AM y_D_readRecord c_D_readRecord 1 none 4 0 0 0 [.ref 11] (hC n μ) (aw_is none (hC n r0)) := by
  unfold fD_readRecord at hf
  refine AM.of (own := "ArcTape$Reader") (nm := "readRecord") (L := [some (.ref 11)]) rfl rfl (by decide) (Nat.le_of_ble_eq_true rfl) rfl ?_
  refine aw_aload_n (pc' := 1) d_D_readRecord_0 rfl rfl ?_
  refine aw_aload_n (pc' := 2) d_D_readRecord_1 rfl rfl ?_
  obtain ⟨r22, hr22, hf⟩ := aw_bind hf
  refine aw_callVv (pc' := 5) (av := []) d_D_readRecord_2 rfl wc_D_61 hC_11 (mD_nextGamma hr22) (Or.inl rfl) rfl (by decide) (Nat.le_of_ble_eq_true rfl) ⟨(Nat.le_refl 0), (Nat.le_refl 0)⟩ ?_
  refine aw_puti (pc' := 8) (h' := (hC n (me_wi r22.2 1212 0 r22.1))) d_D_readRecord_5 rfl fp_D_65 hC_11 (Nat.le_of_ble_eq_true rfl) rfl ?_
  refine aw_aload_n (pc' := 9) d_D_readRecord_8 rfl rfl ?_
  refine aw_aload_n (pc' := 10) d_D_readRecord_9 rfl rfl ?_
  refine aw_get (pc' := 13) d_D_readRecord_10 rfl fl_D_65 hC_11 rfl ?_
  refine aw_aload_n (pc' := 14) d_D_readRecord_13 rfl rfl ?_
  refine aw_get (pc' := 17) d_D_readRecord_14 rfl fl_D_7 hC_11 rfl ?_
  refine aw_icmp_le (tgt := 24) (pc' := 20) d_D_readRecord_17 (by decide) rfl (fun c23 => ?_) (fun c23 => ?_)
  · replace hf := aw_ifp c23 hf
    refine aw_iconst (pc' := 25) d_D_readRecord_24 rfl kc_ic_0 ?_
    exact aw_weak [true] rfl (wD_readRecord_25 _ _ hf)
  · replace hf := aw_ifn c23 hf
    refine aw_iconst (pc' := 21) d_D_readRecord_20 rfl kc_ic_1 ?_
    refine aw_goto (tgt := 25) d_D_readRecord_21 (by decide) ?_
    exact aw_weak [true] rfl (wD_readRecord_25 _ _ hf)
set_option maxRecDepth 20000 in
theorem wD_readAll_144 {N : Nat} {n : Nat} {r0 : me_M} (μ : me_M) (hf : fD_readAll_144 N n μ = some r0) : AW "ArcTape$Reader" "readAll" c_D_readAll 2 none 5 0 0 0 (aw_is none (hC n r0)) 144 [none, none] [] (hC n μ) 0 0 := by
  unfold fD_readAll_144 at hf
  cases hf
  exact aw_return rfl d_D_readAll_144 (Nat.le_refl 0) (Nat.le_refl 0) ⟨rfl, rfl⟩
set_option maxRecDepth 20000 in
theorem wD_readAll_137 {N : Nat} {n : Nat} {r0 : me_M} {k2 : Int32 → me_M → Option me_M} (hk2 : ∀ (l1 : Int32) (μ : me_M), k2 l1 μ = some r0 → AW "ArcTape$Reader" "readAll" c_D_readAll 2 none 5 0 0 0 (aw_is none (hC n r0)) 2 [some (.ref 11), some (.int l1)] [] (hC n μ) 0 0) (l1 : Int32) (s1 : Int32) (s2 : Int32) (μ : me_M) (hf : fD_readAll_137 N n k2 l1 s1 s2 μ = some r0) : AW "ArcTape$Reader" "readAll" c_D_readAll 2 none 5 0 0 0 (aw_is none (hC n r0)) 137 [some (.ref 11), some (.int l1)] [.int s2, .int s1, .ref 15] (hC n μ) 0 0 := by
  unfold fD_readAll_137 at hf
  obtain ⟨g1, hf⟩ := aw_gi hf
  refine aw_iast (pc' := 138) (h' := (hC n (me_wi μ 15 s1.toNatClampNeg s2))) d_D_readAll_137 rfl rfl hC_15 g1 rfl ?_
  refine aw_iinc (pc' := 141) (L' := [some (.ref 11), some (.int (l1 + (1 : Int32)))]) d_D_readAll_138 rfl kc_ic_1 rfl (by decide) rfl ?_
  refine aw_goto (tgt := 2) d_D_readAll_141 (by decide) ?_
  exact aw_weak [true, true] rfl (hk2 _ _ hf)
set_option maxRecDepth 20000 in
theorem wD_readAll_103 {N : Nat} {n : Nat} {r0 : me_M} {k2 : Int32 → me_M → Option me_M} (hk2 : ∀ (l1 : Int32) (μ : me_M), k2 l1 μ = some r0 → AW "ArcTape$Reader" "readAll" c_D_readAll 2 none 5 0 0 0 (aw_is none (hC n r0)) 2 [some (.ref 11), some (.int l1)] [] (hC n μ) 0 0) (l1 : Int32) (s1 : Int32) (s2 : Int32) (μ : me_M) (hf : fD_readAll_103 N n k2 l1 s1 s2 μ = some r0) : AW "ArcTape$Reader" "readAll" c_D_readAll 2 none 5 0 0 0 (aw_is none (hC n r0)) 103 [some (.ref 11), some (.int l1)] [.int s2, .int s1, .ref 14] (hC n μ) 0 0 := by
  unfold fD_readAll_103 at hf
  obtain ⟨g2, hf⟩ := aw_gi hf
  refine aw_iast (pc' := 104) (h' := (hC n (me_wi μ 14 s1.toNatClampNeg s2))) d_D_readAll_103 rfl rfl hC_14 g2 rfl ?_
  refine aw_aload_n (pc' := 105) d_D_readAll_104 rfl rfl ?_
  refine aw_get (pc' := 108) d_D_readAll_105 rfl fl_D_31 hC_11 rfl ?_
  refine aw_iload_n (pc' := 109) d_D_readAll_108 rfl rfl ?_
  refine aw_aload_n (pc' := 110) d_D_readAll_109 rfl rfl ?_
  refine aw_get (pc' := 113) d_D_readAll_110 rfl fl_D_28 hC_11 rfl ?_
  refine aw_iload_n (pc' := 114) d_D_readAll_113 rfl rfl ?_
  obtain ⟨g3, hf⟩ := aw_gi hf
  refine aw_iald (pc' := 115) d_D_readAll_114 rfl rfl hC_14 g3 ?_
  refine aw_if_ne (tgt := 122) (pc' := 118) d_D_readAll_115 (by decide) rfl (fun c4 => ?_) (fun c4 => ?_)
  · replace hf := aw_ifn c4 hf
    refine aw_aload_n (pc' := 123) d_D_readAll_122 rfl rfl ?_
    refine aw_get (pc' := 126) d_D_readAll_123 rfl fl_D_31 hC_11 rfl ?_
    refine aw_iload_n (pc' := 127) d_D_readAll_126 rfl rfl ?_
    refine aw_aload_n (pc' := 128) d_D_readAll_127 rfl rfl ?_
    refine aw_get (pc' := 131) d_D_readAll_128 rfl fl_D_28 hC_11 rfl ?_
    refine aw_iload_n (pc' := 132) d_D_readAll_131 rfl rfl ?_
    obtain ⟨g5, hf⟩ := aw_gi hf
    refine aw_iald (pc' := 133) d_D_readAll_132 rfl rfl hC_14 g5 ?_
    refine aw_isub (pc' := 134) d_D_readAll_133 rfl ?_
    obtain ⟨g6, hf⟩ := aw_gi hf
    refine aw_iald (pc' := 135) d_D_readAll_134 rfl rfl hC_15 g6 ?_
    refine aw_iconst (pc' := 136) d_D_readAll_135 rfl kc_ic_1 ?_
    refine aw_iadd (pc' := 137) d_D_readAll_136 rfl ?_
    exact aw_weak [true, true] rfl (wD_readAll_137 hk2 _ _ _ _ hf)
  · replace hf := aw_ifp c4 hf
    refine aw_iconst (pc' := 119) d_D_readAll_118 rfl kc_ic_0 ?_
    refine aw_goto (tgt := 137) d_D_readAll_119 (by decide) ?_
    exact aw_weak [true, true] rfl (wD_readAll_137 hk2 _ _ _ _ hf)
set_option maxRecDepth 20000 in
theorem wD_readAll_82 {N : Nat} {n : Nat} {r0 : me_M} {k2 : Int32 → me_M → Option me_M} (hk2 : ∀ (l1 : Int32) (μ : me_M), k2 l1 μ = some r0 → AW "ArcTape$Reader" "readAll" c_D_readAll 2 none 5 0 0 0 (aw_is none (hC n r0)) 2 [some (.ref 11), some (.int l1)] [] (hC n μ) 0 0) (l1 : Int32) (s1 : Int32) (s2 : Int32) (μ : me_M) (hf : fD_readAll_82 N n k2 l1 s1 s2 μ = some r0) : AW "ArcTape$Reader" "readAll" c_D_readAll 2 none 5 0 0 0 (aw_is none (hC n r0)) 82 [some (.ref 11), some (.int l1)] [.int s2, .int s1, .ref 12] (hC n μ) 0 0 := by
  unfold fD_readAll_82 at hf
  obtain ⟨g7, hf⟩ := aw_gi hf
  refine aw_iast (pc' := 83) (h' := (hC n (me_wi μ 12 s1.toNatClampNeg s2))) d_D_readAll_82 rfl rfl hC_12 g7 rfl ?_
  refine aw_aload_n (pc' := 84) d_D_readAll_83 rfl rfl ?_
  refine aw_get (pc' := 87) d_D_readAll_84 rfl fl_D_28 hC_11 rfl ?_
  refine aw_iload_n (pc' := 88) d_D_readAll_87 rfl rfl ?_
  refine aw_aload_n (pc' := 89) d_D_readAll_88 rfl rfl ?_
  refine aw_get (pc' := 92) d_D_readAll_89 rfl fl_D_45 hC_11 rfl ?_
  refine aw_if_ne (tgt := 102) (pc' := 95) d_D_readAll_92 (by decide) rfl (fun c8 => ?_) (fun c8 => ?_)
  · replace hf := aw_ifn c8 hf
    refine aw_iconst (pc' := 103) d_D_readAll_102 rfl kc_ic_0 ?_
    exact aw_weak [true, true] rfl (wD_readAll_103 hk2 _ _ _ _ hf)
  · replace hf := aw_ifp c8 hf
    refine aw_aload_n (pc' := 96) d_D_readAll_95 rfl rfl ?_
    refine aw_get (pc' := 99) d_D_readAll_96 rfl fl_D_48 hC_11 rfl ?_
    refine aw_goto (tgt := 103) d_D_readAll_99 (by decide) ?_
    exact aw_weak [true, true] rfl (wD_readAll_103 hk2 _ _ _ _ hf)
set_option maxRecDepth 20000 in
theorem wD_readAll_2b {N : Nat} {n : Nat} {r0 : me_M} {k2 : Int32 → me_M → Option me_M} (hk2 : ∀ (l1 : Int32) (μ : me_M), k2 l1 μ = some r0 → AW "ArcTape$Reader" "readAll" c_D_readAll 2 none 5 0 0 0 (aw_is none (hC n r0)) 2 [some (.ref 11), some (.int l1)] [] (hC n μ) 0 0) (l1 : Int32) (μ : me_M) (hf : fD_readAll_2b N n k2 l1 μ = some r0) : AW "ArcTape$Reader" "readAll" c_D_readAll 2 none 5 0 0 0 (aw_is none (hC n r0)) 2 [some (.ref 11), some (.int l1)] [] (hC n μ) 0 0 := by
  unfold fD_readAll_2b at hf
  refine aw_iload_n (pc' := 3) d_D_readAll_2 rfl rfl ?_
  refine aw_aload_n (pc' := 4) d_D_readAll_3 rfl rfl ?_
  refine aw_get (pc' := 7) d_D_readAll_4 rfl fl_D_7 hC_11 rfl ?_
  refine aw_icmp_ge (tgt := 144) (pc' := 10) d_D_readAll_7 (by decide) rfl (fun c9 => ?_) (fun c9 => ?_)
  · replace hf := aw_ifp c9 hf
    exact aw_weak [false, false] rfl (wD_readAll_144 _ hf)
  · replace hf := aw_ifn c9 hf
    refine aw_aload_n (pc' := 11) d_D_readAll_10 rfl rfl ?_
    refine aw_iload_n (pc' := 12) d_D_readAll_11 rfl rfl ?_
    refine aw_puti (pc' := 15) (h' := (hC n (me_wi μ 1207 0 l1))) d_D_readAll_12 rfl fp_D_34 hC_11 (Nat.le_of_ble_eq_true rfl) rfl ?_
    refine aw_aload_n (pc' := 16) d_D_readAll_15 rfl rfl ?_
    refine aw_aload_n (pc' := 17) d_D_readAll_16 rfl rfl ?_
    refine aw_get (pc' := 20) d_D_readAll_17 rfl fl_D_13 hC_11 rfl ?_
    refine aw_get (pc' := 23) d_D_readAll_20 rfl fl_D_37 hC_4 rfl ?_
    refine aw_iload_n (pc' := 24) d_D_readAll_23 rfl rfl ?_
    obtain ⟨g10, hf⟩ := aw_gi hf
    refine aw_iald (pc' := 25) d_D_readAll_24 rfl rfl hC_5 g10 ?_
    refine aw_puti (pc' := 28) (h' := (hC n (me_wi (me_wi μ 1207 0 l1) 1208 0 ((me_wi μ 1207 0 l1).1 5 l1.toNatClampNeg)))) d_D_readAll_25 rfl fp_D_42 hC_11 (Nat.le_of_ble_eq_true rfl) rfl ?_
    refine aw_aload_n (pc' := 29) d_D_readAll_28 rfl rfl ?_
    refine aw_iconst (pc' := 30) d_D_readAll_29 rfl kc_ic_0 ?_
    refine aw_puti (pc' := 33) (h' := (hC n (me_wi (me_wi (me_wi μ 1207 0 l1) 1208 0 ((me_wi μ 1207 0 l1).1 5 l1.toNatClampNeg)) 1209 0 (0 : Int32)))) d_D_readAll_30 rfl fp_D_45 hC_11 (Nat.le_of_ble_eq_true rfl) rfl ?_
    refine aw_aload_n (pc' := 34) d_D_readAll_33 rfl rfl ?_
    refine aw_iconst (pc' := 35) d_D_readAll_34 rfl kc_ic_0 ?_
    refine aw_puti (pc' := 38) (h' := (hC n (me_wi (me_wi (me_wi (me_wi μ 1207 0 l1) 1208 0 ((me_wi μ 1207 0 l1).1 5 l1.toNatClampNeg)) 1209 0 (0 : Int32)) 1210 0 (0 : Int32)))) d_D_readAll_35 rfl fp_D_48 hC_11 (Nat.le_of_ble_eq_true rfl) rfl ?_
    refine aw_aload_n (pc' := 39) d_D_readAll_38 rfl rfl ?_
    refine aw_iconst (pc' := 40) d_D_readAll_39 rfl kc_ic_0 ?_
    refine aw_puti (pc' := 43) (h' := (hC n (me_wi (me_wi (me_wi (me_wi (me_wi μ 1207 0 l1) 1208 0 ((me_wi μ 1207 0 l1).1 5 l1.toNatClampNeg)) 1209 0 (0 : Int32)) 1210 0 (0 : Int32)) 1211 0 (0 : Int32)))) d_D_readAll_40 rfl fp_D_51 hC_11 (Nat.le_of_ble_eq_true rfl) rfl ?_
    refine aw_aload_n (pc' := 44) d_D_readAll_43 rfl rfl ?_
    refine aw_iconst (pc' := 45) d_D_readAll_44 rfl kc_ic_0 ?_
    refine aw_putz (pc' := 48) (h' := (hC n (me_wi (me_wi (me_wi (me_wi (me_wi (me_wi μ 1207 0 l1) 1208 0 ((me_wi μ 1207 0 l1).1 5 l1.toNatClampNeg)) 1209 0 (0 : Int32)) 1210 0 (0 : Int32)) 1211 0 (0 : Int32)) 1213 0 (0 : Int32)))) d_D_readAll_45 rfl fp_D_54 ⟨rfl, rfl⟩ hC_11 (Nat.le_of_ble_eq_true rfl) rfl ?_
    refine aw_aload_n (pc' := 49) d_D_readAll_48 rfl rfl ?_
    obtain ⟨r11, hr11, hf⟩ := aw_bind hf
    refine aw_callVn (pc' := 52) (av := []) d_D_readAll_49 rfl wc_D_58 hC_11 (mD_readRecord hr11) (Or.inl rfl) rfl (by decide) (Nat.le_of_ble_eq_true rfl) ⟨(Nat.le_refl 0), (Nat.le_refl 0)⟩ ?_
    refine aw_aload_n (pc' := 53) d_D_readAll_52 rfl rfl ?_
    refine aw_get (pc' := 56) d_D_readAll_53 rfl fl_D_25 hC_11 rfl ?_
    refine aw_iload_n (pc' := 57) d_D_readAll_56 rfl rfl ?_
    refine aw_aload_n (pc' := 58) d_D_readAll_57 rfl rfl ?_
    refine aw_get (pc' := 61) d_D_readAll_58 rfl fl_D_45 hC_11 rfl ?_
    obtain ⟨g12, hf⟩ := aw_gi hf
    refine aw_iast (pc' := 62) (h' := (hC n (me_wi r11 13 l1.toNatClampNeg (r11.1 1209 0)))) d_D_readAll_61 rfl rfl hC_13 g12 rfl ?_
    refine aw_aload_n (pc' := 63) d_D_readAll_62 rfl rfl ?_
    refine aw_get (pc' := 66) d_D_readAll_63 rfl fl_D_21 hC_11 rfl ?_
    refine aw_iload_n (pc' := 67) d_D_readAll_66 rfl rfl ?_
    refine aw_aload_n (pc' := 68) d_D_readAll_67 rfl rfl ?_
    refine aw_get (pc' := 71) d_D_readAll_68 rfl fl_D_45 hC_11 rfl ?_
    refine aw_if_ne (tgt := 81) (pc' := 74) d_D_readAll_71 (by decide) rfl (fun c13 => ?_) (fun c13 => ?_)
    · replace hf := aw_ifn c13 hf
      refine aw_iconst (pc' := 82) d_D_readAll_81 rfl kc_ic_0 ?_
      exact aw_weak [true, true] rfl (wD_readAll_82 hk2 _ _ _ _ hf)
    · replace hf := aw_ifp c13 hf
      refine aw_aload_n (pc' := 75) d_D_readAll_74 rfl rfl ?_
      refine aw_get (pc' := 78) d_D_readAll_75 rfl fl_D_51 hC_11 rfl ?_
      refine aw_goto (tgt := 82) d_D_readAll_78 (by decide) ?_
      exact aw_weak [true, true] rfl (wD_readAll_82 hk2 _ _ _ _ hf)
set_option maxRecDepth 20000 in
theorem wD_readAll_2 {N : Nat} {n : Nat} {r0 : me_M} : ∀ (F : Nat) (l1 : Int32) (μ : me_M) (hf : fD_readAll_2 N n F l1 μ = some r0), AW "ArcTape$Reader" "readAll" c_D_readAll 2 none 5 0 0 0 (aw_is none (hC n r0)) 2 [some (.ref 11), some (.int l1)] [] (hC n μ) 0 0 := by
  intro F
  induction F with
  | zero => intro l1 μ hf; exact aw_no hf
  | succ F ih => intro l1 μ hf; exact wD_readAll_2b ih l1 μ hf
set_option maxRecDepth 20000 in
theorem mD_readAll {N : Nat} {n : Nat} {μ : me_M} {r0 : me_M} (hf : fD_readAll N n μ = some r0) : AM y_D_readAll c_D_readAll 2 none 5 0 0 0 [.ref 11] (hC n μ) (aw_is none (hC n r0)) := by
  unfold fD_readAll at hf
  refine AM.of (own := "ArcTape$Reader") (nm := "readAll") (L := [some (.ref 11), none]) rfl rfl (by decide) (Nat.le_of_ble_eq_true rfl) rfl ?_
  refine aw_iconst (pc' := 1) d_D_readAll_0 rfl kc_ic_0 ?_
  refine aw_istore_n (pc' := 2) (L' := [some (.ref 11), some (.int (0 : Int32))]) d_D_readAll_1 rfl (by decide) rfl ?_
  exact aw_weak [true, true] rfl (wD_readAll_2 _ _ _ hf)
