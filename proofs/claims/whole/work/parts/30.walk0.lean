set_option maxRecDepth 20000 in
theorem wT_putNumber_49 {N : Nat} {n : Nat} {r0 : me_M} (μ : me_M) (hf : fT_putNumber_49 N n μ = some r0) : AW "ArcTape$Tape" "putNumber" c_T_putNumber 4 none 0 0 0 0 (aw_is none (hC n r0)) 49 [none, none, none, none] [] (hC n μ) 0 0 := by
  unfold fT_putNumber_49 at hf
  cases hf
  exact aw_return rfl d_T_putNumber_49 (Nat.le_refl 0) (Nat.le_refl 0) ⟨rfl, rfl⟩
set_option maxRecDepth 20000 in
theorem wT_putNumber_4b {N : Nat} {n : Nat} {r0 : me_M} {k4 : Int32 → Int32 → me_M → Option me_M} (hk4 : ∀ (l1 : Int32) (l3 : Int32) (μ : me_M), k4 l1 l3 μ = some r0 → AW "ArcTape$Tape" "putNumber" c_T_putNumber 4 none 0 0 0 0 (aw_is none (hC n r0)) 4 [some (.ref 2), some (.int l1), none, some (.int l3)] [] (hC n μ) 0 0) (l1 : Int32) (l3 : Int32) (μ : me_M) (hf : fT_putNumber_4b N n k4 l1 l3 μ = some r0) : AW "ArcTape$Tape" "putNumber" c_T_putNumber 4 none 0 0 0 0 (aw_is none (hC n r0)) 4 [some (.ref 2), some (.int l1), none, some (.int l3)] [] (hC n μ) 0 0 := by
  unfold fT_putNumber_4b at hf
  refine aw_iload_n (pc' := 5) d_T_putNumber_4 rfl rfl ?_
  refine aw_if_lt (tgt := 49) (pc' := 8) d_T_putNumber_5 (by decide) rfl (fun c1 => ?_) (fun c1 => ?_)
  · replace hf := aw_ifp c1 hf
    exact aw_weak [false, false, false, false] rfl (wT_putNumber_49 _ hf)
  · replace hf := aw_ifn c1 hf
    refine aw_aload_n (pc' := 9) d_T_putNumber_8 rfl rfl ?_
    refine aw_get (pc' := 12) d_T_putNumber_9 rfl fl_T_13 hC_2 rfl ?_
    refine aw_sipush (pc' := 15) d_T_putNumber_12 rfl kc_si_800 ?_
    refine aw_icmp_ge (tgt := 49) (pc' := 18) d_T_putNumber_15 (by decide) rfl (fun c2 => ?_) (fun c2 => ?_)
    · replace hf := aw_ifp c2 hf
      exact aw_weak [false, false, false, false] rfl (wT_putNumber_49 _ hf)
    · replace hf := aw_ifn c2 hf
      refine aw_aload_n (pc' := 19) d_T_putNumber_18 rfl rfl ?_
      refine aw_get (pc' := 22) d_T_putNumber_19 rfl fl_T_9 hC_2 rfl ?_
      refine aw_aload_n (pc' := 23) d_T_putNumber_22 rfl rfl ?_
      refine aw_get (pc' := 26) d_T_putNumber_23 rfl fl_T_13 hC_2 rfl ?_
      refine aw_iload_n (pc' := 27) d_T_putNumber_26 rfl rfl ?_
      refine aw_iload_n (pc' := 28) d_T_putNumber_27 rfl rfl ?_
      refine aw_ishr (pc' := 29) d_T_putNumber_28 rfl ?_
      refine aw_iconst (pc' := 30) d_T_putNumber_29 rfl kc_ic_1 ?_
      refine aw_iand (pc' := 31) d_T_putNumber_30 rfl ?_
      refine aw_i2b (pc' := 32) d_T_putNumber_31 rfl ?_
      obtain ⟨g3, hf⟩ := aw_gi hf
      refine aw_bast (pc' := 33) (h' := (hC n (me_wi μ 3 (μ.1 301 0).toNatClampNeg (vp_nar .byte (((l1 >>> (l3 &&& 31)) &&& (1 : Int32)).toInt8.toInt32))))) d_T_putNumber_32 rfl rfl hC_3 g3 rfl ?_
      refine aw_aload_n (pc' := 34) d_T_putNumber_33 rfl rfl ?_
      refine aw_dup (pc' := 35) d_T_putNumber_34 rfl rfl ?_
      refine aw_get (pc' := 38) d_T_putNumber_35 rfl fl_T_13 hC_2 rfl ?_
      refine aw_iconst (pc' := 39) d_T_putNumber_38 rfl kc_ic_1 ?_
      refine aw_iadd (pc' := 40) d_T_putNumber_39 rfl ?_
      refine aw_puti (pc' := 43) (h' := (hC n (me_wi (me_wi μ 3 (μ.1 301 0).toNatClampNeg (vp_nar .byte (((l1 >>> (l3 &&& 31)) &&& (1 : Int32)).toInt8.toInt32))) 301 0 (((me_wi μ 3 (μ.1 301 0).toNatClampNeg (vp_nar .byte (((l1 >>> (l3 &&& 31)) &&& (1 : Int32)).toInt8.toInt32))).1 301 0) + (1 : Int32))))) d_T_putNumber_40 rfl fp_T_13 hC_2 (Nat.le_of_ble_eq_true rfl) rfl ?_
      refine aw_iinc (pc' := 46) (L' := [some (.ref 2), some (.int l1), none, some (.int (l3 + (-1 : Int32)))]) d_T_putNumber_43 rfl kc_ic_m1 rfl (by decide) rfl ?_
      refine aw_goto (tgt := 4) d_T_putNumber_46 (by decide) ?_
      exact aw_weak [true, true, false, true] rfl (hk4 _ _ _ hf)
set_option maxRecDepth 20000 in
theorem wT_putNumber_4 {N : Nat} {n : Nat} {r0 : me_M} : ∀ (F : Nat) (l1 : Int32) (l3 : Int32) (μ : me_M) (hf : fT_putNumber_4 N n F l1 l3 μ = some r0), AW "ArcTape$Tape" "putNumber" c_T_putNumber 4 none 0 0 0 0 (aw_is none (hC n r0)) 4 [some (.ref 2), some (.int l1), none, some (.int l3)] [] (hC n μ) 0 0 := by
  intro F
  induction F with
  | zero => intro l1 l3 μ hf; exact aw_no hf
  | succ F ih => intro l1 l3 μ hf; exact wT_putNumber_4b ih l1 l3 μ hf
set_option maxRecDepth 20000 in
theorem mT_putNumber {N : Nat} {n : Nat} {μ : me_M} {r0 : me_M} {l1 : Int32} {l2 : Int32} (hf : fT_putNumber N n l1 l2 μ = some r0) : AM y_T_putNumber c_T_putNumber 4 none 0 0 0 0 [.ref 2, .int l1, .int l2] (hC n μ) (aw_is none (hC n r0)) := by
  unfold fT_putNumber at hf
  refine AM.of (own := "ArcTape$Tape") (nm := "putNumber") (L := [some (.ref 2), some (.int l1), some (.int l2), none]) rfl rfl (by decide) (Nat.le_of_ble_eq_true rfl) rfl ?_
  refine aw_iload_n (pc' := 1) d_T_putNumber_0 rfl rfl ?_
  refine aw_iconst (pc' := 2) d_T_putNumber_1 rfl kc_ic_1 ?_
  refine aw_isub (pc' := 3) d_T_putNumber_2 rfl ?_
  refine aw_istore_n (pc' := 4) (L' := [some (.ref 2), some (.int l1), some (.int l2), some (.int (l2 - (1 : Int32)))]) d_T_putNumber_3 rfl (by decide) rfl ?_
  exact aw_weak [true, true, false, true] rfl (wT_putNumber_4 _ _ _ _ hf)
set_option maxRecDepth 20000 in
theorem mT_putUnary {N : Nat} {n : Nat} {μ : me_M} {r0 : me_M} {l1 : Int32} (hf : fT_putUnary N n l1 μ = some r0) : AM y_T_putUnary c_T_putUnary 2 none 1 0 0 0 [.ref 2, .int l1] (hC n μ) (aw_is none (hC n r0)) := by
  unfold fT_putUnary at hf
  refine AM.of (own := "ArcTape$Tape") (nm := "putUnary") (L := [some (.ref 2), some (.int l1)]) rfl rfl (by decide) (Nat.le_of_ble_eq_true rfl) rfl ?_
  refine aw_aload_n (pc' := 1) d_T_putUnary_0 rfl rfl ?_
  refine aw_iconst (pc' := 2) d_T_putUnary_1 rfl kc_ic_1 ?_
  refine aw_iload_n (pc' := 3) d_T_putUnary_2 rfl rfl ?_
  refine aw_iconst (pc' := 4) d_T_putUnary_3 rfl kc_ic_1 ?_
  refine aw_iadd (pc' := 5) d_T_putUnary_4 rfl ?_
  obtain ⟨r1, hr1, hf⟩ := aw_bind hf
  refine aw_callVn (pc' := 8) (av := [.int (1 : Int32), .int (l1 + (1 : Int32))]) d_T_putUnary_5 rfl wc_T_17 hC_2 (mT_putNumber hr1) (Or.inl rfl) rfl (by decide) (Nat.le_of_ble_eq_true rfl) ⟨(Nat.le_refl 0), (Nat.le_refl 0)⟩ ?_
  cases hf
  exact aw_return rfl d_T_putUnary_8 (Nat.le_refl 0) (Nat.le_refl 0) ⟨rfl, rfl⟩
set_option maxRecDepth 20000 in
theorem wT_exponent_23 {N : Nat} {h0 : aw_H} {r0 : Int32} (l1 : Int32) (hf : fT_exponent_23 N l1 = some r0) : AW "ArcTape$Tape" "exponent" c_T_exponent 2 (some .int) 0 0 0 0 (aw_is (some (.int r0)) h0) 23 [none, some (.int l1)] [] h0 0 0 := by
  unfold fT_exponent_23 at hf
  refine aw_iload_n (pc' := 24) d_T_exponent_23 rfl rfl ?_
  cases hf
  exact aw_ireturn rfl d_T_exponent_24 (Nat.le_refl 0) (Nat.le_refl 0) ⟨rfl, rfl⟩
set_option maxRecDepth 20000 in
theorem wT_exponent_2b {N : Nat} {h0 : aw_H} {r0 : Int32} {k2 : Int32 → Int32 → Option Int32} (hk2 : ∀ (l0 : Int32) (l1 : Int32), k2 l0 l1 = some r0 → AW "ArcTape$Tape" "exponent" c_T_exponent 2 (some .int) 0 0 0 0 (aw_is (some (.int r0)) h0) 2 [some (.int l0), some (.int l1)] [] h0 0 0) (l0 : Int32) (l1 : Int32) (hf : fT_exponent_2b N k2 l0 l1 = some r0) : AW "ArcTape$Tape" "exponent" c_T_exponent 2 (some .int) 0 0 0 0 (aw_is (some (.int r0)) h0) 2 [some (.int l0), some (.int l1)] [] h0 0 0 := by
  unfold fT_exponent_2b at hf
  refine aw_iload_n (pc' := 3) d_T_exponent_2 rfl rfl ?_
  refine aw_bipush (pc' := 5) d_T_exponent_3 rfl kc_bi_30 ?_
  refine aw_icmp_ge (tgt := 23) (pc' := 8) d_T_exponent_5 (by decide) rfl (fun c1 => ?_) (fun c1 => ?_)
  · replace hf := aw_ifp c1 hf
    exact aw_weak [false, true] rfl (wT_exponent_23 _ hf)
  · replace hf := aw_ifn c1 hf
    refine aw_iconst (pc' := 9) d_T_exponent_8 rfl kc_ic_1 ?_
    refine aw_iload_n (pc' := 10) d_T_exponent_9 rfl rfl ?_
    refine aw_iconst (pc' := 11) d_T_exponent_10 rfl kc_ic_1 ?_
    refine aw_iadd (pc' := 12) d_T_exponent_11 rfl ?_
    refine aw_ishl (pc' := 13) d_T_exponent_12 rfl ?_
    refine aw_iload_n (pc' := 14) d_T_exponent_13 rfl rfl ?_
    refine aw_icmp_gt (tgt := 23) (pc' := 17) d_T_exponent_14 (by decide) rfl (fun c2 => ?_) (fun c2 => ?_)
    · replace hf := aw_ifp c2 hf
      exact aw_weak [false, true] rfl (wT_exponent_23 _ hf)
    · replace hf := aw_ifn c2 hf
      refine aw_iinc (pc' := 20) (L' := [some (.int l0), some (.int (l1 + (1 : Int32)))]) d_T_exponent_17 rfl kc_ic_1 rfl (by decide) rfl ?_
      refine aw_goto (tgt := 2) d_T_exponent_20 (by decide) ?_
      exact aw_weak [true, true] rfl (hk2 _ _ hf)
set_option maxRecDepth 20000 in
theorem wT_exponent_2 {N : Nat} {h0 : aw_H} {r0 : Int32} : ∀ (F : Nat) (l0 : Int32) (l1 : Int32) (hf : fT_exponent_2 N F l0 l1 = some r0), AW "ArcTape$Tape" "exponent" c_T_exponent 2 (some .int) 0 0 0 0 (aw_is (some (.int r0)) h0) 2 [some (.int l0), some (.int l1)] [] h0 0 0 := by
  intro F
  induction F with
  | zero => intro l0 l1 hf; exact aw_no hf
  | succ F ih => intro l0 l1 hf; exact wT_exponent_2b ih l0 l1 hf
set_option maxRecDepth 20000 in
theorem mT_exponent {N : Nat} {h0 : aw_H} {r0 : Int32} {l0 : Int32} (hf : fT_exponent N l0 = some r0) : AM y_T_exponent c_T_exponent 2 (some .int) 0 0 0 0 [.int l0] h0 (aw_is (some (.int r0)) h0) := by
  unfold fT_exponent at hf
  refine AM.of (own := "ArcTape$Tape") (nm := "exponent") (L := [some (.int l0), none]) rfl rfl (by decide) (Nat.le_of_ble_eq_true rfl) rfl ?_
  refine aw_iconst (pc' := 1) d_T_exponent_0 rfl kc_ic_0 ?_
  refine aw_istore_n (pc' := 2) (L' := [some (.int l0), some (.int (0 : Int32))]) d_T_exponent_1 rfl (by decide) rfl ?_
  exact aw_weak [true, true] rfl (wT_exponent_2 _ _ _ hf)
set_option maxRecDepth 20000 in
theorem mT_putGamma {N : Nat} {n : Nat} {μ : me_M} {r0 : me_M} {l1 : Int32} (hf : fT_putGamma N n l1 μ = some r0) : AM y_T_putGamma c_T_putGamma 2 none 1 0 0 0 [.ref 2, .int l1] (hC n μ) (aw_is none (hC n r0)) := by
  unfold fT_putGamma at hf
  refine AM.of (own := "ArcTape$Tape") (nm := "putGamma") (L := [some (.ref 2), some (.int l1)]) rfl rfl (by decide) (Nat.le_of_ble_eq_true rfl) rfl ?_
  refine aw_aload_n (pc' := 1) d_T_putGamma_0 rfl rfl ?_
  refine aw_iload_n (pc' := 2) d_T_putGamma_1 rfl rfl ?_
  refine aw_iconst (pc' := 3) d_T_putGamma_2 rfl kc_ic_1 ?_
  refine aw_iadd (pc' := 4) d_T_putGamma_3 rfl ?_
  refine aw_iconst (pc' := 5) d_T_putGamma_4 rfl kc_ic_2 ?_
  refine aw_iload_n (pc' := 6) d_T_putGamma_5 rfl rfl ?_
  refine aw_iconst (pc' := 7) d_T_putGamma_6 rfl kc_ic_1 ?_
  refine aw_iadd (pc' := 8) d_T_putGamma_7 rfl ?_
  obtain ⟨r1, hr1, hf⟩ := aw_bind hf
  refine aw_callSv (pc' := 11) (av := [.int (l1 + (1 : Int32))]) d_T_putGamma_8 rfl wc_T_21 (mT_exponent hr1) (Or.inl rfl) rfl (by decide) (Nat.le_of_ble_eq_true rfl) ⟨(Nat.le_refl 0), (Nat.le_refl 0)⟩ ?_
  refine aw_imul (pc' := 12) d_T_putGamma_11 rfl ?_
  refine aw_iconst (pc' := 13) d_T_putGamma_12 rfl kc_ic_1 ?_
  refine aw_iadd (pc' := 14) d_T_putGamma_13 rfl ?_
  obtain ⟨r2, hr2, hf⟩ := aw_bind hf
  refine aw_callVn (pc' := 17) (av := [.int (l1 + (1 : Int32)), .int (((2 : Int32) * r1) + (1 : Int32))]) d_T_putGamma_14 rfl wc_T_17 hC_2 (mT_putNumber hr2) (Or.inl rfl) rfl (by decide) (Nat.le_of_ble_eq_true rfl) ⟨(Nat.le_refl 0), (Nat.le_refl 0)⟩ ?_
  cases hf
  exact aw_return rfl d_T_putGamma_17 (Nat.le_refl 0) (Nat.le_refl 0) ⟨rfl, rfl⟩
set_option maxRecDepth 20000 in
theorem wT_putZeta_66 {N : Nat} {n : Nat} {r0 : me_M} (μ : me_M) (hf : fT_putZeta_66 N n μ = some r0) : AW "ArcTape$Tape" "putZeta" c_T_putZeta 5 none 1 0 0 0 (aw_is none (hC n r0)) 66 [none, none, none, none, none] [] (hC n μ) 0 0 := by
  unfold fT_putZeta_66 at hf
  cases hf
  exact aw_return rfl d_T_putZeta_66 (Nat.le_refl 0) (Nat.le_refl 0) ⟨rfl, rfl⟩
set_option maxRecDepth 20000 in
theorem mT_putZeta {N : Nat} {n : Nat} {μ : me_M} {r0 : me_M} {l1 : Int32} {l2 : Int32} (hf : fT_putZeta N n l1 l2 μ = some r0) : AM y_T_putZeta c_T_putZeta 5 none 1 0 0 0 [.ref 2, .int l1, .int l2] (hC n μ) (aw_is none (hC n r0)) := by
  unfold fT_putZeta at hf
  refine AM.of (own := "ArcTape$Tape") (nm := "putZeta") (L := [some (.ref 2), some (.int l1), some (.int l2), none, none]) rfl rfl (by decide) (Nat.le_of_ble_eq_true rfl) rfl ?_
  refine aw_iload_n (pc' := 1) d_T_putZeta_0 rfl rfl ?_
  refine aw_iconst (pc' := 2) d_T_putZeta_1 rfl kc_ic_1 ?_
  refine aw_iadd (pc' := 3) d_T_putZeta_2 rfl ?_
  obtain ⟨r1, hr1, hf⟩ := aw_bind hf
  refine aw_callSv (pc' := 6) (av := [.int (l1 + (1 : Int32))]) d_T_putZeta_3 rfl wc_T_21 (mT_exponent hr1) (Or.inl rfl) rfl (by decide) (Nat.le_of_ble_eq_true rfl) ⟨(Nat.le_refl 0), (Nat.le_refl 0)⟩ ?_
  refine aw_iload_n (pc' := 7) d_T_putZeta_6 rfl rfl ?_
  obtain ⟨g2, hf⟩ := aw_gd hf
  refine aw_idiv (pc' := 8) d_T_putZeta_7 rfl g2 ?_
  refine aw_istore_n (pc' := 9) (L' := [some (.ref 2), some (.int l1), some (.int l2), some (.int (r1 / l2)), none]) d_T_putZeta_8 rfl (by decide) rfl ?_
  refine aw_iconst (pc' := 10) d_T_putZeta_9 rfl kc_ic_1 ?_
  refine aw_iload_n (pc' := 11) d_T_putZeta_10 rfl rfl ?_
  refine aw_iload_n (pc' := 12) d_T_putZeta_11 rfl rfl ?_
  refine aw_imul (pc' := 13) d_T_putZeta_12 rfl ?_
  refine aw_ishl (pc' := 14) d_T_putZeta_13 rfl ?_
  refine aw_istore (pc' := 16) (L' := [some (.ref 2), some (.int l1), some (.int l2), some (.int (r1 / l2)), some (.int ((1 : Int32) <<< (((r1 / l2) * l2) &&& 31)))]) d_T_putZeta_14 rfl (by decide) rfl ?_
  refine aw_aload_n (pc' := 17) d_T_putZeta_16 rfl rfl ?_
  refine aw_iconst (pc' := 18) d_T_putZeta_17 rfl kc_ic_1 ?_
  refine aw_iload_n (pc' := 19) d_T_putZeta_18 rfl rfl ?_
  refine aw_iconst (pc' := 20) d_T_putZeta_19 rfl kc_ic_1 ?_
  refine aw_iadd (pc' := 21) d_T_putZeta_20 rfl ?_
  obtain ⟨r3, hr3, hf⟩ := aw_bind hf
  refine aw_callVn (pc' := 24) (av := [.int (1 : Int32), .int ((r1 / l2) + (1 : Int32))]) d_T_putZeta_21 rfl wc_T_17 hC_2 (mT_putNumber hr3) (Or.inl rfl) rfl (by decide) (Nat.le_of_ble_eq_true rfl) ⟨(Nat.le_refl 0), (Nat.le_refl 0)⟩ ?_
  refine aw_iload_n (pc' := 25) d_T_putZeta_24 rfl rfl ?_
  refine aw_iconst (pc' := 26) d_T_putZeta_25 rfl kc_ic_1 ?_
  refine aw_iadd (pc' := 27) d_T_putZeta_26 rfl ?_
  refine aw_iconst (pc' := 28) d_T_putZeta_27 rfl kc_ic_2 ?_
  refine aw_iload (pc' := 30) d_T_putZeta_28 rfl rfl ?_
  refine aw_imul (pc' := 31) d_T_putZeta_30 rfl ?_
  refine aw_icmp_ge (tgt := 54) (pc' := 34) d_T_putZeta_31 (by decide) rfl (fun c4 => ?_) (fun c4 => ?_)
  · replace hf := aw_ifp c4 hf
    refine aw_aload_n (pc' := 55) d_T_putZeta_54 rfl rfl ?_
    refine aw_iload_n (pc' := 56) d_T_putZeta_55 rfl rfl ?_
    refine aw_iconst (pc' := 57) d_T_putZeta_56 rfl kc_ic_1 ?_
    refine aw_iadd (pc' := 58) d_T_putZeta_57 rfl ?_
    refine aw_iload_n (pc' := 59) d_T_putZeta_58 rfl rfl ?_
    refine aw_iload_n (pc' := 60) d_T_putZeta_59 rfl rfl ?_
    refine aw_imul (pc' := 61) d_T_putZeta_60 rfl ?_
    refine aw_iload_n (pc' := 62) d_T_putZeta_61 rfl rfl ?_
    refine aw_iadd (pc' := 63) d_T_putZeta_62 rfl ?_
    obtain ⟨r5, hr5, hf⟩ := aw_bind hf
    refine aw_callVn (pc' := 66) (av := [.int (l1 + (1 : Int32)), .int (((r1 / l2) * l2) + l2)]) d_T_putZeta_63 rfl wc_T_17 hC_2 (mT_putNumber hr5) (Or.inl rfl) rfl (by decide) (Nat.le_of_ble_eq_true rfl) ⟨(Nat.le_refl 0), (Nat.le_refl 0)⟩ ?_
    exact aw_weak [false, false, false, false, false] rfl (wT_putZeta_66 _ hf)
  · replace hf := aw_ifn c4 hf
    refine aw_aload_n (pc' := 35) d_T_putZeta_34 rfl rfl ?_
    refine aw_iload_n (pc' := 36) d_T_putZeta_35 rfl rfl ?_
    refine aw_iconst (pc' := 37) d_T_putZeta_36 rfl kc_ic_1 ?_
    refine aw_iadd (pc' := 38) d_T_putZeta_37 rfl ?_
    refine aw_iload (pc' := 40) d_T_putZeta_38 rfl rfl ?_
    refine aw_isub (pc' := 41) d_T_putZeta_40 rfl ?_
    refine aw_iload_n (pc' := 42) d_T_putZeta_41 rfl rfl ?_
    refine aw_iload_n (pc' := 43) d_T_putZeta_42 rfl rfl ?_
    refine aw_imul (pc' := 44) d_T_putZeta_43 rfl ?_
    refine aw_iload_n (pc' := 45) d_T_putZeta_44 rfl rfl ?_
    refine aw_iadd (pc' := 46) d_T_putZeta_45 rfl ?_
    refine aw_iconst (pc' := 47) d_T_putZeta_46 rfl kc_ic_1 ?_
    refine aw_isub (pc' := 48) d_T_putZeta_47 rfl ?_
    obtain ⟨r6, hr6, hf⟩ := aw_bind hf
    refine aw_callVn (pc' := 51) (av := [.int ((l1 + (1 : Int32)) - ((1 : Int32) <<< (((r1 / l2) * l2) &&& 31))), .int ((((r1 / l2) * l2) + l2) - (1 : Int32))]) d_T_putZeta_48 rfl wc_T_17 hC_2 (mT_putNumber hr6) (Or.inl rfl) rfl (by decide) (Nat.le_of_ble_eq_true rfl) ⟨(Nat.le_refl 0), (Nat.le_refl 0)⟩ ?_
    refine aw_goto (tgt := 66) d_T_putZeta_51 (by decide) ?_
    exact aw_weak [false, false, false, false, false] rfl (wT_putZeta_66 _ hf)
set_option maxRecDepth 20000 in
theorem wT_withoutSign_16 {N : Nat} {h0 : aw_H} {r0 : Int32} (s0 : Int32) (hf : fT_withoutSign_16 N s0 = some r0) : AW "ArcTape$Tape" "withoutSign" c_T_withoutSign 1 (some .int) 0 0 0 0 (aw_is (some (.int r0)) h0) 16 [none] [.int s0] h0 0 0 := by
  unfold fT_withoutSign_16 at hf
  cases hf
  exact aw_ireturn rfl d_T_withoutSign_16 (Nat.le_refl 0) (Nat.le_refl 0) ⟨rfl, rfl⟩
set_option maxRecDepth 20000 in
theorem mT_withoutSign {N : Nat} {h0 : aw_H} {r0 : Int32} {l0 : Int32} (hf : fT_withoutSign N l0 = some r0) : AM y_T_withoutSign c_T_withoutSign 1 (some .int) 0 0 0 0 [.int l0] h0 (aw_is (some (.int r0)) h0) := by
  unfold fT_withoutSign at hf
  refine AM.of (own := "ArcTape$Tape") (nm := "withoutSign") (L := [some (.int l0)]) rfl rfl (by decide) (Nat.le_of_ble_eq_true rfl) rfl ?_
  refine aw_iload_n (pc' := 1) d_T_withoutSign_0 rfl rfl ?_
  refine aw_if_lt (tgt := 10) (pc' := 4) d_T_withoutSign_1 (by decide) rfl (fun c1 => ?_) (fun c1 => ?_)
  · replace hf := aw_ifp c1 hf
    refine aw_bipush (pc' := 12) d_T_withoutSign_10 rfl kc_bi_m2 ?_
    refine aw_iload_n (pc' := 13) d_T_withoutSign_12 rfl rfl ?_
    refine aw_imul (pc' := 14) d_T_withoutSign_13 rfl ?_
    refine aw_iconst (pc' := 15) d_T_withoutSign_14 rfl kc_ic_1 ?_
    refine aw_isub (pc' := 16) d_T_withoutSign_15 rfl ?_
    exact aw_weak [false] rfl (wT_withoutSign_16 _ hf)
  · replace hf := aw_ifn c1 hf
    refine aw_iconst (pc' := 5) d_T_withoutSign_4 rfl kc_ic_2 ?_
    refine aw_iload_n (pc' := 6) d_T_withoutSign_5 rfl rfl ?_
    refine aw_imul (pc' := 7) d_T_withoutSign_6 rfl ?_
    refine aw_goto (tgt := 16) d_T_withoutSign_7 (by decide) ?_
    exact aw_weak [false] rfl (wT_withoutSign_16 _ hf)
set_option maxRecDepth 20000 in
theorem wT_withSign_18 {N : Nat} {h0 : aw_H} {r0 : Int32} (s0 : Int32) (hf : fT_withSign_18 N s0 = some r0) : AW "ArcTape$Tape" "withSign" c_T_withSign 1 (some .int) 0 0 0 0 (aw_is (some (.int r0)) h0) 18 [none] [.int s0] h0 0 0 := by
  unfold fT_withSign_18 at hf
  cases hf
  exact aw_ireturn rfl d_T_withSign_18 (Nat.le_refl 0) (Nat.le_refl 0) ⟨rfl, rfl⟩
set_option maxRecDepth 20000 in
theorem mT_withSign {N : Nat} {h0 : aw_H} {r0 : Int32} {l0 : Int32} (hf : fT_withSign N l0 = some r0) : AM y_T_withSign c_T_withSign 1 (some .int) 0 0 0 0 [.int l0] h0 (aw_is (some (.int r0)) h0) := by
  unfold fT_withSign at hf
  refine AM.of (own := "ArcTape$Tape") (nm := "withSign") (L := [some (.int l0)]) rfl rfl (by decide) (Nat.le_of_ble_eq_true rfl) rfl ?_
  refine aw_iload_n (pc' := 1) d_T_withSign_0 rfl rfl ?_
  refine aw_iconst (pc' := 2) d_T_withSign_1 rfl kc_ic_2 ?_
  refine aw_irem (pc' := 3) d_T_withSign_2 rfl (by decide) ?_
  refine aw_if_ne (tgt := 12) (pc' := 6) d_T_withSign_3 (by decide) rfl (fun c2 => ?_) (fun c2 => ?_)
  · replace hf := aw_ifn c2 hf
    refine aw_iload_n (pc' := 13) d_T_withSign_12 rfl rfl ?_
    refine aw_iconst (pc' := 14) d_T_withSign_13 rfl kc_ic_1 ?_
    refine aw_iadd (pc' := 15) d_T_withSign_14 rfl ?_
    refine aw_ineg (pc' := 16) d_T_withSign_15 rfl ?_
    refine aw_iconst (pc' := 17) d_T_withSign_16 rfl kc_ic_2 ?_
    refine aw_idiv (pc' := 18) d_T_withSign_17 rfl (by decide) ?_
    exact aw_weak [false] rfl (wT_withSign_18 _ hf)
  · replace hf := aw_ifp c2 hf
    refine aw_iload_n (pc' := 7) d_T_withSign_6 rfl rfl ?_
    refine aw_iconst (pc' := 8) d_T_withSign_7 rfl kc_ic_2 ?_
    refine aw_idiv (pc' := 9) d_T_withSign_8 rfl (by decide) ?_
    refine aw_goto (tgt := 18) d_T_withSign_9 (by decide) ?_
    exact aw_weak [false] rfl (wT_withSign_18 _ hf)
set_option maxRecDepth 20000 in
theorem wK_mayBeReferredTo_30 {N : Nat} {n : Nat} {μ : me_M} {r0 : Int32} (s0 : Int32) (hf : fK_mayBeReferredTo_30 N n μ s0 = some r0) : AW "ArcTape$Packer" "mayBeReferredTo" c_K_mayBeReferredTo 2 (some .boolean) 0 0 0 0 (aw_is (some (.int r0)) (hC n μ)) 30 [none, none] [.int s0] (hC n μ) 0 0 := by
  unfold fK_mayBeReferredTo_30 at hf
  obtain ⟨g1, hf⟩ := aw_gz hf
  cases hf
  exact aw_zreturn rfl g1.1 d_K_mayBeReferredTo_30 (Nat.le_refl 0) (Nat.le_refl 0) ⟨rfl, rfl⟩
set_option maxRecDepth 20000 in
theorem wK_mayBeReferredTo_29 {N : Nat} {n : Nat} {μ : me_M} {r0 : Int32} (hf : fK_mayBeReferredTo_29 N n μ = some r0) : AW "ArcTape$Packer" "mayBeReferredTo" c_K_mayBeReferredTo 2 (some .boolean) 0 0 0 0 (aw_is (some (.int r0)) (hC n μ)) 29 [none, none] [] (hC n μ) 0 0 := by
  unfold fK_mayBeReferredTo_29 at hf
  refine aw_iconst (pc' := 30) d_K_mayBeReferredTo_29 rfl kc_ic_0 ?_
  exact aw_weak [false, false] rfl (wK_mayBeReferredTo_30 _ hf)
set_option maxRecDepth 20000 in
theorem mK_mayBeReferredTo {N : Nat} {n : Nat} {μ : me_M} {r0 : Int32} {l1 : Int32} (hf : fK_mayBeReferredTo N n μ l1 = some r0) : AM y_K_mayBeReferredTo c_K_mayBeReferredTo 2 (some .boolean) 0 0 0 0 [.ref 6, .int l1] (hC n μ) (aw_is (some (.int r0)) (hC n μ)) := by
  unfold fK_mayBeReferredTo at hf
  refine AM.of (own := "ArcTape$Packer") (nm := "mayBeReferredTo") (L := [some (.ref 6), some (.int l1)]) rfl rfl (by decide) (Nat.le_of_ble_eq_true rfl) rfl ?_
  refine aw_aload_n (pc' := 1) d_K_mayBeReferredTo_0 rfl rfl ?_
  refine aw_get (pc' := 4) d_K_mayBeReferredTo_1 rfl fl_K_21 hC_6 rfl ?_
  refine aw_iload_n (pc' := 5) d_K_mayBeReferredTo_4 rfl rfl ?_
  obtain ⟨g2, hf⟩ := aw_gi hf
  refine aw_iald (pc' := 6) d_K_mayBeReferredTo_5 rfl rfl hC_1 g2 ?_
  refine aw_if_eq (tgt := 29) (pc' := 9) d_K_mayBeReferredTo_6 (by decide) rfl (fun c3 => ?_) (fun c3 => ?_)
  · replace hf := aw_ifp c3 hf
    exact aw_weak [false, false] rfl (wK_mayBeReferredTo_29  hf)
  · replace hf := aw_ifn c3 hf
    refine aw_aload_n (pc' := 10) d_K_mayBeReferredTo_9 rfl rfl ?_
    refine aw_get (pc' := 13) d_K_mayBeReferredTo_10 rfl fl_K_32 hC_6 rfl ?_
    refine aw_iload_n (pc' := 14) d_K_mayBeReferredTo_13 rfl rfl ?_
    obtain ⟨g4, hf⟩ := aw_gi hf
    refine aw_iald (pc' := 15) d_K_mayBeReferredTo_14 rfl rfl hC_10 g4 ?_
    refine aw_aload_n (pc' := 16) d_K_mayBeReferredTo_15 rfl rfl ?_
    refine aw_get (pc' := 19) d_K_mayBeReferredTo_16 rfl fl_K_24 hC_6 rfl ?_
    refine aw_get (pc' := 22) d_K_mayBeReferredTo_19 rfl fl_K_67 hC_4 rfl ?_
    refine aw_icmp_ge (tgt := 29) (pc' := 25) d_K_mayBeReferredTo_22 (by decide) rfl (fun c5 => ?_) (fun c5 => ?_)
    · replace hf := aw_ifp c5 hf
      exact aw_weak [false, false] rfl (wK_mayBeReferredTo_29  hf)
    · replace hf := aw_ifn c5 hf
      refine aw_iconst (pc' := 26) d_K_mayBeReferredTo_25 rfl kc_ic_1 ?_
      refine aw_goto (tgt := 30) d_K_mayBeReferredTo_26 (by decide) ?_
      exact aw_weak [false, false] rfl (wK_mayBeReferredTo_30 _ hf)
set_option maxRecDepth 20000 in
theorem wJ_bitCount_48 {N : Nat} {h0 : aw_H} {r0 : Int32} (l0 : Int32) (hf : fJ_bitCount_48 N l0 = some r0) : AW "java/lang/Integer" "bitCount" c_J_bitCount 1 (some .int) 0 0 0 0 (aw_is (some (.int r0)) h0) 48 [some (.int l0)] [] h0 0 0 := by
  unfold fJ_bitCount_48 at hf
  refine aw_iload_n (pc' := 49) d_J_bitCount_48 rfl rfl ?_
  refine aw_bipush (pc' := 51) d_J_bitCount_49 rfl kc_bi_63 ?_
  refine aw_iand (pc' := 52) d_J_bitCount_51 rfl ?_
  cases hf
  exact aw_ireturn rfl d_J_bitCount_52 (Nat.le_refl 0) (Nat.le_refl 0) ⟨rfl, rfl⟩
set_option maxRecDepth 20000 in
theorem wJ_bitCount_41 {N : Nat} {h0 : aw_H} {r0 : Int32} (l0 : Int32) (hf : fJ_bitCount_41 N l0 = some r0) : AW "java/lang/Integer" "bitCount" c_J_bitCount 1 (some .int) 0 0 0 0 (aw_is (some (.int r0)) h0) 41 [some (.int l0)] [] h0 0 0 := by
  unfold fJ_bitCount_41 at hf
  refine aw_iload_n (pc' := 42) d_J_bitCount_41 rfl rfl ?_
  refine aw_iload_n (pc' := 43) d_J_bitCount_42 rfl rfl ?_
  refine aw_bipush (pc' := 45) d_J_bitCount_43 rfl kc_bi_16 ?_
  refine aw_iushr (pc' := 46) d_J_bitCount_45 rfl ?_
  refine aw_iadd (pc' := 47) d_J_bitCount_46 rfl ?_
  refine aw_istore_n (pc' := 48) (L' := [some (.int (l0 + ((l0.toUInt32 >>> ((16 : Int32).toUInt32 &&& Int32.toUInt32 31)).toInt32)))]) d_J_bitCount_47 rfl (by decide) rfl ?_
  exact aw_weak [true] rfl (wJ_bitCount_48 _ hf)
set_option maxRecDepth 20000 in
theorem wJ_bitCount_34 {N : Nat} {h0 : aw_H} {r0 : Int32} (l0 : Int32) (hf : fJ_bitCount_34 N l0 = some r0) : AW "java/lang/Integer" "bitCount" c_J_bitCount 1 (some .int) 0 0 0 0 (aw_is (some (.int r0)) h0) 34 [some (.int l0)] [] h0 0 0 := by
  unfold fJ_bitCount_34 at hf
  refine aw_iload_n (pc' := 35) d_J_bitCount_34 rfl rfl ?_
  refine aw_iload_n (pc' := 36) d_J_bitCount_35 rfl rfl ?_
  refine aw_bipush (pc' := 38) d_J_bitCount_36 rfl kc_bi_8 ?_
  refine aw_iushr (pc' := 39) d_J_bitCount_38 rfl ?_
  refine aw_iadd (pc' := 40) d_J_bitCount_39 rfl ?_
  refine aw_istore_n (pc' := 41) (L' := [some (.int (l0 + ((l0.toUInt32 >>> ((8 : Int32).toUInt32 &&& Int32.toUInt32 31)).toInt32)))]) d_J_bitCount_40 rfl (by decide) rfl ?_
  exact aw_weak [true] rfl (wJ_bitCount_41 _ hf)
set_option maxRecDepth 20000 in
theorem wJ_bitCount_24 {N : Nat} {h0 : aw_H} {r0 : Int32} (l0 : Int32) (hf : fJ_bitCount_24 N l0 = some r0) : AW "java/lang/Integer" "bitCount" c_J_bitCount 1 (some .int) 0 0 0 0 (aw_is (some (.int r0)) h0) 24 [some (.int l0)] [] h0 0 0 := by
  unfold fJ_bitCount_24 at hf
  refine aw_iload_n (pc' := 25) d_J_bitCount_24 rfl rfl ?_
  refine aw_iload_n (pc' := 26) d_J_bitCount_25 rfl rfl ?_
  refine aw_iconst (pc' := 27) d_J_bitCount_26 rfl kc_ic_4 ?_
  refine aw_iushr (pc' := 28) d_J_bitCount_27 rfl ?_
  refine aw_iadd (pc' := 29) d_J_bitCount_28 rfl ?_
  refine aw_ldcw (pc' := 32) d_J_bitCount_29 rfl wk_J_267 ?_
  refine aw_iand (pc' := 33) d_J_bitCount_32 rfl ?_
  refine aw_istore_n (pc' := 34) (L' := [some (.int ((l0 + ((l0.toUInt32 >>> ((4 : Int32).toUInt32 &&& Int32.toUInt32 31)).toInt32)) &&& (252645135 : Int32)))]) d_J_bitCount_33 rfl (by decide) rfl ?_
  exact aw_weak [true] rfl (wJ_bitCount_34 _ hf)
set_option maxRecDepth 20000 in
theorem wJ_bitCount_10 {N : Nat} {h0 : aw_H} {r0 : Int32} (l0 : Int32) (hf : fJ_bitCount_10 N l0 = some r0) : AW "java/lang/Integer" "bitCount" c_J_bitCount 1 (some .int) 0 0 0 0 (aw_is (some (.int r0)) h0) 10 [some (.int l0)] [] h0 0 0 := by
  unfold fJ_bitCount_10 at hf
  refine aw_iload_n (pc' := 11) d_J_bitCount_10 rfl rfl ?_
  refine aw_ldcw (pc' := 14) d_J_bitCount_11 rfl wk_J_266 ?_
  refine aw_iand (pc' := 15) d_J_bitCount_14 rfl ?_
  refine aw_iload_n (pc' := 16) d_J_bitCount_15 rfl rfl ?_
  refine aw_iconst (pc' := 17) d_J_bitCount_16 rfl kc_ic_2 ?_
  refine aw_iushr (pc' := 18) d_J_bitCount_17 rfl ?_
  refine aw_ldcw (pc' := 21) d_J_bitCount_18 rfl wk_J_266 ?_
  refine aw_iand (pc' := 22) d_J_bitCount_21 rfl ?_
  refine aw_iadd (pc' := 23) d_J_bitCount_22 rfl ?_
  refine aw_istore_n (pc' := 24) (L' := [some (.int ((l0 &&& (858993459 : Int32)) + (((l0.toUInt32 >>> ((2 : Int32).toUInt32 &&& Int32.toUInt32 31)).toInt32) &&& (858993459 : Int32))))]) d_J_bitCount_23 rfl (by decide) rfl ?_
  exact aw_weak [true] rfl (wJ_bitCount_24 _ hf)
set_option maxRecDepth 20000 in
theorem mJ_bitCount {N : Nat} {h0 : aw_H} {r0 : Int32} {l0 : Int32} (hf : fJ_bitCount N l0 = some r0) : AM y_J_bitCount c_J_bitCount 1 (some .int) 0 0 0 0 [.int l0] h0 (aw_is (some (.int r0)) h0) := by
  unfold fJ_bitCount at hf
  refine AM.of (own := "java/lang/Integer") (nm := "bitCount") (L := [some (.int l0)]) rfl rfl (by decide) (Nat.le_of_ble_eq_true rfl) rfl ?_
  refine aw_iload_n (pc' := 1) d_J_bitCount_0 rfl rfl ?_
  refine aw_iload_n (pc' := 2) d_J_bitCount_1 rfl rfl ?_
  refine aw_iconst (pc' := 3) d_J_bitCount_2 rfl kc_ic_1 ?_
  refine aw_iushr (pc' := 4) d_J_bitCount_3 rfl ?_
  refine aw_ldcw (pc' := 7) d_J_bitCount_4 rfl wk_J_265 ?_
  refine aw_iand (pc' := 8) d_J_bitCount_7 rfl ?_
  refine aw_isub (pc' := 9) d_J_bitCount_8 rfl ?_
  refine aw_istore_n (pc' := 10) (L' := [some (.int (l0 - (((l0.toUInt32 >>> ((1 : Int32).toUInt32 &&& Int32.toUInt32 31)).toInt32) &&& (1431655765 : Int32))))]) d_J_bitCount_9 rfl (by decide) rfl ?_
  exact aw_weak [true] rfl (wJ_bitCount_10 _ hf)
set_option maxRecDepth 20000 in
theorem wA_holds_13 {N : Nat} {h0 : aw_H} {r0 : Int32} (s0 : Int32) (hf : fA_holds_13 N s0 = some r0) : AW "ArcTape" "holds" c_A_holds 2 (some .boolean) 0 0 0 0 (aw_is (some (.int r0)) h0) 13 [none, none] [.int s0] h0 0 0 := by
  unfold fA_holds_13 at hf
  obtain ⟨g1, hf⟩ := aw_gz hf
  cases hf
  exact aw_zreturn rfl g1.1 d_A_holds_13 (Nat.le_refl 0) (Nat.le_refl 0) ⟨rfl, rfl⟩
set_option maxRecDepth 20000 in
theorem mA_holds {N : Nat} {h0 : aw_H} {r0 : Int32} {l0 : Int32} {l1 : Int32} (hf : fA_holds N l0 l1 = some r0) : AM y_A_holds c_A_holds 2 (some .boolean) 0 0 0 0 [.int l0, .int l1] h0 (aw_is (some (.int r0)) h0) := by
  unfold fA_holds at hf
  refine AM.of (own := "ArcTape") (nm := "holds") (L := [some (.int l0), some (.int l1)]) rfl rfl (by decide) (Nat.le_of_ble_eq_true rfl) rfl ?_
  refine aw_iload_n (pc' := 1) d_A_holds_0 rfl rfl ?_
  refine aw_iload_n (pc' := 2) d_A_holds_1 rfl rfl ?_
  refine aw_ishr (pc' := 3) d_A_holds_2 rfl ?_
  refine aw_iconst (pc' := 4) d_A_holds_3 rfl kc_ic_1 ?_
  refine aw_iand (pc' := 5) d_A_holds_4 rfl ?_
  refine aw_if_eq (tgt := 12) (pc' := 8) d_A_holds_5 (by decide) rfl (fun c2 => ?_) (fun c2 => ?_)
  · replace hf := aw_ifp c2 hf
    refine aw_iconst (pc' := 13) d_A_holds_12 rfl kc_ic_0 ?_
    exact aw_weak [false, false] rfl (wA_holds_13 _ hf)
  · replace hf := aw_ifn c2 hf
    refine aw_iconst (pc' := 9) d_A_holds_8 rfl kc_ic_1 ?_
    refine aw_goto (tgt := 13) d_A_holds_9 (by decide) ?_
    exact aw_weak [false, false] rfl (wA_holds_13 _ hf)
set_option maxRecDepth 20000 in
theorem wK_writeRuns_137 {N : Nat} {n : Nat} {r0 : me_M} (μ : me_M) (hf : fK_writeRuns_137 N n μ = some r0) : AW "ArcTape$Packer" "writeRuns" c_K_writeRuns 6 none 2 0 0 0 (aw_is none (hC n r0)) 137 [none, none, none, none, none, none] [] (hC n μ) 0 0 := by
  unfold fK_writeRuns_137 at hf
  cases hf
  exact aw_return rfl d_K_writeRuns_137 (Nat.le_refl 0) (Nat.le_refl 0) ⟨rfl, rfl⟩
set_option maxRecDepth 20000 in
theorem wK_writeRuns_128 {N : Nat} {n : Nat} {r0 : me_M} {k94 : Int32 → Int32 → me_M → Option me_M} (hk94 : ∀ (l3 : Int32) (l5 : Int32) (μ : me_M), k94 l3 l5 μ = some r0 → AW "ArcTape$Packer" "writeRuns" c_K_writeRuns 6 none 2 0 0 0 (aw_is none (hC n r0)) 94 [some (.ref 6), none, none, some (.int l3), none, some (.int l5)] [] (hC n μ) 0 0) (l3 : Int32) (l5 : Int32) (s1 : Int32) (μ : me_M) (hf : fK_writeRuns_128 N n k94 l3 l5 s1 μ = some r0) : AW "ArcTape$Packer" "writeRuns" c_K_writeRuns 6 none 2 0 0 0 (aw_is none (hC n r0)) 128 [some (.ref 6), none, none, some (.int l3), none, some (.int l5)] [.int s1, .ref 2] (hC n μ) 0 0 := by
  unfold fK_writeRuns_128 at hf
  obtain ⟨r1, hr1, hf⟩ := aw_bind hf
  refine aw_callVn (pc' := 131) (av := [.int s1]) d_K_writeRuns_128 rfl wc_K_75 hC_2 (mT_putGamma hr1) (Or.inl rfl) rfl (by decide) (Nat.le_of_ble_eq_true rfl) ⟨(Nat.le_refl 0), (Nat.le_refl 0)⟩ ?_
  refine aw_iinc (pc' := 134) (L' := [some (.ref 6), none, none, some (.int l3), none, some (.int (l5 + (1 : Int32)))]) d_K_writeRuns_131 rfl kc_ic_1 rfl (by decide) rfl ?_
  refine aw_goto (tgt := 94) d_K_writeRuns_134 (by decide) ?_
  exact aw_weak [true, false, false, true, false, true] rfl (hk94 _ _ _ hf)
set_option maxRecDepth 20000 in
theorem wK_writeRuns_94b {N : Nat} {n : Nat} {r0 : me_M} {k94 : Int32 → Int32 → me_M → Option me_M} (hk94 : ∀ (l3 : Int32) (l5 : Int32) (μ : me_M), k94 l3 l5 μ = some r0 → AW "ArcTape$Packer" "writeRuns" c_K_writeRuns 6 none 2 0 0 0 (aw_is none (hC n r0)) 94 [some (.ref 6), none, none, some (.int l3), none, some (.int l5)] [] (hC n μ) 0 0) (l3 : Int32) (l5 : Int32) (μ : me_M) (hf : fK_writeRuns_94b N n k94 l3 l5 μ = some r0) : AW "ArcTape$Packer" "writeRuns" c_K_writeRuns 6 none 2 0 0 0 (aw_is none (hC n r0)) 94 [some (.ref 6), none, none, some (.int l3), none, some (.int l5)] [] (hC n μ) 0 0 := by
  unfold fK_writeRuns_94b at hf
  refine aw_iload (pc' := 96) d_K_writeRuns_94 rfl rfl ?_
  refine aw_iload_n (pc' := 97) d_K_writeRuns_96 rfl rfl ?_
  refine aw_icmp_ge (tgt := 137) (pc' := 100) d_K_writeRuns_97 (by decide) rfl (fun c2 => ?_) (fun c2 => ?_)
  · replace hf := aw_ifp c2 hf
    exact aw_weak [false, false, false, false, false, false] rfl (wK_writeRuns_137 _ hf)
  · replace hf := aw_ifn c2 hf
    refine aw_aload_n (pc' := 101) d_K_writeRuns_100 rfl rfl ?_
    refine aw_get (pc' := 104) d_K_writeRuns_101 rfl fl_K_28 hC_6 rfl ?_
    refine aw_iload (pc' := 106) d_K_writeRuns_104 rfl rfl ?_
    refine aw_if_ne (tgt := 119) (pc' := 109) d_K_writeRuns_106 (by decide) rfl (fun c3 => ?_) (fun c3 => ?_)
    · replace hf := aw_ifn c3 hf
      refine aw_aload_n (pc' := 120) d_K_writeRuns_119 rfl rfl ?_
      refine aw_get (pc' := 123) d_K_writeRuns_120 rfl fl_K_9 hC_6 rfl ?_
      refine aw_iload (pc' := 125) d_K_writeRuns_123 rfl rfl ?_
      obtain ⟨g4, hf⟩ := aw_gi hf
      refine aw_iald (pc' := 126) d_K_writeRuns_125 rfl rfl hC_7 g4 ?_
      refine aw_iconst (pc' := 127) d_K_writeRuns_126 rfl kc_ic_1 ?_
      refine aw_isub (pc' := 128) d_K_writeRuns_127 rfl ?_
      exact aw_weak [true, false, false, true, false, true] rfl (wK_writeRuns_128 hk94 _ _ _ _ hf)
    · replace hf := aw_ifp c3 hf
      refine aw_aload_n (pc' := 110) d_K_writeRuns_109 rfl rfl ?_
      refine aw_get (pc' := 113) d_K_writeRuns_110 rfl fl_K_9 hC_6 rfl ?_
      refine aw_iload (pc' := 115) d_K_writeRuns_113 rfl rfl ?_
      obtain ⟨g5, hf⟩ := aw_gi hf
      refine aw_iald (pc' := 116) d_K_writeRuns_115 rfl rfl hC_7 g5 ?_
      refine aw_goto (tgt := 128) d_K_writeRuns_116 (by decide) ?_
      exact aw_weak [true, false, false, true, false, true] rfl (wK_writeRuns_128 hk94 _ _ _ _ hf)
set_option maxRecDepth 20000 in
theorem wK_writeRuns_94 {N : Nat} {n : Nat} {r0 : me_M} : ∀ (F : Nat) (l3 : Int32) (l5 : Int32) (μ : me_M) (hf : fK_writeRuns_94 N n F l3 l5 μ = some r0), AW "ArcTape$Packer" "writeRuns" c_K_writeRuns 6 none 2 0 0 0 (aw_is none (hC n r0)) 94 [some (.ref 6), none, none, some (.int l3), none, some (.int l5)] [] (hC n μ) 0 0 := by
  intro F
  induction F with
  | zero => intro l3 l5 μ hf; exact aw_no hf
  | succ F ih => intro l3 l5 μ hf; exact wK_writeRuns_94b ih l3 l5 μ hf
set_option maxRecDepth 20000 in
theorem wK_writeRuns_83 {N : Nat} {n : Nat} {r0 : me_M} (l3 : Int32) (μ : me_M) (hf : fK_writeRuns_83 N n l3 μ = some r0) : AW "ArcTape$Packer" "writeRuns" c_K_writeRuns 6 none 2 0 0 0 (aw_is none (hC n r0)) 83 [some (.ref 6), none, none, some (.int l3), none, none] [] (hC n μ) 0 0 := by
  unfold fK_writeRuns_83 at hf
  refine aw_aload_n (pc' := 84) d_K_writeRuns_83 rfl rfl ?_
  refine aw_get (pc' := 87) d_K_writeRuns_84 rfl fl_K_28 hC_6 rfl ?_
  refine aw_iload_n (pc' := 88) d_K_writeRuns_87 rfl rfl ?_
  obtain ⟨r6, hr6, hf⟩ := aw_bind hf
  refine aw_callVn (pc' := 91) (av := [.int l3]) d_K_writeRuns_88 rfl wc_K_75 hC_2 (mT_putGamma hr6) (Or.inl rfl) rfl (by decide) (Nat.le_of_ble_eq_true rfl) ⟨(Nat.le_refl 0), (Nat.le_refl 0)⟩ ?_
  refine aw_iconst (pc' := 92) d_K_writeRuns_91 rfl kc_ic_0 ?_
  refine aw_istore (pc' := 94) (L' := [some (.ref 6), none, none, some (.int l3), none, some (.int (0 : Int32))]) d_K_writeRuns_92 rfl (by decide) rfl ?_
  exact aw_weak [true, false, false, true, false, true] rfl (wK_writeRuns_94 _ _ _ _ hf)
set_option maxRecDepth 20000 in
theorem wK_writeRuns_77 {N : Nat} {n : Nat} {r0 : me_M} {k15 : Int32 → Int32 → Int32 → Int32 → Int32 → me_M → Option me_M} (hk15 : ∀ (l1 : Int32) (l2 : Int32) (l3 : Int32) (l4 : Int32) (l5 : Int32) (μ : me_M), k15 l1 l2 l3 l4 l5 μ = some r0 → AW "ArcTape$Packer" "writeRuns" c_K_writeRuns 6 none 2 0 0 0 (aw_is none (hC n r0)) 15 [some (.ref 6), some (.int l1), some (.int l2), some (.int l3), some (.int l4), some (.int l5)] [] (hC n μ) 0 0) (l1 : Int32) (l2 : Int32) (l3 : Int32) (l4 : Int32) (l5 : Int32) (μ : me_M) (hf : fK_writeRuns_77 N n k15 l1 l2 l3 l4 l5 μ = some r0) : AW "ArcTape$Packer" "writeRuns" c_K_writeRuns 6 none 2 0 0 0 (aw_is none (hC n r0)) 77 [some (.ref 6), some (.int l1), some (.int l2), some (.int l3), some (.int l4), some (.int l5)] [] (hC n μ) 0 0 := by
  unfold fK_writeRuns_77 at hf
  refine aw_iinc (pc' := 80) (L' := [some (.ref 6), some (.int l1), some (.int l2), some (.int l3), some (.int l4), some (.int (l5 + (1 : Int32)))]) d_K_writeRuns_77 rfl kc_ic_1 rfl (by decide) rfl ?_
  refine aw_goto (tgt := 15) d_K_writeRuns_80 (by decide) ?_
  exact aw_weak [true, true, true, true, true, true] rfl (hk15 _ _ _ _ _ _ hf)
set_option maxRecDepth 20000 in
theorem wK_writeRuns_67 {N : Nat} {n : Nat} {r0 : me_M} {k15 : Int32 → Int32 → Int32 → Int32 → Int32 → me_M → Option me_M} (hk15 : ∀ (l1 : Int32) (l2 : Int32) (l3 : Int32) (l4 : Int32) (l5 : Int32) (μ : me_M), k15 l1 l2 l3 l4 l5 μ = some r0 → AW "ArcTape$Packer" "writeRuns" c_K_writeRuns 6 none 2 0 0 0 (aw_is none (hC n r0)) 15 [some (.ref 6), some (.int l1), some (.int l2), some (.int l3), some (.int l4), some (.int l5)] [] (hC n μ) 0 0) (l1 : Int32) (l2 : Int32) (l3 : Int32) (l4 : Int32) (l5 : Int32) (μ : me_M) (hf : fK_writeRuns_67 N n k15 l1 l2 l3 l4 l5 μ = some r0) : AW "ArcTape$Packer" "writeRuns" c_K_writeRuns 6 none 2 0 0 0 (aw_is none (hC n r0)) 67 [some (.ref 6), some (.int l1), some (.int l2), some (.int l3), some (.int l4), some (.int l5)] [] (hC n μ) 0 0 := by
  unfold fK_writeRuns_67 at hf
  refine aw_aload_n (pc' := 68) d_K_writeRuns_67 rfl rfl ?_
  refine aw_get (pc' := 71) d_K_writeRuns_68 rfl fl_K_9 hC_6 rfl ?_
  refine aw_iload_n (pc' := 72) d_K_writeRuns_71 rfl rfl ?_
  refine aw_dup2 (pc' := 73) d_K_writeRuns_72 rfl rfl rfl ?_
  obtain ⟨g7, hf⟩ := aw_gi hf
  refine aw_iald (pc' := 74) d_K_writeRuns_73 rfl rfl hC_7 g7 ?_
  refine aw_iconst (pc' := 75) d_K_writeRuns_74 rfl kc_ic_1 ?_
  refine aw_iadd (pc' := 76) d_K_writeRuns_75 rfl ?_
  obtain ⟨g8, hf⟩ := aw_gi hf
  refine aw_iast (pc' := 77) (h' := (hC n (me_wi μ 7 l3.toNatClampNeg ((μ.1 7 l3.toNatClampNeg) + (1 : Int32))))) d_K_writeRuns_76 rfl rfl hC_7 g8 rfl ?_
  exact aw_weak [true, true, true, true, true, true] rfl (wK_writeRuns_77 hk15 _ _ _ _ _ _ hf)
set_option maxRecDepth 20000 in
theorem wK_writeRuns_55 {N : Nat} {n : Nat} {r0 : me_M} {k15 : Int32 → Int32 → Int32 → Int32 → Int32 → me_M → Option me_M} (hk15 : ∀ (l1 : Int32) (l2 : Int32) (l3 : Int32) (l4 : Int32) (l5 : Int32) (μ : me_M), k15 l1 l2 l3 l4 l5 μ = some r0 → AW "ArcTape$Packer" "writeRuns" c_K_writeRuns 6 none 2 0 0 0 (aw_is none (hC n r0)) 15 [some (.ref 6), some (.int l1), some (.int l2), some (.int l3), some (.int l4), some (.int l5)] [] (hC n μ) 0 0) (l1 : Int32) (l2 : Int32) (l3 : Int32) (l5 : Int32) (s0 : Int32) (μ : me_M) (hf : fK_writeRuns_55 N n k15 l1 l2 l3 l5 s0 μ = some r0) : AW "ArcTape$Packer" "writeRuns" c_K_writeRuns 6 none 2 0 0 0 (aw_is none (hC n r0)) 55 [some (.ref 6), some (.int l1), some (.int l2), some (.int l3), none, some (.int l5)] [.int s0] (hC n μ) 0 0 := by
  unfold fK_writeRuns_55 at hf
  refine aw_istore (pc' := 57) (L' := [some (.ref 6), some (.int l1), some (.int l2), some (.int l3), some (.int s0), some (.int l5)]) d_K_writeRuns_55 rfl (by decide) rfl ?_
  refine aw_iinc (pc' := 60) (L' := [some (.ref 6), some (.int l1), some (.int l2), some (.int (l3 + (1 : Int32))), some (.int s0), some (.int l5)]) d_K_writeRuns_57 rfl kc_ic_1 rfl (by decide) rfl ?_
  refine aw_aload_n (pc' := 61) d_K_writeRuns_60 rfl rfl ?_
  refine aw_get (pc' := 64) d_K_writeRuns_61 rfl fl_K_9 hC_6 rfl ?_
  refine aw_iload_n (pc' := 65) d_K_writeRuns_64 rfl rfl ?_
  refine aw_iconst (pc' := 66) d_K_writeRuns_65 rfl kc_ic_0 ?_
  obtain ⟨g9, hf⟩ := aw_gi hf
  refine aw_iast (pc' := 67) (h' := (hC n (me_wi μ 7 (l3 + (1 : Int32)).toNatClampNeg (0 : Int32)))) d_K_writeRuns_66 rfl rfl hC_7 g9 rfl ?_
  exact aw_weak [true, true, true, true, true, true] rfl (wK_writeRuns_67 hk15 _ _ _ _ _ _ hf)
set_option maxRecDepth 20000 in
theorem wK_writeRuns_15b {N : Nat} {n : Nat} {r0 : me_M} {k15 : Int32 → Int32 → Int32 → Int32 → Int32 → me_M → Option me_M} (hk15 : ∀ (l1 : Int32) (l2 : Int32) (l3 : Int32) (l4 : Int32) (l5 : Int32) (μ : me_M), k15 l1 l2 l3 l4 l5 μ = some r0 → AW "ArcTape$Packer" "writeRuns" c_K_writeRuns 6 none 2 0 0 0 (aw_is none (hC n r0)) 15 [some (.ref 6), some (.int l1), some (.int l2), some (.int l3), some (.int l4), some (.int l5)] [] (hC n μ) 0 0) (l1 : Int32) (l2 : Int32) (l3 : Int32) (l4 : Int32) (l5 : Int32) (μ : me_M) (hf : fK_writeRuns_15b N n k15 l1 l2 l3 l4 l5 μ = some r0) : AW "ArcTape$Packer" "writeRuns" c_K_writeRuns 6 none 2 0 0 0 (aw_is none (hC n r0)) 15 [some (.ref 6), some (.int l1), some (.int l2), some (.int l3), some (.int l4), some (.int l5)] [] (hC n μ) 0 0 := by
  unfold fK_writeRuns_15b at hf
  refine aw_iload (pc' := 17) d_K_writeRuns_15 rfl rfl ?_
  refine aw_aload_n (pc' := 18) d_K_writeRuns_17 rfl rfl ?_
  refine aw_get (pc' := 21) d_K_writeRuns_18 rfl fl_K_21 hC_6 rfl ?_
  refine aw_alen (pc' := 22) d_K_writeRuns_21 rfl rfl hC_1 ?_
  refine aw_icmp_ge (tgt := 83) (pc' := 25) d_K_writeRuns_22 (by decide) rfl (fun c10 => ?_) (fun c10 => ?_)
  · replace hf := aw_ifp c10 hf
    exact aw_weak [true, false, false, true, false, false] rfl (wK_writeRuns_83 _ _ hf)
  · replace hf := aw_ifn c10 hf
    refine aw_iload_n (pc' := 26) d_K_writeRuns_25 rfl rfl ?_
    refine aw_iload (pc' := 28) d_K_writeRuns_26 rfl rfl ?_
    obtain ⟨r11, hr11, hf⟩ := aw_bind hf
    refine aw_callNv (pc' := 31) (av := [.int l2, .int l5]) d_K_writeRuns_28 rfl wc_K_94 (mA_holds hr11) (Or.inl rfl) rfl (by decide) (Nat.le_of_ble_eq_true rfl) ⟨(Nat.le_refl 0), (Nat.le_refl 0)⟩ ?_
    refine aw_if_eq (tgt := 77) (pc' := 34) d_K_writeRuns_31 (by decide) rfl (fun c12 => ?_) (fun c12 => ?_)
    · replace hf := aw_ifp c12 hf
      exact aw_weak [true, true, true, true, true, true] rfl (wK_writeRuns_77 hk15 _ _ _ _ _ _ hf)
    · replace hf := aw_ifn c12 hf
      refine aw_iload_n (pc' := 35) d_K_writeRuns_34 rfl rfl ?_
      refine aw_iload (pc' := 37) d_K_writeRuns_35 rfl rfl ?_
      obtain ⟨r13, hr13, hf⟩ := aw_bind hf
      refine aw_callNv (pc' := 40) (av := [.int l1, .int l5]) d_K_writeRuns_37 rfl wc_K_94 (mA_holds hr13) (Or.inl rfl) rfl (by decide) (Nat.le_of_ble_eq_true rfl) ⟨(Nat.le_refl 0), (Nat.le_refl 0)⟩ ?_
      refine aw_iload (pc' := 42) d_K_writeRuns_40 rfl rfl ?_
      refine aw_icmp_eq (tgt := 67) (pc' := 45) d_K_writeRuns_42 (by decide) rfl (fun c14 => ?_) (fun c14 => ?_)
      · replace hf := aw_ifp c14 hf
        exact aw_weak [true, true, true, true, true, true] rfl (wK_writeRuns_67 hk15 _ _ _ _ _ _ hf)
      · replace hf := aw_ifn c14 hf
        refine aw_iload (pc' := 47) d_K_writeRuns_45 rfl rfl ?_
        refine aw_if_ne (tgt := 54) (pc' := 50) d_K_writeRuns_47 (by decide) rfl (fun c15 => ?_) (fun c15 => ?_)
        · replace hf := aw_ifn c15 hf
          refine aw_iconst (pc' := 55) d_K_writeRuns_54 rfl kc_ic_0 ?_
          exact aw_weak [true, true, true, true, false, true] rfl (wK_writeRuns_55 hk15 _ _ _ _ _ _ hf)
        · replace hf := aw_ifp c15 hf
          refine aw_iconst (pc' := 51) d_K_writeRuns_50 rfl kc_ic_1 ?_
          refine aw_goto (tgt := 55) d_K_writeRuns_51 (by decide) ?_
          exact aw_weak [true, true, true, true, false, true] rfl (wK_writeRuns_55 hk15 _ _ _ _ _ _ hf)
set_option maxRecDepth 20000 in
theorem wK_writeRuns_15 {N : Nat} {n : Nat} {r0 : me_M} : ∀ (F : Nat) (l1 : Int32) (l2 : Int32) (l3 : Int32) (l4 : Int32) (l5 : Int32) (μ : me_M) (hf : fK_writeRuns_15 N n F l1 l2 l3 l4 l5 μ = some r0), AW "ArcTape$Packer" "writeRuns" c_K_writeRuns 6 none 2 0 0 0 (aw_is none (hC n r0)) 15 [some (.ref 6), some (.int l1), some (.int l2), some (.int l3), some (.int l4), some (.int l5)] [] (hC n μ) 0 0 := by
  intro F
  induction F with
  | zero => intro l1 l2 l3 l4 l5 μ hf; exact aw_no hf
  | succ F ih => intro l1 l2 l3 l4 l5 μ hf; exact wK_writeRuns_15b ih l1 l2 l3 l4 l5 μ hf
set_option maxRecDepth 20000 in
theorem mK_writeRuns {N : Nat} {n : Nat} {μ : me_M} {r0 : me_M} {l1 : Int32} {l2 : Int32} (hf : fK_writeRuns N n l1 l2 μ = some r0) : AM y_K_writeRuns c_K_writeRuns 6 none 2 0 0 0 [.ref 6, .int l1, .int l2] (hC n μ) (aw_is none (hC n r0)) := by
  unfold fK_writeRuns at hf
  refine AM.of (own := "ArcTape$Packer") (nm := "writeRuns") (L := [some (.ref 6), some (.int l1), some (.int l2), none, none, none]) rfl rfl (by decide) (Nat.le_of_ble_eq_true rfl) rfl ?_
  refine aw_iconst (pc' := 1) d_K_writeRuns_0 rfl kc_ic_0 ?_
  refine aw_istore_n (pc' := 2) (L' := [some (.ref 6), some (.int l1), some (.int l2), some (.int (0 : Int32)), none, none]) d_K_writeRuns_1 rfl (by decide) rfl ?_
  refine aw_iconst (pc' := 3) d_K_writeRuns_2 rfl kc_ic_1 ?_
  refine aw_istore (pc' := 5) (L' := [some (.ref 6), some (.int l1), some (.int l2), some (.int (0 : Int32)), some (.int (1 : Int32)), none]) d_K_writeRuns_3 rfl (by decide) rfl ?_
  refine aw_aload_n (pc' := 6) d_K_writeRuns_5 rfl rfl ?_
  refine aw_get (pc' := 9) d_K_writeRuns_6 rfl fl_K_9 hC_6 rfl ?_
  refine aw_iconst (pc' := 10) d_K_writeRuns_9 rfl kc_ic_0 ?_
  refine aw_iconst (pc' := 11) d_K_writeRuns_10 rfl kc_ic_0 ?_
  obtain ⟨g16, hf⟩ := aw_gi hf
  refine aw_iast (pc' := 12) (h' := (hC n (me_wi μ 7 (0 : Int32).toNatClampNeg (0 : Int32)))) d_K_writeRuns_11 rfl rfl hC_7 g16 rfl ?_
  refine aw_iconst (pc' := 13) d_K_writeRuns_12 rfl kc_ic_0 ?_
  refine aw_istore (pc' := 15) (L' := [some (.ref 6), some (.int l1), some (.int l2), some (.int (0 : Int32)), some (.int (1 : Int32)), some (.int (0 : Int32))]) d_K_writeRuns_13 rfl (by decide) rfl ?_
  exact aw_weak [true, true, true, true, true, true] rfl (wK_writeRuns_15 _ _ _ _ _ _ _ hf)
set_option maxRecDepth 20000 in
theorem wK_rowLength_29 {N : Nat} {n : Nat} {μ : me_M} {r0 : Int32} (l3 : Int32) (hf : fK_rowLength_29 N n μ l3 = some r0) : AW "ArcTape$Packer" "rowLength" c_K_rowLength 4 (some .int) 1 0 0 0 (aw_is (some (.int r0)) (hC n μ)) 29 [none, none, none, some (.int l3)] [] (hC n μ) 0 0 := by
  unfold fK_rowLength_29 at hf
  refine aw_iload_n (pc' := 30) d_K_rowLength_29 rfl rfl ?_
  cases hf
  exact aw_ireturn rfl d_K_rowLength_30 (Nat.le_refl 0) (Nat.le_refl 0) ⟨rfl, rfl⟩
set_option maxRecDepth 20000 in
theorem wK_rowLength_2b {N : Nat} {n : Nat} {μ : me_M} {r0 : Int32} {k2 : Int32 → Int32 → Int32 → Option Int32} (hk2 : ∀ (l1 : Int32) (l2 : Int32) (l3 : Int32), k2 l1 l2 l3 = some r0 → AW "ArcTape$Packer" "rowLength" c_K_rowLength 4 (some .int) 1 0 0 0 (aw_is (some (.int r0)) (hC n μ)) 2 [some (.ref 6), some (.int l1), some (.int l2), some (.int l3)] [] (hC n μ) 0 0) (l1 : Int32) (l2 : Int32) (l3 : Int32) (hf : fK_rowLength_2b N n μ k2 l1 l2 l3 = some r0) : AW "ArcTape$Packer" "rowLength" c_K_rowLength 4 (some .int) 1 0 0 0 (aw_is (some (.int r0)) (hC n μ)) 2 [some (.ref 6), some (.int l1), some (.int l2), some (.int l3)] [] (hC n μ) 0 0 := by
  unfold fK_rowLength_2b at hf
  refine aw_iload_n (pc' := 3) d_K_rowLength_2 rfl rfl ?_
  refine aw_iload_n (pc' := 4) d_K_rowLength_3 rfl rfl ?_
  refine aw_iadd (pc' := 5) d_K_rowLength_4 rfl ?_
  refine aw_aload_n (pc' := 6) d_K_rowLength_5 rfl rfl ?_
  refine aw_get (pc' := 9) d_K_rowLength_6 rfl fl_K_21 hC_6 rfl ?_
  refine aw_alen (pc' := 10) d_K_rowLength_9 rfl rfl hC_1 ?_
  refine aw_icmp_ge (tgt := 29) (pc' := 13) d_K_rowLength_10 (by decide) rfl (fun c1 => ?_) (fun c1 => ?_)
  · replace hf := aw_ifp c1 hf
    exact aw_weak [false, false, false, true] rfl (wK_rowLength_29 _ hf)
  · replace hf := aw_ifn c1 hf
    refine aw_iload_n (pc' := 14) d_K_rowLength_13 rfl rfl ?_
    refine aw_iload_n (pc' := 15) d_K_rowLength_14 rfl rfl ?_
    refine aw_iload_n (pc' := 16) d_K_rowLength_15 rfl rfl ?_
    refine aw_iadd (pc' := 17) d_K_rowLength_16 rfl ?_
    obtain ⟨r2, hr2, hf⟩ := aw_bind hf
    refine aw_callNv (pc' := 20) (av := [.int l1, .int (l2 + l3)]) d_K_rowLength_17 rfl wc_K_94 (mA_holds hr2) (Or.inl rfl) rfl (by decide) (Nat.le_of_ble_eq_true rfl) ⟨(Nat.le_refl 0), (Nat.le_refl 0)⟩ ?_
    refine aw_if_eq (tgt := 29) (pc' := 23) d_K_rowLength_20 (by decide) rfl (fun c3 => ?_) (fun c3 => ?_)
    · replace hf := aw_ifp c3 hf
      exact aw_weak [false, false, false, true] rfl (wK_rowLength_29 _ hf)
    · replace hf := aw_ifn c3 hf
      refine aw_iinc (pc' := 26) (L' := [some (.ref 6), some (.int l1), some (.int l2), some (.int (l3 + (1 : Int32)))]) d_K_rowLength_23 rfl kc_ic_1 rfl (by decide) rfl ?_
      refine aw_goto (tgt := 2) d_K_rowLength_26 (by decide) ?_
      exact aw_weak [true, true, true, true] rfl (hk2 _ _ _ hf)
set_option maxRecDepth 20000 in
theorem wK_rowLength_2 {N : Nat} {n : Nat} {μ : me_M} {r0 : Int32} : ∀ (F : Nat) (l1 : Int32) (l2 : Int32) (l3 : Int32) (hf : fK_rowLength_2 N n μ F l1 l2 l3 = some r0), AW "ArcTape$Packer" "rowLength" c_K_rowLength 4 (some .int) 1 0 0 0 (aw_is (some (.int r0)) (hC n μ)) 2 [some (.ref 6), some (.int l1), some (.int l2), some (.int l3)] [] (hC n μ) 0 0 := by
  intro F
  induction F with
  | zero => intro l1 l2 l3 hf; exact aw_no hf
  | succ F ih => intro l1 l2 l3 hf; exact wK_rowLength_2b ih l1 l2 l3 hf
set_option maxRecDepth 20000 in
theorem mK_rowLength {N : Nat} {n : Nat} {μ : me_M} {r0 : Int32} {l1 : Int32} {l2 : Int32} (hf : fK_rowLength N n μ l1 l2 = some r0) : AM y_K_rowLength c_K_rowLength 4 (some .int) 1 0 0 0 [.ref 6, .int l1, .int l2] (hC n μ) (aw_is (some (.int r0)) (hC n μ)) := by
  unfold fK_rowLength at hf
  refine AM.of (own := "ArcTape$Packer") (nm := "rowLength") (L := [some (.ref 6), some (.int l1), some (.int l2), none]) rfl rfl (by decide) (Nat.le_of_ble_eq_true rfl) rfl ?_
  refine aw_iconst (pc' := 1) d_K_rowLength_0 rfl kc_ic_0 ?_
  refine aw_istore_n (pc' := 2) (L' := [some (.ref 6), some (.int l1), some (.int l2), some (.int (0 : Int32))]) d_K_rowLength_1 rfl (by decide) rfl ?_
  exact aw_weak [true, true, true, true] rfl (wK_rowLength_2 _ _ _ _ hf)
set_option maxRecDepth 20000 in
theorem wK_writeIntervals_197 {N : Nat} {n : Nat} {r0 : (Int32 × me_M)} (l4 : Int32) (μ : me_M) (hf : fK_writeIntervals_197 N n l4 μ = some r0) : AW "ArcTape$Packer" "writeIntervals" c_K_writeIntervals 7 (some .int) 2 0 0 0 (aw_is (some (.int r0.1)) (hC n r0.2)) 197 [none, none, none, none, some (.int l4), none, none] [] (hC n μ) 0 0 := by
  unfold fK_writeIntervals_197 at hf
  refine aw_iload (pc' := 199) d_K_writeIntervals_197 rfl rfl ?_
  cases hf
  exact aw_ireturn rfl d_K_writeIntervals_199 (Nat.le_refl 0) (Nat.le_refl 0) ⟨rfl, rfl⟩
set_option maxRecDepth 20000 in
theorem wK_writeIntervals_147 {N : Nat} {n : Nat} {r0 : (Int32 × me_M)} {k105 : Int32 → Int32 → Int32 → Int32 → Int32 → me_M → Option (Int32 × me_M)} (hk105 : ∀ (l1 : Int32) (l3 : Int32) (l4 : Int32) (l5 : Int32) (l6 : Int32) (μ : me_M), k105 l1 l3 l4 l5 l6 μ = some r0 → AW "ArcTape$Packer" "writeIntervals" c_K_writeIntervals 7 (some .int) 2 0 0 0 (aw_is (some (.int r0.1)) (hC n r0.2)) 105 [some (.ref 6), some (.int l1), none, some (.int l3), some (.int l4), some (.int l5), some (.int l6)] [] (hC n μ) 0 0) (l1 : Int32) (l3 : Int32) (l4 : Int32) (l6 : Int32) (s1 : Int32) (μ : me_M) (hf : fK_writeIntervals_147 N n k105 l1 l3 l4 l6 s1 μ = some r0) : AW "ArcTape$Packer" "writeIntervals" c_K_writeIntervals 7 (some .int) 2 0 0 0 (aw_is (some (.int r0.1)) (hC n r0.2)) 147 [some (.ref 6), some (.int l1), none, some (.int l3), some (.int l4), none, some (.int l6)] [.int s1, .ref 2] (hC n μ) 0 0 := by
  unfold fK_writeIntervals_147 at hf
  obtain ⟨r1, hr1, hf⟩ := aw_bind hf
  refine aw_callVn (pc' := 150) (av := [.int s1]) d_K_writeIntervals_147 rfl wc_K_75 hC_2 (mT_putGamma hr1) (Or.inl rfl) rfl (by decide) (Nat.le_of_ble_eq_true rfl) ⟨(Nat.le_refl 0), (Nat.le_refl 0)⟩ ?_
  refine aw_aload_n (pc' := 151) d_K_writeIntervals_150 rfl rfl ?_
  refine aw_get (pc' := 154) d_K_writeIntervals_151 rfl fl_K_28 hC_6 rfl ?_
  refine aw_aload_n (pc' := 155) d_K_writeIntervals_154 rfl rfl ?_
  refine aw_get (pc' := 158) d_K_writeIntervals_155 rfl fl_K_18 hC_6 rfl ?_
  refine aw_iload (pc' := 160) d_K_writeIntervals_158 rfl rfl ?_
  obtain ⟨g2, hf⟩ := aw_gi hf
  refine aw_iald (pc' := 161) d_K_writeIntervals_160 rfl rfl hC_9 g2 ?_
  refine aw_aload_n (pc' := 162) d_K_writeIntervals_161 rfl rfl ?_
  refine aw_get (pc' := 165) d_K_writeIntervals_162 rfl fl_K_24 hC_6 rfl ?_
  refine aw_get (pc' := 168) d_K_writeIntervals_165 rfl fl_K_85 hC_4 rfl ?_
  refine aw_isub (pc' := 169) d_K_writeIntervals_168 rfl ?_
  obtain ⟨r3, hr3, hf⟩ := aw_bind hf
  refine aw_callVn (pc' := 172) (av := [.int ((r1.1 9 l6.toNatClampNeg) - (r1.1 502 0))]) d_K_writeIntervals_169 rfl wc_K_75 hC_2 (mT_putGamma hr3) (Or.inl rfl) rfl (by decide) (Nat.le_of_ble_eq_true rfl) ⟨(Nat.le_refl 0), (Nat.le_refl 0)⟩ ?_
  refine aw_aload_n (pc' := 173) d_K_writeIntervals_172 rfl rfl ?_
  refine aw_get (pc' := 176) d_K_writeIntervals_173 rfl fl_K_15 hC_6 rfl ?_
  refine aw_iload (pc' := 178) d_K_writeIntervals_176 rfl rfl ?_
  obtain ⟨g4, hf⟩ := aw_gi hf
  refine aw_iald (pc' := 179) d_K_writeIntervals_178 rfl rfl hC_8 g4 ?_
  refine aw_aload_n (pc' := 180) d_K_writeIntervals_179 rfl rfl ?_
  refine aw_get (pc' := 183) d_K_writeIntervals_180 rfl fl_K_18 hC_6 rfl ?_
  refine aw_iload (pc' := 185) d_K_writeIntervals_183 rfl rfl ?_
  obtain ⟨g5, hf⟩ := aw_gi hf
  refine aw_iald (pc' := 186) d_K_writeIntervals_185 rfl rfl hC_9 g5 ?_
  refine aw_iadd (pc' := 187) d_K_writeIntervals_186 rfl ?_
  refine aw_iconst (pc' := 188) d_K_writeIntervals_187 rfl kc_ic_1 ?_
  refine aw_isub (pc' := 189) d_K_writeIntervals_188 rfl ?_
  refine aw_istore (pc' := 191) (L' := [some (.ref 6), some (.int l1), none, some (.int l3), some (.int l4), some (.int (((r3.1 8 l6.toNatClampNeg) + (r3.1 9 l6.toNatClampNeg)) - (1 : Int32))), some (.int l6)]) d_K_writeIntervals_189 rfl (by decide) rfl ?_
  refine aw_iinc (pc' := 194) (L' := [some (.ref 6), some (.int l1), none, some (.int l3), some (.int l4), some (.int (((r3.1 8 l6.toNatClampNeg) + (r3.1 9 l6.toNatClampNeg)) - (1 : Int32))), some (.int (l6 + (1 : Int32)))]) d_K_writeIntervals_191 rfl kc_ic_1 rfl (by decide) rfl ?_
  refine aw_goto (tgt := 105) d_K_writeIntervals_194 (by decide) ?_
  exact aw_weak [true, true, false, true, true, true, true] rfl (hk105 _ _ _ _ _ _ hf)
set_option maxRecDepth 20000 in
theorem wK_writeIntervals_105b {N : Nat} {n : Nat} {r0 : (Int32 × me_M)} {k105 : Int32 → Int32 → Int32 → Int32 → Int32 → me_M → Option (Int32 × me_M)} (hk105 : ∀ (l1 : Int32) (l3 : Int32) (l4 : Int32) (l5 : Int32) (l6 : Int32) (μ : me_M), k105 l1 l3 l4 l5 l6 μ = some r0 → AW "ArcTape$Packer" "writeIntervals" c_K_writeIntervals 7 (some .int) 2 0 0 0 (aw_is (some (.int r0.1)) (hC n r0.2)) 105 [some (.ref 6), some (.int l1), none, some (.int l3), some (.int l4), some (.int l5), some (.int l6)] [] (hC n μ) 0 0) (l1 : Int32) (l3 : Int32) (l4 : Int32) (l5 : Int32) (l6 : Int32) (μ : me_M) (hf : fK_writeIntervals_105b N n k105 l1 l3 l4 l5 l6 μ = some r0) : AW "ArcTape$Packer" "writeIntervals" c_K_writeIntervals 7 (some .int) 2 0 0 0 (aw_is (some (.int r0.1)) (hC n r0.2)) 105 [some (.ref 6), some (.int l1), none, some (.int l3), some (.int l4), some (.int l5), some (.int l6)] [] (hC n μ) 0 0 := by
  unfold fK_writeIntervals_105b at hf
  refine aw_iload (pc' := 107) d_K_writeIntervals_105 rfl rfl ?_
  refine aw_iload_n (pc' := 108) d_K_writeIntervals_107 rfl rfl ?_
  refine aw_icmp_ge (tgt := 197) (pc' := 111) d_K_writeIntervals_108 (by decide) rfl (fun c6 => ?_) (fun c6 => ?_)
  · replace hf := aw_ifp c6 hf
    exact aw_weak [false, false, false, false, true, false, false] rfl (wK_writeIntervals_197 _ _ hf)
  · replace hf := aw_ifn c6 hf
    refine aw_aload_n (pc' := 112) d_K_writeIntervals_111 rfl rfl ?_
    refine aw_get (pc' := 115) d_K_writeIntervals_112 rfl fl_K_28 hC_6 rfl ?_
    refine aw_iload (pc' := 117) d_K_writeIntervals_115 rfl rfl ?_
    refine aw_if_ne (tgt := 135) (pc' := 120) d_K_writeIntervals_117 (by decide) rfl (fun c7 => ?_) (fun c7 => ?_)
    · replace hf := aw_ifn c7 hf
      refine aw_aload_n (pc' := 136) d_K_writeIntervals_135 rfl rfl ?_
      refine aw_get (pc' := 139) d_K_writeIntervals_136 rfl fl_K_15 hC_6 rfl ?_
      refine aw_iload (pc' := 141) d_K_writeIntervals_139 rfl rfl ?_
      obtain ⟨g8, hf⟩ := aw_gi hf
      refine aw_iald (pc' := 142) d_K_writeIntervals_141 rfl rfl hC_8 g8 ?_
      refine aw_iload (pc' := 144) d_K_writeIntervals_142 rfl rfl ?_
      refine aw_isub (pc' := 145) d_K_writeIntervals_144 rfl ?_
      refine aw_iconst (pc' := 146) d_K_writeIntervals_145 rfl kc_ic_2 ?_
      refine aw_isub (pc' := 147) d_K_writeIntervals_146 rfl ?_
      exact aw_weak [true, true, false, true, true, false, true] rfl (wK_writeIntervals_147 hk105 _ _ _ _ _ _ hf)
    · replace hf := aw_ifp c7 hf
      refine aw_aload_n (pc' := 121) d_K_writeIntervals_120 rfl rfl ?_
      refine aw_get (pc' := 124) d_K_writeIntervals_121 rfl fl_K_15 hC_6 rfl ?_
      refine aw_iload (pc' := 126) d_K_writeIntervals_124 rfl rfl ?_
      obtain ⟨g9, hf⟩ := aw_gi hf
      refine aw_iald (pc' := 127) d_K_writeIntervals_126 rfl rfl hC_8 g9 ?_
      refine aw_iload_n (pc' := 128) d_K_writeIntervals_127 rfl rfl ?_
      refine aw_isub (pc' := 129) d_K_writeIntervals_128 rfl ?_
      obtain ⟨r10, hr10, hf⟩ := aw_bind hf
      refine aw_callSv (pc' := 132) (av := [.int ((μ.1 8 l6.toNatClampNeg) - l1)]) d_K_writeIntervals_129 rfl wc_K_101 (mT_withoutSign hr10) (Or.inl rfl) rfl (by decide) (Nat.le_of_ble_eq_true rfl) ⟨(Nat.le_refl 0), (Nat.le_refl 0)⟩ ?_
      refine aw_goto (tgt := 147) d_K_writeIntervals_132 (by decide) ?_
      exact aw_weak [true, true, false, true, true, false, true] rfl (wK_writeIntervals_147 hk105 _ _ _ _ _ _ hf)
set_option maxRecDepth 20000 in
theorem wK_writeIntervals_105 {N : Nat} {n : Nat} {r0 : (Int32 × me_M)} : ∀ (F : Nat) (l1 : Int32) (l3 : Int32) (l4 : Int32) (l5 : Int32) (l6 : Int32) (μ : me_M) (hf : fK_writeIntervals_105 N n F l1 l3 l4 l5 l6 μ = some r0), AW "ArcTape$Packer" "writeIntervals" c_K_writeIntervals 7 (some .int) 2 0 0 0 (aw_is (some (.int r0.1)) (hC n r0.2)) 105 [some (.ref 6), some (.int l1), none, some (.int l3), some (.int l4), some (.int l5), some (.int l6)] [] (hC n μ) 0 0 := by
  intro F
  induction F with
  | zero => intro l1 l3 l4 l5 l6 μ hf; exact aw_no hf
  | succ F ih => intro l1 l3 l4 l5 l6 μ hf; exact wK_writeIntervals_105b ih l1 l3 l4 l5 l6 μ hf
set_option maxRecDepth 20000 in
theorem wK_writeIntervals_91 {N : Nat} {n : Nat} {r0 : (Int32 × me_M)} (l1 : Int32) (l3 : Int32) (l4 : Int32) (μ : me_M) (hf : fK_writeIntervals_91 N n l1 l3 l4 μ = some r0) : AW "ArcTape$Packer" "writeIntervals" c_K_writeIntervals 7 (some .int) 2 0 0 0 (aw_is (some (.int r0.1)) (hC n r0.2)) 91 [some (.ref 6), some (.int l1), none, some (.int l3), some (.int l4), none, none] [] (hC n μ) 0 0 := by
  unfold fK_writeIntervals_91 at hf
  refine aw_aload_n (pc' := 92) d_K_writeIntervals_91 rfl rfl ?_
  refine aw_get (pc' := 95) d_K_writeIntervals_92 rfl fl_K_28 hC_6 rfl ?_
  refine aw_iload_n (pc' := 96) d_K_writeIntervals_95 rfl rfl ?_
  obtain ⟨r11, hr11, hf⟩ := aw_bind hf
  refine aw_callVn (pc' := 99) (av := [.int l3]) d_K_writeIntervals_96 rfl wc_K_75 hC_2 (mT_putGamma hr11) (Or.inl rfl) rfl (by decide) (Nat.le_of_ble_eq_true rfl) ⟨(Nat.le_refl 0), (Nat.le_refl 0)⟩ ?_
  refine aw_iconst (pc' := 100) d_K_writeIntervals_99 rfl kc_ic_0 ?_
  refine aw_istore (pc' := 102) (L' := [some (.ref 6), some (.int l1), none, some (.int l3), some (.int l4), some (.int (0 : Int32)), none]) d_K_writeIntervals_100 rfl (by decide) rfl ?_
  refine aw_iconst (pc' := 103) d_K_writeIntervals_102 rfl kc_ic_0 ?_
  refine aw_istore (pc' := 105) (L' := [some (.ref 6), some (.int l1), none, some (.int l3), some (.int l4), some (.int (0 : Int32)), some (.int (0 : Int32))]) d_K_writeIntervals_103 rfl (by decide) rfl ?_
  exact aw_weak [true, true, false, true, true, true, true] rfl (wK_writeIntervals_105 _ _ _ _ _ _ _ hf)
set_option maxRecDepth 20000 in
theorem wK_writeIntervals_74 {N : Nat} {n : Nat} {r0 : (Int32 × me_M)} {k8 : Int32 → Int32 → Int32 → Int32 → Int32 → me_M → Option (Int32 × me_M)} (hk8 : ∀ (l1 : Int32) (l2 : Int32) (l3 : Int32) (l4 : Int32) (l5 : Int32) (μ : me_M), k8 l1 l2 l3 l4 l5 μ = some r0 → AW "ArcTape$Packer" "writeIntervals" c_K_writeIntervals 7 (some .int) 2 0 0 0 (aw_is (some (.int r0.1)) (hC n r0.2)) 8 [some (.ref 6), some (.int l1), some (.int l2), some (.int l3), some (.int l4), some (.int l5), none] [] (hC n μ) 0 0) (l1 : Int32) (l2 : Int32) (l3 : Int32) (l4 : Int32) (l5 : Int32) (μ : me_M) (hf : fK_writeIntervals_74 N n k8 l1 l2 l3 l4 l5 μ = some r0) : AW "ArcTape$Packer" "writeIntervals" c_K_writeIntervals 7 (some .int) 2 0 0 0 (aw_is (some (.int r0.1)) (hC n r0.2)) 74 [some (.ref 6), some (.int l1), some (.int l2), some (.int l3), some (.int l4), some (.int l5), none] [] (hC n μ) 0 0 := by
  unfold fK_writeIntervals_74 at hf
  refine aw_iload (pc' := 76) d_K_writeIntervals_74 rfl rfl ?_
  refine aw_aload_n (pc' := 77) d_K_writeIntervals_76 rfl rfl ?_
  refine aw_iload_n (pc' := 78) d_K_writeIntervals_77 rfl rfl ?_
  refine aw_iload (pc' := 80) d_K_writeIntervals_78 rfl rfl ?_
  obtain ⟨r12, hr12, hf⟩ := aw_bind hf
  refine aw_callVv (pc' := 83) (av := [.int l2, .int l5]) d_K_writeIntervals_80 rfl wc_K_98 hC_6 (mK_rowLength hr12) (Or.inl rfl) rfl (by decide) (Nat.le_of_ble_eq_true rfl) ⟨(Nat.le_refl 0), (Nat.le_refl 0)⟩ ?_
  refine aw_iconst (pc' := 84) d_K_writeIntervals_83 rfl kc_ic_1 ?_
  refine aw_iadd (pc' := 85) d_K_writeIntervals_84 rfl ?_
  refine aw_iadd (pc' := 86) d_K_writeIntervals_85 rfl ?_
  refine aw_istore (pc' := 88) (L' := [some (.ref 6), some (.int l1), some (.int l2), some (.int l3), some (.int l4), some (.int (l5 + (r12 + (1 : Int32)))), none]) d_K_writeIntervals_86 rfl (by decide) rfl ?_
  refine aw_goto (tgt := 8) d_K_writeIntervals_88 (by decide) ?_
  exact aw_weak [true, true, true, true, true, true, false] rfl (hk8 _ _ _ _ _ _ hf)
set_option maxRecDepth 20000 in
theorem wK_writeIntervals_8b {N : Nat} {n : Nat} {r0 : (Int32 × me_M)} {k8 : Int32 → Int32 → Int32 → Int32 → Int32 → me_M → Option (Int32 × me_M)} (hk8 : ∀ (l1 : Int32) (l2 : Int32) (l3 : Int32) (l4 : Int32) (l5 : Int32) (μ : me_M), k8 l1 l2 l3 l4 l5 μ = some r0 → AW "ArcTape$Packer" "writeIntervals" c_K_writeIntervals 7 (some .int) 2 0 0 0 (aw_is (some (.int r0.1)) (hC n r0.2)) 8 [some (.ref 6), some (.int l1), some (.int l2), some (.int l3), some (.int l4), some (.int l5), none] [] (hC n μ) 0 0) (l1 : Int32) (l2 : Int32) (l3 : Int32) (l4 : Int32) (l5 : Int32) (μ : me_M) (hf : fK_writeIntervals_8b N n k8 l1 l2 l3 l4 l5 μ = some r0) : AW "ArcTape$Packer" "writeIntervals" c_K_writeIntervals 7 (some .int) 2 0 0 0 (aw_is (some (.int r0.1)) (hC n r0.2)) 8 [some (.ref 6), some (.int l1), some (.int l2), some (.int l3), some (.int l4), some (.int l5), none] [] (hC n μ) 0 0 := by
  unfold fK_writeIntervals_8b at hf
  refine aw_iload (pc' := 10) d_K_writeIntervals_8 rfl rfl ?_
  refine aw_aload_n (pc' := 11) d_K_writeIntervals_10 rfl rfl ?_
  refine aw_get (pc' := 14) d_K_writeIntervals_11 rfl fl_K_21 hC_6 rfl ?_
  refine aw_alen (pc' := 15) d_K_writeIntervals_14 rfl rfl hC_1 ?_
  refine aw_icmp_ge (tgt := 91) (pc' := 18) d_K_writeIntervals_15 (by decide) rfl (fun c13 => ?_) (fun c13 => ?_)
  · replace hf := aw_ifp c13 hf
    exact aw_weak [true, true, false, true, true, false, false] rfl (wK_writeIntervals_91 _ _ _ _ hf)
  · replace hf := aw_ifn c13 hf
    refine aw_aload_n (pc' := 19) d_K_writeIntervals_18 rfl rfl ?_
    refine aw_iload_n (pc' := 20) d_K_writeIntervals_19 rfl rfl ?_
    refine aw_iload (pc' := 22) d_K_writeIntervals_20 rfl rfl ?_
    obtain ⟨r14, hr14, hf⟩ := aw_bind hf
    refine aw_callVv (pc' := 25) (av := [.int l2, .int l5]) d_K_writeIntervals_22 rfl wc_K_98 hC_6 (mK_rowLength hr14) (Or.inl rfl) rfl (by decide) (Nat.le_of_ble_eq_true rfl) ⟨(Nat.le_refl 0), (Nat.le_refl 0)⟩ ?_
    refine aw_istore (pc' := 27) (L' := [some (.ref 6), some (.int l1), some (.int l2), some (.int l3), some (.int l4), some (.int l5), some (.int r14)]) d_K_writeIntervals_25 rfl (by decide) rfl ?_
    refine aw_iload (pc' := 29) d_K_writeIntervals_27 rfl rfl ?_
    refine aw_aload_n (pc' := 30) d_K_writeIntervals_29 rfl rfl ?_
    refine aw_get (pc' := 33) d_K_writeIntervals_30 rfl fl_K_24 hC_6 rfl ?_
    refine aw_get (pc' := 36) d_K_writeIntervals_33 rfl fl_K_85 hC_4 rfl ?_
    refine aw_icmp_lt (tgt := 74) (pc' := 39) d_K_writeIntervals_36 (by decide) rfl (fun c15 => ?_) (fun c15 => ?_)
    · replace hf := aw_ifp c15 hf
      exact aw_weak [true, true, true, true, true, true, false] rfl (wK_writeIntervals_74 hk8 _ _ _ _ _ _ hf)
    · replace hf := aw_ifn c15 hf
      refine aw_aload_n (pc' := 40) d_K_writeIntervals_39 rfl rfl ?_
      refine aw_get (pc' := 43) d_K_writeIntervals_40 rfl fl_K_15 hC_6 rfl ?_
      refine aw_iload_n (pc' := 44) d_K_writeIntervals_43 rfl rfl ?_
      refine aw_iload (pc' := 46) d_K_writeIntervals_44 rfl rfl ?_
      obtain ⟨g16, hf⟩ := aw_gi hf
      refine aw_iast (pc' := 47) (h' := (hC n (me_wi μ 8 l3.toNatClampNeg l5))) d_K_writeIntervals_46 rfl rfl hC_8 g16 rfl ?_
      refine aw_aload_n (pc' := 48) d_K_writeIntervals_47 rfl rfl ?_
      refine aw_get (pc' := 51) d_K_writeIntervals_48 rfl fl_K_18 hC_6 rfl ?_
      refine aw_iload_n (pc' := 52) d_K_writeIntervals_51 rfl rfl ?_
      refine aw_iload (pc' := 54) d_K_writeIntervals_52 rfl rfl ?_
      obtain ⟨g17, hf⟩ := aw_gi hf
      refine aw_iast (pc' := 55) (h' := (hC n (me_wi (me_wi μ 8 l3.toNatClampNeg l5) 9 l3.toNatClampNeg r14))) d_K_writeIntervals_54 rfl rfl hC_9 g17 rfl ?_
      refine aw_iinc (pc' := 58) (L' := [some (.ref 6), some (.int l1), some (.int l2), some (.int (l3 + (1 : Int32))), some (.int l4), some (.int l5), some (.int r14)]) d_K_writeIntervals_55 rfl kc_ic_1 rfl (by decide) rfl ?_
      refine aw_iload (pc' := 60) d_K_writeIntervals_58 rfl rfl ?_
      refine aw_iconst (pc' := 61) d_K_writeIntervals_60 rfl kc_ic_1 ?_
      refine aw_iload (pc' := 63) d_K_writeIntervals_61 rfl rfl ?_
      refine aw_ishl (pc' := 64) d_K_writeIntervals_63 rfl ?_
      refine aw_iconst (pc' := 65) d_K_writeIntervals_64 rfl kc_ic_1 ?_
      refine aw_isub (pc' := 66) d_K_writeIntervals_65 rfl ?_
      refine aw_iload (pc' := 68) d_K_writeIntervals_66 rfl rfl ?_
      refine aw_ishl (pc' := 69) d_K_writeIntervals_68 rfl ?_
      refine aw_iconst (pc' := 70) d_K_writeIntervals_69 rfl kc_ic_m1 ?_
      refine aw_ixor (pc' := 71) d_K_writeIntervals_70 rfl ?_
      refine aw_iand (pc' := 72) d_K_writeIntervals_71 rfl ?_
      refine aw_istore (pc' := 74) (L' := [some (.ref 6), some (.int l1), some (.int l2), some (.int (l3 + (1 : Int32))), some (.int (l4 &&& (((((1 : Int32) <<< (r14 &&& 31)) - (1 : Int32)) <<< (l5 &&& 31)) ^^^ (-1 : Int32)))), some (.int l5), some (.int r14)]) d_K_writeIntervals_72 rfl (by decide) rfl ?_
      exact aw_weak [true, true, true, true, true, true, false] rfl (wK_writeIntervals_74 hk8 _ _ _ _ _ _ hf)
set_option maxRecDepth 20000 in
theorem wK_writeIntervals_8 {N : Nat} {n : Nat} {r0 : (Int32 × me_M)} : ∀ (F : Nat) (l1 : Int32) (l2 : Int32) (l3 : Int32) (l4 : Int32) (l5 : Int32) (μ : me_M) (hf : fK_writeIntervals_8 N n F l1 l2 l3 l4 l5 μ = some r0), AW "ArcTape$Packer" "writeIntervals" c_K_writeIntervals 7 (some .int) 2 0 0 0 (aw_is (some (.int r0.1)) (hC n r0.2)) 8 [some (.ref 6), some (.int l1), some (.int l2), some (.int l3), some (.int l4), some (.int l5), none] [] (hC n μ) 0 0 := by
  intro F
  induction F with
  | zero => intro l1 l2 l3 l4 l5 μ hf; exact aw_no hf
  | succ F ih => intro l1 l2 l3 l4 l5 μ hf; exact wK_writeIntervals_8b ih l1 l2 l3 l4 l5 μ hf
set_option maxRecDepth 20000 in
theorem mK_writeIntervals {N : Nat} {n : Nat} {μ : me_M} {r0 : (Int32 × me_M)} {l1 : Int32} {l2 : Int32} (hf : fK_writeIntervals N n l1 l2 μ = some r0) : AM y_K_writeIntervals c_K_writeIntervals 7 (some .int) 2 0 0 0 [.ref 6, .int l1, .int l2] (hC n μ) (aw_is (some (.int r0.1)) (hC n r0.2)) := by
  unfold fK_writeIntervals at hf
  refine AM.of (own := "ArcTape$Packer") (nm := "writeIntervals") (L := [some (.ref 6), some (.int l1), some (.int l2), none, none, none, none]) rfl rfl (by decide) (Nat.le_of_ble_eq_true rfl) rfl ?_
  refine aw_iconst (pc' := 1) d_K_writeIntervals_0 rfl kc_ic_0 ?_
  refine aw_istore_n (pc' := 2) (L' := [some (.ref 6), some (.int l1), some (.int l2), some (.int (0 : Int32)), none, none, none]) d_K_writeIntervals_1 rfl (by decide) rfl ?_
  refine aw_iload_n (pc' := 3) d_K_writeIntervals_2 rfl rfl ?_
  refine aw_istore (pc' := 5) (L' := [some (.ref 6), some (.int l1), some (.int l2), some (.int (0 : Int32)), some (.int l2), none, none]) d_K_writeIntervals_3 rfl (by decide) rfl ?_
  refine aw_iconst (pc' := 6) d_K_writeIntervals_5 rfl kc_ic_0 ?_
  refine aw_istore (pc' := 8) (L' := [some (.ref 6), some (.int l1), some (.int l2), some (.int (0 : Int32)), some (.int l2), some (.int (0 : Int32)), none]) d_K_writeIntervals_6 rfl (by decide) rfl ?_
  exact aw_weak [true, true, true, true, true, true, false] rfl (wK_writeIntervals_8 _ _ _ _ _ _ _ hf)
set_option maxRecDepth 20000 in
theorem wK_writeSingles_67 {N : Nat} {n : Nat} {r0 : me_M} (μ : me_M) (hf : fK_writeSingles_67 N n μ = some r0) : AW "ArcTape$Packer" "writeSingles" c_K_writeSingles 5 none 2 0 0 0 (aw_is none (hC n r0)) 67 [none, none, none, none, none] [] (hC n μ) 0 0 := by
  unfold fK_writeSingles_67 at hf
  cases hf
  exact aw_return rfl d_K_writeSingles_67 (Nat.le_refl 0) (Nat.le_refl 0) ⟨rfl, rfl⟩
set_option maxRecDepth 20000 in
theorem wK_writeSingles_61 {N : Nat} {n : Nat} {r0 : me_M} {k5 : Int32 → Int32 → Int32 → Int32 → me_M → Option me_M} (hk5 : ∀ (l1 : Int32) (l2 : Int32) (l3 : Int32) (l4 : Int32) (μ : me_M), k5 l1 l2 l3 l4 μ = some r0 → AW "ArcTape$Packer" "writeSingles" c_K_writeSingles 5 none 2 0 0 0 (aw_is none (hC n r0)) 5 [some (.ref 6), some (.int l1), some (.int l2), some (.int l3), some (.int l4)] [] (hC n μ) 0 0) (l1 : Int32) (l2 : Int32) (l3 : Int32) (l4 : Int32) (μ : me_M) (hf : fK_writeSingles_61 N n k5 l1 l2 l3 l4 μ = some r0) : AW "ArcTape$Packer" "writeSingles" c_K_writeSingles 5 none 2 0 0 0 (aw_is none (hC n r0)) 61 [some (.ref 6), some (.int l1), some (.int l2), some (.int l3), some (.int l4)] [] (hC n μ) 0 0 := by
  unfold fK_writeSingles_61 at hf
  refine aw_iinc (pc' := 64) (L' := [some (.ref 6), some (.int l1), some (.int l2), some (.int l3), some (.int (l4 + (1 : Int32)))]) d_K_writeSingles_61 rfl kc_ic_1 rfl (by decide) rfl ?_
  refine aw_goto (tgt := 5) d_K_writeSingles_64 (by decide) ?_
  exact aw_weak [true, true, true, true, true] rfl (hk5 _ _ _ _ _ hf)
set_option maxRecDepth 20000 in
theorem wK_writeSingles_48 {N : Nat} {n : Nat} {r0 : me_M} {k5 : Int32 → Int32 → Int32 → Int32 → me_M → Option me_M} (hk5 : ∀ (l1 : Int32) (l2 : Int32) (l3 : Int32) (l4 : Int32) (μ : me_M), k5 l1 l2 l3 l4 μ = some r0 → AW "ArcTape$Packer" "writeSingles" c_K_writeSingles 5 none 2 0 0 0 (aw_is none (hC n r0)) 5 [some (.ref 6), some (.int l1), some (.int l2), some (.int l3), some (.int l4)] [] (hC n μ) 0 0) (l1 : Int32) (l2 : Int32) (l4 : Int32) (s1 : Int32) (μ : me_M) (hf : fK_writeSingles_48 N n k5 l1 l2 l4 s1 μ = some r0) : AW "ArcTape$Packer" "writeSingles" c_K_writeSingles 5 none 2 0 0 0 (aw_is none (hC n r0)) 48 [some (.ref 6), some (.int l1), some (.int l2), none, some (.int l4)] [.int s1, .ref 2] (hC n μ) 0 0 := by
  unfold fK_writeSingles_48 at hf
  refine aw_aload_n (pc' := 49) d_K_writeSingles_48 rfl rfl ?_
  refine aw_get (pc' := 52) d_K_writeSingles_49 rfl fl_K_24 hC_6 rfl ?_
  refine aw_get (pc' := 55) d_K_writeSingles_52 rfl fl_K_104 hC_4 rfl ?_
  obtain ⟨r1, hr1, hf⟩ := aw_bind hf
  refine aw_callVn (pc' := 58) (av := [.int s1, .int (μ.1 503 0)]) d_K_writeSingles_55 rfl wc_K_107 hC_2 (mT_putZeta hr1) (Or.inl rfl) rfl (by decide) (Nat.le_of_ble_eq_true rfl) ⟨(Nat.le_refl 0), (Nat.le_refl 0)⟩ ?_
  refine aw_iload (pc' := 60) d_K_writeSingles_58 rfl rfl ?_
  refine aw_istore_n (pc' := 61) (L' := [some (.ref 6), some (.int l1), some (.int l2), some (.int l4), some (.int l4)]) d_K_writeSingles_60 rfl (by decide) rfl ?_
  exact aw_weak [true, true, true, true, true] rfl (wK_writeSingles_61 hk5 _ _ _ _ _ hf)
set_option maxRecDepth 20000 in
theorem wK_writeSingles_5b {N : Nat} {n : Nat} {r0 : me_M} {k5 : Int32 → Int32 → Int32 → Int32 → me_M → Option me_M} (hk5 : ∀ (l1 : Int32) (l2 : Int32) (l3 : Int32) (l4 : Int32) (μ : me_M), k5 l1 l2 l3 l4 μ = some r0 → AW "ArcTape$Packer" "writeSingles" c_K_writeSingles 5 none 2 0 0 0 (aw_is none (hC n r0)) 5 [some (.ref 6), some (.int l1), some (.int l2), some (.int l3), some (.int l4)] [] (hC n μ) 0 0) (l1 : Int32) (l2 : Int32) (l3 : Int32) (l4 : Int32) (μ : me_M) (hf : fK_writeSingles_5b N n k5 l1 l2 l3 l4 μ = some r0) : AW "ArcTape$Packer" "writeSingles" c_K_writeSingles 5 none 2 0 0 0 (aw_is none (hC n r0)) 5 [some (.ref 6), some (.int l1), some (.int l2), some (.int l3), some (.int l4)] [] (hC n μ) 0 0 := by
  unfold fK_writeSingles_5b at hf
  refine aw_iload (pc' := 7) d_K_writeSingles_5 rfl rfl ?_
  refine aw_aload_n (pc' := 8) d_K_writeSingles_7 rfl rfl ?_
  refine aw_get (pc' := 11) d_K_writeSingles_8 rfl fl_K_21 hC_6 rfl ?_
  refine aw_alen (pc' := 12) d_K_writeSingles_11 rfl rfl hC_1 ?_
  refine aw_icmp_ge (tgt := 67) (pc' := 15) d_K_writeSingles_12 (by decide) rfl (fun c2 => ?_) (fun c2 => ?_)
  · replace hf := aw_ifp c2 hf
    exact aw_weak [false, false, false, false, false] rfl (wK_writeSingles_67 _ hf)
  · replace hf := aw_ifn c2 hf
    refine aw_iload_n (pc' := 16) d_K_writeSingles_15 rfl rfl ?_
    refine aw_iload (pc' := 18) d_K_writeSingles_16 rfl rfl ?_
    obtain ⟨r3, hr3, hf⟩ := aw_bind hf
    refine aw_callNv (pc' := 21) (av := [.int l2, .int l4]) d_K_writeSingles_18 rfl wc_K_94 (mA_holds hr3) (Or.inl rfl) rfl (by decide) (Nat.le_of_ble_eq_true rfl) ⟨(Nat.le_refl 0), (Nat.le_refl 0)⟩ ?_
    refine aw_if_eq (tgt := 61) (pc' := 24) d_K_writeSingles_21 (by decide) rfl (fun c4 => ?_) (fun c4 => ?_)
    · replace hf := aw_ifp c4 hf
      exact aw_weak [true, true, true, true, true] rfl (wK_writeSingles_61 hk5 _ _ _ _ _ hf)
    · replace hf := aw_ifn c4 hf
      refine aw_aload_n (pc' := 25) d_K_writeSingles_24 rfl rfl ?_
      refine aw_get (pc' := 28) d_K_writeSingles_25 rfl fl_K_28 hC_6 rfl ?_
      refine aw_iload_n (pc' := 29) d_K_writeSingles_28 rfl rfl ?_
      refine aw_if_ge (tgt := 42) (pc' := 32) d_K_writeSingles_29 (by decide) rfl (fun c5 => ?_) (fun c5 => ?_)
      · replace hf := aw_ifp c5 hf
        refine aw_iload (pc' := 44) d_K_writeSingles_42 rfl rfl ?_
        refine aw_iload_n (pc' := 45) d_K_writeSingles_44 rfl rfl ?_
        refine aw_isub (pc' := 46) d_K_writeSingles_45 rfl ?_
        refine aw_iconst (pc' := 47) d_K_writeSingles_46 rfl kc_ic_1 ?_
        refine aw_isub (pc' := 48) d_K_writeSingles_47 rfl ?_
        exact aw_weak [true, true, true, false, true] rfl (wK_writeSingles_48 hk5 _ _ _ _ _ hf)
      · replace hf := aw_ifn c5 hf
        refine aw_iload (pc' := 34) d_K_writeSingles_32 rfl rfl ?_
        refine aw_iload_n (pc' := 35) d_K_writeSingles_34 rfl rfl ?_
        refine aw_isub (pc' := 36) d_K_writeSingles_35 rfl ?_
        obtain ⟨r6, hr6, hf⟩ := aw_bind hf
        refine aw_callSv (pc' := 39) (av := [.int (l4 - l1)]) d_K_writeSingles_36 rfl wc_K_101 (mT_withoutSign hr6) (Or.inl rfl) rfl (by decide) (Nat.le_of_ble_eq_true rfl) ⟨(Nat.le_refl 0), (Nat.le_refl 0)⟩ ?_
        refine aw_goto (tgt := 48) d_K_writeSingles_39 (by decide) ?_
        exact aw_weak [true, true, true, false, true] rfl (wK_writeSingles_48 hk5 _ _ _ _ _ hf)
set_option maxRecDepth 20000 in
theorem wK_writeSingles_5 {N : Nat} {n : Nat} {r0 : me_M} : ∀ (F : Nat) (l1 : Int32) (l2 : Int32) (l3 : Int32) (l4 : Int32) (μ : me_M) (hf : fK_writeSingles_5 N n F l1 l2 l3 l4 μ = some r0), AW "ArcTape$Packer" "writeSingles" c_K_writeSingles 5 none 2 0 0 0 (aw_is none (hC n r0)) 5 [some (.ref 6), some (.int l1), some (.int l2), some (.int l3), some (.int l4)] [] (hC n μ) 0 0 := by
  intro F
  induction F with
  | zero => intro l1 l2 l3 l4 μ hf; exact aw_no hf
  | succ F ih => intro l1 l2 l3 l4 μ hf; exact wK_writeSingles_5b ih l1 l2 l3 l4 μ hf
set_option maxRecDepth 20000 in
theorem mK_writeSingles {N : Nat} {n : Nat} {μ : me_M} {r0 : me_M} {l1 : Int32} {l2 : Int32} (hf : fK_writeSingles N n l1 l2 μ = some r0) : AM y_K_writeSingles c_K_writeSingles 5 none 2 0 0 0 [.ref 6, .int l1, .int l2] (hC n μ) (aw_is none (hC n r0)) := by
  unfold fK_writeSingles at hf
  refine AM.of (own := "ArcTape$Packer") (nm := "writeSingles") (L := [some (.ref 6), some (.int l1), some (.int l2), none, none]) rfl rfl (by decide) (Nat.le_of_ble_eq_true rfl) rfl ?_
  refine aw_iconst (pc' := 1) d_K_writeSingles_0 rfl kc_ic_m1 ?_
  refine aw_istore_n (pc' := 2) (L' := [some (.ref 6), some (.int l1), some (.int l2), some (.int (-1 : Int32)), none]) d_K_writeSingles_1 rfl (by decide) rfl ?_
  refine aw_iconst (pc' := 3) d_K_writeSingles_2 rfl kc_ic_0 ?_
  refine aw_istore (pc' := 5) (L' := [some (.ref 6), some (.int l1), some (.int l2), some (.int (-1 : Int32)), some (.int (0 : Int32))]) d_K_writeSingles_3 rfl (by decide) rfl ?_
  exact aw_weak [true, true, true, true, true] rfl (wK_writeSingles_5 _ _ _ _ _ _ hf)
set_option maxRecDepth 20000 in
theorem wK_writeRecord_91 {N : Nat} {n : Nat} {r0 : me_M} (l1 : Int32) (l3 : Int32) (μ : me_M) (hf : fK_writeRecord_91 N n l1 l3 μ = some r0) : AW "ArcTape$Packer" "writeRecord" c_K_writeRecord 4 none 3 0 0 0 (aw_is none (hC n r0)) 91 [some (.ref 6), some (.int l1), none, some (.int l3)] [] (hC n μ) 0 0 := by
  unfold fK_writeRecord_91 at hf
  refine aw_aload_n (pc' := 92) d_K_writeRecord_91 rfl rfl ?_
  refine aw_iload_n (pc' := 93) d_K_writeRecord_92 rfl rfl ?_
  refine aw_iload_n (pc' := 94) d_K_writeRecord_93 rfl rfl ?_
  obtain ⟨r1, hr1, hf⟩ := aw_bind hf
  refine aw_callVn (pc' := 97) (av := [.int l1, .int l3]) d_K_writeRecord_94 rfl wc_K_91 hC_6 (mK_writeSingles hr1) (Or.inl rfl) rfl (by decide) (Nat.le_of_ble_eq_true rfl) ⟨(Nat.le_refl 0), (Nat.le_refl 0)⟩ ?_
  cases hf
  exact aw_return rfl d_K_writeRecord_97 (Nat.le_refl 0) (Nat.le_refl 0) ⟨rfl, rfl⟩
set_option maxRecDepth 20000 in
theorem wK_writeRecord_70 {N : Nat} {n : Nat} {r0 : me_M} (l1 : Int32) (l3 : Int32) (μ : me_M) (hf : fK_writeRecord_70 N n l1 l3 μ = some r0) : AW "ArcTape$Packer" "writeRecord" c_K_writeRecord 4 none 3 0 0 0 (aw_is none (hC n r0)) 70 [some (.ref 6), some (.int l1), none, some (.int l3)] [] (hC n μ) 0 0 := by
  unfold fK_writeRecord_70 at hf
  refine aw_iload_n (pc' := 71) d_K_writeRecord_70 rfl rfl ?_
  refine aw_if_eq (tgt := 91) (pc' := 74) d_K_writeRecord_71 (by decide) rfl (fun c2 => ?_) (fun c2 => ?_)
  · replace hf := aw_ifp c2 hf
    exact aw_weak [true, true, false, true] rfl (wK_writeRecord_91 _ _ _ hf)
  · replace hf := aw_ifn c2 hf
    refine aw_aload_n (pc' := 75) d_K_writeRecord_74 rfl rfl ?_
    refine aw_get (pc' := 78) d_K_writeRecord_75 rfl fl_K_24 hC_6 rfl ?_
    refine aw_get (pc' := 81) d_K_writeRecord_78 rfl fl_K_85 hC_4 rfl ?_
    refine aw_if_le (tgt := 91) (pc' := 84) d_K_writeRecord_81 (by decide) rfl (fun c3 => ?_) (fun c3 => ?_)
    · replace hf := aw_ifp c3 hf
      exact aw_weak [true, true, false, true] rfl (wK_writeRecord_91 _ _ _ hf)
    · replace hf := aw_ifn c3 hf
      refine aw_aload_n (pc' := 85) d_K_writeRecord_84 rfl rfl ?_
      refine aw_iload_n (pc' := 86) d_K_writeRecord_85 rfl rfl ?_
      refine aw_iload_n (pc' := 87) d_K_writeRecord_86 rfl rfl ?_
      obtain ⟨r4, hr4, hf⟩ := aw_bind hf
      refine aw_callVv (pc' := 90) (av := [.int l1, .int l3]) d_K_writeRecord_87 rfl wc_K_88 hC_6 (mK_writeIntervals hr4) (Or.inl rfl) rfl (by decide) (Nat.le_of_ble_eq_true rfl) ⟨(Nat.le_refl 0), (Nat.le_refl 0)⟩ ?_
      refine aw_istore_n (pc' := 91) (L' := [some (.ref 6), some (.int l1), none, some (.int r4.1)]) d_K_writeRecord_90 rfl (by decide) rfl ?_
      exact aw_weak [true, true, false, true] rfl (wK_writeRecord_91 _ _ _ hf)
set_option maxRecDepth 20000 in
theorem wK_writeRecord_40 {N : Nat} {n : Nat} {r0 : me_M} (l1 : Int32) (l2 : Int32) (l3 : Int32) (μ : me_M) (hf : fK_writeRecord_40 N n l1 l2 l3 μ = some r0) : AW "ArcTape$Packer" "writeRecord" c_K_writeRecord 4 none 3 0 0 0 (aw_is none (hC n r0)) 40 [some (.ref 6), some (.int l1), some (.int l2), some (.int l3)] [] (hC n μ) 0 0 := by
  unfold fK_writeRecord_40 at hf
  refine aw_iload_n (pc' := 41) d_K_writeRecord_40 rfl rfl ?_
  refine aw_if_le (tgt := 70) (pc' := 44) d_K_writeRecord_41 (by decide) rfl (fun c5 => ?_) (fun c5 => ?_)
  · replace hf := aw_ifp c5 hf
    exact aw_weak [true, true, false, true] rfl (wK_writeRecord_70 _ _ _ hf)
  · replace hf := aw_ifn c5 hf
    refine aw_aload_n (pc' := 45) d_K_writeRecord_44 rfl rfl ?_
    refine aw_iload_n (pc' := 46) d_K_writeRecord_45 rfl rfl ?_
    refine aw_aload_n (pc' := 47) d_K_writeRecord_46 rfl rfl ?_
    refine aw_get (pc' := 50) d_K_writeRecord_47 rfl fl_K_21 hC_6 rfl ?_
    refine aw_iload_n (pc' := 51) d_K_writeRecord_50 rfl rfl ?_
    refine aw_iload_n (pc' := 52) d_K_writeRecord_51 rfl rfl ?_
    refine aw_isub (pc' := 53) d_K_writeRecord_52 rfl ?_
    obtain ⟨g6, hf⟩ := aw_gi hf
    refine aw_iald (pc' := 54) d_K_writeRecord_53 rfl rfl hC_1 g6 ?_
    obtain ⟨r7, hr7, hf⟩ := aw_bind hf
    refine aw_callVn (pc' := 57) (av := [.int l3, .int (μ.1 1 (l1 - l2).toNatClampNeg)]) d_K_writeRecord_54 rfl wc_K_82 hC_6 (mK_writeRuns hr7) (Or.inl rfl) rfl (by decide) (Nat.le_of_ble_eq_true rfl) ⟨(Nat.le_refl 0), (Nat.le_refl 0)⟩ ?_
    refine aw_iload_n (pc' := 58) d_K_writeRecord_57 rfl rfl ?_
    refine aw_aload_n (pc' := 59) d_K_writeRecord_58 rfl rfl ?_
    refine aw_get (pc' := 62) d_K_writeRecord_59 rfl fl_K_21 hC_6 rfl ?_
    refine aw_iload_n (pc' := 63) d_K_writeRecord_62 rfl rfl ?_
    refine aw_iload_n (pc' := 64) d_K_writeRecord_63 rfl rfl ?_
    refine aw_isub (pc' := 65) d_K_writeRecord_64 rfl ?_
    obtain ⟨g8, hf⟩ := aw_gi hf
    refine aw_iald (pc' := 66) d_K_writeRecord_65 rfl rfl hC_1 g8 ?_
    refine aw_iconst (pc' := 67) d_K_writeRecord_66 rfl kc_ic_m1 ?_
    refine aw_ixor (pc' := 68) d_K_writeRecord_67 rfl ?_
    refine aw_iand (pc' := 69) d_K_writeRecord_68 rfl ?_
    refine aw_istore_n (pc' := 70) (L' := [some (.ref 6), some (.int l1), some (.int l2), some (.int (l3 &&& ((r7.1 1 (l1 - l2).toNatClampNeg) ^^^ (-1 : Int32))))]) d_K_writeRecord_69 rfl (by decide) rfl ?_
    exact aw_weak [true, true, false, true] rfl (wK_writeRecord_70 _ _ _ hf)
set_option maxRecDepth 20000 in
theorem mK_writeRecord {N : Nat} {n : Nat} {μ : me_M} {r0 : me_M} {l1 : Int32} {l2 : Int32} (hf : fK_writeRecord N n l1 l2 μ = some r0) : AM y_K_writeRecord c_K_writeRecord 4 none 3 0 0 0 [.ref 6, .int l1, .int l2] (hC n μ) (aw_is none (hC n r0)) := by
  unfold fK_writeRecord at hf
  refine AM.of (own := "ArcTape$Packer") (nm := "writeRecord") (L := [some (.ref 6), some (.int l1), some (.int l2), none]) rfl rfl (by decide) (Nat.le_of_ble_eq_true rfl) rfl ?_
  refine aw_aload_n (pc' := 1) d_K_writeRecord_0 rfl rfl ?_
  refine aw_get (pc' := 4) d_K_writeRecord_1 rfl fl_K_21 hC_6 rfl ?_
  refine aw_iload_n (pc' := 5) d_K_writeRecord_4 rfl rfl ?_
  obtain ⟨g9, hf⟩ := aw_gi hf
  refine aw_iald (pc' := 6) d_K_writeRecord_5 rfl rfl hC_1 g9 ?_
  refine aw_istore_n (pc' := 7) (L' := [some (.ref 6), some (.int l1), some (.int l2), some (.int (μ.1 1 l1.toNatClampNeg))]) d_K_writeRecord_6 rfl (by decide) rfl ?_
  refine aw_aload_n (pc' := 8) d_K_writeRecord_7 rfl rfl ?_
  refine aw_get (pc' := 11) d_K_writeRecord_8 rfl fl_K_28 hC_6 rfl ?_
  refine aw_iload_n (pc' := 12) d_K_writeRecord_11 rfl rfl ?_
  obtain ⟨r10, hr10, hf⟩ := aw_bind hf
  refine aw_callSv (pc' := 15) (av := [.int (μ.1 1 l1.toNatClampNeg)]) d_K_writeRecord_12 rfl wc_K_70 (mJ_bitCount hr10) (Or.inl rfl) rfl (by decide) (Nat.le_of_ble_eq_true rfl) ⟨(Nat.le_refl 0), (Nat.le_refl 0)⟩ ?_
  obtain ⟨r11, hr11, hf⟩ := aw_bind hf
  refine aw_callVn (pc' := 18) (av := [.int r10]) d_K_writeRecord_15 rfl wc_K_75 hC_2 (mT_putGamma hr11) (Or.inl rfl) rfl (by decide) (Nat.le_of_ble_eq_true rfl) ⟨(Nat.le_refl 0), (Nat.le_refl 0)⟩ ?_
  refine aw_iload_n (pc' := 19) d_K_writeRecord_18 rfl rfl ?_
  refine aw_if_eq (tgt := 40) (pc' := 22) d_K_writeRecord_19 (by decide) rfl (fun c12 => ?_) (fun c12 => ?_)
  · replace hf := aw_ifp c12 hf
    exact aw_weak [true, true, true, true] rfl (wK_writeRecord_40 _ _ _ _ hf)
  · replace hf := aw_ifn c12 hf
    refine aw_aload_n (pc' := 23) d_K_writeRecord_22 rfl rfl ?_
    refine aw_get (pc' := 26) d_K_writeRecord_23 rfl fl_K_24 hC_6 rfl ?_
    refine aw_get (pc' := 29) d_K_writeRecord_26 rfl fl_K_54 hC_4 rfl ?_
    refine aw_if_le (tgt := 40) (pc' := 32) d_K_writeRecord_29 (by decide) rfl (fun c13 => ?_) (fun c13 => ?_)
    · replace hf := aw_ifp c13 hf
      exact aw_weak [true, true, true, true] rfl (wK_writeRecord_40 _ _ _ _ hf)
    · replace hf := aw_ifn c13 hf
      refine aw_aload_n (pc' := 33) d_K_writeRecord_32 rfl rfl ?_
      refine aw_get (pc' := 36) d_K_writeRecord_33 rfl fl_K_28 hC_6 rfl ?_
      refine aw_iload_n (pc' := 37) d_K_writeRecord_36 rfl rfl ?_
      obtain ⟨r14, hr14, hf⟩ := aw_bind hf
      refine aw_callVn (pc' := 40) (av := [.int l2]) d_K_writeRecord_37 rfl wc_K_79 hC_2 (mT_putUnary hr14) (Or.inl rfl) rfl (by decide) (Nat.le_of_ble_eq_true rfl) ⟨(Nat.le_refl 0), (Nat.le_refl 0)⟩ ?_
      exact aw_weak [true, true, true, true] rfl (wK_writeRecord_40 _ _ _ _ hf)
set_option maxRecDepth 20000 in
theorem wK_bestReference_116 {N : Nat} {n : Nat} {r0 : (Int32 × me_M)} (l3 : Int32) (μ : me_M) (hf : fK_bestReference_116 N n l3 μ = some r0) : AW "ArcTape$Packer" "bestReference" c_K_bestReference 7 (some .int) 4 0 0 0 (aw_is (some (.int r0.1)) (hC n r0.2)) 116 [none, none, none, some (.int l3), none, none, none] [] (hC n μ) 0 0 := by
  unfold fK_bestReference_116 at hf
  refine aw_iload_n (pc' := 117) d_K_bestReference_116 rfl rfl ?_
  cases hf
  exact aw_ireturn rfl d_K_bestReference_117 (Nat.le_refl 0) (Nat.le_refl 0) ⟨rfl, rfl⟩
set_option maxRecDepth 20000 in
theorem wK_bestReference_110 {N : Nat} {n : Nat} {r0 : (Int32 × me_M)} {k44 : Int32 → Int32 → Int32 → Int32 → Int32 → Int32 → me_M → Option (Int32 × me_M)} (hk44 : ∀ (l1 : Int32) (l2 : Int32) (l3 : Int32) (l4 : Int32) (l5 : Int32) (l6 : Int32) (μ : me_M), k44 l1 l2 l3 l4 l5 l6 μ = some r0 → AW "ArcTape$Packer" "bestReference" c_K_bestReference 7 (some .int) 4 0 0 0 (aw_is (some (.int r0.1)) (hC n r0.2)) 44 [some (.ref 6), some (.int l1), some (.int l2), some (.int l3), some (.int l4), some (.int l5), some (.int l6)] [] (hC n μ) 0 0) (l1 : Int32) (l2 : Int32) (l3 : Int32) (l4 : Int32) (l5 : Int32) (l6 : Int32) (μ : me_M) (hf : fK_bestReference_110 N n k44 l1 l2 l3 l4 l5 l6 μ = some r0) : AW "ArcTape$Packer" "bestReference" c_K_bestReference 7 (some .int) 4 0 0 0 (aw_is (some (.int r0.1)) (hC n r0.2)) 110 [some (.ref 6), some (.int l1), some (.int l2), some (.int l3), some (.int l4), some (.int l5), some (.int l6)] [] (hC n μ) 0 0 := by
  unfold fK_bestReference_110 at hf
  refine aw_iinc (pc' := 113) (L' := [some (.ref 6), some (.int l1), some (.int l2), some (.int l3), some (.int l4), some (.int l5), some (.int (l6 + (1 : Int32)))]) d_K_bestReference_110 rfl kc_ic_1 rfl (by decide) rfl ?_
  refine aw_goto (tgt := 44) d_K_bestReference_113 (by decide) ?_
  exact aw_weak [true, true, true, true, true, true, true] rfl (hk44 _ _ _ _ _ _ _ hf)
set_option maxRecDepth 20000 in
theorem wK_bestReference_102 {N : Nat} {n : Nat} {r0 : (Int32 × me_M)} {k44 : Int32 → Int32 → Int32 → Int32 → Int32 → Int32 → me_M → Option (Int32 × me_M)} (hk44 : ∀ (l1 : Int32) (l2 : Int32) (l3 : Int32) (l4 : Int32) (l5 : Int32) (l6 : Int32) (μ : me_M), k44 l1 l2 l3 l4 l5 l6 μ = some r0 → AW "ArcTape$Packer" "bestReference" c_K_bestReference 7 (some .int) 4 0 0 0 (aw_is (some (.int r0.1)) (hC n r0.2)) 44 [some (.ref 6), some (.int l1), some (.int l2), some (.int l3), some (.int l4), some (.int l5), some (.int l6)] [] (hC n μ) 0 0) (l1 : Int32) (l2 : Int32) (l3 : Int32) (l4 : Int32) (l5 : Int32) (l6 : Int32) (μ : me_M) (hf : fK_bestReference_102 N n k44 l1 l2 l3 l4 l5 l6 μ = some r0) : AW "ArcTape$Packer" "bestReference" c_K_bestReference 7 (some .int) 4 0 0 0 (aw_is (some (.int r0.1)) (hC n r0.2)) 102 [some (.ref 6), some (.int l1), some (.int l2), some (.int l3), some (.int l4), some (.int l5), some (.int l6)] [] (hC n μ) 0 0 := by
  unfold fK_bestReference_102 at hf
  refine aw_aload_n (pc' := 103) d_K_bestReference_102 rfl rfl ?_
  refine aw_get (pc' := 106) d_K_bestReference_103 rfl fl_K_28 hC_6 rfl ?_
  refine aw_iload_n (pc' := 107) d_K_bestReference_106 rfl rfl ?_
  refine aw_puti (pc' := 110) (h' := (hC n (me_wi μ 301 0 l2))) d_K_bestReference_107 rfl fp_K_35 hC_2 (Nat.le_of_ble_eq_true rfl) rfl ?_
  exact aw_weak [true, true, true, true, true, true, true] rfl (wK_bestReference_110 hk44 _ _ _ _ _ _ _ hf)
set_option maxRecDepth 20000 in
theorem wK_bestReference_67 {N : Nat} {n : Nat} {r0 : (Int32 × me_M)} {k44 : Int32 → Int32 → Int32 → Int32 → Int32 → Int32 → me_M → Option (Int32 × me_M)} (hk44 : ∀ (l1 : Int32) (l2 : Int32) (l3 : Int32) (l4 : Int32) (l5 : Int32) (l6 : Int32) (μ : me_M), k44 l1 l2 l3 l4 l5 l6 μ = some r0 → AW "ArcTape$Packer" "bestReference" c_K_bestReference 7 (some .int) 4 0 0 0 (aw_is (some (.int r0.1)) (hC n r0.2)) 44 [some (.ref 6), some (.int l1), some (.int l2), some (.int l3), some (.int l4), some (.int l5), some (.int l6)] [] (hC n μ) 0 0) (l1 : Int32) (l2 : Int32) (l3 : Int32) (l4 : Int32) (l5 : Int32) (l6 : Int32) (μ : me_M) (hf : fK_bestReference_67 N n k44 l1 l2 l3 l4 l5 l6 μ = some r0) : AW "ArcTape$Packer" "bestReference" c_K_bestReference 7 (some .int) 4 0 0 0 (aw_is (some (.int r0.1)) (hC n r0.2)) 67 [some (.ref 6), some (.int l1), some (.int l2), some (.int l3), some (.int l4), some (.int l5), some (.int l6)] [] (hC n μ) 0 0 := by
  unfold fK_bestReference_67 at hf
  refine aw_aload_n (pc' := 68) d_K_bestReference_67 rfl rfl ?_
  refine aw_iload_n (pc' := 69) d_K_bestReference_68 rfl rfl ?_
  refine aw_iload (pc' := 71) d_K_bestReference_69 rfl rfl ?_
  obtain ⟨r1, hr1, hf⟩ := aw_bind hf
  refine aw_callVn (pc' := 74) (av := [.int l1, .int l6]) d_K_bestReference_71 rfl wc_K_50 hC_6 (mK_writeRecord hr1) (Or.inl rfl) rfl (by decide) (Nat.le_of_ble_eq_true rfl) ⟨(Nat.le_refl 0), (Nat.le_refl 0)⟩ ?_
  refine aw_aload_n (pc' := 75) d_K_bestReference_74 rfl rfl ?_
  refine aw_get (pc' := 78) d_K_bestReference_75 rfl fl_K_28 hC_6 rfl ?_
  refine aw_get (pc' := 81) d_K_bestReference_78 rfl fl_K_35 hC_2 rfl ?_
  refine aw_iload_n (pc' := 82) d_K_bestReference_81 rfl rfl ?_
  refine aw_isub (pc' := 83) d_K_bestReference_82 rfl ?_
  refine aw_iload (pc' := 85) d_K_bestReference_83 rfl rfl ?_
  refine aw_icmp_ge (tgt := 102) (pc' := 88) d_K_bestReference_85 (by decide) rfl (fun c2 => ?_) (fun c2 => ?_)
  · replace hf := aw_ifp c2 hf
    exact aw_weak [true, true, true, true, true, true, true] rfl (wK_bestReference_102 hk44 _ _ _ _ _ _ _ hf)
  · replace hf := aw_ifn c2 hf
    refine aw_aload_n (pc' := 89) d_K_bestReference_88 rfl rfl ?_
    refine aw_get (pc' := 92) d_K_bestReference_89 rfl fl_K_28 hC_6 rfl ?_
    refine aw_get (pc' := 95) d_K_bestReference_92 rfl fl_K_35 hC_2 rfl ?_
    refine aw_iload_n (pc' := 96) d_K_bestReference_95 rfl rfl ?_
    refine aw_isub (pc' := 97) d_K_bestReference_96 rfl ?_
    refine aw_istore (pc' := 99) (L' := [some (.ref 6), some (.int l1), some (.int l2), some (.int l3), some (.int ((r1.1 301 0) - l2)), some (.int l5), some (.int l6)]) d_K_bestReference_97 rfl (by decide) rfl ?_
    refine aw_iload (pc' := 101) d_K_bestReference_99 rfl rfl ?_
    refine aw_istore_n (pc' := 102) (L' := [some (.ref 6), some (.int l1), some (.int l2), some (.int l6), some (.int ((r1.1 301 0) - l2)), some (.int l5), some (.int l6)]) d_K_bestReference_101 rfl (by decide) rfl ?_
    exact aw_weak [true, true, true, true, true, true, true] rfl (wK_bestReference_102 hk44 _ _ _ _ _ _ _ hf)
set_option maxRecDepth 20000 in
theorem wK_bestReference_44b {N : Nat} {n : Nat} {r0 : (Int32 × me_M)} {k44 : Int32 → Int32 → Int32 → Int32 → Int32 → Int32 → me_M → Option (Int32 × me_M)} (hk44 : ∀ (l1 : Int32) (l2 : Int32) (l3 : Int32) (l4 : Int32) (l5 : Int32) (l6 : Int32) (μ : me_M), k44 l1 l2 l3 l4 l5 l6 μ = some r0 → AW "ArcTape$Packer" "bestReference" c_K_bestReference 7 (some .int) 4 0 0 0 (aw_is (some (.int r0.1)) (hC n r0.2)) 44 [some (.ref 6), some (.int l1), some (.int l2), some (.int l3), some (.int l4), some (.int l5), some (.int l6)] [] (hC n μ) 0 0) (l1 : Int32) (l2 : Int32) (l3 : Int32) (l4 : Int32) (l5 : Int32) (l6 : Int32) (μ : me_M) (hf : fK_bestReference_44b N n k44 l1 l2 l3 l4 l5 l6 μ = some r0) : AW "ArcTape$Packer" "bestReference" c_K_bestReference 7 (some .int) 4 0 0 0 (aw_is (some (.int r0.1)) (hC n r0.2)) 44 [some (.ref 6), some (.int l1), some (.int l2), some (.int l3), some (.int l4), some (.int l5), some (.int l6)] [] (hC n μ) 0 0 := by
  unfold fK_bestReference_44b at hf
  refine aw_iload (pc' := 46) d_K_bestReference_44 rfl rfl ?_
  refine aw_iload (pc' := 48) d_K_bestReference_46 rfl rfl ?_
  refine aw_icmp_gt (tgt := 116) (pc' := 51) d_K_bestReference_48 (by decide) rfl (fun c3 => ?_) (fun c3 => ?_)
  · replace hf := aw_ifp c3 hf
    exact aw_weak [false, false, false, true, false, false, false] rfl (wK_bestReference_116 _ _ hf)
  · replace hf := aw_ifn c3 hf
    refine aw_iload (pc' := 53) d_K_bestReference_51 rfl rfl ?_
    refine aw_if_eq (tgt := 67) (pc' := 56) d_K_bestReference_53 (by decide) rfl (fun c4 => ?_) (fun c4 => ?_)
    · replace hf := aw_ifp c4 hf
      exact aw_weak [true, true, true, true, true, true, true] rfl (wK_bestReference_67 hk44 _ _ _ _ _ _ _ hf)
    · replace hf := aw_ifn c4 hf
      refine aw_aload_n (pc' := 57) d_K_bestReference_56 rfl rfl ?_
      refine aw_iload_n (pc' := 58) d_K_bestReference_57 rfl rfl ?_
      refine aw_iload (pc' := 60) d_K_bestReference_58 rfl rfl ?_
      refine aw_isub (pc' := 61) d_K_bestReference_60 rfl ?_
      obtain ⟨r5, hr5, hf⟩ := aw_bind hf
      refine aw_callVv (pc' := 64) (av := [.int (l1 - l6)]) d_K_bestReference_61 rfl wc_K_63 hC_6 (mK_mayBeReferredTo hr5) (Or.inl rfl) rfl (by decide) (Nat.le_of_ble_eq_true rfl) ⟨(Nat.le_refl 0), (Nat.le_refl 0)⟩ ?_
      refine aw_if_eq (tgt := 110) (pc' := 67) d_K_bestReference_64 (by decide) rfl (fun c6 => ?_) (fun c6 => ?_)
      · replace hf := aw_ifp c6 hf
        exact aw_weak [true, true, true, true, true, true, true] rfl (wK_bestReference_110 hk44 _ _ _ _ _ _ _ hf)
      · replace hf := aw_ifn c6 hf
        exact aw_weak [true, true, true, true, true, true, true] rfl (wK_bestReference_67 hk44 _ _ _ _ _ _ _ hf)
set_option maxRecDepth 20000 in
theorem wK_bestReference_44 {N : Nat} {n : Nat} {r0 : (Int32 × me_M)} : ∀ (F : Nat) (l1 : Int32) (l2 : Int32) (l3 : Int32) (l4 : Int32) (l5 : Int32) (l6 : Int32) (μ : me_M) (hf : fK_bestReference_44 N n F l1 l2 l3 l4 l5 l6 μ = some r0), AW "ArcTape$Packer" "bestReference" c_K_bestReference 7 (some .int) 4 0 0 0 (aw_is (some (.int r0.1)) (hC n r0.2)) 44 [some (.ref 6), some (.int l1), some (.int l2), some (.int l3), some (.int l4), some (.int l5), some (.int l6)] [] (hC n μ) 0 0 := by
  intro F
  induction F with
  | zero => intro l1 l2 l3 l4 l5 l6 μ hf; exact aw_no hf
  | succ F ih => intro l1 l2 l3 l4 l5 l6 μ hf; exact wK_bestReference_44b ih l1 l2 l3 l4 l5 l6 μ hf
set_option maxRecDepth 20000 in
theorem wK_bestReference_39 {N : Nat} {n : Nat} {r0 : (Int32 × me_M)} (l1 : Int32) (l2 : Int32) (l3 : Int32) (l4 : Int32) (s0 : Int32) (μ : me_M) (hf : fK_bestReference_39 N n l1 l2 l3 l4 s0 μ = some r0) : AW "ArcTape$Packer" "bestReference" c_K_bestReference 7 (some .int) 4 0 0 0 (aw_is (some (.int r0.1)) (hC n r0.2)) 39 [some (.ref 6), some (.int l1), some (.int l2), some (.int l3), some (.int l4), none, none] [.int s0] (hC n μ) 0 0 := by
  unfold fK_bestReference_39 at hf
  refine aw_istore (pc' := 41) (L' := [some (.ref 6), some (.int l1), some (.int l2), some (.int l3), some (.int l4), some (.int s0), none]) d_K_bestReference_39 rfl (by decide) rfl ?_
  refine aw_iconst (pc' := 42) d_K_bestReference_41 rfl kc_ic_0 ?_
  refine aw_istore (pc' := 44) (L' := [some (.ref 6), some (.int l1), some (.int l2), some (.int l3), some (.int l4), some (.int s0), some (.int (0 : Int32))]) d_K_bestReference_42 rfl (by decide) rfl ?_
  exact aw_weak [true, true, true, true, true, true, true] rfl (wK_bestReference_44 _ _ _ _ _ _ _ _ hf)
set_option maxRecDepth 20000 in
theorem mK_bestReference {N : Nat} {n : Nat} {μ : me_M} {r0 : (Int32 × me_M)} {l1 : Int32} (hf : fK_bestReference N n l1 μ = some r0) : AM y_K_bestReference c_K_bestReference 7 (some .int) 4 0 0 0 [.ref 6, .int l1] (hC n μ) (aw_is (some (.int r0.1)) (hC n r0.2)) := by
  unfold fK_bestReference at hf
  refine AM.of (own := "ArcTape$Packer") (nm := "bestReference") (L := [some (.ref 6), some (.int l1), none, none, none, none, none]) rfl rfl (by decide) (Nat.le_of_ble_eq_true rfl) rfl ?_
  refine aw_aload_n (pc' := 1) d_K_bestReference_0 rfl rfl ?_
  refine aw_get (pc' := 4) d_K_bestReference_1 rfl fl_K_28 hC_6 rfl ?_
  refine aw_get (pc' := 7) d_K_bestReference_4 rfl fl_K_35 hC_2 rfl ?_
  refine aw_istore_n (pc' := 8) (L' := [some (.ref 6), some (.int l1), some (.int (μ.1 301 0)), none, none, none, none]) d_K_bestReference_7 rfl (by decide) rfl ?_
  refine aw_iconst (pc' := 9) d_K_bestReference_8 rfl kc_ic_0 ?_
  refine aw_istore_n (pc' := 10) (L' := [some (.ref 6), some (.int l1), some (.int (μ.1 301 0)), some (.int (0 : Int32)), none, none, none]) d_K_bestReference_9 rfl (by decide) rfl ?_
  refine aw_sipush (pc' := 13) d_K_bestReference_10 rfl kc_si_800 ?_
  refine aw_istore (pc' := 15) (L' := [some (.ref 6), some (.int l1), some (.int (μ.1 301 0)), some (.int (0 : Int32)), some (.int (800 : Int32)), none, none]) d_K_bestReference_13 rfl (by decide) rfl ?_
  refine aw_aload_n (pc' := 16) d_K_bestReference_15 rfl rfl ?_
  refine aw_get (pc' := 19) d_K_bestReference_16 rfl fl_K_21 hC_6 rfl ?_
  refine aw_iload_n (pc' := 20) d_K_bestReference_19 rfl rfl ?_
  obtain ⟨g7, hf⟩ := aw_gi hf
  refine aw_iald (pc' := 21) d_K_bestReference_20 rfl rfl hC_1 g7 ?_
  refine aw_if_ne (tgt := 28) (pc' := 24) d_K_bestReference_21 (by decide) rfl (fun c8 => ?_) (fun c8 => ?_)
  · replace hf := aw_ifn c8 hf
    refine aw_aload_n (pc' := 29) d_K_bestReference_28 rfl rfl ?_
    refine aw_get (pc' := 32) d_K_bestReference_29 rfl fl_K_24 hC_6 rfl ?_
    refine aw_get (pc' := 35) d_K_bestReference_32 rfl fl_K_54 hC_4 rfl ?_
    refine aw_iload_n (pc' := 36) d_K_bestReference_35 rfl rfl ?_
    refine aw_mmin (pc' := 39) d_K_bestReference_36 rfl wc_K_57 (by decide) (Nat.le_of_ble_eq_true rfl) (Nat.le_refl 0) (Nat.le_refl 0) ?_
    exact aw_weak [true, true, true, true, true, false, false] rfl (wK_bestReference_39 _ _ _ _ _ _ hf)
  · replace hf := aw_ifp c8 hf
    refine aw_iconst (pc' := 25) d_K_bestReference_24 rfl kc_ic_0 ?_
    refine aw_goto (tgt := 39) d_K_bestReference_25 (by decide) ?_
    exact aw_weak [true, true, true, true, true, false, false] rfl (wK_bestReference_39 _ _ _ _ _ _ hf)
set_option maxRecDepth 20000 in
theorem wK_writeAll_77 {N : Nat} {n : Nat} {r0 : me_M} (μ : me_M) (hf : fK_writeAll_77 N n μ = some r0) : AW "ArcTape$Packer" "writeAll" c_K_writeAll 3 none 5 0 0 0 (aw_is none (hC n r0)) 77 [some (.ref 6), none, none] [] (hC n μ) 0 0 := by
  unfold fK_writeAll_77 at hf
  refine aw_aload_n (pc' := 78) d_K_writeAll_77 rfl rfl ?_
  refine aw_get (pc' := 81) d_K_writeAll_78 rfl fl_K_24 hC_6 rfl ?_
  refine aw_get (pc' := 84) d_K_writeAll_81 rfl fl_K_41 hC_4 rfl ?_
  refine aw_aload_n (pc' := 85) d_K_writeAll_84 rfl rfl ?_
  refine aw_get (pc' := 88) d_K_writeAll_85 rfl fl_K_21 hC_6 rfl ?_
  refine aw_alen (pc' := 89) d_K_writeAll_88 rfl rfl hC_1 ?_
  refine aw_aload_n (pc' := 90) d_K_writeAll_89 rfl rfl ?_
  refine aw_get (pc' := 93) d_K_writeAll_90 rfl fl_K_28 hC_6 rfl ?_
  refine aw_get (pc' := 96) d_K_writeAll_93 rfl fl_K_35 hC_2 rfl ?_
  obtain ⟨g1, hf⟩ := aw_gi hf
  refine aw_iast (pc' := 97) (h' := (hC n (me_wi μ 5 (nI n).toNatClampNeg (μ.1 301 0)))) d_K_writeAll_96 rfl rfl hC_5 g1 rfl ?_
  cases hf
  exact aw_return rfl d_K_writeAll_97 (Nat.le_refl 0) (Nat.le_refl 0) ⟨rfl, rfl⟩
set_option maxRecDepth 20000 in
theorem wK_writeAll_70 {N : Nat} {n : Nat} {r0 : me_M} {k10 : Int32 → me_M → Option me_M} (hk10 : ∀ (l1 : Int32) (μ : me_M), k10 l1 μ = some r0 → AW "ArcTape$Packer" "writeAll" c_K_writeAll 3 none 5 0 0 0 (aw_is none (hC n r0)) 10 [some (.ref 6), some (.int l1), none] [] (hC n μ) 0 0) (l1 : Int32) (s1 : Int32) (s2 : Int32) (μ : me_M) (hf : fK_writeAll_70 N n k10 l1 s1 s2 μ = some r0) : AW "ArcTape$Packer" "writeAll" c_K_writeAll 3 none 5 0 0 0 (aw_is none (hC n r0)) 70 [some (.ref 6), some (.int l1), none] [.int s2, .int s1, .ref 10] (hC n μ) 0 0 := by
  unfold fK_writeAll_70 at hf
  obtain ⟨g2, hf⟩ := aw_gi hf
  refine aw_iast (pc' := 71) (h' := (hC n (me_wi μ 10 s1.toNatClampNeg s2))) d_K_writeAll_70 rfl rfl hC_10 g2 rfl ?_
  refine aw_iinc (pc' := 74) (L' := [some (.ref 6), some (.int (l1 + (1 : Int32))), none]) d_K_writeAll_71 rfl kc_ic_1 rfl (by decide) rfl ?_
  refine aw_goto (tgt := 10) d_K_writeAll_74 (by decide) ?_
  exact aw_weak [true, true, false] rfl (hk10 _ _ hf)
set_option maxRecDepth 20000 in
theorem wK_writeAll_10b {N : Nat} {n : Nat} {r0 : me_M} {k10 : Int32 → me_M → Option me_M} (hk10 : ∀ (l1 : Int32) (μ : me_M), k10 l1 μ = some r0 → AW "ArcTape$Packer" "writeAll" c_K_writeAll 3 none 5 0 0 0 (aw_is none (hC n r0)) 10 [some (.ref 6), some (.int l1), none] [] (hC n μ) 0 0) (l1 : Int32) (μ : me_M) (hf : fK_writeAll_10b N n k10 l1 μ = some r0) : AW "ArcTape$Packer" "writeAll" c_K_writeAll 3 none 5 0 0 0 (aw_is none (hC n r0)) 10 [some (.ref 6), some (.int l1), none] [] (hC n μ) 0 0 := by
  unfold fK_writeAll_10b at hf
  refine aw_iload_n (pc' := 11) d_K_writeAll_10 rfl rfl ?_
  refine aw_aload_n (pc' := 12) d_K_writeAll_11 rfl rfl ?_
  refine aw_get (pc' := 15) d_K_writeAll_12 rfl fl_K_21 hC_6 rfl ?_
  refine aw_alen (pc' := 16) d_K_writeAll_15 rfl rfl hC_1 ?_
  refine aw_icmp_ge (tgt := 77) (pc' := 19) d_K_writeAll_16 (by decide) rfl (fun c3 => ?_) (fun c3 => ?_)
  · replace hf := aw_ifp c3 hf
    exact aw_weak [true, false, false] rfl (wK_writeAll_77 _ hf)
  · replace hf := aw_ifn c3 hf
    refine aw_aload_n (pc' := 20) d_K_writeAll_19 rfl rfl ?_
    refine aw_get (pc' := 23) d_K_writeAll_20 rfl fl_K_24 hC_6 rfl ?_
    refine aw_get (pc' := 26) d_K_writeAll_23 rfl fl_K_41 hC_4 rfl ?_
    refine aw_iload_n (pc' := 27) d_K_writeAll_26 rfl rfl ?_
    refine aw_aload_n (pc' := 28) d_K_writeAll_27 rfl rfl ?_
    refine aw_get (pc' := 31) d_K_writeAll_28 rfl fl_K_28 hC_6 rfl ?_
    refine aw_get (pc' := 34) d_K_writeAll_31 rfl fl_K_35 hC_2 rfl ?_
    obtain ⟨g4, hf⟩ := aw_gi hf
    refine aw_iast (pc' := 35) (h' := (hC n (me_wi μ 5 l1.toNatClampNeg (μ.1 301 0)))) d_K_writeAll_34 rfl rfl hC_5 g4 rfl ?_
    refine aw_aload_n (pc' := 36) d_K_writeAll_35 rfl rfl ?_
    refine aw_iload_n (pc' := 37) d_K_writeAll_36 rfl rfl ?_
    obtain ⟨r5, hr5, hf⟩ := aw_bind hf
    refine aw_callVv (pc' := 40) (av := [.int l1]) d_K_writeAll_37 rfl wc_K_46 hC_6 (mK_bestReference hr5) (Or.inl rfl) rfl (by decide) (Nat.le_of_ble_eq_true rfl) ⟨(Nat.le_refl 0), (Nat.le_refl 0)⟩ ?_
    refine aw_istore_n (pc' := 41) (L' := [some (.ref 6), some (.int l1), some (.int r5.1)]) d_K_writeAll_40 rfl (by decide) rfl ?_
    refine aw_aload_n (pc' := 42) d_K_writeAll_41 rfl rfl ?_
    refine aw_iload_n (pc' := 43) d_K_writeAll_42 rfl rfl ?_
    refine aw_iload_n (pc' := 44) d_K_writeAll_43 rfl rfl ?_
    obtain ⟨r6, hr6, hf⟩ := aw_bind hf
    refine aw_callVn (pc' := 47) (av := [.int l1, .int r5.1]) d_K_writeAll_44 rfl wc_K_50 hC_6 (mK_writeRecord hr6) (Or.inl rfl) rfl (by decide) (Nat.le_of_ble_eq_true rfl) ⟨(Nat.le_refl 0), (Nat.le_refl 0)⟩ ?_
    refine aw_aload_n (pc' := 48) d_K_writeAll_47 rfl rfl ?_
    refine aw_get (pc' := 51) d_K_writeAll_48 rfl fl_K_32 hC_6 rfl ?_
    refine aw_iload_n (pc' := 52) d_K_writeAll_51 rfl rfl ?_
    refine aw_iload_n (pc' := 53) d_K_writeAll_52 rfl rfl ?_
    refine aw_if_ne (tgt := 60) (pc' := 56) d_K_writeAll_53 (by decide) rfl (fun c7 => ?_) (fun c7 => ?_)
    · replace hf := aw_ifn c7 hf
      refine aw_aload_n (pc' := 61) d_K_writeAll_60 rfl rfl ?_
      refine aw_get (pc' := 64) d_K_writeAll_61 rfl fl_K_32 hC_6 rfl ?_
      refine aw_iload_n (pc' := 65) d_K_writeAll_64 rfl rfl ?_
      refine aw_iload_n (pc' := 66) d_K_writeAll_65 rfl rfl ?_
      refine aw_isub (pc' := 67) d_K_writeAll_66 rfl ?_
      obtain ⟨g8, hf⟩ := aw_gi hf
      refine aw_iald (pc' := 68) d_K_writeAll_67 rfl rfl hC_10 g8 ?_
      refine aw_iconst (pc' := 69) d_K_writeAll_68 rfl kc_ic_1 ?_
      refine aw_iadd (pc' := 70) d_K_writeAll_69 rfl ?_
      exact aw_weak [true, true, false] rfl (wK_writeAll_70 hk10 _ _ _ _ hf)
    · replace hf := aw_ifp c7 hf
      refine aw_iconst (pc' := 57) d_K_writeAll_56 rfl kc_ic_0 ?_
      refine aw_goto (tgt := 70) d_K_writeAll_57 (by decide) ?_
      exact aw_weak [true, true, false] rfl (wK_writeAll_70 hk10 _ _ _ _ hf)
set_option maxRecDepth 20000 in
theorem wK_writeAll_10 {N : Nat} {n : Nat} {r0 : me_M} : ∀ (F : Nat) (l1 : Int32) (μ : me_M) (hf : fK_writeAll_10 N n F l1 μ = some r0), AW "ArcTape$Packer" "writeAll" c_K_writeAll 3 none 5 0 0 0 (aw_is none (hC n r0)) 10 [some (.ref 6), some (.int l1), none] [] (hC n μ) 0 0 := by
  intro F
  induction F with
  | zero => intro l1 μ hf; exact aw_no hf
  | succ F ih => intro l1 μ hf; exact wK_writeAll_10b ih l1 μ hf
set_option maxRecDepth 20000 in
theorem mK_writeAll {N : Nat} {n : Nat} {μ : me_M} {r0 : me_M} (hf : fK_writeAll N n μ = some r0) : AM y_K_writeAll c_K_writeAll 3 none 5 0 0 0 [.ref 6] (hC n μ) (aw_is none (hC n r0)) := by
  unfold fK_writeAll at hf
  refine AM.of (own := "ArcTape$Packer") (nm := "writeAll") (L := [some (.ref 6), none, none]) rfl rfl (by decide) (Nat.le_of_ble_eq_true rfl) rfl ?_
  refine aw_aload_n (pc' := 1) d_K_writeAll_0 rfl rfl ?_
  refine aw_get (pc' := 4) d_K_writeAll_1 rfl fl_K_28 hC_6 rfl ?_
  refine aw_iconst (pc' := 5) d_K_writeAll_4 rfl kc_ic_0 ?_
  refine aw_puti (pc' := 8) (h' := (hC n (me_wi μ 301 0 (0 : Int32)))) d_K_writeAll_5 rfl fp_K_35 hC_2 (Nat.le_of_ble_eq_true rfl) rfl ?_
  refine aw_iconst (pc' := 9) d_K_writeAll_8 rfl kc_ic_0 ?_
  refine aw_istore_n (pc' := 10) (L' := [some (.ref 6), some (.int (0 : Int32)), none]) d_K_writeAll_9 rfl (by decide) rfl ?_
  exact aw_weak [true, true, false] rfl (wK_writeAll_10 _ _ _ hf)
