set_option maxRecDepth 20000 in
theorem wM_rowAt_54 {N : Nat} {μ : me_M} {r0 : Int32} (l3 : Int32) (hf : fM_rowAt_54 N μ l3 = some r0) : AW "ArcTapeModel" "rowAt" c_M_rowAt 4 (some .int) 0 0 0 0 (aw_is (some (.int r0)) (hM  μ)) 54 [none, none, none, some (.int l3)] [] (hM  μ) 0 0 := by
  unfold fM_rowAt_54 at hf
  refine aw_iload_n (pc' := 55) d_M_rowAt_54 rfl rfl ?_
  cases hf
  exact aw_ireturn rfl d_M_rowAt_55 (Nat.le_refl 0) (Nat.le_refl 0) ⟨rfl, rfl⟩
set_option maxRecDepth 20000 in
theorem wM_rowAt_27b {N : Nat} {μ : me_M} {r0 : Int32} {k27 : Int32 → Int32 → Int32 → Option Int32} (hk27 : ∀ (l1 : Int32) (l2 : Int32) (l3 : Int32), k27 l1 l2 l3 = some r0 → AW "ArcTapeModel" "rowAt" c_M_rowAt 4 (some .int) 0 0 0 0 (aw_is (some (.int r0)) (hM  μ)) 27 [some (.ref 0), some (.int l1), some (.int l2), some (.int l3)] [] (hM  μ) 0 0) (l1 : Int32) (l2 : Int32) (l3 : Int32) (hf : fM_rowAt_27b N μ k27 l1 l2 l3 = some r0) : AW "ArcTapeModel" "rowAt" c_M_rowAt 4 (some .int) 0 0 0 0 (aw_is (some (.int r0)) (hM  μ)) 27 [some (.ref 0), some (.int l1), some (.int l2), some (.int l3)] [] (hM  μ) 0 0 := by
  unfold fM_rowAt_27b at hf
  refine aw_iload_n (pc' := 28) d_M_rowAt_27 rfl rfl ?_
  refine aw_iload_n (pc' := 29) d_M_rowAt_28 rfl rfl ?_
  refine aw_iadd (pc' := 30) d_M_rowAt_29 rfl ?_
  refine aw_aload_n (pc' := 31) d_M_rowAt_30 rfl rfl ?_
  refine aw_get (pc' := 34) d_M_rowAt_31 rfl fl_M_56 hM_0 rfl ?_
  refine aw_icmp_ge (tgt := 54) (pc' := 37) d_M_rowAt_34 (by decide) rfl (fun c1 => ?_) (fun c1 => ?_)
  · replace hf := aw_ifp c1 hf
    exact aw_weak [false, false, false, true] rfl (wM_rowAt_54 _ hf)
  · replace hf := aw_ifn c1 hf
    refine aw_iload_n (pc' := 38) d_M_rowAt_37 rfl rfl ?_
    refine aw_iload_n (pc' := 39) d_M_rowAt_38 rfl rfl ?_
    refine aw_iload_n (pc' := 40) d_M_rowAt_39 rfl rfl ?_
    refine aw_iadd (pc' := 41) d_M_rowAt_40 rfl ?_
    refine aw_ishr (pc' := 42) d_M_rowAt_41 rfl ?_
    refine aw_iconst (pc' := 43) d_M_rowAt_42 rfl kc_ic_1 ?_
    refine aw_iand (pc' := 44) d_M_rowAt_43 rfl ?_
    refine aw_iconst (pc' := 45) d_M_rowAt_44 rfl kc_ic_1 ?_
    refine aw_icmp_ne (tgt := 54) (pc' := 48) d_M_rowAt_45 (by decide) rfl (fun c2 => ?_) (fun c2 => ?_)
    · replace hf := aw_ifn c2 hf
      exact aw_weak [false, false, false, true] rfl (wM_rowAt_54 _ hf)
    · replace hf := aw_ifp c2 hf
      refine aw_iinc (pc' := 51) (L' := [some (.ref 0), some (.int l1), some (.int l2), some (.int (l3 + (1 : Int32)))]) d_M_rowAt_48 rfl kc_ic_1 rfl (by decide) rfl ?_
      refine aw_goto (tgt := 27) d_M_rowAt_51 (by decide) ?_
      exact aw_weak [true, true, true, true] rfl (hk27 _ _ _ hf)
set_option maxRecDepth 20000 in
theorem wM_rowAt_27 {N : Nat} {μ : me_M} {r0 : Int32} : ∀ (F : Nat) (l1 : Int32) (l2 : Int32) (l3 : Int32) (hf : fM_rowAt_27 N μ F l1 l2 l3 = some r0), AW "ArcTapeModel" "rowAt" c_M_rowAt 4 (some .int) 0 0 0 0 (aw_is (some (.int r0)) (hM  μ)) 27 [some (.ref 0), some (.int l1), some (.int l2), some (.int l3)] [] (hM  μ) 0 0 := by
  intro F
  induction F with
  | zero => intro l1 l2 l3 hf; exact aw_no hf
  | succ F ih => intro l1 l2 l3 hf; exact wM_rowAt_27b ih l1 l2 l3 hf
set_option maxRecDepth 20000 in
theorem wM_rowAt_25 {N : Nat} {μ : me_M} {r0 : Int32} (l1 : Int32) (l2 : Int32) (hf : fM_rowAt_25 N μ l1 l2 = some r0) : AW "ArcTapeModel" "rowAt" c_M_rowAt 4 (some .int) 0 0 0 0 (aw_is (some (.int r0)) (hM  μ)) 25 [some (.ref 0), some (.int l1), some (.int l2), none] [] (hM  μ) 0 0 := by
  unfold fM_rowAt_25 at hf
  refine aw_iconst (pc' := 26) d_M_rowAt_25 rfl kc_ic_0 ?_
  refine aw_istore_n (pc' := 27) (L' := [some (.ref 0), some (.int l1), some (.int l2), some (.int (0 : Int32))]) d_M_rowAt_26 rfl (by decide) rfl ?_
  exact aw_weak [true, true, true, true] rfl (wM_rowAt_27 _ _ _ _ hf)
set_option maxRecDepth 20000 in
theorem wM_rowAt_23 {N : Nat} {μ : me_M} {r0 : Int32} (hf : fM_rowAt_23 N μ = some r0) : AW "ArcTapeModel" "rowAt" c_M_rowAt 4 (some .int) 0 0 0 0 (aw_is (some (.int r0)) (hM  μ)) 23 [none, none, none, none] [] (hM  μ) 0 0 := by
  unfold fM_rowAt_23 at hf
  refine aw_iconst (pc' := 24) d_M_rowAt_23 rfl kc_ic_0 ?_
  cases hf
  exact aw_ireturn rfl d_M_rowAt_24 (Nat.le_refl 0) (Nat.le_refl 0) ⟨rfl, rfl⟩
set_option maxRecDepth 20000 in
theorem mM_rowAt {N : Nat} {μ : me_M} {r0 : Int32} {l1 : Int32} {l2 : Int32} (hf : fM_rowAt N μ l1 l2 = some r0) : AM y_M_rowAt c_M_rowAt 4 (some .int) 0 0 0 0 [.ref 0, .int l1, .int l2] (hM  μ) (aw_is (some (.int r0)) (hM  μ)) := by
  unfold fM_rowAt at hf
  refine AM.of (own := "ArcTapeModel") (nm := "rowAt") (L := [some (.ref 0), some (.int l1), some (.int l2), none]) rfl rfl (by decide) (Nat.le_of_ble_eq_true rfl) rfl ?_
  refine aw_iload_n (pc' := 1) d_M_rowAt_0 rfl rfl ?_
  refine aw_iload_n (pc' := 2) d_M_rowAt_1 rfl rfl ?_
  refine aw_ishr (pc' := 3) d_M_rowAt_2 rfl ?_
  refine aw_iconst (pc' := 4) d_M_rowAt_3 rfl kc_ic_1 ?_
  refine aw_iand (pc' := 5) d_M_rowAt_4 rfl ?_
  refine aw_if_eq (tgt := 23) (pc' := 8) d_M_rowAt_5 (by decide) rfl (fun c3 => ?_) (fun c3 => ?_)
  · replace hf := aw_ifp c3 hf
    exact aw_weak [false, false, false, false] rfl (wM_rowAt_23  hf)
  · replace hf := aw_ifn c3 hf
    refine aw_iload_n (pc' := 9) d_M_rowAt_8 rfl rfl ?_
    refine aw_if_le (tgt := 25) (pc' := 12) d_M_rowAt_9 (by decide) rfl (fun c4 => ?_) (fun c4 => ?_)
    · replace hf := aw_ifp c4 hf
      exact aw_weak [true, true, true, false] rfl (wM_rowAt_25 _ _ hf)
    · replace hf := aw_ifn c4 hf
      refine aw_iload_n (pc' := 13) d_M_rowAt_12 rfl rfl ?_
      refine aw_iload_n (pc' := 14) d_M_rowAt_13 rfl rfl ?_
      refine aw_iconst (pc' := 15) d_M_rowAt_14 rfl kc_ic_1 ?_
      refine aw_isub (pc' := 16) d_M_rowAt_15 rfl ?_
      refine aw_ishr (pc' := 17) d_M_rowAt_16 rfl ?_
      refine aw_iconst (pc' := 18) d_M_rowAt_17 rfl kc_ic_1 ?_
      refine aw_iand (pc' := 19) d_M_rowAt_18 rfl ?_
      refine aw_iconst (pc' := 20) d_M_rowAt_19 rfl kc_ic_1 ?_
      refine aw_icmp_ne (tgt := 25) (pc' := 23) d_M_rowAt_20 (by decide) rfl (fun c5 => ?_) (fun c5 => ?_)
      · replace hf := aw_ifn c5 hf
        exact aw_weak [true, true, true, false] rfl (wM_rowAt_25 _ _ hf)
      · replace hf := aw_ifp c5 hf
        exact aw_weak [false, false, false, false] rfl (wM_rowAt_23  hf)
set_option maxRecDepth 20000 in
theorem wM_natural_16 {N : Nat} {h0 : aw_H} {r0 : Int32} (s0 : Int32) (hf : fM_natural_16 N s0 = some r0) : AW "ArcTapeModel" "natural" c_M_natural 1 (some .int) 0 0 0 0 (aw_is (some (.int r0)) h0) 16 [none] [.int s0] h0 0 0 := by
  unfold fM_natural_16 at hf
  cases hf
  exact aw_ireturn rfl d_M_natural_16 (Nat.le_refl 0) (Nat.le_refl 0) ⟨rfl, rfl⟩
set_option maxRecDepth 20000 in
theorem mM_natural {N : Nat} {h0 : aw_H} {r0 : Int32} {l0 : Int32} (hf : fM_natural N l0 = some r0) : AM y_M_natural c_M_natural 1 (some .int) 0 0 0 0 [.int l0] h0 (aw_is (some (.int r0)) h0) := by
  unfold fM_natural at hf
  refine AM.of (own := "ArcTapeModel") (nm := "natural") (L := [some (.int l0)]) rfl rfl (by decide) (Nat.le_of_ble_eq_true rfl) rfl ?_
  refine aw_iload_n (pc' := 1) d_M_natural_0 rfl rfl ?_
  refine aw_if_lt (tgt := 10) (pc' := 4) d_M_natural_1 (by decide) rfl (fun c1 => ?_) (fun c1 => ?_)
  · replace hf := aw_ifp c1 hf
    refine aw_bipush (pc' := 12) d_M_natural_10 rfl kc_bi_m2 ?_
    refine aw_iload_n (pc' := 13) d_M_natural_12 rfl rfl ?_
    refine aw_imul (pc' := 14) d_M_natural_13 rfl ?_
    refine aw_iconst (pc' := 15) d_M_natural_14 rfl kc_ic_1 ?_
    refine aw_isub (pc' := 16) d_M_natural_15 rfl ?_
    exact aw_weak [false] rfl (wM_natural_16 _ hf)
  · replace hf := aw_ifn c1 hf
    refine aw_iconst (pc' := 5) d_M_natural_4 rfl kc_ic_2 ?_
    refine aw_iload_n (pc' := 6) d_M_natural_5 rfl rfl ?_
    refine aw_imul (pc' := 7) d_M_natural_6 rfl ?_
    refine aw_goto (tgt := 16) d_M_natural_7 (by decide) ?_
    exact aw_weak [false] rfl (wM_natural_16 _ hf)
set_option maxRecDepth 20000 in
theorem wM_putZeta_96 {N : Nat} {r0 : me_M} (μ : me_M) (hf : fM_putZeta_96 N μ = some r0) : AW "ArcTapeModel" "putZeta" c_M_putZeta 4 none 2 0 0 0 (aw_is none (hM  r0)) 96 [none, none, none, none] [] (hM  μ) 0 0 := by
  unfold fM_putZeta_96 at hf
  cases hf
  exact aw_return rfl d_M_putZeta_96 (Nat.le_refl 0) (Nat.le_refl 0) ⟨rfl, rfl⟩
set_option maxRecDepth 20000 in
theorem wM_putZeta_30 {N : Nat} {r0 : me_M} (l1 : Int32) (l2 : Int32) (μ : me_M) (hf : fM_putZeta_30 N l1 l2 μ = some r0) : AW "ArcTapeModel" "putZeta" c_M_putZeta 4 none 2 0 0 0 (aw_is none (hM  r0)) 30 [some (.ref 0), some (.int l1), some (.int l2), none] [] (hM  μ) 0 0 := by
  unfold fM_putZeta_30 at hf
  refine aw_aload_n (pc' := 31) d_M_putZeta_30 rfl rfl ?_
  refine aw_iload_n (pc' := 32) d_M_putZeta_31 rfl rfl ?_
  obtain ⟨r1, hr1, hf⟩ := aw_bind hf
  refine aw_callVn (pc' := 35) (av := [.int l2]) d_M_putZeta_32 rfl wc_M_79 hM_0 (mM_putUnary hr1) (Or.inl rfl) rfl (by decide) (Nat.le_of_ble_eq_true rfl) ⟨(Nat.le_refl 0), (Nat.le_refl 0)⟩ ?_
  refine aw_iconst (pc' := 36) d_M_putZeta_35 rfl kc_ic_1 ?_
  refine aw_iload_n (pc' := 37) d_M_putZeta_36 rfl rfl ?_
  refine aw_aload_n (pc' := 38) d_M_putZeta_37 rfl rfl ?_
  refine aw_get (pc' := 41) d_M_putZeta_38 rfl fl_M_86 hM_0 rfl ?_
  refine aw_imul (pc' := 42) d_M_putZeta_41 rfl ?_
  refine aw_ishl (pc' := 43) d_M_putZeta_42 rfl ?_
  refine aw_istore_n (pc' := 44) (L' := [some (.ref 0), some (.int l1), some (.int l2), some (.int ((1 : Int32) <<< ((l2 * (r1.1 108 0)) &&& 31)))]) d_M_putZeta_43 rfl (by decide) rfl ?_
  refine aw_iload_n (pc' := 45) d_M_putZeta_44 rfl rfl ?_
  refine aw_iconst (pc' := 46) d_M_putZeta_45 rfl kc_ic_1 ?_
  refine aw_iadd (pc' := 47) d_M_putZeta_46 rfl ?_
  refine aw_iconst (pc' := 48) d_M_putZeta_47 rfl kc_ic_2 ?_
  refine aw_iload_n (pc' := 49) d_M_putZeta_48 rfl rfl ?_
  refine aw_imul (pc' := 50) d_M_putZeta_49 rfl ?_
  refine aw_icmp_ge (tgt := 78) (pc' := 53) d_M_putZeta_50 (by decide) rfl (fun c2 => ?_) (fun c2 => ?_)
  · replace hf := aw_ifp c2 hf
    refine aw_aload_n (pc' := 79) d_M_putZeta_78 rfl rfl ?_
    refine aw_iload_n (pc' := 80) d_M_putZeta_79 rfl rfl ?_
    refine aw_iconst (pc' := 81) d_M_putZeta_80 rfl kc_ic_1 ?_
    refine aw_iadd (pc' := 82) d_M_putZeta_81 rfl ?_
    refine aw_iload_n (pc' := 83) d_M_putZeta_82 rfl rfl ?_
    refine aw_aload_n (pc' := 84) d_M_putZeta_83 rfl rfl ?_
    refine aw_get (pc' := 87) d_M_putZeta_84 rfl fl_M_86 hM_0 rfl ?_
    refine aw_imul (pc' := 88) d_M_putZeta_87 rfl ?_
    refine aw_aload_n (pc' := 89) d_M_putZeta_88 rfl rfl ?_
    refine aw_get (pc' := 92) d_M_putZeta_89 rfl fl_M_86 hM_0 rfl ?_
    refine aw_iadd (pc' := 93) d_M_putZeta_92 rfl ?_
    obtain ⟨r3, hr3, hf⟩ := aw_bind hf
    refine aw_callVn (pc' := 96) (av := [.int (l1 + (1 : Int32)), .int ((l2 * (r1.1 108 0)) + (r1.1 108 0))]) d_M_putZeta_93 rfl wc_M_82 hM_0 (mM_putNumber hr3) (Or.inl rfl) rfl (by decide) (Nat.le_of_ble_eq_true rfl) ⟨(Nat.le_refl 0), (Nat.le_refl 0)⟩ ?_
    exact aw_weak [false, false, false, false] rfl (wM_putZeta_96 _ hf)
  · replace hf := aw_ifn c2 hf
    refine aw_aload_n (pc' := 54) d_M_putZeta_53 rfl rfl ?_
    refine aw_iload_n (pc' := 55) d_M_putZeta_54 rfl rfl ?_
    refine aw_iconst (pc' := 56) d_M_putZeta_55 rfl kc_ic_1 ?_
    refine aw_iadd (pc' := 57) d_M_putZeta_56 rfl ?_
    refine aw_iload_n (pc' := 58) d_M_putZeta_57 rfl rfl ?_
    refine aw_isub (pc' := 59) d_M_putZeta_58 rfl ?_
    refine aw_iload_n (pc' := 60) d_M_putZeta_59 rfl rfl ?_
    refine aw_aload_n (pc' := 61) d_M_putZeta_60 rfl rfl ?_
    refine aw_get (pc' := 64) d_M_putZeta_61 rfl fl_M_86 hM_0 rfl ?_
    refine aw_imul (pc' := 65) d_M_putZeta_64 rfl ?_
    refine aw_aload_n (pc' := 66) d_M_putZeta_65 rfl rfl ?_
    refine aw_get (pc' := 69) d_M_putZeta_66 rfl fl_M_86 hM_0 rfl ?_
    refine aw_iadd (pc' := 70) d_M_putZeta_69 rfl ?_
    refine aw_iconst (pc' := 71) d_M_putZeta_70 rfl kc_ic_1 ?_
    refine aw_isub (pc' := 72) d_M_putZeta_71 rfl ?_
    obtain ⟨r4, hr4, hf⟩ := aw_bind hf
    refine aw_callVn (pc' := 75) (av := [.int ((l1 + (1 : Int32)) - ((1 : Int32) <<< ((l2 * (r1.1 108 0)) &&& 31))), .int (((l2 * (r1.1 108 0)) + (r1.1 108 0)) - (1 : Int32))]) d_M_putZeta_72 rfl wc_M_82 hM_0 (mM_putNumber hr4) (Or.inl rfl) rfl (by decide) (Nat.le_of_ble_eq_true rfl) ⟨(Nat.le_refl 0), (Nat.le_refl 0)⟩ ?_
    refine aw_goto (tgt := 96) d_M_putZeta_75 (by decide) ?_
    exact aw_weak [false, false, false, false] rfl (wM_putZeta_96 _ hf)
set_option maxRecDepth 20000 in
theorem wM_putZeta_2b {N : Nat} {r0 : me_M} {k2 : Int32 → Int32 → me_M → Option me_M} (hk2 : ∀ (l1 : Int32) (l2 : Int32) (μ : me_M), k2 l1 l2 μ = some r0 → AW "ArcTapeModel" "putZeta" c_M_putZeta 4 none 2 0 0 0 (aw_is none (hM  r0)) 2 [some (.ref 0), some (.int l1), some (.int l2), none] [] (hM  μ) 0 0) (l1 : Int32) (l2 : Int32) (μ : me_M) (hf : fM_putZeta_2b N k2 l1 l2 μ = some r0) : AW "ArcTapeModel" "putZeta" c_M_putZeta 4 none 2 0 0 0 (aw_is none (hM  r0)) 2 [some (.ref 0), some (.int l1), some (.int l2), none] [] (hM  μ) 0 0 := by
  unfold fM_putZeta_2b at hf
  refine aw_iload_n (pc' := 3) d_M_putZeta_2 rfl rfl ?_
  refine aw_bipush (pc' := 5) d_M_putZeta_3 rfl kc_bi_6 ?_
  refine aw_icmp_ge (tgt := 30) (pc' := 8) d_M_putZeta_5 (by decide) rfl (fun c5 => ?_) (fun c5 => ?_)
  · replace hf := aw_ifp c5 hf
    exact aw_weak [true, true, true, false] rfl (wM_putZeta_30 _ _ _ hf)
  · replace hf := aw_ifn c5 hf
    refine aw_iconst (pc' := 9) d_M_putZeta_8 rfl kc_ic_1 ?_
    refine aw_iload_n (pc' := 10) d_M_putZeta_9 rfl rfl ?_
    refine aw_iconst (pc' := 11) d_M_putZeta_10 rfl kc_ic_1 ?_
    refine aw_iadd (pc' := 12) d_M_putZeta_11 rfl ?_
    refine aw_aload_n (pc' := 13) d_M_putZeta_12 rfl rfl ?_
    refine aw_get (pc' := 16) d_M_putZeta_13 rfl fl_M_86 hM_0 rfl ?_
    refine aw_imul (pc' := 17) d_M_putZeta_16 rfl ?_
    refine aw_ishl (pc' := 18) d_M_putZeta_17 rfl ?_
    refine aw_iload_n (pc' := 19) d_M_putZeta_18 rfl rfl ?_
    refine aw_iconst (pc' := 20) d_M_putZeta_19 rfl kc_ic_1 ?_
    refine aw_iadd (pc' := 21) d_M_putZeta_20 rfl ?_
    refine aw_icmp_gt (tgt := 30) (pc' := 24) d_M_putZeta_21 (by decide) rfl (fun c6 => ?_) (fun c6 => ?_)
    · replace hf := aw_ifp c6 hf
      exact aw_weak [true, true, true, false] rfl (wM_putZeta_30 _ _ _ hf)
    · replace hf := aw_ifn c6 hf
      refine aw_iinc (pc' := 27) (L' := [some (.ref 0), some (.int l1), some (.int (l2 + (1 : Int32))), none]) d_M_putZeta_24 rfl kc_ic_1 rfl (by decide) rfl ?_
      refine aw_goto (tgt := 2) d_M_putZeta_27 (by decide) ?_
      exact aw_weak [true, true, true, false] rfl (hk2 _ _ _ hf)
set_option maxRecDepth 20000 in
theorem wM_putZeta_2 {N : Nat} {r0 : me_M} : ∀ (F : Nat) (l1 : Int32) (l2 : Int32) (μ : me_M) (hf : fM_putZeta_2 N F l1 l2 μ = some r0), AW "ArcTapeModel" "putZeta" c_M_putZeta 4 none 2 0 0 0 (aw_is none (hM  r0)) 2 [some (.ref 0), some (.int l1), some (.int l2), none] [] (hM  μ) 0 0 := by
  intro F
  induction F with
  | zero => intro l1 l2 μ hf; exact aw_no hf
  | succ F ih => intro l1 l2 μ hf; exact wM_putZeta_2b ih l1 l2 μ hf
set_option maxRecDepth 20000 in
theorem mM_putZeta {N : Nat} {μ : me_M} {r0 : me_M} {l1 : Int32} (hf : fM_putZeta N l1 μ = some r0) : AM y_M_putZeta c_M_putZeta 4 none 2 0 0 0 [.ref 0, .int l1] (hM  μ) (aw_is none (hM  r0)) := by
  unfold fM_putZeta at hf
  refine AM.of (own := "ArcTapeModel") (nm := "putZeta") (L := [some (.ref 0), some (.int l1), none, none]) rfl rfl (by decide) (Nat.le_of_ble_eq_true rfl) rfl ?_
  refine aw_iconst (pc' := 1) d_M_putZeta_0 rfl kc_ic_0 ?_
  refine aw_istore_n (pc' := 2) (L' := [some (.ref 0), some (.int l1), some (.int (0 : Int32)), none]) d_M_putZeta_1 rfl (by decide) rfl ?_
  exact aw_weak [true, true, true, false] rfl (wM_putZeta_2 _ _ _ _ hf)
set_option maxRecDepth 20000 in
theorem wM_putRest_220 {N : Nat} {r0 : me_M} (μ : me_M) (hf : fM_putRest_220 N μ = some r0) : AW "ArcTapeModel" "putRest" c_M_putRest 8 none 3 0 0 0 (aw_is none (hM  r0)) 220 [none, none, none, none, none, none, none, none] [] (hM  μ) 0 0 := by
  unfold fM_putRest_220 at hf
  cases hf
  exact aw_return rfl d_M_putRest_220 (Nat.le_refl 0) (Nat.le_refl 0) ⟨rfl, rfl⟩
set_option maxRecDepth 20000 in
theorem wM_putRest_214 {N : Nat} {r0 : me_M} {k165 : Int32 → Int32 → Int32 → Int32 → me_M → Option me_M} (hk165 : ∀ (l1 : Int32) (l3 : Int32) (l4 : Int32) (l5 : Int32) (μ : me_M), k165 l1 l3 l4 l5 μ = some r0 → AW "ArcTapeModel" "putRest" c_M_putRest 8 none 3 0 0 0 (aw_is none (hM  r0)) 165 [some (.ref 0), some (.int l1), none, some (.int l3), some (.int l4), some (.int l5), none, none] [] (hM  μ) 0 0) (l1 : Int32) (l3 : Int32) (l4 : Int32) (l5 : Int32) (μ : me_M) (hf : fM_putRest_214 N k165 l1 l3 l4 l5 μ = some r0) : AW "ArcTapeModel" "putRest" c_M_putRest 8 none 3 0 0 0 (aw_is none (hM  r0)) 214 [some (.ref 0), some (.int l1), none, some (.int l3), some (.int l4), some (.int l5), none, none] [] (hM  μ) 0 0 := by
  unfold fM_putRest_214 at hf
  refine aw_iinc (pc' := 217) (L' := [some (.ref 0), some (.int l1), none, some (.int l3), some (.int l4), some (.int (l5 + (1 : Int32))), none, none]) d_M_putRest_214 rfl kc_ic_1 rfl (by decide) rfl ?_
  refine aw_goto (tgt := 165) d_M_putRest_217 (by decide) ?_
  exact aw_weak [true, true, false, true, true, true, false, false] rfl (hk165 _ _ _ _ _ hf)
set_option maxRecDepth 20000 in
theorem wM_putRest_207 {N : Nat} {r0 : me_M} {k165 : Int32 → Int32 → Int32 → Int32 → me_M → Option me_M} (hk165 : ∀ (l1 : Int32) (l3 : Int32) (l4 : Int32) (l5 : Int32) (μ : me_M), k165 l1 l3 l4 l5 μ = some r0 → AW "ArcTapeModel" "putRest" c_M_putRest 8 none 3 0 0 0 (aw_is none (hM  r0)) 165 [some (.ref 0), some (.int l1), none, some (.int l3), some (.int l4), some (.int l5), none, none] [] (hM  μ) 0 0) (l1 : Int32) (l3 : Int32) (l5 : Int32) (s1 : Int32) (μ : me_M) (hf : fM_putRest_207 N k165 l1 l3 l5 s1 μ = some r0) : AW "ArcTapeModel" "putRest" c_M_putRest 8 none 3 0 0 0 (aw_is none (hM  r0)) 207 [some (.ref 0), some (.int l1), none, some (.int l3), none, some (.int l5), none, none] [.int s1, .ref 0] (hM  μ) 0 0 := by
  unfold fM_putRest_207 at hf
  obtain ⟨r1, hr1, hf⟩ := aw_bind hf
  refine aw_callVn (pc' := 210) (av := [.int s1]) d_M_putRest_207 rfl wc_M_103 hM_0 (mM_putZeta hr1) (Or.inl rfl) rfl (by decide) (Nat.le_of_ble_eq_true rfl) ⟨(Nat.le_refl 0), (Nat.le_refl 0)⟩ ?_
  refine aw_iload (pc' := 212) d_M_putRest_210 rfl rfl ?_
  refine aw_istore (pc' := 214) (L' := [some (.ref 0), some (.int l1), none, some (.int l3), some (.int l5), some (.int l5), none, none]) d_M_putRest_212 rfl (by decide) rfl ?_
  exact aw_weak [true, true, false, true, true, true, false, false] rfl (wM_putRest_214 hk165 _ _ _ _ _ hf)
set_option maxRecDepth 20000 in
theorem wM_putRest_165b {N : Nat} {r0 : me_M} {k165 : Int32 → Int32 → Int32 → Int32 → me_M → Option me_M} (hk165 : ∀ (l1 : Int32) (l3 : Int32) (l4 : Int32) (l5 : Int32) (μ : me_M), k165 l1 l3 l4 l5 μ = some r0 → AW "ArcTapeModel" "putRest" c_M_putRest 8 none 3 0 0 0 (aw_is none (hM  r0)) 165 [some (.ref 0), some (.int l1), none, some (.int l3), some (.int l4), some (.int l5), none, none] [] (hM  μ) 0 0) (l1 : Int32) (l3 : Int32) (l4 : Int32) (l5 : Int32) (μ : me_M) (hf : fM_putRest_165b N k165 l1 l3 l4 l5 μ = some r0) : AW "ArcTapeModel" "putRest" c_M_putRest 8 none 3 0 0 0 (aw_is none (hM  r0)) 165 [some (.ref 0), some (.int l1), none, some (.int l3), some (.int l4), some (.int l5), none, none] [] (hM  μ) 0 0 := by
  unfold fM_putRest_165b at hf
  refine aw_iload (pc' := 167) d_M_putRest_165 rfl rfl ?_
  refine aw_aload_n (pc' := 168) d_M_putRest_167 rfl rfl ?_
  refine aw_get (pc' := 171) d_M_putRest_168 rfl fl_M_56 hM_0 rfl ?_
  refine aw_icmp_ge (tgt := 220) (pc' := 174) d_M_putRest_171 (by decide) rfl (fun c2 => ?_) (fun c2 => ?_)
  · replace hf := aw_ifp c2 hf
    exact aw_weak [false, false, false, false, false, false, false, false] rfl (wM_putRest_220 _ hf)
  · replace hf := aw_ifn c2 hf
    refine aw_iload_n (pc' := 175) d_M_putRest_174 rfl rfl ?_
    refine aw_iload (pc' := 177) d_M_putRest_175 rfl rfl ?_
    refine aw_ishr (pc' := 178) d_M_putRest_177 rfl ?_
    refine aw_iconst (pc' := 179) d_M_putRest_178 rfl kc_ic_1 ?_
    refine aw_iand (pc' := 180) d_M_putRest_179 rfl ?_
    refine aw_iconst (pc' := 181) d_M_putRest_180 rfl kc_ic_1 ?_
    refine aw_icmp_ne (tgt := 214) (pc' := 184) d_M_putRest_181 (by decide) rfl (fun c3 => ?_) (fun c3 => ?_)
    · replace hf := aw_ifn c3 hf
      exact aw_weak [true, true, false, true, true, true, false, false] rfl (wM_putRest_214 hk165 _ _ _ _ _ hf)
    · replace hf := aw_ifp c3 hf
      refine aw_aload_n (pc' := 185) d_M_putRest_184 rfl rfl ?_
      refine aw_iload (pc' := 187) d_M_putRest_185 rfl rfl ?_
      refine aw_if_ge (tgt := 200) (pc' := 190) d_M_putRest_187 (by decide) rfl (fun c4 => ?_) (fun c4 => ?_)
      · replace hf := aw_ifp c4 hf
        refine aw_iload (pc' := 202) d_M_putRest_200 rfl rfl ?_
        refine aw_iload (pc' := 204) d_M_putRest_202 rfl rfl ?_
        refine aw_isub (pc' := 205) d_M_putRest_204 rfl ?_
        refine aw_iconst (pc' := 206) d_M_putRest_205 rfl kc_ic_1 ?_
        refine aw_isub (pc' := 207) d_M_putRest_206 rfl ?_
        exact aw_weak [true, true, false, true, false, true, false, false] rfl (wM_putRest_207 hk165 _ _ _ _ _ hf)
      · replace hf := aw_ifn c4 hf
        refine aw_iload (pc' := 192) d_M_putRest_190 rfl rfl ?_
        refine aw_iload_n (pc' := 193) d_M_putRest_192 rfl rfl ?_
        refine aw_isub (pc' := 194) d_M_putRest_193 rfl ?_
        obtain ⟨r5, hr5, hf⟩ := aw_bind hf
        refine aw_callSv (pc' := 197) (av := [.int (l5 - l1)]) d_M_putRest_194 rfl wc_M_99 (mM_natural hr5) (Or.inl rfl) rfl (by decide) (Nat.le_of_ble_eq_true rfl) ⟨(Nat.le_refl 0), (Nat.le_refl 0)⟩ ?_
        refine aw_goto (tgt := 207) d_M_putRest_197 (by decide) ?_
        exact aw_weak [true, true, false, true, false, true, false, false] rfl (wM_putRest_207 hk165 _ _ _ _ _ hf)
set_option maxRecDepth 20000 in
theorem wM_putRest_165 {N : Nat} {r0 : me_M} : ∀ (F : Nat) (l1 : Int32) (l3 : Int32) (l4 : Int32) (l5 : Int32) (μ : me_M) (hf : fM_putRest_165 N F l1 l3 l4 l5 μ = some r0), AW "ArcTapeModel" "putRest" c_M_putRest 8 none 3 0 0 0 (aw_is none (hM  r0)) 165 [some (.ref 0), some (.int l1), none, some (.int l3), some (.int l4), some (.int l5), none, none] [] (hM  μ) 0 0 := by
  intro F
  induction F with
  | zero => intro l1 l3 l4 l5 μ hf; exact aw_no hf
  | succ F ih => intro l1 l3 l4 l5 μ hf; exact wM_putRest_165b ih l1 l3 l4 l5 μ hf
set_option maxRecDepth 20000 in
theorem wM_putRest_159 {N : Nat} {r0 : me_M} (l1 : Int32) (l3 : Int32) (μ : me_M) (hf : fM_putRest_159 N l1 l3 μ = some r0) : AW "ArcTapeModel" "putRest" c_M_putRest 8 none 3 0 0 0 (aw_is none (hM  r0)) 159 [some (.ref 0), some (.int l1), none, some (.int l3), none, none, none, none] [] (hM  μ) 0 0 := by
  unfold fM_putRest_159 at hf
  refine aw_iconst (pc' := 160) d_M_putRest_159 rfl kc_ic_m1 ?_
  refine aw_istore (pc' := 162) (L' := [some (.ref 0), some (.int l1), none, some (.int l3), some (.int (-1 : Int32)), none, none, none]) d_M_putRest_160 rfl (by decide) rfl ?_
  refine aw_iconst (pc' := 163) d_M_putRest_162 rfl kc_ic_0 ?_
  refine aw_istore (pc' := 165) (L' := [some (.ref 0), some (.int l1), none, some (.int l3), some (.int (-1 : Int32)), some (.int (0 : Int32)), none, none]) d_M_putRest_163 rfl (by decide) rfl ?_
  exact aw_weak [true, true, false, true, true, true, false, false] rfl (wM_putRest_165 _ _ _ _ _ _ hf)
set_option maxRecDepth 20000 in
theorem wM_putRest_153 {N : Nat} {r0 : me_M} {k66 : Int32 → Int32 → Int32 → Int32 → Int32 → me_M → Option me_M} (hk66 : ∀ (l1 : Int32) (l2 : Int32) (l3 : Int32) (l5 : Int32) (l6 : Int32) (μ : me_M), k66 l1 l2 l3 l5 l6 μ = some r0 → AW "ArcTapeModel" "putRest" c_M_putRest 8 none 3 0 0 0 (aw_is none (hM  r0)) 66 [some (.ref 0), some (.int l1), some (.int l2), some (.int l3), none, some (.int l5), some (.int l6), none] [] (hM  μ) 0 0) (l1 : Int32) (l2 : Int32) (l3 : Int32) (l5 : Int32) (l6 : Int32) (μ : me_M) (hf : fM_putRest_153 N k66 l1 l2 l3 l5 l6 μ = some r0) : AW "ArcTapeModel" "putRest" c_M_putRest 8 none 3 0 0 0 (aw_is none (hM  r0)) 153 [some (.ref 0), some (.int l1), some (.int l2), some (.int l3), none, some (.int l5), some (.int l6), none] [] (hM  μ) 0 0 := by
  unfold fM_putRest_153 at hf
  refine aw_iinc (pc' := 156) (L' := [some (.ref 0), some (.int l1), some (.int l2), some (.int l3), none, some (.int l5), some (.int (l6 + (1 : Int32))), none]) d_M_putRest_153 rfl kc_ic_1 rfl (by decide) rfl ?_
  refine aw_goto (tgt := 66) d_M_putRest_156 (by decide) ?_
  exact aw_weak [true, true, true, true, false, true, true, false] rfl (hk66 _ _ _ _ _ _ hf)
set_option maxRecDepth 20000 in
theorem wM_putRest_116 {N : Nat} {r0 : me_M} {k66 : Int32 → Int32 → Int32 → Int32 → Int32 → me_M → Option me_M} (hk66 : ∀ (l1 : Int32) (l2 : Int32) (l3 : Int32) (l5 : Int32) (l6 : Int32) (μ : me_M), k66 l1 l2 l3 l5 l6 μ = some r0 → AW "ArcTapeModel" "putRest" c_M_putRest 8 none 3 0 0 0 (aw_is none (hM  r0)) 66 [some (.ref 0), some (.int l1), some (.int l2), some (.int l3), none, some (.int l5), some (.int l6), none] [] (hM  μ) 0 0) (l1 : Int32) (l2 : Int32) (l3 : Int32) (l6 : Int32) (l7 : Int32) (s1 : Int32) (μ : me_M) (hf : fM_putRest_116 N k66 l1 l2 l3 l6 l7 s1 μ = some r0) : AW "ArcTapeModel" "putRest" c_M_putRest 8 none 3 0 0 0 (aw_is none (hM  r0)) 116 [some (.ref 0), some (.int l1), some (.int l2), some (.int l3), none, none, some (.int l6), some (.int l7)] [.int s1, .ref 0] (hM  μ) 0 0 := by
  unfold fM_putRest_116 at hf
  obtain ⟨r6, hr6, hf⟩ := aw_bind hf
  refine aw_callVn (pc' := 119) (av := [.int s1]) d_M_putRest_116 rfl wc_M_89 hM_0 (mM_putGamma hr6) (Or.inl rfl) rfl (by decide) (Nat.le_of_ble_eq_true rfl) ⟨(Nat.le_refl 0), (Nat.le_refl 0)⟩ ?_
  refine aw_aload_n (pc' := 120) d_M_putRest_119 rfl rfl ?_
  refine aw_iload (pc' := 122) d_M_putRest_120 rfl rfl ?_
  refine aw_aload_n (pc' := 123) d_M_putRest_122 rfl rfl ?_
  refine aw_get (pc' := 126) d_M_putRest_123 rfl fl_M_92 hM_0 rfl ?_
  refine aw_isub (pc' := 127) d_M_putRest_126 rfl ?_
  obtain ⟨r7, hr7, hf⟩ := aw_bind hf
  refine aw_callVn (pc' := 130) (av := [.int (l7 - (r6.1 107 0))]) d_M_putRest_127 rfl wc_M_89 hM_0 (mM_putGamma hr7) (Or.inl rfl) rfl (by decide) (Nat.le_of_ble_eq_true rfl) ⟨(Nat.le_refl 0), (Nat.le_refl 0)⟩ ?_
  refine aw_iload (pc' := 132) d_M_putRest_130 rfl rfl ?_
  refine aw_iload (pc' := 134) d_M_putRest_132 rfl rfl ?_
  refine aw_iadd (pc' := 135) d_M_putRest_134 rfl ?_
  refine aw_iconst (pc' := 136) d_M_putRest_135 rfl kc_ic_1 ?_
  refine aw_isub (pc' := 137) d_M_putRest_136 rfl ?_
  refine aw_istore (pc' := 139) (L' := [some (.ref 0), some (.int l1), some (.int l2), some (.int l3), none, some (.int ((l6 + l7) - (1 : Int32))), some (.int l6), some (.int l7)]) d_M_putRest_137 rfl (by decide) rfl ?_
  refine aw_iload_n (pc' := 140) d_M_putRest_139 rfl rfl ?_
  refine aw_iconst (pc' := 141) d_M_putRest_140 rfl kc_ic_1 ?_
  refine aw_iload (pc' := 143) d_M_putRest_141 rfl rfl ?_
  refine aw_ishl (pc' := 144) d_M_putRest_143 rfl ?_
  refine aw_iconst (pc' := 145) d_M_putRest_144 rfl kc_ic_1 ?_
  refine aw_isub (pc' := 146) d_M_putRest_145 rfl ?_
  refine aw_iload (pc' := 148) d_M_putRest_146 rfl rfl ?_
  refine aw_ishl (pc' := 149) d_M_putRest_148 rfl ?_
  refine aw_iconst (pc' := 150) d_M_putRest_149 rfl kc_ic_m1 ?_
  refine aw_ixor (pc' := 151) d_M_putRest_150 rfl ?_
  refine aw_iand (pc' := 152) d_M_putRest_151 rfl ?_
  refine aw_istore_n (pc' := 153) (L' := [some (.ref 0), some (.int l1), some (.int l2), some (.int (l3 &&& (((((1 : Int32) <<< (l7 &&& 31)) - (1 : Int32)) <<< (l6 &&& 31)) ^^^ (-1 : Int32)))), none, some (.int ((l6 + l7) - (1 : Int32))), some (.int l6), some (.int l7)]) d_M_putRest_152 rfl (by decide) rfl ?_
  exact aw_weak [true, true, true, true, false, true, true, false] rfl (wM_putRest_153 hk66 _ _ _ _ _ _ hf)
set_option maxRecDepth 20000 in
theorem wM_putRest_66b {N : Nat} {r0 : me_M} {k66 : Int32 → Int32 → Int32 → Int32 → Int32 → me_M → Option me_M} (hk66 : ∀ (l1 : Int32) (l2 : Int32) (l3 : Int32) (l5 : Int32) (l6 : Int32) (μ : me_M), k66 l1 l2 l3 l5 l6 μ = some r0 → AW "ArcTapeModel" "putRest" c_M_putRest 8 none 3 0 0 0 (aw_is none (hM  r0)) 66 [some (.ref 0), some (.int l1), some (.int l2), some (.int l3), none, some (.int l5), some (.int l6), none] [] (hM  μ) 0 0) (l1 : Int32) (l2 : Int32) (l3 : Int32) (l5 : Int32) (l6 : Int32) (μ : me_M) (hf : fM_putRest_66b N k66 l1 l2 l3 l5 l6 μ = some r0) : AW "ArcTapeModel" "putRest" c_M_putRest 8 none 3 0 0 0 (aw_is none (hM  r0)) 66 [some (.ref 0), some (.int l1), some (.int l2), some (.int l3), none, some (.int l5), some (.int l6), none] [] (hM  μ) 0 0 := by
  unfold fM_putRest_66b at hf
  refine aw_iload (pc' := 68) d_M_putRest_66 rfl rfl ?_
  refine aw_aload_n (pc' := 69) d_M_putRest_68 rfl rfl ?_
  refine aw_get (pc' := 72) d_M_putRest_69 rfl fl_M_56 hM_0 rfl ?_
  refine aw_icmp_ge (tgt := 159) (pc' := 75) d_M_putRest_72 (by decide) rfl (fun c8 => ?_) (fun c8 => ?_)
  · replace hf := aw_ifp c8 hf
    exact aw_weak [true, true, false, true, false, false, false, false] rfl (wM_putRest_159 _ _ _ hf)
  · replace hf := aw_ifn c8 hf
    refine aw_aload_n (pc' := 76) d_M_putRest_75 rfl rfl ?_
    refine aw_iload_n (pc' := 77) d_M_putRest_76 rfl rfl ?_
    refine aw_iload (pc' := 79) d_M_putRest_77 rfl rfl ?_
    obtain ⟨r9, hr9, hf⟩ := aw_bind hf
    refine aw_callVv (pc' := 82) (av := [.int l2, .int l6]) d_M_putRest_79 rfl wc_M_95 hM_0 (mM_rowAt hr9) (Or.inl rfl) rfl (by decide) (Nat.le_of_ble_eq_true rfl) ⟨(Nat.le_refl 0), (Nat.le_refl 0)⟩ ?_
    refine aw_istore (pc' := 84) (L' := [some (.ref 0), some (.int l1), some (.int l2), some (.int l3), none, some (.int l5), some (.int l6), some (.int r9)]) d_M_putRest_82 rfl (by decide) rfl ?_
    refine aw_iload (pc' := 86) d_M_putRest_84 rfl rfl ?_
    refine aw_aload_n (pc' := 87) d_M_putRest_86 rfl rfl ?_
    refine aw_get (pc' := 90) d_M_putRest_87 rfl fl_M_92 hM_0 rfl ?_
    refine aw_icmp_lt (tgt := 153) (pc' := 93) d_M_putRest_90 (by decide) rfl (fun c10 => ?_) (fun c10 => ?_)
    · replace hf := aw_ifp c10 hf
      exact aw_weak [true, true, true, true, false, true, true, false] rfl (wM_putRest_153 hk66 _ _ _ _ _ _ hf)
    · replace hf := aw_ifn c10 hf
      refine aw_aload_n (pc' := 94) d_M_putRest_93 rfl rfl ?_
      refine aw_iload (pc' := 96) d_M_putRest_94 rfl rfl ?_
      refine aw_if_ge (tgt := 109) (pc' := 99) d_M_putRest_96 (by decide) rfl (fun c11 => ?_) (fun c11 => ?_)
      · replace hf := aw_ifp c11 hf
        refine aw_iload (pc' := 111) d_M_putRest_109 rfl rfl ?_
        refine aw_iload (pc' := 113) d_M_putRest_111 rfl rfl ?_
        refine aw_isub (pc' := 114) d_M_putRest_113 rfl ?_
        refine aw_iconst (pc' := 115) d_M_putRest_114 rfl kc_ic_2 ?_
        refine aw_isub (pc' := 116) d_M_putRest_115 rfl ?_
        exact aw_weak [true, true, true, true, false, false, true, true] rfl (wM_putRest_116 hk66 _ _ _ _ _ _ _ hf)
      · replace hf := aw_ifn c11 hf
        refine aw_iload (pc' := 101) d_M_putRest_99 rfl rfl ?_
        refine aw_iload_n (pc' := 102) d_M_putRest_101 rfl rfl ?_
        refine aw_isub (pc' := 103) d_M_putRest_102 rfl ?_
        obtain ⟨r12, hr12, hf⟩ := aw_bind hf
        refine aw_callSv (pc' := 106) (av := [.int (l6 - l1)]) d_M_putRest_103 rfl wc_M_99 (mM_natural hr12) (Or.inl rfl) rfl (by decide) (Nat.le_of_ble_eq_true rfl) ⟨(Nat.le_refl 0), (Nat.le_refl 0)⟩ ?_
        refine aw_goto (tgt := 116) d_M_putRest_106 (by decide) ?_
        exact aw_weak [true, true, true, true, false, false, true, true] rfl (wM_putRest_116 hk66 _ _ _ _ _ _ _ hf)
set_option maxRecDepth 20000 in
theorem wM_putRest_66 {N : Nat} {r0 : me_M} : ∀ (F : Nat) (l1 : Int32) (l2 : Int32) (l3 : Int32) (l5 : Int32) (l6 : Int32) (μ : me_M) (hf : fM_putRest_66 N F l1 l2 l3 l5 l6 μ = some r0), AW "ArcTapeModel" "putRest" c_M_putRest 8 none 3 0 0 0 (aw_is none (hM  r0)) 66 [some (.ref 0), some (.int l1), some (.int l2), some (.int l3), none, some (.int l5), some (.int l6), none] [] (hM  μ) 0 0 := by
  intro F
  induction F with
  | zero => intro l1 l2 l3 l5 l6 μ hf; exact aw_no hf
  | succ F ih => intro l1 l2 l3 l5 l6 μ hf; exact wM_putRest_66b ih l1 l2 l3 l5 l6 μ hf
set_option maxRecDepth 20000 in
theorem wM_putRest_54 {N : Nat} {r0 : me_M} (l1 : Int32) (l2 : Int32) (l3 : Int32) (l4 : Int32) (μ : me_M) (hf : fM_putRest_54 N l1 l2 l3 l4 μ = some r0) : AW "ArcTapeModel" "putRest" c_M_putRest 8 none 3 0 0 0 (aw_is none (hM  r0)) 54 [some (.ref 0), some (.int l1), some (.int l2), some (.int l3), some (.int l4), none, none, none] [] (hM  μ) 0 0 := by
  unfold fM_putRest_54 at hf
  refine aw_aload_n (pc' := 55) d_M_putRest_54 rfl rfl ?_
  refine aw_iload (pc' := 57) d_M_putRest_55 rfl rfl ?_
  obtain ⟨r13, hr13, hf⟩ := aw_bind hf
  refine aw_callVn (pc' := 60) (av := [.int l4]) d_M_putRest_57 rfl wc_M_89 hM_0 (mM_putGamma hr13) (Or.inl rfl) rfl (by decide) (Nat.le_of_ble_eq_true rfl) ⟨(Nat.le_refl 0), (Nat.le_refl 0)⟩ ?_
  refine aw_iconst (pc' := 61) d_M_putRest_60 rfl kc_ic_m1 ?_
  refine aw_istore (pc' := 63) (L' := [some (.ref 0), some (.int l1), some (.int l2), some (.int l3), some (.int l4), some (.int (-1 : Int32)), none, none]) d_M_putRest_61 rfl (by decide) rfl ?_
  refine aw_iconst (pc' := 64) d_M_putRest_63 rfl kc_ic_0 ?_
  refine aw_istore (pc' := 66) (L' := [some (.ref 0), some (.int l1), some (.int l2), some (.int l3), some (.int l4), some (.int (-1 : Int32)), some (.int (0 : Int32)), none]) d_M_putRest_64 rfl (by decide) rfl ?_
  exact aw_weak [true, true, true, true, false, true, true, false] rfl (wM_putRest_66 _ _ _ _ _ _ _ hf)
set_option maxRecDepth 20000 in
theorem wM_putRest_45 {N : Nat} {r0 : me_M} {k15 : Int32 → Int32 → Int32 → Int32 → Int32 → me_M → Option me_M} (hk15 : ∀ (l1 : Int32) (l2 : Int32) (l3 : Int32) (l4 : Int32) (l5 : Int32) (μ : me_M), k15 l1 l2 l3 l4 l5 μ = some r0 → AW "ArcTapeModel" "putRest" c_M_putRest 8 none 3 0 0 0 (aw_is none (hM  r0)) 15 [some (.ref 0), some (.int l1), some (.int l2), some (.int l3), some (.int l4), some (.int l5), none, none] [] (hM  μ) 0 0) (l1 : Int32) (l2 : Int32) (l3 : Int32) (l5 : Int32) (s0 : Int32) (s1 : Int32) (μ : me_M) (hf : fM_putRest_45 N k15 l1 l2 l3 l5 s0 s1 μ = some r0) : AW "ArcTapeModel" "putRest" c_M_putRest 8 none 3 0 0 0 (aw_is none (hM  r0)) 45 [some (.ref 0), some (.int l1), some (.int l2), some (.int l3), none, some (.int l5), none, none] [.int s1, .int s0] (hM  μ) 0 0 := by
  unfold fM_putRest_45 at hf
  refine aw_iadd (pc' := 46) d_M_putRest_45 rfl ?_
  refine aw_istore (pc' := 48) (L' := [some (.ref 0), some (.int l1), some (.int l2), some (.int l3), some (.int (s0 + s1)), some (.int l5), none, none]) d_M_putRest_46 rfl (by decide) rfl ?_
  refine aw_iinc (pc' := 51) (L' := [some (.ref 0), some (.int l1), some (.int l2), some (.int l3), some (.int (s0 + s1)), some (.int (l5 + (1 : Int32))), none, none]) d_M_putRest_48 rfl kc_ic_1 rfl (by decide) rfl ?_
  refine aw_goto (tgt := 15) d_M_putRest_51 (by decide) ?_
  exact aw_weak [true, true, true, true, true, true, false, false] rfl (hk15 _ _ _ _ _ _ hf)
set_option maxRecDepth 20000 in
theorem wM_putRest_15b {N : Nat} {r0 : me_M} {k15 : Int32 → Int32 → Int32 → Int32 → Int32 → me_M → Option me_M} (hk15 : ∀ (l1 : Int32) (l2 : Int32) (l3 : Int32) (l4 : Int32) (l5 : Int32) (μ : me_M), k15 l1 l2 l3 l4 l5 μ = some r0 → AW "ArcTapeModel" "putRest" c_M_putRest 8 none 3 0 0 0 (aw_is none (hM  r0)) 15 [some (.ref 0), some (.int l1), some (.int l2), some (.int l3), some (.int l4), some (.int l5), none, none] [] (hM  μ) 0 0) (l1 : Int32) (l2 : Int32) (l3 : Int32) (l4 : Int32) (l5 : Int32) (μ : me_M) (hf : fM_putRest_15b N k15 l1 l2 l3 l4 l5 μ = some r0) : AW "ArcTapeModel" "putRest" c_M_putRest 8 none 3 0 0 0 (aw_is none (hM  r0)) 15 [some (.ref 0), some (.int l1), some (.int l2), some (.int l3), some (.int l4), some (.int l5), none, none] [] (hM  μ) 0 0 := by
  unfold fM_putRest_15b at hf
  refine aw_iload (pc' := 17) d_M_putRest_15 rfl rfl ?_
  refine aw_aload_n (pc' := 18) d_M_putRest_17 rfl rfl ?_
  refine aw_get (pc' := 21) d_M_putRest_18 rfl fl_M_56 hM_0 rfl ?_
  refine aw_icmp_ge (tgt := 54) (pc' := 24) d_M_putRest_21 (by decide) rfl (fun c14 => ?_) (fun c14 => ?_)
  · replace hf := aw_ifp c14 hf
    exact aw_weak [true, true, true, true, true, false, false, false] rfl (wM_putRest_54 _ _ _ _ _ hf)
  · replace hf := aw_ifn c14 hf
    refine aw_iload (pc' := 26) d_M_putRest_24 rfl rfl ?_
    refine aw_aload_n (pc' := 27) d_M_putRest_26 rfl rfl ?_
    refine aw_iload_n (pc' := 28) d_M_putRest_27 rfl rfl ?_
    refine aw_iload (pc' := 30) d_M_putRest_28 rfl rfl ?_
    obtain ⟨r15, hr15, hf⟩ := aw_bind hf
    refine aw_callVv (pc' := 33) (av := [.int l2, .int l5]) d_M_putRest_30 rfl wc_M_95 hM_0 (mM_rowAt hr15) (Or.inl rfl) rfl (by decide) (Nat.le_of_ble_eq_true rfl) ⟨(Nat.le_refl 0), (Nat.le_refl 0)⟩ ?_
    refine aw_aload_n (pc' := 34) d_M_putRest_33 rfl rfl ?_
    refine aw_get (pc' := 37) d_M_putRest_34 rfl fl_M_92 hM_0 rfl ?_
    refine aw_icmp_lt (tgt := 44) (pc' := 40) d_M_putRest_37 (by decide) rfl (fun c16 => ?_) (fun c16 => ?_)
    · replace hf := aw_ifp c16 hf
      refine aw_iconst (pc' := 45) d_M_putRest_44 rfl kc_ic_0 ?_
      exact aw_weak [true, true, true, true, false, true, false, false] rfl (wM_putRest_45 hk15 _ _ _ _ _ _ _ hf)
    · replace hf := aw_ifn c16 hf
      refine aw_iconst (pc' := 41) d_M_putRest_40 rfl kc_ic_1 ?_
      refine aw_goto (tgt := 45) d_M_putRest_41 (by decide) ?_
      exact aw_weak [true, true, true, true, false, true, false, false] rfl (wM_putRest_45 hk15 _ _ _ _ _ _ _ hf)
set_option maxRecDepth 20000 in
theorem wM_putRest_15 {N : Nat} {r0 : me_M} : ∀ (F : Nat) (l1 : Int32) (l2 : Int32) (l3 : Int32) (l4 : Int32) (l5 : Int32) (μ : me_M) (hf : fM_putRest_15 N F l1 l2 l3 l4 l5 μ = some r0), AW "ArcTapeModel" "putRest" c_M_putRest 8 none 3 0 0 0 (aw_is none (hM  r0)) 15 [some (.ref 0), some (.int l1), some (.int l2), some (.int l3), some (.int l4), some (.int l5), none, none] [] (hM  μ) 0 0 := by
  intro F
  induction F with
  | zero => intro l1 l2 l3 l4 l5 μ hf; exact aw_no hf
  | succ F ih => intro l1 l2 l3 l4 l5 μ hf; exact wM_putRest_15b ih l1 l2 l3 l4 l5 μ hf
set_option maxRecDepth 20000 in
theorem mM_putRest {N : Nat} {μ : me_M} {r0 : me_M} {l1 : Int32} {l2 : Int32} (hf : fM_putRest N l1 l2 μ = some r0) : AM y_M_putRest c_M_putRest 8 none 3 0 0 0 [.ref 0, .int l1, .int l2] (hM  μ) (aw_is none (hM  r0)) := by
  unfold fM_putRest at hf
  refine AM.of (own := "ArcTapeModel") (nm := "putRest") (L := [some (.ref 0), some (.int l1), some (.int l2), none, none, none, none, none]) rfl rfl (by decide) (Nat.le_of_ble_eq_true rfl) rfl ?_
  refine aw_iload_n (pc' := 1) d_M_putRest_0 rfl rfl ?_
  refine aw_istore_n (pc' := 2) (L' := [some (.ref 0), some (.int l1), some (.int l2), some (.int l2), none, none, none, none]) d_M_putRest_1 rfl (by decide) rfl ?_
  refine aw_aload_n (pc' := 3) d_M_putRest_2 rfl rfl ?_
  refine aw_get (pc' := 6) d_M_putRest_3 rfl fl_M_92 hM_0 rfl ?_
  refine aw_if_le (tgt := 159) (pc' := 9) d_M_putRest_6 (by decide) rfl (fun c17 => ?_) (fun c17 => ?_)
  · replace hf := aw_ifp c17 hf
    exact aw_weak [true, true, false, true, false, false, false, false] rfl (wM_putRest_159 _ _ _ hf)
  · replace hf := aw_ifn c17 hf
    refine aw_iconst (pc' := 10) d_M_putRest_9 rfl kc_ic_0 ?_
    refine aw_istore (pc' := 12) (L' := [some (.ref 0), some (.int l1), some (.int l2), some (.int l2), some (.int (0 : Int32)), none, none, none]) d_M_putRest_10 rfl (by decide) rfl ?_
    refine aw_iconst (pc' := 13) d_M_putRest_12 rfl kc_ic_0 ?_
    refine aw_istore (pc' := 15) (L' := [some (.ref 0), some (.int l1), some (.int l2), some (.int l2), some (.int (0 : Int32)), some (.int (0 : Int32)), none, none]) d_M_putRest_13 rfl (by decide) rfl ?_
    exact aw_weak [true, true, true, true, true, true, false, false] rfl (wM_putRest_15 _ _ _ _ _ _ _ hf)
set_option maxRecDepth 20000 in
theorem wM_putRecord_78 {N : Nat} {r0 : me_M} (μ : me_M) (hf : fM_putRecord_78 N μ = some r0) : AW "ArcTapeModel" "putRecord" c_M_putRecord 5 none 4 0 0 0 (aw_is none (hM  r0)) 78 [none, none, none, none, none] [] (hM  μ) 0 0 := by
  unfold fM_putRecord_78 at hf
  cases hf
  exact aw_return rfl d_M_putRecord_78 (Nat.le_refl 0) (Nat.le_refl 0) ⟨rfl, rfl⟩
set_option maxRecDepth 20000 in
theorem wM_putRecord_66 {N : Nat} {r0 : me_M} (l1 : Int32) (l4 : Int32) (μ : me_M) (hf : fM_putRecord_66 N l1 l4 μ = some r0) : AW "ArcTapeModel" "putRecord" c_M_putRecord 5 none 4 0 0 0 (aw_is none (hM  r0)) 66 [some (.ref 0), some (.int l1), none, none, some (.int l4)] [] (hM  μ) 0 0 := by
  unfold fM_putRecord_66 at hf
  refine aw_iload (pc' := 68) d_M_putRecord_66 rfl rfl ?_
  refine aw_if_eq (tgt := 78) (pc' := 71) d_M_putRecord_68 (by decide) rfl (fun c1 => ?_) (fun c1 => ?_)
  · replace hf := aw_ifp c1 hf
    exact aw_weak [false, false, false, false, false] rfl (wM_putRecord_78 _ hf)
  · replace hf := aw_ifn c1 hf
    refine aw_aload_n (pc' := 72) d_M_putRecord_71 rfl rfl ?_
    refine aw_iload_n (pc' := 73) d_M_putRecord_72 rfl rfl ?_
    refine aw_iload (pc' := 75) d_M_putRecord_73 rfl rfl ?_
    obtain ⟨r2, hr2, hf⟩ := aw_bind hf
    refine aw_callVn (pc' := 78) (av := [.int l1, .int l4]) d_M_putRecord_75 rfl wc_M_115 hM_0 (mM_putRest hr2) (Or.inl rfl) rfl (by decide) (Nat.le_of_ble_eq_true rfl) ⟨(Nat.le_refl 0), (Nat.le_refl 0)⟩ ?_
    exact aw_weak [false, false, false, false, false] rfl (wM_putRecord_78 _ hf)
set_option maxRecDepth 20000 in
theorem wM_putRecord_32 {N : Nat} {r0 : me_M} (l1 : Int32) (l2 : Int32) (l3 : Int32) (μ : me_M) (hf : fM_putRecord_32 N l1 l2 l3 μ = some r0) : AW "ArcTapeModel" "putRecord" c_M_putRecord 5 none 4 0 0 0 (aw_is none (hM  r0)) 32 [some (.ref 0), some (.int l1), some (.int l2), some (.int l3), none] [] (hM  μ) 0 0 := by
  unfold fM_putRecord_32 at hf
  refine aw_iload_n (pc' := 33) d_M_putRecord_32 rfl rfl ?_
  refine aw_istore (pc' := 35) (L' := [some (.ref 0), some (.int l1), some (.int l2), some (.int l3), some (.int l3)]) d_M_putRecord_33 rfl (by decide) rfl ?_
  refine aw_iload_n (pc' := 36) d_M_putRecord_35 rfl rfl ?_
  refine aw_if_le (tgt := 66) (pc' := 39) d_M_putRecord_36 (by decide) rfl (fun c3 => ?_) (fun c3 => ?_)
  · replace hf := aw_ifp c3 hf
    exact aw_weak [true, true, false, false, true] rfl (wM_putRecord_66 _ _ _ hf)
  · replace hf := aw_ifn c3 hf
    refine aw_aload_n (pc' := 40) d_M_putRecord_39 rfl rfl ?_
    refine aw_iload_n (pc' := 41) d_M_putRecord_40 rfl rfl ?_
    refine aw_aload_n (pc' := 42) d_M_putRecord_41 rfl rfl ?_
    refine aw_get (pc' := 45) d_M_putRecord_42 rfl fl_M_7 hM_0 rfl ?_
    refine aw_iload_n (pc' := 46) d_M_putRecord_45 rfl rfl ?_
    refine aw_iload_n (pc' := 47) d_M_putRecord_46 rfl rfl ?_
    refine aw_isub (pc' := 48) d_M_putRecord_47 rfl ?_
    obtain ⟨g4, hf⟩ := aw_gi hf
    refine aw_iald (pc' := 49) d_M_putRecord_48 rfl rfl hM_1 g4 ?_
    obtain ⟨r5, hr5, hf⟩ := aw_bind hf
    refine aw_callVn (pc' := 52) (av := [.int l3, .int (μ.1 1 (l1 - l2).toNatClampNeg)]) d_M_putRecord_49 rfl wc_M_112 hM_0 (mM_putRuns hr5) (Or.inl rfl) rfl (by decide) (Nat.le_of_ble_eq_true rfl) ⟨(Nat.le_refl 0), (Nat.le_refl 0)⟩ ?_
    refine aw_iload_n (pc' := 53) d_M_putRecord_52 rfl rfl ?_
    refine aw_aload_n (pc' := 54) d_M_putRecord_53 rfl rfl ?_
    refine aw_get (pc' := 57) d_M_putRecord_54 rfl fl_M_7 hM_0 rfl ?_
    refine aw_iload_n (pc' := 58) d_M_putRecord_57 rfl rfl ?_
    refine aw_iload_n (pc' := 59) d_M_putRecord_58 rfl rfl ?_
    refine aw_isub (pc' := 60) d_M_putRecord_59 rfl ?_
    obtain ⟨g6, hf⟩ := aw_gi hf
    refine aw_iald (pc' := 61) d_M_putRecord_60 rfl rfl hM_1 g6 ?_
    refine aw_iconst (pc' := 62) d_M_putRecord_61 rfl kc_ic_m1 ?_
    refine aw_ixor (pc' := 63) d_M_putRecord_62 rfl ?_
    refine aw_iand (pc' := 64) d_M_putRecord_63 rfl ?_
    refine aw_istore (pc' := 66) (L' := [some (.ref 0), some (.int l1), some (.int l2), some (.int l3), some (.int (l3 &&& ((r5.1 1 (l1 - l2).toNatClampNeg) ^^^ (-1 : Int32))))]) d_M_putRecord_64 rfl (by decide) rfl ?_
    exact aw_weak [true, true, false, false, true] rfl (wM_putRecord_66 _ _ _ hf)
set_option maxRecDepth 20000 in
theorem mM_putRecord {N : Nat} {μ : me_M} {r0 : me_M} {l1 : Int32} {l2 : Int32} (hf : fM_putRecord N l1 l2 μ = some r0) : AM y_M_putRecord c_M_putRecord 5 none 4 0 0 0 [.ref 0, .int l1, .int l2] (hM  μ) (aw_is none (hM  r0)) := by
  unfold fM_putRecord at hf
  refine AM.of (own := "ArcTapeModel") (nm := "putRecord") (L := [some (.ref 0), some (.int l1), some (.int l2), none, none]) rfl rfl (by decide) (Nat.le_of_ble_eq_true rfl) rfl ?_
  refine aw_aload_n (pc' := 1) d_M_putRecord_0 rfl rfl ?_
  refine aw_get (pc' := 4) d_M_putRecord_1 rfl fl_M_7 hM_0 rfl ?_
  refine aw_iload_n (pc' := 5) d_M_putRecord_4 rfl rfl ?_
  obtain ⟨g7, hf⟩ := aw_gi hf
  refine aw_iald (pc' := 6) d_M_putRecord_5 rfl rfl hM_1 g7 ?_
  refine aw_istore_n (pc' := 7) (L' := [some (.ref 0), some (.int l1), some (.int l2), some (.int (μ.1 1 l1.toNatClampNeg)), none]) d_M_putRecord_6 rfl (by decide) rfl ?_
  refine aw_aload_n (pc' := 8) d_M_putRecord_7 rfl rfl ?_
  refine aw_iload_n (pc' := 9) d_M_putRecord_8 rfl rfl ?_
  obtain ⟨r8, hr8, hf⟩ := aw_bind hf
  refine aw_callSv (pc' := 12) (av := [.int (μ.1 1 l1.toNatClampNeg)]) d_M_putRecord_9 rfl wc_M_106 (mM_ones hr8) (Or.inl rfl) rfl (by decide) (Nat.le_of_ble_eq_true rfl) ⟨(Nat.le_refl 0), (Nat.le_refl 0)⟩ ?_
  obtain ⟨r9, hr9, hf⟩ := aw_bind hf
  refine aw_callVn (pc' := 15) (av := [.int r8]) d_M_putRecord_12 rfl wc_M_89 hM_0 (mM_putGamma hr9) (Or.inl rfl) rfl (by decide) (Nat.le_of_ble_eq_true rfl) ⟨(Nat.le_refl 0), (Nat.le_refl 0)⟩ ?_
  refine aw_iload_n (pc' := 16) d_M_putRecord_15 rfl rfl ?_
  refine aw_if_ne (tgt := 20) (pc' := 19) d_M_putRecord_16 (by decide) rfl (fun c10 => ?_) (fun c10 => ?_)
  · replace hf := aw_ifn c10 hf
    refine aw_aload_n (pc' := 21) d_M_putRecord_20 rfl rfl ?_
    refine aw_get (pc' := 24) d_M_putRecord_21 rfl fl_M_109 hM_0 rfl ?_
    refine aw_if_le (tgt := 32) (pc' := 27) d_M_putRecord_24 (by decide) rfl (fun c11 => ?_) (fun c11 => ?_)
    · replace hf := aw_ifp c11 hf
      exact aw_weak [true, true, true, true, false] rfl (wM_putRecord_32 _ _ _ _ hf)
    · replace hf := aw_ifn c11 hf
      refine aw_aload_n (pc' := 28) d_M_putRecord_27 rfl rfl ?_
      refine aw_iload_n (pc' := 29) d_M_putRecord_28 rfl rfl ?_
      obtain ⟨r12, hr12, hf⟩ := aw_bind hf
      refine aw_callVn (pc' := 32) (av := [.int l2]) d_M_putRecord_29 rfl wc_M_79 hM_0 (mM_putUnary hr12) (Or.inl rfl) rfl (by decide) (Nat.le_of_ble_eq_true rfl) ⟨(Nat.le_refl 0), (Nat.le_refl 0)⟩ ?_
      exact aw_weak [true, true, true, true, false] rfl (wM_putRecord_32 _ _ _ _ hf)
  · replace hf := aw_ifp c10 hf
    cases hf
    exact aw_return rfl d_M_putRecord_19 (Nat.le_refl 0) (Nat.le_refl 0) ⟨rfl, rfl⟩
set_option maxRecDepth 20000 in
theorem wM_pack_281 {N : Nat} {r0 : (Int32 × me_M)} (μ : me_M) (hf : fM_pack_281 N μ = some r0) : AW "ArcTapeModel" "pack" c_M_pack 10 (some .int) 5 0 0 0 (aw_is (some (.int r0.1)) (hM  r0.2)) 281 [some (.ref 0), none, none, none, none, none, none, none, none, none] [] (hM  μ) 0 0 := by
  unfold fM_pack_281 at hf
  refine aw_aload_n (pc' := 282) d_M_pack_281 rfl rfl ?_
  refine aw_get (pc' := 285) d_M_pack_282 rfl fl_M_16 hM_0 rfl ?_
  refine aw_aload_n (pc' := 286) d_M_pack_285 rfl rfl ?_
  refine aw_get (pc' := 289) d_M_pack_286 rfl fl_M_56 hM_0 rfl ?_
  refine aw_aload_n (pc' := 290) d_M_pack_289 rfl rfl ?_
  refine aw_get (pc' := 293) d_M_pack_290 rfl fl_M_72 hM_0 rfl ?_
  obtain ⟨g1, hf⟩ := aw_gi hf
  refine aw_iast (pc' := 294) (h' := (hM  (me_wi μ 3 (μ.1 100 0).toNatClampNeg (μ.1 103 0)))) d_M_pack_293 rfl rfl hM_3 g1 rfl ?_
  refine aw_aload_n (pc' := 295) d_M_pack_294 rfl rfl ?_
  refine aw_get (pc' := 298) d_M_pack_295 rfl fl_M_72 hM_0 rfl ?_
  cases hf
  exact aw_ireturn rfl d_M_pack_298 (Nat.le_refl 0) (Nat.le_refl 0) ⟨rfl, rfl⟩
set_option maxRecDepth 20000 in
theorem wM_pack_274 {N : Nat} {r0 : (Int32 × me_M)} {k72 : Int32 → me_M → Option (Int32 × me_M)} (hk72 : ∀ (l5 : Int32) (μ : me_M), k72 l5 μ = some r0 → AW "ArcTapeModel" "pack" c_M_pack 10 (some .int) 5 0 0 0 (aw_is (some (.int r0.1)) (hM  r0.2)) 72 [some (.ref 0), none, none, none, none, some (.int l5), none, none, none, none] [] (hM  μ) 0 0) (l5 : Int32) (s1 : Int32) (s2 : Int32) (μ : me_M) (hf : fM_pack_274 N k72 l5 s1 s2 μ = some r0) : AW "ArcTapeModel" "pack" c_M_pack 10 (some .int) 5 0 0 0 (aw_is (some (.int r0.1)) (hM  r0.2)) 274 [some (.ref 0), none, none, none, none, some (.int l5), none, none, none, none] [.int s2, .int s1, .ref 4] (hM  μ) 0 0 := by
  unfold fM_pack_274 at hf
  obtain ⟨g2, hf⟩ := aw_gi hf
  refine aw_iast (pc' := 275) (h' := (hM  (me_wi μ 4 s1.toNatClampNeg s2))) d_M_pack_274 rfl rfl hM_4 g2 rfl ?_
  refine aw_iinc (pc' := 278) (L' := [some (.ref 0), none, none, none, none, some (.int (l5 + (1 : Int32))), none, none, none, none]) d_M_pack_275 rfl kc_ic_1 rfl (by decide) rfl ?_
  refine aw_goto (tgt := 72) d_M_pack_278 (by decide) ?_
  exact aw_weak [true, false, false, false, false, true, false, false, false, false] rfl (hk72 _ _ hf)
set_option maxRecDepth 20000 in
theorem wM_pack_239 {N : Nat} {r0 : (Int32 × me_M)} {k72 : Int32 → me_M → Option (Int32 × me_M)} (hk72 : ∀ (l5 : Int32) (μ : me_M), k72 l5 μ = some r0 → AW "ArcTapeModel" "pack" c_M_pack 10 (some .int) 5 0 0 0 (aw_is (some (.int r0.1)) (hM  r0.2)) 72 [some (.ref 0), none, none, none, none, some (.int l5), none, none, none, none] [] (hM  μ) 0 0) (l5 : Int32) (l6 : Int32) (μ : me_M) (hf : fM_pack_239 N k72 l5 l6 μ = some r0) : AW "ArcTapeModel" "pack" c_M_pack 10 (some .int) 5 0 0 0 (aw_is (some (.int r0.1)) (hM  r0.2)) 239 [some (.ref 0), none, none, none, none, some (.int l5), some (.int l6), none, none, none] [] (hM  μ) 0 0 := by
  unfold fM_pack_239 at hf
  refine aw_aload_n (pc' := 240) d_M_pack_239 rfl rfl ?_
  refine aw_iload (pc' := 242) d_M_pack_240 rfl rfl ?_
  refine aw_iload (pc' := 244) d_M_pack_242 rfl rfl ?_
  obtain ⟨r3, hr3, hf⟩ := aw_bind hf
  refine aw_callVn (pc' := 247) (av := [.int l5, .int l6]) d_M_pack_244 rfl wc_M_122 hM_0 (mM_putRecord hr3) (Or.inl rfl) rfl (by decide) (Nat.le_of_ble_eq_true rfl) ⟨(Nat.le_refl 0), (Nat.le_refl 0)⟩ ?_
  refine aw_aload_n (pc' := 248) d_M_pack_247 rfl rfl ?_
  refine aw_get (pc' := 251) d_M_pack_248 rfl fl_M_19 hM_0 rfl ?_
  refine aw_iload (pc' := 253) d_M_pack_251 rfl rfl ?_
  refine aw_iload (pc' := 255) d_M_pack_253 rfl rfl ?_
  refine aw_if_le (tgt := 273) (pc' := 258) d_M_pack_255 (by decide) rfl (fun c4 => ?_) (fun c4 => ?_)
  · replace hf := aw_ifp c4 hf
    refine aw_iconst (pc' := 274) d_M_pack_273 rfl kc_ic_0 ?_
    exact aw_weak [true, false, false, false, false, true, false, false, false, false] rfl (wM_pack_274 hk72 _ _ _ _ hf)
  · replace hf := aw_ifn c4 hf
    refine aw_iconst (pc' := 259) d_M_pack_258 rfl kc_ic_1 ?_
    refine aw_aload_n (pc' := 260) d_M_pack_259 rfl rfl ?_
    refine aw_get (pc' := 263) d_M_pack_260 rfl fl_M_19 hM_0 rfl ?_
    refine aw_iload (pc' := 265) d_M_pack_263 rfl rfl ?_
    refine aw_iload (pc' := 267) d_M_pack_265 rfl rfl ?_
    refine aw_isub (pc' := 268) d_M_pack_267 rfl ?_
    obtain ⟨g5, hf⟩ := aw_gi hf
    refine aw_iald (pc' := 269) d_M_pack_268 rfl rfl hM_4 g5 ?_
    refine aw_iadd (pc' := 270) d_M_pack_269 rfl ?_
    refine aw_goto (tgt := 274) d_M_pack_270 (by decide) ?_
    exact aw_weak [true, false, false, false, false, true, false, false, false, false] rfl (wM_pack_274 hk72 _ _ _ _ hf)
set_option maxRecDepth 20000 in
theorem wM_pack_233 {N : Nat} {r0 : (Int32 × me_M)} {k72 : Int32 → me_M → Option (Int32 × me_M)} (hk72 : ∀ (l5 : Int32) (μ : me_M), k72 l5 μ = some r0 → AW "ArcTapeModel" "pack" c_M_pack 10 (some .int) 5 0 0 0 (aw_is (some (.int r0.1)) (hM  r0.2)) 72 [some (.ref 0), none, none, none, none, some (.int l5), none, none, none, none] [] (hM  μ) 0 0) {k102 : Int32 → Int32 → Int32 → Int32 → me_M → Option (Int32 × me_M)} (hk102 : ∀ (l5 : Int32) (l6 : Int32) (l7 : Int32) (l8 : Int32) (μ : me_M), k102 l5 l6 l7 l8 μ = some r0 → AW "ArcTapeModel" "pack" c_M_pack 10 (some .int) 5 0 0 0 (aw_is (some (.int r0.1)) (hM  r0.2)) 102 [some (.ref 0), none, none, none, none, some (.int l5), some (.int l6), some (.int l7), some (.int l8), none] [] (hM  μ) 0 0) (l5 : Int32) (l6 : Int32) (l7 : Int32) (l8 : Int32) (μ : me_M) (hf : fM_pack_233 N k72 k102 l5 l6 l7 l8 μ = some r0) : AW "ArcTapeModel" "pack" c_M_pack 10 (some .int) 5 0 0 0 (aw_is (some (.int r0.1)) (hM  r0.2)) 233 [some (.ref 0), none, none, none, none, some (.int l5), some (.int l6), some (.int l7), some (.int l8), none] [] (hM  μ) 0 0 := by
  unfold fM_pack_233 at hf
  refine aw_iinc (pc' := 236) (L' := [some (.ref 0), none, none, none, none, some (.int l5), some (.int l6), some (.int l7), some (.int (l8 + (1 : Int32))), none]) d_M_pack_233 rfl kc_ic_1 rfl (by decide) rfl ?_
  refine aw_goto (tgt := 102) d_M_pack_236 (by decide) ?_
  exact aw_weak [true, false, false, false, false, true, true, true, true, false] rfl (hk102 _ _ _ _ _ hf)
set_option maxRecDepth 20000 in
theorem wM_pack_231 {N : Nat} {r0 : (Int32 × me_M)} {k72 : Int32 → me_M → Option (Int32 × me_M)} (hk72 : ∀ (l5 : Int32) (μ : me_M), k72 l5 μ = some r0 → AW "ArcTapeModel" "pack" c_M_pack 10 (some .int) 5 0 0 0 (aw_is (some (.int r0.1)) (hM  r0.2)) 72 [some (.ref 0), none, none, none, none, some (.int l5), none, none, none, none] [] (hM  μ) 0 0) {k102 : Int32 → Int32 → Int32 → Int32 → me_M → Option (Int32 × me_M)} (hk102 : ∀ (l5 : Int32) (l6 : Int32) (l7 : Int32) (l8 : Int32) (μ : me_M), k102 l5 l6 l7 l8 μ = some r0 → AW "ArcTapeModel" "pack" c_M_pack 10 (some .int) 5 0 0 0 (aw_is (some (.int r0.1)) (hM  r0.2)) 102 [some (.ref 0), none, none, none, none, some (.int l5), some (.int l6), some (.int l7), some (.int l8), none] [] (hM  μ) 0 0) (l5 : Int32) (l6 : Int32) (l8 : Int32) (s0 : Int32) (μ : me_M) (hf : fM_pack_231 N k72 k102 l5 l6 l8 s0 μ = some r0) : AW "ArcTapeModel" "pack" c_M_pack 10 (some .int) 5 0 0 0 (aw_is (some (.int r0.1)) (hM  r0.2)) 231 [some (.ref 0), none, none, none, none, some (.int l5), some (.int l6), none, some (.int l8), none] [.int s0] (hM  μ) 0 0 := by
  unfold fM_pack_231 at hf
  refine aw_istore (pc' := 233) (L' := [some (.ref 0), none, none, none, none, some (.int l5), some (.int l6), some (.int s0), some (.int l8), none]) d_M_pack_231 rfl (by decide) rfl ?_
  exact aw_weak [true, false, false, false, false, true, true, true, true, false] rfl (wM_pack_233 hk72 hk102 _ _ _ _ _ hf)
set_option maxRecDepth 20000 in
theorem wM_pack_215 {N : Nat} {r0 : (Int32 × me_M)} {k72 : Int32 → me_M → Option (Int32 × me_M)} (hk72 : ∀ (l5 : Int32) (μ : me_M), k72 l5 μ = some r0 → AW "ArcTapeModel" "pack" c_M_pack 10 (some .int) 5 0 0 0 (aw_is (some (.int r0.1)) (hM  r0.2)) 72 [some (.ref 0), none, none, none, none, some (.int l5), none, none, none, none] [] (hM  μ) 0 0) {k102 : Int32 → Int32 → Int32 → Int32 → me_M → Option (Int32 × me_M)} (hk102 : ∀ (l5 : Int32) (l6 : Int32) (l7 : Int32) (l8 : Int32) (μ : me_M), k102 l5 l6 l7 l8 μ = some r0 → AW "ArcTapeModel" "pack" c_M_pack 10 (some .int) 5 0 0 0 (aw_is (some (.int r0.1)) (hM  r0.2)) 102 [some (.ref 0), none, none, none, none, some (.int l5), some (.int l6), some (.int l7), some (.int l8), none] [] (hM  μ) 0 0) (l5 : Int32) (l7 : Int32) (l8 : Int32) (l9 : Int32) (s0 : Int32) (μ : me_M) (hf : fM_pack_215 N k72 k102 l5 l7 l8 l9 s0 μ = some r0) : AW "ArcTapeModel" "pack" c_M_pack 10 (some .int) 5 0 0 0 (aw_is (some (.int r0.1)) (hM  r0.2)) 215 [some (.ref 0), none, none, none, none, some (.int l5), none, some (.int l7), some (.int l8), some (.int l9)] [.int s0] (hM  μ) 0 0 := by
  unfold fM_pack_215 at hf
  refine aw_istore (pc' := 217) (L' := [some (.ref 0), none, none, none, none, some (.int l5), some (.int s0), some (.int l7), some (.int l8), some (.int l9)]) d_M_pack_215 rfl (by decide) rfl ?_
  refine aw_iload (pc' := 219) d_M_pack_217 rfl rfl ?_
  refine aw_iload (pc' := 221) d_M_pack_219 rfl rfl ?_
  refine aw_icmp_ge (tgt := 229) (pc' := 224) d_M_pack_221 (by decide) rfl (fun c6 => ?_) (fun c6 => ?_)
  · replace hf := aw_ifp c6 hf
    refine aw_iload (pc' := 231) d_M_pack_229 rfl rfl ?_
    exact aw_weak [true, false, false, false, false, true, true, false, true, false] rfl (wM_pack_231 hk72 hk102 _ _ _ _ _ hf)
  · replace hf := aw_ifn c6 hf
    refine aw_iload (pc' := 226) d_M_pack_224 rfl rfl ?_
    refine aw_goto (tgt := 231) d_M_pack_226 (by decide) ?_
    exact aw_weak [true, false, false, false, false, true, true, false, true, false] rfl (wM_pack_231 hk72 hk102 _ _ _ _ _ hf)
set_option maxRecDepth 20000 in
theorem wM_pack_168 {N : Nat} {r0 : (Int32 × me_M)} {k72 : Int32 → me_M → Option (Int32 × me_M)} (hk72 : ∀ (l5 : Int32) (μ : me_M), k72 l5 μ = some r0 → AW "ArcTapeModel" "pack" c_M_pack 10 (some .int) 5 0 0 0 (aw_is (some (.int r0.1)) (hM  r0.2)) 72 [some (.ref 0), none, none, none, none, some (.int l5), none, none, none, none] [] (hM  μ) 0 0) {k102 : Int32 → Int32 → Int32 → Int32 → me_M → Option (Int32 × me_M)} (hk102 : ∀ (l5 : Int32) (l6 : Int32) (l7 : Int32) (l8 : Int32) (μ : me_M), k102 l5 l6 l7 l8 μ = some r0 → AW "ArcTapeModel" "pack" c_M_pack 10 (some .int) 5 0 0 0 (aw_is (some (.int r0.1)) (hM  r0.2)) 102 [some (.ref 0), none, none, none, none, some (.int l5), some (.int l6), some (.int l7), some (.int l8), none] [] (hM  μ) 0 0) (l5 : Int32) (l6 : Int32) (l7 : Int32) (l8 : Int32) (μ : me_M) (hf : fM_pack_168 N k72 k102 l5 l6 l7 l8 μ = some r0) : AW "ArcTapeModel" "pack" c_M_pack 10 (some .int) 5 0 0 0 (aw_is (some (.int r0.1)) (hM  r0.2)) 168 [some (.ref 0), none, none, none, none, some (.int l5), some (.int l6), some (.int l7), some (.int l8), none] [] (hM  μ) 0 0 := by
  unfold fM_pack_168 at hf
  refine aw_aload_n (pc' := 169) d_M_pack_168 rfl rfl ?_
  refine aw_iload (pc' := 171) d_M_pack_169 rfl rfl ?_
  refine aw_iload (pc' := 173) d_M_pack_171 rfl rfl ?_
  obtain ⟨r7, hr7, hf⟩ := aw_bind hf
  refine aw_callVn (pc' := 176) (av := [.int l5, .int l8]) d_M_pack_173 rfl wc_M_122 hM_0 (mM_putRecord hr7) (Or.inl rfl) rfl (by decide) (Nat.le_of_ble_eq_true rfl) ⟨(Nat.le_refl 0), (Nat.le_refl 0)⟩ ?_
  refine aw_aload_n (pc' := 177) d_M_pack_176 rfl rfl ?_
  refine aw_get (pc' := 180) d_M_pack_177 rfl fl_M_72 hM_0 rfl ?_
  refine aw_aload_n (pc' := 181) d_M_pack_180 rfl rfl ?_
  refine aw_get (pc' := 184) d_M_pack_181 rfl fl_M_16 hM_0 rfl ?_
  refine aw_iload (pc' := 186) d_M_pack_184 rfl rfl ?_
  obtain ⟨g8, hf⟩ := aw_gi hf
  refine aw_iald (pc' := 187) d_M_pack_186 rfl rfl hM_3 g8 ?_
  refine aw_isub (pc' := 188) d_M_pack_187 rfl ?_
  refine aw_istore (pc' := 190) (L' := [some (.ref 0), none, none, none, none, some (.int l5), some (.int l6), some (.int l7), some (.int l8), some (.int ((r7.1 103 0) - (r7.1 3 l5.toNatClampNeg)))]) d_M_pack_188 rfl (by decide) rfl ?_
  refine aw_aload_n (pc' := 191) d_M_pack_190 rfl rfl ?_
  refine aw_aload_n (pc' := 192) d_M_pack_191 rfl rfl ?_
  refine aw_get (pc' := 195) d_M_pack_192 rfl fl_M_16 hM_0 rfl ?_
  refine aw_iload (pc' := 197) d_M_pack_195 rfl rfl ?_
  obtain ⟨g9, hf⟩ := aw_gi hf
  refine aw_iald (pc' := 198) d_M_pack_197 rfl rfl hM_3 g9 ?_
  refine aw_puti (pc' := 201) (h' := (hM  (me_wi r7 103 0 (r7.1 3 l5.toNatClampNeg)))) d_M_pack_198 rfl fp_M_72 hM_0 (Nat.le_of_ble_eq_true rfl) rfl ?_
  refine aw_iload (pc' := 203) d_M_pack_201 rfl rfl ?_
  refine aw_iload (pc' := 205) d_M_pack_203 rfl rfl ?_
  refine aw_icmp_ge (tgt := 213) (pc' := 208) d_M_pack_205 (by decide) rfl (fun c10 => ?_) (fun c10 => ?_)
  · replace hf := aw_ifp c10 hf
    refine aw_iload (pc' := 215) d_M_pack_213 rfl rfl ?_
    exact aw_weak [true, false, false, false, false, true, false, true, true, true] rfl (wM_pack_215 hk72 hk102 _ _ _ _ _ _ hf)
  · replace hf := aw_ifn c10 hf
    refine aw_iload (pc' := 210) d_M_pack_208 rfl rfl ?_
    refine aw_goto (tgt := 215) d_M_pack_210 (by decide) ?_
    exact aw_weak [true, false, false, false, false, true, false, true, true, true] rfl (wM_pack_215 hk72 hk102 _ _ _ _ _ _ hf)
set_option maxRecDepth 20000 in
theorem wM_pack_133 {N : Nat} {r0 : (Int32 × me_M)} {k72 : Int32 → me_M → Option (Int32 × me_M)} (hk72 : ∀ (l5 : Int32) (μ : me_M), k72 l5 μ = some r0 → AW "ArcTapeModel" "pack" c_M_pack 10 (some .int) 5 0 0 0 (aw_is (some (.int r0.1)) (hM  r0.2)) 72 [some (.ref 0), none, none, none, none, some (.int l5), none, none, none, none] [] (hM  μ) 0 0) {k102 : Int32 → Int32 → Int32 → Int32 → me_M → Option (Int32 × me_M)} (hk102 : ∀ (l5 : Int32) (l6 : Int32) (l7 : Int32) (l8 : Int32) (μ : me_M), k102 l5 l6 l7 l8 μ = some r0 → AW "ArcTapeModel" "pack" c_M_pack 10 (some .int) 5 0 0 0 (aw_is (some (.int r0.1)) (hM  r0.2)) 102 [some (.ref 0), none, none, none, none, some (.int l5), some (.int l6), some (.int l7), some (.int l8), none] [] (hM  μ) 0 0) (l5 : Int32) (l6 : Int32) (l7 : Int32) (l8 : Int32) (μ : me_M) (hf : fM_pack_133 N k72 k102 l5 l6 l7 l8 μ = some r0) : AW "ArcTapeModel" "pack" c_M_pack 10 (some .int) 5 0 0 0 (aw_is (some (.int r0.1)) (hM  r0.2)) 133 [some (.ref 0), none, none, none, none, some (.int l5), some (.int l6), some (.int l7), some (.int l8), none] [] (hM  μ) 0 0 := by
  unfold fM_pack_133 at hf
  refine aw_iload (pc' := 135) d_M_pack_133 rfl rfl ?_
  refine aw_if_eq (tgt := 168) (pc' := 138) d_M_pack_135 (by decide) rfl (fun c11 => ?_) (fun c11 => ?_)
  · replace hf := aw_ifp c11 hf
    exact aw_weak [true, false, false, false, false, true, true, true, true, false] rfl (wM_pack_168 hk72 hk102 _ _ _ _ _ hf)
  · replace hf := aw_ifn c11 hf
    refine aw_aload_n (pc' := 139) d_M_pack_138 rfl rfl ?_
    refine aw_get (pc' := 142) d_M_pack_139 rfl fl_M_7 hM_0 rfl ?_
    refine aw_iload (pc' := 144) d_M_pack_142 rfl rfl ?_
    refine aw_iload (pc' := 146) d_M_pack_144 rfl rfl ?_
    refine aw_isub (pc' := 147) d_M_pack_146 rfl ?_
    obtain ⟨g12, hf⟩ := aw_gi hf
    refine aw_iald (pc' := 148) d_M_pack_147 rfl rfl hM_1 g12 ?_
    refine aw_if_eq (tgt := 233) (pc' := 151) d_M_pack_148 (by decide) rfl (fun c13 => ?_) (fun c13 => ?_)
    · replace hf := aw_ifp c13 hf
      exact aw_weak [true, false, false, false, false, true, true, true, true, false] rfl (wM_pack_233 hk72 hk102 _ _ _ _ _ hf)
    · replace hf := aw_ifn c13 hf
      refine aw_aload_n (pc' := 152) d_M_pack_151 rfl rfl ?_
      refine aw_get (pc' := 155) d_M_pack_152 rfl fl_M_19 hM_0 rfl ?_
      refine aw_iload (pc' := 157) d_M_pack_155 rfl rfl ?_
      refine aw_iload (pc' := 159) d_M_pack_157 rfl rfl ?_
      refine aw_isub (pc' := 160) d_M_pack_159 rfl ?_
      obtain ⟨g14, hf⟩ := aw_gi hf
      refine aw_iald (pc' := 161) d_M_pack_160 rfl rfl hM_4 g14 ?_
      refine aw_aload_n (pc' := 162) d_M_pack_161 rfl rfl ?_
      refine aw_get (pc' := 165) d_M_pack_162 rfl fl_M_118 hM_0 rfl ?_
      refine aw_icmp_ge (tgt := 233) (pc' := 168) d_M_pack_165 (by decide) rfl (fun c15 => ?_) (fun c15 => ?_)
      · replace hf := aw_ifp c15 hf
        exact aw_weak [true, false, false, false, false, true, true, true, true, false] rfl (wM_pack_233 hk72 hk102 _ _ _ _ _ hf)
      · replace hf := aw_ifn c15 hf
        exact aw_weak [true, false, false, false, false, true, true, true, true, false] rfl (wM_pack_168 hk72 hk102 _ _ _ _ _ hf)
set_option maxRecDepth 20000 in
theorem wM_pack_102b {N : Nat} {r0 : (Int32 × me_M)} {k72 : Int32 → me_M → Option (Int32 × me_M)} (hk72 : ∀ (l5 : Int32) (μ : me_M), k72 l5 μ = some r0 → AW "ArcTapeModel" "pack" c_M_pack 10 (some .int) 5 0 0 0 (aw_is (some (.int r0.1)) (hM  r0.2)) 72 [some (.ref 0), none, none, none, none, some (.int l5), none, none, none, none] [] (hM  μ) 0 0) {k102 : Int32 → Int32 → Int32 → Int32 → me_M → Option (Int32 × me_M)} (hk102 : ∀ (l5 : Int32) (l6 : Int32) (l7 : Int32) (l8 : Int32) (μ : me_M), k102 l5 l6 l7 l8 μ = some r0 → AW "ArcTapeModel" "pack" c_M_pack 10 (some .int) 5 0 0 0 (aw_is (some (.int r0.1)) (hM  r0.2)) 102 [some (.ref 0), none, none, none, none, some (.int l5), some (.int l6), some (.int l7), some (.int l8), none] [] (hM  μ) 0 0) (l5 : Int32) (l6 : Int32) (l7 : Int32) (l8 : Int32) (μ : me_M) (hf : fM_pack_102b N k72 k102 l5 l6 l7 l8 μ = some r0) : AW "ArcTapeModel" "pack" c_M_pack 10 (some .int) 5 0 0 0 (aw_is (some (.int r0.1)) (hM  r0.2)) 102 [some (.ref 0), none, none, none, none, some (.int l5), some (.int l6), some (.int l7), some (.int l8), none] [] (hM  μ) 0 0 := by
  unfold fM_pack_102b at hf
  refine aw_iload (pc' := 104) d_M_pack_102 rfl rfl ?_
  refine aw_aload_n (pc' := 105) d_M_pack_104 rfl rfl ?_
  refine aw_get (pc' := 108) d_M_pack_105 rfl fl_M_109 hM_0 rfl ?_
  refine aw_icmp_gt (tgt := 239) (pc' := 111) d_M_pack_108 (by decide) rfl (fun c16 => ?_) (fun c16 => ?_)
  · replace hf := aw_ifp c16 hf
    exact aw_weak [true, false, false, false, false, true, true, false, false, false] rfl (wM_pack_239 hk72 _ _ _ hf)
  · replace hf := aw_ifn c16 hf
    refine aw_iload (pc' := 113) d_M_pack_111 rfl rfl ?_
    refine aw_iload (pc' := 115) d_M_pack_113 rfl rfl ?_
    refine aw_icmp_gt (tgt := 239) (pc' := 118) d_M_pack_115 (by decide) rfl (fun c17 => ?_) (fun c17 => ?_)
    · replace hf := aw_ifp c17 hf
      exact aw_weak [true, false, false, false, false, true, true, false, false, false] rfl (wM_pack_239 hk72 _ _ _ hf)
    · replace hf := aw_ifn c17 hf
      refine aw_iload (pc' := 120) d_M_pack_118 rfl rfl ?_
      refine aw_if_eq (tgt := 133) (pc' := 123) d_M_pack_120 (by decide) rfl (fun c18 => ?_) (fun c18 => ?_)
      · replace hf := aw_ifp c18 hf
        exact aw_weak [true, false, false, false, false, true, true, true, true, false] rfl (wM_pack_133 hk72 hk102 _ _ _ _ _ hf)
      · replace hf := aw_ifn c18 hf
        refine aw_aload_n (pc' := 124) d_M_pack_123 rfl rfl ?_
        refine aw_get (pc' := 127) d_M_pack_124 rfl fl_M_7 hM_0 rfl ?_
        refine aw_iload (pc' := 129) d_M_pack_127 rfl rfl ?_
        obtain ⟨g19, hf⟩ := aw_gi hf
        refine aw_iald (pc' := 130) d_M_pack_129 rfl rfl hM_1 g19 ?_
        refine aw_if_eq (tgt := 239) (pc' := 133) d_M_pack_130 (by decide) rfl (fun c20 => ?_) (fun c20 => ?_)
        · replace hf := aw_ifp c20 hf
          exact aw_weak [true, false, false, false, false, true, true, false, false, false] rfl (wM_pack_239 hk72 _ _ _ hf)
        · replace hf := aw_ifn c20 hf
          exact aw_weak [true, false, false, false, false, true, true, true, true, false] rfl (wM_pack_133 hk72 hk102 _ _ _ _ _ hf)
set_option maxRecDepth 20000 in
theorem wM_pack_102 {N : Nat} {r0 : (Int32 × me_M)} {k72 : Int32 → me_M → Option (Int32 × me_M)} (hk72 : ∀ (l5 : Int32) (μ : me_M), k72 l5 μ = some r0 → AW "ArcTapeModel" "pack" c_M_pack 10 (some .int) 5 0 0 0 (aw_is (some (.int r0.1)) (hM  r0.2)) 72 [some (.ref 0), none, none, none, none, some (.int l5), none, none, none, none] [] (hM  μ) 0 0) : ∀ (F : Nat) (l5 : Int32) (l6 : Int32) (l7 : Int32) (l8 : Int32) (μ : me_M) (hf : fM_pack_102 N k72 F l5 l6 l7 l8 μ = some r0), AW "ArcTapeModel" "pack" c_M_pack 10 (some .int) 5 0 0 0 (aw_is (some (.int r0.1)) (hM  r0.2)) 102 [some (.ref 0), none, none, none, none, some (.int l5), some (.int l6), some (.int l7), some (.int l8), none] [] (hM  μ) 0 0 := by
  intro F
  induction F with
  | zero => intro l5 l6 l7 l8 μ hf; exact aw_no hf
  | succ F ih => intro l5 l6 l7 l8 μ hf; exact wM_pack_102b hk72 ih l5 l6 l7 l8 μ hf
set_option maxRecDepth 20000 in
theorem wM_pack_72b {N : Nat} {r0 : (Int32 × me_M)} {k72 : Int32 → me_M → Option (Int32 × me_M)} (hk72 : ∀ (l5 : Int32) (μ : me_M), k72 l5 μ = some r0 → AW "ArcTapeModel" "pack" c_M_pack 10 (some .int) 5 0 0 0 (aw_is (some (.int r0.1)) (hM  r0.2)) 72 [some (.ref 0), none, none, none, none, some (.int l5), none, none, none, none] [] (hM  μ) 0 0) (l5 : Int32) (μ : me_M) (hf : fM_pack_72b N k72 l5 μ = some r0) : AW "ArcTapeModel" "pack" c_M_pack 10 (some .int) 5 0 0 0 (aw_is (some (.int r0.1)) (hM  r0.2)) 72 [some (.ref 0), none, none, none, none, some (.int l5), none, none, none, none] [] (hM  μ) 0 0 := by
  unfold fM_pack_72b at hf
  refine aw_iload (pc' := 74) d_M_pack_72 rfl rfl ?_
  refine aw_aload_n (pc' := 75) d_M_pack_74 rfl rfl ?_
  refine aw_get (pc' := 78) d_M_pack_75 rfl fl_M_56 hM_0 rfl ?_
  refine aw_icmp_ge (tgt := 281) (pc' := 81) d_M_pack_78 (by decide) rfl (fun c21 => ?_) (fun c21 => ?_)
  · replace hf := aw_ifp c21 hf
    exact aw_weak [true, false, false, false, false, false, false, false, false, false] rfl (wM_pack_281 _ hf)
  · replace hf := aw_ifn c21 hf
    refine aw_aload_n (pc' := 82) d_M_pack_81 rfl rfl ?_
    refine aw_get (pc' := 85) d_M_pack_82 rfl fl_M_16 hM_0 rfl ?_
    refine aw_iload (pc' := 87) d_M_pack_85 rfl rfl ?_
    refine aw_aload_n (pc' := 88) d_M_pack_87 rfl rfl ?_
    refine aw_get (pc' := 91) d_M_pack_88 rfl fl_M_72 hM_0 rfl ?_
    obtain ⟨g22, hf⟩ := aw_gi hf
    refine aw_iast (pc' := 92) (h' := (hM  (me_wi μ 3 l5.toNatClampNeg (μ.1 103 0)))) d_M_pack_91 rfl rfl hM_3 g22 rfl ?_
    refine aw_iconst (pc' := 93) d_M_pack_92 rfl kc_ic_0 ?_
    refine aw_istore (pc' := 95) (L' := [some (.ref 0), none, none, none, none, some (.int l5), some (.int (0 : Int32)), none, none, none]) d_M_pack_93 rfl (by decide) rfl ?_
    refine aw_ldc (pc' := 97) d_M_pack_95 rfl wk_M_121 ?_
    refine aw_istore (pc' := 99) (L' := [some (.ref 0), none, none, none, none, some (.int l5), some (.int (0 : Int32)), some (.int (1048576 : Int32)), none, none]) d_M_pack_97 rfl (by decide) rfl ?_
    refine aw_iconst (pc' := 100) d_M_pack_99 rfl kc_ic_0 ?_
    refine aw_istore (pc' := 102) (L' := [some (.ref 0), none, none, none, none, some (.int l5), some (.int (0 : Int32)), some (.int (1048576 : Int32)), some (.int (0 : Int32)), none]) d_M_pack_100 rfl (by decide) rfl ?_
    exact aw_weak [true, false, false, false, false, true, true, true, true, false] rfl (wM_pack_102 hk72 _ _ _ _ _ _ hf)
set_option maxRecDepth 20000 in
theorem wM_pack_72 {N : Nat} {r0 : (Int32 × me_M)} : ∀ (F : Nat) (l5 : Int32) (μ : me_M) (hf : fM_pack_72 N F l5 μ = some r0), AW "ArcTapeModel" "pack" c_M_pack 10 (some .int) 5 0 0 0 (aw_is (some (.int r0.1)) (hM  r0.2)) 72 [some (.ref 0), none, none, none, none, some (.int l5), none, none, none, none] [] (hM  μ) 0 0 := by
  intro F
  induction F with
  | zero => intro l5 μ hf; exact aw_no hf
  | succ F ih => intro l5 μ hf; exact wM_pack_72b ih l5 μ hf
set_option maxRecDepth 20000 in
theorem wM_pack_41 {N : Nat} {r0 : (Int32 × me_M)} (μ : me_M) (hf : fM_pack_41 N μ = some r0) : AW "ArcTapeModel" "pack" c_M_pack 10 (some .int) 5 0 0 0 (aw_is (some (.int r0.1)) (hM  r0.2)) 41 [none, none, none, none, none, none, none, none, none, none] [] (hM  μ) 0 0 := by
  unfold fM_pack_41 at hf
  refine aw_iconst (pc' := 42) d_M_pack_41 rfl kc_ic_m1 ?_
  cases hf
  exact aw_ireturn rfl d_M_pack_42 (Nat.le_refl 0) (Nat.le_refl 0) ⟨rfl, rfl⟩
set_option maxRecDepth 20000 in
theorem mM_pack {N : Nat} {μ : me_M} {r0 : (Int32 × me_M)} {l1 : Int32} {l2 : Int32} {l3 : Int32} {l4 : Int32} (hf : fM_pack N l1 l2 l3 l4 μ = some r0) : AM y_M_pack c_M_pack 10 (some .int) 5 0 0 0 [.ref 0, .int l1, .int l2, .int l3, .int l4] (hM  μ) (aw_is (some (.int r0.1)) (hM  r0.2)) := by
  unfold fM_pack at hf
  refine AM.of (own := "ArcTapeModel") (nm := "pack") (L := [some (.ref 0), some (.int l1), some (.int l2), some (.int l3), some (.int l4), none, none, none, none, none]) rfl rfl (by decide) (Nat.le_of_ble_eq_true rfl) rfl ?_
  refine aw_iload_n (pc' := 1) d_M_pack_0 rfl rfl ?_
  refine aw_if_lt (tgt := 41) (pc' := 4) d_M_pack_1 (by decide) rfl (fun c23 => ?_) (fun c23 => ?_)
  · replace hf := aw_ifp c23 hf
    exact aw_weak [false, false, false, false, false, false, false, false, false, false] rfl (wM_pack_41 _ hf)
  · replace hf := aw_ifn c23 hf
    refine aw_iload_n (pc' := 5) d_M_pack_4 rfl rfl ?_
    refine aw_bipush (pc' := 7) d_M_pack_5 rfl kc_bi_6 ?_
    refine aw_icmp_gt (tgt := 41) (pc' := 10) d_M_pack_7 (by decide) rfl (fun c24 => ?_) (fun c24 => ?_)
    · replace hf := aw_ifp c24 hf
      exact aw_weak [false, false, false, false, false, false, false, false, false, false] rfl (wM_pack_41 _ hf)
    · replace hf := aw_ifn c24 hf
      refine aw_iload_n (pc' := 11) d_M_pack_10 rfl rfl ?_
      refine aw_if_lt (tgt := 41) (pc' := 14) d_M_pack_11 (by decide) rfl (fun c25 => ?_) (fun c25 => ?_)
      · replace hf := aw_ifp c25 hf
        exact aw_weak [false, false, false, false, false, false, false, false, false, false] rfl (wM_pack_41 _ hf)
      · replace hf := aw_ifn c25 hf
        refine aw_iload_n (pc' := 15) d_M_pack_14 rfl rfl ?_
        refine aw_iconst (pc' := 16) d_M_pack_15 rfl kc_ic_3 ?_
        refine aw_icmp_gt (tgt := 41) (pc' := 19) d_M_pack_16 (by decide) rfl (fun c26 => ?_) (fun c26 => ?_)
        · replace hf := aw_ifp c26 hf
          exact aw_weak [false, false, false, false, false, false, false, false, false, false] rfl (wM_pack_41 _ hf)
        · replace hf := aw_ifn c26 hf
          refine aw_iload_n (pc' := 20) d_M_pack_19 rfl rfl ?_
          refine aw_if_lt (tgt := 41) (pc' := 23) d_M_pack_20 (by decide) rfl (fun c27 => ?_) (fun c27 => ?_)
          · replace hf := aw_ifp c27 hf
            exact aw_weak [false, false, false, false, false, false, false, false, false, false] rfl (wM_pack_41 _ hf)
          · replace hf := aw_ifn c27 hf
            refine aw_iload_n (pc' := 24) d_M_pack_23 rfl rfl ?_
            refine aw_bipush (pc' := 26) d_M_pack_24 rfl kc_bi_9 ?_
            refine aw_icmp_gt (tgt := 41) (pc' := 29) d_M_pack_26 (by decide) rfl (fun c28 => ?_) (fun c28 => ?_)
            · replace hf := aw_ifp c28 hf
              exact aw_weak [false, false, false, false, false, false, false, false, false, false] rfl (wM_pack_41 _ hf)
            · replace hf := aw_ifn c28 hf
              refine aw_iload (pc' := 31) d_M_pack_29 rfl rfl ?_
              refine aw_iconst (pc' := 32) d_M_pack_31 rfl kc_ic_1 ?_
              refine aw_icmp_lt (tgt := 41) (pc' := 35) d_M_pack_32 (by decide) rfl (fun c29 => ?_) (fun c29 => ?_)
              · replace hf := aw_ifp c29 hf
                exact aw_weak [false, false, false, false, false, false, false, false, false, false] rfl (wM_pack_41 _ hf)
              · replace hf := aw_ifn c29 hf
                refine aw_iload (pc' := 37) d_M_pack_35 rfl rfl ?_
                refine aw_iconst (pc' := 38) d_M_pack_37 rfl kc_ic_4 ?_
                refine aw_icmp_le (tgt := 43) (pc' := 41) d_M_pack_38 (by decide) rfl (fun c30 => ?_) (fun c30 => ?_)
                · replace hf := aw_ifp c30 hf
                  refine aw_aload_n (pc' := 44) d_M_pack_43 rfl rfl ?_
                  refine aw_iload_n (pc' := 45) d_M_pack_44 rfl rfl ?_
                  refine aw_puti (pc' := 48) (h' := (hM  (me_wi μ 105 0 l1))) d_M_pack_45 rfl fp_M_109 hM_0 (Nat.le_of_ble_eq_true rfl) rfl ?_
                  refine aw_aload_n (pc' := 49) d_M_pack_48 rfl rfl ?_
                  refine aw_iload_n (pc' := 50) d_M_pack_49 rfl rfl ?_
                  refine aw_puti (pc' := 53) (h' := (hM  (me_wi (me_wi μ 105 0 l1) 106 0 l2))) d_M_pack_50 rfl fp_M_118 hM_0 (Nat.le_of_ble_eq_true rfl) rfl ?_
                  refine aw_aload_n (pc' := 54) d_M_pack_53 rfl rfl ?_
                  refine aw_iload_n (pc' := 55) d_M_pack_54 rfl rfl ?_
                  refine aw_puti (pc' := 58) (h' := (hM  (me_wi (me_wi (me_wi μ 105 0 l1) 106 0 l2) 107 0 l3))) d_M_pack_55 rfl fp_M_92 hM_0 (Nat.le_of_ble_eq_true rfl) rfl ?_
                  refine aw_aload_n (pc' := 59) d_M_pack_58 rfl rfl ?_
                  refine aw_iload (pc' := 61) d_M_pack_59 rfl rfl ?_
                  refine aw_puti (pc' := 64) (h' := (hM  (me_wi (me_wi (me_wi (me_wi μ 105 0 l1) 106 0 l2) 107 0 l3) 108 0 l4))) d_M_pack_61 rfl fp_M_86 hM_0 (Nat.le_of_ble_eq_true rfl) rfl ?_
                  refine aw_aload_n (pc' := 65) d_M_pack_64 rfl rfl ?_
                  refine aw_iconst (pc' := 66) d_M_pack_65 rfl kc_ic_0 ?_
                  refine aw_puti (pc' := 69) (h' := (hM  (me_wi (me_wi (me_wi (me_wi (me_wi μ 105 0 l1) 106 0 l2) 107 0 l3) 108 0 l4) 103 0 (0 : Int32)))) d_M_pack_66 rfl fp_M_72 hM_0 (Nat.le_of_ble_eq_true rfl) rfl ?_
                  refine aw_iconst (pc' := 70) d_M_pack_69 rfl kc_ic_0 ?_
                  refine aw_istore (pc' := 72) (L' := [some (.ref 0), some (.int l1), some (.int l2), some (.int l3), some (.int l4), some (.int (0 : Int32)), none, none, none, none]) d_M_pack_70 rfl (by decide) rfl ?_
                  exact aw_weak [true, false, false, false, false, true, false, false, false, false] rfl (wM_pack_72 _ _ _ hf)
                · replace hf := aw_ifn c30 hf
                  exact aw_weak [false, false, false, false, false, false, false, false, false, false] rfl (wM_pack_41 _ hf)
set_option maxRecDepth 20000 in
theorem wM_start_97 {N : Nat} {r0 : (Int32 × me_M)} (μ : me_M) (hf : fM_start_97 N μ = some r0) : AW "ArcTapeModel" "start" c_M_start 4 (some .boolean) 0 0 0 0 (aw_is (some (.int r0.1)) (hM  r0.2)) 97 [none, none, none, none] [] (hM  μ) 0 0 := by
  unfold fM_start_97 at hf
  refine aw_iconst (pc' := 98) d_M_start_97 rfl kc_ic_1 ?_
  obtain ⟨g1, hf⟩ := aw_gz hf
  cases hf
  exact aw_zreturn rfl g1.1 d_M_start_98 (Nat.le_refl 0) (Nat.le_refl 0) ⟨rfl, rfl⟩
set_option maxRecDepth 20000 in
theorem wM_start_90 {N : Nat} {r0 : (Int32 × me_M)} {k39 : Int32 → Int32 → me_M → Option (Int32 × me_M)} (hk39 : ∀ (l1 : Int32) (l3 : Int32) (μ : me_M), k39 l1 l3 μ = some r0 → AW "ArcTapeModel" "start" c_M_start 4 (some .boolean) 0 0 0 0 (aw_is (some (.int r0.1)) (hM  r0.2)) 39 [some (.ref 0), some (.int l1), none, some (.int l3)] [] (hM  μ) 0 0) (l1 : Int32) (l3 : Int32) (s1 : Int32) (s2 : Int64) (μ : me_M) (hf : fM_start_90 N k39 l1 l3 s1 s2 μ = some r0) : AW "ArcTapeModel" "start" c_M_start 4 (some .boolean) 0 0 0 0 (aw_is (some (.int r0.1)) (hM  r0.2)) 90 [some (.ref 0), some (.int l1), none, some (.int l3)] [.long s2, .int s1, .ref 12] (hM  μ) 0 0 := by
  unfold fM_start_90 at hf
  obtain ⟨g2, hf⟩ := aw_gi hf
  refine aw_last (pc' := 91) (h' := (hM  (me_wl μ 12 s1.toNatClampNeg s2))) d_M_start_90 rfl rfl hM_12 g2 rfl ?_
  refine aw_iinc (pc' := 94) (L' := [some (.ref 0), some (.int l1), none, some (.int (l3 + (1 : Int32)))]) d_M_start_91 rfl kc_ic_1 rfl (by decide) rfl ?_
  refine aw_goto (tgt := 39) d_M_start_94 (by decide) ?_
  exact aw_weak [true, true, false, true] rfl (hk39 _ _ _ hf)
set_option maxRecDepth 20000 in
theorem wM_start_72 {N : Nat} {r0 : (Int32 × me_M)} {k39 : Int32 → Int32 → me_M → Option (Int32 × me_M)} (hk39 : ∀ (l1 : Int32) (l3 : Int32) (μ : me_M), k39 l1 l3 μ = some r0 → AW "ArcTapeModel" "start" c_M_start 4 (some .boolean) 0 0 0 0 (aw_is (some (.int r0.1)) (hM  r0.2)) 39 [some (.ref 0), some (.int l1), none, some (.int l3)] [] (hM  μ) 0 0) (l1 : Int32) (l3 : Int32) (s1 : Int32) (s2 : Int64) (μ : me_M) (hf : fM_start_72 N k39 l1 l3 s1 s2 μ = some r0) : AW "ArcTapeModel" "start" c_M_start 4 (some .boolean) 0 0 0 0 (aw_is (some (.int r0.1)) (hM  r0.2)) 72 [some (.ref 0), some (.int l1), none, some (.int l3)] [.long s2, .int s1, .ref 11] (hM  μ) 0 0 := by
  unfold fM_start_72 at hf
  obtain ⟨g3, hf⟩ := aw_gi hf
  refine aw_last (pc' := 73) (h' := (hM  (me_wl μ 11 s1.toNatClampNeg s2))) d_M_start_72 rfl rfl hM_11 g3 rfl ?_
  refine aw_aload_n (pc' := 74) d_M_start_73 rfl rfl ?_
  refine aw_get (pc' := 77) d_M_start_74 rfl fl_M_44 hM_0 rfl ?_
  refine aw_iload_n (pc' := 78) d_M_start_77 rfl rfl ?_
  refine aw_iload_n (pc' := 79) d_M_start_78 rfl rfl ?_
  refine aw_iconst (pc' := 80) d_M_start_79 rfl kc_ic_1 ?_
  refine aw_icmp_ne (tgt := 89) (pc' := 83) d_M_start_80 (by decide) rfl (fun c4 => ?_) (fun c4 => ?_)
  · replace hf := aw_ifn c4 hf
    refine aw_lconst (pc' := 90) d_M_start_89 rfl kc_lc_0 ?_
    exact aw_weak [true, true, false, true] rfl (wM_start_90 hk39 _ _ _ _ _ hf)
  · replace hf := aw_ifp c4 hf
    refine aw_ldc2 (pc' := 86) d_M_start_83 rfl wk_M_201 ?_
    refine aw_goto (tgt := 90) d_M_start_86 (by decide) ?_
    exact aw_weak [true, true, false, true] rfl (wM_start_90 hk39 _ _ _ _ _ hf)
set_option maxRecDepth 20000 in
theorem wM_start_39b {N : Nat} {r0 : (Int32 × me_M)} {k39 : Int32 → Int32 → me_M → Option (Int32 × me_M)} (hk39 : ∀ (l1 : Int32) (l3 : Int32) (μ : me_M), k39 l1 l3 μ = some r0 → AW "ArcTapeModel" "start" c_M_start 4 (some .boolean) 0 0 0 0 (aw_is (some (.int r0.1)) (hM  r0.2)) 39 [some (.ref 0), some (.int l1), none, some (.int l3)] [] (hM  μ) 0 0) (l1 : Int32) (l3 : Int32) (μ : me_M) (hf : fM_start_39b N k39 l1 l3 μ = some r0) : AW "ArcTapeModel" "start" c_M_start 4 (some .boolean) 0 0 0 0 (aw_is (some (.int r0.1)) (hM  r0.2)) 39 [some (.ref 0), some (.int l1), none, some (.int l3)] [] (hM  μ) 0 0 := by
  unfold fM_start_39b at hf
  refine aw_iload_n (pc' := 40) d_M_start_39 rfl rfl ?_
  refine aw_aload_n (pc' := 41) d_M_start_40 rfl rfl ?_
  refine aw_get (pc' := 44) d_M_start_41 rfl fl_M_56 hM_0 rfl ?_
  refine aw_icmp_ge (tgt := 97) (pc' := 47) d_M_start_44 (by decide) rfl (fun c5 => ?_) (fun c5 => ?_)
  · replace hf := aw_ifp c5 hf
    exact aw_weak [false, false, false, false] rfl (wM_start_97 _ hf)
  · replace hf := aw_ifn c5 hf
    refine aw_aload_n (pc' := 48) d_M_start_47 rfl rfl ?_
    refine aw_get (pc' := 51) d_M_start_48 rfl fl_M_40 hM_0 rfl ?_
    refine aw_iload_n (pc' := 52) d_M_start_51 rfl rfl ?_
    refine aw_iload_n (pc' := 53) d_M_start_52 rfl rfl ?_
    refine aw_iconst (pc' := 54) d_M_start_53 rfl kc_ic_1 ?_
    refine aw_icmp_ne (tgt := 63) (pc' := 57) d_M_start_54 (by decide) rfl (fun c6 => ?_) (fun c6 => ?_)
    · replace hf := aw_ifn c6 hf
      refine aw_ldc2 (pc' := 66) d_M_start_63 rfl wk_M_203 ?_
      refine aw_aload_n (pc' := 67) d_M_start_66 rfl rfl ?_
      refine aw_get (pc' := 70) d_M_start_67 rfl fl_M_56 hM_0 rfl ?_
      refine aw_i2l (pc' := 71) d_M_start_70 rfl ?_
      obtain ⟨g7, hf⟩ := aw_gd hf
      refine aw_ldiv (pc' := 72) d_M_start_71 rfl g7 ?_
      exact aw_weak [true, true, false, true] rfl (wM_start_72 hk39 _ _ _ _ _ hf)
    · replace hf := aw_ifp c6 hf
      refine aw_ldc2 (pc' := 60) d_M_start_57 rfl wk_M_201 ?_
      refine aw_goto (tgt := 72) d_M_start_60 (by decide) ?_
      exact aw_weak [true, true, false, true] rfl (wM_start_72 hk39 _ _ _ _ _ hf)
set_option maxRecDepth 20000 in
theorem wM_start_39 {N : Nat} {r0 : (Int32 × me_M)} : ∀ (F : Nat) (l1 : Int32) (l3 : Int32) (μ : me_M) (hf : fM_start_39 N F l1 l3 μ = some r0), AW "ArcTapeModel" "start" c_M_start 4 (some .boolean) 0 0 0 0 (aw_is (some (.int r0.1)) (hM  r0.2)) 39 [some (.ref 0), some (.int l1), none, some (.int l3)] [] (hM  μ) 0 0 := by
  intro F
  induction F with
  | zero => intro l1 l3 μ hf; exact aw_no hf
  | succ F ih => intro l1 l3 μ hf; exact wM_start_39b ih l1 l3 μ hf
set_option maxRecDepth 20000 in
theorem wM_start_20 {N : Nat} {r0 : (Int32 × me_M)} (μ : me_M) (hf : fM_start_20 N μ = some r0) : AW "ArcTapeModel" "start" c_M_start 4 (some .boolean) 0 0 0 0 (aw_is (some (.int r0.1)) (hM  r0.2)) 20 [none, none, none, none] [] (hM  μ) 0 0 := by
  unfold fM_start_20 at hf
  refine aw_iconst (pc' := 21) d_M_start_20 rfl kc_ic_0 ?_
  obtain ⟨g8, hf⟩ := aw_gz hf
  cases hf
  exact aw_zreturn rfl g8.1 d_M_start_21 (Nat.le_refl 0) (Nat.le_refl 0) ⟨rfl, rfl⟩
set_option maxRecDepth 20000 in
theorem mM_start {N : Nat} {μ : me_M} {r0 : (Int32 × me_M)} {l1 : Int32} {l2 : Int32} (hf : fM_start N l1 l2 μ = some r0) : AM y_M_start c_M_start 4 (some .boolean) 0 0 0 0 [.ref 0, .int l1, .int l2] (hM  μ) (aw_is (some (.int r0.1)) (hM  r0.2)) := by
  unfold fM_start at hf
  refine AM.of (own := "ArcTapeModel") (nm := "start") (L := [some (.ref 0), some (.int l1), some (.int l2), none]) rfl rfl (by decide) (Nat.le_of_ble_eq_true rfl) rfl ?_
  refine aw_iload_n (pc' := 1) d_M_start_0 rfl rfl ?_
  refine aw_if_lt (tgt := 20) (pc' := 4) d_M_start_1 (by decide) rfl (fun c9 => ?_) (fun c9 => ?_)
  · replace hf := aw_ifp c9 hf
    exact aw_weak [false, false, false, false] rfl (wM_start_20 _ hf)
  · replace hf := aw_ifn c9 hf
    refine aw_iload_n (pc' := 5) d_M_start_4 rfl rfl ?_
    refine aw_iconst (pc' := 6) d_M_start_5 rfl kc_ic_2 ?_
    refine aw_icmp_gt (tgt := 20) (pc' := 9) d_M_start_6 (by decide) rfl (fun c10 => ?_) (fun c10 => ?_)
    · replace hf := aw_ifp c10 hf
      exact aw_weak [false, false, false, false] rfl (wM_start_20 _ hf)
    · replace hf := aw_ifn c10 hf
      refine aw_iload_n (pc' := 10) d_M_start_9 rfl rfl ?_
      refine aw_if_lt (tgt := 20) (pc' := 13) d_M_start_10 (by decide) rfl (fun c11 => ?_) (fun c11 => ?_)
      · replace hf := aw_ifp c11 hf
        exact aw_weak [false, false, false, false] rfl (wM_start_20 _ hf)
      · replace hf := aw_ifn c11 hf
        refine aw_iload_n (pc' := 14) d_M_start_13 rfl rfl ?_
        refine aw_sipush (pc' := 17) d_M_start_14 rfl kc_si_1000 ?_
        refine aw_icmp_le (tgt := 22) (pc' := 20) d_M_start_17 (by decide) rfl (fun c12 => ?_) (fun c12 => ?_)
        · replace hf := aw_ifp c12 hf
          refine aw_aload_n (pc' := 23) d_M_start_22 rfl rfl ?_
          refine aw_iload_n (pc' := 24) d_M_start_23 rfl rfl ?_
          refine aw_puti (pc' := 27) (h' := (hM  (me_wi μ 120 0 l1))) d_M_start_24 rfl fp_M_191 hM_0 (Nat.le_of_ble_eq_true rfl) rfl ?_
          refine aw_aload_n (pc' := 28) d_M_start_27 rfl rfl ?_
          refine aw_iload_n (pc' := 29) d_M_start_28 rfl rfl ?_
          refine aw_puti (pc' := 32) (h' := (hM  (me_wi (me_wi μ 120 0 l1) 121 0 l2))) d_M_start_29 rfl fp_M_194 hM_0 (Nat.le_of_ble_eq_true rfl) rfl ?_
          refine aw_aload_n (pc' := 33) d_M_start_32 rfl rfl ?_
          refine aw_lconst (pc' := 34) d_M_start_33 rfl kc_lc_0 ?_
          refine aw_putj (pc' := 37) (h' := (hM  (me_wl (me_wi (me_wi μ 120 0 l1) 121 0 l2) 125 0 (0 : Int64)))) d_M_start_34 rfl fp_M_197 hM_0 (Nat.le_of_ble_eq_true rfl) rfl ?_
          refine aw_iconst (pc' := 38) d_M_start_37 rfl kc_ic_0 ?_
          refine aw_istore_n (pc' := 39) (L' := [some (.ref 0), some (.int l1), some (.int l2), some (.int (0 : Int32))]) d_M_start_38 rfl (by decide) rfl ?_
          exact aw_weak [true, true, false, true] rfl (wM_start_39 _ _ _ _ hf)
        · replace hf := aw_ifn c12 hf
          exact aw_weak [false, false, false, false] rfl (wM_start_20 _ hf)
set_option maxRecDepth 20000 in
theorem wM_node_17 {N : Nat} {μ : me_M} {r0 : Int32} (s0 : Int32) (hf : fM_node_17 N μ s0 = some r0) : AW "ArcTapeModel" "node" c_M_node 2 (some .boolean) 0 0 0 0 (aw_is (some (.int r0)) (hM  μ)) 17 [none, none] [.int s0] (hM  μ) 0 0 := by
  unfold fM_node_17 at hf
  obtain ⟨g1, hf⟩ := aw_gz hf
  cases hf
  exact aw_zreturn rfl g1.1 d_M_node_17 (Nat.le_refl 0) (Nat.le_refl 0) ⟨rfl, rfl⟩
set_option maxRecDepth 20000 in
theorem wM_node_16 {N : Nat} {μ : me_M} {r0 : Int32} (hf : fM_node_16 N μ = some r0) : AW "ArcTapeModel" "node" c_M_node 2 (some .boolean) 0 0 0 0 (aw_is (some (.int r0)) (hM  μ)) 16 [none, none] [] (hM  μ) 0 0 := by
  unfold fM_node_16 at hf
  refine aw_iconst (pc' := 17) d_M_node_16 rfl kc_ic_0 ?_
  exact aw_weak [false, false] rfl (wM_node_17 _ hf)
set_option maxRecDepth 20000 in
theorem mM_node {N : Nat} {μ : me_M} {r0 : Int32} {l1 : Int32} (hf : fM_node N μ l1 = some r0) : AM y_M_node c_M_node 2 (some .boolean) 0 0 0 0 [.ref 0, .int l1] (hM  μ) (aw_is (some (.int r0)) (hM  μ)) := by
  unfold fM_node at hf
  refine AM.of (own := "ArcTapeModel") (nm := "node") (L := [some (.ref 0), some (.int l1)]) rfl rfl (by decide) (Nat.le_of_ble_eq_true rfl) rfl ?_
  refine aw_iload_n (pc' := 1) d_M_node_0 rfl rfl ?_
  refine aw_if_lt (tgt := 16) (pc' := 4) d_M_node_1 (by decide) rfl (fun c2 => ?_) (fun c2 => ?_)
  · replace hf := aw_ifp c2 hf
    exact aw_weak [false, false] rfl (wM_node_16  hf)
  · replace hf := aw_ifn c2 hf
    refine aw_iload_n (pc' := 5) d_M_node_4 rfl rfl ?_
    refine aw_aload_n (pc' := 6) d_M_node_5 rfl rfl ?_
    refine aw_get (pc' := 9) d_M_node_6 rfl fl_M_56 hM_0 rfl ?_
    refine aw_icmp_ge (tgt := 16) (pc' := 12) d_M_node_9 (by decide) rfl (fun c3 => ?_) (fun c3 => ?_)
    · replace hf := aw_ifp c3 hf
      exact aw_weak [false, false] rfl (wM_node_16  hf)
    · replace hf := aw_ifn c3 hf
      refine aw_iconst (pc' := 13) d_M_node_12 rfl kc_ic_1 ?_
      refine aw_goto (tgt := 17) d_M_node_13 (by decide) ?_
      exact aw_weak [false, false] rfl (wM_node_17 _ hf)
set_option maxRecDepth 20000 in
theorem wM_add_30 {N : Nat} {r0 : (Int32 × me_M)} (μ : me_M) (hf : fM_add_30 N μ = some r0) : AW "ArcTapeModel" "add" c_M_add 3 (some .boolean) 1 0 0 0 (aw_is (some (.int r0.1)) (hM  r0.2)) 30 [none, none, none] [] (hM  μ) 0 0 := by
  unfold fM_add_30 at hf
  refine aw_iconst (pc' := 31) d_M_add_30 rfl kc_ic_0 ?_
  obtain ⟨g1, hf⟩ := aw_gz hf
  cases hf
  exact aw_zreturn rfl g1.1 d_M_add_31 (Nat.le_refl 0) (Nat.le_refl 0) ⟨rfl, rfl⟩
set_option maxRecDepth 20000 in
theorem mM_add {N : Nat} {μ : me_M} {r0 : (Int32 × me_M)} {l1 : Int32} {l2 : Int32} (hf : fM_add N l1 l2 μ = some r0) : AM y_M_add c_M_add 3 (some .boolean) 1 0 0 0 [.ref 0, .int l1, .int l2] (hM  μ) (aw_is (some (.int r0.1)) (hM  r0.2)) := by
  unfold fM_add at hf
  refine AM.of (own := "ArcTapeModel") (nm := "add") (L := [some (.ref 0), some (.int l1), some (.int l2)]) rfl rfl (by decide) (Nat.le_of_ble_eq_true rfl) rfl ?_
  refine aw_aload_n (pc' := 1) d_M_add_0 rfl rfl ?_
  refine aw_iload_n (pc' := 2) d_M_add_1 rfl rfl ?_
  obtain ⟨r2, hr2, hf⟩ := aw_bind hf
  refine aw_callVv (pc' := 5) (av := [.int l1]) d_M_add_2 rfl wc_M_68 hM_0 (mM_node hr2) (Or.inl rfl) rfl (by decide) (Nat.le_of_ble_eq_true rfl) ⟨(Nat.le_refl 0), (Nat.le_refl 0)⟩ ?_
  refine aw_if_eq (tgt := 30) (pc' := 8) d_M_add_5 (by decide) rfl (fun c3 => ?_) (fun c3 => ?_)
  · replace hf := aw_ifp c3 hf
    exact aw_weak [false, false, false] rfl (wM_add_30 _ hf)
  · replace hf := aw_ifn c3 hf
    refine aw_aload_n (pc' := 9) d_M_add_8 rfl rfl ?_
    refine aw_iload_n (pc' := 10) d_M_add_9 rfl rfl ?_
    obtain ⟨r4, hr4, hf⟩ := aw_bind hf
    refine aw_callVv (pc' := 13) (av := [.int l2]) d_M_add_10 rfl wc_M_68 hM_0 (mM_node hr4) (Or.inl rfl) rfl (by decide) (Nat.le_of_ble_eq_true rfl) ⟨(Nat.le_refl 0), (Nat.le_refl 0)⟩ ?_
    refine aw_if_eq (tgt := 30) (pc' := 16) d_M_add_13 (by decide) rfl (fun c5 => ?_) (fun c5 => ?_)
    · replace hf := aw_ifp c5 hf
      exact aw_weak [false, false, false] rfl (wM_add_30 _ hf)
    · replace hf := aw_ifn c5 hf
      refine aw_aload_n (pc' := 17) d_M_add_16 rfl rfl ?_
      refine aw_get (pc' := 20) d_M_add_17 rfl fl_M_7 hM_0 rfl ?_
      refine aw_iload_n (pc' := 21) d_M_add_20 rfl rfl ?_
      obtain ⟨g6, hf⟩ := aw_gi hf
      refine aw_iald (pc' := 22) d_M_add_21 rfl rfl hM_1 g6 ?_
      refine aw_iload_n (pc' := 23) d_M_add_22 rfl rfl ?_
      refine aw_ishr (pc' := 24) d_M_add_23 rfl ?_
      refine aw_iconst (pc' := 25) d_M_add_24 rfl kc_ic_1 ?_
      refine aw_iand (pc' := 26) d_M_add_25 rfl ?_
      refine aw_iconst (pc' := 27) d_M_add_26 rfl kc_ic_1 ?_
      refine aw_icmp_ne (tgt := 32) (pc' := 30) d_M_add_27 (by decide) rfl (fun c7 => ?_) (fun c7 => ?_)
      · replace hf := aw_ifn c7 hf
        refine aw_aload_n (pc' := 33) d_M_add_32 rfl rfl ?_
        refine aw_get (pc' := 36) d_M_add_33 rfl fl_M_7 hM_0 rfl ?_
        refine aw_iload_n (pc' := 37) d_M_add_36 rfl rfl ?_
        refine aw_dup2 (pc' := 38) d_M_add_37 rfl rfl rfl ?_
        obtain ⟨g8, hf⟩ := aw_gi hf
        refine aw_iald (pc' := 39) d_M_add_38 rfl rfl hM_1 g8 ?_
        refine aw_iconst (pc' := 40) d_M_add_39 rfl kc_ic_1 ?_
        refine aw_iload_n (pc' := 41) d_M_add_40 rfl rfl ?_
        refine aw_ishl (pc' := 42) d_M_add_41 rfl ?_
        refine aw_ior (pc' := 43) d_M_add_42 rfl ?_
        obtain ⟨g9, hf⟩ := aw_gi hf
        refine aw_iast (pc' := 44) (h' := (hM  (me_wi μ 1 l1.toNatClampNeg ((μ.1 1 l1.toNatClampNeg) ||| ((1 : Int32) <<< (l2 &&& 31)))))) d_M_add_43 rfl rfl hM_1 g9 rfl ?_
        refine aw_iconst (pc' := 45) d_M_add_44 rfl kc_ic_1 ?_
        obtain ⟨g10, hf⟩ := aw_gz hf
        cases hf
        exact aw_zreturn rfl g10.1 d_M_add_45 (Nat.le_refl 0) (Nat.le_refl 0) ⟨rfl, rfl⟩
      · replace hf := aw_ifp c7 hf
        exact aw_weak [false, false, false] rfl (wM_add_30 _ hf)
set_option maxRecDepth 20000 in
theorem wM_drop_29 {N : Nat} {r0 : (Int32 × me_M)} (μ : me_M) (hf : fM_drop_29 N μ = some r0) : AW "ArcTapeModel" "drop" c_M_drop 3 (some .boolean) 1 0 0 0 (aw_is (some (.int r0.1)) (hM  r0.2)) 29 [none, none, none] [] (hM  μ) 0 0 := by
  unfold fM_drop_29 at hf
  refine aw_iconst (pc' := 30) d_M_drop_29 rfl kc_ic_0 ?_
  obtain ⟨g1, hf⟩ := aw_gz hf
  cases hf
  exact aw_zreturn rfl g1.1 d_M_drop_30 (Nat.le_refl 0) (Nat.le_refl 0) ⟨rfl, rfl⟩
set_option maxRecDepth 20000 in
theorem mM_drop {N : Nat} {μ : me_M} {r0 : (Int32 × me_M)} {l1 : Int32} {l2 : Int32} (hf : fM_drop N l1 l2 μ = some r0) : AM y_M_drop c_M_drop 3 (some .boolean) 1 0 0 0 [.ref 0, .int l1, .int l2] (hM  μ) (aw_is (some (.int r0.1)) (hM  r0.2)) := by
  unfold fM_drop at hf
  refine AM.of (own := "ArcTapeModel") (nm := "drop") (L := [some (.ref 0), some (.int l1), some (.int l2)]) rfl rfl (by decide) (Nat.le_of_ble_eq_true rfl) rfl ?_
  refine aw_aload_n (pc' := 1) d_M_drop_0 rfl rfl ?_
  refine aw_iload_n (pc' := 2) d_M_drop_1 rfl rfl ?_
  obtain ⟨r2, hr2, hf⟩ := aw_bind hf
  refine aw_callVv (pc' := 5) (av := [.int l1]) d_M_drop_2 rfl wc_M_68 hM_0 (mM_node hr2) (Or.inl rfl) rfl (by decide) (Nat.le_of_ble_eq_true rfl) ⟨(Nat.le_refl 0), (Nat.le_refl 0)⟩ ?_
  refine aw_if_eq (tgt := 29) (pc' := 8) d_M_drop_5 (by decide) rfl (fun c3 => ?_) (fun c3 => ?_)
  · replace hf := aw_ifp c3 hf
    exact aw_weak [false, false, false] rfl (wM_drop_29 _ hf)
  · replace hf := aw_ifn c3 hf
    refine aw_aload_n (pc' := 9) d_M_drop_8 rfl rfl ?_
    refine aw_iload_n (pc' := 10) d_M_drop_9 rfl rfl ?_
    obtain ⟨r4, hr4, hf⟩ := aw_bind hf
    refine aw_callVv (pc' := 13) (av := [.int l2]) d_M_drop_10 rfl wc_M_68 hM_0 (mM_node hr4) (Or.inl rfl) rfl (by decide) (Nat.le_of_ble_eq_true rfl) ⟨(Nat.le_refl 0), (Nat.le_refl 0)⟩ ?_
    refine aw_if_eq (tgt := 29) (pc' := 16) d_M_drop_13 (by decide) rfl (fun c5 => ?_) (fun c5 => ?_)
    · replace hf := aw_ifp c5 hf
      exact aw_weak [false, false, false] rfl (wM_drop_29 _ hf)
    · replace hf := aw_ifn c5 hf
      refine aw_aload_n (pc' := 17) d_M_drop_16 rfl rfl ?_
      refine aw_get (pc' := 20) d_M_drop_17 rfl fl_M_7 hM_0 rfl ?_
      refine aw_iload_n (pc' := 21) d_M_drop_20 rfl rfl ?_
      obtain ⟨g6, hf⟩ := aw_gi hf
      refine aw_iald (pc' := 22) d_M_drop_21 rfl rfl hM_1 g6 ?_
      refine aw_iload_n (pc' := 23) d_M_drop_22 rfl rfl ?_
      refine aw_ishr (pc' := 24) d_M_drop_23 rfl ?_
      refine aw_iconst (pc' := 25) d_M_drop_24 rfl kc_ic_1 ?_
      refine aw_iand (pc' := 26) d_M_drop_25 rfl ?_
      refine aw_if_ne (tgt := 31) (pc' := 29) d_M_drop_26 (by decide) rfl (fun c7 => ?_) (fun c7 => ?_)
      · replace hf := aw_ifn c7 hf
        refine aw_aload_n (pc' := 32) d_M_drop_31 rfl rfl ?_
        refine aw_get (pc' := 35) d_M_drop_32 rfl fl_M_7 hM_0 rfl ?_
        refine aw_iload_n (pc' := 36) d_M_drop_35 rfl rfl ?_
        refine aw_dup2 (pc' := 37) d_M_drop_36 rfl rfl rfl ?_
        obtain ⟨g8, hf⟩ := aw_gi hf
        refine aw_iald (pc' := 38) d_M_drop_37 rfl rfl hM_1 g8 ?_
        refine aw_iconst (pc' := 39) d_M_drop_38 rfl kc_ic_1 ?_
        refine aw_iload_n (pc' := 40) d_M_drop_39 rfl rfl ?_
        refine aw_ishl (pc' := 41) d_M_drop_40 rfl ?_
        refine aw_iconst (pc' := 42) d_M_drop_41 rfl kc_ic_m1 ?_
        refine aw_ixor (pc' := 43) d_M_drop_42 rfl ?_
        refine aw_iand (pc' := 44) d_M_drop_43 rfl ?_
        obtain ⟨g9, hf⟩ := aw_gi hf
        refine aw_iast (pc' := 45) (h' := (hM  (me_wi μ 1 l1.toNatClampNeg ((μ.1 1 l1.toNatClampNeg) &&& (((1 : Int32) <<< (l2 &&& 31)) ^^^ (-1 : Int32)))))) d_M_drop_44 rfl rfl hM_1 g9 rfl ?_
        refine aw_iconst (pc' := 46) d_M_drop_45 rfl kc_ic_1 ?_
        obtain ⟨g10, hf⟩ := aw_gz hf
        cases hf
        exact aw_zreturn rfl g10.1 d_M_drop_46 (Nat.le_refl 0) (Nat.le_refl 0) ⟨rfl, rfl⟩
      · replace hf := aw_ifp c7 hf
        exact aw_weak [false, false, false] rfl (wM_drop_29 _ hf)
set_option maxRecDepth 20000 in
theorem wM_whole_18 {N : Nat} {h0 : aw_H} {r0 : Int32} (s0 : Int32) (hf : fM_whole_18 N s0 = some r0) : AW "ArcTapeModel" "whole" c_M_whole 1 (some .int) 0 0 0 0 (aw_is (some (.int r0)) h0) 18 [none] [.int s0] h0 0 0 := by
  unfold fM_whole_18 at hf
  cases hf
  exact aw_ireturn rfl d_M_whole_18 (Nat.le_refl 0) (Nat.le_refl 0) ⟨rfl, rfl⟩
set_option maxRecDepth 20000 in
theorem mM_whole {N : Nat} {h0 : aw_H} {r0 : Int32} {l0 : Int32} (hf : fM_whole N l0 = some r0) : AM y_M_whole c_M_whole 1 (some .int) 0 0 0 0 [.int l0] h0 (aw_is (some (.int r0)) h0) := by
  unfold fM_whole at hf
  refine AM.of (own := "ArcTapeModel") (nm := "whole") (L := [some (.int l0)]) rfl rfl (by decide) (Nat.le_of_ble_eq_true rfl) rfl ?_
  refine aw_iload_n (pc' := 1) d_M_whole_0 rfl rfl ?_
  refine aw_iconst (pc' := 2) d_M_whole_1 rfl kc_ic_1 ?_
  refine aw_iand (pc' := 3) d_M_whole_2 rfl ?_
  refine aw_if_ne (tgt := 12) (pc' := 6) d_M_whole_3 (by decide) rfl (fun c1 => ?_) (fun c1 => ?_)
  · replace hf := aw_ifn c1 hf
    refine aw_iload_n (pc' := 13) d_M_whole_12 rfl rfl ?_
    refine aw_iconst (pc' := 14) d_M_whole_13 rfl kc_ic_1 ?_
    refine aw_iadd (pc' := 15) d_M_whole_14 rfl ?_
    refine aw_iconst (pc' := 16) d_M_whole_15 rfl kc_ic_1 ?_
    refine aw_ishr (pc' := 17) d_M_whole_16 rfl ?_
    refine aw_ineg (pc' := 18) d_M_whole_17 rfl ?_
    exact aw_weak [false] rfl (wM_whole_18 _ hf)
  · replace hf := aw_ifp c1 hf
    refine aw_iload_n (pc' := 7) d_M_whole_6 rfl rfl ?_
    refine aw_iconst (pc' := 8) d_M_whole_7 rfl kc_ic_1 ?_
    refine aw_ishr (pc' := 9) d_M_whole_8 rfl ?_
    refine aw_goto (tgt := 18) d_M_whole_9 (by decide) ?_
    exact aw_weak [false] rfl (wM_whole_18 _ hf)
set_option maxRecDepth 20000 in
theorem wM_offset_22 {N : Nat} {μ : me_M} {r0 : Int32} (s0 : Int32) (hf : fM_offset_22 N μ s0 = some r0) : AW "ArcTapeModel" "offset" c_M_offset 2 (some .int) 0 0 0 0 (aw_is (some (.int r0)) (hM  μ)) 22 [none, none] [.int s0] (hM  μ) 0 0 := by
  unfold fM_offset_22 at hf
  cases hf
  exact aw_ireturn rfl d_M_offset_22 (Nat.le_refl 0) (Nat.le_refl 0) ⟨rfl, rfl⟩
set_option maxRecDepth 20000 in
theorem wM_offset_21 {N : Nat} {μ : me_M} {r0 : Int32} (hf : fM_offset_21 N μ = some r0) : AW "ArcTapeModel" "offset" c_M_offset 2 (some .int) 0 0 0 0 (aw_is (some (.int r0)) (hM  μ)) 21 [none, none] [] (hM  μ) 0 0 := by
  unfold fM_offset_21 at hf
  refine aw_iconst (pc' := 22) d_M_offset_21 rfl kc_ic_m1 ?_
  exact aw_weak [false, false] rfl (wM_offset_22 _ hf)
set_option maxRecDepth 20000 in
theorem mM_offset {N : Nat} {μ : me_M} {r0 : Int32} {l1 : Int32} (hf : fM_offset N μ l1 = some r0) : AM y_M_offset c_M_offset 2 (some .int) 0 0 0 0 [.ref 0, .int l1] (hM  μ) (aw_is (some (.int r0)) (hM  μ)) := by
  unfold fM_offset at hf
  refine AM.of (own := "ArcTapeModel") (nm := "offset") (L := [some (.ref 0), some (.int l1)]) rfl rfl (by decide) (Nat.le_of_ble_eq_true rfl) rfl ?_
  refine aw_iload_n (pc' := 1) d_M_offset_0 rfl rfl ?_
  refine aw_if_lt (tgt := 21) (pc' := 4) d_M_offset_1 (by decide) rfl (fun c1 => ?_) (fun c1 => ?_)
  · replace hf := aw_ifp c1 hf
    exact aw_weak [false, false] rfl (wM_offset_21  hf)
  · replace hf := aw_ifn c1 hf
    refine aw_iload_n (pc' := 5) d_M_offset_4 rfl rfl ?_
    refine aw_aload_n (pc' := 6) d_M_offset_5 rfl rfl ?_
    refine aw_get (pc' := 9) d_M_offset_6 rfl fl_M_56 hM_0 rfl ?_
    refine aw_icmp_gt (tgt := 21) (pc' := 12) d_M_offset_9 (by decide) rfl (fun c2 => ?_) (fun c2 => ?_)
    · replace hf := aw_ifp c2 hf
      exact aw_weak [false, false] rfl (wM_offset_21  hf)
    · replace hf := aw_ifn c2 hf
      refine aw_aload_n (pc' := 13) d_M_offset_12 rfl rfl ?_
      refine aw_get (pc' := 16) d_M_offset_13 rfl fl_M_16 hM_0 rfl ?_
      refine aw_iload_n (pc' := 17) d_M_offset_16 rfl rfl ?_
      obtain ⟨g3, hf⟩ := aw_gi hf
      refine aw_iald (pc' := 18) d_M_offset_17 rfl rfl hM_3 g3 ?_
      refine aw_goto (tgt := 22) d_M_offset_18 (by decide) ?_
      exact aw_weak [false, false] rfl (wM_offset_22 _ hf)
