set_option maxRecDepth 20000 in
theorem wM_degree_43 {N : Nat} {r0 : (Int32 × me_M)} (s0 : Int32) (μ : me_M) (hf : fM_degree_43 N s0 μ = some r0) : AW "ArcTapeModel" "degree" c_M_degree 2 (some .int) 6 0 0 0 (aw_is (some (.int r0.1)) (hM  r0.2)) 43 [none, none] [.int s0] (hM  μ) 0 0 := by
  unfold fM_degree_43 at hf
  cases hf
  exact aw_ireturn rfl d_M_degree_43 (Nat.le_refl 0) (Nat.le_refl 0) ⟨rfl, rfl⟩
set_option maxRecDepth 20000 in
theorem mM_degree {N : Nat} {μ : me_M} {r0 : (Int32 × me_M)} {l1 : Int32} (hf : fM_degree N l1 μ = some r0) : AM y_M_degree c_M_degree 2 (some .int) 6 0 0 0 [.ref 0, .int l1] (hM  μ) (aw_is (some (.int r0.1)) (hM  r0.2)) := by
  unfold fM_degree at hf
  refine AM.of (own := "ArcTapeModel") (nm := "degree") (L := [some (.ref 0), some (.int l1)]) rfl rfl (by decide) (Nat.le_of_ble_eq_true rfl) rfl ?_
  refine aw_aload_n (pc' := 1) d_M_degree_0 rfl rfl ?_
  refine aw_iload_n (pc' := 2) d_M_degree_1 rfl rfl ?_
  obtain ⟨r1, hr1, hf⟩ := aw_bind hf
  refine aw_callVv (pc' := 5) (av := [.int l1]) d_M_degree_2 rfl wc_M_68 hM_0 (mM_node hr1) (Or.inl rfl) rfl (by decide) (Nat.le_of_ble_eq_true rfl) ⟨(Nat.le_refl 0), (Nat.le_refl 0)⟩ ?_
  refine aw_if_ne (tgt := 11) (pc' := 8) d_M_degree_5 (by decide) rfl (fun c2 => ?_) (fun c2 => ?_)
  · replace hf := aw_ifn c2 hf
    refine aw_aload_n (pc' := 12) d_M_degree_11 rfl rfl ?_
    obtain ⟨r3, hr3, hf⟩ := aw_bind hf
    refine aw_callVn (pc' := 15) (av := []) d_M_degree_12 rfl wc_M_173 hM_0 (mM_read hr3) (Or.inl rfl) rfl (by decide) (Nat.le_of_ble_eq_true rfl) ⟨(Nat.le_refl 0), (Nat.le_refl 0)⟩ ?_
    refine aw_aload_n (pc' := 16) d_M_degree_15 rfl rfl ?_
    refine aw_get (pc' := 19) d_M_degree_16 rfl fl_M_28 hM_0 rfl ?_
    refine aw_iload_n (pc' := 20) d_M_degree_19 rfl rfl ?_
    obtain ⟨g4, hf⟩ := aw_gi hf
    refine aw_iald (pc' := 21) d_M_degree_20 rfl rfl hM_7 g4 ?_
    refine aw_if_le (tgt := 34) (pc' := 24) d_M_degree_21 (by decide) rfl (fun c5 => ?_) (fun c5 => ?_)
    · replace hf := aw_ifp c5 hf
      refine aw_aload_n (pc' := 35) d_M_degree_34 rfl rfl ?_
      refine aw_get (pc' := 38) d_M_degree_35 rfl fl_M_25 hM_0 rfl ?_
      refine aw_iload_n (pc' := 39) d_M_degree_38 rfl rfl ?_
      obtain ⟨g6, hf⟩ := aw_gi hf
      refine aw_iald (pc' := 40) d_M_degree_39 rfl rfl hM_6 g6 ?_
      obtain ⟨r7, hr7, hf⟩ := aw_bind hf
      refine aw_callSv (pc' := 43) (av := [.int (r3.1 6 l1.toNatClampNeg)]) d_M_degree_40 rfl wc_M_106 (mM_ones hr7) (Or.inl rfl) rfl (by decide) (Nat.le_of_ble_eq_true rfl) ⟨(Nat.le_refl 0), (Nat.le_refl 0)⟩ ?_
      exact aw_weak [false, false] rfl (wM_degree_43 _ _ hf)
    · replace hf := aw_ifn c5 hf
      refine aw_aload_n (pc' := 25) d_M_degree_24 rfl rfl ?_
      refine aw_get (pc' := 28) d_M_degree_25 rfl fl_M_28 hM_0 rfl ?_
      refine aw_iload_n (pc' := 29) d_M_degree_28 rfl rfl ?_
      obtain ⟨g8, hf⟩ := aw_gi hf
      refine aw_iald (pc' := 30) d_M_degree_29 rfl rfl hM_7 g8 ?_
      refine aw_ineg (pc' := 31) d_M_degree_30 rfl ?_
      refine aw_goto (tgt := 43) d_M_degree_31 (by decide) ?_
      exact aw_weak [false, false] rfl (wM_degree_43 _ _ hf)
  · replace hf := aw_ifp c2 hf
    refine aw_bipush (pc' := 10) d_M_degree_8 rfl kc_bi_m100 ?_
    cases hf
    exact aw_ireturn rfl d_M_degree_10 (Nat.le_refl 0) (Nat.le_refl 0) ⟨rfl, rfl⟩
set_option maxRecDepth 20000 in
theorem wM_successor_64 {N : Nat} {r0 : (Int32 × me_M)} (μ : me_M) (hf : fM_successor_64 N μ = some r0) : AW "ArcTapeModel" "successor" c_M_successor 5 (some .int) 6 0 0 0 (aw_is (some (.int r0.1)) (hM  r0.2)) 64 [none, none, none, none, none] [] (hM  μ) 0 0 := by
  unfold fM_successor_64 at hf
  refine aw_iconst (pc' := 65) d_M_successor_64 rfl kc_ic_m1 ?_
  cases hf
  exact aw_ireturn rfl d_M_successor_65 (Nat.le_refl 0) (Nat.le_refl 0) ⟨rfl, rfl⟩
set_option maxRecDepth 20000 in
theorem wM_successor_58 {N : Nat} {r0 : (Int32 × me_M)} {k23 : Int32 → Int32 → Int32 → Int32 → me_M → Option (Int32 × me_M)} (hk23 : ∀ (l1 : Int32) (l2 : Int32) (l3 : Int32) (l4 : Int32) (μ : me_M), k23 l1 l2 l3 l4 μ = some r0 → AW "ArcTapeModel" "successor" c_M_successor 5 (some .int) 6 0 0 0 (aw_is (some (.int r0.1)) (hM  r0.2)) 23 [some (.ref 0), some (.int l1), some (.int l2), some (.int l3), some (.int l4)] [] (hM  μ) 0 0) (l1 : Int32) (l2 : Int32) (l3 : Int32) (l4 : Int32) (μ : me_M) (hf : fM_successor_58 N k23 l1 l2 l3 l4 μ = some r0) : AW "ArcTapeModel" "successor" c_M_successor 5 (some .int) 6 0 0 0 (aw_is (some (.int r0.1)) (hM  r0.2)) 58 [some (.ref 0), some (.int l1), some (.int l2), some (.int l3), some (.int l4)] [] (hM  μ) 0 0 := by
  unfold fM_successor_58 at hf
  refine aw_iinc (pc' := 61) (L' := [some (.ref 0), some (.int l1), some (.int l2), some (.int l3), some (.int (l4 + (1 : Int32)))]) d_M_successor_58 rfl kc_ic_1 rfl (by decide) rfl ?_
  refine aw_goto (tgt := 23) d_M_successor_61 (by decide) ?_
  exact aw_weak [true, true, true, true, true] rfl (hk23 _ _ _ _ _ hf)
set_option maxRecDepth 20000 in
theorem wM_successor_23b {N : Nat} {r0 : (Int32 × me_M)} {k23 : Int32 → Int32 → Int32 → Int32 → me_M → Option (Int32 × me_M)} (hk23 : ∀ (l1 : Int32) (l2 : Int32) (l3 : Int32) (l4 : Int32) (μ : me_M), k23 l1 l2 l3 l4 μ = some r0 → AW "ArcTapeModel" "successor" c_M_successor 5 (some .int) 6 0 0 0 (aw_is (some (.int r0.1)) (hM  r0.2)) 23 [some (.ref 0), some (.int l1), some (.int l2), some (.int l3), some (.int l4)] [] (hM  μ) 0 0) (l1 : Int32) (l2 : Int32) (l3 : Int32) (l4 : Int32) (μ : me_M) (hf : fM_successor_23b N k23 l1 l2 l3 l4 μ = some r0) : AW "ArcTapeModel" "successor" c_M_successor 5 (some .int) 6 0 0 0 (aw_is (some (.int r0.1)) (hM  r0.2)) 23 [some (.ref 0), some (.int l1), some (.int l2), some (.int l3), some (.int l4)] [] (hM  μ) 0 0 := by
  unfold fM_successor_23b at hf
  refine aw_iload (pc' := 25) d_M_successor_23 rfl rfl ?_
  refine aw_aload_n (pc' := 26) d_M_successor_25 rfl rfl ?_
  refine aw_get (pc' := 29) d_M_successor_26 rfl fl_M_56 hM_0 rfl ?_
  refine aw_icmp_ge (tgt := 64) (pc' := 32) d_M_successor_29 (by decide) rfl (fun c1 => ?_) (fun c1 => ?_)
  · replace hf := aw_ifp c1 hf
    exact aw_weak [false, false, false, false, false] rfl (wM_successor_64 _ hf)
  · replace hf := aw_ifn c1 hf
    refine aw_aload_n (pc' := 33) d_M_successor_32 rfl rfl ?_
    refine aw_get (pc' := 36) d_M_successor_33 rfl fl_M_25 hM_0 rfl ?_
    refine aw_iload_n (pc' := 37) d_M_successor_36 rfl rfl ?_
    obtain ⟨g2, hf⟩ := aw_gi hf
    refine aw_iald (pc' := 38) d_M_successor_37 rfl rfl hM_6 g2 ?_
    refine aw_iload (pc' := 40) d_M_successor_38 rfl rfl ?_
    refine aw_ishr (pc' := 41) d_M_successor_40 rfl ?_
    refine aw_iconst (pc' := 42) d_M_successor_41 rfl kc_ic_1 ?_
    refine aw_iand (pc' := 43) d_M_successor_42 rfl ?_
    refine aw_iconst (pc' := 44) d_M_successor_43 rfl kc_ic_1 ?_
    refine aw_icmp_ne (tgt := 58) (pc' := 47) d_M_successor_44 (by decide) rfl (fun c3 => ?_) (fun c3 => ?_)
    · replace hf := aw_ifn c3 hf
      exact aw_weak [true, true, true, true, true] rfl (wM_successor_58 hk23 _ _ _ _ _ hf)
    · replace hf := aw_ifp c3 hf
      refine aw_iload_n (pc' := 48) d_M_successor_47 rfl rfl ?_
      refine aw_iload_n (pc' := 49) d_M_successor_48 rfl rfl ?_
      refine aw_icmp_ne (tgt := 55) (pc' := 52) d_M_successor_49 (by decide) rfl (fun c4 => ?_) (fun c4 => ?_)
      · replace hf := aw_ifn c4 hf
        refine aw_iinc (pc' := 58) (L' := [some (.ref 0), some (.int l1), some (.int l2), some (.int (l3 + (1 : Int32))), some (.int l4)]) d_M_successor_55 rfl kc_ic_1 rfl (by decide) rfl ?_
        exact aw_weak [true, true, true, true, true] rfl (wM_successor_58 hk23 _ _ _ _ _ hf)
      · replace hf := aw_ifp c4 hf
        refine aw_iload (pc' := 54) d_M_successor_52 rfl rfl ?_
        cases hf
        exact aw_ireturn rfl d_M_successor_54 (Nat.le_refl 0) (Nat.le_refl 0) ⟨rfl, rfl⟩
set_option maxRecDepth 20000 in
theorem wM_successor_23 {N : Nat} {r0 : (Int32 × me_M)} : ∀ (F : Nat) (l1 : Int32) (l2 : Int32) (l3 : Int32) (l4 : Int32) (μ : me_M) (hf : fM_successor_23 N F l1 l2 l3 l4 μ = some r0), AW "ArcTapeModel" "successor" c_M_successor 5 (some .int) 6 0 0 0 (aw_is (some (.int r0.1)) (hM  r0.2)) 23 [some (.ref 0), some (.int l1), some (.int l2), some (.int l3), some (.int l4)] [] (hM  μ) 0 0 := by
  intro F
  induction F with
  | zero => intro l1 l2 l3 l4 μ hf; exact aw_no hf
  | succ F ih => intro l1 l2 l3 l4 μ hf; exact wM_successor_23b ih l1 l2 l3 l4 μ hf
set_option maxRecDepth 20000 in
theorem wM_successor_12 {N : Nat} {r0 : (Int32 × me_M)} (μ : me_M) (hf : fM_successor_12 N μ = some r0) : AW "ArcTapeModel" "successor" c_M_successor 5 (some .int) 6 0 0 0 (aw_is (some (.int r0.1)) (hM  r0.2)) 12 [none, none, none, none, none] [] (hM  μ) 0 0 := by
  unfold fM_successor_12 at hf
  refine aw_iconst (pc' := 13) d_M_successor_12 rfl kc_ic_m1 ?_
  cases hf
  exact aw_ireturn rfl d_M_successor_13 (Nat.le_refl 0) (Nat.le_refl 0) ⟨rfl, rfl⟩
set_option maxRecDepth 20000 in
theorem mM_successor {N : Nat} {μ : me_M} {r0 : (Int32 × me_M)} {l1 : Int32} {l2 : Int32} (hf : fM_successor N l1 l2 μ = some r0) : AM y_M_successor c_M_successor 5 (some .int) 6 0 0 0 [.ref 0, .int l1, .int l2] (hM  μ) (aw_is (some (.int r0.1)) (hM  r0.2)) := by
  unfold fM_successor at hf
  refine AM.of (own := "ArcTapeModel") (nm := "successor") (L := [some (.ref 0), some (.int l1), some (.int l2), none, none]) rfl rfl (by decide) (Nat.le_of_ble_eq_true rfl) rfl ?_
  refine aw_aload_n (pc' := 1) d_M_successor_0 rfl rfl ?_
  refine aw_iload_n (pc' := 2) d_M_successor_1 rfl rfl ?_
  obtain ⟨r5, hr5, hf⟩ := aw_bind hf
  refine aw_callVv (pc' := 5) (av := [.int l1]) d_M_successor_2 rfl wc_M_68 hM_0 (mM_node hr5) (Or.inl rfl) rfl (by decide) (Nat.le_of_ble_eq_true rfl) ⟨(Nat.le_refl 0), (Nat.le_refl 0)⟩ ?_
  refine aw_if_eq (tgt := 12) (pc' := 8) d_M_successor_5 (by decide) rfl (fun c6 => ?_) (fun c6 => ?_)
  · replace hf := aw_ifp c6 hf
    exact aw_weak [false, false, false, false, false] rfl (wM_successor_12 _ hf)
  · replace hf := aw_ifn c6 hf
    refine aw_iload_n (pc' := 9) d_M_successor_8 rfl rfl ?_
    refine aw_if_ge (tgt := 14) (pc' := 12) d_M_successor_9 (by decide) rfl (fun c7 => ?_) (fun c7 => ?_)
    · replace hf := aw_ifp c7 hf
      refine aw_aload_n (pc' := 15) d_M_successor_14 rfl rfl ?_
      obtain ⟨r8, hr8, hf⟩ := aw_bind hf
      refine aw_callVn (pc' := 18) (av := []) d_M_successor_15 rfl wc_M_173 hM_0 (mM_read hr8) (Or.inl rfl) rfl (by decide) (Nat.le_of_ble_eq_true rfl) ⟨(Nat.le_refl 0), (Nat.le_refl 0)⟩ ?_
      refine aw_iconst (pc' := 19) d_M_successor_18 rfl kc_ic_0 ?_
      refine aw_istore_n (pc' := 20) (L' := [some (.ref 0), some (.int l1), some (.int l2), some (.int (0 : Int32)), none]) d_M_successor_19 rfl (by decide) rfl ?_
      refine aw_iconst (pc' := 21) d_M_successor_20 rfl kc_ic_0 ?_
      refine aw_istore (pc' := 23) (L' := [some (.ref 0), some (.int l1), some (.int l2), some (.int (0 : Int32)), some (.int (0 : Int32))]) d_M_successor_21 rfl (by decide) rfl ?_
      exact aw_weak [true, true, true, true, true] rfl (wM_successor_23 _ _ _ _ _ _ hf)
    · replace hf := aw_ifn c7 hf
      exact aw_weak [false, false, false, false, false] rfl (wM_successor_12 _ hf)
set_option maxRecDepth 20000 in
theorem wM_reference_33 {N : Nat} {r0 : (Int32 × me_M)} (s0 : Int32) (μ : me_M) (hf : fM_reference_33 N s0 μ = some r0) : AW "ArcTapeModel" "reference" c_M_reference 2 (some .int) 6 0 0 0 (aw_is (some (.int r0.1)) (hM  r0.2)) 33 [none, none] [.int s0] (hM  μ) 0 0 := by
  unfold fM_reference_33 at hf
  cases hf
  exact aw_ireturn rfl d_M_reference_33 (Nat.le_refl 0) (Nat.le_refl 0) ⟨rfl, rfl⟩
set_option maxRecDepth 20000 in
theorem mM_reference {N : Nat} {μ : me_M} {r0 : (Int32 × me_M)} {l1 : Int32} (hf : fM_reference N l1 μ = some r0) : AM y_M_reference c_M_reference 2 (some .int) 6 0 0 0 [.ref 0, .int l1] (hM  μ) (aw_is (some (.int r0.1)) (hM  r0.2)) := by
  unfold fM_reference at hf
  refine AM.of (own := "ArcTapeModel") (nm := "reference") (L := [some (.ref 0), some (.int l1)]) rfl rfl (by decide) (Nat.le_of_ble_eq_true rfl) rfl ?_
  refine aw_aload_n (pc' := 1) d_M_reference_0 rfl rfl ?_
  refine aw_iload_n (pc' := 2) d_M_reference_1 rfl rfl ?_
  obtain ⟨r1, hr1, hf⟩ := aw_bind hf
  refine aw_callVv (pc' := 5) (av := [.int l1]) d_M_reference_2 rfl wc_M_68 hM_0 (mM_node hr1) (Or.inl rfl) rfl (by decide) (Nat.le_of_ble_eq_true rfl) ⟨(Nat.le_refl 0), (Nat.le_refl 0)⟩ ?_
  refine aw_if_ne (tgt := 10) (pc' := 8) d_M_reference_5 (by decide) rfl (fun c2 => ?_) (fun c2 => ?_)
  · replace hf := aw_ifn c2 hf
    refine aw_aload_n (pc' := 11) d_M_reference_10 rfl rfl ?_
    obtain ⟨r3, hr3, hf⟩ := aw_bind hf
    refine aw_callVn (pc' := 14) (av := []) d_M_reference_11 rfl wc_M_173 hM_0 (mM_read hr3) (Or.inl rfl) rfl (by decide) (Nat.le_of_ble_eq_true rfl) ⟨(Nat.le_refl 0), (Nat.le_refl 0)⟩ ?_
    refine aw_aload_n (pc' := 15) d_M_reference_14 rfl rfl ?_
    refine aw_get (pc' := 18) d_M_reference_15 rfl fl_M_28 hM_0 rfl ?_
    refine aw_iload_n (pc' := 19) d_M_reference_18 rfl rfl ?_
    obtain ⟨g4, hf⟩ := aw_gi hf
    refine aw_iald (pc' := 20) d_M_reference_19 rfl rfl hM_7 g4 ?_
    refine aw_if_le (tgt := 27) (pc' := 23) d_M_reference_20 (by decide) rfl (fun c5 => ?_) (fun c5 => ?_)
    · replace hf := aw_ifp c5 hf
      refine aw_aload_n (pc' := 28) d_M_reference_27 rfl rfl ?_
      refine aw_get (pc' := 31) d_M_reference_28 rfl fl_M_31 hM_0 rfl ?_
      refine aw_iload_n (pc' := 32) d_M_reference_31 rfl rfl ?_
      obtain ⟨g6, hf⟩ := aw_gi hf
      refine aw_iald (pc' := 33) d_M_reference_32 rfl rfl hM_8 g6 ?_
      exact aw_weak [false, false] rfl (wM_reference_33 _ _ hf)
    · replace hf := aw_ifn c5 hf
      refine aw_iconst (pc' := 24) d_M_reference_23 rfl kc_ic_m1 ?_
      refine aw_goto (tgt := 33) d_M_reference_24 (by decide) ?_
      exact aw_weak [false, false] rfl (wM_reference_33 _ _ hf)
  · replace hf := aw_ifp c2 hf
    refine aw_iconst (pc' := 9) d_M_reference_8 rfl kc_ic_m1 ?_
    cases hf
    exact aw_ireturn rfl d_M_reference_9 (Nat.le_refl 0) (Nat.le_refl 0) ⟨rfl, rfl⟩
set_option maxRecDepth 20000 in
theorem wM_together_56 {N : Nat} {μ : me_M} {r0 : Int32} (l2 : Int32) (hf : fM_together_56 N μ l2 = some r0) : AW "ArcTapeModel" "together" c_M_together 4 (some .int) 0 0 0 0 (aw_is (some (.int r0)) (hM  μ)) 56 [none, none, some (.int l2), none] [] (hM  μ) 0 0 := by
  unfold fM_together_56 at hf
  refine aw_iload_n (pc' := 57) d_M_together_56 rfl rfl ?_
  cases hf
  exact aw_ireturn rfl d_M_together_57 (Nat.le_refl 0) (Nat.le_refl 0) ⟨rfl, rfl⟩
set_option maxRecDepth 20000 in
theorem wM_together_48 {N : Nat} {μ : me_M} {r0 : Int32} {k4 : Int32 → Int32 → Int32 → Option Int32} (hk4 : ∀ (l1 : Int32) (l2 : Int32) (l3 : Int32), k4 l1 l2 l3 = some r0 → AW "ArcTapeModel" "together" c_M_together 4 (some .int) 0 0 0 0 (aw_is (some (.int r0)) (hM  μ)) 4 [some (.ref 0), some (.int l1), some (.int l2), some (.int l3)] [] (hM  μ) 0 0) (l1 : Int32) (l3 : Int32) (s0 : Int32) (s1 : Int32) (hf : fM_together_48 N μ k4 l1 l3 s0 s1 = some r0) : AW "ArcTapeModel" "together" c_M_together 4 (some .int) 0 0 0 0 (aw_is (some (.int r0)) (hM  μ)) 48 [some (.ref 0), some (.int l1), none, some (.int l3)] [.int s1, .int s0] (hM  μ) 0 0 := by
  unfold fM_together_48 at hf
  refine aw_ior (pc' := 49) d_M_together_48 rfl ?_
  refine aw_istore_n (pc' := 50) (L' := [some (.ref 0), some (.int l1), some (.int (s0 ||| s1)), some (.int l3)]) d_M_together_49 rfl (by decide) rfl ?_
  refine aw_iinc (pc' := 53) (L' := [some (.ref 0), some (.int l1), some (.int (s0 ||| s1)), some (.int (l3 + (1 : Int32)))]) d_M_together_50 rfl kc_ic_1 rfl (by decide) rfl ?_
  refine aw_goto (tgt := 4) d_M_together_53 (by decide) ?_
  exact aw_weak [true, true, true, true] rfl (hk4 _ _ _ hf)
set_option maxRecDepth 20000 in
theorem wM_together_47 {N : Nat} {μ : me_M} {r0 : Int32} {k4 : Int32 → Int32 → Int32 → Option Int32} (hk4 : ∀ (l1 : Int32) (l2 : Int32) (l3 : Int32), k4 l1 l2 l3 = some r0 → AW "ArcTapeModel" "together" c_M_together 4 (some .int) 0 0 0 0 (aw_is (some (.int r0)) (hM  μ)) 4 [some (.ref 0), some (.int l1), some (.int l2), some (.int l3)] [] (hM  μ) 0 0) (l1 : Int32) (l3 : Int32) (s0 : Int32) (hf : fM_together_47 N μ k4 l1 l3 s0 = some r0) : AW "ArcTapeModel" "together" c_M_together 4 (some .int) 0 0 0 0 (aw_is (some (.int r0)) (hM  μ)) 47 [some (.ref 0), some (.int l1), none, some (.int l3)] [.int s0] (hM  μ) 0 0 := by
  unfold fM_together_47 at hf
  refine aw_iconst (pc' := 48) d_M_together_47 rfl kc_ic_0 ?_
  exact aw_weak [true, true, false, true] rfl (wM_together_48 hk4 _ _ _ _ hf)
set_option maxRecDepth 20000 in
theorem wM_together_4b {N : Nat} {μ : me_M} {r0 : Int32} {k4 : Int32 → Int32 → Int32 → Option Int32} (hk4 : ∀ (l1 : Int32) (l2 : Int32) (l3 : Int32), k4 l1 l2 l3 = some r0 → AW "ArcTapeModel" "together" c_M_together 4 (some .int) 0 0 0 0 (aw_is (some (.int r0)) (hM  μ)) 4 [some (.ref 0), some (.int l1), some (.int l2), some (.int l3)] [] (hM  μ) 0 0) (l1 : Int32) (l2 : Int32) (l3 : Int32) (hf : fM_together_4b N μ k4 l1 l2 l3 = some r0) : AW "ArcTapeModel" "together" c_M_together 4 (some .int) 0 0 0 0 (aw_is (some (.int r0)) (hM  μ)) 4 [some (.ref 0), some (.int l1), some (.int l2), some (.int l3)] [] (hM  μ) 0 0 := by
  unfold fM_together_4b at hf
  refine aw_iload_n (pc' := 5) d_M_together_4 rfl rfl ?_
  refine aw_aload_n (pc' := 6) d_M_together_5 rfl rfl ?_
  refine aw_get (pc' := 9) d_M_together_6 rfl fl_M_56 hM_0 rfl ?_
  refine aw_icmp_ge (tgt := 56) (pc' := 12) d_M_together_9 (by decide) rfl (fun c1 => ?_) (fun c1 => ?_)
  · replace hf := aw_ifp c1 hf
    exact aw_weak [false, false, true, false] rfl (wM_together_56 _ hf)
  · replace hf := aw_ifn c1 hf
    refine aw_iload_n (pc' := 13) d_M_together_12 rfl rfl ?_
    refine aw_aload_n (pc' := 14) d_M_together_13 rfl rfl ?_
    refine aw_get (pc' := 17) d_M_together_14 rfl fl_M_50 hM_0 rfl ?_
    refine aw_iload_n (pc' := 18) d_M_together_17 rfl rfl ?_
    obtain ⟨g2, hf⟩ := aw_gi hf
    refine aw_iald (pc' := 19) d_M_together_18 rfl rfl hM_14 g2 ?_
    refine aw_iload_n (pc' := 20) d_M_together_19 rfl rfl ?_
    refine aw_ishr (pc' := 21) d_M_together_20 rfl ?_
    refine aw_iconst (pc' := 22) d_M_together_21 rfl kc_ic_1 ?_
    refine aw_iand (pc' := 23) d_M_together_22 rfl ?_
    refine aw_iconst (pc' := 24) d_M_together_23 rfl kc_ic_1 ?_
    refine aw_icmp_ne (tgt := 47) (pc' := 27) d_M_together_24 (by decide) rfl (fun c3 => ?_) (fun c3 => ?_)
    · replace hf := aw_ifn c3 hf
      exact aw_weak [true, true, false, true] rfl (wM_together_47 hk4 _ _ _ hf)
    · replace hf := aw_ifp c3 hf
      refine aw_aload_n (pc' := 28) d_M_together_27 rfl rfl ?_
      refine aw_get (pc' := 31) d_M_together_28 rfl fl_M_50 hM_0 rfl ?_
      refine aw_iload_n (pc' := 32) d_M_together_31 rfl rfl ?_
      obtain ⟨g4, hf⟩ := aw_gi hf
      refine aw_iald (pc' := 33) d_M_together_32 rfl rfl hM_14 g4 ?_
      refine aw_iload_n (pc' := 34) d_M_together_33 rfl rfl ?_
      refine aw_ishr (pc' := 35) d_M_together_34 rfl ?_
      refine aw_iconst (pc' := 36) d_M_together_35 rfl kc_ic_1 ?_
      refine aw_iand (pc' := 37) d_M_together_36 rfl ?_
      refine aw_iconst (pc' := 38) d_M_together_37 rfl kc_ic_1 ?_
      refine aw_icmp_ne (tgt := 47) (pc' := 41) d_M_together_38 (by decide) rfl (fun c5 => ?_) (fun c5 => ?_)
      · replace hf := aw_ifn c5 hf
        exact aw_weak [true, true, false, true] rfl (wM_together_47 hk4 _ _ _ hf)
      · replace hf := aw_ifp c5 hf
        refine aw_iconst (pc' := 42) d_M_together_41 rfl kc_ic_1 ?_
        refine aw_iload_n (pc' := 43) d_M_together_42 rfl rfl ?_
        refine aw_ishl (pc' := 44) d_M_together_43 rfl ?_
        refine aw_goto (tgt := 48) d_M_together_44 (by decide) ?_
        exact aw_weak [true, true, false, true] rfl (wM_together_48 hk4 _ _ _ _ hf)
set_option maxRecDepth 20000 in
theorem wM_together_4 {N : Nat} {μ : me_M} {r0 : Int32} : ∀ (F : Nat) (l1 : Int32) (l2 : Int32) (l3 : Int32) (hf : fM_together_4 N μ F l1 l2 l3 = some r0), AW "ArcTapeModel" "together" c_M_together 4 (some .int) 0 0 0 0 (aw_is (some (.int r0)) (hM  μ)) 4 [some (.ref 0), some (.int l1), some (.int l2), some (.int l3)] [] (hM  μ) 0 0 := by
  intro F
  induction F with
  | zero => intro l1 l2 l3 hf; exact aw_no hf
  | succ F ih => intro l1 l2 l3 hf; exact wM_together_4b ih l1 l2 l3 hf
set_option maxRecDepth 20000 in
theorem mM_together {N : Nat} {μ : me_M} {r0 : Int32} {l1 : Int32} (hf : fM_together N μ l1 = some r0) : AM y_M_together c_M_together 4 (some .int) 0 0 0 0 [.ref 0, .int l1] (hM  μ) (aw_is (some (.int r0)) (hM  μ)) := by
  unfold fM_together at hf
  refine AM.of (own := "ArcTapeModel") (nm := "together") (L := [some (.ref 0), some (.int l1), none, none]) rfl rfl (by decide) (Nat.le_of_ble_eq_true rfl) rfl ?_
  refine aw_iconst (pc' := 1) d_M_together_0 rfl kc_ic_0 ?_
  refine aw_istore_n (pc' := 2) (L' := [some (.ref 0), some (.int l1), some (.int (0 : Int32)), none]) d_M_together_1 rfl (by decide) rfl ?_
  refine aw_iconst (pc' := 3) d_M_together_2 rfl kc_ic_0 ?_
  refine aw_istore_n (pc' := 4) (L' := [some (.ref 0), some (.int l1), some (.int (0 : Int32)), some (.int (0 : Int32))]) d_M_together_3 rfl (by decide) rfl ?_
  exact aw_weak [true, true, true, true] rfl (wM_together_4 _ _ _ _ hf)
set_option maxRecDepth 20000 in
theorem wM_firstReady_91 {N : Nat} {μ : me_M} {r0 : Int32} (hf : fM_firstReady_91 N μ = some r0) : AW "ArcTapeModel" "firstReady" c_M_firstReady 6 (some .int) 1 0 0 0 (aw_is (some (.int r0)) (hM  μ)) 91 [none, none, none, none, none, none] [] (hM  μ) 0 0 := by
  unfold fM_firstReady_91 at hf
  refine aw_iconst (pc' := 92) d_M_firstReady_91 rfl kc_ic_m1 ?_
  cases hf
  exact aw_ireturn rfl d_M_firstReady_92 (Nat.le_refl 0) (Nat.le_refl 0) ⟨rfl, rfl⟩
set_option maxRecDepth 20000 in
theorem wM_firstReady_85 {N : Nat} {μ : me_M} {r0 : Int32} {k2 : Int32 → Int32 → Option Int32} (hk2 : ∀ (l1 : Int32) (l2 : Int32), k2 l1 l2 = some r0 → AW "ArcTapeModel" "firstReady" c_M_firstReady 6 (some .int) 1 0 0 0 (aw_is (some (.int r0)) (hM  μ)) 2 [some (.ref 0), some (.int l1), some (.int l2), none, none, none] [] (hM  μ) 0 0) (l1 : Int32) (l2 : Int32) (hf : fM_firstReady_85 N μ k2 l1 l2 = some r0) : AW "ArcTapeModel" "firstReady" c_M_firstReady 6 (some .int) 1 0 0 0 (aw_is (some (.int r0)) (hM  μ)) 85 [some (.ref 0), some (.int l1), some (.int l2), none, none, none] [] (hM  μ) 0 0 := by
  unfold fM_firstReady_85 at hf
  refine aw_iinc (pc' := 88) (L' := [some (.ref 0), some (.int l1), some (.int (l2 + (1 : Int32))), none, none, none]) d_M_firstReady_85 rfl kc_ic_1 rfl (by decide) rfl ?_
  refine aw_goto (tgt := 2) d_M_firstReady_88 (by decide) ?_
  exact aw_weak [true, true, true, false, false, false] rfl (hk2 _ _ hf)
set_option maxRecDepth 20000 in
theorem wM_firstReady_72 {N : Nat} {μ : me_M} {r0 : Int32} {k2 : Int32 → Int32 → Option Int32} (hk2 : ∀ (l1 : Int32) (l2 : Int32), k2 l1 l2 = some r0 → AW "ArcTapeModel" "firstReady" c_M_firstReady 6 (some .int) 1 0 0 0 (aw_is (some (.int r0)) (hM  μ)) 2 [some (.ref 0), some (.int l1), some (.int l2), none, none, none] [] (hM  μ) 0 0) (l1 : Int32) (l2 : Int32) (l3 : Int32) (l4 : Int32) (hf : fM_firstReady_72 N μ k2 l1 l2 l3 l4 = some r0) : AW "ArcTapeModel" "firstReady" c_M_firstReady 6 (some .int) 1 0 0 0 (aw_is (some (.int r0)) (hM  μ)) 72 [some (.ref 0), some (.int l1), some (.int l2), some (.int l3), some (.int l4), none] [] (hM  μ) 0 0 := by
  unfold fM_firstReady_72 at hf
  refine aw_iload (pc' := 74) d_M_firstReady_72 rfl rfl ?_
  refine aw_iload_n (pc' := 75) d_M_firstReady_74 rfl rfl ?_
  refine aw_iload_n (pc' := 76) d_M_firstReady_75 rfl rfl ?_
  refine aw_ior (pc' := 77) d_M_firstReady_76 rfl ?_
  refine aw_iconst (pc' := 78) d_M_firstReady_77 rfl kc_ic_m1 ?_
  refine aw_ixor (pc' := 79) d_M_firstReady_78 rfl ?_
  refine aw_iand (pc' := 80) d_M_firstReady_79 rfl ?_
  refine aw_if_ne (tgt := 85) (pc' := 83) d_M_firstReady_80 (by decide) rfl (fun c1 => ?_) (fun c1 => ?_)
  · replace hf := aw_ifn c1 hf
    exact aw_weak [true, true, true, false, false, false] rfl (wM_firstReady_85 hk2 _ _ hf)
  · replace hf := aw_ifp c1 hf
    refine aw_iload_n (pc' := 84) d_M_firstReady_83 rfl rfl ?_
    cases hf
    exact aw_ireturn rfl d_M_firstReady_84 (Nat.le_refl 0) (Nat.le_refl 0) ⟨rfl, rfl⟩
set_option maxRecDepth 20000 in
theorem wM_firstReady_63 {N : Nat} {μ : me_M} {r0 : Int32} {k2 : Int32 → Int32 → Option Int32} (hk2 : ∀ (l1 : Int32) (l2 : Int32), k2 l1 l2 = some r0 → AW "ArcTapeModel" "firstReady" c_M_firstReady 6 (some .int) 1 0 0 0 (aw_is (some (.int r0)) (hM  μ)) 2 [some (.ref 0), some (.int l1), some (.int l2), none, none, none] [] (hM  μ) 0 0) {k31 : Int32 → Int32 → Int32 → Int32 → Int32 → Option Int32} (hk31 : ∀ (l1 : Int32) (l2 : Int32) (l3 : Int32) (l4 : Int32) (l5 : Int32), k31 l1 l2 l3 l4 l5 = some r0 → AW "ArcTapeModel" "firstReady" c_M_firstReady 6 (some .int) 1 0 0 0 (aw_is (some (.int r0)) (hM  μ)) 31 [some (.ref 0), some (.int l1), some (.int l2), some (.int l3), some (.int l4), some (.int l5)] [] (hM  μ) 0 0) (l1 : Int32) (l2 : Int32) (l3 : Int32) (l5 : Int32) (s0 : Int32) (s1 : Int32) (hf : fM_firstReady_63 N μ k2 k31 l1 l2 l3 l5 s0 s1 = some r0) : AW "ArcTapeModel" "firstReady" c_M_firstReady 6 (some .int) 1 0 0 0 (aw_is (some (.int r0)) (hM  μ)) 63 [some (.ref 0), some (.int l1), some (.int l2), some (.int l3), none, some (.int l5)] [.int s1, .int s0] (hM  μ) 0 0 := by
  unfold fM_firstReady_63 at hf
  refine aw_ior (pc' := 64) d_M_firstReady_63 rfl ?_
  refine aw_istore (pc' := 66) (L' := [some (.ref 0), some (.int l1), some (.int l2), some (.int l3), some (.int (s0 ||| s1)), some (.int l5)]) d_M_firstReady_64 rfl (by decide) rfl ?_
  refine aw_iinc (pc' := 69) (L' := [some (.ref 0), some (.int l1), some (.int l2), some (.int l3), some (.int (s0 ||| s1)), some (.int (l5 + (1 : Int32)))]) d_M_firstReady_66 rfl kc_ic_1 rfl (by decide) rfl ?_
  refine aw_goto (tgt := 31) d_M_firstReady_69 (by decide) ?_
  exact aw_weak [true, true, true, true, true, true] rfl (hk31 _ _ _ _ _ hf)
set_option maxRecDepth 20000 in
theorem wM_firstReady_31b {N : Nat} {μ : me_M} {r0 : Int32} {k2 : Int32 → Int32 → Option Int32} (hk2 : ∀ (l1 : Int32) (l2 : Int32), k2 l1 l2 = some r0 → AW "ArcTapeModel" "firstReady" c_M_firstReady 6 (some .int) 1 0 0 0 (aw_is (some (.int r0)) (hM  μ)) 2 [some (.ref 0), some (.int l1), some (.int l2), none, none, none] [] (hM  μ) 0 0) {k31 : Int32 → Int32 → Int32 → Int32 → Int32 → Option Int32} (hk31 : ∀ (l1 : Int32) (l2 : Int32) (l3 : Int32) (l4 : Int32) (l5 : Int32), k31 l1 l2 l3 l4 l5 = some r0 → AW "ArcTapeModel" "firstReady" c_M_firstReady 6 (some .int) 1 0 0 0 (aw_is (some (.int r0)) (hM  μ)) 31 [some (.ref 0), some (.int l1), some (.int l2), some (.int l3), some (.int l4), some (.int l5)] [] (hM  μ) 0 0) (l1 : Int32) (l2 : Int32) (l3 : Int32) (l4 : Int32) (l5 : Int32) (hf : fM_firstReady_31b N μ k2 k31 l1 l2 l3 l4 l5 = some r0) : AW "ArcTapeModel" "firstReady" c_M_firstReady 6 (some .int) 1 0 0 0 (aw_is (some (.int r0)) (hM  μ)) 31 [some (.ref 0), some (.int l1), some (.int l2), some (.int l3), some (.int l4), some (.int l5)] [] (hM  μ) 0 0 := by
  unfold fM_firstReady_31b at hf
  refine aw_iload (pc' := 33) d_M_firstReady_31 rfl rfl ?_
  refine aw_aload_n (pc' := 34) d_M_firstReady_33 rfl rfl ?_
  refine aw_get (pc' := 37) d_M_firstReady_34 rfl fl_M_56 hM_0 rfl ?_
  refine aw_icmp_ge (tgt := 72) (pc' := 40) d_M_firstReady_37 (by decide) rfl (fun c2 => ?_) (fun c2 => ?_)
  · replace hf := aw_ifp c2 hf
    exact aw_weak [true, true, true, true, true, false] rfl (wM_firstReady_72 hk2 _ _ _ _ hf)
  · replace hf := aw_ifn c2 hf
    refine aw_iload (pc' := 42) d_M_firstReady_40 rfl rfl ?_
    refine aw_iload_n (pc' := 43) d_M_firstReady_42 rfl rfl ?_
    refine aw_iload (pc' := 45) d_M_firstReady_43 rfl rfl ?_
    refine aw_ishr (pc' := 46) d_M_firstReady_45 rfl ?_
    refine aw_iconst (pc' := 47) d_M_firstReady_46 rfl kc_ic_1 ?_
    refine aw_iand (pc' := 48) d_M_firstReady_47 rfl ?_
    refine aw_iconst (pc' := 49) d_M_firstReady_48 rfl kc_ic_1 ?_
    refine aw_icmp_ne (tgt := 62) (pc' := 52) d_M_firstReady_49 (by decide) rfl (fun c3 => ?_) (fun c3 => ?_)
    · replace hf := aw_ifn c3 hf
      refine aw_iconst (pc' := 63) d_M_firstReady_62 rfl kc_ic_0 ?_
      exact aw_weak [true, true, true, true, false, true] rfl (wM_firstReady_63 hk2 hk31 _ _ _ _ _ _ hf)
    · replace hf := aw_ifp c3 hf
      refine aw_aload_n (pc' := 53) d_M_firstReady_52 rfl rfl ?_
      refine aw_get (pc' := 56) d_M_firstReady_53 rfl fl_M_25 hM_0 rfl ?_
      refine aw_iload (pc' := 58) d_M_firstReady_56 rfl rfl ?_
      obtain ⟨g4, hf⟩ := aw_gi hf
      refine aw_iald (pc' := 59) d_M_firstReady_58 rfl rfl hM_6 g4 ?_
      refine aw_goto (tgt := 63) d_M_firstReady_59 (by decide) ?_
      exact aw_weak [true, true, true, true, false, true] rfl (wM_firstReady_63 hk2 hk31 _ _ _ _ _ _ hf)
set_option maxRecDepth 20000 in
theorem wM_firstReady_31 {N : Nat} {μ : me_M} {r0 : Int32} {k2 : Int32 → Int32 → Option Int32} (hk2 : ∀ (l1 : Int32) (l2 : Int32), k2 l1 l2 = some r0 → AW "ArcTapeModel" "firstReady" c_M_firstReady 6 (some .int) 1 0 0 0 (aw_is (some (.int r0)) (hM  μ)) 2 [some (.ref 0), some (.int l1), some (.int l2), none, none, none] [] (hM  μ) 0 0) : ∀ (F : Nat) (l1 : Int32) (l2 : Int32) (l3 : Int32) (l4 : Int32) (l5 : Int32) (hf : fM_firstReady_31 N μ k2 F l1 l2 l3 l4 l5 = some r0), AW "ArcTapeModel" "firstReady" c_M_firstReady 6 (some .int) 1 0 0 0 (aw_is (some (.int r0)) (hM  μ)) 31 [some (.ref 0), some (.int l1), some (.int l2), some (.int l3), some (.int l4), some (.int l5)] [] (hM  μ) 0 0 := by
  intro F
  induction F with
  | zero => intro l1 l2 l3 l4 l5 hf; exact aw_no hf
  | succ F ih => intro l1 l2 l3 l4 l5 hf; exact wM_firstReady_31b hk2 ih l1 l2 l3 l4 l5 hf
set_option maxRecDepth 20000 in
theorem wM_firstReady_2b {N : Nat} {μ : me_M} {r0 : Int32} {k2 : Int32 → Int32 → Option Int32} (hk2 : ∀ (l1 : Int32) (l2 : Int32), k2 l1 l2 = some r0 → AW "ArcTapeModel" "firstReady" c_M_firstReady 6 (some .int) 1 0 0 0 (aw_is (some (.int r0)) (hM  μ)) 2 [some (.ref 0), some (.int l1), some (.int l2), none, none, none] [] (hM  μ) 0 0) (l1 : Int32) (l2 : Int32) (hf : fM_firstReady_2b N μ k2 l1 l2 = some r0) : AW "ArcTapeModel" "firstReady" c_M_firstReady 6 (some .int) 1 0 0 0 (aw_is (some (.int r0)) (hM  μ)) 2 [some (.ref 0), some (.int l1), some (.int l2), none, none, none] [] (hM  μ) 0 0 := by
  unfold fM_firstReady_2b at hf
  refine aw_iload_n (pc' := 3) d_M_firstReady_2 rfl rfl ?_
  refine aw_aload_n (pc' := 4) d_M_firstReady_3 rfl rfl ?_
  refine aw_get (pc' := 7) d_M_firstReady_4 rfl fl_M_56 hM_0 rfl ?_
  refine aw_icmp_ge (tgt := 91) (pc' := 10) d_M_firstReady_7 (by decide) rfl (fun c5 => ?_) (fun c5 => ?_)
  · replace hf := aw_ifp c5 hf
    exact aw_weak [false, false, false, false, false, false] rfl (wM_firstReady_91  hf)
  · replace hf := aw_ifn c5 hf
    refine aw_aload_n (pc' := 11) d_M_firstReady_10 rfl rfl ?_
    refine aw_get (pc' := 14) d_M_firstReady_11 rfl fl_M_53 hM_0 rfl ?_
    refine aw_iload_n (pc' := 15) d_M_firstReady_14 rfl rfl ?_
    obtain ⟨g6, hf⟩ := aw_gi hf
    refine aw_iald (pc' := 16) d_M_firstReady_15 rfl rfl hM_15 g6 ?_
    refine aw_if_ge (tgt := 85) (pc' := 19) d_M_firstReady_16 (by decide) rfl (fun c7 => ?_) (fun c7 => ?_)
    · replace hf := aw_ifp c7 hf
      exact aw_weak [true, true, true, false, false, false] rfl (wM_firstReady_85 hk2 _ _ hf)
    · replace hf := aw_ifn c7 hf
      refine aw_aload_n (pc' := 20) d_M_firstReady_19 rfl rfl ?_
      refine aw_iload_n (pc' := 21) d_M_firstReady_20 rfl rfl ?_
      obtain ⟨r8, hr8, hf⟩ := aw_bind hf
      refine aw_callVv (pc' := 24) (av := [.int l2]) d_M_firstReady_21 rfl wc_M_182 hM_0 (mM_together hr8) (Or.inl rfl) rfl (by decide) (Nat.le_of_ble_eq_true rfl) ⟨(Nat.le_refl 0), (Nat.le_refl 0)⟩ ?_
      refine aw_istore_n (pc' := 25) (L' := [some (.ref 0), some (.int l1), some (.int l2), some (.int r8), none, none]) d_M_firstReady_24 rfl (by decide) rfl ?_
      refine aw_iconst (pc' := 26) d_M_firstReady_25 rfl kc_ic_0 ?_
      refine aw_istore (pc' := 28) (L' := [some (.ref 0), some (.int l1), some (.int l2), some (.int r8), some (.int (0 : Int32)), none]) d_M_firstReady_26 rfl (by decide) rfl ?_
      refine aw_iconst (pc' := 29) d_M_firstReady_28 rfl kc_ic_0 ?_
      refine aw_istore (pc' := 31) (L' := [some (.ref 0), some (.int l1), some (.int l2), some (.int r8), some (.int (0 : Int32)), some (.int (0 : Int32))]) d_M_firstReady_29 rfl (by decide) rfl ?_
      exact aw_weak [true, true, true, true, true, true] rfl (wM_firstReady_31 hk2 _ _ _ _ _ _ hf)
set_option maxRecDepth 20000 in
theorem wM_firstReady_2 {N : Nat} {μ : me_M} {r0 : Int32} : ∀ (F : Nat) (l1 : Int32) (l2 : Int32) (hf : fM_firstReady_2 N μ F l1 l2 = some r0), AW "ArcTapeModel" "firstReady" c_M_firstReady 6 (some .int) 1 0 0 0 (aw_is (some (.int r0)) (hM  μ)) 2 [some (.ref 0), some (.int l1), some (.int l2), none, none, none] [] (hM  μ) 0 0 := by
  intro F
  induction F with
  | zero => intro l1 l2 hf; exact aw_no hf
  | succ F ih => intro l1 l2 hf; exact wM_firstReady_2b ih l1 l2 hf
set_option maxRecDepth 20000 in
theorem mM_firstReady {N : Nat} {μ : me_M} {r0 : Int32} {l1 : Int32} (hf : fM_firstReady N μ l1 = some r0) : AM y_M_firstReady c_M_firstReady 6 (some .int) 1 0 0 0 [.ref 0, .int l1] (hM  μ) (aw_is (some (.int r0)) (hM  μ)) := by
  unfold fM_firstReady at hf
  refine AM.of (own := "ArcTapeModel") (nm := "firstReady") (L := [some (.ref 0), some (.int l1), none, none, none, none]) rfl rfl (by decide) (Nat.le_of_ble_eq_true rfl) rfl ?_
  refine aw_iconst (pc' := 1) d_M_firstReady_0 rfl kc_ic_0 ?_
  refine aw_istore_n (pc' := 2) (L' := [some (.ref 0), some (.int l1), some (.int (0 : Int32)), none, none, none]) d_M_firstReady_1 rfl (by decide) rfl ?_
  exact aw_weak [true, true, true, false, false, false] rfl (wM_firstReady_2 _ _ _ hf)
set_option maxRecDepth 20000 in
theorem wM_count_213 {N : Nat} {r0 : me_M} (μ : me_M) (hf : fM_count_213 N μ = some r0) : AW "ArcTapeModel" "count" c_M_count 6 none 6 0 0 0 (aw_is none (hM  r0)) 213 [none, none, none, none, none, none] [] (hM  μ) 0 0 := by
  unfold fM_count_213 at hf
  cases hf
  exact aw_return rfl d_M_count_213 (Nat.le_refl 0) (Nat.le_refl 0) ⟨rfl, rfl⟩
set_option maxRecDepth 20000 in
theorem wM_count_207 {N : Nat} {r0 : me_M} {k117 : Int32 → Int32 → me_M → Option me_M} (hk117 : ∀ (l1 : Int32) (l2 : Int32) (μ : me_M), k117 l1 l2 μ = some r0 → AW "ArcTapeModel" "count" c_M_count 6 none 6 0 0 0 (aw_is none (hM  r0)) 117 [some (.ref 0), some (.int l1), some (.int l2), none, none, none] [] (hM  μ) 0 0) (l1 : Int32) (l2 : Int32) (μ : me_M) (hf : fM_count_207 N k117 l1 l2 μ = some r0) : AW "ArcTapeModel" "count" c_M_count 6 none 6 0 0 0 (aw_is none (hM  r0)) 207 [some (.ref 0), some (.int l1), some (.int l2), none, none, none] [] (hM  μ) 0 0 := by
  unfold fM_count_207 at hf
  refine aw_iinc (pc' := 210) (L' := [some (.ref 0), some (.int l1), some (.int (l2 + (1 : Int32))), none, none, none]) d_M_count_207 rfl kc_ic_1 rfl (by decide) rfl ?_
  refine aw_goto (tgt := 117) d_M_count_210 (by decide) ?_
  exact aw_weak [true, true, true, false, false, false] rfl (hk117 _ _ _ hf)
set_option maxRecDepth 20000 in
theorem wM_count_192 {N : Nat} {r0 : me_M} {k117 : Int32 → Int32 → me_M → Option me_M} (hk117 : ∀ (l1 : Int32) (l2 : Int32) (μ : me_M), k117 l1 l2 μ = some r0 → AW "ArcTapeModel" "count" c_M_count 6 none 6 0 0 0 (aw_is none (hM  r0)) 117 [some (.ref 0), some (.int l1), some (.int l2), none, none, none] [] (hM  μ) 0 0) (l1 : Int32) (l2 : Int32) (l4 : Int32) (μ : me_M) (hf : fM_count_192 N k117 l1 l2 l4 μ = some r0) : AW "ArcTapeModel" "count" c_M_count 6 none 6 0 0 0 (aw_is none (hM  r0)) 192 [some (.ref 0), some (.int l1), some (.int l2), none, some (.int l4), none] [] (hM  μ) 0 0 := by
  unfold fM_count_192 at hf
  refine aw_iload_n (pc' := 193) d_M_count_192 rfl rfl ?_
  refine aw_iload (pc' := 195) d_M_count_193 rfl rfl ?_
  refine aw_ior (pc' := 196) d_M_count_195 rfl ?_
  refine aw_istore_n (pc' := 197) (L' := [some (.ref 0), some (.int (l1 ||| l4)), some (.int l2), none, some (.int l4), none]) d_M_count_196 rfl (by decide) rfl ?_
  refine aw_aload_n (pc' := 198) d_M_count_197 rfl rfl ?_
  refine aw_dup (pc' := 199) d_M_count_198 rfl rfl ?_
  refine aw_get (pc' := 202) d_M_count_199 rfl fl_M_176 hM_0 rfl ?_
  refine aw_iconst (pc' := 203) d_M_count_202 rfl kc_ic_1 ?_
  refine aw_iadd (pc' := 204) d_M_count_203 rfl ?_
  refine aw_puti (pc' := 207) (h' := (hM  (me_wi μ 128 0 ((μ.1 128 0) + (1 : Int32))))) d_M_count_204 rfl fp_M_176 hM_0 (Nat.le_of_ble_eq_true rfl) rfl ?_
  exact aw_weak [true, true, true, false, false, false] rfl (wM_count_207 hk117 _ _ _ hf)
set_option maxRecDepth 20000 in
theorem wM_count_185 {N : Nat} {r0 : me_M} {k117 : Int32 → Int32 → me_M → Option me_M} (hk117 : ∀ (l1 : Int32) (l2 : Int32) (μ : me_M), k117 l1 l2 μ = some r0 → AW "ArcTapeModel" "count" c_M_count 6 none 6 0 0 0 (aw_is none (hM  r0)) 117 [some (.ref 0), some (.int l1), some (.int l2), none, none, none] [] (hM  μ) 0 0) {k145 : Int32 → Int32 → Int32 → Int32 → me_M → Option me_M} (hk145 : ∀ (l1 : Int32) (l2 : Int32) (l4 : Int32) (l5 : Int32) (μ : me_M), k145 l1 l2 l4 l5 μ = some r0 → AW "ArcTapeModel" "count" c_M_count 6 none 6 0 0 0 (aw_is none (hM  r0)) 145 [some (.ref 0), some (.int l1), some (.int l2), none, some (.int l4), some (.int l5)] [] (hM  μ) 0 0) (l1 : Int32) (l2 : Int32) (l4 : Int32) (l5 : Int32) (s1 : Int32) (s2 : Int32) (μ : me_M) (hf : fM_count_185 N k117 k145 l1 l2 l4 l5 s1 s2 μ = some r0) : AW "ArcTapeModel" "count" c_M_count 6 none 6 0 0 0 (aw_is none (hM  r0)) 185 [some (.ref 0), some (.int l1), some (.int l2), none, some (.int l4), some (.int l5)] [.int s2, .int s1, .ref 15] (hM  μ) 0 0 := by
  unfold fM_count_185 at hf
  obtain ⟨g1, hf⟩ := aw_gi hf
  refine aw_iast (pc' := 186) (h' := (hM  (me_wi μ 15 s1.toNatClampNeg s2))) d_M_count_185 rfl rfl hM_15 g1 rfl ?_
  refine aw_iinc (pc' := 189) (L' := [some (.ref 0), some (.int l1), some (.int l2), none, some (.int l4), some (.int (l5 + (1 : Int32)))]) d_M_count_186 rfl kc_ic_1 rfl (by decide) rfl ?_
  refine aw_goto (tgt := 145) d_M_count_189 (by decide) ?_
  exact aw_weak [true, true, true, false, true, true] rfl (hk145 _ _ _ _ _ hf)
set_option maxRecDepth 20000 in
theorem wM_count_145b {N : Nat} {r0 : me_M} {k117 : Int32 → Int32 → me_M → Option me_M} (hk117 : ∀ (l1 : Int32) (l2 : Int32) (μ : me_M), k117 l1 l2 μ = some r0 → AW "ArcTapeModel" "count" c_M_count 6 none 6 0 0 0 (aw_is none (hM  r0)) 117 [some (.ref 0), some (.int l1), some (.int l2), none, none, none] [] (hM  μ) 0 0) {k145 : Int32 → Int32 → Int32 → Int32 → me_M → Option me_M} (hk145 : ∀ (l1 : Int32) (l2 : Int32) (l4 : Int32) (l5 : Int32) (μ : me_M), k145 l1 l2 l4 l5 μ = some r0 → AW "ArcTapeModel" "count" c_M_count 6 none 6 0 0 0 (aw_is none (hM  r0)) 145 [some (.ref 0), some (.int l1), some (.int l2), none, some (.int l4), some (.int l5)] [] (hM  μ) 0 0) (l1 : Int32) (l2 : Int32) (l4 : Int32) (l5 : Int32) (μ : me_M) (hf : fM_count_145b N k117 k145 l1 l2 l4 l5 μ = some r0) : AW "ArcTapeModel" "count" c_M_count 6 none 6 0 0 0 (aw_is none (hM  r0)) 145 [some (.ref 0), some (.int l1), some (.int l2), none, some (.int l4), some (.int l5)] [] (hM  μ) 0 0 := by
  unfold fM_count_145b at hf
  refine aw_iload (pc' := 147) d_M_count_145 rfl rfl ?_
  refine aw_aload_n (pc' := 148) d_M_count_147 rfl rfl ?_
  refine aw_get (pc' := 151) d_M_count_148 rfl fl_M_56 hM_0 rfl ?_
  refine aw_icmp_ge (tgt := 192) (pc' := 154) d_M_count_151 (by decide) rfl (fun c2 => ?_) (fun c2 => ?_)
  · replace hf := aw_ifp c2 hf
    exact aw_weak [true, true, true, false, true, false] rfl (wM_count_192 hk117 _ _ _ _ hf)
  · replace hf := aw_ifn c2 hf
    refine aw_aload_n (pc' := 155) d_M_count_154 rfl rfl ?_
    refine aw_get (pc' := 158) d_M_count_155 rfl fl_M_53 hM_0 rfl ?_
    refine aw_iload (pc' := 160) d_M_count_158 rfl rfl ?_
    refine aw_iload (pc' := 162) d_M_count_160 rfl rfl ?_
    refine aw_iload (pc' := 164) d_M_count_162 rfl rfl ?_
    refine aw_ishr (pc' := 165) d_M_count_164 rfl ?_
    refine aw_iconst (pc' := 166) d_M_count_165 rfl kc_ic_1 ?_
    refine aw_iand (pc' := 167) d_M_count_166 rfl ?_
    refine aw_iconst (pc' := 168) d_M_count_167 rfl kc_ic_1 ?_
    refine aw_icmp_ne (tgt := 178) (pc' := 171) d_M_count_168 (by decide) rfl (fun c3 => ?_) (fun c3 => ?_)
    · replace hf := aw_ifn c3 hf
      refine aw_aload_n (pc' := 179) d_M_count_178 rfl rfl ?_
      refine aw_get (pc' := 182) d_M_count_179 rfl fl_M_53 hM_0 rfl ?_
      refine aw_iload (pc' := 184) d_M_count_182 rfl rfl ?_
      obtain ⟨g4, hf⟩ := aw_gi hf
      refine aw_iald (pc' := 185) d_M_count_184 rfl rfl hM_15 g4 ?_
      exact aw_weak [true, true, true, false, true, true] rfl (wM_count_185 hk117 hk145 _ _ _ _ _ _ _ hf)
    · replace hf := aw_ifp c3 hf
      refine aw_aload_n (pc' := 172) d_M_count_171 rfl rfl ?_
      refine aw_get (pc' := 175) d_M_count_172 rfl fl_M_176 hM_0 rfl ?_
      refine aw_goto (tgt := 185) d_M_count_175 (by decide) ?_
      exact aw_weak [true, true, true, false, true, true] rfl (wM_count_185 hk117 hk145 _ _ _ _ _ _ _ hf)
set_option maxRecDepth 20000 in
theorem wM_count_145 {N : Nat} {r0 : me_M} {k117 : Int32 → Int32 → me_M → Option me_M} (hk117 : ∀ (l1 : Int32) (l2 : Int32) (μ : me_M), k117 l1 l2 μ = some r0 → AW "ArcTapeModel" "count" c_M_count 6 none 6 0 0 0 (aw_is none (hM  r0)) 117 [some (.ref 0), some (.int l1), some (.int l2), none, none, none] [] (hM  μ) 0 0) : ∀ (F : Nat) (l1 : Int32) (l2 : Int32) (l4 : Int32) (l5 : Int32) (μ : me_M) (hf : fM_count_145 N k117 F l1 l2 l4 l5 μ = some r0), AW "ArcTapeModel" "count" c_M_count 6 none 6 0 0 0 (aw_is none (hM  r0)) 145 [some (.ref 0), some (.int l1), some (.int l2), none, some (.int l4), some (.int l5)] [] (hM  μ) 0 0 := by
  intro F
  induction F with
  | zero => intro l1 l2 l4 l5 μ hf; exact aw_no hf
  | succ F ih => intro l1 l2 l4 l5 μ hf; exact wM_count_145b hk117 ih l1 l2 l4 l5 μ hf
set_option maxRecDepth 20000 in
theorem wM_count_117b {N : Nat} {r0 : me_M} {k117 : Int32 → Int32 → me_M → Option me_M} (hk117 : ∀ (l1 : Int32) (l2 : Int32) (μ : me_M), k117 l1 l2 μ = some r0 → AW "ArcTapeModel" "count" c_M_count 6 none 6 0 0 0 (aw_is none (hM  r0)) 117 [some (.ref 0), some (.int l1), some (.int l2), none, none, none] [] (hM  μ) 0 0) (l1 : Int32) (l2 : Int32) (μ : me_M) (hf : fM_count_117b N k117 l1 l2 μ = some r0) : AW "ArcTapeModel" "count" c_M_count 6 none 6 0 0 0 (aw_is none (hM  r0)) 117 [some (.ref 0), some (.int l1), some (.int l2), none, none, none] [] (hM  μ) 0 0 := by
  unfold fM_count_117b at hf
  refine aw_iload_n (pc' := 118) d_M_count_117 rfl rfl ?_
  refine aw_aload_n (pc' := 119) d_M_count_118 rfl rfl ?_
  refine aw_get (pc' := 122) d_M_count_119 rfl fl_M_56 hM_0 rfl ?_
  refine aw_icmp_ge (tgt := 213) (pc' := 125) d_M_count_122 (by decide) rfl (fun c5 => ?_) (fun c5 => ?_)
  · replace hf := aw_ifp c5 hf
    exact aw_weak [false, false, false, false, false, false] rfl (wM_count_213 _ hf)
  · replace hf := aw_ifn c5 hf
    refine aw_aload_n (pc' := 126) d_M_count_125 rfl rfl ?_
    refine aw_iload_n (pc' := 127) d_M_count_126 rfl rfl ?_
    obtain ⟨r6, hr6, hf⟩ := aw_bind hf
    refine aw_callVv (pc' := 130) (av := [.int l1]) d_M_count_127 rfl wc_M_179 hM_0 (mM_firstReady hr6) (Or.inl rfl) rfl (by decide) (Nat.le_of_ble_eq_true rfl) ⟨(Nat.le_refl 0), (Nat.le_refl 0)⟩ ?_
    refine aw_istore_n (pc' := 131) (L' := [some (.ref 0), some (.int l1), some (.int l2), some (.int r6), none, none]) d_M_count_130 rfl (by decide) rfl ?_
    refine aw_iload_n (pc' := 132) d_M_count_131 rfl rfl ?_
    refine aw_if_lt (tgt := 207) (pc' := 135) d_M_count_132 (by decide) rfl (fun c7 => ?_) (fun c7 => ?_)
    · replace hf := aw_ifp c7 hf
      exact aw_weak [true, true, true, false, false, false] rfl (wM_count_207 hk117 _ _ _ hf)
    · replace hf := aw_ifn c7 hf
      refine aw_aload_n (pc' := 136) d_M_count_135 rfl rfl ?_
      refine aw_iload_n (pc' := 137) d_M_count_136 rfl rfl ?_
      obtain ⟨r8, hr8, hf⟩ := aw_bind hf
      refine aw_callVv (pc' := 140) (av := [.int r6]) d_M_count_137 rfl wc_M_182 hM_0 (mM_together hr8) (Or.inl rfl) rfl (by decide) (Nat.le_of_ble_eq_true rfl) ⟨(Nat.le_refl 0), (Nat.le_refl 0)⟩ ?_
      refine aw_istore (pc' := 142) (L' := [some (.ref 0), some (.int l1), some (.int l2), some (.int r6), some (.int r8), none]) d_M_count_140 rfl (by decide) rfl ?_
      refine aw_iconst (pc' := 143) d_M_count_142 rfl kc_ic_0 ?_
      refine aw_istore (pc' := 145) (L' := [some (.ref 0), some (.int l1), some (.int l2), some (.int r6), some (.int r8), some (.int (0 : Int32))]) d_M_count_143 rfl (by decide) rfl ?_
      exact aw_weak [true, true, true, false, true, true] rfl (wM_count_145 hk117 _ _ _ _ _ _ hf)
set_option maxRecDepth 20000 in
theorem wM_count_117 {N : Nat} {r0 : me_M} : ∀ (F : Nat) (l1 : Int32) (l2 : Int32) (μ : me_M) (hf : fM_count_117 N F l1 l2 μ = some r0), AW "ArcTapeModel" "count" c_M_count 6 none 6 0 0 0 (aw_is none (hM  r0)) 117 [some (.ref 0), some (.int l1), some (.int l2), none, none, none] [] (hM  μ) 0 0 := by
  intro F
  induction F with
  | zero => intro l1 l2 μ hf; exact aw_no hf
  | succ F ih => intro l1 l2 μ hf; exact wM_count_117b ih l1 l2 μ hf
set_option maxRecDepth 20000 in
theorem wM_count_108 {N : Nat} {r0 : me_M} (μ : me_M) (hf : fM_count_108 N μ = some r0) : AW "ArcTapeModel" "count" c_M_count 6 none 6 0 0 0 (aw_is none (hM  r0)) 108 [some (.ref 0), none, none, none, none, none] [] (hM  μ) 0 0 := by
  unfold fM_count_108 at hf
  refine aw_aload_n (pc' := 109) d_M_count_108 rfl rfl ?_
  refine aw_iconst (pc' := 110) d_M_count_109 rfl kc_ic_0 ?_
  refine aw_puti (pc' := 113) (h' := (hM  (me_wi μ 128 0 (0 : Int32)))) d_M_count_110 rfl fp_M_176 hM_0 (Nat.le_of_ble_eq_true rfl) rfl ?_
  refine aw_iconst (pc' := 114) d_M_count_113 rfl kc_ic_0 ?_
  refine aw_istore_n (pc' := 115) (L' := [some (.ref 0), some (.int (0 : Int32)), none, none, none, none]) d_M_count_114 rfl (by decide) rfl ?_
  refine aw_iconst (pc' := 116) d_M_count_115 rfl kc_ic_0 ?_
  refine aw_istore_n (pc' := 117) (L' := [some (.ref 0), some (.int (0 : Int32)), some (.int (0 : Int32)), none, none, none]) d_M_count_116 rfl (by decide) rfl ?_
  exact aw_weak [true, true, true, false, false, false] rfl (wM_count_117 _ _ _ _ hf)
set_option maxRecDepth 20000 in
theorem wM_count_102 {N : Nat} {r0 : me_M} {k45 : Int32 → me_M → Option me_M} (hk45 : ∀ (l1 : Int32) (μ : me_M), k45 l1 μ = some r0 → AW "ArcTapeModel" "count" c_M_count 6 none 6 0 0 0 (aw_is none (hM  r0)) 45 [some (.ref 0), some (.int l1), none, none, none, none] [] (hM  μ) 0 0) (l1 : Int32) (μ : me_M) (hf : fM_count_102 N k45 l1 μ = some r0) : AW "ArcTapeModel" "count" c_M_count 6 none 6 0 0 0 (aw_is none (hM  r0)) 102 [some (.ref 0), some (.int l1), none, none, none, none] [] (hM  μ) 0 0 := by
  unfold fM_count_102 at hf
  refine aw_iinc (pc' := 105) (L' := [some (.ref 0), some (.int (l1 + (1 : Int32))), none, none, none, none]) d_M_count_102 rfl kc_ic_1 rfl (by decide) rfl ?_
  refine aw_goto (tgt := 45) d_M_count_105 (by decide) ?_
  exact aw_weak [true, true, false, false, false, false] rfl (hk45 _ _ hf)
set_option maxRecDepth 20000 in
theorem wM_count_94 {N : Nat} {r0 : me_M} {k45 : Int32 → me_M → Option me_M} (hk45 : ∀ (l1 : Int32) (μ : me_M), k45 l1 μ = some r0 → AW "ArcTapeModel" "count" c_M_count 6 none 6 0 0 0 (aw_is none (hM  r0)) 45 [some (.ref 0), some (.int l1), none, none, none, none] [] (hM  μ) 0 0) {k55 : Int32 → Int32 → me_M → Option me_M} (hk55 : ∀ (l1 : Int32) (l2 : Int32) (μ : me_M), k55 l1 l2 μ = some r0 → AW "ArcTapeModel" "count" c_M_count 6 none 6 0 0 0 (aw_is none (hM  r0)) 55 [some (.ref 0), some (.int l1), some (.int l2), none, none, none] [] (hM  μ) 0 0) (l1 : Int32) (l2 : Int32) (s1 : Int32) (s2 : Int32) (s3 : Int32) (μ : me_M) (hf : fM_count_94 N k45 k55 l1 l2 s1 s2 s3 μ = some r0) : AW "ArcTapeModel" "count" c_M_count 6 none 6 0 0 0 (aw_is none (hM  r0)) 94 [some (.ref 0), some (.int l1), some (.int l2), none, none, none] [.int s3, .int s2, .int s1, .ref 14] (hM  μ) 0 0 := by
  unfold fM_count_94 at hf
  refine aw_ior (pc' := 95) d_M_count_94 rfl ?_
  obtain ⟨g9, hf⟩ := aw_gi hf
  refine aw_iast (pc' := 96) (h' := (hM  (me_wi μ 14 s1.toNatClampNeg (s2 ||| s3)))) d_M_count_95 rfl rfl hM_14 g9 rfl ?_
  refine aw_iinc (pc' := 99) (L' := [some (.ref 0), some (.int l1), some (.int (l2 + (1 : Int32))), none, none, none]) d_M_count_96 rfl kc_ic_1 rfl (by decide) rfl ?_
  refine aw_goto (tgt := 55) d_M_count_99 (by decide) ?_
  exact aw_weak [true, true, true, false, false, false] rfl (hk55 _ _ _ hf)
set_option maxRecDepth 20000 in
theorem wM_count_55b {N : Nat} {r0 : me_M} {k45 : Int32 → me_M → Option me_M} (hk45 : ∀ (l1 : Int32) (μ : me_M), k45 l1 μ = some r0 → AW "ArcTapeModel" "count" c_M_count 6 none 6 0 0 0 (aw_is none (hM  r0)) 45 [some (.ref 0), some (.int l1), none, none, none, none] [] (hM  μ) 0 0) {k55 : Int32 → Int32 → me_M → Option me_M} (hk55 : ∀ (l1 : Int32) (l2 : Int32) (μ : me_M), k55 l1 l2 μ = some r0 → AW "ArcTapeModel" "count" c_M_count 6 none 6 0 0 0 (aw_is none (hM  r0)) 55 [some (.ref 0), some (.int l1), some (.int l2), none, none, none] [] (hM  μ) 0 0) (l1 : Int32) (l2 : Int32) (μ : me_M) (hf : fM_count_55b N k45 k55 l1 l2 μ = some r0) : AW "ArcTapeModel" "count" c_M_count 6 none 6 0 0 0 (aw_is none (hM  r0)) 55 [some (.ref 0), some (.int l1), some (.int l2), none, none, none] [] (hM  μ) 0 0 := by
  unfold fM_count_55b at hf
  refine aw_iload_n (pc' := 56) d_M_count_55 rfl rfl ?_
  refine aw_aload_n (pc' := 57) d_M_count_56 rfl rfl ?_
  refine aw_get (pc' := 60) d_M_count_57 rfl fl_M_56 hM_0 rfl ?_
  refine aw_icmp_ge (tgt := 102) (pc' := 63) d_M_count_60 (by decide) rfl (fun c10 => ?_) (fun c10 => ?_)
  · replace hf := aw_ifp c10 hf
    exact aw_weak [true, true, false, false, false, false] rfl (wM_count_102 hk45 _ _ hf)
  · replace hf := aw_ifn c10 hf
    refine aw_aload_n (pc' := 64) d_M_count_63 rfl rfl ?_
    refine aw_get (pc' := 67) d_M_count_64 rfl fl_M_50 hM_0 rfl ?_
    refine aw_iload_n (pc' := 68) d_M_count_67 rfl rfl ?_
    refine aw_dup2 (pc' := 69) d_M_count_68 rfl rfl rfl ?_
    obtain ⟨g11, hf⟩ := aw_gi hf
    refine aw_iald (pc' := 70) d_M_count_69 rfl rfl hM_14 g11 ?_
    refine aw_aload_n (pc' := 71) d_M_count_70 rfl rfl ?_
    refine aw_get (pc' := 74) d_M_count_71 rfl fl_M_50 hM_0 rfl ?_
    refine aw_iload_n (pc' := 75) d_M_count_74 rfl rfl ?_
    obtain ⟨g12, hf⟩ := aw_gi hf
    refine aw_iald (pc' := 76) d_M_count_75 rfl rfl hM_14 g12 ?_
    refine aw_iload_n (pc' := 77) d_M_count_76 rfl rfl ?_
    refine aw_ishr (pc' := 78) d_M_count_77 rfl ?_
    refine aw_iconst (pc' := 79) d_M_count_78 rfl kc_ic_1 ?_
    refine aw_iand (pc' := 80) d_M_count_79 rfl ?_
    refine aw_iconst (pc' := 81) d_M_count_80 rfl kc_ic_1 ?_
    refine aw_icmp_ne (tgt := 93) (pc' := 84) d_M_count_81 (by decide) rfl (fun c13 => ?_) (fun c13 => ?_)
    · replace hf := aw_ifn c13 hf
      refine aw_iconst (pc' := 94) d_M_count_93 rfl kc_ic_0 ?_
      exact aw_weak [true, true, true, false, false, false] rfl (wM_count_94 hk45 hk55 _ _ _ _ _ _ hf)
    · replace hf := aw_ifp c13 hf
      refine aw_aload_n (pc' := 85) d_M_count_84 rfl rfl ?_
      refine aw_get (pc' := 88) d_M_count_85 rfl fl_M_50 hM_0 rfl ?_
      refine aw_iload_n (pc' := 89) d_M_count_88 rfl rfl ?_
      obtain ⟨g14, hf⟩ := aw_gi hf
      refine aw_iald (pc' := 90) d_M_count_89 rfl rfl hM_14 g14 ?_
      refine aw_goto (tgt := 94) d_M_count_90 (by decide) ?_
      exact aw_weak [true, true, true, false, false, false] rfl (wM_count_94 hk45 hk55 _ _ _ _ _ _ hf)
set_option maxRecDepth 20000 in
theorem wM_count_55 {N : Nat} {r0 : me_M} {k45 : Int32 → me_M → Option me_M} (hk45 : ∀ (l1 : Int32) (μ : me_M), k45 l1 μ = some r0 → AW "ArcTapeModel" "count" c_M_count 6 none 6 0 0 0 (aw_is none (hM  r0)) 45 [some (.ref 0), some (.int l1), none, none, none, none] [] (hM  μ) 0 0) : ∀ (F : Nat) (l1 : Int32) (l2 : Int32) (μ : me_M) (hf : fM_count_55 N k45 F l1 l2 μ = some r0), AW "ArcTapeModel" "count" c_M_count 6 none 6 0 0 0 (aw_is none (hM  r0)) 55 [some (.ref 0), some (.int l1), some (.int l2), none, none, none] [] (hM  μ) 0 0 := by
  intro F
  induction F with
  | zero => intro l1 l2 μ hf; exact aw_no hf
  | succ F ih => intro l1 l2 μ hf; exact wM_count_55b hk45 ih l1 l2 μ hf
set_option maxRecDepth 20000 in
theorem wM_count_45b {N : Nat} {r0 : me_M} {k45 : Int32 → me_M → Option me_M} (hk45 : ∀ (l1 : Int32) (μ : me_M), k45 l1 μ = some r0 → AW "ArcTapeModel" "count" c_M_count 6 none 6 0 0 0 (aw_is none (hM  r0)) 45 [some (.ref 0), some (.int l1), none, none, none, none] [] (hM  μ) 0 0) (l1 : Int32) (μ : me_M) (hf : fM_count_45b N k45 l1 μ = some r0) : AW "ArcTapeModel" "count" c_M_count 6 none 6 0 0 0 (aw_is none (hM  r0)) 45 [some (.ref 0), some (.int l1), none, none, none, none] [] (hM  μ) 0 0 := by
  unfold fM_count_45b at hf
  refine aw_iload_n (pc' := 46) d_M_count_45 rfl rfl ?_
  refine aw_aload_n (pc' := 47) d_M_count_46 rfl rfl ?_
  refine aw_get (pc' := 50) d_M_count_47 rfl fl_M_56 hM_0 rfl ?_
  refine aw_icmp_ge (tgt := 108) (pc' := 53) d_M_count_50 (by decide) rfl (fun c15 => ?_) (fun c15 => ?_)
  · replace hf := aw_ifp c15 hf
    exact aw_weak [true, false, false, false, false, false] rfl (wM_count_108 _ hf)
  · replace hf := aw_ifn c15 hf
    refine aw_iconst (pc' := 54) d_M_count_53 rfl kc_ic_0 ?_
    refine aw_istore_n (pc' := 55) (L' := [some (.ref 0), some (.int l1), some (.int (0 : Int32)), none, none, none]) d_M_count_54 rfl (by decide) rfl ?_
    exact aw_weak [true, true, true, false, false, false] rfl (wM_count_55 hk45 _ _ _ _ hf)
set_option maxRecDepth 20000 in
theorem wM_count_45 {N : Nat} {r0 : me_M} : ∀ (F : Nat) (l1 : Int32) (μ : me_M) (hf : fM_count_45 N F l1 μ = some r0), AW "ArcTapeModel" "count" c_M_count 6 none 6 0 0 0 (aw_is none (hM  r0)) 45 [some (.ref 0), some (.int l1), none, none, none, none] [] (hM  μ) 0 0 := by
  intro F
  induction F with
  | zero => intro l1 μ hf; exact aw_no hf
  | succ F ih => intro l1 μ hf; exact wM_count_45b ih l1 μ hf
set_option maxRecDepth 20000 in
theorem wM_count_43 {N : Nat} {r0 : me_M} (μ : me_M) (hf : fM_count_43 N μ = some r0) : AW "ArcTapeModel" "count" c_M_count 6 none 6 0 0 0 (aw_is none (hM  r0)) 43 [some (.ref 0), none, none, none, none, none] [] (hM  μ) 0 0 := by
  unfold fM_count_43 at hf
  refine aw_iconst (pc' := 44) d_M_count_43 rfl kc_ic_0 ?_
  refine aw_istore_n (pc' := 45) (L' := [some (.ref 0), some (.int (0 : Int32)), none, none, none, none]) d_M_count_44 rfl (by decide) rfl ?_
  exact aw_weak [true, true, false, false, false, false] rfl (wM_count_45 _ _ _ hf)
set_option maxRecDepth 20000 in
theorem wM_count_6b {N : Nat} {r0 : me_M} {k6 : Int32 → me_M → Option me_M} (hk6 : ∀ (l1 : Int32) (μ : me_M), k6 l1 μ = some r0 → AW "ArcTapeModel" "count" c_M_count 6 none 6 0 0 0 (aw_is none (hM  r0)) 6 [some (.ref 0), some (.int l1), none, none, none, none] [] (hM  μ) 0 0) (l1 : Int32) (μ : me_M) (hf : fM_count_6b N k6 l1 μ = some r0) : AW "ArcTapeModel" "count" c_M_count 6 none 6 0 0 0 (aw_is none (hM  r0)) 6 [some (.ref 0), some (.int l1), none, none, none, none] [] (hM  μ) 0 0 := by
  unfold fM_count_6b at hf
  refine aw_iload_n (pc' := 7) d_M_count_6 rfl rfl ?_
  refine aw_aload_n (pc' := 8) d_M_count_7 rfl rfl ?_
  refine aw_get (pc' := 11) d_M_count_8 rfl fl_M_56 hM_0 rfl ?_
  refine aw_icmp_ge (tgt := 43) (pc' := 14) d_M_count_11 (by decide) rfl (fun c16 => ?_) (fun c16 => ?_)
  · replace hf := aw_ifp c16 hf
    exact aw_weak [true, false, false, false, false, false] rfl (wM_count_43 _ hf)
  · replace hf := aw_ifn c16 hf
    refine aw_aload_n (pc' := 15) d_M_count_14 rfl rfl ?_
    refine aw_get (pc' := 18) d_M_count_15 rfl fl_M_50 hM_0 rfl ?_
    refine aw_iload_n (pc' := 19) d_M_count_18 rfl rfl ?_
    refine aw_aload_n (pc' := 20) d_M_count_19 rfl rfl ?_
    refine aw_get (pc' := 23) d_M_count_20 rfl fl_M_25 hM_0 rfl ?_
    refine aw_iload_n (pc' := 24) d_M_count_23 rfl rfl ?_
    obtain ⟨g17, hf⟩ := aw_gi hf
    refine aw_iald (pc' := 25) d_M_count_24 rfl rfl hM_6 g17 ?_
    refine aw_iconst (pc' := 26) d_M_count_25 rfl kc_ic_1 ?_
    refine aw_iload_n (pc' := 27) d_M_count_26 rfl rfl ?_
    refine aw_ishl (pc' := 28) d_M_count_27 rfl ?_
    refine aw_ior (pc' := 29) d_M_count_28 rfl ?_
    obtain ⟨g18, hf⟩ := aw_gi hf
    refine aw_iast (pc' := 30) (h' := (hM  (me_wi μ 14 l1.toNatClampNeg ((μ.1 6 l1.toNatClampNeg) ||| ((1 : Int32) <<< (l1 &&& 31)))))) d_M_count_29 rfl rfl hM_14 g18 rfl ?_
    refine aw_aload_n (pc' := 31) d_M_count_30 rfl rfl ?_
    refine aw_get (pc' := 34) d_M_count_31 rfl fl_M_53 hM_0 rfl ?_
    refine aw_iload_n (pc' := 35) d_M_count_34 rfl rfl ?_
    refine aw_iconst (pc' := 36) d_M_count_35 rfl kc_ic_m1 ?_
    obtain ⟨g19, hf⟩ := aw_gi hf
    refine aw_iast (pc' := 37) (h' := (hM  (me_wi (me_wi μ 14 l1.toNatClampNeg ((μ.1 6 l1.toNatClampNeg) ||| ((1 : Int32) <<< (l1 &&& 31)))) 15 l1.toNatClampNeg (-1 : Int32)))) d_M_count_36 rfl rfl hM_15 g19 rfl ?_
    refine aw_iinc (pc' := 40) (L' := [some (.ref 0), some (.int (l1 + (1 : Int32))), none, none, none, none]) d_M_count_37 rfl kc_ic_1 rfl (by decide) rfl ?_
    refine aw_goto (tgt := 6) d_M_count_40 (by decide) ?_
    exact aw_weak [true, true, false, false, false, false] rfl (hk6 _ _ hf)
set_option maxRecDepth 20000 in
theorem wM_count_6 {N : Nat} {r0 : me_M} : ∀ (F : Nat) (l1 : Int32) (μ : me_M) (hf : fM_count_6 N F l1 μ = some r0), AW "ArcTapeModel" "count" c_M_count 6 none 6 0 0 0 (aw_is none (hM  r0)) 6 [some (.ref 0), some (.int l1), none, none, none, none] [] (hM  μ) 0 0 := by
  intro F
  induction F with
  | zero => intro l1 μ hf; exact aw_no hf
  | succ F ih => intro l1 μ hf; exact wM_count_6b ih l1 μ hf
set_option maxRecDepth 20000 in
theorem mM_count {N : Nat} {μ : me_M} {r0 : me_M} (hf : fM_count N μ = some r0) : AM y_M_count c_M_count 6 none 6 0 0 0 [.ref 0] (hM  μ) (aw_is none (hM  r0)) := by
  unfold fM_count at hf
  refine AM.of (own := "ArcTapeModel") (nm := "count") (L := [some (.ref 0), none, none, none, none, none]) rfl rfl (by decide) (Nat.le_of_ble_eq_true rfl) rfl ?_
  refine aw_aload_n (pc' := 1) d_M_count_0 rfl rfl ?_
  obtain ⟨r20, hr20, hf⟩ := aw_bind hf
  refine aw_callVn (pc' := 4) (av := []) d_M_count_1 rfl wc_M_173 hM_0 (mM_read hr20) (Or.inl rfl) rfl (by decide) (Nat.le_of_ble_eq_true rfl) ⟨(Nat.le_refl 0), (Nat.le_refl 0)⟩ ?_
  refine aw_iconst (pc' := 5) d_M_count_4 rfl kc_ic_0 ?_
  refine aw_istore_n (pc' := 6) (L' := [some (.ref 0), some (.int (0 : Int32)), none, none, none, none]) d_M_count_5 rfl (by decide) rfl ?_
  exact aw_weak [true, true, false, false, false, false] rfl (wM_count_6 _ _ _ hf)
set_option maxRecDepth 20000 in
theorem mM_components {N : Nat} {μ : me_M} {r0 : (Int32 × me_M)} (hf : fM_components N μ = some r0) : AM y_M_components c_M_components 1 (some .int) 7 0 0 0 [.ref 0] (hM  μ) (aw_is (some (.int r0.1)) (hM  r0.2)) := by
  unfold fM_components at hf
  refine AM.of (own := "ArcTapeModel") (nm := "components") (L := [some (.ref 0)]) rfl rfl (by decide) (Nat.le_of_ble_eq_true rfl) rfl ?_
  refine aw_aload_n (pc' := 1) d_M_components_0 rfl rfl ?_
  obtain ⟨r1, hr1, hf⟩ := aw_bind hf
  refine aw_callVn (pc' := 4) (av := []) d_M_components_1 rfl wc_M_185 hM_0 (mM_count hr1) (Or.inl rfl) rfl (by decide) (Nat.le_of_ble_eq_true rfl) ⟨(Nat.le_refl 0), (Nat.le_refl 0)⟩ ?_
  refine aw_aload_n (pc' := 5) d_M_components_4 rfl rfl ?_
  refine aw_get (pc' := 8) d_M_components_5 rfl fl_M_176 hM_0 rfl ?_
  cases hf
  exact aw_ireturn rfl d_M_components_8 (Nat.le_refl 0) (Nat.le_refl 0) ⟨rfl, rfl⟩
set_option maxRecDepth 20000 in
theorem mM_component {N : Nat} {μ : me_M} {r0 : (Int32 × me_M)} {l1 : Int32} (hf : fM_component N l1 μ = some r0) : AM y_M_component c_M_component 2 (some .int) 7 0 0 0 [.ref 0, .int l1] (hM  μ) (aw_is (some (.int r0.1)) (hM  r0.2)) := by
  unfold fM_component at hf
  refine AM.of (own := "ArcTapeModel") (nm := "component") (L := [some (.ref 0), some (.int l1)]) rfl rfl (by decide) (Nat.le_of_ble_eq_true rfl) rfl ?_
  refine aw_aload_n (pc' := 1) d_M_component_0 rfl rfl ?_
  refine aw_iload_n (pc' := 2) d_M_component_1 rfl rfl ?_
  obtain ⟨r1, hr1, hf⟩ := aw_bind hf
  refine aw_callVv (pc' := 5) (av := [.int l1]) d_M_component_2 rfl wc_M_68 hM_0 (mM_node hr1) (Or.inl rfl) rfl (by decide) (Nat.le_of_ble_eq_true rfl) ⟨(Nat.le_refl 0), (Nat.le_refl 0)⟩ ?_
  refine aw_if_ne (tgt := 10) (pc' := 8) d_M_component_5 (by decide) rfl (fun c2 => ?_) (fun c2 => ?_)
  · replace hf := aw_ifn c2 hf
    refine aw_aload_n (pc' := 11) d_M_component_10 rfl rfl ?_
    obtain ⟨r3, hr3, hf⟩ := aw_bind hf
    refine aw_callVn (pc' := 14) (av := []) d_M_component_11 rfl wc_M_185 hM_0 (mM_count hr3) (Or.inl rfl) rfl (by decide) (Nat.le_of_ble_eq_true rfl) ⟨(Nat.le_refl 0), (Nat.le_refl 0)⟩ ?_
    refine aw_aload_n (pc' := 15) d_M_component_14 rfl rfl ?_
    refine aw_get (pc' := 18) d_M_component_15 rfl fl_M_53 hM_0 rfl ?_
    refine aw_iload_n (pc' := 19) d_M_component_18 rfl rfl ?_
    obtain ⟨g4, hf⟩ := aw_gi hf
    refine aw_iald (pc' := 20) d_M_component_19 rfl rfl hM_15 g4 ?_
    cases hf
    exact aw_ireturn rfl d_M_component_20 (Nat.le_refl 0) (Nat.le_refl 0) ⟨rfl, rfl⟩
  · replace hf := aw_ifp c2 hf
    refine aw_iconst (pc' := 9) d_M_component_8 rfl kc_ic_m1 ?_
    cases hf
    exact aw_ireturn rfl d_M_component_9 (Nat.le_refl 0) (Nat.le_refl 0) ⟨rfl, rfl⟩
set_option maxRecDepth 20000 in
theorem wM_total_27 {N : Nat} {μ : me_M} {r0 : Int32} (l1 : Int32) (hf : fM_total_27 N μ l1 = some r0) : AW "ArcTapeModel" "total" c_M_total 3 (some .int) 0 0 0 0 (aw_is (some (.int r0)) (hM  μ)) 27 [none, some (.int l1), none] [] (hM  μ) 0 0 := by
  unfold fM_total_27 at hf
  refine aw_iload_n (pc' := 28) d_M_total_27 rfl rfl ?_
  cases hf
  exact aw_ireturn rfl d_M_total_28 (Nat.le_refl 0) (Nat.le_refl 0) ⟨rfl, rfl⟩
set_option maxRecDepth 20000 in
theorem wM_total_4b {N : Nat} {μ : me_M} {r0 : Int32} {k4 : Int32 → Int32 → Option Int32} (hk4 : ∀ (l1 : Int32) (l2 : Int32), k4 l1 l2 = some r0 → AW "ArcTapeModel" "total" c_M_total 3 (some .int) 0 0 0 0 (aw_is (some (.int r0)) (hM  μ)) 4 [some (.ref 0), some (.int l1), some (.int l2)] [] (hM  μ) 0 0) (l1 : Int32) (l2 : Int32) (hf : fM_total_4b N μ k4 l1 l2 = some r0) : AW "ArcTapeModel" "total" c_M_total 3 (some .int) 0 0 0 0 (aw_is (some (.int r0)) (hM  μ)) 4 [some (.ref 0), some (.int l1), some (.int l2)] [] (hM  μ) 0 0 := by
  unfold fM_total_4b at hf
  refine aw_iload_n (pc' := 5) d_M_total_4 rfl rfl ?_
  refine aw_aload_n (pc' := 6) d_M_total_5 rfl rfl ?_
  refine aw_get (pc' := 9) d_M_total_6 rfl fl_M_56 hM_0 rfl ?_
  refine aw_icmp_ge (tgt := 27) (pc' := 12) d_M_total_9 (by decide) rfl (fun c1 => ?_) (fun c1 => ?_)
  · replace hf := aw_ifp c1 hf
    exact aw_weak [false, true, false] rfl (wM_total_27 _ hf)
  · replace hf := aw_ifn c1 hf
    refine aw_iload_n (pc' := 13) d_M_total_12 rfl rfl ?_
    refine aw_aload_n (pc' := 14) d_M_total_13 rfl rfl ?_
    refine aw_get (pc' := 17) d_M_total_14 rfl fl_M_37 hM_0 rfl ?_
    refine aw_iload_n (pc' := 18) d_M_total_17 rfl rfl ?_
    obtain ⟨g2, hf⟩ := aw_gi hf
    refine aw_iald (pc' := 19) d_M_total_18 rfl rfl hM_10 g2 ?_
    refine aw_iadd (pc' := 20) d_M_total_19 rfl ?_
    refine aw_istore_n (pc' := 21) (L' := [some (.ref 0), some (.int (l1 + (μ.1 10 l2.toNatClampNeg))), some (.int l2)]) d_M_total_20 rfl (by decide) rfl ?_
    refine aw_iinc (pc' := 24) (L' := [some (.ref 0), some (.int (l1 + (μ.1 10 l2.toNatClampNeg))), some (.int (l2 + (1 : Int32)))]) d_M_total_21 rfl kc_ic_1 rfl (by decide) rfl ?_
    refine aw_goto (tgt := 4) d_M_total_24 (by decide) ?_
    exact aw_weak [true, true, true] rfl (hk4 _ _ hf)
set_option maxRecDepth 20000 in
theorem wM_total_4 {N : Nat} {μ : me_M} {r0 : Int32} : ∀ (F : Nat) (l1 : Int32) (l2 : Int32) (hf : fM_total_4 N μ F l1 l2 = some r0), AW "ArcTapeModel" "total" c_M_total 3 (some .int) 0 0 0 0 (aw_is (some (.int r0)) (hM  μ)) 4 [some (.ref 0), some (.int l1), some (.int l2)] [] (hM  μ) 0 0 := by
  intro F
  induction F with
  | zero => intro l1 l2 hf; exact aw_no hf
  | succ F ih => intro l1 l2 hf; exact wM_total_4b ih l1 l2 hf
set_option maxRecDepth 20000 in
theorem mM_total {N : Nat} {μ : me_M} {r0 : Int32} (hf : fM_total N μ = some r0) : AM y_M_total c_M_total 3 (some .int) 0 0 0 0 [.ref 0] (hM  μ) (aw_is (some (.int r0)) (hM  μ)) := by
  unfold fM_total at hf
  refine AM.of (own := "ArcTapeModel") (nm := "total") (L := [some (.ref 0), none, none]) rfl rfl (by decide) (Nat.le_of_ble_eq_true rfl) rfl ?_
  refine aw_iconst (pc' := 1) d_M_total_0 rfl kc_ic_0 ?_
  refine aw_istore_n (pc' := 2) (L' := [some (.ref 0), some (.int (0 : Int32)), none]) d_M_total_1 rfl (by decide) rfl ?_
  refine aw_iconst (pc' := 3) d_M_total_2 rfl kc_ic_0 ?_
  refine aw_istore_n (pc' := 4) (L' := [some (.ref 0), some (.int (0 : Int32)), some (.int (0 : Int32))]) d_M_total_3 rfl (by decide) rfl ?_
  exact aw_weak [true, true, true] rfl (wM_total_4 _ _ _ hf)
set_option maxRecDepth 20000 in
theorem wM_prefer_37 {N : Nat} {r0 : (Int32 × me_M)} (l1 : Int32) (l2 : Int32) (μ : me_M) (hf : fM_prefer_37 N l1 l2 μ = some r0) : AW "ArcTapeModel" "prefer" c_M_prefer 3 (some .boolean) 1 0 0 0 (aw_is (some (.int r0.1)) (hM  r0.2)) 37 [some (.ref 0), some (.int l1), some (.int l2)] [] (hM  μ) 0 0 := by
  unfold fM_prefer_37 at hf
  refine aw_aload_n (pc' := 38) d_M_prefer_37 rfl rfl ?_
  refine aw_get (pc' := 41) d_M_prefer_38 rfl fl_M_37 hM_0 rfl ?_
  refine aw_iload_n (pc' := 42) d_M_prefer_41 rfl rfl ?_
  refine aw_iload_n (pc' := 43) d_M_prefer_42 rfl rfl ?_
  obtain ⟨g1, hf⟩ := aw_gi hf
  refine aw_iast (pc' := 44) (h' := (hM  (me_wi μ 10 l1.toNatClampNeg l2))) d_M_prefer_43 rfl rfl hM_10 g1 rfl ?_
  refine aw_iconst (pc' := 45) d_M_prefer_44 rfl kc_ic_1 ?_
  obtain ⟨g2, hf⟩ := aw_gz hf
  cases hf
  exact aw_zreturn rfl g2.1 d_M_prefer_45 (Nat.le_refl 0) (Nat.le_refl 0) ⟨rfl, rfl⟩
set_option maxRecDepth 20000 in
theorem wM_prefer_35 {N : Nat} {r0 : (Int32 × me_M)} (μ : me_M) (hf : fM_prefer_35 N μ = some r0) : AW "ArcTapeModel" "prefer" c_M_prefer 3 (some .boolean) 1 0 0 0 (aw_is (some (.int r0.1)) (hM  r0.2)) 35 [none, none, none] [] (hM  μ) 0 0 := by
  unfold fM_prefer_35 at hf
  refine aw_iconst (pc' := 36) d_M_prefer_35 rfl kc_ic_0 ?_
  obtain ⟨g3, hf⟩ := aw_gz hf
  cases hf
  exact aw_zreturn rfl g3.1 d_M_prefer_36 (Nat.le_refl 0) (Nat.le_refl 0) ⟨rfl, rfl⟩
set_option maxRecDepth 20000 in
theorem mM_prefer {N : Nat} {μ : me_M} {r0 : (Int32 × me_M)} {l1 : Int32} {l2 : Int32} (hf : fM_prefer N l1 l2 μ = some r0) : AM y_M_prefer c_M_prefer 3 (some .boolean) 1 0 0 0 [.ref 0, .int l1, .int l2] (hM  μ) (aw_is (some (.int r0.1)) (hM  r0.2)) := by
  unfold fM_prefer at hf
  refine AM.of (own := "ArcTapeModel") (nm := "prefer") (L := [some (.ref 0), some (.int l1), some (.int l2)]) rfl rfl (by decide) (Nat.le_of_ble_eq_true rfl) rfl ?_
  refine aw_aload_n (pc' := 1) d_M_prefer_0 rfl rfl ?_
  refine aw_iload_n (pc' := 2) d_M_prefer_1 rfl rfl ?_
  obtain ⟨r4, hr4, hf⟩ := aw_bind hf
  refine aw_callVv (pc' := 5) (av := [.int l1]) d_M_prefer_2 rfl wc_M_68 hM_0 (mM_node hr4) (Or.inl rfl) rfl (by decide) (Nat.le_of_ble_eq_true rfl) ⟨(Nat.le_refl 0), (Nat.le_refl 0)⟩ ?_
  refine aw_if_eq (tgt := 35) (pc' := 8) d_M_prefer_5 (by decide) rfl (fun c5 => ?_) (fun c5 => ?_)
  · replace hf := aw_ifp c5 hf
    exact aw_weak [false, false, false] rfl (wM_prefer_35 _ hf)
  · replace hf := aw_ifn c5 hf
    refine aw_iload_n (pc' := 9) d_M_prefer_8 rfl rfl ?_
    refine aw_if_lt (tgt := 35) (pc' := 12) d_M_prefer_9 (by decide) rfl (fun c6 => ?_) (fun c6 => ?_)
    · replace hf := aw_ifp c6 hf
      exact aw_weak [false, false, false] rfl (wM_prefer_35 _ hf)
    · replace hf := aw_ifn c6 hf
      refine aw_iload_n (pc' := 13) d_M_prefer_12 rfl rfl ?_
      refine aw_bipush (pc' := 15) d_M_prefer_13 rfl kc_bi_100 ?_
      refine aw_icmp_gt (tgt := 35) (pc' := 18) d_M_prefer_15 (by decide) rfl (fun c7 => ?_) (fun c7 => ?_)
      · replace hf := aw_ifp c7 hf
        exact aw_weak [false, false, false] rfl (wM_prefer_35 _ hf)
      · replace hf := aw_ifn c7 hf
        refine aw_iload_n (pc' := 19) d_M_prefer_18 rfl rfl ?_
        refine aw_if_ne (tgt := 37) (pc' := 22) d_M_prefer_19 (by decide) rfl (fun c8 => ?_) (fun c8 => ?_)
        · replace hf := aw_ifn c8 hf
          exact aw_weak [true, true, true] rfl (wM_prefer_37 _ _ _ hf)
        · replace hf := aw_ifp c8 hf
          refine aw_aload_n (pc' := 23) d_M_prefer_22 rfl rfl ?_
          obtain ⟨r9, hr9, hf⟩ := aw_bind hf
          refine aw_callVv (pc' := 26) (av := []) d_M_prefer_23 rfl wc_M_188 hM_0 (mM_total hr9) (Or.inl rfl) rfl (by decide) (Nat.le_of_ble_eq_true rfl) ⟨(Nat.le_refl 0), (Nat.le_refl 0)⟩ ?_
          refine aw_aload_n (pc' := 27) d_M_prefer_26 rfl rfl ?_
          refine aw_get (pc' := 30) d_M_prefer_27 rfl fl_M_37 hM_0 rfl ?_
          refine aw_iload_n (pc' := 31) d_M_prefer_30 rfl rfl ?_
          obtain ⟨g10, hf⟩ := aw_gi hf
          refine aw_iald (pc' := 32) d_M_prefer_31 rfl rfl hM_10 g10 ?_
          refine aw_icmp_ne (tgt := 37) (pc' := 35) d_M_prefer_32 (by decide) rfl (fun c11 => ?_) (fun c11 => ?_)
          · replace hf := aw_ifn c11 hf
            exact aw_weak [true, true, true] rfl (wM_prefer_37 _ _ _ hf)
          · replace hf := aw_ifp c11 hf
            exact aw_weak [false, false, false] rfl (wM_prefer_35 _ hf)
set_option maxRecDepth 20000 in
theorem wM_links_19 {N : Nat} {μ : me_M} {r0 : Int32} (s0 : Int32) (hf : fM_links_19 N μ s0 = some r0) : AW "ArcTapeModel" "links" c_M_links 3 (some .boolean) 0 0 0 0 (aw_is (some (.int r0)) (hM  μ)) 19 [none, none, none] [.int s0] (hM  μ) 0 0 := by
  unfold fM_links_19 at hf
  obtain ⟨g1, hf⟩ := aw_gz hf
  cases hf
  exact aw_zreturn rfl g1.1 d_M_links_19 (Nat.le_refl 0) (Nat.le_refl 0) ⟨rfl, rfl⟩
set_option maxRecDepth 20000 in
theorem mM_links {N : Nat} {μ : me_M} {r0 : Int32} {l1 : Int32} {l2 : Int32} (hf : fM_links N μ l1 l2 = some r0) : AM y_M_links c_M_links 3 (some .boolean) 0 0 0 0 [.ref 0, .int l1, .int l2] (hM  μ) (aw_is (some (.int r0)) (hM  μ)) := by
  unfold fM_links at hf
  refine AM.of (own := "ArcTapeModel") (nm := "links") (L := [some (.ref 0), some (.int l1), some (.int l2)]) rfl rfl (by decide) (Nat.le_of_ble_eq_true rfl) rfl ?_
  refine aw_aload_n (pc' := 1) d_M_links_0 rfl rfl ?_
  refine aw_get (pc' := 4) d_M_links_1 rfl fl_M_25 hM_0 rfl ?_
  refine aw_iload_n (pc' := 5) d_M_links_4 rfl rfl ?_
  obtain ⟨g2, hf⟩ := aw_gi hf
  refine aw_iald (pc' := 6) d_M_links_5 rfl rfl hM_6 g2 ?_
  refine aw_iload_n (pc' := 7) d_M_links_6 rfl rfl ?_
  refine aw_ishr (pc' := 8) d_M_links_7 rfl ?_
  refine aw_iconst (pc' := 9) d_M_links_8 rfl kc_ic_1 ?_
  refine aw_iand (pc' := 10) d_M_links_9 rfl ?_
  refine aw_iconst (pc' := 11) d_M_links_10 rfl kc_ic_1 ?_
  refine aw_icmp_ne (tgt := 18) (pc' := 14) d_M_links_11 (by decide) rfl (fun c3 => ?_) (fun c3 => ?_)
  · replace hf := aw_ifn c3 hf
    refine aw_iconst (pc' := 19) d_M_links_18 rfl kc_ic_0 ?_
    exact aw_weak [false, false, false] rfl (wM_links_19 _ hf)
  · replace hf := aw_ifp c3 hf
    refine aw_iconst (pc' := 15) d_M_links_14 rfl kc_ic_1 ?_
    refine aw_goto (tgt := 19) d_M_links_15 (by decide) ?_
    exact aw_weak [false, false, false] rfl (wM_links_19 _ hf)
set_option maxRecDepth 20000 in
theorem wM_into_35 {N : Nat} {μ : me_M} {r0 : Int32} (l2 : Int32) (hf : fM_into_35 N μ l2 = some r0) : AW "ArcTapeModel" "into" c_M_into 4 (some .int) 1 0 0 0 (aw_is (some (.int r0)) (hM  μ)) 35 [none, none, some (.int l2), none] [] (hM  μ) 0 0 := by
  unfold fM_into_35 at hf
  refine aw_iload_n (pc' := 36) d_M_into_35 rfl rfl ?_
  cases hf
  exact aw_ireturn rfl d_M_into_36 (Nat.le_refl 0) (Nat.le_refl 0) ⟨rfl, rfl⟩
set_option maxRecDepth 20000 in
theorem wM_into_27 {N : Nat} {μ : me_M} {r0 : Int32} {k4 : Int32 → Int32 → Int32 → Option Int32} (hk4 : ∀ (l1 : Int32) (l2 : Int32) (l3 : Int32), k4 l1 l2 l3 = some r0 → AW "ArcTapeModel" "into" c_M_into 4 (some .int) 1 0 0 0 (aw_is (some (.int r0)) (hM  μ)) 4 [some (.ref 0), some (.int l1), some (.int l2), some (.int l3)] [] (hM  μ) 0 0) (l1 : Int32) (l3 : Int32) (s0 : Int32) (s1 : Int32) (hf : fM_into_27 N μ k4 l1 l3 s0 s1 = some r0) : AW "ArcTapeModel" "into" c_M_into 4 (some .int) 1 0 0 0 (aw_is (some (.int r0)) (hM  μ)) 27 [some (.ref 0), some (.int l1), none, some (.int l3)] [.int s1, .int s0] (hM  μ) 0 0 := by
  unfold fM_into_27 at hf
  refine aw_iadd (pc' := 28) d_M_into_27 rfl ?_
  refine aw_istore_n (pc' := 29) (L' := [some (.ref 0), some (.int l1), some (.int (s0 + s1)), some (.int l3)]) d_M_into_28 rfl (by decide) rfl ?_
  refine aw_iinc (pc' := 32) (L' := [some (.ref 0), some (.int l1), some (.int (s0 + s1)), some (.int (l3 + (1 : Int32)))]) d_M_into_29 rfl kc_ic_1 rfl (by decide) rfl ?_
  refine aw_goto (tgt := 4) d_M_into_32 (by decide) ?_
  exact aw_weak [true, true, true, true] rfl (hk4 _ _ _ hf)
set_option maxRecDepth 20000 in
theorem wM_into_4b {N : Nat} {μ : me_M} {r0 : Int32} {k4 : Int32 → Int32 → Int32 → Option Int32} (hk4 : ∀ (l1 : Int32) (l2 : Int32) (l3 : Int32), k4 l1 l2 l3 = some r0 → AW "ArcTapeModel" "into" c_M_into 4 (some .int) 1 0 0 0 (aw_is (some (.int r0)) (hM  μ)) 4 [some (.ref 0), some (.int l1), some (.int l2), some (.int l3)] [] (hM  μ) 0 0) (l1 : Int32) (l2 : Int32) (l3 : Int32) (hf : fM_into_4b N μ k4 l1 l2 l3 = some r0) : AW "ArcTapeModel" "into" c_M_into 4 (some .int) 1 0 0 0 (aw_is (some (.int r0)) (hM  μ)) 4 [some (.ref 0), some (.int l1), some (.int l2), some (.int l3)] [] (hM  μ) 0 0 := by
  unfold fM_into_4b at hf
  refine aw_iload_n (pc' := 5) d_M_into_4 rfl rfl ?_
  refine aw_aload_n (pc' := 6) d_M_into_5 rfl rfl ?_
  refine aw_get (pc' := 9) d_M_into_6 rfl fl_M_56 hM_0 rfl ?_
  refine aw_icmp_ge (tgt := 35) (pc' := 12) d_M_into_9 (by decide) rfl (fun c1 => ?_) (fun c1 => ?_)
  · replace hf := aw_ifp c1 hf
    exact aw_weak [false, false, true, false] rfl (wM_into_35 _ hf)
  · replace hf := aw_ifn c1 hf
    refine aw_iload_n (pc' := 13) d_M_into_12 rfl rfl ?_
    refine aw_aload_n (pc' := 14) d_M_into_13 rfl rfl ?_
    refine aw_iload_n (pc' := 15) d_M_into_14 rfl rfl ?_
    refine aw_iload_n (pc' := 16) d_M_into_15 rfl rfl ?_
    obtain ⟨r2, hr2, hf⟩ := aw_bind hf
    refine aw_callVv (pc' := 19) (av := [.int l3, .int l1]) d_M_into_16 rfl wc_M_205 hM_0 (mM_links hr2) (Or.inl rfl) rfl (by decide) (Nat.le_of_ble_eq_true rfl) ⟨(Nat.le_refl 0), (Nat.le_refl 0)⟩ ?_
    refine aw_if_eq (tgt := 26) (pc' := 22) d_M_into_19 (by decide) rfl (fun c3 => ?_) (fun c3 => ?_)
    · replace hf := aw_ifp c3 hf
      refine aw_iconst (pc' := 27) d_M_into_26 rfl kc_ic_0 ?_
      exact aw_weak [true, true, false, true] rfl (wM_into_27 hk4 _ _ _ _ hf)
    · replace hf := aw_ifn c3 hf
      refine aw_iconst (pc' := 23) d_M_into_22 rfl kc_ic_1 ?_
      refine aw_goto (tgt := 27) d_M_into_23 (by decide) ?_
      exact aw_weak [true, true, false, true] rfl (wM_into_27 hk4 _ _ _ _ hf)
set_option maxRecDepth 20000 in
theorem wM_into_4 {N : Nat} {μ : me_M} {r0 : Int32} : ∀ (F : Nat) (l1 : Int32) (l2 : Int32) (l3 : Int32) (hf : fM_into_4 N μ F l1 l2 l3 = some r0), AW "ArcTapeModel" "into" c_M_into 4 (some .int) 1 0 0 0 (aw_is (some (.int r0)) (hM  μ)) 4 [some (.ref 0), some (.int l1), some (.int l2), some (.int l3)] [] (hM  μ) 0 0 := by
  intro F
  induction F with
  | zero => intro l1 l2 l3 hf; exact aw_no hf
  | succ F ih => intro l1 l2 l3 hf; exact wM_into_4b ih l1 l2 l3 hf
set_option maxRecDepth 20000 in
theorem mM_into {N : Nat} {μ : me_M} {r0 : Int32} {l1 : Int32} (hf : fM_into N μ l1 = some r0) : AM y_M_into c_M_into 4 (some .int) 1 0 0 0 [.ref 0, .int l1] (hM  μ) (aw_is (some (.int r0)) (hM  μ)) := by
  unfold fM_into at hf
  refine AM.of (own := "ArcTapeModel") (nm := "into") (L := [some (.ref 0), some (.int l1), none, none]) rfl rfl (by decide) (Nat.le_of_ble_eq_true rfl) rfl ?_
  refine aw_iconst (pc' := 1) d_M_into_0 rfl kc_ic_0 ?_
  refine aw_istore_n (pc' := 2) (L' := [some (.ref 0), some (.int l1), some (.int (0 : Int32)), none]) d_M_into_1 rfl (by decide) rfl ?_
  refine aw_iconst (pc' := 3) d_M_into_2 rfl kc_ic_0 ?_
  refine aw_istore_n (pc' := 4) (L' := [some (.ref 0), some (.int l1), some (.int (0 : Int32)), some (.int (0 : Int32))]) d_M_into_3 rfl (by decide) rfl ?_
  exact aw_weak [true, true, true, true] rfl (wM_into_4 _ _ _ _ hf)
set_option maxRecDepth 20000 in
theorem wM_stepRank_185 {N : Nat} {r0 : me_M} (μ : me_M) (hf : fM_stepRank_185 N μ = some r0) : AW "ArcTapeModel" "stepRank" c_M_stepRank 9 none 1 0 0 0 (aw_is none (hM  r0)) 185 [none, none, none, none, none, none, none, none, none] [] (hM  μ) 0 0 := by
  unfold fM_stepRank_185 at hf
  cases hf
  exact aw_return rfl d_M_stepRank_185 (Nat.le_refl 0) (Nat.le_refl 0) ⟨rfl, rfl⟩
set_option maxRecDepth 20000 in
theorem wM_stepRank_122 {N : Nat} {r0 : me_M} {k53 : Int64 → Int64 → Int32 → me_M → Option me_M} (hk53 : ∀ (l1 : Int64) (l3 : Int64) (l5 : Int32) (μ : me_M), k53 l1 l3 l5 μ = some r0 → AW "ArcTapeModel" "stepRank" c_M_stepRank 9 none 1 0 0 0 (aw_is none (hM  r0)) 53 [some (.ref 0), some (.long l1), none, some (.long l3), none, some (.int l5), none, none, none] [] (hM  μ) 0 0) (l1 : Int64) (l3 : Int64) (l5 : Int32) (l6 : Int64) (μ : me_M) (hf : fM_stepRank_122 N k53 l1 l3 l5 l6 μ = some r0) : AW "ArcTapeModel" "stepRank" c_M_stepRank 9 none 1 0 0 0 (aw_is none (hM  r0)) 122 [some (.ref 0), some (.long l1), none, some (.long l3), none, some (.int l5), some (.long l6), none, none] [] (hM  μ) 0 0 := by
  unfold fM_stepRank_122 at hf
  refine aw_aload_n (pc' := 123) d_M_stepRank_122 rfl rfl ?_
  refine aw_get (pc' := 126) d_M_stepRank_123 rfl fl_M_47 hM_0 rfl ?_
  refine aw_iload (pc' := 128) d_M_stepRank_126 rfl rfl ?_
  refine aw_sipush (pc' := 131) d_M_stepRank_128 rfl kc_si_1000 ?_
  refine aw_aload_n (pc' := 132) d_M_stepRank_131 rfl rfl ?_
  refine aw_get (pc' := 135) d_M_stepRank_132 rfl fl_M_194 hM_0 rfl ?_
  refine aw_isub (pc' := 136) d_M_stepRank_135 rfl ?_
  refine aw_i2l (pc' := 137) d_M_stepRank_136 rfl ?_
  refine aw_ldc2 (pc' := 140) d_M_stepRank_137 rfl wk_M_208 ?_
  refine aw_lmul (pc' := 141) d_M_stepRank_140 rfl ?_
  refine aw_aload_n (pc' := 142) d_M_stepRank_141 rfl rfl ?_
  refine aw_get (pc' := 145) d_M_stepRank_142 rfl fl_M_37 hM_0 rfl ?_
  refine aw_iload (pc' := 147) d_M_stepRank_145 rfl rfl ?_
  obtain ⟨g1, hf⟩ := aw_gi hf
  refine aw_iald (pc' := 148) d_M_stepRank_147 rfl rfl hM_10 g1 ?_
  refine aw_i2l (pc' := 149) d_M_stepRank_148 rfl ?_
  refine aw_lmul (pc' := 150) d_M_stepRank_149 rfl ?_
  refine aw_lload_n (pc' := 151) d_M_stepRank_150 rfl rfl ?_
  obtain ⟨g2, hf⟩ := aw_gd hf
  refine aw_ldiv (pc' := 152) d_M_stepRank_151 rfl g2 ?_
  refine aw_aload_n (pc' := 153) d_M_stepRank_152 rfl rfl ?_
  refine aw_get (pc' := 156) d_M_stepRank_153 rfl fl_M_194 hM_0 rfl ?_
  refine aw_i2l (pc' := 157) d_M_stepRank_156 rfl ?_
  refine aw_lload (pc' := 159) d_M_stepRank_157 rfl rfl ?_
  refine aw_lload_n (pc' := 160) d_M_stepRank_159 rfl rfl ?_
  refine aw_aload_n (pc' := 161) d_M_stepRank_160 rfl rfl ?_
  refine aw_get (pc' := 164) d_M_stepRank_161 rfl fl_M_37 hM_0 rfl ?_
  refine aw_iload (pc' := 166) d_M_stepRank_164 rfl rfl ?_
  obtain ⟨g3, hf⟩ := aw_gi hf
  refine aw_iald (pc' := 167) d_M_stepRank_166 rfl rfl hM_10 g3 ?_
  refine aw_i2l (pc' := 168) d_M_stepRank_167 rfl ?_
  refine aw_lmul (pc' := 169) d_M_stepRank_168 rfl ?_
  refine aw_lload_n (pc' := 170) d_M_stepRank_169 rfl rfl ?_
  obtain ⟨g4, hf⟩ := aw_gd hf
  refine aw_ldiv (pc' := 171) d_M_stepRank_170 rfl g4 ?_
  refine aw_ladd (pc' := 172) d_M_stepRank_171 rfl ?_
  refine aw_lmul (pc' := 173) d_M_stepRank_172 rfl ?_
  refine aw_ldc2 (pc' := 176) d_M_stepRank_173 rfl wk_M_210 ?_
  refine aw_ldiv (pc' := 177) d_M_stepRank_176 rfl (by decide) ?_
  refine aw_ladd (pc' := 178) d_M_stepRank_177 rfl ?_
  obtain ⟨g6, hf⟩ := aw_gi hf
  refine aw_last (pc' := 179) (h' := (hM  (me_wl μ 13 l5.toNatClampNeg (((((((1000 : Int32) - (μ.1 121 0)).toInt64) * (1000000000 : Int64)) * ((μ.1 10 l5.toNatClampNeg).toInt64)) / l1) + ((((μ.1 121 0).toInt64) * (l6 + ((l3 * ((μ.1 10 l5.toNatClampNeg).toInt64)) / l1))) / (1000 : Int64)))))) d_M_stepRank_178 rfl rfl hM_13 g6 rfl ?_
  refine aw_iinc (pc' := 182) (L' := [some (.ref 0), some (.long l1), none, some (.long l3), none, some (.int (l5 + (1 : Int32))), some (.long l6), none, none]) d_M_stepRank_179 rfl kc_ic_1 rfl (by decide) rfl ?_
  refine aw_goto (tgt := 53) d_M_stepRank_182 (by decide) ?_
  exact aw_weak [true, true, false, true, false, true, false, false, false] rfl (hk53 _ _ _ _ hf)
set_option maxRecDepth 20000 in
theorem wM_stepRank_113 {N : Nat} {r0 : me_M} {k53 : Int64 → Int64 → Int32 → me_M → Option me_M} (hk53 : ∀ (l1 : Int64) (l3 : Int64) (l5 : Int32) (μ : me_M), k53 l1 l3 l5 μ = some r0 → AW "ArcTapeModel" "stepRank" c_M_stepRank 9 none 1 0 0 0 (aw_is none (hM  r0)) 53 [some (.ref 0), some (.long l1), none, some (.long l3), none, some (.int l5), none, none, none] [] (hM  μ) 0 0) {k68 : Int64 → Int64 → Int32 → Int64 → Int32 → me_M → Option me_M} (hk68 : ∀ (l1 : Int64) (l3 : Int64) (l5 : Int32) (l6 : Int64) (l8 : Int32) (μ : me_M), k68 l1 l3 l5 l6 l8 μ = some r0 → AW "ArcTapeModel" "stepRank" c_M_stepRank 9 none 1 0 0 0 (aw_is none (hM  r0)) 68 [some (.ref 0), some (.long l1), none, some (.long l3), none, some (.int l5), some (.long l6), none, some (.int l8)] [] (hM  μ) 0 0) (l1 : Int64) (l3 : Int64) (l5 : Int32) (l8 : Int32) (s0 : Int64) (s1 : Int64) (μ : me_M) (hf : fM_stepRank_113 N k53 k68 l1 l3 l5 l8 s0 s1 μ = some r0) : AW "ArcTapeModel" "stepRank" c_M_stepRank 9 none 1 0 0 0 (aw_is none (hM  r0)) 113 [some (.ref 0), some (.long l1), none, some (.long l3), none, some (.int l5), none, none, some (.int l8)] [.long s1, .long s0] (hM  μ) 0 0 := by
  unfold fM_stepRank_113 at hf
  refine aw_ladd (pc' := 114) d_M_stepRank_113 rfl ?_
  refine aw_lstore (pc' := 116) (L' := [some (.ref 0), some (.long l1), none, some (.long l3), none, some (.int l5), some (.long (s0 + s1)), none, some (.int l8)]) d_M_stepRank_114 rfl (by decide) rfl ?_
  refine aw_iinc (pc' := 119) (L' := [some (.ref 0), some (.long l1), none, some (.long l3), none, some (.int l5), some (.long (s0 + s1)), none, some (.int (l8 + (1 : Int32)))]) d_M_stepRank_116 rfl kc_ic_1 rfl (by decide) rfl ?_
  refine aw_goto (tgt := 68) d_M_stepRank_119 (by decide) ?_
  exact aw_weak [true, true, false, true, false, true, true, false, true] rfl (hk68 _ _ _ _ _ _ hf)
set_option maxRecDepth 20000 in
theorem wM_stepRank_68b {N : Nat} {r0 : me_M} {k53 : Int64 → Int64 → Int32 → me_M → Option me_M} (hk53 : ∀ (l1 : Int64) (l3 : Int64) (l5 : Int32) (μ : me_M), k53 l1 l3 l5 μ = some r0 → AW "ArcTapeModel" "stepRank" c_M_stepRank 9 none 1 0 0 0 (aw_is none (hM  r0)) 53 [some (.ref 0), some (.long l1), none, some (.long l3), none, some (.int l5), none, none, none] [] (hM  μ) 0 0) {k68 : Int64 → Int64 → Int32 → Int64 → Int32 → me_M → Option me_M} (hk68 : ∀ (l1 : Int64) (l3 : Int64) (l5 : Int32) (l6 : Int64) (l8 : Int32) (μ : me_M), k68 l1 l3 l5 l6 l8 μ = some r0 → AW "ArcTapeModel" "stepRank" c_M_stepRank 9 none 1 0 0 0 (aw_is none (hM  r0)) 68 [some (.ref 0), some (.long l1), none, some (.long l3), none, some (.int l5), some (.long l6), none, some (.int l8)] [] (hM  μ) 0 0) (l1 : Int64) (l3 : Int64) (l5 : Int32) (l6 : Int64) (l8 : Int32) (μ : me_M) (hf : fM_stepRank_68b N k53 k68 l1 l3 l5 l6 l8 μ = some r0) : AW "ArcTapeModel" "stepRank" c_M_stepRank 9 none 1 0 0 0 (aw_is none (hM  r0)) 68 [some (.ref 0), some (.long l1), none, some (.long l3), none, some (.int l5), some (.long l6), none, some (.int l8)] [] (hM  μ) 0 0 := by
  unfold fM_stepRank_68b at hf
  refine aw_iload (pc' := 70) d_M_stepRank_68 rfl rfl ?_
  refine aw_aload_n (pc' := 71) d_M_stepRank_70 rfl rfl ?_
  refine aw_get (pc' := 74) d_M_stepRank_71 rfl fl_M_56 hM_0 rfl ?_
  refine aw_icmp_ge (tgt := 122) (pc' := 77) d_M_stepRank_74 (by decide) rfl (fun c7 => ?_) (fun c7 => ?_)
  · replace hf := aw_ifp c7 hf
    exact aw_weak [true, true, false, true, false, true, true, false, false] rfl (wM_stepRank_122 hk53 _ _ _ _ _ hf)
  · replace hf := aw_ifn c7 hf
    refine aw_lload (pc' := 79) d_M_stepRank_77 rfl rfl ?_
    refine aw_aload_n (pc' := 80) d_M_stepRank_79 rfl rfl ?_
    refine aw_iload (pc' := 82) d_M_stepRank_80 rfl rfl ?_
    refine aw_iload (pc' := 84) d_M_stepRank_82 rfl rfl ?_
    obtain ⟨r8, hr8, hf⟩ := aw_bind hf
    refine aw_callVv (pc' := 87) (av := [.int l8, .int l5]) d_M_stepRank_84 rfl wc_M_205 hM_0 (mM_links hr8) (Or.inl rfl) rfl (by decide) (Nat.le_of_ble_eq_true rfl) ⟨(Nat.le_refl 0), (Nat.le_refl 0)⟩ ?_
    refine aw_if_eq (tgt := 112) (pc' := 90) d_M_stepRank_87 (by decide) rfl (fun c9 => ?_) (fun c9 => ?_)
    · replace hf := aw_ifp c9 hf
      refine aw_lconst (pc' := 113) d_M_stepRank_112 rfl kc_lc_0 ?_
      exact aw_weak [true, true, false, true, false, true, false, false, true] rfl (wM_stepRank_113 hk53 hk68 _ _ _ _ _ _ _ hf)
    · replace hf := aw_ifn c9 hf
      refine aw_aload_n (pc' := 91) d_M_stepRank_90 rfl rfl ?_
      refine aw_get (pc' := 94) d_M_stepRank_91 rfl fl_M_40 hM_0 rfl ?_
      refine aw_iload (pc' := 96) d_M_stepRank_94 rfl rfl ?_
      obtain ⟨g10, hf⟩ := aw_gi hf
      refine aw_lald (pc' := 97) d_M_stepRank_96 rfl rfl hM_11 g10 ?_
      refine aw_aload_n (pc' := 98) d_M_stepRank_97 rfl rfl ?_
      refine aw_get (pc' := 101) d_M_stepRank_98 rfl fl_M_25 hM_0 rfl ?_
      refine aw_iload (pc' := 103) d_M_stepRank_101 rfl rfl ?_
      obtain ⟨g11, hf⟩ := aw_gi hf
      refine aw_iald (pc' := 104) d_M_stepRank_103 rfl rfl hM_6 g11 ?_
      obtain ⟨r12, hr12, hf⟩ := aw_bind hf
      refine aw_callSv (pc' := 107) (av := [.int (μ.1 6 l8.toNatClampNeg)]) d_M_stepRank_104 rfl wc_M_106 (mM_ones hr12) (Or.inl rfl) rfl (by decide) (Nat.le_of_ble_eq_true rfl) ⟨(Nat.le_refl 0), (Nat.le_refl 0)⟩ ?_
      refine aw_i2l (pc' := 108) d_M_stepRank_107 rfl ?_
      obtain ⟨g13, hf⟩ := aw_gd hf
      refine aw_ldiv (pc' := 109) d_M_stepRank_108 rfl g13 ?_
      refine aw_goto (tgt := 113) d_M_stepRank_109 (by decide) ?_
      exact aw_weak [true, true, false, true, false, true, false, false, true] rfl (wM_stepRank_113 hk53 hk68 _ _ _ _ _ _ _ hf)
set_option maxRecDepth 20000 in
theorem wM_stepRank_68 {N : Nat} {r0 : me_M} {k53 : Int64 → Int64 → Int32 → me_M → Option me_M} (hk53 : ∀ (l1 : Int64) (l3 : Int64) (l5 : Int32) (μ : me_M), k53 l1 l3 l5 μ = some r0 → AW "ArcTapeModel" "stepRank" c_M_stepRank 9 none 1 0 0 0 (aw_is none (hM  r0)) 53 [some (.ref 0), some (.long l1), none, some (.long l3), none, some (.int l5), none, none, none] [] (hM  μ) 0 0) : ∀ (F : Nat) (l1 : Int64) (l3 : Int64) (l5 : Int32) (l6 : Int64) (l8 : Int32) (μ : me_M) (hf : fM_stepRank_68 N k53 F l1 l3 l5 l6 l8 μ = some r0), AW "ArcTapeModel" "stepRank" c_M_stepRank 9 none 1 0 0 0 (aw_is none (hM  r0)) 68 [some (.ref 0), some (.long l1), none, some (.long l3), none, some (.int l5), some (.long l6), none, some (.int l8)] [] (hM  μ) 0 0 := by
  intro F
  induction F with
  | zero => intro l1 l3 l5 l6 l8 μ hf; exact aw_no hf
  | succ F ih => intro l1 l3 l5 l6 l8 μ hf; exact wM_stepRank_68b hk53 ih l1 l3 l5 l6 l8 μ hf
set_option maxRecDepth 20000 in
theorem wM_stepRank_53b {N : Nat} {r0 : me_M} {k53 : Int64 → Int64 → Int32 → me_M → Option me_M} (hk53 : ∀ (l1 : Int64) (l3 : Int64) (l5 : Int32) (μ : me_M), k53 l1 l3 l5 μ = some r0 → AW "ArcTapeModel" "stepRank" c_M_stepRank 9 none 1 0 0 0 (aw_is none (hM  r0)) 53 [some (.ref 0), some (.long l1), none, some (.long l3), none, some (.int l5), none, none, none] [] (hM  μ) 0 0) (l1 : Int64) (l3 : Int64) (l5 : Int32) (μ : me_M) (hf : fM_stepRank_53b N k53 l1 l3 l5 μ = some r0) : AW "ArcTapeModel" "stepRank" c_M_stepRank 9 none 1 0 0 0 (aw_is none (hM  r0)) 53 [some (.ref 0), some (.long l1), none, some (.long l3), none, some (.int l5), none, none, none] [] (hM  μ) 0 0 := by
  unfold fM_stepRank_53b at hf
  refine aw_iload (pc' := 55) d_M_stepRank_53 rfl rfl ?_
  refine aw_aload_n (pc' := 56) d_M_stepRank_55 rfl rfl ?_
  refine aw_get (pc' := 59) d_M_stepRank_56 rfl fl_M_56 hM_0 rfl ?_
  refine aw_icmp_ge (tgt := 185) (pc' := 62) d_M_stepRank_59 (by decide) rfl (fun c14 => ?_) (fun c14 => ?_)
  · replace hf := aw_ifp c14 hf
    exact aw_weak [false, false, false, false, false, false, false, false, false] rfl (wM_stepRank_185 _ hf)
  · replace hf := aw_ifn c14 hf
    refine aw_lconst (pc' := 63) d_M_stepRank_62 rfl kc_lc_0 ?_
    refine aw_lstore (pc' := 65) (L' := [some (.ref 0), some (.long l1), none, some (.long l3), none, some (.int l5), some (.long (0 : Int64)), none, none]) d_M_stepRank_63 rfl (by decide) rfl ?_
    refine aw_iconst (pc' := 66) d_M_stepRank_65 rfl kc_ic_0 ?_
    refine aw_istore (pc' := 68) (L' := [some (.ref 0), some (.long l1), none, some (.long l3), none, some (.int l5), some (.long (0 : Int64)), none, some (.int (0 : Int32))]) d_M_stepRank_66 rfl (by decide) rfl ?_
    exact aw_weak [true, true, false, true, false, true, true, false, true] rfl (wM_stepRank_68 hk53 _ _ _ _ _ _ _ hf)
set_option maxRecDepth 20000 in
theorem wM_stepRank_53 {N : Nat} {r0 : me_M} : ∀ (F : Nat) (l1 : Int64) (l3 : Int64) (l5 : Int32) (μ : me_M) (hf : fM_stepRank_53 N F l1 l3 l5 μ = some r0), AW "ArcTapeModel" "stepRank" c_M_stepRank 9 none 1 0 0 0 (aw_is none (hM  r0)) 53 [some (.ref 0), some (.long l1), none, some (.long l3), none, some (.int l5), none, none, none] [] (hM  μ) 0 0 := by
  intro F
  induction F with
  | zero => intro l1 l3 l5 μ hf; exact aw_no hf
  | succ F ih => intro l1 l3 l5 μ hf; exact wM_stepRank_53b ih l1 l3 l5 μ hf
set_option maxRecDepth 20000 in
theorem wM_stepRank_50 {N : Nat} {r0 : me_M} (l1 : Int64) (l3 : Int64) (μ : me_M) (hf : fM_stepRank_50 N l1 l3 μ = some r0) : AW "ArcTapeModel" "stepRank" c_M_stepRank 9 none 1 0 0 0 (aw_is none (hM  r0)) 50 [some (.ref 0), some (.long l1), none, some (.long l3), none, none, none, none, none] [] (hM  μ) 0 0 := by
  unfold fM_stepRank_50 at hf
  refine aw_iconst (pc' := 51) d_M_stepRank_50 rfl kc_ic_0 ?_
  refine aw_istore (pc' := 53) (L' := [some (.ref 0), some (.long l1), none, some (.long l3), none, some (.int (0 : Int32)), none, none, none]) d_M_stepRank_51 rfl (by decide) rfl ?_
  exact aw_weak [true, true, false, true, false, true, false, false, false] rfl (wM_stepRank_53 _ _ _ _ _ hf)
set_option maxRecDepth 20000 in
theorem wM_stepRank_42 {N : Nat} {r0 : me_M} {k11 : Int64 → Int64 → Int32 → me_M → Option me_M} (hk11 : ∀ (l1 : Int64) (l3 : Int64) (l5 : Int32) (μ : me_M), k11 l1 l3 l5 μ = some r0 → AW "ArcTapeModel" "stepRank" c_M_stepRank 9 none 1 0 0 0 (aw_is none (hM  r0)) 11 [some (.ref 0), some (.long l1), none, some (.long l3), none, some (.int l5), none, none, none] [] (hM  μ) 0 0) (l1 : Int64) (l5 : Int32) (s0 : Int64) (s1 : Int64) (μ : me_M) (hf : fM_stepRank_42 N k11 l1 l5 s0 s1 μ = some r0) : AW "ArcTapeModel" "stepRank" c_M_stepRank 9 none 1 0 0 0 (aw_is none (hM  r0)) 42 [some (.ref 0), some (.long l1), none, none, none, some (.int l5), none, none, none] [.long s1, .long s0] (hM  μ) 0 0 := by
  unfold fM_stepRank_42 at hf
  refine aw_ladd (pc' := 43) d_M_stepRank_42 rfl ?_
  refine aw_lstore_n (pc' := 44) (L' := [some (.ref 0), some (.long l1), none, some (.long (s0 + s1)), none, some (.int l5), none, none, none]) d_M_stepRank_43 rfl (by decide) rfl ?_
  refine aw_iinc (pc' := 47) (L' := [some (.ref 0), some (.long l1), none, some (.long (s0 + s1)), none, some (.int (l5 + (1 : Int32))), none, none, none]) d_M_stepRank_44 rfl kc_ic_1 rfl (by decide) rfl ?_
  refine aw_goto (tgt := 11) d_M_stepRank_47 (by decide) ?_
  exact aw_weak [true, true, false, true, false, true, false, false, false] rfl (hk11 _ _ _ _ hf)
set_option maxRecDepth 20000 in
theorem wM_stepRank_11b {N : Nat} {r0 : me_M} {k11 : Int64 → Int64 → Int32 → me_M → Option me_M} (hk11 : ∀ (l1 : Int64) (l3 : Int64) (l5 : Int32) (μ : me_M), k11 l1 l3 l5 μ = some r0 → AW "ArcTapeModel" "stepRank" c_M_stepRank 9 none 1 0 0 0 (aw_is none (hM  r0)) 11 [some (.ref 0), some (.long l1), none, some (.long l3), none, some (.int l5), none, none, none] [] (hM  μ) 0 0) (l1 : Int64) (l3 : Int64) (l5 : Int32) (μ : me_M) (hf : fM_stepRank_11b N k11 l1 l3 l5 μ = some r0) : AW "ArcTapeModel" "stepRank" c_M_stepRank 9 none 1 0 0 0 (aw_is none (hM  r0)) 11 [some (.ref 0), some (.long l1), none, some (.long l3), none, some (.int l5), none, none, none] [] (hM  μ) 0 0 := by
  unfold fM_stepRank_11b at hf
  refine aw_iload (pc' := 13) d_M_stepRank_11 rfl rfl ?_
  refine aw_aload_n (pc' := 14) d_M_stepRank_13 rfl rfl ?_
  refine aw_get (pc' := 17) d_M_stepRank_14 rfl fl_M_56 hM_0 rfl ?_
  refine aw_icmp_ge (tgt := 50) (pc' := 20) d_M_stepRank_17 (by decide) rfl (fun c15 => ?_) (fun c15 => ?_)
  · replace hf := aw_ifp c15 hf
    exact aw_weak [true, true, false, true, false, false, false, false, false] rfl (wM_stepRank_50 _ _ _ hf)
  · replace hf := aw_ifn c15 hf
    refine aw_lload_n (pc' := 21) d_M_stepRank_20 rfl rfl ?_
    refine aw_aload_n (pc' := 22) d_M_stepRank_21 rfl rfl ?_
    refine aw_get (pc' := 25) d_M_stepRank_22 rfl fl_M_25 hM_0 rfl ?_
    refine aw_iload (pc' := 27) d_M_stepRank_25 rfl rfl ?_
    obtain ⟨g16, hf⟩ := aw_gi hf
    refine aw_iald (pc' := 28) d_M_stepRank_27 rfl rfl hM_6 g16 ?_
    refine aw_if_ne (tgt := 41) (pc' := 31) d_M_stepRank_28 (by decide) rfl (fun c17 => ?_) (fun c17 => ?_)
    · replace hf := aw_ifn c17 hf
      refine aw_lconst (pc' := 42) d_M_stepRank_41 rfl kc_lc_0 ?_
      exact aw_weak [true, true, false, false, false, true, false, false, false] rfl (wM_stepRank_42 hk11 _ _ _ _ _ hf)
    · replace hf := aw_ifp c17 hf
      refine aw_aload_n (pc' := 32) d_M_stepRank_31 rfl rfl ?_
      refine aw_get (pc' := 35) d_M_stepRank_32 rfl fl_M_40 hM_0 rfl ?_
      refine aw_iload (pc' := 37) d_M_stepRank_35 rfl rfl ?_
      obtain ⟨g18, hf⟩ := aw_gi hf
      refine aw_lald (pc' := 38) d_M_stepRank_37 rfl rfl hM_11 g18 ?_
      refine aw_goto (tgt := 42) d_M_stepRank_38 (by decide) ?_
      exact aw_weak [true, true, false, false, false, true, false, false, false] rfl (wM_stepRank_42 hk11 _ _ _ _ _ hf)
set_option maxRecDepth 20000 in
theorem wM_stepRank_11 {N : Nat} {r0 : me_M} : ∀ (F : Nat) (l1 : Int64) (l3 : Int64) (l5 : Int32) (μ : me_M) (hf : fM_stepRank_11 N F l1 l3 l5 μ = some r0), AW "ArcTapeModel" "stepRank" c_M_stepRank 9 none 1 0 0 0 (aw_is none (hM  r0)) 11 [some (.ref 0), some (.long l1), none, some (.long l3), none, some (.int l5), none, none, none] [] (hM  μ) 0 0 := by
  intro F
  induction F with
  | zero => intro l1 l3 l5 μ hf; exact aw_no hf
  | succ F ih => intro l1 l3 l5 μ hf; exact wM_stepRank_11b ih l1 l3 l5 μ hf
set_option maxRecDepth 20000 in
theorem mM_stepRank {N : Nat} {μ : me_M} {r0 : me_M} (hf : fM_stepRank N μ = some r0) : AM y_M_stepRank c_M_stepRank 9 none 1 0 0 0 [.ref 0] (hM  μ) (aw_is none (hM  r0)) := by
  unfold fM_stepRank at hf
  refine AM.of (own := "ArcTapeModel") (nm := "stepRank") (L := [some (.ref 0), none, none, none, none, none, none, none, none]) rfl rfl (by decide) (Nat.le_of_ble_eq_true rfl) rfl ?_
  refine aw_aload_n (pc' := 1) d_M_stepRank_0 rfl rfl ?_
  obtain ⟨r19, hr19, hf⟩ := aw_bind hf
  refine aw_callVv (pc' := 4) (av := []) d_M_stepRank_1 rfl wc_M_188 hM_0 (mM_total hr19) (Or.inl rfl) rfl (by decide) (Nat.le_of_ble_eq_true rfl) ⟨(Nat.le_refl 0), (Nat.le_refl 0)⟩ ?_
  refine aw_i2l (pc' := 5) d_M_stepRank_4 rfl ?_
  refine aw_lstore_n (pc' := 6) (L' := [some (.ref 0), some (.long r19.toInt64), none, none, none, none, none, none, none]) d_M_stepRank_5 rfl (by decide) rfl ?_
  refine aw_lconst (pc' := 7) d_M_stepRank_6 rfl kc_lc_0 ?_
  refine aw_lstore_n (pc' := 8) (L' := [some (.ref 0), some (.long r19.toInt64), none, some (.long (0 : Int64)), none, none, none, none, none]) d_M_stepRank_7 rfl (by decide) rfl ?_
  refine aw_iconst (pc' := 9) d_M_stepRank_8 rfl kc_ic_0 ?_
  refine aw_istore (pc' := 11) (L' := [some (.ref 0), some (.long r19.toInt64), none, some (.long (0 : Int64)), none, some (.int (0 : Int32)), none, none, none]) d_M_stepRank_9 rfl (by decide) rfl ?_
  exact aw_weak [true, true, false, true, false, true, false, false, false] rfl (wM_stepRank_11 _ _ _ _ _ hf)
set_option maxRecDepth 20000 in
theorem wM_bring_128 {N : Nat} {r0 : me_M} (μ : me_M) (hf : fM_bring_128 N μ = some r0) : AW "ArcTapeModel" "bring" c_M_bring 7 none 0 0 0 0 (aw_is none (hM  r0)) 128 [none, none, none, none, none, none, none] [] (hM  μ) 0 0 := by
  unfold fM_bring_128 at hf
  cases hf
  exact aw_return rfl d_M_bring_128 (Nat.le_refl 0) (Nat.le_refl 0) ⟨rfl, rfl⟩
set_option maxRecDepth 20000 in
theorem wM_bring_122 {N : Nat} {r0 : me_M} {k60 : Int32 → Int64 → Int32 → me_M → Option me_M} (hk60 : ∀ (l1 : Int32) (l2 : Int64) (l4 : Int32) (μ : me_M), k60 l1 l2 l4 μ = some r0 → AW "ArcTapeModel" "bring" c_M_bring 7 none 0 0 0 0 (aw_is none (hM  r0)) 60 [some (.ref 0), some (.int l1), some (.long l2), none, some (.int l4), none, none] [] (hM  μ) 0 0) (l1 : Int32) (l2 : Int64) (l4 : Int32) (μ : me_M) (hf : fM_bring_122 N k60 l1 l2 l4 μ = some r0) : AW "ArcTapeModel" "bring" c_M_bring 7 none 0 0 0 0 (aw_is none (hM  r0)) 122 [some (.ref 0), some (.int l1), some (.long l2), none, some (.int l4), none, none] [] (hM  μ) 0 0 := by
  unfold fM_bring_122 at hf
  refine aw_iinc (pc' := 125) (L' := [some (.ref 0), some (.int l1), some (.long l2), none, some (.int (l4 + (1 : Int32))), none, none]) d_M_bring_122 rfl kc_ic_1 rfl (by decide) rfl ?_
  refine aw_goto (tgt := 60) d_M_bring_125 (by decide) ?_
  exact aw_weak [true, true, true, false, true, false, false] rfl (hk60 _ _ _ _ hf)
set_option maxRecDepth 20000 in
theorem wM_bring_60b {N : Nat} {r0 : me_M} {k60 : Int32 → Int64 → Int32 → me_M → Option me_M} (hk60 : ∀ (l1 : Int32) (l2 : Int64) (l4 : Int32) (μ : me_M), k60 l1 l2 l4 μ = some r0 → AW "ArcTapeModel" "bring" c_M_bring 7 none 0 0 0 0 (aw_is none (hM  r0)) 60 [some (.ref 0), some (.int l1), some (.long l2), none, some (.int l4), none, none] [] (hM  μ) 0 0) (l1 : Int32) (l2 : Int64) (l4 : Int32) (μ : me_M) (hf : fM_bring_60b N k60 l1 l2 l4 μ = some r0) : AW "ArcTapeModel" "bring" c_M_bring 7 none 0 0 0 0 (aw_is none (hM  r0)) 60 [some (.ref 0), some (.int l1), some (.long l2), none, some (.int l4), none, none] [] (hM  μ) 0 0 := by
  unfold fM_bring_60b at hf
  refine aw_iload (pc' := 62) d_M_bring_60 rfl rfl ?_
  refine aw_aload_n (pc' := 63) d_M_bring_62 rfl rfl ?_
  refine aw_get (pc' := 66) d_M_bring_63 rfl fl_M_56 hM_0 rfl ?_
  refine aw_icmp_ge (tgt := 128) (pc' := 69) d_M_bring_66 (by decide) rfl (fun c1 => ?_) (fun c1 => ?_)
  · replace hf := aw_ifp c1 hf
    exact aw_weak [false, false, false, false, false, false, false] rfl (wM_bring_128 _ hf)
  · replace hf := aw_ifn c1 hf
    refine aw_lload_n (pc' := 70) d_M_bring_69 rfl rfl ?_
    refine aw_lconst (pc' := 71) d_M_bring_70 rfl kc_lc_0 ?_
    refine aw_lcmp (pc' := 72) d_M_bring_71 rfl ?_
    refine aw_if_le (tgt := 128) (pc' := 75) d_M_bring_72 (by decide) rfl (fun c2 => ?_) (fun c2 => ?_)
    · replace hf := aw_ifp c2 hf
      exact aw_weak [false, false, false, false, false, false, false] rfl (wM_bring_128 _ hf)
    · replace hf := aw_ifn c2 hf
      refine aw_iload_n (pc' := 76) d_M_bring_75 rfl rfl ?_
      refine aw_if_eq (tgt := 102) (pc' := 79) d_M_bring_76 (by decide) rfl (fun c3 => ?_) (fun c3 => ?_)
      · replace hf := aw_ifp c3 hf
        refine aw_aload_n (pc' := 103) d_M_bring_102 rfl rfl ?_
        refine aw_get (pc' := 106) d_M_bring_103 rfl fl_M_47 hM_0 rfl ?_
        refine aw_iload (pc' := 108) d_M_bring_106 rfl rfl ?_
        refine aw_aload_n (pc' := 109) d_M_bring_108 rfl rfl ?_
        refine aw_get (pc' := 112) d_M_bring_109 rfl fl_M_47 hM_0 rfl ?_
        refine aw_iload (pc' := 114) d_M_bring_112 rfl rfl ?_
        obtain ⟨g4, hf⟩ := aw_gi hf
        refine aw_lald (pc' := 115) d_M_bring_114 rfl rfl hM_13 g4 ?_
        refine aw_ldc2 (pc' := 118) d_M_bring_115 rfl wk_M_201 ?_
        refine aw_lmul (pc' := 119) d_M_bring_118 rfl ?_
        refine aw_lload_n (pc' := 120) d_M_bring_119 rfl rfl ?_
        obtain ⟨g5, hf⟩ := aw_gd hf
        refine aw_ldiv (pc' := 121) d_M_bring_120 rfl g5 ?_
        obtain ⟨g6, hf⟩ := aw_gi hf
        refine aw_last (pc' := 122) (h' := (hM  (me_wl μ 13 l4.toNatClampNeg (((μ.2 13 l4.toNatClampNeg) * (1000000 : Int64)) / l2)))) d_M_bring_121 rfl rfl hM_13 g6 rfl ?_
        exact aw_weak [true, true, true, false, true, false, false] rfl (wM_bring_122 hk60 _ _ _ _ hf)
      · replace hf := aw_ifn c3 hf
        refine aw_aload_n (pc' := 80) d_M_bring_79 rfl rfl ?_
        refine aw_get (pc' := 83) d_M_bring_80 rfl fl_M_44 hM_0 rfl ?_
        refine aw_iload (pc' := 85) d_M_bring_83 rfl rfl ?_
        refine aw_aload_n (pc' := 86) d_M_bring_85 rfl rfl ?_
        refine aw_get (pc' := 89) d_M_bring_86 rfl fl_M_44 hM_0 rfl ?_
        refine aw_iload (pc' := 91) d_M_bring_89 rfl rfl ?_
        obtain ⟨g7, hf⟩ := aw_gi hf
        refine aw_lald (pc' := 92) d_M_bring_91 rfl rfl hM_12 g7 ?_
        refine aw_ldc2 (pc' := 95) d_M_bring_92 rfl wk_M_201 ?_
        refine aw_lmul (pc' := 96) d_M_bring_95 rfl ?_
        refine aw_lload_n (pc' := 97) d_M_bring_96 rfl rfl ?_
        obtain ⟨g8, hf⟩ := aw_gd hf
        refine aw_ldiv (pc' := 98) d_M_bring_97 rfl g8 ?_
        obtain ⟨g9, hf⟩ := aw_gi hf
        refine aw_last (pc' := 99) (h' := (hM  (me_wl μ 12 l4.toNatClampNeg (((μ.2 12 l4.toNatClampNeg) * (1000000 : Int64)) / l2)))) d_M_bring_98 rfl rfl hM_12 g9 rfl ?_
        refine aw_goto (tgt := 122) d_M_bring_99 (by decide) ?_
        exact aw_weak [true, true, true, false, true, false, false] rfl (wM_bring_122 hk60 _ _ _ _ hf)
set_option maxRecDepth 20000 in
theorem wM_bring_60 {N : Nat} {r0 : me_M} : ∀ (F : Nat) (l1 : Int32) (l2 : Int64) (l4 : Int32) (μ : me_M) (hf : fM_bring_60 N F l1 l2 l4 μ = some r0), AW "ArcTapeModel" "bring" c_M_bring 7 none 0 0 0 0 (aw_is none (hM  r0)) 60 [some (.ref 0), some (.int l1), some (.long l2), none, some (.int l4), none, none] [] (hM  μ) 0 0 := by
  intro F
  induction F with
  | zero => intro l1 l2 l4 μ hf; exact aw_no hf
  | succ F ih => intro l1 l2 l4 μ hf; exact wM_bring_60b ih l1 l2 l4 μ hf
set_option maxRecDepth 20000 in
theorem wM_bring_57 {N : Nat} {r0 : me_M} (l1 : Int32) (l2 : Int64) (μ : me_M) (hf : fM_bring_57 N l1 l2 μ = some r0) : AW "ArcTapeModel" "bring" c_M_bring 7 none 0 0 0 0 (aw_is none (hM  r0)) 57 [some (.ref 0), some (.int l1), some (.long l2), none, none, none, none] [] (hM  μ) 0 0 := by
  unfold fM_bring_57 at hf
  refine aw_iconst (pc' := 58) d_M_bring_57 rfl kc_ic_0 ?_
  refine aw_istore (pc' := 60) (L' := [some (.ref 0), some (.int l1), some (.long l2), none, some (.int (0 : Int32)), none, none]) d_M_bring_58 rfl (by decide) rfl ?_
  exact aw_weak [true, true, true, false, true, false, false] rfl (wM_bring_60 _ _ _ _ _ hf)
set_option maxRecDepth 20000 in
theorem wM_bring_50 {N : Nat} {r0 : me_M} {k5 : Int32 → Int64 → Int32 → me_M → Option me_M} (hk5 : ∀ (l1 : Int32) (l2 : Int64) (l4 : Int32) (μ : me_M), k5 l1 l2 l4 μ = some r0 → AW "ArcTapeModel" "bring" c_M_bring 7 none 0 0 0 0 (aw_is none (hM  r0)) 5 [some (.ref 0), some (.int l1), some (.long l2), none, some (.int l4), none, none] [] (hM  μ) 0 0) (l1 : Int32) (l4 : Int32) (s0 : Int64) (μ : me_M) (hf : fM_bring_50 N k5 l1 l4 s0 μ = some r0) : AW "ArcTapeModel" "bring" c_M_bring 7 none 0 0 0 0 (aw_is none (hM  r0)) 50 [some (.ref 0), some (.int l1), none, none, some (.int l4), none, none] [.long s0] (hM  μ) 0 0 := by
  unfold fM_bring_50 at hf
  refine aw_lstore_n (pc' := 51) (L' := [some (.ref 0), some (.int l1), some (.long s0), none, some (.int l4), none, none]) d_M_bring_50 rfl (by decide) rfl ?_
  refine aw_iinc (pc' := 54) (L' := [some (.ref 0), some (.int l1), some (.long s0), none, some (.int (l4 + (1 : Int32))), none, none]) d_M_bring_51 rfl kc_ic_1 rfl (by decide) rfl ?_
  refine aw_goto (tgt := 5) d_M_bring_54 (by decide) ?_
  exact aw_weak [true, true, true, false, true, false, false] rfl (hk5 _ _ _ _ hf)
set_option maxRecDepth 20000 in
theorem wM_bring_35 {N : Nat} {r0 : me_M} {k5 : Int32 → Int64 → Int32 → me_M → Option me_M} (hk5 : ∀ (l1 : Int32) (l2 : Int64) (l4 : Int32) (μ : me_M), k5 l1 l2 l4 μ = some r0 → AW "ArcTapeModel" "bring" c_M_bring 7 none 0 0 0 0 (aw_is none (hM  r0)) 5 [some (.ref 0), some (.int l1), some (.long l2), none, some (.int l4), none, none] [] (hM  μ) 0 0) (l1 : Int32) (l2 : Int64) (l4 : Int32) (s0 : Int64) (μ : me_M) (hf : fM_bring_35 N k5 l1 l2 l4 s0 μ = some r0) : AW "ArcTapeModel" "bring" c_M_bring 7 none 0 0 0 0 (aw_is none (hM  r0)) 35 [some (.ref 0), some (.int l1), some (.long l2), none, some (.int l4), none, none] [.long s0] (hM  μ) 0 0 := by
  unfold fM_bring_35 at hf
  refine aw_lstore (pc' := 37) (L' := [some (.ref 0), some (.int l1), some (.long l2), none, some (.int l4), some (.long s0), none]) d_M_bring_35 rfl (by decide) rfl ?_
  refine aw_lload (pc' := 39) d_M_bring_37 rfl rfl ?_
  refine aw_lload_n (pc' := 40) d_M_bring_39 rfl rfl ?_
  refine aw_lcmp (pc' := 41) d_M_bring_40 rfl ?_
  refine aw_if_le (tgt := 49) (pc' := 44) d_M_bring_41 (by decide) rfl (fun c10 => ?_) (fun c10 => ?_)
  · replace hf := aw_ifp c10 hf
    refine aw_lload_n (pc' := 50) d_M_bring_49 rfl rfl ?_
    exact aw_weak [true, true, false, false, true, false, false] rfl (wM_bring_50 hk5 _ _ _ _ hf)
  · replace hf := aw_ifn c10 hf
    refine aw_lload (pc' := 46) d_M_bring_44 rfl rfl ?_
    refine aw_goto (tgt := 50) d_M_bring_46 (by decide) ?_
    exact aw_weak [true, true, false, false, true, false, false] rfl (wM_bring_50 hk5 _ _ _ _ hf)
set_option maxRecDepth 20000 in
theorem wM_bring_5b {N : Nat} {r0 : me_M} {k5 : Int32 → Int64 → Int32 → me_M → Option me_M} (hk5 : ∀ (l1 : Int32) (l2 : Int64) (l4 : Int32) (μ : me_M), k5 l1 l2 l4 μ = some r0 → AW "ArcTapeModel" "bring" c_M_bring 7 none 0 0 0 0 (aw_is none (hM  r0)) 5 [some (.ref 0), some (.int l1), some (.long l2), none, some (.int l4), none, none] [] (hM  μ) 0 0) (l1 : Int32) (l2 : Int64) (l4 : Int32) (μ : me_M) (hf : fM_bring_5b N k5 l1 l2 l4 μ = some r0) : AW "ArcTapeModel" "bring" c_M_bring 7 none 0 0 0 0 (aw_is none (hM  r0)) 5 [some (.ref 0), some (.int l1), some (.long l2), none, some (.int l4), none, none] [] (hM  μ) 0 0 := by
  unfold fM_bring_5b at hf
  refine aw_iload (pc' := 7) d_M_bring_5 rfl rfl ?_
  refine aw_aload_n (pc' := 8) d_M_bring_7 rfl rfl ?_
  refine aw_get (pc' := 11) d_M_bring_8 rfl fl_M_56 hM_0 rfl ?_
  refine aw_icmp_ge (tgt := 57) (pc' := 14) d_M_bring_11 (by decide) rfl (fun c11 => ?_) (fun c11 => ?_)
  · replace hf := aw_ifp c11 hf
    exact aw_weak [true, true, true, false, false, false, false] rfl (wM_bring_57 _ _ _ hf)
  · replace hf := aw_ifn c11 hf
    refine aw_iload_n (pc' := 15) d_M_bring_14 rfl rfl ?_
    refine aw_if_eq (tgt := 28) (pc' := 18) d_M_bring_15 (by decide) rfl (fun c12 => ?_) (fun c12 => ?_)
    · replace hf := aw_ifp c12 hf
      refine aw_aload_n (pc' := 29) d_M_bring_28 rfl rfl ?_
      refine aw_get (pc' := 32) d_M_bring_29 rfl fl_M_47 hM_0 rfl ?_
      refine aw_iload (pc' := 34) d_M_bring_32 rfl rfl ?_
      obtain ⟨g13, hf⟩ := aw_gi hf
      refine aw_lald (pc' := 35) d_M_bring_34 rfl rfl hM_13 g13 ?_
      exact aw_weak [true, true, true, false, true, false, false] rfl (wM_bring_35 hk5 _ _ _ _ _ hf)
    · replace hf := aw_ifn c12 hf
      refine aw_aload_n (pc' := 19) d_M_bring_18 rfl rfl ?_
      refine aw_get (pc' := 22) d_M_bring_19 rfl fl_M_44 hM_0 rfl ?_
      refine aw_iload (pc' := 24) d_M_bring_22 rfl rfl ?_
      obtain ⟨g14, hf⟩ := aw_gi hf
      refine aw_lald (pc' := 25) d_M_bring_24 rfl rfl hM_12 g14 ?_
      refine aw_goto (tgt := 35) d_M_bring_25 (by decide) ?_
      exact aw_weak [true, true, true, false, true, false, false] rfl (wM_bring_35 hk5 _ _ _ _ _ hf)
set_option maxRecDepth 20000 in
theorem wM_bring_5 {N : Nat} {r0 : me_M} : ∀ (F : Nat) (l1 : Int32) (l2 : Int64) (l4 : Int32) (μ : me_M) (hf : fM_bring_5 N F l1 l2 l4 μ = some r0), AW "ArcTapeModel" "bring" c_M_bring 7 none 0 0 0 0 (aw_is none (hM  r0)) 5 [some (.ref 0), some (.int l1), some (.long l2), none, some (.int l4), none, none] [] (hM  μ) 0 0 := by
  intro F
  induction F with
  | zero => intro l1 l2 l4 μ hf; exact aw_no hf
  | succ F ih => intro l1 l2 l4 μ hf; exact wM_bring_5b ih l1 l2 l4 μ hf
set_option maxRecDepth 20000 in
theorem mM_bring {N : Nat} {μ : me_M} {r0 : me_M} {l1 : Int32} (hf : fM_bring N l1 μ = some r0) : AM y_M_bring c_M_bring 7 none 0 0 0 0 [.ref 0, .int l1] (hM  μ) (aw_is none (hM  r0)) := by
  unfold fM_bring at hf
  refine AM.of (own := "ArcTapeModel") (nm := "bring") (L := [some (.ref 0), some (.int l1), none, none, none, none, none]) rfl rfl (by decide) (Nat.le_of_ble_eq_true rfl) rfl ?_
  refine aw_lconst (pc' := 1) d_M_bring_0 rfl kc_lc_0 ?_
  refine aw_lstore_n (pc' := 2) (L' := [some (.ref 0), some (.int l1), some (.long (0 : Int64)), none, none, none, none]) d_M_bring_1 rfl (by decide) rfl ?_
  refine aw_iconst (pc' := 3) d_M_bring_2 rfl kc_ic_0 ?_
  refine aw_istore (pc' := 5) (L' := [some (.ref 0), some (.int l1), some (.long (0 : Int64)), none, some (.int (0 : Int32)), none, none]) d_M_bring_3 rfl (by decide) rfl ?_
  exact aw_weak [true, true, true, false, true, false, false] rfl (wM_bring_5 _ _ _ _ _ hf)
set_option maxRecDepth 20000 in
theorem wM_stepHubs_139 {N : Nat} {r0 : me_M} (μ : me_M) (hf : fM_stepHubs_139 N μ = some r0) : AW "ArcTapeModel" "stepHubs" c_M_stepHubs 3 none 1 0 0 0 (aw_is none (hM  r0)) 139 [some (.ref 0), none, none] [] (hM  μ) 0 0 := by
  unfold fM_stepHubs_139 at hf
  refine aw_aload_n (pc' := 140) d_M_stepHubs_139 rfl rfl ?_
  refine aw_iconst (pc' := 141) d_M_stepHubs_140 rfl kc_ic_1 ?_
  obtain ⟨r1, hr1, hf⟩ := aw_bind hf
  refine aw_callVn (pc' := 144) (av := [.int (1 : Int32)]) d_M_stepHubs_141 rfl wc_M_212 hM_0 (mM_bring hr1) (Or.inl rfl) rfl (by decide) (Nat.le_of_ble_eq_true rfl) ⟨(Nat.le_refl 0), (Nat.le_refl 0)⟩ ?_
  cases hf
  exact aw_return rfl d_M_stepHubs_144 (Nat.le_refl 0) (Nat.le_refl 0) ⟨rfl, rfl⟩
set_option maxRecDepth 20000 in
theorem wM_stepHubs_133 {N : Nat} {r0 : me_M} {k74 : Int32 → me_M → Option me_M} (hk74 : ∀ (l1 : Int32) (μ : me_M), k74 l1 μ = some r0 → AW "ArcTapeModel" "stepHubs" c_M_stepHubs 3 none 1 0 0 0 (aw_is none (hM  r0)) 74 [some (.ref 0), some (.int l1), none] [] (hM  μ) 0 0) (l1 : Int32) (μ : me_M) (hf : fM_stepHubs_133 N k74 l1 μ = some r0) : AW "ArcTapeModel" "stepHubs" c_M_stepHubs 3 none 1 0 0 0 (aw_is none (hM  r0)) 133 [some (.ref 0), some (.int l1), none] [] (hM  μ) 0 0 := by
  unfold fM_stepHubs_133 at hf
  refine aw_iinc (pc' := 136) (L' := [some (.ref 0), some (.int (l1 + (1 : Int32))), none]) d_M_stepHubs_133 rfl kc_ic_1 rfl (by decide) rfl ?_
  refine aw_goto (tgt := 74) d_M_stepHubs_136 (by decide) ?_
  exact aw_weak [true, true, false] rfl (hk74 _ _ hf)
set_option maxRecDepth 20000 in
theorem wM_stepHubs_125 {N : Nat} {r0 : me_M} {k74 : Int32 → me_M → Option me_M} (hk74 : ∀ (l1 : Int32) (μ : me_M), k74 l1 μ = some r0 → AW "ArcTapeModel" "stepHubs" c_M_stepHubs 3 none 1 0 0 0 (aw_is none (hM  r0)) 74 [some (.ref 0), some (.int l1), none] [] (hM  μ) 0 0) {k91 : Int32 → Int32 → me_M → Option me_M} (hk91 : ∀ (l1 : Int32) (l2 : Int32) (μ : me_M), k91 l1 l2 μ = some r0 → AW "ArcTapeModel" "stepHubs" c_M_stepHubs 3 none 1 0 0 0 (aw_is none (hM  r0)) 91 [some (.ref 0), some (.int l1), some (.int l2)] [] (hM  μ) 0 0) (l1 : Int32) (l2 : Int32) (s1 : Int32) (s2 : Int64) (s3 : Int64) (μ : me_M) (hf : fM_stepHubs_125 N k74 k91 l1 l2 s1 s2 s3 μ = some r0) : AW "ArcTapeModel" "stepHubs" c_M_stepHubs 3 none 1 0 0 0 (aw_is none (hM  r0)) 125 [some (.ref 0), some (.int l1), some (.int l2)] [.long s3, .long s2, .int s1, .ref 12] (hM  μ) 0 0 := by
  unfold fM_stepHubs_125 at hf
  refine aw_ladd (pc' := 126) d_M_stepHubs_125 rfl ?_
  obtain ⟨g2, hf⟩ := aw_gi hf
  refine aw_last (pc' := 127) (h' := (hM  (me_wl μ 12 s1.toNatClampNeg (s2 + s3)))) d_M_stepHubs_126 rfl rfl hM_12 g2 rfl ?_
  refine aw_iinc (pc' := 130) (L' := [some (.ref 0), some (.int l1), some (.int (l2 + (1 : Int32)))]) d_M_stepHubs_127 rfl kc_ic_1 rfl (by decide) rfl ?_
  refine aw_goto (tgt := 91) d_M_stepHubs_130 (by decide) ?_
  exact aw_weak [true, true, true] rfl (hk91 _ _ _ hf)
set_option maxRecDepth 20000 in
theorem wM_stepHubs_91b {N : Nat} {r0 : me_M} {k74 : Int32 → me_M → Option me_M} (hk74 : ∀ (l1 : Int32) (μ : me_M), k74 l1 μ = some r0 → AW "ArcTapeModel" "stepHubs" c_M_stepHubs 3 none 1 0 0 0 (aw_is none (hM  r0)) 74 [some (.ref 0), some (.int l1), none] [] (hM  μ) 0 0) {k91 : Int32 → Int32 → me_M → Option me_M} (hk91 : ∀ (l1 : Int32) (l2 : Int32) (μ : me_M), k91 l1 l2 μ = some r0 → AW "ArcTapeModel" "stepHubs" c_M_stepHubs 3 none 1 0 0 0 (aw_is none (hM  r0)) 91 [some (.ref 0), some (.int l1), some (.int l2)] [] (hM  μ) 0 0) (l1 : Int32) (l2 : Int32) (μ : me_M) (hf : fM_stepHubs_91b N k74 k91 l1 l2 μ = some r0) : AW "ArcTapeModel" "stepHubs" c_M_stepHubs 3 none 1 0 0 0 (aw_is none (hM  r0)) 91 [some (.ref 0), some (.int l1), some (.int l2)] [] (hM  μ) 0 0 := by
  unfold fM_stepHubs_91b at hf
  refine aw_iload_n (pc' := 92) d_M_stepHubs_91 rfl rfl ?_
  refine aw_aload_n (pc' := 93) d_M_stepHubs_92 rfl rfl ?_
  refine aw_get (pc' := 96) d_M_stepHubs_93 rfl fl_M_56 hM_0 rfl ?_
  refine aw_icmp_ge (tgt := 133) (pc' := 99) d_M_stepHubs_96 (by decide) rfl (fun c3 => ?_) (fun c3 => ?_)
  · replace hf := aw_ifp c3 hf
    exact aw_weak [true, true, false] rfl (wM_stepHubs_133 hk74 _ _ hf)
  · replace hf := aw_ifn c3 hf
    refine aw_aload_n (pc' := 100) d_M_stepHubs_99 rfl rfl ?_
    refine aw_get (pc' := 103) d_M_stepHubs_100 rfl fl_M_44 hM_0 rfl ?_
    refine aw_iload_n (pc' := 104) d_M_stepHubs_103 rfl rfl ?_
    refine aw_dup2 (pc' := 105) d_M_stepHubs_104 rfl rfl rfl ?_
    obtain ⟨g4, hf⟩ := aw_gi hf
    refine aw_lald (pc' := 106) d_M_stepHubs_105 rfl rfl hM_12 g4 ?_
    refine aw_aload_n (pc' := 107) d_M_stepHubs_106 rfl rfl ?_
    refine aw_iload_n (pc' := 108) d_M_stepHubs_107 rfl rfl ?_
    refine aw_iload_n (pc' := 109) d_M_stepHubs_108 rfl rfl ?_
    obtain ⟨r5, hr5, hf⟩ := aw_bind hf
    refine aw_callVv (pc' := 112) (av := [.int l1, .int l2]) d_M_stepHubs_109 rfl wc_M_205 hM_0 (mM_links hr5) (Or.inl rfl) rfl (by decide) (Nat.le_of_ble_eq_true rfl) ⟨(Nat.le_refl 0), (Nat.le_refl 0)⟩ ?_
    refine aw_if_eq (tgt := 124) (pc' := 115) d_M_stepHubs_112 (by decide) rfl (fun c6 => ?_) (fun c6 => ?_)
    · replace hf := aw_ifp c6 hf
      refine aw_lconst (pc' := 125) d_M_stepHubs_124 rfl kc_lc_0 ?_
      exact aw_weak [true, true, true] rfl (wM_stepHubs_125 hk74 hk91 _ _ _ _ _ _ hf)
    · replace hf := aw_ifn c6 hf
      refine aw_aload_n (pc' := 116) d_M_stepHubs_115 rfl rfl ?_
      refine aw_get (pc' := 119) d_M_stepHubs_116 rfl fl_M_47 hM_0 rfl ?_
      refine aw_iload_n (pc' := 120) d_M_stepHubs_119 rfl rfl ?_
      obtain ⟨g7, hf⟩ := aw_gi hf
      refine aw_lald (pc' := 121) d_M_stepHubs_120 rfl rfl hM_13 g7 ?_
      refine aw_goto (tgt := 125) d_M_stepHubs_121 (by decide) ?_
      exact aw_weak [true, true, true] rfl (wM_stepHubs_125 hk74 hk91 _ _ _ _ _ _ hf)
set_option maxRecDepth 20000 in
theorem wM_stepHubs_91 {N : Nat} {r0 : me_M} {k74 : Int32 → me_M → Option me_M} (hk74 : ∀ (l1 : Int32) (μ : me_M), k74 l1 μ = some r0 → AW "ArcTapeModel" "stepHubs" c_M_stepHubs 3 none 1 0 0 0 (aw_is none (hM  r0)) 74 [some (.ref 0), some (.int l1), none] [] (hM  μ) 0 0) : ∀ (F : Nat) (l1 : Int32) (l2 : Int32) (μ : me_M) (hf : fM_stepHubs_91 N k74 F l1 l2 μ = some r0), AW "ArcTapeModel" "stepHubs" c_M_stepHubs 3 none 1 0 0 0 (aw_is none (hM  r0)) 91 [some (.ref 0), some (.int l1), some (.int l2)] [] (hM  μ) 0 0 := by
  intro F
  induction F with
  | zero => intro l1 l2 μ hf; exact aw_no hf
  | succ F ih => intro l1 l2 μ hf; exact wM_stepHubs_91b hk74 ih l1 l2 μ hf
set_option maxRecDepth 20000 in
theorem wM_stepHubs_74b {N : Nat} {r0 : me_M} {k74 : Int32 → me_M → Option me_M} (hk74 : ∀ (l1 : Int32) (μ : me_M), k74 l1 μ = some r0 → AW "ArcTapeModel" "stepHubs" c_M_stepHubs 3 none 1 0 0 0 (aw_is none (hM  r0)) 74 [some (.ref 0), some (.int l1), none] [] (hM  μ) 0 0) (l1 : Int32) (μ : me_M) (hf : fM_stepHubs_74b N k74 l1 μ = some r0) : AW "ArcTapeModel" "stepHubs" c_M_stepHubs 3 none 1 0 0 0 (aw_is none (hM  r0)) 74 [some (.ref 0), some (.int l1), none] [] (hM  μ) 0 0 := by
  unfold fM_stepHubs_74b at hf
  refine aw_iload_n (pc' := 75) d_M_stepHubs_74 rfl rfl ?_
  refine aw_aload_n (pc' := 76) d_M_stepHubs_75 rfl rfl ?_
  refine aw_get (pc' := 79) d_M_stepHubs_76 rfl fl_M_56 hM_0 rfl ?_
  refine aw_icmp_ge (tgt := 139) (pc' := 82) d_M_stepHubs_79 (by decide) rfl (fun c8 => ?_) (fun c8 => ?_)
  · replace hf := aw_ifp c8 hf
    exact aw_weak [true, false, false] rfl (wM_stepHubs_139 _ hf)
  · replace hf := aw_ifn c8 hf
    refine aw_aload_n (pc' := 83) d_M_stepHubs_82 rfl rfl ?_
    refine aw_get (pc' := 86) d_M_stepHubs_83 rfl fl_M_44 hM_0 rfl ?_
    refine aw_iload_n (pc' := 87) d_M_stepHubs_86 rfl rfl ?_
    refine aw_lconst (pc' := 88) d_M_stepHubs_87 rfl kc_lc_0 ?_
    obtain ⟨g9, hf⟩ := aw_gi hf
    refine aw_last (pc' := 89) (h' := (hM  (me_wl μ 12 l1.toNatClampNeg (0 : Int64)))) d_M_stepHubs_88 rfl rfl hM_12 g9 rfl ?_
    refine aw_iconst (pc' := 90) d_M_stepHubs_89 rfl kc_ic_0 ?_
    refine aw_istore_n (pc' := 91) (L' := [some (.ref 0), some (.int l1), some (.int (0 : Int32))]) d_M_stepHubs_90 rfl (by decide) rfl ?_
    exact aw_weak [true, true, true] rfl (wM_stepHubs_91 hk74 _ _ _ _ hf)
set_option maxRecDepth 20000 in
theorem wM_stepHubs_74 {N : Nat} {r0 : me_M} : ∀ (F : Nat) (l1 : Int32) (μ : me_M) (hf : fM_stepHubs_74 N F l1 μ = some r0), AW "ArcTapeModel" "stepHubs" c_M_stepHubs 3 none 1 0 0 0 (aw_is none (hM  r0)) 74 [some (.ref 0), some (.int l1), none] [] (hM  μ) 0 0 := by
  intro F
  induction F with
  | zero => intro l1 μ hf; exact aw_no hf
  | succ F ih => intro l1 μ hf; exact wM_stepHubs_74b ih l1 μ hf
set_option maxRecDepth 20000 in
theorem wM_stepHubs_67 {N : Nat} {r0 : me_M} (μ : me_M) (hf : fM_stepHubs_67 N μ = some r0) : AW "ArcTapeModel" "stepHubs" c_M_stepHubs 3 none 1 0 0 0 (aw_is none (hM  r0)) 67 [some (.ref 0), none, none] [] (hM  μ) 0 0 := by
  unfold fM_stepHubs_67 at hf
  refine aw_aload_n (pc' := 68) d_M_stepHubs_67 rfl rfl ?_
  refine aw_iconst (pc' := 69) d_M_stepHubs_68 rfl kc_ic_0 ?_
  obtain ⟨r10, hr10, hf⟩ := aw_bind hf
  refine aw_callVn (pc' := 72) (av := [.int (0 : Int32)]) d_M_stepHubs_69 rfl wc_M_212 hM_0 (mM_bring hr10) (Or.inl rfl) rfl (by decide) (Nat.le_of_ble_eq_true rfl) ⟨(Nat.le_refl 0), (Nat.le_refl 0)⟩ ?_
  refine aw_iconst (pc' := 73) d_M_stepHubs_72 rfl kc_ic_0 ?_
  refine aw_istore_n (pc' := 74) (L' := [some (.ref 0), some (.int (0 : Int32)), none]) d_M_stepHubs_73 rfl (by decide) rfl ?_
  exact aw_weak [true, true, false] rfl (wM_stepHubs_74 _ _ _ hf)
set_option maxRecDepth 20000 in
theorem wM_stepHubs_61 {N : Nat} {r0 : me_M} {k2 : Int32 → me_M → Option me_M} (hk2 : ∀ (l1 : Int32) (μ : me_M), k2 l1 μ = some r0 → AW "ArcTapeModel" "stepHubs" c_M_stepHubs 3 none 1 0 0 0 (aw_is none (hM  r0)) 2 [some (.ref 0), some (.int l1), none] [] (hM  μ) 0 0) (l1 : Int32) (μ : me_M) (hf : fM_stepHubs_61 N k2 l1 μ = some r0) : AW "ArcTapeModel" "stepHubs" c_M_stepHubs 3 none 1 0 0 0 (aw_is none (hM  r0)) 61 [some (.ref 0), some (.int l1), none] [] (hM  μ) 0 0 := by
  unfold fM_stepHubs_61 at hf
  refine aw_iinc (pc' := 64) (L' := [some (.ref 0), some (.int (l1 + (1 : Int32))), none]) d_M_stepHubs_61 rfl kc_ic_1 rfl (by decide) rfl ?_
  refine aw_goto (tgt := 2) d_M_stepHubs_64 (by decide) ?_
  exact aw_weak [true, true, false] rfl (hk2 _ _ hf)
set_option maxRecDepth 20000 in
theorem wM_stepHubs_53 {N : Nat} {r0 : me_M} {k2 : Int32 → me_M → Option me_M} (hk2 : ∀ (l1 : Int32) (μ : me_M), k2 l1 μ = some r0 → AW "ArcTapeModel" "stepHubs" c_M_stepHubs 3 none 1 0 0 0 (aw_is none (hM  r0)) 2 [some (.ref 0), some (.int l1), none] [] (hM  μ) 0 0) {k19 : Int32 → Int32 → me_M → Option me_M} (hk19 : ∀ (l1 : Int32) (l2 : Int32) (μ : me_M), k19 l1 l2 μ = some r0 → AW "ArcTapeModel" "stepHubs" c_M_stepHubs 3 none 1 0 0 0 (aw_is none (hM  r0)) 19 [some (.ref 0), some (.int l1), some (.int l2)] [] (hM  μ) 0 0) (l1 : Int32) (l2 : Int32) (s1 : Int32) (s2 : Int64) (s3 : Int64) (μ : me_M) (hf : fM_stepHubs_53 N k2 k19 l1 l2 s1 s2 s3 μ = some r0) : AW "ArcTapeModel" "stepHubs" c_M_stepHubs 3 none 1 0 0 0 (aw_is none (hM  r0)) 53 [some (.ref 0), some (.int l1), some (.int l2)] [.long s3, .long s2, .int s1, .ref 13] (hM  μ) 0 0 := by
  unfold fM_stepHubs_53 at hf
  refine aw_ladd (pc' := 54) d_M_stepHubs_53 rfl ?_
  obtain ⟨g11, hf⟩ := aw_gi hf
  refine aw_last (pc' := 55) (h' := (hM  (me_wl μ 13 s1.toNatClampNeg (s2 + s3)))) d_M_stepHubs_54 rfl rfl hM_13 g11 rfl ?_
  refine aw_iinc (pc' := 58) (L' := [some (.ref 0), some (.int l1), some (.int (l2 + (1 : Int32)))]) d_M_stepHubs_55 rfl kc_ic_1 rfl (by decide) rfl ?_
  refine aw_goto (tgt := 19) d_M_stepHubs_58 (by decide) ?_
  exact aw_weak [true, true, true] rfl (hk19 _ _ _ hf)
set_option maxRecDepth 20000 in
theorem wM_stepHubs_19b {N : Nat} {r0 : me_M} {k2 : Int32 → me_M → Option me_M} (hk2 : ∀ (l1 : Int32) (μ : me_M), k2 l1 μ = some r0 → AW "ArcTapeModel" "stepHubs" c_M_stepHubs 3 none 1 0 0 0 (aw_is none (hM  r0)) 2 [some (.ref 0), some (.int l1), none] [] (hM  μ) 0 0) {k19 : Int32 → Int32 → me_M → Option me_M} (hk19 : ∀ (l1 : Int32) (l2 : Int32) (μ : me_M), k19 l1 l2 μ = some r0 → AW "ArcTapeModel" "stepHubs" c_M_stepHubs 3 none 1 0 0 0 (aw_is none (hM  r0)) 19 [some (.ref 0), some (.int l1), some (.int l2)] [] (hM  μ) 0 0) (l1 : Int32) (l2 : Int32) (μ : me_M) (hf : fM_stepHubs_19b N k2 k19 l1 l2 μ = some r0) : AW "ArcTapeModel" "stepHubs" c_M_stepHubs 3 none 1 0 0 0 (aw_is none (hM  r0)) 19 [some (.ref 0), some (.int l1), some (.int l2)] [] (hM  μ) 0 0 := by
  unfold fM_stepHubs_19b at hf
  refine aw_iload_n (pc' := 20) d_M_stepHubs_19 rfl rfl ?_
  refine aw_aload_n (pc' := 21) d_M_stepHubs_20 rfl rfl ?_
  refine aw_get (pc' := 24) d_M_stepHubs_21 rfl fl_M_56 hM_0 rfl ?_
  refine aw_icmp_ge (tgt := 61) (pc' := 27) d_M_stepHubs_24 (by decide) rfl (fun c12 => ?_) (fun c12 => ?_)
  · replace hf := aw_ifp c12 hf
    exact aw_weak [true, true, false] rfl (wM_stepHubs_61 hk2 _ _ hf)
  · replace hf := aw_ifn c12 hf
    refine aw_aload_n (pc' := 28) d_M_stepHubs_27 rfl rfl ?_
    refine aw_get (pc' := 31) d_M_stepHubs_28 rfl fl_M_47 hM_0 rfl ?_
    refine aw_iload_n (pc' := 32) d_M_stepHubs_31 rfl rfl ?_
    refine aw_dup2 (pc' := 33) d_M_stepHubs_32 rfl rfl rfl ?_
    obtain ⟨g13, hf⟩ := aw_gi hf
    refine aw_lald (pc' := 34) d_M_stepHubs_33 rfl rfl hM_13 g13 ?_
    refine aw_aload_n (pc' := 35) d_M_stepHubs_34 rfl rfl ?_
    refine aw_iload_n (pc' := 36) d_M_stepHubs_35 rfl rfl ?_
    refine aw_iload_n (pc' := 37) d_M_stepHubs_36 rfl rfl ?_
    obtain ⟨r14, hr14, hf⟩ := aw_bind hf
    refine aw_callVv (pc' := 40) (av := [.int l2, .int l1]) d_M_stepHubs_37 rfl wc_M_205 hM_0 (mM_links hr14) (Or.inl rfl) rfl (by decide) (Nat.le_of_ble_eq_true rfl) ⟨(Nat.le_refl 0), (Nat.le_refl 0)⟩ ?_
    refine aw_if_eq (tgt := 52) (pc' := 43) d_M_stepHubs_40 (by decide) rfl (fun c15 => ?_) (fun c15 => ?_)
    · replace hf := aw_ifp c15 hf
      refine aw_lconst (pc' := 53) d_M_stepHubs_52 rfl kc_lc_0 ?_
      exact aw_weak [true, true, true] rfl (wM_stepHubs_53 hk2 hk19 _ _ _ _ _ _ hf)
    · replace hf := aw_ifn c15 hf
      refine aw_aload_n (pc' := 44) d_M_stepHubs_43 rfl rfl ?_
      refine aw_get (pc' := 47) d_M_stepHubs_44 rfl fl_M_44 hM_0 rfl ?_
      refine aw_iload_n (pc' := 48) d_M_stepHubs_47 rfl rfl ?_
      obtain ⟨g16, hf⟩ := aw_gi hf
      refine aw_lald (pc' := 49) d_M_stepHubs_48 rfl rfl hM_12 g16 ?_
      refine aw_goto (tgt := 53) d_M_stepHubs_49 (by decide) ?_
      exact aw_weak [true, true, true] rfl (wM_stepHubs_53 hk2 hk19 _ _ _ _ _ _ hf)
set_option maxRecDepth 20000 in
theorem wM_stepHubs_19 {N : Nat} {r0 : me_M} {k2 : Int32 → me_M → Option me_M} (hk2 : ∀ (l1 : Int32) (μ : me_M), k2 l1 μ = some r0 → AW "ArcTapeModel" "stepHubs" c_M_stepHubs 3 none 1 0 0 0 (aw_is none (hM  r0)) 2 [some (.ref 0), some (.int l1), none] [] (hM  μ) 0 0) : ∀ (F : Nat) (l1 : Int32) (l2 : Int32) (μ : me_M) (hf : fM_stepHubs_19 N k2 F l1 l2 μ = some r0), AW "ArcTapeModel" "stepHubs" c_M_stepHubs 3 none 1 0 0 0 (aw_is none (hM  r0)) 19 [some (.ref 0), some (.int l1), some (.int l2)] [] (hM  μ) 0 0 := by
  intro F
  induction F with
  | zero => intro l1 l2 μ hf; exact aw_no hf
  | succ F ih => intro l1 l2 μ hf; exact wM_stepHubs_19b hk2 ih l1 l2 μ hf
set_option maxRecDepth 20000 in
theorem wM_stepHubs_2b {N : Nat} {r0 : me_M} {k2 : Int32 → me_M → Option me_M} (hk2 : ∀ (l1 : Int32) (μ : me_M), k2 l1 μ = some r0 → AW "ArcTapeModel" "stepHubs" c_M_stepHubs 3 none 1 0 0 0 (aw_is none (hM  r0)) 2 [some (.ref 0), some (.int l1), none] [] (hM  μ) 0 0) (l1 : Int32) (μ : me_M) (hf : fM_stepHubs_2b N k2 l1 μ = some r0) : AW "ArcTapeModel" "stepHubs" c_M_stepHubs 3 none 1 0 0 0 (aw_is none (hM  r0)) 2 [some (.ref 0), some (.int l1), none] [] (hM  μ) 0 0 := by
  unfold fM_stepHubs_2b at hf
  refine aw_iload_n (pc' := 3) d_M_stepHubs_2 rfl rfl ?_
  refine aw_aload_n (pc' := 4) d_M_stepHubs_3 rfl rfl ?_
  refine aw_get (pc' := 7) d_M_stepHubs_4 rfl fl_M_56 hM_0 rfl ?_
  refine aw_icmp_ge (tgt := 67) (pc' := 10) d_M_stepHubs_7 (by decide) rfl (fun c17 => ?_) (fun c17 => ?_)
  · replace hf := aw_ifp c17 hf
    exact aw_weak [true, false, false] rfl (wM_stepHubs_67 _ hf)
  · replace hf := aw_ifn c17 hf
    refine aw_aload_n (pc' := 11) d_M_stepHubs_10 rfl rfl ?_
    refine aw_get (pc' := 14) d_M_stepHubs_11 rfl fl_M_47 hM_0 rfl ?_
    refine aw_iload_n (pc' := 15) d_M_stepHubs_14 rfl rfl ?_
    refine aw_lconst (pc' := 16) d_M_stepHubs_15 rfl kc_lc_0 ?_
    obtain ⟨g18, hf⟩ := aw_gi hf
    refine aw_last (pc' := 17) (h' := (hM  (me_wl μ 13 l1.toNatClampNeg (0 : Int64)))) d_M_stepHubs_16 rfl rfl hM_13 g18 rfl ?_
    refine aw_iconst (pc' := 18) d_M_stepHubs_17 rfl kc_ic_0 ?_
    refine aw_istore_n (pc' := 19) (L' := [some (.ref 0), some (.int l1), some (.int (0 : Int32))]) d_M_stepHubs_18 rfl (by decide) rfl ?_
    exact aw_weak [true, true, true] rfl (wM_stepHubs_19 hk2 _ _ _ _ hf)
set_option maxRecDepth 20000 in
theorem wM_stepHubs_2 {N : Nat} {r0 : me_M} : ∀ (F : Nat) (l1 : Int32) (μ : me_M) (hf : fM_stepHubs_2 N F l1 μ = some r0), AW "ArcTapeModel" "stepHubs" c_M_stepHubs 3 none 1 0 0 0 (aw_is none (hM  r0)) 2 [some (.ref 0), some (.int l1), none] [] (hM  μ) 0 0 := by
  intro F
  induction F with
  | zero => intro l1 μ hf; exact aw_no hf
  | succ F ih => intro l1 μ hf; exact wM_stepHubs_2b ih l1 μ hf
set_option maxRecDepth 20000 in
theorem mM_stepHubs {N : Nat} {μ : me_M} {r0 : me_M} (hf : fM_stepHubs N μ = some r0) : AM y_M_stepHubs c_M_stepHubs 3 none 1 0 0 0 [.ref 0] (hM  μ) (aw_is none (hM  r0)) := by
  unfold fM_stepHubs at hf
  refine AM.of (own := "ArcTapeModel") (nm := "stepHubs") (L := [some (.ref 0), none, none]) rfl rfl (by decide) (Nat.le_of_ble_eq_true rfl) rfl ?_
  refine aw_iconst (pc' := 1) d_M_stepHubs_0 rfl kc_ic_0 ?_
  refine aw_istore_n (pc' := 2) (L' := [some (.ref 0), some (.int (0 : Int32)), none]) d_M_stepHubs_1 rfl (by decide) rfl ?_
  exact aw_weak [true, true, false] rfl (wM_stepHubs_2 _ _ _ hf)
