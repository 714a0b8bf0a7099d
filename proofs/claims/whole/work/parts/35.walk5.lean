set_option maxRecDepth 20000 in
theorem wM_bit_22 {N : Nat} {μ : me_M} {r0 : Int32} (s0 : Int32) (hf : fM_bit_22 N μ s0 = some r0) : AW "ArcTapeModel" "bit" c_M_bit 2 (some .int) 0 0 0 0 (aw_is (some (.int r0)) (hM  μ)) 22 [none, none] [.int s0] (hM  μ) 0 0 := by
  unfold fM_bit_22 at hf
  cases hf
  exact aw_ireturn rfl d_M_bit_22 (Nat.le_refl 0) (Nat.le_refl 0) ⟨rfl, rfl⟩
set_option maxRecDepth 20000 in
theorem wM_bit_21 {N : Nat} {μ : me_M} {r0 : Int32} (hf : fM_bit_21 N μ = some r0) : AW "ArcTapeModel" "bit" c_M_bit 2 (some .int) 0 0 0 0 (aw_is (some (.int r0)) (hM  μ)) 21 [none, none] [] (hM  μ) 0 0 := by
  unfold fM_bit_21 at hf
  refine aw_iconst (pc' := 22) d_M_bit_21 rfl kc_ic_m1 ?_
  exact aw_weak [false, false] rfl (wM_bit_22 _ hf)
set_option maxRecDepth 20000 in
theorem mM_bit {N : Nat} {μ : me_M} {r0 : Int32} {l1 : Int32} (hf : fM_bit N μ l1 = some r0) : AM y_M_bit c_M_bit 2 (some .int) 0 0 0 0 [.ref 0, .int l1] (hM  μ) (aw_is (some (.int r0)) (hM  μ)) := by
  unfold fM_bit at hf
  refine AM.of (own := "ArcTapeModel") (nm := "bit") (L := [some (.ref 0), some (.int l1)]) rfl rfl (by decide) (Nat.le_of_ble_eq_true rfl) rfl ?_
  refine aw_iload_n (pc' := 1) d_M_bit_0 rfl rfl ?_
  refine aw_if_lt (tgt := 21) (pc' := 4) d_M_bit_1 (by decide) rfl (fun c1 => ?_) (fun c1 => ?_)
  · replace hf := aw_ifp c1 hf
    exact aw_weak [false, false] rfl (wM_bit_21  hf)
  · replace hf := aw_ifn c1 hf
    refine aw_iload_n (pc' := 5) d_M_bit_4 rfl rfl ?_
    refine aw_aload_n (pc' := 6) d_M_bit_5 rfl rfl ?_
    refine aw_get (pc' := 9) d_M_bit_6 rfl fl_M_72 hM_0 rfl ?_
    refine aw_icmp_ge (tgt := 21) (pc' := 12) d_M_bit_9 (by decide) rfl (fun c2 => ?_) (fun c2 => ?_)
    · replace hf := aw_ifp c2 hf
      exact aw_weak [false, false] rfl (wM_bit_21  hf)
    · replace hf := aw_ifn c2 hf
      refine aw_aload_n (pc' := 13) d_M_bit_12 rfl rfl ?_
      refine aw_get (pc' := 16) d_M_bit_13 rfl fl_M_13 hM_0 rfl ?_
      refine aw_iload_n (pc' := 17) d_M_bit_16 rfl rfl ?_
      obtain ⟨g3, hf⟩ := aw_gi hf
      refine aw_iald (pc' := 18) d_M_bit_17 rfl rfl hM_2 g3 ?_
      refine aw_goto (tgt := 22) d_M_bit_18 (by decide) ?_
      exact aw_weak [false, false] rfl (wM_bit_22 _ hf)
set_option maxRecDepth 20000 in
theorem wM_flip_12 {N : Nat} {r0 : (Int32 × me_M)} (μ : me_M) (hf : fM_flip_12 N μ = some r0) : AW "ArcTapeModel" "flip" c_M_flip 2 (some .boolean) 0 0 0 0 (aw_is (some (.int r0.1)) (hM  r0.2)) 12 [none, none] [] (hM  μ) 0 0 := by
  unfold fM_flip_12 at hf
  refine aw_iconst (pc' := 13) d_M_flip_12 rfl kc_ic_0 ?_
  obtain ⟨g1, hf⟩ := aw_gz hf
  cases hf
  exact aw_zreturn rfl g1.1 d_M_flip_13 (Nat.le_refl 0) (Nat.le_refl 0) ⟨rfl, rfl⟩
set_option maxRecDepth 20000 in
theorem mM_flip {N : Nat} {μ : me_M} {r0 : (Int32 × me_M)} {l1 : Int32} (hf : fM_flip N l1 μ = some r0) : AM y_M_flip c_M_flip 2 (some .boolean) 0 0 0 0 [.ref 0, .int l1] (hM  μ) (aw_is (some (.int r0.1)) (hM  r0.2)) := by
  unfold fM_flip at hf
  refine AM.of (own := "ArcTapeModel") (nm := "flip") (L := [some (.ref 0), some (.int l1)]) rfl rfl (by decide) (Nat.le_of_ble_eq_true rfl) rfl ?_
  refine aw_iload_n (pc' := 1) d_M_flip_0 rfl rfl ?_
  refine aw_if_lt (tgt := 12) (pc' := 4) d_M_flip_1 (by decide) rfl (fun c2 => ?_) (fun c2 => ?_)
  · replace hf := aw_ifp c2 hf
    exact aw_weak [false, false] rfl (wM_flip_12 _ hf)
  · replace hf := aw_ifn c2 hf
    refine aw_iload_n (pc' := 5) d_M_flip_4 rfl rfl ?_
    refine aw_aload_n (pc' := 6) d_M_flip_5 rfl rfl ?_
    refine aw_get (pc' := 9) d_M_flip_6 rfl fl_M_72 hM_0 rfl ?_
    refine aw_icmp_lt (tgt := 14) (pc' := 12) d_M_flip_9 (by decide) rfl (fun c3 => ?_) (fun c3 => ?_)
    · replace hf := aw_ifp c3 hf
      refine aw_aload_n (pc' := 15) d_M_flip_14 rfl rfl ?_
      refine aw_get (pc' := 18) d_M_flip_15 rfl fl_M_13 hM_0 rfl ?_
      refine aw_iload_n (pc' := 19) d_M_flip_18 rfl rfl ?_
      refine aw_iconst (pc' := 20) d_M_flip_19 rfl kc_ic_1 ?_
      refine aw_aload_n (pc' := 21) d_M_flip_20 rfl rfl ?_
      refine aw_get (pc' := 24) d_M_flip_21 rfl fl_M_13 hM_0 rfl ?_
      refine aw_iload_n (pc' := 25) d_M_flip_24 rfl rfl ?_
      obtain ⟨g4, hf⟩ := aw_gi hf
      refine aw_iald (pc' := 26) d_M_flip_25 rfl rfl hM_2 g4 ?_
      refine aw_isub (pc' := 27) d_M_flip_26 rfl ?_
      obtain ⟨g5, hf⟩ := aw_gi hf
      refine aw_iast (pc' := 28) (h' := (hM  (me_wi μ 2 l1.toNatClampNeg ((1 : Int32) - (μ.1 2 l1.toNatClampNeg))))) d_M_flip_27 rfl rfl hM_2 g5 rfl ?_
      refine aw_iconst (pc' := 29) d_M_flip_28 rfl kc_ic_1 ?_
      obtain ⟨g6, hf⟩ := aw_gz hf
      cases hf
      exact aw_zreturn rfl g6.1 d_M_flip_29 (Nat.le_refl 0) (Nat.le_refl 0) ⟨rfl, rfl⟩
    · replace hf := aw_ifn c3 hf
      exact aw_weak [false, false] rfl (wM_flip_12 _ hf)
set_option maxRecDepth 20000 in
theorem wM_next_34 {N : Nat} {r0 : (Int32 × me_M)} (s1 : Int32) (μ : me_M) (hf : fM_next_34 N s1 μ = some r0) : AW "ArcTapeModel" "next" c_M_next 1 (some .int) 0 0 0 0 (aw_is (some (.int r0.1)) (hM  r0.2)) 34 [none] [.int s1, .ref 0] (hM  μ) 0 0 := by
  unfold fM_next_34 at hf
  refine aw_puti (pc' := 37) (h' := (hM  (me_wi μ 112 0 s1))) d_M_next_34 rfl fp_M_125 hM_0 (Nat.le_of_ble_eq_true rfl) rfl ?_
  refine aw_iconst (pc' := 38) d_M_next_37 rfl kc_ic_0 ?_
  cases hf
  exact aw_ireturn rfl d_M_next_38 (Nat.le_refl 0) (Nat.le_refl 0) ⟨rfl, rfl⟩
set_option maxRecDepth 20000 in
theorem wM_next_18 {N : Nat} {r0 : (Int32 × me_M)} (μ : me_M) (hf : fM_next_18 N μ = some r0) : AW "ArcTapeModel" "next" c_M_next 1 (some .int) 0 0 0 0 (aw_is (some (.int r0.1)) (hM  r0.2)) 18 [some (.ref 0)] [] (hM  μ) 0 0 := by
  unfold fM_next_18 at hf
  refine aw_aload_n (pc' := 19) d_M_next_18 rfl rfl ?_
  refine aw_aload_n (pc' := 20) d_M_next_19 rfl rfl ?_
  refine aw_get (pc' := 23) d_M_next_20 rfl fl_M_125 hM_0 rfl ?_
  refine aw_if_le (tgt := 33) (pc' := 26) d_M_next_23 (by decide) rfl (fun c1 => ?_) (fun c1 => ?_)
  · replace hf := aw_ifp c1 hf
    refine aw_iconst (pc' := 34) d_M_next_33 rfl kc_ic_1 ?_
    exact aw_weak [false] rfl (wM_next_34 _ _ hf)
  · replace hf := aw_ifn c1 hf
    refine aw_aload_n (pc' := 27) d_M_next_26 rfl rfl ?_
    refine aw_get (pc' := 30) d_M_next_27 rfl fl_M_125 hM_0 rfl ?_
    refine aw_goto (tgt := 34) d_M_next_30 (by decide) ?_
    exact aw_weak [false] rfl (wM_next_34 _ _ hf)
set_option maxRecDepth 20000 in
theorem mM_next {N : Nat} {μ : me_M} {r0 : (Int32 × me_M)} (hf : fM_next N μ = some r0) : AM y_M_next c_M_next 1 (some .int) 0 0 0 0 [.ref 0] (hM  μ) (aw_is (some (.int r0.1)) (hM  r0.2)) := by
  unfold fM_next at hf
  refine AM.of (own := "ArcTapeModel") (nm := "next") (L := [some (.ref 0)]) rfl rfl (by decide) (Nat.le_of_ble_eq_true rfl) rfl ?_
  refine aw_aload_n (pc' := 1) d_M_next_0 rfl rfl ?_
  refine aw_get (pc' := 4) d_M_next_1 rfl fl_M_125 hM_0 rfl ?_
  refine aw_if_gt (tgt := 18) (pc' := 7) d_M_next_4 (by decide) rfl (fun c2 => ?_) (fun c2 => ?_)
  · replace hf := aw_ifp c2 hf
    exact aw_weak [true] rfl (wM_next_18 _ hf)
  · replace hf := aw_ifn c2 hf
    refine aw_aload_n (pc' := 8) d_M_next_7 rfl rfl ?_
    refine aw_get (pc' := 11) d_M_next_8 rfl fl_M_128 hM_0 rfl ?_
    refine aw_aload_n (pc' := 12) d_M_next_11 rfl rfl ?_
    refine aw_get (pc' := 15) d_M_next_12 rfl fl_M_72 hM_0 rfl ?_
    refine aw_icmp_lt (tgt := 39) (pc' := 18) d_M_next_15 (by decide) rfl (fun c3 => ?_) (fun c3 => ?_)
    · replace hf := aw_ifp c3 hf
      refine aw_aload_n (pc' := 40) d_M_next_39 rfl rfl ?_
      refine aw_dup (pc' := 41) d_M_next_40 rfl rfl ?_
      refine aw_get (pc' := 44) d_M_next_41 rfl fl_M_128 hM_0 rfl ?_
      refine aw_iconst (pc' := 45) d_M_next_44 rfl kc_ic_1 ?_
      refine aw_iadd (pc' := 46) d_M_next_45 rfl ?_
      refine aw_puti (pc' := 49) (h' := (hM  (me_wi μ 111 0 ((μ.1 111 0) + (1 : Int32))))) d_M_next_46 rfl fp_M_128 hM_0 (Nat.le_of_ble_eq_true rfl) rfl ?_
      refine aw_aload_n (pc' := 50) d_M_next_49 rfl rfl ?_
      refine aw_get (pc' := 53) d_M_next_50 rfl fl_M_13 hM_0 rfl ?_
      refine aw_aload_n (pc' := 54) d_M_next_53 rfl rfl ?_
      refine aw_get (pc' := 57) d_M_next_54 rfl fl_M_128 hM_0 rfl ?_
      refine aw_iconst (pc' := 58) d_M_next_57 rfl kc_ic_1 ?_
      refine aw_isub (pc' := 59) d_M_next_58 rfl ?_
      obtain ⟨g4, hf⟩ := aw_gi hf
      refine aw_iald (pc' := 60) d_M_next_59 rfl rfl hM_2 g4 ?_
      cases hf
      exact aw_ireturn rfl d_M_next_60 (Nat.le_refl 0) (Nat.le_refl 0) ⟨rfl, rfl⟩
    · replace hf := aw_ifn c3 hf
      exact aw_weak [true] rfl (wM_next_18 _ hf)
set_option maxRecDepth 20000 in
theorem wM_nextUnary_52 {N : Nat} {r0 : (Int32 × me_M)} (s0 : Int32) (μ : me_M) (hf : fM_nextUnary_52 N s0 μ = some r0) : AW "ArcTapeModel" "nextUnary" c_M_nextUnary 2 (some .int) 1 0 0 0 (aw_is (some (.int r0.1)) (hM  r0.2)) 52 [none, none] [.int s0] (hM  μ) 0 0 := by
  unfold fM_nextUnary_52 at hf
  cases hf
  exact aw_ireturn rfl d_M_nextUnary_52 (Nat.le_refl 0) (Nat.le_refl 0) ⟨rfl, rfl⟩
set_option maxRecDepth 20000 in
theorem wM_nextUnary_40 {N : Nat} {r0 : (Int32 × me_M)} (l1 : Int32) (μ : me_M) (hf : fM_nextUnary_40 N l1 μ = some r0) : AW "ArcTapeModel" "nextUnary" c_M_nextUnary 2 (some .int) 1 0 0 0 (aw_is (some (.int r0.1)) (hM  r0.2)) 40 [some (.ref 0), some (.int l1)] [] (hM  μ) 0 0 := by
  unfold fM_nextUnary_40 at hf
  refine aw_aload_n (pc' := 41) d_M_nextUnary_40 rfl rfl ?_
  refine aw_get (pc' := 44) d_M_nextUnary_41 rfl fl_M_125 hM_0 rfl ?_
  refine aw_if_le (tgt := 51) (pc' := 47) d_M_nextUnary_44 (by decide) rfl (fun c1 => ?_) (fun c1 => ?_)
  · replace hf := aw_ifp c1 hf
    refine aw_iload_n (pc' := 52) d_M_nextUnary_51 rfl rfl ?_
    exact aw_weak [false, false] rfl (wM_nextUnary_52 _ _ hf)
  · replace hf := aw_ifn c1 hf
    refine aw_iconst (pc' := 48) d_M_nextUnary_47 rfl kc_ic_0 ?_
    refine aw_goto (tgt := 52) d_M_nextUnary_48 (by decide) ?_
    exact aw_weak [false, false] rfl (wM_nextUnary_52 _ _ hf)
set_option maxRecDepth 20000 in
theorem wM_nextUnary_2b {N : Nat} {r0 : (Int32 × me_M)} {k2 : Int32 → me_M → Option (Int32 × me_M)} (hk2 : ∀ (l1 : Int32) (μ : me_M), k2 l1 μ = some r0 → AW "ArcTapeModel" "nextUnary" c_M_nextUnary 2 (some .int) 1 0 0 0 (aw_is (some (.int r0.1)) (hM  r0.2)) 2 [some (.ref 0), some (.int l1)] [] (hM  μ) 0 0) (l1 : Int32) (μ : me_M) (hf : fM_nextUnary_2b N k2 l1 μ = some r0) : AW "ArcTapeModel" "nextUnary" c_M_nextUnary 2 (some .int) 1 0 0 0 (aw_is (some (.int r0.1)) (hM  r0.2)) 2 [some (.ref 0), some (.int l1)] [] (hM  μ) 0 0 := by
  unfold fM_nextUnary_2b at hf
  refine aw_aload_n (pc' := 3) d_M_nextUnary_2 rfl rfl ?_
  refine aw_get (pc' := 6) d_M_nextUnary_3 rfl fl_M_125 hM_0 rfl ?_
  refine aw_if_ne (tgt := 40) (pc' := 9) d_M_nextUnary_6 (by decide) rfl (fun c2 => ?_) (fun c2 => ?_)
  · replace hf := aw_ifn c2 hf
    exact aw_weak [true, true] rfl (wM_nextUnary_40 _ _ hf)
  · replace hf := aw_ifp c2 hf
    refine aw_aload_n (pc' := 10) d_M_nextUnary_9 rfl rfl ?_
    obtain ⟨r3, hr3, hf⟩ := aw_bind hf
    refine aw_callVv (pc' := 13) (av := []) d_M_nextUnary_10 rfl wc_M_131 hM_0 (mM_next hr3) (Or.inl rfl) rfl (by decide) (Nat.le_of_ble_eq_true rfl) ⟨(Nat.le_refl 0), (Nat.le_refl 0)⟩ ?_
    refine aw_if_ne (tgt := 40) (pc' := 16) d_M_nextUnary_13 (by decide) rfl (fun c4 => ?_) (fun c4 => ?_)
    · replace hf := aw_ifn c4 hf
      exact aw_weak [true, true] rfl (wM_nextUnary_40 _ _ hf)
    · replace hf := aw_ifp c4 hf
      refine aw_iinc (pc' := 19) (L' := [some (.ref 0), some (.int (l1 + (1 : Int32)))]) d_M_nextUnary_16 rfl kc_ic_1 rfl (by decide) rfl ?_
      refine aw_aload_n (pc' := 20) d_M_nextUnary_19 rfl rfl ?_
      refine aw_get (pc' := 23) d_M_nextUnary_20 rfl fl_M_125 hM_0 rfl ?_
      refine aw_if_ne (tgt := 2) (pc' := 26) d_M_nextUnary_23 (by decide) rfl (fun c5 => ?_) (fun c5 => ?_)
      · replace hf := aw_ifn c5 hf
        exact aw_weak [true, true] rfl (hk2 _ _ hf)
      · replace hf := aw_ifp c5 hf
        refine aw_iload_n (pc' := 27) d_M_nextUnary_26 rfl rfl ?_
        refine aw_bipush (pc' := 29) d_M_nextUnary_27 rfl kc_bi_7 ?_
        refine aw_icmp_ne (tgt := 2) (pc' := 32) d_M_nextUnary_29 (by decide) rfl (fun c6 => ?_) (fun c6 => ?_)
        · replace hf := aw_ifn c6 hf
          exact aw_weak [true, true] rfl (hk2 _ _ hf)
        · replace hf := aw_ifp c6 hf
          refine aw_aload_n (pc' := 33) d_M_nextUnary_32 rfl rfl ?_
          refine aw_iconst (pc' := 34) d_M_nextUnary_33 rfl kc_ic_2 ?_
          refine aw_puti (pc' := 37) (h' := (hM  (me_wi r3.2 112 0 (2 : Int32)))) d_M_nextUnary_34 rfl fp_M_125 hM_0 (Nat.le_of_ble_eq_true rfl) rfl ?_
          refine aw_goto (tgt := 2) d_M_nextUnary_37 (by decide) ?_
          exact aw_weak [true, true] rfl (hk2 _ _ hf)
set_option maxRecDepth 20000 in
theorem wM_nextUnary_2 {N : Nat} {r0 : (Int32 × me_M)} : ∀ (F : Nat) (l1 : Int32) (μ : me_M) (hf : fM_nextUnary_2 N F l1 μ = some r0), AW "ArcTapeModel" "nextUnary" c_M_nextUnary 2 (some .int) 1 0 0 0 (aw_is (some (.int r0.1)) (hM  r0.2)) 2 [some (.ref 0), some (.int l1)] [] (hM  μ) 0 0 := by
  intro F
  induction F with
  | zero => intro l1 μ hf; exact aw_no hf
  | succ F ih => intro l1 μ hf; exact wM_nextUnary_2b ih l1 μ hf
set_option maxRecDepth 20000 in
theorem mM_nextUnary {N : Nat} {μ : me_M} {r0 : (Int32 × me_M)} (hf : fM_nextUnary N μ = some r0) : AM y_M_nextUnary c_M_nextUnary 2 (some .int) 1 0 0 0 [.ref 0] (hM  μ) (aw_is (some (.int r0.1)) (hM  r0.2)) := by
  unfold fM_nextUnary at hf
  refine AM.of (own := "ArcTapeModel") (nm := "nextUnary") (L := [some (.ref 0), none]) rfl rfl (by decide) (Nat.le_of_ble_eq_true rfl) rfl ?_
  refine aw_iconst (pc' := 1) d_M_nextUnary_0 rfl kc_ic_0 ?_
  refine aw_istore_n (pc' := 2) (L' := [some (.ref 0), some (.int (0 : Int32))]) d_M_nextUnary_1 rfl (by decide) rfl ?_
  exact aw_weak [true, true] rfl (wM_nextUnary_2 _ _ _ hf)
set_option maxRecDepth 20000 in
theorem wM_nextNumber_24 {N : Nat} {r0 : (Int32 × me_M)} (l2 : Int32) (μ : me_M) (hf : fM_nextNumber_24 N l2 μ = some r0) : AW "ArcTapeModel" "nextNumber" c_M_nextNumber 4 (some .int) 1 0 0 0 (aw_is (some (.int r0.1)) (hM  r0.2)) 24 [none, none, some (.int l2), none] [] (hM  μ) 0 0 := by
  unfold fM_nextNumber_24 at hf
  refine aw_iload_n (pc' := 25) d_M_nextNumber_24 rfl rfl ?_
  cases hf
  exact aw_ireturn rfl d_M_nextNumber_25 (Nat.le_refl 0) (Nat.le_refl 0) ⟨rfl, rfl⟩
set_option maxRecDepth 20000 in
theorem wM_nextNumber_4b {N : Nat} {r0 : (Int32 × me_M)} {k4 : Int32 → Int32 → Int32 → me_M → Option (Int32 × me_M)} (hk4 : ∀ (l1 : Int32) (l2 : Int32) (l3 : Int32) (μ : me_M), k4 l1 l2 l3 μ = some r0 → AW "ArcTapeModel" "nextNumber" c_M_nextNumber 4 (some .int) 1 0 0 0 (aw_is (some (.int r0.1)) (hM  r0.2)) 4 [some (.ref 0), some (.int l1), some (.int l2), some (.int l3)] [] (hM  μ) 0 0) (l1 : Int32) (l2 : Int32) (l3 : Int32) (μ : me_M) (hf : fM_nextNumber_4b N k4 l1 l2 l3 μ = some r0) : AW "ArcTapeModel" "nextNumber" c_M_nextNumber 4 (some .int) 1 0 0 0 (aw_is (some (.int r0.1)) (hM  r0.2)) 4 [some (.ref 0), some (.int l1), some (.int l2), some (.int l3)] [] (hM  μ) 0 0 := by
  unfold fM_nextNumber_4b at hf
  refine aw_iload_n (pc' := 5) d_M_nextNumber_4 rfl rfl ?_
  refine aw_iload_n (pc' := 6) d_M_nextNumber_5 rfl rfl ?_
  refine aw_icmp_ge (tgt := 24) (pc' := 9) d_M_nextNumber_6 (by decide) rfl (fun c1 => ?_) (fun c1 => ?_)
  · replace hf := aw_ifp c1 hf
    exact aw_weak [false, false, true, false] rfl (wM_nextNumber_24 _ _ hf)
  · replace hf := aw_ifn c1 hf
    refine aw_iconst (pc' := 10) d_M_nextNumber_9 rfl kc_ic_2 ?_
    refine aw_iload_n (pc' := 11) d_M_nextNumber_10 rfl rfl ?_
    refine aw_imul (pc' := 12) d_M_nextNumber_11 rfl ?_
    refine aw_aload_n (pc' := 13) d_M_nextNumber_12 rfl rfl ?_
    obtain ⟨r2, hr2, hf⟩ := aw_bind hf
    refine aw_callVv (pc' := 16) (av := []) d_M_nextNumber_13 rfl wc_M_131 hM_0 (mM_next hr2) (Or.inl rfl) rfl (by decide) (Nat.le_of_ble_eq_true rfl) ⟨(Nat.le_refl 0), (Nat.le_refl 0)⟩ ?_
    refine aw_iadd (pc' := 17) d_M_nextNumber_16 rfl ?_
    refine aw_istore_n (pc' := 18) (L' := [some (.ref 0), some (.int l1), some (.int (((2 : Int32) * l2) + r2.1)), some (.int l3)]) d_M_nextNumber_17 rfl (by decide) rfl ?_
    refine aw_iinc (pc' := 21) (L' := [some (.ref 0), some (.int l1), some (.int (((2 : Int32) * l2) + r2.1)), some (.int (l3 + (1 : Int32)))]) d_M_nextNumber_18 rfl kc_ic_1 rfl (by decide) rfl ?_
    refine aw_goto (tgt := 4) d_M_nextNumber_21 (by decide) ?_
    exact aw_weak [true, true, true, true] rfl (hk4 _ _ _ _ hf)
set_option maxRecDepth 20000 in
theorem wM_nextNumber_4 {N : Nat} {r0 : (Int32 × me_M)} : ∀ (F : Nat) (l1 : Int32) (l2 : Int32) (l3 : Int32) (μ : me_M) (hf : fM_nextNumber_4 N F l1 l2 l3 μ = some r0), AW "ArcTapeModel" "nextNumber" c_M_nextNumber 4 (some .int) 1 0 0 0 (aw_is (some (.int r0.1)) (hM  r0.2)) 4 [some (.ref 0), some (.int l1), some (.int l2), some (.int l3)] [] (hM  μ) 0 0 := by
  intro F
  induction F with
  | zero => intro l1 l2 l3 μ hf; exact aw_no hf
  | succ F ih => intro l1 l2 l3 μ hf; exact wM_nextNumber_4b ih l1 l2 l3 μ hf
set_option maxRecDepth 20000 in
theorem mM_nextNumber {N : Nat} {μ : me_M} {r0 : (Int32 × me_M)} {l1 : Int32} (hf : fM_nextNumber N l1 μ = some r0) : AM y_M_nextNumber c_M_nextNumber 4 (some .int) 1 0 0 0 [.ref 0, .int l1] (hM  μ) (aw_is (some (.int r0.1)) (hM  r0.2)) := by
  unfold fM_nextNumber at hf
  refine AM.of (own := "ArcTapeModel") (nm := "nextNumber") (L := [some (.ref 0), some (.int l1), none, none]) rfl rfl (by decide) (Nat.le_of_ble_eq_true rfl) rfl ?_
  refine aw_iconst (pc' := 1) d_M_nextNumber_0 rfl kc_ic_0 ?_
  refine aw_istore_n (pc' := 2) (L' := [some (.ref 0), some (.int l1), some (.int (0 : Int32)), none]) d_M_nextNumber_1 rfl (by decide) rfl ?_
  refine aw_iconst (pc' := 3) d_M_nextNumber_2 rfl kc_ic_0 ?_
  refine aw_istore_n (pc' := 4) (L' := [some (.ref 0), some (.int l1), some (.int (0 : Int32)), some (.int (0 : Int32))]) d_M_nextNumber_3 rfl (by decide) rfl ?_
  exact aw_weak [true, true, true, true] rfl (wM_nextNumber_4 _ _ _ _ _ hf)
set_option maxRecDepth 20000 in
theorem mM_nextGamma {N : Nat} {μ : me_M} {r0 : (Int32 × me_M)} (hf : fM_nextGamma N μ = some r0) : AM y_M_nextGamma c_M_nextGamma 3 (some .int) 2 0 0 0 [.ref 0] (hM  μ) (aw_is (some (.int r0.1)) (hM  r0.2)) := by
  unfold fM_nextGamma at hf
  refine AM.of (own := "ArcTapeModel") (nm := "nextGamma") (L := [some (.ref 0), none, none]) rfl rfl (by decide) (Nat.le_of_ble_eq_true rfl) rfl ?_
  refine aw_aload_n (pc' := 1) d_M_nextGamma_0 rfl rfl ?_
  obtain ⟨r1, hr1, hf⟩ := aw_bind hf
  refine aw_callVv (pc' := 4) (av := []) d_M_nextGamma_1 rfl wc_M_135 hM_0 (mM_nextUnary hr1) (Or.inl rfl) rfl (by decide) (Nat.le_of_ble_eq_true rfl) ⟨(Nat.le_refl 0), (Nat.le_refl 0)⟩ ?_
  refine aw_istore_n (pc' := 5) (L' := [some (.ref 0), some (.int r1.1), none]) d_M_nextGamma_4 rfl (by decide) rfl ?_
  refine aw_aload_n (pc' := 6) d_M_nextGamma_5 rfl rfl ?_
  refine aw_iload_n (pc' := 7) d_M_nextGamma_6 rfl rfl ?_
  obtain ⟨r2, hr2, hf⟩ := aw_bind hf
  refine aw_callVv (pc' := 10) (av := [.int r1.1]) d_M_nextGamma_7 rfl wc_M_138 hM_0 (mM_nextNumber hr2) (Or.inl rfl) rfl (by decide) (Nat.le_of_ble_eq_true rfl) ⟨(Nat.le_refl 0), (Nat.le_refl 0)⟩ ?_
  refine aw_istore_n (pc' := 11) (L' := [some (.ref 0), some (.int r1.1), some (.int r2.1)]) d_M_nextGamma_10 rfl (by decide) rfl ?_
  refine aw_iconst (pc' := 12) d_M_nextGamma_11 rfl kc_ic_1 ?_
  refine aw_iload_n (pc' := 13) d_M_nextGamma_12 rfl rfl ?_
  refine aw_ishl (pc' := 14) d_M_nextGamma_13 rfl ?_
  refine aw_iconst (pc' := 15) d_M_nextGamma_14 rfl kc_ic_1 ?_
  refine aw_isub (pc' := 16) d_M_nextGamma_15 rfl ?_
  refine aw_iload_n (pc' := 17) d_M_nextGamma_16 rfl rfl ?_
  refine aw_iadd (pc' := 18) d_M_nextGamma_17 rfl ?_
  cases hf
  exact aw_ireturn rfl d_M_nextGamma_18 (Nat.le_refl 0) (Nat.le_refl 0) ⟨rfl, rfl⟩
set_option maxRecDepth 20000 in
theorem mM_nextZeta {N : Nat} {μ : me_M} {r0 : (Int32 × me_M)} (hf : fM_nextZeta N μ = some r0) : AM y_M_nextZeta c_M_nextZeta 5 (some .int) 2 0 0 0 [.ref 0] (hM  μ) (aw_is (some (.int r0.1)) (hM  r0.2)) := by
  unfold fM_nextZeta at hf
  refine AM.of (own := "ArcTapeModel") (nm := "nextZeta") (L := [some (.ref 0), none, none, none, none]) rfl rfl (by decide) (Nat.le_of_ble_eq_true rfl) rfl ?_
  refine aw_aload_n (pc' := 1) d_M_nextZeta_0 rfl rfl ?_
  obtain ⟨r1, hr1, hf⟩ := aw_bind hf
  refine aw_callVv (pc' := 4) (av := []) d_M_nextZeta_1 rfl wc_M_135 hM_0 (mM_nextUnary hr1) (Or.inl rfl) rfl (by decide) (Nat.le_of_ble_eq_true rfl) ⟨(Nat.le_refl 0), (Nat.le_refl 0)⟩ ?_
  refine aw_istore_n (pc' := 5) (L' := [some (.ref 0), some (.int r1.1), none, none, none]) d_M_nextZeta_4 rfl (by decide) rfl ?_
  refine aw_aload_n (pc' := 6) d_M_nextZeta_5 rfl rfl ?_
  refine aw_iload_n (pc' := 7) d_M_nextZeta_6 rfl rfl ?_
  refine aw_aload_n (pc' := 8) d_M_nextZeta_7 rfl rfl ?_
  refine aw_get (pc' := 11) d_M_nextZeta_8 rfl fl_M_86 hM_0 rfl ?_
  refine aw_imul (pc' := 12) d_M_nextZeta_11 rfl ?_
  refine aw_aload_n (pc' := 13) d_M_nextZeta_12 rfl rfl ?_
  refine aw_get (pc' := 16) d_M_nextZeta_13 rfl fl_M_86 hM_0 rfl ?_
  refine aw_iadd (pc' := 17) d_M_nextZeta_16 rfl ?_
  refine aw_iconst (pc' := 18) d_M_nextZeta_17 rfl kc_ic_1 ?_
  refine aw_isub (pc' := 19) d_M_nextZeta_18 rfl ?_
  obtain ⟨r2, hr2, hf⟩ := aw_bind hf
  refine aw_callVv (pc' := 22) (av := [.int (((r1.1 * (r1.2.1 108 0)) + (r1.2.1 108 0)) - (1 : Int32))]) d_M_nextZeta_19 rfl wc_M_138 hM_0 (mM_nextNumber hr2) (Or.inl rfl) rfl (by decide) (Nat.le_of_ble_eq_true rfl) ⟨(Nat.le_refl 0), (Nat.le_refl 0)⟩ ?_
  refine aw_istore_n (pc' := 23) (L' := [some (.ref 0), some (.int r1.1), some (.int r2.1), none, none]) d_M_nextZeta_22 rfl (by decide) rfl ?_
  refine aw_iconst (pc' := 24) d_M_nextZeta_23 rfl kc_ic_1 ?_
  refine aw_iload_n (pc' := 25) d_M_nextZeta_24 rfl rfl ?_
  refine aw_aload_n (pc' := 26) d_M_nextZeta_25 rfl rfl ?_
  refine aw_get (pc' := 29) d_M_nextZeta_26 rfl fl_M_86 hM_0 rfl ?_
  refine aw_imul (pc' := 30) d_M_nextZeta_29 rfl ?_
  refine aw_ishl (pc' := 31) d_M_nextZeta_30 rfl ?_
  refine aw_istore_n (pc' := 32) (L' := [some (.ref 0), some (.int r1.1), some (.int r2.1), some (.int ((1 : Int32) <<< ((r1.1 * (r2.2.1 108 0)) &&& 31))), none]) d_M_nextZeta_31 rfl (by decide) rfl ?_
  refine aw_iload_n (pc' := 33) d_M_nextZeta_32 rfl rfl ?_
  refine aw_iload_n (pc' := 34) d_M_nextZeta_33 rfl rfl ?_
  refine aw_icmp_ge (tgt := 43) (pc' := 37) d_M_nextZeta_34 (by decide) rfl (fun c3 => ?_) (fun c3 => ?_)
  · replace hf := aw_ifp c3 hf
    refine aw_aload_n (pc' := 44) d_M_nextZeta_43 rfl rfl ?_
    obtain ⟨r4, hr4, hf⟩ := aw_bind hf
    refine aw_callVv (pc' := 47) (av := []) d_M_nextZeta_44 rfl wc_M_131 hM_0 (mM_next hr4) (Or.inl rfl) rfl (by decide) (Nat.le_of_ble_eq_true rfl) ⟨(Nat.le_refl 0), (Nat.le_refl 0)⟩ ?_
    refine aw_istore (pc' := 49) (L' := [some (.ref 0), some (.int r1.1), some (.int r2.1), some (.int ((1 : Int32) <<< ((r1.1 * (r2.2.1 108 0)) &&& 31))), some (.int r4.1)]) d_M_nextZeta_47 rfl (by decide) rfl ?_
    refine aw_iconst (pc' := 50) d_M_nextZeta_49 rfl kc_ic_2 ?_
    refine aw_iload_n (pc' := 51) d_M_nextZeta_50 rfl rfl ?_
    refine aw_imul (pc' := 52) d_M_nextZeta_51 rfl ?_
    refine aw_iload (pc' := 54) d_M_nextZeta_52 rfl rfl ?_
    refine aw_iadd (pc' := 55) d_M_nextZeta_54 rfl ?_
    refine aw_iconst (pc' := 56) d_M_nextZeta_55 rfl kc_ic_1 ?_
    refine aw_isub (pc' := 57) d_M_nextZeta_56 rfl ?_
    cases hf
    exact aw_ireturn rfl d_M_nextZeta_57 (Nat.le_refl 0) (Nat.le_refl 0) ⟨rfl, rfl⟩
  · replace hf := aw_ifn c3 hf
    refine aw_iload_n (pc' := 38) d_M_nextZeta_37 rfl rfl ?_
    refine aw_iload_n (pc' := 39) d_M_nextZeta_38 rfl rfl ?_
    refine aw_iadd (pc' := 40) d_M_nextZeta_39 rfl ?_
    refine aw_iconst (pc' := 41) d_M_nextZeta_40 rfl kc_ic_1 ?_
    refine aw_isub (pc' := 42) d_M_nextZeta_41 rfl ?_
    cases hf
    exact aw_ireturn rfl d_M_nextZeta_42 (Nat.le_refl 0) (Nat.le_refl 0) ⟨rfl, rfl⟩
set_option maxRecDepth 20000 in
theorem wM_take_25 {N : Nat} {r0 : me_M} (l1 : Int32) (s1 : Int32) (μ : me_M) (hf : fM_take_25 N l1 s1 μ = some r0) : AW "ArcTapeModel" "take" c_M_take 2 none 0 0 0 0 (aw_is none (hM  r0)) 25 [some (.ref 0), some (.int l1)] [.int s1, .ref 0] (hM  μ) 0 0 := by
  unfold fM_take_25 at hf
  obtain ⟨g1, hf⟩ := aw_gz hf
  refine aw_putz (pc' := 28) (h' := (hM  (me_wi μ 114 0 s1))) d_M_take_25 rfl fp_M_141 g1 hM_0 (Nat.le_of_ble_eq_true rfl) rfl ?_
  refine aw_aload_n (pc' := 29) d_M_take_28 rfl rfl ?_
  refine aw_dup (pc' := 30) d_M_take_29 rfl rfl ?_
  refine aw_get (pc' := 33) d_M_take_30 rfl fl_M_145 hM_0 rfl ?_
  refine aw_iconst (pc' := 34) d_M_take_33 rfl kc_ic_1 ?_
  refine aw_iload_n (pc' := 35) d_M_take_34 rfl rfl ?_
  refine aw_ishl (pc' := 36) d_M_take_35 rfl ?_
  refine aw_ior (pc' := 37) d_M_take_36 rfl ?_
  refine aw_puti (pc' := 40) (h' := (hM  (me_wi (me_wi μ 114 0 s1) 113 0 (((me_wi μ 114 0 s1).1 113 0) ||| ((1 : Int32) <<< (l1 &&& 31)))))) d_M_take_37 rfl fp_M_145 hM_0 (Nat.le_of_ble_eq_true rfl) rfl ?_
  cases hf
  exact aw_return rfl d_M_take_40 (Nat.le_refl 0) (Nat.le_refl 0) ⟨rfl, rfl⟩
set_option maxRecDepth 20000 in
theorem wM_take_20 {N : Nat} {r0 : me_M} (l1 : Int32) (μ : me_M) (hf : fM_take_20 N l1 μ = some r0) : AW "ArcTapeModel" "take" c_M_take 2 none 0 0 0 0 (aw_is none (hM  r0)) 20 [some (.ref 0), some (.int l1)] [.ref 0] (hM  μ) 0 0 := by
  unfold fM_take_20 at hf
  refine aw_iconst (pc' := 21) d_M_take_20 rfl kc_ic_1 ?_
  refine aw_goto (tgt := 25) d_M_take_21 (by decide) ?_
  exact aw_weak [true, true] rfl (wM_take_25 _ _ _ hf)
set_option maxRecDepth 20000 in
theorem mM_take {N : Nat} {μ : me_M} {r0 : me_M} {l1 : Int32} (hf : fM_take N l1 μ = some r0) : AM y_M_take c_M_take 2 none 0 0 0 0 [.ref 0, .int l1] (hM  μ) (aw_is none (hM  r0)) := by
  unfold fM_take at hf
  refine AM.of (own := "ArcTapeModel") (nm := "take") (L := [some (.ref 0), some (.int l1)]) rfl rfl (by decide) (Nat.le_of_ble_eq_true rfl) rfl ?_
  refine aw_aload_n (pc' := 1) d_M_take_0 rfl rfl ?_
  refine aw_aload_n (pc' := 2) d_M_take_1 rfl rfl ?_
  refine aw_get (pc' := 5) d_M_take_2 rfl fl_M_141 hM_0 rfl ?_
  refine aw_if_ne (tgt := 20) (pc' := 8) d_M_take_5 (by decide) rfl (fun c2 => ?_) (fun c2 => ?_)
  · replace hf := aw_ifn c2 hf
    exact aw_weak [true, true] rfl (wM_take_20 _ _ hf)
  · replace hf := aw_ifp c2 hf
    refine aw_aload_n (pc' := 9) d_M_take_8 rfl rfl ?_
    refine aw_get (pc' := 12) d_M_take_9 rfl fl_M_145 hM_0 rfl ?_
    refine aw_iload_n (pc' := 13) d_M_take_12 rfl rfl ?_
    refine aw_ishr (pc' := 14) d_M_take_13 rfl ?_
    refine aw_iconst (pc' := 15) d_M_take_14 rfl kc_ic_1 ?_
    refine aw_iand (pc' := 16) d_M_take_15 rfl ?_
    refine aw_iconst (pc' := 17) d_M_take_16 rfl kc_ic_1 ?_
    refine aw_icmp_ne (tgt := 24) (pc' := 20) d_M_take_17 (by decide) rfl (fun c3 => ?_) (fun c3 => ?_)
    · replace hf := aw_ifn c3 hf
      refine aw_iconst (pc' := 25) d_M_take_24 rfl kc_ic_0 ?_
      exact aw_weak [true, true] rfl (wM_take_25 _ _ _ hf)
    · replace hf := aw_ifp c3 hf
      exact aw_weak [true, true] rfl (wM_take_20 _ _ hf)
set_option maxRecDepth 20000 in
theorem wM_copy_52 {N : Nat} {r0 : me_M} (μ : me_M) (hf : fM_copy_52 N μ = some r0) : AW "ArcTapeModel" "copy" c_M_copy 6 none 1 0 0 0 (aw_is none (hM  r0)) 52 [none, none, none, none, none, none] [] (hM  μ) 0 0 := by
  unfold fM_copy_52 at hf
  cases hf
  exact aw_return rfl d_M_copy_52 (Nat.le_refl 0) (Nat.le_refl 0) ⟨rfl, rfl⟩
set_option maxRecDepth 20000 in
theorem wM_copy_46 {N : Nat} {r0 : me_M} {k6 : Int32 → Int32 → Int32 → Int32 → Int32 → me_M → Option me_M} (hk6 : ∀ (l1 : Int32) (l2 : Int32) (l3 : Int32) (l4 : Int32) (l5 : Int32) (μ : me_M), k6 l1 l2 l3 l4 l5 μ = some r0 → AW "ArcTapeModel" "copy" c_M_copy 6 none 1 0 0 0 (aw_is none (hM  r0)) 6 [some (.ref 0), some (.int l1), some (.int l2), some (.int l3), some (.int l4), some (.int l5)] [] (hM  μ) 0 0) (l1 : Int32) (l2 : Int32) (l3 : Int32) (l4 : Int32) (l5 : Int32) (μ : me_M) (hf : fM_copy_46 N k6 l1 l2 l3 l4 l5 μ = some r0) : AW "ArcTapeModel" "copy" c_M_copy 6 none 1 0 0 0 (aw_is none (hM  r0)) 46 [some (.ref 0), some (.int l1), some (.int l2), some (.int l3), some (.int l4), some (.int l5)] [] (hM  μ) 0 0 := by
  unfold fM_copy_46 at hf
  refine aw_iinc (pc' := 49) (L' := [some (.ref 0), some (.int l1), some (.int l2), some (.int l3), some (.int l4), some (.int (l5 + (1 : Int32)))]) d_M_copy_46 rfl kc_ic_1 rfl (by decide) rfl ?_
  refine aw_goto (tgt := 6) d_M_copy_49 (by decide) ?_
  exact aw_weak [true, true, true, true, true, true] rfl (hk6 _ _ _ _ _ _ hf)
set_option maxRecDepth 20000 in
theorem wM_copy_43 {N : Nat} {r0 : me_M} {k6 : Int32 → Int32 → Int32 → Int32 → Int32 → me_M → Option me_M} (hk6 : ∀ (l1 : Int32) (l2 : Int32) (l3 : Int32) (l4 : Int32) (l5 : Int32) (μ : me_M), k6 l1 l2 l3 l4 l5 μ = some r0 → AW "ArcTapeModel" "copy" c_M_copy 6 none 1 0 0 0 (aw_is none (hM  r0)) 6 [some (.ref 0), some (.int l1), some (.int l2), some (.int l3), some (.int l4), some (.int l5)] [] (hM  μ) 0 0) (l1 : Int32) (l2 : Int32) (l3 : Int32) (l4 : Int32) (l5 : Int32) (μ : me_M) (hf : fM_copy_43 N k6 l1 l2 l3 l4 l5 μ = some r0) : AW "ArcTapeModel" "copy" c_M_copy 6 none 1 0 0 0 (aw_is none (hM  r0)) 43 [some (.ref 0), some (.int l1), some (.int l2), some (.int l3), some (.int l4), some (.int l5)] [] (hM  μ) 0 0 := by
  unfold fM_copy_43 at hf
  refine aw_iinc (pc' := 46) (L' := [some (.ref 0), some (.int l1), some (.int l2), some (.int l3), some (.int (l4 + (1 : Int32))), some (.int l5)]) d_M_copy_43 rfl kc_ic_1 rfl (by decide) rfl ?_
  exact aw_weak [true, true, true, true, true, true] rfl (wM_copy_46 hk6 _ _ _ _ _ _ hf)
set_option maxRecDepth 20000 in
theorem wM_copy_6b {N : Nat} {r0 : me_M} {k6 : Int32 → Int32 → Int32 → Int32 → Int32 → me_M → Option me_M} (hk6 : ∀ (l1 : Int32) (l2 : Int32) (l3 : Int32) (l4 : Int32) (l5 : Int32) (μ : me_M), k6 l1 l2 l3 l4 l5 μ = some r0 → AW "ArcTapeModel" "copy" c_M_copy 6 none 1 0 0 0 (aw_is none (hM  r0)) 6 [some (.ref 0), some (.int l1), some (.int l2), some (.int l3), some (.int l4), some (.int l5)] [] (hM  μ) 0 0) (l1 : Int32) (l2 : Int32) (l3 : Int32) (l4 : Int32) (l5 : Int32) (μ : me_M) (hf : fM_copy_6b N k6 l1 l2 l3 l4 l5 μ = some r0) : AW "ArcTapeModel" "copy" c_M_copy 6 none 1 0 0 0 (aw_is none (hM  r0)) 6 [some (.ref 0), some (.int l1), some (.int l2), some (.int l3), some (.int l4), some (.int l5)] [] (hM  μ) 0 0 := by
  unfold fM_copy_6b at hf
  refine aw_iload (pc' := 8) d_M_copy_6 rfl rfl ?_
  refine aw_aload_n (pc' := 9) d_M_copy_8 rfl rfl ?_
  refine aw_get (pc' := 12) d_M_copy_9 rfl fl_M_56 hM_0 rfl ?_
  refine aw_icmp_ge (tgt := 52) (pc' := 15) d_M_copy_12 (by decide) rfl (fun c1 => ?_) (fun c1 => ?_)
  · replace hf := aw_ifp c1 hf
    exact aw_weak [false, false, false, false, false, false] rfl (wM_copy_52 _ hf)
  · replace hf := aw_ifn c1 hf
    refine aw_iload_n (pc' := 16) d_M_copy_15 rfl rfl ?_
    refine aw_iload (pc' := 18) d_M_copy_16 rfl rfl ?_
    refine aw_ishr (pc' := 19) d_M_copy_18 rfl ?_
    refine aw_iconst (pc' := 20) d_M_copy_19 rfl kc_ic_1 ?_
    refine aw_iand (pc' := 21) d_M_copy_20 rfl ?_
    refine aw_iconst (pc' := 22) d_M_copy_21 rfl kc_ic_1 ?_
    refine aw_icmp_ne (tgt := 46) (pc' := 25) d_M_copy_22 (by decide) rfl (fun c2 => ?_) (fun c2 => ?_)
    · replace hf := aw_ifn c2 hf
      exact aw_weak [true, true, true, true, true, true] rfl (wM_copy_46 hk6 _ _ _ _ _ _ hf)
    · replace hf := aw_ifp c2 hf
      refine aw_iload (pc' := 27) d_M_copy_25 rfl rfl ?_
      refine aw_iload_n (pc' := 28) d_M_copy_27 rfl rfl ?_
      refine aw_icmp_lt (tgt := 43) (pc' := 31) d_M_copy_28 (by decide) rfl (fun c3 => ?_) (fun c3 => ?_)
      · replace hf := aw_ifp c3 hf
        exact aw_weak [true, true, true, true, true, true] rfl (wM_copy_43 hk6 _ _ _ _ _ _ hf)
      · replace hf := aw_ifn c3 hf
        refine aw_iload (pc' := 33) d_M_copy_31 rfl rfl ?_
        refine aw_iload_n (pc' := 34) d_M_copy_33 rfl rfl ?_
        refine aw_icmp_ge (tgt := 43) (pc' := 37) d_M_copy_34 (by decide) rfl (fun c4 => ?_) (fun c4 => ?_)
        · replace hf := aw_ifp c4 hf
          exact aw_weak [true, true, true, true, true, true] rfl (wM_copy_43 hk6 _ _ _ _ _ _ hf)
        · replace hf := aw_ifn c4 hf
          refine aw_aload_n (pc' := 38) d_M_copy_37 rfl rfl ?_
          refine aw_iload (pc' := 40) d_M_copy_38 rfl rfl ?_
          obtain ⟨r5, hr5, hf⟩ := aw_bind hf
          refine aw_callVn (pc' := 43) (av := [.int l5]) d_M_copy_40 rfl wc_M_155 hM_0 (mM_take hr5) (Or.inl rfl) rfl (by decide) (Nat.le_of_ble_eq_true rfl) ⟨(Nat.le_refl 0), (Nat.le_refl 0)⟩ ?_
          exact aw_weak [true, true, true, true, true, true] rfl (wM_copy_43 hk6 _ _ _ _ _ _ hf)
set_option maxRecDepth 20000 in
theorem wM_copy_6 {N : Nat} {r0 : me_M} : ∀ (F : Nat) (l1 : Int32) (l2 : Int32) (l3 : Int32) (l4 : Int32) (l5 : Int32) (μ : me_M) (hf : fM_copy_6 N F l1 l2 l3 l4 l5 μ = some r0), AW "ArcTapeModel" "copy" c_M_copy 6 none 1 0 0 0 (aw_is none (hM  r0)) 6 [some (.ref 0), some (.int l1), some (.int l2), some (.int l3), some (.int l4), some (.int l5)] [] (hM  μ) 0 0 := by
  intro F
  induction F with
  | zero => intro l1 l2 l3 l4 l5 μ hf; exact aw_no hf
  | succ F ih => intro l1 l2 l3 l4 l5 μ hf; exact wM_copy_6b ih l1 l2 l3 l4 l5 μ hf
set_option maxRecDepth 20000 in
theorem mM_copy {N : Nat} {μ : me_M} {r0 : me_M} {l1 : Int32} {l2 : Int32} {l3 : Int32} (hf : fM_copy N l1 l2 l3 μ = some r0) : AM y_M_copy c_M_copy 6 none 1 0 0 0 [.ref 0, .int l1, .int l2, .int l3] (hM  μ) (aw_is none (hM  r0)) := by
  unfold fM_copy at hf
  refine AM.of (own := "ArcTapeModel") (nm := "copy") (L := [some (.ref 0), some (.int l1), some (.int l2), some (.int l3), none, none]) rfl rfl (by decide) (Nat.le_of_ble_eq_true rfl) rfl ?_
  refine aw_iconst (pc' := 1) d_M_copy_0 rfl kc_ic_0 ?_
  refine aw_istore (pc' := 3) (L' := [some (.ref 0), some (.int l1), some (.int l2), some (.int l3), some (.int (0 : Int32)), none]) d_M_copy_1 rfl (by decide) rfl ?_
  refine aw_iconst (pc' := 4) d_M_copy_3 rfl kc_ic_0 ?_
  refine aw_istore (pc' := 6) (L' := [some (.ref 0), some (.int l1), some (.int l2), some (.int l3), some (.int (0 : Int32)), some (.int (0 : Int32))]) d_M_copy_4 rfl (by decide) rfl ?_
  exact aw_weak [true, true, true, true, true, true] rfl (wM_copy_6 _ _ _ _ _ _ _ hf)
set_option maxRecDepth 20000 in
theorem wM_readRuns_149 {N : Nat} {r0 : me_M} (μ : me_M) (hf : fM_readRuns_149 N μ = some r0) : AW "ArcTapeModel" "readRuns" c_M_readRuns 8 none 3 0 0 0 (aw_is none (hM  r0)) 149 [none, none, none, none, none, none, none, none] [] (hM  μ) 0 0 := by
  unfold fM_readRuns_149 at hf
  cases hf
  exact aw_return rfl d_M_readRuns_149 (Nat.le_refl 0) (Nat.le_refl 0) ⟨rfl, rfl⟩
set_option maxRecDepth 20000 in
theorem wM_readRuns_125 {N : Nat} {r0 : me_M} (l2 : Int32) (μ : me_M) (hf : fM_readRuns_125 N l2 μ = some r0) : AW "ArcTapeModel" "readRuns" c_M_readRuns 8 none 3 0 0 0 (aw_is none (hM  r0)) 125 [some (.ref 0), none, some (.int l2), none, none, none, none, none] [] (hM  μ) 0 0 := by
  unfold fM_readRuns_125 at hf
  refine aw_aload_n (pc' := 126) d_M_readRuns_125 rfl rfl ?_
  refine aw_get (pc' := 129) d_M_readRuns_126 rfl fl_M_125 hM_0 rfl ?_
  refine aw_if_ne (tgt := 149) (pc' := 132) d_M_readRuns_129 (by decide) rfl (fun c1 => ?_) (fun c1 => ?_)
  · replace hf := aw_ifn c1 hf
    exact aw_weak [false, false, false, false, false, false, false, false] rfl (wM_readRuns_149 _ hf)
  · replace hf := aw_ifp c1 hf
    refine aw_aload_n (pc' := 133) d_M_readRuns_132 rfl rfl ?_
    refine aw_get (pc' := 136) d_M_readRuns_133 rfl fl_M_145 hM_0 rfl ?_
    obtain ⟨r2, hr2, hf⟩ := aw_bind hf
    refine aw_callSv (pc' := 139) (av := [.int (μ.1 113 0)]) d_M_readRuns_136 rfl wc_M_106 (mM_ones hr2) (Or.inl rfl) rfl (by decide) (Nat.le_of_ble_eq_true rfl) ⟨(Nat.le_refl 0), (Nat.le_refl 0)⟩ ?_
    refine aw_iload_n (pc' := 140) d_M_readRuns_139 rfl rfl ?_
    refine aw_icmp_le (tgt := 149) (pc' := 143) d_M_readRuns_140 (by decide) rfl (fun c3 => ?_) (fun c3 => ?_)
    · replace hf := aw_ifp c3 hf
      exact aw_weak [false, false, false, false, false, false, false, false] rfl (wM_readRuns_149 _ hf)
    · replace hf := aw_ifn c3 hf
      refine aw_aload_n (pc' := 144) d_M_readRuns_143 rfl rfl ?_
      refine aw_bipush (pc' := 146) d_M_readRuns_144 rfl kc_bi_6 ?_
      refine aw_puti (pc' := 149) (h' := (hM  (me_wi μ 112 0 (6 : Int32)))) d_M_readRuns_146 rfl fp_M_125 hM_0 (Nat.le_of_ble_eq_true rfl) rfl ?_
      exact aw_weak [false, false, false, false, false, false, false, false] rfl (wM_readRuns_149 _ hf)
set_option maxRecDepth 20000 in
theorem wM_readRuns_103 {N : Nat} {r0 : me_M} (l1 : Int32) (l2 : Int32) (l3 : Int32) (l4 : Int32) (μ : me_M) (hf : fM_readRuns_103 N l1 l2 l3 l4 μ = some r0) : AW "ArcTapeModel" "readRuns" c_M_readRuns 8 none 3 0 0 0 (aw_is none (hM  r0)) 103 [some (.ref 0), some (.int l1), some (.int l2), some (.int l3), some (.int l4), none, none, none] [] (hM  μ) 0 0 := by
  unfold fM_readRuns_103 at hf
  refine aw_aload_n (pc' := 104) d_M_readRuns_103 rfl rfl ?_
  refine aw_get (pc' := 107) d_M_readRuns_104 rfl fl_M_125 hM_0 rfl ?_
  refine aw_if_ne (tgt := 125) (pc' := 110) d_M_readRuns_107 (by decide) rfl (fun c4 => ?_) (fun c4 => ?_)
  · replace hf := aw_ifn c4 hf
    exact aw_weak [true, false, true, false, false, false, false, false] rfl (wM_readRuns_125 _ _ hf)
  · replace hf := aw_ifp c4 hf
    refine aw_iload_n (pc' := 111) d_M_readRuns_110 rfl rfl ?_
    refine aw_iconst (pc' := 112) d_M_readRuns_111 rfl kc_ic_2 ?_
    refine aw_irem (pc' := 113) d_M_readRuns_112 rfl (by decide) ?_
    refine aw_if_ne (tgt := 125) (pc' := 116) d_M_readRuns_113 (by decide) rfl (fun c6 => ?_) (fun c6 => ?_)
    · replace hf := aw_ifn c6 hf
      exact aw_weak [true, false, true, false, false, false, false, false] rfl (wM_readRuns_125 _ _ hf)
    · replace hf := aw_ifp c6 hf
      refine aw_aload_n (pc' := 117) d_M_readRuns_116 rfl rfl ?_
      refine aw_iload_n (pc' := 118) d_M_readRuns_117 rfl rfl ?_
      refine aw_iload (pc' := 120) d_M_readRuns_118 rfl rfl ?_
      refine aw_bipush (pc' := 122) d_M_readRuns_120 rfl kc_bi_12 ?_
      obtain ⟨r7, hr7, hf⟩ := aw_bind hf
      refine aw_callVn (pc' := 125) (av := [.int l1, .int l4, .int (12 : Int32)]) d_M_readRuns_122 rfl wc_M_151 hM_0 (mM_copy hr7) (Or.inl rfl) rfl (by decide) (Nat.le_of_ble_eq_true rfl) ⟨(Nat.le_refl 0), (Nat.le_refl 0)⟩ ?_
      exact aw_weak [true, false, true, false, false, false, false, false] rfl (wM_readRuns_125 _ _ hf)
set_option maxRecDepth 20000 in
theorem wM_readRuns_97 {N : Nat} {r0 : me_M} {k11 : Int32 → Int32 → Int32 → Int32 → Int32 → me_M → Option me_M} (hk11 : ∀ (l1 : Int32) (l2 : Int32) (l3 : Int32) (l4 : Int32) (l5 : Int32) (μ : me_M), k11 l1 l2 l3 l4 l5 μ = some r0 → AW "ArcTapeModel" "readRuns" c_M_readRuns 8 none 3 0 0 0 (aw_is none (hM  r0)) 11 [some (.ref 0), some (.int l1), some (.int l2), some (.int l3), some (.int l4), some (.int l5), none, none] [] (hM  μ) 0 0) (l1 : Int32) (l2 : Int32) (l3 : Int32) (l4 : Int32) (l5 : Int32) (μ : me_M) (hf : fM_readRuns_97 N k11 l1 l2 l3 l4 l5 μ = some r0) : AW "ArcTapeModel" "readRuns" c_M_readRuns 8 none 3 0 0 0 (aw_is none (hM  r0)) 97 [some (.ref 0), some (.int l1), some (.int l2), some (.int l3), some (.int l4), some (.int l5), none, none] [] (hM  μ) 0 0 := by
  unfold fM_readRuns_97 at hf
  refine aw_iinc (pc' := 100) (L' := [some (.ref 0), some (.int l1), some (.int l2), some (.int l3), some (.int l4), some (.int (l5 + (1 : Int32))), none, none]) d_M_readRuns_97 rfl kc_ic_1 rfl (by decide) rfl ?_
  refine aw_goto (tgt := 11) d_M_readRuns_100 (by decide) ?_
  exact aw_weak [true, true, true, true, true, true, false, false] rfl (hk11 _ _ _ _ _ _ hf)
set_option maxRecDepth 20000 in
theorem wM_readRuns_74 {N : Nat} {r0 : me_M} {k11 : Int32 → Int32 → Int32 → Int32 → Int32 → me_M → Option me_M} (hk11 : ∀ (l1 : Int32) (l2 : Int32) (l3 : Int32) (l4 : Int32) (l5 : Int32) (μ : me_M), k11 l1 l2 l3 l4 l5 μ = some r0 → AW "ArcTapeModel" "readRuns" c_M_readRuns 8 none 3 0 0 0 (aw_is none (hM  r0)) 11 [some (.ref 0), some (.int l1), some (.int l2), some (.int l3), some (.int l4), some (.int l5), none, none] [] (hM  μ) 0 0) (l1 : Int32) (l2 : Int32) (l3 : Int32) (l4 : Int32) (l5 : Int32) (l7 : Int32) (μ : me_M) (hf : fM_readRuns_74 N k11 l1 l2 l3 l4 l5 l7 μ = some r0) : AW "ArcTapeModel" "readRuns" c_M_readRuns 8 none 3 0 0 0 (aw_is none (hM  r0)) 74 [some (.ref 0), some (.int l1), some (.int l2), some (.int l3), some (.int l4), some (.int l5), none, some (.int l7)] [] (hM  μ) 0 0 := by
  unfold fM_readRuns_74 at hf
  refine aw_aload_n (pc' := 75) d_M_readRuns_74 rfl rfl ?_
  refine aw_get (pc' := 78) d_M_readRuns_75 rfl fl_M_125 hM_0 rfl ?_
  refine aw_if_ne (tgt := 97) (pc' := 81) d_M_readRuns_78 (by decide) rfl (fun c8 => ?_) (fun c8 => ?_)
  · replace hf := aw_ifn c8 hf
    exact aw_weak [true, true, true, true, true, true, false, false] rfl (wM_readRuns_97 hk11 _ _ _ _ _ _ hf)
  · replace hf := aw_ifp c8 hf
    refine aw_iload (pc' := 83) d_M_readRuns_81 rfl rfl ?_
    refine aw_iconst (pc' := 84) d_M_readRuns_83 rfl kc_ic_2 ?_
    refine aw_irem (pc' := 85) d_M_readRuns_84 rfl (by decide) ?_
    refine aw_if_ne (tgt := 97) (pc' := 88) d_M_readRuns_85 (by decide) rfl (fun c10 => ?_) (fun c10 => ?_)
    · replace hf := aw_ifn c10 hf
      exact aw_weak [true, true, true, true, true, true, false, false] rfl (wM_readRuns_97 hk11 _ _ _ _ _ _ hf)
    · replace hf := aw_ifp c10 hf
      refine aw_aload_n (pc' := 89) d_M_readRuns_88 rfl rfl ?_
      refine aw_iload_n (pc' := 90) d_M_readRuns_89 rfl rfl ?_
      refine aw_iload (pc' := 92) d_M_readRuns_90 rfl rfl ?_
      refine aw_iload (pc' := 94) d_M_readRuns_92 rfl rfl ?_
      obtain ⟨r11, hr11, hf⟩ := aw_bind hf
      refine aw_callVn (pc' := 97) (av := [.int l1, .int l7, .int l4]) d_M_readRuns_94 rfl wc_M_151 hM_0 (mM_copy hr11) (Or.inl rfl) rfl (by decide) (Nat.le_of_ble_eq_true rfl) ⟨(Nat.le_refl 0), (Nat.le_refl 0)⟩ ?_
      exact aw_weak [true, true, true, true, true, true, false, false] rfl (wM_readRuns_97 hk11 _ _ _ _ _ _ hf)
set_option maxRecDepth 20000 in
theorem wM_readRuns_38 {N : Nat} {r0 : me_M} {k11 : Int32 → Int32 → Int32 → Int32 → Int32 → me_M → Option me_M} (hk11 : ∀ (l1 : Int32) (l2 : Int32) (l3 : Int32) (l4 : Int32) (l5 : Int32) (μ : me_M), k11 l1 l2 l3 l4 l5 μ = some r0 → AW "ArcTapeModel" "readRuns" c_M_readRuns 8 none 3 0 0 0 (aw_is none (hM  r0)) 11 [some (.ref 0), some (.int l1), some (.int l2), some (.int l3), some (.int l4), some (.int l5), none, none] [] (hM  μ) 0 0) (l1 : Int32) (l2 : Int32) (l3 : Int32) (l4 : Int32) (l5 : Int32) (s0 : Int32) (s1 : Int32) (μ : me_M) (hf : fM_readRuns_38 N k11 l1 l2 l3 l4 l5 s0 s1 μ = some r0) : AW "ArcTapeModel" "readRuns" c_M_readRuns 8 none 3 0 0 0 (aw_is none (hM  r0)) 38 [some (.ref 0), some (.int l1), some (.int l2), some (.int l3), some (.int l4), some (.int l5), none, none] [.int s1, .int s0] (hM  μ) 0 0 := by
  unfold fM_readRuns_38 at hf
  refine aw_iadd (pc' := 39) d_M_readRuns_38 rfl ?_
  refine aw_istore (pc' := 41) (L' := [some (.ref 0), some (.int l1), some (.int l2), some (.int l3), some (.int l4), some (.int l5), some (.int (s0 + s1)), none]) d_M_readRuns_39 rfl (by decide) rfl ?_
  refine aw_iload (pc' := 43) d_M_readRuns_41 rfl rfl ?_
  refine aw_istore (pc' := 45) (L' := [some (.ref 0), some (.int l1), some (.int l2), some (.int l3), some (.int l4), some (.int l5), some (.int (s0 + s1)), some (.int l4)]) d_M_readRuns_43 rfl (by decide) rfl ?_
  refine aw_iload (pc' := 47) d_M_readRuns_45 rfl rfl ?_
  refine aw_iload (pc' := 49) d_M_readRuns_47 rfl rfl ?_
  refine aw_iadd (pc' := 50) d_M_readRuns_49 rfl ?_
  refine aw_istore (pc' := 52) (L' := [some (.ref 0), some (.int l1), some (.int l2), some (.int l3), some (.int (l4 + (s0 + s1))), some (.int l5), some (.int (s0 + s1)), some (.int l4)]) d_M_readRuns_50 rfl (by decide) rfl ?_
  refine aw_aload_n (pc' := 53) d_M_readRuns_52 rfl rfl ?_
  refine aw_get (pc' := 56) d_M_readRuns_53 rfl fl_M_125 hM_0 rfl ?_
  refine aw_if_ne (tgt := 74) (pc' := 59) d_M_readRuns_56 (by decide) rfl (fun c12 => ?_) (fun c12 => ?_)
  · replace hf := aw_ifn c12 hf
    exact aw_weak [true, true, true, true, true, true, false, true] rfl (wM_readRuns_74 hk11 _ _ _ _ _ _ _ hf)
  · replace hf := aw_ifp c12 hf
    refine aw_iload (pc' := 61) d_M_readRuns_59 rfl rfl ?_
    refine aw_iload_n (pc' := 62) d_M_readRuns_61 rfl rfl ?_
    obtain ⟨r13, hr13, hf⟩ := aw_bind hf
    refine aw_callSv (pc' := 65) (av := [.int l1]) d_M_readRuns_62 rfl wc_M_106 (mM_ones hr13) (Or.inl rfl) rfl (by decide) (Nat.le_of_ble_eq_true rfl) ⟨(Nat.le_refl 0), (Nat.le_refl 0)⟩ ?_
    refine aw_icmp_le (tgt := 74) (pc' := 68) d_M_readRuns_65 (by decide) rfl (fun c14 => ?_) (fun c14 => ?_)
    · replace hf := aw_ifp c14 hf
      exact aw_weak [true, true, true, true, true, true, false, true] rfl (wM_readRuns_74 hk11 _ _ _ _ _ _ _ hf)
    · replace hf := aw_ifn c14 hf
      refine aw_aload_n (pc' := 69) d_M_readRuns_68 rfl rfl ?_
      refine aw_bipush (pc' := 71) d_M_readRuns_69 rfl kc_bi_6 ?_
      refine aw_puti (pc' := 74) (h' := (hM  (me_wi μ 112 0 (6 : Int32)))) d_M_readRuns_71 rfl fp_M_125 hM_0 (Nat.le_of_ble_eq_true rfl) rfl ?_
      exact aw_weak [true, true, true, true, true, true, false, true] rfl (wM_readRuns_74 hk11 _ _ _ _ _ _ _ hf)
set_option maxRecDepth 20000 in
theorem wM_readRuns_11b {N : Nat} {r0 : me_M} {k11 : Int32 → Int32 → Int32 → Int32 → Int32 → me_M → Option me_M} (hk11 : ∀ (l1 : Int32) (l2 : Int32) (l3 : Int32) (l4 : Int32) (l5 : Int32) (μ : me_M), k11 l1 l2 l3 l4 l5 μ = some r0 → AW "ArcTapeModel" "readRuns" c_M_readRuns 8 none 3 0 0 0 (aw_is none (hM  r0)) 11 [some (.ref 0), some (.int l1), some (.int l2), some (.int l3), some (.int l4), some (.int l5), none, none] [] (hM  μ) 0 0) (l1 : Int32) (l2 : Int32) (l3 : Int32) (l4 : Int32) (l5 : Int32) (μ : me_M) (hf : fM_readRuns_11b N k11 l1 l2 l3 l4 l5 μ = some r0) : AW "ArcTapeModel" "readRuns" c_M_readRuns 8 none 3 0 0 0 (aw_is none (hM  r0)) 11 [some (.ref 0), some (.int l1), some (.int l2), some (.int l3), some (.int l4), some (.int l5), none, none] [] (hM  μ) 0 0 := by
  unfold fM_readRuns_11b at hf
  refine aw_iload (pc' := 13) d_M_readRuns_11 rfl rfl ?_
  refine aw_iload_n (pc' := 14) d_M_readRuns_13 rfl rfl ?_
  refine aw_icmp_ge (tgt := 103) (pc' := 17) d_M_readRuns_14 (by decide) rfl (fun c15 => ?_) (fun c15 => ?_)
  · replace hf := aw_ifp c15 hf
    exact aw_weak [true, true, true, true, true, false, false, false] rfl (wM_readRuns_103 _ _ _ _ _ hf)
  · replace hf := aw_ifn c15 hf
    refine aw_aload_n (pc' := 18) d_M_readRuns_17 rfl rfl ?_
    refine aw_get (pc' := 21) d_M_readRuns_18 rfl fl_M_125 hM_0 rfl ?_
    refine aw_if_ne (tgt := 103) (pc' := 24) d_M_readRuns_21 (by decide) rfl (fun c16 => ?_) (fun c16 => ?_)
    · replace hf := aw_ifn c16 hf
      exact aw_weak [true, true, true, true, true, false, false, false] rfl (wM_readRuns_103 _ _ _ _ _ hf)
    · replace hf := aw_ifp c16 hf
      refine aw_aload_n (pc' := 25) d_M_readRuns_24 rfl rfl ?_
      obtain ⟨r17, hr17, hf⟩ := aw_bind hf
      refine aw_callVv (pc' := 28) (av := []) d_M_readRuns_25 rfl wc_M_148 hM_0 (mM_nextGamma hr17) (Or.inl rfl) rfl (by decide) (Nat.le_of_ble_eq_true rfl) ⟨(Nat.le_refl 0), (Nat.le_refl 0)⟩ ?_
      refine aw_iload (pc' := 30) d_M_readRuns_28 rfl rfl ?_
      refine aw_if_le (tgt := 37) (pc' := 33) d_M_readRuns_30 (by decide) rfl (fun c18 => ?_) (fun c18 => ?_)
      · replace hf := aw_ifp c18 hf
        refine aw_iconst (pc' := 38) d_M_readRuns_37 rfl kc_ic_0 ?_
        exact aw_weak [true, true, true, true, true, true, false, false] rfl (wM_readRuns_38 hk11 _ _ _ _ _ _ _ _ hf)
      · replace hf := aw_ifn c18 hf
        refine aw_iconst (pc' := 34) d_M_readRuns_33 rfl kc_ic_1 ?_
        refine aw_goto (tgt := 38) d_M_readRuns_34 (by decide) ?_
        exact aw_weak [true, true, true, true, true, true, false, false] rfl (wM_readRuns_38 hk11 _ _ _ _ _ _ _ _ hf)
set_option maxRecDepth 20000 in
theorem wM_readRuns_11 {N : Nat} {r0 : me_M} : ∀ (F : Nat) (l1 : Int32) (l2 : Int32) (l3 : Int32) (l4 : Int32) (l5 : Int32) (μ : me_M) (hf : fM_readRuns_11 N F l1 l2 l3 l4 l5 μ = some r0), AW "ArcTapeModel" "readRuns" c_M_readRuns 8 none 3 0 0 0 (aw_is none (hM  r0)) 11 [some (.ref 0), some (.int l1), some (.int l2), some (.int l3), some (.int l4), some (.int l5), none, none] [] (hM  μ) 0 0 := by
  intro F
  induction F with
  | zero => intro l1 l2 l3 l4 l5 μ hf; exact aw_no hf
  | succ F ih => intro l1 l2 l3 l4 l5 μ hf; exact wM_readRuns_11b ih l1 l2 l3 l4 l5 μ hf
set_option maxRecDepth 20000 in
theorem mM_readRuns {N : Nat} {μ : me_M} {r0 : me_M} {l1 : Int32} {l2 : Int32} (hf : fM_readRuns N l1 l2 μ = some r0) : AM y_M_readRuns c_M_readRuns 8 none 3 0 0 0 [.ref 0, .int l1, .int l2] (hM  μ) (aw_is none (hM  r0)) := by
  unfold fM_readRuns at hf
  refine AM.of (own := "ArcTapeModel") (nm := "readRuns") (L := [some (.ref 0), some (.int l1), some (.int l2), none, none, none, none, none]) rfl rfl (by decide) (Nat.le_of_ble_eq_true rfl) rfl ?_
  refine aw_aload_n (pc' := 1) d_M_readRuns_0 rfl rfl ?_
  obtain ⟨r19, hr19, hf⟩ := aw_bind hf
  refine aw_callVv (pc' := 4) (av := []) d_M_readRuns_1 rfl wc_M_148 hM_0 (mM_nextGamma hr19) (Or.inl rfl) rfl (by decide) (Nat.le_of_ble_eq_true rfl) ⟨(Nat.le_refl 0), (Nat.le_refl 0)⟩ ?_
  refine aw_istore_n (pc' := 5) (L' := [some (.ref 0), some (.int l1), some (.int l2), some (.int r19.1), none, none, none, none]) d_M_readRuns_4 rfl (by decide) rfl ?_
  refine aw_iconst (pc' := 6) d_M_readRuns_5 rfl kc_ic_0 ?_
  refine aw_istore (pc' := 8) (L' := [some (.ref 0), some (.int l1), some (.int l2), some (.int r19.1), some (.int (0 : Int32)), none, none, none]) d_M_readRuns_6 rfl (by decide) rfl ?_
  refine aw_iconst (pc' := 9) d_M_readRuns_8 rfl kc_ic_0 ?_
  refine aw_istore (pc' := 11) (L' := [some (.ref 0), some (.int l1), some (.int l2), some (.int r19.1), some (.int (0 : Int32)), some (.int (0 : Int32)), none, none]) d_M_readRuns_9 rfl (by decide) rfl ?_
  exact aw_weak [true, true, true, true, true, true, false, false] rfl (wM_readRuns_11 _ _ _ _ _ _ _ hf)
set_option maxRecDepth 20000 in
theorem wM_readIntervals_172 {N : Nat} {r0 : (Int32 × me_M)} (l4 : Int32) (μ : me_M) (hf : fM_readIntervals_172 N l4 μ = some r0) : AW "ArcTapeModel" "readIntervals" c_M_readIntervals 11 (some .int) 3 0 0 0 (aw_is (some (.int r0.1)) (hM  r0.2)) 172 [none, none, none, none, some (.int l4), none, none, none, none, none, none] [] (hM  μ) 0 0 := by
  unfold fM_readIntervals_172 at hf
  refine aw_iload (pc' := 174) d_M_readIntervals_172 rfl rfl ?_
  cases hf
  exact aw_ireturn rfl d_M_readIntervals_174 (Nat.le_refl 0) (Nat.le_refl 0) ⟨rfl, rfl⟩
set_option maxRecDepth 20000 in
theorem wM_readIntervals_166 {N : Nat} {r0 : (Int32 × me_M)} {k14 : Int32 → Int32 → Int32 → Int32 → Int32 → Int32 → me_M → Option (Int32 × me_M)} (hk14 : ∀ (l1 : Int32) (l2 : Int32) (l3 : Int32) (l4 : Int32) (l5 : Int32) (l6 : Int32) (μ : me_M), k14 l1 l2 l3 l4 l5 l6 μ = some r0 → AW "ArcTapeModel" "readIntervals" c_M_readIntervals 11 (some .int) 3 0 0 0 (aw_is (some (.int r0.1)) (hM  r0.2)) 14 [some (.ref 0), some (.int l1), some (.int l2), some (.int l3), some (.int l4), some (.int l5), some (.int l6), none, none, none, none] [] (hM  μ) 0 0) (l1 : Int32) (l2 : Int32) (l3 : Int32) (l4 : Int32) (l5 : Int32) (l6 : Int32) (μ : me_M) (hf : fM_readIntervals_166 N k14 l1 l2 l3 l4 l5 l6 μ = some r0) : AW "ArcTapeModel" "readIntervals" c_M_readIntervals 11 (some .int) 3 0 0 0 (aw_is (some (.int r0.1)) (hM  r0.2)) 166 [some (.ref 0), some (.int l1), some (.int l2), some (.int l3), some (.int l4), some (.int l5), some (.int l6), none, none, none, none] [] (hM  μ) 0 0 := by
  unfold fM_readIntervals_166 at hf
  refine aw_iinc (pc' := 169) (L' := [some (.ref 0), some (.int l1), some (.int l2), some (.int l3), some (.int l4), some (.int l5), some (.int (l6 + (1 : Int32))), none, none, none, none]) d_M_readIntervals_166 rfl kc_ic_1 rfl (by decide) rfl ?_
  refine aw_goto (tgt := 14) d_M_readIntervals_169 (by decide) ?_
  exact aw_weak [true, true, true, true, true, true, true, false, false, false, false] rfl (hk14 _ _ _ _ _ _ _ hf)
set_option maxRecDepth 20000 in
theorem wM_readIntervals_140b {N : Nat} {r0 : (Int32 × me_M)} {k14 : Int32 → Int32 → Int32 → Int32 → Int32 → Int32 → me_M → Option (Int32 × me_M)} (hk14 : ∀ (l1 : Int32) (l2 : Int32) (l3 : Int32) (l4 : Int32) (l5 : Int32) (l6 : Int32) (μ : me_M), k14 l1 l2 l3 l4 l5 l6 μ = some r0 → AW "ArcTapeModel" "readIntervals" c_M_readIntervals 11 (some .int) 3 0 0 0 (aw_is (some (.int r0.1)) (hM  r0.2)) 14 [some (.ref 0), some (.int l1), some (.int l2), some (.int l3), some (.int l4), some (.int l5), some (.int l6), none, none, none, none] [] (hM  μ) 0 0) {k140 : Int32 → Int32 → Int32 → Int32 → Int32 → Int32 → Int32 → me_M → Option (Int32 × me_M)} (hk140 : ∀ (l1 : Int32) (l2 : Int32) (l3 : Int32) (l4 : Int32) (l5 : Int32) (l6 : Int32) (l10 : Int32) (μ : me_M), k140 l1 l2 l3 l4 l5 l6 l10 μ = some r0 → AW "ArcTapeModel" "readIntervals" c_M_readIntervals 11 (some .int) 3 0 0 0 (aw_is (some (.int r0.1)) (hM  r0.2)) 140 [some (.ref 0), some (.int l1), some (.int l2), some (.int l3), some (.int l4), some (.int l5), some (.int l6), none, none, none, some (.int l10)] [] (hM  μ) 0 0) (l1 : Int32) (l2 : Int32) (l3 : Int32) (l4 : Int32) (l5 : Int32) (l6 : Int32) (l10 : Int32) (μ : me_M) (hf : fM_readIntervals_140b N k14 k140 l1 l2 l3 l4 l5 l6 l10 μ = some r0) : AW "ArcTapeModel" "readIntervals" c_M_readIntervals 11 (some .int) 3 0 0 0 (aw_is (some (.int r0.1)) (hM  r0.2)) 140 [some (.ref 0), some (.int l1), some (.int l2), some (.int l3), some (.int l4), some (.int l5), some (.int l6), none, none, none, some (.int l10)] [] (hM  μ) 0 0 := by
  unfold fM_readIntervals_140b at hf
  refine aw_iload (pc' := 142) d_M_readIntervals_140 rfl rfl ?_
  refine aw_iload (pc' := 144) d_M_readIntervals_142 rfl rfl ?_
  refine aw_icmp_gt (tgt := 166) (pc' := 147) d_M_readIntervals_144 (by decide) rfl (fun c1 => ?_) (fun c1 => ?_)
  · replace hf := aw_ifp c1 hf
    exact aw_weak [true, true, true, true, true, true, true, false, false, false, false] rfl (wM_readIntervals_166 hk14 _ _ _ _ _ _ _ hf)
  · replace hf := aw_ifn c1 hf
    refine aw_aload_n (pc' := 148) d_M_readIntervals_147 rfl rfl ?_
    refine aw_get (pc' := 151) d_M_readIntervals_148 rfl fl_M_125 hM_0 rfl ?_
    refine aw_if_ne (tgt := 166) (pc' := 154) d_M_readIntervals_151 (by decide) rfl (fun c2 => ?_) (fun c2 => ?_)
    · replace hf := aw_ifn c2 hf
      exact aw_weak [true, true, true, true, true, true, true, false, false, false, false] rfl (wM_readIntervals_166 hk14 _ _ _ _ _ _ _ hf)
    · replace hf := aw_ifp c2 hf
      refine aw_aload_n (pc' := 155) d_M_readIntervals_154 rfl rfl ?_
      refine aw_iload (pc' := 157) d_M_readIntervals_155 rfl rfl ?_
      obtain ⟨r3, hr3, hf⟩ := aw_bind hf
      refine aw_callVn (pc' := 160) (av := [.int l10]) d_M_readIntervals_157 rfl wc_M_155 hM_0 (mM_take hr3) (Or.inl rfl) rfl (by decide) (Nat.le_of_ble_eq_true rfl) ⟨(Nat.le_refl 0), (Nat.le_refl 0)⟩ ?_
      refine aw_iinc (pc' := 163) (L' := [some (.ref 0), some (.int l1), some (.int l2), some (.int l3), some (.int l4), some (.int l5), some (.int l6), none, none, none, some (.int (l10 + (1 : Int32)))]) d_M_readIntervals_160 rfl kc_ic_1 rfl (by decide) rfl ?_
      refine aw_goto (tgt := 140) d_M_readIntervals_163 (by decide) ?_
      exact aw_weak [true, true, true, true, true, true, true, false, false, false, true] rfl (hk140 _ _ _ _ _ _ _ _ hf)
set_option maxRecDepth 20000 in
theorem wM_readIntervals_140 {N : Nat} {r0 : (Int32 × me_M)} {k14 : Int32 → Int32 → Int32 → Int32 → Int32 → Int32 → me_M → Option (Int32 × me_M)} (hk14 : ∀ (l1 : Int32) (l2 : Int32) (l3 : Int32) (l4 : Int32) (l5 : Int32) (l6 : Int32) (μ : me_M), k14 l1 l2 l3 l4 l5 l6 μ = some r0 → AW "ArcTapeModel" "readIntervals" c_M_readIntervals 11 (some .int) 3 0 0 0 (aw_is (some (.int r0.1)) (hM  r0.2)) 14 [some (.ref 0), some (.int l1), some (.int l2), some (.int l3), some (.int l4), some (.int l5), some (.int l6), none, none, none, none] [] (hM  μ) 0 0) : ∀ (F : Nat) (l1 : Int32) (l2 : Int32) (l3 : Int32) (l4 : Int32) (l5 : Int32) (l6 : Int32) (l10 : Int32) (μ : me_M) (hf : fM_readIntervals_140 N k14 F l1 l2 l3 l4 l5 l6 l10 μ = some r0), AW "ArcTapeModel" "readIntervals" c_M_readIntervals 11 (some .int) 3 0 0 0 (aw_is (some (.int r0.1)) (hM  r0.2)) 140 [some (.ref 0), some (.int l1), some (.int l2), some (.int l3), some (.int l4), some (.int l5), some (.int l6), none, none, none, some (.int l10)] [] (hM  μ) 0 0 := by
  intro F
  induction F with
  | zero => intro l1 l2 l3 l4 l5 l6 l10 μ hf; exact aw_no hf
  | succ F ih => intro l1 l2 l3 l4 l5 l6 l10 μ hf; exact wM_readIntervals_140b hk14 ih l1 l2 l3 l4 l5 l6 l10 μ hf
set_option maxRecDepth 20000 in
theorem wM_readIntervals_136 {N : Nat} {r0 : (Int32 × me_M)} {k14 : Int32 → Int32 → Int32 → Int32 → Int32 → Int32 → me_M → Option (Int32 × me_M)} (hk14 : ∀ (l1 : Int32) (l2 : Int32) (l3 : Int32) (l4 : Int32) (l5 : Int32) (l6 : Int32) (μ : me_M), k14 l1 l2 l3 l4 l5 l6 μ = some r0 → AW "ArcTapeModel" "readIntervals" c_M_readIntervals 11 (some .int) 3 0 0 0 (aw_is (some (.int r0.1)) (hM  r0.2)) 14 [some (.ref 0), some (.int l1), some (.int l2), some (.int l3), some (.int l4), some (.int l5), some (.int l6), none, none, none, none] [] (hM  μ) 0 0) (l1 : Int32) (l2 : Int32) (l3 : Int32) (l4 : Int32) (l5 : Int32) (l6 : Int32) (l8 : Int32) (μ : me_M) (hf : fM_readIntervals_136 N k14 l1 l2 l3 l4 l5 l6 l8 μ = some r0) : AW "ArcTapeModel" "readIntervals" c_M_readIntervals 11 (some .int) 3 0 0 0 (aw_is (some (.int r0.1)) (hM  r0.2)) 136 [some (.ref 0), some (.int l1), some (.int l2), some (.int l3), some (.int l4), some (.int l5), some (.int l6), none, some (.int l8), none, none] [] (hM  μ) 0 0 := by
  unfold fM_readIntervals_136 at hf
  refine aw_iload (pc' := 138) d_M_readIntervals_136 rfl rfl ?_
  refine aw_istore (pc' := 140) (L' := [some (.ref 0), some (.int l1), some (.int l2), some (.int l3), some (.int l4), some (.int l5), some (.int l6), none, some (.int l8), none, some (.int l8)]) d_M_readIntervals_138 rfl (by decide) rfl ?_
  exact aw_weak [true, true, true, true, true, true, true, false, false, false, true] rfl (wM_readIntervals_140 hk14 _ _ _ _ _ _ _ _ _ hf)
set_option maxRecDepth 20000 in
theorem wM_readIntervals_130 {N : Nat} {r0 : (Int32 × me_M)} {k14 : Int32 → Int32 → Int32 → Int32 → Int32 → Int32 → me_M → Option (Int32 × me_M)} (hk14 : ∀ (l1 : Int32) (l2 : Int32) (l3 : Int32) (l4 : Int32) (l5 : Int32) (l6 : Int32) (μ : me_M), k14 l1 l2 l3 l4 l5 l6 μ = some r0 → AW "ArcTapeModel" "readIntervals" c_M_readIntervals 11 (some .int) 3 0 0 0 (aw_is (some (.int r0.1)) (hM  r0.2)) 14 [some (.ref 0), some (.int l1), some (.int l2), some (.int l3), some (.int l4), some (.int l5), some (.int l6), none, none, none, none] [] (hM  μ) 0 0) (l1 : Int32) (l2 : Int32) (l3 : Int32) (l4 : Int32) (l5 : Int32) (l6 : Int32) (l8 : Int32) (μ : me_M) (hf : fM_readIntervals_130 N k14 l1 l2 l3 l4 l5 l6 l8 μ = some r0) : AW "ArcTapeModel" "readIntervals" c_M_readIntervals 11 (some .int) 3 0 0 0 (aw_is (some (.int r0.1)) (hM  r0.2)) 130 [some (.ref 0), some (.int l1), some (.int l2), some (.int l3), some (.int l4), some (.int l5), some (.int l6), none, some (.int l8), none, none] [] (hM  μ) 0 0 := by
  unfold fM_readIntervals_130 at hf
  refine aw_aload_n (pc' := 131) d_M_readIntervals_130 rfl rfl ?_
  refine aw_bipush (pc' := 133) d_M_readIntervals_131 rfl kc_bi_7 ?_
  refine aw_puti (pc' := 136) (h' := (hM  (me_wi μ 112 0 (7 : Int32)))) d_M_readIntervals_133 rfl fp_M_125 hM_0 (Nat.le_of_ble_eq_true rfl) rfl ?_
  exact aw_weak [true, true, true, true, true, true, true, false, true, false, false] rfl (wM_readIntervals_136 hk14 _ _ _ _ _ _ _ _ hf)
set_option maxRecDepth 20000 in
theorem wM_readIntervals_79 {N : Nat} {r0 : (Int32 × me_M)} {k14 : Int32 → Int32 → Int32 → Int32 → Int32 → Int32 → me_M → Option (Int32 × me_M)} (hk14 : ∀ (l1 : Int32) (l2 : Int32) (l3 : Int32) (l4 : Int32) (l5 : Int32) (l6 : Int32) (μ : me_M), k14 l1 l2 l3 l4 l5 l6 μ = some r0 → AW "ArcTapeModel" "readIntervals" c_M_readIntervals 11 (some .int) 3 0 0 0 (aw_is (some (.int r0.1)) (hM  r0.2)) 14 [some (.ref 0), some (.int l1), some (.int l2), some (.int l3), some (.int l4), some (.int l5), some (.int l6), none, none, none, none] [] (hM  μ) 0 0) (l1 : Int32) (l2 : Int32) (l3 : Int32) (l4 : Int32) (l6 : Int32) (l8 : Int32) (μ : me_M) (hf : fM_readIntervals_79 N k14 l1 l2 l3 l4 l6 l8 μ = some r0) : AW "ArcTapeModel" "readIntervals" c_M_readIntervals 11 (some .int) 3 0 0 0 (aw_is (some (.int r0.1)) (hM  r0.2)) 79 [some (.ref 0), some (.int l1), some (.int l2), some (.int l3), some (.int l4), none, some (.int l6), none, some (.int l8), none, none] [] (hM  μ) 0 0 := by
  unfold fM_readIntervals_79 at hf
  refine aw_aload_n (pc' := 80) d_M_readIntervals_79 rfl rfl ?_
  obtain ⟨r4, hr4, hf⟩ := aw_bind hf
  refine aw_callVv (pc' := 83) (av := []) d_M_readIntervals_80 rfl wc_M_148 hM_0 (mM_nextGamma hr4) (Or.inl rfl) rfl (by decide) (Nat.le_of_ble_eq_true rfl) ⟨(Nat.le_refl 0), (Nat.le_refl 0)⟩ ?_
  refine aw_aload_n (pc' := 84) d_M_readIntervals_83 rfl rfl ?_
  refine aw_get (pc' := 87) d_M_readIntervals_84 rfl fl_M_92 hM_0 rfl ?_
  refine aw_iadd (pc' := 88) d_M_readIntervals_87 rfl ?_
  refine aw_istore (pc' := 90) (L' := [some (.ref 0), some (.int l1), some (.int l2), some (.int l3), some (.int l4), none, some (.int l6), none, some (.int l8), some (.int (r4.1 + (r4.2.1 107 0))), none]) d_M_readIntervals_88 rfl (by decide) rfl ?_
  refine aw_iload (pc' := 92) d_M_readIntervals_90 rfl rfl ?_
  refine aw_iload (pc' := 94) d_M_readIntervals_92 rfl rfl ?_
  refine aw_iadd (pc' := 95) d_M_readIntervals_94 rfl ?_
  refine aw_iconst (pc' := 96) d_M_readIntervals_95 rfl kc_ic_1 ?_
  refine aw_isub (pc' := 97) d_M_readIntervals_96 rfl ?_
  refine aw_istore (pc' := 99) (L' := [some (.ref 0), some (.int l1), some (.int l2), some (.int l3), some (.int l4), some (.int ((l8 + (r4.1 + (r4.2.1 107 0))) - (1 : Int32))), some (.int l6), none, some (.int l8), some (.int (r4.1 + (r4.2.1 107 0))), none]) d_M_readIntervals_97 rfl (by decide) rfl ?_
  refine aw_iload (pc' := 101) d_M_readIntervals_99 rfl rfl ?_
  refine aw_iload (pc' := 103) d_M_readIntervals_101 rfl rfl ?_
  refine aw_iadd (pc' := 104) d_M_readIntervals_103 rfl ?_
  refine aw_istore (pc' := 106) (L' := [some (.ref 0), some (.int l1), some (.int l2), some (.int l3), some (.int (l4 + (r4.1 + (r4.2.1 107 0)))), some (.int ((l8 + (r4.1 + (r4.2.1 107 0))) - (1 : Int32))), some (.int l6), none, some (.int l8), some (.int (r4.1 + (r4.2.1 107 0))), none]) d_M_readIntervals_104 rfl (by decide) rfl ?_
  refine aw_aload_n (pc' := 107) d_M_readIntervals_106 rfl rfl ?_
  refine aw_get (pc' := 110) d_M_readIntervals_107 rfl fl_M_125 hM_0 rfl ?_
  refine aw_if_ne (tgt := 136) (pc' := 113) d_M_readIntervals_110 (by decide) rfl (fun c5 => ?_) (fun c5 => ?_)
  · replace hf := aw_ifn c5 hf
    exact aw_weak [true, true, true, true, true, true, true, false, true, false, false] rfl (wM_readIntervals_136 hk14 _ _ _ _ _ _ _ _ hf)
  · replace hf := aw_ifp c5 hf
    refine aw_iload (pc' := 115) d_M_readIntervals_113 rfl rfl ?_
    refine aw_aload_n (pc' := 116) d_M_readIntervals_115 rfl rfl ?_
    refine aw_get (pc' := 119) d_M_readIntervals_116 rfl fl_M_56 hM_0 rfl ?_
    refine aw_iconst (pc' := 120) d_M_readIntervals_119 rfl kc_ic_1 ?_
    refine aw_isub (pc' := 121) d_M_readIntervals_120 rfl ?_
    refine aw_icmp_gt (tgt := 130) (pc' := 124) d_M_readIntervals_121 (by decide) rfl (fun c6 => ?_) (fun c6 => ?_)
    · replace hf := aw_ifp c6 hf
      exact aw_weak [true, true, true, true, true, true, true, false, true, false, false] rfl (wM_readIntervals_130 hk14 _ _ _ _ _ _ _ _ hf)
    · replace hf := aw_ifn c6 hf
      refine aw_iload (pc' := 126) d_M_readIntervals_124 rfl rfl ?_
      refine aw_iload_n (pc' := 127) d_M_readIntervals_126 rfl rfl ?_
      refine aw_icmp_le (tgt := 136) (pc' := 130) d_M_readIntervals_127 (by decide) rfl (fun c7 => ?_) (fun c7 => ?_)
      · replace hf := aw_ifp c7 hf
        exact aw_weak [true, true, true, true, true, true, true, false, true, false, false] rfl (wM_readIntervals_136 hk14 _ _ _ _ _ _ _ _ hf)
      · replace hf := aw_ifn c7 hf
        exact aw_weak [true, true, true, true, true, true, true, false, true, false, false] rfl (wM_readIntervals_130 hk14 _ _ _ _ _ _ _ _ hf)
set_option maxRecDepth 20000 in
theorem wM_readIntervals_55 {N : Nat} {r0 : (Int32 × me_M)} {k14 : Int32 → Int32 → Int32 → Int32 → Int32 → Int32 → me_M → Option (Int32 × me_M)} (hk14 : ∀ (l1 : Int32) (l2 : Int32) (l3 : Int32) (l4 : Int32) (l5 : Int32) (l6 : Int32) (μ : me_M), k14 l1 l2 l3 l4 l5 l6 μ = some r0 → AW "ArcTapeModel" "readIntervals" c_M_readIntervals 11 (some .int) 3 0 0 0 (aw_is (some (.int r0.1)) (hM  r0.2)) 14 [some (.ref 0), some (.int l1), some (.int l2), some (.int l3), some (.int l4), some (.int l5), some (.int l6), none, none, none, none] [] (hM  μ) 0 0) (l1 : Int32) (l2 : Int32) (l3 : Int32) (l4 : Int32) (l6 : Int32) (s0 : Int32) (μ : me_M) (hf : fM_readIntervals_55 N k14 l1 l2 l3 l4 l6 s0 μ = some r0) : AW "ArcTapeModel" "readIntervals" c_M_readIntervals 11 (some .int) 3 0 0 0 (aw_is (some (.int r0.1)) (hM  r0.2)) 55 [some (.ref 0), some (.int l1), some (.int l2), some (.int l3), some (.int l4), none, some (.int l6), none, none, none, none] [.int s0] (hM  μ) 0 0 := by
  unfold fM_readIntervals_55 at hf
  refine aw_istore (pc' := 57) (L' := [some (.ref 0), some (.int l1), some (.int l2), some (.int l3), some (.int l4), none, some (.int l6), none, some (.int s0), none, none]) d_M_readIntervals_55 rfl (by decide) rfl ?_
  refine aw_aload_n (pc' := 58) d_M_readIntervals_57 rfl rfl ?_
  refine aw_get (pc' := 61) d_M_readIntervals_58 rfl fl_M_125 hM_0 rfl ?_
  refine aw_if_ne (tgt := 79) (pc' := 64) d_M_readIntervals_61 (by decide) rfl (fun c8 => ?_) (fun c8 => ?_)
  · replace hf := aw_ifn c8 hf
    exact aw_weak [true, true, true, true, true, false, true, false, true, false, false] rfl (wM_readIntervals_79 hk14 _ _ _ _ _ _ _ hf)
  · replace hf := aw_ifp c8 hf
    refine aw_aload_n (pc' := 65) d_M_readIntervals_64 rfl rfl ?_
    refine aw_iload (pc' := 67) d_M_readIntervals_65 rfl rfl ?_
    obtain ⟨r9, hr9, hf⟩ := aw_bind hf
    refine aw_callVv (pc' := 70) (av := [.int s0]) d_M_readIntervals_67 rfl wc_M_68 hM_0 (mM_node hr9) (Or.inl rfl) rfl (by decide) (Nat.le_of_ble_eq_true rfl) ⟨(Nat.le_refl 0), (Nat.le_refl 0)⟩ ?_
    refine aw_if_ne (tgt := 79) (pc' := 73) d_M_readIntervals_70 (by decide) rfl (fun c10 => ?_) (fun c10 => ?_)
    · replace hf := aw_ifn c10 hf
      exact aw_weak [true, true, true, true, true, false, true, false, true, false, false] rfl (wM_readIntervals_79 hk14 _ _ _ _ _ _ _ hf)
    · replace hf := aw_ifp c10 hf
      refine aw_aload_n (pc' := 74) d_M_readIntervals_73 rfl rfl ?_
      refine aw_bipush (pc' := 76) d_M_readIntervals_74 rfl kc_bi_7 ?_
      refine aw_puti (pc' := 79) (h' := (hM  (me_wi μ 112 0 (7 : Int32)))) d_M_readIntervals_76 rfl fp_M_125 hM_0 (Nat.le_of_ble_eq_true rfl) rfl ?_
      exact aw_weak [true, true, true, true, true, false, true, false, true, false, false] rfl (wM_readIntervals_79 hk14 _ _ _ _ _ _ _ hf)
set_option maxRecDepth 20000 in
theorem wM_readIntervals_14b {N : Nat} {r0 : (Int32 × me_M)} {k14 : Int32 → Int32 → Int32 → Int32 → Int32 → Int32 → me_M → Option (Int32 × me_M)} (hk14 : ∀ (l1 : Int32) (l2 : Int32) (l3 : Int32) (l4 : Int32) (l5 : Int32) (l6 : Int32) (μ : me_M), k14 l1 l2 l3 l4 l5 l6 μ = some r0 → AW "ArcTapeModel" "readIntervals" c_M_readIntervals 11 (some .int) 3 0 0 0 (aw_is (some (.int r0.1)) (hM  r0.2)) 14 [some (.ref 0), some (.int l1), some (.int l2), some (.int l3), some (.int l4), some (.int l5), some (.int l6), none, none, none, none] [] (hM  μ) 0 0) (l1 : Int32) (l2 : Int32) (l3 : Int32) (l4 : Int32) (l5 : Int32) (l6 : Int32) (μ : me_M) (hf : fM_readIntervals_14b N k14 l1 l2 l3 l4 l5 l6 μ = some r0) : AW "ArcTapeModel" "readIntervals" c_M_readIntervals 11 (some .int) 3 0 0 0 (aw_is (some (.int r0.1)) (hM  r0.2)) 14 [some (.ref 0), some (.int l1), some (.int l2), some (.int l3), some (.int l4), some (.int l5), some (.int l6), none, none, none, none] [] (hM  μ) 0 0 := by
  unfold fM_readIntervals_14b at hf
  refine aw_iload (pc' := 16) d_M_readIntervals_14 rfl rfl ?_
  refine aw_iload_n (pc' := 17) d_M_readIntervals_16 rfl rfl ?_
  refine aw_icmp_ge (tgt := 172) (pc' := 20) d_M_readIntervals_17 (by decide) rfl (fun c11 => ?_) (fun c11 => ?_)
  · replace hf := aw_ifp c11 hf
    exact aw_weak [false, false, false, false, true, false, false, false, false, false, false] rfl (wM_readIntervals_172 _ _ hf)
  · replace hf := aw_ifn c11 hf
    refine aw_aload_n (pc' := 21) d_M_readIntervals_20 rfl rfl ?_
    refine aw_get (pc' := 24) d_M_readIntervals_21 rfl fl_M_125 hM_0 rfl ?_
    refine aw_if_ne (tgt := 172) (pc' := 27) d_M_readIntervals_24 (by decide) rfl (fun c12 => ?_) (fun c12 => ?_)
    · replace hf := aw_ifn c12 hf
      exact aw_weak [false, false, false, false, true, false, false, false, false, false, false] rfl (wM_readIntervals_172 _ _ hf)
    · replace hf := aw_ifp c12 hf
      refine aw_aload_n (pc' := 28) d_M_readIntervals_27 rfl rfl ?_
      obtain ⟨r13, hr13, hf⟩ := aw_bind hf
      refine aw_callVv (pc' := 31) (av := []) d_M_readIntervals_28 rfl wc_M_148 hM_0 (mM_nextGamma hr13) (Or.inl rfl) rfl (by decide) (Nat.le_of_ble_eq_true rfl) ⟨(Nat.le_refl 0), (Nat.le_refl 0)⟩ ?_
      refine aw_istore (pc' := 33) (L' := [some (.ref 0), some (.int l1), some (.int l2), some (.int l3), some (.int l4), some (.int l5), some (.int l6), some (.int r13.1), none, none, none]) d_M_readIntervals_31 rfl (by decide) rfl ?_
      refine aw_iload (pc' := 35) d_M_readIntervals_33 rfl rfl ?_
      refine aw_if_ne (tgt := 48) (pc' := 38) d_M_readIntervals_35 (by decide) rfl (fun c14 => ?_) (fun c14 => ?_)
      · replace hf := aw_ifn c14 hf
        refine aw_iload (pc' := 50) d_M_readIntervals_48 rfl rfl ?_
        refine aw_iconst (pc' := 51) d_M_readIntervals_50 rfl kc_ic_2 ?_
        refine aw_iadd (pc' := 52) d_M_readIntervals_51 rfl ?_
        refine aw_iload (pc' := 54) d_M_readIntervals_52 rfl rfl ?_
        refine aw_iadd (pc' := 55) d_M_readIntervals_54 rfl ?_
        exact aw_weak [true, true, true, true, true, false, true, false, false, false, false] rfl (wM_readIntervals_55 hk14 _ _ _ _ _ _ _ hf)
      · replace hf := aw_ifp c14 hf
        refine aw_iload_n (pc' := 39) d_M_readIntervals_38 rfl rfl ?_
        refine aw_iload (pc' := 41) d_M_readIntervals_39 rfl rfl ?_
        obtain ⟨r15, hr15, hf⟩ := aw_bind hf
        refine aw_callSv (pc' := 44) (av := [.int r13.1]) d_M_readIntervals_41 rfl wc_M_158 (mM_whole hr15) (Or.inl rfl) rfl (by decide) (Nat.le_of_ble_eq_true rfl) ⟨(Nat.le_refl 0), (Nat.le_refl 0)⟩ ?_
        refine aw_iadd (pc' := 45) d_M_readIntervals_44 rfl ?_
        refine aw_goto (tgt := 55) d_M_readIntervals_45 (by decide) ?_
        exact aw_weak [true, true, true, true, true, false, true, false, false, false, false] rfl (wM_readIntervals_55 hk14 _ _ _ _ _ _ _ hf)
set_option maxRecDepth 20000 in
theorem wM_readIntervals_14 {N : Nat} {r0 : (Int32 × me_M)} : ∀ (F : Nat) (l1 : Int32) (l2 : Int32) (l3 : Int32) (l4 : Int32) (l5 : Int32) (l6 : Int32) (μ : me_M) (hf : fM_readIntervals_14 N F l1 l2 l3 l4 l5 l6 μ = some r0), AW "ArcTapeModel" "readIntervals" c_M_readIntervals 11 (some .int) 3 0 0 0 (aw_is (some (.int r0.1)) (hM  r0.2)) 14 [some (.ref 0), some (.int l1), some (.int l2), some (.int l3), some (.int l4), some (.int l5), some (.int l6), none, none, none, none] [] (hM  μ) 0 0 := by
  intro F
  induction F with
  | zero => intro l1 l2 l3 l4 l5 l6 μ hf; exact aw_no hf
  | succ F ih => intro l1 l2 l3 l4 l5 l6 μ hf; exact wM_readIntervals_14b ih l1 l2 l3 l4 l5 l6 μ hf
set_option maxRecDepth 20000 in
theorem mM_readIntervals {N : Nat} {μ : me_M} {r0 : (Int32 × me_M)} {l1 : Int32} {l2 : Int32} (hf : fM_readIntervals N l1 l2 μ = some r0) : AM y_M_readIntervals c_M_readIntervals 11 (some .int) 3 0 0 0 [.ref 0, .int l1, .int l2] (hM  μ) (aw_is (some (.int r0.1)) (hM  r0.2)) := by
  unfold fM_readIntervals at hf
  refine AM.of (own := "ArcTapeModel") (nm := "readIntervals") (L := [some (.ref 0), some (.int l1), some (.int l2), none, none, none, none, none, none, none, none]) rfl rfl (by decide) (Nat.le_of_ble_eq_true rfl) rfl ?_
  refine aw_aload_n (pc' := 1) d_M_readIntervals_0 rfl rfl ?_
  obtain ⟨r16, hr16, hf⟩ := aw_bind hf
  refine aw_callVv (pc' := 4) (av := []) d_M_readIntervals_1 rfl wc_M_148 hM_0 (mM_nextGamma hr16) (Or.inl rfl) rfl (by decide) (Nat.le_of_ble_eq_true rfl) ⟨(Nat.le_refl 0), (Nat.le_refl 0)⟩ ?_
  refine aw_istore_n (pc' := 5) (L' := [some (.ref 0), some (.int l1), some (.int l2), some (.int r16.1), none, none, none, none, none, none, none]) d_M_readIntervals_4 rfl (by decide) rfl ?_
  refine aw_iconst (pc' := 6) d_M_readIntervals_5 rfl kc_ic_0 ?_
  refine aw_istore (pc' := 8) (L' := [some (.ref 0), some (.int l1), some (.int l2), some (.int r16.1), some (.int (0 : Int32)), none, none, none, none, none, none]) d_M_readIntervals_6 rfl (by decide) rfl ?_
  refine aw_iconst (pc' := 9) d_M_readIntervals_8 rfl kc_ic_0 ?_
  refine aw_istore (pc' := 11) (L' := [some (.ref 0), some (.int l1), some (.int l2), some (.int r16.1), some (.int (0 : Int32)), some (.int (0 : Int32)), none, none, none, none, none]) d_M_readIntervals_9 rfl (by decide) rfl ?_
  refine aw_iconst (pc' := 12) d_M_readIntervals_11 rfl kc_ic_0 ?_
  refine aw_istore (pc' := 14) (L' := [some (.ref 0), some (.int l1), some (.int l2), some (.int r16.1), some (.int (0 : Int32)), some (.int (0 : Int32)), some (.int (0 : Int32)), none, none, none, none]) d_M_readIntervals_12 rfl (by decide) rfl ?_
  exact aw_weak [true, true, true, true, true, true, true, false, false, false, false] rfl (wM_readIntervals_14 _ _ _ _ _ _ _ _ hf)
set_option maxRecDepth 20000 in
theorem wM_readParts_273 {N : Nat} {r0 : me_M} (μ : me_M) (hf : fM_readParts_273 N μ = some r0) : AW "ArcTapeModel" "readParts" c_M_readParts 10 none 4 0 0 0 (aw_is none (hM  r0)) 273 [none, none, none, none, none, none, none, none, none, none] [] (hM  μ) 0 0 := by
  unfold fM_readParts_273 at hf
  cases hf
  exact aw_return rfl d_M_readParts_273 (Nat.le_refl 0) (Nat.le_refl 0) ⟨rfl, rfl⟩
set_option maxRecDepth 20000 in
theorem wM_readParts_263 {N : Nat} {r0 : me_M} {k184 : Int32 → Int32 → Int32 → Int32 → me_M → Option me_M} (hk184 : ∀ (l1 : Int32) (l5 : Int32) (l6 : Int32) (l7 : Int32) (μ : me_M), k184 l1 l5 l6 l7 μ = some r0 → AW "ArcTapeModel" "readParts" c_M_readParts 10 none 4 0 0 0 (aw_is none (hM  r0)) 184 [some (.ref 0), some (.int l1), none, none, none, some (.int l5), some (.int l6), some (.int l7), none, none] [] (hM  μ) 0 0) (l1 : Int32) (l5 : Int32) (l7 : Int32) (l9 : Int32) (μ : me_M) (hf : fM_readParts_263 N k184 l1 l5 l7 l9 μ = some r0) : AW "ArcTapeModel" "readParts" c_M_readParts 10 none 4 0 0 0 (aw_is none (hM  r0)) 263 [some (.ref 0), some (.int l1), none, none, none, some (.int l5), none, some (.int l7), none, some (.int l9)] [] (hM  μ) 0 0 := by
  unfold fM_readParts_263 at hf
  refine aw_iload (pc' := 265) d_M_readParts_263 rfl rfl ?_
  refine aw_istore (pc' := 267) (L' := [some (.ref 0), some (.int l1), none, none, none, some (.int l5), some (.int l9), some (.int l7), none, some (.int l9)]) d_M_readParts_265 rfl (by decide) rfl ?_
  refine aw_iinc (pc' := 270) (L' := [some (.ref 0), some (.int l1), none, none, none, some (.int l5), some (.int l9), some (.int (l7 + (1 : Int32))), none, some (.int l9)]) d_M_readParts_267 rfl kc_ic_1 rfl (by decide) rfl ?_
  refine aw_goto (tgt := 184) d_M_readParts_270 (by decide) ?_
  exact aw_weak [true, true, false, false, false, true, true, true, false, false] rfl (hk184 _ _ _ _ _ hf)
set_option maxRecDepth 20000 in
theorem wM_readParts_250 {N : Nat} {r0 : me_M} {k184 : Int32 → Int32 → Int32 → Int32 → me_M → Option me_M} (hk184 : ∀ (l1 : Int32) (l5 : Int32) (l6 : Int32) (l7 : Int32) (μ : me_M), k184 l1 l5 l6 l7 μ = some r0 → AW "ArcTapeModel" "readParts" c_M_readParts 10 none 4 0 0 0 (aw_is none (hM  r0)) 184 [some (.ref 0), some (.int l1), none, none, none, some (.int l5), some (.int l6), some (.int l7), none, none] [] (hM  μ) 0 0) (l1 : Int32) (l5 : Int32) (l7 : Int32) (l9 : Int32) (μ : me_M) (hf : fM_readParts_250 N k184 l1 l5 l7 l9 μ = some r0) : AW "ArcTapeModel" "readParts" c_M_readParts 10 none 4 0 0 0 (aw_is none (hM  r0)) 250 [some (.ref 0), some (.int l1), none, none, none, some (.int l5), none, some (.int l7), none, some (.int l9)] [] (hM  μ) 0 0 := by
  unfold fM_readParts_250 at hf
  refine aw_aload_n (pc' := 251) d_M_readParts_250 rfl rfl ?_
  refine aw_get (pc' := 254) d_M_readParts_251 rfl fl_M_125 hM_0 rfl ?_
  refine aw_if_ne (tgt := 263) (pc' := 257) d_M_readParts_254 (by decide) rfl (fun c1 => ?_) (fun c1 => ?_)
  · replace hf := aw_ifn c1 hf
    exact aw_weak [true, true, false, false, false, true, false, true, false, true] rfl (wM_readParts_263 hk184 _ _ _ _ _ hf)
  · replace hf := aw_ifp c1 hf
    refine aw_aload_n (pc' := 258) d_M_readParts_257 rfl rfl ?_
    refine aw_iload (pc' := 260) d_M_readParts_258 rfl rfl ?_
    obtain ⟨r2, hr2, hf⟩ := aw_bind hf
    refine aw_callVn (pc' := 263) (av := [.int l9]) d_M_readParts_260 rfl wc_M_155 hM_0 (mM_take hr2) (Or.inl rfl) rfl (by decide) (Nat.le_of_ble_eq_true rfl) ⟨(Nat.le_refl 0), (Nat.le_refl 0)⟩ ?_
    exact aw_weak [true, true, false, false, false, true, false, true, false, true] rfl (wM_readParts_263 hk184 _ _ _ _ _ hf)
set_option maxRecDepth 20000 in
theorem wM_readParts_226 {N : Nat} {r0 : me_M} {k184 : Int32 → Int32 → Int32 → Int32 → me_M → Option me_M} (hk184 : ∀ (l1 : Int32) (l5 : Int32) (l6 : Int32) (l7 : Int32) (μ : me_M), k184 l1 l5 l6 l7 μ = some r0 → AW "ArcTapeModel" "readParts" c_M_readParts 10 none 4 0 0 0 (aw_is none (hM  r0)) 184 [some (.ref 0), some (.int l1), none, none, none, some (.int l5), some (.int l6), some (.int l7), none, none] [] (hM  μ) 0 0) (l1 : Int32) (l5 : Int32) (l7 : Int32) (s0 : Int32) (μ : me_M) (hf : fM_readParts_226 N k184 l1 l5 l7 s0 μ = some r0) : AW "ArcTapeModel" "readParts" c_M_readParts 10 none 4 0 0 0 (aw_is none (hM  r0)) 226 [some (.ref 0), some (.int l1), none, none, none, some (.int l5), none, some (.int l7), none, none] [.int s0] (hM  μ) 0 0 := by
  unfold fM_readParts_226 at hf
  refine aw_istore (pc' := 228) (L' := [some (.ref 0), some (.int l1), none, none, none, some (.int l5), none, some (.int l7), none, some (.int s0)]) d_M_readParts_226 rfl (by decide) rfl ?_
  refine aw_aload_n (pc' := 229) d_M_readParts_228 rfl rfl ?_
  refine aw_get (pc' := 232) d_M_readParts_229 rfl fl_M_125 hM_0 rfl ?_
  refine aw_if_ne (tgt := 250) (pc' := 235) d_M_readParts_232 (by decide) rfl (fun c3 => ?_) (fun c3 => ?_)
  · replace hf := aw_ifn c3 hf
    exact aw_weak [true, true, false, false, false, true, false, true, false, true] rfl (wM_readParts_250 hk184 _ _ _ _ _ hf)
  · replace hf := aw_ifp c3 hf
    refine aw_aload_n (pc' := 236) d_M_readParts_235 rfl rfl ?_
    refine aw_iload (pc' := 238) d_M_readParts_236 rfl rfl ?_
    obtain ⟨r4, hr4, hf⟩ := aw_bind hf
    refine aw_callVv (pc' := 241) (av := [.int s0]) d_M_readParts_238 rfl wc_M_68 hM_0 (mM_node hr4) (Or.inl rfl) rfl (by decide) (Nat.le_of_ble_eq_true rfl) ⟨(Nat.le_refl 0), (Nat.le_refl 0)⟩ ?_
    refine aw_if_ne (tgt := 250) (pc' := 244) d_M_readParts_241 (by decide) rfl (fun c5 => ?_) (fun c5 => ?_)
    · replace hf := aw_ifn c5 hf
      exact aw_weak [true, true, false, false, false, true, false, true, false, true] rfl (wM_readParts_250 hk184 _ _ _ _ _ hf)
    · replace hf := aw_ifp c5 hf
      refine aw_aload_n (pc' := 245) d_M_readParts_244 rfl rfl ?_
      refine aw_bipush (pc' := 247) d_M_readParts_245 rfl kc_bi_8 ?_
      refine aw_puti (pc' := 250) (h' := (hM  (me_wi μ 112 0 (8 : Int32)))) d_M_readParts_247 rfl fp_M_125 hM_0 (Nat.le_of_ble_eq_true rfl) rfl ?_
      exact aw_weak [true, true, false, false, false, true, false, true, false, true] rfl (wM_readParts_250 hk184 _ _ _ _ _ hf)
set_option maxRecDepth 20000 in
theorem wM_readParts_184b {N : Nat} {r0 : me_M} {k184 : Int32 → Int32 → Int32 → Int32 → me_M → Option me_M} (hk184 : ∀ (l1 : Int32) (l5 : Int32) (l6 : Int32) (l7 : Int32) (μ : me_M), k184 l1 l5 l6 l7 μ = some r0 → AW "ArcTapeModel" "readParts" c_M_readParts 10 none 4 0 0 0 (aw_is none (hM  r0)) 184 [some (.ref 0), some (.int l1), none, none, none, some (.int l5), some (.int l6), some (.int l7), none, none] [] (hM  μ) 0 0) (l1 : Int32) (l5 : Int32) (l6 : Int32) (l7 : Int32) (μ : me_M) (hf : fM_readParts_184b N k184 l1 l5 l6 l7 μ = some r0) : AW "ArcTapeModel" "readParts" c_M_readParts 10 none 4 0 0 0 (aw_is none (hM  r0)) 184 [some (.ref 0), some (.int l1), none, none, none, some (.int l5), some (.int l6), some (.int l7), none, none] [] (hM  μ) 0 0 := by
  unfold fM_readParts_184b at hf
  refine aw_iload (pc' := 186) d_M_readParts_184 rfl rfl ?_
  refine aw_iload (pc' := 188) d_M_readParts_186 rfl rfl ?_
  refine aw_icmp_ge (tgt := 273) (pc' := 191) d_M_readParts_188 (by decide) rfl (fun c6 => ?_) (fun c6 => ?_)
  · replace hf := aw_ifp c6 hf
    exact aw_weak [false, false, false, false, false, false, false, false, false, false] rfl (wM_readParts_273 _ hf)
  · replace hf := aw_ifn c6 hf
    refine aw_aload_n (pc' := 192) d_M_readParts_191 rfl rfl ?_
    refine aw_get (pc' := 195) d_M_readParts_192 rfl fl_M_125 hM_0 rfl ?_
    refine aw_if_ne (tgt := 273) (pc' := 198) d_M_readParts_195 (by decide) rfl (fun c7 => ?_) (fun c7 => ?_)
    · replace hf := aw_ifn c7 hf
      exact aw_weak [false, false, false, false, false, false, false, false, false, false] rfl (wM_readParts_273 _ hf)
    · replace hf := aw_ifp c7 hf
      refine aw_aload_n (pc' := 199) d_M_readParts_198 rfl rfl ?_
      obtain ⟨r8, hr8, hf⟩ := aw_bind hf
      refine aw_callVv (pc' := 202) (av := []) d_M_readParts_199 rfl wc_M_167 hM_0 (mM_nextZeta hr8) (Or.inl rfl) rfl (by decide) (Nat.le_of_ble_eq_true rfl) ⟨(Nat.le_refl 0), (Nat.le_refl 0)⟩ ?_
      refine aw_istore (pc' := 204) (L' := [some (.ref 0), some (.int l1), none, none, none, some (.int l5), some (.int l6), some (.int l7), some (.int r8.1), none]) d_M_readParts_202 rfl (by decide) rfl ?_
      refine aw_iload (pc' := 206) d_M_readParts_204 rfl rfl ?_
      refine aw_if_ne (tgt := 219) (pc' := 209) d_M_readParts_206 (by decide) rfl (fun c9 => ?_) (fun c9 => ?_)
      · replace hf := aw_ifn c9 hf
        refine aw_iload (pc' := 221) d_M_readParts_219 rfl rfl ?_
        refine aw_iconst (pc' := 222) d_M_readParts_221 rfl kc_ic_1 ?_
        refine aw_iadd (pc' := 223) d_M_readParts_222 rfl ?_
        refine aw_iload (pc' := 225) d_M_readParts_223 rfl rfl ?_
        refine aw_iadd (pc' := 226) d_M_readParts_225 rfl ?_
        exact aw_weak [true, true, false, false, false, true, false, true, false, false] rfl (wM_readParts_226 hk184 _ _ _ _ _ hf)
      · replace hf := aw_ifp c9 hf
        refine aw_iload_n (pc' := 210) d_M_readParts_209 rfl rfl ?_
        refine aw_iload (pc' := 212) d_M_readParts_210 rfl rfl ?_
        obtain ⟨r10, hr10, hf⟩ := aw_bind hf
        refine aw_callSv (pc' := 215) (av := [.int r8.1]) d_M_readParts_212 rfl wc_M_158 (mM_whole hr10) (Or.inl rfl) rfl (by decide) (Nat.le_of_ble_eq_true rfl) ⟨(Nat.le_refl 0), (Nat.le_refl 0)⟩ ?_
        refine aw_iadd (pc' := 216) d_M_readParts_215 rfl ?_
        refine aw_goto (tgt := 226) d_M_readParts_216 (by decide) ?_
        exact aw_weak [true, true, false, false, false, true, false, true, false, false] rfl (wM_readParts_226 hk184 _ _ _ _ _ hf)
set_option maxRecDepth 20000 in
theorem wM_readParts_184 {N : Nat} {r0 : me_M} : ∀ (F : Nat) (l1 : Int32) (l5 : Int32) (l6 : Int32) (l7 : Int32) (μ : me_M) (hf : fM_readParts_184 N F l1 l5 l6 l7 μ = some r0), AW "ArcTapeModel" "readParts" c_M_readParts 10 none 4 0 0 0 (aw_is none (hM  r0)) 184 [some (.ref 0), some (.int l1), none, none, none, some (.int l5), some (.int l6), some (.int l7), none, none] [] (hM  μ) 0 0 := by
  intro F
  induction F with
  | zero => intro l1 l5 l6 l7 μ hf; exact aw_no hf
  | succ F ih => intro l1 l5 l6 l7 μ hf; exact wM_readParts_184b ih l1 l5 l6 l7 μ hf
set_option maxRecDepth 20000 in
theorem wM_readParts_176 {N : Nat} {r0 : me_M} (l1 : Int32) (s0 : Int32) (μ : me_M) (hf : fM_readParts_176 N l1 s0 μ = some r0) : AW "ArcTapeModel" "readParts" c_M_readParts 10 none 4 0 0 0 (aw_is none (hM  r0)) 176 [some (.ref 0), some (.int l1), none, none, none, none, none, none, none, none] [.int s0] (hM  μ) 0 0 := by
  unfold fM_readParts_176 at hf
  refine aw_istore (pc' := 178) (L' := [some (.ref 0), some (.int l1), none, none, none, some (.int s0), none, none, none, none]) d_M_readParts_176 rfl (by decide) rfl ?_
  refine aw_iconst (pc' := 179) d_M_readParts_178 rfl kc_ic_0 ?_
  refine aw_istore (pc' := 181) (L' := [some (.ref 0), some (.int l1), none, none, none, some (.int s0), some (.int (0 : Int32)), none, none, none]) d_M_readParts_179 rfl (by decide) rfl ?_
  refine aw_iconst (pc' := 182) d_M_readParts_181 rfl kc_ic_0 ?_
  refine aw_istore (pc' := 184) (L' := [some (.ref 0), some (.int l1), none, none, none, some (.int s0), some (.int (0 : Int32)), some (.int (0 : Int32)), none, none]) d_M_readParts_182 rfl (by decide) rfl ?_
  exact aw_weak [true, true, false, false, false, true, true, true, false, false] rfl (wM_readParts_184 _ _ _ _ _ _ hf)
set_option maxRecDepth 20000 in
theorem wM_readParts_153 {N : Nat} {r0 : me_M} (μ : me_M) (hf : fM_readParts_153 N μ = some r0) : AW "ArcTapeModel" "readParts" c_M_readParts 10 none 4 0 0 0 (aw_is none (hM  r0)) 153 [none, none, none, none, none, none, none, none, none, none] [] (hM  μ) 0 0 := by
  unfold fM_readParts_153 at hf
  cases hf
  exact aw_return rfl d_M_readParts_153 (Nat.le_refl 0) (Nat.le_refl 0) ⟨rfl, rfl⟩
set_option maxRecDepth 20000 in
theorem wM_readParts_130 {N : Nat} {r0 : me_M} (l1 : Int32) (l2 : Int32) (μ : me_M) (hf : fM_readParts_130 N l1 l2 μ = some r0) : AW "ArcTapeModel" "readParts" c_M_readParts 10 none 4 0 0 0 (aw_is none (hM  r0)) 130 [some (.ref 0), some (.int l1), some (.int l2), none, none, none, none, none, none, none] [] (hM  μ) 0 0 := by
  unfold fM_readParts_130 at hf
  refine aw_iload_n (pc' := 131) d_M_readParts_130 rfl rfl ?_
  refine aw_aload_n (pc' := 132) d_M_readParts_131 rfl rfl ?_
  refine aw_get (pc' := 135) d_M_readParts_132 rfl fl_M_145 hM_0 rfl ?_
  obtain ⟨r11, hr11, hf⟩ := aw_bind hf
  refine aw_callSv (pc' := 138) (av := [.int (μ.1 113 0)]) d_M_readParts_135 rfl wc_M_106 (mM_ones hr11) (Or.inl rfl) rfl (by decide) (Nat.le_of_ble_eq_true rfl) ⟨(Nat.le_refl 0), (Nat.le_refl 0)⟩ ?_
  refine aw_isub (pc' := 139) d_M_readParts_138 rfl ?_
  refine aw_istore (pc' := 141) (L' := [some (.ref 0), some (.int l1), some (.int l2), none, some (.int (l2 - r11)), none, none, none, none, none]) d_M_readParts_139 rfl (by decide) rfl ?_
  refine aw_aload_n (pc' := 142) d_M_readParts_141 rfl rfl ?_
  refine aw_get (pc' := 145) d_M_readParts_142 rfl fl_M_125 hM_0 rfl ?_
  refine aw_if_gt (tgt := 153) (pc' := 148) d_M_readParts_145 (by decide) rfl (fun c12 => ?_) (fun c12 => ?_)
  · replace hf := aw_ifp c12 hf
    exact aw_weak [false, false, false, false, false, false, false, false, false, false] rfl (wM_readParts_153 _ hf)
  · replace hf := aw_ifn c12 hf
    refine aw_iload (pc' := 150) d_M_readParts_148 rfl rfl ?_
    refine aw_if_ne (tgt := 154) (pc' := 153) d_M_readParts_150 (by decide) rfl (fun c13 => ?_) (fun c13 => ?_)
    · replace hf := aw_ifn c13 hf
      refine aw_aload_n (pc' := 155) d_M_readParts_154 rfl rfl ?_
      refine aw_get (pc' := 158) d_M_readParts_155 rfl fl_M_92 hM_0 rfl ?_
      refine aw_if_le (tgt := 174) (pc' := 161) d_M_readParts_158 (by decide) rfl (fun c14 => ?_) (fun c14 => ?_)
      · replace hf := aw_ifp c14 hf
        refine aw_iload (pc' := 176) d_M_readParts_174 rfl rfl ?_
        exact aw_weak [true, true, false, false, false, false, false, false, false, false] rfl (wM_readParts_176 _ _ _ hf)
      · replace hf := aw_ifn c14 hf
        refine aw_iload (pc' := 163) d_M_readParts_161 rfl rfl ?_
        refine aw_aload_n (pc' := 164) d_M_readParts_163 rfl rfl ?_
        refine aw_iload_n (pc' := 165) d_M_readParts_164 rfl rfl ?_
        refine aw_iload (pc' := 167) d_M_readParts_165 rfl rfl ?_
        obtain ⟨r15, hr15, hf⟩ := aw_bind hf
        refine aw_callVv (pc' := 170) (av := [.int l1, .int (l2 - r11)]) d_M_readParts_167 rfl wc_M_164 hM_0 (mM_readIntervals hr15) (Or.inl rfl) rfl (by decide) (Nat.le_of_ble_eq_true rfl) ⟨(Nat.le_refl 0), (Nat.le_refl 0)⟩ ?_
        refine aw_isub (pc' := 171) d_M_readParts_170 rfl ?_
        refine aw_goto (tgt := 176) d_M_readParts_171 (by decide) ?_
        exact aw_weak [true, true, false, false, false, false, false, false, false, false] rfl (wM_readParts_176 _ _ _ hf)
    · replace hf := aw_ifp c13 hf
      exact aw_weak [false, false, false, false, false, false, false, false, false, false] rfl (wM_readParts_153 _ hf)
set_option maxRecDepth 20000 in
theorem wM_readParts_83 {N : Nat} {r0 : me_M} (l1 : Int32) (l2 : Int32) (l3 : Int32) (μ : me_M) (hf : fM_readParts_83 N l1 l2 l3 μ = some r0) : AW "ArcTapeModel" "readParts" c_M_readParts 10 none 4 0 0 0 (aw_is none (hM  r0)) 83 [some (.ref 0), some (.int l1), some (.int l2), some (.int l3), none, none, none, none, none, none] [] (hM  μ) 0 0 := by
  unfold fM_readParts_83 at hf
  refine aw_aload_n (pc' := 84) d_M_readParts_83 rfl rfl ?_
  refine aw_get (pc' := 87) d_M_readParts_84 rfl fl_M_125 hM_0 rfl ?_
  refine aw_if_ne (tgt := 130) (pc' := 90) d_M_readParts_87 (by decide) rfl (fun c16 => ?_) (fun c16 => ?_)
  · replace hf := aw_ifn c16 hf
    exact aw_weak [true, true, true, false, false, false, false, false, false, false] rfl (wM_readParts_130 _ _ _ hf)
  · replace hf := aw_ifp c16 hf
    refine aw_iload_n (pc' := 91) d_M_readParts_90 rfl rfl ?_
    refine aw_if_le (tgt := 130) (pc' := 94) d_M_readParts_91 (by decide) rfl (fun c17 => ?_) (fun c17 => ?_)
    · replace hf := aw_ifp c17 hf
      exact aw_weak [true, true, true, false, false, false, false, false, false, false] rfl (wM_readParts_130 _ _ _ hf)
    · replace hf := aw_ifn c17 hf
      refine aw_aload_n (pc' := 95) d_M_readParts_94 rfl rfl ?_
      refine aw_get (pc' := 98) d_M_readParts_95 rfl fl_M_31 hM_0 rfl ?_
      refine aw_iload_n (pc' := 99) d_M_readParts_98 rfl rfl ?_
      refine aw_iload_n (pc' := 100) d_M_readParts_99 rfl rfl ?_
      obtain ⟨g18, hf⟩ := aw_gi hf
      refine aw_iast (pc' := 101) (h' := (hM  (me_wi μ 8 l1.toNatClampNeg l3))) d_M_readParts_100 rfl rfl hM_8 g18 rfl ?_
      refine aw_aload_n (pc' := 102) d_M_readParts_101 rfl rfl ?_
      refine aw_get (pc' := 105) d_M_readParts_102 rfl fl_M_34 hM_0 rfl ?_
      refine aw_iload_n (pc' := 106) d_M_readParts_105 rfl rfl ?_
      refine aw_iconst (pc' := 107) d_M_readParts_106 rfl kc_ic_1 ?_
      refine aw_aload_n (pc' := 108) d_M_readParts_107 rfl rfl ?_
      refine aw_get (pc' := 111) d_M_readParts_108 rfl fl_M_34 hM_0 rfl ?_
      refine aw_iload_n (pc' := 112) d_M_readParts_111 rfl rfl ?_
      refine aw_iload_n (pc' := 113) d_M_readParts_112 rfl rfl ?_
      refine aw_isub (pc' := 114) d_M_readParts_113 rfl ?_
      obtain ⟨g19, hf⟩ := aw_gi hf
      refine aw_iald (pc' := 115) d_M_readParts_114 rfl rfl hM_9 g19 ?_
      refine aw_iadd (pc' := 116) d_M_readParts_115 rfl ?_
      obtain ⟨g20, hf⟩ := aw_gi hf
      refine aw_iast (pc' := 117) (h' := (hM  (me_wi (me_wi μ 8 l1.toNatClampNeg l3) 9 l1.toNatClampNeg ((1 : Int32) + ((me_wi μ 8 l1.toNatClampNeg l3).1 9 (l1 - l3).toNatClampNeg))))) d_M_readParts_116 rfl rfl hM_9 g20 rfl ?_
      refine aw_aload_n (pc' := 118) d_M_readParts_117 rfl rfl ?_
      refine aw_aload_n (pc' := 119) d_M_readParts_118 rfl rfl ?_
      refine aw_get (pc' := 122) d_M_readParts_119 rfl fl_M_25 hM_0 rfl ?_
      refine aw_iload_n (pc' := 123) d_M_readParts_122 rfl rfl ?_
      refine aw_iload_n (pc' := 124) d_M_readParts_123 rfl rfl ?_
      refine aw_isub (pc' := 125) d_M_readParts_124 rfl ?_
      obtain ⟨g21, hf⟩ := aw_gi hf
      refine aw_iald (pc' := 126) d_M_readParts_125 rfl rfl hM_6 g21 ?_
      refine aw_iload_n (pc' := 127) d_M_readParts_126 rfl rfl ?_
      obtain ⟨r22, hr22, hf⟩ := aw_bind hf
      refine aw_callVn (pc' := 130) (av := [.int ((me_wi (me_wi μ 8 l1.toNatClampNeg l3) 9 l1.toNatClampNeg ((1 : Int32) + ((me_wi μ 8 l1.toNatClampNeg l3).1 9 (l1 - l3).toNatClampNeg))).1 6 (l1 - l3).toNatClampNeg), .int l2]) d_M_readParts_127 rfl wc_M_161 hM_0 (mM_readRuns hr22) (Or.inl rfl) rfl (by decide) (Nat.le_of_ble_eq_true rfl) ⟨(Nat.le_refl 0), (Nat.le_refl 0)⟩ ?_
      exact aw_weak [true, true, true, false, false, false, false, false, false, false] rfl (wM_readParts_130 _ _ _ hf)
set_option maxRecDepth 20000 in
theorem wM_readParts_78 {N : Nat} {r0 : me_M} (l1 : Int32) (l2 : Int32) (l3 : Int32) (μ : me_M) (hf : fM_readParts_78 N l1 l2 l3 μ = some r0) : AW "ArcTapeModel" "readParts" c_M_readParts 10 none 4 0 0 0 (aw_is none (hM  r0)) 78 [some (.ref 0), some (.int l1), some (.int l2), some (.int l3), none, none, none, none, none, none] [] (hM  μ) 0 0 := by
  unfold fM_readParts_78 at hf
  refine aw_aload_n (pc' := 79) d_M_readParts_78 rfl rfl ?_
  refine aw_iconst (pc' := 80) d_M_readParts_79 rfl kc_ic_5 ?_
  refine aw_puti (pc' := 83) (h' := (hM  (me_wi μ 112 0 (5 : Int32)))) d_M_readParts_80 rfl fp_M_125 hM_0 (Nat.le_of_ble_eq_true rfl) rfl ?_
  exact aw_weak [true, true, true, true, false, false, false, false, false, false] rfl (wM_readParts_83 _ _ _ _ hf)
set_option maxRecDepth 20000 in
theorem wM_readParts_41 {N : Nat} {r0 : me_M} (l1 : Int32) (l2 : Int32) (l3 : Int32) (μ : me_M) (hf : fM_readParts_41 N l1 l2 l3 μ = some r0) : AW "ArcTapeModel" "readParts" c_M_readParts 10 none 4 0 0 0 (aw_is none (hM  r0)) 41 [some (.ref 0), some (.int l1), some (.int l2), some (.int l3), none, none, none, none, none, none] [] (hM  μ) 0 0 := by
  unfold fM_readParts_41 at hf
  refine aw_aload_n (pc' := 42) d_M_readParts_41 rfl rfl ?_
  refine aw_get (pc' := 45) d_M_readParts_42 rfl fl_M_125 hM_0 rfl ?_
  refine aw_if_ne (tgt := 83) (pc' := 48) d_M_readParts_45 (by decide) rfl (fun c23 => ?_) (fun c23 => ?_)
  · replace hf := aw_ifn c23 hf
    exact aw_weak [true, true, true, true, false, false, false, false, false, false] rfl (wM_readParts_83 _ _ _ _ hf)
  · replace hf := aw_ifp c23 hf
    refine aw_iload_n (pc' := 49) d_M_readParts_48 rfl rfl ?_
    refine aw_if_le (tgt := 83) (pc' := 52) d_M_readParts_49 (by decide) rfl (fun c24 => ?_) (fun c24 => ?_)
    · replace hf := aw_ifp c24 hf
      exact aw_weak [true, true, true, true, false, false, false, false, false, false] rfl (wM_readParts_83 _ _ _ _ hf)
    · replace hf := aw_ifn c24 hf
      refine aw_aload_n (pc' := 53) d_M_readParts_52 rfl rfl ?_
      refine aw_get (pc' := 56) d_M_readParts_53 rfl fl_M_28 hM_0 rfl ?_
      refine aw_iload_n (pc' := 57) d_M_readParts_56 rfl rfl ?_
      refine aw_iload_n (pc' := 58) d_M_readParts_57 rfl rfl ?_
      refine aw_isub (pc' := 59) d_M_readParts_58 rfl ?_
      obtain ⟨g25, hf⟩ := aw_gi hf
      refine aw_iald (pc' := 60) d_M_readParts_59 rfl rfl hM_7 g25 ?_
      refine aw_if_gt (tgt := 78) (pc' := 63) d_M_readParts_60 (by decide) rfl (fun c26 => ?_) (fun c26 => ?_)
      · replace hf := aw_ifp c26 hf
        exact aw_weak [true, true, true, true, false, false, false, false, false, false] rfl (wM_readParts_78 _ _ _ _ hf)
      · replace hf := aw_ifn c26 hf
        refine aw_aload_n (pc' := 64) d_M_readParts_63 rfl rfl ?_
        refine aw_get (pc' := 67) d_M_readParts_64 rfl fl_M_34 hM_0 rfl ?_
        refine aw_iload_n (pc' := 68) d_M_readParts_67 rfl rfl ?_
        refine aw_iload_n (pc' := 69) d_M_readParts_68 rfl rfl ?_
        refine aw_isub (pc' := 70) d_M_readParts_69 rfl ?_
        obtain ⟨g27, hf⟩ := aw_gi hf
        refine aw_iald (pc' := 71) d_M_readParts_70 rfl rfl hM_9 g27 ?_
        refine aw_aload_n (pc' := 72) d_M_readParts_71 rfl rfl ?_
        refine aw_get (pc' := 75) d_M_readParts_72 rfl fl_M_118 hM_0 rfl ?_
        refine aw_icmp_lt (tgt := 83) (pc' := 78) d_M_readParts_75 (by decide) rfl (fun c28 => ?_) (fun c28 => ?_)
        · replace hf := aw_ifp c28 hf
          exact aw_weak [true, true, true, true, false, false, false, false, false, false] rfl (wM_readParts_83 _ _ _ _ hf)
        · replace hf := aw_ifn c28 hf
          exact aw_weak [true, true, true, true, false, false, false, false, false, false] rfl (wM_readParts_78 _ _ _ _ hf)
set_option maxRecDepth 20000 in
theorem wM_readParts_36 {N : Nat} {r0 : me_M} (l1 : Int32) (l2 : Int32) (l3 : Int32) (μ : me_M) (hf : fM_readParts_36 N l1 l2 l3 μ = some r0) : AW "ArcTapeModel" "readParts" c_M_readParts 10 none 4 0 0 0 (aw_is none (hM  r0)) 36 [some (.ref 0), some (.int l1), some (.int l2), some (.int l3), none, none, none, none, none, none] [] (hM  μ) 0 0 := by
  unfold fM_readParts_36 at hf
  refine aw_aload_n (pc' := 37) d_M_readParts_36 rfl rfl ?_
  refine aw_iconst (pc' := 38) d_M_readParts_37 rfl kc_ic_4 ?_
  refine aw_puti (pc' := 41) (h' := (hM  (me_wi μ 112 0 (4 : Int32)))) d_M_readParts_38 rfl fp_M_125 hM_0 (Nat.le_of_ble_eq_true rfl) rfl ?_
  exact aw_weak [true, true, true, true, false, false, false, false, false, false] rfl (wM_readParts_41 _ _ _ _ hf)
set_option maxRecDepth 20000 in
theorem wM_readParts_15 {N : Nat} {r0 : me_M} (l1 : Int32) (l2 : Int32) (s0 : Int32) (μ : me_M) (hf : fM_readParts_15 N l1 l2 s0 μ = some r0) : AW "ArcTapeModel" "readParts" c_M_readParts 10 none 4 0 0 0 (aw_is none (hM  r0)) 15 [some (.ref 0), some (.int l1), some (.int l2), none, none, none, none, none, none, none] [.int s0] (hM  μ) 0 0 := by
  unfold fM_readParts_15 at hf
  refine aw_istore_n (pc' := 16) (L' := [some (.ref 0), some (.int l1), some (.int l2), some (.int s0), none, none, none, none, none, none]) d_M_readParts_15 rfl (by decide) rfl ?_
  refine aw_aload_n (pc' := 17) d_M_readParts_16 rfl rfl ?_
  refine aw_get (pc' := 20) d_M_readParts_17 rfl fl_M_125 hM_0 rfl ?_
  refine aw_if_ne (tgt := 41) (pc' := 23) d_M_readParts_20 (by decide) rfl (fun c29 => ?_) (fun c29 => ?_)
  · replace hf := aw_ifn c29 hf
    exact aw_weak [true, true, true, true, false, false, false, false, false, false] rfl (wM_readParts_41 _ _ _ _ hf)
  · replace hf := aw_ifp c29 hf
    refine aw_iload_n (pc' := 24) d_M_readParts_23 rfl rfl ?_
    refine aw_aload_n (pc' := 25) d_M_readParts_24 rfl rfl ?_
    refine aw_get (pc' := 28) d_M_readParts_25 rfl fl_M_109 hM_0 rfl ?_
    refine aw_icmp_gt (tgt := 36) (pc' := 31) d_M_readParts_28 (by decide) rfl (fun c30 => ?_) (fun c30 => ?_)
    · replace hf := aw_ifp c30 hf
      exact aw_weak [true, true, true, true, false, false, false, false, false, false] rfl (wM_readParts_36 _ _ _ _ hf)
    · replace hf := aw_ifn c30 hf
      refine aw_iload_n (pc' := 32) d_M_readParts_31 rfl rfl ?_
      refine aw_iload_n (pc' := 33) d_M_readParts_32 rfl rfl ?_
      refine aw_icmp_le (tgt := 41) (pc' := 36) d_M_readParts_33 (by decide) rfl (fun c31 => ?_) (fun c31 => ?_)
      · replace hf := aw_ifp c31 hf
        exact aw_weak [true, true, true, true, false, false, false, false, false, false] rfl (wM_readParts_41 _ _ _ _ hf)
      · replace hf := aw_ifn c31 hf
        exact aw_weak [true, true, true, true, false, false, false, false, false, false] rfl (wM_readParts_36 _ _ _ _ hf)
set_option maxRecDepth 20000 in
theorem mM_readParts {N : Nat} {μ : me_M} {r0 : me_M} {l1 : Int32} {l2 : Int32} (hf : fM_readParts N l1 l2 μ = some r0) : AM y_M_readParts c_M_readParts 10 none 4 0 0 0 [.ref 0, .int l1, .int l2] (hM  μ) (aw_is none (hM  r0)) := by
  unfold fM_readParts at hf
  refine AM.of (own := "ArcTapeModel") (nm := "readParts") (L := [some (.ref 0), some (.int l1), some (.int l2), none, none, none, none, none, none, none]) rfl rfl (by decide) (Nat.le_of_ble_eq_true rfl) rfl ?_
  refine aw_aload_n (pc' := 1) d_M_readParts_0 rfl rfl ?_
  refine aw_get (pc' := 4) d_M_readParts_1 rfl fl_M_109 hM_0 rfl ?_
  refine aw_if_le (tgt := 14) (pc' := 7) d_M_readParts_4 (by decide) rfl (fun c32 => ?_) (fun c32 => ?_)
  · replace hf := aw_ifp c32 hf
    refine aw_iconst (pc' := 15) d_M_readParts_14 rfl kc_ic_0 ?_
    exact aw_weak [true, true, true, false, false, false, false, false, false, false] rfl (wM_readParts_15 _ _ _ _ hf)
  · replace hf := aw_ifn c32 hf
    refine aw_aload_n (pc' := 8) d_M_readParts_7 rfl rfl ?_
    obtain ⟨r33, hr33, hf⟩ := aw_bind hf
    refine aw_callVv (pc' := 11) (av := []) d_M_readParts_8 rfl wc_M_135 hM_0 (mM_nextUnary hr33) (Or.inl rfl) rfl (by decide) (Nat.le_of_ble_eq_true rfl) ⟨(Nat.le_refl 0), (Nat.le_refl 0)⟩ ?_
    refine aw_goto (tgt := 15) d_M_readParts_11 (by decide) ?_
    exact aw_weak [true, true, true, false, false, false, false, false, false, false] rfl (wM_readParts_15 _ _ _ _ hf)
set_option maxRecDepth 20000 in
theorem wM_read_176 {N : Nat} {r0 : me_M} (μ : me_M) (hf : fM_read_176 N μ = some r0) : AW "ArcTapeModel" "read" c_M_read 3 none 5 0 0 0 (aw_is none (hM  r0)) 176 [none, none, none] [] (hM  μ) 0 0 := by
  unfold fM_read_176 at hf
  cases hf
  exact aw_return rfl d_M_read_176 (Nat.le_refl 0) (Nat.le_refl 0) ⟨rfl, rfl⟩
set_option maxRecDepth 20000 in
theorem wM_read_169 {N : Nat} {r0 : me_M} {k2 : Int32 → me_M → Option me_M} (hk2 : ∀ (l1 : Int32) (μ : me_M), k2 l1 μ = some r0 → AW "ArcTapeModel" "read" c_M_read 3 none 5 0 0 0 (aw_is none (hM  r0)) 2 [some (.ref 0), some (.int l1), none] [] (hM  μ) 0 0) (l1 : Int32) (s1 : Int32) (s2 : Int32) (μ : me_M) (hf : fM_read_169 N k2 l1 s1 s2 μ = some r0) : AW "ArcTapeModel" "read" c_M_read 3 none 5 0 0 0 (aw_is none (hM  r0)) 169 [some (.ref 0), some (.int l1), none] [.int s2, .int s1, .ref 6] (hM  μ) 0 0 := by
  unfold fM_read_169 at hf
  obtain ⟨g1, hf⟩ := aw_gi hf
  refine aw_iast (pc' := 170) (h' := (hM  (me_wi μ 6 s1.toNatClampNeg s2))) d_M_read_169 rfl rfl hM_6 g1 rfl ?_
  refine aw_iinc (pc' := 173) (L' := [some (.ref 0), some (.int (l1 + (1 : Int32))), none]) d_M_read_170 rfl kc_ic_1 rfl (by decide) rfl ?_
  refine aw_goto (tgt := 2) d_M_read_173 (by decide) ?_
  exact aw_weak [true, true, false] rfl (hk2 _ _ hf)
set_option maxRecDepth 20000 in
theorem wM_read_139 {N : Nat} {r0 : me_M} {k2 : Int32 → me_M → Option me_M} (hk2 : ∀ (l1 : Int32) (μ : me_M), k2 l1 μ = some r0 → AW "ArcTapeModel" "read" c_M_read 3 none 5 0 0 0 (aw_is none (hM  r0)) 2 [some (.ref 0), some (.int l1), none] [] (hM  μ) 0 0) (l1 : Int32) (μ : me_M) (hf : fM_read_139 N k2 l1 μ = some r0) : AW "ArcTapeModel" "read" c_M_read 3 none 5 0 0 0 (aw_is none (hM  r0)) 139 [some (.ref 0), some (.int l1), none] [] (hM  μ) 0 0 := by
  unfold fM_read_139 at hf
  refine aw_aload_n (pc' := 140) d_M_read_139 rfl rfl ?_
  refine aw_get (pc' := 143) d_M_read_140 rfl fl_M_28 hM_0 rfl ?_
  refine aw_iload_n (pc' := 144) d_M_read_143 rfl rfl ?_
  refine aw_aload_n (pc' := 145) d_M_read_144 rfl rfl ?_
  refine aw_get (pc' := 148) d_M_read_145 rfl fl_M_125 hM_0 rfl ?_
  obtain ⟨g2, hf⟩ := aw_gi hf
  refine aw_iast (pc' := 149) (h' := (hM  (me_wi μ 7 l1.toNatClampNeg (μ.1 112 0)))) d_M_read_148 rfl rfl hM_7 g2 rfl ?_
  refine aw_aload_n (pc' := 150) d_M_read_149 rfl rfl ?_
  refine aw_get (pc' := 153) d_M_read_150 rfl fl_M_25 hM_0 rfl ?_
  refine aw_iload_n (pc' := 154) d_M_read_153 rfl rfl ?_
  refine aw_aload_n (pc' := 155) d_M_read_154 rfl rfl ?_
  refine aw_get (pc' := 158) d_M_read_155 rfl fl_M_125 hM_0 rfl ?_
  refine aw_if_le (tgt := 165) (pc' := 161) d_M_read_158 (by decide) rfl (fun c3 => ?_) (fun c3 => ?_)
  · replace hf := aw_ifp c3 hf
    refine aw_aload_n (pc' := 166) d_M_read_165 rfl rfl ?_
    refine aw_get (pc' := 169) d_M_read_166 rfl fl_M_145 hM_0 rfl ?_
    exact aw_weak [true, true, false] rfl (wM_read_169 hk2 _ _ _ _ hf)
  · replace hf := aw_ifn c3 hf
    refine aw_iconst (pc' := 162) d_M_read_161 rfl kc_ic_0 ?_
    refine aw_goto (tgt := 169) d_M_read_162 (by decide) ?_
    exact aw_weak [true, true, false] rfl (wM_read_169 hk2 _ _ _ _ hf)
set_option maxRecDepth 20000 in
theorem wM_read_111 {N : Nat} {r0 : me_M} {k2 : Int32 → me_M → Option me_M} (hk2 : ∀ (l1 : Int32) (μ : me_M), k2 l1 μ = some r0 → AW "ArcTapeModel" "read" c_M_read 3 none 5 0 0 0 (aw_is none (hM  r0)) 2 [some (.ref 0), some (.int l1), none] [] (hM  μ) 0 0) (l1 : Int32) (μ : me_M) (hf : fM_read_111 N k2 l1 μ = some r0) : AW "ArcTapeModel" "read" c_M_read 3 none 5 0 0 0 (aw_is none (hM  r0)) 111 [some (.ref 0), some (.int l1), none] [] (hM  μ) 0 0 := by
  unfold fM_read_111 at hf
  refine aw_aload_n (pc' := 112) d_M_read_111 rfl rfl ?_
  refine aw_get (pc' := 115) d_M_read_112 rfl fl_M_125 hM_0 rfl ?_
  refine aw_if_ne (tgt := 139) (pc' := 118) d_M_read_115 (by decide) rfl (fun c4 => ?_) (fun c4 => ?_)
  · replace hf := aw_ifn c4 hf
    exact aw_weak [true, true, false] rfl (wM_read_139 hk2 _ _ hf)
  · replace hf := aw_ifp c4 hf
    refine aw_aload_n (pc' := 119) d_M_read_118 rfl rfl ?_
    refine aw_get (pc' := 122) d_M_read_119 rfl fl_M_128 hM_0 rfl ?_
    refine aw_aload_n (pc' := 123) d_M_read_122 rfl rfl ?_
    refine aw_get (pc' := 126) d_M_read_123 rfl fl_M_16 hM_0 rfl ?_
    refine aw_iload_n (pc' := 127) d_M_read_126 rfl rfl ?_
    refine aw_iconst (pc' := 128) d_M_read_127 rfl kc_ic_1 ?_
    refine aw_iadd (pc' := 129) d_M_read_128 rfl ?_
    obtain ⟨g5, hf⟩ := aw_gi hf
    refine aw_iald (pc' := 130) d_M_read_129 rfl rfl hM_3 g5 ?_
    refine aw_icmp_eq (tgt := 139) (pc' := 133) d_M_read_130 (by decide) rfl (fun c6 => ?_) (fun c6 => ?_)
    · replace hf := aw_ifp c6 hf
      exact aw_weak [true, true, false] rfl (wM_read_139 hk2 _ _ hf)
    · replace hf := aw_ifn c6 hf
      refine aw_aload_n (pc' := 134) d_M_read_133 rfl rfl ?_
      refine aw_bipush (pc' := 136) d_M_read_134 rfl kc_bi_10 ?_
      refine aw_puti (pc' := 139) (h' := (hM  (me_wi μ 112 0 (10 : Int32)))) d_M_read_136 rfl fp_M_125 hM_0 (Nat.le_of_ble_eq_true rfl) rfl ?_
      exact aw_weak [true, true, false] rfl (wM_read_139 hk2 _ _ hf)
set_option maxRecDepth 20000 in
theorem wM_read_91 {N : Nat} {r0 : me_M} {k2 : Int32 → me_M → Option me_M} (hk2 : ∀ (l1 : Int32) (μ : me_M), k2 l1 μ = some r0 → AW "ArcTapeModel" "read" c_M_read 3 none 5 0 0 0 (aw_is none (hM  r0)) 2 [some (.ref 0), some (.int l1), none] [] (hM  μ) 0 0) (l1 : Int32) (μ : me_M) (hf : fM_read_91 N k2 l1 μ = some r0) : AW "ArcTapeModel" "read" c_M_read 3 none 5 0 0 0 (aw_is none (hM  r0)) 91 [some (.ref 0), some (.int l1), none] [] (hM  μ) 0 0 := by
  unfold fM_read_91 at hf
  refine aw_aload_n (pc' := 92) d_M_read_91 rfl rfl ?_
  refine aw_get (pc' := 95) d_M_read_92 rfl fl_M_125 hM_0 rfl ?_
  refine aw_if_ne (tgt := 111) (pc' := 98) d_M_read_95 (by decide) rfl (fun c7 => ?_) (fun c7 => ?_)
  · replace hf := aw_ifn c7 hf
    exact aw_weak [true, true, false] rfl (wM_read_111 hk2 _ _ hf)
  · replace hf := aw_ifp c7 hf
    refine aw_aload_n (pc' := 99) d_M_read_98 rfl rfl ?_
    refine aw_get (pc' := 102) d_M_read_99 rfl fl_M_141 hM_0 rfl ?_
    refine aw_if_eq (tgt := 111) (pc' := 105) d_M_read_102 (by decide) rfl (fun c8 => ?_) (fun c8 => ?_)
    · replace hf := aw_ifp c8 hf
      exact aw_weak [true, true, false] rfl (wM_read_111 hk2 _ _ hf)
    · replace hf := aw_ifn c8 hf
      refine aw_aload_n (pc' := 106) d_M_read_105 rfl rfl ?_
      refine aw_bipush (pc' := 108) d_M_read_106 rfl kc_bi_9 ?_
      refine aw_puti (pc' := 111) (h' := (hM  (me_wi μ 112 0 (9 : Int32)))) d_M_read_108 rfl fp_M_125 hM_0 (Nat.le_of_ble_eq_true rfl) rfl ?_
      exact aw_weak [true, true, false] rfl (wM_read_111 hk2 _ _ hf)
set_option maxRecDepth 20000 in
theorem wM_read_74 {N : Nat} {r0 : me_M} {k2 : Int32 → me_M → Option me_M} (hk2 : ∀ (l1 : Int32) (μ : me_M), k2 l1 μ = some r0 → AW "ArcTapeModel" "read" c_M_read 3 none 5 0 0 0 (aw_is none (hM  r0)) 2 [some (.ref 0), some (.int l1), none] [] (hM  μ) 0 0) (l1 : Int32) (l2 : Int32) (μ : me_M) (hf : fM_read_74 N k2 l1 l2 μ = some r0) : AW "ArcTapeModel" "read" c_M_read 3 none 5 0 0 0 (aw_is none (hM  r0)) 74 [some (.ref 0), some (.int l1), some (.int l2)] [] (hM  μ) 0 0 := by
  unfold fM_read_74 at hf
  refine aw_aload_n (pc' := 75) d_M_read_74 rfl rfl ?_
  refine aw_get (pc' := 78) d_M_read_75 rfl fl_M_125 hM_0 rfl ?_
  refine aw_if_ne (tgt := 91) (pc' := 81) d_M_read_78 (by decide) rfl (fun c9 => ?_) (fun c9 => ?_)
  · replace hf := aw_ifn c9 hf
    exact aw_weak [true, true, false] rfl (wM_read_91 hk2 _ _ hf)
  · replace hf := aw_ifp c9 hf
    refine aw_iload_n (pc' := 82) d_M_read_81 rfl rfl ?_
    refine aw_if_le (tgt := 91) (pc' := 85) d_M_read_82 (by decide) rfl (fun c10 => ?_) (fun c10 => ?_)
    · replace hf := aw_ifp c10 hf
      exact aw_weak [true, true, false] rfl (wM_read_91 hk2 _ _ hf)
    · replace hf := aw_ifn c10 hf
      refine aw_aload_n (pc' := 86) d_M_read_85 rfl rfl ?_
      refine aw_iload_n (pc' := 87) d_M_read_86 rfl rfl ?_
      refine aw_iload_n (pc' := 88) d_M_read_87 rfl rfl ?_
      obtain ⟨r11, hr11, hf⟩ := aw_bind hf
      refine aw_callVn (pc' := 91) (av := [.int l1, .int l2]) d_M_read_88 rfl wc_M_170 hM_0 (mM_readParts hr11) (Or.inl rfl) rfl (by decide) (Nat.le_of_ble_eq_true rfl) ⟨(Nat.le_refl 0), (Nat.le_refl 0)⟩ ?_
      exact aw_weak [true, true, false] rfl (wM_read_91 hk2 _ _ hf)
set_option maxRecDepth 20000 in
theorem wM_read_2b {N : Nat} {r0 : me_M} {k2 : Int32 → me_M → Option me_M} (hk2 : ∀ (l1 : Int32) (μ : me_M), k2 l1 μ = some r0 → AW "ArcTapeModel" "read" c_M_read 3 none 5 0 0 0 (aw_is none (hM  r0)) 2 [some (.ref 0), some (.int l1), none] [] (hM  μ) 0 0) (l1 : Int32) (μ : me_M) (hf : fM_read_2b N k2 l1 μ = some r0) : AW "ArcTapeModel" "read" c_M_read 3 none 5 0 0 0 (aw_is none (hM  r0)) 2 [some (.ref 0), some (.int l1), none] [] (hM  μ) 0 0 := by
  unfold fM_read_2b at hf
  refine aw_iload_n (pc' := 3) d_M_read_2 rfl rfl ?_
  refine aw_aload_n (pc' := 4) d_M_read_3 rfl rfl ?_
  refine aw_get (pc' := 7) d_M_read_4 rfl fl_M_56 hM_0 rfl ?_
  refine aw_icmp_ge (tgt := 176) (pc' := 10) d_M_read_7 (by decide) rfl (fun c12 => ?_) (fun c12 => ?_)
  · replace hf := aw_ifp c12 hf
    exact aw_weak [false, false, false] rfl (wM_read_176 _ hf)
  · replace hf := aw_ifn c12 hf
    refine aw_aload_n (pc' := 11) d_M_read_10 rfl rfl ?_
    refine aw_aload_n (pc' := 12) d_M_read_11 rfl rfl ?_
    refine aw_get (pc' := 15) d_M_read_12 rfl fl_M_16 hM_0 rfl ?_
    refine aw_iload_n (pc' := 16) d_M_read_15 rfl rfl ?_
    obtain ⟨g13, hf⟩ := aw_gi hf
    refine aw_iald (pc' := 17) d_M_read_16 rfl rfl hM_3 g13 ?_
    refine aw_puti (pc' := 20) (h' := (hM  (me_wi μ 111 0 (μ.1 3 l1.toNatClampNeg)))) d_M_read_17 rfl fp_M_128 hM_0 (Nat.le_of_ble_eq_true rfl) rfl ?_
    refine aw_aload_n (pc' := 21) d_M_read_20 rfl rfl ?_
    refine aw_iconst (pc' := 22) d_M_read_21 rfl kc_ic_0 ?_
    refine aw_puti (pc' := 25) (h' := (hM  (me_wi (me_wi μ 111 0 (μ.1 3 l1.toNatClampNeg)) 112 0 (0 : Int32)))) d_M_read_22 rfl fp_M_125 hM_0 (Nat.le_of_ble_eq_true rfl) rfl ?_
    refine aw_aload_n (pc' := 26) d_M_read_25 rfl rfl ?_
    refine aw_iconst (pc' := 27) d_M_read_26 rfl kc_ic_0 ?_
    refine aw_puti (pc' := 30) (h' := (hM  (me_wi (me_wi (me_wi μ 111 0 (μ.1 3 l1.toNatClampNeg)) 112 0 (0 : Int32)) 113 0 (0 : Int32)))) d_M_read_27 rfl fp_M_145 hM_0 (Nat.le_of_ble_eq_true rfl) rfl ?_
    refine aw_aload_n (pc' := 31) d_M_read_30 rfl rfl ?_
    refine aw_iconst (pc' := 32) d_M_read_31 rfl kc_ic_0 ?_
    refine aw_putz (pc' := 35) (h' := (hM  (me_wi (me_wi (me_wi (me_wi μ 111 0 (μ.1 3 l1.toNatClampNeg)) 112 0 (0 : Int32)) 113 0 (0 : Int32)) 114 0 (0 : Int32)))) d_M_read_32 rfl fp_M_141 ⟨rfl, rfl⟩ hM_0 (Nat.le_of_ble_eq_true rfl) rfl ?_
    refine aw_aload_n (pc' := 36) d_M_read_35 rfl rfl ?_
    refine aw_get (pc' := 39) d_M_read_36 rfl fl_M_31 hM_0 rfl ?_
    refine aw_iload_n (pc' := 40) d_M_read_39 rfl rfl ?_
    refine aw_iconst (pc' := 41) d_M_read_40 rfl kc_ic_0 ?_
    obtain ⟨g14, hf⟩ := aw_gi hf
    refine aw_iast (pc' := 42) (h' := (hM  (me_wi (me_wi (me_wi (me_wi (me_wi μ 111 0 (μ.1 3 l1.toNatClampNeg)) 112 0 (0 : Int32)) 113 0 (0 : Int32)) 114 0 (0 : Int32)) 8 l1.toNatClampNeg (0 : Int32)))) d_M_read_41 rfl rfl hM_8 g14 rfl ?_
    refine aw_aload_n (pc' := 43) d_M_read_42 rfl rfl ?_
    refine aw_get (pc' := 46) d_M_read_43 rfl fl_M_34 hM_0 rfl ?_
    refine aw_iload_n (pc' := 47) d_M_read_46 rfl rfl ?_
    refine aw_iconst (pc' := 48) d_M_read_47 rfl kc_ic_0 ?_
    obtain ⟨g15, hf⟩ := aw_gi hf
    refine aw_iast (pc' := 49) (h' := (hM  (me_wi (me_wi (me_wi (me_wi (me_wi (me_wi μ 111 0 (μ.1 3 l1.toNatClampNeg)) 112 0 (0 : Int32)) 113 0 (0 : Int32)) 114 0 (0 : Int32)) 8 l1.toNatClampNeg (0 : Int32)) 9 l1.toNatClampNeg (0 : Int32)))) d_M_read_48 rfl rfl hM_9 g15 rfl ?_
    refine aw_aload_n (pc' := 50) d_M_read_49 rfl rfl ?_
    obtain ⟨r16, hr16, hf⟩ := aw_bind hf
    refine aw_callVv (pc' := 53) (av := []) d_M_read_50 rfl wc_M_148 hM_0 (mM_nextGamma hr16) (Or.inl rfl) rfl (by decide) (Nat.le_of_ble_eq_true rfl) ⟨(Nat.le_refl 0), (Nat.le_refl 0)⟩ ?_
    refine aw_istore_n (pc' := 54) (L' := [some (.ref 0), some (.int l1), some (.int r16.1)]) d_M_read_53 rfl (by decide) rfl ?_
    refine aw_aload_n (pc' := 55) d_M_read_54 rfl rfl ?_
    refine aw_get (pc' := 58) d_M_read_55 rfl fl_M_125 hM_0 rfl ?_
    refine aw_if_ne (tgt := 74) (pc' := 61) d_M_read_58 (by decide) rfl (fun c17 => ?_) (fun c17 => ?_)
    · replace hf := aw_ifn c17 hf
      exact aw_weak [true, true, true] rfl (wM_read_74 hk2 _ _ _ hf)
    · replace hf := aw_ifp c17 hf
      refine aw_iload_n (pc' := 62) d_M_read_61 rfl rfl ?_
      refine aw_aload_n (pc' := 63) d_M_read_62 rfl rfl ?_
      refine aw_get (pc' := 66) d_M_read_63 rfl fl_M_56 hM_0 rfl ?_
      refine aw_icmp_le (tgt := 74) (pc' := 69) d_M_read_66 (by decide) rfl (fun c18 => ?_) (fun c18 => ?_)
      · replace hf := aw_ifp c18 hf
        exact aw_weak [true, true, true] rfl (wM_read_74 hk2 _ _ _ hf)
      · replace hf := aw_ifn c18 hf
        refine aw_aload_n (pc' := 70) d_M_read_69 rfl rfl ?_
        refine aw_iconst (pc' := 71) d_M_read_70 rfl kc_ic_3 ?_
        refine aw_puti (pc' := 74) (h' := (hM  (me_wi r16.2 112 0 (3 : Int32)))) d_M_read_71 rfl fp_M_125 hM_0 (Nat.le_of_ble_eq_true rfl) rfl ?_
        exact aw_weak [true, true, true] rfl (wM_read_74 hk2 _ _ _ hf)
set_option maxRecDepth 20000 in
theorem wM_read_2 {N : Nat} {r0 : me_M} : ∀ (F : Nat) (l1 : Int32) (μ : me_M) (hf : fM_read_2 N F l1 μ = some r0), AW "ArcTapeModel" "read" c_M_read 3 none 5 0 0 0 (aw_is none (hM  r0)) 2 [some (.ref 0), some (.int l1), none] [] (hM  μ) 0 0 := by
  intro F
  induction F with
  | zero => intro l1 μ hf; exact aw_no hf
  | succ F ih => intro l1 μ hf; exact wM_read_2b ih l1 μ hf
set_option maxRecDepth 20000 in
theorem mM_read {N : Nat} {μ : me_M} {r0 : me_M} (hf : fM_read N μ = some r0) : AM y_M_read c_M_read 3 none 5 0 0 0 [.ref 0] (hM  μ) (aw_is none (hM  r0)) := by
  unfold fM_read at hf
  refine AM.of (own := "ArcTapeModel") (nm := "read") (L := [some (.ref 0), none, none]) rfl rfl (by decide) (Nat.le_of_ble_eq_true rfl) rfl ?_
  refine aw_iconst (pc' := 1) d_M_read_0 rfl kc_ic_0 ?_
  refine aw_istore_n (pc' := 2) (L' := [some (.ref 0), some (.int (0 : Int32)), none]) d_M_read_1 rfl (by decide) rfl ?_
  exact aw_weak [true, true, false] rfl (wM_read_2 _ _ _ hf)
