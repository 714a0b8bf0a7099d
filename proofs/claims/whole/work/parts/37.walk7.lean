set_option maxRecDepth 20000 in
theorem wM_stepShares_152 {N : Nat} {r0 : me_M} (μ : me_M) (hf : fM_stepShares_152 N μ = some r0) : AW "ArcTapeModel" "stepShares" c_M_stepShares 3 none 2 0 0 0 (aw_is none (hM  r0)) 152 [none, none, none] [] (hM  μ) 0 0 := by
  unfold fM_stepShares_152 at hf
  cases hf
  exact aw_return rfl d_M_stepShares_152 (Nat.le_refl 0) (Nat.le_refl 0) ⟨rfl, rfl⟩
set_option maxRecDepth 20000 in
theorem wM_stepShares_146 {N : Nat} {r0 : me_M} {k76 : Int32 → me_M → Option me_M} (hk76 : ∀ (l1 : Int32) (μ : me_M), k76 l1 μ = some r0 → AW "ArcTapeModel" "stepShares" c_M_stepShares 3 none 2 0 0 0 (aw_is none (hM  r0)) 76 [some (.ref 0), some (.int l1), none] [] (hM  μ) 0 0) (l1 : Int32) (μ : me_M) (hf : fM_stepShares_146 N k76 l1 μ = some r0) : AW "ArcTapeModel" "stepShares" c_M_stepShares 3 none 2 0 0 0 (aw_is none (hM  r0)) 146 [some (.ref 0), some (.int l1), none] [] (hM  μ) 0 0 := by
  unfold fM_stepShares_146 at hf
  refine aw_iinc (pc' := 149) (L' := [some (.ref 0), some (.int (l1 + (1 : Int32))), none]) d_M_stepShares_146 rfl kc_ic_1 rfl (by decide) rfl ?_
  refine aw_goto (tgt := 76) d_M_stepShares_149 (by decide) ?_
  exact aw_weak [true, true, false] rfl (hk76 _ _ hf)
set_option maxRecDepth 20000 in
theorem wM_stepShares_138 {N : Nat} {r0 : me_M} {k76 : Int32 → me_M → Option me_M} (hk76 : ∀ (l1 : Int32) (μ : me_M), k76 l1 μ = some r0 → AW "ArcTapeModel" "stepShares" c_M_stepShares 3 none 2 0 0 0 (aw_is none (hM  r0)) 76 [some (.ref 0), some (.int l1), none] [] (hM  μ) 0 0) {k93 : Int32 → Int32 → me_M → Option me_M} (hk93 : ∀ (l1 : Int32) (l2 : Int32) (μ : me_M), k93 l1 l2 μ = some r0 → AW "ArcTapeModel" "stepShares" c_M_stepShares 3 none 2 0 0 0 (aw_is none (hM  r0)) 93 [some (.ref 0), some (.int l1), some (.int l2)] [] (hM  μ) 0 0) (l1 : Int32) (l2 : Int32) (s1 : Int32) (s2 : Int64) (s3 : Int64) (μ : me_M) (hf : fM_stepShares_138 N k76 k93 l1 l2 s1 s2 s3 μ = some r0) : AW "ArcTapeModel" "stepShares" c_M_stepShares 3 none 2 0 0 0 (aw_is none (hM  r0)) 138 [some (.ref 0), some (.int l1), some (.int l2)] [.long s3, .long s2, .int s1, .ref 13] (hM  μ) 0 0 := by
  unfold fM_stepShares_138 at hf
  refine aw_ladd (pc' := 139) d_M_stepShares_138 rfl ?_
  obtain ⟨g1, hf⟩ := aw_gi hf
  refine aw_last (pc' := 140) (h' := (hM  (me_wl μ 13 s1.toNatClampNeg (s2 + s3)))) d_M_stepShares_139 rfl rfl hM_13 g1 rfl ?_
  refine aw_iinc (pc' := 143) (L' := [some (.ref 0), some (.int l1), some (.int (l2 + (1 : Int32)))]) d_M_stepShares_140 rfl kc_ic_1 rfl (by decide) rfl ?_
  refine aw_goto (tgt := 93) d_M_stepShares_143 (by decide) ?_
  exact aw_weak [true, true, true] rfl (hk93 _ _ _ hf)
set_option maxRecDepth 20000 in
theorem wM_stepShares_93b {N : Nat} {r0 : me_M} {k76 : Int32 → me_M → Option me_M} (hk76 : ∀ (l1 : Int32) (μ : me_M), k76 l1 μ = some r0 → AW "ArcTapeModel" "stepShares" c_M_stepShares 3 none 2 0 0 0 (aw_is none (hM  r0)) 76 [some (.ref 0), some (.int l1), none] [] (hM  μ) 0 0) {k93 : Int32 → Int32 → me_M → Option me_M} (hk93 : ∀ (l1 : Int32) (l2 : Int32) (μ : me_M), k93 l1 l2 μ = some r0 → AW "ArcTapeModel" "stepShares" c_M_stepShares 3 none 2 0 0 0 (aw_is none (hM  r0)) 93 [some (.ref 0), some (.int l1), some (.int l2)] [] (hM  μ) 0 0) (l1 : Int32) (l2 : Int32) (μ : me_M) (hf : fM_stepShares_93b N k76 k93 l1 l2 μ = some r0) : AW "ArcTapeModel" "stepShares" c_M_stepShares 3 none 2 0 0 0 (aw_is none (hM  r0)) 93 [some (.ref 0), some (.int l1), some (.int l2)] [] (hM  μ) 0 0 := by
  unfold fM_stepShares_93b at hf
  refine aw_iload_n (pc' := 94) d_M_stepShares_93 rfl rfl ?_
  refine aw_aload_n (pc' := 95) d_M_stepShares_94 rfl rfl ?_
  refine aw_get (pc' := 98) d_M_stepShares_95 rfl fl_M_56 hM_0 rfl ?_
  refine aw_icmp_ge (tgt := 146) (pc' := 101) d_M_stepShares_98 (by decide) rfl (fun c2 => ?_) (fun c2 => ?_)
  · replace hf := aw_ifp c2 hf
    exact aw_weak [true, true, false] rfl (wM_stepShares_146 hk76 _ _ hf)
  · replace hf := aw_ifn c2 hf
    refine aw_aload_n (pc' := 102) d_M_stepShares_101 rfl rfl ?_
    refine aw_get (pc' := 105) d_M_stepShares_102 rfl fl_M_47 hM_0 rfl ?_
    refine aw_iload_n (pc' := 106) d_M_stepShares_105 rfl rfl ?_
    refine aw_dup2 (pc' := 107) d_M_stepShares_106 rfl rfl rfl ?_
    obtain ⟨g3, hf⟩ := aw_gi hf
    refine aw_lald (pc' := 108) d_M_stepShares_107 rfl rfl hM_13 g3 ?_
    refine aw_aload_n (pc' := 109) d_M_stepShares_108 rfl rfl ?_
    refine aw_iload_n (pc' := 110) d_M_stepShares_109 rfl rfl ?_
    refine aw_iload_n (pc' := 111) d_M_stepShares_110 rfl rfl ?_
    obtain ⟨r4, hr4, hf⟩ := aw_bind hf
    refine aw_callVv (pc' := 114) (av := [.int l2, .int l1]) d_M_stepShares_111 rfl wc_M_205 hM_0 (mM_links hr4) (Or.inl rfl) rfl (by decide) (Nat.le_of_ble_eq_true rfl) ⟨(Nat.le_refl 0), (Nat.le_refl 0)⟩ ?_
    refine aw_if_eq (tgt := 137) (pc' := 117) d_M_stepShares_114 (by decide) rfl (fun c5 => ?_) (fun c5 => ?_)
    · replace hf := aw_ifp c5 hf
      refine aw_lconst (pc' := 138) d_M_stepShares_137 rfl kc_lc_0 ?_
      exact aw_weak [true, true, true] rfl (wM_stepShares_138 hk76 hk93 _ _ _ _ _ _ hf)
    · replace hf := aw_ifn c5 hf
      refine aw_aload_n (pc' := 118) d_M_stepShares_117 rfl rfl ?_
      refine aw_get (pc' := 121) d_M_stepShares_118 rfl fl_M_44 hM_0 rfl ?_
      refine aw_iload_n (pc' := 122) d_M_stepShares_121 rfl rfl ?_
      obtain ⟨g6, hf⟩ := aw_gi hf
      refine aw_lald (pc' := 123) d_M_stepShares_122 rfl rfl hM_12 g6 ?_
      refine aw_aload_n (pc' := 124) d_M_stepShares_123 rfl rfl ?_
      refine aw_get (pc' := 127) d_M_stepShares_124 rfl fl_M_25 hM_0 rfl ?_
      refine aw_iload_n (pc' := 128) d_M_stepShares_127 rfl rfl ?_
      obtain ⟨g7, hf⟩ := aw_gi hf
      refine aw_iald (pc' := 129) d_M_stepShares_128 rfl rfl hM_6 g7 ?_
      obtain ⟨r8, hr8, hf⟩ := aw_bind hf
      refine aw_callSv (pc' := 132) (av := [.int (μ.1 6 l2.toNatClampNeg)]) d_M_stepShares_129 rfl wc_M_106 (mM_ones hr8) (Or.inl rfl) rfl (by decide) (Nat.le_of_ble_eq_true rfl) ⟨(Nat.le_refl 0), (Nat.le_refl 0)⟩ ?_
      refine aw_i2l (pc' := 133) d_M_stepShares_132 rfl ?_
      obtain ⟨g9, hf⟩ := aw_gd hf
      refine aw_ldiv (pc' := 134) d_M_stepShares_133 rfl g9 ?_
      refine aw_goto (tgt := 138) d_M_stepShares_134 (by decide) ?_
      exact aw_weak [true, true, true] rfl (wM_stepShares_138 hk76 hk93 _ _ _ _ _ _ hf)
set_option maxRecDepth 20000 in
theorem wM_stepShares_93 {N : Nat} {r0 : me_M} {k76 : Int32 → me_M → Option me_M} (hk76 : ∀ (l1 : Int32) (μ : me_M), k76 l1 μ = some r0 → AW "ArcTapeModel" "stepShares" c_M_stepShares 3 none 2 0 0 0 (aw_is none (hM  r0)) 76 [some (.ref 0), some (.int l1), none] [] (hM  μ) 0 0) : ∀ (F : Nat) (l1 : Int32) (l2 : Int32) (μ : me_M) (hf : fM_stepShares_93 N k76 F l1 l2 μ = some r0), AW "ArcTapeModel" "stepShares" c_M_stepShares 3 none 2 0 0 0 (aw_is none (hM  r0)) 93 [some (.ref 0), some (.int l1), some (.int l2)] [] (hM  μ) 0 0 := by
  intro F
  induction F with
  | zero => intro l1 l2 μ hf; exact aw_no hf
  | succ F ih => intro l1 l2 μ hf; exact wM_stepShares_93b hk76 ih l1 l2 μ hf
set_option maxRecDepth 20000 in
theorem wM_stepShares_76b {N : Nat} {r0 : me_M} {k76 : Int32 → me_M → Option me_M} (hk76 : ∀ (l1 : Int32) (μ : me_M), k76 l1 μ = some r0 → AW "ArcTapeModel" "stepShares" c_M_stepShares 3 none 2 0 0 0 (aw_is none (hM  r0)) 76 [some (.ref 0), some (.int l1), none] [] (hM  μ) 0 0) (l1 : Int32) (μ : me_M) (hf : fM_stepShares_76b N k76 l1 μ = some r0) : AW "ArcTapeModel" "stepShares" c_M_stepShares 3 none 2 0 0 0 (aw_is none (hM  r0)) 76 [some (.ref 0), some (.int l1), none] [] (hM  μ) 0 0 := by
  unfold fM_stepShares_76b at hf
  refine aw_iload_n (pc' := 77) d_M_stepShares_76 rfl rfl ?_
  refine aw_aload_n (pc' := 78) d_M_stepShares_77 rfl rfl ?_
  refine aw_get (pc' := 81) d_M_stepShares_78 rfl fl_M_56 hM_0 rfl ?_
  refine aw_icmp_ge (tgt := 152) (pc' := 84) d_M_stepShares_81 (by decide) rfl (fun c10 => ?_) (fun c10 => ?_)
  · replace hf := aw_ifp c10 hf
    exact aw_weak [false, false, false] rfl (wM_stepShares_152 _ hf)
  · replace hf := aw_ifn c10 hf
    refine aw_aload_n (pc' := 85) d_M_stepShares_84 rfl rfl ?_
    refine aw_get (pc' := 88) d_M_stepShares_85 rfl fl_M_47 hM_0 rfl ?_
    refine aw_iload_n (pc' := 89) d_M_stepShares_88 rfl rfl ?_
    refine aw_lconst (pc' := 90) d_M_stepShares_89 rfl kc_lc_0 ?_
    obtain ⟨g11, hf⟩ := aw_gi hf
    refine aw_last (pc' := 91) (h' := (hM  (me_wl μ 13 l1.toNatClampNeg (0 : Int64)))) d_M_stepShares_90 rfl rfl hM_13 g11 rfl ?_
    refine aw_iconst (pc' := 92) d_M_stepShares_91 rfl kc_ic_0 ?_
    refine aw_istore_n (pc' := 93) (L' := [some (.ref 0), some (.int l1), some (.int (0 : Int32))]) d_M_stepShares_92 rfl (by decide) rfl ?_
    exact aw_weak [true, true, true] rfl (wM_stepShares_93 hk76 _ _ _ _ hf)
set_option maxRecDepth 20000 in
theorem wM_stepShares_76 {N : Nat} {r0 : me_M} : ∀ (F : Nat) (l1 : Int32) (μ : me_M) (hf : fM_stepShares_76 N F l1 μ = some r0), AW "ArcTapeModel" "stepShares" c_M_stepShares 3 none 2 0 0 0 (aw_is none (hM  r0)) 76 [some (.ref 0), some (.int l1), none] [] (hM  μ) 0 0 := by
  intro F
  induction F with
  | zero => intro l1 μ hf; exact aw_no hf
  | succ F ih => intro l1 μ hf; exact wM_stepShares_76b ih l1 μ hf
set_option maxRecDepth 20000 in
theorem wM_stepShares_74 {N : Nat} {r0 : me_M} (μ : me_M) (hf : fM_stepShares_74 N μ = some r0) : AW "ArcTapeModel" "stepShares" c_M_stepShares 3 none 2 0 0 0 (aw_is none (hM  r0)) 74 [some (.ref 0), none, none] [] (hM  μ) 0 0 := by
  unfold fM_stepShares_74 at hf
  refine aw_iconst (pc' := 75) d_M_stepShares_74 rfl kc_ic_0 ?_
  refine aw_istore_n (pc' := 76) (L' := [some (.ref 0), some (.int (0 : Int32)), none]) d_M_stepShares_75 rfl (by decide) rfl ?_
  exact aw_weak [true, true, false] rfl (wM_stepShares_76 _ _ _ hf)
set_option maxRecDepth 20000 in
theorem wM_stepShares_68 {N : Nat} {r0 : me_M} {k2 : Int32 → me_M → Option me_M} (hk2 : ∀ (l1 : Int32) (μ : me_M), k2 l1 μ = some r0 → AW "ArcTapeModel" "stepShares" c_M_stepShares 3 none 2 0 0 0 (aw_is none (hM  r0)) 2 [some (.ref 0), some (.int l1), none] [] (hM  μ) 0 0) (l1 : Int32) (μ : me_M) (hf : fM_stepShares_68 N k2 l1 μ = some r0) : AW "ArcTapeModel" "stepShares" c_M_stepShares 3 none 2 0 0 0 (aw_is none (hM  r0)) 68 [some (.ref 0), some (.int l1), none] [] (hM  μ) 0 0 := by
  unfold fM_stepShares_68 at hf
  refine aw_iinc (pc' := 71) (L' := [some (.ref 0), some (.int (l1 + (1 : Int32))), none]) d_M_stepShares_68 rfl kc_ic_1 rfl (by decide) rfl ?_
  refine aw_goto (tgt := 2) d_M_stepShares_71 (by decide) ?_
  exact aw_weak [true, true, false] rfl (hk2 _ _ hf)
set_option maxRecDepth 20000 in
theorem wM_stepShares_60 {N : Nat} {r0 : me_M} {k2 : Int32 → me_M → Option me_M} (hk2 : ∀ (l1 : Int32) (μ : me_M), k2 l1 μ = some r0 → AW "ArcTapeModel" "stepShares" c_M_stepShares 3 none 2 0 0 0 (aw_is none (hM  r0)) 2 [some (.ref 0), some (.int l1), none] [] (hM  μ) 0 0) {k19 : Int32 → Int32 → me_M → Option me_M} (hk19 : ∀ (l1 : Int32) (l2 : Int32) (μ : me_M), k19 l1 l2 μ = some r0 → AW "ArcTapeModel" "stepShares" c_M_stepShares 3 none 2 0 0 0 (aw_is none (hM  r0)) 19 [some (.ref 0), some (.int l1), some (.int l2)] [] (hM  μ) 0 0) (l1 : Int32) (l2 : Int32) (s1 : Int32) (s2 : Int64) (s3 : Int64) (μ : me_M) (hf : fM_stepShares_60 N k2 k19 l1 l2 s1 s2 s3 μ = some r0) : AW "ArcTapeModel" "stepShares" c_M_stepShares 3 none 2 0 0 0 (aw_is none (hM  r0)) 60 [some (.ref 0), some (.int l1), some (.int l2)] [.long s3, .long s2, .int s1, .ref 12] (hM  μ) 0 0 := by
  unfold fM_stepShares_60 at hf
  refine aw_ladd (pc' := 61) d_M_stepShares_60 rfl ?_
  obtain ⟨g12, hf⟩ := aw_gi hf
  refine aw_last (pc' := 62) (h' := (hM  (me_wl μ 12 s1.toNatClampNeg (s2 + s3)))) d_M_stepShares_61 rfl rfl hM_12 g12 rfl ?_
  refine aw_iinc (pc' := 65) (L' := [some (.ref 0), some (.int l1), some (.int (l2 + (1 : Int32)))]) d_M_stepShares_62 rfl kc_ic_1 rfl (by decide) rfl ?_
  refine aw_goto (tgt := 19) d_M_stepShares_65 (by decide) ?_
  exact aw_weak [true, true, true] rfl (hk19 _ _ _ hf)
set_option maxRecDepth 20000 in
theorem wM_stepShares_19b {N : Nat} {r0 : me_M} {k2 : Int32 → me_M → Option me_M} (hk2 : ∀ (l1 : Int32) (μ : me_M), k2 l1 μ = some r0 → AW "ArcTapeModel" "stepShares" c_M_stepShares 3 none 2 0 0 0 (aw_is none (hM  r0)) 2 [some (.ref 0), some (.int l1), none] [] (hM  μ) 0 0) {k19 : Int32 → Int32 → me_M → Option me_M} (hk19 : ∀ (l1 : Int32) (l2 : Int32) (μ : me_M), k19 l1 l2 μ = some r0 → AW "ArcTapeModel" "stepShares" c_M_stepShares 3 none 2 0 0 0 (aw_is none (hM  r0)) 19 [some (.ref 0), some (.int l1), some (.int l2)] [] (hM  μ) 0 0) (l1 : Int32) (l2 : Int32) (μ : me_M) (hf : fM_stepShares_19b N k2 k19 l1 l2 μ = some r0) : AW "ArcTapeModel" "stepShares" c_M_stepShares 3 none 2 0 0 0 (aw_is none (hM  r0)) 19 [some (.ref 0), some (.int l1), some (.int l2)] [] (hM  μ) 0 0 := by
  unfold fM_stepShares_19b at hf
  refine aw_iload_n (pc' := 20) d_M_stepShares_19 rfl rfl ?_
  refine aw_aload_n (pc' := 21) d_M_stepShares_20 rfl rfl ?_
  refine aw_get (pc' := 24) d_M_stepShares_21 rfl fl_M_56 hM_0 rfl ?_
  refine aw_icmp_ge (tgt := 68) (pc' := 27) d_M_stepShares_24 (by decide) rfl (fun c13 => ?_) (fun c13 => ?_)
  · replace hf := aw_ifp c13 hf
    exact aw_weak [true, true, false] rfl (wM_stepShares_68 hk2 _ _ hf)
  · replace hf := aw_ifn c13 hf
    refine aw_aload_n (pc' := 28) d_M_stepShares_27 rfl rfl ?_
    refine aw_get (pc' := 31) d_M_stepShares_28 rfl fl_M_44 hM_0 rfl ?_
    refine aw_iload_n (pc' := 32) d_M_stepShares_31 rfl rfl ?_
    refine aw_dup2 (pc' := 33) d_M_stepShares_32 rfl rfl rfl ?_
    obtain ⟨g14, hf⟩ := aw_gi hf
    refine aw_lald (pc' := 34) d_M_stepShares_33 rfl rfl hM_12 g14 ?_
    refine aw_aload_n (pc' := 35) d_M_stepShares_34 rfl rfl ?_
    refine aw_iload_n (pc' := 36) d_M_stepShares_35 rfl rfl ?_
    refine aw_iload_n (pc' := 37) d_M_stepShares_36 rfl rfl ?_
    obtain ⟨r15, hr15, hf⟩ := aw_bind hf
    refine aw_callVv (pc' := 40) (av := [.int l1, .int l2]) d_M_stepShares_37 rfl wc_M_205 hM_0 (mM_links hr15) (Or.inl rfl) rfl (by decide) (Nat.le_of_ble_eq_true rfl) ⟨(Nat.le_refl 0), (Nat.le_refl 0)⟩ ?_
    refine aw_if_eq (tgt := 59) (pc' := 43) d_M_stepShares_40 (by decide) rfl (fun c16 => ?_) (fun c16 => ?_)
    · replace hf := aw_ifp c16 hf
      refine aw_lconst (pc' := 60) d_M_stepShares_59 rfl kc_lc_0 ?_
      exact aw_weak [true, true, true] rfl (wM_stepShares_60 hk2 hk19 _ _ _ _ _ _ hf)
    · replace hf := aw_ifn c16 hf
      refine aw_aload_n (pc' := 44) d_M_stepShares_43 rfl rfl ?_
      refine aw_get (pc' := 47) d_M_stepShares_44 rfl fl_M_40 hM_0 rfl ?_
      refine aw_iload_n (pc' := 48) d_M_stepShares_47 rfl rfl ?_
      obtain ⟨g17, hf⟩ := aw_gi hf
      refine aw_lald (pc' := 49) d_M_stepShares_48 rfl rfl hM_11 g17 ?_
      refine aw_aload_n (pc' := 50) d_M_stepShares_49 rfl rfl ?_
      refine aw_iload_n (pc' := 51) d_M_stepShares_50 rfl rfl ?_
      obtain ⟨r18, hr18, hf⟩ := aw_bind hf
      refine aw_callVv (pc' := 54) (av := [.int l2]) d_M_stepShares_51 rfl wc_M_216 hM_0 (mM_into hr18) (Or.inl rfl) rfl (by decide) (Nat.le_of_ble_eq_true rfl) ⟨(Nat.le_refl 0), (Nat.le_refl 0)⟩ ?_
      refine aw_i2l (pc' := 55) d_M_stepShares_54 rfl ?_
      obtain ⟨g19, hf⟩ := aw_gd hf
      refine aw_ldiv (pc' := 56) d_M_stepShares_55 rfl g19 ?_
      refine aw_goto (tgt := 60) d_M_stepShares_56 (by decide) ?_
      exact aw_weak [true, true, true] rfl (wM_stepShares_60 hk2 hk19 _ _ _ _ _ _ hf)
set_option maxRecDepth 20000 in
theorem wM_stepShares_19 {N : Nat} {r0 : me_M} {k2 : Int32 → me_M → Option me_M} (hk2 : ∀ (l1 : Int32) (μ : me_M), k2 l1 μ = some r0 → AW "ArcTapeModel" "stepShares" c_M_stepShares 3 none 2 0 0 0 (aw_is none (hM  r0)) 2 [some (.ref 0), some (.int l1), none] [] (hM  μ) 0 0) : ∀ (F : Nat) (l1 : Int32) (l2 : Int32) (μ : me_M) (hf : fM_stepShares_19 N k2 F l1 l2 μ = some r0), AW "ArcTapeModel" "stepShares" c_M_stepShares 3 none 2 0 0 0 (aw_is none (hM  r0)) 19 [some (.ref 0), some (.int l1), some (.int l2)] [] (hM  μ) 0 0 := by
  intro F
  induction F with
  | zero => intro l1 l2 μ hf; exact aw_no hf
  | succ F ih => intro l1 l2 μ hf; exact wM_stepShares_19b hk2 ih l1 l2 μ hf
set_option maxRecDepth 20000 in
theorem wM_stepShares_2b {N : Nat} {r0 : me_M} {k2 : Int32 → me_M → Option me_M} (hk2 : ∀ (l1 : Int32) (μ : me_M), k2 l1 μ = some r0 → AW "ArcTapeModel" "stepShares" c_M_stepShares 3 none 2 0 0 0 (aw_is none (hM  r0)) 2 [some (.ref 0), some (.int l1), none] [] (hM  μ) 0 0) (l1 : Int32) (μ : me_M) (hf : fM_stepShares_2b N k2 l1 μ = some r0) : AW "ArcTapeModel" "stepShares" c_M_stepShares 3 none 2 0 0 0 (aw_is none (hM  r0)) 2 [some (.ref 0), some (.int l1), none] [] (hM  μ) 0 0 := by
  unfold fM_stepShares_2b at hf
  refine aw_iload_n (pc' := 3) d_M_stepShares_2 rfl rfl ?_
  refine aw_aload_n (pc' := 4) d_M_stepShares_3 rfl rfl ?_
  refine aw_get (pc' := 7) d_M_stepShares_4 rfl fl_M_56 hM_0 rfl ?_
  refine aw_icmp_ge (tgt := 74) (pc' := 10) d_M_stepShares_7 (by decide) rfl (fun c20 => ?_) (fun c20 => ?_)
  · replace hf := aw_ifp c20 hf
    exact aw_weak [true, false, false] rfl (wM_stepShares_74 _ hf)
  · replace hf := aw_ifn c20 hf
    refine aw_aload_n (pc' := 11) d_M_stepShares_10 rfl rfl ?_
    refine aw_get (pc' := 14) d_M_stepShares_11 rfl fl_M_44 hM_0 rfl ?_
    refine aw_iload_n (pc' := 15) d_M_stepShares_14 rfl rfl ?_
    refine aw_lconst (pc' := 16) d_M_stepShares_15 rfl kc_lc_0 ?_
    obtain ⟨g21, hf⟩ := aw_gi hf
    refine aw_last (pc' := 17) (h' := (hM  (me_wl μ 12 l1.toNatClampNeg (0 : Int64)))) d_M_stepShares_16 rfl rfl hM_12 g21 rfl ?_
    refine aw_iconst (pc' := 18) d_M_stepShares_17 rfl kc_ic_0 ?_
    refine aw_istore_n (pc' := 19) (L' := [some (.ref 0), some (.int l1), some (.int (0 : Int32))]) d_M_stepShares_18 rfl (by decide) rfl ?_
    exact aw_weak [true, true, true] rfl (wM_stepShares_19 hk2 _ _ _ _ hf)
set_option maxRecDepth 20000 in
theorem wM_stepShares_2 {N : Nat} {r0 : me_M} : ∀ (F : Nat) (l1 : Int32) (μ : me_M) (hf : fM_stepShares_2 N F l1 μ = some r0), AW "ArcTapeModel" "stepShares" c_M_stepShares 3 none 2 0 0 0 (aw_is none (hM  r0)) 2 [some (.ref 0), some (.int l1), none] [] (hM  μ) 0 0 := by
  intro F
  induction F with
  | zero => intro l1 μ hf; exact aw_no hf
  | succ F ih => intro l1 μ hf; exact wM_stepShares_2b ih l1 μ hf
set_option maxRecDepth 20000 in
theorem mM_stepShares {N : Nat} {μ : me_M} {r0 : me_M} (hf : fM_stepShares N μ = some r0) : AM y_M_stepShares c_M_stepShares 3 none 2 0 0 0 [.ref 0] (hM  μ) (aw_is none (hM  r0)) := by
  unfold fM_stepShares at hf
  refine AM.of (own := "ArcTapeModel") (nm := "stepShares") (L := [some (.ref 0), none, none]) rfl rfl (by decide) (Nat.le_of_ble_eq_true rfl) rfl ?_
  refine aw_iconst (pc' := 1) d_M_stepShares_0 rfl kc_ic_0 ?_
  refine aw_istore_n (pc' := 2) (L' := [some (.ref 0), some (.int (0 : Int32)), none]) d_M_stepShares_1 rfl (by decide) rfl ?_
  exact aw_weak [true, true, false] rfl (wM_stepShares_2 _ _ _ hf)
set_option maxRecDepth 20000 in
theorem wM_step_162 {N : Nat} {r0 : (Int32 × me_M)} (l1 : Int32) (μ : me_M) (hf : fM_step_162 N l1 μ = some r0) : AW "ArcTapeModel" "step" c_M_step 4 (some .int) 6 0 0 0 (aw_is (some (.int r0.1)) (hM  r0.2)) 162 [none, some (.int l1), none, none] [] (hM  μ) 0 0 := by
  unfold fM_step_162 at hf
  refine aw_iload_n (pc' := 163) d_M_step_162 rfl rfl ?_
  cases hf
  exact aw_ireturn rfl d_M_step_163 (Nat.le_refl 0) (Nat.le_refl 0) ⟨rfl, rfl⟩
set_option maxRecDepth 20000 in
theorem wM_step_143 {N : Nat} {r0 : (Int32 × me_M)} {k18 : Int32 → Int32 → me_M → Option (Int32 × me_M)} (hk18 : ∀ (l1 : Int32) (l2 : Int32) (μ : me_M), k18 l1 l2 μ = some r0 → AW "ArcTapeModel" "step" c_M_step 4 (some .int) 6 0 0 0 (aw_is (some (.int r0.1)) (hM  r0.2)) 18 [some (.ref 0), some (.int l1), some (.int l2), none] [] (hM  μ) 0 0) (l1 : Int32) (l2 : Int32) (μ : me_M) (hf : fM_step_143 N k18 l1 l2 μ = some r0) : AW "ArcTapeModel" "step" c_M_step 4 (some .int) 6 0 0 0 (aw_is (some (.int r0.1)) (hM  r0.2)) 143 [some (.ref 0), some (.int l1), some (.int l2), none] [] (hM  μ) 0 0 := by
  unfold fM_step_143 at hf
  refine aw_aload_n (pc' := 144) d_M_step_143 rfl rfl ?_
  refine aw_get (pc' := 147) d_M_step_144 rfl fl_M_197 hM_0 rfl ?_
  refine aw_lconst (pc' := 148) d_M_step_147 rfl kc_lc_0 ?_
  refine aw_lcmp (pc' := 149) d_M_step_148 rfl ?_
  refine aw_if_ne (tgt := 156) (pc' := 152) d_M_step_149 (by decide) rfl (fun c1 => ?_) (fun c1 => ?_)
  · replace hf := aw_ifn c1 hf
    refine aw_iinc (pc' := 159) (L' := [some (.ref 0), some (.int l1), some (.int (l2 + (1 : Int32))), none]) d_M_step_156 rfl kc_ic_1 rfl (by decide) rfl ?_
    refine aw_goto (tgt := 18) d_M_step_159 (by decide) ?_
    exact aw_weak [true, true, true, false] rfl (hk18 _ _ _ hf)
  · replace hf := aw_ifp c1 hf
    refine aw_iload_n (pc' := 153) d_M_step_152 rfl rfl ?_
    refine aw_iconst (pc' := 154) d_M_step_153 rfl kc_ic_1 ?_
    refine aw_iadd (pc' := 155) d_M_step_154 rfl ?_
    cases hf
    exact aw_ireturn rfl d_M_step_155 (Nat.le_refl 0) (Nat.le_refl 0) ⟨rfl, rfl⟩
set_option maxRecDepth 20000 in
theorem wM_step_121 {N : Nat} {r0 : (Int32 × me_M)} {k18 : Int32 → Int32 → me_M → Option (Int32 × me_M)} (hk18 : ∀ (l1 : Int32) (l2 : Int32) (μ : me_M), k18 l1 l2 μ = some r0 → AW "ArcTapeModel" "step" c_M_step 4 (some .int) 6 0 0 0 (aw_is (some (.int r0.1)) (hM  r0.2)) 18 [some (.ref 0), some (.int l1), some (.int l2), none] [] (hM  μ) 0 0) {k63 : Int32 → Int32 → Int32 → me_M → Option (Int32 × me_M)} (hk63 : ∀ (l1 : Int32) (l2 : Int32) (l3 : Int32) (μ : me_M), k63 l1 l2 l3 μ = some r0 → AW "ArcTapeModel" "step" c_M_step 4 (some .int) 6 0 0 0 (aw_is (some (.int r0.1)) (hM  r0.2)) 63 [some (.ref 0), some (.int l1), some (.int l2), some (.int l3)] [] (hM  μ) 0 0) (l1 : Int32) (l2 : Int32) (l3 : Int32) (s1 : Int64) (s2 : Int64) (μ : me_M) (hf : fM_step_121 N k18 k63 l1 l2 l3 s1 s2 μ = some r0) : AW "ArcTapeModel" "step" c_M_step 4 (some .int) 6 0 0 0 (aw_is (some (.int r0.1)) (hM  r0.2)) 121 [some (.ref 0), some (.int l1), some (.int l2), some (.int l3)] [.long s2, .long s1, .ref 0] (hM  μ) 0 0 := by
  unfold fM_step_121 at hf
  refine aw_ladd (pc' := 122) d_M_step_121 rfl ?_
  refine aw_putj (pc' := 125) (h' := (hM  (me_wl μ 125 0 (s1 + s2)))) d_M_step_122 rfl fp_M_197 hM_0 (Nat.le_of_ble_eq_true rfl) rfl ?_
  refine aw_aload_n (pc' := 126) d_M_step_125 rfl rfl ?_
  refine aw_get (pc' := 129) d_M_step_126 rfl fl_M_40 hM_0 rfl ?_
  refine aw_iload_n (pc' := 130) d_M_step_129 rfl rfl ?_
  refine aw_aload_n (pc' := 131) d_M_step_130 rfl rfl ?_
  refine aw_get (pc' := 134) d_M_step_131 rfl fl_M_47 hM_0 rfl ?_
  refine aw_iload_n (pc' := 135) d_M_step_134 rfl rfl ?_
  obtain ⟨g2, hf⟩ := aw_gi hf
  refine aw_lald (pc' := 136) d_M_step_135 rfl rfl hM_13 g2 ?_
  obtain ⟨g3, hf⟩ := aw_gi hf
  refine aw_last (pc' := 137) (h' := (hM  (me_wl (me_wl μ 125 0 (s1 + s2)) 11 l3.toNatClampNeg ((me_wl μ 125 0 (s1 + s2)).2 13 l3.toNatClampNeg)))) d_M_step_136 rfl rfl hM_11 g3 rfl ?_
  refine aw_iinc (pc' := 140) (L' := [some (.ref 0), some (.int l1), some (.int l2), some (.int (l3 + (1 : Int32)))]) d_M_step_137 rfl kc_ic_1 rfl (by decide) rfl ?_
  refine aw_goto (tgt := 63) d_M_step_140 (by decide) ?_
  exact aw_weak [true, true, true, true] rfl (hk63 _ _ _ _ hf)
set_option maxRecDepth 20000 in
theorem wM_step_63b {N : Nat} {r0 : (Int32 × me_M)} {k18 : Int32 → Int32 → me_M → Option (Int32 × me_M)} (hk18 : ∀ (l1 : Int32) (l2 : Int32) (μ : me_M), k18 l1 l2 μ = some r0 → AW "ArcTapeModel" "step" c_M_step 4 (some .int) 6 0 0 0 (aw_is (some (.int r0.1)) (hM  r0.2)) 18 [some (.ref 0), some (.int l1), some (.int l2), none] [] (hM  μ) 0 0) {k63 : Int32 → Int32 → Int32 → me_M → Option (Int32 × me_M)} (hk63 : ∀ (l1 : Int32) (l2 : Int32) (l3 : Int32) (μ : me_M), k63 l1 l2 l3 μ = some r0 → AW "ArcTapeModel" "step" c_M_step 4 (some .int) 6 0 0 0 (aw_is (some (.int r0.1)) (hM  r0.2)) 63 [some (.ref 0), some (.int l1), some (.int l2), some (.int l3)] [] (hM  μ) 0 0) (l1 : Int32) (l2 : Int32) (l3 : Int32) (μ : me_M) (hf : fM_step_63b N k18 k63 l1 l2 l3 μ = some r0) : AW "ArcTapeModel" "step" c_M_step 4 (some .int) 6 0 0 0 (aw_is (some (.int r0.1)) (hM  r0.2)) 63 [some (.ref 0), some (.int l1), some (.int l2), some (.int l3)] [] (hM  μ) 0 0 := by
  unfold fM_step_63b at hf
  refine aw_iload_n (pc' := 64) d_M_step_63 rfl rfl ?_
  refine aw_aload_n (pc' := 65) d_M_step_64 rfl rfl ?_
  refine aw_get (pc' := 68) d_M_step_65 rfl fl_M_56 hM_0 rfl ?_
  refine aw_icmp_ge (tgt := 143) (pc' := 71) d_M_step_68 (by decide) rfl (fun c4 => ?_) (fun c4 => ?_)
  · replace hf := aw_ifp c4 hf
    exact aw_weak [true, true, true, false] rfl (wM_step_143 hk18 _ _ _ hf)
  · replace hf := aw_ifn c4 hf
    refine aw_aload_n (pc' := 72) d_M_step_71 rfl rfl ?_
    refine aw_dup (pc' := 73) d_M_step_72 rfl rfl ?_
    refine aw_get (pc' := 76) d_M_step_73 rfl fl_M_197 hM_0 rfl ?_
    refine aw_aload_n (pc' := 77) d_M_step_76 rfl rfl ?_
    refine aw_get (pc' := 80) d_M_step_77 rfl fl_M_47 hM_0 rfl ?_
    refine aw_iload_n (pc' := 81) d_M_step_80 rfl rfl ?_
    obtain ⟨g5, hf⟩ := aw_gi hf
    refine aw_lald (pc' := 82) d_M_step_81 rfl rfl hM_13 g5 ?_
    refine aw_aload_n (pc' := 83) d_M_step_82 rfl rfl ?_
    refine aw_get (pc' := 86) d_M_step_83 rfl fl_M_40 hM_0 rfl ?_
    refine aw_iload_n (pc' := 87) d_M_step_86 rfl rfl ?_
    obtain ⟨g6, hf⟩ := aw_gi hf
    refine aw_lald (pc' := 88) d_M_step_87 rfl rfl hM_11 g6 ?_
    refine aw_lcmp (pc' := 89) d_M_step_88 rfl ?_
    refine aw_if_le (tgt := 108) (pc' := 92) d_M_step_89 (by decide) rfl (fun c7 => ?_) (fun c7 => ?_)
    · replace hf := aw_ifp c7 hf
      refine aw_aload_n (pc' := 109) d_M_step_108 rfl rfl ?_
      refine aw_get (pc' := 112) d_M_step_109 rfl fl_M_40 hM_0 rfl ?_
      refine aw_iload_n (pc' := 113) d_M_step_112 rfl rfl ?_
      obtain ⟨g8, hf⟩ := aw_gi hf
      refine aw_lald (pc' := 114) d_M_step_113 rfl rfl hM_11 g8 ?_
      refine aw_aload_n (pc' := 115) d_M_step_114 rfl rfl ?_
      refine aw_get (pc' := 118) d_M_step_115 rfl fl_M_47 hM_0 rfl ?_
      refine aw_iload_n (pc' := 119) d_M_step_118 rfl rfl ?_
      obtain ⟨g9, hf⟩ := aw_gi hf
      refine aw_lald (pc' := 120) d_M_step_119 rfl rfl hM_13 g9 ?_
      refine aw_lsub (pc' := 121) d_M_step_120 rfl ?_
      exact aw_weak [true, true, true, true] rfl (wM_step_121 hk18 hk63 _ _ _ _ _ _ hf)
    · replace hf := aw_ifn c7 hf
      refine aw_aload_n (pc' := 93) d_M_step_92 rfl rfl ?_
      refine aw_get (pc' := 96) d_M_step_93 rfl fl_M_47 hM_0 rfl ?_
      refine aw_iload_n (pc' := 97) d_M_step_96 rfl rfl ?_
      obtain ⟨g10, hf⟩ := aw_gi hf
      refine aw_lald (pc' := 98) d_M_step_97 rfl rfl hM_13 g10 ?_
      refine aw_aload_n (pc' := 99) d_M_step_98 rfl rfl ?_
      refine aw_get (pc' := 102) d_M_step_99 rfl fl_M_40 hM_0 rfl ?_
      refine aw_iload_n (pc' := 103) d_M_step_102 rfl rfl ?_
      obtain ⟨g11, hf⟩ := aw_gi hf
      refine aw_lald (pc' := 104) d_M_step_103 rfl rfl hM_11 g11 ?_
      refine aw_lsub (pc' := 105) d_M_step_104 rfl ?_
      refine aw_goto (tgt := 121) d_M_step_105 (by decide) ?_
      exact aw_weak [true, true, true, true] rfl (wM_step_121 hk18 hk63 _ _ _ _ _ _ hf)
set_option maxRecDepth 20000 in
theorem wM_step_63 {N : Nat} {r0 : (Int32 × me_M)} {k18 : Int32 → Int32 → me_M → Option (Int32 × me_M)} (hk18 : ∀ (l1 : Int32) (l2 : Int32) (μ : me_M), k18 l1 l2 μ = some r0 → AW "ArcTapeModel" "step" c_M_step 4 (some .int) 6 0 0 0 (aw_is (some (.int r0.1)) (hM  r0.2)) 18 [some (.ref 0), some (.int l1), some (.int l2), none] [] (hM  μ) 0 0) : ∀ (F : Nat) (l1 : Int32) (l2 : Int32) (l3 : Int32) (μ : me_M) (hf : fM_step_63 N k18 F l1 l2 l3 μ = some r0), AW "ArcTapeModel" "step" c_M_step 4 (some .int) 6 0 0 0 (aw_is (some (.int r0.1)) (hM  r0.2)) 63 [some (.ref 0), some (.int l1), some (.int l2), some (.int l3)] [] (hM  μ) 0 0 := by
  intro F
  induction F with
  | zero => intro l1 l2 l3 μ hf; exact aw_no hf
  | succ F ih => intro l1 l2 l3 μ hf; exact wM_step_63b hk18 ih l1 l2 l3 μ hf
set_option maxRecDepth 20000 in
theorem wM_step_56 {N : Nat} {r0 : (Int32 × me_M)} {k18 : Int32 → Int32 → me_M → Option (Int32 × me_M)} (hk18 : ∀ (l1 : Int32) (l2 : Int32) (μ : me_M), k18 l1 l2 μ = some r0 → AW "ArcTapeModel" "step" c_M_step 4 (some .int) 6 0 0 0 (aw_is (some (.int r0.1)) (hM  r0.2)) 18 [some (.ref 0), some (.int l1), some (.int l2), none] [] (hM  μ) 0 0) (l1 : Int32) (l2 : Int32) (μ : me_M) (hf : fM_step_56 N k18 l1 l2 μ = some r0) : AW "ArcTapeModel" "step" c_M_step 4 (some .int) 6 0 0 0 (aw_is (some (.int r0.1)) (hM  r0.2)) 56 [some (.ref 0), some (.int l1), some (.int l2), none] [] (hM  μ) 0 0 := by
  unfold fM_step_56 at hf
  refine aw_aload_n (pc' := 57) d_M_step_56 rfl rfl ?_
  refine aw_lconst (pc' := 58) d_M_step_57 rfl kc_lc_0 ?_
  refine aw_putj (pc' := 61) (h' := (hM  (me_wl μ 125 0 (0 : Int64)))) d_M_step_58 rfl fp_M_197 hM_0 (Nat.le_of_ble_eq_true rfl) rfl ?_
  refine aw_iconst (pc' := 62) d_M_step_61 rfl kc_ic_0 ?_
  refine aw_istore_n (pc' := 63) (L' := [some (.ref 0), some (.int l1), some (.int l2), some (.int (0 : Int32))]) d_M_step_62 rfl (by decide) rfl ?_
  exact aw_weak [true, true, true, true] rfl (wM_step_63 hk18 _ _ _ _ _ hf)
set_option maxRecDepth 20000 in
theorem wM_step_18b {N : Nat} {r0 : (Int32 × me_M)} {k18 : Int32 → Int32 → me_M → Option (Int32 × me_M)} (hk18 : ∀ (l1 : Int32) (l2 : Int32) (μ : me_M), k18 l1 l2 μ = some r0 → AW "ArcTapeModel" "step" c_M_step 4 (some .int) 6 0 0 0 (aw_is (some (.int r0.1)) (hM  r0.2)) 18 [some (.ref 0), some (.int l1), some (.int l2), none] [] (hM  μ) 0 0) (l1 : Int32) (l2 : Int32) (μ : me_M) (hf : fM_step_18b N k18 l1 l2 μ = some r0) : AW "ArcTapeModel" "step" c_M_step 4 (some .int) 6 0 0 0 (aw_is (some (.int r0.1)) (hM  r0.2)) 18 [some (.ref 0), some (.int l1), some (.int l2), none] [] (hM  μ) 0 0 := by
  unfold fM_step_18b at hf
  refine aw_iload_n (pc' := 19) d_M_step_18 rfl rfl ?_
  refine aw_iload_n (pc' := 20) d_M_step_19 rfl rfl ?_
  refine aw_icmp_ge (tgt := 162) (pc' := 23) d_M_step_20 (by decide) rfl (fun c12 => ?_) (fun c12 => ?_)
  · replace hf := aw_ifp c12 hf
    exact aw_weak [false, true, false, false] rfl (wM_step_162 _ _ hf)
  · replace hf := aw_ifn c12 hf
    refine aw_aload_n (pc' := 24) d_M_step_23 rfl rfl ?_
    refine aw_get (pc' := 27) d_M_step_24 rfl fl_M_191 hM_0 rfl ?_
    refine aw_if_ne (tgt := 37) (pc' := 30) d_M_step_27 (by decide) rfl (fun c13 => ?_) (fun c13 => ?_)
    · replace hf := aw_ifn c13 hf
      refine aw_aload_n (pc' := 38) d_M_step_37 rfl rfl ?_
      refine aw_get (pc' := 41) d_M_step_38 rfl fl_M_191 hM_0 rfl ?_
      refine aw_iconst (pc' := 42) d_M_step_41 rfl kc_ic_1 ?_
      refine aw_icmp_ne (tgt := 52) (pc' := 45) d_M_step_42 (by decide) rfl (fun c14 => ?_) (fun c14 => ?_)
      · replace hf := aw_ifn c14 hf
        refine aw_aload_n (pc' := 53) d_M_step_52 rfl rfl ?_
        obtain ⟨r15, hr15, hf⟩ := aw_bind hf
        refine aw_callVn (pc' := 56) (av := []) d_M_step_53 rfl wc_M_225 hM_0 (mM_stepShares hr15) (Or.inl rfl) rfl (by decide) (Nat.le_of_ble_eq_true rfl) ⟨(Nat.le_refl 0), (Nat.le_refl 0)⟩ ?_
        exact aw_weak [true, true, true, false] rfl (wM_step_56 hk18 _ _ _ hf)
      · replace hf := aw_ifp c14 hf
        refine aw_aload_n (pc' := 46) d_M_step_45 rfl rfl ?_
        obtain ⟨r16, hr16, hf⟩ := aw_bind hf
        refine aw_callVn (pc' := 49) (av := []) d_M_step_46 rfl wc_M_222 hM_0 (mM_stepHubs hr16) (Or.inl rfl) rfl (by decide) (Nat.le_of_ble_eq_true rfl) ⟨(Nat.le_refl 0), (Nat.le_refl 0)⟩ ?_
        refine aw_goto (tgt := 56) d_M_step_49 (by decide) ?_
        exact aw_weak [true, true, true, false] rfl (wM_step_56 hk18 _ _ _ hf)
    · replace hf := aw_ifp c13 hf
      refine aw_aload_n (pc' := 31) d_M_step_30 rfl rfl ?_
      obtain ⟨r17, hr17, hf⟩ := aw_bind hf
      refine aw_callVn (pc' := 34) (av := []) d_M_step_31 rfl wc_M_219 hM_0 (mM_stepRank hr17) (Or.inl rfl) rfl (by decide) (Nat.le_of_ble_eq_true rfl) ⟨(Nat.le_refl 0), (Nat.le_refl 0)⟩ ?_
      refine aw_goto (tgt := 56) d_M_step_34 (by decide) ?_
      exact aw_weak [true, true, true, false] rfl (wM_step_56 hk18 _ _ _ hf)
set_option maxRecDepth 20000 in
theorem wM_step_18 {N : Nat} {r0 : (Int32 × me_M)} : ∀ (F : Nat) (l1 : Int32) (l2 : Int32) (μ : me_M) (hf : fM_step_18 N F l1 l2 μ = some r0), AW "ArcTapeModel" "step" c_M_step 4 (some .int) 6 0 0 0 (aw_is (some (.int r0.1)) (hM  r0.2)) 18 [some (.ref 0), some (.int l1), some (.int l2), none] [] (hM  μ) 0 0 := by
  intro F
  induction F with
  | zero => intro l1 l2 μ hf; exact aw_no hf
  | succ F ih => intro l1 l2 μ hf; exact wM_step_18b ih l1 l2 μ hf
set_option maxRecDepth 20000 in
theorem wM_step_10 {N : Nat} {r0 : (Int32 × me_M)} (μ : me_M) (hf : fM_step_10 N μ = some r0) : AW "ArcTapeModel" "step" c_M_step 4 (some .int) 6 0 0 0 (aw_is (some (.int r0.1)) (hM  r0.2)) 10 [none, none, none, none] [] (hM  μ) 0 0 := by
  unfold fM_step_10 at hf
  refine aw_iconst (pc' := 11) d_M_step_10 rfl kc_ic_m1 ?_
  cases hf
  exact aw_ireturn rfl d_M_step_11 (Nat.le_refl 0) (Nat.le_refl 0) ⟨rfl, rfl⟩
set_option maxRecDepth 20000 in
theorem mM_step {N : Nat} {μ : me_M} {r0 : (Int32 × me_M)} {l1 : Int32} (hf : fM_step N l1 μ = some r0) : AM y_M_step c_M_step 4 (some .int) 6 0 0 0 [.ref 0, .int l1] (hM  μ) (aw_is (some (.int r0.1)) (hM  r0.2)) := by
  unfold fM_step at hf
  refine AM.of (own := "ArcTapeModel") (nm := "step") (L := [some (.ref 0), some (.int l1), none, none]) rfl rfl (by decide) (Nat.le_of_ble_eq_true rfl) rfl ?_
  refine aw_iload_n (pc' := 1) d_M_step_0 rfl rfl ?_
  refine aw_if_lt (tgt := 10) (pc' := 4) d_M_step_1 (by decide) rfl (fun c18 => ?_) (fun c18 => ?_)
  · replace hf := aw_ifp c18 hf
    exact aw_weak [false, false, false, false] rfl (wM_step_10 _ hf)
  · replace hf := aw_ifn c18 hf
    refine aw_iload_n (pc' := 5) d_M_step_4 rfl rfl ?_
    refine aw_bipush (pc' := 7) d_M_step_5 rfl kc_bi_20 ?_
    refine aw_icmp_le (tgt := 12) (pc' := 10) d_M_step_7 (by decide) rfl (fun c19 => ?_) (fun c19 => ?_)
    · replace hf := aw_ifp c19 hf
      refine aw_aload_n (pc' := 13) d_M_step_12 rfl rfl ?_
      obtain ⟨r20, hr20, hf⟩ := aw_bind hf
      refine aw_callVn (pc' := 16) (av := []) d_M_step_13 rfl wc_M_173 hM_0 (mM_read hr20) (Or.inl rfl) rfl (by decide) (Nat.le_of_ble_eq_true rfl) ⟨(Nat.le_refl 0), (Nat.le_refl 0)⟩ ?_
      refine aw_iconst (pc' := 17) d_M_step_16 rfl kc_ic_0 ?_
      refine aw_istore_n (pc' := 18) (L' := [some (.ref 0), some (.int l1), some (.int (0 : Int32)), none]) d_M_step_17 rfl (by decide) rfl ?_
      exact aw_weak [true, true, true, false] rfl (wM_step_18 _ _ _ _ hf)
    · replace hf := aw_ifn c19 hf
      exact aw_weak [false, false, false, false] rfl (wM_step_10 _ hf)
set_option maxRecDepth 20000 in
theorem wM_score_20 {N : Nat} {μ : me_M} {r0 : Int64} (s0 : Int64) (hf : fM_score_20 N μ s0 = some r0) : AW "ArcTapeModel" "score" c_M_score 2 (some .long) 1 0 0 0 (aw_is (some (.long r0)) (hM  μ)) 20 [none, none] [.long s0] (hM  μ) 0 0 := by
  unfold fM_score_20 at hf
  cases hf
  exact aw_lreturn rfl d_M_score_20 (Nat.le_refl 0) (Nat.le_refl 0) ⟨rfl, rfl⟩
set_option maxRecDepth 20000 in
theorem mM_score {N : Nat} {μ : me_M} {r0 : Int64} {l1 : Int32} (hf : fM_score N μ l1 = some r0) : AM y_M_score c_M_score 2 (some .long) 1 0 0 0 [.ref 0, .int l1] (hM  μ) (aw_is (some (.long r0)) (hM  μ)) := by
  unfold fM_score at hf
  refine AM.of (own := "ArcTapeModel") (nm := "score") (L := [some (.ref 0), some (.int l1)]) rfl rfl (by decide) (Nat.le_of_ble_eq_true rfl) rfl ?_
  refine aw_aload_n (pc' := 1) d_M_score_0 rfl rfl ?_
  refine aw_iload_n (pc' := 2) d_M_score_1 rfl rfl ?_
  obtain ⟨r1, hr1, hf⟩ := aw_bind hf
  refine aw_callVv (pc' := 5) (av := [.int l1]) d_M_score_2 rfl wc_M_68 hM_0 (mM_node hr1) (Or.inl rfl) rfl (by decide) (Nat.le_of_ble_eq_true rfl) ⟨(Nat.le_refl 0), (Nat.le_refl 0)⟩ ?_
  refine aw_if_eq (tgt := 17) (pc' := 8) d_M_score_5 (by decide) rfl (fun c2 => ?_) (fun c2 => ?_)
  · replace hf := aw_ifp c2 hf
    refine aw_ldc2 (pc' := 20) d_M_score_17 rfl wk_M_228 ?_
    exact aw_weak [false, false] rfl (wM_score_20 _ hf)
  · replace hf := aw_ifn c2 hf
    refine aw_aload_n (pc' := 9) d_M_score_8 rfl rfl ?_
    refine aw_get (pc' := 12) d_M_score_9 rfl fl_M_40 hM_0 rfl ?_
    refine aw_iload_n (pc' := 13) d_M_score_12 rfl rfl ?_
    obtain ⟨g3, hf⟩ := aw_gi hf
    refine aw_lald (pc' := 14) d_M_score_13 rfl rfl hM_11 g3 ?_
    refine aw_goto (tgt := 20) d_M_score_14 (by decide) ?_
    exact aw_weak [false, false] rfl (wM_score_20 _ hf)
set_option maxRecDepth 20000 in
theorem wM_hub_20 {N : Nat} {μ : me_M} {r0 : Int64} (s0 : Int64) (hf : fM_hub_20 N μ s0 = some r0) : AW "ArcTapeModel" "hub" c_M_hub 2 (some .long) 1 0 0 0 (aw_is (some (.long r0)) (hM  μ)) 20 [none, none] [.long s0] (hM  μ) 0 0 := by
  unfold fM_hub_20 at hf
  cases hf
  exact aw_lreturn rfl d_M_hub_20 (Nat.le_refl 0) (Nat.le_refl 0) ⟨rfl, rfl⟩
set_option maxRecDepth 20000 in
theorem mM_hub {N : Nat} {μ : me_M} {r0 : Int64} {l1 : Int32} (hf : fM_hub N μ l1 = some r0) : AM y_M_hub c_M_hub 2 (some .long) 1 0 0 0 [.ref 0, .int l1] (hM  μ) (aw_is (some (.long r0)) (hM  μ)) := by
  unfold fM_hub at hf
  refine AM.of (own := "ArcTapeModel") (nm := "hub") (L := [some (.ref 0), some (.int l1)]) rfl rfl (by decide) (Nat.le_of_ble_eq_true rfl) rfl ?_
  refine aw_aload_n (pc' := 1) d_M_hub_0 rfl rfl ?_
  refine aw_iload_n (pc' := 2) d_M_hub_1 rfl rfl ?_
  obtain ⟨r1, hr1, hf⟩ := aw_bind hf
  refine aw_callVv (pc' := 5) (av := [.int l1]) d_M_hub_2 rfl wc_M_68 hM_0 (mM_node hr1) (Or.inl rfl) rfl (by decide) (Nat.le_of_ble_eq_true rfl) ⟨(Nat.le_refl 0), (Nat.le_refl 0)⟩ ?_
  refine aw_if_eq (tgt := 17) (pc' := 8) d_M_hub_5 (by decide) rfl (fun c2 => ?_) (fun c2 => ?_)
  · replace hf := aw_ifp c2 hf
    refine aw_ldc2 (pc' := 20) d_M_hub_17 rfl wk_M_228 ?_
    exact aw_weak [false, false] rfl (wM_hub_20 _ hf)
  · replace hf := aw_ifn c2 hf
    refine aw_aload_n (pc' := 9) d_M_hub_8 rfl rfl ?_
    refine aw_get (pc' := 12) d_M_hub_9 rfl fl_M_44 hM_0 rfl ?_
    refine aw_iload_n (pc' := 13) d_M_hub_12 rfl rfl ?_
    obtain ⟨g3, hf⟩ := aw_gi hf
    refine aw_lald (pc' := 14) d_M_hub_13 rfl rfl hM_12 g3 ?_
    refine aw_goto (tgt := 20) d_M_hub_14 (by decide) ?_
    exact aw_weak [false, false] rfl (wM_hub_20 _ hf)
set_option maxRecDepth 20000 in
theorem wM_top_91 {N : Nat} {μ : me_M} {r0 : Int32} (hf : fM_top_91 N μ = some r0) : AW "ArcTapeModel" "top" c_M_top 5 (some .int) 0 0 0 0 (aw_is (some (.int r0)) (hM  μ)) 91 [none, none, none, none, none] [] (hM  μ) 0 0 := by
  unfold fM_top_91 at hf
  refine aw_iconst (pc' := 92) d_M_top_91 rfl kc_ic_m1 ?_
  cases hf
  exact aw_ireturn rfl d_M_top_92 (Nat.le_refl 0) (Nat.le_refl 0) ⟨rfl, rfl⟩
set_option maxRecDepth 20000 in
theorem wM_top_78 {N : Nat} {μ : me_M} {r0 : Int32} {k2 : Int32 → Int32 → Option Int32} (hk2 : ∀ (l1 : Int32) (l2 : Int32), k2 l1 l2 = some r0 → AW "ArcTapeModel" "top" c_M_top 5 (some .int) 0 0 0 0 (aw_is (some (.int r0)) (hM  μ)) 2 [some (.ref 0), some (.int l1), some (.int l2), none, none] [] (hM  μ) 0 0) (l1 : Int32) (l2 : Int32) (l3 : Int32) (hf : fM_top_78 N μ k2 l1 l2 l3 = some r0) : AW "ArcTapeModel" "top" c_M_top 5 (some .int) 0 0 0 0 (aw_is (some (.int r0)) (hM  μ)) 78 [some (.ref 0), some (.int l1), some (.int l2), some (.int l3), none] [] (hM  μ) 0 0 := by
  unfold fM_top_78 at hf
  refine aw_iload_n (pc' := 79) d_M_top_78 rfl rfl ?_
  refine aw_iload_n (pc' := 80) d_M_top_79 rfl rfl ?_
  refine aw_icmp_ne (tgt := 85) (pc' := 83) d_M_top_80 (by decide) rfl (fun c1 => ?_) (fun c1 => ?_)
  · replace hf := aw_ifn c1 hf
    refine aw_iinc (pc' := 88) (L' := [some (.ref 0), some (.int l1), some (.int (l2 + (1 : Int32))), some (.int l3), none]) d_M_top_85 rfl kc_ic_1 rfl (by decide) rfl ?_
    refine aw_goto (tgt := 2) d_M_top_88 (by decide) ?_
    exact aw_weak [true, true, true, false, false] rfl (hk2 _ _ hf)
  · replace hf := aw_ifp c1 hf
    refine aw_iload_n (pc' := 84) d_M_top_83 rfl rfl ?_
    cases hf
    exact aw_ireturn rfl d_M_top_84 (Nat.le_refl 0) (Nat.le_refl 0) ⟨rfl, rfl⟩
set_option maxRecDepth 20000 in
theorem wM_top_70 {N : Nat} {μ : me_M} {r0 : Int32} {k2 : Int32 → Int32 → Option Int32} (hk2 : ∀ (l1 : Int32) (l2 : Int32), k2 l1 l2 = some r0 → AW "ArcTapeModel" "top" c_M_top 5 (some .int) 0 0 0 0 (aw_is (some (.int r0)) (hM  μ)) 2 [some (.ref 0), some (.int l1), some (.int l2), none, none] [] (hM  μ) 0 0) {k15 : Int32 → Int32 → Int32 → Int32 → Option Int32} (hk15 : ∀ (l1 : Int32) (l2 : Int32) (l3 : Int32) (l4 : Int32), k15 l1 l2 l3 l4 = some r0 → AW "ArcTapeModel" "top" c_M_top 5 (some .int) 0 0 0 0 (aw_is (some (.int r0)) (hM  μ)) 15 [some (.ref 0), some (.int l1), some (.int l2), some (.int l3), some (.int l4)] [] (hM  μ) 0 0) (l1 : Int32) (l2 : Int32) (l4 : Int32) (s0 : Int32) (s1 : Int32) (hf : fM_top_70 N μ k2 k15 l1 l2 l4 s0 s1 = some r0) : AW "ArcTapeModel" "top" c_M_top 5 (some .int) 0 0 0 0 (aw_is (some (.int r0)) (hM  μ)) 70 [some (.ref 0), some (.int l1), some (.int l2), none, some (.int l4)] [.int s1, .int s0] (hM  μ) 0 0 := by
  unfold fM_top_70 at hf
  refine aw_iadd (pc' := 71) d_M_top_70 rfl ?_
  refine aw_istore_n (pc' := 72) (L' := [some (.ref 0), some (.int l1), some (.int l2), some (.int (s0 + s1)), some (.int l4)]) d_M_top_71 rfl (by decide) rfl ?_
  refine aw_iinc (pc' := 75) (L' := [some (.ref 0), some (.int l1), some (.int l2), some (.int (s0 + s1)), some (.int (l4 + (1 : Int32)))]) d_M_top_72 rfl kc_ic_1 rfl (by decide) rfl ?_
  refine aw_goto (tgt := 15) d_M_top_75 (by decide) ?_
  exact aw_weak [true, true, true, true, true] rfl (hk15 _ _ _ _ hf)
set_option maxRecDepth 20000 in
theorem wM_top_69 {N : Nat} {μ : me_M} {r0 : Int32} {k2 : Int32 → Int32 → Option Int32} (hk2 : ∀ (l1 : Int32) (l2 : Int32), k2 l1 l2 = some r0 → AW "ArcTapeModel" "top" c_M_top 5 (some .int) 0 0 0 0 (aw_is (some (.int r0)) (hM  μ)) 2 [some (.ref 0), some (.int l1), some (.int l2), none, none] [] (hM  μ) 0 0) {k15 : Int32 → Int32 → Int32 → Int32 → Option Int32} (hk15 : ∀ (l1 : Int32) (l2 : Int32) (l3 : Int32) (l4 : Int32), k15 l1 l2 l3 l4 = some r0 → AW "ArcTapeModel" "top" c_M_top 5 (some .int) 0 0 0 0 (aw_is (some (.int r0)) (hM  μ)) 15 [some (.ref 0), some (.int l1), some (.int l2), some (.int l3), some (.int l4)] [] (hM  μ) 0 0) (l1 : Int32) (l2 : Int32) (l4 : Int32) (s0 : Int32) (hf : fM_top_69 N μ k2 k15 l1 l2 l4 s0 = some r0) : AW "ArcTapeModel" "top" c_M_top 5 (some .int) 0 0 0 0 (aw_is (some (.int r0)) (hM  μ)) 69 [some (.ref 0), some (.int l1), some (.int l2), none, some (.int l4)] [.int s0] (hM  μ) 0 0 := by
  unfold fM_top_69 at hf
  refine aw_iconst (pc' := 70) d_M_top_69 rfl kc_ic_0 ?_
  exact aw_weak [true, true, true, false, true] rfl (wM_top_70 hk2 hk15 _ _ _ _ _ hf)
set_option maxRecDepth 20000 in
theorem wM_top_65 {N : Nat} {μ : me_M} {r0 : Int32} {k2 : Int32 → Int32 → Option Int32} (hk2 : ∀ (l1 : Int32) (l2 : Int32), k2 l1 l2 = some r0 → AW "ArcTapeModel" "top" c_M_top 5 (some .int) 0 0 0 0 (aw_is (some (.int r0)) (hM  μ)) 2 [some (.ref 0), some (.int l1), some (.int l2), none, none] [] (hM  μ) 0 0) {k15 : Int32 → Int32 → Int32 → Int32 → Option Int32} (hk15 : ∀ (l1 : Int32) (l2 : Int32) (l3 : Int32) (l4 : Int32), k15 l1 l2 l3 l4 = some r0 → AW "ArcTapeModel" "top" c_M_top 5 (some .int) 0 0 0 0 (aw_is (some (.int r0)) (hM  μ)) 15 [some (.ref 0), some (.int l1), some (.int l2), some (.int l3), some (.int l4)] [] (hM  μ) 0 0) (l1 : Int32) (l2 : Int32) (l4 : Int32) (s0 : Int32) (hf : fM_top_65 N μ k2 k15 l1 l2 l4 s0 = some r0) : AW "ArcTapeModel" "top" c_M_top 5 (some .int) 0 0 0 0 (aw_is (some (.int r0)) (hM  μ)) 65 [some (.ref 0), some (.int l1), some (.int l2), none, some (.int l4)] [.int s0] (hM  μ) 0 0 := by
  unfold fM_top_65 at hf
  refine aw_iconst (pc' := 66) d_M_top_65 rfl kc_ic_1 ?_
  refine aw_goto (tgt := 70) d_M_top_66 (by decide) ?_
  exact aw_weak [true, true, true, false, true] rfl (wM_top_70 hk2 hk15 _ _ _ _ _ hf)
set_option maxRecDepth 20000 in
theorem wM_top_15b {N : Nat} {μ : me_M} {r0 : Int32} {k2 : Int32 → Int32 → Option Int32} (hk2 : ∀ (l1 : Int32) (l2 : Int32), k2 l1 l2 = some r0 → AW "ArcTapeModel" "top" c_M_top 5 (some .int) 0 0 0 0 (aw_is (some (.int r0)) (hM  μ)) 2 [some (.ref 0), some (.int l1), some (.int l2), none, none] [] (hM  μ) 0 0) {k15 : Int32 → Int32 → Int32 → Int32 → Option Int32} (hk15 : ∀ (l1 : Int32) (l2 : Int32) (l3 : Int32) (l4 : Int32), k15 l1 l2 l3 l4 = some r0 → AW "ArcTapeModel" "top" c_M_top 5 (some .int) 0 0 0 0 (aw_is (some (.int r0)) (hM  μ)) 15 [some (.ref 0), some (.int l1), some (.int l2), some (.int l3), some (.int l4)] [] (hM  μ) 0 0) (l1 : Int32) (l2 : Int32) (l3 : Int32) (l4 : Int32) (hf : fM_top_15b N μ k2 k15 l1 l2 l3 l4 = some r0) : AW "ArcTapeModel" "top" c_M_top 5 (some .int) 0 0 0 0 (aw_is (some (.int r0)) (hM  μ)) 15 [some (.ref 0), some (.int l1), some (.int l2), some (.int l3), some (.int l4)] [] (hM  μ) 0 0 := by
  unfold fM_top_15b at hf
  refine aw_iload (pc' := 17) d_M_top_15 rfl rfl ?_
  refine aw_aload_n (pc' := 18) d_M_top_17 rfl rfl ?_
  refine aw_get (pc' := 21) d_M_top_18 rfl fl_M_56 hM_0 rfl ?_
  refine aw_icmp_ge (tgt := 78) (pc' := 24) d_M_top_21 (by decide) rfl (fun c2 => ?_) (fun c2 => ?_)
  · replace hf := aw_ifp c2 hf
    exact aw_weak [true, true, true, true, false] rfl (wM_top_78 hk2 _ _ _ hf)
  · replace hf := aw_ifn c2 hf
    refine aw_iload_n (pc' := 25) d_M_top_24 rfl rfl ?_
    refine aw_aload_n (pc' := 26) d_M_top_25 rfl rfl ?_
    refine aw_get (pc' := 29) d_M_top_26 rfl fl_M_40 hM_0 rfl ?_
    refine aw_iload (pc' := 31) d_M_top_29 rfl rfl ?_
    obtain ⟨g3, hf⟩ := aw_gi hf
    refine aw_lald (pc' := 32) d_M_top_31 rfl rfl hM_11 g3 ?_
    refine aw_aload_n (pc' := 33) d_M_top_32 rfl rfl ?_
    refine aw_get (pc' := 36) d_M_top_33 rfl fl_M_40 hM_0 rfl ?_
    refine aw_iload_n (pc' := 37) d_M_top_36 rfl rfl ?_
    obtain ⟨g4, hf⟩ := aw_gi hf
    refine aw_lald (pc' := 38) d_M_top_37 rfl rfl hM_11 g4 ?_
    refine aw_lcmp (pc' := 39) d_M_top_38 rfl ?_
    refine aw_if_gt (tgt := 65) (pc' := 42) d_M_top_39 (by decide) rfl (fun c5 => ?_) (fun c5 => ?_)
    · replace hf := aw_ifp c5 hf
      exact aw_weak [true, true, true, false, true] rfl (wM_top_65 hk2 hk15 _ _ _ _ hf)
    · replace hf := aw_ifn c5 hf
      refine aw_aload_n (pc' := 43) d_M_top_42 rfl rfl ?_
      refine aw_get (pc' := 46) d_M_top_43 rfl fl_M_40 hM_0 rfl ?_
      refine aw_iload (pc' := 48) d_M_top_46 rfl rfl ?_
      obtain ⟨g6, hf⟩ := aw_gi hf
      refine aw_lald (pc' := 49) d_M_top_48 rfl rfl hM_11 g6 ?_
      refine aw_aload_n (pc' := 50) d_M_top_49 rfl rfl ?_
      refine aw_get (pc' := 53) d_M_top_50 rfl fl_M_40 hM_0 rfl ?_
      refine aw_iload_n (pc' := 54) d_M_top_53 rfl rfl ?_
      obtain ⟨g7, hf⟩ := aw_gi hf
      refine aw_lald (pc' := 55) d_M_top_54 rfl rfl hM_11 g7 ?_
      refine aw_lcmp (pc' := 56) d_M_top_55 rfl ?_
      refine aw_if_ne (tgt := 69) (pc' := 59) d_M_top_56 (by decide) rfl (fun c8 => ?_) (fun c8 => ?_)
      · replace hf := aw_ifn c8 hf
        exact aw_weak [true, true, true, false, true] rfl (wM_top_69 hk2 hk15 _ _ _ _ hf)
      · replace hf := aw_ifp c8 hf
        refine aw_iload (pc' := 61) d_M_top_59 rfl rfl ?_
        refine aw_iload_n (pc' := 62) d_M_top_61 rfl rfl ?_
        refine aw_icmp_ge (tgt := 69) (pc' := 65) d_M_top_62 (by decide) rfl (fun c9 => ?_) (fun c9 => ?_)
        · replace hf := aw_ifp c9 hf
          exact aw_weak [true, true, true, false, true] rfl (wM_top_69 hk2 hk15 _ _ _ _ hf)
        · replace hf := aw_ifn c9 hf
          exact aw_weak [true, true, true, false, true] rfl (wM_top_65 hk2 hk15 _ _ _ _ hf)
set_option maxRecDepth 20000 in
theorem wM_top_15 {N : Nat} {μ : me_M} {r0 : Int32} {k2 : Int32 → Int32 → Option Int32} (hk2 : ∀ (l1 : Int32) (l2 : Int32), k2 l1 l2 = some r0 → AW "ArcTapeModel" "top" c_M_top 5 (some .int) 0 0 0 0 (aw_is (some (.int r0)) (hM  μ)) 2 [some (.ref 0), some (.int l1), some (.int l2), none, none] [] (hM  μ) 0 0) : ∀ (F : Nat) (l1 : Int32) (l2 : Int32) (l3 : Int32) (l4 : Int32) (hf : fM_top_15 N μ k2 F l1 l2 l3 l4 = some r0), AW "ArcTapeModel" "top" c_M_top 5 (some .int) 0 0 0 0 (aw_is (some (.int r0)) (hM  μ)) 15 [some (.ref 0), some (.int l1), some (.int l2), some (.int l3), some (.int l4)] [] (hM  μ) 0 0 := by
  intro F
  induction F with
  | zero => intro l1 l2 l3 l4 hf; exact aw_no hf
  | succ F ih => intro l1 l2 l3 l4 hf; exact wM_top_15b hk2 ih l1 l2 l3 l4 hf
set_option maxRecDepth 20000 in
theorem wM_top_2b {N : Nat} {μ : me_M} {r0 : Int32} {k2 : Int32 → Int32 → Option Int32} (hk2 : ∀ (l1 : Int32) (l2 : Int32), k2 l1 l2 = some r0 → AW "ArcTapeModel" "top" c_M_top 5 (some .int) 0 0 0 0 (aw_is (some (.int r0)) (hM  μ)) 2 [some (.ref 0), some (.int l1), some (.int l2), none, none] [] (hM  μ) 0 0) (l1 : Int32) (l2 : Int32) (hf : fM_top_2b N μ k2 l1 l2 = some r0) : AW "ArcTapeModel" "top" c_M_top 5 (some .int) 0 0 0 0 (aw_is (some (.int r0)) (hM  μ)) 2 [some (.ref 0), some (.int l1), some (.int l2), none, none] [] (hM  μ) 0 0 := by
  unfold fM_top_2b at hf
  refine aw_iload_n (pc' := 3) d_M_top_2 rfl rfl ?_
  refine aw_aload_n (pc' := 4) d_M_top_3 rfl rfl ?_
  refine aw_get (pc' := 7) d_M_top_4 rfl fl_M_56 hM_0 rfl ?_
  refine aw_icmp_ge (tgt := 91) (pc' := 10) d_M_top_7 (by decide) rfl (fun c10 => ?_) (fun c10 => ?_)
  · replace hf := aw_ifp c10 hf
    exact aw_weak [false, false, false, false, false] rfl (wM_top_91  hf)
  · replace hf := aw_ifn c10 hf
    refine aw_iconst (pc' := 11) d_M_top_10 rfl kc_ic_0 ?_
    refine aw_istore_n (pc' := 12) (L' := [some (.ref 0), some (.int l1), some (.int l2), some (.int (0 : Int32)), none]) d_M_top_11 rfl (by decide) rfl ?_
    refine aw_iconst (pc' := 13) d_M_top_12 rfl kc_ic_0 ?_
    refine aw_istore (pc' := 15) (L' := [some (.ref 0), some (.int l1), some (.int l2), some (.int (0 : Int32)), some (.int (0 : Int32))]) d_M_top_13 rfl (by decide) rfl ?_
    exact aw_weak [true, true, true, true, true] rfl (wM_top_15 hk2 _ _ _ _ _ hf)
set_option maxRecDepth 20000 in
theorem wM_top_2 {N : Nat} {μ : me_M} {r0 : Int32} : ∀ (F : Nat) (l1 : Int32) (l2 : Int32) (hf : fM_top_2 N μ F l1 l2 = some r0), AW "ArcTapeModel" "top" c_M_top 5 (some .int) 0 0 0 0 (aw_is (some (.int r0)) (hM  μ)) 2 [some (.ref 0), some (.int l1), some (.int l2), none, none] [] (hM  μ) 0 0 := by
  intro F
  induction F with
  | zero => intro l1 l2 hf; exact aw_no hf
  | succ F ih => intro l1 l2 hf; exact wM_top_2b ih l1 l2 hf
set_option maxRecDepth 20000 in
theorem mM_top {N : Nat} {μ : me_M} {r0 : Int32} {l1 : Int32} (hf : fM_top N μ l1 = some r0) : AM y_M_top c_M_top 5 (some .int) 0 0 0 0 [.ref 0, .int l1] (hM  μ) (aw_is (some (.int r0)) (hM  μ)) := by
  unfold fM_top at hf
  refine AM.of (own := "ArcTapeModel") (nm := "top") (L := [some (.ref 0), some (.int l1), none, none, none]) rfl rfl (by decide) (Nat.le_of_ble_eq_true rfl) rfl ?_
  refine aw_iconst (pc' := 1) d_M_top_0 rfl kc_ic_0 ?_
  refine aw_istore_n (pc' := 2) (L' := [some (.ref 0), some (.int l1), some (.int (0 : Int32)), none, none]) d_M_top_1 rfl (by decide) rfl ?_
  exact aw_weak [true, true, true, false, false] rfl (wM_top_2 _ _ _ hf)
set_option maxRecDepth 20000 in
theorem mM_change {N : Nat} {μ : me_M} {r0 : Int64} (hf : fM_change N μ = some r0) : AM y_M_change c_M_change 1 (some .long) 0 0 0 0 [.ref 0] (hM  μ) (aw_is (some (.long r0)) (hM  μ)) := by
  unfold fM_change at hf
  refine AM.of (own := "ArcTapeModel") (nm := "change") (L := [some (.ref 0)]) rfl rfl (by decide) (Nat.le_of_ble_eq_true rfl) rfl ?_
  refine aw_aload_n (pc' := 1) d_M_change_0 rfl rfl ?_
  refine aw_get (pc' := 4) d_M_change_1 rfl fl_M_197 hM_0 rfl ?_
  cases hf
  exact aw_lreturn rfl d_M_change_4 (Nat.le_refl 0) (Nat.le_refl 0) ⟨rfl, rfl⟩
