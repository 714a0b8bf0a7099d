/- intervals, read side by side: the whole -/
def iv_post (n D : Nat) (μ ν : me_M) (o : Option me_M) (p : Option (Int32 × me_M)) : Prop := ∃ (μ' ν' : me_M) (r : Int32) (f' : Nat), o = some μ' ∧ p = some (r, ν') ∧ me_fr [1208, 1209, 1211, 1212, 1213] [] μ μ' ∧ me_fr [111, 112, 113, 114] [] ν ν' ∧ rd n μ' ν' f' ∧ (f' = 0 → ∃ L T s, s ≤ D ∧ r = nI s ∧ L < 2 ^ n ∧ T < 2 ∧ μ'.1 1211 0 = nI L ∧ ν'.1 113 0 = nI L ∧ μ'.1 1213 0 = nI T ∧ ν'.1 114 0 = nI T ∧ μ'.1 1212 0 = nI (D - s))
theorem iv_wany {N : Nat} (x lo hi : Int32) : fA_within N x lo hi = some 0 ∨ fA_within N x lo hi = some 1 := by
  by_cases a : x < lo
  · exact Or.inl (ap_wlo a)
  · by_cases b : hi < x
    · exact Or.inl (ap_whi a b)
    · exact Or.inr (ap_win a b)
theorem iv_123 {N n f F : Nat} {l1 l2 l3 l4 l5 s1 : Int32} {μ : me_M} (hF : 0 < F) (h : μ.1 1209 0 = nI f) (hf : f ≤ 10) (h0 : f ≠ 0) (hs : s1 = 0 ∨ s1 = 1) : fD_readIntervals_123 N n (fD_readIntervals_9 N n F) l1 l2 l3 l4 l5 s1 μ = some μ := by
  have hfi : fD_failIf N n s1 7 μ = some μ := by
    rcases hs with rfl | rfl
    · exact bt_failF
    · rw [show (7 : Int32) = nI 7 from rfl, bt_failT h hf, if_neg h0]
  unfold fD_readIntervals_123 fD_readIntervals_148
  rw [hfi, ba_b, h, if_neg (fun e => h0 ((nI_eq0 (by omega)).mp e))]
  exact iv_outC hF h hf h0
/- behind the second number, with a fault -/
theorem iv_bad {N n D f F E : Nat} {μ ν μ3 ν3 : me_M} {c : Int32 → Int32 → Int32 → Int32} (hN : 4096 ≤ N) (hF : 0 < F) (hE : 0 < E) (h : rd n μ3 ν3 f) (h0 : f ≠ 0) (k1 : me_fr [1208, 1209, 1211, 1212, 1213] [] μ μ3) (k2 : me_fr [111, 112, 113, 114] [] ν ν3) (g i fi u d s la m1 x y : Int32) :
    iv_post n D μ ν (if (nI n) - (1 : Int32) < (fi + (x + (μ3.1 502 0))) - (1 : Int32) then fD_readIntervals_118 N n (fD_readIntervals_9 N n F) g ((fi + (x + (μ3.1 502 0))) - (1 : Int32)) i fi (x + (μ3.1 502 0)) μ3 else if (x + (μ3.1 502 0)) ≤ (μ3.1 1212 0) then fD_readIntervals_123 N n (fD_readIntervals_9 N n F) g ((fi + (x + (μ3.1 502 0))) - (1 : Int32)) i fi (x + (μ3.1 502 0)) (0 : Int32) μ3 else fD_readIntervals_118 N n (fD_readIntervals_9 N n F) g ((fi + (x + (μ3.1 502 0))) - (1 : Int32)) i fi (x + (μ3.1 502 0)) μ3)
      (fM_readIntervals_136 N (fM_readIntervals_14 N E) u d g s la i m1 ν3) := by
  obtain ⟨-, s2, s3, s4, -⟩ := id h
  have hC : (if (nI n) - (1 : Int32) < (fi + (x + (μ3.1 502 0))) - (1 : Int32) then fD_readIntervals_118 N n (fD_readIntervals_9 N n F) g ((fi + (x + (μ3.1 502 0))) - (1 : Int32)) i fi (x + (μ3.1 502 0)) μ3 else if (x + (μ3.1 502 0)) ≤ (μ3.1 1212 0) then fD_readIntervals_123 N n (fD_readIntervals_9 N n F) g ((fi + (x + (μ3.1 502 0))) - (1 : Int32)) i fi (x + (μ3.1 502 0)) (0 : Int32) μ3 else fD_readIntervals_118 N n (fD_readIntervals_9 N n F) g ((fi + (x + (μ3.1 502 0))) - (1 : Int32)) i fi (x + (μ3.1 502 0)) μ3) = some μ3 := by
    unfold fD_readIntervals_118
    rw [iv_123 hF s3 s2 h0 (Or.inl rfl), iv_123 hF s3 s2 h0 (Or.inr rfl)]
    split
    · rfl
    · split <;> rfl
  rw [hC, iv_out136 hN hE s4 s2 h0]
  exact ⟨μ3, ν3, _, f, rfl, rfl, k1, k2, h, fun e => absurd e h0⟩
theorem iv_loop {N n D u l g : Nat} {μ ν : me_M} (hN : 4096 ≤ N) (h1 : 1 ≤ n) (h12 : n ≤ 12) (hD : D ≤ 12) (hu : u < n) (hl1 : 1 ≤ l) (hl9 : l ≤ 9) (hg : g < 127) (eu : μ.1 1207 0 = nI u) (el : μ.1 502 0 = nI l) (em : ν.1 107 0 = nI l) : ∀ (m F E i s L T : Nat) (la : Int32) (μ1 ν1 : me_M), i + m = g → m + 1 < F → m + 1 < E → s ≤ D → L < 2 ^ n → T < 2 → (i = 0 ∨ ∃ z, z < 12 ∧ la = nI z) → rd n μ1 ν1 0 → me_fr [1208, 1209, 1211, 1212, 1213] [] μ μ1 → me_fr [111, 112, 113, 114] [] ν ν1 → μ1.1 1211 0 = nI L → ν1.1 113 0 = nI L → μ1.1 1213 0 = nI T → ν1.1 114 0 = nI T → μ1.1 1212 0 = nI (D - s) → iv_post n D μ ν (fD_readIntervals_9 N n F (nI g) la (nI i) μ1) (fM_readIntervals_14 N E (nI u) (nI D) (nI g) (nI s) la (nI i) ν1) := by
  have hp := dr_pow h12
  intro m
  induction m with
  | zero =>
    intro F E i s L T la μ1 ν1 hi hF hE hs hL hT hla hr k1 k2 c1 c2 c3 c4 c5
    obtain ⟨F, rfl⟩ : ∃ q, F = q + 1 := ⟨F - 1, by omega⟩
    obtain ⟨E, rfl⟩ : ∃ q, E = q + 1 := ⟨E - 1, by omega⟩
    have hig : i = g := by omega
    subst hig
    show iv_post n D μ ν (fD_readIntervals_9b N n (fD_readIntervals_9 N n F) (nI i) la (nI i) μ1) (fM_readIntervals_14b N (fM_readIntervals_14 N E) (nI u) (nI D) (nI i) (nI s) la (nI i) ν1)
    unfold fD_readIntervals_9b fM_readIntervals_14b fD_readIntervals_154 fM_readIntervals_172
    rw [if_pos (nI_le (Nat.le_refl _) (by omega)), if_pos (nI_le (Nat.le_refl _) (by omega))]
    exact ⟨μ1, ν1, _, 0, rfl, rfl, k1, k2, hr, fun _ => ⟨L, T, s, hs, rfl, hL, hT, c1, c2, c3, c4, c5⟩⟩
  | succ m ih =>
    intro F E i s L T la μ1 ν1 hi hF hE hs hL hT hla hr k1 k2 c1 c2 c3 c4 c5
    obtain ⟨F, rfl⟩ : ∃ q, F = q + 1 := ⟨F - 1, by omega⟩
    obtain ⟨E, rfl⟩ : ∃ q, E = q + 1 := ⟨E - 1, by omega⟩
    obtain ⟨x, μ2, x', ν2, f2, a1, a2, a3, a4, a5, -, a7⟩ := bt_gamma hN hr
    obtain ⟨-, r2, r3, r4, -⟩ := id hr
    obtain ⟨hI2, s2, s3, s4, -⟩ := id a5
    have k1' : me_fr [1208, 1209, 1211, 1212, 1213] [] μ μ2 := k1.tr (a3.mono (by decide) (by decide))
    have k2' : me_fr [111, 112, 113, 114] [] ν ν2 := k2.tr (a4.mono (by decide) (by decide))
    -- behind the fault test of the first number
    have tail : ∀ (c1' m1 : Int32) (s1 : Int32) (μ3 ν3 : me_M) (f3 : Nat), fD_failIf N n s1 7 μ2 = some μ3 → rd n μ3 ν3 f3 → me_fr [1209] [] μ2 μ3 → me_fr [112] [] ν2 ν3 → (f3 = 0 → ∃ a, a < n ∧ c1' = nI a ∧ m1 = nI a) → iv_post n D μ ν (fD_readIntervals_71 N n (fD_readIntervals_9 N n F) (nI g) (nI i) c1' s1 μ2) (fM_readIntervals_79 N (fM_readIntervals_14 N E) (nI u) (nI D) (nI g) (nI s) (nI i) m1 ν3) := by
      intro c1' m1 s1 μ3 ν3 f3 hfi hr3 kf kg hv
      obtain ⟨y, μ4, y', ν4, f4, b1, b2, b3, b4, b5, b6, b7⟩ := bt_gamma hN hr3
      obtain ⟨hI4, t2, t3, t4, -⟩ := id b5
      have k1'' : me_fr [1208, 1209, 1211, 1212, 1213] [] μ μ4 := (k1'.tr (kf.mono (by decide) (by decide))).tr (b3.mono (by decide) (by decide))
      have k2'' : me_fr [111, 112, 113, 114] [] ν ν4 := (k2'.tr (kg.mono (by decide) (by decide))).tr (b4.mono (by decide) (by decide))
      unfold fD_readIntervals_71 fM_readIntervals_79
      rw [hfi, ba_b, b1, b2, ba_b, ba_b]
      dsimp only
      by_cases hf4 : f4 = 0
      · have hf3 : f3 = 0 := by
          apply Classical.byContradiction
          intro e
          have := b6 e
          omega
        obtain ⟨a, ha, rfl, rfl⟩ := hv hf3
        obtain ⟨t, ht, rfl, rfl⟩ := b7 hf4
        subst hf4
        have el4 : μ4.1 502 0 = nI l := by rw [k1''.1 502 (by decide)]; exact el
        have em4 : ν4.1 107 0 = nI l := by rw [k2''.1 107 (by decide)]; exact em
        have en4 : ν4.1 100 0 = nI n := hI4.1
        have d1 : μ4.1 1211 0 = nI L := by rw [b3.1 1211 (by decide), kf.1 1211 (by decide), a3.1 1211 (by decide)]; exact c1
        have d3 : μ4.1 1213 0 = nI T := by rw [b3.1 1213 (by decide), kf.1 1213 (by decide), a3.1 1213 (by decide)]; exact c3
        have d5 : μ4.1 1212 0 = nI (D - s) := by rw [b3.1 1212 (by decide), kf.1 1212 (by decide), a3.1 1212 (by decide)]; exact c5
        have d2 : ν4.1 113 0 = nI L := by rw [b4.1 113 (by decide), kg.1 113 (by decide), a4.1 113 (by decide)]; exact c2
        have d4 : ν4.1 114 0 = nI T := by rw [b4.1 114 (by decide), kg.1 114 (by decide), a4.1 114 (by decide)]; exact c4
        rw [t4, if_pos nI_0, en4, el4, em4, d5, nI_add, nI_add, nI_add, show (1 : Int32) = nI 1 from rfl, pk_sub (by omega), pk_sub (by omega)]
        have bad : ∀ w v : Int32, iv_post n D μ ν (fD_readIntervals_118 N n (fD_readIntervals_9 N n F) (nI g) w (nI i) (nI a) (nI (t + l)) μ4) (fM_readIntervals_130 N (fM_readIntervals_14 N E) (nI u) (nI D) (nI g) v w (nI i) (nI a) ν4) := by
          intro w v
          have hr7 := b5.fault (f := 7) (by decide) (by decide)
          unfold fD_readIntervals_118 fM_readIntervals_130 fD_readIntervals_123 fD_readIntervals_148
          rw [show (7 : Int32) = nI 7 from rfl, bt_failT t3 t2, if_pos rfl, ba_b, me_wi_s, if_neg (by decide), iv_outC (by omega) (me_wi_s _ _ _ _) (by decide) (by decide), iv_out136 hN (by omega) (me_wi_s _ _ _ _) (by decide) (by decide)]
          exact ⟨_, _, _, 7, rfl, rfl, k1''.wi (by decide), k2''.wi (by decide), hr7, fun e => by omega⟩
        by_cases q1 : n < a + (t + l)
        · rw [if_pos (nI_lt (by omega) (by omega)), if_pos (nI_lt (by omega) (by omega))]
          exact bad _ _
        · rw [if_neg (nI_nlt (by omega) (by omega)), if_neg (nI_nlt (by omega) (by omega))]
          by_cases q2 : s + (t + l) ≤ D
          · rw [if_pos (nI_le (by omega) (by omega)), if_pos (nI_le q2 (by omega))]
            obtain ⟨x1, x2, x3⟩ := iv_shift a (by omega) (t + l) (by omega) (by omega)
            have hpw : 2 ^ (a + (t + l)) ≤ 2 ^ n := Nat.pow_le_pow_right (n := 2) (by decide) (by omega)
            obtain ⟨ν5, g1, g2, g3, g4⟩ := iv_row (N := N) (n := n) (L := L) (T := T) (a := a) (len := t + l) (l1 := nI u) (l2 := nI D) (l3 := nI g) (l4 := nI (s + (t + l))) (l6 := nI i) (ν := ν4) (k14 := fM_readIntervals_14 N E) hN h12 (by omega) (by omega) hL hT t4 d2 d4
            obtain ⟨μ5, h1', h2', h3', h4', h5'⟩ := te_C (N := N) (n := n) (L := L) (T := T) (X := iv_X a (t + l)) (μ := μ4) (by omega) (by omega) hT d1 d3
            unfold fD_readIntervals_123 fD_readIntervals_148
            rw [bt_failF, ba_b, t3, if_pos nI_0, x1, h1', ba_b, g1, nI_1]
            refine ih F E (i + 1) (s + (t + l)) (L ||| iv_X a (t + l)) (te_T T L (iv_X a (t + l))) _ μ5 ν5 (by omega) (by omega) (by omega) q2 (Nat.or_lt_two_pow hL (by omega)) (te_T2 _ _ _) (Or.inr ⟨a + (t + l) - 1, by omega, rfl⟩) ?_ (k1''.tr (h2'.mono (by decide) (by decide))) (k2''.tr (g2.mono (by decide) (by decide))) h3' g3 h4' g4 ?_
            · exact b5.of (rl_fr h2' (by decide)) (rl_fr g2 (by decide))
            · rw [h5', d5, x2, pk_sub (by omega)]
              congr 1
              omega
          · rw [if_neg (nI_ge (by omega) (by omega)), if_neg (nI_ge (by omega) (by omega))]
            exact bad _ _
      · rw [t4, if_neg (fun e => hf4 ((nI_eq0 (by omega)).mp e))]
        exact iv_bad (c := fun _ _ _ => 0) hN (by omega) (by omega) b5 hf4 k1'' k2'' (nI g) (nI i) c1' (nI u) (nI D) _ _ m1 y y'
    have step : ∀ (c1' m1 : Int32), (f2 = 0 → c1' = m1) → iv_post n D μ ν (fD_readIntervals_48 N n (fD_readIntervals_9 N n F) (nI g) (nI i) c1' μ2) (fM_readIntervals_55 N (fM_readIntervals_14 N E) (nI u) (nI D) (nI g) (nI s) (nI i) m1 ν2) := by
      intro c1' m1 hcm
      unfold fD_readIntervals_48 fM_readIntervals_55
      rw [s4]
      by_cases hf2 : f2 = 0
      · have e := hcm hf2
        subst e
        subst hf2
        rw [if_pos nI_0]
        have hnn : nI n - (1 : Int32) = nI (n - 1) := by rw [show (1 : Int32) = nI 1 from rfl, pk_sub (by omega)]
        have bad : (c1' < 0 ∨ nI n ≤ c1') → iv_post n D μ ν ((fA_within N c1' 0 (nI n - 1)).bind fun r8 => if r8 = 0 then fD_readIntervals_71 N n (fD_readIntervals_9 N n F) (nI g) (nI i) c1' 1 μ2 else fD_readIntervals_71 N n (fD_readIntervals_9 N n F) (nI g) (nI i) c1' 0 μ2) ((fM_node N ν2 c1').bind fun r9 => if r9 = 0 then fM_readIntervals_79 N (fM_readIntervals_14 N E) (nI u) (nI D) (nI g) (nI s) (nI i) c1' (me_wi ν2 112 0 7) else fM_readIntervals_79 N (fM_readIntervals_14 N E) (nI u) (nI D) (nI g) (nI s) (nI i) c1' ν2) := by
          intro q
          have hw : fA_within N c1' 0 (nI n - 1) = some 0 := by
            by_cases q0 : c1' < 0
            · exact ap_wlo q0
            · rcases q with q | q
              · exact absurd q q0
              · refine ap_whi q0 ?_
                rw [hnn, ap_lt, nI_toInt (by omega)]
                rw [ap_le, nI_toInt (by omega)] at q
                omega
          rw [hw, ap_mnode0 hI2.1 q, ba_b, ba_b, ba_00, ba_00]
          refine tail c1' c1' 1 (me_wi μ2 1209 0 (nI 7)) (me_wi ν2 112 0 (nI 7)) 7 ?_ (a5.fault (by decide) (by decide)) (me_fr.rf.wi (by decide)) (me_fr.rf.wi (by decide)) (fun e => by omega)
          rw [show (7 : Int32) = nI 7 from rfl, bt_failT s3 s2, if_pos rfl]
        rcases pk_ix c1' (n := n) (by omega) with q | q | ⟨a, ha, rfl⟩
        · exact bad (Or.inl q)
        · exact bad (Or.inr q)
        · rw [hnn, ap_win (nI_pos (by omega)) (nI_nlt (by omega) (by omega)), ap_mnode1 hI2.1 h12 ha, ba_b, ba_b, ba_10, ba_10]
          exact tail _ _ 0 μ2 ν2 0 bt_failF a5 me_fr.rf me_fr.rf (fun _ => ⟨a, ha, rfl, rfl⟩)
      · rw [if_neg (fun e => hf2 ((nI_eq0 (by omega)).mp e))]
        rcases iv_wany (N := N) c1' 0 (nI n - 1) with hw | hw
        · rw [hw, ba_b, ba_00]
          refine tail _ _ 1 μ2 ν2 f2 ?_ a5 me_fr.rf me_fr.rf (fun e => absurd e hf2)
          rw [show (7 : Int32) = nI 7 from rfl, bt_failT s3 s2, if_neg hf2]
        · rw [hw, ba_b, ba_10]
          exact tail _ _ 0 μ2 ν2 f2 bt_failF a5 me_fr.rf me_fr.rf (fun e => absurd e hf2)
    show iv_post n D μ ν (fD_readIntervals_9b N n (fD_readIntervals_9 N n F) (nI g) la (nI i) μ1) (fM_readIntervals_14b N (fM_readIntervals_14 N E) (nI u) (nI D) (nI g) (nI s) la (nI i) ν1)
    unfold fD_readIntervals_9b fM_readIntervals_14b
    rw [if_neg (nI_ge (by omega) (by omega)), if_neg (nI_ge (by omega) (by omega)), r3, r4, if_pos nI_0, if_pos nI_0, a1, a2, ba_b, ba_b, ba_b]
    dsimp only
    by_cases hi0 : i = 0
    · subst hi0
      rw [if_pos nI_0, if_pos nI_0, k1.1 1207 (by decide), eu]
      by_cases hf2 : f2 = 0
      · obtain ⟨t, ht, rfl, rfl⟩ := a7 hf2
        obtain ⟨w, w1, w2⟩ := iv_sign (N := N) (g := t) (by omega)
        rw [w1, w2, ba_b, ba_b]
        exact step _ _ (fun _ => rfl)
      · obtain ⟨⟨w, w1⟩, -⟩ := iv_any (N := N) x
        obtain ⟨-, ⟨w', w2⟩⟩ := iv_any (N := N) x'
        rw [w1, w2, ba_b, ba_b]
        exact step _ _ (fun e => absurd e hf2)
    · rw [if_neg (fun e => hi0 ((nI_eq0 (by omega)).mp e)), if_neg (fun e => hi0 ((nI_eq0 (by omega)).mp e))]
      refine step _ _ (fun e => ?_)
      obtain ⟨t, ht, rfl, rfl⟩ := a7 e
      rfl
theorem iv_all {N n D u l L T : Nat} {μ ν : me_M} (hN : 4096 ≤ N) (h1 : 1 ≤ n) (h12 : n ≤ 12) (hD : D ≤ 12) (hu : u < n) (hl1 : 1 ≤ l) (hl9 : l ≤ 9) (eu : μ.1 1207 0 = nI u) (el : μ.1 502 0 = nI l) (em : ν.1 107 0 = nI l) (hL : L < 2 ^ n) (hT : T < 2) (h : rd n μ ν 0) (c1 : μ.1 1211 0 = nI L) (c2 : ν.1 113 0 = nI L) (c3 : μ.1 1213 0 = nI T) (c4 : ν.1 114 0 = nI T) (c5 : μ.1 1212 0 = nI D) : iv_post n D μ ν (fD_readIntervals N n μ) (fM_readIntervals N (nI u) (nI D) ν) := by
  obtain ⟨x, μ2, x', ν2, f2, a1, a2, a3, a4, a5, -, a7⟩ := bt_gamma hN h
  unfold fD_readIntervals fM_readIntervals
  rw [a1, a2, ba_b, ba_b]
  dsimp only
  have k1 : me_fr [1208, 1209, 1211, 1212, 1213] [] μ μ2 := a3.mono (by decide) (by decide)
  have k2 : me_fr [111, 112, 113, 114] [] ν ν2 := a4.mono (by decide) (by decide)
  by_cases hf2 : f2 = 0
  · obtain ⟨g, hg, rfl, rfl⟩ := a7 hf2
    subst hf2
    exact iv_loop hN h1 h12 hD hu hl1 hl9 hg eu el em g N N 0 0 L T 0 μ2 ν2 (by omega) (by omega) (by omega) (Nat.zero_le _) hL hT (Or.inl rfl) a5 k1 k2 (by rw [a3.1 1211 (by decide)]; exact c1) (by rw [a4.1 113 (by decide)]; exact c2) (by rw [a3.1 1213 (by decide)]; exact c3) (by rw [a4.1 114 (by decide)]; exact c4) (by rw [a3.1 1212 (by decide)]; exact c5)
  · obtain ⟨-, s2, s3, s4, -⟩ := id a5
    rw [iv_outC (by omega) s3 s2 hf2, iv_outM (by omega) s4 s2 hf2]
    exact ⟨μ2, ν2, _, f2, rfl, rfl, k1, k2, a5, fun e => absurd e hf2⟩
