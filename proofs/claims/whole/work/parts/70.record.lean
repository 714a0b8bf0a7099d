/- a record, read side by side -/
theorem rc_ones {N : Nat} (hN : 4096 ≤ N) (x : Int32) : ∃ r, fM_ones N x = some r := by
  refine lp_g (fun o => ∃ r, o = some r) (fun F k acc => fM_ones_4 N F x acc (nI k)) (fun _ _ => True) 12 ?_ ?_ 12 N 0 0 (by omega) (by omega) trivial
  · intro F k acc hk _ ih
    show ∃ r, fM_ones_4b N (fM_ones_4 N F) x acc (nI k) = some r
    unfold fM_ones_4b
    rw [if_neg (show ¬ (12 : Int32) ≤ nI k from nI_ge (b := 12) hk (by omega)), nI_1]
    exact ih _ trivial
  · intro F acc _
    show ∃ r, fM_ones_4b N (fM_ones_4 N F) x acc (nI 12) = some r
    unfold fM_ones_4b fM_ones_24
    rw [if_pos (by decide)]
    exact ⟨_, rfl⟩
theorem rc_failN {N n f : Nat} {s1 g : Int32} {μ : me_M} (h : μ.1 1209 0 = nI f) (hf : f ≤ 10) (h0 : f ≠ 0) : fD_failIf N n s1 g μ = some μ := by
  unfold fD_failIf fD_failIf_16
  by_cases q : s1 = 0
  · rw [if_pos q]
  · rw [if_neg q, h, if_neg (fun e => h0 ((nI_eq0 (by omega)).mp e))]
theorem rc_go0 {N n f : Nat} {μ : me_M} (h : μ.1 1209 0 = nI f) (hf : f ≤ 10) (h0 : f ≠ 0) : fD_goesOn N n μ = some 0 := by
  unfold fD_goesOn fD_goesOn_18 fD_goesOn_19
  rw [h, if_neg (fun e => h0 ((nI_eq0 (by omega)).mp e)), ba_gz0]
theorem rc_goD {N n D : Nat} {μ : me_M} (h : μ.1 1209 0 = nI 0) (hd : μ.1 1212 0 = nI D) (hD : D ≤ 127) : fD_goesOn N n μ = some (if D = 0 then 0 else 1) := by
  unfold fD_goesOn fD_goesOn_18 fD_goesOn_19
  rw [h, if_pos nI_0, hd]
  by_cases q : D = 0
  · subst q; rw [if_pos (by decide), if_pos rfl, ba_gz0]
  · rw [if_neg (nI_nle (by omega) (by omega)), if_neg q, ba_gz1]
def rc_post (n u : Nat) (μ ν : me_M) (k2 : Int32 → me_M → Option me_M) (N : Nat) (o p : Option me_M) : Prop := ∃ (μ' ν' : me_M) (f' : Nat), o = some μ' ∧ p = fM_read_139 N k2 (nI u) ν' ∧ me_fr [1208, 1209, 1210, 1211, 1212, 1213] [] μ μ' ∧ me_fr [111, 112, 113, 114, 8, 9] [] ν ν' ∧ rd n μ' ν' f' ∧ (∀ w, w ≠ u → ν'.1 8 w = ν.1 8 w ∧ ν'.1 9 w = ν.1 9 w) ∧ (f' = 0 → ∃ L r, L < 2 ^ n ∧ r ≤ 6 ∧ r ≤ u ∧ μ'.1 1211 0 = nI L ∧ ν'.1 113 0 = nI L ∧ μ'.1 1210 0 = nI r ∧ ν'.1 8 u = nI r ∧ (r = 0 → ν'.1 9 u = nI 0) ∧ (r ≠ 0 → ν'.1 9 u = 1 + ν.1 9 (u - r) ∧ ν.1 7 (u - r) = 0 ∧ ν.1 9 (u - r) < ν.1 106 0))
/- what the stages keep of the start -/
def rc_in (n u : Nat) (μ ν μ1 ν1 : me_M) (r : Nat) : Prop := me_fr [1208, 1209, 1210, 1211, 1212, 1213] [] μ μ1 ∧ me_fr [111, 112, 113, 114, 8, 9] [] ν ν1 ∧ (∀ w, w ≠ u → ν1.1 8 w = ν.1 8 w ∧ ν1.1 9 w = ν.1 9 w) ∧ r ≤ 6 ∧ r ≤ u ∧ μ1.1 1210 0 = nI r ∧ ν1.1 8 u = nI r ∧ (r = 0 → ν1.1 9 u = nI 0) ∧ (r ≠ 0 → ν1.1 9 u = 1 + ν.1 9 (u - r) ∧ ν.1 7 (u - r) = 0 ∧ ν.1 9 (u - r) < ν.1 106 0)
theorem rc_in.to {n u r : Nat} {μ ν μ1 ν1 μ2 ν2 : me_M} (h : rc_in n u μ ν μ1 ν1 r) (k1 : me_fr [1208, 1209, 1211, 1212, 1213] [] μ1 μ2) (k2 : me_fr [111, 112, 113, 114] [] ν1 ν2) : rc_in n u μ ν μ2 ν2 r := by
  obtain ⟨h1, h2, h3, h4, h5, h6, h7, h8, h9⟩ := h
  have e8 := k2.1 8 (by decide)
  have e9 := k2.1 9 (by decide)
  refine ⟨h1.tr (k1.mono (by decide) (by decide)), h2.tr (k2.mono (by decide) (by decide)), fun w hw => ?_, h4, h5, by rw [k1.1 1210 (by decide)]; exact h6, by rw [e8]; exact h7, fun e => by rw [e9]; exact h8 e, fun e => by rw [e9]; exact h9 e⟩
  rw [e8, e9]
  exact h3 w hw
theorem rc_114 {N n u f L T r : Nat} {k2 : Int32 → me_M → Option me_M} {μ ν μ1 ν1 : me_M} (h12 : n ≤ 12) (hu : u < n) (eu : μ1.1 1207 0 = nI u) (hr : rd n μ1 ν1 f) (hk : f = 0 → rc_in n u μ ν μ1 ν1 r) (hk' : me_fr [1208, 1209, 1210, 1211, 1212, 1213] [] μ μ1 ∧ me_fr [111, 112, 113, 114, 8, 9] [] ν ν1 ∧ ∀ w, w ≠ u → ν1.1 8 w = ν.1 8 w ∧ ν1.1 9 w = ν.1 9 w) (hL : f = 0 → L < 2 ^ n ∧ T < 2 ∧ μ1.1 1211 0 = nI L ∧ ν1.1 113 0 = nI L ∧ μ1.1 1213 0 = nI T ∧ ν1.1 114 0 = nI T) : rc_post n u μ ν k2 N (fD_readRecord_114 N n μ1) (fM_read_91 N k2 (nI u) ν1) := by
  obtain ⟨hI, s2, s3, s4, s5⟩ := id hr
  obtain ⟨-, -, ho, -⟩ := hI
  obtain ⟨o, ho1, ho2, ho3⟩ := ho (u + 1) (by omega)
  have bad : ∀ (g : Nat), g ≤ 10 → g ≠ 0 → rd n (me_wi μ1 1209 0 (nI g)) (me_wi ν1 112 0 (nI g)) g → rc_post n u μ ν k2 N (some (me_wi μ1 1209 0 (nI g))) (fM_read_139 N k2 (nI u) (me_wi ν1 112 0 (nI g))) := by
    intro g hg g0 hrg
    refine ⟨_, _, g, rfl, rfl, hk'.1.wi (by decide), hk'.2.1.wi (by decide), hrg, fun w hw => ?_, fun e => absurd e g0⟩
    rw [me_wi_c _ _ _ _ (by decide), me_wi_c _ _ _ _ (by decide)]
    exact hk'.2.2 w hw
  unfold fD_readRecord_114 fM_read_91 fM_read_111 fD_readRecord_151
  by_cases hf : f = 0
  · subst hf
    obtain ⟨hL1, hT, c1, c2, c3, c4⟩ := hL rfl
    obtain ⟨p, hp, p1, p2⟩ := s5 rfl
    rw [c3, s4, if_pos nI_0, c4]
    have hT2 : T = 0 ∨ T = 1 := by omega
    rcases hT2 with rfl | rfl
    · rw [show nI 0 = (0 : Int32) from rfl, bt_failF, ba_b, eu, nI_1, ba_gi (by omega) (by omega), nI_clamp (by omega), p1, ho2, if_pos rfl, if_pos rfl, ba_gi (n := 13) (by omega) (by decide), p2, ho3]
      by_cases e : p = o
      · subst e
        rw [if_pos rfl, if_pos rfl, bt_failF, ba_b]
        obtain ⟨k1', k2', k3', k4, k5, k6, k7, k8, k9⟩ := hk rfl
        exact ⟨μ1, ν1, 0, rfl, rfl, k1', k2', hr, k3', fun _ => ⟨L, r, hL1, k4, k5, c1, c2, k6, k7, k8, k9⟩⟩
      · have ne : ¬ nI p = nI o := fun q => e ((nI_eq (by omega) (by omega)).mp q)
        rw [if_neg ne, if_neg ne, show (10 : Int32) = nI 10 from rfl, bt_failT s3 s2, if_pos rfl, ba_b]
        exact bad 10 (by decide) (by decide) (hr.fault (by decide) (by decide))
    · rw [show nI 1 = (1 : Int32) from rfl, show (9 : Int32) = nI 9 from rfl, bt_failT s3 s2, if_pos rfl, ba_b, me_wi_c _ _ _ _ (by decide), eu, nI_1, ba_gi (by omega) (by omega), nI_clamp (by omega), if_neg (show ¬ (1 : Int32) = 0 by decide), me_wi_s, if_neg (show ¬ nI 9 = 0 by decide)]
      have hr9 := hr.fault (f := 9) (by decide) (by decide)
      have hN9 : ∀ t : Int32, fD_failIf N n t 10 (me_wi μ1 1209 0 (nI 9)) = some (me_wi μ1 1209 0 (nI 9)) := fun t => rc_failN (me_wi_s _ _ _ _) (by decide) (by decide)
      rw [hN9, hN9, ba_b]
      have := bad 9 (by decide) (by decide) hr9
      split <;> exact this
  · have ne : ¬ nI f = 0 := fun e => hf ((nI_eq0 (by omega)).mp e)
    rw [rc_failN s3 s2 hf, ba_b, eu, nI_1, ba_gi (by omega) (by omega), rc_failN s3 s2 hf, rc_failN s3 s2 hf, ba_b, s4, if_neg ne, if_neg ne]
    have : rc_post n u μ ν k2 N (some μ1) (fM_read_139 N k2 (nI u) ν1) := ⟨μ1, ν1, f, rfl, rfl, hk'.1, hk'.2.1, hr, hk'.2.2, fun e => absurd e hf⟩
    split <;> exact this
/- behind the runs -/
theorem rc_82 {N n u f L d r : Nat} {k2 : Int32 → me_M → Option me_M} {μ ν μ1 ν1 : me_M} (hN : 4096 ≤ N) (h1 : 1 ≤ n) (h12 : n ≤ 12) (hu : u < n) (hd : d ≤ 12) (eu : μ.1 1207 0 = nI u) (hr : rd n μ1 ν1 f) (hk : f = 0 → rc_in n u μ ν μ1 ν1 r) (hk' : me_fr [1208, 1209, 1210, 1211, 1212, 1213] [] μ μ1 ∧ me_fr [111, 112, 113, 114, 8, 9] [] ν ν1 ∧ ∀ w, w ≠ u → ν1.1 8 w = ν.1 8 w ∧ ν1.1 9 w = ν.1 9 w) (hL : f = 0 → L < 2 ^ n ∧ st_cn L 12 ≤ d ∧ μ1.1 1211 0 = nI L ∧ ν1.1 113 0 = nI L ∧ μ1.1 1213 0 = nI 0 ∧ ν1.1 114 0 = nI 0 ∧ μ1.1 1212 0 = nI (d - st_cn L 12)) : rc_post n u μ ν k2 N (fD_readRecord_82 N n μ1) ((fM_readParts_130 N (nI u) (nI d) ν1).bind fun r11 => fM_read_91 N k2 (nI u) r11) := by
  have hp := dr_pow h12
  obtain ⟨hI, s2, s3, s4, s5⟩ := id hr
  have eu1 : μ1.1 1207 0 = nI u := by rw [hk'.1.1 1207 (by decide)]; exact eu
  unfold fD_readRecord_82 fM_readParts_130
  by_cases hf : f = 0
  · subst hf
    obtain ⟨hL1, hcd, c1, c2, c3, c4, c5⟩ := hL rfl
    obtain ⟨-, -, -, w, c, l, k, ⟨hw, hc, hl, hk1, hk4⟩, ⟨-, -, el, -⟩, -, -, elM, -⟩ := hI
    have hin := hk rfl
    rw [rc_goD s3 c5 (by omega), ba_b, c2, st_ones hN (by omega), ba_b, s4, if_neg (show ¬ (0 : Int32) < nI 0 by decide), pk_sub hcd]
    by_cases hz : d - st_cn L 12 = 0
    · rw [if_pos hz, ba_00, hz, if_pos nI_0]
      unfold fD_readRecord_103 fM_readParts_153
      rw [rc_goD s3 c5 (by omega), ba_b, if_pos hz, ba_00, ba_b]
      exact rc_114 h12 hu eu1 hr (fun _ => hin) hk' (L := L) (T := 0) (fun _ => ⟨hL1, by decide, c1, c2, c3, c4⟩)
    · rw [if_neg hz, ba_10, if_neg (fun e => hz ((nI_eq0 (by omega)).mp e)), el, elM]
      -- the single nodes behind
      have sing : ∀ (f2 D2 L2 T2 : Nat) (cM : Int32) (μ2 ν2 : me_M), rd n μ2 ν2 f2 → me_fr [1208, 1209, 1211, 1212, 1213] [] μ1 μ2 → me_fr [111, 112, 113, 114] [] ν1 ν2 → D2 ≤ 12 → (f2 = 0 → L2 < 2 ^ n ∧ T2 < 2 ∧ cM = nI D2 ∧ μ2.1 1211 0 = nI L2 ∧ ν2.1 113 0 = nI L2 ∧ μ2.1 1213 0 = nI T2 ∧ ν2.1 114 0 = nI T2 ∧ μ2.1 1212 0 = nI D2) → rc_post n u μ ν k2 N (fD_readRecord_103 N n μ2) ((fM_readParts_176 N (nI u) cM ν2).bind fun r11 => fM_read_91 N k2 (nI u) r11) := by
        intro f2 D2 L2 T2 cM μ2 ν2 hr2 ka kb hD2 hv
        have hin2 := hin.to ka kb
        have eu2 : μ2.1 1207 0 = nI u := by rw [ka.1 1207 (by decide)]; exact eu1
        have hk2 : me_fr [1208, 1209, 1210, 1211, 1212, 1213] [] μ μ2 ∧ me_fr [111, 112, 113, 114, 8, 9] [] ν ν2 ∧ ∀ w, w ≠ u → ν2.1 8 w = ν.1 8 w ∧ ν2.1 9 w = ν.1 9 w := ⟨hin2.1, hin2.2.1, hin2.2.2.1⟩
        obtain ⟨-, t2, t3, t4, -⟩ := id hr2
        unfold fD_readRecord_103 fM_readParts_176
        by_cases hf2 : f2 = 0
        · subst hf2
          obtain ⟨v1, v2, rfl, v3, v4, v5, v6, v7⟩ := hv rfl
          rw [rc_goD t3 v7 (by omega), ba_b]
          obtain ⟨μ3, ν3, f3, g1, g2, g3, g4, g5, g6⟩ := sg_loop (N := N) (n := n) (u := u) (g := D2) (μ := μ2) (ν := ν2) hN h1 h12 hu hD2 eu2 D2 N N 0 L2 T2 0 μ2 ν2 (by omega) (by omega) (by omega) v1 v2 hr2 me_fr.rf me_fr.rf v3 v4 v5 v6
          by_cases hz2 : D2 = 0
          · rw [if_pos hz2, ba_00]
            -- no node is left: the reference's loop ends at once
            have hM : fM_readParts_184 N N (nI u) (nI D2) 0 0 ν2 = some ν2 := by
              obtain ⟨M, hM⟩ : ∃ q, N = q + 1 := ⟨N - 1, by omega⟩
              have : fM_readParts_184 N N (nI u) (nI D2) 0 0 ν2 = fM_readParts_184b N (fM_readParts_184 N M) (nI u) (nI D2) 0 0 ν2 := by
                conv => lhs; rw [show fM_readParts_184 N N = fM_readParts_184 N (M + 1) by rw [← hM]]
                rfl
              rw [this]
              unfold fM_readParts_184b fM_readParts_273
              rw [hz2, if_pos (by decide)]
            rw [hM, ba_b]
            exact rc_114 h12 hu eu2 hr2 (fun _ => hin2) hk2 (L := L2) (T := T2) (fun _ => ⟨v1, v2, v3, v4, v5, v6⟩)
          · rw [if_neg hz2, ba_10]
            unfold fD_readSingles
            rw [v7]
            have g1' : fD_readSingles_9 N n N (nI D2) 0 0 μ2 = some μ3 := g1
            have g2' : fM_readParts_184 N N (nI u) (nI D2) 0 0 ν2 = some ν3 := g2
            rw [g1', g2', ba_b, ba_b]
            have hin3 := hin2.to g3 g4
            by_cases hf3 : f3 = 0
            · obtain ⟨L3, T3, y1, y2, y3, y4, y5, y6⟩ := g6 hf3
              exact rc_114 h12 hu (by rw [g3.1 1207 (by decide)]; exact eu2) g5 (fun _ => hin3) ⟨hin3.1, hin3.2.1, hin3.2.2.1⟩ (L := L3) (T := T3) (fun _ => ⟨y1, y2, y3, y4, y5, y6⟩)
            · exact rc_114 h12 hu (by rw [g3.1 1207 (by decide)]; exact eu2) g5 (fun _ => hin3) ⟨hin3.1, hin3.2.1, hin3.2.2.1⟩ (L := 0) (T := 0) (fun e => absurd e hf3)
        · rw [rc_go0 t3 t2 hf2, ba_b, ba_00, sg_outM (by omega) t4 t2 hf2, ba_b]
          exact rc_114 h12 hu eu2 hr2 (fun e => absurd e hf2) hk2 (r := 0) (L := 0) (T := 0) (fun e => absurd e hf2)
      by_cases hl0 : l = 0
      · subst hl0
        rw [if_pos (by decide), if_pos (by decide)]
        exact sing 0 (d - st_cn L 12) L 0 _ μ1 ν1 hr me_fr.rf me_fr.rf (by omega) (fun _ => ⟨hL1, by decide, rfl, c1, c2, c3, c4, c5⟩)
      · rw [if_neg (nI_nle (by omega) (by omega)), if_neg (nI_nle (by omega) (by omega))]
        obtain ⟨μ2, ν2, rr, f2, g1, g2, g3, g4, g5, g6⟩ := iv_all (N := N) (n := n) (D := d - st_cn L 12) (u := u) (l := l) (L := L) (T := 0) (μ := μ1) (ν := ν1) hN h1 h12 (by omega) hu (by omega) hl eu1 el elM hL1 (by decide) hr c1 c2 c3 c4 c5
        rw [g1, g2, ba_b, ba_b]
        dsimp only
        by_cases hf2 : f2 = 0
        · obtain ⟨L2, T2, ss, y0, rfl, y1, y2, y3, y4, y5, y6, y7⟩ := g6 hf2
          rw [pk_sub y0]
          exact sing f2 (d - st_cn L 12 - ss) L2 T2 _ μ2 ν2 g5 g3 g4 (by omega) (fun _ => ⟨y1, y2, rfl, y3, y4, y5, y6, y7⟩)
        · exact sing f2 0 0 0 _ μ2 ν2 g5 g3 g4 (by omega) (fun e => absurd e hf2)
  · obtain ⟨r0, hr0⟩ := rc_ones hN (ν1.1 113 0)
    rw [rc_go0 s3 s2 hf, ba_b, ba_00, hr0, ba_b, s4, if_pos (show (0 : Int32) < nI f from nI_lt (a := 0) (by omega) (by omega))]
    unfold fD_readRecord_103 fM_readParts_153
    rw [rc_go0 s3 s2 hf, ba_b, ba_00, ba_b]
    exact rc_114 h12 hu eu1 hr (fun e => absurd e hf) hk' (r := 0) (L := 0) (T := 0) (fun e => absurd e hf)
