/- nodes behind the intervals, read side by side -/
def sg_post (n : Nat) (μ ν : me_M) (o p : Option me_M) : Prop := ∃ (μ' ν' : me_M) (f' : Nat), o = some μ' ∧ p = some ν' ∧ me_fr [1208, 1209, 1211, 1212, 1213] [] μ μ' ∧ me_fr [111, 112, 113, 114] [] ν ν' ∧ rd n μ' ν' f' ∧ (f' = 0 → ∃ L T, L < 2 ^ n ∧ T < 2 ∧ μ'.1 1211 0 = nI L ∧ ν'.1 113 0 = nI L ∧ μ'.1 1213 0 = nI T ∧ ν'.1 114 0 = nI T)
theorem sg_outC {N n f F : Nat} {l1 l2 l3 : Int32} {μ : me_M} (hF : 0 < F) (h : μ.1 1209 0 = nI f) (hf : f ≤ 10) (h0 : f ≠ 0) : fD_readSingles_9 N n F l1 l2 l3 μ = some μ := by
  obtain ⟨F, rfl⟩ : ∃ q, F = q + 1 := ⟨F - 1, by omega⟩
  show fD_readSingles_9b N n (fD_readSingles_9 N n F) l1 l2 l3 μ = some μ
  unfold fD_readSingles_9b fD_readSingles_94
  by_cases q : l1 ≤ l3
  · rw [if_pos q]
  · rw [if_neg q, h, if_neg (fun e => h0 ((nI_eq0 (by omega)).mp e))]
theorem sg_outM {N f F : Nat} {l1 l5 l6 l7 : Int32} {ν : me_M} (hF : 0 < F) (h : ν.1 112 0 = nI f) (hf : f ≤ 10) (h0 : f ≠ 0) : fM_readParts_184 N F l1 l5 l6 l7 ν = some ν := by
  obtain ⟨F, rfl⟩ : ∃ q, F = q + 1 := ⟨F - 1, by omega⟩
  show fM_readParts_184b N (fM_readParts_184 N F) l1 l5 l6 l7 ν = some ν
  unfold fM_readParts_184b fM_readParts_273
  by_cases q : l5 ≤ l7
  · rw [if_pos q]
  · rw [if_neg q, h, if_neg (fun e => h0 ((nI_eq0 (by omega)).mp e))]
theorem sg_X : ∀ a, a < 12 → st_cn (2 ^ a) 12 = 1 := by decide +kernel
theorem sg_one {L a : Nat} : (L &&& 2 ^ a ≠ 0) ↔ L.testBit a = true := by
  constructor
  · intro h
    apply Classical.byContradiction
    intro g
    apply h
    apply Nat.eq_of_testBit_eq
    intro i
    rw [Nat.testBit_and, Nat.zero_testBit, Nat.testBit_two_pow]
    by_cases hi : a = i
    · subst hi; simp at g; simp [g]
    · simp [hi]
  · intro h e
    have : (L &&& 2 ^ a).testBit a = false := by rw [e]; exact Nat.zero_testBit a
    rw [Nat.testBit_and, Nat.testBit_two_pow, h] at this
    simp at this
theorem sg_T {T L a : Nat} : (if T = 1 ∨ L.testBit a = true then 1 else 0) = te_T T L (2 ^ a) := by
  unfold te_T
  by_cases h : T = 1 ∨ L.testBit a = true
  · rw [if_pos h, if_pos (h.elim Or.inl (fun q => Or.inr (sg_one.mpr q)))]
  · rw [if_neg h, if_neg (fun q => h (q.elim Or.inl (fun z => Or.inr (sg_one.mp z))))]
theorem sg_loop {N n u g : Nat} {μ ν : me_M} (hN : 4096 ≤ N) (h1 : 1 ≤ n) (h12 : n ≤ 12) (hu : u < n) (hg : g ≤ 12) (eu : μ.1 1207 0 = nI u) : ∀ (m F E i L T : Nat) (la : Int32) (μ1 ν1 : me_M), i + m = g → m + 1 < F → m + 1 < E → L < 2 ^ n → T < 2 → rd n μ1 ν1 0 → me_fr [1208, 1209, 1211, 1212, 1213] [] μ μ1 → me_fr [111, 112, 113, 114] [] ν ν1 → μ1.1 1211 0 = nI L → ν1.1 113 0 = nI L → μ1.1 1213 0 = nI T → ν1.1 114 0 = nI T → sg_post n μ ν (fD_readSingles_9 N n F (nI g) la (nI i) μ1) (fM_readParts_184 N E (nI u) (nI g) la (nI i) ν1) := by
  have hp := dr_pow h12
  intro m
  induction m with
  | zero =>
    intro F E i L T la μ1 ν1 hi hF hE hL hT hr k1 k2 c1 c2 c3 c4
    obtain ⟨F, rfl⟩ : ∃ q, F = q + 1 := ⟨F - 1, by omega⟩
    obtain ⟨E, rfl⟩ : ∃ q, E = q + 1 := ⟨E - 1, by omega⟩
    have hig : i = g := by omega
    subst hig
    show sg_post n μ ν (fD_readSingles_9b N n (fD_readSingles_9 N n F) (nI i) la (nI i) μ1) (fM_readParts_184b N (fM_readParts_184 N E) (nI u) (nI i) la (nI i) ν1)
    unfold fD_readSingles_9b fM_readParts_184b fD_readSingles_94 fM_readParts_273
    rw [if_pos (nI_le (Nat.le_refl _) (by omega)), if_pos (nI_le (Nat.le_refl _) (by omega))]
    exact ⟨μ1, ν1, 0, rfl, rfl, k1, k2, hr, fun _ => ⟨L, T, hL, hT, c1, c2, c3, c4⟩⟩
  | succ m ih =>
    intro F E i L T la μ1 ν1 hi hF hE hL hT hr k1 k2 c1 c2 c3 c4
    obtain ⟨F, rfl⟩ : ∃ q, F = q + 1 := ⟨F - 1, by omega⟩
    obtain ⟨E, rfl⟩ : ∃ q, E = q + 1 := ⟨E - 1, by omega⟩
    obtain ⟨x, μ2, x', ν2, f2, a1, a2, a3, a4, a5, -, a7⟩ := bt_zeta hN hr
    obtain ⟨-, r2, r3, r4, -⟩ := id hr
    obtain ⟨hI2, s2, s3, s4, -⟩ := id a5
    have k1' : me_fr [1208, 1209, 1211, 1212, 1213] [] μ μ2 := k1.tr (a3.mono (by decide) (by decide))
    have k2' : me_fr [111, 112, 113, 114] [] ν ν2 := k2.tr (a4.mono (by decide) (by decide))
    have out : ∀ (c1' m1 s1 : Int32) (μ3 ν3 : me_M) (f3 : Nat), fD_failIf N n s1 8 μ2 = some μ3 → rd n μ3 ν3 f3 → f3 ≠ 0 → me_fr [1208, 1209, 1211, 1212, 1213] [] μ μ3 → me_fr [111, 112, 113, 114] [] ν ν3 → sg_post n μ ν (fD_readSingles_69 N n (fD_readSingles_9 N n F) (nI g) c1' (nI i) s1 μ2) (fM_readParts_250 N (fM_readParts_184 N E) (nI u) (nI g) (nI i) m1 ν3) := by
      intro c1' m1 s1 μ3 ν3 f3 hfi hr3 h0 kf kg
      obtain ⟨-, t2, t3, t4, -⟩ := id hr3
      have ne : ¬ nI f3 = 0 := fun e => h0 ((nI_eq0 (by omega)).mp e)
      unfold fD_readSingles_69 fM_readParts_250 fD_readSingles_88 fM_readParts_263
      rw [hfi, ba_b, t3, if_neg ne, t4, if_neg ne, sg_outC (by omega) t3 t2 h0, sg_outM (by omega) t4 t2 h0]
      exact ⟨μ3, ν3, f3, rfl, rfl, kf, kg, hr3, fun e => absurd e h0⟩
    have step : ∀ (c1' m1 : Int32), (f2 = 0 → c1' = m1) → sg_post n μ ν (fD_readSingles_48 N n (fD_readSingles_9 N n F) (nI g) (nI i) c1' μ2) (fM_readParts_226 N (fM_readParts_184 N E) (nI u) (nI g) (nI i) m1 ν2) := by
      intro c1' m1 hcm
      unfold fD_readSingles_48 fM_readParts_226
      rw [s4]
      by_cases hf2 : f2 = 0
      · have e := hcm hf2
        subst e
        subst hf2
        rw [if_pos nI_0]
        have hnn : nI n - (1 : Int32) = nI (n - 1) := by rw [show (1 : Int32) = nI 1 from rfl, pk_sub (by omega)]
        have bad : (c1' < 0 ∨ nI n ≤ c1') → sg_post n μ ν ((fA_within N c1' 0 (nI n - 1)).bind fun r4 => if r4 = 0 then fD_readSingles_69 N n (fD_readSingles_9 N n F) (nI g) c1' (nI i) 1 μ2 else fD_readSingles_69 N n (fD_readSingles_9 N n F) (nI g) c1' (nI i) 0 μ2) ((fM_node N ν2 c1').bind fun r4 => if r4 = 0 then fM_readParts_250 N (fM_readParts_184 N E) (nI u) (nI g) (nI i) c1' (me_wi ν2 112 0 8) else fM_readParts_250 N (fM_readParts_184 N E) (nI u) (nI g) (nI i) c1' ν2) := by
          intro q
          have hw : fA_within N c1' 0 (nI n - 1) = some 0 := by
            by_cases q0 : c1' < 0
            · exact ap_wlo q0
            · rcases q with q | q
              · exact absurd q q0
              · refine ap_whi q0 ?_
                rw [hnn, ap_lt, nI_toInt (by omega)]
                rw [ap_le, nI_toInt (by omega)] at q
                omega
          rw [hw, ap_mnode0 hI2.1 q, ba_b, ba_b, ba_00, ba_00]
          refine out c1' c1' 1 (me_wi μ2 1209 0 (nI 8)) (me_wi ν2 112 0 (nI 8)) 8 ?_ (a5.fault (by decide) (by decide)) (by decide) (k1'.wi (by decide)) (k2'.wi (by decide))
          rw [show (8 : Int32) = nI 8 from rfl, bt_failT s3 s2, if_pos rfl]
        rcases pk_ix c1' (n := n) (by omega) with q | q | ⟨a, ha, rfl⟩
        · exact bad (Or.inl q)
        · exact bad (Or.inr q)
        · rw [hnn, ap_win (nI_pos (by omega)) (nI_nlt (by omega) (by omega)), ap_mnode1 hI2.1 h12 ha, ba_b, ba_b, ba_10, ba_10]
          have hpa : 2 ^ a < 2 ^ n := dr_pv ha
          obtain ⟨μ3, t1, t2, t3, t4, -⟩ := te_C (N := N) (n := n) (L := L) (T := T) (X := 2 ^ a) (μ := μ2) (by omega) (by omega) hT (by rw [a3.1 1211 (by decide)]; exact c1) (by rw [a3.1 1213 (by decide)]; exact c3)
          obtain ⟨ν3, v1, v2, v3, v4⟩ := te_M (N := N) (L := L) (T := T) (v := a) (ν := ν2) (by omega) (by omega) hT (by rw [a4.1 113 (by decide)]; exact c2) (by rw [a4.1 114 (by decide)]; exact c4)
          unfold fD_readSingles_69 fM_readParts_250 fD_readSingles_88 fM_readParts_263
          rw [bt_failF, ba_b, s3, if_pos nI_0, s4, if_pos nI_0, ap_shl1 a (by omega), t1, v1, ba_b, ba_b, nI_1]
          refine ih F E (i + 1) (L ||| 2 ^ a) (te_T T L (2 ^ a)) (nI a) μ3 ν3 (by omega) (by omega) (by omega) (Nat.or_lt_two_pow hL hpa) (te_T2 _ _ _) (a5.of (rl_fr t2 (by decide)) (rl_fr v2 (by decide))) (k1'.tr (t2.mono (by decide) (by decide))) (k2'.tr (v2.mono (by decide) (by decide))) t3 v3 t4 ?_
          rw [← sg_T]
          exact v4
      · rw [if_neg (fun e => hf2 ((nI_eq0 (by omega)).mp e))]
        rcases iv_wany (N := N) c1' 0 (nI n - 1) with hw | hw
        · rw [hw, ba_b, ba_00]
          refine out _ _ 1 μ2 ν2 f2 ?_ a5 hf2 k1' k2'
          rw [show (8 : Int32) = nI 8 from rfl, bt_failT s3 s2, if_neg hf2]
        · rw [hw, ba_b, ba_10]
          exact out _ _ 0 μ2 ν2 f2 bt_failF a5 hf2 k1' k2'
    show sg_post n μ ν (fD_readSingles_9b N n (fD_readSingles_9 N n F) (nI g) la (nI i) μ1) (fM_readParts_184b N (fM_readParts_184 N E) (nI u) (nI g) la (nI i) ν1)
    unfold fD_readSingles_9b fM_readParts_184b
    rw [if_neg (nI_ge (by omega) (by omega)), if_neg (nI_ge (by omega) (by omega)), r3, r4, if_pos nI_0, if_pos nI_0, a1, a2, ba_b, ba_b, ba_b]
    dsimp only
    by_cases hi0 : i = 0
    · subst hi0
      rw [if_pos nI_0, if_pos nI_0, k1.1 1207 (by decide), eu]
      by_cases hf2 : f2 = 0
      · obtain ⟨t, ht, rfl, rfl⟩ := a7 hf2
        obtain ⟨w, w1, w2⟩ := iv_sign (N := N) (g := t) (by omega)
        rw [w1, w2, ba_b, ba_b]
        exact step _ _ (fun _ => rfl)
      · obtain ⟨⟨w, w1⟩, -⟩ := iv_any (N := N) x
        obtain ⟨-, ⟨w', w2⟩⟩ := iv_any (N := N) x'
        rw [w1, w2, ba_b, ba_b]
        exact step _ _ (fun e => absurd e hf2)
    · rw [if_neg (fun e => hi0 ((nI_eq0 (by omega)).mp e)), if_neg (fun e => hi0 ((nI_eq0 (by omega)).mp e))]
      refine step _ _ (fun e => ?_)
      obtain ⟨t, ht, rfl, rfl⟩ := a7 e
      rfl
