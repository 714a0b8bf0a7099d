/- runs, read side by side: the whole -/
def rn_post (n d : Nat) (μ ν : me_M) (o p : Option me_M) : Prop := ∃ (μ' ν' : me_M) (f' : Nat), o = some μ' ∧ p = some ν' ∧ me_fr [1208, 1209, 1211, 1212, 1213] [] μ μ' ∧ me_fr [111, 112, 113, 114] [] ν ν' ∧ rd n μ' ν' f' ∧ (f' = 0 → ∃ C, C < 2 ^ n ∧ st_cn C 12 ≤ d ∧ μ'.1 1211 0 = nI C ∧ ν'.1 113 0 = nI C ∧ μ'.1 1213 0 = nI 0 ∧ ν'.1 114 0 = nI 0 ∧ μ'.1 1212 0 = nI (d - st_cn C 12))
theorem rn_out {N n d f F E : Nat} {l2 l3 l4 l5 a1 a2 a3 a4 a5 : Int32} {μ ν μ1 ν1 : me_M} (hF : 0 < F) (hE : 0 < E) (h : rd n μ1 ν1 f) (h0 : f ≠ 0) (k1 : me_fr [1208, 1209, 1211, 1212, 1213] [] μ μ1) (k2 : me_fr [111, 112, 113, 114] [] ν ν1) : rn_post n d μ ν (fD_readRuns_13 N n F l2 l3 l4 l5 μ1) (fM_readRuns_11 N E a1 a2 a3 a4 a5 ν1) := by
  obtain ⟨-, s2, s3, s4, -⟩ := id h
  obtain ⟨μ2, e1, e2⟩ := rn_outC (N := N) (n := n) (l2 := l2) (l3 := l3) (l4 := l4) (l5 := l5) hF s3 s2 h0
  rw [e1, rn_outM hE s4 s2 h0]
  exact ⟨μ2, ν1, f, rfl, rfl, k1.tr (e2.mono (by decide) (by decide)), k2, h.of (rl_fr e2 (by decide)) (fun _ _ => rfl), fun e => absurd e h0⟩
theorem rn_disj {C x a b : Nat} (hC : C < 4096) (hx : x < 4096) (h : C &&& st_ge x a = 0) : C &&& ap_di (st_ge x a) (st_ge x (a + b)) = 0 ∧ C &&& st_ge x (a + b) = 0 ∧ (C ||| ap_di (st_ge x a) (st_ge x (a + b))) &&& st_ge x (a + b) = 0 := by
  have hb : ∀ v, (C.testBit v && (st_ge x a).testBit v) = false := fun v => by
    rw [← Nat.testBit_and, h]; exact Nat.zero_testBit v
  have hl1 := rn_lt hx a
  have hl2 := rn_lt hx (a + b)
  have hl3 : ap_di (st_ge x a) (st_ge x (a + b)) < 4096 := rn_dilt hl1
  refine ⟨?_, ?_, ?_⟩
  · apply rn_ext (Nat.lt_of_le_of_lt Nat.and_le_left hC) (by decide)
    intro v hv
    rw [Nat.testBit_and, ap_di_bit _ _ _ (by omega), Nat.zero_testBit]
    have := hb v
    revert this
    cases C.testBit v <;> cases (st_ge x a).testBit v <;> simp
  · apply rn_ext (Nat.lt_of_le_of_lt Nat.and_le_left hC) (by decide)
    intro v hv
    have hbv := hb v
    rw [rn_geb hx a hv] at hbv
    rw [Nat.testBit_and, rn_geb hx _ hv, Nat.zero_testBit]
    revert hbv
    by_cases c1 : a + b ≤ st_cn x v
    · have c2 : a ≤ st_cn x v := by omega
      simp [c1, c2]
    · simp [c1]
  · apply rn_ext (Nat.lt_of_le_of_lt Nat.and_le_right hl2) (by decide)
    intro v hv
    have hbv := hb v
    rw [rn_geb hx a hv] at hbv
    rw [Nat.testBit_and, Nat.testBit_or, ap_di_bit _ _ _ (by omega), rn_geb hx a hv, rn_geb hx (a + b) hv, Nat.zero_testBit]
    revert hbv
    by_cases c1 : a + b ≤ st_cn x v
    · have c2 : a ≤ st_cn x v := by omega
      simp [c1, c2]
    · simp [c1]
theorem rn_end {N n d y C sm : Nat} {g : Int32} {μ ν μ1 ν1 : me_M} (hN : 4096 ≤ N) (h12 : n ≤ 12) (hy : y < 2 ^ n) (hd : d ≤ 12) (hC : C < 2 ^ n) (hdj : C &&& st_ge y sm = 0) (hsm : sm ≤ 12) (h : rd n μ1 ν1 0) (k1 : me_fr [1208, 1209] [] μ μ1) (k2 : me_fr [111, 112, 113, 114] [] ν ν1) (e1 : μ1.1 1211 0 = nI 0) (e2 : μ1.1 1213 0 = nI 0) (e3 : μ1.1 1212 0 = nI d) (e4 : ν1.1 113 0 = nI C) (e5 : ν1.1 114 0 = nI 0) : rn_post n d μ ν (fD_readRuns_100 N n (nI C) (nI (st_ge y sm)) g μ1) (fM_readRuns_103 N (nI y) (nI d) g (nI sm) ν1) := by
  have hp := dr_pow h12
  obtain ⟨⟨hn, -⟩, s2, s3, s4, s5⟩ := id h
  have hge := rn_lt (x := y) (by omega) sm
  have fin : ∀ (C' : Nat) (ν2 : me_M), C' < 2 ^ n → me_fr [113, 114] [] ν1 ν2 → ν2.1 113 0 = nI C' → ν2.1 114 0 = nI 0 → rn_post n d μ ν (fD_readRuns_111 N n (nI C') μ1) (fM_readRuns_125 N (nI d) ν2) := by
    intro C' ν2 hC' hfr g1 g2
    have hr2 : rd n μ1 ν2 0 := h.of (fun _ _ => rfl) (rl_fr hfr (by decide))
    have hcl := st_cn_le C' 12
    unfold fD_readRuns_111 fM_readRuns_125 fM_readRuns_149 fD_readRuns_128
    rw [st_bc (by omega), ba_b, e3, hr2.2.2.2.1, if_pos nI_0, g1, st_ones hN (by omega), ba_b]
    by_cases q : st_cn C' 12 ≤ d
    · obtain ⟨μ3, t1, t2, t3, t4, t5⟩ := te_C (N := N) (n := n) (L := 0) (T := 0) (X := C') (by decide) (by omega) (by decide) e1 e2
      rw [if_pos (nI_le q (by omega)), if_pos (nI_le q (by omega)), bt_failF, ba_b, t1, ba_b]
      refine ⟨μ3, ν2, 0, rfl, rfl, (k1.mono (by decide) (by decide)).tr (t2.mono (by decide) (by decide)), k2.tr (hfr.mono (by decide) (by decide)), hr2.of (rl_fr t2 (by decide)) (fun _ _ => rfl), fun _ => ⟨C', hC', q, by rw [t3, Nat.zero_or], g1, ?_, g2, ?_⟩⟩
      · rw [t4]
        unfold te_T
        rw [Nat.zero_and, if_neg (by simp)]
      · rw [t5, e3, pk_sub q]
    · rw [if_neg (nI_ge (by omega) (by omega)), if_neg (nI_ge (by omega) (by omega)), show (6 : Int32) = nI 6 from rfl, bt_failT s3 s2, if_pos rfl, ba_b]
      obtain ⟨μ3, t1, t2⟩ := te_any (N := N) (n := n) (x := nI C') (μ := me_wi μ1 1209 0 (nI 6))
      rw [t1, ba_b]
      have hr3 := hr2.fault (f := 6) (by decide) (by decide)
      exact ⟨μ3, _, 6, rfl, rfl, ((k1.mono (by decide) (by decide)).wi (by decide)).tr (t2.mono (by decide) (by decide)), (k2.tr (hfr.mono (by decide) (by decide))).wi (by decide), hr3.of (rl_fr t2 (by decide)) (fun _ _ => rfl), fun e => by omega⟩
  unfold fD_readRuns_100 fM_readRuns_103
  rw [s4, if_pos nI_0]
  by_cases q : g - g / (2 : Int32) * (2 : Int32) = 0
  · rw [if_pos q, if_pos q, ap_or (by omega) (by omega), show (12 : Int32) = nI 12 from rfl]
    obtain ⟨ν2, t1, t2, t3, t4⟩ := te_copy (N := N) (b := 12) hN h12 hn hy hC (by decide) (show sm < 2 ^ 31 by omega) (by decide) e4 e5
    rw [t1, ba_b]
    rw [rn_ge12 (by omega), rn_di0 hge] at t3 t4
    refine fin _ ν2 (Nat.or_lt_two_pow hC (Nat.lt_of_le_of_lt (st_ge_le _ _) hy)) t2 t3 ?_
    rw [t4]
    unfold te_T
    rw [hdj, if_neg (by simp)]
  · rw [if_neg q, if_neg q]
    exact fin _ ν1 hC me_fr.rf e4 e5
theorem rn_loop {N n d y g : Nat} {μ ν : me_M} (hN : 4096 ≤ N) (h12 : n ≤ 12) (hy : y < 2 ^ n) (hd : d ≤ 12) (hg : g < 127) (e1 : μ.1 1211 0 = nI 0) (e2 : μ.1 1213 0 = nI 0) (e3 : μ.1 1212 0 = nI d) : ∀ (m F E i sm C : Nat) (μ1 ν1 : me_M), i + m = g → m + 1 < F → m + 1 < E → sm ≤ st_cn y 12 → C < 2 ^ n → C &&& st_ge y sm = 0 → rd n μ1 ν1 0 → me_fr [1208, 1209] [] μ μ1 → me_fr [111, 112, 113, 114] [] ν ν1 → ν1.1 113 0 = nI C → ν1.1 114 0 = nI 0 → rn_post n d μ ν (fD_readRuns_13 N n F (nI C) (nI (st_ge y sm)) (nI g) (nI i) μ1) (fM_readRuns_11 N E (nI y) (nI d) (nI g) (nI sm) (nI i) ν1) := by
  have hp := dr_pow h12
  have hcy := st_cn_le y 12
  intro m
  induction m with
  | zero =>
    intro F E i sm C μ1 ν1 hi hF hE hsm hC hdj hr k1 k2 e4 e5
    obtain ⟨F, rfl⟩ : ∃ q, F = q + 1 := ⟨F - 1, by omega⟩
    obtain ⟨E, rfl⟩ : ∃ q, E = q + 1 := ⟨E - 1, by omega⟩
    have hig : i = g := by omega
    subst hig
    show rn_post n d μ ν (fD_readRuns_13b N n (fD_readRuns_13 N n F) (nI C) (nI (st_ge y sm)) (nI i) (nI i) μ1) (fM_readRuns_11b N (fM_readRuns_11 N E) (nI y) (nI d) (nI i) (nI sm) (nI i) ν1)
    unfold fD_readRuns_13b fM_readRuns_11b
    rw [if_pos (nI_le (Nat.le_refl _) (by omega)), if_pos (nI_le (Nat.le_refl _) (by omega))]
    exact rn_end hN h12 hy hd hC hdj (by omega) hr k1 k2 (by rw [k1.1 1211 (by decide)]; exact e1) (by rw [k1.1 1213 (by decide)]; exact e2) (by rw [k1.1 1212 (by decide)]; exact e3) e4 e5
  | succ m ih =>
    intro F E i sm C μ1 ν1 hi hF hE hsm hC hdj hr k1 k2 e4 e5
    obtain ⟨F, rfl⟩ : ∃ q, F = q + 1 := ⟨F - 1, by omega⟩
    obtain ⟨E, rfl⟩ : ∃ q, E = q + 1 := ⟨E - 1, by omega⟩
    obtain ⟨x, μ2, x', ν2, f2, a1, a2, a3, a4, a5, -, a7⟩ := bt_gamma hN hr
    obtain ⟨-, s2, s3, s4, -⟩ := id a5
    obtain ⟨-, r2, r3, r4, -⟩ := id hr
    have hge := rn_lt (x := y) (by omega) sm
    have b4 : ν2.1 113 0 = nI C := by rw [a4.1 113 (by decide)]; exact e4
    have b5 : ν2.1 114 0 = nI 0 := by rw [a4.1 114 (by decide)]; exact e5
    -- one run of length ln (class: s0; reference: s0' + s1')
    have step : ∀ (s0 s0' s1' : Int32), (f2 = 0 → ∃ ln, ln < 128 ∧ s0 = nI ln ∧ nI sm + (s0' + s1') = nI (sm + ln)) → rn_post n d μ ν (fD_readRuns_45 N n (fD_readRuns_13 N n F) (nI C) (nI (st_ge y sm)) (nI g) (nI i) s0 μ2) (fM_readRuns_38 N (fM_readRuns_11 N E) (nI y) (nI d) (nI g) (nI sm) (nI i) s0' s1' ν2) := by
      intro s0 s0' s1' hs
      unfold fD_readRuns_45 fM_readRuns_38 fM_readRuns_74 fM_readRuns_97
      rw [st_bc hge, ba_b, s4]
      by_cases hf2 : f2 = 0
      · subst hf2
        obtain ⟨ln, hln, rfl, hsum⟩ := hs rfl
        rw [if_pos nI_0, st_ones hN (by omega), ba_b, hsum, st_ge_cn (by omega)]
        by_cases q : sm + ln ≤ st_cn y 12
        · rw [if_pos (nI_le (by omega) (by omega)), if_pos (nI_le q (by omega)), if_pos nI_0]
          refine rn_step62 (P := fun o => rn_post n d μ ν o _) hN hge bt_failF ?_
          intro j z hj hz
          have hjl : st_ge (st_ge y sm) j = st_ge y (sm + ln) := (hj ln rfl (by omega)).trans (rn_gege y sm ln)
          rw [hjl] at hz
          rw [hjl, rn_left (by omega), nI_1]
          obtain ⟨dj1, dj2, dj3⟩ := rn_disj (C := C) (x := y) (a := sm) (b := ln) (by omega) (by omega) hdj
          have hdl : ap_di (st_ge y sm) (st_ge y (sm + ln)) < 2 ^ n := Nat.lt_of_le_of_lt (ap_di_le _ _) (Nat.lt_of_le_of_lt (st_ge_le _ _) hy)
          by_cases par : nI i - nI i / (2 : Int32) * (2 : Int32) = 0
          · rw [if_pos par] at hz ⊢
            rw [ap_or (by omega) (by omega)] at hz
            obtain ⟨ν3, t1, t2, t3, t4⟩ := te_copy (N := N) (a := sm) (b := sm + ln) hN h12 a5.1.1 hy hC (by decide) (by omega) (by omega) b4 b5
            rw [t1, ba_b, hz]
            refine ih F E (i + 1) (sm + ln) _ μ2 ν3 (by omega) (by omega) (by omega) q (Nat.or_lt_two_pow hC hdl) dj3 (a5.of (fun _ _ => rfl) (rl_fr t2 (by decide))) (k1.tr a3) ((k2.tr (a4.mono (by decide) (by decide))).tr (t2.mono (by decide) (by decide))) t3 ?_
            rw [t4]
            unfold te_T
            rw [dj1, if_neg (by simp)]
          · rw [if_neg par] at hz ⊢
            rw [hz]
            exact ih F E (i + 1) (sm + ln) C μ2 ν2 (by omega) (by omega) (by omega) q hC dj2 a5 (k1.tr a3) (k2.tr (a4.mono (by decide) (by decide))) b4 b5
        · have hr6 := a5.fault (f := 6) (by decide) (by decide)
          rw [if_neg (nI_ge (by omega) (by omega)), if_neg (nI_ge (by omega) (by omega)), show (6 : Int32) = nI 6 from rfl, me_wi_s, if_neg (by decide)]
          refine rn_step62 (P := fun o => rn_post n d μ ν o _) hN hge (show fD_failIf N n 1 6 μ2 = some (me_wi μ2 1209 0 (nI 6)) by rw [show (6 : Int32) = nI 6 from rfl, bt_failT s3 s2, if_pos rfl]) ?_
          intro j z hj hz
          exact rn_out (by omega) (by omega) hr6 (by decide) (((k1.tr a3).mono (by decide) (by decide)).wi (by decide)) ((k2.tr (a4.mono (by decide) (by decide))).wi (by decide))
      · have ne : ¬ nI f2 = 0 := fun e => hf2 ((nI_eq0 (by omega)).mp e)
        rw [if_neg ne, if_neg ne]
        have k1' : me_fr [1208, 1209, 1211, 1212, 1213] [] μ μ2 := (k1.tr a3).mono (by decide) (by decide)
        have k2' : me_fr [111, 112, 113, 114] [] ν ν2 := k2.tr (a4.mono (by decide) (by decide))
        have hfi : ∀ t : Int32, (t = 0 ∨ t = 1) → fD_failIf N n t 6 μ2 = some μ2 := by
          rintro t (rfl | rfl)
          · exact bt_failF
          · rw [show (6 : Int32) = nI 6 from rfl, bt_failT s3 s2, if_neg hf2]
        by_cases q : s0 ≤ nI (st_cn (st_ge y sm) 12)
        · rw [if_pos q]
          refine rn_step62 (P := fun o => rn_post n d μ ν o _) hN hge (hfi 0 (Or.inl rfl)) ?_
          intro j z hj hz
          exact rn_out (by omega) (by omega) a5 hf2 k1' k2'
        · rw [if_neg q]
          refine rn_step62 (P := fun o => rn_post n d μ ν o _) hN hge (hfi 1 (Or.inr rfl)) ?_
          intro j z hj hz
          exact rn_out (by omega) (by omega) a5 hf2 k1' k2'
    show rn_post n d μ ν (fD_readRuns_13b N n (fD_readRuns_13 N n F) (nI C) (nI (st_ge y sm)) (nI g) (nI i) μ1) (fM_readRuns_11b N (fM_readRuns_11 N E) (nI y) (nI d) (nI g) (nI sm) (nI i) ν1)
    unfold fD_readRuns_13b fM_readRuns_11b
    rw [if_neg (nI_ge (by omega) (by omega)), if_neg (nI_ge (by omega) (by omega)), r3, r4, if_pos nI_0, if_pos nI_0, a1, a2, ba_b, ba_b, ba_b]
    by_cases hi0 : i = 0
    · subst hi0
      rw [if_pos nI_0, if_pos (by decide)]
      refine step x x' 0 (fun e => ?_)
      obtain ⟨t, ht, rfl, rfl⟩ := a7 e
      exact ⟨t, by omega, rfl, by rw [show (0 : Int32) = nI 0 from rfl, nI_add, nI_add, Nat.add_zero]⟩
    · rw [if_neg (fun e => hi0 ((nI_eq0 (by omega)).mp e)), if_neg (nI_nle (by omega) (by omega))]
      refine step (x + 1) x' 1 (fun e => ?_)
      obtain ⟨t, ht, rfl, rfl⟩ := a7 e
      exact ⟨t + 1, by omega, by rw [nI_1], by rw [nI_1, nI_add]⟩
theorem rn_runs {N n d y : Nat} {μ ν : me_M} (hN : 4096 ≤ N) (h12 : n ≤ 12) (hy : y < 2 ^ n) (hd : d ≤ 12) (h : rd n μ ν 0) (e1 : μ.1 1211 0 = nI 0) (e2 : μ.1 1213 0 = nI 0) (e3 : μ.1 1212 0 = nI d) (e4 : ν.1 113 0 = nI 0) (e5 : ν.1 114 0 = nI 0) : rn_post n d μ ν (fD_readRuns N n (nI y) μ) (fM_readRuns N (nI y) (nI d) ν) := by
  obtain ⟨x, μ2, x', ν2, f2, a1, a2, a3, a4, a5, -, a7⟩ := bt_gamma hN h
  unfold fD_readRuns fM_readRuns
  rw [a1, a2, ba_b, ba_b]
  dsimp only
  by_cases hf2 : f2 = 0
  · obtain ⟨g, hg, rfl, rfl⟩ := a7 hf2
    subst hf2
    exact rn_loop hN h12 hy hd hg e1 e2 e3 g N N 0 0 0 μ2 ν2 (by omega) (by omega) (by omega) (Nat.zero_le _) (Nat.two_pow_pos n) (Nat.zero_and _) a5 a3 (a4.mono (by decide) (by decide)) (by rw [a4.1 113 (by decide)]; exact e4) (by rw [a4.1 114 (by decide)]; exact e5)
  · exact rn_out (by omega) (by omega) a5 hf2 (a3.mono (by decide) (by decide)) (a4.mono (by decide) (by decide))
