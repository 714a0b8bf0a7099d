/- numbering: the loop, side by side; components, component -/
theorem cm_idle {N n D : Nat} {ν : me_M} (h12 : n ≤ 12) (hn : ν.1 100 0 = nI n) (hr : fM_firstReady N ν (nI D) = some (-1)) : ∀ (m E t : Nat), t + m = n → m < E → fM_count_117 N E (nI D) (nI t) ν = some ν := by
  intro m
  induction m with
  | zero =>
    intro E t ht hE
    obtain ⟨E, rfl⟩ : ∃ q, E = q + 1 := ⟨E - 1, by omega⟩
    have e : t = n := by omega
    subst e
    show fM_count_117b N (fM_count_117 N E) (nI D) (nI t) ν = some ν
    unfold fM_count_117b fM_count_213
    rw [hn, if_pos (nI_le (Nat.le_refl _) (by omega))]
  | succ m ih =>
    intro E t ht hE
    obtain ⟨E, rfl⟩ : ∃ q, E = q + 1 := ⟨E - 1, by omega⟩
    show fM_count_117b N (fM_count_117 N E) (nI D) (nI t) ν = some ν
    unfold fM_count_117b fM_count_207
    rw [hn, if_neg (nI_ge (by omega) (by omega)), hr, ba_b, if_pos (by decide), nI_1]
    exact ih E (t + 1) (by omega) (by omega)
def cm_J (n : Nat) (l : Nat → Nat) (μ ν : me_M) (D c : Nat) : Prop := D < 2 ^ n ∧ gf_cl n l D ∧ c ≤ st_cn D n ∧ (∀ w, w < n → ν.1 6 w = nI (l w)) ∧ (∀ w, w < n → μ.1 18 w = nI (gf_R l n w)) ∧ (∀ w, w < n → ν.1 14 w = nI (gf_R l n w)) ∧ ν.1 128 0 = nI c ∧ ∀ w, w < n → (D.testBit w = true → ∃ z, z < 12 ∧ μ.1 17 w = nI z ∧ ν.1 15 w = nI z) ∧ (D.testBit w = false → ν.1 15 w = -1)
theorem cm_loop {N n : Nat} {μ ν : me_M} {l : Nat → Nat} (hN : 4096 ≤ N) (h12 : n ≤ 12) (hn : ν.1 100 0 = nI n) (hl : ∀ w, w < n → l w < 2 ^ n) : ∀ (m F E c D : Nat) (r : Int32) (μ1 ν1 : me_M), c + m = n → m < F → m < E → cm_J n l μ1 ν1 D c → me_fr [17, 18] [] μ μ1 → me_fr [14, 15, 128] [] ν ν1 → fS_nextReady N n μ1 (nI D) = some r → ∃ (c' : Nat) (μ' ν' : me_M), fS_numberAll_14 N n F (nI D) (nI c) r μ1 = some (nI c', μ') ∧ fM_count_117 N E (nI D) (nI c) ν1 = some ν' ∧ ν'.1 128 0 = nI c' ∧ me_fr [17, 18] [] μ μ' ∧ me_fr [14, 15, 128] [] ν ν' ∧ ∀ w, w < n → ∃ z, z < 12 ∧ μ'.1 17 w = nI z ∧ ν'.1 15 w = nI z := by
  have hp := dr_pow h12
  have use : ∀ (c D : Nat) (r : Int32) (μ1 ν1 : me_M), cm_J n l μ1 ν1 D c → me_fr [14, 15, 128] [] ν ν1 → fS_nextReady N n μ1 (nI D) = some r → fM_firstReady N ν1 (nI D) = some r ∧ ((∃ v, v < n ∧ r = nI v ∧ D.testBit v = false ∧ gf_rm n (gf_R l n) l D v) ∨ (r = -1 ∧ ∀ v, v < n → D.testBit v = true)) := by
    intro c D r μ1 ν1 hJ k2 hr
    obtain ⟨j1, j2, j3, j4, j5, j6, j7, j8⟩ := hJ
    have hn1 : ν1.1 100 0 = nI n := by rw [k2.1 100 (by decide)]; exact hn
    obtain ⟨r', e1, e2, e3⟩ := cm_next (N := N) (D := D) (μ := μ1) (ν := ν1) (l := l) hN h12 hn1 (fun w hw => ⟨j4 w hw, hl w hw⟩) j5 j6 j1 j2 (fun w hw => ⟨fun e => by obtain ⟨z, z1, -, z3⟩ := (j8 w hw).1 e; exact ⟨z, z1, z3⟩, (j8 w hw).2⟩)
    rw [hr] at e1
    cases e1
    refine ⟨e2, e3.elim Or.inl (fun q => Or.inr ⟨q.1, fun v hv => ?_⟩)⟩
    apply Classical.byContradiction
    intro g
    obtain ⟨x, x1, x2, x3⟩ := gf_prog (l := l) (D := D) h12 hl hv (by simpa using g)
    exact q.2 x x1 x2 x3
  intro m
  induction m with
  | zero =>
    intro F E c D r μ1 ν1 hc hF hE hJ k1 k2 hr
    obtain ⟨F, rfl⟩ : ∃ q, F = q + 1 := ⟨F - 1, by omega⟩
    obtain ⟨E, rfl⟩ : ∃ q, E = q + 1 := ⟨E - 1, by omega⟩
    have e : c = n := by omega
    subst e
    obtain ⟨u1, u2⟩ := use _ _ _ _ _ hJ k2 hr
    obtain ⟨j1, j2, j3, j4, j5, j6, j7, j8⟩ := hJ
    have hfull := gf_full c j3
    have hn1 : ν1.1 100 0 = nI c := by rw [k2.1 100 (by decide)]; exact hn
    show ∃ (c' : Nat) (μ' ν' : me_M), fS_numberAll_14b N c (fS_numberAll_14 N c F) (nI D) (nI c) r μ1 = some (nI c', μ') ∧ fM_count_117b N (fM_count_117 N E) (nI D) (nI c) ν1 = some ν' ∧ _
    unfold fS_numberAll_14b fS_numberAll_88 fM_count_117b fM_count_213
    rw [hn1, if_pos (nI_le (Nat.le_refl _) (by omega)), if_pos (nI_le (Nat.le_refl _) (by omega))]
    refine ⟨c, μ1, ν1, ?_, rfl, j7, k1, k2, fun w hw => (j8 w hw).1 (hfull w hw)⟩
    split <;> rfl
  | succ m ih =>
    intro F E c D r μ1 ν1 hc hF hE hJ k1 k2 hr
    obtain ⟨F, rfl⟩ : ∃ q, F = q + 1 := ⟨F - 1, by omega⟩
    obtain ⟨E, rfl⟩ : ∃ q, E = q + 1 := ⟨E - 1, by omega⟩
    obtain ⟨u1, u2⟩ := use _ _ _ _ _ hJ k2 hr
    obtain ⟨j1, j2, j3, j4, j5, j6, j7, j8⟩ := id hJ
    have hn1 : ν1.1 100 0 = nI n := by rw [k2.1 100 (by decide)]; exact hn
    have hlt := fun v hv => gf_lt hl n v (Nat.le_refl _) hv
    rcases u2 with ⟨v, hv, rfl, hDv, hrm⟩ | ⟨rfl, hall⟩
    · have hPn := gf_ptlt (gf_R l n) v n
      have hD' : D ||| gf_pt (gf_R l n) v n < 2 ^ n := Nat.or_lt_two_pow j1 hPn
      obtain ⟨μ2, s1, s2, s3⟩ := cm_setC (N := N) (n := n) (D := D) (P := gf_pt (gf_R l n) v n) (c := c) (μ := μ1) (k14 := fS_numberAll_14 N n F) hN h12 hPn
      obtain ⟨ν2, t1, t2, t3⟩ := cm_setM (N := N) (n := n) (D := D) (P := gf_pt (gf_R l n) v n) (c := c) (t0 := c) (ν := ν1) (k117 := fM_count_117 N E) hN h12 hn1 hPn j7
      show ∃ (c' : Nat) (μ' ν' : me_M), fS_numberAll_14b N n (fS_numberAll_14 N n F) (nI D) (nI c) (nI v) μ1 = some (nI c', μ') ∧ fM_count_117b N (fM_count_117 N E) (nI D) (nI c) ν1 = some ν' ∧ _
      unfold fS_numberAll_14b fM_count_117b
      rw [if_neg (nI_pos (by omega)), if_neg (nI_ge (by omega) (by omega)), cm_part hN h12 hv (fun w hw => ⟨j5 w hw, hlt w hw⟩), ba_b, s1, hn1, if_neg (nI_ge (by omega) (by omega)), u1, ba_b, if_neg (nI_pos (by omega)), cm_tog hN h12 hv hn1 (fun w hw => ⟨j6 w hw, hlt w hw⟩), ba_b, t1]
      unfold fS_numberAll_71 fM_count_192 fM_count_207
      have hc2 : ν2.1 128 0 = nI c := by rw [t2.1 128 (by decide)]; exact j7
      rw [ap_or (by omega) (by omega), hc2, nI_1]
      have hJ' : cm_J n l μ2 (me_wi ν2 128 0 (nI (c + 1))) (D ||| gf_pt (gf_R l n) v n) (c + 1) := by
        refine ⟨hD', gf_clD h12 hl j2 hrm, ?_, ?_, ?_, ?_, me_wi_s _ _ _ _, fun w hw => ?_⟩
        · apply Nat.le_of_not_lt
          intro hlt2
          have hsub : ∀ x, D.testBit x = true → (D ||| gf_pt (gf_R l n) v n).testBit x = true := fun x hx => by rw [Nat.testBit_or, hx]; rfl
          have hmem : (D ||| gf_pt (gf_R l n) v n).testBit v = true := by
            rw [Nat.testBit_or, Bool.or_eq_true]
            exact Or.inr ((gf_ptb _ _ _ _).mpr ⟨hv, gf_mono n (Or.inr rfl), gf_mono n (Or.inr rfl)⟩)
          have := gf_cneq hsub n (by omega) v hv hmem
          rw [hDv] at this
          cases this
        · intro w hw
          rw [me_wi_c _ _ _ _ (by decide), t2.1 6 (by decide)]; exact j4 w hw
        · intro w hw
          rw [s2.1 18 (by decide)]; exact j5 w hw
        · intro w hw
          rw [me_wi_c _ _ _ _ (by decide), t2.1 14 (by decide)]; exact j6 w hw
        · rw [me_wi_c _ _ _ _ (by decide), s3 w hw, t3 w hw, Nat.testBit_or]
          by_cases g : (gf_pt (gf_R l n) v n).testBit w = true
          · rw [if_pos g, if_pos g, g]
            exact ⟨fun _ => ⟨c, by omega, rfl, rfl⟩, fun q => by simp at q⟩
          · have g' : (gf_pt (gf_R l n) v n).testBit w = false := by simpa using g
            rw [if_neg g, if_neg g, g', Bool.or_false]
            exact j8 w hw
      have k1' : me_fr [17, 18] [] μ μ2 := k1.tr (s2.mono (by decide) (by decide))
      have k2' : me_fr [14, 15, 128] [] ν (me_wi ν2 128 0 (nI (c + 1))) := (k2.tr (t2.mono (by decide) (by decide))).wi (by decide)
      obtain ⟨q1, q2, q3, q4, q5, q6, q7, q8⟩ := id hJ'
      obtain ⟨r', e1, -⟩ := cm_next (N := N) (D := D ||| gf_pt (gf_R l n) v n) (μ := μ2) (ν := me_wi ν2 128 0 (nI (c + 1))) (l := l) hN h12 (by rw [k2'.1 100 (by decide)]; exact hn) (fun w hw => ⟨q4 w hw, hl w hw⟩) q5 q6 q1 q2 (fun w hw => ⟨fun e => by obtain ⟨z, z1, -, z3⟩ := (q8 w hw).1 e; exact ⟨z, z1, z3⟩, (q8 w hw).2⟩)
      rw [e1, ba_b]
      exact ih F E (c + 1) _ r' μ2 _ (by omega) (by omega) (by omega) hJ' k1' k2' e1
    · rw [cm_idle h12 hn1 u1 (m + 1) (E + 1) c (by omega) (by omega)]
      show ∃ (c' : Nat) (μ' ν' : me_M), fS_numberAll_14b N n (fS_numberAll_14 N n F) (nI D) (nI c) (-1) μ1 = some (nI c', μ') ∧ some ν1 = some ν' ∧ _
      unfold fS_numberAll_14b fS_numberAll_88
      rw [if_pos (by decide)]
      exact ⟨c, μ1, ν1, rfl, rfl, j7, k1, k2, fun w hw => (j8 w hw).1 (hall w hw)⟩
theorem cm_all {N n : Nat} {μ ν : me_M} (hN : 4096 ≤ N) (h : rl_R N n μ ν) : ∃ (c : Nat) (μ' ν' : me_M), fS_numberAll N n μ = some (nI c, μ') ∧ fM_count N ν = some ν' ∧ ν'.1 128 0 = nI c ∧ rl_R N n μ' ν' ∧ ∀ w, w < n → μ'.1 17 w = ν'.1 15 w := by
  obtain ⟨⟨h1, h12⟩, ⟨hn, -⟩, -⟩ := id h
  obtain ⟨ν1, g1, g2, g3, g4⟩ := sh_use hN h
  have hn1 : ν1.1 100 0 = nI n := by rw [g2.1 100 (by decide)]; exact hn
  obtain ⟨l, hl⟩ : ∃ l : Nat → Nat, ∀ w, w < n → μ.1 12 w = nI (l w) ∧ ν1.1 6 w = nI (l w) ∧ l w < 2 ^ n := by
    obtain ⟨f, hf⟩ := Classical.axiomOfChoice (r := fun (w : Nat) (x : Nat) => w < n → μ.1 12 w = nI x ∧ ν1.1 6 w = nI x ∧ x < 2 ^ n) (fun w => by
      by_cases hw : w < n
      · obtain ⟨ls, fa, q1, q2, q3, q4, -⟩ := g4 w hw
        exact ⟨ls, fun _ => ⟨q3, q4, q1⟩⟩
      · exact ⟨0, fun q => absurd q hw⟩)
    exact ⟨f, hf⟩
  obtain ⟨μ2, a1, a2, a3⟩ := cm_reach (N := N) (n := n) (μ := μ) (l := l) hN h12 (fun w hw => ⟨(hl w hw).1, (hl w hw).2.2⟩)
  obtain ⟨ν2, b1, b2, b3, b4⟩ := cm_reachM (N := N) (n := n) (ν := ν1) (l := l) hN h12 hn1 (fun w hw => ⟨(hl w hw).2.1, (hl w hw).2.2⟩)
  have hn2 : ν2.1 100 0 = nI n := by rw [b2.1 100 (by decide)]; exact hn1
  have hJ : cm_J n l μ2 (me_wi ν2 128 0 (nI 0)) 0 0 := by
    refine ⟨Nat.two_pow_pos n, (fun w _ hw => by rw [Nat.zero_testBit] at hw; cases hw), Nat.zero_le _, fun w hw => ?_, a3, fun w hw => ?_, me_wi_s _ _ _ _, fun w hw => ⟨(fun q => by rw [Nat.zero_testBit] at q; cases q), fun _ => ?_⟩⟩
    · rw [me_wi_c _ _ _ _ (by decide), b2.1 6 (by decide)]; exact (hl w hw).2.1
    · rw [me_wi_c _ _ _ _ (by decide)]; exact b3 w hw
    · rw [me_wi_c _ _ _ _ (by decide)]; exact b4 w hw
  have hn3 : (me_wi ν2 128 0 (nI 0)).1 100 0 = nI n := by rw [me_wi_c _ _ _ _ (by decide)]; exact hn2
  obtain ⟨q1, q2, q3, q4, q5, q6, q7, q8⟩ := id hJ
  obtain ⟨r, e1, -⟩ := cm_next (N := N) (D := 0) (μ := μ2) (ν := me_wi ν2 128 0 (nI 0)) (l := l) hN h12 hn3 (fun w hw => ⟨q4 w hw, (hl w hw).2.2⟩) q5 q6 q1 q2 (fun w hw => ⟨fun e => by obtain ⟨z, z1, -, z3⟩ := (q8 w hw).1 e; exact ⟨z, z1, z3⟩, (q8 w hw).2⟩)
  obtain ⟨c, μ', ν', f1, f2, f3, f4, f5, f6⟩ := cm_loop (N := N) (n := n) (μ := μ2) (ν := me_wi ν2 128 0 (nI 0)) (l := l) hN h12 hn3 (fun w hw => (hl w hw).2.2) n N N 0 0 r μ2 (me_wi ν2 128 0 (nI 0)) (by omega) (by omega) (by omega) hJ me_fr.rf me_fr.rf e1
  refine ⟨c, μ', ν', ?_, ?_, f3, ?_, fun w hw => ?_⟩
  · unfold fS_numberAll
    rw [a1, ba_b, show (0 : Int32) = nI 0 from rfl, e1, ba_b]
    exact f1
  · unfold fM_count
    rw [g1, ba_b, b1]
    exact f2
  · refine g3.of (rl_fr ((a2.mono (by decide) (by decide) : me_fr [17, 18] [] μ μ2).tr f4) (by decide)) (rl_fr (((b2.mono (by decide) (by decide) : me_fr [14, 15, 128] [] ν1 ν2).wi (by decide)).tr f5) (by decide)) ?_ ?_
    · funext x
      exact ((a2.mono (by decide) (by decide) : me_fr [17, 18] [] μ μ2).tr f4).2 x (by simp)
    · funext x
      exact (((b2.mono (by decide) (by decide) : me_fr [14, 15, 128] [] ν1 ν2).wi (c := 128) (i := 0) (x := nI 0) (by decide)).tr f5).2 x (by simp)
  · obtain ⟨z, -, z1, z2⟩ := f6 w hw
    rw [z1, z2]
theorem op_components {N n : Nat} {μ ν : me_M} (hN : 4096 ≤ N) (h : rl_R N n μ ν) : ∃ (r : Int32) (μ' ν' : me_M), fA_components N n μ = some (r, μ') ∧ fM_components N ν = some (r, ν') ∧ rl_R N n μ' ν' := by
  obtain ⟨c, μ', ν', e1, e2, e3, e4, -⟩ := cm_all hN h
  unfold fA_components fM_components
  rw [e1, e2, ba_b, ba_b, e3]
  exact ⟨_, _, _, rfl, rfl, e4⟩
theorem op_component {N n : Nat} {μ ν : me_M} (hN : 4096 ≤ N) (a : Int32) (h : rl_R N n μ ν) : ∃ (r : Int32) (μ' ν' : me_M), fA_component N n a μ = some (r, μ') ∧ fM_component N a ν = some (r, ν') ∧ rl_R N n μ' ν' := by
  obtain ⟨⟨h1, h12⟩, ⟨hn, -⟩, -⟩ := id h
  unfold fA_component fM_component
  rcases sh_out h12 a with q | ⟨u, hu, rfl⟩
  · rw [ap_node0 h1 h12 q, ap_mnode0 hn q, ba_b, ba_b, ba_00, ba_00]
    exact ⟨_, _, _, rfl, rfl, h⟩
  · obtain ⟨c, μ', ν', e1, e2, e3, e4, e5⟩ := cm_all hN h
    rw [ap_node1 h12 hu, ap_mnode1 hn h12 hu, ba_b, ba_b, ba_10, ba_10, e1, e2, ba_b, ba_b, ba_gi hu (by omega), ba_gi (n := 12) (by omega) (by decide), nI_clamp (by omega), e5 u hu]
    exact ⟨_, _, _, rfl, rfl, e4⟩
