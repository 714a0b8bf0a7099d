theorem sr_moveC {N n : Nat} {μ : me_M} {t s : Nat → Nat} (hN : 4096 ≤ N) (h12 : n ≤ 12) (ht : ∀ v, v < n → t v ≤ 1000000000000 ∧ μ.2 20 v = lN (t v)) (hs : ∀ v, v < n → s v ≤ 1000000000000 ∧ μ.2 22 v = lN (s v)) : ∃ μ', fO_stepOnce_51 N n μ = some μ' ∧ me_fr [] [2003] μ μ' ∧ μ'.2 2003 0 = lN (rl_sum (fun v => sq_d (t v) (s v)) n) := by
  refine lp_g (fun o => ∃ μ', o = some μ' ∧ me_fr [] [2003] μ μ' ∧ μ'.2 2003 0 = lN (rl_sum (fun v => sq_d (t v) (s v)) n)) (fun F k m => fO_stepOnce_58 N n F (nI k) m) (fun k m => me_fr [] [2003] μ m ∧ m.2 2003 0 = lN (rl_sum (fun v => sq_d (t v) (s v)) k)) n ?_ ?_ n N 0 _ (by omega) (by omega) ⟨me_fr.rf.wl (by decide), by rw [me_wl_s]; rfl⟩
  · rintro F k m hk ⟨f1, f2⟩ ih
    show ∃ μ', fO_stepOnce_58b N n (fO_stepOnce_58 N n F) (nI k) m = some μ' ∧ _
    unfold fO_stepOnce_58b
    rw [if_neg (nI_ge hk (by omega)), ba_gi hk (by omega), ba_gi hk (by omega), nI_clamp (by omega), f1.2 20 (by decide), f1.2 22 (by decide), (ht k hk).2, (hs k hk).2, sq_abs (ht k hk).1 (hs k hk).1, f2, lN_add, nI_1]
    exact ih _ ⟨f1.wl (by decide), by rw [me_wl_s]; rfl⟩
  · rintro F m ⟨f1, f2⟩
    show ∃ μ', fO_stepOnce_58b N n (fO_stepOnce_58 N n F) (nI n) m = some μ' ∧ _
    unfold fO_stepOnce_58b fO_stepOnce_98
    rw [if_pos (nI_le (Nat.le_refl _) (by omega))]
    exact ⟨m, rfl, f1, f2⟩
theorem sr_moveM {N n : Nat} {μ : me_M} {t s : Nat → Nat} (hN : 4096 ≤ N) (h12 : n ≤ 12) (hn : μ.1 100 0 = nI n) (ht : ∀ v, v < n → t v ≤ 1000000000000 ∧ μ.2 13 v = lN (t v)) (hs : ∀ v, v < n → s v ≤ 1000000000000 ∧ μ.2 11 v = lN (s v)) : ∃ μ', (∀ k18 l1 l2, fM_step_56 N k18 l1 l2 μ = fM_step_143 N k18 l1 l2 μ') ∧ me_fr [] [11, 125] μ μ' ∧ μ'.2 125 0 = lN (rl_sum (fun v => sq_d (t v) (s v)) n) ∧ ∀ v, v < n → μ'.2 11 v = lN (t v) := by
  have key : ∀ m F k (m0 : me_M), k + m = n → m < F → (me_fr [] [11, 125] μ m0 ∧ m0.2 125 0 = lN (rl_sum (fun v => sq_d (t v) (s v)) k) ∧ (∀ v, v < k → m0.2 11 v = lN (t v)) ∧ ∀ v, k ≤ v → m0.2 11 v = μ.2 11 v) → ∃ μ', (∀ k18 l1 l2, fM_step_63 N k18 F l1 l2 (nI k) m0 = fM_step_143 N k18 l1 l2 μ') ∧ me_fr [] [11, 125] μ μ' ∧ μ'.2 125 0 = lN (rl_sum (fun v => sq_d (t v) (s v)) n) ∧ ∀ v, v < n → μ'.2 11 v = lN (t v) := by
    intro m
    induction m with
    | zero =>
      intro F k m0 hk hF ⟨f1, f2, f3, f4⟩
      obtain ⟨F, rfl⟩ : ∃ f, F = f + 1 := ⟨F - 1, by omega⟩
      have hkn : k = n := by omega
      subst hkn
      have hn' : m0.1 100 0 = nI k := by rw [f1.1 100 (by simp)]; exact hn
      refine ⟨m0, fun k18 l1 l2 => ?_, f1, f2, f3⟩
      show fM_step_63b N k18 (fM_step_63 N k18 F) l1 l2 (nI k) m0 = _
      unfold fM_step_63b
      rw [hn', if_pos (nI_le (Nat.le_refl _) (by omega))]
    | succ m ih =>
      intro F k m0 hk hF ⟨f1, f2, f3, f4⟩
      obtain ⟨F, rfl⟩ : ∃ f, F = f + 1 := ⟨F - 1, by omega⟩
      have hkn : k < n := by omega
      have hn' : m0.1 100 0 = nI n := by rw [f1.1 100 (by simp)]; exact hn
      obtain ⟨t1, t2⟩ := ht k hkn
      obtain ⟨s1, s2⟩ := hs k hkn
      have t3 : m0.2 13 k = lN (t k) := by rw [f1.2 13 (by decide)]; exact t2
      have s3 : m0.2 11 k = lN (s k) := by rw [f4 k (Nat.le_refl _)]; exact s2
      obtain ⟨μ', g1, g2⟩ := ih F (k + 1) (me_wl (me_wl m0 125 0 (lN (rl_sum (fun v => sq_d (t v) (s v)) (k + 1)))) 11 k (lN (t k))) (by omega) (by omega) ⟨(f1.wl (by decide)).wl (by decide), by rw [me_wl_c _ _ _ _ (by decide), me_wl_s], fun v hv => by
        by_cases e : v = k
        · subst e; rw [me_wl_s]
        · rw [me_wl_n _ _ _ _ e, me_wl_c _ _ _ _ (by decide)]; exact f3 v (by omega), fun v hv => by
        rw [me_wl_n _ _ _ _ (by omega), me_wl_c _ _ _ _ (by decide)]; exact f4 v (by omega)⟩
      refine ⟨μ', fun k18 l1 l2 => ?_, g2⟩
      rw [← g1 k18 l1 l2]
      show fM_step_63b N k18 (fM_step_63 N k18 F) l1 l2 (nI k) m0 = _
      have hg : ∀ {α : Type} {z : Option α}, me_gi (nI k) 12 z = z := ba_gi (by omega) (by omega)
      unfold fM_step_63b fM_step_121
      rw [hn', if_neg (nI_ge hkn (by omega))]
      simp only [hg]
      rw [nI_clamp (by omega), t3, s3, f2, nI_1]
      rw [me_wl_c _ _ _ _ (show 13 ≠ 125 by decide), me_wl_c _ _ _ _ (show 13 ≠ 125 by decide), t3]
      show _ = fM_step_63 N k18 F l1 l2 (nI (k + 1)) (me_wl (me_wl m0 125 0 (lN (rl_sum (fun v => sq_d (t v) (s v)) k + sq_d (t k) (s k)))) 11 k (lN (t k)))
      unfold sq_d
      by_cases e : t k ≤ s k
      · rw [if_pos ((sp_cmpN (by omega) (by omega)).mpr e), if_pos e, lN_sub e, lN_add]
      · rw [if_neg (fun z => e ((sp_cmpN (by omega) (by omega)).mp z)), if_neg e, lN_sub (by omega), lN_add]
  obtain ⟨μ', g1, g2, g3⟩ := key n N 0 (me_wl μ 125 0 0) (by omega) (by omega) ⟨me_fr.rf.wl (by decide), by rw [me_wl_s]; rfl, fun v hv => by omega, fun v hv => by rw [me_wl_c _ _ _ _ (by decide)]⟩
  exact ⟨μ', g1, g2, g3⟩
theorem sr_cpf {μ : me_M} {n : Nat} : me_fr [] [22] μ (me_cp μ 20 22 0 0 n) := ⟨fun _ _ => rfl, fun c hc => by
  show (bif Nat.beq c 22 then _ else μ.2 c) = _
  have : Nat.beq c 22 = false := by
    cases hb : Nat.beq c 22 with
    | false => rfl
    | true => exact absurd (Nat.eq_of_beq_eq_true hb) (by simpa using hc)
  rw [this]
  rfl⟩
theorem sr_cpv {μ : me_M} {n v : Nat} (hv : v < n) : (me_cp μ 20 22 0 0 n).2 22 v = μ.2 20 v := by
  show (if 0 ≤ v ∧ v < 0 + n then μ.2 20 (0 + (v - 0)) else _) = _
  rw [if_pos (by omega), show 0 + (v - 0) = v by omega]
theorem sr_once {N n : Nat} {μ ν : me_M} {l : Nat → Nat} (hN : 4096 ≤ N) (h1 : 1 ≤ n) (h12 : n ≤ 12) (hn : ν.1 100 0 = nI n) (hW : rl_W n μ ν) (hS : rl_S n μ ν) (hl : ∀ u, u < n → l u < 4096 ∧ μ.1 12 u = nI (l u)) (hl' : ∀ u, u < n → l u < 4096 ∧ ν.1 6 u = nI (l u)) : ∃ μ' ν', fO_stepOnce N n μ = some μ' ∧ (∀ k18 l1 l2, ¬ l1 ≤ l2 → fM_step_18b N k18 l1 l2 ν = fM_step_143 N k18 l1 l2 ν') ∧ me_fr [] [20, 21, 22, 2003] μ μ' ∧ me_fr [] [11, 12, 13, 125] ν ν' ∧ rl_S n μ' ν' := by
  obtain ⟨kd, a, s, h, ⟨p1, p2, p3, p4, p5, p6⟩, -, p7, p8⟩ := hS
  obtain ⟨w, w1, w2⟩ := hW
  have hs63 : ∀ v, v < n → s v ≤ 1000000000000 := fun v hv => tp_S63 p8 hv
  have e0 : ((0 : Int32)).toNatClampNeg = 0 := rfl
  have en : (nI n).toNatClampNeg = n := nI_clamp (by omega)
  unfold fO_stepOnce me_gc
  rw [if_pos ⟨by decide, by decide, nI_pos (by omega), by rw [e0, en]; omega, by rw [e0, en]; omega⟩, e0, en]
  have c1 := sr_cpf (μ := μ) (n := n)
  have c2 : ∀ v, v < n → (me_cp μ 20 22 0 0 n).2 22 v = lN (s v) := fun v hv => by rw [sr_cpv hv]; exact (p7 v hv).1
  have c3 : ∀ v, v < n → (me_cp μ 20 22 0 0 n).2 20 v = lN (s v) := fun v hv => by rw [c1.2 20 (by decide)]; exact (p7 v hv).1
  have c4 : ∀ v, v < n → (me_cp μ 20 22 0 0 n).2 21 v = lN (h v) := fun v hv => by rw [c1.2 21 (by decide)]; exact (p7 v hv).2.2.1
  generalize me_cp μ 20 22 0 0 n = m0 at c1 c2 c3 c4 ⊢
  have hlc : ∀ u, u < n → l u < 4096 ∧ m0.1 12 u = nI (l u) := fun u hu => ⟨(hl u hu).1, by rw [c1.1 12 (by simp)]; exact (hl u hu).2⟩
  rw [c1.1 2006 (by simp), p3]
  -- all three end so
  have fin : ∀ (m1 m2 : me_M) (t g : Nat → Nat), me_fr [] [20, 21] m0 m1 → me_fr [] [12, 13] ν m2 → (∀ v, v < n → t v ≤ 1000000000000) → (∀ v, v < n → m1.2 20 v = lN (t v) ∧ m1.2 21 v = lN (g v) ∧ m2.2 13 v = lN (t v) ∧ m2.2 12 v = lN (g v)) → ((kd = 1 → ∀ v, v < n → t v ≤ 1000000 ∧ g v ≤ 1000000) ∧ (kd ≠ 1 → rl_sum t n ≤ 1000000000000)) → ∃ μ' ν', fO_stepOnce_51 N n m1 = some μ' ∧ (∀ k18 l1 l2, fM_step_56 N k18 l1 l2 m2 = fM_step_143 N k18 l1 l2 ν') ∧ me_fr [] [20, 21, 22, 2003] μ μ' ∧ me_fr [] [11, 12, 13, 125] ν ν' ∧ rl_S n μ' ν' := by
    intro m1 m2 t g q1 q2 q3 q4 q5
    obtain ⟨μ', a1, a2, a3⟩ := sr_moveC (N := N) (n := n) (μ := m1) (t := t) (s := s) hN h12 (fun v hv => ⟨q3 v hv, (q4 v hv).1⟩) (fun v hv => ⟨hs63 v hv, by rw [q1.2 22 (by decide)]; exact c2 v hv⟩)
    obtain ⟨ν', b1, b2, b3, b4⟩ := sr_moveM (N := N) (n := n) (μ := m2) (t := t) (s := s) hN h12 (by rw [q2.1 100 (by simp)]; exact hn) (fun v hv => ⟨q3 v hv, (q4 v hv).2.2.1⟩) (fun v hv => ⟨hs63 v hv, by rw [q2.2 11 (by decide)]; exact (p7 v hv).2.1⟩)
    have x1 : me_fr [] [20, 21, 22, 2003] μ μ' := (c1.mono (by simp) (by simp)).tr ((q1.mono (by simp) (by simp)).tr (a2.mono (by simp) (by simp)))
    have x2 : me_fr [] [11, 12, 13, 125] ν ν' := (q2.mono (by simp) (by simp)).tr (b2.mono (by simp) (by simp))
    refine ⟨μ', ν', a1, b1, x1, x2, kd, a, t, g, ⟨p1, p2, by rw [x1.1 2006 (by simp)]; exact p3, by rw [x2.1 120 (by simp)]; exact p4, by rw [x1.1 2007 (by simp)]; exact p5, by rw [x2.1 121 (by simp)]; exact p6⟩, by rw [a3, b3], fun v hv => ⟨?_, b4 v hv, ?_, ?_⟩, q5⟩
    · rw [a2.2 20 (by decide)]; exact (q4 v hv).1
    · rw [a2.2 21 (by decide)]; exact (q4 v hv).2.1
    · rw [b2.2 12 (by decide)]; exact (q4 v hv).2.2.2
  rcases Nat.lt_or_ge kd 1 with hk | hk
  · obtain rfl : kd = 0 := by omega
    have hsum := p8.2 (by decide)
    obtain ⟨m1, a1, a2, a3⟩ := sp_rankC (N := N) (n := n) (a := a) (μ := m0) (l := l) (s := s) (w := w) hN h12 p2 (by rw [c1.1 2007 (by simp)]; exact p5) hlc c2 hsum (fun u hu => ⟨(w1 u hu).1, by rw [c1.1 23 (by simp)]; exact (w1 u hu).2.1⟩)
    obtain ⟨m2, b1, b2, b3⟩ := sp_rankM (N := N) (n := n) (a := a) (μ := ν) (l := l) (s := s) (w := w) hN h12 hn p2 p6 hl' (fun u hu => (p7 u hu).2.1) hsum (fun u hu => ⟨(w1 u hu).1, (w1 u hu).2.2⟩) w2
    have hr := sq_rank (l := l) (s := s) (w := w) (a := a) h12 p2 w2 hsum
    obtain ⟨μ', ν', f1, f2, f3⟩ := fin m1 m2 (sp_rank l s w a n) h (a2.mono (by simp) (by simp)) (b2.mono (by simp) (by simp)) (fun v hv => Nat.le_trans (su_le hv) hr) (fun v hv => ⟨a3 v hv, by rw [a2.2 21 (by decide)]; exact c4 v hv, b3 v hv, by rw [b2.2 12 (by decide)]; exact (p7 v hv).2.2.2⟩) ⟨fun e => absurd e (by decide), fun _ => hr⟩
    refine ⟨μ', ν', ?_, fun k18 l1 l2 hlt => ?_, f3⟩
    · rw [if_pos nI_0, a1, ba_b]; exact f1
    · unfold fM_step_18b
      rw [if_neg hlt, p4, if_pos nI_0, b1, ba_b]; exact f2 k18 l1 l2
  · rcases Nat.lt_or_ge kd 2 with hk2 | hk2
    · obtain rfl : kd = 1 := by omega
      have hb := p8.1 rfl
      obtain ⟨m1, a1, a2, a3⟩ := sp_greatC (N := N) (n := n) (μ := m0) (l := l) (h := h) hN h12 hlc (fun u hu => ⟨(hb u hu).2, c4 u hu⟩)
      obtain ⟨m2, b1, b2, b3⟩ := sp_greatM (N := N) (n := n) (μ := ν) (l := l) (h := h) hN h12 hn hl' (fun u hu => ⟨(hb u hu).2, (p7 u hu).2.2.2⟩)
      obtain ⟨μ', ν', f1, f2, f3⟩ := fin m1 m2 (sp_s1 l h n) (sp_h1 l h n) a2 (b2.mono (by simp) (by simp)) (fun v hv => Nat.le_trans (sp_br_le hv) (by decide)) (fun v hv => ⟨(a3 v hv).1, (a3 v hv).2, (b3 v hv).1, (b3 v hv).2⟩) ⟨fun _ v hv => ⟨sp_br_le hv, sp_br_le hv⟩, fun e => absurd rfl e⟩
      refine ⟨μ', ν', ?_, fun k18 l1 l2 hlt => ?_, f3⟩
      · rw [if_neg (show ¬ nI 1 = 0 by decide), if_pos (show nI 1 = 1 from rfl), a1, ba_b]; exact f1
      · unfold fM_step_18b
        rw [if_neg hlt, p4, if_neg (show ¬ nI 1 = 0 by decide), if_pos (show nI 1 = 1 from rfl), b1, ba_b]; exact f2 k18 l1 l2
    · obtain rfl : kd = 2 := by omega
      have hsum := p8.2 (by decide)
      obtain ⟨m1, a1, a2, a3⟩ := sp_sharesC (N := N) (n := n) (μ := m0) (l := l) (s := s) hN h12 hlc c3 hsum
      obtain ⟨m2, b1, b2, b3⟩ := sp_sharesM (N := N) (n := n) (μ := ν) (l := l) (s := s) hN h12 hn hl' (fun u hu => (p7 u hu).2.1) hsum
      have hr : rl_sum (sp_s2 l s n) n ≤ 1000000000000 := Nat.le_trans (sq_s2 h12) hsum
      obtain ⟨μ', ν', f1, f2, f3⟩ := fin m1 m2 (sp_s2 l s n) (sp_h2 l s n) a2 (b2.mono (by simp) (by simp)) (fun v hv => Nat.le_trans (su_le hv) hr) (fun v hv => ⟨(a3 v hv).1, (a3 v hv).2, (b3 v hv).1, (b3 v hv).2⟩) ⟨fun e => absurd e (by decide), fun _ => hr⟩
      refine ⟨μ', ν', ?_, fun k18 l1 l2 hlt => ?_, f3⟩
      · rw [if_neg (show ¬ nI 2 = 0 by decide), if_neg (show ¬ nI 2 = 1 by decide), a1, ba_b]; exact f1
      · unfold fM_step_18b
        rw [if_neg hlt, p4, if_neg (show ¬ nI 2 = 0 by decide), if_neg (show ¬ nI 2 = 1 by decide), b1, ba_b]; exact f2 k18 l1 l2
theorem op_step {N n : Nat} {μ ν : me_M} (hN : 4096 ≤ N) (x : Int32) (h : rl_R N n μ ν) : ∃ (r : Int32) (μ' ν' : me_M), fA_step N n x μ = some (r, μ') ∧ fM_step N x ν = some (r, ν') ∧ rl_R N n μ' ν' := by
  obtain ⟨⟨h1, h12⟩, ⟨hn, -⟩, -⟩ := id h
  have hp := dr_pow h12
  unfold fA_step fA_step_22 fM_step fM_step_10
  by_cases q1 : x < 0
  · rw [ap_wlo q1, if_pos q1, ba_b, ba_00]
    exact ⟨_, _, _, rfl, rfl, h⟩
  · by_cases q2 : (20 : Int32) < x
    · rw [ap_whi q1 q2, if_neg q1, if_neg (fun z => absurd (Int32.not_lt.mpr z) (by simpa using q2)), ba_b, ba_00]
      exact ⟨_, _, _, rfl, rfl, h⟩
    · obtain ⟨j, hj, rfl⟩ := nI_of2 (M := 20) (n := 20) (by decide) q1 (Int32.not_lt.mp q2)
      rw [ap_win q1 q2, if_neg q1, if_pos (Int32.not_lt.mp q2), ba_b, ba_10]
      obtain ⟨ν1, g1, g2, g3, g4⟩ := sh_use hN h
      rw [g1, ba_b]
      have hch : ∃ l : Nat → Nat, ∀ u, u < n → l u < 4096 ∧ μ.1 12 u = nI (l u) ∧ ν1.1 6 u = nI (l u) := by
        refine ⟨fun u => (μ.1 12 u).toNatClampNeg, fun u hu => ?_⟩
        obtain ⟨ls, fa, y1, y2, y3, y4, -⟩ := g4 u hu
        have e : (μ.1 12 u).toNatClampNeg = ls := by rw [y3]; exact nI_clamp (by omega)
        dsimp only
        rw [e]
        exact ⟨by omega, y3, y4⟩
      obtain ⟨l, hl⟩ := hch
      obtain ⟨-, i2, i3, i4, i5, i6⟩ := id g3
      have main : ∃ (r : Int32) (μ' ν' : me_M), fO_advance_2 N n N (nI j) 0 μ = some (r, μ') ∧ fM_step_18 N N (nI j) 0 ν1 = some (r, ν') ∧ me_fr [] [20, 21, 22, 2003] μ μ' ∧ me_fr [] [11, 12, 13, 125] ν1 ν' ∧ rl_S n μ' ν' := by
        refine lp_r (fun o p => ∃ (r : Int32) (μ' ν' : me_M), o = some (r, μ') ∧ p = some (r, ν') ∧ me_fr [] [20, 21, 22, 2003] μ μ' ∧ me_fr [] [11, 12, 13, 125] ν1 ν' ∧ rl_S n μ' ν') (fun F k m => fO_advance_2 N n F (nI j) (nI k) m) (fun F k m => fM_step_18 N F (nI j) (nI k) m) (fun _ a b => me_fr [] [20, 21, 22, 2003] μ a ∧ me_fr [] [11, 12, 13, 125] ν1 b ∧ rl_S n a b) j ?_ ?_ j N N 0 μ ν1 (by omega) (by omega) (by omega) ⟨me_fr.rf, me_fr.rf, i5⟩
        · rintro F E k a b hk ⟨f1, f2, f3⟩ ih
          show ∃ (r : Int32) (μ' ν' : me_M), fO_advance_2b N n (fO_advance_2 N n F) (nI j) (nI k) a = some (r, μ') ∧ fM_step_18b N (fM_step_18 N E) (nI j) (nI k) b = some (r, ν') ∧ _
          have hlt : ¬ nI j ≤ nI k := nI_ge hk (by omega)
          obtain ⟨a', b', c1, c2, c3, c4, c5⟩ := sr_once (N := N) (n := n) (μ := a) (ν := b) (l := l) hN h1 h12 (by rw [f2.1 100 (by simp)]; exact i2.1) (i4.of (f1.1 23 (by simp)) (f2.1 10 (by simp))) f3 (fun u hu => ⟨(hl u hu).1, by rw [f1.1 12 (by simp)]; exact (hl u hu).2.1⟩) (fun u hu => ⟨(hl u hu).1, by rw [f2.1 6 (by simp)]; exact (hl u hu).2.2⟩)
          rw [c2 _ _ _ hlt]
          unfold fO_advance_2b fM_step_143
          rw [if_neg hlt, c1, ba_b, nI_1]
          have em : a'.2 2003 0 = b'.2 125 0 := by obtain ⟨_, _, _, _, _, e, _⟩ := id c5; exact e
          rw [em]
          by_cases e : lg_cmp (b'.2 125 0) 0 = 0
          · rw [if_pos e, if_pos e]
            exact ⟨_, _, _, rfl, rfl, f1.tr c3, f2.tr c4, c5⟩
          · rw [if_neg e, if_neg e]
            exact ih a' b' ⟨f1.tr c3, f2.tr c4, c5⟩
        · rintro F E a b ⟨f1, f2, f3⟩
          show ∃ (r : Int32) (μ' ν' : me_M), fO_advance_2b N n (fO_advance_2 N n F) (nI j) (nI j) a = some (r, μ') ∧ fM_step_18b N (fM_step_18 N E) (nI j) (nI j) b = some (r, ν') ∧ _
          unfold fO_advance_2b fM_step_18b fO_advance_30 fM_step_162
          rw [if_pos (nI_le (Nat.le_refl _) (by omega)), if_pos (nI_le (Nat.le_refl _) (by omega))]
          exact ⟨_, _, _, rfl, rfl, f1, f2, f3⟩
      obtain ⟨r, μ', ν', e1, e2, f1, f2, f3⟩ := main
      unfold fO_advance
      rw [e1, ba_b, e2]
      exact ⟨r, μ', ν', rfl, rfl, ⟨h1, h12⟩, i2.of (rl_fr f1 (by simp)) (rl_fr f2 (by simp)), i3.of (f1.1 1 (by simp)) (f2.1 1 (by simp)), i4.of (f1.1 23 (by simp)) (f2.1 10 (by simp)), f3, i6.of ⟨f1.1 12 (by simp), f1.1 13 (by simp), f1.1 14 (by simp)⟩ (rl_fr f2 (by simp))⟩
