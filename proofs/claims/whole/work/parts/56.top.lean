/- comparisons of longs; start; top -/
theorem tp_cmp0 {x y : Int64} : lg_cmp x y = 0 ↔ x = y := by
  unfold lg_cmp
  by_cases h : x > y
  · rw [if_pos h]
    refine ⟨fun q => absurd q (by decide), fun q => ?_⟩
    subst q
    exact absurd h (by rw [gt_iff_lt, Int64.lt_iff_toInt_lt]; omega)
  · rw [if_neg h]
    by_cases e : x = y
    · rw [if_pos e]; exact ⟨fun _ => e, fun _ => rfl⟩
    · rw [if_neg e]; exact ⟨fun q => absurd q (by decide), fun q => absurd q e⟩
theorem tp_cmpP {x y : Int64} : 0 < lg_cmp x y ↔ y < x := by
  unfold lg_cmp
  by_cases h : x > y
  · rw [if_pos h]
    exact ⟨fun _ => h, fun _ => by decide⟩
  · rw [if_neg h]
    by_cases e : x = y
    · rw [if_pos e]; exact ⟨fun q => absurd q (by decide), fun q => absurd q h⟩
    · rw [if_neg e]; exact ⟨fun q => absurd q (by decide), fun q => absurd q h⟩
theorem tp_quo {N a b : Nat} (ha : a < 2 ^ 63) (hb : b < 2 ^ 63) : fO_quotient N (lN a) (lN b) = some (lN (a / b)) := by
  unfold fO_quotient fO_quotient_13
  by_cases h : b = 0
  · subst h
    rw [if_pos (show lg_cmp (lN 0) 0 = 0 from tp_cmp0.mpr rfl), Nat.div_zero]
    rfl
  · have hne : ¬ lN b = 0 := fun e => h ((pk_lEQ hb (by decide)).mp e)
    rw [if_neg (fun q => hne (tp_cmp0.mp q)), ba_gd hne, pk_lDiv ha (by omega) hb]
theorem tp_12 : (1000000000000 : Int64) = lN 1000000000000 := by decide
theorem tp_6 : (1000000 : Int64) = lN 1000000 := by decide
/- a start, class side -/
theorem tp_begin {N n kd a : Nat} {μ : me_M} (hN : 4096 ≤ N) (h1 : 1 ≤ n) (h12 : n ≤ 12) (hk : kd ≤ 2) : ∃ μ', fO_begin N n (nI kd) (nI a) μ = some μ' ∧ me_fr [2006, 2007] [2003, 20, 21] μ μ' ∧ μ'.1 2006 0 = nI kd ∧ μ'.1 2007 0 = nI a ∧ μ'.2 2003 0 = 0 ∧ ∀ v, v < n → μ'.2 20 v = lN (if kd = 1 then 1000000 else 1000000000000 / n) ∧ μ'.2 21 v = lN (if kd = 1 then 1000000 else 0) := by
  refine lp_g (fun o => ∃ μ', o = some μ' ∧ me_fr [2006, 2007] [2003, 20, 21] μ μ' ∧ μ'.1 2006 0 = nI kd ∧ μ'.1 2007 0 = nI a ∧ μ'.2 2003 0 = 0 ∧ ∀ v, v < n → μ'.2 20 v = lN (if kd = 1 then 1000000 else 1000000000000 / n) ∧ μ'.2 21 v = lN (if kd = 1 then 1000000 else 0)) (fun F k s => fO_begin_17 N n F (nI k) s) (fun k s => me_fr [2006, 2007] [2003, 20, 21] μ s ∧ s.1 2006 0 = nI kd ∧ s.1 2007 0 = nI a ∧ s.2 2003 0 = 0 ∧ ∀ v, v < k → s.2 20 v = lN (if kd = 1 then 1000000 else 1000000000000 / n) ∧ s.2 21 v = lN (if kd = 1 then 1000000 else 0)) n ?_ ?_ n N 0 _ (by omega) (by omega) ?_
  · intro F k s hkn hI ih
    obtain ⟨i1, i2, i3, i4, i5⟩ := hI
    show ∃ μ', fO_begin_17b N n (fO_begin_17 N n F) (nI k) s = some μ' ∧ _
    have step : ∀ x y : Nat, (x = if kd = 1 then 1000000 else 1000000000000 / n) → (y = if kd = 1 then 1000000 else 0) → ∃ μ', fO_begin_17 N n F (nI (k + 1)) (me_wl (me_wl s 20 k (lN x)) 21 k (lN y)) = some μ' ∧ me_fr [2006, 2007] [2003, 20, 21] μ μ' ∧ μ'.1 2006 0 = nI kd ∧ μ'.1 2007 0 = nI a ∧ μ'.2 2003 0 = 0 ∧ ∀ v, v < n → μ'.2 20 v = lN (if kd = 1 then 1000000 else 1000000000000 / n) ∧ μ'.2 21 v = lN (if kd = 1 then 1000000 else 0) := by
      intro x y hx hy
      refine ih _ ⟨(i1.wl (by decide)).wl (by decide), i2, i3, ?_, fun v hv => ?_⟩
      · rw [me_wl_c _ _ _ _ (by decide), me_wl_c _ _ _ _ (by decide)]; exact i4
      · by_cases e : v = k
        · subst e
          rw [me_wl_c _ _ _ _ (by decide), me_wl_s, me_wl_s, hx, hy]
          exact ⟨rfl, rfl⟩
        · rw [me_wl_c _ _ _ _ (by decide), me_wl_n _ _ _ _ e, me_wl_n _ _ _ _ e, me_wl_c _ _ _ _ (by decide)]
          exact i5 v (by omega)
    unfold fO_begin_17b fO_begin_57 fO_begin_78
    rw [if_neg (nI_ge hkn (by omega)), i2]
    by_cases e : kd = 1
    · subst e
      rw [if_pos rfl, ba_gi hkn (by omega), me_wl_1, i2, if_pos rfl, ba_gi hkn (by omega), nI_clamp (by omega), nI_1, tp_6]
      exact step _ _ (by rw [if_pos rfl]) (by rw [if_pos rfl])
    · have ne : ¬ nI kd = 1 := fun z => e ((nI_eq (by omega) (by decide)).mp (z.trans (show (1 : Int32) = nI 1 from rfl)))
      rw [if_neg ne, nI_l (by omega), tp_12, tp_quo (by decide) (by omega), ba_b, ba_gi hkn (by omega), me_wl_1, i2, if_neg ne, ba_gi hkn (by omega), nI_clamp (by omega), nI_1]
      exact step _ 0 (by rw [if_neg e]) (by rw [if_neg e])
  · intro F s hI
    show ∃ μ', fO_begin_17b N n (fO_begin_17 N n F) (nI n) s = some μ' ∧ _
    unfold fO_begin_17b fO_begin_85
    rw [if_pos (nI_le (Nat.le_refl _) (by omega))]
    exact ⟨s, rfl, hI⟩
  · refine ⟨((me_fr.rf.wi (by decide)).wi (by decide)).wl (by decide), ?_, ?_, ?_, fun v hv => by omega⟩
    · rw [me_wl_1, me_wi_c _ _ _ _ (by decide), me_wi_s]
    · rw [me_wl_1, me_wi_s]
    · rw [me_wl_s]
/- a start, the reference's side -/
theorem tp_startM {N n kd a : Nat} {μ : me_M} (hN : 4096 ≤ N) (h1 : 1 ≤ n) (h12 : n ≤ 12) (hk : kd ≤ 2) (ha : a ≤ 1000) (hn : μ.1 100 0 = nI n) : ∃ μ', fM_start N (nI kd) (nI a) μ = some (1, μ') ∧ me_fr [120, 121] [125, 11, 12] μ μ' ∧ μ'.1 120 0 = nI kd ∧ μ'.1 121 0 = nI a ∧ μ'.2 125 0 = 0 ∧ ∀ v, v < n → μ'.2 11 v = lN (if kd = 1 then 1000000 else 1000000000000 / n) ∧ μ'.2 12 v = lN (if kd = 1 then 1000000 else 0) := by
  unfold fM_start
  rw [if_neg (nI_pos (by omega)), show (2 : Int32) = nI 2 from rfl, if_neg (nI_nlt (by omega) (by omega)), if_neg (nI_pos (by omega)), show (1000 : Int32) = nI 1000 from rfl, if_pos (nI_le (by omega) (by omega))]
  refine lp_g (fun o => ∃ μ', o = some ((1 : Int32), μ') ∧ me_fr [120, 121] [125, 11, 12] μ μ' ∧ μ'.1 120 0 = nI kd ∧ μ'.1 121 0 = nI a ∧ μ'.2 125 0 = 0 ∧ ∀ v, v < n → μ'.2 11 v = lN (if kd = 1 then 1000000 else 1000000000000 / n) ∧ μ'.2 12 v = lN (if kd = 1 then 1000000 else 0)) (fun F k s => fM_start_39 N F (nI kd) (nI k) s) (fun k s => me_fr [120, 121] [125, 11, 12] μ s ∧ s.1 120 0 = nI kd ∧ s.1 121 0 = nI a ∧ s.2 125 0 = 0 ∧ ∀ v, v < k → s.2 11 v = lN (if kd = 1 then 1000000 else 1000000000000 / n) ∧ s.2 12 v = lN (if kd = 1 then 1000000 else 0)) n ?_ ?_ n N 0 _ (by omega) (by omega) ?_
  · intro F k s hkn hI ih
    obtain ⟨i1, i2, i3, i4, i5⟩ := hI
    have hn' : s.1 100 0 = nI n := by rw [i1.1 100 (by decide)]; exact hn
    show ∃ μ', fM_start_39b N (fM_start_39 N F) (nI kd) (nI k) s = some ((1 : Int32), μ') ∧ _
    have step : ∀ x y : Nat, (x = if kd = 1 then 1000000 else 1000000000000 / n) → (y = if kd = 1 then 1000000 else 0) → ∃ μ', fM_start_39 N F (nI kd) (nI (k + 1)) (me_wl (me_wl s 11 k (lN x)) 12 k (lN y)) = some ((1 : Int32), μ') ∧ me_fr [120, 121] [125, 11, 12] μ μ' ∧ μ'.1 120 0 = nI kd ∧ μ'.1 121 0 = nI a ∧ μ'.2 125 0 = 0 ∧ ∀ v, v < n → μ'.2 11 v = lN (if kd = 1 then 1000000 else 1000000000000 / n) ∧ μ'.2 12 v = lN (if kd = 1 then 1000000 else 0) := by
      intro x y hx hy
      refine ih _ ⟨(i1.wl (by decide)).wl (by decide), i2, i3, ?_, fun v hv => ?_⟩
      · rw [me_wl_c _ _ _ _ (by decide), me_wl_c _ _ _ _ (by decide)]; exact i4
      · by_cases e : v = k
        · subst e
          rw [me_wl_c _ _ _ _ (by decide), me_wl_s, me_wl_s, hx, hy]
          exact ⟨rfl, rfl⟩
        · rw [me_wl_c _ _ _ _ (by decide), me_wl_n _ _ _ _ e, me_wl_n _ _ _ _ e, me_wl_c _ _ _ _ (by decide)]
          exact i5 v (by omega)
    unfold fM_start_39b fM_start_72 fM_start_90
    rw [hn', if_neg (nI_ge hkn (by omega))]
    by_cases e : kd = 1
    · subst e
      rw [if_pos rfl, ba_gi (by omega) (by decide), if_pos rfl, ba_gi (by omega) (by decide), nI_clamp (by omega), nI_1, tp_6]
      exact step _ _ (by rw [if_pos rfl]) (by rw [if_pos rfl])
    · have ne : ¬ nI kd = 1 := fun z => e ((nI_eq (by omega) (by decide)).mp (z.trans (show (1 : Int32) = nI 1 from rfl)))
      have n0 : lN n ≠ 0 := fun z => by have := (pk_lEQ (a := n) (b := 0) (by omega) (by decide)).mp z; omega
      rw [if_neg ne, nI_l (by omega), ba_gd n0, tp_12, pk_lDiv (by decide) (by omega) (by omega), ba_gi (by omega) (by decide), if_neg ne, ba_gi (by omega) (by decide), nI_clamp (by omega), nI_1]
      exact step _ 0 (by rw [if_neg e]) (by rw [if_neg e])
  · intro F s hI
    have hn' : s.1 100 0 = nI n := by rw [hI.1.1 100 (by decide)]; exact hn
    show ∃ μ', fM_start_39b N (fM_start_39 N F) (nI kd) (nI n) s = some ((1 : Int32), μ') ∧ _
    unfold fM_start_39b fM_start_97
    rw [hn', if_pos (nI_le (Nat.le_refl _) (by omega)), ba_gz1]
    exact ⟨s, rfl, hI⟩
  · refine ⟨((me_fr.rf.wi (by decide)).wi (by decide)).wl (by decide), ?_, ?_, ?_, fun v hv => by omega⟩
    · rw [me_wl_1, me_wi_c _ _ _ _ (by decide), me_wi_s]
    · rw [me_wl_1, me_wi_s]
    · rw [me_wl_s]
theorem tp_sumc (c : Nat) : ∀ n, rl_sum (fun _ => c) n = n * c := by
  intro n
  induction n with
  | zero => rw [Nat.zero_mul]; rfl
  | succ n ih => rw [rl_sum, ih, Nat.succ_mul]
theorem op_start {N n : Nat} {μ ν : me_M} (hN : 4096 ≤ N) (a b : Int32) (h : rl_R N n μ ν) : ∃ (r : Int32) (μ' ν' : me_M), fA_start N n a b μ = some (r, μ') ∧ fM_start N a b ν = some (r, ν') ∧ rl_R N n μ' ν' := by
  obtain ⟨⟨h1, h12⟩, ⟨hn, -⟩, -⟩ := id h
  unfold fA_start fA_start_20
  by_cases q1 : a < 0
  · unfold fM_start fM_start_20
    rw [ap_wlo q1, if_pos q1, ba_b, ba_00, ba_gz0, ba_gz0]
    exact ⟨_, _, _, rfl, rfl, h⟩
  · by_cases q2 : (2 : Int32) < a
    · unfold fM_start fM_start_20
      rw [ap_whi q1 q2, if_neg q1, if_pos q2, ba_b, ba_00, ba_gz0, ba_gz0]
      exact ⟨_, _, _, rfl, rfl, h⟩
    · rw [ap_win q1 q2, ba_b, ba_10]
      by_cases q3 : b < 0
      · unfold fM_start fM_start_20
        rw [ap_wlo q3, if_neg q1, if_neg q2, if_pos q3, ba_b, ba_00, ba_gz0, ba_gz0]
        exact ⟨_, _, _, rfl, rfl, h⟩
      · by_cases q4 : (1000 : Int32) < b
        · unfold fM_start fM_start_20
          rw [ap_whi q3 q4, if_neg q1, if_neg q2, if_neg q3, if_neg (fun z => absurd (Int32.not_lt.mpr z) (by simpa using q4)), ba_b, ba_00, ba_gz0, ba_gz0]
          exact ⟨_, _, _, rfl, rfl, h⟩
        · obtain ⟨kd, hk, rfl⟩ := nI_of2 (M := 2) (n := 2) (by decide) q1 (Int32.not_lt.mp q2)
          obtain ⟨d, hd, rfl⟩ := nI_of2 (M := 1000) (n := 1000) (by decide) q3 (Int32.not_lt.mp q4)
          obtain ⟨μ', e1, f1, g1, g2, g3, g4⟩ := tp_begin (N := N) (n := n) (kd := kd) (a := d) (μ := μ) hN h1 h12 hk
          obtain ⟨ν', e2, f2, k1, k2, k3, k4⟩ := tp_startM (N := N) (n := n) (kd := kd) (a := d) (μ := ν) hN h1 h12 hk hd hn
          rw [ap_win q3 q4, ba_b, ba_10, e1, ba_b, ba_gz1, e2]
          obtain ⟨r1, r2, r3, r4, r5, r6⟩ := h
          refine ⟨_, _, _, rfl, rfl, r1, r2.of (rl_fr f1 (by decide)) (rl_fr f2 (by decide)), r3.of (f1.1 1 (by decide)) (f2.1 1 (by decide)), r4.of (f1.1 23 (by decide)) (f2.1 10 (by decide)), ⟨kd, d, fun _ => if kd = 1 then 1000000 else 1000000000000 / n, fun _ => if kd = 1 then 1000000 else 0, ⟨hk, hd, g1, k1, g2, k2⟩, by rw [g3, k3], fun v hv => ⟨(g4 v hv).1, (k4 v hv).1, (g4 v hv).2, (k4 v hv).2⟩, fun e => fun v hv => ?_, fun e => ?_⟩, r6.of ⟨f1.1 12 (by decide), f1.1 13 (by decide), f1.1 14 (by decide)⟩ (rl_fr f2 (by decide))⟩
          · dsimp only
            rw [if_pos e, if_pos e]
            exact ⟨Nat.le_refl _, Nat.le_refl _⟩
          · rw [tp_sumc, if_neg e]
            exact Nat.mul_div_le _ _
