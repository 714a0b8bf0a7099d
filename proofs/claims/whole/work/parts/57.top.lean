/- top -/
def tp_pl (s : Nat → Nat) (v : Nat) : Nat → Nat
  | 0 => 0
  | k + 1 => tp_pl s v k + (if s v < s k ∨ (s k = s v ∧ k < v) then 1 else 0)
theorem tp_S63 {n : Nat} {s : Nat → Nat} {kd : Nat} {h : Nat → Nat} (hb : (kd = 1 → ∀ v, v < n → s v ≤ 1000000 ∧ h v ≤ 1000000) ∧ (kd ≠ 1 → rl_sum s n ≤ 1000000000000)) {v : Nat} (hv : v < n) : s v ≤ 1000000000000 := by
  by_cases e : kd = 1
  · have := (hb.1 e v hv).1; omega
  · have := hb.2 e; have := su_le (f := s) hv; omega
theorem tp_place {N n v : Nat} {μ : me_M} {s : Nat → Nat} (hN : 4096 ≤ N) (h12 : n ≤ 12) (hv : v < n) (hs : ∀ u, u < n → μ.2 20 u = lN (s u) ∧ s u ≤ 1000000000000) : fO_placeOf N n μ (nI v) = some (nI (tp_pl s v n)) := by
  refine lp_g (fun o => o = some (nI (tp_pl s v n))) (fun F k acc => fO_placeOf_4 N n μ F (nI v) acc (nI k)) (fun k acc => acc = nI (tp_pl s v k)) n ?_ ?_ n N 0 0 (by omega) (by omega) rfl
  · intro F k acc hk hI ih
    show fO_placeOf_4b N n μ (fO_placeOf_4 N n μ F) (nI v) acc (nI k) = _
    unfold fO_placeOf_4b fO_placeOf_50 fO_placeOf_53
    have b1 := (hs k hk).2
    have b2 := (hs v hv).2
    rw [if_neg (nI_ge hk (by omega)), ba_gi hk (by omega), ba_gi hv (by omega), ba_gi hk (by omega), ba_gi hv (by omega), nI_clamp (by omega), nI_clamp (by omega), (hs k hk).1, (hs v hv).1, nI_1]
    by_cases c1 : s v < s k
    · rw [if_pos (tp_cmpP.mpr ((pk_lLT (by omega) (by omega)).mpr c1))]
      exact ih _ (by rw [hI, nI_1, tp_pl, if_pos (Or.inl c1)])
    · rw [if_neg (fun z => c1 ((pk_lLT (by omega) (by omega)).mp (tp_cmpP.mp z)))]
      by_cases c2 : s k = s v
      · rw [if_pos (tp_cmp0.mpr (by rw [c2]))]
        by_cases c3 : k < v
        · rw [if_neg (nI_ge c3 (by omega))]
          exact ih _ (by rw [hI, nI_1, tp_pl, if_pos (Or.inr ⟨c2, c3⟩)])
        · rw [if_pos (nI_le (by omega) (by omega))]
          exact ih _ (by rw [hI, tp_pl, if_neg (by omega)]; rfl)
      · rw [if_neg (fun z => c2 ((pk_lEQ (by omega) (by omega)).mp (tp_cmp0.mp z)))]
        exact ih _ (by rw [hI, tp_pl, if_neg (by omega)]; rfl)
  · intro F acc hI
    show fO_placeOf_4b N n μ (fO_placeOf_4 N n μ F) (nI v) acc (nI n) = _
    unfold fO_placeOf_4b fO_placeOf_59
    rw [if_pos (nI_le (Nat.le_refl _) (by omega)), hI]
theorem tp_placeM {N n v : Nat} {μ : me_M} {s : Nat → Nat} {k2 : Int32 → Int32 → Option Int32} {x : Int32} (hN : 4096 ≤ N) (h12 : n ≤ 12) (hn : μ.1 100 0 = nI n) (hv : v < n) (hs : ∀ u, u < n → μ.2 11 u = lN (s u) ∧ s u ≤ 1000000000000) : fM_top_15 N μ k2 N x (nI v) (nI 0) (nI 0) = fM_top_78 N μ k2 x (nI v) (nI (tp_pl s v n)) := by
  refine lp_g (fun o => o = fM_top_78 N μ k2 x (nI v) (nI (tp_pl s v n))) (fun F k acc => fM_top_15 N μ k2 F x (nI v) acc (nI k)) (fun k acc => acc = nI (tp_pl s v k)) n ?_ ?_ n N 0 (nI 0) (by omega) (by omega) rfl
  · intro F k acc hk hI ih
    show fM_top_15b N μ k2 (fM_top_15 N μ k2 F) x (nI v) acc (nI k) = _
    unfold fM_top_15b fM_top_65 fM_top_69 fM_top_70
    have b1 := (hs k hk).2
    have b2 := (hs v hv).2
    rw [hn, if_neg (nI_ge hk (by omega)), ba_gi (i := k) (by omega) (by omega), ba_gi (i := v) (by omega) (by omega), ba_gi (i := k) (by omega) (by omega), ba_gi (i := v) (by omega) (by omega), nI_clamp (n := k) (by omega), nI_clamp (n := v) (by omega), (hs k hk).1, (hs v hv).1, nI_1]
    by_cases c1 : s v < s k
    · rw [if_pos (tp_cmpP.mpr ((pk_lLT (by omega) (by omega)).mpr c1))]
      exact ih _ (by rw [hI, nI_1, tp_pl, if_pos (Or.inl c1)])
    · rw [if_neg (fun z => c1 ((pk_lLT (by omega) (by omega)).mp (tp_cmpP.mp z)))]
      by_cases c2 : s k = s v
      · rw [if_pos (tp_cmp0.mpr (by rw [c2]))]
        by_cases c3 : k < v
        · rw [if_neg (nI_ge c3 (by omega))]
          exact ih _ (by rw [hI, nI_1, tp_pl, if_pos (Or.inr ⟨c2, c3⟩)])
        · rw [if_pos (nI_le (by omega) (by omega))]
          exact ih _ (by rw [hI, show (0 : Int32) = nI 0 from rfl, nI_add, tp_pl, if_neg (by omega)])
      · rw [if_neg (fun z => c2 ((pk_lEQ (by omega) (by omega)).mp (tp_cmp0.mp z)))]
        exact ih _ (by rw [hI, show (0 : Int32) = nI 0 from rfl, nI_add, tp_pl, if_neg (by omega)])
  · intro F acc hI
    show fM_top_15b N μ k2 (fM_top_15 N μ k2 F) x (nI v) acc (nI n) = _
    unfold fM_top_15b
    rw [hn, if_pos (nI_le (Nat.le_refl _) (by omega)), hI]
theorem op_top {N n : Nat} {μ ν : me_M} (hN : 4096 ≤ N) (a : Int32) (h : rl_R N n μ ν) : ∃ r : Int32, fA_top N n μ a = some r ∧ fM_top N ν a = some r ∧ rl_R N n μ ν := by
  obtain ⟨⟨h1, h12⟩, ⟨hn, -⟩, -, -, ⟨kd, da, s, hh, -, -, hv, hb⟩, -⟩ := id h
  have main : ∃ r : Int32, fA_top N n μ a = some r ∧ fM_top N ν a = some r := by
    refine lp_r (fun o p => ∃ r : Int32, o = some r ∧ p = some r) (fun F k (_ : Unit) => fA_top_2 N n μ F a (nI k)) (fun F k (_ : Unit) => fM_top_2 N ν F a (nI k)) (fun _ _ _ => True) n ?_ ?_ n N N 0 () () (by omega) (by omega) (by omega) trivial
    · intro F E k s1 t1 hk _ ih
      show ∃ r : Int32, fA_top_2b N n μ (fA_top_2 N n μ F) a (nI k) = some r ∧ fM_top_2b N ν (fM_top_2 N ν E) a (nI k) = some r
      unfold fA_top_2b fM_top_2b
      rw [if_neg (nI_ge hk (by omega)), hn, if_neg (nI_ge hk (by omega)), tp_place hN h12 hk (s := s) (fun u hu => ⟨(hv u hu).1, tp_S63 hb hu⟩), ba_b, show (0 : Int32) = nI 0 from rfl, tp_placeM hN h12 hn hk (s := s) (fun u hu => ⟨(hv u hu).2.1, tp_S63 hb hu⟩)]
      unfold fM_top_78
      by_cases e : nI (tp_pl s k n) = a
      · rw [if_pos e, if_pos e]
        exact ⟨_, rfl, rfl⟩
      · rw [if_neg e, if_neg e, nI_1]
        exact ih () () trivial
    · intro F E s1 t1 _
      show ∃ r : Int32, fA_top_2b N n μ (fA_top_2 N n μ F) a (nI n) = some r ∧ fM_top_2b N ν (fM_top_2 N ν E) a (nI n) = some r
      unfold fA_top_2b fM_top_2b fA_top_30 fM_top_91
      rw [hn, if_pos (nI_le (Nat.le_refl _) (by omega)), if_pos (nI_le (Nat.le_refl _) (by omega))]
      exact ⟨_, rfl, rfl⟩
  obtain ⟨r, e1, e2⟩ := main
  exact ⟨r, e1, e2, h⟩
