/- numbers, gamma, zeta, read side by side -/
theorem bt_numC {N n f c : Nat} {X : Int32} {μ : me_M} (hN : 4096 ≤ N) (hc : c ≤ 64) (h : μ.1 1209 0 = nI f) (hf : f ≤ 10) (h0 : f ≠ 0) : ∃ x, fD_nextNumber N n X (nI c) μ = some (x, μ) := by
  refine lp_g (fun o => ∃ x, o = some (x, μ)) (fun F k s => fD_nextNumber_5 N n F (nI c) s (nI k) μ) (fun _ _ => True) c ?_ ?_ c N 0 X (by omega) (by omega) trivial
  · intro F k s hk _ ih
    show ∃ x, fD_nextNumber_5b N n (fD_nextNumber_5 N n F) (nI c) s (nI k) μ = some (x, μ)
    unfold fD_nextNumber_5b
    rw [if_neg (nI_ge hk (by omega)), bt_C h hf h0, ba_b, nI_1]
    exact ih _ trivial
  · intro F s _
    show ∃ x, fD_nextNumber_5b N n (fD_nextNumber_5 N n F) (nI c) s (nI c) μ = some (x, μ)
    unfold fD_nextNumber_5b fD_nextNumber_26
    rw [if_pos (nI_le (Nat.le_refl _) (by omega))]
    exact ⟨s, rfl⟩
theorem bt_numM {N f c : Nat} {ν : me_M} (hN : 4096 ≤ N) (hc : c ≤ 64) (h : ν.1 112 0 = nI f) (hf : f ≤ 10) (h0 : f ≠ 0) : ∃ y, fM_nextNumber N (nI c) ν = some (y, ν) := by
  refine lp_g (fun o => ∃ y, o = some (y, ν)) (fun F k s => fM_nextNumber_4 N F (nI c) s (nI k) ν) (fun _ _ => True) c ?_ ?_ c N 0 0 (by omega) (by omega) trivial
  · intro F k s hk _ ih
    show ∃ x, fM_nextNumber_4b N (fM_nextNumber_4 N F) (nI c) s (nI k) ν = some (x, ν)
    unfold fM_nextNumber_4b
    rw [if_neg (nI_ge hk (by omega)), bt_M h hf h0, ba_b, nI_1]
    exact ih _ trivial
  · intro F s _
    show ∃ x, fM_nextNumber_4b N (fM_nextNumber_4 N F) (nI c) s (nI c) ν = some (x, ν)
    unfold fM_nextNumber_4b fM_nextNumber_24
    rw [if_pos (nI_le (Nat.le_refl _) (by omega))]
    exact ⟨s, rfl⟩
theorem bt_num {N n f c a : Nat} {μ ν : me_M} (hN : 4096 ≤ N) (hc : c ≤ 64) (h : rd n μ ν f) : ∃ (x : Int32) (μ' : me_M) (y : Int32) (ν' : me_M) (f' : Nat), fD_nextNumber N n (nI a) (nI c) μ = some (x, μ') ∧ fM_nextNumber N (nI c) ν = some (y, ν') ∧ me_fr [1208, 1209] [] μ μ' ∧ me_fr [111, 112] [] ν ν' ∧ rd n μ' ν' f' ∧ (f ≠ 0 → f' = f) ∧ (f' = 0 → ∃ v, v < 2 ^ c ∧ x = nI (a * 2 ^ c + v) ∧ y = nI v) := by
  refine lp_r (fun o p => ∃ (x : Int32) (μ' : me_M) (y : Int32) (ν' : me_M) (f' : Nat), o = some (x, μ') ∧ p = some (y, ν') ∧ me_fr [1208, 1209] [] μ μ' ∧ me_fr [111, 112] [] ν ν' ∧ rd n μ' ν' f' ∧ (f ≠ 0 → f' = f) ∧ (f' = 0 → ∃ v, v < 2 ^ c ∧ x = nI (a * 2 ^ c + v) ∧ y = nI v)) (fun F k (s : Int32 × me_M) => fD_nextNumber_5 N n F (nI c) s.1 (nI k) s.2) (fun F k (s : Int32 × me_M) => fM_nextNumber_4 N F (nI c) s.1 (nI k) s.2) (fun k s t => me_fr [1208, 1209] [] μ s.2 ∧ me_fr [111, 112] [] ν t.2 ∧ ∃ f', rd n s.2 t.2 f' ∧ (f ≠ 0 → f' = f) ∧ (f' = 0 → ∃ v, v < 2 ^ k ∧ s.1 = nI (a * 2 ^ k + v) ∧ t.1 = nI v)) c ?_ ?_ c N N 0 (nI a, μ) (0, ν) (by omega) (by omega) (by omega) ?_
  · rintro F E k ⟨X, μ1⟩ ⟨Y, ν1⟩ hk ⟨k1, k2, f1, hr, hff, hv⟩ ih
    show ∃ (x : Int32) (μ' : me_M) (y : Int32) (ν' : me_M) (f' : Nat), fD_nextNumber_5b N n (fD_nextNumber_5 N n F) (nI c) X (nI k) μ1 = some (x, μ') ∧ fM_nextNumber_4b N (fM_nextNumber_4 N E) (nI c) Y (nI k) ν1 = some (y, ν') ∧ _
    unfold fD_nextNumber_5b fM_nextNumber_4b
    obtain ⟨b, μ2, b', ν2, f2, q1, q2, q3, q4, q5, q6, q7⟩ := bt_next (N := N) hr
    rw [if_neg (nI_ge hk (by omega)), if_neg (nI_ge hk (by omega)), q1, q2, ba_b, ba_b, nI_1]
    refine ih (2 * X + b, μ2) (2 * Y + b', ν2) ⟨k1.tr q3, k2.tr q4, f2, q5, fun e => ?_, fun e => ?_⟩
    · rw [q6 (by rw [hff e]; exact e), hff e]
    · subst e
      rcases q7 with ⟨-, z, hz, rfl, rfl⟩ | ⟨e0, -⟩
      · have hf1 : f1 = 0 := by
          apply Classical.byContradiction
          intro e
          have := q6 e
          omega
        obtain ⟨v, hv1, rfl, rfl⟩ := hv hf1
        have hp : 2 ^ (k + 1) = 2 ^ k * 2 := Nat.pow_succ 2 k
        refine ⟨2 * v + z, by rw [hp]; omega, ?_, ?_⟩
        · rw [show (2 : Int32) = nI 2 from rfl, pk_mul, nI_add, hp]
          congr 1
          rw [Nat.mul_add, ← Nat.mul_assoc, Nat.add_assoc]
          congr 1
          rw [Nat.mul_comm 2 a, Nat.mul_assoc, Nat.mul_comm 2 (2 ^ k)]
        · rw [show (2 : Int32) = nI 2 from rfl, pk_mul, nI_add]
      · exact absurd rfl e0
  · rintro F E ⟨X, μ1⟩ ⟨Y, ν1⟩ ⟨k1, k2, f1, hr, hff, hv⟩
    show ∃ (x : Int32) (μ' : me_M) (y : Int32) (ν' : me_M) (f' : Nat), fD_nextNumber_5b N n (fD_nextNumber_5 N n F) (nI c) X (nI c) μ1 = some (x, μ') ∧ fM_nextNumber_4b N (fM_nextNumber_4 N E) (nI c) Y (nI c) ν1 = some (y, ν') ∧ _
    unfold fD_nextNumber_5b fM_nextNumber_4b fD_nextNumber_26 fM_nextNumber_24
    rw [if_pos (nI_le (Nat.le_refl _) (by omega)), if_pos (nI_le (Nat.le_refl _) (by omega))]
    exact ⟨X, μ1, Y, ν1, f1, rfl, rfl, k1, k2, hr, hff, hv⟩
  · exact ⟨me_fr.rf, me_fr.rf, f, h, fun _ => rfl, fun _ => ⟨0, by decide, by simp, rfl⟩⟩
theorem bt_pow6 {z : Nat} (h : z ≤ 6) : 2 ^ z ≤ 64 := Nat.pow_le_pow_right (n := 2) (i := z) (j := 6) (by decide) h
theorem bt_gamma {N n f : Nat} {μ ν : me_M} (hN : 4096 ≤ N) (h : rd n μ ν f) : ∃ (x : Int32) (μ' : me_M) (y : Int32) (ν' : me_M) (f' : Nat), fD_nextGamma N n μ = some (x, μ') ∧ fM_nextGamma N ν = some (y, ν') ∧ me_fr [1208, 1209] [] μ μ' ∧ me_fr [111, 112] [] ν ν' ∧ rd n μ' ν' f' ∧ (f ≠ 0 → f' = f) ∧ (f' = 0 → ∃ g, g < 127 ∧ x = nI g ∧ y = nI g) := by
  obtain ⟨z, μ1, x1, ν1, f1, a1, a2, a3, a4, a5, a6, a7, a8⟩ := bt_unary hN h
  unfold fD_nextGamma fM_nextGamma
  rw [a1, a2, ba_b, ba_b]
  rcases a8 with ⟨rfl, hz, rfl⟩ | ⟨h0, rfl⟩
  · obtain ⟨x, μ2, y, ν2, f2, b1, b2, b3, b4, b5, b6, b7⟩ := bt_num (a := 1) (c := z) hN (by omega) a5
    dsimp only
    rw [show (1 : Int32) = nI 1 from rfl, b1, b2, ba_b, ba_b]
    refine ⟨_, μ2, _, ν2, f2, rfl, rfl, a3.tr b3, a4.tr b4, b5, fun e => absurd (a6 e) (Ne.symm e), fun e => ?_⟩
    obtain ⟨v, hv, rfl, rfl⟩ := b7 e
    have hp := bt_pow6 hz
    have hp1 : 1 ≤ 2 ^ z := Nat.one_le_two_pow
    refine ⟨2 ^ z - 1 + v, by omega, ?_, ?_⟩
    · dsimp only
      rw [pk_sub (by omega)]
      congr 1
      omega
    · dsimp only
      rw [show nI 1 = (1 : Int32) from rfl, ap_shl1 z (by omega), show (1 : Int32) = nI 1 from rfl, pk_sub (by omega), nI_add]
  · obtain ⟨s1, s2, s3, s4, s5⟩ := id a5
    obtain ⟨x, hx⟩ := bt_numC (n := n) (X := 1) hN (c := z) (by omega) s3 s2 h0
    obtain ⟨y, hy⟩ := bt_numM hN (c := 0) (by omega) s4 s2 h0
    dsimp only
    rw [hx, show (0 : Int32) = nI 0 from rfl, hy, ba_b, ba_b]
    exact ⟨_, μ1, _, ν1, f1, rfl, rfl, a3, a4, a5, a6, fun e => absurd e h0⟩
theorem bt_num1 {N n : Nat} {X : Int32} {μ : me_M} (hN : 4096 ≤ N) : fD_nextNumber N n X 1 μ = (fD_nextBit N n μ).bind fun r => some (2 * X + r.1, r.2) := by
  obtain ⟨F, rfl⟩ : ∃ q, N = q + 2 := ⟨N - 2, by omega⟩
  show fD_nextNumber_5b (F + 2) n (fD_nextNumber_5 (F + 2) n (F + 1)) 1 X 0 μ = _
  unfold fD_nextNumber_5b
  rw [if_neg (by decide)]
  congr 1
theorem bt_zeta {N n f : Nat} {μ ν : me_M} (hN : 4096 ≤ N) (h : rd n μ ν f) : ∃ (x : Int32) (μ' : me_M) (y : Int32) (ν' : me_M) (f' : Nat), fD_nextZeta N n μ = some (x, μ') ∧ fM_nextZeta N ν = some (y, ν') ∧ me_fr [1208, 1209] [] μ μ' ∧ me_fr [111, 112] [] ν ν' ∧ rd n μ' ν' f' ∧ (f ≠ 0 → f' = f) ∧ (f' = 0 → ∃ g, g < 2 ^ 28 ∧ x = nI g ∧ y = nI g) := by
  obtain ⟨z, μ1, x1, ν1, f1, a1, a2, a3, a4, a5, a6, a7, a8⟩ := bt_unary hN h
  obtain ⟨hI, -⟩ := id a5
  obtain ⟨-, -, -, w, c, l, k, ⟨-, -, -, hk1, hk4⟩, ⟨-, -, -, ek⟩, -, -, -, ekM⟩ := hI
  unfold fD_nextZeta fM_nextZeta fD_nextZeta_63
  rw [a1, a2, ba_b, ba_b]
  dsimp only
  rw [ek, ekM]
  have hzk : z * k ≤ 7 * 4 := Nat.mul_le_mul a7 hk4
  rcases a8 with ⟨rfl, hz, rfl⟩ | ⟨h0, rfl⟩
  · have hzk6 : z * k ≤ 6 * 4 := Nat.mul_le_mul hz hk4
    obtain ⟨x, μ2, y, ν2, f2, b1, b2, b3, b4, b5, b6, b7⟩ := bt_num (a := 0) (c := z * k + k - 1) hN (by omega) a5
    have ekM2 : ν2.1 108 0 = nI k := by rw [b4.1 108 (by decide)]; exact ekM
    rw [pk_mul, nI_add, show (1 : Int32) = nI 1 from rfl, pk_sub (by omega), show (0 : Int32) = nI 0 from rfl, b1, b2, ba_b, ba_b]
    dsimp only
    rw [ekM2, pk_mul, show nI 1 = (1 : Int32) from rfl, ap_shl1 (z * k) (by omega)]
    have hff : f ≠ 0 → f2 = f := fun e => absurd (a6 e) (Ne.symm e)
    by_cases e : f2 = 0
    · subst e
      obtain ⟨v, hv, rfl, rfl⟩ := b7 rfl
      have hvb : v < 2 ^ 27 := Nat.lt_of_lt_of_le hv (Nat.pow_le_pow_right (n := 2) (i := z * k + k - 1) (j := 27) (by decide) (by omega))
      have hpb : 2 ^ (z * k) ≤ 2 ^ 24 := Nat.pow_le_pow_right (n := 2) (by decide) (by omega)
      have hp1 : 1 ≤ 2 ^ (z * k) := Nat.one_le_two_pow
      rw [Nat.zero_mul, Nat.zero_add]
      by_cases hle : 2 ^ (z * k) ≤ v
      · rw [if_pos (nI_le hle (by omega)), if_pos (nI_le hle (by omega)), bt_num1 hN]
        obtain ⟨b, μ3, b', ν3, f3, q1, q2, q3, q4, q5, q6, q7⟩ := bt_next (N := N) b5
        rw [q1, q2, ba_b, ba_b, ba_b]
        refine ⟨_, μ3, _, ν3, f3, rfl, rfl, (a3.tr b3).tr q3, (a4.tr b4).tr q4, q5, fun e => absurd (hff e) (Ne.symm e), fun e => ?_⟩
        subst e
        rcases q7 with ⟨-, t, ht, rfl, rfl⟩ | ⟨e0, -⟩
        · refine ⟨2 * v + t - 1, by omega, ?_, ?_⟩
          · dsimp only
            rw [show (2 : Int32) = nI 2 from rfl, pk_mul, nI_add, show (1 : Int32) = nI 1 from rfl, pk_sub (by omega)]
          · dsimp only
            rw [show (2 : Int32) = nI 2 from rfl, pk_mul, nI_add, show (1 : Int32) = nI 1 from rfl, pk_sub (by omega)]
        · exact absurd rfl e0
      · rw [if_neg (nI_ge (by omega) (by omega)), if_neg (nI_ge (by omega) (by omega))]
        refine ⟨_, μ2, _, ν2, 0, rfl, rfl, a3.tr b3, a4.tr b4, b5, hff, fun _ => ⟨v + 2 ^ (z * k) - 1, by omega, ?_, ?_⟩⟩
        · rw [nI_add, show (1 : Int32) = nI 1 from rfl, pk_sub (by omega)]
        · rw [nI_add, show (1 : Int32) = nI 1 from rfl, pk_sub (by omega)]
    · obtain ⟨s1, s2, s3, s4, s5⟩ := id b5
      have hC : ∃ x', (if nI (2 ^ (z * k)) ≤ x then (fD_nextNumber N n x 1 μ2).bind fun r4 => some (r4.1 - 1, r4.2) else some (x + nI (2 ^ (z * k)) - 1, μ2)) = some (x', μ2) := by
        by_cases q : nI (2 ^ (z * k)) ≤ x
        · rw [if_pos q, bt_num1 hN, bt_C s3 s2 e, ba_b, ba_b]
          exact ⟨_, rfl⟩
        · rw [if_neg q]
          exact ⟨_, rfl⟩
      have hM : ∃ y', (if nI (2 ^ (z * k)) ≤ y then (fM_next N ν2).bind fun r4 => some (2 * y + r4.1 - 1, r4.2) else some (y + nI (2 ^ (z * k)) - 1, ν2)) = some (y', ν2) := by
        by_cases q : nI (2 ^ (z * k)) ≤ y
        · rw [if_pos q, bt_M s4 s2 e, ba_b]
          exact ⟨_, rfl⟩
        · rw [if_neg q]
          exact ⟨_, rfl⟩
      obtain ⟨x', hx'⟩ := hC
      obtain ⟨y', hy'⟩ := hM
      rw [hx', hy']
      exact ⟨x', μ2, y', ν2, f2, rfl, rfl, a3.tr b3, a4.tr b4, b5, hff, fun e' => absurd e' e⟩
  · obtain ⟨s1, s2, s3, s4, s5⟩ := id a5
    obtain ⟨x, hx⟩ := bt_numC (n := n) (X := 0) hN (c := z * k + k - 1) (by omega) s3 s2 h0
    obtain ⟨y, hy⟩ := bt_numM hN (c := 0 * k + k - 1) (by omega) s4 s2 h0
    rw [pk_mul, nI_add, show (1 : Int32) = nI 1 from rfl, pk_sub (by omega), hx, ba_b, show (0 : Int32) = nI 0 from rfl, pk_mul, nI_add, pk_sub (by omega), hy, ba_b]
    dsimp only
    rw [ekM]
    have hC : ∀ t : Int32, ∃ x', (if t ≤ x then (fD_nextNumber N n x (nI 1) μ1).bind fun r4 => some (r4.1 - nI 1, r4.2) else some (x + t - nI 1, μ1)) = some (x', μ1) := by
      intro t
      by_cases q : t ≤ x
      · rw [if_pos q, show nI 1 = (1 : Int32) from rfl, bt_num1 hN, bt_C s3 s2 h0, ba_b, ba_b]
        exact ⟨_, rfl⟩
      · rw [if_neg q]
        exact ⟨_, rfl⟩
    have hM : ∀ t : Int32, ∃ y', (if t ≤ y then (fM_next N ν1).bind fun r4 => some (2 * y + r4.1 - nI 1, r4.2) else some (y + t - nI 1, ν1)) = some (y', ν1) := by
      intro t
      by_cases q : t ≤ y
      · rw [if_pos q, bt_M s4 s2 h0, ba_b]
        exact ⟨_, rfl⟩
      · rw [if_neg q]
        exact ⟨_, rfl⟩
    obtain ⟨x', hx'⟩ := hC (nI 1 <<< (nI (z * k) &&& 31))
    obtain ⟨y', hy'⟩ := hM (nI 1 <<< (nI 0 * nI k &&& 31))
    rw [hx', hy']
    exact ⟨x', μ1, y', ν1, f1, rfl, rfl, a3, a4, a5, a6, fun e => absurd e h0⟩
