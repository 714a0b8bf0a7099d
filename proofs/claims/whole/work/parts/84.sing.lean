/- singles written -/
def pu_n (v u : Nat) : Nat := if v < u then 2 * (u - v) - 1 else 2 * (v - u)
theorem pu_n0 : ∀ v, v < 12 → ∀ u, u < 12 → fT_withoutSign 0 (nI v - nI u) = some (nI (pu_n v u)) ∧ fM_natural 0 (nI v - nI u) = some (nI (pu_n v u)) := by decide +kernel
theorem pu_nC {N v u : Nat} (hv : v < 12) (hu : u < 12) : fT_withoutSign N (nI v - nI u) = some (nI (pu_n v u)) := (pu_n0 v hv u hu).1
theorem pu_nM {N v u : Nat} (hv : v < 12) (hu : u < 12) : fM_natural N (nI v - nI u) = some (nI (pu_n v u)) := (pu_n0 v hv u hu).2
theorem pu_nle {v u : Nat} (hv : v < 12) (hu : u < 12) : pu_n v u ≤ 22 := by
  unfold pu_n
  split <;> omega
def pu_s (u z k : Nat) : Nat → Nat → Nat → List Nat
  | 0, _, _ => []
  | m + 1, v, b => if z.testBit v = true then pu_z k (if b = 0 then pu_n v u else v - b) ++ pu_s u z k m (v + 1) (v + 1) else pu_s u z k m (v + 1) b
theorem pu_m1 : ¬ (0 : Int32) ≤ nI 0 - 1 := by decide
theorem pu_C_sing {N n u z k : Nat} (hN : 4096 ≤ N) (h12 : n ≤ 12) (hu : u < 12) (hz : z < 4096) (hk : 1 ≤ k) (hk4 : k ≤ 4) : ∀ (m v b F : Nat) (μ : me_M) (bs : List Nat), v + m = n → m < F → b ≤ v → μ.1 503 0 = nI k → ta_C μ bs → bs.length + (pu_s u z k m v b).length ≤ 800 → ∃ μ', fK_writeSingles_5 N n F (nI u) (nI z) (nI b - 1) (nI v) μ = some μ' ∧ ta_C μ' (bs ++ pu_s u z k m v b) ∧ me_fr [3, 301] [] μ μ' := by
  intro m
  induction m with
  | zero =>
    intro v b F μ bs hv hF hb h503 h hl
    obtain ⟨F, rfl⟩ : ∃ f, F = f + 1 := ⟨F - 1, by omega⟩
    refine ⟨μ, ?_, by unfold pu_s; rw [List.append_nil]; exact h, me_fr.rf⟩
    show fK_writeSingles_5b N n (fK_writeSingles_5 N n F) (nI u) (nI z) (nI b - 1) (nI v) μ = some μ
    unfold fK_writeSingles_5b fK_writeSingles_67
    rw [if_pos (nI_le (by omega) (by omega))]
  | succ m ih =>
    intro v b F μ bs hv hF hb h503 h hl
    obtain ⟨F, rfl⟩ : ∃ f, F = f + 1 := ⟨F - 1, by omega⟩
    show ∃ μ', fK_writeSingles_5b N n (fK_writeSingles_5 N n F) (nI u) (nI z) (nI b - 1) (nI v) μ = some μ' ∧ _
    unfold fK_writeSingles_5b fK_writeSingles_61 fK_writeSingles_48 fK_writeSingles_61
    rw [if_neg (nI_ge (by omega) (by omega)), ap_holds (by omega) (by omega), ba_b, nI_1]
    unfold pu_s at hl ⊢
    cases hb2 : z.testBit v with
    | false =>
      rw [hb2, ba_ff] at hl
      rw [ba_ff, ba_00, ba_ff]
      exact ih (v + 1) b F μ bs (by omega) (by omega) (by omega) h503 h hl
    | true =>
      rw [hb2, ba_tt, List.length_append] at hl
      rw [ba_tt, ba_10, ba_tt]
      have fin : ∀ x, x ≤ 22 → bs.length + ((pu_z k x).length + (pu_s u z k m (v + 1) (v + 1)).length) ≤ 800 → ∃ μ', (((fT_putZeta N n (nI x) (μ.1 503 0) μ).bind fun r1 => fK_writeSingles_5 N n F (nI u) (nI z) (nI v) (nI (v + 1)) r1) = some μ') ∧ ta_C μ' (bs ++ (pu_z k x ++ pu_s u z k m (v + 1) (v + 1))) ∧ me_fr [3, 301] [] μ μ' := by
        intro x hx hl
        obtain ⟨μ1, a1, a2, a3⟩ := pu_C_zeta (N := N) (n := n) hN hk hk4 (x := x) (by omega) h (by omega)
        obtain ⟨μ2, b1, b2, b3⟩ := ih (v + 1) (v + 1) F μ1 (bs ++ pu_z k x) (by omega) (by omega) (by omega) (by rw [a3.1 503 (by decide)]; exact h503) a2 (by rw [List.length_append]; omega)
        rw [nI_pred] at b1
        refine ⟨μ2, ?_, by rw [← List.append_assoc]; exact b2, a3.tr b3⟩
        rw [h503, a1, ba_b]
        exact b1
      rcases Nat.eq_zero_or_pos b with e | e
      · subst e
        rw [if_neg pu_m1, pu_nC (by omega) hu, ba_b, if_pos rfl]
        rw [if_pos rfl] at hl
        exact fin _ (pu_nle (by omega) hu) hl
      · obtain ⟨b, rfl⟩ : ∃ c, b = c + 1 := ⟨b - 1, by omega⟩
        rw [if_neg (show ¬ b + 1 = 0 by omega)] at hl
        rw [nI_pred, if_pos (nI_pos' (by omega)), if_neg (show ¬ b + 1 = 0 by omega), pk_sub (by omega), show (1 : Int32) = nI 1 from rfl, pk_sub (by omega), show v - b - 1 = v - (b + 1) by omega]
        exact fin _ (by omega) hl
theorem pu_M_sing {N n u z k : Nat} (hN : 4096 ≤ N) (h12 : n ≤ 12) (hu : u < 12) (hz : z < 4096) (hk : 1 ≤ k) (hk4 : k ≤ 4) : ∀ (m v b F : Nat) (ν : me_M) (bs : List Nat), v + m = n → m < F → b ≤ v → ν.1 100 0 = nI n → ν.1 108 0 = nI k → ta_M ν bs → bs.length + (pu_s u z k m v b).length ≤ 800 → ∃ ν', fM_putRest_165 N F (nI u) (nI z) (nI b - 1) (nI v) ν = some ν' ∧ ta_M ν' (bs ++ pu_s u z k m v b) ∧ me_fr [2, 103] [] ν ν' := by
  intro m
  induction m with
  | zero =>
    intro v b F ν bs hv hF hb hn h108 h hl
    obtain ⟨F, rfl⟩ : ∃ f, F = f + 1 := ⟨F - 1, by omega⟩
    refine ⟨ν, ?_, by unfold pu_s; rw [List.append_nil]; exact h, me_fr.rf⟩
    show fM_putRest_165b N (fM_putRest_165 N F) (nI u) (nI z) (nI b - 1) (nI v) ν = some ν
    unfold fM_putRest_165b fM_putRest_220
    rw [hn, if_pos (nI_le (by omega) (by omega))]
  | succ m ih =>
    intro v b F ν bs hv hF hb hn h108 h hl
    obtain ⟨F, rfl⟩ : ∃ f, F = f + 1 := ⟨F - 1, by omega⟩
    show ∃ ν', fM_putRest_165b N (fM_putRest_165 N F) (nI u) (nI z) (nI b - 1) (nI v) ν = some ν' ∧ _
    unfold fM_putRest_165b fM_putRest_214 fM_putRest_207 fM_putRest_214
    rw [hn, if_neg (nI_ge (by omega) (by omega)), ap_bitM (by omega) (by omega), nI_1]
    unfold pu_s at hl ⊢
    cases hb2 : z.testBit v with
    | false =>
      rw [hb2, ba_ff] at hl
      rw [ba_ff, if_neg (show ¬ (0 : Int32) = 1 by decide), ba_ff]
      exact ih (v + 1) b F ν bs (by omega) (by omega) (by omega) hn h108 h hl
    | true =>
      rw [hb2, ba_tt, List.length_append] at hl
      rw [ba_tt, if_pos rfl, ba_tt]
      have fin : ∀ x, x ≤ 22 → bs.length + ((pu_z k x).length + (pu_s u z k m (v + 1) (v + 1)).length) ≤ 800 → ∃ ν', (((fM_putZeta N (nI x) ν).bind fun r1 => fM_putRest_165 N F (nI u) (nI z) (nI v) (nI (v + 1)) r1) = some ν') ∧ ta_M ν' (bs ++ (pu_z k x ++ pu_s u z k m (v + 1) (v + 1))) ∧ me_fr [2, 103] [] ν ν' := by
        intro x hx hl
        obtain ⟨ν1, a1, a2, a3⟩ := pu_M_zeta (N := N) hN hk hk4 (x := x) (by omega) h108 h (by omega)
        obtain ⟨ν2, b1, b2, b3⟩ := ih (v + 1) (v + 1) F ν1 (bs ++ pu_z k x) (by omega) (by omega) (by omega) (by rw [a3.1 100 (by decide)]; exact hn) (by rw [a3.1 108 (by decide)]; exact h108) a2 (by rw [List.length_append]; omega)
        rw [nI_pred] at b1
        refine ⟨ν2, ?_, by rw [← List.append_assoc]; exact b2, a3.tr b3⟩
        rw [a1, ba_b]
        exact b1
      rcases Nat.eq_zero_or_pos b with e | e
      · subst e
        rw [if_neg pu_m1, pu_nM (by omega) hu, ba_b, if_pos rfl]
        rw [if_pos rfl] at hl
        exact fin _ (pu_nle (by omega) hu) hl
      · obtain ⟨b, rfl⟩ : ∃ c, b = c + 1 := ⟨b - 1, by omega⟩
        rw [if_neg (show ¬ b + 1 = 0 by omega)] at hl
        rw [nI_pred, if_pos (nI_pos' (by omega)), if_neg (show ¬ b + 1 = 0 by omega), pk_sub (by omega), show (1 : Int32) = nI 1 from rfl, pk_sub (by omega), show v - b - 1 = v - (b + 1) by omega]
        exact fin _ (by omega) hl
