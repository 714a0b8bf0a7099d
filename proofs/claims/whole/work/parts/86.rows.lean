/- rows and intervals -/
def pu_r (z : Nat) : Nat → Nat → Nat
  | 0, _ => 0
  | m + 1, v => if z.testBit v = true then pu_r z m (v + 1) + 1 else 0
def pu_ra (z m v : Nat) : Nat := if z.testBit v = true ∧ (v = 0 ∨ z.testBit (v - 1) = false) then pu_r z m v else 0
def pu_i (z l : Nat) : Nat → Nat → List (Nat × Nat)
  | 0, _ => []
  | m + 1, v => if l ≤ pu_ra z (m + 1) v then (v, pu_ra z (m + 1) v) :: pu_i z l m (v + 1) else pu_i z l m (v + 1)
def pu_ib (u l : Nat) : List (Nat × Nat) → Nat → List Nat
  | [], _ => []
  | p :: t, q => pu_g (if q = 0 then pu_n p.1 u else p.1 - q - 1) ++ (pu_g (p.2 - l) ++ pu_ib u l t (p.1 + p.2))
def pu_lf : List (Nat × Nat) → Nat → Nat
  | [], z => z
  | p :: t, z => pu_lf t (ap_di z ((2 ^ p.2 - 1) * 2 ^ p.1))
def pu_sep (l : Nat) : List (Nat × Nat) → Nat → Prop
  | [], _ => True
  | p :: t, q => (q = 0 ∨ q + 1 ≤ p.1) ∧ l ≤ p.2 ∧ 1 ≤ p.2 ∧ p.1 + p.2 ≤ 12 ∧ pu_sep l t (p.1 + p.2)
theorem pu_r_le (z : Nat) : ∀ m v, pu_r z m v ≤ m := by
  intro m
  induction m with
  | zero => intro v; exact Nat.le_refl _
  | succ m ih =>
    intro v
    have := ih (v + 1)
    unfold pu_r
    split <;> omega
theorem pu_r_bit (z : Nat) : ∀ m v j, j < pu_r z m v → z.testBit (v + j) = true := by
  intro m
  induction m with
  | zero => intro v j h; exact absurd h (Nat.not_lt_zero _)
  | succ m ih =>
    intro v j h
    unfold pu_r at h
    split at h
    · rename_i hb
      cases j with
      | zero => exact hb
      | succ j =>
        have := ih (v + 1) j (by omega)
        rw [show v + (j + 1) = v + 1 + j by omega]
        exact this
    · omega
theorem pu_r_end (z : Nat) : ∀ m v, pu_r z m v < m → z.testBit (v + pu_r z m v) = false := by
  intro m
  induction m with
  | zero => intro v h; exact absurd h (Nat.not_lt_zero _)
  | succ m ih =>
    intro v h
    unfold pu_r at h ⊢
    cases hb : z.testBit v with
    | true =>
      rw [hb, ba_tt] at h
      rw [ba_tt]
      have := ih (v + 1) (by omega)
      rw [show v + (pu_r z m (v + 1) + 1) = v + 1 + pu_r z m (v + 1) by omega]
      exact this
    | false =>
      rw [ba_ff]
      exact hb
theorem pu_ra_le (z m v : Nat) : pu_ra z m v ≤ m := by
  unfold pu_ra
  have := pu_r_le z m v
  split <;> omega
theorem pu_ra_z {z m v : Nat} (hv : 1 ≤ v) (h : z.testBit (v - 1) = true) : pu_ra z m v = 0 := by
  unfold pu_ra
  rw [if_neg]
  rintro ⟨-, q | q⟩
  · omega
  · rw [h] at q; cases q
theorem pu_ra_p {z m v j : Nat} (h : j < pu_ra z m v) : z.testBit (v + j) = true := by
  unfold pu_ra at h
  split at h
  · exact pu_r_bit z m v j h
  · omega
theorem pu_i_len (z l : Nat) : ∀ m v, (pu_i z l m v).length ≤ m := by
  intro m
  induction m with
  | zero => intro v; exact Nat.le_refl _
  | succ m ih =>
    intro v
    have := ih (v + 1)
    unfold pu_i
    split
    · rw [List.length_cons]; omega
    · omega
theorem pu_i_sep (z : Nat) {l : Nat} (h1 : 1 ≤ l) : ∀ m v q, v + m ≤ 12 → (q ≠ 0 → ∀ w, v ≤ w → w ≤ q → 1 ≤ w ∧ z.testBit (w - 1) = true) → pu_sep l (pu_i z l m v) q := by
  intro m
  induction m with
  | zero => intro v q _ _; trivial
  | succ m ih =>
    intro v q hv hq
    unfold pu_i
    by_cases e : l ≤ pu_ra z (m + 1) v
    · rw [if_pos e]
      have hle := pu_ra_le z (m + 1) v
      refine ⟨?_, e, by dsimp only; omega, by dsimp only; omega, ih (v + 1) _ (by omega) (fun _ w hw1 hw2 => ⟨by omega, ?_⟩)⟩
      · rcases Nat.eq_zero_or_pos q with hz | hz
        · exact Or.inl hz
        · refine Or.inr ?_
          rcases Nat.lt_or_ge q v with h | h
          · exact h
          · obtain ⟨w1, w2⟩ := hq (by omega) v (Nat.le_refl _) h
            rw [pu_ra_z w1 w2] at e
            omega
      · have := pu_ra_p (z := z) (m := m + 1) (v := v) (j := w - 1 - v) (by dsimp only at hw2; omega)
        rw [show v + (w - 1 - v) = w - 1 by omega] at this
        exact this
    · rw [if_neg e]
      exact ih (v + 1) q (by omega) (fun hz w hw1 hw2 => hq hz w (by omega) hw2)
theorem pu_skip (z : Nat) {l : Nat} (h1 : 1 ≤ l) : ∀ j m w, 1 ≤ w → (∀ i, i < j → z.testBit (w + i - 1) = true) → pu_i z l m w = pu_i z l (m - j) (w + j) := by
  intro j
  induction j with
  | zero => intro m w _ _; rfl
  | succ j ih =>
    intro m w hw h
    cases m with
    | zero =>
      rw [Nat.zero_sub]
      rfl
    | succ m =>
      have h0 := h 0 (by omega)
      rw [Nat.add_zero] at h0
      show (if l ≤ pu_ra z (m + 1) w then _ else pu_i z l m (w + 1)) = _
      rw [pu_ra_z hw h0, if_neg (by omega), ih m (w + 1) (by omega) (fun i hi => by
        have := h (i + 1) (by omega)
        rw [show w + 1 + i - 1 = w + (i + 1) - 1 by omega]
        exact this)]
      rw [show m + 1 - (j + 1) = m - j by omega, show w + (j + 1) = w + 1 + j by omega]
theorem pu_mask {s c v : Nat} (hs : s < 4096) (hcv : v + c ≤ 12) : nI s &&& (((((1 : Int32) <<< (nI c &&& 31)) - (1 : Int32)) <<< (nI v &&& 31)) ^^^ (-1 : Int32)) = nI (ap_di s ((2 ^ c - 1) * 2 ^ v)) := by
  have h0 : 1 ≤ 2 ^ c := Nat.one_le_two_pow
  have h1 : 2 ^ c * 2 ^ v ≤ 2 ^ 12 := by rw [← Nat.pow_add]; exact Nat.pow_le_pow_right (by decide) (by omega)
  have h2 : (2 ^ c - 1) * 2 ^ v ≤ 2 ^ c * 2 ^ v := Nat.mul_le_mul_right _ (Nat.sub_le _ _)
  rw [ap_shl1 c (by omega), show (nI (2 ^ c) - 1 : Int32) = nI (2 ^ c - 1) from pk_sub (b := 1) h0, pk_shlN _ v (ba_sl v (by omega)) (by omega), ap_andn (by omega) (by omega)]
theorem pu_rowC {N n z v : Nat} {μ : me_M} (hN : 4096 ≤ N) (h12 : n ≤ 12) (hz : z < 4096) (hv : v ≤ n) : fK_rowLength N n μ (nI z) (nI v) = some (nI (pu_r z (n - v) v)) := by
  have key : ∀ m j F, v + j + m = n → m < F → fK_rowLength_2 N n μ F (nI z) (nI v) (nI j) = some (nI (j + pu_r z m (v + j))) := by
    intro m
    induction m with
    | zero =>
      intro j F hj hF
      obtain ⟨F, rfl⟩ : ∃ f, F = f + 1 := ⟨F - 1, by omega⟩
      show fK_rowLength_2b N n μ (fK_rowLength_2 N n μ F) (nI z) (nI v) (nI j) = _
      unfold fK_rowLength_2b fK_rowLength_29
      rw [nI_add, if_pos (nI_le (by omega) (by omega))]
      rfl
    | succ m ih =>
      intro j F hj hF
      obtain ⟨F, rfl⟩ : ∃ f, F = f + 1 := ⟨F - 1, by omega⟩
      show fK_rowLength_2b N n μ (fK_rowLength_2 N n μ F) (nI z) (nI v) (nI j) = _
      unfold fK_rowLength_2b fK_rowLength_29 pu_r
      rw [nI_add, if_neg (nI_ge (by omega) (by omega)), ap_holds (by omega) (by omega), ba_b, nI_1]
      cases hb : z.testBit (v + j) with
      | true =>
        rw [ba_tt, ba_10, ba_tt, ih (j + 1) F (by omega) (by omega)]
        rw [show j + 1 + pu_r z m (v + (j + 1)) = j + (pu_r z m (v + j + 1) + 1) by rw [show v + (j + 1) = v + j + 1 by omega]; omega]
      | false => rw [ba_ff, ba_00, ba_ff]; rfl
  have := key (n - v) 0 N (by omega) (by omega)
  rw [Nat.zero_add, Nat.add_zero] at this
  exact this
theorem pu_rowM {N n z v : Nat} {ν : me_M} (hN : 4096 ≤ N) (h12 : n ≤ 12) (hn : ν.1 100 0 = nI n) (hz : z < 4096) (hv : v < n) : fM_rowAt N ν (nI z) (nI v) = some (nI (pu_ra z (n - v) v)) := by
  have key : ∀ m j F, v + j + m = n → m < F → fM_rowAt_27 N ν F (nI z) (nI v) (nI j) = some (nI (j + pu_r z m (v + j))) := by
    intro m
    induction m with
    | zero =>
      intro j F hj hF
      obtain ⟨F, rfl⟩ : ∃ f, F = f + 1 := ⟨F - 1, by omega⟩
      show fM_rowAt_27b N ν (fM_rowAt_27 N ν F) (nI z) (nI v) (nI j) = _
      unfold fM_rowAt_27b fM_rowAt_54
      rw [hn, nI_add, if_pos (nI_le (by omega) (by omega))]
      rfl
    | succ m ih =>
      intro j F hj hF
      obtain ⟨F, rfl⟩ : ∃ f, F = f + 1 := ⟨F - 1, by omega⟩
      show fM_rowAt_27b N ν (fM_rowAt_27 N ν F) (nI z) (nI v) (nI j) = _
      unfold fM_rowAt_27b fM_rowAt_54 pu_r
      rw [hn, nI_add, if_neg (nI_ge (by omega) (by omega)), ap_bitM (by omega) (by omega), nI_1]
      cases hb : z.testBit (v + j) with
      | true =>
        rw [ba_tt, if_pos rfl, ba_tt, ih (j + 1) F (by omega) (by omega)]
        rw [show j + 1 + pu_r z m (v + (j + 1)) = j + (pu_r z m (v + j + 1) + 1) by rw [show v + (j + 1) = v + j + 1 by omega]; omega]
      | false => rw [ba_ff, if_neg (show ¬ (0 : Int32) = 1 by decide), ba_ff]; rfl
  have k0 := key (n - v) 0 N (by omega) (by omega)
  rw [Nat.zero_add, Nat.add_zero] at k0
  unfold fM_rowAt fM_rowAt_23 fM_rowAt_25 pu_ra
  rw [ap_bitM (by omega) (by omega)]
  cases hb : z.testBit v with
  | false =>
    rw [ba_ff, if_pos rfl, if_neg (fun q => by cases q.1)]
    rfl
  | true =>
    rw [ba_tt, if_neg (show ¬ (1 : Int32) = 0 by decide)]
    rcases Nat.eq_zero_or_pos v with e | e
    · subst e
      rw [if_pos (show nI 0 ≤ 0 by decide), if_pos ⟨rfl, Or.inl rfl⟩]
      exact k0
    · rw [if_neg (nI_nle (by omega) (by omega)), show (nI v - 1 : Int32) = nI (v - 1) from pk_sub (b := 1) (by omega), ap_bitM (by omega) (by omega)]
      cases hb2 : z.testBit (v - 1) with
      | true =>
        rw [ba_tt, if_pos rfl, if_neg (fun q => q.2.elim (fun q => by omega) (fun q => by cases q))]
        rfl
      | false =>
        rw [ba_ff, if_neg (show ¬ (0 : Int32) = 1 by decide), if_pos ⟨rfl, Or.inr rfl⟩]
        exact k0
