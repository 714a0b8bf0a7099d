/- how long the rest of a record can be -/
def pu_sc (z : Nat) : Nat → Nat → Nat → Nat
  | 0, _, _ => 0
  | m + 1, v, b => if z.testBit v = true then (if b = 0 then 9 else 4 + (v - b)) + pu_sc z m (v + 1) (v + 1) else pu_sc z m (v + 1) b
def pu_ic (l : Nat) : List (Nat × Nat) → Nat → Nat
  | [], _ => 0
  | p :: t, q => (if q = 0 then 9 else 2 * Nat.log2 (p.1 - q - 1 + 1) + 1) + ((2 * Nat.log2 (p.2 - l + 1) + 1) + pu_ic l t (p.1 + p.2))
def pu_tc (z l n : Nat) (I : List (Nat × Nat)) : Nat := 2 * Nat.log2 (I.length + 1) + 1 + pu_ic l I 0 + pu_sc (pu_lf I z) n 0 0
/- the same, for the kernel -/
def pv_b (z v : Nat) : Nat := Nat.mod (Nat.div z (Nat.pow 2 v)) 2
noncomputable def pv_r (z m : Nat) : Nat := Nat.rec (motive := fun _ => Nat) 0 (fun m ih => bif Nat.beq (pv_b z (Nat.sub 11 m)) 1 then Nat.succ ih else 0) m
noncomputable def pv_a (z m : Nat) : Nat := bif Nat.beq (pv_b z (Nat.sub 11 m)) 1 then (bif Nat.beq (pv_b (Nat.mul 2 z) (Nat.sub 11 m)) 0 then pv_r z (Nat.succ m) else 0) else 0
noncomputable def pv_s (z m : Nat) : Nat → Nat := Nat.rec (motive := fun _ => Nat → Nat) (fun _ => 0) (fun m ih b => bif Nat.beq (pv_b z (Nat.sub 11 m)) 1 then Nat.add (bif Nat.beq b 0 then 9 else Nat.add 4 (Nat.sub (Nat.sub 11 m) b)) (ih (Nat.succ (Nat.sub 11 m))) else ih b) m
noncomputable def pv_i (l z m : Nat) : Nat → Nat → Nat → Nat → Nat := Nat.rec (motive := fun _ => Nat → Nat → Nat → Nat → Nat) (fun _ co ct lf => Nat.add (Nat.add (Nat.succ (Nat.mul 2 (Nat.log2 (Nat.succ ct)))) co) (pv_s lf 12 0)) (fun m ih q co ct lf => bif Nat.ble l (pv_a z m) then ih (Nat.add (Nat.sub 11 m) (pv_a z m)) (Nat.add co (Nat.add (bif Nat.beq q 0 then 9 else Nat.succ (Nat.mul 2 (Nat.log2 (Nat.succ (Nat.sub (Nat.sub (Nat.sub 11 m) q) 1))))) (Nat.succ (Nat.mul 2 (Nat.log2 (Nat.succ (Nat.sub (pv_a z m) l))))))) (Nat.succ ct) (Nat.land lf (Nat.xor (Nat.mul (Nat.sub (Nat.pow 2 (pv_a z m)) 1) (Nat.pow 2 (Nat.sub 11 m))) 4294967295)) else ih q co ct lf) m
theorem pv_bt (z v : Nat) : Nat.beq (pv_b z v) 1 = z.testBit v := by
  show Nat.beq (z / 2 ^ v % 2) 1 = _
  rw [st_bitb]
  cases z.testBit v <;> rfl
theorem pv_bp (z v : Nat) : Nat.beq (pv_b (Nat.mul 2 z) v) 0 = true ↔ (v = 0 ∨ z.testBit (v - 1) = false) := by
  show Nat.beq (2 * z / 2 ^ v % 2) 0 = true ↔ _
  rcases Nat.eq_zero_or_pos v with e | e
  · subst e
    rw [Nat.pow_zero, Nat.div_one, Nat.mul_mod_right]
    exact ⟨fun _ => Or.inl rfl, fun _ => rfl⟩
  · obtain ⟨w, rfl⟩ : ∃ w, v = w + 1 := ⟨v - 1, by omega⟩
    rw [Nat.pow_succ, Nat.mul_comm (2 ^ w) 2, Nat.mul_div_mul_left _ _ (by decide), st_bitb, Nat.add_sub_cancel]
    cases z.testBit w with
    | true => exact ⟨fun h => absurd h (by decide), fun h => h.elim (fun h => by omega) (fun h => by cases h)⟩
    | false => exact ⟨fun _ => Or.inr rfl, fun _ => rfl⟩
theorem pv_r_eq (z : Nat) : ∀ m, m ≤ 12 → pv_r z m = pu_r z m (12 - m) := by
  intro m
  induction m with
  | zero => intro _; rfl
  | succ m ih =>
    intro hm
    show (bif Nat.beq (pv_b z (11 - m)) 1 then Nat.succ (pv_r z m) else 0) = _
    rw [pv_bt, ih (by omega), show 12 - (m + 1) = 11 - m by omega, show 12 - m = 11 - m + 1 by omega]
    show _ = (if z.testBit (11 - m) = true then pu_r z m (11 - m + 1) + 1 else 0)
    cases z.testBit (11 - m) <;> rfl
theorem pv_a_eq (z : Nat) {m : Nat} (hm : m < 12) : pv_a z m = pu_ra z (m + 1) (11 - m) := by
  have h := pv_bp z (11 - m)
  have hr := pv_r_eq z (m + 1) (by omega)
  rw [show 12 - (m + 1) = 11 - m by omega] at hr
  unfold pv_a pu_ra
  show (bif Nat.beq (pv_b z (11 - m)) 1 then (bif Nat.beq (pv_b (Nat.mul 2 z) (11 - m)) 0 then pv_r z (m + 1) else 0) else 0) = _
  rw [pv_bt, hr]
  cases hb : z.testBit (11 - m) with
  | false => rw [if_neg (fun q => by cases q.1)]; rfl
  | true =>
    cases hq : Nat.beq (pv_b (Nat.mul 2 z) (11 - m)) 0 with
    | true => rw [if_pos ⟨rfl, h.mp hq⟩]; rfl
    | false => rw [if_neg (fun q => by rw [h.mpr q.2] at hq; cases hq)]; rfl
theorem pv_s_eq (z : Nat) : ∀ m, m ≤ 12 → ∀ b, pv_s z m b = pu_sc z m (12 - m) b := by
  intro m
  induction m with
  | zero => intro _ b; rfl
  | succ m ih =>
    intro hm b
    show (bif Nat.beq (pv_b z (11 - m)) 1 then Nat.add (bif Nat.beq b 0 then 9 else Nat.add 4 (11 - m - b)) (pv_s z m (11 - m + 1)) else pv_s z m b) = _
    rw [pv_bt, ih (by omega), ih (by omega), show 12 - (m + 1) = 11 - m by omega, show 12 - m = 11 - m + 1 by omega]
    show _ = (if z.testBit (11 - m) = true then (if b = 0 then 9 else 4 + (11 - m - b)) + pu_sc z m (11 - m + 1) (11 - m + 1) else pu_sc z m (11 - m + 1) b)
    cases z.testBit (11 - m) with
    | true =>
      rw [ba_tt]
      cases b <;> rfl
    | false => rfl
theorem pv_i_eq (l z : Nat) : ∀ m, m ≤ 12 → ∀ q co ct lf, pv_i l z m q co ct lf = (2 * Nat.log2 (ct + (pu_i z l m (12 - m)).length + 1) + 1) + (co + pu_ic l (pu_i z l m (12 - m)) q) + pu_sc (pu_lf (pu_i z l m (12 - m)) lf) 12 0 0 := by
  intro m
  induction m with
  | zero =>
    intro _ q co ct lf
    show Nat.add (Nat.add (Nat.succ (Nat.mul 2 (Nat.log2 (Nat.succ ct)))) co) (pv_s lf 12 0) = (2 * Nat.log2 (ct + 0 + 1) + 1) + (co + 0) + pu_sc lf 12 0 0
    rw [pv_s_eq _ 12 (Nat.le_refl _)]
    rfl
  | succ m ih =>
    intro hm q co ct lf
    show (bif Nat.ble l (pv_a z m) then pv_i l z m (11 - m + pv_a z m) (co + (Nat.add (bif Nat.beq q 0 then 9 else 2 * Nat.log2 (11 - m - q - 1 + 1) + 1) (2 * Nat.log2 (pv_a z m - l + 1) + 1))) (ct + 1) (ap_di lf ((2 ^ pv_a z m - 1) * 2 ^ (11 - m))) else pv_i l z m q co ct lf) = _
    rw [ih (by omega), ih (by omega), pv_a_eq z (by omega), show 12 - (m + 1) = 11 - m by omega, show 12 - m = 11 - m + 1 by omega]
    show _ = (2 * Nat.log2 (ct + (if l ≤ pu_ra z (m + 1) (11 - m) then (11 - m, pu_ra z (m + 1) (11 - m)) :: pu_i z l m (11 - m + 1) else pu_i z l m (11 - m + 1)).length + 1) + 1) + (co + pu_ic l (if l ≤ pu_ra z (m + 1) (11 - m) then (11 - m, pu_ra z (m + 1) (11 - m)) :: pu_i z l m (11 - m + 1) else pu_i z l m (11 - m + 1)) q) + pu_sc (pu_lf (if l ≤ pu_ra z (m + 1) (11 - m) then (11 - m, pu_ra z (m + 1) (11 - m)) :: pu_i z l m (11 - m + 1) else pu_i z l m (11 - m + 1)) lf) 12 0 0
    by_cases e : l ≤ pu_ra z (m + 1) (11 - m)
    · rw [if_pos e, Nat.ble_eq.mpr e]
      show _ + (co + _ + _) + _ = _
      rw [List.length_cons]
      have : pu_ic l ((11 - m, pu_ra z (m + 1) (11 - m)) :: pu_i z l m (11 - m + 1)) q = (if q = 0 then 9 else 2 * Nat.log2 (11 - m - q - 1 + 1) + 1) + ((2 * Nat.log2 (pu_ra z (m + 1) (11 - m) - l + 1) + 1) + pu_ic l (pu_i z l m (11 - m + 1)) (11 - m + pu_ra z (m + 1) (11 - m))) := rfl
      rw [this]
      have hq : (bif Nat.beq q 0 then 9 else 2 * Nat.log2 (11 - m - q - 1 + 1) + 1) = (if q = 0 then 9 else 2 * Nat.log2 (11 - m - q - 1 + 1) + 1) := by cases q <;> rfl
      rw [hq, show ct + 1 + (pu_i z l m (11 - m + 1)).length + 1 = ct + ((pu_i z l m (11 - m + 1)).length + 1) + 1 by omega]
      show _ + (co + ((if q = 0 then 9 else 2 * Nat.log2 (11 - m - q - 1 + 1) + 1) + (2 * Nat.log2 (pu_ra z (m + 1) (11 - m) - l + 1) + 1)) + _) + pu_sc (pu_lf (pu_i z l m (11 - m + 1)) (ap_di lf ((2 ^ pu_ra z (m + 1) (11 - m) - 1) * 2 ^ (11 - m)))) 12 0 0 = _ + pu_sc (pu_lf (pu_i z l m (11 - m + 1)) (ap_di lf ((2 ^ pu_ra z (m + 1) (11 - m) - 1) * 2 ^ (11 - m)))) 12 0 0
      omega
    · have : Nat.ble l (pu_ra z (m + 1) (11 - m)) = false := by
        cases hb : Nat.ble l (pu_ra z (m + 1) (11 - m)) with
        | false => rfl
        | true => exact absurd (Nat.ble_eq.mp hb) e
      rw [if_neg e, this]
      rfl
/- beyond the last node there is nothing -/
theorem pv_hi {z n v : Nat} (h : z < 2 ^ n) (hv : n ≤ v) : z.testBit v = false := Nat.testBit_lt_two_pow (Nat.lt_of_lt_of_le h (Nat.pow_le_pow_right (by decide) hv))
theorem pv_r_ext {z n : Nat} (h : z < 2 ^ n) (d : Nat) : ∀ m v, v + m = n → pu_r z (m + d) v = pu_r z m v := by
  intro m
  induction m with
  | zero =>
    intro v hv
    rw [Nat.zero_add]
    cases d with
    | zero => rfl
    | succ d =>
      unfold pu_r
      rw [pv_hi h (by omega), ba_ff]
  | succ m ih =>
    intro v hv
    rw [show m + 1 + d = (m + d) + 1 by omega]
    unfold pu_r
    rw [ih (v + 1) (by omega)]
theorem pv_i_nil {z n l : Nat} (h : z < 2 ^ n) (hl : 1 ≤ l) : ∀ d v, n ≤ v → pu_i z l d v = [] := by
  intro d
  induction d with
  | zero => intro v _; rfl
  | succ d ih =>
    intro v hv
    have h0 : pu_ra z (d + 1) v = 0 := by
      unfold pu_ra
      rw [pv_hi h hv, if_neg (fun q => by cases q.1)]
    show (if l ≤ pu_ra z (d + 1) v then _ else pu_i z l d (v + 1)) = []
    rw [h0, if_neg (by omega)]
    exact ih (v + 1) (by omega)
theorem pv_i_ext {z n l : Nat} (h : z < 2 ^ n) (hl : 1 ≤ l) (d : Nat) : ∀ m v, v + m = n → pu_i z l (m + d) v = pu_i z l m v := by
  intro m
  induction m with
  | zero =>
    intro v hv
    rw [Nat.zero_add, pv_i_nil h hl d v (by omega)]
    rfl
  | succ m ih =>
    intro v hv
    have hr := pv_r_ext h d (m + 1) v hv
    rw [show m + 1 + d = (m + d) + 1 by omega] at hr ⊢
    unfold pu_i pu_ra
    rw [ih (v + 1) (by omega), hr]
theorem pv_s_nil {z n : Nat} (h : z < 2 ^ n) : ∀ d v b, n ≤ v → pu_sc z d v b = 0 := by
  intro d
  induction d with
  | zero => intro v b _; rfl
  | succ d ih =>
    intro v b hv
    unfold pu_sc
    rw [pv_hi h hv, ba_ff]
    exact ih (v + 1) b (by omega)
theorem pv_s_ext {z n : Nat} (h : z < 2 ^ n) (d : Nat) : ∀ m v b, v + m = n → pu_sc z (m + d) v b = pu_sc z m v b := by
  intro m
  induction m with
  | zero =>
    intro v b hv
    rw [Nat.zero_add, pv_s_nil h d v b (by omega)]
    rfl
  | succ m ih =>
    intro v b hv
    rw [show m + 1 + d = (m + d) + 1 by omega]
    unfold pu_sc
    rw [ih (v + 1) _ (by omega), ih (v + 1) _ (by omega)]
theorem pu_lf_le : ∀ (I : List (Nat × Nat)) (s : Nat), pu_lf I s ≤ s := by
  intro I
  induction I with
  | nil => intro s; exact Nat.le_refl _
  | cons p t ih => intro s; exact Nat.le_trans (ih _) (ap_di_le _ _)
/- lengths and their bounds -/
theorem pv_z0 : ∀ k, k < 5 → 1 ≤ k → ∀ x, x < 23 → (Nat.log2 (x + 1) / k + 1 + if 2 * 2 ^ (Nat.log2 (x + 1) / k * k) ≤ x + 1 then Nat.log2 (x + 1) / k * k + k else Nat.log2 (x + 1) / k * k + k - 1) ≤ 9 ∧ (Nat.log2 (x + 1) / k + 1 + if 2 * 2 ^ (Nat.log2 (x + 1) / k * k) ≤ x + 1 then Nat.log2 (x + 1) / k * k + k else Nat.log2 (x + 1) / k * k + k - 1) ≤ 4 + x := by decide +kernel
theorem pv_zl {k x : Nat} (hk : 1 ≤ k) (hk4 : k ≤ 4) (hx : x ≤ 22) : (pu_z k x).length ≤ 9 ∧ (pu_z k x).length ≤ 4 + x := by
  rw [pu_zl]
  exact pv_z0 k (by omega) hk x (by omega)
theorem pv_s_len {u z k : Nat} (hu : u < 12) (hk : 1 ≤ k) (hk4 : k ≤ 4) : ∀ m v b, v + m ≤ 12 → (pu_s u z k m v b).length ≤ pu_sc z m v b := by
  intro m
  induction m with
  | zero => intro v b _; exact Nat.le_refl _
  | succ m ih =>
    intro v b hv
    unfold pu_s pu_sc
    cases z.testBit v with
    | false => rw [ba_ff, ba_ff]; exact ih _ _ (by omega)
    | true =>
      rw [ba_tt, ba_tt, List.length_append]
      have h1 := ih (v + 1) (v + 1) (by omega)
      by_cases e : b = 0
      · rw [if_pos e, if_pos e]
        have := (pv_zl hk hk4 (pu_nle (v := v) (u := u) (by omega) hu)).1
        omega
      · rw [if_neg e, if_neg e]
        have := (pv_zl (x := v - b) hk hk4 (by omega)).2
        omega
theorem pv_ib_len {u l : Nat} (hu : u < 12) : ∀ (I : List (Nat × Nat)) (q : Nat), pu_sep l I q → (pu_ib u l I q).length ≤ pu_ic l I q := by
  intro I
  induction I with
  | nil => intro q _; exact Nat.le_refl _
  | cons p t ih =>
    intro q ⟨s1, s2, s3, s4, s5⟩
    have h1 := ih _ s5
    unfold pu_ib pu_ic
    rw [List.length_append, List.length_append, pu_gl, pu_gl]
    by_cases e : q = 0
    · rw [if_pos e, if_pos e]
      have h2 := pu_nle (v := p.1) (u := u) (by omega) hu
      have h3 : Nat.log2 (pu_n p.1 u + 1) ≤ 4 := pu_log_le (by omega) (by omega)
      omega
    · rw [if_neg e, if_neg e]
      omega
theorem pv_sc_le (z : Nat) : ∀ m v b, 1 ≤ b → b ≤ v → pu_sc z m v b ≤ 4 * m + (v - b) := by
  intro m
  induction m with
  | zero => intro v b _ _; exact Nat.zero_le _
  | succ m ih =>
    intro v b h1 h2
    unfold pu_sc
    have g1 := ih (v + 1) (v + 1) (by omega) (Nat.le_refl _)
    have g2 := ih (v + 1) b h1 (by omega)
    rw [if_neg (show ¬ b = 0 by omega)]
    split <;> omega
theorem pv_sc_le0 (z : Nat) : ∀ m v, pu_sc z m v 0 ≤ 5 + 4 * m := by
  intro m
  induction m with
  | zero => intro v; exact Nat.zero_le _
  | succ m ih =>
    intro v
    unfold pu_sc
    have g1 := pv_sc_le z m (v + 1) (v + 1) (by omega) (Nat.le_refl _)
    have g2 := ih (v + 1)
    rw [if_pos rfl]
    split <;> omega
