/- no step brings the sum above its bound -/
theorem sq_div (a b T : Nat) : a / T + b / T ≤ (a + b) / T := by
  rcases Nat.eq_zero_or_pos T with e | e
  · subst e; simp
  · rw [Nat.le_div_iff_mul_le e, Nat.add_mul]
    exact Nat.add_le_add (Nat.div_mul_le_self _ _) (Nat.div_mul_le_self _ _)
theorem sq_add (f g : Nat → Nat) : ∀ n, rl_sum (fun v => f v + g v) n = rl_sum f n + rl_sum g n := by
  intro n
  induction n with
  | zero => rfl
  | succ n ih => unfold rl_sum; rw [ih]; omega
theorem sq_mono {f g : Nat → Nat} : ∀ {n}, (∀ v, v < n → f v ≤ g v) → rl_sum f n ≤ rl_sum g n := by
  intro n
  induction n with
  | zero => intro _; exact Nat.le_refl _
  | succ n ih =>
    intro h
    have := ih (fun v hv => h v (by omega))
    have := h n (by omega)
    unfold rl_sum
    omega
theorem sq_floor (f : Nat → Nat) (T : Nat) : ∀ n, rl_sum (fun v => f v / T) n ≤ rl_sum f n / T := by
  intro n
  induction n with
  | zero => exact Nat.zero_le _
  | succ n ih =>
    have := sq_div (rl_sum f n) (f n) T
    unfold rl_sum
    omega
theorem sq_mul (c : Nat) (f : Nat → Nat) : ∀ n, rl_sum (fun v => c * f v) n = c * rl_sum f n := by
  intro n
  induction n with
  | zero => rfl
  | succ n ih => unfold rl_sum; rw [ih, Nat.mul_add]
theorem sq_swap (x : Nat → Nat → Nat) (n : Nat) : ∀ m, rl_sum (fun v => rl_sum (x v) n) m = rl_sum (fun u => rl_sum (fun v => x v u) m) n := by
  intro m
  induction m with
  | zero =>
    show 0 = _
    induction n with
    | zero => rfl
    | succ n ih => unfold rl_sum; rw [← ih]; rfl
  | succ m ih =>
    show rl_sum (fun v => rl_sum (x v) n) m + rl_sum (x m) n = rl_sum (fun u => rl_sum (fun v => x v u) m + x m u) n
    rw [sq_add, ih]
theorem sq_cnt (y c : Nat) : ∀ n, rl_sum (fun v => if y.testBit v = true then c else 0) n = st_cn y n * c := by
  intro n
  induction n with
  | zero => unfold rl_sum st_cn; rw [Nat.zero_mul]
  | succ n ih =>
    unfold rl_sum st_cn
    rw [ih, Nat.add_mul, st_bitb]
    cases y.testBit n with
    | true => rw [ba_tt, ba_tt, Nat.one_mul]
    | false => rw [ba_ff, ba_ff, Nat.zero_mul]
theorem sq_cnt1 (p : Nat → Bool) (c : Nat) : ∀ n, rl_sum (fun v => if p v = true then c else 0) n = rl_sum (fun v => if p v = true then 1 else 0) n * c := by
  intro n
  induction n with
  | zero => unfold rl_sum; rw [Nat.zero_mul]
  | succ n ih =>
    unfold rl_sum
    rw [ih, Nat.add_mul]
    cases p n with
    | true => rw [ba_tt, ba_tt, Nat.one_mul]
    | false => rw [ba_ff, ba_ff, Nat.zero_mul]
theorem sq_rx {l s : Nat → Nat} {n : Nat} (h12 : n ≤ 12) : rl_sum (fun v => rl_sum (sp_rx l s v) n) n + sp_lost l s n ≤ rl_sum s n := by
  rw [sq_swap]
  unfold sp_lost
  rw [← sq_add]
  refine sq_mono fun u hu => ?_
  unfold sp_rx
  rw [sq_cnt]
  by_cases e : l u = 0
  · rw [if_pos e, e]
    have : st_cn 0 n = 0 := by
      clear h12 hu
      induction n with
      | zero => rfl
      | succ n ih => unfold st_cn; rw [ih]; simp
    rw [this]
    omega
  · rw [if_neg e]
    have h1 := st_cn_mono (l u) h12
    have h2 := Nat.mul_le_mul_right (s u / st_cn (l u) 12) h1
    have h3 := Nat.mul_div_le (s u) (st_cn (l u) 12)
    omega
theorem sq_rank {l s w : Nat → Nat} {a n : Nat} (h12 : n ≤ 12) (ha : a ≤ 1000) (hw : 1 ≤ rl_sum w n) (hS : rl_sum s n ≤ 1000000000000) : rl_sum (sp_rank l s w a n) n ≤ 1000000000000 := by
  have e1 : rl_sum (sp_rank l s w a n) n = rl_sum (fun v => (1000 - a) * 1000000000 * w v / rl_sum w n) n + rl_sum (fun v => a * (rl_sum (sp_rx l s v) n + sp_lost l s n * w v / rl_sum w n) / 1000) n := sq_add _ _ n
  have e2 := sq_floor (fun v => (1000 - a) * 1000000000 * w v) (rl_sum w n) n
  rw [sq_mul, Nat.mul_div_cancel _ hw] at e2
  have e3 := sq_floor (fun v => a * (rl_sum (sp_rx l s v) n + sp_lost l s n * w v / rl_sum w n)) 1000 n
  rw [sq_mul, sq_add] at e3
  have e4 := sq_floor (fun v => sp_lost l s n * w v) (rl_sum w n) n
  rw [sq_mul, Nat.mul_div_cancel _ hw] at e4
  have e5 := sq_rx (l := l) (s := s) h12
  have e6 : a * (rl_sum (fun v => rl_sum (sp_rx l s v) n) n + rl_sum (fun v => sp_lost l s n * w v / rl_sum w n) n) ≤ a * 1000000000000 := Nat.mul_le_mul_left a (by omega)
  omega
theorem sq_h2 {l s : Nat → Nat} {n : Nat} : rl_sum (sp_h2 l s n) n ≤ rl_sum s n := by
  unfold sp_h2
  rw [sq_swap]
  refine sq_mono fun v hv => ?_
  unfold sp_qx
  rw [sq_cnt1 (fun u => (l u).testBit v)]
  exact Nat.mul_div_le (s v) (sp_to l n v)
theorem sq_s2 {l s : Nat → Nat} {n : Nat} (h12 : n ≤ 12) : rl_sum (sp_s2 l s n) n ≤ rl_sum s n := by
  have h1 := sq_rx (l := l) (s := sp_h2 l s n) h12
  have h2 := sq_h2 (l := l) (s := s) (n := n)
  have h3 : rl_sum (sp_s2 l s n) n = rl_sum (fun v => rl_sum (sp_rx l (sp_h2 l s n) v) n) n := rfl
  omega
/- how far the scores moved -/
def sq_d (a b : Nat) : Nat := if a ≤ b then b - a else a - b
theorem sq_abs {a b : Nat} (ha : a ≤ 1000000000000) (hb : b ≤ 1000000000000) : (if 0 < lN a - lN b then lN a - lN b else -(lN a - lN b)) = lN (sq_d a b) := by
  unfold sq_d
  by_cases h : a ≤ b
  · have e : -(lN a - lN b) = lN (b - a) := by rw [Int64.neg_sub, lN_sub h]
    have e2 : lN a - lN b = -(lN (b - a)) := by rw [← e, Int64.neg_neg]
    rw [if_pos h, if_neg, e]
    rw [e2, Int64.lt_iff_toInt_lt, Int64.toInt_neg, pk_lT (by omega), Int.bmod_eq_of_le (by omega) (by omega)]
    have : (0 : Int64).toInt = 0 := rfl
    omega
  · rw [if_neg h, lN_sub (by omega), if_pos]
    exact (pk_lLT (a := 0) (by decide) (by omega)).mpr (by omega)
