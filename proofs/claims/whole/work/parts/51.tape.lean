/- bits of a number, the highest first; the stream of the class (ta_C), of the reference (ta_M) -/
def ta_nb (x : Nat) : Nat → List Nat
  | 0 => []
  | c + 1 => (x / 2 ^ c % 2) :: ta_nb x c
theorem ta_nb_len (x c : Nat) : (ta_nb x c).length = c := by
  induction c with
  | zero => rfl
  | succ c ih => rw [ta_nb, List.length_cons, ih]
theorem ta_nb_add (y a b : Nat) : ta_nb y (a + b) = ta_nb (y / 2 ^ b) a ++ ta_nb y b := by
  induction a with
  | zero => rw [Nat.zero_add]; rfl
  | succ a ih =>
    rw [show a + 1 + b = (a + b) + 1 by omega, ta_nb, ta_nb, ih, List.cons_append]
    rw [Nat.div_div_eq_div_mul, ← Nat.pow_add, Nat.add_comm b a]
def ta_C (μ : me_M) (bs : List Nat) : Prop := μ.1 301 0 = nI bs.length ∧ ∀ p, p < bs.length → μ.1 3 p = nI (bs.getD p 0)
def ta_M (ν : me_M) (bs : List Nat) : Prop := ν.1 103 0 = nI bs.length ∧ ∀ p, p < bs.length → ν.1 2 p = nI (bs.getD p 0)
theorem ta_getD {bs : List Nat} {b p : Nat} (hp : p < bs.length) : (bs ++ [b]).getD p 0 = bs.getD p 0 := by
  simp [List.getD, List.getElem?_append_left hp]
theorem ta_getL {bs : List Nat} {b : Nat} : (bs ++ [b]).getD bs.length 0 = b := by
  simp [List.getD]
theorem ta_C_put {μ : me_M} {bs : List Nat} {b : Nat} (h : ta_C μ bs) : ta_C (me_wi (me_wi μ 3 bs.length (nI b)) 301 0 (nI (bs.length + 1))) (bs ++ [b]) := by
  refine ⟨?_, fun p hp => ?_⟩
  · rw [me_wi_s, List.length_append]; rfl
  · rw [me_wi_c _ _ _ _ (by decide)]
    by_cases e : p = bs.length
    · subst e
      rw [me_wi_s, ta_getL]
    · have hp' : p < bs.length := by
        rw [List.length_append] at hp
        have : [b].length = 1 := rfl
        omega
      rw [me_wi_n _ _ _ _ e, h.2 p hp', ta_getD hp']
theorem ta_byte : ∀ b, b < 2 → vp_nar .byte ((nI b).toInt8.toInt32) = nI b := by decide +kernel
theorem ta_800 {k : Nat} (h : k < 800) : ¬ (800 : Int32) ≤ nI k := nI_ge (a := k) (b := 800) h (by omega)
theorem ta_m1 (c : Nat) : nI c + (-1 : Int32) = nI c - 1 := by rw [Int32.sub_eq_add_neg]
theorem ta_putN (N n x : Nat) (hx : x < 2 ^ 31) : ∀ (c F : Nat) (μ : me_M) (bs : List Nat), c ≤ 31 → c < F → ta_C μ bs → bs.length + c ≤ 800 → ∃ μ', fT_putNumber_4 N n F (nI x) (nI c - 1) μ = some μ' ∧ ta_C μ' (bs ++ ta_nb x c) ∧ me_fr [3, 301] [] μ μ' := by
  intro c
  induction c with
  | zero =>
    intro F μ bs _ hF h _
    obtain ⟨F, rfl⟩ : ∃ f, F = f + 1 := ⟨F - 1, by omega⟩
    refine ⟨μ, ?_, by rw [ta_nb, List.append_nil]; exact h, me_fr.rf⟩
    show fT_putNumber_4b N n (fT_putNumber_4 N n F) (nI x) (nI 0 - 1) μ = some μ
    unfold fT_putNumber_4b fT_putNumber_49
    rw [if_pos (by decide)]
  | succ c ih =>
    intro F μ bs hc hF h hl
    obtain ⟨F, rfl⟩ : ∃ f, F = f + 1 := ⟨F - 1, by omega⟩
    obtain ⟨μ', h1, h2, h3⟩ := ih F (me_wi (me_wi μ 3 bs.length (nI (x / 2 ^ c % 2))) 301 0 (nI (bs.length + 1))) (bs ++ [x / 2 ^ c % 2]) (by omega) (by omega) (ta_C_put h) (by rw [List.length_append]; show bs.length + 1 + c ≤ 800; omega)
    refine ⟨μ', ?_, by rw [ta_nb]; rw [List.append_assoc] at h2; exact h2, (me_fr.wi (me_fr.wi me_fr.rf (by decide)) (by decide)).tr h3⟩
    show fT_putNumber_4b N n (fT_putNumber_4 N n F) (nI x) (nI (c + 1) - 1) μ = some μ'
    rw [nI_pred]
    unfold fT_putNumber_4b
    have hb : vp_nar .byte ((((nI x >>> (nI c &&& 31)) &&& (1 : Int32)).toInt8.toInt32)) = nI (x / 2 ^ c % 2) := by
      rw [ba_bit hx (by omega)]
      exact ta_byte _ (Nat.mod_lt _ (by decide))
    rw [if_neg (nI_pos (by omega)), h.1, if_neg (ta_800 (by omega)), ba_gi (by omega) (by decide), hb, nI_clamp (by omega), me_wi_c _ _ _ _ (by decide), h.1, nI_1, ta_m1]
    exact h1
theorem ta_put (N n : Nat) (hN : 4096 ≤ N) {x c : Nat} (hx : x < 2 ^ 31) (hc : c ≤ 31) {μ : me_M} {bs : List Nat} (h : ta_C μ bs) (hl : bs.length + c ≤ 800) : ∃ μ', fT_putNumber N n (nI x) (nI c) μ = some μ' ∧ ta_C μ' (bs ++ ta_nb x c) ∧ me_fr [3, 301] [] μ μ' :=
  ta_putN N n x hx c N μ bs hc (by omega) h hl
