/- what is put: numbers, gamma codes, zeta codes; on both sides -/
theorem pu_M_put {N : Nat} {ν : me_M} {bs : List Nat} (b : Nat) (h : ta_M ν bs) (hl : bs.length < 800) : ∃ ν', fM_put N (nI b) ν = some ν' ∧ ta_M ν' (bs ++ [b]) ∧ me_fr [2, 103] [] ν ν' := by
  refine ⟨me_wi (me_wi ν 2 bs.length (nI b)) 103 0 (nI (bs.length + 1)), ?_, ⟨?_, fun p hp => ?_⟩, (me_fr.rf.wi (by decide)).wi (by decide)⟩
  · unfold fM_put
    rw [h.1, ba_gi (n := 2048) (by omega) (by decide), nI_clamp (by omega), me_wi_c _ _ _ _ (by decide), h.1, nI_1]
  · rw [me_wi_s, List.length_append]; rfl
  · rw [me_wi_c _ _ _ _ (by decide)]
    by_cases e : p = bs.length
    · subst e
      rw [me_wi_s, ta_getL]
    · have hp' : p < bs.length := by
        rw [List.length_append] at hp
        have : [b].length = 1 := rfl
        omega
      rw [me_wi_n _ _ _ _ e, h.2 p hp', ta_getD hp']
theorem pu_M_nb {N x : Nat} (hx : x < 2 ^ 31) : ∀ (c F : Nat) (ν : me_M) (bs : List Nat), c ≤ 31 → c < F → ta_M ν bs → bs.length + c ≤ 800 → ∃ ν', fM_putNumber_4 N F (nI x) (nI c - 1) ν = some ν' ∧ ta_M ν' (bs ++ ta_nb x c) ∧ me_fr [2, 103] [] ν ν' := by
  intro c
  induction c with
  | zero =>
    intro F ν bs _ hF h _
    obtain ⟨F, rfl⟩ : ∃ f, F = f + 1 := ⟨F - 1, by omega⟩
    refine ⟨ν, ?_, by rw [ta_nb, List.append_nil]; exact h, me_fr.rf⟩
    show fM_putNumber_4b N (fM_putNumber_4 N F) (nI x) (nI 0 - 1) ν = some ν
    unfold fM_putNumber_4b fM_putNumber_23
    rw [if_pos (by decide)]
  | succ c ih =>
    intro F ν bs hc hF h hl
    obtain ⟨F, rfl⟩ : ∃ f, F = f + 1 := ⟨F - 1, by omega⟩
    obtain ⟨ν1, g1, g2, g3⟩ := pu_M_put (N := N) (x / 2 ^ c % 2) h (by omega)
    obtain ⟨ν', h1, h2, h3⟩ := ih F ν1 (bs ++ [x / 2 ^ c % 2]) (by omega) (by omega) g2 (by rw [List.length_append]; show bs.length + 1 + c ≤ 800; omega)
    refine ⟨ν', ?_, by rw [ta_nb]; rw [List.append_assoc] at h2; exact h2, g3.tr h3⟩
    show fM_putNumber_4b N (fM_putNumber_4 N F) (nI x) (nI (c + 1) - 1) ν = some ν'
    rw [nI_pred]
    unfold fM_putNumber_4b
    rw [if_neg (nI_pos (by omega)), ba_bit hx (by omega), g1, ba_b, ta_m1]
    exact h1
theorem pu_M_num {N : Nat} (hN : 4096 ≤ N) {x c : Nat} (hx : x < 2 ^ 31) (hc : c ≤ 31) {ν : me_M} {bs : List Nat} (h : ta_M ν bs) (hl : bs.length + c ≤ 800) : ∃ ν', fM_putNumber N (nI x) (nI c) ν = some ν' ∧ ta_M ν' (bs ++ ta_nb x c) ∧ me_fr [2, 103] [] ν ν' :=
  pu_M_nb hx c N ν bs hc (by omega) h hl
theorem pu_one (r : Nat) : ta_nb 1 (r + 2) = 0 :: ta_nb 1 (r + 1) := by
  rw [ta_nb]
  congr 1
  rw [Nat.div_eq_of_lt (Nat.one_lt_two_pow (by omega))]
theorem pu_M_unary {N r : Nat} (hN : 4096 ≤ N) (hr : r ≤ 30) {ν : me_M} {bs : List Nat} (h : ta_M ν bs) (hl : bs.length + (r + 1) ≤ 800) : ∃ ν', fM_putUnary N (nI r) ν = some ν' ∧ ta_M ν' (bs ++ ta_nb 1 (r + 1)) ∧ me_fr [2, 103] [] ν ν' := by
  have key : ∀ m k F (ν : me_M) (bs : List Nat), k + m = r → m < F → ta_M ν bs → bs.length + (m + 1) ≤ 800 → ∃ ν', fM_putUnary_2 N F (nI r) (nI k) ν = some ν' ∧ ta_M ν' (bs ++ ta_nb 1 (m + 1)) ∧ me_fr [2, 103] [] ν ν' := by
    intro m
    induction m with
    | zero =>
      intro k F ν bs hk hF h hl
      obtain ⟨F, rfl⟩ : ∃ f, F = f + 1 := ⟨F - 1, by omega⟩
      obtain ⟨ν1, g1, g2, g3⟩ := pu_M_put (N := N) 1 h (by omega)
      refine ⟨ν1, ?_, g2, g3⟩
      show fM_putUnary_2b N (fM_putUnary_2 N F) (nI r) (nI k) ν = some ν1
      unfold fM_putUnary_2b fM_putUnary_18
      rw [if_pos (nI_le (by omega) (by omega)), show (1 : Int32) = nI 1 from rfl, g1]
      rfl
    | succ m ih =>
      intro k F ν bs hk hF h hl
      obtain ⟨F, rfl⟩ : ∃ f, F = f + 1 := ⟨F - 1, by omega⟩
      obtain ⟨ν1, g1, g2, g3⟩ := pu_M_put (N := N) 0 h (by omega)
      obtain ⟨ν', h1, h2, h3⟩ := ih (k + 1) F ν1 (bs ++ [0]) (by omega) (by omega) g2 (by rw [List.length_append]; show bs.length + 1 + (m + 1) ≤ 800; omega)
      refine ⟨ν', ?_, by rw [pu_one]; rw [List.append_assoc] at h2; exact h2, g3.tr h3⟩
      show fM_putUnary_2b N (fM_putUnary_2 N F) (nI r) (nI k) ν = some ν'
      unfold fM_putUnary_2b
      rw [if_neg (nI_ge (by omega) (by omega)), show (0 : Int32) = nI 0 from rfl, g1, ba_b, nI_1]
      exact h1
  exact key r 0 N ν bs (by omega) (by omega) h hl
theorem pu_C_unary {N n r : Nat} (hN : 4096 ≤ N) (hr : r ≤ 30) {μ : me_M} {bs : List Nat} (h : ta_C μ bs) (hl : bs.length + (r + 1) ≤ 800) : ∃ μ', fT_putUnary N n (nI r) μ = some μ' ∧ ta_C μ' (bs ++ ta_nb 1 (r + 1)) ∧ me_fr [3, 301] [] μ μ' := by
  obtain ⟨μ', h1, h2, h3⟩ := ta_put N n hN (x := 1) (c := r + 1) (by decide) (by omega) h hl
  refine ⟨μ', ?_, h2, h3⟩
  unfold fT_putUnary
  rw [nI_1, show (1 : Int32) = nI 1 from rfl, h1]
  rfl
/- the highest bit -/
theorem pu_log {y : Nat} (h : 1 ≤ y) : 2 ^ Nat.log2 y ≤ y ∧ y < 2 ^ (Nat.log2 y + 1) := ⟨Nat.log2_self_le (by omega), Nat.lt_log2_self⟩
theorem pu_log_le {y e : Nat} (h : 1 ≤ y) (hy : y < 2 ^ (e + 1)) : Nat.log2 y ≤ e := by
  have := Nat.log2_lt (n := y) (k := e + 1) (by omega)
  omega
theorem pu_exp {N y : Nat} (hN : 4096 ≤ N) (h1 : 1 ≤ y) (hy : y < 2 ^ 10) : fT_exponent N (nI y) = some (nI (Nat.log2 y)) := by
  have hE : Nat.log2 y ≤ 9 := pu_log_le h1 hy
  obtain ⟨l1, l2⟩ := pu_log h1
  refine lp_g (fun o => o = some (nI (Nat.log2 y))) (fun F k (_ : Unit) => fT_exponent_2 N F (nI y) (nI k)) (fun _ _ => True) (Nat.log2 y) ?_ ?_ (Nat.log2 y) N 0 () (by omega) (by omega) trivial
  · intro F k _ hk _ ih
    show fT_exponent_2b N (fT_exponent_2 N F) (nI y) (nI k) = _
    have : 2 ^ (k + 1) ≤ 2 ^ Nat.log2 y := Nat.pow_le_pow_right (by decide) (by omega)
    unfold fT_exponent_2b
    rw [show (30 : Int32) = nI 30 from rfl, if_neg (nI_ge (by omega) (by omega)), nI_1, ap_shl1 _ (by omega), if_neg (nI_nlt (by omega) (by omega))]
    exact ih () trivial
  · intro F _ _
    show fT_exponent_2b N (fT_exponent_2 N F) (nI y) (nI (Nat.log2 y)) = _
    have : 2 ^ (Nat.log2 y + 1) ≤ 2 ^ 10 := Nat.pow_le_pow_right (by decide) (by omega)
    unfold fT_exponent_2b fT_exponent_23
    rw [show (30 : Int32) = nI 30 from rfl, if_neg (nI_ge (by omega) (by omega)), nI_1, ap_shl1 _ (by omega), if_pos (nI_lt (by omega) (by omega))]
/- gamma -/
def pu_g (x : Nat) : List Nat := ta_nb (x + 1) (2 * Nat.log2 (x + 1) + 1)
theorem pu_gl (x : Nat) : (pu_g x).length = 2 * Nat.log2 (x + 1) + 1 := ta_nb_len _ _
theorem pu_C_gamma {N n x : Nat} (hN : 4096 ≤ N) (hx : x ≤ 100) {μ : me_M} {bs : List Nat} (h : ta_C μ bs) (hl : bs.length + (pu_g x).length ≤ 800) : ∃ μ', fT_putGamma N n (nI x) μ = some μ' ∧ ta_C μ' (bs ++ pu_g x) ∧ me_fr [3, 301] [] μ μ' := by
  have hE : Nat.log2 (x + 1) ≤ 9 := pu_log_le (by omega) (by omega)
  rw [pu_gl] at hl
  obtain ⟨μ', h1, h2, h3⟩ := ta_put N n hN (x := x + 1) (c := 2 * Nat.log2 (x + 1) + 1) (by omega) (by omega) h hl
  refine ⟨μ', ?_, h2, h3⟩
  unfold fT_putGamma
  rw [nI_1, pu_exp hN (by omega) (by omega), ba_b, show (2 : Int32) = nI 2 from rfl, pk_mul, nI_1, h1]
  rfl
theorem pu_g2 (x : Nat) : pu_g x = ta_nb 1 (Nat.log2 (x + 1) + 1) ++ ta_nb (x + 1) (Nat.log2 (x + 1)) := by
  obtain ⟨l1, l2⟩ := pu_log (y := x + 1) (by omega)
  unfold pu_g
  rw [show 2 * Nat.log2 (x + 1) + 1 = (Nat.log2 (x + 1) + 1) + Nat.log2 (x + 1) by omega, ta_nb_add]
  congr 2
  rw [Nat.pow_succ] at l2
  refine Nat.le_antisymm ?_ ((Nat.le_div_iff_mul_le (Nat.two_pow_pos _)).mpr (by omega))
  have := (Nat.div_lt_iff_lt_mul (x := x + 1) (y := 2) (Nat.two_pow_pos (Nat.log2 (x + 1)))).mpr (by omega)
  omega
theorem pu_M_gamma {N x : Nat} (hN : 4096 ≤ N) (hx : x ≤ 100) {ν : me_M} {bs : List Nat} (h : ta_M ν bs) (hl : bs.length + (pu_g x).length ≤ 800) : ∃ ν', fM_putGamma N (nI x) ν = some ν' ∧ ta_M ν' (bs ++ pu_g x) ∧ me_fr [2, 103] [] ν ν' := by
  have hE : Nat.log2 (x + 1) ≤ 9 := pu_log_le (by omega) (by omega)
  rw [pu_gl] at hl
  obtain ⟨l1, l2⟩ := pu_log (y := x + 1) (by omega)
  obtain ⟨ν1, a1, a2, a3⟩ := pu_M_unary (N := N) (r := Nat.log2 (x + 1)) hN (by omega) h (by omega)
  obtain ⟨ν2, b1, b2, b3⟩ := pu_M_num (N := N) hN (x := x + 1) (c := Nat.log2 (x + 1)) (by omega) (by omega) a2 (by rw [List.length_append, ta_nb_len]; omega)
  rw [List.append_assoc, ← pu_g2] at b2
  refine ⟨ν2, ?_, b2, a3.tr b3⟩
  refine lp_g (fun o => o = some ν2) (fun F k (_ : Unit) => fM_putGamma_2 N F (nI x) (nI k) ν) (fun _ _ => True) (Nat.log2 (x + 1)) ?_ ?_ (Nat.log2 (x + 1)) N 0 () (by omega) (by omega) trivial
  · intro F k _ hk _ ih
    show fM_putGamma_2b N (fM_putGamma_2 N F) (nI x) (nI k) ν = _
    have : 2 ^ (k + 1) ≤ 2 ^ Nat.log2 (x + 1) := Nat.pow_le_pow_right (by decide) (by omega)
    unfold fM_putGamma_2b
    rw [show (20 : Int32) = nI 20 from rfl, if_neg (nI_ge (by omega) (by omega)), nI_1, nI_1, ap_shl1 _ (by omega), if_neg (nI_nlt (by omega) (by omega))]
    exact ih () trivial
  · intro F _ _
    show fM_putGamma_2b N (fM_putGamma_2 N F) (nI x) (nI (Nat.log2 (x + 1))) ν = _
    have : 2 ^ (Nat.log2 (x + 1) + 1) ≤ 2 ^ 10 := Nat.pow_le_pow_right (by decide) (by omega)
    unfold fM_putGamma_2b fM_putGamma_25
    rw [show (20 : Int32) = nI 20 from rfl, if_neg (nI_ge (by omega) (by omega)), nI_1, nI_1, ap_shl1 _ (by omega), if_pos (nI_lt (by omega) (by omega)), a1, ba_b, b1, ba_b]
/- zeta -/
def pu_z (k x : Nat) : List Nat := ta_nb 1 (Nat.log2 (x + 1) / k + 1) ++ if 2 * 2 ^ (Nat.log2 (x + 1) / k * k) ≤ x + 1 then ta_nb (x + 1) (Nat.log2 (x + 1) / k * k + k) else ta_nb (x + 1 - 2 ^ (Nat.log2 (x + 1) / k * k)) (Nat.log2 (x + 1) / k * k + k - 1)
theorem pu_zl (k x : Nat) : (pu_z k x).length = Nat.log2 (x + 1) / k + 1 + if 2 * 2 ^ (Nat.log2 (x + 1) / k * k) ≤ x + 1 then Nat.log2 (x + 1) / k * k + k else Nat.log2 (x + 1) / k * k + k - 1 := by
  unfold pu_z
  rw [List.length_append, ta_nb_len]
  split <;> rw [ta_nb_len]
theorem pu_C_zeta {N n k x : Nat} (hN : 4096 ≤ N) (hk : 1 ≤ k) (hk4 : k ≤ 4) (hx : x ≤ 100) {μ : me_M} {bs : List Nat} (h : ta_C μ bs) (hl : bs.length + (pu_z k x).length ≤ 800) : ∃ μ', fT_putZeta N n (nI x) (nI k) μ = some μ' ∧ ta_C μ' (bs ++ pu_z k x) ∧ me_fr [3, 301] [] μ μ' := by
  have hE : Nat.log2 (x + 1) ≤ 9 := pu_log_le (by omega) (by omega)
  have hH := Nat.div_le_self (Nat.log2 (x + 1)) k
  have hHk := Nat.div_mul_le_self (Nat.log2 (x + 1)) k
  rw [pu_zl] at hl
  obtain ⟨l1, l2⟩ := pu_log (y := x + 1) (by omega)
  have hp : 2 ^ (Nat.log2 (x + 1) / k * k) ≤ 2 ^ Nat.log2 (x + 1) := Nat.pow_le_pow_right (by decide) hHk
  unfold fT_putZeta fT_putZeta_66 pu_z
  rw [nI_1, pu_exp hN (by omega) (by omega), ba_b, ba_gd (fun e => by have := (nI_eq0 (by omega)).mp e; omega), pk_div (by omega) (by omega) (by omega), pk_mul, nI_1, ap_shl1 _ (by omega), show (2 : Int32) = nI 2 from rfl, pk_mul, nI_add, show (1 : Int32) = nI 1 from rfl]
  generalize hH' : Nat.log2 (x + 1) / k = H at *
  by_cases e : 2 * 2 ^ (H * k) ≤ x + 1
  · rw [if_pos e] at hl ⊢
    obtain ⟨μ1, a1, a2, a3⟩ := ta_put N n hN (x := 1) (c := H + 1) (by decide) (by omega) h (by omega)
    obtain ⟨μ2, b1, b2, b3⟩ := ta_put N n hN (x := x + 1) (c := H * k + k) (by omega) (by omega) a2 (by rw [List.length_append, ta_nb_len]; omega)
    rw [a1, ba_b, if_pos (nI_le e (by omega)), b1, ba_b]
    exact ⟨μ2, rfl, by rw [← List.append_assoc]; exact b2, a3.tr b3⟩
  · rw [if_neg e] at hl ⊢
    obtain ⟨μ1, a1, a2, a3⟩ := ta_put N n hN (x := 1) (c := H + 1) (by decide) (by omega) h (by omega)
    obtain ⟨μ2, b1, b2, b3⟩ := ta_put N n hN (x := x + 1 - 2 ^ (H * k)) (c := H * k + k - 1) (by omega) (by omega) a2 (by rw [List.length_append, ta_nb_len]; omega)
    rw [a1, ba_b, if_neg (nI_ge (by omega) (by omega)), pk_sub (by omega), pk_sub (by omega), b1, ba_b]
    exact ⟨μ2, rfl, by rw [← List.append_assoc]; exact b2, a3.tr b3⟩
theorem pu_M_zeta {N k x : Nat} (hN : 4096 ≤ N) (hk : 1 ≤ k) (hk4 : k ≤ 4) (hx : x ≤ 100) {ν : me_M} {bs : List Nat} (hz : ν.1 108 0 = nI k) (h : ta_M ν bs) (hl : bs.length + (pu_z k x).length ≤ 800) : ∃ ν', fM_putZeta N (nI x) ν = some ν' ∧ ta_M ν' (bs ++ pu_z k x) ∧ me_fr [2, 103] [] ν ν' := by
  have hE : Nat.log2 (x + 1) ≤ 6 := pu_log_le (by omega) (by omega)
  have hH := Nat.div_le_self (Nat.log2 (x + 1)) k
  have hHk := Nat.div_mul_le_self (Nat.log2 (x + 1)) k
  rw [pu_zl] at hl
  obtain ⟨l1, l2⟩ := pu_log (y := x + 1) (by omega)
  have hp : 2 ^ (Nat.log2 (x + 1) / k * k) ≤ 2 ^ Nat.log2 (x + 1) := Nat.pow_le_pow_right (by decide) hHk
  have hlt : Nat.log2 (x + 1) < (Nat.log2 (x + 1) / k + 1) * k := by
    have := Nat.lt_div_mul_add (a := Nat.log2 (x + 1)) (b := k) (by omega)
    rw [Nat.add_mul, Nat.one_mul]
    exact this
  have hle : ∀ j, j < Nat.log2 (x + 1) / k → (j + 1) * k ≤ Nat.log2 (x + 1) := fun j hj => Nat.le_trans (Nat.mul_le_mul_right k (show j + 1 ≤ _ from hj)) hHk
  have fin : ∃ ν', fM_putZeta_30 N (nI x) (nI (Nat.log2 (x + 1) / k)) ν = some ν' ∧ ta_M ν' (bs ++ pu_z k x) ∧ me_fr [2, 103] [] ν ν' := by
    unfold fM_putZeta_30 fM_putZeta_96 pu_z
    generalize hH' : Nat.log2 (x + 1) / k = H at *
    obtain ⟨ν1, a1, a2, a3⟩ := pu_M_unary (N := N) (r := H) hN (by omega) h (by omega)
    have hz1 : ν1.1 108 0 = nI k := by rw [a3.1 108 (by decide)]; exact hz
    rw [a1, ba_b, hz1, nI_1, pk_mul, ap_shl1 _ (by omega), show (2 : Int32) = nI 2 from rfl, pk_mul, nI_add, show (1 : Int32) = nI 1 from rfl]
    by_cases e : 2 * 2 ^ (H * k) ≤ x + 1
    · rw [if_pos e] at hl ⊢
      obtain ⟨ν2, b1, b2, b3⟩ := pu_M_num (N := N) hN (x := x + 1) (c := H * k + k) (by omega) (by omega) a2 (by rw [List.length_append, ta_nb_len]; omega)
      rw [if_pos (nI_le e (by omega)), b1, ba_b]
      exact ⟨ν2, rfl, by rw [← List.append_assoc]; exact b2, a3.tr b3⟩
    · rw [if_neg e] at hl ⊢
      obtain ⟨ν2, b1, b2, b3⟩ := pu_M_num (N := N) hN (x := x + 1 - 2 ^ (H * k)) (c := H * k + k - 1) (by omega) (by omega) a2 (by rw [List.length_append, ta_nb_len]; omega)
      rw [if_neg (nI_ge (by omega) (by omega)), pk_sub (by omega), pk_sub (by omega), b1, ba_b]
      exact ⟨ν2, rfl, by rw [← List.append_assoc]; exact b2, a3.tr b3⟩
  obtain ⟨ν', f1, f2, f3⟩ := fin
  refine ⟨ν', ?_, f2, f3⟩
  refine lp_g (fun o => o = some ν') (fun F j (_ : Unit) => fM_putZeta_2 N F (nI x) (nI j) ν) (fun _ _ => True) (Nat.log2 (x + 1) / k) ?_ ?_ (Nat.log2 (x + 1) / k) N 0 () (by omega) (by omega) trivial
  · intro F j _ hj _ ih
    show fM_putZeta_2b N (fM_putZeta_2 N F) (nI x) (nI j) ν = _
    have h1 := hle j hj
    have : 2 ^ ((j + 1) * k) ≤ 2 ^ Nat.log2 (x + 1) := Nat.pow_le_pow_right (by decide) h1
    unfold fM_putZeta_2b
    rw [show (6 : Int32) = nI 6 from rfl, if_neg (nI_ge (by omega) (by omega)), nI_1, nI_1, hz, pk_mul, ap_shl1 _ (by omega), if_neg (nI_nlt (by omega) (by omega))]
    exact ih () trivial
  · intro F _ _
    show fM_putZeta_2b N (fM_putZeta_2 N F) (nI x) (nI (Nat.log2 (x + 1) / k)) ν = _
    have h3 : (Nat.log2 (x + 1) / k + 1) * k ≤ 10 := by rw [Nat.add_mul, Nat.one_mul]; omega
    have h2 : x + 1 < 2 ^ ((Nat.log2 (x + 1) / k + 1) * k) := Nat.lt_of_lt_of_le l2 (Nat.pow_le_pow_right (by decide) (by omega))
    have h4 : 2 ^ ((Nat.log2 (x + 1) / k + 1) * k) ≤ 2 ^ 10 := Nat.pow_le_pow_right (by decide) h3
    unfold fM_putZeta_2b
    by_cases e : 6 ≤ Nat.log2 (x + 1) / k
    · rw [show (6 : Int32) = nI 6 from rfl, if_pos (nI_le e (by omega))]
      exact f1
    · rw [show (6 : Int32) = nI 6 from rfl, if_neg (nI_ge (by omega) (by omega)), nI_1, nI_1, hz, pk_mul, ap_shl1 _ (by omega), if_pos (nI_lt h2 (by omega))]
      exact f1
