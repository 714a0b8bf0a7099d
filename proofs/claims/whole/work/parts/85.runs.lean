/- runs written -/
def pu_rn (x y : Nat) : Nat → Nat → List Nat → Nat → Bool → List Nat
  | 0, _, fi, _, _ => fi
  | m + 1, v, fi, cu, sd => if y.testBit v = true then (if x.testBit v = sd then pu_rn x y m (v + 1) fi (cu + 1) sd else pu_rn x y m (v + 1) (fi ++ [cu]) 1 (!sd)) else pu_rn x y m (v + 1) fi cu sd
def pu_rl (R : List Nat) : Nat → Nat → List Nat
  | 0, _ => []
  | m + 1, i => pu_g (if i = 0 then R.getD i 0 else R.getD i 0 - 1) ++ pu_rl R m (i + 1)
def pu_rb (R : List Nat) : List Nat := pu_g R.length ++ pu_rl R R.length 0
def pu_ok (R : List Nat) (b : Nat) : Prop := R.length ≤ b ∧ rl_sum (fun j => R.getD j 0) R.length ≤ b ∧ ∀ j, 1 ≤ j → j < R.length → 1 ≤ R.getD j 0
theorem pu_apS (fi : List Nat) (cu : Nat) : rl_sum (fun j => (fi ++ [cu]).getD j 0) (fi ++ [cu]).length = rl_sum (fun j => fi.getD j 0) fi.length + cu := by
  rw [List.length_append]
  show rl_sum _ fi.length + (fi ++ [cu]).getD fi.length 0 = _
  rw [ta_getL, su_eq (fun v hv => ta_getD hv)]
theorem pu_apP {fi : List Nat} {cu : Nat} (h1 : ∀ j, 1 ≤ j → j < fi.length → 1 ≤ fi.getD j 0) (h2 : 1 ≤ fi.length → 1 ≤ cu) : ∀ j, 1 ≤ j → j < (fi ++ [cu]).length → 1 ≤ (fi ++ [cu]).getD j 0 := by
  intro j hj hl
  rw [List.length_append] at hl
  have hl1 : [cu].length = 1 := rfl
  by_cases e : j = fi.length
  · subst e; rw [ta_getL]; exact h2 hj
  · rw [ta_getD (by omega)]; exact h1 j hj (by omega)
theorem pu_rn_ok (x y : Nat) : ∀ (m v : Nat) (fi : List Nat) (cu : Nat) (sd : Bool), fi.length ≤ v → rl_sum (fun j => fi.getD j 0) fi.length + cu ≤ v → (∀ j, 1 ≤ j → j < fi.length → 1 ≤ fi.getD j 0) → (1 ≤ fi.length → 1 ≤ cu) → pu_ok (pu_rn x y m v fi cu sd) (v + m) := by
  intro m
  induction m with
  | zero =>
    intro v fi cu sd h1 h2 h3 h4
    exact ⟨h1, by show rl_sum (fun j => fi.getD j 0) fi.length ≤ v; omega, h3⟩
  | succ m ih =>
    intro v fi cu sd h1 h2 h3 h4
    rw [show v + (m + 1) = v + 1 + m by omega]
    unfold pu_rn
    split
    · split
      · exact ih (v + 1) fi (cu + 1) sd (by omega) (by omega) h3 (by omega)
      · refine ih (v + 1) (fi ++ [cu]) 1 (!sd) ?_ ?_ (pu_apP h3 h4) (fun _ => Nat.le_refl _)
        · rw [List.length_append]; show fi.length + 1 ≤ v + 1; omega
        · rw [pu_apS]; omega
    · exact ih (v + 1) fi cu sd (by omega) (by omega) h3 h4
theorem pu_log1 (a : Nat) : Nat.log2 (a + 1) ≤ a := pu_log_le (by omega) (Nat.lt_two_pow_self)
theorem pu_rl_len {R : List Nat} {b : Nat} (h : pu_ok R b) : ∀ m i, i + m = R.length → (pu_rl R m i).length + 2 * rl_sum (fun j => R.getD j 0) i ≤ 2 * rl_sum (fun j => R.getD j 0) R.length + (if i = 0 then 1 else 0) := by
  intro m
  induction m with
  | zero =>
    intro i hi
    rw [show i = R.length by omega]
    show 0 + _ ≤ _
    omega
  | succ m ih =>
    intro i hi
    have := ih (i + 1) (by omega)
    rw [if_neg (show ¬ i + 1 = 0 by omega)] at this
    have e : rl_sum (fun j => R.getD j 0) (i + 1) = rl_sum (fun j => R.getD j 0) i + R.getD i 0 := rfl
    unfold pu_rl
    rw [List.length_append, pu_gl]
    by_cases e0 : i = 0
    · rw [if_pos e0, if_pos e0]
      have := pu_log1 (R.getD i 0)
      omega
    · rw [if_neg e0, if_neg e0]
      have h1 := h.2.2 i (by omega) (by omega)
      have := pu_log1 (R.getD i 0 - 1)
      omega
theorem pu_rb_len {R : List Nat} (h : pu_ok R 12) : (pu_rb R).length ≤ 32 := by
  have h1 := pu_rl_len h R.length 0 (by omega)
  rw [if_pos rfl] at h1
  have e : rl_sum (fun j => R.getD j 0) 0 = 0 := rfl
  have h2 := h.2.1
  have h3 : Nat.log2 (R.length + 1) ≤ 3 := pu_log_le (by omega) (by have := h.1; omega)
  unfold pu_rb
  rw [List.length_append, pu_gl]
  omega
theorem pu_rge {R : List Nat} (h : pu_ok R 12) {i : Nat} (hi : i < R.length) : R.getD i 0 ≤ 12 := Nat.le_trans (su_le (f := fun j => R.getD j 0) hi) h.2.1
/- class -/
theorem pu_C_runL {N n : Nat} (hN : 4096 ≤ N) {R : List Nat} (hR : pu_ok R 12) : ∀ (m i F : Nat) (μ : me_M) (bs : List Nat), i + m = R.length → m < F → (∀ j, j < R.length → μ.1 7 j = nI (R.getD j 0)) → ta_C μ bs → bs.length + (pu_rl R m i).length ≤ 800 → ∃ μ', fK_writeRuns_94 N n F (nI R.length) (nI i) μ = some μ' ∧ ta_C μ' (bs ++ pu_rl R m i) ∧ me_fr [3, 301] [] μ μ' := by
  have hR1 := hR.1
  intro m
  induction m with
  | zero =>
    intro i F μ bs hi hF hr h hl
    obtain ⟨F, rfl⟩ : ∃ f, F = f + 1 := ⟨F - 1, by omega⟩
    refine ⟨μ, ?_, by unfold pu_rl; rw [List.append_nil]; exact h, me_fr.rf⟩
    show fK_writeRuns_94b N n (fK_writeRuns_94 N n F) (nI R.length) (nI i) μ = some μ
    unfold fK_writeRuns_94b fK_writeRuns_137
    rw [if_pos (nI_le (by omega) (by omega))]
  | succ m ih =>
    intro i F μ bs hi hF hr h hl
    obtain ⟨F, rfl⟩ : ∃ f, F = f + 1 := ⟨F - 1, by omega⟩
    unfold pu_rl at hl ⊢
    rw [List.length_append] at hl
    have hri := pu_rge hR (i := i) (by omega)
    obtain ⟨μ1, a1, a2, a3⟩ := pu_C_gamma (N := N) (n := n) hN (x := if i = 0 then R.getD i 0 else R.getD i 0 - 1) (by split <;> omega) h (by omega)
    obtain ⟨μ2, b1, b2, b3⟩ := ih (i + 1) F μ1 _ (by omega) (by omega) (fun j hj => by rw [a3.1 7 (by decide)]; exact hr j hj) a2 (by rw [List.length_append]; omega)
    refine ⟨μ2, ?_, by rw [← List.append_assoc]; exact b2, a3.tr b3⟩
    show fK_writeRuns_94b N n (fK_writeRuns_94 N n F) (nI R.length) (nI i) μ = some μ2
    unfold fK_writeRuns_94b fK_writeRuns_128
    rw [if_neg (nI_ge (by omega) (by omega)), ba_gi (n := 13) (by omega) (by decide), ba_gi (n := 13) (by omega) (by decide), nI_clamp (by omega), hr i (by omega), nI_1]
    by_cases e0 : i = 0
    · rw [if_pos e0] at a1
      rw [if_pos ((nI_eq0 (by omega)).mpr e0), a1, ba_b]
      exact b1
    · rw [if_neg e0] at a1
      have h1 := hR.2.2 i (by omega) (by omega)
      rw [if_neg (fun z => e0 ((nI_eq0 (by omega)).mp z)), show (1 : Int32) = nI 1 from rfl, pk_sub h1, a1, ba_b]
      exact b1
theorem pu_sdb (x v : Nat) (hx : x < 4096) (hv : v < 12) : ∀ (sd : Bool), ((if x.testBit v = true then (1 : Int32) else 0) = (if sd = true then 1 else 0)) ↔ x.testBit v = sd := by
  intro sd
  cases x.testBit v <;> cases sd <;> decide
theorem pu_C_runA {N n x y : Nat} (hN : 4096 ≤ N) (h12 : n ≤ 12) (hx : x < 4096) (hy : y < 4096) : ∀ (m v : Nat) (fi : List Nat) (cu : Nat) (sd : Bool) (F : Nat) (μ : me_M), v + m = n → m < F → fi.length ≤ v → (∀ j, j < fi.length → μ.1 7 j = nI (fi.getD j 0)) → μ.1 7 fi.length = nI cu → ∃ μ', fK_writeRuns_15 N n F (nI x) (nI y) (nI fi.length) (if sd = true then 1 else 0) (nI v) μ = fK_writeRuns_83 N n (nI (pu_rn x y m v fi cu sd).length) μ' ∧ me_fr [7] [] μ μ' ∧ ∀ j, j < (pu_rn x y m v fi cu sd).length → μ'.1 7 j = nI ((pu_rn x y m v fi cu sd).getD j 0) := by
  intro m
  induction m with
  | zero =>
    intro v fi cu sd F μ hv hF hl hr hc
    obtain ⟨F, rfl⟩ : ∃ f, F = f + 1 := ⟨F - 1, by omega⟩
    refine ⟨μ, ?_, me_fr.rf, hr⟩
    show fK_writeRuns_15b N n (fK_writeRuns_15 N n F) (nI x) (nI y) (nI fi.length) _ (nI v) μ = _
    unfold fK_writeRuns_15b
    rw [if_pos (nI_le (by omega) (by omega))]
    rfl
  | succ m ih =>
    intro v fi cu sd F μ hv hF hl hr hc
    obtain ⟨F, rfl⟩ : ∃ f, F = f + 1 := ⟨F - 1, by omega⟩
    show ∃ μ', fK_writeRuns_15b N n (fK_writeRuns_15 N n F) (nI x) (nI y) (nI fi.length) (if sd = true then 1 else 0) (nI v) μ = _ ∧ _
    unfold fK_writeRuns_15b fK_writeRuns_55 fK_writeRuns_67 fK_writeRuns_77
    rw [if_neg (nI_ge (by omega) (by omega)), ap_holds (by omega) (by omega), ap_holds (by omega) (by omega), ba_b, ba_b, nI_1, nI_1]
    unfold pu_rn
    cases hb : y.testBit v with
    | false =>
      rw [ba_ff, ba_00, ba_ff]
      exact ih (v + 1) fi cu sd F μ (by omega) (by omega) (by omega) hr hc
    | true =>
      rw [ba_tt, ba_10, ba_tt]
      by_cases e : x.testBit v = sd
      · rw [if_pos ((pu_sdb x v hx (by omega) sd).mpr e), if_pos e, ba_gi (n := 13) (by omega) (by decide), ba_gi (n := 13) (by omega) (by decide), nI_clamp (by omega), hc, nI_1]
        obtain ⟨μ', g1, g2, g3⟩ := ih (v + 1) fi (cu + 1) sd F (me_wi μ 7 fi.length (nI (cu + 1))) (by omega) (by omega) (by omega) (fun j hj => by rw [me_wi_n _ _ _ _ (by omega)]; exact hr j hj) (by rw [me_wi_s])
        exact ⟨μ', g1, (me_fr.rf.wi (by decide)).tr g2, g3⟩
      · have hl1 : (fi ++ [cu]).length = fi.length + 1 := by rw [List.length_append]; rfl
        obtain ⟨μ', g1, g2, g3⟩ := ih (v + 1) (fi ++ [cu]) 1 (!sd) F (me_wi (me_wi μ 7 (fi.length + 1) 0) 7 (fi.length + 1) (nI 1)) (by omega) (by omega) (by omega) (fun j hj => by
          rw [hl1] at hj
          rw [me_wi_n _ _ _ _ (by omega), me_wi_n _ _ _ _ (by omega)]
          by_cases e2 : j = fi.length
          · subst e2; rw [ta_getL]; exact hc
          · rw [ta_getD (by omega)]; exact hr j (by omega)) (by rw [hl1, me_wi_s])
        rw [hl1] at g1
        refine ⟨μ', ?_, ((me_fr.rf.wi (by decide)).wi (by decide)).tr g2, ?_⟩
        · rw [if_neg (fun z => e ((pu_sdb x v hx (by omega) sd).mp z)), if_neg e]
          have hg : ∀ {α : Type} {z : Option α}, me_gi (nI (fi.length + 1)) 13 z = z := ba_gi (by omega) (by decide)
          rw [← g1]
          cases sd with
          | true =>
            rw [ba_tt, if_neg (show ¬ (1 : Int32) = 0 by decide), hg, hg, hg, nI_clamp (by omega), me_wi_s]
            rfl
          | false =>
            rw [ba_ff, if_pos rfl, hg, hg, hg, nI_clamp (by omega), me_wi_s]
            rfl
        · rw [if_neg e]; exact g3
theorem pu_C_runs {N n x y : Nat} (hN : 4096 ≤ N) (h12 : n ≤ 12) (hx : x < 4096) (hy : y < 4096) {μ : me_M} {bs : List Nat} (h : ta_C μ bs) (hl : bs.length + (pu_rb (pu_rn x y n 0 [] 0 true)).length ≤ 800) : ∃ μ', fK_writeRuns N n (nI x) (nI y) μ = some μ' ∧ ta_C μ' (bs ++ pu_rb (pu_rn x y n 0 [] 0 true)) ∧ me_fr [3, 301, 7] [] μ μ' := by
  obtain ⟨μ1, a1, a2, a3⟩ := pu_C_runA (N := N) hN h12 hx hy n 0 [] 0 true N (me_wi μ 7 0 0) (by omega) (by omega) (Nat.le_refl _) (fun j hj => absurd hj (Nat.not_lt_zero _)) (by show (me_wi μ 7 0 0).1 7 0 = _; rw [me_wi_s]; rfl)
  have hok : pu_ok (pu_rn x y n 0 [] 0 true) 12 := by
    obtain ⟨q1, q2, q3⟩ := pu_rn_ok x y n 0 [] 0 true (Nat.le_refl _) (Nat.le_refl _) (fun j _ hj => absurd hj (Nat.not_lt_zero _)) (fun h => absurd h (by decide))
    exact ⟨by omega, by omega, q3⟩
  generalize pu_rn x y n 0 [] 0 true = R at *
  have hR1 := hok.1
  unfold pu_rb at hl ⊢
  rw [List.length_append] at hl
  have h0 : ta_C (me_wi μ 7 0 0) bs := by
    unfold ta_C
    rw [me_wi_c _ _ _ _ (by decide), me_wi_c _ _ _ _ (by decide)]
    exact h
  have h1 : ta_C μ1 bs := by
    unfold ta_C
    rw [a2.1 301 (by decide), a2.1 3 (by decide)]
    exact h0
  obtain ⟨μ2, b1, b2, b3⟩ := pu_C_gamma (N := N) (n := n) hN (x := R.length) (by omega) h1 (by omega)
  obtain ⟨μ3, c1, c2, c3⟩ := pu_C_runL (N := N) (n := n) hN hok R.length 0 N μ2 _ (by omega) (by omega) (fun j hj => by rw [b3.1 7 (by decide)]; exact a3 j hj) b2 (by rw [List.length_append]; omega)
  refine ⟨μ3, ?_, by rw [← List.append_assoc]; exact c2, ((me_fr.rf.wi (by decide)).tr (a2.mono (by decide) (by decide))).tr ((b3.mono (by decide) (by decide)).tr (c3.mono (by decide) (by decide)))⟩
  unfold fK_writeRuns
  show me_gi (nI 0) 13 _ = _
  rw [ba_gi (n := 13) (by decide) (by decide)]
  show fK_writeRuns_15 N n N (nI x) (nI y) (nI ([] : List Nat).length) (if true = true then 1 else 0) (nI 0) (me_wi μ 7 0 0) = _
  rw [a1]
  unfold fK_writeRuns_83
  rw [b1, ba_b]
  exact c1
/- reference -/
theorem pu_M_runL {N : Nat} (hN : 4096 ≤ N) {R : List Nat} (hR : pu_ok R 12) : ∀ (m i F : Nat) (ν : me_M) (bs : List Nat), i + m = R.length → m < F → (∀ j, j < R.length → ν.1 5 j = nI (R.getD j 0)) → ta_M ν bs → bs.length + (pu_rl R m i).length ≤ 800 → ∃ ν', fM_putRuns_78 N F (nI R.length) (nI i) ν = some ν' ∧ ta_M ν' (bs ++ pu_rl R m i) ∧ me_fr [2, 103] [] ν ν' := by
  have hR1 := hR.1
  intro m
  induction m with
  | zero =>
    intro i F ν bs hi hF hr h hl
    obtain ⟨F, rfl⟩ : ∃ f, F = f + 1 := ⟨F - 1, by omega⟩
    refine ⟨ν, ?_, by unfold pu_rl; rw [List.append_nil]; exact h, me_fr.rf⟩
    show fM_putRuns_78b N (fM_putRuns_78 N F) (nI R.length) (nI i) ν = some ν
    unfold fM_putRuns_78b fM_putRuns_117
    rw [if_pos (nI_le (by omega) (by omega))]
  | succ m ih =>
    intro i F ν bs hi hF hr h hl
    obtain ⟨F, rfl⟩ : ∃ f, F = f + 1 := ⟨F - 1, by omega⟩
    unfold pu_rl at hl ⊢
    rw [List.length_append] at hl
    have hri := pu_rge hR (i := i) (by omega)
    obtain ⟨ν1, a1, a2, a3⟩ := pu_M_gamma (N := N) hN (x := if i = 0 then R.getD i 0 else R.getD i 0 - 1) (by split <;> omega) h (by omega)
    obtain ⟨ν2, b1, b2, b3⟩ := ih (i + 1) F ν1 _ (by omega) (by omega) (fun j hj => by rw [a3.1 5 (by decide)]; exact hr j hj) a2 (by rw [List.length_append]; omega)
    refine ⟨ν2, ?_, by rw [← List.append_assoc]; exact b2, a3.tr b3⟩
    show fM_putRuns_78b N (fM_putRuns_78 N F) (nI R.length) (nI i) ν = some ν2
    unfold fM_putRuns_78b fM_putRuns_108
    rw [if_neg (nI_ge (by omega) (by omega)), ba_gi (n := 13) (i := i) (by omega) (by decide), nI_clamp (by omega), hr i (by omega), nI_1]
    by_cases e0 : i = 0
    · rw [if_pos e0] at a1
      rw [if_pos ((nI_eq0 (by omega)).mpr e0)]
      subst e0
      show me_gi (nI 0) 13 ((fM_putGamma N (ν.1 5 0) ν).bind _) = _
      rw [ba_gi (n := 13) (by decide) (by decide), hr 0 (by omega), a1, ba_b]
      exact b1
    · rw [if_neg e0] at a1
      have h1 := hR.2.2 i (by omega) (by omega)
      rw [if_neg (fun z => e0 ((nI_eq0 (by omega)).mp z)), show (1 : Int32) = nI 1 from rfl, pk_sub h1, a1, ba_b]
      exact b1
theorem pu_M_runA {N n x y : Nat} (hN : 4096 ≤ N) (h12 : n ≤ 12) (hx : x < 4096) (hy : y < 4096) : ∀ (m v : Nat) (fi : List Nat) (cu : Nat) (sd : Bool) (F : Nat) (ν : me_M), v + m = n → m < F → fi.length ≤ v → ν.1 100 0 = nI n → (∀ j, j < fi.length → ν.1 5 j = nI (fi.getD j 0)) → ∃ ν', fM_putRuns_11 N F (nI x) (nI y) (nI fi.length) (if sd = true then 1 else 0) (nI cu) (nI v) ν = fM_putRuns_70 N (nI (pu_rn x y m v fi cu sd).length) ν' ∧ me_fr [5] [] ν ν' ∧ ∀ j, j < (pu_rn x y m v fi cu sd).length → ν'.1 5 j = nI ((pu_rn x y m v fi cu sd).getD j 0) := by
  intro m
  induction m with
  | zero =>
    intro v fi cu sd F ν hv hF hl hn hr
    obtain ⟨F, rfl⟩ : ∃ f, F = f + 1 := ⟨F - 1, by omega⟩
    refine ⟨ν, ?_, me_fr.rf, hr⟩
    show fM_putRuns_11b N (fM_putRuns_11 N F) (nI x) (nI y) (nI fi.length) _ (nI cu) (nI v) ν = _
    unfold fM_putRuns_11b
    rw [hn, if_pos (nI_le (by omega) (by omega))]
    rfl
  | succ m ih =>
    intro v fi cu sd F ν hv hF hl hn hr
    obtain ⟨F, rfl⟩ : ∃ f, F = f + 1 := ⟨F - 1, by omega⟩
    show ∃ ν', fM_putRuns_11b N (fM_putRuns_11 N F) (nI x) (nI y) (nI fi.length) (if sd = true then 1 else 0) (nI cu) (nI v) ν = _ ∧ _
    unfold fM_putRuns_11b fM_putRuns_61 fM_putRuns_64
    rw [hn, if_neg (nI_ge (by omega) (by omega)), ap_bitM (by omega) (by omega), ap_bitM (by omega) (by omega), nI_1, nI_1, nI_1]
    unfold pu_rn
    cases hb : y.testBit v with
    | false =>
      rw [ba_ff, if_neg (show ¬ (0 : Int32) = 1 by decide), ba_ff]
      exact ih (v + 1) fi cu sd F ν (by omega) (by omega) (by omega) hn hr
    | true =>
      rw [ba_tt, if_pos rfl, ba_tt]
      by_cases e : x.testBit v = sd
      · rw [if_pos ((pu_sdb x v hx (by omega) sd).mpr e), if_pos e]
        exact ih (v + 1) fi (cu + 1) sd F ν (by omega) (by omega) (by omega) hn hr
      · have hl1 : (fi ++ [cu]).length = fi.length + 1 := by rw [List.length_append]; rfl
        obtain ⟨ν', g1, g2, g3⟩ := ih (v + 1) (fi ++ [cu]) 1 (!sd) F (me_wi ν 5 fi.length (nI cu)) (by omega) (by omega) (by omega) (by rw [me_wi_c _ _ _ _ (by decide)]; exact hn) (fun j hj => by
          rw [hl1] at hj
          by_cases e2 : j = fi.length
          · subst e2; rw [me_wi_s, ta_getL]
          · rw [me_wi_n _ _ _ _ e2, ta_getD (by omega)]; exact hr j (by omega))
        rw [hl1] at g1
        refine ⟨ν', ?_, (me_fr.rf.wi (by decide)).tr g2, ?_⟩
        · rw [if_neg (fun z => e ((pu_sdb x v hx (by omega) sd).mp z)), if_neg e, ba_gi (n := 13) (by omega) (by decide), nI_clamp (by omega), ← g1]
          cases sd <;> rfl
        · rw [if_neg e]; exact g3
theorem pu_M_runs {N n x y : Nat} (hN : 4096 ≤ N) (h12 : n ≤ 12) (hx : x < 4096) (hy : y < 4096) {ν : me_M} {bs : List Nat} (hn : ν.1 100 0 = nI n) (h : ta_M ν bs) (hl : bs.length + (pu_rb (pu_rn x y n 0 [] 0 true)).length ≤ 800) : ∃ ν', fM_putRuns N (nI x) (nI y) ν = some ν' ∧ ta_M ν' (bs ++ pu_rb (pu_rn x y n 0 [] 0 true)) ∧ me_fr [2, 103, 5] [] ν ν' := by
  obtain ⟨ν1, a1, a2, a3⟩ := pu_M_runA (N := N) hN h12 hx hy n 0 [] 0 true N ν (by omega) (by omega) (Nat.le_refl _) hn (fun j hj => absurd hj (Nat.not_lt_zero _))
  have hok : pu_ok (pu_rn x y n 0 [] 0 true) 12 := by
    obtain ⟨q1, q2, q3⟩ := pu_rn_ok x y n 0 [] 0 true (Nat.le_refl _) (Nat.le_refl _) (fun j _ hj => absurd hj (Nat.not_lt_zero _)) (fun h => absurd h (by decide))
    exact ⟨by omega, by omega, q3⟩
  generalize pu_rn x y n 0 [] 0 true = R at *
  have hR1 := hok.1
  unfold pu_rb at hl ⊢
  rw [List.length_append] at hl
  have h1 : ta_M ν1 bs := by
    unfold ta_M
    rw [a2.1 103 (by decide), a2.1 2 (by decide)]
    exact h
  obtain ⟨ν2, b1, b2, b3⟩ := pu_M_gamma (N := N) hN (x := R.length) (by omega) h1 (by omega)
  obtain ⟨ν3, c1, c2, c3⟩ := pu_M_runL (N := N) hN hok R.length 0 N ν2 _ (by omega) (by omega) (fun j hj => by rw [b3.1 5 (by decide)]; exact a3 j hj) b2 (by rw [List.length_append]; omega)
  refine ⟨ν3, ?_, by rw [← List.append_assoc]; exact c2, (a2.mono (by decide) (by decide)).tr ((b3.mono (by decide) (by decide)).tr (c3.mono (by decide) (by decide)))⟩
  unfold fM_putRuns
  show fM_putRuns_11 N N (nI x) (nI y) (nI ([] : List Nat).length) (if true = true then 1 else 0) (nI 0) (nI 0) ν = _
  rw [a1]
  unfold fM_putRuns_70
  rw [b1, ba_b]
  exact c1
