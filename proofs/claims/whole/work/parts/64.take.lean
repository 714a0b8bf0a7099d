/- taking nodes: the class takes a set, the reference one node after the other -/
def te_T (T L X : Nat) : Nat := if T = 1 ∨ L &&& X ≠ 0 then 1 else 0
theorem te_T2 (T L X : Nat) : te_T T L X < 2 := by
  unfold te_T
  by_cases h : T = 1 ∨ L &&& X ≠ 0
  · rw [if_pos h]; decide
  · rw [if_neg h]; decide
theorem te_any {N n : Nat} {x : Int32} {μ : me_M} : ∃ μ', fD_take N n x μ = some μ' ∧ me_fr [1211, 1212, 1213] [] μ μ' := by
  obtain ⟨r, hr⟩ : ∃ r, fJ_bitCount N x = some r := ⟨_, rfl⟩
  have go : ∀ s1 : Int32, s1 = 0 ∨ s1 = 1 → ∃ μ', fD_take_22 N n x s1 μ = some μ' ∧ me_fr [1211, 1212, 1213] [] μ μ' := by
    intro s1 hs
    unfold fD_take_22
    rw [hr, ba_b]
    rcases hs with rfl | rfl
    · rw [ba_gz0]; exact ⟨_, rfl, ((me_fr.rf.wi (by decide)).wi (by decide)).wi (by decide)⟩
    · rw [ba_gz1]; exact ⟨_, rfl, ((me_fr.rf.wi (by decide)).wi (by decide)).wi (by decide)⟩
  unfold fD_take fD_take_17
  by_cases h : μ.1 1213 0 = 0
  · rw [if_pos h]
    by_cases g : (μ.1 1211 0) &&& x = 0
    · rw [if_pos g]; exact go 0 (Or.inl rfl)
    · rw [if_neg g]; exact go 1 (Or.inr rfl)
  · rw [if_neg h]; exact go 1 (Or.inr rfl)
theorem te_C {N n L T X : Nat} {μ : me_M} (hL : L < 4096) (hX : X < 4096) (hT : T < 2) (e1 : μ.1 1211 0 = nI L) (e2 : μ.1 1213 0 = nI T) : ∃ μ', fD_take N n (nI X) μ = some μ' ∧ me_fr [1211, 1212, 1213] [] μ μ' ∧ μ'.1 1211 0 = nI (L ||| X) ∧ μ'.1 1213 0 = nI (te_T T L X) ∧ μ'.1 1212 0 = μ.1 1212 0 - nI (st_cn X 12) := by
  have go : ∀ z : Nat, z < 2 → ∃ μ', fD_take_22 N n (nI X) (nI z) μ = some μ' ∧ me_fr [1211, 1212, 1213] [] μ μ' ∧ μ'.1 1211 0 = nI (L ||| X) ∧ μ'.1 1213 0 = nI z ∧ μ'.1 1212 0 = μ.1 1212 0 - nI (st_cn X 12) := by
    intro z hz
    unfold fD_take_22
    rw [st_bc hX, ba_b]
    have hg : ∀ {α : Type} {k : Option α}, me_gz (nI z) k = k := fun {α k} => by
      have : z = 0 ∨ z = 1 := by omega
      rcases this with rfl | rfl
      · exact ba_gz0
      · exact ba_gz1
    rw [hg]
    refine ⟨_, rfl, ((me_fr.rf.wi (by decide)).wi (by decide)).wi (by decide), ?_, ?_, ?_⟩
    · rw [me_wi_c _ _ _ _ (by decide), me_wi_s, me_wi_c _ _ _ _ (by decide), e1, ap_or (by omega) (by omega)]
    · rw [me_wi_c _ _ _ _ (by decide), me_wi_c _ _ _ _ (by decide), me_wi_s]
    · rw [me_wi_s, me_wi_c _ _ _ _ (by decide), me_wi_c _ _ _ _ (by decide)]
  unfold fD_take fD_take_17
  rw [e1, e2]
  have hT2 : T = 0 ∨ T = 1 := by omega
  rcases hT2 with rfl | rfl
  · rw [if_pos nI_0, ap_and (by omega) (by omega)]
    by_cases g : L &&& X = 0
    · rw [if_pos (by rw [g]; rfl)]
      have := go 0 (by decide)
      rwa [show te_T 0 L X = 0 from if_neg (fun q => q.elim (by omega) (fun z => z g))]
    · rw [if_neg (fun q => g ((nI_eq0 (Nat.lt_of_le_of_lt Nat.and_le_left (by omega))).mp q))]
      have := go 1 (by decide)
      rwa [show te_T 0 L X = 1 from if_pos (Or.inr g)]
  · rw [if_neg (by decide)]
    have := go 1 (by decide)
    rwa [show te_T 1 L X = 1 from if_pos (Or.inl rfl)]
theorem te_M {N L T v : Nat} {ν : me_M} (hL : L < 4096) (hv : v < 12) (hT : T < 2) (e1 : ν.1 113 0 = nI L) (e2 : ν.1 114 0 = nI T) : ∃ ν', fM_take N (nI v) ν = some ν' ∧ me_fr [113, 114] [] ν ν' ∧ ν'.1 113 0 = nI (L ||| 2 ^ v) ∧ ν'.1 114 0 = nI (if T = 1 ∨ L.testBit v = true then 1 else 0) := by
  have hp : 2 ^ v ≤ 2048 := Nat.pow_le_pow_right (n := 2) (i := v) (j := 11) (by decide) (by omega)
  have go : ∀ z : Nat, z < 2 → ∃ ν', fM_take_25 N (nI v) (nI z) ν = some ν' ∧ me_fr [113, 114] [] ν ν' ∧ ν'.1 113 0 = nI (L ||| 2 ^ v) ∧ ν'.1 114 0 = nI z := by
    intro z hz
    unfold fM_take_25
    have hg : ∀ {α : Type} {k : Option α}, me_gz (nI z) k = k := fun {α k} => by
      have : z = 0 ∨ z = 1 := by omega
      rcases this with rfl | rfl
      · exact ba_gz0
      · exact ba_gz1
    rw [hg]
    refine ⟨_, rfl, (me_fr.rf.wi (by decide)).wi (by decide), ?_, ?_⟩
    · rw [me_wi_s, me_wi_c _ _ _ _ (by decide), e1, ap_shl1 v (by omega), ap_or (by omega) (by omega)]
    · rw [me_wi_c _ _ _ _ (by decide), me_wi_s]
  unfold fM_take fM_take_20
  rw [e1, e2]
  have hT2 : T = 0 ∨ T = 1 := by omega
  rcases hT2 with rfl | rfl
  · rw [if_pos nI_0, ap_bitM (by omega) (by omega)]
    cases hb : L.testBit v with
    | true =>
      rw [ba_tt, if_pos rfl, if_pos (Or.inr rfl)]
      exact go 1 (by decide)
    | false =>
      rw [ba_ff, if_neg (by decide), if_neg (by decide)]
      exact go 0 (by decide)
  · rw [if_neg (by decide), if_pos (Or.inl rfl)]
    exact go 1 (by decide)
/- one node more -/
theorem te_step {T L X v : Nat} (hX : X.testBit v = false) : (if te_T T L X = 1 ∨ (L ||| X).testBit v = true then 1 else 0) = te_T T L (X ||| 2 ^ v) := by
  have h1 : (L &&& (X ||| 2 ^ v) ≠ 0) ↔ (L &&& X ≠ 0 ∨ L.testBit v = true) := by
    constructor
    · intro h
      by_cases g : L.testBit v = true
      · exact Or.inr g
      · refine Or.inl (fun e => h ?_)
        apply Nat.eq_of_testBit_eq
        intro i
        have ei : (L &&& X).testBit i = false := by rw [e]; exact Nat.zero_testBit i
        rw [Nat.testBit_and] at ei
        rw [Nat.testBit_and, Nat.testBit_or, Nat.zero_testBit, Nat.testBit_two_pow]
        by_cases hi : v = i
        · subst hi
          simp at g
          simp [g]
        · simp [hi]
          simpa using ei
    · intro h e
      rcases h with h | h
      · apply h
        apply Nat.eq_of_testBit_eq
        intro i
        have ei : (L &&& (X ||| 2 ^ v)).testBit i = false := by rw [e]; exact Nat.zero_testBit i
        rw [Nat.testBit_and, Nat.testBit_or] at ei
        rw [Nat.testBit_and, Nat.zero_testBit]
        revert ei
        cases L.testBit i <;> cases X.testBit i <;> simp
      · have ei : (L &&& (X ||| 2 ^ v)).testBit v = false := by rw [e]; exact Nat.zero_testBit v
        rw [Nat.testBit_and, Nat.testBit_or, Nat.testBit_two_pow, h] at ei
        simp at ei
  rw [Nat.testBit_or, hX, Bool.or_false]
  unfold te_T
  by_cases a : T = 1
  · rw [if_pos (Or.inl a), if_pos (Or.inl rfl), if_pos (Or.inl a)]
  · by_cases b : L &&& X ≠ 0
    · rw [if_pos (Or.inr b), if_pos (Or.inl rfl), if_pos (Or.inr (h1.mpr (Or.inl b)))]
    · rw [if_neg (show ¬ (T = 1 ∨ L &&& X ≠ 0) from fun q => q.elim a b)]
      by_cases c : L.testBit v = true
      · rw [if_pos (Or.inr c), if_pos (Or.inr (h1.mpr (Or.inr c)))]
      · rw [if_neg (show ¬ (0 = 1 ∨ L.testBit v = true) from fun q => q.elim (by omega) c), if_neg (fun q => q.elim a (fun z => (h1.mp z).elim b c))]
/- low bits -/
theorem te_low1 {S v : Nat} (h : S.testBit v = true) : S % 2 ^ (v + 1) = S % 2 ^ v ||| 2 ^ v := by
  apply Nat.eq_of_testBit_eq
  intro i
  rw [Nat.testBit_mod_two_pow, Nat.testBit_or, Nat.testBit_mod_two_pow, Nat.testBit_two_pow]
  by_cases hi : i = v
  · subst hi; simp [h]
  · by_cases hl : i < v
    · simp [hl, Ne.symm hi, show i < v + 1 by omega]
    · simp [hl, Ne.symm hi, show ¬ i < v + 1 by omega]
theorem te_low0 {S v : Nat} (h : S.testBit v = false) : S % 2 ^ (v + 1) = S % 2 ^ v := by
  apply Nat.eq_of_testBit_eq
  intro i
  rw [Nat.testBit_mod_two_pow, Nat.testBit_mod_two_pow]
  by_cases hi : i = v
  · subst hi; simp [h]
  · by_cases hl : i < v
    · simp [hl, show i < v + 1 by omega]
    · simp [hl, show ¬ i < v + 1 by omega]
theorem te_lowb (S v : Nat) : (S % 2 ^ v).testBit v = false := by
  rw [Nat.testBit_mod_two_pow]; simp
theorem te_or0 (L : Nat) : L ||| 0 = L := Nat.or_zero L
/- copy -/
theorem te_copy {N n y a b L T : Nat} {ν : me_M} (hN : 4096 ≤ N) (h12 : n ≤ 12) (hn : ν.1 100 0 = nI n) (hy : y < 2 ^ n) (hL : L < 2 ^ n) (hT : T < 2) (ha : a < 2 ^ 31) (hb : b < 2 ^ 31) (e1 : ν.1 113 0 = nI L) (e2 : ν.1 114 0 = nI T) : ∃ ν', fM_copy N (nI y) (nI a) (nI b) ν = some ν' ∧ me_fr [113, 114] [] ν ν' ∧ ν'.1 113 0 = nI (L ||| ap_di (st_ge y a) (st_ge y b)) ∧ ν'.1 114 0 = nI (te_T T L (ap_di (st_ge y a) (st_ge y b))) := by
  have hp := dr_pow h12
  have hS : ∀ v, v < 12 → (ap_di (st_ge y a) (st_ge y b)).testBit v = (decide (y / 2 ^ v % 2 = 1) && decide (a ≤ st_cn y v) && !decide (b ≤ st_cn y v)) := by
    intro v hv
    have h1 := (st_ge_bit (x := y) (by omega) a v hv).1
    have h2 := (st_ge_bit (x := y) (by omega) b v hv).1
    rw [ap_di_bit _ _ _ (by omega), ba_tb, ba_tb, h1, h2]
    by_cases c1 : y / 2 ^ v % 2 = 1 <;> by_cases c2 : a ≤ st_cn y v <;> by_cases c3 : b ≤ st_cn y v <;> simp [c1, c2, c3]
  have hSle : ap_di (st_ge y a) (st_ge y b) ≤ y := Nat.le_trans (ap_di_le _ _) (st_ge_le _ _)
  generalize ap_di (st_ge y a) (st_ge y b) = S at hS hSle
  have hlow : ∀ v, S % 2 ^ v < 2 ^ n := fun v => Nat.lt_of_le_of_lt (Nat.mod_le _ _) (by omega)
  refine lp_g (fun o => ∃ ν', o = some ν' ∧ me_fr [113, 114] [] ν ν' ∧ ν'.1 113 0 = nI (L ||| S) ∧ ν'.1 114 0 = nI (te_T T L S)) (fun F v (s : Int32 × me_M) => fM_copy_6 N F (nI y) (nI a) (nI b) s.1 (nI v) s.2) (fun v s => s.1 = nI (st_cn y v) ∧ me_fr [113, 114] [] ν s.2 ∧ s.2.1 113 0 = nI (L ||| S % 2 ^ v) ∧ s.2.1 114 0 = nI (te_T T L (S % 2 ^ v))) n ?_ ?_ n N 0 (0, ν) (by omega) (by omega) ?_
  · rintro F v ⟨k, s⟩ hv ⟨i1, i2, i3, i4⟩ ih
    show ∃ ν', fM_copy_6b N (fM_copy_6 N F) (nI y) (nI a) (nI b) k (nI v) s = some ν' ∧ _
    dsimp only at i1 i2 i3 i4
    subst i1
    have hn' : s.1 100 0 = nI n := by rw [i2.1 100 (by decide)]; exact hn
    have hcl := st_cn_le y v
    unfold fM_copy_6b fM_copy_43 fM_copy_46
    rw [hn', if_neg (nI_ge hv (by omega)), ba_bit (by omega) (by omega), nI_1, nI_1]
    have hb2 : y / 2 ^ v % 2 < 2 := Nat.mod_lt _ (by decide)
    have hSv := hS v (by omega)
    by_cases c1 : y / 2 ^ v % 2 = 1
    · have hc1 : st_cn y (v + 1) = st_cn y v + 1 := by show st_cn y v + y / 2 ^ v % 2 = _; rw [c1]
      rw [c1, if_pos (show nI 1 = 1 from rfl)]
      by_cases c2 : st_cn y v < a
      · rw [if_pos (nI_lt c2 (by omega))]
        have hf : S.testBit v = false := by rw [hSv]; simp [show ¬ a ≤ st_cn y v by omega]
        exact ih (nI (st_cn y v + 1), s) ⟨by rw [hc1], i2, by rw [te_low0 hf]; exact i3, by rw [te_low0 hf]; exact i4⟩
      · rw [if_neg (nI_nlt (by omega) (by omega))]
        by_cases c3 : b ≤ st_cn y v
        · rw [if_pos (nI_le c3 (by omega))]
          have hf : S.testBit v = false := by rw [hSv]; simp [c3]
          exact ih (nI (st_cn y v + 1), s) ⟨by rw [hc1], i2, by rw [te_low0 hf]; exact i3, by rw [te_low0 hf]; exact i4⟩
        · have hf : S.testBit v = true := by rw [hSv]; simp [c1, c3]; omega
          have hLS : L ||| S % 2 ^ v < 2 ^ n := Nat.or_lt_two_pow hL (hlow v)
          obtain ⟨s', g1, g2, g3, g4⟩ := te_M (N := N) (v := v) (by omega) (by omega) (te_T2 T L (S % 2 ^ v)) i3 i4
          rw [if_neg (nI_ge (by omega) (by omega)), g1, ba_b]
          refine ih (nI (st_cn y v + 1), s') ⟨by rw [hc1], i2.tr g2, ?_, ?_⟩
          · rw [te_low1 hf, ← Nat.or_assoc]; exact g3
          · rw [te_low1 hf, ← te_step (te_lowb S v)]; exact g4
    · have c0 : y / 2 ^ v % 2 = 0 := by omega
      have hc1 : st_cn y (v + 1) = st_cn y v := by show st_cn y v + y / 2 ^ v % 2 = _; rw [c0]; rfl
      have hf : S.testBit v = false := by rw [hSv]; simp [c1]
      rw [c0, if_neg (by decide)]
      exact ih (nI (st_cn y v), s) ⟨by rw [hc1], i2, by rw [te_low0 hf]; exact i3, by rw [te_low0 hf]; exact i4⟩
  · rintro F ⟨k, s⟩ ⟨i1, i2, i3, i4⟩
    show ∃ ν', fM_copy_6b N (fM_copy_6 N F) (nI y) (nI a) (nI b) k (nI n) s = some ν' ∧ _
    dsimp only at i1 i2 i3 i4
    have hn' : s.1 100 0 = nI n := by rw [i2.1 100 (by decide)]; exact hn
    unfold fM_copy_6b fM_copy_52
    rw [hn', if_pos (nI_le (Nat.le_refl _) (by omega))]
    rw [Nat.mod_eq_of_lt (by omega)] at i3 i4
    exact ⟨s, rfl, i2, i3, i4⟩
  · refine ⟨rfl, me_fr.rf, ?_, ?_⟩
    · show ν.1 113 0 = nI (L ||| S % 2 ^ 0)
      rw [Nat.pow_zero, Nat.mod_one, Nat.or_zero]; exact e1
    · show ν.1 114 0 = nI (te_T T L (S % 2 ^ 0))
      rw [Nat.pow_zero, Nat.mod_one]
      unfold te_T
      rw [Nat.and_zero]
      have hT2 : T = 0 ∨ T = 1 := by omega
      rcases hT2 with rfl | rfl
      · rw [if_neg (by simp)]; exact e2
      · rw [if_pos (Or.inl rfl)]; exact e2
