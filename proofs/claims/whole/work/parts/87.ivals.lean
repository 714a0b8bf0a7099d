/- intervals written: class -/
theorem pu_di_lt {s m : Nat} (h : s < 4096) : ap_di s m < 4096 := Nat.lt_of_le_of_lt (ap_di_le s m) h
theorem pu_lf_lt : ∀ (I : List (Nat × Nat)) (s : Nat), s < 4096 → pu_lf I s < 4096 := by
  intro I
  induction I with
  | nil => intro s h; exact h
  | cons p t ih => intro s h; exact ih _ (pu_di_lt h)
theorem pu_getA {L : List (Nat × Nat)} {p : Nat × Nat} {j : Nat} (hj : j < L.length) : (L ++ [p]).getD j (0, 0) = L.getD j (0, 0) := by
  simp [List.getD, List.getElem?_append_left hj]
theorem pu_getB {L : List (Nat × Nat)} {p : Nat × Nat} : (L ++ [p]).getD L.length (0, 0) = p := by
  simp [List.getD]
theorem pu_C_ivA {N n u z l : Nat} (hN : 4096 ≤ N) (h12 : n ≤ 12) (hz : z < 4096) (hl1 : 1 ≤ l) (hl9 : l ≤ 9) : ∀ (d v F : Nat) (μ : me_M) (L : List (Nat × Nat)) (s : Nat), n - v ≤ d → d < F → v ≤ n + 1 → (n ≤ v ∨ v = 0 ∨ z.testBit (v - 1) = false) → s < 4096 → L.length ≤ v → (∀ j, j < L.length → μ.1 8 j = nI (L.getD j (0, 0)).1 ∧ μ.1 9 j = nI (L.getD j (0, 0)).2) → μ.1 502 0 = nI l → ∃ μ', fK_writeIntervals_8 N n F (nI u) (nI z) (nI L.length) (nI s) (nI v) μ = fK_writeIntervals_91 N n (nI u) (nI (L ++ pu_i z l (n - v) v).length) (nI (pu_lf (pu_i z l (n - v) v) s)) μ' ∧ me_fr [8, 9] [] μ μ' ∧ ∀ j, j < (L ++ pu_i z l (n - v) v).length → μ'.1 8 j = nI ((L ++ pu_i z l (n - v) v).getD j (0, 0)).1 ∧ μ'.1 9 j = nI ((L ++ pu_i z l (n - v) v).getD j (0, 0)).2 := by
  intro d
  induction d with
  | zero =>
    intro v F μ L s hd hF hv hinv hs hL hr h502
    obtain ⟨F, rfl⟩ : ∃ f, F = f + 1 := ⟨F - 1, by omega⟩
    have e : n - v = 0 := by omega
    rw [e]
    show ∃ μ', fK_writeIntervals_8b N n (fK_writeIntervals_8 N n F) (nI u) (nI z) (nI L.length) (nI s) (nI v) μ = fK_writeIntervals_91 N n (nI u) (nI (L ++ []).length) (nI s) μ' ∧ _ ∧ ∀ j, j < (L ++ []).length → μ'.1 8 j = nI ((L ++ []).getD j (0, 0)).1 ∧ μ'.1 9 j = nI ((L ++ []).getD j (0, 0)).2
    rw [List.append_nil]
    unfold fK_writeIntervals_8b
    rw [if_pos (nI_le (by omega) (by omega))]
    exact ⟨μ, rfl, me_fr.rf, hr⟩
  | succ d ih =>
    intro v F μ L s hd hF hv hinv hs hL hr h502
    obtain ⟨F, rfl⟩ : ∃ f, F = f + 1 := ⟨F - 1, by omega⟩
    rcases Nat.lt_or_ge v n with hvn | hvn
    · show ∃ μ', fK_writeIntervals_8b N n (fK_writeIntervals_8 N n F) (nI u) (nI z) (nI L.length) (nI s) (nI v) μ = _ ∧ _
      have hrow := pu_r_le z (n - v) v
      have hend := pu_r_end z (n - v) v
      have hbit := pu_r_bit z (n - v) v
      -- the list from v on
      have hlist : pu_i z l (n - v) v = (if l ≤ pu_r z (n - v) v then [(v, pu_r z (n - v) v)] else []) ++ pu_i z l (n - (v + pu_r z (n - v) v + 1)) (v + pu_r z (n - v) v + 1) := by
        obtain ⟨m, hm⟩ : ∃ m, n - v = m + 1 := ⟨n - v - 1, by omega⟩
        have hra : pu_ra z (n - v) v = pu_r z (n - v) v := by
          unfold pu_ra
          cases hb : z.testBit v with
          | true => rw [if_pos ⟨rfl, hinv.elim (fun q => by omega) id⟩]
          | false =>
            rw [if_neg (fun q => by cases q.1), hm]
            unfold pu_r
            rw [hb, ba_ff]
        have hsk := pu_skip z hl1 (pu_r z (n - v) v) m (v + 1) (by omega) (fun i hi => by
          rw [show v + 1 + i - 1 = v + i by omega]
          exact hbit i hi)
        have : pu_i z l (n - v) v = if l ≤ pu_ra z (n - v) v then (v, pu_ra z (n - v) v) :: pu_i z l m (v + 1) else pu_i z l m (v + 1) := by rw [hm]; rfl
        rw [this, hra, hsk, show m - pu_r z (n - v) v = n - (v + pu_r z (n - v) v + 1) by omega, show v + 1 + pu_r z (n - v) v = v + pu_r z (n - v) v + 1 by omega]
        by_cases e : l ≤ pu_r z (n - v) v
        · rw [if_pos e, if_pos e]; rfl
        · rw [if_neg e, if_neg e]; rfl
      unfold fK_writeIntervals_8b fK_writeIntervals_74
      rw [if_neg (nI_ge (by omega) (by omega)), pu_rowC hN h12 hz (by omega), ba_b, pu_rowC hN h12 hz (by omega), ba_b, ba_b, h502, nI_1, nI_1, nI_add, ← Nat.add_assoc]
      have hinv' : n ≤ v + pu_r z (n - v) v + 1 ∨ v + pu_r z (n - v) v + 1 = 0 ∨ z.testBit (v + pu_r z (n - v) v + 1 - 1) = false := by
        rcases Nat.lt_or_ge (pu_r z (n - v) v) (n - v) with q | q
        · exact Or.inr (Or.inr (hend q))
        · exact Or.inl (by omega)
      rw [hlist]
      generalize pu_r z (n - v) v = c at *
      by_cases e : l ≤ c
      · rw [if_neg (nI_nlt e (by omega)), if_pos e, ba_gi (n := 12) (by omega) (by decide), ba_gi (n := 12) (by omega) (by decide), nI_clamp (by omega), pu_mask hs (by omega)]
        have hL1 : (L ++ [(v, c)]).length = L.length + 1 := by rw [List.length_append]; rfl
        obtain ⟨μ', g1, g2, g3⟩ := ih (v + c + 1) F (me_wi (me_wi μ 8 L.length (nI v)) 9 L.length (nI c)) (L ++ [(v, c)]) (ap_di s ((2 ^ c - 1) * 2 ^ v)) (by omega) (by omega) (by omega) hinv' (pu_di_lt hs) (by omega) (fun j hj => by
          rw [hL1] at hj
          by_cases e2 : j = L.length
          · subst e2
            rw [pu_getB, me_wi_s, me_wi_c _ _ _ _ (by decide), me_wi_s]
            exact ⟨rfl, rfl⟩
          · rw [pu_getA (by omega), me_wi_n _ _ _ _ e2, me_wi_c _ _ _ _ (by decide), me_wi_n _ _ _ _ e2, me_wi_c _ _ _ _ (by decide)]
            exact hr j (by omega)) (by rw [me_wi_c _ _ _ _ (by decide), me_wi_c _ _ _ _ (by decide)]; exact h502)
        rw [hL1, List.append_assoc] at g1
        rw [List.append_assoc] at g3
        exact ⟨μ', g1, ((me_fr.rf.wi (by decide)).wi (by decide)).tr g2, g3⟩
      · rw [if_pos (nI_lt (by omega) (by omega)), if_neg e]
        exact ih (v + c + 1) F μ L s (by omega) (by omega) (by omega) hinv' hs (by omega) hr h502
    · exact ih v (F + 1) μ L s (by omega) (by omega) hv hinv hs hL hr h502
theorem pu_C_ivB {N n u l s : Nat} (hN : 4096 ≤ N) (hu : u < 12) (hl9 : l ≤ 9) {I : List (Nat × Nat)} (hI : I.length ≤ 12) : ∀ (T P : List (Nat × Nat)) (q : Nat) (last : Int32) (F : Nat) (μ : me_M) (bs : List Nat), I = P ++ T → T.length < F → pu_sep l T q → (P = [] → q = 0) → (P ≠ [] → 1 ≤ q ∧ last = nI (q - 1)) → q ≤ 12 → (∀ j, j < I.length → μ.1 8 j = nI (I.getD j (0, 0)).1 ∧ μ.1 9 j = nI (I.getD j (0, 0)).2) → μ.1 502 0 = nI l → ta_C μ bs → bs.length + (pu_ib u l T q).length ≤ 800 → ∃ μ', fK_writeIntervals_105 N n F (nI u) (nI I.length) (nI s) last (nI P.length) μ = some (nI s, μ') ∧ ta_C μ' (bs ++ pu_ib u l T q) ∧ me_fr [3, 301] [] μ μ' := by
  intro T
  induction T with
  | nil =>
    intro P q last F μ bs hP hF hs h0 hq hq12 hr h502 h hl
    obtain ⟨F, rfl⟩ : ∃ f, F = f + 1 := ⟨F - 1, by omega⟩
    refine ⟨μ, ?_, by unfold pu_ib; rw [List.append_nil]; exact h, me_fr.rf⟩
    show fK_writeIntervals_105b N n (fK_writeIntervals_105 N n F) (nI u) (nI I.length) (nI s) last (nI P.length) μ = _
    unfold fK_writeIntervals_105b fK_writeIntervals_197
    rw [List.append_nil] at hP
    subst hP
    rw [if_pos (nI_le (Nat.le_refl _) (by omega))]
  | cons p t ih =>
    intro P q last F μ bs hP hF hs h0 hq hq12 hr h502 h hl
    obtain ⟨F, rfl⟩ : ∃ f, F = f + 1 := ⟨F - 1, by rw [List.length_cons] at hF; omega⟩
    obtain ⟨s1, s2, s3, s4, s5⟩ := hs
    have hPl : P.length < I.length := by rw [hP, List.length_append, List.length_cons]; omega
    have hget : I.getD P.length (0, 0) = p := by rw [hP]; simp [List.getD]
    obtain ⟨r1, r2⟩ := hr P.length hPl
    rw [hget] at r1 r2
    unfold pu_ib at hl ⊢
    rw [List.length_append, List.length_append] at hl
    have hx : (if q = 0 then pu_n p.1 u else p.1 - q - 1) ≤ 100 := by
      have := pu_nle (v := p.1) (u := u) (by omega) hu
      split <;> omega
    obtain ⟨μ1, a1, a2, a3⟩ := pu_C_gamma (N := N) (n := n) hN hx h (by omega)
    obtain ⟨μ2, b1, b2, b3⟩ := pu_C_gamma (N := N) (n := n) hN (x := p.2 - l) (by omega) a2 (by rw [List.length_append]; omega)
    have fr2 := a3.tr b3
    have hP1 : (P ++ [p]).length = P.length + 1 := by rw [List.length_append]; rfl
    obtain ⟨μ3, c1, c2, c3⟩ := ih (P ++ [p]) (p.1 + p.2) (nI (p.1 + p.2 - 1)) F μ2 _ (by rw [hP, List.append_assoc]; rfl) (by rw [List.length_cons] at hF; omega) s5 (fun e => absurd e (by simp)) (fun _ => ⟨by omega, rfl⟩) s4 (fun j hj => by rw [fr2.1 8 (by decide), fr2.1 9 (by decide)]; exact hr j hj) (by rw [fr2.1 502 (by decide)]; exact h502) b2 (by rw [List.length_append, List.length_append]; omega)
    rw [hP1] at c1
    refine ⟨μ3, ?_, by rw [← List.append_assoc, ← List.append_assoc]; exact c2, fr2.tr c3⟩
    show fK_writeIntervals_105b N n (fK_writeIntervals_105 N n F) (nI u) (nI I.length) (nI s) last (nI P.length) μ = _
    have hgi : ∀ {α : Type} {z : Option α}, me_gi (nI P.length) 12 z = z := ba_gi (by omega) (by decide)
    have tail : ((fT_putGamma N n (nI (if q = 0 then pu_n p.1 u else p.1 - q - 1)) μ).bind fun r1 => me_gi (nI P.length) 12 ((fT_putGamma N n ((r1.1 9 (nI P.length).toNatClampNeg) - (r1.1 502 0)) r1).bind fun r3 => me_gi (nI P.length) 12 (me_gi (nI P.length) 12 (fK_writeIntervals_105 N n F (nI u) (nI I.length) (nI s) (((r3.1 8 (nI P.length).toNatClampNeg) + (r3.1 9 (nI P.length).toNatClampNeg)) - (1 : Int32)) (nI P.length + (1 : Int32)) r3)))) = some (nI s, μ3) := by
      rw [a1, ba_b, hgi, nI_clamp (by omega), a3.1 9 (by decide), a3.1 502 (by decide), r2, h502, pk_sub s2, b1, ba_b, hgi, hgi, fr2.1 8 (by decide), fr2.1 9 (by decide), r1, r2, nI_add, show (nI (p.1 + p.2) - 1 : Int32) = nI (p.1 + p.2 - 1) from pk_sub (b := 1) (by omega), nI_1]
      exact c1
    unfold fK_writeIntervals_105b fK_writeIntervals_147
    rw [if_neg (nI_ge hPl (by omega)), hgi, hgi, ← tail]
    by_cases e : P = []
    · have q0 := h0 e
      rw [if_pos (show nI P.length = 0 by rw [e]; rfl), show μ.1 8 (nI P.length).toNatClampNeg = nI p.1 by rw [nI_clamp (by omega)]; exact r1, pu_nC (by omega) hu, ba_b, if_pos q0]
    · obtain ⟨q1, q2⟩ := hq e
      have hP0 : 0 < P.length := List.length_pos_iff.mpr e
      rw [if_neg (fun z => by have := (nI_eq0 (by omega)).mp z; omega), show μ.1 8 (nI P.length).toNatClampNeg = nI p.1 by rw [nI_clamp (by omega)]; exact r1, q2, pk_sub (by omega), show (2 : Int32) = nI 2 from rfl, pk_sub (by omega), if_neg (show ¬ q = 0 by omega), show p.1 - (q - 1) - 2 = p.1 - q - 1 by omega]
theorem pu_C_ivals {N n u z l : Nat} (hN : 4096 ≤ N) (h12 : n ≤ 12) (hu : u < 12) (hz : z < 4096) (hl1 : 1 ≤ l) (hl9 : l ≤ 9) {μ : me_M} {bs : List Nat} (h502 : μ.1 502 0 = nI l) (h : ta_C μ bs) (hl : bs.length + (pu_g (pu_i z l n 0).length ++ pu_ib u l (pu_i z l n 0) 0).length ≤ 800) : ∃ μ', fK_writeIntervals N n (nI u) (nI z) μ = some (nI (pu_lf (pu_i z l n 0) z), μ') ∧ ta_C μ' (bs ++ (pu_g (pu_i z l n 0).length ++ pu_ib u l (pu_i z l n 0) 0)) ∧ me_fr [3, 301, 8, 9] [] μ μ' := by
  obtain ⟨μ1, a1, a2, a3⟩ := pu_C_ivA (N := N) (n := n) (u := u) hN h12 hz hl1 hl9 n 0 N μ [] z (by omega) (by omega) (by omega) (Or.inr (Or.inl rfl)) hz (Nat.le_refl _) (fun j hj => absurd hj (Nat.not_lt_zero _)) h502
  rw [Nat.sub_zero, List.nil_append] at a1 a3
  have hsep := pu_i_sep z hl1 n 0 0 (by omega) (fun e => absurd rfl e)
  have hlen := pu_i_len z l n 0
  generalize pu_i z l n 0 = I at *
  rw [List.length_append] at hl
  have h1 : ta_C μ1 bs := by
    unfold ta_C
    rw [a2.1 301 (by decide), a2.1 3 (by decide)]
    exact h
  obtain ⟨μ2, b1, b2, b3⟩ := pu_C_gamma (N := N) (n := n) hN (x := I.length) (by omega) h1 (by omega)
  obtain ⟨μ3, c1, c2, c3⟩ := pu_C_ivB (N := N) (n := n) (u := u) (l := l) (s := pu_lf I z) hN hu hl9 (I := I) (by omega) I [] 0 0 N μ2 _ rfl (by omega) hsep (fun _ => rfl) (fun e => absurd rfl e) (by omega) (fun j hj => by rw [b3.1 8 (by decide), b3.1 9 (by decide)]; exact a3 j hj) (by rw [b3.1 502 (by decide), a2.1 502 (by decide)]; exact h502) b2 (by rw [List.length_append]; omega)
  refine ⟨μ3, ?_, by rw [← List.append_assoc]; exact c2, (a2.mono (by decide) (by decide)).tr ((b3.mono (by decide) (by decide)).tr (c3.mono (by decide) (by decide)))⟩
  unfold fK_writeIntervals
  show fK_writeIntervals_8 N n N (nI u) (nI z) (nI ([] : List (Nat × Nat)).length) (nI z) (nI 0) μ = _
  rw [a1]
  unfold fK_writeIntervals_91
  rw [b1, ba_b]
  exact c1
