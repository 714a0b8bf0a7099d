/- intervals written: reference -/
theorem pu_M_ivA {N n u z l : Nat} {ν : me_M} (hN : 4096 ≤ N) (h12 : n ≤ 12) (hz : z < 4096) (hl9 : l ≤ 9) (hn : ν.1 100 0 = nI n) (h107 : ν.1 107 0 = nI l) : ∀ (m v F c : Nat), v + m = n → m < F → fM_putRest_15 N F (nI u) (nI z) (nI z) (nI c) (nI v) ν = fM_putRest_54 N (nI u) (nI z) (nI z) (nI (c + (pu_i z l m v).length)) ν := by
  intro m
  induction m with
  | zero =>
    intro v F c hv hF
    obtain ⟨F, rfl⟩ : ∃ f, F = f + 1 := ⟨F - 1, by omega⟩
    show fM_putRest_15b N (fM_putRest_15 N F) (nI u) (nI z) (nI z) (nI c) (nI v) ν = _
    unfold fM_putRest_15b
    rw [hn, if_pos (nI_le (by omega) (by omega))]
    rfl
  | succ m ih =>
    intro v F c hv hF
    obtain ⟨F, rfl⟩ : ∃ f, F = f + 1 := ⟨F - 1, by omega⟩
    show fM_putRest_15b N (fM_putRest_15 N F) (nI u) (nI z) (nI z) (nI c) (nI v) ν = _
    have hle := pu_ra_le z (m + 1) v
    unfold fM_putRest_15b fM_putRest_45 pu_i
    rw [pu_rowM hN h12 hn hz (by omega), show n - v = m + 1 by omega, hn, if_neg (nI_ge (by omega) (by omega)), ba_b, h107, nI_1, nI_1]
    by_cases e : l ≤ pu_ra z (m + 1) v
    · rw [if_neg (nI_nlt e (by omega)), if_pos e, ih (v + 1) F (c + 1) (by omega) (by omega), List.length_cons, show c + 1 + (pu_i z l m (v + 1)).length = c + ((pu_i z l m (v + 1)).length + 1) by omega]
    · rw [if_pos (nI_lt (by omega) (by omega)), if_neg e, show (0 : Int32) = nI 0 from rfl, nI_add, Nat.add_zero, ih (v + 1) F c (by omega) (by omega)]
theorem pu_M_ivB {N n u z l : Nat} (hN : 4096 ≤ N) (h12 : n ≤ 12) (hu : u < 12) (hz : z < 4096) (hl1 : 1 ≤ l) (hl9 : l ≤ 9) : ∀ (m v q s F : Nat) (ν : me_M) (bs : List Nat), v + m = n → m < F → q ≤ 12 → pu_sep l (pu_i z l m v) q → s < 4096 → ν.1 100 0 = nI n → ν.1 107 0 = nI l → ta_M ν bs → bs.length + (pu_ib u l (pu_i z l m v) q).length ≤ 800 → ∃ ν', fM_putRest_66 N F (nI u) (nI z) (nI s) (nI q - 1) (nI v) ν = fM_putRest_159 N (nI u) (nI (pu_lf (pu_i z l m v) s)) ν' ∧ ta_M ν' (bs ++ pu_ib u l (pu_i z l m v) q) ∧ me_fr [2, 103] [] ν ν' := by
  intro m
  induction m with
  | zero =>
    intro v q s F ν bs hv hF hq hsep hs hn h107 h hl
    obtain ⟨F, rfl⟩ : ∃ f, F = f + 1 := ⟨F - 1, by omega⟩
    refine ⟨ν, ?_, by show ta_M ν (bs ++ []); rw [List.append_nil]; exact h, me_fr.rf⟩
    show fM_putRest_66b N (fM_putRest_66 N F) (nI u) (nI z) (nI s) (nI q - 1) (nI v) ν = _
    unfold fM_putRest_66b
    rw [hn, if_pos (nI_le (by omega) (by omega))]
    rfl
  | succ m ih =>
    intro v q s F ν bs hv hF hq hsep hs hn h107 h hl
    obtain ⟨F, rfl⟩ : ∃ f, F = f + 1 := ⟨F - 1, by omega⟩
    show ∃ ν', fM_putRest_66b N (fM_putRest_66 N F) (nI u) (nI z) (nI s) (nI q - 1) (nI v) ν = _ ∧ _
    have hle := pu_ra_le z (m + 1) v
    unfold fM_putRest_66b fM_putRest_153 fM_putRest_116 fM_putRest_153
    rw [pu_rowM hN h12 hn hz (by omega), show n - v = m + 1 by omega, hn, if_neg (nI_ge (by omega) (by omega)), ba_b, h107, nI_1]
    unfold pu_i at hl hsep ⊢
    by_cases e : l ≤ pu_ra z (m + 1) v
    · rw [if_pos e] at hl hsep ⊢
      rw [if_neg (nI_nlt e (by omega))]
      obtain ⟨s1, s2, s3, s4, s5⟩ := hsep
      dsimp only at s1 s2 s3 s4 s5
      unfold pu_ib at hl ⊢
      dsimp only at hl ⊢
      rw [List.length_append, List.length_append] at hl
      generalize pu_ra z (m + 1) v = c at *
      have hx : (if q = 0 then pu_n v u else v - q - 1) ≤ 100 := by
        have := pu_nle (v := v) (u := u) (by omega) hu
        split <;> omega
      obtain ⟨ν1, a1, a2, a3⟩ := pu_M_gamma (N := N) hN hx h (by omega)
      obtain ⟨ν2, b1, b2, b3⟩ := pu_M_gamma (N := N) hN (x := c - l) (by omega) a2 (by rw [List.length_append]; omega)
      have fr2 := a3.tr b3
      obtain ⟨ν3, c1, c2, c3⟩ := ih (v + 1) (v + c) (ap_di s ((2 ^ c - 1) * 2 ^ v)) F ν2 _ (by omega) (by omega) s4 s5 (pu_di_lt hs) (by rw [fr2.1 100 (by decide)]; exact hn) (by rw [fr2.1 107 (by decide)]; exact h107) b2 (by rw [List.length_append, List.length_append]; omega)
      refine ⟨ν3, ?_, by rw [← List.append_assoc, ← List.append_assoc]; exact c2, fr2.tr c3⟩
      have tail : ((fM_putGamma N (nI (if q = 0 then pu_n v u else v - q - 1)) ν).bind fun r6 => (fM_putGamma N (nI c - (r6.1 107 0)) r6).bind fun r7 => fM_putRest_66 N F (nI u) (nI z) (nI s &&& (((((1 : Int32) <<< (nI c &&& 31)) - (1 : Int32)) <<< (nI v &&& 31)) ^^^ (-1 : Int32))) ((nI v + nI c) - (1 : Int32)) (nI (v + 1)) r7) = fM_putRest_159 N (nI u) (nI (pu_lf ((v, c) :: pu_i z l m (v + 1)) s)) ν3 := by
        rw [a1, ba_b, a3.1 107 (by decide), h107, pk_sub s2, b1, ba_b, pu_mask hs (by omega), nI_add]
        exact c1
      rw [← tail]
      rcases Nat.eq_zero_or_pos q with e0 | e0
      · subst e0
        rw [if_neg pu_m1, pu_nM (by omega) hu, ba_b, if_pos rfl]
      · obtain ⟨q, rfl⟩ : ∃ c, q = c + 1 := ⟨q - 1, by omega⟩
        rw [nI_pred, if_pos (nI_pos' (by omega)), if_neg (show ¬ q + 1 = 0 by omega), pk_sub (by omega), show (2 : Int32) = nI 2 from rfl, pk_sub (by omega), show v - q - 2 = v - (q + 1) - 1 by omega]
    · rw [if_neg e] at hl hsep ⊢
      rw [if_pos (nI_lt (by omega) (by omega))]
      exact ih (v + 1) q s F ν bs (by omega) (by omega) hq hsep hs hn h107 h hl
/- the rest of a record -/
def pu_rest (u z l k n : Nat) : List Nat := if z = 0 then [] else if l = 0 then pu_s u z k n 0 0 else (pu_g (pu_i z l n 0).length ++ pu_ib u l (pu_i z l n 0) 0) ++ pu_s u (pu_lf (pu_i z l n 0) z) k n 0 0
theorem pu_M_rest {N n u z l k : Nat} (hN : 4096 ≤ N) (h12 : n ≤ 12) (hu : u < 12) (hz : z < 4096) (h0 : z ≠ 0) (hl9 : l ≤ 9) (hk : 1 ≤ k) (hk4 : k ≤ 4) {ν : me_M} {bs : List Nat} (hn : ν.1 100 0 = nI n) (h107 : ν.1 107 0 = nI l) (h108 : ν.1 108 0 = nI k) (h : ta_M ν bs) (hl : bs.length + (pu_rest u z l k n).length ≤ 800) : ∃ ν', fM_putRest N (nI u) (nI z) ν = some ν' ∧ ta_M ν' (bs ++ pu_rest u z l k n) ∧ me_fr [2, 103] [] ν ν' := by
  unfold pu_rest at hl ⊢
  rw [if_neg h0] at hl ⊢
  unfold fM_putRest
  rw [h107]
  by_cases e : l = 0
  · rw [if_pos e] at hl ⊢
    rw [if_pos (show nI l ≤ 0 by rw [e]; decide)]
    exact pu_M_sing hN h12 hu hz hk hk4 n 0 0 N ν bs (by omega) (by omega) (Nat.le_refl _) hn h108 h hl
  · rw [if_neg e] at hl ⊢
    rw [if_neg (nI_nle (by omega) (by omega))]
    have hA := pu_M_ivA (N := N) (n := n) (u := u) (z := z) (l := l) (ν := ν) hN h12 hz hl9 hn h107 n 0 N 0 (by omega) (by omega)
    rw [Nat.zero_add] at hA
    have hsep := pu_i_sep z (show 1 ≤ l by omega) n 0 0 (by omega) (fun e => absurd rfl e)
    have hlen := pu_i_len z l n 0
    rw [List.length_append, List.length_append] at hl
    obtain ⟨ν1, a1, a2, a3⟩ := pu_M_gamma (N := N) hN (x := (pu_i z l n 0).length) (by omega) h (by omega)
    obtain ⟨ν2, b1, b2, b3⟩ := pu_M_ivB (N := N) (n := n) (u := u) (z := z) (l := l) hN h12 hu hz (by omega) hl9 n 0 0 z N ν1 _ (by omega) (by omega) (by omega) hsep hz (by rw [a3.1 100 (by decide)]; exact hn) (by rw [a3.1 107 (by decide)]; exact h107) a2 (by rw [List.length_append]; omega)
    have fr2 := a3.tr b3
    obtain ⟨ν3, c1, c2, c3⟩ := pu_M_sing (N := N) (n := n) (u := u) (z := pu_lf (pu_i z l n 0) z) (k := k) hN h12 hu (pu_lf_lt _ _ hz) hk hk4 n 0 0 N ν2 _ (by omega) (by omega) (Nat.le_refl _) (by rw [fr2.1 100 (by decide)]; exact hn) (by rw [fr2.1 108 (by decide)]; exact h108) b2 (by rw [List.length_append, List.length_append]; omega)
    refine ⟨ν3, ?_, by rw [← List.append_assoc, ← List.append_assoc]; exact c2, fr2.tr c3⟩
    show fM_putRest_15 N N (nI u) (nI z) (nI z) (nI 0) (nI 0) ν = _
    rw [hA]
    unfold fM_putRest_54
    rw [a1, ba_b]
    show fM_putRest_66 N N (nI u) (nI z) (nI z) (nI 0 - 1) (nI 0) ν1 = _
    rw [b1]
    exact c1
/- the same, class -/
theorem pu_sing0 (u k : Nat) : ∀ m v b, pu_s u 0 k m v b = [] := by
  intro m
  induction m with
  | zero => intro v b; rfl
  | succ m ih =>
    intro v b
    unfold pu_s
    rw [Nat.zero_testBit, ba_ff]
    exact ih _ _
theorem pu_C_rest {N n u z l k : Nat} (hN : 4096 ≤ N) (h12 : n ≤ 12) (hu : u < 12) (hz : z < 4096) (hl9 : l ≤ 9) (hk : 1 ≤ k) (hk4 : k ≤ 4) {μ : me_M} {bs : List Nat} (h502 : μ.1 502 0 = nI l) (h503 : μ.1 503 0 = nI k) (h : ta_C μ bs) (hl : bs.length + (pu_rest u z l k n).length ≤ 800) : ∃ μ', fK_writeRecord_70 N n (nI u) (nI z) μ = some μ' ∧ ta_C μ' (bs ++ pu_rest u z l k n) ∧ me_fr [3, 301, 8, 9] [] μ μ' := by
  unfold pu_rest at hl ⊢
  unfold fK_writeRecord_70 fK_writeRecord_91 fK_writeSingles
  rw [h502]
  have sing : ∀ (w : Nat) (m : me_M) (cs : List Nat), w < 4096 → m.1 503 0 = nI k → ta_C m cs → cs.length + (pu_s u w k n 0 0).length ≤ 800 → ∃ m', ((fK_writeSingles_5 N n N (nI u) (nI w) (-1 : Int32) (0 : Int32) m).bind fun r1 => some r1) = some m' ∧ ta_C m' (cs ++ pu_s u w k n 0 0) ∧ me_fr [3, 301] [] m m' := by
    intro w m cs hw h5 h hl
    obtain ⟨m', a1, a2, a3⟩ := pu_C_sing (N := N) (n := n) hN h12 hu hw hk hk4 n 0 0 N m cs (by omega) (by omega) (Nat.le_refl _) h5 h hl
    refine ⟨m', ?_, a2, a3⟩
    show ((fK_writeSingles_5 N n N (nI u) (nI w) (nI 0 - 1) (nI 0) m).bind fun r1 => some r1) = some m'
    rw [a1]
    rfl
  by_cases e0 : z = 0
  · subst e0
    rw [if_pos rfl] at hl ⊢
    rw [if_pos nI_0]
    obtain ⟨m', a1, a2, a3⟩ := sing 0 μ bs (by decide) h503 h (by rw [pu_sing0]; exact hl)
    rw [pu_sing0] at a2
    exact ⟨m', a1, a2, a3.mono (by decide) (by decide)⟩
  · rw [if_neg e0] at hl ⊢
    rw [if_neg (fun q => e0 ((nI_eq0 (by omega)).mp q))]
    by_cases e : l = 0
    · rw [if_pos e] at hl ⊢
      rw [if_pos (show nI l ≤ 0 by rw [e]; decide)]
      obtain ⟨m', a1, a2, a3⟩ := sing z μ bs hz h503 h hl
      exact ⟨m', a1, a2, a3.mono (by decide) (by decide)⟩
    · rw [if_neg e] at hl ⊢
      rw [if_neg (nI_nle (by omega) (by omega))]
      rw [List.length_append] at hl
      obtain ⟨μ1, a1, a2, a3⟩ := pu_C_ivals (N := N) (n := n) (u := u) (z := z) (l := l) hN h12 hu hz (by omega) hl9 h502 h (by omega)
      obtain ⟨m', b1, b2, b3⟩ := sing _ μ1 _ (pu_lf_lt (pu_i z l n 0) z hz) (by rw [a3.1 503 (by decide)]; exact h503) a2 (by rw [List.length_append]; omega)
      rw [a1, ba_b]
      exact ⟨m', b1, by rw [← List.append_assoc]; exact b2, a3.tr (b3.mono (by decide) (by decide))⟩
