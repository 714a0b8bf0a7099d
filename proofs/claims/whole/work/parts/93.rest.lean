/- a record, as both write it -/
theorem pv_dall {l z : Nat} (h1 : 1 ≤ l) (h9 : l ≤ 9) (hz : z < 4096) : pv_i l z 12 0 0 0 z ≤ 53 := by
  have key : ∀ l, 1 ≤ l → l ≤ 9 → ∀ a, a < 64 → ∀ b, b < 64 → Nat.ble (pv_i l (64 * a + b) 12 0 0 0 (64 * a + b)) 53 = true := by
    intro l h1 h9
    obtain rfl | rfl | rfl | rfl | rfl | rfl | rfl | rfl | rfl : l = 1 ∨ l = 2 ∨ l = 3 ∨ l = 4 ∨ l = 5 ∨ l = 6 ∨ l = 7 ∨ l = 8 ∨ l = 9 := by omega
    · exact pv_d1
    · exact pv_d2
    · exact pv_d3
    · exact pv_d4
    · exact pv_d5
    · exact pv_d6
    · exact pv_d7
    · exact pv_d8
    · exact pv_d9
  exact Nat.ble_eq.mp (st_64 (P := fun x => Nat.ble (pv_i l x 12 0 0 0 x) 53 = true) (key l h1 h9) hz)
theorem pv_rest {u z l k n : Nat} (h12 : n ≤ 12) (hu : u < 12) (hz : z < 2 ^ n) (hl9 : l ≤ 9) (hk : 1 ≤ k) (hk4 : k ≤ 4) : (pu_rest u z l k n).length ≤ 53 := by
  have hz2 : z < 4096 := Nat.lt_of_lt_of_le hz (dr_pow h12)
  unfold pu_rest
  by_cases e0 : z = 0
  · rw [if_pos e0]; exact Nat.zero_le _
  · rw [if_neg e0]
    by_cases e : l = 0
    · rw [if_pos e]
      have h1 := pv_s_len (u := u) (z := z) hu hk hk4 n 0 0 (by omega)
      have h2 := pv_sc_le0 z n 0
      omega
    · rw [if_neg e]
      have hsep := pu_i_sep z (show 1 ≤ l by omega) n 0 0 (by omega) (fun e => absurd rfl e)
      have h1 := pv_ib_len (u := u) hu _ _ hsep
      have h2 := pv_s_len (u := u) (z := pu_lf (pu_i z l n 0) z) hu hk hk4 n 0 0 (by omega)
      have h3 := pv_dall (show 1 ≤ l by omega) hl9 hz2
      rw [pv_i_eq l z 12 (Nat.le_refl _), Nat.sub_self, Nat.zero_add] at h3
      have h4 := pv_i_ext hz (show 1 ≤ l by omega) (12 - n) n 0 (by omega)
      rw [show n + (12 - n) = 12 by omega] at h4
      rw [h4] at h3
      have h5 := pv_s_ext (Nat.lt_of_le_of_lt (pu_lf_le (pu_i z l n 0) z) hz) (12 - n) n 0 0 (by omega)
      rw [show n + (12 - n) = 12 by omega] at h5
      rw [h5] at h3
      rw [List.length_append, List.length_append, pu_gl]
      omega
def pw_rec (x y u r w l k n : Nat) : List Nat := pu_g (st_cn x 12) ++ if x = 0 then [] else (if w = 0 then [] else ta_nb 1 (r + 1)) ++ if r = 0 then pu_rest u x l k n else pu_rb (pu_rn x y n 0 [] 0 true) ++ pu_rest u (ap_di x y) l k n
theorem pw_ok (x y n : Nat) (h12 : n ≤ 12) : pu_ok (pu_rn x y n 0 [] 0 true) 12 := by
  obtain ⟨q1, q2, q3⟩ := pu_rn_ok x y n 0 [] 0 true (Nat.le_refl _) (Nat.le_refl _) (fun j _ hj => absurd hj (Nat.not_lt_zero _)) (fun h => absurd h (by decide))
  exact ⟨by omega, by omega, q3⟩
theorem pw_g7 (x : Nat) : (pu_g (st_cn x 12)).length ≤ 7 := by
  have h1 := st_cn_le x 12
  have h2 : Nat.log2 (st_cn x 12 + 1) ≤ 3 := pu_log_le (by omega) (by omega)
  rw [pu_gl]
  omega
theorem pw_len0 {x y u w l k n : Nat} (h12 : n ≤ 12) (hu : u < 12) (hx : x < 2 ^ n) (hl9 : l ≤ 9) (hk : 1 ≤ k) (hk4 : k ≤ 4) : (pw_rec x y u 0 w l k n).length ≤ 61 := by
  have h1 := pw_g7 x
  have h2 := pv_rest (u := u) h12 hu hx hl9 hk hk4
  unfold pw_rec
  rw [List.length_append]
  split
  · show _ + 0 ≤ 61
    omega
  · rw [List.length_append, if_pos rfl]
    have : (if w = 0 then [] else ta_nb 1 (0 + 1)).length ≤ 1 := by split <;> decide
    omega
theorem pw_len {x y u r w l k n : Nat} (h12 : n ≤ 12) (hu : u < 12) (hx : x < 2 ^ n) (hr : r ≤ 6) (hl9 : l ≤ 9) (hk : 1 ≤ k) (hk4 : k ≤ 4) : (pw_rec x y u r w l k n).length ≤ 99 := by
  have h1 := pw_g7 x
  have h2 := pv_rest (u := u) h12 hu hx hl9 hk hk4
  have h3 := pv_rest (u := u) (z := ap_di x y) h12 hu (Nat.lt_of_le_of_lt (ap_di_le x y) hx) hl9 hk hk4
  have h4 := pu_rb_len (pw_ok x y n h12)
  unfold pw_rec
  rw [List.length_append]
  split
  · show _ + 0 ≤ 99
    omega
  · rw [List.length_append]
    have h5 : (if w = 0 then [] else ta_nb 1 (r + 1)).length ≤ 7 := by
      split
      · exact Nat.zero_le _
      · rw [ta_nb_len]; omega
    by_cases er : r = 0
    · rw [if_pos er]; omega
    · rw [if_neg er, List.length_append]; omega
theorem pw_C {N n u x y r w l k : Nat} (hN : 4096 ≤ N) (h12 : n ≤ 12) (hu : u < n) (hx : x < 2 ^ n) (hy : y < 2 ^ n) (hr : r ≤ 6) (hru : r ≤ u) (hr0 : x = 0 → r = 0) (hl9 : l ≤ 9) (hw6 : w ≤ 6) (hk : 1 ≤ k) (hk4 : k ≤ 4) {μ : me_M} {bs : List Nat} (h1x : μ.1 1 u = nI x) (h1y : μ.1 1 (u - r) = nI y) (h500 : μ.1 500 0 = nI w) (h502 : μ.1 502 0 = nI l) (h503 : μ.1 503 0 = nI k) (h : ta_C μ bs) (hl : bs.length + (pw_rec x y u r w l k n).length ≤ 800) : ∃ μ', fK_writeRecord N n (nI u) (nI r) μ = some μ' ∧ ta_C μ' (bs ++ pw_rec x y u r w l k n) ∧ me_fr [3, 301, 7, 8, 9] [] μ μ' := by
  have hp := dr_pow h12
  have hcn := st_cn_le x 12
  unfold pw_rec at hl ⊢
  rw [List.length_append] at hl
  unfold fK_writeRecord
  rw [ba_gi hu (by omega), nI_clamp (by omega), h1x, st_bc (by omega), ba_b]
  obtain ⟨μ1, a1, a2, a3⟩ := pu_C_gamma (N := N) (n := n) hN (x := st_cn x 12) (by omega) h (by omega)
  rw [a1, ba_b, a3.1 500 (by decide), h500]
  by_cases e0 : x = 0
  · have r0 := hr0 e0
    subst r0
    rw [if_pos e0] at hl ⊢
    rw [if_pos ((nI_eq0 (by omega)).mpr e0)]
    unfold fK_writeRecord_40
    rw [if_pos (show nI 0 ≤ 0 by decide)]
    obtain ⟨μ2, b1, b2, b3⟩ := pu_C_rest (N := N) (n := n) (u := u) (z := 0) (l := l) (k := k) hN h12 (by omega) (by decide) hl9 hk hk4 (by rw [a3.1 502 (by decide)]; exact h502) (by rw [a3.1 503 (by decide)]; exact h503) a2 (by show _ + 0 ≤ 800; rw [List.length_append]; omega)
    rw [e0]
    rw [e0] at b2
    exact ⟨μ2, b1, by rw [← List.append_assoc]; exact b2, (a3.mono (by decide) (by decide)).tr (b3.mono (by decide) (by decide))⟩
  · rw [if_neg e0] at hl ⊢
    rw [if_neg (fun q => e0 ((nI_eq0 (by omega)).mp q))]
    rw [List.length_append] at hl
    -- the reference
    have href : ∃ μ2, (if nI w ≤ 0 then fK_writeRecord_40 N n (nI u) (nI r) (nI x) μ1 else (fT_putUnary N n (nI r) μ1).bind fun r14 => fK_writeRecord_40 N n (nI u) (nI r) (nI x) r14) = fK_writeRecord_40 N n (nI u) (nI r) (nI x) μ2 ∧ ta_C μ2 ((bs ++ pu_g (st_cn x 12)) ++ if w = 0 then [] else ta_nb 1 (r + 1)) ∧ me_fr [3, 301] [] μ1 μ2 := by
      by_cases ew : w = 0
      · rw [if_pos ew, if_pos (show nI w ≤ 0 by rw [ew]; decide), List.append_nil]
        exact ⟨μ1, rfl, a2, me_fr.rf⟩
      · rw [if_neg ew] at hl ⊢
        rw [ta_nb_len] at hl
        rw [if_neg (nI_nle (by omega) (by omega))]
        obtain ⟨μ2, c1, c2, c3⟩ := pu_C_unary (N := N) (n := n) (r := r) hN (by omega) a2 (by rw [List.length_append]; omega)
        rw [c1, ba_b]
        exact ⟨μ2, rfl, c2, c3⟩
    obtain ⟨μ2, c1, c2, c3⟩ := href
    have fr2 := a3.tr c3
    rw [c1]
    unfold fK_writeRecord_40
    by_cases er : r = 0
    · rw [if_pos er] at hl ⊢
      rw [if_pos (show nI r ≤ 0 by rw [er]; decide)]
      obtain ⟨μ3, b1, b2, b3⟩ := pu_C_rest (N := N) (n := n) (u := u) (z := x) (l := l) (k := k) hN h12 (by omega) (by omega) hl9 hk hk4 (by rw [fr2.1 502 (by decide)]; exact h502) (by rw [fr2.1 503 (by decide)]; exact h503) c2 (by rw [List.length_append, List.length_append]; omega)
      exact ⟨μ3, b1, by rw [← List.append_assoc, ← List.append_assoc]; exact b2, (fr2.mono (by decide) (by decide)).tr (b3.mono (by decide) (by decide))⟩
    · rw [if_neg er] at hl ⊢
      rw [List.length_append] at hl
      rw [if_neg (nI_nle (by omega) (by omega)), pk_sub hru, ba_gi (n := n) (by omega) (by omega), nI_clamp (by omega), fr2.1 1 (by decide), h1y]
      obtain ⟨μ3, d1, d2, d3⟩ := pu_C_runs (N := N) (n := n) (x := x) (y := y) hN h12 (by omega) (by omega) c2 (by rw [List.length_append, List.length_append]; omega)
      have fr3 := (fr2.mono (cs' := [3, 301, 7]) (ds' := []) (by decide) (by decide)).tr d3
      rw [d1, ba_b, ba_gi (n := n) (by omega) (by omega), fr3.1 1 (by decide), h1y, ap_andn (by omega) (by omega)]
      obtain ⟨μ4, b1, b2, b3⟩ := pu_C_rest (N := N) (n := n) (u := u) (z := ap_di x y) (l := l) (k := k) hN h12 (by omega) (Nat.lt_of_le_of_lt (ap_di_le x y) (by omega)) hl9 hk hk4 (by rw [fr3.1 502 (by decide)]; exact h502) (by rw [fr3.1 503 (by decide)]; exact h503) d2 (by rw [List.length_append, List.length_append, List.length_append]; omega)
      exact ⟨μ4, b1, by rw [← List.append_assoc, ← List.append_assoc, ← List.append_assoc]; exact b2, (fr3.mono (by decide) (by decide)).tr (b3.mono (by decide) (by decide))⟩
theorem pw_M {N n u x y r w l k : Nat} (hN : 4096 ≤ N) (h12 : n ≤ 12) (hu : u < n) (hx : x < 2 ^ n) (hy : y < 2 ^ n) (hr : r ≤ 6) (hru : r ≤ u) (hl9 : l ≤ 9) (hw6 : w ≤ 6) (hk : 1 ≤ k) (hk4 : k ≤ 4) {ν : me_M} {bs : List Nat} (hn : ν.1 100 0 = nI n) (h1x : ν.1 1 u = nI x) (h1y : ν.1 1 (u - r) = nI y) (h105 : ν.1 105 0 = nI w) (h107 : ν.1 107 0 = nI l) (h108 : ν.1 108 0 = nI k) (h : ta_M ν bs) (hl : bs.length + (pw_rec x y u r w l k n).length ≤ 800) : ∃ ν', fM_putRecord N (nI u) (nI r) ν = some ν' ∧ ta_M ν' (bs ++ pw_rec x y u r w l k n) ∧ me_fr [2, 103, 5] [] ν ν' := by
  have hp := dr_pow h12
  have hcn := st_cn_le x 12
  unfold pw_rec at hl ⊢
  rw [List.length_append] at hl
  unfold fM_putRecord
  rw [ba_gi (n := 12) (by omega) (by omega), nI_clamp (by omega), h1x, st_ones hN (by omega), ba_b]
  obtain ⟨ν1, a1, a2, a3⟩ := pu_M_gamma (N := N) hN (x := st_cn x 12) (by omega) h (by omega)
  rw [a1, ba_b, a3.1 105 (by decide), h105]
  by_cases e0 : x = 0
  · rw [if_pos e0] at hl ⊢
    rw [if_pos ((nI_eq0 (by omega)).mpr e0), List.append_nil]
    exact ⟨ν1, rfl, a2, a3.mono (by decide) (by decide)⟩
  · rw [if_neg e0] at hl ⊢
    rw [if_neg (fun q => e0 ((nI_eq0 (by omega)).mp q))]
    rw [List.length_append] at hl
    have href : ∃ ν2, (if nI w ≤ 0 then fM_putRecord_32 N (nI u) (nI r) (nI x) ν1 else (fM_putUnary N (nI r) ν1).bind fun r14 => fM_putRecord_32 N (nI u) (nI r) (nI x) r14) = fM_putRecord_32 N (nI u) (nI r) (nI x) ν2 ∧ ta_M ν2 ((bs ++ pu_g (st_cn x 12)) ++ if w = 0 then [] else ta_nb 1 (r + 1)) ∧ me_fr [2, 103] [] ν1 ν2 := by
      by_cases ew : w = 0
      · rw [if_pos ew, if_pos (show nI w ≤ 0 by rw [ew]; decide), List.append_nil]
        exact ⟨ν1, rfl, a2, me_fr.rf⟩
      · rw [if_neg ew] at hl ⊢
        rw [ta_nb_len] at hl
        rw [if_neg (nI_nle (by omega) (by omega))]
        obtain ⟨ν2, c1, c2, c3⟩ := pu_M_unary (N := N) (r := r) hN (by omega) a2 (by rw [List.length_append]; omega)
        rw [c1, ba_b]
        exact ⟨ν2, rfl, c2, c3⟩
    obtain ⟨ν2, c1, c2, c3⟩ := href
    have fr2 := a3.tr c3
    rw [c1]
    have rest : ∀ (z : Nat) (ν3 : me_M) (cs : List Nat), z < 4096 → me_fr [2, 103, 5] [] ν ν3 → ta_M ν3 cs → cs.length + (pu_rest u z l k n).length ≤ 800 → ∃ ν', fM_putRecord_66 N (nI u) (nI z) ν3 = some ν' ∧ ta_M ν' (cs ++ pu_rest u z l k n) ∧ me_fr [2, 103, 5] [] ν ν' := by
      intro z ν3 cs hz fr3 h3 hl3
      unfold fM_putRecord_66 fM_putRecord_78
      by_cases ez : z = 0
      · rw [if_pos ((nI_eq0 (by omega)).mpr ez)]
        refine ⟨ν3, rfl, ?_, fr3⟩
        unfold pu_rest
        rw [if_pos ez, List.append_nil]
        exact h3
      · rw [if_neg (fun q => ez ((nI_eq0 (by omega)).mp q))]
        obtain ⟨ν4, b1, b2, b3⟩ := pu_M_rest (N := N) (n := n) (u := u) (z := z) (l := l) (k := k) hN h12 (by omega) hz ez hl9 hk hk4 (by rw [fr3.1 100 (by decide)]; exact hn) (by rw [fr3.1 107 (by decide)]; exact h107) (by rw [fr3.1 108 (by decide)]; exact h108) h3 hl3
        rw [b1, ba_b]
        exact ⟨ν4, rfl, b2, fr3.tr (b3.mono (by decide) (by decide))⟩
    unfold fM_putRecord_32
    by_cases er : r = 0
    · rw [if_pos er] at hl ⊢
      rw [if_pos (show nI r ≤ 0 by rw [er]; decide)]
      obtain ⟨ν3, b1, b2, b3⟩ := rest x ν2 _ (by omega) (fr2.mono (by decide) (by decide)) c2 (by rw [List.length_append, List.length_append]; omega)
      exact ⟨ν3, b1, by rw [← List.append_assoc, ← List.append_assoc]; exact b2, b3⟩
    · rw [if_neg er] at hl ⊢
      rw [List.length_append] at hl
      rw [if_neg (nI_nle (by omega) (by omega)), pk_sub hru, ba_gi (n := 12) (by omega) (by omega), nI_clamp (by omega), fr2.1 1 (by decide), h1y]
      obtain ⟨ν3, d1, d2, d3⟩ := pu_M_runs (N := N) (n := n) (x := x) (y := y) hN h12 (by omega) (by omega) (by rw [fr2.1 100 (by decide)]; exact hn) c2 (by rw [List.length_append, List.length_append]; omega)
      have fr3 := (fr2.mono (cs' := [2, 103, 5]) (ds' := []) (by decide) (by decide)).tr d3
      rw [d1, ba_b, ba_gi (n := 12) (by omega) (by omega), fr3.1 1 (by decide), h1y, ap_andn (by omega) (by omega)]
      obtain ⟨ν4, b1, b2, b3⟩ := rest (ap_di x y) ν3 _ (Nat.lt_of_le_of_lt (ap_di_le x y) (by omega)) fr3 d2 (by rw [List.length_append, List.length_append, List.length_append]; omega)
      exact ⟨ν4, b1, by rw [← List.append_assoc, ← List.append_assoc, ← List.append_assoc]; exact b2, b3⟩
