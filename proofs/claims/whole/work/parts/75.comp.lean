/- what leads where, in both memories -/
theorem cm_stk (R : Nat → Nat) (k : Nat) : gf_st R k k = R k := by
  unfold gf_st
  by_cases h : (R k).testBit k = true
  · rw [if_pos h, Nat.or_self]
  · rw [if_neg h]
theorem cm_part {N n v : Nat} {μ : me_M} {R : Nat → Nat} (hN : 4096 ≤ N) (h12 : n ≤ 12) (hv : v < n) (hR : ∀ w, w < n → μ.1 18 w = nI (R w) ∧ R w < 2 ^ n) : fS_partOf N n μ (nI v) = some (nI (gf_pt R v n)) := by
  have hp := dr_pow h12
  refine lp_g (fun o => o = some (nI (gf_pt R v n))) (fun F k acc => fS_partOf_4 N n μ F (nI v) acc (nI k)) (fun k acc => acc = nI (gf_pt R v k)) n ?_ ?_ n N 0 0 (by omega) (by omega) rfl
  · intro F k acc hk hI ih
    subst hI
    show fS_partOf_4b N n μ (fS_partOf_4 N n μ F) (nI v) (nI (gf_pt R v k)) (nI k) = _
    unfold fS_partOf_4b fS_partOf_45
    have h1 := (hR v hv).2
    have h2 := (hR k hk).2
    have h3 := gf_ptlt R v k
    have h4 : 2 ^ k < 2 ^ n := dr_pv hk
    rw [if_neg (nI_ge hk (by omega)), ba_gi hv (by omega), ba_gi hk (by omega), nI_clamp (n := v) (by omega), nI_clamp (n := k) (by omega), (hR v hv).1, (hR k hk).1, ap_holds (by omega) (by omega), ap_holds (by omega) (by omega), ba_b, ba_b, nI_1, ap_shl1 k (by omega), ap_or (by omega) (by omega)]
    cases hb : (R v).testBit k with
    | false =>
      rw [ba_ff, ba_00]
      exact ih _ (by rw [gf_pt, if_neg (by simp [hb])])
    | true =>
      rw [ba_tt, ba_10]
      cases hb2 : (R k).testBit v with
      | false =>
        rw [ba_ff, ba_00]
        exact ih _ (by rw [gf_pt, if_neg (by simp [hb2])])
      | true =>
        rw [ba_tt, ba_10]
        exact ih _ (by rw [gf_pt, if_pos ⟨hb, hb2⟩])
  · intro F acc hI
    show fS_partOf_4b N n μ (fS_partOf_4 N n μ F) (nI v) acc (nI n) = _
    unfold fS_partOf_4b fS_partOf_51
    rw [if_pos (nI_le (Nat.le_refl _) (by omega)), hI]
theorem cm_tog {N n v : Nat} {ν : me_M} {R : Nat → Nat} (hN : 4096 ≤ N) (h12 : n ≤ 12) (hv : v < n) (hn : ν.1 100 0 = nI n) (hR : ∀ w, w < n → ν.1 14 w = nI (R w) ∧ R w < 2 ^ n) : fM_together N ν (nI v) = some (nI (gf_pt R v n)) := by
  have hp := dr_pow h12
  refine lp_g (fun o => o = some (nI (gf_pt R v n))) (fun F k acc => fM_together_4 N ν F (nI v) acc (nI k)) (fun k acc => acc = nI (gf_pt R v k)) n ?_ ?_ n N 0 0 (by omega) (by omega) rfl
  · intro F k acc hk hI ih
    subst hI
    show fM_together_4b N ν (fM_together_4 N ν F) (nI v) (nI (gf_pt R v k)) (nI k) = _
    unfold fM_together_4b fM_together_47 fM_together_48
    have h1 := (hR v hv).2
    have h2 := (hR k hk).2
    have h3 := gf_ptlt R v k
    have h4 : 2 ^ k < 2 ^ n := dr_pv hk
    rw [hn, if_neg (nI_ge hk (by omega)), ba_gi (i := v) (by omega) (by omega), ba_gi (i := k) (by omega) (by omega), nI_clamp (n := v) (by omega), nI_clamp (n := k) (by omega), (hR v hv).1, (hR k hk).1, ap_bitM (by omega) (by omega), ap_bitM (by omega) (by omega), nI_1, ap_shl1 k (by omega), ap_or (by omega) (by omega), show (0 : Int32) = nI 0 from rfl, ap_or (by omega) (by omega), Nat.or_zero]
    cases hb : (R v).testBit k with
    | false =>
      rw [ba_ff, if_neg (by decide)]
      exact ih _ (by rw [gf_pt, if_neg (by simp [hb])])
    | true =>
      rw [ba_tt, if_pos rfl]
      cases hb2 : (R k).testBit v with
      | false =>
        rw [ba_ff, if_neg (by decide)]
        exact ih _ (by rw [gf_pt, if_neg (by simp [hb2])])
      | true =>
        rw [ba_tt, if_pos rfl]
        exact ih _ (by rw [gf_pt, if_pos ⟨hb, hb2⟩])
  · intro F acc hI
    show fM_together_4b N ν (fM_together_4 N ν F) (nI v) acc (nI n) = _
    unfold fM_together_4b fM_together_56
    rw [hn, if_pos (nI_le (Nat.le_refl _) (by omega)), hI]
theorem cm_out {N n v D P : Nat} {ν : me_M} {l : Nat → Nat} {k2 : Int32 → Int32 → Option Int32} (hN : 4096 ≤ N) (h12 : n ≤ 12) (hn : ν.1 100 0 = nI n) (hP : P < 2 ^ n) (hl : ∀ w, w < n → ν.1 6 w = nI (l w) ∧ l w < 2 ^ n) : fM_firstReady_31 N ν k2 N (nI D) (nI v) (nI P) 0 0 = fM_firstReady_72 N ν k2 (nI D) (nI v) (nI P) (nI (gf_ot l P n)) := by
  have hp := dr_pow h12
  refine lp_g (fun o => o = fM_firstReady_72 N ν k2 (nI D) (nI v) (nI P) (nI (gf_ot l P n))) (fun F k acc => fM_firstReady_31 N ν k2 F (nI D) (nI v) (nI P) acc (nI k)) (fun k acc => acc = nI (gf_ot l P k)) n ?_ ?_ n N 0 0 (by omega) (by omega) rfl
  · intro F k acc hk hI ih
    subst hI
    show fM_firstReady_31b N ν k2 (fM_firstReady_31 N ν k2 F) (nI D) (nI v) (nI P) (nI (gf_ot l P k)) (nI k) = _
    unfold fM_firstReady_31b fM_firstReady_63
    have h1 := (hl k hk).2
    have h2 := gf_otlt (fun v hv => (hl v hv).2) P k (by omega)
    rw [hn, if_neg (nI_ge hk (by omega)), ba_gi (i := k) (by omega) (by omega), nI_clamp (n := k) (by omega), (hl k hk).1, ap_bitM (by omega) (by omega), nI_1, ap_or (by omega) (by omega), show (0 : Int32) = nI 0 from rfl, ap_or (by omega) (by omega), Nat.or_zero]
    cases hb : P.testBit k with
    | false =>
      rw [ba_ff, if_neg (by decide)]
      exact ih _ (by rw [gf_ot, if_neg (by simp [hb])])
    | true =>
      rw [ba_tt, if_pos rfl]
      exact ih _ (by rw [gf_ot, if_pos hb])
  · intro F acc hI
    show fM_firstReady_31b N ν k2 (fM_firstReady_31 N ν k2 F) (nI D) (nI v) (nI P) acc (nI n) = _
    unfold fM_firstReady_31b
    rw [hn, if_pos (nI_le (Nat.le_refl _) (by omega)), hI]
theorem cm_next {N n D : Nat} {μ ν : me_M} {l : Nat → Nat} (hN : 4096 ≤ N) (h12 : n ≤ 12) (hn : ν.1 100 0 = nI n) (hl : ∀ w, w < n → ν.1 6 w = nI (l w) ∧ l w < 2 ^ n) (hA : ∀ w, w < n → μ.1 18 w = nI (gf_R l n w)) (hB : ∀ w, w < n → ν.1 14 w = nI (gf_R l n w)) (hD : D < 2 ^ n) (hcl : gf_cl n l D) (hC : ∀ w, w < n → (D.testBit w = true → ∃ z, z < 12 ∧ ν.1 15 w = nI z) ∧ (D.testBit w = false → ν.1 15 w = -1)) : ∃ r, fS_nextReady N n μ (nI D) = some r ∧ fM_firstReady N ν (nI D) = some r ∧ ((∃ v, v < n ∧ r = nI v ∧ D.testBit v = false ∧ gf_rm n (gf_R l n) l D v) ∨ (r = -1 ∧ ∀ v, v < n → D.testBit v = false → ¬ gf_rc n (gf_R l n) D v)) := by
  have hp := dr_pow h12
  have hl' := fun v hv => (hl v hv).2
  have hlt := fun v hv => gf_lt hl' n v (Nat.le_refl _) hv
  refine lp_r (fun o p => ∃ r, o = some r ∧ p = some r ∧ ((∃ v, v < n ∧ r = nI v ∧ D.testBit v = false ∧ gf_rm n (gf_R l n) l D v) ∨ (r = -1 ∧ ∀ v, v < n → D.testBit v = false → ¬ gf_rc n (gf_R l n) D v))) (fun F k (_ : Unit) => fS_nextReady_2 N n μ F (nI D) (nI k)) (fun F k (_ : Unit) => fM_firstReady_2 N ν F (nI D) (nI k)) (fun k _ _ => ∀ v, v < k → D.testBit v = false → ¬ gf_rc n (gf_R l n) D v) n ?_ ?_ n N N 0 () () (by omega) (by omega) (by omega) (fun v hv => by omega)
  · intro F E k _ _ hk hI ih
    show ∃ r, fS_nextReady_2b N n μ (fS_nextReady_2 N n μ F) (nI D) (nI k) = some r ∧ fM_firstReady_2b N ν (fM_firstReady_2 N ν E) (nI D) (nI k) = some r ∧ _
    unfold fS_nextReady_2b fM_firstReady_2b fS_nextReady_42 fM_firstReady_85
    have hRk := hlt k hk
    have hPk := gf_ptlt (gf_R l n) k n
    have hot := gf_otlt hl' (gf_pt (gf_R l n) k n) n (Nat.le_refl _)
    have hd1 : ap_di (gf_R l n k) D < 4096 := rn_dilt (by omega)
    have hor : gf_pt (gf_R l n) k n ||| D < 2 ^ n := Nat.or_lt_two_pow hPk hD
    rw [if_neg (nI_ge hk (by omega)), hn, if_neg (nI_ge hk (by omega)), ap_holds (by omega) (by omega), ba_b, ba_gi hk (by omega), ba_gi (n := 12) (i := k) (by omega) (by decide), nI_clamp (by omega), cm_part hN h12 hk (fun w hw => ⟨hA w hw, hlt w hw⟩), ba_b, cm_tog hN h12 hk hn (fun w hw => ⟨hB w hw, hlt w hw⟩), ba_b, hA k hk, ap_andn (by omega) (by omega), ap_andn (by omega) (by omega), nI_1, cm_out hN h12 hn hPk hl]
    unfold fM_firstReady_72 fM_firstReady_85
    rw [ap_or (by omega) (by omega), ap_andn (by omega) (by omega), nI_1]
    cases hb : D.testBit k with
    | true =>
      obtain ⟨z, hz, ez⟩ := (hC k hk).1 hb
      rw [ba_tt, ba_10, ez, if_pos (nI_pos' (by omega))]
      refine ih () () (fun v hv hv2 => ?_)
      by_cases e : v = k
      · subst e; rw [hb] at hv2; cases hv2
      · exact hI v (by omega) hv2
    | false =>
      rw [ba_ff, ba_00, (hC k hk).2 hb, if_neg (show ¬ (0 : Int32) ≤ -1 by decide)]
      have h3 : ap_di (ap_di (gf_R l n k) D) (gf_pt (gf_R l n) k n) < 4096 := rn_dilt hd1
      have h4 : ap_di (gf_ot l (gf_pt (gf_R l n) k n) n) (gf_pt (gf_R l n) k n ||| D) < 4096 := rn_dilt (by omega)
      have hs := gf_same h12 hl' hk hcl
      by_cases q : gf_rc n (gf_R l n) D k
      · have q' := hs.mp q
        have e1 : ap_di (ap_di (gf_R l n k) D) (gf_pt (gf_R l n) k n) = 0 := q
        have e2 : ap_di (gf_ot l (gf_pt (gf_R l n) k n) n) (gf_pt (gf_R l n) k n ||| D) = 0 := q'
        rw [e1, e2, if_pos nI_0, if_pos nI_0]
        exact ⟨_, rfl, rfl, Or.inl ⟨k, hk, rfl, hb, q'⟩⟩
      · have q' : ¬ gf_rm n (gf_R l n) l D k := fun z => q (hs.mpr z)
        rw [if_neg (fun z => q ((nI_eq0 (by omega)).mp z)), if_neg (fun z => q' ((nI_eq0 (by omega)).mp z))]
        refine ih () () (fun v hv hv2 => ?_)
        by_cases e : v = k
        · subst e; exact q
        · exact hI v (by omega) hv2
  · intro F E _ _ hI
    show ∃ r, fS_nextReady_2b N n μ (fS_nextReady_2 N n μ F) (nI D) (nI n) = some r ∧ fM_firstReady_2b N ν (fM_firstReady_2 N ν E) (nI D) (nI n) = some r ∧ _
    unfold fS_nextReady_2b fM_firstReady_2b fS_nextReady_48 fM_firstReady_91
    rw [hn, if_pos (nI_le (Nat.le_refl _) (by omega)), if_pos (nI_le (Nat.le_refl _) (by omega))]
    exact ⟨_, rfl, rfl, Or.inr ⟨rfl, hI⟩⟩
/- the class finds what leads where -/
theorem cm_reach {N n : Nat} {μ : me_M} {l : Nat → Nat} (hN : 4096 ≤ N) (h12 : n ≤ 12) (hl : ∀ w, w < n → μ.1 12 w = nI (l w) ∧ l w < 2 ^ n) : ∃ μ', fS_findReached N n μ = some μ' ∧ me_fr [18] [] μ μ' ∧ ∀ w, w < n → μ'.1 18 w = nI (gf_R l n w) := by
  have hp := dr_pow h12
  have hl' := fun v hv => (hl v hv).2
  have inner : ∀ (k : Nat) (k35 : Int32 → me_M → Option me_M) (s : me_M), k < n → me_fr [18] [] μ s → (∀ w, w < n → s.1 18 w = nI (gf_R l k w)) → ∃ s', fS_findReached_46 N n k35 N (nI k) 0 s = k35 (nI (k + 1)) s' ∧ me_fr [18] [] μ s' ∧ ∀ w, w < n → s'.1 18 w = nI (gf_R l (k + 1) w) := by
    intro k k35 s hk hfr hs
    refine lp_g (fun o => ∃ s', o = k35 (nI (k + 1)) s' ∧ me_fr [18] [] μ s' ∧ ∀ w, w < n → s'.1 18 w = nI (gf_R l (k + 1) w)) (fun F v t => fS_findReached_46 N n k35 F (nI k) (nI v) t) (fun v t => me_fr [18] [] μ t ∧ ∀ w, w < n → t.1 18 w = nI (if w < v then gf_R l (k + 1) w else gf_R l k w)) n ?_ ?_ n N 0 s (by omega) (by omega) ⟨hfr, fun w hw => by rw [if_neg (by omega)]; exact hs w hw⟩
    · rintro F v t hv ⟨i1, i2⟩ ih
      show ∃ s', fS_findReached_46b N n k35 (fS_findReached_46 N n k35 F) (nI k) (nI v) t = k35 (nI (k + 1)) s' ∧ _
      unfold fS_findReached_46b fS_findReached_83
      have hv1 : t.1 18 v = nI (gf_R l k v) := by rw [i2 v hv, if_neg (by omega)]
      have hk1 : t.1 18 k = nI (gf_R l k k) := by
        rw [i2 k hk]
        by_cases e : k < v
        · rw [if_pos e]; exact congrArg nI (cm_stk _ _)
        · rw [if_neg e]
      have hb1 := gf_lt hl' k v (by omega) hv
      have hb2 := gf_lt hl' k k (by omega) hk
      rw [if_neg (nI_ge hv (by omega)), ba_gi hv (by omega), ba_gi hv (by omega), ba_gi hk (by omega), ba_gi hv (by omega), nI_clamp (n := v) (by omega), nI_clamp (n := k) (by omega), hv1, hk1, ap_holds (by omega) (by omega), ba_b, nI_1, ap_or (by omega) (by omega)]
      cases hb : (gf_R l k v).testBit k with
      | false =>
        rw [ba_ff, ba_00]
        refine ih t ⟨i1, fun w hw => ?_⟩
        by_cases e : w = v
        · subst e
          rw [if_pos (by omega), hv1]
          show nI (gf_R l k w) = nI (gf_st (gf_R l k) k w)
          unfold gf_st
          rw [if_neg (by simp [hb])]
        · rw [i2 w hw]
          by_cases g : w < v
          · rw [if_pos g, if_pos (by omega)]
          · rw [if_neg g, if_neg (by omega)]
      | true =>
        rw [ba_tt, ba_10]
        refine ih _ ⟨i1.wi (by decide), fun w hw => ?_⟩
        by_cases e : w = v
        · subst e
          rw [me_wi_s, if_pos (by omega)]
          show nI (gf_R l k w ||| gf_R l k k) = nI (gf_st (gf_R l k) k w)
          unfold gf_st
          rw [if_pos hb]
        · rw [me_wi_n _ _ _ _ e, i2 w hw]
          by_cases g : w < v
          · rw [if_pos g, if_pos (by omega)]
          · rw [if_neg g, if_neg (by omega)]
    · rintro F t ⟨i1, i2⟩
      show ∃ s', fS_findReached_46b N n k35 (fS_findReached_46 N n k35 F) (nI k) (nI n) t = k35 (nI (k + 1)) s' ∧ _
      unfold fS_findReached_46b fS_findReached_89
      rw [if_pos (nI_le (Nat.le_refl _) (by omega)), nI_1]
      exact ⟨t, rfl, i1, fun w hw => by rw [i2 w hw, if_pos hw]⟩
  have outer : ∀ s, me_fr [18] [] μ s → (∀ w, w < n → s.1 18 w = nI (gf_R l 0 w)) → ∃ s', fS_findReached_33 N n s = some s' ∧ me_fr [18] [] μ s' ∧ ∀ w, w < n → s'.1 18 w = nI (gf_R l n w) := by
    intro s hfr hs
    unfold fS_findReached_33
    refine lp_g (fun o => ∃ s', o = some s' ∧ me_fr [18] [] μ s' ∧ ∀ w, w < n → s'.1 18 w = nI (gf_R l n w)) (fun F k t => fS_findReached_35 N n F (nI k) t) (fun k t => me_fr [18] [] μ t ∧ ∀ w, w < n → t.1 18 w = nI (gf_R l k w)) n ?_ ?_ n N 0 s (by omega) (by omega) ⟨hfr, hs⟩
    · rintro F k t hk ⟨i1, i2⟩ ih
      show ∃ s', fS_findReached_35b N n (fS_findReached_35 N n F) (nI k) t = some s' ∧ _
      unfold fS_findReached_35b
      rw [if_neg (nI_ge hk (by omega))]
      obtain ⟨t', e1, e2, e3⟩ := inner k (fS_findReached_35 N n F) t hk i1 i2
      rw [e1]
      exact ih t' ⟨e2, e3⟩
    · rintro F t ⟨i1, i2⟩
      show ∃ s', fS_findReached_35b N n (fS_findReached_35 N n F) (nI n) t = some s' ∧ _
      unfold fS_findReached_35b fS_findReached_95
      rw [if_pos (nI_le (Nat.le_refl _) (by omega))]
      exact ⟨t, rfl, i1, i2⟩
  refine lp_g (fun o => ∃ μ', o = some μ' ∧ me_fr [18] [] μ μ' ∧ ∀ w, w < n → μ'.1 18 w = nI (gf_R l n w)) (fun F v t => fS_findReached_2 N n F (nI v) t) (fun v t => me_fr [18] [] μ t ∧ ∀ w, w < v → t.1 18 w = nI (gf_R l 0 w)) n ?_ ?_ n N 0 μ (by omega) (by omega) ⟨me_fr.rf, fun w hw => by omega⟩
  · rintro F v t hv ⟨i1, i2⟩ ih
    show ∃ μ', fS_findReached_2b N n (fS_findReached_2 N n F) (nI v) t = some μ' ∧ _
    unfold fS_findReached_2b
    have h4 : 2 ^ v < 2 ^ n := dr_pv hv
    have h5 := hl' v hv
    rw [if_neg (nI_ge hv (by omega)), ba_gi hv (by omega), ba_gi hv (by omega), nI_clamp (by omega), i1.1 12 (by decide), (hl v hv).1, ap_shl1 v (by omega), ap_or (by omega) (by omega), nI_1]
    refine ih _ ⟨i1.wi (by decide), fun w hw => ?_⟩
    by_cases e : w = v
    · subst e; rw [me_wi_s]; rfl
    · rw [me_wi_n _ _ _ _ e]; exact i2 w (by omega)
  · rintro F t ⟨i1, i2⟩
    show ∃ μ', fS_findReached_2b N n (fS_findReached_2 N n F) (nI n) t = some μ' ∧ _
    unfold fS_findReached_2b
    rw [if_pos (nI_le (Nat.le_refl _) (by omega))]
    exact outer t i1 i2
