/- numbering the parts, side by side -/
theorem cm_reachM {N n : Nat} {ν : me_M} {l : Nat → Nat} (hN : 4096 ≤ N) (h12 : n ≤ 12) (hn : ν.1 100 0 = nI n) (hl : ∀ w, w < n → ν.1 6 w = nI (l w) ∧ l w < 2 ^ n) : ∃ ν', fM_count_6 N N 0 ν = fM_count_108 N ν' ∧ me_fr [14, 15] [] ν ν' ∧ (∀ w, w < n → ν'.1 14 w = nI (gf_R l n w)) ∧ ∀ w, w < n → ν'.1 15 w = -1 := by
  have hp := dr_pow h12
  have hl' := fun v hv => (hl v hv).2
  have inner : ∀ (k : Nat) (k45 : Int32 → me_M → Option me_M) (s : me_M), k < n → me_fr [14, 15] [] ν s → (∀ w, w < n → s.1 14 w = nI (gf_R l k w)) → (∀ w, w < n → s.1 15 w = -1) → ∃ s', fM_count_55 N k45 N (nI k) 0 s = k45 (nI (k + 1)) s' ∧ me_fr [14, 15] [] ν s' ∧ (∀ w, w < n → s'.1 14 w = nI (gf_R l (k + 1) w)) ∧ ∀ w, w < n → s'.1 15 w = -1 := by
    intro k k45 s hk hfr hs hs15
    refine lp_g (fun o => ∃ s', o = k45 (nI (k + 1)) s' ∧ me_fr [14, 15] [] ν s' ∧ (∀ w, w < n → s'.1 14 w = nI (gf_R l (k + 1) w)) ∧ ∀ w, w < n → s'.1 15 w = -1) (fun F v t => fM_count_55 N k45 F (nI k) (nI v) t) (fun v t => me_fr [14, 15] [] ν t ∧ (∀ w, w < n → t.1 14 w = nI (if w < v then gf_R l (k + 1) w else gf_R l k w)) ∧ ∀ w, w < n → t.1 15 w = -1) n ?_ ?_ n N 0 s (by omega) (by omega) ⟨hfr, (fun w hw => by rw [if_neg (by omega)]; exact hs w hw), hs15⟩
    · rintro F v t hv ⟨i1, i2, i3⟩ ih
      show ∃ s', fM_count_55b N k45 (fM_count_55 N k45 F) (nI k) (nI v) t = k45 (nI (k + 1)) s' ∧ _
      unfold fM_count_55b fM_count_94
      have hn' : t.1 100 0 = nI n := by rw [i1.1 100 (by decide)]; exact hn
      have hv1 : t.1 14 v = nI (gf_R l k v) := by rw [i2 v hv, if_neg (by omega)]
      have hk1 : t.1 14 k = nI (gf_R l k k) := by
        rw [i2 k hk]
        by_cases e : k < v
        · rw [if_pos e]; exact congrArg nI (cm_stk _ _)
        · rw [if_neg e]
      have hb1 := gf_lt hl' k v (by omega) hv
      have hb2 := gf_lt hl' k k (by omega) hk
      have gv : ∀ {α : Type} {z : Option α}, me_gi (nI v) 12 z = z := fun {α z} => ba_gi (by omega) (by decide)
      have gk : ∀ {α : Type} {z : Option α}, me_gi (nI k) 12 z = z := fun {α z} => ba_gi (by omega) (by decide)
      simp only [gv, gk]
      rw [hn', if_neg (nI_ge hv (by omega)), nI_clamp (n := v) (by omega), nI_clamp (n := k) (by omega), hv1, hk1, ap_bitM (by omega) (by omega), nI_1, ap_or (by omega) (by omega), show (0 : Int32) = nI 0 from rfl, ap_or (by omega) (by omega), Nat.or_zero]
      have hstep : ∀ z : Nat, z = gf_R l (k + 1) v → ∃ s', fM_count_55 N k45 F (nI k) (nI (v + 1)) (me_wi t 14 v (nI z)) = k45 (nI (k + 1)) s' ∧ me_fr [14, 15] [] ν s' ∧ (∀ w, w < n → s'.1 14 w = nI (gf_R l (k + 1) w)) ∧ ∀ w, w < n → s'.1 15 w = -1 := by
        intro z hz
        refine ih _ ⟨i1.wi (by decide), fun w hw => ?_, fun w hw => by rw [me_wi_c _ _ _ _ (by decide)]; exact i3 w hw⟩
        by_cases e : w = v
        · subst e
          rw [me_wi_s, if_pos (by omega), hz]
        · rw [me_wi_n _ _ _ _ e, i2 w hw]
          by_cases g : w < v
          · rw [if_pos g, if_pos (by omega)]
          · rw [if_neg g, if_neg (by omega)]
      cases hb : (gf_R l k v).testBit k with
      | false =>
        rw [ba_ff, if_neg (by decide)]
        refine hstep _ ?_
        show gf_R l k v = gf_st (gf_R l k) k v
        unfold gf_st
        rw [if_neg (by simp [hb])]
      | true =>
        rw [ba_tt, if_pos rfl]
        refine hstep _ ?_
        show gf_R l k v ||| gf_R l k k = gf_st (gf_R l k) k v
        unfold gf_st
        rw [if_pos hb]
    · rintro F t ⟨i1, i2, i3⟩
      show ∃ s', fM_count_55b N k45 (fM_count_55 N k45 F) (nI k) (nI n) t = k45 (nI (k + 1)) s' ∧ _
      have hn' : t.1 100 0 = nI n := by rw [i1.1 100 (by decide)]; exact hn
      unfold fM_count_55b fM_count_102
      rw [hn', if_pos (nI_le (Nat.le_refl _) (by omega)), nI_1]
      exact ⟨t, rfl, i1, fun w hw => by rw [i2 w hw, if_pos hw], i3⟩
  have outer : ∀ s, me_fr [14, 15] [] ν s → (∀ w, w < n → s.1 14 w = nI (gf_R l 0 w)) → (∀ w, w < n → s.1 15 w = -1) → ∃ s', fM_count_43 N s = fM_count_108 N s' ∧ me_fr [14, 15] [] ν s' ∧ (∀ w, w < n → s'.1 14 w = nI (gf_R l n w)) ∧ ∀ w, w < n → s'.1 15 w = -1 := by
    intro s hfr hs hs15
    unfold fM_count_43
    refine lp_g (fun o => ∃ s', o = fM_count_108 N s' ∧ me_fr [14, 15] [] ν s' ∧ (∀ w, w < n → s'.1 14 w = nI (gf_R l n w)) ∧ ∀ w, w < n → s'.1 15 w = -1) (fun F k t => fM_count_45 N F (nI k) t) (fun k t => me_fr [14, 15] [] ν t ∧ (∀ w, w < n → t.1 14 w = nI (gf_R l k w)) ∧ ∀ w, w < n → t.1 15 w = -1) n ?_ ?_ n N 0 s (by omega) (by omega) ⟨hfr, hs, hs15⟩
    · rintro F k t hk ⟨i1, i2, i3⟩ ih
      show ∃ s', fM_count_45b N (fM_count_45 N F) (nI k) t = fM_count_108 N s' ∧ _
      have hn' : t.1 100 0 = nI n := by rw [i1.1 100 (by decide)]; exact hn
      unfold fM_count_45b
      rw [hn', if_neg (nI_ge hk (by omega))]
      obtain ⟨t', e1, e2, e3, e4⟩ := inner k (fM_count_45 N F) t hk i1 i2 i3
      rw [e1]
      exact ih t' ⟨e2, e3, e4⟩
    · rintro F t ⟨i1, i2, i3⟩
      show ∃ s', fM_count_45b N (fM_count_45 N F) (nI n) t = fM_count_108 N s' ∧ _
      have hn' : t.1 100 0 = nI n := by rw [i1.1 100 (by decide)]; exact hn
      unfold fM_count_45b
      rw [hn', if_pos (nI_le (Nat.le_refl _) (by omega))]
      exact ⟨t, rfl, i1, i2, i3⟩
  refine lp_g (fun o => ∃ ν', o = fM_count_108 N ν' ∧ me_fr [14, 15] [] ν ν' ∧ (∀ w, w < n → ν'.1 14 w = nI (gf_R l n w)) ∧ ∀ w, w < n → ν'.1 15 w = -1) (fun F v t => fM_count_6 N F (nI v) t) (fun v t => me_fr [14, 15] [] ν t ∧ (∀ w, w < v → t.1 14 w = nI (gf_R l 0 w)) ∧ ∀ w, w < v → t.1 15 w = -1) n ?_ ?_ n N 0 ν (by omega) (by omega) ⟨me_fr.rf, fun w hw => by omega, fun w hw => by omega⟩
  · rintro F v t hv ⟨i1, i2, i3⟩ ih
    show ∃ ν', fM_count_6b N (fM_count_6 N F) (nI v) t = fM_count_108 N ν' ∧ _
    have hn' : t.1 100 0 = nI n := by rw [i1.1 100 (by decide)]; exact hn
    unfold fM_count_6b
    have h4 : 2 ^ v < 2 ^ n := dr_pv hv
    have h5 := hl' v hv
    rw [hn', if_neg (nI_ge hv (by omega)), ba_gi (by omega) (by decide), ba_gi (by omega) (by decide), ba_gi (by omega) (by decide), nI_clamp (by omega), i1.1 6 (by decide), (hl v hv).1, ap_shl1 v (by omega), ap_or (by omega) (by omega), nI_1]
    refine ih _ ⟨(i1.wi (by decide)).wi (by decide), fun w hw => ?_, fun w hw => ?_⟩
    · rw [me_wi_c _ _ _ _ (by decide)]
      by_cases e : w = v
      · subst e; rw [me_wi_s]; rfl
      · rw [me_wi_n _ _ _ _ e]; exact i2 w (by omega)
    · by_cases e : w = v
      · subst e; rw [me_wi_s]
      · rw [me_wi_n _ _ _ _ e, me_wi_c _ _ _ _ (by decide)]; exact i3 w (by omega)
  · rintro F t ⟨i1, i2, i3⟩
    show ∃ ν', fM_count_6b N (fM_count_6 N F) (nI n) t = fM_count_108 N ν' ∧ _
    have hn' : t.1 100 0 = nI n := by rw [i1.1 100 (by decide)]; exact hn
    unfold fM_count_6b
    rw [hn', if_pos (nI_le (Nat.le_refl _) (by omega))]
    exact outer t i1 i2 i3
/- a part gets its number -/
theorem cm_setC {N n D P c : Nat} {μ : me_M} {k14 : Int32 → Int32 → Int32 → me_M → Option (Int32 × me_M)} (hN : 4096 ≤ N) (h12 : n ≤ 12) (hP : P < 2 ^ n) : ∃ μ', fS_numberAll_37 N n k14 N (nI D) (nI c) (nI P) 0 μ = fS_numberAll_71 N n k14 (nI D) (nI c) (nI P) μ' ∧ me_fr [17] [] μ μ' ∧ ∀ w, w < n → μ'.1 17 w = if P.testBit w = true then nI c else μ.1 17 w := by
  have hp := dr_pow h12
  refine lp_g (fun o => ∃ μ', o = fS_numberAll_71 N n k14 (nI D) (nI c) (nI P) μ' ∧ me_fr [17] [] μ μ' ∧ ∀ w, w < n → μ'.1 17 w = if P.testBit w = true then nI c else μ.1 17 w) (fun F v t => fS_numberAll_37 N n k14 F (nI D) (nI c) (nI P) (nI v) t) (fun v t => me_fr [17] [] μ t ∧ ∀ w, w < n → t.1 17 w = if w < v ∧ P.testBit w = true then nI c else μ.1 17 w) n ?_ ?_ n N 0 μ (by omega) (by omega) ⟨me_fr.rf, fun w hw => by rw [if_neg (by omega)]⟩
  · rintro F v t hv ⟨i1, i2⟩ ih
    show ∃ μ', fS_numberAll_37b N n k14 (fS_numberAll_37 N n k14 F) (nI D) (nI c) (nI P) (nI v) t = fS_numberAll_71 N n k14 (nI D) (nI c) (nI P) μ' ∧ _
    unfold fS_numberAll_37b fS_numberAll_65
    rw [if_neg (nI_ge hv (by omega)), ap_holds (by omega) (by omega), ba_b, ba_gi hv (by omega), nI_clamp (by omega), nI_1]
    cases hb : P.testBit v with
    | false =>
      rw [ba_ff, ba_00]
      refine ih t ⟨i1, fun w hw => ?_⟩
      rw [i2 w hw]
      by_cases e : w = v
      · subst e; rw [if_neg (by omega), if_neg (by simp [hb])]
      · by_cases g : w < v ∧ P.testBit w = true
        · rw [if_pos g, if_pos ⟨by omega, g.2⟩]
        · rw [if_neg g, if_neg (fun q => g ⟨by omega, q.2⟩)]
    | true =>
      rw [ba_tt, ba_10]
      refine ih _ ⟨i1.wi (by decide), fun w hw => ?_⟩
      by_cases e : w = v
      · subst e; rw [me_wi_s, if_pos ⟨by omega, hb⟩]
      · rw [me_wi_n _ _ _ _ e, i2 w hw]
        by_cases g : w < v ∧ P.testBit w = true
        · rw [if_pos g, if_pos ⟨by omega, g.2⟩]
        · rw [if_neg g, if_neg (fun q => g ⟨by omega, q.2⟩)]
  · rintro F t ⟨i1, i2⟩
    show ∃ μ', fS_numberAll_37b N n k14 (fS_numberAll_37 N n k14 F) (nI D) (nI c) (nI P) (nI n) t = fS_numberAll_71 N n k14 (nI D) (nI c) (nI P) μ' ∧ _
    unfold fS_numberAll_37b
    rw [if_pos (nI_le (Nat.le_refl _) (by omega))]
    refine ⟨t, rfl, i1, fun w hw => ?_⟩
    rw [i2 w hw]
    by_cases g : P.testBit w = true
    · rw [if_pos ⟨hw, g⟩, if_pos g]
    · rw [if_neg (fun q => g q.2), if_neg g]
theorem cm_setM {N n D P c t0 : Nat} {ν : me_M} {k117 : Int32 → Int32 → me_M → Option me_M} (hN : 4096 ≤ N) (h12 : n ≤ 12) (hn : ν.1 100 0 = nI n) (hP : P < 2 ^ n) (hc : ν.1 128 0 = nI c) : ∃ ν', fM_count_145 N k117 N (nI D) (nI t0) (nI P) 0 ν = fM_count_192 N k117 (nI D) (nI t0) (nI P) ν' ∧ me_fr [15] [] ν ν' ∧ ∀ w, w < n → ν'.1 15 w = if P.testBit w = true then nI c else ν.1 15 w := by
  have hp := dr_pow h12
  refine lp_g (fun o => ∃ ν', o = fM_count_192 N k117 (nI D) (nI t0) (nI P) ν' ∧ me_fr [15] [] ν ν' ∧ ∀ w, w < n → ν'.1 15 w = if P.testBit w = true then nI c else ν.1 15 w) (fun F v t => fM_count_145 N k117 F (nI D) (nI t0) (nI P) (nI v) t) (fun v t => me_fr [15] [] ν t ∧ ∀ w, w < n → t.1 15 w = if w < v ∧ P.testBit w = true then nI c else ν.1 15 w) n ?_ ?_ n N 0 ν (by omega) (by omega) ⟨me_fr.rf, fun w hw => by rw [if_neg (by omega)]⟩
  · rintro F v t hv ⟨i1, i2⟩ ih
    show ∃ ν', fM_count_145b N k117 (fM_count_145 N k117 F) (nI D) (nI t0) (nI P) (nI v) t = fM_count_192 N k117 (nI D) (nI t0) (nI P) ν' ∧ _
    have hn' : t.1 100 0 = nI n := by rw [i1.1 100 (by decide)]; exact hn
    have hc' : t.1 128 0 = nI c := by rw [i1.1 128 (by decide)]; exact hc
    unfold fM_count_145b fM_count_185
    have gv : ∀ {α : Type} {z : Option α}, me_gi (nI v) 12 z = z := fun {α z} => ba_gi (by omega) (by decide)
    simp only [gv]
    rw [hn', if_neg (nI_ge hv (by omega)), ap_bitM (by omega) (by omega), nI_clamp (by omega), nI_1, hc']
    cases hb : P.testBit v with
    | false =>
      rw [ba_ff, if_neg (by decide), me_self]
      refine ih t ⟨i1, fun w hw => ?_⟩
      rw [i2 w hw]
      by_cases e : w = v
      · subst e; rw [if_neg (by omega), if_neg (by simp [hb])]
      · by_cases g : w < v ∧ P.testBit w = true
        · rw [if_pos g, if_pos ⟨by omega, g.2⟩]
        · rw [if_neg g, if_neg (fun q => g ⟨by omega, q.2⟩)]
    | true =>
      rw [ba_tt, if_pos rfl]
      refine ih _ ⟨i1.wi (by decide), fun w hw => ?_⟩
      by_cases e : w = v
      · subst e; rw [me_wi_s, if_pos ⟨by omega, hb⟩]
      · rw [me_wi_n _ _ _ _ e, i2 w hw]
        by_cases g : w < v ∧ P.testBit w = true
        · rw [if_pos g, if_pos ⟨by omega, g.2⟩]
        · rw [if_neg g, if_neg (fun q => g ⟨by omega, q.2⟩)]
  · rintro F t ⟨i1, i2⟩
    show ∃ ν', fM_count_145b N k117 (fM_count_145 N k117 F) (nI D) (nI t0) (nI P) (nI n) t = fM_count_192 N k117 (nI D) (nI t0) (nI P) ν' ∧ _
    have hn' : t.1 100 0 = nI n := by rw [i1.1 100 (by decide)]; exact hn
    unfold fM_count_145b
    rw [hn', if_pos (nI_le (Nat.le_refl _) (by omega))]
    refine ⟨t, rfl, i1, fun w hw => ?_⟩
    rw [i2 w hw]
    by_cases g : P.testBit w = true
    · rw [if_pos ⟨hw, g⟩, if_pos g]
    · rw [if_neg (fun q => g q.2), if_neg g]
