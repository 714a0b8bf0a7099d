/- bits are 0 or 1 -/
def px_b (L : List Nat) : Prop := ∀ b ∈ L, b < 2
theorem px_nil : px_b [] := fun b hb => by cases hb
theorem px_app {A B : List Nat} (h : px_b A) (g : px_b B) : px_b (A ++ B) := fun b hb => (List.mem_append.mp hb).elim (h b) (g b)
theorem px_nb (x : Nat) : ∀ c, px_b (ta_nb x c) := by
  intro c
  induction c with
  | zero => exact px_nil
  | succ c ih =>
    intro b hb
    rcases List.mem_cons.mp hb with e | e
    · rw [e]; exact Nat.mod_lt _ (by decide)
    · exact ih b e
theorem px_z (k x : Nat) : px_b (pu_z k x) := by
  unfold pu_z
  refine px_app (px_nb _ _) ?_
  split <;> exact px_nb _ _
theorem px_s (u z k : Nat) : ∀ m v b, px_b (pu_s u z k m v b) := by
  intro m
  induction m with
  | zero => intro v b; exact px_nil
  | succ m ih =>
    intro v b
    unfold pu_s
    split
    · exact px_app (px_z _ _) (ih _ _)
    · exact ih _ _
theorem px_ib (u l : Nat) : ∀ I q, px_b (pu_ib u l I q) := by
  intro I
  induction I with
  | nil => intro q; exact px_nil
  | cons p t ih => intro q; exact px_app (px_nb _ _) (px_app (px_nb _ _) (ih _))
theorem px_rl (R : List Nat) : ∀ m i, px_b (pu_rl R m i) := by
  intro m
  induction m with
  | zero => intro i; exact px_nil
  | succ m ih => intro i; exact px_app (px_nb _ _) (ih _)
theorem px_rest (u z l k n : Nat) : px_b (pu_rest u z l k n) := by
  unfold pu_rest
  split
  · exact px_nil
  · split
    · exact px_s _ _ _ _ _ _
    · exact px_app (px_app (px_nb _ _) (px_ib _ _ _ _)) (px_s _ _ _ _ _ _)
theorem px_rec (x y u r w l k n : Nat) : px_b (pw_rec x y u r w l k n) := by
  unfold pw_rec
  refine px_app (px_nb _ _) ?_
  split
  · exact px_nil
  · refine px_app ?_ ?_
    · split
      · exact px_nil
      · exact px_nb _ _
    · split
      · exact px_rest _ _ _ _ _
      · exact px_app (px_app (px_nb _ _) (px_rl _ _ _)) (px_rest _ _ _ _ _)
/- a trial is taken back -/
theorem px_getA {bs cs : List Nat} {p : Nat} (hp : p < bs.length) : (bs ++ cs).getD p 0 = bs.getD p 0 := by
  simp [List.getD, List.getElem?_append_left hp]
theorem px_cutC {μ : me_M} {bs cs : List Nat} (h : ta_C μ (bs ++ cs)) : ta_C (me_wi μ 301 0 (nI bs.length)) bs := by
  refine ⟨by rw [me_wi_s], fun p hp => ?_⟩
  rw [me_wi_c _ _ _ _ (by decide), h.2 p (by rw [List.length_append]; omega), px_getA hp]
theorem px_cutM {ν : me_M} {bs cs : List Nat} (h : ta_M ν (bs ++ cs)) : ta_M (me_wi ν 103 0 (nI bs.length)) bs := by
  refine ⟨by rw [me_wi_s], fun p hp => ?_⟩
  rw [me_wi_c _ _ _ _ (by decide), h.2 p (by rw [List.length_append]; omega), px_getA hp]
/- the best reference -/
theorem px_best {N n u w c l k : Nat} {dr dp : Nat → Nat} (hN : 4096 ≤ N) (h12 : n ≤ 12) (hu : u < n) (hw6 : w ≤ 6) (hc3 : c ≤ 3) (hl9 : l ≤ 9) (hk : 1 ≤ k) (hk4 : k ≤ 4) {μ0 ν0 : me_M} {bs : List Nat} (k72 : Int32 → me_M → Option (Int32 × me_M)) (hlen : bs.length ≤ 61 * u) (hd : ∀ v, v < n → dr v < 2 ^ n ∧ μ0.1 1 v = nI (dr v) ∧ ν0.1 1 v = nI (dr v)) (hp : ∀ v, v < u → dp v ≤ v ∧ μ0.1 10 v = nI (dp v) ∧ ν0.1 4 v = nI (dp v)) (h500 : μ0.1 500 0 = nI w) (h501 : μ0.1 501 0 = nI c) (h502 : μ0.1 502 0 = nI l) (h503 : μ0.1 503 0 = nI k) (hn : ν0.1 100 0 = nI n) (h105 : ν0.1 105 0 = nI w) (h106 : ν0.1 106 0 = nI c) (h107 : ν0.1 107 0 = nI l) (h108 : ν0.1 108 0 = nI k) (hof : ν0.1 3 u = nI bs.length) (hC : ta_C μ0 bs) (hM : ta_M ν0 bs) :
    ∃ best μ' ν', fK_bestReference N n (nI u) μ0 = some (nI best, μ') ∧ fM_pack_102 N k72 N (nI u) 0 1048576 0 ν0 = fM_pack_239 N k72 (nI u) (nI best) ν' ∧ (best ≤ 6 ∧ best ≤ u ∧ (dr u = 0 → best = 0) ∧ (pw_rec (dr u) (dr (u - best)) u best w l k n).length ≤ 61) ∧ ta_C μ' bs ∧ ta_M ν' bs ∧ me_fr [3, 301, 7, 8, 9] [] μ0 μ' ∧ me_fr [2, 103, 5] [] ν0 ν' := by
  have hpw := dr_pow h12
  have hdu := hd u hu
  -- how far
  have hfar : ∃ far, fK_bestReference N n (nI u) μ0 = fK_bestReference_44 N n N (nI u) (nI bs.length) 0 800 (nI far) 0 μ0 ∧ far ≤ w ∧ far ≤ u ∧ (dr u = 0 → far = 0) ∧ (dr u ≠ 0 → far = w ∨ far = u) := by
    unfold fK_bestReference fK_bestReference_39
    rw [ba_gi hu (by omega), nI_clamp (by omega), hdu.2.1, hC.1, h500]
    by_cases e : dr u = 0
    · rw [if_pos ((nI_eq0 (by omega)).mpr e)]
      exact ⟨0, rfl, by omega, by omega, fun _ => rfl, fun z => absurd e z⟩
    · rw [if_neg (fun q => e ((nI_eq0 (by omega)).mp q))]
      by_cases e2 : u < w
      · rw [if_pos (nI_lt e2 (by omega))]
        exact ⟨u, rfl, by omega, by omega, fun z => absurd z e, fun _ => Or.inr rfl⟩
      · rw [if_neg (nI_nlt (by omega) (by omega))]
        exact ⟨w, rfl, by omega, by omega, fun z => absurd z e, fun _ => Or.inl rfl⟩
  obtain ⟨far, hf1, hf2, hf3, hf4, hf5⟩ := hfar
  rw [hf1]
  refine lp_r (fun o p => ∃ best μ' ν', o = some (nI best, μ') ∧ p = fM_pack_239 N k72 (nI u) (nI best) ν' ∧ (best ≤ 6 ∧ best ≤ u ∧ (dr u = 0 → best = 0) ∧ (pw_rec (dr u) (dr (u - best)) u best w l k n).length ≤ 61) ∧ ta_C μ' bs ∧ ta_M ν' bs ∧ me_fr [3, 301, 7, 8, 9] [] μ0 μ' ∧ me_fr [2, 103, 5] [] ν0 ν')
    (fun F r (s : Nat × Nat × me_M) => fK_bestReference_44 N n F (nI u) (nI bs.length) (nI s.1) (nI s.2.1) (nI far) (nI r) s.2.2)
    (fun F r (s : Nat × Nat × me_M) => fM_pack_102 N k72 F (nI u) (nI s.1) (nI s.2.1) (nI r) s.2.2)
    (fun r s t => s.1 = t.1 ∧ ((r = 0 ∧ s.1 = 0 ∧ s.2.1 = 800 ∧ t.2.1 = 1048576) ∨ (1 ≤ r ∧ s.2.1 = t.2.1 ∧ s.2.1 = (pw_rec (dr u) (dr (u - s.1)) u s.1 w l k n).length ∧ s.2.1 ≤ 61 ∧ s.1 < r)) ∧ ta_C s.2.2 bs ∧ ta_M t.2.2 bs ∧ me_fr [3, 301, 7, 8, 9] [] μ0 s.2.2 ∧ me_fr [2, 103, 5] [] ν0 t.2.2)
    (far + 1) ?_ ?_ (far + 1) N N 0 (0, 800, μ0) (0, 1048576, ν0) (by omega) (by omega) (by omega) ⟨rfl, Or.inl ⟨rfl, rfl, rfl, rfl⟩, hC, hM, me_fr.rf, me_fr.rf⟩
  · rintro F E r ⟨be, fw, μ⟩ ⟨be', fw', ν⟩ hr ⟨i1, i2, i3, i4, i5, i6⟩ ih
    dsimp only at i1 i2 i3 i4 i5 i6 ih ⊢
    subst i1
    show ∃ best μ' ν', fK_bestReference_44b N n (fK_bestReference_44 N n F) (nI u) (nI bs.length) (nI be) (nI fw) (nI far) (nI r) μ = some (nI best, μ') ∧ fM_pack_102b N k72 (fM_pack_102 N k72 E) (nI u) (nI be) (nI fw') (nI r) ν = fM_pack_239 N k72 (nI u) (nI best) ν' ∧ _
    have hdv : ∀ v, v < n → dr v < 2 ^ n ∧ μ.1 1 v = nI (dr v) ∧ ν.1 1 v = nI (dr v) := fun v hv => ⟨(hd v hv).1, by rw [i5.1 1 (by decide)]; exact (hd v hv).2.1, by rw [i6.1 1 (by decide)]; exact (hd v hv).2.2⟩
    have hur := hdv (u - r) (by omega)
    have huu := hdv u hu
    -- a trial, on both sides
    have trial : (dr u = 0 → r = 0) → ∃ best μ' ν', fK_bestReference_67 N n (fK_bestReference_44 N n F) (nI u) (nI bs.length) (nI be) (nI fw) (nI far) (nI r) μ = some (nI best, μ') ∧ fM_pack_168 N k72 (fM_pack_102 N k72 E) (nI u) (nI be) (nI fw') (nI r) ν = fM_pack_239 N k72 (nI u) (nI best) ν' ∧ (best ≤ 6 ∧ best ≤ u ∧ (dr u = 0 → best = 0) ∧ (pw_rec (dr u) (dr (u - best)) u best w l k n).length ≤ 61) ∧ ta_C μ' bs ∧ ta_M ν' bs ∧ me_fr [3, 301, 7, 8, 9] [] μ0 μ' ∧ me_fr [2, 103, 5] [] ν0 ν' := by
      intro hr0
      have hle := pw_len (x := dr u) (y := dr (u - r)) (u := u) (r := r) (w := w) (l := l) (k := k) h12 (by omega) huu.1 (by omega) hl9 hk hk4
      obtain ⟨μ1, a1, a2, a3⟩ := pw_C (N := N) (n := n) (u := u) (x := dr u) (y := dr (u - r)) (r := r) (w := w) (l := l) (k := k) hN h12 hu huu.1 hur.1 (by omega) (by omega) hr0 hl9 hw6 hk hk4 huu.2.1 hur.2.1 (by rw [i5.1 500 (by decide)]; exact h500) (by rw [i5.1 502 (by decide)]; exact h502) (by rw [i5.1 503 (by decide)]; exact h503) i3 (by omega)
      obtain ⟨ν1, b1, b2, b3⟩ := pw_M (N := N) (n := n) (u := u) (x := dr u) (y := dr (u - r)) (r := r) (w := w) (l := l) (k := k) hN h12 hu huu.1 hur.1 (by omega) (by omega) hl9 hw6 hk hk4 (by rw [i6.1 100 (by decide)]; exact hn) huu.2.2 hur.2.2 (by rw [i6.1 105 (by decide)]; exact h105) (by rw [i6.1 107 (by decide)]; exact h107) (by rw [i6.1 108 (by decide)]; exact h108) i4 (by omega)
      have hofs : ν1.1 3 u = nI bs.length := by rw [b3.1 3 (by decide), i6.1 3 (by decide)]; exact hof
      have cC := px_cutC a2
      have cM := px_cutM b2
      have fC : me_fr [3, 301, 7, 8, 9] [] μ0 (me_wi μ1 301 0 (nI bs.length)) := (i5.tr a3).wi (by decide)
      have fM : me_fr [2, 103, 5] [] ν0 (me_wi ν1 103 0 (nI bs.length)) := (i6.tr b3).wi (by decide)
      unfold fK_bestReference_67 fK_bestReference_102 fK_bestReference_110 fM_pack_168 fM_pack_215 fM_pack_231 fM_pack_233
      rw [a1, b1, ba_b, ba_b, ba_gi (n := 13) (by omega) (by decide), ba_gi (n := 13) (by omega) (by decide), nI_clamp (by omega), a2.1, b2.1, hofs, List.length_append, pk_sub (by omega), show bs.length + (pw_rec (dr u) (dr (u - r)) u r w l k n).length - bs.length = (pw_rec (dr u) (dr (u - r)) u r w l k n).length by omega, nI_1]
      rcases i2 with ⟨q1, q2, q3, q4⟩ | ⟨q1, q2, q3, q4, q5⟩
      · subst q1 q3 q4
        have h61 := pw_len0 (x := dr u) (y := dr (u - 0)) (u := u) (w := w) (l := l) (k := k) h12 (by omega) huu.1 hl9 hk hk4
        rw [if_neg (nI_ge (by omega) (by omega)), if_neg (nI_ge (by omega) (by omega)), if_neg (nI_ge (by omega) (by omega))]
        exact ih (0, _, _) (0, _, _) ⟨rfl, Or.inr ⟨by omega, rfl, rfl, h61, by omega⟩, cC, cM, fC, fM⟩
      · rw [← q2]
        by_cases e : fw ≤ (pw_rec (dr u) (dr (u - r)) u r w l k n).length
        · rw [if_pos (nI_le e (by omega)), if_pos (nI_le e (by omega)), if_pos (nI_le e (by omega))]
          exact ih (be, fw, _) (be, fw, _) ⟨rfl, Or.inr ⟨by omega, rfl, q3, q4, by dsimp only; omega⟩, cC, cM, fC, fM⟩
        · rw [if_neg (nI_ge (by omega) (by omega)), if_neg (nI_ge (by omega) (by omega)), if_neg (nI_ge (by omega) (by omega))]
          have h61 : (pw_rec (dr u) (dr (u - r)) u r w l k n).length ≤ 61 := by omega
          exact ih (r, (pw_rec (dr u) (dr (u - r)) u r w l k n).length, _) (r, (pw_rec (dr u) (dr (u - r)) u r w l k n).length, _) ⟨rfl, Or.inr ⟨by omega, rfl, rfl, h61, Nat.lt_succ_self r⟩, cC, cM, fC, fM⟩
    -- a node that may not be referred to
    have skip : 1 ≤ r → ∃ best μ' ν', fK_bestReference_44 N n F (nI u) (nI bs.length) (nI be) (nI fw) (nI far) (nI (r + 1)) μ = some (nI best, μ') ∧ fM_pack_102 N k72 E (nI u) (nI be) (nI fw') (nI (r + 1)) ν = fM_pack_239 N k72 (nI u) (nI best) ν' ∧ (best ≤ 6 ∧ best ≤ u ∧ (dr u = 0 → best = 0) ∧ (pw_rec (dr u) (dr (u - best)) u best w l k n).length ≤ 61) ∧ ta_C μ' bs ∧ ta_M ν' bs ∧ me_fr [3, 301, 7, 8, 9] [] μ0 μ' ∧ me_fr [2, 103, 5] [] ν0 ν' := by
      intro h1
      refine ih (be, fw, μ) (be, fw', ν) ⟨rfl, ?_, i3, i4, i5, i6⟩
      rcases i2 with ⟨q1, -⟩ | ⟨q1, q2, q3, q4, q5⟩
      · omega
      · exact Or.inr ⟨by omega, q2, q3, q4, by dsimp only; omega⟩
    unfold fK_bestReference_44b fM_pack_102b fM_pack_133
    rw [if_neg (nI_nlt (by omega) (by omega)), show ν.1 105 0 = nI w by rw [i6.1 105 (by decide)]; exact h105, if_neg (nI_nlt (by omega) (by omega)), if_neg (nI_nlt (by omega) (by omega)), ba_gi (n := 12) (i := u) (by omega) (by decide), nI_clamp (n := u) (by omega), huu.2.2]
    by_cases e0 : r = 0
    · rw [if_pos ((nI_eq0 (by omega)).mpr e0), if_pos ((nI_eq0 (by omega)).mpr e0), if_pos ((nI_eq0 (by omega)).mpr e0)]
      exact trial (fun _ => e0)
    · have ed : dr u ≠ 0 := fun z => by have := hf4 z; omega
      have e0' : ¬ nI r = 0 := fun q => e0 ((nI_eq0 (by omega)).mp q)
      have hpr := hp (u - r) (by omega)
      unfold fK_mayBeReferredTo fK_mayBeReferredTo_29 fK_mayBeReferredTo_30 fK_bestReference_110 fM_pack_233
      rw [if_neg e0', if_neg e0', if_neg (fun q => ed ((nI_eq0 (by omega)).mp q)), if_neg e0', pk_sub (show r ≤ u by omega), ba_gi (n := n) (i := u - r) (by omega) (by omega), ba_gi (n := n) (i := u - r) (by omega) (by omega), ba_gi (n := 12) (i := u - r) (by omega) (by decide), ba_gi (n := 12) (i := u - r) (by omega) (by decide), nI_clamp (n := u - r) (by omega), hur.2.1, hur.2.2, ba_gz0, ba_gz1, i5.1 501 (by decide), h501, i6.1 106 (by decide), h106, i5.1 10 (by decide), hpr.2.1, i6.1 4 (by decide), hpr.2.2, nI_1]
      by_cases e1 : dr (u - r) = 0
      · rw [if_pos ((nI_eq0 (by omega)).mpr e1), if_pos ((nI_eq0 (by omega)).mpr e1), ba_b, ba_00]
        exact skip (by omega)
      · rw [if_neg (fun q => e1 ((nI_eq0 (by omega)).mp q)), if_neg (fun q => e1 ((nI_eq0 (by omega)).mp q))]
        by_cases e2 : c ≤ dp (u - r)
        · rw [if_pos (nI_le e2 (by omega)), if_pos (nI_le e2 (by omega)), ba_b, ba_00]
          exact skip (by omega)
        · rw [if_neg (nI_ge (by omega) (by omega)), if_neg (nI_ge (by omega) (by omega)), ba_b, ba_10]
          exact trial (fun z => absurd z ed)
  · rintro F E ⟨be, fw, μ⟩ ⟨be', fw', ν⟩ ⟨i1, i2, i3, i4, i5, i6⟩
    dsimp only at i1 i2 i3 i4 i5 i6 ⊢
    subst i1
    show ∃ best μ' ν', fK_bestReference_44b N n (fK_bestReference_44 N n F) (nI u) (nI bs.length) (nI be) (nI fw) (nI far) (nI (far + 1)) μ = some (nI best, μ') ∧ fM_pack_102b N k72 (fM_pack_102 N k72 E) (nI u) (nI be) (nI fw') (nI (far + 1)) ν = fM_pack_239 N k72 (nI u) (nI best) ν' ∧ _
    rcases i2 with ⟨q1, -⟩ | ⟨q1, q2, q3, q4, q5⟩
    · omega
    refine ⟨be, μ, ν, ?_, ?_, ⟨by omega, by omega, fun z => by have := hf4 z; omega, by omega⟩, i3, i4, i5, i6⟩
    · unfold fK_bestReference_44b fK_bestReference_116
      rw [if_pos (nI_lt (by omega) (by omega))]
    · unfold fM_pack_102b
      rw [show ν.1 105 0 = nI w by rw [i6.1 105 (by decide)]; exact h105]
      by_cases e1 : w < far + 1
      · rw [if_pos (nI_lt e1 (by omega))]
      · rw [if_neg (nI_nlt (by omega) (by omega))]
        by_cases e2 : u < far + 1
        · rw [if_pos (nI_lt e2 (by omega))]
        · have ed : dr u = 0 := Classical.byContradiction fun z => by have := hf5 z; omega
          rw [if_neg (nI_nlt (by omega) (by omega)), if_neg (fun q => by have := (nI_eq0 (by omega)).mp q; omega), ba_gi (n := 12) (i := u) (by omega) (by decide), nI_clamp (n := u) (by omega), i6.1 1 (by decide), hdu.2.2, if_pos ((nI_eq0 (by omega)).mpr ed)]
