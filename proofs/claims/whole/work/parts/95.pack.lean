/- all records -/
theorem py_all {N n w c l k : Nat} {dr : Nat → Nat} (hN : 4096 ≤ N) (h1 : 1 ≤ n) (h12 : n ≤ 12) (hw6 : w ≤ 6) (hc3 : c ≤ 3) (hl9 : l ≤ 9) (hk : 1 ≤ k) (hk4 : k ≤ 4) {μ ν : me_M} (hd : ∀ v, v < n → dr v < 2 ^ n ∧ μ.1 1 v = nI (dr v) ∧ ν.1 1 v = nI (dr v)) (h500 : μ.1 500 0 = nI w) (h501 : μ.1 501 0 = nI c) (h502 : μ.1 502 0 = nI l) (h503 : μ.1 503 0 = nI k) (hn : ν.1 100 0 = nI n) (h105 : ν.1 105 0 = nI w) (h106 : ν.1 106 0 = nI c) (h107 : ν.1 107 0 = nI l) (h108 : ν.1 108 0 = nI k) :
    ∃ (μ' ν' : me_M) (r : Int32), fK_writeAll N n μ = some μ' ∧ fM_pack_72 N N 0 (me_wi ν 103 0 0) = some (r, ν') ∧ μ'.1 301 0 = r ∧ rl_I n μ' ν' ∧ me_fr [3, 301, 5, 7, 8, 9, 10] [] μ μ' ∧ me_fr [2, 103, 3, 4, 5] [] ν ν' := by
  have hpw := dr_pow h12
  refine lp_r (fun o p => ∃ (μ' ν' : me_M) (r : Int32), o = some μ' ∧ p = some (r, ν') ∧ μ'.1 301 0 = r ∧ rl_I n μ' ν' ∧ me_fr [3, 301, 5, 7, 8, 9, 10] [] μ μ' ∧ me_fr [2, 103, 3, 4, 5] [] ν ν')
    (fun F u m => fK_writeAll_10 N n F (nI u) m) (fun F u m => fM_pack_72 N F (nI u) m)
    (fun u a b => ∃ (bs : List Nat) (dp : Nat → Nat), px_b bs ∧ bs.length ≤ 61 * u ∧ ta_C a bs ∧ ta_M b bs ∧ (∀ v, v < u → dp v ≤ v ∧ a.1 10 v = nI (dp v) ∧ b.1 4 v = nI (dp v)) ∧ (∀ v, v < u → ∃ o, o ≤ 800 ∧ a.1 5 v = nI o ∧ b.1 3 v = nI o) ∧ me_fr [3, 301, 5, 7, 8, 9, 10] [] μ a ∧ me_fr [2, 103, 3, 4, 5] [] ν b)
    n ?_ ?_ n N N 0 (me_wi μ 301 0 0) (me_wi ν 103 0 0) (by omega) (by omega) (by omega) ⟨[], fun _ => 0, px_nil, Nat.zero_le _, ⟨by rw [me_wi_s]; rfl, fun p hp => absurd hp (Nat.not_lt_zero _)⟩, ⟨by rw [me_wi_s]; rfl, fun p hp => absurd hp (Nat.not_lt_zero _)⟩, fun v hv => absurd hv (Nat.not_lt_zero _), fun v hv => absurd hv (Nat.not_lt_zero _), me_fr.rf.wi (by decide), me_fr.rf.wi (by decide)⟩
  · rintro F E u a b hu ⟨bs, dp, i1, i2, i3, i4, i5, i6, i7, i8⟩ ih
    show ∃ (μ' ν' : me_M) (r : Int32), fK_writeAll_10b N n (fK_writeAll_10 N n F) (nI u) a = some μ' ∧ fM_pack_72b N (fM_pack_72 N E) (nI u) b = some (r, ν') ∧ _
    have fa : me_fr [3, 301, 5, 7, 8, 9, 10] [] μ (me_wi a 5 u (nI bs.length)) := i7.wi (by decide)
    have fb : me_fr [2, 103, 3, 4, 5] [] ν (me_wi b 3 u (nI bs.length)) := i8.wi (by decide)
    have cC : ta_C (me_wi a 5 u (nI bs.length)) bs := by
      unfold ta_C
      rw [me_wi_c _ _ _ _ (by decide), me_wi_c _ _ _ _ (by decide)]
      exact i3
    have cM : ta_M (me_wi b 3 u (nI bs.length)) bs := by
      unfold ta_M
      rw [me_wi_c _ _ _ _ (by decide), me_wi_c _ _ _ _ (by decide)]
      exact i4
    have hd' : ∀ v, v < n → dr v < 2 ^ n ∧ (me_wi a 5 u (nI bs.length)).1 1 v = nI (dr v) ∧ (me_wi b 3 u (nI bs.length)).1 1 v = nI (dr v) := fun v hv => ⟨(hd v hv).1, by rw [fa.1 1 (by decide)]; exact (hd v hv).2.1, by rw [fb.1 1 (by decide)]; exact (hd v hv).2.2⟩
    obtain ⟨be, μ1, ν1, g1, g2, ⟨g3, g4, g5, g6⟩, g7, g8, g9, g10⟩ := px_best (N := N) (n := n) (u := u) (w := w) (c := c) (l := l) (k := k) (dr := dr) (dp := dp) (μ0 := me_wi a 5 u (nI bs.length)) (ν0 := me_wi b 3 u (nI bs.length)) (bs := bs) hN h12 hu hw6 hc3 hl9 hk hk4 (fM_pack_72 N E) i2 hd' (fun v hv => ⟨(i5 v hv).1, by rw [me_wi_c _ _ _ _ (by decide)]; exact (i5 v hv).2.1, by rw [me_wi_c _ _ _ _ (by decide)]; exact (i5 v hv).2.2⟩) (by rw [fa.1 500 (by decide)]; exact h500) (by rw [fa.1 501 (by decide)]; exact h501) (by rw [fa.1 502 (by decide)]; exact h502) (by rw [fa.1 503 (by decide)]; exact h503) (by rw [fb.1 100 (by decide)]; exact hn) (by rw [fb.1 105 (by decide)]; exact h105) (by rw [fb.1 106 (by decide)]; exact h106) (by rw [fb.1 107 (by decide)]; exact h107) (by rw [fb.1 108 (by decide)]; exact h108) (by rw [me_wi_s]) cC cM
    have fa1 := fa.tr (g9.mono (cs' := [3, 301, 5, 7, 8, 9, 10]) (ds' := []) (by decide) (by decide))
    have fb1 := fb.tr (g10.mono (cs' := [2, 103, 3, 4, 5]) (ds' := []) (by decide) (by decide))
    have hdu := hd u hu
    have hdr := hd (u - be) (by omega)
    obtain ⟨μ2, a1, a2, a3⟩ := pw_C (N := N) (n := n) (u := u) (x := dr u) (y := dr (u - be)) (r := be) (w := w) (l := l) (k := k) hN h12 hu hdu.1 hdr.1 g3 g4 g5 hl9 hw6 hk hk4 (by rw [fa1.1 1 (by decide)]; exact hdu.2.1) (by rw [fa1.1 1 (by decide)]; exact hdr.2.1) (by rw [fa1.1 500 (by decide)]; exact h500) (by rw [fa1.1 502 (by decide)]; exact h502) (by rw [fa1.1 503 (by decide)]; exact h503) g7 (by omega)
    obtain ⟨ν2, b1, b2, b3⟩ := pw_M (N := N) (n := n) (u := u) (x := dr u) (y := dr (u - be)) (r := be) (w := w) (l := l) (k := k) hN h12 hu hdu.1 hdr.1 g3 g4 hl9 hw6 hk hk4 (by rw [fb1.1 100 (by decide)]; exact hn) (by rw [fb1.1 1 (by decide)]; exact hdu.2.2) (by rw [fb1.1 1 (by decide)]; exact hdr.2.2) (by rw [fb1.1 105 (by decide)]; exact h105) (by rw [fb1.1 107 (by decide)]; exact h107) (by rw [fb1.1 108 (by decide)]; exact h108) g8 (by omega)
    have fa2 := fa1.tr (a3.mono (cs' := [3, 301, 5, 7, 8, 9, 10]) (ds' := []) (by decide) (by decide))
    have fb2 := fb1.tr (b3.mono (cs' := [2, 103, 3, 4, 5]) (ds' := []) (by decide) (by decide))
    -- what the later cells hold
    have k10 : ∀ v, v < u → dp v ≤ v ∧ μ2.1 10 v = nI (dp v) ∧ ν2.1 4 v = nI (dp v) := fun v hv => ⟨(i5 v hv).1, by rw [a3.1 10 (by decide), g9.1 10 (by decide), me_wi_c _ _ _ _ (by decide)]; exact (i5 v hv).2.1, by rw [b3.1 4 (by decide), g10.1 4 (by decide), me_wi_c _ _ _ _ (by decide)]; exact (i5 v hv).2.2⟩
    have k5 : ∀ v, v < u + 1 → ∃ o, o ≤ 800 ∧ μ2.1 5 v = nI o ∧ ν2.1 3 v = nI o := by
      intro v hv
      rw [a3.1 5 (by decide), g9.1 5 (by decide), b3.1 3 (by decide), g10.1 3 (by decide)]
      by_cases e : v = u
      · subst e
        exact ⟨bs.length, by omega, by rw [me_wi_s], by rw [me_wi_s]⟩
      · rw [me_wi_n _ _ _ _ e, me_wi_n _ _ _ _ e]
        exact i6 v (by omega)
    have last : ∀ d, d ≤ u → ∃ (μ' ν' : me_M) (r : Int32), fK_writeAll_10 N n F (nI (u + 1)) (me_wi μ2 10 u (nI d)) = some μ' ∧ fM_pack_72 N E (nI (u + 1)) (me_wi ν2 4 u (nI d)) = some (r, ν') ∧ μ'.1 301 0 = r ∧ rl_I n μ' ν' ∧ me_fr [3, 301, 5, 7, 8, 9, 10] [] μ μ' ∧ me_fr [2, 103, 3, 4, 5] [] ν ν' := by
      intro d hdle
      refine ih _ _ ⟨bs ++ pw_rec (dr u) (dr (u - be)) u be w l k n, fun v => if v = u then d else dp v, px_app i1 (px_rec _ _ _ _ _ _ _ _), by rw [List.length_append]; omega, ?_, ?_, fun v hv => ?_, fun v hv => ?_, fa2.wi (by decide), fb2.wi (by decide)⟩
      · unfold ta_C
        rw [me_wi_c _ _ _ _ (by decide), me_wi_c _ _ _ _ (by decide)]
        exact a2
      · unfold ta_M
        rw [me_wi_c _ _ _ _ (by decide), me_wi_c _ _ _ _ (by decide)]
        exact b2
      · dsimp only
        by_cases e : v = u
        · subst e
          rw [if_pos rfl, me_wi_s, me_wi_s]
          exact ⟨hdle, rfl, rfl⟩
        · rw [if_neg e, me_wi_n _ _ _ _ e, me_wi_n _ _ _ _ e]
          exact k10 v (by omega)
      · rw [me_wi_c _ _ _ _ (by decide), me_wi_c _ _ _ _ (by decide)]
        exact k5 v hv
    unfold fK_writeAll_10b fK_writeAll_70 fM_pack_72b
    rw [if_neg (nI_ge hu (by omega)), show b.1 100 0 = nI n by rw [i8.1 100 (by decide)]; exact hn, if_neg (nI_ge hu (by omega)), ba_gi (n := n + 1) (i := u) (by omega) (by omega), ba_gi (n := 13) (i := u) (by omega) (by decide), nI_clamp (n := u) (by omega), i3.1, i4.1, g1, ba_b]
    dsimp only
    rw [g2, a1, ba_b, nI_1]
    unfold fM_pack_239 fM_pack_274
    rw [b1, ba_b, ba_gi (n := n) (i := u) hu (by omega), ba_gi (n := 12) (i := u) (by omega) (by decide), nI_1, nI_clamp (n := u) (by omega)]
    by_cases e : be = 0
    · rw [if_pos ((nI_eq0 (by omega)).mpr e), if_pos (show nI be ≤ 0 by rw [e]; decide)]
      exact last 0 (Nat.zero_le _)
    · have hub := k10 (u - be) (by omega)
      rw [if_neg (fun q => e ((nI_eq0 (by omega)).mp q)), if_neg (nI_nle (by omega) (by omega)), pk_sub g4, ba_gi (n := n) (i := u - be) (by omega) (by omega), ba_gi (n := 12) (i := u - be) (by omega) (by decide), nI_clamp (n := u - be) (by omega), hub.2.1, hub.2.2, nI_1, show (1 : Int32) = nI 1 from rfl, nI_add, show 1 + dp (u - be) = dp (u - be) + 1 by omega, ba_gi (n := n) (i := u) hu (by omega), ba_gi (n := 12) (i := u) (by omega) (by decide)]
      exact last (dp (u - be) + 1) (by omega)
  · rintro F E a b ⟨bs, dp, i1, i2, i3, i4, i5, i6, i7, i8⟩
    show ∃ (μ' ν' : me_M) (r : Int32), fK_writeAll_10b N n (fK_writeAll_10 N n F) (nI n) a = some μ' ∧ fM_pack_72b N (fM_pack_72 N E) (nI n) b = some (r, ν') ∧ _
    have hbn : b.1 100 0 = nI n := by rw [i8.1 100 (by decide)]; exact hn
    unfold fK_writeAll_10b fK_writeAll_77 fM_pack_72b fM_pack_281
    rw [if_pos (nI_le (Nat.le_refl _) (by omega)), hbn, if_pos (nI_le (Nat.le_refl _) (by omega)), ba_gi (n := n + 1) (i := n) (by omega) (by omega), ba_gi (n := 13) (i := n) (by omega) (by decide), nI_clamp (n := n) (by omega), i3.1, i4.1]
    refine ⟨_, _, _, rfl, rfl, ?_, ⟨?_, ⟨bs, i1, by omega, ⟨?_, ?_⟩, ⟨?_, ?_⟩⟩, fun u hu => ?_, w, c, l, k, ⟨hw6, hc3, hl9, hk, hk4⟩, ?_, ?_⟩, i7.wi (by decide), i8.wi (by decide)⟩
    · rw [me_wi_c _ _ _ _ (by decide), me_wi_c _ _ _ _ (by decide), i3.1, i4.1]
    · rw [me_wi_c _ _ _ _ (by decide)]; exact hbn
    · rw [me_wi_c _ _ _ _ (by decide)]; exact i3.1
    · rw [me_wi_c _ _ _ _ (by decide)]; exact i3.2
    · rw [me_wi_c _ _ _ _ (by decide)]; exact i4.1
    · rw [me_wi_c _ _ _ _ (by decide)]; exact i4.2
    · by_cases e : u = n
      · subst e
        exact ⟨bs.length, by omega, by rw [me_wi_s], by rw [me_wi_s]⟩
      · rw [me_wi_n _ _ _ _ e, me_wi_n _ _ _ _ e]
        exact i6 u (by omega)
    · rw [me_wi_c _ _ _ _ (by decide), me_wi_c _ _ _ _ (by decide), me_wi_c _ _ _ _ (by decide), me_wi_c _ _ _ _ (by decide), i7.1 500 (by decide), i7.1 501 (by decide), i7.1 502 (by decide), i7.1 503 (by decide)]
      exact ⟨h500, h501, h502, h503⟩
    · rw [me_wi_c _ _ _ _ (by decide), me_wi_c _ _ _ _ (by decide), me_wi_c _ _ _ _ (by decide), me_wi_c _ _ _ _ (by decide), i8.1 105 (by decide), i8.1 106 (by decide), i8.1 107 (by decide), i8.1 108 (by decide)]
      exact ⟨h105, h106, h107, h108⟩
