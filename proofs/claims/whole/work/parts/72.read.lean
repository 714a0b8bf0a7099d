/- all records, read side by side -/
theorem rc_skip {N n f D : Nat} {μ : me_M} (h : μ.1 1209 0 = nI f) (hf : f ≤ 10) (hD : D = 0) (hv : f ≠ 0 ∨ μ.1 1212 0 = nI D) : fD_goesOn N n μ = some 0 ∧ fD_readRecord_50 N n μ = fD_readRecord_114 N n μ := by
  have hg : fD_goesOn N n μ = some 0 := by
    by_cases h0 : f = 0
    · subst h0
      rcases hv with hv | hv
      · exact absurd rfl hv
      · rw [rc_goD h hv (by omega), if_pos hD]
    · exact rc_go0 h hf h0
  refine ⟨hg, ?_⟩
  unfold fD_readRecord_50 fD_readRecord_82 fD_readRecord_103
  rw [hg, ba_b, ba_00, ba_b, ba_00, ba_b, ba_00]
theorem rc_rec {N n u : Nat} {k2 : Int32 → me_M → Option me_M} {μ ν : me_M} (hN : 4096 ≤ N) (h1 : 1 ≤ n) (h12 : n ≤ 12) (hu : u < n) (eu : μ.1 1207 0 = nI u) (har : rc_ar n u μ ν) (hr : rd n μ ν 0) (e0 : μ.1 1210 0 = nI 0) (e1 : μ.1 1211 0 = nI 0) (e2 : μ.1 1213 0 = nI 0) (e3 : ν.1 113 0 = nI 0) (e4 : ν.1 114 0 = nI 0) (e5 : ν.1 8 u = nI 0) (e6 : ν.1 9 u = nI 0) : rc_post n u μ ν k2 N (fD_readRecord N n μ) ((fM_nextGamma N ν).bind fun r16 => if (r16.2.1 112 0) = 0 then if r16.1 ≤ (r16.2.1 100 0) then fM_read_74 N k2 (nI u) r16.1 r16.2 else fM_read_74 N k2 (nI u) r16.1 (me_wi r16.2 112 0 (3 : Int32)) else fM_read_74 N k2 (nI u) r16.1 r16.2) := by
  obtain ⟨x, μ2, x', ν2, f2, a1, a2, a3, a4, a5, -, a7⟩ := bt_gamma hN hr
  obtain ⟨hI2, t2, t3, t4, -⟩ := id a5
  unfold fD_readRecord
  rw [a1, a2, ba_b, ba_b]
  dsimp only
  generalize hμ3 : me_wi μ2 1212 0 x = μ3
  have kD : me_fr [1212] [] μ2 μ3 := by rw [← hμ3]; exact me_fr.rf.wi (by decide)
  have ed : μ3.1 1212 0 = x := by rw [← hμ3, me_wi_s]
  have hr3 : rd n μ3 ν2 f2 := a5.of (rl_fr kD (by decide)) (fun _ _ => rfl)
  have kA : me_fr [1208, 1209, 1212] [] μ μ3 := (a3.mono (by decide) (by decide)).tr (kD.mono (by decide) (by decide))
  have t3' : μ3.1 1209 0 = nI f2 := by rw [kD.1 1209 (by decide)]; exact t3
  have kA' : me_fr [1208, 1209, 1210, 1211, 1212, 1213] [] μ μ3 := kA.mono (by decide) (by decide)
  have kB' : me_fr [111, 112, 113, 114, 8, 9] [] ν ν2 := a4.mono (by decide) (by decide)
  have kC : ∀ w, w ≠ u → ν2.1 8 w = ν.1 8 w ∧ ν2.1 9 w = ν.1 9 w := fun w _ => by rw [a4.1 8 (by decide), a4.1 9 (by decide)]; exact ⟨rfl, rfl⟩
  have eu3 : μ3.1 1207 0 = nI u := by rw [kA.1 1207 (by decide)]; exact eu
  rw [ed, t4]
  by_cases hf2 : f2 = 0
  · obtain ⟨d, hd, rfl, rfl⟩ := a7 hf2
    subst hf2
    rw [if_pos nI_0, hI2.1]
    by_cases q : d ≤ n
    · rw [if_pos (nI_le q (by omega)), if_pos (nI_le q (by omega))]
      unfold fD_readRecord_25 fM_read_74
      rw [bt_failF, ba_b, t4, if_pos nI_0]
      by_cases hd0 : d = 0
      · obtain ⟨g1, g2⟩ := rc_skip (N := N) (n := n) (D := d) t3' t2 hd0 (Or.inr ed)
        rw [g1, ba_b, ba_00, g2, hd0, if_pos (by decide)]
        have hin : rc_in n u μ ν μ3 ν2 0 := ⟨kA', kB', kC, by omega, by omega, by rw [kA.1 1210 (by decide)]; exact e0, by rw [a4.1 8 (by decide)]; exact e5, fun _ => by rw [a4.1 9 (by decide)]; exact e6, fun e => absurd rfl e⟩
        exact rc_114 h12 hu eu3 hr3 (fun _ => hin) ⟨kA', kB', kC⟩ (L := 0) (T := 0) (fun _ => ⟨Nat.two_pow_pos n, by decide, by rw [kA.1 1211 (by decide)]; exact e1, by rw [a4.1 113 (by decide)]; exact e3, by rw [kA.1 1213 (by decide)]; exact e2, by rw [a4.1 114 (by decide)]; exact e4⟩)
      · rw [rc_goD t3' ed (by omega), ba_b, if_neg hd0, ba_10, if_neg (nI_nle (by omega) (by omega))]
        exact rc_ref hN h1 h12 hu (by omega) (by omega) eu har hr3 kA a4 e0 e1 e2 e3 e4 e5 e6 ed
    · rw [if_neg (nI_ge (by omega) (by omega)), if_neg (nI_ge (by omega) (by omega))]
      unfold fD_readRecord_25 fM_read_74
      rw [show (3 : Int32) = nI 3 from rfl, bt_failT t3' t2, if_pos rfl, ba_b, me_wi_s, if_neg (show ¬ nI 3 = 0 by decide)]
      obtain ⟨g1, g2⟩ := rc_skip (N := N) (n := n) (D := 0) (f := 3) (μ := me_wi μ3 1209 0 (nI 3)) (me_wi_s _ _ _ _) (by decide) rfl (Or.inl (by decide))
      rw [g1, ba_b, ba_00, g2]
      refine rc_114 h12 hu (by rw [me_wi_c _ _ _ _ (by decide)]; exact eu3) (hr3.fault (f := 3) (by decide) (by decide)) (fun e => by omega) ⟨kA'.wi (by decide), kB'.wi (by decide), fun w hw => ?_⟩ (r := 0) (L := 0) (T := 0) (fun e => by omega)
      rw [me_wi_c _ _ _ _ (by decide), me_wi_c _ _ _ _ (by decide)]
      exact kC w hw
  · have ne : ¬ nI f2 = 0 := fun e => hf2 ((nI_eq0 (by omega)).mp e)
    obtain ⟨g1, g2⟩ := rc_skip (N := N) (n := n) (D := 0) t3' t2 rfl (Or.inl hf2)
    have hC : ∀ b : Int32, fD_readRecord_25 N n b μ3 = fD_readRecord_114 N n μ3 := by
      intro b
      unfold fD_readRecord_25
      rw [rc_failN t3' t2 hf2, ba_b, g1, ba_b, ba_00, g2]
    rw [hC, hC, if_neg ne]
    unfold fM_read_74
    rw [t4, if_neg ne]
    have res := rc_114 (k2 := k2) (N := N) h12 hu eu3 hr3 (μ := μ) (ν := ν) (r := 0) (fun e => absurd e hf2) ⟨kA', kB', kC⟩ (L := 0) (T := 0) (fun e => absurd e hf2)
    split <;> exact res
theorem rc_ar.of {n u : Nat} {μ ν μ' ν' : me_M} (h : rc_ar n u μ ν) (hc : ∀ c ∈ [12, 13, 14, 15], μ'.1 c = μ.1 c) (hd : ∀ c ∈ [6, 7], ν'.1 c = ν.1 c) (he : ∀ w, w < u → ν'.1 8 w = ν.1 8 w ∧ ν'.1 9 w = ν.1 9 w) : rc_ar n u μ' ν' := by
  intro w hw
  obtain ⟨ls, fa, h1, h2, h3, h4, h5, h6, h7⟩ := h w hw
  refine ⟨ls, fa, h1, h2, by rw [hc 12 (by decide)]; exact h3, by rw [hd 6 (by decide)]; exact h4, by rw [hc 13 (by decide)]; exact h5, by rw [hd 7 (by decide)]; exact h6, fun e => ?_⟩
  rw [hc 14 (by decide), hc 15 (by decide), (he w hw).1, (he w hw).2]
  exact h7 e
theorem rc_read {N n : Nat} {μ ν : me_M} (hN : 4096 ≤ N) (h1 : 1 ≤ n) (h12 : n ≤ 12) (hI : rl_I n μ ν) : ∃ μ' ν', fD_readAll N n μ = some μ' ∧ fM_read N ν = some ν' ∧ me_fr [1207, 1208, 1209, 1210, 1211, 1212, 1213, 12, 13, 14, 15] [] μ μ' ∧ me_fr [111, 112, 113, 114, 6, 7, 8, 9] [] ν ν' ∧ rc_ar n n μ' ν' := by
  refine lp_r (fun o p => ∃ μ' ν', o = some μ' ∧ p = some ν' ∧ me_fr [1207, 1208, 1209, 1210, 1211, 1212, 1213, 12, 13, 14, 15] [] μ μ' ∧ me_fr [111, 112, 113, 114, 6, 7, 8, 9] [] ν ν' ∧ rc_ar n n μ' ν') (fun F k s => fD_readAll_2 N n F (nI k) s) (fun F k s => fM_read_2 N F (nI k) s) (fun u s t => me_fr [1207, 1208, 1209, 1210, 1211, 1212, 1213, 12, 13, 14, 15] [] μ s ∧ me_fr [111, 112, 113, 114, 6, 7, 8, 9] [] ν t ∧ rc_ar n u s t) n ?_ ?_ n N N 0 μ ν (by omega) (by omega) (by omega) ⟨me_fr.rf, me_fr.rf, fun w hw => by omega⟩
  · rintro F E u s t hu ⟨k1, k2, har⟩ ih
    show ∃ μ' ν', fD_readAll_2b N n (fD_readAll_2 N n F) (nI u) s = some μ' ∧ fM_read_2b N (fM_read_2 N E) (nI u) t = some ν' ∧ _
    have hI1 : rl_I n s t := hI.of (rl_fr k1 (by decide)) (rl_fr k2 (by decide))
    obtain ⟨hn, -, ho, w0, c, l0, k0, ⟨-, hc3, -, -, -⟩, -, -, ecM, -⟩ := id hI1
    obtain ⟨o, ho1, ho2, ho3⟩ := ho u (by omega)
    unfold fD_readAll_2b fM_read_2b
    rw [if_neg (nI_ge hu (by omega)), hn, if_neg (nI_ge hu (by omega)), ba_gi (show u < n + 1 by omega) (by omega), ba_gi (i := u) (n := 13) (by omega) (by decide), ba_gi (i := u) (n := 12) (by omega) (by decide), ba_gi (i := u) (n := 12) (by omega) (by decide), nI_clamp (by omega), me_wi_c _ _ _ _ (show (5 : Nat) ≠ 1207 by decide), ho2, ho3]
    generalize hs1 : me_wi (me_wi (me_wi (me_wi (me_wi (me_wi s 1207 0 (nI u)) 1208 0 (nI o)) 1209 0 0) 1210 0 0) 1211 0 0) 1213 0 0 = s1
    generalize ht1 : me_wi (me_wi (me_wi (me_wi (me_wi (me_wi t 111 0 (nI o)) 112 0 0) 113 0 0) 114 0 0) 8 u 0) 9 u 0 = t1
    have ka : me_fr [1207, 1208, 1209, 1210, 1211, 1213] [] s s1 := by rw [← hs1]; exact (((((me_fr.rf.wi (by decide)).wi (by decide)).wi (by decide)).wi (by decide)).wi (by decide)).wi (by decide)
    have kb : me_fr [111, 112, 113, 114, 8, 9] [] t t1 := by rw [← ht1]; exact (((((me_fr.rf.wi (by decide)).wi (by decide)).wi (by decide)).wi (by decide)).wi (by decide)).wi (by decide)
    have kb8 : ∀ w, w ≠ u → t1.1 8 w = t.1 8 w ∧ t1.1 9 w = t.1 9 w := by
      intro w hw
      rw [← ht1, me_wi_c _ _ _ _ (show (8 : Nat) ≠ 9 by decide), me_wi_n _ _ _ _ hw, me_wi_n _ _ _ _ hw]
      rw [me_wi_c _ _ _ _ (show (8 : Nat) ≠ 114 by decide), me_wi_c _ _ _ _ (show (8 : Nat) ≠ 113 by decide), me_wi_c _ _ _ _ (show (8 : Nat) ≠ 112 by decide), me_wi_c _ _ _ _ (show (8 : Nat) ≠ 111 by decide)]
      rw [me_wi_c _ _ _ _ (show (9 : Nat) ≠ 8 by decide), me_wi_c _ _ _ _ (show (9 : Nat) ≠ 114 by decide), me_wi_c _ _ _ _ (show (9 : Nat) ≠ 113 by decide), me_wi_c _ _ _ _ (show (9 : Nat) ≠ 112 by decide), me_wi_c _ _ _ _ (show (9 : Nat) ≠ 111 by decide)]
      exact ⟨rfl, rfl⟩
    have har1 : rc_ar n u s1 t1 := har.of (rl_fr ka (by decide)) (rl_fr kb (by decide)) (fun w hw => kb8 w (by omega))
    have hrd : rd n s1 t1 0 := by
      refine ⟨hI1.of (rl_fr ka (by decide)) (rl_fr kb (by decide)), by decide, ?_, ?_, fun _ => ⟨o, ho1, ?_, ?_⟩⟩
      · rw [← hs1, me_wi_c _ _ _ _ (by decide), me_wi_c _ _ _ _ (by decide), me_wi_c _ _ _ _ (by decide), me_wi_s]; rfl
      · rw [← ht1, me_wi_c _ _ _ _ (by decide), me_wi_c _ _ _ _ (by decide), me_wi_c _ _ _ _ (by decide), me_wi_c _ _ _ _ (by decide), me_wi_s]; rfl
      · rw [← hs1, me_wi_c _ _ _ _ (by decide), me_wi_c _ _ _ _ (by decide), me_wi_c _ _ _ _ (by decide), me_wi_c _ _ _ _ (by decide), me_wi_s]
      · rw [← ht1, me_wi_c _ _ _ _ (by decide), me_wi_c _ _ _ _ (by decide), me_wi_c _ _ _ _ (by decide), me_wi_c _ _ _ _ (by decide), me_wi_c _ _ _ _ (by decide), me_wi_s]
    have eu : s1.1 1207 0 = nI u := by rw [← hs1, me_wi_c _ _ _ _ (by decide), me_wi_c _ _ _ _ (by decide), me_wi_c _ _ _ _ (by decide), me_wi_c _ _ _ _ (by decide), me_wi_c _ _ _ _ (by decide), me_wi_s]
    have e0 : s1.1 1210 0 = nI 0 := by rw [← hs1, me_wi_c _ _ _ _ (by decide), me_wi_c _ _ _ _ (by decide), me_wi_s]; rfl
    have e1 : s1.1 1211 0 = nI 0 := by rw [← hs1, me_wi_c _ _ _ _ (by decide), me_wi_s]; rfl
    have e2 : s1.1 1213 0 = nI 0 := by rw [← hs1, me_wi_s]; rfl
    have e3 : t1.1 113 0 = nI 0 := by rw [← ht1, me_wi_c _ _ _ _ (by decide), me_wi_c _ _ _ _ (by decide), me_wi_c _ _ _ _ (by decide), me_wi_s]; rfl
    have e4 : t1.1 114 0 = nI 0 := by rw [← ht1, me_wi_c _ _ _ _ (by decide), me_wi_c _ _ _ _ (by decide), me_wi_s]; rfl
    have e5 : t1.1 8 u = nI 0 := by rw [← ht1, me_wi_c _ _ _ _ (by decide), me_wi_s]; rfl
    have e6 : t1.1 9 u = nI 0 := by rw [← ht1, me_wi_s]; rfl
    obtain ⟨μ', ν', f', g1, g2, g3, g4, g5, g6, g7⟩ := rc_rec (N := N) (n := n) (u := u) (k2 := fM_read_2 N E) (μ := s1) (ν := t1) hN h1 h12 hu eu har1 hrd e0 e1 e2 e3 e4 e5 e6
    obtain ⟨-, v2, v3, v4, -⟩ := id g5
    have kA : me_fr [1207, 1208, 1209, 1210, 1211, 1212, 1213, 12, 13, 14, 15] [] μ μ' := (k1.tr (ka.mono (by decide) (by decide))).tr (g3.mono (by decide) (by decide))
    have kB : me_fr [111, 112, 113, 114, 6, 7, 8, 9] [] ν ν' := (k2.tr (kb.mono (by decide) (by decide))).tr (g4.mono (by decide) (by decide))
    have har2 : rc_ar n u μ' ν' := har1.of (rl_fr g3 (by decide)) (rl_fr g4 (by decide)) (fun w hw => g6 w (by omega))
    have fin : ∀ (L r de : Nat), L < 2 ^ n → (f' = 0 → r ≤ 6 ∧ r ≤ u ∧ de ≤ 3 ∧ ν'.1 8 u = nI r ∧ ν'.1 9 u = nI de) → ∃ μ'' ν'', fD_readAll_2 N n F (nI (u + 1)) (me_wi (me_wi (me_wi (me_wi μ' 13 u (nI f')) 12 u (nI L)) 14 u (nI r)) 15 u (nI de)) = some μ'' ∧ fM_read_2 N E (nI (u + 1)) (me_wi (me_wi ν' 7 u (nI f')) 6 u (nI L)) = some ν'' ∧ me_fr [1207, 1208, 1209, 1210, 1211, 1212, 1213, 12, 13, 14, 15] [] μ μ'' ∧ me_fr [111, 112, 113, 114, 6, 7, 8, 9] [] ν ν'' ∧ rc_ar n n μ'' ν'' := by
      intro L r de hL hv
      refine ih _ _ ⟨(((kA.wi (by decide)).wi (by decide)).wi (by decide)).wi (by decide), (kB.wi (by decide)).wi (by decide), fun w hw => ?_⟩
      rw [me_wi_c _ _ _ _ (show (12 : Nat) ≠ 15 by decide), me_wi_c _ _ _ _ (show (12 : Nat) ≠ 14 by decide), me_wi_c _ _ _ _ (show (13 : Nat) ≠ 15 by decide), me_wi_c _ _ _ _ (show (13 : Nat) ≠ 14 by decide), me_wi_c _ _ _ _ (show (13 : Nat) ≠ 12 by decide), me_wi_c _ _ _ _ (show (14 : Nat) ≠ 15 by decide), me_wi_c _ _ _ _ (show (7 : Nat) ≠ 6 by decide), me_wi_c _ _ _ _ (show (8 : Nat) ≠ 6 by decide), me_wi_c _ _ _ _ (show (8 : Nat) ≠ 7 by decide), me_wi_c _ _ _ _ (show (9 : Nat) ≠ 6 by decide), me_wi_c _ _ _ _ (show (9 : Nat) ≠ 7 by decide)]
      by_cases e : w = u
      · subst e
        refine ⟨L, f', hL, v2, me_wi_s _ _ _ _, me_wi_s _ _ _ _, me_wi_s _ _ _ _, me_wi_s _ _ _ _, fun e => ?_⟩
        obtain ⟨q1, q2, q3, q4, q5⟩ := hv e
        exact ⟨r, de, q1, q2, q3, me_wi_s _ _ _ _, q4, me_wi_s _ _ _ _, q5⟩
      · rw [me_wi_n _ _ _ _ e, me_wi_n _ _ _ _ e, me_wi_n _ _ _ _ e, me_wi_n _ _ _ _ e, me_wi_n _ _ _ _ e, me_wi_n _ _ _ _ e]
        rw [me_wi_c _ _ _ _ (show (12 : Nat) ≠ 13 by decide), me_wi_c _ _ _ _ (show (14 : Nat) ≠ 12 by decide), me_wi_c _ _ _ _ (show (14 : Nat) ≠ 13 by decide), me_wi_c _ _ _ _ (show (15 : Nat) ≠ 14 by decide), me_wi_c _ _ _ _ (show (15 : Nat) ≠ 12 by decide), me_wi_c _ _ _ _ (show (15 : Nat) ≠ 13 by decide), me_wi_c _ _ _ _ (show (6 : Nat) ≠ 7 by decide)]
        exact har2 w (by omega)
    rw [g1, ba_b, g2, ba_gi hu (by omega)]
    unfold fM_read_139 fM_read_169 fD_readAll_82 fD_readAll_103 fD_readAll_137
    have hgn : ∀ {α : Type} {k : Option α}, me_gi (nI u) n k = k := fun {α k} => ba_gi hu (by omega)
    have hg12 : ∀ {α : Type} {k : Option α}, me_gi (nI u) 12 k = k := fun {α k} => ba_gi (by omega) (by decide)
    simp only [hgn, hg12]
    rw [nI_clamp (show u < 2 ^ 31 by omega), v3, v4, me_wi_c _ _ _ _ (show (1209 : Nat) ≠ 13 by decide), v3, me_wi_c _ _ _ _ (show (112 : Nat) ≠ 7 by decide), v4, nI_1]
    by_cases hf : f' = 0
    · obtain ⟨L, r, q1, q2, q3, q4, q5, q6, q7, q8, q9⟩ := g7 hf
      subst hf
      rw [if_pos (show nI 0 = 0 from rfl), if_pos (show nI 0 ≤ (0 : Int32) by decide), me_wi_c _ _ _ _ (show (1211 : Nat) ≠ 13 by decide), q4, me_wi_c _ _ _ _ (show (113 : Nat) ≠ 7 by decide), q5, me_wi_c _ _ _ _ (show (1209 : Nat) ≠ 12 by decide), me_wi_c _ _ _ _ (show (1209 : Nat) ≠ 13 by decide), v3, if_pos (show nI 0 = 0 from rfl), me_wi_c _ _ _ _ (show (1210 : Nat) ≠ 12 by decide), me_wi_c _ _ _ _ (show (1210 : Nat) ≠ 13 by decide), q6, me_wi_s]
      by_cases hr0 : r = 0
      · subst hr0
        rw [if_pos nI_0]
        exact fin L 0 0 q1 (fun _ => ⟨by omega, by omega, by omega, q7, q8 rfl⟩)
      · obtain ⟨y1, y2, y3⟩ := q9 hr0
        obtain ⟨ls, fa, -, hfa10, -, -, -, z6, z7⟩ := har1 (u - r) (by omega)
        have hfa : fa = 0 := (nI_eq0 (by omega)).mp (z6.symm.trans y2)
        obtain ⟨re, de, -, -, hde, -, -, w3, w4⟩ := z7 hfa
        have ec1 : t1.1 106 0 = nI c := by rw [kb.1 106 (by decide)]; exact ecM
        have hdc : de < c := by
          rw [w4, ec1] at y3
          exact (nI_ltI (by omega) (by omega)).mp y3
        rw [if_neg (fun e => hr0 ((nI_eq0 (by omega)).mp e)), pk_sub q3, ba_gi (show u - r < n by omega) (by omega), nI_clamp (show u - r < 2 ^ 31 by omega), me_wi_c _ _ _ _ (show (15 : Nat) ≠ 14 by decide), me_wi_c _ _ _ _ (show (15 : Nat) ≠ 12 by decide), me_wi_c _ _ _ _ (show (15 : Nat) ≠ 13 by decide), g3.1 15 (by decide), w3, nI_1]
        refine fin L r (de + 1) q1 (fun _ => ⟨q2, q3, by omega, q7, ?_⟩)
        rw [y1, w4, show (1 : Int32) = nI 1 from rfl, nI_add, Nat.add_comm]
    · have ne : ¬ nI f' = 0 := fun e => hf ((nI_eq0 (by omega)).mp e)
      rw [if_neg ne, if_neg (nI_nle (by omega) (by omega)), me_wi_c _ _ _ _ (show (1209 : Nat) ≠ 12 by decide), me_wi_c _ _ _ _ (show (1209 : Nat) ≠ 13 by decide), v3, if_neg ne, me_wi_s, if_pos rfl]
      exact fin 0 0 0 (Nat.two_pow_pos n) (fun e => absurd e hf)
  · rintro F E s t ⟨k1, k2, har⟩
    show ∃ μ' ν', fD_readAll_2b N n (fD_readAll_2 N n F) (nI n) s = some μ' ∧ fM_read_2b N (fM_read_2 N E) (nI n) t = some ν' ∧ _
    have hn : t.1 100 0 = nI n := by rw [k2.1 100 (by decide)]; exact hI.1
    unfold fD_readAll_2b fM_read_2b fD_readAll_144 fM_read_176
    rw [hn, if_pos (nI_le (Nat.le_refl _) (by omega)), if_pos (nI_le (Nat.le_refl _) (by omega))]
    exact ⟨s, t, rfl, rfl, k1, k2, har⟩
