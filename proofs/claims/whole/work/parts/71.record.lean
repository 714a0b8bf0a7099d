/- a record, read side by side: its reference, and the whole -/
def rc_ar (n u : Nat) (μ ν : me_M) : Prop := ∀ w, w < u → ∃ ls fa, ls < 2 ^ n ∧ fa ≤ 10 ∧ μ.1 12 w = nI ls ∧ ν.1 6 w = nI ls ∧ μ.1 13 w = nI fa ∧ ν.1 7 w = nI fa ∧ (fa = 0 → ∃ re de, re ≤ 6 ∧ re ≤ w ∧ de ≤ 3 ∧ μ.1 14 w = nI re ∧ ν.1 8 w = nI re ∧ μ.1 15 w = nI de ∧ ν.1 9 w = nI de)
theorem rc_50 {N n u f d r : Nat} {lr : Int32} {k2 : Int32 → me_M → Option me_M} {μ ν μ1 ν1 : me_M} (hN : 4096 ≤ N) (h1 : 1 ≤ n) (h12 : n ≤ 12) (hu : u < n) (hd1 : 1 ≤ d) (hd : d ≤ 12) (eu : μ.1 1207 0 = nI u) (har : rc_ar n u μ ν) (hr : rd n μ1 ν1 f) (k1 : me_fr [1208, 1209, 1210, 1212] [] μ μ1) (k2' : me_fr [111, 112] [] ν ν1) (e1 : μ.1 1211 0 = nI 0) (e2 : μ.1 1213 0 = nI 0) (e3 : ν.1 113 0 = nI 0) (e4 : ν.1 114 0 = nI 0) (e5 : ν.1 8 u = nI 0) (e6 : ν.1 9 u = nI 0) (e7 : f = 0 → μ1.1 1212 0 = nI d) (hv : f = 0 → lr = nI r ∧ r ≤ 6 ∧ r ≤ u ∧ μ1.1 1210 0 = nI r ∧ (r ≠ 0 → ν.1 7 (u - r) = 0 ∧ ν.1 9 (u - r) < ν.1 106 0)) : rc_post n u μ ν k2 N (fD_readRecord_50 N n μ1) ((fM_readParts_83 N (nI u) (nI d) lr ν1).bind fun r11 => fM_read_91 N k2 (nI u) r11) := by
  have hp := dr_pow h12
  obtain ⟨hI, s2, s3, s4, s5⟩ := id hr
  have kA : me_fr [1208, 1209, 1210, 1211, 1212, 1213] [] μ μ1 := k1.mono (by decide) (by decide)
  have kB : me_fr [111, 112, 113, 114, 8, 9] [] ν ν1 := k2'.mono (by decide) (by decide)
  have kC : ∀ w, w ≠ u → ν1.1 8 w = ν.1 8 w ∧ ν1.1 9 w = ν.1 9 w := fun w _ => by rw [k2'.1 8 (by decide), k2'.1 9 (by decide)]; exact ⟨rfl, rfl⟩
  have eu1 : μ1.1 1207 0 = nI u := by rw [k1.1 1207 (by decide)]; exact eu
  unfold fD_readRecord_50 fM_readParts_83
  by_cases hf : f = 0
  · subst hf
    obtain ⟨rfl, hr6, hru, er, hcond⟩ := hv rfl
    have c1 : μ1.1 1211 0 = nI 0 := by rw [k1.1 1211 (by decide)]; exact e1
    have c2 : μ1.1 1213 0 = nI 0 := by rw [k1.1 1213 (by decide)]; exact e2
    have c3 : ν1.1 113 0 = nI 0 := by rw [k2'.1 113 (by decide)]; exact e3
    have c4 : ν1.1 114 0 = nI 0 := by rw [k2'.1 114 (by decide)]; exact e4
    rw [rc_goD s3 (e7 rfl) (by omega), ba_b, if_neg (show ¬ d = 0 by omega), ba_10, er, s4, if_pos nI_0]
    by_cases hr0 : r = 0
    · subst hr0
      rw [if_pos (by decide), if_pos (by decide)]
      have hin : rc_in n u μ ν μ1 ν1 0 := ⟨kA, kB, kC, by omega, by omega, er, by rw [k2'.1 8 (by decide)]; exact e5, fun _ => by rw [k2'.1 9 (by decide)]; exact e6, fun e => absurd rfl e⟩
      exact rc_82 hN h1 h12 hu hd eu hr (fun _ => hin) ⟨kA, kB, kC⟩ (L := 0) (fun _ => ⟨Nat.two_pow_pos n, by show 0 ≤ d; omega, c1, c3, c2, c4, e7 rfl⟩)
    · obtain ⟨ls, fa, hls, -, b1, b2, -⟩ := har (u - r) (by omega)
      obtain ⟨g7, g9⟩ := hcond hr0
      rw [if_neg (nI_nle (by omega) (by omega)), if_neg (nI_nle (by omega) (by omega)), eu1, pk_sub hru, ba_gi (show u - r < n by omega) (by omega), nI_clamp (show u - r < 2 ^ 31 by omega), k1.1 12 (by decide), b1, ba_gi (i := u) (n := 12) (by omega) (by decide), ba_gi (i := u - r) (n := 12) (by omega) (by decide), ba_gi (i := u) (n := 12) (by omega) (by decide), ba_gi (i := u - r) (n := 12) (by omega) (by decide), nI_clamp (show u < 2 ^ 31 by omega)]
      rw [me_wi_c _ _ _ _ (show (6 : Nat) ≠ 9 by decide), me_wi_c _ _ _ _ (show (6 : Nat) ≠ 8 by decide), k2'.1 6 (by decide), b2, me_wi_c _ _ _ _ (show (9 : Nat) ≠ 8 by decide), k2'.1 9 (by decide)]
      generalize hν2 : me_wi (me_wi ν1 8 u (nI r)) 9 u (1 + ν.1 9 (u - r)) = ν2
      have kD : me_fr [8, 9] [] ν1 ν2 := by rw [← hν2]; exact (me_fr.rf.wi (by decide)).wi (by decide)
      have hr2 : rd n μ1 ν2 0 := hr.of (fun _ _ => rfl) (rl_fr kD (by decide))
      have hin : rc_in n u μ ν μ1 ν2 r := by
        refine ⟨kA, kB.tr (kD.mono (by decide) (by decide)), fun w hw => ?_, hr6, hru, er, ?_, fun e => absurd e hr0, fun _ => ⟨?_, g7, g9⟩⟩
        · rw [← hν2, me_wi_c _ _ _ _ (by decide), me_wi_n _ _ _ _ hw, me_wi_n _ _ _ _ hw, me_wi_c _ _ _ _ (by decide)]
          exact kC w hw
        · rw [← hν2, me_wi_c _ _ _ _ (by decide), me_wi_s]
        · rw [← hν2, me_wi_s]
      obtain ⟨μ3, ν3, f3, q1, q2, q3, q4, q5, q6⟩ := rn_runs (N := N) (n := n) (d := d) (y := ls) (μ := μ1) (ν := ν2) hN h12 hls hd hr2 c1 c2 (e7 rfl) (by rw [kD.1 113 (by decide)]; exact c3) (by rw [kD.1 114 (by decide)]; exact c4)
      rw [q1, q2, ba_b, ba_b]
      have hin3 := hin.to q3 q4
      by_cases hf3 : f3 = 0
      · obtain ⟨C, y1, y2, y3, y4, y5, y6, y7⟩ := q6 hf3
        exact rc_82 hN h1 h12 hu hd eu q5 (fun _ => hin3) ⟨hin3.1, hin3.2.1, hin3.2.2.1⟩ (L := C) (fun _ => ⟨y1, y2, y3, y4, y5, y6, y7⟩)
      · exact rc_82 hN h1 h12 hu hd eu q5 (fun _ => hin3) ⟨hin3.1, hin3.2.1, hin3.2.2.1⟩ (L := 0) (fun e => absurd e hf3)
  · have ne : ¬ nI f = 0 := fun e => hf ((nI_eq0 (by omega)).mp e)
    rw [rc_go0 s3 s2 hf, ba_b, ba_00, s4, if_neg ne]
    exact rc_82 hN h1 h12 hu hd eu hr (fun e => absurd e hf) ⟨kA, kB, kC⟩ (r := 0) (L := 0) (fun e => absurd e hf)
theorem rc_ref {N n u d : Nat} {k2 : Int32 → me_M → Option me_M} {μ ν μ1 ν1 : me_M} (hN : 4096 ≤ N) (h1 : 1 ≤ n) (h12 : n ≤ 12) (hu : u < n) (hd1 : 1 ≤ d) (hd : d ≤ 12) (eu : μ.1 1207 0 = nI u) (har : rc_ar n u μ ν) (hr : rd n μ1 ν1 0) (k1 : me_fr [1208, 1209, 1212] [] μ μ1) (k2' : me_fr [111, 112] [] ν ν1) (e0 : μ.1 1210 0 = nI 0) (e1 : μ.1 1211 0 = nI 0) (e2 : μ.1 1213 0 = nI 0) (e3 : ν.1 113 0 = nI 0) (e4 : ν.1 114 0 = nI 0) (e5 : ν.1 8 u = nI 0) (e6 : ν.1 9 u = nI 0) (e7 : μ1.1 1212 0 = nI d) : rc_post n u μ ν k2 N (if (μ1.1 500 0) ≤ 0 then fD_readRecord_50 N n μ1 else (fD_readReference N n μ1).bind fun r21 => fD_readRecord_50 N n r21) ((fM_readParts N (nI u) (nI d) ν1).bind fun r11 => fM_read_91 N k2 (nI u) r11) := by
  obtain ⟨hI, s2, s3, s4, s5⟩ := id hr
  obtain ⟨hn, -, -, w, c, l, k, ⟨hw, hc, -, -, -⟩, ⟨ew, ec, -, -⟩, ewM, ecM, -, -⟩ := id hI
  unfold fM_readParts
  rw [ew, ewM]
  by_cases hw0 : w = 0
  · subst hw0
    rw [if_pos (by decide), if_pos (by decide)]
    unfold fM_readParts_15 fM_readParts_41
    rw [s4, if_pos nI_0, ewM, if_neg (show ¬ nI 0 < 0 by decide), if_pos (show (0 : Int32) ≤ nI u from nI_pos' (by omega)), if_pos (show (0 : Int32) ≤ 0 by decide)]
    exact rc_50 hN h1 h12 hu hd1 hd eu har hr (k1.mono (by decide) (by decide)) k2' e1 e2 e3 e4 e5 e6 (fun _ => e7) (r := 0) (fun _ => ⟨rfl, by omega, by omega, by rw [k1.1 1210 (by decide)]; exact e0, fun e => absurd rfl e⟩)
  · rw [if_neg (nI_nle (by omega) (by omega)), if_neg (nI_nle (by omega) (by omega))]
    obtain ⟨z, μ2, x', ν2, f2, a1, a2, a3, a4, a5, -, a7, a8⟩ := bt_unary hN hr
    obtain ⟨hI2, t2, t3, t4, -⟩ := id a5
    unfold fD_readReference
    rw [a1, a2, ba_b, ba_b]
    dsimp only
    generalize hμ3 : me_wi μ2 1210 0 (nI z) = μ3
    have kD : me_fr [1210] [] μ2 μ3 := by rw [← hμ3]; exact me_fr.rf.wi (by decide)
    have hr3 : rd n μ3 ν2 f2 := a5.of (rl_fr kD (by decide)) (fun _ _ => rfl)
    have kA : me_fr [1208, 1209, 1210, 1212] [] μ μ3 := ((k1.mono (by decide) (by decide)).tr (a3.mono (by decide) (by decide))).tr (kD.mono (by decide) (by decide))
    have kB : me_fr [111, 112] [] ν ν2 := k2'.tr a4
    have er : μ3.1 1210 0 = nI z := by rw [← hμ3, me_wi_s]
    have eu3 : μ3.1 1207 0 = nI u := by rw [kA.1 1207 (by decide)]; exact eu
    have ew3 : μ3.1 500 0 = nI w := by rw [kD.1 500 (by decide), a3.1 500 (by decide)]; exact ew
    have ec3 : μ3.1 501 0 = nI c := by rw [kD.1 501 (by decide), a3.1 501 (by decide)]; exact ec
    have ew4 : ν2.1 105 0 = nI w := by rw [a4.1 105 (by decide)]; exact ewM
    have ec4 : ν2.1 106 0 = nI c := by rw [a4.1 106 (by decide)]; exact ecM
    have d7 : μ3.1 1212 0 = nI d := by rw [kD.1 1212 (by decide), a3.1 1212 (by decide)]; exact e7
    rw [er, ew3, eu3]
    -- with a fault g at hand
    have bad : ∀ (g : Nat), g ≤ 10 → g ≠ 0 → rd n (me_wi μ3 1209 0 (nI g)) (me_wi ν2 112 0 (nI g)) g → rc_post n u μ ν k2 N (fD_readRecord_50 N n (me_wi μ3 1209 0 (nI g))) ((fM_readParts_83 N (nI u) (nI d) x' (me_wi ν2 112 0 (nI g))).bind fun r11 => fM_read_91 N k2 (nI u) r11) := by
      intro g hg g0 hrg
      exact rc_50 hN h1 h12 hu hd1 hd eu har hrg (kA.wi (by decide)) (kB.wi (by decide)) e1 e2 e3 e4 e5 e6 (fun e => absurd e g0) (r := 0) (fun e => absurd e g0)
    rcases a8 with ⟨rfl, hz6, rfl⟩ | ⟨hf2, rfl⟩
    · have t3' : μ3.1 1209 0 = nI 0 := by rw [kD.1 1209 (by decide)]; exact t3
      have f4C : ∀ (b : Int32), b = 1 → (fD_readReference_39 N n b μ3).bind (fun r21 => fD_readRecord_50 N n r21) = fD_readRecord_50 N n (me_wi μ3 1209 0 (nI 4)) := by
        intro b hb
        subst hb
        unfold fD_readReference_39 fD_readReference_102
        rw [show (4 : Int32) = nI 4 from rfl, bt_failT t3' t2, if_pos rfl, ba_b, me_wi_s, if_neg (show ¬ nI 4 = 0 by decide), ba_b]
      have f4M : (fM_readParts_36 N (nI u) (nI d) (nI z) ν2).bind (fun r11 => fM_read_91 N k2 (nI u) r11) = (fM_readParts_83 N (nI u) (nI d) (nI z) (me_wi ν2 112 0 (nI 4))).bind fun r11 => fM_read_91 N k2 (nI u) r11 := by
        unfold fM_readParts_36 fM_readParts_41
        rw [show (4 : Int32) = nI 4 from rfl, me_wi_s, if_neg (show ¬ nI 4 = 0 by decide)]
      have b4 := bad 4 (by decide) (by decide) (hr3.fault (by decide) (by decide))
      unfold fM_readParts_15 fD_readReference_34
      rw [t4, if_pos nI_0, ew4]
      by_cases q1 : w < z
      · rw [if_pos (nI_lt q1 (by omega)), if_pos (nI_lt q1 (by omega)), f4C 1 rfl, f4M]
        exact b4
      · rw [if_neg (nI_nlt (by omega) (by omega)), if_neg (nI_nlt (by omega) (by omega))]
        by_cases q2 : z ≤ u
        · rw [if_pos (nI_le q2 (by omega)), if_pos (nI_le q2 (by omega))]
          unfold fD_readReference_39 fM_readParts_41 fD_readReference_102
          rw [bt_failF, ba_b, t3', if_pos nI_0, t4, if_pos nI_0, er]
          by_cases hz0 : z = 0
          · subst hz0
            rw [if_pos (by decide), if_pos (by decide), ba_b]
            exact rc_50 hN h1 h12 hu hd1 hd eu har hr3 kA kB e1 e2 e3 e4 e5 e6 (fun _ => d7) (r := 0) (fun _ => ⟨rfl, by omega, by omega, er, fun e => absurd rfl e⟩)
          · obtain ⟨ls, fa, hls, hfa, b1, b2, b3, b4', b5⟩ := har (u - z) (by omega)
            have f5C : (fD_readReference_93 N n μ3).bind (fun r21 => fD_readRecord_50 N n r21) = fD_readRecord_50 N n (me_wi μ3 1209 0 (nI 5)) := by
              unfold fD_readReference_93 fD_readReference_98 fD_readReference_102
              rw [show (5 : Int32) = nI 5 from rfl, bt_failT t3' t2, if_pos rfl, ba_b, ba_b]
            have f5M : (fM_readParts_78 N (nI u) (nI d) (nI z) ν2).bind (fun r11 => fM_read_91 N k2 (nI u) r11) = (fM_readParts_83 N (nI u) (nI d) (nI z) (me_wi ν2 112 0 (nI 5))).bind fun r11 => fM_read_91 N k2 (nI u) r11 := by
              unfold fM_readParts_78
              rfl
            have b5' := bad 5 (by decide) (by decide) (hr3.fault (by decide) (by decide))
            rw [if_neg (nI_nle (by omega) (by omega)), if_neg (nI_nle (by omega) (by omega)), eu3, pk_sub q2, ba_gi (show u - z < n by omega) (by omega), ba_gi (show u - z < n by omega) (by omega), ba_gi (i := u - z) (n := 12) (by omega) (by decide), ba_gi (i := u - z) (n := 12) (by omega) (by decide), nI_clamp (show u - z < 2 ^ 31 by omega), kA.1 13 (by decide), kA.1 15 (by decide), b3, ec3, kB.1 7 (by decide), kB.1 9 (by decide), b4', ec4]
            by_cases hfa0 : fa = 0
            · obtain ⟨re, de, hre, hrew, hde, g1, g2, g3, g4⟩ := b5 hfa0
              subst hfa0
              rw [if_pos nI_0, if_neg (show ¬ (0 : Int32) < nI 0 by decide), g3, g4]
              by_cases q3 : de < c
              · rw [if_pos (nI_lt q3 (by omega)), if_pos (nI_lt q3 (by omega))]
                unfold fD_readReference_98 fD_readReference_102
                rw [bt_failF, ba_b, ba_b]
                refine rc_50 hN h1 h12 hu hd1 hd eu har hr3 kA kB e1 e2 e3 e4 e5 e6 (fun _ => d7) (r := z) (fun _ => ⟨rfl, hz6, q2, er, fun _ => ⟨b4', ?_⟩⟩)
                rw [g4, ← k2'.1 106 (by decide), ecM]
                exact nI_lt q3 (by omega)
              · rw [if_neg (nI_nlt (by omega) (by omega)), if_neg (nI_nlt (by omega) (by omega)), f5C, f5M]
                exact b5'
            · rw [if_neg (fun e => hfa0 ((nI_eq0 (by omega)).mp e)), if_pos (show (0 : Int32) < nI fa from nI_lt (a := 0) (by omega) (by omega)), f5C, f5M]
              exact b5'
        · rw [if_neg (nI_ge (by omega) (by omega)), if_neg (nI_ge (by omega) (by omega)), f4C 1 rfl, f4M]
          exact b4
    · have t3' : μ3.1 1209 0 = nI f2 := by rw [kD.1 1209 (by decide)]; exact t3
      have ne : ¬ nI f2 = 0 := fun e => hf2 ((nI_eq0 (by omega)).mp e)
      have fC : ∀ b : Int32, fD_readReference_39 N n b μ3 = some μ3 := by
        intro b
        unfold fD_readReference_39 fD_readReference_102
        rw [rc_failN t3' t2 hf2, ba_b, t3', if_neg ne]
      unfold fD_readReference_34
      rw [fC, fC]
      have hM : fM_readParts_15 N (nI u) (nI d) 0 ν2 = fM_readParts_83 N (nI u) (nI d) 0 ν2 := by
        unfold fM_readParts_15 fM_readParts_41
        rw [t4, if_neg ne, if_neg ne]
      rw [hM]
      have res := rc_50 (k2 := k2) (lr := 0) hN h1 h12 hu hd1 hd eu har hr3 kA kB e1 e2 e3 e4 e5 e6 (fun e => absurd e hf2) (r := 0) (fun e => absurd e hf2)
      split
      · rw [ba_b]; exact res
      · split <;> (rw [ba_b]; exact res)
