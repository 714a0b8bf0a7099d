/- what reading shows: degree, successor, reference; flip -/
theorem sh_use {N n : Nat} {μ ν : me_M} (hN : 4096 ≤ N) (h : rl_R N n μ ν) : ∃ ν', fM_read N ν = some ν' ∧ me_fr [111, 112, 113, 114, 6, 7, 8, 9] [] ν ν' ∧ rl_R N n μ ν' ∧ ∀ w, w < n → ∃ ls fa, ls < 2 ^ n ∧ fa ≤ 10 ∧ μ.1 12 w = nI ls ∧ ν'.1 6 w = nI ls ∧ μ.1 13 w = nI fa ∧ ν'.1 7 w = nI fa ∧ (fa = 0 → ∃ re, μ.1 14 w = nI re ∧ ν'.1 8 w = nI re) := by
  obtain ⟨⟨h1, h12⟩, -, -, -, -, μ0, μ1, hI, hr, hl⟩ := id h
  obtain ⟨μ', ν', g1, g2, g3, g4, g5⟩ := rc_read hN h1 h12 hI
  rw [hr] at g1
  cases g1
  refine ⟨ν', g2, g4, h.of (fun _ _ => rfl) (rl_fr g4 (by decide)) rfl ?_, fun w hw => ?_⟩
  · funext c
    exact g4.2 c (by simp)
  · obtain ⟨ls, fa, q1, q2, q3, q4, q5, q6, q7⟩ := g5 w hw
    obtain ⟨e1, e2, e3⟩ := hl w hw
    refine ⟨ls, fa, q1, q2, by rw [e1]; exact q3, q4, by rw [e2]; exact q5, q6, fun e => ?_⟩
    obtain ⟨re, de, -, -, -, y1, y2, -⟩ := q7 e
    exact ⟨re, by rw [e3]; exact y1, y2⟩
theorem sh_out {n : Nat} (h12 : n ≤ 12) (x : Int32) : (x < 0 ∨ nI n ≤ x) ∨ ∃ j, j < n ∧ x = nI j := by
  rcases pk_ix x (n := n) (by omega) with q | q | q
  · exact Or.inl (Or.inl q)
  · exact Or.inl (Or.inr q)
  · exact Or.inr q
theorem op_degree {N n : Nat} {μ ν : me_M} (hN : 4096 ≤ N) (a : Int32) (h : rl_R N n μ ν) : ∃ (r : Int32) (ν' : me_M), fA_degree N n μ a = some r ∧ fM_degree N a ν = some (r, ν') ∧ rl_R N n μ ν' := by
  obtain ⟨⟨h1, h12⟩, ⟨hn, -⟩, -⟩ := id h
  have hp := dr_pow h12
  unfold fA_degree fA_degree_48 fM_degree fM_degree_43
  rcases sh_out h12 a with q | ⟨u, hu, rfl⟩
  · rw [ap_node0 h1 h12 q, ap_mnode0 hn q, ba_b, ba_b, ba_00, ba_00]
    exact ⟨_, _, rfl, rfl, h⟩
  · obtain ⟨ν', g1, g2, g3, g4⟩ := sh_use hN h
    obtain ⟨ls, fa, q1, q2, q3, q4, q5, q6, -⟩ := g4 u hu
    rw [ap_node1 h12 hu, ap_mnode1 hn h12 hu, ba_b, ba_b, ba_10, ba_10, g1, ba_b, ba_gi hu (by omega), ba_gi hu (by omega), ba_gi hu (by omega), ba_gi (n := 12) (by omega) (by decide), ba_gi (n := 12) (by omega) (by decide), ba_gi (n := 12) (by omega) (by decide), nI_clamp (by omega), q3, q4, q5, q6]
    by_cases e : fa = 0
    · rw [if_pos ((nI_eq0 (by omega)).mpr e), e, if_pos (by decide), st_bc (by omega), st_ones hN (by omega), ba_b, ba_b]
      exact ⟨_, _, rfl, rfl, g3⟩
    · rw [if_neg (fun z => e ((nI_eq0 (by omega)).mp z)), if_neg (nI_nle (by omega) (by omega))]
      exact ⟨_, _, rfl, rfl, g3⟩
theorem op_reference {N n : Nat} {μ ν : me_M} (hN : 4096 ≤ N) (a : Int32) (h : rl_R N n μ ν) : ∃ (r : Int32) (ν' : me_M), fA_reference N n μ a = some r ∧ fM_reference N a ν = some (r, ν') ∧ rl_R N n μ ν' := by
  obtain ⟨⟨h1, h12⟩, ⟨hn, -⟩, -⟩ := id h
  unfold fA_reference fA_reference_32 fA_reference_33 fM_reference fM_reference_33
  rcases sh_out h12 a with q | ⟨u, hu, rfl⟩
  · rw [ap_node0 h1 h12 q, ap_mnode0 hn q, ba_b, ba_b, ba_00, ba_00]
    exact ⟨_, _, rfl, rfl, h⟩
  · obtain ⟨ν', g1, g2, g3, g4⟩ := sh_use hN h
    obtain ⟨ls, fa, q1, q2, q3, q4, q5, q6, q7⟩ := g4 u hu
    rw [ap_node1 h12 hu, ap_mnode1 hn h12 hu, ba_b, ba_b, ba_10, ba_10, g1, ba_b, ba_gi hu (by omega), ba_gi hu (by omega), ba_gi (n := 12) (by omega) (by decide), ba_gi (n := 12) (by omega) (by decide), nI_clamp (by omega), q5, q6]
    by_cases e : fa = 0
    · obtain ⟨re, y1, y2⟩ := q7 e
      rw [if_pos ((nI_eq0 (by omega)).mpr e), e, if_pos (by decide), y1, y2]
      exact ⟨_, _, rfl, rfl, g3⟩
    · rw [if_neg (fun z => e ((nI_eq0 (by omega)).mp z)), if_neg (nI_nle (by omega) (by omega))]
      exact ⟨_, _, rfl, rfl, g3⟩
theorem op_successor {N n : Nat} {μ ν : me_M} (hN : 4096 ≤ N) (a b : Int32) (h : rl_R N n μ ν) : ∃ (r : Int32) (ν' : me_M), fA_successor N n μ a b = some r ∧ fM_successor N a b ν = some (r, ν') ∧ rl_R N n μ ν' := by
  obtain ⟨⟨h1, h12⟩, ⟨hn, -⟩, -⟩ := id h
  have hp := dr_pow h12
  unfold fA_successor fM_successor fM_successor_12
  rcases sh_out h12 a with q | ⟨u, hu, rfl⟩
  · rw [ap_node0 h1 h12 q, ap_mnode0 hn q, ba_b, ba_b, ba_00, ba_00]
    exact ⟨_, _, rfl, rfl, h⟩
  · obtain ⟨ν', g1, g2, g3, g4⟩ := sh_use hN h
    obtain ⟨ls, fa, q1, q2, q3, q4, -⟩ := g4 u hu
    have hn' : ν'.1 100 0 = nI n := by rw [g2.1 100 (by decide)]; exact hn
    rw [ap_node1 h12 hu, ap_mnode1 hn h12 hu, ba_b, ba_b, ba_10, ba_10]
    by_cases hb : 0 ≤ b
    · rw [if_pos hb, g1, ba_b]
      have main : ∃ r : Int32, fA_successor_15 N n μ N (nI u) b 0 0 = some r ∧ fM_successor_23 N N (nI u) b 0 0 ν' = some (r, ν') := by
        refine lp_r (fun o p => ∃ r : Int32, o = some r ∧ p = some (r, ν')) (fun F k (acc : Int32) => fA_successor_15 N n μ F (nI u) b acc (nI k)) (fun F k (acc : Int32) => fM_successor_23 N F (nI u) b acc (nI k) ν') (fun _ x y => x = y) n ?_ ?_ n N N 0 0 0 (by omega) (by omega) (by omega) rfl
        · rintro F E k x y hk rfl ih
          show ∃ r : Int32, fA_successor_15b N n μ (fA_successor_15 N n μ F) (nI u) b x (nI k) = some r ∧ fM_successor_23b N (fM_successor_23 N E) (nI u) b x (nI k) ν' = some (r, ν')
          unfold fA_successor_15b fM_successor_23b fA_successor_52 fM_successor_58
          rw [if_neg (nI_ge hk (by omega)), hn', if_neg (nI_ge hk (by omega)), ba_gi hu (by omega), ba_gi (n := 12) (i := u) (by omega) (by decide), nI_clamp (by omega), q3, q4, ap_holds (by omega) (by omega), ap_bitM (by omega) (by omega), ba_b, nI_1]
          cases hbt : ls.testBit k with
          | true =>
            rw [ba_tt, ba_10, if_pos rfl]
            by_cases e : x = b
            · rw [if_pos e, if_pos e]; exact ⟨_, rfl, rfl⟩
            · rw [if_neg e, if_neg e]; exact ih _ _ rfl
          | false =>
            rw [ba_ff, ba_00, if_neg (by decide)]
            exact ih _ _ rfl
        · rintro F E x y rfl
          show ∃ r : Int32, fA_successor_15b N n μ (fA_successor_15 N n μ F) (nI u) b x (nI n) = some r ∧ fM_successor_23b N (fM_successor_23 N E) (nI u) b x (nI n) ν' = some (r, ν')
          unfold fA_successor_15b fM_successor_23b fA_successor_58 fM_successor_64
          rw [hn', if_pos (nI_le (Nat.le_refl _) (by omega)), if_pos (nI_le (Nat.le_refl _) (by omega))]
          exact ⟨_, rfl, rfl⟩
      obtain ⟨r, e1, e2⟩ := main
      exact ⟨r, ν', e1, e2, g3⟩
    · rw [if_neg hb]
      refine ⟨-1, ν, ?_, rfl, h⟩
      refine lp_g (fun o => o = some (-1 : Int32)) (fun F k (acc : Int32) => fA_successor_15 N n μ F (nI u) b acc (nI k)) (fun k acc => ∃ z, z ≤ k ∧ acc = nI z) n ?_ ?_ n N 0 0 (by omega) (by omega) ⟨0, by omega, rfl⟩
      · rintro F k x hk ⟨z, hz, rfl⟩ ih
        show fA_successor_15b N n μ (fA_successor_15 N n μ F) (nI u) b (nI z) (nI k) = some (-1)
        unfold fA_successor_15b fA_successor_52
        have hne : ¬ nI z = b := fun e => hb (by rw [← e]; exact nI_pos' (by omega))
        rw [if_neg (nI_ge hk (by omega)), ba_gi hu (by omega), nI_clamp (by omega), q3, ap_holds (by omega) (by omega), ba_b, nI_1, nI_1]
        cases hbt : ls.testBit k with
        | true =>
          rw [ba_tt, ba_10, if_neg hne]
          exact ih _ ⟨z + 1, by omega, rfl⟩
        | false =>
          rw [ba_ff, ba_00]
          exact ih _ ⟨z, by omega, rfl⟩
      · rintro F x _
        show fA_successor_15b N n μ (fA_successor_15 N n μ F) (nI u) b x (nI n) = some (-1)
        unfold fA_successor_15b fA_successor_58
        rw [if_pos (nI_le (Nat.le_refl _) (by omega))]
theorem sh_flip : ∀ b, b < 2 → vp_nar .byte (((1 : Int32) - nI b).toInt8.toInt32) = nI (1 - b) ∧ (1 : Int32) - nI b = nI (1 - b) := by decide +kernel
theorem op_flip {N n : Nat} {μ ν : me_M} (hN : 4096 ≤ N) (a : Int32) (h : rl_R N n μ ν) : ∃ (r : Int32) (μ' ν' : me_M), fA_flip N n a μ = some (r, μ') ∧ fM_flip N a ν = some (r, ν') ∧ rl_R N n μ' ν' := by
  obtain ⟨⟨h1, h12⟩, hI, hD, hW, hS, hL⟩ := id h
  obtain ⟨hn, ⟨bs, b1, b2, b3, b4⟩, ho, hpk⟩ := id hI
  unfold fA_flip fM_flip fM_flip_12 fA_isPlace
  rw [b3.1, b4.1]
  rcases pk_ix a (n := bs.length) (by omega) with q | q | ⟨j, hj, rfl⟩
  · rw [ap_wlo q, if_pos q, ba_b, ba_gz0, ba_b, ba_00, ba_gz0, ba_gz0]
    exact ⟨_, _, _, rfl, rfl, h⟩
  · by_cases q1 : a < 0
    · rw [ap_wlo q1, if_pos q1, ba_b, ba_gz0, ba_b, ba_00, ba_gz0, ba_gz0]
      exact ⟨_, _, _, rfl, rfl, h⟩
    · have q2 : nI bs.length - 1 < a := by
        rw [ap_lt, show (1 : Int32) = nI 1 from rfl, pk_sub_toInt (by omega) (by omega)]
        rw [ap_le, nI_toInt (by omega)] at q
        omega
      rw [ap_whi q1 q2, if_neg q1, if_neg (fun z => absurd (Int32.not_lt.mpr q) (by simpa using z)), ba_b, ba_gz0, ba_b, ba_00, ba_gz0, ba_gz0]
      exact ⟨_, _, _, rfl, rfl, h⟩
  · have q2 : ¬ nI bs.length - 1 < nI j := by
      rw [ap_lt, show (1 : Int32) = nI 1 from rfl, pk_sub_toInt (by omega) (by omega), nI_toInt (by omega)]
      omega
    have hbit : bs.getD j 0 < 2 := by
      have : bs.getD j 0 ∈ bs := by
        rw [List.getD_eq_getElem?_getD, List.getElem?_eq_getElem hj]
        exact List.getElem_mem hj
      exact b1 _ this
    obtain ⟨f1, f2⟩ := sh_flip _ hbit
    rw [ap_win (nI_pos (by omega)) q2, if_neg (nI_pos (by omega)), if_pos (nI_lt hj (by omega)), ba_b, ba_gz1, ba_b, ba_10, ba_gi (n := 800) (by omega) (by decide), ba_gi (n := 800) (by omega) (by decide), ba_gi (n := 2048) (by omega) (by decide), ba_gi (n := 2048) (by omega) (by decide), nI_clamp (by omega), b3.2 j hj, b4.2 j hj, f1, f2]
    have hset : ∀ p, p < bs.length → (bs.set j (1 - bs.getD j 0)).getD p 0 = if p = j then 1 - bs.getD j 0 else bs.getD p 0 := by
      intro p hp
      rw [List.getD_eq_getElem?_getD, List.getElem?_set]
      by_cases e : j = p
      · subst e
        rw [if_pos rfl, if_pos hp, if_pos rfl]
        rfl
      · rw [if_neg e, if_neg (Ne.symm e), List.getD_eq_getElem?_getD]
    have hI2 : rl_I n (me_wi μ 3 j (nI (1 - bs.getD j 0))) (me_wi ν 2 j (nI (1 - bs.getD j 0))) := by
      refine ⟨by rw [me_wi_c _ _ _ _ (by decide)]; exact hn, ⟨bs.set j (1 - bs.getD j 0), ?_, by rw [List.length_set]; exact b2, ⟨?_, ?_⟩, ⟨?_, ?_⟩⟩, ?_, ?_⟩
      · intro b hb
        rcases List.mem_or_eq_of_mem_set hb with hb | hb
        · exact b1 b hb
        · omega
      · rw [me_wi_c _ _ _ _ (by decide), List.length_set]; exact b3.1
      · intro p hp
        rw [List.length_set] at hp
        rw [hset p hp]
        by_cases e : p = j
        · subst e; rw [me_wi_s, if_pos rfl]
        · rw [me_wi_n _ _ _ _ e, if_neg e]; exact b3.2 p hp
      · rw [me_wi_c _ _ _ _ (by decide), List.length_set]; exact b4.1
      · intro p hp
        rw [List.length_set] at hp
        rw [hset p hp]
        by_cases e : p = j
        · subst e; rw [me_wi_s, if_pos rfl]
        · rw [me_wi_n _ _ _ _ e, if_neg e]; exact b4.2 p hp
      · intro u hu
        rw [me_wi_c _ _ _ _ (by decide), me_wi_c _ _ _ _ (by decide)]
        exact ho u hu
      · obtain ⟨w, c, l, k, p1, p2, p3⟩ := hpk
        refine ⟨w, c, l, k, p1, ?_, ?_⟩
        · rw [me_wi_c _ _ _ _ (by decide), me_wi_c _ _ _ _ (by decide), me_wi_c _ _ _ _ (by decide), me_wi_c _ _ _ _ (by decide)]; exact p2
        · rw [me_wi_c _ _ _ _ (by decide), me_wi_c _ _ _ _ (by decide), me_wi_c _ _ _ _ (by decide), me_wi_c _ _ _ _ (by decide)]; exact p3
    obtain ⟨μ', ν', g1, -, g3, -, -⟩ := rc_read hN h1 h12 hI2
    rw [g1, ba_b, ba_gz1, ba_gz1]
    have kA : me_fr [3, 1207, 1208, 1209, 1210, 1211, 1212, 1213, 12, 13, 14, 15] [] μ μ' := (me_fr.rf.wi (by decide)).tr (g3.mono (by decide) (by decide))
    have kB : me_fr [2] [] ν (me_wi ν 2 j (nI (1 - bs.getD j 0))) := me_fr.rf.wi (by decide)
    refine ⟨_, _, _, rfl, rfl, ⟨h1, h12⟩, hI2.of (rl_fr g3 (by decide)) (fun _ _ => rfl), hD.of (kA.1 1 (by decide)) (kB.1 1 (by decide)), hW.of (kA.1 23 (by decide)) (kB.1 10 (by decide)), hS.of ⟨kA.1 2006 (by decide), kA.1 2007 (by decide)⟩ ⟨kB.1 120 (by decide), kB.1 121 (by decide)⟩ (funext fun c => kA.2 c (by simp)) rfl, ⟨_, μ', hI2, g1, fun u hu => ⟨rfl, rfl, rfl⟩⟩⟩
