/- pack -/
theorem pz_M {N w c l k : Nat} {ν : me_M} (hw6 : w ≤ 6) (hc3 : c ≤ 3) (hl9 : l ≤ 9) (hk : 1 ≤ k) (hk4 : k ≤ 4) : fM_pack N (nI w) (nI c) (nI l) (nI k) ν = fM_pack_72 N N 0 (me_wi (me_wi (me_wi (me_wi (me_wi ν 105 0 (nI w)) 106 0 (nI c)) 107 0 (nI l)) 108 0 (nI k)) 103 0 0) := by
  unfold fM_pack
  rw [if_neg (nI_pos (by omega)), show (6 : Int32) = nI 6 from rfl, if_neg (nI_nlt hw6 (by omega)), if_neg (nI_pos (by omega)), show (3 : Int32) = nI 3 from rfl, if_neg (nI_nlt hc3 (by omega)), if_neg (nI_pos (by omega)), show (9 : Int32) = nI 9 from rfl, if_neg (nI_nlt hl9 (by omega)), show (1 : Int32) = nI 1 from rfl, if_neg (nI_nlt hk (by omega)), show (4 : Int32) = nI 4 from rfl, if_pos (nI_le hk4 (by omega))]
theorem pz_dr {n : Nat} {μ ν : me_M} (h12 : n ≤ 12) (h : rl_D n μ ν) : ∃ dr : Nat → Nat, ∀ v, v < n → dr v < 2 ^ n ∧ μ.1 1 v = nI (dr v) ∧ ν.1 1 v = nI (dr v) := by
  have hp := dr_pow h12
  refine ⟨fun v => (μ.1 1 v).toNatClampNeg, fun v hv => ?_⟩
  obtain ⟨s, h1, h2, h3⟩ := h v hv
  have e : (μ.1 1 v).toNatClampNeg = s := by rw [h2]; exact nI_clamp (by omega)
  dsimp only
  rw [e]
  exact ⟨h1, h2, h3⟩
theorem op_pack {N n : Nat} {μ ν : me_M} (hN : 4096 ≤ N) (a1 a2 a3 a4 : Int32) (h : rl_R N n μ ν) : ∃ (r : Int32) (μ' ν' : me_M), fA_pack N n a1 a2 a3 a4 μ = some (r, μ') ∧ fM_pack N a1 a2 a3 a4 ν = some (r, ν') ∧ rl_R N n μ' ν' := by
  obtain ⟨⟨h1, h12⟩, hI, hD, hW, hS, hL⟩ := id h
  unfold fA_pack fA_pack_39
  by_cases q1 : a1 < 0
  · unfold fM_pack fM_pack_41
    rw [ap_wlo q1, if_pos q1, ba_b, ba_00]
    exact ⟨_, _, _, rfl, rfl, h⟩
  by_cases q2 : (6 : Int32) < a1
  · unfold fM_pack fM_pack_41
    rw [ap_whi q1 q2, if_neg q1, if_pos q2, ba_b, ba_00]
    exact ⟨_, _, _, rfl, rfl, h⟩
  rw [ap_win q1 q2, ba_b, ba_10]
  by_cases q3 : a2 < 0
  · unfold fM_pack fM_pack_41
    rw [ap_wlo q3, if_neg q1, if_neg q2, if_pos q3, ba_b, ba_00]
    exact ⟨_, _, _, rfl, rfl, h⟩
  by_cases q4 : (3 : Int32) < a2
  · unfold fM_pack fM_pack_41
    rw [ap_whi q3 q4, if_neg q1, if_neg q2, if_neg q3, if_pos q4, ba_b, ba_00]
    exact ⟨_, _, _, rfl, rfl, h⟩
  rw [ap_win q3 q4, ba_b, ba_10]
  by_cases q5 : a3 < 0
  · unfold fM_pack fM_pack_41
    rw [ap_wlo q5, if_neg q1, if_neg q2, if_neg q3, if_neg q4, if_pos q5, ba_b, ba_00]
    exact ⟨_, _, _, rfl, rfl, h⟩
  by_cases q6 : (9 : Int32) < a3
  · unfold fM_pack fM_pack_41
    rw [ap_whi q5 q6, if_neg q1, if_neg q2, if_neg q3, if_neg q4, if_neg q5, if_pos q6, ba_b, ba_00]
    exact ⟨_, _, _, rfl, rfl, h⟩
  rw [ap_win q5 q6, ba_b, ba_10]
  by_cases q7 : a4 < (1 : Int32)
  · unfold fM_pack fM_pack_41
    rw [ap_wlo q7, if_neg q1, if_neg q2, if_neg q3, if_neg q4, if_neg q5, if_neg q6, if_pos q7, ba_b, ba_00]
    exact ⟨_, _, _, rfl, rfl, h⟩
  by_cases q8 : (4 : Int32) < a4
  · unfold fM_pack fM_pack_41
    rw [ap_whi q7 q8, if_neg q1, if_neg q2, if_neg q3, if_neg q4, if_neg q5, if_neg q6, if_neg q7, if_neg (fun z => absurd (Int32.not_lt.mpr z) (by simpa using q8)), ba_b, ba_00]
    exact ⟨_, _, _, rfl, rfl, h⟩
  rw [ap_win q7 q8, ba_b, ba_10]
  obtain ⟨w, hw, rfl⟩ := nI_of2 (M := 6) (n := 6) (by decide) q1 (Int32.not_lt.mp q2)
  obtain ⟨c, hc, rfl⟩ := nI_of2 (M := 3) (n := 3) (by decide) q3 (Int32.not_lt.mp q4)
  obtain ⟨l, hl, rfl⟩ := nI_of2 (M := 9) (n := 9) (by decide) q5 (Int32.not_lt.mp q6)
  have q7' : ¬ a4 < 0 := fun z => q7 (by rw [ap_lt] at z ⊢; have e0 : (0 : Int32).toInt = 0 := rfl; have e1 : (1 : Int32).toInt = 1 := rfl; omega)
  obtain ⟨k, hk, rfl⟩ := nI_of2 (M := 4) (n := 4) (by decide) q7' (Int32.not_lt.mp q8)
  have hk1 : 1 ≤ k := Nat.not_lt.mp fun z => q7 (nI_lt (b := 1) z (by omega))
  obtain ⟨dr, hdr⟩ := pz_dr h12 hD
  have fA : me_fr [500, 501, 502, 503] [] μ (me_wi (me_wi (me_wi (me_wi μ 500 0 (nI w)) 501 0 (nI c)) 502 0 (nI l)) 503 0 (nI k)) := (((me_fr.rf.wi (by decide)).wi (by decide)).wi (by decide)).wi (by decide)
  have fB : me_fr [105, 106, 107, 108] [] ν (me_wi (me_wi (me_wi (me_wi ν 105 0 (nI w)) 106 0 (nI c)) 107 0 (nI l)) 108 0 (nI k)) := (((me_fr.rf.wi (by decide)).wi (by decide)).wi (by decide)).wi (by decide)
  rw [pz_M hw hc hl hk1 hk]
  have v500 : (me_wi (me_wi (me_wi (me_wi μ 500 0 (nI w)) 501 0 (nI c)) 502 0 (nI l)) 503 0 (nI k)).1 500 0 = nI w := by rw [me_wi_c _ _ _ _ (by decide), me_wi_c _ _ _ _ (by decide), me_wi_c _ _ _ _ (by decide), me_wi_s]
  have v501 : (me_wi (me_wi (me_wi (me_wi μ 500 0 (nI w)) 501 0 (nI c)) 502 0 (nI l)) 503 0 (nI k)).1 501 0 = nI c := by rw [me_wi_c _ _ _ _ (by decide), me_wi_c _ _ _ _ (by decide), me_wi_s]
  have v502 : (me_wi (me_wi (me_wi (me_wi μ 500 0 (nI w)) 501 0 (nI c)) 502 0 (nI l)) 503 0 (nI k)).1 502 0 = nI l := by rw [me_wi_c _ _ _ _ (by decide), me_wi_s]
  have v503 : (me_wi (me_wi (me_wi (me_wi μ 500 0 (nI w)) 501 0 (nI c)) 502 0 (nI l)) 503 0 (nI k)).1 503 0 = nI k := by rw [me_wi_s]
  have v105 : (me_wi (me_wi (me_wi (me_wi ν 105 0 (nI w)) 106 0 (nI c)) 107 0 (nI l)) 108 0 (nI k)).1 105 0 = nI w := by rw [me_wi_c _ _ _ _ (by decide), me_wi_c _ _ _ _ (by decide), me_wi_c _ _ _ _ (by decide), me_wi_s]
  have v106 : (me_wi (me_wi (me_wi (me_wi ν 105 0 (nI w)) 106 0 (nI c)) 107 0 (nI l)) 108 0 (nI k)).1 106 0 = nI c := by rw [me_wi_c _ _ _ _ (by decide), me_wi_c _ _ _ _ (by decide), me_wi_s]
  have v107 : (me_wi (me_wi (me_wi (me_wi ν 105 0 (nI w)) 106 0 (nI c)) 107 0 (nI l)) 108 0 (nI k)).1 107 0 = nI l := by rw [me_wi_c _ _ _ _ (by decide), me_wi_s]
  have v108 : (me_wi (me_wi (me_wi (me_wi ν 105 0 (nI w)) 106 0 (nI c)) 107 0 (nI l)) 108 0 (nI k)).1 108 0 = nI k := by rw [me_wi_s]
  generalize me_wi (me_wi (me_wi (me_wi μ 500 0 (nI w)) 501 0 (nI c)) 502 0 (nI l)) 503 0 (nI k) = μa at *
  generalize me_wi (me_wi (me_wi (me_wi ν 105 0 (nI w)) 106 0 (nI c)) 107 0 (nI l)) 108 0 (nI k) = νa at *
  obtain ⟨μ1, ν1, r, g1, g2, g3, g4, g5, g6⟩ := py_all (N := N) (n := n) (w := w) (c := c) (l := l) (k := k) (dr := dr) (μ := μa) (ν := νa) hN h1 h12 hw hc hl hk1 hk (fun v hv => ⟨(hdr v hv).1, by rw [fA.1 1 (by decide)]; exact (hdr v hv).2.1, by rw [fB.1 1 (by decide)]; exact (hdr v hv).2.2⟩) v500 v501 v502 v503 (by rw [fB.1 100 (by decide)]; exact hI.1) v105 v106 v107 v108
  obtain ⟨μ2, ν2, r1, -, r3, -, -⟩ := rc_read hN h1 h12 g4
  rw [g1, ba_b, r1, ba_b, g2]
  have kA : me_fr [500, 501, 502, 503, 3, 301, 5, 7, 8, 9, 10, 1207, 1208, 1209, 1210, 1211, 1212, 1213, 12, 13, 14, 15] [] μ μ2 := (fA.mono (by decide) (by decide)).tr ((g5.mono (by decide) (by decide)).tr (r3.mono (by decide) (by decide)))
  have kB : me_fr [105, 106, 107, 108, 2, 103, 3, 4, 5] [] ν ν1 := (fB.mono (by decide) (by decide)).tr (g6.mono (by decide) (by decide))
  refine ⟨r, μ2, ν1, by rw [r3.1 301 (by decide), g3], rfl, ⟨h1, h12⟩, g4.of (rl_fr r3 (by decide)) (fun _ _ => rfl), hD.of (kA.1 1 (by decide)) (kB.1 1 (by decide)), hW.of (kA.1 23 (by decide)) (kB.1 10 (by decide)), hS.of ⟨kA.1 2006 (by decide), kA.1 2007 (by decide)⟩ ⟨kB.1 120 (by decide), kB.1 121 (by decide)⟩ (funext fun c => kA.2 c (by simp)) (funext fun c => kB.2 c (by simp)), ⟨μ1, μ2, g4, r1, fun u hu => ⟨rfl, rfl, rfl⟩⟩⟩
/- the beginning -/
theorem pz_wC {N n : Nat} (hN : 4096 ≤ N) (h12 : n ≤ 12) : ∃ μ', fO_init N n = some μ' ∧ me_fr [23] [] me_z μ' ∧ ∀ v, v < n → μ'.1 23 v = nI 1 := by
  refine lp_g (fun o => ∃ μ', o = some μ' ∧ me_fr [23] [] me_z μ' ∧ ∀ v, v < n → μ'.1 23 v = nI 1) (fun F k s => fO_init_43 N n F (nI k) s) (fun k s => me_fr [23] [] me_z s ∧ ∀ v, v < k → s.1 23 v = nI 1) n ?_ ?_ n N 0 me_z (by omega) (by omega) ⟨me_fr.rf, fun v hv => by omega⟩
  · rintro F k s hk ⟨f1, f2⟩ ih
    show ∃ μ', fO_init_43b N n (fO_init_43 N n F) (nI k) s = some μ' ∧ _
    unfold fO_init_43b
    rw [if_neg (nI_ge hk (by omega)), ba_gi hk (by omega), nI_clamp (by omega), nI_1]
    refine ih _ ⟨f1.wi (by decide), fun v hv => ?_⟩
    by_cases e : v = k
    · subst e; rw [me_wi_s]; rfl
    · rw [me_wi_n _ _ _ _ e]; exact f2 v (by omega)
  · rintro F s ⟨f1, f2⟩
    show ∃ μ', fO_init_43b N n (fO_init_43 N n F) (nI n) s = some μ' ∧ _
    unfold fO_init_43b fO_init_62
    rw [if_pos (nI_le (Nat.le_refl _) (by omega))]
    exact ⟨s, rfl, f1, f2⟩
theorem pz_wM {N : Nat} (hN : 4096 ≤ N) (ν : me_M) : ∃ ν', fM_init_152 N N 0 ν = fM_init_171 N ν' ∧ me_fr [10] [] ν ν' ∧ ∀ v, v < 12 → ν'.1 10 v = nI 1 := by
  refine lp_g (fun o => ∃ ν', o = fM_init_171 N ν' ∧ me_fr [10] [] ν ν' ∧ ∀ v, v < 12 → ν'.1 10 v = nI 1) (fun F k s => fM_init_152 N F (nI k) s) (fun k s => me_fr [10] [] ν s ∧ ∀ v, v < k → s.1 10 v = nI 1) 12 ?_ ?_ 12 N 0 ν (by omega) (by omega) ⟨me_fr.rf, fun v hv => by omega⟩
  · rintro F k s hk ⟨f1, f2⟩ ih
    show ∃ ν', fM_init_152b N (fM_init_152 N F) (nI k) s = fM_init_171 N ν' ∧ _
    unfold fM_init_152b
    rw [show (12 : Int32) = nI 12 from rfl, if_neg (nI_ge hk (by omega)), ba_gi hk (by omega), nI_clamp (by omega), nI_1]
    refine ih _ ⟨f1.wi (by decide), fun v hv => ?_⟩
    by_cases e : v = k
    · subst e; rw [me_wi_s]; rfl
    · rw [me_wi_n _ _ _ _ e]; exact f2 v (by omega)
  · rintro F s ⟨f1, f2⟩
    show ∃ ν', fM_init_152b N (fM_init_152 N F) (nI 12) s = fM_init_171 N ν' ∧ _
    unfold fM_init_152b
    rw [if_pos (show (12 : Int32) ≤ nI 12 by decide)]
    exact ⟨s, rfl, f1, f2⟩
theorem pz_init {N n : Nat} (hN : 4096 ≤ N) (h1 : 1 ≤ n) (h12 : n ≤ 12) : ∃ μ ν, fA_init N n = some μ ∧ fM_init_147 N (nI n) me_zm = some ν ∧ rl_R N n μ ν := by
  obtain ⟨μ0, a1, a2, a3⟩ := pz_wC (N := N) (n := n) hN h12
  obtain ⟨ν0, b1, b2, b3⟩ := pz_wM (N := N) hN (me_wi me_zm 100 0 (nI n))
  have fB : me_fr [105, 106, 107, 108] [] ν0 (me_wi (me_wi (me_wi (me_wi ν0 105 0 (nI 0)) 106 0 (nI 0)) 107 0 (nI 0)) 108 0 (nI 1)) := (((me_fr.rf.wi (by decide)).wi (by decide)).wi (by decide)).wi (by decide)
  have hn0 : ν0.1 100 0 = nI n := by rw [b2.1 100 (by decide), me_wi_s]
  have hd0 : ∀ v, ν0.1 1 v = nI 0 := fun v => by rw [b2.1 1 (by decide), me_wi_c _ _ _ _ (by decide)]; rfl
  have v105 : (me_wi (me_wi (me_wi (me_wi ν0 105 0 (nI 0)) 106 0 (nI 0)) 107 0 (nI 0)) 108 0 (nI 1)).1 105 0 = nI 0 := by rw [me_wi_c _ _ _ _ (by decide), me_wi_c _ _ _ _ (by decide), me_wi_c _ _ _ _ (by decide), me_wi_s]
  have v106 : (me_wi (me_wi (me_wi (me_wi ν0 105 0 (nI 0)) 106 0 (nI 0)) 107 0 (nI 0)) 108 0 (nI 1)).1 106 0 = nI 0 := by rw [me_wi_c _ _ _ _ (by decide), me_wi_c _ _ _ _ (by decide), me_wi_s]
  have v107 : (me_wi (me_wi (me_wi (me_wi ν0 105 0 (nI 0)) 106 0 (nI 0)) 107 0 (nI 0)) 108 0 (nI 1)).1 107 0 = nI 0 := by rw [me_wi_c _ _ _ _ (by decide), me_wi_s]
  have v108 : (me_wi (me_wi (me_wi (me_wi ν0 105 0 (nI 0)) 106 0 (nI 0)) 107 0 (nI 0)) 108 0 (nI 1)).1 108 0 = nI 1 := by rw [me_wi_s]
  have hp : fM_pack N 0 0 0 1 ν0 = fM_pack_72 N N 0 (me_wi (me_wi (me_wi (me_wi (me_wi ν0 105 0 (nI 0)) 106 0 (nI 0)) 107 0 (nI 0)) 108 0 (nI 1)) 103 0 0) := pz_M (N := N) (w := 0) (c := 0) (l := 0) (k := 1) (ν := ν0) (by decide) (by decide) (by decide) (by decide) (by decide)
  generalize me_wi (me_wi (me_wi (me_wi ν0 105 0 (nI 0)) 106 0 (nI 0)) 107 0 (nI 0)) 108 0 (nI 1) = νa at *
  obtain ⟨μ1, ν1, r, g1, g2, g3, g4, g5, g6⟩ := py_all (N := N) (n := n) (w := 0) (c := 0) (l := 0) (k := 1) (dr := fun _ => 0) (μ := μ0) (ν := νa) hN h1 h12 (by decide) (by decide) (by decide) (by decide) (by decide) (fun v hv => ⟨Nat.two_pow_pos n, by rw [a2.1 1 (by decide)]; rfl, by rw [fB.1 1 (by decide)]; exact hd0 v⟩) (by rw [a2.1 500 (by decide)]; rfl) (by rw [a2.1 501 (by decide)]; rfl) (by rw [a2.1 502 (by decide)]; rfl) (by rw [a2.1 503 (by decide)]; rfl) (by rw [fB.1 100 (by decide)]; exact hn0) v105 v106 v107 v108
  obtain ⟨μ2, ν2, r1, -, r3, -, -⟩ := rc_read hN h1 h12 g4
  obtain ⟨μ3, e1, f1, c1, c2, c3, c4⟩ := tp_begin (N := N) (n := n) (kd := 0) (a := 850) (μ := μ2) hN h1 h12 (by decide)
  have hn1 : ν1.1 100 0 = nI n := by rw [g6.1 100 (by decide), fB.1 100 (by decide)]; exact hn0
  obtain ⟨ν3, e2, f2, d1, d2, d3, d4⟩ := tp_startM (N := N) (n := n) (kd := 0) (a := 850) (μ := ν1) hN h1 h12 (by decide) (by decide) hn1
  have kA : me_fr [3, 301, 5, 7, 8, 9, 10, 1207, 1208, 1209, 1210, 1211, 1212, 1213, 12, 13, 14, 15] [] μ0 μ2 := (g5.mono (by decide) (by decide)).tr (r3.mono (by decide) (by decide))
  have kB : me_fr [105, 106, 107, 108, 2, 103, 3, 4, 5] [] ν0 ν1 := (fB.mono (by decide) (by decide)).tr (g6.mono (by decide) (by decide))
  refine ⟨μ3, ν3, ?_, ?_, ⟨h1, h12⟩, g4.of (fun c hc => by rw [rl_fr f1 (L := [3, 301, 5, 500, 501, 502, 503]) (by decide) c hc, rl_fr r3 (L := [3, 301, 5, 500, 501, 502, 503]) (by decide) c hc]) (rl_fr f2 (by decide)), fun u hu => ⟨0, Nat.two_pow_pos n, ?_, ?_⟩, ⟨fun _ => 1, fun v hv => ⟨show 1 ≤ 100 by decide, ?_, ?_⟩, ?_⟩, ⟨0, 850, fun _ => if 0 = 1 then 1000000 else 1000000000000 / n, fun _ => if 0 = 1 then 1000000 else 0, ⟨by decide, by decide, c1, d1, c2, d2⟩, by rw [c3, d3], fun v hv => ⟨(c4 v hv).1, (d4 v hv).1, (c4 v hv).2, (d4 v hv).2⟩, fun e => absurd e (by decide), fun _ => ?_⟩, ⟨μ1, μ2, g4.of (fun _ _ => rfl) (rl_fr f2 (by decide)), r1, fun u hu => ?_⟩⟩
  · unfold fA_init
    rw [a1, ba_b, g1, ba_b, r1, ba_b]
    show (fO_begin N n (nI 0) (nI 850) μ2).bind _ = _
    rw [e1]
    rfl
  · unfold fM_init_147
    rw [b1]
    unfold fM_init_171
    rw [hp, g2, ba_b]
    show (fM_start N (nI 0) (nI 850) ν1).bind _ = _
    rw [e2]
    rfl
  · rw [f1.1 1 (by decide), kA.1 1 (by decide), a2.1 1 (by decide)]; rfl
  · rw [f2.1 1 (by decide), kB.1 1 (by decide)]; exact hd0 u
  · rw [f1.1 23 (by decide), kA.1 23 (by decide)]; exact a3 v hv
  · rw [f2.1 10 (by decide), kB.1 10 (by decide)]; exact b3 v (by omega)
  · rw [tp_sumc]; omega
  · rw [tp_sumc, if_neg (by decide)]
    exact Nat.mul_div_le _ _
  · rw [f1.1 12 (by decide), f1.1 13 (by decide), f1.1 14 (by decide)]
    exact ⟨rfl, rfl, rfl⟩
theorem pz_all {N : Nat} (hN : 4096 ≤ N) : lj_init N (rl_R N) := by
  intro x
  by_cases q1 : (1 : Int32) ≤ x
  · by_cases q2 : x ≤ (12 : Int32)
    · have q0 : ¬ x < 0 := fun z => by rw [ap_lt] at z; rw [ap_le] at q1; have e0 : (0 : Int32).toInt = 0 := rfl; have e1 : (1 : Int32).toInt = 1 := rfl; omega
      obtain ⟨j, hj, rfl⟩ := nI_of2 (M := 12) (n := 12) (by decide) q0 q2
      have hj1 : 1 ≤ j := Nat.not_lt.mp fun z => (nI_ge (a := j) (b := 1) z (by omega)) q1
      obtain ⟨μ, ν, e1, e2, e3⟩ := pz_init (N := N) (n := j) hN hj1 hj
      refine ⟨j, μ, ν, hj, ?_, e1, ?_, e3⟩
      · have h12' : (if nI j < (12 : Int32) then nI j else (12 : Int32)) = nI j := by
          split
          · rfl
          · rename_i hh
            have : j = 12 := by
              rcases Nat.lt_or_ge j 12 with z | z
              · exact absurd (nI_lt (b := 12) z (by omega)) hh
              · omega
            rw [this]; rfl
        rw [h12']
        split
        · rfl
        · rename_i hh
          have : j = 1 := by
            rcases Nat.lt_or_ge 1 j with z | z
            · exact absurd (nI_lt (a := 1) z (by omega)) hh
            · omega
          rw [this]; rfl
      · unfold fM_init
        rw [if_pos q1, if_pos q2]
        exact e2
    · obtain ⟨μ, ν, e1, e2, e3⟩ := pz_init (N := N) (n := 12) hN (by decide) (by decide)
      refine ⟨12, μ, ν, by decide, ?_, e1, ?_, e3⟩
      · have : ¬ x < (12 : Int32) := fun z => q2 (by rw [ap_le]; rw [ap_lt] at z; omega)
        rw [if_neg this]
        decide
      · unfold fM_init
        rw [if_pos q1, if_neg q2]
        exact e2
  · obtain ⟨μ, ν, e1, e2, e3⟩ := pz_init (N := N) (n := 1) hN (by decide) (by decide)
    have z1 : x.toInt < 1 := by
      rw [ap_le] at q1
      have : (1 : Int32).toInt = 1 := rfl
      omega
    refine ⟨1, μ, ν, by decide, ?_, e1, ?_, e3⟩
    · have h1 : x < (12 : Int32) := by rw [ap_lt]; have : (12 : Int32).toInt = 12 := rfl; omega
      rw [if_pos h1, if_neg]
      · rfl
      · rw [ap_lt]; have : (1 : Int32).toInt = 1 := rfl; omega
    · unfold fM_init
      rw [if_neg q1]
      exact e2
