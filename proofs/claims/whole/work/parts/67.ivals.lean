/- numbers with a sign; intervals and single nodes, read side by side -/
theorem iv_ndiv {w : Nat} (hw : w < 2 ^ 31) : (-nI w) / 2 = -nI (w / 2) := by
  apply Int32.toInt_inj.mp
  have h2 : (2 : Int32).toInt = 2 := by decide
  rw [Int32.toInt_div, sb_negT hw, h2, sb_negT (by omega), Int.neg_tdiv, Int.tdiv_eq_ediv_of_nonneg (by omega), Int.bmod_eq_of_le (by omega) (by omega)]
  omega
theorem iv_any {N : Nat} (x : Int32) : (∃ w, fT_withSign N x = some w) ∧ ∃ w, fM_whole N x = some w := by
  unfold fT_withSign fT_withSign_18 fM_whole fM_whole_18
  refine ⟨?_, ?_⟩
  · by_cases q : x - x / (2 : Int32) * (2 : Int32) = 0
    · rw [if_pos q]; exact ⟨_, rfl⟩
    · rw [if_neg q]; exact ⟨_, rfl⟩
  · by_cases q : x &&& (1 : Int32) = 0
    · rw [if_pos q]; exact ⟨_, rfl⟩
    · rw [if_neg q]; exact ⟨_, rfl⟩
theorem iv_sign {N g : Nat} (hg : g < 2 ^ 28) : ∃ w, fT_withSign N (nI g) = some w ∧ fM_whole N (nI g) = some w := by
  unfold fT_withSign fT_withSign_18 fM_whole fM_whole_18
  have hs : ∀ z : Nat, z < 2 ^ 31 → nI z >>> ((1 : Int32) &&& 31) = nI (z / 2) := fun z hz => pk_shrN hz _ 1 (by decide)
  rw [show (2 : Int32) = nI 2 from rfl, pk_rem (by omega) (by decide) (by decide), ba_and1 (by omega), pk_div (by omega) (by decide) (by decide), hs g (by omega), nI_1, hs (g + 1) (by omega)]
  have hm : g % 2 < 2 := Nat.mod_lt _ (by decide)
  by_cases q : g % 2 = 0
  · rw [q, if_pos nI_0, if_pos nI_0]
    exact ⟨_, rfl, rfl⟩
  · have q1 : g % 2 = 1 := by omega
    rw [q1, if_neg (by decide), if_neg (by decide)]
    refine ⟨_, rfl, ?_⟩
    rw [show nI 2 = (2 : Int32) from rfl, iv_ndiv (by omega)]
def iv_X (a k : Nat) : Nat := (2 ^ k - 1) * 2 ^ a
theorem iv_shift : ∀ a, a < 12 → ∀ k, k < 13 → a + k ≤ 12 → (((1 : Int32) <<< (nI k &&& 31)) - 1) <<< (nI a &&& 31) = nI (iv_X a k) ∧ st_cn (iv_X a k) 12 = k ∧ iv_X a k < 2 ^ (a + k) := by decide +kernel
theorem iv_next : ∀ a, a < 12 → ∀ k, k < 12 → iv_X a k ||| 2 ^ (a + k) = iv_X a (k + 1) ∧ (iv_X a k).testBit (a + k) = false ∧ iv_X a 0 = 0 := by decide +kernel
theorem iv_T0 {T L : Nat} (hT : T < 2) : te_T T L 0 = T := by
  unfold te_T
  rw [Nat.and_zero]
  have : T = 0 ∨ T = 1 := by omega
  rcases this with rfl | rfl
  · rw [if_neg (by simp)]
  · rw [if_pos (Or.inl rfl)]
/- behind a fault -/
theorem iv_outC {N n f F : Nat} {l1 l2 l3 : Int32} {μ : me_M} (hF : 0 < F) (h : μ.1 1209 0 = nI f) (hf : f ≤ 10) (h0 : f ≠ 0) : fD_readIntervals_9 N n F l1 l2 l3 μ = some μ := by
  obtain ⟨F, rfl⟩ : ∃ q, F = q + 1 := ⟨F - 1, by omega⟩
  show fD_readIntervals_9b N n (fD_readIntervals_9 N n F) l1 l2 l3 μ = some μ
  unfold fD_readIntervals_9b fD_readIntervals_154
  by_cases q : l1 ≤ l3
  · rw [if_pos q]
  · rw [if_neg q, h, if_neg (fun e => h0 ((nI_eq0 (by omega)).mp e))]
theorem iv_outM {N f F : Nat} {l1 l2 l3 l4 l5 l6 : Int32} {ν : me_M} (hF : 0 < F) (h : ν.1 112 0 = nI f) (hf : f ≤ 10) (h0 : f ≠ 0) : fM_readIntervals_14 N F l1 l2 l3 l4 l5 l6 ν = some (l4, ν) := by
  obtain ⟨F, rfl⟩ : ∃ q, F = q + 1 := ⟨F - 1, by omega⟩
  show fM_readIntervals_14b N (fM_readIntervals_14 N F) l1 l2 l3 l4 l5 l6 ν = some (l4, ν)
  unfold fM_readIntervals_14b fM_readIntervals_172
  by_cases q : l3 ≤ l6
  · rw [if_pos q]
  · rw [if_neg q, h, if_neg (fun e => h0 ((nI_eq0 (by omega)).mp e))]
theorem iv_out136 {N f F : Nat} {l1 l2 l3 l4 l5 l6 l8 : Int32} {ν : me_M} (hN : 4096 ≤ N) (hF : 0 < F) (h : ν.1 112 0 = nI f) (hf : f ≤ 10) (h0 : f ≠ 0) : fM_readIntervals_136 N (fM_readIntervals_14 N F) l1 l2 l3 l4 l5 l6 l8 ν = some (l4, ν) := by
  unfold fM_readIntervals_136
  obtain ⟨M, hM⟩ : ∃ q, N = q + 1 := ⟨N - 1, by omega⟩
  have : fM_readIntervals_140 N (fM_readIntervals_14 N F) N l1 l2 l3 l4 l5 l6 l8 ν = fM_readIntervals_140b N (fM_readIntervals_14 N F) (fM_readIntervals_140 N (fM_readIntervals_14 N F) M) l1 l2 l3 l4 l5 l6 l8 ν := by
    conv => lhs; rw [show fM_readIntervals_140 N (fM_readIntervals_14 N F) N = fM_readIntervals_140 N (fM_readIntervals_14 N F) (M + 1) by rw [← hM]]
    rfl
  rw [this]
  unfold fM_readIntervals_140b fM_readIntervals_166
  by_cases q : l5 < l8
  · rw [if_pos q]; exact iv_outM hF h hf h0
  · rw [if_neg q, h, if_neg (fun e => h0 ((nI_eq0 (by omega)).mp e))]; exact iv_outM hF h hf h0
/- the reference takes a row of nodes -/
theorem iv_row {N n L T a len : Nat} {l1 l2 l3 l4 l6 : Int32} {ν : me_M} {k14 : Int32 → Int32 → Int32 → Int32 → Int32 → Int32 → me_M → Option (Int32 × me_M)} (hN : 4096 ≤ N) (h12 : n ≤ 12) (hl : 1 ≤ len) (ha : a + len ≤ n) (hL : L < 2 ^ n) (hT : T < 2) (e0 : ν.1 112 0 = nI 0) (e1 : ν.1 113 0 = nI L) (e2 : ν.1 114 0 = nI T) : ∃ ν', fM_readIntervals_136 N k14 l1 l2 l3 l4 (nI (a + len - 1)) l6 (nI a) ν = k14 l1 l2 l3 l4 (nI (a + len - 1)) (l6 + 1) ν' ∧ me_fr [113, 114] [] ν ν' ∧ ν'.1 113 0 = nI (L ||| iv_X a len) ∧ ν'.1 114 0 = nI (te_T T L (iv_X a len)) := by
  have hp := dr_pow h12
  unfold fM_readIntervals_136
  refine lp_g (fun o => ∃ ν', o = k14 l1 l2 l3 l4 (nI (a + len - 1)) (l6 + 1) ν' ∧ me_fr [113, 114] [] ν ν' ∧ ν'.1 113 0 = nI (L ||| iv_X a len) ∧ ν'.1 114 0 = nI (te_T T L (iv_X a len))) (fun F k s => fM_readIntervals_140 N k14 F l1 l2 l3 l4 (nI (a + len - 1)) l6 (nI (a + k)) s) (fun k s => me_fr [113, 114] [] ν s ∧ s.1 113 0 = nI (L ||| iv_X a k) ∧ s.1 114 0 = nI (te_T T L (iv_X a k))) len ?_ ?_ len N 0 ν (by omega) (by omega) ?_
  · rintro F k s hk ⟨i1, i2, i3⟩ ih
    show ∃ ν', fM_readIntervals_140b N k14 (fM_readIntervals_140 N k14 F) l1 l2 l3 l4 (nI (a + len - 1)) l6 (nI (a + k)) s = _ ∧ _
    have e0' : s.1 112 0 = nI 0 := by rw [i1.1 112 (by decide)]; exact e0
    obtain ⟨x1, x2, -⟩ := iv_next a (by omega) k (by omega)
    have x3 := (iv_shift a (by omega) k (by omega) (by omega)).2.2
    have hpw : 2 ^ (a + k) ≤ 2 ^ n := Nat.pow_le_pow_right (n := 2) (by decide) (by omega)
    have hLX : L ||| iv_X a k < 2 ^ n := Nat.or_lt_two_pow hL (by omega)
    obtain ⟨s', g1, g2, g3, g4⟩ := te_M (N := N) (v := a + k) (by omega) (by omega) (te_T2 T L (iv_X a k)) i2 i3
    unfold fM_readIntervals_140b
    rw [if_neg (nI_nlt (by omega) (by omega)), e0', if_pos nI_0, g1, ba_b, nI_1]
    refine ih s' ⟨i1.tr g2, ?_, ?_⟩
    · rw [← x1, ← Nat.or_assoc]; exact g3
    · rw [← x1, ← te_step x2]; exact g4
  · rintro F s ⟨i1, i2, i3⟩
    show ∃ ν', fM_readIntervals_140b N k14 (fM_readIntervals_140 N k14 F) l1 l2 l3 l4 (nI (a + len - 1)) l6 (nI (a + len)) s = _ ∧ _
    unfold fM_readIntervals_140b fM_readIntervals_166
    rw [if_pos (nI_lt (by omega) (by omega))]
    exact ⟨s, rfl, i1, i2, i3⟩
  · obtain ⟨-, -, x0⟩ := iv_next a (by omega) 0 (by omega)
    refine ⟨me_fr.rf, ?_, ?_⟩
    · rw [x0, Nat.or_zero]; exact e1
    · rw [x0, iv_T0 hT]; exact e2
