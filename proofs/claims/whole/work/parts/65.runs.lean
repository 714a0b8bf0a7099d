/- runs, read side by side -/
theorem rn_ext {x y : Nat} (hx : x < 4096) (hy : y < 4096) (h : ∀ v, v < 12 → x.testBit v = y.testBit v) : x = y := by
  apply st_ext hx hy
  intro v hv
  rw [st_bitb, st_bitb, h v hv]
theorem rn_geb {x : Nat} (hx : x < 4096) (a : Nat) {v : Nat} (hv : v < 12) : (st_ge x a).testBit v = (x.testBit v && decide (a ≤ st_cn x v)) := by
  rw [ba_tb, ba_tb, (st_ge_bit hx a v hv).1]
  by_cases c1 : x / 2 ^ v % 2 = 1 <;> by_cases c2 : a ≤ st_cn x v <;> simp [c1, c2]
theorem rn_gege (x a b : Nat) : st_ge (st_ge x a) b = st_ge x (a + b) := by
  induction b with
  | zero => rfl
  | succ b ih => show st_ge (st_ge x a) b &&& (st_ge (st_ge x a) b - 1) = _; rw [ih]; rfl
theorem rn_ge0 {x a : Nat} (h : st_ge x a = 0) : ∀ b, st_ge x (a + b) = 0 := by
  intro b
  induction b with
  | zero => exact h
  | succ b ih => show st_ge x (a + b) &&& (st_ge x (a + b) - 1) = 0; rw [ih]; rfl
theorem rn_lt {x : Nat} (hx : x < 4096) (a : Nat) : st_ge x a < 4096 := Nat.lt_of_le_of_lt (st_ge_le x a) hx
theorem rn_dilt {a b : Nat} (h : a < 4096) : ap_di a b < 4096 := Nat.lt_of_le_of_lt (ap_di_le a b) h
theorem rn_left {x : Nat} (hx : x < 4096) (a b : Nat) : ap_di (st_ge x a) (ap_di (st_ge x a) (st_ge x (a + b))) = st_ge x (a + b) := by
  apply rn_ext (rn_dilt (rn_lt hx a)) (rn_lt hx _)
  intro v hv
  rw [ap_di_bit _ _ _ (by omega), ap_di_bit _ _ _ (by omega), rn_geb hx _ hv, rn_geb hx _ hv]
  by_cases c1 : x.testBit v = true <;> by_cases c2 : a ≤ st_cn x v <;> by_cases c3 : a + b ≤ st_cn x v <;> simp [c1, c2, c3] <;> omega
theorem rn_ge12 {x : Nat} (hx : x < 4096) : st_ge x 12 = 0 := by
  apply st_zero (rn_lt hx _)
  rw [st_ge_cn hx]
  have := st_cn_le x 12
  omega
theorem rn_di0 {x : Nat} (hx : x < 4096) : ap_di x 0 = x := by
  apply rn_ext (rn_dilt hx) hx
  intro v hv
  rw [ap_di_bit _ _ _ (by omega), Nat.zero_testBit]
  simp
theorem rn_low {N x : Nat} (hN : 4096 ≤ N) (hx : x < 4096) (c : Int32) : ∃ j, fD_lowest N (nI x) c = some (nI (ap_di x (st_ge x j))) ∧ ∀ cc, c = nI cc → cc < 2 ^ 31 → st_ge x j = st_ge x cc := by
  have main : ∀ (m F i : Nat), st_cn x 12 - i ≤ m → m < F → i ≤ 12 → ∃ j, fD_lowest_4 N F (nI x) c (nI (st_ge x i)) (nI i) = some (nI (ap_di x (st_ge x j))) ∧ ∀ cc, c = nI cc → cc < 2 ^ 31 → i ≤ cc → st_ge x j = st_ge x cc := by
    intro m
    induction m with
    | zero =>
      intro F i hm hF hi
      obtain ⟨F, rfl⟩ : ∃ q, F = q + 1 := ⟨F - 1, by omega⟩
      have hz : st_ge x i = 0 := st_zero (rn_lt hx _) (by rw [st_ge_cn hx]; omega)
      show ∃ j, fD_lowest_4b N (fD_lowest_4 N F) (nI x) c (nI (st_ge x i)) (nI i) = _ ∧ _
      unfold fD_lowest_4b fD_lowest_25
      refine ⟨i, ?_, fun cc _ _ hc => ?_⟩
      · by_cases q : c ≤ nI i
        · rw [if_pos q, ap_andn (by omega) (by have := rn_lt hx i; omega)]
        · rw [if_neg q, if_pos (by rw [hz]; rfl), ap_andn (by omega) (by have := rn_lt hx i; omega)]
      · have := rn_ge0 hz (cc - i)
        rw [show i + (cc - i) = cc by omega] at this
        rw [hz, this]
    | succ m ih =>
      intro F i hm hF hi
      obtain ⟨F, rfl⟩ : ∃ q, F = q + 1 := ⟨F - 1, by omega⟩
      have hlt := rn_lt hx i
      show ∃ j, fD_lowest_4b N (fD_lowest_4 N F) (nI x) c (nI (st_ge x i)) (nI i) = _ ∧ _
      unfold fD_lowest_4b fD_lowest_25
      by_cases q : c ≤ nI i
      · rw [if_pos q, ap_andn (by omega) (by omega)]
        refine ⟨i, rfl, fun cc h1 h2 h3 => ?_⟩
        subst h1
        have := (nI_leI (a := cc) (b := i) (by omega) (by omega)).mp q
        rw [show cc = i by omega]
      · rw [if_neg q]
        by_cases z : st_ge x i = 0
        · rw [if_pos (by rw [z]; rfl), ap_andn (by omega) (by omega)]
          refine ⟨i, rfl, fun cc _ _ hc => ?_⟩
          have := rn_ge0 z (cc - i)
          rw [show i + (cc - i) = cc by omega] at this
          rw [z, this]
        · have hcn : 0 < st_cn x 12 - i := by
            apply Nat.pos_of_ne_zero
            intro e
            exact z (st_zero hlt (by rw [st_ge_cn hx]; exact e))
          have h12 := st_cn_le x 12
          rw [if_neg (fun e => z ((nI_eq0 (by omega)).mp e)), show (1 : Int32) = nI 1 from rfl, pk_sub (by omega), ap_and (by omega) (by omega), nI_add]
          obtain ⟨j, e1, e2⟩ := ih F (i + 1) (by omega) (by omega) (by omega)
          refine ⟨j, e1, fun cc h1 h2 h3 => ?_⟩
          by_cases hc : cc = i
          · subst hc
            exact absurd (by rw [h1]; exact nI_le (Nat.le_refl _) (by omega)) q
          · exact e2 cc h1 h2 (by omega)
  obtain ⟨j, e1, e2⟩ := main 12 N 0 (by have := st_cn_le x 12; omega) (by omega) (by omega)
  exact ⟨j, e1, fun cc h1 h2 => e2 cc h1 h2 (Nat.zero_le _)⟩
theorem rn_endC {N n f : Nat} {l2 l3 l4 : Int32} {μ : me_M} (h : μ.1 1209 0 = nI f) (hf : f ≤ 10) (h0 : f ≠ 0) : ∃ μ', fD_readRuns_100 N n l2 l3 l4 μ = some μ' ∧ me_fr [1211, 1212, 1213] [] μ μ' := by
  have g1 : ∀ z s1 : Int32, (s1 = 0 ∨ s1 = 1) → ∃ μ', fD_readRuns_128 N n z s1 μ = some μ' ∧ me_fr [1211, 1212, 1213] [] μ μ' := by
    intro z s1 hs
    have hfi : fD_failIf N n s1 6 μ = some μ := by
      rcases hs with rfl | rfl
      · exact bt_failF
      · rw [show (6 : Int32) = nI 6 from rfl, bt_failT h hf, if_neg h0]
    unfold fD_readRuns_128
    rw [hfi, ba_b]
    obtain ⟨μ', e1, e2⟩ := te_any (N := N) (n := n) (x := z) (μ := μ)
    rw [e1, ba_b]
    exact ⟨μ', rfl, e2⟩
  have g2 : ∀ z : Int32, ∃ μ', fD_readRuns_111 N n z μ = some μ' ∧ me_fr [1211, 1212, 1213] [] μ μ' := by
    intro z
    obtain ⟨r, hr⟩ : ∃ r, fJ_bitCount N z = some r := ⟨_, rfl⟩
    unfold fD_readRuns_111
    rw [hr, ba_b]
    by_cases q : r ≤ μ.1 1212 0
    · rw [if_pos q]; exact g1 _ _ (Or.inl rfl)
    · rw [if_neg q]; exact g1 _ _ (Or.inr rfl)
  unfold fD_readRuns_100
  by_cases q : l4 - l4 / (2 : Int32) * (2 : Int32) = 0
  · rw [if_pos q]; exact g2 _
  · rw [if_neg q]; exact g2 _
theorem rn_endM {N f : Nat} {l1 l2 l3 l4 : Int32} {ν : me_M} (h : ν.1 112 0 = nI f) (hf : f ≤ 10) (h0 : f ≠ 0) : fM_readRuns_103 N l1 l2 l3 l4 ν = some ν := by
  have ne : ¬ nI f = 0 := fun e => h0 ((nI_eq0 (by omega)).mp e)
  unfold fM_readRuns_103 fM_readRuns_125 fM_readRuns_149
  rw [h, if_neg ne, if_neg ne]
/- the loop's end behind a fault -/
theorem rn_outC {N n f F : Nat} {l2 l3 l4 l5 : Int32} {μ : me_M} (hF : 0 < F) (h : μ.1 1209 0 = nI f) (hf : f ≤ 10) (h0 : f ≠ 0) : ∃ μ', fD_readRuns_13 N n F l2 l3 l4 l5 μ = some μ' ∧ me_fr [1211, 1212, 1213] [] μ μ' := by
  obtain ⟨F, rfl⟩ : ∃ q, F = q + 1 := ⟨F - 1, by omega⟩
  show ∃ μ', fD_readRuns_13b N n (fD_readRuns_13 N n F) l2 l3 l4 l5 μ = some μ' ∧ _
  unfold fD_readRuns_13b
  by_cases q : l4 ≤ l5
  · rw [if_pos q]; exact rn_endC h hf h0
  · rw [if_neg q, h, if_neg (fun e => h0 ((nI_eq0 (by omega)).mp e))]; exact rn_endC h hf h0
theorem rn_outM {N f F : Nat} {l1 l2 l3 l4 l5 : Int32} {ν : me_M} (hF : 0 < F) (h : ν.1 112 0 = nI f) (hf : f ≤ 10) (h0 : f ≠ 0) : fM_readRuns_11 N F l1 l2 l3 l4 l5 ν = some ν := by
  obtain ⟨F, rfl⟩ : ∃ q, F = q + 1 := ⟨F - 1, by omega⟩
  show fM_readRuns_11b N (fM_readRuns_11 N F) l1 l2 l3 l4 l5 ν = some ν
  unfold fM_readRuns_11b
  by_cases q : l3 ≤ l5
  · rw [if_pos q]; exact rn_endM h hf h0
  · rw [if_neg q, h, if_neg (fun e => h0 ((nI_eq0 (by omega)).mp e))]; exact rn_endM h hf h0
theorem rn_step62 {N n x : Nat} {s1 c l2 l4 l5 : Int32} {F : Nat} {μ μ1 : me_M} (hN : 4096 ≤ N) (hx : x < 4096) (hfi : fD_failIf N n s1 6 μ = some μ1) (P : Option me_M → Prop) (k : ∀ (j : Nat) (z : Int32), (∀ cc, c = nI cc → cc < 2 ^ 31 → st_ge x j = st_ge x cc) → (z = if l5 - l5 / (2 : Int32) * (2 : Int32) = 0 then l2 ||| nI (ap_di x (st_ge x j)) else l2) → P (fD_readRuns_13 N n F z (nI (ap_di x (ap_di x (st_ge x j)))) l4 (l5 + 1) μ1)) : P (fD_readRuns_62 N n (fD_readRuns_13 N n F) l2 (nI x) l4 l5 c s1 μ) := by
  obtain ⟨j, e1, e2⟩ := rn_low (N := N) hN hx c
  have hd : ap_di x (st_ge x j) < 4096 := rn_dilt hx
  unfold fD_readRuns_62 fD_readRuns_94
  rw [hfi, ba_b, e1, ba_b, ap_andn (by omega) (by omega)]
  by_cases q : l5 - l5 / (2 : Int32) * (2 : Int32) = 0
  · rw [if_pos q]; exact k j _ e2 (by rw [if_pos q])
  · rw [if_neg q]; exact k j _ e2 (by rw [if_neg q])
