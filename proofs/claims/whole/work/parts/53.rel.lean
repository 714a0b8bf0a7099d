/- the tie between the class's memory and the reference's -/
def rl_I (n : Nat) (μ ν : me_M) : Prop := ν.1 100 0 = nI n ∧ (∃ bs : List Nat, (∀ b ∈ bs, b < 2) ∧ bs.length ≤ 800 ∧ ta_C μ bs ∧ ta_M ν bs) ∧ (∀ u, u ≤ n → ∃ o, o ≤ 800 ∧ μ.1 5 u = nI o ∧ ν.1 3 u = nI o) ∧ (∃ w c l k : Nat, (w ≤ 6 ∧ c ≤ 3 ∧ l ≤ 9 ∧ 1 ≤ k ∧ k ≤ 4) ∧ (μ.1 500 0 = nI w ∧ μ.1 501 0 = nI c ∧ μ.1 502 0 = nI l ∧ μ.1 503 0 = nI k) ∧ (ν.1 105 0 = nI w ∧ ν.1 106 0 = nI c ∧ ν.1 107 0 = nI l ∧ ν.1 108 0 = nI k))
def rl_D (n : Nat) (μ ν : me_M) : Prop := ∀ u, u < n → ∃ s, s < 2 ^ n ∧ μ.1 1 u = nI s ∧ ν.1 1 u = nI s
def rl_sum (f : Nat → Nat) : Nat → Nat
  | 0 => 0
  | n + 1 => rl_sum f n + f n
def rl_W (n : Nat) (μ ν : me_M) : Prop := ∃ w : Nat → Nat, (∀ v, v < n → w v ≤ 100 ∧ μ.1 23 v = nI (w v) ∧ ν.1 10 v = nI (w v)) ∧ 1 ≤ rl_sum w n
def rl_S (n : Nat) (μ ν : me_M) : Prop := ∃ (kd a : Nat) (s h : Nat → Nat), (kd ≤ 2 ∧ a ≤ 1000 ∧ μ.1 2006 0 = nI kd ∧ ν.1 120 0 = nI kd ∧ μ.1 2007 0 = nI a ∧ ν.1 121 0 = nI a) ∧ μ.2 2003 0 = ν.2 125 0 ∧ (∀ v, v < n → μ.2 20 v = lN (s v) ∧ ν.2 11 v = lN (s v) ∧ μ.2 21 v = lN (h v) ∧ ν.2 12 v = lN (h v)) ∧ ((kd = 1 → ∀ v, v < n → s v ≤ 1000000 ∧ h v ≤ 1000000) ∧ (kd ≠ 1 → rl_sum s n ≤ 1000000000000))
def rl_L (N n : Nat) (μ ν : me_M) : Prop := ∃ μ0 μ1 : me_M, rl_I n μ0 ν ∧ fD_readAll N n μ0 = some μ1 ∧ ∀ u, u < n → μ.1 12 u = μ1.1 12 u ∧ μ.1 13 u = μ1.1 13 u ∧ μ.1 14 u = μ1.1 14 u
def rl_R (N n : Nat) (μ ν : me_M) : Prop := (1 ≤ n ∧ n ≤ 12) ∧ rl_I n μ ν ∧ rl_D n μ ν ∧ rl_W n μ ν ∧ rl_S n μ ν ∧ rl_L N n μ ν
/- each part speaks of its own components alone -/
theorem rl_I.of {n : Nat} {μ ν μ' ν' : me_M} (h : rl_I n μ ν) (hc : ∀ c ∈ [3, 301, 5, 500, 501, 502, 503], μ'.1 c = μ.1 c) (hd : ∀ c ∈ [100, 2, 103, 3, 105, 106, 107, 108], ν'.1 c = ν.1 c) : rl_I n μ' ν' := by
  obtain ⟨h1, ⟨bs, b1, b2, b3, b4⟩, h3, w, c, l, k, h4, h5, h6⟩ := h
  refine ⟨by rw [hd 100 (by decide)]; exact h1, ⟨bs, b1, b2, ?_, ?_⟩, fun u hu => ?_, w, c, l, k, h4, ?_, ?_⟩
  · unfold ta_C; rw [hc 301 (by decide), hc 3 (by decide)]; exact b3
  · unfold ta_M; rw [hd 103 (by decide), hd 2 (by decide)]; exact b4
  · rw [hc 5 (by decide), hd 3 (by decide)]; exact h3 u hu
  · rw [hc 500 (by decide), hc 501 (by decide), hc 502 (by decide), hc 503 (by decide)]; exact h5
  · rw [hd 105 (by decide), hd 106 (by decide), hd 107 (by decide), hd 108 (by decide)]; exact h6
theorem rl_D.of {n : Nat} {μ ν μ' ν' : me_M} (h : rl_D n μ ν) (hc : μ'.1 1 = μ.1 1) (hd : ν'.1 1 = ν.1 1) : rl_D n μ' ν' := by
  intro u hu
  rw [hc, hd]
  exact h u hu
theorem rl_W.of {n : Nat} {μ ν μ' ν' : me_M} (h : rl_W n μ ν) (hc : μ'.1 23 = μ.1 23) (hd : ν'.1 10 = ν.1 10) : rl_W n μ' ν' := by
  unfold rl_W
  rw [hc, hd]
  exact h
theorem rl_S.of {n : Nat} {μ ν μ' ν' : me_M} (h : rl_S n μ ν) (hc : μ'.1 2006 = μ.1 2006 ∧ μ'.1 2007 = μ.1 2007) (hd : ν'.1 120 = ν.1 120 ∧ ν'.1 121 = ν.1 121) (he : μ'.2 = μ.2) (hf : ν'.2 = ν.2) : rl_S n μ' ν' := by
  unfold rl_S
  rw [hc.1, hc.2, hd.1, hd.2, he, hf]
  exact h
theorem rl_L.of {N n : Nat} {μ ν μ' ν' : me_M} (h : rl_L N n μ ν) (hc : μ'.1 12 = μ.1 12 ∧ μ'.1 13 = μ.1 13 ∧ μ'.1 14 = μ.1 14) (hd : ∀ c ∈ [100, 2, 103, 3, 105, 106, 107, 108], ν'.1 c = ν.1 c) : rl_L N n μ' ν' := by
  obtain ⟨μ0, μ1, h1, h2, h3⟩ := h
  refine ⟨μ0, μ1, h1.of (fun _ _ => rfl) hd, h2, fun u hu => ?_⟩
  rw [hc.1, hc.2.1, hc.2.2]
  exact h3 u hu
/- what neither reads nor shows -/
def rl_cC : List Nat := [3, 301, 5, 500, 501, 502, 503, 1, 23, 2006, 2007, 12, 13, 14]
def rl_cM : List Nat := [100, 2, 103, 3, 105, 106, 107, 108, 1, 10, 120, 121]
theorem rl_R.of {N n : Nat} {μ ν μ' ν' : me_M} (h : rl_R N n μ ν) (hc : ∀ c ∈ rl_cC, μ'.1 c = μ.1 c) (hd : ∀ c ∈ rl_cM, ν'.1 c = ν.1 c) (he : μ'.2 = μ.2) (hf : ν'.2 = ν.2) : rl_R N n μ' ν' := by
  obtain ⟨h1, h2, h3, h4, h5, h6⟩ := h
  refine ⟨h1, h2.of (fun c hm => hc c ?_) (fun c hm => hd c ?_), h3.of (hc 1 (by decide)) (hd 1 (by decide)), h4.of (hc 23 (by decide)) (hd 10 (by decide)), h5.of ⟨hc 2006 (by decide), hc 2007 (by decide)⟩ ⟨hd 120 (by decide), hd 121 (by decide)⟩ he hf, h6.of ⟨hc 12 (by decide), hc 13 (by decide), hc 14 (by decide)⟩ (fun c hm => hd c ?_)⟩
  · revert hm; revert c; decide
  · revert hm; revert c; decide
  · revert hm; revert c; decide
theorem rl_fr {cs ds : List Nat} {μ μ' : me_M} (h : me_fr cs ds μ μ') {L : List Nat} (hL : ∀ c ∈ L, c ∉ cs) : ∀ c ∈ L, μ'.1 c = μ.1 c := fun c hc => h.1 c (hL c hc)
/- small calls -/
theorem op_offset {N n : Nat} {μ ν : me_M} (a : Int32) (h : rl_R N n μ ν) : ∃ r : Int32, fA_offset N n μ a = some r ∧ fM_offset N ν a = some r ∧ rl_R N n μ ν := by
  obtain ⟨⟨h1, h12⟩, hI, -⟩ := id h
  obtain ⟨hn, -, ho, -⟩ := hI
  unfold fA_offset fA_offset_25 fM_offset fM_offset_21 fM_offset_22
  rw [hn]
  rcases pk_ix a (n := n + 1) (by omega) with q | q | ⟨j, hj, rfl⟩
  · rw [ap_wlo q, if_pos q]
    exact ⟨_, rfl, rfl, h⟩
  · have q1 : ¬ a < 0 := by rw [ap_lt]; rw [ap_le, nI_toInt (by omega)] at q; intro z; have : (0 : Int32).toInt = 0 := rfl; omega
    have q2 : nI n < a := by rw [ap_lt, nI_toInt (by omega)]; rw [ap_le, nI_toInt (by omega)] at q; omega
    rw [ap_whi q1 q2, if_neg q1, if_pos q2]
    exact ⟨_, rfl, rfl, h⟩
  · obtain ⟨o, -, e1, e2⟩ := ho j (by omega)
    rw [ap_win (nI_pos (by omega)) (nI_nlt (by omega) (by omega)), ba_b, ba_10, if_neg (nI_pos (by omega)), if_neg (nI_nlt (by omega) (by omega)), ba_gi hj (by omega), ba_gi (n := 13) (by omega) (by decide), nI_clamp (by omega), e1, e2]
    exact ⟨_, rfl, rfl, h⟩
theorem op_score {N n : Nat} {μ ν : me_M} (a : Int32) (h : rl_R N n μ ν) : ∃ r : Int64, fA_score N n μ a = some r ∧ fM_score N ν a = some r ∧ rl_R N n μ ν := by
  obtain ⟨⟨h1, h12⟩, ⟨hn, -⟩, -, -, ⟨kd, da, s, hh, -, -, hv, -⟩, -⟩ := id h
  unfold fA_score fA_score_23 fM_score fM_score_20
  rcases pk_ix a (n := n) (by omega) with q | q | ⟨j, hj, rfl⟩
  · rw [ap_node0 h1 h12 (Or.inl q), ap_mnode0 hn (Or.inl q)]
    exact ⟨_, rfl, rfl, h⟩
  · rw [ap_node0 h1 h12 (Or.inr q), ap_mnode0 hn (Or.inr q)]
    exact ⟨_, rfl, rfl, h⟩
  · rw [ap_node1 h12 hj, ap_mnode1 hn h12 hj]
    rw [ba_b, ba_b, ba_10, ba_10, ba_gi hj (by omega), ba_gi (n := 12) (by omega) (by decide), nI_clamp (by omega), (hv j hj).1, (hv j hj).2.1]
    exact ⟨_, rfl, rfl, h⟩
theorem op_hub {N n : Nat} {μ ν : me_M} (a : Int32) (h : rl_R N n μ ν) : ∃ r : Int64, fA_hub N n μ a = some r ∧ fM_hub N ν a = some r ∧ rl_R N n μ ν := by
  obtain ⟨⟨h1, h12⟩, ⟨hn, -⟩, -, -, ⟨kd, da, s, hh, -, -, hv, -⟩, -⟩ := id h
  unfold fA_hub fA_hub_23 fM_hub fM_hub_20
  rcases pk_ix a (n := n) (by omega) with q | q | ⟨j, hj, rfl⟩
  · rw [ap_node0 h1 h12 (Or.inl q), ap_mnode0 hn (Or.inl q)]
    exact ⟨_, rfl, rfl, h⟩
  · rw [ap_node0 h1 h12 (Or.inr q), ap_mnode0 hn (Or.inr q)]
    exact ⟨_, rfl, rfl, h⟩
  · rw [ap_node1 h12 hj, ap_mnode1 hn h12 hj]
    rw [ba_b, ba_b, ba_10, ba_10, ba_gi hj (by omega), ba_gi (n := 12) (by omega) (by decide), nI_clamp (by omega), (hv j hj).2.2.1, (hv j hj).2.2.2]
    exact ⟨_, rfl, rfl, h⟩
theorem op_change {N n : Nat} {μ ν : me_M} (h : rl_R N n μ ν) : ∃ r : Int64, fA_change N n μ = some r ∧ fM_change N ν = some r ∧ rl_R N n μ ν := by
  obtain ⟨-, -, -, -, ⟨kd, da, s, hh, -, hm, -⟩, -⟩ := id h
  unfold fA_change fM_change
  exact ⟨ν.2 125 0, by rw [hm], rfl, h⟩
theorem op_bit {N n : Nat} {μ ν : me_M} (a : Int32) (h : rl_R N n μ ν) : ∃ r : Int32, fA_bit N n μ a = some r ∧ fM_bit N ν a = some r ∧ rl_R N n μ ν := by
  obtain ⟨⟨h1, h12⟩, ⟨hn, ⟨bs, -, b2, b3, b4⟩, -⟩, -⟩ := id h
  unfold fA_bit fA_bit_21 fM_bit fM_bit_21 fM_bit_22 fA_isPlace
  rw [b3.1, b4.1]
  rcases pk_ix a (n := bs.length) (by omega) with q | q | ⟨j, hj, rfl⟩
  · rw [ap_wlo q, if_pos q]
    refine ⟨-1, ?_, rfl, h⟩
    show Option.bind (me_gz 0 (some 0)) _ = _
    rw [ba_gz0]
    rfl
  · by_cases q1 : a < 0
    · rw [ap_wlo q1, if_pos q1]
      refine ⟨-1, ?_, rfl, h⟩
      show Option.bind (me_gz 0 (some 0)) _ = _
      rw [ba_gz0]
      rfl
    · have q2 : nI bs.length - 1 < a := by
        rw [ap_lt, show (1 : Int32) = nI 1 from rfl, pk_sub_toInt (by omega) (by omega)]
        rw [ap_le, nI_toInt (by omega)] at q
        omega
      rw [ap_whi q1 q2, if_neg q1, if_pos q]
      refine ⟨-1, ?_, rfl, h⟩
      show Option.bind (me_gz 0 (some 0)) _ = _
      rw [ba_gz0]
      rfl
  · have q2 : ¬ nI bs.length - 1 < nI j := by
      rw [ap_lt, show (1 : Int32) = nI 1 from rfl, pk_sub_toInt (by omega) (by omega), nI_toInt (by omega)]
      omega
    rw [ap_win (nI_pos (by omega)) q2, ba_b, ba_gz1, ba_b, ba_10, if_neg (nI_pos (by omega)), if_neg (nI_ge hj (by omega)), ba_gi (n := 800) (by omega) (by decide), ba_gi (n := 2048) (by omega) (by decide), nI_clamp (by omega), b3.2 j hj, b4.2 j hj]
    exact ⟨_, rfl, rfl, h⟩
