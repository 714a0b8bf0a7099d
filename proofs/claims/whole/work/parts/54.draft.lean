/- add and drop -/
theorem dr_set {N n u s' : Nat} {μ ν : me_M} (h : rl_R N n μ ν) (hu : u < n) (hs : s' < 2 ^ n) : rl_R N n (me_wi μ 1 u (nI s')) (me_wi ν 1 u (nI s')) := by
  obtain ⟨h1, h2, h3, h4, h5, h6⟩ := h
  refine ⟨h1, h2.of (fun c hc => me_wi_c _ _ _ _ ?_) (fun c hc => me_wi_c _ _ _ _ ?_), fun w hw => ?_, h4.of (me_wi_c _ _ _ _ (by decide)) (me_wi_c _ _ _ _ (by decide)), h5.of ⟨me_wi_c _ _ _ _ (by decide), me_wi_c _ _ _ _ (by decide)⟩ ⟨me_wi_c _ _ _ _ (by decide), me_wi_c _ _ _ _ (by decide)⟩ rfl rfl, h6.of ⟨me_wi_c _ _ _ _ (by decide), me_wi_c _ _ _ _ (by decide), me_wi_c _ _ _ _ (by decide)⟩ (fun c hc => me_wi_c _ _ _ _ ?_)⟩
  · revert hc; revert c; decide
  · revert hc; revert c; decide
  · by_cases e : w = u
    · subst e
      exact ⟨s', hs, me_wi_s _ _ _ _, me_wi_s _ _ _ _⟩
    · rw [me_wi_n _ _ _ _ e, me_wi_n _ _ _ _ e]
      exact h3 w hw
  · revert hc; revert c; decide
theorem dr_pow {n : Nat} (h : n ≤ 12) : 2 ^ n ≤ 4096 := Nat.pow_le_pow_right (n := 2) (i := n) (j := 12) (by decide) h
theorem dr_pv {n v : Nat} (h : v < n) : 2 ^ v < 2 ^ n := Nat.pow_lt_pow_right (by decide) h
theorem op_add {N n : Nat} {μ ν : me_M} (a b : Int32) (h : rl_R N n μ ν) : ∃ (r : Int32) (μ' ν' : me_M), fA_add N n a b μ = some (r, μ') ∧ fM_add N a b ν = some (r, ν') ∧ rl_R N n μ' ν' := by
  obtain ⟨⟨h1, h12⟩, ⟨hn, -⟩, hD, -⟩ := id h
  unfold fA_add fA_add_29 fM_add fM_add_30
  have out : ∀ x : Int32, (x < 0 ∨ nI n ≤ x) ∨ ∃ j, j < n ∧ x = nI j := fun x => by
    rcases pk_ix x (n := n) (by omega) with q | q | q
    · exact Or.inl (Or.inl q)
    · exact Or.inl (Or.inr q)
    · exact Or.inr q
  rcases out a with q | ⟨u, hu, rfl⟩
  · rw [ap_node0 h1 h12 q, ap_mnode0 hn q, ba_b, ba_b, ba_00, ba_00, ba_gz0, ba_gz0]
    exact ⟨_, _, _, rfl, rfl, h⟩
  · rw [ap_node1 h12 hu, ap_mnode1 hn h12 hu, ba_b, ba_b, ba_10, ba_10]
    rcases out b with q | ⟨v, hv, rfl⟩
    · rw [ap_node0 h1 h12 q, ap_mnode0 hn q, ba_b, ba_b, ba_00, ba_00, ba_gz0, ba_gz0]
      exact ⟨_, _, _, rfl, rfl, h⟩
    · obtain ⟨s, hs, e1, e2⟩ := hD u hu
      have hp := dr_pow h12
      rw [ap_node1 h12 hv, ap_mnode1 hn h12 hv, ba_b, ba_b, ba_10, ba_10, ba_gi hu (by omega), ba_gi (n := 12) (by omega) (by decide), nI_clamp (by omega), e1, e2, ap_holds (by omega) (by omega), ap_bitM (by omega) (by omega), ba_b]
      cases hb : s.testBit v with
      | true =>
        rw [ba_tt, ba_10, if_pos rfl, ba_gz0, ba_gz0]
        exact ⟨_, _, _, rfl, rfl, h⟩
      | false =>
        rw [ba_ff, ba_00, if_neg (by decide), ba_gi hu (by omega), ba_gi hu (by omega), ba_gi (n := 12) (by omega) (by decide), ba_gi (n := 12) (by omega) (by decide), ba_gz1, ba_gz1, ap_shl1 v (by omega)]
        have hv2 := dr_pv hv
        rw [ap_or (by omega) (by omega)]
        exact ⟨_, _, _, rfl, rfl, dr_set h hu (Nat.or_lt_two_pow hs hv2)⟩
theorem op_drop {N n : Nat} {μ ν : me_M} (a b : Int32) (h : rl_R N n μ ν) : ∃ (r : Int32) (μ' ν' : me_M), fA_drop N n a b μ = some (r, μ') ∧ fM_drop N a b ν = some (r, ν') ∧ rl_R N n μ' ν' := by
  obtain ⟨⟨h1, h12⟩, ⟨hn, -⟩, hD, -⟩ := id h
  unfold fA_drop fA_drop_29 fM_drop fM_drop_29
  have out : ∀ x : Int32, (x < 0 ∨ nI n ≤ x) ∨ ∃ j, j < n ∧ x = nI j := fun x => by
    rcases pk_ix x (n := n) (by omega) with q | q | q
    · exact Or.inl (Or.inl q)
    · exact Or.inl (Or.inr q)
    · exact Or.inr q
  rcases out a with q | ⟨u, hu, rfl⟩
  · rw [ap_node0 h1 h12 q, ap_mnode0 hn q, ba_b, ba_b, ba_00, ba_00, ba_gz0, ba_gz0]
    exact ⟨_, _, _, rfl, rfl, h⟩
  · rw [ap_node1 h12 hu, ap_mnode1 hn h12 hu, ba_b, ba_b, ba_10, ba_10]
    rcases out b with q | ⟨v, hv, rfl⟩
    · rw [ap_node0 h1 h12 q, ap_mnode0 hn q, ba_b, ba_b, ba_00, ba_00, ba_gz0, ba_gz0]
      exact ⟨_, _, _, rfl, rfl, h⟩
    · obtain ⟨s, hs, e1, e2⟩ := hD u hu
      have hp := dr_pow h12
      rw [ap_node1 h12 hv, ap_mnode1 hn h12 hv, ba_b, ba_b, ba_10, ba_10, ba_gi hu (by omega), ba_gi (n := 12) (by omega) (by decide), nI_clamp (by omega), e1, e2, ap_holds (by omega) (by omega), ap_bitM (by omega) (by omega), ba_b]
      cases hb : s.testBit v with
      | false =>
        rw [ba_ff, ba_00, ba_00, ba_gz0, ba_gz0]
        exact ⟨_, _, _, rfl, rfl, h⟩
      | true =>
        rw [ba_tt, ba_10, ba_10, ba_gi hu (by omega), ba_gi hu (by omega), ba_gi (n := 12) (by omega) (by decide), ba_gi (n := 12) (by omega) (by decide), ba_gz1, ba_gz1, ap_shl1 v (by omega)]
        have hv2 := dr_pv hv
        rw [ap_andn (by omega) (by omega)]
        exact ⟨_, _, _, rfl, rfl, dr_set h hu (Nat.lt_of_le_of_lt (ap_di_le _ _) hs)⟩
