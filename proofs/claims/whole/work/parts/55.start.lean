/- sums, weights, prefer, start -/
theorem su_le {f : Nat → Nat} {v : Nat} : ∀ {n : Nat}, v < n → f v ≤ rl_sum f n := by
  intro n
  induction n with
  | zero => intro h; omega
  | succ n ih =>
    intro h
    unfold rl_sum
    by_cases e : v = n
    · subst e; omega
    · have := ih (by omega); omega
theorem su_bd {f : Nat → Nat} {B : Nat} : ∀ {n : Nat}, (∀ v, v < n → f v ≤ B) → rl_sum f n ≤ n * B := by
  intro n
  induction n with
  | zero => intro _; exact Nat.zero_le _
  | succ n ih =>
    intro h
    unfold rl_sum
    have h1 := ih (fun v hv => h v (by omega))
    have h2 := h n (by omega)
    rw [Nat.succ_mul]
    omega
theorem su_eq {f g : Nat → Nat} : ∀ {n : Nat}, (∀ v, v < n → f v = g v) → rl_sum f n = rl_sum g n := by
  intro n
  induction n with
  | zero => intro _; rfl
  | succ n ih =>
    intro h
    unfold rl_sum
    rw [ih (fun v hv => h v (by omega)), h n (by omega)]
theorem su_split {f : Nat → Nat} {v : Nat} : ∀ {n : Nat}, v < n → rl_sum f n = rl_sum (fun k => if k = v then 0 else f k) n + f v := by
  intro n
  induction n with
  | zero => intro h; omega
  | succ n ih =>
    intro h
    unfold rl_sum
    by_cases e : v = n
    · subst e
      rw [if_pos rfl, su_eq (g := fun k => if k = v then 0 else f k) (fun k hk => by rw [if_neg (by omega)])]
      omega
    · rw [ih (by omega), if_neg (by omega)]
      omega
theorem su_total {N n : Nat} {ν : me_M} {w : Nat → Nat} (hN : 4096 ≤ N) (h12 : n ≤ 12) (hn : ν.1 100 0 = nI n) (hw : ∀ v, v < n → ν.1 10 v = nI (w v)) : fM_total N ν = some (nI (rl_sum w n)) := by
  refine lp_g (fun o => o = some (nI (rl_sum w n))) (fun F k acc => fM_total_4 N ν F acc (nI k)) (fun k acc => acc = nI (rl_sum w k)) n ?_ ?_ n N 0 0 (by omega) (by omega) rfl
  · intro F k acc hk hI ih
    show fM_total_4b N ν (fM_total_4 N ν F) acc (nI k) = _
    unfold fM_total_4b
    rw [hn, if_neg (nI_ge hk (by omega)), ba_gi (by omega) (by decide), nI_clamp (by omega), hw k hk, nI_1]
    exact ih _ (by rw [hI, nI_add]; rfl)
  · intro F acc hI
    show fM_total_4b N ν (fM_total_4 N ν F) acc (nI n) = _
    unfold fM_total_4b fM_total_27
    rw [hn, if_pos (nI_le (Nat.le_refl _) (by omega)), hI]
theorem su_others {N n : Nat} {μ : me_M} {w : Nat → Nat} (x : Int32) (hN : 4096 ≤ N) (h12 : n ≤ 12) (hw : ∀ v, v < n → μ.1 23 v = nI (w v)) : fO_weightOfOthers N n μ x = some (nI (rl_sum (fun k => if nI k = x then 0 else w k) n)) := by
  refine lp_g (fun o => o = some (nI (rl_sum (fun k => if nI k = x then 0 else w k) n))) (fun F k acc => fO_weightOfOthers_4 N n μ F x acc (nI k)) (fun k acc => acc = nI (rl_sum (fun k => if nI k = x then 0 else w k) k)) n ?_ ?_ n N 0 0 (by omega) (by omega) rfl
  · intro F k acc hk hI ih
    show fO_weightOfOthers_4b N n μ (fO_weightOfOthers_4 N n μ F) x acc (nI k) = _
    unfold fO_weightOfOthers_4b fO_weightOfOthers_27
    rw [if_neg (nI_ge hk (by omega))]
    by_cases e : nI k = x
    · rw [if_pos e, nI_1]
      exact ih _ (by rw [hI, rl_sum, if_pos e]; rfl)
    · rw [if_neg e, ba_gi hk (by omega), nI_clamp (by omega), hw k hk, nI_1]
      exact ih _ (by rw [hI, nI_add, rl_sum, if_neg e])
  · intro F acc hI
    show fO_weightOfOthers_4b N n μ (fO_weightOfOthers_4 N n μ F) x acc (nI n) = _
    unfold fO_weightOfOthers_4b fO_weightOfOthers_33
    rw [if_pos (nI_le (Nat.le_refl _) (by omega)), hI]
theorem su_set {N n u y : Nat} {μ ν : me_M} (h : rl_R N n μ ν) (w : Nat → Nat) (hw : (∀ v, v < n → w v ≤ 100 ∧ μ.1 23 v = nI (w v) ∧ ν.1 10 v = nI (w v))) (hu : u < n) (hy : y ≤ 100) (hp : 1 ≤ rl_sum (fun k => if k = u then 0 else w k) n + y) : rl_R N n (me_wi μ 23 u (nI y)) (me_wi ν 10 u (nI y)) := by
  obtain ⟨h1, h2, h3, h4, h5, h6⟩ := h
  refine ⟨h1, h2.of (fun c hc => me_wi_c _ _ _ _ ?_) (fun c hc => me_wi_c _ _ _ _ ?_), h3.of (me_wi_c _ _ _ _ (by decide)) (me_wi_c _ _ _ _ (by decide)), ⟨fun k => if k = u then y else w k, fun v hv => ?_, ?_⟩, h5.of ⟨me_wi_c _ _ _ _ (by decide), me_wi_c _ _ _ _ (by decide)⟩ ⟨me_wi_c _ _ _ _ (by decide), me_wi_c _ _ _ _ (by decide)⟩ rfl rfl, h6.of ⟨me_wi_c _ _ _ _ (by decide), me_wi_c _ _ _ _ (by decide), me_wi_c _ _ _ _ (by decide)⟩ (fun c hc => me_wi_c _ _ _ _ ?_)⟩
  · revert hc; revert c; decide
  · revert hc; revert c; decide
  · dsimp only
    by_cases e : v = u
    · subst e
      rw [if_pos rfl, me_wi_s, me_wi_s]
      exact ⟨hy, rfl, rfl⟩
    · rw [if_neg e, me_wi_n _ _ _ _ e, me_wi_n _ _ _ _ e]
      exact hw v hv
  · rw [su_split hu, if_pos rfl, su_eq (g := fun k => if k = u then 0 else w k) (fun k _ => by by_cases e : k = u <;> simp [e])]
    exact hp
  · revert hc; revert c; decide
theorem op_prefer {N n : Nat} {μ ν : me_M} (hN : 4096 ≤ N) (a b : Int32) (h : rl_R N n μ ν) : ∃ (r : Int32) (μ' ν' : me_M), fA_prefer N n a b μ = some (r, μ') ∧ fM_prefer N a b ν = some (r, ν') ∧ rl_R N n μ' ν' := by
  obtain ⟨⟨h1, h12⟩, ⟨hn, -⟩, -, ⟨w, hw, hw1⟩, -⟩ := id h
  unfold fA_prefer fA_prefer_31 fM_prefer fM_prefer_35
  have outA : (a < 0 ∨ nI n ≤ a) ∨ ∃ j, j < n ∧ a = nI j := by
    rcases pk_ix a (n := n) (by omega) with q | q | q
    · exact Or.inl (Or.inl q)
    · exact Or.inl (Or.inr q)
    · exact Or.inr q
  rcases outA with q | ⟨u, hu, rfl⟩
  · rw [ap_node0 h1 h12 q, ap_mnode0 hn q, ba_b, ba_b, ba_00, ba_00, ba_gz0, ba_gz0]
    exact ⟨_, _, _, rfl, rfl, h⟩
  · rw [ap_node1 h12 hu, ap_mnode1 hn h12 hu, ba_b, ba_b, ba_10, ba_10]
    by_cases q1 : b < 0
    · rw [ap_wlo q1, if_pos q1, ba_b, ba_00, ba_gz0, ba_gz0]
      exact ⟨_, _, _, rfl, rfl, h⟩
    · by_cases q2 : (100 : Int32) < b
      · rw [ap_whi q1 q2, if_neg q1, if_pos q2, ba_b, ba_00, ba_gz0, ba_gz0]
        exact ⟨_, _, _, rfl, rfl, h⟩
      · obtain ⟨y, hy, rfl⟩ := nI_of2 (M := 100) (n := 100) (by decide) q1 (Int32.not_lt.mp q2)
        have hsb : rl_sum (fun k => if k = u then 0 else w k) n ≤ n * 100 := su_bd (fun v hv => by
          show (if v = u then 0 else w v) ≤ 100
          by_cases e : v = u
          · rw [if_pos e]; omega
          · rw [if_neg e]; exact (hw v hv).1)
        have hoth : rl_sum (fun k => if nI k = nI u then 0 else w k) n = rl_sum (fun k => if k = u then 0 else w k) n := su_eq (fun k hk => by
          show (if nI k = nI u then 0 else w k) = (if k = u then 0 else w k)
          by_cases e : k = u
          · rw [if_pos (by rw [e]), if_pos e]
          · rw [if_neg (fun z => e ((nI_eq (by omega) (by omega)).mp z)), if_neg e])
        have hsp := su_split (f := w) hu
        rw [ap_win q1 q2, ba_b, ba_10, su_others _ hN h12 (fun v hv => (hw v hv).2.1), ba_b, hoth, nI_add, if_neg q1, if_neg q2]
        generalize hgS : rl_sum (fun k => if k = u then 0 else w k) n = S at hsb hsp
        unfold fM_prefer_37
        by_cases z : S + y = 0
        · have hy0 : y = 0 := by omega
          have hS0 : S = 0 := by omega
          rw [z, nI_0, ba_00, ba_gz0]
          rw [hy0, nI_0, ba_00, su_total hN h12 hn (fun v hv => (hw v hv).2.2), ba_b, ba_gi (n := 12) (by omega) (by decide), nI_clamp (by omega), (hw u hu).2.2, if_pos (by rw [hsp, hS0, Nat.zero_add]), ba_gz0]
          exact ⟨_, _, _, rfl, rfl, h⟩
        · rw [if_neg (fun e => nI_ne0 (by omega) (by omega) e), ba_gi hu (by omega), ba_gz1, nI_clamp (by omega)]
          have hset := su_set h w hw hu hy (by rw [hgS]; omega)
          by_cases hy0 : y = 0
          · rw [if_pos (by rw [hy0]; rfl), su_total hN h12 hn (fun v hv => (hw v hv).2.2), ba_b, ba_gi (n := 12) (by omega) (by decide), (hw u hu).2.2, if_neg (fun e => by
              have hb := (hw u hu).1
              have hle := su_bd (n := n) (f := w) (B := 100) (fun v hv => (hw v hv).1)
              have := (nI_eq (a := rl_sum w n) (b := w u) (by omega) (by omega)).mp e
              omega), ba_gi (n := 12) (by omega) (by decide), ba_gz1]
            exact ⟨_, _, _, rfl, rfl, hset⟩
          · rw [if_neg (fun e => nI_ne0 (by omega) (by omega) e), ba_gi (n := 12) (by omega) (by decide), ba_gz1]
            exact ⟨_, _, _, rfl, rfl, hset⟩
