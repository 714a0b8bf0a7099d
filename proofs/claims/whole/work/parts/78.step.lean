/- sums kept in cells -/
theorem ac_nest {R : Type} (G : Option R → Prop) (c n N : Nat) (μ0 : me_M) (x : Nat → Nat → Nat) (H : Nat → Nat → me_M → Option R) (I : Nat → Nat → Nat → Nat → me_M → Option R) (hN : n < N)
    (ho : ∀ F i μ, i < n → me_fr [] [c] μ0 μ → H (F + 1) i μ = I F N i 0 (me_wl μ c i (lN 0)))
    (hi : ∀ F E i j μ, i < n → j < n → me_fr [] [c] μ0 μ → I F (E + 1) i j μ = I F E i (j + 1) (me_wl μ c i (μ.2 c i + lN (x i j))))
    (he : ∀ F E i μ, i < n → me_fr [] [c] μ0 μ → I F (E + 1) i n μ = H F (i + 1) μ)
    (hx : ∀ F μ, me_fr [] [c] μ0 μ → (∀ v, v < n → μ.2 c v = lN (rl_sum (x v) n)) → G (H (F + 1) n μ)) : G (H N 0 μ0) := by
  refine lp_g G H (fun k s => me_fr [] [c] μ0 s ∧ ∀ v, v < k → s.2 c v = lN (rl_sum (x v) n)) n ?_ ?_ n N 0 μ0 (by omega) (by omega) ⟨me_fr.rf, fun v hv => by omega⟩
  · rintro F k s hk ⟨f1, f2⟩ ih
    rw [ho F k s hk f1]
    refine lp_g G (fun E j t => I F E k j t) (fun j t => me_fr [] [c] μ0 t ∧ (∀ v, v < k → t.2 c v = lN (rl_sum (x v) n)) ∧ t.2 c k = lN (rl_sum (x k) j)) n ?_ ?_ n N 0 _ (by omega) (by omega) ⟨f1.wl (by simp), fun v hv => ?_, ?_⟩
    · rintro E j t hj ⟨g1, g2, g3⟩ ih2
      show G (I F (E + 1) k j t)
      rw [hi F E k j t hk hj g1]
      refine ih2 _ ⟨g1.wl (by simp), fun v hv => ?_, ?_⟩
      · rw [me_wl_n _ _ _ _ (by omega)]; exact g2 v hv
      · rw [me_wl_s, g3, lN_add]; rfl
    · rintro E t ⟨g1, g2, g3⟩
      show G (I F (E + 1) k n t)
      rw [he F E k t hk g1]
      refine ih _ ⟨g1, fun v hv => ?_⟩
      by_cases e : v = k
      · subst e; exact g3
      · exact g2 v (by omega)
    · rw [me_wl_n _ _ _ _ (by omega)]; exact f2 v hv
    · rw [me_wl_s]; rfl
  · rintro F s ⟨f1, f2⟩
    exact hx F s f1 f2
theorem ac_local {R : Type} (G : Option R → Prop) (c n N : Nat) (μ0 : me_M) (x : Nat → Nat → Nat) (z : Nat → Nat) (H : Nat → Nat → me_M → Option R) (I : Nat → Nat → Nat → Nat → Int64 → me_M → Option R) (hN : n < N)
    (ho : ∀ F i μ, i < n → me_fr [] [c] μ0 μ → H (F + 1) i μ = I F N i 0 (lN 0) μ)
    (hi : ∀ F E i j y μ, i < n → j < n → me_fr [] [c] μ0 μ → I F (E + 1) i j (lN y) μ = I F E i (j + 1) (lN (y + x i j)) μ)
    (he : ∀ F E i μ, i < n → me_fr [] [c] μ0 μ → I F (E + 1) i n (lN (rl_sum (x i) n)) μ = H F (i + 1) (me_wl μ c i (lN (z i))))
    (hx : ∀ F μ, me_fr [] [c] μ0 μ → (∀ v, v < n → μ.2 c v = lN (z v)) → G (H (F + 1) n μ)) : G (H N 0 μ0) := by
  refine lp_g G H (fun k s => me_fr [] [c] μ0 s ∧ ∀ v, v < k → s.2 c v = lN (z v)) n ?_ ?_ n N 0 μ0 (by omega) (by omega) ⟨me_fr.rf, fun v hv => by omega⟩
  · rintro F k s hk ⟨f1, f2⟩ ih
    rw [ho F k s hk f1]
    refine lp_g G (fun E j t => I F E k j t s) (fun j t => t = lN (rl_sum (x k) j)) n ?_ ?_ n N 0 _ (by omega) (by omega) rfl
    · rintro E j t hj rfl ih2
      show G (I F (E + 1) k j _ s)
      rw [hi F E k j _ s hk hj f1]
      exact ih2 _ rfl
    · rintro E t rfl
      show G (I F (E + 1) k n _ s)
      rw [he F E k s hk f1]
      refine ih _ ⟨f1.wl (by simp), fun v hv => ?_⟩
      by_cases e : v = k
      · subst e; rw [me_wl_s]
      · rw [me_wl_n _ _ _ _ e]; exact f2 v (by omega)
  · rintro F s ⟨f1, f2⟩
    exact hx F s f1 f2
theorem ac_map {R : Type} (G : Option R → Prop) (c n N : Nat) (μ0 : me_M) (z : Nat → Nat) (H : Nat → Nat → me_M → Option R) (hN : n < N)
    (hs : ∀ F i μ, i < n → me_fr [] [c] μ0 μ → μ.2 c i = μ0.2 c i → H (F + 1) i μ = H F (i + 1) (me_wl μ c i (lN (z i))))
    (hx : ∀ F μ, me_fr [] [c] μ0 μ → (∀ v, v < n → μ.2 c v = lN (z v)) → G (H (F + 1) n μ)) : G (H N 0 μ0) := by
  refine lp_g G H (fun k s => me_fr [] [c] μ0 s ∧ (∀ v, v < k → s.2 c v = lN (z v)) ∧ ∀ v, k ≤ v → s.2 c v = μ0.2 c v) n ?_ ?_ n N 0 μ0 (by omega) (by omega) ⟨me_fr.rf, fun v hv => by omega, fun _ _ => rfl⟩
  · rintro F k s hk ⟨f1, f2, f3⟩ ih
    rw [hs F k s hk f1 (f3 k (Nat.le_refl _))]
    refine ih _ ⟨f1.wl (by simp), fun v hv => ?_, fun v hv => ?_⟩
    · by_cases e : v = k
      · subst e; rw [me_wl_s]
      · rw [me_wl_n _ _ _ _ e]; exact f2 v (by omega)
    · rw [me_wl_n _ _ _ _ (by omega)]; exact f3 v (by omega)
  · rintro F s ⟨f1, f2, _⟩
    exact hx F s f1 f2
theorem ac_fold {R : Type} (G : Option R → Prop) (n N : Nat) (z : Nat → Nat) (H : Nat → Nat → Int64 → Option R) (hN : n < N)
    (hz : z 0 = 0) (hs : ∀ F i, i < n → H (F + 1) i (lN (z i)) = H F (i + 1) (lN (z (i + 1))))
    (hx : ∀ F, G (H (F + 1) n (lN (z n)))) : G (H N 0 (lN 0)) := by
  refine lp_g G H (fun k s => s = lN (z k)) n ?_ ?_ n N 0 _ (by omega) (by omega) (by rw [hz])
  · rintro F k s hk rfl ih
    rw [hs F k hk]
    exact ih _ rfl
  · rintro F s rfl
    exact hx F
/- links -/
def sp_to (l : Nat → Nat) (n v : Nat) : Nat := rl_sum (fun u => if (l u).testBit v = true then 1 else 0) n
theorem sp_to_le (l : Nat → Nat) (n v : Nat) : sp_to l n v ≤ n := by
  have := su_bd (f := fun u => if (l u).testBit v = true then 1 else 0) (B := 1) (n := n) (fun u _ => by split <;> omega)
  unfold sp_to
  omega
theorem sp_from {N n u x : Nat} {μ : me_M} (h12 : n ≤ 12) (hu : u < n) (hx : x < 4096) (h : μ.1 12 u = nI x) : fO_linksFrom N n μ (nI u) = some (nI (st_cn x 12)) := by
  unfold fO_linksFrom
  rw [ba_gi hu (by omega), nI_clamp (by omega), h, st_bc hx]
  rfl
theorem sp_linksTo {N n v : Nat} {μ : me_M} {l : Nat → Nat} (hN : 4096 ≤ N) (h12 : n ≤ 12) (hv : v < n) (hl : ∀ u, u < n → l u < 4096 ∧ μ.1 12 u = nI (l u)) : fO_linksTo N n μ (nI v) = some (nI (sp_to l n v)) := by
  refine lp_g (fun o => o = some (nI (sp_to l n v))) (fun F k s => fO_linksTo_4 N n μ F (nI v) s (nI k)) (fun k s => s = nI (sp_to l k v)) n ?_ ?_ n N 0 _ (by omega) (by omega) rfl
  · rintro F k s hk rfl ih
    show fO_linksTo_4b N n μ (fO_linksTo_4 N n μ F) (nI v) (nI (sp_to l k v)) (nI k) = _
    have := hl k hk
    unfold fO_linksTo_4b fO_linksTo_32
    rw [if_neg (nI_ge hk (by omega)), ba_gi hk (by omega), nI_clamp (by omega), this.2, ap_holds (by omega) (by omega), ba_b, nI_1]
    cases hb : (l k).testBit v with
    | true =>
      rw [ba_tt, ba_10]
      refine ih _ ?_
      show _ = nI (sp_to l k v + if (l k).testBit v = true then 1 else 0)
      rw [hb, if_pos rfl, nI_1]
    | false =>
      rw [ba_ff, ba_00]
      refine ih _ ?_
      show _ = nI (sp_to l k v + if (l k).testBit v = true then 1 else 0)
      rw [hb, ba_ff, show (0 : Int32) = nI 0 from rfl, nI_add]
  · rintro F s rfl
    show fO_linksTo_4b N n μ (fO_linksTo_4 N n μ F) (nI v) (nI (sp_to l n v)) (nI n) = _
    unfold fO_linksTo_4b fO_linksTo_40
    rw [if_pos (nI_le (Nat.le_refl _) (by omega))]
theorem sp_mlinks {N u v x : Nat} {ν : me_M} (hu : u < 12) (hv : v < 12) (hx : x < 4096) (h : ν.1 6 u = nI x) : fM_links N ν (nI u) (nI v) = some (if x.testBit v = true then 1 else 0) := by
  unfold fM_links fM_links_19
  rw [ba_gi hu (by decide), nI_clamp (by omega), h, ap_bitM (by omega) (by omega)]
  cases x.testBit v with
  | true => rw [ba_tt, if_pos rfl, ba_gz1]
  | false => rw [ba_ff, if_neg (by decide), ba_gz0]
theorem sp_mto {N n v : Nat} {ν : me_M} {l : Nat → Nat} (hN : 4096 ≤ N) (h12 : n ≤ 12) (hn : ν.1 100 0 = nI n) (hv : v < n) (hl : ∀ u, u < n → l u < 4096 ∧ ν.1 6 u = nI (l u)) : fM_into N ν (nI v) = some (nI (sp_to l n v)) := by
  refine lp_g (fun o => o = some (nI (sp_to l n v))) (fun F k s => fM_into_4 N ν F (nI v) s (nI k)) (fun k s => s = nI (sp_to l k v)) n ?_ ?_ n N 0 _ (by omega) (by omega) rfl
  · rintro F k s hk rfl ih
    show fM_into_4b N ν (fM_into_4 N ν F) (nI v) (nI (sp_to l k v)) (nI k) = _
    have := hl k hk
    unfold fM_into_4b fM_into_27
    rw [hn, if_neg (nI_ge hk (by omega)), sp_mlinks (by omega) (by omega) this.1 this.2, ba_b, nI_1]
    cases hb : (l k).testBit v with
    | true =>
      rw [ba_tt, ba_10]
      refine ih _ ?_
      show _ = nI (sp_to l k v + if (l k).testBit v = true then 1 else 0)
      rw [hb, if_pos rfl, nI_1]
    | false =>
      rw [ba_ff, ba_00]
      refine ih _ ?_
      show _ = nI (sp_to l k v + if (l k).testBit v = true then 1 else 0)
      rw [hb, ba_ff, show (0 : Int32) = nI 0 from rfl, nI_add]
  · rintro F s rfl
    show fM_into_4b N ν (fM_into_4 N ν F) (nI v) (nI (sp_to l n v)) (nI n) = _
    unfold fM_into_4b fM_into_35
    rw [hn, if_pos (nI_le (Nat.le_refl _) (by omega))]
