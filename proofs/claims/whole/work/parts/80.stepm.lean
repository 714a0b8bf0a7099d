/- one step, the reference's side -/
theorem sp_cpos {x v : Nat} (hx : x < 4096) (h : x.testBit v = true) : 0 < st_cn x 12 := by
  rcases Nat.eq_zero_or_pos (st_cn x 12) with e | e
  · have := st_zero hx e
    subst this
    simp at h
  · exact e
theorem sp_tpos {l : Nat → Nat} {n u v : Nat} (hu : u < n) (h : (l u).testBit v = true) : 0 < sp_to l n v := by
  have := su_le (f := fun u => if (l u).testBit v = true then 1 else 0) hu
  rw [h, if_pos rfl] at this
  exact this
theorem sp_l0 {b : Nat} (h0 : 0 < b) (hb : b < 2 ^ 63) : lN b ≠ 0 := fun e => by
  have := (pk_lEQ hb (by decide)).mp (e.trans (show (0 : Int64) = lN 0 from rfl))
  omega
theorem sp_rankM {N n a : Nat} {μ : me_M} {l s w : Nat → Nat} (hN : 4096 ≤ N) (h12 : n ≤ 12) (hn : μ.1 100 0 = nI n) (ha : a ≤ 1000) (hA : μ.1 121 0 = nI a) (hl : ∀ u, u < n → l u < 4096 ∧ μ.1 6 u = nI (l u)) (hs : ∀ u, u < n → μ.2 11 u = lN (s u)) (hS : rl_sum s n ≤ 1000000000000) (hw : ∀ u, u < n → w u ≤ 100 ∧ μ.1 10 u = nI (w u)) (hw1 : 1 ≤ rl_sum w n) : ∃ μ', fM_stepRank N μ = some μ' ∧ me_fr [] [13] μ μ' ∧ ∀ v, v < n → μ'.2 13 v = lN (sp_rank l s w a n v) := by
  have hT : rl_sum w n ≤ 1200 := by
    have := su_bd (f := w) (B := 100) (n := n) (fun v hv => (hw v hv).1)
    omega
  have hsu : ∀ u, u < n → s u ≤ 1000000000000 := fun u hu => Nat.le_trans (su_le hu) hS
  unfold fM_stepRank
  rw [su_total hN h12 hn (fun v hv => (hw v hv).2), ba_b, nI_l (by omega)]
  refine ac_fold (fun o => ∃ μ', o = some μ' ∧ me_fr [] [13] μ μ' ∧ ∀ v, v < n → μ'.2 13 v = lN (sp_rank l s w a n v)) n N (sp_lost l s) (fun F k y => fM_stepRank_11 N F (lN (rl_sum w n)) y (nI k) μ) (by omega) rfl ?_ ?_
  · intro F k hk
    show fM_stepRank_11b N (fM_stepRank_11 N F) (lN (rl_sum w n)) (lN (sp_lost l s k)) (nI k) μ = _
    have hlk := hl k hk
    unfold fM_stepRank_11b fM_stepRank_42
    rw [hn, if_neg (nI_ge hk (by omega)), ba_gi (n := 12) (by omega) (by omega), ba_gi (n := 12) (by omega) (by omega), nI_clamp (by omega), hlk.2, hs k hk, nI_1, lN_add, show (0 : Int64) = lN 0 from rfl, lN_add]
    show _ = fM_stepRank_11 N F (lN (rl_sum w n)) (lN (sp_lost l s k + if l k = 0 then s k else 0)) (nI (k + 1)) μ
    by_cases e : l k = 0
    · rw [if_pos ((nI_eq0 (by omega)).mpr e), if_pos e]
    · rw [if_neg (fun z => e ((nI_eq0 (by omega)).mp z)), if_neg e]
  · intro F
    show ∃ μ', fM_stepRank_11b N (fM_stepRank_11 N F) (lN (rl_sum w n)) (lN (sp_lost l s n)) (nI n) μ = some μ' ∧ _
    unfold fM_stepRank_11b fM_stepRank_50
    rw [hn, if_pos (nI_le (Nat.le_refl _) (by omega))]
    refine ac_local (fun o => ∃ μ', o = some μ' ∧ me_fr [] [13] μ μ' ∧ ∀ v, v < n → μ'.2 13 v = lN (sp_rank l s w a n v)) 13 n N μ (sp_rx l s) (sp_rank l s w a n) (fun F k m => fM_stepRank_53 N F (lN (rl_sum w n)) (lN (sp_lost l s n)) (nI k) m) (fun F E i j y m => fM_stepRank_68 N (fM_stepRank_53 N F) E (lN (rl_sum w n)) (lN (sp_lost l s n)) (nI i) y (nI j) m) (by omega) ?_ ?_ ?_ ?_
    · intro F i m hi hf
      have hn' : m.1 100 0 = nI n := by rw [hf.1 100 (by simp)]; exact hn
      show fM_stepRank_53b N (fM_stepRank_53 N F) _ _ (nI i) m = _
      unfold fM_stepRank_53b
      rw [hn', if_neg (nI_ge hi (by omega))]
      rfl
    · intro F E i j y m hi hj hf
      have hn' : m.1 100 0 = nI n := by rw [hf.1 100 (by simp)]; exact hn
      show fM_stepRank_68b N (fM_stepRank_53 N F) (fM_stepRank_68 N (fM_stepRank_53 N F) E) _ _ (nI i) (lN y) (nI j) m = _
      have hlj := hl j hj
      have hlm : m.1 6 j = nI (l j) := by rw [hf.1 6 (by simp)]; exact hlj.2
      have hsm : m.2 11 j = lN (s j) := by rw [hf.2 11 (by decide)]; exact hs j hj
      have hc := st_cn_le (l j) 12
      have := hsu j hj
      unfold fM_stepRank_68b fM_stepRank_113
      rw [hn', if_neg (nI_ge hj (by omega)), sp_mlinks (by omega) (by omega) hlj.1 hlm, ba_b, ba_gi (n := 12) (by omega) (by omega), ba_gi (n := 12) (by omega) (by omega), nI_clamp (by omega), hlm, st_ones hN hlj.1, ba_b, nI_l (by omega), hsm, nI_1]
      unfold sp_rx
      cases hb : (l j).testBit i with
      | true =>
        have hc0 := sp_cpos hlj.1 hb
        rw [ba_tt, ba_10, ba_tt, ba_gd (sp_l0 hc0 (by omega)), pk_lDiv (by omega) hc0 (by omega), lN_add]
      | false => rw [ba_ff, ba_00, ba_ff, show (0 : Int64) = lN 0 from rfl, lN_add]
    · intro F E i m hi hf
      have hn' : m.1 100 0 = nI n := by rw [hf.1 100 (by simp)]; exact hn
      show fM_stepRank_68b N (fM_stepRank_53 N F) (fM_stepRank_68 N (fM_stepRank_53 N F) E) _ _ (nI i) (lN (rl_sum (sp_rx l s i) n)) (nI n) m = _
      have hwi := hw i hi
      have hwm : m.1 10 i = nI (w i) := by rw [hf.1 10 (by simp)]; exact hwi.2
      have ham : m.1 121 0 = nI a := by rw [hf.1 121 (by simp)]; exact hA
      have b1 : rl_sum (sp_rx l s i) n ≤ 1000000000000 := Nat.le_trans (sp_cle s) hS
      have b2 : sp_lost l s n ≤ 1000000000000 := Nat.le_trans (sp_lostle l s n) hS
      have b3 : sp_lost l s n * w i ≤ 1000000000000 * 100 := Nat.mul_le_mul b2 hwi.1
      have b4 : (1000 - a) * 1000000000 * w i ≤ 1000 * 1000000000 * 100 := Nat.mul_le_mul (Nat.mul_le_mul (by omega) (Nat.le_refl _)) hwi.1
      have b5 := Nat.div_le_self (sp_lost l s n * w i) (rl_sum w n)
      have b6 : a * (rl_sum (sp_rx l s i) n + sp_lost l s n * w i / rl_sum w n) ≤ 1000 * (1000000000000 + 1000000000000 * 100) := Nat.mul_le_mul ha (by omega)
      have hg : ∀ {α : Type} {z : Option α}, me_gi (nI i) 12 z = z := ba_gi (by omega) (by omega)
      have hd : ∀ {α : Type} {z : Option α}, me_gd (lN (rl_sum w n)) 0 z = z := ba_gd (sp_l0 hw1 (by omega))
      unfold fM_stepRank_68b fM_stepRank_122
      rw [hn', if_pos (nI_le (Nat.le_refl _) (by omega)), hg, hd, hg, hd, hg, nI_clamp (by omega), hwm, ham, show (1000 : Int32) = nI 1000 from rfl, pk_sub (by omega), nI_l (by omega), nI_l (by omega), nI_l (by omega), sp_k9, lN_mul, lN_mul, lN_mul, pk_lDiv (by omega) hw1 (by omega), pk_lDiv (by omega) hw1 (by omega), lN_add, lN_mul, sp_k3, pk_lDiv (by omega) (by decide) (by decide), lN_add, nI_1]
      rfl
    · intro F m hf hv
      have hn' : m.1 100 0 = nI n := by rw [hf.1 100 (by simp)]; exact hn
      show ∃ μ', fM_stepRank_53b N (fM_stepRank_53 N F) _ _ (nI n) m = some μ' ∧ _
      unfold fM_stepRank_53b fM_stepRank_185
      rw [hn', if_pos (nI_le (Nat.le_refl _) (by omega))]
      exact ⟨m, rfl, hf, hv⟩
theorem sp_cmpN {a b : Nat} (ha : a < 2 ^ 63) (hb : b < 2 ^ 63) : lg_cmp (lN a) (lN b) ≤ 0 ↔ a ≤ b := by
  rw [← Int32.not_lt, tp_cmpP, pk_lLT hb ha]
  omega
theorem sp_mbr0 {N n : Nat} {μ : me_M} {f : Nat → Nat} (hN : 4096 ≤ N) (h12 : n ≤ 12) (hn : μ.1 100 0 = nI n) (hf : ∀ v, v < n → f v ≤ 1000000000000 ∧ μ.2 13 v = lN (f v)) : ∃ μ', fM_bring N (0 : Int32) μ = some μ' ∧ me_fr [] [13] μ μ' ∧ ∀ v, v < n → μ'.2 13 v = lN (sp_br f n v) := by
  have hm : ∀ k, k ≤ n → sp_mx f k ≤ 1000000000000 := fun k hk => sp_mx_le (fun v hv => (hf v (by omega)).1)
  refine ac_fold (fun o => ∃ μ', o = some μ' ∧ me_fr [] [13] μ μ' ∧ ∀ v, v < n → μ'.2 13 v = lN (sp_br f n v)) n N (sp_mx f) (fun F k y => fM_bring_5 N F (0 : Int32) y (nI k) μ) (by omega) rfl ?_ ?_
  · intro F k hk
    show fM_bring_5b N (fM_bring_5 N F) (0 : Int32) (lN (sp_mx f k)) (nI k) μ = _
    have h1 := hf k hk
    have h2 := hm k (by omega)
    unfold fM_bring_5b fM_bring_35 fM_bring_50
    rw [hn, if_neg (nI_ge hk (by omega)), if_pos rfl, ba_gi (n := 12) (by omega) (by omega), nI_clamp (by omega), h1.2, nI_1]
    show _ = fM_bring_5 N F (0 : Int32) (lN (if f k < sp_mx f k then sp_mx f k else f k)) (nI (k + 1)) μ
    by_cases e : f k ≤ sp_mx f k
    · rw [if_pos ((sp_cmpN (by omega) (by omega)).mpr e)]
      by_cases e2 : f k < sp_mx f k
      · rw [if_pos e2]
      · rw [if_neg e2, show f k = sp_mx f k by omega]
    · rw [if_neg (fun z => e ((sp_cmpN (by omega) (by omega)).mp z)), if_neg (show ¬ f k < sp_mx f k by omega)]
  · intro F
    show ∃ μ', fM_bring_5b N (fM_bring_5 N F) (0 : Int32) (lN (sp_mx f n)) (nI n) μ = some μ' ∧ _
    unfold fM_bring_5b fM_bring_57
    rw [hn, if_pos (nI_le (Nat.le_refl _) (by omega))]
    have h2 := hm n (Nat.le_refl _)
    by_cases e0 : sp_mx f n = 0
    · rw [e0]
      obtain ⟨N, rfl⟩ : ∃ k, N = k + 1 := ⟨N - 1, by omega⟩
      show ∃ μ', fM_bring_60b (N + 1) (fM_bring_60 (N + 1) N) (0 : Int32) (lN 0) 0 μ = some μ' ∧ _
      unfold fM_bring_60b fM_bring_128
      rw [if_pos (show lg_cmp (lN 0) 0 ≤ 0 by decide)]
      refine ⟨μ, by split <;> rfl, me_fr.rf, fun v hv => ?_⟩
      have h3 := sp_mx_ge (f := f) hv
      rw [(hf v hv).2]
      unfold sp_br
      rw [e0, Nat.div_zero, show f v = 0 by omega]
    refine ac_map (fun o => ∃ μ', o = some μ' ∧ me_fr [] [13] μ μ' ∧ ∀ v, v < n → μ'.2 13 v = lN (sp_br f n v)) 13 n N μ (sp_br f n) (fun F k m => fM_bring_60 N F (0 : Int32) (lN (sp_mx f n)) (nI k) m) (by omega) ?_ ?_
    · intro F i m hi g1 g2
      have hn' : m.1 100 0 = nI n := by rw [g1.1 100 (by simp)]; exact hn
      show fM_bring_60b N (fM_bring_60 N F) (0 : Int32) (lN (sp_mx f n)) (nI i) m = _
      have h1 := hf i hi
      unfold fM_bring_60b fM_bring_122
      rw [hn', if_neg (nI_ge hi (by omega)), if_neg (show ¬ lg_cmp (lN (sp_mx f n)) 0 ≤ 0 from fun z => by have := (sp_cmpN (b := 0) (by omega) (by omega)).mp z; omega), if_pos rfl, ba_gi (n := 12) (by omega) (by omega), ba_gd (sp_l0 (show 0 < sp_mx f n by omega) (by omega)), ba_gi (n := 12) (by omega) (by omega), nI_clamp (by omega), g2, h1.2, tp_6, lN_mul, pk_lDiv (by omega) (by omega) (by omega), nI_1]
      rfl
    · intro F m g1 g2
      have hn' : m.1 100 0 = nI n := by rw [g1.1 100 (by simp)]; exact hn
      show ∃ μ', fM_bring_60b N (fM_bring_60 N F) (0 : Int32) (lN (sp_mx f n)) (nI n) m = some μ' ∧ _
      unfold fM_bring_60b fM_bring_128
      rw [hn', if_pos (nI_le (Nat.le_refl _) (by omega))]
      exact ⟨m, rfl, g1, g2⟩
theorem sp_mbr1 {N n : Nat} {μ : me_M} {f : Nat → Nat} (hN : 4096 ≤ N) (h12 : n ≤ 12) (hn : μ.1 100 0 = nI n) (hf : ∀ v, v < n → f v ≤ 1000000000000 ∧ μ.2 12 v = lN (f v)) : ∃ μ', fM_bring N (1 : Int32) μ = some μ' ∧ me_fr [] [12] μ μ' ∧ ∀ v, v < n → μ'.2 12 v = lN (sp_br f n v) := by
  have hm : ∀ k, k ≤ n → sp_mx f k ≤ 1000000000000 := fun k hk => sp_mx_le (fun v hv => (hf v (by omega)).1)
  refine ac_fold (fun o => ∃ μ', o = some μ' ∧ me_fr [] [12] μ μ' ∧ ∀ v, v < n → μ'.2 12 v = lN (sp_br f n v)) n N (sp_mx f) (fun F k y => fM_bring_5 N F (1 : Int32) y (nI k) μ) (by omega) rfl ?_ ?_
  · intro F k hk
    show fM_bring_5b N (fM_bring_5 N F) (1 : Int32) (lN (sp_mx f k)) (nI k) μ = _
    have h1 := hf k hk
    have h2 := hm k (by omega)
    unfold fM_bring_5b fM_bring_35 fM_bring_50
    rw [hn, if_neg (nI_ge hk (by omega)), if_neg (show ¬ (1 : Int32) = 0 by decide), ba_gi (n := 12) (by omega) (by omega), nI_clamp (by omega), h1.2, nI_1]
    show _ = fM_bring_5 N F (1 : Int32) (lN (if f k < sp_mx f k then sp_mx f k else f k)) (nI (k + 1)) μ
    by_cases e : f k ≤ sp_mx f k
    · rw [if_pos ((sp_cmpN (by omega) (by omega)).mpr e)]
      by_cases e2 : f k < sp_mx f k
      · rw [if_pos e2]
      · rw [if_neg e2, show f k = sp_mx f k by omega]
    · rw [if_neg (fun z => e ((sp_cmpN (by omega) (by omega)).mp z)), if_neg (show ¬ f k < sp_mx f k by omega)]
  · intro F
    show ∃ μ', fM_bring_5b N (fM_bring_5 N F) (1 : Int32) (lN (sp_mx f n)) (nI n) μ = some μ' ∧ _
    unfold fM_bring_5b fM_bring_57
    rw [hn, if_pos (nI_le (Nat.le_refl _) (by omega))]
    have h2 := hm n (Nat.le_refl _)
    by_cases e0 : sp_mx f n = 0
    · rw [e0]
      obtain ⟨N, rfl⟩ : ∃ k, N = k + 1 := ⟨N - 1, by omega⟩
      show ∃ μ', fM_bring_60b (N + 1) (fM_bring_60 (N + 1) N) (1 : Int32) (lN 0) 0 μ = some μ' ∧ _
      unfold fM_bring_60b fM_bring_128
      rw [if_pos (show lg_cmp (lN 0) 0 ≤ 0 by decide)]
      refine ⟨μ, by split <;> rfl, me_fr.rf, fun v hv => ?_⟩
      have h3 := sp_mx_ge (f := f) hv
      rw [(hf v hv).2]
      unfold sp_br
      rw [e0, Nat.div_zero, show f v = 0 by omega]
    refine ac_map (fun o => ∃ μ', o = some μ' ∧ me_fr [] [12] μ μ' ∧ ∀ v, v < n → μ'.2 12 v = lN (sp_br f n v)) 12 n N μ (sp_br f n) (fun F k m => fM_bring_60 N F (1 : Int32) (lN (sp_mx f n)) (nI k) m) (by omega) ?_ ?_
    · intro F i m hi g1 g2
      have hn' : m.1 100 0 = nI n := by rw [g1.1 100 (by simp)]; exact hn
      show fM_bring_60b N (fM_bring_60 N F) (1 : Int32) (lN (sp_mx f n)) (nI i) m = _
      have h1 := hf i hi
      unfold fM_bring_60b fM_bring_122
      rw [hn', if_neg (nI_ge hi (by omega)), if_neg (show ¬ lg_cmp (lN (sp_mx f n)) 0 ≤ 0 from fun z => by have := (sp_cmpN (b := 0) (by omega) (by omega)).mp z; omega), if_neg (show ¬ (1 : Int32) = 0 by decide), ba_gi (n := 12) (by omega) (by omega), ba_gd (sp_l0 (show 0 < sp_mx f n by omega) (by omega)), ba_gi (n := 12) (by omega) (by omega), nI_clamp (by omega), g2, h1.2, tp_6, lN_mul, pk_lDiv (by omega) (by omega) (by omega), nI_1]
      rfl
    · intro F m g1 g2
      have hn' : m.1 100 0 = nI n := by rw [g1.1 100 (by simp)]; exact hn
      show ∃ μ', fM_bring_60b N (fM_bring_60 N F) (1 : Int32) (lN (sp_mx f n)) (nI n) m = some μ' ∧ _
      unfold fM_bring_60b fM_bring_128
      rw [hn', if_pos (nI_le (Nat.le_refl _) (by omega))]
      exact ⟨m, rfl, g1, g2⟩
theorem sp_greatM {N n : Nat} {μ : me_M} {l h : Nat → Nat} (hN : 4096 ≤ N) (h12 : n ≤ 12) (hn : μ.1 100 0 = nI n) (hl : ∀ u, u < n → l u < 4096 ∧ μ.1 6 u = nI (l u)) (hh : ∀ u, u < n → h u ≤ 1000000 ∧ μ.2 12 u = lN (h u)) : ∃ μ', fM_stepHubs N μ = some μ' ∧ me_fr [] [13, 12] μ μ' ∧ ∀ v, v < n → μ'.2 13 v = lN (sp_s1 l h n v) ∧ μ'.2 12 v = lN (sp_h1 l h n v) := by
  refine ac_nest (fun o => ∃ μ', o = some μ' ∧ me_fr [] [13, 12] μ μ' ∧ ∀ v, v < n → μ'.2 13 v = lN (sp_s1 l h n v) ∧ μ'.2 12 v = lN (sp_h1 l h n v)) 13 n N μ (sp_hx l h) (fun F k m => fM_stepHubs_2 N F (nI k) m) (fun F E i j m => fM_stepHubs_19 N (fM_stepHubs_2 N F) E (nI i) (nI j) m) (by omega) ?_ ?_ ?_ ?_
  · intro F i m hi hf
    have hn' : m.1 100 0 = nI n := by rw [hf.1 100 (by simp)]; exact hn
    show fM_stepHubs_2b N (fM_stepHubs_2 N F) (nI i) m = _
    unfold fM_stepHubs_2b
    rw [hn', if_neg (nI_ge hi (by omega)), ba_gi (n := 12) (i := i) (by omega) (by omega), nI_clamp (by omega)]
    rfl
  · intro F E i j m hi hj hf
    have hn' : m.1 100 0 = nI n := by rw [hf.1 100 (by simp)]; exact hn
    show fM_stepHubs_19b N (fM_stepHubs_2 N F) (fM_stepHubs_19 N (fM_stepHubs_2 N F) E) (nI i) (nI j) m = _
    have hlj := hl j hj
    have hlm : m.1 6 j = nI (l j) := by rw [hf.1 6 (by simp)]; exact hlj.2
    have hsm : m.2 12 j = lN (h j) := by rw [hf.2 12 (by decide)]; exact (hh j hj).2
    have hgi : ∀ {α : Type} {z : Option α}, me_gi (nI i) 12 z = z := ba_gi (by omega) (by omega)
    have hgj : ∀ {α : Type} {z : Option α}, me_gi (nI j) 12 z = z := ba_gi (by omega) (by omega)
    unfold fM_stepHubs_19b fM_stepHubs_53
    rw [hn', if_neg (nI_ge hj (by omega)), ba_gi (n := 12) (i := i) (by omega) (by omega), sp_mlinks (by omega) (by omega) hlj.1 hlm, ba_b, hgi, hgj, hgi, nI_clamp (by omega), nI_clamp (by omega), hsm, nI_1]
    unfold sp_hx
    cases hb : (l j).testBit i with
    | true => rw [ba_tt, ba_10, ba_tt]
    | false => rw [ba_ff, ba_00, ba_ff]; rfl
  · intro F E i m hi hf
    have hn' : m.1 100 0 = nI n := by rw [hf.1 100 (by simp)]; exact hn
    show fM_stepHubs_19b N (fM_stepHubs_2 N F) (fM_stepHubs_19 N (fM_stepHubs_2 N F) E) (nI i) (nI n) m = _
    unfold fM_stepHubs_19b fM_stepHubs_61
    rw [hn', if_pos (nI_le (Nat.le_refl _) (by omega)), nI_1]
  · intro F m hf hv
    have hn' : m.1 100 0 = nI n := by rw [hf.1 100 (by simp)]; exact hn
    show ∃ μ', fM_stepHubs_2b N (fM_stepHubs_2 N F) (nI n) m = some μ' ∧ _
    unfold fM_stepHubs_2b fM_stepHubs_67
    rw [hn', if_pos (nI_le (Nat.le_refl _) (by omega))]
    obtain ⟨m1, e1, f1, g1⟩ := sp_mbr0 (N := N) (n := n) (μ := m) (f := fun v => rl_sum (sp_hx l h v) n) hN h12 hn' (fun v hv2 => ⟨by
      have := sp_sumle (x := sp_hx l h v) (f := h) (p := fun u => (l u).testBit v) (fun v hv => (hh v hv).1) (fun _ => rfl)
      omega, hv v hv2⟩)
    rw [e1, ba_b]
    have hnx : m1.1 100 0 = nI n := by rw [f1.1 100 (by simp)]; exact hn'
    refine ac_nest (fun o => ∃ μ', o = some μ' ∧ me_fr [] [13, 12] μ μ' ∧ ∀ v, v < n → μ'.2 13 v = lN (sp_s1 l h n v) ∧ μ'.2 12 v = lN (sp_h1 l h n v)) 12 n N m1 (sp_ax l (sp_s1 l h n)) (fun F k m => fM_stepHubs_74 N F (nI k) m) (fun F E i j m => fM_stepHubs_91 N (fM_stepHubs_74 N F) E (nI i) (nI j) m) (by omega) ?_ ?_ ?_ ?_
    · intro F i m hi hf
      have hn' : m.1 100 0 = nI n := by rw [hf.1 100 (by simp)]; exact hnx
      show fM_stepHubs_74b N (fM_stepHubs_74 N F) (nI i) m = _
      unfold fM_stepHubs_74b
      rw [hn', if_neg (nI_ge hi (by omega)), ba_gi (n := 12) (i := i) (by omega) (by omega), nI_clamp (by omega)]
      rfl
    · intro F E i j m' hi hj hf'
      have hn' : m'.1 100 0 = nI n := by rw [hf'.1 100 (by simp)]; exact hnx
      show fM_stepHubs_91b N (fM_stepHubs_74 N F) (fM_stepHubs_91 N (fM_stepHubs_74 N F) E) (nI i) (nI j) m' = _
      have hli := hl i hi
      have hlm : m'.1 6 i = nI (l i) := by rw [hf'.1 6 (by simp), f1.1 6 (by simp), hf.1 6 (by simp)]; exact hli.2
      have hsm : m'.2 13 j = lN (sp_s1 l h n j) := by rw [hf'.2 13 (by decide)]; exact g1 j hj
      have hgi : ∀ {α : Type} {z : Option α}, me_gi (nI i) 12 z = z := ba_gi (by omega) (by omega)
      have hgj : ∀ {α : Type} {z : Option α}, me_gi (nI j) 12 z = z := ba_gi (by omega) (by omega)
      unfold fM_stepHubs_91b fM_stepHubs_125
      rw [hn', if_neg (nI_ge hj (by omega)), ba_gi (n := 12) (i := i) (by omega) (by omega), sp_mlinks (by omega) (by omega) hli.1 hlm, ba_b, hgi, hgj, hgi, nI_clamp (by omega), nI_clamp (by omega), hsm, nI_1]
      unfold sp_ax
      cases hb : (l i).testBit j with
      | true => rw [ba_tt, ba_10, ba_tt]
      | false => rw [ba_ff, ba_00, ba_ff]; rfl
    · intro F E i m hi hf
      have hn' : m.1 100 0 = nI n := by rw [hf.1 100 (by simp)]; exact hnx
      show fM_stepHubs_91b N (fM_stepHubs_74 N F) (fM_stepHubs_91 N (fM_stepHubs_74 N F) E) (nI i) (nI n) m = _
      unfold fM_stepHubs_91b fM_stepHubs_133
      rw [hn', if_pos (nI_le (Nat.le_refl _) (by omega)), nI_1]
    · intro F m2 hf2 hv2
      have hn' : m2.1 100 0 = nI n := by rw [hf2.1 100 (by simp)]; exact hnx
      show ∃ μ', fM_stepHubs_74b N (fM_stepHubs_74 N F) (nI n) m2 = some μ' ∧ _
      unfold fM_stepHubs_74b fM_stepHubs_139
      rw [hn', if_pos (nI_le (Nat.le_refl _) (by omega))]
      obtain ⟨m3, e3, f3, g3⟩ := sp_mbr1 (N := N) (n := n) (μ := m2) (f := fun v => rl_sum (sp_ax l (sp_s1 l h n) v) n) hN h12 hn' (fun v hv3 => ⟨by
        have := sp_sumle (x := sp_ax l (sp_s1 l h n) v) (f := sp_s1 l h n) (p := fun u => (l v).testBit u) (fun v hv => sp_br_le hv) (fun _ => rfl)
        omega, hv2 v hv3⟩)
      rw [e3, ba_b]
      refine ⟨m3, rfl, (hf.mono (by simp) (by simp)).tr ((f1.mono (by simp) (by simp)).tr ((hf2.mono (by simp) (by simp)).tr (f3.mono (by simp) (by simp)))), fun v hv => ⟨?_, g3 v hv⟩⟩
      rw [f3.2 13 (by decide), hf2.2 13 (by decide)]
      exact g1 v hv
theorem sp_sharesM {N n : Nat} {μ : me_M} {l s : Nat → Nat} (hN : 4096 ≤ N) (h12 : n ≤ 12) (hn : μ.1 100 0 = nI n) (hl : ∀ u, u < n → l u < 4096 ∧ μ.1 6 u = nI (l u)) (hs : ∀ u, u < n → μ.2 11 u = lN (s u)) (hS : rl_sum s n ≤ 1000000000000) : ∃ μ', fM_stepShares N μ = some μ' ∧ me_fr [] [13, 12] μ μ' ∧ ∀ v, v < n → μ'.2 13 v = lN (sp_s2 l s n v) ∧ μ'.2 12 v = lN (sp_h2 l s n v) := by
  have hsu : ∀ u, u < n → s u ≤ 1000000000000 := fun u hu => Nat.le_trans (su_le hu) hS
  have hhu : ∀ u, sp_h2 l s n u ≤ 1000000000000 := fun u => Nat.le_trans (sp_cle s) hS
  refine ac_nest (fun o => ∃ μ', o = some μ' ∧ me_fr [] [13, 12] μ μ' ∧ ∀ v, v < n → μ'.2 13 v = lN (sp_s2 l s n v) ∧ μ'.2 12 v = lN (sp_h2 l s n v)) 12 n N μ (sp_qx l s n) (fun F k m => fM_stepShares_2 N F (nI k) m) (fun F E i j m => fM_stepShares_19 N (fM_stepShares_2 N F) E (nI i) (nI j) m) (by omega) ?_ ?_ ?_ ?_
  · intro F i m hi hf
    have hn' : m.1 100 0 = nI n := by rw [hf.1 100 (by simp)]; exact hn
    show fM_stepShares_2b N (fM_stepShares_2 N F) (nI i) m = _
    unfold fM_stepShares_2b
    rw [hn', if_neg (nI_ge hi (by omega)), ba_gi (n := 12) (by omega) (by omega), nI_clamp (by omega)]
    rfl
  · intro F E i j m hi hj hf
    have hn' : m.1 100 0 = nI n := by rw [hf.1 100 (by simp)]; exact hn
    show fM_stepShares_19b N (fM_stepShares_2 N F) (fM_stepShares_19 N (fM_stepShares_2 N F) E) (nI i) (nI j) m = _
    have hli := hl i hi
    have hlm : m.1 6 i = nI (l i) := by rw [hf.1 6 (by simp)]; exact hli.2
    have hsm : m.2 11 j = lN (s j) := by rw [hf.2 11 (by decide)]; exact hs j hj
    have := hsu j hj
    have := sp_to_le l n j
    have hgi : ∀ {α : Type} {z : Option α}, me_gi (nI i) 12 z = z := ba_gi (by omega) (by omega)
    have hgj : ∀ {α : Type} {z : Option α}, me_gi (nI j) 12 z = z := ba_gi (by omega) (by omega)
    unfold fM_stepShares_19b fM_stepShares_60
    rw [hn', if_neg (nI_ge hj (by omega)), hgi, sp_mlinks (by omega) (by omega) hli.1 hlm, ba_b, hgi, hgj, sp_mto hN h12 hn' hj (fun u hu => ⟨(hl u hu).1, by rw [hf.1 6 (by simp)]; exact (hl u hu).2⟩), ba_b, hgi, nI_clamp (by omega), nI_clamp (by omega), nI_l (by omega), hsm, nI_1]
    unfold sp_qx
    cases hb : (l i).testBit j with
    | true =>
      have hc0 := sp_tpos hi hb
      rw [ba_tt, ba_10, ba_tt, ba_gd (sp_l0 hc0 (by omega)), pk_lDiv (by omega) hc0 (by omega)]
    | false => rw [ba_ff, ba_00, ba_ff]; rfl
  · intro F E i m hi hf
    have hn' : m.1 100 0 = nI n := by rw [hf.1 100 (by simp)]; exact hn
    show fM_stepShares_19b N (fM_stepShares_2 N F) (fM_stepShares_19 N (fM_stepShares_2 N F) E) (nI i) (nI n) m = _
    unfold fM_stepShares_19b fM_stepShares_68
    rw [hn', if_pos (nI_le (Nat.le_refl _) (by omega)), nI_1]
  · intro F m hf hv
    have hn' : m.1 100 0 = nI n := by rw [hf.1 100 (by simp)]; exact hn
    show ∃ μ', fM_stepShares_2b N (fM_stepShares_2 N F) (nI n) m = some μ' ∧ _
    unfold fM_stepShares_2b fM_stepShares_74
    rw [hn', if_pos (nI_le (Nat.le_refl _) (by omega))]
    refine ac_nest (fun o => ∃ μ', o = some μ' ∧ me_fr [] [13, 12] μ μ' ∧ ∀ v, v < n → μ'.2 13 v = lN (sp_s2 l s n v) ∧ μ'.2 12 v = lN (sp_h2 l s n v)) 13 n N m (sp_rx l (sp_h2 l s n)) (fun F k m => fM_stepShares_76 N F (nI k) m) (fun F E i j m => fM_stepShares_93 N (fM_stepShares_76 N F) E (nI i) (nI j) m) (by omega) ?_ ?_ ?_ ?_
    · intro F i m2 hi hf2
      have hn2 : m2.1 100 0 = nI n := by rw [hf2.1 100 (by simp)]; exact hn'
      show fM_stepShares_76b N (fM_stepShares_76 N F) (nI i) m2 = _
      unfold fM_stepShares_76b
      rw [hn2, if_neg (nI_ge hi (by omega)), ba_gi (n := 12) (by omega) (by omega), nI_clamp (by omega)]
      rfl
    · intro F E i j m' hi hj hf'
      have hn2 : m'.1 100 0 = nI n := by rw [hf'.1 100 (by simp)]; exact hn'
      show fM_stepShares_93b N (fM_stepShares_76 N F) (fM_stepShares_93 N (fM_stepShares_76 N F) E) (nI i) (nI j) m' = _
      have hlj := hl j hj
      have hlm : m'.1 6 j = nI (l j) := by rw [hf'.1 6 (by simp), hf.1 6 (by simp)]; exact hlj.2
      have hsm : m'.2 12 j = lN (sp_h2 l s n j) := by rw [hf'.2 12 (by decide)]; exact hv j hj
      have hc := st_cn_le (l j) 12
      have := hhu j
      have hgi : ∀ {α : Type} {z : Option α}, me_gi (nI i) 12 z = z := ba_gi (by omega) (by omega)
      have hgj : ∀ {α : Type} {z : Option α}, me_gi (nI j) 12 z = z := ba_gi (by omega) (by omega)
      unfold fM_stepShares_93b fM_stepShares_138
      rw [hn2, if_neg (nI_ge hj (by omega)), hgi, sp_mlinks (by omega) (by omega) hlj.1 hlm, ba_b, hgi, hgj, hgj, nI_clamp (by omega), nI_clamp (by omega), hlm, st_ones hN hlj.1, ba_b, hgi, nI_l (by omega), hsm, nI_1]
      unfold sp_rx
      cases hb : (l j).testBit i with
      | true =>
        have hc0 := sp_cpos hlj.1 hb
        rw [ba_tt, ba_10, ba_tt, ba_gd (sp_l0 hc0 (by omega)), pk_lDiv (by omega) hc0 (by omega)]
      | false => rw [ba_ff, ba_00, ba_ff]; rfl
    · intro F E i m2 hi hf2
      have hn2 : m2.1 100 0 = nI n := by rw [hf2.1 100 (by simp)]; exact hn'
      show fM_stepShares_93b N (fM_stepShares_76 N F) (fM_stepShares_93 N (fM_stepShares_76 N F) E) (nI i) (nI n) m2 = _
      unfold fM_stepShares_93b fM_stepShares_146
      rw [hn2, if_pos (nI_le (Nat.le_refl _) (by omega)), nI_1]
    · intro F m2 hf2 hv2
      have hn2 : m2.1 100 0 = nI n := by rw [hf2.1 100 (by simp)]; exact hn'
      show ∃ μ', fM_stepShares_76b N (fM_stepShares_76 N F) (nI n) m2 = some μ' ∧ _
      unfold fM_stepShares_76b fM_stepShares_152
      rw [hn2, if_pos (nI_le (Nat.le_refl _) (by omega))]
      refine ⟨m2, rfl, (hf.mono (by simp) (by simp)).tr (hf2.mono (by simp) (by simp)), fun v hv' => ⟨hv2 v hv', ?_⟩⟩
      rw [hf2.2 12 (by decide)]
      exact hv v hv'
