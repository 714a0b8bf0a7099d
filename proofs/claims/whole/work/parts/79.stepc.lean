/- one step, by sums -/
def sp_rx (l s : Nat → Nat) (v u : Nat) : Nat := if (l u).testBit v = true then s u / st_cn (l u) 12 else 0
def sp_hx (l h : Nat → Nat) (v u : Nat) : Nat := if (l u).testBit v = true then h u else 0
def sp_ax (l s : Nat → Nat) (u v : Nat) : Nat := if (l u).testBit v = true then s v else 0
def sp_qx (l s : Nat → Nat) (n u v : Nat) : Nat := if (l u).testBit v = true then s v / sp_to l n v else 0
def sp_lost (l s : Nat → Nat) (n : Nat) : Nat := rl_sum (fun u => if l u = 0 then s u else 0) n
def sp_rank (l s w : Nat → Nat) (a n v : Nat) : Nat := (1000 - a) * 1000000000 * w v / rl_sum w n + a * (rl_sum (sp_rx l s v) n + sp_lost l s n * w v / rl_sum w n) / 1000
def sp_mx (f : Nat → Nat) : Nat → Nat
  | 0 => 0
  | n + 1 => if f n < sp_mx f n then sp_mx f n else f n
def sp_br (f : Nat → Nat) (n v : Nat) : Nat := f v * 1000000 / sp_mx f n
theorem sp_mx_le {f : Nat → Nat} {B : Nat} : ∀ {n : Nat}, (∀ v, v < n → f v ≤ B) → sp_mx f n ≤ B := by
  intro n
  induction n with
  | zero => intro _; exact Nat.zero_le _
  | succ n ih =>
    intro h
    have := ih (fun v hv => h v (by omega))
    have := h n (by omega)
    unfold sp_mx
    split <;> omega
theorem sp_mx_ge {f : Nat → Nat} {v : Nat} : ∀ {n : Nat}, v < n → f v ≤ sp_mx f n := by
  intro n
  induction n with
  | zero => intro h; omega
  | succ n ih =>
    intro h
    unfold sp_mx
    by_cases e : v = n
    · subst e; split <;> omega
    · have := ih (by omega)
      split <;> omega
theorem sp_cle (s : Nat → Nat) {n : Nat} {p : Nat → Bool} {q : Nat → Nat} : rl_sum (fun u => if p u = true then s u / q u else 0) n ≤ rl_sum s n := by
  induction n with
  | zero => exact Nat.le_refl _
  | succ n ih =>
    show _ + (if p n = true then s n / q n else 0) ≤ rl_sum s n + s n
    have := Nat.div_le_self (s n) (q n)
    split <;> omega
theorem sp_lostle (l s : Nat → Nat) (n : Nat) : sp_lost l s n ≤ rl_sum s n := by
  unfold sp_lost
  induction n with
  | zero => exact Nat.le_refl _
  | succ n ih =>
    show _ + (if l n = 0 then s n else 0) ≤ rl_sum s n + s n
    split <;> omega
theorem sp_wall {w : Nat → Nat} {n : Nat} (h12 : n ≤ 12) : rl_sum (fun k => if nI k = (-1 : Int32) then 0 else w k) n = rl_sum w n := su_eq fun v hv => if_neg fun e => by
  have := congrArg Int32.toInt e
  rw [nI_toInt (by omega)] at this
  have h2 : ((-1 : Int32)).toInt = -1 := rfl
  omega
theorem sp_k9 : (1000000000 : Int64) = lN 1000000000 := by decide
theorem sp_k3 : (1000 : Int64) = lN 1000 := by decide
theorem sp_rankC {N n a : Nat} {μ : me_M} {l s w : Nat → Nat} (hN : 4096 ≤ N) (h12 : n ≤ 12) (ha : a ≤ 1000) (hA : μ.1 2007 0 = nI a) (hl : ∀ u, u < n → l u < 4096 ∧ μ.1 12 u = nI (l u)) (hs : ∀ u, u < n → μ.2 22 u = lN (s u)) (hS : rl_sum s n ≤ 1000000000000) (hw : ∀ u, u < n → w u ≤ 100 ∧ μ.1 23 u = nI (w u)) : ∃ μ', fO_stepByRank N n μ = some μ' ∧ me_fr [] [20] μ μ' ∧ ∀ v, v < n → μ'.2 20 v = lN (sp_rank l s w a n v) := by
  have hT : rl_sum w n ≤ 1200 := by
    have := su_bd (f := w) (B := 100) (n := n) (fun v hv => (hw v hv).1)
    omega
  have hsu : ∀ u, u < n → s u ≤ 1000000000000 := fun u hu => Nat.le_trans (su_le hu) hS
  unfold fO_stepByRank
  rw [su_others _ hN h12 (fun v hv => (hw v hv).2), ba_b, sp_wall h12, nI_l (by omega)]
  refine ac_fold (fun o => ∃ μ', o = some μ' ∧ me_fr [] [20] μ μ' ∧ ∀ v, v < n → μ'.2 20 v = lN (sp_rank l s w a n v)) n N (sp_lost l s) (fun F k y => fO_stepByRank_12 N n F (lN (rl_sum w n)) y (nI k) μ) (by omega) rfl ?_ ?_
  · intro F k hk
    show fO_stepByRank_12b N n (fO_stepByRank_12 N n F) (lN (rl_sum w n)) (lN (sp_lost l s k)) (nI k) μ = _
    have hlk := hl k hk
    unfold fO_stepByRank_12b fO_stepByRank_44
    rw [if_neg (nI_ge hk (by omega)), ba_gi hk (by omega), ba_gi hk (by omega), nI_clamp (by omega), hlk.2, hs k hk, nI_1, lN_add, show (0 : Int64) = lN 0 from rfl, lN_add]
    show _ = fO_stepByRank_12 N n F (lN (rl_sum w n)) (lN (sp_lost l s k + if l k = 0 then s k else 0)) (nI (k + 1)) μ
    by_cases e : l k = 0
    · rw [if_pos ((nI_eq0 (by omega)).mpr e), if_pos e]
    · rw [if_neg (fun z => e ((nI_eq0 (by omega)).mp z)), if_neg e]
  · intro F
    show ∃ μ', fO_stepByRank_12b N n (fO_stepByRank_12 N n F) (lN (rl_sum w n)) (lN (sp_lost l s n)) (nI n) μ = some μ' ∧ _
    unfold fO_stepByRank_12b fO_stepByRank_52
    rw [if_pos (nI_le (Nat.le_refl _) (by omega))]
    refine ac_local (fun o => ∃ μ', o = some μ' ∧ me_fr [] [20] μ μ' ∧ ∀ v, v < n → μ'.2 20 v = lN (sp_rank l s w a n v)) 20 n N μ (sp_rx l s) (sp_rank l s w a n) (fun F k m => fO_stepByRank_55 N n F (lN (rl_sum w n)) (lN (sp_lost l s n)) (nI k) m) (fun F E i j y m => fO_stepByRank_71 N n (fO_stepByRank_55 N n F) E (lN (rl_sum w n)) (lN (sp_lost l s n)) (nI i) y (nI j) m) (by omega) ?_ ?_ ?_ ?_
    · intro F i m hi hf
      show fO_stepByRank_55b N n (fO_stepByRank_55 N n F) _ _ (nI i) m = _
      unfold fO_stepByRank_55b
      rw [if_neg (nI_ge hi (by omega))]
      rfl
    · intro F E i j y m hi hj hf
      show fO_stepByRank_71b N n (fO_stepByRank_55 N n F) (fO_stepByRank_71 N n (fO_stepByRank_55 N n F) E) _ _ (nI i) (lN y) (nI j) m = _
      have hlj := hl j hj
      have hlm : m.1 12 j = nI (l j) := by rw [hf.1 12 (by simp)]; exact hlj.2
      have hsm : m.2 22 j = lN (s j) := by rw [hf.2 22 (by decide)]; exact hs j hj
      have hc := st_cn_le (l j) 12
      have := hsu j hj
      unfold fO_stepByRank_71b fO_stepByRank_119
      rw [if_neg (nI_ge hj (by omega)), ba_gi hj (by omega), ba_gi hj (by omega), nI_clamp (by omega), hlm, ap_holds (by omega) (by omega), ba_b, sp_from h12 hj hlj.1 hlm, ba_b, nI_l (by omega), hsm, tp_quo (by omega) (by omega), ba_b, nI_1, lN_add, show (0 : Int64) = lN 0 from rfl, lN_add]
      unfold sp_rx
      cases hb : (l j).testBit i with
      | true => rw [ba_tt, ba_10, ba_tt]
      | false => rw [ba_ff, ba_00, ba_ff]
    · intro F E i m hi hf
      show fO_stepByRank_71b N n (fO_stepByRank_55 N n F) (fO_stepByRank_71 N n (fO_stepByRank_55 N n F) E) _ _ (nI i) (lN (rl_sum (sp_rx l s i) n)) (nI n) m = _
      have hwi := hw i hi
      have hwm : m.1 23 i = nI (w i) := by rw [hf.1 23 (by simp)]; exact hwi.2
      have ham : m.1 2007 0 = nI a := by rw [hf.1 2007 (by simp)]; exact hA
      have b1 : rl_sum (sp_rx l s i) n ≤ 1000000000000 := Nat.le_trans (sp_cle s) hS
      have b2 : sp_lost l s n ≤ 1000000000000 := Nat.le_trans (sp_lostle l s n) hS
      have b3 : sp_lost l s n * w i ≤ 1000000000000 * 100 := Nat.mul_le_mul b2 hwi.1
      have b4 : (1000 - a) * 1000000000 * w i ≤ 1000 * 1000000000 * 100 := Nat.mul_le_mul (Nat.mul_le_mul (by omega) (Nat.le_refl _)) hwi.1
      have b5 := Nat.div_le_self (sp_lost l s n * w i) (rl_sum w n)
      have b6 : a * (rl_sum (sp_rx l s i) n + sp_lost l s n * w i / rl_sum w n) ≤ 1000 * (1000000000000 + 1000000000000 * 100) := Nat.mul_le_mul ha (by omega)
      unfold fO_stepByRank_71b fO_stepByRank_128
      rw [if_pos (nI_le (Nat.le_refl _) (by omega)), ba_gi hi (by omega), nI_clamp (by omega), hwm, ham, show (1000 : Int32) = nI 1000 from rfl, pk_sub (by omega), nI_l (by omega), nI_l (by omega), nI_l (by omega), sp_k9, lN_mul, lN_mul, lN_mul, tp_quo (by omega) (by omega), ba_b, ba_gi hi (by omega), tp_quo (by omega) (by omega), ba_b, ba_gi hi (by omega), lN_add, lN_mul, sp_k3, pk_lDiv (by omega) (by decide) (by decide), lN_add, nI_1]
      rfl
    · intro F m hf hv
      show ∃ μ', fO_stepByRank_55b N n (fO_stepByRank_55 N n F) _ _ (nI n) m = some μ' ∧ _
      unfold fO_stepByRank_55b fO_stepByRank_199
      rw [if_pos (nI_le (Nat.le_refl _) (by omega))]
      exact ⟨m, rfl, hf, hv⟩
theorem sp_br20 {N n : Nat} {μ : me_M} {f : Nat → Nat} (hN : 4096 ≤ N) (h12 : n ≤ 12) (hf : ∀ v, v < n → f v ≤ 1000000000000 ∧ μ.2 20 v = lN (f v)) : ∃ μ', fO_bringToGreatest_20 N n μ = some μ' ∧ me_fr [] [20] μ μ' ∧ ∀ v, v < n → μ'.2 20 v = lN (sp_br f n v) := by
  have hm : ∀ k, k ≤ n → sp_mx f k ≤ 1000000000000 := fun k hk => sp_mx_le (fun v hv => (hf v (by omega)).1)
  refine ac_fold (fun o => ∃ μ', o = some μ' ∧ me_fr [] [20] μ μ' ∧ ∀ v, v < n → μ'.2 20 v = lN (sp_br f n v)) n N (sp_mx f) (fun F k y => fO_bringToGreatest_20_4 N n F y (nI k) μ) (by omega) rfl ?_ ?_
  · intro F k hk
    show fO_bringToGreatest_20_4b N n (fO_bringToGreatest_20_4 N n F) (lN (sp_mx f k)) (nI k) μ = _
    have h1 := hf k hk
    have h2 := hm k (by omega)
    unfold fO_bringToGreatest_20_4b
    rw [if_neg (nI_ge hk (by omega)), ba_gi hk (by omega), nI_clamp (by omega), h1.2, nI_1]
    show _ = fO_bringToGreatest_20_4 N n F (lN (if f k < sp_mx f k then sp_mx f k else f k)) (nI (k + 1)) μ
    by_cases e : f k < sp_mx f k
    · rw [if_pos ((pk_lLT (by omega) (by omega)).mpr e), if_pos e]
    · rw [if_neg (fun z => e ((pk_lLT (by omega) (by omega)).mp z)), if_neg e]
  · intro F
    show ∃ μ', fO_bringToGreatest_20_4b N n (fO_bringToGreatest_20_4 N n F) (lN (sp_mx f n)) (nI n) μ = some μ' ∧ _
    unfold fO_bringToGreatest_20_4b fO_bringToGreatest_20_24
    rw [if_pos (nI_le (Nat.le_refl _) (by omega))]
    refine ac_map (fun o => ∃ μ', o = some μ' ∧ me_fr [] [20] μ μ' ∧ ∀ v, v < n → μ'.2 20 v = lN (sp_br f n v)) 20 n N μ (sp_br f n) (fun F k m => fO_bringToGreatest_20_26 N n F (lN (sp_mx f n)) (nI k) m) (by omega) ?_ ?_
    · intro F i m hi g1 g2
      show fO_bringToGreatest_20_26b N n (fO_bringToGreatest_20_26 N n F) (lN (sp_mx f n)) (nI i) m = _
      have h1 := hf i hi
      have h2 := hm n (Nat.le_refl _)
      unfold fO_bringToGreatest_20_26b
      rw [if_neg (nI_ge hi (by omega)), ba_gi hi (by omega), nI_clamp (by omega), g2, h1.2, tp_6, lN_mul, tp_quo (by omega) (by omega), ba_b, ba_gi hi (by omega), nI_1]
      rfl
    · intro F m g1 g2
      show ∃ μ', fO_bringToGreatest_20_26b N n (fO_bringToGreatest_20_26 N n F) (lN (sp_mx f n)) (nI n) m = some μ' ∧ _
      unfold fO_bringToGreatest_20_26b fO_bringToGreatest_20_52
      rw [if_pos (nI_le (Nat.le_refl _) (by omega))]
      exact ⟨m, rfl, g1, g2⟩
theorem sp_br21 {N n : Nat} {μ : me_M} {f : Nat → Nat} (hN : 4096 ≤ N) (h12 : n ≤ 12) (hf : ∀ v, v < n → f v ≤ 1000000000000 ∧ μ.2 21 v = lN (f v)) : ∃ μ', fO_bringToGreatest_21 N n μ = some μ' ∧ me_fr [] [21] μ μ' ∧ ∀ v, v < n → μ'.2 21 v = lN (sp_br f n v) := by
  have hm : ∀ k, k ≤ n → sp_mx f k ≤ 1000000000000 := fun k hk => sp_mx_le (fun v hv => (hf v (by omega)).1)
  refine ac_fold (fun o => ∃ μ', o = some μ' ∧ me_fr [] [21] μ μ' ∧ ∀ v, v < n → μ'.2 21 v = lN (sp_br f n v)) n N (sp_mx f) (fun F k y => fO_bringToGreatest_21_4 N n F y (nI k) μ) (by omega) rfl ?_ ?_
  · intro F k hk
    show fO_bringToGreatest_21_4b N n (fO_bringToGreatest_21_4 N n F) (lN (sp_mx f k)) (nI k) μ = _
    have h1 := hf k hk
    have h2 := hm k (by omega)
    unfold fO_bringToGreatest_21_4b
    rw [if_neg (nI_ge hk (by omega)), ba_gi hk (by omega), nI_clamp (by omega), h1.2, nI_1]
    show _ = fO_bringToGreatest_21_4 N n F (lN (if f k < sp_mx f k then sp_mx f k else f k)) (nI (k + 1)) μ
    by_cases e : f k < sp_mx f k
    · rw [if_pos ((pk_lLT (by omega) (by omega)).mpr e), if_pos e]
    · rw [if_neg (fun z => e ((pk_lLT (by omega) (by omega)).mp z)), if_neg e]
  · intro F
    show ∃ μ', fO_bringToGreatest_21_4b N n (fO_bringToGreatest_21_4 N n F) (lN (sp_mx f n)) (nI n) μ = some μ' ∧ _
    unfold fO_bringToGreatest_21_4b fO_bringToGreatest_21_24
    rw [if_pos (nI_le (Nat.le_refl _) (by omega))]
    refine ac_map (fun o => ∃ μ', o = some μ' ∧ me_fr [] [21] μ μ' ∧ ∀ v, v < n → μ'.2 21 v = lN (sp_br f n v)) 21 n N μ (sp_br f n) (fun F k m => fO_bringToGreatest_21_26 N n F (lN (sp_mx f n)) (nI k) m) (by omega) ?_ ?_
    · intro F i m hi g1 g2
      show fO_bringToGreatest_21_26b N n (fO_bringToGreatest_21_26 N n F) (lN (sp_mx f n)) (nI i) m = _
      have h1 := hf i hi
      have h2 := hm n (Nat.le_refl _)
      unfold fO_bringToGreatest_21_26b
      rw [if_neg (nI_ge hi (by omega)), ba_gi hi (by omega), nI_clamp (by omega), g2, h1.2, tp_6, lN_mul, tp_quo (by omega) (by omega), ba_b, ba_gi hi (by omega), nI_1]
      rfl
    · intro F m g1 g2
      show ∃ μ', fO_bringToGreatest_21_26b N n (fO_bringToGreatest_21_26 N n F) (lN (sp_mx f n)) (nI n) m = some μ' ∧ _
      unfold fO_bringToGreatest_21_26b fO_bringToGreatest_21_52
      rw [if_pos (nI_le (Nat.le_refl _) (by omega))]
      exact ⟨m, rfl, g1, g2⟩
theorem sp_sumle {x f : Nat → Nat} {p : Nat → Bool} {B n : Nat} (h : ∀ v, v < n → f v ≤ B) (hx : ∀ v, x v = if p v = true then f v else 0) : rl_sum x n ≤ n * B := su_bd fun v hv => by
  rw [hx v]
  have := h v hv
  split <;> omega
def sp_s1 (l h : Nat → Nat) (n : Nat) : Nat → Nat := sp_br (fun v => rl_sum (sp_hx l h v) n) n
def sp_h1 (l h : Nat → Nat) (n : Nat) : Nat → Nat := sp_br (fun u => rl_sum (sp_ax l (sp_s1 l h n) u) n) n
theorem sp_br_le {f : Nat → Nat} {n v : Nat} (hv : v < n) : sp_br f n v ≤ 1000000 := by
  have h := sp_mx_ge (f := f) hv
  unfold sp_br
  by_cases e : sp_mx f n = 0
  · rw [e, Nat.div_zero]; omega
  · exact Nat.div_le_of_le_mul (Nat.mul_le_mul_right _ h)
theorem sp_greatC {N n : Nat} {μ : me_M} {l h : Nat → Nat} (hN : 4096 ≤ N) (h12 : n ≤ 12) (hl : ∀ u, u < n → l u < 4096 ∧ μ.1 12 u = nI (l u)) (hh : ∀ u, u < n → h u ≤ 1000000 ∧ μ.2 21 u = lN (h u)) : ∃ μ', fO_stepByGreatest N n μ = some μ' ∧ me_fr [] [20, 21] μ μ' ∧ ∀ v, v < n → μ'.2 20 v = lN (sp_s1 l h n v) ∧ μ'.2 21 v = lN (sp_h1 l h n v) := by
  refine ac_nest (fun o => ∃ μ', o = some μ' ∧ me_fr [] [20, 21] μ μ' ∧ ∀ v, v < n → μ'.2 20 v = lN (sp_s1 l h n v) ∧ μ'.2 21 v = lN (sp_h1 l h n v)) 20 n N μ (sp_hx l h) (fun F k m => fO_stepByGreatest_2 N n F (nI k) m) (fun F E i j m => fO_stepByGreatest_20 N n (fO_stepByGreatest_2 N n F) E (nI i) (nI j) m) (by omega) ?_ ?_ ?_ ?_
  · intro F i m hi hf
    show fO_stepByGreatest_2b N n (fO_stepByGreatest_2 N n F) (nI i) m = _
    unfold fO_stepByGreatest_2b
    rw [if_neg (nI_ge hi (by omega)), ba_gi hi (by omega), nI_clamp (by omega)]
    rfl
  · intro F E i j m hi hj hf
    show fO_stepByGreatest_20b N n (fO_stepByGreatest_2 N n F) (fO_stepByGreatest_20 N n (fO_stepByGreatest_2 N n F) E) (nI i) (nI j) m = _
    have hlj := hl j hj
    have hlm : m.1 12 j = nI (l j) := by rw [hf.1 12 (by simp)]; exact hlj.2
    have hsm : m.2 21 j = lN (h j) := by rw [hf.2 21 (by decide)]; exact (hh j hj).2
    unfold fO_stepByGreatest_20b fO_stepByGreatest_59
    rw [if_neg (nI_ge hj (by omega)), ba_gi hi (by omega), ba_gi hj (by omega), ba_gi hi (by omega), ba_gi hi (by omega), ba_gi hj (by omega), nI_clamp (by omega), nI_clamp (by omega), hlm, ap_holds (by omega) (by omega), ba_b, hsm, nI_1]
    unfold sp_hx
    cases hb : (l j).testBit i with
    | true => rw [ba_tt, ba_10, ba_tt]
    | false => rw [ba_ff, ba_00, ba_ff]; rfl
  · intro F E i m hi hf
    show fO_stepByGreatest_20b N n (fO_stepByGreatest_2 N n F) (fO_stepByGreatest_20 N n (fO_stepByGreatest_2 N n F) E) (nI i) (nI n) m = _
    unfold fO_stepByGreatest_20b fO_stepByGreatest_67
    rw [if_pos (nI_le (Nat.le_refl _) (by omega)), nI_1]
  · intro F m hf hv
    show ∃ μ', fO_stepByGreatest_2b N n (fO_stepByGreatest_2 N n F) (nI n) m = some μ' ∧ _
    unfold fO_stepByGreatest_2b fO_stepByGreatest_73
    rw [if_pos (nI_le (Nat.le_refl _) (by omega))]
    obtain ⟨m1, e1, f1, g1⟩ := sp_br20 (N := N) (n := n) (μ := m) (f := fun v => rl_sum (sp_hx l h v) n) hN h12 (fun v hv2 => ⟨by
      have := sp_sumle (x := sp_hx l h v) (f := h) (p := fun u => (l u).testBit v) (fun v hv => (hh v hv).1) (fun _ => rfl)
      omega, hv v hv2⟩)
    rw [e1, ba_b]
    refine ac_nest (fun o => ∃ μ', o = some μ' ∧ me_fr [] [20, 21] μ μ' ∧ ∀ v, v < n → μ'.2 20 v = lN (sp_s1 l h n v) ∧ μ'.2 21 v = lN (sp_h1 l h n v)) 21 n N m1 (sp_ax l (sp_s1 l h n)) (fun F k m => fO_stepByGreatest_82 N n F (nI k) m) (fun F E i j m => fO_stepByGreatest_100 N n (fO_stepByGreatest_82 N n F) E (nI i) (nI j) m) (by omega) ?_ ?_ ?_ ?_
    · intro F i m hi hf
      show fO_stepByGreatest_82b N n (fO_stepByGreatest_82 N n F) (nI i) m = _
      unfold fO_stepByGreatest_82b
      rw [if_neg (nI_ge hi (by omega)), ba_gi hi (by omega), nI_clamp (by omega)]
      rfl
    · intro F E i j m' hi hj hf'
      show fO_stepByGreatest_100b N n (fO_stepByGreatest_82 N n F) (fO_stepByGreatest_100 N n (fO_stepByGreatest_82 N n F) E) (nI i) (nI j) m' = _
      have hli := hl i hi
      have hlm : m'.1 12 i = nI (l i) := by rw [hf'.1 12 (by simp), f1.1 12 (by simp), hf.1 12 (by simp)]; exact hli.2
      have hsm : m'.2 20 j = lN (sp_s1 l h n j) := by rw [hf'.2 20 (by decide)]; exact g1 j hj
      unfold fO_stepByGreatest_100b fO_stepByGreatest_139
      rw [if_neg (nI_ge hj (by omega)), ba_gi hi (by omega), ba_gi hi (by omega), ba_gi hi (by omega), ba_gi hj (by omega), ba_gi hi (by omega), nI_clamp (by omega), nI_clamp (by omega), hlm, ap_holds (by omega) (by omega), ba_b, hsm, nI_1]
      unfold sp_ax
      cases hb : (l i).testBit j with
      | true => rw [ba_tt, ba_10, ba_tt]
      | false => rw [ba_ff, ba_00, ba_ff]; rfl
    · intro F E i m hi hf
      show fO_stepByGreatest_100b N n (fO_stepByGreatest_82 N n F) (fO_stepByGreatest_100 N n (fO_stepByGreatest_82 N n F) E) (nI i) (nI n) m = _
      unfold fO_stepByGreatest_100b fO_stepByGreatest_147
      rw [if_pos (nI_le (Nat.le_refl _) (by omega)), nI_1]
    · intro F m2 hf2 hv2
      show ∃ μ', fO_stepByGreatest_82b N n (fO_stepByGreatest_82 N n F) (nI n) m2 = some μ' ∧ _
      unfold fO_stepByGreatest_82b fO_stepByGreatest_153
      rw [if_pos (nI_le (Nat.le_refl _) (by omega))]
      obtain ⟨m3, e3, f3, g3⟩ := sp_br21 (N := N) (n := n) (μ := m2) (f := fun v => rl_sum (sp_ax l (sp_s1 l h n) v) n) hN h12 (fun v hv3 => ⟨by
        have := sp_sumle (x := sp_ax l (sp_s1 l h n) v) (f := sp_s1 l h n) (p := fun u => (l v).testBit u) (fun v hv => sp_br_le hv) (fun _ => rfl)
        omega, hv2 v hv3⟩)
      rw [e3, ba_b]
      refine ⟨m3, rfl, (hf.mono (by simp) (by simp)).tr ((f1.mono (by simp) (by simp)).tr ((hf2.mono (by simp) (by simp)).tr (f3.mono (by simp) (by simp)))), fun v hv => ⟨?_, g3 v hv⟩⟩
      rw [f3.2 20 (by decide), hf2.2 20 (by decide)]
      exact g1 v hv
def sp_h2 (l s : Nat → Nat) (n : Nat) : Nat → Nat := fun u => rl_sum (sp_qx l s n u) n
def sp_s2 (l s : Nat → Nat) (n : Nat) : Nat → Nat := fun v => rl_sum (sp_rx l (sp_h2 l s n) v) n
theorem sp_sharesC {N n : Nat} {μ : me_M} {l s : Nat → Nat} (hN : 4096 ≤ N) (h12 : n ≤ 12) (hl : ∀ u, u < n → l u < 4096 ∧ μ.1 12 u = nI (l u)) (hs : ∀ u, u < n → μ.2 20 u = lN (s u)) (hS : rl_sum s n ≤ 1000000000000) : ∃ μ', fO_stepByShares N n μ = some μ' ∧ me_fr [] [20, 21] μ μ' ∧ ∀ v, v < n → μ'.2 20 v = lN (sp_s2 l s n v) ∧ μ'.2 21 v = lN (sp_h2 l s n v) := by
  have hsu : ∀ u, u < n → s u ≤ 1000000000000 := fun u hu => Nat.le_trans (su_le hu) hS
  have hhu : ∀ u, sp_h2 l s n u ≤ 1000000000000 := fun u => Nat.le_trans (sp_cle s) hS
  refine ac_nest (fun o => ∃ μ', o = some μ' ∧ me_fr [] [20, 21] μ μ' ∧ ∀ v, v < n → μ'.2 20 v = lN (sp_s2 l s n v) ∧ μ'.2 21 v = lN (sp_h2 l s n v)) 21 n N μ (sp_qx l s n) (fun F k m => fO_stepByShares_2 N n F (nI k) m) (fun F E i j m => fO_stepByShares_20 N n (fO_stepByShares_2 N n F) E (nI i) (nI j) m) (by omega) ?_ ?_ ?_ ?_
  · intro F i m hi hf
    show fO_stepByShares_2b N n (fO_stepByShares_2 N n F) (nI i) m = _
    unfold fO_stepByShares_2b
    rw [if_neg (nI_ge hi (by omega)), ba_gi hi (by omega), nI_clamp (by omega)]
    rfl
  · intro F E i j m hi hj hf
    show fO_stepByShares_20b N n (fO_stepByShares_2 N n F) (fO_stepByShares_20 N n (fO_stepByShares_2 N n F) E) (nI i) (nI j) m = _
    have hli := hl i hi
    have hlm : m.1 12 i = nI (l i) := by rw [hf.1 12 (by simp)]; exact hli.2
    have hsm : m.2 20 j = lN (s j) := by rw [hf.2 20 (by decide)]; exact hs j hj
    have := hsu j hj
    have := sp_to_le l n j
    unfold fO_stepByShares_20b fO_stepByShares_68
    rw [if_neg (nI_ge hj (by omega)), ba_gi hi (by omega), ba_gi hi (by omega), ba_gi hi (by omega), ba_gi hj (by omega), nI_clamp (by omega), nI_clamp (by omega), hlm, ap_holds (by omega) (by omega), ba_b, sp_linksTo hN h12 hj (fun u hu => ⟨(hl u hu).1, by rw [hf.1 12 (by simp)]; exact (hl u hu).2⟩), ba_b, nI_l (by omega), hsm, tp_quo (by omega) (by omega), ba_b, ba_gi hi (by omega), nI_1]
    unfold sp_qx
    cases hb : (l i).testBit j with
    | true => rw [ba_tt, ba_10, ba_tt]
    | false => rw [ba_ff, ba_00, ba_ff]; rfl
  · intro F E i m hi hf
    show fO_stepByShares_20b N n (fO_stepByShares_2 N n F) (fO_stepByShares_20 N n (fO_stepByShares_2 N n F) E) (nI i) (nI n) m = _
    unfold fO_stepByShares_20b fO_stepByShares_76
    rw [if_pos (nI_le (Nat.le_refl _) (by omega)), nI_1]
  · intro F m hf hv
    show ∃ μ', fO_stepByShares_2b N n (fO_stepByShares_2 N n F) (nI n) m = some μ' ∧ _
    unfold fO_stepByShares_2b fO_stepByShares_82
    rw [if_pos (nI_le (Nat.le_refl _) (by omega))]
    refine ac_nest (fun o => ∃ μ', o = some μ' ∧ me_fr [] [20, 21] μ μ' ∧ ∀ v, v < n → μ'.2 20 v = lN (sp_s2 l s n v) ∧ μ'.2 21 v = lN (sp_h2 l s n v)) 20 n N m (sp_rx l (sp_h2 l s n)) (fun F k m => fO_stepByShares_84 N n F (nI k) m) (fun F E i j m => fO_stepByShares_102 N n (fO_stepByShares_84 N n F) E (nI i) (nI j) m) (by omega) ?_ ?_ ?_ ?_
    · intro F i m hi hf
      show fO_stepByShares_84b N n (fO_stepByShares_84 N n F) (nI i) m = _
      unfold fO_stepByShares_84b
      rw [if_neg (nI_ge hi (by omega)), ba_gi hi (by omega), nI_clamp (by omega)]
      rfl
    · intro F E i j m' hi hj hf'
      show fO_stepByShares_102b N n (fO_stepByShares_84 N n F) (fO_stepByShares_102 N n (fO_stepByShares_84 N n F) E) (nI i) (nI j) m' = _
      have hlj := hl j hj
      have hlm : m'.1 12 j = nI (l j) := by rw [hf'.1 12 (by simp), hf.1 12 (by simp)]; exact hlj.2
      have hsm : m'.2 21 j = lN (sp_h2 l s n j) := by rw [hf'.2 21 (by decide)]; exact hv j hj
      have hc := st_cn_le (l j) 12
      have := hhu j
      unfold fO_stepByShares_102b fO_stepByShares_150
      rw [if_neg (nI_ge hj (by omega)), ba_gi hi (by omega), ba_gi hj (by omega), ba_gi hi (by omega), ba_gi hj (by omega), nI_clamp (by omega), nI_clamp (by omega), hlm, ap_holds (by omega) (by omega), ba_b, sp_from h12 hj hlj.1 hlm, ba_b, nI_l (by omega), hsm, tp_quo (by omega) (by omega), ba_b, ba_gi hi (by omega), nI_1]
      unfold sp_rx
      cases hb : (l j).testBit i with
      | true => rw [ba_tt, ba_10, ba_tt]
      | false => rw [ba_ff, ba_00, ba_ff]; rfl
    · intro F E i m hi hf
      show fO_stepByShares_102b N n (fO_stepByShares_84 N n F) (fO_stepByShares_102 N n (fO_stepByShares_84 N n F) E) (nI i) (nI n) m = _
      unfold fO_stepByShares_102b fO_stepByShares_158
      rw [if_pos (nI_le (Nat.le_refl _) (by omega)), nI_1]
    · intro F m2 hf2 hv2
      show ∃ μ', fO_stepByShares_84b N n (fO_stepByShares_84 N n F) (nI n) m2 = some μ' ∧ _
      unfold fO_stepByShares_84b fO_stepByShares_164
      rw [if_pos (nI_le (Nat.le_refl _) (by omega))]
      refine ⟨m2, rfl, (hf.mono (by simp) (by simp)).tr (hf2.mono (by simp) (by simp)), fun v hv' => ⟨hv2 v hv', ?_⟩⟩
      rw [hf2.2 21 (by decide)]
      exact hv v hv'
