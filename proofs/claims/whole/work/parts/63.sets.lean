theorem st_bc {N x : Nat} (hx : x < 4096) : fJ_bitCount N (nI x) = some (nI (st_cn x 12)) := st_64 (P := fun x => fJ_bitCount 0 (nI x) = some (nI (st_cn x 12))) st_bc0 hx
theorem st_ones {N x : Nat} (hN : 4096 ≤ N) (hx : x < 4096) : fM_ones N (nI x) = some (nI (st_cn x 12)) := by
  refine lp_g (fun o => o = some (nI (st_cn x 12))) (fun F k acc => fM_ones_4 N F (nI x) acc (nI k)) (fun k acc => acc = nI (st_cn x k)) 12 ?_ ?_ 12 N 0 0 (by omega) (by omega) rfl
  · intro F k acc hk hI ih
    show fM_ones_4b N (fM_ones_4 N F) (nI x) acc (nI k) = _
    unfold fM_ones_4b
    rw [if_neg (show ¬ (12 : Int32) ≤ nI k from nI_ge (b := 12) hk (by omega)), ba_bit (by omega) (by omega), nI_1]
    exact ih _ (by rw [hI, nI_add]; rfl)
  · intro F acc hI
    show fM_ones_4b N (fM_ones_4 N F) (nI x) acc (nI 12) = _
    unfold fM_ones_4b fM_ones_24
    rw [if_pos (by decide), hI]
theorem st_cn_le (x : Nat) : ∀ v, st_cn x v ≤ v := by
  intro v
  induction v with
  | zero => exact Nat.le_refl _
  | succ v ih => unfold st_cn; have : x / 2 ^ v % 2 < 2 := Nat.mod_lt _ (by decide); omega
theorem st_cn_mono (x : Nat) {v w : Nat} (h : v ≤ w) : st_cn x v ≤ st_cn x w := by
  induction w with
  | zero => have : v = 0 := by omega
            subst this; exact Nat.le_refl _
  | succ w ih =>
    by_cases e : v = w + 1
    · subst e; exact Nat.le_refl _
    · have := ih (by omega)
      show st_cn x v ≤ st_cn x w + x / 2 ^ w % 2
      omega
theorem st_clr {x v : Nat} (hx : x < 4096) (hv : v < 12) : (x &&& (x - 1)) / 2 ^ v % 2 = if x / 2 ^ v % 2 = 1 ∧ 0 < st_cn x v then 1 else 0 := st_64 (P := fun x => ∀ v, v < 12 → (x &&& (x - 1)) / 2 ^ v % 2 = if x / 2 ^ v % 2 = 1 ∧ 0 < st_cn x v then 1 else 0) st_clr0 hx v hv
/- the set less its a lowest members -/
def st_ge (x : Nat) : Nat → Nat
  | 0 => x
  | a + 1 => st_ge x a &&& (st_ge x a - 1)
theorem st_ge_le (x a : Nat) : st_ge x a ≤ x := by
  induction a with
  | zero => exact Nat.le_refl _
  | succ a ih => exact Nat.le_trans Nat.and_le_left ih
theorem st_ge_bit {x : Nat} (hx : x < 4096) : ∀ a v, v < 12 → st_ge x a / 2 ^ v % 2 = (if x / 2 ^ v % 2 = 1 ∧ a ≤ st_cn x v then 1 else 0) ∧ st_cn (st_ge x a) v = st_cn x v - a := by
  intro a
  induction a with
  | zero =>
    intro v hv
    refine ⟨?_, by rw [Nat.sub_zero]; rfl⟩
    show x / 2 ^ v % 2 = _
    have : x / 2 ^ v % 2 < 2 := Nat.mod_lt _ (by decide)
    by_cases e : x / 2 ^ v % 2 = 1
    · rw [if_pos ⟨e, Nat.zero_le _⟩]; exact e
    · rw [if_neg (fun q => e q.1)]; omega
  | succ a ih =>
    have hb : ∀ v, v < 12 → st_ge x (a + 1) / 2 ^ v % 2 = (if x / 2 ^ v % 2 = 1 ∧ a + 1 ≤ st_cn x v then 1 else 0) := by
      intro v hv
      show (st_ge x a &&& (st_ge x a - 1)) / 2 ^ v % 2 = _
      rw [st_clr (Nat.lt_of_le_of_lt (st_ge_le x a) hx) hv, (ih v hv).1, (ih v hv).2]
      by_cases e : x / 2 ^ v % 2 = 1
      · by_cases g : a ≤ st_cn x v
        · rw [if_pos (show x / 2 ^ v % 2 = 1 ∧ a ≤ st_cn x v from ⟨e, g⟩)]
          by_cases g1 : a + 1 ≤ st_cn x v
          · rw [if_pos ⟨rfl, by omega⟩, if_pos ⟨e, g1⟩]
          · rw [if_neg (by omega), if_neg (fun q => g1 q.2)]
        · rw [if_neg (show ¬ (x / 2 ^ v % 2 = 1 ∧ a ≤ st_cn x v) from fun q => g q.2), if_neg (by omega), if_neg (by omega)]
      · rw [if_neg (show ¬ (x / 2 ^ v % 2 = 1 ∧ a ≤ st_cn x v) from fun q => e q.1), if_neg (by omega), if_neg (fun q => e q.1)]
    intro v hv
    refine ⟨hb v hv, ?_⟩
    induction v with
    | zero => show 0 = 0 - (a + 1); omega
    | succ v ihv =>
      have h1 := ihv (by omega)
      have h2 := hb v (by omega)
      show st_cn (st_ge x (a + 1)) v + st_ge x (a + 1) / 2 ^ v % 2 = st_cn x v + x / 2 ^ v % 2 - (a + 1)
      rw [h1, h2]
      have : x / 2 ^ v % 2 < 2 := Nat.mod_lt _ (by decide)
      by_cases e : x / 2 ^ v % 2 = 1
      · by_cases g : a + 1 ≤ st_cn x v
        · rw [if_pos ⟨e, g⟩]; omega
        · rw [if_neg (fun q => g q.2)]; omega
      · rw [if_neg (fun q => e q.1)]; omega
theorem st_ge_cn {x : Nat} (hx : x < 4096) (a : Nat) : st_cn (st_ge x a) 12 = st_cn x 12 - a := by
  have h1 := st_ge_bit hx a 11 (by decide)
  show st_cn (st_ge x a) 11 + st_ge x a / 2 ^ 11 % 2 = st_cn x 11 + x / 2 ^ 11 % 2 - a
  rw [h1.1, h1.2]
  have : x / 2 ^ 11 % 2 < 2 := Nat.mod_lt _ (by decide)
  by_cases e : x / 2 ^ 11 % 2 = 1
  · by_cases g : a ≤ st_cn x 11
    · rw [if_pos ⟨e, g⟩]; omega
    · rw [if_neg (fun q => g q.2)]; omega
  · rw [if_neg (fun q => e q.1)]; omega
theorem st_ext {x y : Nat} (hx : x < 4096) (hy : y < 4096) (h : ∀ v, v < 12 → x / 2 ^ v % 2 = y / 2 ^ v % 2) : x = y := by
  apply Nat.eq_of_testBit_eq
  intro i
  by_cases hi : i < 12
  · rw [ba_tb, ba_tb, h i hi]
  · have hp : 4096 ≤ 2 ^ i := Nat.pow_le_pow_right (n := 2) (i := 12) (j := i) (by decide) (by omega)
    rw [Nat.testBit_lt_two_pow (by omega), Nat.testBit_lt_two_pow (by omega)]
theorem st_bitb (x v : Nat) : x / 2 ^ v % 2 = if x.testBit v = true then 1 else 0 := by
  rw [ba_tb]
  have : x / 2 ^ v % 2 < 2 := Nat.mod_lt _ (by decide)
  by_cases e : x / 2 ^ v % 2 = 1
  · rw [e]; rfl
  · have e0 : x / 2 ^ v % 2 = 0 := by omega
    rw [e0]; rfl
theorem st_zero {x : Nat} (hx : x < 4096) (h : st_cn x 12 = 0) : x = 0 := by
  apply st_ext hx (by decide)
  intro v hv
  have h1 : st_cn x v + x / 2 ^ v % 2 ≤ st_cn x 12 := st_cn_mono x (v := v + 1) (by omega)
  rw [h] at h1
  rw [Nat.zero_div]
  omega
