/- sets of nodes: members below v, the set less its lowest ones -/
def st_cn (x : Nat) : Nat → Nat
  | 0 => 0
  | v + 1 => st_cn x v + x / 2 ^ v % 2
theorem st_64 {P : Nat → Prop} (h : ∀ a, a < 64 → ∀ b, b < 64 → P (64 * a + b)) {x : Nat} (hx : x < 4096) : P x := by
  have := h (x / 64) (by omega) (x % 64) (by omega)
  rwa [Nat.div_add_mod] at this
theorem st_bc0 : ∀ a, a < 64 → ∀ b, b < 64 → fJ_bitCount 0 (nI (64 * a + b)) = some (nI (st_cn (64 * a + b) 12)) := by decide +kernel
theorem st_clr0 : ∀ a, a < 64 → ∀ b, b < 64 → ∀ v, v < 12 → ((64 * a + b) &&& (64 * a + b - 1)) / 2 ^ v % 2 = if (64 * a + b) / 2 ^ v % 2 = 1 ∧ 0 < st_cn (64 * a + b) v then 1 else 0 := by decide +kernel
