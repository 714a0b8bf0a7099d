/- no rest with intervals is longer than 53 bits: by trying all sets -/
theorem pv_d1 : ∀ a, a < 64 → ∀ b, b < 64 → Nat.ble (pv_i 1 (64 * a + b) 12 0 0 0 (64 * a + b)) 53 = true := by decide +kernel
theorem pv_d2 : ∀ a, a < 64 → ∀ b, b < 64 → Nat.ble (pv_i 2 (64 * a + b) 12 0 0 0 (64 * a + b)) 53 = true := by decide +kernel
theorem pv_d3 : ∀ a, a < 64 → ∀ b, b < 64 → Nat.ble (pv_i 3 (64 * a + b) 12 0 0 0 (64 * a + b)) 53 = true := by decide +kernel
