/- no rest with intervals is longer than 53 bits: by trying all sets -/
theorem pv_d4 : ∀ a, a < 64 → ∀ b, b < 64 → Nat.ble (pv_i 4 (64 * a + b) 12 0 0 0 (64 * a + b)) 53 = true := by decide +kernel
theorem pv_d5 : ∀ a, a < 64 → ∀ b, b < 64 → Nat.ble (pv_i 5 (64 * a + b) 12 0 0 0 (64 * a + b)) 53 = true := by decide +kernel
theorem pv_d6 : ∀ a, a < 64 → ∀ b, b < 64 → Nat.ble (pv_i 6 (64 * a + b) 12 0 0 0 (64 * a + b)) 53 = true := by decide +kernel
