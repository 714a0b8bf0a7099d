/- no rest with intervals is longer than 53 bits: by trying all sets -/
theorem pv_d7 : ∀ a, a < 64 → ∀ b, b < 64 → Nat.ble (pv_i 7 (64 * a + b) 12 0 0 0 (64 * a + b)) 53 = true := by decide +kernel
theorem pv_d8 : ∀ a, a < 64 → ∀ b, b < 64 → Nat.ble (pv_i 8 (64 * a + b) 12 0 0 0 (64 * a + b)) 53 = true := by decide +kernel
theorem pv_d9 : ∀ a, a < 64 → ∀ b, b < 64 → Nat.ble (pv_i 9 (64 * a + b) 12 0 0 0 (64 * a + b)) 53 = true := by decide +kernel
