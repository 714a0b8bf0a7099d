/- nodes, ranges, bits of sets -/
theorem ap_wlo {N : Nat} {x lo hi : Int32} (h : x < lo) : fA_within N x lo hi = some 0 := by
  unfold fA_within fA_within_14 fA_within_15
  rw [if_pos h, ba_gz0]
theorem ap_whi {N : Nat} {x lo hi : Int32} (h : ¬ x < lo) (g : hi < x) : fA_within N x lo hi = some 0 := by
  unfold fA_within fA_within_14 fA_within_15
  rw [if_neg h, if_pos g, ba_gz0]
theorem ap_win {N : Nat} {x lo hi : Int32} (h : ¬ x < lo) (g : ¬ hi < x) : fA_within N x lo hi = some 1 := by
  unfold fA_within fA_within_15
  rw [if_neg h, if_neg g, ba_gz1]
theorem ap_lt {x y : Int32} : x < y ↔ x.toInt < y.toInt := Int32.lt_iff_toInt_lt
theorem ap_le {x y : Int32} : x ≤ y ↔ x.toInt ≤ y.toInt := Int32.le_iff_toInt_le
theorem ap_node1 {N n j : Nat} {μ : me_M} (hn : n ≤ 12) (h : j < n) : fA_isNode N n μ (nI j) = some 1 := by
  unfold fA_isNode
  obtain ⟨n, rfl⟩ : ∃ k, n = k + 1 := ⟨n - 1, by omega⟩
  rw [nI_pred, ap_win (nI_pos (by omega)) (nI_nlt (by omega) (by omega))]
  exact ba_gz1
theorem ap_node0 {N n : Nat} {x : Int32} {μ : me_M} (h1 : 1 ≤ n) (hn : n ≤ 12) (h : x < 0 ∨ nI n ≤ x) : fA_isNode N n μ x = some 0 := by
  unfold fA_isNode
  obtain ⟨n, rfl⟩ : ∃ k, n = k + 1 := ⟨n - 1, by omega⟩
  rw [nI_pred]
  by_cases q : x < 0
  · rw [ap_wlo q]; exact ba_gz0
  · rcases h with h | h
    · exact absurd h q
    · rw [ap_whi q (by rw [ap_lt, nI_toInt (by omega)]; rw [ap_le, nI_toInt (by omega)] at h; omega)]; exact ba_gz0
theorem ap_mnode1 {N n j : Nat} {ν : me_M} (hν : ν.1 100 0 = nI n) (hn : n ≤ 12) (h : j < n) : fM_node N ν (nI j) = some 1 := by
  unfold fM_node fM_node_17
  rw [if_neg (nI_pos (by omega)), hν, if_neg (nI_ge h (by omega)), ba_gz1]
theorem ap_mnode0 {N n : Nat} {x : Int32} {ν : me_M} (hν : ν.1 100 0 = nI n) (h : x < 0 ∨ nI n ≤ x) : fM_node N ν x = some 0 := by
  unfold fM_node fM_node_16 fM_node_17
  by_cases q : x < 0
  · rw [if_pos q, ba_gz0]
  · rcases h with h | h
    · exact absurd h q
    · rw [if_neg q, hν, if_pos h, ba_gz0]
theorem ap_mod2 (z : Nat) : z % 2 = 0 ∨ z % 2 = 1 := by omega
theorem ap_holds {N s v : Nat} (hs : s < 2 ^ 31) (hv : v < 32) : fA_holds N (nI s) (nI v) = some (if s.testBit v = true then 1 else 0) := by
  unfold fA_holds fA_holds_13
  rw [ba_bit hs hv, ba_tb]
  rcases ap_mod2 (s / 2 ^ v) with h | h
  · rw [h, if_pos nI_0, ba_gz0]; rfl
  · rw [h, if_neg (by decide), ba_gz1]; rfl
theorem ap_bitM {s v : Nat} (hs : s < 2 ^ 31) (hv : v < 32) : (nI s >>> (nI v &&& 31)) &&& (1 : Int32) = (if s.testBit v = true then 1 else 0) := by
  rw [ba_bit hs hv, ba_tb]
  rcases ap_mod2 (s / 2 ^ v) with h | h
  · rw [h]; rfl
  · rw [h]; rfl
theorem ap_shl1 : ∀ v, v < 31 → (1 : Int32) <<< (nI v &&& 31) = nI (2 ^ v) := by decide +kernel
theorem ap_or {a b : Nat} (ha : a < 2 ^ 31) (hb : b < 2 ^ 31) : nI a ||| nI b = nI (a ||| b) := by
  apply Int32.toBitVec_inj.mp
  apply BitVec.eq_of_toNat_eq
  rw [Int32.toBitVec_or, BitVec.toNat_or, pk_tn (by omega), pk_tn (by omega), pk_tn (Nat.or_lt_two_pow (n := 32) (by omega) (by omega))]
theorem ap_and {a b : Nat} (ha : a < 2 ^ 31) (hb : b < 2 ^ 31) : nI a &&& nI b = nI (a &&& b) := by
  apply Int32.toBitVec_inj.mp
  apply BitVec.eq_of_toNat_eq
  rw [Int32.toBitVec_and, BitVec.toNat_and, pk_tn (by omega), pk_tn (by omega), pk_tn (Nat.and_lt_two_pow (n := 32) _ (by omega))]
/- a set less another -/
def ap_di (a b : Nat) : Nat := a &&& (b ^^^ (2 ^ 32 - 1))
theorem ap_di_bit (a b i : Nat) (hi : i < 32) : (ap_di a b).testBit i = (a.testBit i && !b.testBit i) := by
  unfold ap_di
  rw [Nat.testBit_and, Nat.testBit_xor, Nat.testBit_two_pow_sub_one]
  simp [hi]
theorem ap_di_le (a b : Nat) : ap_di a b ≤ a := Nat.and_le_left
theorem ap_andn {a b : Nat} (ha : a < 2 ^ 31) (hb : b < 2 ^ 31) : nI a &&& (nI b ^^^ (-1 : Int32)) = nI (ap_di a b) := by
  apply Int32.toBitVec_inj.mp
  apply BitVec.eq_of_toNat_eq
  have h1 : ((-1 : Int32)).toBitVec.toNat = 2 ^ 32 - 1 := by decide
  rw [Int32.toBitVec_and, BitVec.toNat_and, Int32.toBitVec_xor, BitVec.toNat_xor, pk_tn (by omega), pk_tn (by omega), h1, pk_tn (Nat.lt_of_le_of_lt (ap_di_le a b) (by omega))]
  rfl
