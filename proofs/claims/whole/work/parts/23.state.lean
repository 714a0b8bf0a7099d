def hD (n : Nat) (μ : me_M) (sv : Value) : aw_H := [.inr (6, [.int (nI n), .ref 1, .ref 2, .ref 4, .ref 6, .ref 11, .ref 16, sv]), .inl (0, n, .inl (μ.1 1)), .inr (5, [.ref 3, .int (μ.1 301 0)]), .inl (1, 800, .inl (μ.1 3)), .inr (0, [.int (μ.1 500 0), .int (μ.1 501 0), .int (μ.1 502 0), .int (μ.1 503 0), .ref 5]), .inl (0, (n + 1), .inl (μ.1 5)), .inr (1, [.ref 1, .ref 4, .ref 2, .ref 10, .ref 7, .ref 8, .ref 9]), .inl (0, 13, .inl (μ.1 7)), .inl (0, 12, .inl (μ.1 8)), .inl (0, 12, .inl (μ.1 9)), .inl (0, n, .inl (μ.1 10)), .inr (3, [.ref 12, .ref 13, .ref 14, .ref 15, .int (nI n), .ref 4, .ref 2, .int (μ.1 1207 0), .int (μ.1 1208 0), .int (μ.1 1209 0), .int (μ.1 1210 0), .int (μ.1 1211 0), .int (μ.1 1212 0), .int (μ.1 1213 0)]), .inl (0, n, .inl (μ.1 12)), .inl (0, n, .inl (μ.1 13)), .inl (0, n, .inl (μ.1 14)), .inl (0, n, .inl (μ.1 15)), .inr (2, [.ref 17, .ref 12, .ref 18]), .inl (0, n, .inl (μ.1 17)), .inl (0, n, .inl (μ.1 18)), .inr (4, [.ref 20, .ref 21, .ref 23, .long (μ.2 2003 0), .ref 12, .ref 22, .int (μ.1 2006 0), .int (μ.1 2007 0)]), .inl (2, n, .inr (.inl (μ.2 20))), .inl (2, n, .inr (.inl (μ.2 21))), .inl (2, n, .inr (.inl (μ.2 22))), .inl (0, n, .inl (μ.1 23))]
def hC (n : Nat) (μ : me_M) : aw_H := hD n μ (.ref 19)
theorem hC_0 {n : Nat} {μ : me_M} : (hC n μ)[0]? = some (.inr (6, [.int (nI n), .ref 1, .ref 2, .ref 4, .ref 6, .ref 11, .ref 16, .ref 19])) := rfl
theorem hC_1 {n : Nat} {μ : me_M} : (hC n μ)[1]? = some (.inl (0, n, .inl (μ.1 1))) := rfl
theorem hC_2 {n : Nat} {μ : me_M} : (hC n μ)[2]? = some (.inr (5, [.ref 3, .int (μ.1 301 0)])) := rfl
theorem hC_3 {n : Nat} {μ : me_M} : (hC n μ)[3]? = some (.inl (1, 800, .inl (μ.1 3))) := rfl
theorem hC_4 {n : Nat} {μ : me_M} : (hC n μ)[4]? = some (.inr (0, [.int (μ.1 500 0), .int (μ.1 501 0), .int (μ.1 502 0), .int (μ.1 503 0), .ref 5])) := rfl
theorem hC_5 {n : Nat} {μ : me_M} : (hC n μ)[5]? = some (.inl (0, (n + 1), .inl (μ.1 5))) := rfl
theorem hC_6 {n : Nat} {μ : me_M} : (hC n μ)[6]? = some (.inr (1, [.ref 1, .ref 4, .ref 2, .ref 10, .ref 7, .ref 8, .ref 9])) := rfl
theorem hC_7 {n : Nat} {μ : me_M} : (hC n μ)[7]? = some (.inl (0, 13, .inl (μ.1 7))) := rfl
theorem hC_8 {n : Nat} {μ : me_M} : (hC n μ)[8]? = some (.inl (0, 12, .inl (μ.1 8))) := rfl
theorem hC_9 {n : Nat} {μ : me_M} : (hC n μ)[9]? = some (.inl (0, 12, .inl (μ.1 9))) := rfl
theorem hC_10 {n : Nat} {μ : me_M} : (hC n μ)[10]? = some (.inl (0, n, .inl (μ.1 10))) := rfl
theorem hC_11 {n : Nat} {μ : me_M} : (hC n μ)[11]? = some (.inr (3, [.ref 12, .ref 13, .ref 14, .ref 15, .int (nI n), .ref 4, .ref 2, .int (μ.1 1207 0), .int (μ.1 1208 0), .int (μ.1 1209 0), .int (μ.1 1210 0), .int (μ.1 1211 0), .int (μ.1 1212 0), .int (μ.1 1213 0)])) := rfl
theorem hC_12 {n : Nat} {μ : me_M} : (hC n μ)[12]? = some (.inl (0, n, .inl (μ.1 12))) := rfl
theorem hC_13 {n : Nat} {μ : me_M} : (hC n μ)[13]? = some (.inl (0, n, .inl (μ.1 13))) := rfl
theorem hC_14 {n : Nat} {μ : me_M} : (hC n μ)[14]? = some (.inl (0, n, .inl (μ.1 14))) := rfl
theorem hC_15 {n : Nat} {μ : me_M} : (hC n μ)[15]? = some (.inl (0, n, .inl (μ.1 15))) := rfl
theorem hC_16 {n : Nat} {μ : me_M} : (hC n μ)[16]? = some (.inr (2, [.ref 17, .ref 12, .ref 18])) := rfl
theorem hC_17 {n : Nat} {μ : me_M} : (hC n μ)[17]? = some (.inl (0, n, .inl (μ.1 17))) := rfl
theorem hC_18 {n : Nat} {μ : me_M} : (hC n μ)[18]? = some (.inl (0, n, .inl (μ.1 18))) := rfl
theorem hC_19 {n : Nat} {μ : me_M} : (hC n μ)[19]? = some (.inr (4, [.ref 20, .ref 21, .ref 23, .long (μ.2 2003 0), .ref 12, .ref 22, .int (μ.1 2006 0), .int (μ.1 2007 0)])) := rfl
theorem hC_20 {n : Nat} {μ : me_M} : (hC n μ)[20]? = some (.inl (2, n, .inr (.inl (μ.2 20)))) := rfl
theorem hC_21 {n : Nat} {μ : me_M} : (hC n μ)[21]? = some (.inl (2, n, .inr (.inl (μ.2 21)))) := rfl
theorem hC_22 {n : Nat} {μ : me_M} : (hC n μ)[22]? = some (.inl (2, n, .inr (.inl (μ.2 22)))) := rfl
theorem hC_23 {n : Nat} {μ : me_M} : (hC n μ)[23]? = some (.inl (0, n, .inl (μ.1 23))) := rfl
theorem hD_0 {n : Nat} {μ : me_M} {sv : Value} : (hD n μ sv)[0]? = some (.inr (6, [.int (nI n), .ref 1, .ref 2, .ref 4, .ref 6, .ref 11, .ref 16, sv])) := rfl
theorem hD_1 {n : Nat} {μ : me_M} {sv : Value} : (hD n μ sv)[1]? = some (.inl (0, n, .inl (μ.1 1))) := rfl
theorem hD_2 {n : Nat} {μ : me_M} {sv : Value} : (hD n μ sv)[2]? = some (.inr (5, [.ref 3, .int (μ.1 301 0)])) := rfl
theorem hD_3 {n : Nat} {μ : me_M} {sv : Value} : (hD n μ sv)[3]? = some (.inl (1, 800, .inl (μ.1 3))) := rfl
theorem hD_4 {n : Nat} {μ : me_M} {sv : Value} : (hD n μ sv)[4]? = some (.inr (0, [.int (μ.1 500 0), .int (μ.1 501 0), .int (μ.1 502 0), .int (μ.1 503 0), .ref 5])) := rfl
theorem hD_5 {n : Nat} {μ : me_M} {sv : Value} : (hD n μ sv)[5]? = some (.inl (0, (n + 1), .inl (μ.1 5))) := rfl
theorem hD_6 {n : Nat} {μ : me_M} {sv : Value} : (hD n μ sv)[6]? = some (.inr (1, [.ref 1, .ref 4, .ref 2, .ref 10, .ref 7, .ref 8, .ref 9])) := rfl
theorem hD_7 {n : Nat} {μ : me_M} {sv : Value} : (hD n μ sv)[7]? = some (.inl (0, 13, .inl (μ.1 7))) := rfl
theorem hD_8 {n : Nat} {μ : me_M} {sv : Value} : (hD n μ sv)[8]? = some (.inl (0, 12, .inl (μ.1 8))) := rfl
theorem hD_9 {n : Nat} {μ : me_M} {sv : Value} : (hD n μ sv)[9]? = some (.inl (0, 12, .inl (μ.1 9))) := rfl
theorem hD_10 {n : Nat} {μ : me_M} {sv : Value} : (hD n μ sv)[10]? = some (.inl (0, n, .inl (μ.1 10))) := rfl
theorem hD_11 {n : Nat} {μ : me_M} {sv : Value} : (hD n μ sv)[11]? = some (.inr (3, [.ref 12, .ref 13, .ref 14, .ref 15, .int (nI n), .ref 4, .ref 2, .int (μ.1 1207 0), .int (μ.1 1208 0), .int (μ.1 1209 0), .int (μ.1 1210 0), .int (μ.1 1211 0), .int (μ.1 1212 0), .int (μ.1 1213 0)])) := rfl
theorem hD_12 {n : Nat} {μ : me_M} {sv : Value} : (hD n μ sv)[12]? = some (.inl (0, n, .inl (μ.1 12))) := rfl
theorem hD_13 {n : Nat} {μ : me_M} {sv : Value} : (hD n μ sv)[13]? = some (.inl (0, n, .inl (μ.1 13))) := rfl
theorem hD_14 {n : Nat} {μ : me_M} {sv : Value} : (hD n μ sv)[14]? = some (.inl (0, n, .inl (μ.1 14))) := rfl
theorem hD_15 {n : Nat} {μ : me_M} {sv : Value} : (hD n μ sv)[15]? = some (.inl (0, n, .inl (μ.1 15))) := rfl
theorem hD_16 {n : Nat} {μ : me_M} {sv : Value} : (hD n μ sv)[16]? = some (.inr (2, [.ref 17, .ref 12, .ref 18])) := rfl
theorem hD_17 {n : Nat} {μ : me_M} {sv : Value} : (hD n μ sv)[17]? = some (.inl (0, n, .inl (μ.1 17))) := rfl
theorem hD_18 {n : Nat} {μ : me_M} {sv : Value} : (hD n μ sv)[18]? = some (.inl (0, n, .inl (μ.1 18))) := rfl
theorem hD_19 {n : Nat} {μ : me_M} {sv : Value} : (hD n μ sv)[19]? = some (.inr (4, [.ref 20, .ref 21, .ref 23, .long (μ.2 2003 0), .ref 12, .ref 22, .int (μ.1 2006 0), .int (μ.1 2007 0)])) := rfl
theorem hD_20 {n : Nat} {μ : me_M} {sv : Value} : (hD n μ sv)[20]? = some (.inl (2, n, .inr (.inl (μ.2 20)))) := rfl
theorem hD_21 {n : Nat} {μ : me_M} {sv : Value} : (hD n μ sv)[21]? = some (.inl (2, n, .inr (.inl (μ.2 21)))) := rfl
theorem hD_22 {n : Nat} {μ : me_M} {sv : Value} : (hD n μ sv)[22]? = some (.inl (2, n, .inr (.inl (μ.2 22)))) := rfl
theorem hD_23 {n : Nat} {μ : me_M} {sv : Value} : (hD n μ sv)[23]? = some (.inl (0, n, .inl (μ.1 23))) := rfl
def hM (μ : me_M) : aw_H := [.inr (7, [.int (μ.1 100 0), .ref 1, .ref 2, .int (μ.1 103 0), .ref 3, .int (μ.1 105 0), .int (μ.1 106 0), .int (μ.1 107 0), .int (μ.1 108 0), .ref 4, .ref 5, .int (μ.1 111 0), .int (μ.1 112 0), .int (μ.1 113 0), .int (μ.1 114 0), .ref 6, .ref 7, .ref 8, .ref 9, .ref 10, .int (μ.1 120 0), .int (μ.1 121 0), .ref 11, .ref 12, .ref 13, .long (μ.2 125 0), .ref 14, .ref 15, .int (μ.1 128 0)]), .inl (0, 12, .inl (μ.1 1)), .inl (0, 2048, .inl (μ.1 2)), .inl (0, 13, .inl (μ.1 3)), .inl (0, 12, .inl (μ.1 4)), .inl (0, 13, .inl (μ.1 5)), .inl (0, 12, .inl (μ.1 6)), .inl (0, 12, .inl (μ.1 7)), .inl (0, 12, .inl (μ.1 8)), .inl (0, 12, .inl (μ.1 9)), .inl (0, 12, .inl (μ.1 10)), .inl (2, 12, .inr (.inl (μ.2 11))), .inl (2, 12, .inr (.inl (μ.2 12))), .inl (2, 12, .inr (.inl (μ.2 13))), .inl (0, 12, .inl (μ.1 14)), .inl (0, 12, .inl (μ.1 15))]
theorem hM_0 {μ : me_M} : (hM  μ)[0]? = some (.inr (7, [.int (μ.1 100 0), .ref 1, .ref 2, .int (μ.1 103 0), .ref 3, .int (μ.1 105 0), .int (μ.1 106 0), .int (μ.1 107 0), .int (μ.1 108 0), .ref 4, .ref 5, .int (μ.1 111 0), .int (μ.1 112 0), .int (μ.1 113 0), .int (μ.1 114 0), .ref 6, .ref 7, .ref 8, .ref 9, .ref 10, .int (μ.1 120 0), .int (μ.1 121 0), .ref 11, .ref 12, .ref 13, .long (μ.2 125 0), .ref 14, .ref 15, .int (μ.1 128 0)])) := rfl
theorem hM_1 {μ : me_M} : (hM  μ)[1]? = some (.inl (0, 12, .inl (μ.1 1))) := rfl
theorem hM_2 {μ : me_M} : (hM  μ)[2]? = some (.inl (0, 2048, .inl (μ.1 2))) := rfl
theorem hM_3 {μ : me_M} : (hM  μ)[3]? = some (.inl (0, 13, .inl (μ.1 3))) := rfl
theorem hM_4 {μ : me_M} : (hM  μ)[4]? = some (.inl (0, 12, .inl (μ.1 4))) := rfl
theorem hM_5 {μ : me_M} : (hM  μ)[5]? = some (.inl (0, 13, .inl (μ.1 5))) := rfl
theorem hM_6 {μ : me_M} : (hM  μ)[6]? = some (.inl (0, 12, .inl (μ.1 6))) := rfl
theorem hM_7 {μ : me_M} : (hM  μ)[7]? = some (.inl (0, 12, .inl (μ.1 7))) := rfl
theorem hM_8 {μ : me_M} : (hM  μ)[8]? = some (.inl (0, 12, .inl (μ.1 8))) := rfl
theorem hM_9 {μ : me_M} : (hM  μ)[9]? = some (.inl (0, 12, .inl (μ.1 9))) := rfl
theorem hM_10 {μ : me_M} : (hM  μ)[10]? = some (.inl (0, 12, .inl (μ.1 10))) := rfl
theorem hM_11 {μ : me_M} : (hM  μ)[11]? = some (.inl (2, 12, .inr (.inl (μ.2 11)))) := rfl
theorem hM_12 {μ : me_M} : (hM  μ)[12]? = some (.inl (2, 12, .inr (.inl (μ.2 12)))) := rfl
theorem hM_13 {μ : me_M} : (hM  μ)[13]? = some (.inl (2, 12, .inr (.inl (μ.2 13)))) := rfl
theorem hM_14 {μ : me_M} : (hM  μ)[14]? = some (.inl (0, 12, .inl (μ.1 14))) := rfl
theorem hM_15 {μ : me_M} : (hM  μ)[15]? = some (.inl (0, 12, .inl (μ.1 15))) := rfl
theorem kc_bi_m100 : (Int8.ofInt (-100)).toInt32 = (-100) := by decide
theorem kc_bi_m2 : (Int8.ofInt (-2)).toInt32 = (-2) := by decide
theorem kc_bi_6 : (Int8.ofInt 6).toInt32 = 6 := by decide
theorem kc_bi_7 : (Int8.ofInt 7).toInt32 = 7 := by decide
theorem kc_bi_8 : (Int8.ofInt 8).toInt32 = 8 := by decide
theorem kc_bi_9 : (Int8.ofInt 9).toInt32 = 9 := by decide
theorem kc_bi_10 : (Int8.ofInt 10).toInt32 = 10 := by decide
theorem kc_bi_12 : (Int8.ofInt 12).toInt32 = 12 := by decide
theorem kc_bi_13 : (Int8.ofInt 13).toInt32 = 13 := by decide
theorem kc_bi_16 : (Int8.ofInt 16).toInt32 = 16 := by decide
theorem kc_bi_20 : (Int8.ofInt 20).toInt32 = 20 := by decide
theorem kc_bi_30 : (Int8.ofInt 30).toInt32 = 30 := by decide
theorem kc_bi_31 : (Int8.ofInt 31).toInt32 = 31 := by decide
theorem kc_bi_63 : (Int8.ofInt 63).toInt32 = 63 := by decide
theorem kc_bi_100 : (Int8.ofInt 100).toInt32 = 100 := by decide
theorem kc_ic_m1 : Int32.ofInt (-1) = (-1) := by decide
theorem kc_ic_0 : Int32.ofInt 0 = 0 := by decide
theorem kc_ic_1 : Int32.ofInt 1 = 1 := by decide
theorem kc_ic_2 : Int32.ofInt 2 = 2 := by decide
theorem kc_ic_3 : Int32.ofInt 3 = 3 := by decide
theorem kc_ic_4 : Int32.ofInt 4 = 4 := by decide
theorem kc_ic_5 : Int32.ofInt 5 = 5 := by decide
theorem kc_lc_0 : Int64.ofNat ((0 : Fin 2) : Nat) = 0 := by decide
theorem kc_si_800 : (Int16.ofInt 800).toInt32 = 800 := by decide
theorem kc_si_850 : (Int16.ofInt 850).toInt32 = 850 := by decide
theorem kc_si_1000 : (Int16.ofInt 1000).toInt32 = 1000 := by decide
theorem kc_si_2048 : (Int16.ofInt 2048).toInt32 = 2048 := by decide
