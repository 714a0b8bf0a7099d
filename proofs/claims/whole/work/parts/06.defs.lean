noncomputable section
def fT_putNumber_49 (N : Nat) (n : Nat) (μ : me_M) : Option me_M :=
  some μ
def fT_putNumber_4b (N : Nat) (n : Nat) (k4 : Int32 → Int32 → me_M → Option me_M) (l1 : Int32) (l3 : Int32) (μ : me_M) : Option me_M :=
  if l3 < 0 then
    fT_putNumber_49 N n μ
  else
    if (800 : Int32) ≤ (μ.1 301 0) then
      fT_putNumber_49 N n μ
    else
      me_gi (μ.1 301 0) 800 <|
      k4 l1 (l3 + (-1 : Int32)) (me_wi (me_wi μ 3 (μ.1 301 0).toNatClampNeg (vp_nar .byte (((l1 >>> (l3 &&& 31)) &&& (1 : Int32)).toInt8.toInt32))) 301 0 (((me_wi μ 3 (μ.1 301 0).toNatClampNeg (vp_nar .byte (((l1 >>> (l3 &&& 31)) &&& (1 : Int32)).toInt8.toInt32))).1 301 0) + (1 : Int32)))
def fT_putNumber_4 (N : Nat) (n : Nat) (F : Nat) : Int32 → Int32 → me_M → Option me_M := Nat.rec (motive := fun _ => Int32 → Int32 → me_M → Option me_M) (fun _ _ _ => none) (fun _ k4 => fT_putNumber_4b N n k4) F
def fT_putNumber (N : Nat) (n : Nat) (l1 : Int32) (l2 : Int32) (μ : me_M) : Option me_M :=
  fT_putNumber_4 N n N l1 (l2 - (1 : Int32)) μ
def fT_putUnary (N : Nat) (n : Nat) (l1 : Int32) (μ : me_M) : Option me_M :=
  (fT_putNumber N n (1 : Int32) (l1 + (1 : Int32)) μ).bind fun r1 =>
  some r1
def fT_exponent_23 (N : Nat) (l1 : Int32) : Option Int32 :=
  some l1
def fT_exponent_2b (N : Nat) (k2 : Int32 → Int32 → Option Int32) (l0 : Int32) (l1 : Int32) : Option Int32 :=
  if (30 : Int32) ≤ l1 then
    fT_exponent_23 N l1
  else
    if l0 < ((1 : Int32) <<< ((l1 + (1 : Int32)) &&& 31)) then
      fT_exponent_23 N l1
    else
      k2 l0 (l1 + (1 : Int32))
def fT_exponent_2 (N : Nat) (F : Nat) : Int32 → Int32 → Option Int32 := Nat.rec (motive := fun _ => Int32 → Int32 → Option Int32) (fun _ _ => none) (fun _ k2 => fT_exponent_2b N k2) F
def fT_exponent (N : Nat) (l0 : Int32) : Option Int32 :=
  fT_exponent_2 N N l0 (0 : Int32)
def fT_putGamma (N : Nat) (n : Nat) (l1 : Int32) (μ : me_M) : Option me_M :=
  (fT_exponent N (l1 + (1 : Int32))).bind fun r1 =>
  (fT_putNumber N n (l1 + (1 : Int32)) (((2 : Int32) * r1) + (1 : Int32)) μ).bind fun r2 =>
  some r2
def fT_putZeta_66 (N : Nat) (n : Nat) (μ : me_M) : Option me_M :=
  some μ
def fT_putZeta (N : Nat) (n : Nat) (l1 : Int32) (l2 : Int32) (μ : me_M) : Option me_M :=
  (fT_exponent N (l1 + (1 : Int32))).bind fun r1 =>
  me_gd l2 0 <|
  (fT_putNumber N n (1 : Int32) ((r1 / l2) + (1 : Int32)) μ).bind fun r3 =>
  if ((2 : Int32) * ((1 : Int32) <<< (((r1 / l2) * l2) &&& 31))) ≤ (l1 + (1 : Int32)) then
    (fT_putNumber N n (l1 + (1 : Int32)) (((r1 / l2) * l2) + l2) r3).bind fun r5 =>
    fT_putZeta_66 N n r5
  else
    (fT_putNumber N n ((l1 + (1 : Int32)) - ((1 : Int32) <<< (((r1 / l2) * l2) &&& 31))) ((((r1 / l2) * l2) + l2) - (1 : Int32)) r3).bind fun r6 =>
    fT_putZeta_66 N n r6
def fT_withoutSign_16 (N : Nat) (s0 : Int32) : Option Int32 :=
  some s0
def fT_withoutSign (N : Nat) (l0 : Int32) : Option Int32 :=
  if l0 < 0 then
    fT_withoutSign_16 N (((-2 : Int32) * l0) - (1 : Int32))
  else
    fT_withoutSign_16 N ((2 : Int32) * l0)
def fT_withSign_18 (N : Nat) (s0 : Int32) : Option Int32 :=
  some s0
def fT_withSign (N : Nat) (l0 : Int32) : Option Int32 :=
  if (l0 - l0 / (2 : Int32) * (2 : Int32)) = 0 then
    fT_withSign_18 N (l0 / (2 : Int32))
  else
    fT_withSign_18 N ((-(l0 + (1 : Int32))) / (2 : Int32))
def fK_mayBeReferredTo_30 (N : Nat) (n : Nat) (μ : me_M) (s0 : Int32) : Option Int32 :=
  me_gz s0 <|
  some s0
def fK_mayBeReferredTo_29 (N : Nat) (n : Nat) (μ : me_M) : Option Int32 :=
  fK_mayBeReferredTo_30 N n μ (0 : Int32)
def fK_mayBeReferredTo (N : Nat) (n : Nat) (μ : me_M) (l1 : Int32) : Option Int32 :=
  me_gi l1 n <|
  if (μ.1 1 l1.toNatClampNeg) = 0 then
    fK_mayBeReferredTo_29 N n μ
  else
    me_gi l1 n <|
    if (μ.1 501 0) ≤ (μ.1 10 l1.toNatClampNeg) then
      fK_mayBeReferredTo_29 N n μ
    else
      fK_mayBeReferredTo_30 N n μ (1 : Int32)
def fJ_bitCount_48 (N : Nat) (l0 : Int32) : Option Int32 :=
  some (l0 &&& (63 : Int32))
def fJ_bitCount_41 (N : Nat) (l0 : Int32) : Option Int32 :=
  fJ_bitCount_48 N (l0 + ((l0.toUInt32 >>> ((16 : Int32).toUInt32 &&& Int32.toUInt32 31)).toInt32))
def fJ_bitCount_34 (N : Nat) (l0 : Int32) : Option Int32 :=
  fJ_bitCount_41 N (l0 + ((l0.toUInt32 >>> ((8 : Int32).toUInt32 &&& Int32.toUInt32 31)).toInt32))
def fJ_bitCount_24 (N : Nat) (l0 : Int32) : Option Int32 :=
  fJ_bitCount_34 N ((l0 + ((l0.toUInt32 >>> ((4 : Int32).toUInt32 &&& Int32.toUInt32 31)).toInt32)) &&& (252645135 : Int32))
def fJ_bitCount_10 (N : Nat) (l0 : Int32) : Option Int32 :=
  fJ_bitCount_24 N ((l0 &&& (858993459 : Int32)) + (((l0.toUInt32 >>> ((2 : Int32).toUInt32 &&& Int32.toUInt32 31)).toInt32) &&& (858993459 : Int32)))
def fJ_bitCount (N : Nat) (l0 : Int32) : Option Int32 :=
  fJ_bitCount_10 N (l0 - (((l0.toUInt32 >>> ((1 : Int32).toUInt32 &&& Int32.toUInt32 31)).toInt32) &&& (1431655765 : Int32)))
def fA_holds_13 (N : Nat) (s0 : Int32) : Option Int32 :=
  me_gz s0 <|
  some s0
def fA_holds (N : Nat) (l0 : Int32) (l1 : Int32) : Option Int32 :=
  if ((l0 >>> (l1 &&& 31)) &&& (1 : Int32)) = 0 then
    fA_holds_13 N (0 : Int32)
  else
    fA_holds_13 N (1 : Int32)
def fK_writeRuns_137 (N : Nat) (n : Nat) (μ : me_M) : Option me_M :=
  some μ
def fK_writeRuns_128 (N : Nat) (n : Nat) (k94 : Int32 → Int32 → me_M → Option me_M) (l3 : Int32) (l5 : Int32) (s1 : Int32) (μ : me_M) : Option me_M :=
  (fT_putGamma N n s1 μ).bind fun r1 =>
  k94 l3 (l5 + (1 : Int32)) r1
def fK_writeRuns_94b (N : Nat) (n : Nat) (k94 : Int32 → Int32 → me_M → Option me_M) (l3 : Int32) (l5 : Int32) (μ : me_M) : Option me_M :=
  if l3 ≤ l5 then
    fK_writeRuns_137 N n μ
  else
    if l5 = 0 then
      me_gi l5 13 <|
      fK_writeRuns_128 N n k94 l3 l5 (μ.1 7 l5.toNatClampNeg) μ
    else
      me_gi l5 13 <|
      fK_writeRuns_128 N n k94 l3 l5 ((μ.1 7 l5.toNatClampNeg) - (1 : Int32)) μ
def fK_writeRuns_94 (N : Nat) (n : Nat) (F : Nat) : Int32 → Int32 → me_M → Option me_M := Nat.rec (motive := fun _ => Int32 → Int32 → me_M → Option me_M) (fun _ _ _ => none) (fun _ k94 => fK_writeRuns_94b N n k94) F
def fK_writeRuns_83 (N : Nat) (n : Nat) (l3 : Int32) (μ : me_M) : Option me_M :=
  (fT_putGamma N n l3 μ).bind fun r6 =>
  fK_writeRuns_94 N n N l3 (0 : Int32) r6
def fK_writeRuns_77 (N : Nat) (n : Nat) (k15 : Int32 → Int32 → Int32 → Int32 → Int32 → me_M → Option me_M) (l1 : Int32) (l2 : Int32) (l3 : Int32) (l4 : Int32) (l5 : Int32) (μ : me_M) : Option me_M :=
  k15 l1 l2 l3 l4 (l5 + (1 : Int32)) μ
def fK_writeRuns_67 (N : Nat) (n : Nat) (k15 : Int32 → Int32 → Int32 → Int32 → Int32 → me_M → Option me_M) (l1 : Int32) (l2 : Int32) (l3 : Int32) (l4 : Int32) (l5 : Int32) (μ : me_M) : Option me_M :=
  me_gi l3 13 <|
  me_gi l3 13 <|
  fK_writeRuns_77 N n k15 l1 l2 l3 l4 l5 (me_wi μ 7 l3.toNatClampNeg ((μ.1 7 l3.toNatClampNeg) + (1 : Int32)))
def fK_writeRuns_55 (N : Nat) (n : Nat) (k15 : Int32 → Int32 → Int32 → Int32 → Int32 → me_M → Option me_M) (l1 : Int32) (l2 : Int32) (l3 : Int32) (l5 : Int32) (s0 : Int32) (μ : me_M) : Option me_M :=
  me_gi (l3 + (1 : Int32)) 13 <|
  fK_writeRuns_67 N n k15 l1 l2 (l3 + (1 : Int32)) s0 l5 (me_wi μ 7 (l3 + (1 : Int32)).toNatClampNeg (0 : Int32))
def fK_writeRuns_15b (N : Nat) (n : Nat) (k15 : Int32 → Int32 → Int32 → Int32 → Int32 → me_M → Option me_M) (l1 : Int32) (l2 : Int32) (l3 : Int32) (l4 : Int32) (l5 : Int32) (μ : me_M) : Option me_M :=
  if (nI n) ≤ l5 then
    fK_writeRuns_83 N n l3 μ
  else
    (fA_holds N l2 l5).bind fun r11 =>
    if r11 = 0 then
      fK_writeRuns_77 N n k15 l1 l2 l3 l4 l5 μ
    else
      (fA_holds N l1 l5).bind fun r13 =>
      if r13 = l4 then
        fK_writeRuns_67 N n k15 l1 l2 l3 l4 l5 μ
      else
        if l4 = 0 then
          fK_writeRuns_55 N n k15 l1 l2 l3 l5 (1 : Int32) μ
        else
          fK_writeRuns_55 N n k15 l1 l2 l3 l5 (0 : Int32) μ
def fK_writeRuns_15 (N : Nat) (n : Nat) (F : Nat) : Int32 → Int32 → Int32 → Int32 → Int32 → me_M → Option me_M := Nat.rec (motive := fun _ => Int32 → Int32 → Int32 → Int32 → Int32 → me_M → Option me_M) (fun _ _ _ _ _ _ => none) (fun _ k15 => fK_writeRuns_15b N n k15) F
def fK_writeRuns (N : Nat) (n : Nat) (l1 : Int32) (l2 : Int32) (μ : me_M) : Option me_M :=
  me_gi (0 : Int32) 13 <|
  fK_writeRuns_15 N n N l1 l2 (0 : Int32) (1 : Int32) (0 : Int32) (me_wi μ 7 (0 : Int32).toNatClampNeg (0 : Int32))
def fK_rowLength_29 (N : Nat) (n : Nat) (μ : me_M) (l3 : Int32) : Option Int32 :=
  some l3
def fK_rowLength_2b (N : Nat) (n : Nat) (μ : me_M) (k2 : Int32 → Int32 → Int32 → Option Int32) (l1 : Int32) (l2 : Int32) (l3 : Int32) : Option Int32 :=
  if (nI n) ≤ (l2 + l3) then
    fK_rowLength_29 N n μ l3
  else
    (fA_holds N l1 (l2 + l3)).bind fun r2 =>
    if r2 = 0 then
      fK_rowLength_29 N n μ l3
    else
      k2 l1 l2 (l3 + (1 : Int32))
def fK_rowLength_2 (N : Nat) (n : Nat) (μ : me_M) (F : Nat) : Int32 → Int32 → Int32 → Option Int32 := Nat.rec (motive := fun _ => Int32 → Int32 → Int32 → Option Int32) (fun _ _ _ => none) (fun _ k2 => fK_rowLength_2b N n μ k2) F
def fK_rowLength (N : Nat) (n : Nat) (μ : me_M) (l1 : Int32) (l2 : Int32) : Option Int32 :=
  fK_rowLength_2 N n μ N l1 l2 (0 : Int32)
def fK_writeIntervals_197 (N : Nat) (n : Nat) (l4 : Int32) (μ : me_M) : Option (Int32 × me_M) :=
  some (l4, μ)
def fK_writeIntervals_147 (N : Nat) (n : Nat) (k105 : Int32 → Int32 → Int32 → Int32 → Int32 → me_M → Option (Int32 × me_M)) (l1 : Int32) (l3 : Int32) (l4 : Int32) (l6 : Int32) (s1 : Int32) (μ : me_M) : Option (Int32 × me_M) :=
  (fT_putGamma N n s1 μ).bind fun r1 =>
  me_gi l6 12 <|
  (fT_putGamma N n ((r1.1 9 l6.toNatClampNeg) - (r1.1 502 0)) r1).bind fun r3 =>
  me_gi l6 12 <|
  me_gi l6 12 <|
  k105 l1 l3 l4 (((r3.1 8 l6.toNatClampNeg) + (r3.1 9 l6.toNatClampNeg)) - (1 : Int32)) (l6 + (1 : Int32)) r3
def fK_writeIntervals_105b (N : Nat) (n : Nat) (k105 : Int32 → Int32 → Int32 → Int32 → Int32 → me_M → Option (Int32 × me_M)) (l1 : Int32) (l3 : Int32) (l4 : Int32) (l5 : Int32) (l6 : Int32) (μ : me_M) : Option (Int32 × me_M) :=
  if l3 ≤ l6 then
    fK_writeIntervals_197 N n l4 μ
  else
    if l6 = 0 then
      me_gi l6 12 <|
      (fT_withoutSign N ((μ.1 8 l6.toNatClampNeg) - l1)).bind fun r10 =>
      fK_writeIntervals_147 N n k105 l1 l3 l4 l6 r10 μ
    else
      me_gi l6 12 <|
      fK_writeIntervals_147 N n k105 l1 l3 l4 l6 (((μ.1 8 l6.toNatClampNeg) - l5) - (2 : Int32)) μ
def fK_writeIntervals_105 (N : Nat) (n : Nat) (F : Nat) : Int32 → Int32 → Int32 → Int32 → Int32 → me_M → Option (Int32 × me_M) := Nat.rec (motive := fun _ => Int32 → Int32 → Int32 → Int32 → Int32 → me_M → Option (Int32 × me_M)) (fun _ _ _ _ _ _ => none) (fun _ k105 => fK_writeIntervals_105b N n k105) F
def fK_writeIntervals_91 (N : Nat) (n : Nat) (l1 : Int32) (l3 : Int32) (l4 : Int32) (μ : me_M) : Option (Int32 × me_M) :=
  (fT_putGamma N n l3 μ).bind fun r11 =>
  fK_writeIntervals_105 N n N l1 l3 l4 (0 : Int32) (0 : Int32) r11
def fK_writeIntervals_74 (N : Nat) (n : Nat) (k8 : Int32 → Int32 → Int32 → Int32 → Int32 → me_M → Option (Int32 × me_M)) (l1 : Int32) (l2 : Int32) (l3 : Int32) (l4 : Int32) (l5 : Int32) (μ : me_M) : Option (Int32 × me_M) :=
  (fK_rowLength N n μ l2 l5).bind fun r12 =>
  k8 l1 l2 l3 l4 (l5 + (r12 + (1 : Int32))) μ
def fK_writeIntervals_8b (N : Nat) (n : Nat) (k8 : Int32 → Int32 → Int32 → Int32 → Int32 → me_M → Option (Int32 × me_M)) (l1 : Int32) (l2 : Int32) (l3 : Int32) (l4 : Int32) (l5 : Int32) (μ : me_M) : Option (Int32 × me_M) :=
  if (nI n) ≤ l5 then
    fK_writeIntervals_91 N n l1 l3 l4 μ
  else
    (fK_rowLength N n μ l2 l5).bind fun r14 =>
    if r14 < (μ.1 502 0) then
      fK_writeIntervals_74 N n k8 l1 l2 l3 l4 l5 μ
    else
      me_gi l3 12 <|
      me_gi l3 12 <|
      fK_writeIntervals_74 N n k8 l1 l2 (l3 + (1 : Int32)) (l4 &&& (((((1 : Int32) <<< (r14 &&& 31)) - (1 : Int32)) <<< (l5 &&& 31)) ^^^ (-1 : Int32))) l5 (me_wi (me_wi μ 8 l3.toNatClampNeg l5) 9 l3.toNatClampNeg r14)
def fK_writeIntervals_8 (N : Nat) (n : Nat) (F : Nat) : Int32 → Int32 → Int32 → Int32 → Int32 → me_M → Option (Int32 × me_M) := Nat.rec (motive := fun _ => Int32 → Int32 → Int32 → Int32 → Int32 → me_M → Option (Int32 × me_M)) (fun _ _ _ _ _ _ => none) (fun _ k8 => fK_writeIntervals_8b N n k8) F
def fK_writeIntervals (N : Nat) (n : Nat) (l1 : Int32) (l2 : Int32) (μ : me_M) : Option (Int32 × me_M) :=
  fK_writeIntervals_8 N n N l1 l2 (0 : Int32) l2 (0 : Int32) μ
def fK_writeSingles_67 (N : Nat) (n : Nat) (μ : me_M) : Option me_M :=
  some μ
def fK_writeSingles_61 (N : Nat) (n : Nat) (k5 : Int32 → Int32 → Int32 → Int32 → me_M → Option me_M) (l1 : Int32) (l2 : Int32) (l3 : Int32) (l4 : Int32) (μ : me_M) : Option me_M :=
  k5 l1 l2 l3 (l4 + (1 : Int32)) μ
def fK_writeSingles_48 (N : Nat) (n : Nat) (k5 : Int32 → Int32 → Int32 → Int32 → me_M → Option me_M) (l1 : Int32) (l2 : Int32) (l4 : Int32) (s1 : Int32) (μ : me_M) : Option me_M :=
  (fT_putZeta N n s1 (μ.1 503 0) μ).bind fun r1 =>
  fK_writeSingles_61 N n k5 l1 l2 l4 l4 r1
def fK_writeSingles_5b (N : Nat) (n : Nat) (k5 : Int32 → Int32 → Int32 → Int32 → me_M → Option me_M) (l1 : Int32) (l2 : Int32) (l3 : Int32) (l4 : Int32) (μ : me_M) : Option me_M :=
  if (nI n) ≤ l4 then
    fK_writeSingles_67 N n μ
  else
    (fA_holds N l2 l4).bind fun r3 =>
    if r3 = 0 then
      fK_writeSingles_61 N n k5 l1 l2 l3 l4 μ
    else
      if 0 ≤ l3 then
        fK_writeSingles_48 N n k5 l1 l2 l4 ((l4 - l3) - (1 : Int32)) μ
      else
        (fT_withoutSign N (l4 - l1)).bind fun r6 =>
        fK_writeSingles_48 N n k5 l1 l2 l4 r6 μ
def fK_writeSingles_5 (N : Nat) (n : Nat) (F : Nat) : Int32 → Int32 → Int32 → Int32 → me_M → Option me_M := Nat.rec (motive := fun _ => Int32 → Int32 → Int32 → Int32 → me_M → Option me_M) (fun _ _ _ _ _ => none) (fun _ k5 => fK_writeSingles_5b N n k5) F
def fK_writeSingles (N : Nat) (n : Nat) (l1 : Int32) (l2 : Int32) (μ : me_M) : Option me_M :=
  fK_writeSingles_5 N n N l1 l2 (-1 : Int32) (0 : Int32) μ
def fK_writeRecord_91 (N : Nat) (n : Nat) (l1 : Int32) (l3 : Int32) (μ : me_M) : Option me_M :=
  (fK_writeSingles N n l1 l3 μ).bind fun r1 =>
  some r1
def fK_writeRecord_70 (N : Nat) (n : Nat) (l1 : Int32) (l3 : Int32) (μ : me_M) : Option me_M :=
  if l3 = 0 then
    fK_writeRecord_91 N n l1 l3 μ
  else
    if (μ.1 502 0) ≤ 0 then
      fK_writeRecord_91 N n l1 l3 μ
    else
      (fK_writeIntervals N n l1 l3 μ).bind fun r4 =>
      fK_writeRecord_91 N n l1 r4.1 r4.2
def fK_writeRecord_40 (N : Nat) (n : Nat) (l1 : Int32) (l2 : Int32) (l3 : Int32) (μ : me_M) : Option me_M :=
  if l2 ≤ 0 then
    fK_writeRecord_70 N n l1 l3 μ
  else
    me_gi (l1 - l2) n <|
    (fK_writeRuns N n l3 (μ.1 1 (l1 - l2).toNatClampNeg) μ).bind fun r7 =>
    me_gi (l1 - l2) n <|
    fK_writeRecord_70 N n l1 (l3 &&& ((r7.1 1 (l1 - l2).toNatClampNeg) ^^^ (-1 : Int32))) r7
def fK_writeRecord (N : Nat) (n : Nat) (l1 : Int32) (l2 : Int32) (μ : me_M) : Option me_M :=
  me_gi l1 n <|
  (fJ_bitCount N (μ.1 1 l1.toNatClampNeg)).bind fun r10 =>
  (fT_putGamma N n r10 μ).bind fun r11 =>
  if (μ.1 1 l1.toNatClampNeg) = 0 then
    fK_writeRecord_40 N n l1 l2 (μ.1 1 l1.toNatClampNeg) r11
  else
    if (r11.1 500 0) ≤ 0 then
      fK_writeRecord_40 N n l1 l2 (μ.1 1 l1.toNatClampNeg) r11
    else
      (fT_putUnary N n l2 r11).bind fun r14 =>
      fK_writeRecord_40 N n l1 l2 (μ.1 1 l1.toNatClampNeg) r14
def fK_bestReference_116 (N : Nat) (n : Nat) (l3 : Int32) (μ : me_M) : Option (Int32 × me_M) :=
  some (l3, μ)
def fK_bestReference_110 (N : Nat) (n : Nat) (k44 : Int32 → Int32 → Int32 → Int32 → Int32 → Int32 → me_M → Option (Int32 × me_M)) (l1 : Int32) (l2 : Int32) (l3 : Int32) (l4 : Int32) (l5 : Int32) (l6 : Int32) (μ : me_M) : Option (Int32 × me_M) :=
  k44 l1 l2 l3 l4 l5 (l6 + (1 : Int32)) μ
def fK_bestReference_102 (N : Nat) (n : Nat) (k44 : Int32 → Int32 → Int32 → Int32 → Int32 → Int32 → me_M → Option (Int32 × me_M)) (l1 : Int32) (l2 : Int32) (l3 : Int32) (l4 : Int32) (l5 : Int32) (l6 : Int32) (μ : me_M) : Option (Int32 × me_M) :=
  fK_bestReference_110 N n k44 l1 l2 l3 l4 l5 l6 (me_wi μ 301 0 l2)
def fK_bestReference_67 (N : Nat) (n : Nat) (k44 : Int32 → Int32 → Int32 → Int32 → Int32 → Int32 → me_M → Option (Int32 × me_M)) (l1 : Int32) (l2 : Int32) (l3 : Int32) (l4 : Int32) (l5 : Int32) (l6 : Int32) (μ : me_M) : Option (Int32 × me_M) :=
  (fK_writeRecord N n l1 l6 μ).bind fun r1 =>
  if l4 ≤ ((r1.1 301 0) - l2) then
    fK_bestReference_102 N n k44 l1 l2 l3 l4 l5 l6 r1
  else
    fK_bestReference_102 N n k44 l1 l2 l6 ((r1.1 301 0) - l2) l5 l6 r1
def fK_bestReference_44b (N : Nat) (n : Nat) (k44 : Int32 → Int32 → Int32 → Int32 → Int32 → Int32 → me_M → Option (Int32 × me_M)) (l1 : Int32) (l2 : Int32) (l3 : Int32) (l4 : Int32) (l5 : Int32) (l6 : Int32) (μ : me_M) : Option (Int32 × me_M) :=
  if l5 < l6 then
    fK_bestReference_116 N n l3 μ
  else
    if l6 = 0 then
      fK_bestReference_67 N n k44 l1 l2 l3 l4 l5 l6 μ
    else
      (fK_mayBeReferredTo N n μ (l1 - l6)).bind fun r5 =>
      if r5 = 0 then
        fK_bestReference_110 N n k44 l1 l2 l3 l4 l5 l6 μ
      else
        fK_bestReference_67 N n k44 l1 l2 l3 l4 l5 l6 μ
def fK_bestReference_44 (N : Nat) (n : Nat) (F : Nat) : Int32 → Int32 → Int32 → Int32 → Int32 → Int32 → me_M → Option (Int32 × me_M) := Nat.rec (motive := fun _ => Int32 → Int32 → Int32 → Int32 → Int32 → Int32 → me_M → Option (Int32 × me_M)) (fun _ _ _ _ _ _ _ => none) (fun _ k44 => fK_bestReference_44b N n k44) F
def fK_bestReference_39 (N : Nat) (n : Nat) (l1 : Int32) (l2 : Int32) (l3 : Int32) (l4 : Int32) (s0 : Int32) (μ : me_M) : Option (Int32 × me_M) :=
  fK_bestReference_44 N n N l1 l2 l3 l4 s0 (0 : Int32) μ
def fK_bestReference (N : Nat) (n : Nat) (l1 : Int32) (μ : me_M) : Option (Int32 × me_M) :=
  me_gi l1 n <|
  if (μ.1 1 l1.toNatClampNeg) = 0 then
    fK_bestReference_39 N n l1 (μ.1 301 0) (0 : Int32) (800 : Int32) (0 : Int32) μ
  else
    fK_bestReference_39 N n l1 (μ.1 301 0) (0 : Int32) (800 : Int32) (if l1 < (μ.1 500 0) then l1 else (μ.1 500 0)) μ
def fK_writeAll_77 (N : Nat) (n : Nat) (μ : me_M) : Option me_M :=
  me_gi (nI n) (n + 1) <|
  some (me_wi μ 5 (nI n).toNatClampNeg (μ.1 301 0))
def fK_writeAll_70 (N : Nat) (n : Nat) (k10 : Int32 → me_M → Option me_M) (l1 : Int32) (s1 : Int32) (s2 : Int32) (μ : me_M) : Option me_M :=
  me_gi s1 n <|
  k10 (l1 + (1 : Int32)) (me_wi μ 10 s1.toNatClampNeg s2)
def fK_writeAll_10b (N : Nat) (n : Nat) (k10 : Int32 → me_M → Option me_M) (l1 : Int32) (μ : me_M) : Option me_M :=
  if (nI n) ≤ l1 then
    fK_writeAll_77 N n μ
  else
    me_gi l1 (n + 1) <|
    (fK_bestReference N n l1 (me_wi μ 5 l1.toNatClampNeg (μ.1 301 0))).bind fun r5 =>
    (fK_writeRecord N n l1 r5.1 r5.2).bind fun r6 =>
    if r5.1 = 0 then
      fK_writeAll_70 N n k10 l1 l1 (0 : Int32) r6
    else
      me_gi (l1 - r5.1) n <|
      fK_writeAll_70 N n k10 l1 l1 ((r6.1 10 (l1 - r5.1).toNatClampNeg) + (1 : Int32)) r6
def fK_writeAll_10 (N : Nat) (n : Nat) (F : Nat) : Int32 → me_M → Option me_M := Nat.rec (motive := fun _ => Int32 → me_M → Option me_M) (fun _ _ => none) (fun _ k10 => fK_writeAll_10b N n k10) F
def fK_writeAll (N : Nat) (n : Nat) (μ : me_M) : Option me_M :=
  fK_writeAll_10 N n N (0 : Int32) (me_wi μ 301 0 (0 : Int32))
def fD_nextBit_26 (N : Nat) (n : Nat) (μ : me_M) : Option (Int32 × me_M) :=
  if (μ.1 1209 0) = 0 then
    me_gi (((me_wi μ 1208 0 ((μ.1 1208 0) + (1 : Int32))).1 1208 0) - (1 : Int32)) 800 <|
    some ((me_wi μ 1208 0 ((μ.1 1208 0) + (1 : Int32))).1 3 (((me_wi μ 1208 0 ((μ.1 1208 0) + (1 : Int32))).1 1208 0) - (1 : Int32)).toNatClampNeg, me_wi μ 1208 0 ((μ.1 1208 0) + (1 : Int32)))
  else
    some ((1 : Int32), μ)
def fD_nextBit (N : Nat) (n : Nat) (μ : me_M) : Option (Int32 × me_M) :=
  if (μ.1 1209 0) = 0 then
    if (μ.1 1208 0) < (μ.1 301 0) then
      fD_nextBit_26 N n μ
    else
      fD_nextBit_26 N n (me_wi μ 1209 0 (1 : Int32))
  else
    fD_nextBit_26 N n μ
def fD_failIf_16 (N : Nat) (n : Nat) (μ : me_M) : Option me_M :=
  some μ
def fD_failIf (N : Nat) (n : Nat) (l1 : Int32) (l2 : Int32) (μ : me_M) : Option me_M :=
  if l1 = 0 then
    fD_failIf_16 N n μ
  else
    if (μ.1 1209 0) = 0 then
      fD_failIf_16 N n (me_wi μ 1209 0 l2)
    else
      fD_failIf_16 N n μ
def fD_nextUnary_24 (N : Nat) (n : Nat) (μ : me_M) : Option (Int32 × me_M) :=
  (fD_failIf N n (1 : Int32) (2 : Int32) μ).bind fun r1 =>
  some ((0 : Int32), r1)
def fD_nextUnary_2b (N : Nat) (n : Nat) (k2 : Int32 → me_M → Option (Int32 × me_M)) (l1 : Int32) (μ : me_M) : Option (Int32 × me_M) :=
  if (7 : Int32) ≤ l1 then
    fD_nextUnary_24 N n μ
  else
    (fD_nextBit N n μ).bind fun r3 =>
    if r3.1 = (1 : Int32) then
      some (l1, r3.2)
    else
      k2 (l1 + (1 : Int32)) r3.2
def fD_nextUnary_2 (N : Nat) (n : Nat) (F : Nat) : Int32 → me_M → Option (Int32 × me_M) := Nat.rec (motive := fun _ => Int32 → me_M → Option (Int32 × me_M)) (fun _ _ => none) (fun _ k2 => fD_nextUnary_2b N n k2) F
def fD_nextUnary (N : Nat) (n : Nat) (μ : me_M) : Option (Int32 × me_M) :=
  fD_nextUnary_2 N n N (0 : Int32) μ
def fD_nextNumber_26 (N : Nat) (n : Nat) (l3 : Int32) (μ : me_M) : Option (Int32 × me_M) :=
  some (l3, μ)
def fD_nextNumber_5b (N : Nat) (n : Nat) (k5 : Int32 → Int32 → Int32 → me_M → Option (Int32 × me_M)) (l2 : Int32) (l3 : Int32) (l4 : Int32) (μ : me_M) : Option (Int32 × me_M) :=
  if l2 ≤ l4 then
    fD_nextNumber_26 N n l3 μ
  else
    (fD_nextBit N n μ).bind fun r2 =>
    k5 l2 (((2 : Int32) * l3) + r2.1) (l4 + (1 : Int32)) r2.2
def fD_nextNumber_5 (N : Nat) (n : Nat) (F : Nat) : Int32 → Int32 → Int32 → me_M → Option (Int32 × me_M) := Nat.rec (motive := fun _ => Int32 → Int32 → Int32 → me_M → Option (Int32 × me_M)) (fun _ _ _ _ => none) (fun _ k5 => fD_nextNumber_5b N n k5) F
def fD_nextNumber (N : Nat) (n : Nat) (l1 : Int32) (l2 : Int32) (μ : me_M) : Option (Int32 × me_M) :=
  fD_nextNumber_5 N n N l2 l1 (0 : Int32) μ
def fD_nextGamma (N : Nat) (n : Nat) (μ : me_M) : Option (Int32 × me_M) :=
  (fD_nextUnary N n μ).bind fun r1 =>
  (fD_nextNumber N n (1 : Int32) r1.1 r1.2).bind fun r2 =>
  some (r2.1 - (1 : Int32), r2.2)
def fD_goesOn_19 (N : Nat) (n : Nat) (μ : me_M) (s0 : Int32) : Option Int32 :=
  me_gz s0 <|
  some s0
def fD_goesOn_18 (N : Nat) (n : Nat) (μ : me_M) : Option Int32 :=
  fD_goesOn_19 N n μ (0 : Int32)
def fD_goesOn (N : Nat) (n : Nat) (μ : me_M) : Option Int32 :=
  if (μ.1 1209 0) = 0 then
    if (μ.1 1212 0) ≤ 0 then
      fD_goesOn_18 N n μ
    else
      fD_goesOn_19 N n μ (1 : Int32)
  else
    fD_goesOn_18 N n μ
def fD_readReference_102 (N : Nat) (n : Nat) (μ : me_M) : Option me_M :=
  some μ
def fD_readReference_98 (N : Nat) (n : Nat) (s1 : Int32) (μ : me_M) : Option me_M :=
  (fD_failIf N n s1 (5 : Int32) μ).bind fun r1 =>
  fD_readReference_102 N n r1
def fD_readReference_93 (N : Nat) (n : Nat) (μ : me_M) : Option me_M :=
  fD_readReference_98 N n (1 : Int32) μ
def fD_readReference_39 (N : Nat) (n : Nat) (s1 : Int32) (μ : me_M) : Option me_M :=
  (fD_failIf N n s1 (4 : Int32) μ).bind fun r2 =>
  if (r2.1 1209 0) = 0 then
    if (r2.1 1210 0) ≤ 0 then
      fD_readReference_102 N n r2
    else
      me_gi ((r2.1 1207 0) - (r2.1 1210 0)) n <|
      if (r2.1 13 ((r2.1 1207 0) - (r2.1 1210 0)).toNatClampNeg) = 0 then
        me_gi ((r2.1 1207 0) - (r2.1 1210 0)) n <|
        if (r2.1 15 ((r2.1 1207 0) - (r2.1 1210 0)).toNatClampNeg) < (r2.1 501 0) then
          fD_readReference_98 N n (0 : Int32) r2
        else
          fD_readReference_93 N n r2
      else
        fD_readReference_93 N n r2
  else
    fD_readReference_102 N n r2
def fD_readReference_34 (N : Nat) (n : Nat) (μ : me_M) : Option me_M :=
  fD_readReference_39 N n (1 : Int32) μ
def fD_readReference (N : Nat) (n : Nat) (μ : me_M) : Option me_M :=
  (fD_nextUnary N n μ).bind fun r9 =>
  if ((me_wi r9.2 1210 0 r9.1).1 500 0) < ((me_wi r9.2 1210 0 r9.1).1 1210 0) then
    fD_readReference_34 N n (me_wi r9.2 1210 0 r9.1)
  else
    if ((me_wi r9.2 1210 0 r9.1).1 1210 0) ≤ ((me_wi r9.2 1210 0 r9.1).1 1207 0) then
      fD_readReference_39 N n (0 : Int32) (me_wi r9.2 1210 0 r9.1)
    else
      fD_readReference_34 N n (me_wi r9.2 1210 0 r9.1)
def fD_lowest_25 (N : Nat) (l0 : Int32) (l2 : Int32) : Option Int32 :=
  some (l0 &&& (l2 ^^^ (-1 : Int32)))
def fD_lowest_4b (N : Nat) (k4 : Int32 → Int32 → Int32 → Int32 → Option Int32) (l0 : Int32) (l1 : Int32) (l2 : Int32) (l3 : Int32) : Option Int32 :=
  if l1 ≤ l3 then
    fD_lowest_25 N l0 l2
  else
    if l2 = 0 then
      fD_lowest_25 N l0 l2
    else
      k4 l0 l1 (l2 &&& (l2 - (1 : Int32))) (l3 + (1 : Int32))
def fD_lowest_4 (N : Nat) (F : Nat) : Int32 → Int32 → Int32 → Int32 → Option Int32 := Nat.rec (motive := fun _ => Int32 → Int32 → Int32 → Int32 → Option Int32) (fun _ _ _ _ => none) (fun _ k4 => fD_lowest_4b N k4) F
def fD_lowest (N : Nat) (l0 : Int32) (l1 : Int32) : Option Int32 :=
  fD_lowest_4 N N l0 l1 l0 (0 : Int32)
def fD_take_22 (N : Nat) (n : Nat) (l1 : Int32) (s1 : Int32) (μ : me_M) : Option me_M :=
  me_gz s1 <|
  (fJ_bitCount N l1).bind fun r2 =>
  some (me_wi (me_wi (me_wi μ 1213 0 s1) 1211 0 (((me_wi μ 1213 0 s1).1 1211 0) ||| l1)) 1212 0 (((me_wi (me_wi μ 1213 0 s1) 1211 0 (((me_wi μ 1213 0 s1).1 1211 0) ||| l1)).1 1212 0) - r2))
def fD_take_17 (N : Nat) (n : Nat) (l1 : Int32) (μ : me_M) : Option me_M :=
  fD_take_22 N n l1 (1 : Int32) μ
def fD_take (N : Nat) (n : Nat) (l1 : Int32) (μ : me_M) : Option me_M :=
  if (μ.1 1213 0) = 0 then
    if ((μ.1 1211 0) &&& l1) = 0 then
      fD_take_22 N n l1 (0 : Int32) μ
    else
      fD_take_17 N n l1 μ
  else
    fD_take_17 N n l1 μ
def fD_readRuns_128 (N : Nat) (n : Nat) (l2 : Int32) (s1 : Int32) (μ : me_M) : Option me_M :=
  (fD_failIf N n s1 (6 : Int32) μ).bind fun r1 =>
  (fD_take N n l2 r1).bind fun r2 =>
  some r2
def fD_readRuns_111 (N : Nat) (n : Nat) (l2 : Int32) (μ : me_M) : Option me_M :=
  (fJ_bitCount N l2).bind fun r3 =>
  if r3 ≤ (μ.1 1212 0) then
    fD_readRuns_128 N n l2 (0 : Int32) μ
  else
    fD_readRuns_128 N n l2 (1 : Int32) μ
def fD_readRuns_100 (N : Nat) (n : Nat) (l2 : Int32) (l3 : Int32) (l4 : Int32) (μ : me_M) : Option me_M :=
  if (l4 - l4 / (2 : Int32) * (2 : Int32)) = 0 then
    fD_readRuns_111 N n (l2 ||| l3) μ
  else
    fD_readRuns_111 N n l2 μ
def fD_readRuns_94 (N : Nat) (n : Nat) (k13 : Int32 → Int32 → Int32 → Int32 → me_M → Option me_M) (l2 : Int32) (l3 : Int32) (l4 : Int32) (l5 : Int32) (μ : me_M) : Option me_M :=
  k13 l2 l3 l4 (l5 + (1 : Int32)) μ
def fD_readRuns_62 (N : Nat) (n : Nat) (k13 : Int32 → Int32 → Int32 → Int32 → me_M → Option me_M) (l2 : Int32) (l3 : Int32) (l4 : Int32) (l5 : Int32) (l6 : Int32) (s1 : Int32) (μ : me_M) : Option me_M :=
  (fD_failIf N n s1 (6 : Int32) μ).bind fun r7 =>
  (fD_lowest N l3 l6).bind fun r8 =>
  if (l5 - l5 / (2 : Int32) * (2 : Int32)) = 0 then
    fD_readRuns_94 N n k13 (l2 ||| r8) (l3 &&& (r8 ^^^ (-1 : Int32))) l4 l5 r7
  else
    fD_readRuns_94 N n k13 l2 (l3 &&& (r8 ^^^ (-1 : Int32))) l4 l5 r7
def fD_readRuns_45 (N : Nat) (n : Nat) (k13 : Int32 → Int32 → Int32 → Int32 → me_M → Option me_M) (l2 : Int32) (l3 : Int32) (l4 : Int32) (l5 : Int32) (s0 : Int32) (μ : me_M) : Option me_M :=
  (fJ_bitCount N l3).bind fun r11 =>
  if s0 ≤ r11 then
    fD_readRuns_62 N n k13 l2 l3 l4 l5 s0 (0 : Int32) μ
  else
    fD_readRuns_62 N n k13 l2 l3 l4 l5 s0 (1 : Int32) μ
def fD_readRuns_13b (N : Nat) (n : Nat) (k13 : Int32 → Int32 → Int32 → Int32 → me_M → Option me_M) (l2 : Int32) (l3 : Int32) (l4 : Int32) (l5 : Int32) (μ : me_M) : Option me_M :=
  if l4 ≤ l5 then
    fD_readRuns_100 N n l2 l3 l4 μ
  else
    if (μ.1 1209 0) = 0 then
      if l5 = 0 then
        (fD_nextGamma N n μ).bind fun r17 =>
        fD_readRuns_45 N n k13 l2 l3 l4 l5 r17.1 r17.2
      else
        (fD_nextGamma N n μ).bind fun r16 =>
        fD_readRuns_45 N n k13 l2 l3 l4 l5 (r16.1 + (1 : Int32)) r16.2
    else
      fD_readRuns_100 N n l2 l3 l4 μ
def fD_readRuns_13 (N : Nat) (n : Nat) (F : Nat) : Int32 → Int32 → Int32 → Int32 → me_M → Option me_M := Nat.rec (motive := fun _ => Int32 → Int32 → Int32 → Int32 → me_M → Option me_M) (fun _ _ _ _ _ => none) (fun _ k13 => fD_readRuns_13b N n k13) F
def fD_readRuns (N : Nat) (n : Nat) (l1 : Int32) (μ : me_M) : Option me_M :=
  (fD_nextGamma N n μ).bind fun r18 =>
  fD_readRuns_13 N n N (0 : Int32) l1 r18.1 (0 : Int32) r18.2
def fA_within_15 (N : Nat) (s0 : Int32) : Option Int32 :=
  me_gz s0 <|
  some s0
def fA_within_14 (N : Nat) : Option Int32 :=
  fA_within_15 N (0 : Int32)
def fA_within (N : Nat) (l0 : Int32) (l1 : Int32) (l2 : Int32) : Option Int32 :=
  if l0 < l1 then
    fA_within_14 N
  else
    if l2 < l0 then
      fA_within_14 N
    else
      fA_within_15 N (1 : Int32)
def fD_readIntervals_154 (N : Nat) (n : Nat) (μ : me_M) : Option me_M :=
  some μ
def fD_readIntervals_148 (N : Nat) (n : Nat) (k9 : Int32 → Int32 → Int32 → me_M → Option me_M) (l1 : Int32) (l2 : Int32) (l3 : Int32) (μ : me_M) : Option me_M :=
  k9 l1 l2 (l3 + (1 : Int32)) μ
def fD_readIntervals_123 (N : Nat) (n : Nat) (k9 : Int32 → Int32 → Int32 → me_M → Option me_M) (l1 : Int32) (l2 : Int32) (l3 : Int32) (l4 : Int32) (l5 : Int32) (s1 : Int32) (μ : me_M) : Option me_M :=
  (fD_failIf N n s1 (7 : Int32) μ).bind fun r1 =>
  if (r1.1 1209 0) = 0 then
    (fD_take N n ((((1 : Int32) <<< (l5 &&& 31)) - (1 : Int32)) <<< (l4 &&& 31)) r1).bind fun r3 =>
    fD_readIntervals_148 N n k9 l1 l2 l3 r3
  else
    fD_readIntervals_148 N n k9 l1 l2 l3 r1
def fD_readIntervals_118 (N : Nat) (n : Nat) (k9 : Int32 → Int32 → Int32 → me_M → Option me_M) (l1 : Int32) (l2 : Int32) (l3 : Int32) (l4 : Int32) (l5 : Int32) (μ : me_M) : Option me_M :=
  fD_readIntervals_123 N n k9 l1 l2 l3 l4 l5 (1 : Int32) μ
def fD_readIntervals_71 (N : Nat) (n : Nat) (k9 : Int32 → Int32 → Int32 → me_M → Option me_M) (l1 : Int32) (l3 : Int32) (l4 : Int32) (s1 : Int32) (μ : me_M) : Option me_M :=
  (fD_failIf N n s1 (7 : Int32) μ).bind fun r4 =>
  (fD_nextGamma N n r4).bind fun r5 =>
  if ((nI n) - (1 : Int32)) < ((l4 + (r5.1 + (r5.2.1 502 0))) - (1 : Int32)) then
    fD_readIntervals_118 N n k9 l1 ((l4 + (r5.1 + (r5.2.1 502 0))) - (1 : Int32)) l3 l4 (r5.1 + (r5.2.1 502 0)) r5.2
  else
    if (r5.1 + (r5.2.1 502 0)) ≤ (r5.2.1 1212 0) then
      fD_readIntervals_123 N n k9 l1 ((l4 + (r5.1 + (r5.2.1 502 0))) - (1 : Int32)) l3 l4 (r5.1 + (r5.2.1 502 0)) (0 : Int32) r5.2
    else
      fD_readIntervals_118 N n k9 l1 ((l4 + (r5.1 + (r5.2.1 502 0))) - (1 : Int32)) l3 l4 (r5.1 + (r5.2.1 502 0)) r5.2
def fD_readIntervals_48 (N : Nat) (n : Nat) (k9 : Int32 → Int32 → Int32 → me_M → Option me_M) (l1 : Int32) (l3 : Int32) (s0 : Int32) (μ : me_M) : Option me_M :=
  (fA_within N s0 (0 : Int32) ((nI n) - (1 : Int32))).bind fun r8 =>
  if r8 = 0 then
    fD_readIntervals_71 N n k9 l1 l3 s0 (1 : Int32) μ
  else
    fD_readIntervals_71 N n k9 l1 l3 s0 (0 : Int32) μ
def fD_readIntervals_9b (N : Nat) (n : Nat) (k9 : Int32 → Int32 → Int32 → me_M → Option me_M) (l1 : Int32) (l2 : Int32) (l3 : Int32) (μ : me_M) : Option me_M :=
  if l1 ≤ l3 then
    fD_readIntervals_154 N n μ
  else
    if (μ.1 1209 0) = 0 then
      if l3 = 0 then
        (fD_nextGamma N n μ).bind fun r14 =>
        (fT_withSign N r14.1).bind fun r15 =>
        fD_readIntervals_48 N n k9 l1 l3 ((μ.1 1207 0) + r15) r14.2
      else
        (fD_nextGamma N n μ).bind fun r13 =>
        fD_readIntervals_48 N n k9 l1 l3 ((l2 + (2 : Int32)) + r13.1) r13.2
    else
      fD_readIntervals_154 N n μ
def fD_readIntervals_9 (N : Nat) (n : Nat) (F : Nat) : Int32 → Int32 → Int32 → me_M → Option me_M := Nat.rec (motive := fun _ => Int32 → Int32 → Int32 → me_M → Option me_M) (fun _ _ _ _ => none) (fun _ k9 => fD_readIntervals_9b N n k9) F
def fD_readIntervals (N : Nat) (n : Nat) (μ : me_M) : Option me_M :=
  (fD_nextGamma N n μ).bind fun r16 =>
  fD_readIntervals_9 N n N r16.1 (0 : Int32) (0 : Int32) r16.2
def fD_nextZeta_63 (N : Nat) (n : Nat) (s0 : Int32) (μ : me_M) : Option (Int32 × me_M) :=
  some (s0, μ)
def fD_nextZeta (N : Nat) (n : Nat) (μ : me_M) : Option (Int32 × me_M) :=
  (fD_nextUnary N n μ).bind fun r1 =>
  (fD_nextNumber N n (0 : Int32) (((r1.1 * (r1.2.1 503 0)) + (r1.2.1 503 0)) - (1 : Int32)) r1.2).bind fun r2 =>
  if ((1 : Int32) <<< ((r1.1 * (r1.2.1 503 0)) &&& 31)) ≤ r2.1 then
    (fD_nextNumber N n r2.1 (1 : Int32) r2.2).bind fun r4 =>
    fD_nextZeta_63 N n (r4.1 - (1 : Int32)) r4.2
  else
    fD_nextZeta_63 N n ((r2.1 + ((1 : Int32) <<< ((r1.1 * (r1.2.1 503 0)) &&& 31))) - (1 : Int32)) r2.2
def fD_readSingles_94 (N : Nat) (n : Nat) (μ : me_M) : Option me_M :=
  some μ
def fD_readSingles_88 (N : Nat) (n : Nat) (k9 : Int32 → Int32 → Int32 → me_M → Option me_M) (l1 : Int32) (l2 : Int32) (l3 : Int32) (μ : me_M) : Option me_M :=
  k9 l1 l2 (l3 + (1 : Int32)) μ
def fD_readSingles_69 (N : Nat) (n : Nat) (k9 : Int32 → Int32 → Int32 → me_M → Option me_M) (l1 : Int32) (l2 : Int32) (l3 : Int32) (s1 : Int32) (μ : me_M) : Option me_M :=
  (fD_failIf N n s1 (8 : Int32) μ).bind fun r1 =>
  if (r1.1 1209 0) = 0 then
    (fD_take N n ((1 : Int32) <<< (l2 &&& 31)) r1).bind fun r3 =>
    fD_readSingles_88 N n k9 l1 l2 l3 r3
  else
    fD_readSingles_88 N n k9 l1 l2 l3 r1
def fD_readSingles_48 (N : Nat) (n : Nat) (k9 : Int32 → Int32 → Int32 → me_M → Option me_M) (l1 : Int32) (l3 : Int32) (s0 : Int32) (μ : me_M) : Option me_M :=
  (fA_within N s0 (0 : Int32) ((nI n) - (1 : Int32))).bind fun r4 =>
  if r4 = 0 then
    fD_readSingles_69 N n k9 l1 s0 l3 (1 : Int32) μ
  else
    fD_readSingles_69 N n k9 l1 s0 l3 (0 : Int32) μ
def fD_readSingles_9b (N : Nat) (n : Nat) (k9 : Int32 → Int32 → Int32 → me_M → Option me_M) (l1 : Int32) (l2 : Int32) (l3 : Int32) (μ : me_M) : Option me_M :=
  if l1 ≤ l3 then
    fD_readSingles_94 N n μ
  else
    if (μ.1 1209 0) = 0 then
      if l3 = 0 then
        (fD_nextZeta N n μ).bind fun r10 =>
        (fT_withSign N r10.1).bind fun r11 =>
        fD_readSingles_48 N n k9 l1 l3 ((μ.1 1207 0) + r11) r10.2
      else
        (fD_nextZeta N n μ).bind fun r9 =>
        fD_readSingles_48 N n k9 l1 l3 ((l2 + (1 : Int32)) + r9.1) r9.2
    else
      fD_readSingles_94 N n μ
def fD_readSingles_9 (N : Nat) (n : Nat) (F : Nat) : Int32 → Int32 → Int32 → me_M → Option me_M := Nat.rec (motive := fun _ => Int32 → Int32 → Int32 → me_M → Option me_M) (fun _ _ _ _ => none) (fun _ k9 => fD_readSingles_9b N n k9) F
def fD_readSingles (N : Nat) (n : Nat) (μ : me_M) : Option me_M :=
  fD_readSingles_9 N n N (μ.1 1212 0) (0 : Int32) (0 : Int32) μ
def fD_readRecord_151 (N : Nat) (n : Nat) (s1 : Int32) (μ : me_M) : Option me_M :=
  (fD_failIf N n s1 (10 : Int32) μ).bind fun r1 =>
  some r1
def fD_readRecord_114 (N : Nat) (n : Nat) (μ : me_M) : Option me_M :=
  (fD_failIf N n (μ.1 1213 0) (9 : Int32) μ).bind fun r2 =>
  me_gi ((r2.1 1207 0) + (1 : Int32)) (n + 1) <|
  if (r2.1 1208 0) = (r2.1 5 ((r2.1 1207 0) + (1 : Int32)).toNatClampNeg) then
    fD_readRecord_151 N n (0 : Int32) r2
  else
    fD_readRecord_151 N n (1 : Int32) r2
def fD_readRecord_103 (N : Nat) (n : Nat) (μ : me_M) : Option me_M :=
  (fD_goesOn N n μ).bind fun r5 =>
  if r5 = 0 then
    fD_readRecord_114 N n μ
  else
    (fD_readSingles N n μ).bind fun r7 =>
    fD_readRecord_114 N n r7
def fD_readRecord_82 (N : Nat) (n : Nat) (μ : me_M) : Option me_M :=
  (fD_goesOn N n μ).bind fun r8 =>
  if r8 = 0 then
    fD_readRecord_103 N n μ
  else
    if (μ.1 502 0) ≤ 0 then
      fD_readRecord_103 N n μ
    else
      (fD_readIntervals N n μ).bind fun r11 =>
      fD_readRecord_103 N n r11
def fD_readRecord_50 (N : Nat) (n : Nat) (μ : me_M) : Option me_M :=
  (fD_goesOn N n μ).bind fun r12 =>
  if r12 = 0 then
    fD_readRecord_82 N n μ
  else
    if (μ.1 1210 0) ≤ 0 then
      fD_readRecord_82 N n μ
    else
      me_gi ((μ.1 1207 0) - (μ.1 1210 0)) n <|
      (fD_readRuns N n (μ.1 12 ((μ.1 1207 0) - (μ.1 1210 0)).toNatClampNeg) μ).bind fun r16 =>
      fD_readRecord_82 N n r16
def fD_readRecord_25 (N : Nat) (n : Nat) (s1 : Int32) (μ : me_M) : Option me_M :=
  (fD_failIf N n s1 (3 : Int32) μ).bind fun r17 =>
  (fD_goesOn N n r17).bind fun r18 =>
  if r18 = 0 then
    fD_readRecord_50 N n r17
  else
    if (r17.1 500 0) ≤ 0 then
      fD_readRecord_50 N n r17
    else
      (fD_readReference N n r17).bind fun r21 =>
      fD_readRecord_50 N n r21
def fD_readRecord (N : Nat) (n : Nat) (μ : me_M) : Option me_M :=
  (fD_nextGamma N n μ).bind fun r22 =>
  if ((me_wi r22.2 1212 0 r22.1).1 1212 0) ≤ (nI n) then
    fD_readRecord_25 N n (0 : Int32) (me_wi r22.2 1212 0 r22.1)
  else
    fD_readRecord_25 N n (1 : Int32) (me_wi r22.2 1212 0 r22.1)
def fD_readAll_144 (N : Nat) (n : Nat) (μ : me_M) : Option me_M :=
  some μ
def fD_readAll_137 (N : Nat) (n : Nat) (k2 : Int32 → me_M → Option me_M) (l1 : Int32) (s1 : Int32) (s2 : Int32) (μ : me_M) : Option me_M :=
  me_gi s1 n <|
  k2 (l1 + (1 : Int32)) (me_wi μ 15 s1.toNatClampNeg s2)
def fD_readAll_103 (N : Nat) (n : Nat) (k2 : Int32 → me_M → Option me_M) (l1 : Int32) (s1 : Int32) (s2 : Int32) (μ : me_M) : Option me_M :=
  me_gi s1 n <|
  me_gi l1 n <|
  if ((me_wi μ 14 s1.toNatClampNeg s2).1 14 l1.toNatClampNeg) = 0 then
    fD_readAll_137 N n k2 l1 l1 (0 : Int32) (me_wi μ 14 s1.toNatClampNeg s2)
  else
    me_gi l1 n <|
    me_gi (l1 - ((me_wi μ 14 s1.toNatClampNeg s2).1 14 l1.toNatClampNeg)) n <|
    fD_readAll_137 N n k2 l1 l1 (((me_wi μ 14 s1.toNatClampNeg s2).1 15 (l1 - ((me_wi μ 14 s1.toNatClampNeg s2).1 14 l1.toNatClampNeg)).toNatClampNeg) + (1 : Int32)) (me_wi μ 14 s1.toNatClampNeg s2)
def fD_readAll_82 (N : Nat) (n : Nat) (k2 : Int32 → me_M → Option me_M) (l1 : Int32) (s1 : Int32) (s2 : Int32) (μ : me_M) : Option me_M :=
  me_gi s1 n <|
  if ((me_wi μ 12 s1.toNatClampNeg s2).1 1209 0) = 0 then
    fD_readAll_103 N n k2 l1 l1 ((me_wi μ 12 s1.toNatClampNeg s2).1 1210 0) (me_wi μ 12 s1.toNatClampNeg s2)
  else
    fD_readAll_103 N n k2 l1 l1 (0 : Int32) (me_wi μ 12 s1.toNatClampNeg s2)
def fD_readAll_2b (N : Nat) (n : Nat) (k2 : Int32 → me_M → Option me_M) (l1 : Int32) (μ : me_M) : Option me_M :=
  if (nI n) ≤ l1 then
    fD_readAll_144 N n μ
  else
    me_gi l1 (n + 1) <|
    (fD_readRecord N n (me_wi (me_wi (me_wi (me_wi (me_wi (me_wi μ 1207 0 l1) 1208 0 ((me_wi μ 1207 0 l1).1 5 l1.toNatClampNeg)) 1209 0 (0 : Int32)) 1210 0 (0 : Int32)) 1211 0 (0 : Int32)) 1213 0 (0 : Int32))).bind fun r11 =>
    me_gi l1 n <|
    if ((me_wi r11 13 l1.toNatClampNeg (r11.1 1209 0)).1 1209 0) = 0 then
      fD_readAll_82 N n k2 l1 l1 ((me_wi r11 13 l1.toNatClampNeg (r11.1 1209 0)).1 1211 0) (me_wi r11 13 l1.toNatClampNeg (r11.1 1209 0))
    else
      fD_readAll_82 N n k2 l1 l1 (0 : Int32) (me_wi r11 13 l1.toNatClampNeg (r11.1 1209 0))
def fD_readAll_2 (N : Nat) (n : Nat) (F : Nat) : Int32 → me_M → Option me_M := Nat.rec (motive := fun _ => Int32 → me_M → Option me_M) (fun _ _ => none) (fun _ k2 => fD_readAll_2b N n k2) F
def fD_readAll (N : Nat) (n : Nat) (μ : me_M) : Option me_M :=
  fD_readAll_2 N n N (0 : Int32) μ
def fO_quotient_13 (N : Nat) (s0 : Int64) : Option Int64 :=
  some s0
def fO_quotient (N : Nat) (l0 : Int64) (l2 : Int64) : Option Int64 :=
  if (lg_cmp l2 (0 : Int64)) = 0 then
    fO_quotient_13 N (0 : Int64)
  else
    me_gd l2 0 <|
    fO_quotient_13 N (l0 / l2)
def fO_begin_85 (N : Nat) (n : Nat) (μ : me_M) : Option me_M :=
  some μ
def fO_begin_78 (N : Nat) (n : Nat) (k17 : Int32 → me_M → Option me_M) (l3 : Int32) (s1 : Int32) (s2 : Int64) (μ : me_M) : Option me_M :=
  me_gi s1 n <|
  k17 (l3 + (1 : Int32)) (me_wl μ 21 s1.toNatClampNeg s2)
def fO_begin_57 (N : Nat) (n : Nat) (k17 : Int32 → me_M → Option me_M) (l3 : Int32) (s1 : Int32) (s2 : Int64) (μ : me_M) : Option me_M :=
  me_gi s1 n <|
  if ((me_wl μ 20 s1.toNatClampNeg s2).1 2006 0) = (1 : Int32) then
    fO_begin_78 N n k17 l3 l3 (1000000 : Int64) (me_wl μ 20 s1.toNatClampNeg s2)
  else
    fO_begin_78 N n k17 l3 l3 (0 : Int64) (me_wl μ 20 s1.toNatClampNeg s2)
def fO_begin_17b (N : Nat) (n : Nat) (k17 : Int32 → me_M → Option me_M) (l3 : Int32) (μ : me_M) : Option me_M :=
  if (nI n) ≤ l3 then
    fO_begin_85 N n μ
  else
    if (μ.1 2006 0) = (1 : Int32) then
      fO_begin_57 N n k17 l3 l3 (1000000 : Int64) μ
    else
      (fO_quotient N (1000000000000 : Int64) ((nI n).toInt64)).bind fun r6 =>
      fO_begin_57 N n k17 l3 l3 r6 μ
def fO_begin_17 (N : Nat) (n : Nat) (F : Nat) : Int32 → me_M → Option me_M := Nat.rec (motive := fun _ => Int32 → me_M → Option me_M) (fun _ _ => none) (fun _ k17 => fO_begin_17b N n k17) F
def fO_begin (N : Nat) (n : Nat) (l1 : Int32) (l2 : Int32) (μ : me_M) : Option me_M :=
  fO_begin_17 N n N (0 : Int32) (me_wl (me_wi (me_wi μ 2006 0 l1) 2007 0 l2) 2003 0 (0 : Int64))
def fA_isNode (N : Nat) (n : Nat) (μ : me_M) (l1 : Int32) : Option Int32 :=
  (fA_within N l1 (0 : Int32) ((nI n) - (1 : Int32))).bind fun r1 =>
  me_gz r1 <|
  some r1
def fA_add_29 (N : Nat) (n : Nat) (μ : me_M) : Option (Int32 × me_M) :=
  me_gz (0 : Int32) <|
  some ((0 : Int32), μ)
def fA_add (N : Nat) (n : Nat) (l1 : Int32) (l2 : Int32) (μ : me_M) : Option (Int32 × me_M) :=
  (fA_isNode N n μ l1).bind fun r2 =>
  if r2 = 0 then
    fA_add_29 N n μ
  else
    (fA_isNode N n μ l2).bind fun r4 =>
    if r4 = 0 then
      fA_add_29 N n μ
    else
      me_gi l1 n <|
      (fA_holds N (μ.1 1 l1.toNatClampNeg) l2).bind fun r7 =>
      if r7 = 0 then
        me_gi l1 n <|
        me_gi l1 n <|
        me_gz (1 : Int32) <|
        some ((1 : Int32), me_wi μ 1 l1.toNatClampNeg ((μ.1 1 l1.toNatClampNeg) ||| ((1 : Int32) <<< (l2 &&& 31))))
      else
        fA_add_29 N n μ
def fA_drop_29 (N : Nat) (n : Nat) (μ : me_M) : Option (Int32 × me_M) :=
  me_gz (0 : Int32) <|
  some ((0 : Int32), μ)
def fA_drop (N : Nat) (n : Nat) (l1 : Int32) (l2 : Int32) (μ : me_M) : Option (Int32 × me_M) :=
  (fA_isNode N n μ l1).bind fun r2 =>
  if r2 = 0 then
    fA_drop_29 N n μ
  else
    (fA_isNode N n μ l2).bind fun r4 =>
    if r4 = 0 then
      fA_drop_29 N n μ
    else
      me_gi l1 n <|
      (fA_holds N (μ.1 1 l1.toNatClampNeg) l2).bind fun r7 =>
      if r7 = 0 then
        fA_drop_29 N n μ
      else
        me_gi l1 n <|
        me_gi l1 n <|
        me_gz (1 : Int32) <|
        some ((1 : Int32), me_wi μ 1 l1.toNatClampNeg ((μ.1 1 l1.toNatClampNeg) &&& (((1 : Int32) <<< (l2 &&& 31)) ^^^ (-1 : Int32))))
def fA_pack_39 (N : Nat) (n : Nat) (μ : me_M) : Option (Int32 × me_M) :=
  some ((-1 : Int32), μ)
def fA_pack (N : Nat) (n : Nat) (l1 : Int32) (l2 : Int32) (l3 : Int32) (l4 : Int32) (μ : me_M) : Option (Int32 × me_M) :=
  (fA_within N l1 (0 : Int32) (6 : Int32)).bind fun r1 =>
  if r1 = 0 then
    fA_pack_39 N n μ
  else
    (fA_within N l2 (0 : Int32) (3 : Int32)).bind fun r3 =>
    if r3 = 0 then
      fA_pack_39 N n μ
    else
      (fA_within N l3 (0 : Int32) (9 : Int32)).bind fun r5 =>
      if r5 = 0 then
        fA_pack_39 N n μ
      else
        (fA_within N l4 (1 : Int32) (4 : Int32)).bind fun r7 =>
        if r7 = 0 then
          fA_pack_39 N n μ
        else
          (fK_writeAll N n (me_wi (me_wi (me_wi (me_wi μ 500 0 l1) 501 0 l2) 502 0 l3) 503 0 l4)).bind fun r9 =>
          (fD_readAll N n r9).bind fun r10 =>
          some (r10.1 301 0, r10)
def fA_offset_25 (N : Nat) (n : Nat) (μ : me_M) (s0 : Int32) : Option Int32 :=
  some s0
def fA_offset (N : Nat) (n : Nat) (μ : me_M) (l1 : Int32) : Option Int32 :=
  (fA_within N l1 (0 : Int32) (nI n)).bind fun r1 =>
  if r1 = 0 then
    fA_offset_25 N n μ (-1 : Int32)
  else
    me_gi l1 (n + 1) <|
    fA_offset_25 N n μ (μ.1 5 l1.toNatClampNeg)
def fA_isPlace (N : Nat) (n : Nat) (μ : me_M) (l1 : Int32) : Option Int32 :=
  (fA_within N l1 (0 : Int32) ((μ.1 301 0) - (1 : Int32))).bind fun r1 =>
  me_gz r1 <|
  some r1
def fA_bit_21 (N : Nat) (n : Nat) (μ : me_M) (s0 : Int32) : Option Int32 :=
  some s0
def fA_bit (N : Nat) (n : Nat) (μ : me_M) (l1 : Int32) : Option Int32 :=
  (fA_isPlace N n μ l1).bind fun r1 =>
  if r1 = 0 then
    fA_bit_21 N n μ (-1 : Int32)
  else
    me_gi l1 800 <|
    fA_bit_21 N n μ (μ.1 3 l1.toNatClampNeg)
def fA_flip (N : Nat) (n : Nat) (l1 : Int32) (μ : me_M) : Option (Int32 × me_M) :=
  (fA_isPlace N n μ l1).bind fun r1 =>
  if r1 = 0 then
    me_gz (0 : Int32) <|
    some ((0 : Int32), μ)
  else
    me_gi l1 800 <|
    me_gi l1 800 <|
    (fD_readAll N n (me_wi μ 3 l1.toNatClampNeg (vp_nar .byte (((1 : Int32) - (μ.1 3 l1.toNatClampNeg)).toInt8.toInt32)))).bind fun r5 =>
    me_gz (1 : Int32) <|
    some ((1 : Int32), r5)
def fA_degree_48 (N : Nat) (n : Nat) (μ : me_M) (s0 : Int32) : Option Int32 :=
  some s0
def fA_degree (N : Nat) (n : Nat) (μ : me_M) (l1 : Int32) : Option Int32 :=
  (fA_isNode N n μ l1).bind fun r1 =>
  if r1 = 0 then
    some (-100 : Int32)
  else
    me_gi l1 n <|
    if (μ.1 13 l1.toNatClampNeg) = 0 then
      me_gi l1 n <|
      (fJ_bitCount N (μ.1 12 l1.toNatClampNeg)).bind fun r7 =>
      fA_degree_48 N n μ r7
    else
      me_gi l1 n <|
      fA_degree_48 N n μ (-(μ.1 13 l1.toNatClampNeg))
def fA_successor_58 (N : Nat) (n : Nat) (μ : me_M) : Option Int32 :=
  some (-1 : Int32)
def fA_successor_52 (N : Nat) (n : Nat) (μ : me_M) (k15 : Int32 → Int32 → Int32 → Int32 → Option Int32) (l1 : Int32) (l2 : Int32) (l3 : Int32) (l4 : Int32) : Option Int32 :=
  k15 l1 l2 l3 (l4 + (1 : Int32))
def fA_successor_15b (N : Nat) (n : Nat) (μ : me_M) (k15 : Int32 → Int32 → Int32 → Int32 → Option Int32) (l1 : Int32) (l2 : Int32) (l3 : Int32) (l4 : Int32) : Option Int32 :=
  if (nI n) ≤ l4 then
    fA_successor_58 N n μ
  else
    me_gi l1 n <|
    (fA_holds N (μ.1 12 l1.toNatClampNeg) l4).bind fun r3 =>
    if r3 = 0 then
      fA_successor_52 N n μ k15 l1 l2 l3 l4
    else
      if l3 = l2 then
        some l4
      else
        fA_successor_52 N n μ k15 l1 l2 (l3 + (1 : Int32)) l4
def fA_successor_15 (N : Nat) (n : Nat) (μ : me_M) (F : Nat) : Int32 → Int32 → Int32 → Int32 → Option Int32 := Nat.rec (motive := fun _ => Int32 → Int32 → Int32 → Int32 → Option Int32) (fun _ _ _ _ => none) (fun _ k15 => fA_successor_15b N n μ k15) F
def fA_successor (N : Nat) (n : Nat) (μ : me_M) (l1 : Int32) (l2 : Int32) : Option Int32 :=
  (fA_isNode N n μ l1).bind fun r6 =>
  if r6 = 0 then
    some (-1 : Int32)
  else
    fA_successor_15 N n μ N l1 l2 (0 : Int32) (0 : Int32)
def fA_reference_33 (N : Nat) (n : Nat) (μ : me_M) (s0 : Int32) : Option Int32 :=
  some s0
def fA_reference_32 (N : Nat) (n : Nat) (μ : me_M) : Option Int32 :=
  fA_reference_33 N n μ (-1 : Int32)
def fA_reference (N : Nat) (n : Nat) (μ : me_M) (l1 : Int32) : Option Int32 :=
  (fA_isNode N n μ l1).bind fun r1 =>
  if r1 = 0 then
    fA_reference_32 N n μ
  else
    me_gi l1 n <|
    if (μ.1 13 l1.toNatClampNeg) = 0 then
      me_gi l1 n <|
      fA_reference_33 N n μ (μ.1 14 l1.toNatClampNeg)
    else
      fA_reference_32 N n μ
def fS_findReached_95 (N : Nat) (n : Nat) (μ : me_M) : Option me_M :=
  some μ
def fS_findReached_89 (N : Nat) (n : Nat) (k35 : Int32 → me_M → Option me_M) (l1 : Int32) (μ : me_M) : Option me_M :=
  k35 (l1 + (1 : Int32)) μ
def fS_findReached_83 (N : Nat) (n : Nat) (k35 : Int32 → me_M → Option me_M) (k46 : Int32 → Int32 → me_M → Option me_M) (l1 : Int32) (l2 : Int32) (μ : me_M) : Option me_M :=
  k46 l1 (l2 + (1 : Int32)) μ
def fS_findReached_46b (N : Nat) (n : Nat) (k35 : Int32 → me_M → Option me_M) (k46 : Int32 → Int32 → me_M → Option me_M) (l1 : Int32) (l2 : Int32) (μ : me_M) : Option me_M :=
  if (nI n) ≤ l2 then
    fS_findReached_89 N n k35 l1 μ
  else
    me_gi l2 n <|
    (fA_holds N (μ.1 18 l2.toNatClampNeg) l1).bind fun r3 =>
    if r3 = 0 then
      fS_findReached_83 N n k35 k46 l1 l2 μ
    else
      me_gi l2 n <|
      me_gi l1 n <|
      me_gi l2 n <|
      fS_findReached_83 N n k35 k46 l1 l2 (me_wi μ 18 l2.toNatClampNeg ((μ.1 18 l2.toNatClampNeg) ||| (μ.1 18 l1.toNatClampNeg)))
def fS_findReached_46 (N : Nat) (n : Nat) (k35 : Int32 → me_M → Option me_M) (F : Nat) : Int32 → Int32 → me_M → Option me_M := Nat.rec (motive := fun _ => Int32 → Int32 → me_M → Option me_M) (fun _ _ _ => none) (fun _ k46 => fS_findReached_46b N n k35 k46) F
def fS_findReached_35b (N : Nat) (n : Nat) (k35 : Int32 → me_M → Option me_M) (l1 : Int32) (μ : me_M) : Option me_M :=
  if (nI n) ≤ l1 then
    fS_findReached_95 N n μ
  else
    fS_findReached_46 N n k35 N l1 (0 : Int32) μ
def fS_findReached_35 (N : Nat) (n : Nat) (F : Nat) : Int32 → me_M → Option me_M := Nat.rec (motive := fun _ => Int32 → me_M → Option me_M) (fun _ _ => none) (fun _ k35 => fS_findReached_35b N n k35) F
def fS_findReached_33 (N : Nat) (n : Nat) (μ : me_M) : Option me_M :=
  fS_findReached_35 N n N (0 : Int32) μ
def fS_findReached_2b (N : Nat) (n : Nat) (k2 : Int32 → me_M → Option me_M) (l1 : Int32) (μ : me_M) : Option me_M :=
  if (nI n) ≤ l1 then
    fS_findReached_33 N n μ
  else
    me_gi l1 n <|
    me_gi l1 n <|
    k2 (l1 + (1 : Int32)) (me_wi μ 18 l1.toNatClampNeg ((μ.1 12 l1.toNatClampNeg) ||| ((1 : Int32) <<< (l1 &&& 31))))
def fS_findReached_2 (N : Nat) (n : Nat) (F : Nat) : Int32 → me_M → Option me_M := Nat.rec (motive := fun _ => Int32 → me_M → Option me_M) (fun _ _ => none) (fun _ k2 => fS_findReached_2b N n k2) F
def fS_findReached (N : Nat) (n : Nat) (μ : me_M) : Option me_M :=
  fS_findReached_2 N n N (0 : Int32) μ
def fS_partOf_51 (N : Nat) (n : Nat) (μ : me_M) (l2 : Int32) : Option Int32 :=
  some l2
def fS_partOf_45 (N : Nat) (n : Nat) (μ : me_M) (k4 : Int32 → Int32 → Int32 → Option Int32) (l1 : Int32) (l2 : Int32) (l3 : Int32) : Option Int32 :=
  k4 l1 l2 (l3 + (1 : Int32))
def fS_partOf_4b (N : Nat) (n : Nat) (μ : me_M) (k4 : Int32 → Int32 → Int32 → Option Int32) (l1 : Int32) (l2 : Int32) (l3 : Int32) : Option Int32 :=
  if (nI n) ≤ l3 then
    fS_partOf_51 N n μ l2
  else
    me_gi l1 n <|
    (fA_holds N (μ.1 18 l1.toNatClampNeg) l3).bind fun r3 =>
    if r3 = 0 then
      fS_partOf_45 N n μ k4 l1 l2 l3
    else
      me_gi l3 n <|
      (fA_holds N (μ.1 18 l3.toNatClampNeg) l1).bind fun r6 =>
      if r6 = 0 then
        fS_partOf_45 N n μ k4 l1 l2 l3
      else
        fS_partOf_45 N n μ k4 l1 (l2 ||| ((1 : Int32) <<< (l3 &&& 31))) l3
def fS_partOf_4 (N : Nat) (n : Nat) (μ : me_M) (F : Nat) : Int32 → Int32 → Int32 → Option Int32 := Nat.rec (motive := fun _ => Int32 → Int32 → Int32 → Option Int32) (fun _ _ _ => none) (fun _ k4 => fS_partOf_4b N n μ k4) F
def fS_partOf (N : Nat) (n : Nat) (μ : me_M) (l1 : Int32) : Option Int32 :=
  fS_partOf_4 N n μ N l1 (0 : Int32) (0 : Int32)
def fS_nextReady_48 (N : Nat) (n : Nat) (μ : me_M) : Option Int32 :=
  some (-1 : Int32)
def fS_nextReady_42 (N : Nat) (n : Nat) (μ : me_M) (k2 : Int32 → Int32 → Option Int32) (l1 : Int32) (l2 : Int32) : Option Int32 :=
  k2 l1 (l2 + (1 : Int32))
def fS_nextReady_2b (N : Nat) (n : Nat) (μ : me_M) (k2 : Int32 → Int32 → Option Int32) (l1 : Int32) (l2 : Int32) : Option Int32 :=
  if (nI n) ≤ l2 then
    fS_nextReady_48 N n μ
  else
    (fA_holds N l1 l2).bind fun r2 =>
    if r2 = 0 then
      me_gi l2 n <|
      (fS_partOf N n μ l2).bind fun r5 =>
      if (((μ.1 18 l2.toNatClampNeg) &&& (l1 ^^^ (-1 : Int32))) &&& (r5 ^^^ (-1 : Int32))) = 0 then
        some l2
      else
        fS_nextReady_42 N n μ k2 l1 l2
    else
      fS_nextReady_42 N n μ k2 l1 l2
def fS_nextReady_2 (N : Nat) (n : Nat) (μ : me_M) (F : Nat) : Int32 → Int32 → Option Int32 := Nat.rec (motive := fun _ => Int32 → Int32 → Option Int32) (fun _ _ => none) (fun _ k2 => fS_nextReady_2b N n μ k2) F
def fS_nextReady (N : Nat) (n : Nat) (μ : me_M) (l1 : Int32) : Option Int32 :=
  fS_nextReady_2 N n μ N l1 (0 : Int32)
def fS_numberAll_88 (N : Nat) (n : Nat) (l2 : Int32) (μ : me_M) : Option (Int32 × me_M) :=
  some (l2, μ)
def fS_numberAll_71 (N : Nat) (n : Nat) (k14 : Int32 → Int32 → Int32 → me_M → Option (Int32 × me_M)) (l1 : Int32) (l2 : Int32) (l4 : Int32) (μ : me_M) : Option (Int32 × me_M) :=
  (fS_nextReady N n μ (l1 ||| l4)).bind fun r1 =>
  k14 (l1 ||| l4) (l2 + (1 : Int32)) r1 μ
def fS_numberAll_65 (N : Nat) (n : Nat) (k14 : Int32 → Int32 → Int32 → me_M → Option (Int32 × me_M)) (k37 : Int32 → Int32 → Int32 → Int32 → me_M → Option (Int32 × me_M)) (l1 : Int32) (l2 : Int32) (l4 : Int32) (l5 : Int32) (μ : me_M) : Option (Int32 × me_M) :=
  k37 l1 l2 l4 (l5 + (1 : Int32)) μ
def fS_numberAll_37b (N : Nat) (n : Nat) (k14 : Int32 → Int32 → Int32 → me_M → Option (Int32 × me_M)) (k37 : Int32 → Int32 → Int32 → Int32 → me_M → Option (Int32 × me_M)) (l1 : Int32) (l2 : Int32) (l4 : Int32) (l5 : Int32) (μ : me_M) : Option (Int32 × me_M) :=
  if (nI n) ≤ l5 then
    fS_numberAll_71 N n k14 l1 l2 l4 μ
  else
    (fA_holds N l4 l5).bind fun r3 =>
    if r3 = 0 then
      fS_numberAll_65 N n k14 k37 l1 l2 l4 l5 μ
    else
      me_gi l5 n <|
      fS_numberAll_65 N n k14 k37 l1 l2 l4 l5 (me_wi μ 17 l5.toNatClampNeg l2)
def fS_numberAll_37 (N : Nat) (n : Nat) (k14 : Int32 → Int32 → Int32 → me_M → Option (Int32 × me_M)) (F : Nat) : Int32 → Int32 → Int32 → Int32 → me_M → Option (Int32 × me_M) := Nat.rec (motive := fun _ => Int32 → Int32 → Int32 → Int32 → me_M → Option (Int32 × me_M)) (fun _ _ _ _ _ => none) (fun _ k37 => fS_numberAll_37b N n k14 k37) F
def fS_numberAll_14b (N : Nat) (n : Nat) (k14 : Int32 → Int32 → Int32 → me_M → Option (Int32 × me_M)) (l1 : Int32) (l2 : Int32) (l3 : Int32) (μ : me_M) : Option (Int32 × me_M) :=
  if l3 < 0 then
    fS_numberAll_88 N n l2 μ
  else
    if (nI n) ≤ l2 then
      fS_numberAll_88 N n l2 μ
    else
      (fS_partOf N n μ l3).bind fun r8 =>
      fS_numberAll_37 N n k14 N l1 l2 r8 (0 : Int32) μ
def fS_numberAll_14 (N : Nat) (n : Nat) (F : Nat) : Int32 → Int32 → Int32 → me_M → Option (Int32 × me_M) := Nat.rec (motive := fun _ => Int32 → Int32 → Int32 → me_M → Option (Int32 × me_M)) (fun _ _ _ _ => none) (fun _ k14 => fS_numberAll_14b N n k14) F
def fS_numberAll (N : Nat) (n : Nat) (μ : me_M) : Option (Int32 × me_M) :=
  (fS_findReached N n μ).bind fun r9 =>
  (fS_nextReady N n r9 (0 : Int32)).bind fun r10 =>
  fS_numberAll_14 N n N (0 : Int32) (0 : Int32) r10 r9
def fA_components (N : Nat) (n : Nat) (μ : me_M) : Option (Int32 × me_M) :=
  (fS_numberAll N n μ).bind fun r1 =>
  some (r1.1, r1.2)
def fA_component (N : Nat) (n : Nat) (l1 : Int32) (μ : me_M) : Option (Int32 × me_M) :=
  (fA_isNode N n μ l1).bind fun r1 =>
  if r1 = 0 then
    some ((-1 : Int32), μ)
  else
    (fS_numberAll N n μ).bind fun r3 =>
    me_gi l1 n <|
    some (r3.2.1 17 l1.toNatClampNeg, r3.2)
def fO_weightOfOthers_33 (N : Nat) (n : Nat) (μ : me_M) (l2 : Int32) : Option Int32 :=
  some l2
def fO_weightOfOthers_27 (N : Nat) (n : Nat) (μ : me_M) (k4 : Int32 → Int32 → Int32 → Option Int32) (l1 : Int32) (l2 : Int32) (l3 : Int32) : Option Int32 :=
  k4 l1 l2 (l3 + (1 : Int32))
def fO_weightOfOthers_4b (N : Nat) (n : Nat) (μ : me_M) (k4 : Int32 → Int32 → Int32 → Option Int32) (l1 : Int32) (l2 : Int32) (l3 : Int32) : Option Int32 :=
  if (nI n) ≤ l3 then
    fO_weightOfOthers_33 N n μ l2
  else
    if l3 = l1 then
      fO_weightOfOthers_27 N n μ k4 l1 l2 l3
    else
      me_gi l3 n <|
      fO_weightOfOthers_27 N n μ k4 l1 (l2 + (μ.1 23 l3.toNatClampNeg)) l3
def fO_weightOfOthers_4 (N : Nat) (n : Nat) (μ : me_M) (F : Nat) : Int32 → Int32 → Int32 → Option Int32 := Nat.rec (motive := fun _ => Int32 → Int32 → Int32 → Option Int32) (fun _ _ _ => none) (fun _ k4 => fO_weightOfOthers_4b N n μ k4) F
def fO_weightOfOthers (N : Nat) (n : Nat) (μ : me_M) (l1 : Int32) : Option Int32 :=
  fO_weightOfOthers_4 N n μ N l1 (0 : Int32) (0 : Int32)
def fA_prefer_31 (N : Nat) (n : Nat) (μ : me_M) : Option (Int32 × me_M) :=
  me_gz (0 : Int32) <|
  some ((0 : Int32), μ)
def fA_prefer (N : Nat) (n : Nat) (l1 : Int32) (l2 : Int32) (μ : me_M) : Option (Int32 × me_M) :=
  (fA_isNode N n μ l1).bind fun r2 =>
  if r2 = 0 then
    fA_prefer_31 N n μ
  else
    (fA_within N l2 (0 : Int32) (100 : Int32)).bind fun r4 =>
    if r4 = 0 then
      fA_prefer_31 N n μ
    else
      (fO_weightOfOthers N n μ l1).bind fun r6 =>
      if (r6 + l2) = 0 then
        fA_prefer_31 N n μ
      else
        me_gi l1 n <|
        me_gz (1 : Int32) <|
        some ((1 : Int32), me_wi μ 23 l1.toNatClampNeg l2)
def fA_start_20 (N : Nat) (n : Nat) (μ : me_M) : Option (Int32 × me_M) :=
  me_gz (0 : Int32) <|
  some ((0 : Int32), μ)
def fA_start (N : Nat) (n : Nat) (l1 : Int32) (l2 : Int32) (μ : me_M) : Option (Int32 × me_M) :=
  (fA_within N l1 (0 : Int32) (2 : Int32)).bind fun r2 =>
  if r2 = 0 then
    fA_start_20 N n μ
  else
    (fA_within N l2 (0 : Int32) (1000 : Int32)).bind fun r4 =>
    if r4 = 0 then
      fA_start_20 N n μ
    else
      (fO_begin N n l1 l2 μ).bind fun r6 =>
      me_gz (1 : Int32) <|
      some ((1 : Int32), r6)
def fO_linksFrom (N : Nat) (n : Nat) (μ : me_M) (l1 : Int32) : Option Int32 :=
  me_gi l1 n <|
  (fJ_bitCount N (μ.1 12 l1.toNatClampNeg)).bind fun r2 =>
  some r2
def fO_stepByRank_199 (N : Nat) (n : Nat) (μ : me_M) : Option me_M :=
  some μ
def fO_stepByRank_128 (N : Nat) (n : Nat) (k55 : Int64 → Int64 → Int32 → me_M → Option me_M) (l1 : Int64) (l3 : Int64) (l5 : Int32) (l6 : Int64) (μ : me_M) : Option me_M :=
  me_gi l5 n <|
  (fO_quotient N (((((1000 : Int32) - (μ.1 2007 0)).toInt64) * (1000000000 : Int64)) * ((μ.1 23 l5.toNatClampNeg).toInt64)) l1).bind fun r2 =>
  me_gi l5 n <|
  (fO_quotient N (l3 * ((μ.1 23 l5.toNatClampNeg).toInt64)) l1).bind fun r4 =>
  me_gi l5 n <|
  k55 l1 l3 (l5 + (1 : Int32)) (me_wl μ 20 l5.toNatClampNeg (r2 + ((((μ.1 2007 0).toInt64) * (l6 + r4)) / (1000 : Int64))))
def fO_stepByRank_119 (N : Nat) (n : Nat) (k55 : Int64 → Int64 → Int32 → me_M → Option me_M) (k71 : Int64 → Int64 → Int32 → Int64 → Int32 → me_M → Option me_M) (l1 : Int64) (l3 : Int64) (l5 : Int32) (l8 : Int32) (s0 : Int64) (s1 : Int64) (μ : me_M) : Option me_M :=
  k71 l1 l3 l5 (s0 + s1) (l8 + (1 : Int32)) μ
def fO_stepByRank_71b (N : Nat) (n : Nat) (k55 : Int64 → Int64 → Int32 → me_M → Option me_M) (k71 : Int64 → Int64 → Int32 → Int64 → Int32 → me_M → Option me_M) (l1 : Int64) (l3 : Int64) (l5 : Int32) (l6 : Int64) (l8 : Int32) (μ : me_M) : Option me_M :=
  if (nI n) ≤ l8 then
    fO_stepByRank_128 N n k55 l1 l3 l5 l6 μ
  else
    me_gi l8 n <|
    (fA_holds N (μ.1 12 l8.toNatClampNeg) l5).bind fun r9 =>
    if r9 = 0 then
      fO_stepByRank_119 N n k55 k71 l1 l3 l5 l8 l6 (0 : Int64) μ
    else
      me_gi l8 n <|
      (fO_linksFrom N n μ l8).bind fun r12 =>
      (fO_quotient N (μ.2 22 l8.toNatClampNeg) r12.toInt64).bind fun r13 =>
      fO_stepByRank_119 N n k55 k71 l1 l3 l5 l8 l6 r13 μ
def fO_stepByRank_71 (N : Nat) (n : Nat) (k55 : Int64 → Int64 → Int32 → me_M → Option me_M) (F : Nat) : Int64 → Int64 → Int32 → Int64 → Int32 → me_M → Option me_M := Nat.rec (motive := fun _ => Int64 → Int64 → Int32 → Int64 → Int32 → me_M → Option me_M) (fun _ _ _ _ _ _ => none) (fun _ k71 => fO_stepByRank_71b N n k55 k71) F
def fO_stepByRank_55b (N : Nat) (n : Nat) (k55 : Int64 → Int64 → Int32 → me_M → Option me_M) (l1 : Int64) (l3 : Int64) (l5 : Int32) (μ : me_M) : Option me_M :=
  if (nI n) ≤ l5 then
    fO_stepByRank_199 N n μ
  else
    fO_stepByRank_71 N n k55 N l1 l3 l5 (0 : Int64) (0 : Int32) μ
def fO_stepByRank_55 (N : Nat) (n : Nat) (F : Nat) : Int64 → Int64 → Int32 → me_M → Option me_M := Nat.rec (motive := fun _ => Int64 → Int64 → Int32 → me_M → Option me_M) (fun _ _ _ _ => none) (fun _ k55 => fO_stepByRank_55b N n k55) F
def fO_stepByRank_52 (N : Nat) (n : Nat) (l1 : Int64) (l3 : Int64) (μ : me_M) : Option me_M :=
  fO_stepByRank_55 N n N l1 l3 (0 : Int32) μ
def fO_stepByRank_44 (N : Nat) (n : Nat) (k12 : Int64 → Int64 → Int32 → me_M → Option me_M) (l1 : Int64) (l5 : Int32) (s0 : Int64) (s1 : Int64) (μ : me_M) : Option me_M :=
  k12 l1 (s0 + s1) (l5 + (1 : Int32)) μ
def fO_stepByRank_12b (N : Nat) (n : Nat) (k12 : Int64 → Int64 → Int32 → me_M → Option me_M) (l1 : Int64) (l3 : Int64) (l5 : Int32) (μ : me_M) : Option me_M :=
  if (nI n) ≤ l5 then
    fO_stepByRank_52 N n l1 l3 μ
  else
    me_gi l5 n <|
    if (μ.1 12 l5.toNatClampNeg) = 0 then
      me_gi l5 n <|
      fO_stepByRank_44 N n k12 l1 l5 l3 (μ.2 22 l5.toNatClampNeg) μ
    else
      fO_stepByRank_44 N n k12 l1 l5 l3 (0 : Int64) μ
def fO_stepByRank_12 (N : Nat) (n : Nat) (F : Nat) : Int64 → Int64 → Int32 → me_M → Option me_M := Nat.rec (motive := fun _ => Int64 → Int64 → Int32 → me_M → Option me_M) (fun _ _ _ _ => none) (fun _ k12 => fO_stepByRank_12b N n k12) F
def fO_stepByRank (N : Nat) (n : Nat) (μ : me_M) : Option me_M :=
  (fO_weightOfOthers N n μ (-1 : Int32)).bind fun r19 =>
  fO_stepByRank_12 N n N r19.toInt64 (0 : Int64) (0 : Int32) μ
def fO_bringToGreatest_20_52 (N : Nat) (n : Nat) (μ : me_M) : Option me_M :=
  some μ
def fO_bringToGreatest_20_26b (N : Nat) (n : Nat) (k26 : Int64 → Int32 → me_M → Option me_M) (l1 : Int64) (l3 : Int32) (μ : me_M) : Option me_M :=
  if (nI n) ≤ l3 then
    fO_bringToGreatest_20_52 N n μ
  else
    me_gi l3 n <|
    (fO_quotient N ((μ.2 20 l3.toNatClampNeg) * (1000000 : Int64)) l1).bind fun r3 =>
    me_gi l3 n <|
    k26 l1 (l3 + (1 : Int32)) (me_wl μ 20 l3.toNatClampNeg r3)
def fO_bringToGreatest_20_26 (N : Nat) (n : Nat) (F : Nat) : Int64 → Int32 → me_M → Option me_M := Nat.rec (motive := fun _ => Int64 → Int32 → me_M → Option me_M) (fun _ _ _ => none) (fun _ k26 => fO_bringToGreatest_20_26b N n k26) F
def fO_bringToGreatest_20_24 (N : Nat) (n : Nat) (l1 : Int64) (μ : me_M) : Option me_M :=
  fO_bringToGreatest_20_26 N n N l1 (0 : Int32) μ
def fO_bringToGreatest_20_4b (N : Nat) (n : Nat) (k4 : Int64 → Int32 → me_M → Option me_M) (l1 : Int64) (l3 : Int32) (μ : me_M) : Option me_M :=
  if (nI n) ≤ l3 then
    fO_bringToGreatest_20_24 N n l1 μ
  else
    me_gi l3 n <|
    k4 (if (μ.2 20 l3.toNatClampNeg) < l1 then l1 else (μ.2 20 l3.toNatClampNeg)) (l3 + (1 : Int32)) μ
def fO_bringToGreatest_20_4 (N : Nat) (n : Nat) (F : Nat) : Int64 → Int32 → me_M → Option me_M := Nat.rec (motive := fun _ => Int64 → Int32 → me_M → Option me_M) (fun _ _ _ => none) (fun _ k4 => fO_bringToGreatest_20_4b N n k4) F
def fO_bringToGreatest_20 (N : Nat) (n : Nat) (μ : me_M) : Option me_M :=
  fO_bringToGreatest_20_4 N n N (0 : Int64) (0 : Int32) μ
def fO_bringToGreatest_21_52 (N : Nat) (n : Nat) (μ : me_M) : Option me_M :=
  some μ
def fO_bringToGreatest_21_26b (N : Nat) (n : Nat) (k26 : Int64 → Int32 → me_M → Option me_M) (l1 : Int64) (l3 : Int32) (μ : me_M) : Option me_M :=
  if (nI n) ≤ l3 then
    fO_bringToGreatest_21_52 N n μ
  else
    me_gi l3 n <|
    (fO_quotient N ((μ.2 21 l3.toNatClampNeg) * (1000000 : Int64)) l1).bind fun r3 =>
    me_gi l3 n <|
    k26 l1 (l3 + (1 : Int32)) (me_wl μ 21 l3.toNatClampNeg r3)
def fO_bringToGreatest_21_26 (N : Nat) (n : Nat) (F : Nat) : Int64 → Int32 → me_M → Option me_M := Nat.rec (motive := fun _ => Int64 → Int32 → me_M → Option me_M) (fun _ _ _ => none) (fun _ k26 => fO_bringToGreatest_21_26b N n k26) F
def fO_bringToGreatest_21_24 (N : Nat) (n : Nat) (l1 : Int64) (μ : me_M) : Option me_M :=
  fO_bringToGreatest_21_26 N n N l1 (0 : Int32) μ
def fO_bringToGreatest_21_4b (N : Nat) (n : Nat) (k4 : Int64 → Int32 → me_M → Option me_M) (l1 : Int64) (l3 : Int32) (μ : me_M) : Option me_M :=
  if (nI n) ≤ l3 then
    fO_bringToGreatest_21_24 N n l1 μ
  else
    me_gi l3 n <|
    k4 (if (μ.2 21 l3.toNatClampNeg) < l1 then l1 else (μ.2 21 l3.toNatClampNeg)) (l3 + (1 : Int32)) μ
def fO_bringToGreatest_21_4 (N : Nat) (n : Nat) (F : Nat) : Int64 → Int32 → me_M → Option me_M := Nat.rec (motive := fun _ => Int64 → Int32 → me_M → Option me_M) (fun _ _ _ => none) (fun _ k4 => fO_bringToGreatest_21_4b N n k4) F
def fO_bringToGreatest_21 (N : Nat) (n : Nat) (μ : me_M) : Option me_M :=
  fO_bringToGreatest_21_4 N n N (0 : Int64) (0 : Int32) μ
def fO_stepByGreatest_153 (N : Nat) (n : Nat) (μ : me_M) : Option me_M :=
  (fO_bringToGreatest_21 N n μ).bind fun r1 =>
  some r1
def fO_stepByGreatest_147 (N : Nat) (n : Nat) (k82 : Int32 → me_M → Option me_M) (l1 : Int32) (μ : me_M) : Option me_M :=
  k82 (l1 + (1 : Int32)) μ
def fO_stepByGreatest_139 (N : Nat) (n : Nat) (k82 : Int32 → me_M → Option me_M) (k100 : Int32 → Int32 → me_M → Option me_M) (l1 : Int32) (l2 : Int32) (s1 : Int32) (s2 : Int64) (s3 : Int64) (μ : me_M) : Option me_M :=
  me_gi s1 n <|
  k100 l1 (l2 + (1 : Int32)) (me_wl μ 21 s1.toNatClampNeg (s2 + s3))
def fO_stepByGreatest_100b (N : Nat) (n : Nat) (k82 : Int32 → me_M → Option me_M) (k100 : Int32 → Int32 → me_M → Option me_M) (l1 : Int32) (l2 : Int32) (μ : me_M) : Option me_M :=
  if (nI n) ≤ l2 then
    fO_stepByGreatest_147 N n k82 l1 μ
  else
    me_gi l1 n <|
    me_gi l1 n <|
    (fA_holds N (μ.1 12 l1.toNatClampNeg) l2).bind fun r6 =>
    if r6 = 0 then
      fO_stepByGreatest_139 N n k82 k100 l1 l2 l1 (μ.2 21 l1.toNatClampNeg) (0 : Int64) μ
    else
      me_gi l2 n <|
      fO_stepByGreatest_139 N n k82 k100 l1 l2 l1 (μ.2 21 l1.toNatClampNeg) (μ.2 20 l2.toNatClampNeg) μ
def fO_stepByGreatest_100 (N : Nat) (n : Nat) (k82 : Int32 → me_M → Option me_M) (F : Nat) : Int32 → Int32 → me_M → Option me_M := Nat.rec (motive := fun _ => Int32 → Int32 → me_M → Option me_M) (fun _ _ _ => none) (fun _ k100 => fO_stepByGreatest_100b N n k82 k100) F
def fO_stepByGreatest_82b (N : Nat) (n : Nat) (k82 : Int32 → me_M → Option me_M) (l1 : Int32) (μ : me_M) : Option me_M :=
  if (nI n) ≤ l1 then
    fO_stepByGreatest_153 N n μ
  else
    me_gi l1 n <|
    fO_stepByGreatest_100 N n k82 N l1 (0 : Int32) (me_wl μ 21 l1.toNatClampNeg (0 : Int64))
def fO_stepByGreatest_82 (N : Nat) (n : Nat) (F : Nat) : Int32 → me_M → Option me_M := Nat.rec (motive := fun _ => Int32 → me_M → Option me_M) (fun _ _ => none) (fun _ k82 => fO_stepByGreatest_82b N n k82) F
def fO_stepByGreatest_73 (N : Nat) (n : Nat) (μ : me_M) : Option me_M :=
  (fO_bringToGreatest_20 N n μ).bind fun r11 =>
  fO_stepByGreatest_82 N n N (0 : Int32) r11
def fO_stepByGreatest_67 (N : Nat) (n : Nat) (k2 : Int32 → me_M → Option me_M) (l1 : Int32) (μ : me_M) : Option me_M :=
  k2 (l1 + (1 : Int32)) μ
def fO_stepByGreatest_59 (N : Nat) (n : Nat) (k2 : Int32 → me_M → Option me_M) (k20 : Int32 → Int32 → me_M → Option me_M) (l1 : Int32) (l2 : Int32) (s1 : Int32) (s2 : Int64) (s3 : Int64) (μ : me_M) : Option me_M :=
  me_gi s1 n <|
  k20 l1 (l2 + (1 : Int32)) (me_wl μ 20 s1.toNatClampNeg (s2 + s3))
def fO_stepByGreatest_20b (N : Nat) (n : Nat) (k2 : Int32 → me_M → Option me_M) (k20 : Int32 → Int32 → me_M → Option me_M) (l1 : Int32) (l2 : Int32) (μ : me_M) : Option me_M :=
  if (nI n) ≤ l2 then
    fO_stepByGreatest_67 N n k2 l1 μ
  else
    me_gi l1 n <|
    me_gi l2 n <|
    (fA_holds N (μ.1 12 l2.toNatClampNeg) l1).bind fun r16 =>
    if r16 = 0 then
      fO_stepByGreatest_59 N n k2 k20 l1 l2 l1 (μ.2 20 l1.toNatClampNeg) (0 : Int64) μ
    else
      me_gi l2 n <|
      fO_stepByGreatest_59 N n k2 k20 l1 l2 l1 (μ.2 20 l1.toNatClampNeg) (μ.2 21 l2.toNatClampNeg) μ
def fO_stepByGreatest_20 (N : Nat) (n : Nat) (k2 : Int32 → me_M → Option me_M) (F : Nat) : Int32 → Int32 → me_M → Option me_M := Nat.rec (motive := fun _ => Int32 → Int32 → me_M → Option me_M) (fun _ _ _ => none) (fun _ k20 => fO_stepByGreatest_20b N n k2 k20) F
def fO_stepByGreatest_2b (N : Nat) (n : Nat) (k2 : Int32 → me_M → Option me_M) (l1 : Int32) (μ : me_M) : Option me_M :=
  if (nI n) ≤ l1 then
    fO_stepByGreatest_73 N n μ
  else
    me_gi l1 n <|
    fO_stepByGreatest_20 N n k2 N l1 (0 : Int32) (me_wl μ 20 l1.toNatClampNeg (0 : Int64))
def fO_stepByGreatest_2 (N : Nat) (n : Nat) (F : Nat) : Int32 → me_M → Option me_M := Nat.rec (motive := fun _ => Int32 → me_M → Option me_M) (fun _ _ => none) (fun _ k2 => fO_stepByGreatest_2b N n k2) F
def fO_stepByGreatest (N : Nat) (n : Nat) (μ : me_M) : Option me_M :=
  fO_stepByGreatest_2 N n N (0 : Int32) μ
def fO_linksTo_40 (N : Nat) (n : Nat) (μ : me_M) (l2 : Int32) : Option Int32 :=
  some l2
def fO_linksTo_32 (N : Nat) (n : Nat) (μ : me_M) (k4 : Int32 → Int32 → Int32 → Option Int32) (l1 : Int32) (l3 : Int32) (s0 : Int32) (s1 : Int32) : Option Int32 :=
  k4 l1 (s0 + s1) (l3 + (1 : Int32))
def fO_linksTo_4b (N : Nat) (n : Nat) (μ : me_M) (k4 : Int32 → Int32 → Int32 → Option Int32) (l1 : Int32) (l2 : Int32) (l3 : Int32) : Option Int32 :=
  if (nI n) ≤ l3 then
    fO_linksTo_40 N n μ l2
  else
    me_gi l3 n <|
    (fA_holds N (μ.1 12 l3.toNatClampNeg) l1).bind fun r3 =>
    if r3 = 0 then
      fO_linksTo_32 N n μ k4 l1 l3 l2 (0 : Int32)
    else
      fO_linksTo_32 N n μ k4 l1 l3 l2 (1 : Int32)
def fO_linksTo_4 (N : Nat) (n : Nat) (μ : me_M) (F : Nat) : Int32 → Int32 → Int32 → Option Int32 := Nat.rec (motive := fun _ => Int32 → Int32 → Int32 → Option Int32) (fun _ _ _ => none) (fun _ k4 => fO_linksTo_4b N n μ k4) F
def fO_linksTo (N : Nat) (n : Nat) (μ : me_M) (l1 : Int32) : Option Int32 :=
  fO_linksTo_4 N n μ N l1 (0 : Int32) (0 : Int32)
def fO_stepByShares_164 (N : Nat) (n : Nat) (μ : me_M) : Option me_M :=
  some μ
def fO_stepByShares_158 (N : Nat) (n : Nat) (k84 : Int32 → me_M → Option me_M) (l1 : Int32) (μ : me_M) : Option me_M :=
  k84 (l1 + (1 : Int32)) μ
def fO_stepByShares_150 (N : Nat) (n : Nat) (k84 : Int32 → me_M → Option me_M) (k102 : Int32 → Int32 → me_M → Option me_M) (l1 : Int32) (l2 : Int32) (s1 : Int32) (s2 : Int64) (s3 : Int64) (μ : me_M) : Option me_M :=
  me_gi s1 n <|
  k102 l1 (l2 + (1 : Int32)) (me_wl μ 20 s1.toNatClampNeg (s2 + s3))
def fO_stepByShares_102b (N : Nat) (n : Nat) (k84 : Int32 → me_M → Option me_M) (k102 : Int32 → Int32 → me_M → Option me_M) (l1 : Int32) (l2 : Int32) (μ : me_M) : Option me_M :=
  if (nI n) ≤ l2 then
    fO_stepByShares_158 N n k84 l1 μ
  else
    me_gi l1 n <|
    me_gi l2 n <|
    (fA_holds N (μ.1 12 l2.toNatClampNeg) l1).bind fun r5 =>
    if r5 = 0 then
      fO_stepByShares_150 N n k84 k102 l1 l2 l1 (μ.2 20 l1.toNatClampNeg) (0 : Int64) μ
    else
      me_gi l2 n <|
      (fO_linksFrom N n μ l2).bind fun r8 =>
      (fO_quotient N (μ.2 21 l2.toNatClampNeg) r8.toInt64).bind fun r9 =>
      fO_stepByShares_150 N n k84 k102 l1 l2 l1 (μ.2 20 l1.toNatClampNeg) r9 μ
def fO_stepByShares_102 (N : Nat) (n : Nat) (k84 : Int32 → me_M → Option me_M) (F : Nat) : Int32 → Int32 → me_M → Option me_M := Nat.rec (motive := fun _ => Int32 → Int32 → me_M → Option me_M) (fun _ _ _ => none) (fun _ k102 => fO_stepByShares_102b N n k84 k102) F
def fO_stepByShares_84b (N : Nat) (n : Nat) (k84 : Int32 → me_M → Option me_M) (l1 : Int32) (μ : me_M) : Option me_M :=
  if (nI n) ≤ l1 then
    fO_stepByShares_164 N n μ
  else
    me_gi l1 n <|
    fO_stepByShares_102 N n k84 N l1 (0 : Int32) (me_wl μ 20 l1.toNatClampNeg (0 : Int64))
def fO_stepByShares_84 (N : Nat) (n : Nat) (F : Nat) : Int32 → me_M → Option me_M := Nat.rec (motive := fun _ => Int32 → me_M → Option me_M) (fun _ _ => none) (fun _ k84 => fO_stepByShares_84b N n k84) F
def fO_stepByShares_82 (N : Nat) (n : Nat) (μ : me_M) : Option me_M :=
  fO_stepByShares_84 N n N (0 : Int32) μ
def fO_stepByShares_76 (N : Nat) (n : Nat) (k2 : Int32 → me_M → Option me_M) (l1 : Int32) (μ : me_M) : Option me_M :=
  k2 (l1 + (1 : Int32)) μ
def fO_stepByShares_68 (N : Nat) (n : Nat) (k2 : Int32 → me_M → Option me_M) (k20 : Int32 → Int32 → me_M → Option me_M) (l1 : Int32) (l2 : Int32) (s1 : Int32) (s2 : Int64) (s3 : Int64) (μ : me_M) : Option me_M :=
  me_gi s1 n <|
  k20 l1 (l2 + (1 : Int32)) (me_wl μ 21 s1.toNatClampNeg (s2 + s3))
def fO_stepByShares_20b (N : Nat) (n : Nat) (k2 : Int32 → me_M → Option me_M) (k20 : Int32 → Int32 → me_M → Option me_M) (l1 : Int32) (l2 : Int32) (μ : me_M) : Option me_M :=
  if (nI n) ≤ l2 then
    fO_stepByShares_76 N n k2 l1 μ
  else
    me_gi l1 n <|
    me_gi l1 n <|
    (fA_holds N (μ.1 12 l1.toNatClampNeg) l2).bind fun r16 =>
    if r16 = 0 then
      fO_stepByShares_68 N n k2 k20 l1 l2 l1 (μ.2 21 l1.toNatClampNeg) (0 : Int64) μ
    else
      me_gi l2 n <|
      (fO_linksTo N n μ l2).bind fun r19 =>
      (fO_quotient N (μ.2 20 l2.toNatClampNeg) r19.toInt64).bind fun r20 =>
      fO_stepByShares_68 N n k2 k20 l1 l2 l1 (μ.2 21 l1.toNatClampNeg) r20 μ
def fO_stepByShares_20 (N : Nat) (n : Nat) (k2 : Int32 → me_M → Option me_M) (F : Nat) : Int32 → Int32 → me_M → Option me_M := Nat.rec (motive := fun _ => Int32 → Int32 → me_M → Option me_M) (fun _ _ _ => none) (fun _ k20 => fO_stepByShares_20b N n k2 k20) F
def fO_stepByShares_2b (N : Nat) (n : Nat) (k2 : Int32 → me_M → Option me_M) (l1 : Int32) (μ : me_M) : Option me_M :=
  if (nI n) ≤ l1 then
    fO_stepByShares_82 N n μ
  else
    me_gi l1 n <|
    fO_stepByShares_20 N n k2 N l1 (0 : Int32) (me_wl μ 21 l1.toNatClampNeg (0 : Int64))
def fO_stepByShares_2 (N : Nat) (n : Nat) (F : Nat) : Int32 → me_M → Option me_M := Nat.rec (motive := fun _ => Int32 → me_M → Option me_M) (fun _ _ => none) (fun _ k2 => fO_stepByShares_2b N n k2) F
def fO_stepByShares (N : Nat) (n : Nat) (μ : me_M) : Option me_M :=
  fO_stepByShares_2 N n N (0 : Int32) μ
def fO_stepOnce_98 (N : Nat) (n : Nat) (μ : me_M) : Option me_M :=
  some μ
def fO_stepOnce_58b (N : Nat) (n : Nat) (k58 : Int32 → me_M → Option me_M) (l1 : Int32) (μ : me_M) : Option me_M :=
  if (nI n) ≤ l1 then
    fO_stepOnce_98 N n μ
  else
    me_gi l1 n <|
    me_gi l1 n <|
    k58 (l1 + (1 : Int32)) (me_wl μ 2003 0 ((μ.2 2003 0) + (if 0 < ((μ.2 20 l1.toNatClampNeg) - (μ.2 22 l1.toNatClampNeg)) then ((μ.2 20 l1.toNatClampNeg) - (μ.2 22 l1.toNatClampNeg)) else -((μ.2 20 l1.toNatClampNeg) - (μ.2 22 l1.toNatClampNeg)))))
def fO_stepOnce_58 (N : Nat) (n : Nat) (F : Nat) : Int32 → me_M → Option me_M := Nat.rec (motive := fun _ => Int32 → me_M → Option me_M) (fun _ _ => none) (fun _ k58 => fO_stepOnce_58b N n k58) F
def fO_stepOnce_51 (N : Nat) (n : Nat) (μ : me_M) : Option me_M :=
  fO_stepOnce_58 N n N (0 : Int32) (me_wl μ 2003 0 (0 : Int64))
def fO_stepOnce (N : Nat) (n : Nat) (μ : me_M) : Option me_M :=
  me_gc (0 : Int32) (0 : Int32) (nI n) n n <|
  if ((me_cp μ 20 22 (0 : Int32).toNatClampNeg (0 : Int32).toNatClampNeg (nI n).toNatClampNeg).1 2006 0) = 0 then
    (fO_stepByRank N n (me_cp μ 20 22 (0 : Int32).toNatClampNeg (0 : Int32).toNatClampNeg (nI n).toNatClampNeg)).bind fun r9 =>
    fO_stepOnce_51 N n r9
  else
    if ((me_cp μ 20 22 (0 : Int32).toNatClampNeg (0 : Int32).toNatClampNeg (nI n).toNatClampNeg).1 2006 0) = (1 : Int32) then
      (fO_stepByGreatest N n (me_cp μ 20 22 (0 : Int32).toNatClampNeg (0 : Int32).toNatClampNeg (nI n).toNatClampNeg)).bind fun r8 =>
      fO_stepOnce_51 N n r8
    else
      (fO_stepByShares N n (me_cp μ 20 22 (0 : Int32).toNatClampNeg (0 : Int32).toNatClampNeg (nI n).toNatClampNeg)).bind fun r7 =>
      fO_stepOnce_51 N n r7
def fO_advance_30 (N : Nat) (n : Nat) (l1 : Int32) (μ : me_M) : Option (Int32 × me_M) :=
  some (l1, μ)
def fO_advance_2b (N : Nat) (n : Nat) (k2 : Int32 → Int32 → me_M → Option (Int32 × me_M)) (l1 : Int32) (l2 : Int32) (μ : me_M) : Option (Int32 × me_M) :=
  if l1 ≤ l2 then
    fO_advance_30 N n l1 μ
  else
    (fO_stepOnce N n μ).bind fun r2 =>
    if (lg_cmp (r2.2 2003 0) (0 : Int64)) = 0 then
      some (l2 + (1 : Int32), r2)
    else
      k2 l1 (l2 + (1 : Int32)) r2
def fO_advance_2 (N : Nat) (n : Nat) (F : Nat) : Int32 → Int32 → me_M → Option (Int32 × me_M) := Nat.rec (motive := fun _ => Int32 → Int32 → me_M → Option (Int32 × me_M)) (fun _ _ _ => none) (fun _ k2 => fO_advance_2b N n k2) F
def fO_advance (N : Nat) (n : Nat) (l1 : Int32) (μ : me_M) : Option (Int32 × me_M) :=
  fO_advance_2 N n N l1 (0 : Int32) μ
def fA_step_22 (N : Nat) (n : Nat) (s0 : Int32) (μ : me_M) : Option (Int32 × me_M) :=
  some (s0, μ)
def fA_step (N : Nat) (n : Nat) (l1 : Int32) (μ : me_M) : Option (Int32 × me_M) :=
  (fA_within N l1 (0 : Int32) (20 : Int32)).bind fun r1 =>
  if r1 = 0 then
    fA_step_22 N n (-1 : Int32) μ
  else
    (fO_advance N n l1 μ).bind fun r3 =>
    fA_step_22 N n r3.1 r3.2
def fA_score_23 (N : Nat) (n : Nat) (μ : me_M) (s0 : Int64) : Option Int64 :=
  some s0
def fA_score (N : Nat) (n : Nat) (μ : me_M) (l1 : Int32) : Option Int64 :=
  (fA_isNode N n μ l1).bind fun r1 =>
  if r1 = 0 then
    fA_score_23 N n μ (-1 : Int64)
  else
    me_gi l1 n <|
    fA_score_23 N n μ (μ.2 20 l1.toNatClampNeg)
def fA_hub_23 (N : Nat) (n : Nat) (μ : me_M) (s0 : Int64) : Option Int64 :=
  some s0
def fA_hub (N : Nat) (n : Nat) (μ : me_M) (l1 : Int32) : Option Int64 :=
  (fA_isNode N n μ l1).bind fun r1 =>
  if r1 = 0 then
    fA_hub_23 N n μ (-1 : Int64)
  else
    me_gi l1 n <|
    fA_hub_23 N n μ (μ.2 21 l1.toNatClampNeg)
def fO_placeOf_59 (N : Nat) (n : Nat) (μ : me_M) (l2 : Int32) : Option Int32 :=
  some l2
def fO_placeOf_53 (N : Nat) (n : Nat) (μ : me_M) (k4 : Int32 → Int32 → Int32 → Option Int32) (l1 : Int32) (l2 : Int32) (l3 : Int32) : Option Int32 :=
  k4 l1 l2 (l3 + (1 : Int32))
def fO_placeOf_50 (N : Nat) (n : Nat) (μ : me_M) (k4 : Int32 → Int32 → Int32 → Option Int32) (l1 : Int32) (l2 : Int32) (l3 : Int32) : Option Int32 :=
  fO_placeOf_53 N n μ k4 l1 (l2 + (1 : Int32)) l3
def fO_placeOf_4b (N : Nat) (n : Nat) (μ : me_M) (k4 : Int32 → Int32 → Int32 → Option Int32) (l1 : Int32) (l2 : Int32) (l3 : Int32) : Option Int32 :=
  if (nI n) ≤ l3 then
    fO_placeOf_59 N n μ l2
  else
    me_gi l3 n <|
    me_gi l1 n <|
    if 0 < (lg_cmp (μ.2 20 l3.toNatClampNeg) (μ.2 20 l1.toNatClampNeg)) then
      fO_placeOf_50 N n μ k4 l1 l2 l3
    else
      me_gi l3 n <|
      me_gi l1 n <|
      if (lg_cmp (μ.2 20 l3.toNatClampNeg) (μ.2 20 l1.toNatClampNeg)) = 0 then
        if l1 ≤ l3 then
          fO_placeOf_53 N n μ k4 l1 l2 l3
        else
          fO_placeOf_50 N n μ k4 l1 l2 l3
      else
        fO_placeOf_53 N n μ k4 l1 l2 l3
def fO_placeOf_4 (N : Nat) (n : Nat) (μ : me_M) (F : Nat) : Int32 → Int32 → Int32 → Option Int32 := Nat.rec (motive := fun _ => Int32 → Int32 → Int32 → Option Int32) (fun _ _ _ => none) (fun _ k4 => fO_placeOf_4b N n μ k4) F
def fO_placeOf (N : Nat) (n : Nat) (μ : me_M) (l1 : Int32) : Option Int32 :=
  fO_placeOf_4 N n μ N l1 (0 : Int32) (0 : Int32)
def fA_top_30 (N : Nat) (n : Nat) (μ : me_M) : Option Int32 :=
  some (-1 : Int32)
def fA_top_2b (N : Nat) (n : Nat) (μ : me_M) (k2 : Int32 → Int32 → Option Int32) (l1 : Int32) (l2 : Int32) : Option Int32 :=
  if (nI n) ≤ l2 then
    fA_top_30 N n μ
  else
    (fO_placeOf N n μ l2).bind fun r2 =>
    if r2 = l1 then
      some l2
    else
      k2 l1 (l2 + (1 : Int32))
def fA_top_2 (N : Nat) (n : Nat) (μ : me_M) (F : Nat) : Int32 → Int32 → Option Int32 := Nat.rec (motive := fun _ => Int32 → Int32 → Option Int32) (fun _ _ => none) (fun _ k2 => fA_top_2b N n μ k2) F
def fA_top (N : Nat) (n : Nat) (μ : me_M) (l1 : Int32) : Option Int32 :=
  fA_top_2 N n μ N l1 (0 : Int32)
def fA_change (N : Nat) (n : Nat) (μ : me_M) : Option Int64 :=
  some (μ.2 2003 0)
def fM_ones_24 (N : Nat) (l1 : Int32) : Option Int32 :=
  some l1
def fM_ones_4b (N : Nat) (k4 : Int32 → Int32 → Int32 → Option Int32) (l0 : Int32) (l1 : Int32) (l2 : Int32) : Option Int32 :=
  if (12 : Int32) ≤ l2 then
    fM_ones_24 N l1
  else
    k4 l0 (l1 + ((l0 >>> (l2 &&& 31)) &&& (1 : Int32))) (l2 + (1 : Int32))
def fM_ones_4 (N : Nat) (F : Nat) : Int32 → Int32 → Int32 → Option Int32 := Nat.rec (motive := fun _ => Int32 → Int32 → Int32 → Option Int32) (fun _ _ _ => none) (fun _ k4 => fM_ones_4b N k4) F
def fM_ones (N : Nat) (l0 : Int32) : Option Int32 :=
  fM_ones_4 N N l0 (0 : Int32) (0 : Int32)
def fM_put (N : Nat) (l1 : Int32) (μ : me_M) : Option me_M :=
  me_gi (μ.1 103 0) 2048 <|
  some (me_wi (me_wi μ 2 (μ.1 103 0).toNatClampNeg l1) 103 0 (((me_wi μ 2 (μ.1 103 0).toNatClampNeg l1).1 103 0) + (1 : Int32)))
def fM_putUnary_18 (N : Nat) (μ : me_M) : Option me_M :=
  (fM_put N (1 : Int32) μ).bind fun r1 =>
  some r1
def fM_putUnary_2b (N : Nat) (k2 : Int32 → Int32 → me_M → Option me_M) (l1 : Int32) (l2 : Int32) (μ : me_M) : Option me_M :=
  if l1 ≤ l2 then
    fM_putUnary_18 N μ
  else
    (fM_put N (0 : Int32) μ).bind fun r3 =>
    k2 l1 (l2 + (1 : Int32)) r3
def fM_putUnary_2 (N : Nat) (F : Nat) : Int32 → Int32 → me_M → Option me_M := Nat.rec (motive := fun _ => Int32 → Int32 → me_M → Option me_M) (fun _ _ _ => none) (fun _ k2 => fM_putUnary_2b N k2) F
def fM_putUnary (N : Nat) (l1 : Int32) (μ : me_M) : Option me_M :=
  fM_putUnary_2 N N l1 (0 : Int32) μ
def fM_putNumber_23 (N : Nat) (μ : me_M) : Option me_M :=
  some μ
def fM_putNumber_4b (N : Nat) (k4 : Int32 → Int32 → me_M → Option me_M) (l1 : Int32) (l3 : Int32) (μ : me_M) : Option me_M :=
  if l3 < 0 then
    fM_putNumber_23 N μ
  else
    (fM_put N ((l1 >>> (l3 &&& 31)) &&& (1 : Int32)) μ).bind fun r2 =>
    k4 l1 (l3 + (-1 : Int32)) r2
def fM_putNumber_4 (N : Nat) (F : Nat) : Int32 → Int32 → me_M → Option me_M := Nat.rec (motive := fun _ => Int32 → Int32 → me_M → Option me_M) (fun _ _ _ => none) (fun _ k4 => fM_putNumber_4b N k4) F
def fM_putNumber (N : Nat) (l1 : Int32) (l2 : Int32) (μ : me_M) : Option me_M :=
  fM_putNumber_4 N N l1 (l2 - (1 : Int32)) μ
def fM_putGamma_25 (N : Nat) (l1 : Int32) (l2 : Int32) (μ : me_M) : Option me_M :=
  (fM_putUnary N l2 μ).bind fun r1 =>
  (fM_putNumber N (l1 + (1 : Int32)) l2 r1).bind fun r2 =>
  some r2
def fM_putGamma_2b (N : Nat) (k2 : Int32 → Int32 → me_M → Option me_M) (l1 : Int32) (l2 : Int32) (μ : me_M) : Option me_M :=
  if (20 : Int32) ≤ l2 then
    fM_putGamma_25 N l1 l2 μ
  else
    if (l1 + (1 : Int32)) < ((1 : Int32) <<< ((l2 + (1 : Int32)) &&& 31)) then
      fM_putGamma_25 N l1 l2 μ
    else
      k2 l1 (l2 + (1 : Int32)) μ
def fM_putGamma_2 (N : Nat) (F : Nat) : Int32 → Int32 → me_M → Option me_M := Nat.rec (motive := fun _ => Int32 → Int32 → me_M → Option me_M) (fun _ _ _ => none) (fun _ k2 => fM_putGamma_2b N k2) F
def fM_putGamma (N : Nat) (l1 : Int32) (μ : me_M) : Option me_M :=
  fM_putGamma_2 N N l1 (0 : Int32) μ
def fM_putRuns_117 (N : Nat) (μ : me_M) : Option me_M :=
  some μ
def fM_putRuns_108 (N : Nat) (k78 : Int32 → Int32 → me_M → Option me_M) (l3 : Int32) (l6 : Int32) (s1 : Int32) (μ : me_M) : Option me_M :=
  (fM_putGamma N s1 μ).bind fun r1 =>
  k78 l3 (l6 + (1 : Int32)) r1
def fM_putRuns_78b (N : Nat) (k78 : Int32 → Int32 → me_M → Option me_M) (l3 : Int32) (l6 : Int32) (μ : me_M) : Option me_M :=
  if l3 ≤ l6 then
    fM_putRuns_117 N μ
  else
    if l6 = 0 then
      me_gi (0 : Int32) 13 <|
      fM_putRuns_108 N k78 l3 l6 (μ.1 5 (0 : Int32).toNatClampNeg) μ
    else
      me_gi l6 13 <|
      fM_putRuns_108 N k78 l3 l6 ((μ.1 5 l6.toNatClampNeg) - (1 : Int32)) μ
def fM_putRuns_78 (N : Nat) (F : Nat) : Int32 → Int32 → me_M → Option me_M := Nat.rec (motive := fun _ => Int32 → Int32 → me_M → Option me_M) (fun _ _ _ => none) (fun _ k78 => fM_putRuns_78b N k78) F
def fM_putRuns_70 (N : Nat) (l3 : Int32) (μ : me_M) : Option me_M :=
  (fM_putGamma N l3 μ).bind fun r6 =>
  fM_putRuns_78 N N l3 (0 : Int32) r6
def fM_putRuns_64 (N : Nat) (k11 : Int32 → Int32 → Int32 → Int32 → Int32 → Int32 → me_M → Option me_M) (l1 : Int32) (l2 : Int32) (l3 : Int32) (l4 : Int32) (l5 : Int32) (l6 : Int32) (μ : me_M) : Option me_M :=
  k11 l1 l2 l3 l4 l5 (l6 + (1 : Int32)) μ
def fM_putRuns_61 (N : Nat) (k11 : Int32 → Int32 → Int32 → Int32 → Int32 → Int32 → me_M → Option me_M) (l1 : Int32) (l2 : Int32) (l3 : Int32) (l4 : Int32) (l5 : Int32) (l6 : Int32) (μ : me_M) : Option me_M :=
  fM_putRuns_64 N k11 l1 l2 l3 l4 (l5 + (1 : Int32)) l6 μ
def fM_putRuns_11b (N : Nat) (k11 : Int32 → Int32 → Int32 → Int32 → Int32 → Int32 → me_M → Option me_M) (l1 : Int32) (l2 : Int32) (l3 : Int32) (l4 : Int32) (l5 : Int32) (l6 : Int32) (μ : me_M) : Option me_M :=
  if (μ.1 100 0) ≤ l6 then
    fM_putRuns_70 N l3 μ
  else
    if ((l2 >>> (l6 &&& 31)) &&& (1 : Int32)) = (1 : Int32) then
      if ((l1 >>> (l6 &&& 31)) &&& (1 : Int32)) = l4 then
        fM_putRuns_61 N k11 l1 l2 l3 l4 l5 l6 μ
      else
        me_gi l3 13 <|
        fM_putRuns_61 N k11 l1 l2 (l3 + (1 : Int32)) ((1 : Int32) - l4) (0 : Int32) l6 (me_wi μ 5 l3.toNatClampNeg l5)
    else
      fM_putRuns_64 N k11 l1 l2 l3 l4 l5 l6 μ
def fM_putRuns_11 (N : Nat) (F : Nat) : Int32 → Int32 → Int32 → Int32 → Int32 → Int32 → me_M → Option me_M := Nat.rec (motive := fun _ => Int32 → Int32 → Int32 → Int32 → Int32 → Int32 → me_M → Option me_M) (fun _ _ _ _ _ _ _ => none) (fun _ k11 => fM_putRuns_11b N k11) F
def fM_putRuns (N : Nat) (l1 : Int32) (l2 : Int32) (μ : me_M) : Option me_M :=
  fM_putRuns_11 N N l1 l2 (0 : Int32) (1 : Int32) (0 : Int32) (0 : Int32) μ
def fM_rowAt_54 (N : Nat) (μ : me_M) (l3 : Int32) : Option Int32 :=
  some l3
def fM_rowAt_27b (N : Nat) (μ : me_M) (k27 : Int32 → Int32 → Int32 → Option Int32) (l1 : Int32) (l2 : Int32) (l3 : Int32) : Option Int32 :=
  if (μ.1 100 0) ≤ (l2 + l3) then
    fM_rowAt_54 N μ l3
  else
    if ((l1 >>> ((l2 + l3) &&& 31)) &&& (1 : Int32)) = (1 : Int32) then
      k27 l1 l2 (l3 + (1 : Int32))
    else
      fM_rowAt_54 N μ l3
def fM_rowAt_27 (N : Nat) (μ : me_M) (F : Nat) : Int32 → Int32 → Int32 → Option Int32 := Nat.rec (motive := fun _ => Int32 → Int32 → Int32 → Option Int32) (fun _ _ _ => none) (fun _ k27 => fM_rowAt_27b N μ k27) F
def fM_rowAt_25 (N : Nat) (μ : me_M) (l1 : Int32) (l2 : Int32) : Option Int32 :=
  fM_rowAt_27 N μ N l1 l2 (0 : Int32)
def fM_rowAt_23 (N : Nat) (μ : me_M) : Option Int32 :=
  some (0 : Int32)
def fM_rowAt (N : Nat) (μ : me_M) (l1 : Int32) (l2 : Int32) : Option Int32 :=
  if ((l1 >>> (l2 &&& 31)) &&& (1 : Int32)) = 0 then
    fM_rowAt_23 N μ
  else
    if l2 ≤ 0 then
      fM_rowAt_25 N μ l1 l2
    else
      if ((l1 >>> ((l2 - (1 : Int32)) &&& 31)) &&& (1 : Int32)) = (1 : Int32) then
        fM_rowAt_23 N μ
      else
        fM_rowAt_25 N μ l1 l2
def fM_natural_16 (N : Nat) (s0 : Int32) : Option Int32 :=
  some s0
def fM_natural (N : Nat) (l0 : Int32) : Option Int32 :=
  if l0 < 0 then
    fM_natural_16 N (((-2 : Int32) * l0) - (1 : Int32))
  else
    fM_natural_16 N ((2 : Int32) * l0)
def fM_putZeta_96 (N : Nat) (μ : me_M) : Option me_M :=
  some μ
def fM_putZeta_30 (N : Nat) (l1 : Int32) (l2 : Int32) (μ : me_M) : Option me_M :=
  (fM_putUnary N l2 μ).bind fun r1 =>
  if ((2 : Int32) * ((1 : Int32) <<< ((l2 * (r1.1 108 0)) &&& 31))) ≤ (l1 + (1 : Int32)) then
    (fM_putNumber N (l1 + (1 : Int32)) ((l2 * (r1.1 108 0)) + (r1.1 108 0)) r1).bind fun r3 =>
    fM_putZeta_96 N r3
  else
    (fM_putNumber N ((l1 + (1 : Int32)) - ((1 : Int32) <<< ((l2 * (r1.1 108 0)) &&& 31))) (((l2 * (r1.1 108 0)) + (r1.1 108 0)) - (1 : Int32)) r1).bind fun r4 =>
    fM_putZeta_96 N r4
def fM_putZeta_2b (N : Nat) (k2 : Int32 → Int32 → me_M → Option me_M) (l1 : Int32) (l2 : Int32) (μ : me_M) : Option me_M :=
  if (6 : Int32) ≤ l2 then
    fM_putZeta_30 N l1 l2 μ
  else
    if (l1 + (1 : Int32)) < ((1 : Int32) <<< (((l2 + (1 : Int32)) * (μ.1 108 0)) &&& 31)) then
      fM_putZeta_30 N l1 l2 μ
    else
      k2 l1 (l2 + (1 : Int32)) μ
def fM_putZeta_2 (N : Nat) (F : Nat) : Int32 → Int32 → me_M → Option me_M := Nat.rec (motive := fun _ => Int32 → Int32 → me_M → Option me_M) (fun _ _ _ => none) (fun _ k2 => fM_putZeta_2b N k2) F
def fM_putZeta (N : Nat) (l1 : Int32) (μ : me_M) : Option me_M :=
  fM_putZeta_2 N N l1 (0 : Int32) μ
def fM_putRest_220 (N : Nat) (μ : me_M) : Option me_M :=
  some μ
def fM_putRest_214 (N : Nat) (k165 : Int32 → Int32 → Int32 → Int32 → me_M → Option me_M) (l1 : Int32) (l3 : Int32) (l4 : Int32) (l5 : Int32) (μ : me_M) : Option me_M :=
  k165 l1 l3 l4 (l5 + (1 : Int32)) μ
def fM_putRest_207 (N : Nat) (k165 : Int32 → Int32 → Int32 → Int32 → me_M → Option me_M) (l1 : Int32) (l3 : Int32) (l5 : Int32) (s1 : Int32) (μ : me_M) : Option me_M :=
  (fM_putZeta N s1 μ).bind fun r1 =>
  fM_putRest_214 N k165 l1 l3 l5 l5 r1
def fM_putRest_165b (N : Nat) (k165 : Int32 → Int32 → Int32 → Int32 → me_M → Option me_M) (l1 : Int32) (l3 : Int32) (l4 : Int32) (l5 : Int32) (μ : me_M) : Option me_M :=
  if (μ.1 100 0) ≤ l5 then
    fM_putRest_220 N μ
  else
    if ((l3 >>> (l5 &&& 31)) &&& (1 : Int32)) = (1 : Int32) then
      if 0 ≤ l4 then
        fM_putRest_207 N k165 l1 l3 l5 ((l5 - l4) - (1 : Int32)) μ
      else
        (fM_natural N (l5 - l1)).bind fun r5 =>
        fM_putRest_207 N k165 l1 l3 l5 r5 μ
    else
      fM_putRest_214 N k165 l1 l3 l4 l5 μ
def fM_putRest_165 (N : Nat) (F : Nat) : Int32 → Int32 → Int32 → Int32 → me_M → Option me_M := Nat.rec (motive := fun _ => Int32 → Int32 → Int32 → Int32 → me_M → Option me_M) (fun _ _ _ _ _ => none) (fun _ k165 => fM_putRest_165b N k165) F
def fM_putRest_159 (N : Nat) (l1 : Int32) (l3 : Int32) (μ : me_M) : Option me_M :=
  fM_putRest_165 N N l1 l3 (-1 : Int32) (0 : Int32) μ
def fM_putRest_153 (N : Nat) (k66 : Int32 → Int32 → Int32 → Int32 → Int32 → me_M → Option me_M) (l1 : Int32) (l2 : Int32) (l3 : Int32) (l5 : Int32) (l6 : Int32) (μ : me_M) : Option me_M :=
  k66 l1 l2 l3 l5 (l6 + (1 : Int32)) μ
def fM_putRest_116 (N : Nat) (k66 : Int32 → Int32 → Int32 → Int32 → Int32 → me_M → Option me_M) (l1 : Int32) (l2 : Int32) (l3 : Int32) (l6 : Int32) (l7 : Int32) (s1 : Int32) (μ : me_M) : Option me_M :=
  (fM_putGamma N s1 μ).bind fun r6 =>
  (fM_putGamma N (l7 - (r6.1 107 0)) r6).bind fun r7 =>
  fM_putRest_153 N k66 l1 l2 (l3 &&& (((((1 : Int32) <<< (l7 &&& 31)) - (1 : Int32)) <<< (l6 &&& 31)) ^^^ (-1 : Int32))) ((l6 + l7) - (1 : Int32)) l6 r7
def fM_putRest_66b (N : Nat) (k66 : Int32 → Int32 → Int32 → Int32 → Int32 → me_M → Option me_M) (l1 : Int32) (l2 : Int32) (l3 : Int32) (l5 : Int32) (l6 : Int32) (μ : me_M) : Option me_M :=
  if (μ.1 100 0) ≤ l6 then
    fM_putRest_159 N l1 l3 μ
  else
    (fM_rowAt N μ l2 l6).bind fun r9 =>
    if r9 < (μ.1 107 0) then
      fM_putRest_153 N k66 l1 l2 l3 l5 l6 μ
    else
      if 0 ≤ l5 then
        fM_putRest_116 N k66 l1 l2 l3 l6 r9 ((l6 - l5) - (2 : Int32)) μ
      else
        (fM_natural N (l6 - l1)).bind fun r12 =>
        fM_putRest_116 N k66 l1 l2 l3 l6 r9 r12 μ
def fM_putRest_66 (N : Nat) (F : Nat) : Int32 → Int32 → Int32 → Int32 → Int32 → me_M → Option me_M := Nat.rec (motive := fun _ => Int32 → Int32 → Int32 → Int32 → Int32 → me_M → Option me_M) (fun _ _ _ _ _ _ => none) (fun _ k66 => fM_putRest_66b N k66) F
def fM_putRest_54 (N : Nat) (l1 : Int32) (l2 : Int32) (l3 : Int32) (l4 : Int32) (μ : me_M) : Option me_M :=
  (fM_putGamma N l4 μ).bind fun r13 =>
  fM_putRest_66 N N l1 l2 l3 (-1 : Int32) (0 : Int32) r13
def fM_putRest_45 (N : Nat) (k15 : Int32 → Int32 → Int32 → Int32 → Int32 → me_M → Option me_M) (l1 : Int32) (l2 : Int32) (l3 : Int32) (l5 : Int32) (s0 : Int32) (s1 : Int32) (μ : me_M) : Option me_M :=
  k15 l1 l2 l3 (s0 + s1) (l5 + (1 : Int32)) μ
def fM_putRest_15b (N : Nat) (k15 : Int32 → Int32 → Int32 → Int32 → Int32 → me_M → Option me_M) (l1 : Int32) (l2 : Int32) (l3 : Int32) (l4 : Int32) (l5 : Int32) (μ : me_M) : Option me_M :=
  if (μ.1 100 0) ≤ l5 then
    fM_putRest_54 N l1 l2 l3 l4 μ
  else
    (fM_rowAt N μ l2 l5).bind fun r15 =>
    if r15 < (μ.1 107 0) then
      fM_putRest_45 N k15 l1 l2 l3 l5 l4 (0 : Int32) μ
    else
      fM_putRest_45 N k15 l1 l2 l3 l5 l4 (1 : Int32) μ
def fM_putRest_15 (N : Nat) (F : Nat) : Int32 → Int32 → Int32 → Int32 → Int32 → me_M → Option me_M := Nat.rec (motive := fun _ => Int32 → Int32 → Int32 → Int32 → Int32 → me_M → Option me_M) (fun _ _ _ _ _ _ => none) (fun _ k15 => fM_putRest_15b N k15) F
def fM_putRest (N : Nat) (l1 : Int32) (l2 : Int32) (μ : me_M) : Option me_M :=
  if (μ.1 107 0) ≤ 0 then
    fM_putRest_159 N l1 l2 μ
  else
    fM_putRest_15 N N l1 l2 l2 (0 : Int32) (0 : Int32) μ
def fM_putRecord_78 (N : Nat) (μ : me_M) : Option me_M :=
  some μ
def fM_putRecord_66 (N : Nat) (l1 : Int32) (l4 : Int32) (μ : me_M) : Option me_M :=
  if l4 = 0 then
    fM_putRecord_78 N μ
  else
    (fM_putRest N l1 l4 μ).bind fun r2 =>
    fM_putRecord_78 N r2
def fM_putRecord_32 (N : Nat) (l1 : Int32) (l2 : Int32) (l3 : Int32) (μ : me_M) : Option me_M :=
  if l2 ≤ 0 then
    fM_putRecord_66 N l1 l3 μ
  else
    me_gi (l1 - l2) 12 <|
    (fM_putRuns N l3 (μ.1 1 (l1 - l2).toNatClampNeg) μ).bind fun r5 =>
    me_gi (l1 - l2) 12 <|
    fM_putRecord_66 N l1 (l3 &&& ((r5.1 1 (l1 - l2).toNatClampNeg) ^^^ (-1 : Int32))) r5
def fM_putRecord (N : Nat) (l1 : Int32) (l2 : Int32) (μ : me_M) : Option me_M :=
  me_gi l1 12 <|
  (fM_ones N (μ.1 1 l1.toNatClampNeg)).bind fun r8 =>
  (fM_putGamma N r8 μ).bind fun r9 =>
  if (μ.1 1 l1.toNatClampNeg) = 0 then
    some r9
  else
    if (r9.1 105 0) ≤ 0 then
      fM_putRecord_32 N l1 l2 (μ.1 1 l1.toNatClampNeg) r9
    else
      (fM_putUnary N l2 r9).bind fun r12 =>
      fM_putRecord_32 N l1 l2 (μ.1 1 l1.toNatClampNeg) r12
def fM_pack_281 (N : Nat) (μ : me_M) : Option (Int32 × me_M) :=
  me_gi (μ.1 100 0) 13 <|
  some ((me_wi μ 3 (μ.1 100 0).toNatClampNeg (μ.1 103 0)).1 103 0, me_wi μ 3 (μ.1 100 0).toNatClampNeg (μ.1 103 0))
def fM_pack_274 (N : Nat) (k72 : Int32 → me_M → Option (Int32 × me_M)) (l5 : Int32) (s1 : Int32) (s2 : Int32) (μ : me_M) : Option (Int32 × me_M) :=
  me_gi s1 12 <|
  k72 (l5 + (1 : Int32)) (me_wi μ 4 s1.toNatClampNeg s2)
def fM_pack_239 (N : Nat) (k72 : Int32 → me_M → Option (Int32 × me_M)) (l5 : Int32) (l6 : Int32) (μ : me_M) : Option (Int32 × me_M) :=
  (fM_putRecord N l5 l6 μ).bind fun r3 =>
  if l6 ≤ 0 then
    fM_pack_274 N k72 l5 l5 (0 : Int32) r3
  else
    me_gi (l5 - l6) 12 <|
    fM_pack_274 N k72 l5 l5 ((1 : Int32) + (r3.1 4 (l5 - l6).toNatClampNeg)) r3
def fM_pack_233 (N : Nat) (k72 : Int32 → me_M → Option (Int32 × me_M)) (k102 : Int32 → Int32 → Int32 → Int32 → me_M → Option (Int32 × me_M)) (l5 : Int32) (l6 : Int32) (l7 : Int32) (l8 : Int32) (μ : me_M) : Option (Int32 × me_M) :=
  k102 l5 l6 l7 (l8 + (1 : Int32)) μ
def fM_pack_231 (N : Nat) (k72 : Int32 → me_M → Option (Int32 × me_M)) (k102 : Int32 → Int32 → Int32 → Int32 → me_M → Option (Int32 × me_M)) (l5 : Int32) (l6 : Int32) (l8 : Int32) (s0 : Int32) (μ : me_M) : Option (Int32 × me_M) :=
  fM_pack_233 N k72 k102 l5 l6 s0 l8 μ
def fM_pack_215 (N : Nat) (k72 : Int32 → me_M → Option (Int32 × me_M)) (k102 : Int32 → Int32 → Int32 → Int32 → me_M → Option (Int32 × me_M)) (l5 : Int32) (l7 : Int32) (l8 : Int32) (l9 : Int32) (s0 : Int32) (μ : me_M) : Option (Int32 × me_M) :=
  if l7 ≤ l9 then
    fM_pack_231 N k72 k102 l5 s0 l8 l7 μ
  else
    fM_pack_231 N k72 k102 l5 s0 l8 l9 μ
def fM_pack_168 (N : Nat) (k72 : Int32 → me_M → Option (Int32 × me_M)) (k102 : Int32 → Int32 → Int32 → Int32 → me_M → Option (Int32 × me_M)) (l5 : Int32) (l6 : Int32) (l7 : Int32) (l8 : Int32) (μ : me_M) : Option (Int32 × me_M) :=
  (fM_putRecord N l5 l8 μ).bind fun r7 =>
  me_gi l5 13 <|
  me_gi l5 13 <|
  if l7 ≤ ((r7.1 103 0) - (r7.1 3 l5.toNatClampNeg)) then
    fM_pack_215 N k72 k102 l5 l7 l8 ((r7.1 103 0) - (r7.1 3 l5.toNatClampNeg)) l6 (me_wi r7 103 0 (r7.1 3 l5.toNatClampNeg))
  else
    fM_pack_215 N k72 k102 l5 l7 l8 ((r7.1 103 0) - (r7.1 3 l5.toNatClampNeg)) l8 (me_wi r7 103 0 (r7.1 3 l5.toNatClampNeg))
def fM_pack_133 (N : Nat) (k72 : Int32 → me_M → Option (Int32 × me_M)) (k102 : Int32 → Int32 → Int32 → Int32 → me_M → Option (Int32 × me_M)) (l5 : Int32) (l6 : Int32) (l7 : Int32) (l8 : Int32) (μ : me_M) : Option (Int32 × me_M) :=
  if l8 = 0 then
    fM_pack_168 N k72 k102 l5 l6 l7 l8 μ
  else
    me_gi (l5 - l8) 12 <|
    if (μ.1 1 (l5 - l8).toNatClampNeg) = 0 then
      fM_pack_233 N k72 k102 l5 l6 l7 l8 μ
    else
      me_gi (l5 - l8) 12 <|
      if (μ.1 106 0) ≤ (μ.1 4 (l5 - l8).toNatClampNeg) then
        fM_pack_233 N k72 k102 l5 l6 l7 l8 μ
      else
        fM_pack_168 N k72 k102 l5 l6 l7 l8 μ
def fM_pack_102b (N : Nat) (k72 : Int32 → me_M → Option (Int32 × me_M)) (k102 : Int32 → Int32 → Int32 → Int32 → me_M → Option (Int32 × me_M)) (l5 : Int32) (l6 : Int32) (l7 : Int32) (l8 : Int32) (μ : me_M) : Option (Int32 × me_M) :=
  if (μ.1 105 0) < l8 then
    fM_pack_239 N k72 l5 l6 μ
  else
    if l5 < l8 then
      fM_pack_239 N k72 l5 l6 μ
    else
      if l8 = 0 then
        fM_pack_133 N k72 k102 l5 l6 l7 l8 μ
      else
        me_gi l5 12 <|
        if (μ.1 1 l5.toNatClampNeg) = 0 then
          fM_pack_239 N k72 l5 l6 μ
        else
          fM_pack_133 N k72 k102 l5 l6 l7 l8 μ
def fM_pack_102 (N : Nat) (k72 : Int32 → me_M → Option (Int32 × me_M)) (F : Nat) : Int32 → Int32 → Int32 → Int32 → me_M → Option (Int32 × me_M) := Nat.rec (motive := fun _ => Int32 → Int32 → Int32 → Int32 → me_M → Option (Int32 × me_M)) (fun _ _ _ _ _ => none) (fun _ k102 => fM_pack_102b N k72 k102) F
def fM_pack_72b (N : Nat) (k72 : Int32 → me_M → Option (Int32 × me_M)) (l5 : Int32) (μ : me_M) : Option (Int32 × me_M) :=
  if (μ.1 100 0) ≤ l5 then
    fM_pack_281 N μ
  else
    me_gi l5 13 <|
    fM_pack_102 N k72 N l5 (0 : Int32) (1048576 : Int32) (0 : Int32) (me_wi μ 3 l5.toNatClampNeg (μ.1 103 0))
def fM_pack_72 (N : Nat) (F : Nat) : Int32 → me_M → Option (Int32 × me_M) := Nat.rec (motive := fun _ => Int32 → me_M → Option (Int32 × me_M)) (fun _ _ => none) (fun _ k72 => fM_pack_72b N k72) F
def fM_pack_41 (N : Nat) (μ : me_M) : Option (Int32 × me_M) :=
  some ((-1 : Int32), μ)
def fM_pack (N : Nat) (l1 : Int32) (l2 : Int32) (l3 : Int32) (l4 : Int32) (μ : me_M) : Option (Int32 × me_M) :=
  if l1 < 0 then
    fM_pack_41 N μ
  else
    if (6 : Int32) < l1 then
      fM_pack_41 N μ
    else
      if l2 < 0 then
        fM_pack_41 N μ
      else
        if (3 : Int32) < l2 then
          fM_pack_41 N μ
        else
          if l3 < 0 then
            fM_pack_41 N μ
          else
            if (9 : Int32) < l3 then
              fM_pack_41 N μ
            else
              if l4 < (1 : Int32) then
                fM_pack_41 N μ
              else
                if l4 ≤ (4 : Int32) then
                  fM_pack_72 N N (0 : Int32) (me_wi (me_wi (me_wi (me_wi (me_wi μ 105 0 l1) 106 0 l2) 107 0 l3) 108 0 l4) 103 0 (0 : Int32))
                else
                  fM_pack_41 N μ
def fM_start_97 (N : Nat) (μ : me_M) : Option (Int32 × me_M) :=
  me_gz (1 : Int32) <|
  some ((1 : Int32), μ)
def fM_start_90 (N : Nat) (k39 : Int32 → Int32 → me_M → Option (Int32 × me_M)) (l1 : Int32) (l3 : Int32) (s1 : Int32) (s2 : Int64) (μ : me_M) : Option (Int32 × me_M) :=
  me_gi s1 12 <|
  k39 l1 (l3 + (1 : Int32)) (me_wl μ 12 s1.toNatClampNeg s2)
def fM_start_72 (N : Nat) (k39 : Int32 → Int32 → me_M → Option (Int32 × me_M)) (l1 : Int32) (l3 : Int32) (s1 : Int32) (s2 : Int64) (μ : me_M) : Option (Int32 × me_M) :=
  me_gi s1 12 <|
  if l1 = (1 : Int32) then
    fM_start_90 N k39 l1 l3 l3 (1000000 : Int64) (me_wl μ 11 s1.toNatClampNeg s2)
  else
    fM_start_90 N k39 l1 l3 l3 (0 : Int64) (me_wl μ 11 s1.toNatClampNeg s2)
def fM_start_39b (N : Nat) (k39 : Int32 → Int32 → me_M → Option (Int32 × me_M)) (l1 : Int32) (l3 : Int32) (μ : me_M) : Option (Int32 × me_M) :=
  if (μ.1 100 0) ≤ l3 then
    fM_start_97 N μ
  else
    if l1 = (1 : Int32) then
      fM_start_72 N k39 l1 l3 l3 (1000000 : Int64) μ
    else
      me_gd ((μ.1 100 0).toInt64) 0 <|
      fM_start_72 N k39 l1 l3 l3 ((1000000000000 : Int64) / ((μ.1 100 0).toInt64)) μ
def fM_start_39 (N : Nat) (F : Nat) : Int32 → Int32 → me_M → Option (Int32 × me_M) := Nat.rec (motive := fun _ => Int32 → Int32 → me_M → Option (Int32 × me_M)) (fun _ _ _ => none) (fun _ k39 => fM_start_39b N k39) F
def fM_start_20 (N : Nat) (μ : me_M) : Option (Int32 × me_M) :=
  me_gz (0 : Int32) <|
  some ((0 : Int32), μ)
def fM_start (N : Nat) (l1 : Int32) (l2 : Int32) (μ : me_M) : Option (Int32 × me_M) :=
  if l1 < 0 then
    fM_start_20 N μ
  else
    if (2 : Int32) < l1 then
      fM_start_20 N μ
    else
      if l2 < 0 then
        fM_start_20 N μ
      else
        if l2 ≤ (1000 : Int32) then
          fM_start_39 N N l1 (0 : Int32) (me_wl (me_wi (me_wi μ 120 0 l1) 121 0 l2) 125 0 (0 : Int64))
        else
          fM_start_20 N μ
def fM_node_17 (N : Nat) (μ : me_M) (s0 : Int32) : Option Int32 :=
  me_gz s0 <|
  some s0
def fM_node_16 (N : Nat) (μ : me_M) : Option Int32 :=
  fM_node_17 N μ (0 : Int32)
def fM_node (N : Nat) (μ : me_M) (l1 : Int32) : Option Int32 :=
  if l1 < 0 then
    fM_node_16 N μ
  else
    if (μ.1 100 0) ≤ l1 then
      fM_node_16 N μ
    else
      fM_node_17 N μ (1 : Int32)
def fM_add_30 (N : Nat) (μ : me_M) : Option (Int32 × me_M) :=
  me_gz (0 : Int32) <|
  some ((0 : Int32), μ)
def fM_add (N : Nat) (l1 : Int32) (l2 : Int32) (μ : me_M) : Option (Int32 × me_M) :=
  (fM_node N μ l1).bind fun r2 =>
  if r2 = 0 then
    fM_add_30 N μ
  else
    (fM_node N μ l2).bind fun r4 =>
    if r4 = 0 then
      fM_add_30 N μ
    else
      me_gi l1 12 <|
      if (((μ.1 1 l1.toNatClampNeg) >>> (l2 &&& 31)) &&& (1 : Int32)) = (1 : Int32) then
        fM_add_30 N μ
      else
        me_gi l1 12 <|
        me_gi l1 12 <|
        me_gz (1 : Int32) <|
        some ((1 : Int32), me_wi μ 1 l1.toNatClampNeg ((μ.1 1 l1.toNatClampNeg) ||| ((1 : Int32) <<< (l2 &&& 31))))
def fM_drop_29 (N : Nat) (μ : me_M) : Option (Int32 × me_M) :=
  me_gz (0 : Int32) <|
  some ((0 : Int32), μ)
def fM_drop (N : Nat) (l1 : Int32) (l2 : Int32) (μ : me_M) : Option (Int32 × me_M) :=
  (fM_node N μ l1).bind fun r2 =>
  if r2 = 0 then
    fM_drop_29 N μ
  else
    (fM_node N μ l2).bind fun r4 =>
    if r4 = 0 then
      fM_drop_29 N μ
    else
      me_gi l1 12 <|
      if (((μ.1 1 l1.toNatClampNeg) >>> (l2 &&& 31)) &&& (1 : Int32)) = 0 then
        fM_drop_29 N μ
      else
        me_gi l1 12 <|
        me_gi l1 12 <|
        me_gz (1 : Int32) <|
        some ((1 : Int32), me_wi μ 1 l1.toNatClampNeg ((μ.1 1 l1.toNatClampNeg) &&& (((1 : Int32) <<< (l2 &&& 31)) ^^^ (-1 : Int32))))
def fM_whole_18 (N : Nat) (s0 : Int32) : Option Int32 :=
  some s0
def fM_whole (N : Nat) (l0 : Int32) : Option Int32 :=
  if (l0 &&& (1 : Int32)) = 0 then
    fM_whole_18 N (l0 >>> ((1 : Int32) &&& 31))
  else
    fM_whole_18 N (-((l0 + (1 : Int32)) >>> ((1 : Int32) &&& 31)))
def fM_offset_22 (N : Nat) (μ : me_M) (s0 : Int32) : Option Int32 :=
  some s0
def fM_offset_21 (N : Nat) (μ : me_M) : Option Int32 :=
  fM_offset_22 N μ (-1 : Int32)
def fM_offset (N : Nat) (μ : me_M) (l1 : Int32) : Option Int32 :=
  if l1 < 0 then
    fM_offset_21 N μ
  else
    if (μ.1 100 0) < l1 then
      fM_offset_21 N μ
    else
      me_gi l1 13 <|
      fM_offset_22 N μ (μ.1 3 l1.toNatClampNeg)
def fM_bit_22 (N : Nat) (μ : me_M) (s0 : Int32) : Option Int32 :=
  some s0
def fM_bit_21 (N : Nat) (μ : me_M) : Option Int32 :=
  fM_bit_22 N μ (-1 : Int32)
def fM_bit (N : Nat) (μ : me_M) (l1 : Int32) : Option Int32 :=
  if l1 < 0 then
    fM_bit_21 N μ
  else
    if (μ.1 103 0) ≤ l1 then
      fM_bit_21 N μ
    else
      me_gi l1 2048 <|
      fM_bit_22 N μ (μ.1 2 l1.toNatClampNeg)
def fM_flip_12 (N : Nat) (μ : me_M) : Option (Int32 × me_M) :=
  me_gz (0 : Int32) <|
  some ((0 : Int32), μ)
def fM_flip (N : Nat) (l1 : Int32) (μ : me_M) : Option (Int32 × me_M) :=
  if l1 < 0 then
    fM_flip_12 N μ
  else
    if l1 < (μ.1 103 0) then
      me_gi l1 2048 <|
      me_gi l1 2048 <|
      me_gz (1 : Int32) <|
      some ((1 : Int32), me_wi μ 2 l1.toNatClampNeg ((1 : Int32) - (μ.1 2 l1.toNatClampNeg)))
    else
      fM_flip_12 N μ
def fM_next_34 (N : Nat) (s1 : Int32) (μ : me_M) : Option (Int32 × me_M) :=
  some ((0 : Int32), me_wi μ 112 0 s1)
def fM_next_18 (N : Nat) (μ : me_M) : Option (Int32 × me_M) :=
  if (μ.1 112 0) ≤ 0 then
    fM_next_34 N (1 : Int32) μ
  else
    fM_next_34 N (μ.1 112 0) μ
def fM_next (N : Nat) (μ : me_M) : Option (Int32 × me_M) :=
  if 0 < (μ.1 112 0) then
    fM_next_18 N μ
  else
    if (μ.1 111 0) < (μ.1 103 0) then
      me_gi (((me_wi μ 111 0 ((μ.1 111 0) + (1 : Int32))).1 111 0) - (1 : Int32)) 2048 <|
      some ((me_wi μ 111 0 ((μ.1 111 0) + (1 : Int32))).1 2 (((me_wi μ 111 0 ((μ.1 111 0) + (1 : Int32))).1 111 0) - (1 : Int32)).toNatClampNeg, me_wi μ 111 0 ((μ.1 111 0) + (1 : Int32)))
    else
      fM_next_18 N μ
def fM_nextUnary_52 (N : Nat) (s0 : Int32) (μ : me_M) : Option (Int32 × me_M) :=
  some (s0, μ)
def fM_nextUnary_40 (N : Nat) (l1 : Int32) (μ : me_M) : Option (Int32 × me_M) :=
  if (μ.1 112 0) ≤ 0 then
    fM_nextUnary_52 N l1 μ
  else
    fM_nextUnary_52 N (0 : Int32) μ
def fM_nextUnary_2b (N : Nat) (k2 : Int32 → me_M → Option (Int32 × me_M)) (l1 : Int32) (μ : me_M) : Option (Int32 × me_M) :=
  if (μ.1 112 0) = 0 then
    (fM_next N μ).bind fun r3 =>
    if r3.1 = 0 then
      if (r3.2.1 112 0) = 0 then
        if (l1 + (1 : Int32)) = (7 : Int32) then
          k2 (l1 + (1 : Int32)) (me_wi r3.2 112 0 (2 : Int32))
        else
          k2 (l1 + (1 : Int32)) r3.2
      else
        k2 (l1 + (1 : Int32)) r3.2
    else
      fM_nextUnary_40 N l1 r3.2
  else
    fM_nextUnary_40 N l1 μ
def fM_nextUnary_2 (N : Nat) (F : Nat) : Int32 → me_M → Option (Int32 × me_M) := Nat.rec (motive := fun _ => Int32 → me_M → Option (Int32 × me_M)) (fun _ _ => none) (fun _ k2 => fM_nextUnary_2b N k2) F
def fM_nextUnary (N : Nat) (μ : me_M) : Option (Int32 × me_M) :=
  fM_nextUnary_2 N N (0 : Int32) μ
def fM_nextNumber_24 (N : Nat) (l2 : Int32) (μ : me_M) : Option (Int32 × me_M) :=
  some (l2, μ)
def fM_nextNumber_4b (N : Nat) (k4 : Int32 → Int32 → Int32 → me_M → Option (Int32 × me_M)) (l1 : Int32) (l2 : Int32) (l3 : Int32) (μ : me_M) : Option (Int32 × me_M) :=
  if l1 ≤ l3 then
    fM_nextNumber_24 N l2 μ
  else
    (fM_next N μ).bind fun r2 =>
    k4 l1 (((2 : Int32) * l2) + r2.1) (l3 + (1 : Int32)) r2.2
def fM_nextNumber_4 (N : Nat) (F : Nat) : Int32 → Int32 → Int32 → me_M → Option (Int32 × me_M) := Nat.rec (motive := fun _ => Int32 → Int32 → Int32 → me_M → Option (Int32 × me_M)) (fun _ _ _ _ => none) (fun _ k4 => fM_nextNumber_4b N k4) F
def fM_nextNumber (N : Nat) (l1 : Int32) (μ : me_M) : Option (Int32 × me_M) :=
  fM_nextNumber_4 N N l1 (0 : Int32) (0 : Int32) μ
def fM_nextGamma (N : Nat) (μ : me_M) : Option (Int32 × me_M) :=
  (fM_nextUnary N μ).bind fun r1 =>
  (fM_nextNumber N r1.1 r1.2).bind fun r2 =>
  some ((((1 : Int32) <<< (r1.1 &&& 31)) - (1 : Int32)) + r2.1, r2.2)
def fM_nextZeta (N : Nat) (μ : me_M) : Option (Int32 × me_M) :=
  (fM_nextUnary N μ).bind fun r1 =>
  (fM_nextNumber N (((r1.1 * (r1.2.1 108 0)) + (r1.2.1 108 0)) - (1 : Int32)) r1.2).bind fun r2 =>
  if ((1 : Int32) <<< ((r1.1 * (r2.2.1 108 0)) &&& 31)) ≤ r2.1 then
    (fM_next N r2.2).bind fun r4 =>
    some ((((2 : Int32) * r2.1) + r4.1) - (1 : Int32), r4.2)
  else
    some ((r2.1 + ((1 : Int32) <<< ((r1.1 * (r2.2.1 108 0)) &&& 31))) - (1 : Int32), r2.2)
def fM_take_25 (N : Nat) (l1 : Int32) (s1 : Int32) (μ : me_M) : Option me_M :=
  me_gz s1 <|
  some (me_wi (me_wi μ 114 0 s1) 113 0 (((me_wi μ 114 0 s1).1 113 0) ||| ((1 : Int32) <<< (l1 &&& 31))))
def fM_take_20 (N : Nat) (l1 : Int32) (μ : me_M) : Option me_M :=
  fM_take_25 N l1 (1 : Int32) μ
def fM_take (N : Nat) (l1 : Int32) (μ : me_M) : Option me_M :=
  if (μ.1 114 0) = 0 then
    if (((μ.1 113 0) >>> (l1 &&& 31)) &&& (1 : Int32)) = (1 : Int32) then
      fM_take_20 N l1 μ
    else
      fM_take_25 N l1 (0 : Int32) μ
  else
    fM_take_20 N l1 μ
def fM_copy_52 (N : Nat) (μ : me_M) : Option me_M :=
  some μ
def fM_copy_46 (N : Nat) (k6 : Int32 → Int32 → Int32 → Int32 → Int32 → me_M → Option me_M) (l1 : Int32) (l2 : Int32) (l3 : Int32) (l4 : Int32) (l5 : Int32) (μ : me_M) : Option me_M :=
  k6 l1 l2 l3 l4 (l5 + (1 : Int32)) μ
def fM_copy_43 (N : Nat) (k6 : Int32 → Int32 → Int32 → Int32 → Int32 → me_M → Option me_M) (l1 : Int32) (l2 : Int32) (l3 : Int32) (l4 : Int32) (l5 : Int32) (μ : me_M) : Option me_M :=
  fM_copy_46 N k6 l1 l2 l3 (l4 + (1 : Int32)) l5 μ
def fM_copy_6b (N : Nat) (k6 : Int32 → Int32 → Int32 → Int32 → Int32 → me_M → Option me_M) (l1 : Int32) (l2 : Int32) (l3 : Int32) (l4 : Int32) (l5 : Int32) (μ : me_M) : Option me_M :=
  if (μ.1 100 0) ≤ l5 then
    fM_copy_52 N μ
  else
    if ((l1 >>> (l5 &&& 31)) &&& (1 : Int32)) = (1 : Int32) then
      if l4 < l2 then
        fM_copy_43 N k6 l1 l2 l3 l4 l5 μ
      else
        if l3 ≤ l4 then
          fM_copy_43 N k6 l1 l2 l3 l4 l5 μ
        else
          (fM_take N l5 μ).bind fun r5 =>
          fM_copy_43 N k6 l1 l2 l3 l4 l5 r5
    else
      fM_copy_46 N k6 l1 l2 l3 l4 l5 μ
def fM_copy_6 (N : Nat) (F : Nat) : Int32 → Int32 → Int32 → Int32 → Int32 → me_M → Option me_M := Nat.rec (motive := fun _ => Int32 → Int32 → Int32 → Int32 → Int32 → me_M → Option me_M) (fun _ _ _ _ _ _ => none) (fun _ k6 => fM_copy_6b N k6) F
def fM_copy (N : Nat) (l1 : Int32) (l2 : Int32) (l3 : Int32) (μ : me_M) : Option me_M :=
  fM_copy_6 N N l1 l2 l3 (0 : Int32) (0 : Int32) μ
def fM_readRuns_149 (N : Nat) (μ : me_M) : Option me_M :=
  some μ
def fM_readRuns_125 (N : Nat) (l2 : Int32) (μ : me_M) : Option me_M :=
  if (μ.1 112 0) = 0 then
    (fM_ones N (μ.1 113 0)).bind fun r2 =>
    if r2 ≤ l2 then
      fM_readRuns_149 N μ
    else
      fM_readRuns_149 N (me_wi μ 112 0 (6 : Int32))
  else
    fM_readRuns_149 N μ
def fM_readRuns_103 (N : Nat) (l1 : Int32) (l2 : Int32) (l3 : Int32) (l4 : Int32) (μ : me_M) : Option me_M :=
  if (μ.1 112 0) = 0 then
    if (l3 - l3 / (2 : Int32) * (2 : Int32)) = 0 then
      (fM_copy N l1 l4 (12 : Int32) μ).bind fun r7 =>
      fM_readRuns_125 N l2 r7
    else
      fM_readRuns_125 N l2 μ
  else
    fM_readRuns_125 N l2 μ
def fM_readRuns_97 (N : Nat) (k11 : Int32 → Int32 → Int32 → Int32 → Int32 → me_M → Option me_M) (l1 : Int32) (l2 : Int32) (l3 : Int32) (l4 : Int32) (l5 : Int32) (μ : me_M) : Option me_M :=
  k11 l1 l2 l3 l4 (l5 + (1 : Int32)) μ
def fM_readRuns_74 (N : Nat) (k11 : Int32 → Int32 → Int32 → Int32 → Int32 → me_M → Option me_M) (l1 : Int32) (l2 : Int32) (l3 : Int32) (l4 : Int32) (l5 : Int32) (l7 : Int32) (μ : me_M) : Option me_M :=
  if (μ.1 112 0) = 0 then
    if (l5 - l5 / (2 : Int32) * (2 : Int32)) = 0 then
      (fM_copy N l1 l7 l4 μ).bind fun r11 =>
      fM_readRuns_97 N k11 l1 l2 l3 l4 l5 r11
    else
      fM_readRuns_97 N k11 l1 l2 l3 l4 l5 μ
  else
    fM_readRuns_97 N k11 l1 l2 l3 l4 l5 μ
def fM_readRuns_38 (N : Nat) (k11 : Int32 → Int32 → Int32 → Int32 → Int32 → me_M → Option me_M) (l1 : Int32) (l2 : Int32) (l3 : Int32) (l4 : Int32) (l5 : Int32) (s0 : Int32) (s1 : Int32) (μ : me_M) : Option me_M :=
  if (μ.1 112 0) = 0 then
    (fM_ones N l1).bind fun r13 =>
    if (l4 + (s0 + s1)) ≤ r13 then
      fM_readRuns_74 N k11 l1 l2 l3 (l4 + (s0 + s1)) l5 l4 μ
    else
      fM_readRuns_74 N k11 l1 l2 l3 (l4 + (s0 + s1)) l5 l4 (me_wi μ 112 0 (6 : Int32))
  else
    fM_readRuns_74 N k11 l1 l2 l3 (l4 + (s0 + s1)) l5 l4 μ
def fM_readRuns_11b (N : Nat) (k11 : Int32 → Int32 → Int32 → Int32 → Int32 → me_M → Option me_M) (l1 : Int32) (l2 : Int32) (l3 : Int32) (l4 : Int32) (l5 : Int32) (μ : me_M) : Option me_M :=
  if l3 ≤ l5 then
    fM_readRuns_103 N l1 l2 l3 l4 μ
  else
    if (μ.1 112 0) = 0 then
      (fM_nextGamma N μ).bind fun r17 =>
      if l5 ≤ 0 then
        fM_readRuns_38 N k11 l1 l2 l3 l4 l5 r17.1 (0 : Int32) r17.2
      else
        fM_readRuns_38 N k11 l1 l2 l3 l4 l5 r17.1 (1 : Int32) r17.2
    else
      fM_readRuns_103 N l1 l2 l3 l4 μ
def fM_readRuns_11 (N : Nat) (F : Nat) : Int32 → Int32 → Int32 → Int32 → Int32 → me_M → Option me_M := Nat.rec (motive := fun _ => Int32 → Int32 → Int32 → Int32 → Int32 → me_M → Option me_M) (fun _ _ _ _ _ _ => none) (fun _ k11 => fM_readRuns_11b N k11) F
def fM_readRuns (N : Nat) (l1 : Int32) (l2 : Int32) (μ : me_M) : Option me_M :=
  (fM_nextGamma N μ).bind fun r19 =>
  fM_readRuns_11 N N l1 l2 r19.1 (0 : Int32) (0 : Int32) r19.2
def fM_readIntervals_172 (N : Nat) (l4 : Int32) (μ : me_M) : Option (Int32 × me_M) :=
  some (l4, μ)
def fM_readIntervals_166 (N : Nat) (k14 : Int32 → Int32 → Int32 → Int32 → Int32 → Int32 → me_M → Option (Int32 × me_M)) (l1 : Int32) (l2 : Int32) (l3 : Int32) (l4 : Int32) (l5 : Int32) (l6 : Int32) (μ : me_M) : Option (Int32 × me_M) :=
  k14 l1 l2 l3 l4 l5 (l6 + (1 : Int32)) μ
def fM_readIntervals_140b (N : Nat) (k14 : Int32 → Int32 → Int32 → Int32 → Int32 → Int32 → me_M → Option (Int32 × me_M)) (k140 : Int32 → Int32 → Int32 → Int32 → Int32 → Int32 → Int32 → me_M → Option (Int32 × me_M)) (l1 : Int32) (l2 : Int32) (l3 : Int32) (l4 : Int32) (l5 : Int32) (l6 : Int32) (l10 : Int32) (μ : me_M) : Option (Int32 × me_M) :=
  if l5 < l10 then
    fM_readIntervals_166 N k14 l1 l2 l3 l4 l5 l6 μ
  else
    if (μ.1 112 0) = 0 then
      (fM_take N l10 μ).bind fun r3 =>
      k140 l1 l2 l3 l4 l5 l6 (l10 + (1 : Int32)) r3
    else
      fM_readIntervals_166 N k14 l1 l2 l3 l4 l5 l6 μ
def fM_readIntervals_140 (N : Nat) (k14 : Int32 → Int32 → Int32 → Int32 → Int32 → Int32 → me_M → Option (Int32 × me_M)) (F : Nat) : Int32 → Int32 → Int32 → Int32 → Int32 → Int32 → Int32 → me_M → Option (Int32 × me_M) := Nat.rec (motive := fun _ => Int32 → Int32 → Int32 → Int32 → Int32 → Int32 → Int32 → me_M → Option (Int32 × me_M)) (fun _ _ _ _ _ _ _ _ => none) (fun _ k140 => fM_readIntervals_140b N k14 k140) F
def fM_readIntervals_136 (N : Nat) (k14 : Int32 → Int32 → Int32 → Int32 → Int32 → Int32 → me_M → Option (Int32 × me_M)) (l1 : Int32) (l2 : Int32) (l3 : Int32) (l4 : Int32) (l5 : Int32) (l6 : Int32) (l8 : Int32) (μ : me_M) : Option (Int32 × me_M) :=
  fM_readIntervals_140 N k14 N l1 l2 l3 l4 l5 l6 l8 μ
def fM_readIntervals_130 (N : Nat) (k14 : Int32 → Int32 → Int32 → Int32 → Int32 → Int32 → me_M → Option (Int32 × me_M)) (l1 : Int32) (l2 : Int32) (l3 : Int32) (l4 : Int32) (l5 : Int32) (l6 : Int32) (l8 : Int32) (μ : me_M) : Option (Int32 × me_M) :=
  fM_readIntervals_136 N k14 l1 l2 l3 l4 l5 l6 l8 (me_wi μ 112 0 (7 : Int32))
def fM_readIntervals_79 (N : Nat) (k14 : Int32 → Int32 → Int32 → Int32 → Int32 → Int32 → me_M → Option (Int32 × me_M)) (l1 : Int32) (l2 : Int32) (l3 : Int32) (l4 : Int32) (l6 : Int32) (l8 : Int32) (μ : me_M) : Option (Int32 × me_M) :=
  (fM_nextGamma N μ).bind fun r4 =>
  if (r4.2.1 112 0) = 0 then
    if ((r4.2.1 100 0) - (1 : Int32)) < ((l8 + (r4.1 + (r4.2.1 107 0))) - (1 : Int32)) then
      fM_readIntervals_130 N k14 l1 l2 l3 (l4 + (r4.1 + (r4.2.1 107 0))) ((l8 + (r4.1 + (r4.2.1 107 0))) - (1 : Int32)) l6 l8 r4.2
    else
      if (l4 + (r4.1 + (r4.2.1 107 0))) ≤ l2 then
        fM_readIntervals_136 N k14 l1 l2 l3 (l4 + (r4.1 + (r4.2.1 107 0))) ((l8 + (r4.1 + (r4.2.1 107 0))) - (1 : Int32)) l6 l8 r4.2
      else
        fM_readIntervals_130 N k14 l1 l2 l3 (l4 + (r4.1 + (r4.2.1 107 0))) ((l8 + (r4.1 + (r4.2.1 107 0))) - (1 : Int32)) l6 l8 r4.2
  else
    fM_readIntervals_136 N k14 l1 l2 l3 (l4 + (r4.1 + (r4.2.1 107 0))) ((l8 + (r4.1 + (r4.2.1 107 0))) - (1 : Int32)) l6 l8 r4.2
def fM_readIntervals_55 (N : Nat) (k14 : Int32 → Int32 → Int32 → Int32 → Int32 → Int32 → me_M → Option (Int32 × me_M)) (l1 : Int32) (l2 : Int32) (l3 : Int32) (l4 : Int32) (l6 : Int32) (s0 : Int32) (μ : me_M) : Option (Int32 × me_M) :=
  if (μ.1 112 0) = 0 then
    (fM_node N μ s0).bind fun r9 =>
    if r9 = 0 then
      fM_readIntervals_79 N k14 l1 l2 l3 l4 l6 s0 (me_wi μ 112 0 (7 : Int32))
    else
      fM_readIntervals_79 N k14 l1 l2 l3 l4 l6 s0 μ
  else
    fM_readIntervals_79 N k14 l1 l2 l3 l4 l6 s0 μ
def fM_readIntervals_14b (N : Nat) (k14 : Int32 → Int32 → Int32 → Int32 → Int32 → Int32 → me_M → Option (Int32 × me_M)) (l1 : Int32) (l2 : Int32) (l3 : Int32) (l4 : Int32) (l5 : Int32) (l6 : Int32) (μ : me_M) : Option (Int32 × me_M) :=
  if l3 ≤ l6 then
    fM_readIntervals_172 N l4 μ
  else
    if (μ.1 112 0) = 0 then
      (fM_nextGamma N μ).bind fun r13 =>
      if l6 = 0 then
        (fM_whole N r13.1).bind fun r15 =>
        fM_readIntervals_55 N k14 l1 l2 l3 l4 l6 (l1 + r15) r13.2
      else
        fM_readIntervals_55 N k14 l1 l2 l3 l4 l6 ((l5 + (2 : Int32)) + r13.1) r13.2
    else
      fM_readIntervals_172 N l4 μ
def fM_readIntervals_14 (N : Nat) (F : Nat) : Int32 → Int32 → Int32 → Int32 → Int32 → Int32 → me_M → Option (Int32 × me_M) := Nat.rec (motive := fun _ => Int32 → Int32 → Int32 → Int32 → Int32 → Int32 → me_M → Option (Int32 × me_M)) (fun _ _ _ _ _ _ _ => none) (fun _ k14 => fM_readIntervals_14b N k14) F
def fM_readIntervals (N : Nat) (l1 : Int32) (l2 : Int32) (μ : me_M) : Option (Int32 × me_M) :=
  (fM_nextGamma N μ).bind fun r16 =>
  fM_readIntervals_14 N N l1 l2 r16.1 (0 : Int32) (0 : Int32) (0 : Int32) r16.2
def fM_readParts_273 (N : Nat) (μ : me_M) : Option me_M :=
  some μ
def fM_readParts_263 (N : Nat) (k184 : Int32 → Int32 → Int32 → Int32 → me_M → Option me_M) (l1 : Int32) (l5 : Int32) (l7 : Int32) (l9 : Int32) (μ : me_M) : Option me_M :=
  k184 l1 l5 l9 (l7 + (1 : Int32)) μ
def fM_readParts_250 (N : Nat) (k184 : Int32 → Int32 → Int32 → Int32 → me_M → Option me_M) (l1 : Int32) (l5 : Int32) (l7 : Int32) (l9 : Int32) (μ : me_M) : Option me_M :=
  if (μ.1 112 0) = 0 then
    (fM_take N l9 μ).bind fun r2 =>
    fM_readParts_263 N k184 l1 l5 l7 l9 r2
  else
    fM_readParts_263 N k184 l1 l5 l7 l9 μ
def fM_readParts_226 (N : Nat) (k184 : Int32 → Int32 → Int32 → Int32 → me_M → Option me_M) (l1 : Int32) (l5 : Int32) (l7 : Int32) (s0 : Int32) (μ : me_M) : Option me_M :=
  if (μ.1 112 0) = 0 then
    (fM_node N μ s0).bind fun r4 =>
    if r4 = 0 then
      fM_readParts_250 N k184 l1 l5 l7 s0 (me_wi μ 112 0 (8 : Int32))
    else
      fM_readParts_250 N k184 l1 l5 l7 s0 μ
  else
    fM_readParts_250 N k184 l1 l5 l7 s0 μ
def fM_readParts_184b (N : Nat) (k184 : Int32 → Int32 → Int32 → Int32 → me_M → Option me_M) (l1 : Int32) (l5 : Int32) (l6 : Int32) (l7 : Int32) (μ : me_M) : Option me_M :=
  if l5 ≤ l7 then
    fM_readParts_273 N μ
  else
    if (μ.1 112 0) = 0 then
      (fM_nextZeta N μ).bind fun r8 =>
      if l7 = 0 then
        (fM_whole N r8.1).bind fun r10 =>
        fM_readParts_226 N k184 l1 l5 l7 (l1 + r10) r8.2
      else
        fM_readParts_226 N k184 l1 l5 l7 ((l6 + (1 : Int32)) + r8.1) r8.2
    else
      fM_readParts_273 N μ
def fM_readParts_184 (N : Nat) (F : Nat) : Int32 → Int32 → Int32 → Int32 → me_M → Option me_M := Nat.rec (motive := fun _ => Int32 → Int32 → Int32 → Int32 → me_M → Option me_M) (fun _ _ _ _ _ => none) (fun _ k184 => fM_readParts_184b N k184) F
def fM_readParts_176 (N : Nat) (l1 : Int32) (s0 : Int32) (μ : me_M) : Option me_M :=
  fM_readParts_184 N N l1 s0 (0 : Int32) (0 : Int32) μ
def fM_readParts_153 (N : Nat) (μ : me_M) : Option me_M :=
  some μ
def fM_readParts_130 (N : Nat) (l1 : Int32) (l2 : Int32) (μ : me_M) : Option me_M :=
  (fM_ones N (μ.1 113 0)).bind fun r11 =>
  if 0 < (μ.1 112 0) then
    fM_readParts_153 N μ
  else
    if (l2 - r11) = 0 then
      fM_readParts_153 N μ
    else
      if (μ.1 107 0) ≤ 0 then
        fM_readParts_176 N l1 (l2 - r11) μ
      else
        (fM_readIntervals N l1 (l2 - r11) μ).bind fun r15 =>
        fM_readParts_176 N l1 ((l2 - r11) - r15.1) r15.2
def fM_readParts_83 (N : Nat) (l1 : Int32) (l2 : Int32) (l3 : Int32) (μ : me_M) : Option me_M :=
  if (μ.1 112 0) = 0 then
    if l3 ≤ 0 then
      fM_readParts_130 N l1 l2 μ
    else
      me_gi l1 12 <|
      me_gi (l1 - l3) 12 <|
      me_gi l1 12 <|
      me_gi (l1 - l3) 12 <|
      (fM_readRuns N ((me_wi (me_wi μ 8 l1.toNatClampNeg l3) 9 l1.toNatClampNeg ((1 : Int32) + ((me_wi μ 8 l1.toNatClampNeg l3).1 9 (l1 - l3).toNatClampNeg))).1 6 (l1 - l3).toNatClampNeg) l2 (me_wi (me_wi μ 8 l1.toNatClampNeg l3) 9 l1.toNatClampNeg ((1 : Int32) + ((me_wi μ 8 l1.toNatClampNeg l3).1 9 (l1 - l3).toNatClampNeg)))).bind fun r22 =>
      fM_readParts_130 N l1 l2 r22
  else
    fM_readParts_130 N l1 l2 μ
def fM_readParts_78 (N : Nat) (l1 : Int32) (l2 : Int32) (l3 : Int32) (μ : me_M) : Option me_M :=
  fM_readParts_83 N l1 l2 l3 (me_wi μ 112 0 (5 : Int32))
def fM_readParts_41 (N : Nat) (l1 : Int32) (l2 : Int32) (l3 : Int32) (μ : me_M) : Option me_M :=
  if (μ.1 112 0) = 0 then
    if l3 ≤ 0 then
      fM_readParts_83 N l1 l2 l3 μ
    else
      me_gi (l1 - l3) 12 <|
      if 0 < (μ.1 7 (l1 - l3).toNatClampNeg) then
        fM_readParts_78 N l1 l2 l3 μ
      else
        me_gi (l1 - l3) 12 <|
        if (μ.1 9 (l1 - l3).toNatClampNeg) < (μ.1 106 0) then
          fM_readParts_83 N l1 l2 l3 μ
        else
          fM_readParts_78 N l1 l2 l3 μ
  else
    fM_readParts_83 N l1 l2 l3 μ
def fM_readParts_36 (N : Nat) (l1 : Int32) (l2 : Int32) (l3 : Int32) (μ : me_M) : Option me_M :=
  fM_readParts_41 N l1 l2 l3 (me_wi μ 112 0 (4 : Int32))
def fM_readParts_15 (N : Nat) (l1 : Int32) (l2 : Int32) (s0 : Int32) (μ : me_M) : Option me_M :=
  if (μ.1 112 0) = 0 then
    if (μ.1 105 0) < s0 then
      fM_readParts_36 N l1 l2 s0 μ
    else
      if s0 ≤ l1 then
        fM_readParts_41 N l1 l2 s0 μ
      else
        fM_readParts_36 N l1 l2 s0 μ
  else
    fM_readParts_41 N l1 l2 s0 μ
def fM_readParts (N : Nat) (l1 : Int32) (l2 : Int32) (μ : me_M) : Option me_M :=
  if (μ.1 105 0) ≤ 0 then
    fM_readParts_15 N l1 l2 (0 : Int32) μ
  else
    (fM_nextUnary N μ).bind fun r33 =>
    fM_readParts_15 N l1 l2 r33.1 r33.2
def fM_read_176 (N : Nat) (μ : me_M) : Option me_M :=
  some μ
def fM_read_169 (N : Nat) (k2 : Int32 → me_M → Option me_M) (l1 : Int32) (s1 : Int32) (s2 : Int32) (μ : me_M) : Option me_M :=
  me_gi s1 12 <|
  k2 (l1 + (1 : Int32)) (me_wi μ 6 s1.toNatClampNeg s2)
def fM_read_139 (N : Nat) (k2 : Int32 → me_M → Option me_M) (l1 : Int32) (μ : me_M) : Option me_M :=
  me_gi l1 12 <|
  if ((me_wi μ 7 l1.toNatClampNeg (μ.1 112 0)).1 112 0) ≤ 0 then
    fM_read_169 N k2 l1 l1 ((me_wi μ 7 l1.toNatClampNeg (μ.1 112 0)).1 113 0) (me_wi μ 7 l1.toNatClampNeg (μ.1 112 0))
  else
    fM_read_169 N k2 l1 l1 (0 : Int32) (me_wi μ 7 l1.toNatClampNeg (μ.1 112 0))
def fM_read_111 (N : Nat) (k2 : Int32 → me_M → Option me_M) (l1 : Int32) (μ : me_M) : Option me_M :=
  if (μ.1 112 0) = 0 then
    me_gi (l1 + (1 : Int32)) 13 <|
    if (μ.1 111 0) = (μ.1 3 (l1 + (1 : Int32)).toNatClampNeg) then
      fM_read_139 N k2 l1 μ
    else
      fM_read_139 N k2 l1 (me_wi μ 112 0 (10 : Int32))
  else
    fM_read_139 N k2 l1 μ
def fM_read_91 (N : Nat) (k2 : Int32 → me_M → Option me_M) (l1 : Int32) (μ : me_M) : Option me_M :=
  if (μ.1 112 0) = 0 then
    if (μ.1 114 0) = 0 then
      fM_read_111 N k2 l1 μ
    else
      fM_read_111 N k2 l1 (me_wi μ 112 0 (9 : Int32))
  else
    fM_read_111 N k2 l1 μ
def fM_read_74 (N : Nat) (k2 : Int32 → me_M → Option me_M) (l1 : Int32) (l2 : Int32) (μ : me_M) : Option me_M :=
  if (μ.1 112 0) = 0 then
    if l2 ≤ 0 then
      fM_read_91 N k2 l1 μ
    else
      (fM_readParts N l1 l2 μ).bind fun r11 =>
      fM_read_91 N k2 l1 r11
  else
    fM_read_91 N k2 l1 μ
def fM_read_2b (N : Nat) (k2 : Int32 → me_M → Option me_M) (l1 : Int32) (μ : me_M) : Option me_M :=
  if (μ.1 100 0) ≤ l1 then
    fM_read_176 N μ
  else
    me_gi l1 13 <|
    me_gi l1 12 <|
    me_gi l1 12 <|
    (fM_nextGamma N (me_wi (me_wi (me_wi (me_wi (me_wi (me_wi μ 111 0 (μ.1 3 l1.toNatClampNeg)) 112 0 (0 : Int32)) 113 0 (0 : Int32)) 114 0 (0 : Int32)) 8 l1.toNatClampNeg (0 : Int32)) 9 l1.toNatClampNeg (0 : Int32))).bind fun r16 =>
    if (r16.2.1 112 0) = 0 then
      if r16.1 ≤ (r16.2.1 100 0) then
        fM_read_74 N k2 l1 r16.1 r16.2
      else
        fM_read_74 N k2 l1 r16.1 (me_wi r16.2 112 0 (3 : Int32))
    else
      fM_read_74 N k2 l1 r16.1 r16.2
def fM_read_2 (N : Nat) (F : Nat) : Int32 → me_M → Option me_M := Nat.rec (motive := fun _ => Int32 → me_M → Option me_M) (fun _ _ => none) (fun _ k2 => fM_read_2b N k2) F
def fM_read (N : Nat) (μ : me_M) : Option me_M :=
  fM_read_2 N N (0 : Int32) μ
def fM_degree_43 (N : Nat) (s0 : Int32) (μ : me_M) : Option (Int32 × me_M) :=
  some (s0, μ)
def fM_degree (N : Nat) (l1 : Int32) (μ : me_M) : Option (Int32 × me_M) :=
  (fM_node N μ l1).bind fun r1 =>
  if r1 = 0 then
    some ((-100 : Int32), μ)
  else
    (fM_read N μ).bind fun r3 =>
    me_gi l1 12 <|
    if (r3.1 7 l1.toNatClampNeg) ≤ 0 then
      me_gi l1 12 <|
      (fM_ones N (r3.1 6 l1.toNatClampNeg)).bind fun r7 =>
      fM_degree_43 N r7 r3
    else
      me_gi l1 12 <|
      fM_degree_43 N (-(r3.1 7 l1.toNatClampNeg)) r3
def fM_successor_64 (N : Nat) (μ : me_M) : Option (Int32 × me_M) :=
  some ((-1 : Int32), μ)
def fM_successor_58 (N : Nat) (k23 : Int32 → Int32 → Int32 → Int32 → me_M → Option (Int32 × me_M)) (l1 : Int32) (l2 : Int32) (l3 : Int32) (l4 : Int32) (μ : me_M) : Option (Int32 × me_M) :=
  k23 l1 l2 l3 (l4 + (1 : Int32)) μ
def fM_successor_23b (N : Nat) (k23 : Int32 → Int32 → Int32 → Int32 → me_M → Option (Int32 × me_M)) (l1 : Int32) (l2 : Int32) (l3 : Int32) (l4 : Int32) (μ : me_M) : Option (Int32 × me_M) :=
  if (μ.1 100 0) ≤ l4 then
    fM_successor_64 N μ
  else
    me_gi l1 12 <|
    if (((μ.1 6 l1.toNatClampNeg) >>> (l4 &&& 31)) &&& (1 : Int32)) = (1 : Int32) then
      if l3 = l2 then
        some (l4, μ)
      else
        fM_successor_58 N k23 l1 l2 (l3 + (1 : Int32)) l4 μ
    else
      fM_successor_58 N k23 l1 l2 l3 l4 μ
def fM_successor_23 (N : Nat) (F : Nat) : Int32 → Int32 → Int32 → Int32 → me_M → Option (Int32 × me_M) := Nat.rec (motive := fun _ => Int32 → Int32 → Int32 → Int32 → me_M → Option (Int32 × me_M)) (fun _ _ _ _ _ => none) (fun _ k23 => fM_successor_23b N k23) F
def fM_successor_12 (N : Nat) (μ : me_M) : Option (Int32 × me_M) :=
  some ((-1 : Int32), μ)
def fM_successor (N : Nat) (l1 : Int32) (l2 : Int32) (μ : me_M) : Option (Int32 × me_M) :=
  (fM_node N μ l1).bind fun r5 =>
  if r5 = 0 then
    fM_successor_12 N μ
  else
    if 0 ≤ l2 then
      (fM_read N μ).bind fun r8 =>
      fM_successor_23 N N l1 l2 (0 : Int32) (0 : Int32) r8
    else
      fM_successor_12 N μ
def fM_reference_33 (N : Nat) (s0 : Int32) (μ : me_M) : Option (Int32 × me_M) :=
  some (s0, μ)
def fM_reference (N : Nat) (l1 : Int32) (μ : me_M) : Option (Int32 × me_M) :=
  (fM_node N μ l1).bind fun r1 =>
  if r1 = 0 then
    some ((-1 : Int32), μ)
  else
    (fM_read N μ).bind fun r3 =>
    me_gi l1 12 <|
    if (r3.1 7 l1.toNatClampNeg) ≤ 0 then
      me_gi l1 12 <|
      fM_reference_33 N (r3.1 8 l1.toNatClampNeg) r3
    else
      fM_reference_33 N (-1 : Int32) r3
def fM_together_56 (N : Nat) (μ : me_M) (l2 : Int32) : Option Int32 :=
  some l2
def fM_together_48 (N : Nat) (μ : me_M) (k4 : Int32 → Int32 → Int32 → Option Int32) (l1 : Int32) (l3 : Int32) (s0 : Int32) (s1 : Int32) : Option Int32 :=
  k4 l1 (s0 ||| s1) (l3 + (1 : Int32))
def fM_together_47 (N : Nat) (μ : me_M) (k4 : Int32 → Int32 → Int32 → Option Int32) (l1 : Int32) (l3 : Int32) (s0 : Int32) : Option Int32 :=
  fM_together_48 N μ k4 l1 l3 s0 (0 : Int32)
def fM_together_4b (N : Nat) (μ : me_M) (k4 : Int32 → Int32 → Int32 → Option Int32) (l1 : Int32) (l2 : Int32) (l3 : Int32) : Option Int32 :=
  if (μ.1 100 0) ≤ l3 then
    fM_together_56 N μ l2
  else
    me_gi l1 12 <|
    if (((μ.1 14 l1.toNatClampNeg) >>> (l3 &&& 31)) &&& (1 : Int32)) = (1 : Int32) then
      me_gi l3 12 <|
      if (((μ.1 14 l3.toNatClampNeg) >>> (l1 &&& 31)) &&& (1 : Int32)) = (1 : Int32) then
        fM_together_48 N μ k4 l1 l3 l2 ((1 : Int32) <<< (l3 &&& 31))
      else
        fM_together_47 N μ k4 l1 l3 l2
    else
      fM_together_47 N μ k4 l1 l3 l2
def fM_together_4 (N : Nat) (μ : me_M) (F : Nat) : Int32 → Int32 → Int32 → Option Int32 := Nat.rec (motive := fun _ => Int32 → Int32 → Int32 → Option Int32) (fun _ _ _ => none) (fun _ k4 => fM_together_4b N μ k4) F
def fM_together (N : Nat) (μ : me_M) (l1 : Int32) : Option Int32 :=
  fM_together_4 N μ N l1 (0 : Int32) (0 : Int32)
def fM_firstReady_91 (N : Nat) (μ : me_M) : Option Int32 :=
  some (-1 : Int32)
def fM_firstReady_85 (N : Nat) (μ : me_M) (k2 : Int32 → Int32 → Option Int32) (l1 : Int32) (l2 : Int32) : Option Int32 :=
  k2 l1 (l2 + (1 : Int32))
def fM_firstReady_72 (N : Nat) (μ : me_M) (k2 : Int32 → Int32 → Option Int32) (l1 : Int32) (l2 : Int32) (l3 : Int32) (l4 : Int32) : Option Int32 :=
  if (l4 &&& ((l3 ||| l1) ^^^ (-1 : Int32))) = 0 then
    some l2
  else
    fM_firstReady_85 N μ k2 l1 l2
def fM_firstReady_63 (N : Nat) (μ : me_M) (k2 : Int32 → Int32 → Option Int32) (k31 : Int32 → Int32 → Int32 → Int32 → Int32 → Option Int32) (l1 : Int32) (l2 : Int32) (l3 : Int32) (l5 : Int32) (s0 : Int32) (s1 : Int32) : Option Int32 :=
  k31 l1 l2 l3 (s0 ||| s1) (l5 + (1 : Int32))
def fM_firstReady_31b (N : Nat) (μ : me_M) (k2 : Int32 → Int32 → Option Int32) (k31 : Int32 → Int32 → Int32 → Int32 → Int32 → Option Int32) (l1 : Int32) (l2 : Int32) (l3 : Int32) (l4 : Int32) (l5 : Int32) : Option Int32 :=
  if (μ.1 100 0) ≤ l5 then
    fM_firstReady_72 N μ k2 l1 l2 l3 l4
  else
    if ((l3 >>> (l5 &&& 31)) &&& (1 : Int32)) = (1 : Int32) then
      me_gi l5 12 <|
      fM_firstReady_63 N μ k2 k31 l1 l2 l3 l5 l4 (μ.1 6 l5.toNatClampNeg)
    else
      fM_firstReady_63 N μ k2 k31 l1 l2 l3 l5 l4 (0 : Int32)
def fM_firstReady_31 (N : Nat) (μ : me_M) (k2 : Int32 → Int32 → Option Int32) (F : Nat) : Int32 → Int32 → Int32 → Int32 → Int32 → Option Int32 := Nat.rec (motive := fun _ => Int32 → Int32 → Int32 → Int32 → Int32 → Option Int32) (fun _ _ _ _ _ => none) (fun _ k31 => fM_firstReady_31b N μ k2 k31) F
def fM_firstReady_2b (N : Nat) (μ : me_M) (k2 : Int32 → Int32 → Option Int32) (l1 : Int32) (l2 : Int32) : Option Int32 :=
  if (μ.1 100 0) ≤ l2 then
    fM_firstReady_91 N μ
  else
    me_gi l2 12 <|
    if 0 ≤ (μ.1 15 l2.toNatClampNeg) then
      fM_firstReady_85 N μ k2 l1 l2
    else
      (fM_together N μ l2).bind fun r8 =>
      fM_firstReady_31 N μ k2 N l1 l2 r8 (0 : Int32) (0 : Int32)
def fM_firstReady_2 (N : Nat) (μ : me_M) (F : Nat) : Int32 → Int32 → Option Int32 := Nat.rec (motive := fun _ => Int32 → Int32 → Option Int32) (fun _ _ => none) (fun _ k2 => fM_firstReady_2b N μ k2) F
def fM_firstReady (N : Nat) (μ : me_M) (l1 : Int32) : Option Int32 :=
  fM_firstReady_2 N μ N l1 (0 : Int32)
def fM_count_213 (N : Nat) (μ : me_M) : Option me_M :=
  some μ
def fM_count_207 (N : Nat) (k117 : Int32 → Int32 → me_M → Option me_M) (l1 : Int32) (l2 : Int32) (μ : me_M) : Option me_M :=
  k117 l1 (l2 + (1 : Int32)) μ
def fM_count_192 (N : Nat) (k117 : Int32 → Int32 → me_M → Option me_M) (l1 : Int32) (l2 : Int32) (l4 : Int32) (μ : me_M) : Option me_M :=
  fM_count_207 N k117 (l1 ||| l4) l2 (me_wi μ 128 0 ((μ.1 128 0) + (1 : Int32)))
def fM_count_185 (N : Nat) (k117 : Int32 → Int32 → me_M → Option me_M) (k145 : Int32 → Int32 → Int32 → Int32 → me_M → Option me_M) (l1 : Int32) (l2 : Int32) (l4 : Int32) (l5 : Int32) (s1 : Int32) (s2 : Int32) (μ : me_M) : Option me_M :=
  me_gi s1 12 <|
  k145 l1 l2 l4 (l5 + (1 : Int32)) (me_wi μ 15 s1.toNatClampNeg s2)
def fM_count_145b (N : Nat) (k117 : Int32 → Int32 → me_M → Option me_M) (k145 : Int32 → Int32 → Int32 → Int32 → me_M → Option me_M) (l1 : Int32) (l2 : Int32) (l4 : Int32) (l5 : Int32) (μ : me_M) : Option me_M :=
  if (μ.1 100 0) ≤ l5 then
    fM_count_192 N k117 l1 l2 l4 μ
  else
    if ((l4 >>> (l5 &&& 31)) &&& (1 : Int32)) = (1 : Int32) then
      fM_count_185 N k117 k145 l1 l2 l4 l5 l5 (μ.1 128 0) μ
    else
      me_gi l5 12 <|
      fM_count_185 N k117 k145 l1 l2 l4 l5 l5 (μ.1 15 l5.toNatClampNeg) μ
def fM_count_145 (N : Nat) (k117 : Int32 → Int32 → me_M → Option me_M) (F : Nat) : Int32 → Int32 → Int32 → Int32 → me_M → Option me_M := Nat.rec (motive := fun _ => Int32 → Int32 → Int32 → Int32 → me_M → Option me_M) (fun _ _ _ _ _ => none) (fun _ k145 => fM_count_145b N k117 k145) F
def fM_count_117b (N : Nat) (k117 : Int32 → Int32 → me_M → Option me_M) (l1 : Int32) (l2 : Int32) (μ : me_M) : Option me_M :=
  if (μ.1 100 0) ≤ l2 then
    fM_count_213 N μ
  else
    (fM_firstReady N μ l1).bind fun r6 =>
    if r6 < 0 then
      fM_count_207 N k117 l1 l2 μ
    else
      (fM_together N μ r6).bind fun r8 =>
      fM_count_145 N k117 N l1 l2 r8 (0 : Int32) μ
def fM_count_117 (N : Nat) (F : Nat) : Int32 → Int32 → me_M → Option me_M := Nat.rec (motive := fun _ => Int32 → Int32 → me_M → Option me_M) (fun _ _ _ => none) (fun _ k117 => fM_count_117b N k117) F
def fM_count_108 (N : Nat) (μ : me_M) : Option me_M :=
  fM_count_117 N N (0 : Int32) (0 : Int32) (me_wi μ 128 0 (0 : Int32))
def fM_count_102 (N : Nat) (k45 : Int32 → me_M → Option me_M) (l1 : Int32) (μ : me_M) : Option me_M :=
  k45 (l1 + (1 : Int32)) μ
def fM_count_94 (N : Nat) (k45 : Int32 → me_M → Option me_M) (k55 : Int32 → Int32 → me_M → Option me_M) (l1 : Int32) (l2 : Int32) (s1 : Int32) (s2 : Int32) (s3 : Int32) (μ : me_M) : Option me_M :=
  me_gi s1 12 <|
  k55 l1 (l2 + (1 : Int32)) (me_wi μ 14 s1.toNatClampNeg (s2 ||| s3))
def fM_count_55b (N : Nat) (k45 : Int32 → me_M → Option me_M) (k55 : Int32 → Int32 → me_M → Option me_M) (l1 : Int32) (l2 : Int32) (μ : me_M) : Option me_M :=
  if (μ.1 100 0) ≤ l2 then
    fM_count_102 N k45 l1 μ
  else
    me_gi l2 12 <|
    me_gi l2 12 <|
    if (((μ.1 14 l2.toNatClampNeg) >>> (l1 &&& 31)) &&& (1 : Int32)) = (1 : Int32) then
      me_gi l1 12 <|
      fM_count_94 N k45 k55 l1 l2 l2 (μ.1 14 l2.toNatClampNeg) (μ.1 14 l1.toNatClampNeg) μ
    else
      fM_count_94 N k45 k55 l1 l2 l2 (μ.1 14 l2.toNatClampNeg) (0 : Int32) μ
def fM_count_55 (N : Nat) (k45 : Int32 → me_M → Option me_M) (F : Nat) : Int32 → Int32 → me_M → Option me_M := Nat.rec (motive := fun _ => Int32 → Int32 → me_M → Option me_M) (fun _ _ _ => none) (fun _ k55 => fM_count_55b N k45 k55) F
def fM_count_45b (N : Nat) (k45 : Int32 → me_M → Option me_M) (l1 : Int32) (μ : me_M) : Option me_M :=
  if (μ.1 100 0) ≤ l1 then
    fM_count_108 N μ
  else
    fM_count_55 N k45 N l1 (0 : Int32) μ
def fM_count_45 (N : Nat) (F : Nat) : Int32 → me_M → Option me_M := Nat.rec (motive := fun _ => Int32 → me_M → Option me_M) (fun _ _ => none) (fun _ k45 => fM_count_45b N k45) F
def fM_count_43 (N : Nat) (μ : me_M) : Option me_M :=
  fM_count_45 N N (0 : Int32) μ
def fM_count_6b (N : Nat) (k6 : Int32 → me_M → Option me_M) (l1 : Int32) (μ : me_M) : Option me_M :=
  if (μ.1 100 0) ≤ l1 then
    fM_count_43 N μ
  else
    me_gi l1 12 <|
    me_gi l1 12 <|
    me_gi l1 12 <|
    k6 (l1 + (1 : Int32)) (me_wi (me_wi μ 14 l1.toNatClampNeg ((μ.1 6 l1.toNatClampNeg) ||| ((1 : Int32) <<< (l1 &&& 31)))) 15 l1.toNatClampNeg (-1 : Int32))
def fM_count_6 (N : Nat) (F : Nat) : Int32 → me_M → Option me_M := Nat.rec (motive := fun _ => Int32 → me_M → Option me_M) (fun _ _ => none) (fun _ k6 => fM_count_6b N k6) F
def fM_count (N : Nat) (μ : me_M) : Option me_M :=
  (fM_read N μ).bind fun r20 =>
  fM_count_6 N N (0 : Int32) r20
def fM_components (N : Nat) (μ : me_M) : Option (Int32 × me_M) :=
  (fM_count N μ).bind fun r1 =>
  some (r1.1 128 0, r1)
def fM_component (N : Nat) (l1 : Int32) (μ : me_M) : Option (Int32 × me_M) :=
  (fM_node N μ l1).bind fun r1 =>
  if r1 = 0 then
    some ((-1 : Int32), μ)
  else
    (fM_count N μ).bind fun r3 =>
    me_gi l1 12 <|
    some (r3.1 15 l1.toNatClampNeg, r3)
def fM_total_27 (N : Nat) (μ : me_M) (l1 : Int32) : Option Int32 :=
  some l1
def fM_total_4b (N : Nat) (μ : me_M) (k4 : Int32 → Int32 → Option Int32) (l1 : Int32) (l2 : Int32) : Option Int32 :=
  if (μ.1 100 0) ≤ l2 then
    fM_total_27 N μ l1
  else
    me_gi l2 12 <|
    k4 (l1 + (μ.1 10 l2.toNatClampNeg)) (l2 + (1 : Int32))
def fM_total_4 (N : Nat) (μ : me_M) (F : Nat) : Int32 → Int32 → Option Int32 := Nat.rec (motive := fun _ => Int32 → Int32 → Option Int32) (fun _ _ => none) (fun _ k4 => fM_total_4b N μ k4) F
def fM_total (N : Nat) (μ : me_M) : Option Int32 :=
  fM_total_4 N μ N (0 : Int32) (0 : Int32)
def fM_prefer_37 (N : Nat) (l1 : Int32) (l2 : Int32) (μ : me_M) : Option (Int32 × me_M) :=
  me_gi l1 12 <|
  me_gz (1 : Int32) <|
  some ((1 : Int32), me_wi μ 10 l1.toNatClampNeg l2)
def fM_prefer_35 (N : Nat) (μ : me_M) : Option (Int32 × me_M) :=
  me_gz (0 : Int32) <|
  some ((0 : Int32), μ)
def fM_prefer (N : Nat) (l1 : Int32) (l2 : Int32) (μ : me_M) : Option (Int32 × me_M) :=
  (fM_node N μ l1).bind fun r4 =>
  if r4 = 0 then
    fM_prefer_35 N μ
  else
    if l2 < 0 then
      fM_prefer_35 N μ
    else
      if (100 : Int32) < l2 then
        fM_prefer_35 N μ
      else
        if l2 = 0 then
          (fM_total N μ).bind fun r9 =>
          me_gi l1 12 <|
          if r9 = (μ.1 10 l1.toNatClampNeg) then
            fM_prefer_35 N μ
          else
            fM_prefer_37 N l1 l2 μ
        else
          fM_prefer_37 N l1 l2 μ
def fM_links_19 (N : Nat) (μ : me_M) (s0 : Int32) : Option Int32 :=
  me_gz s0 <|
  some s0
def fM_links (N : Nat) (μ : me_M) (l1 : Int32) (l2 : Int32) : Option Int32 :=
  me_gi l1 12 <|
  if (((μ.1 6 l1.toNatClampNeg) >>> (l2 &&& 31)) &&& (1 : Int32)) = (1 : Int32) then
    fM_links_19 N μ (1 : Int32)
  else
    fM_links_19 N μ (0 : Int32)
def fM_into_35 (N : Nat) (μ : me_M) (l2 : Int32) : Option Int32 :=
  some l2
def fM_into_27 (N : Nat) (μ : me_M) (k4 : Int32 → Int32 → Int32 → Option Int32) (l1 : Int32) (l3 : Int32) (s0 : Int32) (s1 : Int32) : Option Int32 :=
  k4 l1 (s0 + s1) (l3 + (1 : Int32))
def fM_into_4b (N : Nat) (μ : me_M) (k4 : Int32 → Int32 → Int32 → Option Int32) (l1 : Int32) (l2 : Int32) (l3 : Int32) : Option Int32 :=
  if (μ.1 100 0) ≤ l3 then
    fM_into_35 N μ l2
  else
    (fM_links N μ l3 l1).bind fun r2 =>
    if r2 = 0 then
      fM_into_27 N μ k4 l1 l3 l2 (0 : Int32)
    else
      fM_into_27 N μ k4 l1 l3 l2 (1 : Int32)
def fM_into_4 (N : Nat) (μ : me_M) (F : Nat) : Int32 → Int32 → Int32 → Option Int32 := Nat.rec (motive := fun _ => Int32 → Int32 → Int32 → Option Int32) (fun _ _ _ => none) (fun _ k4 => fM_into_4b N μ k4) F
def fM_into (N : Nat) (μ : me_M) (l1 : Int32) : Option Int32 :=
  fM_into_4 N μ N l1 (0 : Int32) (0 : Int32)
def fM_stepRank_185 (N : Nat) (μ : me_M) : Option me_M :=
  some μ
def fM_stepRank_122 (N : Nat) (k53 : Int64 → Int64 → Int32 → me_M → Option me_M) (l1 : Int64) (l3 : Int64) (l5 : Int32) (l6 : Int64) (μ : me_M) : Option me_M :=
  me_gi l5 12 <|
  me_gd l1 0 <|
  me_gi l5 12 <|
  me_gd l1 0 <|
  me_gi l5 12 <|
  k53 l1 l3 (l5 + (1 : Int32)) (me_wl μ 13 l5.toNatClampNeg (((((((1000 : Int32) - (μ.1 121 0)).toInt64) * (1000000000 : Int64)) * ((μ.1 10 l5.toNatClampNeg).toInt64)) / l1) + ((((μ.1 121 0).toInt64) * (l6 + ((l3 * ((μ.1 10 l5.toNatClampNeg).toInt64)) / l1))) / (1000 : Int64))))
def fM_stepRank_113 (N : Nat) (k53 : Int64 → Int64 → Int32 → me_M → Option me_M) (k68 : Int64 → Int64 → Int32 → Int64 → Int32 → me_M → Option me_M) (l1 : Int64) (l3 : Int64) (l5 : Int32) (l8 : Int32) (s0 : Int64) (s1 : Int64) (μ : me_M) : Option me_M :=
  k68 l1 l3 l5 (s0 + s1) (l8 + (1 : Int32)) μ
def fM_stepRank_68b (N : Nat) (k53 : Int64 → Int64 → Int32 → me_M → Option me_M) (k68 : Int64 → Int64 → Int32 → Int64 → Int32 → me_M → Option me_M) (l1 : Int64) (l3 : Int64) (l5 : Int32) (l6 : Int64) (l8 : Int32) (μ : me_M) : Option me_M :=
  if (μ.1 100 0) ≤ l8 then
    fM_stepRank_122 N k53 l1 l3 l5 l6 μ
  else
    (fM_links N μ l8 l5).bind fun r8 =>
    if r8 = 0 then
      fM_stepRank_113 N k53 k68 l1 l3 l5 l8 l6 (0 : Int64) μ
    else
      me_gi l8 12 <|
      me_gi l8 12 <|
      (fM_ones N (μ.1 6 l8.toNatClampNeg)).bind fun r12 =>
      me_gd r12.toInt64 0 <|
      fM_stepRank_113 N k53 k68 l1 l3 l5 l8 l6 ((μ.2 11 l8.toNatClampNeg) / r12.toInt64) μ
def fM_stepRank_68 (N : Nat) (k53 : Int64 → Int64 → Int32 → me_M → Option me_M) (F : Nat) : Int64 → Int64 → Int32 → Int64 → Int32 → me_M → Option me_M := Nat.rec (motive := fun _ => Int64 → Int64 → Int32 → Int64 → Int32 → me_M → Option me_M) (fun _ _ _ _ _ _ => none) (fun _ k68 => fM_stepRank_68b N k53 k68) F
def fM_stepRank_53b (N : Nat) (k53 : Int64 → Int64 → Int32 → me_M → Option me_M) (l1 : Int64) (l3 : Int64) (l5 : Int32) (μ : me_M) : Option me_M :=
  if (μ.1 100 0) ≤ l5 then
    fM_stepRank_185 N μ
  else
    fM_stepRank_68 N k53 N l1 l3 l5 (0 : Int64) (0 : Int32) μ
def fM_stepRank_53 (N : Nat) (F : Nat) : Int64 → Int64 → Int32 → me_M → Option me_M := Nat.rec (motive := fun _ => Int64 → Int64 → Int32 → me_M → Option me_M) (fun _ _ _ _ => none) (fun _ k53 => fM_stepRank_53b N k53) F
def fM_stepRank_50 (N : Nat) (l1 : Int64) (l3 : Int64) (μ : me_M) : Option me_M :=
  fM_stepRank_53 N N l1 l3 (0 : Int32) μ
def fM_stepRank_42 (N : Nat) (k11 : Int64 → Int64 → Int32 → me_M → Option me_M) (l1 : Int64) (l5 : Int32) (s0 : Int64) (s1 : Int64) (μ : me_M) : Option me_M :=
  k11 l1 (s0 + s1) (l5 + (1 : Int32)) μ
def fM_stepRank_11b (N : Nat) (k11 : Int64 → Int64 → Int32 → me_M → Option me_M) (l1 : Int64) (l3 : Int64) (l5 : Int32) (μ : me_M) : Option me_M :=
  if (μ.1 100 0) ≤ l5 then
    fM_stepRank_50 N l1 l3 μ
  else
    me_gi l5 12 <|
    if (μ.1 6 l5.toNatClampNeg) = 0 then
      me_gi l5 12 <|
      fM_stepRank_42 N k11 l1 l5 l3 (μ.2 11 l5.toNatClampNeg) μ
    else
      fM_stepRank_42 N k11 l1 l5 l3 (0 : Int64) μ
def fM_stepRank_11 (N : Nat) (F : Nat) : Int64 → Int64 → Int32 → me_M → Option me_M := Nat.rec (motive := fun _ => Int64 → Int64 → Int32 → me_M → Option me_M) (fun _ _ _ _ => none) (fun _ k11 => fM_stepRank_11b N k11) F
def fM_stepRank (N : Nat) (μ : me_M) : Option me_M :=
  (fM_total N μ).bind fun r19 =>
  fM_stepRank_11 N N r19.toInt64 (0 : Int64) (0 : Int32) μ
def fM_bring_128 (N : Nat) (μ : me_M) : Option me_M :=
  some μ
def fM_bring_122 (N : Nat) (k60 : Int32 → Int64 → Int32 → me_M → Option me_M) (l1 : Int32) (l2 : Int64) (l4 : Int32) (μ : me_M) : Option me_M :=
  k60 l1 l2 (l4 + (1 : Int32)) μ
def fM_bring_60b (N : Nat) (k60 : Int32 → Int64 → Int32 → me_M → Option me_M) (l1 : Int32) (l2 : Int64) (l4 : Int32) (μ : me_M) : Option me_M :=
  if (μ.1 100 0) ≤ l4 then
    fM_bring_128 N μ
  else
    if (lg_cmp l2 (0 : Int64)) ≤ 0 then
      fM_bring_128 N μ
    else
      if l1 = 0 then
        me_gi l4 12 <|
        me_gd l2 0 <|
        me_gi l4 12 <|
        fM_bring_122 N k60 l1 l2 l4 (me_wl μ 13 l4.toNatClampNeg (((μ.2 13 l4.toNatClampNeg) * (1000000 : Int64)) / l2))
      else
        me_gi l4 12 <|
        me_gd l2 0 <|
        me_gi l4 12 <|
        fM_bring_122 N k60 l1 l2 l4 (me_wl μ 12 l4.toNatClampNeg (((μ.2 12 l4.toNatClampNeg) * (1000000 : Int64)) / l2))
def fM_bring_60 (N : Nat) (F : Nat) : Int32 → Int64 → Int32 → me_M → Option me_M := Nat.rec (motive := fun _ => Int32 → Int64 → Int32 → me_M → Option me_M) (fun _ _ _ _ => none) (fun _ k60 => fM_bring_60b N k60) F
def fM_bring_57 (N : Nat) (l1 : Int32) (l2 : Int64) (μ : me_M) : Option me_M :=
  fM_bring_60 N N l1 l2 (0 : Int32) μ
def fM_bring_50 (N : Nat) (k5 : Int32 → Int64 → Int32 → me_M → Option me_M) (l1 : Int32) (l4 : Int32) (s0 : Int64) (μ : me_M) : Option me_M :=
  k5 l1 s0 (l4 + (1 : Int32)) μ
def fM_bring_35 (N : Nat) (k5 : Int32 → Int64 → Int32 → me_M → Option me_M) (l1 : Int32) (l2 : Int64) (l4 : Int32) (s0 : Int64) (μ : me_M) : Option me_M :=
  if (lg_cmp s0 l2) ≤ 0 then
    fM_bring_50 N k5 l1 l4 l2 μ
  else
    fM_bring_50 N k5 l1 l4 s0 μ
def fM_bring_5b (N : Nat) (k5 : Int32 → Int64 → Int32 → me_M → Option me_M) (l1 : Int32) (l2 : Int64) (l4 : Int32) (μ : me_M) : Option me_M :=
  if (μ.1 100 0) ≤ l4 then
    fM_bring_57 N l1 l2 μ
  else
    if l1 = 0 then
      me_gi l4 12 <|
      fM_bring_35 N k5 l1 l2 l4 (μ.2 13 l4.toNatClampNeg) μ
    else
      me_gi l4 12 <|
      fM_bring_35 N k5 l1 l2 l4 (μ.2 12 l4.toNatClampNeg) μ
def fM_bring_5 (N : Nat) (F : Nat) : Int32 → Int64 → Int32 → me_M → Option me_M := Nat.rec (motive := fun _ => Int32 → Int64 → Int32 → me_M → Option me_M) (fun _ _ _ _ => none) (fun _ k5 => fM_bring_5b N k5) F
def fM_bring (N : Nat) (l1 : Int32) (μ : me_M) : Option me_M :=
  fM_bring_5 N N l1 (0 : Int64) (0 : Int32) μ
def fM_stepHubs_139 (N : Nat) (μ : me_M) : Option me_M :=
  (fM_bring N (1 : Int32) μ).bind fun r1 =>
  some r1
def fM_stepHubs_133 (N : Nat) (k74 : Int32 → me_M → Option me_M) (l1 : Int32) (μ : me_M) : Option me_M :=
  k74 (l1 + (1 : Int32)) μ
def fM_stepHubs_125 (N : Nat) (k74 : Int32 → me_M → Option me_M) (k91 : Int32 → Int32 → me_M → Option me_M) (l1 : Int32) (l2 : Int32) (s1 : Int32) (s2 : Int64) (s3 : Int64) (μ : me_M) : Option me_M :=
  me_gi s1 12 <|
  k91 l1 (l2 + (1 : Int32)) (me_wl μ 12 s1.toNatClampNeg (s2 + s3))
def fM_stepHubs_91b (N : Nat) (k74 : Int32 → me_M → Option me_M) (k91 : Int32 → Int32 → me_M → Option me_M) (l1 : Int32) (l2 : Int32) (μ : me_M) : Option me_M :=
  if (μ.1 100 0) ≤ l2 then
    fM_stepHubs_133 N k74 l1 μ
  else
    me_gi l1 12 <|
    (fM_links N μ l1 l2).bind fun r5 =>
    if r5 = 0 then
      fM_stepHubs_125 N k74 k91 l1 l2 l1 (μ.2 12 l1.toNatClampNeg) (0 : Int64) μ
    else
      me_gi l2 12 <|
      fM_stepHubs_125 N k74 k91 l1 l2 l1 (μ.2 12 l1.toNatClampNeg) (μ.2 13 l2.toNatClampNeg) μ
def fM_stepHubs_91 (N : Nat) (k74 : Int32 → me_M → Option me_M) (F : Nat) : Int32 → Int32 → me_M → Option me_M := Nat.rec (motive := fun _ => Int32 → Int32 → me_M → Option me_M) (fun _ _ _ => none) (fun _ k91 => fM_stepHubs_91b N k74 k91) F
def fM_stepHubs_74b (N : Nat) (k74 : Int32 → me_M → Option me_M) (l1 : Int32) (μ : me_M) : Option me_M :=
  if (μ.1 100 0) ≤ l1 then
    fM_stepHubs_139 N μ
  else
    me_gi l1 12 <|
    fM_stepHubs_91 N k74 N l1 (0 : Int32) (me_wl μ 12 l1.toNatClampNeg (0 : Int64))
def fM_stepHubs_74 (N : Nat) (F : Nat) : Int32 → me_M → Option me_M := Nat.rec (motive := fun _ => Int32 → me_M → Option me_M) (fun _ _ => none) (fun _ k74 => fM_stepHubs_74b N k74) F
def fM_stepHubs_67 (N : Nat) (μ : me_M) : Option me_M :=
  (fM_bring N (0 : Int32) μ).bind fun r10 =>
  fM_stepHubs_74 N N (0 : Int32) r10
def fM_stepHubs_61 (N : Nat) (k2 : Int32 → me_M → Option me_M) (l1 : Int32) (μ : me_M) : Option me_M :=
  k2 (l1 + (1 : Int32)) μ
def fM_stepHubs_53 (N : Nat) (k2 : Int32 → me_M → Option me_M) (k19 : Int32 → Int32 → me_M → Option me_M) (l1 : Int32) (l2 : Int32) (s1 : Int32) (s2 : Int64) (s3 : Int64) (μ : me_M) : Option me_M :=
  me_gi s1 12 <|
  k19 l1 (l2 + (1 : Int32)) (me_wl μ 13 s1.toNatClampNeg (s2 + s3))
def fM_stepHubs_19b (N : Nat) (k2 : Int32 → me_M → Option me_M) (k19 : Int32 → Int32 → me_M → Option me_M) (l1 : Int32) (l2 : Int32) (μ : me_M) : Option me_M :=
  if (μ.1 100 0) ≤ l2 then
    fM_stepHubs_61 N k2 l1 μ
  else
    me_gi l1 12 <|
    (fM_links N μ l2 l1).bind fun r14 =>
    if r14 = 0 then
      fM_stepHubs_53 N k2 k19 l1 l2 l1 (μ.2 13 l1.toNatClampNeg) (0 : Int64) μ
    else
      me_gi l2 12 <|
      fM_stepHubs_53 N k2 k19 l1 l2 l1 (μ.2 13 l1.toNatClampNeg) (μ.2 12 l2.toNatClampNeg) μ
def fM_stepHubs_19 (N : Nat) (k2 : Int32 → me_M → Option me_M) (F : Nat) : Int32 → Int32 → me_M → Option me_M := Nat.rec (motive := fun _ => Int32 → Int32 → me_M → Option me_M) (fun _ _ _ => none) (fun _ k19 => fM_stepHubs_19b N k2 k19) F
def fM_stepHubs_2b (N : Nat) (k2 : Int32 → me_M → Option me_M) (l1 : Int32) (μ : me_M) : Option me_M :=
  if (μ.1 100 0) ≤ l1 then
    fM_stepHubs_67 N μ
  else
    me_gi l1 12 <|
    fM_stepHubs_19 N k2 N l1 (0 : Int32) (me_wl μ 13 l1.toNatClampNeg (0 : Int64))
def fM_stepHubs_2 (N : Nat) (F : Nat) : Int32 → me_M → Option me_M := Nat.rec (motive := fun _ => Int32 → me_M → Option me_M) (fun _ _ => none) (fun _ k2 => fM_stepHubs_2b N k2) F
def fM_stepHubs (N : Nat) (μ : me_M) : Option me_M :=
  fM_stepHubs_2 N N (0 : Int32) μ
def fM_stepShares_152 (N : Nat) (μ : me_M) : Option me_M :=
  some μ
def fM_stepShares_146 (N : Nat) (k76 : Int32 → me_M → Option me_M) (l1 : Int32) (μ : me_M) : Option me_M :=
  k76 (l1 + (1 : Int32)) μ
def fM_stepShares_138 (N : Nat) (k76 : Int32 → me_M → Option me_M) (k93 : Int32 → Int32 → me_M → Option me_M) (l1 : Int32) (l2 : Int32) (s1 : Int32) (s2 : Int64) (s3 : Int64) (μ : me_M) : Option me_M :=
  me_gi s1 12 <|
  k93 l1 (l2 + (1 : Int32)) (me_wl μ 13 s1.toNatClampNeg (s2 + s3))
def fM_stepShares_93b (N : Nat) (k76 : Int32 → me_M → Option me_M) (k93 : Int32 → Int32 → me_M → Option me_M) (l1 : Int32) (l2 : Int32) (μ : me_M) : Option me_M :=
  if (μ.1 100 0) ≤ l2 then
    fM_stepShares_146 N k76 l1 μ
  else
    me_gi l1 12 <|
    (fM_links N μ l2 l1).bind fun r4 =>
    if r4 = 0 then
      fM_stepShares_138 N k76 k93 l1 l2 l1 (μ.2 13 l1.toNatClampNeg) (0 : Int64) μ
    else
      me_gi l2 12 <|
      me_gi l2 12 <|
      (fM_ones N (μ.1 6 l2.toNatClampNeg)).bind fun r8 =>
      me_gd r8.toInt64 0 <|
      fM_stepShares_138 N k76 k93 l1 l2 l1 (μ.2 13 l1.toNatClampNeg) ((μ.2 12 l2.toNatClampNeg) / r8.toInt64) μ
def fM_stepShares_93 (N : Nat) (k76 : Int32 → me_M → Option me_M) (F : Nat) : Int32 → Int32 → me_M → Option me_M := Nat.rec (motive := fun _ => Int32 → Int32 → me_M → Option me_M) (fun _ _ _ => none) (fun _ k93 => fM_stepShares_93b N k76 k93) F
def fM_stepShares_76b (N : Nat) (k76 : Int32 → me_M → Option me_M) (l1 : Int32) (μ : me_M) : Option me_M :=
  if (μ.1 100 0) ≤ l1 then
    fM_stepShares_152 N μ
  else
    me_gi l1 12 <|
    fM_stepShares_93 N k76 N l1 (0 : Int32) (me_wl μ 13 l1.toNatClampNeg (0 : Int64))
def fM_stepShares_76 (N : Nat) (F : Nat) : Int32 → me_M → Option me_M := Nat.rec (motive := fun _ => Int32 → me_M → Option me_M) (fun _ _ => none) (fun _ k76 => fM_stepShares_76b N k76) F
def fM_stepShares_74 (N : Nat) (μ : me_M) : Option me_M :=
  fM_stepShares_76 N N (0 : Int32) μ
def fM_stepShares_68 (N : Nat) (k2 : Int32 → me_M → Option me_M) (l1 : Int32) (μ : me_M) : Option me_M :=
  k2 (l1 + (1 : Int32)) μ
def fM_stepShares_60 (N : Nat) (k2 : Int32 → me_M → Option me_M) (k19 : Int32 → Int32 → me_M → Option me_M) (l1 : Int32) (l2 : Int32) (s1 : Int32) (s2 : Int64) (s3 : Int64) (μ : me_M) : Option me_M :=
  me_gi s1 12 <|
  k19 l1 (l2 + (1 : Int32)) (me_wl μ 12 s1.toNatClampNeg (s2 + s3))
def fM_stepShares_19b (N : Nat) (k2 : Int32 → me_M → Option me_M) (k19 : Int32 → Int32 → me_M → Option me_M) (l1 : Int32) (l2 : Int32) (μ : me_M) : Option me_M :=
  if (μ.1 100 0) ≤ l2 then
    fM_stepShares_68 N k2 l1 μ
  else
    me_gi l1 12 <|
    (fM_links N μ l1 l2).bind fun r15 =>
    if r15 = 0 then
      fM_stepShares_60 N k2 k19 l1 l2 l1 (μ.2 12 l1.toNatClampNeg) (0 : Int64) μ
    else
      me_gi l2 12 <|
      (fM_into N μ l2).bind fun r18 =>
      me_gd r18.toInt64 0 <|
      fM_stepShares_60 N k2 k19 l1 l2 l1 (μ.2 12 l1.toNatClampNeg) ((μ.2 11 l2.toNatClampNeg) / r18.toInt64) μ
def fM_stepShares_19 (N : Nat) (k2 : Int32 → me_M → Option me_M) (F : Nat) : Int32 → Int32 → me_M → Option me_M := Nat.rec (motive := fun _ => Int32 → Int32 → me_M → Option me_M) (fun _ _ _ => none) (fun _ k19 => fM_stepShares_19b N k2 k19) F
def fM_stepShares_2b (N : Nat) (k2 : Int32 → me_M → Option me_M) (l1 : Int32) (μ : me_M) : Option me_M :=
  if (μ.1 100 0) ≤ l1 then
    fM_stepShares_74 N μ
  else
    me_gi l1 12 <|
    fM_stepShares_19 N k2 N l1 (0 : Int32) (me_wl μ 12 l1.toNatClampNeg (0 : Int64))
def fM_stepShares_2 (N : Nat) (F : Nat) : Int32 → me_M → Option me_M := Nat.rec (motive := fun _ => Int32 → me_M → Option me_M) (fun _ _ => none) (fun _ k2 => fM_stepShares_2b N k2) F
def fM_stepShares (N : Nat) (μ : me_M) : Option me_M :=
  fM_stepShares_2 N N (0 : Int32) μ
def fM_step_162 (N : Nat) (l1 : Int32) (μ : me_M) : Option (Int32 × me_M) :=
  some (l1, μ)
def fM_step_143 (N : Nat) (k18 : Int32 → Int32 → me_M → Option (Int32 × me_M)) (l1 : Int32) (l2 : Int32) (μ : me_M) : Option (Int32 × me_M) :=
  if (lg_cmp (μ.2 125 0) (0 : Int64)) = 0 then
    some (l2 + (1 : Int32), μ)
  else
    k18 l1 (l2 + (1 : Int32)) μ
def fM_step_121 (N : Nat) (k18 : Int32 → Int32 → me_M → Option (Int32 × me_M)) (k63 : Int32 → Int32 → Int32 → me_M → Option (Int32 × me_M)) (l1 : Int32) (l2 : Int32) (l3 : Int32) (s1 : Int64) (s2 : Int64) (μ : me_M) : Option (Int32 × me_M) :=
  me_gi l3 12 <|
  me_gi l3 12 <|
  k63 l1 l2 (l3 + (1 : Int32)) (me_wl (me_wl μ 125 0 (s1 + s2)) 11 l3.toNatClampNeg ((me_wl μ 125 0 (s1 + s2)).2 13 l3.toNatClampNeg))
def fM_step_63b (N : Nat) (k18 : Int32 → Int32 → me_M → Option (Int32 × me_M)) (k63 : Int32 → Int32 → Int32 → me_M → Option (Int32 × me_M)) (l1 : Int32) (l2 : Int32) (l3 : Int32) (μ : me_M) : Option (Int32 × me_M) :=
  if (μ.1 100 0) ≤ l3 then
    fM_step_143 N k18 l1 l2 μ
  else
    me_gi l3 12 <|
    me_gi l3 12 <|
    if (lg_cmp (μ.2 13 l3.toNatClampNeg) (μ.2 11 l3.toNatClampNeg)) ≤ 0 then
      me_gi l3 12 <|
      me_gi l3 12 <|
      fM_step_121 N k18 k63 l1 l2 l3 (μ.2 125 0) ((μ.2 11 l3.toNatClampNeg) - (μ.2 13 l3.toNatClampNeg)) μ
    else
      me_gi l3 12 <|
      me_gi l3 12 <|
      fM_step_121 N k18 k63 l1 l2 l3 (μ.2 125 0) ((μ.2 13 l3.toNatClampNeg) - (μ.2 11 l3.toNatClampNeg)) μ
def fM_step_63 (N : Nat) (k18 : Int32 → Int32 → me_M → Option (Int32 × me_M)) (F : Nat) : Int32 → Int32 → Int32 → me_M → Option (Int32 × me_M) := Nat.rec (motive := fun _ => Int32 → Int32 → Int32 → me_M → Option (Int32 × me_M)) (fun _ _ _ _ => none) (fun _ k63 => fM_step_63b N k18 k63) F
def fM_step_56 (N : Nat) (k18 : Int32 → Int32 → me_M → Option (Int32 × me_M)) (l1 : Int32) (l2 : Int32) (μ : me_M) : Option (Int32 × me_M) :=
  fM_step_63 N k18 N l1 l2 (0 : Int32) (me_wl μ 125 0 (0 : Int64))
def fM_step_18b (N : Nat) (k18 : Int32 → Int32 → me_M → Option (Int32 × me_M)) (l1 : Int32) (l2 : Int32) (μ : me_M) : Option (Int32 × me_M) :=
  if l1 ≤ l2 then
    fM_step_162 N l1 μ
  else
    if (μ.1 120 0) = 0 then
      (fM_stepRank N μ).bind fun r17 =>
      fM_step_56 N k18 l1 l2 r17
    else
      if (μ.1 120 0) = (1 : Int32) then
        (fM_stepHubs N μ).bind fun r16 =>
        fM_step_56 N k18 l1 l2 r16
      else
        (fM_stepShares N μ).bind fun r15 =>
        fM_step_56 N k18 l1 l2 r15
def fM_step_18 (N : Nat) (F : Nat) : Int32 → Int32 → me_M → Option (Int32 × me_M) := Nat.rec (motive := fun _ => Int32 → Int32 → me_M → Option (Int32 × me_M)) (fun _ _ _ => none) (fun _ k18 => fM_step_18b N k18) F
def fM_step_10 (N : Nat) (μ : me_M) : Option (Int32 × me_M) :=
  some ((-1 : Int32), μ)
def fM_step (N : Nat) (l1 : Int32) (μ : me_M) : Option (Int32 × me_M) :=
  if l1 < 0 then
    fM_step_10 N μ
  else
    if l1 ≤ (20 : Int32) then
      (fM_read N μ).bind fun r20 =>
      fM_step_18 N N l1 (0 : Int32) r20
    else
      fM_step_10 N μ
def fM_score_20 (N : Nat) (μ : me_M) (s0 : Int64) : Option Int64 :=
  some s0
def fM_score (N : Nat) (μ : me_M) (l1 : Int32) : Option Int64 :=
  (fM_node N μ l1).bind fun r1 =>
  if r1 = 0 then
    fM_score_20 N μ (-1 : Int64)
  else
    me_gi l1 12 <|
    fM_score_20 N μ (μ.2 11 l1.toNatClampNeg)
def fM_hub_20 (N : Nat) (μ : me_M) (s0 : Int64) : Option Int64 :=
  some s0
def fM_hub (N : Nat) (μ : me_M) (l1 : Int32) : Option Int64 :=
  (fM_node N μ l1).bind fun r1 =>
  if r1 = 0 then
    fM_hub_20 N μ (-1 : Int64)
  else
    me_gi l1 12 <|
    fM_hub_20 N μ (μ.2 12 l1.toNatClampNeg)
def fM_top_91 (N : Nat) (μ : me_M) : Option Int32 :=
  some (-1 : Int32)
def fM_top_78 (N : Nat) (μ : me_M) (k2 : Int32 → Int32 → Option Int32) (l1 : Int32) (l2 : Int32) (l3 : Int32) : Option Int32 :=
  if l3 = l1 then
    some l2
  else
    k2 l1 (l2 + (1 : Int32))
def fM_top_70 (N : Nat) (μ : me_M) (k2 : Int32 → Int32 → Option Int32) (k15 : Int32 → Int32 → Int32 → Int32 → Option Int32) (l1 : Int32) (l2 : Int32) (l4 : Int32) (s0 : Int32) (s1 : Int32) : Option Int32 :=
  k15 l1 l2 (s0 + s1) (l4 + (1 : Int32))
def fM_top_69 (N : Nat) (μ : me_M) (k2 : Int32 → Int32 → Option Int32) (k15 : Int32 → Int32 → Int32 → Int32 → Option Int32) (l1 : Int32) (l2 : Int32) (l4 : Int32) (s0 : Int32) : Option Int32 :=
  fM_top_70 N μ k2 k15 l1 l2 l4 s0 (0 : Int32)
def fM_top_65 (N : Nat) (μ : me_M) (k2 : Int32 → Int32 → Option Int32) (k15 : Int32 → Int32 → Int32 → Int32 → Option Int32) (l1 : Int32) (l2 : Int32) (l4 : Int32) (s0 : Int32) : Option Int32 :=
  fM_top_70 N μ k2 k15 l1 l2 l4 s0 (1 : Int32)
def fM_top_15b (N : Nat) (μ : me_M) (k2 : Int32 → Int32 → Option Int32) (k15 : Int32 → Int32 → Int32 → Int32 → Option Int32) (l1 : Int32) (l2 : Int32) (l3 : Int32) (l4 : Int32) : Option Int32 :=
  if (μ.1 100 0) ≤ l4 then
    fM_top_78 N μ k2 l1 l2 l3
  else
    me_gi l4 12 <|
    me_gi l2 12 <|
    if 0 < (lg_cmp (μ.2 11 l4.toNatClampNeg) (μ.2 11 l2.toNatClampNeg)) then
      fM_top_65 N μ k2 k15 l1 l2 l4 l3
    else
      me_gi l4 12 <|
      me_gi l2 12 <|
      if (lg_cmp (μ.2 11 l4.toNatClampNeg) (μ.2 11 l2.toNatClampNeg)) = 0 then
        if l2 ≤ l4 then
          fM_top_69 N μ k2 k15 l1 l2 l4 l3
        else
          fM_top_65 N μ k2 k15 l1 l2 l4 l3
      else
        fM_top_69 N μ k2 k15 l1 l2 l4 l3
def fM_top_15 (N : Nat) (μ : me_M) (k2 : Int32 → Int32 → Option Int32) (F : Nat) : Int32 → Int32 → Int32 → Int32 → Option Int32 := Nat.rec (motive := fun _ => Int32 → Int32 → Int32 → Int32 → Option Int32) (fun _ _ _ _ => none) (fun _ k15 => fM_top_15b N μ k2 k15) F
def fM_top_2b (N : Nat) (μ : me_M) (k2 : Int32 → Int32 → Option Int32) (l1 : Int32) (l2 : Int32) : Option Int32 :=
  if (μ.1 100 0) ≤ l2 then
    fM_top_91 N μ
  else
    fM_top_15 N μ k2 N l1 l2 (0 : Int32) (0 : Int32)
def fM_top_2 (N : Nat) (μ : me_M) (F : Nat) : Int32 → Int32 → Option Int32 := Nat.rec (motive := fun _ => Int32 → Int32 → Option Int32) (fun _ _ => none) (fun _ k2 => fM_top_2b N μ k2) F
def fM_top (N : Nat) (μ : me_M) (l1 : Int32) : Option Int32 :=
  fM_top_2 N μ N l1 (0 : Int32)
def fM_change (N : Nat) (μ : me_M) : Option Int64 :=
  some (μ.2 125 0)
def me_z : me_M := (fun c _ => bif Nat.beq c 503 then 1 else 0, fun _ _ => 0)
def me_zm : me_M := (fun _ _ => 0, fun _ _ => 0)

def fO_init_62 (N : Nat) (n : Nat) (μ : me_M) : Option me_M :=
  some μ
def fO_init_43b (N : Nat) (n : Nat) (k43 : Int32 → me_M → Option me_M) (l2 : Int32) (μ : me_M) : Option me_M :=
  if (nI n) ≤ l2 then
    fO_init_62 N n μ
  else
    me_gi l2 n <|
    k43 (l2 + (1 : Int32)) (me_wi μ 23 l2.toNatClampNeg (1 : Int32))
def fO_init_43 (N : Nat) (n : Nat) (F : Nat) : Int32 → me_M → Option me_M := Nat.rec (motive := fun _ => Int32 → me_M → Option me_M) (fun _ _ => none) (fun _ k43 => fO_init_43b N n k43) F
def fO_init (N n : Nat) : Option me_M :=
  fO_init_43 N n N (0 : Int32) me_z
def fA_init (N n : Nat) : Option me_M :=
  (fO_init N n).bind fun r1 =>
  (fK_writeAll N n r1).bind fun r2 =>
  (fD_readAll N n r2).bind fun r3 =>
  (fO_begin N n (0 : Int32) (850 : Int32) r3).bind fun r4 =>
  some r4
def fM_init_171 (N : Nat) (μ : me_M) : Option me_M :=
  (fM_pack N (0 : Int32) (0 : Int32) (0 : Int32) (1 : Int32) μ).bind fun r1 =>
  (fM_start N (0 : Int32) (850 : Int32) r1.2).bind fun r2 =>
  some r2.2
def fM_init_152b (N : Nat) (k152 : Int32 → me_M → Option me_M) (l2 : Int32) (μ : me_M) : Option me_M :=
  if (12 : Int32) ≤ l2 then
    fM_init_171 N μ
  else
    me_gi l2 12 <|
    k152 (l2 + (1 : Int32)) (me_wi μ 10 l2.toNatClampNeg (1 : Int32))
def fM_init_152 (N : Nat) (F : Nat) : Int32 → me_M → Option me_M := Nat.rec (motive := fun _ => Int32 → me_M → Option me_M) (fun _ _ => none) (fun _ k152 => fM_init_152b N k152) F
def fM_init_147 (N : Nat) (s1 : Int32) (μ : me_M) : Option me_M :=
  fM_init_152 N N (0 : Int32) (me_wi μ 100 0 s1)
def fM_init (N : Nat) (l1 : Int32) : Option me_M :=
  if (1 : Int32) ≤ l1 then
    if l1 ≤ (12 : Int32) then
      fM_init_147 N l1 me_zm
    else
      fM_init_147 N (12 : Int32) me_zm
  else
    fM_init_147 N (1 : Int32) me_zm
end
