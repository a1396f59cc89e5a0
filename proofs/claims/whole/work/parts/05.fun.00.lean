def f_X6_bitOf  (x0 : Int32) (x1 : Int32) : Option (Int32) :=
  some ((x0 >>> (x1 &&& 31)) &&& 1)
def f_X6_isBelow  (x0 : Int32) (x1 : Int32) : Option (Int32) :=
  if x0 < 0 then
    some 0
  else
    if x1 ≤ x0 then
      some 0
    else
      some 1
def f_J6_bitCount_0f7a4  (x0 : Int32) : Option (Int32) :=
  some ((((((((x0 - (((x0.toUInt32 >>> ((1 : Int32).toUInt32 &&& Int32.toUInt32 31)).toInt32) &&& 1431655765)) &&& 858993459) + ((((x0 - (((x0.toUInt32 >>> ((1 : Int32).toUInt32 &&& Int32.toUInt32 31)).toInt32) &&& 1431655765)).toUInt32 >>> ((2 : Int32).toUInt32 &&& Int32.toUInt32 31)).toInt32) &&& 858993459)) + (((((x0 - (((x0.toUInt32 >>> ((1 : Int32).toUInt32 &&& Int32.toUInt32 31)).toInt32) &&& 1431655765)) &&& 858993459) + ((((x0 - (((x0.toUInt32 >>> ((1 : Int32).toUInt32 &&& Int32.toUInt32 31)).toInt32) &&& 1431655765)).toUInt32 >>> ((2 : Int32).toUInt32 &&& Int32.toUInt32 31)).toInt32) &&& 858993459)).toUInt32 >>> ((4 : Int32).toUInt32 &&& Int32.toUInt32 31)).toInt32)) &&& 252645135) + (((((((x0 - (((x0.toUInt32 >>> ((1 : Int32).toUInt32 &&& Int32.toUInt32 31)).toInt32) &&& 1431655765)) &&& 858993459) + ((((x0 - (((x0.toUInt32 >>> ((1 : Int32).toUInt32 &&& Int32.toUInt32 31)).toInt32) &&& 1431655765)).toUInt32 >>> ((2 : Int32).toUInt32 &&& Int32.toUInt32 31)).toInt32) &&& 858993459)) + (((((x0 - (((x0.toUInt32 >>> ((1 : Int32).toUInt32 &&& Int32.toUInt32 31)).toInt32) &&& 1431655765)) &&& 858993459) + ((((x0 - (((x0.toUInt32 >>> ((1 : Int32).toUInt32 &&& Int32.toUInt32 31)).toInt32) &&& 1431655765)).toUInt32 >>> ((2 : Int32).toUInt32 &&& Int32.toUInt32 31)).toInt32) &&& 858993459)).toUInt32 >>> ((4 : Int32).toUInt32 &&& Int32.toUInt32 31)).toInt32)) &&& 252645135).toUInt32 >>> ((8 : Int32).toUInt32 &&& Int32.toUInt32 31)).toInt32)) + ((((((((x0 - (((x0.toUInt32 >>> ((1 : Int32).toUInt32 &&& Int32.toUInt32 31)).toInt32) &&& 1431655765)) &&& 858993459) + ((((x0 - (((x0.toUInt32 >>> ((1 : Int32).toUInt32 &&& Int32.toUInt32 31)).toInt32) &&& 1431655765)).toUInt32 >>> ((2 : Int32).toUInt32 &&& Int32.toUInt32 31)).toInt32) &&& 858993459)) + (((((x0 - (((x0.toUInt32 >>> ((1 : Int32).toUInt32 &&& Int32.toUInt32 31)).toInt32) &&& 1431655765)) &&& 858993459) + ((((x0 - (((x0.toUInt32 >>> ((1 : Int32).toUInt32 &&& Int32.toUInt32 31)).toInt32) &&& 1431655765)).toUInt32 >>> ((2 : Int32).toUInt32 &&& Int32.toUInt32 31)).toInt32) &&& 858993459)).toUInt32 >>> ((4 : Int32).toUInt32 &&& Int32.toUInt32 31)).toInt32)) &&& 252645135) + (((((((x0 - (((x0.toUInt32 >>> ((1 : Int32).toUInt32 &&& Int32.toUInt32 31)).toInt32) &&& 1431655765)) &&& 858993459) + ((((x0 - (((x0.toUInt32 >>> ((1 : Int32).toUInt32 &&& Int32.toUInt32 31)).toInt32) &&& 1431655765)).toUInt32 >>> ((2 : Int32).toUInt32 &&& Int32.toUInt32 31)).toInt32) &&& 858993459)) + (((((x0 - (((x0.toUInt32 >>> ((1 : Int32).toUInt32 &&& Int32.toUInt32 31)).toInt32) &&& 1431655765)) &&& 858993459) + ((((x0 - (((x0.toUInt32 >>> ((1 : Int32).toUInt32 &&& Int32.toUInt32 31)).toInt32) &&& 1431655765)).toUInt32 >>> ((2 : Int32).toUInt32 &&& Int32.toUInt32 31)).toInt32) &&& 858993459)).toUInt32 >>> ((4 : Int32).toUInt32 &&& Int32.toUInt32 31)).toInt32)) &&& 252645135).toUInt32 >>> ((8 : Int32).toUInt32 &&& Int32.toUInt32 31)).toInt32)).toUInt32 >>> ((16 : Int32).toUInt32 &&& Int32.toUInt32 31)).toInt32)) &&& 63)
def f_X1_limitOf (σ : Mem) (x1 : Int32) (x2 : Int32) : Option (Int32) :=
  gd (inB x1 4) (
  if σ 14 x1.toNatClampNeg = 2 then
    some (x2 / 2)
  else
  if σ 14 x1.toNatClampNeg = 3 then
    some x2
  else
  if σ 14 x1.toNatClampNeg = 4 then
    some (x2 * 2)
  else
  if σ 14 x1.toNatClampNeg = 5 then
    some (-1)
  else
  some x2)
def f_X1_isDrunk (σ : Mem) (x1 : Int32) : Option (Int32) :=
  gd (inB x1 4) (
  if σ 14 x1.toNatClampNeg = 3 then
    some 1
  else
    some 0)
def f_X1_copiesBy_4 (fuel : Nat) (σ : Mem)  : Nat → Int32 → Int32 → Int32 → Option (Int32)
  | 0, _, _, _ => none
  | n + 1, x1, x2, x3 =>
    if σ 13 7 ≤ x3 then
      some x2
    else
      gd (inB x3 10) (
      if σ 17 x3.toNatClampNeg = x1 then
        (f_X1_copiesBy_4 fuel σ n) x1 (x2 ||| (1 <<< (x3 &&& 31))) (x3 + 1)
      else
        (f_X1_copiesBy_4 fuel σ n) x1 x2 (x3 + 1))
def f_X1_copiesBy (fuel : Nat) (σ : Mem) (x1 : Int32) : Option (Int32) :=
  f_X1_copiesBy_4 fuel σ fuel x1 0 0
def f_X1_copiesAt_4 (fuel : Nat) (σ : Mem)  : Nat → Int32 → Int32 → Int32 → Option (Int32)
  | 0, _, _, _ => none
  | n + 1, x1, x2, x3 =>
    if σ 13 7 ≤ x3 then
      some x2
    else
      gd (inB x3 10) (
      if σ 16 x3.toNatClampNeg = x1 then
        (f_X1_copiesAt_4 fuel σ n) x1 (x2 ||| (1 <<< (x3 &&& 31))) (x3 + 1)
      else
        (f_X1_copiesAt_4 fuel σ n) x1 x2 (x3 + 1))
def f_X1_copiesAt (fuel : Nat) (σ : Mem) (x1 : Int32) : Option (Int32) :=
  f_X1_copiesAt_4 fuel σ fuel x1 0 0
def f_X1_begin  (σ : Mem)  : Option (Mem) :=
  some (mst (mst (mst (mst (mst (mst (mst σ 48 0 1) 48 3 0) 48 4 0) 48 5 0) 48 6 0) 48 7 0) 48 8 0)
def f_X1_addHand  (σ : Mem) (x1 : Int32) (x2 : Int32) : Option (Mem) :=
  if σ 48 6 < 4 then
    gd (inB (σ 48 6) 4) (
    gd (inB (σ 48 6) 4) (
    some (mst (mst (mst σ 49 ((σ 48 6).toNatClampNeg) x1) 50 ((σ 48 6).toNatClampNeg) x2) 48 6 ((σ 48 6) + 1))))
  else
    some σ
def f_X1_addDeed  (σ : Mem) (x1 : Int32) (x2 : Int32) (x3 : Int32) (x4 : Int32) : Option (Mem) :=
  if σ 48 8 < 5 then
    gd (inB (σ 48 8) 5) (
    gd (inB (σ 48 8) 5) (
    gd (inB (σ 48 8) 5) (
    gd (inB (σ 48 8) 5) (
    some (mst (mst (mst (mst (mst σ 56 ((σ 48 8).toNatClampNeg) x1) 55 ((σ 48 8).toNatClampNeg) x2) 57 ((σ 48 8).toNatClampNeg) x3) 58 ((σ 48 8).toNatClampNeg) x4) 48 8 ((σ 48 8) + 1))))))
  else
    some σ
def f_X1_addCopy  (σ : Mem) (x1 : Int32) (x2 : Int32) (x3 : Int32) : Option (Mem) :=
  if σ 13 7 < 10 then
    gd (inB (σ 13 7) 10) (
    gd (inB (σ 13 7) 10) (
    gd (inB (σ 13 7) 10) (
    gd (inB (σ 13 7) 10) (
    some (mst (mst (mst (mst (mst σ 16 ((σ 13 7).toNatClampNeg) x1) 17 ((σ 13 7).toNatClampNeg) x2) 18 ((σ 13 7).toNatClampNeg) x3) 19 ((σ 13 7).toNatClampNeg) (σ 13 3)) 13 7 ((σ 13 7) + 1))))))
  else
    some σ
def f_X1_addCopyD  (σ : Mem) (x1 : Int32) (x2 : Int32) (x3 : Int32) : Option (Mem) :=
  if σ 48 7 < 10 then
    gd (inB (σ 48 7) 10) (
    gd (inB (σ 48 7) 10) (
    gd (inB (σ 48 7) 10) (
    gd (inB (σ 48 7) 10) (
    some (mst (mst (mst (mst (mst σ 51 ((σ 48 7).toNatClampNeg) x1) 52 ((σ 48 7).toNatClampNeg) x2) 53 ((σ 48 7).toNatClampNeg) x3) 54 ((σ 48 7).toNatClampNeg) (σ 48 3)) 48 7 ((σ 48 7) + 1))))))
  else
    some σ
def f_X0_forget  (σ : Mem)  : Option (Mem) :=
  some (mst σ 59 2 0)
def f_X0_undoLatest_54   (σ : Mem) : Option (Mem) :=
  gd (inB (σ 59 2) 24) (
  if σ 60 ((σ 59 2).toNatClampNeg) = 0 then
    if σ 13 7 ≤ 0 then
      some σ
    else
      gd (inB ((σ 13 7) - 1) 10) (
      gd (inB (σ 17 (((σ 13 7) - 1).toNatClampNeg)) 4) (
      some (mst (mst σ 13 7 ((σ 13 7) - 1)) 13 4 ((σ 13 4) - (σ 15 ((σ 17 (((σ 13 7) - 1).toNatClampNeg)).toNatClampNeg))))))
  else
    some σ)
def f_X0_undoLatest  (σ : Mem)  : Option (Mem) :=
  if 0 < σ 59 2 then
    gd (inB ((σ 59 2) - 1) 24) (
    gd (inB ((σ 59 2) - 1) 24) (
    if σ 60 (((σ 59 2) - 1).toNatClampNeg) = 2 then
      f_X0_undoLatest_54 (mst (mst (mst σ 59 2 ((σ 59 2) - 1)) 13 5 (σ 61 (((σ 59 2) - 1).toNatClampNeg))) 13 3 ((σ 13 3) - 1))
    else
      f_X0_undoLatest_54 (mst (mst σ 59 2 ((σ 59 2) - 1)) 13 5 (σ 61 (((σ 59 2) - 1).toNatClampNeg)))))
  else
    some σ
def f_J7_fill_r_5 (fuel : Nat) (kr : Nat)  : Nat → Mem → Int32 → Int32 → Int32 → Option (Mem)
  | 0, _, _, _, _ => none
  | n + 1, σ, x1, x2, x3 =>
    if x3 ≤ x2 then
      some σ
    else
      gd (inB x2 40) (
      (f_J7_fill_r_5 fuel kr n) (mst σ (5 + kr) x2.toNatClampNeg x1) x1 (x2 + 1) x3)
def f_J7_fill_r (fuel : Nat) (kr : Nat) (σ : Mem) (x1 : Int32) : Option (Mem) :=
  f_J7_fill_r_5 fuel kr fuel σ x1 0 40
def f_J7_fill_64_5 (fuel : Nat)  : Nat → Mem → Int32 → Int32 → Int32 → Option (Mem)
  | 0, _, _, _, _ => none
  | n + 1, σ, x1, x2, x3 =>
    if x3 ≤ x2 then
      some σ
    else
      gd (inB x2 91) (
      (f_J7_fill_64_5 fuel n) (mst σ 64 x2.toNatClampNeg x1) x1 (x2 + 1) x3)
def f_J7_fill_64 (fuel : Nat) (σ : Mem) (x1 : Int32) : Option (Mem) :=
  f_J7_fill_64_5 fuel fuel σ x1 0 91
def f_J7_fill_65_5 (fuel : Nat)  : Nat → Mem → Int32 → Int32 → Int32 → Option (Mem)
  | 0, _, _, _, _ => none
  | n + 1, σ, x1, x2, x3 =>
    if x3 ≤ x2 then
      some σ
    else
      gd (inB x2 91) (
      (f_J7_fill_65_5 fuel n) (mst σ 65 x2.toNatClampNeg x1) x1 (x2 + 1) x3)
def f_J7_fill_65 (fuel : Nat) (σ : Mem) (x1 : Int32) : Option (Mem) :=
  f_J7_fill_65_5 fuel fuel σ x1 0 91
def f_X5_isMissing (σ : Mem) (x1 : Int32) : Option (Int32) :=
  gd (inB x1 8) (
  if σ 2 x1.toNatClampNeg = (-1) then
    some 1
  else
    some 0)
def f_X5_hasPlaces (σ : Mem) (x1 : Int32) (x2 : Int32) (x3 : Int32) : Option (Int32) :=
  if x2 < 0 then
    some 0
  else
    if x3 < 0 then
      some 0
    else
      gd (inB x1 8) (
      if (σ 3 x1.toNatClampNeg) - x3 < x2 then
        some 0
      else
        some 1)
def f_X5_put  (σ : Mem) (x1 : Int32) (x2 : Int32) (x3 : Int32) : Option (Int32 × Mem) :=
  gd (inB x1 8) (
  if σ 2 x1.toNatClampNeg = 0 then
    gd (inB x1 8) (
    gd (inB x2 40) (
    gd (inB x1 8) (
    gd (inB x2 40) (
    (some (mst σ (5 + x1.toNatClampNeg) x2.toNatClampNeg x3.toInt8.toInt32)).bind fun s7 =>
    some (s7 (5 + x1.toNatClampNeg) x2.toNatClampNeg, s7)))))
  else
  if σ 2 x1.toNatClampNeg = 1 then
    gd (inB x1 8) (
    gd (inB x2 40) (
    gd (inB x1 8) (
    gd (inB x2 40) (
    (some (mst σ (5 + x1.toNatClampNeg) x2.toNatClampNeg x3.toInt16.toInt32)).bind fun s13 =>
    some (s13 (5 + x1.toNatClampNeg) x2.toNatClampNeg, s13)))))
  else
  gd (inB x1 8) (
  gd (inB x2 40) (
  gd (inB x1 8) (
  gd (inB x2 40) (
  (some (mst σ (5 + x1.toNatClampNeg) x2.toNatClampNeg x3)).bind fun s18 =>
  some (s18 (5 + x1.toNatClampNeg) x2.toNatClampNeg, s18))))))
def f_X4_append  (σ : Mem) (x1 : Int32) : Option (Int32 × Mem) :=
  if 140 ≤ σ 46 2 then
    some (σ 46 2, σ)
  else
    gd (inB (σ 46 2) 140) (
    some ((σ 46 2) + 1, mst (mst σ 47 ((σ 46 2).toNatClampNeg) x1) 46 2 ((σ 46 2) + 1)))
def f_X4_fail  (σ : Mem) (x1 : Int32) : Option (Int32 × Mem) :=
  some (0, mst σ 46 4 x1)
def f_X4_next (σ : Mem)  : Option (Int32) :=
  if σ 46 2 ≤ σ 46 3 then
    some (-1)
  else
    gd (inB (σ 46 3) 140) (
    some (σ 47 ((σ 46 3).toNatClampNeg)))
def f_X4_isFigure (σ : Mem) (x1 : Int32) : Option (Int32) :=
  if σ 46 2 ≤ x1 then
    some 0
  else
    gd (inB x1 140) (
    if σ 47 x1.toNatClampNeg < 48 then
      some 0
    else
      gd (inB x1 140) (
      if 57 < σ 47 x1.toNatClampNeg then
        some 0
      else
        some 1))
def f_X4_kindOfSort  (x0 : Int32) : Option (Int32) :=
  if x0 = 104 then
    some 4
  else
  if x0 = 105 then
    some 0
  else
  if x0 = 106 then
    some 0
  else
  if x0 = 107 then
    some 0
  else
  if x0 = 108 then
    some 5
  else
  if x0 = 109 then
    some 0
  else
  if x0 = 110 then
    some 0
  else
  if x0 = 111 then
    some 0
  else
  if x0 = 112 then
    some 2
  else
  if x0 = 113 then
    some 0
  else
  if x0 = 114 then
    some 3
  else
  if x0 = 115 then
    some 1
  else
  some 0
def f_X3_handInOrder (σ : Mem) (x2 : Int32) (x3 : Int32) : Option (Int32) :=
  some ((x2 >>> ((2 * (((σ 13 6) - 1) - x3)) &&& 31)) &&& 3)
def f_X3_widenBy_62 (fuel : Nat) (k11 : Mem → Int32 → Int32 → Int32 → Option (Mem)) (σ : Mem) (x2 : Int32) (x4 : Int32) (x5 : Int32) : Option (Mem) :=
  gd (inB x5 91) (
  gd (inB (x5 - x4) 91) (
  gd (inB x5 91) (
  k11 (mst σ 64 x5.toNatClampNeg ((σ 64 x5.toNatClampNeg) + (σ 64 ((x5 - x4).toNatClampNeg)))) x2 x4 (x5 + (-1)))))
def f_X3_widenBy_11 (fuel : Nat)  : Nat → Mem → Int32 → Int32 → Int32 → Option (Mem)
  | 0, _, _, _, _ => none
  | n + 1, σ, x2, x4, x5 =>
    if x5 < x4 then
      some σ
    else
      gd (inB x5 91) (
      if σ 64 x5.toNatClampNeg = 0 then
        gd (inB (x5 - x4) 91) (
        if σ 64 ((x5 - x4).toNatClampNeg) ≤ 0 then
          f_X3_widenBy_62 fuel (f_X3_widenBy_11 fuel n) σ x2 x4 x5
        else
          gd (inB (x5 - x4) 91) (
          gd (inB x5 91) (
          f_X3_widenBy_62 fuel (f_X3_widenBy_11 fuel n) (mst σ 65 x5.toNatClampNeg ((σ 65 ((x5 - x4).toNatClampNeg)) ||| (1 <<< (x2 &&& 31)))) x2 x4 x5)))
      else
        f_X3_widenBy_62 fuel (f_X3_widenBy_11 fuel n) σ x2 x4 x5)
def f_X3_widenBy (fuel : Nat) (σ : Mem) (x2 : Int32) (x3 : Int32) : Option (Mem) :=
  gd (inB x2 10) (
  f_X3_widenBy_11 fuel fuel σ x2 (σ 18 x2.toNatClampNeg) x3)
def f_X3_gainOf (σ : Mem) (x1 : Int32) (x2 : Int32) : Option (Int32) :=
  gd (inB ((1 <<< (x1 &&& 31)) ||| (1 <<< (x2 &&& 31))) 16) (
  gd (inB (1 <<< (x1 &&& 31)) 16) (
  gd (inB (1 <<< (x2 &&& 31)) 16) (
  some (((σ 63 (((1 <<< (x1 &&& 31)) ||| (1 <<< (x2 &&& 31))).toNatClampNeg)) - (σ 63 ((1 <<< (x1 &&& 31)).toNatClampNeg))) - (σ 63 ((1 <<< (x2 &&& 31)).toNatClampNeg))))))
def f_X2_isKindOf_4 (fuel : Nat) (σ : Mem)  : Nat → Int32 → Int32 → Int32 → Option (Int32)
  | 0, _, _, _ => none
  | n + 1, x1, x2, x3 =>
    if 6 ≤ x3 then
      some 0
    else
      if x2 < 0 then
        some 0
      else
        if 6 ≤ x2 then
          some 0
        else
          if x2 = x1 then
            some 1
          else
            gd (inB x2 6) (
            (f_X2_isKindOf_4 fuel σ n) x1 (tbA x2.toNatClampNeg) (x3 + 1))
def f_X2_isKindOf (fuel : Nat) (σ : Mem) (x0 : Int32) (x1 : Int32) : Option (Int32) :=
  f_X2_isKindOf_4 fuel σ fuel x1 x0 0
def f_X2_leave  (σ : Mem) (x1 : Int32) : Option (Mem) :=
  if 16 ≤ σ 66 1 then
    some σ
  else
    gd (inB (σ 66 1) 16) (
    some (mst (mst σ 67 ((σ 66 1).toNatClampNeg) x1) 66 1 ((σ 66 1) + 1)))
def f_X2_nearest_S_4 (fuel : Nat) (σ : Mem)  : Nat → Int32 → Int32 → Option (Int32)
  | 0, _, _ => none
  | n + 1, x2, x3 =>
    if 6 ≤ x3 then
      gd (inB 0 6) (
      some (tbS (0 : Int32).toNatClampNeg))
    else
      if x2 < 0 then
        gd (inB 0 6) (
        some (tbS (0 : Int32).toNatClampNeg))
      else
        if 6 ≤ x2 then
          gd (inB 0 6) (
          some (tbS (0 : Int32).toNatClampNeg))
        else
          gd (inB x2 6) (
          if tbS x2.toNatClampNeg = 0 then
            gd (inB x2 6) (
            (f_X2_nearest_S_4 fuel σ n) (tbA x2.toNatClampNeg) (x3 + 1))
          else
            gd (inB x2 6) (
            some (tbS x2.toNatClampNeg)))
def f_X2_nearest_S (fuel : Nat) (σ : Mem) (x1 : Int32) : Option (Int32) :=
  f_X2_nearest_S_4 fuel σ fuel x1 0
def f_X2_nearest_M_4 (fuel : Nat) (σ : Mem)  : Nat → Int32 → Int32 → Option (Int32)
  | 0, _, _ => none
  | n + 1, x2, x3 =>
    if 6 ≤ x3 then
      gd (inB 0 6) (
      some (tbM (0 : Int32).toNatClampNeg))
    else
      if x2 < 0 then
        gd (inB 0 6) (
        some (tbM (0 : Int32).toNatClampNeg))
      else
        if 6 ≤ x2 then
          gd (inB 0 6) (
          some (tbM (0 : Int32).toNatClampNeg))
        else
          gd (inB x2 6) (
          if tbM x2.toNatClampNeg = 0 then
            gd (inB x2 6) (
            (f_X2_nearest_M_4 fuel σ n) (tbA x2.toNatClampNeg) (x3 + 1))
          else
            gd (inB x2 6) (
            some (tbM x2.toNatClampNeg)))
def f_X2_nearest_M (fuel : Nat) (σ : Mem) (x1 : Int32) : Option (Int32) :=
  f_X2_nearest_M_4 fuel σ fuel x1 0
def f_X6_fault (σ : Mem)  : Option (Int32) :=
  some (σ 0 8)
def f_X6_status (σ : Mem)  : Option (Int32) :=
  some (σ 0 9)
def f_X6_found  (σ : Mem) (x1 : Int32) : Option (Int32 × Mem) :=
  some ((-1000010) - x1, mst σ 0 9 x1)
def f_X6_unfound  (σ : Mem) (x1 : Int32) : Option (Int32 × Mem) :=
  some (x1, mst σ 0 9 0)
def f_X7_in  (x0 : Int64) (x2 : Int64) (x4 : Int64) : Option (Int32) :=
  if lg_cmp x0 x2 < 0 then
    some 0
  else
    if 0 < lg_cmp x0 x4 then
      some 0
    else
      some 1
def f_X7_sortOf  (x0 : Int32) : Option (Int32) :=
  if x0 = 115 then
    some 1
  else
    if x0 = 112 then
      some 2
    else
      if x0 = 114 then
        some 3
      else
        if x0 = 104 then
          some 4
        else
          if x0 = 108 then
            some 5
          else
            some 0
def f_X7_bits_4 (fuel : Nat)  : Nat → Int32 → Int32 → Option (Int32)
  | 0, _, _ => none
  | n + 1, x1, x2 =>
    if x2 = 0 then
      some x1
    else
      (f_X7_bits_4 fuel n) (x1 + 1) (x2 &&& (x2 - 1))
def f_X7_bits (fuel : Nat) (x0 : Int32) : Option (Int32) :=
  f_X7_bits_4 fuel fuel 0 x0
def f_X7_isOf_24   (x0 : Int32) (x1 : Int32) : Option (Int32) :=
  if x1 = 4 then
    if x0 = 5 then
      some 1
    else
      some 0
  else
    some 0
def f_X7_isOf  (x0 : Int32) (x1 : Int32) : Option (Int32) :=
  if x1 = 0 then
    some 1
  else
    if x0 = x1 then
      some 1
    else
      if x1 = 1 then
        if x0 = 2 then
          some 1
        else
          if x0 = 3 then
            some 1
          else
            f_X7_isOf_24 x0 x1
      else
        f_X7_isOf_24 x0 x1
def f_X7_limit_n (σ : Mem) (x1 : Int32) : Option (Int32) :=
  gd (inB (7 + x1) 85) (
  if σ 5 ((7 + x1).toNatClampNeg) = 2 then
    some ((σ 5 0) / 2)
  else
  if σ 5 ((7 + x1).toNatClampNeg) = 3 then
    some (σ 5 0)
  else
  if σ 5 ((7 + x1).toNatClampNeg) = 4 then
    some (2 * (σ 5 0))
  else
  if σ 5 ((7 + x1).toNatClampNeg) = 5 then
    some (-1)
  else
  some (σ 5 0))
def f_X7_dayGoes_n_52 (fuel : Nat) (k9 : Mem → Int32 → Option (Mem)) (σ : Mem) (x1 : Int32) (y0 : Int32) : Option (Mem) :=
  if y0 = 0 then
    gd (inB (55 + x1) 85) (
    gd (inB (55 + x1) 85) (
    k9 (mst σ 5 ((55 + x1).toNatClampNeg) (σ 5 ((55 + x1).toNatClampNeg))) (x1 + 1)))
  else
    gd (inB (55 + x1) 85) (
    k9 (mst σ 5 ((55 + x1).toNatClampNeg) 1) (x1 + 1))
def f_X7_dayGoes_n_9 (fuel : Nat)  : Nat → Mem → Int32 → Option (Mem)
  | 0, _, _ => none
  | n + 1, σ, x1 =>
    if σ 5 3 ≤ x1 then
      some σ
    else
      gd (inB (25 + x1) 85) (
      gd (inB (7 + (σ 5 ((25 + x1).toNatClampNeg))) 85) (
      if σ 5 ((7 + (σ 5 ((25 + x1).toNatClampNeg))).toNatClampNeg) = 3 then
        gd (inB (45 + x1) 85) (
        if (σ 5 5) - (σ 5 ((45 + x1).toNatClampNeg)) < σ 5 1 then
          f_X7_dayGoes_n_52 fuel (f_X7_dayGoes_n_9 fuel n) σ x1 0
        else
          f_X7_dayGoes_n_52 fuel (f_X7_dayGoes_n_9 fuel n) σ x1 1)
      else
        f_X7_dayGoes_n_52 fuel (f_X7_dayGoes_n_9 fuel n) σ x1 0))
def f_X7_dayGoes_n (fuel : Nat) (σ : Mem)  : Option (Mem) :=
  f_X7_dayGoes_n_9 fuel fuel (mst σ 5 5 ((σ 5 5) + 1)) 0
def f_X7_black_n_4 (fuel : Nat) (σ : Mem)  : Nat → Int32 → Int32 → Option (Int32)
  | 0, _, _ => none
  | n + 1, x1, x2 =>
    if σ 5 3 ≤ x2 then
      some x1
    else
      gd (inB (55 + x2) 85) (
      if σ 5 ((55 + x2).toNatClampNeg) = 0 then
        gd (inB (15 + x2) 85) (
        (f_X7_black_n_4 fuel σ n) (x1 ||| (1 <<< ((σ 5 ((15 + x2).toNatClampNeg)) &&& 31))) (x2 + 1))
      else
        (f_X7_black_n_4 fuel σ n) (x1 ||| 0) (x2 + 1))
def f_X7_black_n (fuel : Nat) (σ : Mem)  : Option (Int32) :=
  f_X7_black_n_4 fuel σ fuel 0 0
def f_X7_standBy_n_92 (fuel : Nat) (σ : Mem) (k4 : Int32 → Int32 → Int32 → Option (Int32)) (x1 : Int32) (x2 : Int32) (x3 : Int32) (x5 : Int32) (y0 : Int32) : Option (Int32) :=
  if x5 = 0 then
    k4 x1 (x2 ||| 0) (x3 + 1)
  else
    if y0 = 0 then
      k4 x1 (x2 ||| 0) (x3 + 1)
    else
      k4 x1 (x2 ||| (1 <<< (x3 &&& 31))) (x3 + 1)
def f_X7_standBy_n_51 (fuel : Nat) (σ : Mem) (k4 : Int32 → Int32 → Int32 → Option (Int32)) (x1 : Int32) (x2 : Int32) (x3 : Int32) (x4 : Int32) (y0 : Int32) : Option (Int32) :=
  gd (inB (70 + x3) 85) (
  if σ 5 ((70 + x3).toNatClampNeg) = 1 then
    gd (inB (65 + x3) 85) (
    if x4 = σ 5 ((65 + x3).toNatClampNeg) then
      f_X7_standBy_n_92 fuel σ k4 x1 x2 x3 y0 1
    else
      f_X7_standBy_n_92 fuel σ k4 x1 x2 x3 y0 0)
  else
    if x4 = 0 then
      f_X7_standBy_n_92 fuel σ k4 x1 x2 x3 y0 0
    else
      f_X7_standBy_n_92 fuel σ k4 x1 x2 x3 y0 1)
def f_X7_standBy_n_4 (fuel : Nat) (σ : Mem)  : Nat → Int32 → Int32 → Int32 → Option (Int32)
  | 0, _, _, _ => none
  | n + 1, x1, x2, x3 =>
    if σ 5 4 ≤ x3 then
      some x2
    else
      gd (inB (65 + x3) 85) (
      gd (inB (75 + x3) 85) (
      if σ 5 ((75 + x3).toNatClampNeg) = 0 then
        f_X7_standBy_n_51 fuel σ (f_X7_standBy_n_4 fuel σ n) x1 x2 x3 ((σ 5 ((65 + x3).toNatClampNeg)) &&& x1) 1
      else
        gd (inB (75 + x3) 85) (
        if (x2 >>> (((σ 5 ((75 + x3).toNatClampNeg)) - 1) &&& 31)) &&& 1 = 1 then
          f_X7_standBy_n_51 fuel σ (f_X7_standBy_n_4 fuel σ n) x1 x2 x3 ((σ 5 ((65 + x3).toNatClampNeg)) &&& x1) 1
        else
          f_X7_standBy_n_51 fuel σ (f_X7_standBy_n_4 fuel σ n) x1 x2 x3 ((σ 5 ((65 + x3).toNatClampNeg)) &&& x1) 0)))
def f_X7_standBy_n (fuel : Nat) (σ : Mem) (x1 : Int32) : Option (Int32) :=
  f_X7_standBy_n_4 fuel σ fuel x1 0 0
def f_X7_limit_a (σ : Mem) (x1 : Int32) : Option (Int32) :=
  gd (inB (7 + x1) 85) (
  if σ 11 ((7 + x1).toNatClampNeg) = 2 then
    some ((σ 11 0) / 2)
  else
  if σ 11 ((7 + x1).toNatClampNeg) = 3 then
    some (σ 11 0)
  else
  if σ 11 ((7 + x1).toNatClampNeg) = 4 then
    some (2 * (σ 11 0))
  else
  if σ 11 ((7 + x1).toNatClampNeg) = 5 then
    some (-1)
  else
  some (σ 11 0))
def f_X7_dayGoes_a_52 (fuel : Nat) (k9 : Mem → Int32 → Option (Mem)) (σ : Mem) (x1 : Int32) (y0 : Int32) : Option (Mem) :=
  if y0 = 0 then
    gd (inB (55 + x1) 85) (
    gd (inB (55 + x1) 85) (
    k9 (mst σ 11 ((55 + x1).toNatClampNeg) (σ 11 ((55 + x1).toNatClampNeg))) (x1 + 1)))
  else
    gd (inB (55 + x1) 85) (
    k9 (mst σ 11 ((55 + x1).toNatClampNeg) 1) (x1 + 1))
def f_X7_dayGoes_a_9 (fuel : Nat)  : Nat → Mem → Int32 → Option (Mem)
  | 0, _, _ => none
  | n + 1, σ, x1 =>
    if σ 11 3 ≤ x1 then
      some σ
    else
      gd (inB (25 + x1) 85) (
      gd (inB (7 + (σ 11 ((25 + x1).toNatClampNeg))) 85) (
      if σ 11 ((7 + (σ 11 ((25 + x1).toNatClampNeg))).toNatClampNeg) = 3 then
        gd (inB (45 + x1) 85) (
        if (σ 11 5) - (σ 11 ((45 + x1).toNatClampNeg)) < σ 11 1 then
          f_X7_dayGoes_a_52 fuel (f_X7_dayGoes_a_9 fuel n) σ x1 0
        else
          f_X7_dayGoes_a_52 fuel (f_X7_dayGoes_a_9 fuel n) σ x1 1)
      else
        f_X7_dayGoes_a_52 fuel (f_X7_dayGoes_a_9 fuel n) σ x1 0))
def f_X7_dayGoes_a (fuel : Nat) (σ : Mem)  : Option (Mem) :=
  f_X7_dayGoes_a_9 fuel fuel (mst σ 11 5 ((σ 11 5) + 1)) 0
def f_X7_black_a_4 (fuel : Nat) (σ : Mem)  : Nat → Int32 → Int32 → Option (Int32)
  | 0, _, _ => none
  | n + 1, x1, x2 =>
    if σ 11 3 ≤ x2 then
      some x1
    else
      gd (inB (55 + x2) 85) (
      if σ 11 ((55 + x2).toNatClampNeg) = 0 then
        gd (inB (15 + x2) 85) (
        (f_X7_black_a_4 fuel σ n) (x1 ||| (1 <<< ((σ 11 ((15 + x2).toNatClampNeg)) &&& 31))) (x2 + 1))
      else
        (f_X7_black_a_4 fuel σ n) (x1 ||| 0) (x2 + 1))
def f_X7_black_a (fuel : Nat) (σ : Mem)  : Option (Int32) :=
  f_X7_black_a_4 fuel σ fuel 0 0
def f_X7_standBy_a_92 (fuel : Nat) (σ : Mem) (k4 : Int32 → Int32 → Int32 → Option (Int32)) (x1 : Int32) (x2 : Int32) (x3 : Int32) (x5 : Int32) (y0 : Int32) : Option (Int32) :=
  if x5 = 0 then
    k4 x1 (x2 ||| 0) (x3 + 1)
  else
    if y0 = 0 then
      k4 x1 (x2 ||| 0) (x3 + 1)
    else
      k4 x1 (x2 ||| (1 <<< (x3 &&& 31))) (x3 + 1)
def f_X7_standBy_a_51 (fuel : Nat) (σ : Mem) (k4 : Int32 → Int32 → Int32 → Option (Int32)) (x1 : Int32) (x2 : Int32) (x3 : Int32) (x4 : Int32) (y0 : Int32) : Option (Int32) :=
  gd (inB (70 + x3) 85) (
  if σ 11 ((70 + x3).toNatClampNeg) = 1 then
    gd (inB (65 + x3) 85) (
    if x4 = σ 11 ((65 + x3).toNatClampNeg) then
      f_X7_standBy_a_92 fuel σ k4 x1 x2 x3 y0 1
    else
      f_X7_standBy_a_92 fuel σ k4 x1 x2 x3 y0 0)
  else
    if x4 = 0 then
      f_X7_standBy_a_92 fuel σ k4 x1 x2 x3 y0 0
    else
      f_X7_standBy_a_92 fuel σ k4 x1 x2 x3 y0 1)
def f_X7_standBy_a_4 (fuel : Nat) (σ : Mem)  : Nat → Int32 → Int32 → Int32 → Option (Int32)
  | 0, _, _, _ => none
  | n + 1, x1, x2, x3 =>
    if σ 11 4 ≤ x3 then
      some x2
    else
      gd (inB (65 + x3) 85) (
      gd (inB (75 + x3) 85) (
      if σ 11 ((75 + x3).toNatClampNeg) = 0 then
        f_X7_standBy_a_51 fuel σ (f_X7_standBy_a_4 fuel σ n) x1 x2 x3 ((σ 11 ((65 + x3).toNatClampNeg)) &&& x1) 1
      else
        gd (inB (75 + x3) 85) (
        if (x2 >>> (((σ 11 ((75 + x3).toNatClampNeg)) - 1) &&& 31)) &&& 1 = 1 then
          f_X7_standBy_a_51 fuel σ (f_X7_standBy_a_4 fuel σ n) x1 x2 x3 ((σ 11 ((65 + x3).toNatClampNeg)) &&& x1) 1
        else
          f_X7_standBy_a_51 fuel σ (f_X7_standBy_a_4 fuel σ n) x1 x2 x3 ((σ 11 ((65 + x3).toNatClampNeg)) &&& x1) 0)))
def f_X7_standBy_a (fuel : Nat) (σ : Mem) (x1 : Int32) : Option (Int32) :=
  f_X7_standBy_a_4 fuel σ fuel x1 0 0
def f_X7_whites_4 (fuel : Nat) (σ : Mem)  : Nat → Int32 → Int32 → Option (Int32)
  | 0, _, _ => none
  | n + 1, x1, x2 =>
    if σ 5 3 ≤ x2 then
      some x1
    else
      gd (inB (55 + x2) 85) (
      (f_X7_whites_4 fuel σ n) (x1 + (σ 5 ((55 + x2).toNatClampNeg))) (x2 + 1))
def f_X7_whites (fuel : Nat) (σ : Mem)  : Option (Int32) :=
  f_X7_whites_4 fuel σ fuel 0 0
def f_X7_whiteSet_4 (fuel : Nat) (σ : Mem)  : Nat → Int32 → Int32 → Option (Int32)
  | 0, _, _ => none
  | n + 1, x1, x2 =>
    if σ 11 3 ≤ x2 then
      some x1
    else
      gd (inB (55 + x2) 85) (
      (f_X7_whiteSet_4 fuel σ n) (x1 ||| ((σ 11 ((55 + x2).toNatClampNeg)) <<< (x2 &&& 31))) (x2 + 1))
def f_X7_whiteSet (fuel : Nat) (σ : Mem)  : Option (Int32) :=
  f_X7_whiteSet_4 fuel σ fuel 0 0
def f_X7_copies_10_5_3 (fuel : Nat)  : Nat → Mem → Int32 → Int32 → Int32 → Option (Mem)
  | 0, _, _, _, _ => none
  | n + 1, σ, x1, x3, x4 =>
    if 85 ≤ x4 then
      some σ
    else
      gd (inB (x1 + x4) 85) (
      gd (inB (x3 + x4) 85) (
      (f_X7_copies_10_5_3 fuel n) (mst σ 5 ((x3 + x4).toNatClampNeg) (σ 10 ((x1 + x4).toNatClampNeg))) x1 x3 (x4 + 1)))
def f_X7_copies_10_5 (fuel : Nat) (σ : Mem) (x1 : Int32) (x3 : Int32) : Option (Mem) :=
  f_X7_copies_10_5_3 fuel fuel σ x1 x3 0
def f_X7_copies_5_6_3 (fuel : Nat)  : Nat → Mem → Int32 → Int32 → Int32 → Option (Mem)
  | 0, _, _, _, _ => none
  | n + 1, σ, x1, x3, x4 =>
    if 85 ≤ x4 then
      some σ
    else
      gd (inB (x1 + x4) 85) (
      gd (inB (x3 + x4) 2040) (
      (f_X7_copies_5_6_3 fuel n) (mst σ 6 ((x3 + x4).toNatClampNeg) (σ 5 ((x1 + x4).toNatClampNeg))) x1 x3 (x4 + 1)))
def f_X7_copies_5_6 (fuel : Nat) (σ : Mem) (x1 : Int32) (x3 : Int32) : Option (Mem) :=
  f_X7_copies_5_6_3 fuel fuel σ x1 x3 0
def f_X7_copies_6_5_3 (fuel : Nat)  : Nat → Mem → Int32 → Int32 → Int32 → Option (Mem)
  | 0, _, _, _, _ => none
  | n + 1, σ, x1, x3, x4 =>
    if 85 ≤ x4 then
      some σ
    else
      gd (inB (x1 + x4) 2040) (
      gd (inB (x3 + x4) 85) (
      (f_X7_copies_6_5_3 fuel n) (mst σ 5 ((x3 + x4).toNatClampNeg) (σ 6 ((x1 + x4).toNatClampNeg))) x1 x3 (x4 + 1)))
def f_X7_copies_6_5 (fuel : Nat) (σ : Mem) (x1 : Int32) (x3 : Int32) : Option (Mem) :=
  f_X7_copies_6_5_3 fuel fuel σ x1 x3 0
def f_X7_copies_5_11_3 (fuel : Nat)  : Nat → Mem → Int32 → Int32 → Int32 → Option (Mem)
  | 0, _, _, _, _ => none
  | n + 1, σ, x1, x3, x4 =>
    if 85 ≤ x4 then
      some σ
    else
      gd (inB (x1 + x4) 85) (
      gd (inB (x3 + x4) 85) (
      (f_X7_copies_5_11_3 fuel n) (mst σ 11 ((x3 + x4).toNatClampNeg) (σ 5 ((x1 + x4).toNatClampNeg))) x1 x3 (x4 + 1)))
def f_X7_copies_5_11 (fuel : Nat) (σ : Mem) (x1 : Int32) (x3 : Int32) : Option (Mem) :=
  f_X7_copies_5_11_3 fuel fuel σ x1 x3 0
def f_X7_copies_5_7_3 (fuel : Nat)  : Nat → Mem → Int32 → Int32 → Int32 → Option (Mem)
  | 0, _, _, _, _ => none
  | n + 1, σ, x1, x3, x4 =>
    if 85 ≤ x4 then
      some σ
    else
      gd (inB (x1 + x4) 85) (
      gd (inB (x3 + x4) 170) (
      (f_X7_copies_5_7_3 fuel n) (mst σ 7 ((x3 + x4).toNatClampNeg) (σ 5 ((x1 + x4).toNatClampNeg))) x1 x3 (x4 + 1)))
def f_X7_copies_5_7 (fuel : Nat) (σ : Mem) (x1 : Int32) (x3 : Int32) : Option (Mem) :=
  f_X7_copies_5_7_3 fuel fuel σ x1 x3 0
def f_X7_copies_7_5_3 (fuel : Nat)  : Nat → Mem → Int32 → Int32 → Int32 → Option (Mem)
  | 0, _, _, _, _ => none
  | n + 1, σ, x1, x3, x4 =>
    if 85 ≤ x4 then
      some σ
    else
      gd (inB (x1 + x4) 170) (
      gd (inB (x3 + x4) 85) (
      (f_X7_copies_7_5_3 fuel n) (mst σ 5 ((x3 + x4).toNatClampNeg) (σ 7 ((x1 + x4).toNatClampNeg))) x1 x3 (x4 + 1)))
def f_X7_copies_7_5 (fuel : Nat) (σ : Mem) (x1 : Int32) (x3 : Int32) : Option (Mem) :=
  f_X7_copies_7_5_3 fuel fuel σ x1 x3 0
def f_X7_found  (σ : Mem) (x1 : Int32) : Option (Int32 × Mem) :=
  some ((-1000010) - x1, mst σ 0 3 x1)
def f_X7_well  (σ : Mem) (x1 : Int32) : Option (Int32 × Mem) :=
  some (x1, mst σ 0 3 0)
def f_X7_fails  (σ : Mem) (x1 : Int32) : Option (Int32 × Mem) :=
  some (0, mst σ 0 6 x1)
def f_X7_isLetter (σ : Mem) (x1 : Int32) : Option (Int32) :=
  if σ 0 17 = 1 then
    if σ 0 18 = x1 then
      some 1
    else
      some 0
  else
    some 0
def f_X7_fault (σ : Mem)  : Option (Int32) :=
  some (σ 0 6)
def f_X7_copiesOf_5 (fuel : Nat) (σ : Mem)  : Nat → Int32 → Int32 → Int32 → Int32 → Option (Int32)
  | 0, _, _, _, _ => none
  | n + 1, x1, x2, x3, x4 =>
    if σ 5 3 ≤ x4 then
      some x3
    else
      gd (inB (x1 + x4) 85) (
      if σ 5 ((x1 + x4).toNatClampNeg) = x2 then
        (f_X7_copiesOf_5 fuel σ n) x1 x2 (x3 ||| (1 <<< (x4 &&& 31))) (x4 + 1)
      else
        (f_X7_copiesOf_5 fuel σ n) x1 x2 (x3 ||| 0) (x4 + 1))
def f_X7_copiesOf (fuel : Nat) (σ : Mem) (x1 : Int32) (x2 : Int32) : Option (Int32) :=
  f_X7_copiesOf_5 fuel σ fuel x1 x2 0 0
def f_X7_handAt (σ : Mem) (x1 : Int32) (x2 : Int32) : Option (Int32) :=
  some ((x1 >>> ((2 * (((σ 5 2) - 1) - x2)) &&& 31)) &&& 3)
def f_X7_blackOf_4 (fuel : Nat) (σ : Mem)  : Nat → Int32 → Int32 → Int32 → Option (Int32)
  | 0, _, _, _ => none
  | n + 1, x1, x2, x3 =>
    if σ 5 3 ≤ x3 then
      some x2
    else
      gd (inB (25 + x3) 85) (
      if σ 5 ((25 + x3).toNatClampNeg) = x1 then
        gd (inB (55 + x3) 85) (
        if σ 5 ((55 + x3).toNatClampNeg) = 0 then
          (f_X7_blackOf_4 fuel σ n) x1 (x2 + 1) (x3 + 1)
        else
          (f_X7_blackOf_4 fuel σ n) x1 (x2 + 0) (x3 + 1))
      else
        (f_X7_blackOf_4 fuel σ n) x1 (x2 + 0) (x3 + 1))
def f_X7_blackOf (fuel : Nat) (σ : Mem) (x1 : Int32) : Option (Int32) :=
  f_X7_blackOf_4 fuel σ fuel x1 0 0
def f_X7_status (σ : Mem)  : Option (Int32) :=
  some (σ 0 3)
def f_X7_leave_24 (fuel : Nat)  : Nat → Mem → Int64 → Int64 → Option (Mem)
  | 0, _, _, _ => none
  | n + 1, σ, x3, x5 =>
    if lg_cmp x3 0 ≤ 0 then
      some σ
    else
      gd (decide (¬ x3 = 0)) (
      gd (inB (σ 0 13) 16) (
      gd (decide (¬ x3 = 0)) (
      (f_X7_leave_24 fuel n) (mst (mst σ 9 ((σ 0 13).toNatClampNeg) ((x5 / x3).toInt32)) 0 13 ((σ 0 13) + 1)) (x3 / 100) (x5 - x5 / x3 * x3))))
def f_X7_leave_2 (fuel : Nat)  : Nat → Mem → Int64 → Int64 → Option (Mem)
  | 0, _, _, _ => none
  | n + 1, σ, x1, x3 =>
    if 0 < lg_cmp (x3 * 100) x1 then
      f_X7_leave_24 fuel fuel σ x3 x1
    else
      (f_X7_leave_2 fuel n) σ x1 (x3 * 100)
def f_X7_leave (fuel : Nat) (σ : Mem) (x1 : Int64) : Option (Mem) :=
  f_X7_leave_2 fuel fuel σ x1 1
def f_X6_isRow  (x0 : Int32) : Option (Int32) :=
  (f_X6_isBelow x0 8).bind fun v1 =>
  gd (isB v1) (
  some v1)
def f_X1_isInLimit (σ : Mem) (x1 : Int32) (x2 : Int32) : Option (Int32) :=
  gd (inB x1 10) (
  gd (inB x1 10) (
  (f_X1_limitOf σ (σ 17 x1.toNatClampNeg) (σ 13 1)).bind fun v3 =>
  if v3 < x2 - (σ 19 x1.toNatClampNeg) then
    some 0
  else
    some 1))
def f_X1_recallableBy_50 (fuel : Nat) (σ : Mem) (k5 : Int32 → Int32 → Int32 → Int32 → Option (Int32)) (x1 : Int32) (x2 : Int32) (x3 : Int32) (x4 : Int32) (x5 : Int32) (y0 : Int32) : Option (Int32) :=
  if y0 = 0 then
    k5 x1 x2 x3 (x4 + 1)
  else
    gd (inB x4 10) (
    (f_X1_limitOf σ x5 x2).bind fun v5 =>
    if v5 < (σ 13 3) - (σ 19 x4.toNatClampNeg) then
      k5 x1 x2 x3 (x4 + 1)
    else
      k5 x1 x2 (x3 ||| (1 <<< (x4 &&& 31))) (x4 + 1))
def f_X1_recallableBy_5 (fuel : Nat) (σ : Mem)  : Nat → Int32 → Int32 → Int32 → Int32 → Option (Int32)
  | 0, _, _, _, _ => none
  | n + 1, x1, x2, x3, x4 =>
    if σ 13 7 ≤ x4 then
      some x3
    else
      gd (inB x4 10) (
      (f_X6_bitOf x1 (σ 17 x4.toNatClampNeg)).bind fun v2 =>
      if v2 = 1 then
        (f_X6_bitOf (σ 13 5) x4).bind fun v3 =>
        if v3 = 0 then
          f_X1_recallableBy_50 fuel σ (f_X1_recallableBy_5 fuel σ n) x1 x2 x3 x4 (σ 17 x4.toNatClampNeg) 1
        else
          f_X1_recallableBy_50 fuel σ (f_X1_recallableBy_5 fuel σ n) x1 x2 x3 x4 (σ 17 x4.toNatClampNeg) 0
      else
        f_X1_recallableBy_50 fuel σ (f_X1_recallableBy_5 fuel σ n) x1 x2 x3 x4 (σ 17 x4.toNatClampNeg) 0)
def f_X1_recallableBy (fuel : Nat) (σ : Mem) (x1 : Int32) (x2 : Int32) : Option (Int32) :=
  f_X1_recallableBy_5 fuel σ fuel x1 x2 0 0
def f_X1_unwhiteBy (fuel : Nat) (σ : Mem) (x1 : Int32) : Option (Int32) :=
  (f_X1_copiesBy fuel σ x1).bind fun v1 =>
  (f_J6_bitCount_0f7a4 (v1 &&& ((σ 13 5) ^^^ (-1)))).bind fun v2 =>
  some v2
def f_X1_blackBy_4 (fuel : Nat) (σ : Mem)  : Nat → Int32 → Int32 → Int32 → Option (Int32)
  | 0, _, _, _ => none
  | n + 1, x1, x2, x3 =>
    if σ 13 7 ≤ x3 then
      some x2
    else
      (f_X6_bitOf x1 x3).bind fun v1 =>
      if v1 = 0 then
        gd (inB x3 10) (
        (f_X1_blackBy_4 fuel σ n) x1 (x2 ||| (1 <<< ((σ 16 x3.toNatClampNeg) &&& 31))) (x3 + 1))
      else
        (f_X1_blackBy_4 fuel σ n) x1 x2 (x3 + 1)
def f_X1_blackBy (fuel : Nat) (σ : Mem) (x1 : Int32) : Option (Int32) :=
  f_X1_blackBy_4 fuel σ fuel x1 0 0
def f_X1_standingOn_89 (fuel : Nat) (σ : Mem) (k4 : Int32 → Int32 → Int32 → Option (Int32)) (x1 : Int32) (x2 : Int32) (x3 : Int32) (x4 : Int32) (y0 : Int32) : Option (Int32) :=
  if x4 = 0 then
    k4 x1 x2 (x3 + 1)
  else
    if y0 = 0 then
      k4 x1 x2 (x3 + 1)
    else
      k4 x1 (x2 ||| (1 <<< (x3 &&& 31))) (x3 + 1)
def f_X1_standingOn_59 (fuel : Nat) (σ : Mem) (k4 : Int32 → Int32 → Int32 → Option (Int32)) (x1 : Int32) (x2 : Int32) (x3 : Int32) (y0 : Int32) : Option (Int32) :=
  gd (inB x3 5) (
  if σ 22 x3.toNatClampNeg < 0 then
    f_X1_standingOn_89 fuel σ k4 x1 x2 x3 y0 1
  else
    gd (inB x3 5) (
    (f_X6_bitOf x2 (σ 22 x3.toNatClampNeg)).bind fun v6 =>
    if v6 = 1 then
      f_X1_standingOn_89 fuel σ k4 x1 x2 x3 y0 1
    else
      f_X1_standingOn_89 fuel σ k4 x1 x2 x3 y0 0))
def f_X1_standingOn_4 (fuel : Nat) (σ : Mem)  : Nat → Int32 → Int32 → Int32 → Option (Int32)
  | 0, _, _, _ => none
  | n + 1, x1, x2, x3 =>
    if σ 13 8 ≤ x3 then
      some x2
    else
      gd (inB x3 5) (
      if σ 21 x3.toNatClampNeg = 1 then
        gd (inB x3 5) (
        if (σ 20 x3.toNatClampNeg) &&& (x1 ^^^ (-1)) = 0 then
          f_X1_standingOn_59 fuel σ (f_X1_standingOn_4 fuel σ n) x1 x2 x3 1
        else
          f_X1_standingOn_59 fuel σ (f_X1_standingOn_4 fuel σ n) x1 x2 x3 0)
      else
        gd (inB x3 5) (
        if (σ 20 x3.toNatClampNeg) &&& x1 = 0 then
          f_X1_standingOn_59 fuel σ (f_X1_standingOn_4 fuel σ n) x1 x2 x3 0
        else
          f_X1_standingOn_59 fuel σ (f_X1_standingOn_4 fuel σ n) x1 x2 x3 1))
def f_X1_standingOn (fuel : Nat) (σ : Mem) (x1 : Int32) : Option (Int32) :=
  f_X1_standingOn_4 fuel σ fuel x1 0 0
def f_X1_whiteOn_5 (fuel : Nat) (σ : Mem)  : Nat → Int32 → Int32 → Int32 → Option (Int32)
  | 0, _, _, _ => none
  | n + 1, x2, x3, x4 =>
    if σ 13 7 ≤ x4 then
      some x3
    else
      gd (inB x4 10) (
      (f_X1_isDrunk σ (σ 17 x4.toNatClampNeg)).bind fun v2 =>
      if v2 = 0 then
        (f_X1_whiteOn_5 fuel σ n) x2 x3 (x4 + 1)
      else
        gd (inB x4 10) (
        if x2 - (σ 19 x4.toNatClampNeg) < σ 13 2 then
          (f_X1_whiteOn_5 fuel σ n) x2 x3 (x4 + 1)
        else
          (f_X1_whiteOn_5 fuel σ n) x2 (x3 ||| (1 <<< (x4 &&& 31))) (x4 + 1)))
def f_X1_whiteOn (fuel : Nat) (σ : Mem) (x1 : Int32) (x2 : Int32) : Option (Int32) :=
  f_X1_whiteOn_5 fuel σ fuel x2 x1 0
def f_X1_become_13_48  (σ : Mem)  : Option (Mem) :=
  gd (isB (σ 48 0)) (
  gd (cpB 0 0 4 4 4) (
  gd (cpB 0 0 4 4 4) (
  gd (cpB 0 0 10 10 10) (
  gd (cpB 0 0 10 10 10) (
  gd (cpB 0 0 10 10 10) (
  gd (cpB 0 0 10 10 10) (
  gd (cpB 0 0 5 5 5) (
  gd (cpB 0 0 5 5 5) (
  gd (cpB 0 0 5 5 5) (
  gd (cpB 0 0 5 5 5) (
  some (mcpy (mcpy (mcpy (mcpy (mcpy (mcpy (mcpy (mcpy (mcpy (mcpy (mst (mst (mst (mst (mst (mst (mst (mst (mst σ 13 0 (σ 48 0)) 13 1 (σ 48 1)) 13 2 (σ 48 2)) 13 3 (σ 48 3)) 13 4 (σ 48 4)) 13 5 (σ 48 5)) 13 6 (σ 48 6)) 13 7 (σ 48 7)) 13 8 (σ 48 8)) 49 14 ((0 : Int32).toNatClampNeg) ((0 : Int32).toNatClampNeg) ((4 : Int32).toNatClampNeg)) 50 15 ((0 : Int32).toNatClampNeg) ((0 : Int32).toNatClampNeg) ((4 : Int32).toNatClampNeg)) 51 16 ((0 : Int32).toNatClampNeg) ((0 : Int32).toNatClampNeg) ((10 : Int32).toNatClampNeg)) 52 17 ((0 : Int32).toNatClampNeg) ((0 : Int32).toNatClampNeg) ((10 : Int32).toNatClampNeg)) 53 18 ((0 : Int32).toNatClampNeg) ((0 : Int32).toNatClampNeg) ((10 : Int32).toNatClampNeg)) 54 19 ((0 : Int32).toNatClampNeg) ((0 : Int32).toNatClampNeg) ((10 : Int32).toNatClampNeg)) 55 20 ((0 : Int32).toNatClampNeg) ((0 : Int32).toNatClampNeg) ((5 : Int32).toNatClampNeg)) 56 21 ((0 : Int32).toNatClampNeg) ((0 : Int32).toNatClampNeg) ((5 : Int32).toNatClampNeg)) 57 22 ((0 : Int32).toNatClampNeg) ((0 : Int32).toNatClampNeg) ((5 : Int32).toNatClampNeg)) 58 23 ((0 : Int32).toNatClampNeg) ((0 : Int32).toNatClampNeg) ((5 : Int32).toNatClampNeg)))))))))))))
def f_X1_become_24_13  (σ : Mem)  : Option (Mem) :=
  gd (isB (σ 13 0)) (
  gd (cpB 0 0 4 4 4) (
  gd (cpB 0 0 4 4 4) (
  gd (cpB 0 0 10 10 10) (
  gd (cpB 0 0 10 10 10) (
  gd (cpB 0 0 10 10 10) (
  gd (cpB 0 0 10 10 10) (
  gd (cpB 0 0 5 5 5) (
  gd (cpB 0 0 5 5 5) (
  gd (cpB 0 0 5 5 5) (
  gd (cpB 0 0 5 5 5) (
  some (mcpy (mcpy (mcpy (mcpy (mcpy (mcpy (mcpy (mcpy (mcpy (mcpy (mst (mst (mst (mst (mst (mst (mst (mst (mst σ 24 0 (σ 13 0)) 24 1 (σ 13 1)) 24 2 (σ 13 2)) 24 3 (σ 13 3)) 24 4 (σ 13 4)) 24 5 (σ 13 5)) 24 6 (σ 13 6)) 24 7 (σ 13 7)) 24 8 (σ 13 8)) 14 25 ((0 : Int32).toNatClampNeg) ((0 : Int32).toNatClampNeg) ((4 : Int32).toNatClampNeg)) 15 26 ((0 : Int32).toNatClampNeg) ((0 : Int32).toNatClampNeg) ((4 : Int32).toNatClampNeg)) 16 27 ((0 : Int32).toNatClampNeg) ((0 : Int32).toNatClampNeg) ((10 : Int32).toNatClampNeg)) 17 28 ((0 : Int32).toNatClampNeg) ((0 : Int32).toNatClampNeg) ((10 : Int32).toNatClampNeg)) 18 29 ((0 : Int32).toNatClampNeg) ((0 : Int32).toNatClampNeg) ((10 : Int32).toNatClampNeg)) 19 30 ((0 : Int32).toNatClampNeg) ((0 : Int32).toNatClampNeg) ((10 : Int32).toNatClampNeg)) 20 31 ((0 : Int32).toNatClampNeg) ((0 : Int32).toNatClampNeg) ((5 : Int32).toNatClampNeg)) 21 32 ((0 : Int32).toNatClampNeg) ((0 : Int32).toNatClampNeg) ((5 : Int32).toNatClampNeg)) 22 33 ((0 : Int32).toNatClampNeg) ((0 : Int32).toNatClampNeg) ((5 : Int32).toNatClampNeg)) 23 34 ((0 : Int32).toNatClampNeg) ((0 : Int32).toNatClampNeg) ((5 : Int32).toNatClampNeg)))))))))))))
def f_X1_become_35_13  (σ : Mem)  : Option (Mem) :=
  gd (isB (σ 13 0)) (
  gd (cpB 0 0 4 4 4) (
  gd (cpB 0 0 4 4 4) (
  gd (cpB 0 0 10 10 10) (
  gd (cpB 0 0 10 10 10) (
  gd (cpB 0 0 10 10 10) (
  gd (cpB 0 0 10 10 10) (
  gd (cpB 0 0 5 5 5) (
  gd (cpB 0 0 5 5 5) (
  gd (cpB 0 0 5 5 5) (
  gd (cpB 0 0 5 5 5) (
  some (mcpy (mcpy (mcpy (mcpy (mcpy (mcpy (mcpy (mcpy (mcpy (mcpy (mst (mst (mst (mst (mst (mst (mst (mst (mst σ 35 0 (σ 13 0)) 35 1 (σ 13 1)) 35 2 (σ 13 2)) 35 3 (σ 13 3)) 35 4 (σ 13 4)) 35 5 (σ 13 5)) 35 6 (σ 13 6)) 35 7 (σ 13 7)) 35 8 (σ 13 8)) 14 36 ((0 : Int32).toNatClampNeg) ((0 : Int32).toNatClampNeg) ((4 : Int32).toNatClampNeg)) 15 37 ((0 : Int32).toNatClampNeg) ((0 : Int32).toNatClampNeg) ((4 : Int32).toNatClampNeg)) 16 38 ((0 : Int32).toNatClampNeg) ((0 : Int32).toNatClampNeg) ((10 : Int32).toNatClampNeg)) 17 39 ((0 : Int32).toNatClampNeg) ((0 : Int32).toNatClampNeg) ((10 : Int32).toNatClampNeg)) 18 40 ((0 : Int32).toNatClampNeg) ((0 : Int32).toNatClampNeg) ((10 : Int32).toNatClampNeg)) 19 41 ((0 : Int32).toNatClampNeg) ((0 : Int32).toNatClampNeg) ((10 : Int32).toNatClampNeg)) 20 42 ((0 : Int32).toNatClampNeg) ((0 : Int32).toNatClampNeg) ((5 : Int32).toNatClampNeg)) 21 43 ((0 : Int32).toNatClampNeg) ((0 : Int32).toNatClampNeg) ((5 : Int32).toNatClampNeg)) 22 44 ((0 : Int32).toNatClampNeg) ((0 : Int32).toNatClampNeg) ((5 : Int32).toNatClampNeg)) 23 45 ((0 : Int32).toNatClampNeg) ((0 : Int32).toNatClampNeg) ((5 : Int32).toNatClampNeg)))))))))))))
def f_X1_become_13_24  (σ : Mem)  : Option (Mem) :=
  gd (isB (σ 24 0)) (
  gd (cpB 0 0 4 4 4) (
  gd (cpB 0 0 4 4 4) (
  gd (cpB 0 0 10 10 10) (
  gd (cpB 0 0 10 10 10) (
  gd (cpB 0 0 10 10 10) (
  gd (cpB 0 0 10 10 10) (
  gd (cpB 0 0 5 5 5) (
  gd (cpB 0 0 5 5 5) (
  gd (cpB 0 0 5 5 5) (
  gd (cpB 0 0 5 5 5) (
  some (mcpy (mcpy (mcpy (mcpy (mcpy (mcpy (mcpy (mcpy (mcpy (mcpy (mst (mst (mst (mst (mst (mst (mst (mst (mst σ 13 0 (σ 24 0)) 13 1 (σ 24 1)) 13 2 (σ 24 2)) 13 3 (σ 24 3)) 13 4 (σ 24 4)) 13 5 (σ 24 5)) 13 6 (σ 24 6)) 13 7 (σ 24 7)) 13 8 (σ 24 8)) 25 14 ((0 : Int32).toNatClampNeg) ((0 : Int32).toNatClampNeg) ((4 : Int32).toNatClampNeg)) 26 15 ((0 : Int32).toNatClampNeg) ((0 : Int32).toNatClampNeg) ((4 : Int32).toNatClampNeg)) 27 16 ((0 : Int32).toNatClampNeg) ((0 : Int32).toNatClampNeg) ((10 : Int32).toNatClampNeg)) 28 17 ((0 : Int32).toNatClampNeg) ((0 : Int32).toNatClampNeg) ((10 : Int32).toNatClampNeg)) 29 18 ((0 : Int32).toNatClampNeg) ((0 : Int32).toNatClampNeg) ((10 : Int32).toNatClampNeg)) 30 19 ((0 : Int32).toNatClampNeg) ((0 : Int32).toNatClampNeg) ((10 : Int32).toNatClampNeg)) 31 20 ((0 : Int32).toNatClampNeg) ((0 : Int32).toNatClampNeg) ((5 : Int32).toNatClampNeg)) 32 21 ((0 : Int32).toNatClampNeg) ((0 : Int32).toNatClampNeg) ((5 : Int32).toNatClampNeg)) 33 22 ((0 : Int32).toNatClampNeg) ((0 : Int32).toNatClampNeg) ((5 : Int32).toNatClampNeg)) 34 23 ((0 : Int32).toNatClampNeg) ((0 : Int32).toNatClampNeg) ((5 : Int32).toNatClampNeg)))))))))))))
def f_X1_become_13_35  (σ : Mem)  : Option (Mem) :=
  gd (isB (σ 35 0)) (
  gd (cpB 0 0 4 4 4) (
  gd (cpB 0 0 4 4 4) (
  gd (cpB 0 0 10 10 10) (
  gd (cpB 0 0 10 10 10) (
  gd (cpB 0 0 10 10 10) (
  gd (cpB 0 0 10 10 10) (
  gd (cpB 0 0 5 5 5) (
  gd (cpB 0 0 5 5 5) (
  gd (cpB 0 0 5 5 5) (
  gd (cpB 0 0 5 5 5) (
  some (mcpy (mcpy (mcpy (mcpy (mcpy (mcpy (mcpy (mcpy (mcpy (mcpy (mst (mst (mst (mst (mst (mst (mst (mst (mst σ 13 0 (σ 35 0)) 13 1 (σ 35 1)) 13 2 (σ 35 2)) 13 3 (σ 35 3)) 13 4 (σ 35 4)) 13 5 (σ 35 5)) 13 6 (σ 35 6)) 13 7 (σ 35 7)) 13 8 (σ 35 8)) 36 14 ((0 : Int32).toNatClampNeg) ((0 : Int32).toNatClampNeg) ((4 : Int32).toNatClampNeg)) 37 15 ((0 : Int32).toNatClampNeg) ((0 : Int32).toNatClampNeg) ((4 : Int32).toNatClampNeg)) 38 16 ((0 : Int32).toNatClampNeg) ((0 : Int32).toNatClampNeg) ((10 : Int32).toNatClampNeg)) 39 17 ((0 : Int32).toNatClampNeg) ((0 : Int32).toNatClampNeg) ((10 : Int32).toNatClampNeg)) 40 18 ((0 : Int32).toNatClampNeg) ((0 : Int32).toNatClampNeg) ((10 : Int32).toNatClampNeg)) 41 19 ((0 : Int32).toNatClampNeg) ((0 : Int32).toNatClampNeg) ((10 : Int32).toNatClampNeg)) 42 20 ((0 : Int32).toNatClampNeg) ((0 : Int32).toNatClampNeg) ((5 : Int32).toNatClampNeg)) 43 21 ((0 : Int32).toNatClampNeg) ((0 : Int32).toNatClampNeg) ((5 : Int32).toNatClampNeg)) 44 22 ((0 : Int32).toNatClampNeg) ((0 : Int32).toNatClampNeg) ((5 : Int32).toNatClampNeg)) 45 23 ((0 : Int32).toNatClampNeg) ((0 : Int32).toNatClampNeg) ((5 : Int32).toNatClampNeg)))))))))))))
def f_X0_keep_45   (σ : Mem) (x1 : Int32) (x2 : Int32) : Option (Mem) :=
  gd (inB (σ 59 2) 24) (
  gd (inB (σ 59 2) 24) (
  some (mst (mst (mst σ 60 ((σ 59 2).toNatClampNeg) x1) 61 ((σ 59 2).toNatClampNeg) x2) 59 2 ((σ 59 2) + 1))))
def f_X0_keep  (σ : Mem) (x1 : Int32) (x2 : Int32) : Option (Mem) :=
  if σ 59 2 < 24 then
    f_X0_keep_45 σ x1 x2
  else
    gd (cpB 1 0 23 24 24) (
    gd (cpB 1 0 23 24 24) (
    f_X0_keep_45 (mst (mcpy (mcpy σ 60 60 ((1 : Int32).toNatClampNeg) ((0 : Int32).toNatClampNeg) ((23 : Int32).toNatClampNeg)) 61 61 ((1 : Int32).toNatClampNeg) ((0 : Int32).toNatClampNeg) ((23 : Int32).toNatClampNeg)) 59 2 23) x1 x2))
def f_X5_lay (fuel : Nat) (σ : Mem) (x1 : Int32) (x2 : Int32) (x3 : Int32) : Option (Mem) :=
  gd (inB x1 8) (
  gd (inB x1 8) (
  gd (inB x1 8) (
  (f_J7_fill_r fuel x1.toNatClampNeg (mst (mst σ 2 x1.toNatClampNeg x2) 3 x1.toNatClampNeg x3) 0).bind fun v4 =>
  some v4)))
def f_X5_present_4 (fuel : Nat) (σ : Mem)  : Nat → Int32 → Int32 → Option (Int32)
  | 0, _, _ => none
  | n + 1, x1, x2 =>
    if 8 ≤ x2 then
      some x1
    else
      (f_X5_isMissing σ x2).bind fun v1 =>
      if v1 = 0 then
        (f_X5_present_4 fuel σ n) (x1 + 1) (x2 + 1)
      else
        (f_X5_present_4 fuel σ n) x1 (x2 + 1)
def f_X5_present (fuel : Nat) (σ : Mem)  : Option (Int32) :=
  f_X5_present_4 fuel σ fuel 0 0
def f_X4_readSign  (σ : Mem) (x1 : Int32) : Option (Int32 × Mem) :=
  (f_X4_next σ).bind fun v1 =>
  if v1 = x1 then
    some (1, mst σ 46 3 ((σ 46 3) + 1))
  else
    (f_X4_fail σ 1).bind fun v2 =>
    gd (isB v2.1) (
    some (v2.1, v2.2))
def f_X4_readNumber_98 (fuel : Nat)  (σ : Mem) (x1 : Int32) (x2 : Int32) (x3 : Int32) (x4 : Int32) : Option (Int32 × Mem) :=
  if x4 < x1 then
    some ((-1), mst σ 46 4 2)
  else
    if x4 ≤ x2 then
      some (x4, mst σ 46 3 x3)
    else
      some ((-1), mst σ 46 4 2)
def f_X4_readNumber_27 (fuel : Nat)  (σ : Mem) (x1 : Int32) (x2 : Int32) (x3 : Int32) : Option (Int32 × Mem) :=
  if x3 = σ 46 3 then
    some ((-1), mst σ 46 4 1)
  else
    if x3 - (σ 46 3) ≤ 2 then
      gd (inB (σ 46 3) 140) (
      if x3 - (σ 46 3) = 2 then
        gd (inB ((σ 46 3) + 1) 140) (
        f_X4_readNumber_98 fuel σ x1 x2 x3 (((((σ 47 ((σ 46 3).toNatClampNeg)) - 48) * 10) + (σ 47 (((σ 46 3) + 1).toNatClampNeg))) - 48))
      else
        f_X4_readNumber_98 fuel σ x1 x2 x3 ((σ 47 ((σ 46 3).toNatClampNeg)) - 48))
    else
      some ((-1), mst σ 46 4 1)
def f_X4_readNumber_5 (fuel : Nat)  : Nat → Mem → Int32 → Int32 → Int32 → Option (Int32 × Mem)
  | 0, _, _, _, _ => none
  | n + 1, σ, x1, x2, x3 =>
    if σ 46 2 ≤ x3 then
      f_X4_readNumber_27 fuel σ x1 x2 x3
    else
      (f_X4_isFigure σ x3).bind fun v1 =>
      if v1 = 0 then
        f_X4_readNumber_27 fuel σ x1 x2 x3
      else
        (f_X4_readNumber_5 fuel n) σ x1 x2 (x3 + 1)
def f_X4_readNumber (fuel : Nat) (σ : Mem) (x1 : Int32) (x2 : Int32) : Option (Int32 × Mem) :=
  f_X4_readNumber_5 fuel fuel σ x1 x2 (σ 46 3)
def f_X3_bestPair_54 (fuel : Nat) (σ : Mem) (k8 : Int32 → Int32 → Int32 → Option (Int32)) (k23 : Int32 → Int32 → Int32 → Int32 → Option (Int32)) (x4 : Int32) (x5 : Int32) (x6 : Int32) : Option (Int32) :=
  k23 ((4 * x4) + x5) x6 x4 (x5 + 1)
def f_X3_bestPair_23 (fuel : Nat) (σ : Mem) (k8 : Int32 → Int32 → Int32 → Option (Int32)) : Nat → Int32 → Int32 → Int32 → Int32 → Option (Int32)
  | 0, _, _, _, _ => none
  | n + 1, x2, x3, x4, x5 =>
    if σ 13 6 ≤ x5 then
      k8 x2 x3 (x4 + 1)
    else
      (f_X3_gainOf σ x4 x5).bind fun v1 =>
      if x2 = (-1000000) then
        f_X3_bestPair_54 fuel σ k8 (f_X3_bestPair_23 fuel σ k8 n) x4 x5 v1
      else
        if v1 ≤ x3 then
          (f_X3_bestPair_23 fuel σ k8 n) x2 x3 x4 (x5 + 1)
        else
          f_X3_bestPair_54 fuel σ k8 (f_X3_bestPair_23 fuel σ k8 n) x4 x5 v1
def f_X3_bestPair_8 (fuel : Nat) (σ : Mem)  : Nat → Int32 → Int32 → Int32 → Option (Int32)
  | 0, _, _, _ => none
  | n + 1, x2, x3, x4 =>
    if σ 13 6 ≤ x4 then
      some x2
    else
      f_X3_bestPair_23 fuel σ (f_X3_bestPair_8 fuel σ n) fuel x2 x3 x4 (x4 + 1)
def f_X3_bestPair (fuel : Nat) (σ : Mem)  : Option (Int32) :=
  f_X3_bestPair_8 fuel σ fuel (-1000000) 0 0
def f_X3_safeFrom (σ : Mem) (x2 : Int32) : Option (Int32) :=
  gd (inB x2 10) (
  (f_X6_bitOf (σ 13 5) x2).bind fun v2 =>
  if v2 = 1 then
    some (-1000000)
  else
    (f_X1_isDrunk σ (σ 17 x2.toNatClampNeg)).bind fun v3 =>
    if v3 = 0 then
      gd (inB x2 10) (
      (f_X1_limitOf σ (σ 17 x2.toNatClampNeg) (σ 13 1)).bind fun v5 =>
      some (jmax (σ 13 3) (((σ 19 x2.toNatClampNeg) + v5) + 1)))
    else
      some (-1000000))
def f_X3_cheapestBeside_38 (fuel : Nat) (σ : Mem) (k6 : Int32 → Int32 → Int32 → Option (Int32)) (x2 : Int32) (x3 : Int32) (x4 : Int32) (y0 : Int32) : Option (Int32) :=
  if y0 = 0 then
    k6 x2 x3 (x4 + 1)
  else
    if x3 = (-1000000) then
      gd (inB x4 4) (
      k6 x2 (σ 15 x4.toNatClampNeg) (x4 + 1))
    else
      gd (inB x4 4) (
      if x3 ≤ σ 15 x4.toNatClampNeg then
        k6 x2 x3 (x4 + 1)
      else
        gd (inB x4 4) (
        k6 x2 (σ 15 x4.toNatClampNeg) (x4 + 1)))
def f_X3_cheapestBeside_6 (fuel : Nat) (σ : Mem)  : Nat → Int32 → Int32 → Int32 → Option (Int32)
  | 0, _, _, _ => none
  | n + 1, x2, x3, x4 =>
    if σ 13 6 ≤ x4 then
      some x3
    else
      (f_X6_bitOf x2 x4).bind fun v1 =>
      if v1 = 0 then
        (f_X1_isDrunk σ x4).bind fun v2 =>
        if v2 = 0 then
          f_X3_cheapestBeside_38 fuel σ (f_X3_cheapestBeside_6 fuel σ n) x2 x3 x4 1
        else
          f_X3_cheapestBeside_38 fuel σ (f_X3_cheapestBeside_6 fuel σ n) x2 x3 x4 0
      else
        f_X3_cheapestBeside_38 fuel σ (f_X3_cheapestBeside_6 fuel σ n) x2 x3 x4 0
def f_X3_cheapestBeside (fuel : Nat) (σ : Mem) (x2 : Int32) : Option (Int32) :=
  f_X3_cheapestBeside_6 fuel σ fuel x2 (-1000000) 0
def f_X3_sumOfOrder_8 (fuel : Nat) (σ : Mem)  : Nat → Int32 → Int32 → Int32 → Int32 → Option (Int32)
  | 0, _, _, _, _ => none
  | n + 1, x2, x3, x4, x5 =>
    if σ 13 6 ≤ x5 then
      some x4
    else
      (f_X3_handInOrder σ x2 x5).bind fun v1 =>
      if σ 13 6 ≤ v1 then
        some (-1)
      else
        (f_X6_bitOf x3 v1).bind fun v2 =>
        if v2 = 1 then
          some (-1)
        else
          gd (inB (x3 ||| (1 <<< (v1 &&& 31))) 16) (
          (f_X3_sumOfOrder_8 fuel σ n) x2 (x3 ||| (1 <<< (v1 &&& 31))) (x4 + (σ 63 ((x3 ||| (1 <<< (v1 &&& 31))).toNatClampNeg))) (x5 + 1))
def f_X3_sumOfOrder (fuel : Nat) (σ : Mem) (x2 : Int32) : Option (Int32) :=
  f_X3_sumOfOrder_8 fuel σ fuel x2 0 0 0
def f_X2_askAnew (fuel : Nat) (rb : Mem → Int32 → Int32 → Int32 → Option (Int32 × Mem)) (σ : Mem) (x2 : Int32) (x3 : Int32) (x4 : Int32) : Option (Int32 × Mem) :=
  if x3 = 0 then
    gd (inB x2 4) (
    (f_X2_nearest_S fuel σ (σ 14 x2.toNatClampNeg)).bind fun v5 =>
    (rb σ v5 x2 x4).bind fun v6 =>
    some (v6.1, v6.2))
  else
    gd (inB x2 4) (
    (f_X2_nearest_M fuel σ (σ 14 x2.toNatClampNeg)).bind fun v2 =>
    (rb σ v2 x2 x4).bind fun v3 =>
    some (v3.1, v3.2))
def f_X6_feed  (σ : Mem) (x1 : Int32) : Option (Int32 × Mem) :=
  if x1 < 0 then
    some ((-1000001), σ)
  else
    if x1 ≤ 255 then
      if σ 46 2 < 140 then
        (f_X4_append σ x1).bind fun v1 =>
        some (v1.1, v1.2)
      else
        some ((-1000003), σ)
    else
      some ((-1000001), σ)
def f_X6_undo  (σ : Mem)  : Option (Int32 × Mem) :=
  if 0 < σ 59 2 then
    (f_X0_undoLatest σ).bind fun v1 =>
    some (v1 59 2, v1)
  else
    some ((-1000002), σ)
def f_X6_trace (σ : Mem) (x1 : Int32) : Option (Int32) :=
  (f_X6_isBelow x1 (σ 66 1)).bind fun v1 =>
  if v1 = 0 then
    some (-1000000)
  else
    gd (inB x1 16) (
    some (σ 67 x1.toNatClampNeg))
def f_X6_isHand (σ : Mem) (x1 : Int32) : Option (Int32) :=
  (f_X6_isBelow x1 (σ 13 6)).bind fun v1 =>
  gd (isB v1) (
  some v1)
def f_X6_isCopy (σ : Mem) (x1 : Int32) : Option (Int32) :=
  (f_X6_isBelow x1 (σ 13 7)).bind fun v1 =>
  gd (isB v1) (
  some v1)
def f_X6_isDeed (σ : Mem) (x1 : Int32) : Option (Int32) :=
  (f_X6_isBelow x1 (σ 13 8)).bind fun v1 =>
  gd (isB v1) (
  some v1)
def f_X6_isHandSet (σ : Mem) (x1 : Int32) : Option (Int32) :=
  (f_X6_isBelow x1 (1 <<< ((σ 13 6) &&& 31))).bind fun v1 =>
  gd (isB v1) (
  some v1)
def f_X7_isRow  (x0 : Int32) : Option (Int32) :=
  (f_X7_in x0.toInt64 0 7).bind fun v1 =>
  gd (isB v1) (
  some v1)
def f_X7_isFigure  (x0 : Int32) : Option (Int32) :=
  (f_X7_in x0.toInt64 48 57).bind fun v1 =>
  gd (isB v1) (
  some v1)
def f_X7_isTwo  (x0 : Int32) : Option (Int32) :=
  (f_X7_in x0.toInt64 0 1).bind fun v1 =>
  gd (isB v1) (
  some v1)
def f_X7_mayRecall_n (σ : Mem) (x1 : Int32) : Option (Int32) :=
  gd (inB (55 + x1) 85) (
  if σ 5 ((55 + x1).toNatClampNeg) = 0 then
    gd (inB (45 + x1) 85) (
    gd (inB (25 + x1) 85) (
    (f_X7_limit_n σ (σ 5 ((25 + x1).toNatClampNeg))).bind fun v4 =>
    if v4 < (σ 5 5) - (σ 5 ((45 + x1).toNatClampNeg)) then
      some 0
    else
      some 1))
  else
    some 0)
def f_X7_stand_n (fuel : Nat) (σ : Mem)  : Option (Int32) :=
  (f_X7_black_n fuel σ).bind fun v1 =>
  (f_X7_standBy_n fuel σ v1).bind fun v2 =>
  some v2
def f_X7_mayRecall_a (σ : Mem) (x1 : Int32) : Option (Int32) :=
  gd (inB (55 + x1) 85) (
  if σ 11 ((55 + x1).toNatClampNeg) = 0 then
    gd (inB (45 + x1) 85) (
    gd (inB (25 + x1) 85) (
    (f_X7_limit_a σ (σ 11 ((25 + x1).toNatClampNeg))).bind fun v4 =>
    if v4 < (σ 11 5) - (σ 11 ((45 + x1).toNatClampNeg)) then
      some 0
    else
      some 1))
  else
    some 0)
def f_X7_stand_a (fuel : Nat) (σ : Mem)  : Option (Int32) :=
  (f_X7_black_a fuel σ).bind fun v1 =>
  (f_X7_standBy_a fuel σ v1).bind fun v2 =>
  some v2
def f_X7_feed  (σ : Mem) (x1 : Int32) : Option (Int32 × Mem) :=
  (f_X7_in x1.toInt64 0 255).bind fun v1 =>
  if v1 = 0 then
    some ((-1000001), σ)
  else
    if σ 0 5 = 140 then
      some ((-1000003), σ)
    else
      gd (inB (σ 0 5) 140) (
      some ((σ 0 5) + 1, mst (mst σ 4 ((σ 0 5).toNatClampNeg) x1) 0 5 ((σ 0 5) + 1)))
def f_X7_isHand (σ : Mem) (x1 : Int32) : Option (Int32) :=
  (f_X7_in x1.toInt64 0 (((σ 5 2) - 1).toInt64)).bind fun v1 =>
  gd (isB v1) (
  some v1)
def f_X7_isCopy (σ : Mem) (x1 : Int32) : Option (Int32) :=
  (f_X7_in x1.toInt64 0 (((σ 5 3) - 1).toInt64)).bind fun v1 =>
  gd (isB v1) (
  some v1)
def f_X7_isDeed (σ : Mem) (x1 : Int32) : Option (Int32) :=
  (f_X7_in x1.toInt64 0 (((σ 5 4) - 1).toInt64)).bind fun v1 =>
  gd (isB v1) (
  some v1)
def f_X7_areHands (σ : Mem) (x1 : Int32) : Option (Int32) :=
  (f_X7_in x1.toInt64 0 (((1 <<< ((σ 5 2) &&& 31)) - 1).toInt64)).bind fun v1 =>
  gd (isB v1) (
  some v1)
def f_X7_remember_49 (fuel : Nat)  (σ : Mem) : Option (Mem) :=
  (f_X7_copies_5_6 fuel σ 0 (85 * (σ 0 9))).bind fun v1 =>
  some (mst v1 0 9 ((v1 0 9) + 1))
def f_X7_remember_11 (fuel : Nat)  : Nat → Mem → Int32 → Option (Mem)
  | 0, _, _ => none
  | n + 1, σ, x1 =>
    if 1955 ≤ x1 then
      f_X7_remember_49 fuel (mst σ 0 9 ((σ 0 9) - 1))
    else
      gd (inB (x1 + 85) 2040) (
      gd (inB x1 2040) (
      (f_X7_remember_11 fuel n) (mst σ 6 x1.toNatClampNeg (σ 6 ((x1 + 85).toNatClampNeg))) (x1 + 1)))
def f_X7_remember (fuel : Nat) (σ : Mem)  : Option (Mem) :=
  if σ 0 9 = 24 then
    f_X7_remember_11 fuel fuel σ 0
  else
    f_X7_remember_49 fuel σ
def f_X7_undo (fuel : Nat) (σ : Mem)  : Option (Int32 × Mem) :=
  if σ 0 9 = 0 then
    some ((-1000002), σ)
  else
    (f_X7_copies_6_5 fuel (mst σ 0 9 ((σ 0 9) - 1)) (85 * ((σ 0 9) - 1)) 0).bind fun v1 =>
    some (v1 0 9, v1)
def f_X7_layAside (fuel : Nat) (σ : Mem)  : Option (Mem) :=
  (f_X7_copies_5_11 fuel σ 0 0).bind fun v1 =>
  some v1
def f_X7_isOrder_4 (fuel : Nat) (σ : Mem)  : Nat → Int32 → Int32 → Int32 → Option (Int32)
  | 0, _, _, _ => none
  | n + 1, x1, x2, x3 =>
    if σ 5 2 ≤ x3 then
      if x2 = (1 <<< ((σ 5 2) &&& 31)) - 1 then
        some 1
      else
        some 0
    else
      (f_X7_handAt σ x1 x3).bind fun v1 =>
      (f_X7_isOrder_4 fuel σ n) x1 (x2 ||| (1 <<< (v1 &&& 31))) (x3 + 1)
def f_X7_isOrder (fuel : Nat) (σ : Mem) (x1 : Int32) : Option (Int32) :=
  f_X7_isOrder_4 fuel σ fuel x1 0 0
def f_X7_canBe_108 (σ : Mem)  (x1 : Int32) (x4 : Int32) : Option (Int32) :=
  gd (inB (25 + x1) 85) (
  (f_X7_limit_n σ (σ 5 ((25 + x1).toNatClampNeg))).bind fun v7 =>
  if v7 < x4 then
    some 0
  else
    some 1)
def f_X7_canBe_26 (σ : Mem)  (x1 : Int32) (x2 : Int32) (y0 : Int32) : Option (Int32) :=
  if x2 = (-1) then
    some 1
  else
    gd (inB (45 + x1) 85) (
    gd (inB (45 + x1) 85) (
    (f_X7_in x2.toInt64 ((σ 5 ((45 + x1).toNatClampNeg)).toInt64) ((σ 5 5).toInt64)).bind fun v5 =>
    if v5 = 0 then
      some 0
    else
      if y0 = 0 then
        f_X7_canBe_108 σ x1 (x2 - (σ 5 ((45 + x1).toNatClampNeg)))
      else
        if x2 - (σ 5 ((45 + x1).toNatClampNeg)) < σ 5 1 then
          f_X7_canBe_108 σ x1 (x2 - (σ 5 ((45 + x1).toNatClampNeg)))
        else
          if x2 - (σ 5 ((45 + x1).toNatClampNeg)) = σ 5 1 then
            some 1
          else
            some 0))
def f_X7_canBe (σ : Mem) (x1 : Int32) (x2 : Int32) : Option (Int32) :=
  gd (inB (25 + x1) 85) (
  gd (inB (7 + (σ 5 ((25 + x1).toNatClampNeg))) 85) (
  if σ 5 ((7 + (σ 5 ((25 + x1).toNatClampNeg))).toNatClampNeg) = 3 then
    f_X7_canBe_26 σ x1 x2 1
  else
    f_X7_canBe_26 σ x1 x2 0))
def f_X7_mark_44 (fuel : Nat)  (σ : Mem) (x2 : Int32) (x3 : Int32) (y0 : Int64) : Option (Int32 × Mem) :=
  (f_X7_leave fuel σ y0).bind fun v3 =>
  if x2 = 2 then
    some (2 * x3, v3)
  else
    if x2 = 3 then
      some (x3 - 1000, v3)
    else
      some (x3, v3)
def f_X7_mark (fuel : Nat) (σ : Mem) (x1 : Int32) : Option (Int32 × Mem) :=
  gd (inB (7 + x1) 85) (
  (f_X7_blackOf fuel σ x1).bind fun v2 =>
  if σ 5 ((7 + x1).toNatClampNeg) = 2 then
    f_X7_mark_44 fuel σ (σ 5 ((7 + x1).toNatClampNeg)) (x1 + v2) 242120
  else
    if σ 5 ((7 + x1).toNatClampNeg) = 3 then
      f_X7_mark_44 fuel σ (σ 5 ((7 + x1).toNatClampNeg)) (x1 + v2) 222120
    else
      f_X7_mark_44 fuel σ (σ 5 ((7 + x1).toNatClampNeg)) (x1 + v2) 2120)
def f_X7_sizeOf_46 (fuel : Nat)  (σ : Mem) (x2 : Int32) (x3 : Int32) (y0 : Int64) : Option (Int32 × Mem) :=
  (f_X7_leave fuel σ y0).bind fun v3 =>
  if x3 = 0 then
    some (x2, v3)
  else
    some (2 * x2, v3)
def f_X7_sizeOf_31 (fuel : Nat)  (σ : Mem) (x2 : Int32) (y0 : Int32) : Option (Int32 × Mem) :=
  if y0 = 0 then
    f_X7_sizeOf_46 fuel σ x2 y0 1310
  else
    f_X7_sizeOf_46 fuel σ x2 y0 141310
def f_X7_sizeOf (fuel : Nat) (σ : Mem) (x1 : Int32) : Option (Int32 × Mem) :=
  gd (inB (11 + x1) 85) (
  gd (inB (7 + x1) 85) (
  if σ 5 ((7 + x1).toNatClampNeg) = 5 then
    f_X7_sizeOf_31 fuel σ ((σ 5 ((11 + x1).toNatClampNeg)) - 100) 1
  else
    f_X7_sizeOf_31 fuel σ ((σ 5 ((11 + x1).toNatClampNeg)) - 100) 0))
def f_X7_trace (σ : Mem) (x1 : Int32) : Option (Int32) :=
  (f_X7_in x1.toInt64 0 (((σ 0 13) - 1).toInt64)).bind fun v1 =>
  if v1 = 0 then
    some (-1000000)
  else
    gd (inB x1 16) (
    some (σ 9 x1.toNatClampNeg))
def f_X7_count_4 (fuel : Nat) (σ : Mem)  : Nat → Int32 → Int32 → Int32 → Option (Int32)
  | 0, _, _, _ => none
  | n + 1, x1, x2, x3 =>
    if 8 ≤ x3 then
      if x1 = 0 then
        some x2
      else
      if x1 = 1 then
        gd (inB ((2 + x1) - 1) 85) (
        some (σ 5 (((2 + x1) - 1).toNatClampNeg)))
      else
      if x1 = 2 then
        gd (inB ((2 + x1) - 1) 85) (
        some (σ 5 (((2 + x1) - 1).toNatClampNeg)))
      else
      if x1 = 3 then
        gd (inB ((2 + x1) - 1) 85) (
        some (σ 5 (((2 + x1) - 1).toNatClampNeg)))
      else
      if x1 = 4 then
        gd (inB ((2 + x1) - 1) 85) (
        some (σ 5 (((2 + x1) - 1).toNatClampNeg)))
      else
      if x1 = 5 then
        gd (inB ((2 + x1) - 1) 85) (
        some (σ 5 (((2 + x1) - 1).toNatClampNeg)))
      else
      if x1 = 6 then
        (f_X7_whites fuel σ).bind fun v13 =>
        some v13
      else
      if x1 = 7 then
        some (σ 0 9)
      else
      if x1 = 8 then
        some (σ 0 5)
      else
      some (-1000001)
    else
      gd (inB x3 8) (
      if 0 ≤ σ 2 x3.toNatClampNeg then
        (f_X7_count_4 fuel σ n) x1 (x2 + 1) (x3 + 1)
      else
        (f_X7_count_4 fuel σ n) x1 (x2 + 0) (x3 + 1))
def f_X7_count (fuel : Nat) (σ : Mem) (x1 : Int32) : Option (Int32) :=
  f_X7_count_4 fuel σ fuel x1 0 0
def f_X1_mayRecall (σ : Mem) (x1 : Int32) (x2 : Int32) (x3 : Int32) : Option (Int32) :=
  (f_X6_bitOf x2 x1).bind fun v1 =>
  if v1 = 0 then
    (f_X1_isInLimit σ x1 x3).bind fun v2 =>
    if v2 = 0 then
      some 0
    else
      some 1
  else
    some 0
def f_X1_whiteAfter (fuel : Nat) (σ : Mem) (x1 : Int32) (x2 : Int32) : Option (Int32) :=
  (f_X1_recallableBy fuel σ x1 x2).bind fun v1 =>
  some ((σ 13 5) ||| v1)
def f_X1_standingBy (fuel : Nat) (σ : Mem) (x1 : Int32) : Option (Int32) :=
  (f_X1_blackBy fuel σ x1).bind fun v1 =>
  (f_X1_standingOn fuel σ v1).bind fun v2 =>
  some v2
def f_X1_passDay (fuel : Nat) (σ : Mem)  : Option (Mem) :=
  (f_X1_whiteOn fuel (mst σ 13 3 ((σ 13 3) + 1)) (σ 13 5) ((σ 13 3) + 1)).bind fun v1 =>
  some (mst (mst σ 13 3 ((σ 13 3) + 1)) 13 5 v1)
def f_X4_readNumberAndSign (fuel : Nat) (σ : Mem) (x1 : Int32) (x2 : Int32) (x3 : Int32) : Option (Int32 × Mem) :=
  (f_X4_readNumber fuel σ x1 x2).bind fun v1 =>
  if v1.1 < 0 then
    some ((-1), v1.2)
  else
    (f_X4_readSign v1.2 x3).bind fun v2 =>
    if v2.1 = 0 then
      some ((-1), v2.2)
    else
      some (v1.1, v2.2)
def f_X3_fewestPlaces_32 (fuel : Nat) (σ : Mem) (k7 : Int32 → Int32 → Int32 → Int32 → Option (Int32)) (x2 : Int32) (x3 : Int32) (x4 : Int32) (x5 : Int32) (y0 : Int32) : Option (Int32) :=
  if y0 = 0 then
    k7 x2 x3 x4 (x5 + 1)
  else
    (f_X1_standingOn fuel σ (x3 ||| x5)).bind fun v3 =>
    (f_X6_bitOf v3 x2).bind fun v4 =>
    if v4 = 1 then
      k7 x2 x3 x5 (x5 + 1)
    else
      k7 x2 x3 x4 (x5 + 1)
def f_X3_fewestPlaces_7 (fuel : Nat) (σ : Mem)  : Nat → Int32 → Int32 → Int32 → Int32 → Option (Int32)
  | 0, _, _, _, _ => none
  | n + 1, x2, x3, x4, x5 =>
    if 64 ≤ x5 then
      some x4
    else
      (f_J6_bitCount_0f7a4 x5).bind fun v1 =>
      (f_J6_bitCount_0f7a4 x4).bind fun v2 =>
      if v2 ≤ v1 then
        f_X3_fewestPlaces_32 fuel σ (f_X3_fewestPlaces_7 fuel σ n) x2 x3 x4 x5 0
      else
        f_X3_fewestPlaces_32 fuel σ (f_X3_fewestPlaces_7 fuel σ n) x2 x3 x4 x5 1
def f_X3_fewestPlaces (fuel : Nat) (σ : Mem) (x2 : Int32) (x3 : Int32) : Option (Int32) :=
  f_X3_fewestPlaces_7 fuel σ fuel x2 x3 63 0
def f_X3_bestOrder_7 (fuel : Nat) (σ : Mem)  : Nat → Int32 → Int32 → Int32 → Option (Int32)
  | 0, _, _, _ => none
  | n + 1, x2, x3, x4 =>
    if 1 <<< ((2 * (σ 13 6)) &&& 31) ≤ x4 then
      some x2
    else
      (f_X3_sumOfOrder fuel σ x4).bind fun v1 =>
      if v1 ≤ x3 then
        (f_X3_bestOrder_7 fuel σ n) x2 x3 (x4 + 1)
      else
        (f_X3_bestOrder_7 fuel σ n) x4 v1 (x4 + 1)
def f_X3_bestOrder (fuel : Nat) (σ : Mem)  : Option (Int32) :=
  f_X3_bestOrder_7 fuel σ fuel 0 (-1) 0
def f_X3_blanksOf_38 (fuel : Nat)  : Nat → Mem → Int32 → Int32 → Int32 → Int32 → Option (Int32 × Mem)
  | 0, _, _, _, _, _ => none
  | n + 1, σ, x2, x3, x4, x5 =>
    if σ 13 7 ≤ x5 then
      if x3 = 0 then
        gd (inB x2 91) (
        some (σ 64 x2.toNatClampNeg, σ))
      else
        gd (inB x2 91) (
        if σ 64 x2.toNatClampNeg ≤ 0 then
          some ((-1000000), σ)
        else
          gd (inB x2 91) (
          some (σ 65 x2.toNatClampNeg, σ)))
    else
      (f_X6_bitOf x4 x5).bind fun v7 =>
      if v7 = 1 then
        (f_X3_widenBy fuel σ x5 x2).bind fun v8 =>
        (f_X3_blanksOf_38 fuel n) v8 x2 x3 x4 (x5 + 1)
      else
        (f_X3_blanksOf_38 fuel n) σ x2 x3 x4 (x5 + 1)
def f_X3_blanksOf (fuel : Nat) (σ : Mem) (x2 : Int32) (x3 : Int32) : Option (Int32 × Mem) :=
  (f_J7_fill_64 fuel σ 0).bind fun v1 =>
  (f_J7_fill_65 fuel v1 0).bind fun v2 =>
  (f_X1_recallableBy fuel (mst v2 64 0 1) 15 (v2 13 1)).bind fun v3 =>
  f_X3_blanksOf_38 fuel fuel (mst v2 64 0 1) x2 x3 v3 0
def f_X3_couldWhiten (σ : Mem) (x2 : Int32) (x3 : Int32) : Option (Int32) :=
  gd (inB x2 10) (
  if x3 < σ 19 x2.toNatClampNeg then
    some 0
  else
    if x3 ≤ σ 13 3 then
      (f_X1_isInLimit σ x2 x3).bind fun v2 =>
      gd (inB x2 10) (
      (f_X1_isDrunk σ (σ 17 x2.toNatClampNeg)).bind fun v4 =>
      if v4 = 0 then
        gd (isB v2) (
        some v2)
      else
        gd (inB x2 10) (
        if x3 - (σ 19 x2.toNatClampNeg) = σ 13 2 then
          some 1
        else
          if σ 13 2 ≤ x3 - (σ 19 x2.toNatClampNeg) then
            some 0
          else
            if v2 = 0 then
              some 0
            else
              some 1))
    else
      some 0)
def f_X3_selfOf_72 (fuel : Nat) (σ : Mem)  (x7 : Int32) (y0 : Int32) : Option (Int32) :=
  if x7 = 0 then
    some (y0 + 0)
  else
    some (y0 + 1)
def f_X3_selfOf_55 (fuel : Nat) (σ : Mem)  (x4 : Int32) (x6 : Int32) (y0 : Int32) : Option (Int32) :=
  if x4 = 0 then
    if x6 = 0 then
      f_X3_selfOf_72 fuel σ y0 0
    else
      f_X3_selfOf_72 fuel σ y0 1
  else
    if x6 = 0 then
      if y0 = 0 then
        some 3
      else
        some 0
    else
      if y0 = 0 then
        some 1
      else
        some 2
def f_X3_selfOf_35 (fuel : Nat) (σ : Mem)  (x2 : Int32) (x4 : Int32) (x5 : Int32) (y0 : Int32) : Option (Int32) :=
  (f_X1_standingOn fuel σ x5).bind fun v4 =>
  (f_X6_bitOf v4 x2).bind fun v5 =>
  if v5 = 0 then
    f_X3_selfOf_55 fuel σ x4 y0 1
  else
    f_X3_selfOf_55 fuel σ x4 y0 0
def f_X3_selfOf (fuel : Nat) (σ : Mem) (x2 : Int32) (x3 : Int32) (x4 : Int32) : Option (Int32) :=
  (f_X1_blackBy fuel σ (σ 13 5)).bind fun v1 =>
  (f_X1_standingOn fuel σ (v1 &&& ((1 <<< (x3 &&& 31)) ^^^ (-1)))).bind fun v2 =>
  (f_X6_bitOf v2 x2).bind fun v3 =>
  if v3 = 1 then
    f_X3_selfOf_35 fuel σ x2 x4 v1 1
  else
    f_X3_selfOf_35 fuel σ x2 x4 v1 0
def f_X2_runBody (fuel : Nat) (rb : Mem → Int32 → Int32 → Int32 → Option (Int32 × Mem)) (σ : Mem) (x2 : Int32) (x3 : Int32) (x4 : Int32) : Option (Int32 × Mem) :=
  if x4 ≤ 20 then
    (f_X2_leave σ x2).bind fun v1 =>
    if x2 = 10 then
      gd (inB x3 4) (
      some (v1 15 x3.toNatClampNeg, v1))
    else
    if x2 = 11 then
      (rb v1 10 x3 (x4 + 1)).bind fun v5 =>
      (f_X2_askAnew fuel rb v5.2 x3 1 (x4 + 1)).bind fun v6 =>
      some (v5.1 + v6.1, v6.2)
    else
    if x2 = 12 then
      (rb v1 11 x3 (x4 + 1)).bind fun v8 =>
      some (-v8.1, v8.2)
    else
    if x2 = 13 then
      (rb v1 10 x3 (x4 + 1)).bind fun v10 =>
      some (v10.1 - 100, v10.2)
    else
    if x2 = 14 then
      (rb v1 13 x3 (x4 + 1)).bind fun v12 =>
      some (2 * v12.1, v12.2)
    else
    if x2 = 15 then
      some (0, v1)
    else
    if x2 = 16 then
      some (0, v1)
    else
    if x2 = 17 then
      some (0, v1)
    else
    if x2 = 18 then
      some (0, v1)
    else
    if x2 = 19 then
      some (0, v1)
    else
    if x2 = 20 then
      some (x3, v1)
    else
    if x2 = 21 then
      (rb v1 20 x3 (x4 + 1)).bind fun v20 =>
      (f_X1_unwhiteBy fuel v20.2 x3).bind fun v21 =>
      some (v20.1 + v21, v20.2)
    else
    if x2 = 22 then
      (rb v1 21 x3 (x4 + 1)).bind fun v23 =>
      some (v23.1 - 1000, v23.2)
    else
    if x2 = 23 then
      (rb v1 20 x3 (x4 + 1)).bind fun v25 =>
      (f_X2_askAnew fuel rb v25.2 x3 0 (x4 + 1)).bind fun v26 =>
      some (v25.1 - v26.1, v26.2)
    else
    if x2 = 24 then
      (rb v1 21 x3 (x4 + 1)).bind fun v28 =>
      some (2 * v28.1, v28.2)
    else
    some (0, v1)
  else
    some (0, σ)
def f_X2_answerOf (fuel : Nat) (rb : Mem → Int32 → Int32 → Int32 → Option (Int32 × Mem)) (σ : Mem) (x2 : Int32) (x3 : Int32) : Option (Int32 × Mem) :=
  (f_X2_askAnew fuel rb (mst σ 66 1 0) x2 x3 0).bind fun v1 =>
  some (v1.1, v1.2)
def f_X6_row (fuel : Nat) (σ : Mem) (x1 : Int32) (x2 : Int32) (x3 : Int32) : Option (Int32 × Mem) :=
  (f_X6_isRow x1).bind fun v1 =>
  if v1 = 0 then
    some ((-1000001), σ)
  else
    (f_X6_isBelow x2 3).bind fun v2 =>
    if v2 = 0 then
      some ((-1000001), σ)
    else
      if x3 ≤ 40 then
        if 0 ≤ x3 then
          (f_X5_lay fuel σ x1 x2 x3).bind fun v3 =>
          (f_X6_unfound v3 x3).bind fun v4 =>
          some (v4.1, v4.2)
        else
          (f_X6_found σ 4).bind fun v5 =>
          some (v5.1, v5.2)
      else
        some ((-1000001), σ)
def f_X6_set  (σ : Mem) (x1 : Int32) (x2 : Int32) (x3 : Int32) : Option (Int32 × Mem) :=
  (f_X6_isRow x1).bind fun v1 =>
  if v1 = 0 then
    some ((-1000001), σ)
  else
    (f_X5_isMissing σ x1).bind fun v2 =>
    if v2 = 0 then
      (f_X5_hasPlaces σ x1 x2 1).bind fun v3 =>
      if v3 = 0 then
        (f_X6_found σ 2).bind fun v6 =>
        some (v6.1, v6.2)
      else
        (f_X5_put σ x1 x2 x3).bind fun v4 =>
        (f_X6_unfound v4.2 v4.1).bind fun v5 =>
        some (v5.1, v5.2)
    else
      (f_X6_found σ 1).bind fun v7 =>
      some (v7.1, v7.2)
def f_X6_copy  (σ : Mem) (x1 : Int32) (x2 : Int32) (x3 : Int32) (x4 : Int32) (x5 : Int32) : Option (Int32 × Mem) :=
  (f_X6_isRow x1).bind fun v1 =>
  if v1 = 0 then
    some ((-1000001), σ)
  else
    (f_X6_isRow x3).bind fun v2 =>
    if v2 = 0 then
      some ((-1000001), σ)
    else
      (f_X5_isMissing σ x1).bind fun v3 =>
      if v3 = 0 then
        (f_X5_isMissing σ x3).bind fun v5 =>
        if v5 = 0 then
          gd (inB x1 8) (
          gd (inB x3 8) (
          if σ 2 x1.toNatClampNeg = σ 2 x3.toNatClampNeg then
            (f_X5_hasPlaces σ x1 x2 x5).bind fun v8 =>
            if v8 = 0 then
              (f_X6_found σ 2).bind fun v9 =>
              some (v9.1, v9.2)
            else
              (f_X5_hasPlaces σ x3 x4 x5).bind fun v10 =>
              if v10 = 0 then
                (f_X6_found σ 2).bind fun v15 =>
                some (v15.1, v15.2)
              else
                gd (inB x1 8) (
                gd (inB x3 8) (
                gd (cpB x2 x4 x5 40 40) (
                (f_X6_unfound (mcpy σ (5 + x1.toNatClampNeg) (5 + x3.toNatClampNeg) x2.toNatClampNeg x4.toNatClampNeg x5.toNatClampNeg) x5).bind fun v14 =>
                some (v14.1, v14.2))))
          else
            (f_X6_found σ 5).bind fun v16 =>
            some (v16.1, v16.2)))
        else
          (f_X6_found σ 1).bind fun v17 =>
          some (v17.1, v17.2)
      else
        (f_X6_found σ 1).bind fun v4 =>
        some (v4.1, v4.2)
def f_X6_drop  (σ : Mem) (x1 : Int32) : Option (Int32 × Mem) :=
  (f_X6_isRow x1).bind fun v1 =>
  if v1 = 0 then
    some ((-1000001), σ)
  else
    (f_X5_isMissing σ x1).bind fun v2 =>
    if v2 = 0 then
      gd (inB x1 8) (
      gd (inB x1 8) (
      (f_X6_unfound (mst σ 2 x1.toNatClampNeg (-1)) (σ 3 x1.toNatClampNeg)).bind fun v5 =>
      some (v5.1, v5.2)))
    else
      (f_X6_found σ 1).bind fun v6 =>
      some (v6.1, v6.2)
def f_X6_write  (σ : Mem) (x1 : Int32) (x2 : Int32) (x3 : Int32) : Option (Int32 × Mem) :=
  (f_X6_isBelow x1 6).bind fun v1 =>
  if v1 = 0 then
    some ((-1000001), σ)
  else
    (f_X6_isHand σ x2).bind fun v2 =>
    if v2 = 0 then
      some ((-1000001), σ)
    else
      if x3 < 1 then
        some ((-1000001), σ)
      else
        if x3 ≤ 9 then
          if σ 13 7 < 10 then
            (f_X0_keep σ 0 (σ 13 5)).bind fun v3 =>
            (f_X1_addCopy v3 x1 x2 x3).bind fun v4 =>
            gd (inB x2 4) (
            some ((v4 13 7) - 1, mst v4 13 4 ((v4 13 4) + (v4 15 x2.toNatClampNeg))))
          else
            some ((-1000003), σ)
        else
          some ((-1000001), σ)
def f_X6_hand (fuel : Nat) (σ : Mem) (x1 : Int32) (x2 : Int32) : Option (Int32) :=
  (f_X6_isHand σ x1).bind fun v1 =>
  if v1 = 0 then
    some (-1000001)
  else
    if x2 = 0 then
      gd (inB x1 4) (
      some (σ 15 x1.toNatClampNeg))
    else
    if x2 = 1 then
      (f_X1_limitOf σ x1 (σ 13 1)).bind fun v5 =>
      some v5
    else
    if x2 = 2 then
      (f_X1_copiesBy fuel σ x1).bind fun v7 =>
      some v7
    else
    some (-1000001)
def f_X6_place (fuel : Nat) (σ : Mem) (x1 : Int32) (x2 : Int32) : Option (Int32) :=
  if σ 13 0 = 0 then
    some (-1000002)
  else
    (f_X6_isBelow x1 6).bind fun v1 =>
    if v1 = 0 then
      some (-1000001)
    else
      (f_X6_isBelow x2 2).bind fun v2 =>
      if v2 = 0 then
        some (-1000001)
      else
        if x2 = 0 then
          (f_X1_copiesAt fuel σ x1).bind fun v5 =>
          some v5
        else
          (f_X1_blackBy fuel σ (σ 13 5)).bind fun v3 =>
          (f_X6_bitOf v3 x1).bind fun v4 =>
          some v4
def f_X6_safe (σ : Mem) (x1 : Int32) : Option (Int32) :=
  (f_X6_isCopy σ x1).bind fun v1 =>
  if v1 = 0 then
    some (-1000001)
  else
    (f_X3_safeFrom σ x1).bind fun v2 =>
    some v2
def f_X6_image  (σ : Mem) (x1 : Int32) : Option (Int32 × Mem) :=
  (f_X6_isBelow x1 2).bind fun v1 =>
  if v1 = 0 then
    some ((-1000001), σ)
  else
    if σ 13 0 = 0 then
      some ((-1000002), σ)
    else
      if x1 = 0 then
        (f_X1_become_24_13 σ).bind fun v2 =>
        some (1, v2)
      else
        (f_X1_become_35_13 σ).bind fun v3 =>
        some (1, v3)
def f_X6_restore  (σ : Mem) (x1 : Int32) : Option (Int32 × Mem) :=
  (f_X6_isBelow x1 2).bind fun v1 =>
  if v1 = 0 then
    some ((-1000001), σ)
  else
    if x1 = 0 then
      if σ 24 0 = 0 then
        some ((-1000002), σ)
      else
        if x1 = 0 then
          (f_X1_become_13_24 σ).bind fun v2 =>
          (f_X0_forget v2).bind fun v3 =>
          some (1, v3)
        else
          (f_X1_become_13_35 σ).bind fun v4 =>
          (f_X0_forget v4).bind fun v5 =>
          some (1, v5)
    else
      if σ 35 0 = 0 then
        some ((-1000002), σ)
      else
        if x1 = 0 then
          (f_X1_become_13_24 σ).bind fun v6 =>
          (f_X0_forget v6).bind fun v7 =>
          some (1, v7)
        else
          (f_X1_become_13_35 σ).bind fun v8 =>
          (f_X0_forget v8).bind fun v9 =>
          some (1, v9)
def f_X6_kind (σ : Mem) (x1 : Int32) : Option (Int32) :=
  (f_X6_isHand σ x1).bind fun v1 =>
  if v1 = 0 then
    some (-1000001)
  else
    gd (inB x1 4) (
    some (σ 14 x1.toNatClampNeg))
def f_X6_as (fuel : Nat) (σ : Mem) (x1 : Int32) (x2 : Int32) : Option (Int32 × Mem) :=
  (f_X6_isHand σ x1).bind fun v1 =>
  if v1 = 0 then
    some ((-1000001), σ)
  else
    (f_X6_isBelow x2 6).bind fun v2 =>
    if v2 = 0 then
      some ((-1000001), σ)
    else
      gd (inB x1 4) (
      (f_X2_isKindOf fuel σ (σ 14 x1.toNatClampNeg) x2).bind fun v4 =>
      if v4 = 0 then
        (f_X6_found σ 3).bind fun v6 =>
        some (v6.1, v6.2)
      else
        (f_X6_unfound σ x1).bind fun v5 =>
        some (v5.1, v5.2))
def f_X6_count (fuel : Nat) (σ : Mem) (x1 : Int32) : Option (Int32) :=
  if x1 = 0 then
    (f_X5_present fuel σ).bind fun v2 =>
    some v2
  else
  if x1 = 1 then
    some (σ 13 6)
  else
  if x1 = 2 then
    some (σ 13 7)
  else
  if x1 = 3 then
    some (σ 13 8)
  else
  if x1 = 4 then
    some (σ 13 3)
  else
  if x1 = 5 then
    some (σ 13 4)
  else
  if x1 = 6 then
    (f_J6_bitCount_0f7a4 (σ 13 5)).bind fun v9 =>
    some v9
  else
  if x1 = 7 then
    some (σ 59 2)
  else
  if x1 = 8 then
    some (σ 46 2)
  else
  some (-1000001)
def f_X7_recalls_36 (fuel : Nat) (k2 : Mem → Int32 → Int32 → Option (Mem)) (σ : Mem) (x1 : Int32) (x2 : Int32) (y0 : Int32) : Option (Mem) :=
  if y0 = 0 then
    gd (inB (55 + x2) 85) (
    gd (inB (55 + x2) 85) (
    k2 (mst σ 11 ((55 + x2).toNatClampNeg) (σ 11 ((55 + x2).toNatClampNeg))) x1 (x2 + 1)))
  else
    gd (inB (55 + x2) 85) (
    k2 (mst σ 11 ((55 + x2).toNatClampNeg) 1) x1 (x2 + 1))
def f_X7_recalls_2 (fuel : Nat)  : Nat → Mem → Int32 → Int32 → Option (Mem)
  | 0, _, _, _ => none
  | n + 1, σ, x1, x2 =>
    if σ 11 3 ≤ x2 then
      some σ
    else
      gd (inB (25 + x2) 85) (
      if (x1 >>> ((σ 11 ((25 + x2).toNatClampNeg)) &&& 31)) &&& 1 = 1 then
        (f_X7_mayRecall_a σ x2).bind fun v2 =>
        if v2 = 0 then
          f_X7_recalls_36 fuel (f_X7_recalls_2 fuel n) σ x1 x2 0
        else
          f_X7_recalls_36 fuel (f_X7_recalls_2 fuel n) σ x1 x2 1
      else
        f_X7_recalls_36 fuel (f_X7_recalls_2 fuel n) σ x1 x2 0)
def f_X7_recalls (fuel : Nat) (σ : Mem) (x1 : Int32) : Option (Mem) :=
  f_X7_recalls_2 fuel fuel σ x1 0
def f_X7_row_55 (fuel : Nat)  : Nat → Mem → Int32 → Int32 → Int32 → Option (Int32 × Mem)
  | 0, _, _, _, _ => none
  | n + 1, σ, x1, x3, x4 =>
    if 40 ≤ x4 then
      (f_X7_well σ x3).bind fun v6 =>
      some (v6.1, v6.2)
    else
      gd (inB ((40 * x1) + x4) 320) (
      (f_X7_row_55 fuel n) (mst σ 3 (((40 * x1) + x4).toNatClampNeg) 0) x1 x3 (x4 + 1))
def f_X7_row (fuel : Nat) (σ : Mem) (x1 : Int32) (x2 : Int32) (x3 : Int32) : Option (Int32 × Mem) :=
  (f_X7_isRow x1).bind fun v1 =>
  if v1 = 0 then
    some ((-1000001), σ)
  else
    (f_X7_in x2.toInt64 0 2).bind fun v2 =>
    if v2 = 0 then
      some ((-1000001), σ)
    else
      if x3 ≤ 40 then
        if 0 ≤ x3 then
          gd (inB x1 8) (
          gd (inB x1 8) (
          f_X7_row_55 fuel fuel (mst (mst σ 1 x1.toNatClampNeg x2) 2 x1.toNatClampNeg x3) x1 x3 0))
        else
          (f_X7_found σ 4).bind fun v5 =>
          some (v5.1, v5.2)
      else
        some ((-1000001), σ)
def f_X7_set_89   (σ : Mem) (x1 : Int32) (x2 : Int32) (y0 : Int32) (y1 : Int32) : Option (Int32 × Mem) :=
  gd (inB y1 320) (
  gd (inB ((40 * x1) + x2) 320) (
  (some (mst σ 3 y1.toNatClampNeg y0)).bind fun s11 =>
  (f_X7_well s11 (s11 3 (((40 * x1) + x2).toNatClampNeg))).bind fun v12 =>
  some (v12.1, v12.2)))
def f_X7_set  (σ : Mem) (x1 : Int32) (x2 : Int32) (x3 : Int32) : Option (Int32 × Mem) :=
  (f_X7_isRow x1).bind fun v1 =>
  if v1 = 0 then
    some ((-1000001), σ)
  else
    gd (inB x1 8) (
    if 0 ≤ σ 2 x1.toNatClampNeg then
      gd (inB x1 8) (
      (f_X7_in x2.toInt64 0 (((σ 2 x1.toNatClampNeg) - 1).toInt64)).bind fun v4 =>
      if v4 = 0 then
        (f_X7_found σ 2).bind fun v7 =>
        some (v7.1, v7.2)
      else
        gd (inB x1 8) (
        if σ 1 x1.toNatClampNeg = 0 then
          f_X7_set_89 σ x1 x2 x3.toInt8.toInt32 ((40 * x1) + x2)
        else
          gd (inB x1 8) (
          if σ 1 x1.toNatClampNeg = 1 then
            f_X7_set_89 σ x1 x2 x3.toInt16.toInt32 ((40 * x1) + x2)
          else
            f_X7_set_89 σ x1 x2 x3 ((40 * x1) + x2))))
    else
      (f_X7_found σ 1).bind fun v8 =>
      some (v8.1, v8.2))
def f_X7_copy_145 (fuel : Nat) (k120 : Mem → Int32 → Int32 → Int32 → Int32 → Int32 → Int32 → Option (Int32 × Mem)) (σ : Mem) (x1 : Int32) (x2 : Int32) (x3 : Int32) (x4 : Int32) (x5 : Int32) (x6 : Int32) (y0 : Int32) : Option (Int32 × Mem) :=
  gd (inB (((40 * x1) + x2) + y0) 320) (
  gd (inB (((40 * x3) + x4) + y0) 320) (
  k120 (mst σ 3 ((((40 * x3) + x4) + y0).toNatClampNeg) (σ 3 ((((40 * x1) + x2) + y0).toNatClampNeg))) x1 x2 x3 x4 x5 (x6 + 1)))
def f_X7_copy_120 (fuel : Nat)  : Nat → Mem → Int32 → Int32 → Int32 → Int32 → Int32 → Int32 → Option (Int32 × Mem)
  | 0, _, _, _, _, _, _, _ => none
  | n + 1, σ, x1, x2, x3, x4, x5, x6 =>
    if x5 ≤ x6 then
      (f_X7_well σ x5).bind fun v17 =>
      some (v17.1, v17.2)
    else
      if x4 ≤ x2 then
        f_X7_copy_145 fuel (f_X7_copy_120 fuel n) σ x1 x2 x3 x4 x5 x6 x6
      else
        f_X7_copy_145 fuel (f_X7_copy_120 fuel n) σ x1 x2 x3 x4 x5 x6 ((x5 - 1) - x6)
def f_X7_copy (fuel : Nat) (σ : Mem) (x1 : Int32) (x2 : Int32) (x3 : Int32) (x4 : Int32) (x5 : Int32) : Option (Int32 × Mem) :=
  (f_X7_isRow x1).bind fun v1 =>
  if v1 = 0 then
    some ((-1000001), σ)
  else
    (f_X7_isRow x3).bind fun v2 =>
    if v2 = 0 then
      some ((-1000001), σ)
    else
      gd (inB x1 8) (
      if σ 2 x1.toNatClampNeg < 0 then
        (f_X7_found σ 1).bind fun v4 =>
        some (v4.1, v4.2)
      else
        gd (inB x3 8) (
        if 0 ≤ σ 2 x3.toNatClampNeg then
          gd (inB x1 8) (
          gd (inB x3 8) (
          if σ 1 x1.toNatClampNeg = σ 1 x3.toNatClampNeg then
            if x2 < 0 then
              (f_X7_found σ 2).bind fun v8 =>
              some (v8.1, v8.2)
            else
              if x4 < 0 then
                (f_X7_found σ 2).bind fun v9 =>
                some (v9.1, v9.2)
              else
                if x5 < 0 then
                  (f_X7_found σ 2).bind fun v10 =>
                  some (v10.1, v10.2)
                else
                  gd (inB x1 8) (
                  if 0 < lg_cmp (x2.toInt64 + x5.toInt64) ((σ 2 x1.toNatClampNeg).toInt64) then
                    (f_X7_found σ 2).bind fun v12 =>
                    some (v12.1, v12.2)
                  else
                    gd (inB x3 8) (
                    if lg_cmp (x4.toInt64 + x5.toInt64) ((σ 2 x3.toNatClampNeg).toInt64) ≤ 0 then
                      f_X7_copy_120 fuel fuel σ x1 x2 x3 x4 x5 0
                    else
                      (f_X7_found σ 2).bind fun v14 =>
                      some (v14.1, v14.2)))
          else
            (f_X7_found σ 5).bind fun v15 =>
            some (v15.1, v15.2)))
        else
          (f_X7_found σ 1).bind fun v16 =>
          some (v16.1, v16.2)))
def f_X7_drop  (σ : Mem) (x1 : Int32) : Option (Int32 × Mem) :=
  (f_X7_isRow x1).bind fun v1 =>
  if v1 = 0 then
    some ((-1000001), σ)
  else
    gd (inB x1 8) (
    if 0 ≤ σ 2 x1.toNatClampNeg then
      gd (inB x1 8) (
      gd (inB x1 8) (
      (f_X7_well (mst σ 2 x1.toNatClampNeg (-1)) (σ 2 x1.toNatClampNeg)).bind fun v5 =>
      some (v5.1, v5.2)))
    else
      (f_X7_found σ 1).bind fun v6 =>
      some (v6.1, v6.2))
def f_X7_next_216 (fuel : Nat) (k141 : Mem → Option (Mem)) (σ : Mem) (y0 : Int32) : Option (Mem) :=
  k141 (mst (mst σ 0 18 y0) 0 15 ((σ 0 15) + 1))
def f_X7_next_232 (fuel : Nat)  (σ : Mem) : Option (Mem) :=
  if σ 0 17 = 2 then
    if (σ 0 15) - (σ 0 16) ≤ 2 then
      some (mst σ 0 17 (σ 0 17))
    else
      some (mst σ 0 17 5)
  else
    some (mst σ 0 17 (σ 0 17))
def f_X7_next_141 (fuel : Nat)  : Nat → Mem → Option (Mem)
  | 0, _ => none
  | n + 1, σ =>
    if σ 0 17 = 2 then
      if σ 0 19 ≤ σ 0 15 then
        f_X7_next_232 fuel σ
      else
        gd (inB (σ 0 15) 140) (
        (f_X7_isFigure (σ 4 ((σ 0 15).toNatClampNeg))).bind fun v5 =>
        if v5 = 0 then
          f_X7_next_232 fuel σ
        else
          if 2 ≤ (σ 0 15) - (σ 0 16) then
            f_X7_next_216 fuel (f_X7_next_141 fuel n) σ (σ 0 18)
          else
            gd (inB (σ 0 15) 140) (
            f_X7_next_216 fuel (f_X7_next_141 fuel n) σ (((10 * (σ 0 18)) + (σ 4 ((σ 0 15).toNatClampNeg))) - 48)))
    else
      f_X7_next_232 fuel σ
def f_X7_next_109 (fuel : Nat)  (σ : Mem) (y0 : Int32) : Option (Mem) :=
  if σ 0 17 ≤ 0 then
    f_X7_next_141 fuel fuel (mst (mst σ 0 18 y0) 0 15 ((σ 0 15) + 0))
  else
    if σ 0 17 = 2 then
      f_X7_next_141 fuel fuel (mst (mst σ 0 18 y0) 0 15 ((σ 0 15) + 0))
    else
      f_X7_next_141 fuel fuel (mst (mst σ 0 18 y0) 0 15 ((σ 0 15) + 1))
def f_X7_next_92 (fuel : Nat)  (σ : Mem) (x1 : Int32) (y0 : Int32) : Option (Mem) :=
  if y0 = 1 then
    f_X7_next_109 fuel (mst σ 0 17 y0) x1
  else
    f_X7_next_109 fuel (mst σ 0 17 y0) 0
def f_X7_next_32 (fuel : Nat)  (σ : Mem) (y0 : Int32) : Option (Mem) :=
  if 0 ≤ y0 then
    (f_X7_in y0.toInt64 97 122).bind fun v2 =>
    if v2 = 0 then
      (f_X7_isFigure y0).bind fun v3 =>
      if v3 = 0 then
        if y0 = 44 then
          f_X7_next_92 fuel σ y0 3
        else
          if y0 = 59 then
            f_X7_next_92 fuel σ y0 4
          else
            f_X7_next_92 fuel σ y0 5
      else
        f_X7_next_92 fuel σ y0 2
    else
      f_X7_next_92 fuel σ y0 1
  else
    f_X7_next_92 fuel σ y0 0
def f_X7_next (fuel : Nat) (σ : Mem)  : Option (Mem) :=
  if σ 0 19 ≤ σ 0 15 then
    f_X7_next_32 fuel (mst σ 0 16 (σ 0 15)) (-1)
  else
    gd (inB (σ 0 15) 140) (
    f_X7_next_32 fuel (mst σ 0 16 (σ 0 15)) (σ 4 ((σ 0 15).toNatClampNeg)))
def f_X7_write (fuel : Nat) (σ : Mem) (x1 : Int32) (x2 : Int32) (x3 : Int32) : Option (Int32 × Mem) :=
  (f_X7_in x1.toInt64 0 5).bind fun v1 =>
  if v1 = 0 then
    some ((-1000001), σ)
  else
    (f_X7_isHand σ x2).bind fun v2 =>
    if v2 = 0 then
      some ((-1000001), σ)
    else
      (f_X7_in x3.toInt64 1 9).bind fun v3 =>
      if v3 = 0 then
        some ((-1000001), σ)
      else
        if σ 5 3 = 10 then
          some ((-1000003), σ)
        else
          (f_X7_remember fuel σ).bind fun v4 =>
          gd (inB (15 + (σ 5 3)) 85) (
          gd (inB (25 + (σ 5 3)) 85) (
          gd (inB (35 + (σ 5 3)) 85) (
          (some (mst (mst (mst v4 5 ((15 + (σ 5 3)).toNatClampNeg) x1) 5 ((25 + (σ 5 3)).toNatClampNeg) x2) 5 ((35 + (σ 5 3)).toNatClampNeg) x3)).bind fun s8 =>
          gd (inB (45 + (σ 5 3)) 85) (
          gd (inB (55 + (σ 5 3)) 85) (
          (some (mst (mst s8 5 ((45 + (σ 5 3)).toNatClampNeg) (s8 5 5)) 5 ((55 + (σ 5 3)).toNatClampNeg) 0)).bind fun s11 =>
          gd (inB (11 + x2) 85) (
          some (σ 5 3, mst (mst s11 5 6 ((s11 5 6) + (s11 5 ((11 + x2).toNatClampNeg)))) 5 3 ((s11 5 3) + 1))))))))
def f_X7_recall (fuel : Nat) (σ : Mem) (x1 : Int32) : Option (Int32 × Mem) :=
  (f_X7_isCopy σ x1).bind fun v1 =>
  if v1 = 0 then
    some ((-1000001), σ)
  else
    (f_X7_mayRecall_n σ x1).bind fun v2 =>
    if v2 = 0 then
      some ((-1000002), σ)
    else
      (f_X7_remember fuel σ).bind fun v3 =>
      gd (inB (55 + x1) 85) (
      (f_X7_black_n fuel (mst v3 5 ((55 + x1).toNatClampNeg) 1)).bind fun v5 =>
      gd (inB (15 + x1) 85) (
      (some (mst v3 5 ((55 + x1).toNatClampNeg) 1)).bind fun s7 =>
      some ((v5 >>> ((s7 5 ((15 + x1).toNatClampNeg)) &&& 31)) &&& 1, s7)))
def f_X7_days_44 (fuel : Nat)  : Nat → Mem → Int32 → Int32 → Option (Int32 × Mem)
  | 0, _, _, _ => none
  | n + 1, σ, x1, x2 =>
    if x1 ≤ x2 then
      (f_X7_stand_n fuel σ).bind fun v2 =>
      some (v2, σ)
    else
      (f_X7_remember fuel σ).bind fun v3 =>
      (f_X7_dayGoes_n fuel v3).bind fun v4 =>
      (f_X7_days_44 fuel n) v4 x1 (x2 + 1)
def f_X7_days (fuel : Nat) (σ : Mem) (x1 : Int32) : Option (Int32 × Mem) :=
  if σ 0 7 = 0 then
    some ((-1000002), σ)
  else
    (f_X7_in x1.toInt64 1 24).bind fun v1 =>
    if v1 = 0 then
      some ((-1000001), σ)
    else
      if (σ 5 5) + x1 ≤ 999 then
        f_X7_days_44 fuel fuel σ x1 0
      else
        some ((-1000003), σ)
def f_X7_copyOf (σ : Mem) (x1 : Int32) (x2 : Int32) : Option (Int32) :=
  (f_X7_isCopy σ x1).bind fun v1 =>
  if v1 = 0 then
    some (-1000001)
  else
    (f_X7_in x2.toInt64 0 5).bind fun v2 =>
    if v2 = 0 then
      some (-1000001)
    else
      if 5 ≤ x2 then
        (f_X7_mayRecall_n σ x1).bind fun v3 =>
        if v3 = 0 then
          some 0
        else
          some 1
      else
        gd (inB ((15 + (10 * x2)) + x1) 85) (
        some (σ 5 (((15 + (10 * x2)) + x1).toNatClampNeg)))
def f_X7_hand (fuel : Nat) (σ : Mem) (x1 : Int32) (x2 : Int32) : Option (Int32) :=
  (f_X7_isHand σ x1).bind fun v1 =>
  if v1 = 0 then
    some (-1000001)
  else
    (f_X7_in x2.toInt64 0 2).bind fun v2 =>
    if v2 = 0 then
      some (-1000001)
    else
      if x2 = 0 then
        gd (inB (11 + x1) 85) (
        some (σ 5 ((11 + x1).toNatClampNeg)))
      else
        if x2 = 1 then
          (f_X7_limit_n σ x1).bind fun v4 =>
          some v4
        else
          (f_X7_copiesOf fuel σ 25 x1).bind fun v3 =>
          some v3
def f_X7_deed (fuel : Nat) (σ : Mem) (x1 : Int32) (x2 : Int32) : Option (Int32) :=
  (f_X7_isDeed σ x1).bind fun v1 =>
  if v1 = 0 then
    some (-1000001)
  else
    (f_X7_in x2.toInt64 0 4).bind fun v2 =>
    if v2 = 0 then
      some (-1000001)
    else
      if x2 = 2 then
        gd (inB (75 + x1) 85) (
        if σ 5 ((75 + x1).toNatClampNeg) = 0 then
          some (-1000000)
        else
          gd (inB (75 + x1) 85) (
          some ((σ 5 ((75 + x1).toNatClampNeg)) - 1)))
      else
      if x2 = 4 then
        (f_X7_stand_n fuel σ).bind fun v7 =>
        some ((v7 >>> (x1 &&& 31)) &&& 1)
      else
      gd (inB ((65 + (5 * x2)) + x1) 85) (
      some (σ 5 (((65 + (5 * x2)) + x1).toNatClampNeg)))
def f_X7_place (fuel : Nat) (σ : Mem) (x1 : Int32) (x2 : Int32) : Option (Int32) :=
  if σ 0 7 = 0 then
    some (-1000002)
  else
    (f_X7_in x1.toInt64 0 5).bind fun v1 =>
    if v1 = 0 then
      some (-1000001)
    else
      (f_X7_isTwo x2).bind fun v2 =>
      if v2 = 0 then
        some (-1000001)
      else
        if x2 = 0 then
          (f_X7_copiesOf fuel σ 15 x1).bind fun v4 =>
          some v4
        else
          (f_X7_black_n fuel σ).bind fun v3 =>
          some ((v3 >>> (x1 &&& 31)) &&& 1)
def f_X7_ahead_43 (fuel : Nat)  : Nat → Mem → Int32 → Int32 → Int32 → Option (Int32 × Mem)
  | 0, _, _, _, _ => none
  | n + 1, σ, x1, x2, x3 =>
    if x1 ≤ x3 then
      if x2 = 0 then
        (f_X7_black_a fuel σ).bind fun v6 =>
        some (v6, σ)
      else
        if x2 = 1 then
          (f_X7_stand_a fuel σ).bind fun v5 =>
          some (v5, σ)
        else
          (f_X7_whiteSet fuel σ).bind fun v4 =>
          some (v4, σ)
    else
      (f_X7_dayGoes_a fuel σ).bind fun v7 =>
      (f_X7_ahead_43 fuel n) v7 x1 x2 (x3 + 1)
def f_X7_ahead (fuel : Nat) (σ : Mem) (x1 : Int32) (x2 : Int32) : Option (Int32 × Mem) :=
  if σ 0 7 = 0 then
    some ((-1000002), σ)
  else
    (f_X7_in x1.toInt64 0 200).bind fun v1 =>
    if v1 = 0 then
      some ((-1000001), σ)
    else
      (f_X7_in x2.toInt64 0 2).bind fun v2 =>
      if v2 = 0 then
        some ((-1000001), σ)
      else
        (f_X7_layAside fuel σ).bind fun v3 =>
        f_X7_ahead_43 fuel fuel v3 x1 x2 0
def f_X7_first_29 (fuel : Nat)  : Nat → Mem → Int32 → Int32 → Int32 → Option (Int32 × Mem)
  | 0, _, _, _, _ => none
  | n + 1, σ, x1, x2, x3 =>
    if x2 ≤ x3 then
      some ((-1000000), σ)
    else
      (f_X7_dayGoes_a fuel σ).bind fun v4 =>
      (f_X7_stand_a fuel v4).bind fun v5 =>
      if (v5 >>> (x1 &&& 31)) &&& 1 = 0 then
        some (x3, v4)
      else
        (f_X7_first_29 fuel n) v4 x1 x2 (x3 + 1)
def f_X7_first (fuel : Nat) (σ : Mem) (x1 : Int32) (x2 : Int32) : Option (Int32 × Mem) :=
  (f_X7_isDeed σ x1).bind fun v1 =>
  if v1 = 0 then
    some ((-1000001), σ)
  else
    (f_X7_in x2.toInt64 1 200).bind fun v2 =>
    if v2 = 0 then
      some ((-1000001), σ)
    else
      (f_X7_layAside fuel σ).bind fun v3 =>
      f_X7_first_29 fuel fuel v3 x1 x2 0
def f_X7_safe (σ : Mem) (x1 : Int32) : Option (Int32) :=
  (f_X7_isCopy σ x1).bind fun v1 =>
  if v1 = 0 then
    some (-1000001)
  else
    gd (inB (25 + x1) 85) (
    gd (inB (55 + x1) 85) (
    if σ 5 ((55 + x1).toNatClampNeg) = 1 then
      some (-1000000)
    else
      gd (inB (7 + (σ 5 ((25 + x1).toNatClampNeg))) 85) (
      if σ 5 ((7 + (σ 5 ((25 + x1).toNatClampNeg))).toNatClampNeg) = 3 then
        some (-1000000)
      else
        gd (inB (45 + x1) 85) (
        (f_X7_limit_n σ (σ 5 ((25 + x1).toNatClampNeg))).bind fun v6 =>
        if ((σ 5 ((45 + x1).toNatClampNeg)) + v6) + 1 ≤ σ 5 5 then
          some (σ 5 5)
        else
          some (((σ 5 ((45 + x1).toNatClampNeg)) + v6) + 1)))))
def f_X7_blanks_113 (fuel : Nat) (σ : Mem) (k41 : Int32 → Int32 → Int32 → Int32 → Int32 → Option (Int32)) (k63 : Int32 → Int32 → Int32 → Int32 → Int32 → Int32 → Int32 → Int32 → Option (Int32)) (x1 : Int32) (x2 : Int32) (x3 : Int32) (x4 : Int32) (x5 : Int32) (x7 : Int32) (x8 : Int32) (x9 : Int32) (y0 : Int32) (y1 : Int32) : Option (Int32) :=
  if x7 = 0 then
    k63 x1 x2 x3 x4 x5 (y1 + y0) 0 (x8 + 1)
  else
    if x9 = 0 then
      k63 x1 x2 x3 x4 x5 (y1 + y0) 1 (x8 + 1)
    else
      (f_X7_mayRecall_n σ x8).bind fun v4 =>
      if v4 = 0 then
        k63 x1 x2 x3 x4 x5 (y1 + y0) 0 (x8 + 1)
      else
        k63 x1 x2 x3 x4 x5 (y1 + y0) 1 (x8 + 1)
def f_X7_blanks_90 (fuel : Nat) (σ : Mem) (k41 : Int32 → Int32 → Int32 → Int32 → Int32 → Option (Int32)) (k63 : Int32 → Int32 → Int32 → Int32 → Int32 → Int32 → Int32 → Int32 → Option (Int32)) (x1 : Int32) (x2 : Int32) (x3 : Int32) (x4 : Int32) (x5 : Int32) (x6 : Int32) (x7 : Int32) (x8 : Int32) (y0 : Int32) : Option (Int32) :=
  if y0 = 0 then
    f_X7_blanks_113 fuel σ k41 k63 x1 x2 x3 x4 x5 x7 x8 y0 0 x6
  else
    gd (inB (35 + x8) 85) (
    f_X7_blanks_113 fuel σ k41 k63 x1 x2 x3 x4 x5 x7 x8 y0 (σ 5 ((35 + x8).toNatClampNeg)) x6)
def f_X7_blanks_63 (fuel : Nat) (σ : Mem) (k41 : Int32 → Int32 → Int32 → Int32 → Int32 → Option (Int32)) : Nat → Int32 → Int32 → Int32 → Int32 → Int32 → Int32 → Int32 → Int32 → Option (Int32)
  | 0, _, _, _, _, _, _, _, _ => none
  | n + 1, x1, x2, x3, x4, x5, x6, x7, x8 =>
    if σ 5 3 ≤ x8 then
      if x7 = 0 then
        k41 x1 x2 x3 x4 (x5 + 1)
      else
        if x6 = x1 then
          if x4 = (-1000000) then
            k41 x1 x2 (x3 + 1) x5 (x5 + 1)
          else
            k41 x1 x2 (x3 + 1) x4 (x5 + 1)
        else
          k41 x1 x2 x3 x4 (x5 + 1)
    else
      if (x5 >>> (x8 &&& 31)) &&& 1 = 1 then
        f_X7_blanks_90 fuel σ k41 (f_X7_blanks_63 fuel σ k41 n) x1 x2 x3 x4 x5 x6 x7 x8 1
      else
        f_X7_blanks_90 fuel σ k41 (f_X7_blanks_63 fuel σ k41 n) x1 x2 x3 x4 x5 x6 x7 x8 0
def f_X7_blanks_41 (fuel : Nat) (σ : Mem)  : Nat → Int32 → Int32 → Int32 → Int32 → Int32 → Option (Int32)
  | 0, _, _, _, _, _ => none
  | n + 1, x1, x2, x3, x4, x5 =>
    if 1 <<< ((σ 5 3) &&& 31) ≤ x5 then
      if x2 = 0 then
        some x3
      else
        some x4
    else
      f_X7_blanks_63 fuel σ (f_X7_blanks_41 fuel σ n) fuel x1 x2 x3 x4 x5 0 1 0
def f_X7_blanks (fuel : Nat) (σ : Mem) (x1 : Int32) (x2 : Int32) : Option (Int32) :=
  if σ 0 7 = 0 then
    some (-1000002)
  else
    (f_X7_in x1.toInt64 1 90).bind fun v1 =>
    if v1 = 0 then
      some (-1000001)
    else
      (f_X7_isTwo x2).bind fun v2 =>
      if v2 = 0 then
        some (-1000001)
      else
        f_X7_blanks_41 fuel σ fuel x1 x2 0 (-1000000) 1
def f_X7_forged_71 (fuel : Nat)  : Nat → Mem → Int32 → Int32 → Int32 → Int32 → Option (Int32 × Mem)
  | 0, _, _, _, _, _ => none
  | n + 1, σ, x1, x2, x3, x4 =>
    if σ 5 3 ≤ x4 then
      (f_X7_well σ x3).bind fun v7 =>
      some (v7.1, v7.2)
    else
      gd (inB (((40 * x1) + x2) + x4) 320) (
      (f_X7_canBe σ x4 (σ 3 ((((40 * x1) + x2) + x4).toNatClampNeg))).bind fun v9 =>
      if v9 = 0 then
        (f_X7_forged_71 fuel n) σ x1 x2 (x3 ||| (1 <<< (x4 &&& 31))) (x4 + 1)
      else
        (f_X7_forged_71 fuel n) σ x1 x2 (x3 ||| 0) (x4 + 1))
def f_X7_forged (fuel : Nat) (σ : Mem) (x1 : Int32) (x2 : Int32) : Option (Int32 × Mem) :=
  if σ 0 7 = 0 then
    some ((-1000002), σ)
  else
    (f_X7_isRow x1).bind fun v1 =>
    if v1 = 0 then
      some ((-1000001), σ)
    else
      gd (inB x1 8) (
      if 0 ≤ σ 2 x1.toNatClampNeg then
        if x2 < 0 then
          (f_X7_found σ 2).bind fun v3 =>
          some (v3.1, v3.2)
        else
          gd (inB x1 8) (
          if lg_cmp (x2.toInt64 + ((σ 5 3).toInt64)) ((σ 2 x1.toNatClampNeg).toInt64) ≤ 0 then
            f_X7_forged_71 fuel fuel σ x1 x2 0 0
          else
            (f_X7_found σ 2).bind fun v5 =>
            some (v5.1, v5.2))
      else
        (f_X7_found σ 1).bind fun v6 =>
        some (v6.1, v6.2))
def f_X7_itself_112 (fuel : Nat) (σ : Mem)  (x3 : Int32) (x5 : Int32) (x6 : Int32) (y0 : Int32) (y1 : Int32) : Option (Int32) :=
  if x3 = 0 then
    some (y1 + y0)
  else
    if y1 + y0 = 2 then
      some 2
    else
      if x5 = 0 then
        if x6 = 0 then
          some 3
        else
          some 0
      else
        some 1
def f_X7_itself_90 (fuel : Nat) (σ : Mem)  (x3 : Int32) (x5 : Int32) (y0 : Int32) : Option (Int32) :=
  if x5 = 0 then
    if y0 = 0 then
      f_X7_itself_112 fuel σ x3 x5 y0 0 0
    else
      f_X7_itself_112 fuel σ x3 x5 y0 1 0
  else
    if y0 = 0 then
      f_X7_itself_112 fuel σ x3 x5 y0 0 1
    else
      f_X7_itself_112 fuel σ x3 x5 y0 1 1
def f_X7_itself_67 (fuel : Nat) (σ : Mem)  (x1 : Int32) (x3 : Int32) (x4 : Int32) (y0 : Int32) : Option (Int32) :=
  (f_X7_standBy_n fuel σ x4).bind fun v6 =>
  if (v6 >>> (x1 &&& 31)) &&& 1 = 0 then
    f_X7_itself_90 fuel σ x3 y0 1
  else
    f_X7_itself_90 fuel σ x3 y0 0
def f_X7_itself (fuel : Nat) (σ : Mem) (x1 : Int32) (x2 : Int32) (x3 : Int32) : Option (Int32) :=
  (f_X7_isDeed σ x1).bind fun v1 =>
  if v1 = 0 then
    some (-1000001)
  else
    (f_X7_in x2.toInt64 0 5).bind fun v2 =>
    if v2 = 0 then
      some (-1000001)
    else
      (f_X7_isTwo x3).bind fun v3 =>
      if v3 = 0 then
        some (-1000001)
      else
        (f_X7_black_n fuel σ).bind fun v4 =>
        (f_X7_standBy_n fuel σ (v4 &&& ((1 <<< (x2 &&& 31)) ^^^ (-1)))).bind fun v5 =>
        if (v5 >>> (x1 &&& 31)) &&& 1 = 1 then
          f_X7_itself_67 fuel σ x1 x3 v4 1
        else
          f_X7_itself_67 fuel σ x1 x3 v4 0
def f_X7_years_58 (fuel : Nat)  : Nat → Mem → Int32 → Int32 → Int64 → Int32 → Int32 → Option (Int32 × Mem)
  | 0, _, _, _, _, _, _ => none
  | n + 1, σ, x1, x3, x4, x6, x7 =>
    if x1 ≤ x7 then
      if x3 = 0 then
        some (x6, σ)
      else
        (f_X7_stand_a fuel σ).bind fun v5 =>
        some (v5, σ)
    else
      if σ 11 3 ≤ 0 then
        (f_X7_dayGoes_a fuel σ).bind fun v6 =>
        (f_X7_years_58 fuel n) v6 x1 x3 x4 x6 (x7 + 1)
      else
        gd (decide (¬ (σ 11 3).toInt64 = 0)) (
        if lg_cmp (((x4 * 16807) - (x4 * 16807) / 2147483647 * 2147483647) - ((x4 * 16807) - (x4 * 16807) / 2147483647 * 2147483647) / 7 * 7) 0 = 0 then
          (f_X7_mayRecall_a σ ((((x4 * 16807) - (x4 * 16807) / 2147483647 * 2147483647) - ((x4 * 16807) - (x4 * 16807) / 2147483647 * 2147483647) / ((σ 11 3).toInt64) * ((σ 11 3).toInt64)).toInt32)).bind fun v9 =>
          if v9 = 0 then
            (f_X7_dayGoes_a fuel σ).bind fun v10 =>
            (f_X7_years_58 fuel n) v10 x1 x3 ((x4 * 16807) - (x4 * 16807) / 2147483647 * 2147483647) x6 (x7 + 1)
          else
            gd (inB (55 + ((((x4 * 16807) - (x4 * 16807) / 2147483647 * 2147483647) - ((x4 * 16807) - (x4 * 16807) / 2147483647 * 2147483647) / ((σ 11 3).toInt64) * ((σ 11 3).toInt64)).toInt32)) 85) (
            (f_X7_dayGoes_a fuel (mst σ 11 ((55 + ((((x4 * 16807) - (x4 * 16807) / 2147483647 * 2147483647) - ((x4 * 16807) - (x4 * 16807) / 2147483647 * 2147483647) / ((σ 11 3).toInt64) * ((σ 11 3).toInt64)).toInt32)).toNatClampNeg) 1)).bind fun v12 =>
            (f_X7_years_58 fuel n) v12 x1 x3 ((x4 * 16807) - (x4 * 16807) / 2147483647 * 2147483647) (x6 + 1) (x7 + 1))
        else
          (f_X7_dayGoes_a fuel σ).bind fun v8 =>
          (f_X7_years_58 fuel n) v8 x1 x3 ((x4 * 16807) - (x4 * 16807) / 2147483647 * 2147483647) x6 (x7 + 1))
def f_X7_years (fuel : Nat) (σ : Mem) (x1 : Int32) (x2 : Int32) (x3 : Int32) : Option (Int32 × Mem) :=
  if σ 0 7 = 0 then
    some ((-1000002), σ)
  else
    (f_X7_in x1.toInt64 0 100).bind fun v1 =>
    if v1 = 0 then
      some ((-1000001), σ)
    else
      (f_X7_in x2.toInt64 1 999999).bind fun v2 =>
      if v2 = 0 then
        some ((-1000001), σ)
      else
        (f_X7_isTwo x3).bind fun v3 =>
        if v3 = 0 then
          some ((-1000001), σ)
        else
          (f_X7_layAside fuel σ).bind fun v4 =>
          f_X7_years_58 fuel fuel v4 x1 x3 x2.toInt64 0 0
def f_X7_image (fuel : Nat) (σ : Mem) (x1 : Int32) : Option (Int32 × Mem) :=
  (f_X7_isTwo x1).bind fun v1 =>
  if v1 = 0 then
    some ((-1000001), σ)
  else
    if σ 0 7 = 0 then
      some ((-1000002), σ)
    else
      (f_X7_copies_5_7 fuel σ 0 (85 * x1)).bind fun v2 =>
      gd (inB x1 2) (
      some (1, mst v2 8 x1.toNatClampNeg 1))
def f_X7_restore (fuel : Nat) (σ : Mem) (x1 : Int32) : Option (Int32 × Mem) :=
  (f_X7_isTwo x1).bind fun v1 =>
  if v1 = 0 then
    some ((-1000001), σ)
  else
    gd (inB x1 2) (
    if σ 8 x1.toNatClampNeg = 0 then
      some ((-1000002), σ)
    else
      (f_X7_copies_7_5 fuel σ (85 * x1) 0).bind fun v3 =>
      some (1, mst v3 0 9 0))
def f_X7_kind (σ : Mem) (x1 : Int32) : Option (Int32) :=
  (f_X7_isHand σ x1).bind fun v1 =>
  if v1 = 0 then
    some (-1000001)
  else
    gd (inB (7 + x1) 85) (
    some (σ 5 ((7 + x1).toNatClampNeg)))
def f_X7_as  (σ : Mem) (x1 : Int32) (x2 : Int32) : Option (Int32 × Mem) :=
  (f_X7_isHand σ x1).bind fun v1 =>
  if v1 = 0 then
    some ((-1000001), σ)
  else
    (f_X7_in x2.toInt64 0 5).bind fun v2 =>
    if v2 = 0 then
      some ((-1000001), σ)
    else
      gd (inB (7 + x1) 85) (
      (f_X7_isOf (σ 5 ((7 + x1).toNatClampNeg)) x2).bind fun v4 =>
      if v4 = 0 then
        (f_X7_found σ 3).bind fun v5 =>
        some (v5.1, v5.2)
      else
        (f_X7_well σ x1).bind fun v6 =>
        some (v6.1, v6.2))
def f_X7_ask_67 (fuel : Nat)  (σ : Mem) (x1 : Int32) (x3 : Int32) (y0 : Int64) : Option (Int32 × Mem) :=
  (f_X7_leave fuel σ y0).bind fun v8 =>
  gd (inB (11 + x1) 85) (
  (f_X7_mark fuel v8 x1).bind fun v10 =>
  if x3 = 2 then
    some (-((v8 5 ((11 + x1).toNatClampNeg)) + v10.1), v10.2)
  else
    some ((v8 5 ((11 + x1).toNatClampNeg)) + v10.1, v10.2))
def f_X7_ask (fuel : Nat) (σ : Mem) (x1 : Int32) (x2 : Int32) : Option (Int32 × Mem) :=
  (f_X7_isHand σ x1).bind fun v1 =>
  if v1 = 0 then
    some ((-1000001), σ)
  else
    (f_X7_in x2.toInt64 0 1).bind fun v2 =>
    if v2 = 0 then
      some ((-1000001), σ)
    else
      gd (inB (7 + x1) 85) (
      if 4 ≤ σ 5 ((7 + x1).toNatClampNeg) then
        if x2 = 0 then
          (f_X7_sizeOf fuel (mst σ 0 13 0) x1).bind fun v6 =>
          some (v6.1, v6.2)
        else
          (f_X7_leave fuel (mst σ 0 13 0) 2320).bind fun v4 =>
          (f_X7_sizeOf fuel v4 x1).bind fun v5 =>
          some (x1 - v5.1, v5.2)
      else
        if x2 = 1 then
          (f_X7_mark fuel (mst σ 0 13 0) x1).bind fun v7 =>
          some (v7.1, v7.2)
        else
          if σ 5 ((7 + x1).toNatClampNeg) = 2 then
            f_X7_ask_67 fuel (mst σ 0 13 0) x1 (σ 5 ((7 + x1).toNatClampNeg)) 121110
          else
            f_X7_ask_67 fuel (mst σ 0 13 0) x1 (σ 5 ((7 + x1).toNatClampNeg)) 1110)
def f_X1_mayRecallNow (σ : Mem) (x1 : Int32) : Option (Int32) :=
  (f_X1_mayRecall σ x1 (σ 13 5) (σ 13 3)).bind fun v1 =>
  gd (isB v1) (
  some v1)
def f_X4_readLaw (fuel : Nat) (σ : Mem)  : Option (Int32 × Mem) :=
  (f_X4_readSign σ 105).bind fun v1 =>
  if v1.1 = 0 then
    some (0, v1.2)
  else
    (f_X4_readNumberAndSign fuel v1.2 1 99 44).bind fun v2 =>
    if 0 ≤ v2.1 then
      (f_X4_readNumberAndSign fuel (mst v2.2 48 1 v2.1) 1 99 59).bind fun v3 =>
      if v3.1 < 0 then
        some (0, mst v3.2 48 2 v3.1)
      else
        some (1, mst v3.2 48 2 v3.1)
    else
      some (0, mst v2.2 48 1 v2.1)
def f_X4_readHand (fuel : Nat) (σ : Mem)  : Option (Int32 × Mem) :=
  if σ 48 6 < 4 then
    (f_X4_next σ).bind fun v1 =>
    (f_X4_kindOfSort v1).bind fun v2 =>
    (f_X4_readNumberAndSign fuel (mst σ 46 3 ((σ 46 3) + 1)) 0 9 59).bind fun v3 =>
    if 0 ≤ v3.1 then
      (f_X1_addHand v3.2 v2 v3.1).bind fun v4 =>
      some (1, v4)
    else
      some (0, v3.2)
  else
    (f_X4_fail σ 3).bind fun v5 =>
    gd (isB v5.1) (
    some (v5.1, v5.2))
def f_X4_readCopy (fuel : Nat) (σ : Mem)  : Option (Int32 × Mem) :=
  if σ 48 7 < 10 then
    (f_X4_readNumberAndSign fuel (mst σ 46 3 ((σ 46 3) + 1)) 0 5 44).bind fun v1 =>
    if 0 ≤ v1.1 then
      (f_X4_readNumberAndSign fuel v1.2 0 ((v1.2 48 6) - 1) 44).bind fun v2 =>
      if 0 ≤ v2.1 then
        (f_X4_readNumberAndSign fuel v2.2 1 9 59).bind fun v3 =>
        if 0 ≤ v3.1 then
          (f_X1_addCopyD v3.2 v1.1 v2.1 v3.1).bind fun v4 =>
          some (1, v4)
        else
          some (0, v3.2)
      else
        some (0, v2.2)
    else
      some (0, v1.2)
  else
    (f_X4_fail σ 3).bind fun v5 =>
    gd (isB v5.1) (
    some (v5.1, v5.2))
def f_X4_readDeed_31 (fuel : Nat)  (σ : Mem) (y0 : Int32) : Option (Int32 × Mem) :=
  (f_X4_readNumberAndSign fuel (mst σ 46 3 ((σ 46 3) + 1)) 1 63 44).bind fun v4 =>
  if 0 ≤ v4.1 then
    (f_X4_readNumberAndSign fuel v4.2 0 (v4.2 48 8) 44).bind fun v5 =>
    if 0 ≤ v5.1 then
      (f_X4_readNumberAndSign fuel v5.2 0 20 59).bind fun v6 =>
      if 0 ≤ v6.1 then
        (f_X1_addDeed v6.2 y0 v4.1 (v5.1 - 1) v6.1).bind fun v7 =>
        some (1, v7)
      else
        some (0, v6.2)
    else
      some (0, v5.2)
  else
    some (0, v4.2)
def f_X4_readDeed (fuel : Nat) (σ : Mem)  : Option (Int32 × Mem) :=
  if σ 48 8 < 5 then
    (f_X4_next σ).bind fun v1 =>
    if v1 = 97 then
      f_X4_readDeed_31 fuel σ 1
    else
      f_X4_readDeed_31 fuel σ 0
  else
    (f_X4_fail σ 3).bind fun v2 =>
    gd (isB v2.1) (
    some (v2.1, v2.2))
def f_X3_fallenBy (fuel : Nat) (σ : Mem) (x2 : Int32) : Option (Int32) :=
  (f_X1_whiteAfter fuel σ x2 (σ 13 1)).bind fun v1 =>
  (f_X1_standingBy fuel σ v1).bind fun v2 =>
  (f_X1_standingBy fuel σ (σ 13 5)).bind fun v3 =>
  some (v3 &&& (v2 ^^^ (-1)))
def f_X3_firstFall_3 (fuel : Nat) (σ : Mem)  : Nat → Int32 → Int32 → Int32 → Option (Int32)
  | 0, _, _, _ => none
  | n + 1, x2, x3, x4 =>
    if x3 ≤ x4 then
      some (-1000000)
    else
      (f_X1_whiteOn fuel σ (σ 13 5) (((σ 13 3) + x4) + 1)).bind fun v1 =>
      (f_X1_standingBy fuel σ v1).bind fun v2 =>
      (f_X6_bitOf v2 x2).bind fun v3 =>
      if v3 = 0 then
        some x4
      else
        (f_X3_firstFall_3 fuel σ n) x2 x3 (x4 + 1)
def f_X3_firstFall (fuel : Nat) (σ : Mem) (x2 : Int32) (x3 : Int32) : Option (Int32) :=
  f_X3_firstFall_3 fuel σ fuel x2 x3 0
def f_X3_doublesFor (fuel : Nat) (σ : Mem) (x2 : Int32) (x3 : Int32) (x4 : Int32) : Option (Int32) :=
  (f_X1_whiteAfter fuel σ x3 (σ 13 1)).bind fun v1 =>
  (f_X1_blackBy fuel σ v1).bind fun v2 =>
  (f_X3_fewestPlaces fuel σ x2 v2).bind fun v3 =>
  if v3 = 0 then
    some 0
  else
    (f_X3_cheapestBeside fuel σ x3).bind fun v4 =>
    if v4 = (-1000000) then
      some (-1000000)
    else
      if x4 = 0 then
        (f_J6_bitCount_0f7a4 v3).bind fun v6 =>
        some v6
      else
      if x4 = 1 then
        (f_J6_bitCount_0f7a4 v3).bind fun v8 =>
        some (v8 * v4)
      else
      some v3
def f_X3_leastYear_3 (fuel : Nat) (σ : Mem)  : Nat → Int32 → Int32 → Int32 → Option (Int32)
  | 0, _, _, _ => none
  | n + 1, x2, x3, x4 =>
    if 99 < x4 then
      some (-1000000)
    else
      (f_X1_whiteAfter fuel σ x3 x4).bind fun v1 =>
      (f_X1_standingBy fuel σ v1).bind fun v2 =>
      (f_X6_bitOf v2 x2).bind fun v3 =>
      if v3 = 0 then
        some x4
      else
        (f_X3_leastYear_3 fuel σ n) x2 x3 (x4 + 1)
def f_X3_leastYear (fuel : Nat) (σ : Mem) (x2 : Int32) (x3 : Int32) : Option (Int32) :=
  f_X3_leastYear_3 fuel σ fuel x2 x3 1
def f_X3_byDraws_93 (fuel : Nat) (σ : Mem) (k16 : Int32 → Int32 → Int64 → Int32 → Int32 → Int32 → Option (Int32)) (x2 : Int32) (x4 : Int32) (x5 : Int64) (x7 : Int32) (x8 : Int32) (x9 : Int32) : Option (Int32) :=
  (f_X1_whiteOn fuel σ x7 (((σ 13 3) + x9) + 1)).bind fun v4 =>
  k16 x2 x4 x5 v4 x8 (x9 + 1)
def f_X3_byDraws_116 (fuel : Nat) (σ : Mem)  (x4 : Int32) (x7 : Int32) (x8 : Int32) : Option (Int32) :=
  if x4 = 0 then
    some x8
  else
    (f_X1_standingBy fuel σ x7).bind fun v3 =>
    some v3
def f_X3_byDraws_16 (fuel : Nat) (σ : Mem)  : Nat → Int32 → Int32 → Int64 → Int32 → Int32 → Int32 → Option (Int32)
  | 0, _, _, _, _, _, _ => none
  | n + 1, x2, x4, x5, x7, x8, x9 =>
    if x2 ≤ x9 then
      f_X3_byDraws_116 fuel σ x4 x7 x8
    else
      if σ 13 7 ≤ 0 then
        f_X3_byDraws_116 fuel σ x4 x7 x8
      else
        gd (decide (¬ (σ 13 7).toInt64 = 0)) (
        if lg_cmp (((x5 * 16807) - (x5 * 16807) / 2147483647 * 2147483647) - ((x5 * 16807) - (x5 * 16807) / 2147483647 * 2147483647) / 7 * 7) 0 = 0 then
          (f_X1_mayRecall σ ((((x5 * 16807) - (x5 * 16807) / 2147483647 * 2147483647) - ((x5 * 16807) - (x5 * 16807) / 2147483647 * 2147483647) / ((σ 13 7).toInt64) * ((σ 13 7).toInt64)).toInt32) x7 ((σ 13 3) + x9)).bind fun v2 =>
          if v2 = 0 then
            f_X3_byDraws_93 fuel σ (f_X3_byDraws_16 fuel σ n) x2 x4 ((x5 * 16807) - (x5 * 16807) / 2147483647 * 2147483647) x7 x8 x9
          else
            f_X3_byDraws_93 fuel σ (f_X3_byDraws_16 fuel σ n) x2 x4 ((x5 * 16807) - (x5 * 16807) / 2147483647 * 2147483647) (x7 ||| (1 <<< (((((x5 * 16807) - (x5 * 16807) / 2147483647 * 2147483647) - ((x5 * 16807) - (x5 * 16807) / 2147483647 * 2147483647) / ((σ 13 7).toInt64) * ((σ 13 7).toInt64)).toInt32) &&& 31))) (x8 + 1) x9
        else
          f_X3_byDraws_93 fuel σ (f_X3_byDraws_16 fuel σ n) x2 x4 ((x5 * 16807) - (x5 * 16807) / 2147483647 * 2147483647) x7 x8 x9)
def f_X3_byDraws (fuel : Nat) (σ : Mem) (x2 : Int32) (x3 : Int32) (x4 : Int32) : Option (Int32) :=
  f_X3_byDraws_16 fuel σ fuel x2 x4 x3.toInt64 (σ 13 5) 0 0
def f_X3_forgedBy_6 (fuel : Nat) (σ : Mem) (kr : Nat)  : Nat → Int32 → Int32 → Int32 → Option (Int32)
  | 0, _, _, _ => none
  | n + 1, x3, x4, x5 =>
    if σ 13 7 ≤ x5 then
      some x4
    else
      if 40 ≤ x3 + x5 then
        some x4
      else
        gd (inB (x3 + x5) 40) (
        if σ (5 + kr) ((x3 + x5).toNatClampNeg) = (-1) then
          (f_X3_forgedBy_6 fuel σ kr n) x3 x4 (x5 + 1)
        else
          (f_X3_couldWhiten σ x5 (σ (5 + kr) ((x3 + x5).toNatClampNeg))).bind fun v2 =>
          if v2 = 0 then
            (f_X3_forgedBy_6 fuel σ kr n) x3 (x4 ||| (1 <<< (x5 &&& 31))) (x5 + 1)
          else
            (f_X3_forgedBy_6 fuel σ kr n) x3 x4 (x5 + 1))
def f_X3_forgedBy (fuel : Nat) (σ : Mem) (kr : Nat) (x3 : Int32) : Option (Int32) :=
  f_X3_forgedBy_6 fuel σ kr fuel x3 0 0
def f_X6_ask (fuel : Nat) (rb : Mem → Int32 → Int32 → Int32 → Option (Int32 × Mem)) (σ : Mem) (x1 : Int32) (x2 : Int32) : Option (Int32 × Mem) :=
  (f_X6_isHand σ x1).bind fun v1 =>
  if v1 = 0 then
    some ((-1000001), σ)
  else
    (f_X6_isBelow x2 2).bind fun v2 =>
    if v2 = 0 then
      some ((-1000001), σ)
    else
      (f_X2_answerOf fuel rb σ x1 x2).bind fun v3 =>
      some (v3.1, v3.2)
def f_X6_days_47 (fuel : Nat)  : Nat → Mem → Int32 → Int32 → Option (Int32 × Mem)
  | 0, _, _, _ => none
  | n + 1, σ, x1, x2 =>
    if x1 ≤ x2 then
      (f_X1_standingBy fuel σ (σ 13 5)).bind fun v1 =>
      some (v1, σ)
    else
      (f_X0_keep σ 2 (σ 13 5)).bind fun v2 =>
      (f_X1_passDay fuel v2).bind fun v3 =>
      (f_X6_days_47 fuel n) v3 x1 (x2 + 1)
def f_X6_days (fuel : Nat) (σ : Mem) (x1 : Int32) : Option (Int32 × Mem) :=
  if σ 13 0 = 0 then
    some ((-1000002), σ)
  else
    if x1 < 1 then
      some ((-1000001), σ)
    else
      if x1 ≤ 24 then
        if (σ 13 3) + x1 ≤ 999 then
          f_X6_days_47 fuel fuel σ x1 0
        else
          some ((-1000003), σ)
      else
        some ((-1000001), σ)
def f_X6_deed (fuel : Nat) (σ : Mem) (x1 : Int32) (x2 : Int32) : Option (Int32) :=
  (f_X6_isDeed σ x1).bind fun v1 =>
  if v1 = 0 then
    some (-1000001)
  else
    if x2 = 0 then
      gd (inB x1 5) (
      some (σ 20 x1.toNatClampNeg))
    else
    if x2 = 1 then
      gd (inB x1 5) (
      some (σ 21 x1.toNatClampNeg))
    else
    if x2 = 2 then
      gd (inB x1 5) (
      if σ 22 x1.toNatClampNeg < 0 then
        some (-1000000)
      else
        gd (inB x1 5) (
        some (σ 22 x1.toNatClampNeg)))
    else
    if x2 = 3 then
      gd (inB x1 5) (
      some (σ 23 x1.toNatClampNeg))
    else
    if x2 = 4 then
      (f_X1_standingBy fuel σ (σ 13 5)).bind fun v12 =>
      (f_X6_bitOf v12 x1).bind fun v13 =>
      some v13
    else
    some (-1000001)
def f_X6_ahead (fuel : Nat) (σ : Mem) (x1 : Int32) (x2 : Int32) : Option (Int32) :=
  if σ 13 0 = 0 then
    some (-1000002)
  else
    if x1 < 0 then
      some (-1000001)
    else
      if 200 < x1 then
        some (-1000001)
      else
        (f_X6_isBelow x2 3).bind fun v1 =>
        if v1 = 0 then
          some (-1000001)
        else
          (f_X1_whiteOn fuel σ (σ 13 5) ((σ 13 3) + x1)).bind fun v2 =>
          if x2 = 0 then
            (f_X1_blackBy fuel σ v2).bind fun v4 =>
            some v4
          else
          if x2 = 1 then
            (f_X1_standingBy fuel σ v2).bind fun v6 =>
            some v6
          else
          some v2
def f_X6_blanks (fuel : Nat) (σ : Mem) (x1 : Int32) (x2 : Int32) : Option (Int32 × Mem) :=
  if σ 13 0 = 0 then
    some ((-1000002), σ)
  else
    if x1 < 1 then
      some ((-1000001), σ)
    else
      if 90 < x1 then
        some ((-1000001), σ)
      else
        (f_X6_isBelow x2 2).bind fun v1 =>
        if v1 = 0 then
          some ((-1000001), σ)
        else
          (f_X3_blanksOf fuel σ x1 x2).bind fun v2 =>
          some (v2.1, v2.2)
def f_X6_itself (fuel : Nat) (σ : Mem) (x1 : Int32) (x2 : Int32) (x3 : Int32) : Option (Int32) :=
  (f_X6_isDeed σ x1).bind fun v1 =>
  if v1 = 0 then
    some (-1000001)
  else
    (f_X6_isBelow x2 6).bind fun v2 =>
    if v2 = 0 then
      some (-1000001)
    else
      (f_X6_isBelow x3 2).bind fun v3 =>
      if v3 = 0 then
        some (-1000001)
      else
        (f_X3_selfOf fuel σ x1 x2 x3).bind fun v4 =>
        some v4
def f_X7_number (fuel : Nat) (σ : Mem) (x1 : Int32) (x2 : Int32) (x3 : Int32) : Option (Int32 × Mem) :=
  (f_X7_next fuel σ).bind fun v1 =>
  if v1 0 17 = 2 then
    (f_X7_in ((v1 0 18).toInt64) x2.toInt64 x3.toInt64).bind fun v2 =>
    if v2 = 0 then
      (f_X7_fails v1 2).bind fun v4 =>
      gd (isB v4.1) (
      some (v4.1, v4.2))
    else
      gd (inB x1 85) (
      some (1, mst v1 10 x1.toNatClampNeg (v1 0 18)))
  else
    (f_X7_fails v1 1).bind fun v6 =>
    gd (isB v6.1) (
    some (v6.1, v6.2))
def f_X7_sign (fuel : Nat) (σ : Mem) (x1 : Int32) : Option (Int32 × Mem) :=
  (f_X7_next fuel σ).bind fun v1 =>
  if v1 0 17 = x1 then
    some (1, v1)
  else
    (f_X7_fails v1 1).bind fun v2 =>
    if v2.1 = 0 then
      some (0, v2.2)
    else
      some (1, v2.2)
def f_X7_fallsBy (fuel : Nat) (σ : Mem) (x1 : Int32) : Option (Int32 × Mem) :=
  (f_X7_layAside fuel σ).bind fun v1 =>
  (f_X7_recalls fuel v1 x1).bind fun v2 =>
  (f_X7_stand_n fuel v2).bind fun v3 =>
  (f_X7_stand_a fuel v2).bind fun v4 =>
  some (v3 &&& (v4 ^^^ (-1)), v2)
def f_X7_doubles_91 (fuel : Nat) (k59 : Mem → Int32 → Int32 → Int32 → Int32 → Int32 → Int32 → Option (Int32 × Mem)) (σ : Mem) (x1 : Int32) (x2 : Int32) (x3 : Int32) (x4 : Int32) (x5 : Int32) (x6 : Int32) (y0 : Int32) : Option (Int32 × Mem) :=
  if y0 = 0 then
    k59 σ x1 x2 x3 x4 x5 (x6 + 1)
  else
    (f_X7_bits fuel x6).bind fun v11 =>
    (f_X7_bits fuel x5).bind fun v12 =>
    if v12 ≤ v11 then
      k59 σ x1 x2 x3 x4 x5 (x6 + 1)
    else
      k59 σ x1 x2 x3 x4 x6 (x6 + 1)
def f_X7_doubles_172 (fuel : Nat) (k133 : Mem → Int32 → Int32 → Int32 → Int32 → Int32 → Option (Int32 × Mem)) (σ : Mem) (x2 : Int32) (x3 : Int32) (x5 : Int32) (x6 : Int32) (x7 : Int32) (y0 : Int32) : Option (Int32 × Mem) :=
  if y0 = 0 then
    k133 σ x2 x3 x5 x6 (x7 + 1)
  else
    gd (inB (11 + x7) 85) (
    if x6 ≤ σ 5 ((11 + x7).toNatClampNeg) then
      k133 σ x2 x3 x5 x6 (x7 + 1)
    else
      gd (inB (11 + x7) 85) (
      k133 σ x2 x3 x5 (σ 5 ((11 + x7).toNatClampNeg)) (x7 + 1)))
def f_X7_doubles_133 (fuel : Nat)  : Nat → Mem → Int32 → Int32 → Int32 → Int32 → Int32 → Option (Int32 × Mem)
  | 0, _, _, _, _, _, _ => none
  | n + 1, σ, x2, x3, x5, x6, x7 =>
    if σ 5 2 ≤ x7 then
      if x5 = 0 then
        some (0, σ)
      else
        if x6 = 1000000 then
          some ((-1000000), σ)
        else
          if x3 = 0 then
            (f_X7_bits fuel x5).bind fun v9 =>
            some (v9, σ)
          else
            if x3 = 1 then
              (f_X7_bits fuel x5).bind fun v8 =>
              some (x6 * v8, σ)
            else
              some (x5, σ)
    else
      if (x2 >>> (x7 &&& 31)) &&& 1 = 0 then
        gd (inB (7 + x7) 85) (
        if σ 5 ((7 + x7).toNatClampNeg) = 3 then
          f_X7_doubles_172 fuel (f_X7_doubles_133 fuel n) σ x2 x3 x5 x6 x7 0
        else
          f_X7_doubles_172 fuel (f_X7_doubles_133 fuel n) σ x2 x3 x5 x6 x7 1)
      else
        f_X7_doubles_172 fuel (f_X7_doubles_133 fuel n) σ x2 x3 x5 x6 x7 0
def f_X7_doubles_59 (fuel : Nat)  : Nat → Mem → Int32 → Int32 → Int32 → Int32 → Int32 → Int32 → Option (Int32 × Mem)
  | 0, _, _, _, _, _, _, _ => none
  | n + 1, σ, x1, x2, x3, x4, x5, x6 =>
    if 64 ≤ x6 then
      f_X7_doubles_133 fuel fuel σ x2 x3 x5 1000000 0
    else
      (f_X7_standBy_a fuel σ (x4 ||| x6)).bind fun v7 =>
      if (v7 >>> (x1 &&& 31)) &&& 1 = 1 then
        f_X7_doubles_91 fuel (f_X7_doubles_59 fuel n) σ x1 x2 x3 x4 x5 x6 1
      else
        f_X7_doubles_91 fuel (f_X7_doubles_59 fuel n) σ x1 x2 x3 x4 x5 x6 0
def f_X7_doubles (fuel : Nat) (σ : Mem) (x1 : Int32) (x2 : Int32) (x3 : Int32) : Option (Int32 × Mem) :=
  (f_X7_isDeed σ x1).bind fun v1 =>
  if v1 = 0 then
    some ((-1000001), σ)
  else
    (f_X7_areHands σ x2).bind fun v2 =>
    if v2 = 0 then
      some ((-1000001), σ)
    else
      (f_X7_in x3.toInt64 0 2).bind fun v3 =>
      if v3 = 0 then
        some ((-1000001), σ)
      else
        (f_X7_layAside fuel σ).bind fun v4 =>
        (f_X7_recalls fuel v4 x2).bind fun v5 =>
        (f_X7_black_a fuel v5).bind fun v6 =>
        f_X7_doubles_59 fuel fuel v5 x1 x2 x3 v6 63 0
def f_X7_law_21 (fuel : Nat)  : Nat → Mem → Int32 → Int32 → Int32 → Option (Int32 × Mem)
  | 0, _, _, _, _ => none
  | n + 1, σ, x1, x2, x3 =>
    if 100 ≤ x3 then
      some ((-1000000), σ)
    else
      (f_X7_layAside fuel σ).bind fun v3 =>
      (f_X7_recalls fuel (mst v3 11 0 x3) x2).bind fun v4 =>
      (f_X7_stand_a fuel v4).bind fun v5 =>
      if (v5 >>> (x1 &&& 31)) &&& 1 = 0 then
        some (x3, v4)
      else
        (f_X7_law_21 fuel n) v4 x1 x2 (x3 + 1)
def f_X7_law (fuel : Nat) (σ : Mem) (x1 : Int32) (x2 : Int32) : Option (Int32 × Mem) :=
  (f_X7_isDeed σ x1).bind fun v1 =>
  if v1 = 0 then
    some ((-1000001), σ)
  else
    (f_X7_areHands σ x2).bind fun v2 =>
    if v2 = 0 then
      some ((-1000001), σ)
    else
      f_X7_law_21 fuel fuel σ x1 x2 1
def f_X4_readHands_32 (fuel : Nat)  (σ : Mem) : Option (Int32 × Mem) :=
  if 0 < σ 48 6 then
    some (1, σ)
  else
    (f_X4_fail σ 1).bind fun v4 =>
    if v4.1 = 0 then
      some (0, v4.2)
    else
      some (1, v4.2)
def f_X4_readHands_2 (fuel : Nat)  : Nat → Mem → Int32 → Option (Int32 × Mem)
  | 0, _, _ => none
  | n + 1, σ, x1 =>
    if 4 < x1 then
      f_X4_readHands_32 fuel σ
    else
      (f_X4_next σ).bind fun v1 =>
      (f_X4_kindOfSort v1).bind fun v2 =>
      if v2 = 0 then
        f_X4_readHands_32 fuel σ
      else
        (f_X4_readHand fuel σ).bind fun v3 =>
        if v3.1 = 0 then
          some (0, v3.2)
        else
          (f_X4_readHands_2 fuel n) v3.2 (x1 + 1)
def f_X4_readHands (fuel : Nat) (σ : Mem)  : Option (Int32 × Mem) :=
  f_X4_readHands_2 fuel fuel σ 0
def f_X4_readCopies_2 (fuel : Nat)  : Nat → Mem → Int32 → Option (Int32 × Mem)
  | 0, _, _ => none
  | n + 1, σ, x1 =>
    if 10 < x1 then
      some (1, σ)
    else
      (f_X4_next σ).bind fun v1 =>
      if v1 = 119 then
        (f_X4_readCopy fuel σ).bind fun v2 =>
        if v2.1 = 0 then
          some (0, v2.2)
        else
          (f_X4_readCopies_2 fuel n) v2.2 (x1 + 1)
      else
        some (1, σ)
def f_X4_readCopies (fuel : Nat) (σ : Mem)  : Option (Int32 × Mem) :=
  f_X4_readCopies_2 fuel fuel σ 0
def f_X4_readDeeds_2 (fuel : Nat)  : Nat → Mem → Int32 → Option (Int32 × Mem)
  | 0, _, _ => none
  | n + 1, σ, x1 =>
    if 5 < x1 then
      some (1, σ)
    else
      (f_X4_next σ).bind fun v1 =>
      if v1 = 97 then
        (f_X4_readDeed fuel σ).bind fun v2 =>
        if v2.1 = 0 then
          some (0, v2.2)
        else
          (f_X4_readDeeds_2 fuel n) v2.2 (x1 + 1)
      else
        (f_X4_next σ).bind fun v3 =>
        if v3 = 121 then
          (f_X4_readDeed fuel σ).bind fun v4 =>
          if v4.1 = 0 then
            some (0, v4.2)
          else
            (f_X4_readDeeds_2 fuel n) v4.2 (x1 + 1)
        else
          some (1, σ)
def f_X4_readDeeds (fuel : Nat) (σ : Mem)  : Option (Int32 × Mem) :=
  f_X4_readDeeds_2 fuel fuel σ 0
def f_X3_lossBy_13 (fuel : Nat) (σ : Mem)  : Nat → Int32 → Int32 → Int32 → Option (Int32)
  | 0, _, _, _ => none
  | n + 1, x3, x4, x5 =>
    if σ 13 8 ≤ x5 then
      some x4
    else
      (f_X6_bitOf x3 x5).bind fun v2 =>
      if v2 = 1 then
        gd (inB x5 5) (
        (f_X3_lossBy_13 fuel σ n) x3 (x4 + (σ 23 x5.toNatClampNeg)) (x5 + 1))
      else
        (f_X3_lossBy_13 fuel σ n) x3 x4 (x5 + 1)
def f_X3_lossBy (fuel : Nat) (σ : Mem) (x2 : Int32) : Option (Int32) :=
  (f_X3_fallenBy fuel σ x2).bind fun v1 =>
  f_X3_lossBy_13 fuel σ fuel v1 0 0
def f_X6_recall (fuel : Nat) (σ : Mem) (x1 : Int32) : Option (Int32 × Mem) :=
  (f_X6_isCopy σ x1).bind fun v1 =>
  if v1 = 0 then
    some ((-1000001), σ)
  else
    (f_X1_mayRecallNow σ x1).bind fun v2 =>
    if v2 = 0 then
      some ((-1000002), σ)
    else
      (f_X0_keep σ 1 (σ 13 5)).bind fun v3 =>
      (f_X1_blackBy fuel (mst v3 13 5 ((v3 13 5) ||| (1 <<< (x1 &&& 31)))) ((v3 13 5) ||| (1 <<< (x1 &&& 31)))).bind fun v4 =>
      gd (inB x1 10) (
      (f_X6_bitOf v4 (v3 16 x1.toNatClampNeg)).bind fun v6 =>
      some (v6, mst v3 13 5 ((v3 13 5) ||| (1 <<< (x1 &&& 31)))))
def f_X6_copyOf (σ : Mem) (x1 : Int32) (x2 : Int32) : Option (Int32) :=
  (f_X6_isCopy σ x1).bind fun v1 =>
  if v1 = 0 then
    some (-1000001)
  else
    if x2 = 0 then
      gd (inB x1 10) (
      some (σ 16 x1.toNatClampNeg))
    else
    if x2 = 1 then
      gd (inB x1 10) (
      some (σ 17 x1.toNatClampNeg))
    else
    if x2 = 2 then
      gd (inB x1 10) (
      some (σ 18 x1.toNatClampNeg))
    else
    if x2 = 3 then
      gd (inB x1 10) (
      some (σ 19 x1.toNatClampNeg))
    else
    if x2 = 4 then
      (f_X6_bitOf (σ 13 5) x1).bind fun v11 =>
      some v11
    else
    if x2 = 5 then
      (f_X1_mayRecallNow σ x1).bind fun v13 =>
      if v13 = 0 then
        some 0
      else
        some 1
    else
    some (-1000001)
def f_X6_first (fuel : Nat) (σ : Mem) (x1 : Int32) (x2 : Int32) : Option (Int32) :=
  (f_X6_isDeed σ x1).bind fun v1 =>
  if v1 = 0 then
    some (-1000001)
  else
    if x2 < 1 then
      some (-1000001)
    else
      if x2 ≤ 200 then
        (f_X3_firstFall fuel σ x1 x2).bind fun v2 =>
        some v2
      else
        some (-1000001)
def f_X6_doubles (fuel : Nat) (σ : Mem) (x1 : Int32) (x2 : Int32) (x3 : Int32) : Option (Int32) :=
  (f_X6_isDeed σ x1).bind fun v1 =>
  if v1 = 0 then
    some (-1000001)
  else
    (f_X6_isHandSet σ x2).bind fun v2 =>
    if v2 = 0 then
      some (-1000001)
    else
      (f_X6_isBelow x3 3).bind fun v3 =>
      if v3 = 0 then
        some (-1000001)
      else
        (f_X3_doublesFor fuel σ x1 x2 x3).bind fun v4 =>
        some v4
def f_X6_law (fuel : Nat) (σ : Mem) (x1 : Int32) (x2 : Int32) : Option (Int32) :=
  (f_X6_isDeed σ x1).bind fun v1 =>
  if v1 = 0 then
    some (-1000001)
  else
    (f_X6_isHandSet σ x2).bind fun v2 =>
    if v2 = 0 then
      some (-1000001)
    else
      (f_X3_leastYear fuel σ x1 x2).bind fun v3 =>
      some v3
def f_X6_forged (fuel : Nat) (σ : Mem) (x1 : Int32) (x2 : Int32) : Option (Int32 × Mem) :=
  if σ 13 0 = 0 then
    some ((-1000002), σ)
  else
    (f_X6_isRow x1).bind fun v1 =>
    if v1 = 0 then
      some ((-1000001), σ)
    else
      (f_X5_isMissing σ x1).bind fun v2 =>
      if v2 = 0 then
        (f_X5_hasPlaces σ x1 x2 (σ 13 7)).bind fun v3 =>
        if v3 = 0 then
          (f_X6_found σ 2).bind fun v7 =>
          some (v7.1, v7.2)
        else
          gd (inB x1 8) (
          (f_X3_forgedBy fuel σ x1.toNatClampNeg x2).bind fun v5 =>
          (f_X6_unfound σ v5).bind fun v6 =>
          some (v6.1, v6.2))
      else
        (f_X6_found σ 1).bind fun v8 =>
        some (v8.1, v8.2)
def f_X6_years (fuel : Nat) (σ : Mem) (x1 : Int32) (x2 : Int32) (x3 : Int32) : Option (Int32) :=
  if σ 13 0 = 0 then
    some (-1000002)
  else
    if x1 < 0 then
      some (-1000001)
    else
      if 100 < x1 then
        some (-1000001)
      else
        if x2 < 1 then
          some (-1000001)
        else
          if 999999 < x2 then
            some (-1000001)
          else
            (f_X6_isBelow x3 2).bind fun v1 =>
            if v1 = 0 then
              some (-1000001)
            else
              (f_X3_byDraws fuel σ x1 x2 x3).bind fun v2 =>
              some v2
def f_X7_readsLaw (fuel : Nat) (σ : Mem)  : Option (Int32 × Mem) :=
  (f_X7_next fuel σ).bind fun v1 =>
  (f_X7_isLetter v1 105).bind fun v2 =>
  if v2 = 0 then
    (f_X7_fails v1 1).bind fun v7 =>
    gd (isB v7.1) (
    some (v7.1, v7.2))
  else
    (f_X7_number fuel v1 0 1 99).bind fun v3 =>
    if v3.1 = 0 then
      some (0, v3.2)
    else
      (f_X7_sign fuel v3.2 3).bind fun v4 =>
      if v4.1 = 0 then
        some (0, v4.2)
      else
        (f_X7_number fuel v4.2 1 1 99).bind fun v5 =>
        if v5.1 = 0 then
          some (0, v5.2)
        else
          (f_X7_sign fuel v5.2 4).bind fun v6 =>
          if v6.1 = 0 then
            some (0, v6.2)
          else
            some (1, v6.2)
def f_X7_readsHand (fuel : Nat) (σ : Mem) (x1 : Int32) : Option (Int32 × Mem) :=
  if σ 10 2 = 4 then
    (f_X7_fails σ 3).bind fun v5 =>
    gd (isB v5.1) (
    some (v5.1, v5.2))
  else
    gd (inB (7 + (σ 10 2)) 85) (
    (some (mst σ 10 ((7 + (σ 10 2)).toNatClampNeg) x1)).bind fun s2 =>
    (f_X7_number fuel (mst s2 10 2 ((s2 10 2) + 1)) (11 + (σ 10 2)) 0 9).bind fun v3 =>
    if v3.1 = 0 then
      some (0, v3.2)
    else
      (f_X7_sign fuel v3.2 4).bind fun v4 =>
      if v4.1 = 0 then
        some (0, v4.2)
      else
        some (1, v4.2))
def f_X7_readsCopy (fuel : Nat) (σ : Mem)  : Option (Int32 × Mem) :=
  if σ 10 3 = 10 then
    (f_X7_fails σ 3).bind fun v7 =>
    gd (isB v7.1) (
    some (v7.1, v7.2))
  else
    (f_X7_number fuel (mst σ 10 3 ((σ 10 3) + 1)) (15 + (σ 10 3)) 0 5).bind fun v1 =>
    if v1.1 = 0 then
      some (0, v1.2)
    else
      (f_X7_sign fuel v1.2 3).bind fun v2 =>
      if v2.1 = 0 then
        some (0, v2.2)
      else
        (f_X7_number fuel v2.2 (25 + (σ 10 3)) 0 ((v2.2 10 2) - 1)).bind fun v3 =>
        if v3.1 = 0 then
          some (0, v3.2)
        else
          (f_X7_sign fuel v3.2 3).bind fun v4 =>
          if v4.1 = 0 then
            some (0, v4.2)
          else
            (f_X7_number fuel v4.2 (35 + (σ 10 3)) 1 9).bind fun v5 =>
            if v5.1 = 0 then
              some (0, v5.2)
            else
              (f_X7_sign fuel v5.2 4).bind fun v6 =>
              if v6.1 = 0 then
                some (0, v6.2)
              else
                some (1, v6.2)
def f_X7_readsDeed_40 (fuel : Nat)  (σ : Mem) (x1 : Int32) (y0 : Int32) (y1 : Int32) : Option (Int32 × Mem) :=
  gd (inB y1 85) (
  (f_X7_number fuel (mst σ 10 y1.toNatClampNeg y0) (65 + x1) 1 63).bind fun v5 =>
  if v5.1 = 0 then
    some (0, v5.2)
  else
    (f_X7_sign fuel v5.2 3).bind fun v6 =>
    if v6.1 = 0 then
      some (0, v6.2)
    else
      (f_X7_number fuel v6.2 (75 + x1) 0 x1).bind fun v7 =>
      if v7.1 = 0 then
        some (0, v7.2)
      else
        (f_X7_sign fuel v7.2 3).bind fun v8 =>
        if v8.1 = 0 then
          some (0, v8.2)
        else
          (f_X7_number fuel v8.2 (80 + x1) 0 20).bind fun v9 =>
          if v9.1 = 0 then
            some (0, v9.2)
          else
            (f_X7_sign fuel (mst v9.2 10 4 ((v9.2 10 4) + 1)) 4).bind fun v10 =>
            gd (isB v10.1) (
            some (v10.1, v10.2)))
def f_X7_readsDeed (fuel : Nat) (σ : Mem)  : Option (Int32 × Mem) :=
  if σ 10 4 = 5 then
    (f_X7_fails σ 3).bind fun v2 =>
    gd (isB v2.1) (
    some (v2.1, v2.2))
  else
    (f_X7_isLetter σ 97).bind fun v1 =>
    if v1 = 0 then
      f_X7_readsDeed_40 fuel σ (σ 10 4) 0 (70 + (σ 10 4))
    else
      f_X7_readsDeed_40 fuel σ (σ 10 4) 1 (70 + (σ 10 4))
def f_X7_lossBy_11 (fuel : Nat)  : Nat → Mem → Int32 → Int32 → Int32 → Option (Int32 × Mem)
  | 0, _, _, _, _ => none
  | n + 1, σ, x2, x3, x4 =>
    if σ 5 4 ≤ x4 then
      some (x3, σ)
    else
      gd (inB (80 + x4) 85) (
      (f_X7_lossBy_11 fuel n) σ x2 (x3 + (((x2 >>> (x4 &&& 31)) &&& 1) * (σ 5 ((80 + x4).toNatClampNeg)))) (x4 + 1))
def f_X7_lossBy (fuel : Nat) (σ : Mem) (x1 : Int32) : Option (Int32 × Mem) :=
  (f_X7_fallsBy fuel σ x1).bind fun v1 =>
  f_X7_lossBy_11 fuel fuel v1.2 v1.1 0 0
def f_X4_readTape (fuel : Nat) (σ : Mem)  : Option (Int32 × Mem) :=
  (f_X1_begin (mst (mst σ 46 3 0) 46 4 0)).bind fun v1 =>
  (f_X4_readLaw fuel v1).bind fun v2 =>
  if v2.1 = 0 then
    some (0, v2.2)
  else
    (f_X4_readHands fuel v2.2).bind fun v3 =>
    if v3.1 = 0 then
      some (0, v3.2)
    else
      (f_X4_readCopies fuel v3.2).bind fun v4 =>
      if v4.1 = 0 then
        some (0, v4.2)
      else
        (f_X4_readDeeds fuel v4.2).bind fun v5 =>
        if v5.1 = 0 then
          some (0, v5.2)
        else
          if v5.2 46 3 = v5.2 46 2 then
            some (1, v5.2)
          else
            (f_X4_fail v5.2 1).bind fun v6 =>
            if v6.1 = 0 then
              some (0, v6.2)
            else
              some (1, v6.2)
def f_X3_weighAll_2 (fuel : Nat)  : Nat → Mem → Int32 → Option (Mem)
  | 0, _, _ => none
  | n + 1, σ, x2 =>
    if 1 <<< ((σ 13 6) &&& 31) ≤ x2 then
      some σ
    else
      (f_X3_lossBy fuel σ x2).bind fun v1 =>
      gd (inB x2 16) (
      (f_X3_weighAll_2 fuel n) (mst σ 63 x2.toNatClampNeg v1) (x2 + 1))
def f_X3_weighAll (fuel : Nat) (σ : Mem)  : Option (Mem) :=
  f_X3_weighAll_2 fuel fuel σ 0
def f_X6_falls (fuel : Nat) (σ : Mem) (x1 : Int32) (x2 : Int32) : Option (Int32) :=
  if σ 13 0 = 0 then
    some (-1000002)
  else
    (f_X6_isHandSet σ x1).bind fun v1 =>
    if v1 = 0 then
      some (-1000001)
    else
      (f_X6_isBelow x2 2).bind fun v2 =>
      if v2 = 0 then
        some (-1000001)
      else
        if x2 = 0 then
          (f_X3_fallenBy fuel σ x1).bind fun v4 =>
          some v4
        else
          (f_X3_lossBy fuel σ x1).bind fun v3 =>
          some v3
def f_X6_ransom (fuel : Nat) (σ : Mem) (x1 : Int32) : Option (Int32) :=
  (f_X6_isHand σ x1).bind fun v1 =>
  if v1 = 0 then
    some (-1000001)
  else
    (f_X3_lossBy fuel σ (1 <<< (x1 &&& 31))).bind fun v2 =>
    some v2
def f_X7_readsOne_98 (fuel : Nat)  (σ : Mem) : Option (Int32 × Mem) :=
  if σ 10 2 ≤ 0 then
    (f_X7_fails σ 1).bind fun v11 =>
    gd (isB v11.1) (
    some (v11.1, v11.2))
  else
    (f_X7_readsDeed fuel σ).bind fun v13 =>
    gd (isB v13.1) (
    some (v13.1, v13.2))
def f_X7_readsOne_80 (fuel : Nat)  (σ : Mem) : Option (Int32 × Mem) :=
  (f_X7_isLetter σ 97).bind fun v7 =>
  if v7 = 0 then
    (f_X7_isLetter σ 121).bind fun v8 =>
    if v8 = 0 then
      (f_X7_fails σ 1).bind fun v9 =>
      gd (isB v9.1) (
      some (v9.1, v9.2))
    else
      f_X7_readsOne_98 fuel σ
  else
    f_X7_readsOne_98 fuel σ
def f_X7_readsOne_48 (fuel : Nat)  (σ : Mem) : Option (Int32 × Mem) :=
  (f_X7_isLetter σ 119).bind fun v4 =>
  if v4 = 0 then
    f_X7_readsOne_80 fuel σ
  else
    if σ 10 2 ≤ 0 then
      f_X7_readsOne_80 fuel σ
    else
      if σ 10 4 = 0 then
        (f_X7_readsCopy fuel σ).bind fun v5 =>
        gd (isB v5.1) (
        some (v5.1, v5.2))
      else
        f_X7_readsOne_80 fuel σ
def f_X7_readsOne_19 (fuel : Nat)  (σ : Mem) (y0 : Int32) : Option (Int32 × Mem) :=
  if y0 ≤ 0 then
    f_X7_readsOne_48 fuel σ
  else
    if σ 10 3 = 0 then
      if σ 10 4 = 0 then
        (f_X7_readsHand fuel σ y0).bind fun v2 =>
        gd (isB v2.1) (
        some (v2.1, v2.2))
      else
        f_X7_readsOne_48 fuel σ
    else
      f_X7_readsOne_48 fuel σ
def f_X7_readsOne (fuel : Nat) (σ : Mem)  : Option (Int32 × Mem) :=
  if σ 0 17 = 1 then
    (f_X7_sortOf (σ 0 18)).bind fun v1 =>
    f_X7_readsOne_19 fuel σ v1
  else
    f_X7_readsOne_19 fuel σ 0
def f_X7_falls (fuel : Nat) (σ : Mem) (x1 : Int32) (x2 : Int32) : Option (Int32 × Mem) :=
  if σ 0 7 = 0 then
    some ((-1000002), σ)
  else
    (f_X7_areHands σ x1).bind fun v1 =>
    if v1 = 0 then
      some ((-1000001), σ)
    else
      (f_X7_isTwo x2).bind fun v2 =>
      if v2 = 0 then
        some ((-1000001), σ)
      else
        if x2 = 0 then
          (f_X7_fallsBy fuel σ x1).bind fun v4 =>
          some (v4.1, v4.2)
        else
          (f_X7_lossBy fuel σ x1).bind fun v3 =>
          some (v3.1, v3.2)
def f_X7_ransom (fuel : Nat) (σ : Mem) (x1 : Int32) : Option (Int32 × Mem) :=
  (f_X7_isHand σ x1).bind fun v1 =>
  if v1 = 0 then
    some ((-1000001), σ)
  else
    (f_X7_lossBy fuel σ (1 <<< (x1 &&& 31))).bind fun v2 =>
    some (v2.1, v2.2)
def f_X7_pair_107 (fuel : Nat) (k29 : Mem → Int32 → Int32 → Int32 → Int32 → Option (Int32 × Mem)) (k46 : Mem → Int32 → Int32 → Int32 → Int32 → Int32 → Option (Int32 × Mem)) (σ : Mem) (x1 : Int32) (x2 : Int32) (x4 : Int32) (x5 : Int32) (x6 : Int32) (y0 : Int32) : Option (Int32 × Mem) :=
  if x6 ≤ x2 then
    k46 σ x1 x2 y0 x4 (x5 + 1)
  else
    k46 σ x1 x6 y0 x4 (x5 + 1)
def f_X7_pair_46 (fuel : Nat) (k29 : Mem → Int32 → Int32 → Int32 → Int32 → Option (Int32 × Mem)) : Nat → Mem → Int32 → Int32 → Int32 → Int32 → Int32 → Option (Int32 × Mem)
  | 0, _, _, _, _, _, _ => none
  | n + 1, σ, x1, x2, x3, x4, x5 =>
    if σ 5 2 ≤ x5 then
      k29 σ x1 x2 x3 (x4 + 1)
    else
      (f_X7_lossBy fuel σ ((1 <<< (x4 &&& 31)) ||| (1 <<< (x5 &&& 31)))).bind fun v2 =>
      (f_X7_lossBy fuel v2.2 (1 <<< (x4 &&& 31))).bind fun v3 =>
      (f_X7_lossBy fuel v3.2 (1 <<< (x5 &&& 31))).bind fun v4 =>
      if (v2.1 - v3.1) - v4.1 ≤ x2 then
        f_X7_pair_107 fuel k29 (f_X7_pair_46 fuel k29 n) v4.2 x1 x2 x4 x5 ((v2.1 - v3.1) - v4.1) x3
      else
        f_X7_pair_107 fuel k29 (f_X7_pair_46 fuel k29 n) v4.2 x1 x2 x4 x5 ((v2.1 - v3.1) - v4.1) ((4 * x4) + x5)
def f_X7_pair_29 (fuel : Nat)  : Nat → Mem → Int32 → Int32 → Int32 → Int32 → Option (Int32 × Mem)
  | 0, _, _, _, _, _ => none
  | n + 1, σ, x1, x2, x3, x4 =>
    if σ 5 2 ≤ x4 then
      if x1 = 0 then
        some (x3, σ)
      else
        if x3 = (-1000000) then
          some (x3, σ)
        else
          some (x2, σ)
    else
      f_X7_pair_46 fuel (f_X7_pair_29 fuel n) fuel σ x1 x2 x3 x4 (x4 + 1)
def f_X7_pair (fuel : Nat) (σ : Mem) (x1 : Int32) : Option (Int32 × Mem) :=
  if σ 0 7 = 0 then
    some ((-1000002), σ)
  else
    (f_X7_isTwo x1).bind fun v1 =>
    if v1 = 0 then
      some ((-1000001), σ)
    else
      f_X7_pair_29 fuel fuel σ x1 (-1000000) (-1000000) 0
def f_X7_order_122 (fuel : Nat) (k34 : Mem → Int32 → Int32 → Int32 → Int32 → Option (Int32 × Mem)) (σ : Mem) (x1 : Int32) (x2 : Int32) (x4 : Int32) (x6 : Int32) (y0 : Int32) : Option (Int32 × Mem) :=
  if x6 ≤ x2 then
    k34 σ x1 x2 y0 (x4 + 1)
  else
    k34 σ x1 x6 y0 (x4 + 1)
def f_X7_order_67 (fuel : Nat) (k34 : Mem → Int32 → Int32 → Int32 → Int32 → Option (Int32 × Mem)) : Nat → Mem → Int32 → Int32 → Int32 → Int32 → Int32 → Int32 → Int32 → Option (Int32 × Mem)
  | 0, _, _, _, _, _, _, _, _ => none
  | n + 1, σ, x1, x2, x3, x4, x5, x6, x7 =>
    if σ 5 2 ≤ x7 then
      if x6 ≤ x2 then
        f_X7_order_122 fuel k34 σ x1 x2 x4 x6 x3
      else
        f_X7_order_122 fuel k34 σ x1 x2 x4 x6 x4
    else
      (f_X7_handAt σ x4 x7).bind fun v4 =>
      (f_X7_lossBy fuel σ (x5 ||| (1 <<< (v4 &&& 31)))).bind fun v5 =>
      (f_X7_order_67 fuel k34 n) v5.2 x1 x2 x3 x4 (x5 ||| (1 <<< (v4 &&& 31))) (x6 + v5.1) (x7 + 1)
def f_X7_order_34 (fuel : Nat)  : Nat → Mem → Int32 → Int32 → Int32 → Int32 → Option (Int32 × Mem)
  | 0, _, _, _, _, _ => none
  | n + 1, σ, x1, x2, x3, x4 =>
    if 1 <<< ((2 * (σ 5 2)) &&& 31) ≤ x4 then
      if 0 ≤ x1 then
        if σ 5 2 ≤ x1 then
          some ((-1000000), σ)
        else
          (f_X7_handAt σ x3 x1).bind fun v2 =>
          some (v2, σ)
      else
        some (x2, σ)
    else
      (f_X7_isOrder fuel σ x4).bind fun v3 =>
      if v3 = 0 then
        (f_X7_order_34 fuel n) σ x1 x2 x3 (x4 + 1)
      else
        f_X7_order_67 fuel (f_X7_order_34 fuel n) fuel σ x1 x2 x3 x4 0 0 0
def f_X7_order (fuel : Nat) (σ : Mem) (x1 : Int32) : Option (Int32 × Mem) :=
  if σ 0 7 = 0 then
    some ((-1000002), σ)
  else
    (f_X7_in x1.toInt64 (-1) 3).bind fun v1 =>
    if v1 = 0 then
      some ((-1000001), σ)
    else
      f_X7_order_34 fuel fuel σ x1 (-1) 0 0
def f_X6_archive (fuel : Nat) (σ : Mem)  : Option (Int32 × Mem) :=
  (f_X4_readTape fuel σ).bind fun v1 =>
  if v1.1 = 0 then
    some ((-1000100) - (v1.2 46 3), mst (mst v1.2 46 2 0) 0 8 (v1.2 46 4))
  else
    (f_X1_become_13_48 (mst v1.2 46 2 0)).bind fun v2 =>
    (f_X0_forget v2).bind fun v3 =>
    some (v3 13 6, v3)
def f_X6_pair (fuel : Nat) (σ : Mem) (x1 : Int32) : Option (Int32 × Mem) :=
  if σ 13 0 = 0 then
    some ((-1000002), σ)
  else
    (f_X6_isBelow x1 2).bind fun v1 =>
    if v1 = 0 then
      some ((-1000001), σ)
    else
      (f_X3_weighAll fuel σ).bind fun v2 =>
      (f_X3_bestPair fuel v2).bind fun v3 =>
      if x1 = 0 then
        some (v3, v2)
      else
        if v3 = (-1000000) then
          some (v3, v2)
        else
          (f_X3_gainOf v2 (v3 / 4) (v3 - v3 / 4 * 4)).bind fun v4 =>
          some (v4, v2)
def f_X6_order (fuel : Nat) (σ : Mem) (x1 : Int32) : Option (Int32 × Mem) :=
  if σ 13 0 = 0 then
    some ((-1000002), σ)
  else
    if x1 < (-1) then
      some ((-1000001), σ)
    else
      if x1 < 4 then
        if x1 < σ 13 6 then
          (f_X3_weighAll fuel σ).bind fun v1 =>
          (f_X3_bestOrder fuel v1).bind fun v2 =>
          if 0 ≤ x1 then
            (f_X3_handInOrder v1 v2 x1).bind fun v3 =>
            some (v3, v1)
          else
            (f_X3_sumOfOrder fuel v1 v2).bind fun v4 =>
            some (v4, v1)
        else
          some ((-1000000), σ)
      else
        some ((-1000001), σ)
def f_X7_reads_39 (fuel : Nat)  : Nat → Mem → Option (Int32 × Mem)
  | 0, _ => none
  | n + 1, σ =>
    if σ 0 17 = 0 then
      if 0 < σ 10 2 then
        some (1, σ)
      else
        (f_X7_fails σ 1).bind fun v4 =>
        if v4.1 = 0 then
          some (0, v4.2)
        else
          some (1, v4.2)
    else
      (f_X7_readsOne fuel σ).bind fun v5 =>
      if v5.1 = 0 then
        some (0, v5.2)
      else
        (f_X7_next fuel v5.2).bind fun v6 =>
        (f_X7_reads_39 fuel n) v6
def f_X7_reads_2 (fuel : Nat)  : Nat → Mem → Int32 → Option (Int32 × Mem)
  | 0, _, _ => none
  | n + 1, σ, x1 =>
    if 85 ≤ x1 then
      (f_X7_readsLaw fuel (mst σ 0 15 0)).bind fun v1 =>
      if v1.1 = 0 then
        some (0, v1.2)
      else
        (f_X7_next fuel v1.2).bind fun v2 =>
        f_X7_reads_39 fuel fuel v2
    else
      gd (inB x1 85) (
      (f_X7_reads_2 fuel n) (mst σ 10 x1.toNatClampNeg 0) (x1 + 1))
def f_X7_reads (fuel : Nat) (σ : Mem)  : Option (Int32 × Mem) :=
  f_X7_reads_2 fuel fuel σ 0
def f_X7_archive (fuel : Nat) (σ : Mem)  : Option (Int32 × Mem) :=
  (f_X7_reads fuel (mst (mst σ 0 19 (σ 0 5)) 0 5 0)).bind fun v1 =>
  if v1.1 = 0 then
    some ((-1000100) - (v1.2 0 16), v1.2)
  else
    (f_X7_copies_10_5 fuel (mst (mst v1.2 0 7 1) 0 9 0) 0 0).bind fun v2 =>
    some (v2 5 2, v2)
