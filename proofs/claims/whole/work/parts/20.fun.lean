def f_X0_size  (M : Mem) : Option Int32 :=
  some (M 114 2)
def f_X0_isFull  (M : Mem) : Option Bool :=
  Option.bind (
    if (M 114 2) < 8 then
      some false
    else
      some true
  ) fun (x1 : Bool) =>
  some x1
def f_X0_add (a1 : Int32) (a2 : Int32) (M : Mem) : Option (Int32 × Mem) :=
  if inb (M 114 2) 8 = true then
    if inb ((up M 115 (Int32.toNatClampNeg (M 114 2)) a1) 114 2) 8 = true then
      some ((((up (up (up M 115 (Int32.toNatClampNeg (M 114 2)) a1) 116 (Int32.toNatClampNeg ((up M 115 (Int32.toNatClampNeg (M 114 2)) a1) 114 2)) a2) 114 2 (((up (up M 115 (Int32.toNatClampNeg (M 114 2)) a1) 116 (Int32.toNatClampNeg ((up M 115 (Int32.toNatClampNeg (M 114 2)) a1) 114 2)) a2) 114 2) + 1)) 114 2) - 1), (up (up (up M 115 (Int32.toNatClampNeg (M 114 2)) a1) 116 (Int32.toNatClampNeg ((up M 115 (Int32.toNatClampNeg (M 114 2)) a1) 114 2)) a2) 114 2 (((up (up M 115 (Int32.toNatClampNeg (M 114 2)) a1) 116 (Int32.toNatClampNeg ((up M 115 (Int32.toNatClampNeg (M 114 2)) a1) 114 2)) a2) 114 2) + 1)))
    else none
  else none
def f_X0_landsOf (a1 : Int32) (M : Mem) : Option Int32 :=
  if inb a1 8 = true then
    some (M 115 (Int32.toNatClampNeg a1))
  else none
def f_X0_ageOf (a1 : Int32) (M : Mem) : Option Int32 :=
  if inb a1 8 = true then
    some (M 116 (Int32.toNatClampNeg a1))
  else none
def f_J6_bitCount_0f7a4 (a0 : Int32) : Option Int32 :=
  some ((((((((a0 - ((jushr a0 1) &&& 1431655765)) &&& 858993459) + ((jushr (a0 - ((jushr a0 1) &&& 1431655765)) 2) &&& 858993459)) + (jushr (((a0 - ((jushr a0 1) &&& 1431655765)) &&& 858993459) + ((jushr (a0 - ((jushr a0 1) &&& 1431655765)) 2) &&& 858993459)) 4)) &&& 252645135) + (jushr (((((a0 - ((jushr a0 1) &&& 1431655765)) &&& 858993459) + ((jushr (a0 - ((jushr a0 1) &&& 1431655765)) 2) &&& 858993459)) + (jushr (((a0 - ((jushr a0 1) &&& 1431655765)) &&& 858993459) + ((jushr (a0 - ((jushr a0 1) &&& 1431655765)) 2) &&& 858993459)) 4)) &&& 252645135) 8)) + (jushr ((((((a0 - ((jushr a0 1) &&& 1431655765)) &&& 858993459) + ((jushr (a0 - ((jushr a0 1) &&& 1431655765)) 2) &&& 858993459)) + (jushr (((a0 - ((jushr a0 1) &&& 1431655765)) &&& 858993459) + ((jushr (a0 - ((jushr a0 1) &&& 1431655765)) 2) &&& 858993459)) 4)) &&& 252645135) + (jushr (((((a0 - ((jushr a0 1) &&& 1431655765)) &&& 858993459) + ((jushr (a0 - ((jushr a0 1) &&& 1431655765)) 2) &&& 858993459)) + (jushr (((a0 - ((jushr a0 1) &&& 1431655765)) &&& 858993459) + ((jushr (a0 - ((jushr a0 1) &&& 1431655765)) 2) &&& 858993459)) 4)) &&& 252645135) 8)) 16)) &&& 63)
def f_X0_howManyLands (a1 : Int32) (M : Mem) : Option Int32 :=
  if inb a1 8 = true then
    (f_J6_bitCount_0f7a4 (M 115 (Int32.toNatClampNeg a1))).bind fun (r2 : Int32) =>
    some r2
  else none
def f_X2_turned (a0 : Int32) (a1 : Int32) : Option Int32 :=
  some (((jshl a0 a1) ||| (jushr a0 (16 - a1))) &&& 65535)
def f_X1_lookAtRow_b62 (a1 : Int32) (a2 : Int32) : (Int32 × Int32 × Mem) → Option ((Int32 × Int32 × Mem) ⊕ Mem) := fun ((x20, x21, M22) : (Int32 × Int32 × Mem)) =>
  if 3 < x21 then
    some (.inr M22)
  else
    (f_X2_turned (((a1 ||| a2) ^^^ (-1)) &&& 65535) (16 - x21)).bind fun (r24 : Int32) =>
    (f_X2_turned a2 ((16 - x21) - 1)).bind fun (r25 : Int32) =>
    (f_X2_turned a1 ((16 - x21) - 1)).bind fun (r26 : Int32) =>
    (f_J6_bitCount_0f7a4 ((x20 &&& r24) &&& ((a1 &&& r25) ||| (a2 &&& r26)))).bind fun (r27 : Int32) =>
    some (.inl ((x20 &&& r24), (x21 + 1), (up M22 9 3 ((M22 9 3) + (x21 * r27)))))
def f_X1_lookAtRow (a1 : Int32) (a2 : Int32) (M : Mem) : Option Mem :=
  (f_J6_bitCount_0f7a4 (a1 &&& a2)).bind fun (r1 : Int32) =>
  (f_X2_turned a2 1).bind fun (r2 : Int32) =>
  (f_J6_bitCount_0f7a4 (a1 &&& r2)).bind fun (r3 : Int32) =>
  (f_X2_turned a2 15).bind fun (r4 : Int32) =>
  (f_J6_bitCount_0f7a4 (a1 &&& r4)).bind fun (r5 : Int32) =>
  Option.bind (it (f_X1_lookAtRow_b62 a1 a2) FU (65535, 1, (up (up M 9 1 ((M 9 1) + r1)) 9 2 (((up M 9 1 ((M 9 1) + r1)) 9 2) + (r3 + r5))))) fun (M23 : Mem) =>
  some M23
def f_X2_maskOf (a1 : Int32) (a2 : Int32) (M : Mem) : Option Int32 :=
  if inb ((a1 * 8) + a2) 48 = true then
    some (M 3 (Int32.toNatClampNeg ((a1 * 8) + a2)))
  else none
def f_X1_look_b22 (a1 : Int32) (a2 : Int32) (a3 : Int32) (a4 : Int32) : (Int32 × Mem) → Option ((Int32 × Mem) ⊕ Mem) := fun ((x10, M11) : (Int32 × Mem)) =>
  if (jmin 8 (8 + a3)) ≤ x10 then
    some (.inr M11)
  else
    (f_X2_maskOf a1 x10 M11).bind fun (r13 : Int32) =>
    (f_X2_maskOf a2 (x10 - a3) M11).bind fun (r14 : Int32) =>
    (f_X2_turned r14 a4).bind fun (r15 : Int32) =>
    Option.bind (
      if r13 = 0 then
        some M11
      else
        if r15 = 0 then
          some M11
        else
          (f_X1_lookAtRow r13 r15 M11).bind fun (M19 : Mem) =>
          some M19
    ) fun (M18 : Mem) =>
    some (.inl ((x10 + 1), M18))
def f_X1_look (a1 : Int32) (a2 : Int32) (a3 : Int32) (a4 : Int32) (M : Mem) : Option Mem :=
  Option.bind (it (f_X1_look_b22 a1 a2 a3 a4) FU ((jmax 0 a3), (up (up (up M 9 1 0) 9 2 0) 9 3 0))) fun (M12 : Mem) =>
  some M12
def f_X1_price  (M : Mem) : Option Int32 :=
  some (((3 * (M 9 1)) + (M 9 3)) - (M 9 2))
def f_X1_isCounted  (M : Mem) : Option Bool :=
  Option.bind (
    if ((M 9 2) + (M 9 1)) < 1 then
      some false
    else
      some true
  ) fun (x1 : Bool) =>
  some x1
def f_X1_take (a1 : Int32) (a2 : Int32) (a3 : Int32) (M : Mem) : Option Mem :=
  (f_X1_price M).bind fun (r1 : Int32) =>
  Option.bind (
    if (M 9 4) = 0 then
      some (up (up (up M 9 8 r1) 9 6 a1) 9 7 a2)
    else
      if (M 9 8) ≤ r1 then
        some M
      else
        some (up (up (up M 9 8 r1) 9 6 a1) 9 7 a2)
  ) fun (M2 : Mem) =>
  Option.bind (
    if a3 < r1 then
      some (up M2 9 4 ((M2 9 4) + 1))
    else
      some (up (up M2 9 4 ((M2 9 4) + 1)) 9 5 (((up M2 9 4 ((M2 9 4) + 1)) 9 5) + 1))
  ) fun (M3 : Mem) =>
  some M3
def f_X1_surveyRing_b3 (a1 : Int32) (a2 : Int32) (a3 : Int32) (a4 : Int32) : (Int32 × Mem) → Option ((Int32 × Mem) ⊕ Mem) := fun ((x17, M18) : (Int32 × Mem)) =>
  if 16 ≤ x17 then
    some (.inr M18)
  else
    (f_X1_look a1 a2 a3 x17 M18).bind fun (M20 : Mem) =>
    (f_X1_isCounted M20).bind fun (r21 : Bool) =>
    Option.bind (
      if r21 = true then
        (f_X1_take a3 x17 a4 M20).bind fun (M25 : Mem) =>
        some M25
      else
        some M20
    ) fun (M24 : Mem) =>
    some (.inl ((x17 + 1), M24))
def f_X1_surveyRing (a1 : Int32) (a2 : Int32) (a3 : Int32) (a4 : Int32) (M : Mem) : Option Mem :=
  Option.bind (it (f_X1_surveyRing_b3 a1 a2 a3 a4) FU (0, M)) fun (M19 : Mem) =>
  some M19
def f_X11_within (a0 : Int32) (a1 : Int32) : Option Bool :=
  Option.bind (
    if a0 < 0 then
      some false
    else
      if a1 ≤ a0 then
        some false
      else
        some true
  ) fun (x1 : Bool) =>
  some x1
def f_X2_staysInRows_b2 (a1 : Int32) (a2 : Int32) (M : Mem) : Int32 → Option (Int32 ⊕ (Unit ⊕ Bool)) := fun (x7 : Int32) =>
  if 8 ≤ x7 then
    some (.inr (.inl ()))
  else
    (f_X2_maskOf a1 x7 M).bind fun (r8 : Int32) =>
    if r8 = 0 then
      some (.inl (x7 + 1))
    else
      (f_X11_within (x7 + a2) 8).bind fun (r9 : Bool) =>
      if r9 = true then
        some (.inl (x7 + 1))
      else
        some (.inr (.inr false))
def f_X2_staysInRows (a1 : Int32) (a2 : Int32) (M : Mem) : Option Bool :=
  Option.bind (it (f_X2_staysInRows_b2 a1 a2 M) FU 0) fun (zr : (Unit ⊕ Bool)) => match zr with
  | .inr v => some v
  | .inl _ =>
    some true
def f_X1_survey_b14 (a1 : Int32) (a2 : Int32) (a3 : Int32) : (Int32 × Mem) → Option ((Int32 × Mem) ⊕ Mem) := fun ((x8, M9) : (Int32 × Mem)) =>
  if 7 < x8 then
    some (.inr M9)
  else
    (f_X2_staysInRows a2 x8 M9).bind fun (r11 : Bool) =>
    Option.bind (
      if r11 = true then
        (f_X1_surveyRing a1 a2 x8 a3 M9).bind fun (M15 : Mem) =>
        some M15
      else
        some M9
    ) fun (M14 : Mem) =>
    some (.inl ((x8 + 1), M14))
def f_X1_survey (a1 : Int32) (a2 : Int32) (a3 : Int32) (M : Mem) : Option Mem :=
  Option.bind (it (f_X1_survey_b14 a1 a2 a3) FU ((-7), (up (up M 9 4 0) 9 5 0))) fun (M10 : Mem) =>
  some M10
def f_X2_ownerOf (a1 : Int32) (M : Mem) : Option Int32 :=
  if inb a1 128 = true then
    some (M 2 (Int32.toNatClampNeg a1))
  else none
def f_X2_give (a1 : Int32) (a2 : Int32) (M : Mem) : Option Mem :=
  if inb a1 128 = true then
    Option.bind (
      if (M 2 (Int32.toNatClampNeg a1)) = (-1) then
        some M
      else
        if inb (((M 2 (Int32.toNatClampNeg a1)) * 8) + (a1 / 16)) 48 = true then
          some (up M 3 (Int32.toNatClampNeg (((M 2 (Int32.toNatClampNeg a1)) * 8) + (a1 / 16))) ((M 3 (Int32.toNatClampNeg (((M 2 (Int32.toNatClampNeg a1)) * 8) + (a1 / 16)))) &&& ((jshl 1 (jrem a1 16)) ^^^ (-1))))
        else none
    ) fun (M4 : Mem) =>
    Option.bind (
      if a2 = (-1) then
        some M4
      else
        if inb ((a2 * 8) + (a1 / 16)) 48 = true then
          some (up M4 3 (Int32.toNatClampNeg ((a2 * 8) + (a1 / 16))) ((M4 3 (Int32.toNatClampNeg ((a2 * 8) + (a1 / 16)))) ||| (jshl 1 (jrem a1 16))))
        else none
    ) fun (M8 : Mem) =>
    some (fil (up M8 2 (Int32.toNatClampNeg a1) a2) 4 36 0)
  else none
def f_X11_eastOf (a0 : Int32) (a1 : Int32) : Option Int32 :=
  some ((a0 + a1) &&& 15)
def f_X2_giveRun_b6 (a1 : Int32) (a2 : Int32) (a3 : Int32) (a4 : Int32) : (Int32 × Int32 × Mem) → Option ((Int32 × Int32 × Mem) ⊕ (Int32 × Mem)) := fun ((x31, x32, M33) : (Int32 × Int32 × Mem)) =>
  if a4 ≤ x32 then
    some (.inr (x31, M33))
  else
    (f_X11_eastOf a3 x32).bind fun (r36 : Int32) =>
    if inb ((a2 * 16) + r36) 128 = true then
      Option.bind (
        if (M33 2 (Int32.toNatClampNeg ((a2 * 16) + r36))) = (-1) then
          (f_X2_give ((a2 * 16) + r36) a1 M33).bind fun (M42 : Mem) =>
          some ((x31 + 1), M42)
        else
          some (x31, M33)
      ) fun ((x40, M41) : (Int32 × Mem)) =>
      some (.inl (x40, (x32 + 1), M41))
    else none
def f_X2_giveRun (a1 : Int32) (a2 : Int32) (a3 : Int32) (a4 : Int32) (M : Mem) : Option (Int32 × Mem) :=
  Option.bind (it (f_X2_giveRun_b6 a1 a2 a3 a4) FU (0, 0, M)) fun ((x34, M35) : (Int32 × Mem)) =>
  some (x34, M35)
def f_X2_sizeOf_b4 (a1 : Int32) (M : Mem) : (Int32 × Int32) → Option ((Int32 × Int32) ⊕ Int32) := fun ((x13, x14) : (Int32 × Int32)) =>
  if 8 ≤ x14 then
    some (.inr x13)
  else
    (f_X2_maskOf a1 x14 M).bind fun (r16 : Int32) =>
    (f_J6_bitCount_0f7a4 r16).bind fun (r17 : Int32) =>
    some (.inl ((x13 + r17), (x14 + 1)))
def f_X2_sizeOf (a1 : Int32) (M : Mem) : Option Int32 :=
  Option.bind (it (f_X2_sizeOf_b4 a1 M) FU (0, 0)) fun (x15 : Int32) =>
  some x15
def f_X2_sizeOfAll_b4 (M : Mem) : (Int32 × Int32) → Option ((Int32 × Int32) ⊕ Int32) := fun ((x10, x11) : (Int32 × Int32)) =>
  if 6 ≤ x11 then
    some (.inr x10)
  else
    (f_X2_sizeOf x11 M).bind fun (r13 : Int32) =>
    some (.inl ((x10 + r13), (x11 + 1)))
def f_X2_sizeOfAll  (M : Mem) : Option Int32 :=
  Option.bind (it (f_X2_sizeOfAll_b4 M) FU (0, 0)) fun (x12 : Int32) =>
  some x12
def f_J6_numberOfTrailingZeros_0f7a4 (a0 : Int32) : Option Int32 :=
  if 0 < ((a0 ^^^ (-1)) &&& (a0 - 1)) then
    Option.bind (
      if ((a0 ^^^ (-1)) &&& (a0 - 1)) ≤ 65536 then
        some (((a0 ^^^ (-1)) &&& (a0 - 1)), 1)
      else
        some ((jushr ((a0 ^^^ (-1)) &&& (a0 - 1)) 16), (1 + 16))
    ) fun ((x1, x2) : (Int32 × Int32)) =>
    Option.bind (
      if x1 ≤ 256 then
        some (x1, x2)
      else
        some ((jushr x1 8), (x2 + 8))
    ) fun ((x3, x4) : (Int32 × Int32)) =>
    Option.bind (
      if x3 ≤ 16 then
        some (x3, x4)
      else
        some ((jushr x3 4), (x4 + 4))
    ) fun ((x5, x6) : (Int32 × Int32)) =>
    Option.bind (
      if x5 ≤ 4 then
        some (x5, x6)
      else
        some ((jushr x5 2), (x6 + 2))
    ) fun ((x7, x8) : (Int32 × Int32)) =>
    some (x8 + (jushr x7 1))
  else
    some (((a0 ^^^ (-1)) &&& (a0 - 1)) &&& 32)
def f_X2_leastCellOf_b2 (a1 : Int32) (M : Mem) : Int32 → Option (Int32 ⊕ (Unit ⊕ Int32)) := fun (x7 : Int32) =>
  if 8 ≤ x7 then
    some (.inr (.inl ()))
  else
    (f_X2_maskOf a1 x7 M).bind fun (r8 : Int32) =>
    if r8 = 0 then
      some (.inl (x7 + 1))
    else
      (f_J6_numberOfTrailingZeros_0f7a4 r8).bind fun (r9 : Int32) =>
      some (.inr (.inr ((x7 * 16) + r9)))
def f_X2_leastCellOf (a1 : Int32) (M : Mem) : Option Int32 :=
  Option.bind (it (f_X2_leastCellOf_b2 a1 M) FU 0) fun (zr : (Unit ⊕ Int32)) => match zr with
  | .inr v => some v
  | .inl _ =>
    some (-1)
def f_X2_columnsApart_b9 (a0 : Int32) (a1 : Int32) : Int32 → Option (Int32 ⊕ (Unit ⊕ Int32)) := fun (x3 : Int32) =>
  if 8 ≤ x3 then
    some (.inr (.inl ()))
  else
    if (a0 &&& ((jushr ((jshl a1 16) ||| a1) x3) ||| (jushr ((jshl a1 16) ||| a1) (16 - x3)))) = 0 then
      some (.inl (x3 + 1))
    else
      some (.inr (.inr x3))
def f_X2_columnsApart (a0 : Int32) (a1 : Int32) : Option Int32 :=
  Option.bind (it (f_X2_columnsApart_b9 a0 a1) FU 0) fun (zr : (Unit ⊕ Int32)) => match zr with
  | .inr v => some v
  | .inl _ =>
    some 8
def f_X2_measure_b25 (a2 : Int32) (r62 : Int32) (M : Mem) : (Int32 × Int32 × Int32) → Option ((Int32 × Int32 × Int32) ⊕ (Int32 × Int32)) := fun ((x79, x80, x81) : (Int32 × Int32 × Int32)) =>
  if r62 = 0 then
    some (.inr (x79, x80))
  else
    if 8 ≤ x81 then
      some (.inr (x79, x80))
    else
      (f_X2_maskOf a2 x81 M).bind fun (r84 : Int32) =>
      Option.bind (
        if r84 = 0 then
          some x79
        else
          (f_X2_columnsApart r62 r84).bind fun (r88 : Int32) =>
          some (jmin x79 ((jabs (x80 - x81)) + r88))
      ) fun (x87 : Int32) =>
      some (.inl (x87, x80, (x81 + 1)))
def f_X2_measure_b6 (a1 : Int32) (a2 : Int32) (M : Mem) : (Int32 × Int32) → Option ((Int32 × Int32) ⊕ Int32) := fun ((x59, x60) : (Int32 × Int32)) =>
  if 8 ≤ x60 then
    some (.inr x59)
  else
    (f_X2_maskOf a1 x60 M).bind fun (r62 : Int32) =>
    Option.bind (it (f_X2_measure_b25 a2 r62 M) FU (x59, x60, 0)) fun ((x82, x83) : (Int32 × Int32)) =>
    some (.inl (x82, (x83 + 1)))
def f_X2_measure (a1 : Int32) (a2 : Int32) (M : Mem) : Option Int32 :=
  Option.bind (it (f_X2_measure_b6 a1 a2 M) FU (99, 0)) fun (x61 : Int32) =>
  some x61
def f_X2_apart (a1 : Int32) (a2 : Int32) (M : Mem) : Option (Int32 × Mem) :=
  if inb (((jmin a1 a2) * 6) + (jmax a1 a2)) 36 = true then
    Option.bind (
      if (M 4 (Int32.toNatClampNeg (((jmin a1 a2) * 6) + (jmax a1 a2)))) = 0 then
        (f_X2_measure a1 a2 M).bind fun (r5 : Int32) =>
        some (up M 4 (Int32.toNatClampNeg (((jmin a1 a2) * 6) + (jmax a1 a2))) r5)
      else
        some M
    ) fun (M4 : Mem) =>
    some ((M4 4 (Int32.toNatClampNeg (((jmin a1 a2) * 6) + (jmax a1 a2)))), M4)
  else none
def f_X11_then (a0 : Int64) (a2 : Int64) : Option Int64 :=
  some ((31 * a0) + a2)
def f_X2_toldCells_b2 (M : Mem) : (Int64 × Int32) → Option ((Int64 × Int32) ⊕ Int64) := fun ((x9, x10) : (Int64 × Int32)) =>
  if 128 ≤ x10 then
    some (.inr x9)
  else
    if inb x10 128 = true then
      (f_X11_then x9 (Int32.toInt64 (M 2 (Int32.toNatClampNeg x10)))).bind fun (r13 : Int64) =>
      some (.inl (r13, (x10 + 1)))
    else none
def f_X2_toldCells (a1 : Int64) (M : Mem) : Option Int64 :=
  Option.bind (it (f_X2_toldCells_b2 M) FU (a1, 0)) fun (x11 : Int64) =>
  some x11
def f_X2_toldDistances_b13  : (Int64 × Int32 × Int32 × Mem) → Option ((Int64 × Int32 × Int32 × Mem) ⊕ (Int64 × Int32 × Mem)) := fun ((x74, x75, x76, M77) : (Int64 × Int32 × Int32 × Mem)) =>
  if 6 ≤ x76 then
    some (.inr (x74, x75, M77))
  else
    (f_X2_apart x75 x76 M77).bind fun ((r81, M82) : (Int32 × Mem)) =>
    (f_X11_then x74 (Int32.toInt64 r81)).bind fun (r83 : Int64) =>
    some (.inl (r83, x75, (x76 + 1), M82))
def f_X2_toldDistances_b2  : (Int64 × Int32 × Mem) → Option ((Int64 × Int32 × Mem) ⊕ (Int64 × Mem)) := fun ((x55, x56, M57) : (Int64 × Int32 × Mem)) =>
  if 6 ≤ x56 then
    some (.inr (x55, M57))
  else
    Option.bind (it (f_X2_toldDistances_b13) FU (x55, x56, (x56 + 1), M57)) fun ((x78, x79, M80) : (Int64 × Int32 × Mem)) =>
    some (.inl (x78, (x79 + 1), M80))
def f_X2_toldDistances (a1 : Int64) (M : Mem) : Option (Int64 × Mem) :=
  Option.bind (it (f_X2_toldDistances_b2) FU (a1, 0, M)) fun ((x58, M59) : (Int64 × Mem)) =>
  some (x58, M59)
def f_X3_size (P : Nat) (M : Mem) : Option Int32 :=
  some (M P 2)
def f_X3_isFull (P : Nat) (M : Mem) : Option Bool :=
  Option.bind (
    if (M P 2) < 8 then
      some false
    else
      some true
  ) fun (x1 : Bool) =>
  some x1
def f_J1_canEncode_9a6ad (a0 : Int32) : Option Bool :=
  Option.bind (
    if a0 < 0 then
      some false
    else
      if 255 < a0 then
        some false
      else
        some true
  ) fun (x1 : Bool) =>
  some x1
def f_J1_indexOfChar_4cfef_b7 (a1 : Int32) (a3 : Int32) (k0 : Nat) : Int32 → Option (Int32 ⊕ (Unit ⊕ Int32)) := fun (x3 : Int32) =>
  if a3 ≤ x3 then
    some (.inr (.inl ()))
  else
    if inb x3 (SL k0) = true then
      if (SB k0 (Int32.toNatClampNeg x3)) = (Int8.toInt32 (Int32.toInt8 a1)) then
        some (.inr (.inr x3))
      else
        some (.inl (x3 + 1))
    else none
def f_J1_indexOfChar_4cfef (k0 : Nat) (a1 : Int32) (a2 : Int32) (a3 : Int32) : Option Int32 :=
  Option.bind (it (f_J1_indexOfChar_4cfef_b7 a1 a3 k0) FU a2) fun (zr : (Unit ⊕ Int32)) => match zr with
  | .inr v => some v
  | .inl _ =>
    some (-1)
def f_J1_indexOf_4cfef (k0 : Nat) (a1 : Int32) (a2 : Int32) (a3 : Int32) : Option Int32 :=
  (f_J1_canEncode_9a6ad a1).bind fun (r1 : Bool) =>
  if r1 = true then
    if (jmax a2 0) < (jmin a3 (nI (SL k0))) then
      (f_J1_indexOfChar_4cfef k0 a1 (jmax a2 0) (jmin a3 (nI (SL k0)))).bind fun (r2 : Int32) =>
      some r2
    else
      some (-1)
  else
    some (-1)
def f_J0_indexOf_7cf53 (k0 : Nat) (a1 : Int32) (a2 : Int32) : Option Int32 :=
  (f_J0_isLatin1_aae02 k0).bind fun (r1 : Bool) =>
  Option.bind (
    if r1 = true then
      (f_J0_length_8abf5 k0).bind fun (r10 : Int32) =>
      (f_J1_indexOf_4cfef k0 a1 a2 r10).bind fun (r11 : Int32) =>
      some r11
    else
      (f_J0_length_8abf5 k0).bind fun (r9 : Int32) =>
      none
  ) fun (x8 : Int32) =>
  some x8
def f_J0_indexOf_0f7a4 (k0 : Nat) (a1 : Int32) : Option Int32 :=
  (f_J0_indexOf_7cf53 k0 a1 0).bind fun (r1 : Int32) =>
  some r1
def f_X4_takeAheadOfFactor (Q0 : Nat) (a1 : Int32) (M : Mem) : Option Mem :=
  Option.bind (
    if a1 = 33 then
      Option.bind (
        if (M Q0 3) = 0 then
          some true
        else
          some false
      ) fun (x7 : Bool) =>
      some (up M Q0 3 (bI x7))
    else
      Option.bind (
        if a1 = 38 then
          some false
        else
          some true
      ) fun (x6 : Bool) =>
      some (up (up M Q0 3 (bI false)) Q0 4 (bI x6))
  ) fun (M5 : Mem) =>
  some M5
def f_X4_takeSecondDigit (Q0 : Nat) (a1 : Int32) (M : Mem) : Option Mem :=
  Option.bind (
    if ((M Q0 2) - 1) < 0 then
      some M
    else
      if inb ((M Q0 2) - 1) 12 = true then
        some (up M (Q0 + 3) (Int32.toNatClampNeg ((M Q0 2) - 1)) ((10 * (M (Q0 + 3) (Int32.toNatClampNeg ((M Q0 2) - 1)))) + a1))
      else none
  ) fun (M3 : Mem) =>
  some M3
def f_X4_take (Q0 : Nat) (a1 : Int32) (a2 : Int32) (M : Mem) : Option Mem :=
  Option.bind (
    if a1 = 1 then
      (f_J0_indexOf_0f7a4 0 (ji2c a2)).bind fun (r18 : Int32) =>
      some (up M Q0 0 r18)
    else
      if a1 = 2 then
        some M
      else
        if a1 = 3 then
          some (up M Q0 1 (((10 * (M Q0 1)) + a2) - 48))
        else
          if a1 = 4 then
            some (up M Q0 1 (((10 * (M Q0 1)) + a2) - 48))
          else
            if a1 = 5 then
              (f_X4_takeAheadOfFactor Q0 a2 M).bind fun (M19 : Mem) =>
              some M19
            else
              if a1 = 6 then
                if inb (M Q0 2) 12 = true then
                  if inb ((up M (Q0 + 1) (Int32.toNatClampNeg (M Q0 2)) a2) Q0 2) 12 = true then
                    if inb ((up (up M (Q0 + 1) (Int32.toNatClampNeg (M Q0 2)) a2) (Q0 + 4) (Int32.toNatClampNeg ((up M (Q0 + 1) (Int32.toNatClampNeg (M Q0 2)) a2) Q0 2)) (((up M (Q0 + 1) (Int32.toNatClampNeg (M Q0 2)) a2) Q0 3) &&& 1)) Q0 2) 12 = true then
                      some (up (up (up M (Q0 + 1) (Int32.toNatClampNeg (M Q0 2)) a2) (Q0 + 4) (Int32.toNatClampNeg ((up M (Q0 + 1) (Int32.toNatClampNeg (M Q0 2)) a2) Q0 2)) (((up M (Q0 + 1) (Int32.toNatClampNeg (M Q0 2)) a2) Q0 3) &&& 1)) (Q0 + 5) (Int32.toNatClampNeg ((up (up M (Q0 + 1) (Int32.toNatClampNeg (M Q0 2)) a2) (Q0 + 4) (Int32.toNatClampNeg ((up M (Q0 + 1) (Int32.toNatClampNeg (M Q0 2)) a2) Q0 2)) (((up M (Q0 + 1) (Int32.toNatClampNeg (M Q0 2)) a2) Q0 3) &&& 1)) Q0 2)) (((up (up M (Q0 + 1) (Int32.toNatClampNeg (M Q0 2)) a2) (Q0 + 4) (Int32.toNatClampNeg ((up M (Q0 + 1) (Int32.toNatClampNeg (M Q0 2)) a2) Q0 2)) (((up M (Q0 + 1) (Int32.toNatClampNeg (M Q0 2)) a2) Q0 3) &&& 1)) Q0 4) &&& 1))
                    else none
                  else none
                else none
              else
                if a1 = 7 then
                  if inb (M Q0 2) 12 = true then
                    some (up M (Q0 + 2) (Int32.toNatClampNeg (M Q0 2)) a2)
                  else none
                else
                  if a1 = 8 then
                    if inb (M Q0 2) 12 = true then
                      some (up (up M (Q0 + 3) (Int32.toNatClampNeg (M Q0 2)) (a2 - 48)) Q0 2 (((up M (Q0 + 3) (Int32.toNatClampNeg (M Q0 2)) (a2 - 48)) Q0 2) + 1))
                    else none
                  else
                    if a1 = 9 then
                      (f_X4_takeSecondDigit Q0 (a2 - 48) M).bind fun (M25 : Mem) =>
                      some M25
                    else
                      some M
  ) fun (M17 : Mem) =>
  some M17
def f_X6_letterAt (a1 : Int32) (M : Mem) : Option Int32 :=
  if inb a1 50 = true then
    some (M 11 (Int32.toNatClampNeg a1))
  else none
def f_X6_behindFactor (a0 : Int32) : Option Int32 :=
  Option.bind (
    if a0 = 38 then
      some 5
    else
      if a0 = 124 then
        some 5
      else
        some (-1)
  ) fun (x1 : Int32) =>
  some x1
def f_X6_behindNumber (a0 : Int32) : Option Int32 :=
  Option.bind (
    if a0 = 63 then
      some 5
    else
      some (-1)
  ) fun (x1 : Int32) =>
  some x1
def f_X6_isDigit (a0 : Int32) : Option Bool :=
  Option.bind (
    if a0 < 48 then
      some false
    else
      if 57 < a0 then
        some false
      else
        some true
  ) fun (x1 : Bool) =>
  some x1
def f_X6_isOneOf (a0 : Int32) (k1 : Nat) : Option Bool :=
  (f_J0_indexOf_0f7a4 k1 (ji2c a0)).bind fun (r1 : Int32) =>
  Option.bind (
    if r1 < 0 then
      some false
    else
      some true
  ) fun (x2 : Bool) =>
  some x2
def f_X6_next (a0 : Int32) (a1 : Int32) : Option Int32 :=
  if a0 = 0 then
    (f_X6_isOneOf a1 0).bind fun (r1 : Bool) =>
    Option.bind (
      if r1 = true then
        some 1
      else
        some (-1)
    ) fun (x2 : Int32) =>
    some x2
  else
    if a0 = 1 then
      Option.bind (
        if a1 = 58 then
          some 2
        else
          some (-1)
      ) fun (x3 : Int32) =>
      some x3
    else
      if a0 = 2 then
        (f_X6_isDigit a1).bind fun (r4 : Bool) =>
        Option.bind (
          if r4 = true then
            some 3
          else
            some (-1)
        ) fun (x5 : Int32) =>
        some x5
      else
        if a0 = 3 then
          (f_X6_isDigit a1).bind fun (r6 : Bool) =>
          Option.bind (
            if r6 = true then
              some 4
            else
              (f_X6_behindNumber a1).bind fun (r10 : Int32) =>
              some r10
          ) fun (x9 : Int32) =>
          some x9
        else
          if a0 = 4 then
            (f_X6_behindNumber a1).bind fun (r11 : Int32) =>
            some r11
          else
            if a0 = 5 then
              Option.bind (
                if a1 = 33 then
                  some 5
                else
                  (f_X6_isOneOf a1 1).bind fun (r15 : Bool) =>
                  if r15 = true then
                    some 6
                  else
                    some (-1)
              ) fun (x14 : Int32) =>
              some x14
            else
              if a0 = 6 then
                (f_X6_isOneOf a1 2).bind fun (r16 : Bool) =>
                Option.bind (
                  if r16 = true then
                    some 7
                  else
                    some (-1)
                ) fun (x17 : Int32) =>
                some x17
              else
                if a0 = 7 then
                  (f_X6_isDigit a1).bind fun (r18 : Bool) =>
                  Option.bind (
                    if r18 = true then
                      some 8
                    else
                      some (-1)
                  ) fun (x19 : Int32) =>
                  some x19
                else
                  if a0 = 8 then
                    (f_X6_isDigit a1).bind fun (r20 : Bool) =>
                    Option.bind (
                      if r20 = true then
                        some 9
                      else
                        (f_X6_behindFactor a1).bind fun (r24 : Int32) =>
                        some r24
                    ) fun (x23 : Int32) =>
                    some x23
                  else
                    if a0 = 9 then
                      (f_X6_behindFactor a1).bind fun (r25 : Int32) =>
                      some r25
                    else
                      some (-1)
def f_X6_size  (M : Mem) : Option Int32 :=
  some (M 10 1)
def f_X4_read_b14 (Q0 : Nat) : (Int32 × Int32 × Mem) → Option ((Int32 × Int32 × Mem) ⊕ Mem) := fun ((x27, x28, M29) : (Int32 × Int32 × Mem)) =>
  (f_X6_size M29).bind fun (r31 : Int32) =>
  if r31 ≤ x28 then
    some (.inr M29)
  else
    (f_X6_letterAt x28 M29).bind fun (r32 : Int32) =>
    (f_X6_next x27 r32).bind fun (r33 : Int32) =>
    Option.bind (
      if 12 ≤ (M29 Q0 2) then
        some M29
      else
        (f_X6_letterAt x28 M29).bind fun (r39 : Int32) =>
        (f_X4_take Q0 r33 r39 M29).bind fun (M40 : Mem) =>
        some M40
    ) fun (M38 : Mem) =>
    some (.inl (r33, (x28 + 1), M38))
def f_X4_read (Q0 : Nat) (M : Mem) : Option Mem :=
  Option.bind (it (f_X4_read_b14 Q0) FU (0, 0, (up (up M Q0 1 0) Q0 2 0))) fun (M30 : Mem) =>
  some M30
def f_X3_read (P : Nat) (M : Mem) : Option (Int32 × Mem) :=
  if inb (M P 2) 8 = true then
    (f_X4_read (P + 3 + 6 * Int32.toNatClampNeg (M P 2)) M).bind fun (M3 : Mem) =>
    some (((up M3 P 2 ((M3 P 2) + 1)) P 2), (up M3 P 2 ((M3 P 2) + 1)))
  else none
def f_X3_removeLast (P : Nat) (M : Mem) : Option (Int32 × Mem) :=
  some (((up M P 2 ((M P 2) - 1)) P 2), (up M P 2 ((M P 2) - 1)))
def f_X4_factorHolds (Q0 : Nat) (a1 : Int32) (a2 : Int32) (a3 : Int32) (a4 : Int32) (M : Mem) : Option Bool :=
  if inb a1 12 = true then
    Option.bind (
      if (M (Q0 + 1) (Int32.toNatClampNeg a1)) = 100 then
        some a2
      else
        if (M (Q0 + 1) (Int32.toNatClampNeg a1)) = 101 then
          some a3
        else
          some a4
    ) fun (x2 : Int32) =>
    Option.bind (
      if (M (Q0 + 2) (Int32.toNatClampNeg a1)) = 60 then
        if (M (Q0 + 3) (Int32.toNatClampNeg a1)) ≤ x2 then
          some false
        else
          some true
      else
        if (M (Q0 + 2) (Int32.toNatClampNeg a1)) = 61 then
          if x2 = (M (Q0 + 3) (Int32.toNatClampNeg a1)) then
            some true
          else
            some false
        else
          if x2 ≤ (M (Q0 + 3) (Int32.toNatClampNeg a1)) then
            some false
          else
            some true
    ) fun (x3 : Bool) =>
    Option.bind (
      if (bI x3) = (M (Q0 + 4) (Int32.toNatClampNeg a1)) then
        some false
      else
        some true
    ) fun (x4 : Bool) =>
    some x4
  else none
def f_X4_holds_j40_0 (Q0 : Nat) (a1 : Int32) (a2 : Int32) (a3 : Int32) (x34 : Int32) (M : Mem) (x37 : Bool) : Option ((Bool × Int32) ⊕ (Bool ⊕ Bool)) :=
  Option.bind (
    if x37 = true then
      (f_X4_factorHolds Q0 x34 a1 a2 a3 M).bind fun (r49 : Bool) =>
      if r49 = true then
        some true
      else
        some false
    else
      some false
  ) fun (x48 : Bool) =>
  some (.inl (x48, (x34 + 1)))
def f_X4_holds_b6 (Q0 : Nat) (a1 : Int32) (a2 : Int32) (a3 : Int32) (M : Mem) : (Bool × Int32) → Option ((Bool × Int32) ⊕ (Bool ⊕ Bool)) := fun ((x33, x34) : (Bool × Int32)) =>
  if (M Q0 2) ≤ x34 then
    some (.inr (.inl x33))
  else
    if inb x34 12 = true then
      if (M (Q0 + 5) (Int32.toNatClampNeg x34)) = 0 then
        f_X4_holds_j40_0 Q0 a1 a2 a3 x34 M x33
      else
        if x34 ≤ 0 then
          f_X4_holds_j40_0 Q0 a1 a2 a3 x34 M true
        else
          if x33 = true then
            some (.inr (.inr true))
          else
            f_X4_holds_j40_0 Q0 a1 a2 a3 x34 M true
    else none
def f_X4_holds (Q0 : Nat) (a1 : Int32) (a2 : Int32) (a3 : Int32) (M : Mem) : Option Bool :=
  Option.bind (it (f_X4_holds_b6 Q0 a1 a2 a3 M) FU (true, 0)) fun (zr : (Bool ⊕ Bool)) => match zr with
  | .inr v => some v
  | .inl x35 =>
    some x35
def f_X3_choose_b16 (P : Nat) (a1 : Int32) (a2 : Int32) (a3 : Int32) : (Int32 × Mem) → Option ((Int32 × Mem) ⊕ Mem) := fun ((x10, M11) : (Int32 × Mem)) =>
  if x10 < 0 then
    some (.inr M11)
  else
    if inb x10 8 = true then
      if inb (M11 (P + 3 + 6 * Int32.toNatClampNeg x10) 0) 4 = true then
        Option.bind (
          if (M11 (P + 2) (Int32.toNatClampNeg (M11 (P + 3 + 6 * Int32.toNatClampNeg x10) 0))) = (-1) then
            (f_X4_holds (P + 3 + 6 * Int32.toNatClampNeg x10) a1 a2 a3 M11).bind fun (r19 : Bool) =>
            if r19 = true then
              some (up M11 (P + 2) (Int32.toNatClampNeg (M11 (P + 3 + 6 * Int32.toNatClampNeg x10) 0)) (M11 (P + 3 + 6 * Int32.toNatClampNeg x10) 1))
            else
              some M11
          else
            some M11
        ) fun (M18 : Mem) =>
        some (.inl ((x10 + (-1)), M18))
      else none
    else none
def f_X3_choose_j150_1 (P : Nat) (x30 : Int32) (M31 : Mem)  : Option Mem :=
  some (up (up M31 P 3 (M31 (P + 2) (Int32.toNatClampNeg x30))) P 4 x30)
def f_X3_choose_b89 (P : Nat) (a1 : Int32) : (Int32 × Mem) → Option ((Int32 × Mem) ⊕ Mem) := fun ((x30, M31) : (Int32 × Mem)) =>
  if 4 ≤ x30 then
    some (.inr M31)
  else
    if inb x30 4 = true then
      Option.bind (
        if (M31 (P + 2) (Int32.toNatClampNeg x30)) = (-1) then
          some false
        else
          if x30 = 0 then
            if a1 = 1 then
              some true
            else
              some false
          else
            some true
      ) fun (x34 : Bool) =>
      Option.bind (
        if x34 = true then
          if (M31 P 3) = (-1) then
            f_X3_choose_j150_1 P x30 M31
          else
            if (M31 P 3) ≤ (M31 (P + 2) (Int32.toNatClampNeg x30)) then
              some M31
            else
              f_X3_choose_j150_1 P x30 M31
        else
          some M31
      ) fun (M35 : Mem) =>
      some (.inl ((x30 + 1), M35))
    else none
def f_X3_choose (P : Nat) (a1 : Int32) (a2 : Int32) (a3 : Int32) (M : Mem) : Option Mem :=
  Option.bind (it (f_X3_choose_b16 P a1 a2 a3) FU ((((fil M (P + 2) 4 (-1)) P 2) - 1), (fil M (P + 2) 4 (-1)))) fun (M12 : Mem) =>
  Option.bind (it (f_X3_choose_b89 P a1) FU (0, (up (up M12 P 3 (-1)) P 4 (-1)))) fun (M32 : Mem) =>
  some M32
def f_X5_size  (M : Mem) : Option Int32 :=
  some (M 5 4)
def f_X5_isFull  (M : Mem) : Option Bool :=
  Option.bind (
    if (M 5 4) < 40 then
      some false
    else
      some true
  ) fun (x1 : Bool) =>
  some x1
def f_X5_add (a1 : Int32) (a2 : Int32) (a3 : Int32) (M : Mem) : Option (Int32 × Mem) :=
  if inb (M 5 4) 40 = true then
    if inb ((up M 6 (Int32.toNatClampNeg (M 5 4)) a1) 5 4) 40 = true then
      if inb ((up (up M 6 (Int32.toNatClampNeg (M 5 4)) a1) 7 (Int32.toNatClampNeg ((up M 6 (Int32.toNatClampNeg (M 5 4)) a1) 5 4)) a2) 5 4) 40 = true then
        some ((((up (up (up (up M 6 (Int32.toNatClampNeg (M 5 4)) a1) 7 (Int32.toNatClampNeg ((up M 6 (Int32.toNatClampNeg (M 5 4)) a1) 5 4)) a2) 8 (Int32.toNatClampNeg ((up (up M 6 (Int32.toNatClampNeg (M 5 4)) a1) 7 (Int32.toNatClampNeg ((up M 6 (Int32.toNatClampNeg (M 5 4)) a1) 5 4)) a2) 5 4)) a3) 5 4 (((up (up (up M 6 (Int32.toNatClampNeg (M 5 4)) a1) 7 (Int32.toNatClampNeg ((up M 6 (Int32.toNatClampNeg (M 5 4)) a1) 5 4)) a2) 8 (Int32.toNatClampNeg ((up (up M 6 (Int32.toNatClampNeg (M 5 4)) a1) 7 (Int32.toNatClampNeg ((up M 6 (Int32.toNatClampNeg (M 5 4)) a1) 5 4)) a2) 5 4)) a3) 5 4) + 1)) 5 4) - 1), (up (up (up (up M 6 (Int32.toNatClampNeg (M 5 4)) a1) 7 (Int32.toNatClampNeg ((up M 6 (Int32.toNatClampNeg (M 5 4)) a1) 5 4)) a2) 8 (Int32.toNatClampNeg ((up (up M 6 (Int32.toNatClampNeg (M 5 4)) a1) 7 (Int32.toNatClampNeg ((up M 6 (Int32.toNatClampNeg (M 5 4)) a1) 5 4)) a2) 5 4)) a3) 5 4 (((up (up (up M 6 (Int32.toNatClampNeg (M 5 4)) a1) 7 (Int32.toNatClampNeg ((up M 6 (Int32.toNatClampNeg (M 5 4)) a1) 5 4)) a2) 8 (Int32.toNatClampNeg ((up (up M 6 (Int32.toNatClampNeg (M 5 4)) a1) 7 (Int32.toNatClampNeg ((up M 6 (Int32.toNatClampNeg (M 5 4)) a1) 5 4)) a2) 5 4)) a3) 5 4) + 1)))
      else none
    else none
  else none
def f_X5_removeLast  (M : Mem) : Option (Int32 × Mem) :=
  some (((up M 5 4 ((M 5 4) - 1)) 5 4), (up M 5 4 ((M 5 4) - 1)))
def f_X5_kindOf (a1 : Int32) (M : Mem) : Option Int32 :=
  if inb a1 40 = true then
    some (M 6 (Int32.toNatClampNeg a1))
  else none
def f_X5_cellOf (a1 : Int32) (M : Mem) : Option Int32 :=
  if inb a1 40 = true then
    some (M 7 (Int32.toNatClampNeg a1))
  else none
def f_X5_numberOf (a1 : Int32) (M : Mem) : Option Int32 :=
  if inb a1 40 = true then
    some (M 8 (Int32.toNatClampNeg a1))
  else none
def f_X5_weightOf (a1 : Int32) (M : Mem) : Option Int32 :=
  if inb a1 40 = true then
    if inb (M 6 (Int32.toNatClampNeg a1)) 6 = true then
      some (WT (Int32.toNatClampNeg (M 6 (Int32.toNatClampNeg a1))))
    else none
  else none
def f_X5_landOf (a1 : Int32) (M : Mem) : Option Int32 :=
  if inb a1 40 = true then
    (f_X2_ownerOf (M 7 (Int32.toNatClampNeg a1)) M).bind fun (r2 : Int32) =>
    some r2
  else none
def f_X5_isNeedle (a1 : Int32) (M : Mem) : Option Bool :=
  if inb a1 40 = true then
    Option.bind (
      if (M 6 (Int32.toNatClampNeg a1)) = 4 then
        some true
      else
        some false
    ) fun (x2 : Bool) =>
    some x2
  else none
def f_X5_isOf (a1 : Int32) (a2 : Int32) (M : Mem) : Option Bool :=
  Option.bind (
    if a2 = 0 then
      some true
    else
      if inb a1 40 = true then
        if a2 = (M 6 (Int32.toNatClampNeg a1)) then
          some true
        else
          if a2 = 2 then
            if (M 6 (Int32.toNatClampNeg a1)) = 5 then
              some true
            else
              some false
          else
            some false
      else none
  ) fun (x3 : Bool) =>
  some x3
def f_X5_anyOn_b2 (a1 : Int32) (M : Mem) : Int32 → Option (Int32 ⊕ (Unit ⊕ Bool)) := fun (x5 : Int32) =>
  if (M 5 4) ≤ x5 then
    some (.inr (.inl ()))
  else
    if inb x5 40 = true then
      if (M 7 (Int32.toNatClampNeg x5)) = a1 then
        some (.inr (.inr true))
      else
        some (.inl (x5 + 1))
    else none
def f_X5_anyOn (a1 : Int32) (M : Mem) : Option Bool :=
  Option.bind (it (f_X5_anyOn_b2 a1 M) FU 0) fun (zr : (Unit ⊕ Bool)) => match zr with
  | .inr v => some v
  | .inl _ =>
    some false
def f_X5_howManyOn_b4 (a1 : Int32) (M : Mem) : (Int32 × Int32) → Option ((Int32 × Int32) ⊕ Int32) := fun ((x13, x14) : (Int32 × Int32)) =>
  if (M 5 4) ≤ x14 then
    some (.inr x13)
  else
    (f_X5_landOf x14 M).bind fun (r16 : Int32) =>
    Option.bind (
      if r16 = a1 then
        some (x13 + 1)
      else
        some x13
    ) fun (x17 : Int32) =>
    some (.inl (x17, (x14 + 1)))
def f_X5_howManyOn (a1 : Int32) (M : Mem) : Option Int32 :=
  Option.bind (it (f_X5_howManyOn_b4 a1 M) FU (0, 0)) fun (x15 : Int32) =>
  some x15
def f_X5_leadsInto_j105_0 (a1 : Int32) (a2 : Int32) (M : Mem)  : Option Bool :=
  Option.bind (
    if (M 8 (Int32.toNatClampNeg a1)) = (M 8 (Int32.toNatClampNeg a2)) then
      some true
    else
      some false
  ) fun (x9 : Bool) =>
  some x9
def f_X5_leadsInto (a1 : Int32) (a2 : Int32) (M : Mem) : Option Bool :=
  if inb a1 40 = true then
    if inb a2 40 = true then
      if (M 6 (Int32.toNatClampNeg a1)) = (M 6 (Int32.toNatClampNeg a2)) then
        if (M 6 (Int32.toNatClampNeg a1)) = 1 then
          Option.bind (
            if 1 < (jabs ((M 8 (Int32.toNatClampNeg a1)) - (M 8 (Int32.toNatClampNeg a2)))) then
              some false
            else
              some true
          ) fun (x10 : Bool) =>
          some x10
        else
          if (M 6 (Int32.toNatClampNeg a1)) = 2 then
            f_X5_leadsInto_j105_0 a1 a2 M
          else
            if (M 6 (Int32.toNatClampNeg a1)) = 3 then
              Option.bind (
                if (jrem (M 8 (Int32.toNatClampNeg a1)) 4) = (jrem (M 8 (Int32.toNatClampNeg a2)) 4) then
                  some true
                else
                  some false
              ) fun (x11 : Bool) =>
              some x11
            else
              if (M 6 (Int32.toNatClampNeg a1)) = 4 then
                some false
              else
                f_X5_leadsInto_j105_0 a1 a2 M
      else
        some false
    else none
  else none
def f_X11_ringDistance (a0 : Int32) (a1 : Int32) : Option Int32 :=
  (f_X11_eastOf a0 (16 - a1)).bind fun (r1 : Int32) =>
  some (jmin r1 (16 - r1))
def f_X5_isNextTo (a0 : Int32) (a1 : Int32) (a2 : Int32) (a3 : Int32) : Option Bool :=
  Option.bind (
    if (a0 / 16) = ((a1 / 16) + a2) then
      (f_X11_eastOf (jrem a1 16) a3).bind fun (r6 : Int32) =>
      (f_X11_ringDistance (jrem a0 16) r6).bind fun (r7 : Int32) =>
      if r7 = 1 then
        some true
      else
        some false
    else
      some false
  ) fun (x5 : Bool) =>
  some x5
def f_X5_goingOnFrom_b6 (a1 : Int32) (a2 : Int32) (a3 : Int32) (a4 : Int32) (M : Mem) : (Int32 × Int32) → Option ((Int32 × Int32) ⊕ Int32) := fun ((x106, x107) : (Int32 × Int32)) =>
  if (M 5 4) ≤ x107 then
    some (.inr x106)
  else
    if inb x107 40 = true then
      if inb a1 40 = true then
        Option.bind (
          if (M 6 (Int32.toNatClampNeg x107)) = (M 6 (Int32.toNatClampNeg a1)) then
            (f_X5_landOf x107 M).bind fun (r132 : Int32) =>
            if r132 = a2 then
              (f_X5_isNextTo (M 7 (Int32.toNatClampNeg a1)) (M 7 (Int32.toNatClampNeg x107)) a3 a4).bind fun (r133 : Bool) =>
              if r133 = true then
                (f_X5_leadsInto a1 x107 M).bind fun (r134 : Bool) =>
                Option.bind (
                  if r134 = true then
                    (f_X5_weightOf a1 M).bind fun (r141 : Int32) =>
                    some r141
                  else
                    (f_X5_weightOf a1 M).bind fun (r140 : Int32) =>
                    some (-r140)
                ) fun (x139 : Int32) =>
                some (x106 + x139)
              else
                some x106
            else
              some x106
          else
            some x106
        ) fun (x131 : Int32) =>
        some (.inl (x131, (x107 + 1)))
      else none
    else none
def f_X5_goingOnFrom (a1 : Int32) (a2 : Int32) (a3 : Int32) (a4 : Int32) (M : Mem) : Option Int32 :=
  Option.bind (it (f_X5_goingOnFrom_b6 a1 a2 a3 a4 M) FU (0, 0)) fun (x108 : Int32) =>
  some x108
def f_X5_goingOn_b6 (a1 : Int32) (a2 : Int32) (a3 : Int32) (a4 : Int32) (M : Mem) : (Int32 × Int32) → Option ((Int32 × Int32) ⊕ Int32) := fun ((x22, x23) : (Int32 × Int32)) =>
  if (M 5 4) ≤ x23 then
    some (.inr x22)
  else
    (f_X5_landOf x23 M).bind fun (r25 : Int32) =>
    Option.bind (
      if r25 = a1 then
        (f_X5_goingOnFrom x23 a2 a3 a4 M).bind fun (r29 : Int32) =>
        some (x22 + r29)
      else
        some x22
    ) fun (x28 : Int32) =>
    some (.inl (x28, (x23 + 1)))
def f_X5_goingOn (a1 : Int32) (a2 : Int32) (a3 : Int32) (a4 : Int32) (M : Mem) : Option Int32 :=
  Option.bind (it (f_X5_goingOn_b6 a1 a2 a3 a4 M) FU (0, 0)) fun (x24 : Int32) =>
  some x24
def f_X5_told_b2 (M : Mem) : (Int64 × Int32) → Option ((Int64 × Int32) ⊕ Int64) := fun ((x17, x18) : (Int64 × Int32)) =>
  if (M 5 4) ≤ x18 then
    some (.inr x17)
  else
    if inb x18 40 = true then
      (f_X11_then x17 (Int32.toInt64 (M 6 (Int32.toNatClampNeg x18)))).bind fun (r21 : Int64) =>
      (f_X11_then r21 (Int32.toInt64 (M 7 (Int32.toNatClampNeg x18)))).bind fun (r22 : Int64) =>
      (f_X11_then r22 (Int32.toInt64 (M 8 (Int32.toNatClampNeg x18)))).bind fun (r23 : Int64) =>
      (f_X5_weightOf x18 M).bind fun (r24 : Int32) =>
      (f_X11_then r23 (Int32.toInt64 r24)).bind fun (r25 : Int64) =>
      some (.inl (r25, (x18 + 1)))
    else none
def f_X5_told (a1 : Int64) (M : Mem) : Option Int64 :=
  Option.bind (it (f_X5_told_b2 M) FU (a1, 0)) fun (x19 : Int64) =>
  some x19
def f_X6_byteOf (a0 : Int64) (a2 : Int32) : Option Int32 :=
  some (Int64.toInt32 ((jlushr a0 (8 * a2)) &&& 255))
def f_X6_isTold_j35_0 (r15 : Int32) (x14 : Int32)  : Option ((Bool × Int32) ⊕ (Unit ⊕ Bool)) :=
  Option.bind (
    if r15 = 0 then
      some true
    else
      some false
  ) fun (x18 : Bool) =>
  some (.inl (x18, (x14 + 1)))
def f_X6_isTold_b4 (a0 : Int64) : (Bool × Int32) → Option ((Bool × Int32) ⊕ (Unit ⊕ Bool)) := fun ((x13, x14) : (Bool × Int32)) =>
  if 8 ≤ x14 then
    some (.inr (.inl ()))
  else
    (f_X6_byteOf a0 x14).bind fun (r15 : Int32) =>
    if 126 < r15 then
      some (.inr (.inr false))
    else
      if x13 = true then
        if r15 = 0 then
          f_X6_isTold_j35_0 r15 x14
        else
          some (.inr (.inr false))
      else
        f_X6_isTold_j35_0 r15 x14
def f_X6_isTold (a0 : Int64) : Option Bool :=
  Option.bind (it (f_X6_isTold_b4 a0) FU (false, 0)) fun (zr : (Unit ⊕ Bool)) => match zr with
  | .inr v => some v
  | .inl _ =>
    some true
def f_X6_howManyIn_b4 (a0 : Int64) : (Int32 × Int32) → Option ((Int32 × Int32) ⊕ Int32) := fun ((x13, x14) : (Int32 × Int32)) =>
  if 8 ≤ x14 then
    some (.inr x13)
  else
    (f_X6_byteOf a0 x14).bind fun (r16 : Int32) =>
    Option.bind (
      if r16 = 0 then
        some x13
      else
        some (x13 + 1)
    ) fun (x17 : Int32) =>
    some (.inl (x17, (x14 + 1)))
def f_X6_howManyIn (a0 : Int64) : Option Int32 :=
  Option.bind (it (f_X6_howManyIn_b4 a0) FU (0, 0)) fun (x15 : Int32) =>
  some x15
def f_X6_hasRoomFor (a1 : Int64) (M : Mem) : Option Bool :=
  (f_X6_howManyIn a1).bind fun (r1 : Int32) =>
  Option.bind (
    if 50 < ((M 10 1) + r1) then
      some false
    else
      some true
  ) fun (x2 : Bool) =>
  some x2
def f_X6_write_b8 (a1 : Int64) (r1 : Int32) : (Int32 × Mem) → Option ((Int32 × Mem) ⊕ Mem) := fun ((x10, M11) : (Int32 × Mem)) =>
  if r1 ≤ x10 then
    some (.inr M11)
  else
    (f_X6_byteOf a1 x10).bind fun (r13 : Int32) =>
    if inb ((M11 10 1) + x10) 50 = true then
      some (.inl ((x10 + 1), (up M11 11 (Int32.toNatClampNeg ((M11 10 1) + x10)) r13)))
    else none
def f_X6_write (a1 : Int64) (M : Mem) : Option (Int32 × Mem) :=
  (f_X6_howManyIn a1).bind fun (r1 : Int32) =>
  Option.bind (it (f_X6_write_b8 a1 r1) FU (0, M)) fun (M12 : Mem) =>
  some (((up M12 10 1 ((M12 10 1) + r1)) 10 1), (up M12 10 1 ((M12 10 1) + r1)))
def f_X6_wipe  (M : Mem) : Option (Int32 × Mem) :=
  some ((M 10 1), (up M 10 1 0))
def f_X6_faultPlace_b4 (M : Mem) : (Int32 × Int32) → Option ((Int32 × Int32) ⊕ (Unit ⊕ Int32)) := fun ((x9, x10) : (Int32 × Int32)) =>
  if (M 10 1) ≤ x10 then
    some (.inr (.inl ()))
  else
    if inb x10 50 = true then
      (f_X6_next x9 (M 11 (Int32.toNatClampNeg x10))).bind fun (r12 : Int32) =>
      if r12 = (-1) then
        some (.inr (.inr x10))
      else
        some (.inl (r12, (x10 + 1)))
    else none
def f_X6_faultPlace  (M : Mem) : Option Int32 :=
  Option.bind (it (f_X6_faultPlace_b4 M) FU (0, 0)) fun (zr : (Unit ⊕ Int32)) => match zr with
  | .inr v => some v
  | .inl _ =>
    some (M 10 1)
def f_X6_isLaw_b4 (M : Mem) : (Int32 × Int32) → Option ((Int32 × Int32) ⊕ Int32) := fun ((x13, x14) : (Int32 × Int32)) =>
  if (M 10 1) ≤ x14 then
    some (.inr x13)
  else
    if inb x14 50 = true then
      (f_X6_next x13 (M 11 (Int32.toNatClampNeg x14))).bind fun (r17 : Int32) =>
      some (.inl (r17, (x14 + 1)))
    else none
def f_X6_isLaw  (M : Mem) : Option Bool :=
  Option.bind (it (f_X6_isLaw_b4 M) FU (0, 0)) fun (x15 : Int32) =>
  Option.bind (
    if x15 = 3 then
      some true
    else
      if x15 = 4 then
        some true
      else
        if x15 = 8 then
          some true
        else
          if x15 = 9 then
            some true
          else
            some false
  ) fun (x18 : Bool) =>
  some x18
def f_X6_told_b2 (M : Mem) : (Int64 × Int32) → Option ((Int64 × Int32) ⊕ Int64) := fun ((x9, x10) : (Int64 × Int32)) =>
  if (M 10 1) ≤ x10 then
    some (.inr x9)
  else
    if inb x10 50 = true then
      (f_X11_then x9 (Int32.toInt64 (M 11 (Int32.toNatClampNeg x10)))).bind fun (r13 : Int64) =>
      some (.inl (r13, (x10 + 1)))
    else none
def f_X6_told (a1 : Int64) (M : Mem) : Option Int64 :=
  Option.bind (it (f_X6_told_b2 M) FU (a1, 0)) fun (x11 : Int64) =>
  some x11
def f_X11_stepsBetween (a0 : Int32) (a1 : Int32) : Option Int32 :=
  (f_X11_ringDistance (jrem a0 16) (jrem a1 16)).bind fun (r1 : Int32) =>
  some ((jabs ((a0 / 16) - (a1 / 16))) + r1)
def f_X7_ask_b30 (a1 : Int32) (r1 : Int32) (r2 : Int32) : (Int32 × Mem) → Option ((Int32 × Mem) ⊕ Mem) := fun ((x19, M20) : (Int32 × Mem)) =>
  if 128 ≤ x19 then
    some (.inr M20)
  else
    (f_X11_stepsBetween (((r1 / 16) * 16) + r2) x19).bind fun (r22 : Int32) =>
    (f_X5_numberOf a1 M20).bind fun (r23 : Int32) =>
    Option.bind (
      if r22 = r23 then
        if inb x19 128 = true then
          some (up M20 130 (Int32.toNatClampNeg x19) ((M20 130 (Int32.toNatClampNeg x19)) + 1))
        else none
      else
        some M20
    ) fun (M26 : Mem) =>
    some (.inl ((x19 + 1), M26))
def f_X7_ask (a1 : Int32) (a2 : Int32) (M : Mem) : Option Mem :=
  (f_X5_cellOf a1 M).bind fun (r1 : Int32) =>
  (f_X11_eastOf (jrem r1 16) a2).bind fun (r2 : Int32) =>
  Option.bind (it (f_X7_ask_b30 a1 r1 r2) FU (0, M)) fun (M21 : Mem) =>
  some M21
def f_X7_take (a1 : Int32) (M : Mem) : Option Mem :=
  Option.bind (
    if (M 129 2) = (-1) then
      if inb a1 128 = true then
        some (up (up (up M 129 2 a1) 129 3 ((up M 129 2 a1) 130 (Int32.toNatClampNeg a1))) 129 4 0)
      else none
    else
      if inb a1 128 = true then
        if (M 130 (Int32.toNatClampNeg a1)) ≤ (M 129 3) then
          some M
        else
          some (up (up (up M 129 2 a1) 129 3 ((up M 129 2 a1) 130 (Int32.toNatClampNeg a1))) 129 4 0)
      else none
  ) fun (M5 : Mem) =>
  if inb a1 128 = true then
    Option.bind (
      if (M5 130 (Int32.toNatClampNeg a1)) = (M5 129 3) then
        some (up M5 129 4 ((M5 129 4) + 1))
      else
        some M5
    ) fun (M9 : Mem) =>
    some M9
  else none
def f_X7_seek_j56_0 (a2 : Int32) (a3 : Int32) (x88 : Int32) (M89 : Mem)  : Option (Bool × Mem) :=
  (f_X5_landOf x88 M89).bind fun (r128 : Int32) =>
  Option.bind (
    if r128 = a2 then
      some a3
    else
      some 0
  ) fun (x129 : Int32) =>
  (f_X7_ask x88 x129 M89).bind fun (M130 : Mem) =>
  some (true, M130)
def f_X7_seek_b14 (a1 : Int32) (a2 : Int32) (a3 : Int32) : (Bool × Int32 × Mem) → Option ((Bool × Int32 × Mem) ⊕ (Bool × Mem)) := fun ((x87, x88, M89) : (Bool × Int32 × Mem)) =>
  (f_X5_size M89).bind fun (r92 : Int32) =>
  if r92 ≤ x88 then
    some (.inr (x87, M89))
  else
    (f_X5_isNeedle x88 M89).bind fun (r93 : Bool) =>
    Option.bind (
      if r93 = true then
        if a1 = (-1) then
          f_X7_seek_j56_0 a2 a3 x88 M89
        else
          (f_X5_landOf x88 M89).bind fun (r131 : Int32) =>
          if r131 = a1 then
            f_X7_seek_j56_0 a2 a3 x88 M89
          else
            some (x87, M89)
      else
        some (x87, M89)
    ) fun ((x118, M119) : (Bool × Mem)) =>
    some (.inl (x118, (x88 + 1), M119))
def f_X7_seek_b107 (x90 : Bool) : (Int32 × Mem) → Option ((Int32 × Mem) ⊕ Mem) := fun ((x138, M139) : (Int32 × Mem)) =>
  if x90 = true then
    if 128 ≤ x138 then
      some (.inr M139)
    else
      (f_X7_take x138 M139).bind fun (M141 : Mem) =>
      some (.inl ((x138 + 1), M141))
  else
    some (.inr M139)
def f_X7_seek (a1 : Int32) (a2 : Int32) (a3 : Int32) (M : Mem) : Option Mem :=
  Option.bind (it (f_X7_seek_b14 a1 a2 a3) FU (false, 0, (fil M 130 128 0))) fun ((x90, M91) : (Bool × Mem)) =>
  Option.bind (it (f_X7_seek_b107 x90) FU (0, (up (up (up M91 129 2 (-1)) 129 3 0) 129 4 0))) fun (M140 : Mem) =>
  some M140
def f_X8_ask_b35 (P1 : Nat) (r1 : Int32) (r2 : Int32) : (Int32 × Int32 × Mem) → Option ((Int32 × Int32 × Mem) ⊕ (Int32 × Mem)) := fun ((x78, x79, M80) : (Int32 × Int32 × Mem)) =>
  if 6 ≤ x79 then
    some (.inr (x78, M80))
  else
    (f_X2_apart x78 x79 M80).bind fun ((r83, M84) : (Int32 × Mem)) =>
    (f_X3_choose P1 r83 r1 r2 M84).bind fun (M85 : Mem) =>
    if inb ((x78 * 6) + x79) 36 = true then
      if inb ((x79 * 6) + x78) 36 = true then
        some (.inl (x78, (x79 + 1), (up (up M85 118 (Int32.toNatClampNeg ((x78 * 6) + x79)) (M85 P1 3)) 118 (Int32.toNatClampNeg ((x79 * 6) + x78)) ((up M85 118 (Int32.toNatClampNeg ((x78 * 6) + x79)) (M85 P1 3)) P1 3))))
      else none
    else none
def f_X8_ask_b22 (P1 : Nat) (r1 : Int32) (r2 : Int32) : (Int32 × Mem) → Option ((Int32 × Mem) ⊕ Mem) := fun ((x59, M60) : (Int32 × Mem)) =>
  if 6 ≤ x59 then
    some (.inr M60)
  else
    Option.bind (it (f_X8_ask_b35 P1 r1 r2) FU (x59, (x59 + 1), M60)) fun ((x81, M82) : (Int32 × Mem)) =>
    some (.inl ((x81 + 1), M82))
def f_X8_ask (P1 : Nat) (a2 : Int32) (M : Mem) : Option Mem :=
  (f_X0_ageOf a2 M).bind fun (r1 : Int32) =>
  (f_X0_howManyLands a2 M).bind fun (r2 : Int32) =>
  Option.bind (it (f_X8_ask_b22 P1 r1 r2) FU (0, M)) fun (M61 : Mem) =>
  some M61
def f_X8_nearest_b4 (a1 : Int32) (M : Mem) : (Int32 × Int32) → Option ((Int32 × Int32) ⊕ Int32) := fun ((x27, x28) : (Int32 × Int32)) =>
  if 6 ≤ x28 then
    some (.inr x27)
  else
    Option.bind (
      if ((jshr a1 x28) &&& 1) = 1 then
        if inb x28 6 = true then
          if (M 119 (Int32.toNatClampNeg x28)) = (-1) then
            some false
          else
            some true
        else none
      else
        some false
    ) fun (x32 : Bool) =>
    Option.bind (
      if x32 = true then
        if x27 = (-1) then
          some x28
        else
          if inb x28 6 = true then
            if inb x27 6 = true then
              if (M 119 (Int32.toNatClampNeg x27)) ≤ (M 119 (Int32.toNatClampNeg x28)) then
                some x27
              else
                some x28
            else none
          else none
      else
        some x27
    ) fun (x38 : Int32) =>
    some (.inl (x38, (x28 + 1)))
def f_X8_nearest (a1 : Int32) (M : Mem) : Option Int32 :=
  Option.bind (it (f_X8_nearest_b4 a1 M) FU ((-1), 0)) fun (x29 : Int32) =>
  some x29
def f_X8_reachFrom_b2 (a1 : Int32) : (Int32 × Mem) → Option ((Int32 × Mem) ⊕ Mem) := fun ((x15, M16) : (Int32 × Mem)) =>
  if 6 ≤ x15 then
    some (.inr M16)
  else
    if inb ((a1 * 6) + x15) 36 = true then
      Option.bind (
        if x15 = a1 then
          some M16
        else
          if (M16 118 (Int32.toNatClampNeg ((a1 * 6) + x15))) = (-1) then
            some M16
          else
            if inb x15 6 = true then
              if (M16 119 (Int32.toNatClampNeg x15)) = (-1) then
                some (up M16 119 (Int32.toNatClampNeg x15) (M16 118 (Int32.toNatClampNeg ((a1 * 6) + x15))))
              else
                if (M16 119 (Int32.toNatClampNeg x15)) ≤ (M16 118 (Int32.toNatClampNeg ((a1 * 6) + x15))) then
                  some M16
                else
                  some (up M16 119 (Int32.toNatClampNeg x15) (M16 118 (Int32.toNatClampNeg ((a1 * 6) + x15))))
            else none
      ) fun (M21 : Mem) =>
      some (.inl ((x15 + 1), M21))
    else none
def f_X8_reachFrom (a1 : Int32) (M : Mem) : Option Mem :=
  Option.bind (it (f_X8_reachFrom_b2 a1) FU (0, M)) fun (M17 : Mem) =>
  some M17
def f_X8_priceOfTree_b24 (a1 : Int32) : (Int32 × Int32 × Int32 × Int32 × Mem) → Option ((Int32 × Int32 × Int32 × Int32 × Mem) ⊕ ((Int32 × Mem) ⊕ (Int32 × Mem))) := fun ((x27, x28, x29, x30, M31) : (Int32 × Int32 × Int32 × Int32 × Mem)) =>
  if x30 ≤ 1 then
    some (.inr (.inl (x28, M31)))
  else
    (f_X8_reachFrom x29 M31).bind fun (M34 : Mem) =>
    (f_X8_nearest (a1 &&& ((x27 ||| (jshl 1 x29)) ^^^ (-1))) M34).bind fun (r35 : Int32) =>
    if r35 = (-1) then
      some (.inr (.inr ((-1), M34)))
    else
      if inb r35 6 = true then
        some (.inl ((x27 ||| (jshl 1 x29)), (x28 + (M34 119 (Int32.toNatClampNeg r35))), r35, (x30 + (-1)), M34))
      else none
def f_X8_priceOfTree (a1 : Int32) (M : Mem) : Option (Int32 × Mem) :=
  (f_J6_numberOfTrailingZeros_0f7a4 a1).bind fun (r1 : Int32) =>
  (f_J6_bitCount_0f7a4 a1).bind fun (r2 : Int32) =>
  Option.bind (it (f_X8_priceOfTree_b24 a1) FU (0, 0, r1, r2, (fil M 119 6 (-1)))) fun (zr : ((Int32 × Mem) ⊕ (Int32 × Mem))) => match zr with
  | .inr v => some v
  | .inl (x32, M33) =>
    some (x32, M33)
def f_X8_take_j54_0 (a1 : Int32) (a2 : Int32) (M : Mem)  : Option Mem :=
  some (up (up M 117 4 a2) 117 5 a1)
def f_X8_take (a1 : Int32) (a2 : Int32) (M : Mem) : Option Mem :=
  if a2 = (-1) then
    some M
  else
    Option.bind (
      if a2 = (M 117 4) then
        (f_J6_bitCount_0f7a4 a1).bind fun (r6 : Int32) =>
        (f_J6_bitCount_0f7a4 (M 117 5)).bind fun (r7 : Int32) =>
        if r7 ≤ r6 then
          some false
        else
          some true
      else
        some false
    ) fun (x5 : Bool) =>
    Option.bind (
      if (M 117 4) = (-1) then
        some (up (up M 117 4 a2) 117 5 a1)
      else
        if a2 < (M 117 4) then
          f_X8_take_j54_0 a1 a2 M
        else
          if x5 = true then
            f_X8_take_j54_0 a1 a2 M
          else
            some M
    ) fun (M8 : Mem) =>
    some M8
def f_X8_solve_b28 (r2 : Int32) : (Int32 × Mem) → Option ((Int32 × Mem) ⊕ Mem) := fun ((x27, M28) : (Int32 × Mem)) =>
  if 64 ≤ x27 then
    some (.inr M28)
  else
    Option.bind (
      if (x27 &&& r2) = 0 then
        (f_X8_priceOfTree (x27 ||| r2) M28).bind fun ((r37, M38) : (Int32 × Mem)) =>
        (f_X8_take x27 r37 M38).bind fun (M39 : Mem) =>
        some M39
      else
        some M28
    ) fun (M36 : Mem) =>
    some (.inl ((x27 + 1), M36))
def f_X8_solve (P1 : Nat) (a2 : Int32) (M : Mem) : Option (Int32 × Mem) :=
  (f_X8_ask P1 a2 M).bind fun (M1 : Mem) =>
  (f_X0_landsOf a2 M1).bind fun (r2 : Int32) =>
  Option.bind (it (f_X8_solve_b28 r2) FU (0, (up (up M1 117 4 (-1)) 117 5 (-1)))) fun (M29 : Mem) =>
  some ((M29 117 4), M29)
def f_X8_differenceOf (P1 : Nat) (P2 : Nat) (a3 : Int32) (M : Mem) : Option (Int32 × Mem) :=
  (f_X8_solve P1 a3 M).bind fun ((r1, M2) : (Int32 × Mem)) =>
  (f_X8_solve P2 a3 M2).bind fun ((r3, M4) : (Int32 × Mem)) =>
  Option.bind (
    if r1 = (-1) then
      some 999
    else
      some r1
  ) fun (x5 : Int32) =>
  Option.bind (
    if r3 = (-1) then
      some 999
    else
      some r3
  ) fun (x6 : Int32) =>
  some ((jabs (x5 - x6)), M4)
def f_X8_told_b3 (P3 : Nat) (P4 : Nat) : (Int64 × Int32 × Mem) → Option ((Int64 × Int32 × Mem) ⊕ (Int64 × Mem)) := fun ((x29, x30, M31) : (Int64 × Int32 × Mem)) =>
  (f_X0_size M31).bind fun (r34 : Int32) =>
  if r34 ≤ x30 then
    some (.inr (x29, M31))
  else
    (f_X0_landsOf x30 M31).bind fun (r35 : Int32) =>
    (f_X11_then x29 (Int32.toInt64 r35)).bind fun (r36 : Int64) =>
    (f_X0_ageOf x30 M31).bind fun (r37 : Int32) =>
    (f_X11_then r36 (Int32.toInt64 r37)).bind fun (r38 : Int64) =>
    (f_X8_solve P3 x30 M31).bind fun ((r39, M40) : (Int32 × Mem)) =>
    (f_X11_then r38 (Int32.toInt64 r39)).bind fun (r41 : Int64) =>
    (f_X8_solve P4 x30 M40).bind fun ((r42, M43) : (Int32 × Mem)) =>
    (f_X11_then r41 (Int32.toInt64 r42)).bind fun (r44 : Int64) =>
    some (.inl (r44, (x30 + 1), M43))
def f_X8_told (a1 : Int64) (P3 : Nat) (P4 : Nat) (M : Mem) : Option (Int64 × Mem) :=
  Option.bind (it (f_X8_told_b3 P3 P4) FU (a1, 0, M)) fun ((x32, M33) : (Int64 × Mem)) =>
  some (x32, M33)
def f_X9_size  (M : Mem) : Option Int32 :=
  some (M 120 6)
def f_X9_isFull  (M : Mem) : Option Bool :=
  Option.bind (
    if (M 120 6) < 12 then
      some false
    else
      some true
  ) fun (x1 : Bool) =>
  some x1
def f_X9_changeSpeed (a1 : Int32) (M : Mem) : Option (Int32 × Mem) :=
  some ((M 120 7), (up M 120 7 a1))
def f_X9_add (a1 : Int32) (a2 : Int32) (a3 : Int32) (a4 : Bool) (a5 : Int32) (M : Mem) : Option (Int32 × Mem) :=
  if inb (M 120 6) 12 = true then
    if inb ((up M 121 (Int32.toNatClampNeg (M 120 6)) a1) 120 6) 12 = true then
      if inb ((up (up M 121 (Int32.toNatClampNeg (M 120 6)) a1) 122 (Int32.toNatClampNeg ((up M 121 (Int32.toNatClampNeg (M 120 6)) a1) 120 6)) a2) 120 6) 12 = true then
        if inb ((up (up (up M 121 (Int32.toNatClampNeg (M 120 6)) a1) 122 (Int32.toNatClampNeg ((up M 121 (Int32.toNatClampNeg (M 120 6)) a1) 120 6)) a2) 123 (Int32.toNatClampNeg ((up (up M 121 (Int32.toNatClampNeg (M 120 6)) a1) 122 (Int32.toNatClampNeg ((up M 121 (Int32.toNatClampNeg (M 120 6)) a1) 120 6)) a2) 120 6)) a3) 120 6) 12 = true then
          if inb ((up (up (up (up M 121 (Int32.toNatClampNeg (M 120 6)) a1) 122 (Int32.toNatClampNeg ((up M 121 (Int32.toNatClampNeg (M 120 6)) a1) 120 6)) a2) 123 (Int32.toNatClampNeg ((up (up M 121 (Int32.toNatClampNeg (M 120 6)) a1) 122 (Int32.toNatClampNeg ((up M 121 (Int32.toNatClampNeg (M 120 6)) a1) 120 6)) a2) 120 6)) a3) 124 (Int32.toNatClampNeg ((up (up (up M 121 (Int32.toNatClampNeg (M 120 6)) a1) 122 (Int32.toNatClampNeg ((up M 121 (Int32.toNatClampNeg (M 120 6)) a1) 120 6)) a2) 123 (Int32.toNatClampNeg ((up (up M 121 (Int32.toNatClampNeg (M 120 6)) a1) 122 (Int32.toNatClampNeg ((up M 121 (Int32.toNatClampNeg (M 120 6)) a1) 120 6)) a2) 120 6)) a3) 120 6)) (bI a4)) 120 6) 12 = true then
            some ((((up (up (up (up (up (up M 121 (Int32.toNatClampNeg (M 120 6)) a1) 122 (Int32.toNatClampNeg ((up M 121 (Int32.toNatClampNeg (M 120 6)) a1) 120 6)) a2) 123 (Int32.toNatClampNeg ((up (up M 121 (Int32.toNatClampNeg (M 120 6)) a1) 122 (Int32.toNatClampNeg ((up M 121 (Int32.toNatClampNeg (M 120 6)) a1) 120 6)) a2) 120 6)) a3) 124 (Int32.toNatClampNeg ((up (up (up M 121 (Int32.toNatClampNeg (M 120 6)) a1) 122 (Int32.toNatClampNeg ((up M 121 (Int32.toNatClampNeg (M 120 6)) a1) 120 6)) a2) 123 (Int32.toNatClampNeg ((up (up M 121 (Int32.toNatClampNeg (M 120 6)) a1) 122 (Int32.toNatClampNeg ((up M 121 (Int32.toNatClampNeg (M 120 6)) a1) 120 6)) a2) 120 6)) a3) 120 6)) (bI a4)) 125 (Int32.toNatClampNeg ((up (up (up (up M 121 (Int32.toNatClampNeg (M 120 6)) a1) 122 (Int32.toNatClampNeg ((up M 121 (Int32.toNatClampNeg (M 120 6)) a1) 120 6)) a2) 123 (Int32.toNatClampNeg ((up (up M 121 (Int32.toNatClampNeg (M 120 6)) a1) 122 (Int32.toNatClampNeg ((up M 121 (Int32.toNatClampNeg (M 120 6)) a1) 120 6)) a2) 120 6)) a3) 124 (Int32.toNatClampNeg ((up (up (up M 121 (Int32.toNatClampNeg (M 120 6)) a1) 122 (Int32.toNatClampNeg ((up M 121 (Int32.toNatClampNeg (M 120 6)) a1) 120 6)) a2) 123 (Int32.toNatClampNeg ((up (up M 121 (Int32.toNatClampNeg (M 120 6)) a1) 122 (Int32.toNatClampNeg ((up M 121 (Int32.toNatClampNeg (M 120 6)) a1) 120 6)) a2) 120 6)) a3) 120 6)) (bI a4)) 120 6)) a5) 120 6 (((up (up (up (up (up M 121 (Int32.toNatClampNeg (M 120 6)) a1) 122 (Int32.toNatClampNeg ((up M 121 (Int32.toNatClampNeg (M 120 6)) a1) 120 6)) a2) 123 (Int32.toNatClampNeg ((up (up M 121 (Int32.toNatClampNeg (M 120 6)) a1) 122 (Int32.toNatClampNeg ((up M 121 (Int32.toNatClampNeg (M 120 6)) a1) 120 6)) a2) 120 6)) a3) 124 (Int32.toNatClampNeg ((up (up (up M 121 (Int32.toNatClampNeg (M 120 6)) a1) 122 (Int32.toNatClampNeg ((up M 121 (Int32.toNatClampNeg (M 120 6)) a1) 120 6)) a2) 123 (Int32.toNatClampNeg ((up (up M 121 (Int32.toNatClampNeg (M 120 6)) a1) 122 (Int32.toNatClampNeg ((up M 121 (Int32.toNatClampNeg (M 120 6)) a1) 120 6)) a2) 120 6)) a3) 120 6)) (bI a4)) 125 (Int32.toNatClampNeg ((up (up (up (up M 121 (Int32.toNatClampNeg (M 120 6)) a1) 122 (Int32.toNatClampNeg ((up M 121 (Int32.toNatClampNeg (M 120 6)) a1) 120 6)) a2) 123 (Int32.toNatClampNeg ((up (up M 121 (Int32.toNatClampNeg (M 120 6)) a1) 122 (Int32.toNatClampNeg ((up M 121 (Int32.toNatClampNeg (M 120 6)) a1) 120 6)) a2) 120 6)) a3) 124 (Int32.toNatClampNeg ((up (up (up M 121 (Int32.toNatClampNeg (M 120 6)) a1) 122 (Int32.toNatClampNeg ((up M 121 (Int32.toNatClampNeg (M 120 6)) a1) 120 6)) a2) 123 (Int32.toNatClampNeg ((up (up M 121 (Int32.toNatClampNeg (M 120 6)) a1) 122 (Int32.toNatClampNeg ((up M 121 (Int32.toNatClampNeg (M 120 6)) a1) 120 6)) a2) 120 6)) a3) 120 6)) (bI a4)) 120 6)) a5) 120 6) + 1)) 120 6) - 1), (up (up (up (up (up (up M 121 (Int32.toNatClampNeg (M 120 6)) a1) 122 (Int32.toNatClampNeg ((up M 121 (Int32.toNatClampNeg (M 120 6)) a1) 120 6)) a2) 123 (Int32.toNatClampNeg ((up (up M 121 (Int32.toNatClampNeg (M 120 6)) a1) 122 (Int32.toNatClampNeg ((up M 121 (Int32.toNatClampNeg (M 120 6)) a1) 120 6)) a2) 120 6)) a3) 124 (Int32.toNatClampNeg ((up (up (up M 121 (Int32.toNatClampNeg (M 120 6)) a1) 122 (Int32.toNatClampNeg ((up M 121 (Int32.toNatClampNeg (M 120 6)) a1) 120 6)) a2) 123 (Int32.toNatClampNeg ((up (up M 121 (Int32.toNatClampNeg (M 120 6)) a1) 122 (Int32.toNatClampNeg ((up M 121 (Int32.toNatClampNeg (M 120 6)) a1) 120 6)) a2) 120 6)) a3) 120 6)) (bI a4)) 125 (Int32.toNatClampNeg ((up (up (up (up M 121 (Int32.toNatClampNeg (M 120 6)) a1) 122 (Int32.toNatClampNeg ((up M 121 (Int32.toNatClampNeg (M 120 6)) a1) 120 6)) a2) 123 (Int32.toNatClampNeg ((up (up M 121 (Int32.toNatClampNeg (M 120 6)) a1) 122 (Int32.toNatClampNeg ((up M 121 (Int32.toNatClampNeg (M 120 6)) a1) 120 6)) a2) 120 6)) a3) 124 (Int32.toNatClampNeg ((up (up (up M 121 (Int32.toNatClampNeg (M 120 6)) a1) 122 (Int32.toNatClampNeg ((up M 121 (Int32.toNatClampNeg (M 120 6)) a1) 120 6)) a2) 123 (Int32.toNatClampNeg ((up (up M 121 (Int32.toNatClampNeg (M 120 6)) a1) 122 (Int32.toNatClampNeg ((up M 121 (Int32.toNatClampNeg (M 120 6)) a1) 120 6)) a2) 120 6)) a3) 120 6)) (bI a4)) 120 6)) a5) 120 6 (((up (up (up (up (up M 121 (Int32.toNatClampNeg (M 120 6)) a1) 122 (Int32.toNatClampNeg ((up M 121 (Int32.toNatClampNeg (M 120 6)) a1) 120 6)) a2) 123 (Int32.toNatClampNeg ((up (up M 121 (Int32.toNatClampNeg (M 120 6)) a1) 122 (Int32.toNatClampNeg ((up M 121 (Int32.toNatClampNeg (M 120 6)) a1) 120 6)) a2) 120 6)) a3) 124 (Int32.toNatClampNeg ((up (up (up M 121 (Int32.toNatClampNeg (M 120 6)) a1) 122 (Int32.toNatClampNeg ((up M 121 (Int32.toNatClampNeg (M 120 6)) a1) 120 6)) a2) 123 (Int32.toNatClampNeg ((up (up M 121 (Int32.toNatClampNeg (M 120 6)) a1) 122 (Int32.toNatClampNeg ((up M 121 (Int32.toNatClampNeg (M 120 6)) a1) 120 6)) a2) 120 6)) a3) 120 6)) (bI a4)) 125 (Int32.toNatClampNeg ((up (up (up (up M 121 (Int32.toNatClampNeg (M 120 6)) a1) 122 (Int32.toNatClampNeg ((up M 121 (Int32.toNatClampNeg (M 120 6)) a1) 120 6)) a2) 123 (Int32.toNatClampNeg ((up (up M 121 (Int32.toNatClampNeg (M 120 6)) a1) 122 (Int32.toNatClampNeg ((up M 121 (Int32.toNatClampNeg (M 120 6)) a1) 120 6)) a2) 120 6)) a3) 124 (Int32.toNatClampNeg ((up (up (up M 121 (Int32.toNatClampNeg (M 120 6)) a1) 122 (Int32.toNatClampNeg ((up M 121 (Int32.toNatClampNeg (M 120 6)) a1) 120 6)) a2) 123 (Int32.toNatClampNeg ((up (up M 121 (Int32.toNatClampNeg (M 120 6)) a1) 122 (Int32.toNatClampNeg ((up M 121 (Int32.toNatClampNeg (M 120 6)) a1) 120 6)) a2) 120 6)) a3) 120 6)) (bI a4)) 120 6)) a5) 120 6) + 1)))
          else none
        else none
      else none
    else none
  else none
def f_X9_owe_b2 (a1 : Int32) : (Int32 × Mem) → Option ((Int32 × Mem) ⊕ Mem) := fun ((x25, M26) : (Int32 × Mem)) =>
  if 16 ≤ x25 then
    some (.inr M26)
  else
    if inb a1 12 = true then
      (f_X1_look (M26 122 (Int32.toNatClampNeg a1)) (M26 121 (Int32.toNatClampNeg a1)) 0 x25 M26).bind fun (M29 : Mem) =>
      Option.bind (
        if (M29 9 1) = 0 then
          Option.bind (
            if (M29 9 2) < 1 then
              some false
            else
              some true
          ) fun (x33 : Bool) =>
          if (bI x33) = (M29 124 (Int32.toNatClampNeg a1)) then
            some true
          else
            some false
        else
          some false
      ) fun (x32 : Bool) =>
      Option.bind (
        if x32 = true then
          some M29
        else
          if inb (((M29 123 (Int32.toNatClampNeg a1)) * 16) + x25) 160 = true then
            some (up M29 126 (Int32.toNatClampNeg (((M29 123 (Int32.toNatClampNeg a1)) * 16) + x25)) ((M29 126 (Int32.toNatClampNeg (((M29 123 (Int32.toNatClampNeg a1)) * 16) + x25))) + (M29 125 (Int32.toNatClampNeg a1))))
          else none
      ) fun (M36 : Mem) =>
      some (.inl ((x25 + 1), M36))
    else none
def f_X9_owe (a1 : Int32) (M : Mem) : Option Mem :=
  Option.bind (it (f_X9_owe_b2 a1) FU (0, M)) fun (M27 : Mem) =>
  some M27
def f_X9_oweAll_b10 (a1 : Int32) : (Int32 × Mem) → Option ((Int32 × Mem) ⊕ Mem) := fun ((x15, M16) : (Int32 × Mem)) =>
  if (M16 120 6) ≤ x15 then
    some (.inr M16)
  else
    if inb x15 12 = true then
      Option.bind (
        if (M16 121 (Int32.toNatClampNeg x15)) = a1 then
          (f_X9_owe x15 M16).bind fun (M22 : Mem) =>
          some M22
        else
          some M16
      ) fun (M21 : Mem) =>
      some (.inl ((x15 + 1), M21))
    else none
def f_X9_oweAll (a1 : Int32) (M : Mem) : Option Mem :=
  Option.bind (it (f_X9_oweAll_b10 a1) FU (0, (fil M 126 160 0))) fun (M17 : Mem) =>
  some M17
def f_X9_priceVia (a1 : Int32) (a2 : Int32) (a3 : Int32) (M : Mem) : Option Int32 :=
  (f_X11_ringDistance a2 a3).bind fun (r1 : Int32) =>
  if inb (((a1 + 1) * 16) + a3) 160 = true then
    some (r1 + (M 127 (Int32.toNatClampNeg (((a1 + 1) * 16) + a3))))
  else none
def f_X9_bestNext_b14 (a1 : Int32) (a2 : Int32) (M : Mem) : (Int32 × Int32 × Int32) → Option ((Int32 × Int32 × Int32) ⊕ Int32) := fun ((x22, x23, x24) : (Int32 × Int32 × Int32)) =>
  if 16 ≤ x24 then
    some (.inr x22)
  else
    (f_X9_priceVia a1 a2 x24 M).bind fun (r26 : Int32) =>
    Option.bind (
      if r26 < x23 then
        some true
      else
        if r26 = x23 then
          if x22 ≤ x24 then
            some false
          else
            some true
        else
          some false
    ) fun (x27 : Bool) =>
    Option.bind (
      if x27 = true then
        (f_X11_ringDistance a2 x24).bind fun (r32 : Int32) =>
        if (M 120 7) < r32 then
          some (x22, x23)
        else
          some (x24, r26)
      else
        some (x22, x23)
    ) fun ((x30, x31) : (Int32 × Int32)) =>
    some (.inl (x30, x31, (x24 + 1)))
def f_X9_bestNext (a1 : Int32) (a2 : Int32) (M : Mem) : Option Int32 :=
  (f_X9_priceVia a1 a2 a2 M).bind fun (r1 : Int32) =>
  Option.bind (it (f_X9_bestNext_b14 a1 a2 M) FU (a2, r1, 0)) fun (x25 : Int32) =>
  some x25
def f_X9_tell_b14  : (Int32 × Int32 × Mem) → Option ((Int32 × Int32 × Mem) ⊕ (Int32 × Mem)) := fun ((x64, x65, M66) : (Int32 × Int32 × Mem)) =>
  if 16 ≤ x65 then
    some (.inr (x64, M66))
  else
    Option.bind (
      if x64 = 9 then
        some 0
      else
        (f_X9_bestNext x64 x65 M66).bind fun (r74 : Int32) =>
        (f_X9_priceVia x64 x65 r74 M66).bind fun (r75 : Int32) =>
        some r75
    ) fun (x73 : Int32) =>
    if inb ((x64 * 16) + x65) 160 = true then
      some (.inl (x64, (x65 + 1), (up M66 127 (Int32.toNatClampNeg ((x64 * 16) + x65)) ((M66 126 (Int32.toNatClampNeg ((x64 * 16) + x65))) + x73))))
    else none
def f_X9_tell_b8  : (Int32 × Mem) → Option ((Int32 × Mem) ⊕ Mem) := fun ((x39, M40) : (Int32 × Mem)) =>
  if x39 < 0 then
    some (.inr M40)
  else
    Option.bind (it (f_X9_tell_b14) FU (x39, 0, M40)) fun ((x67, M68) : (Int32 × Mem)) =>
    some (.inl ((x67 + (-1)), M68))
def f_X9_tell_b90  : (Int32 × Mem) → Option ((Int32 × Mem) ⊕ Mem) := fun ((x87, M88) : (Int32 × Mem)) =>
  if 10 ≤ x87 then
    some (.inr M88)
  else
    if inb (x87 - 1) 10 = true then
      (f_X9_bestNext (x87 - 1) (M88 128 (Int32.toNatClampNeg (x87 - 1))) M88).bind fun (r91 : Int32) =>
      if inb x87 10 = true then
        some (.inl ((x87 + 1), (up M88 128 (Int32.toNatClampNeg x87) r91)))
      else none
    else none
def f_X9_tell (a1 : Int32) (M : Mem) : Option Mem :=
  (f_X9_oweAll a1 M).bind fun (M1 : Mem) =>
  Option.bind (it (f_X9_tell_b8) FU (9, M1)) fun (M41 : Mem) =>
  Option.bind (it (f_X9_tell_b90) FU (1, (up M41 128 (Int32.toNatClampNeg 0) 0))) fun (M89 : Mem) =>
  some M89
def f_X9_leastPrice  (M : Mem) : Option Int32 :=
  some (M 127 (Int32.toNatClampNeg 0))
def f_X9_placeAt (a1 : Int32) (M : Mem) : Option Int32 :=
  if inb a1 10 = true then
    some (M 128 (Int32.toNatClampNeg a1))
  else none
def f_X9_figureOf (a0 : Int64) (a2 : Int32) : Option Int32 :=
  some (Int64.toInt32 ((jlshr a0 (4 * a2)) &&& 15))
def f_X9_priceOf_b26 (a2 : Int64) (M2 : Mem) : (Int32 × Int32) → Option ((Int32 × Int32) ⊕ (Int32 ⊕ (Int32 × Mem))) := fun ((x15, x16) : (Int32 × Int32)) =>
  if 10 ≤ x16 then
    some (.inr (.inl x15))
  else
    (f_X9_figureOf a2 x16).bind fun (r18 : Int32) =>
    (f_X9_figureOf a2 (x16 - 1)).bind fun (r19 : Int32) =>
    (f_X11_ringDistance r19 r18).bind fun (r20 : Int32) =>
    if r20 ≤ (M2 120 7) then
      if inb ((x16 * 16) + r18) 160 = true then
        some (.inl ((x15 + (r20 + (M2 126 (Int32.toNatClampNeg ((x16 * 16) + r18))))), (x16 + 1)))
      else none
    else
      some (.inr (.inr ((-1), M2)))
def f_X9_priceOf (a1 : Int32) (a2 : Int64) (M : Mem) : Option (Int32 × Mem) :=
  (f_X9_figureOf a2 0).bind fun (r1 : Int32) =>
  if r1 = 0 then
    (f_X9_oweAll a1 M).bind fun (M2 : Mem) =>
    Option.bind (it (f_X9_priceOf_b26 a2 M2) FU ((M2 126 (Int32.toNatClampNeg 0)), 1)) fun (zr : (Int32 ⊕ (Int32 × Mem))) => match zr with
    | .inr v => some v
    | .inl x17 =>
      some (x17, M2)
  else
    some ((-1), M)
def f_X9_told_b12 (M : Mem) : (Int64 × Int32) → Option ((Int64 × Int32) ⊕ Int64) := fun ((x20, x21) : (Int64 × Int32)) =>
  if (M 120 6) ≤ x21 then
    some (.inr x20)
  else
    if inb x21 12 = true then
      (f_X11_then x20 (Int32.toInt64 (M 121 (Int32.toNatClampNeg x21)))).bind fun (r24 : Int64) =>
      (f_X11_then r24 (Int32.toInt64 (M 122 (Int32.toNatClampNeg x21)))).bind fun (r25 : Int64) =>
      (f_X11_then r25 (Int32.toInt64 (M 123 (Int32.toNatClampNeg x21)))).bind fun (r26 : Int64) =>
      Option.bind (
        if (M 124 (Int32.toNatClampNeg x21)) = 0 then
          some 0
        else
          some 1
      ) fun (x27 : Int64) =>
      (f_X11_then r26 x27).bind fun (r28 : Int64) =>
      (f_X11_then r28 (Int32.toInt64 (M 125 (Int32.toNatClampNeg x21)))).bind fun (r29 : Int64) =>
      some (.inl (r29, (x21 + 1)))
    else none
def f_X9_told (a1 : Int64) (M : Mem) : Option Int64 :=
  (f_X11_then a1 (Int32.toInt64 (M 120 7))).bind fun (r1 : Int64) =>
  Option.bind (it (f_X9_told_b12 M) FU (r1, 0)) fun (x22 : Int64) =>
  some x22
def f_X10_change (a1 : Int32) (M : Mem) : Option (Int32 × Mem) :=
  some ((M 131 0), (up M 131 0 a1))
def f_X10_sameAbout_b11 (a1 : Int32) (M : Mem) : Int32 → Option (Int32 ⊕ (Unit ⊕ Int32)) := fun (x3 : Int32) =>
  if (jmin a1 (24 - a1)) ≤ x3 then
    some (.inr (.inl ()))
  else
    if ((jshr (M 131 0) ((a1 - 1) - x3)) &&& 1) = ((jshr (M 131 0) (a1 + x3)) &&& 1) then
      some (.inl (x3 + 1))
    else
      some (.inr (.inr x3))
def f_X10_sameAbout (a1 : Int32) (M : Mem) : Option Int32 :=
  Option.bind (it (f_X10_sameAbout_b11 a1 M) FU 0) fun (zr : (Unit ⊕ Int32)) => match zr with
  | .inr v => some v
  | .inl _ =>
    some (jmin a1 (24 - a1))
def f_X10_bestPlace_b10 (M : Mem) : (Int32 × Int32 × Int32) → Option ((Int32 × Int32 × Int32) ⊕ Int32) := fun ((x23, x24, x25) : (Int32 × Int32 × Int32)) =>
  if 24 ≤ x25 then
    some (.inr x23)
  else
    (f_X10_sameAbout x25 M).bind fun (r27 : Int32) =>
    Option.bind (
      if (jabs (x23 - 12)) ≤ (jabs (x25 - 12)) then
        some false
      else
        some true
    ) fun (x28 : Bool) =>
    Option.bind (
      if x24 < r27 then
        some (x25, r27)
      else
        if r27 = x24 then
          if x28 = true then
            some (x25, r27)
          else
            some (x23, x24)
        else
          some (x23, x24)
    ) fun ((x29, x30) : (Int32 × Int32)) =>
    some (.inl (x29, x30, (x25 + 1)))
def f_X10_bestPlace  (M : Mem) : Option Int32 :=
  (f_X10_sameAbout 1 M).bind fun (r1 : Int32) =>
  Option.bind (it (f_X10_bestPlace_b10 M) FU (1, r1, 2)) fun (x26 : Int32) =>
  some x26
def f_X10_told (a1 : Int64) (M : Mem) : Option Int64 :=
  (f_X11_then a1 (Int32.toInt64 (M 131 0))).bind fun (r1 : Int64) =>
  (f_X10_bestPlace M).bind fun (r2 : Int32) =>
  (f_X11_then r1 (Int32.toInt64 r2)).bind fun (r3 : Int64) =>
  some r3
def f_X11_isLand (a0 : Int32) : Option Bool :=
  (f_X11_within a0 6).bind fun (r1 : Bool) =>
  some r1
def f_X11_cell_j12_0 (a1 : Int32) (a2 : Int32) (M : Mem)  : Option (Int32 × Mem) :=
  (f_X11_within a2 128).bind fun (r11 : Bool) =>
  if r11 = true then
    (f_X5_anyOn a2 M).bind fun (r12 : Bool) =>
    if r12 = true then
      some ((-103), M)
    else
      (f_X2_ownerOf a2 M).bind fun (r13 : Int32) =>
      (f_X2_give a2 a1 M).bind fun (M14 : Mem) =>
      some (r13, M14)
  else
    some ((-101), M)
def f_X11_cell (a1 : Int32) (a2 : Int32) (M : Mem) : Option (Int32 × Mem) :=
  if a1 = (-1) then
    f_X11_cell_j12_0 a1 a2 M
  else
    (f_X11_isLand a1).bind fun (r15 : Bool) =>
    if r15 = true then
      f_X11_cell_j12_0 a1 a2 M
    else
      some ((-101), M)
def f_X11_run (a1 : Int32) (a2 : Int32) (a3 : Int32) (a4 : Int32) (M : Mem) : Option (Int32 × Mem) :=
  (f_X11_isLand a1).bind fun (r1 : Bool) =>
  if r1 = true then
    (f_X11_within a2 8).bind fun (r2 : Bool) =>
    if r2 = true then
      (f_X11_within a3 16).bind fun (r3 : Bool) =>
      if r3 = true then
        if a4 < 1 then
          some ((-102), M)
        else
          if a4 ≤ 16 then
            (f_X2_giveRun a1 a2 a3 a4 M).bind fun ((r4, M5) : (Int32 × Mem)) =>
            some (r4, M5)
          else
            some ((-102), M)
      else
        some ((-101), M)
    else
      some ((-101), M)
  else
    some ((-101), M)
def f_X11_land (a1 : Int32) (a2 : Int32) (M : Mem) : Option Int32 :=
  (f_X11_isLand a1).bind fun (r1 : Bool) =>
  if r1 = true then
    if a2 = 0 then
      (f_X2_sizeOf a1 M).bind fun (r2 : Int32) =>
      some r2
    else
      if a2 = 1 then
        (f_X2_leastCellOf a1 M).bind fun (r3 : Int32) =>
        some r3
      else
        if a2 = 2 then
          (f_X5_howManyOn a1 M).bind fun (r4 : Int32) =>
          some r4
        else
          some (-102)
  else
    some (-101)
def f_X11_mark (a1 : Int32) (a2 : Int32) (a3 : Int32) (M : Mem) : Option (Int32 × Mem) :=
  (f_X11_within a2 128).bind fun (r1 : Bool) =>
  if r1 = true then
    (f_X2_ownerOf a2 M).bind fun (r2 : Int32) =>
    if r2 = (-1) then
      some ((-101), M)
    else
      (f_X11_within a1 6).bind fun (r3 : Bool) =>
      if r3 = true then
        (f_X11_within a3 16).bind fun (r4 : Bool) =>
        if r4 = true then
          (f_X5_isFull M).bind fun (r5 : Bool) =>
          Option.bind (
            if r5 = true then
              some ((-104), M)
            else
              (f_X5_add a1 a2 a3 M).bind fun ((r12, M13) : (Int32 × Mem)) =>
              some (r12, M13)
          ) fun ((x10, M11) : (Int32 × Mem)) =>
          some (x10, M11)
        else
          some ((-102), M)
      else
        some ((-102), M)
  else
    some ((-101), M)
def f_X11_as (a1 : Int32) (a2 : Int32) (M : Mem) : Option Int32 :=
  (f_X5_size M).bind fun (r1 : Int32) =>
  (f_X11_within a1 r1).bind fun (r2 : Bool) =>
  if r2 = true then
    (f_X11_within a2 6).bind fun (r3 : Bool) =>
    if r3 = true then
      (f_X5_isOf a1 a2 M).bind fun (r4 : Bool) =>
      Option.bind (
        if r4 = true then
          some a1
        else
          some (-1)
      ) fun (x5 : Int32) =>
      some x5
    else
      some (-102)
  else
    some (-101)
def f_X11_about (a1 : Int32) (a2 : Int32) (M : Mem) : Option Int32 :=
  (f_X5_size M).bind fun (r1 : Int32) =>
  (f_X11_within a1 r1).bind fun (r2 : Bool) =>
  if r2 = true then
    if a2 = 0 then
      (f_X5_kindOf a1 M).bind fun (r3 : Int32) =>
      some r3
    else
      if a2 = 1 then
        (f_X5_cellOf a1 M).bind fun (r4 : Int32) =>
        some r4
      else
        if a2 = 2 then
          (f_X5_numberOf a1 M).bind fun (r5 : Int32) =>
          some r5
        else
          if a2 = 3 then
            (f_X5_weightOf a1 M).bind fun (r6 : Int32) =>
            some r6
          else
            some (-102)
  else
    some (-101)
def f_X11_goesOn (a1 : Int32) (a2 : Int32) (M : Mem) : Option Int32 :=
  (f_X5_size M).bind fun (r1 : Int32) =>
  (f_X11_within a1 r1).bind fun (r2 : Bool) =>
  if r2 = true then
    (f_X5_size M).bind fun (r3 : Int32) =>
    (f_X11_within a2 r3).bind fun (r4 : Bool) =>
    if r4 = true then
      (f_X5_leadsInto a1 a2 M).bind fun (r5 : Bool) =>
      Option.bind (
        if r5 = true then
          some true
        else
          some false
      ) fun (x6 : Bool) =>
      some (bI x6)
    else
      some (-101)
  else
    some (-101)
def f_X11_drop  (M : Mem) : Option (Int32 × Mem) :=
  (f_X5_size M).bind fun (r1 : Int32) =>
  Option.bind (
    if r1 = 0 then
      some ((-103), M)
    else
      (f_X5_removeLast M).bind fun ((r8, M9) : (Int32 × Mem)) =>
      some (r8, M9)
  ) fun ((x6, M7) : (Int32 × Mem)) =>
  some (x6, M7)
def f_X11_areTwoLands (a0 : Int32) (a1 : Int32) : Option Bool :=
  (f_X11_isLand a0).bind fun (r1 : Bool) =>
  Option.bind (
    if r1 = true then
      (f_X11_isLand a1).bind fun (r5 : Bool) =>
      if r5 = true then
        if a0 = a1 then
          some false
        else
          some true
      else
        some false
    else
      some false
  ) fun (x4 : Bool) =>
  some x4
def f_X11_isPlace (a0 : Int32) (a1 : Int32) : Option Bool :=
  Option.bind (
    if a0 < (-7) then
      some false
    else
      if 7 < a0 then
        some false
      else
        (f_X11_within a1 16).bind fun (r4 : Bool) =>
        if r4 = true then
          some true
        else
          some false
  ) fun (x3 : Bool) =>
  some x3
def f_X11_put (a1 : Int32) (a2 : Int32) (a3 : Int32) (a4 : Int32) (a5 : Int32) (M : Mem) : Option (Int32 × Mem) :=
  (f_X11_areTwoLands a1 a2).bind fun (r1 : Bool) =>
  if r1 = true then
    (f_X11_isPlace a3 a4).bind fun (r2 : Bool) =>
    if r2 = true then
      (f_X11_within a5 6).bind fun (r3 : Bool) =>
      if r3 = true then
        (f_X2_staysInRows a2 a3 M).bind fun (r4 : Bool) =>
        if r4 = true then
          if a5 = 5 then
            (f_X5_goingOn a1 a2 a3 a4 M).bind fun (r9 : Int32) =>
            some (r9, M)
          else
            (f_X1_look a1 a2 a3 a4 M).bind fun (M5 : Mem) =>
            if a5 = 0 then
              some ((M5 9 1), M5)
            else
              if a5 = 1 then
                some ((M5 9 2), M5)
              else
                if a5 = 2 then
                  some ((M5 9 3), M5)
                else
                  if a5 = 3 then
                    (f_X1_price M5).bind fun (r6 : Int32) =>
                    some (r6, M5)
                  else
                    (f_X1_isCounted M5).bind fun (r7 : Bool) =>
                    Option.bind (
                      if r7 = true then
                        some true
                      else
                        some false
                    ) fun (x8 : Bool) =>
                    some ((bI x8), M5)
        else
          Option.bind (
            if a5 = 4 then
              some 0
            else
              some (-1000001)
          ) fun (x10 : Int32) =>
          some (x10, M)
      else
        some ((-1000003), M)
    else
      some ((-1000003), M)
  else
    some ((-1000002), M)
def f_X11_fit (a1 : Int32) (a2 : Int32) (a3 : Int32) (M : Mem) : Option (Int32 × Mem) :=
  (f_X11_areTwoLands a1 a2).bind fun (r1 : Bool) =>
  if r1 = true then
    (f_X11_within a3 3).bind fun (r2 : Bool) =>
    if r2 = true then
      (f_X1_survey a1 a2 0 M).bind fun (M3 : Mem) =>
      if a3 = 2 then
        some ((M3 9 4), M3)
      else
        if (M3 9 4) = 0 then
          some ((-1), M3)
        else
          Option.bind (
            if a3 = 0 then
              some ((M3 9 6) + 7)
            else
              some (M3 9 7)
          ) fun (x4 : Int32) =>
          some (x4, M3)
    else
      some ((-102), M)
  else
    some ((-101), M)
def f_X11_reduced_b6 (a0 : Int32) (a1 : Int32) : Int32 → Option (Int32 ⊕ (Unit ⊕ Int32)) := fun (x3 : Int32) =>
  if x3 ≤ 1 then
    some (.inr (.inl ()))
  else
    if ¬ x3 = 0 then
      if (jrem a0 x3) = 0 then
        if (jrem a1 x3) = 0 then
          some (.inr (.inr (a0 / x3)))
        else
          some (.inl (x3 + (-1)))
      else
        some (.inl (x3 + (-1)))
    else none
def f_X11_reduced (a0 : Int32) (a1 : Int32) : Option Int32 :=
  Option.bind (it (f_X11_reduced_b6 a0 a1) FU (jmin a0 a1)) fun (zr : (Unit ⊕ Int32)) => match zr with
  | .inr v => some v
  | .inl _ =>
    some a0
def f_X11_chance (a1 : Int32) (a2 : Int32) (a3 : Int32) (a4 : Int32) (a5 : Int32) (M : Mem) : Option (Int32 × Mem) :=
  (f_X11_areTwoLands a1 a2).bind fun (r1 : Bool) =>
  if r1 = true then
    (f_X11_isPlace a3 a4).bind fun (r2 : Bool) =>
    if r2 = true then
      (f_X11_within a5 2).bind fun (r3 : Bool) =>
      if r3 = true then
        (f_X2_staysInRows a2 a3 M).bind fun (r4 : Bool) =>
        if r4 = true then
          (f_X1_look a1 a2 a3 a4 M).bind fun (M5 : Mem) =>
          (f_X1_isCounted M5).bind fun (r6 : Bool) =>
          if r6 = true then
            (f_X1_price M5).bind fun (r7 : Int32) =>
            (f_X1_survey a1 a2 r7 M5).bind fun (M8 : Mem) =>
            Option.bind (
              if a5 = 0 then
                (f_X11_reduced (M8 9 5) (M8 9 4)).bind fun (r15 : Int32) =>
                some r15
              else
                (f_X11_reduced (M8 9 4) (M8 9 5)).bind fun (r14 : Int32) =>
                some r14
            ) fun (x13 : Int32) =>
            some (x13, M8)
          else
            some ((-103), M5)
        else
          some ((-103), M)
      else
        some ((-102), M)
    else
      some ((-102), M)
  else
    some ((-101), M)
def f_X11_asGreat (a1 : Int32) (a2 : Int32) (a3 : Int32) (a4 : Int32) (a5 : Int32) (M : Mem) : Option Int32 :=
  (f_X11_isPlace a3 a4).bind fun (r1 : Bool) =>
  if r1 = true then
    (f_X2_staysInRows a2 a3 M).bind fun (r2 : Bool) =>
    if r2 = true then
      (f_X5_goingOn a1 a2 a3 a4 M).bind fun (r3 : Int32) =>
      Option.bind (
        if r3 < a5 then
          some false
        else
          some true
      ) fun (x4 : Bool) =>
      some (bI x4)
    else
      some 0
  else
    some 0
def f_X11_beside (a1 : Int32) (a2 : Int32) (a3 : Int32) (a4 : Int32) (M : Mem) : Option Int32 :=
  (f_X11_areTwoLands a1 a2).bind fun (r1 : Bool) =>
  if r1 = true then
    (f_X11_isPlace a3 a4).bind fun (r2 : Bool) =>
    if r2 = true then
      (f_X2_staysInRows a2 a3 M).bind fun (r3 : Bool) =>
      if r3 = true then
        (f_X5_goingOn a1 a2 a3 a4 M).bind fun (r4 : Int32) =>
        (f_X11_asGreat a1 a2 (a3 - 1) a4 r4 M).bind fun (r5 : Int32) =>
        (f_X11_asGreat a1 a2 (a3 + 1) a4 r4 M).bind fun (r6 : Int32) =>
        (f_X11_eastOf a4 15).bind fun (r7 : Int32) =>
        (f_X11_asGreat a1 a2 a3 r7 r4 M).bind fun (r8 : Int32) =>
        (f_X11_eastOf a4 1).bind fun (r9 : Int32) =>
        (f_X11_asGreat a1 a2 a3 r9 r4 M).bind fun (r10 : Int32) =>
        some (((r5 + r6) + r8) + r10)
      else
        some (-103)
    else
      some (-102)
  else
    some (-101)
def f_X11_letters (a1 : Int64) (M : Mem) : Option (Int32 × Mem) :=
  (f_X6_isTold a1).bind fun (r1 : Bool) =>
  if r1 = true then
    (f_X6_hasRoomFor a1 M).bind fun (r2 : Bool) =>
    Option.bind (
      if r2 = true then
        (f_X6_write a1 M).bind fun ((r9, M10) : (Int32 × Mem)) =>
        some (r9, M10)
      else
        some ((-104), M)
    ) fun ((x7, M8) : (Int32 × Mem)) =>
    some (x7, M8)
  else
    some ((-102), M)
def f_X11_blank  (M : Mem) : Option (Int32 × Mem) :=
  (f_X6_wipe M).bind fun ((r1, M2) : (Int32 × Mem)) =>
  some (r1, M2)
def f_X11_fault  (M : Mem) : Option Int32 :=
  (f_X6_faultPlace M).bind fun (r1 : Int32) =>
  some r1
def f_X11_law (a1 : Int32) (M : Mem) : Option (Int32 × Mem) :=
  (f_X11_within a1 2).bind fun (r1 : Bool) =>
  if r1 = true then
    (f_X6_isLaw M).bind fun (r2 : Bool) =>
    if r2 = true then
      (f_X3_isFull (hq a1) M).bind fun (r3 : Bool) =>
      if r3 = true then
        some ((-104), M)
      else
        (f_X3_read (hq a1) M).bind fun ((r4, M5) : (Int32 × Mem)) =>
        (f_X6_wipe M5).bind fun ((r6, M7) : (Int32 × Mem)) =>
        some (r4, M7)
    else
      some ((-103), M)
  else
    some ((-101), M)
def f_X11_strike (a1 : Int32) (M : Mem) : Option (Int32 × Mem) :=
  (f_X11_within a1 2).bind fun (r1 : Bool) =>
  if r1 = true then
    (f_X3_size (hq a1) M).bind fun (r2 : Int32) =>
    Option.bind (
      if r2 = 0 then
        some ((-103), M)
      else
        (f_X3_removeLast (hq a1) M).bind fun ((r9, M10) : (Int32 × Mem)) =>
        some (r9, M10)
    ) fun ((x7, M8) : (Int32 × Mem)) =>
    some (x7, M8)
  else
    some ((-101), M)
def f_X11_distance (a1 : Int32) (a2 : Int32) (M : Mem) : Option (Int32 × Mem) :=
  (f_X11_areTwoLands a1 a2).bind fun (r1 : Bool) =>
  Option.bind (
    if r1 = true then
      (f_X2_apart a1 a2 M).bind fun ((r8, M9) : (Int32 × Mem)) =>
      some (r8, M9)
    else
      some ((-101), M)
  ) fun ((x6, M7) : (Int32 × Mem)) =>
  some (x6, M7)
def f_X11_beast (a1 : Int32) (a2 : Int32) (M : Mem) : Option (Int32 × Mem) :=
  if a1 < 1 then
    some ((-102), M)
  else
    if 63 < a1 then
      some ((-102), M)
    else
      (f_X11_within a2 10).bind fun (r1 : Bool) =>
      if r1 = true then
        (f_X0_isFull M).bind fun (r2 : Bool) =>
        Option.bind (
          if r2 = true then
            some ((-104), M)
          else
            (f_X0_add a1 a2 M).bind fun ((r9, M10) : (Int32 × Mem)) =>
            some (r9, M10)
        ) fun ((x7, M8) : (Int32 × Mem)) =>
        some (x7, M8)
      else
        some ((-102), M)
def f_X11_crossing (a1 : Int32) (a2 : Int32) (a3 : Int32) (a4 : Int32) (a5 : Int32) (M : Mem) : Option (Int32 × Mem) :=
  (f_X11_within a1 2).bind fun (r1 : Bool) =>
  if r1 = true then
    (f_X0_size M).bind fun (r2 : Int32) =>
    (f_X11_within a2 r2).bind fun (r3 : Bool) =>
    if r3 = true then
      (f_X11_areTwoLands a3 a4).bind fun (r4 : Bool) =>
      if r4 = true then
        (f_X11_within a5 2).bind fun (r5 : Bool) =>
        if r5 = true then
          (f_X2_apart a3 a4 M).bind fun ((r6, M7) : (Int32 × Mem)) =>
          (f_X0_ageOf a2 M7).bind fun (r8 : Int32) =>
          (f_X0_howManyLands a2 M7).bind fun (r9 : Int32) =>
          (f_X3_choose (hq a1) r6 r8 r9 M7).bind fun (M10 : Mem) =>
          Option.bind (
            if a5 = 0 then
              some (M10 (hq a1) 3)
            else
              some (M10 (hq a1) 4)
          ) fun (x11 : Int32) =>
          some (x11, M10)
        else
          some ((-102), M)
      else
        some ((-101), M)
    else
      some ((-101), M)
  else
    some ((-101), M)
def f_X11_spread (a1 : Int32) (a2 : Int32) (a3 : Int32) (M : Mem) : Option (Int32 × Mem) :=
  (f_X11_within a1 2).bind fun (r1 : Bool) =>
  if r1 = true then
    (f_X0_size M).bind fun (r2 : Int32) =>
    (f_X11_within a2 r2).bind fun (r3 : Bool) =>
    if r3 = true then
      (f_X11_within a3 2).bind fun (r4 : Bool) =>
      if r4 = true then
        (f_X8_solve (hq a1) a2 M).bind fun ((r5, M6) : (Int32 × Mem)) =>
        Option.bind (
          if a3 = 0 then
            some (M6 117 4)
          else
            some (M6 117 5)
        ) fun (x7 : Int32) =>
        some (x7, M6)
      else
        some ((-102), M)
    else
      some ((-101), M)
  else
    some ((-101), M)
def f_X11_unlike_b21  : (Int32 × Int32 × Int32 × Int32 × Mem) → Option ((Int32 × Int32 × Int32 × Int32 × Mem) ⊕ (Int32 × Int32 × Mem)) := fun ((x35, x36, x37, x38, M39) : (Int32 × Int32 × Int32 × Int32 × Mem)) =>
  (f_X0_size M39).bind fun (r43 : Int32) =>
  if r43 ≤ x38 then
    some (.inr (x35, x36, M39))
  else
    (f_X8_differenceOf 12 63 x38 M39).bind fun ((r44, M45) : (Int32 × Mem)) =>
    Option.bind (
      if r44 ≤ 0 then
        some x35
      else
        some (x35 + 1)
    ) fun (x46 : Int32) =>
    Option.bind (
      if r44 ≤ x37 then
        some (x36, x37)
      else
        some (x38, r44)
    ) fun ((x47, x48) : (Int32 × Int32)) =>
    some (.inl (x46, x47, x48, (x38 + 1), M45))
def f_X11_unlike (a1 : Int32) (M : Mem) : Option (Int32 × Mem) :=
  (f_X11_within a1 2).bind fun (r1 : Bool) =>
  if r1 = true then
    Option.bind (it (f_X11_unlike_b21) FU (0, (-1), 0, 0, M)) fun ((x40, x41, M42) : (Int32 × Int32 × Mem)) =>
    Option.bind (
      if a1 = 0 then
        some x40
      else
        some x41
    ) fun (x49 : Int32) =>
    some (x49, M42)
  else
    some ((-102), M)
def f_X11_speed (a1 : Int32) (M : Mem) : Option (Int32 × Mem) :=
  (f_X11_within a1 8).bind fun (r1 : Bool) =>
  Option.bind (
    if r1 = true then
      (f_X9_changeSpeed a1 M).bind fun ((r8, M9) : (Int32 × Mem)) =>
      some (r8, M9)
    else
      some ((-102), M)
  ) fun ((x6, M7) : (Int32 × Mem)) =>
  some (x6, M7)
def f_X11_claim (a1 : Int32) (a2 : Int32) (a3 : Int32) (a4 : Bool) (a5 : Int32) (M : Mem) : Option (Int32 × Mem) :=
  (f_X11_areTwoLands a1 a2).bind fun (r1 : Bool) =>
  if r1 = true then
    (f_X11_within a3 10).bind fun (r2 : Bool) =>
    if r2 = true then
      if a5 < 1 then
        some ((-102), M)
      else
        if a5 ≤ 99 then
          (f_X9_isFull M).bind fun (r3 : Bool) =>
          Option.bind (
            if r3 = true then
              some ((-104), M)
            else
              (f_X9_add a1 a2 a3 a4 a5 M).bind fun ((r10, M11) : (Int32 × Mem)) =>
              some (r10, M11)
          ) fun ((x8, M9) : (Int32 × Mem)) =>
          some (x8, M9)
        else
          some ((-102), M)
    else
      some ((-102), M)
  else
    some ((-101), M)
def f_X11_story_j29_0 (a1 : Int32) (a2 : Int32) (M : Mem)  : Option (Int32 × Mem) :=
  (f_X9_tell a1 M).bind fun (M20 : Mem) =>
  Option.bind (
    if a2 = 0 then
      (f_X9_leastPrice M20).bind fun (r27 : Int32) =>
      some r27
    else
      (f_X9_placeAt (a2 - 10) M20).bind fun (r26 : Int32) =>
      some r26
  ) fun (x25 : Int32) =>
  some (x25, M20)
def f_X11_story (a1 : Int32) (a2 : Int32) (M : Mem) : Option (Int32 × Mem) :=
  (f_X11_isLand a1).bind fun (r1 : Bool) =>
  if r1 = true then
    if a2 = 0 then
      f_X11_story_j29_0 a1 a2 M
    else
      (f_X11_within (a2 - 10) 10).bind fun (r28 : Bool) =>
      if r28 = true then
        f_X11_story_j29_0 a1 a2 M
      else
        some ((-102), M)
  else
    some ((-101), M)
def f_X11_judge (a1 : Int32) (a2 : Int64) (M : Mem) : Option (Int32 × Mem) :=
  (f_X11_isLand a1).bind fun (r1 : Bool) =>
  if r1 = true then
    if (lg_cmp a2 0) < 0 then
      some ((-102), M)
    else
      if (lg_cmp (jlshr a2 40) 0) = 0 then
        (f_X9_priceOf a1 a2 M).bind fun ((r2, M3) : (Int32 × Mem)) =>
        some (r2, M3)
      else
        some ((-102), M)
  else
    some ((-101), M)
def f_X11_pole_j27_0 (a1 : Int32) (a2 : Int32) (a3 : Int32) (a4 : Int32) (M : Mem)  : Option (Int32 × Mem) :=
  (f_X11_within a3 16).bind fun (r35 : Bool) =>
  if r35 = true then
    (f_X11_within a4 3).bind fun (r36 : Bool) =>
    if r36 = true then
      (f_X7_seek a1 a2 a3 M).bind fun (M37 : Mem) =>
      if a4 = 0 then
        some ((M37 129 2), M37)
      else
        if a4 = 1 then
          some ((M37 129 3), M37)
        else
          some ((M37 129 4), M37)
    else
      some ((-102), M)
  else
    some ((-102), M)
def f_X11_pole_j12_1 (a1 : Int32) (a2 : Int32) (a3 : Int32) (a4 : Int32) (M : Mem)  : Option (Int32 × Mem) :=
  if a2 = (-1) then
    f_X11_pole_j27_0 a1 a2 a3 a4 M
  else
    (f_X11_isLand a2).bind fun (r38 : Bool) =>
    if r38 = true then
      f_X11_pole_j27_0 a1 a2 a3 a4 M
    else
      some ((-101), M)
def f_X11_pole (a1 : Int32) (a2 : Int32) (a3 : Int32) (a4 : Int32) (M : Mem) : Option (Int32 × Mem) :=
  if a1 = (-1) then
    f_X11_pole_j12_1 a1 a2 a3 a4 M
  else
    (f_X11_isLand a1).bind fun (r39 : Bool) =>
    if r39 = true then
      f_X11_pole_j12_1 a1 a2 a3 a4 M
    else
      some ((-101), M)
def f_X11_floor (a1 : Int32) (M : Mem) : Option (Int32 × Mem) :=
  Option.bind (
    if a1 < 0 then
      some ((-102), M)
    else
      if a1 ≤ 16777215 then
        (f_X10_change a1 M).bind fun ((r7, M8) : (Int32 × Mem)) =>
        some (r7, M8)
      else
        some ((-102), M)
  ) fun ((x5, M6) : (Int32 × Mem)) =>
  some (x5, M6)
def f_X11_mirror (a1 : Int32) (M : Mem) : Option Int32 :=
  Option.bind (
    if a1 < 1 then
      some (-102)
    else
      if a1 < 24 then
        (f_X10_sameAbout a1 M).bind fun (r4 : Int32) =>
        some r4
      else
        some (-102)
  ) fun (x3 : Int32) =>
  some x3
def f_X11_ridge  (M : Mem) : Option Int32 :=
  (f_X10_bestPlace M).bind fun (r1 : Int32) =>
  some r1
def f_X11_count (a1 : Int32) (M : Mem) : Option Int32 :=
  if a1 = 0 then
    (f_X2_sizeOfAll M).bind fun (r1 : Int32) =>
    some r1
  else
    if a1 = 1 then
      (f_X5_size M).bind fun (r2 : Int32) =>
      some r2
    else
      if a1 = 2 then
        (f_X3_size 12 M).bind fun (r3 : Int32) =>
        some r3
      else
        if a1 = 3 then
          (f_X3_size 63 M).bind fun (r4 : Int32) =>
          some r4
        else
          if a1 = 4 then
            (f_X0_size M).bind fun (r5 : Int32) =>
            some r5
          else
            if a1 = 5 then
              (f_X9_size M).bind fun (r6 : Int32) =>
              some r6
            else
              if a1 = 6 then
                (f_X6_size M).bind fun (r7 : Int32) =>
                some r7
              else
                some (-102)
def f_X11_digest_b75 (M6 : Mem) : (Int64 × Int32) → Option ((Int64 × Int32) ⊕ Int64) := fun ((x18, x19) : (Int64 × Int32)) =>
  if 6 < x19 then
    some (.inr x18)
  else
    (f_X11_count x19 M6).bind fun (r21 : Int32) =>
    (f_X11_then x18 (Int32.toInt64 r21)).bind fun (r22 : Int64) =>
    some (.inl (r22, (x19 + 1)))
def f_X11_digest  (M : Mem) : Option (Int64 × Mem) :=
  (f_X2_toldCells 313 M).bind fun (r1 : Int64) =>
  (f_X5_told r1 M).bind fun (r2 : Int64) =>
  (f_X2_toldDistances r2 M).bind fun ((r3, M4) : (Int64 × Mem)) =>
  (f_X8_told r3 12 63 M4).bind fun ((r5, M6) : (Int64 × Mem)) =>
  (f_X9_told r5 M6).bind fun (r7 : Int64) =>
  (f_X10_told r7 M6).bind fun (r8 : Int64) =>
  (f_X6_told r8 M6).bind fun (r9 : Int64) =>
  Option.bind (it (f_X11_digest_b75 M6) FU (r9, 0)) fun (x20 : Int64) =>
  some (x20, M6)
def f_X12_in (a0 : Int64) (a2 : Int64) (a4 : Int64) : Option Bool :=
  Option.bind (
    if (lg_cmp a0 a2) < 0 then
      some false
    else
      if 0 < (lg_cmp a0 a4) then
        some false
      else
        some true
  ) fun (x1 : Bool) =>
  some x1
def f_X12_off (a0 : Int32) (a1 : Int32) : Option Int32 :=
  Option.bind (
    if a1 ≤ a0 then
      some (a0 - a1)
    else
      some (a1 - a0)
  ) fun (x1 : Int32) =>
  some x1
def f_X12_bitsOf_b4 (a0 : Int32) : (Int32 × Int32) → Option ((Int32 × Int32) ⊕ Int32) := fun ((x7, x8) : (Int32 × Int32)) =>
  if 6 ≤ x8 then
    some (.inr x7)
  else
    some (.inl ((x7 + ((jshr a0 x8) &&& 1)), (x8 + 1)))
def f_X12_bitsOf (a0 : Int32) : Option Int32 :=
  Option.bind (it (f_X12_bitsOf_b4 a0) FU (0, 0)) fun (x9 : Int32) =>
  some x9
def f_X12_isLand (a0 : Int32) : Option Bool :=
  (f_X12_in (Int32.toInt64 a0) 0 5).bind fun (r1 : Bool) =>
  some r1
def f_X12_isCell (a0 : Int32) : Option Bool :=
  (f_X12_in (Int32.toInt64 a0) 0 127).bind fun (r1 : Bool) =>
  some r1
def f_X12_marksOn_b4 (a1 : Int32) (M : Mem) : (Int32 × Int32) → Option ((Int32 × Int32) ⊕ Int32) := fun ((x13, x14) : (Int32 × Int32)) =>
  if (M 132 1) ≤ x14 then
    some (.inr x13)
  else
    if inb x14 40 = true then
      Option.bind (
        if (M 135 (Int32.toNatClampNeg x14)) = a1 then
          some true
        else
          some false
      ) fun (x17 : Bool) =>
      some (.inl ((x13 + (bI x17)), (x14 + 1)))
    else none
def f_X12_marksOn (a1 : Int32) (M : Mem) : Option Int32 :=
  Option.bind (it (f_X12_marksOn_b4 a1 M) FU (0, 0)) fun (x15 : Int32) =>
  some x15
def f_X12_cell_j12_0 (a1 : Int32) (a2 : Int32) (M : Mem)  : Option (Int32 × Mem) :=
  (f_X12_isCell a2).bind fun (r9 : Bool) =>
  if r9 = true then
    (f_X12_marksOn a2 M).bind fun (r10 : Int32) =>
    if r10 ≤ 0 then
      if inb a2 128 = true then
        some ((M 133 (Int32.toNatClampNeg a2)), (up M 133 (Int32.toNatClampNeg a2) a1))
      else none
    else
      some ((-103), M)
  else
    some ((-101), M)
def f_X12_cell (a1 : Int32) (a2 : Int32) (M : Mem) : Option (Int32 × Mem) :=
  if a1 = (-1) then
    f_X12_cell_j12_0 a1 a2 M
  else
    (f_X12_isLand a1).bind fun (r12 : Bool) =>
    if r12 = true then
      f_X12_cell_j12_0 a1 a2 M
    else
      some ((-101), M)
def f_X12_run_b56 (a1 : Int32) (a2 : Int32) (a3 : Int32) (a4 : Int32) : (Int32 × Int32 × Mem) → Option ((Int32 × Int32 × Mem) ⊕ (Int32 × Mem)) := fun ((x23, x24, M25) : (Int32 × Int32 × Mem)) =>
  if a4 ≤ x24 then
    some (.inr (x23, M25))
  else
    if inb ((16 * a2) + (jrem (a3 + x24) 16)) 128 = true then
      Option.bind (
        if (M25 133 (Int32.toNatClampNeg ((16 * a2) + (jrem (a3 + x24) 16)))) = (-1) then
          some true
        else
          some false
      ) fun (x29 : Bool) =>
      Option.bind (
        if (M25 133 (Int32.toNatClampNeg ((16 * a2) + (jrem (a3 + x24) 16)))) = (-1) then
          some a1
        else
          some (M25 133 (Int32.toNatClampNeg ((16 * a2) + (jrem (a3 + x24) 16))))
      ) fun (x30 : Int32) =>
      some (.inl ((x23 + (bI x29)), (x24 + 1), (up M25 133 (Int32.toNatClampNeg ((16 * a2) + (jrem (a3 + x24) 16))) x30)))
    else none
def f_X12_run (a1 : Int32) (a2 : Int32) (a3 : Int32) (a4 : Int32) (M : Mem) : Option (Int32 × Mem) :=
  (f_X12_isLand a1).bind fun (r1 : Bool) =>
  if r1 = true then
    (f_X12_in (Int32.toInt64 a2) 0 7).bind fun (r2 : Bool) =>
    if r2 = true then
      (f_X12_in (Int32.toInt64 a3) 0 15).bind fun (r3 : Bool) =>
      if r3 = true then
        (f_X12_in (Int32.toInt64 a4) 1 16).bind fun (r4 : Bool) =>
        if r4 = true then
          Option.bind (it (f_X12_run_b56 a1 a2 a3 a4) FU (0, 0, M)) fun ((x26, M27) : (Int32 × Mem)) =>
          some (x26, M27)
        else
          some ((-102), M)
      else
        some ((-101), M)
    else
      some ((-101), M)
  else
    some ((-101), M)
def f_X12_cellsOf_b4 (a1 : Int32) (M : Mem) : (Int32 × Int32) → Option ((Int32 × Int32) ⊕ Int32) := fun ((x13, x14) : (Int32 × Int32)) =>
  if 128 ≤ x14 then
    some (.inr x13)
  else
    if inb x14 128 = true then
      Option.bind (
        if (M 133 (Int32.toNatClampNeg x14)) = a1 then
          some true
        else
          some false
      ) fun (x17 : Bool) =>
      some (.inl ((x13 + (bI x17)), (x14 + 1)))
    else none
def f_X12_cellsOf (a1 : Int32) (M : Mem) : Option Int32 :=
  Option.bind (it (f_X12_cellsOf_b4 a1 M) FU (0, 0)) fun (x15 : Int32) =>
  some x15
def f_X12_leastCell_b2 (a1 : Int32) (M : Mem) : Int32 → Option (Int32 ⊕ (Unit ⊕ Int32)) := fun (x5 : Int32) =>
  if 128 ≤ x5 then
    some (.inr (.inl ()))
  else
    if inb x5 128 = true then
      if (M 133 (Int32.toNatClampNeg x5)) = a1 then
        some (.inr (.inr x5))
      else
        some (.inl (x5 + 1))
    else none
def f_X12_leastCell (a1 : Int32) (M : Mem) : Option Int32 :=
  Option.bind (it (f_X12_leastCell_b2 a1 M) FU 0) fun (zr : (Unit ⊕ Int32)) => match zr with
  | .inr v => some v
  | .inl _ =>
    some (-1)
def f_X12_marksOf_b4 (a1 : Int32) (M : Mem) : (Int32 × Int32) → Option ((Int32 × Int32) ⊕ Int32) := fun ((x16, x17) : (Int32 × Int32)) =>
  if (M 132 1) ≤ x17 then
    some (.inr x16)
  else
    if inb x17 40 = true then
      if inb (M 135 (Int32.toNatClampNeg x17)) 128 = true then
        Option.bind (
          if (M 133 (Int32.toNatClampNeg (M 135 (Int32.toNatClampNeg x17)))) = a1 then
            some true
          else
            some false
        ) fun (x21 : Bool) =>
        some (.inl ((x16 + (bI x21)), (x17 + 1)))
      else none
    else none
def f_X12_marksOf (a1 : Int32) (M : Mem) : Option Int32 :=
  Option.bind (it (f_X12_marksOf_b4 a1 M) FU (0, 0)) fun (x18 : Int32) =>
  some x18
def f_X12_land (a1 : Int32) (a2 : Int32) (M : Mem) : Option Int32 :=
  (f_X12_isLand a1).bind fun (r1 : Bool) =>
  if r1 = true then
    (f_X12_in (Int32.toInt64 a2) 0 2).bind fun (r2 : Bool) =>
    if r2 = true then
      Option.bind (
        if a2 = 0 then
          (f_X12_cellsOf a1 M).bind fun (r12 : Int32) =>
          some r12
        else
          if a2 = 1 then
            (f_X12_leastCell a1 M).bind fun (r11 : Int32) =>
            some r11
          else
            (f_X12_marksOf a1 M).bind fun (r10 : Int32) =>
            some r10
      ) fun (x9 : Int32) =>
      some x9
    else
      some (-102)
  else
    some (-101)
def f_X12_mark (a1 : Int32) (a2 : Int32) (a3 : Int32) (M : Mem) : Option (Int32 × Mem) :=
  (f_X12_isCell a2).bind fun (r1 : Bool) =>
  if r1 = true then
    if inb a2 128 = true then
      if (M 133 (Int32.toNatClampNeg a2)) = (-1) then
        some ((-101), M)
      else
        (f_X12_in (Int32.toInt64 a1) 0 5).bind fun (r3 : Bool) =>
        if r3 = true then
          (f_X12_in (Int32.toInt64 a3) 0 15).bind fun (r4 : Bool) =>
          if r4 = true then
            if (M 132 1) = 40 then
              some ((-104), M)
            else
              if inb (M 132 1) 40 = true then
                if inb ((up M 134 (Int32.toNatClampNeg (M 132 1)) a1) 132 1) 40 = true then
                  if inb ((up (up M 134 (Int32.toNatClampNeg (M 132 1)) a1) 135 (Int32.toNatClampNeg ((up M 134 (Int32.toNatClampNeg (M 132 1)) a1) 132 1)) a2) 132 1) 40 = true then
                    some ((((up (up (up (up M 134 (Int32.toNatClampNeg (M 132 1)) a1) 135 (Int32.toNatClampNeg ((up M 134 (Int32.toNatClampNeg (M 132 1)) a1) 132 1)) a2) 136 (Int32.toNatClampNeg ((up (up M 134 (Int32.toNatClampNeg (M 132 1)) a1) 135 (Int32.toNatClampNeg ((up M 134 (Int32.toNatClampNeg (M 132 1)) a1) 132 1)) a2) 132 1)) a3) 132 1 (((up (up (up M 134 (Int32.toNatClampNeg (M 132 1)) a1) 135 (Int32.toNatClampNeg ((up M 134 (Int32.toNatClampNeg (M 132 1)) a1) 132 1)) a2) 136 (Int32.toNatClampNeg ((up (up M 134 (Int32.toNatClampNeg (M 132 1)) a1) 135 (Int32.toNatClampNeg ((up M 134 (Int32.toNatClampNeg (M 132 1)) a1) 132 1)) a2) 132 1)) a3) 132 1) + 1)) 132 1) - 1), (up (up (up (up M 134 (Int32.toNatClampNeg (M 132 1)) a1) 135 (Int32.toNatClampNeg ((up M 134 (Int32.toNatClampNeg (M 132 1)) a1) 132 1)) a2) 136 (Int32.toNatClampNeg ((up (up M 134 (Int32.toNatClampNeg (M 132 1)) a1) 135 (Int32.toNatClampNeg ((up M 134 (Int32.toNatClampNeg (M 132 1)) a1) 132 1)) a2) 132 1)) a3) 132 1 (((up (up (up M 134 (Int32.toNatClampNeg (M 132 1)) a1) 135 (Int32.toNatClampNeg ((up M 134 (Int32.toNatClampNeg (M 132 1)) a1) 132 1)) a2) 136 (Int32.toNatClampNeg ((up (up M 134 (Int32.toNatClampNeg (M 132 1)) a1) 135 (Int32.toNatClampNeg ((up M 134 (Int32.toNatClampNeg (M 132 1)) a1) 132 1)) a2) 132 1)) a3) 132 1) + 1)))
                  else none
                else none
              else none
          else
            some ((-102), M)
        else
          some ((-102), M)
    else none
  else
    some ((-101), M)
def f_X12_isMark (a1 : Int32) (M : Mem) : Option Bool :=
  (f_X12_in (Int32.toInt64 a1) 0 (Int32.toInt64 ((M 132 1) - 1))).bind fun (r1 : Bool) =>
  some r1
def f_X12_as (a1 : Int32) (a2 : Int32) (M : Mem) : Option Int32 :=
  (f_X12_isMark a1 M).bind fun (r1 : Bool) =>
  if r1 = true then
    (f_X12_in (Int32.toInt64 a2) 0 5).bind fun (r2 : Bool) =>
    if r2 = true then
      Option.bind (
        if a2 = 0 then
          some true
        else
          if inb a1 40 = true then
            if a2 = (M 134 (Int32.toNatClampNeg a1)) then
              some true
            else
              if a2 = 2 then
                if (M 134 (Int32.toNatClampNeg a1)) = 5 then
                  some true
                else
                  some false
              else
                some false
          else none
      ) fun (x5 : Bool) =>
      Option.bind (
        if x5 = true then
          some a1
        else
          some (-1)
      ) fun (x7 : Int32) =>
      some x7
    else
      some (-102)
  else
    some (-101)
def f_X12_weight (a1 : Int32) (M : Mem) : Option Int32 :=
  if inb a1 40 = true then
    if (M 134 (Int32.toNatClampNeg a1)) = 1 then
      some 3
    else
      if (M 134 (Int32.toNatClampNeg a1)) = 2 then
        some 4
      else
        if (M 134 (Int32.toNatClampNeg a1)) = 3 then
          some 1
        else
          if (M 134 (Int32.toNatClampNeg a1)) = 4 then
            some 0
          else
            if (M 134 (Int32.toNatClampNeg a1)) = 5 then
              some 2
            else
              some 1
  else none
def f_X12_about (a1 : Int32) (a2 : Int32) (M : Mem) : Option Int32 :=
  (f_X12_isMark a1 M).bind fun (r1 : Bool) =>
  if r1 = true then
    (f_X12_in (Int32.toInt64 a2) 0 3).bind fun (r2 : Bool) =>
    if r2 = true then
      Option.bind (
        if a2 = 0 then
          if inb a1 40 = true then
            some (M 134 (Int32.toNatClampNeg a1))
          else none
        else
          if a2 = 1 then
            if inb a1 40 = true then
              some (M 135 (Int32.toNatClampNeg a1))
            else none
          else
            if a2 = 2 then
              if inb a1 40 = true then
                some (M 136 (Int32.toNatClampNeg a1))
              else none
            else
              (f_X12_weight a1 M).bind fun (r12 : Int32) =>
              some r12
      ) fun (x11 : Int32) =>
      some x11
    else
      some (-102)
  else
    some (-101)
def f_X12_goes (a1 : Int32) (a2 : Int32) (M : Mem) : Option Bool :=
  if inb a1 40 = true then
    if inb a2 40 = true then
      if (M 134 (Int32.toNatClampNeg a1)) = (M 134 (Int32.toNatClampNeg a2)) then
        if (M 134 (Int32.toNatClampNeg a1)) = 4 then
          some false
        else
          Option.bind (
            if (M 134 (Int32.toNatClampNeg a1)) = 1 then
              (f_X12_off (M 136 (Int32.toNatClampNeg a1)) (M 136 (Int32.toNatClampNeg a2))).bind fun (r6 : Int32) =>
              if 1 < r6 then
                some false
              else
                some true
            else
              if (M 134 (Int32.toNatClampNeg a1)) = 3 then
                if (jrem (M 136 (Int32.toNatClampNeg a1)) 4) = (jrem (M 136 (Int32.toNatClampNeg a2)) 4) then
                  some true
                else
                  some false
              else
                if (M 136 (Int32.toNatClampNeg a1)) = (M 136 (Int32.toNatClampNeg a2)) then
                  some true
                else
                  some false
          ) fun (x5 : Bool) =>
          some x5
      else
        some false
    else none
  else none
def f_X12_goesOn (a1 : Int32) (a2 : Int32) (M : Mem) : Option Int32 :=
  (f_X12_isMark a1 M).bind fun (r1 : Bool) =>
  if r1 = true then
    (f_X12_isMark a2 M).bind fun (r2 : Bool) =>
    if r2 = true then
      (f_X12_goes a1 a2 M).bind fun (r3 : Bool) =>
      Option.bind (
        if r3 = true then
          some true
        else
          some false
      ) fun (x4 : Bool) =>
      some (bI x4)
    else
      some (-101)
  else
    some (-101)
def f_X12_drop  (M : Mem) : Option (Int32 × Mem) :=
  if (M 132 1) = 0 then
    some ((-103), M)
  else
    some (((up M 132 1 ((M 132 1) - 1)) 132 1), (up M 132 1 ((M 132 1) - 1)))
def f_X12_lay_b6 (a1 : Int32) : (Int32 × Mem) → Option ((Int32 × Mem) ⊕ Mem) := fun ((x9, M10) : (Int32 × Mem)) =>
  if 128 ≤ x9 then
    some (.inr M10)
  else
    if inb x9 128 = true then
      Option.bind (
        if (M10 133 (Int32.toNatClampNeg x9)) = a1 then
          some true
        else
          some false
      ) fun (x13 : Bool) =>
      some (.inl ((x9 + 1), (up M10 137 (Int32.toNatClampNeg x9) (bI x13))))
    else none
def f_X12_lay_b46 (a2 : Int32) (a3 : Int32) (a4 : Int32) : (Bool × Int32 × Mem) → Option ((Bool × Int32 × Mem) ⊕ (Bool × Mem)) := fun ((x62, x63, M64) : (Bool × Int32 × Mem)) =>
  if 128 ≤ x63 then
    some (.inr (x62, M64))
  else
    if inb x63 128 = true then
      Option.bind (
        if (M64 133 (Int32.toNatClampNeg x63)) = a2 then
          Option.bind (
            if x62 = true then
              (f_X12_in (Int32.toInt64 ((x63 / 16) + a3)) 0 7).bind fun (r85 : Bool) =>
              if r85 = true then
                some true
              else
                some false
            else
              some false
          ) fun (x84 : Bool) =>
          (f_X12_in (Int32.toInt64 ((x63 / 16) + a3)) 0 7).bind fun (r86 : Bool) =>
          if r86 = true then
            if inb ((16 * ((x63 / 16) + a3)) + (jrem ((jrem x63 16) + a4) 16)) 128 = true then
              some (x84, (up M64 137 (Int32.toNatClampNeg ((16 * ((x63 / 16) + a3)) + (jrem ((jrem x63 16) + a4) 16))) ((M64 137 (Int32.toNatClampNeg ((16 * ((x63 / 16) + a3)) + (jrem ((jrem x63 16) + a4) 16)))) ||| 2)))
            else none
          else
            some (x84, M64)
        else
          some (x62, M64)
      ) fun ((x80, M81) : (Bool × Mem)) =>
      some (.inl (x80, (x63 + 1), M81))
    else none
def f_X12_lay (a1 : Int32) (a2 : Int32) (a3 : Int32) (a4 : Int32) (M : Mem) : Option (Bool × Mem) :=
  Option.bind (it (f_X12_lay_b6 a1) FU (0, M)) fun (M11 : Mem) =>
  Option.bind (it (f_X12_lay_b46 a2 a3 a4) FU (true, 0, M11)) fun ((x65, M66) : (Bool × Mem)) =>
  some (x65, M66)
def f_X12_east (a0 : Int32) (a1 : Int32) : Option Int32 :=
  some (((a0 / 16) * 16) + (jrem (((jrem a0 16) + a1) + 16) 16))
def f_X12_overlap_b4 (M : Mem) : (Int32 × Int32) → Option ((Int32 × Int32) ⊕ Int32) := fun ((x13, x14) : (Int32 × Int32)) =>
  if 128 ≤ x14 then
    some (.inr x13)
  else
    if inb x14 128 = true then
      Option.bind (
        if (M 137 (Int32.toNatClampNeg x14)) = 3 then
          some true
        else
          some false
      ) fun (x17 : Bool) =>
      some (.inl ((x13 + (bI x17)), (x14 + 1)))
    else none
def f_X12_overlap  (M : Mem) : Option Int32 :=
  Option.bind (it (f_X12_overlap_b4 M) FU (0, 0)) fun (x15 : Int32) =>
  some x15
def f_X12_touch_b4 (M : Mem) : (Int32 × Int32) → Option ((Int32 × Int32) ⊕ Int32) := fun ((x49, x50) : (Int32 × Int32)) =>
  if 128 ≤ x50 then
    some (.inr x49)
  else
    if inb x50 128 = true then
      Option.bind (
        if ((M 137 (Int32.toNatClampNeg x50)) &&& 1) = 1 then
          (f_X12_east x50 1).bind fun (r62 : Int32) =>
          if inb r62 128 = true then
            (f_X12_east x50 (-1)).bind fun (r64 : Int32) =>
            if inb r64 128 = true then
              some (x49 + ((jshr (M 137 (Int32.toNatClampNeg r62)) 1) + (jshr (M 137 (Int32.toNatClampNeg r64)) 1)))
            else none
          else none
        else
          some x49
      ) fun (x61 : Int32) =>
      some (.inl (x61, (x50 + 1)))
    else none
def f_X12_touch  (M : Mem) : Option Int32 :=
  Option.bind (it (f_X12_touch_b4 M) FU (0, 0)) fun (x51 : Int32) =>
  some x51
def f_X12_gapBehind_b2 (a1 : Int32) (M : Mem) : Int32 → Option (Int32 ⊕ Int32) := fun (x10 : Int32) =>
  if 4 ≤ x10 then
    some (.inr x10)
  else
    (f_X12_east a1 (x10 + 1)).bind fun (r12 : Int32) =>
    if inb r12 128 = true then
      if (M 137 (Int32.toNatClampNeg r12)) = 0 then
        some (.inl (x10 + 1))
      else
        some (.inr x10)
    else none
def f_X12_gapBehind (a1 : Int32) (M : Mem) : Option Int32 :=
  Option.bind (it (f_X12_gapBehind_b2 a1 M) FU 0) fun (x11 : Int32) =>
  Option.bind (
    if 4 ≤ x11 then
      some 0
    else
      (f_X12_east a1 (x11 + 1)).bind fun (r19 : Int32) =>
      if inb r19 128 = true then
        some (M 137 (Int32.toNatClampNeg r19))
      else none
  ) fun (x18 : Int32) =>
  if inb a1 128 = true then
    Option.bind (
      if ((M 137 (Int32.toNatClampNeg a1)) &&& 1) = 1 then
        if 1 < x18 then
          some true
        else
          if (M 137 (Int32.toNatClampNeg a1)) ≤ 1 then
            some false
          else
            if (x18 &&& 1) = 1 then
              some true
            else
              some false
      else
        if (M 137 (Int32.toNatClampNeg a1)) ≤ 1 then
          some false
        else
          if (x18 &&& 1) = 1 then
            some true
          else
            some false
    ) fun (x22 : Bool) =>
    Option.bind (
      if x22 = true then
        if x11 ≤ 0 then
          some 0
        else
          if 4 ≤ x11 then
            some 0
          else
            some x11
      else
        some 0
    ) fun (x23 : Int32) =>
    some x23
  else none
def f_X12_gap_b4 (M : Mem) : (Int32 × Int32) → Option ((Int32 × Int32) ⊕ Int32) := fun ((x22, x23) : (Int32 × Int32)) =>
  if 128 ≤ x23 then
    some (.inr x22)
  else
    if inb x23 128 = true then
      Option.bind (
        if (M 137 (Int32.toNatClampNeg x23)) = 0 then
          some 0
        else
          (f_X12_gapBehind x23 M).bind fun (r29 : Int32) =>
          some r29
      ) fun (x28 : Int32) =>
      some (.inl ((x22 + x28), (x23 + 1)))
    else none
def f_X12_gap  (M : Mem) : Option Int32 :=
  Option.bind (it (f_X12_gap_b4 M) FU (0, 0)) fun (x24 : Int32) =>
  some x24
def f_X12_cost  (M : Mem) : Option Int32 :=
  (f_X12_overlap M).bind fun (r1 : Int32) =>
  (f_X12_gap M).bind fun (r2 : Int32) =>
  (f_X12_touch M).bind fun (r3 : Int32) =>
  some (((3 * r1) + r2) - r3)
def f_X12_isCounted (a1 : Int32) (a2 : Int32) (a3 : Int32) (a4 : Int32) (M : Mem) : Option (Bool × Mem) :=
  (f_X12_lay a1 a2 a3 a4 M).bind fun ((r1, M2) : (Bool × Mem)) =>
  Option.bind (
    if r1 = true then
      (f_X12_touch M2).bind fun (r8 : Int32) =>
      (f_X12_overlap M2).bind fun (r9 : Int32) =>
      if (r8 + r9) ≤ 0 then
        some false
      else
        some true
    else
      some false
  ) fun (x7 : Bool) =>
  some (x7, M2)
def f_X12_onOf_b18 (a1 : Int32) (a2 : Int32) (a3 : Int32) (a4 : Int32) (M : Mem) : (Int32 × Int32 × Int32) → Option ((Int32 × Int32 × Int32) ⊕ (Int32 × Int32)) := fun ((x748, x749, x750) : (Int32 × Int32 × Int32)) =>
  if (M 132 1) ≤ x750 then
    some (.inr (x748, x749))
  else
    if inb x749 40 = true then
      if inb (M 135 (Int32.toNatClampNeg x749)) 128 = true then
        Option.bind (
          if (M 133 (Int32.toNatClampNeg (M 135 (Int32.toNatClampNeg x749)))) = a1 then
            if inb x750 40 = true then
              if inb (M 135 (Int32.toNatClampNeg x750)) 128 = true then
                if (M 133 (Int32.toNatClampNeg (M 135 (Int32.toNatClampNeg x750)))) = a2 then
                  if (M 134 (Int32.toNatClampNeg x749)) = (M 134 (Int32.toNatClampNeg x750)) then
                    some true
                  else
                    some false
                else
                  some false
              else none
            else none
          else
            some false
        ) fun (x759 : Bool) =>
        Option.bind (
          if x759 = true then
            if inb x750 40 = true then
              (f_X12_east (M 135 (Int32.toNatClampNeg x749)) 1).bind fun (r796 : Int32) =>
              Option.bind (
                if ((16 * (((M 135 (Int32.toNatClampNeg x750)) / 16) + a3)) + (jrem ((jrem (M 135 (Int32.toNatClampNeg x750)) 16) + a4) 16)) = r796 then
                  some true
                else
                  (f_X12_east (M 135 (Int32.toNatClampNeg x749)) (-1)).bind fun (r800 : Int32) =>
                  if ((16 * (((M 135 (Int32.toNatClampNeg x750)) / 16) + a3)) + (jrem ((jrem (M 135 (Int32.toNatClampNeg x750)) 16) + a4) 16)) = r800 then
                    some true
                  else
                    some false
              ) fun (x799 : Bool) =>
              Option.bind (
                if x799 = true then
                  (f_X12_goes x749 x750 M).bind fun (r808 : Bool) =>
                  if r808 = true then
                    (f_X12_weight x749 M).bind fun (r810 : Int32) =>
                    some r810
                  else
                    (f_X12_weight x749 M).bind fun (r809 : Int32) =>
                    some (-r809)
                else
                  some 0
              ) fun (x807 : Int32) =>
              some (x748 + x807)
            else none
          else
            some x748
        ) fun (x794 : Int32) =>
        some (.inl (x794, x749, (x750 + 1)))
      else none
    else none
def f_X12_onOf_b6 (a1 : Int32) (a2 : Int32) (a3 : Int32) (a4 : Int32) (M : Mem) : (Int32 × Int32) → Option ((Int32 × Int32) ⊕ Int32) := fun ((x623, x624) : (Int32 × Int32)) =>
  if (M 132 1) ≤ x624 then
    some (.inr x623)
  else
    Option.bind (it (f_X12_onOf_b18 a1 a2 a3 a4 M) FU (x623, x624, 0)) fun ((x751, x752) : (Int32 × Int32)) =>
    some (.inl (x751, (x752 + 1)))
def f_X12_onOf (a1 : Int32) (a2 : Int32) (a3 : Int32) (a4 : Int32) (M : Mem) : Option Int32 :=
  Option.bind (it (f_X12_onOf_b6 a1 a2 a3 a4 M) FU (0, 0)) fun (x625 : Int32) =>
  some x625
def f_X12_isPair (a0 : Int32) (a1 : Int32) : Option Bool :=
  (f_X12_isLand a0).bind fun (r1 : Bool) =>
  Option.bind (
    if r1 = true then
      (f_X12_isLand a1).bind fun (r5 : Bool) =>
      if r5 = true then
        if a0 = a1 then
          some false
        else
          some true
      else
        some false
    else
      some false
  ) fun (x4 : Bool) =>
  some x4
def f_X12_isPlace (a0 : Int32) (a1 : Int32) : Option Bool :=
  (f_X12_in (Int32.toInt64 a0) (-7) 7).bind fun (r1 : Bool) =>
  Option.bind (
    if r1 = true then
      (f_X12_in (Int32.toInt64 a1) 0 15).bind fun (r5 : Bool) =>
      if r5 = true then
        some true
      else
        some false
    else
      some false
  ) fun (x4 : Bool) =>
  some x4
def f_X12_put (a1 : Int32) (a2 : Int32) (a3 : Int32) (a4 : Int32) (a5 : Int32) (M : Mem) : Option (Int32 × Mem) :=
  (f_X12_isPair a1 a2).bind fun (r1 : Bool) =>
  if r1 = true then
    (f_X12_isPlace a3 a4).bind fun (r2 : Bool) =>
    if r2 = true then
      (f_X12_in (Int32.toInt64 a5) 0 5).bind fun (r3 : Bool) =>
      if r3 = true then
        if a5 = 4 then
          (f_X12_isCounted a1 a2 a3 a4 M).bind fun ((r22, M23) : (Bool × Mem)) =>
          Option.bind (
            if r22 = true then
              some true
            else
              some false
          ) fun (x24 : Bool) =>
          some ((bI x24), M23)
        else
          (f_X12_lay a1 a2 a3 a4 M).bind fun ((r4, M5) : (Bool × Mem)) =>
          if r4 = true then
            Option.bind (
              if a5 = 0 then
                (f_X12_overlap M5).bind fun (r21 : Int32) =>
                some r21
              else
                if a5 = 1 then
                  (f_X12_touch M5).bind fun (r20 : Int32) =>
                  some r20
                else
                  if a5 = 2 then
                    (f_X12_gap M5).bind fun (r19 : Int32) =>
                    some r19
                  else
                    if a5 = 3 then
                      (f_X12_cost M5).bind fun (r18 : Int32) =>
                      some r18
                    else
                      (f_X12_onOf a1 a2 a3 a4 M5).bind fun (r17 : Int32) =>
                      some r17
            ) fun (x16 : Int32) =>
            some (x16, M5)
          else
            some ((-1000001), M5)
      else
        some ((-1000003), M)
    else
      some ((-1000003), M)
  else
    some ((-1000002), M)
def f_X12_fit_b52 (a1 : Int32) (a2 : Int32) : (Int32 × Int32 × Int32 × Int32 × Int32 × Int32 × Mem) → Option ((Int32 × Int32 × Int32 × Int32 × Int32 × Int32 × Mem) ⊕ (Int32 × Int32 × Int32 × Int32 × Int32 × Mem)) := fun ((x349, x350, x351, x352, x353, x354, M355) : (Int32 × Int32 × Int32 × Int32 × Int32 × Int32 × Mem)) =>
  if 16 ≤ x354 then
    some (.inr (x349, x350, x351, x352, x353, M355))
  else
    (f_X12_isCounted a1 a2 x353 x354 M355).bind fun ((r362, M363) : (Bool × Mem)) =>
    Option.bind (
      if r362 = true then
        (f_X12_cost M363).bind fun (r376 : Int32) =>
        Option.bind (
          if x349 = 0 then
            some ((x353 + 7), x354, r376)
          else
            if x352 ≤ r376 then
              some (x350, x351, x352)
            else
              some ((x353 + 7), x354, r376)
        ) fun ((x377, x378, x379) : (Int32 × Int32 × Int32)) =>
        some ((x349 + 1), x377, x378, x379)
      else
        some (x349, x350, x351, x352)
    ) fun ((x372, x373, x374, x375) : (Int32 × Int32 × Int32 × Int32)) =>
    some (.inl (x372, x373, x374, x375, x353, (x354 + 1), M363))
def f_X12_fit_b42 (a1 : Int32) (a2 : Int32) : (Int32 × Int32 × Int32 × Int32 × Int32 × Mem) → Option ((Int32 × Int32 × Int32 × Int32 × Int32 × Mem) ⊕ (Int32 × Int32 × Int32 × Mem)) := fun ((x289, x290, x291, x292, x293, M294) : (Int32 × Int32 × Int32 × Int32 × Int32 × Mem)) =>
  if 8 ≤ x293 then
    some (.inr (x289, x290, x291, M294))
  else
    Option.bind (it (f_X12_fit_b52 a1 a2) FU (x289, x290, x291, x292, x293, 0, M294)) fun ((x356, x357, x358, x359, x360, M361) : (Int32 × Int32 × Int32 × Int32 × Int32 × Mem)) =>
    some (.inl (x356, x357, x358, x359, (x360 + 1), M361))
def f_X12_fit (a1 : Int32) (a2 : Int32) (a3 : Int32) (M : Mem) : Option (Int32 × Mem) :=
  (f_X12_isPair a1 a2).bind fun (r1 : Bool) =>
  if r1 = true then
    (f_X12_in (Int32.toInt64 a3) 0 2).bind fun (r2 : Bool) =>
    if r2 = true then
      Option.bind (it (f_X12_fit_b42 a1 a2) FU (0, (-1), (-1), 0, (-7), M)) fun ((x295, x296, x297, M298) : (Int32 × Int32 × Int32 × Mem)) =>
      Option.bind (
        if a3 = 0 then
          some x296
        else
          if a3 = 1 then
            some x297
          else
            some x295
      ) fun (x380 : Int32) =>
      some (x380, M298)
    else
      some ((-102), M)
  else
    some ((-101), M)
def f_X12_common_b4  : (Int32 × Int32) → Option ((Int32 × Int32) ⊕ Int32) := fun ((x7, x8) : (Int32 × Int32)) =>
  if x7 = 0 then
    some (.inr x8)
  else
    if ¬ x7 = 0 then
      some (.inl ((jrem x8 x7), x7))
    else none
def f_X12_common (a0 : Int32) (a1 : Int32) : Option Int32 :=
  Option.bind (it (f_X12_common_b4) FU (a0, a1)) fun (x9 : Int32) =>
  some x9
def f_X12_chance_b75 (a1 : Int32) (a2 : Int32) (r6 : Int32) : (Int32 × Int32 × Int32 × Int32 × Mem) → Option ((Int32 × Int32 × Int32 × Int32 × Mem) ⊕ (Int32 × Int32 × Int32 × Mem)) := fun ((x182, x183, x184, x185, M186) : (Int32 × Int32 × Int32 × Int32 × Mem)) =>
  if 16 ≤ x185 then
    some (.inr (x182, x183, x184, M186))
  else
    (f_X12_isCounted a1 a2 x184 x185 M186).bind fun ((r191, M192) : (Bool × Mem)) =>
    Option.bind (
      if r191 = true then
        some true
      else
        some false
    ) fun (x193 : Bool) =>
    Option.bind (
      if r191 = true then
        (f_X12_cost M192).bind fun (r197 : Int32) =>
        if r6 < r197 then
          some false
        else
          some true
      else
        some false
    ) fun (x196 : Bool) =>
    some (.inl ((x182 + (bI x193)), (x183 + (bI x196)), x184, (x185 + 1), M192))
def f_X12_chance_b65 (a1 : Int32) (a2 : Int32) (r6 : Int32) : (Int32 × Int32 × Int32 × Mem) → Option ((Int32 × Int32 × Int32 × Mem) ⊕ (Int32 × Int32 × Mem)) := fun ((x151, x152, x153, M154) : (Int32 × Int32 × Int32 × Mem)) =>
  if 8 ≤ x153 then
    some (.inr (x151, x152, M154))
  else
    Option.bind (it (f_X12_chance_b75 a1 a2 r6) FU (x151, x152, x153, 0, M154)) fun ((x187, x188, x189, M190) : (Int32 × Int32 × Int32 × Mem)) =>
    some (.inl (x187, x188, (x189 + 1), M190))
def f_X12_chance (a1 : Int32) (a2 : Int32) (a3 : Int32) (a4 : Int32) (a5 : Int32) (M : Mem) : Option (Int32 × Mem) :=
  (f_X12_isPair a1 a2).bind fun (r1 : Bool) =>
  if r1 = true then
    (f_X12_isPlace a3 a4).bind fun (r2 : Bool) =>
    if r2 = true then
      (f_X12_in (Int32.toInt64 a5) 0 1).bind fun (r3 : Bool) =>
      if r3 = true then
        (f_X12_isCounted a1 a2 a3 a4 M).bind fun ((r4, M5) : (Bool × Mem)) =>
        if r4 = true then
          (f_X12_cost M5).bind fun (r6 : Int32) =>
          Option.bind (it (f_X12_chance_b65 a1 a2 r6) FU (0, 0, (-7), M5)) fun ((x155, x156, M157) : (Int32 × Int32 × Mem)) =>
          Option.bind (
            if a5 = 0 then
              some x156
            else
              some x155
          ) fun (x198 : Int32) =>
          (f_X12_common x156 x155).bind fun (r199 : Int32) =>
          if ¬ r199 = 0 then
            some ((x198 / r199), M157)
          else none
        else
          some ((-103), M5)
      else
        some ((-102), M)
    else
      some ((-102), M)
  else
    some ((-101), M)
def f_X12_asGreat (a1 : Int32) (a2 : Int32) (a3 : Int32) (a4 : Int32) (a5 : Int32) (M : Mem) : Option (Int32 × Mem) :=
  (f_X12_in (Int32.toInt64 a3) (-7) 7).bind fun (r1 : Bool) =>
  Option.bind (
    if r1 = true then
      (f_X12_lay a1 a2 a3 a4 M).bind fun ((r8, M9) : (Bool × Mem)) =>
      if r8 = true then
        some (true, M9)
      else
        some (false, M9)
    else
      some (false, M)
  ) fun ((x6, M7) : (Bool × Mem)) =>
  Option.bind (
    if x6 = true then
      (f_X12_onOf a1 a2 a3 a4 M7).bind fun (r13 : Int32) =>
      if r13 < a5 then
        some false
      else
        some true
    else
      some false
  ) fun (x12 : Bool) =>
  some ((bI x12), M7)
def f_X12_beside (a1 : Int32) (a2 : Int32) (a3 : Int32) (a4 : Int32) (M : Mem) : Option (Int32 × Mem) :=
  (f_X12_isPair a1 a2).bind fun (r1 : Bool) =>
  if r1 = true then
    (f_X12_isPlace a3 a4).bind fun (r2 : Bool) =>
    if r2 = true then
      (f_X12_lay a1 a2 a3 a4 M).bind fun ((r3, M4) : (Bool × Mem)) =>
      if r3 = true then
        (f_X12_onOf a1 a2 a3 a4 M4).bind fun (r5 : Int32) =>
        (f_X12_asGreat a1 a2 (a3 - 1) a4 r5 M4).bind fun ((r6, M7) : (Int32 × Mem)) =>
        (f_X12_asGreat a1 a2 (a3 + 1) a4 r5 M7).bind fun ((r8, M9) : (Int32 × Mem)) =>
        (f_X12_asGreat a1 a2 a3 (jrem (a4 + 15) 16) r5 M9).bind fun ((r10, M11) : (Int32 × Mem)) =>
        (f_X12_asGreat a1 a2 a3 (jrem (a4 + 1) 16) r5 M11).bind fun ((r12, M13) : (Int32 × Mem)) =>
        some ((((r6 + r8) + r10) + r12), M13)
      else
        some ((-103), M4)
    else
      some ((-102), M)
  else
    some ((-101), M)
def f_X12_letters_b11  : (Int32 × Bool × Int64 × Int32) → Option ((Int32 × Bool × Int64 × Int32) ⊕ (Int32 × Bool)) := fun ((x19, x20, x21, x22) : (Int32 × Bool × Int64 × Int32)) =>
  if 8 ≤ x22 then
    some (.inr (x19, x20))
  else
    Option.bind (
      if x20 = true then
        if 126 < (Int64.toInt32 (x21 &&& 255)) then
          some false
        else
          if (Int64.toInt32 (x21 &&& 255)) = 0 then
            some true
          else
            if x19 = x22 then
              some true
            else
              some false
      else
        some false
    ) fun (x25 : Bool) =>
    Option.bind (
      if (Int64.toInt32 (x21 &&& 255)) ≤ 0 then
        some false
      else
        some true
    ) fun (x26 : Bool) =>
    some (.inl ((x19 + (bI x26)), x25, (jlushr x21 8), (x22 + 1)))
def f_X12_letters_b108 (a1 : Int64) (x23 : Int32) : (Int32 × Mem) → Option ((Int32 × Mem) ⊕ Mem) := fun ((x33, M34) : (Int32 × Mem)) =>
  if x23 ≤ x33 then
    some (.inr M34)
  else
    if inb (M34 132 7) 50 = true then
      some (.inl ((x33 + 1), (up (up M34 138 (Int32.toNatClampNeg (M34 132 7)) (Int64.toInt32 ((jlushr a1 (8 * x33)) &&& 255))) 132 7 (((up M34 138 (Int32.toNatClampNeg (M34 132 7)) (Int64.toInt32 ((jlushr a1 (8 * x33)) &&& 255))) 132 7) + 1))))
    else none
def f_X12_letters (a1 : Int64) (M : Mem) : Option (Int32 × Mem) :=
  Option.bind (it (f_X12_letters_b11) FU (0, true, a1, 0)) fun ((x23, x24) : (Int32 × Bool)) =>
  if x24 = true then
    if ((M 132 7) + x23) ≤ 50 then
      Option.bind (it (f_X12_letters_b108 a1 x23) FU (0, M)) fun (M35 : Mem) =>
      some ((M35 132 7), M35)
    else
      some ((-104), M)
  else
    some ((-102), M)
def f_X12_blank  (M : Mem) : Option (Int32 × Mem) :=
  some ((M 132 7), (up M 132 7 0))
def f_X12_wayOf (a0 : Int32) : Option Int32 :=
  Option.bind (
    if a0 = 74 then
      some 0
    else
      if a0 = 66 then
        some 1
      else
        if a0 = 83 then
          some 2
        else
          if a0 = 67 then
            some 3
          else
            some (-1)
  ) fun (x1 : Int32) =>
  some x1
def f_X12_letterOf (a0 : Int32) : Option Int32 :=
  Option.bind (
    if a0 = 100 then
      some 0
    else
      if a0 = 101 then
        some 1
      else
        if a0 = 107 then
          some 2
        else
          some (-1)
  ) fun (x1 : Int32) =>
  some x1
def f_X12_layMark (a1 : Int32) (a2 : Int32) (M : Mem) : Option Mem :=
  if inb (M 132 22) 50 = true then
    if inb ((up M 145 (Int32.toNatClampNeg (M 132 22)) a1) 132 22) 50 = true then
      some (up (up (up M 145 (Int32.toNatClampNeg (M 132 22)) a1) 146 (Int32.toNatClampNeg ((up M 145 (Int32.toNatClampNeg (M 132 22)) a1) 132 22)) a2) 132 22 (((up (up M 145 (Int32.toNatClampNeg (M 132 22)) a1) 146 (Int32.toNatClampNeg ((up M 145 (Int32.toNatClampNeg (M 132 22)) a1) 132 22)) a2) 132 22) + 1))
    else none
  else none
def f_X12_layDown_b0 (a1 : Int32) : Mem → Option (Mem ⊕ Mem) := fun (M5 : Mem) =>
  if (M5 132 24) ≤ 0 then
    some (.inr M5)
  else
    if inb ((M5 132 24) - 1) 50 = true then
      if a1 < (M5 147 (Int32.toNatClampNeg ((M5 132 24) - 1))) then
        some (.inr M5)
      else
        if inb ((up M5 132 24 ((M5 132 24) - 1)) 132 24) 50 = true then
          (f_X12_layMark ((up M5 132 24 ((M5 132 24) - 1)) 147 (Int32.toNatClampNeg ((up M5 132 24 ((M5 132 24) - 1)) 132 24))) 0 (up M5 132 24 ((M5 132 24) - 1))).bind fun (M9 : Mem) =>
          some (.inl M9)
        else none
    else none
def f_X12_layDown (a1 : Int32) (M : Mem) : Option Mem :=
  Option.bind (it (f_X12_layDown_b0 a1) FU M) fun (M6 : Mem) =>
  some M6
def f_X12_endNumber  (M : Mem) : Option Mem :=
  (f_X12_layMark ((3 * (M 132 17)) + (M 132 18)) (M 132 19) M).bind fun (M1 : Mem) =>
  some (up M1 132 14 9)
def f_X12_goBehind_j14_0 (a1 : Int32) (M : Mem)  : Option (Bool × Mem) :=
  Option.bind (
    if (M 132 14) = 8 then
      (f_X12_endNumber M).bind fun (M20 : Mem) =>
      some M20
    else
      some M
  ) fun (M19 : Mem) =>
  Option.bind (
    if a1 = 38 then
      some 10
    else
      some 11
  ) fun (x21 : Int32) =>
  (f_X12_layDown x21 M19).bind fun (M22 : Mem) =>
  Option.bind (
    if a1 = 38 then
      some 10
    else
      some 11
  ) fun (x23 : Int32) =>
  if inb (M22 132 24) 50 = true then
    some (true, (up (up (up M22 147 (Int32.toNatClampNeg (M22 132 24)) x23) 132 24 (((up M22 147 (Int32.toNatClampNeg (M22 132 24)) x23) 132 24) + 1)) 132 14 5))
  else none
def f_X12_goBehind (a1 : Int32) (M : Mem) : Option (Bool × Mem) :=
  if a1 = 38 then
    f_X12_goBehind_j14_0 a1 M
  else
    if a1 = 124 then
      f_X12_goBehind_j14_0 a1 M
    else
      some (false, M)
def f_X12_go (a1 : Int32) (M : Mem) : Option (Bool × Mem) :=
  (f_X12_in (Int32.toInt64 a1) 48 57).bind fun (r1 : Bool) =>
  if (M 132 14) = 0 then
    (f_X12_wayOf a1).bind fun (r2 : Int32) =>
    Option.bind (
      if ((up (up M 132 15 r2) 132 14 1) 132 15) = (-1) then
        some false
      else
        some true
    ) fun (x3 : Bool) =>
    some (x3, (up (up M 132 15 r2) 132 14 1))
  else
    if (M 132 14) = 1 then
      Option.bind (
        if a1 = 58 then
          some true
        else
          some false
      ) fun (x4 : Bool) =>
      some (x4, (up M 132 14 2))
    else
      if (M 132 14) = 2 then
        some (r1, (up (up M 132 16 (a1 - 48)) 132 14 3))
      else
        if (M 132 14) = 3 then
          Option.bind (
            if r1 = true then
              some (((10 * (M 132 16)) + a1) - 48)
            else
              some (M 132 16)
          ) fun (x5 : Int32) =>
          Option.bind (
            if r1 = true then
              some 4
            else
              some 5
          ) fun (x6 : Int32) =>
          Option.bind (
            if r1 = true then
              some true
            else
              if a1 = 63 then
                some true
              else
                some false
          ) fun (x7 : Bool) =>
          some (x7, (up (up M 132 16 x5) 132 14 x6))
        else
          if (M 132 14) = 4 then
            Option.bind (
              if a1 = 63 then
                some true
              else
                some false
            ) fun (x8 : Bool) =>
            some (x8, (up M 132 14 5))
          else
            if (M 132 14) = 5 then
              if a1 = 33 then
                if inb (M 132 24) 50 = true then
                  some (true, (up (up M 147 (Int32.toNatClampNeg (M 132 24)) 9) 132 24 (((up M 147 (Int32.toNatClampNeg (M 132 24)) 9) 132 24) + 1)))
                else none
              else
                (f_X12_letterOf a1).bind fun (r9 : Int32) =>
                Option.bind (
                  if ((up (up M 132 17 r9) 132 14 6) 132 17) = (-1) then
                    some false
                  else
                    some true
                ) fun (x10 : Bool) =>
                some (x10, (up (up M 132 17 r9) 132 14 6))
            else
              if (M 132 14) = 6 then
                Option.bind (
                  if a1 = 60 then
                    some 0
                  else
                    if a1 = 61 then
                      some 1
                    else
                      some 2
                ) fun (x12 : Int32) =>
                Option.bind (
                  if a1 = 60 then
                    some true
                  else
                    if a1 = 61 then
                      some true
                    else
                      if a1 = 62 then
                        some true
                      else
                        some false
                ) fun (x13 : Bool) =>
                some (x13, (up (up M 132 18 x12) 132 14 7))
              else
                if (M 132 14) = 7 then
                  some (r1, (up (up M 132 19 (a1 - 48)) 132 14 8))
                else
                  if (M 132 14) = 8 then
                    if r1 = true then
                      (f_X12_endNumber (up M 132 19 (((10 * (M 132 19)) + a1) - 48))).bind fun (M16 : Mem) =>
                      some (true, M16)
                    else
                      (f_X12_goBehind a1 M).bind fun ((r14, M15) : (Bool × Mem)) =>
                      some (r14, M15)
                  else
                    (f_X12_goBehind a1 M).bind fun ((r17, M18) : (Bool × Mem)) =>
                    some (r17, M18)
def f_X12_faultOf_b17  : (Int32 × Mem) → Option ((Int32 × Mem) ⊕ (Int32 × Mem)) := fun ((x16, M17) : (Int32 × Mem)) =>
  if (M17 132 7) ≤ x16 then
    some (.inr (x16, M17))
  else
    if inb x16 50 = true then
      (f_X12_go (M17 138 (Int32.toNatClampNeg x16)) M17).bind fun ((r21, M22) : (Bool × Mem)) =>
      if r21 = true then
        some (.inl ((x16 + 1), M22))
      else
        some (.inr (x16, M22))
    else none
def f_X12_faultOf  (M : Mem) : Option (Int32 × Mem) :=
  Option.bind (it (f_X12_faultOf_b17) FU (0, (up (up (up M 132 14 0) 132 22 0) 132 24 0))) fun ((x18, M19) : (Int32 × Mem)) =>
  some (x18, M19)
def f_X12_fault  (M : Mem) : Option (Int32 × Mem) :=
  (f_X12_faultOf M).bind fun ((r1, M2) : (Int32 × Mem)) =>
  some (r1, M2)
def f_X12_isHolder (a0 : Int32) : Option Bool :=
  (f_X12_in (Int32.toInt64 a0) 0 1).bind fun (r1 : Bool) =>
  some r1
def f_X12_law_b126 (a1 : Int32) (M49 : Mem) : (Int32 × Mem) → Option ((Int32 × Mem) ⊕ Mem) := fun ((x59, M60) : (Int32 × Mem)) =>
  if (M60 132 22) ≤ x59 then
    some (.inr M60)
  else
    if inb x59 50 = true then
      if inb ((50 * ((8 * a1) + (M49 139 (Int32.toNatClampNeg a1)))) + x59) 800 = true then
        some (.inl ((x59 + 1), (up (up M60 143 (Int32.toNatClampNeg ((50 * ((8 * a1) + (M49 139 (Int32.toNatClampNeg a1)))) + x59)) (M60 145 (Int32.toNatClampNeg x59))) 144 (Int32.toNatClampNeg ((50 * ((8 * a1) + (M49 139 (Int32.toNatClampNeg a1)))) + x59)) ((up M60 143 (Int32.toNatClampNeg ((50 * ((8 * a1) + (M49 139 (Int32.toNatClampNeg a1)))) + x59)) (M60 145 (Int32.toNatClampNeg x59))) 146 (Int32.toNatClampNeg x59)))))
      else none
    else none
def f_X12_law_j49_1 (a1 : Int32) (M3 : Mem)  : Option (Int32 × Mem) :=
  if inb a1 2 = true then
    if (M3 139 (Int32.toNatClampNeg a1)) = 8 then
      some ((-104), M3)
    else
      Option.bind (
        if (M3 132 14) = 8 then
          (f_X12_endNumber M3).bind fun (M48 : Mem) =>
          some M48
        else
          some M3
      ) fun (M47 : Mem) =>
      (f_X12_layDown 11 M47).bind fun (M49 : Mem) =>
      if inb ((8 * a1) + (M49 139 (Int32.toNatClampNeg a1))) 16 = true then
        Option.bind (it (f_X12_law_b126 a1 M49) FU (0, (up (up (up M49 140 (Int32.toNatClampNeg ((8 * a1) + (M49 139 (Int32.toNatClampNeg a1)))) (M49 132 15)) 141 (Int32.toNatClampNeg ((8 * a1) + (M49 139 (Int32.toNatClampNeg a1)))) ((up M49 140 (Int32.toNatClampNeg ((8 * a1) + (M49 139 (Int32.toNatClampNeg a1)))) (M49 132 15)) 132 16)) 142 (Int32.toNatClampNeg ((8 * a1) + (M49 139 (Int32.toNatClampNeg a1)))) ((up (up M49 140 (Int32.toNatClampNeg ((8 * a1) + (M49 139 (Int32.toNatClampNeg a1)))) (M49 132 15)) 141 (Int32.toNatClampNeg ((8 * a1) + (M49 139 (Int32.toNatClampNeg a1)))) ((up M49 140 (Int32.toNatClampNeg ((8 * a1) + (M49 139 (Int32.toNatClampNeg a1)))) (M49 132 15)) 132 16)) 132 22)))) fun (M61 : Mem) =>
        some (((up (up M61 139 (Int32.toNatClampNeg a1) ((M61 139 (Int32.toNatClampNeg a1)) + 1)) 132 7 0) 139 (Int32.toNatClampNeg a1)), (up (up M61 139 (Int32.toNatClampNeg a1) ((M61 139 (Int32.toNatClampNeg a1)) + 1)) 132 7 0))
      else none
  else none
def f_X12_law (a1 : Int32) (M : Mem) : Option (Int32 × Mem) :=
  (f_X12_isHolder a1).bind fun (r1 : Bool) =>
  if r1 = true then
    (f_X12_faultOf M).bind fun ((r2, M3) : (Int32 × Mem)) =>
    if r2 < (M3 132 7) then
      some ((-103), M3)
    else
      if (M3 132 14) = 3 then
        f_X12_law_j49_1 a1 M3
      else
        if (M3 132 14) = 4 then
          f_X12_law_j49_1 a1 M3
        else
          if 8 ≤ (M3 132 14) then
            f_X12_law_j49_1 a1 M3
          else
            some ((-103), M3)
  else
    some ((-101), M)
def f_X12_strike (a1 : Int32) (M : Mem) : Option (Int32 × Mem) :=
  (f_X12_isHolder a1).bind fun (r1 : Bool) =>
  if r1 = true then
    if inb a1 2 = true then
      if (M 139 (Int32.toNatClampNeg a1)) = 0 then
        some ((-103), M)
      else
        some (((up M 139 (Int32.toNatClampNeg a1) ((M 139 (Int32.toNatClampNeg a1)) - 1)) 139 (Int32.toNatClampNeg a1)), (up M 139 (Int32.toNatClampNeg a1) ((M 139 (Int32.toNatClampNeg a1)) - 1)))
    else none
  else
    some ((-101), M)
def f_X12_holdsFor_b6 (a1 : Int32) (a2 : Int32) (a3 : Int32) (a4 : Int32) : (Int32 × Int32 × Mem) → Option ((Int32 × Int32 × Mem) ⊕ (Int32 × Mem)) := fun ((x193, x194, M195) : (Int32 × Int32 × Mem)) =>
  if inb a1 16 = true then
    if (M195 142 (Int32.toNatClampNeg a1)) ≤ x194 then
      some (.inr (x193, M195))
    else
      if inb ((50 * a1) + x194) 800 = true then
        Option.bind (
          if 9 ≤ (M195 143 (Int32.toNatClampNeg ((50 * a1) + x194))) then
            if (M195 143 (Int32.toNatClampNeg ((50 * a1) + x194))) = 9 then
              if inb (x193 - 1) 51 = true then
                Option.bind (
                  if (M195 148 (Int32.toNatClampNeg (x193 - 1))) = 0 then
                    some true
                  else
                    some false
                ) fun (x255 : Bool) =>
                some (x193, (up M195 148 (Int32.toNatClampNeg (x193 - 1)) (bI x255)))
              else none
            else
              Option.bind (
                if (M195 143 (Int32.toNatClampNeg ((50 * a1) + x194))) = 10 then
                  if inb ((x193 + (-1)) - 1) 51 = true then
                    if (M195 148 (Int32.toNatClampNeg ((x193 + (-1)) - 1))) = 0 then
                      some false
                    else
                      if inb (x193 + (-1)) 51 = true then
                        if (M195 148 (Int32.toNatClampNeg (x193 + (-1)))) = 0 then
                          some false
                        else
                          some true
                      else none
                  else none
                else
                  if inb ((x193 + (-1)) - 1) 51 = true then
                    if (M195 148 (Int32.toNatClampNeg ((x193 + (-1)) - 1))) = 0 then
                      if inb (x193 + (-1)) 51 = true then
                        if (M195 148 (Int32.toNatClampNeg (x193 + (-1)))) = 0 then
                          some false
                        else
                          some true
                      else none
                    else
                      some true
                  else none
              ) fun (x248 : Bool) =>
              if inb ((x193 + (-1)) - 1) 51 = true then
                some ((x193 + (-1)), (up M195 148 (Int32.toNatClampNeg ((x193 + (-1)) - 1)) (bI x248)))
              else none
          else
            Option.bind (
              if ((M195 143 (Int32.toNatClampNeg ((50 * a1) + x194))) / 3) = 0 then
                some a2
              else
                if ((M195 143 (Int32.toNatClampNeg ((50 * a1) + x194))) / 3) = 1 then
                  some a3
                else
                  some a4
            ) fun (x256 : Int32) =>
            Option.bind (
              if (jrem (M195 143 (Int32.toNatClampNeg ((50 * a1) + x194))) 3) = 0 then
                if (M195 144 (Int32.toNatClampNeg ((50 * a1) + x194))) ≤ x256 then
                  some false
                else
                  some true
              else
                if (jrem (M195 143 (Int32.toNatClampNeg ((50 * a1) + x194))) 3) = 1 then
                  if x256 = (M195 144 (Int32.toNatClampNeg ((50 * a1) + x194))) then
                    some true
                  else
                    some false
                else
                  if x256 ≤ (M195 144 (Int32.toNatClampNeg ((50 * a1) + x194))) then
                    some false
                  else
                    some true
            ) fun (x257 : Bool) =>
            if inb x193 51 = true then
              some ((x193 + 1), (up M195 148 (Int32.toNatClampNeg x193) (bI x257)))
            else none
        ) fun ((x238, M239) : (Int32 × Mem)) =>
        some (.inl (x238, (x194 + 1), M239))
      else none
  else none
def f_X12_holdsFor (a1 : Int32) (a2 : Int32) (a3 : Int32) (a4 : Int32) (M : Mem) : Option (Bool × Mem) :=
  Option.bind (it (f_X12_holdsFor_b6 a1 a2 a3 a4) FU (0, 0, M)) fun ((x196, M197) : (Int32 × Mem)) =>
  Option.bind (
    if x196 = 0 then
      some true
    else
      if (M197 148 (Int32.toNatClampNeg 0)) = 0 then
        some false
      else
        some true
  ) fun (x259 : Bool) =>
  some (x259, M197)
def f_X12_apart (a0 : Int32) (a1 : Int32) : Option Int32 :=
  (f_X12_off (jrem a0 16) (jrem a1 16)).bind fun (r1 : Int32) =>
  (f_X12_off (a0 / 16) (a1 / 16)).bind fun (r2 : Int32) =>
  Option.bind (
    if r1 ≤ 8 then
      some r1
    else
      some (16 - r1)
  ) fun (x3 : Int32) =>
  some (r2 + x3)
def f_X12_distanceOf_b17 (a1 : Int32) (a2 : Int32) (M : Mem) : (Int32 × Int32 × Int32) → Option ((Int32 × Int32 × Int32) ⊕ (Int32 × Int32)) := fun ((x108, x109, x110) : (Int32 × Int32 × Int32)) =>
  if 128 ≤ x110 then
    some (.inr (x108, x109))
  else
    if inb x109 128 = true then
      if (M 133 (Int32.toNatClampNeg x109)) = a1 then
        if inb x110 128 = true then
          Option.bind (
            if (M 133 (Int32.toNatClampNeg x110)) = a2 then
              (f_X12_apart x109 x110).bind fun (r120 : Int32) =>
              Option.bind (
                if x108 ≤ r120 then
                  some x108
                else
                  some r120
              ) fun (x121 : Int32) =>
              some x121
            else
              some x108
          ) fun (x119 : Int32) =>
          some (.inl (x119, x109, (x110 + 1)))
        else none
      else
        some (.inr (x108, x109))
    else none
def f_X12_distanceOf_b6 (a1 : Int32) (a2 : Int32) (M : Mem) : (Int32 × Int32) → Option ((Int32 × Int32) ⊕ Int32) := fun ((x81, x82) : (Int32 × Int32)) =>
  if 128 ≤ x82 then
    some (.inr x81)
  else
    Option.bind (it (f_X12_distanceOf_b17 a1 a2 M) FU (x81, x82, 0)) fun ((x111, x112) : (Int32 × Int32)) =>
    some (.inl (x111, (x112 + 1)))
def f_X12_distanceOf (a1 : Int32) (a2 : Int32) (M : Mem) : Option Int32 :=
  Option.bind (it (f_X12_distanceOf_b6 a1 a2 M) FU (99, 0)) fun (x83 : Int32) =>
  some x83
def f_X12_distance (a1 : Int32) (a2 : Int32) (M : Mem) : Option Int32 :=
  (f_X12_isPair a1 a2).bind fun (r1 : Bool) =>
  Option.bind (
    if r1 = true then
      (f_X12_distanceOf a1 a2 M).bind fun (r5 : Int32) =>
      some r5
    else
      some (-101)
  ) fun (x4 : Int32) =>
  some x4
def f_X12_beast (a1 : Int32) (a2 : Int32) (M : Mem) : Option (Int32 × Mem) :=
  (f_X12_in (Int32.toInt64 a1) 1 63).bind fun (r1 : Bool) =>
  if r1 = true then
    (f_X12_in (Int32.toInt64 a2) 0 9).bind fun (r2 : Bool) =>
    if r2 = true then
      if (M 132 26) = 8 then
        some ((-104), M)
      else
        if inb (M 132 26) 8 = true then
          if inb ((up M 149 (Int32.toNatClampNeg (M 132 26)) a1) 132 26) 8 = true then
            some ((((up (up (up M 149 (Int32.toNatClampNeg (M 132 26)) a1) 150 (Int32.toNatClampNeg ((up M 149 (Int32.toNatClampNeg (M 132 26)) a1) 132 26)) a2) 132 26 (((up (up M 149 (Int32.toNatClampNeg (M 132 26)) a1) 150 (Int32.toNatClampNeg ((up M 149 (Int32.toNatClampNeg (M 132 26)) a1) 132 26)) a2) 132 26) + 1)) 132 26) - 1), (up (up (up M 149 (Int32.toNatClampNeg (M 132 26)) a1) 150 (Int32.toNatClampNeg ((up M 149 (Int32.toNatClampNeg (M 132 26)) a1) 132 26)) a2) 132 26 (((up (up M 149 (Int32.toNatClampNeg (M 132 26)) a1) 150 (Int32.toNatClampNeg ((up M 149 (Int32.toNatClampNeg (M 132 26)) a1) 132 26)) a2) 132 26) + 1)))
          else none
        else none
    else
      some ((-102), M)
  else
    some ((-102), M)
def f_X12_wayCost_b9 (a1 : Int32) (a2 : Int32) (a3 : Int32) (a4 : Int32) : (Int32 × Int32 × Mem) → Option ((Int32 × Int32 × Mem) ⊕ (Int32 × Mem)) := fun ((x41, x42, M43) : (Int32 × Int32 × Mem)) =>
  if inb a1 2 = true then
    if ((8 * a1) + (M43 139 (Int32.toNatClampNeg a1))) ≤ x42 then
      some (.inr (x41, M43))
    else
      if inb x42 16 = true then
        Option.bind (
          if (M43 140 (Int32.toNatClampNeg x42)) = a4 then
            if inb a2 8 = true then
              (f_X12_bitsOf (M43 149 (Int32.toNatClampNeg a2))).bind fun (r59 : Int32) =>
              (f_X12_holdsFor x42 a3 (M43 150 (Int32.toNatClampNeg a2)) r59 M43).bind fun ((r60, M61) : (Bool × Mem)) =>
              if r60 = true then
                some (true, M61)
              else
                some (false, M61)
            else none
          else
            some (false, M43)
        ) fun ((x56, M57) : (Bool × Mem)) =>
        Option.bind (
          if x56 = true then
            some (M57 141 (Int32.toNatClampNeg x42))
          else
            some x41
        ) fun (x62 : Int32) =>
        some (.inl (x62, (x42 + 1), M57))
      else none
  else none
def f_X12_wayCost (a1 : Int32) (a2 : Int32) (a3 : Int32) (a4 : Int32) (M : Mem) : Option (Int32 × Mem) :=
  Option.bind (it (f_X12_wayCost_b9 a1 a2 a3 a4) FU ((-1), (8 * a1), M)) fun ((x44, M45) : (Int32 × Mem)) =>
  Option.bind (
    if a4 = 0 then
      if a3 = 1 then
        some x44
      else
        some (-1)
    else
      some x44
  ) fun (x63 : Int32) =>
  some (x63, M45)
def f_X12_crossingOf_b20 (a1 : Int32) (a2 : Int32) (r1 : Int32) : (Int32 × Int32 × Mem) → Option ((Int32 × Int32 × Mem) ⊕ (Int32 × Mem)) := fun ((x16, x17, M18) : (Int32 × Int32 × Mem)) =>
  if 4 ≤ x17 then
    some (.inr (x16, M18))
  else
    (f_X12_wayCost a1 a2 r1 x17 M18).bind fun ((r21, M22) : (Int32 × Mem)) =>
    Option.bind (
      if r21 = (-1) then
        some (x16, M22)
      else
        if x16 = (-1) then
          some (r21, (up M22 132 29 x17))
        else
          if x16 ≤ r21 then
            some (x16, M22)
          else
            some (r21, (up M22 132 29 x17))
    ) fun ((x23, M24) : (Int32 × Mem)) =>
    some (.inl (x23, (x17 + 1), M24))
def f_X12_crossingOf (a1 : Int32) (a2 : Int32) (a3 : Int32) (a4 : Int32) (M : Mem) : Option (Int32 × Mem) :=
  (f_X12_distanceOf a3 a4 M).bind fun (r1 : Int32) =>
  Option.bind (it (f_X12_crossingOf_b20 a1 a2 r1) FU ((-1), 0, (up M 132 29 (-1)))) fun ((x19, M20) : (Int32 × Mem)) =>
  some (x19, M20)
def f_X12_isBeast (a1 : Int32) (M : Mem) : Option Bool :=
  (f_X12_in (Int32.toInt64 a1) 0 (Int32.toInt64 ((M 132 26) - 1))).bind fun (r1 : Bool) =>
  some r1
def f_X12_crossing (a1 : Int32) (a2 : Int32) (a3 : Int32) (a4 : Int32) (a5 : Int32) (M : Mem) : Option (Int32 × Mem) :=
  (f_X12_isHolder a1).bind fun (r1 : Bool) =>
  if r1 = true then
    (f_X12_isBeast a2 M).bind fun (r2 : Bool) =>
    if r2 = true then
      (f_X12_isPair a3 a4).bind fun (r3 : Bool) =>
      if r3 = true then
        (f_X12_in (Int32.toInt64 a5) 0 1).bind fun (r4 : Bool) =>
        if r4 = true then
          (f_X12_crossingOf a1 a2 a3 a4 M).bind fun ((r5, M6) : (Int32 × Mem)) =>
          Option.bind (
            if a5 = 0 then
              some r5
            else
              some (M6 132 29)
          ) fun (x7 : Int32) =>
          some (x7, M6)
        else
          some ((-102), M)
      else
        some ((-101), M)
    else
      some ((-101), M)
  else
    some ((-101), M)
def f_X12_layBetween_b11 (a1 : Int32) (a2 : Int32) : (Int32 × Int32 × Mem) → Option ((Int32 × Int32 × Mem) ⊕ (Int32 × Mem)) := fun ((x116, x117, M118) : (Int32 × Int32 × Mem)) =>
  if 6 ≤ x117 then
    some (.inr (x116, M118))
  else
    Option.bind (
      if x116 = x117 then
        some ((-1), M118)
      else
        (f_X12_crossingOf a1 a2 x116 x117 M118).bind fun ((r127, M128) : (Int32 × Mem)) =>
        some (r127, M128)
    ) fun ((x125, M126) : (Int32 × Mem)) =>
    Option.bind (
      if x125 = (-1) then
        some 100000
      else
        some x125
    ) fun (x129 : Int32) =>
    if inb ((6 * x116) + x117) 36 = true then
      some (.inl (x116, (x117 + 1), (up M126 151 (Int32.toNatClampNeg ((6 * x116) + x117)) x129)))
    else none
def f_X12_layBetween_b2 (a1 : Int32) (a2 : Int32) : (Int32 × Mem) → Option ((Int32 × Mem) ⊕ Mem) := fun ((x87, M88) : (Int32 × Mem)) =>
  if 6 ≤ x87 then
    some (.inr M88)
  else
    Option.bind (it (f_X12_layBetween_b11 a1 a2) FU (x87, 0, M88)) fun ((x119, M120) : (Int32 × Mem)) =>
    some (.inl ((x119 + 1), M120))
def f_X12_layBetween (a1 : Int32) (a2 : Int32) (M : Mem) : Option Mem :=
  Option.bind (it (f_X12_layBetween_b2 a1 a2) FU (0, M)) fun (M89 : Mem) =>
  some M89
def f_X12_joined_b33 (a1 : Int32) (x505 : Int32) (M : Mem) : (Int32 × Int32 × Int32 × Int32) → Option ((Int32 × Int32 × Int32 × Int32) ⊕ (Int32 × Int32 × Int32)) := fun ((x661, x662, x663, x664) : (Int32 × Int32 × Int32 × Int32)) =>
  if 6 ≤ x664 then
    some (.inr (x661, x662, x663))
  else
    Option.bind (
      if ((jshr x505 x663) &&& 1) = 1 then
        if ((jshr x505 x664) &&& 1) = 0 then
          if ((jshr a1 x664) &&& 1) = 1 then
            some true
          else
            some false
        else
          some false
      else
        some false
    ) fun (x668 : Bool) =>
    Option.bind (
      if x668 = true then
        if inb ((6 * x663) + x664) 36 = true then
          if x661 ≤ (M 151 (Int32.toNatClampNeg ((6 * x663) + x664))) then
            some (x661, x662)
          else
            some ((M 151 (Int32.toNatClampNeg ((6 * x663) + x664))), x664)
        else none
      else
        some (x661, x662)
    ) fun ((x671, x672) : (Int32 × Int32)) =>
    some (.inl (x671, x672, x663, (x664 + 1)))
def f_X12_joined_b23 (a1 : Int32) (x505 : Int32) (M : Mem) : (Int32 × Int32 × Int32) → Option ((Int32 × Int32 × Int32) ⊕ (Int32 × Int32)) := fun ((x636, x637, x638) : (Int32 × Int32 × Int32)) =>
  if 6 ≤ x638 then
    some (.inr (x636, x637))
  else
    Option.bind (it (f_X12_joined_b33 a1 x505 M) FU (x636, x637, x638, 0)) fun ((x665, x666, x667) : (Int32 × Int32 × Int32)) =>
    some (.inl (x665, x666, (x667 + 1)))
def f_X12_joined_b7 (a1 : Int32) (M : Mem) : (Int32 × Int32) → Option ((Int32 × Int32) ⊕ (Int32 ⊕ Int32)) := fun ((x505, x506) : (Int32 × Int32)) =>
  if x505 = a1 then
    some (.inr (.inl x506))
  else
    Option.bind (it (f_X12_joined_b23 a1 x505 M) FU (100000, 0, 0)) fun ((x639, x640) : (Int32 × Int32)) =>
    if x639 = 100000 then
      some (.inr (.inr 100000))
    else
      some (.inl ((x505 ||| (jshl 1 x640)), (x506 + x639)))
def f_X12_joined (a1 : Int32) (M : Mem) : Option Int32 :=
  Option.bind (it (f_X12_joined_b7 a1 M) FU ((a1 &&& (-a1)), 0)) fun (zr : (Int32 ⊕ Int32)) => match zr with
  | .inr v => some v
  | .inl x507 =>
    some x507
def f_X12_findSpread_b28 (a2 : Int32) (M1 : Mem) : (Int32 × Mem) → Option ((Int32 × Mem) ⊕ Mem) := fun ((x69, M70) : (Int32 × Mem)) =>
  if 64 ≤ x69 then
    some (.inr M70)
  else
    Option.bind (
      if (x69 &&& ((up (up M1 132 31 100000) 132 32 (-1)) 149 (Int32.toNatClampNeg a2))) = 0 then
        (f_X12_joined (((up (up M1 132 31 100000) 132 32 (-1)) 149 (Int32.toNatClampNeg a2)) ||| x69) M70).bind fun (r93 : Int32) =>
        Option.bind (
          if r93 = (M70 132 31) then
            if 100000 ≤ r93 then
              some false
            else
              (f_X12_bitsOf x69).bind fun (r99 : Int32) =>
              (f_X12_bitsOf (M70 132 32)).bind fun (r100 : Int32) =>
              if r100 ≤ r99 then
                some false
              else
                some true
          else
            some false
        ) fun (x98 : Bool) =>
        Option.bind (
          if r93 < (M70 132 31) then
            some x69
          else
            if x98 = true then
              some x69
            else
              some (M70 132 32)
        ) fun (x101 : Int32) =>
        Option.bind (
          if ((up M70 132 32 x101) 132 31) ≤ r93 then
            some ((up M70 132 32 x101) 132 31)
          else
            some r93
        ) fun (x102 : Int32) =>
        some (up (up M70 132 32 x101) 132 31 x102)
      else
        some M70
    ) fun (M92 : Mem) =>
    some (.inl ((x69 + 1), M92))
def f_X12_findSpread (a1 : Int32) (a2 : Int32) (M : Mem) : Option Mem :=
  (f_X12_layBetween a1 a2 M).bind fun (M1 : Mem) =>
  if inb a2 8 = true then
    Option.bind (it (f_X12_findSpread_b28 a2 M1) FU (0, (up (up M1 132 31 100000) 132 32 (-1)))) fun (M71 : Mem) =>
    Option.bind (
      if (M71 132 31) = 100000 then
        some (-1)
      else
        some (M71 132 31)
    ) fun (x103 : Int32) =>
    some (up M71 132 31 x103)
  else none
def f_X12_spreadOf (a1 : Int32) (a2 : Int32) (M : Mem) : Option (Int32 × Mem) :=
  (f_X12_findSpread a1 a2 M).bind fun (M1 : Mem) =>
  some ((M1 132 31), M1)
def f_X12_spread (a1 : Int32) (a2 : Int32) (a3 : Int32) (M : Mem) : Option (Int32 × Mem) :=
  (f_X12_isHolder a1).bind fun (r1 : Bool) =>
  if r1 = true then
    (f_X12_isBeast a2 M).bind fun (r2 : Bool) =>
    if r2 = true then
      (f_X12_in (Int32.toInt64 a3) 0 1).bind fun (r3 : Bool) =>
      if r3 = true then
        (f_X12_findSpread a1 a2 M).bind fun (M4 : Mem) =>
        Option.bind (
          if a3 = 0 then
            some (M4 132 31)
          else
            some (M4 132 32)
        ) fun (x5 : Int32) =>
        some (x5, M4)
      else
        some ((-102), M)
    else
      some ((-101), M)
  else
    some ((-101), M)
def f_X12_unlike_b23  : (Int32 × Int32 × Int32 × Int32 × Mem) → Option ((Int32 × Int32 × Int32 × Int32 × Mem) ⊕ (Int32 × Int32 × Mem)) := fun ((x83, x84, x85, x86, M87) : (Int32 × Int32 × Int32 × Int32 × Mem)) =>
  if (M87 132 26) ≤ x86 then
    some (.inr (x83, x84, M87))
  else
    (f_X12_spreadOf 0 x86 M87).bind fun ((r91, M92) : (Int32 × Mem)) =>
    (f_X12_spreadOf 1 x86 M92).bind fun ((r93, M94) : (Int32 × Mem)) =>
    Option.bind (
      if r91 = r93 then
        some (x83, x84, x85)
      else
        Option.bind (
          if r91 = (-1) then
            some 999
          else
            some r91
        ) fun (x108 : Int32) =>
        Option.bind (
          if r93 = (-1) then
            some 999
          else
            some r93
        ) fun (x109 : Int32) =>
        (f_X12_off x108 x109).bind fun (r110 : Int32) =>
        Option.bind (
          if r110 ≤ x85 then
            some x84
          else
            some x86
        ) fun (x111 : Int32) =>
        Option.bind (
          if r110 ≤ x85 then
            some x85
          else
            some r110
        ) fun (x112 : Int32) =>
        some ((x83 + 1), x111, x112)
    ) fun ((x105, x106, x107) : (Int32 × Int32 × Int32)) =>
    some (.inl (x105, x106, x107, (x86 + 1), M94))
def f_X12_unlike (a1 : Int32) (M : Mem) : Option (Int32 × Mem) :=
  (f_X12_in (Int32.toInt64 a1) 0 1).bind fun (r1 : Bool) =>
  if r1 = true then
    Option.bind (it (f_X12_unlike_b23) FU (0, (-1), (-1), 0, M)) fun ((x88, x89, M90) : (Int32 × Int32 × Mem)) =>
    Option.bind (
      if a1 = 0 then
        some x88
      else
        some x89
    ) fun (x113 : Int32) =>
    some (x113, M90)
  else
    some ((-102), M)
def f_X12_speed (a1 : Int32) (M : Mem) : Option (Int32 × Mem) :=
  (f_X12_in (Int32.toInt64 a1) 0 7).bind fun (r1 : Bool) =>
  if r1 = true then
    some ((M 132 33), (up M 132 33 a1))
  else
    some ((-102), M)
def f_X12_claim (a1 : Int32) (a2 : Int32) (a3 : Int32) (a4 : Bool) (a5 : Int32) (M : Mem) : Option (Int32 × Mem) :=
  (f_X12_isPair a1 a2).bind fun (r1 : Bool) =>
  if r1 = true then
    (f_X12_in (Int32.toInt64 a3) 0 9).bind fun (r2 : Bool) =>
    if r2 = true then
      (f_X12_in (Int32.toInt64 a5) 1 99).bind fun (r3 : Bool) =>
      if r3 = true then
        if (M 132 34) = 12 then
          some ((-104), M)
        else
          if inb (M 132 34) 12 = true then
            if inb ((up M 152 (Int32.toNatClampNeg (M 132 34)) a1) 132 34) 12 = true then
              if inb ((up (up M 152 (Int32.toNatClampNeg (M 132 34)) a1) 153 (Int32.toNatClampNeg ((up M 152 (Int32.toNatClampNeg (M 132 34)) a1) 132 34)) a2) 132 34) 12 = true then
                if inb ((up (up (up M 152 (Int32.toNatClampNeg (M 132 34)) a1) 153 (Int32.toNatClampNeg ((up M 152 (Int32.toNatClampNeg (M 132 34)) a1) 132 34)) a2) 154 (Int32.toNatClampNeg ((up (up M 152 (Int32.toNatClampNeg (M 132 34)) a1) 153 (Int32.toNatClampNeg ((up M 152 (Int32.toNatClampNeg (M 132 34)) a1) 132 34)) a2) 132 34)) a3) 132 34) 12 = true then
                  if inb ((up (up (up (up M 152 (Int32.toNatClampNeg (M 132 34)) a1) 153 (Int32.toNatClampNeg ((up M 152 (Int32.toNatClampNeg (M 132 34)) a1) 132 34)) a2) 154 (Int32.toNatClampNeg ((up (up M 152 (Int32.toNatClampNeg (M 132 34)) a1) 153 (Int32.toNatClampNeg ((up M 152 (Int32.toNatClampNeg (M 132 34)) a1) 132 34)) a2) 132 34)) a3) 155 (Int32.toNatClampNeg ((up (up (up M 152 (Int32.toNatClampNeg (M 132 34)) a1) 153 (Int32.toNatClampNeg ((up M 152 (Int32.toNatClampNeg (M 132 34)) a1) 132 34)) a2) 154 (Int32.toNatClampNeg ((up (up M 152 (Int32.toNatClampNeg (M 132 34)) a1) 153 (Int32.toNatClampNeg ((up M 152 (Int32.toNatClampNeg (M 132 34)) a1) 132 34)) a2) 132 34)) a3) 132 34)) (bI a4)) 132 34) 12 = true then
                    some ((((up (up (up (up (up (up M 152 (Int32.toNatClampNeg (M 132 34)) a1) 153 (Int32.toNatClampNeg ((up M 152 (Int32.toNatClampNeg (M 132 34)) a1) 132 34)) a2) 154 (Int32.toNatClampNeg ((up (up M 152 (Int32.toNatClampNeg (M 132 34)) a1) 153 (Int32.toNatClampNeg ((up M 152 (Int32.toNatClampNeg (M 132 34)) a1) 132 34)) a2) 132 34)) a3) 155 (Int32.toNatClampNeg ((up (up (up M 152 (Int32.toNatClampNeg (M 132 34)) a1) 153 (Int32.toNatClampNeg ((up M 152 (Int32.toNatClampNeg (M 132 34)) a1) 132 34)) a2) 154 (Int32.toNatClampNeg ((up (up M 152 (Int32.toNatClampNeg (M 132 34)) a1) 153 (Int32.toNatClampNeg ((up M 152 (Int32.toNatClampNeg (M 132 34)) a1) 132 34)) a2) 132 34)) a3) 132 34)) (bI a4)) 156 (Int32.toNatClampNeg ((up (up (up (up M 152 (Int32.toNatClampNeg (M 132 34)) a1) 153 (Int32.toNatClampNeg ((up M 152 (Int32.toNatClampNeg (M 132 34)) a1) 132 34)) a2) 154 (Int32.toNatClampNeg ((up (up M 152 (Int32.toNatClampNeg (M 132 34)) a1) 153 (Int32.toNatClampNeg ((up M 152 (Int32.toNatClampNeg (M 132 34)) a1) 132 34)) a2) 132 34)) a3) 155 (Int32.toNatClampNeg ((up (up (up M 152 (Int32.toNatClampNeg (M 132 34)) a1) 153 (Int32.toNatClampNeg ((up M 152 (Int32.toNatClampNeg (M 132 34)) a1) 132 34)) a2) 154 (Int32.toNatClampNeg ((up (up M 152 (Int32.toNatClampNeg (M 132 34)) a1) 153 (Int32.toNatClampNeg ((up M 152 (Int32.toNatClampNeg (M 132 34)) a1) 132 34)) a2) 132 34)) a3) 132 34)) (bI a4)) 132 34)) a5) 132 34 (((up (up (up (up (up M 152 (Int32.toNatClampNeg (M 132 34)) a1) 153 (Int32.toNatClampNeg ((up M 152 (Int32.toNatClampNeg (M 132 34)) a1) 132 34)) a2) 154 (Int32.toNatClampNeg ((up (up M 152 (Int32.toNatClampNeg (M 132 34)) a1) 153 (Int32.toNatClampNeg ((up M 152 (Int32.toNatClampNeg (M 132 34)) a1) 132 34)) a2) 132 34)) a3) 155 (Int32.toNatClampNeg ((up (up (up M 152 (Int32.toNatClampNeg (M 132 34)) a1) 153 (Int32.toNatClampNeg ((up M 152 (Int32.toNatClampNeg (M 132 34)) a1) 132 34)) a2) 154 (Int32.toNatClampNeg ((up (up M 152 (Int32.toNatClampNeg (M 132 34)) a1) 153 (Int32.toNatClampNeg ((up M 152 (Int32.toNatClampNeg (M 132 34)) a1) 132 34)) a2) 132 34)) a3) 132 34)) (bI a4)) 156 (Int32.toNatClampNeg ((up (up (up (up M 152 (Int32.toNatClampNeg (M 132 34)) a1) 153 (Int32.toNatClampNeg ((up M 152 (Int32.toNatClampNeg (M 132 34)) a1) 132 34)) a2) 154 (Int32.toNatClampNeg ((up (up M 152 (Int32.toNatClampNeg (M 132 34)) a1) 153 (Int32.toNatClampNeg ((up M 152 (Int32.toNatClampNeg (M 132 34)) a1) 132 34)) a2) 132 34)) a3) 155 (Int32.toNatClampNeg ((up (up (up M 152 (Int32.toNatClampNeg (M 132 34)) a1) 153 (Int32.toNatClampNeg ((up M 152 (Int32.toNatClampNeg (M 132 34)) a1) 132 34)) a2) 154 (Int32.toNatClampNeg ((up (up M 152 (Int32.toNatClampNeg (M 132 34)) a1) 153 (Int32.toNatClampNeg ((up M 152 (Int32.toNatClampNeg (M 132 34)) a1) 132 34)) a2) 132 34)) a3) 132 34)) (bI a4)) 132 34)) a5) 132 34) + 1)) 132 34) - 1), (up (up (up (up (up (up M 152 (Int32.toNatClampNeg (M 132 34)) a1) 153 (Int32.toNatClampNeg ((up M 152 (Int32.toNatClampNeg (M 132 34)) a1) 132 34)) a2) 154 (Int32.toNatClampNeg ((up (up M 152 (Int32.toNatClampNeg (M 132 34)) a1) 153 (Int32.toNatClampNeg ((up M 152 (Int32.toNatClampNeg (M 132 34)) a1) 132 34)) a2) 132 34)) a3) 155 (Int32.toNatClampNeg ((up (up (up M 152 (Int32.toNatClampNeg (M 132 34)) a1) 153 (Int32.toNatClampNeg ((up M 152 (Int32.toNatClampNeg (M 132 34)) a1) 132 34)) a2) 154 (Int32.toNatClampNeg ((up (up M 152 (Int32.toNatClampNeg (M 132 34)) a1) 153 (Int32.toNatClampNeg ((up M 152 (Int32.toNatClampNeg (M 132 34)) a1) 132 34)) a2) 132 34)) a3) 132 34)) (bI a4)) 156 (Int32.toNatClampNeg ((up (up (up (up M 152 (Int32.toNatClampNeg (M 132 34)) a1) 153 (Int32.toNatClampNeg ((up M 152 (Int32.toNatClampNeg (M 132 34)) a1) 132 34)) a2) 154 (Int32.toNatClampNeg ((up (up M 152 (Int32.toNatClampNeg (M 132 34)) a1) 153 (Int32.toNatClampNeg ((up M 152 (Int32.toNatClampNeg (M 132 34)) a1) 132 34)) a2) 132 34)) a3) 155 (Int32.toNatClampNeg ((up (up (up M 152 (Int32.toNatClampNeg (M 132 34)) a1) 153 (Int32.toNatClampNeg ((up M 152 (Int32.toNatClampNeg (M 132 34)) a1) 132 34)) a2) 154 (Int32.toNatClampNeg ((up (up M 152 (Int32.toNatClampNeg (M 132 34)) a1) 153 (Int32.toNatClampNeg ((up M 152 (Int32.toNatClampNeg (M 132 34)) a1) 132 34)) a2) 132 34)) a3) 132 34)) (bI a4)) 132 34)) a5) 132 34 (((up (up (up (up (up M 152 (Int32.toNatClampNeg (M 132 34)) a1) 153 (Int32.toNatClampNeg ((up M 152 (Int32.toNatClampNeg (M 132 34)) a1) 132 34)) a2) 154 (Int32.toNatClampNeg ((up (up M 152 (Int32.toNatClampNeg (M 132 34)) a1) 153 (Int32.toNatClampNeg ((up M 152 (Int32.toNatClampNeg (M 132 34)) a1) 132 34)) a2) 132 34)) a3) 155 (Int32.toNatClampNeg ((up (up (up M 152 (Int32.toNatClampNeg (M 132 34)) a1) 153 (Int32.toNatClampNeg ((up M 152 (Int32.toNatClampNeg (M 132 34)) a1) 132 34)) a2) 154 (Int32.toNatClampNeg ((up (up M 152 (Int32.toNatClampNeg (M 132 34)) a1) 153 (Int32.toNatClampNeg ((up M 152 (Int32.toNatClampNeg (M 132 34)) a1) 132 34)) a2) 132 34)) a3) 132 34)) (bI a4)) 156 (Int32.toNatClampNeg ((up (up (up (up M 152 (Int32.toNatClampNeg (M 132 34)) a1) 153 (Int32.toNatClampNeg ((up M 152 (Int32.toNatClampNeg (M 132 34)) a1) 132 34)) a2) 154 (Int32.toNatClampNeg ((up (up M 152 (Int32.toNatClampNeg (M 132 34)) a1) 153 (Int32.toNatClampNeg ((up M 152 (Int32.toNatClampNeg (M 132 34)) a1) 132 34)) a2) 132 34)) a3) 155 (Int32.toNatClampNeg ((up (up (up M 152 (Int32.toNatClampNeg (M 132 34)) a1) 153 (Int32.toNatClampNeg ((up M 152 (Int32.toNatClampNeg (M 132 34)) a1) 132 34)) a2) 154 (Int32.toNatClampNeg ((up (up M 152 (Int32.toNatClampNeg (M 132 34)) a1) 153 (Int32.toNatClampNeg ((up M 152 (Int32.toNatClampNeg (M 132 34)) a1) 132 34)) a2) 132 34)) a3) 132 34)) (bI a4)) 132 34)) a5) 132 34) + 1)))
                  else none
                else none
              else none
            else none
          else none
      else
        some ((-102), M)
    else
      some ((-102), M)
  else
    some ((-101), M)
def f_X12_broken_b6 (a1 : Int32) (a2 : Int32) (a3 : Int32) : (Int32 × Int32 × Mem) → Option ((Int32 × Int32 × Mem) ⊕ (Int32 × Mem)) := fun ((x118, x119, M120) : (Int32 × Int32 × Mem)) =>
  if (M120 132 34) ≤ x119 then
    some (.inr (x118, M120))
  else
    if inb x119 12 = true then
      Option.bind (
        if (M120 152 (Int32.toNatClampNeg x119)) = a1 then
          if (M120 154 (Int32.toNatClampNeg x119)) = a2 then
            (f_X12_lay (M120 153 (Int32.toNatClampNeg x119)) a1 0 a3 M120).bind fun ((r148, M149) : (Bool × Mem)) =>
            (f_X12_overlap M149).bind fun (r150 : Int32) =>
            Option.bind (
              if r150 = 0 then
                if (M149 155 (Int32.toNatClampNeg x119)) = 0 then
                  (f_X12_touch M149).bind fun (r156 : Int32) =>
                  if r156 = 0 then
                    some true
                  else
                    some false
                else
                  (f_X12_touch M149).bind fun (r157 : Int32) =>
                  if r157 ≤ 0 then
                    some false
                  else
                    some true
              else
                some false
            ) fun (x155 : Bool) =>
            Option.bind (
              if x155 = true then
                some 0
              else
                some (M149 156 (Int32.toNatClampNeg x119))
            ) fun (x158 : Int32) =>
            some ((x118 + x158), M149)
          else
            some (x118, M120)
        else
          some (x118, M120)
      ) fun ((x146, M147) : (Int32 × Mem)) =>
      some (.inl (x146, (x119 + 1), M147))
    else none
def f_X12_broken (a1 : Int32) (a2 : Int32) (a3 : Int32) (M : Mem) : Option (Int32 × Mem) :=
  Option.bind (it (f_X12_broken_b6 a1 a2 a3) FU (0, 0, M)) fun ((x121, M122) : (Int32 × Mem)) =>
  some (x121, M122)
def f_X12_gone (a0 : Int32) (a1 : Int32) : Option Int32 :=
  (f_X12_off a0 a1).bind fun (r1 : Int32) =>
  Option.bind (
    if r1 ≤ 8 then
      some r1
    else
      some (16 - r1)
  ) fun (x2 : Int32) =>
  some x2
def f_X12_layOnward_b33 (x138 : Int32) (x139 : Int32) (M140 : Mem) : (Int32 × Int32) → Option ((Int32 × Int32) ⊕ Int32) := fun ((x156, x157) : (Int32 × Int32)) =>
  if 16 ≤ x157 then
    some (.inr x156)
  else
    if 9 ≤ x138 then
      some (.inr x156)
    else
      if inb (((16 * x138) + 16) + x157) 160 = true then
        (f_X12_gone x139 x157).bind fun (r160 : Int32) =>
        (f_X12_gone x139 x157).bind fun (r161 : Int32) =>
        Option.bind (
          if (M140 132 33) < r161 then
            some x156
          else
            if x156 ≤ ((M140 157 (Int32.toNatClampNeg (((16 * x138) + 16) + x157))) + r160) then
              some x156
            else
              some ((M140 157 (Int32.toNatClampNeg (((16 * x138) + 16) + x157))) + r160)
        ) fun (x162 : Int32) =>
        some (.inl (x162, (x157 + 1)))
      else none
def f_X12_layOnward_b9 (a1 : Int32) : (Int32 × Int32 × Mem) → Option ((Int32 × Int32 × Mem) ⊕ (Int32 × Mem)) := fun ((x138, x139, M140) : (Int32 × Int32 × Mem)) =>
  if 16 ≤ x139 then
    some (.inr (x138, M140))
  else
    Option.bind (
      if x138 = 9 then
        some 0
      else
        some 100000
    ) fun (x143 : Int32) =>
    Option.bind (it (f_X12_layOnward_b33 x138 x139 M140) FU (x143, 0)) fun (x158 : Int32) =>
    (f_X12_broken a1 x138 x139 M140).bind fun ((r163, M164) : (Int32 × Mem)) =>
    if inb ((16 * x138) + x139) 160 = true then
      some (.inl (x138, (x139 + 1), (up M164 157 (Int32.toNatClampNeg ((16 * x138) + x139)) (x158 + r163))))
    else none
def f_X12_layOnward_b3 (a1 : Int32) : (Int32 × Mem) → Option ((Int32 × Mem) ⊕ Mem) := fun ((x83, M84) : (Int32 × Mem)) =>
  if x83 < 0 then
    some (.inr M84)
  else
    Option.bind (it (f_X12_layOnward_b9 a1) FU (x83, 0, M84)) fun ((x141, M142) : (Int32 × Mem)) =>
    some (.inl ((x141 + (-1)), M142))
def f_X12_layOnward (a1 : Int32) (M : Mem) : Option Mem :=
  Option.bind (it (f_X12_layOnward_b3 a1) FU (9, M)) fun (M85 : Mem) =>
  some M85
def f_X12_storyAt_b37 (r76 : Int32) (x70 : Int32) (x71 : Int32) (M72 : Mem) (M77 : Mem) : Int32 → Option (Int32 ⊕ Int32) := fun (x90 : Int32) =>
  (f_X12_gone x70 x90).bind fun (r92 : Int32) =>
  if (M77 132 33) < r92 then
    some (.inl (x90 + 1))
  else
    if inb (((16 * x71) + 16) + x90) 160 = true then
      (f_X12_gone x70 x90).bind fun (r94 : Int32) =>
      if ((M77 157 (Int32.toNatClampNeg (((16 * x71) + 16) + x90))) + r94) = ((M72 157 (Int32.toNatClampNeg ((16 * x71) + x70))) - r76) then
        some (.inr x90)
      else
        some (.inl (x90 + 1))
    else none
def f_X12_storyAt_b5 (a1 : Int32) (a2 : Int32) : (Int32 × Int32 × Mem) → Option ((Int32 × Int32 × Mem) ⊕ (Int32 × Mem)) := fun ((x70, x71, M72) : (Int32 × Int32 × Mem)) =>
  if a2 ≤ x71 then
    some (.inr (x70, M72))
  else
    if inb ((16 * x71) + x70) 160 = true then
      (f_X12_broken a1 x71 x70 M72).bind fun ((r76, M77) : (Int32 × Mem)) =>
      Option.bind (it (f_X12_storyAt_b37 r76 x70 x71 M72 M77) FU 0) fun (x91 : Int32) =>
      some (.inl (x91, (x71 + 1), M77))
    else none
def f_X12_storyAt (a1 : Int32) (a2 : Int32) (M : Mem) : Option (Int32 × Mem) :=
  Option.bind (it (f_X12_storyAt_b5 a1 a2) FU (0, 0, M)) fun ((x73, M74) : (Int32 × Mem)) =>
  some (x73, M74)
def f_X12_story_j31_0 (a1 : Int32) (a2 : Int32) (M : Mem)  : Option (Int32 × Mem) :=
  (f_X12_layOnward a1 M).bind fun (M22 : Mem) =>
  Option.bind (
    if a2 = 0 then
      some ((M22 157 (Int32.toNatClampNeg 0)), M22)
    else
      (f_X12_storyAt a1 (a2 - 10) M22).bind fun ((r29, M30) : (Int32 × Mem)) =>
      some (r29, M30)
  ) fun ((x27, M28) : (Int32 × Mem)) =>
  some (x27, M28)
def f_X12_story (a1 : Int32) (a2 : Int32) (M : Mem) : Option (Int32 × Mem) :=
  (f_X12_isLand a1).bind fun (r1 : Bool) =>
  if r1 = true then
    if a2 = 0 then
      f_X12_story_j31_0 a1 a2 M
    else
      (f_X12_in (Int32.toInt64 a2) 10 19).bind fun (r31 : Bool) =>
      if r31 = true then
        f_X12_story_j31_0 a1 a2 M
      else
        some ((-102), M)
  else
    some ((-101), M)
def f_X12_judge_b36 (a1 : Int32) (a2 : Int64) : (Int32 × Int32 × Bool × Int32 × Mem) → Option ((Int32 × Int32 × Bool × Int32 × Mem) ⊕ (Int32 × Bool × Mem)) := fun ((x39, x40, x41, x42, M43) : (Int32 × Int32 × Bool × Int32 × Mem)) =>
  if 10 ≤ x42 then
    some (.inr (x39, x41, M43))
  else
    Option.bind (
      if x41 = true then
        if x42 = 0 then
          if (Int64.toInt32 ((jlshr a2 (4 * x42)) &&& 15)) = 0 then
            some true
          else
            some false
        else
          (f_X12_gone x40 (Int64.toInt32 ((jlshr a2 (4 * x42)) &&& 15))).bind fun (r50 : Int32) =>
          if (M43 132 33) < r50 then
            some false
          else
            some true
      else
        some false
    ) fun (x49 : Bool) =>
    (f_X12_gone x40 (Int64.toInt32 ((jlshr a2 (4 * x42)) &&& 15))).bind fun (r51 : Int32) =>
    (f_X12_broken a1 x42 (Int64.toInt32 ((jlshr a2 (4 * x42)) &&& 15)) M43).bind fun ((r52, M53) : (Int32 × Mem)) =>
    some (.inl ((x39 + (r51 + r52)), (Int64.toInt32 ((jlshr a2 (4 * x42)) &&& 15)), x49, (x42 + 1), M53))
def f_X12_judge (a1 : Int32) (a2 : Int64) (M : Mem) : Option (Int32 × Mem) :=
  (f_X12_isLand a1).bind fun (r1 : Bool) =>
  if r1 = true then
    (f_X12_in a2 0 1099511627775).bind fun (r2 : Bool) =>
    if r2 = true then
      Option.bind (it (f_X12_judge_b36 a1 a2) FU (0, 0, true, 0, M)) fun ((x44, x45, M46) : (Int32 × Bool × Mem)) =>
      Option.bind (
        if x45 = true then
          some x44
        else
          some (-1)
      ) fun (x54 : Int32) =>
      some (x54, M46)
    else
      some ((-102), M)
  else
    some ((-101), M)
def f_X12_agreeAt_b6 (a1 : Int32) (a2 : Int32) (a3 : Int32) (a4 : Int32) (M : Mem) : (Int32 × Int32) → Option ((Int32 × Int32) ⊕ Int32) := fun ((x40, x41) : (Int32 × Int32)) =>
  if (M 132 1) ≤ x41 then
    some (.inr x40)
  else
    if inb x41 40 = true then
      if inb (M 135 (Int32.toNatClampNeg x41)) 128 = true then
        Option.bind (
          if (M 134 (Int32.toNatClampNeg x41)) = 4 then
            if a1 = (-1) then
              some true
            else
              if (M 133 (Int32.toNatClampNeg (M 135 (Int32.toNatClampNeg x41)))) = a1 then
                some true
              else
                some false
          else
            some false
        ) fun (x45 : Bool) =>
        Option.bind (
          if a2 = (-1) then
            some (M 135 (Int32.toNatClampNeg x41))
          else
            if (M 133 (Int32.toNatClampNeg (M 135 (Int32.toNatClampNeg x41)))) = a2 then
              (f_X12_east (M 135 (Int32.toNatClampNeg x41)) a3).bind fun (r49 : Int32) =>
              some r49
            else
              some (M 135 (Int32.toNatClampNeg x41))
        ) fun (x48 : Int32) =>
        Option.bind (
          if x45 = true then
            (f_X12_apart x48 a4).bind fun (r53 : Int32) =>
            if r53 = (M 136 (Int32.toNatClampNeg x41)) then
              some true
            else
              some false
          else
            some false
        ) fun (x52 : Bool) =>
        some (.inl ((x40 + (bI x52)), (x41 + 1)))
      else none
    else none
def f_X12_agreeAt (a1 : Int32) (a2 : Int32) (a3 : Int32) (a4 : Int32) (M : Mem) : Option Int32 :=
  Option.bind (it (f_X12_agreeAt_b6 a1 a2 a3 a4 M) FU (0, 0)) fun (x42 : Int32) =>
  some x42
def f_X12_hasNeedle_b4 (a1 : Int32) (M : Mem) : (Bool × Int32) → Option ((Bool × Int32) ⊕ Bool) := fun ((x19, x20) : (Bool × Int32)) =>
  if (M 132 1) ≤ x20 then
    some (.inr x19)
  else
    Option.bind (
      if x19 = true then
        some true
      else
        if inb x20 40 = true then
          if (M 134 (Int32.toNatClampNeg x20)) = 4 then
            if a1 = (-1) then
              some true
            else
              if inb (M 135 (Int32.toNatClampNeg x20)) 128 = true then
                if (M 133 (Int32.toNatClampNeg (M 135 (Int32.toNatClampNeg x20)))) = a1 then
                  some true
                else
                  some false
              else none
          else
            some false
        else none
    ) fun (x26 : Bool) =>
    some (.inl (x26, (x20 + 1)))
def f_X12_hasNeedle (a1 : Int32) (M : Mem) : Option Bool :=
  Option.bind (it (f_X12_hasNeedle_b4 a1 M) FU (false, 0)) fun (x21 : Bool) =>
  some x21
def f_X12_pole_b86 (a1 : Int32) (a2 : Int32) (a3 : Int32) (M : Mem) : (Int32 × Int32 × Int32 × Int32) → Option ((Int32 × Int32 × Int32 × Int32) ⊕ (Int32 × Int32 × Int32)) := fun ((x358, x359, x360, x361) : (Int32 × Int32 × Int32 × Int32)) =>
  if 128 ≤ x361 then
    some (.inr (x358, x359, x360))
  else
    (f_X12_agreeAt a1 a2 a3 x361 M).bind fun (r365 : Int32) =>
    Option.bind (
      if r365 ≤ x359 then
        if r365 = x359 then
          some (x360 + 1)
        else
          some x360
      else
        some 1
    ) fun (x366 : Int32) =>
    Option.bind (
      if r365 ≤ x359 then
        some x358
      else
        some x361
    ) fun (x367 : Int32) =>
    Option.bind (
      if r365 ≤ x359 then
        some x359
      else
        some r365
    ) fun (x368 : Int32) =>
    some (.inl (x367, x368, x366, (x361 + 1)))
def f_X12_pole_j27_1 (a1 : Int32) (a2 : Int32) (a3 : Int32) (a4 : Int32) (M : Mem)  : Option Int32 :=
  (f_X12_in (Int32.toInt64 a3) 0 15).bind fun (r331 : Bool) =>
  if r331 = true then
    (f_X12_in (Int32.toInt64 a4) 0 2).bind fun (r332 : Bool) =>
    if r332 = true then
      (f_X12_hasNeedle a1 M).bind fun (r333 : Bool) =>
      if r333 = true then
        Option.bind (it (f_X12_pole_b86 a1 a2 a3 M) FU ((-1), (-1), 0, 0)) fun ((x362, x363, x364) : (Int32 × Int32 × Int32)) =>
        Option.bind (
          if a4 = 0 then
            some x362
          else
            if a4 = 1 then
              some x363
            else
              some x364
        ) fun (x369 : Int32) =>
        some x369
      else
        Option.bind (
          if a4 = 0 then
            some (-1)
          else
            some 0
        ) fun (x370 : Int32) =>
        some x370
    else
      some (-102)
  else
    some (-102)
def f_X12_pole_j12_2 (a1 : Int32) (a2 : Int32) (a3 : Int32) (a4 : Int32) (M : Mem)  : Option Int32 :=
  if a2 = (-1) then
    f_X12_pole_j27_1 a1 a2 a3 a4 M
  else
    (f_X12_isLand a2).bind fun (r371 : Bool) =>
    if r371 = true then
      f_X12_pole_j27_1 a1 a2 a3 a4 M
    else
      some (-101)
def f_X12_pole (a1 : Int32) (a2 : Int32) (a3 : Int32) (a4 : Int32) (M : Mem) : Option Int32 :=
  if a1 = (-1) then
    f_X12_pole_j12_2 a1 a2 a3 a4 M
  else
    (f_X12_isLand a1).bind fun (r372 : Bool) =>
    if r372 = true then
      f_X12_pole_j12_2 a1 a2 a3 a4 M
    else
      some (-101)
def f_X12_floor (a1 : Int32) (M : Mem) : Option (Int32 × Mem) :=
  (f_X12_in (Int32.toInt64 a1) 0 16777215).bind fun (r1 : Bool) =>
  if r1 = true then
    some ((M 132 41), (up M 132 41 a1))
  else
    some ((-102), M)
def f_X12_mirrorOf_b2 (a1 : Int32) (M : Mem) : Int32 → Option (Int32 ⊕ Int32) := fun (x4 : Int32) =>
  if ((a1 - 1) - x4) < 0 then
    some (.inr x4)
  else
    if 24 ≤ (a1 + x4) then
      some (.inr x4)
    else
      if ((jshr (M 132 41) ((a1 - 1) - x4)) &&& 1) = ((jshr (M 132 41) (a1 + x4)) &&& 1) then
        some (.inl (x4 + 1))
      else
        some (.inr x4)
def f_X12_mirrorOf (a1 : Int32) (M : Mem) : Option Int32 :=
  Option.bind (it (f_X12_mirrorOf_b2 a1 M) FU 0) fun (x5 : Int32) =>
  some x5
def f_X12_mirror (a1 : Int32) (M : Mem) : Option Int32 :=
  (f_X12_in (Int32.toInt64 a1) 1 23).bind fun (r1 : Bool) =>
  Option.bind (
    if r1 = true then
      (f_X12_mirrorOf a1 M).bind fun (r5 : Int32) =>
      some r5
    else
      some (-102)
  ) fun (x4 : Int32) =>
  some x4
def f_X12_ridgeOf_b4 (M : Mem) : (Int32 × Int32) → Option ((Int32 × Int32) ⊕ Int32) := fun ((x34, x35) : (Int32 × Int32)) =>
  if 24 ≤ x35 then
    some (.inr x34)
  else
    (f_X12_mirrorOf x35 M).bind fun (r37 : Int32) =>
    (f_X12_mirrorOf x34 M).bind fun (r38 : Int32) =>
    Option.bind (
      if 0 < (r37 - r38) then
        some x35
      else
        if (r37 - r38) = 0 then
          (f_X12_off x35 12).bind fun (r44 : Int32) =>
          (f_X12_off x34 12).bind fun (r45 : Int32) =>
          if r45 ≤ r44 then
            some x34
          else
            some x35
        else
          some x34
    ) fun (x43 : Int32) =>
    some (.inl (x43, (x35 + 1)))
def f_X12_ridgeOf  (M : Mem) : Option Int32 :=
  Option.bind (it (f_X12_ridgeOf_b4 M) FU (1, 2)) fun (x36 : Int32) =>
  some x36
def f_X12_ridge  (M : Mem) : Option Int32 :=
  (f_X12_ridgeOf M).bind fun (r1 : Int32) =>
  some r1
def f_X12_countOf (a1 : Int32) (M : Mem) : Option Int32 :=
  if a1 = 0 then
    (f_X12_cellsOf (-1) M).bind fun (r1 : Int32) =>
    some (128 - r1)
  else
    if a1 = 1 then
      some (M 132 1)
    else
      if a1 = 2 then
        some (M 139 (Int32.toNatClampNeg 0))
      else
        if a1 = 3 then
          some (M 139 (Int32.toNatClampNeg 1))
        else
          if a1 = 4 then
            some (M 132 26)
          else
            if a1 = 5 then
              some (M 132 34)
            else
              if a1 = 6 then
                some (M 132 7)
              else
                some (-102)
def f_X12_count (a1 : Int32) (M : Mem) : Option Int32 :=
  (f_X12_countOf a1 M).bind fun (r1 : Int32) =>
  some r1
def f_X12_tell (a1 : Int64) (h : Int64) : Option Int64 :=
  some ((31 * h) + a1)
def f_X12_digest_b9 (M : Mem) : (Int32 × Int64) → Option ((Int32 × Int64) ⊕ Int64) := fun ((x9, hh10) : (Int32 × Int64)) =>
  if 128 ≤ x9 then
    some (.inr hh10)
  else
    if inb x9 128 = true then
      (f_X12_tell (Int32.toInt64 (M 133 (Int32.toNatClampNeg x9))) hh10).bind fun (hh13 : Int64) =>
      some (.inl ((x9 + 1), hh13))
    else none
def f_X12_digest_b35 (M : Mem) : (Int32 × Int64) → Option ((Int32 × Int64) ⊕ Int64) := fun ((x30, hh31) : (Int32 × Int64)) =>
  if (M 132 1) ≤ x30 then
    some (.inr hh31)
  else
    if inb x30 40 = true then
      (f_X12_tell (Int32.toInt64 (M 134 (Int32.toNatClampNeg x30))) hh31).bind fun (hh34 : Int64) =>
      (f_X12_tell (Int32.toInt64 (M 135 (Int32.toNatClampNeg x30))) hh34).bind fun (hh35 : Int64) =>
      (f_X12_tell (Int32.toInt64 (M 136 (Int32.toNatClampNeg x30))) hh35).bind fun (hh36 : Int64) =>
      (f_X12_weight x30 M).bind fun (r37 : Int32) =>
      (f_X12_tell (Int32.toInt64 r37) hh36).bind fun (hh38 : Int64) =>
      some (.inl ((x30 + 1), hh38))
    else none
def f_X12_digest_b104 (M : Mem) : (Int32 × Int32 × Int64) → Option ((Int32 × Int32 × Int64) ⊕ (Int32 × Int64)) := fun ((x90, x91, hh92) : (Int32 × Int32 × Int64)) =>
  if 6 ≤ x91 then
    some (.inr (x90, hh92))
  else
    (f_X12_distanceOf x90 x91 M).bind fun (r95 : Int32) =>
    (f_X12_tell (Int32.toInt64 r95) hh92).bind fun (hh96 : Int64) =>
    some (.inl (x90, (x91 + 1), hh96))
def f_X12_digest_b94 (M : Mem) : (Int32 × Int64) → Option ((Int32 × Int64) ⊕ Int64) := fun ((x77, hh78) : (Int32 × Int64)) =>
  if 6 ≤ x77 then
    some (.inr hh78)
  else
    Option.bind (it (f_X12_digest_b104 M) FU (x77, (x77 + 1), hh78)) fun ((x93, hh94) : (Int32 × Int64)) =>
    some (.inl ((x93 + 1), hh94))
def f_X12_digest_b135  : (Int32 × Mem × Int64) → Option ((Int32 × Mem × Int64) ⊕ (Mem × Int64)) := fun ((x121, M122, hh123) : (Int32 × Mem × Int64)) =>
  if (M122 132 26) ≤ x121 then
    some (.inr (M122, hh123))
  else
    if inb x121 8 = true then
      (f_X12_tell (Int32.toInt64 (M122 149 (Int32.toNatClampNeg x121))) hh123).bind fun (hh127 : Int64) =>
      (f_X12_tell (Int32.toInt64 (M122 150 (Int32.toNatClampNeg x121))) hh127).bind fun (hh128 : Int64) =>
      (f_X12_spreadOf 0 x121 M122).bind fun ((r129, M130) : (Int32 × Mem)) =>
      (f_X12_tell (Int32.toInt64 r129) hh128).bind fun (hh131 : Int64) =>
      (f_X12_spreadOf 1 x121 M130).bind fun ((r132, M133) : (Int32 × Mem)) =>
      (f_X12_tell (Int32.toInt64 r132) hh131).bind fun (hh134 : Int64) =>
      some (.inl ((x121 + 1), M133, hh134))
    else none
def f_X12_digest_b204 (M124 : Mem) : (Int32 × Int64) → Option ((Int32 × Int64) ⊕ Int64) := fun ((x154, hh155) : (Int32 × Int64)) =>
  if (M124 132 34) ≤ x154 then
    some (.inr hh155)
  else
    if inb x154 12 = true then
      (f_X12_tell (Int32.toInt64 (M124 152 (Int32.toNatClampNeg x154))) hh155).bind fun (hh158 : Int64) =>
      (f_X12_tell (Int32.toInt64 (M124 153 (Int32.toNatClampNeg x154))) hh158).bind fun (hh159 : Int64) =>
      (f_X12_tell (Int32.toInt64 (M124 154 (Int32.toNatClampNeg x154))) hh159).bind fun (hh160 : Int64) =>
      Option.bind (
        if (M124 155 (Int32.toNatClampNeg x154)) = 0 then
          some 0
        else
          some 1
      ) fun (x161 : Int64) =>
      (f_X12_tell x161 hh160).bind fun (hh162 : Int64) =>
      (f_X12_tell (Int32.toInt64 (M124 156 (Int32.toNatClampNeg x154))) hh162).bind fun (hh163 : Int64) =>
      some (.inl ((x154 + 1), hh163))
    else none
def f_X12_digest_b300 (M124 : Mem) : (Int32 × Int64) → Option ((Int32 × Int64) ⊕ Int64) := fun ((x175, hh176) : (Int32 × Int64)) =>
  if (M124 132 7) ≤ x175 then
    some (.inr hh176)
  else
    if inb x175 50 = true then
      (f_X12_tell (Int32.toInt64 (M124 138 (Int32.toNatClampNeg x175))) hh176).bind fun (hh179 : Int64) =>
      some (.inl ((x175 + 1), hh179))
    else none
def f_X12_digest_b327 (M124 : Mem) : (Int32 × Int64) → Option ((Int32 × Int64) ⊕ Int64) := fun ((x188, hh189) : (Int32 × Int64)) =>
  if 7 ≤ x188 then
    some (.inr hh189)
  else
    (f_X12_countOf x188 M124).bind fun (r191 : Int32) =>
    (f_X12_tell (Int32.toInt64 r191) hh189).bind fun (hh192 : Int64) =>
    some (.inl ((x188 + 1), hh192))
def f_X12_digest  (M : Mem) (h : Int64) : Option (Int64 × Mem × Int64) :=
  Option.bind (it (f_X12_digest_b9 M) FU (0, 313)) fun (hh11 : Int64) =>
  Option.bind (it (f_X12_digest_b35 M) FU (0, hh11)) fun (hh32 : Int64) =>
  Option.bind (it (f_X12_digest_b94 M) FU (0, hh32)) fun (hh79 : Int64) =>
  Option.bind (it (f_X12_digest_b135) FU (0, M, hh79)) fun ((M124, hh125) : (Mem × Int64)) =>
  (f_X12_tell (Int32.toInt64 (M124 132 33)) hh125).bind fun (hh135 : Int64) =>
  Option.bind (it (f_X12_digest_b204 M124) FU (0, hh135)) fun (hh156 : Int64) =>
  (f_X12_tell (Int32.toInt64 (M124 132 41)) hh156).bind fun (hh164 : Int64) =>
  (f_X12_ridgeOf M124).bind fun (r165 : Int32) =>
  (f_X12_tell (Int32.toInt64 r165) hh164).bind fun (hh166 : Int64) =>
  Option.bind (it (f_X12_digest_b300 M124) FU (0, hh166)) fun (hh177 : Int64) =>
  Option.bind (it (f_X12_digest_b327 M124) FU (0, hh177)) fun (hh190 : Int64) =>
  some (hh190, M124, hh190)
