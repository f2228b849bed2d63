def f_X8_append_L3 (x1 : Int) : Nat → Int → Mem → Option (Mem)
  | 0, _, _ => none
  | n3 + 1, x2, M =>
    if x2 < 0 then
      some M
    else
      if 500 ≤ (M 1 1) then
        ck (inR (x2 + (-8))) <|
        (f_X8_append_L3 x1 n3) (x2 + (-8)) M
      else
        ck ((0 : Int) ≤ (M 1 1) ∧ (M 1 1) < 500) <|
        lt (upm M 2 (M 1 1).toNat (bar8 (i2b (ishr x1 x2)))) fun N1 =>
        ck (inR ((M 1 1) + 1)) <|
        lt (upm N1 1 1 ((M 1 1) + 1)) fun N2 =>
        ck (inR (x2 + (-8))) <|
        (f_X8_append_L3 x1 n3) (x2 + (-8)) N2
def f_X8_append (x1 : Int) (M : Mem) : Option (Mem) :=
  f_X8_append_L3 x1 jFuel 24 M
def f_X8_isDigit (x0 : Int) (M : Mem) : Option (Int) :=
  if x0 < 48 then
    some 0
  else
    if 57 < x0 then
      some 0
    else
      some 1
def f_X8_isLetter (x0 : Int) (M : Mem) : Option (Int) :=
  if x0 < 97 then
    some 0
  else
    if 122 < x0 then
      some 0
    else
      some 1
def f_X8_kindOfSign (x0 : Int) (M : Mem) : Option (Int) :=
  if x0 = 46 then
    some 6
  else if x0 = 59 then
    some 3
  else if x0 = 123 then
    some 4
  else if x0 = 125 then
    some 5
  else some 7
def f_X8_advance_L127  : Nat → Int → Mem → Option (Mem)
  | 0, _, _ => none
  | n127 + 1, x1, M =>
    if (M 1 1) ≤ x1 then
      lt (upm M 1 4 x1) fun N1 =>
      some N1
    else
      ck ((0 : Int) ≤ x1 ∧ x1 < 500) <|
      (f_X8_isDigit (M 2 x1.toNat) M).bind fun r141 =>
      if r141 = 0 then
        lt (upm M 1 4 x1) fun N2 =>
        some N2
      else
        ck (inR ((M 1 5) * 10)) <|
        ck (inR ((M 2 x1.toNat) - 48)) <|
        ck (inR (((M 1 5) * 10) + ((M 2 x1.toNat) - 48))) <|
        lt (upm M 1 5 (min (((M 1 5) * 10) + ((M 2 x1.toNat) - 48)) 1000000)) fun N3 =>
        ck (inR (x1 + 1)) <|
        (f_X8_advance_L127 n127) (x1 + 1) N3
def f_X8_advance_L79  : Nat → Int → Mem → Option (Mem)
  | 0, _, _ => none
  | n79 + 1, x1, M =>
    if (M 1 1) ≤ x1 then
      lt (upm M 1 4 x1) fun N1 =>
      some N1
    else
      ck ((0 : Int) ≤ x1 ∧ x1 < 500) <|
      (f_X8_isLetter (M 2 x1.toNat) M).bind fun r93 =>
      if r93 = 0 then
        lt (upm M 1 4 x1) fun N2 =>
        some N2
      else
        ck (inR (x1 + 1)) <|
        (f_X8_advance_L79 n79) (x1 + 1) M
def f_X8_advance_L5  : Nat → Int → Mem → Option (Mem)
  | 0, _, _ => none
  | n5 + 1, x1, M =>
    jn (fun (_ : Unit) => (
      lt (upm M 1 3 x1) fun N1 =>
      if x1 < (M 1 1) then
        ck ((0 : Int) ≤ x1 ∧ x1 < 500) <|
        (f_X8_isLetter (M 2 x1.toNat) N1).bind fun r68 =>
        if r68 = 0 then
          (f_X8_isDigit (M 2 x1.toNat) N1).bind fun r111 =>
          if r111 = 0 then
            (f_X8_kindOfSign (M 2 x1.toNat) N1).bind fun r186 =>
            lt (upm N1 1 2 r186) fun N2 =>
            ck (inR (x1 + 1)) <|
            lt (upm N2 1 4 (x1 + 1)) fun N3 =>
            some N3
          else
            lt (upm N1 1 2 2) fun N4 =>
            lt (upm N4 1 5 0) fun N5 =>
            f_X8_advance_L127 jFuel x1 N5
        else
          lt (upm N1 1 2 1) fun N6 =>
          f_X8_advance_L79 jFuel x1 N6
      else
        lt (upm N1 1 2 0) fun N7 =>
        lt (upm N7 1 4 x1) fun N8 =>
        some N8 : Option (Mem))) fun k41 =>
    if (M 1 1) ≤ x1 then
      k41 ()
    else
      ck ((0 : Int) ≤ x1 ∧ x1 < 500) <|
      if (M 2 x1.toNat) = 32 then
        ck (inR (x1 + 1)) <|
        (f_X8_advance_L5 n5) (x1 + 1) M
      else
        if (M 2 x1.toNat) = 10 then
          ck (inR (x1 + 1)) <|
          (f_X8_advance_L5 n5) (x1 + 1) M
        else
          k41 ()
def f_X8_advance  (M : Mem) : Option (Mem) :=
  f_X8_advance_L5 jFuel (M 1 4) M
def f_X8_startReading  (M : Mem) : Option (Mem) :=
  lt (upm M 1 4 0) fun N2 =>
  lt (upm N2 1 7 0) fun N4 =>
  lt (upm N4 1 8 (-1)) fun N6 =>
  (f_X8_advance N6).bind fun M16 =>
  some M16
def f_X8_fail (x1 : Int) (M : Mem) : Option (Int × Mem) :=
  lt (upm M 1 7 x1) fun N2 =>
  lt (upm N2 1 8 (M 1 3)) fun N4 =>
  some (0, N4)
def f_X8_size  (M : Mem) : Option (Int) :=
  ck (inR ((M 1 4) - (M 1 3))) <|
  some ((M 1 4) - (M 1 3))
def f_X8_isWord_L23 (w1 : Nat) (M : Mem) : Nat → Int → Option (Int)
  | 0, _ => none
  | n23 + 1, x2 =>
    if (((lenST.getD w1 0 : Nat)) : Int) ≤ x2 then
      some 1
    else
      ck (inR ((M 1 3) + x2)) <|
      ck ((0 : Int) ≤ ((M 1 3) + x2) ∧ ((M 1 3) + x2) < 500) <|
      ck ((0 : Int) ≤ x2 ∧ x2 < ((lenST.getD w1 0 : Nat) : Int)) <|
      if (M 2 ((M 1 3) + x2).toNat) = (chST w1 x2.toNat) then
        ck (inR (x2 + 1)) <|
        (f_X8_isWord_L23 w1 M n23) (x2 + 1)
      else
        some 0
def f_X8_isWord (w1 : Nat) (M : Mem) : Option (Int) :=
  if (M 1 2) = 1 then
    (f_X8_size M).bind fun r9 =>
    if r9 = (((lenST.getD w1 0 : Nat)) : Int) then
      f_X8_isWord_L23 w1 M jFuel 0
    else
      some 0
  else
    some 0
def f_X8_take (x1 : Int) (M : Mem) : Option (Int × Mem) :=
  if (M 1 2) = x1 then
    (f_X8_advance M).bind fun M15 =>
    some (1, M15)
  else
    (f_X8_fail 1 M).bind fun (r10, M10) =>
    ck (r10 = 0 ∨ r10 = 1) <|
    some (r10, M10)
def f_X8_takeWord (w1 : Nat) (M : Mem) : Option (Int × Mem) :=
  (f_X8_isWord w1 M).bind fun r2 =>
  if r2 = 0 then
    (f_X8_fail 1 M).bind fun (r10, M10) =>
    ck (r10 = 0 ∨ r10 = 1) <|
    some (r10, M10)
  else
    (f_X8_advance M).bind fun M15 =>
    some (1, M15)
def f_X8_takeNumber (x1 : Int) (x2 : Int) (M : Mem) : Option (Int × Mem) :=
  if (M 1 2) = 2 then
    if (M 1 5) < x1 then
      (f_X8_fail 2 M).bind fun (r32, M32) =>
      ck (r32 = 0 ∨ r32 = 1) <|
      some (r32, M32)
    else
      if (M 1 5) ≤ x2 then
        lt (upm M 1 6 (M 1 5)) fun N4 =>
        (f_X8_advance N4).bind fun M45 =>
        some (1, M45)
      else
        (f_X8_fail 2 M).bind fun (r32, M32) =>
        ck (r32 = 0 ∨ r32 = 1) <|
        some (r32, M32)
  else
    (f_X8_fail 1 M).bind fun (r10, M10) =>
    ck (r10 = 0 ∨ r10 = 1) <|
    some (r10, M10)
def f_J6_bitCount_0f7a4 (x0 : Int) (M : Mem) : Option (Int) :=
  ck (inR (x0 - (iand (iushr x0 1) 1431655765))) <|
  ck (inR ((iand (x0 - (iand (iushr x0 1) 1431655765)) 858993459) + (iand (iushr (x0 - (iand (iushr x0 1) 1431655765)) 2) 858993459))) <|
  ck (inR (((iand (x0 - (iand (iushr x0 1) 1431655765)) 858993459) + (iand (iushr (x0 - (iand (iushr x0 1) 1431655765)) 2) 858993459)) + (iushr ((iand (x0 - (iand (iushr x0 1) 1431655765)) 858993459) + (iand (iushr (x0 - (iand (iushr x0 1) 1431655765)) 2) 858993459)) 4))) <|
  ck (inR ((iand (((iand (x0 - (iand (iushr x0 1) 1431655765)) 858993459) + (iand (iushr (x0 - (iand (iushr x0 1) 1431655765)) 2) 858993459)) + (iushr ((iand (x0 - (iand (iushr x0 1) 1431655765)) 858993459) + (iand (iushr (x0 - (iand (iushr x0 1) 1431655765)) 2) 858993459)) 4)) 252645135) + (iushr (iand (((iand (x0 - (iand (iushr x0 1) 1431655765)) 858993459) + (iand (iushr (x0 - (iand (iushr x0 1) 1431655765)) 2) 858993459)) + (iushr ((iand (x0 - (iand (iushr x0 1) 1431655765)) 858993459) + (iand (iushr (x0 - (iand (iushr x0 1) 1431655765)) 2) 858993459)) 4)) 252645135) 8))) <|
  ck (inR (((iand (((iand (x0 - (iand (iushr x0 1) 1431655765)) 858993459) + (iand (iushr (x0 - (iand (iushr x0 1) 1431655765)) 2) 858993459)) + (iushr ((iand (x0 - (iand (iushr x0 1) 1431655765)) 858993459) + (iand (iushr (x0 - (iand (iushr x0 1) 1431655765)) 2) 858993459)) 4)) 252645135) + (iushr (iand (((iand (x0 - (iand (iushr x0 1) 1431655765)) 858993459) + (iand (iushr (x0 - (iand (iushr x0 1) 1431655765)) 2) 858993459)) + (iushr ((iand (x0 - (iand (iushr x0 1) 1431655765)) 858993459) + (iand (iushr (x0 - (iand (iushr x0 1) 1431655765)) 2) 858993459)) 4)) 252645135) 8)) + (iushr ((iand (((iand (x0 - (iand (iushr x0 1) 1431655765)) 858993459) + (iand (iushr (x0 - (iand (iushr x0 1) 1431655765)) 2) 858993459)) + (iushr ((iand (x0 - (iand (iushr x0 1) 1431655765)) 858993459) + (iand (iushr (x0 - (iand (iushr x0 1) 1431655765)) 2) 858993459)) 4)) 252645135) + (iushr (iand (((iand (x0 - (iand (iushr x0 1) 1431655765)) 858993459) + (iand (iushr (x0 - (iand (iushr x0 1) 1431655765)) 2) 858993459)) + (iushr ((iand (x0 - (iand (iushr x0 1) 1431655765)) 858993459) + (iand (iushr (x0 - (iand (iushr x0 1) 1431655765)) 2) 858993459)) 4)) 252645135) 8)) 16))) <|
  some (iand (((iand (((iand (x0 - (iand (iushr x0 1) 1431655765)) 858993459) + (iand (iushr (x0 - (iand (iushr x0 1) 1431655765)) 2) 858993459)) + (iushr ((iand (x0 - (iand (iushr x0 1) 1431655765)) 858993459) + (iand (iushr (x0 - (iand (iushr x0 1) 1431655765)) 2) 858993459)) 4)) 252645135) + (iushr (iand (((iand (x0 - (iand (iushr x0 1) 1431655765)) 858993459) + (iand (iushr (x0 - (iand (iushr x0 1) 1431655765)) 2) 858993459)) + (iushr ((iand (x0 - (iand (iushr x0 1) 1431655765)) 858993459) + (iand (iushr (x0 - (iand (iushr x0 1) 1431655765)) 2) 858993459)) 4)) 252645135) 8)) + (iushr ((iand (((iand (x0 - (iand (iushr x0 1) 1431655765)) 858993459) + (iand (iushr (x0 - (iand (iushr x0 1) 1431655765)) 2) 858993459)) + (iushr ((iand (x0 - (iand (iushr x0 1) 1431655765)) 858993459) + (iand (iushr (x0 - (iand (iushr x0 1) 1431655765)) 2) 858993459)) 4)) 252645135) + (iushr (iand (((iand (x0 - (iand (iushr x0 1) 1431655765)) 858993459) + (iand (iushr (x0 - (iand (iushr x0 1) 1431655765)) 2) 858993459)) + (iushr ((iand (x0 - (iand (iushr x0 1) 1431655765)) 858993459) + (iand (iushr (x0 - (iand (iushr x0 1) 1431655765)) 2) 858993459)) 4)) 252645135) 8)) 16)) 63)
def f_X3_copyFrom (s : Nat) (s1 : Nat) (M : Mem) : Option (Mem) :=
  lt (upm M (s + 1) 0 (M (s1 + 1) 0)) fun N2 =>
  lt (cpm N2 (s1 + 2) (0 : Int).toNat (s + 2) (0 : Int).toNat (12 : Int).toNat) fun N4 =>
  lt (cpm N4 (s1 + 3) (0 : Int).toNat (s + 3) (0 : Int).toNat (12 : Int).toNat) fun N6 =>
  lt (upm N6 (s + 1) 3 (N6 (s1 + 1) 3)) fun N8 =>
  lt (cpm N8 (s1 + 4) (0 : Int).toNat (s + 4) (0 : Int).toNat (48 : Int).toNat) fun N10 =>
  lt (cpm N10 (s1 + 5) (0 : Int).toNat (s + 5) (0 : Int).toNat (6 : Int).toNat) fun N12 =>
  lt (upm N12 (s + 1) 6 (N12 (s1 + 1) 6)) fun N14 =>
  lt (cpm N14 (s1 + 6) (0 : Int).toNat (s + 6) (0 : Int).toNat (10 : Int).toNat) fun N16 =>
  lt (cpm N16 (s1 + 7) (0 : Int).toNat (s + 7) (0 : Int).toNat (10 : Int).toNat) fun N18 =>
  lt (cpm N18 (s1 + 8) (0 : Int).toNat (s + 8) (0 : Int).toNat (10 : Int).toNat) fun N20 =>
  lt (cpm N20 (s1 + 9) (0 : Int).toNat (s + 9) (0 : Int).toNat (5 : Int).toNat) fun N22 =>
  some N22
def f_X3_cameraOf (s : Nat) (x1 : Int) (M : Mem) : Option (Int) :=
  if x1 < 0 then
    some (-1)
  else
    if (M (s + 1) 0) ≤ x1 then
      some (-1)
    else
      ck ((0 : Int) ≤ x1 ∧ x1 < 12) <|
      some (M (s + 2) x1.toNat)
def f_X3_lengthOf (s : Nat) (x1 : Int) (M : Mem) : Option (Int) :=
  if x1 < 0 then
    some 0
  else
    if (M (s + 1) 0) ≤ x1 then
      some 0
    else
      ck ((0 : Int) ≤ x1 ∧ x1 < 12) <|
      some (M (s + 3) x1.toNat)
def f_X3_nameLengthOf (s : Nat) (x1 : Int) (M : Mem) : Option (Int) :=
  if x1 < 0 then
    some 0
  else
    if (M (s + 1) 3) ≤ x1 then
      some 0
    else
      ck ((0 : Int) ≤ x1 ∧ x1 < 6) <|
      some (M (s + 5) x1.toNat)
def f_X3_setting (s : Nat) (x1 : Int) (M : Mem) : Option (Int) :=
  if x1 < 0 then
    some 0
  else
    if 5 ≤ x1 then
      some 0
    else
      ck ((0 : Int) ≤ x1 ∧ x1 < 5) <|
      some (M (s + 9) x1.toNat)
def f_X3_set (s : Nat) (x1 : Int) (x2 : Int) (M : Mem) : Option (Mem) :=
  if x1 < 0 then
    some M
  else
    if 5 ≤ x1 then
      some M
    else
      ck ((0 : Int) ≤ x1 ∧ x1 < 5) <|
      lt (upm M (s + 9) x1.toNat x2) fun N3 =>
      some N3
def f_X3_shotsOf_L4 (s : Nat) (x1 : Int) (M : Mem) : Nat → Int → Int → Option (Int)
  | 0, _, _ => none
  | n4 + 1, x2, x3 =>
    if (M (s + 1) 0) ≤ x3 then
      some x2
    else
      ck ((0 : Int) ≤ x3 ∧ x3 < 12) <|
      if (M (s + 2) x3.toNat) = x1 then
        ck (inR (x2 + 1)) <|
        ck (inR (x3 + 1)) <|
        (f_X3_shotsOf_L4 s x1 M n4) (x2 + 1) (x3 + 1)
      else
        ck (inR (x3 + 1)) <|
        (f_X3_shotsOf_L4 s x1 M n4) x2 (x3 + 1)
def f_X3_shotsOf (s : Nat) (x1 : Int) (M : Mem) : Option (Int) :=
  f_X3_shotsOf_L4 s x1 M jFuel 0 0
def f_X3_isBanned_L2 (s : Nat) (x1 : Int) (x2 : Int) (M : Mem) : Nat → Int → Option (Int)
  | 0, _ => none
  | n2 + 1, x3 =>
    if (M (s + 1) 6) ≤ x3 then
      some 0
    else
      ck ((0 : Int) ≤ x3 ∧ x3 < 10) <|
      if (M (s + 6) x3.toNat) = x1 then
        if x2 < (M (s + 7) x3.toNat) then
          ck (inR (x3 + 1)) <|
          (f_X3_isBanned_L2 s x1 x2 M n2) (x3 + 1)
        else
          if (M (s + 8) x3.toNat) < x2 then
            ck (inR (x3 + 1)) <|
            (f_X3_isBanned_L2 s x1 x2 M n2) (x3 + 1)
          else
            some 1
      else
        ck (inR (x3 + 1)) <|
        (f_X3_isBanned_L2 s x1 x2 M n2) (x3 + 1)
def f_X3_isBanned (s : Nat) (x1 : Int) (x2 : Int) (M : Mem) : Option (Int) :=
  f_X3_isBanned_L2 s x1 x2 M jFuel 0
def f_X3_allowedShots_L4 (s : Nat) (x1 : Int) (M : Mem) : Nat → Int → Int → Option (Int)
  | 0, _, _ => none
  | n4 + 1, x2, x3 =>
    if (M (s + 1) 0) ≤ x3 then
      some x2
    else
      ck ((0 : Int) ≤ x3 ∧ x3 < 12) <|
      (f_X3_isBanned s (M (s + 2) x3.toNat) x1 M).bind fun r20 =>
      if r20 = 0 then
        ck (inR (x3 + 1)) <|
        (f_X3_allowedShots_L4 s x1 M n4) (ior x2 (ishl 1 x3)) (x3 + 1)
      else
        ck (inR (x3 + 1)) <|
        (f_X3_allowedShots_L4 s x1 M n4) x2 (x3 + 1)
def f_X3_allowedShots (s : Nat) (x1 : Int) (M : Mem) : Option (Int) :=
  f_X3_allowedShots_L4 s x1 M jFuel 0 0
def f_X3_isName_L29 (s : Nat) (b2 : Nat) (x1 : Int) (x3 : Int) (x4 : Int) (M : Mem) : Nat → Int → Option (Int)
  | 0, _ => none
  | n29 + 1, x5 =>
    if x4 ≤ x5 then
      some 1
    else
      ck (inR (x3 + x5)) <|
      ck ((0 : Int) ≤ (x3 + x5) ∧ (x3 + x5) < 500) <|
      ck (inR (x1 * 8)) <|
      ck (inR ((x1 * 8) + x5)) <|
      ck ((0 : Int) ≤ ((x1 * 8) + x5) ∧ ((x1 * 8) + x5) < 48) <|
      if (M b2 (x3 + x5).toNat) = (M (s + 4) ((x1 * 8) + x5).toNat) then
        ck (inR (x5 + 1)) <|
        (f_X3_isName_L29 s b2 x1 x3 x4 M n29) (x5 + 1)
      else
        some 0
def f_X3_isName (s : Nat) (x1 : Int) (b2 : Nat) (x3 : Int) (x4 : Int) (M : Mem) : Option (Int) :=
  ck ((0 : Int) ≤ x1 ∧ x1 < 6) <|
  if x4 = (M (s + 5) x1.toNat) then
    if x3 < 0 then
      some 0
    else
      ck (inR (500 - x3)) <|
      if x4 ≤ (500 - x3) then
        f_X3_isName_L29 s b2 x1 x3 x4 M jFuel 0
      else
        some 0
  else
    some 0
def f_X3_mapNamed_L3 (s : Nat) (b1 : Nat) (x2 : Int) (x3 : Int) (M : Mem) : Nat → Int → Option (Int)
  | 0, _ => none
  | n3 + 1, x4 =>
    if (M (s + 1) 3) ≤ x4 then
      some (-1)
    else
      (f_X3_isName s x4 b1 x2 x3 M).bind fun r18 =>
      if r18 = 0 then
        ck (inR (x4 + 1)) <|
        (f_X3_mapNamed_L3 s b1 x2 x3 M n3) (x4 + 1)
      else
        some x4
def f_X3_mapNamed (s : Nat) (b1 : Nat) (x2 : Int) (x3 : Int) (M : Mem) : Option (Int) :=
  f_X3_mapNamed_L3 s b1 x2 x3 M jFuel 0
def f_X3_readBan (s : Nat) (M : Mem) : Option (Int × Mem) :=
  if (M (s + 1) 6) < 10 then
    (f_X8_advance M).bind fun M16 =>
    (f_X8_takeNumber 0 5 M16).bind fun (r22, M22) =>
    if r22 = 0 then
      some (0, M22)
    else
      ck ((0 : Int) ≤ (M22 (s + 1) 6) ∧ (M22 (s + 1) 6) < 10) <|
      lt (upm M22 (s + 6) (M22 (s + 1) 6).toNat (M22 1 6)) fun N5 =>
      (f_X8_takeNumber 0 99 N5).bind fun (r47, M47) =>
      if r47 = 0 then
        some (0, M47)
      else
        ck ((0 : Int) ≤ (M47 (s + 1) 6) ∧ (M47 (s + 1) 6) < 10) <|
        lt (upm M47 (s + 7) (M47 (s + 1) 6).toNat (M47 1 6)) fun N9 =>
        (f_X8_takeNumber (N9 (s + 7) (M47 (s + 1) 6).toNat) 99 N9).bind fun (r80, M80) =>
        if r80 = 0 then
          some (0, M80)
        else
          ck ((0 : Int) ≤ (M80 (s + 1) 6) ∧ (M80 (s + 1) 6) < 10) <|
          lt (upm M80 (s + 8) (M80 (s + 1) 6).toNat (M80 1 6)) fun N13 =>
          ck (inR ((M80 (s + 1) 6) + 1)) <|
          lt (upm N13 (s + 1) 6 ((M80 (s + 1) 6) + 1)) fun N16 =>
          some (1, N16)
  else
    (f_X8_fail 4 M).bind fun (r11, M11) =>
    ck (r11 = 0 ∨ r11 = 1) <|
    some (r11, M11)
def f_X3_readName (s : Nat) (M : Mem) : Option (Int × Mem) :=
  if (M (s + 1) 3) < 6 then
    (f_X8_advance M).bind fun M16 =>
    if (M16 1 2) = 1 then
      (f_X8_size M16).bind fun r34 =>
      if r34 ≤ 8 then
        (f_X3_mapNamed s 2 (M16 1 3) r34 M16).bind fun r60 =>
        if r60 = (-1) then
          ck (inR ((M16 (s + 1) 3) * 8)) <|
          ck ((0 : Int) ≤ (M16 1 3) ∧ (0 : Int) ≤ ((M16 (s + 1) 3) * 8) ∧ (0 : Int) ≤ r34 ∧ ((M16 1 3) + r34 : Int) ≤ 500 ∧ (((M16 (s + 1) 3) * 8) + r34 : Int) ≤ 48) <|
          lt (cpm M16 2 (M16 1 3).toNat (s + 4) ((M16 (s + 1) 3) * 8).toNat r34.toNat) fun N7 =>
          ck ((0 : Int) ≤ (M16 (s + 1) 3) ∧ (M16 (s + 1) 3) < 6) <|
          lt (upm N7 (s + 5) (M16 (s + 1) 3).toNat r34) fun N10 =>
          ck (inR ((M16 (s + 1) 3) + 1)) <|
          lt (upm N10 (s + 1) 3 ((M16 (s + 1) 3) + 1)) fun N13 =>
          (f_X8_advance N13).bind fun M117 =>
          some (1, M117)
        else
          (f_X8_fail 3 M16).bind fun (r69, M69) =>
          ck (r69 = 0 ∨ r69 = 1) <|
          some (r69, M69)
      else
        (f_X8_fail 2 M16).bind fun (r46, M46) =>
        ck (r46 = 0 ∨ r46 = 1) <|
        some (r46, M46)
    else
      (f_X8_fail 1 M16).bind fun (r29, M29) =>
      ck (r29 = 0 ∨ r29 = 1) <|
      some (r29, M29)
  else
    (f_X8_fail 4 M).bind fun (r11, M11) =>
    ck (r11 = 0 ∨ r11 = 1) <|
    some (r11, M11)
def f_X3_readSetting (s : Nat) (x2 : Int) (M : Mem) : Option (Int × Mem) :=
  ck ((0 : Int) ≤ x2 ∧ x2 < 5) <|
  if (M (s + 10) x2.toNat) = 0 then
    lt (upm M (s + 10) x2.toNat (bar1 1)) fun N3 =>
    (f_X8_advance N3).bind fun M23 =>
    (f_X8_takeNumber ((jTab 1).getD x2.toNat 0) ((jTab 2).getD x2.toNat 0) M23).bind fun (r37, M37) =>
    if r37 = 0 then
      some (0, M37)
    else
      lt (upm M37 (s + 9) x2.toNat (M37 1 6)) fun N7 =>
      some (1, N7)
  else
    (f_X8_fail 3 M).bind fun (r11, M11) =>
    ck (r11 = 0 ∨ r11 = 1) <|
    some (r11, M11)
def f_X3_readShot (s : Nat) (M : Mem) : Option (Int × Mem) :=
  if (M (s + 1) 0) < 12 then
    (f_X8_advance M).bind fun M16 =>
    (f_X8_takeNumber 0 5 M16).bind fun (r22, M22) =>
    if r22 = 0 then
      some (0, M22)
    else
      ck ((0 : Int) ≤ (M22 (s + 1) 0) ∧ (M22 (s + 1) 0) < 12) <|
      lt (upm M22 (s + 2) (M22 (s + 1) 0).toNat (M22 1 6)) fun N5 =>
      (f_X8_takeNumber 1 400 N5).bind fun (r48, M48) =>
      if r48 = 0 then
        some (0, M48)
      else
        ck ((0 : Int) ≤ (M48 (s + 1) 0) ∧ (M48 (s + 1) 0) < 12) <|
        lt (upm M48 (s + 3) (M48 (s + 1) 0).toNat (M48 1 6)) fun N9 =>
        ck (inR ((M48 (s + 1) 0) + 1)) <|
        lt (upm N9 (s + 1) 0 ((M48 (s + 1) 0) + 1)) fun N12 =>
        some (1, N12)
  else
    (f_X8_fail 4 M).bind fun (r11, M11) =>
    ck (r11 = 0 ∨ r11 = 1) <|
    some (r11, M11)
def f_X3_settingTold  (M : Mem) : Option (Int) :=
  (f_X8_isWord 3 M).bind fun r3 =>
  if r3 = 0 then
    (f_X8_isWord 4 M).bind fun r14 =>
    if r14 = 0 then
      (f_X8_isWord 5 M).bind fun r25 =>
      if r25 = 0 then
        (f_X8_isWord 6 M).bind fun r36 =>
        if r36 = 0 then
          (f_X8_isWord 7 M).bind fun r47 =>
          if r47 = 0 then
            some (-1)
          else
            some 4
        else
          some 3
      else
        some 2
    else
      some 1
  else
    some 0
def f_X3_readStatement (s : Nat) (M : Mem) : Option (Int × Mem) :=
  (f_X8_isWord 0 M).bind fun r3 =>
  if r3 = 0 then
    (f_X8_isWord 1 M).bind fun r18 =>
    if r18 = 0 then
      (f_X8_isWord 2 M).bind fun r33 =>
      if r33 = 0 then
        (f_X3_settingTold M).bind fun r46 =>
        if r46 = (-1) then
          (f_X8_fail 1 M).bind fun (r57, M57) =>
          ck (r57 = 0 ∨ r57 = 1) <|
          some (r57, M57)
        else
          (f_X3_readSetting s r46 M).bind fun (r66, M66) =>
          ck (r66 = 0 ∨ r66 = 1) <|
          some (r66, M66)
      else
        (f_X3_readBan s M).bind fun (r41, M41) =>
        ck (r41 = 0 ∨ r41 = 1) <|
        some (r41, M41)
    else
      (f_X3_readName s M).bind fun (r26, M26) =>
      ck (r26 = 0 ∨ r26 = 1) <|
      some (r26, M26)
  else
    (f_X3_readShot s M).bind fun (r11, M11) =>
    ck (r11 = 0 ∨ r11 = 1) <|
    some (r11, M11)
def f_X3_readFrom_L52 (s : Nat) : Nat → Int → Mem → Option (Int × Mem)
  | 0, _, _ => none
  | n52 + 1, x2, M =>
    if 500 ≤ x2 then
      some (1, M)
    else
      if (M 1 2) = 0 then
        some (1, M)
      else
        (f_X3_readStatement s M).bind fun (r68, M68) =>
        if r68 = 0 then
          some (0, M68)
        else
          (f_X8_take 3 M68).bind fun (r76, M76) =>
          if r76 = 0 then
            some (0, M76)
          else
            ck (inR (x2 + 1)) <|
            (f_X3_readFrom_L52 s n52) (x2 + 1) M76
def f_X3_readFrom_L17 (s : Nat) : Nat → Int → Mem → Option (Int × Mem)
  | 0, _, _ => none
  | n17 + 1, x2, M =>
    if 5 ≤ x2 then
      (f_X8_startReading M).bind fun M47 =>
      f_X3_readFrom_L52 s jFuel 0 M47
    else
      ck ((0 : Int) ≤ x2 ∧ x2 < 5) <|
      lt (upm M (s + 9) x2.toNat ((jTab 0).getD x2.toNat 0)) fun N1 =>
      lt (upm N1 (s + 10) x2.toNat (bar1 0)) fun N2 =>
      ck (inR (x2 + 1)) <|
      (f_X3_readFrom_L17 s n17) (x2 + 1) N2
def f_X3_readFrom (s : Nat) (M : Mem) : Option (Int × Mem) :=
  lt (upm M (s + 1) 0 0) fun N2 =>
  lt (upm N2 (s + 1) 3 0) fun N4 =>
  lt (upm N4 (s + 1) 6 0) fun N6 =>
  f_X3_readFrom_L17 s jFuel 0 N6
def f_X9_clear (s : Nat) (M : Mem) : Option (Mem) :=
  lt (upm M (s + 11) 0 0) fun N2 =>
  lt (upm N2 (s + 11) 1 0) fun N4 =>
  some N4
def f_X9_copyFrom (s : Nat) (s1 : Nat) (M : Mem) : Option (Mem) :=
  lt (upm M (s + 11) 0 (M (s1 + 11) 0)) fun N2 =>
  lt (upm N2 (s + 11) 1 (N2 (s1 + 11) 1)) fun N4 =>
  lt (cpm N4 (s1 + 12) (0 : Int).toNat (s + 12) (0 : Int).toNat (500 : Int).toNat) fun N6 =>
  lt (cpm N6 (s1 + 13) (0 : Int).toNat (s + 13) (0 : Int).toNat (60 : Int).toNat) fun N8 =>
  lt (cpm N8 (s1 + 14) (0 : Int).toNat (s + 14) (0 : Int).toNat (60 : Int).toNat) fun N10 =>
  lt (cpm N10 (s1 + 15) (0 : Int).toNat (s + 15) (0 : Int).toNat (60 : Int).toNat) fun N12 =>
  lt (cpm N12 (s1 + 16) (0 : Int).toNat (s + 16) (0 : Int).toNat (60 : Int).toNat) fun N14 =>
  some N14
def f_X9_allSyllables_L4 (s : Nat) (M : Mem) : Nat → Int → Int → Option (Int)
  | 0, _, _ => none
  | n4 + 1, x1, x2 =>
    if (M (s + 11) 0) ≤ x2 then
      some x1
    else
      ck ((0 : Int) ≤ x2 ∧ x2 < 60) <|
      ck (inR (x1 + (M (s + 15) x2.toNat))) <|
      ck (inR (x2 + 1)) <|
      (f_X9_allSyllables_L4 s M n4) (x1 + (M (s + 15) x2.toNat)) (x2 + 1)
def f_X9_allSyllables (s : Nat) (M : Mem) : Option (Int) :=
  f_X9_allSyllables_L4 s M jFuel 0 0
def f_X9_sentenceOf_L4 (s : Nat) (x1 : Int) (M : Mem) : Nat → Int → Int → Option (Int)
  | 0, _, _ => none
  | n4 + 1, x2, x3 =>
    if x1 ≤ x3 then
      some x2
    else
      if (M (s + 11) 0) ≤ x3 then
        some x2
      else
        ck ((0 : Int) ≤ x3 ∧ x3 < 60) <|
        if (M (s + 16) x3.toNat) = 0 then
          ck (inR (x3 + 1)) <|
          (f_X9_sentenceOf_L4 s x1 M n4) x2 (x3 + 1)
        else
          ck (inR (x2 + 1)) <|
          ck (inR (x3 + 1)) <|
          (f_X9_sentenceOf_L4 s x1 M n4) (x2 + 1) (x3 + 1)
def f_X9_sentenceOf (s : Nat) (x1 : Int) (M : Mem) : Option (Int) :=
  f_X9_sentenceOf_L4 s x1 M jFuel 0 0
def f_X9_sentences (s : Nat) (M : Mem) : Option (Int) :=
  (f_X9_sentenceOf s (M (s + 11) 0) M).bind fun r5 =>
  some r5
def f_X9_endAt (s : Nat) (x1 : Int) (x2 : Int) (M : Mem) : Option (Int) :=
  if (M (s + 11) 0) = 0 then
    some 0
  else
    (f_X9_allSyllables s M).bind fun r13 =>
    ck (inR (x1 * r13)) <|
    (f_X9_sentences s M).bind fun r19 =>
    ck (inR (r19 - 1)) <|
    ck (inR (x2 * (r19 - 1))) <|
    ck (inR ((x1 * r13) + (x2 * (r19 - 1)))) <|
    some ((x1 * r13) + (x2 * (r19 - 1)))
def f_X9_isVowel (x0 : Int) (M : Mem) : Option (Int) :=
  if x0 = 97 then
    some 1
  else
    if x0 = 101 then
      some 1
    else
      if x0 = 105 then
        some 1
      else
        if x0 = 111 then
          some 1
        else
          if x0 = 117 then
            some 1
          else
            if x0 = 121 then
              some 1
            else
              some 0
def f_X9_syllablesOf_L8 (s : Nat) (x1 : Int) (x2 : Int) (M : Mem) : Nat → Int → Int → Int → Option (Int)
  | 0, _, _, _ => none
  | n8 + 1, x3, x4, x5 =>
    ck (inR (x1 + x2)) <|
    if (x1 + x2) ≤ x5 then
      some (max x3 1)
    else
      ck ((0 : Int) ≤ x5 ∧ x5 < 500) <|
      (f_X9_isVowel (M (s + 12) x5.toNat) M).bind fun r23 =>
      if r23 = 0 then
        ck (inR (x5 + 1)) <|
        (f_X9_syllablesOf_L8 s x1 x2 M n8) x3 r23 (x5 + 1)
      else
        if x4 = 0 then
          ck (inR (x3 + 1)) <|
          ck (inR (x5 + 1)) <|
          (f_X9_syllablesOf_L8 s x1 x2 M n8) (x3 + 1) r23 (x5 + 1)
        else
          ck (inR (x5 + 1)) <|
          (f_X9_syllablesOf_L8 s x1 x2 M n8) x3 r23 (x5 + 1)
def f_X9_syllablesOf (s : Nat) (x1 : Int) (x2 : Int) (M : Mem) : Option (Int) :=
  f_X9_syllablesOf_L8 s x1 x2 M jFuel 0 0 x1
def f_X9_readWord (s : Nat) (M : Mem) : Option (Int × Mem) :=
  (f_X8_size M).bind fun r1 =>
  if r1 ≤ 20 then
    if 60 ≤ (M (s + 11) 0) then
      (f_X8_fail 4 M).bind fun (r40, M40) =>
      ck (r40 = 0 ∨ r40 = 1) <|
      some (r40, M40)
    else
      ck (inR (500 - (M (s + 11) 1))) <|
      if r1 ≤ (500 - (M (s + 11) 1)) then
        ck ((0 : Int) ≤ (M 1 3) ∧ (0 : Int) ≤ (M (s + 11) 1) ∧ (0 : Int) ≤ r1 ∧ ((M 1 3) + r1 : Int) ≤ 500 ∧ ((M (s + 11) 1) + r1 : Int) ≤ 500) <|
        lt (cpm M 2 (M 1 3).toNat (s + 12) (M (s + 11) 1).toNat r1.toNat) fun N7 =>
        ck ((0 : Int) ≤ (M (s + 11) 0) ∧ (M (s + 11) 0) < 60) <|
        lt (upm N7 (s + 13) (M (s + 11) 0).toNat (M (s + 11) 1)) fun N10 =>
        lt (upm N10 (s + 14) (M (s + 11) 0).toNat r1) fun N12 =>
        lt (upm N12 (s + 16) (M (s + 11) 0).toNat (bar1 0)) fun N14 =>
        (f_X9_syllablesOf s (M (s + 11) 1) r1 N14).bind fun r111 =>
        lt (upm N14 (s + 15) (M (s + 11) 0).toNat r111) fun N17 =>
        ck (inR ((M (s + 11) 1) + r1)) <|
        lt (upm N17 (s + 11) 1 ((M (s + 11) 1) + r1)) fun N20 =>
        ck (inR ((M (s + 11) 0) + 1)) <|
        lt (upm N20 (s + 11) 0 ((M (s + 11) 0) + 1)) fun N23 =>
        (f_X8_advance N23).bind fun M136 =>
        some (1, M136)
      else
        (f_X8_fail 4 M).bind fun (r40, M40) =>
        ck (r40 = 0 ∨ r40 = 1) <|
        some (r40, M40)
  else
    (f_X8_fail 2 M).bind fun (r13, M13) =>
    ck (r13 = 0 ∨ r13 = 1) <|
    some (r13, M13)
def f_X9_readFrom_L12 (s : Nat) : Nat → Int → Int → Mem → Option (Int × Mem)
  | 0, _, _, _ => none
  | n12 + 1, x2, x3, M =>
    jn (fun (_ : Unit) => (
      if x2 = 0 then
        some (1, M)
      else
        (f_X8_fail 1 M).bind fun (r108, M108) =>
        ck (r108 = 0 ∨ r108 = 1) <|
        some (r108, M108) : Option (Int × Mem))) fun k102 =>
    if 500 ≤ x3 then
      k102 ()
    else
      if (M 1 2) = 0 then
        k102 ()
      else
        if (M 1 2) = 1 then
          (f_X9_readWord s M).bind fun (r36, M36) =>
          if r36 = 0 then
            some (0, M36)
          else
            ck (inR (x3 + 1)) <|
            (f_X9_readFrom_L12 s n12) 1 (x3 + 1) M36
        else
          if (M 1 2) = 6 then
            if x2 = 0 then
              (f_X8_fail 1 M).bind fun (r92, M92) =>
              ck (r92 = 0 ∨ r92 = 1) <|
              some (r92, M92)
            else
              if (M (s + 11) 0) ≤ 0 then
                (f_X8_fail 1 M).bind fun (r92, M92) =>
                ck (r92 = 0 ∨ r92 = 1) <|
                some (r92, M92)
              else
                ck (inR ((M (s + 11) 0) - 1)) <|
                ck ((0 : Int) ≤ ((M (s + 11) 0) - 1) ∧ ((M (s + 11) 0) - 1) < 60) <|
                lt (upm M (s + 16) ((M (s + 11) 0) - 1).toNat (bar1 1)) fun N1 =>
                (f_X8_advance N1).bind fun M84 =>
                ck (inR (x3 + 1)) <|
                (f_X9_readFrom_L12 s n12) 0 (x3 + 1) M84
          else
            (f_X8_fail 1 M).bind fun (r92, M92) =>
            ck (r92 = 0 ∨ r92 = 1) <|
            some (r92, M92)
def f_X9_readFrom (s : Nat) (M : Mem) : Option (Int × Mem) :=
  (f_X9_clear s M).bind fun M1 =>
  (f_X8_startReading M1).bind fun M7 =>
  f_X9_readFrom_L12 s jFuel 0 0 M7
def f_X2_clear (s : Nat) (M : Mem) : Option (Mem) :=
  lt (upm M (s + 17) 0 0) fun N2 =>
  some N2
def f_X2_copyFrom (s : Nat) (s1 : Nat) (M : Mem) : Option (Mem) :=
  lt (upm M (s + 17) 0 (M (s1 + 17) 0)) fun N2 =>
  lt (cpm N2 (s1 + 18) (0 : Int).toNat (s + 18) (0 : Int).toNat (30 : Int).toNat) fun N4 =>
  lt (cpm N4 (s1 + 19) (0 : Int).toNat (s + 19) (0 : Int).toNat (30 : Int).toNat) fun N6 =>
  lt (cpm N6 (s1 + 20) (0 : Int).toNat (s + 20) (0 : Int).toNat (30 : Int).toNat) fun N8 =>
  lt (cpm N8 (s1 + 21) (0 : Int).toNat (s + 21) (0 : Int).toNat (30 : Int).toNat) fun N10 =>
  lt (cpm N10 (s1 + 22) (0 : Int).toNat (s + 22) (0 : Int).toNat (30 : Int).toNat) fun N12 =>
  some N12
def f_X2_add (s : Nat) (x1 : Int) (x2 : Int) (x3 : Int) (x4 : Int) (x5 : Int) (M : Mem) : Option (Mem) :=
  if (M (s + 17) 0) < 30 then
    ck ((0 : Int) ≤ (M (s + 17) 0) ∧ (M (s + 17) 0) < 30) <|
    lt (upm M (s + 18) (M (s + 17) 0).toNat x1) fun N3 =>
    lt (upm N3 (s + 19) (M (s + 17) 0).toNat x2) fun N5 =>
    lt (upm N5 (s + 20) (M (s + 17) 0).toNat x3) fun N7 =>
    lt (upm N7 (s + 21) (M (s + 17) 0).toNat x4) fun N9 =>
    lt (upm N9 (s + 22) (M (s + 17) 0).toNat x5) fun N11 =>
    ck (inR ((M (s + 17) 0) + 1)) <|
    lt (upm N11 (s + 17) 0 ((M (s + 17) 0) + 1)) fun N14 =>
    some N14
  else
    some M
def f_X2_topIndex_L4 (s : Nat) (x1 : Int) (M : Mem) : Nat → Int → Int → Option (Int)
  | 0, _, _ => none
  | n4 + 1, x2, x3 =>
    if (M (s + 17) 0) ≤ x3 then
      some (M (s + 17) 0)
    else
      ck ((0 : Int) ≤ x3 ∧ x3 < 30) <|
      if (M (s + 22) x3.toNat) = 0 then
        if x2 = x1 then
          some x3
        else
          ck (inR (x2 + 1)) <|
          ck (inR (x3 + 1)) <|
          (f_X2_topIndex_L4 s x1 M n4) (x2 + 1) (x3 + 1)
      else
        ck (inR (x3 + 1)) <|
        (f_X2_topIndex_L4 s x1 M n4) x2 (x3 + 1)
def f_X2_topIndex (s : Nat) (x1 : Int) (M : Mem) : Option (Int) :=
  f_X2_topIndex_L4 s x1 M jFuel 0 0
def f_X2_addTop_L15 (s : Nat) (s1 : Nat) (y3 : Int) : Nat → Int → Mem → Option (Mem)
  | 0, _, _ => none
  | n15 + 1, x4, M =>
    if y3 ≤ x4 then
      some M
    else
      ck ((0 : Int) ≤ x4 ∧ x4 < 30) <|
      (f_X2_add s (M (s1 + 18) x4.toNat) (M (s1 + 19) x4.toNat) (M (s1 + 20) x4.toNat) (M (s1 + 21) x4.toNat) (M (s1 + 22) x4.toNat) M).bind fun M57 =>
      ck (inR (x4 + 1)) <|
      (f_X2_addTop_L15 s s1 y3 n15) (x4 + 1) M57
def f_X2_addTop (s : Nat) (s1 : Nat) (x2 : Int) (M : Mem) : Option (Mem) :=
  ck (inR (x2 + 1)) <|
  (f_X2_topIndex s1 (x2 + 1) M).bind fun r4 =>
  (f_X2_topIndex s1 x2 M).bind fun r10 =>
  f_X2_addTop_L15 s s1 r4 jFuel r10 M
def f_X2_topCount_L4 (s : Nat) (M : Mem) : Nat → Int → Int → Option (Int)
  | 0, _, _ => none
  | n4 + 1, x1, x2 =>
    if (M (s + 17) 0) ≤ x2 then
      some x1
    else
      ck ((0 : Int) ≤ x2 ∧ x2 < 30) <|
      if (M (s + 22) x2.toNat) = 0 then
        ck (inR (x1 + 1)) <|
        ck (inR (x2 + 1)) <|
        (f_X2_topCount_L4 s M n4) (x1 + 1) (x2 + 1)
      else
        ck (inR (x2 + 1)) <|
        (f_X2_topCount_L4 s M n4) x1 (x2 + 1)
def f_X2_topCount (s : Nat) (M : Mem) : Option (Int) :=
  f_X2_topCount_L4 s M jFuel 0 0
def f_X2_behind_L21 (s : Nat) (x1 : Int) (M : Mem) : Nat → Int → Option (Int)
  | 0, _ => none
  | n21 + 1, x2 =>
    if (M (s + 17) 0) ≤ x2 then
      some (M (s + 17) 0)
    else
      ck ((0 : Int) ≤ x2 ∧ x2 < 30) <|
      ck ((0 : Int) ≤ x1 ∧ x1 < 30) <|
      if (M (s + 22) x1.toNat) < (M (s + 22) x2.toNat) then
        ck (inR (x2 + 1)) <|
        (f_X2_behind_L21 s x1 M n21) (x2 + 1)
      else
        some x2
def f_X2_behind (s : Nat) (x1 : Int) (M : Mem) : Option (Int) :=
  if x1 < 0 then
    some (M (s + 17) 0)
  else
    if x1 < (M (s + 17) 0) then
      ck (inR (x1 + 1)) <|
      f_X2_behind_L21 s x1 M jFuel (x1 + 1)
    else
      some (M (s + 17) 0)
def f_X2_isBlock (s : Nat) (x1 : Int) (M : Mem) : Option (Int) :=
  if x1 < 0 then
    some 0
  else
    if (M (s + 17) 0) ≤ x1 then
      some 0
    else
      ck ((0 : Int) ≤ x1 ∧ x1 < 30) <|
      if (M (s + 18) x1.toNat) < 2 then
        some 0
      else
        some 1
def f_X2_framesOf (s : Nat) (x1 : Int) (M : Mem) : Option (Int) :=
  if x1 < 0 then
    some 0
  else
    if (M (s + 17) 0) ≤ x1 then
      some 0
    else
      ck ((0 : Int) ≤ x1 ∧ x1 < 30) <|
      ck (inR ((M (s + 21) x1.toNat) - (M (s + 20) x1.toNat))) <|
      ck (inR (((M (s + 21) x1.toNat) - (M (s + 20) x1.toNat)) + 1)) <|
      some (((M (s + 21) x1.toNat) - (M (s + 20) x1.toNat)) + 1)
def f_X2_shorten (s : Nat) (x1 : Int) (x2 : Int) (M : Mem) : Option (Mem) :=
  if x1 < 0 then
    some M
  else
    if (M (s + 17) 0) ≤ x1 then
      some M
    else
      ck ((0 : Int) ≤ x1 ∧ x1 < 30) <|
      ck (inR ((M (s + 21) x1.toNat) - x2)) <|
      lt (upm M (s + 21) x1.toNat ((M (s + 21) x1.toNat) - x2)) fun N4 =>
      some N4
def f_X2_deepest_L4 (s : Nat) (M : Mem) : Nat → Int → Int → Option (Int)
  | 0, _, _ => none
  | n4 + 1, x1, x2 =>
    if (M (s + 17) 0) ≤ x2 then
      some x1
    else
      (f_X2_isBlock s x2 M).bind fun r14 =>
      if r14 = 0 then
        ck (inR (x2 + 1)) <|
        (f_X2_deepest_L4 s M n4) x1 (x2 + 1)
      else
        ck ((0 : Int) ≤ x2 ∧ x2 < 30) <|
        ck (inR ((M (s + 22) x2.toNat) + 1)) <|
        ck (inR (x2 + 1)) <|
        (f_X2_deepest_L4 s M n4) (max x1 ((M (s + 22) x2.toNat) + 1)) (x2 + 1)
def f_X2_deepest (s : Nat) (M : Mem) : Option (Int) :=
  f_X2_deepest_L4 s M jFuel 0 0
def f_X2_pieceCount_L11 (s : Nat) : Nat → Int → Int → Mem → Option (Int × Mem)
  | 0, _, _, _ => none
  | n11 + 1, x1, x2, M =>
    if (M (s + 17) 0) ≤ x2 then
      some (x1, M)
    else
      ck ((0 : Int) ≤ x2 ∧ x2 < 30) <|
      if (M (s + 22) x2.toNat) < 0 then
        some (61, M)
      else
        if (M (s + 22) x2.toNat) ≤ 4 then
          (f_X2_isBlock s x2 M).bind fun r40 =>
          if r40 = 0 then
            ck ((0 : Int) ≤ (M (s + 22) x2.toNat) ∧ (M (s + 22) x2.toNat) < 5) <|
            ck (inR (x1 + (M (s + 23) (M (s + 22) x2.toNat).toNat))) <|
            ck (inR (x2 + 1)) <|
            (f_X2_pieceCount_L11 s n11) (x1 + (M (s + 23) (M (s + 22) x2.toNat).toNat)) (x2 + 1) M
          else
            if 4 ≤ (M (s + 22) x2.toNat) then
              ck (inR (x2 + 1)) <|
              (f_X2_pieceCount_L11 s n11) x1 (x2 + 1) M
            else
              ck (inR ((M (s + 22) x2.toNat) + 1)) <|
              ck ((0 : Int) ≤ (M (s + 22) x2.toNat) ∧ (M (s + 22) x2.toNat) < 5) <|
              if (M (s + 18) x2.toNat) = 2 then
                ck (inR ((M (s + 23) (M (s + 22) x2.toNat).toNat) * (M (s + 19) x2.toNat))) <|
                ck ((0 : Int) ≤ ((M (s + 22) x2.toNat) + 1) ∧ ((M (s + 22) x2.toNat) + 1) < 5) <|
                lt (upm M (s + 23) ((M (s + 22) x2.toNat) + 1).toNat ((M (s + 23) (M (s + 22) x2.toNat).toNat) * (M (s + 19) x2.toNat))) fun N1 =>
                ck (inR (x2 + 1)) <|
                (f_X2_pieceCount_L11 s n11) x1 (x2 + 1) N1
              else
                ck (inR ((M (s + 23) (M (s + 22) x2.toNat).toNat) * 1)) <|
                ck ((0 : Int) ≤ ((M (s + 22) x2.toNat) + 1) ∧ ((M (s + 22) x2.toNat) + 1) < 5) <|
                lt (upm M (s + 23) ((M (s + 22) x2.toNat) + 1).toNat ((M (s + 23) (M (s + 22) x2.toNat).toNat) * 1)) fun N2 =>
                ck (inR (x2 + 1)) <|
                (f_X2_pieceCount_L11 s n11) x1 (x2 + 1) N2
        else
          some (61, M)
def f_X2_pieceCount (s : Nat) (M : Mem) : Option (Int × Mem) :=
  lt (upm M (s + 23) (0 : Int).toNat 1) fun N2 =>
  f_X2_pieceCount_L11 s jFuel 0 0 N2
def f_X2_kindTold  (M : Mem) : Option (Int) :=
  (f_X8_isWord 0 M).bind fun r3 =>
  if r3 = 0 then
    (f_X8_isWord 1 M).bind fun r14 =>
    if r14 = 0 then
      (f_X8_isWord 8 M).bind fun r25 =>
      if r25 = 0 then
        (f_X8_isWord 9 M).bind fun r36 =>
        if r36 = 0 then
          some (-1)
        else
          some 3
      else
        some 2
    else
      some 1
  else
    some 0
def f_X2_readCut (s : Nat) (s2 : Nat) (x3 : Int) (M : Mem) : Option (Int × Mem) :=
  ck (inR ((M (s2 + 1) 0) - 1)) <|
  (f_X8_takeNumber 0 ((M (s2 + 1) 0) - 1) M).bind fun (r8, M8) =>
  if r8 = 0 then
    some (0, M8)
  else
    (f_X3_lengthOf s2 (M8 1 6) M8).bind fun r28 =>
    ck (inR (r28 - 1)) <|
    (f_X8_isWord 10 M8).bind fun r38 =>
    jn (fun (x5_94 : Int) (x6_94 : Int) (M94 : Mem) => 
      (f_X2_add s 0 (M8 1 6) x5_94 x6_94 x3 M94).bind fun M103 =>
      some (1, M103)) fun k94 =>
    if r38 = 0 then
      k94 0 (r28 - 1) M8
    else
      (f_X8_advance M8).bind fun M45 =>
      (f_X8_takeNumber 0 (r28 - 1) M45).bind fun (r52, M52) =>
      if r52 = 0 then
        some (0, M52)
      else
        (f_X8_takeWord 11 M52).bind fun (r69, M69) =>
        if r69 = 0 then
          some (0, M69)
        else
          (f_X8_takeNumber (M52 1 6) (r28 - 1) M69).bind fun (r80, M80) =>
          if r80 = 0 then
            some (0, M80)
          else
            k94 (M52 1 6) (M80 1 6) M80
def f_X2_readMap (s : Nat) (s2 : Nat) (x3 : Int) (M : Mem) : Option (Int × Mem) :=
  ck (inR ((M (s2 + 1) 3) - 1)) <|
  (f_X8_takeNumber 0 ((M (s2 + 1) 3) - 1) M).bind fun (r8, M8) =>
  if r8 = 0 then
    some (0, M8)
  else
    (f_X8_takeNumber 1 400 M8).bind fun (r27, M27) =>
    if r27 = 0 then
      some (0, M27)
    else
      ck (inR ((M27 1 6) - 1)) <|
      (f_X2_add s 1 (M8 1 6) 0 ((M27 1 6) - 1) x3 M27).bind fun M47 =>
      some (1, M47)
def f_X5_hasPieces_L2 (s0 : Nat) (x2 : Int) (M : Mem) : Nat → Int → Option (Int)
  | 0, _ => none
  | n2 + 1, x3 =>
    if x2 ≤ x3 then
      some 0
    else
      (f_X2_isBlock s0 x3 M).bind fun r9 =>
      if r9 = 0 then
        some 1
      else
        ck (inR (x3 + 1)) <|
        (f_X5_hasPieces_L2 s0 x2 M n2) (x3 + 1)
def f_X5_hasPieces (s0 : Nat) (x1 : Int) (x2 : Int) (M : Mem) : Option (Int) :=
  f_X5_hasPieces_L2 s0 x2 M jFuel x1
def f_X5_endOf (x1 : Int) (M : Mem) : Option (Int) :=
  if x1 < 0 then
    some 0
  else
    if 60 ≤ x1 then
      some 0
    else
      ck ((0 : Int) ≤ x1 ∧ x1 < 60) <|
      ck (inR ((M 61 x1.toNat) + (M 60 x1.toNat))) <|
      some ((M 61 x1.toNat) + (M 60 x1.toNat))
def f_X5_overlapOf (x1 : Int) (M : Mem) : Option (Int) :=
  if x1 < 1 then
    some 0
  else
    if 60 ≤ x1 then
      some 0
    else
      if (M 56 9) < 1 then
        some 0
      else
        if (M 56 9) ≤ 4 then
          ck (inR (x1 - 1)) <|
          ck ((0 : Int) ≤ (x1 - 1) ∧ (x1 - 1) < 60) <|
          ck ((0 : Int) ≤ x1 ∧ x1 < 60) <|
          ck ((0 : Int) ≤ (M 56 9) ∧ (M 56 9) < 5) <|
          some (min (M 63 (M 56 9).toNat) (idiv (min (M 60 (x1 - 1).toNat) (M 60 x1.toNat)) 2))
        else
          some 0
def f_X5_addPiece (s1 : Nat) (x2 : Int) (x3 : Int) (M : Mem) : Option (Mem) :=
  if (M 56 0) < 60 then
    ck ((0 : Int) ≤ x2 ∧ x2 < 30) <|
    ck ((0 : Int) ≤ (M 56 0) ∧ (M 56 0) < 60) <|
    lt (upm M 57 (M 56 0).toNat (M (s1 + 18) x2.toNat)) fun N4 =>
    lt (upm N4 58 (M 56 0).toNat (N4 (s1 + 19) x2.toNat)) fun N6 =>
    lt (upm N6 59 (M 56 0).toNat (N6 (s1 + 20) x2.toNat)) fun N8 =>
    (f_X2_framesOf s1 x2 N8).bind fun r65 =>
    lt (upm N8 60 (M 56 0).toNat r65) fun N11 =>
    (f_X5_overlapOf (M 56 0) N11).bind fun r82 =>
    lt (upm N11 62 (M 56 0).toNat r82) fun N14 =>
    jn (fun (v125 : Int) => 
      lt (upm N14 61 (M 56 0).toNat v125) fun N16 =>
      (f_X5_endOf (M 56 0) N16).bind fun r136 =>
      lt (upm N16 56 1 (max (M 56 1) r136)) fun N19 =>
      lt (upm N19 56 9 x3) fun N21 =>
      ck (inR ((M 56 0) + 1)) <|
      lt (upm N21 56 0 ((M 56 0) + 1)) fun N24 =>
      some N24) fun k125 =>
    if (M 56 0) = 0 then
      k125 0
    else
      ck (inR ((M 56 0) - 1)) <|
      (f_X5_endOf ((M 56 0) - 1) N14).bind fun r112 =>
      ck (inR (r112 - (N14 62 (M 56 0).toNat))) <|
      k125 (r112 - (N14 62 (M 56 0).toNat))
  else
    some M
def f_X5_onScreen_L7 (x1 : Int) (M : Mem) : Nat → Int → Option (Int)
  | 0, _ => none
  | n7 + 1, x2 =>
    if x2 < 0 then
      some (-1)
    else
      ck ((0 : Int) ≤ x2 ∧ x2 < 60) <|
      if x1 < (M 61 x2.toNat) then
        ck (inR (x2 + (-1))) <|
        (f_X5_onScreen_L7 x1 M n7) (x2 + (-1))
      else
        (f_X5_endOf x2 M).bind fun r24 =>
        if r24 ≤ x1 then
          ck (inR (x2 + (-1))) <|
          (f_X5_onScreen_L7 x1 M n7) (x2 + (-1))
        else
          some x2
def f_X5_onScreen (x1 : Int) (M : Mem) : Option (Int) :=
  ck (inR ((M 56 0) - 1)) <|
  f_X5_onScreen_L7 x1 M jFuel ((M 56 0) - 1)
def f_X5_framesOnScreen (x1 : Int) (M : Mem) : Option (Int) :=
  if x1 < 0 then
    some 0
  else
    if x1 < (M 56 0) then
      ck (inR (x1 + 1)) <|
      if (M 56 0) ≤ (x1 + 1) then
        ck ((0 : Int) ≤ x1 ∧ x1 < 60) <|
        ck (inR ((M 56 1) - (M 61 x1.toNat))) <|
        some ((M 56 1) - (M 61 x1.toNat))
      else
        ck ((0 : Int) ≤ (x1 + 1) ∧ (x1 + 1) < 60) <|
        ck ((0 : Int) ≤ x1 ∧ x1 < 60) <|
        ck (inR ((M 61 (x1 + 1).toNat) - (M 61 x1.toNat))) <|
        some ((M 61 (x1 + 1).toNat) - (M 61 x1.toNat))
    else
      some 0
def f_X5_shows (x1 : Int) (x2 : Int) (M : Mem) : Option (Int) :=
  (f_X5_onScreen x2 M).bind fun r2 =>
  if r2 < 0 then
    some 0
  else
    ck ((0 : Int) ≤ r2 ∧ r2 < 60) <|
    if (M 57 r2.toNat) = 1 then
      if (M 58 r2.toNat) = x1 then
        some 1
      else
        some 0
    else
      some 0
def f_X5_cameraOf (x1 : Int) (s2 : Nat) (M : Mem) : Option (Int) :=
  if x1 < 0 then
    some (-1)
  else
    if (M 56 0) ≤ x1 then
      some (-1)
    else
      ck ((0 : Int) ≤ x1 ∧ x1 < 60) <|
      if (M 57 x1.toNat) = 0 then
        (f_X3_cameraOf s2 (M 58 x1.toNat) M).bind fun r30 =>
        some r30
      else
        some (-1)
def f_X5_countOf_L5 (x1 : Int) (x2 : Int) (M : Mem) : Nat → Int → Int → Option (Int)
  | 0, _, _ => none
  | n5 + 1, x3, x4 =>
    if (M 56 0) ≤ x4 then
      some x3
    else
      ck ((0 : Int) ≤ x4 ∧ x4 < 60) <|
      if (M 57 x4.toNat) = x1 then
        if (M 58 x4.toNat) = x2 then
          ck (inR (x3 + 1)) <|
          ck (inR (x4 + 1)) <|
          (f_X5_countOf_L5 x1 x2 M n5) (x3 + 1) (x4 + 1)
        else
          ck (inR (x4 + 1)) <|
          (f_X5_countOf_L5 x1 x2 M n5) x3 (x4 + 1)
      else
        ck (inR (x4 + 1)) <|
        (f_X5_countOf_L5 x1 x2 M n5) x3 (x4 + 1)
def f_X5_countOf (x1 : Int) (x2 : Int) (M : Mem) : Option (Int) :=
  f_X5_countOf_L5 x1 x2 M jFuel 0 0
def f_X5_framesOf_L5 (x1 : Int) (x2 : Int) (M : Mem) : Nat → Int → Int → Option (Int)
  | 0, _, _ => none
  | n5 + 1, x3, x4 =>
    if (M 56 0) ≤ x4 then
      some x3
    else
      ck ((0 : Int) ≤ x4 ∧ x4 < 60) <|
      if (M 57 x4.toNat) = x1 then
        if (M 58 x4.toNat) = x2 then
          ck (inR (x3 + (M 60 x4.toNat))) <|
          ck (inR (x4 + 1)) <|
          (f_X5_framesOf_L5 x1 x2 M n5) (x3 + (M 60 x4.toNat)) (x4 + 1)
        else
          ck (inR (x4 + 1)) <|
          (f_X5_framesOf_L5 x1 x2 M n5) x3 (x4 + 1)
      else
        ck (inR (x4 + 1)) <|
        (f_X5_framesOf_L5 x1 x2 M n5) x3 (x4 + 1)
def f_X5_framesOf (x1 : Int) (x2 : Int) (M : Mem) : Option (Int) :=
  f_X5_framesOf_L5 x1 x2 M jFuel 0 0
def f_X5_longest_L4 (M : Mem) : Nat → Int → Int → Option (Int)
  | 0, _, _ => none
  | n4 + 1, x1, x2 =>
    if (M 56 0) ≤ x2 then
      some x1
    else
      ck ((0 : Int) ≤ x2 ∧ x2 < 60) <|
      ck (inR (x2 + 1)) <|
      (f_X5_longest_L4 M n4) (max x1 (M 60 x2.toNat)) (x2 + 1)
def f_X5_longest  (M : Mem) : Option (Int) :=
  f_X5_longest_L4 M jFuel 0 0
def f_X5_allOverlaps_L4 (M : Mem) : Nat → Int → Int → Option (Int)
  | 0, _, _ => none
  | n4 + 1, x1, x2 =>
    if (M 56 0) ≤ x2 then
      some x1
    else
      ck ((0 : Int) ≤ x2 ∧ x2 < 60) <|
      ck (inR (x1 + (M 62 x2.toNat))) <|
      ck (inR (x2 + 1)) <|
      (f_X5_allOverlaps_L4 M n4) (x1 + (M 62 x2.toNat)) (x2 + 1)
def f_X5_allOverlaps  (M : Mem) : Option (Int) :=
  f_X5_allOverlaps_L4 M jFuel 0 0
def f_X6_timeFrom_L18 (s1 : Nat) (s2 : Nat) : Nat → Int → Int → Mem → Option (Mem)
  | 0, _, _, _ => none
  | n18 + 1, x3, x4, M =>
    if (M 64 0) ≤ x4 then
      some M
    else
      ck ((0 : Int) ≤ x4 ∧ x4 < 60) <|
      lt (upm M 65 x4.toNat x3) fun N1 =>
      (f_X3_setting s2 1 N1).bind fun r39 =>
      ck (inR (r39 * (N1 (s1 + 15) x4.toNat))) <|
      ck (inR (x3 + (r39 * (N1 (s1 + 15) x4.toNat)))) <|
      lt (upm N1 64 1 (x3 + (r39 * (N1 (s1 + 15) x4.toNat)))) fun N2 =>
      lt (upm N2 66 x4.toNat (x3 + (r39 * (N1 (s1 + 15) x4.toNat)))) fun N3 =>
      (f_X3_mapNamed s2 (s1 + 12) (N3 (s1 + 13) x4.toNat) (N3 (s1 + 14) x4.toNat) N3).bind fun r90 =>
      lt (upm N3 67 x4.toNat r90) fun N4 =>
      if (N4 (s1 + 16) x4.toNat) = 0 then
        ck (inR ((x3 + (r39 * (N1 (s1 + 15) x4.toNat))) + 0)) <|
        ck (inR (x4 + 1)) <|
        (f_X6_timeFrom_L18 s1 s2 n18) ((x3 + (r39 * (N1 (s1 + 15) x4.toNat))) + 0) (x4 + 1) N4
      else
        (f_X3_setting s2 2 N4).bind fun r110 =>
        ck (inR ((x3 + (r39 * (N1 (s1 + 15) x4.toNat))) + r110)) <|
        ck (inR (x4 + 1)) <|
        (f_X6_timeFrom_L18 s1 s2 n18) ((x3 + (r39 * (N1 (s1 + 15) x4.toNat))) + r110) (x4 + 1) N4
def f_X6_timeFrom (s1 : Nat) (s2 : Nat) (M : Mem) : Option (Mem) :=
  lt (upm M 64 0 (M (s1 + 11) 0)) fun N2 =>
  lt (upm N2 64 1 0) fun N4 =>
  f_X6_timeFrom_L18 s1 s2 jFuel 0 0 N4
def f_X6_wordAt_L2 (x1 : Int) (M : Mem) : Nat → Int → Option (Int)
  | 0, _ => none
  | n2 + 1, x2 =>
    if (M 64 0) ≤ x2 then
      some (-1)
    else
      ck ((0 : Int) ≤ x2 ∧ x2 < 60) <|
      if x1 < (M 65 x2.toNat) then
        ck (inR (x2 + 1)) <|
        (f_X6_wordAt_L2 x1 M n2) (x2 + 1)
      else
        if (M 66 x2.toNat) ≤ x1 then
          ck (inR (x2 + 1)) <|
          (f_X6_wordAt_L2 x1 M n2) (x2 + 1)
        else
          some x2
def f_X6_wordAt (x1 : Int) (M : Mem) : Option (Int) :=
  f_X6_wordAt_L2 x1 M jFuel 0
def f_X6_countOf_L4 (x1 : Int) (M : Mem) : Nat → Int → Int → Option (Int)
  | 0, _, _ => none
  | n4 + 1, x2, x3 =>
    if (M 64 0) ≤ x3 then
      some x2
    else
      ck ((0 : Int) ≤ x3 ∧ x3 < 60) <|
      if (M 67 x3.toNat) = x1 then
        ck (inR (x2 + 1)) <|
        ck (inR (x3 + 1)) <|
        (f_X6_countOf_L4 x1 M n4) (x2 + 1) (x3 + 1)
      else
        ck (inR (x3 + 1)) <|
        (f_X6_countOf_L4 x1 M n4) x2 (x3 + 1)
def f_X6_countOf (x1 : Int) (M : Mem) : Option (Int) :=
  f_X6_countOf_L4 x1 M jFuel 0 0
def f_X7_copyFrom (s : Nat) (s1 : Nat) (M : Mem) : Option (Mem) :=
  (f_X3_copyFrom s s1 M).bind fun M8 =>
  (f_X9_copyFrom s s1 M8).bind fun M19 =>
  (f_X2_copyFrom s s1 M19).bind fun M30 =>
  some M30
def f_X0_compare (x1 : Int) (x2 : Int) (M : Mem) : Option (Mem) :=
  (f_J6_bitCount_0f7a4 x1 M).bind fun r1 =>
  jn (fun (_ : Unit) => (
    lt (upm M 71 0 x1) fun N3 =>
    lt (upm N3 71 1 x2) fun N5 =>
    lt (upm N5 71 2 r1) fun N7 =>
    some N7 : Option (Mem))) fun k37 =>
  if (M 71 0) = (-1) then
    k37 ()
  else
    if x2 < (M 71 1) then
      k37 ()
    else
      if x2 = (M 71 1) then
        if (M 71 2) ≤ r1 then
          some M
        else
          k37 ()
      else
        some M
def f_X0_find_L52 (SELF25 : Int → Mem → Option (Mem)) (s1 : Nat) (x2 : Int) (x3 : Int) (y4 : Int) (x5 : Int) (y6 : Int) : Nat → Int → Mem → Option (Mem)
  | 0, _, _ => none
  | n52 + 1, x7, M =>
    if (ishl 1 x5) ≤ x7 then
      ck (inR (x5 + 1)) <|
      SELF25 (x5 + 1) M
    else
      ck ((0 : Int) ≤ x7 ∧ x7 < 4096) <|
      ck (inR ((M 72 x7.toNat) + y6)) <|
      ck ((0 : Int) ≤ (ior (ishl 1 x5) x7) ∧ (ior (ishl 1 x5) x7) < 4096) <|
      lt (upm M 72 (ior (ishl 1 x5) x7).toNat ((M 72 x7.toNat) + y6)) fun N1 =>
      ck (inR ((N1 72 (ior (ishl 1 x5) x7).toNat) - x3)) <|
      if (iand (ior (ishl 1 x5) x7) (ixor x2 (-1))) = 0 then
        if ((N1 72 (ior (ishl 1 x5) x7).toNat) - x3) < 0 then
          ck (inR (x7 + 1)) <|
          (f_X0_find_L52 SELF25 s1 x2 x3 y4 x5 y6 n52) (x7 + 1) N1
        else
          ck (inR (y6 - ((N1 72 (ior (ishl 1 x5) x7).toNat) - x3))) <|
          if (y6 - ((N1 72 (ior (ishl 1 x5) x7).toNat) - x3)) < y4 then
            ck (inR (x7 + 1)) <|
            (f_X0_find_L52 SELF25 s1 x2 x3 y4 x5 y6 n52) (x7 + 1) N1
          else
            (f_X0_compare (ior (ishl 1 x5) x7) ((N1 72 (ior (ishl 1 x5) x7).toNat) - x3) N1).bind fun M127 =>
            ck (inR (x7 + 1)) <|
            (f_X0_find_L52 SELF25 s1 x2 x3 y4 x5 y6 n52) (x7 + 1) M127
      else
        ck (inR (x7 + 1)) <|
        (f_X0_find_L52 SELF25 s1 x2 x3 y4 x5 y6 n52) (x7 + 1) N1
def f_X0_find_L25 (s1 : Nat) (x2 : Int) (x3 : Int) (y4 : Int) : Nat → Int → Mem → Option (Mem)
  | 0, _, _ => none
  | n25 + 1, x5, M =>
    if (M (s1 + 1) 0) ≤ x5 then
      some M
    else
      if 12 ≤ x5 then
        some M
      else
        (f_X3_lengthOf s1 x5 M).bind fun r44 =>
        f_X0_find_L52 (f_X0_find_L25 s1 x2 x3 y4 n25) s1 x2 x3 y4 x5 r44 jFuel 0 M
def f_X0_find (s1 : Nat) (x2 : Int) (x3 : Int) (M : Mem) : Option (Mem) :=
  lt (upm M 71 0 (-1)) fun N2 =>
  lt (upm N2 71 1 (-1)) fun N4 =>
  lt (upm N4 71 2 (-1)) fun N6 =>
  (f_X3_setting s1 3 N6).bind fun r17 =>
  f_X0_find_L25 s1 x2 x3 r17 jFuel 0 N6
def f_X1_add (x1 : Int) (x2 : Int) (M : Mem) : Option (Mem) :=
  if 241 ≤ (M 68 0) then
    some M
  else
    ck ((0 : Int) ≤ (M 68 0) ∧ (M 68 0) < 241) <|
    lt (upm M 69 (M 68 0).toNat x1) fun N3 =>
    lt (upm N3 70 (M 68 0).toNat x2) fun N5 =>
    ck (inR ((M 68 0) + 1)) <|
    lt (upm N5 68 0 ((M 68 0) + 1)) fun N8 =>
    some N8
def f_X1_findBanned_L13 (s2 : Nat) (y3 : Int) : Nat → Int → Mem → Option (Mem)
  | 0, _, _ => none
  | n13 + 1, x4, M =>
    if (M 56 0) ≤ x4 then
      some M
    else
      ck ((0 : Int) ≤ x4 ∧ x4 < 60) <|
      if (M 57 x4.toNat) = 0 then
        if (iand (ishr y3 (M 58 x4.toNat)) 1) = 0 then
          (f_X1_add 1 x4 M).bind fun M50 =>
          ck (inR (x4 + 1)) <|
          (f_X1_findBanned_L13 s2 y3 n13) (x4 + 1) M50
        else
          ck (inR (x4 + 1)) <|
          (f_X1_findBanned_L13 s2 y3 n13) (x4 + 1) M
      else
        ck (inR (x4 + 1)) <|
        (f_X1_findBanned_L13 s2 y3 n13) (x4 + 1) M
def f_X1_findBanned (s2 : Nat) (M : Mem) : Option (Mem) :=
  (f_X3_setting s2 0 M).bind fun r3 =>
  (f_X3_allowedShots s2 r3 M).bind fun r6 =>
  f_X1_findBanned_L13 s2 r6 jFuel 0 M
def f_X1_findSameCamera_L2 (s2 : Nat) : Nat → Int → Mem → Option (Mem)
  | 0, _, _ => none
  | n2 + 1, x3, M =>
    if (M 56 0) ≤ x3 then
      some M
    else
      (f_X5_cameraOf x3 s2 M).bind fun r13 =>
      if r13 = (-1) then
        ck (inR (x3 + 1)) <|
        (f_X1_findSameCamera_L2 s2 n2) (x3 + 1) M
      else
        ck (inR (x3 - 1)) <|
        (f_X5_cameraOf (x3 - 1) s2 M).bind fun r31 =>
        if r13 = r31 then
          (f_X1_add 4 x3 M).bind fun M40 =>
          ck (inR (x3 + 1)) <|
          (f_X1_findSameCamera_L2 s2 n2) (x3 + 1) M40
        else
          ck (inR (x3 + 1)) <|
          (f_X1_findSameCamera_L2 s2 n2) (x3 + 1) M
def f_X1_findSameCamera (s2 : Nat) (M : Mem) : Option (Mem) :=
  f_X1_findSameCamera_L2 s2 jFuel 1 M
def f_X1_findShort_L2 (x2 : Int) : Nat → Int → Mem → Option (Mem)
  | 0, _, _ => none
  | n2 + 1, x3, M =>
    if (M 56 0) ≤ x3 then
      some M
    else
      ck ((0 : Int) ≤ x3 ∧ x3 < 60) <|
      if x2 ≤ (M 60 x3.toNat) then
        ck (inR (x3 + 1)) <|
        (f_X1_findShort_L2 x2 n2) (x3 + 1) M
      else
        (f_X1_add 3 x3 M).bind fun M23 =>
        ck (inR (x3 + 1)) <|
        (f_X1_findShort_L2 x2 n2) (x3 + 1) M23
def f_X1_findShort (x2 : Int) (M : Mem) : Option (Mem) :=
  f_X1_findShort_L2 x2 jFuel 0 M
def f_X1_findUnseenNames_L2  : Nat → Int → Mem → Option (Mem)
  | 0, _, _ => none
  | n2 + 1, x3, M =>
    if (M 64 0) ≤ x3 then
      some M
    else
      ck ((0 : Int) ≤ x3 ∧ x3 < 60) <|
      if (M 67 x3.toNat) = (-1) then
        ck (inR (x3 + 1)) <|
        (f_X1_findUnseenNames_L2 n2) (x3 + 1) M
      else
        (f_X5_shows (M 67 x3.toNat) (M 65 x3.toNat) M).bind fun r33 =>
        if r33 = 0 then
          (f_X1_add 2 x3 M).bind fun M42 =>
          ck (inR (x3 + 1)) <|
          (f_X1_findUnseenNames_L2 n2) (x3 + 1) M42
        else
          ck (inR (x3 + 1)) <|
          (f_X1_findUnseenNames_L2 n2) (x3 + 1) M
def f_X1_findUnseenNames  (M : Mem) : Option (Mem) :=
  f_X1_findUnseenNames_L2 jFuel 0 M
def f_X1_find (s1 : Nat) (M : Mem) : Option (Mem) :=
  lt (upm M 68 0 0) fun N2 =>
  (f_X1_findBanned s1 N2).bind fun M11 =>
  (f_X1_findUnseenNames M11).bind fun M17 =>
  (f_X3_setting s1 3 M17).bind fun r27 =>
  (f_X1_findShort r27 M17).bind fun M30 =>
  (f_X1_findSameCamera s1 M30).bind fun M39 =>
  ck (inR ((M39 56 1) - (M39 64 1))) <|
  ck (inR (-((M39 56 1) - (M39 64 1)))) <|
  (f_X3_setting s1 4 M39).bind fun r59 =>
  if (max ((M39 56 1) - (M39 64 1)) (-((M39 56 1) - (M39 64 1)))) ≤ r59 then
    some M39
  else
    (f_X1_add 5 (-1) M39).bind fun M68 =>
    some M68
def f_X1_countOf_L4 (x1 : Int) (M : Mem) : Nat → Int → Int → Option (Int)
  | 0, _, _ => none
  | n4 + 1, x2, x3 =>
    if (M 68 0) ≤ x3 then
      some x2
    else
      ck ((0 : Int) ≤ x3 ∧ x3 < 241) <|
      if (M 69 x3.toNat) = x1 then
        ck (inR (x2 + 1)) <|
        ck (inR (x3 + 1)) <|
        (f_X1_countOf_L4 x1 M n4) (x2 + 1) (x3 + 1)
      else
        ck (inR (x3 + 1)) <|
        (f_X1_countOf_L4 x1 M n4) x2 (x3 + 1)
def f_X1_countOf (x1 : Int) (M : Mem) : Option (Int) :=
  f_X1_countOf_L4 x1 M jFuel 0 0
def f_X4_byteAt (x1 : Int) (M : Mem) : Option (Int) :=
  if x1 < 0 then
    some (-1)
  else
    if (M 3 1) ≤ x1 then
      some (-1)
    else
      ck ((0 : Int) ≤ x1 ∧ x1 < 1000) <|
      some (M 4 x1.toNat)
def f_X4_put (x1 : Int) (M : Mem) : Option (Mem) :=
  if 1000 ≤ (M 3 1) then
    some M
  else
    ck ((0 : Int) ≤ (M 3 1) ∧ (M 3 1) < 1000) <|
    lt (upm M 4 (M 3 1).toNat (bar8 (i2b x1))) fun N3 =>
    ck (inR ((M 3 1) + 1)) <|
    lt (upm N3 3 1 ((M 3 1) + 1)) fun N6 =>
    some N6
def f_X4_closeBlocks_L2 (x1 : Int) : Nat → Int → Mem → Option (Mem)
  | 0, _, _ => none
  | n2 + 1, x2, M =>
    if x1 ≤ x2 then
      some M
    else
      (f_X4_put 125 M).bind fun M10 =>
      (f_X4_put 59 M10).bind fun M16 =>
      ck (inR (x2 + 1)) <|
      (f_X4_closeBlocks_L2 x1 n2) (x2 + 1) M16
def f_X4_closeBlocks (x1 : Int) (M : Mem) : Option (Mem) :=
  f_X4_closeBlocks_L2 x1 jFuel 0 M
def f_X4_putNumber (x1 : Int) (M : Mem) : Option (Mem) :=
  jn (fun (M20 : Mem) => (
    jn (fun (M40 : Mem) => (
      ck (inR (48 + (irem x1 10))) <|
      (f_X4_put (48 + (irem x1 10)) M40).bind fun M48 =>
      some M48 : Option (Mem))) fun k40 =>
    if x1 < 10 then
      k40 M20
    else
      ck (inR (48 + (irem (idiv x1 10) 10))) <|
      (f_X4_put (48 + (irem (idiv x1 10) 10)) M20).bind fun M37 =>
      k40 M37 : Option (Mem))) fun k20 =>
  if x1 < 100 then
    k20 M
  else
    ck (inR (48 + (irem (idiv x1 100) 10))) <|
    (f_X4_put (48 + (irem (idiv x1 100) 10)) M).bind fun M17 =>
    k20 M17
def f_X4_putText_L2 (w1 : Nat) : Nat → Int → Mem → Option (Mem)
  | 0, _, _ => none
  | n2 + 1, x2, M =>
    if (((lenST.getD w1 0 : Nat)) : Int) ≤ x2 then
      some M
    else
      ck ((0 : Int) ≤ x2 ∧ x2 < ((lenST.getD w1 0 : Nat) : Int)) <|
      (f_X4_put (chST w1 x2.toNat) M).bind fun M16 =>
      ck (inR (x2 + 1)) <|
      (f_X4_putText_L2 w1 n2) (x2 + 1) M16
def f_X4_putText (w1 : Nat) (M : Mem) : Option (Mem) :=
  f_X4_putText_L2 w1 jFuel 0 M
def f_X4_writeFrames (s1 : Nat) (x2 : Int) (s3 : Nat) (M : Mem) : Option (Mem) :=
  ck ((0 : Int) ≤ x2 ∧ x2 < 30) <|
  if (M (s1 + 18) x2.toNat) = 1 then
    (f_X4_put 32 M).bind fun M13 =>
    (f_X2_framesOf s1 x2 M13).bind fun r19 =>
    (f_X4_putNumber r19 M13).bind fun M22 =>
    some M22
  else
    (f_X2_framesOf s1 x2 M).bind fun r30 =>
    (f_X3_lengthOf s3 (M (s1 + 19) x2.toNat) M).bind fun r40 =>
    if r30 = r40 then
      some M
    else
      (f_X4_putText 16 M).bind fun M49 =>
      (f_X4_putNumber (M49 (s1 + 20) x2.toNat) M49).bind fun M59 =>
      (f_X4_putText 17 M59).bind fun M65 =>
      (f_X4_putNumber (M65 (s1 + 21) x2.toNat) M65).bind fun M75 =>
      some M75
def f_X4_writeHead (s1 : Nat) (x2 : Int) (M : Mem) : Option (Mem) :=
  ck ((0 : Int) ≤ x2 ∧ x2 < 30) <|
  jn (fun (M65 : Mem) => (
    (f_X4_putNumber (M65 (s1 + 19) x2.toNat) M65).bind fun M72 =>
    some M72 : Option (Mem))) fun k65 =>
  if (M (s1 + 18) x2.toNat) = 0 then
    (f_X4_putText 12 M).bind fun M35 =>
    k65 M35
  else if (M (s1 + 18) x2.toNat) = 1 then
    (f_X4_putText 13 M).bind fun M44 =>
    k65 M44
  else if (M (s1 + 18) x2.toNat) = 2 then
    (f_X4_putText 14 M).bind fun M53 =>
    k65 M53
  else (f_X4_putText 15 M).bind fun M62 =>
  k65 M62
def f_X4_writeItems_L10 (s1 : Nat) (s2 : Nat) : Nat → Int → Int → Mem → Option (Mem)
  | 0, _, _, _ => none
  | n10 + 1, x3, x4, M =>
    if (M (s1 + 17) 0) ≤ x4 then
      (f_X4_closeBlocks x3 M).bind fun M90 =>
      some M90
    else
      ck ((0 : Int) ≤ x4 ∧ x4 < 30) <|
      ck (inR (x3 - (M (s1 + 22) x4.toNat))) <|
      (f_X4_closeBlocks (x3 - (M (s1 + 22) x4.toNat)) M).bind fun M29 =>
      (f_X4_writeHead s1 x4 M29).bind fun M44 =>
      (f_X2_isBlock s1 x4 M44).bind fun r50 =>
      if r50 = 0 then
        (f_X4_writeFrames s1 x4 s2 M44).bind fun M73 =>
        (f_X4_put 59 M73).bind fun M79 =>
        ck (inR (x4 + 1)) <|
        (f_X4_writeItems_L10 s1 s2 n10) (M29 (s1 + 22) x4.toNat) (x4 + 1) M79
      else
        (f_X4_put 123 M44).bind fun M59 =>
        ck (inR ((M29 (s1 + 22) x4.toNat) + 1)) <|
        ck (inR (x4 + 1)) <|
        (f_X4_writeItems_L10 s1 s2 n10) ((M29 (s1 + 22) x4.toNat) + 1) (x4 + 1) M59
def f_X4_writeItems (s1 : Nat) (s2 : Nat) (M : Mem) : Option (Mem) :=
  lt (upm M 3 1 0) fun N2 =>
  f_X4_writeItems_L10 s1 s2 jFuel 0 0 N2
def f_X4_writeWords_L35 (SELF7 : Int → Mem → Option (Mem)) (s1 : Nat) (x2 : Int) (y3 : Int) : Nat → Int → Mem → Option (Mem)
  | 0, _, _ => none
  | n35 + 1, x4, M =>
    ck ((0 : Int) ≤ x2 ∧ x2 < 60) <|
    ck (inR (y3 + (M (s1 + 14) x2.toNat))) <|
    if (y3 + (M (s1 + 14) x2.toNat)) ≤ x4 then
      if (M (s1 + 16) x2.toNat) = 0 then
        ck (inR (x2 + 1)) <|
        SELF7 (x2 + 1) M
      else
        (f_X4_put 46 M).bind fun M77 =>
        ck (inR (x2 + 1)) <|
        SELF7 (x2 + 1) M77
    else
      ck ((0 : Int) ≤ x4 ∧ x4 < 500) <|
      (f_X4_put (M (s1 + 12) x4.toNat) M).bind fun M56 =>
      ck (inR (x4 + 1)) <|
      (f_X4_writeWords_L35 SELF7 s1 x2 y3 n35) (x4 + 1) M56
def f_X4_writeWords_L7 (s1 : Nat) : Nat → Int → Mem → Option (Mem)
  | 0, _, _ => none
  | n7 + 1, x2, M =>
    if (M (s1 + 11) 0) ≤ x2 then
      some M
    else
      if x2 ≤ 0 then
        ck ((0 : Int) ≤ x2 ∧ x2 < 60) <|
        f_X4_writeWords_L35 (f_X4_writeWords_L7 s1 n7) s1 x2 (M (s1 + 13) x2.toNat) jFuel (M (s1 + 13) x2.toNat) M
      else
        (f_X4_put 32 M).bind fun M22 =>
        ck ((0 : Int) ≤ x2 ∧ x2 < 60) <|
        f_X4_writeWords_L35 (f_X4_writeWords_L7 s1 n7) s1 x2 (M22 (s1 + 13) x2.toNat) jFuel (M22 (s1 + 13) x2.toNat) M22
def f_X4_writeWords (s1 : Nat) (M : Mem) : Option (Mem) :=
  lt (upm M 3 1 0) fun N2 =>
  f_X4_writeWords_L7 s1 jFuel 0 N2
def f_X11_thrown  (M : Mem) : Option (Int) :=
  some (M 0 7)
def f_X11_isIn (x0 : Int) (x1 : Int) (x2 : Int) (M : Mem) : Option (Int) :=
  if x0 < x1 then
    some 0
  else
    if x2 < x0 then
      some 0
    else
      some 1
def f_X11_bit (x0 : Int) (M : Mem) : Option (Int) :=
  if x0 = 0 then
    some 0
  else
    some 1
def f_X11_bits_L4 (M : Mem) : Nat → Int → Int → Option (Int)
  | 0, _, _ => none
  | n4 + 1, x1, x2 =>
    if x2 ≤ 0 then
      some x1
    else
      ck (inR (x1 + (iand x2 1))) <|
      (f_X11_bits_L4 M n4) (x1 + (iand x2 1)) (ishr x2 1)
def f_X11_bits (x0 : Int) (M : Mem) : Option (Int) :=
  f_X11_bits_L4 M jFuel 0 x0
def f_X11_goes (x1 : Int) (M : Mem) : Option (Int × Mem) :=
  if x1 = 0 then
    lt (upm M 0 7 1) fun N2 =>
    ck (x1 = 0 ∨ x1 = 1) <|
    some (x1, N2)
  else
    lt (upm M 0 7 0) fun N5 =>
    ck (x1 = 0 ∨ x1 = 1) <|
    some (x1, N5)
def f_X11_goesBoth (x1 : Int) (x2 : Int) (M : Mem) : Option (Int × Mem) :=
  jn (fun (v18 : Int) => 
    lt (upm M 0 7 v18) fun N2 =>
    if v18 = 0 then
      some (1, N2)
    else
      some (0, N2)) fun k18 =>
  if x1 = 0 then
    k18 1
  else
    if x2 = 0 then
      k18 2
    else
      k18 0
def f_X11_clears_L2  : Nat → Int → Mem → Option (Mem)
  | 0, _, _ => none
  | n2 + 1, x1, M =>
    if 1062 ≤ x1 then
      lt (upm M 1 (1 : Int).toNat 4) fun N1 =>
      lt (upm N1 1 (2 : Int).toNat 10) fun N2 =>
      lt (upm N2 1 (3 : Int).toNat 8) fun N3 =>
      some N3
    else
      ck ((0 : Int) ≤ x1 ∧ x1 < 1062) <|
      lt (upm M 1 x1.toNat 0) fun N4 =>
      ck (inR (x1 + 1)) <|
      (f_X11_clears_L2 n2) (x1 + 1) N4
def f_X11_clears  (M : Mem) : Option (Mem) :=
  f_X11_clears_L2 jFuel 0 M
def f_X11_copies_L3 (b0 nb0 : Nat) (b2 nb2 : Nat) (x1 : Int) (x3 : Int) : Nat → Int → Mem → Option (Mem)
  | 0, _, _ => none
  | n3 + 1, x4, M =>
    if 1062 ≤ x4 then
      some M
    else
      ck (inR (x3 + x4)) <|
      ck (inR (x1 + x4)) <|
      ck ((0 : Int) ≤ (x1 + x4) ∧ (x1 + x4) < (nb0 : Int)) <|
      ck ((0 : Int) ≤ (x3 + x4) ∧ (x3 + x4) < (nb2 : Int)) <|
      lt (upm M b2 (x3 + x4).toNat (M b0 (x1 + x4).toNat)) fun N1 =>
      ck (inR (x4 + 1)) <|
      (f_X11_copies_L3 b0 nb0 b2 nb2 x1 x3 n3) (x4 + 1) N1
def f_X11_copies (b0 nb0 : Nat) (x1 : Int) (b2 nb2 : Nat) (x3 : Int) (M : Mem) : Option (Mem) :=
  f_X11_copies_L3 b0 nb0 b2 nb2 x1 x3 jFuel 0 M
def f_X11_cameraOf (x1 : Int) (M : Mem) : Option (Int) :=
  ck (inR (2 * x1)) <|
  ck (inR (12 + (2 * x1))) <|
  ck ((0 : Int) ≤ (12 + (2 * x1)) ∧ (12 + (2 * x1)) < 1062) <|
  some (M 1 (12 + (2 * x1)).toNat)
def f_X11_lengthOf (x1 : Int) (M : Mem) : Option (Int) :=
  ck (inR (2 * x1)) <|
  ck (inR (12 + (2 * x1))) <|
  ck (inR ((12 + (2 * x1)) + 1)) <|
  ck ((0 : Int) ≤ ((12 + (2 * x1)) + 1) ∧ ((12 + (2 * x1)) + 1) < 1062) <|
  some (M 1 ((12 + (2 * x1)) + 1).toNat)
def f_X11_isBannedIn_L5 (x1 : Int) (x2 : Int) (M : Mem) : Nat → Int → Int → Option (Int)
  | 0, _, _ => none
  | n5 + 1, x3, x4 =>
    if (M 1 (7 : Int).toNat) ≤ x4 then
      ck (x3 = 0 ∨ x3 = 1) <|
      some x3
    else
      ck (inR (3 * x4)) <|
      ck (inR (96 + (3 * x4))) <|
      ck ((0 : Int) ≤ (96 + (3 * x4)) ∧ (96 + (3 * x4)) < 1062) <|
      (f_X11_cameraOf x1 M).bind fun r36 =>
      if (M 1 (96 + (3 * x4)).toNat) = r36 then
        ck (inR ((96 + (3 * x4)) + 1)) <|
        ck ((0 : Int) ≤ ((96 + (3 * x4)) + 1) ∧ ((96 + (3 * x4)) + 1) < 1062) <|
        ck (inR ((96 + (3 * x4)) + 2)) <|
        ck ((0 : Int) ≤ ((96 + (3 * x4)) + 2) ∧ ((96 + (3 * x4)) + 2) < 1062) <|
        (f_X11_isIn x2 (M 1 ((96 + (3 * x4)) + 1).toNat) (M 1 ((96 + (3 * x4)) + 2).toNat) M).bind fun r61 =>
        if r61 = 0 then
          ck (inR (x4 + 1)) <|
          (f_X11_isBannedIn_L5 x1 x2 M n5) (ior x3 0) (x4 + 1)
        else
          ck (inR (x4 + 1)) <|
          (f_X11_isBannedIn_L5 x1 x2 M n5) (ior x3 1) (x4 + 1)
      else
        ck (inR (x4 + 1)) <|
        (f_X11_isBannedIn_L5 x1 x2 M n5) (ior x3 0) (x4 + 1)
def f_X11_isBannedIn (x1 : Int) (x2 : Int) (M : Mem) : Option (Int) :=
  f_X11_isBannedIn_L5 x1 x2 M jFuel 0 0
def f_X11_isBanned (x1 : Int) (M : Mem) : Option (Int) :=
  (f_X11_isBannedIn x1 (M 1 (0 : Int).toNat) M).bind fun r8 =>
  ck (r8 = 0 ∨ r8 = 1) <|
  some r8
def f_X11_r (x1 : Int) (x2 : Int) (M : Mem) : Option (Int) :=
  ck (inR (4 * x1)) <|
  ck (inR (126 + (4 * x1))) <|
  ck (inR ((126 + (4 * x1)) + x2)) <|
  ck ((0 : Int) ≤ ((126 + (4 * x1)) + x2) ∧ ((126 + (4 * x1)) + x2) < 1062) <|
  some (M 1 ((126 + (4 * x1)) + x2).toNat)
def f_X11_lays (x1 : Int) (x2 : Int) (x3 : Int) (x4 : Int) (x5 : Int) (M : Mem) : Option (Mem) :=
  ck (inR (4 * x1)) <|
  ck (inR (126 + (4 * x1))) <|
  ck ((0 : Int) ≤ (126 + (4 * x1)) ∧ (126 + (4 * x1)) < 1062) <|
  lt (upm M 1 (126 + (4 * x1)).toNat x2) fun N5 =>
  ck (inR ((126 + (4 * x1)) + 1)) <|
  ck ((0 : Int) ≤ ((126 + (4 * x1)) + 1) ∧ ((126 + (4 * x1)) + 1) < 1062) <|
  lt (upm N5 1 ((126 + (4 * x1)) + 1).toNat x3) fun N9 =>
  ck (inR ((126 + (4 * x1)) + 2)) <|
  ck ((0 : Int) ≤ ((126 + (4 * x1)) + 2) ∧ ((126 + (4 * x1)) + 2) < 1062) <|
  lt (upm N9 1 ((126 + (4 * x1)) + 2).toNat x4) fun N13 =>
  ck (inR ((126 + (4 * x1)) + 3)) <|
  ck ((0 : Int) ≤ ((126 + (4 * x1)) + 3) ∧ ((126 + (4 * x1)) + 3) < 1062) <|
  lt (upm N13 1 ((126 + (4 * x1)) + 3).toNat x5) fun N17 =>
  some N17
def f_X11_opens (x1 : Int) (x2 : Int) (x3 : Int) (M : Mem) : Option (Mem) :=
  ck ((0 : Int) ≤ (M 0 21) ∧ (M 0 21) < 8) <|
  lt (upm M 16 (M 0 21).toNat x1) fun N3 =>
  lt (upm N3 17 (M 0 21).toNat x2) fun N5 =>
  jn (fun (M34 : Mem) => (
    jn (fun (v54 : Int) => 
      ck ((0 : Int) ≤ (M34 0 21) ∧ (M34 0 21) < 8) <|
      lt (upm M34 18 (M34 0 21).toNat v54) fun N8 =>
      ck (inR ((M34 0 21) + 1)) <|
      lt (upm N8 0 21 ((M34 0 21) + 1)) fun N11 =>
      some N11) fun k54 =>
    if x3 = 0 then
      k54 0
    else
      k54 (M34 0 22) : Option (Mem))) fun k34 =>
  if x3 = 0 then
    k34 N5
  else
    ck (inR ((M 0 22) + 1)) <|
    lt (upm N5 0 22 ((M 0 22) + 1)) fun N14 =>
    k34 N14
def f_X11_addsPiece_L114 (y2 : Int) : Nat → Int → Mem → Option (Mem)
  | 0, _, _ => none
  | n114 + 1, x4, M =>
    if (M 0 21) ≤ x4 then
      ck (inR ((M 0 17) + 1)) <|
      lt (upm M 0 17 ((M 0 17) + 1)) fun N1 =>
      some N1
    else
      ck ((0 : Int) ≤ x4 ∧ x4 < 8) <|
      if (M 18 x4.toNat) = 0 then
        ck (inR (x4 + 1)) <|
        (f_X11_addsPiece_L114 y2 n114) (x4 + 1) M
      else
        ck (inR (4 * y2)) <|
        ck ((0 : Int) ≤ y2 ∧ y2 < 64) <|
        ck (inR ((4 * y2) + (M 13 y2.toNat))) <|
        ck ((0 : Int) ≤ ((4 * y2) + (M 13 y2.toNat)) ∧ ((4 * y2) + (M 13 y2.toNat)) < 256) <|
        lt (upm M 14 ((4 * y2) + (M 13 y2.toNat)).toNat (M 18 x4.toNat)) fun N2 =>
        (f_X11_r (M 16 x4.toNat) 1 N2).bind fun r181 =>
        lt (upm N2 15 ((4 * y2) + (M 13 y2.toNat)).toNat r181) fun N3 =>
        ck (inR ((M 13 y2.toNat) + 1)) <|
        lt (upm N3 13 y2.toNat ((M 13 y2.toNat) + 1)) fun N4 =>
        ck (inR (x4 + 1)) <|
        (f_X11_addsPiece_L114 y2 n114) (x4 + 1) N4
def f_X11_addsPiece (x1 : Int) (M : Mem) : Option (Mem) :=
  (f_X11_r x1 0 M).bind fun r8 =>
  jn (fun (v19 : Int) => 
    jn (fun (v34 : Int) => 
      (f_X11_bit v34 M).bind fun r34 =>
      ck ((0 : Int) ≤ (M 0 17) ∧ (M 0 17) < 64) <|
      lt (upm M 7 (M 0 17).toNat r34) fun N5 =>
      (f_X11_r x1 1 N5).bind fun r46 =>
      lt (upm N5 8 (M 0 17).toNat r46) fun N8 =>
      jn (fun (v69 : Int) => 
        lt (upm N8 9 (M 0 17).toNat v69) fun N10 =>
        jn (fun (v103 : Int) => 
          lt (upm N10 10 (M 0 17).toNat v103) fun N12 =>
          lt (upm N12 13 (M 0 17).toNat 0) fun N14 =>
          f_X11_addsPiece_L114 (M 0 17) jFuel 0 N14) fun k103 =>
        if v19 = 0 then
          (f_X11_r x1 2 N10).bind fun r100 =>
          k103 r100
        else
          (f_X11_r x1 3 N10).bind fun r82 =>
          (f_X11_r x1 2 N10).bind fun r88 =>
          ck (inR (r82 - r88)) <|
          ck (inR ((r82 - r88) + 1)) <|
          k103 ((r82 - r88) + 1)) fun k69 =>
      if v19 = 0 then
        k69 0
      else
        (f_X11_r x1 2 N8).bind fun r62 =>
        k69 r62) fun k34 =>
    if v19 = 0 then
      k34 1
    else
      k34 0) fun k19 =>
  if r8 = 0 then
    k19 1
  else
    k19 0
def f_X11_commonOverlap_L4 (x1 : Int) (M : Mem) : Nat → Int → Int → Option (Int)
  | 0, _, _ => none
  | n4 + 1, x2, x3 =>
    ck ((0 : Int) ≤ x1 ∧ x1 < 64) <|
    if (M 13 x1.toNat) ≤ x3 then
      some x2
    else
      ck (inR (x1 - 1)) <|
      ck ((0 : Int) ≤ (x1 - 1) ∧ (x1 - 1) < 64) <|
      if (M 13 (x1 - 1).toNat) ≤ x3 then
        some x2
      else
        ck (inR (4 * x1)) <|
        ck (inR ((4 * x1) + x3)) <|
        ck ((0 : Int) ≤ ((4 * x1) + x3) ∧ ((4 * x1) + x3) < 256) <|
        ck (inR (4 * (x1 - 1))) <|
        ck (inR ((4 * (x1 - 1)) + x3)) <|
        ck ((0 : Int) ≤ ((4 * (x1 - 1)) + x3) ∧ ((4 * (x1 - 1)) + x3) < 256) <|
        if (M 14 ((4 * x1) + x3).toNat) = (M 14 ((4 * (x1 - 1)) + x3).toNat) then
          ck (inR (x3 + 1)) <|
          (f_X11_commonOverlap_L4 x1 M n4) (M 15 ((4 * x1) + x3).toNat) (x3 + 1)
        else
          some x2
def f_X11_commonOverlap (x1 : Int) (M : Mem) : Option (Int) :=
  f_X11_commonOverlap_L4 x1 M jFuel 0 0
def f_X11_closes (x1 : Int) (M : Mem) : Option (Int × Mem) :=
  ck (inR ((M 0 21) - 1)) <|
  ck ((0 : Int) ≤ ((M 0 21) - 1) ∧ ((M 0 21) - 1) < 8) <|
  ck (inR ((M 17 ((M 0 21) - 1).toNat) - 1)) <|
  lt (upm M 17 ((M 0 21) - 1).toNat ((M 17 ((M 0 21) - 1).toNat) - 1)) fun N5 =>
  if (N5 17 ((M 0 21) - 1).toNat) ≤ 0 then
    lt (upm N5 0 21 ((M 0 21) - 1)) fun N7 =>
    ck (inR (x1 + 1)) <|
    some ((x1 + 1), N7)
  else
    ck (inR ((M 16 ((M 0 21) - 1).toNat) + 1)) <|
    some (((M 16 ((M 0 21) - 1).toNat) + 1), N5)
def f_X11_goesThrough (x1 : Int) (M : Mem) : Option (Int × Mem) :=
  (f_X11_r x1 0 M).bind fun r3 =>
  if r3 = 2 then
    (f_X11_r x1 1 M).bind fun r37 =>
    (f_X11_opens x1 r37 0 M).bind fun M41 =>
    ck (inR (x1 + 1)) <|
    some ((x1 + 1), M41)
  else if r3 = 3 then
    (f_X11_opens x1 1 1 M).bind fun M52 =>
    ck (inR (x1 + 1)) <|
    some ((x1 + 1), M52)
  else if r3 = 4 then
    (f_X11_closes x1 M).bind fun (r61, M61) =>
    some (r61, M61)
  else (f_X11_addsPiece x1 M).bind fun M67 =>
  ck (inR (x1 + 1)) <|
  some ((x1 + 1), M67)
def f_X11_endOf (x1 : Int) (M : Mem) : Option (Int) :=
  ck ((0 : Int) ≤ x1 ∧ x1 < 64) <|
  ck (inR ((M 11 x1.toNat) + (M 10 x1.toNat))) <|
  some ((M 11 x1.toNat) + (M 10 x1.toNat))
def f_X11_laysPieces_L48  : Nat → Int → Mem → Option (Mem)
  | 0, _, _ => none
  | n48 + 1, x2, M =>
    if (M 0 17) ≤ x2 then
      some M
    else
      jn (fun (v96 : Int) => 
        ck ((0 : Int) ≤ x2 ∧ x2 < 64) <|
        lt (upm M 12 x2.toNat v96) fun N1 =>
        if x2 = 0 then
          lt (upm N1 11 x2.toNat 0) fun N2 =>
          ck (inR (x2 + 1)) <|
          (f_X11_laysPieces_L48 n48) (x2 + 1) N2
        else
          ck (inR (x2 - 1)) <|
          (f_X11_endOf (x2 - 1) N1).bind fun r114 =>
          ck (inR (r114 - (N1 12 x2.toNat))) <|
          lt (upm N1 11 x2.toNat (r114 - (N1 12 x2.toNat))) fun N3 =>
          ck (inR (x2 + 1)) <|
          (f_X11_laysPieces_L48 n48) (x2 + 1) N3) fun k96 =>
      if x2 = 0 then
        k96 0
      else
        (f_X11_commonOverlap x2 M).bind fun r71 =>
        ck ((0 : Int) ≤ x2 ∧ x2 < 64) <|
        ck (inR (x2 - 1)) <|
        ck ((0 : Int) ≤ (x2 - 1) ∧ (x2 - 1) < 64) <|
        k96 (min r71 (idiv (min (M 10 x2.toNat) (M 10 (x2 - 1).toNat)) 2))
def f_X11_laysPieces_L17  : Nat → Int → Mem → Option (Mem)
  | 0, _, _ => none
  | n17 + 1, x1, M =>
    if (M 1 (8 : Int).toNat) ≤ x1 then
      f_X11_laysPieces_L48 jFuel 0 M
    else
      if 60 < (M 0 17) then
        f_X11_laysPieces_L48 jFuel 0 M
      else
        (f_X11_goesThrough x1 M).bind fun (r39, M39) =>
        (f_X11_laysPieces_L17 n17) r39 M39
def f_X11_laysPieces  (M : Mem) : Option (Mem) :=
  lt (upm M 0 17 0) fun N2 =>
  lt (upm N2 0 21 0) fun N4 =>
  lt (upm N4 0 22 0) fun N6 =>
  f_X11_laysPieces_L17 jFuel 0 N6
def f_X11_theEnd_L4 (M : Mem) : Nat → Int → Int → Option (Int)
  | 0, _, _ => none
  | n4 + 1, x1, x2 =>
    if (M 0 17) ≤ x2 then
      some x1
    else
      (f_X11_endOf x2 M).bind fun r15 =>
      ck (inR (x2 + 1)) <|
      (f_X11_theEnd_L4 M n4) (max x1 r15) (x2 + 1)
def f_X11_theEnd  (M : Mem) : Option (Int) :=
  f_X11_theEnd_L4 M jFuel 0 0
def f_X11_screenIn_L7 (x1 : Int) (M : Mem) : Nat → Int → Option (Int)
  | 0, _ => none
  | n7 + 1, x2 =>
    if x2 < 0 then
      some (-1)
    else
      ck ((0 : Int) ≤ x2 ∧ x2 < 64) <|
      (f_X11_endOf x2 M).bind fun r20 =>
      ck (inR (r20 - 1)) <|
      (f_X11_isIn x1 (M 11 x2.toNat) (r20 - 1) M).bind fun r25 =>
      if r25 = 0 then
        ck (inR (x2 + (-1))) <|
        (f_X11_screenIn_L7 x1 M n7) (x2 + (-1))
      else
        some x2
def f_X11_screenIn (x1 : Int) (M : Mem) : Option (Int) :=
  ck (inR ((M 0 17) - 1)) <|
  f_X11_screenIn_L7 x1 M jFuel ((M 0 17) - 1)
def f_X11_w (x1 : Int) (x2 : Int) (M : Mem) : Option (Int) :=
  ck (inR (3 * x1)) <|
  ck (inR (382 + (3 * x1))) <|
  ck (inR ((382 + (3 * x1)) + x2)) <|
  ck ((0 : Int) ≤ ((382 + (3 * x1)) + x2) ∧ ((382 + (3 * x1)) + x2) < 1062) <|
  some (M 1 ((382 + (3 * x1)) + x2).toNat)
def f_X11_letter (x1 : Int) (x2 : Int) (M : Mem) : Option (Int) :=
  (f_X11_w x1 0 M).bind fun r10 =>
  ck (inR (562 + r10)) <|
  ck (inR ((562 + r10) + x2)) <|
  ck ((0 : Int) ≤ ((562 + r10) + x2) ∧ ((562 + r10) + x2) < 1062) <|
  some (M 1 ((562 + r10) + x2).toNat)
def f_X11_isVowel (x0 : Int) (M : Mem) : Option (Int) :=
  if x0 = 97 then
    some 1
  else
    if x0 = 101 then
      some 1
    else
      if x0 = 105 then
        some 1
      else
        if x0 = 111 then
          some 1
        else
          if x0 = 117 then
            some 1
          else
            if x0 = 121 then
              some 1
            else
              some 0
def f_X11_syllables_L4 (x1 : Int) (M : Mem) : Nat → Int → Int → Option (Int)
  | 0, _, _ => none
  | n4 + 1, x2, x3 =>
    (f_X11_w x1 1 M).bind fun r8 =>
    if r8 ≤ x3 then
      some (max 1 x2)
    else
      (f_X11_letter x1 x3 M).bind fun r18 =>
      (f_X11_isVowel r18 M).bind fun r21 =>
      jn (fun (v50 : Int) => 
        (f_X11_bit v50 M).bind fun r50 =>
        ck (inR (x2 + r50)) <|
        ck (inR (x3 + 1)) <|
        (f_X11_syllables_L4 x1 M n4) (x2 + r50) (x3 + 1)) fun k50 =>
      jn (fun (_ : Unit) => (
        k50 0 : Option (Int))) fun k49 =>
      if r21 = 0 then
        k49 ()
      else
        jn (fun (_ : Unit) => (
          k50 1 : Option (Int))) fun k45 =>
        if x3 = 0 then
          k45 ()
        else
          ck (inR (x3 - 1)) <|
          (f_X11_letter x1 (x3 - 1) M).bind fun r36 =>
          (f_X11_isVowel r36 M).bind fun r39 =>
          if r39 = 0 then
            k45 ()
          else
            k49 ()
def f_X11_syllables (x1 : Int) (M : Mem) : Option (Int) :=
  f_X11_syllables_L4 x1 M jFuel 0 0
def f_X11_allSyllables_L4 (M : Mem) : Nat → Int → Int → Option (Int)
  | 0, _, _ => none
  | n4 + 1, x1, x2 =>
    if (M 1 (9 : Int).toNat) ≤ x2 then
      some x1
    else
      (f_X11_syllables x2 M).bind fun r18 =>
      ck (inR (x1 + r18)) <|
      ck (inR (x2 + 1)) <|
      (f_X11_allSyllables_L4 M n4) (x1 + r18) (x2 + 1)
def f_X11_allSyllables  (M : Mem) : Option (Int) :=
  f_X11_allSyllables_L4 M jFuel 0 0
def f_X11_sentencesAhead_L4 (x1 : Int) (M : Mem) : Nat → Int → Int → Option (Int)
  | 0, _, _ => none
  | n4 + 1, x2, x3 =>
    if x1 ≤ x3 then
      some x2
    else
      (f_X11_w x3 2 M).bind fun r13 =>
      ck (inR (x2 + r13)) <|
      ck (inR (x3 + 1)) <|
      (f_X11_sentencesAhead_L4 x1 M n4) (x2 + r13) (x3 + 1)
def f_X11_sentencesAhead (x1 : Int) (M : Mem) : Option (Int) :=
  f_X11_sentencesAhead_L4 x1 M jFuel 0 0
def f_X11_laysWords_L4  : Nat → Int → Int → Mem → Option (Int × Mem)
  | 0, _, _, _ => none
  | n4 + 1, x1, x2, M =>
    if (M 1 (9 : Int).toNat) ≤ x2 then
      some (x1, M)
    else
      jn (fun (v42 : Int) => 
        ck (inR (x1 + v42)) <|
        ck ((0 : Int) ≤ x2 ∧ x2 < 64) <|
        lt (upm M 19 x2.toNat (x1 + v42)) fun N1 =>
        (f_X11_syllables x2 N1).bind fun r60 =>
        ck (inR ((M 1 (1 : Int).toNat) * r60)) <|
        ck (inR ((x1 + v42) + ((M 1 (1 : Int).toNat) * r60))) <|
        lt (upm N1 20 x2.toNat ((x1 + v42) + ((M 1 (1 : Int).toNat) * r60))) fun N2 =>
        ck (inR (x2 + 1)) <|
        (f_X11_laysWords_L4 n4) ((x1 + v42) + ((M 1 (1 : Int).toNat) * r60)) (x2 + 1) N2) fun k42 =>
      jn (fun (_ : Unit) => (
        k42 0 : Option (Int × Mem))) fun k41 =>
      if x2 ≤ 0 then
        k41 ()
      else
        ck (inR (x2 - 1)) <|
        (f_X11_w (x2 - 1) 2 M).bind fun r25 =>
        if r25 = 1 then
          k42 (M 1 (2 : Int).toNat)
        else
          k41 ()
def f_X11_laysWords  (M : Mem) : Option (Int × Mem) :=
  f_X11_laysWords_L4 jFuel 0 0 M
def f_X11_isNamed_L33 (x1 : Int) (y3 : Int) (M : Mem) : Nat → Int → Int → Option (Int)
  | 0, _, _ => none
  | n33 + 1, x4, x5 =>
    if x4 = 0 then
      ck (x4 = 0 ∨ x4 = 1) <|
      some x4
    else
      ck ((0 : Int) ≤ y3 ∧ y3 < 1062) <|
      if (M 1 y3.toNat) ≤ x5 then
        ck (x4 = 0 ∨ x4 = 1) <|
        some x4
      else
        ck (inR (y3 + 1)) <|
        ck (inR ((y3 + 1) + x5)) <|
        ck ((0 : Int) ≤ ((y3 + 1) + x5) ∧ ((y3 + 1) + x5) < 1062) <|
        (f_X11_letter x1 x5 M).bind fun r64 =>
        if (M 1 ((y3 + 1) + x5).toNat) = r64 then
          ck (inR (x5 + 1)) <|
          (f_X11_isNamed_L33 x1 y3 M n33) 1 (x5 + 1)
        else
          ck (inR (x5 + 1)) <|
          (f_X11_isNamed_L33 x1 y3 M n33) 0 (x5 + 1)
def f_X11_isNamed (x1 : Int) (x2 : Int) (M : Mem) : Option (Int) :=
  ck (inR (10 * x2)) <|
  ck (inR (36 + (10 * x2))) <|
  ck ((0 : Int) ≤ (36 + (10 * x2)) ∧ (36 + (10 * x2)) < 1062) <|
  (f_X11_w x1 1 M).bind fun r17 =>
  if (M 1 (36 + (10 * x2)).toNat) = r17 then
    f_X11_isNamed_L33 x1 (36 + (10 * x2)) M jFuel 1 0
  else
    f_X11_isNamed_L33 x1 (36 + (10 * x2)) M jFuel 0 0
def f_X11_mapOf_L2 (x1 : Int) (M : Mem) : Nat → Int → Option (Int)
  | 0, _ => none
  | n2 + 1, x2 =>
    if (M 1 (6 : Int).toNat) ≤ x2 then
      some (-1)
    else
      (f_X11_isNamed x1 x2 M).bind fun r16 =>
      if r16 = 0 then
        ck (inR (x2 + 1)) <|
        (f_X11_mapOf_L2 x1 M n2) (x2 + 1)
      else
        some x2
def f_X11_mapOf (x1 : Int) (M : Mem) : Option (Int) :=
  f_X11_mapOf_L2 x1 M jFuel 0
def f_X11_isShown (x1 : Int) (x2 : Int) (M : Mem) : Option (Int) :=
  ck ((0 : Int) ≤ x2 ∧ x2 < 64) <|
  (f_X11_screenIn (M 19 x2.toNat) M).bind fun r7 =>
  if r7 = (-1) then
    some 0
  else
    ck ((0 : Int) ≤ r7 ∧ r7 < 64) <|
    if (M 7 r7.toNat) = 1 then
      if (M 8 r7.toNat) = x1 then
        some 1
      else
        some 0
    else
      some 0
def f_X11_candidates (x1 : Int) (M : Mem) : Option (Int) :=
  if x1 = 5 then
    some 1
  else
    if x1 = 2 then
      some (M 1 (9 : Int).toNat)
    else
      some (M 0 17)
def f_X11_isShot (x1 : Int) (M : Mem) : Option (Int) :=
  ck ((0 : Int) ≤ x1 ∧ x1 < 64) <|
  if (M 7 x1.toNat) = 0 then
    some 1
  else
    some 0
def f_X11_isFault (x1 : Int) (x2 : Int) (x3 : Int) (M : Mem) : Option (Int) :=
  if x1 = 1 then
    (f_X11_isShot x2 M).bind fun r34 =>
    if r34 = 0 then
      some 0
    else
      ck ((0 : Int) ≤ x2 ∧ x2 < 64) <|
      (f_X11_isBanned (M 8 x2.toNat) M).bind fun r47 =>
      if r47 = 0 then
        some 0
      else
        some 1
  else if x1 = 2 then
    (f_X11_mapOf x2 M).bind fun r61 =>
    if r61 = (-1) then
      some 0
    else
      (f_X11_mapOf x2 M).bind fun r71 =>
      (f_X11_isShown r71 x2 M).bind fun r75 =>
      if r75 = 0 then
        some 1
      else
        some 0
  else if x1 = 3 then
    ck ((0 : Int) ≤ x2 ∧ x2 < 64) <|
    if (M 1 (3 : Int).toNat) ≤ (M 10 x2.toNat) then
      some 0
    else
      some 1
  else if x1 = 4 then
    if x2 ≤ 0 then
      some 0
    else
      (f_X11_isShot x2 M).bind fun r114 =>
      if r114 = 0 then
        some 0
      else
        ck (inR (x2 - 1)) <|
        (f_X11_isShot (x2 - 1) M).bind fun r124 =>
        if r124 = 0 then
          some 0
        else
          ck ((0 : Int) ≤ x2 ∧ x2 < 64) <|
          (f_X11_cameraOf (M 8 x2.toNat) M).bind fun r137 =>
          ck ((0 : Int) ≤ (x2 - 1) ∧ (x2 - 1) < 64) <|
          (f_X11_cameraOf (M 8 (x2 - 1).toNat) M).bind fun r149 =>
          if r137 = r149 then
            some 1
          else
            some 0
  else (f_X11_theEnd M).bind fun r162 =>
  ck (inR (r162 - x3)) <|
  ck (inR (-(r162 - x3))) <|
  if (max (r162 - x3) (-(r162 - x3))) ≤ (M 1 (4 : Int).toNat) then
    some 0
  else
    some 1
def f_X11_faultsOf_L5 (x1 : Int) (x2 : Int) (M : Mem) : Nat → Int → Int → Option (Int)
  | 0, _, _ => none
  | n5 + 1, x3, x4 =>
    (f_X11_candidates x1 M).bind fun r9 =>
    if r9 ≤ x4 then
      some x3
    else
      (f_X11_isFault x1 x4 x2 M).bind fun r21 =>
      (f_X11_bit r21 M).bind fun r24 =>
      ck (inR (x3 + r24)) <|
      ck (inR (x4 + 1)) <|
      (f_X11_faultsOf_L5 x1 x2 M n5) (x3 + r24) (x4 + 1)
def f_X11_faultsOf (x1 : Int) (x2 : Int) (M : Mem) : Option (Int) :=
  f_X11_faultsOf_L5 x1 x2 M jFuel 0 0
def f_X11_allFaults_L13 (y1 : Int) : Nat → Int → Int → Mem → Option (Int × Mem)
  | 0, _, _, _ => none
  | n13 + 1, x2, x3, M =>
    if 5 < x3 then
      some (x2, M)
    else
      (f_X11_faultsOf x3 y1 M).bind fun r22 =>
      ck (inR (x2 + r22)) <|
      ck (inR (x3 + 1)) <|
      (f_X11_allFaults_L13 y1 n13) (x2 + r22) (x3 + 1) M
def f_X11_allFaults  (M : Mem) : Option (Int × Mem) :=
  (f_X11_laysPieces M).bind fun M1 =>
  (f_X11_laysWords M1).bind fun (r5, M5) =>
  f_X11_allFaults_L13 r5 jFuel 0 1 M5
def f_X11_laysSums_L25 (SELF9 : Int → Mem → Option (Mem)) (x1 : Int) (y2 : Int) : Nat → Int → Mem → Option (Mem)
  | 0, _, _ => none
  | n25 + 1, x3, M =>
    if y2 ≤ x3 then
      ck (inR (x1 + 1)) <|
      SELF9 (x1 + 1) M
    else
      ck (inR (y2 + x3)) <|
      ck ((0 : Int) ≤ x3 ∧ x3 < 4096) <|
      (f_X11_lengthOf x1 M).bind fun r45 =>
      ck (inR ((M 21 x3.toNat) + r45)) <|
      ck ((0 : Int) ≤ (y2 + x3) ∧ (y2 + x3) < 4096) <|
      lt (upm M 21 (y2 + x3).toNat ((M 21 x3.toNat) + r45)) fun N1 =>
      ck (inR (x3 + 1)) <|
      (f_X11_laysSums_L25 SELF9 x1 y2 n25) (x3 + 1) N1
def f_X11_laysSums_L9  : Nat → Int → Mem → Option (Mem)
  | 0, _, _ => none
  | n9 + 1, x1, M =>
    if (M 1 (5 : Int).toNat) ≤ x1 then
      some M
    else
      f_X11_laysSums_L25 (f_X11_laysSums_L9 n9) x1 (ishl 1 x1) jFuel 0 M
def f_X11_laysSums  (M : Mem) : Option (Mem) :=
  lt (upm M 21 (0 : Int).toNat 0) fun N2 =>
  f_X11_laysSums_L9 jFuel 0 N2
def f_X11_bannedIn_L4 (x1 : Int) (M : Mem) : Nat → Int → Int → Option (Int)
  | 0, _, _ => none
  | n4 + 1, x2, x3 =>
    if (M 1 (5 : Int).toNat) ≤ x3 then
      some x2
    else
      (f_X11_isBannedIn x3 x1 M).bind fun r18 =>
      (f_X11_bit r18 M).bind fun r21 =>
      ck (inR (x3 + 1)) <|
      (f_X11_bannedIn_L4 x1 M n4) (ior x2 (ishl r21 x3)) (x3 + 1)
def f_X11_bannedIn (x1 : Int) (M : Mem) : Option (Int) :=
  f_X11_bannedIn_L4 x1 M jFuel 0 0
def f_X11_isBetter (x1 : Int) (x2 : Int) (M : Mem) : Option (Int) :=
  jn (fun (_ : Unit) => (
    if (M 0 26) = 0 then
      some 1
    else
      if (M 0 27) ≤ x2 then
        some 0
      else
        some 1 : Option (Int))) fun k15 =>
  if (M 0 26) = 0 then
    k15 ()
  else
    if x2 = (M 0 27) then
      (f_X11_bits x1 M).bind fun r37 =>
      (f_X11_bits (M 0 26) M).bind fun r44 =>
      if r44 ≤ r37 then
        some 0
      else
        some 1
    else
      k15 ()
def f_X11_chooses_L22 (x2 : Int) (y3 : Int) : Nat → Int → Int → Mem → Option (Int × Mem)
  | 0, _, _, _ => none
  | n22 + 1, x4, x5, M =>
    if (ishl 1 (M 1 (5 : Int).toNat)) ≤ x5 then
      if (M 0 26) = 0 then
        some (0, M)
      else
        some (1, M)
    else
      ck (inR (x4 + 1)) <|
      jn (fun (v52 : Int) => 
        (f_X11_bit v52 M).bind fun r52 =>
        ck (inR (x4 + r52)) <|
        ck ((0 : Int) ≤ x5 ∧ x5 < 4096) <|
        ck (inR ((M 21 x5.toNat) - x2)) <|
        jn (fun (v104 : Int) => 
          if v104 = 0 then
            ck (inR (x5 + 1)) <|
            (f_X11_chooses_L22 x2 y3 n22) (x4 + r52) (x5 + 1) M
          else
            (f_X11_isBetter x5 ((M 21 x5.toNat) - x2) M).bind fun r116 =>
            if r116 = 0 then
              ck (inR (x5 + 1)) <|
              (f_X11_chooses_L22 x2 y3 n22) (x4 + r52) (x5 + 1) M
            else
              lt (upm M 0 26 x5) fun N1 =>
              lt (upm N1 0 27 ((M 21 x5.toNat) - x2)) fun N2 =>
              ck (inR (x5 + 1)) <|
              (f_X11_chooses_L22 x2 y3 n22) (x4 + r52) (x5 + 1) N2) fun k104 =>
        jn (fun (_ : Unit) => (
          k104 0 : Option (Int × Mem))) fun k103 =>
        if (iand x5 y3) = 0 then
          if ((M 21 x5.toNat) - x2) < 0 then
            k103 ()
          else
            (f_X11_lengthOf (x4 + r52) M).bind fun r84 =>
            ck (inR (r84 - ((M 21 x5.toNat) - x2))) <|
            if (r84 - ((M 21 x5.toNat) - x2)) < (M 1 (3 : Int).toNat) then
              k103 ()
            else
              k104 1
        else
          k103 ()) fun k52 =>
      if (ishr x5 (x4 + 1)) ≤ 0 then
        k52 0
      else
        k52 1
def f_X11_chooses (x1 : Int) (x2 : Int) (M : Mem) : Option (Int × Mem) :=
  (f_X11_bannedIn x1 M).bind fun r2 =>
  lt (upm M 0 26 0) fun N3 =>
  lt (upm N3 0 27 0) fun N5 =>
  f_X11_chooses_L22 x2 r2 jFuel 0 1 N5
def f_X11_byteAt (x1 : Int) (M : Mem) : Option (Int) :=
  if (M 0 29) ≤ x1 then
    some (-1)
  else
    ck ((0 : Int) ≤ x1 ∧ x1 < 500) <|
    some (M 22 x1.toNat)
def f_X11_isLetter (x1 : Int) (M : Mem) : Option (Int) :=
  (f_X11_byteAt x1 M).bind fun r2 =>
  (f_X11_isIn r2 97 122 M).bind fun r9 =>
  ck (r9 = 0 ∨ r9 = 1) <|
  some r9
def f_X11_isDigit (x1 : Int) (M : Mem) : Option (Int) :=
  (f_X11_byteAt x1 M).bind fun r2 =>
  (f_X11_isIn r2 48 57 M).bind fun r9 =>
  ck (r9 = 0 ∨ r9 = 1) <|
  some r9
def f_X11_isSymbol (x0 : Int) (M : Mem) : Option (Int) :=
  if x0 = 59 then
    some 1
  else
    if x0 = 123 then
      some 1
    else
      if x0 = 125 then
        some 1
      else
        if x0 = 46 then
          some 1
        else
          some 0
def f_X11_scans_L126  : Nat → Mem → Option (Mem)
  | 0, _ => none
  | n126 + 1, M =>
    (f_X11_isDigit (M 0 30) M).bind fun r131 =>
    if r131 = 0 then
      lt (upm M 0 32 2) fun N1 =>
      some N1
    else
      ck (inR (10 * (M 0 33))) <|
      ck ((0 : Int) ≤ (M 0 30) ∧ (M 0 30) < 500) <|
      ck (inR ((10 * (M 0 33)) + (M 22 (M 0 30).toNat))) <|
      ck (inR (((10 * (M 0 33)) + (M 22 (M 0 30).toNat)) - 48)) <|
      lt (upm M 0 33 (min 100000 (((10 * (M 0 33)) + (M 22 (M 0 30).toNat)) - 48))) fun N2 =>
      ck (inR ((M 0 30) + 1)) <|
      lt (upm N2 0 30 ((M 0 30) + 1)) fun N3 =>
      (f_X11_scans_L126 n126) N3
def f_X11_scans_L78  : Nat → Mem → Option (Mem)
  | 0, _ => none
  | n78 + 1, M =>
    (f_X11_isLetter (M 0 30) M).bind fun r83 =>
    if r83 = 0 then
      lt (upm M 0 32 1) fun N1 =>
      some N1
    else
      ck (inR ((M 0 30) + 1)) <|
      lt (upm M 0 30 ((M 0 30) + 1)) fun N2 =>
      (f_X11_scans_L78 n78) N2
def f_X11_scans_L0  : Nat → Mem → Option (Mem)
  | 0, _ => none
  | n0 + 1, M =>
    (f_X11_byteAt (M 0 30) M).bind fun r5 =>
    if r5 = 32 then
      ck (inR ((M 0 30) + 1)) <|
      lt (upm M 0 30 ((M 0 30) + 1)) fun N1 =>
      (f_X11_scans_L0 n0) N1
    else
      (f_X11_byteAt (M 0 30) M).bind fun r18 =>
      if r18 = 10 then
        ck (inR ((M 0 30) + 1)) <|
        lt (upm M 0 30 ((M 0 30) + 1)) fun N2 =>
        (f_X11_scans_L0 n0) N2
      else
        lt (upm M 0 31 (M 0 30)) fun N3 =>
        (f_X11_byteAt (M 0 30) N3).bind fun r52 =>
        if r52 = (-1) then
          lt (upm N3 0 32 0) fun N4 =>
          some N4
        else
          (f_X11_isLetter (M 0 30) N3).bind fun r72 =>
          if r72 = 0 then
            (f_X11_isDigit (M 0 30) N3).bind fun r115 =>
            if r115 = 0 then
              ck ((0 : Int) ≤ (M 0 30) ∧ (M 0 30) < 500) <|
              (f_X11_isSymbol (M 22 (M 0 30).toNat) N3).bind fun r198 =>
              jn (fun (v209 : Int) => 
                lt (upm N3 0 32 v209) fun N5 =>
                ck (inR ((M 0 30) + 1)) <|
                lt (upm N5 0 30 ((M 0 30) + 1)) fun N6 =>
                some N6) fun k209 =>
              if r198 = 0 then
                k209 4
              else
                k209 3
            else
              lt (upm N3 0 33 0) fun N7 =>
              f_X11_scans_L126 jFuel N7
          else
            f_X11_scans_L78 jFuel N3
def f_X11_scans  (M : Mem) : Option (Mem) :=
  (f_X11_byteAt (M 0 30) M).bind fun r5 =>
  if r5 = 32 then
    ck (inR ((M 0 30) + 1)) <|
    lt (upm M 0 30 ((M 0 30) + 1)) fun N4 =>
    f_X11_scans_L0 jFuel N4
  else
    (f_X11_byteAt (M 0 30) M).bind fun r18 =>
    if r18 = 10 then
      ck (inR ((M 0 30) + 1)) <|
      lt (upm M 0 30 ((M 0 30) + 1)) fun N84 =>
      f_X11_scans_L0 jFuel N84
    else
      lt (upm M 0 31 (M 0 30)) fun N49 =>
      (f_X11_byteAt (M 0 30) N49).bind fun r52 =>
      if r52 = (-1) then
        lt (upm N49 0 32 0) fun N81 =>
        some N81
      else
        (f_X11_isLetter (M 0 30) N49).bind fun r72 =>
        if r72 = 0 then
          (f_X11_isDigit (M 0 30) N49).bind fun r115 =>
          if r115 = 0 then
            ck ((0 : Int) ≤ (M 0 30) ∧ (M 0 30) < 500) <|
            (f_X11_isSymbol (M 22 (M 0 30).toNat) N49).bind fun r198 =>
            jn (fun (v209 : Int) => 
              lt (upm N49 0 32 v209) fun N56 =>
              ck (inR ((M 0 30) + 1)) <|
              lt (upm N56 0 30 ((M 0 30) + 1)) fun N59 =>
              some N59) fun k209 =>
            if r198 = 0 then
              k209 4
            else
              k209 3
          else
            lt (upm N49 0 33 0) fun N61 =>
            f_X11_scans_L126 jFuel N61
        else
          f_X11_scans_L78 jFuel N49
def f_X11_fails (x1 : Int) (M : Mem) : Option (Mem) :=
  if (M 0 34) = 0 then
    lt (upm M 0 34 x1) fun N2 =>
    lt (upm N2 0 35 (M 0 31)) fun N4 =>
    some N4
  else
    some M
def f_X11_isGood  (M : Mem) : Option (Int) :=
  if (M 0 34) = 0 then
    some 1
  else
    some 0
def f_X11_goesOn  (M : Mem) : Option (Mem) :=
  (f_X11_isGood M).bind fun r1 =>
  if r1 = 0 then
    some M
  else
    (f_X11_scans M).bind fun M8 =>
    some M8
def f_X11_isWord_L39 (w1 : Nat) (M : Mem) : Nat → Int → Int → Option (Int)
  | 0, _, _ => none
  | n39 + 1, x2, x3 =>
    if x2 = 0 then
      ck (x2 = 0 ∨ x2 = 1) <|
      some x2
    else
      if (((lenST.getD w1 0 : Nat)) : Int) ≤ x3 then
        ck (x2 = 0 ∨ x2 = 1) <|
        some x2
      else
        ck (inR ((M 0 31) + x3)) <|
        ck ((0 : Int) ≤ ((M 0 31) + x3) ∧ ((M 0 31) + x3) < 500) <|
        ck ((0 : Int) ≤ x3 ∧ x3 < ((lenST.getD w1 0 : Nat) : Int)) <|
        if (M 22 ((M 0 31) + x3).toNat) = (chST w1 x3.toNat) then
          ck (inR (x3 + 1)) <|
          (f_X11_isWord_L39 w1 M n39) 1 (x3 + 1)
        else
          ck (inR (x3 + 1)) <|
          (f_X11_isWord_L39 w1 M n39) 0 (x3 + 1)
def f_X11_isWord (w1 : Nat) (M : Mem) : Option (Int) :=
  (f_X11_isGood M).bind fun r1 =>
  if r1 = 0 then
    f_X11_isWord_L39 w1 M jFuel 0 0
  else
    if (M 0 32) = 1 then
      ck (inR ((M 0 30) - (M 0 31))) <|
      if ((M 0 30) - (M 0 31)) = (((lenST.getD w1 0 : Nat)) : Int) then
        f_X11_isWord_L39 w1 M jFuel 1 0
      else
        f_X11_isWord_L39 w1 M jFuel 0 0
    else
      f_X11_isWord_L39 w1 M jFuel 0 0
def f_X11_isSign (x1 : Int) (M : Mem) : Option (Int) :=
  (f_X11_isGood M).bind fun r1 =>
  if r1 = 0 then
    some 0
  else
    if (M 0 32) = 3 then
      ck ((0 : Int) ≤ (M 0 31) ∧ (M 0 31) < 500) <|
      if (M 22 (M 0 31).toNat) = x1 then
        some 1
      else
        some 0
    else
      some 0
def f_X11_needsSign (x1 : Int) (M : Mem) : Option (Mem) :=
  (f_X11_isSign x1 M).bind fun r2 =>
  if r2 = 0 then
    (f_X11_fails 1 M).bind fun M10 =>
    (f_X11_goesOn M10).bind fun M14 =>
    some M14
  else
    (f_X11_goesOn M).bind fun M14 =>
    some M14
def f_X11_needs (w1 : Nat) (M : Mem) : Option (Mem) :=
  (f_X11_isWord w1 M).bind fun r2 =>
  if r2 = 0 then
    (f_X11_fails 1 M).bind fun M10 =>
    (f_X11_goesOn M10).bind fun M14 =>
    some M14
  else
    (f_X11_goesOn M).bind fun M14 =>
    some M14
def f_X11_reads (x1 : Int) (x2 : Int) (M : Mem) : Option (Int × Mem) :=
  jn (fun (M13 : Mem) => (
    (f_X11_isIn (M13 0 33) x1 x2 M13).bind fun r19 =>
    jn (fun (M30 : Mem) => (
      (f_X11_goesOn M30).bind fun M36 =>
      (f_X11_isGood M36).bind fun r40 =>
      if r40 = 0 then
        some (x1, M36)
      else
        some ((M30 0 33), M36) : Option (Int × Mem))) fun k30 =>
    if r19 = 0 then
      (f_X11_fails 2 M13).bind fun M27 =>
      k30 M27
    else
      k30 M13 : Option (Int × Mem))) fun k13 =>
  if (M 0 32) = 2 then
    k13 M
  else
    (f_X11_fails 1 M).bind fun M10 =>
    k13 M10
def f_X11_beginsText  (M : Mem) : Option (Mem) :=
  lt (upm M 0 30 0) fun N2 =>
  lt (upm N2 0 34 0) fun N4 =>
  lt (upm N4 0 35 (-1)) fun N6 =>
  (f_X11_scans N6).bind fun M16 =>
  some M16
def f_X11_endsText  (M : Mem) : Option (Mem) :=
  lt (upm M 0 29 0) fun N2 =>
  lt (upm N2 0 36 (M 0 34)) fun N4 =>
  lt (upm N4 0 37 (M 0 35)) fun N6 =>
  some N6
def f_X11_readsValue (x1 : Int) (x2 : Int) (x3 : Int) (M : Mem) : Option (Mem) :=
  jn (fun (M17 : Mem) => (
    lt (upm M17 0 38 (ior (M17 0 38) (ishl 1 x1))) fun N2 =>
    (f_X11_goesOn N2).bind fun M30 =>
    (f_X11_reads x2 x3 M30).bind fun (r41, M41) =>
    ck ((0 : Int) ≤ x1 ∧ x1 < 1062) <|
    lt (upm M41 1 x1.toNat r41) fun N7 =>
    some N7 : Option (Mem))) fun k17 =>
  if (iand (ishr (M 0 38) x1) 1) = 1 then
    (f_X11_fails 3 M).bind fun M14 =>
    k17 M14
  else
    k17 M
def f_X11_readsShot  (M : Mem) : Option (Mem) :=
  jn (fun (M16 : Mem) => (
    (f_X11_goesOn M16).bind fun M17 =>
    (f_X11_reads 0 5 M17).bind fun (r23, M23) =>
    (f_X11_reads 1 400 M23).bind fun (r32, M32) =>
    (f_X11_isGood M32).bind fun r37 =>
    if r37 = 0 then
      some M32
    else
      ck (inR (2 * (M32 1 (5 : Int).toNat))) <|
      ck (inR (12 + (2 * (M32 1 (5 : Int).toNat)))) <|
      ck ((0 : Int) ≤ (12 + (2 * (M32 1 (5 : Int).toNat))) ∧ (12 + (2 * (M32 1 (5 : Int).toNat))) < 1062) <|
      lt (upm M32 1 (12 + (2 * (M32 1 (5 : Int).toNat))).toNat r23) fun N9 =>
      ck (inR (2 * (N9 1 (5 : Int).toNat))) <|
      ck (inR (12 + (2 * (N9 1 (5 : Int).toNat)))) <|
      ck (inR ((12 + (2 * (N9 1 (5 : Int).toNat))) + 1)) <|
      ck ((0 : Int) ≤ ((12 + (2 * (N9 1 (5 : Int).toNat))) + 1) ∧ ((12 + (2 * (N9 1 (5 : Int).toNat))) + 1) < 1062) <|
      lt (upm N9 1 ((12 + (2 * (N9 1 (5 : Int).toNat))) + 1).toNat r32) fun N15 =>
      ck (inR ((N15 1 (5 : Int).toNat) + 1)) <|
      lt (upm N15 1 (5 : Int).toNat ((N15 1 (5 : Int).toNat) + 1)) fun N18 =>
      some N18 : Option (Mem))) fun k16 =>
  if (M 1 (5 : Int).toNat) = 12 then
    (f_X11_fails 4 M).bind fun M13 =>
    k16 M13
  else
    k16 M
def f_X11_isTold_L35 (y2 : Int) (M : Mem) : Nat → Int → Int → Option (Int)
  | 0, _, _ => none
  | n35 + 1, x3, x4 =>
    if x3 = 0 then
      ck (x3 = 0 ∨ x3 = 1) <|
      some x3
    else
      ck ((0 : Int) ≤ y2 ∧ y2 < 1062) <|
      if (M 1 y2.toNat) ≤ x4 then
        ck (x3 = 0 ∨ x3 = 1) <|
        some x3
      else
        ck (inR (y2 + 1)) <|
        ck (inR ((y2 + 1) + x4)) <|
        ck ((0 : Int) ≤ ((y2 + 1) + x4) ∧ ((y2 + 1) + x4) < 1062) <|
        ck (inR ((M 0 31) + x4)) <|
        ck ((0 : Int) ≤ ((M 0 31) + x4) ∧ ((M 0 31) + x4) < 500) <|
        if (M 1 ((y2 + 1) + x4).toNat) = (M 22 ((M 0 31) + x4).toNat) then
          ck (inR (x4 + 1)) <|
          (f_X11_isTold_L35 y2 M n35) 1 (x4 + 1)
        else
          ck (inR (x4 + 1)) <|
          (f_X11_isTold_L35 y2 M n35) 0 (x4 + 1)
def f_X11_isTold (x1 : Int) (M : Mem) : Option (Int) :=
  ck (inR (10 * x1)) <|
  ck (inR (36 + (10 * x1))) <|
  ck ((0 : Int) ≤ (36 + (10 * x1)) ∧ (36 + (10 * x1)) < 1062) <|
  ck (inR ((M 0 30) - (M 0 31))) <|
  if (M 1 (36 + (10 * x1)).toNat) = ((M 0 30) - (M 0 31)) then
    f_X11_isTold_L35 (36 + (10 * x1)) M jFuel 1 0
  else
    f_X11_isTold_L35 (36 + (10 * x1)) M jFuel 0 0
def f_X11_readsMap_L131 (y1 : Int) : Nat → Int → Mem → Option (Mem)
  | 0, _, _ => none
  | n131 + 1, x2, M =>
    ck ((0 : Int) ≤ y1 ∧ y1 < 1062) <|
    if (M 1 y1.toNat) ≤ x2 then
      ck (inR ((M 1 (6 : Int).toNat) + 1)) <|
      lt (upm M 1 (6 : Int).toNat ((M 1 (6 : Int).toNat) + 1)) fun N1 =>
      (f_X11_scans N1).bind fun M180 =>
      some M180
    else
      ck (inR (y1 + 1)) <|
      ck (inR ((y1 + 1) + x2)) <|
      ck (inR ((M 0 31) + x2)) <|
      ck ((0 : Int) ≤ ((M 0 31) + x2) ∧ ((M 0 31) + x2) < 500) <|
      ck ((0 : Int) ≤ ((y1 + 1) + x2) ∧ ((y1 + 1) + x2) < 1062) <|
      lt (upm M 1 ((y1 + 1) + x2).toNat (M 22 ((M 0 31) + x2).toNat)) fun N2 =>
      ck (inR (x2 + 1)) <|
      (f_X11_readsMap_L131 y1 n131) (x2 + 1) N2
def f_X11_readsMap_L55  : Nat → Int → Mem → Option (Mem)
  | 0, _, _ => none
  | n55 + 1, x1, M =>
    jn (fun (_ : Unit) => (
      (f_X11_isGood M).bind fun r93 =>
      if r93 = 0 then
        some M
      else
        ck (inR (10 * (M 1 (6 : Int).toNat))) <|
        ck (inR (36 + (10 * (M 1 (6 : Int).toNat)))) <|
        ck (inR ((M 0 30) - (M 0 31))) <|
        ck ((0 : Int) ≤ (36 + (10 * (M 1 (6 : Int).toNat))) ∧ (36 + (10 * (M 1 (6 : Int).toNat))) < 1062) <|
        lt (upm M 1 (36 + (10 * (M 1 (6 : Int).toNat))).toNat ((M 0 30) - (M 0 31))) fun N1 =>
        f_X11_readsMap_L131 (36 + (10 * (M 1 (6 : Int).toNat))) jFuel 0 N1 : Option (Mem))) fun k92 =>
    if (M 1 (6 : Int).toNat) ≤ x1 then
      k92 ()
    else
      (f_X11_isGood M).bind fun r67 =>
      if r67 = 0 then
        k92 ()
      else
        (f_X11_isTold x1 M).bind fun r75 =>
        if r75 = 0 then
          ck (inR (x1 + 1)) <|
          (f_X11_readsMap_L55 n55) (x1 + 1) M
        else
          (f_X11_fails 3 M).bind fun M83 =>
          ck (inR (x1 + 1)) <|
          (f_X11_readsMap_L55 n55) (x1 + 1) M83
def f_X11_readsMap  (M : Mem) : Option (Mem) :=
  jn (fun (M17 : Mem) => (
    (f_X11_goesOn M17).bind fun M18 =>
    jn (fun (M34 : Mem) => (
      ck (inR ((M34 0 30) - (M34 0 31))) <|
      if ((M34 0 30) - (M34 0 31)) ≤ 8 then
        f_X11_readsMap_L55 jFuel 0 M34
      else
        (f_X11_fails 2 M34).bind fun M50 =>
        f_X11_readsMap_L55 jFuel 0 M50 : Option (Mem))) fun k34 =>
    if (M18 0 32) = 1 then
      k34 M18
    else
      (f_X11_fails 1 M18).bind fun M31 =>
      k34 M31 : Option (Mem))) fun k17 =>
  if (M 1 (6 : Int).toNat) = 6 then
    (f_X11_fails 4 M).bind fun M14 =>
    k17 M14
  else
    k17 M
def f_X11_readsBan  (M : Mem) : Option (Mem) :=
  jn (fun (M17 : Mem) => (
    (f_X11_goesOn M17).bind fun M18 =>
    (f_X11_reads 0 5 M18).bind fun (r24, M24) =>
    (f_X11_reads 0 99 M24).bind fun (r32, M32) =>
    (f_X11_reads r32 99 M32).bind fun (r40, M40) =>
    (f_X11_isGood M40).bind fun r45 =>
    if r45 = 0 then
      some M40
    else
      ck (inR (3 * (M40 1 (7 : Int).toNat))) <|
      ck (inR (96 + (3 * (M40 1 (7 : Int).toNat)))) <|
      ck ((0 : Int) ≤ (96 + (3 * (M40 1 (7 : Int).toNat))) ∧ (96 + (3 * (M40 1 (7 : Int).toNat))) < 1062) <|
      lt (upm M40 1 (96 + (3 * (M40 1 (7 : Int).toNat))).toNat r24) fun N10 =>
      ck (inR ((96 + (3 * (M40 1 (7 : Int).toNat))) + 1)) <|
      ck ((0 : Int) ≤ ((96 + (3 * (M40 1 (7 : Int).toNat))) + 1) ∧ ((96 + (3 * (M40 1 (7 : Int).toNat))) + 1) < 1062) <|
      lt (upm N10 1 ((96 + (3 * (M40 1 (7 : Int).toNat))) + 1).toNat r32) fun N14 =>
      ck (inR ((96 + (3 * (M40 1 (7 : Int).toNat))) + 2)) <|
      ck ((0 : Int) ≤ ((96 + (3 * (M40 1 (7 : Int).toNat))) + 2) ∧ ((96 + (3 * (M40 1 (7 : Int).toNat))) + 2) < 1062) <|
      lt (upm N14 1 ((96 + (3 * (M40 1 (7 : Int).toNat))) + 2).toNat r40) fun N18 =>
      ck (inR ((N18 1 (7 : Int).toNat) + 1)) <|
      lt (upm N18 1 (7 : Int).toNat ((N18 1 (7 : Int).toNat) + 1)) fun N21 =>
      some N21 : Option (Mem))) fun k17 =>
  if (M 1 (7 : Int).toNat) = 10 then
    (f_X11_fails 4 M).bind fun M14 =>
    k17 M14
  else
    k17 M
def f_X11_readsStatement  (M : Mem) : Option (Mem) :=
  (f_X11_isWord 0 M).bind fun r4 =>
  if r4 = 0 then
    (f_X11_isWord 1 M).bind fun r21 =>
    if r21 = 0 then
      (f_X11_isWord 2 M).bind fun r38 =>
      if r38 = 0 then
        (f_X11_isWord 3 M).bind fun r55 =>
        if r55 = 0 then
          (f_X11_isWord 4 M).bind fun r76 =>
          if r76 = 0 then
            (f_X11_isWord 5 M).bind fun r97 =>
            if r97 = 0 then
              (f_X11_isWord 6 M).bind fun r118 =>
              if r118 = 0 then
                (f_X11_isWord 7 M).bind fun r139 =>
                if r139 = 0 then
                  (f_X11_fails 1 M).bind fun M158 =>
                  (f_X11_needsSign 59 M158).bind fun M164 =>
                  some M164
                else
                  (f_X11_readsValue 4 0 100 M).bind fun M150 =>
                  (f_X11_needsSign 59 M150).bind fun M164 =>
                  some M164
              else
                (f_X11_readsValue 3 1 50 M).bind fun M129 =>
                (f_X11_needsSign 59 M129).bind fun M164 =>
                some M164
            else
              (f_X11_readsValue 2 0 50 M).bind fun M108 =>
              (f_X11_needsSign 59 M108).bind fun M164 =>
              some M164
          else
            (f_X11_readsValue 1 1 20 M).bind fun M87 =>
            (f_X11_needsSign 59 M87).bind fun M164 =>
            some M164
        else
          (f_X11_readsValue 0 0 99 M).bind fun M66 =>
          (f_X11_needsSign 59 M66).bind fun M164 =>
          some M164
      else
        (f_X11_readsBan M).bind fun M45 =>
        (f_X11_needsSign 59 M45).bind fun M164 =>
        some M164
    else
      (f_X11_readsMap M).bind fun M28 =>
      (f_X11_needsSign 59 M28).bind fun M164 =>
      some M164
  else
    (f_X11_readsShot M).bind fun M11 =>
    (f_X11_needsSign 59 M11).bind fun M164 =>
    some M164
def f_X11_load_L31  : Nat → Mem → Option (Int × Mem)
  | 0, _ => none
  | n31 + 1, M =>
    (f_X11_isGood M).bind fun r32 =>
    jn (fun (_ : Unit) => (
      (f_X11_endsText M).bind fun M53 =>
      (f_X11_isGood M53).bind fun r57 =>
      if r57 = 0 then
        (f_X11_copies 2 1062 0 1 1062 0 M53).bind fun M73 =>
        some ((-1), M73)
      else
        lt (upm M53 0 6 0) fun N1 =>
        some ((M53 1 (5 : Int).toNat), N1) : Option (Int × Mem))) fun k52 =>
    if r32 = 0 then
      k52 ()
    else
      if (M 0 32) = 0 then
        k52 ()
      else
        (f_X11_readsStatement M).bind fun M46 =>
        (f_X11_load_L31 n31) M46
def f_X11_load  (M : Mem) : Option (Int × Mem) :=
  lt (upm M 0 7 0) fun N2 =>
  (f_X11_copies 1 1062 0 2 1062 0 N2).bind fun M15 =>
  (f_X11_clears M15).bind fun M19 =>
  lt (upm M19 0 38 0) fun N6 =>
  (f_X11_beginsText N6).bind fun M28 =>
  f_X11_load_L31 jFuel M28
def f_X11_makes (x1 : Int) (x2 : Int) (x3 : Int) (x4 : Int) (M : Mem) : Option (Mem) :=
  (f_X11_isGood M).bind fun r1 =>
  if r1 = 0 then
    some M
  else
    ck (inR (4 * (M 0 40))) <|
    ck ((0 : Int) ≤ (4 * (M 0 40)) ∧ (4 * (M 0 40)) < 256) <|
    lt (upm M 23 (4 * (M 0 40)).toNat x1) fun N5 =>
    ck (inR ((4 * (M 0 40)) + 1)) <|
    ck ((0 : Int) ≤ ((4 * (M 0 40)) + 1) ∧ ((4 * (M 0 40)) + 1) < 256) <|
    lt (upm N5 23 ((4 * (M 0 40)) + 1).toNat x2) fun N9 =>
    ck (inR ((4 * (M 0 40)) + 2)) <|
    ck ((0 : Int) ≤ ((4 * (M 0 40)) + 2) ∧ ((4 * (M 0 40)) + 2) < 256) <|
    lt (upm N9 23 ((4 * (M 0 40)) + 2).toNat x3) fun N13 =>
    ck (inR ((4 * (M 0 40)) + 3)) <|
    ck ((0 : Int) ≤ ((4 * (M 0 40)) + 3) ∧ ((4 * (M 0 40)) + 3) < 256) <|
    lt (upm N13 23 ((4 * (M 0 40)) + 3).toNat x4) fun N17 =>
    ck (inR ((M 0 40) + 1)) <|
    lt (upm N17 0 40 ((M 0 40) + 1)) fun N20 =>
    some N20
def f_X11_readsCut  (M : Mem) : Option (Mem) :=
  (f_X11_scans M).bind fun M1 =>
  ck (inR ((M1 1 (5 : Int).toNat) - 1)) <|
  (f_X11_reads 0 ((M1 1 (5 : Int).toNat) - 1) M1).bind fun (r14, M14) =>
  (f_X11_isGood M14).bind fun r21 =>
  jn (fun (v38 : Int) => 
    (f_X11_isWord 10 M14).bind fun r43 =>
    jn (fun (x2_74 : Int) (x3_74 : Int) (M74 : Mem) => 
      (f_X11_makes 0 r14 x2_74 x3_74 M74).bind fun M79 =>
      (f_X11_needsSign 59 M79).bind fun M85 =>
      some M85) fun k74 =>
    if r43 = 0 then
      k74 0 v38 M14
    else
      (f_X11_scans M14).bind fun M50 =>
      (f_X11_reads 0 v38 M50).bind fun (r56, M56) =>
      (f_X11_needs 11 M56).bind fun M64 =>
      (f_X11_reads r56 v38 M64).bind fun (r70, M70) =>
      k74 r56 r70 M70) fun k38 =>
  if r21 = 0 then
    k38 0
  else
    (f_X11_lengthOf r14 M14).bind fun r29 =>
    ck (inR (r29 - 1)) <|
    k38 (r29 - 1)
def f_X11_readsHeld  (M : Mem) : Option (Mem) :=
  (f_X11_scans M).bind fun M1 =>
  ck (inR ((M1 1 (6 : Int).toNat) - 1)) <|
  (f_X11_reads 0 ((M1 1 (6 : Int).toNat) - 1) M1).bind fun (r15, M15) =>
  (f_X11_reads 1 400 M15).bind fun (r24, M24) =>
  (f_X11_makes 1 r15 r24 0 M24).bind fun M33 =>
  (f_X11_needsSign 59 M33).bind fun M39 =>
  some M39
def f_X11_readsBlock (x1 : Int) (x2 : Int) (x3 : Int) (M : Mem) : Option (Mem) :=
  (f_X11_scans M).bind fun M1 =>
  (f_X11_reads x2 x3 M1).bind fun (r7, M7) =>
  (f_X11_makes x1 r7 0 0 M7).bind fun M18 =>
  (f_X11_isSign 123 M18).bind fun r24 =>
  jn (fun (M35 : Mem) => (
    jn (fun (M48 : Mem) => (
      ck (inR ((M48 0 42) + 1)) <|
      lt (upm M48 0 42 ((M48 0 42) + 1)) fun N7 =>
      (f_X11_goesOn N7).bind fun M59 =>
      some M59 : Option (Mem))) fun k48 =>
    if (M35 0 42) = 4 then
      (f_X11_fails 5 M35).bind fun M45 =>
      k48 M45
    else
      k48 M35 : Option (Mem))) fun k35 =>
  if r24 = 0 then
    (f_X11_fails 1 M18).bind fun M32 =>
    k35 M32
  else
    k35 M18
def f_X11_readsItem  (M : Mem) : Option (Mem) :=
  (f_X11_isWord 0 M).bind fun r4 =>
  jn (fun (v45 : Int) => 
    jn (fun (M55 : Mem) => (
      jn (fun (M69 : Mem) => (
        (f_X11_isGood M69).bind fun r70 =>
        if r70 = 0 then
          some M69
        else
          ck (inR ((M69 0 41) + 1)) <|
          lt (upm M69 0 41 ((M69 0 41) + 1)) fun N5 =>
          (f_X11_isWord 0 N5).bind fun r91 =>
          if r91 = 0 then
            (f_X11_isWord 1 N5).bind fun r108 =>
            if r108 = 0 then
              (f_X11_isWord 8 N5).bind fun r125 =>
              if r125 = 0 then
                (f_X11_readsBlock 3 0 40 N5).bind fun M147 =>
                some M147
              else
                (f_X11_readsBlock 2 1 9 N5).bind fun M136 =>
                some M136
            else
              (f_X11_readsHeld N5).bind fun M115 =>
              some M115
          else
            (f_X11_readsCut N5).bind fun M98 =>
            some M98 : Option (Mem))) fun k69 =>
      if (M55 0 41) = 30 then
        (f_X11_fails 4 M55).bind fun M66 =>
        k69 M66
      else
        k69 M55 : Option (Mem))) fun k55 =>
    if v45 = 0 then
      (f_X11_fails 1 M).bind fun M52 =>
      k55 M52
    else
      k55 M) fun k45 =>
  jn (fun (_ : Unit) => (
    k45 1 : Option (Mem))) fun k40 =>
  if r4 = 0 then
    (f_X11_isWord 1 M).bind fun r14 =>
    if r14 = 0 then
      (f_X11_isWord 8 M).bind fun r24 =>
      if r24 = 0 then
        (f_X11_isWord 9 M).bind fun r34 =>
        if r34 = 0 then
          k45 0
        else
          k40 ()
      else
        k40 ()
    else
      k40 ()
  else
    k40 ()
def f_X11_readsReel_L19  : Nat → Mem → Option (Mem)
  | 0, _ => none
  | n19 + 1, M =>
    (f_X11_isGood M).bind fun r20 =>
    if r20 = 0 then
      (f_X11_endsText M).bind fun M95 =>
      some M95
    else
      jn (fun (_ : Unit) => (
        if (M 0 42) ≤ 0 then
          (f_X11_readsItem M).bind fun M88 =>
          (f_X11_readsReel_L19 n19) M88
        else
          (f_X11_isSign 125 M).bind fun r50 =>
          if r50 = 0 then
            (f_X11_readsItem M).bind fun M88 =>
            (f_X11_readsReel_L19 n19) M88
          else
            (f_X11_makes 4 0 0 0 M).bind fun M61 =>
            ck (inR ((M61 0 42) - 1)) <|
            lt (upm M61 0 42 ((M61 0 42) - 1)) fun N1 =>
            (f_X11_scans N1).bind fun M75 =>
            (f_X11_needsSign 59 M75).bind fun M81 =>
            (f_X11_readsReel_L19 n19) M81 : Option (Mem))) fun k40 =>
      if (M 0 32) = 0 then
        if (M 0 42) ≤ 0 then
          (f_X11_endsText M).bind fun M95 =>
          some M95
        else
          k40 ()
      else
        k40 ()
def f_X11_readsReel  (M : Mem) : Option (Mem) :=
  lt (upm M 0 40 0) fun N2 =>
  lt (upm N2 0 41 0) fun N4 =>
  lt (upm N4 0 42 0) fun N6 =>
  (f_X11_beginsText N6).bind fun M16 =>
  f_X11_readsReel_L19 jFuel M16
def f_X11_takesReel_L13  : Nat → Int → Mem → Option (Mem)
  | 0, _, _ => none
  | n13 + 1, x1, M =>
    if 256 ≤ x1 then
      some M
    else
      ck (inR (126 + x1)) <|
      ck (inR (4 * (M 0 40))) <|
      if (4 * (M 0 40)) ≤ x1 then
        ck ((0 : Int) ≤ (126 + x1) ∧ (126 + x1) < 1062) <|
        lt (upm M 1 (126 + x1).toNat 0) fun N1 =>
        ck (inR (x1 + 1)) <|
        (f_X11_takesReel_L13 n13) (x1 + 1) N1
      else
        ck ((0 : Int) ≤ x1 ∧ x1 < 256) <|
        ck ((0 : Int) ≤ (126 + x1) ∧ (126 + x1) < 1062) <|
        lt (upm M 1 (126 + x1).toNat (M 23 x1.toNat)) fun N2 =>
        ck (inR (x1 + 1)) <|
        (f_X11_takesReel_L13 n13) (x1 + 1) N2
def f_X11_takesReel  (M : Mem) : Option (Mem) :=
  lt (upm M 1 (8 : Int).toNat (M 0 40)) fun N2 =>
  f_X11_takesReel_L13 jFuel 0 N2
def f_X11_readsWord_L87  : Nat → Int → Mem → Option (Mem)
  | 0, _, _ => none
  | n87 + 1, x1, M =>
    if (M 0 30) ≤ x1 then
      ck (inR ((M 0 48) + 1)) <|
      lt (upm M 0 48 ((M 0 48) + 1)) fun N1 =>
      (f_X11_scans N1).bind fun M137 =>
      some M137
    else
      ck ((0 : Int) ≤ x1 ∧ x1 < 500) <|
      ck ((0 : Int) ≤ (M 0 47) ∧ (M 0 47) < 500) <|
      lt (upm M 24 (M 0 47).toNat (M 22 x1.toNat)) fun N2 =>
      ck (inR ((M 0 47) + 1)) <|
      lt (upm N2 0 47 ((M 0 47) + 1)) fun N3 =>
      ck (inR (x1 + 1)) <|
      (f_X11_readsWord_L87 n87) (x1 + 1) N3
def f_X11_readsWord  (M : Mem) : Option (Mem) :=
  ck (inR ((M 0 30) - (M 0 31))) <|
  jn (fun (M19 : Mem) => (
    jn (fun (M33 : Mem) => (
      (f_X11_isGood M33).bind fun r34 =>
      if r34 = 0 then
        some M33
      else
        ck ((0 : Int) ≤ (M33 0 48) ∧ (M33 0 48) < 64) <|
        lt (upm M33 25 (M33 0 48).toNat (M33 0 47)) fun N5 =>
        ck (inR ((M33 0 30) - (M33 0 31))) <|
        lt (upm N5 26 (M33 0 48).toNat ((M33 0 30) - (M33 0 31))) fun N8 =>
        lt (upm N8 27 (M33 0 48).toNat 0) fun N10 =>
        f_X11_readsWord_L87 jFuel (M33 0 31) N10 : Option (Mem))) fun k33 =>
    if (M19 0 48) = 60 then
      (f_X11_fails 4 M19).bind fun M30 =>
      k33 M30
    else
      k33 M19 : Option (Mem))) fun k19 =>
  if ((M 0 30) - (M 0 31)) ≤ 20 then
    k19 M
  else
    (f_X11_fails 2 M).bind fun M16 =>
    k19 M16
def f_X11_readsSentence_L13  : Nat → Mem → Option (Mem)
  | 0, _ => none
  | n13 + 1, M =>
    (f_X11_isGood M).bind fun r14 =>
    jn (fun (_ : Unit) => (
      (f_X11_isSign 46 M).bind fun r38 =>
      if r38 = 0 then
        (f_X11_needsSign 46 M).bind fun M59 =>
        some M59
      else
        ck (inR ((M 0 48) - 1)) <|
        ck ((0 : Int) ≤ ((M 0 48) - 1) ∧ ((M 0 48) - 1) < 64) <|
        lt (upm M 27 ((M 0 48) - 1).toNat 1) fun N1 =>
        (f_X11_needsSign 46 N1).bind fun M59 =>
        some M59 : Option (Mem))) fun k35 =>
    if r14 = 0 then
      k35 ()
    else
      if (M 0 32) = 1 then
        (f_X11_readsWord M).bind fun M29 =>
        (f_X11_readsSentence_L13 n13) M29
      else
        k35 ()
def f_X11_readsSentence  (M : Mem) : Option (Mem) :=
  if (M 0 32) = 1 then
    f_X11_readsSentence_L13 jFuel M
  else
    (f_X11_fails 1 M).bind fun M10 =>
    f_X11_readsSentence_L13 jFuel M10
def f_X11_readsVoice_L14  : Nat → Mem → Option (Mem)
  | 0, _ => none
  | n14 + 1, M =>
    (f_X11_isGood M).bind fun r15 =>
    if r15 = 0 then
      (f_X11_endsText M).bind fun M36 =>
      some M36
    else
      if (M 0 32) = 0 then
        (f_X11_endsText M).bind fun M36 =>
        some M36
      else
        (f_X11_readsSentence M).bind fun M29 =>
        (f_X11_readsVoice_L14 n14) M29
def f_X11_readsVoice  (M : Mem) : Option (Mem) :=
  lt (upm M 0 47 0) fun N2 =>
  lt (upm N2 0 48 0) fun N4 =>
  (f_X11_beginsText N4).bind fun M11 =>
  f_X11_readsVoice_L14 jFuel M11
def f_X11_takesVoice_L134  : Nat → Int → Mem → Option (Mem)
  | 0, _, _ => none
  | n134 + 1, x1, M =>
    if 500 ≤ x1 then
      some M
    else
      ck (inR (562 + x1)) <|
      if (M 0 47) ≤ x1 then
        ck ((0 : Int) ≤ (562 + x1) ∧ (562 + x1) < 1062) <|
        lt (upm M 1 (562 + x1).toNat 0) fun N1 =>
        ck (inR (x1 + 1)) <|
        (f_X11_takesVoice_L134 n134) (x1 + 1) N1
      else
        ck ((0 : Int) ≤ x1 ∧ x1 < 500) <|
        ck ((0 : Int) ≤ (562 + x1) ∧ (562 + x1) < 1062) <|
        lt (upm M 1 (562 + x1).toNat (M 24 x1.toNat)) fun N2 =>
        ck (inR (x1 + 1)) <|
        (f_X11_takesVoice_L134 n134) (x1 + 1) N2
def f_X11_takesVoice_L24  : Nat → Int → Mem → Option (Mem)
  | 0, _, _ => none
  | n24 + 1, x1, M =>
    if 60 ≤ x1 then
      f_X11_takesVoice_L134 jFuel 0 M
    else
      jn (fun (v43 : Int) => 
        ck (inR (3 * x1)) <|
        ck (inR (382 + (3 * x1))) <|
        jn (fun (v69 : Int) => 
          ck ((0 : Int) ≤ (382 + (3 * x1)) ∧ (382 + (3 * x1)) < 1062) <|
          lt (upm M 1 (382 + (3 * x1)).toNat v69) fun N1 =>
          ck (inR ((382 + (3 * x1)) + 1)) <|
          jn (fun (v97 : Int) => 
            ck ((0 : Int) ≤ ((382 + (3 * x1)) + 1) ∧ ((382 + (3 * x1)) + 1) < 1062) <|
            lt (upm N1 1 ((382 + (3 * x1)) + 1).toNat v97) fun N2 =>
            ck (inR ((382 + (3 * x1)) + 2)) <|
            if v43 = 0 then
              ck ((0 : Int) ≤ ((382 + (3 * x1)) + 2) ∧ ((382 + (3 * x1)) + 2) < 1062) <|
              lt (upm N2 1 ((382 + (3 * x1)) + 2).toNat 0) fun N3 =>
              ck (inR (x1 + 1)) <|
              (f_X11_takesVoice_L24 n24) (x1 + 1) N3
            else
              ck ((0 : Int) ≤ x1 ∧ x1 < 64) <|
              ck ((0 : Int) ≤ ((382 + (3 * x1)) + 2) ∧ ((382 + (3 * x1)) + 2) < 1062) <|
              lt (upm N2 1 ((382 + (3 * x1)) + 2).toNat (M 27 x1.toNat)) fun N4 =>
              ck (inR (x1 + 1)) <|
              (f_X11_takesVoice_L24 n24) (x1 + 1) N4) fun k97 =>
          if v43 = 0 then
            k97 0
          else
            ck ((0 : Int) ≤ x1 ∧ x1 < 64) <|
            k97 (M 26 x1.toNat)) fun k69 =>
        if v43 = 0 then
          k69 0
        else
          ck ((0 : Int) ≤ x1 ∧ x1 < 64) <|
          k69 (M 25 x1.toNat)) fun k43 =>
      if (M 0 48) ≤ x1 then
        k43 0
      else
        k43 1
def f_X11_takesVoice  (M : Mem) : Option (Mem) :=
  lt (upm M 1 (9 : Int).toNat (M 0 48)) fun N2 =>
  lt (upm N2 1 (10 : Int).toNat (M 0 47)) fun N4 =>
  f_X11_takesVoice_L24 jFuel 0 N4
def f_X11_behind_L4 (M : Mem) : Nat → Int → Int → Option (Int)
  | 0, _, _ => none
  | n4 + 1, x2, x3 =>
    (f_X11_r x3 0 M).bind fun r7 =>
    jn (fun (v30 : Int) => 
      (f_X11_bit v30 M).bind fun r30 =>
      jn (fun (v44 : Int) => 
        (f_X11_bit v44 M).bind fun r44 =>
        ck (inR (r30 - r44)) <|
        ck (inR (x2 + (r30 - r44))) <|
        ck (inR (x3 + 1)) <|
        if 0 < (x2 + (r30 - r44)) then
          (f_X11_behind_L4 M n4) (x2 + (r30 - r44)) (x3 + 1)
        else
          some (x3 + 1)) fun k44 =>
      if r7 = 4 then
        k44 1
      else
        k44 0) fun k30 =>
    jn (fun (_ : Unit) => (
      k30 1 : Option (Int))) fun k25 =>
    if r7 = 2 then
      k25 ()
    else
      if r7 = 3 then
        k25 ()
      else
        k30 0
def f_X11_behind (x1 : Int) (M : Mem) : Option (Int) :=
  f_X11_behind_L4 M jFuel 0 x1
def f_X11_itemMany_L4 (M : Mem) : Nat → Int → Int → Option (Int)
  | 0, _, _ => none
  | n4 + 1, x1, x2 =>
    if (M 1 (8 : Int).toNat) ≤ x2 then
      some x1
    else
      ck (inR (x1 + 1)) <|
      (f_X11_behind x2 M).bind fun r20 =>
      (f_X11_itemMany_L4 M n4) (x1 + 1) r20
def f_X11_itemMany  (M : Mem) : Option (Int) :=
  f_X11_itemMany_L4 M jFuel 0 0
def f_X11_allItems_L4 (M : Mem) : Nat → Int → Int → Option (Int)
  | 0, _, _ => none
  | n4 + 1, x1, x2 =>
    if (M 1 (8 : Int).toNat) ≤ x2 then
      some x1
    else
      (f_X11_r x2 0 M).bind fun r19 =>
      jn (fun (v31 : Int) => 
        (f_X11_bit v31 M).bind fun r31 =>
        ck (inR (x1 + r31)) <|
        ck (inR (x2 + 1)) <|
        (f_X11_allItems_L4 M n4) (x1 + r31) (x2 + 1)) fun k31 =>
      if r19 = 4 then
        k31 0
      else
        k31 1
def f_X11_allItems  (M : Mem) : Option (Int) :=
  f_X11_allItems_L4 M jFuel 0 0
def f_X11_rowOf_L4 (x1 : Int) (M : Mem) : Nat → Int → Int → Option (Int)
  | 0, _, _ => none
  | n4 + 1, x2, x3 =>
    if x1 ≤ x3 then
      some x2
    else
      (f_X11_behind x2 M).bind fun r11 =>
      ck (inR (x3 + 1)) <|
      (f_X11_rowOf_L4 x1 M n4) r11 (x3 + 1)
def f_X11_rowOf (x1 : Int) (M : Mem) : Option (Int) :=
  f_X11_rowOf_L4 x1 M jFuel 0 0
def f_X11_deepest_L6 (M : Mem) : Nat → Int → Int → Int → Option (Int)
  | 0, _, _, _ => none
  | n6 + 1, x1, x2, x3 =>
    if (M 1 (8 : Int).toNat) ≤ x3 then
      some x1
    else
      (f_X11_r x3 0 M).bind fun r20 =>
      jn (fun (v43 : Int) => 
        (f_X11_bit v43 M).bind fun r43 =>
        jn (fun (v57 : Int) => 
          (f_X11_bit v57 M).bind fun r57 =>
          ck (inR (r43 - r57)) <|
          ck (inR (x2 + (r43 - r57))) <|
          ck (inR (x3 + 1)) <|
          (f_X11_deepest_L6 M n6) (max x1 (x2 + (r43 - r57))) (x2 + (r43 - r57)) (x3 + 1)) fun k57 =>
        if r20 = 4 then
          k57 1
        else
          k57 0) fun k43 =>
      jn (fun (_ : Unit) => (
        k43 1 : Option (Int))) fun k38 =>
      if r20 = 2 then
        k38 ()
      else
        if r20 = 3 then
          k38 ()
        else
          k43 0
def f_X11_deepest  (M : Mem) : Option (Int) :=
  f_X11_deepest_L6 M jFuel 0 0 0
def f_X11_shiftsBack_L15 (x1 : Int) (x2 : Int) : Nat → Int → Mem → Option (Mem)
  | 0, _, _ => none
  | n15 + 1, x3, M =>
    ck (inR (4 * x1)) <|
    ck (inR (126 + (4 * x1))) <|
    if x3 < (126 + (4 * x1)) then
      ck (inR ((M 1 (8 : Int).toNat) + x2)) <|
      lt (upm M 1 (8 : Int).toNat ((M 1 (8 : Int).toNat) + x2)) fun N1 =>
      some N1
    else
      ck (inR (4 * x2)) <|
      ck (inR (x3 + (4 * x2))) <|
      ck ((0 : Int) ≤ x3 ∧ x3 < 1062) <|
      ck ((0 : Int) ≤ (x3 + (4 * x2)) ∧ (x3 + (4 * x2)) < 1062) <|
      lt (upm M 1 (x3 + (4 * x2)).toNat (M 1 x3.toNat)) fun N2 =>
      ck (inR (x3 + (-1))) <|
      (f_X11_shiftsBack_L15 x1 x2 n15) (x3 + (-1)) N2
def f_X11_shiftsBack (x1 : Int) (x2 : Int) (M : Mem) : Option (Mem) :=
  ck (inR (4 * (M 1 (8 : Int).toNat))) <|
  ck (inR (126 + (4 * (M 1 (8 : Int).toNat)))) <|
  ck (inR ((126 + (4 * (M 1 (8 : Int).toNat))) - 1)) <|
  f_X11_shiftsBack_L15 x1 x2 jFuel ((126 + (4 * (M 1 (8 : Int).toNat))) - 1) M
def f_X11_shiftsFront_L9 (x2 : Int) : Nat → Int → Mem → Option (Mem)
  | 0, _, _ => none
  | n9 + 1, x3, M =>
    ck (inR (4 * (M 1 (8 : Int).toNat))) <|
    ck (inR (126 + (4 * (M 1 (8 : Int).toNat)))) <|
    if (126 + (4 * (M 1 (8 : Int).toNat))) ≤ x3 then
      ck (inR ((M 1 (8 : Int).toNat) - x2)) <|
      lt (upm M 1 (8 : Int).toNat ((M 1 (8 : Int).toNat) - x2)) fun N1 =>
      some N1
    else
      ck (inR (4 * x2)) <|
      ck (inR (x3 - (4 * x2))) <|
      ck ((0 : Int) ≤ x3 ∧ x3 < 1062) <|
      ck ((0 : Int) ≤ (x3 - (4 * x2)) ∧ (x3 - (4 * x2)) < 1062) <|
      lt (upm M 1 (x3 - (4 * x2)).toNat (M 1 x3.toNat)) fun N2 =>
      ck (inR (x3 + 1)) <|
      (f_X11_shiftsFront_L9 x2 n9) (x3 + 1) N2
def f_X11_shiftsFront (x1 : Int) (x2 : Int) (M : Mem) : Option (Mem) :=
  ck (inR (x1 + x2)) <|
  ck (inR (4 * (x1 + x2))) <|
  ck (inR (126 + (4 * (x1 + x2)))) <|
  f_X11_shiftsFront_L9 x2 jFuel (126 + (4 * (x1 + x2))) M
def f_X11_appendText_L29 (x1 : Int) : Nat → Int → Mem → Option (Int × Mem)
  | 0, _, _ => none
  | n29 + 1, x2, M =>
    if x2 < 0 then
      some ((M 0 29), M)
    else
      ck ((0 : Int) ≤ (M 0 29) ∧ (M 0 29) < 500) <|
      lt (upm M 22 (M 0 29).toNat (iand (ishr x1 x2) 255)) fun N1 =>
      ck (inR ((M 0 29) + 1)) <|
      lt (upm N1 0 29 ((M 0 29) + 1)) fun N2 =>
      ck (inR (x2 + (-8))) <|
      (f_X11_appendText_L29 x1 n29) (x2 + (-8)) N2
def f_X11_appendText (x1 : Int) (M : Mem) : Option (Int × Mem) :=
  ck (inR ((M 0 29) + 4)) <|
  jn (fun (v18 : Int) => 
    (f_X11_goes v18 M).bind fun (r18, M18) =>
    if r18 = 0 then
      some (0, M18)
    else
      f_X11_appendText_L29 x1 jFuel 24 M18) fun k18 =>
  if 500 < ((M 0 29) + 4) then
    k18 0
  else
    k18 1
def f_X11_truncateText (x1 : Int) (M : Mem) : Option (Int × Mem) :=
  (f_X11_isIn x1 0 (M 0 29) M).bind fun r7 =>
  (f_X11_goes r7 M).bind fun (r10, M10) =>
  if r10 = 0 then
    some (0, M10)
  else
    lt (upm M10 0 29 x1) fun N4 =>
    some (x1, N4)
def f_X11_errorCode  (M : Mem) : Option (Int × Mem) :=
  lt (upm M 0 7 0) fun N2 =>
  some ((M 0 36), N2)
def f_X11_errorPosition  (M : Mem) : Option (Int × Mem) :=
  lt (upm M 0 7 0) fun N2 =>
  some ((M 0 37), N2)
def f_X11_count (x1 : Int) (M : Mem) : Option (Int × Mem) :=
  (f_X11_isIn x1 0 13 M).bind fun r5 =>
  (f_X11_goes r5 M).bind fun (r8, M8) =>
  if r8 = 0 then
    some (0, M8)
  else
    if x1 = 0 then
      ck (inR (5 + x1)) <|
      ck ((0 : Int) ≤ (5 + x1) ∧ (5 + x1) < 1062) <|
      some ((M8 1 (5 + x1).toNat), M8)
    else if x1 = 1 then
      ck (inR (5 + x1)) <|
      ck ((0 : Int) ≤ (5 + x1) ∧ (5 + x1) < 1062) <|
      some ((M8 1 (5 + x1).toNat), M8)
    else if x1 = 2 then
      ck (inR (5 + x1)) <|
      ck ((0 : Int) ≤ (5 + x1) ∧ (5 + x1) < 1062) <|
      some ((M8 1 (5 + x1).toNat), M8)
    else if x1 = 8 then
      (f_X11_itemMany M8).bind fun r98 =>
      some (r98, M8)
    else if x1 = 9 then
      (f_X11_allItems M8).bind fun r103 =>
      some (r103, M8)
    else if x1 = 10 then
      some ((M8 1 (9 : Int).toNat), M8)
    else if x1 = 11 then
      (f_X11_allSyllables M8).bind fun r116 =>
      some (r116, M8)
    else if x1 = 12 then
      (f_X11_sentencesAhead (M8 1 (9 : Int).toNat) M8).bind fun r128 =>
      some (r128, M8)
    else if x1 = 13 then
      some ((M8 0 6), M8)
    else ck (inR (x1 - 3)) <|
    ck ((0 : Int) ≤ (x1 - 3) ∧ (x1 - 3) < 1062) <|
    some ((M8 1 (x1 - 3).toNat), M8)
def f_X11_isShotThere (x1 : Int) (M : Mem) : Option (Int) :=
  ck (inR ((M 1 (5 : Int).toNat) - 1)) <|
  (f_X11_isIn x1 0 ((M 1 (5 : Int).toNat) - 1) M).bind fun r10 =>
  ck (r10 = 0 ∨ r10 = 1) <|
  some r10
def f_X11_piecesOf_L10 (x1 : Int) (x2 : Int) (x3 : Int) : Nat → Int → Int → Mem → Option (Int × Mem)
  | 0, _, _, _ => none
  | n10 + 1, x4, x5, M =>
    if (M 0 17) ≤ x5 then
      some (x4, M)
    else
      ck ((0 : Int) ≤ x5 ∧ x5 < 64) <|
      if (M 7 x5.toNat) = x1 then
        if (M 8 x5.toNat) = x2 then
          if x3 = 0 then
            ck (inR (x4 + 1)) <|
            ck (inR (x5 + 1)) <|
            (f_X11_piecesOf_L10 x1 x2 x3 n10) (x4 + 1) (x5 + 1) M
          else
            ck (inR (x4 + (M 10 x5.toNat))) <|
            ck (inR (x5 + 1)) <|
            (f_X11_piecesOf_L10 x1 x2 x3 n10) (x4 + (M 10 x5.toNat)) (x5 + 1) M
        else
          ck (inR (x5 + 1)) <|
          (f_X11_piecesOf_L10 x1 x2 x3 n10) x4 (x5 + 1) M
      else
        ck (inR (x5 + 1)) <|
        (f_X11_piecesOf_L10 x1 x2 x3 n10) x4 (x5 + 1) M
def f_X11_piecesOf (x1 : Int) (x2 : Int) (x3 : Int) (M : Mem) : Option (Int × Mem) :=
  (f_X11_laysPieces M).bind fun M1 =>
  f_X11_piecesOf_L10 x1 x2 x3 jFuel 0 0 M1
def f_X11_shot (x1 : Int) (x2 : Int) (M : Mem) : Option (Int × Mem) :=
  (f_X11_isShotThere x1 M).bind fun r3 =>
  (f_X11_isIn x2 0 4 M).bind fun r9 =>
  (f_X11_goesBoth r3 r9 M).bind fun (r12, M12) =>
  if r12 = 0 then
    some (0, M12)
  else
    if x2 = 0 then
      (f_X11_cameraOf x1 M12).bind fun r50 =>
      some (r50, M12)
    else if x2 = 1 then
      (f_X11_lengthOf x1 M12).bind fun r56 =>
      some (r56, M12)
    else if x2 = 2 then
      (f_X11_isBanned x1 M12).bind fun r62 =>
      (f_X11_bit r62 M12).bind fun r65 =>
      some (r65, M12)
    else if x2 = 4 then
      (f_X11_piecesOf 0 x1 1 M12).bind fun (r82, M82) =>
      some (r82, M82)
    else
      (f_X11_piecesOf 0 x1 0 M12).bind fun (r82, M82) =>
      some (r82, M82)
def f_X11_isMap (x1 : Int) (M : Mem) : Option (Int) :=
  ck (inR ((M 1 (6 : Int).toNat) - 1)) <|
  (f_X11_isIn x1 0 ((M 1 (6 : Int).toNat) - 1) M).bind fun r11 =>
  ck (r11 = 0 ∨ r11 = 1) <|
  some r11
def f_X11_namedBy_L15 (x1 : Int) (x2 : Int) (y3 : Int) : Nat → Int → Int → Mem → Option (Int × Mem)
  | 0, _, _, _ => none
  | n15 + 1, x4, x5, M =>
    if (M 1 (9 : Int).toNat) ≤ x5 then
      some (x4, M)
    else
      if y3 < 0 then
        some (x4, M)
      else
        (f_X11_isNamed x5 x1 M).bind fun r37 =>
        jn (fun (v62 : Int) => 
          (f_X11_bit v62 M).bind fun r62 =>
          ck (inR (x4 + r62)) <|
          ck (inR (x5 + 1)) <|
          (f_X11_namedBy_L15 x1 x2 y3 n15) (x4 + r62) (x5 + 1) M) fun k62 =>
        jn (fun (_ : Unit) => (
          k62 0 : Option (Int × Mem))) fun k61 =>
        if r37 = 0 then
          k61 ()
        else
          jn (fun (_ : Unit) => (
            k62 1 : Option (Int × Mem))) fun k57 =>
          if x2 = 0 then
            k57 ()
          else
            (f_X11_isShown x1 x5 M).bind fun r51 =>
            if r51 = 0 then
              k61 ()
            else
              k57 ()
def f_X11_namedBy (x1 : Int) (x2 : Int) (M : Mem) : Option (Int × Mem) :=
  (f_X11_laysPieces M).bind fun M1 =>
  (f_X11_laysWords M1).bind fun (r5, M5) =>
  f_X11_namedBy_L15 x1 x2 r5 jFuel 0 0 M5
def f_X11_map (x1 : Int) (x2 : Int) (M : Mem) : Option (Int × Mem) :=
  (f_X11_isMap x1 M).bind fun r3 =>
  (f_X11_isIn x2 0 3 M).bind fun r9 =>
  (f_X11_goesBoth r3 r9 M).bind fun (r12, M12) =>
  if r12 = 0 then
    some (0, M12)
  else
    if x2 = 0 then
      ck (inR (10 * x1)) <|
      ck (inR (36 + (10 * x1))) <|
      ck ((0 : Int) ≤ (36 + (10 * x1)) ∧ (36 + (10 * x1)) < 1062) <|
      some ((M12 1 (36 + (10 * x1)).toNat), M12)
    else if x2 = 2 then
      (f_X11_piecesOf 1 x1 0 M12).bind fun (r65, M65) =>
      some (r65, M65)
    else if x2 = 3 then
      (f_X11_namedBy x1 1 M12).bind fun (r81, M81) =>
      some (r81, M81)
    else
      (f_X11_namedBy x1 0 M12).bind fun (r81, M81) =>
      some (r81, M81)
def f_X11_shotsBy_L4 (x1 : Int) (M : Mem) : Nat → Int → Int → Option (Int)
  | 0, _, _ => none
  | n4 + 1, x2, x3 =>
    if (M 1 (5 : Int).toNat) ≤ x3 then
      some x2
    else
      (f_X11_cameraOf x3 M).bind fun r17 =>
      jn (fun (v29 : Int) => 
        (f_X11_bit v29 M).bind fun r29 =>
        ck (inR (x2 + r29)) <|
        ck (inR (x3 + 1)) <|
        (f_X11_shotsBy_L4 x1 M n4) (x2 + r29) (x3 + 1)) fun k29 =>
      if r17 = x1 then
        k29 1
      else
        k29 0
def f_X11_shotsBy (x1 : Int) (M : Mem) : Option (Int) :=
  f_X11_shotsBy_L4 x1 M jFuel 0 0
def f_X11_ban (x1 : Int) (x2 : Int) (M : Mem) : Option (Int × Mem) :=
  ck (inR ((M 1 (7 : Int).toNat) - 1)) <|
  (f_X11_isIn x1 0 ((M 1 (7 : Int).toNat) - 1) M).bind fun r12 =>
  (f_X11_isIn x2 0 3 M).bind fun r18 =>
  (f_X11_goesBoth r12 r18 M).bind fun (r21, M21) =>
  if r21 = 0 then
    some (0, M21)
  else
    ck (inR (3 * x1)) <|
    ck (inR (96 + (3 * x1))) <|
    if 3 ≤ x2 then
      ck ((0 : Int) ≤ (96 + (3 * x1)) ∧ (96 + (3 * x1)) < 1062) <|
      (f_X11_shotsBy (M21 1 (96 + (3 * x1)).toNat) M21).bind fun r59 =>
      some (r59, M21)
    else
      ck (inR ((96 + (3 * x1)) + x2)) <|
      ck ((0 : Int) ≤ ((96 + (3 * x1)) + x2) ∧ ((96 + (3 * x1)) + x2) < 1062) <|
      some ((M21 1 ((96 + (3 * x1)) + x2).toNat), M21)
def f_X11_word (x1 : Int) (x2 : Int) (M : Mem) : Option (Int × Mem) :=
  ck (inR ((M 1 (9 : Int).toNat) - 1)) <|
  (f_X11_isIn x1 0 ((M 1 (9 : Int).toNat) - 1) M).bind fun r12 =>
  (f_X11_isIn x2 0 5 M).bind fun r18 =>
  (f_X11_goesBoth r12 r18 M).bind fun (r21, M21) =>
  if r21 = 0 then
    some (0, M21)
  else
    (f_X11_laysWords M21).bind fun (r30, M30) =>
    if x2 = 0 then
      (f_X11_w x1 1 M30).bind fun r71 =>
      some (r71, M30)
    else if x2 = 1 then
      (f_X11_syllables x1 M30).bind fun r77 =>
      some (r77, M30)
    else if x2 = 2 then
      ck ((0 : Int) ≤ x1 ∧ x1 < 64) <|
      some ((M30 19 x1.toNat), M30)
    else if x2 = 3 then
      ck ((0 : Int) ≤ x1 ∧ x1 < 64) <|
      some ((M30 20 x1.toNat), M30)
    else if x2 = 4 then
      (f_X11_mapOf x1 M30).bind fun r97 =>
      some (r97, M30)
    else (f_X11_sentencesAhead x1 M30).bind fun r103 =>
    some (r103, M30)
def f_X11_piece (x1 : Int) (x2 : Int) (M : Mem) : Option (Int × Mem) :=
  (f_X11_laysPieces M).bind fun M1 =>
  ck (inR ((M1 0 17) - 1)) <|
  (f_X11_isIn x1 0 ((M1 0 17) - 1) M1).bind fun r13 =>
  (f_X11_isIn x2 0 6 M1).bind fun r20 =>
  (f_X11_goesBoth r13 r20 M1).bind fun (r23, M23) =>
  if r23 = 0 then
    some (0, M23)
  else
    if x2 = 0 then
      ck ((0 : Int) ≤ x1 ∧ x1 < 64) <|
      some ((M23 7 x1.toNat), M23)
    else if x2 = 1 then
      ck ((0 : Int) ≤ x1 ∧ x1 < 64) <|
      some ((M23 8 x1.toNat), M23)
    else if x2 = 2 then
      ck ((0 : Int) ≤ x1 ∧ x1 < 64) <|
      some ((M23 9 x1.toNat), M23)
    else if x2 = 3 then
      ck ((0 : Int) ≤ x1 ∧ x1 < 64) <|
      some ((M23 10 x1.toNat), M23)
    else if x2 = 4 then
      ck ((0 : Int) ≤ x1 ∧ x1 < 64) <|
      some ((M23 11 x1.toNat), M23)
    else if x2 = 5 then
      (f_X11_endOf x1 M23).bind fun r109 =>
      some (r109, M23)
    else ck ((0 : Int) ≤ x1 ∧ x1 < 64) <|
    some ((M23 12 x1.toNat), M23)
def f_X11_longest_L4 (M : Mem) : Nat → Int → Int → Option (Int)
  | 0, _, _ => none
  | n4 + 1, x1, x2 =>
    if (M 0 17) ≤ x2 then
      some x1
    else
      ck ((0 : Int) ≤ x2 ∧ x2 < 64) <|
      ck (inR (x2 + 1)) <|
      (f_X11_longest_L4 M n4) (max x1 (M 10 x2.toNat)) (x2 + 1)
def f_X11_longest  (M : Mem) : Option (Int) :=
  f_X11_longest_L4 M jFuel 0 0
def f_X11_overlaps_L4 (M : Mem) : Nat → Int → Int → Option (Int)
  | 0, _, _ => none
  | n4 + 1, x1, x2 =>
    if (M 0 17) ≤ x2 then
      some x1
    else
      ck ((0 : Int) ≤ x2 ∧ x2 < 64) <|
      ck (inR (x1 + (M 12 x2.toNat))) <|
      ck (inR (x2 + 1)) <|
      (f_X11_overlaps_L4 M n4) (x1 + (M 12 x2.toNat)) (x2 + 1)
def f_X11_overlaps  (M : Mem) : Option (Int) :=
  f_X11_overlaps_L4 M jFuel 0 0
def f_X11_reel (x1 : Int) (M : Mem) : Option (Int × Mem) :=
  (f_X11_isIn x1 0 6 M).bind fun r5 =>
  (f_X11_goes r5 M).bind fun (r8, M8) =>
  if r8 = 0 then
    some (0, M8)
  else
    (f_X11_laysPieces M8).bind fun M17 =>
    if x1 = 0 then
      some ((M17 0 17), M17)
    else if x1 = 1 then
      (f_X11_theEnd M17).bind fun r66 =>
      some (r66, M17)
    else if x1 = 2 then
      (f_X11_laysWords M17).bind fun (r71, M71) =>
      some (r71, M71)
    else if x1 = 3 then
      (f_X11_theEnd M17).bind fun r76 =>
      (f_X11_laysWords M17).bind fun (r80, M80) =>
      ck (inR (r76 - r80)) <|
      some ((r76 - r80), M80)
    else if x1 = 4 then
      (f_X11_deepest M17).bind fun r86 =>
      some (r86, M17)
    else if x1 = 5 then
      (f_X11_longest M17).bind fun r91 =>
      some (r91, M17)
    else (f_X11_overlaps M17).bind fun r96 =>
    some (r96, M17)
def f_X11_screen (x1 : Int) (M : Mem) : Option (Int × Mem) :=
  lt (upm M 0 7 0) fun N2 =>
  (f_X11_laysPieces N2).bind fun M6 =>
  (f_X11_screenIn x1 M6).bind fun r11 =>
  some (r11, M6)
def f_X11_spoken_L12 (x1 : Int) (y2 : Int) : Nat → Int → Mem → Option (Int × Mem)
  | 0, _, _ => none
  | n12 + 1, x3, M =>
    if (M 1 (9 : Int).toNat) ≤ x3 then
      some ((-1), M)
    else
      if y2 ≤ x1 then
        some ((-1), M)
      else
        ck ((0 : Int) ≤ x3 ∧ x3 < 64) <|
        ck (inR ((M 20 x3.toNat) - 1)) <|
        (f_X11_isIn x1 (M 19 x3.toNat) ((M 20 x3.toNat) - 1) M).bind fun r43 =>
        if r43 = 0 then
          ck (inR (x3 + 1)) <|
          (f_X11_spoken_L12 x1 y2 n12) (x3 + 1) M
        else
          some (x3, M)
def f_X11_spoken (x1 : Int) (M : Mem) : Option (Int × Mem) :=
  lt (upm M 0 7 0) fun N2 =>
  (f_X11_laysWords N2).bind fun (r6, M6) =>
  f_X11_spoken_L12 x1 r6 jFuel 0 M6
def f_X11_account (x1 : Int) (M : Mem) : Option (Int × Mem) :=
  (f_X11_isIn x1 0 6 M).bind fun r5 =>
  (f_X11_goes r5 M).bind fun (r8, M8) =>
  if r8 = 0 then
    some (0, M8)
  else
    ck ((0 : Int) ≤ x1 ∧ x1 < 7) <|
    some ((M8 5 x1.toNat), M8)
def f_X11_faults (x1 : Int) (M : Mem) : Option (Int × Mem) :=
  (f_X11_isIn x1 0 5 M).bind fun r4 =>
  (f_X11_goes r4 M).bind fun (r7, M7) =>
  if r7 = 0 then
    some (0, M7)
  else
    (f_X11_allFaults M7).bind fun (r16, M16) =>
    if x1 = 0 then
      some (r16, M16)
    else
      (f_X11_laysWords M16).bind fun (r31, M31) =>
      (f_X11_faultsOf x1 r31 M31).bind fun r34 =>
      some (r34, M31)
def f_X11_fault_L70 (x2 : Int) (y3 : Int) (x5 : Int) : Nat → Int → Int → Mem → Option (Int × Mem)
  | 0, _, _, _ => none
  | n70 + 1, x4, x6, M =>
    (f_X11_isFault x5 x6 y3 M).bind fun r76 =>
    jn (fun (_ : Unit) => (
      (f_X11_isFault x5 x6 y3 M).bind fun r95 =>
      (f_X11_bit r95 M).bind fun r98 =>
      ck (inR (x4 - r98)) <|
      ck (inR (x6 + 1)) <|
      (f_X11_fault_L70 x2 y3 x5 n70) (x4 - r98) (x6 + 1) M : Option (Int × Mem))) fun k87 =>
    if r76 = 0 then
      k87 ()
    else
      if x4 ≤ 0 then
        if x2 = 0 then
          some (x5, M)
        else
          if x5 = 5 then
            some ((-1), M)
          else
            some (x6, M)
      else
        k87 ()
def f_X11_fault_L37 (x2 : Int) (y3 : Int) : Nat → Int → Int → Mem → Option (Int × Mem)
  | 0, _, _, _ => none
  | n37 + 1, x4, x5, M =>
    (f_X11_faultsOf x5 y3 M).bind fun r43 =>
    if x4 < r43 then
      f_X11_fault_L70 x2 y3 x5 jFuel x4 0 M
    else
      (f_X11_faultsOf x5 y3 M).bind fun r55 =>
      ck (inR (x4 - r55)) <|
      ck (inR (x5 + 1)) <|
      (f_X11_fault_L37 x2 y3 n37) (x4 - r55) (x5 + 1) M
def f_X11_fault (x1 : Int) (x2 : Int) (M : Mem) : Option (Int × Mem) :=
  (f_X11_allFaults M).bind fun (r4, M4) =>
  ck (inR (r4 - 1)) <|
  (f_X11_isIn x1 0 (r4 - 1) M4).bind fun r9 =>
  (f_X11_isIn x2 0 1 M4).bind fun r15 =>
  (f_X11_goesBoth r9 r15 M4).bind fun (r18, M18) =>
  if r18 = 0 then
    some (0, M18)
  else
    (f_X11_laysWords M18).bind fun (r27, M27) =>
    f_X11_fault_L37 x2 r27 jFuel x1 1 M27
def f_X11_fits  (M : Mem) : Option (Int × Mem) :=
  lt (upm M 0 7 0) fun N2 =>
  (f_X11_allFaults N2).bind fun (r6, M6) =>
  if r6 = 0 then
    some (1, M6)
  else
    some (0, M6)
def f_X11_isBy (x1 : Int) (x2 : Int) (M : Mem) : Option (Int) :=
  (f_X11_screenIn x2 M).bind fun r2 =>
  if r2 = (-1) then
    some 0
  else
    (f_X11_isShot r2 M).bind fun r13 =>
    if r13 = 0 then
      some 0
    else
      ck ((0 : Int) ≤ r2 ∧ r2 < 64) <|
      (f_X11_cameraOf (M 8 r2.toNat) M).bind fun r26 =>
      if r26 = x1 then
        some 1
      else
        some 0
def f_X11_best (x1 : Int) (M : Mem) : Option (Int × Mem) :=
  (f_X11_isIn x1 0 2 M).bind fun r4 =>
  (f_X11_goes r4 M).bind fun (r7, M7) =>
  if r7 = 0 then
    some (0, M7)
  else
    (f_X11_laysSums M7).bind fun M16 =>
    (f_X11_laysWords M16).bind fun (r27, M27) =>
    (f_X11_chooses (M16 1 (0 : Int).toNat) r27 M27).bind fun (r30, M30) =>
    if r30 = 0 then
      some ((-1), M30)
    else
      if x1 = 0 then
        some ((M30 0 26), M30)
      else
        if x1 = 1 then
          some ((M30 0 27), M30)
        else
          (f_X11_bits (M30 0 26) M30).bind fun r65 =>
          some (r65, M30)
def f_X11_bestWeek_L26 (y1 : Int) : Nat → Int → Int → Int → Mem → Option (Int × Mem)
  | 0, _, _, _, _ => none
  | n26 + 1, x2, x3, x4, M =>
    if 99 < x4 then
      some (x2, M)
    else
      (f_X11_chooses x4 y1 M).bind fun (r37, M37) =>
      if r37 = 0 then
        ck (inR (x4 + 1)) <|
        (f_X11_bestWeek_L26 y1 n26) x2 x3 (x4 + 1) M37
      else
        if x2 = (-1) then
          ck (inR (x4 + 1)) <|
          (f_X11_bestWeek_L26 y1 n26) x4 (M37 0 27) (x4 + 1) M37
        else
          if x3 ≤ (M37 0 27) then
            ck (inR (x4 + 1)) <|
            (f_X11_bestWeek_L26 y1 n26) x2 x3 (x4 + 1) M37
          else
            ck (inR (x4 + 1)) <|
            (f_X11_bestWeek_L26 y1 n26) x4 (M37 0 27) (x4 + 1) M37
def f_X11_bestWeek  (M : Mem) : Option (Int × Mem) :=
  lt (upm M 0 7 0) fun N2 =>
  (f_X11_laysSums N2).bind fun M6 =>
  (f_X11_laysWords M6).bind fun (r10, M10) =>
  f_X11_bestWeek_L26 r10 jFuel (-1) 0 (M10 1 (0 : Int).toNat) M10
def f_X11_bestSpeed_L29 (y1 : Int) (y2 : Int) : Nat → Int → Int → Int → Mem → Option (Int × Mem)
  | 0, _, _, _, _ => none
  | n29 + 1, x3, x4, x5, M =>
    if 20 < x5 then
      lt (upm M 1 (1 : Int).toNat y2) fun N1 =>
      some (x3, N1)
    else
      lt (upm M 1 (1 : Int).toNat x5) fun N2 =>
      (f_X11_laysWords N2).bind fun (r46, M46) =>
      ck (inR (y1 - r46)) <|
      ck (inR (-(y1 - r46))) <|
      if x3 = (-1) then
        ck (inR (x5 + 1)) <|
        (f_X11_bestSpeed_L29 y1 y2 n29) x5 (max (y1 - r46) (-(y1 - r46))) (x5 + 1) M46
      else
        if x4 ≤ (max (y1 - r46) (-(y1 - r46))) then
          ck (inR (x5 + 1)) <|
          (f_X11_bestSpeed_L29 y1 y2 n29) x3 x4 (x5 + 1) M46
        else
          ck (inR (x5 + 1)) <|
          (f_X11_bestSpeed_L29 y1 y2 n29) x5 (max (y1 - r46) (-(y1 - r46))) (x5 + 1) M46
def f_X11_bestSpeed  (M : Mem) : Option (Int × Mem) :=
  lt (upm M 0 7 0) fun N2 =>
  (f_X11_laysPieces N2).bind fun M6 =>
  (f_X11_theEnd M6).bind fun r10 =>
  f_X11_bestSpeed_L29 r10 (M6 1 (1 : Int).toNat) jFuel (-1) 0 1 M6
def f_X11_begins_L21 (k55 : Mem → Option (Mem)) : Nat → Int → Mem → Option (Mem)
  | 0, _, _ => none
  | n21 + 1, x1, M =>
    ck (inR (1062 * (M 0 6))) <|
    if (1062 * (M 0 6)) ≤ x1 then
      k55 M
    else
      ck (inR (x1 + 1062)) <|
      ck ((0 : Int) ≤ (x1 + 1062) ∧ (x1 + 1062) < 8496) <|
      ck ((0 : Int) ≤ x1 ∧ x1 < 8496) <|
      lt (upm M 3 x1.toNat (M 3 (x1 + 1062).toNat)) fun N1 =>
      ck (inR (x1 + 1)) <|
      (f_X11_begins_L21 k55 n21) (x1 + 1) N1
def f_X11_begins  (M : Mem) : Option (Mem) :=
  jn (fun (M55 : Mem) => (
    ck (inR (1062 * (M55 0 6))) <|
    (f_X11_copies 1 1062 0 3 8496 (1062 * (M55 0 6)) M55).bind fun M72 =>
    ck (inR ((M72 0 6) + 1)) <|
    lt (upm M72 0 6 ((M72 0 6) + 1)) fun N5 =>
    ck (inR ((M72 5 (0 : Int).toNat) + 1)) <|
    lt (upm N5 5 (0 : Int).toNat ((M72 5 (0 : Int).toNat) + 1)) fun N8 =>
    some N8 : Option (Mem))) fun k55 =>
  if (M 0 6) = 8 then
    ck (inR ((M 0 6) - 1)) <|
    lt (upm M 0 6 ((M 0 6) - 1)) fun N11 =>
    f_X11_begins_L21 k55 jFuel 0 N11
  else
    k55 M
def f_X11_refuses (x1 : Int) (M : Mem) : Option (Int × Mem) :=
  ck ((0 : Int) ≤ x1 ∧ x1 < 7) <|
  ck (inR ((M 5 x1.toNat) + 1)) <|
  lt (upm M 5 x1.toNat ((M 5 x1.toNat) + 1)) fun N4 =>
  ck (inR (-x1)) <|
  some ((-x1), N4)
def f_X11_endNow  (M : Mem) : Option (Int × Mem) :=
  (f_X11_laysPieces M).bind fun M1 =>
  (f_X11_theEnd M1).bind fun r5 =>
  some (r5, M1)
def f_X11_edit  (M : Mem) : Option (Int × Mem) :=
  lt (upm M 0 7 0) fun N2 =>
  (f_X11_readsReel N2).bind fun M6 =>
  (f_X11_isGood M6).bind fun r10 =>
  if r10 = 0 then
    (f_X11_refuses 1 M6).bind fun (r18, M18) =>
    some (r18, M18)
  else
    (f_X11_copies 1 1062 0 2 1062 0 M6).bind fun M32 =>
    (f_X11_takesReel M32).bind fun M36 =>
    (f_X11_laysPieces M36).bind fun M40 =>
    (f_X11_copies 2 1062 0 1 1062 0 M40).bind fun M53 =>
    if (M53 0 17) ≤ 60 then
      (f_X11_begins M53).bind fun M72 =>
      (f_X11_takesReel M72).bind fun M76 =>
      some ((M76 0 17), M76)
    else
      (f_X11_refuses 2 M53).bind fun (r67, M67) =>
      some (r67, M67)
def f_X11_say  (M : Mem) : Option (Int × Mem) :=
  lt (upm M 0 7 0) fun N2 =>
  (f_X11_readsVoice N2).bind fun M6 =>
  (f_X11_isGood M6).bind fun r10 =>
  if r10 = 0 then
    (f_X11_refuses 1 M6).bind fun (r18, M18) =>
    some (r18, M18)
  else
    (f_X11_begins M6).bind fun M23 =>
    (f_X11_takesVoice M23).bind fun M27 =>
    some ((M27 0 48), M27)
def f_X11_assemble_L46  : Nat → Int → Mem → Option (Int × Mem)
  | 0, _, _ => none
  | n46 + 1, x1, M =>
    if (M 1 (5 : Int).toNat) ≤ x1 then
      some ((M 0 27), M)
    else
      if (iand (ishr (M 0 26) x1) 1) = 0 then
        ck (inR (x1 + 1)) <|
        (f_X11_assemble_L46 n46) (x1 + 1) M
      else
        jn (fun (v85 : Int) => 
          (f_X11_lengthOf x1 M).bind fun r99 =>
          ck (inR (r99 - 1)) <|
          jn (fun (v116 : Int) => 
            ck (inR ((r99 - 1) - v116)) <|
            (f_X11_lays (M 1 (8 : Int).toNat) 0 x1 0 ((r99 - 1) - v116) M).bind fun M117 =>
            ck (inR ((M117 1 (8 : Int).toNat) + 1)) <|
            lt (upm M117 1 (8 : Int).toNat ((M117 1 (8 : Int).toNat) + 1)) fun N1 =>
            ck (inR (x1 + 1)) <|
            (f_X11_assemble_L46 n46) (x1 + 1) N1) fun k116 =>
          if v85 = 0 then
            k116 0
          else
            k116 (M 0 27)) fun k85 =>
        if (ishr (M 0 26) x1) = 1 then
          k85 1
        else
          k85 0
def f_X11_assemble  (M : Mem) : Option (Int × Mem) :=
  lt (upm M 0 7 0) fun N2 =>
  (f_X11_laysSums N2).bind fun M6 =>
  (f_X11_laysWords M6).bind fun (r17, M17) =>
  (f_X11_chooses (M6 1 (0 : Int).toNat) r17 M17).bind fun (r20, M20) =>
  if r20 = 0 then
    (f_X11_refuses 3 M20).bind fun (r28, M28) =>
    some (r28, M28)
  else
    (f_X11_begins M20).bind fun M33 =>
    lt (upm M33 1 (8 : Int).toNat 0) fun N8 =>
    f_X11_assemble_L46 jFuel 0 N8
def f_X11_insert (x1 : Int) (x2 : Int) (x3 : Int) (M : Mem) : Option (Int × Mem) :=
  (f_X11_itemMany M).bind fun r4 =>
  (f_X11_isIn x1 0 r4 M).bind fun r7 =>
  jn (fun (v26 : Int) => 
    (f_X11_isIn x3 1 400 M).bind fun r31 =>
    (f_X11_goesBoth v26 r31 M).bind fun (r34, M34) =>
    if r34 = 0 then
      some (0, M34)
    else
      (f_X11_allItems M34).bind fun r43 =>
      if r43 = 30 then
        (f_X11_refuses 4 M34).bind fun (r53, M53) =>
        some (r53, M53)
      else
        (f_X11_laysPieces M34).bind fun M58 =>
        if (M58 0 17) = 60 then
          (f_X11_refuses 2 M58).bind fun (r72, M72) =>
          some (r72, M72)
        else
          (f_X11_begins M58).bind fun M77 =>
          (f_X11_rowOf x1 M77).bind fun r82 =>
          (f_X11_shiftsBack r82 1 M77).bind fun M91 =>
          (f_X11_lays r82 1 x2 x3 0 M91).bind fun M101 =>
          (f_X11_endNow M101).bind fun (r105, M105) =>
          some (r105, M105)) fun k26 =>
  jn (fun (_ : Unit) => (
    k26 0 : Option (Int × Mem))) fun k25 =>
  if r7 = 0 then
    k25 ()
  else
    (f_X11_isMap x2 M).bind fun r15 =>
    if r15 = 0 then
      k25 ()
    else
      k26 1
def f_X11_isItem (x1 : Int) (M : Mem) : Option (Int) :=
  (f_X11_itemMany M).bind fun r3 =>
  ck (inR (r3 - 1)) <|
  (f_X11_isIn x1 0 (r3 - 1) M).bind fun r8 =>
  ck (r8 = 0 ∨ r8 = 1) <|
  some r8
def f_X11_framesOf (x1 : Int) (M : Mem) : Option (Int) :=
  (f_X11_r x1 0 M).bind fun r3 =>
  if r3 = 0 then
    (f_X11_r x1 3 M).bind fun r12 =>
    (f_X11_r x1 2 M).bind fun r18 =>
    ck (inR (r12 - r18)) <|
    ck (inR ((r12 - r18) + 1)) <|
    some ((r12 - r18) + 1)
  else
    (f_X11_r x1 2 M).bind fun r30 =>
    some r30
def f_X11_trim (x1 : Int) (x2 : Int) (M : Mem) : Option (Int × Mem) :=
  (f_X11_isItem x1 M).bind fun r3 =>
  (f_X11_isIn x2 1 399 M).bind fun r11 =>
  (f_X11_goesBoth r3 r11 M).bind fun (r14, M14) =>
  if r14 = 0 then
    some (0, M14)
  else
    (f_X11_rowOf x1 M14).bind fun r24 =>
    (f_X11_r r24 0 M14).bind fun r31 =>
    jn (fun (_ : Unit) => (
      (f_X11_framesOf r24 M14).bind fun r55 =>
      if x2 < r55 then
        (f_X11_begins M14).bind fun M70 =>
        ck (inR (4 * r24)) <|
        ck (inR (126 + (4 * r24))) <|
        (f_X11_r r24 0 M70).bind fun r82 =>
        jn (fun (v93 : Int) => 
          ck (inR ((126 + (4 * r24)) + v93)) <|
          ck ((0 : Int) ≤ ((126 + (4 * r24)) + v93) ∧ ((126 + (4 * r24)) + v93) < 1062) <|
          ck (inR ((M70 1 ((126 + (4 * r24)) + v93).toNat) - x2)) <|
          lt (upm M70 1 ((126 + (4 * r24)) + v93).toNat ((M70 1 ((126 + (4 * r24)) + v93).toNat) - x2)) fun N15 =>
          (f_X11_framesOf r24 N15).bind fun r109 =>
          some (r109, N15)) fun k93 =>
        if r82 = 0 then
          k93 3
        else
          k93 2
      else
        (f_X11_refuses 6 M14).bind fun (r65, M65) =>
        some (r65, M65) : Option (Int × Mem))) fun k53 =>
    if r31 = 0 then
      k53 ()
    else
      (f_X11_r r24 0 M14).bind fun r40 =>
      if r40 = 1 then
        k53 ()
      else
        (f_X11_refuses 5 M14).bind fun (r49, M49) =>
        some (r49, M49)
def f_X11_remove (x1 : Int) (M : Mem) : Option (Int × Mem) :=
  (f_X11_isItem x1 M).bind fun r3 =>
  (f_X11_goes r3 M).bind fun (r6, M6) =>
  if r6 = 0 then
    some (0, M6)
  else
    (f_X11_begins M6).bind fun M15 =>
    (f_X11_rowOf x1 M15).bind fun r20 =>
    (f_X11_behind r20 M15).bind fun r28 =>
    ck (inR (r28 - r20)) <|
    (f_X11_shiftsFront r20 (r28 - r20) M15).bind fun M33 =>
    (f_X11_endNow M33).bind fun (r37, M37) =>
    some (r37, M37)
def f_X11_move_L113 (y4 : Int) (y5 : Int) : Nat → Int → Mem → Option (Int × Mem)
  | 0, _, _ => none
  | n113 + 1, x6, M =>
    ck (inR (4 * y4)) <|
    if (4 * y4) ≤ x6 then
      (f_X11_endNow M).bind fun (r151, M151) =>
      some (r151, M151)
    else
      ck (inR (4 * y5)) <|
      ck (inR (126 + (4 * y5))) <|
      ck (inR ((126 + (4 * y5)) + x6)) <|
      ck ((0 : Int) ≤ x6 ∧ x6 < 256) <|
      ck ((0 : Int) ≤ ((126 + (4 * y5)) + x6) ∧ ((126 + (4 * y5)) + x6) < 1062) <|
      lt (upm M 1 ((126 + (4 * y5)) + x6).toNat (M 28 x6.toNat)) fun N1 =>
      ck (inR (x6 + 1)) <|
      (f_X11_move_L113 y4 y5 n113) (x6 + 1) N1
def f_X11_move_L52 (x2 : Int) (y3 : Int) (y4 : Int) : Nat → Int → Mem → Option (Int × Mem)
  | 0, _, _ => none
  | n52 + 1, x5, M =>
    ck (inR (4 * y4)) <|
    if (4 * y4) ≤ x5 then
      (f_X11_shiftsFront y3 y4 M).bind fun M92 =>
      (f_X11_rowOf x2 M92).bind fun r97 =>
      (f_X11_shiftsBack r97 y4 M92).bind fun M107 =>
      f_X11_move_L113 y4 r97 jFuel 0 M107
    else
      ck (inR (4 * y3)) <|
      ck (inR (126 + (4 * y3))) <|
      ck (inR ((126 + (4 * y3)) + x5)) <|
      ck ((0 : Int) ≤ ((126 + (4 * y3)) + x5) ∧ ((126 + (4 * y3)) + x5) < 1062) <|
      ck ((0 : Int) ≤ x5 ∧ x5 < 256) <|
      lt (upm M 28 x5.toNat (M 1 ((126 + (4 * y3)) + x5).toNat)) fun N1 =>
      ck (inR (x5 + 1)) <|
      (f_X11_move_L52 x2 y3 y4 n52) (x5 + 1) N1
def f_X11_move (x1 : Int) (x2 : Int) (M : Mem) : Option (Int × Mem) :=
  (f_X11_isItem x1 M).bind fun r3 =>
  jn (fun (v22 : Int) => 
    (f_X11_goes v22 M).bind fun (r22, M22) =>
    if r22 = 0 then
      some (0, M22)
    else
      (f_X11_begins M22).bind fun M31 =>
      (f_X11_rowOf x1 M31).bind fun r36 =>
      (f_X11_behind r36 M31).bind fun r42 =>
      ck (inR (r42 - r36)) <|
      f_X11_move_L52 x2 r36 (r42 - r36) jFuel 0 M31) fun k22 =>
  jn (fun (_ : Unit) => (
    k22 0 : Option (Int × Mem))) fun k21 =>
  if r3 = 0 then
    k21 ()
  else
    (f_X11_isItem x2 M).bind fun r11 =>
    if r11 = 0 then
      k21 ()
    else
      k22 1
def f_X11_setWeek (x1 : Int) (M : Mem) : Option (Int × Mem) :=
  (f_X11_isIn x1 0 99 M).bind fun r5 =>
  (f_X11_goes r5 M).bind fun (r8, M8) =>
  if r8 = 0 then
    some (0, M8)
  else
    (f_X11_begins M8).bind fun M17 =>
    lt (upm M17 1 (0 : Int).toNat x1) fun N5 =>
    (f_X11_bannedIn x1 N5).bind fun r29 =>
    (f_X11_bits r29 N5).bind fun r32 =>
    some (r32, N5)
def f_X11_setVoice (x1 : Int) (x2 : Int) (M : Mem) : Option (Int × Mem) :=
  (f_X11_isIn x1 1 20 M).bind fun r5 =>
  jn (fun (v26 : Int) => 
    (f_X11_goes v26 M).bind fun (r26, M26) =>
    if r26 = 0 then
      some (0, M26)
    else
      (f_X11_begins M26).bind fun M35 =>
      lt (upm M35 1 (1 : Int).toNat x1) fun N5 =>
      lt (upm N5 1 (2 : Int).toNat x2) fun N7 =>
      (f_X11_laysWords N7).bind fun (r53, M53) =>
      some (r53, M53)) fun k26 =>
  jn (fun (_ : Unit) => (
    k26 0 : Option (Int × Mem))) fun k25 =>
  if r5 = 0 then
    k25 ()
  else
    (f_X11_isIn x2 0 50 M).bind fun r15 =>
    if r15 = 0 then
      k25 ()
    else
      k26 1
def f_X11_setSlack (x1 : Int) (M : Mem) : Option (Int × Mem) :=
  (f_X11_isIn x1 0 100 M).bind fun r5 =>
  (f_X11_goes r5 M).bind fun (r8, M8) =>
  if r8 = 0 then
    some (0, M8)
  else
    (f_X11_begins M8).bind fun M17 =>
    lt (upm M17 1 (4 : Int).toNat x1) fun N5 =>
    some ((M17 1 (4 : Int).toNat), N5)
def f_X11_writes (x1 : Int) (M : Mem) : Option (Mem) :=
  ck ((0 : Int) ≤ (M 0 51) ∧ (M 0 51) < 1200) <|
  lt (upm M 29 (M 0 51).toNat x1) fun N3 =>
  ck (inR ((M 0 51) + 1)) <|
  lt (upm N3 0 51 ((M 0 51) + 1)) fun N6 =>
  some N6
def f_X11_writesWord_L2 (w1 : Nat) : Nat → Int → Mem → Option (Mem)
  | 0, _, _ => none
  | n2 + 1, x2, M =>
    if (((lenST.getD w1 0 : Nat)) : Int) ≤ x2 then
      some M
    else
      ck ((0 : Int) ≤ x2 ∧ x2 < ((lenST.getD w1 0 : Nat) : Int)) <|
      (f_X11_writes (chST w1 x2.toNat) M).bind fun M16 =>
      ck (inR (x2 + 1)) <|
      (f_X11_writesWord_L2 w1 n2) (x2 + 1) M16
def f_X11_writesWord (w1 : Nat) (M : Mem) : Option (Mem) :=
  f_X11_writesWord_L2 w1 jFuel 0 M
def f_X11_writesNumber_L20 (x1 : Int) : Nat → Int → Mem → Option (Mem)
  | 0, _, _ => none
  | n20 + 1, x3, M =>
    if x3 ≤ 0 then
      some M
    else
      ck (x3 ≠ 0) <|
      ck (inR (48 + (irem (idiv x1 x3) 10))) <|
      (f_X11_writes (48 + (irem (idiv x1 x3) 10)) M).bind fun M34 =>
      (f_X11_writesNumber_L20 x1 n20) (idiv x3 10) M34
def f_X11_writesNumber_L2 (x1 : Int) : Nat → Int → Mem → Option (Mem)
  | 0, _, _ => none
  | n2 + 1, x2, M =>
    ck (x2 ≠ 0) <|
    if (idiv x1 x2) ≤ 9 then
      f_X11_writesNumber_L20 x1 jFuel x2 M
    else
      ck (inR (x2 * 10)) <|
      (f_X11_writesNumber_L2 x1 n2) (x2 * 10) M
def f_X11_writesNumber (x1 : Int) (M : Mem) : Option (Mem) :=
  f_X11_writesNumber_L2 x1 jFuel 1 M
def f_X11_writesCut (x1 : Int) (M : Mem) : Option (Mem) :=
  (f_X11_writesWord 12 M).bind fun M4 =>
  (f_X11_r x1 1 M4).bind fun r11 =>
  (f_X11_writesNumber r11 M4).bind fun M14 =>
  (f_X11_r x1 2 M14).bind fun r20 =>
  jn (fun (_ : Unit) => (
    (f_X11_writesWord 16 M14).bind fun M51 =>
    (f_X11_r x1 2 M51).bind fun r58 =>
    (f_X11_writesNumber r58 M51).bind fun M61 =>
    (f_X11_writesWord 17 M61).bind fun M68 =>
    (f_X11_r x1 3 M68).bind fun r75 =>
    (f_X11_writesNumber r75 M68).bind fun M78 =>
    (f_X11_writes 59 M78).bind fun M84 =>
    some M84 : Option (Mem))) fun k47 =>
  if 0 < r20 then
    k47 ()
  else
    (f_X11_r x1 3 M14).bind fun r29 =>
    (f_X11_r x1 1 M14).bind fun r36 =>
    (f_X11_lengthOf r36 M14).bind fun r39 =>
    ck (inR (r39 - 1)) <|
    if (r39 - 1) ≤ r29 then
      (f_X11_writes 59 M14).bind fun M84 =>
      some M84
    else
      k47 ()
def f_X11_writesRow (x1 : Int) (M : Mem) : Option (Mem) :=
  (f_X11_r x1 0 M).bind fun r3 =>
  if r3 = 0 then
    (f_X11_writesCut x1 M).bind fun M42 =>
    some M42
  else if r3 = 1 then
    (f_X11_writesWord 13 M).bind fun M52 =>
    (f_X11_r x1 1 M52).bind fun r59 =>
    (f_X11_writesNumber r59 M52).bind fun M62 =>
    (f_X11_writes 32 M62).bind fun M68 =>
    (f_X11_r x1 2 M68).bind fun r75 =>
    (f_X11_writesNumber r75 M68).bind fun M78 =>
    (f_X11_writes 59 M78).bind fun M84 =>
    some M84
  else if r3 = 4 then
    (f_X11_writesWord 22 M).bind fun M94 =>
    some M94
  else (f_X11_r x1 0 M).bind fun r104 =>
  if r104 = 2 then
    (f_X11_writesWord 14 M).bind fun M120 =>
    (f_X11_r x1 1 M120).bind fun r127 =>
    (f_X11_writesNumber r127 M120).bind fun M130 =>
    (f_X11_writes 123 M130).bind fun M136 =>
    some M136
  else
    (f_X11_writesWord 15 M).bind fun M120 =>
    (f_X11_r x1 1 M120).bind fun r127 =>
    (f_X11_writesNumber r127 M120).bind fun M130 =>
    (f_X11_writes 123 M130).bind fun M136 =>
    some M136
def f_X11_writeReel_L12  : Nat → Int → Mem → Option (Int × Mem)
  | 0, _, _ => none
  | n12 + 1, x1, M =>
    if (M 1 (8 : Int).toNat) ≤ x1 then
      some ((M 0 51), M)
    else
      (f_X11_writesRow x1 M).bind fun M25 =>
      ck (inR (x1 + 1)) <|
      (f_X11_writeReel_L12 n12) (x1 + 1) M25
def f_X11_writeReel  (M : Mem) : Option (Int × Mem) :=
  lt (upm M 0 7 0) fun N2 =>
  lt (upm N2 0 51 0) fun N4 =>
  f_X11_writeReel_L12 jFuel 0 N4
def f_X11_writeVoice_L35 (SELF12 : Int → Mem → Option (Int × Mem)) (x1 : Int) : Nat → Int → Mem → Option (Int × Mem)
  | 0, _, _ => none
  | n35 + 1, x2, M =>
    (f_X11_w x1 1 M).bind fun r39 =>
    if r39 ≤ x2 then
      (f_X11_w x1 2 M).bind fun r64 =>
      if r64 = 1 then
        (f_X11_writes 46 M).bind fun M74 =>
        ck (inR (x1 + 1)) <|
        SELF12 (x1 + 1) M74
      else
        ck (inR (x1 + 1)) <|
        SELF12 (x1 + 1) M
    else
      (f_X11_letter x1 x2 M).bind fun r49 =>
      (f_X11_writes r49 M).bind fun M52 =>
      ck (inR (x2 + 1)) <|
      (f_X11_writeVoice_L35 SELF12 x1 n35) (x2 + 1) M52
def f_X11_writeVoice_L12  : Nat → Int → Mem → Option (Int × Mem)
  | 0, _, _ => none
  | n12 + 1, x1, M =>
    if (M 1 (9 : Int).toNat) ≤ x1 then
      some ((M 0 51), M)
    else
      if x1 ≤ 0 then
        f_X11_writeVoice_L35 (f_X11_writeVoice_L12 n12) x1 jFuel 0 M
      else
        (f_X11_writes 32 M).bind fun M30 =>
        f_X11_writeVoice_L35 (f_X11_writeVoice_L12 n12) x1 jFuel 0 M30
def f_X11_writeVoice  (M : Mem) : Option (Int × Mem) :=
  lt (upm M 0 7 0) fun N2 =>
  lt (upm N2 0 51 0) fun N4 =>
  f_X11_writeVoice_L12 jFuel 0 N4
def f_X11_output (x1 : Int) (M : Mem) : Option (Int × Mem) :=
  lt (upm M 0 7 0) fun N2 =>
  ck (inR ((M 0 51) - 1)) <|
  (f_X11_isIn x1 0 ((M 0 51) - 1) N2).bind fun r13 =>
  if r13 = 0 then
    some ((-1), N2)
  else
    ck ((0 : Int) ≤ x1 ∧ x1 < 1200) <|
    some ((M 29 x1.toNat), N2)
def f_X11_undo  (M : Mem) : Option (Int × Mem) :=
  lt (upm M 0 7 0) fun N2 =>
  if (M 0 6) = 0 then
    some ((-1), N2)
  else
    ck (inR ((M 0 6) - 1)) <|
    lt (upm N2 0 6 ((M 0 6) - 1)) fun N5 =>
    ck (inR (1062 * ((M 0 6) - 1))) <|
    (f_X11_copies 3 8496 (1062 * ((M 0 6) - 1)) 1 1062 0 N5).bind fun M41 =>
    some ((M41 0 6), M41)
def f_X11_isSlot (x0 : Int) (M : Mem) : Option (Int) :=
  (f_X11_isIn x0 0 1 M).bind fun r3 =>
  ck (r3 = 0 ∨ r3 = 1) <|
  some r3
def f_X11_save (x1 : Int) (M : Mem) : Option (Mem) :=
  (f_X11_isSlot x1 M).bind fun r2 =>
  (f_X11_goes r2 M).bind fun (r5, M5) =>
  if r5 = 0 then
    some M5
  else
    ck (inR (1062 * x1)) <|
    (f_X11_copies 1 1062 0 4 2124 (1062 * x1) M5).bind fun M26 =>
    ck ((0 : Int) ≤ x1 ∧ x1 < 2) <|
    lt (upm M26 6 x1.toNat (bar1 1)) fun N7 =>
    some N7
def f_X11_restore (x1 : Int) (M : Mem) : Option (Mem) :=
  (f_X11_isSlot x1 M).bind fun r2 =>
  (f_X11_isSlot x1 M).bind fun r6 =>
  jn (fun (v26 : Int) => 
    (f_X11_goesBoth r2 v26 M).bind fun (r26, M26) =>
    if r26 = 0 then
      some M26
    else
      ck (inR (1062 * x1)) <|
      (f_X11_copies 4 2124 (1062 * x1) 1 1062 0 M26).bind fun M47 =>
      lt (upm M47 0 6 0) fun N7 =>
      some N7) fun k26 =>
  jn (fun (_ : Unit) => (
    k26 0 : Option (Mem))) fun k25 =>
  if r6 = 0 then
    k25 ()
  else
    ck ((0 : Int) ≤ x1 ∧ x1 < 2) <|
    if (M 6 x1.toNat) = 0 then
      k25 ()
    else
      k26 1
def f_X2_readBlock (rc : Nat → Nat → Int → Mem → Option (Int × Mem)) (s : Nat) (x1 : Int) (s3 : Nat) (x4 : Int) (M : Mem) : Option (Int × Mem) :=
  (f_X2_add s x1 (M 1 6) 0 0 x4 M).bind fun M10 =>
  jn (fun (_ : Unit) => (
    (f_X8_take 4 M10).bind fun (r35, M35) =>
    if r35 = 0 then
      some (0, M35)
    else
      ck (inR (x4 + 1)) <|
      (rc s s3 (x4 + 1) M35).bind fun (r48, M48) =>
      if r48 = 0 then
        some (0, M48)
      else
        (f_X8_take 5 M48).bind fun (r56, M56) =>
        if r56 = 0 then
          some (0, M56)
        else
          some (1, M56) : Option (Int × Mem))) fun k33 =>
  if (M10 1 2) = 4 then
    if x4 < 4 then
      k33 ()
    else
      (f_X8_fail 5 M10).bind fun (r29, M29) =>
      ck (r29 = 0 ∨ r29 = 1) <|
      some (r29, M29)
  else
    k33 ()
def f_X2_readItem (rc : Nat → Nat → Int → Mem → Option (Int × Mem)) (s : Nat) (s2 : Nat) (x3 : Int) (M : Mem) : Option (Int × Mem) :=
  (f_X2_kindTold M).bind fun r1 =>
  if r1 = (-1) then
    (f_X8_fail 1 M).bind fun (r14, M14) =>
    ck (r14 = 0 ∨ r14 = 1) <|
    some (r14, M14)
  else
    if (M (s + 17) 0) < 30 then
      (f_X8_advance M).bind fun M34 =>
      if r1 = 0 then
        (f_X2_readCut s s2 x3 M34).bind fun (r68, M68) =>
        ck (r68 = 0 ∨ r68 = 1) <|
        some (r68, M68)
      else if r1 = 1 then
        (f_X2_readMap s s2 x3 M34).bind fun (r76, M76) =>
        ck (r76 = 0 ∨ r76 = 1) <|
        some (r76, M76)
      else if r1 = 2 then
        (f_X8_takeNumber 1 9 M34).bind fun (r84, M84) =>
        if r84 = 0 then
          some (0, M84)
        else
          (f_X2_readBlock rc s r1 s2 x3 M84).bind fun (r96, M96) =>
          if r96 = 0 then
            some (0, M96)
          else
            some (1, M96)
      else (f_X8_takeNumber 0 40 M34).bind fun (r112, M112) =>
      if r112 = 0 then
        some (0, M112)
      else
        (f_X2_readBlock rc s r1 s2 x3 M112).bind fun (r124, M124) =>
        if r124 = 0 then
          some (0, M124)
        else
          some (1, M124)
    else
      (f_X8_fail 4 M).bind fun (r29, M29) =>
      ck (r29 = 0 ∨ r29 = 1) <|
      some (r29, M29)
def f_X2_readItems_L3 (rc : Nat → Nat → Int → Mem → Option (Int × Mem))  (s : Nat) (s2 : Nat) (x3 : Int) : Nat → Int → Mem → Option (Int × Mem)
  | 0, _, _ => none
  | n3 + 1, x4, M =>
    if 30 < x4 then
      some (1, M)
    else
      if (M 1 2) = 1 then
        (f_X2_readItem rc s s2 x3 M).bind fun (r22, M22) =>
        if r22 = 0 then
          some (0, M22)
        else
          (f_X8_take 3 M22).bind fun (r30, M30) =>
          if r30 = 0 then
            some (0, M30)
          else
            ck (inR (x4 + 1)) <|
            (f_X2_readItems_L3 rc s s2 x3 n3) (x4 + 1) M30
      else
        some (1, M)
def f_X2_readItems (rc : Nat → Nat → Int → Mem → Option (Int × Mem)) (s : Nat) (s2 : Nat) (x3 : Int) (M : Mem) : Option (Int × Mem) :=
  f_X2_readItems_L3 rc s s2 x3 jFuel 0 M
def g_X2_readItems : Nat → Nat → Nat → Int → Mem → Option (Int × Mem)
  | 0 => fun _ _ _ _ => none
  | n + 1 => f_X2_readItems (g_X2_readItems n)
def fr_X2_readItems : Nat → Nat
  | 0 => 0
  | n + 1 => fr_X2_readItems n + 10
def lo_X2_readItems : Nat → Nat
  | 0 => 0
  | n + 1 => lo_X2_readItems n + 393
def f_X2_readFrom (s : Nat) (s2 : Nat) (M : Mem) : Option (Int × Mem) :=
  (f_X2_clear s M).bind fun M1 =>
  (f_X8_startReading M1).bind fun M5 =>
  (g_X2_readItems 6 s s2 0 M5).bind fun (r12, M12) =>
  if r12 = 0 then
    some (0, M12)
  else
    (f_X8_take 0 M12).bind fun (r20, M20) =>
    if r20 = 0 then
      some (0, M20)
    else
      some (1, M20)
def f_X5_addItem_L107 (rc : Nat → Int → Int → Int → Int → Mem → Option (Mem))  (s1 : Nat) (x2 : Int) (x3 : Int) (x4 : Int) (y5 : Int) : Nat → Int → Mem → Option (Mem)
  | 0, _, _ => none
  | n107 + 1, x6, M =>
    ck ((0 : Int) ≤ x2 ∧ x2 < 30) <|
    if (M (s1 + 19) x2.toNat) ≤ x6 then
      some M
    else
      ck (inR (x2 + 1)) <|
      ck (inR (x3 + 1)) <|
      (rc s1 (x2 + 1) y5 (x3 + 1) x4 M).bind fun M130 =>
      ck (inR (x6 + 1)) <|
      (f_X5_addItem_L107 rc s1 x2 x3 x4 y5 n107) (x6 + 1) M130
def f_X5_addItem (rc : Nat → Int → Int → Int → Int → Mem → Option (Mem)) (s1 : Nat) (x2 : Int) (x3 : Int) (x4 : Int) (M : Mem) : Option (Mem) :=
  (f_X2_isBlock s1 x2 M).bind fun r2 =>
  if r2 = 0 then
    (f_X5_addPiece s1 x2 x4 M).bind fun M13 =>
    some M13
  else
    (f_X2_behind s1 x2 M).bind fun r19 =>
    if 4 ≤ x3 then
      some M
    else
      if 4 ≤ x4 then
        some M
      else
        ck (inR (x2 + 1)) <|
        (f_X5_hasPieces s1 (x2 + 1) r19 M).bind fun r41 =>
        if r41 = 0 then
          some M
        else
          ck ((0 : Int) ≤ x2 ∧ x2 < 30) <|
          if (M (s1 + 18) x2.toNat) = 3 then
            ck (inR (x4 + 1)) <|
            ck ((0 : Int) ≤ (x4 + 1) ∧ (x4 + 1) < 5) <|
            lt (upm M 63 (x4 + 1).toNat (M (s1 + 19) x2.toNat)) fun N14 =>
            ck (inR (x3 + 1)) <|
            (rc s1 (x2 + 1) r19 (x3 + 1) (x4 + 1) N14).bind fun M87 =>
            lt (upm M87 56 9 (min (M87 56 9) x4)) fun N18 =>
            some N18
          else
            f_X5_addItem_L107 rc s1 x2 x3 x4 r19 jFuel 0 M
def f_X5_addItems_L3 (rc : Nat → Int → Int → Int → Int → Mem → Option (Mem))  (s1 : Nat) (x3 : Int) (x4 : Int) (x5 : Int) : Nat → Int → Mem → Option (Mem)
  | 0, _, _ => none
  | n3 + 1, x6, M =>
    if x3 ≤ x6 then
      some M
    else
      if 30 ≤ x6 then
        some M
      else
        ck ((0 : Int) ≤ x6 ∧ x6 < 30) <|
        if (M (s1 + 22) x6.toNat) = x4 then
          (f_X5_addItem rc s1 x6 x4 x5 M).bind fun M36 =>
          ck (inR (x6 + 1)) <|
          (f_X5_addItems_L3 rc s1 x3 x4 x5 n3) (x6 + 1) M36
        else
          ck (inR (x6 + 1)) <|
          (f_X5_addItems_L3 rc s1 x3 x4 x5 n3) (x6 + 1) M
def f_X5_addItems (rc : Nat → Int → Int → Int → Int → Mem → Option (Mem)) (s1 : Nat) (x2 : Int) (x3 : Int) (x4 : Int) (x5 : Int) (M : Mem) : Option (Mem) :=
  f_X5_addItems_L3 rc s1 x3 x4 x5 jFuel x2 M
def g_X5_addItems : Nat → Nat → Int → Int → Int → Int → Mem → Option (Mem)
  | 0 => fun _ _ _ _ _ _ => none
  | n + 1 => f_X5_addItems (g_X5_addItems n)
def fr_X5_addItems : Nat → Nat
  | 0 => 0
  | n + 1 => fr_X5_addItems n + 4
def lo_X5_addItems : Nat → Nat
  | 0 => 0
  | n + 1 => lo_X5_addItems n + 126
def f_X5_cutFrom (s1 : Nat) (M : Mem) : Option (Mem) :=
  lt (upm M 56 0 0) fun N2 =>
  lt (upm N2 56 1 0) fun N4 =>
  lt (upm N4 56 9 0) fun N6 =>
  (g_X5_addItems 6 s1 0 (N6 (s1 + 17) 0) 0 0 N6).bind fun M24 =>
  some M24
def f_X10_appendText (x1 : Int) (M : Mem) : Option (Int × Mem) :=
  if (M 1 1) ≤ 496 then
    (f_X8_append x1 M).bind fun M28 =>
    some ((M28 1 1), M28)
  else
    none
def f_X10_requireRange (x0 : Int) (x1 : Int) (x2 : Int) (M : Mem) : Option (Unit) :=
  jn (fun (_ : Unit) => (
    none : Option (Unit))) fun k10 =>
  if x0 < x1 then
    k10 ()
  else
    if x0 ≤ x2 then
      some ()
    else
      k10 ()
def f_X10_truncateText (x1 : Int) (M : Mem) : Option (Int × Mem) :=
  (f_X10_requireRange x1 0 (M 1 1) M).bind fun _ =>
  lt (upm M 1 1 x1) fun N3 =>
  some (x1, N3)
def f_X10_forgetActs  (M : Mem) : Option (Mem) :=
  lt (upm M 0 5 0) fun N2 =>
  lt (upm N2 0 6 0) fun N4 =>
  some N4
def f_X10_settle  (M : Mem) : Option (Mem) :=
  (f_X5_cutFrom 5 M).bind fun M11 =>
  (f_X6_timeFrom 5 5 M11).bind fun M32 =>
  some M32
def f_X10_load  (M : Mem) : Option (Int × Mem) :=
  (f_X3_readFrom 29 M).bind fun (r11, M11) =>
  lt (upm M11 1 1 0) fun N3 =>
  if r11 = 0 then
    some ((-1), N3)
  else
    (f_X2_clear 29 N3).bind fun M36 =>
    (f_X9_clear 29 M36).bind fun M46 =>
    (f_X7_copyFrom 5 29 M46).bind fun M57 =>
    (f_X10_forgetActs M57).bind fun M61 =>
    (f_X10_settle M61).bind fun M65 =>
    some ((M65 6 0), M65)
def f_X10_errorCode  (M : Mem) : Option (Int) :=
  some (M 1 7)
def f_X10_errorPosition  (M : Mem) : Option (Int) :=
  some (M 1 8)
def f_X10_count (x1 : Int) (M : Mem) : Option (Int) :=
  (f_X10_requireRange x1 0 13 M).bind fun _ =>
  if x1 = 0 then
    some (M 6 0)
  else if x1 = 1 then
    some (M 6 3)
  else if x1 = 2 then
    some (M 6 6)
  else if x1 = 8 then
    (f_X2_topCount 5 M).bind fun r120 =>
    some r120
  else if x1 = 9 then
    some (M 22 0)
  else if x1 = 10 then
    some (M 16 0)
  else if x1 = 11 then
    (f_X9_allSyllables 5 M).bind fun r153 =>
    some r153
  else if x1 = 12 then
    (f_X9_sentences 5 M).bind fun r164 =>
    some r164
  else if x1 = 13 then
    some (M 0 5)
  else ck (inR (x1 - 3)) <|
  (f_X3_setting 5 (x1 - 3) M).bind fun r183 =>
  some r183
def f_X10_isBanned (x1 : Int) (M : Mem) : Option (Int) :=
  (f_X3_setting 5 0 M).bind fun r15 =>
  (f_X3_allowedShots 5 r15 M).bind fun r18 =>
  if (iand (ishr r18 x1) 1) = 0 then
    some 1
  else
    some 0
def f_X10_requireIndex (x0 : Int) (x1 : Int) (M : Mem) : Option (Unit) :=
  jn (fun (_ : Unit) => (
    none : Option (Unit))) fun k9 =>
  if x0 < 0 then
    k9 ()
  else
    if x0 < x1 then
      some ()
    else
      k9 ()
def f_X10_shot (x1 : Int) (x2 : Int) (M : Mem) : Option (Int) :=
  (f_X10_requireIndex x1 (M 6 0) M).bind fun _ =>
  (f_X10_requireRange x2 0 4 M).bind fun _ =>
  if x2 = 0 then
    (f_X3_cameraOf 5 x1 M).bind fun r60 =>
    some r60
  else if x2 = 1 then
    (f_X3_lengthOf 5 x1 M).bind fun r72 =>
    some r72
  else if x2 = 2 then
    (f_X10_isBanned x1 M).bind fun r78 =>
    if r78 = 0 then
      some 0
    else
      some 1
  else if x2 = 3 then
    (f_X5_countOf 0 x1 M).bind fun r96 =>
    some r96
  else (f_X5_framesOf 0 x1 M).bind fun r106 =>
  some r106
def f_X10_shownWords_L4 (x1 : Int) (M : Mem) : Nat → Int → Int → Option (Int)
  | 0, _, _ => none
  | n4 + 1, x2, x3 =>
    if (M 64 0) ≤ x3 then
      some x2
    else
      ck ((0 : Int) ≤ x3 ∧ x3 < 60) <|
      if (M 67 x3.toNat) = x1 then
        (f_X5_shows x1 (M 65 x3.toNat) M).bind fun r42 =>
        if r42 = 0 then
          ck (inR (x3 + 1)) <|
          (f_X10_shownWords_L4 x1 M n4) x2 (x3 + 1)
        else
          ck (inR (x2 + 1)) <|
          ck (inR (x3 + 1)) <|
          (f_X10_shownWords_L4 x1 M n4) (x2 + 1) (x3 + 1)
      else
        ck (inR (x3 + 1)) <|
        (f_X10_shownWords_L4 x1 M n4) x2 (x3 + 1)
def f_X10_shownWords (x1 : Int) (M : Mem) : Option (Int) :=
  f_X10_shownWords_L4 x1 M jFuel 0 0
def f_X10_map (x1 : Int) (x2 : Int) (M : Mem) : Option (Int) :=
  (f_X10_requireIndex x1 (M 6 3) M).bind fun _ =>
  (f_X10_requireRange x2 0 3 M).bind fun _ =>
  if x2 = 0 then
    (f_X3_nameLengthOf 5 x1 M).bind fun r56 =>
    some r56
  else if x2 = 1 then
    (f_X6_countOf x1 M).bind fun r65 =>
    some r65
  else if x2 = 2 then
    (f_X5_countOf 1 x1 M).bind fun r75 =>
    some r75
  else (f_X10_shownWords x1 M).bind fun r81 =>
  some r81
def f_X10_ban (x1 : Int) (x2 : Int) (M : Mem) : Option (Int) :=
  (f_X10_requireIndex x1 (M 6 6) M).bind fun _ =>
  (f_X10_requireRange x2 0 3 M).bind fun _ =>
  if x2 = 0 then
    ck ((0 : Int) ≤ x1 ∧ x1 < 10) <|
    some (M 11 x1.toNat)
  else if x2 = 1 then
    ck ((0 : Int) ≤ x1 ∧ x1 < 10) <|
    some (M 12 x1.toNat)
  else if x2 = 2 then
    ck ((0 : Int) ≤ x1 ∧ x1 < 10) <|
    some (M 13 x1.toNat)
  else ck ((0 : Int) ≤ x1 ∧ x1 < 10) <|
  (f_X3_shotsOf 5 (M 11 x1.toNat) M).bind fun r106 =>
  some r106
def f_X10_word (x1 : Int) (x2 : Int) (M : Mem) : Option (Int) :=
  (f_X10_requireIndex x1 (M 16 0) M).bind fun _ =>
  (f_X10_requireRange x2 0 5 M).bind fun _ =>
  if x2 = 0 then
    ck ((0 : Int) ≤ x1 ∧ x1 < 60) <|
    some (M 19 x1.toNat)
  else if x2 = 1 then
    ck ((0 : Int) ≤ x1 ∧ x1 < 60) <|
    some (M 20 x1.toNat)
  else if x2 = 2 then
    ck ((0 : Int) ≤ x1 ∧ x1 < 60) <|
    some (M 65 x1.toNat)
  else if x2 = 3 then
    ck ((0 : Int) ≤ x1 ∧ x1 < 60) <|
    some (M 66 x1.toNat)
  else if x2 = 4 then
    ck ((0 : Int) ≤ x1 ∧ x1 < 60) <|
    some (M 67 x1.toNat)
  else (f_X9_sentenceOf 5 x1 M).bind fun r120 =>
  some r120
def f_X10_piece (x1 : Int) (x2 : Int) (M : Mem) : Option (Int) :=
  (f_X10_requireIndex x1 (M 56 0) M).bind fun _ =>
  (f_X10_requireRange x2 0 6 M).bind fun _ =>
  if x2 = 0 then
    ck ((0 : Int) ≤ x1 ∧ x1 < 60) <|
    some (M 57 x1.toNat)
  else if x2 = 1 then
    ck ((0 : Int) ≤ x1 ∧ x1 < 60) <|
    some (M 58 x1.toNat)
  else if x2 = 2 then
    ck ((0 : Int) ≤ x1 ∧ x1 < 60) <|
    some (M 59 x1.toNat)
  else if x2 = 3 then
    ck ((0 : Int) ≤ x1 ∧ x1 < 60) <|
    some (M 60 x1.toNat)
  else if x2 = 4 then
    ck ((0 : Int) ≤ x1 ∧ x1 < 60) <|
    some (M 61 x1.toNat)
  else if x2 = 5 then
    (f_X5_endOf x1 M).bind fun r111 =>
    some r111
  else ck ((0 : Int) ≤ x1 ∧ x1 < 60) <|
  some (M 62 x1.toNat)
def f_X10_reel (x1 : Int) (M : Mem) : Option (Int) :=
  (f_X10_requireRange x1 0 6 M).bind fun _ =>
  if x1 = 0 then
    some (M 56 0)
  else if x1 = 1 then
    some (M 56 1)
  else if x1 = 2 then
    some (M 64 1)
  else if x1 = 3 then
    ck (inR ((M 56 1) - (M 64 1))) <|
    some ((M 56 1) - (M 64 1))
  else if x1 = 4 then
    (f_X2_deepest 5 M).bind fun r95 =>
    some r95
  else if x1 = 5 then
    (f_X5_longest M).bind fun r103 =>
    some r103
  else (f_X5_allOverlaps M).bind fun r111 =>
  some r111
def f_X10_screen (x1 : Int) (M : Mem) : Option (Int) :=
  (f_X5_onScreen x1 M).bind fun r5 =>
  some r5
def f_X10_spoken (x1 : Int) (M : Mem) : Option (Int) :=
  (f_X6_wordAt x1 M).bind fun r5 =>
  some r5
def f_X10_account (x1 : Int) (M : Mem) : Option (Int) :=
  (f_X10_requireRange x1 0 6 M).bind fun _ =>
  ck ((0 : Int) ≤ x1 ∧ x1 < 7) <|
  some (M 73 x1.toNat)
def f_X10_faults (x1 : Int) (M : Mem) : Option (Int × Mem) :=
  (f_X10_requireRange x1 0 5 M).bind fun _ =>
  (f_X1_find 5 M).bind fun M22 =>
  if x1 = 0 then
    some ((M22 68 0), M22)
  else
    (f_X1_countOf x1 M22).bind fun r44 =>
    some (r44, M22)
def f_X10_fault (x1 : Int) (x2 : Int) (M : Mem) : Option (Int × Mem) :=
  (f_X1_find 5 M).bind fun M16 =>
  (f_X10_requireIndex x1 (M16 68 0) M16).bind fun _ =>
  (f_X10_requireRange x2 0 1 M16).bind fun _ =>
  if x2 = 0 then
    ck ((0 : Int) ≤ x1 ∧ x1 < 241) <|
    some ((M16 69 x1.toNat), M16)
  else
    ck ((0 : Int) ≤ x1 ∧ x1 < 241) <|
    some ((M16 70 x1.toNat), M16)
def f_X10_fits  (M : Mem) : Option (Int × Mem) :=
  (f_X1_find 5 M).bind fun M16 =>
  if (M16 68 0) = 0 then
    some (1, M16)
  else
    some (0, M16)
def f_X10_findChoice (x1 : Int) (M : Mem) : Option (Mem) :=
  (f_X3_allowedShots 5 x1 M).bind fun r19 =>
  (f_X0_find 5 r19 (M 64 1) M).bind fun M29 =>
  some M29
def f_X10_best (x1 : Int) (M : Mem) : Option (Int × Mem) :=
  (f_X10_requireRange x1 0 2 M).bind fun _ =>
  (f_X3_setting 5 0 M).bind fun r15 =>
  (f_X10_findChoice r15 M).bind fun M18 =>
  if x1 = 0 then
    some ((M18 71 0), M18)
  else if x1 = 1 then
    some ((M18 71 1), M18)
  else some ((M18 71 2), M18)
def f_X10_bestWeek_L19  : Nat → Int → Int → Int → Int → Mem → Option (Int × Mem)
  | 0, _, _, _, _, _ => none
  | n19 + 1, x1, x2, x3, x4, M =>
    if 99 < x4 then
      some (x1, M)
    else
      (f_X3_allowedShots 5 x4 M).bind fun r35 =>
      if r35 = x3 then
        ck (inR (x4 + 1)) <|
        (f_X10_bestWeek_L19 n19) x1 x2 r35 (x4 + 1) M
      else
        (f_X10_findChoice x4 M).bind fun M49 =>
        if (M49 71 0) = (-1) then
          ck (inR (x4 + 1)) <|
          (f_X10_bestWeek_L19 n19) x1 x2 r35 (x4 + 1) M49
        else
          jn (fun (_ : Unit) => (
            ck (inR (x4 + 1)) <|
            (f_X10_bestWeek_L19 n19) x4 (M49 71 1) r35 (x4 + 1) M49 : Option (Int × Mem))) fun k79 =>
          if x1 = (-1) then
            k79 ()
          else
            if x2 ≤ (M49 71 1) then
              ck (inR (x4 + 1)) <|
              (f_X10_bestWeek_L19 n19) x1 x2 r35 (x4 + 1) M49
            else
              k79 ()
def f_X10_bestWeek  (M : Mem) : Option (Int × Mem) :=
  (f_X3_setting 5 0 M).bind fun r14 =>
  f_X10_bestWeek_L19 jFuel (-1) (-1) (-1) r14 M
def f_X10_gapAtSpeed (x1 : Int) (M : Mem) : Option (Int) :=
  (f_X3_setting 5 2 M).bind fun r16 =>
  (f_X9_endAt 5 x1 r16 M).bind fun r19 =>
  ck (inR ((M 56 1) - r19)) <|
  ck (inR (-((M 56 1) - r19))) <|
  some (max ((M 56 1) - r19) (-((M 56 1) - r19)))
def f_X10_bestSpeed_L10 (M : Mem) : Nat → Int → Int → Int → Option (Int)
  | 0, _, _, _ => none
  | n10 + 1, x1, x2, x3 =>
    if 20 < x3 then
      some x1
    else
      (f_X10_gapAtSpeed x3 M).bind fun r18 =>
      if x2 ≤ r18 then
        ck (inR (x3 + 1)) <|
        (f_X10_bestSpeed_L10 M n10) x1 x2 (x3 + 1)
      else
        ck (inR (x3 + 1)) <|
        (f_X10_bestSpeed_L10 M n10) x3 r18 (x3 + 1)
def f_X10_bestSpeed  (M : Mem) : Option (Int) :=
  (f_X10_gapAtSpeed 1 M).bind fun r4 =>
  f_X10_bestSpeed_L10 M jFuel 1 r4 2
def f_X10_refuse (x1 : Int) (M : Mem) : Option (Int × Mem) :=
  if x1 < 1 then
    ck (inR (-x1)) <|
    some ((-x1), M)
  else
    if 6 < x1 then
      ck (inR (-x1)) <|
      some ((-x1), M)
    else
      ck ((0 : Int) ≤ x1 ∧ x1 < 7) <|
      ck (inR ((M 73 x1.toNat) + 1)) <|
      lt (upm M 73 x1.toNat ((M 73 x1.toNat) + 1)) fun N6 =>
      ck (inR (-x1)) <|
      some ((-x1), N6)
def f_X10_remember  (M : Mem) : Option (Mem) :=
  ck ((0 : Int) ≤ (M 0 6) ∧ (M 0 6) < 8) <|
  (f_X7_copyFrom (74 + (M 0 6).toNat * 24) 5 M).bind fun M13 =>
  jn (fun (v36 : Int) => 
    lt (upm M13 0 6 v36) fun N4 =>
    ck (inR ((M13 0 5) + 1)) <|
    lt (upm N4 0 5 (min ((M13 0 5) + 1) 8)) fun N7 =>
    ck (inR ((M13 73 (0 : Int).toNat) + 1)) <|
    lt (upm N7 73 (0 : Int).toNat ((M13 73 (0 : Int).toNat) + 1)) fun N10 =>
    some N10) fun k36 =>
  if (M13 0 6) = 7 then
    k36 0
  else
    ck (inR ((M13 0 6) + 1)) <|
    k36 ((M13 0 6) + 1)
def f_X10_edit  (M : Mem) : Option (Int × Mem) :=
  (f_X2_readFrom 29 5 M).bind fun (r18, M18) =>
  lt (upm M18 1 1 0) fun N3 =>
  if r18 = 0 then
    (f_X10_refuse 1 N3).bind fun (r36, M36) =>
    some (r36, M36)
  else
    (f_X2_pieceCount 29 N3).bind fun (r47, M47) =>
    if r47 ≤ 60 then
      (f_X10_remember M47).bind fun M62 =>
      (f_X2_copyFrom 5 29 M62).bind fun M79 =>
      (f_X10_settle M79).bind fun M83 =>
      some ((M83 56 0), M83)
    else
      (f_X10_refuse 2 M47).bind fun (r57, M57) =>
      some (r57, M57)
def f_X10_say  (M : Mem) : Option (Int × Mem) :=
  (f_X9_readFrom 29 M).bind fun (r11, M11) =>
  lt (upm M11 1 1 0) fun N3 =>
  if r11 = 0 then
    (f_X10_refuse 1 N3).bind fun (r29, M29) =>
    some (r29, M29)
  else
    (f_X10_remember N3).bind fun M34 =>
    (f_X9_copyFrom 5 29 M34).bind fun M51 =>
    (f_X10_settle M51).bind fun M55 =>
    some ((M55 16 0), M55)
def f_X10_assemble_L48  : Nat → Int → Mem → Option (Int × Mem)
  | 0, _, _ => none
  | n48 + 1, x1, M =>
    if (M 6 0) ≤ x1 then
      ck (inR ((M 22 0) - 1)) <|
      (f_X2_shorten 5 ((M 22 0) - 1) (M 71 1) M).bind fun M135 =>
      (f_X10_settle M135).bind fun M139 =>
      some ((M139 71 1), M139)
    else
      if (iand (ishr (M 71 0) x1) 1) = 0 then
        ck (inR (x1 + 1)) <|
        (f_X10_assemble_L48 n48) (x1 + 1) M
      else
        (f_X3_lengthOf 5 x1 M).bind fun r94 =>
        ck (inR (r94 - 1)) <|
        (f_X2_add 5 0 x1 0 (r94 - 1) 0 M).bind fun M100 =>
        ck (inR (x1 + 1)) <|
        (f_X10_assemble_L48 n48) (x1 + 1) M100
def f_X10_assemble  (M : Mem) : Option (Int × Mem) :=
  (f_X3_setting 5 0 M).bind fun r9 =>
  (f_X10_findChoice r9 M).bind fun M12 =>
  if (M12 71 0) = (-1) then
    (f_X10_refuse 3 M12).bind fun (r28, M28) =>
    some (r28, M28)
  else
    (f_X10_remember M12).bind fun M33 =>
    (f_X2_clear 5 M33).bind fun M43 =>
    f_X10_assemble_L48 jFuel 0 M43
def f_X10_takeDraftItems  (M : Mem) : Option (Int × Mem) :=
  (f_X10_remember M).bind fun M1 =>
  (f_X2_copyFrom 5 29 M1).bind fun M18 =>
  (f_X5_cutFrom 5 M18).bind fun M32 =>
  some ((M32 56 1), M32)
def f_X10_insert_L145 (y4 : Int) : Nat → Int → Mem → Option (Int × Mem)
  | 0, _, _ => none
  | n145 + 1, x5, M =>
    if y4 ≤ x5 then
      (f_X10_takeDraftItems M).bind fun (r178, M178) =>
      some (r178, M178)
    else
      (f_X2_addTop 29 5 x5 M).bind fun M168 =>
      ck (inR (x5 + 1)) <|
      (f_X10_insert_L145 y4 n145) (x5 + 1) M168
def f_X10_insert_L94 (x1 : Int) (x2 : Int) (x3 : Int) (y4 : Int) : Nat → Int → Mem → Option (Int × Mem)
  | 0, _, _ => none
  | n94 + 1, x5, M =>
    if x1 ≤ x5 then
      ck (inR (x3 - 1)) <|
      (f_X2_add 29 1 x2 0 (x3 - 1) 0 M).bind fun M139 =>
      f_X10_insert_L145 y4 jFuel x1 M139
    else
      (f_X2_addTop 29 5 x5 M).bind fun M116 =>
      ck (inR (x5 + 1)) <|
      (f_X10_insert_L94 x1 x2 x3 y4 n94) (x5 + 1) M116
def f_X10_insert (x1 : Int) (x2 : Int) (x3 : Int) (M : Mem) : Option (Int × Mem) :=
  (f_X2_topCount 5 M).bind fun r7 =>
  ck (inR (r7 + 1)) <|
  (f_X10_requireIndex x1 (r7 + 1) M).bind fun _ =>
  (f_X10_requireIndex x2 (M 6 3) M).bind fun _ =>
  (f_X10_requireRange x3 1 400 M).bind fun _ =>
  if (M 22 0) < 30 then
    if (M 56 0) < 60 then
      (f_X2_clear 29 M).bind fun M88 =>
      f_X10_insert_L94 x1 x2 x3 r7 jFuel 0 M88
    else
      (f_X10_refuse 2 M).bind fun (r77, M77) =>
      some (r77, M77)
  else
    (f_X10_refuse 4 M).bind fun (r59, M59) =>
    some (r59, M59)
def f_X10_trim (x1 : Int) (x2 : Int) (M : Mem) : Option (Int × Mem) :=
  (f_X2_topCount 5 M).bind fun r8 =>
  (f_X10_requireIndex x1 r8 M).bind fun _ =>
  (f_X10_requireRange x2 1 399 M).bind fun _ =>
  (f_X2_topIndex 5 x1 M).bind fun r30 =>
  (f_X2_isBlock 5 r30 M).bind fun r42 =>
  if r42 = 0 then
    (f_X2_framesOf 5 r30 M).bind fun r62 =>
    ck (inR (r62 - x2)) <|
    if 1 ≤ (r62 - x2) then
      (f_X10_remember M).bind fun M79 =>
      (f_X2_shorten 5 r30 x2 M79).bind fun M91 =>
      (f_X10_settle M91).bind fun M95 =>
      (f_X2_framesOf 5 r30 M95).bind fun r106 =>
      some (r106, M95)
    else
      (f_X10_refuse 6 M).bind fun (r74, M74) =>
      some (r74, M74)
  else
    (f_X10_refuse 5 M).bind fun (r50, M50) =>
    some (r50, M50)
def f_X10_remove_L28 (x1 : Int) (y2 : Int) : Nat → Int → Mem → Option (Int × Mem)
  | 0, _, _ => none
  | n28 + 1, x3, M =>
    if y2 ≤ x3 then
      (f_X10_takeDraftItems M).bind fun (r63, M63) =>
      some (r63, M63)
    else
      if x3 = x1 then
        ck (inR (x3 + 1)) <|
        (f_X10_remove_L28 x1 y2 n28) (x3 + 1) M
      else
        (f_X2_addTop 29 5 x3 M).bind fun M53 =>
        ck (inR (x3 + 1)) <|
        (f_X10_remove_L28 x1 y2 n28) (x3 + 1) M53
def f_X10_remove (x1 : Int) (M : Mem) : Option (Int × Mem) :=
  (f_X2_topCount 5 M).bind fun r7 =>
  (f_X10_requireIndex x1 r7 M).bind fun _ =>
  (f_X2_clear 29 M).bind fun M23 =>
  f_X10_remove_L28 x1 r7 jFuel 0 M23
def f_X10_topMovedTo (x0 : Int) (x1 : Int) (x2 : Int) (M : Mem) : Option (Int) :=
  if x0 = x2 then
    some x1
  else
    jn (fun (v19 : Int) => 
      if x1 ≤ v19 then
        ck (inR (v19 + 1)) <|
        some (v19 + 1)
      else
        some v19) fun k19 =>
    if x2 ≤ x0 then
      ck (inR (x0 - 1)) <|
      k19 (x0 - 1)
    else
      k19 x0
def f_X10_move_L34 (x1 : Int) (x2 : Int) (y3 : Int) : Nat → Int → Mem → Option (Int × Mem)
  | 0, _, _ => none
  | n34 + 1, x4, M =>
    if y3 ≤ x4 then
      (f_X10_takeDraftItems M).bind fun (r71, M71) =>
      some (r71, M71)
    else
      (f_X10_topMovedTo x4 x1 x2 M).bind fun r58 =>
      (f_X2_addTop 29 5 r58 M).bind fun M61 =>
      ck (inR (x4 + 1)) <|
      (f_X10_move_L34 x1 x2 y3 n34) (x4 + 1) M61
def f_X10_move (x1 : Int) (x2 : Int) (M : Mem) : Option (Int × Mem) :=
  (f_X2_topCount 5 M).bind fun r7 =>
  (f_X10_requireIndex x1 r7 M).bind fun _ =>
  (f_X10_requireIndex x2 r7 M).bind fun _ =>
  (f_X2_clear 29 M).bind fun M28 =>
  f_X10_move_L34 x1 x2 r7 jFuel 0 M28
def f_X10_requireSetting (x0 : Int) (x1 : Int) (M : Mem) : Option (Unit) :=
  if x0 < 0 then
    some ()
  else
    if x0 < 5 then
      ck ((0 : Int) ≤ x0 ∧ x0 < 5) <|
      (f_X10_requireRange x1 ((jTab 1).getD x0.toNat 0) ((jTab 2).getD x0.toNat 0) M).bind fun _ =>
      some ()
    else
      some ()
def f_X10_setWeek (x1 : Int) (M : Mem) : Option (Int × Mem) :=
  (f_X10_requireSetting 0 x1 M).bind fun _ =>
  (f_X10_remember M).bind fun M6 =>
  (f_X3_set 5 0 x1 M6).bind fun M18 =>
  (f_X10_settle M18).bind fun M22 =>
  (f_X3_allowedShots 5 x1 M22).bind fun r43 =>
  (f_J6_bitCount_0f7a4 r43 M22).bind fun r46 =>
  ck (inR ((M22 6 0) - r46)) <|
  some (((M22 6 0) - r46), M22)
def f_X10_setVoice (x1 : Int) (x2 : Int) (M : Mem) : Option (Int × Mem) :=
  (f_X10_requireSetting 1 x1 M).bind fun _ =>
  (f_X10_requireSetting 2 x2 M).bind fun _ =>
  (f_X10_remember M).bind fun M11 =>
  (f_X3_set 5 1 x1 M11).bind fun M23 =>
  (f_X3_set 5 2 x2 M23).bind fun M35 =>
  (f_X10_settle M35).bind fun M39 =>
  some ((M39 64 1), M39)
def f_X10_setSlack (x1 : Int) (M : Mem) : Option (Int × Mem) :=
  (f_X10_requireSetting 4 x1 M).bind fun _ =>
  (f_X3_setting 5 4 M).bind fun r13 =>
  (f_X10_remember M).bind fun M18 =>
  (f_X3_set 5 4 x1 M18).bind fun M30 =>
  (f_X10_settle M30).bind fun M34 =>
  some (r13, M34)
def f_X10_writeReel  (M : Mem) : Option (Int × Mem) :=
  (f_X4_writeItems 5 5 M).bind fun M18 =>
  some ((M18 3 1), M18)
def f_X10_writeVoice  (M : Mem) : Option (Int × Mem) :=
  (f_X4_writeWords 5 M).bind fun M11 =>
  some ((M11 3 1), M11)
def f_X10_output (x1 : Int) (M : Mem) : Option (Int) :=
  (f_X4_byteAt x1 M).bind fun r5 =>
  some r5
def f_X10_undo  (M : Mem) : Option (Int × Mem) :=
  if (M 0 5) = 0 then
    some ((-1), M)
  else
    jn (fun (v28 : Int) => 
      lt (upm M 0 6 v28) fun N2 =>
      ck (inR ((M 0 5) - 1)) <|
      lt (upm N2 0 5 ((M 0 5) - 1)) fun N5 =>
      ck ((0 : Int) ≤ v28 ∧ v28 < 8) <|
      (f_X7_copyFrom 5 (74 + v28.toNat * 24) N5).bind fun M54 =>
      (f_X10_settle M54).bind fun M58 =>
      some ((M58 0 5), M58)) fun k28 =>
    if (M 0 6) = 0 then
      k28 7
    else
      ck (inR ((M 0 6) - 1)) <|
      k28 ((M 0 6) - 1)
def f_X10_save (x1 : Int) (M : Mem) : Option (Mem) :=
  (f_X10_requireRange x1 0 1 M).bind fun _ =>
  ck ((0 : Int) ≤ x1 ∧ x1 < 2) <|
  (f_X7_copyFrom (266 + x1.toNat * 24) 5 M).bind fun M16 =>
  lt (upm M16 55 x1.toNat (bar1 1)) fun N5 =>
  some N5
def f_X10_restore (x1 : Int) (M : Mem) : Option (Mem) :=
  (f_X10_requireRange x1 0 1 M).bind fun _ =>
  ck ((0 : Int) ≤ x1 ∧ x1 < 2) <|
  if (M 55 x1.toNat) = 0 then
    none
  else
    (f_X7_copyFrom 5 (266 + x1.toNat * 24) M).bind fun M36 =>
    (f_X10_forgetActs M36).bind fun M40 =>
    (f_X10_settle M40).bind fun M44 =>
    some M44
