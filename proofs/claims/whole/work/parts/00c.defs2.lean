def xo {α : Type} (a b : Option α) : Option α := match a with
  | some q => some q
  | none => b
theorem xo_some {α : Type} {a b : Option α} {r : α} (h : xo a b = some r) : a = some r ∨ a = none ∧ b = some r := by
  cases a with
  | none => exact Or.inr ⟨rfl, h⟩
  | some q => exact Or.inl h
def f_X11_share_L29 (x1 : Int) (y2 : Int) : Nat → Int → Int → Mem → Option (UInt64 × Mem)
  | 0, _, _, _ => none
  | n29 + 1, x3, x4, M =>
    if y2 ≤ x4 then
      if y2 = 0 then
        some (FP.dconst0, M)
      else
        ck ((FP.ddiv (FP.i2d (jI x3)) (FP.i2d (jI y2))) &&& 0x7fffffffffffffff ≤ 0x7ff0000000000000) <|
        some ((FP.ddiv (FP.i2d (jI x3)) (FP.i2d (jI y2))), M)
    else
      (f_X11_isBy x1 x4 M).bind fun r40 =>
      (f_X11_bit r40 M).bind fun r43 =>
      ck (inR (x3 + r43)) <|
      ck (inR (x4 + 1)) <|
      (f_X11_share_L29 x1 y2 n29) (x3 + r43) (x4 + 1) M
def f_X11_share (x1 : Int) (M : Mem) : Option (UInt64 × Mem) :=
  (f_X11_isIn x1 0 5 M).bind fun r4 =>
  (f_X11_goes r4 M).bind fun (r7, M7) =>
  if r7 = 0 then
    some (FP.dconst0, M7)
  else
    (f_X11_laysPieces M7).bind fun M16 =>
    (f_X11_theEnd M16).bind fun r20 =>
    f_X11_share_L29 x1 r20 jFuel 0 0 M16
def f_X11_pace  (M : Mem) : Option (UInt32 × Mem) :=
  lt (upm M 0 7 0) fun N2 =>
  if (M 1 (9 : Int).toNat) = 0 then
    some (FP.fconst0, N2)
  else
    (f_X11_allSyllables N2).bind fun r20 =>
    ck ((FP.fdiv (FP.i2f (jI r20)) (FP.i2f (jI (M 1 (9 : Int).toNat)))) &&& 0x7fffffff ≤ 0x7f800000) <|
    some ((FP.fdiv (FP.i2f (jI r20)) (FP.i2f (jI (M 1 (9 : Int).toNat)))), N2)
def f_X10_share_L22 (x1 : Int) (M : Mem) : Nat → Int → Int → Option (UInt64)
  | 0, _, _ => none
  | n22 + 1, x2, x3 =>
    if (M 56 0) ≤ x3 then
      ck ((FP.ddiv (FP.i2d (jI x2)) (FP.i2d (jI (M 56 1)))) &&& 0x7fffffffffffffff ≤ 0x7ff0000000000000) <|
      some (FP.ddiv (FP.i2d (jI x2)) (FP.i2d (jI (M 56 1))))
    else
      (f_X5_cameraOf x3 5 M).bind fun r45 =>
      if r45 = x1 then
        (f_X5_framesOnScreen x3 M).bind fun r58 =>
        ck (inR (x2 + r58)) <|
        ck (inR (x3 + 1)) <|
        (f_X10_share_L22 x1 M n22) (x2 + r58) (x3 + 1)
      else
        ck (inR (x3 + 1)) <|
        (f_X10_share_L22 x1 M n22) x2 (x3 + 1)
def f_X10_share (x1 : Int) (M : Mem) : Option (UInt64) :=
  (f_X10_requireIndex x1 6 M).bind fun _ =>
  if (M 56 1) = 0 then
    some FP.dconst0
  else
    f_X10_share_L22 x1 M jFuel 0 0
def f_X10_pace  (M : Mem) : Option (UInt32) :=
  if (M 16 0) = 0 then
    some FP.fconst0
  else
    (f_X9_allSyllables 5 M).bind fun r22 =>
    ck ((FP.fdiv (FP.i2f (jI r22)) (FP.i2f (jI (M 16 0)))) &&& 0x7fffffff ≤ 0x7f800000) <|
    some (FP.fdiv (FP.i2f (jI r22)) (FP.i2f (jI (M 16 0))))
def x_X10_requireIndex (x0 : Int) (x1 : Int) (M : Mem) : Option (Nat × Mem) :=
  jn (fun (_ : Unit) => (
    some (1, M) : Option (Nat × Mem))) fun k9 =>
  if x0 < 0 then
    k9 ()
  else
    if x0 < x1 then
      none
    else
      k9 ()
def x_X10_requireRange (x0 : Int) (x1 : Int) (x2 : Int) (M : Mem) : Option (Nat × Mem) :=
  jn (fun (_ : Unit) => (
    some (2, M) : Option (Nat × Mem))) fun k10 =>
  if x0 < x1 then
    k10 ()
  else
    if x0 ≤ x2 then
      none
    else
      k10 ()
def x_X10_requireSetting (x0 : Int) (x1 : Int) (M : Mem) : Option (Nat × Mem) :=
  if x0 < 0 then
    none
  else
    if x0 < 5 then
      ck ((0 : Int) ≤ x0 ∧ x0 < 5) <|
      xo (x_X10_requireRange x1 ((jTab 1).getD x0.toNat 0) ((jTab 2).getD x0.toNat 0) M) <|
      (f_X10_requireRange x1 ((jTab 1).getD x0.toNat 0) ((jTab 2).getD x0.toNat 0) M).bind fun _ =>
      none
    else
      none
def x_X10_appendText (x1 : Int) (M : Mem) : Option (Nat × Mem) :=
  if (M 1 1) ≤ 496 then
    none
  else
    some (3, M)
def x_X10_truncateText (x1 : Int) (M : Mem) : Option (Nat × Mem) :=
  xo (x_X10_requireRange x1 0 (M 1 1) M) <|
  (f_X10_requireRange x1 0 (M 1 1) M).bind fun _ =>
  none
def x_X10_count (x1 : Int) (M : Mem) : Option (Nat × Mem) :=
  xo (x_X10_requireRange x1 0 13 M) <|
  (f_X10_requireRange x1 0 13 M).bind fun _ =>
  none
def x_X10_shot (x1 : Int) (x2 : Int) (M : Mem) : Option (Nat × Mem) :=
  xo (x_X10_requireIndex x1 (M 6 0) M) <|
  (f_X10_requireIndex x1 (M 6 0) M).bind fun _ =>
  xo (x_X10_requireRange x2 0 4 M) <|
  (f_X10_requireRange x2 0 4 M).bind fun _ =>
  none
def x_X10_map (x1 : Int) (x2 : Int) (M : Mem) : Option (Nat × Mem) :=
  xo (x_X10_requireIndex x1 (M 6 3) M) <|
  (f_X10_requireIndex x1 (M 6 3) M).bind fun _ =>
  xo (x_X10_requireRange x2 0 3 M) <|
  (f_X10_requireRange x2 0 3 M).bind fun _ =>
  none
def x_X10_ban (x1 : Int) (x2 : Int) (M : Mem) : Option (Nat × Mem) :=
  xo (x_X10_requireIndex x1 (M 6 6) M) <|
  (f_X10_requireIndex x1 (M 6 6) M).bind fun _ =>
  xo (x_X10_requireRange x2 0 3 M) <|
  (f_X10_requireRange x2 0 3 M).bind fun _ =>
  none
def x_X10_word (x1 : Int) (x2 : Int) (M : Mem) : Option (Nat × Mem) :=
  xo (x_X10_requireIndex x1 (M 16 0) M) <|
  (f_X10_requireIndex x1 (M 16 0) M).bind fun _ =>
  xo (x_X10_requireRange x2 0 5 M) <|
  (f_X10_requireRange x2 0 5 M).bind fun _ =>
  none
def x_X10_piece (x1 : Int) (x2 : Int) (M : Mem) : Option (Nat × Mem) :=
  xo (x_X10_requireIndex x1 (M 56 0) M) <|
  (f_X10_requireIndex x1 (M 56 0) M).bind fun _ =>
  xo (x_X10_requireRange x2 0 6 M) <|
  (f_X10_requireRange x2 0 6 M).bind fun _ =>
  none
def x_X10_reel (x1 : Int) (M : Mem) : Option (Nat × Mem) :=
  xo (x_X10_requireRange x1 0 6 M) <|
  (f_X10_requireRange x1 0 6 M).bind fun _ =>
  none
def x_X10_account (x1 : Int) (M : Mem) : Option (Nat × Mem) :=
  xo (x_X10_requireRange x1 0 6 M) <|
  (f_X10_requireRange x1 0 6 M).bind fun _ =>
  none
def x_X10_faults (x1 : Int) (M : Mem) : Option (Nat × Mem) :=
  xo (x_X10_requireRange x1 0 5 M) <|
  (f_X10_requireRange x1 0 5 M).bind fun _ =>
  none
def x_X10_fault (x1 : Int) (x2 : Int) (M : Mem) : Option (Nat × Mem) :=
  (f_X1_find 5 M).bind fun M16 =>
  xo (x_X10_requireIndex x1 (M16 68 0) M16) <|
  (f_X10_requireIndex x1 (M16 68 0) M16).bind fun _ =>
  xo (x_X10_requireRange x2 0 1 M16) <|
  (f_X10_requireRange x2 0 1 M16).bind fun _ =>
  none
def x_X10_share (x1 : Int) (M : Mem) : Option (Nat × Mem) :=
  xo (x_X10_requireIndex x1 6 M) <|
  (f_X10_requireIndex x1 6 M).bind fun _ =>
  none
def x_X10_best (x1 : Int) (M : Mem) : Option (Nat × Mem) :=
  xo (x_X10_requireRange x1 0 2 M) <|
  (f_X10_requireRange x1 0 2 M).bind fun _ =>
  none
def x_X10_insert (x1 : Int) (x2 : Int) (x3 : Int) (M : Mem) : Option (Nat × Mem) :=
  (f_X2_topCount 5 M).bind fun r7 =>
  ck (inR (r7 + 1)) <|
  xo (x_X10_requireIndex x1 (r7 + 1) M) <|
  (f_X10_requireIndex x1 (r7 + 1) M).bind fun _ =>
  xo (x_X10_requireIndex x2 (M 6 3) M) <|
  (f_X10_requireIndex x2 (M 6 3) M).bind fun _ =>
  xo (x_X10_requireRange x3 1 400 M) <|
  (f_X10_requireRange x3 1 400 M).bind fun _ =>
  none
def x_X10_trim (x1 : Int) (x2 : Int) (M : Mem) : Option (Nat × Mem) :=
  (f_X2_topCount 5 M).bind fun r8 =>
  xo (x_X10_requireIndex x1 r8 M) <|
  (f_X10_requireIndex x1 r8 M).bind fun _ =>
  xo (x_X10_requireRange x2 1 399 M) <|
  (f_X10_requireRange x2 1 399 M).bind fun _ =>
  none
def x_X10_remove (x1 : Int) (M : Mem) : Option (Nat × Mem) :=
  (f_X2_topCount 5 M).bind fun r7 =>
  xo (x_X10_requireIndex x1 r7 M) <|
  (f_X10_requireIndex x1 r7 M).bind fun _ =>
  none
def x_X10_move (x1 : Int) (x2 : Int) (M : Mem) : Option (Nat × Mem) :=
  (f_X2_topCount 5 M).bind fun r7 =>
  xo (x_X10_requireIndex x1 r7 M) <|
  (f_X10_requireIndex x1 r7 M).bind fun _ =>
  xo (x_X10_requireIndex x2 r7 M) <|
  (f_X10_requireIndex x2 r7 M).bind fun _ =>
  none
def x_X10_setWeek (x1 : Int) (M : Mem) : Option (Nat × Mem) :=
  xo (x_X10_requireSetting 0 x1 M) <|
  (f_X10_requireSetting 0 x1 M).bind fun _ =>
  none
def x_X10_setVoice (x1 : Int) (x2 : Int) (M : Mem) : Option (Nat × Mem) :=
  xo (x_X10_requireSetting 1 x1 M) <|
  (f_X10_requireSetting 1 x1 M).bind fun _ =>
  xo (x_X10_requireSetting 2 x2 M) <|
  (f_X10_requireSetting 2 x2 M).bind fun _ =>
  none
def x_X10_setSlack (x1 : Int) (M : Mem) : Option (Nat × Mem) :=
  xo (x_X10_requireSetting 4 x1 M) <|
  (f_X10_requireSetting 4 x1 M).bind fun _ =>
  none
def x_X10_save (x1 : Int) (M : Mem) : Option (Nat × Mem) :=
  xo (x_X10_requireRange x1 0 1 M) <|
  (f_X10_requireRange x1 0 1 M).bind fun _ =>
  none
def x_X10_restore (x1 : Int) (M : Mem) : Option (Nat × Mem) :=
  xo (x_X10_requireRange x1 0 1 M) <|
  (f_X10_requireRange x1 0 1 M).bind fun _ =>
  ck ((0 : Int) ≤ x1 ∧ x1 < 2) <|
  if (M 55 x1.toNat) = 0 then
    some (3, M)
  else
    none
