def tI (k : Nat) : Int := match k with
  | 1 => 4
  | 2 => 10
  | 3 => 8
  | _ => 0
def im_X8_init (j k : Nat) : Int := match j, k with
  | 0, 8 => (-1)
  | _, _ => 0
def im_X4_init (j k : Nat) : Int := match j, k with
  | _, _ => 0
def im_X9_init (j k : Nat) : Int := match j, k with
  | _, _ => 0
def im_X2_init (j k : Nat) : Int := match j, k with
  | _, _ => 0
def im_X5_init (j k : Nat) : Int := match j, k with
  | _, _ => 0
def im_X6_init (j k : Nat) : Int := match j, k with
  | _, _ => 0
def im_X1_init (j k : Nat) : Int := match j, k with
  | _, _ => 0
def im_X0_init (j k : Nat) : Int := match j, k with
  | 0, 0 => (-1)
  | 0, 1 => (-1)
  | 0, 2 => (-1)
  | _, _ => 0
def im_X3_init (j k : Nat) : Int := match j, k with
  | 8, k => tI k
  | _, _ => 0
def im_X7_init (j k : Nat) : Int := match j, k with
  | 9, k => tI k
  | _, _ => 0
def im_C (j k : Nat) : Int := if j < 74 then (match j with
  | 1 => im_X8_init 0 k
  | 14 => tI k
  | 38 => tI k
  | 71 => im_X0_init 0 k
  | _ => 0) else im_X7_init ((j - 74) % 24) k
def im_R (j k : Nat) : Int := match j, k with
  | 0, 37 => (-1)
  | _, _ => 0
def M0R : Mem := fun j k => im_R j k
def st_appendText (p0 : Int) (Mc Mr Mc' Mr' : Mem) : Prop := (∃ r : Int, f_X10_appendText p0 Mc = some (r, Mc') ∧ f_X11_appendText p0 Mr = some (r, Mr') ∧ Mr' 0 7 = 0) ∨ (x_X10_appendText p0 Mc = some (3, Mc') ∧ ∃ r : Int, f_X11_appendText p0 Mr = some (r, Mr') ∧ Mr' 0 7 = 1)
def st_truncateText (p0 : Int) (Mc Mr Mc' Mr' : Mem) : Prop := (∃ r : Int, f_X10_truncateText p0 Mc = some (r, Mc') ∧ f_X11_truncateText p0 Mr = some (r, Mr') ∧ Mr' 0 7 = 0) ∨ (x_X10_truncateText p0 Mc = some (2, Mc') ∧ ∃ r : Int, f_X11_truncateText p0 Mr = some (r, Mr') ∧ Mr' 0 7 = 1)
def st_load (Mc Mr Mc' Mr' : Mem) : Prop := ∃ r : Int, f_X10_load Mc = some (r, Mc') ∧ f_X11_load Mr = some (r, Mr')
def st_errorCode (Mc Mr Mc' Mr' : Mem) : Prop := ∃ r : Int, f_X10_errorCode Mc = some r ∧ Mc' = Mc ∧ f_X11_errorCode Mr = some (r, Mr')
def st_errorPosition (Mc Mr Mc' Mr' : Mem) : Prop := ∃ r : Int, f_X10_errorPosition Mc = some r ∧ Mc' = Mc ∧ f_X11_errorPosition Mr = some (r, Mr')
def st_count (p0 : Int) (Mc Mr Mc' Mr' : Mem) : Prop := (∃ r : Int, f_X10_count p0 Mc = some r ∧ Mc' = Mc ∧ f_X11_count p0 Mr = some (r, Mr') ∧ Mr' 0 7 = 0) ∨ (x_X10_count p0 Mc = some (2, Mc') ∧ ∃ r : Int, f_X11_count p0 Mr = some (r, Mr') ∧ Mr' 0 7 = 1)
def st_shot (p0 : Int) (p1 : Int) (Mc Mr Mc' Mr' : Mem) : Prop := (∃ r : Int, f_X10_shot p0 p1 Mc = some r ∧ Mc' = Mc ∧ f_X11_shot p0 p1 Mr = some (r, Mr') ∧ Mr' 0 7 = 0) ∨ (x_X10_shot p0 p1 Mc = some (1, Mc') ∧ ∃ r : Int, f_X11_shot p0 p1 Mr = some (r, Mr') ∧ Mr' 0 7 = 1) ∨ (x_X10_shot p0 p1 Mc = some (2, Mc') ∧ ∃ r : Int, f_X11_shot p0 p1 Mr = some (r, Mr') ∧ Mr' 0 7 = 2)
def st_map (p0 : Int) (p1 : Int) (Mc Mr Mc' Mr' : Mem) : Prop := (∃ r : Int, f_X10_map p0 p1 Mc = some r ∧ Mc' = Mc ∧ f_X11_map p0 p1 Mr = some (r, Mr') ∧ Mr' 0 7 = 0) ∨ (x_X10_map p0 p1 Mc = some (1, Mc') ∧ ∃ r : Int, f_X11_map p0 p1 Mr = some (r, Mr') ∧ Mr' 0 7 = 1) ∨ (x_X10_map p0 p1 Mc = some (2, Mc') ∧ ∃ r : Int, f_X11_map p0 p1 Mr = some (r, Mr') ∧ Mr' 0 7 = 2)
def st_ban (p0 : Int) (p1 : Int) (Mc Mr Mc' Mr' : Mem) : Prop := (∃ r : Int, f_X10_ban p0 p1 Mc = some r ∧ Mc' = Mc ∧ f_X11_ban p0 p1 Mr = some (r, Mr') ∧ Mr' 0 7 = 0) ∨ (x_X10_ban p0 p1 Mc = some (1, Mc') ∧ ∃ r : Int, f_X11_ban p0 p1 Mr = some (r, Mr') ∧ Mr' 0 7 = 1) ∨ (x_X10_ban p0 p1 Mc = some (2, Mc') ∧ ∃ r : Int, f_X11_ban p0 p1 Mr = some (r, Mr') ∧ Mr' 0 7 = 2)
def st_word (p0 : Int) (p1 : Int) (Mc Mr Mc' Mr' : Mem) : Prop := (∃ r : Int, f_X10_word p0 p1 Mc = some r ∧ Mc' = Mc ∧ f_X11_word p0 p1 Mr = some (r, Mr') ∧ Mr' 0 7 = 0) ∨ (x_X10_word p0 p1 Mc = some (1, Mc') ∧ ∃ r : Int, f_X11_word p0 p1 Mr = some (r, Mr') ∧ Mr' 0 7 = 1) ∨ (x_X10_word p0 p1 Mc = some (2, Mc') ∧ ∃ r : Int, f_X11_word p0 p1 Mr = some (r, Mr') ∧ Mr' 0 7 = 2)
def st_piece (p0 : Int) (p1 : Int) (Mc Mr Mc' Mr' : Mem) : Prop := (∃ r : Int, f_X10_piece p0 p1 Mc = some r ∧ Mc' = Mc ∧ f_X11_piece p0 p1 Mr = some (r, Mr') ∧ Mr' 0 7 = 0) ∨ (x_X10_piece p0 p1 Mc = some (1, Mc') ∧ ∃ r : Int, f_X11_piece p0 p1 Mr = some (r, Mr') ∧ Mr' 0 7 = 1) ∨ (x_X10_piece p0 p1 Mc = some (2, Mc') ∧ ∃ r : Int, f_X11_piece p0 p1 Mr = some (r, Mr') ∧ Mr' 0 7 = 2)
def st_reel (p0 : Int) (Mc Mr Mc' Mr' : Mem) : Prop := (∃ r : Int, f_X10_reel p0 Mc = some r ∧ Mc' = Mc ∧ f_X11_reel p0 Mr = some (r, Mr') ∧ Mr' 0 7 = 0) ∨ (x_X10_reel p0 Mc = some (2, Mc') ∧ ∃ r : Int, f_X11_reel p0 Mr = some (r, Mr') ∧ Mr' 0 7 = 1)
def st_screen (p0 : Int) (Mc Mr Mc' Mr' : Mem) : Prop := ∃ r : Int, f_X10_screen p0 Mc = some r ∧ Mc' = Mc ∧ f_X11_screen p0 Mr = some (r, Mr')
def st_spoken (p0 : Int) (Mc Mr Mc' Mr' : Mem) : Prop := ∃ r : Int, f_X10_spoken p0 Mc = some r ∧ Mc' = Mc ∧ f_X11_spoken p0 Mr = some (r, Mr')
def st_account (p0 : Int) (Mc Mr Mc' Mr' : Mem) : Prop := (∃ r : Int, f_X10_account p0 Mc = some r ∧ Mc' = Mc ∧ f_X11_account p0 Mr = some (r, Mr') ∧ Mr' 0 7 = 0) ∨ (x_X10_account p0 Mc = some (2, Mc') ∧ ∃ r : Int, f_X11_account p0 Mr = some (r, Mr') ∧ Mr' 0 7 = 1)
def st_faults (p0 : Int) (Mc Mr Mc' Mr' : Mem) : Prop := (∃ r : Int, f_X10_faults p0 Mc = some (r, Mc') ∧ f_X11_faults p0 Mr = some (r, Mr') ∧ Mr' 0 7 = 0) ∨ (x_X10_faults p0 Mc = some (2, Mc') ∧ ∃ r : Int, f_X11_faults p0 Mr = some (r, Mr') ∧ Mr' 0 7 = 1)
def st_fault (p0 : Int) (p1 : Int) (Mc Mr Mc' Mr' : Mem) : Prop := (∃ r : Int, f_X10_fault p0 p1 Mc = some (r, Mc') ∧ f_X11_fault p0 p1 Mr = some (r, Mr') ∧ Mr' 0 7 = 0) ∨ (x_X10_fault p0 p1 Mc = some (1, Mc') ∧ ∃ r : Int, f_X11_fault p0 p1 Mr = some (r, Mr') ∧ Mr' 0 7 = 1) ∨ (x_X10_fault p0 p1 Mc = some (2, Mc') ∧ ∃ r : Int, f_X11_fault p0 p1 Mr = some (r, Mr') ∧ Mr' 0 7 = 2)
def st_fits (Mc Mr Mc' Mr' : Mem) : Prop := ∃ r : Int, f_X10_fits Mc = some (r, Mc') ∧ f_X11_fits Mr = some (r, Mr')
def st_share (p0 : Int) (Mc Mr Mc' Mr' : Mem) : Prop := (∃ r : UInt64, f_X10_share p0 Mc = some r ∧ Mc' = Mc ∧ f_X11_share p0 Mr = some (r, Mr') ∧ Mr' 0 7 = 0) ∨ (x_X10_share p0 Mc = some (1, Mc') ∧ ∃ r : UInt64, f_X11_share p0 Mr = some (r, Mr') ∧ Mr' 0 7 = 1)
def st_pace (Mc Mr Mc' Mr' : Mem) : Prop := ∃ r : UInt32, f_X10_pace Mc = some r ∧ Mc' = Mc ∧ f_X11_pace Mr = some (r, Mr') ∧ vf_n64 (FP.f2d r)
def st_best (p0 : Int) (Mc Mr Mc' Mr' : Mem) : Prop := (∃ r : Int, f_X10_best p0 Mc = some (r, Mc') ∧ f_X11_best p0 Mr = some (r, Mr') ∧ Mr' 0 7 = 0) ∨ (x_X10_best p0 Mc = some (2, Mc') ∧ ∃ r : Int, f_X11_best p0 Mr = some (r, Mr') ∧ Mr' 0 7 = 1)
def st_bestWeek (Mc Mr Mc' Mr' : Mem) : Prop := ∃ r : Int, f_X10_bestWeek Mc = some (r, Mc') ∧ f_X11_bestWeek Mr = some (r, Mr')
def st_bestSpeed (Mc Mr Mc' Mr' : Mem) : Prop := ∃ r : Int, f_X10_bestSpeed Mc = some r ∧ Mc' = Mc ∧ f_X11_bestSpeed Mr = some (r, Mr')
def st_edit (Mc Mr Mc' Mr' : Mem) : Prop := ∃ r : Int, f_X10_edit Mc = some (r, Mc') ∧ f_X11_edit Mr = some (r, Mr')
def st_say (Mc Mr Mc' Mr' : Mem) : Prop := ∃ r : Int, f_X10_say Mc = some (r, Mc') ∧ f_X11_say Mr = some (r, Mr')
def st_assemble (Mc Mr Mc' Mr' : Mem) : Prop := ∃ r : Int, f_X10_assemble Mc = some (r, Mc') ∧ f_X11_assemble Mr = some (r, Mr')
def st_insert (p0 : Int) (p1 : Int) (p2 : Int) (Mc Mr Mc' Mr' : Mem) : Prop := (∃ r : Int, f_X10_insert p0 p1 p2 Mc = some (r, Mc') ∧ f_X11_insert p0 p1 p2 Mr = some (r, Mr') ∧ Mr' 0 7 = 0) ∨ (x_X10_insert p0 p1 p2 Mc = some (1, Mc') ∧ ∃ r : Int, f_X11_insert p0 p1 p2 Mr = some (r, Mr') ∧ Mr' 0 7 = 1) ∨ (x_X10_insert p0 p1 p2 Mc = some (2, Mc') ∧ ∃ r : Int, f_X11_insert p0 p1 p2 Mr = some (r, Mr') ∧ Mr' 0 7 = 2)
def st_trim (p0 : Int) (p1 : Int) (Mc Mr Mc' Mr' : Mem) : Prop := (∃ r : Int, f_X10_trim p0 p1 Mc = some (r, Mc') ∧ f_X11_trim p0 p1 Mr = some (r, Mr') ∧ Mr' 0 7 = 0) ∨ (x_X10_trim p0 p1 Mc = some (1, Mc') ∧ ∃ r : Int, f_X11_trim p0 p1 Mr = some (r, Mr') ∧ Mr' 0 7 = 1) ∨ (x_X10_trim p0 p1 Mc = some (2, Mc') ∧ ∃ r : Int, f_X11_trim p0 p1 Mr = some (r, Mr') ∧ Mr' 0 7 = 2)
def st_remove (p0 : Int) (Mc Mr Mc' Mr' : Mem) : Prop := (∃ r : Int, f_X10_remove p0 Mc = some (r, Mc') ∧ f_X11_remove p0 Mr = some (r, Mr') ∧ Mr' 0 7 = 0) ∨ (x_X10_remove p0 Mc = some (1, Mc') ∧ ∃ r : Int, f_X11_remove p0 Mr = some (r, Mr') ∧ Mr' 0 7 = 1)
def st_move (p0 : Int) (p1 : Int) (Mc Mr Mc' Mr' : Mem) : Prop := (∃ r : Int, f_X10_move p0 p1 Mc = some (r, Mc') ∧ f_X11_move p0 p1 Mr = some (r, Mr') ∧ Mr' 0 7 = 0) ∨ (x_X10_move p0 p1 Mc = some (1, Mc') ∧ ∃ r : Int, f_X11_move p0 p1 Mr = some (r, Mr') ∧ Mr' 0 7 = 1)
def st_setWeek (p0 : Int) (Mc Mr Mc' Mr' : Mem) : Prop := (∃ r : Int, f_X10_setWeek p0 Mc = some (r, Mc') ∧ f_X11_setWeek p0 Mr = some (r, Mr') ∧ Mr' 0 7 = 0) ∨ (x_X10_setWeek p0 Mc = some (2, Mc') ∧ ∃ r : Int, f_X11_setWeek p0 Mr = some (r, Mr') ∧ Mr' 0 7 = 1)
def st_setVoice (p0 : Int) (p1 : Int) (Mc Mr Mc' Mr' : Mem) : Prop := (∃ r : Int, f_X10_setVoice p0 p1 Mc = some (r, Mc') ∧ f_X11_setVoice p0 p1 Mr = some (r, Mr') ∧ Mr' 0 7 = 0) ∨ (x_X10_setVoice p0 p1 Mc = some (2, Mc') ∧ ∃ r : Int, f_X11_setVoice p0 p1 Mr = some (r, Mr') ∧ Mr' 0 7 = 1)
def st_setSlack (p0 : Int) (Mc Mr Mc' Mr' : Mem) : Prop := (∃ r : Int, f_X10_setSlack p0 Mc = some (r, Mc') ∧ f_X11_setSlack p0 Mr = some (r, Mr') ∧ Mr' 0 7 = 0) ∨ (x_X10_setSlack p0 Mc = some (2, Mc') ∧ ∃ r : Int, f_X11_setSlack p0 Mr = some (r, Mr') ∧ Mr' 0 7 = 1)
def st_writeReel (Mc Mr Mc' Mr' : Mem) : Prop := ∃ r : Int, f_X10_writeReel Mc = some (r, Mc') ∧ f_X11_writeReel Mr = some (r, Mr')
def st_writeVoice (Mc Mr Mc' Mr' : Mem) : Prop := ∃ r : Int, f_X10_writeVoice Mc = some (r, Mc') ∧ f_X11_writeVoice Mr = some (r, Mr')
def st_output (p0 : Int) (Mc Mr Mc' Mr' : Mem) : Prop := ∃ r : Int, f_X10_output p0 Mc = some r ∧ Mc' = Mc ∧ f_X11_output p0 Mr = some (r, Mr')
def st_undo (Mc Mr Mc' Mr' : Mem) : Prop := ∃ r : Int, f_X10_undo Mc = some (r, Mc') ∧ f_X11_undo Mr = some (r, Mr')
def st_save (p0 : Int) (Mc Mr Mc' Mr' : Mem) : Prop := (f_X10_save p0 Mc = some Mc' ∧ f_X11_save p0 Mr = some Mr' ∧ Mr' 0 7 = 0) ∨ (x_X10_save p0 Mc = some (2, Mc') ∧ f_X11_save p0 Mr = some Mr' ∧ Mr' 0 7 = 1)
def st_restore (p0 : Int) (Mc Mr Mc' Mr' : Mem) : Prop := (f_X10_restore p0 Mc = some Mc' ∧ f_X11_restore p0 Mr = some Mr' ∧ Mr' 0 7 = 0) ∨ (x_X10_restore p0 Mc = some (2, Mc') ∧ f_X11_restore p0 Mr = some Mr' ∧ Mr' 0 7 = 1) ∨ (x_X10_restore p0 Mc = some (3, Mc') ∧ f_X11_restore p0 Mr = some Mr' ∧ Mr' 0 7 = 2)
/-- one call of both, for every call of the law (k calls before it): they answer alike, and what ties them stays -/
def PureOK (Rel : Nat → Mem → Mem → Prop) : Prop := (∀ (k : Nat) (Mc Mr : Mem), Rel k Mc Mr → Rel (k + 1) Mc Mr) ∧ ∀ (k : Nat) (Mc Mr : Mem), k < 512 → Rel k Mc Mr → Mok LyC Mc → Mok LyR Mr → ∀ p0 p1 p2 : Int, inR p0 → inR p1 → inR p2 →
  (∃ Mc' Mr' : Mem, st_appendText p0 Mc Mr Mc' Mr' ∧ Rel (k + 1) Mc' Mr') ∧
  (∃ Mc' Mr' : Mem, st_truncateText p0 Mc Mr Mc' Mr' ∧ Rel (k + 1) Mc' Mr') ∧
  (∃ Mc' Mr' : Mem, st_load Mc Mr Mc' Mr' ∧ Rel (k + 1) Mc' Mr') ∧
  (∃ Mc' Mr' : Mem, st_errorCode Mc Mr Mc' Mr' ∧ Rel (k + 1) Mc' Mr') ∧
  (∃ Mc' Mr' : Mem, st_errorPosition Mc Mr Mc' Mr' ∧ Rel (k + 1) Mc' Mr') ∧
  (∃ Mc' Mr' : Mem, st_count p0 Mc Mr Mc' Mr' ∧ Rel (k + 1) Mc' Mr') ∧
  (∃ Mc' Mr' : Mem, st_shot p0 p1 Mc Mr Mc' Mr' ∧ Rel (k + 1) Mc' Mr') ∧
  (∃ Mc' Mr' : Mem, st_map p0 p1 Mc Mr Mc' Mr' ∧ Rel (k + 1) Mc' Mr') ∧
  (∃ Mc' Mr' : Mem, st_ban p0 p1 Mc Mr Mc' Mr' ∧ Rel (k + 1) Mc' Mr') ∧
  (∃ Mc' Mr' : Mem, st_word p0 p1 Mc Mr Mc' Mr' ∧ Rel (k + 1) Mc' Mr') ∧
  (∃ Mc' Mr' : Mem, st_piece p0 p1 Mc Mr Mc' Mr' ∧ Rel (k + 1) Mc' Mr') ∧
  (∃ Mc' Mr' : Mem, st_reel p0 Mc Mr Mc' Mr' ∧ Rel (k + 1) Mc' Mr') ∧
  (∃ Mc' Mr' : Mem, st_screen p0 Mc Mr Mc' Mr' ∧ Rel (k + 1) Mc' Mr') ∧
  (∃ Mc' Mr' : Mem, st_spoken p0 Mc Mr Mc' Mr' ∧ Rel (k + 1) Mc' Mr') ∧
  (∃ Mc' Mr' : Mem, st_account p0 Mc Mr Mc' Mr' ∧ Rel (k + 1) Mc' Mr') ∧
  (∃ Mc' Mr' : Mem, st_faults p0 Mc Mr Mc' Mr' ∧ Rel (k + 1) Mc' Mr') ∧
  (∃ Mc' Mr' : Mem, st_fault p0 p1 Mc Mr Mc' Mr' ∧ Rel (k + 1) Mc' Mr') ∧
  (∃ Mc' Mr' : Mem, st_fits Mc Mr Mc' Mr' ∧ Rel (k + 1) Mc' Mr') ∧
  (∃ Mc' Mr' : Mem, st_share p0 Mc Mr Mc' Mr' ∧ Rel (k + 1) Mc' Mr') ∧
  (∃ Mc' Mr' : Mem, st_pace Mc Mr Mc' Mr' ∧ Rel (k + 1) Mc' Mr') ∧
  (∃ Mc' Mr' : Mem, st_best p0 Mc Mr Mc' Mr' ∧ Rel (k + 1) Mc' Mr') ∧
  (∃ Mc' Mr' : Mem, st_bestWeek Mc Mr Mc' Mr' ∧ Rel (k + 1) Mc' Mr') ∧
  (∃ Mc' Mr' : Mem, st_bestSpeed Mc Mr Mc' Mr' ∧ Rel (k + 1) Mc' Mr') ∧
  (∃ Mc' Mr' : Mem, st_edit Mc Mr Mc' Mr' ∧ Rel (k + 1) Mc' Mr') ∧
  (∃ Mc' Mr' : Mem, st_say Mc Mr Mc' Mr' ∧ Rel (k + 1) Mc' Mr') ∧
  (∃ Mc' Mr' : Mem, st_assemble Mc Mr Mc' Mr' ∧ Rel (k + 1) Mc' Mr') ∧
  (∃ Mc' Mr' : Mem, st_insert p0 p1 p2 Mc Mr Mc' Mr' ∧ Rel (k + 1) Mc' Mr') ∧
  (∃ Mc' Mr' : Mem, st_trim p0 p1 Mc Mr Mc' Mr' ∧ Rel (k + 1) Mc' Mr') ∧
  (∃ Mc' Mr' : Mem, st_remove p0 Mc Mr Mc' Mr' ∧ Rel (k + 1) Mc' Mr') ∧
  (∃ Mc' Mr' : Mem, st_move p0 p1 Mc Mr Mc' Mr' ∧ Rel (k + 1) Mc' Mr') ∧
  (∃ Mc' Mr' : Mem, st_setWeek p0 Mc Mr Mc' Mr' ∧ Rel (k + 1) Mc' Mr') ∧
  (∃ Mc' Mr' : Mem, st_setVoice p0 p1 Mc Mr Mc' Mr' ∧ Rel (k + 1) Mc' Mr') ∧
  (∃ Mc' Mr' : Mem, st_setSlack p0 Mc Mr Mc' Mr' ∧ Rel (k + 1) Mc' Mr') ∧
  (∃ Mc' Mr' : Mem, st_writeReel Mc Mr Mc' Mr' ∧ Rel (k + 1) Mc' Mr') ∧
  (∃ Mc' Mr' : Mem, st_writeVoice Mc Mr Mc' Mr' ∧ Rel (k + 1) Mc' Mr') ∧
  (∃ Mc' Mr' : Mem, st_output p0 Mc Mr Mc' Mr' ∧ Rel (k + 1) Mc' Mr') ∧
  (∃ Mc' Mr' : Mem, st_undo Mc Mr Mc' Mr' ∧ Rel (k + 1) Mc' Mr') ∧
  (∃ Mc' Mr' : Mem, st_save p0 Mc Mr Mc' Mr' ∧ Rel (k + 1) Mc' Mr') ∧
  (∃ Mc' Mr' : Mem, st_restore p0 Mc Mr Mc' Mr' ∧ Rel (k + 1) Mc' Mr')
def PureAll : Prop := ∃ (Rel : Nat → Mem → Mem → Prop) (M0 Mr0 : Mem), (∀ j, j < 314 → M0 (0 + j) = im_C j) ∧ Mok LyC M0 ∧ f_X11_clears M0R = some Mr0 ∧ Rel 0 M0 Mr0 ∧ PureOK Rel
