def PureAll : Prop := ∃ (Rel : Mem → Mem → Prop) (M0 Mr0 : Mem), (∀ j, j < 314 → M0 (0 + j) = im_C j) ∧ Mok LyC M0 ∧ f_X11_clears M0R = some Mr0 ∧ Rel M0 Mr0 ∧ PureOK Rel
theorem pure_all : PureAll := by sorry
