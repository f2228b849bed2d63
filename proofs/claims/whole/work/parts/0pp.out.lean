/-! what is written -/
def outC (M : Mem) (L : List Int) : Prop := M 3 1 = (L.length : Int) ∧ ∀ (k : Nat) (x : Int), L[k]? = some x → M 4 k = x
def outR (M : Mem) (L : List Int) : Prop := M 0 51 = (L.length : Int) ∧ ∀ (k : Nat) (x : Int), L[k]? = some x → M 29 k = x
def keepOC (M M' : Mem) : Prop := ∀ c : Nat, c ≠ 3 → c ≠ 4 → M' c = M c
def keepOR (M M' : Mem) : Prop := (∀ c : Nat, c ≠ 0 → c ≠ 29 → M' c = M c) ∧ ∀ j : Nat, j ≠ 51 → M' 0 j = M 0 j
theorem keepOC.trans {M M1 M2 : Mem} (h : keepOC M M1) (h2 : keepOC M1 M2) : keepOC M M2 := fun c c1 c2 => (h2 c c1 c2).trans (h c c1 c2)
theorem keepOR.trans {M M1 M2 : Mem} (h : keepOR M M1) (h2 : keepOR M1 M2) : keepOR M M2 := ⟨fun c c1 c2 => (h2.1 c c1 c2).trans (h.1 c c1 c2), fun j j1 => (h2.2 j j1).trans (h.2 j j1)⟩
theorem keepOC.rfl {M : Mem} : keepOC M M := fun _ _ _ => _root_.rfl
theorem keepOR.rfl {M : Mem} : keepOR M M := ⟨fun _ _ _ => _root_.rfl, fun _ _ => _root_.rfl⟩
theorem bar_ok {x : Int} (h : 0 ≤ x ∧ x ≤ 127) : bar8 (i2b x) = x := by
  have e := (sx_byte x ⟨by omega, by omega⟩).1
  obtain ⟨n, rfl⟩ : ∃ n : Nat, x = (n : Int) := ⟨x.toNat, by omega⟩
  have a : iand (n : Int) 255 = (n : Int) := by
    rw [show (255 : Int) = ((255 : Nat) : Int) from rfl, iand_nat (by omega) (by omega)]
    have : n &&& 255 = n % 256 := Nat.and_two_pow_sub_one_eq_mod n 8
    rw [this, Nat.mod_eq_of_lt (by omega)]
  rw [e, a]
  unfold sx
  rw [if_pos (by omega)]
theorem out_app {L : List Int} {y : Int} {k : Nat} {x : Int} {f f' : Nat → Int} (hf : ∀ j : Nat, f' j = if j = L.length then y else f j) (h : ∀ (k : Nat) (x : Int), L[k]? = some x → f k = x) (hx : (L ++ [y])[k]? = some x) : f' k = x := by
  rw [hf]
  by_cases z : k < L.length
  · rw [List.getElem?_append_left z] at hx
    rw [if_neg (by omega)]; exact h k x hx
  · rw [List.getElem?_append_right (by omega)] at hx
    by_cases w : k = L.length
    · rw [w, Nat.sub_self] at hx
      simp at hx
      rw [if_pos w]; exact hx
    · rw [show k - L.length = (k - L.length - 1) + 1 by omega] at hx
      simp at hx
theorem put_C {M : Mem} {L : List Int} (h : outC M L) (hL : L.length < 1000) {x : Int} (hx : 0 ≤ x ∧ x ≤ 127) : ∃ M' : Mem, f_X4_put x M = some M' ∧ outC M' (L ++ [x]) ∧ keepOC M M' := by
  obtain ⟨h1, h2⟩ := h
  refine ⟨upm (upm M 4 L.length x) 3 1 ((L.length : Int) + 1), ?_, ⟨?_, fun k y hy => out_app (f := M 4) (fun j => ?_) h2 hy⟩, fun c c1 c2 => by rw [upm_ne c1, upm_ne c2]⟩
  · unfold f_X4_put
    rw [h1, if_neg (by omega), ck_pos ⟨by omega, by omega⟩, lt_eq, bar_ok hx, ck_pos ⟨by omega, by omega⟩, lt_eq, Int.toNat_natCast]
  · rw [upm_hit, List.length_append, List.length_singleton]; omega
  · rw [upm_ne (by decide), upm_row, updr_ap]
theorem put_R {M : Mem} {L : List Int} (h : outR M L) (hL : L.length < 1000) (x : Int) : ∃ M' : Mem, f_X11_writes x M = some M' ∧ outR M' (L ++ [x]) ∧ keepOR M M' := by
  obtain ⟨h1, h2⟩ := h
  refine ⟨upm (upm M 29 L.length x) 0 51 ((L.length : Int) + 1), ?_, ⟨?_, fun k y hy => out_app (f := M 29) (fun j => ?_) h2 hy⟩, fun c c1 c2 => by rw [upm_ne c1, upm_ne c2], fun j hj => by rw [upm_sl hj, upm_ne (by decide)]⟩
  · unfold f_X11_writes
    rw [h1, ck_pos ⟨by omega, by omega⟩, lt_eq, ck_pos ⟨by omega, by omega⟩, lt_eq, Int.toNat_natCast]
  · rw [upm_hit, List.length_append, List.length_singleton]; omega
  · rw [upm_ne (by decide), upm_row, updr_ap]
/-- a step that writes a list, on both sides -/
def stC (F : Mem → Option Mem) (T : List Int) : Prop := ∀ (M : Mem) (L : List Int), outC M L → L.length + T.length ≤ 1000 → ∃ M' : Mem, F M = some M' ∧ outC M' (L ++ T) ∧ keepOC M M'
def stR (F : Mem → Option Mem) (T : List Int) : Prop := ∀ (M : Mem) (L : List Int), outR M L → L.length + T.length ≤ 1000 → ∃ M' : Mem, F M = some M' ∧ outR M' (L ++ T) ∧ keepOR M M'
theorem stC.put {x : Int} (hx : 0 ≤ x ∧ x ≤ 127) : stC (f_X4_put x) [x] := fun M L h hL => put_C h (by simp at hL; omega) hx
theorem stR.put {x : Int} : stR (f_X11_writes x) [x] := fun M L h hL => put_R h (by simp at hL; omega) x
theorem stC.seq {F G : Mem → Option Mem} {T U : List Int} (h : stC F T) (h2 : stC G U) : stC (fun M => (F M).bind G) (T ++ U) := by
  intro M L ho hL
  rw [List.length_append] at hL
  obtain ⟨M1, a1, a2, a3⟩ := h M L ho (by omega)
  obtain ⟨M2, b1, b2, b3⟩ := h2 M1 (L ++ T) a2 (by rw [List.length_append]; omega)
  exact ⟨M2, by show (F M).bind G = _; rw [a1]; exact b1, by rw [← List.append_assoc]; exact b2, a3.trans b3⟩
theorem stR.seq {F G : Mem → Option Mem} {T U : List Int} (h : stR F T) (h2 : stR G U) : stR (fun M => (F M).bind G) (T ++ U) := by
  intro M L ho hL
  rw [List.length_append] at hL
  obtain ⟨M1, a1, a2, a3⟩ := h M L ho (by omega)
  obtain ⟨M2, b1, b2, b3⟩ := h2 M1 (L ++ T) a2 (by rw [List.length_append]; omega)
  exact ⟨M2, by show (F M).bind G = _; rw [a1]; exact b1, by rw [← List.append_assoc]; exact b2, a3.trans b3⟩
/-! words and numbers -/
def wd (w : Nat) : Nat → Nat → List Int
  | 0, _ => []
  | k + 1, j => chST w j :: wd w k (j + 1)
theorem wd_len (w : Nat) : ∀ k j : Nat, (wd w k j).length = k := by
  intro k
  induction k with
  | zero => intro j; rfl
  | succ k ih => intro j; rw [wd, List.length_cons, ih]
theorem ch_ok : ∀ w : Nat, w < 23 → ∀ j : Nat, j < lenST.getD w 0 → 0 ≤ chST w j ∧ chST w j ≤ 127 := by decide +kernel
theorem L_wd_C {w : Nat} (hw : w < 23) : ∀ (k j n : Nat) (M : Mem) (L : List Int), j + k = lenST.getD w 0 → k < n → outC M L → L.length + k ≤ 1000 → ∃ M' : Mem, f_X4_putText_L2 w n (j : Int) M = some M' ∧ outC M' (L ++ wd w k j) ∧ keepOC M M' := by
  have l100 := lenST_ok w hw
  intro k
  induction k with
  | zero =>
    intro j n M L hj hn ho _
    obtain ⟨n, rfl⟩ := nat_ex hn
    refine ⟨M, ?_, by rw [wd, List.append_nil]; exact ho, keepOC.rfl⟩
    simp only [f_X4_putText_L2]
    rw [if_pos (by omega)]
  | succ k ih =>
    intro j n M L hj hn ho hL
    obtain ⟨n, rfl⟩ := nat_ex hn
    obtain ⟨M1, a1, a2, a3⟩ := put_C ho (by omega) (ch_ok w hw j (by omega))
    obtain ⟨M', b1, b2, b3⟩ := ih (j + 1) n M1 _ (by omega) (by omega) a2 (by rw [List.length_append, List.length_singleton]; omega)
    refine ⟨M', ?_, by rw [wd, show L ++ chST w j :: wd w k (j + 1) = (L ++ [chST w j]) ++ wd w k (j + 1) by simp]; exact b2, a3.trans b3⟩
    simp only [f_X4_putText_L2]
    rw [if_neg (by omega), ck_pos ⟨by omega, by omega⟩, Int.toNat_natCast, a1, Option.bind_some, ck_pos ⟨by omega, by omega⟩, show (j : Int) + 1 = ((j + 1 : Nat) : Int) by omega]
    exact b1
theorem L_wd_R {w : Nat} (hw : w < 23) : ∀ (k j n : Nat) (M : Mem) (L : List Int), j + k = lenST.getD w 0 → k < n → outR M L → L.length + k ≤ 1000 → ∃ M' : Mem, f_X11_writesWord_L2 w n (j : Int) M = some M' ∧ outR M' (L ++ wd w k j) ∧ keepOR M M' := by
  have l100 := lenST_ok w hw
  intro k
  induction k with
  | zero =>
    intro j n M L hj hn ho _
    obtain ⟨n, rfl⟩ := nat_ex hn
    refine ⟨M, ?_, by rw [wd, List.append_nil]; exact ho, keepOR.rfl⟩
    simp only [f_X11_writesWord_L2]
    rw [if_pos (by omega)]
  | succ k ih =>
    intro j n M L hj hn ho hL
    obtain ⟨n, rfl⟩ := nat_ex hn
    obtain ⟨M1, a1, a2, a3⟩ := put_R ho (by omega) (chST w j)
    obtain ⟨M', b1, b2, b3⟩ := ih (j + 1) n M1 _ (by omega) (by omega) a2 (by rw [List.length_append, List.length_singleton]; omega)
    refine ⟨M', ?_, by rw [wd, show L ++ chST w j :: wd w k (j + 1) = (L ++ [chST w j]) ++ wd w k (j + 1) by simp]; exact b2, a3.trans b3⟩
    simp only [f_X11_writesWord_L2]
    rw [if_neg (by omega), ck_pos ⟨by omega, by omega⟩, Int.toNat_natCast, a1, Option.bind_some, ck_pos ⟨by omega, by omega⟩, show (j : Int) + 1 = ((j + 1 : Nat) : Int) by omega]
    exact b1
def wdT (w : Nat) : List Int := wd w (lenST.getD w 0) 0
theorem wd_C {w : Nat} (hw : w < 23) : stC (f_X4_putText w) (wdT w) := fun M L ho hL => by
  have l100 := lenST_ok w hw
  unfold wdT at hL
  rw [wd_len] at hL
  exact L_wd_C hw (lenST.getD w 0) 0 jFuel M L (by omega) (jF (by omega)) ho hL
theorem wd_R {w : Nat} (hw : w < 23) : stR (f_X11_writesWord w) (wdT w) := fun M L ho hL => by
  have l100 := lenST_ok w hw
  unfold wdT at hL
  rw [wd_len] at hL
  exact L_wd_R hw (lenST.getD w 0) 0 jFuel M L (by omega) (jF (by omega)) ho hL
/-- digits of a number below 1000 -/
def dg (x : Nat) : List Int := (if x < 100 then [] else [48 + ((x / 100 % 10 : Nat) : Int)]) ++ (if x < 10 then [] else [48 + ((x / 10 % 10 : Nat) : Int)]) ++ [48 + ((x % 10 : Nat) : Int)]
theorem dg_len (x : Nat) : (dg x).length ≤ 3 ∧ (x < 100 → (dg x).length ≤ 2) := by
  unfold dg
  by_cases a : x < 100
  · by_cases b : x < 10 <;> simp [a, b]
  · by_cases b : x < 10 <;> simp [a, b]
theorem ar_ok : ∀ a : Nat, a < 32 → ∀ b : Nat, b < 32 → irem ((32 * a + b : Nat) : Int) 10 = (((32 * a + b) % 10 : Nat) : Int) ∧ idiv ((32 * a + b : Nat) : Int) 10 = (((32 * a + b) / 10 : Nat) : Int) ∧ idiv ((32 * a + b : Nat) : Int) 100 = (((32 * a + b) / 100 : Nat) : Int) ∧ idiv ((32 * a + b : Nat) : Int) 1 = ((32 * a + b : Nat) : Int) := by decide +kernel
theorem ar {x : Nat} (h : x < 1024) : irem (x : Int) 10 = ((x % 10 : Nat) : Int) ∧ idiv (x : Int) 10 = ((x / 10 : Nat) : Int) ∧ idiv (x : Int) 100 = ((x / 100 : Nat) : Int) ∧ idiv (x : Int) 1 = (x : Int) := by
  have e := ar_ok (x / 32) (by omega) (x % 32) (by omega)
  rw [show 32 * (x / 32) + x % 32 = x by omega] at e
  exact e
theorem bind_c {α β : Type} {q : Option α} {f g : α → Option β} (h : ∀ a, f a = g a) : q.bind f = q.bind g := by
  cases q with
  | none => rfl
  | some v => exact h v
theorem num_C {x : Nat} (h : x < 1000) : stC (f_X4_putNumber (x : Int)) (dg x) := by
  obtain ⟨e1, e2, e3, _⟩ := ar (x := x) (by omega)
  have f2 := (ar (x := x / 10) (by omega)).1
  have f3 := (ar (x := x / 100) (by omega)).1
  have p3 := stC.put (x := 48 + ((x / 100 % 10 : Nat) : Int)) ⟨by omega, by omega⟩
  have p2 := stC.put (x := 48 + ((x / 10 % 10 : Nat) : Int)) ⟨by omega, by omega⟩
  have p1 := stC.put (x := 48 + ((x % 10 : Nat) : Int)) ⟨by omega, by omega⟩
  intro M L ho hL
  have go : f_X4_putNumber (x : Int) M = ((if x < 100 then some M else f_X4_put (48 + ((x / 100 % 10 : Nat) : Int)) M).bind fun M20 => (if x < 10 then some M20 else f_X4_put (48 + ((x / 10 % 10 : Nat) : Int)) M20).bind fun M40 => f_X4_put (48 + ((x % 10 : Nat) : Int)) M40) := by
    unfold f_X4_putNumber
    simp only [jn]
    rw [e1, e2, e3, f2, f3]
    have ir : ∀ y : Nat, inR (48 + ((y % 10 : Nat) : Int)) := fun y => ⟨by omega, by omega⟩
    have bs : ∀ q : Option Mem, (q.bind fun M48 => some M48) = q := fun q => by cases q <;> rfl
    simp only [bs]
    rw [ck_pos (ir (x / 100))]
    by_cases a : x < 100
    · rw [if_pos a, if_pos (by omega), Option.bind_some]
      by_cases b : x < 10
      · rw [if_pos b, if_pos (by omega), Option.bind_some, ck_pos (ir x)]
      · rw [if_neg b, if_neg (by omega), ck_pos (ir (x / 10))]
        refine bind_c (fun M37 => ?_); rw [ck_pos (ir x)]
    · rw [if_neg a, if_neg (by omega)]
      refine bind_c (fun M17 => ?_)
      rw [if_neg (by omega), if_neg (by omega), ck_pos (ir (x / 10))]
      refine bind_c (fun M37 => ?_); rw [ck_pos (ir x)]
  rw [go]
  unfold dg at hL ⊢
  by_cases a : x < 100
  · by_cases b : x < 10
    · simp only [a, b, if_true, Option.bind_some, List.nil_append] at hL ⊢
      exact p1 M L ho hL
    · simp only [a, b, if_true, if_false, Option.bind_some, List.nil_append] at hL ⊢
      exact (p2.seq p1) M L ho hL
  · have b : ¬ x < 10 := by omega
    simp only [a, b, if_false] at hL ⊢
    rw [List.append_assoc] at hL ⊢
    exact (p3.seq (p2.seq p1)) M L ho hL
theorem num_R {x : Nat} (h : x < 1000) : stR (f_X11_writesNumber (x : Int)) (dg x) := by
  obtain ⟨e1, e2, e3, e4⟩ := ar (x := x) (by omega)
  have f2 := (ar (x := x / 10) (by omega)).1
  have f3 := (ar (x := x / 100) (by omega)).1
  have p3 := stR.put (x := 48 + ((x / 100 % 10 : Nat) : Int))
  have p2 := stR.put (x := 48 + ((x / 10 % 10 : Nat) : Int))
  have p1 := stR.put (x := 48 + ((x % 10 : Nat) : Int))
  have ir : ∀ y : Nat, inR (48 + ((y % 10 : Nat) : Int)) := fun y => ⟨by omega, by omega⟩
  have d1 : idiv 1 10 = 0 := by decide
  have d10 : idiv 10 10 = 1 := by decide
  have d100 : idiv 100 10 = 10 := by decide
  -- the second loop, from a power of ten on
  have t0 : ∀ (n : Nat) (M : Mem), f_X11_writesNumber_L20 (x : Int) (n + 1) 0 M = some M := fun n M => by
    simp only [f_X11_writesNumber_L20]; rw [if_pos (by omega)]
  have t1 : ∀ (n : Nat) (M : Mem), f_X11_writesNumber_L20 (x : Int) (n + 2) 1 M = f_X11_writes (48 + ((x % 10 : Nat) : Int)) M := fun n M => by
    rw [show n + 2 = (n + 1) + 1 by omega]
    unfold f_X11_writesNumber_L20
    rw [if_neg (by decide), ck_pos (by decide), e4, e1, ck_pos (ir x), d1]
    have : ∀ q : Option Mem, (q.bind fun M34 => f_X11_writesNumber_L20 (x : Int) (n + 1) 0 M34) = q := fun q => by
      cases q with
      | none => rfl
      | some v => exact t0 n v
    exact this _
  have t2 : ∀ (n : Nat) (M : Mem), f_X11_writesNumber_L20 (x : Int) (n + 3) 10 M = (f_X11_writes (48 + ((x / 10 % 10 : Nat) : Int)) M).bind (f_X11_writes (48 + ((x % 10 : Nat) : Int))) := fun n M => by
    rw [show n + 3 = (n + 2) + 1 by omega]
    unfold f_X11_writesNumber_L20
    rw [if_neg (by decide), ck_pos (by decide), e2, f2, ck_pos (ir (x / 10)), d10]
    exact bind_c (fun M34 => t1 n M34)
  have t3 : ∀ (n : Nat) (M : Mem), f_X11_writesNumber_L20 (x : Int) (n + 4) 100 M = (f_X11_writes (48 + ((x / 100 % 10 : Nat) : Int)) M).bind (fun M => (f_X11_writes (48 + ((x / 10 % 10 : Nat) : Int)) M).bind (f_X11_writes (48 + ((x % 10 : Nat) : Int)))) := fun n M => by
    rw [show n + 4 = (n + 3) + 1 by omega]
    unfold f_X11_writesNumber_L20
    rw [if_neg (by decide), ck_pos (by decide), e3, f3, ck_pos (ir (x / 100)), d100]
    exact bind_c (fun M34 => t2 n M34)
  intro M L ho hL
  obtain ⟨fu, hfu⟩ : ∃ fu : Nat, jFuel = fu + 4 := ⟨9999996, rfl⟩
  obtain ⟨fv, hfv⟩ : ∃ fv : Nat, jFuel = fv + 3 := ⟨9999997, rfl⟩
  obtain ⟨fw, hfw⟩ : ∃ fw : Nat, jFuel = fw + 2 := ⟨9999998, rfl⟩
  unfold dg at hL ⊢
  unfold f_X11_writesNumber
  by_cases a : x < 100
  · by_cases b : x < 10
    · have go : f_X11_writesNumber_L2 (x : Int) jFuel 1 M = f_X11_writes (48 + ((x % 10 : Nat) : Int)) M := by
        rw [hfw]
        rw [show fw + 2 = (fw + 1) + 1 by omega]
        unfold f_X11_writesNumber_L2
        rw [ck_pos (by decide), e4, if_pos (by omega), hfw]
        exact t1 fw M
      rw [go]
      simp only [a, b, if_true, List.nil_append] at hL ⊢
      exact p1 M L ho hL
    · have go : f_X11_writesNumber_L2 (x : Int) jFuel 1 M = (f_X11_writes (48 + ((x / 10 % 10 : Nat) : Int)) M).bind (f_X11_writes (48 + ((x % 10 : Nat) : Int))) := by
        rw [hfv]
        rw [show fv + 3 = (fv + 2) + 1 by omega]
        unfold f_X11_writesNumber_L2
        rw [ck_pos (by decide), e4, if_neg (by omega), ck_pos (by decide), show (1 : Int) * 10 = 10 from rfl]
        unfold f_X11_writesNumber_L2
        rw [ck_pos (by decide), e2, if_pos (by omega), hfv]
        exact t2 fv M
      rw [go]
      simp only [a, b, if_true, if_false, List.nil_append] at hL ⊢
      exact (p2.seq p1) M L ho hL
  · have b : ¬ x < 10 := by omega
    have go : f_X11_writesNumber_L2 (x : Int) jFuel 1 M = (f_X11_writes (48 + ((x / 100 % 10 : Nat) : Int)) M).bind (fun M => (f_X11_writes (48 + ((x / 10 % 10 : Nat) : Int)) M).bind (f_X11_writes (48 + ((x % 10 : Nat) : Int)))) := by
      rw [hfu]
      rw [show fu + 4 = (fu + 3) + 1 by omega]
      unfold f_X11_writesNumber_L2
      rw [ck_pos (by decide), e4, if_neg (by omega), ck_pos (by decide), show (1 : Int) * 10 = 10 from rfl]
      unfold f_X11_writesNumber_L2
      rw [ck_pos (by decide), e2, if_neg (by omega), ck_pos (by decide), show (10 : Int) * 10 = 100 from rfl]
      unfold f_X11_writesNumber_L2
      rw [ck_pos (by decide), e3, if_pos (by omega), hfu]
      exact t3 fu M
    rw [go]
    simp only [a, b, if_false] at hL ⊢
    rw [List.append_assoc] at hL ⊢
    exact (p3.seq (p2.seq p1)) M L ho hL
