/-! numbers, checks, memory -/
abbrev inR (x : Int) : Prop := -2147483648 ≤ x ∧ x < 2147483648
abbrev jI (x : Int) : Int32 := Int32.ofInt x
theorem jI_toInt {x : Int} (h : inR x) : (jI x).toInt = x := Int32.toInt_ofInt_of_le h.1 h.2
theorem jI_nat {x : Int} (h : inR x) : (jI x).toNatClampNeg = x.toNat := Int32.toNatClampNeg_ofInt_of_le h.1 h.2
theorem jI_of (v : Int32) : v = jI v.toInt := (Int32.ofInt_toInt v).symm
theorem jI_R (v : Int32) : inR v.toInt := ⟨Int32.le_toInt v, Int32.toInt_lt v⟩
theorem jI_inj {x y : Int} (hx : inR x) (hy : inR y) (h : jI x = jI y) : x = y := by
  have := congrArg Int32.toInt h
  rwa [jI_toInt hx, jI_toInt hy] at this
theorem jI_eq {x y : Int} (hx : inR x) (hy : inR y) : jI x = jI y ↔ x = y := ⟨jI_inj hx hy, fun h => by rw [h]⟩
theorem jI_lt {x y : Int} (hx : inR x) (hy : inR y) : jI x < jI y ↔ x < y := by
  rw [Int32.lt_iff_toInt_lt, jI_toInt hx, jI_toInt hy]
theorem jI_le {x y : Int} (hx : inR x) (hy : inR y) : jI x ≤ jI y ↔ x ≤ y := by
  rw [Int32.le_iff_toInt_le, jI_toInt hx, jI_toInt hy]
theorem jI_in {x : Int} {n : Nat} (h : 0 ≤ x ∧ x < (n : Int)) (hx : inR x) : vp_in (jI x) n := by
  intro q
  rcases q with q | q
  · have : jI x < jI 0 := q
    rw [jI_lt hx ⟨by decide, by decide⟩] at this
    omega
  · rw [jI_nat hx] at q
    omega
def ck {α : Type} (p : Prop) [Decidable p] (k : Option α) : Option α := if p then k else none
theorem ck_some {α : Type} {p : Prop} [Decidable p] {k : Option α} {r : α} (h : ck p k = some r) : p ∧ k = some r := by
  unfold ck at h
  by_cases hp : p
  · rw [if_pos hp] at h; exact ⟨hp, h⟩
  · rw [if_neg hp] at h; cases h
theorem ck_pos {α : Type} {p : Prop} [Decidable p] {k : Option α} (h : p) : ck p k = k := if_pos h
theorem bd_some {α β : Type} {o : Option α} {k : α → Option β} {r : β} (h : o.bind k = some r) : ∃ a, o = some a ∧ k a = some r := by
  cases o with
  | none => cases h
  | some a => exact ⟨a, rfl, h⟩
def lt {α β : Type} (x : α) (k : α → β) : β := k x
theorem lt_some {α β : Type} {x : α} {k : α → Option β} {r : β} (h : lt x k = some r) : ∃ x', x' = x ∧ k x' = some r := ⟨x, rfl, h⟩
def jn {α β : Type} (k : α) (b : α → β) : β := b k
/-- operations on Int by way of the machine's -/
def iand (x y : Int) : Int := (jI x &&& jI y).toInt
def ior (x y : Int) : Int := (jI x ||| jI y).toInt
def ixor (x y : Int) : Int := (jI x ^^^ jI y).toInt
def ishl (x y : Int) : Int := (jI x <<< (jI y &&& 31)).toInt
def ishr (x y : Int) : Int := (jI x >>> (jI y &&& 31)).toInt
def iushr (x y : Int) : Int := ((jI x).toUInt32 >>> ((jI y).toUInt32 &&& Int32.toUInt32 31)).toInt32.toInt
def idiv (x y : Int) : Int := (jI x / jI y).toInt
def irem (x y : Int) : Int := (jI x - jI x / jI y * jI y).toInt
def i2b (x : Int) : Int := (jI x).toInt8.toInt32.toInt
def i2c (x : Int) : Int := ((jI x).toUInt32 % 65536).toInt32.toInt
def bar8 (x : Int) : Int := (vp_nar .byte (jI x)).toInt
def bar1 (x : Int) : Int := (vp_nar .boolean (jI x)).toInt
/-- the memory: cell, slot -/
abbrev Mem : Type := Nat → Nat → Int
def updr (m : Nat → Int) (k : Nat) (v : Int) : Nat → Int := fun j => if j = k then v else m j
def upm (M : Mem) (a k : Nat) (v : Int) : Mem := fun b => if b = a then updr (M a) k v else M b
def cpr (f g : Nat → Int) (sp dp n : Nat) : Nat → Int := fun k => if dp ≤ k ∧ k < dp + n then f (sp + (k - dp)) else g k
def cpm (M : Mem) (a sp b dp n : Nat) : Mem := fun c => if c = b then cpr (M a) (M b) sp dp n else M c
abbrev jLy : Type := Nat × (Nat → Nat × Nat)
/-- what an entry of a cell of this kind may be -/
def inK (kd : Nat) (x : Int) : Prop := if kd = 21 then -128 ≤ x ∧ x ≤ 127 else if kd = 22 then x = 0 ∨ x = 1 else inR x
theorem inK_R {kd : Nat} {x : Int} (h : inK kd x) : inR x := by
  unfold inK at h
  split at h
  · exact ⟨by omega, by omega⟩
  · split at h
    · rcases h with h | h <;> rw [h] <;> exact ⟨by decide, by decide⟩
    · exact h
theorem inK_of {kd : Nat} {x : Int} (h1 : kd ≠ 21) (h2 : kd ≠ 22) (h : inR x) : inK kd x := by
  unfold inK
  rw [if_neg h1, if_neg h2]; exact h
abbrev Mok (Ly : jLy) (M : Mem) : Prop := ∀ a k, inK (Ly.2 a).1 (M a k)
theorem updr_at (m : Nat → Int) (k : Nat) (v : Int) : updr m k v k = v := if_pos rfl
theorem updr_ne {m : Nat → Int} {k j : Nat} {v : Int} (h : j ≠ k) : updr m k v j = m j := if_neg h
theorem upm_row (M : Mem) (a k : Nat) (v : Int) : upm M a k v a = updr (M a) k v := if_pos rfl
theorem upm_ne {M : Mem} {a b k : Nat} {v : Int} (h : b ≠ a) : upm M a k v b = M b := if_neg h
theorem rd_skip {M M2 : Mem} {a b k j : Nat} {v x : Int} (e : M2 = upm M a k v) (h : b ≠ a) (h1 : M b j = x) : M2 b j = x := by rw [e, upm_ne h]; exact h1
theorem rd_slot {M M2 : Mem} {a k j : Nat} {v x : Int} (e : M2 = upm M a k v) (h : j ≠ k) (h1 : M a j = x) : M2 a j = x := by rw [e, upm_row, updr_ne h]; exact h1
theorem rd_hit {M M2 : Mem} {a k : Nat} {v : Int} (e : M2 = upm M a k v) : M2 a k = v := by rw [e, upm_row, updr_at]
theorem rd_cskip {M M2 : Mem} {a sp b dp n c j : Nat} {x : Int} (e : M2 = cpm M a sp b dp n) (h : c ≠ b) (h1 : M c j = x) : M2 c j = x := by rw [e]; unfold cpm; rw [if_neg h]; exact h1
theorem ne_off {s i j : Nat} (h : i ≠ j) : s + i ≠ s + j := fun q => h (Nat.add_left_cancel q)
theorem upm_ok {Ly : jLy} {M : Mem} {a k : Nat} {v : Int} (hM : Mok Ly M) (hv : inK (Ly.2 a).1 v) : Mok Ly (upm M a k v) := by
  intro b j
  unfold upm
  by_cases hb : b = a
  · rw [if_pos hb]; unfold updr
    subst hb
    by_cases hj : j = k
    · rw [if_pos hj]; exact hv
    · rw [if_neg hj]; exact hM b j
  · rw [if_neg hb]; exact hM b j
theorem cpm_ok {Ly : jLy} {M : Mem} {a sp b dp n : Nat} (hk : (Ly.2 a).1 = (Ly.2 b).1) (hM : Mok Ly M) : Mok Ly (cpm M a sp b dp n) := by
  intro c j
  unfold cpm
  by_cases hb : c = b
  · rw [if_pos hb]; unfold cpr
    subst hb
    by_cases hj : dp ≤ j ∧ j < dp + n
    · rw [if_pos hj, ← hk]; exact hM _ _
    · rw [if_neg hj]; exact hM _ _
  · rw [if_neg hb]; exact hM c j
/-! the words of the tables that are good -/
def lwG : List Cond := lw_tbl.filter goodWord
theorem gmem {w : Cond} (i : Nat) (h : lw_tbl[i]? = some w) (hg : goodWord w = true) : w ∈ lwG := List.mem_filter.mpr ⟨List.mem_of_getElem? h, hg⟩
theorem lwG_tbl {w : Cond} (h : w ∈ lwG) : w ∈ lw_tbl := (List.mem_filter.mp h).1
theorem lwG_good {w : Cond} (h : w ∈ lwG) : goodWord w = true := (List.mem_filter.mp h).2
theorem goodIn_G {ws : List Cond} (h : ∀ w ∈ ws, w ∈ lwG) {w0 : Cond} : GoodIn (w0 :: lwG) ws := fun w hw => ⟨List.mem_cons_of_mem _ (h w hw), good_of_word (lwG_good (h w hw))⟩
/-! the cells: class objects by their number, arrays: 20 int, 21 byte, 22 boolean, 23 past, 24 saved -/
def cellOf (cy : Nat → ClassId) (z a : Nat) (kd : Nat × Nat) (m : Nat → Int) : va_E := match kd.1 with
  | 0 => .inr (0, [.int (jI (m 0)), .int (jI (m 1)), .int (jI (m 2)), .ref (z + (a + 1))])
  | 1 => .inr (1, [.int (jI (m 0)), .ref (z + (a + 1)), .ref (z + (a + 2))])
  | 2 => .inr (2, [.int (jI (m 0)), .ref (z + (a + 1)), .ref (z + (a + 2)), .ref (z + (a + 3)), .ref (z + (a + 4)), .ref (z + (a + 5)), .ref (z + (a + 6))])
  | 3 => .inr (3, [.int (jI (m 0)), .ref (z + (a + 1)), .ref (z + (a + 2)), .int (jI (m 3)), .ref (z + (a + 3)), .ref (z + (a + 4)), .int (jI (m 6)), .ref (z + (a + 5)), .ref (z + (a + 6)), .ref (z + (a + 7)), .ref (z + (a + 8)), .ref (z + (a + 9))])
  | 4 => .inr (4, [.ref (z + (a + 1)), .int (jI (m 1))])
  | 5 => .inr (5, [.int (jI (m 0)), .int (jI (m 1)), .ref (z + (a + 1)), .ref (z + (a + 2)), .ref (z + (a + 3)), .ref (z + (a + 4)), .ref (z + (a + 5)), .ref (z + (a + 6)), .ref (z + (a + 7)), .int (jI (m 9))])
  | 6 => .inr (6, [.int (jI (m 0)), .int (jI (m 1)), .ref (z + (a + 1)), .ref (z + (a + 2)), .ref (z + (a + 3))])
  | 7 => .inr (7, [.ref (z + (a + 1)), .ref (z + (a + 11)), .ref (z + (a + 17))])
  | 8 => .inr (8, [.ref (z + (a + 1)), .int (jI (m 1)), .int (jI (m 2)), .int (jI (m 3)), .int (jI (m 4)), .int (jI (m 5)), .int (jI (m 6)), .int (jI (m 7)), .int (jI (m 8))])
  | 9 => .inr (9, [.int (jI (m 0)), .int (jI (m 1)), .ref (z + (a + 1)), .ref (z + (a + 2)), .ref (z + (a + 3)), .ref (z + (a + 4)), .ref (z + (a + 5))])
  | 10 => .inr (10, [.ref (z + (a + 1)), .ref (z + (a + 3)), .ref (z + (a + 5)), .ref (z + (a + 29)), .ref (z + (a + 53)), .int (jI (m 5)), .int (jI (m 6)), .ref (z + (a + 54)), .ref (z + (a + 55)), .ref (z + (a + 56)), .ref (z + (a + 64)), .ref (z + (a + 68)), .ref (z + (a + 71)), .ref (z + (a + 73))])
  | 11 => .inr (11, [.ref (z + (a + 1)), .ref (z + (a + 2)), .ref (z + (a + 3)), .ref (z + (a + 4)), .ref (z + (a + 5)), .ref (z + (a + 6)), .int (jI (m 6)), .int (jI (m 7)), .ref (z + (a + 7)), .ref (z + (a + 8)), .ref (z + (a + 9)), .ref (z + (a + 10)), .ref (z + (a + 11)), .ref (z + (a + 12)), .ref (z + (a + 13)), .ref (z + (a + 14)), .ref (z + (a + 15)), .int (jI (m 17)), .ref (z + (a + 16)), .ref (z + (a + 17)), .ref (z + (a + 18)), .int (jI (m 21)), .int (jI (m 22)), .ref (z + (a + 19)), .ref (z + (a + 20)), .ref (z + (a + 21)), .int (jI (m 26)), .int (jI (m 27)), .ref (z + (a + 22)), .int (jI (m 29)), .int (jI (m 30)), .int (jI (m 31)), .int (jI (m 32)), .int (jI (m 33)), .int (jI (m 34)), .int (jI (m 35)), .int (jI (m 36)), .int (jI (m 37)), .int (jI (m 38)), .ref (z + (a + 23)), .int (jI (m 40)), .int (jI (m 41)), .int (jI (m 42)), .ref (z + (a + 24)), .ref (z + (a + 25)), .ref (z + (a + 26)), .ref (z + (a + 27)), .int (jI (m 47)), .int (jI (m 48)), .ref (z + (a + 28)), .ref (z + (a + 29)), .int (jI (m 51))])
  | 20 => .inl (cy 0, kd.2, .inl (fun j => jI (m j)))
  | 21 => .inl (cy 1, kd.2, .inl (fun j => jI (m j)))
  | 22 => .inl (cy 2, kd.2, .inl (fun j => jI (m j)))
  | 23 => .inl (cy 3, kd.2, .inr (.inr (.inr (.inr (fun i => some (z + (74 + i * 24)))))))
  | 24 => .inl (cy 3, kd.2, .inr (.inr (.inr (.inr (fun i => some (z + (266 + i * 24)))))))
  | _ => .inl (cy 0, 0, .inl (fun _ => 0))
def Wd (cy : Nat → ClassId) (z : Nat) (Ly : jLy) (M : Mem) : va_W := (List.range Ly.1).map fun a => (z + a, cellOf cy z a (Ly.2 a) (M a))
theorem Wd_get {cy : Nat → ClassId} {z : Nat} {Ly : jLy} {M : Mem} {a : Nat} (h : a < Ly.1) : (Wd cy z Ly M)[a]? = some (z + a, cellOf cy z a (Ly.2 a) (M a)) := by
  simp [Wd, h]
theorem Wd_set {cy : Nat → ClassId} {z : Nat} {Ly : jLy} {M M' : Mem} {a : Nat} {e : va_E} (h : a < Ly.1) (he : cellOf cy z a (Ly.2 a) (M' a) = e) (ho : ∀ b, b ≠ a → M' b = M b) : (Wd cy z Ly M).set a (z + a, e) = Wd cy z Ly M' := by
  apply List.ext_getElem?
  intro i
  by_cases hi : i = a
  · subst hi
    rw [Wd_get h, he]
    have : i < (Wd cy z Ly M).length := by simp [Wd, h]
    simp [this]
  · rw [List.getElem?_set_ne (Ne.symm hi)]
    by_cases hb : i < Ly.1
    · rw [Wd_get hb, Wd_get hb, ho i hi]
    · rw [List.getElem?_eq_none (by simp [Wd]; omega), List.getElem?_eq_none (by simp [Wd]; omega)]
/-- the surroundings: numbers of classes and slots, array classes, the region that may be written, where Strings and their bytes lie, where the world begins -/
abbrev jE : Type := va_G × (Nat → ClassId) × (Nat → Prop) × (Nat → Nat) × (Nat → Nat) × (Nat → Nat)
abbrev eD (E : jE) : va_G := E.1
abbrev eC (E : jE) : Nat → ClassId := E.2.1
abbrev eA (E : jE) : Nat → Prop := E.2.2.1
abbrev eK (E : jE) : Nat → Nat := E.2.2.2.1
abbrev eV (E : jE) : Nat → Nat := E.2.2.2.2.1
abbrev eS (E : jE) : Nat → Nat := E.2.2.2.2.2
abbrev eT (E : jE) : List (ClassId × FieldType) := [(eC E 0, .int), (eC E 1, .byte), (eC E 2, .boolean), (eC E 3, .object "NewsReel$State"), (eC E 4, .long), (eC E 5, .double)]
theorem Wd_D {E : jE} {z : Nat} {Ly : jLy} {M : Mem} {A : Nat → Prop} (h : ∀ k, k < Ly.1 → A (z + k)) : va_D A (Wd (eC E) z Ly M) := by
  have hg : ∀ (i : Nat) (q : Nat × va_E), (Wd (eC E) z Ly M)[i]? = some q → i < Ly.1 ∧ q.1 = z + i := by
    intro i q hq
    have hi : i < Ly.1 := by
      have := (List.getElem?_eq_some_iff.mp hq).1
      simpa [Wd] using this
    rw [Wd_get hi] at hq
    cases hq
    exact ⟨hi, rfl⟩
  refine ⟨fun i j p q hp hq hpq => ?_, fun k q hq => ?_⟩
  · have h1 := (hg i p hp).2
    have h2 := (hg j q hq).2
    omega
  · rw [(hg k q hq).2]
    exact h k (hg k q hq).1
