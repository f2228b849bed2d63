/-! the words of the tables that are good -/
def lwG : List Cond := lw_tbl.filter goodWord
theorem gmem {w : Cond} (i : Nat) (h : lw_tbl[i]? = some w) (hg : goodWord w = true) : w ∈ lwG := List.mem_filter.mpr ⟨List.mem_of_getElem? h, hg⟩
theorem lwG_tbl {w : Cond} (h : w ∈ lwG) : w ∈ lw_tbl := (List.mem_filter.mp h).1
theorem lwG_good {w : Cond} (h : w ∈ lwG) : goodWord w = true := (List.mem_filter.mp h).2
theorem goodIn_G {ws : List Cond} (h : ∀ w ∈ ws, w ∈ lwG) {w0 : Cond} : GoodIn (w0 :: lwG) ws := fun w hw => ⟨List.mem_cons_of_mem _ (h w hw), good_of_word (lwG_good (h w hw))⟩
/-! the cells: class objects by their number, arrays: 20 int, 21 byte, 22 boolean, 23 past, 24 saved -/
def cellOf (cy : Nat → ClassId) (z a : Nat) (kd : Nat × Nat) (m : Nat → Int) : va_E := match kd.1 with
  | 0 => .inr (0, [.int (jI (m 0)), .int (jI (m 1)), .int (jI (m 2)), .ref (z + (a + 1))])
  | 1 => .inr (1, [.int (jI (m 0)), .ref (z + (a + 1)), .ref (z + (a + 2))])
  | 2 => .inr (2, [.int (jI (m 0)), .ref (z + (a + 1)), .ref (z + (a + 2)), .ref (z + (a + 3)), .ref (z + (a + 4)), .ref (z + (a + 5)), .ref (z + (a + 6))])
  | 3 => .inr (3, [.int (jI (m 0)), .ref (z + (a + 1)), .ref (z + (a + 2)), .int (jI (m 3)), .ref (z + (a + 3)), .ref (z + (a + 4)), .int (jI (m 6)), .ref (z + (a + 5)), .ref (z + (a + 6)), .ref (z + (a + 7)), .ref (z + (a + 8)), .ref (z + (a + 9))])
  | 4 => .inr (4, [.ref (z + (a + 1)), .int (jI (m 1))])
  | 5 => .inr (5, [.int (jI (m 0)), .int (jI (m 1)), .ref (z + (a + 1)), .ref (z + (a + 2)), .ref (z + (a + 3)), .ref (z + (a + 4)), .ref (z + (a + 5)), .ref (z + (a + 6)), .ref (z + (a + 7)), .int (jI (m 9))])
  | 6 => .inr (6, [.int (jI (m 0)), .int (jI (m 1)), .ref (z + (a + 1)), .ref (z + (a + 2)), .ref (z + (a + 3))])
  | 7 => .inr (7, [.ref (z + (a + 1)), .ref (z + (a + 11)), .ref (z + (a + 17))])
  | 8 => .inr (8, [.ref (z + (a + 1)), .int (jI (m 1)), .int (jI (m 2)), .int (jI (m 3)), .int (jI (m 4)), .int (jI (m 5)), .int (jI (m 6)), .int (jI (m 7)), .int (jI (m 8))])
  | 9 => .inr (9, [.int (jI (m 0)), .int (jI (m 1)), .ref (z + (a + 1)), .ref (z + (a + 2)), .ref (z + (a + 3)), .ref (z + (a + 4)), .ref (z + (a + 5))])
  | 10 => .inr (10, [.ref (z + (a + 1)), .ref (z + (a + 3)), .ref (z + (a + 5)), .ref (z + (a + 29)), .ref (z + (a + 53)), .int (jI (m 5)), .int (jI (m 6)), .ref (z + (a + 54)), .ref (z + (a + 55)), .ref (z + (a + 56)), .ref (z + (a + 64)), .ref (z + (a + 68)), .ref (z + (a + 71)), .ref (z + (a + 73))])
  | 11 => .inr (11, [.ref (z + (a + 1)), .ref (z + (a + 2)), .ref (z + (a + 3)), .ref (z + (a + 4)), .ref (z + (a + 5)), .ref (z + (a + 6)), .int (jI (m 6)), .int (jI (m 7)), .ref (z + (a + 7)), .ref (z + (a + 8)), .ref (z + (a + 9)), .ref (z + (a + 10)), .ref (z + (a + 11)), .ref (z + (a + 12)), .ref (z + (a + 13)), .ref (z + (a + 14)), .ref (z + (a + 15)), .int (jI (m 17)), .ref (z + (a + 16)), .ref (z + (a + 17)), .ref (z + (a + 18)), .int (jI (m 21)), .int (jI (m 22)), .ref (z + (a + 19)), .ref (z + (a + 20)), .ref (z + (a + 21)), .int (jI (m 26)), .int (jI (m 27)), .ref (z + (a + 22)), .int (jI (m 29)), .int (jI (m 30)), .int (jI (m 31)), .int (jI (m 32)), .int (jI (m 33)), .int (jI (m 34)), .int (jI (m 35)), .int (jI (m 36)), .int (jI (m 37)), .int (jI (m 38)), .ref (z + (a + 23)), .int (jI (m 40)), .int (jI (m 41)), .int (jI (m 42)), .ref (z + (a + 24)), .ref (z + (a + 25)), .ref (z + (a + 26)), .ref (z + (a + 27)), .int (jI (m 47)), .int (jI (m 48)), .ref (z + (a + 28)), .ref (z + (a + 29)), .int (jI (m 51))])
  | 20 => .inl (cy 0, kd.2, .inl (fun j => jI (m j)))
  | 21 => .inl (cy 1, kd.2, .inl (fun j => jI (m j)))
  | 22 => .inl (cy 2, kd.2, .inl (fun j => jI (m j)))
  | 23 => .inl (cy 3, kd.2, .inr (.inr (.inr (.inr (fun i => some (z + (74 + i * 24)))))))
  | 24 => .inl (cy 3, kd.2, .inr (.inr (.inr (.inr (fun i => some (z + (266 + i * 24)))))))
  | _ => .inl (cy 0, 0, .inl (fun _ => 0))
def Wd (cy : Nat → ClassId) (z : Nat) (Ly : jLy) (M : Mem) : va_W := (List.range Ly.1).map fun a => (z + a, cellOf cy z a (Ly.2 a) (M a))
theorem Wd_get {cy : Nat → ClassId} {z : Nat} {Ly : jLy} {M : Mem} {a : Nat} (h : a < Ly.1) : (Wd cy z Ly M)[a]? = some (z + a, cellOf cy z a (Ly.2 a) (M a)) := by
  simp [Wd, h]
theorem Wd_set {cy : Nat → ClassId} {z : Nat} {Ly : jLy} {M M' : Mem} {a : Nat} {e : va_E} (h : a < Ly.1) (he : cellOf cy z a (Ly.2 a) (M' a) = e) (ho : ∀ b, b ≠ a → M' b = M b) : (Wd cy z Ly M).set a (z + a, e) = Wd cy z Ly M' := by
  apply List.ext_getElem?
  intro i
  by_cases hi : i = a
  · subst hi
    rw [Wd_get h, he]
    have : i < (Wd cy z Ly M).length := by simp [Wd, h]
    simp [this]
  · rw [List.getElem?_set_ne (Ne.symm hi)]
    by_cases hb : i < Ly.1
    · rw [Wd_get hb, Wd_get hb, ho i hi]
    · rw [List.getElem?_eq_none (by simp [Wd]; omega), List.getElem?_eq_none (by simp [Wd]; omega)]
/-- the surroundings: numbers of classes and slots, array classes, the region that may be written, where Strings and their bytes lie, where the world begins -/
abbrev jE : Type := va_G × (Nat → ClassId) × (Nat → Prop) × (Nat → Nat) × (Nat → Nat) × (Nat → Nat)
abbrev eD (E : jE) : va_G := E.1
abbrev eC (E : jE) : Nat → ClassId := E.2.1
abbrev eA (E : jE) : Nat → Prop := E.2.2.1
abbrev eK (E : jE) : Nat → Nat := E.2.2.2.1
abbrev eV (E : jE) : Nat → Nat := E.2.2.2.2.1
abbrev eS (E : jE) : Nat → Nat := E.2.2.2.2.2
abbrev eT (E : jE) : List (ClassId × FieldType) := [(eC E 0, .int), (eC E 1, .byte), (eC E 2, .boolean), (eC E 3, .object "NewsReel$State"), (eC E 4, .long), (eC E 5, .double)]
theorem Wd_D {E : jE} {z : Nat} {Ly : jLy} {M : Mem} {A : Nat → Prop} (h : ∀ k, k < Ly.1 → A (z + k)) : va_D A (Wd (eC E) z Ly M) := by
  have hg : ∀ (i : Nat) (q : Nat × va_E), (Wd (eC E) z Ly M)[i]? = some q → i < Ly.1 ∧ q.1 = z + i := by
    intro i q hq
    have hi : i < Ly.1 := by
      have := (List.getElem?_eq_some_iff.mp hq).1
      simpa [Wd] using this
    rw [Wd_get hi] at hq
    cases hq
    exact ⟨hi, rfl⟩
  refine ⟨fun i j p q hp hq hpq => ?_, fun k q hq => ?_⟩
  · have h1 := (hg i p hp).2
    have h2 := (hg j q hq).2
    omega
  · rw [(hg k q hq).2]
    exact h k (hg k q hq).1
