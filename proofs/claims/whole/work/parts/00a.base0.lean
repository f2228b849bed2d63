/-! numbers, checks, memory -/
abbrev inR (x : Int) : Prop := -2147483648 ≤ x ∧ x < 2147483648
abbrev jI (x : Int) : Int32 := Int32.ofInt x
theorem jI_toInt {x : Int} (h : inR x) : (jI x).toInt = x := Int32.toInt_ofInt_of_le h.1 h.2
theorem jI_nat {x : Int} (h : inR x) : (jI x).toNatClampNeg = x.toNat := Int32.toNatClampNeg_ofInt_of_le h.1 h.2
theorem jI_of (v : Int32) : v = jI v.toInt := (Int32.ofInt_toInt v).symm
theorem jI_R (v : Int32) : inR v.toInt := ⟨Int32.le_toInt v, Int32.toInt_lt v⟩
theorem jI_inj {x y : Int} (hx : inR x) (hy : inR y) (h : jI x = jI y) : x = y := by
  have := congrArg Int32.toInt h
  rwa [jI_toInt hx, jI_toInt hy] at this
theorem jI_eq {x y : Int} (hx : inR x) (hy : inR y) : jI x = jI y ↔ x = y := ⟨jI_inj hx hy, fun h => by rw [h]⟩
theorem jI_lt {x y : Int} (hx : inR x) (hy : inR y) : jI x < jI y ↔ x < y := by
  rw [Int32.lt_iff_toInt_lt, jI_toInt hx, jI_toInt hy]
theorem jI_le {x y : Int} (hx : inR x) (hy : inR y) : jI x ≤ jI y ↔ x ≤ y := by
  rw [Int32.le_iff_toInt_le, jI_toInt hx, jI_toInt hy]
theorem jI_in {x : Int} {n : Nat} (h : 0 ≤ x ∧ x < (n : Int)) (hx : inR x) : vp_in (jI x) n := by
  intro q
  rcases q with q | q
  · have : jI x < jI 0 := q
    rw [jI_lt hx ⟨by decide, by decide⟩] at this
    omega
  · rw [jI_nat hx] at q
    omega
def ck {α : Type} (p : Prop) [Decidable p] (k : Option α) : Option α := if p then k else none
theorem ck_some {α : Type} {p : Prop} [Decidable p] {k : Option α} {r : α} (h : ck p k = some r) : p ∧ k = some r := by
  unfold ck at h
  by_cases hp : p
  · rw [if_pos hp] at h; exact ⟨hp, h⟩
  · rw [if_neg hp] at h; cases h
theorem ck_pos {α : Type} {p : Prop} [Decidable p] {k : Option α} (h : p) : ck p k = k := if_pos h
theorem bd_some {α β : Type} {o : Option α} {k : α → Option β} {r : β} (h : o.bind k = some r) : ∃ a, o = some a ∧ k a = some r := by
  cases o with
  | none => cases h
  | some a => exact ⟨a, rfl, h⟩
def lt {α β : Type} (x : α) (k : α → β) : β := k x
theorem lt_some {α β : Type} {x : α} {k : α → Option β} {r : β} (h : lt x k = some r) : ∃ x', x' = x ∧ k x' = some r := ⟨x, rfl, h⟩
def jn {α β : Type} (k : α) (b : α → β) : β := b k
/-- operations on Int by way of the machine's -/
def iand (x y : Int) : Int := (jI x &&& jI y).toInt
def ior (x y : Int) : Int := (jI x ||| jI y).toInt
def ixor (x y : Int) : Int := (jI x ^^^ jI y).toInt
def ishl (x y : Int) : Int := (jI x <<< (jI y &&& 31)).toInt
def ishr (x y : Int) : Int := (jI x >>> (jI y &&& 31)).toInt
def iushr (x y : Int) : Int := ((jI x).toUInt32 >>> ((jI y).toUInt32 &&& Int32.toUInt32 31)).toInt32.toInt
def idiv (x y : Int) : Int := (jI x / jI y).toInt
def irem (x y : Int) : Int := (jI x - jI x / jI y * jI y).toInt
def i2b (x : Int) : Int := (jI x).toInt8.toInt32.toInt
def i2c (x : Int) : Int := ((jI x).toUInt32 % 65536).toInt32.toInt
def bar8 (x : Int) : Int := (vp_nar .byte (jI x)).toInt
def bar1 (x : Int) : Int := (vp_nar .boolean (jI x)).toInt
/-- the memory: cell, slot -/
abbrev Mem : Type := Nat → Nat → Int
def updr (m : Nat → Int) (k : Nat) (v : Int) : Nat → Int := fun j => if j = k then v else m j
def upm (M : Mem) (a k : Nat) (v : Int) : Mem := fun b => if b = a then updr (M a) k v else M b
def cpr (f g : Nat → Int) (sp dp n : Nat) : Nat → Int := fun k => if dp ≤ k ∧ k < dp + n then f (sp + (k - dp)) else g k
def cpm (M : Mem) (a sp b dp n : Nat) : Mem := fun c => if c = b then cpr (M a) (M b) sp dp n else M c
abbrev jLy : Type := Nat × (Nat → Nat × Nat)
/-- what an entry of a cell of this kind may be -/
def inK (kd : Nat) (x : Int) : Prop := if kd = 21 then -128 ≤ x ∧ x ≤ 127 else if kd = 22 then x = 0 ∨ x = 1 else inR x
theorem inK_R {kd : Nat} {x : Int} (h : inK kd x) : inR x := by
  unfold inK at h
  split at h
  · exact ⟨by omega, by omega⟩
  · split at h
    · rcases h with h | h <;> rw [h] <;> exact ⟨by decide, by decide⟩
    · exact h
theorem inK_of {kd : Nat} {x : Int} (h1 : kd ≠ 21) (h2 : kd ≠ 22) (h : inR x) : inK kd x := by
  unfold inK
  rw [if_neg h1, if_neg h2]; exact h
abbrev Mok (Ly : jLy) (M : Mem) : Prop := ∀ a k, inK (Ly.2 a).1 (M a k)
theorem updr_at (m : Nat → Int) (k : Nat) (v : Int) : updr m k v k = v := if_pos rfl
theorem updr_ne {m : Nat → Int} {k j : Nat} {v : Int} (h : j ≠ k) : updr m k v j = m j := if_neg h
theorem upm_row (M : Mem) (a k : Nat) (v : Int) : upm M a k v a = updr (M a) k v := if_pos rfl
theorem upm_ne {M : Mem} {a b k : Nat} {v : Int} (h : b ≠ a) : upm M a k v b = M b := if_neg h
theorem rd_skip {M M2 : Mem} {a b k j : Nat} {v x : Int} (e : M2 = upm M a k v) (h : b ≠ a) (h1 : M b j = x) : M2 b j = x := by rw [e, upm_ne h]; exact h1
theorem rd_slot {M M2 : Mem} {a k j : Nat} {v x : Int} (e : M2 = upm M a k v) (h : j ≠ k) (h1 : M a j = x) : M2 a j = x := by rw [e, upm_row, updr_ne h]; exact h1
theorem rd_hit {M M2 : Mem} {a k : Nat} {v : Int} (e : M2 = upm M a k v) : M2 a k = v := by rw [e, upm_row, updr_at]
theorem rd_cskip {M M2 : Mem} {a sp b dp n c j : Nat} {x : Int} (e : M2 = cpm M a sp b dp n) (h : c ≠ b) (h1 : M c j = x) : M2 c j = x := by rw [e]; unfold cpm; rw [if_neg h]; exact h1
theorem ne_off {s i j : Nat} (h : i ≠ j) : s + i ≠ s + j := fun q => h (Nat.add_left_cancel q)
theorem upm_ok {Ly : jLy} {M : Mem} {a k : Nat} {v : Int} (hM : Mok Ly M) (hv : inK (Ly.2 a).1 v) : Mok Ly (upm M a k v) := by
  intro b j
  unfold upm
  by_cases hb : b = a
  · rw [if_pos hb]; unfold updr
    subst hb
    by_cases hj : j = k
    · rw [if_pos hj]; exact hv
    · rw [if_neg hj]; exact hM b j
  · rw [if_neg hb]; exact hM b j
theorem cpm_ok {Ly : jLy} {M : Mem} {a sp b dp n : Nat} (hk : (Ly.2 a).1 = (Ly.2 b).1) (hM : Mok Ly M) : Mok Ly (cpm M a sp b dp n) := by
  intro c j
  unfold cpm
  by_cases hb : c = b
  · rw [if_pos hb]; unfold cpr
    subst hb
    by_cases hj : dp ≤ j ∧ j < dp + n
    · rw [if_pos hj, ← hk]; exact hM _ _
    · rw [if_neg hj]; exact hM _ _
  · rw [if_neg hb]; exact hM c j
/-! tables -/
def nST : Nat := 23
def lenST : List Nat := [4, 3, 3, 4, 5, 5, 5, 5, 6, 3, 4, 2, 5, 4, 7, 4, 6, 4, 39, 25, 23, 22, 2]
def bytST : List (List Int32) := [[115, 104, 111, 116], [109, 97, 112], [98, 97, 110], [119, 101, 101, 107], [115, 112, 101, 101, 100], [112, 97, 117, 115, 101], [108, 101, 97, 115, 116], [115, 108, 97, 99, 107], [114, 101, 112, 101, 97, 116], [109, 105, 120], [102, 114, 111, 109], [116, 111], [115, 104, 111, 116, 32], [109, 97, 112, 32], [114, 101, 112, 101, 97, 116, 32], [109, 105, 120, 32], [32, 102, 114, 111, 109, 32], [32, 116, 111, 32], [116, 104, 101, 32, 116, 101, 120, 116, 32, 119, 111, 117, 108, 100, 32, 98, 101, 32, 108, 111, 110, 103, 101, 114, 32, 116, 104, 97, 110, 32, 53, 48, 48, 32, 98, 121, 116, 101, 115], [116, 104, 101, 32, 118, 97, 108, 117, 101, 32, 105, 115, 32, 111, 117, 116, 32, 111, 102, 32, 114, 97, 110, 103, 101], [116, 104, 101, 114, 101, 32, 105, 115, 32, 110, 111, 32, 115, 117, 99, 104, 32, 110, 117, 109, 98, 101, 114], [110, 111, 116, 104, 105, 110, 103, 32, 105, 115, 32, 115, 97, 118, 101, 100, 32, 116, 104, 101, 114, 101], [125, 59]]
def strST : List (String × Nat × String × Nat) := [("NewsReel$Library", 84, "shot", 0), ("NewsReel$Library", 93, "map", 1), ("NewsReel$Library", 98, "ban", 2), ("NewsReel$Library", 114, "week", 3), ("NewsReel$Library", 116, "speed", 4), ("NewsReel$Library", 118, "pause", 5), ("NewsReel$Library", 120, "least", 6), ("NewsReel$Library", 122, "slack", 7), ("NewsReel$Items", 103, "shot", 0), ("NewsReel$Items", 109, "map", 1), ("NewsReel$Items", 111, "repeat", 8), ("NewsReel$Items", 113, "mix", 9), ("NewsReel$Items", 126, "from", 10), ("NewsReel$Items", 128, "to", 11), ("NewsReel$Output", 50, "shot ", 12), ("NewsReel$Output", 56, "map ", 13), ("NewsReel$Output", 58, "repeat ", 14), ("NewsReel$Output", 60, "mix ", 15), ("NewsReel$Output", 77, " from ", 16), ("NewsReel$Output", 82, " to ", 17), ("NewsReel", 88, "the text would be longer than 500 bytes", 18), ("NewsReel", 378, "the value is out of range", 19), ("NewsReel", 373, "there is no such number", 20), ("NewsReel", 369, "nothing is saved there", 21), ("NewsReelModel", 314, "shot", 0), ("NewsReelModel", 319, "map", 1), ("NewsReelModel", 324, "ban", 2), ("NewsReelModel", 329, "week", 3), ("NewsReelModel", 335, "speed", 4), ("NewsReelModel", 337, "pause", 5), ("NewsReelModel", 339, "least", 6), ("NewsReelModel", 341, "slack", 7), ("NewsReelModel", 380, "repeat", 8), ("NewsReelModel", 382, "mix", 9), ("NewsReelModel", 365, "from", 10), ("NewsReelModel", 367, "to", 11), ("NewsReelModel", 515, "shot ", 12), ("NewsReelModel", 523, " from ", 16), ("NewsReelModel", 525, " to ", 17), ("NewsReelModel", 530, "map ", 13), ("NewsReelModel", 532, "};", 22), ("NewsReelModel", 534, "repeat ", 14), ("NewsReelModel", 536, "mix ", 15)]
def jTab (t : Nat) : List Int := match t with
  | 0 => [0, 4, 10, 8, 0]
  | 1 => [0, 1, 0, 1, 0]
  | _ => [99, 20, 50, 50, 100]
def jTabN (t : Nat) : String := match t with
  | 0 => "SETTING_AT_FIRST"
  | 1 => "SETTING_LOWEST"
  | _ => "SETTING_HIGHEST"
theorem iand_R (x y : Int) : inR (iand x y) := jI_R _
theorem ior_R (x y : Int) : inR (ior x y) := jI_R _
theorem ixor_R (x y : Int) : inR (ixor x y) := jI_R _
theorem ishl_R (x y : Int) : inR (ishl x y) := jI_R _
theorem ishr_R (x y : Int) : inR (ishr x y) := jI_R _
theorem iushr_R (x y : Int) : inR (iushr x y) := jI_R _
theorem idiv_R (x y : Int) : inR (idiv x y) := jI_R _
theorem irem_R (x y : Int) : inR (irem x y) := jI_R _
theorem i2b_R (x : Int) : inR (i2b x) := jI_R _
theorem i2c_R (x : Int) : inR (i2c x) := jI_R _
theorem ifp {α : Type} {p : Prop} [Decidable p] {a b r : α} (c : p) (h : (if p then a else b) = r) : a = r := by rw [if_pos c] at h; exact h
theorem ifn {α : Type} {p : Prop} [Decidable p] {a b r : α} (c : ¬ p) (h : (if p then a else b) = r) : b = r := by rw [if_neg c] at h; exact h
theorem jn_some {α β : Type} {k : α} {b : α → Option β} {r : β} (h : jn k b = some r) : ∃ k', k' = k ∧ b k' = some r := ⟨k, rfl, h⟩
theorem jTab_R (t i : Nat) : inR ((jTab t).getD i 0) := by
  have h : ∀ l : List Int, (∀ x ∈ l, inR x) → inR (l.getD i 0) := by
    intro l hl
    rw [List.getD_eq_getElem?_getD]
    cases hi : l[i]? with
    | none => exact ⟨by decide, by decide⟩
    | some v => exact hl v (List.mem_of_getElem? hi)
  unfold jTab
  split <;> exact h _ (by decide)
theorem min_R {x y : Int} (hx : inR x) (hy : inR y) : inR (min x y) := ⟨by have := hx.1; have := hy.1; omega, by have := hx.2; have := hy.2; omega⟩
theorem max_R {x y : Int} (hx : inR x) (hy : inR y) : inR (max x y) := ⟨by have := hx.1; have := hy.1; omega, by have := hx.2; have := hy.2; omega⟩
def jFuel : Nat := 10000000
/-! the two layouts -/
def layC : List (Nat × Nat) := [(10, 0), (8, 0), (21, 500), (4, 0), (21, 1000), (7, 0), (3, 0), (20, 12), (20, 12), (21, 48), (20, 6), (20, 10), (20, 10), (20, 10), (20, 5), (22, 5), (9, 0), (21, 500), (20, 60), (20, 60), (20, 60), (22, 60), (2, 0), (20, 30), (20, 30), (20, 30), (20, 30), (20, 30), (20, 5), (7, 0), (3, 0), (20, 12), (20, 12), (21, 48), (20, 6), (20, 10), (20, 10), (20, 10), (20, 5), (22, 5), (9, 0), (21, 500), (20, 60), (20, 60), (20, 60), (22, 60), (2, 0), (20, 30), (20, 30), (20, 30), (20, 30), (20, 30), (20, 5), (23, 8), (24, 2), (22, 2), (5, 0), (20, 60), (20, 60), (20, 60), (20, 60), (20, 60), (20, 60), (20, 5), (6, 0), (20, 60), (20, 60), (20, 60), (1, 0), (20, 241), (20, 241), (0, 0), (20, 4096), (20, 7), (7, 0), (3, 0), (20, 12), (20, 12), (21, 48), (20, 6), (20, 10), (20, 10), (20, 10), (20, 5), (22, 5), (9, 0), (21, 500), (20, 60), (20, 60), (20, 60), (22, 60), (2, 0), (20, 30), (20, 30), (20, 30), (20, 30), (20, 30), (20, 5), (7, 0), (3, 0), (20, 12), (20, 12), (21, 48), (20, 6), (20, 10), (20, 10), (20, 10), (20, 5), (22, 5), (9, 0), (21, 500), (20, 60), (20, 60), (20, 60), (22, 60), (2, 0), (20, 30), (20, 30), (20, 30), (20, 30), (20, 30), (20, 5), (7, 0), (3, 0), (20, 12), (20, 12), (21, 48), (20, 6), (20, 10), (20, 10), (20, 10), (20, 5), (22, 5), (9, 0), (21, 500), (20, 60), (20, 60), (20, 60), (22, 60), (2, 0), (20, 30), (20, 30), (20, 30), (20, 30), (20, 30), (20, 5), (7, 0), (3, 0), (20, 12), (20, 12), (21, 48), (20, 6), (20, 10), (20, 10), (20, 10), (20, 5), (22, 5), (9, 0), (21, 500), (20, 60), (20, 60), (20, 60), (22, 60), (2, 0), (20, 30), (20, 30), (20, 30), (20, 30), (20, 30), (20, 5), (7, 0), (3, 0), (20, 12), (20, 12), (21, 48), (20, 6), (20, 10), (20, 10), (20, 10), (20, 5), (22, 5), (9, 0), (21, 500), (20, 60), (20, 60), (20, 60), (22, 60), (2, 0), (20, 30), (20, 30), (20, 30), (20, 30), (20, 30), (20, 5), (7, 0), (3, 0), (20, 12), (20, 12), (21, 48), (20, 6), (20, 10), (20, 10), (20, 10), (20, 5), (22, 5), (9, 0), (21, 500), (20, 60), (20, 60), (20, 60), (22, 60), (2, 0), (20, 30), (20, 30), (20, 30), (20, 30), (20, 30), (20, 5), (7, 0), (3, 0), (20, 12), (20, 12), (21, 48), (20, 6), (20, 10), (20, 10), (20, 10), (20, 5), (22, 5), (9, 0), (21, 500), (20, 60), (20, 60), (20, 60), (22, 60), (2, 0), (20, 30), (20, 30), (20, 30), (20, 30), (20, 30), (20, 5), (7, 0), (3, 0), (20, 12), (20, 12), (21, 48), (20, 6), (20, 10), (20, 10), (20, 10), (20, 5), (22, 5), (9, 0), (21, 500), (20, 60), (20, 60), (20, 60), (22, 60), (2, 0), (20, 30), (20, 30), (20, 30), (20, 30), (20, 30), (20, 5), (7, 0), (3, 0), (20, 12), (20, 12), (21, 48), (20, 6), (20, 10), (20, 10), (20, 10), (20, 5), (22, 5), (9, 0), (21, 500), (20, 60), (20, 60), (20, 60), (22, 60), (2, 0), (20, 30), (20, 30), (20, 30), (20, 30), (20, 30), (20, 5), (7, 0), (3, 0), (20, 12), (20, 12), (21, 48), (20, 6), (20, 10), (20, 10), (20, 10), (20, 5), (22, 5), (9, 0), (21, 500), (20, 60), (20, 60), (20, 60), (22, 60), (2, 0), (20, 30), (20, 30), (20, 30), (20, 30), (20, 30), (20, 5)]
def layR : List (Nat × Nat) := [(11, 0), (20, 1062), (20, 1062), (20, 8496), (20, 2124), (20, 7), (22, 2), (20, 64), (20, 64), (20, 64), (20, 64), (20, 64), (20, 64), (20, 64), (20, 256), (20, 256), (20, 8), (20, 8), (20, 8), (20, 64), (20, 64), (20, 4096), (20, 500), (20, 256), (20, 500), (20, 64), (20, 64), (20, 64), (20, 256), (20, 1200)]
def LyC : jLy := (314, fun a => layC.getD a (99, 0))
def LyR : jLy := (30, fun a => layR.getD a (99, 0))
def jSt : List Nat := [5, 29, 74, 98, 122, 146, 170, 194, 218, 242, 266, 290]
abbrev isSt (s : Nat) : Prop := s ∈ jSt
def layS : List (Nat × Nat) := [(7, 0), (3, 0), (20, 12), (20, 12), (21, 48), (20, 6), (20, 10), (20, 10), (20, 10), (20, 5), (22, 5), (9, 0), (21, 500), (20, 60), (20, 60), (20, 60), (22, 60), (2, 0), (20, 30), (20, 30), (20, 30), (20, 30), (20, 30), (20, 5)]
theorem st_lay : ∀ s ∈ jSt, ∀ k, k < 24 → s + k < LyC.1 ∧ LyC.2 (s + k) = layS.getD k (99, 0) := by decide +kernel
theorem ls_0 {s : Nat} (hs : isSt s) : s + 0 < LyC.1 ∧ LyC.2 (s + 0) = (7, 0) := st_lay s hs 0 (by decide)
theorem ls_1 {s : Nat} (hs : isSt s) : s + 1 < LyC.1 ∧ LyC.2 (s + 1) = (3, 0) := st_lay s hs 1 (by decide)
theorem ls_2 {s : Nat} (hs : isSt s) : s + 2 < LyC.1 ∧ LyC.2 (s + 2) = (20, 12) := st_lay s hs 2 (by decide)
theorem ls_3 {s : Nat} (hs : isSt s) : s + 3 < LyC.1 ∧ LyC.2 (s + 3) = (20, 12) := st_lay s hs 3 (by decide)
theorem ls_4 {s : Nat} (hs : isSt s) : s + 4 < LyC.1 ∧ LyC.2 (s + 4) = (21, 48) := st_lay s hs 4 (by decide)
theorem ls_5 {s : Nat} (hs : isSt s) : s + 5 < LyC.1 ∧ LyC.2 (s + 5) = (20, 6) := st_lay s hs 5 (by decide)
theorem ls_6 {s : Nat} (hs : isSt s) : s + 6 < LyC.1 ∧ LyC.2 (s + 6) = (20, 10) := st_lay s hs 6 (by decide)
theorem ls_7 {s : Nat} (hs : isSt s) : s + 7 < LyC.1 ∧ LyC.2 (s + 7) = (20, 10) := st_lay s hs 7 (by decide)
theorem ls_8 {s : Nat} (hs : isSt s) : s + 8 < LyC.1 ∧ LyC.2 (s + 8) = (20, 10) := st_lay s hs 8 (by decide)
theorem ls_9 {s : Nat} (hs : isSt s) : s + 9 < LyC.1 ∧ LyC.2 (s + 9) = (20, 5) := st_lay s hs 9 (by decide)
theorem ls_10 {s : Nat} (hs : isSt s) : s + 10 < LyC.1 ∧ LyC.2 (s + 10) = (22, 5) := st_lay s hs 10 (by decide)
theorem ls_11 {s : Nat} (hs : isSt s) : s + 11 < LyC.1 ∧ LyC.2 (s + 11) = (9, 0) := st_lay s hs 11 (by decide)
theorem ls_12 {s : Nat} (hs : isSt s) : s + 12 < LyC.1 ∧ LyC.2 (s + 12) = (21, 500) := st_lay s hs 12 (by decide)
theorem ls_13 {s : Nat} (hs : isSt s) : s + 13 < LyC.1 ∧ LyC.2 (s + 13) = (20, 60) := st_lay s hs 13 (by decide)
theorem ls_14 {s : Nat} (hs : isSt s) : s + 14 < LyC.1 ∧ LyC.2 (s + 14) = (20, 60) := st_lay s hs 14 (by decide)
theorem ls_15 {s : Nat} (hs : isSt s) : s + 15 < LyC.1 ∧ LyC.2 (s + 15) = (20, 60) := st_lay s hs 15 (by decide)
theorem ls_16 {s : Nat} (hs : isSt s) : s + 16 < LyC.1 ∧ LyC.2 (s + 16) = (22, 60) := st_lay s hs 16 (by decide)
theorem ls_17 {s : Nat} (hs : isSt s) : s + 17 < LyC.1 ∧ LyC.2 (s + 17) = (2, 0) := st_lay s hs 17 (by decide)
theorem ls_18 {s : Nat} (hs : isSt s) : s + 18 < LyC.1 ∧ LyC.2 (s + 18) = (20, 30) := st_lay s hs 18 (by decide)
theorem ls_19 {s : Nat} (hs : isSt s) : s + 19 < LyC.1 ∧ LyC.2 (s + 19) = (20, 30) := st_lay s hs 19 (by decide)
theorem ls_20 {s : Nat} (hs : isSt s) : s + 20 < LyC.1 ∧ LyC.2 (s + 20) = (20, 30) := st_lay s hs 20 (by decide)
theorem ls_21 {s : Nat} (hs : isSt s) : s + 21 < LyC.1 ∧ LyC.2 (s + 21) = (20, 30) := st_lay s hs 21 (by decide)
theorem ls_22 {s : Nat} (hs : isSt s) : s + 22 < LyC.1 ∧ LyC.2 (s + 22) = (20, 30) := st_lay s hs 22 (by decide)
theorem ls_23 {s : Nat} (hs : isSt s) : s + 23 < LyC.1 ∧ LyC.2 (s + 23) = (20, 5) := st_lay s hs 23 (by decide)
theorem lc_0 : 0 < LyC.1 ∧ LyC.2 0 = (10, 0) := ⟨by decide, by decide +kernel⟩
theorem lc_1 : 1 < LyC.1 ∧ LyC.2 1 = (8, 0) := ⟨by decide, by decide +kernel⟩
theorem lc_2 : 2 < LyC.1 ∧ LyC.2 2 = (21, 500) := ⟨by decide, by decide +kernel⟩
theorem lc_3 : 3 < LyC.1 ∧ LyC.2 3 = (4, 0) := ⟨by decide, by decide +kernel⟩
theorem lc_4 : 4 < LyC.1 ∧ LyC.2 4 = (21, 1000) := ⟨by decide, by decide +kernel⟩
theorem lc_5 : 5 < LyC.1 ∧ LyC.2 5 = (7, 0) := ⟨by decide, by decide +kernel⟩
theorem lc_6 : 6 < LyC.1 ∧ LyC.2 6 = (3, 0) := ⟨by decide, by decide +kernel⟩
theorem lc_7 : 7 < LyC.1 ∧ LyC.2 7 = (20, 12) := ⟨by decide, by decide +kernel⟩
theorem lc_8 : 8 < LyC.1 ∧ LyC.2 8 = (20, 12) := ⟨by decide, by decide +kernel⟩
theorem lc_9 : 9 < LyC.1 ∧ LyC.2 9 = (21, 48) := ⟨by decide, by decide +kernel⟩
theorem lc_10 : 10 < LyC.1 ∧ LyC.2 10 = (20, 6) := ⟨by decide, by decide +kernel⟩
theorem lc_11 : 11 < LyC.1 ∧ LyC.2 11 = (20, 10) := ⟨by decide, by decide +kernel⟩
theorem lc_12 : 12 < LyC.1 ∧ LyC.2 12 = (20, 10) := ⟨by decide, by decide +kernel⟩
theorem lc_13 : 13 < LyC.1 ∧ LyC.2 13 = (20, 10) := ⟨by decide, by decide +kernel⟩
theorem lc_14 : 14 < LyC.1 ∧ LyC.2 14 = (20, 5) := ⟨by decide, by decide +kernel⟩
theorem lc_15 : 15 < LyC.1 ∧ LyC.2 15 = (22, 5) := ⟨by decide, by decide +kernel⟩
theorem lc_16 : 16 < LyC.1 ∧ LyC.2 16 = (9, 0) := ⟨by decide, by decide +kernel⟩
theorem lc_17 : 17 < LyC.1 ∧ LyC.2 17 = (21, 500) := ⟨by decide, by decide +kernel⟩
theorem lc_18 : 18 < LyC.1 ∧ LyC.2 18 = (20, 60) := ⟨by decide, by decide +kernel⟩
theorem lc_19 : 19 < LyC.1 ∧ LyC.2 19 = (20, 60) := ⟨by decide, by decide +kernel⟩
theorem lc_20 : 20 < LyC.1 ∧ LyC.2 20 = (20, 60) := ⟨by decide, by decide +kernel⟩
theorem lc_21 : 21 < LyC.1 ∧ LyC.2 21 = (22, 60) := ⟨by decide, by decide +kernel⟩
theorem lc_22 : 22 < LyC.1 ∧ LyC.2 22 = (2, 0) := ⟨by decide, by decide +kernel⟩
theorem lc_23 : 23 < LyC.1 ∧ LyC.2 23 = (20, 30) := ⟨by decide, by decide +kernel⟩
theorem lc_24 : 24 < LyC.1 ∧ LyC.2 24 = (20, 30) := ⟨by decide, by decide +kernel⟩
theorem lc_25 : 25 < LyC.1 ∧ LyC.2 25 = (20, 30) := ⟨by decide, by decide +kernel⟩
theorem lc_26 : 26 < LyC.1 ∧ LyC.2 26 = (20, 30) := ⟨by decide, by decide +kernel⟩
theorem lc_27 : 27 < LyC.1 ∧ LyC.2 27 = (20, 30) := ⟨by decide, by decide +kernel⟩
theorem lc_28 : 28 < LyC.1 ∧ LyC.2 28 = (20, 5) := ⟨by decide, by decide +kernel⟩
theorem lc_29 : 29 < LyC.1 ∧ LyC.2 29 = (7, 0) := ⟨by decide, by decide +kernel⟩
theorem lc_30 : 30 < LyC.1 ∧ LyC.2 30 = (3, 0) := ⟨by decide, by decide +kernel⟩
theorem lc_31 : 31 < LyC.1 ∧ LyC.2 31 = (20, 12) := ⟨by decide, by decide +kernel⟩
theorem lc_32 : 32 < LyC.1 ∧ LyC.2 32 = (20, 12) := ⟨by decide, by decide +kernel⟩
theorem lc_33 : 33 < LyC.1 ∧ LyC.2 33 = (21, 48) := ⟨by decide, by decide +kernel⟩
theorem lc_34 : 34 < LyC.1 ∧ LyC.2 34 = (20, 6) := ⟨by decide, by decide +kernel⟩
theorem lc_35 : 35 < LyC.1 ∧ LyC.2 35 = (20, 10) := ⟨by decide, by decide +kernel⟩
theorem lc_36 : 36 < LyC.1 ∧ LyC.2 36 = (20, 10) := ⟨by decide, by decide +kernel⟩
theorem lc_37 : 37 < LyC.1 ∧ LyC.2 37 = (20, 10) := ⟨by decide, by decide +kernel⟩
theorem lc_38 : 38 < LyC.1 ∧ LyC.2 38 = (20, 5) := ⟨by decide, by decide +kernel⟩
theorem lc_39 : 39 < LyC.1 ∧ LyC.2 39 = (22, 5) := ⟨by decide, by decide +kernel⟩
theorem lc_40 : 40 < LyC.1 ∧ LyC.2 40 = (9, 0) := ⟨by decide, by decide +kernel⟩
theorem lc_41 : 41 < LyC.1 ∧ LyC.2 41 = (21, 500) := ⟨by decide, by decide +kernel⟩
theorem lc_42 : 42 < LyC.1 ∧ LyC.2 42 = (20, 60) := ⟨by decide, by decide +kernel⟩
theorem lc_43 : 43 < LyC.1 ∧ LyC.2 43 = (20, 60) := ⟨by decide, by decide +kernel⟩
theorem lc_44 : 44 < LyC.1 ∧ LyC.2 44 = (20, 60) := ⟨by decide, by decide +kernel⟩
theorem lc_45 : 45 < LyC.1 ∧ LyC.2 45 = (22, 60) := ⟨by decide, by decide +kernel⟩
theorem lc_46 : 46 < LyC.1 ∧ LyC.2 46 = (2, 0) := ⟨by decide, by decide +kernel⟩
theorem lc_47 : 47 < LyC.1 ∧ LyC.2 47 = (20, 30) := ⟨by decide, by decide +kernel⟩
theorem lc_48 : 48 < LyC.1 ∧ LyC.2 48 = (20, 30) := ⟨by decide, by decide +kernel⟩
theorem lc_49 : 49 < LyC.1 ∧ LyC.2 49 = (20, 30) := ⟨by decide, by decide +kernel⟩
theorem lc_50 : 50 < LyC.1 ∧ LyC.2 50 = (20, 30) := ⟨by decide, by decide +kernel⟩
theorem lc_51 : 51 < LyC.1 ∧ LyC.2 51 = (20, 30) := ⟨by decide, by decide +kernel⟩
theorem lc_52 : 52 < LyC.1 ∧ LyC.2 52 = (20, 5) := ⟨by decide, by decide +kernel⟩
theorem lc_53 : 53 < LyC.1 ∧ LyC.2 53 = (23, 8) := ⟨by decide, by decide +kernel⟩
theorem lc_54 : 54 < LyC.1 ∧ LyC.2 54 = (24, 2) := ⟨by decide, by decide +kernel⟩
theorem lc_55 : 55 < LyC.1 ∧ LyC.2 55 = (22, 2) := ⟨by decide, by decide +kernel⟩
theorem lc_56 : 56 < LyC.1 ∧ LyC.2 56 = (5, 0) := ⟨by decide, by decide +kernel⟩
theorem lc_57 : 57 < LyC.1 ∧ LyC.2 57 = (20, 60) := ⟨by decide, by decide +kernel⟩
theorem lc_58 : 58 < LyC.1 ∧ LyC.2 58 = (20, 60) := ⟨by decide, by decide +kernel⟩
theorem lc_59 : 59 < LyC.1 ∧ LyC.2 59 = (20, 60) := ⟨by decide, by decide +kernel⟩
theorem lc_60 : 60 < LyC.1 ∧ LyC.2 60 = (20, 60) := ⟨by decide, by decide +kernel⟩
theorem lc_61 : 61 < LyC.1 ∧ LyC.2 61 = (20, 60) := ⟨by decide, by decide +kernel⟩
theorem lc_62 : 62 < LyC.1 ∧ LyC.2 62 = (20, 60) := ⟨by decide, by decide +kernel⟩
theorem lc_63 : 63 < LyC.1 ∧ LyC.2 63 = (20, 5) := ⟨by decide, by decide +kernel⟩
theorem lc_64 : 64 < LyC.1 ∧ LyC.2 64 = (6, 0) := ⟨by decide, by decide +kernel⟩
theorem lc_65 : 65 < LyC.1 ∧ LyC.2 65 = (20, 60) := ⟨by decide, by decide +kernel⟩
theorem lc_66 : 66 < LyC.1 ∧ LyC.2 66 = (20, 60) := ⟨by decide, by decide +kernel⟩
theorem lc_67 : 67 < LyC.1 ∧ LyC.2 67 = (20, 60) := ⟨by decide, by decide +kernel⟩
theorem lc_68 : 68 < LyC.1 ∧ LyC.2 68 = (1, 0) := ⟨by decide, by decide +kernel⟩
theorem lc_69 : 69 < LyC.1 ∧ LyC.2 69 = (20, 241) := ⟨by decide, by decide +kernel⟩
theorem lc_70 : 70 < LyC.1 ∧ LyC.2 70 = (20, 241) := ⟨by decide, by decide +kernel⟩
theorem lc_71 : 71 < LyC.1 ∧ LyC.2 71 = (0, 0) := ⟨by decide, by decide +kernel⟩
theorem lc_72 : 72 < LyC.1 ∧ LyC.2 72 = (20, 4096) := ⟨by decide, by decide +kernel⟩
theorem lc_73 : 73 < LyC.1 ∧ LyC.2 73 = (20, 7) := ⟨by decide, by decide +kernel⟩
theorem lr_0 : 0 < LyR.1 ∧ LyR.2 0 = (11, 0) := ⟨by decide, by decide +kernel⟩
theorem lr_1 : 1 < LyR.1 ∧ LyR.2 1 = (20, 1062) := ⟨by decide, by decide +kernel⟩
theorem lr_2 : 2 < LyR.1 ∧ LyR.2 2 = (20, 1062) := ⟨by decide, by decide +kernel⟩
theorem lr_3 : 3 < LyR.1 ∧ LyR.2 3 = (20, 8496) := ⟨by decide, by decide +kernel⟩
theorem lr_4 : 4 < LyR.1 ∧ LyR.2 4 = (20, 2124) := ⟨by decide, by decide +kernel⟩
theorem lr_5 : 5 < LyR.1 ∧ LyR.2 5 = (20, 7) := ⟨by decide, by decide +kernel⟩
theorem lr_6 : 6 < LyR.1 ∧ LyR.2 6 = (22, 2) := ⟨by decide, by decide +kernel⟩
theorem lr_7 : 7 < LyR.1 ∧ LyR.2 7 = (20, 64) := ⟨by decide, by decide +kernel⟩
theorem lr_8 : 8 < LyR.1 ∧ LyR.2 8 = (20, 64) := ⟨by decide, by decide +kernel⟩
theorem lr_9 : 9 < LyR.1 ∧ LyR.2 9 = (20, 64) := ⟨by decide, by decide +kernel⟩
theorem lr_10 : 10 < LyR.1 ∧ LyR.2 10 = (20, 64) := ⟨by decide, by decide +kernel⟩
theorem lr_11 : 11 < LyR.1 ∧ LyR.2 11 = (20, 64) := ⟨by decide, by decide +kernel⟩
theorem lr_12 : 12 < LyR.1 ∧ LyR.2 12 = (20, 64) := ⟨by decide, by decide +kernel⟩
theorem lr_13 : 13 < LyR.1 ∧ LyR.2 13 = (20, 64) := ⟨by decide, by decide +kernel⟩
theorem lr_14 : 14 < LyR.1 ∧ LyR.2 14 = (20, 256) := ⟨by decide, by decide +kernel⟩
theorem lr_15 : 15 < LyR.1 ∧ LyR.2 15 = (20, 256) := ⟨by decide, by decide +kernel⟩
theorem lr_16 : 16 < LyR.1 ∧ LyR.2 16 = (20, 8) := ⟨by decide, by decide +kernel⟩
theorem lr_17 : 17 < LyR.1 ∧ LyR.2 17 = (20, 8) := ⟨by decide, by decide +kernel⟩
theorem lr_18 : 18 < LyR.1 ∧ LyR.2 18 = (20, 8) := ⟨by decide, by decide +kernel⟩
theorem lr_19 : 19 < LyR.1 ∧ LyR.2 19 = (20, 64) := ⟨by decide, by decide +kernel⟩
theorem lr_20 : 20 < LyR.1 ∧ LyR.2 20 = (20, 64) := ⟨by decide, by decide +kernel⟩
theorem lr_21 : 21 < LyR.1 ∧ LyR.2 21 = (20, 4096) := ⟨by decide, by decide +kernel⟩
theorem lr_22 : 22 < LyR.1 ∧ LyR.2 22 = (20, 500) := ⟨by decide, by decide +kernel⟩
theorem lr_23 : 23 < LyR.1 ∧ LyR.2 23 = (20, 256) := ⟨by decide, by decide +kernel⟩
theorem lr_24 : 24 < LyR.1 ∧ LyR.2 24 = (20, 500) := ⟨by decide, by decide +kernel⟩
theorem lr_25 : 25 < LyR.1 ∧ LyR.2 25 = (20, 64) := ⟨by decide, by decide +kernel⟩
theorem lr_26 : 26 < LyR.1 ∧ LyR.2 26 = (20, 64) := ⟨by decide, by decide +kernel⟩
theorem lr_27 : 27 < LyR.1 ∧ LyR.2 27 = (20, 64) := ⟨by decide, by decide +kernel⟩
theorem lr_28 : 28 < LyR.1 ∧ LyR.2 28 = (20, 256) := ⟨by decide, by decide +kernel⟩
theorem lr_29 : 29 < LyR.1 ∧ LyR.2 29 = (20, 1200) := ⟨by decide, by decide +kernel⟩
theorem st_past {i : Int} (h : 0 ≤ i ∧ i < 8) : isSt (74 + i.toNat * 24) := by
  have : i.toNat = 0 ∨ i.toNat = 1 ∨ i.toNat = 2 ∨ i.toNat = 3 ∨ i.toNat = 4 ∨ i.toNat = 5 ∨ i.toNat = 6 ∨ i.toNat = 7 := by omega
  rcases this with h | h | h | h | h | h | h | h <;> rw [h] <;> decide
theorem st_saved {i : Int} (h : 0 ≤ i ∧ i < 2) : isSt (266 + i.toNat * 24) := by
  have : i.toNat = 0 ∨ i.toNat = 1 := by omega
  rcases this with h | h <;> rw [h] <;> decide
def chST (i j : Nat) : Int := i2c (iand ((bytST.getD i []).getD j 0).toInt 255)
theorem lenST_ok : ∀ i, i < nST → lenST.getD i 0 < 100 := by decide +kernel
theorem lenST_R (i : Nat) : inR ((lenST.getD i 0 : Nat) : Int) := by
  by_cases h : i < nST
  · have := lenST_ok i h
    exact ⟨by omega, by omega⟩
  · have h2 : nST ≤ i := Nat.le_of_not_lt h
    have h1 : lenST.getD i 0 = 0 := by
      rw [List.getD_eq_getElem?_getD, List.getElem?_eq_none (show lenST.length ≤ i from h2)]
      rfl
    rw [h1]; exact ⟨by decide, by decide⟩
theorem chST_R (i j : Nat) : inR (chST i j) := i2c_R _
