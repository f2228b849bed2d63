/-! THE PURE PART: what ties the class's memory to the reference's -/
theorem upm_at (M : Mem) (a k : Nat) (v : Int) (b : Nat) : upm M a k v b = if b = a then updr (M a) k v else M b := rfl
theorem updr_ap (m : Nat → Int) (k : Nat) (v : Int) (j : Nat) : updr m k v j = if j = k then v else m j := rfl
theorem cpm_at (M : Mem) (a sp b dp n c : Nat) : cpm M a sp b dp n c = if c = b then cpr (M a) (M b) sp dp n else M c := rfl
theorem cpr_ap (f g : Nat → Int) (sp dp n k : Nat) : cpr f g sp dp n k = if dp ≤ k ∧ k < dp + n then f (sp + (k - dp)) else g k := rfl
/-- sums from i on, k of them -/
def sumF (f : Nat → Int) : Nat → Nat → Int
  | 0, _ => 0
  | k + 1, i => f i + sumF f k (i + 1)
theorem sumF_b {f : Nat → Int} {B : Int} : ∀ (k i : Nat), (∀ j, i ≤ j → j < i + k → 0 ≤ f j ∧ f j ≤ B) → 0 ≤ sumF f k i ∧ sumF f k i ≤ B * (k : Int) := by
  intro k
  induction k with
  | zero => intro i _; simp [sumF]
  | succ k ih =>
    intro i h
    have h1 := h i (Nat.le_refl i) (by omega)
    have h2 := ih (i + 1) (fun j h3 h4 => h j (by omega) (by omega))
    have e : B * ((k + 1 : Nat) : Int) = B * (k : Int) + B := by rw [Int.natCast_add, Int.mul_add]; simp
    show 0 ≤ f i + sumF f k (i + 1) ∧ f i + sumF f k (i + 1) ≤ _
    rw [e]
    omega
def b01 (p : Prop) [Decidable p] : Int := if p then 1 else 0
theorem b01_b (p : Prop) [Decidable p] : 0 ≤ b01 p ∧ b01 p ≤ 1 := by unfold b01; split <;> omega
/-! bytes -/
def sx (v : Int) : Int := if v < 128 then v else v - 256
/-! the reference's row of 1062 numbers -/
abbrev Row : Type := Nat → Int
/-- a vowel: 1 -/
def vow (c : Int) : Int := if c = 97 then 1 else if c = 101 then 1 else if c = 105 then 1 else if c = 111 then 1 else if c = 117 then 1 else if c = 121 then 1 else 0
theorem vow_b (c : Int) : vow c = 0 ∨ vow c = 1 := by unfold vow; (repeat' split) <;> simp
/-- groups of vowels among the first n -/
def vgr (f : Nat → Int) : Nat → Int
  | 0 => 0
  | n + 1 => vgr f n + (if vow (f n) = 1 ∧ (n = 0 ∨ vow (f (n - 1)) = 0) then 1 else 0)
theorem vgr_b (f : Nat → Int) : ∀ n : Nat, 0 ≤ vgr f n ∧ vgr f n ≤ (n : Int) := by
  intro n
  induction n with
  | zero => simp [vgr]
  | succ n ih =>
    show 0 ≤ vgr f n + _ ∧ vgr f n + _ ≤ _
    split <;> omega
def wFrom (g : Row) (i : Nat) : Nat := (g (382 + 3 * i)).toNat
def wLet (g : Row) (i k : Nat) : Int := g (562 + wFrom g i + k)
def syl (g : Row) (i : Nat) : Int := max 1 (vgr (wLet g i) (g (383 + 3 * i)).toNat)
/-- frames of the words -/
def wb (g : Row) : Nat → Int
  | 0 => 0
  | i + 1 => wb g i + g 1 * syl g i + (if g (384 + 3 * i) = 1 then g 2 else 0)
def we (g : Row) (i : Nat) : Int := wb g i + g 1 * syl g i
def wEnd (g : Row) : Int := if g 9 ≤ 0 then 0 else we g ((g 9).toNat - 1)
/-- which map a word names -/
def nmEq (g : Row) (i m : Nat) : Prop := g (36 + 10 * m) = g (383 + 3 * i) ∧ ∀ k : Nat, k < (g (36 + 10 * m)).toNat → g (37 + 10 * m + k) = wLet g i k
noncomputable def mpS (g : Row) (i : Nat) : Nat → Nat → Int
  | 0, _ => -1
  | k + 1, m => @ite _ (nmEq g i m) (Classical.propDecidable _) (m : Int) (mpS g i k (m + 1))
noncomputable def mapOf (g : Row) (i : Nat) : Int := mpS g i (g 6).toNat 0
/-- rows of the reel: kind, depth ahead of a row, items ahead of a row -/
def rk (g : Row) (i : Nat) : Int := g (126 + 4 * i)
def dp (g : Row) : Nat → Int
  | 0 => 0
  | i + 1 => dp g i + (if rk g i = 2 then 1 else if rk g i = 3 then 1 else if rk g i = 4 then -1 else 0)
def it (g : Row) : Nat → Nat
  | 0 => 0
  | i + 1 => it g i + (if rk g i = 4 then 0 else 1)
def rF (g : Row) (i : Nat) : Int := if rk g i = 0 then g (128 + 4 * i) else 0
def rL (g : Row) (i : Nat) : Int := if rk g i = 0 then g (129 + 4 * i) else if rk g i = 1 then g (128 + 4 * i) - 1 else 0
/-- the multipliers of the blocks around, innermost first -/
def mulS (g : Row) : Nat → List Int
  | 0 => [1]
  | i + 1 => if rk g i = 2 then ((mulS g i).headD 0 * g (127 + 4 * i)) :: mulS g i else if rk g i = 3 then (mulS g i).headD 0 :: mulS g i else if rk g i = 4 then (mulS g i).tail else mulS g i
def npc (g : Row) : Nat → Int
  | 0 => 0
  | i + 1 => npc g i + (if rk g i = 0 ∨ rk g i = 1 then (mulS g i).headD 0 else 0)
/-! what a state of the class has -/
def RSl (M : Mem) (s : Nat) (g : Row) : Prop :=
  M (s + 1) 0 = g 5 ∧ M (s + 1) 3 = g 6 ∧ M (s + 1) 6 = g 7 ∧
  (∀ i : Nat, (i : Int) < g 5 → M (s + 2) i = g (12 + 2 * i) ∧ M (s + 3) i = g (13 + 2 * i)) ∧
  (∀ i : Nat, (i : Int) < g 6 → M (s + 5) i = g (36 + 10 * i) ∧ ∀ k : Nat, (k : Int) < g (36 + 10 * i) → M (s + 4) (8 * i + k) = g (37 + 10 * i + k)) ∧
  (∀ i : Nat, (i : Int) < g 7 → M (s + 6) i = g (96 + 3 * i) ∧ M (s + 7) i = g (97 + 3 * i) ∧ M (s + 8) i = g (98 + 3 * i)) ∧
  ∀ i : Nat, i < 5 → M (s + 9) i = g i
def RSv (M : Mem) (s : Nat) (g : Row) : Prop :=
  M (s + 11) 0 = g 9 ∧ M (s + 11) 1 = g 10 ∧
  (∀ i : Nat, (i : Int) < g 9 → M (s + 13) i = g (382 + 3 * i) ∧ M (s + 14) i = g (383 + 3 * i) ∧ M (s + 15) i = syl g i ∧ M (s + 16) i = g (384 + 3 * i)) ∧
  ∀ i : Nat, (i : Int) < g 10 → M (s + 12) i = g (562 + i)
def RSi (M : Mem) (s : Nat) (g : Row) : Prop :=
  M (s + 17) 0 = (it g (g 8).toNat : Nat) ∧
  ∀ i : Nat, (i : Int) < g 8 → rk g i ≠ 4 → M (s + 18) (it g i) = rk g i ∧ M (s + 19) (it g i) = g (127 + 4 * i) ∧ M (s + 20) (it g i) = rF g i ∧ M (s + 21) (it g i) = rL g i ∧ M (s + 22) (it g i) = dp g i
def RS (M : Mem) (s : Nat) (g : Row) : Prop := RSl M s g ∧ RSv M s g ∧ RSi M s g
/-! what holds of a row -/
def nmSame (g : Row) (i j : Nat) : Prop := g (36 + 10 * i) = g (36 + 10 * j) ∧ ∀ k : Nat, k < (g (36 + 10 * i)).toNat → g (37 + 10 * i + k) = g (37 + 10 * j + k)
def WFl (g : Row) : Prop :=
  (0 ≤ g 0 ∧ g 0 ≤ 99) ∧ (1 ≤ g 1 ∧ g 1 ≤ 20) ∧ (0 ≤ g 2 ∧ g 2 ≤ 50) ∧ (1 ≤ g 3 ∧ g 3 ≤ 50) ∧ (0 ≤ g 4 ∧ g 4 ≤ 100) ∧ (0 ≤ g 5 ∧ g 5 ≤ 12) ∧ (0 ≤ g 6 ∧ g 6 ≤ 6) ∧ (0 ≤ g 7 ∧ g 7 ≤ 10) ∧
  (∀ i : Nat, (i : Int) < g 5 → (0 ≤ g (12 + 2 * i) ∧ g (12 + 2 * i) ≤ 5) ∧ 1 ≤ g (13 + 2 * i) ∧ g (13 + 2 * i) ≤ 400) ∧
  (∀ i : Nat, (i : Int) < g 6 → (1 ≤ g (36 + 10 * i) ∧ g (36 + 10 * i) ≤ 8) ∧ ∀ k : Nat, (k : Int) < g (36 + 10 * i) → 97 ≤ g (37 + 10 * i + k) ∧ g (37 + 10 * i + k) ≤ 122) ∧
  (∀ i : Nat, (i : Int) < g 7 → (0 ≤ g (96 + 3 * i) ∧ g (96 + 3 * i) ≤ 5) ∧ 0 ≤ g (97 + 3 * i) ∧ g (97 + 3 * i) ≤ g (98 + 3 * i) ∧ g (98 + 3 * i) ≤ 99) ∧
  ∀ i j : Nat, i < j → (j : Int) < g 6 → ¬ nmSame g i j
def WFv (g : Row) : Prop :=
  (0 ≤ g 9 ∧ g 9 ≤ 60) ∧ (0 ≤ g 10 ∧ g 10 ≤ 500) ∧
  (∀ i : Nat, (i : Int) < g 9 → 0 ≤ g (382 + 3 * i) ∧ (1 ≤ g (383 + 3 * i) ∧ g (383 + 3 * i) ≤ 20) ∧ g (382 + 3 * i) + g (383 + 3 * i) ≤ g 10 ∧ (g (384 + 3 * i) = 0 ∨ g (384 + 3 * i) = 1)) ∧
  (∀ i : Nat, (i : Int) < g 10 → 97 ≤ g (562 + i) ∧ g (562 + i) ≤ 122) ∧
  (0 < g 9 → g (384 + 3 * ((g 9).toNat - 1)) = 1) ∧
  ∀ i : Nat, (i : Int) + 1 < g 9 → g (385 + 3 * i) = g (382 + 3 * i) + g (383 + 3 * i)
def WFi (g : Row) : Prop :=
  (0 ≤ g 8 ∧ g 8 ≤ 60) ∧ dp g (g 8).toNat = 0 ∧ it g (g 8).toNat ≤ 30 ∧ npc g (g 8).toNat ≤ 60 ∧
  ∀ i : Nat, (i : Int) < g 8 → (0 ≤ dp g i ∧ dp g i ≤ 4) ∧
    (rk g i = 0 ∧ (0 ≤ g (127 + 4 * i) ∧ g (127 + 4 * i) < g 5) ∧ 0 ≤ g (128 + 4 * i) ∧ g (128 + 4 * i) ≤ g (129 + 4 * i) ∧ g (129 + 4 * i) < g (13 + 2 * (g (127 + 4 * i)).toNat) ∨
     rk g i = 1 ∧ (0 ≤ g (127 + 4 * i) ∧ g (127 + 4 * i) < g 6) ∧ 1 ≤ g (128 + 4 * i) ∧ g (128 + 4 * i) ≤ 400 ∨
     rk g i = 2 ∧ dp g i < 4 ∧ 1 ≤ g (127 + 4 * i) ∧ g (127 + 4 * i) ≤ 9 ∨
     rk g i = 3 ∧ dp g i < 4 ∧ 0 ≤ g (127 + 4 * i) ∧ g (127 + 4 * i) ≤ 40 ∨
     rk g i = 4 ∧ 0 < dp g i)
def WF (g : Row) : Prop := WFl g ∧ WFv g ∧ WFi g
/-! the class's pieces are what the reference lays, whenever it lays them -/
def PcsEq (Mc M' : Mem) : Prop :=
  (0 ≤ Mc 56 0 ∧ Mc 56 0 ≤ 60) ∧ M' 0 17 = Mc 56 0 ∧
  ∀ k : Nat, (k : Int) < Mc 56 0 → M' 7 k = Mc 57 k ∧ M' 8 k = Mc 58 k ∧ M' 9 k = Mc 59 k ∧ M' 10 k = Mc 60 k ∧ M' 11 k = Mc 61 k ∧ M' 12 k = Mc 62 k
/-- what laying pieces may change of the reference: cells 7 to 18, numbers 17, 21, 22 -/
def layK (M M' : Mem) : Prop := (∀ c : Nat, c ≠ 0 → (c < 7 ∨ 18 < c) → M' c = M c) ∧ ∀ j : Nat, j ≠ 17 → j ≠ 21 → j ≠ 22 → M' 0 j = M 0 j
/-- of the pieces themselves -/
def PcsOK (Mc : Mem) (g : Row) : Prop :=
  (∀ k : Nat, (k : Int) < Mc 56 0 →
    (Mc 57 k = 0 ∧ (0 ≤ Mc 58 k ∧ Mc 58 k < g 5) ∨ Mc 57 k = 1 ∧ (0 ≤ Mc 58 k ∧ Mc 58 k < g 6)) ∧ (0 ≤ Mc 59 k ∧ Mc 59 k ≤ 400) ∧ (1 ≤ Mc 60 k ∧ Mc 60 k ≤ 400) ∧ (0 ≤ Mc 62 k ∧ 2 * Mc 62 k ≤ Mc 60 k) ∧ 0 ≤ Mc 61 k ∧ Mc 61 k ≤ 400 * (k : Int)) ∧
  (0 < Mc 56 0 → Mc 61 0 = 0 ∧ Mc 62 0 = 0 ∧ Mc 56 1 = Mc 61 ((Mc 56 0).toNat - 1) + Mc 60 ((Mc 56 0).toNat - 1)) ∧ (Mc 56 0 = 0 → Mc 56 1 = 0) ∧
  ∀ k : Nat, (k : Int) + 1 < Mc 56 0 → Mc 61 (k + 1) = Mc 61 k + Mc 60 k - Mc 62 (k + 1) ∧ 2 * Mc 62 (k + 1) ≤ Mc 60 k
def RPc (Mc : Mem) (g : Row) : Prop := PcsOK Mc g ∧ ∀ Mr : Mem, Mr 1 = g → ∃ M' : Mem, f_X11_laysPieces Mr = some M' ∧ layK Mr M' ∧ PcsEq Mc M'
/-- the class's times of the words -/
def RSp (Mc : Mem) (g : Row) : Prop := Mc 64 0 = g 9 ∧ Mc 64 1 = wEnd g ∧ ∀ i : Nat, (i : Int) < g 9 → Mc 65 i = wb g i ∧ Mc 66 i = we g i ∧ Mc 67 i = mapOf g i
def RTx (Mc Mr : Mem) : Prop := Mc 1 1 = Mr 0 29 ∧ (0 ≤ Mr 0 29 ∧ Mr 0 29 ≤ 500) ∧ ∀ i : Nat, (i : Int) < Mr 0 29 → (0 ≤ Mr 22 i ∧ Mr 22 i ≤ 255) ∧ Mc 2 i = sx (Mr 22 i)
def ROu (Mc Mr : Mem) : Prop := Mc 3 1 = Mr 0 51 ∧ (0 ≤ Mr 0 51 ∧ Mr 0 51 ≤ 1000) ∧ ∀ i : Nat, (i : Int) < Mr 0 51 → Mc 4 i = Mr 29 i
def RAc (k : Nat) (Mc Mr : Mem) : Prop := ∀ i : Nat, i ≤ 6 → Mc 73 i = Mr 5 i ∧ 0 ≤ Mr 5 i ∧ Mr 5 i ≤ (k : Int)
def rowAt (f : Nat → Int) (j : Nat) : Row := fun i => f (1062 * j + i)
def RUn (Mc Mr : Mem) : Prop := Mc 0 5 = Mr 0 6 ∧ (0 ≤ Mr 0 6 ∧ Mr 0 6 ≤ 8) ∧ (0 ≤ Mc 0 6 ∧ Mc 0 6 ≤ 7) ∧
  ∀ j : Nat, (j : Int) < Mr 0 6 → RS Mc (74 + ((Mc 0 6).toNat + 8 - (Mr 0 6).toNat + j) % 8 * 24) (rowAt (Mr 3) j) ∧ WF (rowAt (Mr 3) j)
def RSa (Mc Mr : Mem) : Prop := ∀ t : Nat, t < 2 → Mc 55 t = Mr 6 t ∧ (Mr 6 t = 0 ∨ Mr 6 t = 1) ∧ (Mr 6 t = 1 → RS Mc (266 + t * 24) (rowAt (Mr 4) t) ∧ WF (rowAt (Mr 4) t))
def Rel (k : Nat) (Mc Mr : Mem) : Prop :=
  RTx Mc Mr ∧ (Mc 1 7 = Mr 0 36 ∧ Mc 1 8 = Mr 0 37) ∧ ROu Mc Mr ∧ RAc k Mc Mr ∧ RUn Mc Mr ∧ RSa Mc Mr ∧ RS Mc 5 (Mr 1) ∧ WF (Mr 1) ∧ RPc Mc (Mr 1) ∧ RSp Mc (Mr 1) ∧ Mc 72 0 = 0
