/-! lists of mixes around a piece: how far two agree, and the innermost common one -/
def cpl : List (Int × Int) → List (Int × Int) → Nat
  | a :: l, b :: m => if a.1 = b.1 then cpl l m + 1 else 0
  | _, _ => 0
def covr : Int → List (Int × Int) → List (Int × Int) → Int
  | v, a :: l, b :: m => if a.1 = b.1 then covr a.2 l m else v
  | v, _, _ => v
theorem cpl_n (m : List (Int × Int)) : cpl [] m = 0 := by cases m <;> rfl
theorem cpl_n2 (m : List (Int × Int)) : cpl m [] = 0 := by cases m <;> rfl
theorem covr_n (v : Int) (m : List (Int × Int)) : covr v [] m = v := by cases m <;> rfl
theorem covr_n2 (v : Int) (m : List (Int × Int)) : covr v m [] = v := by cases m <;> rfl
theorem cpl_c (a b : Int × Int) (l m : List (Int × Int)) : cpl (a :: l) (b :: m) = if a.1 = b.1 then cpl l m + 1 else 0 := rfl
theorem covr_c (v : Int) (a b : Int × Int) (l m : List (Int × Int)) : covr v (a :: l) (b :: m) = if a.1 = b.1 then covr a.2 l m else v := rfl
theorem cpl_le : ∀ (l m : List (Int × Int)), cpl l m ≤ l.length ∧ cpl l m ≤ m.length := by
  intro l
  induction l with
  | nil => intro m; rw [cpl_n]; omega
  | cons a l ih =>
    intro m
    cases m with
    | nil => rw [cpl_n2]; omega
    | cons b m =>
      have := ih m
      rw [cpl_c, List.length_cons, List.length_cons]
      split <;> omega
theorem cpl_self : ∀ l : List (Int × Int), cpl l l = l.length := by
  intro l
  induction l with
  | nil => rfl
  | cons a l ih => rw [cpl_c, if_pos rfl, ih]; rfl
theorem cpl_app (q : Int × Int) : ∀ (m l : List (Int × Int)), (∀ p ∈ l, p.1 ≠ q.1) → cpl (m ++ [q]) l = cpl m l := by
  intro m
  induction m with
  | nil =>
    intro l h
    cases l with
    | nil => rfl
    | cons b l =>
      show cpl [q] (b :: l) = 0
      rw [cpl_c, if_neg (fun e => h b (List.mem_cons_self ..) e.symm)]
  | cons a m ih =>
    intro l h
    cases l with
    | nil => rw [cpl_n2, cpl_n2]
    | cons b l =>
      rw [List.cons_append, cpl_c, cpl_c, ih l (fun p hp => h p (List.mem_cons_of_mem _ hp))]
theorem cpl_pop (q : Int × Int) : ∀ (m l : List (Int × Int)), cpl m l = min (cpl (m ++ [q]) l) m.length := by
  intro m
  induction m with
  | nil => intro l; rw [cpl_n]; simp
  | cons a m ih =>
    intro l
    cases l with
    | nil => rw [cpl_n2, cpl_n2]; simp
    | cons b l =>
      rw [List.cons_append, cpl_c, cpl_c, ih l, List.length_cons]
      split <;> omega
theorem covr_get : ∀ (l m : List (Int × Int)) (v : Int), covr v l m = if cpl l m = 0 then v else (l.getD (cpl l m - 1) (0, 0)).2 := by
  intro l
  induction l with
  | nil => intro m v; rw [cpl_n, covr_n]; rfl
  | cons a l ih =>
    intro m v
    cases m with
    | nil => rw [cpl_n2, covr_n2]; rfl
    | cons b m =>
      rw [cpl_c, covr_c]
      by_cases c : a.1 = b.1
      · rw [if_pos c, if_pos c, ih m, if_neg (show ¬ (cpl l m + 1 = 0) by omega), Nat.add_sub_cancel]
        by_cases z : cpl l m = 0
        · rw [if_pos z, z]; rfl
        · obtain ⟨w, hw⟩ : ∃ w, cpl l m = w + 1 := ⟨cpl l m - 1, by omega⟩
          rw [if_neg z, hw]; rfl
      · rw [if_neg c, if_neg c, if_pos rfl]
/-- the open mixes of the reference's stack -/
def stkL (M : Mem) (g : Row) : Nat → List (Int × Int)
  | 0 => []
  | j + 1 => if M 18 j = 0 then stkL M g j else stkL M g j ++ [(M 18 j, g (127 + 4 * (M 16 j).toNat))]
theorem stkL_s (M : Mem) (g : Row) (j : Nat) : stkL M g (j + 1) = if M 18 j = 0 then stkL M g j else stkL M g j ++ [(M 18 j, g (127 + 4 * (M 16 j).toNat))] := rfl
theorem stkL_le (M : Mem) (g : Row) : ∀ j : Nat, (stkL M g j).length ≤ j := by
  intro j
  induction j with
  | zero => exact Nat.le_refl _
  | succ j ih =>
    rw [stkL_s]
    split
    · omega
    · rw [List.length_append, List.length_singleton]; omega
theorem stkL_c {M M' : Mem} {g : Row} : ∀ d : Nat, (∀ j : Nat, j < d → M' 16 j = M 16 j ∧ M' 18 j = M 18 j) → stkL M' g d = stkL M g d := by
  intro d
  induction d with
  | zero => intro _; rfl
  | succ d ih =>
    intro h
    rw [stkL_s, stkL_s, (h d (by omega)).1, (h d (by omega)).2, ih (fun j hj => h j (by omega))]
/-- what the reference keeps of the mixes around piece k -/
def PcT (M : Mem) (k : Nat) (L : List (Int × Int)) : Prop := M 13 k = (L.length : Int) ∧ ∀ i : Nat, i < L.length → M 14 (4 * k + i) = (L.getD i (0, 0)).1 ∧ M 15 (4 * k + i) = (L.getD i (0, 0)).2
theorem PcT.eqv {M M' : Mem} {k : Nat} {L : List (Int × Int)} (h : PcT M k L) (e13 : M' 13 k = M 13 k) (e : ∀ i : Nat, i < L.length → M' 14 (4 * k + i) = M 14 (4 * k + i) ∧ M' 15 (4 * k + i) = M 15 (4 * k + i)) : PcT M' k L := by
  refine ⟨e13.trans h.1, fun i hi => ?_⟩
  rw [(e i hi).1, (e i hi).2]; exact h.2 i hi
theorem getD_app {L : List (Int × Int)} {q : Int × Int} {i : Nat} (h : i < L.length) : (L ++ [q]).getD i (0, 0) = L.getD i (0, 0) := by
  rw [List.getD_eq_getElem?_getD, List.getD_eq_getElem?_getD, List.getElem?_append_left h]
theorem getD_last {L : List (Int × Int)} {q : Int × Int} : (L ++ [q]).getD L.length (0, 0) = q := by
  rw [List.getD_eq_getElem?_getD, List.getElem?_append_right (Nat.le_refl _), Nat.sub_self]; rfl
theorem L_apT {M0 : Mem} {P d : Nat} (e21 : M0 0 21 = (d : Int)) (e17 : M0 0 17 = (P : Int)) (hP : P ≤ 60) (hd : d ≤ 4) (h16 : ∀ j : Nat, j < d → ∃ r : Nat, M0 16 j = (r : Int) ∧ r < 60) : ∀ (k j n : Nat) (M : Mem), j + k = d → k < n →
    (∀ c : Nat, c < 13 ∨ 15 < c → M c = M0 c) → (∀ x : Nat, x < P → M 13 x = M0 13 x) → (∀ x : Nat, x < 4 * P → M 14 x = M0 14 x ∧ M 15 x = M0 15 x) → PcT M P (stkL M0 (M0 1) j) →
    ∃ M' : Mem, f_X11_addsPiece_L114 (P : Int) n (j : Int) M = some M' ∧ M' 0 17 = (P : Int) + 1 ∧ (∀ i : Nat, i ≠ 17 → M' 0 i = M0 0 i) ∧ (∀ c : Nat, c ≠ 0 → c < 13 ∨ 15 < c → M' c = M0 c) ∧ (∀ x : Nat, x < P → M' 13 x = M0 13 x) ∧ (∀ x : Nat, x < 4 * P → M' 14 x = M0 14 x ∧ M' 15 x = M0 15 x) ∧ PcT M' P (stkL M0 (M0 1) d) := by
  intro k
  induction k with
  | zero =>
    intro j n M hj hn f1 f2 f3 f4
    obtain ⟨n, rfl⟩ := nat_ex hn
    obtain rfl : j = d := by omega
    refine ⟨upm M 0 17 ((P : Int) + 1), ?_, upm_hit, fun i hi => by rw [upm_sl hi, f1 0 (by omega)], fun c c1 c2 => by rw [upm_ne c1]; exact f1 c c2, fun x hx => by rw [upm_ne (by decide)]; exact f2 x hx, fun x hx => by rw [upm_ne (by decide), upm_ne (by decide)]; exact f3 x hx, f4.eqv (by rw [upm_ne (by decide)]) (fun i hi => by rw [upm_ne (by decide), upm_ne (by decide)]; exact ⟨rfl, rfl⟩)⟩
    simp only [f_X11_addsPiece_L114, f1 0 (by omega)]
    rw [if_pos (by omega), e17, ck_pos ⟨by omega, by omega⟩, lt_eq]
  | succ k ih =>
    intro j n M hj hn f1 f2 f3 f4
    obtain ⟨n, rfl⟩ := nat_ex hn
    simp only [f_X11_addsPiece_L114, f1 0 (by omega), f1 18 (by omega), f1 16 (by omega)]
    rw [if_neg (by omega), ck_pos ⟨by omega, by omega⟩, Int.toNat_natCast, ck_pos ⟨by omega, by omega⟩, show (j : Int) + 1 = ((j + 1 : Nat) : Int) by omega]
    by_cases z : M0 18 j = 0
    · rw [if_pos z]
      have s := stkL_s M0 (M0 1) j
      rw [if_pos z] at s
      exact ih (j + 1) n M (by omega) (by omega) f1 f2 f3 (by rw [s]; exact f4)
    · rw [if_neg z]
      have s := stkL_s M0 (M0 1) j
      rw [if_neg z] at s
      have le := stkL_le M0 (M0 1) j
      obtain ⟨L, hL⟩ : ∃ L, L = stkL M0 (M0 1) j := ⟨_, rfl⟩
      rw [← hL] at s f4 le
      obtain ⟨r, r1, r2⟩ := h16 j (by omega)
      rw [r1, Int.toNat_natCast] at s
      have e13 : M 13 P = (L.length : Int) := f4.1
      rw [ck_pos ⟨by omega, by omega⟩, ck_pos ⟨by omega, by omega⟩, Int.toNat_natCast, e13, ck_pos ⟨by omega, by omega⟩, ck_pos ⟨by omega, by omega⟩, lt_eq, r1, show (4 * (P : Int) + (L.length : Int)).toNat = 4 * P + L.length by omega, r_ev (by omega) ⟨by omega, by omega⟩, Option.bind_some, lt_eq, ck_pos ⟨by omega, by omega⟩, lt_eq, upm_ne (by decide), f1 1 (by omega), show 126 + 4 * r + (1 : Int).toNat = 127 + 4 * r by simp; omega]
      obtain ⟨M2, m2⟩ : ∃ M2 : Mem, M2 = upm (upm (upm M 14 (4 * P + L.length) (M0 18 j)) 15 (4 * P + L.length) (M0 1 (127 + 4 * r))) 13 P ((L.length : Int) + 1) := ⟨_, rfl⟩
      rw [← m2, ck_pos ⟨by omega, by omega⟩]
      refine ih (j + 1) n M2 (by omega) (by omega) (fun c hc => ?_) (fun x hx => ?_) (fun x hx => ?_) ?_
      · rw [m2]; simp (disch := omega) only [upm_ne]; exact f1 c hc
      · rw [m2]; simp (disch := omega) only [upm_ne, upm_sl]; exact f2 x hx
      · rw [m2]; simp (disch := omega) only [upm_ne, upm_sl]; exact f3 x hx
      · rw [s, m2]
        refine ⟨by rw [upm_hit, List.length_append, List.length_singleton]; omega, fun i hi => ?_⟩
        rw [List.length_append, List.length_singleton] at hi
        by_cases y : i = L.length
        · rw [y, getD_last]
          simp (disch := omega) only [upm_ne, upm_hit]
          exact ⟨trivial, trivial⟩
        · rw [getD_app (by omega)]
          simp (disch := omega) only [upm_ne, upm_sl]
          exact f4.2 i (by omega)
/-- the reference adds a piece -/
theorem addsP_R {M : Mem} {P d a : Nat} (a60 : a < 60) (lb : 0 ≤ rF (M 1) a ∧ rF (M 1) a ≤ rL (M 1) a ∧ rL (M 1) a ≤ 399) (hk : rk (M 1) a = 0 ∨ rk (M 1) a = 1) (e21 : M 0 21 = (d : Int)) (e17 : M 0 17 = (P : Int)) (hP : P ≤ 60) (hd : d ≤ 4) (h16 : ∀ j : Nat, j < d → ∃ r : Nat, M 16 j = (r : Int) ∧ r < 60) :
    ∃ M' : Mem, f_X11_addsPiece (a : Int) M = some M' ∧ M' 0 17 = (P : Int) + 1 ∧ (∀ i : Nat, i ≠ 17 → M' 0 i = M 0 i) ∧ (∀ c : Nat, c ≠ 0 → (c < 7 ∨ 10 < c) → (c < 13 ∨ 15 < c) → M' c = M c) ∧ (∀ x : Nat, x < P → M' 7 x = M 7 x ∧ M' 8 x = M 8 x ∧ M' 9 x = M 9 x ∧ M' 10 x = M 10 x ∧ M' 13 x = M 13 x) ∧ (∀ x : Nat, x < 4 * P → M' 14 x = M 14 x ∧ M' 15 x = M 15 x) ∧ PcT M' P (stkL M (M 1) d) ∧
      M' 7 P = rk (M 1) a ∧ M' 8 P = M 1 (127 + 4 * a) ∧ M' 9 P = rF (M 1) a ∧ M' 10 P = rL (M 1) a - rF (M 1) a + 1 := by
  obtain ⟨M3, m3⟩ : ∃ M3 : Mem, M3 = upm (upm (upm (upm (upm M 7 P (rk (M 1) a)) 8 P (M 1 (127 + 4 * a))) 9 P (rF (M 1) a)) 10 P (rL (M 1) a - rF (M 1) a + 1)) 13 P 0 := ⟨_, rfl⟩
  have k0 : ∀ c : Nat, (c < 7 ∨ 10 < c) → c ≠ 13 → M3 c = M c := fun c c1 c2 => by rw [m3]; simp (disch := omega) only [upm_ne]
  have ks : stkL M3 (M3 1) d = stkL M (M 1) d := by
    rw [k0 1 (by omega) (by omega)]
    exact stkL_c d (fun j _ => ⟨by rw [k0 16 (by omega) (by omega)], by rw [k0 18 (by omega) (by omega)]⟩)
  obtain ⟨M', b1, b2, b3, b4, b5, b6, b7⟩ := L_apT (M0 := M3) (P := P) (d := d) (by rw [k0 0 (by omega) (by omega)]; exact e21) (by rw [k0 0 (by omega) (by omega)]; exact e17) hP hd (fun j hj => by rw [k0 16 (by omega) (by omega)]; exact h16 j hj) d 0 jFuel M3 (by omega) (jF (by omega)) (fun _ _ => rfl) (fun _ _ => rfl) (fun _ _ => ⟨rfl, rfl⟩) ⟨by rw [m3, upm_hit]; rfl, fun i hi => absurd hi (Nat.not_lt_zero i)⟩
  rw [ks] at b7
  refine ⟨M', ?_, b2, fun i hi => by rw [b3 i hi, k0 0 (by omega) (by omega)], fun c c1 c2 c3 => by rw [b4 c c1 c3, k0 c c2 (by omega)], fun x hx => ⟨?_, ?_, ?_, ?_, ?_⟩, fun x hx => by rw [(b6 x hx).1, (b6 x hx).2, k0 14 (by omega) (by omega), k0 15 (by omega) (by omega)]; exact ⟨rfl, rfl⟩, b7, ?_, ?_, ?_, ?_⟩
  · have rd : ∀ (N : Mem) (x : Int), N 1 = M 1 → 0 ≤ x ∧ x ≤ 3 → f_X11_r (a : Int) x N = some (M 1 (126 + 4 * a + x.toNat)) := fun N x hN hx => by rw [r_ev (by omega) hx, hN]
    have n1 : (126 + 4 * a + (1 : Int).toNat) = 127 + 4 * a := by simp; omega
    have n2 : (126 + 4 * a + (2 : Int).toNat) = 128 + 4 * a := by simp; omega
    have n3 : (126 + 4 * a + (3 : Int).toNat) = 129 + 4 * a := by simp; omega
    have b1 : f_X11_addsPiece_L114 (P : Int) jFuel 0 M3 = some M' := b1
    unfold rL rF at m3 lb
    unfold f_X11_addsPiece
    rw [r0 (by omega), Option.bind_some, jn_eq]
    rcases hk with c | c
    · rw [if_pos c]
      dsimp only
      rw [jn_eq, if_neg (by decide)]
      dsimp only
      rw [bit_eq, if_pos rfl, Option.bind_some, e17, ck_pos ⟨by omega, by omega⟩, lt_eq, Int.toNat_natCast, rd _ 1 (upm_ne (by decide)) ⟨by omega, by omega⟩, Option.bind_some, lt_eq, jn_eq, if_neg (by decide), rd _ 2 (by rw [upm_ne (by decide), upm_ne (by decide)]) ⟨by omega, by omega⟩, Option.bind_some]
      dsimp only
      rw [lt_eq, jn_eq, if_neg (by decide), rd _ 3 (by rw [upm_ne (by decide), upm_ne (by decide), upm_ne (by decide)]) ⟨by omega, by omega⟩, Option.bind_some, rd _ 2 (by rw [upm_ne (by decide), upm_ne (by decide), upm_ne (by decide)]) ⟨by omega, by omega⟩, Option.bind_some, n1, n2, n3]
      rw [if_pos c, if_pos c] at m3 lb
      rw [ck_pos ⟨by omega, by omega⟩, ck_pos ⟨by omega, by omega⟩]
      dsimp only
      rw [lt_eq, lt_eq]
      rw [c] at m3
      rw [← m3]; exact b1
    · have n0 : ¬ rk (M 1) a = 0 := by omega
      rw [if_neg n0]
      dsimp only
      rw [jn_eq, if_pos (by decide)]
      dsimp only
      rw [bit_eq, if_neg (by decide), Option.bind_some, e17, ck_pos ⟨by omega, by omega⟩, lt_eq, Int.toNat_natCast, rd _ 1 (upm_ne (by decide)) ⟨by omega, by omega⟩, Option.bind_some, lt_eq, jn_eq, if_pos (by decide)]
      dsimp only
      rw [lt_eq, jn_eq, if_pos (by decide), rd _ 2 (by rw [upm_ne (by decide), upm_ne (by decide), upm_ne (by decide)]) ⟨by omega, by omega⟩, Option.bind_some, n1, n2]
      rw [if_neg n0, if_pos c, if_neg n0, c, show M 1 (128 + 4 * a) - 1 - 0 + 1 = M 1 (128 + 4 * a) by omega] at m3
      dsimp only
      rw [lt_eq, lt_eq, ← m3]; exact b1
  · rw [b4 7 (by omega) (by omega), m3]; simp (disch := omega) only [upm_ne, upm_sl]
  · rw [b4 8 (by omega) (by omega), m3]; simp (disch := omega) only [upm_ne, upm_sl]
  · rw [b4 9 (by omega) (by omega), m3]; simp (disch := omega) only [upm_ne, upm_sl]
  · rw [b4 10 (by omega) (by omega), m3]; simp (disch := omega) only [upm_ne, upm_sl]
  · rw [b5 x hx, m3]; simp (disch := omega) only [upm_ne, upm_sl]
  · rw [b4 7 (by omega) (by omega), m3]; simp (disch := omega) only [upm_ne, upm_hit]
  · rw [b4 8 (by omega) (by omega), m3]; simp (disch := omega) only [upm_ne, upm_hit]
  · rw [b4 9 (by omega) (by omega), m3]; simp (disch := omega) only [upm_ne, upm_hit]
  · rw [b4 10 (by omega) (by omega), m3]; simp (disch := omega) only [upm_ne, upm_hit]
