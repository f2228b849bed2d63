/-! a reel read on both sides: the rows made, the items drafted -/
def eR (M : Mem) (q : Nat) : Row := fun i => if i = 8 then (q : Int) else if 126 ≤ i ∧ i < 382 then (if i - 126 < 4 * q then M 23 (i - 126) else 0) else M 1 i
theorem eR_v (M : Mem) (q i : Nat) : eR M q i = if i = 8 then (q : Int) else if 126 ≤ i ∧ i < 382 then (if i - 126 < 4 * q then M 23 (i - 126) else 0) else M 1 i := rfl
theorem eR_c {M M' : Mem} (h1 : M' 1 = M 1) (h23 : M' 23 = M 23) (q : Nat) : eR M' q = eR M q := by
  funext i
  rw [eR_v, eR_v, h1, h23]
theorem eR_o (M : Mem) (q : Nat) : outE (M 1) (eR M q) := fun i h1 h2 => by rw [eR_v, if_neg h1, if_neg (by omega)]
theorem eR_oo {M M' : Mem} (h1 : M' 1 = M 1) (q q' : Nat) : outE (eR M q) (eR M' q') := fun i i1 i2 => by rw [eR_v, eR_v, if_neg i1, if_neg i1, if_neg (by omega), if_neg (by omega), h1]
def ED (C M : Mem) (q d x : Nat) : Prop := PRI C (eR M q) q ∧ PWF (eR M q) q ∧ dp (eR M q) q = (d : Int) ∧ d ≤ 4 ∧ M 0 40 = (q : Int) ∧ M 0 41 = ((it (eR M q) q + x : Nat) : Int) ∧ it (eR M q) q ≤ 30 ∧ M 0 42 = (d : Int)
def kEC (C C' : Mem) : Prop := (∀ c : Nat, c ≠ 1 → (c < 46 ∨ 51 < c) → C' c = C c) ∧ ∀ j : Nat, j < 2 ∨ 8 < j → C' 1 j = C 1 j
def kEM (M M' : Mem) : Prop := (∀ c : Nat, c ≠ 0 → c ≠ 23 → M' c = M c) ∧ ∀ j : Nat, j < 30 ∨ (35 < j ∧ j ≠ 40 ∧ j ≠ 41 ∧ j ≠ 42) → M' 0 j = M 0 j
theorem kEC.trans {A B C : Mem} (h : kEC A B) (h2 : kEC B C) : kEC A C := ⟨fun c c1 c2 => (h2.1 c c1 c2).trans (h.1 c c1 c2), fun j hj => (h2.2 j hj).trans (h.2 j hj)⟩
theorem kEM.trans {A B C : Mem} (h : kEM A B) (h2 : kEM B C) : kEM A C := ⟨fun c c1 c2 => (h2.1 c c1 c2).trans (h.1 c c1 c2), fun j hj => (h2.2 j hj).trans (h.2 j hj)⟩
theorem kEC.rfl {A : Mem} : kEC A A := ⟨fun _ _ _ => _root_.rfl, fun _ _ => _root_.rfl⟩
theorem kEM.rfl {A : Mem} : kEM A A := ⟨fun _ _ _ => _root_.rfl, fun _ _ => _root_.rfl⟩
theorem kNC.E {A B : Mem} (h : kNC A B) : kEC A B := ⟨fun c c1 _ => h.1 c c1, h.2⟩
theorem kNM.E {A B : Mem} (h : kNM A B) : kEM A B := ⟨fun c c1 _ => h.1 c c1, fun j hj => h.2 j (by omega)⟩
theorem PRI.eqv {C C' : Mem} {g : Row} {q : Nat} (h : PRI C g q) (e : ∀ c : Nat, 46 ≤ c → c ≤ 51 → C' c = C c) : PRI C' g q := by
  unfold PRI itm at h ⊢
  rw [e (29 + 17) (by decide) (by decide), e (29 + 18) (by decide) (by decide), e (29 + 19) (by decide) (by decide), e (29 + 20) (by decide) (by decide), e (29 + 21) (by decide) (by decide), e (29 + 22) (by decide) (by decide)]
  exact h
theorem ED.eqv {C M C' M' : Mem} {q d x : Nat} (h : ED C M q d x) (kc : kNC C C') (km : kNM M M') : ED C' M' q d x := by
  have e := eR_c (km.1 1 (by decide)) (km.1 23 (by decide)) q
  unfold ED at h ⊢
  rw [e, km.2 40 (by omega), km.2 41 (by omega), km.2 42 (by omega)]
  exact ⟨h.1.eqv (fun c _ _ => kc.1 c (by omega)), h.2⟩
theorem ED.q60 {C M : Mem} {q d x : Nat} (h : ED C M q d x) : (q : Int) + d ≤ 2 * (it (eR M q) q : Nat) := by
  have r := row2 (eR M q) q
  rw [h.2.2.1] at r; exact r
theorem makes_R {M : Mem} {q : Nat} (hg : M 0 34 = 0) (h40 : M 0 40 = (q : Int)) (hq : q ≤ 60) (x1 x2 x3 x4 : Int) : ∃ M' : Mem, f_X11_makes x1 x2 x3 x4 M = some M' ∧ M' 0 40 = ((q + 1 : Nat) : Int) ∧ (∀ j : Nat, j ≠ 40 → M' 0 j = M 0 j) ∧ (∀ c : Nat, c ≠ 0 → c ≠ 23 → M' c = M c) ∧ same (eR M q) (eR M' (q + 1)) 0 0 q ∧ rk (eR M' (q + 1)) q = x1 ∧ eR M' (q + 1) (127 + 4 * q) = x2 ∧ eR M' (q + 1) (128 + 4 * q) = x3 ∧ eR M' (q + 1) (129 + 4 * q) = x4 := by
  unfold f_X11_makes
  rw [good_1 hg, Option.bind_some, if_neg (by decide), h40, ck_pos ⟨by omega, by omega⟩, ck_pos ⟨by omega, by omega⟩, show (4 * (q : Int)).toNat = 4 * q by omega, lt_eq, ck_pos ⟨by omega, by omega⟩, ck_pos ⟨by omega, by omega⟩, show (4 * (q : Int) + 1).toNat = 4 * q + 1 by omega, lt_eq, ck_pos ⟨by omega, by omega⟩, ck_pos ⟨by omega, by omega⟩, show (4 * (q : Int) + 2).toNat = 4 * q + 2 by omega, lt_eq, ck_pos ⟨by omega, by omega⟩, ck_pos ⟨by omega, by omega⟩, show (4 * (q : Int) + 3).toNat = 4 * q + 3 by omega, lt_eq, ck_pos ⟨by omega, by omega⟩, lt_eq]
  obtain ⟨M', hM'⟩ : ∃ M' : Mem, M' = upm (upm (upm (upm (upm M 23 (4 * q) x1) 23 (4 * q + 1) x2) 23 (4 * q + 2) x3) 23 (4 * q + 3) x4) 0 40 ((q : Int) + 1) := ⟨_, rfl⟩
  have m23 : ∀ i : Nat, M' 23 i = if i = 4 * q + 3 then x4 else if i = 4 * q + 2 then x3 else if i = 4 * q + 1 then x2 else if i = 4 * q then x1 else M 23 i := fun i => by
    rw [hM', upm_ne (by decide), upm_row, updr_ap, upm_row, updr_ap, upm_row, updr_ap, upm_row, updr_ap]
  refine ⟨M', by rw [hM'], by rw [hM', upm_hit]; omega, fun j hj => by rw [hM', upm_sl hj, upm_ne (by decide), upm_ne (by decide), upm_ne (by decide), upm_ne (by decide)], fun c c1 c2 => by rw [hM', upm_ne c1, upm_ne c2, upm_ne c2, upm_ne c2, upm_ne c2], fun i hi => ?_, ?_, ?_, ?_, ?_⟩
  · rw [eR_v, if_neg (by omega), if_pos (by omega), if_pos (by omega), m23, if_neg (by omega), if_neg (by omega), if_neg (by omega), if_neg (by omega), eR_v, if_neg (by omega), if_pos (by omega), if_pos (by omega)]
  · unfold rk
    rw [eR_v, if_neg (by omega), if_pos (by omega), if_pos (by omega), m23, if_neg (by omega), if_neg (by omega), if_neg (by omega), if_pos (by omega)]
  · rw [eR_v, if_neg (by omega), if_pos (by omega), if_pos (by omega), m23, if_neg (by omega), if_neg (by omega), if_pos (by omega)]
  · rw [eR_v, if_neg (by omega), if_pos (by omega), if_pos (by omega), m23, if_neg (by omega), if_pos (by omega)]
  · rw [eR_v, if_neg (by omega), if_pos (by omega), if_pos (by omega), m23, if_pos (by omega)]
theorem makes_b {M : Mem} (h : M 0 34 ≠ 0) (x1 x2 x3 x4 : Int) : f_X11_makes x1 x2 x3 x4 M = some M := by
  unfold f_X11_makes; rw [good_0 h, Option.bind_some, if_pos rfl]
theorem dp_00 (g g' : Row) : dp g' 0 = dp g 0 := rfl
theorem mul_00 (g g' : Row) : mulS g' 0 = mulS g 0 := rfl
/-- a row more: what stays -/
theorem row_more {C M M' : Mem} {q d x : Nat} (e : ED C M q d x) (h5 : M 1 5 ≤ 12) (s : same (eR M q) (eR M' (q + 1)) 0 0 q) (m1 : M' 1 = M 1) (ro : dp (eR M' (q + 1)) q = (d : Int) → rowOK (eR M' (q + 1)) q) : dp (eR M' (q + 1)) q = (d : Int) ∧ it (eR M' (q + 1)) q = it (eR M q) q ∧ PWF (eR M' (q + 1)) (q + 1) ∧ C 46 0 = (it (eR M q) q : Nat) ∧ ∀ i : Nat, i < q → rk (eR M' (q + 1)) i ≠ 4 → itm C 29 (it (eR M' (q + 1)) i) = (rk (eR M' (q + 1)) i, eR M' (q + 1) (127 + 4 * i), rF (eR M' (q + 1)) i, rL (eR M' (q + 1)) i, dp (eR M' (q + 1)) i) := by
  obtain ⟨⟨p1, p2⟩, w, d1, d4, _⟩ := e
  have c := fun j hj => cat_1 (q := 0) (t := 0) s (dp_00 _ _) (mul_00 _ _) j hj
  have cq := c q (Nat.le_refl _)
  rw [Nat.zero_add] at cq
  have z1 : it (eR M q) 0 = 0 := rfl
  have z2 : it (eR M' (q + 1)) 0 = 0 := rfl
  have dq : dp (eR M' (q + 1)) q = (d : Int) := by rw [cq.1]; exact d1
  have g5 : eR M q 5 ≤ 12 := by rw [eR_v, if_neg (by decide), if_neg (by decide)]; exact h5
  have w' := cat_wf (q := 0) (t := 0) (eR_oo m1 q (q + 1)) g5 s (dp_00 _ _) (mul_00 _ _) (by rw [Nat.zero_add]; exact w) (fun i hi => absurd hi (Nat.not_lt_zero i))
  rw [Nat.zero_add] at w'
  refine ⟨dq, by omega, fun i hi => ?_, p1, fun i hi h4 => ?_⟩
  · by_cases z : i = q
    · rw [z]; exact ⟨by omega, ro dq⟩
    · exact w' i (by omega)
  · have ci := c i (by omega)
    rw [Nat.zero_add] at ci
    obtain ⟨k0, k1, k2, k3⟩ := s.cols (j := i) hi
    rw [Nat.zero_add] at k0 k1 k2 k3
    rw [k0] at h4
    rw [show it (eR M' (q + 1)) i = it (eR M q) i by omega, k0, k1, rF_c k0 k2, rL_c k0 k2 k3, ci.1]
    exact p2 i hi h4
/-- an item more, on both sides -/
theorem item_more {C M M' : Mem} {q d x : Nat} (e : ED C M q d x) (h5 : M 1 5 ≤ 12) (s : same (eR M q) (eR M' (q + 1)) 0 0 q) (m1 : M' 1 = M 1) (lt30 : it (eR M q) q < 30) (h4 : rk (eR M' (q + 1)) q ≠ 4) (ro : dp (eR M' (q + 1)) q = (d : Int) → rowOK (eR M' (q + 1)) q) : ∃ C' : Mem, f_X2_add 29 (rk (eR M' (q + 1)) q) (eR M' (q + 1) (127 + 4 * q)) (rF (eR M' (q + 1)) q) (rL (eR M' (q + 1)) q) (d : Int) C = some C' ∧ PRI C' (eR M' (q + 1)) (q + 1) ∧ PWF (eR M' (q + 1)) (q + 1) ∧ it (eR M' (q + 1)) (q + 1) = it (eR M q) q + 1 ∧ dp (eR M' (q + 1)) (q + 1) = (d : Int) + (if rk (eR M' (q + 1)) q = 2 ∨ rk (eR M' (q + 1)) q = 3 then 1 else 0) ∧ ∀ c : Nat, c < 46 ∨ 51 < c → C' c = C c := by
  obtain ⟨r1, r2, r3, r4, r5⟩ := row_more e h5 s m1 ro
  obtain ⟨C', a1, a2, a3, a4, a5⟩ := addI_C (M := C) (s := 29) r4 lt30 (rk (eR M' (q + 1)) q) (eR M' (q + 1) (127 + 4 * q)) (rF (eR M' (q + 1)) q) (rL (eR M' (q + 1)) q) (d : Int)
  have i1 := it_s1 (g := eR M' (q + 1)) h4
  refine ⟨C', a1, ⟨by rw [a2, i1, r2], fun i hi h4' => ?_⟩, r3, by rw [i1, r2], by rw [dp_s, r1, if_neg h4]; omega, fun c hc => a5 c (by omega)⟩
  by_cases z : i = q
  · rw [z, r2, a3, r1]
  · have l := it_lt (g := eR M' (q + 1)) (m := q) (show i < q by omega) h4'
    rw [a4 _ (by omega)]
    exact r5 i (by omega) h4'
