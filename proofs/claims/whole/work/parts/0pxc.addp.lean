/-! a piece added, by the class -/
theorem idiv2a : ∀ a : Nat, a < 32 → ∀ b : Nat, b < 32 → idiv ((32 * a + b : Nat) : Int) 2 = (((32 * a + b) / 2 : Nat) : Int) := by decide +kernel
theorem idiv2 {x : Int} (h : 0 ≤ x ∧ x ≤ 1000) : idiv x 2 = x / 2 := by
  obtain ⟨n, rfl⟩ : ∃ n : Nat, x = (n : Int) := ⟨x.toNat, by omega⟩
  have := idiv2a (n / 32) (by omega) (n % 32) (by omega)
  rw [show 32 * (n / 32) + n % 32 = n by omega] at this
  rw [this]; omega
def pOv (C : Mem) (P c : Nat) (fr : Int) : Int := if P = 0 then 0 else if c = 0 then 0 else min (C 63 c) (min (C 60 (P - 1)) fr / 2)
def pBg (C : Mem) (P : Nat) (ov : Int) : Int := if P = 0 then 0 else C 61 (P - 1) + C 60 (P - 1) - ov
theorem ovC {N : Mem} {P c : Nat} {fr : Int} (hP : P < 60) (h9 : 0 < P → N 56 9 = (c : Int) ∧ c ≤ 4) (hb : 0 < P → 0 ≤ N 60 (P - 1) ∧ N 60 (P - 1) ≤ 400) (hf : N 60 P = fr) (hf2 : 0 ≤ fr ∧ fr ≤ 400) : f_X5_overlapOf (P : Int) N = some (pOv N P c fr) := by
  unfold f_X5_overlapOf pOv
  by_cases z : P = 0
  · rw [if_pos (by omega), if_pos z]
  · obtain ⟨h1, h2⟩ := h9 (by omega)
    have b := hb (by omega)
    rw [if_neg (by omega), if_neg (by omega), if_neg z, h1]
    by_cases y : c = 0
    · rw [if_pos (by omega), if_pos y]
    · rw [if_neg (by omega), if_pos (by omega), if_neg y, ck_pos ⟨by omega, by omega⟩, ck_pos ⟨by omega, by omega⟩, ck_pos ⟨by omega, by omega⟩, ck_pos ⟨by omega, by omega⟩, show ((P : Int) - 1).toNat = P - 1 by omega, Int.toNat_natCast, Int.toNat_natCast, hf, idiv2 ⟨by omega, by omega⟩]
theorem addP_C {C : Mem} {g : Row} {P c a : Nat} {x : Int} (hl : WFl g) (hi : WFi g) (r : RSi C 5 g) (ha : (a : Int) < g 8) (hk : rk g a = 0 ∨ rk g a = 1) (e0 : C 56 0 = (P : Int)) (hP : P < 60) (h9 : 0 < P → C 56 9 = (c : Int) ∧ c ≤ 4) (hb : 0 < P → (1 ≤ C 60 (P - 1) ∧ C 60 (P - 1) ≤ 400) ∧ (0 ≤ C 61 (P - 1) ∧ C 61 (P - 1) ≤ 400 * 60) ∧ (0 < c → 0 ≤ C 63 c ∧ C 63 c ≤ 40)) :
    ∃ C' : Mem, f_X5_addPiece 5 (it g a : Nat) x C = some C' ∧ (C' 56 0 = ((P + 1 : Nat) : Int) ∧ C' 56 9 = x ∧ C' 56 1 = max (C 56 1) (pBg C P (pOv C P c (rL g a - rF g a + 1)) + (rL g a - rF g a + 1))) ∧
      (C' 57 P = rk g a ∧ C' 58 P = g (127 + 4 * a) ∧ C' 59 P = rF g a ∧ C' 60 P = rL g a - rF g a + 1 ∧ C' 61 P = pBg C P (pOv C P c (rL g a - rF g a + 1)) ∧ C' 62 P = pOv C P c (rL g a - rF g a + 1)) ∧
      (∀ k : Nat, k ≠ P → C' 57 k = C 57 k ∧ C' 58 k = C 58 k ∧ C' 59 k = C 59 k ∧ C' 60 k = C 60 k ∧ C' 61 k = C 61 k ∧ C' 62 k = C 62 k) ∧ ∀ c : Nat, c < 56 ∨ 62 < c → C' c = C c := by
  have b := hi.it30 ha (by omega)
  have lb := rLF_b hl hi ha hk
  obtain ⟨c1, c2, c3, c4, c5⟩ := r.2 a ha (by omega)
  obtain ⟨fr, hfr⟩ : ∃ fr, fr = rL g a - rF g a + 1 := ⟨_, rfl⟩
  rw [← hfr]
  obtain ⟨ov, hov⟩ : ∃ ov, ov = pOv C P c fr := ⟨_, rfl⟩
  obtain ⟨bg, hbg⟩ : ∃ bg, bg = pBg C P ov := ⟨_, rfl⟩
  have ovb : 0 ≤ ov ∧ 2 * ov ≤ fr ∧ (0 < P → 2 * ov ≤ C 60 (P - 1)) ∧ ov ≤ 400 := by
    rw [hov]; unfold pOv
    by_cases z : P = 0
    · rw [if_pos z]; omega
    · have := hb (by omega)
      rw [if_neg z]
      by_cases y : c = 0
      · rw [if_pos y]; omega
      · rw [if_neg y]; have := this.2.2 (by omega); omega
  have bgb : 0 ≤ bg ∧ bg ≤ 30000 := by
    rw [hbg]; unfold pBg
    by_cases z : P = 0
    · rw [if_pos z]; omega
    · have := hb (by omega)
      rw [if_neg z]; omega
  rw [← hov, ← hbg]
  obtain ⟨C3, m3⟩ : ∃ C3 : Mem, C3 = upm (upm (upm C 57 P (rk g a)) 58 P (g (127 + 4 * a))) 59 P (rF g a) := ⟨_, rfl⟩
  have r3 : RSi C3 5 g := r.eqv (fun j _ _ => by rw [m3]; simp (disch := omega) only [upm_ne])
  obtain ⟨C4, m4⟩ : ∃ C4 : Mem, C4 = upm C3 60 P fr := ⟨_, rfl⟩
  have p4 : pOv C4 P c fr = ov := by
    rw [hov]; unfold pOv
    rw [m4, m3]
    by_cases z : P = 0
    · rw [if_pos z, if_pos z]
    · simp (disch := omega) only [upm_ne, upm_sl]
  have o4 := ovC (N := C4) (P := P) (c := c) (fr := fr) hP (fun z => by rw [m4, m3]; simp (disch := omega) only [upm_ne]; exact h9 z) (fun z => by have := hb z; rw [m4, m3]; simp (disch := omega) only [upm_ne, upm_sl]; omega) (by rw [m4]; exact upm_hit) ⟨by omega, by omega⟩
  rw [p4] at o4
  have fc := frC (M := C3) hl hi r3 ha hk
  rw [← hfr] at fc
  obtain ⟨C5, m5⟩ : ∃ C5 : Mem, C5 = upm C4 62 P ov := ⟨_, rfl⟩
  obtain ⟨C6, m6⟩ : ∃ C6 : Mem, C6 = upm C5 61 P bg := ⟨_, rfl⟩
  have en6 : f_X5_endOf (P : Int) C6 = some (bg + fr) := by
    unfold f_X5_endOf
    have u1 : C6 61 P = bg := by rw [m6]; exact upm_hit
    have u2 : C6 60 P = fr := by rw [m6, m5, m4]; simp (disch := omega) only [upm_ne, upm_hit]
    rw [if_neg (by omega), if_neg (by omega), ck_pos ⟨by omega, by omega⟩, Int.toNat_natCast, u1, u2, ck_pos ⟨by omega, by omega⟩]
  have en5 : P ≠ 0 → f_X5_endOf ((P : Int) - 1) C5 = some (C 61 (P - 1) + C 60 (P - 1)) := by
    intro z
    have := hb (by omega)
    unfold f_X5_endOf
    have u1 : C5 61 (P - 1) = C 61 (P - 1) := by rw [m5, m4, m3]; simp (disch := omega) only [upm_ne]
    have u2 : C5 60 (P - 1) = C 60 (P - 1) := by rw [m5, m4, m3]; simp (disch := omega) only [upm_ne, upm_sl]
    rw [if_neg (by omega), if_neg (by omega), ck_pos ⟨by omega, by omega⟩, show ((P : Int) - 1).toNat = P - 1 by omega, u1, u2, ck_pos ⟨by omega, by omega⟩]
  have fin : ∃ C' : Mem, (lt (upm C5 61 P bg) fun N16 => (f_X5_endOf (P : Int) N16).bind fun r136 => lt (upm N16 56 1 (max (C 56 1) r136)) fun N19 => lt (upm N19 56 9 x) fun N21 => ck (inR ((P : Int) + 1)) <| lt (upm N21 56 0 ((P : Int) + 1)) fun N24 => some N24) = some C' ∧ C' = upm (upm (upm C6 56 1 (max (C 56 1) (bg + fr))) 56 9 x) 56 0 ((P : Int) + 1) := by
    refine ⟨_, ?_, rfl⟩
    rw [lt_eq, ← m6, en6, Option.bind_some, lt_eq, lt_eq, ck_pos ⟨by omega, by omega⟩, lt_eq]
  obtain ⟨C', f1, f2⟩ := fin
  have u62 : C5 62 P = ov := by rw [m5]; exact upm_hit
  refine ⟨C', ?_, ⟨by rw [f2, upm_hit]; omega, by rw [f2, upm_sl (by decide), upm_hit], by rw [f2, upm_sl (by decide), upm_sl (by decide), upm_hit]⟩, ⟨?_, ?_, ?_, ?_, ?_, ?_⟩, fun k hk => ⟨?_, ?_, ?_, ?_, ?_, ?_⟩, fun q hq => ?_⟩
  · unfold f_X5_addPiece
    rw [e0, if_pos (by omega), ck_pos ⟨by omega, by omega⟩, ck_pos ⟨by omega, by omega⟩, Int.toNat_natCast, Int.toNat_natCast, lt_eq, c1, upm_ne (b := 5 + 19) (by decide), c2, lt_eq, upm_ne (b := 5 + 20) (by decide), upm_ne (b := 5 + 20) (by decide), c3, lt_eq, ← m3, fc, Option.bind_some, lt_eq, ← m4, o4, Option.bind_some, lt_eq, ← m5, u62, jn_eq]
    by_cases z : P = 0
    · rw [if_pos (by omega)]
      have : bg = 0 := by rw [hbg]; unfold pBg; rw [if_pos z]
      rw [this] at f1
      exact f1
    · have hb' := hb (by omega)
      have : bg = C 61 (P - 1) + C 60 (P - 1) - ov := by rw [hbg]; unfold pBg; rw [if_neg z]
      rw [if_neg (by omega), ck_pos ⟨by omega, by omega⟩, en5 z, Option.bind_some, ck_pos ⟨by omega, by omega⟩, ← this]
      exact f1
  · rw [f2, m6, m5, m4, m3]; simp (disch := omega) only [upm_ne, upm_hit]
  · rw [f2, m6, m5, m4, m3]; simp (disch := omega) only [upm_ne, upm_hit]
  · rw [f2, m6, m5, m4, m3]; simp (disch := omega) only [upm_ne, upm_hit]
  · rw [f2, m6, m5, m4, m3]; simp (disch := omega) only [upm_ne, upm_hit]
  · rw [f2, m6, m5, m4, m3]; simp (disch := omega) only [upm_ne, upm_hit]
  · rw [f2, m6, m5, m4, m3]; simp (disch := omega) only [upm_ne, upm_hit]
  · rw [f2, m6, m5, m4, m3]; simp (disch := omega) only [upm_ne, upm_sl]
  · rw [f2, m6, m5, m4, m3]; simp (disch := omega) only [upm_ne, upm_sl]
  · rw [f2, m6, m5, m4, m3]; simp (disch := omega) only [upm_ne, upm_sl]
  · rw [f2, m6, m5, m4, m3]; simp (disch := omega) only [upm_ne, upm_sl]
  · rw [f2, m6, m5, m4, m3]; simp (disch := omega) only [upm_ne, upm_sl]
  · rw [f2, m6, m5, m4, m3]; simp (disch := omega) only [upm_ne, upm_sl]
  · rw [f2, m6, m5, m4, m3]; simp (disch := omega) only [upm_ne]
/-- both so far: P pieces, the mixes around each of them in T -/
def InvT (g : Row) (C M : Mem) (P : Nat) (T : Nat → List (Int × Int)) : Prop :=
  (C 56 0 = (P : Int) ∧ M 0 17 = (P : Int) ∧ P ≤ 60 ∧ M 1 = g ∧ 0 ≤ M 0 22) ∧
  (∀ k : Nat, k < P → (M 7 k = C 57 k ∧ M 8 k = C 58 k ∧ M 9 k = C 59 k ∧ M 10 k = C 60 k) ∧
    (C 57 k = 0 ∧ (0 ≤ C 58 k ∧ C 58 k < g 5) ∨ C 57 k = 1 ∧ (0 ≤ C 58 k ∧ C 58 k < g 6)) ∧ (0 ≤ C 59 k ∧ C 59 k ≤ 400) ∧ (1 ≤ C 60 k ∧ C 60 k ≤ 400) ∧ (0 ≤ C 61 k ∧ C 61 k ≤ 400 * (k : Int)) ∧
    PcT M k (T k) ∧ (T k).length ≤ 4 ∧ ∀ p ∈ T k, p.1 ≤ M 0 22 ∧ 0 ≤ p.2 ∧ p.2 ≤ 40) ∧
  (0 < P → C 61 0 = 0 ∧ C 62 0 = 0 ∧ C 56 1 = C 61 (P - 1) + C 60 (P - 1)) ∧ (P = 0 → C 56 1 = 0) ∧
  ∀ k : Nat, k + 1 < P → C 62 (k + 1) = min (covr 0 (T (k + 1)) (T k)) (min (C 60 k) (C 60 (k + 1)) / 2) ∧ C 61 (k + 1) = C 61 k + C 60 k - C 62 (k + 1)
def Inv (g : Row) (C M : Mem) (P d : Nat) (S : List (Int × Int)) : Prop :=
  (∃ T : Nat → List (Int × Int), InvT g C M P T ∧ (0 < P → C 56 9 = (cpl S (T (P - 1)) : Nat))) ∧ (M 0 21 = (d : Int) ∧ S = stkL M g d ∧ d ≤ 4) ∧ (∀ j : Nat, j < d → ∃ r : Nat, M 16 j = (r : Int) ∧ r < 60) ∧ ∀ p ∈ S, p.1 ≤ M 0 22 ∧ 0 ≤ p.2 ∧ p.2 ≤ 40
def Ovl (C : Mem) (S : List (Int × Int)) : Prop := ∀ i : Nat, i < S.length → C 63 (i + 1) = (S.getD i (0, 0)).2
theorem getD_mem {L : List (Int × Int)} {i : Nat} (h : i < L.length) : L.getD i (0, 0) ∈ L := by
  rw [List.getD_eq_getElem?_getD, List.getElem?_eq_getElem h]
  exact List.getElem_mem h
theorem inv_piece {g : Row} {C M : Mem} {P d a : Nat} {S : List (Int × Int)} (w : WF g) (r : RSi C 5 g) (v : Inv g C M P d S) (o : Ovl C S) (hP : P < 60) (ha : (a : Int) < g 8) (hk : rk g a = 0 ∨ rk g a = 1) :
    ∃ C' M' : Mem, f_X5_addPiece 5 (it g a : Nat) (S.length : Nat) C = some C' ∧ f_X11_addsPiece (a : Int) M = some M' ∧ Inv g C' M' (P + 1) d S ∧ (∀ c : Nat, c < 56 ∨ 62 < c → C' c = C c) ∧ (∀ i : Nat, i ≠ 17 → M' 0 i = M 0 i) ∧ ∀ c : Nat, c ≠ 0 → (c < 7 ∨ 15 < c) → M' c = M c := by
  obtain ⟨⟨T, ⟨⟨t1, t2, t3, t4, t5⟩, tk, tf, tz, tn⟩, tc⟩, ⟨v1, v2, v3⟩, v4, v5⟩ := v
  have sl : S.length ≤ d := by rw [v2]; exact stkL_le M g d
  obtain ⟨M', b1, b2, b3, b4, b5, b6, b7, b8, b9, b10, b11⟩ := addsP_R (M := M) (P := P) (d := d) (a := a) (w.2.2.t60 ha) (by rw [t4]; exact rLF_b w.1 w.2.2 ha hk) (by rw [t4]; exact hk) v1 t2 (by omega) v3 v4
  rw [t4, ← v2] at b7
  rw [t4] at b8 b9 b10 b11
  have lb := rLF_b w.1 w.2.2 ha hk
  have cle := cpl_le S (T (P - 1))
  obtain ⟨C', c1, ⟨c2, c3, c4⟩, ⟨d1, d2, d3, d4, d5, d6⟩, c5, c6⟩ := addP_C (C := C) (g := g) (P := P) (c := cpl S (T (P - 1))) (a := a) (x := (S.length : Nat)) w.1 w.2.2 r ha hk t1 hP (fun z => ⟨tc z, by omega⟩) (fun z => by
    have q := tk (P - 1) (by omega)
    refine ⟨q.2.2.2.1, by omega, fun y => ?_⟩
    obtain ⟨i, hi⟩ : ∃ i, cpl S (T (P - 1)) = i + 1 := ⟨cpl S (T (P - 1)) - 1, by omega⟩
    rw [hi, o i (by omega)]
    exact (v5 _ (getD_mem (by omega))).2)
  have hfr : 1 ≤ rL g a - rF g a + 1 ∧ rL g a - rF g a + 1 ≤ 400 := by omega
  have ov : ∀ k, k + 1 = P → pOv C P (cpl S (T (P - 1))) (rL g a - rF g a + 1) = min (covr 0 S (T k)) (min (C 60 k) (rL g a - rF g a + 1) / 2) := by
    intro k hk'
    have q := (tk k (by omega)).2.2.2.1
    unfold pOv
    rw [show P - 1 = k by omega] at cle ⊢
    rw [if_neg (by omega), covr_get]
    by_cases z : cpl S (T k) = 0
    · rw [if_pos z, if_pos z]; omega
    · obtain ⟨i, hi⟩ : ∃ i, cpl S (T k) = i + 1 := ⟨cpl S (T k) - 1, by omega⟩
      rw [if_neg z, if_neg z, hi, o i (by omega), Nat.add_sub_cancel]
  obtain ⟨T', hT1, hT2⟩ : ∃ T' : Nat → List (Int × Int), T' P = S ∧ ∀ k : Nat, k ≠ P → T' k = T k := ⟨fun k => if k = P then S else T k, if_pos rfl, fun k h => if_neg h⟩
  refine ⟨C', M', c1, b1, ⟨⟨T', ⟨⟨c2, by rw [b2]; omega, by omega, by rw [b4 1 (by decide) (by decide) (by decide)]; exact t4, by rw [b3 22 (by decide)]; exact t5⟩, fun k hk' => ?_, fun _ => ?_, fun z => by omega, fun k hk' => ?_⟩, fun _ => ?_⟩, ⟨by rw [b3 21 (by decide)]; exact v1, ?_, v3⟩, ?_, ?_⟩, c6, b3, fun c c1 c2 => b4 c c1 (by omega) (by omega)⟩
  · by_cases z : k = P
    · have q := (w.2.2.2.2.2.2 a ha).2
      rw [z, hT1, b8, b9, b10, b11, d1, d2, d3, d4, d5, b3 22 (by decide)]
      refine ⟨⟨rfl, rfl, rfl, rfl⟩, ?_, by omega, by omega, ?_, b7, by omega, v5⟩
      · omega
      · unfold pBg pOv
        by_cases y : P = 0
        · rw [if_pos y]; omega
        · rw [if_neg y, if_neg y]
          have q := tk (P - 1) (by omega)
          have pp : ((P - 1 : Nat) : Int) = (P : Int) - 1 := by omega
          by_cases u : cpl S (T (P - 1)) = 0
          · rw [if_pos u]; omega
          · obtain ⟨i, hi⟩ : ∃ i, cpl S (T (P - 1)) = i + 1 := ⟨cpl S (T (P - 1)) - 1, by omega⟩
            have oi := (v5 _ (getD_mem (L := S) (i := i) (by omega))).2
            rw [if_neg u, hi, o i (by omega)]; omega
    · obtain ⟨q1, q2, q3, q4, q5, q6, q7, q8⟩ := tk k (by omega)
      obtain ⟨e1, e2, e3, e4, e5, e6⟩ := c5 k z
      obtain ⟨m1, m2, m3, m4, m5⟩ := b5 k (by omega)
      rw [hT2 k z, e1, e2, e3, e4, e5, m1, m2, m3, m4, b3 22 (by decide)]
      exact ⟨q1, q2, q3, q4, q5, q6.eqv m5 (fun i hi => b6 _ (by omega)), q7, q8⟩
  · rw [show P + 1 - 1 = P by omega, c4, d5, d4]
    refine ⟨?_, ?_, ?_⟩
    · by_cases z : P = 0
      · rw [z] at d5; rw [d5]; unfold pBg; rw [if_pos rfl]
      · rw [(c5 0 (by omega)).2.2.2.2.1]; exact (tf (by omega)).1
    · by_cases z : P = 0
      · rw [z] at d6; rw [d6]; unfold pOv; rw [if_pos rfl]
      · rw [(c5 0 (by omega)).2.2.2.2.2]; exact (tf (by omega)).2.1
    · by_cases z : P = 0
      · unfold pBg; rw [if_pos z, tz z]; omega
      · have o1 := ov (P - 1) (by omega)
        have q := (tk (P - 1) (by omega)).2.2.2.1
        have f := (tf (by omega)).2.2
        unfold pBg; rw [if_neg z]; omega
  · by_cases z : k + 1 = P
    · have o1 := ov k z
      rw [hT2 k (by omega), z, hT1, d6, d5, d4, (c5 k (by omega)).2.2.2.1, (c5 k (by omega)).2.2.2.2.1, o1]
      refine ⟨rfl, ?_⟩
      unfold pBg; rw [if_neg (by omega), show P - 1 = k by omega]
    · rw [hT2 k (by omega), hT2 (k + 1) z, (c5 k (by omega)).2.2.2.1, (c5 k (by omega)).2.2.2.2.1, (c5 (k + 1) z).2.2.2.1, (c5 (k + 1) z).2.2.2.2.1, (c5 (k + 1) z).2.2.2.2.2]
      exact tn k (by omega)
  · rw [show P + 1 - 1 = P by omega, hT1, c3, cpl_self]
  · rw [stkL_c (M := M) (M' := M') d (fun j _ => ⟨by rw [b4 16 (by decide) (by decide) (by decide)], by rw [b4 18 (by decide) (by decide) (by decide)]⟩)]; exact v2
  · rw [b4 16 (by decide) (by decide) (by decide)]; exact v4
  · rw [b3 22 (by decide)]; exact v5
