/-! a reel of more than 60 pieces: the reference stops at the 61st -/
theorem rLF_o {g : Row} (hl : WFl g) {t : Nat} (h : rowOK g t) (hk : rk g t = 0 ∨ rk g t = 1) : 0 ≤ rF g t ∧ rF g t ≤ rL g t ∧ rL g t ≤ 399 := by
  unfold rowOK at h
  unfold rF rL
  rcases hk with c | c
  · rw [if_pos c, if_pos c]
    rcases h with w | w | w | w | w
    · have := hl.2.2.2.2.2.2.2.2.1 (g (127 + 4 * t)).toNat (by omega)
      omega
    all_goals omega
  · have n0 : ¬ rk g t = 0 := by omega
    rw [if_neg n0, if_neg n0, if_pos c]
    omega
def JP (g : Row) (M : Mem) (P : Nat) : Prop := M 1 = g ∧ M 0 17 = (P : Int) ∧ ∀ k : Nat, k < P → (1 ≤ M 10 k ∧ M 10 k ≤ 400) ∧ ∃ L : List (Int × Int), PcT M k L ∧ L.length ≤ 4 ∧ ∀ p ∈ L, 0 ≤ p.2 ∧ p.2 ≤ 40
def JR (g : Row) (M : Mem) (P d : Nat) : Prop := JP g M P ∧ (M 0 21 = (d : Int) ∧ d ≤ 4 ∧ 0 ≤ M 0 22) ∧ (∀ j : Nat, j < d → ∃ r : Nat, M 16 j = (r : Int) ∧ r < 60) ∧ ∀ p ∈ stkL M g d, 0 ≤ p.2 ∧ p.2 ≤ 40
theorem JP.eqv {g : Row} {M M' : Mem} {P : Nat} (h : JP g M P) (e : ∀ c : Nat, c = 1 ∨ (7 ≤ c ∧ c ≤ 15) → M' c = M c) (e17 : M' 0 17 = M 0 17) : JP g M' P := by
  unfold JP PcT at h ⊢
  rw [e 1 (by omega), e 10 (by omega), e 13 (by omega), e 14 (by omega), e 15 (by omega), e17]; exact h
theorem jr_piece {g : Row} {M : Mem} {P d a : Nat} (hl : WFl g) (a60 : a < 60) (ro : rowOK g a) (hk : rk g a = 0 ∨ rk g a = 1) (j : JR g M P d) (hP : P ≤ 60) : ∃ M' : Mem, f_X11_addsPiece (a : Int) M = some M' ∧ JR g M' (P + 1) d ∧ (∀ i : Nat, i ≠ 17 → M' 0 i = M 0 i) ∧ ∀ c : Nat, c ≠ 0 → (c < 7 ∨ 15 < c) → M' c = M c := by
  obtain ⟨⟨j1, j2, j3⟩, ⟨v1, v3, v22⟩, v4, v5⟩ := j
  have lb := rLF_o hl ro hk
  obtain ⟨M', b1, b2, b3, b4, b5, b6, b7, b8, b9, b10, b11⟩ := addsP_R (M := M) (P := P) (d := d) (a := a) a60 (by rw [j1]; exact lb) (by rw [j1]; exact hk) v1 j2 hP v3 v4
  rw [j1] at b7 b11
  have sl := stkL_le M g d
  refine ⟨M', b1, ⟨⟨by rw [b4 1 (by decide) (by decide) (by decide)]; exact j1, by rw [b2]; omega, fun k hk' => ?_⟩, ⟨by rw [b3 21 (by decide)]; exact v1, v3, by rw [b3 22 (by decide)]; exact v22⟩, by rw [b4 16 (by decide) (by decide) (by decide)]; exact v4, ?_⟩, b3, fun c c1 c2 => b4 c c1 (by omega) (by omega)⟩
  · by_cases z : k = P
    · rw [z, b11]
      exact ⟨by omega, stkL M g d, b7, by omega, v5⟩
    · obtain ⟨q1, L, q2, q3, q4⟩ := j3 k (by omega)
      obtain ⟨m1, m2, m3, m4, m5⟩ := b5 k (by omega)
      rw [m4]
      exact ⟨q1, L, q2.eqv m5 (fun i hi => b6 _ (by omega)), q3, q4⟩
  · rw [stkL_c (M := M) (M' := M') d (fun j _ => ⟨by rw [b4 16 (by decide) (by decide) (by decide)], by rw [b4 18 (by decide) (by decide) (by decide)]⟩)]; exact v5
def OvA (g : Row) (a : Nat) (M : Mem) (b : Nat) : Prop := ∃ (M' : Mem) (s a' : Nat), s ≤ b ∧ (∀ n : Nat, f_X11_laysPieces_L17 (n + s) (a : Int) M = f_X11_laysPieces_L17 n (a' : Int) M') ∧ JP g M' 61 ∧ layK M M'
def OkA (g : Row) (a : Nat) (M : Mem) (c b P' d : Nat) : Prop := ∃ (M' : Mem) (s : Nat), s ≤ b ∧ (∀ n : Nat, f_X11_laysPieces_L17 (n + s) (a : Int) M = f_X11_laysPieces_L17 n (c : Int) M') ∧ JR g M' P' d ∧ stkK d M M' ∧ M' 0 22 ≤ M 0 22 + (s : Int)
def RunR (g : Row) (d a b N : Nat) : Prop := ∀ (M : Mem) (P : Nat), JR g M P d → P ≤ 60 → M 0 22 + (((b - a) * wt d : Nat) : Int) ≤ 1000000 → (P + N ≤ 60 → OkA g a M b ((b - a) * wt d) (P + N) d) ∧ (60 < P + N → OvA g a M ((b - a) * wt d))
theorem stkL_sub {M : Mem} {g : Row} {d : Nat} {p : Int × Int} (h : p ∈ stkL M g d) : p ∈ stkL M g (d + 1) := by
  rw [stkL_s]
  split
  · exact h
  · exact List.mem_append.2 (Or.inl h)
theorem layK.trans' {A B C : Mem} (h : layK A B) (h2 : layK B C) : layK A C := ⟨fun c c1 c2 => (h2.1 c c1 c2).trans (h.1 c c1 c2), fun j j1 j2 j3 => (h2.2 j j1 j2 j3).trans (h.2 j j1 j2 j3)⟩
theorem repR {g : Row} (h8 : g 8 ≤ 60) {d a c K : Nat} (run : RunR g (d + 1) (a + 1) c K) (a60 : a < 60) (hac : a < c) (hc : (c : Int) < g 8) (c4 : rk g c = 4) (hd : d < 4) : ∀ (r : Nat) (M : Mem) (P : Nat), 1 ≤ r → r ≤ 9 → JR g M P (d + 1) → M 17 d = (r : Int) → M 16 d = (a : Int) → P ≤ 60 → M 0 22 + ((r * ((c - (a + 1)) * wt (d + 1) + 1) : Nat) : Int) ≤ 1000000 →
    (P + r * K ≤ 60 → OkA g (a + 1) M (c + 1) (r * ((c - (a + 1)) * wt (d + 1) + 1)) (P + r * K) d) ∧ (60 < P + r * K → OvA g (a + 1) M (r * ((c - (a + 1)) * wt (d + 1) + 1))) := by
  obtain ⟨W, hW⟩ : ∃ W, W = (c - (a + 1)) * wt (d + 1) := ⟨_, rfl⟩
  rw [← hW]
  intro r
  induction r with
  | zero => intro M P h; omega
  | succ r ih =>
    intro M P _ hr j h17 h16 hP h22
    have rK : (r + 1) * K = r * K + K := Nat.succ_mul r K
    have rW : (r + 1) * (W + 1) = r * (W + 1) + (W + 1) := Nat.succ_mul r (W + 1)
    rw [rK]
    rw [rW] at h22 ⊢
    obtain ⟨i1, i2⟩ := run M P j hP (by rw [← hW]; omega)
    rw [← hW] at i1 i2
    by_cases ov : 60 < P + K
    · obtain ⟨M', s, a', s1, s2, s3, s4⟩ := i2 ov
      exact ⟨fun h => by omega, fun _ => ⟨M', s, a', by omega, s2, s3, s4⟩⟩
    · obtain ⟨M1, s1, e1, e3, e4, e8, e9⟩ := i1 (by omega)
      have k1 := e8.1 d (by omega)
      obtain ⟨M2, f1, f2, f3, f4, f5, f6⟩ := closes_R (M := M1) (d := d) (a := a) (c := c) (r := r + 1) e4.2.1.1 (by omega) (by rw [k1.2.1]; exact h17) (by omega) (by rw [k1.1]; exact h16) a60 (by omega)
      have goM : ∀ n : Nat, f_X11_laysPieces_L17 (n + 1) (c : Int) M1 = f_X11_laysPieces_L17 n (if r + 1 = 1 then ((c + 1 : Nat) : Int) else ((a + 1 : Nat) : Int)) M2 := by
        intro n
        rw [go_R (by rw [e4.1.1]; exact hc) (by rw [e4.1.2.1]; omega)]
        unfold f_X11_goesThrough
        rw [r0 (by omega), e4.1.1, Option.bind_some, c4, if_neg (by decide), if_neg (by decide), if_pos rfl, f1]
        rfl
      have st12 : stkK d M M2 := (e8.low (by omega)).trans ⟨fun j hj => ⟨by rw [f6 16 (by decide) (by decide)], f5 j (by omega), by rw [f6 18 (by decide) (by decide)]⟩, fun c c1 c2 => f6 c c1 (by omega), fun j _ j2 _ => f4 j j2⟩
      have m22 : M2 0 22 = M1 0 22 := f4 22 (by decide)
      have jp2 : JP g M2 (P + K) := e4.1.eqv (fun c hc => f6 c (by omega) (by omega)) (f4 17 (by decide))
      by_cases z : r = 0
      · subst z
        have j2 : JR g M2 (P + K) d := ⟨jp2, ⟨by rw [f2, if_pos rfl], by omega, by rw [m22]; exact e4.2.1.2.2⟩, fun j hj => by rw [f6 16 (by decide) (by decide)]; exact e4.2.2.1 j (by omega), fun p hp => by
          rw [stkL_c (M := M1) d (fun j _ => ⟨by rw [f6 16 (by decide) (by decide)], by rw [f6 18 (by decide) (by decide)]⟩)] at hp
          exact e4.2.2.2 p (stkL_sub hp)⟩
        refine ⟨fun _ => ⟨M2, s1 + 1, by omega, fun n => by rw [show n + (s1 + 1) = n + 1 + s1 by omega, e3, goM, if_pos rfl], by rw [Nat.zero_mul, Nat.zero_add]; exact j2, st12, by omega⟩, fun h => by omega⟩
      · have j2 : JR g M2 (P + K) (d + 1) := ⟨jp2, ⟨by rw [f2, if_neg (by omega)], by omega, by rw [m22]; exact e4.2.1.2.2⟩, fun j hj => by rw [f6 16 (by decide) (by decide)]; exact e4.2.2.1 j (by omega), fun p hp => by
          rw [stkL_c (M := M1) (d + 1) (fun j _ => ⟨by rw [f6 16 (by decide) (by decide)], by rw [f6 18 (by decide) (by decide)]⟩)] at hp
          exact e4.2.2.2 p hp⟩
        obtain ⟨g1, g2⟩ := ih M2 (P + K) (by omega) (by omega) j2 (by rw [f3]; omega) (by rw [f6 16 (by decide) (by decide), k1.1]; exact h16) (by omega) (by omega)
        refine ⟨fun h => ?_, fun h => ?_⟩
        · obtain ⟨M3, s3, u1, u2, u3, u4, u5⟩ := g1 (by omega)
          refine ⟨M3, s1 + 1 + s3, by omega, fun n => ?_, by rw [show P + (r * K + K) = P + K + r * K by omega]; exact u3, st12.trans u4, by omega⟩
          rw [show n + (s1 + 1 + s3) = n + s3 + 1 + s1 by omega, e3, goM, if_neg (by omega)]
          exact u2 n
        · obtain ⟨M3, s3, a3, u1, u2, u3, u4⟩ := g2 (by omega)
          refine ⟨M3, s1 + 1 + s3, a3, by omega, fun n => ?_, u3, st12.2.trans' u4⟩
          rw [show n + (s1 + 1 + s3) = n + s3 + 1 + s1 by omega, e3, goM, if_neg (by omega)]
          exact u2 n
theorem run_over {g : Row} (hl : WFl g) (h8 : 0 ≤ g 8 ∧ g 8 ≤ 60) (w : PWF g (g 8).toNat) : SegQ g (fun d a b N => a ≤ b ∧ (b : Int) ≤ g 8 ∧ RunR g d a b N) := by
  refine ⟨fun d a da ha => ⟨Nat.le_refl _, ha, fun M P j hP _ => ⟨fun _ => ⟨M, 0, Nat.zero_le _, fun n => rfl, j, ⟨fun _ _ => ⟨rfl, rfl, rfl⟩, fun _ _ _ => rfl, fun _ _ _ _ => rfl⟩, by omega⟩, fun h => by omega⟩⟩, fun d a b N ha da hk q => ?_, fun d a c b K N ha da hd hk q1 hc c4 hac din q2 => ?_⟩
  · obtain ⟨q1, q2, q6⟩ := q
    refine ⟨by omega, q2, fun M P j hP h22 => ?_⟩
    have a60 : a < 60 := by omega
    obtain ⟨M1, p2, p3, p5, p6⟩ := jr_piece hl a60 (w a (by omega)).2 hk j hP
    have eb : (b - a) * wt d = (b - (a + 1)) * wt d + wt d := by
      rw [show b - a = b - (a + 1) + 1 by omega, Nat.add_mul, Nat.one_mul]
    have wp := wt_p d
    rw [eb] at h22 ⊢
    have go : ∀ n : Nat, f_X11_laysPieces_L17 (n + 1) (a : Int) M = f_X11_laysPieces_L17 n ((a + 1 : Nat) : Int) M1 := by
      intro n
      rw [go_R (by rw [j.1.1]; exact ha) (by rw [j.1.2.1]; omega)]
      unfold f_X11_goesThrough
      rw [r0 (by omega), j.1.1, Option.bind_some, if_neg (by omega), if_neg (by omega), if_neg (by omega), p2, Option.bind_some, ck_pos ⟨by omega, by omega⟩, Option.bind_some, show (a : Int) + 1 = ((a + 1 : Nat) : Int) by omega]
    have st : stkK d M M1 := ⟨fun j _ => by rw [p6 16 (by decide) (by omega), p6 17 (by decide) (by omega), p6 18 (by decide) (by omega)]; exact ⟨rfl, rfl, rfl⟩, fun c c1 c2 => p6 c c1 (by omega), fun j j1 _ _ => p5 j j1⟩
    by_cases y : P = 60
    · refine ⟨fun h => by omega, fun _ => ⟨M1, 1, a + 1, by omega, go, ?_, st.2⟩⟩
      have := p3.1
      rw [y] at this; exact this
    · have m22 : M1 0 22 = M 0 22 := p5 22 (by decide)
      obtain ⟨i1, i2⟩ := q6 M1 (P + 1) p3 (by omega) (by rw [m22]; omega)
      refine ⟨fun h => ?_, fun h => ?_⟩
      · obtain ⟨M2, s, u1, u2, u3, u4, u5⟩ := i1 (by omega)
        exact ⟨M2, s + 1, by omega, fun n => by rw [show n + (s + 1) = n + s + 1 by omega, go, u2], by rw [show P + (N + 1) = P + 1 + N by omega]; exact u3, st.trans u4, by omega⟩
      · obtain ⟨M2, s, a', u1, u2, u3, u4⟩ := i2 (by omega)
        exact ⟨M2, s + 1, a', by omega, fun n => by rw [show n + (s + 1) = n + s + 1 by omega, go, u2], u3, st.2.trans' u4⟩
  · obtain ⟨q11, q12, q16⟩ := q1
    obtain ⟨q21, q22, q26⟩ := q2
    have a60 : a < 60 := by omega
    have ro := (w a (by omega)).2
    unfold rowOK at ro
    obtain ⟨t, ht, t1, t9⟩ : ∃ t : Nat, t = (if rk g a = 2 then (g (127 + 4 * a)).toNat else 1) ∧ 1 ≤ t ∧ t ≤ 9 := ⟨_, rfl, by split <;> omega, by split <;> omega⟩
    rw [← ht]
    refine ⟨by omega, q22, fun M P j hP h22 => ?_⟩
    have eb : (b - a) * wt d = (c + 1 - a) * wt d + (b - (c + 1)) * wt d := by
      rw [show b - a = (c + 1 - a) + (b - (c + 1)) by omega, Nat.add_mul]
    rw [eb] at h22 ⊢
    obtain ⟨W, hW⟩ : ∃ W, W = (c - (a + 1)) * wt (d + 1) := ⟨_, rfl⟩
    have wb := wt_blk (x := c - (a + 1)) (t := t) hd t9 hW
    rw [show c - (a + 1) + 2 = c + 1 - a by omega] at wb
    -- opened
    obtain ⟨m, hm⟩ : ∃ m : Int, m = (if rk g a = 2 then 0 else 1) := ⟨_, rfl⟩
    have hm01 : m = 0 ∨ m = 1 := by rw [hm]; split <;> simp
    obtain ⟨M1, o1, o2, o3, o4, o5, o6, o7, o8, o9⟩ := opens_R (M := M) (d := d) (a := a) (t := (t : Int)) (m := m) j.2.1.1 (by omega) hm01 ⟨j.2.1.2.2, by omega⟩
    have go : ∀ n : Nat, f_X11_laysPieces_L17 (n + 1) (a : Int) M = f_X11_laysPieces_L17 n ((a + 1 : Nat) : Int) M1 := by
      intro n
      rw [go_R (by rw [j.1.1]; exact ha) (by rw [j.1.2.1]; omega)]
      unfold f_X11_goesThrough
      rw [r0 (by omega), j.1.1, Option.bind_some]
      by_cases y : rk g a = 2
      · rw [if_pos y] at ht hm
        rw [if_pos y, r1 (by omega), j.1.1, Option.bind_some, show g (127 + 4 * a) = (t : Int) by omega, ← hm, o1, Option.bind_some, ck_pos ⟨by omega, by omega⟩, Option.bind_some, show (a : Int) + 1 = ((a + 1 : Nat) : Int) by omega]
      · rw [if_neg y] at ht hm
        rw [ht, hm] at o1
        have o1 : f_X11_opens (a : Int) 1 1 M = some M1 := o1
        rw [if_neg y, if_pos (by omega), o1, Option.bind_some, ck_pos ⟨by omega, by omega⟩, Option.bind_some, show (a : Int) + 1 = ((a + 1 : Nat) : Int) by omega]
    have mb : 0 ≤ m ∧ m ≤ 1 := by omega
    have st : stkK d M M1 := ⟨fun j hj => o8 j (by omega), fun c c1 c2 => o9 c c1 (by omega), fun j _ j2 j3 => o4 j j2 j3⟩
    have j1 : JR g M1 P (d + 1) := by
      refine ⟨j.1.eqv (fun c hc => o9 c (by omega) (by omega)) (o4 17 (by decide) (by decide)), ⟨by rw [o2]; omega, by omega, by have := j.2.1.2.2; omega⟩, fun i hi => ?_, fun p hp => ?_⟩
      · by_cases z : i = d
        · rw [z]; exact ⟨a, o5, a60⟩
        · rw [(o8 i z).1]; exact j.2.2.1 i (by omega)
      · rw [stkL_s, stkL_c (M := M) d (fun j hj => ⟨(o8 j (by omega)).1, (o8 j (by omega)).2.2⟩)] at hp
        by_cases z : M1 18 d = 0
        · rw [if_pos z] at hp; exact j.2.2.2 p hp
        · rw [if_neg z, List.mem_append, List.mem_singleton] at hp
          rcases hp with u | u
          · exact j.2.2.2 p u
          · have k3 : rk g a = 3 := by
              apply Decidable.byContradiction
              intro y
              rw [if_pos (by omega)] at hm
              rw [o7, if_pos hm] at z
              exact z rfl
            rw [u, o5, Int.toNat_natCast]
            exact ⟨by omega, by omega⟩
    obtain ⟨i1, i2⟩ := repR h8.2 q16 a60 hac hc c4 hd t M1 P t1 t9 j1 o6 o5 hP (by rw [← hW]; omega)
    rw [← hW] at i1 i2
    by_cases ov : 60 < P + t * K
    · obtain ⟨M2, s, a', u1, u2, u3, u4⟩ := i2 ov
      exact ⟨fun h => by omega, fun _ => ⟨M2, s + 1, a', by omega, fun n => by rw [show n + (s + 1) = n + s + 1 by omega, go, u2], u3, st.2.trans' u4⟩⟩
    · obtain ⟨M2, s, u1, u2, u3, u4, u5⟩ := i1 (by omega)
      obtain ⟨g1, g2⟩ := q26 M2 (P + t * K) u3 (by omega) (by omega)
      refine ⟨fun h => ?_, fun h => ?_⟩
      · obtain ⟨M3, s3, x1, x2, x3, x4, x5⟩ := g1 (by omega)
        exact ⟨M3, s3 + (s + 1), by omega, fun n => by rw [show n + (s3 + (s + 1)) = n + s3 + s + 1 by omega, go, u2, x2], by rw [← Nat.add_assoc]; exact x3, (st.trans u4).trans x4, by omega⟩
      · obtain ⟨M3, s3, a3, x1, x2, x3, x4⟩ := g2 (by omega)
        exact ⟨M3, s3 + (s + 1), a3, by omega, fun n => by rw [show n + (s3 + (s + 1)) = n + s3 + s + 1 by omega, go, u2, x2], x3, (st.trans u4).2.trans' x4⟩
theorem lay61 {g : Row} {M0 : Mem} (v : JP g M0 61) : ∀ (k j n : Nat) (M : Mem), j + k = 61 → k < n → (∀ c : Nat, c ≠ 11 → c ≠ 12 → M c = M0 c) → (∀ i : Nat, i < j → -40 * (i : Int) ≤ M 11 i ∧ M 11 i ≤ 400 * (i : Int)) →
    ∃ M' : Mem, f_X11_laysPieces_L48 n (j : Int) M = some M' ∧ ∀ c : Nat, c ≠ 11 → c ≠ 12 → M' c = M0 c := by
  obtain ⟨_, t2, tk⟩ := v
  intro k
  induction k with
  | zero =>
    intro j n M hj hn f1 f2
    obtain ⟨n, rfl⟩ := nat_ex hn
    refine ⟨M, ?_, f1⟩
    rw [f_X11_laysPieces_L48, f1 0 (by decide) (by decide), t2, if_pos (by omega)]
  | succ k ih =>
    intro j n M hj hn f1 f2
    obtain ⟨n, rfl⟩ := nat_ex hn
    have go : ∀ (v e : Int), -40 * (j : Int) ≤ e → e ≤ 400 * (j : Int) → ∃ M' : Mem, f_X11_laysPieces_L48 n ((j + 1 : Nat) : Int) (upm (upm M 12 j v) 11 j e) = some M' ∧ ∀ c : Nat, c ≠ 11 → c ≠ 12 → M' c = M0 c := fun v e e1 e2 =>
      ih (j + 1) n _ (by omega) (by omega) (fun c c1 c2 => by rw [upm_ne c1, upm_ne c2]; exact f1 c c1 c2) (fun i hi => by
        by_cases z : i = j
        · rw [z, upm_hit]; exact ⟨e1, e2⟩
        · rw [upm_sl z, upm_ne (b := 11) (by decide)]; exact f2 i (by omega))
    rw [f_X11_laysPieces_L48, f1 0 (by decide) (by decide), t2, if_neg (by omega), jn_eq]
    by_cases z : j = 0
    · subst z
      rw [if_pos (show ((0 : Nat) : Int) = 0 from rfl)]
      dsimp only
      rw [ck_pos ⟨by omega, by omega⟩, lt_eq, if_pos (show ((0 : Nat) : Int) = 0 from rfl), lt_eq, ck_pos ⟨by omega, by omega⟩]
      rw [show ((0 : Nat) : Int).toNat = 0 from rfl]
      exact go 0 0 (by omega) (by omega)
    · obtain ⟨i, rfl⟩ : ∃ i, j = i + 1 := ⟨j - 1, by omega⟩
      obtain ⟨b1, L1, p1, l1, o1⟩ := tk (i + 1) (by omega)
      obtain ⟨b0, L0, p0, l0, o0⟩ := tk i (by omega)
      have q0e : M 10 i = M0 10 i := by rw [f1 10 (by decide) (by decide)]
      have q1e : M 10 (i + 1) = M0 10 (i + 1) := by rw [f1 10 (by decide) (by decide)]
      have cv := L_cov (M := M) (k := i) (L1 := L1) (L0 := L0) (by omega) (p1.eqv (by rw [f1 13 (by decide) (by decide)]) (fun _ _ => by rw [f1 14 (by decide) (by decide), f1 15 (by decide) (by decide)]; exact ⟨rfl, rfl⟩)) (p0.eqv (by rw [f1 13 (by decide) (by decide)]) (fun _ _ => by rw [f1 14 (by decide) (by decide), f1 15 (by decide) (by decide)]; exact ⟨rfl, rfl⟩)) l1 l0 4 0 jFuel 0 rfl (jF (by omega)) (Or.inr trivial)
      have cv : f_X11_commonOverlap ((i + 1 : Nat) : Int) M = some (covr 0 L1 L0) := cv
      have cb := covr_b (l := L1) (m := L0) (fun p hp => (o1 p hp).1)
      have fi := f2 i (by omega)
      obtain ⟨v, hv⟩ : ∃ v : Int, v = min (covr 0 L1 L0) (min (M0 10 (i + 1)) (M0 10 i) / 2) := ⟨_, rfl⟩
      have vb : 0 ≤ v ∧ v ≤ 200 ∧ v ≤ M0 10 i := by omega
      have c40 : covr 0 L1 L0 ≤ 40 := by
        rw [covr_get]
        have le := cpl_le L1 L0
        by_cases y : cpl L1 L0 = 0
        · rw [if_pos y]; omega
        · rw [if_neg y]; exact (o1 _ (getD_mem (by omega))).2
      rw [if_neg (by omega), cv, Option.bind_some, ck_pos ⟨by omega, by omega⟩, ck_pos ⟨by omega, by omega⟩, ck_pos ⟨by omega, by omega⟩, show (((i + 1 : Nat) : Int) - 1).toNat = i by omega, Int.toNat_natCast, q0e, q1e, idiv2 ⟨by omega, by omega⟩, ← hv]
      have en : f_X11_endOf (((i + 1 : Nat) : Int) - 1) (upm M 12 (i + 1) v) = some (M 11 i + M0 10 i) := by
        unfold f_X11_endOf
        rw [ck_pos ⟨by omega, by omega⟩, show (((i + 1 : Nat) : Int) - 1).toNat = i by omega, upm_ne (b := 11) (by decide), upm_ne (b := 10) (by decide), q0e, ck_pos ⟨by omega, by omega⟩]
      dsimp only
      rw [ck_pos ⟨by omega, by omega⟩, lt_eq, if_neg (by omega), ck_pos ⟨by omega, by omega⟩, en, Option.bind_some, upm_hit, ck_pos ⟨by omega, by omega⟩, lt_eq, ck_pos ⟨by omega, by omega⟩, show ((i + 1 : Nat) : Int) + 1 = ((i + 1 + 1 : Nat) : Int) by omega]
      exact go v _ (by omega) (by omega)
theorem over_R {g : Row} (hl : WFl g) (h8 : 0 ≤ g 8 ∧ g 8 ≤ 60) (w : PWF g (g 8).toNat) (d0 : dp g (g 8).toNat = 0) (hn : 60 < npc g (g 8).toNat) {Mr : Mem} (e1 : Mr 1 = g) : ∃ M' : Mem, f_X11_laysPieces Mr = some M' ∧ layK Mr M' ∧ M' 0 17 = 61 := by
  have wr : WFr g := ⟨h8, d0, trivial, trivial, fun i hi => w i (by omega)⟩
  obtain ⟨N, sg, nN⟩ := seg_allr wr
  obtain ⟨_, _, run⟩ := sg _ (run_over hl h8 w)
  obtain ⟨M, hM⟩ : ∃ M : Mem, M = upm (upm (upm Mr 0 17 0) 0 21 0) 0 22 0 := ⟨_, rfl⟩
  have fM : ∀ c : Nat, c ≠ 0 → M c = Mr c := fun c hc => by rw [hM, upm_ne hc, upm_ne hc, upm_ne hc]
  have fM0 : ∀ j : Nat, j ≠ 17 → j ≠ 21 → j ≠ 22 → M 0 j = Mr 0 j := fun j j1 j2 j3 => by rw [hM, upm_sl j3, upm_sl j2, upm_sl j1]
  have m17 : M 0 17 = 0 := by rw [hM, upm_sl (by decide), upm_sl (by decide), upm_hit]
  have m21 : M 0 21 = 0 := by rw [hM, upm_sl (by decide), upm_hit]
  have m22 : M 0 22 = 0 := by rw [hM, upm_hit]
  have wt0 : wt 0 = 6561 := by decide
  have j0 : JR g M 0 0 := ⟨⟨(fM 1 (by decide)).trans e1, m17, fun k hk => by omega⟩, ⟨m21, by omega, by omega⟩, fun j hj => by omega, fun p hp => by simp [stkL] at hp⟩
  obtain ⟨M1, s, a', s1, s2, s3, s4⟩ := (run M 0 j0 (by omega) (by rw [m22, wt0]; omega)).2 (by omega)
  rw [wt0] at s1
  have jf : s + 1 < jFuel := by unfold jFuel; omega
  obtain ⟨M2, b1, b2⟩ := lay61 s3 61 0 jFuel M1 (by omega) (jF (by omega)) (fun _ _ _ => rfl) (fun i hi => absurd hi (Nat.not_lt_zero i))
  refine ⟨M2, ?_, ⟨fun c c1 c2 => ?_, fun j j1 j2 j3 => ?_⟩, by rw [b2 0 (by decide) (by decide)]; exact s3.2.1⟩
  · unfold f_X11_laysPieces
    rw [lt_eq, lt_eq, lt_eq, ← hM]
    have e := s2 (jFuel - s - 1 + 1)
    rw [show jFuel - s - 1 + 1 + s = jFuel by omega] at e
    have e : f_X11_laysPieces_L17 jFuel 0 M = f_X11_laysPieces_L17 (jFuel - s - 1 + 1) (a' : Int) M1 := e
    have b1 : f_X11_laysPieces_L48 jFuel 0 M1 = some M2 := b1
    rw [e, f_X11_laysPieces_L17, s3.2.1]
    split
    · exact b1
    · rw [if_pos (by omega)]; exact b1
  · rw [b2 c (by omega) (by omega), s4.1 c c1 c2, fM c c1]
  · rw [b2 0 (by decide) (by decide), s4.2 j j1 j2 j3, fM0 j j1 j2 j3]
