/-! rows of one depth, one behind the other -/
def SegQ (g : Row) (Q : Nat → Nat → Nat → Nat → Prop) : Prop :=
  (∀ d a : Nat, dp g a = (d : Int) → (a : Int) ≤ g 8 → Q d a a 0) ∧
  (∀ d a b N : Nat, (a : Int) < g 8 → dp g a = (d : Int) → (rk g a = 0 ∨ rk g a = 1) → Q d (a + 1) b N → Q d a b (N + 1)) ∧
  ∀ d a c b K N : Nat, (a : Int) < g 8 → dp g a = (d : Int) → d < 4 → (rk g a = 2 ∨ rk g a = 3) → Q (d + 1) (a + 1) c K → (c : Int) < g 8 → rk g c = 4 → a < c → (∀ t : Nat, a < t → t ≤ c → (d : Int) < dp g t) → Q d (c + 1) b N → Q d a b ((if rk g a = 2 then (g (127 + 4 * a)).toNat else 1) * K + N)
def Seg (g : Row) (d a b N : Nat) : Prop := ∀ Q : Nat → Nat → Nat → Nat → Prop, SegQ g Q → Q d a b N
/-- a row without a bound of its pieces -/
def WFr (g : Row) : Prop := (0 ≤ g 8 ∧ g 8 ≤ 60) ∧ dp g (g 8).toNat = 0 ∧ True ∧ True ∧
  ∀ i : Nat, (i : Int) < g 8 → (0 ≤ dp g i ∧ dp g i ≤ 4) ∧
    (rk g i = 0 ∧ (0 ≤ g (127 + 4 * i) ∧ g (127 + 4 * i) < g 5) ∧ 0 ≤ g (128 + 4 * i) ∧ g (128 + 4 * i) ≤ g (129 + 4 * i) ∧ g (129 + 4 * i) < g (13 + 2 * (g (127 + 4 * i)).toNat) ∨
     rk g i = 1 ∧ (0 ≤ g (127 + 4 * i) ∧ g (127 + 4 * i) < g 6) ∧ 1 ≤ g (128 + 4 * i) ∧ g (128 + 4 * i) ≤ 400 ∨
     rk g i = 2 ∧ dp g i < 4 ∧ 1 ≤ g (127 + 4 * i) ∧ g (127 + 4 * i) ≤ 9 ∨
     rk g i = 3 ∧ dp g i < 4 ∧ 0 ≤ g (127 + 4 * i) ∧ g (127 + 4 * i) ≤ 40 ∨
     rk g i = 4 ∧ 0 < dp g i)
theorem WFi.r {g : Row} (h : WFi g) : WFr g := ⟨h.1, h.2.1, trivial, trivial, h.2.2.2.2⟩
theorem WFr.kind {g : Row} (h : WFr g) {i : Nat} (hi : (i : Int) < g 8) : rk g i = 0 ∨ rk g i = 1 ∨ rk g i = 2 ∨ rk g i = 3 ∨ rk g i = 4 := by
  have := (h.2.2.2.2 i hi).2
  omega
theorem seg_ex {g : Row} (hi : WFr g) : ∀ (k a d : Nat), (a : Int) + k ≤ g 8 → (∀ i : Nat, i ≤ (g 8).toNat → (0 : Int) ≤ dp g i) → (g 8 - a).toNat ≤ k + 0 → dp g a = (d : Int) →
    ∃ b N : Nat, Seg g d a b N ∧ a ≤ b ∧ (b : Int) ≤ g 8 ∧ ((b : Int) = g 8 ∨ rk g b = 4) ∧ dp g b = (d : Int) ∧ (∀ t : Nat, a ≤ t → t ≤ b → (d : Int) ≤ dp g t) ∧ mulS g b = mulS g a ∧ npc g b = npc g a + (mulS g a).headD 0 * (N : Int) := by
  have h8 := hi.1
  suffices H : ∀ (K k a d : Nat), k ≤ K → (a : Int) + k = g 8 → dp g a = (d : Int) → ∃ b N : Nat, Seg g d a b N ∧ a ≤ b ∧ (b : Int) ≤ g 8 ∧ ((b : Int) = g 8 ∨ rk g b = 4) ∧ dp g b = (d : Int) ∧ (∀ t : Nat, a ≤ t → t ≤ b → (d : Int) ≤ dp g t) ∧ mulS g b = mulS g a ∧ npc g b = npc g a + (mulS g a).headD 0 * (N : Int) by
    intro k a d h1 _ h2 h3
    exact H k k a d (Nat.le_refl _) (by omega) h3
  intro K
  induction K with
  | zero =>
    intro k a d hk ha hd
    exact ⟨a, 0, fun Q h => h.1 d a hd (by omega), Nat.le_refl _, by omega, Or.inl (by omega), hd, fun t t1 t2 => by rw [show t = a by omega, hd]; exact Int.le_refl _, rfl, by simp⟩
  | succ K ih =>
    intro k a d hk ha hd
    by_cases z : k = 0
    · exact ih 0 a d (by omega) (by omega) hd
    · have al : (a : Int) < g 8 := by omega
      have q := (hi.2.2.2.2 a al).2
      have ds := dp_s g a
      by_cases r4 : rk g a = 4
      · exact ⟨a, 0, fun Q h => h.1 d a hd (by omega), Nat.le_refl _, by omega, Or.inr r4, hd, fun t t1 t2 => by rw [show t = a by omega, hd]; exact Int.le_refl _, rfl, by simp⟩
      · by_cases r01 : rk g a = 0 ∨ rk g a = 1
        · rw [if_neg (by omega), if_neg (by omega)] at ds
          obtain ⟨b, N, s1, s2, s3, s4, s5, s6, s7, s8⟩ := ih (k - 1) (a + 1) d (by omega) (by omega) (by omega)
          have m1 : mulS g (a + 1) = mulS g a := by rw [mulS, if_neg (by omega), if_neg (by omega), if_neg (by omega)]
          have n1 : npc g (a + 1) = npc g a + (mulS g a).headD 0 := by rw [npc, if_pos r01]
          refine ⟨b, N + 1, fun Q h => h.2.1 d a b N al hd r01 (s1 Q h), by omega, s3, s4, s5, fun t t1 t2 => ?_, s7.trans m1, ?_⟩
          · by_cases y : t = a
            · rw [y, hd]; exact Int.le_refl _
            · exact s6 t (by omega) t2
          · rw [s8, n1, m1, Int.natCast_add, Int.mul_add]
            show _ + _ + _ = _ + (_ + _ * (1 : Int))
            rw [Int.mul_one]; omega
        · have r23 : rk g a = 2 ∨ rk g a = 3 := by have := hi.kind al; omega
          rw [if_pos r23, if_neg r4] at ds
          obtain ⟨c, K', s1, s2, s3, s4, s5, s6, s7, s8⟩ := ih (k - 1) (a + 1) (d + 1) (by omega) (by omega) (by omega)
          have c4 : rk g c = 4 := by
            rcases s4 with y | y
            · rw [show c = (g 8).toNat by omega, hi.2.1] at s5; omega
            · exact y
          have cl : (c : Int) < g 8 := by
            apply Decidable.byContradiction
            intro y
            rw [show c = (g 8).toNat by omega, hi.2.1] at s5; omega
          have dsc := dp_s g c
          rw [if_neg (by omega), if_pos c4] at dsc
          obtain ⟨b, N, t1, t2, t3, t4, t5, t6, t7, t8⟩ := ih (g 8 - (c + 1 : Nat)).toNat (c + 1) d (by omega) (by omega) (by omega)
          have d4 : d < 4 := by omega
          have mc : mulS g (c + 1) = (mulS g c).tail := by rw [mulS, if_neg (by omega), if_neg (by omega), if_pos c4]
          have nc : npc g (c + 1) = npc g c := by rw [npc, if_neg (by omega), Int.add_zero]
          have na : npc g (a + 1) = npc g a := by rw [npc, if_neg (by omega), Int.add_zero]
          have ma : mulS g (a + 1) = ((mulS g a).headD 0 * ((if rk g a = 2 then (g (127 + 4 * a)).toNat else 1 : Nat) : Int)) :: mulS g a := by
            rw [mulS]
            by_cases y : rk g a = 2
            · rw [if_pos y, if_pos y, show (((g (127 + 4 * a)).toNat : Nat) : Int) = g (127 + 4 * a) by omega]
            · rw [if_neg y, if_neg y, if_pos (by omega)]
              show _ = (_ * (1 : Int)) :: _
              rw [Int.mul_one]
          refine ⟨b, (if rk g a = 2 then (g (127 + 4 * a)).toNat else 1) * K' + N, fun Q h => h.2.2 d a c b K' N al hd d4 r23 (s1 Q h) cl c4 (by omega) (fun t u1 u2 => by have := s6 t (by omega) u2; omega) (t1 Q h), by omega, t3, t4, t5, fun t u1 u2 => ?_, ?_, ?_⟩
          · by_cases y : t = a
            · rw [y, hd]; exact Int.le_refl _
            · by_cases y2 : t ≤ c
              · have := s6 t (by omega) y2; omega
              · exact t6 t (by omega) u2
          · rw [t7, mc, s7, ma]; rfl
          · rw [t8, nc, s8, na, mc, s7, ma]
            show npc g a + ((mulS g a).headD 0 * _) * (K' : Int) + (mulS g a).headD 0 * (N : Int) = _
            rw [Int.natCast_add, Int.natCast_mul, Int.mul_add, Int.mul_assoc]; omega
theorem seg_allr {g : Row} (hi : WFr g) : ∃ N : Nat, Seg g 0 0 (g 8).toNat N ∧ npc g (g 8).toNat = (N : Int) := by
  have h8 := hi.1
  have dp0 : ∀ i : Nat, i ≤ (g 8).toNat → (0 : Int) ≤ dp g i := by
    intro i hi'
    by_cases y : (i : Int) < g 8
    · exact (hi.2.2.2.2 i y).1.1
    · rw [show i = (g 8).toNat by omega, hi.2.1]; exact Int.le_refl _
  obtain ⟨b, N, s1, s2, s3, s4, s5, s6, s7, s8⟩ := seg_ex hi (g 8).toNat 0 0 (by omega) dp0 (by omega) rfl
  have e : b = (g 8).toNat := by
    rcases s4 with y | y
    · omega
    · by_cases u : (b : Int) < g 8
      · have q := (hi.2.2.2.2 b u).2
        rw [s5] at q; omega
      · omega
  rw [e] at s1 s8
  refine ⟨N, s1, ?_⟩
  have : npc g 0 + (mulS g 0).headD 0 * (N : Int) = N := by
    show (0 : Int) + 1 * (N : Int) = N; omega
  rw [s8]; exact this
theorem seg_all {g : Row} (hi : WFi g) : ∃ N : Nat, Seg g 0 0 (g 8).toNat N ∧ N ≤ 60 ∧ npc g (g 8).toNat = (N : Int) := by
  obtain ⟨N, s1, s2⟩ := seg_allr hi.r
  have n60 := hi.2.2.2.1
  exact ⟨N, s1, by omega, s2⟩
/-! the class: behind a block, whether it has pieces, what is deeper passed over -/
theorem stop_C {C : Mem} {s : Nat} {g : Row} (hi : WFi g) (r : RSi C s g) {d : Int} : ∀ (k e : Nat), (e : Int) + k = g 8 → dp g e ≤ d → it g e = it g (g 8).toNat ∨ (it g e < it g (g 8).toNat ∧ it g e < 30 ∧ C (s + 22) (it g e) ≤ d) := by
  intro k
  induction k with
  | zero => intro e h _; exact Or.inl (by rw [show (g 8).toNat = e by omega])
  | succ k ih =>
    intro e h hd
    by_cases r4 : rk g e = 4
    · have ds := dp_s g e
      rw [if_neg (by omega), if_pos r4] at ds
      have := ih (e + 1) (by omega) (by omega)
      rw [it_s4 r4] at this
      exact this
    · have b := hi.it30 (i := e) (by omega) r4
      refine Or.inr ⟨b.1, b.2, ?_⟩
      rw [(r.2 e (by omega) r4).2.2.2.2]; exact hd
theorem L_behC {C : Mem} {s : Nat} {g : Row} (hi : WFi g) (r : RSi C s g) {a c : Nat} (ha : (a : Int) < g 8) (h4 : rk g a ≠ 4) (hc : (c : Int) < g 8) (dc : dp g (c + 1) ≤ dp g a) (din : ∀ t : Nat, a < t → t ≤ c → dp g a < dp g t) : ∀ (k j n : Nat), j + k = c + 1 → a < j → k < n → f_X2_behind_L21 s (it g a : Nat) C n (it g j : Nat) = some ((it g (c + 1) : Nat) : Int) := by
  have ba := hi.it30 ha h4
  have da := (r.2 a ha h4).2.2.2.2
  intro k
  induction k with
  | zero =>
    intro j n hj _ hn
    obtain ⟨n, rfl⟩ := nat_ex hn
    rw [show j = c + 1 by omega]
    simp only [f_X2_behind_L21, r.1]
    rcases stop_C hi r (d := dp g a) (g 8 - (c + 1 : Nat)).toNat (c + 1) (by omega) dc with y | ⟨y1, y2, y3⟩
    · rw [y, if_pos (by omega)]
    · rw [if_neg (by omega), ck_pos ⟨by omega, by omega⟩, ck_pos ⟨by omega, by omega⟩, Int.toNat_natCast, Int.toNat_natCast, da, if_neg (by omega)]
  | succ k ih =>
    intro j n hj hj2 hn
    by_cases r4 : rk g j = 4
    · rw [← it_s4 r4]
      exact ih (j + 1) n (by omega) (by omega) (by omega)
    · obtain ⟨n, rfl⟩ := nat_ex hn
      have b := hi.it30 (i := j) (by omega) r4
      have dj := (r.2 j (by omega) r4).2.2.2.2
      have dd := din j hj2 (by omega)
      simp only [f_X2_behind_L21, r.1]
      rw [if_neg (by omega), ck_pos ⟨by omega, by omega⟩, ck_pos ⟨by omega, by omega⟩, Int.toNat_natCast, Int.toNat_natCast, da, dj, if_pos dd, ck_pos ⟨by omega, by omega⟩, show ((it g j : Nat) : Int) + 1 = (it g (j + 1) : Nat) by rw [it_s1 r4]; omega]
      exact ih (j + 1) n (by omega) (by omega) (by omega)
theorem beh_C {C : Mem} {s : Nat} {g : Row} (hi : WFi g) (r : RSi C s g) {a c : Nat} (ha : (a : Int) < g 8) (h4 : rk g a ≠ 4) (hac : a ≤ c) (hc : (c : Int) < g 8) (dc : dp g (c + 1) ≤ dp g a) (din : ∀ t : Nat, a < t → t ≤ c → dp g a < dp g t) : f_X2_behind s (it g a : Nat) C = some ((it g (c + 1) : Nat) : Int) := by
  have ba := hi.it30 ha h4
  have h8 := hi.1
  unfold f_X2_behind
  rw [if_neg (by omega), r.1, if_pos (by omega), ck_pos ⟨by omega, by omega⟩, show ((it g a : Nat) : Int) + 1 = (it g (a + 1) : Nat) by rw [it_s1 h4]; omega]
  exact L_behC hi r ha h4 hc dc din (c - a) (a + 1) jFuel (by omega) (by omega) (jF (by omega))
theorem L_hasP {C : Mem} {s : Nat} {g : Row} (hi : WFi g) (r : RSi C s g) {c : Nat} (hc : (c : Int) ≤ g 8) : ∀ (k j n : Nat), j + k = c → k < n →
    ((∀ t : Nat, j ≤ t → t < c → ¬ (rk g t = 0 ∨ rk g t = 1)) → f_X5_hasPieces_L2 s (it g c : Nat) C n (it g j : Nat) = some 0) ∧ ((∃ t : Nat, j ≤ t ∧ t < c ∧ (rk g t = 0 ∨ rk g t = 1)) → f_X5_hasPieces_L2 s (it g c : Nat) C n (it g j : Nat) = some 1) := by
  have h8 := hi.1
  intro k
  induction k with
  | zero =>
    intro j n hj hn
    obtain ⟨n, rfl⟩ := nat_ex hn
    refine ⟨fun _ => ?_, fun ⟨t, t1, t2, _⟩ => by omega⟩
    simp only [f_X5_hasPieces_L2]
    rw [show j = c by omega, if_pos (by omega)]
  | succ k ih =>
    intro j n hj hn
    by_cases r4 : rk g j = 4
    · obtain ⟨i1, i2⟩ := ih (j + 1) n (by omega) (by omega)
      rw [it_s4 r4] at i1 i2
      refine ⟨fun h => i1 (fun t t1 t2 => h t (by omega) t2), fun ⟨t, t1, t2, t3⟩ => i2 ⟨t, ?_, t2, t3⟩⟩
      apply Decidable.byContradiction
      intro y
      rw [show t = j by omega] at t3
      omega
    · obtain ⟨n, rfl⟩ := nat_ex hn
      obtain ⟨i1, i2⟩ := ih (j + 1) n (by omega) (by omega)
      have b := hi.it30 (i := j) (by omega) r4
      have lt := it_lt (g := g) (m := c) (show j < c by omega) r4
      have e : ∀ v, f_X5_hasPieces_L2 s (it g c : Nat) C (n + 1) (it g j : Nat) = some v ↔ (if (if rk g j = 2 ∨ rk g j = 3 then (1 : Int) else 0) = 0 then some 1 else f_X5_hasPieces_L2 s (it g c : Nat) C n (it g (j + 1) : Nat)) = some v := by
        intro v
        have e' : f_X5_hasPieces_L2 s (it g c : Nat) C (n + 1) (it g j : Nat) = (if (if rk g j = 2 ∨ rk g j = 3 then (1 : Int) else 0) = 0 then some 1 else f_X5_hasPieces_L2 s (it g c : Nat) C n (it g (j + 1) : Nat)) := by
          rw [f_X5_hasPieces_L2, if_neg (by omega), blk_ev hi r (by omega) r4, Option.bind_some, ck_pos ⟨by omega, by omega⟩, show ((it g j : Nat) : Int) + 1 = (it g (j + 1) : Nat) by rw [it_s1 r4]; omega]
        rw [e']
      have kd := hi.kind (i := j) (by omega)
      rw [e, e]
      by_cases y : rk g j = 0 ∨ rk g j = 1
      · rw [if_neg (show ¬ (rk g j = 2 ∨ rk g j = 3) by omega), if_pos rfl]
        exact ⟨fun h => absurd y (h j (by omega) (by omega)), fun _ => rfl⟩
      · rw [if_pos (show rk g j = 2 ∨ rk g j = 3 by omega), if_neg (by decide)]
        refine ⟨fun h => i1 (fun t t1 t2 => h t (by omega) t2), fun ⟨t, t1, t2, t3⟩ => i2 ⟨t, ?_, t2, t3⟩⟩
        apply Decidable.byContradiction
        intro u
        rw [show t = j by omega] at t3
        exact y t3
theorem L_skipC {C : Mem} {g : Row} (hi : WFi g) (r : RSi C 5 g) (rc : Nat → Int → Int → Int → Int → Mem → Option Mem) {a c : Nat} {d : Nat} {x e : Int} (hc : (c : Int) < g 8) (he : ((it g (c + 1) : Nat) : Int) ≤ e) (din : ∀ t : Nat, a < t → t ≤ c → (d : Int) < dp g t) (n : Nat) : ∀ (k j : Nat), j + k = c + 1 → a < j → f_X5_addItems_L3 rc 5 e (d : Int) x (n + (it g (c + 1) - it g j)) (it g j : Nat) C = f_X5_addItems_L3 rc 5 e (d : Int) x n (it g (c + 1) : Nat) C := by
  intro k
  induction k with
  | zero => intro j hj _; rw [show j = c + 1 by omega, Nat.sub_self, Nat.add_zero]
  | succ k ih =>
    intro j hj hj2
    have i1 := ih (j + 1) (by omega) (by omega)
    by_cases r4 : rk g j = 4
    · rw [it_s4 r4] at i1; exact i1
    · have b := hi.it30 (i := j) (by omega) r4
      have lt := it_lt (g := g) (m := c + 1) (show j < c + 1 by omega) r4
      have dj := (r.2 j (by omega) r4).2.2.2.2
      have dd := din j hj2 (by omega)
      rw [it_s1 r4] at i1
      rw [show n + (it g (c + 1) - it g j) = n + (it g (c + 1) - (it g j + 1)) + 1 by omega, f_X5_addItems_L3, if_neg (by omega), if_neg (by omega), ck_pos ⟨by omega, by omega⟩, Int.toNat_natCast, dj, if_neg (by omega), ck_pos ⟨by omega, by omega⟩, show ((it g j : Nat) : Int) + 1 = ((it g j + 1 : Nat) : Int) by omega]
      exact i1
