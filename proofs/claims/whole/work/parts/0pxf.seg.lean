/-! a segment of rows gone through on both sides -/
theorem Inv.ex {g : Row} {C M : Mem} {P d : Nat} {S : List (Int × Int)} (v : Inv g C M P d S) : M 1 = g ∧ M 0 17 = (P : Int) ∧ P ≤ 60 ∧ 0 ≤ M 0 22 ∧ C 56 0 = (P : Int) := by
  obtain ⟨⟨T, ⟨⟨t1, t2, t3, t4, t5⟩, _⟩, _⟩, _⟩ := v
  exact ⟨t4, t2, t3, t5, t1⟩
theorem L_rep {g : Row} (w : WF g) {d a c K : Nat} (run : RunC g (d + 1) (a + 1) c K) (ha : (a : Int) < g 8) (k2 : rk g a = 2) (hac : a < c) (hc : (c : Int) < g 8) (c4 : rk g c = 4) (hd : d < 4) {t : Nat} (ht : g (127 + 4 * a) = (t : Int)) (t9 : t ≤ 9) : ∀ (r : Nat) (C M : Mem) (P : Nat) (S : List (Int × Int)), 1 ≤ r → r ≤ t → RSi C 5 g → Inv g C M P (d + 1) S → Ovl C S → M 17 d = (r : Int) → M 16 d = (a : Int) → M 18 d = 0 → P + r * K ≤ 60 → M 0 22 + ((r * ((c - (a + 1)) * wt (d + 1) + 1) : Nat) : Int) ≤ 1000000 →
    ∃ (C' M' : Mem) (s : Nat), s ≤ r * ((c - (a + 1)) * wt (d + 1) + 1) ∧ (∀ n : Nat, r < n → f_X5_addItem_L107 (g_X5_addItems (5 - d)) 5 (it g a : Nat) (d : Int) (S.length : Nat) (it g c : Nat) n ((t - r : Nat) : Int) C = some C') ∧
      (∀ n : Nat, f_X11_laysPieces_L17 (n + s) ((a + 1 : Nat) : Int) M = f_X11_laysPieces_L17 n ((c + 1 : Nat) : Int) M') ∧ Inv g C' M' (P + r * K) d S ∧ Ovl C' S ∧ (∀ c : Nat, c < 56 ∨ 63 < c → C' c = C c) ∧ (K = 0 → ∀ c : Nat, c ≠ 63 → C' c = C c) ∧ stkK d M M' ∧ M' 0 22 ≤ M 0 22 + (s : Int) := by
  have hi := w.2.2
  have a60 := hi.t60 ha
  have c60 := hi.t60 hc
  have ba := hi.it30 ha (by omega)
  obtain ⟨W, hW⟩ : ∃ W, W = (c - (a + 1)) * wt (d + 1) := ⟨_, rfl⟩
  rw [← hW]
  intro r
  induction r with
  | zero => intro C M P S h; omega
  | succ r ih =>
    intro C M P S _ hr ri v o h17 h16 h18 hP h22
    have rK : (r + 1) * K = r * K + K := Nat.succ_mul r K
    have rW : (r + 1) * (W + 1) = r * (W + 1) + (W + 1) := Nat.succ_mul r (W + 1)
    rw [rK] at hP ⊢
    rw [rW] at h22 ⊢
    obtain ⟨C1, M1, s1, e1, e2, e3, e4, e5, e6, e7, e8, e9⟩ := run C M P S ri v o (by omega) (by rw [← hW]; omega)
    rw [← hW] at e1
    have v1 := e4.ex
    have ri1 : RSi C1 5 g := ri.eqv (fun j _ _ => e6 _ (by omega))
    have k1 := e8.1 d (by omega)
    obtain ⟨M2, f1, f2, f3, f4, f5, f6⟩ := closes_R (M := M1) (d := d) (a := a) (c := c) (r := r + 1) e4.2.1.1 (by omega) (by rw [k1.2.1]; exact h17) (by omega) (by rw [k1.1]; exact h16) a60 c60
    have goM : ∀ n : Nat, f_X11_laysPieces_L17 (n + 1) (c : Int) M1 = f_X11_laysPieces_L17 n (if r + 1 = 1 then ((c + 1 : Nat) : Int) else ((a + 1 : Nat) : Int)) M2 := by
      intro n
      rw [go_R (by rw [v1.1]; exact hc) (by rw [v1.2.1]; omega)]
      unfold f_X11_goesThrough
      rw [r0 (by omega), v1.1, Option.bind_some, c4, if_neg (by decide), if_neg (by decide), if_pos rfl, f1]
      rfl
    have st12 : stkK d M M2 := (e8.low (by omega)).trans ⟨fun j hj => ⟨by rw [f6 16 (by decide) (by decide)], f5 j (by omega), by rw [f6 18 (by decide) (by decide)]⟩, fun c c1 c2 => f6 c c1 (by omega), fun j _ j2 _ => f4 j j2⟩
    have m22 : M2 0 22 = M1 0 22 := f4 22 (by decide)
    have rcc := rc_C (x := (S.length : Nat)) hd hi (by omega) e2
    have cC : C (5 + 19) (it g a) = (t : Int) := by rw [(ri.2 a ha (by omega)).2.1]; exact ht
    have stepC : ∀ n : Nat, f_X5_addItem_L107 (g_X5_addItems (5 - d)) 5 (it g a : Nat) (d : Int) (S.length : Nat) (it g c : Nat) (n + 1) ((t - (r + 1) : Nat) : Int) C = f_X5_addItem_L107 (g_X5_addItems (5 - d)) 5 (it g a : Nat) (d : Int) (S.length : Nat) (it g c : Nat) n ((t - r : Nat) : Int) C1 := by
      intro n
      rw [f_X5_addItem_L107, ck_pos ⟨by omega, by omega⟩, Int.toNat_natCast, cC, if_neg (by omega), ck_pos ⟨by omega, by omega⟩, ck_pos ⟨by omega, by omega⟩, show ((it g a : Nat) : Int) + 1 = (it g (a + 1) : Nat) by rw [it_s1 (by omega)]; omega, show (d : Int) + 1 = ((d + 1 : Nat) : Int) by omega, rcc, Option.bind_some, ck_pos ⟨by omega, by omega⟩, show ((t - (r + 1) : Nat) : Int) + 1 = ((t - r : Nat) : Int) by omega]
    by_cases z : r = 0
    · subst z
      have i2 : Inv g C1 M2 (P + K) d S := e4.chg (fun _ _ _ => rfl) rfl rfl (fun c hc => f6 c (by omega) (by omega)) (f4 17 (by decide)) (by omega) (by rw [f2, if_pos rfl]) (by
        rw [stkL_c (M := M1) d (fun j _ => ⟨by rw [f6 16 (by decide) (by decide)], by rw [f6 18 (by decide) (by decide)]⟩), e4.2.1.2.1, stkL_s, k1.2.2, if_pos h18]) (by omega) (fun j hj => by rw [f6 16 (by decide) (by decide)]; exact e4.2.2.1 j (by omega)) (fun p hp => by rw [m22]; exact e4.2.2.2 p hp) (fun _ L _ h => h)
      refine ⟨C1, M2, s1 + 1, by omega, fun n hn => ?_, fun n => ?_, by rw [Nat.zero_mul, Nat.zero_add]; exact i2, e5, e6, e7, st12, by omega⟩
      · obtain ⟨n, rfl⟩ := nat_ex hn
        obtain ⟨n, rfl⟩ := nat_ex (show 0 < n by omega)
        rw [stepC, f_X5_addItem_L107, ck_pos ⟨by omega, by omega⟩, Int.toNat_natCast, e6 (5 + 19) (by omega), cC, if_pos (by omega)]
      · rw [show n + (s1 + 1) = n + 1 + s1 by omega, e3, goM, if_pos rfl]
    · have i2 : Inv g C1 M2 (P + K) (d + 1) S := e4.chg (fun _ _ _ => rfl) rfl rfl (fun c hc => f6 c (by omega) (by omega)) (f4 17 (by decide)) (by omega) (by rw [f2, if_neg (by omega)]) (by
        rw [stkL_c (M := M1) (d + 1) (fun j _ => ⟨by rw [f6 16 (by decide) (by decide)], by rw [f6 18 (by decide) (by decide)]⟩)]; exact e4.2.1.2.1) (by omega) (fun j hj => by rw [f6 16 (by decide) (by decide)]; exact e4.2.2.1 j (by omega)) (fun p hp => by rw [m22]; exact e4.2.2.2 p hp) (fun _ L _ h => h)
      obtain ⟨C3, M3, s3, g1, g2, g3, g4, g5, g6, g7, g8, g9⟩ := ih C1 M2 (P + K) S (by omega) (by omega) ri1 i2 e5 (by rw [f3]; omega) (by rw [f6 16 (by decide) (by decide), k1.1]; exact h16) (by rw [f6 18 (by decide) (by decide), k1.2.2]; exact h18) (by omega) (by omega)
      refine ⟨C3, M3, s1 + 1 + s3, by omega, fun n hn => ?_, fun n => ?_, by rw [show P + (r * K + K) = P + K + r * K by omega]; exact g4, g5, fun c hc => (g6 c hc).trans (e6 c hc), fun hK c hc => (g7 hK c hc).trans (e7 hK c hc), st12.trans g8, by omega⟩
      · obtain ⟨n, rfl⟩ := nat_ex hn
        rw [stepC]
        exact g2 n (by omega)
      · rw [show n + (s1 + 1 + s3) = n + s3 + 1 + s1 by omega, e3, goM, if_neg (by omega)]
        exact g3 n
theorem wt_blk {d x t W : Nat} (hd : d < 4) (ht : t ≤ 9) (hW : W = x * wt (d + 1)) : 1 + t * (W + 1) ≤ (x + 2) * wt d := by
  rw [wt_s hd, hW]
  have p := wt_p (d + 1)
  have h1 : t * (x * wt (d + 1) + 1) ≤ 9 * (x * wt (d + 1) + 1) := Nat.mul_le_mul_right _ ht
  have h2 : (x + 2) * (9 * wt (d + 1)) = 9 * (x * wt (d + 1)) + 18 * wt (d + 1) := by
    rw [Nat.add_mul, Nat.mul_left_comm]; omega
  omega
theorem blk_run {g : Row} (w : WF g) {d a c K : Nat} (run : RunC g (d + 1) (a + 1) c K) (k0 : K = 0 → ∀ t : Nat, a + 1 ≤ t → t < c → ¬ (rk g t = 0 ∨ rk g t = 1)) (k1 : 0 < K → hasPc g (a + 1) c) (ha : (a : Int) < g 8) (da : dp g a = (d : Int)) (hk : rk g a = 2 ∨ rk g a = 3) (hac : a < c) (hc : (c : Int) < g 8) (c4 : rk g c = 4) (dc : dp g (c + 1) = (d : Int)) (din : ∀ t : Nat, a < t → t ≤ c → (d : Int) < dp g t) (hd : d < 4)
    {C M : Mem} {P : Nat} {S : List (Int × Int)} (ri : RSi C 5 g) (v : Inv g C M P d S) (o : Ovl C S) (hP : P + (if rk g a = 2 then (g (127 + 4 * a)).toNat else 1) * K ≤ 60) (h22 : M 0 22 + (((c + 1 - a) * wt d : Nat) : Int) ≤ 1000000) :
    ∃ (C' M' : Mem) (s : Nat), s ≤ (c + 1 - a) * wt d ∧ f_X5_addItem (g_X5_addItems (5 - d)) 5 (it g a : Nat) (d : Int) (S.length : Nat) C = some C' ∧ (∀ n : Nat, f_X11_laysPieces_L17 (n + s) (a : Int) M = f_X11_laysPieces_L17 n ((c + 1 : Nat) : Int) M') ∧ Inv g C' M' (P + (if rk g a = 2 then (g (127 + 4 * a)).toNat else 1) * K) d S ∧ Ovl C' S ∧ (∀ c : Nat, c < 56 ∨ 63 < c → C' c = C c) ∧ ((if rk g a = 2 then (g (127 + 4 * a)).toNat else 1) * K = 0 → ∀ c : Nat, c ≠ 63 → C' c = C c) ∧ stkK d M M' ∧ M' 0 22 ≤ M 0 22 + (s : Int) := by
  have hi := w.2.2
  have a60 := hi.t60 ha
  have c60 := hi.t60 hc
  have ba := hi.it30 ha (by omega)
  have q := (hi.2.2.2.2 a ha).2
  obtain ⟨ve, v17, vP, v22, v56⟩ := v.ex
  have sl : S.length ≤ d := by rw [v.2.1.2.1]; exact stkL_le M g d
  obtain ⟨W, hW⟩ : ∃ W, W = (c - (a + 1)) * wt (d + 1) := ⟨_, rfl⟩
  have wb := fun t (ht : t ≤ 9) => wt_blk (x := c - (a + 1)) (t := t) hd ht hW
  rw [show c - (a + 1) + 2 = c + 1 - a by omega] at wb
  have itc : it g (c + 1) = it g c := it_s4 c4
  have bh := beh_C hi ri ha (by omega) (by omega) hc (by omega) (by rw [da]; exact din)
  rw [itc] at bh
  have bl := blk_ev hi ri ha (by omega)
  rw [if_pos hk] at bl
  have hp := L_hasP hi ri (c := c) (by omega) (c - (a + 1)) (a + 1) jFuel (by omega) (jF (by omega))
  have i1 : ((it g a : Nat) : Int) + 1 = (it g (a + 1) : Nat) := by rw [it_s1 (by omega)]; omega
  have hp0 : K = 0 → f_X5_hasPieces 5 (it g (a + 1) : Nat) (it g c : Nat) C = some 0 := fun z => hp.1 (k0 z)
  have hp1 : 0 < K → f_X5_hasPieces 5 (it g (a + 1) : Nat) (it g c : Nat) C = some 1 := fun z => hp.2 (k1 z)
  have c18 := (ri.2 a ha (by omega)).1
  have c19 := (ri.2 a ha (by omega)).2.1
  have goC : f_X5_addItem (g_X5_addItems (5 - d)) 5 (it g a : Nat) (d : Int) (S.length : Nat) C = if K = 0 then some C else if rk g a = 3 then (lt (upm C 63 (S.length + 1) (g (127 + 4 * a))) fun N14 => (g_X5_addItems (5 - d) 5 (it g (a + 1) : Nat) (it g c : Nat) ((d + 1 : Nat) : Int) ((S.length + 1 : Nat) : Int) N14).bind fun M87 => lt (upm M87 56 9 (min (M87 56 9) (S.length : Nat))) fun N18 => some N18) else f_X5_addItem_L107 (g_X5_addItems (5 - d)) 5 (it g a : Nat) (d : Int) (S.length : Nat) (it g c : Nat) jFuel 0 C := by
    unfold f_X5_addItem
    rw [bl, Option.bind_some, if_neg (by decide), bh, Option.bind_some, if_neg (by omega), if_neg (by omega), ck_pos ⟨by omega, by omega⟩, i1]
    by_cases z : K = 0
    · rw [hp0 z, Option.bind_some, if_pos rfl, if_pos z]
    · rw [hp1 (by omega), Option.bind_some, if_neg (by decide), if_neg z, ck_pos ⟨by omega, by omega⟩, Int.toNat_natCast, c18]
      by_cases y : rk g a = 3
      · rw [if_pos y, if_pos y, ck_pos ⟨by omega, by omega⟩, ck_pos ⟨by omega, by omega⟩, c19, show ((S.length : Int) + 1).toNat = S.length + 1 by omega, lt_eq, lt_eq, ck_pos ⟨by omega, by omega⟩, show (d : Int) + 1 = ((d + 1 : Nat) : Int) by omega, show (S.length : Int) + 1 = ((S.length + 1 : Nat) : Int) by omega]
      · rw [if_neg y, if_neg y]
  have go : ∀ (n : Nat), f_X11_laysPieces_L17 (n + 1) (a : Int) M = (if rk g a = 2 then (f_X11_opens (a : Int) (g (127 + 4 * a)) 0 M).bind fun M41 => f_X11_laysPieces_L17 n ((a + 1 : Nat) : Int) M41 else (f_X11_opens (a : Int) 1 1 M).bind fun M41 => f_X11_laysPieces_L17 n ((a + 1 : Nat) : Int) M41) := by
    intro n
    rw [go_R (by rw [ve]; exact ha) (by omega)]
    unfold f_X11_goesThrough
    rw [r0 (by omega), ve, Option.bind_some]
    by_cases y : rk g a = 2
    · rw [if_pos y, if_pos y, r1 (by omega), ve, Option.bind_some]
      cases hq : f_X11_opens (a : Int) (g (127 + 4 * a)) 0 M with
      | none => rfl
      | some M1 =>
        rw [Option.bind_some, Option.bind_some, ck_pos ⟨by omega, by omega⟩, Option.bind_some, show (a : Int) + 1 = ((a + 1 : Nat) : Int) by omega]
    · rw [if_neg y, if_neg y, if_pos (by omega)]
      cases hq : f_X11_opens (a : Int) 1 1 M with
      | none => rfl
      | some M1 =>
        rw [Option.bind_some, Option.bind_some, ck_pos ⟨by omega, by omega⟩, Option.bind_some, show (a : Int) + 1 = ((a + 1 : Nat) : Int) by omega]
  rcases hk with k2 | k3
  · -- a repetition
    obtain ⟨t, ht⟩ : ∃ t : Nat, g (127 + 4 * a) = (t : Int) := ⟨(g (127 + 4 * a)).toNat, by omega⟩
    have et : (if rk g a = 2 then (g (127 + 4 * a)).toNat else 1) = t := by rw [if_pos k2, ht, Int.toNat_natCast]
    rw [et] at hP ⊢
    have wb' := wb t (by omega)
    obtain ⟨M1, o1, o2, o3, o4, o5, o6, o7, o8, o9⟩ := opens_R (M := M) (d := d) (a := a) (t := (t : Int)) (m := 0) v.2.1.1 (by omega) (Or.inl rfl) ⟨by omega, by omega⟩
    rw [if_pos rfl] at o7
    have i2 : Inv g C M1 P (d + 1) S := v.chg (fun _ _ _ => rfl) rfl rfl (fun c hc => o9 c (by omega) (by omega)) (o4 17 (by decide) (by decide)) (by omega) (by rw [o2]; omega) (by
      rw [stkL_s, if_pos o7, stkL_c (M := M) d (fun j hj => ⟨(o8 j (by omega)).1, (o8 j (by omega)).2.2⟩)]; exact v.2.1.2.1) (by omega) (fun j hj => by
        by_cases z : j = d
        · rw [z]; exact ⟨a, o5, a60⟩
        · rw [(o8 j z).1]; exact v.2.2.1 j (by omega)) (fun p hp => by rw [o3, Int.add_zero]; exact v.2.2.2 p hp) (fun _ L _ h => h)
    obtain ⟨C3, M3, s3, g1, g2, g3, g4, g5, g6, g7, g8, g9⟩ := L_rep w run ha k2 hac hc c4 hd ht (by omega) t C M1 P S (by omega) (Nat.le_refl _) ri i2 o o6 o5 o7 hP (by rw [← hW]; omega)
    rw [← hW] at g1
    have st : stkK d M M3 := (show stkK d M M1 from ⟨fun j hj => o8 j (by omega), fun c c1 c2 => o9 c c1 (by omega), fun j _ j2 j3 => o4 j j2 j3⟩).trans g8
    have goR : ∀ n : Nat, f_X11_laysPieces_L17 (n + (s3 + 1)) (a : Int) M = f_X11_laysPieces_L17 n ((c + 1 : Nat) : Int) M3 := fun n => by
      rw [show n + (s3 + 1) = n + s3 + 1 by omega, go, if_pos k2, ht, o1, Option.bind_some]; exact g3 n
    by_cases z : K = 0
    · rw [if_pos z] at goC
      refine ⟨C, M3, s3 + 1, by omega, goC, goR, ?_, o, fun _ _ => rfl, fun _ _ _ => rfl, st, by omega⟩
      have g7 := g7 z
      exact g4.chg (fun c c1 c2 => (g7 c (by omega)).symm) (by rw [g7 56 (by decide)]) (by rw [g7 56 (by decide)]) (fun _ _ => rfl) rfl (Int.le_refl _) g4.2.1.1 g4.2.1.2.1 g4.2.1.2.2 g4.2.2.1 g4.2.2.2 (fun _ L _ h => by rw [← h, g7 56 (by decide)])
    · rw [if_neg z, if_neg (by omega)] at goC
      have := g2 jFuel (jF (by omega))
      rw [Nat.sub_self] at this
      refine ⟨C3, M3, s3 + 1, by omega, goC.trans this, goR, g4, g5, g6, fun zz => absurd zz ?_, st, by omega⟩
      exact Nat.mul_ne_zero (by omega) z
  · -- a mix
    have n2 : ¬ rk g a = 2 := by omega
    rw [if_neg n2, Nat.one_mul] at hP ⊢
    have wb' := wb 1 (by omega)
    obtain ⟨ov, hov⟩ : ∃ ov, ov = g (127 + 4 * a) := ⟨_, rfl⟩
    rw [← hov] at goC
    obtain ⟨M1, o1, o2, o3, o4, o5, o6, o7, o8, o9⟩ := opens_R (M := M) (d := d) (a := a) (t := 1) (m := 1) v.2.1.1 (by omega) (Or.inr rfl) ⟨by omega, by omega⟩
    rw [if_neg (by decide)] at o7
    obtain ⟨y, hy⟩ : ∃ y : Int × Int, y = (M 0 22 + 1, ov) := ⟨_, rfl⟩
    obtain ⟨S2, hS2⟩ : ∃ S2, S2 = S ++ [y] := ⟨_, rfl⟩
    have l2 : S2.length = S.length + 1 := by rw [hS2, List.length_append, List.length_singleton]
    have eS : S2 = stkL M1 g (d + 1) := by
      rw [stkL_s, if_neg (by omega), stkL_c (M := M) d (fun j hj => ⟨(o8 j (by omega)).1, (o8 j (by omega)).2.2⟩), o5, o7, Int.toNat_natCast, ← hov, ← hy, ← v.2.1.2.1]; exact hS2
    have ids : ∀ p ∈ S2, p.1 ≤ M 0 22 + 1 ∧ 0 ≤ p.2 ∧ p.2 ≤ 40 := by
      intro p hp
      rw [hS2, List.mem_append, List.mem_singleton] at hp
      rcases hp with u | u
      · have := v.2.2.2 p u; omega
      · rw [u, hy]; exact ⟨Int.le_refl _, by omega, by omega⟩
    obtain ⟨C1, hC1⟩ : ∃ C1 : Mem, C1 = upm C 63 (S.length + 1) ov := ⟨_, rfl⟩
    have nC1 : ∀ c : Nat, c ≠ 63 → C1 c = C c := fun c hc => by rw [hC1]; exact upm_ne hc
    have ri1 : RSi C1 5 g := ri.eqv (fun j _ _ => nC1 _ (by omega))
    have i2 : Inv g C1 M1 P (d + 1) S2 := v.chg (fun c _ _ => nC1 c (by omega)) (by rw [nC1 56 (by decide)]) (by rw [nC1 56 (by decide)]) (fun c hc => o9 c (by omega) (by omega)) (o4 17 (by decide) (by decide)) (by omega) (by rw [o2]; omega) eS (by omega) (fun j hj => by
        by_cases z : j = d
        · rw [z]; exact ⟨a, o5, a60⟩
        · rw [(o8 j z).1]; exact v.2.2.1 j (by omega)) (fun p hp => by rw [o3]; exact ids p hp) (fun _ L hL h => by
        rw [nC1 56 (by decide), h, hS2, cpl_app y S L (fun p hp => by have := hL p hp; rw [hy]; show p.1 ≠ M 0 22 + 1; omega)])
    have o2' : Ovl C1 S2 := by
      intro i hi2
      rw [l2] at hi2
      by_cases z : i = S.length
      · rw [z, hS2, getD_last, hC1, upm_hit, hy]
      · rw [hS2, getD_app (by omega), hC1, upm_sl (by omega)]; exact o i (by omega)
    obtain ⟨C2, M2, s2, e1, e2, e3, e4, e5, e6, e7, e8, e9⟩ := run C1 M1 P S2 ri1 i2 o2' hP (by rw [← hW]; omega)
    rw [← hW] at e1
    have v1 := e4.ex
    have k1' := e8.1 d (by omega)
    obtain ⟨M3, f1, f2, f3, f4, f5, f6⟩ := closes_R (M := M2) (d := d) (a := a) (c := c) (r := 1) e4.2.1.1 (by omega) (by rw [k1'.2.1]; exact o6) (by omega) (by rw [k1'.1]; exact o5) a60 c60
    rw [if_pos rfl] at f1 f2
    have goR : ∀ n : Nat, f_X11_laysPieces_L17 (n + (1 + s2 + 1)) (a : Int) M = f_X11_laysPieces_L17 n ((c + 1 : Nat) : Int) M3 := by
      intro n
      rw [show n + (1 + s2 + 1) = n + 1 + s2 + 1 by omega, go, if_neg n2, o1, Option.bind_some, e3, go_R (by rw [v1.1]; exact hc) (by rw [v1.2.1]; omega)]
      unfold f_X11_goesThrough
      rw [r0 (by omega), v1.1, Option.bind_some, c4, if_neg (by decide), if_neg (by decide), if_pos rfl, f1]
      rfl
    have st : stkK d M M3 := ((show stkK d M M1 from ⟨fun j hj => o8 j (by omega), fun c c1 c2 => o9 c c1 (by omega), fun j _ j2 j3 => o4 j j2 j3⟩).trans (e8.low (by omega))).trans ⟨fun j hj => ⟨by rw [f6 16 (by decide) (by decide)], f5 j (by omega), by rw [f6 18 (by decide) (by decide)]⟩, fun c c1 c2 => f6 c c1 (by omega), fun j _ j2 _ => f4 j j2⟩
    have m22 : M3 0 22 = M2 0 22 := f4 22 (by decide)
    have eS3 : S = stkL M3 g d := by
      rw [stkL_c (M := M2) d (fun j _ => ⟨by rw [f6 16 (by decide) (by decide)], by rw [f6 18 (by decide) (by decide)]⟩), stkL_c (M := M1) d (fun j hj => ⟨(e8.1 j (by omega)).1, (e8.1 j (by omega)).2.2⟩), stkL_c (M := M) d (fun j hj => ⟨(o8 j (by omega)).1, (o8 j (by omega)).2.2⟩)]; exact v.2.1.2.1
    have i3 : ∀ C3 : Mem, (∀ c : Nat, c ≠ 63 → c ≠ 56 → C3 c = C2 c) → (∀ j : Nat, j ≠ 9 → C3 56 j = C2 56 j) → (0 < P + K → C3 56 9 = min (C2 56 9) (S.length : Nat)) → Inv g C3 M3 (P + K) d S := by
      intro C3 n1 n2 n3
      refine e4.chg (fun c c1 c2 => n1 c (by omega) (by omega)) (n2 0 (by decide)) (n2 1 (by decide)) (fun c hc => f6 c (by omega) (by omega)) (f4 17 (by decide)) (by omega) f2 eS3 (by omega) (fun j hj => by rw [f6 16 (by decide) (by decide)]; exact e4.2.2.1 j (by omega)) (fun p hp => ?_) (fun z L _ h => ?_)
      · have := v.2.2.2 p hp
        have := v22
        have e9' : M1 0 22 ≤ M2 0 22 := by
          have := (e4.2.2.2 y (by rw [hS2]; simp)).1
          rw [hy] at this
          rw [o3]; exact this
        rw [m22]; omega
      · rw [n3 z, h, hS2, cpl_pop y S L]; omega
    by_cases z : K = 0
    · rw [if_pos z] at goC
      have e7 := e7 z
      refine ⟨C, M3, 1 + s2 + 1, by omega, goC, goR, i3 C (fun c c1 _ => by rw [e7 c c1, nC1 c c1]) (fun j _ => by rw [e7 56 (by decide), nC1 56 (by decide)]) (fun zz => ?_), o, fun _ _ => rfl, fun _ _ _ => rfl, st, by omega⟩
      obtain ⟨⟨T, _, tc⟩, _⟩ := v
      have := cpl_le S (T (P - 1))
      have tc := tc (by omega)
      rw [e7 56 (by decide), nC1 56 (by decide), tc]; omega
    · rw [if_neg z, if_pos k3, lt_eq, ← hC1] at goC
      rw [l2] at e2
      have rcc := rc_C (x := ((S.length + 1 : Nat) : Int)) hd hi (by omega) e2
      rw [rcc, Option.bind_some, lt_eq] at goC
      refine ⟨_, M3, 1 + s2 + 1, by omega, goC, goR, i3 _ (fun c _ c2 => upm_ne c2) (fun j hj => upm_sl hj) (fun _ => upm_hit), fun i hi2 => ?_, fun c hc => ?_, fun zz => absurd zz z, st, by omega⟩
      · rw [upm_ne (by decide)]
        have := e5 i (by omega)
        rw [hS2, getD_app hi2] at this
        exact this
      · rw [upm_ne (by omega), e6 c hc, nC1 c (by omega)]
