theorem row2 (g : Row) : ∀ i : Nat, (i : Int) + dp g i ≤ 2 * (it g i : Nat) := by
  intro i
  induction i with
  | zero => show (0 : Int) + 0 ≤ 2 * 0; omega
  | succ i ih =>
    have ds := dp_s g i
    by_cases c : rk g i = 4
    · rw [if_neg (by omega), if_pos c] at ds
      rw [it_s4 c]; omega
    · rw [if_neg c] at ds
      rw [it_s1 c]
      by_cases b : rk g i = 2 ∨ rk g i = 3
      · rw [if_pos b] at ds; omega
      · rw [if_neg b] at ds; omega
theorem p_insert {k : Nat} {Mc Mr : Mem} (h : Rel k Mc Mr) (hk : k < 512) (p q f : Int) : ∃ Mc' Mr' : Mem, st_insert p q f Mc Mr Mc' Mr' ∧ Rel (k + 1) Mc' Mr' := by
  have hl := h.wf.1
  have hi := h.wf.2.2
  have h8 := hi.1
  have h6 := hl.2.2.2.2.2.2.1
  have tc := top_C hi h.rs.2.2
  have mr := many_R hi
  have im := isMap_R q Mr h6
  have en := nTp_e (Mr 1)
  have n60 : nTp (Mr 1) ≤ 60 := by
    have := (tops_b (Mr 1) (Mr 1 8).toNat 0 0).2
    omega
  rw [en] at tc mr
  have c63 : Mc 6 3 = Mr 1 6 := h.rs.1.2.1
  have c220 : Mc 22 0 = (it (Mr 1) (Mr 1 8).toNat : Nat) := h.rs.2.2.1
  by_cases hp : 0 ≤ p ∧ p < (nTp (Mr 1) : Int) + 1
  · by_cases hq : 0 ≤ q ∧ q < Mr 1 6
    · have hq' : 0 ≤ q ∧ q < Mc 6 3 := by omega
      rw [if_pos hq] at im
      by_cases hf : 1 ≤ f ∧ f ≤ 400
      · obtain ⟨x, rfl⟩ : ∃ x : Nat, p = (x : Int) := ⟨p.toNat, by omega⟩
        obtain ⟨y, rfl⟩ : ∃ y : Nat, q = (y : Int) := ⟨q.toNat, by omega⟩
        obtain ⟨fr, rfl⟩ : ∃ fr : Nat, f = (fr : Int) := ⟨f.toNat, by omega⟩
        have k1 : (upm Mr 0 7 0) 1 = Mr 1 := thr_ne _ _ (by decide)
        have al := all_R (M := upm Mr 0 7 0) (by rw [k1]; exact hi)
        rw [k1] at al
        have goC : f_X10_insert (x : Int) (y : Int) (fr : Int) Mc = if (it (Mr 1) (Mr 1 8).toNat : Int) < 30 then (if Mc 56 0 < 60 then (f_X2_clear 29 Mc).bind fun M88 => f_X10_insert_L94 (x : Int) (y : Int) (fr : Int) (nTp (Mr 1) : Nat) jFuel 0 M88 else (f_X10_refuse 2 Mc).bind fun (r77, M77) => some (r77, M77)) else (f_X10_refuse 4 Mc).bind fun (r59, M59) => some (r59, M59) := by
          unfold f_X10_insert
          rw [tc, Option.bind_some, ck_pos ⟨by omega, by omega⟩, (rI_ok hp).1, Option.bind_some, (rI_ok hq').1, Option.bind_some, (rR_ok hf).1, Option.bind_some, c220]
        have goR : f_X11_insert (x : Int) (y : Int) (fr : Int) Mr = if (it (Mr 1) (Mr 1 8).toNat : Int) = 30 then (f_X11_refuses 4 (upm Mr 0 7 0)).bind fun (r53, M53) => some (r53, M53) else (f_X11_laysPieces (upm Mr 0 7 0)).bind fun M58 => if (M58 0 17) = 60 then (f_X11_refuses 2 M58).bind fun (r72, M72) => some (r72, M72) else (f_X11_begins M58).bind fun M77 => (f_X11_rowOf (x : Int) M77).bind fun r82 => (f_X11_shiftsBack r82 1 M77).bind fun M91 => (f_X11_lays r82 1 (y : Int) (fr : Int) 0 M91).bind fun M101 => (f_X11_endNow M101).bind fun (r105, M105) => some (r105, M105) := by
          unfold f_X11_insert
          rw [mr, Option.bind_some, isIn_eq, if_pos (by omega), Option.bind_some]
          simp only [jn]
          rw [if_neg (by decide), im, Option.bind_some, if_neg (by decide), isIn_eq, if_pos hf, Option.bind_some, gb11, Option.bind_some]
          simp only []
          rw [if_neg (by decide), al, Option.bind_some]
        have i30 := hi.2.2.1
        by_cases c30 : (it (Mr 1) (Mr 1 8).toNat : Int) = 30
        · rw [if_neg (by omega)] at goC
          rw [if_pos c30] at goR
          obtain ⟨Mc', M', b1, b2, b3, b4⟩ := both_ref h hk (c := 4) ⟨by omega, by omega⟩ (keepR.thr (v := 0))
          have b1 : f_X10_refuse 4 Mc = some (-4, Mc') := b1
          have b2 : f_X11_refuses 4 (upm Mr 0 7 0) = some (-4, M') := b2
          exact ⟨Mc', M', Or.inl ⟨-4, by rw [goC, b1]; rfl, by rw [goR, b2]; rfl, b3.trans (thr_at _ _)⟩, b4⟩
        · rw [if_pos (by omega)] at goC
          rw [if_neg c30] at goR
          obtain ⟨M58, l1, l2, l3⟩ := h.lays (M := upm Mr 0 7 0) k1
          rw [l1, Option.bind_some, l3.2.1] at goR
          have kr : keepR Mr M58 := keepR.thr.trans l2.R
          have t7 : M58 0 7 = 0 := (l2.2 7 (by decide) (by decide) (by decide)).trans (thr_at _ _)
          by_cases c60 : Mc 56 0 = 60
          · rw [if_neg (by omega)] at goC
            rw [if_pos c60] at goR
            obtain ⟨Mc', M', b1, b2, b3, b4⟩ := both_ref h hk (c := 2) ⟨by omega, by omega⟩ kr
            have b1 : f_X10_refuse 2 Mc = some (-2, Mc') := b1
            have b2 : f_X11_refuses 2 M58 = some (-2, M') := b2
            exact ⟨Mc', M', Or.inl ⟨-2, by rw [goC, b1]; rfl, by rw [goR, b2]; rfl, b3.trans t7⟩, b4⟩
          · have pb := l3.1
            rw [if_pos (by omega)] at goC
            rw [if_neg c60] at goR
            have pn := pcs_n h.rs h.wf h.pc
            obtain ⟨e, he⟩ : ∃ e : Nat, Mr 1 8 = (e : Int) := ⟨(Mr 1 8).toNat, by omega⟩
            rw [he, Int.toNat_natCast] at c30 i30 pn
            have hx : x ≤ nTp (Mr 1) := by omega
            obtain ⟨a1, a2, a3⟩ := tR_s hi hx
            have le2 := tR_le hi hx (Nat.le_refl _)
            rw [tR_n hi, he, Int.toNat_natCast] at le2
            obtain ⟨t, ht⟩ : ∃ t, t = tR (Mr 1) x := ⟨_, rfl⟩
            rw [← ht] at le2 a1 a2
            have e60 : e < 60 := by
              have r2' := row2 (Mr 1) e
              have d := hi.2.1
              rw [he, Int.toNat_natCast] at d
              omega
            obtain ⟨g', hg⟩ : ∃ g' : Row, g' = fun i => if i = 126 + 4 * t then 1 else if i = 127 + 4 * t then (y : Int) else if i = 128 + 4 * t then (fr : Int) else if i = 129 + 4 * t then 0 else if i = 8 then (e : Int) + 1 else if 126 + 4 * (t + 1) ≤ i ∧ i < 126 + 4 * (e + 1) then Mr 1 (i - 4) else Mr 1 i := ⟨_, rfl⟩
            have gv : ∀ i, g' i = if i = 126 + 4 * t then 1 else if i = 127 + 4 * t then (y : Int) else if i = 128 + 4 * t then (fr : Int) else if i = 129 + 4 * t then 0 else if i = 8 then (e : Int) + 1 else if 126 + 4 * (t + 1) ≤ i ∧ i < 126 + 4 * (e + 1) then Mr 1 (i - 4) else Mr 1 i := fun i => by rw [hg]
            have o : outE (Mr 1) g' := fun i h1 h2 => by rw [gv, if_neg (by omega), if_neg (by omega), if_neg (by omega), if_neg (by omega), if_neg h1, if_neg (by omega)]
            have s1 : same (Mr 1) g' 0 0 t := fun i hi' => by rw [gv, if_neg (by omega), if_neg (by omega), if_neg (by omega), if_neg (by omega), if_neg (by omega), if_neg (by omega)]
            have s2 : same (Mr 1) g' t (t + 1) (e - t) := fun i hi' => by
              rw [gv, if_neg (by omega), if_neg (by omega), if_neg (by omega), if_neg (by omega), if_neg (by omega), if_pos (by omega)]; congr 1; omega
            have e8' : g' 8 = ((e + 1 : Nat) : Int) := by rw [gv, if_neg (by omega), if_neg (by omega), if_neg (by omega), if_neg (by omega), if_pos rfl]; omega
            have r1 : rk g' t = 1 := by unfold rk; rw [gv, if_pos rfl]
            have r2 : g' (127 + 4 * t) = (y : Int) := by rw [gv, if_neg (by omega), if_pos rfl]
            have r3 : g' (128 + 4 * t) = (fr : Int) := by rw [gv, if_neg (by omega), if_neg (by omega), if_pos rfl]
            have h5 := hl.2.2.2.2.2.1
            have S1 := st_cat (a := 0) (b := t) hi h5.2 o (st_0 g') (by omega) rfl (Nat.zero_le _) a1 a2 s1
            rw [Nat.sub_zero, Nat.zero_add] at S1
            obtain ⟨u1, u2, u3, u4, u5⟩ := S1
            have ds := dp_s g' t
            rw [if_neg (by omega), if_neg (by omega)] at ds
            have S2 : St g' (t + 1) (0 + (it (Mr 1) t - it (Mr 1) 0) + 1) (0 + (npc (Mr 1) t - npc (Mr 1) 0) + 1) := by
              refine ⟨by omega, by rw [mulS, if_neg (by omega), if_neg (by omega), if_neg (by omega)]; exact u2, fun i hi' => ?_, by rw [it_s1 (by omega), u4], by rw [show npc g' (t + 1) = npc g' t + (if rk g' t = 0 ∨ rk g' t = 1 then (mulS g' t).headD 0 else 0) from rfl, if_pos (Or.inr r1), u2, u5]; rfl⟩
              by_cases z : i = t
              · rw [z]
                refine ⟨by omega, Or.inr (Or.inl ⟨r1, ?_, ?_⟩)⟩
                · rw [r2, o 6 (by decide) (by omega)]; omega
                · rw [r3]; omega
              · exact u3 i (by omega)
            have S3 := st_cat (a := t) (b := e) hi h5.2 o S2 a1 a2 le2 (by omega) (by have := hi.2.1; rw [he, Int.toNat_natCast] at this; exact this) s2
            have m1 := it_mono (Mr 1) (e - t) t
            rw [show t + (e - t) = e by omega] at m1
            have z1 : it (Mr 1) 0 = 0 := rfl
            have z2 : npc (Mr 1) 0 = 0 := rfl
            rw [show t + 1 + (e - t) = e + 1 by omega] at S3
            have w' := St.wf h.wf o S3 e8' (by omega) (by omega) (by omega)
            have i30' : it g' (e + 1) ≤ 30 := by rw [S3.2.2.2.1]; omega
            obtain ⟨C0, q1, q2, q3⟩ := clrD_C (M := Mc) g'
            have ri0 : RSi C0 5 (Mr 1) := h.rs.2.2.eqv (fun j _ _ => q3 _ (by omega))
            obtain ⟨C1, w1, w2, w3⟩ := L_ins1 (C0 := C0) (g' := g') (e := e + 1) (y := y) (f' := fr) hi ri0 hx (by rw [← ht]; exact s1) (by omega) (by rw [← ht]; exact r1) (by rw [← ht]; exact r2) (by rw [← ht]; exact r3) (by rw [← ht, he, Int.toNat_natCast]; exact s2) (by rw [he, Int.toNat_natCast]) i30' x 0 jFuel C0 (by omega) (jF (by omega)) (by rw [tR_0 hi]; exact q2) (fun _ _ => rfl)
            obtain ⟨M1, t1, t2, t3, t4⟩ := take_done (C1 := C1) (M := M58) h hk (fun c hc => (w3 c (by omega)).trans (q3 c (by omega))) kr
            have e11 : M1 1 = Mr 1 := (t2 1 (by decide) (by decide) (by decide)).trans (kr.1 1 (by omega))
            obtain ⟨M2, f1, f2, f3⟩ := back_R (M := M1) (a := t) (m := 1) (e := e) (by rw [e11]; exact he) (by omega) (by omega) (by omega)
            obtain ⟨M3, v1, v2, v3⟩ := lays_R (M := M2) (t := t) (by omega) 1 (y : Int) (fr : Int) 0
            have eg : M3 1 = g' := by
              funext i
              rw [v3, gv, f3, e11]
              rfl
            obtain ⟨C4, M4, z1, z2, z3, z4⟩ := t4 g' M3 (by rw [e8', Int.toNat_natCast]; exact w2.2.2) w' o eg (fun c c1 _ => (v2 c c1).trans (f2 c c1))
            refine ⟨C4, M4, Or.inl ⟨C4 56 1, ?_, ?_, z3.trans t7⟩, z4⟩
            · rw [goC, q1, Option.bind_some]
              exact w1.trans (by rw [z1]; rfl)
            · have rt := row_top (M := M1) (by rw [e11]; exact hi) (x := x) (by rw [e11]; omega)
              rw [e11, ← ht] at rt
              have f1 : f_X11_shiftsBack (t : Int) 1 M1 = some M2 := f1
              rw [goR, t1, Option.bind_some, rt, Option.bind_some, f1, Option.bind_some, v1, Option.bind_some, z2]
              rfl
      · refine ⟨Mc, upm Mr 0 7 2, Or.inr (Or.inr ⟨?_, 0, ?_, thr_at _ _⟩), h.scr keepC.rfl keepR.thr (by omega)⟩
        · unfold x_X10_insert
          rw [tc, Option.bind_some, ck_pos ⟨by omega, by omega⟩, (rI_ok hp).2, (rI_ok hp).1, Option.bind_some]
          exact x2_2 hq' hf
        · unfold f_X11_insert
          rw [mr, Option.bind_some, isIn_eq, if_pos (by omega), Option.bind_some]
          simp only [jn]
          rw [if_neg (by decide), im, Option.bind_some, if_neg (by decide), isIn_eq, if_neg hf, Option.bind_some, gb10, Option.bind_some]
          simp
    · have hq' : ¬ (0 ≤ q ∧ q < Mc 6 3) := by omega
      rw [if_neg hq] at im
      refine ⟨Mc, upm Mr 0 7 1, Or.inr (Or.inl ⟨?_, 0, ?_, thr_at _ _⟩), h.scr keepC.rfl keepR.thr (by omega)⟩
      · unfold x_X10_insert
        rw [tc, Option.bind_some, ck_pos ⟨by omega, by omega⟩, (rI_ok hp).2, (rI_ok hp).1, Option.bind_some]
        exact x2_1 hq'
      · unfold f_X11_insert
        rw [mr, Option.bind_some, isIn_eq, if_pos (by omega), Option.bind_some]
        simp only [jn]
        rw [if_neg (by decide), im, Option.bind_some, if_pos rfl, isIn_eq, Option.bind_some, gb0, Option.bind_some]
        simp
  · refine ⟨Mc, upm Mr 0 7 1, Or.inr (Or.inl ⟨?_, 0, ?_, thr_at _ _⟩), h.scr keepC.rfl keepR.thr (by omega)⟩
    · unfold x_X10_insert
      rw [tc, Option.bind_some, ck_pos ⟨by omega, by omega⟩]
      exact x2_1 hp
    · unfold f_X11_insert
      rw [mr, Option.bind_some, isIn_eq, if_neg (by omega), Option.bind_some]
      simp only [jn]
      rw [if_pos trivial, isIn_eq, Option.bind_some, gb0, Option.bind_some]
      simp
