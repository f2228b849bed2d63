theorem rLF_b {g : Row} (hl : WFl g) (hi : WFi g) {t : Nat} (ht : (t : Int) < g 8) (hk : rk g t = 0 ∨ rk g t = 1) : 0 ≤ rF g t ∧ rF g t ≤ rL g t ∧ rL g t ≤ 399 := by
  have q := (hi.2.2.2.2 t ht).2
  unfold rF rL
  rcases hk with c | c
  · rw [if_pos c, if_pos c]
    rcases q with w | w | w | w | w
    · have := hl.2.2.2.2.2.2.2.2.1 (g (127 + 4 * t)).toNat (by omega)
      omega
    all_goals omega
  · have n0 : ¬ rk g t = 0 := by omega
    rw [if_neg n0, if_neg n0, if_pos c]
    omega
theorem frC {M : Mem} {g : Row} (hl : WFl g) (hi : WFi g) (r : RSi M 5 g) {t : Nat} (ht : (t : Int) < g 8) (hk : rk g t = 0 ∨ rk g t = 1) : f_X2_framesOf 5 (it g t : Nat) M = some (rL g t - rF g t + 1) := by
  have b := hi.it30 ht (by omega)
  have lb := rLF_b hl hi ht hk
  obtain ⟨c1, c2, c3, c4, c5⟩ := r.2 t ht (by omega)
  unfold f_X2_framesOf
  rw [if_neg (by omega), r.1, if_neg (by omega), ck_pos ⟨by omega, by omega⟩, Int.toNat_natCast, c3, c4, ck_pos ⟨by omega, by omega⟩, ck_pos ⟨by omega, by omega⟩]
theorem frR {M : Mem} (hl : WFl (M 1)) (hi : WFi (M 1)) {t : Nat} (ht : (t : Int) < M 1 8) (hk : rk (M 1) t = 0 ∨ rk (M 1) t = 1) : f_X11_framesOf (t : Int) M = some (rL (M 1) t - rF (M 1) t + 1) := by
  have lb := rLF_b hl hi ht hk
  have t60 := hi.t60 ht
  unfold f_X11_framesOf
  rw [r0 (by omega), Option.bind_some]
  unfold rL rF at lb ⊢
  rcases hk with c | c
  · rw [if_pos c, if_pos c] at lb ⊢
    rw [if_pos c, r3 (by omega), Option.bind_some, r2 (by omega), Option.bind_some, ck_pos ⟨by omega, by omega⟩, ck_pos ⟨by omega, by omega⟩]
  · have n0 : ¬ rk (M 1) t = 0 := by omega
    rw [if_neg n0, if_neg n0, if_pos c] at lb ⊢
    rw [if_neg n0, r2 (by omega), Option.bind_some]
    congr 1; omega
theorem isItem_R {M : Mem} (hi : WFi (M 1)) (p : Int) : f_X11_isItem p M = some (if 0 ≤ p ∧ p < tops (M 1) (M 1 8).toNat 0 0 then 1 else 0) := by
  have h8 := hi.1
  have tb := tops_b (M 1) (M 1 8).toNat 0 0
  unfold f_X11_isItem
  rw [many_R hi, Option.bind_some, ck_pos ⟨by omega, by omega⟩, isIn_eq, Option.bind_some]
  by_cases c : 0 ≤ p ∧ p < tops (M 1) (M 1 8).toNat 0 0
  · rw [if_pos c, if_pos (by omega), ck_pos (Or.inr rfl)]
  · rw [if_neg c, if_neg (by omega), ck_pos (Or.inl rfl)]
theorem p_trim (hc : CutOK) {k : Nat} {Mc Mr : Mem} (h : Rel k Mc Mr) (hk : k < 512) (p q : Int) : ∃ Mc' Mr' : Mem, st_trim p q Mc Mr Mc' Mr' ∧ Rel (k + 1) Mc' Mr' := by
  have hl := h.wf.1
  have hi := h.wf.2.2
  have h8 := hi.1
  have tc := top_C hi h.rs.2.2
  have ii := isItem_R (M := Mr) hi p
  by_cases hp : 0 ≤ p ∧ p < tops (Mr 1) (Mr 1 8).toNat 0 0
  · rw [if_pos hp] at ii
    by_cases hq : 1 ≤ q ∧ q ≤ 399
    · have k1 : (upm Mr 0 7 0) 1 = Mr 1 := thr_ne _ _ (by decide)
      obtain ⟨t, t1, t2, t3, t4⟩ := rowOf_R (M := upm Mr 0 7 0) (by rw [k1]; exact hi) (x := p) (by rw [k1]; omega)
      rw [k1] at t2 t3 t4
      have tl : (t : Int) < Mr 1 8 := by
        apply Decidable.byContradiction
        intro z
        rw [show t = (Mr 1 8).toNat by omega] at t4
        omega
      have t60 := hi.t60 tl
      have h4 : rk (Mr 1) t ≠ 4 := by
        intro z
        have := (hi.2.2.2.2 t tl).2
        omega
      have ti := topI_C hi h.rs.2.2 t2 t3
      rw [t4] at ti
      have bl := blk_ev hi h.rs.2.2 tl h4
      have kd := hi.kind tl
      -- up to the kind
      have goC : f_X10_trim p q Mc = (f_X2_isBlock 5 (it (Mr 1) t : Nat) Mc).bind fun r42 => if r42 = 0 then (f_X2_framesOf 5 (it (Mr 1) t : Nat) Mc).bind fun r62 => ck (inR (r62 - q)) <| if 1 ≤ (r62 - q) then (f_X10_remember Mc).bind fun M79 => (f_X2_shorten 5 (it (Mr 1) t : Nat) q M79).bind fun M91 => (f_X10_settle M91).bind fun M95 => (f_X2_framesOf 5 (it (Mr 1) t : Nat) M95).bind fun r106 => some (r106, M95) else (f_X10_refuse 6 Mc).bind fun (r74, M74) => some (r74, M74) else (f_X10_refuse 5 Mc).bind fun (r50, M50) => some (r50, M50) := by
        unfold f_X10_trim
        rw [tc, Option.bind_some, (rI_ok hp).1, Option.bind_some, (rR_ok hq).1, Option.bind_some, ti, Option.bind_some]
      by_cases k01 : rk (Mr 1) t = 0 ∨ rk (Mr 1) t = 1
      · have lb := rLF_b hl hi tl k01
        have fc := frC hl hi h.rs.2.2 tl k01
        have fr := frR (M := upm Mr 0 7 0) (by rw [k1]; exact hl) (by rw [k1]; exact hi) (t := t) (by rw [k1]; exact tl) (by rw [k1]; exact k01)
        rw [k1] at fr
        rw [if_neg (by omega : ¬ (rk (Mr 1) t = 2 ∨ rk (Mr 1) t = 3))] at bl
        rw [bl, Option.bind_some, if_pos rfl, fc, Option.bind_some, ck_pos ⟨by omega, by omega⟩] at goC
        by_cases c : q < rL (Mr 1) t - rF (Mr 1) t + 1
        · rw [if_pos (by omega)] at goC
          obtain ⟨Mc1, M1, a1, a2, a3, a4, a5, a6, a7⟩ := both_rem h hk (M := upm Mr 0 7 0) k1 (thr_ne _ _ (by decide)) (thr_ne _ _ (by decide)) (thr_sl _ _ (by decide))
          have e1 : M1 1 = Mr 1 := (a4 1 (by decide) (by decide) (by decide)).trans k1
          have rs1 : RS Mc1 5 (Mr 1) := h.rs.eqv (fun j _ _ => a3 _ (by omega) (by omega) (by omega))
          have w' := shr_WF (x := q) h.wf tl k01 ⟨hq.1, by omega⟩
          have rs2 := shr_RS (x := q) h.wf tl k01 rs1
          obtain ⟨col, hcol⟩ : ∃ col : Nat, col = (if rk (Mr 1) t = 0 then 129 else 128) + 4 * t := ⟨_, rfl⟩
          have eg : (upm M1 1 col (M1 1 col - q)) 1 = shr (Mr 1) t q := by
            rw [upm_row, e1, hcol]; rfl
          obtain ⟨Mc3, s1, s2, s3, s4⟩ := act_done hc h (M2 := upm M1 1 col (M1 1 col - q)) (fun c q => by rw [upm_ne (by omega)]; exact a3 c (by omega) (by omega) (by omega)) (by rw [upm_ne (by decide), a3 72 (by decide) (by decide) (by omega)]) (fun c q => by rw [upm_ne (by omega), a4 c (by omega) (by omega) (by omega), thr_ne _ _ (by omega)]) (fun j q => by rw [upm_ne (by decide), a5 j (by omega), thr_sl _ _ (by omega)]) (a6.eqv (fun c q => upm_ne (by omega)) (by rw [upm_ne (by decide)]) (upm_ne (by decide))) (fun i hi => by rw [upm_ne (by decide), upm_ne (by decide)]; exact a7 i hi) eg rs2 w'
          have b := hi.it30 tl h4
          have sh : f_X2_shorten 5 (it (Mr 1) t : Nat) q Mc1 = some (upm Mc1 (5 + 21) (it (Mr 1) t) (Mc1 (5 + 21) (it (Mr 1) t) - q)) := by
            have c4 := (rs1.2.2.2 t tl h4).2.2.2.1
            unfold f_X2_shorten
            rw [if_neg (by omega), rs1.2.2.1, if_neg (by omega), ck_pos ⟨by omega, by omega⟩, Int.toNat_natCast, c4, ck_pos ⟨by omega, by omega⟩, lt_eq]
          have ch := shr_chg (Mr 1) t q
          have tl' : (t : Int) < shr (Mr 1) t q 8 := by rw [ch 8 (by omega) (by omega)]; exact tl
          have k01' : rk (shr (Mr 1) t q) t = 0 ∨ rk (shr (Mr 1) t q) t = 1 := by rw [chg_rk ch]; exact k01
          have fc' := frC (M := Mc3) w'.1 w'.2.2 (by have := s2.rs.2.2; rw [eg] at this; exact this) tl' k01'
          have fr' := frR (M := upm M1 1 col (M1 1 col - q)) (by rw [eg]; exact w'.1) (by rw [eg]; exact w'.2.2) (t := t) (by rw [eg]; exact tl') (by rw [eg]; exact k01')
          rw [eg] at fr'
          rw [chg_it ch] at fc'
          refine ⟨Mc3, upm M1 1 col (M1 1 col - q), Or.inl ⟨rL (shr (Mr 1) t q) t - rF (shr (Mr 1) t q) t + 1, ?_, ?_, ?_⟩, s2⟩
          · rw [goC, a1, Option.bind_some, sh, Option.bind_some, s1, Option.bind_some, fc']; rfl
          · unfold f_X11_trim
            rw [ii, Option.bind_some, isIn_eq, if_pos hq, Option.bind_some, gb11, Option.bind_some]
            simp only [jn]
            rw [if_neg (by decide), t1, Option.bind_some, r0 (by omega), Option.bind_some, Option.bind_some, k1]
            rw [e1] at fr' ⊢
            rcases k01 with z | z
            · have cz : col = 129 + 4 * t := by rw [hcol, if_pos z]
              have vb : Mr 1 col = rL (Mr 1) t := by unfold rL; rw [if_pos z, cz]
              rw [if_pos z, fr, Option.bind_some, if_pos c, a2, Option.bind_some, ck_pos ⟨by omega, by omega⟩, ck_pos ⟨by omega, by omega⟩, r0 (by omega), Option.bind_some, e1, if_pos z, ck_pos ⟨by omega, by omega⟩, ck_pos ⟨by omega, by omega⟩, show (126 + 4 * (t : Int) + 3).toNat = col by omega, vb, ck_pos ⟨by omega, by omega⟩, lt_eq, ← vb, fr']
              rfl
            · have n0 : ¬ rk (Mr 1) t = 0 := by omega
              have cz : col = 128 + 4 * t := by rw [hcol, if_neg n0]
              have vb : Mr 1 col = rL (Mr 1) t + 1 := by unfold rL; rw [if_neg n0, if_pos z, cz]; omega
              rw [if_neg n0, if_pos z, fr, Option.bind_some, if_pos c, a2, Option.bind_some, ck_pos ⟨by omega, by omega⟩, ck_pos ⟨by omega, by omega⟩, r0 (by omega), Option.bind_some, e1, if_neg n0, ck_pos ⟨by omega, by omega⟩, ck_pos ⟨by omega, by omega⟩, show (126 + 4 * (t : Int) + 2).toNat = col by omega, vb, ck_pos ⟨by omega, by omega⟩, lt_eq, ← vb, fr']
              rfl
          · rw [upm_ne (by decide), a5 7 (by decide)]; exact thr_at _ _
        · rw [if_neg (by omega)] at goC
          obtain ⟨Mc', M', b1, b2, b3, b4⟩ := both_ref h hk (c := 6) ⟨by omega, by omega⟩ (keepR.thr (v := 0))
          have b1 : f_X10_refuse 6 Mc = some (-6, Mc') := b1
          have b2 : f_X11_refuses 6 (upm Mr 0 7 0) = some (-6, M') := b2
          refine ⟨Mc', M', Or.inl ⟨-6, ?_, ?_, b3.trans (thr_at _ _)⟩, b4⟩
          · rw [goC, b1]; rfl
          · unfold f_X11_trim
            rw [ii, Option.bind_some, isIn_eq, if_pos hq, Option.bind_some, gb11, Option.bind_some]
            simp only [jn]
            rw [if_neg (by decide), t1, Option.bind_some, r0 (by omega), Option.bind_some, Option.bind_some, k1]
            rcases k01 with z | z
            · rw [if_pos z, fr, Option.bind_some, if_neg c, b2]; rfl
            · have n0 : ¬ rk (Mr 1) t = 0 := by omega
              rw [if_neg n0, if_pos z, fr, Option.bind_some, if_neg c, b2]; rfl
      · rw [if_pos (by omega : rk (Mr 1) t = 2 ∨ rk (Mr 1) t = 3)] at bl
        rw [bl, Option.bind_some, if_neg (by decide)] at goC
        obtain ⟨Mc', M', b1, b2, b3, b4⟩ := both_ref h hk (c := 5) ⟨by omega, by omega⟩ (keepR.thr (v := 0))
        have b1 : f_X10_refuse 5 Mc = some (-5, Mc') := b1
        have b2 : f_X11_refuses 5 (upm Mr 0 7 0) = some (-5, M') := b2
        refine ⟨Mc', M', Or.inl ⟨-5, ?_, ?_, b3.trans (thr_at _ _)⟩, b4⟩
        · rw [goC, b1]; rfl
        · unfold f_X11_trim
          rw [ii, Option.bind_some, isIn_eq, if_pos hq, Option.bind_some, gb11, Option.bind_some]
          simp only [jn]
          rw [if_neg (by decide), t1, Option.bind_some, r0 (by omega), Option.bind_some, Option.bind_some, k1, if_neg (by omega), if_neg (by omega), b2]; rfl
    · refine ⟨Mc, upm Mr 0 7 2, Or.inr (Or.inr ⟨?_, 0, ?_, thr_at _ _⟩), h.scr keepC.rfl keepR.thr (by omega)⟩
      · unfold x_X10_trim
        rw [tc, Option.bind_some]; exact x2_2 hp hq
      · unfold f_X11_trim
        rw [ii, Option.bind_some, isIn_eq, if_neg hq, Option.bind_some, gb10, Option.bind_some]
        simp
  · rw [if_neg hp] at ii
    refine ⟨Mc, upm Mr 0 7 1, Or.inr (Or.inl ⟨?_, 0, ?_, thr_at _ _⟩), h.scr keepC.rfl keepR.thr (by omega)⟩
    · unfold x_X10_trim
      rw [tc, Option.bind_some]; exact x2_1 hp
    · unfold f_X11_trim
      rw [ii, Option.bind_some, isIn_eq, Option.bind_some, gb0, Option.bind_some]
      simp
