/-! the reel written -/
def full (g : Row) (i : Nat) : Prop := g (128 + 4 * i) = 0 ∧ g (129 + 4 * i) = g (13 + 2 * (g (127 + 4 * i)).toNat) - 1
noncomputable def tl0 (g : Row) (i : Nat) : List Int := @ite _ (full g i) (Classical.propDecidable _) [] (wdT 16 ++ dg (g (128 + 4 * i)).toNat ++ wdT 17 ++ dg (g (129 + 4 * i)).toNat)
noncomputable def rT (g : Row) (i : Nat) : List Int :=
  if rk g i = 0 then wdT 12 ++ dg (g (127 + 4 * i)).toNat ++ tl0 g i ++ [59]
  else if rk g i = 1 then wdT 13 ++ dg (g (127 + 4 * i)).toNat ++ ([32] ++ dg (g (128 + 4 * i)).toNat) ++ [59]
  else if rk g i = 4 then wdT 22
  else if rk g i = 2 then wdT 14 ++ dg (g (127 + 4 * i)).toNat ++ [123]
  else wdT 15 ++ dg (g (127 + 4 * i)).toNat ++ [123]
noncomputable def rTs (g : Row) : Nat → Nat → List Int
  | 0, _ => []
  | k + 1, i => rT g i ++ rTs g k (i + 1)
theorem wdT_len (w : Nat) : (wdT w).length = lenST.getD w 0 := wd_len _ _ _
theorem lens : lenST.getD 12 0 = 5 ∧ lenST.getD 13 0 = 4 ∧ lenST.getD 14 0 = 7 ∧ lenST.getD 15 0 = 4 ∧ lenST.getD 16 0 = 6 ∧ lenST.getD 17 0 = 4 ∧ lenST.getD 22 0 = 2 := by decide
theorem rT_len {g : Row} (hl : WFl g) (hi : WFi g) {i : Nat} (h8 : (i : Int) < g 8) : (rT g i).length ≤ if rk g i = 4 then 2 else 24 := by
  obtain ⟨l12, l13, l14, l15, l16, l17, l22⟩ := lens
  have h5 := hl.2.2.2.2.2.1
  have h6 := hl.2.2.2.2.2.2.1
  have d0 := dg_len (g (127 + 4 * i)).toNat
  have d1 := dg_len (g (128 + 4 * i)).toNat
  have d2 := dg_len (g (129 + 4 * i)).toNat
  unfold rT
  rcases (hi.2.2.2.2 i h8).2 with w | w | w | w | w
  · have t : (tl0 g i).length ≤ 16 := by
      unfold tl0
      split
      · simp
      · simp only [List.length_append, wdT_len, l16, l17]; omega
    rw [if_pos w.1, if_neg (by omega)]
    simp only [List.length_append, wdT_len, l12, List.length_singleton]
    have := d0.2 (by omega)
    omega
  · rw [if_neg (by omega), if_pos w.1, if_neg (by omega)]
    simp only [List.length_append, wdT_len, l13, List.length_singleton]
    omega
  · rw [if_neg (by omega), if_neg (by omega), if_neg (by omega), if_pos w.1, if_neg (by omega)]
    simp only [List.length_append, wdT_len, l14, List.length_singleton]
    omega
  · rw [if_neg (by omega), if_neg (by omega), if_neg (by omega), if_neg (by omega), if_neg (by omega)]
    simp only [List.length_append, wdT_len, l15, List.length_singleton]
    omega
  · rw [if_neg (by omega), if_neg (by omega), if_pos w.1, if_pos w.1]
    simp only [wdT_len, l22]
    omega
/-! the reference writes a row -/
theorem row_R {M : Mem} {L : List Int} (hl : WFl (M 1)) (hi : WFi (M 1)) {i : Nat} (h8 : (i : Int) < M 1 8) (ho : outR M L) (hL : L.length + (rT (M 1) i).length ≤ 1000) : ∃ M' : Mem, f_X11_writesRow (i : Int) M = some M' ∧ outR M' (L ++ rT (M 1) i) ∧ keepOR M M' := by
  have i60 : i < 60 := by have := hi.1; omega
  have h5 := hl.2.2.2.2.2.1
  have h6 := hl.2.2.2.2.2.2.1
  have bs : ∀ q : Option Mem, (q.bind fun M48 => some M48) = q := fun q => by cases q <;> rfl
  -- a word, then the row's first number
  have head : ∀ (w : Nat), w < 23 → 0 ≤ M 1 (127 + 4 * i) → M 1 (127 + 4 * i) < 1000 → ∀ (K : Mem → Option Mem) (T : List Int), (∀ (N : Mem) (P : List Int), keepOR M N → outR N P → P.length + T.length ≤ 1000 → ∃ M' : Mem, K N = some M' ∧ outR M' (P ++ T) ∧ keepOR M M') → L.length + (wdT w ++ dg (M 1 (127 + 4 * i)).toNat ++ T).length ≤ 1000 → ∃ M' : Mem, ((f_X11_writesWord w M).bind fun M4 => (f_X11_r (i : Int) 1 M4).bind fun r11 => (f_X11_writesNumber r11 M4).bind fun M14 => K M14) = some M' ∧ outR M' (L ++ (wdT w ++ dg (M 1 (127 + 4 * i)).toNat ++ T)) ∧ keepOR M M' := by
    intro w hw n0 n1 K T hK hT
    rw [List.length_append, List.length_append] at hT
    obtain ⟨M1, a1, a2, a3⟩ := wd_R hw M L ho (by omega)
    have e1 : M1 1 = M 1 := a3.1 1 (by decide) (by decide)
    obtain ⟨M2, b1, b2, b3⟩ := num_R (x := (M 1 (127 + 4 * i)).toNat) (by omega) M1 _ a2 (by rw [List.length_append]; omega)
    rw [show (((M 1 (127 + 4 * i)).toNat : Nat) : Int) = M 1 (127 + 4 * i) by omega] at b1
    obtain ⟨M3, c1, c2, c3⟩ := hK M2 _ (a3.trans b3) b2 (by rw [List.length_append, List.length_append]; omega)
    refine ⟨M3, ?_, by rw [show L ++ (wdT w ++ dg (M 1 (127 + 4 * i)).toNat ++ T) = L ++ wdT w ++ dg (M 1 (127 + 4 * i)).toNat ++ T by simp only [List.append_assoc]]; exact c2, c3⟩
    rw [a1, Option.bind_some, r1 (by omega), Option.bind_some, e1, b1, Option.bind_some, c1]
  have brace : ∀ (N : Mem) (P : List Int) (x : Int), keepOR M N → outR N P → P.length + [x].length ≤ 1000 → ∃ M' : Mem, f_X11_writes x N = some M' ∧ outR M' (P ++ [x]) ∧ keepOR M M' := by
    intro N P x kN oN lN
    obtain ⟨M1, a1, a2, a3⟩ := put_R oN (by simp at lN; omega) x
    exact ⟨M1, a1, a2, kN.trans a3⟩
  unfold f_X11_writesRow f_X11_writesCut
  simp only [bs]
  rw [r0 (by omega), Option.bind_some, Option.bind_some]
  unfold rT at hL ⊢
  rcases (hi.2.2.2.2 i h8).2 with w | w | w | w | w
  · rw [if_pos w.1] at hL ⊢
    rw [if_pos w.1]
    rw [List.append_assoc (wdT 12 ++ _)] at hL ⊢
    refine head 12 (by decide) (by omega) (by omega) _ (tl0 (M 1) i ++ [59]) (fun N P kN oN lN => ?_) hL
    have e1 : N 1 = M 1 := kN.1 1 (by decide) (by decide)
    have ll := (hl.2.2.2.2.2.2.2.2.1 (M 1 (127 + 4 * i)).toNat (by omega)).2
    rw [r2 (by omega), Option.bind_some, e1]
    simp only [jn]
    -- the tail written out
    have out : ¬ full (M 1) i → ∃ M' : Mem, ((f_X11_writesWord 16 N).bind fun M51 => (f_X11_r (i : Int) 2 M51).bind fun r58 => (f_X11_writesNumber r58 M51).bind fun M61 => (f_X11_writesWord 17 M61).bind fun M68 => (f_X11_r (i : Int) 3 M68).bind fun r75 => (f_X11_writesNumber r75 M68).bind fun M78 => f_X11_writes 59 M78) = some M' ∧ outR M' (P ++ (tl0 (M 1) i ++ [59])) ∧ keepOR M M' := by
      intro nf
      unfold tl0 at lN ⊢
      rw [if_neg nf] at lN ⊢
      simp only [List.length_append] at lN
      obtain ⟨M1, a1, a2, a3⟩ := wd_R (w := 16) (by decide) N P oN (by omega)
      obtain ⟨M2, b1, b2, b3⟩ := num_R (x := (M 1 (128 + 4 * i)).toNat) (by omega) M1 _ a2 (by rw [List.length_append]; omega)
      obtain ⟨M3, c1, c2, c3⟩ := wd_R (w := 17) (by decide) M2 _ b2 (by simp only [List.length_append]; omega)
      obtain ⟨M4, d1, d2, d3⟩ := num_R (x := (M 1 (129 + 4 * i)).toNat) (by omega) M3 _ c2 (by simp only [List.length_append]; omega)
      obtain ⟨M5, f1, f2, f3⟩ := put_R d2 (by simp only [List.length_append]; simp at lN; omega) 59
      rw [show (((M 1 (128 + 4 * i)).toNat : Nat) : Int) = M 1 (128 + 4 * i) by omega] at b1
      rw [show (((M 1 (129 + 4 * i)).toNat : Nat) : Int) = M 1 (129 + 4 * i) by omega] at d1
      have g1 : M1 1 = M 1 := (a3.1 1 (by decide) (by decide)).trans e1
      have g3 : M3 1 = M 1 := (c3.1 1 (by decide) (by decide)).trans ((b3.1 1 (by decide) (by decide)).trans g1)
      refine ⟨M5, ?_, ?_, kN.trans (a3.trans (b3.trans (c3.trans (d3.trans f3))))⟩
      · rw [a1, Option.bind_some, r2 (by omega), Option.bind_some, g1, b1, Option.bind_some, c1, Option.bind_some, r3 (by omega), Option.bind_some, g3, d1, Option.bind_some, f1]
      · simp only [List.append_assoc] at f2 ⊢; exact f2
    by_cases c1 : 0 < M 1 (128 + 4 * i)
    · rw [if_pos c1]
      exact out (fun z => by have := z.1; omega)
    · obtain ⟨t, ht⟩ : ∃ t : Nat, M 1 (127 + 4 * i) = (t : Int) := ⟨(M 1 (127 + 4 * i)).toNat, by omega⟩
      have le : f_X11_lengthOf (M 1 (127 + 4 * i)) N = some (M 1 (13 + 2 * (M 1 (127 + 4 * i)).toNat)) := by
        rw [ht, len_ev (by omega), e1, Int.toNat_natCast]
      rw [if_neg c1, r3 (by omega), Option.bind_some, r1 (by omega), Option.bind_some, e1, le, Option.bind_some, ck_pos ⟨by omega, by omega⟩]
      by_cases c2 : M 1 (13 + 2 * (M 1 (127 + 4 * i)).toNat) - 1 ≤ M 1 (129 + 4 * i)
      · have fu : full (M 1) i := ⟨by omega, by omega⟩
        unfold tl0 at lN ⊢
        rw [if_pos fu] at lN ⊢
        rw [if_pos c2]
        exact brace N P 59 kN oN lN
      · rw [if_neg c2]
        exact out (fun z => by have := z.2; omega)
  · rw [if_neg (by omega), if_pos w.1] at hL ⊢
    rw [if_neg (by omega), if_pos w.1]
    rw [List.append_assoc (wdT 13 ++ _)] at hL ⊢
    refine head 13 (by decide) (by omega) (by omega) _ ([32] ++ dg (M 1 (128 + 4 * i)).toNat ++ [59]) (fun N P kN oN lN => ?_) hL
    have e1 : N 1 = M 1 := kN.1 1 (by decide) (by decide)
    simp only [List.length_append, List.length_singleton] at lN
    obtain ⟨M1, a1, a2, a3⟩ := put_R oN (by omega) 32
    obtain ⟨M2, b1, b2, b3⟩ := num_R (x := (M 1 (128 + 4 * i)).toNat) (by omega) M1 _ a2 (by rw [List.length_append, List.length_singleton]; omega)
    obtain ⟨M3, c1, c2, c3⟩ := put_R b2 (by simp only [List.length_append, List.length_singleton]; omega) 59
    rw [show (((M 1 (128 + 4 * i)).toNat : Nat) : Int) = M 1 (128 + 4 * i) by omega] at b1
    have g1 : M1 1 = M 1 := (a3.1 1 (by decide) (by decide)).trans e1
    refine ⟨M3, ?_, ?_, kN.trans (a3.trans (b3.trans c3))⟩
    · rw [a1, Option.bind_some, r2 (by omega), Option.bind_some, g1, b1, Option.bind_some, c1]
    · simp only [List.append_assoc] at c2 ⊢; exact c2
  · rw [if_neg (by omega), if_neg (by omega), if_neg (by omega), if_pos w.1] at hL ⊢
    rw [if_neg (by omega), if_neg (by omega), if_neg (by omega), if_pos w.1]
    exact head 14 (by decide) (by omega) (by omega) _ [123] (fun N P kN oN lN => brace N P 123 kN oN lN) hL
  · rw [if_neg (by omega), if_neg (by omega), if_neg (by omega), if_neg (by omega)] at hL ⊢
    rw [if_neg (by omega), if_neg (by omega), if_neg (by omega), if_neg (by omega)]
    exact head 15 (by decide) (by omega) (by omega) _ [123] (fun N P kN oN lN => brace N P 123 kN oN lN) hL
  · rw [if_neg (by omega), if_neg (by omega), if_pos w.1] at hL ⊢
    rw [if_neg (by omega), if_neg (by omega), if_pos w.1]
    exact wd_R (w := 22) (by decide) M L ho hL
theorem L_rows_R {M0 : Mem} (hl : WFl (M0 1)) (hi : WFi (M0 1)) : ∀ (k i n : Nat) (M : Mem) (L : List Int), (i : Int) + k = M0 1 8 → k < n → keepOR M0 M → outR M L → (L ++ rTs (M0 1) k i).length ≤ 1000 →
    ∃ M' : Mem, f_X11_writeReel_L12 n (i : Int) M = some (((L ++ rTs (M0 1) k i).length : Int), M') ∧ keepOR M0 M' ∧ outR M' (L ++ rTs (M0 1) k i) := by
  have h8 := hi.1
  intro k
  induction k with
  | zero =>
    intro i n M L hj hn hk ho hL
    obtain ⟨n, rfl⟩ := nat_ex hn
    have e1 : M 1 = M0 1 := hk.1 1 (by decide) (by decide)
    rw [rTs, List.append_nil]
    refine ⟨M, ?_, hk, ho⟩
    simp only [f_X11_writeReel_L12, show (8 : Int).toNat = 8 from rfl]
    rw [e1, if_pos (by omega), ho.1]
  | succ k ih =>
    intro i n M L hj hn hk ho hL
    obtain ⟨n, rfl⟩ := nat_ex hn
    have e1 : M 1 = M0 1 := hk.1 1 (by decide) (by decide)
    have e : L ++ rTs (M0 1) (k + 1) i = L ++ rT (M0 1) i ++ rTs (M0 1) k (i + 1) := by rw [rTs, List.append_assoc]
    rw [e] at hL ⊢
    have l2 : L.length + (rT (M0 1) i).length ≤ 1000 := by rw [List.length_append, List.length_append] at hL; omega
    obtain ⟨M1, a1, a2, a3⟩ := row_R (M := M) (L := L) (by rw [e1]; exact hl) (by rw [e1]; exact hi) (i := i) (by rw [e1]; omega) ho (by rw [e1]; exact l2)
    rw [e1] at a2
    obtain ⟨M', b1, b2, b3⟩ := ih (i + 1) n M1 _ (by omega) (by omega) (hk.trans a3) a2 hL
    refine ⟨M', ?_, b2, b3⟩
    simp only [f_X11_writeReel_L12, show (8 : Int).toNat = 8 from rfl]
    rw [e1, if_neg (by omega), a1, Option.bind_some, ck_pos ⟨by omega, by omega⟩, show (i : Int) + 1 = ((i + 1 : Nat) : Int) by omega]
    exact b1
