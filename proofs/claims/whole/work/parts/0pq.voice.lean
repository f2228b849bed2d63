/-! the voice written -/
theorem Rel.out {k : Nat} {Mc Mr Mc' Mr' : Mem} {L : List Int} (h : Rel k Mc Mr) (hc : keepOC Mc Mc') (hr : keepOR Mr Mr') (o1 : outC Mc' L) (o2 : outR Mr' L) (hL : L.length ≤ 1000) : Rel (k + 1) Mc' Mr' := by
  obtain ⟨h1, h2, h3, h4, h5, h6, h7, h8, h9, h10, h11⟩ := h
  have fc : ∀ c : Nat, c ≠ 3 → c ≠ 4 → Mc' c = Mc c := hc
  have er : Mr' 1 = Mr 1 := hr.1 1 (by decide) (by decide)
  refine ⟨?_, ?_, ⟨by rw [o1.1, o2.1], by rw [o2.1]; omega, fun i hi => ?_⟩, ?_, ?_, ?_, ?_, ?_, ?_, ?_, ?_⟩
  · unfold RTx at h1 ⊢
    rw [fc 1 (by decide) (by decide), hr.2 29 (by decide), fc 2 (by decide) (by decide), hr.1 22 (by decide) (by decide)]; exact h1
  · rw [fc 1 (by decide) (by decide), hr.2 36 (by decide), hr.2 37 (by decide)]; exact h2
  · rw [o2.1] at hi
    have e : L[i]? = some (L[i]'(by omega)) := List.getElem?_eq_getElem (by omega)
    rw [o1.2 i _ e, o2.2 i _ e]
  · intro i hi
    rw [fc 73 (by decide) (by decide), hr.1 5 (by decide) (by decide)]
    obtain ⟨a, b, c⟩ := h4 i hi
    exact ⟨a, b, by omega⟩
  · exact h5.eqv (fun c q => fc c (by omega) (by omega)) (hr.2 6 (by decide)) (hr.1 3 (by decide) (by decide))
  · intro t ht
    obtain ⟨a, b, c⟩ := h6 t ht
    rw [fc 55 (by decide) (by decide), hr.1 6 (by decide) (by decide), hr.1 4 (by decide) (by decide)]
    exact ⟨a, b, fun h => ⟨(c h).1.eqv (fun i _ _ => fc _ (by omega) (by omega)), (c h).2⟩⟩
  · rw [er]; exact h7.eqv (fun i _ _ => fc _ (by omega) (by omega))
  · rw [er]; exact h8
  · rw [er]; exact h9.eqv (fun c _ _ => fc c (by omega) (by omega)) (by rw [fc 56 (by decide) (by decide)]) (by rw [fc 56 (by decide) (by decide)])
  · unfold RSp at h10 ⊢
    rw [er, fc 64 (by decide) (by decide), fc 65 (by decide) (by decide), fc 66 (by decide) (by decide), fc 67 (by decide) (by decide)]; exact h10
  · rw [fc 72 (by decide) (by decide)]; exact h11
def ltr (g : Row) (i : Nat) : Nat → Nat → List Int
  | 0, _ => []
  | k + 1, j => wLet g i j :: ltr g i k (j + 1)
def dot (g : Row) (i : Nat) : List Int := if g (384 + 3 * i) = 1 then [46] else []
def vT (g : Row) : Nat → Nat → List Int
  | 0, _ => []
  | k + 1, i => (if i = 0 then [] else [32]) ++ (ltr g i (g (383 + 3 * i)).toNat 0 ++ dot g i) ++ vT g k (i + 1)
theorem ltr_len (g : Row) (i : Nat) : ∀ k j : Nat, (ltr g i k j).length = k := by
  intro k
  induction k with
  | zero => intro j; rfl
  | succ k ih => intro j; rw [ltr, List.length_cons, ih]
theorem wLet_b {g : Row} (hv : WFv g) {i j : Nat} (hi : (i : Int) < g 9) (hj : (j : Int) < g (383 + 3 * i)) : 97 ≤ wLet g i j ∧ wLet g i j ≤ 122 := by
  have hw := hv.2.2.1 i hi
  unfold wLet wFrom
  rw [show 562 + (g (382 + 3 * i)).toNat + j = 562 + ((g (382 + 3 * i)).toNat + j) by omega]
  exact hv.2.2.2.1 _ (by omega)
theorem L_v1_C {M0 : Mem} {g : Row} (hv : WFv g) (r : RS M0 5 g) {i : Nat} (hi : (i : Int) < g 9) (SELF : Int → Mem → Option Mem) : ∀ (k j n : Nat) (M : Mem) (L : List Int), (j : Int) + k = g (383 + 3 * i) → k < n → keepOC M0 M → outC M L → L.length + k + 1 ≤ 1000 →
    ∃ M' : Mem, f_X4_writeWords_L35 SELF 5 (i : Int) (g (382 + 3 * i)) n (g (382 + 3 * i) + (j : Int)) M = SELF ((i + 1 : Nat) : Int) M' ∧ keepOC M0 M' ∧ outC M' (L ++ (ltr g i k j ++ dot g i)) := by
  have h9 := hv.1
  have hw := hv.2.2.1 i hi
  have h10 := hv.2.1
  intro k
  induction k with
  | zero =>
    intro j n M L hj hn hk ho hL
    obtain ⟨n, rfl⟩ := nat_ex hn
    have rM : RS M 5 g := r.eqv (fun j _ _ => hk _ (by omega) (by omega))
    obtain ⟨c1, c2, c3, c4⟩ := rM.2.1.2.2.1 i hi
    simp only [f_X4_writeWords_L35]
    rw [ck_pos ⟨by omega, by omega⟩, Int.toNat_natCast, c2, c4, ck_pos ⟨by omega, by omega⟩, if_pos (by omega), show (i : Int) + 1 = ((i + 1 : Nat) : Int) by omega]
    unfold dot
    rw [ltr, List.nil_append]
    rcases hw.2.2.2 with z | z
    · rw [if_pos z, ck_pos ⟨by omega, by omega⟩, if_neg (by omega), List.append_nil]
      exact ⟨M, rfl, hk, ho⟩
    · obtain ⟨M1, a1, a2, a3⟩ := put_C ho (by omega) (x := 46) ⟨by omega, by omega⟩
      rw [if_neg (by omega), if_pos z, a1, Option.bind_some, ck_pos ⟨by omega, by omega⟩]
      exact ⟨M1, rfl, hk.trans a3, a2⟩
  | succ k ih =>
    intro j n M L hj hn hk ho hL
    obtain ⟨n, rfl⟩ := nat_ex hn
    have rM : RS M 5 g := r.eqv (fun j _ _ => hk _ (by omega) (by omega))
    obtain ⟨c1, c2, c3, c4⟩ := rM.2.1.2.2.1 i hi
    have lb := wLet_b hv hi (j := j) (by omega)
    have le : M (5 + 12) (g (382 + 3 * i) + (j : Int)).toNat = wLet g i j := by
      rw [rM.2.1.2.2.2 _ (by omega)]
      unfold wLet wFrom
      rw [show 562 + (g (382 + 3 * i) + (j : Int)).toNat = 562 + (g (382 + 3 * i)).toNat + j by omega]
    obtain ⟨M1, a1, a2, a3⟩ := put_C ho (by omega) (x := wLet g i j) ⟨by omega, by omega⟩
    obtain ⟨M', b1, b2, b3⟩ := ih (j + 1) n M1 _ (by omega) (by omega) (hk.trans a3) a2 (by rw [List.length_append, List.length_singleton]; omega)
    refine ⟨M', ?_, b2, by rw [ltr, show L ++ (wLet g i j :: ltr g i k (j + 1) ++ dot g i) = (L ++ [wLet g i j]) ++ (ltr g i k (j + 1) ++ dot g i) by simp]; exact b3⟩
    simp only [f_X4_writeWords_L35]
    rw [ck_pos ⟨by omega, by omega⟩, Int.toNat_natCast, c2, ck_pos ⟨by omega, by omega⟩, if_neg (by omega), ck_pos ⟨by omega, by omega⟩, le, a1, Option.bind_some, ck_pos ⟨by omega, by omega⟩, show g (382 + 3 * i) + (j : Int) + 1 = g (382 + 3 * i) + ((j + 1 : Nat) : Int) by omega]
    exact b1
theorem L_v2_C {M0 : Mem} {g : Row} (hv : WFv g) (r : RS M0 5 g) : ∀ (k i n : Nat) (M : Mem) (L : List Int) (X : Int), (i : Int) + k = g 9 → k < n → keepOC M0 M → outC M L → (L.length : Int) ≤ 2 * (i : Int) + X → X ≤ 500 → ((i : Int) < g 9 → X ≤ g (382 + 3 * i)) →
    ∃ M' : Mem, f_X4_writeWords_L7 5 n (i : Int) M = some M' ∧ keepOC M0 M' ∧ outC M' (L ++ vT g k i) ∧ (L ++ vT g k i).length ≤ 620 := by
  have h9 := hv.1
  have h10 := hv.2.1
  intro k
  induction k with
  | zero =>
    intro i n M L X hi hn hk ho hL hX _
    obtain ⟨n, rfl⟩ := nat_ex hn
    have rM : RS M 5 g := r.eqv (fun j _ _ => hk _ (by omega) (by omega))
    refine ⟨M, ?_, hk, by rw [vT, List.append_nil]; exact ho, by rw [vT, List.append_nil]; omega⟩
    simp only [f_X4_writeWords_L7, rM.2.1.1]
    rw [if_pos (by omega)]
  | succ k ih =>
    intro i n M L X hi hn hk ho hL hX hX2
    obtain ⟨n, rfl⟩ := nat_ex hn
    have hw := hv.2.2.1 i (by omega)
    have rM : RS M 5 g := r.eqv (fun j _ _ => hk _ (by omega) (by omega))
    have X3 := hX2 (by omega)
    have step : ∀ (N : Mem) (P : List Int), keepOC M0 N → outC N P → (P.length : Int) ≤ 2 * (i : Int) + X + 1 → P = L ++ (if i = 0 then [] else [32]) → ∃ M' : Mem, f_X4_writeWords_L35 (f_X4_writeWords_L7 5 n) 5 (i : Int) (g (382 + 3 * i)) jFuel (g (382 + 3 * i)) N = some M' ∧ keepOC M0 M' ∧ outC M' (L ++ vT g (k + 1) i) ∧ (L ++ vT g (k + 1) i).length ≤ 620 := by
      intro N P kN oN lN eP
      obtain ⟨M1, a1, a2, a3⟩ := L_v1_C hv r (i := i) (by omega) (f_X4_writeWords_L7 5 n) (g (383 + 3 * i)).toNat 0 jFuel N P (by omega) (jF (by omega)) kN oN (by omega)
      have dl : (dot g i).length ≤ 1 := by unfold dot; split <;> simp
      have tl : ((P ++ (ltr g i (g (383 + 3 * i)).toNat 0 ++ dot g i)).length : Int) ≤ P.length + g (383 + 3 * i) + 1 := by
        rw [List.length_append, List.length_append, ltr_len]; omega
      obtain ⟨M', b1, b2, b3, b4⟩ := ih (i + 1) n M1 _ (X + g (383 + 3 * i)) (by omega) (by omega) a2 a3 (by omega) (by omega) (fun q => by
        have := hv.2.2.2.2.2 i (by omega)
        rw [show 382 + 3 * (i + 1) = 385 + 3 * i by omega]; omega)
      have e : P ++ (ltr g i (g (383 + 3 * i)).toNat 0 ++ dot g i) ++ vT g k (i + 1) = L ++ vT g (k + 1) i := by
        rw [eP, vT]; simp only [List.append_assoc]
      rw [e] at b3 b4
      rw [show g (382 + 3 * i) + ((0 : Nat) : Int) = g (382 + 3 * i) by simp] at a1
      exact ⟨M', a1.trans b1, b2, b3, b4⟩
    simp only [f_X4_writeWords_L7, rM.2.1.1]
    rw [if_neg (by omega)]
    by_cases z : i = 0
    · rw [if_pos (by omega), ck_pos ⟨by omega, by omega⟩, Int.toNat_natCast, (rM.2.1.2.2.1 i (by omega)).1]
      exact step M L hk ho (by omega) (by rw [if_pos z, List.append_nil])
    · obtain ⟨M1, a1, a2, a3⟩ := put_C ho (by omega) (x := 32) ⟨by omega, by omega⟩
      have rM1 : RS M1 5 g := rM.eqv (fun j _ _ => a3 _ (by omega) (by omega))
      rw [if_neg (by omega), a1, Option.bind_some, ck_pos ⟨by omega, by omega⟩, Int.toNat_natCast, (rM1.2.1.2.2.1 i (by omega)).1]
      exact step M1 _ (hk.trans a3) a2 (by rw [List.length_append, List.length_singleton]; omega) (by rw [if_neg z])
theorem L_v1_R {M0 : Mem} (hv : WFv (M0 1)) {i : Nat} (hi : (i : Int) < M0 1 9) (SELF : Int → Mem → Option (Int × Mem)) : ∀ (k j n : Nat) (M : Mem) (L : List Int), (j : Int) + k = M0 1 (383 + 3 * i) → k < n → keepOR M0 M → outR M L → L.length + k + 1 ≤ 1000 →
    ∃ M' : Mem, f_X11_writeVoice_L35 SELF (i : Int) n (j : Int) M = SELF ((i + 1 : Nat) : Int) M' ∧ keepOR M0 M' ∧ outR M' (L ++ (ltr (M0 1) i k j ++ dot (M0 1) i)) := by
  have h9 := hv.1
  have hw := hv.2.2.1 i hi
  intro k
  induction k with
  | zero =>
    intro j n M L hj hn hk ho hL
    obtain ⟨n, rfl⟩ := nat_ex hn
    have e1 : M 1 = M0 1 := hk.1 1 (by decide) (by decide)
    simp only [f_X11_writeVoice_L35]
    rw [w1 (by omega), Option.bind_some, w2 (by omega), Option.bind_some, e1, if_pos (by omega), show (i : Int) + 1 = ((i + 1 : Nat) : Int) by omega]
    unfold dot
    rw [ltr, List.nil_append]
    by_cases z : M0 1 (384 + 3 * i) = 1
    · obtain ⟨M1, a1, a2, a3⟩ := put_R ho (by omega) 46
      rw [if_pos z, if_pos z, a1, Option.bind_some, ck_pos ⟨by omega, by omega⟩]
      exact ⟨M1, rfl, hk.trans a3, a2⟩
    · rw [if_neg z, if_neg z, ck_pos ⟨by omega, by omega⟩, List.append_nil]
      exact ⟨M, rfl, hk, ho⟩
  | succ k ih =>
    intro j n M L hj hn hk ho hL
    obtain ⟨n, rfl⟩ := nat_ex hn
    have e1 : M 1 = M0 1 := hk.1 1 (by decide) (by decide)
    obtain ⟨M1, a1, a2, a3⟩ := put_R ho (by omega) (wLet (M0 1) i j)
    obtain ⟨M', b1, b2, b3⟩ := ih (j + 1) n M1 _ (by omega) (by omega) (hk.trans a3) a2 (by rw [List.length_append, List.length_singleton]; omega)
    refine ⟨M', ?_, b2, by rw [ltr, show L ++ (wLet (M0 1) i j :: ltr (M0 1) i k (j + 1) ++ dot (M0 1) i) = (L ++ [wLet (M0 1) i j]) ++ (ltr (M0 1) i k (j + 1) ++ dot (M0 1) i) by simp]; exact b3⟩
    simp only [f_X11_writeVoice_L35]
    rw [w1 (by omega), Option.bind_some, e1, if_neg (by omega), letter_ev (by rw [e1]; exact hv) (by rw [e1]; exact hi) (by rw [e1]; omega), Option.bind_some, e1, a1, Option.bind_some, ck_pos ⟨by omega, by omega⟩, show (j : Int) + 1 = ((j + 1 : Nat) : Int) by omega]
    exact b1
theorem L_v2_R {M0 : Mem} (hv : WFv (M0 1)) : ∀ (k i n : Nat) (M : Mem) (L : List Int), (i : Int) + k = M0 1 9 → k < n → keepOR M0 M → outR M L → (L ++ vT (M0 1) k i).length ≤ 620 →
    ∃ M' : Mem, f_X11_writeVoice_L12 n (i : Int) M = some (((L ++ vT (M0 1) k i).length : Int), M') ∧ keepOR M0 M' ∧ outR M' (L ++ vT (M0 1) k i) := by
  have h9 := hv.1
  intro k
  induction k with
  | zero =>
    intro i n M L hi hn hk ho hL
    obtain ⟨n, rfl⟩ := nat_ex hn
    have e1 : M 1 = M0 1 := hk.1 1 (by decide) (by decide)
    rw [vT, List.append_nil]
    refine ⟨M, ?_, hk, ho⟩
    simp only [f_X11_writeVoice_L12, show (9 : Int).toNat = 9 from rfl]
    rw [e1, if_pos (by omega), ho.1]
  | succ k ih =>
    intro i n M L hi hn hk ho hL
    obtain ⟨n, rfl⟩ := nat_ex hn
    have e1 : M 1 = M0 1 := hk.1 1 (by decide) (by decide)
    have hw := hv.2.2.1 i (by omega)
    have eL : ∀ P : List Int, P = L ++ (if i = 0 then [] else [32]) → P ++ (ltr (M0 1) i (M0 1 (383 + 3 * i)).toNat 0 ++ dot (M0 1) i) ++ vT (M0 1) k (i + 1) = L ++ vT (M0 1) (k + 1) i := by
      intro P eP
      rw [eP, vT]; simp only [List.append_assoc]
    have step : ∀ (N : Mem) (P : List Int), keepOR M0 N → outR N P → P = L ++ (if i = 0 then [] else [32]) → ∃ M' : Mem, f_X11_writeVoice_L35 (f_X11_writeVoice_L12 n) (i : Int) jFuel 0 N = some (((L ++ vT (M0 1) (k + 1) i).length : Int), M') ∧ keepOR M0 M' ∧ outR M' (L ++ vT (M0 1) (k + 1) i) := by
      intro N P kN oN eP
      have e := eL P eP
      have ll := congrArg List.length e
      rw [List.length_append, List.length_append, List.length_append, ltr_len] at ll
      obtain ⟨M1, a1, a2, a3⟩ := L_v1_R hv (i := i) (by omega) (f_X11_writeVoice_L12 n) (M0 1 (383 + 3 * i)).toNat 0 jFuel N P (by omega) (jF (by omega)) kN oN (by omega)
      obtain ⟨M', b1, b2, b3⟩ := ih (i + 1) n M1 _ (by omega) (by omega) a2 a3 (by rw [e]; exact hL)
      rw [e] at b1 b3
      exact ⟨M', a1.trans b1, b2, b3⟩
    simp only [f_X11_writeVoice_L12, show (9 : Int).toNat = 9 from rfl]
    rw [e1, if_neg (by omega)]
    by_cases z : i = 0
    · rw [if_pos (by omega)]
      exact step M L hk ho (by rw [if_pos z, List.append_nil])
    · have lb : L.length < 1000 := by rw [List.length_append] at hL; omega
      obtain ⟨M1, a1, a2, a3⟩ := put_R ho lb 32
      rw [if_neg (by omega), a1, Option.bind_some]
      exact step M1 _ (hk.trans a3) a2 (by rw [if_neg z])
theorem p_writeVoice {k : Nat} {Mc Mr : Mem} (h : Rel k Mc Mr) : ∃ Mc' Mr' : Mem, st_writeVoice Mc Mr Mc' Mr' ∧ Rel (k + 1) Mc' Mr' := by
  have hv := h.wf.2.1
  have h9 := hv.1
  have oC : outC (upm Mc 3 1 0) [] := ⟨upm_hit, fun k x hx => by simp at hx⟩
  have kC : keepOC Mc (upm Mc 3 1 0) := fun c c1 c2 => upm_ne c1
  obtain ⟨M0, hM0⟩ : ∃ M0 : Mem, M0 = upm Mr 0 7 0 := ⟨_, rfl⟩
  have k1 : M0 1 = Mr 1 := by rw [hM0]; exact thr_ne _ _ (by decide)
  have oR : outR (upm M0 0 51 0) [] := ⟨upm_hit, fun k x hx => by simp at hx⟩
  have kR : keepOR M0 (upm M0 0 51 0) := ⟨fun c c1 c2 => upm_ne c1, fun j hj => upm_sl hj⟩
  obtain ⟨Mc', a1, a2, a3, a4⟩ := L_v2_C hv h.rs (Mr 1 9).toNat 0 jFuel (upm Mc 3 1 0) [] 0 (by omega) (jF (by omega)) kC oC (by simp) (by omega) (fun q => (hv.2.2.1 0 q).1)
  obtain ⟨Mr', b1, b2, b3⟩ := L_v2_R (M0 := M0) (by rw [k1]; exact hv) (Mr 1 9).toNat 0 jFuel (upm M0 0 51 0) [] (by rw [k1]; omega) (jF (by omega)) kR oR (by rw [k1]; exact a4)
  rw [k1] at b1 b3
  refine ⟨Mc', Mr', ⟨((([] : List Int) ++ vT (Mr 1) (Mr 1 9).toNat 0).length : Int), ?_, ?_⟩, (h.scr keepC.rfl (by rw [hM0]; exact keepR.thr) (Nat.le_refl k)).out (Mr := M0) a2 b2 a3 b3 (by omega)⟩
  · unfold f_X10_writeVoice f_X4_writeWords
    have a1 : f_X4_writeWords_L7 5 jFuel 0 (upm Mc 3 1 0) = some Mc' := a1
    rw [lt_eq, a1, Option.bind_some, a3.1]
  · unfold f_X11_writeVoice
    rw [lt_eq, lt_eq, ← hM0]
    exact b1
