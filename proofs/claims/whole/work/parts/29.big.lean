theorem hl_C1 : ∀ j, j < 2 → LyC.2 (0 + 1 + j) = ll_X8_init.getD j (99, 0) := by decide +kernel
theorem hm_C1 {M : Mem} (hM : ∀ j, j < 314 → M (0 + j) = im_C j) : ∀ j, j < 2 → M (0 + 1 + j) = im_X8_init j := by
  intro j hj
  rw [Nat.add_assoc, hM (1 + j) (by omega)]
  funext k
  have hq : j = 0 ∨ j = 1 := by omega
  rcases hq with rfl | rfl <;> rfl
theorem hl_C3 : ∀ j, j < 2 → LyC.2 (0 + 3 + j) = ll_X4_init.getD j (99, 0) := by decide +kernel
theorem hm_C3 {M : Mem} (hM : ∀ j, j < 314 → M (0 + j) = im_C j) : ∀ j, j < 2 → M (0 + 3 + j) = im_X4_init j := by
  intro j hj
  rw [Nat.add_assoc, hM (3 + j) (by omega)]
  funext k
  have hq : j = 0 ∨ j = 1 := by omega
  rcases hq with rfl | rfl <;> rfl
theorem hl_C5 : ∀ j, j < 24 → LyC.2 (0 + 5 + j) = ll_X7_init.getD j (99, 0) := by decide +kernel
theorem hm_C5 {M : Mem} (hM : ∀ j, j < 314 → M (0 + j) = im_C j) : ∀ j, j < 24 → M (0 + 5 + j) = im_X7_init j := by
  intro j hj
  rw [Nat.add_assoc, hM (5 + j) (by omega)]
  funext k
  have hq : j = 0 ∨ j = 1 ∨ j = 2 ∨ j = 3 ∨ j = 4 ∨ j = 5 ∨ j = 6 ∨ j = 7 ∨ j = 8 ∨ j = 9 ∨ j = 10 ∨ j = 11 ∨ j = 12 ∨ j = 13 ∨ j = 14 ∨ j = 15 ∨ j = 16 ∨ j = 17 ∨ j = 18 ∨ j = 19 ∨ j = 20 ∨ j = 21 ∨ j = 22 ∨ j = 23 := by omega
  rcases hq with rfl | rfl | rfl | rfl | rfl | rfl | rfl | rfl | rfl | rfl | rfl | rfl | rfl | rfl | rfl | rfl | rfl | rfl | rfl | rfl | rfl | rfl | rfl | rfl <;> rfl
theorem hl_C29 : ∀ j, j < 24 → LyC.2 (0 + 29 + j) = ll_X7_init.getD j (99, 0) := by decide +kernel
theorem hm_C29 {M : Mem} (hM : ∀ j, j < 314 → M (0 + j) = im_C j) : ∀ j, j < 24 → M (0 + 29 + j) = im_X7_init j := by
  intro j hj
  rw [Nat.add_assoc, hM (29 + j) (by omega)]
  funext k
  have hq : j = 0 ∨ j = 1 ∨ j = 2 ∨ j = 3 ∨ j = 4 ∨ j = 5 ∨ j = 6 ∨ j = 7 ∨ j = 8 ∨ j = 9 ∨ j = 10 ∨ j = 11 ∨ j = 12 ∨ j = 13 ∨ j = 14 ∨ j = 15 ∨ j = 16 ∨ j = 17 ∨ j = 18 ∨ j = 19 ∨ j = 20 ∨ j = 21 ∨ j = 22 ∨ j = 23 := by omega
  rcases hq with rfl | rfl | rfl | rfl | rfl | rfl | rfl | rfl | rfl | rfl | rfl | rfl | rfl | rfl | rfl | rfl | rfl | rfl | rfl | rfl | rfl | rfl | rfl | rfl <;> rfl
theorem hl_C56 : ∀ j, j < 8 → LyC.2 (0 + 56 + j) = ll_X5_init.getD j (99, 0) := by decide +kernel
theorem hm_C56 {M : Mem} (hM : ∀ j, j < 314 → M (0 + j) = im_C j) : ∀ j, j < 8 → M (0 + 56 + j) = im_X5_init j := by
  intro j hj
  rw [Nat.add_assoc, hM (56 + j) (by omega)]
  funext k
  have hq : j = 0 ∨ j = 1 ∨ j = 2 ∨ j = 3 ∨ j = 4 ∨ j = 5 ∨ j = 6 ∨ j = 7 := by omega
  rcases hq with rfl | rfl | rfl | rfl | rfl | rfl | rfl | rfl <;> rfl
theorem hl_C64 : ∀ j, j < 4 → LyC.2 (0 + 64 + j) = ll_X6_init.getD j (99, 0) := by decide +kernel
theorem hm_C64 {M : Mem} (hM : ∀ j, j < 314 → M (0 + j) = im_C j) : ∀ j, j < 4 → M (0 + 64 + j) = im_X6_init j := by
  intro j hj
  rw [Nat.add_assoc, hM (64 + j) (by omega)]
  funext k
  have hq : j = 0 ∨ j = 1 ∨ j = 2 ∨ j = 3 := by omega
  rcases hq with rfl | rfl | rfl | rfl <;> rfl
theorem hl_C68 : ∀ j, j < 3 → LyC.2 (0 + 68 + j) = ll_X1_init.getD j (99, 0) := by decide +kernel
theorem hm_C68 {M : Mem} (hM : ∀ j, j < 314 → M (0 + j) = im_C j) : ∀ j, j < 3 → M (0 + 68 + j) = im_X1_init j := by
  intro j hj
  rw [Nat.add_assoc, hM (68 + j) (by omega)]
  funext k
  have hq : j = 0 ∨ j = 1 ∨ j = 2 := by omega
  rcases hq with rfl | rfl | rfl <;> rfl
theorem hl_C71 : ∀ j, j < 2 → LyC.2 (0 + 71 + j) = ll_X0_init.getD j (99, 0) := by decide +kernel
theorem hm_C71 {M : Mem} (hM : ∀ j, j < 314 → M (0 + j) = im_C j) : ∀ j, j < 2 → M (0 + 71 + j) = im_X0_init j := by
  intro j hj
  rw [Nat.add_assoc, hM (71 + j) (by omega)]
  funext k
  have hq : j = 0 ∨ j = 1 := by omega
  rcases hq with rfl | rfl <;> rfl
theorem hl_CS : ∀ i, i < 10 → ∀ j, j < 24 → LyC.2 (0 + (74 + 24 * i) + j) = ll_X7_init.getD j (99, 0) := by decide +kernel
theorem hm_CS {M : Mem} (hM : ∀ j, j < 314 → M (0 + j) = im_C j) : ∀ i, i < 10 → ∀ j, j < 24 → M (0 + (74 + 24 * i) + j) = im_X7_init j := by
  intro i hi j hj
  rw [Nat.add_assoc, hM (74 + 24 * i + j) (by omega)]
  funext k
  unfold im_C
  rw [if_neg (by omega), show (74 + 24 * i + j - 74) % 24 = j by omega]
/-- rows of States that a loop fills -/
def pf (b i : Nat) (z : Nat) : Nat → Option Nat := fun k => if k < i then some (z + (b + k * 24)) else none
theorem pf_up (b i z : Nat) : va_up (pf b i z) i (some (z + (b + i * 24))) = pf b (i + 1) z := by
  funext k
  unfold va_up pf
  by_cases h : k = i
  · subst h; simp
  · by_cases h1 : k < i
    · rw [if_neg h, if_pos h1, if_pos (by omega)]
    · rw [if_neg h, if_neg h1, if_neg (by omega)]
theorem pf_cell (cA : ClassId) (b N z : Nat) : vp_cell cA (N, .inr (.inr (.inr (.inr (pf b N z))))) = vp_cell cA (N, .inr (.inr (.inr (.inr (fun k => some (z + (b + k * 24))))))) := by
  rw [vp_cell_q, vp_cell_q]
  unfold arrV
  congr 1
  apply Array.ext
  · simp
  · intro k h1 h2
    have hk : k < N := by simpa using h1
    simp [pf, hk]
section JB
variable {p : Program} {l : Launch} {e : Env} {R : Room} {s : State} {m : MethodId} {args : Array Value} {below : List Frame} {meth : Method} {c : Code} {H : Heap} {locs : List Loc} {cells slots : Nat} {Q : State → Prop}
variable {cc : ByteArray} {nL : Nat} {own : String} {E : jE} {z a n : Nat} {ws : va_W} {pc : Nat} {ls : Array Slot} {rest : List Value}
theorem r_astN (C : Cx E p c cc nL s args own m) {A S S' : va_W} {q0 : Nat} {N b : Nat} {i : Int} {vs : List Value} {v : Nat} (hA : A.length = q0) (hN : HN E z a n (A ++ (z + (a + q0), .inl (eC E 3, N, .inr (.inr (.inr (.inr (pf b i.toNat z)))))) :: (S ++ (v, .inr (7, vs)) :: S')) s H locs) (hi : inR i) (h0 : 0 ≤ i ∧ i < (N : Int)) (hv : v = z + (b + i.toNat * 24)) (hdg : decode cc pc = .ok (.aastore, 1))
    (kk : ∀ (H1 : Heap) (locs1 : List Loc), HN E z a n (A ++ (z + (a + q0), .inl (eC E 3, N, .inr (.inr (.inr (.inr (pf b (i.toNat + 1) z)))))) :: (S ++ (v, .inr (7, vs)) :: S')) s H1 locs1 → W p l e R s m args below meth c H1 locs1 cells slots Q (F0 m (pc + 1) ls rest)) : W p l e R s m args below meth c H locs cells slots Q (F0 m pc ls (.ref v :: .int (jI i) :: .ref (z + (a + q0)) :: rest)) := by
  have ha : (A ++ (z + (a + q0), Sum.inl (eC E 3, N, .inr (.inr (.inr (.inr (pf b i.toNat z)))))) :: (S ++ (v, .inr (7, vs)) :: S') : va_W)[q0]? = some (z + (a + q0), .inl (eC E 3, N, .inr (.inr (.inr (.inr (pf b i.toNat z)))))) := by
    rw [List.getElem?_append_right (by omega), show q0 - A.length = 0 by omega]; rfl
  have hvv : (A ++ (z + (a + q0), Sum.inl (eC E 3, N, .inr (.inr (.inr (.inr (pf b i.toNat z)))))) :: (S ++ (v, .inr (7, vs)) :: S') : va_W)[q0 + 1 + S.length]? = some (v, .inr (7, vs)) := by
    rw [List.getElem?_append_right (by omega), show q0 + 1 + S.length - A.length = S.length + 1 by omega, List.getElem?_cons_succ, List.getElem?_append_right (by omega), show S.length - S.length = 0 by omega]; rfl
  have hin := jI_in (n := N) h0 hi
  have hlt : (jI i).toNatClampNeg < N := Nat.not_le.mp fun q => hin (Or.inr q)
  have h9 : ¬ jI i < 0 := fun q => hin (Or.inl q)
  obtain ⟨r', hr', cellV, g1, g2, g3, -⟩ := hN.1 _ _ hvv
  have hcls := (C.2.1.1 7 _ (show vwCl[7]? = some (RX7, TX7, 3) from rfl)).2
  obtain ⟨kA, comp, k1, k2, k3, -⟩ := (C.2.1.2 3 _ rfl).2
  have hcomp : comp = (eD E).1 7 := Option.some.inj (k3.symm.trans hcls.1)
  subst hcomp
  obtain ⟨kC, hkC, -⟩ := hcls.2
  refine W.aast C.1.1 C.1.2.1 (hN.1 q0 _ ha) (fun q h => by cases h) (fun h => by cases h) k1 k2 rfl hkC ⟨h9, by show _ < (arrV _ _ _).slots.size; rw [arrV_size]; exact hlt⟩ g1 (fun q h => by rw [g3] at h; cases h) (by rw [g2]; exact hkC) (by rw [g2]; exact va_assign hcls) rfl rfl hdg fun H1 e1 e2 oq => ?_
  have hset : (A ++ (z + (a + q0), Sum.inl (eC E 3, N, .inr (.inr (.inr (.inr (pf b i.toNat z)))))) :: (S ++ (v, .inr (7, vs)) :: S') : va_W).set q0 (z + (a + q0), .inl (eC E 3, N, .inr (.inr (.inr (.inr (pf b (i.toNat + 1) z)))))) = A ++ (z + (a + q0), .inl (eC E 3, N, .inr (.inr (.inr (.inr (pf b (i.toNat + 1) z)))))) :: (S ++ (v, .inr (7, vs)) :: S') := by
    subst hA; simp
  have hat : va_at (eD E) vwCl (z + (a + q0), .inl (eC E 3, N, .inr (.inr (.inr (.inr (pf b (i.toNat + 1) z)))))) H1 := by
    show H1[z + (a + q0)]? = some (vp_cell _ _)
    rw [e1, vp_cell_q, vp_cell_q, arrV_store, jI_nat hi, ← pf_up, ← hv]
    congr 2
    funext q
    by_cases hq : q = i.toNat
    · subst hq
      simp [updV, va_up, va_rf]
    · simp [updV, va_up, hq]
  refine kk H1 _ ?_
  rw [← hset]
  exact ⟨hN.1.set hN.2.1 ha hat oq, hN.2.1.set ha, hN.2.2.1.put e2 oq (by show z + a ≤ z + (a + q0); omega), by rw [e2]; exact hN.2.2.2.1, hN.2.2.2.2⟩
theorem hn_cell {A S : va_W} {x x' : va_E} {q : Nat} (hN : HN E z a n (A ++ (q, x) :: S) s H locs) (h : va_at (eD E) vwCl (q, x) H → va_at (eD E) vwCl (q, x') H) : HN E z a n (A ++ (q, x') :: S) s H locs := by
  have hx : (A ++ (q, x) :: S : va_W)[A.length]? = some (q, x) := by simp
  have hset : (A ++ (q, x) :: S : va_W).set A.length (q, x') = A ++ (q, x') :: S := by simp
  rw [← hset]
  exact ⟨hN.1.set hN.2.1 hx (h (hN.1 _ _ hx)) (fun _ _ => rfl), hN.2.1.set hx, hN.2.2⟩
end JB
set_option maxRecDepth 100000 in
set_option maxHeartbeats 16000000 in
theorem cn_X10_init (l : Launch) (E : jE) (z : Nat) (M : Mem) (hM : ∀ j, j < 314 → M (0 + j) = im_C j) : CtN l yX10_init cX10_init 2 { frames := 3, cells := 313, slots := 19179, locals := 140 } E z 0 314 LyC M (.inr (10, [.null, .null, .null, .null, .null, .int 0, .int 0, .null, .null, .null, .null, .null, .null, .null])) := by
  refine jmN (by decide +kernel) (Nat.le_of_ble_eq_true rfl) ?_
  intro p e sM m below meth c C hN hX hr hlk hin ls hl
  replace hl : lv_has ls 2 [(0, .ref (z + 0))] := hl
  refine r_aload_n C dX10_init_0 rfl hl 0 rfl ?_
  refine r_objInit C lk_X10_3 hl.1 dX10_init_1 (Nat.le_of_ble_eq_true rfl) (Nat.le_of_ble_eq_true rfl) ?_
  refine r_aload_n C dX10_init_4 rfl hl 0 rfl ?_
  refine r_mkN (nK := 2) C hN jc8 (fs := [.null, .int 0, .int 0, .int 0, .int 0, .int 0, .int 0, .int 0, .int 0]) (fun j hj => ?_) (cn_X8_init l E z (0 + 1) LyC M hl_C1 (hm_C1 hM)) yi_X8_init xl_X10_9 xi_X8 xn_X8 hX (Or.inr (List.mem_of_getElem? (i := 0) rfl)) dX10_init_5 dX10_init_8 dX10_init_9 hl.1 (Nat.le_of_ble_eq_true rfl) ⟨Nat.le_of_ble_eq_true rfl, Nat.le_of_ble_eq_true rfl⟩ ⟨Nat.le_of_ble_eq_true rfl, Nat.le_of_ble_eq_true rfl⟩ (fun H locs hN => ?_)
  · have hq : j = 0 ∨ j = 1 ∨ j = 2 ∨ j = 3 ∨ j = 4 ∨ j = 5 ∨ j = 6 ∨ j = 7 ∨ j = 8 := by omega
    rcases hq with rfl | rfl | rfl | rfl | rfl | rfl | rfl | rfl | rfl <;> rfl
  replace hN : HN E z 0 3 ((z + 0, .inr (10, [.null, .null, .null, .null, .null, .int 0, .int 0, .null, .null, .null, .null, .null, .null, .null])) :: ((seg E z (0 + 1) LyC M 2))) sM H locs := hN
  refine r_putFN C hN jc10 0 hin rfl dX10_init_12 lk_X10_12 (by decide) rfl rfl rfl rfl rfl (Nat.le_of_ble_eq_true rfl) (fun H locs hN => ?_)
  replace hN : HN E z 0 3 ((z + 0, .inr (10, [.ref (z + (0 + 1)), .null, .null, .null, .null, .int 0, .int 0, .null, .null, .null, .null, .null, .null, .null])) :: ((seg E z (0 + 1) LyC M 2))) sM H locs := hN
  refine r_aload_n C dX10_init_15 rfl hl 0 rfl ?_
  refine r_mkN (nK := 2) C hN jc4 (fs := [.null, .int 0]) (fun j hj => ?_) (cn_X4_init l E z (0 + 3) LyC M hl_C3 (hm_C3 hM)) yi_X4_init xl_X10_16 xi_X4 xn_X4 hX (Or.inr (List.mem_of_getElem? (i := 1) rfl)) dX10_init_16 dX10_init_19 dX10_init_20 hl.1 (Nat.le_of_ble_eq_true rfl) ⟨Nat.le_of_ble_eq_true rfl, Nat.le_of_ble_eq_true rfl⟩ ⟨Nat.le_of_ble_eq_true rfl, Nat.le_of_ble_eq_true rfl⟩ (fun H locs hN => ?_)
  · have hq : j = 0 ∨ j = 1 := by omega
    rcases hq with rfl | rfl <;> rfl
  replace hN : HN E z 0 5 ((z + 0, .inr (10, [.ref (z + (0 + 1)), .null, .null, .null, .null, .int 0, .int 0, .null, .null, .null, .null, .null, .null, .null])) :: ((((seg E z (0 + 1) LyC M 2)) ++ seg E z (0 + 3) LyC M 2))) sM H locs := hN
  refine r_putFN C hN jc10 1 hin rfl dX10_init_23 lk_X10_19 (by decide) rfl rfl rfl rfl rfl (Nat.le_of_ble_eq_true rfl) (fun H locs hN => ?_)
  replace hN : HN E z 0 5 ((z + 0, .inr (10, [.ref (z + (0 + 1)), .ref (z + (0 + 3)), .null, .null, .null, .int 0, .int 0, .null, .null, .null, .null, .null, .null, .null])) :: ((((seg E z (0 + 1) LyC M 2)) ++ seg E z (0 + 3) LyC M 2))) sM H locs := hN
  refine r_aload_n C dX10_init_26 rfl hl 0 rfl ?_
  refine r_mkN (nK := 24) C hN jc7 (fs := [.null, .null, .null]) (fun j hj => ?_) (cn_X7_init l E z (0 + 5) LyC M hl_C5 (hm_C5 hM)) yi_X7_init xl_X10_23 xi_X7 xn_X7 hX (Or.inr (List.mem_of_getElem? (i := 2) rfl)) dX10_init_27 dX10_init_30 dX10_init_31 hl.1 (Nat.le_of_ble_eq_true rfl) ⟨Nat.le_of_ble_eq_true rfl, Nat.le_of_ble_eq_true rfl⟩ ⟨Nat.le_of_ble_eq_true rfl, Nat.le_of_ble_eq_true rfl⟩ (fun H locs hN => ?_)
  · have hq : j = 0 ∨ j = 1 ∨ j = 2 := by omega
    rcases hq with rfl | rfl | rfl <;> rfl
  replace hN : HN E z 0 29 ((z + 0, .inr (10, [.ref (z + (0 + 1)), .ref (z + (0 + 3)), .null, .null, .null, .int 0, .int 0, .null, .null, .null, .null, .null, .null, .null])) :: ((((((seg E z (0 + 1) LyC M 2)) ++ seg E z (0 + 3) LyC M 2)) ++ seg E z (0 + 5) LyC M 24))) sM H locs := hN
  refine r_putFN C hN jc10 2 hin rfl dX10_init_34 lk_X10_26 (by decide) rfl rfl rfl rfl rfl (Nat.le_of_ble_eq_true rfl) (fun H locs hN => ?_)
  replace hN : HN E z 0 29 ((z + 0, .inr (10, [.ref (z + (0 + 1)), .ref (z + (0 + 3)), .ref (z + (0 + 5)), .null, .null, .int 0, .int 0, .null, .null, .null, .null, .null, .null, .null])) :: ((((((seg E z (0 + 1) LyC M 2)) ++ seg E z (0 + 3) LyC M 2)) ++ seg E z (0 + 5) LyC M 24))) sM H locs := hN
  refine r_aload_n C dX10_init_37 rfl hl 0 rfl ?_
  refine r_mkN (nK := 24) C hN jc7 (fs := [.null, .null, .null]) (fun j hj => ?_) (cn_X7_init l E z (0 + 29) LyC M hl_C29 (hm_C29 hM)) yi_X7_init xl_X10_23 xi_X7 xn_X7 hX (Or.inr (List.mem_of_getElem? (i := 2) rfl)) dX10_init_38 dX10_init_41 dX10_init_42 hl.1 (Nat.le_of_ble_eq_true rfl) ⟨Nat.le_of_ble_eq_true rfl, Nat.le_of_ble_eq_true rfl⟩ ⟨Nat.le_of_ble_eq_true rfl, Nat.le_of_ble_eq_true rfl⟩ (fun H locs hN => ?_)
  · have hq : j = 0 ∨ j = 1 ∨ j = 2 := by omega
    rcases hq with rfl | rfl | rfl <;> rfl
  replace hN : HN E z 0 53 ((z + 0, .inr (10, [.ref (z + (0 + 1)), .ref (z + (0 + 3)), .ref (z + (0 + 5)), .null, .null, .int 0, .int 0, .null, .null, .null, .null, .null, .null, .null])) :: ((((((((seg E z (0 + 1) LyC M 2)) ++ seg E z (0 + 3) LyC M 2)) ++ seg E z (0 + 5) LyC M 24)) ++ seg E z (0 + 29) LyC M 24))) sM H locs := hN
  refine r_putFN C hN jc10 3 hin rfl dX10_init_45 lk_X10_30 (by decide) rfl rfl rfl rfl rfl (Nat.le_of_ble_eq_true rfl) (fun H locs hN => ?_)
  replace hN : HN E z 0 53 ((z + 0, .inr (10, [.ref (z + (0 + 1)), .ref (z + (0 + 3)), .ref (z + (0 + 5)), .ref (z + (0 + 29)), .null, .int 0, .int 0, .null, .null, .null, .null, .null, .null, .null])) :: ((((((((seg E z (0 + 1) LyC M 2)) ++ seg E z (0 + 3) LyC M 2)) ++ seg E z (0 + 5) LyC M 24)) ++ seg E z (0 + 29) LyC M 24))) sM H locs := hN
  refine r_aload_n C dX10_init_48 rfl hl 0 rfl ?_
  refine r_bipush C dX10_init_49 rfl ?_
  refine r_newqN (N := 8) C hN xl_X10_23 hX ⟨by decide, by decide⟩ (by decide) rfl (by decide) (Nat.le_of_ble_eq_true rfl) (Nat.le_of_ble_eq_true rfl) dX10_init_51 (fun H hN => ?_)
  replace hN : HN E z 0 54 ((z + 0, .inr (10, [.ref (z + (0 + 1)), .ref (z + (0 + 3)), .ref (z + (0 + 5)), .ref (z + (0 + 29)), .null, .int 0, .int 0, .null, .null, .null, .null, .null, .null, .null])) :: (((((((((seg E z (0 + 1) LyC M 2)) ++ seg E z (0 + 3) LyC M 2)) ++ seg E z (0 + 5) LyC M 24)) ++ seg E z (0 + 29) LyC M 24) ++ [(z + (0 + 53), .inl (eC E 3, 8, .inr (.inr (.inr (.inr (fun _ => none))))))]))) sM H _ := hN
  refine r_putFN C hN jc10 4 hin rfl dX10_init_54 lk_X10_33 (by decide) rfl rfl rfl rfl rfl (Nat.le_of_ble_eq_true rfl) (fun H locs hN => ?_)
  replace hN : HN E z 0 54 ((z + 0, .inr (10, [.ref (z + (0 + 1)), .ref (z + (0 + 3)), .ref (z + (0 + 5)), .ref (z + (0 + 29)), .ref (z + (0 + 53)), .int 0, .int 0, .null, .null, .null, .null, .null, .null, .null])) :: (((((((((seg E z (0 + 1) LyC M 2)) ++ seg E z (0 + 3) LyC M 2)) ++ seg E z (0 + 5) LyC M 24)) ++ seg E z (0 + 29) LyC M 24) ++ [(z + (0 + 53), .inl (eC E 3, 8, .inr (.inr (.inr (.inr (fun _ => none))))))]))) sM H locs := hN
  refine r_aload_n C dX10_init_57 rfl hl 0 rfl ?_
  refine r_iconst C dX10_init_58 ?_
  refine r_putN C hN jc10 5 dX10_init_59 lk_X10_37 (by decide) rfl rfl rfl rfl rfl (Nat.le_of_ble_eq_true rfl) (fun H locs hN => ?_)
  replace hN : HN E z 0 54 ((z + 0, .inr (10, [.ref (z + (0 + 1)), .ref (z + (0 + 3)), .ref (z + (0 + 5)), .ref (z + (0 + 29)), .ref (z + (0 + 53)), .int (jI 0), .int 0, .null, .null, .null, .null, .null, .null, .null])) :: (((((((((seg E z (0 + 1) LyC M 2)) ++ seg E z (0 + 3) LyC M 2)) ++ seg E z (0 + 5) LyC M 24)) ++ seg E z (0 + 29) LyC M 24) ++ [(z + (0 + 53), .inl (eC E 3, 8, .inr (.inr (.inr (.inr (fun _ => none))))))]))) sM H locs := hN
  refine r_aload_n C dX10_init_62 rfl hl 0 rfl ?_
  refine r_iconst C dX10_init_63 ?_
  refine r_putN C hN jc10 6 dX10_init_64 lk_X10_41 (by decide) rfl rfl rfl rfl rfl (Nat.le_of_ble_eq_true rfl) (fun H locs hN => ?_)
  replace hN : HN E z 0 54 ((z + 0, .inr (10, [.ref (z + (0 + 1)), .ref (z + (0 + 3)), .ref (z + (0 + 5)), .ref (z + (0 + 29)), .ref (z + (0 + 53)), .int (jI 0), .int (jI 0), .null, .null, .null, .null, .null, .null, .null])) :: (((((((((seg E z (0 + 1) LyC M 2)) ++ seg E z (0 + 3) LyC M 2)) ++ seg E z (0 + 5) LyC M 24)) ++ seg E z (0 + 29) LyC M 24) ++ [(z + (0 + 53), .inl (eC E 3, 8, .inr (.inr (.inr (.inr (fun _ => none))))))]))) sM H locs := hN
  refine r_aload_n C dX10_init_67 rfl hl 0 rfl ?_
  refine r_iconst C dX10_init_68 ?_
  refine r_newqN (N := 2) C hN xl_X10_23 hX ⟨by decide, by decide⟩ (by decide) rfl (by decide) (Nat.le_of_ble_eq_true rfl) (Nat.le_of_ble_eq_true rfl) dX10_init_69 (fun H hN => ?_)
  replace hN : HN E z 0 55 ((z + 0, .inr (10, [.ref (z + (0 + 1)), .ref (z + (0 + 3)), .ref (z + (0 + 5)), .ref (z + (0 + 29)), .ref (z + (0 + 53)), .int (jI 0), .int (jI 0), .null, .null, .null, .null, .null, .null, .null])) :: ((((((((((seg E z (0 + 1) LyC M 2)) ++ seg E z (0 + 3) LyC M 2)) ++ seg E z (0 + 5) LyC M 24)) ++ seg E z (0 + 29) LyC M 24) ++ [(z + (0 + 53), .inl (eC E 3, 8, .inr (.inr (.inr (.inr (fun _ => none))))))]) ++ [(z + (0 + 54), .inl (eC E 3, 2, .inr (.inr (.inr (.inr (fun _ => none))))))]))) sM H _ := hN
  refine r_putFN C hN jc10 7 hin rfl dX10_init_72 lk_X10_44 (by decide) rfl rfl rfl rfl rfl (Nat.le_of_ble_eq_true rfl) (fun H locs hN => ?_)
  replace hN : HN E z 0 55 ((z + 0, .inr (10, [.ref (z + (0 + 1)), .ref (z + (0 + 3)), .ref (z + (0 + 5)), .ref (z + (0 + 29)), .ref (z + (0 + 53)), .int (jI 0), .int (jI 0), .ref (z + (0 + 54)), .null, .null, .null, .null, .null, .null])) :: ((((((((((seg E z (0 + 1) LyC M 2)) ++ seg E z (0 + 3) LyC M 2)) ++ seg E z (0 + 5) LyC M 24)) ++ seg E z (0 + 29) LyC M 24) ++ [(z + (0 + 53), .inl (eC E 3, 8, .inr (.inr (.inr (.inr (fun _ => none))))))]) ++ [(z + (0 + 54), .inl (eC E 3, 2, .inr (.inr (.inr (.inr (fun _ => none))))))]))) sM H locs := hN
  refine r_aload_n C dX10_init_75 rfl hl 0 rfl ?_
  refine r_iconst C dX10_init_76 ?_
  refine r_newaN (t := 2) (atype := .boolean) (N := 2) C hN gw_aZ (Or.inr (Or.inr ⟨rfl, rfl⟩)) ⟨by decide, by decide⟩ (by decide) rfl (by decide) (Nat.le_of_ble_eq_true rfl) (Nat.le_of_ble_eq_true rfl) dX10_init_77 (fun H hN => ?_)
  replace hN : HN E z 0 56 ((z + 0, .inr (10, [.ref (z + (0 + 1)), .ref (z + (0 + 3)), .ref (z + (0 + 5)), .ref (z + (0 + 29)), .ref (z + (0 + 53)), .int (jI 0), .int (jI 0), .ref (z + (0 + 54)), .null, .null, .null, .null, .null, .null])) :: (((((((((((seg E z (0 + 1) LyC M 2)) ++ seg E z (0 + 3) LyC M 2)) ++ seg E z (0 + 5) LyC M 24)) ++ seg E z (0 + 29) LyC M 24) ++ [(z + (0 + 53), .inl (eC E 3, 8, .inr (.inr (.inr (.inr (fun _ => none))))))]) ++ [(z + (0 + 54), .inl (eC E 3, 2, .inr (.inr (.inr (.inr (fun _ => none))))))]) ++ [(z + (0 + 55), .inl (eC E 2, 2, .inl (fun _ => jI 0)))]))) sM H _ := hN
  refine r_putFN C hN jc10 8 hin rfl dX10_init_79 lk_X10_47 (by decide) rfl rfl rfl rfl rfl (Nat.le_of_ble_eq_true rfl) (fun H locs hN => ?_)
  replace hN : HN E z 0 56 ((z + 0, .inr (10, [.ref (z + (0 + 1)), .ref (z + (0 + 3)), .ref (z + (0 + 5)), .ref (z + (0 + 29)), .ref (z + (0 + 53)), .int (jI 0), .int (jI 0), .ref (z + (0 + 54)), .ref (z + (0 + 55)), .null, .null, .null, .null, .null])) :: (((((((((((seg E z (0 + 1) LyC M 2)) ++ seg E z (0 + 3) LyC M 2)) ++ seg E z (0 + 5) LyC M 24)) ++ seg E z (0 + 29) LyC M 24) ++ [(z + (0 + 53), .inl (eC E 3, 8, .inr (.inr (.inr (.inr (fun _ => none))))))]) ++ [(z + (0 + 54), .inl (eC E 3, 2, .inr (.inr (.inr (.inr (fun _ => none))))))]) ++ [(z + (0 + 55), .inl (eC E 2, 2, .inl (fun _ => jI 0)))]))) sM H locs := hN
  refine r_aload_n C dX10_init_82 rfl hl 0 rfl ?_
  refine r_mkN (nK := 8) C hN jc5 (fs := [.int 0, .int 0, .null, .null, .null, .null, .null, .null, .null, .int 0]) (fun j hj => ?_) (cn_X5_init l E z (0 + 56) LyC M hl_C56 (hm_C56 hM)) yi_X5_init xl_X10_51 xi_X5 xn_X5 hX (Or.inr (List.mem_of_getElem? (i := 5) rfl)) dX10_init_83 dX10_init_86 dX10_init_87 hl.1 (Nat.le_of_ble_eq_true rfl) ⟨Nat.le_of_ble_eq_true rfl, Nat.le_of_ble_eq_true rfl⟩ ⟨Nat.le_of_ble_eq_true rfl, Nat.le_of_ble_eq_true rfl⟩ (fun H locs hN => ?_)
  · have hq : j = 0 ∨ j = 1 ∨ j = 2 ∨ j = 3 ∨ j = 4 ∨ j = 5 ∨ j = 6 ∨ j = 7 ∨ j = 8 ∨ j = 9 := by omega
    rcases hq with rfl | rfl | rfl | rfl | rfl | rfl | rfl | rfl | rfl | rfl <;> rfl
  replace hN : HN E z 0 64 ((z + 0, .inr (10, [.ref (z + (0 + 1)), .ref (z + (0 + 3)), .ref (z + (0 + 5)), .ref (z + (0 + 29)), .ref (z + (0 + 53)), .int (jI 0), .int (jI 0), .ref (z + (0 + 54)), .ref (z + (0 + 55)), .null, .null, .null, .null, .null])) :: (((((((((((((seg E z (0 + 1) LyC M 2)) ++ seg E z (0 + 3) LyC M 2)) ++ seg E z (0 + 5) LyC M 24)) ++ seg E z (0 + 29) LyC M 24) ++ [(z + (0 + 53), .inl (eC E 3, 8, .inr (.inr (.inr (.inr (fun _ => none))))))]) ++ [(z + (0 + 54), .inl (eC E 3, 2, .inr (.inr (.inr (.inr (fun _ => none))))))]) ++ [(z + (0 + 55), .inl (eC E 2, 2, .inl (fun _ => jI 0)))])) ++ seg E z (0 + 56) LyC M 8))) sM H locs := hN
  refine r_putFN C hN jc10 9 hin rfl dX10_init_90 lk_X10_54 (by decide) rfl rfl rfl rfl rfl (Nat.le_of_ble_eq_true rfl) (fun H locs hN => ?_)
  replace hN : HN E z 0 64 ((z + 0, .inr (10, [.ref (z + (0 + 1)), .ref (z + (0 + 3)), .ref (z + (0 + 5)), .ref (z + (0 + 29)), .ref (z + (0 + 53)), .int (jI 0), .int (jI 0), .ref (z + (0 + 54)), .ref (z + (0 + 55)), .ref (z + (0 + 56)), .null, .null, .null, .null])) :: (((((((((((((seg E z (0 + 1) LyC M 2)) ++ seg E z (0 + 3) LyC M 2)) ++ seg E z (0 + 5) LyC M 24)) ++ seg E z (0 + 29) LyC M 24) ++ [(z + (0 + 53), .inl (eC E 3, 8, .inr (.inr (.inr (.inr (fun _ => none))))))]) ++ [(z + (0 + 54), .inl (eC E 3, 2, .inr (.inr (.inr (.inr (fun _ => none))))))]) ++ [(z + (0 + 55), .inl (eC E 2, 2, .inl (fun _ => jI 0)))])) ++ seg E z (0 + 56) LyC M 8))) sM H locs := hN
  refine r_aload_n C dX10_init_93 rfl hl 0 rfl ?_
  refine r_mkN (nK := 4) C hN jc6 (fs := [.int 0, .int 0, .null, .null, .null]) (fun j hj => ?_) (cn_X6_init l E z (0 + 64) LyC M hl_C64 (hm_C64 hM)) yi_X6_init xl_X10_58 xi_X6 xn_X6 hX (Or.inr (List.mem_of_getElem? (i := 6) rfl)) dX10_init_94 dX10_init_97 dX10_init_98 hl.1 (Nat.le_of_ble_eq_true rfl) ⟨Nat.le_of_ble_eq_true rfl, Nat.le_of_ble_eq_true rfl⟩ ⟨Nat.le_of_ble_eq_true rfl, Nat.le_of_ble_eq_true rfl⟩ (fun H locs hN => ?_)
  · have hq : j = 0 ∨ j = 1 ∨ j = 2 ∨ j = 3 ∨ j = 4 := by omega
    rcases hq with rfl | rfl | rfl | rfl | rfl <;> rfl
  replace hN : HN E z 0 68 ((z + 0, .inr (10, [.ref (z + (0 + 1)), .ref (z + (0 + 3)), .ref (z + (0 + 5)), .ref (z + (0 + 29)), .ref (z + (0 + 53)), .int (jI 0), .int (jI 0), .ref (z + (0 + 54)), .ref (z + (0 + 55)), .ref (z + (0 + 56)), .null, .null, .null, .null])) :: (((((((((((((((seg E z (0 + 1) LyC M 2)) ++ seg E z (0 + 3) LyC M 2)) ++ seg E z (0 + 5) LyC M 24)) ++ seg E z (0 + 29) LyC M 24) ++ [(z + (0 + 53), .inl (eC E 3, 8, .inr (.inr (.inr (.inr (fun _ => none))))))]) ++ [(z + (0 + 54), .inl (eC E 3, 2, .inr (.inr (.inr (.inr (fun _ => none))))))]) ++ [(z + (0 + 55), .inl (eC E 2, 2, .inl (fun _ => jI 0)))])) ++ seg E z (0 + 56) LyC M 8)) ++ seg E z (0 + 64) LyC M 4))) sM H locs := hN
  refine r_putFN C hN jc10 10 hin rfl dX10_init_101 lk_X10_61 (by decide) rfl rfl rfl rfl rfl (Nat.le_of_ble_eq_true rfl) (fun H locs hN => ?_)
  replace hN : HN E z 0 68 ((z + 0, .inr (10, [.ref (z + (0 + 1)), .ref (z + (0 + 3)), .ref (z + (0 + 5)), .ref (z + (0 + 29)), .ref (z + (0 + 53)), .int (jI 0), .int (jI 0), .ref (z + (0 + 54)), .ref (z + (0 + 55)), .ref (z + (0 + 56)), .ref (z + (0 + 64)), .null, .null, .null])) :: (((((((((((((((seg E z (0 + 1) LyC M 2)) ++ seg E z (0 + 3) LyC M 2)) ++ seg E z (0 + 5) LyC M 24)) ++ seg E z (0 + 29) LyC M 24) ++ [(z + (0 + 53), .inl (eC E 3, 8, .inr (.inr (.inr (.inr (fun _ => none))))))]) ++ [(z + (0 + 54), .inl (eC E 3, 2, .inr (.inr (.inr (.inr (fun _ => none))))))]) ++ [(z + (0 + 55), .inl (eC E 2, 2, .inl (fun _ => jI 0)))])) ++ seg E z (0 + 56) LyC M 8)) ++ seg E z (0 + 64) LyC M 4))) sM H locs := hN
  refine r_aload_n C dX10_init_104 rfl hl 0 rfl ?_
  refine r_mkN (nK := 3) C hN jc1 (fs := [.int 0, .null, .null]) (fun j hj => ?_) (cn_X1_init l E z (0 + 68) LyC M hl_C68 (hm_C68 hM)) yi_X1_init xl_X10_65 xi_X1 xn_X1 hX (Or.inr (List.mem_of_getElem? (i := 7) rfl)) dX10_init_105 dX10_init_108 dX10_init_109 hl.1 (Nat.le_of_ble_eq_true rfl) ⟨Nat.le_of_ble_eq_true rfl, Nat.le_of_ble_eq_true rfl⟩ ⟨Nat.le_of_ble_eq_true rfl, Nat.le_of_ble_eq_true rfl⟩ (fun H locs hN => ?_)
  · have hq : j = 0 ∨ j = 1 ∨ j = 2 := by omega
    rcases hq with rfl | rfl | rfl <;> rfl
  replace hN : HN E z 0 71 ((z + 0, .inr (10, [.ref (z + (0 + 1)), .ref (z + (0 + 3)), .ref (z + (0 + 5)), .ref (z + (0 + 29)), .ref (z + (0 + 53)), .int (jI 0), .int (jI 0), .ref (z + (0 + 54)), .ref (z + (0 + 55)), .ref (z + (0 + 56)), .ref (z + (0 + 64)), .null, .null, .null])) :: (((((((((((((((((seg E z (0 + 1) LyC M 2)) ++ seg E z (0 + 3) LyC M 2)) ++ seg E z (0 + 5) LyC M 24)) ++ seg E z (0 + 29) LyC M 24) ++ [(z + (0 + 53), .inl (eC E 3, 8, .inr (.inr (.inr (.inr (fun _ => none))))))]) ++ [(z + (0 + 54), .inl (eC E 3, 2, .inr (.inr (.inr (.inr (fun _ => none))))))]) ++ [(z + (0 + 55), .inl (eC E 2, 2, .inl (fun _ => jI 0)))])) ++ seg E z (0 + 56) LyC M 8)) ++ seg E z (0 + 64) LyC M 4)) ++ seg E z (0 + 68) LyC M 3))) sM H locs := hN
  refine r_putFN C hN jc10 11 hin rfl dX10_init_112 lk_X10_68 (by decide) rfl rfl rfl rfl rfl (Nat.le_of_ble_eq_true rfl) (fun H locs hN => ?_)
  replace hN : HN E z 0 71 ((z + 0, .inr (10, [.ref (z + (0 + 1)), .ref (z + (0 + 3)), .ref (z + (0 + 5)), .ref (z + (0 + 29)), .ref (z + (0 + 53)), .int (jI 0), .int (jI 0), .ref (z + (0 + 54)), .ref (z + (0 + 55)), .ref (z + (0 + 56)), .ref (z + (0 + 64)), .ref (z + (0 + 68)), .null, .null])) :: (((((((((((((((((seg E z (0 + 1) LyC M 2)) ++ seg E z (0 + 3) LyC M 2)) ++ seg E z (0 + 5) LyC M 24)) ++ seg E z (0 + 29) LyC M 24) ++ [(z + (0 + 53), .inl (eC E 3, 8, .inr (.inr (.inr (.inr (fun _ => none))))))]) ++ [(z + (0 + 54), .inl (eC E 3, 2, .inr (.inr (.inr (.inr (fun _ => none))))))]) ++ [(z + (0 + 55), .inl (eC E 2, 2, .inl (fun _ => jI 0)))])) ++ seg E z (0 + 56) LyC M 8)) ++ seg E z (0 + 64) LyC M 4)) ++ seg E z (0 + 68) LyC M 3))) sM H locs := hN
  refine r_aload_n C dX10_init_115 rfl hl 0 rfl ?_
  refine r_mkN (nK := 2) C hN jc0 (fs := [.int 0, .int 0, .int 0, .null]) (fun j hj => ?_) (cn_X0_init l E z (0 + 71) LyC M hl_C71 (hm_C71 hM)) yi_X0_init xl_X10_72 xi_X0 xn_X0 hX (Or.inr (List.mem_of_getElem? (i := 8) rfl)) dX10_init_116 dX10_init_119 dX10_init_120 hl.1 (Nat.le_of_ble_eq_true rfl) ⟨Nat.le_of_ble_eq_true rfl, Nat.le_of_ble_eq_true rfl⟩ ⟨Nat.le_of_ble_eq_true rfl, Nat.le_of_ble_eq_true rfl⟩ (fun H locs hN => ?_)
  · have hq : j = 0 ∨ j = 1 ∨ j = 2 ∨ j = 3 := by omega
    rcases hq with rfl | rfl | rfl | rfl <;> rfl
  replace hN : HN E z 0 73 ((z + 0, .inr (10, [.ref (z + (0 + 1)), .ref (z + (0 + 3)), .ref (z + (0 + 5)), .ref (z + (0 + 29)), .ref (z + (0 + 53)), .int (jI 0), .int (jI 0), .ref (z + (0 + 54)), .ref (z + (0 + 55)), .ref (z + (0 + 56)), .ref (z + (0 + 64)), .ref (z + (0 + 68)), .null, .null])) :: (((((((((((((((((((seg E z (0 + 1) LyC M 2)) ++ seg E z (0 + 3) LyC M 2)) ++ seg E z (0 + 5) LyC M 24)) ++ seg E z (0 + 29) LyC M 24) ++ [(z + (0 + 53), .inl (eC E 3, 8, .inr (.inr (.inr (.inr (fun _ => none))))))]) ++ [(z + (0 + 54), .inl (eC E 3, 2, .inr (.inr (.inr (.inr (fun _ => none))))))]) ++ [(z + (0 + 55), .inl (eC E 2, 2, .inl (fun _ => jI 0)))])) ++ seg E z (0 + 56) LyC M 8)) ++ seg E z (0 + 64) LyC M 4)) ++ seg E z (0 + 68) LyC M 3)) ++ seg E z (0 + 71) LyC M 2))) sM H locs := hN
  refine r_putFN C hN jc10 12 hin rfl dX10_init_123 lk_X10_75 (by decide) rfl rfl rfl rfl rfl (Nat.le_of_ble_eq_true rfl) (fun H locs hN => ?_)
  replace hN : HN E z 0 73 ((z + 0, .inr (10, [.ref (z + (0 + 1)), .ref (z + (0 + 3)), .ref (z + (0 + 5)), .ref (z + (0 + 29)), .ref (z + (0 + 53)), .int (jI 0), .int (jI 0), .ref (z + (0 + 54)), .ref (z + (0 + 55)), .ref (z + (0 + 56)), .ref (z + (0 + 64)), .ref (z + (0 + 68)), .ref (z + (0 + 71)), .null])) :: (((((((((((((((((((seg E z (0 + 1) LyC M 2)) ++ seg E z (0 + 3) LyC M 2)) ++ seg E z (0 + 5) LyC M 24)) ++ seg E z (0 + 29) LyC M 24) ++ [(z + (0 + 53), .inl (eC E 3, 8, .inr (.inr (.inr (.inr (fun _ => none))))))]) ++ [(z + (0 + 54), .inl (eC E 3, 2, .inr (.inr (.inr (.inr (fun _ => none))))))]) ++ [(z + (0 + 55), .inl (eC E 2, 2, .inl (fun _ => jI 0)))])) ++ seg E z (0 + 56) LyC M 8)) ++ seg E z (0 + 64) LyC M 4)) ++ seg E z (0 + 68) LyC M 3)) ++ seg E z (0 + 71) LyC M 2))) sM H locs := hN
  refine r_aload_n C dX10_init_126 rfl hl 0 rfl ?_
  refine r_bipush C dX10_init_127 rfl ?_
  refine r_newaN (t := 0) (atype := .int) (N := 7) C hN gw_aI (Or.inl ⟨rfl, rfl⟩) ⟨by decide, by decide⟩ (by decide) rfl (by decide) (Nat.le_of_ble_eq_true rfl) (Nat.le_of_ble_eq_true rfl) dX10_init_129 (fun H hN => ?_)
  replace hN : HN E z 0 74 ((z + 0, .inr (10, [.ref (z + (0 + 1)), .ref (z + (0 + 3)), .ref (z + (0 + 5)), .ref (z + (0 + 29)), .ref (z + (0 + 53)), .int (jI 0), .int (jI 0), .ref (z + (0 + 54)), .ref (z + (0 + 55)), .ref (z + (0 + 56)), .ref (z + (0 + 64)), .ref (z + (0 + 68)), .ref (z + (0 + 71)), .null])) :: ((((((((((((((((((((seg E z (0 + 1) LyC M 2)) ++ seg E z (0 + 3) LyC M 2)) ++ seg E z (0 + 5) LyC M 24)) ++ seg E z (0 + 29) LyC M 24) ++ [(z + (0 + 53), .inl (eC E 3, 8, .inr (.inr (.inr (.inr (fun _ => none))))))]) ++ [(z + (0 + 54), .inl (eC E 3, 2, .inr (.inr (.inr (.inr (fun _ => none))))))]) ++ [(z + (0 + 55), .inl (eC E 2, 2, .inl (fun _ => jI 0)))])) ++ seg E z (0 + 56) LyC M 8)) ++ seg E z (0 + 64) LyC M 4)) ++ seg E z (0 + 68) LyC M 3)) ++ seg E z (0 + 71) LyC M 2) ++ [(z + (0 + 73), .inl (eC E 0, 7, .inl (fun _ => jI 0)))]))) sM H _ := hN
  refine r_putFN C hN jc10 13 hin rfl dX10_init_131 lk_X10_79 (by decide) rfl rfl rfl rfl rfl (Nat.le_of_ble_eq_true rfl) (fun H locs hN => ?_)
  replace hN : HN E z 0 74 ((z + 0, .inr (10, [.ref (z + (0 + 1)), .ref (z + (0 + 3)), .ref (z + (0 + 5)), .ref (z + (0 + 29)), .ref (z + (0 + 53)), .int (jI 0), .int (jI 0), .ref (z + (0 + 54)), .ref (z + (0 + 55)), .ref (z + (0 + 56)), .ref (z + (0 + 64)), .ref (z + (0 + 68)), .ref (z + (0 + 71)), .ref (z + (0 + 73))])) :: ((((((((((((((((((((seg E z (0 + 1) LyC M 2)) ++ seg E z (0 + 3) LyC M 2)) ++ seg E z (0 + 5) LyC M 24)) ++ seg E z (0 + 29) LyC M 24) ++ [(z + (0 + 53), .inl (eC E 3, 8, .inr (.inr (.inr (.inr (fun _ => none))))))]) ++ [(z + (0 + 54), .inl (eC E 3, 2, .inr (.inr (.inr (.inr (fun _ => none))))))]) ++ [(z + (0 + 55), .inl (eC E 2, 2, .inl (fun _ => jI 0)))])) ++ seg E z (0 + 56) LyC M 8)) ++ seg E z (0 + 64) LyC M 4)) ++ seg E z (0 + 68) LyC M 3)) ++ seg E z (0 + 71) LyC M 2) ++ [(z + (0 + 73), .inl (eC E 0, 7, .inl (fun _ => jI 0)))]))) sM H locs := hN
  have hN : HN E z 0 74 (([(z + 0, .inr (10, [.ref (z + (0 + 1)), .ref (z + (0 + 3)), .ref (z + (0 + 5)), .ref (z + (0 + 29)), .ref (z + (0 + 53)), .int (jI 0), .int (jI 0), .ref (z + (0 + 54)), .ref (z + (0 + 55)), .ref (z + (0 + 56)), .ref (z + (0 + 64)), .ref (z + (0 + 68)), .ref (z + (0 + 71)), .ref (z + (0 + 73))]))] ++ ((((seg E z (0 + 1) LyC M 2 ++ seg E z (0 + 3) LyC M 2) ++ seg E z (0 + 5) LyC M 24) ++ seg E z (0 + 29) LyC M 24))) ++ (z + (0 + 53), .inl (eC E 3, 8, .inr (.inr (.inr (.inr (pf 74 0 z)))))) :: ([(z + (0 + 54), .inl (eC E 3, 2, .inr (.inr (.inr (.inr (pf 266 0 z))))))] ++ ([(z + (0 + 55), .inl (eC E 2, 2, .inl (fun _ => jI 0)))] ++ seg E z (0 + 56) LyC M 8 ++ seg E z (0 + 64) LyC M 4 ++ seg E z (0 + 68) LyC M 3 ++ seg E z (0 + 71) LyC M 2 ++ [(z + (0 + 73), .inl (eC E 0, 7, .inl (fun _ => jI 0)))]))) sM H locs := by
    have he : ([(z + 0, .inr (10, [.ref (z + (0 + 1)), .ref (z + (0 + 3)), .ref (z + (0 + 5)), .ref (z + (0 + 29)), .ref (z + (0 + 53)), .int (jI 0), .int (jI 0), .ref (z + (0 + 54)), .ref (z + (0 + 55)), .ref (z + (0 + 56)), .ref (z + (0 + 64)), .ref (z + (0 + 68)), .ref (z + (0 + 71)), .ref (z + (0 + 73))]))] ++ ((((seg E z (0 + 1) LyC M 2 ++ seg E z (0 + 3) LyC M 2) ++ seg E z (0 + 5) LyC M 24) ++ seg E z (0 + 29) LyC M 24))) ++ (z + (0 + 53), .inl (eC E 3, 8, .inr (.inr (.inr (.inr (pf 74 0 z)))))) :: ([(z + (0 + 54), .inl (eC E 3, 2, .inr (.inr (.inr (.inr (pf 266 0 z))))))] ++ ([(z + (0 + 55), .inl (eC E 2, 2, .inl (fun _ => jI 0)))] ++ seg E z (0 + 56) LyC M 8 ++ seg E z (0 + 64) LyC M 4 ++ seg E z (0 + 68) LyC M 3 ++ seg E z (0 + 71) LyC M 2 ++ [(z + (0 + 73), .inl (eC E 0, 7, .inl (fun _ => jI 0)))])) = ((z + 0, .inr (10, [.ref (z + (0 + 1)), .ref (z + (0 + 3)), .ref (z + (0 + 5)), .ref (z + (0 + 29)), .ref (z + (0 + 53)), .int (jI 0), .int (jI 0), .ref (z + (0 + 54)), .ref (z + (0 + 55)), .ref (z + (0 + 56)), .ref (z + (0 + 64)), .ref (z + (0 + 68)), .ref (z + (0 + 71)), .ref (z + (0 + 73))])) :: ((((((((((((((((((((seg E z (0 + 1) LyC M 2)) ++ seg E z (0 + 3) LyC M 2)) ++ seg E z (0 + 5) LyC M 24)) ++ seg E z (0 + 29) LyC M 24) ++ [(z + (0 + 53), .inl (eC E 3, 8, .inr (.inr (.inr (.inr (fun _ => none))))))]) ++ [(z + (0 + 54), .inl (eC E 3, 2, .inr (.inr (.inr (.inr (fun _ => none))))))]) ++ [(z + (0 + 55), .inl (eC E 2, 2, .inl (fun _ => jI 0)))])) ++ seg E z (0 + 56) LyC M 8)) ++ seg E z (0 + 64) LyC M 4)) ++ seg E z (0 + 68) LyC M 3)) ++ seg E z (0 + 71) LyC M 2) ++ [(z + (0 + 73), .inl (eC E 0, 7, .inl (fun _ => jI 0)))]))) := by
      have e0 : (fun _ => none : Nat → Option Nat) = pf 74 0 z := by funext k; simp [pf]
      have e1 : (fun _ => none : Nat → Option Nat) = pf 266 0 z := by funext k; simp [pf]
      rw [← e0, ← e1]
      simp only [List.append_assoc, List.cons_append, List.nil_append]
    rw [he]; exact hN
  have hL2 : ∀ r i : Nat, i + r = 2 → ∀ (H : Heap) (locs : List Loc) (ls : Array Slot), HN E z 0 (74 + 24 * (8 + i)) ((([(z + 0, .inr (10, [.ref (z + (0 + 1)), .ref (z + (0 + 3)), .ref (z + (0 + 5)), .ref (z + (0 + 29)), .ref (z + (0 + 53)), .int (jI 0), .int (jI 0), .ref (z + (0 + 54)), .ref (z + (0 + 55)), .ref (z + (0 + 56)), .ref (z + (0 + 64)), .ref (z + (0 + 68)), .ref (z + (0 + 71)), .ref (z + (0 + 73))]))] ++ ((((seg E z (0 + 1) LyC M 2 ++ seg E z (0 + 3) LyC M 2) ++ seg E z (0 + 5) LyC M 24) ++ seg E z (0 + 29) LyC M 24))) ++ [(z + (0 + 53), .inl (eC E 3, 8, .inr (.inr (.inr (.inr (pf 74 8 z))))))]) ++ (z + (0 + 54), .inl (eC E 3, 2, .inr (.inr (.inr (.inr (pf 266 i z)))))) :: (([(z + (0 + 55), .inl (eC E 2, 2, .inl (fun _ => jI 0)))] ++ seg E z (0 + 56) LyC M 8 ++ seg E z (0 + 64) LyC M 4 ++ seg E z (0 + 68) LyC M 3 ++ seg E z (0 + 71) LyC M 2 ++ [(z + (0 + 73), .inl (eC E 0, 7, .inl (fun _ => jI 0)))]) ++ seg E z (0 + 74) LyC M (24 * (8 + i)))) sM H locs → lv_has ls 2 [(1, .int (jI (i : Int))), (0, .ref (z + 0))] → W p l e ({ frames := 3, cells := 313, slots := 19179, locals := 140 } : Room) sM m [Value.ref (z + 0)].toArray below meth c H locs (73 + 24 * (8 + i)) (8759 + 1042 * (8 + i)) (MQ below (va_Qv (fun (_ : Unit) => True) (fun _ t => va_P (eD E) vwCl (seg E z 0 LyC M 314) t.heap ∧ t.heap.size = z + (0 + 314)) (fun q => z + 0 ≤ q)) [Value.ref (z + 0)].toArray sM 313 19179 (fun q => z + 0 ≤ q)) (F0 m 163 ls []) := by
    intro r
    induction r with
    | zero =>
      intro i hir H locs ls hN hl
      have hi8 : i = 2 := by omega
      subst hi8
      refine r_iload_n C dX10_init_163 rfl hl 0 rfl ?_
      refine r_iconst C dX10_init_164 ?_
      refine r_icmp_ge C 187 ⟨by decide, by decide⟩ ⟨by decide, by decide⟩ dX10_init_165 (by decide) (fun cq => ?_) (fun cq => absurd (by decide) cq)
      have hN := hn_cell hN (x' := .inl (eC E 3, 2, .inr (.inr (.inr (.inr (fun k => some (z + (266 + k * 24)))))))) (fun h => by
        have h : H[z + (0 + 54)]? = some (vp_cell _ _) := h
        show H[z + (0 + 54)]? = some (vp_cell _ _)
        rw [h, pf_cell])
      rw [List.append_assoc, List.append_assoc] at hN
      have hN := hn_cell (A := ([(z + 0, .inr (10, [.ref (z + (0 + 1)), .ref (z + (0 + 3)), .ref (z + (0 + 5)), .ref (z + (0 + 29)), .ref (z + (0 + 53)), .int (jI 0), .int (jI 0), .ref (z + (0 + 54)), .ref (z + (0 + 55)), .ref (z + (0 + 56)), .ref (z + (0 + 64)), .ref (z + (0 + 68)), .ref (z + (0 + 71)), .ref (z + (0 + 73))]))] ++ ((((seg E z (0 + 1) LyC M 2 ++ seg E z (0 + 3) LyC M 2) ++ seg E z (0 + 5) LyC M 24) ++ seg E z (0 + 29) LyC M 24)))) hN (x' := .inl (eC E 3, 8, .inr (.inr (.inr (.inr (fun k => some (z + (74 + k * 24)))))))) (fun h => by
        have h : H[z + (0 + 53)]? = some (vp_cell _ _) := h
        show H[z + (0 + 53)]? = some (vp_cell _ _)
        rw [h, pf_cell])
      refine r_endN C hN ?_ hr hlk dX10_init_187 (Nat.le_of_ble_eq_true rfl) (Nat.le_of_ble_eq_true rfl)
      have hs : seg E z 0 LyC M 314 = ((((((((((((seg E z 0 LyC M 1 ++ seg E z (0 + 1) LyC M 2) ++ seg E z (0 + 3) LyC M 2) ++ seg E z (0 + 5) LyC M 24) ++ seg E z (0 + 29) LyC M 24) ++ seg E z (0 + 53) LyC M 1) ++ seg E z (0 + 54) LyC M 1) ++ seg E z (0 + 55) LyC M 1) ++ seg E z (0 + 56) LyC M 8) ++ seg E z (0 + 64) LyC M 4) ++ seg E z (0 + 68) LyC M 3) ++ seg E z (0 + 71) LyC M 2) ++ seg E z (0 + 73) LyC M 1) ++ seg E z (0 + 74) LyC M (24 * (8 + 2)) := by simp only [seg_app]
      have g0 : seg E z 0 LyC M 1 = [(z + 0, .inr (10, [.ref (z + (0 + 1)), .ref (z + (0 + 3)), .ref (z + (0 + 5)), .ref (z + (0 + 29)), .ref (z + (0 + 53)), .int (jI 0), .int (jI 0), .ref (z + (0 + 54)), .ref (z + (0 + 55)), .ref (z + (0 + 56)), .ref (z + (0 + 64)), .ref (z + (0 + 68)), .ref (z + (0 + 71)), .ref (z + (0 + 73))]))] := by
        show [(z + (0 + 0), cellOf (eC E) z (0 + 0) (LyC.2 (0 + 0)) (M (0 + 0)))] = _
        rw [show LyC.2 (0 + 0) = (10, 0) from by decide +kernel, hM 0 (by decide)]; rfl
      have g53 : seg E z (0 + 53) LyC M 1 = [(z + (0 + 53), .inl (eC E 3, 8, .inr (.inr (.inr (.inr (fun k => some (z + (74 + k * 24))))))))] := by
        show [(z + (0 + 53 + 0), cellOf (eC E) z (0 + 53 + 0) (LyC.2 (0 + 53 + 0)) (M (0 + 53 + 0)))] = _
        rw [show LyC.2 (0 + 53 + 0) = (23, 8) from by decide +kernel]; rfl
      have g54 : seg E z (0 + 54) LyC M 1 = [(z + (0 + 54), .inl (eC E 3, 2, .inr (.inr (.inr (.inr (fun k => some (z + (266 + k * 24))))))))] := by
        show [(z + (0 + 54 + 0), cellOf (eC E) z (0 + 54 + 0) (LyC.2 (0 + 54 + 0)) (M (0 + 54 + 0)))] = _
        rw [show LyC.2 (0 + 54 + 0) = (24, 2) from by decide +kernel]; rfl
      have g55 : seg E z (0 + 55) LyC M 1 = [(z + (0 + 55), .inl (eC E 2, 2, .inl (fun _ => jI 0)))] := by
        show [(z + (0 + 55 + 0), cellOf (eC E) z (0 + 55 + 0) (LyC.2 (0 + 55 + 0)) (M (0 + 55 + 0)))] = _
        rw [show LyC.2 (0 + 55 + 0) = (22, 2) from by decide +kernel, show M (0 + 55 + 0) = im_C 55 from hM 55 (by decide)]; rfl
      have g73 : seg E z (0 + 73) LyC M 1 = [(z + (0 + 73), .inl (eC E 0, 7, .inl (fun _ => jI 0)))] := by
        show [(z + (0 + 73 + 0), cellOf (eC E) z (0 + 73 + 0) (LyC.2 (0 + 73 + 0)) (M (0 + 73 + 0)))] = _
        rw [show LyC.2 (0 + 73 + 0) = (20, 7) from by decide +kernel, show M (0 + 73 + 0) = im_C 73 from hM 73 (by decide)]; rfl
      rw [hs, g0, g53, g54, g55, g73]
      simp only [List.append_assoc, List.cons_append, List.nil_append]
      rfl
    | succ r ih =>
      intro i hir H locs ls hN hl
      have hiR : inR (i : Int) := ⟨by omega, by omega⟩
      refine r_iload_n C dX10_init_163 rfl hl 0 rfl ?_
      refine r_iconst C dX10_init_164 ?_
      refine r_icmp_ge C 187 hiR ⟨by decide, by decide⟩ dX10_init_165 (by decide) (fun cq => absurd cq (by omega)) (fun cq => ?_)
      refine r_aload_n C dX10_init_168 rfl hl 1 rfl ?_
      refine r_getN C hN jc10 7 (v := .ref (z + (0 + 54))) dX10_init_169 lk_X10_44 rfl rfl (by decide) rfl ?_
      refine r_iload_n C dX10_init_172 rfl hl 0 rfl ?_
      refine r_mkN (nK := 24) C hN jc7 (fs := [.null, .null, .null]) (fun j hj => ?_) (cn_X7_init l E z (0 + (74 + 24 * (8 + i))) LyC M (hl_CS (8 + i) (by omega)) (hm_CS hM (8 + i) (by omega))) yi_X7_init xl_X10_23 xi_X7 xn_X7 hX (Or.inr (List.mem_of_getElem? (i := 2) rfl)) dX10_init_173 dX10_init_176 dX10_init_177 hl.1 (Nat.le_of_ble_eq_true rfl) ⟨Nat.le_of_ble_eq_true rfl, Nat.le_of_ble_eq_true rfl⟩ ⟨by show 73 + 24 * (8 + i) + 1 + 23 ≤ 313; omega, by show 8759 + 1042 * (8 + i) + 3 + 1039 ≤ 19179; omega⟩ (fun H locs hN => ?_)
      · have hq : j = 0 ∨ j = 1 ∨ j = 2 := by omega
        rcases hq with rfl | rfl | rfl <;> rfl
      have hsg : seg E z (0 + (74 + 24 * (8 + i))) LyC M 24 = (z + (0 + (74 + 24 * (8 + i))), .inr (7, [.ref (z + (0 + (74 + 24 * (8 + i)) + 1)), .ref (z + (0 + (74 + 24 * (8 + i)) + 11)), .ref (z + (0 + (74 + 24 * (8 + i)) + 17))])) :: seg E z (0 + (74 + 24 * (8 + i)) + 1) LyC M 23 := by
        rw [show (24 : Nat) = 1 + 23 by rfl, ← seg_app]
        show [(z + (0 + (74 + (1 + 23) * (8 + i)) + 0), cellOf (eC E) z (0 + (74 + (1 + 23) * (8 + i)) + 0) (LyC.2 (0 + (74 + (1 + 23) * (8 + i)) + 0)) _)] ++ _ = _
        rw [hl_CS (8 + i) (by omega) 0 (by decide)]
        rfl
      rw [hsg] at hN
      have hN : HN E z 0 (74 + 24 * (8 + i) + 24) ((([(z + 0, .inr (10, [.ref (z + (0 + 1)), .ref (z + (0 + 3)), .ref (z + (0 + 5)), .ref (z + (0 + 29)), .ref (z + (0 + 53)), .int (jI 0), .int (jI 0), .ref (z + (0 + 54)), .ref (z + (0 + 55)), .ref (z + (0 + 56)), .ref (z + (0 + 64)), .ref (z + (0 + 68)), .ref (z + (0 + 71)), .ref (z + (0 + 73))]))] ++ ((((seg E z (0 + 1) LyC M 2 ++ seg E z (0 + 3) LyC M 2) ++ seg E z (0 + 5) LyC M 24) ++ seg E z (0 + 29) LyC M 24))) ++ [(z + (0 + 53), .inl (eC E 3, 8, .inr (.inr (.inr (.inr (pf 74 8 z))))))]) ++ (z + (0 + 54), .inl (eC E 3, 2, .inr (.inr (.inr (.inr (pf 266 (Int.toNat (i : Int)) z)))))) :: ((([(z + (0 + 55), .inl (eC E 2, 2, .inl (fun _ => jI 0)))] ++ seg E z (0 + 56) LyC M 8 ++ seg E z (0 + 64) LyC M 4 ++ seg E z (0 + 68) LyC M 3 ++ seg E z (0 + 71) LyC M 2 ++ [(z + (0 + 73), .inl (eC E 0, 7, .inl (fun _ => jI 0)))]) ++ seg E z (0 + 74) LyC M (24 * (8 + i))) ++ (z + (0 + (74 + 24 * (8 + i))), .inr (7, [.ref (z + (0 + (74 + 24 * (8 + i)) + 1)), .ref (z + (0 + (74 + 24 * (8 + i)) + 11)), .ref (z + (0 + (74 + 24 * (8 + i)) + 17))])) :: seg E z (0 + (74 + 24 * (8 + i)) + 1) LyC M 23)) sM H locs := by
        rw [Int.toNat_natCast]
        simpa only [List.append_assoc, List.cons_append] using hN
      refine r_astN C (A := (([(z + 0, .inr (10, [.ref (z + (0 + 1)), .ref (z + (0 + 3)), .ref (z + (0 + 5)), .ref (z + (0 + 29)), .ref (z + (0 + 53)), .int (jI 0), .int (jI 0), .ref (z + (0 + 54)), .ref (z + (0 + 55)), .ref (z + (0 + 56)), .ref (z + (0 + 64)), .ref (z + (0 + 68)), .ref (z + (0 + 71)), .ref (z + (0 + 73))]))] ++ ((((seg E z (0 + 1) LyC M 2 ++ seg E z (0 + 3) LyC M 2) ++ seg E z (0 + 5) LyC M 24) ++ seg E z (0 + 29) LyC M 24))) ++ [(z + (0 + 53), .inl (eC E 3, 8, .inr (.inr (.inr (.inr (pf 74 8 z))))))])) (by simp [seg_len]) hN hiR ⟨by omega, by omega⟩ (by rw [Int.toNat_natCast]; omega) dX10_init_180 (fun H locs hN => ?_)
      refine r_iinc (j := 0) (x := (i : Int)) C [(1, .int (jI ((i + 1 : Nat) : Int))), (0, .ref (z + 0))] dX10_init_181 hl rfl (by decide) (by rw [Int.natCast_add]; rfl) (fun ls hl => ?_)
      refine r_goto C 163 dX10_init_184 (by decide) ?_
      have hc := ih (i + 1) (by omega) H locs ls ?_ hl
      · exact hc
      · rw [← hsg, Int.toNat_natCast] at hN
        rw [show 24 * ((8 + (i + 1))) = 24 * (8 + i) + 24 by omega, ← seg_app]
        simpa only [List.append_assoc, List.cons_append, Nat.add_assoc] using hN
  have hL1 : ∀ r i : Nat, i + r = 8 → ∀ (H : Heap) (locs : List Loc) (ls : Array Slot), HN E z 0 (74 + 24 * i) (([(z + 0, .inr (10, [.ref (z + (0 + 1)), .ref (z + (0 + 3)), .ref (z + (0 + 5)), .ref (z + (0 + 29)), .ref (z + (0 + 53)), .int (jI 0), .int (jI 0), .ref (z + (0 + 54)), .ref (z + (0 + 55)), .ref (z + (0 + 56)), .ref (z + (0 + 64)), .ref (z + (0 + 68)), .ref (z + (0 + 71)), .ref (z + (0 + 73))]))] ++ ((((seg E z (0 + 1) LyC M 2 ++ seg E z (0 + 3) LyC M 2) ++ seg E z (0 + 5) LyC M 24) ++ seg E z (0 + 29) LyC M 24))) ++ (z + (0 + 53), .inl (eC E 3, 8, .inr (.inr (.inr (.inr (pf 74 i z)))))) :: (([(z + (0 + 54), .inl (eC E 3, 2, .inr (.inr (.inr (.inr (pf 266 0 z))))))] ++ ([(z + (0 + 55), .inl (eC E 2, 2, .inl (fun _ => jI 0)))] ++ seg E z (0 + 56) LyC M 8 ++ seg E z (0 + 64) LyC M 4 ++ seg E z (0 + 68) LyC M 3 ++ seg E z (0 + 71) LyC M 2 ++ [(z + (0 + 73), .inl (eC E 0, 7, .inl (fun _ => jI 0)))])) ++ seg E z (0 + 74) LyC M (24 * i))) sM H locs → lv_has ls 2 [(1, .int (jI (i : Int))), (0, .ref (z + 0))] → W p l e ({ frames := 3, cells := 313, slots := 19179, locals := 140 } : Room) sM m [Value.ref (z + 0)].toArray below meth c H locs (73 + 24 * i) (8759 + 1042 * i) (MQ below (va_Qv (fun (_ : Unit) => True) (fun _ t => va_P (eD E) vwCl (seg E z 0 LyC M 314) t.heap ∧ t.heap.size = z + (0 + 314)) (fun q => z + 0 ≤ q)) [Value.ref (z + 0)].toArray sM 313 19179 (fun q => z + 0 ≤ q)) (F0 m 136 ls []) := by
    intro r
    induction r with
    | zero =>
      intro i hir H locs ls hN hl
      have hi8 : i = 8 := by omega
      subst hi8
      refine r_iload_n C dX10_init_136 rfl hl 0 rfl ?_
      refine r_bipush C dX10_init_137 rfl ?_
      refine r_icmp_ge C 161 ⟨by decide, by decide⟩ ⟨by decide, by decide⟩ dX10_init_139 (by decide) (fun cq => ?_) (fun cq => absurd (by decide) cq)
      refine r_iconst C dX10_init_161 ?_
      refine r_istore_n C [(1, .int (jI ((0 : Nat) : Int))), (0, .ref (z + 0))] dX10_init_162 rfl hl (by decide) rfl (fun ls hl => ?_)
      refine hL2 2 0 rfl H locs ls ?_ hl
      simpa only [List.append_assoc, List.cons_append, List.nil_append] using hN
    | succ r ih =>
      intro i hir H locs ls hN hl
      have hiR : inR (i : Int) := ⟨by omega, by omega⟩
      refine r_iload_n C dX10_init_136 rfl hl 0 rfl ?_
      refine r_bipush C dX10_init_137 rfl ?_
      refine r_icmp_ge C 161 hiR ⟨by decide, by decide⟩ dX10_init_139 (by decide) (fun cq => absurd cq (by omega)) (fun cq => ?_)
      refine r_aload_n C dX10_init_142 rfl hl 1 rfl ?_
      refine r_getN C hN jc10 4 (v := .ref (z + (0 + 53))) dX10_init_143 lk_X10_33 rfl rfl (by decide) rfl ?_
      refine r_iload_n C dX10_init_146 rfl hl 0 rfl ?_
      refine r_mkN (nK := 24) C hN jc7 (fs := [.null, .null, .null]) (fun j hj => ?_) (cn_X7_init l E z (0 + (74 + 24 * i)) LyC M (hl_CS i (by omega)) (hm_CS hM i (by omega))) yi_X7_init xl_X10_23 xi_X7 xn_X7 hX (Or.inr (List.mem_of_getElem? (i := 2) rfl)) dX10_init_147 dX10_init_150 dX10_init_151 hl.1 (Nat.le_of_ble_eq_true rfl) ⟨Nat.le_of_ble_eq_true rfl, Nat.le_of_ble_eq_true rfl⟩ ⟨by show 73 + 24 * i + 1 + 23 ≤ 313; omega, by show 8759 + 1042 * i + 3 + 1039 ≤ 19179; omega⟩ (fun H locs hN => ?_)
      · have hq : j = 0 ∨ j = 1 ∨ j = 2 := by omega
        rcases hq with rfl | rfl | rfl <;> rfl
      have hsg : seg E z (0 + (74 + 24 * i)) LyC M 24 = (z + (0 + (74 + 24 * i)), .inr (7, [.ref (z + (0 + (74 + 24 * i) + 1)), .ref (z + (0 + (74 + 24 * i) + 11)), .ref (z + (0 + (74 + 24 * i) + 17))])) :: seg E z (0 + (74 + 24 * i) + 1) LyC M 23 := by
        rw [show (24 : Nat) = 1 + 23 by rfl, ← seg_app]
        show [(z + (0 + (74 + (1 + 23) * i) + 0), cellOf (eC E) z (0 + (74 + (1 + 23) * i) + 0) (LyC.2 (0 + (74 + (1 + 23) * i) + 0)) _)] ++ _ = _
        rw [hl_CS i (by omega) 0 (by decide)]
        rfl
      rw [hsg] at hN
      have hN : HN E z 0 (74 + 24 * i + 24) (([(z + 0, .inr (10, [.ref (z + (0 + 1)), .ref (z + (0 + 3)), .ref (z + (0 + 5)), .ref (z + (0 + 29)), .ref (z + (0 + 53)), .int (jI 0), .int (jI 0), .ref (z + (0 + 54)), .ref (z + (0 + 55)), .ref (z + (0 + 56)), .ref (z + (0 + 64)), .ref (z + (0 + 68)), .ref (z + (0 + 71)), .ref (z + (0 + 73))]))] ++ ((((seg E z (0 + 1) LyC M 2 ++ seg E z (0 + 3) LyC M 2) ++ seg E z (0 + 5) LyC M 24) ++ seg E z (0 + 29) LyC M 24))) ++ (z + (0 + 53), .inl (eC E 3, 8, .inr (.inr (.inr (.inr (pf 74 (Int.toNat (i : Int)) z)))))) :: ((([(z + (0 + 54), .inl (eC E 3, 2, .inr (.inr (.inr (.inr (pf 266 0 z))))))] ++ ([(z + (0 + 55), .inl (eC E 2, 2, .inl (fun _ => jI 0)))] ++ seg E z (0 + 56) LyC M 8 ++ seg E z (0 + 64) LyC M 4 ++ seg E z (0 + 68) LyC M 3 ++ seg E z (0 + 71) LyC M 2 ++ [(z + (0 + 73), .inl (eC E 0, 7, .inl (fun _ => jI 0)))])) ++ seg E z (0 + 74) LyC M (24 * i)) ++ (z + (0 + (74 + 24 * i)), .inr (7, [.ref (z + (0 + (74 + 24 * i) + 1)), .ref (z + (0 + (74 + 24 * i) + 11)), .ref (z + (0 + (74 + 24 * i) + 17))])) :: seg E z (0 + (74 + 24 * i) + 1) LyC M 23)) sM H locs := by
        rw [Int.toNat_natCast]
        simpa only [List.append_assoc, List.cons_append] using hN
      refine r_astN C (A := ([(z + 0, .inr (10, [.ref (z + (0 + 1)), .ref (z + (0 + 3)), .ref (z + (0 + 5)), .ref (z + (0 + 29)), .ref (z + (0 + 53)), .int (jI 0), .int (jI 0), .ref (z + (0 + 54)), .ref (z + (0 + 55)), .ref (z + (0 + 56)), .ref (z + (0 + 64)), .ref (z + (0 + 68)), .ref (z + (0 + 71)), .ref (z + (0 + 73))]))] ++ ((((seg E z (0 + 1) LyC M 2 ++ seg E z (0 + 3) LyC M 2) ++ seg E z (0 + 5) LyC M 24) ++ seg E z (0 + 29) LyC M 24)))) (by simp [seg_len]) hN hiR ⟨by omega, by omega⟩ (by rw [Int.toNat_natCast]; omega) dX10_init_154 (fun H locs hN => ?_)
      refine r_iinc (j := 0) (x := (i : Int)) C [(1, .int (jI ((i + 1 : Nat) : Int))), (0, .ref (z + 0))] dX10_init_155 hl rfl (by decide) (by rw [Int.natCast_add]; rfl) (fun ls hl => ?_)
      refine r_goto C 136 dX10_init_158 (by decide) ?_
      have hc := ih (i + 1) (by omega) H locs ls ?_ hl
      · exact hc
      · rw [← hsg, Int.toNat_natCast] at hN
        rw [show 24 * ((i + 1)) = 24 * i + 24 by omega, ← seg_app]
        simpa only [List.append_assoc, List.cons_append, Nat.add_assoc] using hN
  refine r_iconst C dX10_init_134 ?_
  refine r_istore_n C [(1, .int (jI ((0 : Nat) : Int))), (0, .ref (z + 0))] dX10_init_135 rfl hl (by decide) rfl (fun ls hl => ?_)
  refine hL1 8 0 rfl H locs ls ?_ hl
  simpa only [List.append_assoc, List.cons_append, List.nil_append, seg, Nat.mul_zero, List.range_zero, List.map_nil, List.append_nil] using hN
