theorem yi_X0_init : jYI yX0_init cX0_init 1 := ⟨gmem 492 (by decide +kernel) (by decide +kernel), rfl, gmem 144 (by decide +kernel) (by decide +kernel), gmem 493 (by decide +kernel) (by decide +kernel), ⟨by decide, by decide, by decide +kernel⟩⟩
theorem xi_X0 : Cond.instantiable RX0 4 ∈ lwG := gmem 490 (by decide +kernel) (by decide +kernel)
theorem xn_X0 : Cond.initialized RX0 ∈ lwG := gmem 144 (by decide +kernel) (by decide +kernel)
theorem yi_X1_init : jYI yX1_init cX1_init 1 := ⟨gmem 473 (by decide +kernel) (by decide +kernel), rfl, gmem 143 (by decide +kernel) (by decide +kernel), gmem 474 (by decide +kernel) (by decide +kernel), ⟨by decide, by decide, by decide +kernel⟩⟩
theorem xi_X1 : Cond.instantiable RX1 3 ∈ lwG := gmem 471 (by decide +kernel) (by decide +kernel)
theorem xn_X1 : Cond.initialized RX1 ∈ lwG := gmem 143 (by decide +kernel) (by decide +kernel)
theorem yi_X2_init : jYI yX2_init cX2_init 1 := ⟨gmem 337 (by decide +kernel) (by decide +kernel), rfl, gmem 140 (by decide +kernel) (by decide +kernel), gmem 338 (by decide +kernel) (by decide +kernel), ⟨by decide, by decide, by decide +kernel⟩⟩
theorem xi_X2 : Cond.instantiable RX2 7 ∈ lwG := gmem 335 (by decide +kernel) (by decide +kernel)
theorem xn_X2 : Cond.initialized RX2 ∈ lwG := gmem 140 (by decide +kernel) (by decide +kernel)
theorem yi_X3_init : jYI yX3_init cX3_init 1 := ⟨gmem 236 (by decide +kernel) (by decide +kernel), rfl, gmem 137 (by decide +kernel) (by decide +kernel), gmem 237 (by decide +kernel) (by decide +kernel), ⟨by decide, by decide, by decide +kernel⟩⟩
theorem xi_X3 : Cond.instantiable RX3 12 ∈ lwG := gmem 234 (by decide +kernel) (by decide +kernel)
theorem xn_X3 : Cond.initialized RX3 ∈ lwG := gmem 137 (by decide +kernel) (by decide +kernel)
theorem yi_X4_init : jYI yX4_init cX4_init 1 := ⟨gmem 216 (by decide +kernel) (by decide +kernel), rfl, gmem 135 (by decide +kernel) (by decide +kernel), gmem 217 (by decide +kernel) (by decide +kernel), ⟨by decide, by decide, by decide +kernel⟩⟩
theorem xi_X4 : Cond.instantiable RX4 2 ∈ lwG := gmem 214 (by decide +kernel) (by decide +kernel)
theorem xn_X4 : Cond.initialized RX4 ∈ lwG := gmem 135 (by decide +kernel) (by decide +kernel)
theorem yi_X5_init : jYI yX5_init cX5_init 1 := ⟨gmem 392 (by decide +kernel) (by decide +kernel), rfl, gmem 141 (by decide +kernel) (by decide +kernel), gmem 393 (by decide +kernel) (by decide +kernel), ⟨by decide, by decide, by decide +kernel⟩⟩
theorem xi_X5 : Cond.instantiable RX5 10 ∈ lwG := gmem 390 (by decide +kernel) (by decide +kernel)
theorem xn_X5 : Cond.initialized RX5 ∈ lwG := gmem 141 (by decide +kernel) (by decide +kernel)
theorem yi_X6_init : jYI yX6_init cX6_init 1 := ⟨gmem 442 (by decide +kernel) (by decide +kernel), rfl, gmem 142 (by decide +kernel) (by decide +kernel), gmem 443 (by decide +kernel) (by decide +kernel), ⟨by decide, by decide, by decide +kernel⟩⟩
theorem xi_X6 : Cond.instantiable RX6 5 ∈ lwG := gmem 440 (by decide +kernel) (by decide +kernel)
theorem xn_X6 : Cond.initialized RX6 ∈ lwG := gmem 142 (by decide +kernel) (by decide +kernel)
theorem yi_X7_init : jYI yX7_init cX7_init 1 := ⟨gmem 230 (by decide +kernel) (by decide +kernel), rfl, gmem 136 (by decide +kernel) (by decide +kernel), gmem 231 (by decide +kernel) (by decide +kernel), ⟨by decide, by decide, by decide +kernel⟩⟩
theorem xi_X7 : Cond.instantiable RX7 3 ∈ lwG := gmem 228 (by decide +kernel) (by decide +kernel)
theorem xn_X7 : Cond.initialized RX7 ∈ lwG := gmem 136 (by decide +kernel) (by decide +kernel)
theorem xl_X7_7 : Cond.classLink RX7 7 RX3 ∈ lwG := gmem 233 (by decide +kernel) (by decide +kernel)
theorem xl_X7_16 : Cond.classLink RX7 16 RX9 ∈ lwG := gmem 292 (by decide +kernel) (by decide +kernel)
theorem xl_X7_23 : Cond.classLink RX7 23 RX2 ∈ lwG := gmem 334 (by decide +kernel) (by decide +kernel)
theorem yi_X8_init : jYI yX8_init cX8_init 1 := ⟨gmem 169 (by decide +kernel) (by decide +kernel), rfl, gmem 134 (by decide +kernel) (by decide +kernel), gmem 170 (by decide +kernel) (by decide +kernel), ⟨by decide, by decide, by decide +kernel⟩⟩
theorem xi_X8 : Cond.instantiable RX8 9 ∈ lwG := gmem 167 (by decide +kernel) (by decide +kernel)
theorem xn_X8 : Cond.initialized RX8 ∈ lwG := gmem 134 (by decide +kernel) (by decide +kernel)
theorem yi_X9_init : jYI yX9_init cX9_init 1 := ⟨gmem 295 (by decide +kernel) (by decide +kernel), rfl, gmem 139 (by decide +kernel) (by decide +kernel), gmem 296 (by decide +kernel) (by decide +kernel), ⟨by decide, by decide, by decide +kernel⟩⟩
theorem xi_X9 : Cond.instantiable RX9 7 ∈ lwG := gmem 293 (by decide +kernel) (by decide +kernel)
theorem xn_X9 : Cond.initialized RX9 ∈ lwG := gmem 139 (by decide +kernel) (by decide +kernel)
theorem yi_X10_init : jYI yX10_init cX10_init 2 := ⟨gmem 161 (by decide +kernel) (by decide +kernel), rfl, gmem 133 (by decide +kernel) (by decide +kernel), gmem 162 (by decide +kernel) (by decide +kernel), ⟨by decide, by decide, by decide +kernel⟩⟩
theorem xi_X10 : Cond.instantiable RX10 14 ∈ lwG := gmem 159 (by decide +kernel) (by decide +kernel)
theorem xn_X10 : Cond.initialized RX10 ∈ lwG := gmem 133 (by decide +kernel) (by decide +kernel)
theorem xl_X10_9 : Cond.classLink RX10 9 RX8 ∈ lwG := gmem 166 (by decide +kernel) (by decide +kernel)
theorem xl_X10_16 : Cond.classLink RX10 16 RX4 ∈ lwG := gmem 213 (by decide +kernel) (by decide +kernel)
theorem xl_X10_23 : Cond.classLink RX10 23 RX7 ∈ lwG := gmem 227 (by decide +kernel) (by decide +kernel)
theorem xl_X10_51 : Cond.classLink RX10 51 RX5 ∈ lwG := gmem 389 (by decide +kernel) (by decide +kernel)
theorem xl_X10_58 : Cond.classLink RX10 58 RX6 ∈ lwG := gmem 439 (by decide +kernel) (by decide +kernel)
theorem xl_X10_65 : Cond.classLink RX10 65 RX1 ∈ lwG := gmem 470 (by decide +kernel) (by decide +kernel)
theorem xl_X10_72 : Cond.classLink RX10 72 RX0 ∈ lwG := gmem 489 (by decide +kernel) (by decide +kernel)
theorem yi_X11_init : jYI yX11_init cX11_init 1 := ⟨gmem 1451 (by decide +kernel) (by decide +kernel), rfl, gmem 145 (by decide +kernel) (by decide +kernel), gmem 1452 (by decide +kernel) (by decide +kernel), ⟨by decide, by decide, by decide +kernel⟩⟩
theorem xi_X11 : Cond.instantiable RX11 52 ∈ lwG := gmem 1449 (by decide +kernel) (by decide +kernel)
theorem xn_X11 : Cond.initialized RX11 ∈ lwG := gmem 145 (by decide +kernel) (by decide +kernel)
theorem gw_aO : Cond.arrayOver (.object "NewsReel$State") ∈ lw_tbl := List.mem_of_getElem? (i := 388) (by decide +kernel)
def ll_X8_init : List (Nat × Nat) := [(8, 0), (21, 500)]
set_option maxRecDepth 100000 in
set_option maxHeartbeats 8000000 in
theorem cn_X8_init (l : Launch) (E : jE) (z a : Nat) (Ly : jLy) (M : Mem) (hLy : ∀ j, j < 2 → Ly.2 (a + j) = ll_X8_init.getD j (99, 0)) (hM : ∀ j, j < 2 → M (a + j) = im_X8_init j) : CtN l yX8_init cX8_init 1 { frames := 1, cells := 1, slots := 500, locals := 100 } E z a 2 Ly M (.inr (8, [.null, .int 0, .int 0, .int 0, .int 0, .int 0, .int 0, .int 0, .int 0])) := by
  refine jmN (by decide +kernel) (Nat.le_of_ble_eq_true rfl) ?_
  intro p e sM m below meth c C hN hX hr hlk hin ls hl
  replace hl : lv_has ls 1 [(0, .ref (z + a))] := hl
  refine r_aload_n C dX8_init_0 rfl hl 0 rfl ?_
  refine r_objInit C lk_X8_3 hl.1 dX8_init_1 (Nat.le_of_ble_eq_true rfl) (Nat.le_of_ble_eq_true rfl) ?_
  refine r_aload_n C dX8_init_4 rfl hl 0 rfl ?_
  refine r_sipush C dX8_init_5 rfl ?_
  refine r_newaN (t := 1) (atype := .byte) (N := 500) C hN gw_aB (Or.inr (Or.inl ⟨rfl, rfl⟩)) ⟨by decide, by decide⟩ (by decide) rfl (by decide) (Nat.le_of_ble_eq_true rfl) (Nat.le_of_ble_eq_true rfl) dX8_init_8 (fun H hN => ?_)
  replace hN : HN E z a 2 [(z + a, .inr (8, [.null, .int 0, .int 0, .int 0, .int 0, .int 0, .int 0, .int 0, .int 0])), (z + (a + 1), .inl (eC E 1, 500, .inl (fun _ => jI 0)))] sM H _ := hN
  refine r_putFN C hN jc8 0 hin rfl dX8_init_10 lk_X8_9 (by decide) rfl rfl rfl rfl rfl (Nat.le_of_ble_eq_true rfl) (fun H locs hN => ?_)
  replace hN : HN E z a 2 [(z + a, .inr (8, [.ref (z + (a + 1)), .int 0, .int 0, .int 0, .int 0, .int 0, .int 0, .int 0, .int 0])), (z + (a + 1), .inl (eC E 1, 500, .inl (fun _ => jI 0)))] sM H locs := hN
  refine r_aload_n C dX8_init_13 rfl hl 0 rfl ?_
  refine r_iconst C dX8_init_14 ?_
  refine r_putN C hN jc8 1 dX8_init_15 lk_X8_15 (by decide) rfl rfl rfl rfl rfl (Nat.le_of_ble_eq_true rfl) (fun H locs hN => ?_)
  replace hN : HN E z a 2 [(z + a, .inr (8, [.ref (z + (a + 1)), .int (jI 0), .int 0, .int 0, .int 0, .int 0, .int 0, .int 0, .int 0])), (z + (a + 1), .inl (eC E 1, 500, .inl (fun _ => jI 0)))] sM H locs := hN
  refine r_aload_n C dX8_init_18 rfl hl 0 rfl ?_
  refine r_iconst C dX8_init_19 ?_
  refine r_putN C hN jc8 2 dX8_init_20 lk_X8_19 (by decide) rfl rfl rfl rfl rfl (Nat.le_of_ble_eq_true rfl) (fun H locs hN => ?_)
  replace hN : HN E z a 2 [(z + a, .inr (8, [.ref (z + (a + 1)), .int (jI 0), .int (jI 0), .int 0, .int 0, .int 0, .int 0, .int 0, .int 0])), (z + (a + 1), .inl (eC E 1, 500, .inl (fun _ => jI 0)))] sM H locs := hN
  refine r_aload_n C dX8_init_23 rfl hl 0 rfl ?_
  refine r_iconst C dX8_init_24 ?_
  refine r_putN C hN jc8 3 dX8_init_25 lk_X8_22 (by decide) rfl rfl rfl rfl rfl (Nat.le_of_ble_eq_true rfl) (fun H locs hN => ?_)
  replace hN : HN E z a 2 [(z + a, .inr (8, [.ref (z + (a + 1)), .int (jI 0), .int (jI 0), .int (jI 0), .int 0, .int 0, .int 0, .int 0, .int 0])), (z + (a + 1), .inl (eC E 1, 500, .inl (fun _ => jI 0)))] sM H locs := hN
  refine r_aload_n C dX8_init_28 rfl hl 0 rfl ?_
  refine r_iconst C dX8_init_29 ?_
  refine r_putN C hN jc8 4 dX8_init_30 lk_X8_25 (by decide) rfl rfl rfl rfl rfl (Nat.le_of_ble_eq_true rfl) (fun H locs hN => ?_)
  replace hN : HN E z a 2 [(z + a, .inr (8, [.ref (z + (a + 1)), .int (jI 0), .int (jI 0), .int (jI 0), .int (jI 0), .int 0, .int 0, .int 0, .int 0])), (z + (a + 1), .inl (eC E 1, 500, .inl (fun _ => jI 0)))] sM H locs := hN
  refine r_aload_n C dX8_init_33 rfl hl 0 rfl ?_
  refine r_iconst C dX8_init_34 ?_
  refine r_putN C hN jc8 5 dX8_init_35 lk_X8_28 (by decide) rfl rfl rfl rfl rfl (Nat.le_of_ble_eq_true rfl) (fun H locs hN => ?_)
  replace hN : HN E z a 2 [(z + a, .inr (8, [.ref (z + (a + 1)), .int (jI 0), .int (jI 0), .int (jI 0), .int (jI 0), .int (jI 0), .int 0, .int 0, .int 0])), (z + (a + 1), .inl (eC E 1, 500, .inl (fun _ => jI 0)))] sM H locs := hN
  refine r_aload_n C dX8_init_38 rfl hl 0 rfl ?_
  refine r_iconst C dX8_init_39 ?_
  refine r_putN C hN jc8 6 dX8_init_40 lk_X8_31 (by decide) rfl rfl rfl rfl rfl (Nat.le_of_ble_eq_true rfl) (fun H locs hN => ?_)
  replace hN : HN E z a 2 [(z + a, .inr (8, [.ref (z + (a + 1)), .int (jI 0), .int (jI 0), .int (jI 0), .int (jI 0), .int (jI 0), .int (jI 0), .int 0, .int 0])), (z + (a + 1), .inl (eC E 1, 500, .inl (fun _ => jI 0)))] sM H locs := hN
  refine r_aload_n C dX8_init_43 rfl hl 0 rfl ?_
  refine r_iconst C dX8_init_44 ?_
  refine r_putN C hN jc8 7 dX8_init_45 lk_X8_34 (by decide) rfl rfl rfl rfl rfl (Nat.le_of_ble_eq_true rfl) (fun H locs hN => ?_)
  replace hN : HN E z a 2 [(z + a, .inr (8, [.ref (z + (a + 1)), .int (jI 0), .int (jI 0), .int (jI 0), .int (jI 0), .int (jI 0), .int (jI 0), .int (jI 0), .int 0])), (z + (a + 1), .inl (eC E 1, 500, .inl (fun _ => jI 0)))] sM H locs := hN
  refine r_aload_n C dX8_init_48 rfl hl 0 rfl ?_
  refine r_iconst C dX8_init_49 ?_
  refine r_putN C hN jc8 8 dX8_init_50 lk_X8_37 (by decide) rfl rfl rfl rfl rfl (Nat.le_of_ble_eq_true rfl) (fun H locs hN => ?_)
  replace hN : HN E z a 2 [(z + a, .inr (8, [.ref (z + (a + 1)), .int (jI 0), .int (jI 0), .int (jI 0), .int (jI 0), .int (jI 0), .int (jI 0), .int (jI 0), .int (jI (-1))])), (z + (a + 1), .inl (eC E 1, 500, .inl (fun _ => jI 0)))] sM H locs := hN
  refine r_endN C hN ?_ hr hlk dX8_init_53 (Nat.le_of_ble_eq_true rfl) (Nat.le_of_ble_eq_true rfl)
  unfold seg
  show _ = [(z + (a + 0), cellOf (eC E) z (a + 0) (Ly.2 (a + 0)) (M (a + 0))), (z + (a + 1), cellOf (eC E) z (a + 1) (Ly.2 (a + 1)) (M (a + 1)))]
  rw [hLy 0 (by decide), hM 0 (by decide), hLy 1 (by decide), hM 1 (by decide)]
  rfl
def ll_X4_init : List (Nat × Nat) := [(4, 0), (21, 1000)]
set_option maxRecDepth 100000 in
set_option maxHeartbeats 8000000 in
theorem cn_X4_init (l : Launch) (E : jE) (z a : Nat) (Ly : jLy) (M : Mem) (hLy : ∀ j, j < 2 → Ly.2 (a + j) = ll_X4_init.getD j (99, 0)) (hM : ∀ j, j < 2 → M (a + j) = im_X4_init j) : CtN l yX4_init cX4_init 1 { frames := 1, cells := 1, slots := 1000, locals := 100 } E z a 2 Ly M (.inr (4, [.null, .int 0])) := by
  refine jmN (by decide +kernel) (Nat.le_of_ble_eq_true rfl) ?_
  intro p e sM m below meth c C hN hX hr hlk hin ls hl
  replace hl : lv_has ls 1 [(0, .ref (z + a))] := hl
  refine r_aload_n C dX4_init_0 rfl hl 0 rfl ?_
  refine r_objInit C lk_X4_3 hl.1 dX4_init_1 (Nat.le_of_ble_eq_true rfl) (Nat.le_of_ble_eq_true rfl) ?_
  refine r_aload_n C dX4_init_4 rfl hl 0 rfl ?_
  refine r_sipush C dX4_init_5 rfl ?_
  refine r_newaN (t := 1) (atype := .byte) (N := 1000) C hN gw_aB (Or.inr (Or.inl ⟨rfl, rfl⟩)) ⟨by decide, by decide⟩ (by decide) rfl (by decide) (Nat.le_of_ble_eq_true rfl) (Nat.le_of_ble_eq_true rfl) dX4_init_8 (fun H hN => ?_)
  replace hN : HN E z a 2 [(z + a, .inr (4, [.null, .int 0])), (z + (a + 1), .inl (eC E 1, 1000, .inl (fun _ => jI 0)))] sM H _ := hN
  refine r_putFN C hN jc4 0 hin rfl dX4_init_10 lk_X4_9 (by decide) rfl rfl rfl rfl rfl (Nat.le_of_ble_eq_true rfl) (fun H locs hN => ?_)
  replace hN : HN E z a 2 [(z + a, .inr (4, [.ref (z + (a + 1)), .int 0])), (z + (a + 1), .inl (eC E 1, 1000, .inl (fun _ => jI 0)))] sM H locs := hN
  refine r_aload_n C dX4_init_13 rfl hl 0 rfl ?_
  refine r_iconst C dX4_init_14 ?_
  refine r_putN C hN jc4 1 dX4_init_15 lk_X4_15 (by decide) rfl rfl rfl rfl rfl (Nat.le_of_ble_eq_true rfl) (fun H locs hN => ?_)
  replace hN : HN E z a 2 [(z + a, .inr (4, [.ref (z + (a + 1)), .int (jI 0)])), (z + (a + 1), .inl (eC E 1, 1000, .inl (fun _ => jI 0)))] sM H locs := hN
  refine r_endN C hN ?_ hr hlk dX4_init_18 (Nat.le_of_ble_eq_true rfl) (Nat.le_of_ble_eq_true rfl)
  unfold seg
  show _ = [(z + (a + 0), cellOf (eC E) z (a + 0) (Ly.2 (a + 0)) (M (a + 0))), (z + (a + 1), cellOf (eC E) z (a + 1) (Ly.2 (a + 1)) (M (a + 1)))]
  rw [hLy 0 (by decide), hM 0 (by decide), hLy 1 (by decide), hM 1 (by decide)]
  rfl
def ll_X9_init : List (Nat × Nat) := [(9, 0), (21, 500), (20, 60), (20, 60), (20, 60), (22, 60)]
set_option maxRecDepth 100000 in
set_option maxHeartbeats 8000000 in
theorem cn_X9_init (l : Launch) (E : jE) (z a : Nat) (Ly : jLy) (M : Mem) (hLy : ∀ j, j < 6 → Ly.2 (a + j) = ll_X9_init.getD j (99, 0)) (hM : ∀ j, j < 6 → M (a + j) = im_X9_init j) : CtN l yX9_init cX9_init 1 { frames := 1, cells := 5, slots := 740, locals := 100 } E z a 6 Ly M (.inr (9, [.int 0, .int 0, .null, .null, .null, .null, .null])) := by
  refine jmN (by decide +kernel) (Nat.le_of_ble_eq_true rfl) ?_
  intro p e sM m below meth c C hN hX hr hlk hin ls hl
  replace hl : lv_has ls 1 [(0, .ref (z + a))] := hl
  refine r_aload_n C dX9_init_0 rfl hl 0 rfl ?_
  refine r_objInit C lk_X9_3 hl.1 dX9_init_1 (Nat.le_of_ble_eq_true rfl) (Nat.le_of_ble_eq_true rfl) ?_
  refine r_aload_n C dX9_init_4 rfl hl 0 rfl ?_
  refine r_iconst C dX9_init_5 ?_
  refine r_putN C hN jc9 0 dX9_init_6 lk_X9_9 (by decide) rfl rfl rfl rfl rfl (Nat.le_of_ble_eq_true rfl) (fun H locs hN => ?_)
  replace hN : HN E z a 1 [(z + a, .inr (9, [.int (jI 0), .int 0, .null, .null, .null, .null, .null]))] sM H locs := hN
  refine r_aload_n C dX9_init_9 rfl hl 0 rfl ?_
  refine r_iconst C dX9_init_10 ?_
  refine r_putN C hN jc9 1 dX9_init_11 lk_X9_15 (by decide) rfl rfl rfl rfl rfl (Nat.le_of_ble_eq_true rfl) (fun H locs hN => ?_)
  replace hN : HN E z a 1 [(z + a, .inr (9, [.int (jI 0), .int (jI 0), .null, .null, .null, .null, .null]))] sM H locs := hN
  refine r_aload_n C dX9_init_14 rfl hl 0 rfl ?_
  refine r_sipush C dX9_init_15 rfl ?_
  refine r_newaN (t := 1) (atype := .byte) (N := 500) C hN gw_aB (Or.inr (Or.inl ⟨rfl, rfl⟩)) ⟨by decide, by decide⟩ (by decide) rfl (by decide) (Nat.le_of_ble_eq_true rfl) (Nat.le_of_ble_eq_true rfl) dX9_init_18 (fun H hN => ?_)
  replace hN : HN E z a 2 [(z + a, .inr (9, [.int (jI 0), .int (jI 0), .null, .null, .null, .null, .null])), (z + (a + 1), .inl (eC E 1, 500, .inl (fun _ => jI 0)))] sM H _ := hN
  refine r_putFN C hN jc9 2 hin rfl dX9_init_20 lk_X9_18 (by decide) rfl rfl rfl rfl rfl (Nat.le_of_ble_eq_true rfl) (fun H locs hN => ?_)
  replace hN : HN E z a 2 [(z + a, .inr (9, [.int (jI 0), .int (jI 0), .ref (z + (a + 1)), .null, .null, .null, .null])), (z + (a + 1), .inl (eC E 1, 500, .inl (fun _ => jI 0)))] sM H locs := hN
  refine r_aload_n C dX9_init_23 rfl hl 0 rfl ?_
  refine r_bipush C dX9_init_24 rfl ?_
  refine r_newaN (t := 0) (atype := .int) (N := 60) C hN gw_aI (Or.inl ⟨rfl, rfl⟩) ⟨by decide, by decide⟩ (by decide) rfl (by decide) (Nat.le_of_ble_eq_true rfl) (Nat.le_of_ble_eq_true rfl) dX9_init_26 (fun H hN => ?_)
  replace hN : HN E z a 3 [(z + a, .inr (9, [.int (jI 0), .int (jI 0), .ref (z + (a + 1)), .null, .null, .null, .null])), (z + (a + 1), .inl (eC E 1, 500, .inl (fun _ => jI 0))), (z + (a + 2), .inl (eC E 0, 60, .inl (fun _ => jI 0)))] sM H _ := hN
  refine r_putFN C hN jc9 3 hin rfl dX9_init_28 lk_X9_22 (by decide) rfl rfl rfl rfl rfl (Nat.le_of_ble_eq_true rfl) (fun H locs hN => ?_)
  replace hN : HN E z a 3 [(z + a, .inr (9, [.int (jI 0), .int (jI 0), .ref (z + (a + 1)), .ref (z + (a + 2)), .null, .null, .null])), (z + (a + 1), .inl (eC E 1, 500, .inl (fun _ => jI 0))), (z + (a + 2), .inl (eC E 0, 60, .inl (fun _ => jI 0)))] sM H locs := hN
  refine r_aload_n C dX9_init_31 rfl hl 0 rfl ?_
  refine r_bipush C dX9_init_32 rfl ?_
  refine r_newaN (t := 0) (atype := .int) (N := 60) C hN gw_aI (Or.inl ⟨rfl, rfl⟩) ⟨by decide, by decide⟩ (by decide) rfl (by decide) (Nat.le_of_ble_eq_true rfl) (Nat.le_of_ble_eq_true rfl) dX9_init_34 (fun H hN => ?_)
  replace hN : HN E z a 4 [(z + a, .inr (9, [.int (jI 0), .int (jI 0), .ref (z + (a + 1)), .ref (z + (a + 2)), .null, .null, .null])), (z + (a + 1), .inl (eC E 1, 500, .inl (fun _ => jI 0))), (z + (a + 2), .inl (eC E 0, 60, .inl (fun _ => jI 0))), (z + (a + 3), .inl (eC E 0, 60, .inl (fun _ => jI 0)))] sM H _ := hN
  refine r_putFN C hN jc9 4 hin rfl dX9_init_36 lk_X9_26 (by decide) rfl rfl rfl rfl rfl (Nat.le_of_ble_eq_true rfl) (fun H locs hN => ?_)
  replace hN : HN E z a 4 [(z + a, .inr (9, [.int (jI 0), .int (jI 0), .ref (z + (a + 1)), .ref (z + (a + 2)), .ref (z + (a + 3)), .null, .null])), (z + (a + 1), .inl (eC E 1, 500, .inl (fun _ => jI 0))), (z + (a + 2), .inl (eC E 0, 60, .inl (fun _ => jI 0))), (z + (a + 3), .inl (eC E 0, 60, .inl (fun _ => jI 0)))] sM H locs := hN
  refine r_aload_n C dX9_init_39 rfl hl 0 rfl ?_
  refine r_bipush C dX9_init_40 rfl ?_
  refine r_newaN (t := 0) (atype := .int) (N := 60) C hN gw_aI (Or.inl ⟨rfl, rfl⟩) ⟨by decide, by decide⟩ (by decide) rfl (by decide) (Nat.le_of_ble_eq_true rfl) (Nat.le_of_ble_eq_true rfl) dX9_init_42 (fun H hN => ?_)
  replace hN : HN E z a 5 [(z + a, .inr (9, [.int (jI 0), .int (jI 0), .ref (z + (a + 1)), .ref (z + (a + 2)), .ref (z + (a + 3)), .null, .null])), (z + (a + 1), .inl (eC E 1, 500, .inl (fun _ => jI 0))), (z + (a + 2), .inl (eC E 0, 60, .inl (fun _ => jI 0))), (z + (a + 3), .inl (eC E 0, 60, .inl (fun _ => jI 0))), (z + (a + 4), .inl (eC E 0, 60, .inl (fun _ => jI 0)))] sM H _ := hN
  refine r_putFN C hN jc9 5 hin rfl dX9_init_44 lk_X9_29 (by decide) rfl rfl rfl rfl rfl (Nat.le_of_ble_eq_true rfl) (fun H locs hN => ?_)
  replace hN : HN E z a 5 [(z + a, .inr (9, [.int (jI 0), .int (jI 0), .ref (z + (a + 1)), .ref (z + (a + 2)), .ref (z + (a + 3)), .ref (z + (a + 4)), .null])), (z + (a + 1), .inl (eC E 1, 500, .inl (fun _ => jI 0))), (z + (a + 2), .inl (eC E 0, 60, .inl (fun _ => jI 0))), (z + (a + 3), .inl (eC E 0, 60, .inl (fun _ => jI 0))), (z + (a + 4), .inl (eC E 0, 60, .inl (fun _ => jI 0)))] sM H locs := hN
  refine r_aload_n C dX9_init_47 rfl hl 0 rfl ?_
  refine r_bipush C dX9_init_48 rfl ?_
  refine r_newaN (t := 2) (atype := .boolean) (N := 60) C hN gw_aZ (Or.inr (Or.inr ⟨rfl, rfl⟩)) ⟨by decide, by decide⟩ (by decide) rfl (by decide) (Nat.le_of_ble_eq_true rfl) (Nat.le_of_ble_eq_true rfl) dX9_init_50 (fun H hN => ?_)
  replace hN : HN E z a 6 [(z + a, .inr (9, [.int (jI 0), .int (jI 0), .ref (z + (a + 1)), .ref (z + (a + 2)), .ref (z + (a + 3)), .ref (z + (a + 4)), .null])), (z + (a + 1), .inl (eC E 1, 500, .inl (fun _ => jI 0))), (z + (a + 2), .inl (eC E 0, 60, .inl (fun _ => jI 0))), (z + (a + 3), .inl (eC E 0, 60, .inl (fun _ => jI 0))), (z + (a + 4), .inl (eC E 0, 60, .inl (fun _ => jI 0))), (z + (a + 5), .inl (eC E 2, 60, .inl (fun _ => jI 0)))] sM H _ := hN
  refine r_putFN C hN jc9 6 hin rfl dX9_init_52 lk_X9_32 (by decide) rfl rfl rfl rfl rfl (Nat.le_of_ble_eq_true rfl) (fun H locs hN => ?_)
  replace hN : HN E z a 6 [(z + a, .inr (9, [.int (jI 0), .int (jI 0), .ref (z + (a + 1)), .ref (z + (a + 2)), .ref (z + (a + 3)), .ref (z + (a + 4)), .ref (z + (a + 5))])), (z + (a + 1), .inl (eC E 1, 500, .inl (fun _ => jI 0))), (z + (a + 2), .inl (eC E 0, 60, .inl (fun _ => jI 0))), (z + (a + 3), .inl (eC E 0, 60, .inl (fun _ => jI 0))), (z + (a + 4), .inl (eC E 0, 60, .inl (fun _ => jI 0))), (z + (a + 5), .inl (eC E 2, 60, .inl (fun _ => jI 0)))] sM H locs := hN
  refine r_endN C hN ?_ hr hlk dX9_init_55 (Nat.le_of_ble_eq_true rfl) (Nat.le_of_ble_eq_true rfl)
  unfold seg
  show _ = [(z + (a + 0), cellOf (eC E) z (a + 0) (Ly.2 (a + 0)) (M (a + 0))), (z + (a + 1), cellOf (eC E) z (a + 1) (Ly.2 (a + 1)) (M (a + 1))), (z + (a + 2), cellOf (eC E) z (a + 2) (Ly.2 (a + 2)) (M (a + 2))), (z + (a + 3), cellOf (eC E) z (a + 3) (Ly.2 (a + 3)) (M (a + 3))), (z + (a + 4), cellOf (eC E) z (a + 4) (Ly.2 (a + 4)) (M (a + 4))), (z + (a + 5), cellOf (eC E) z (a + 5) (Ly.2 (a + 5)) (M (a + 5)))]
  rw [hLy 0 (by decide), hM 0 (by decide), hLy 1 (by decide), hM 1 (by decide), hLy 2 (by decide), hM 2 (by decide), hLy 3 (by decide), hM 3 (by decide), hLy 4 (by decide), hM 4 (by decide), hLy 5 (by decide), hM 5 (by decide)]
  rfl
def ll_X2_init : List (Nat × Nat) := [(2, 0), (20, 30), (20, 30), (20, 30), (20, 30), (20, 30), (20, 5)]
set_option maxRecDepth 100000 in
set_option maxHeartbeats 8000000 in
theorem cn_X2_init (l : Launch) (E : jE) (z a : Nat) (Ly : jLy) (M : Mem) (hLy : ∀ j, j < 7 → Ly.2 (a + j) = ll_X2_init.getD j (99, 0)) (hM : ∀ j, j < 7 → M (a + j) = im_X2_init j) : CtN l yX2_init cX2_init 1 { frames := 1, cells := 6, slots := 155, locals := 100 } E z a 7 Ly M (.inr (2, [.int 0, .null, .null, .null, .null, .null, .null])) := by
  refine jmN (by decide +kernel) (Nat.le_of_ble_eq_true rfl) ?_
  intro p e sM m below meth c C hN hX hr hlk hin ls hl
  replace hl : lv_has ls 1 [(0, .ref (z + a))] := hl
  refine r_aload_n C dX2_init_0 rfl hl 0 rfl ?_
  refine r_objInit C lk_X2_3 hl.1 dX2_init_1 (Nat.le_of_ble_eq_true rfl) (Nat.le_of_ble_eq_true rfl) ?_
  refine r_aload_n C dX2_init_4 rfl hl 0 rfl ?_
  refine r_iconst C dX2_init_5 ?_
  refine r_putN C hN jc2 0 dX2_init_6 lk_X2_9 (by decide) rfl rfl rfl rfl rfl (Nat.le_of_ble_eq_true rfl) (fun H locs hN => ?_)
  replace hN : HN E z a 1 [(z + a, .inr (2, [.int (jI 0), .null, .null, .null, .null, .null, .null]))] sM H locs := hN
  refine r_aload_n C dX2_init_9 rfl hl 0 rfl ?_
  refine r_bipush C dX2_init_10 rfl ?_
  refine r_newaN (t := 0) (atype := .int) (N := 30) C hN gw_aI (Or.inl ⟨rfl, rfl⟩) ⟨by decide, by decide⟩ (by decide) rfl (by decide) (Nat.le_of_ble_eq_true rfl) (Nat.le_of_ble_eq_true rfl) dX2_init_12 (fun H hN => ?_)
  replace hN : HN E z a 2 [(z + a, .inr (2, [.int (jI 0), .null, .null, .null, .null, .null, .null])), (z + (a + 1), .inl (eC E 0, 30, .inl (fun _ => jI 0)))] sM H _ := hN
  refine r_putFN C hN jc2 1 hin rfl dX2_init_14 lk_X2_15 (by decide) rfl rfl rfl rfl rfl (Nat.le_of_ble_eq_true rfl) (fun H locs hN => ?_)
  replace hN : HN E z a 2 [(z + a, .inr (2, [.int (jI 0), .ref (z + (a + 1)), .null, .null, .null, .null, .null])), (z + (a + 1), .inl (eC E 0, 30, .inl (fun _ => jI 0)))] sM H locs := hN
  refine r_aload_n C dX2_init_17 rfl hl 0 rfl ?_
  refine r_bipush C dX2_init_18 rfl ?_
  refine r_newaN (t := 0) (atype := .int) (N := 30) C hN gw_aI (Or.inl ⟨rfl, rfl⟩) ⟨by decide, by decide⟩ (by decide) rfl (by decide) (Nat.le_of_ble_eq_true rfl) (Nat.le_of_ble_eq_true rfl) dX2_init_20 (fun H hN => ?_)
  replace hN : HN E z a 3 [(z + a, .inr (2, [.int (jI 0), .ref (z + (a + 1)), .null, .null, .null, .null, .null])), (z + (a + 1), .inl (eC E 0, 30, .inl (fun _ => jI 0))), (z + (a + 2), .inl (eC E 0, 30, .inl (fun _ => jI 0)))] sM H _ := hN
  refine r_putFN C hN jc2 2 hin rfl dX2_init_22 lk_X2_19 (by decide) rfl rfl rfl rfl rfl (Nat.le_of_ble_eq_true rfl) (fun H locs hN => ?_)
  replace hN : HN E z a 3 [(z + a, .inr (2, [.int (jI 0), .ref (z + (a + 1)), .ref (z + (a + 2)), .null, .null, .null, .null])), (z + (a + 1), .inl (eC E 0, 30, .inl (fun _ => jI 0))), (z + (a + 2), .inl (eC E 0, 30, .inl (fun _ => jI 0)))] sM H locs := hN
  refine r_aload_n C dX2_init_25 rfl hl 0 rfl ?_
  refine r_bipush C dX2_init_26 rfl ?_
  refine r_newaN (t := 0) (atype := .int) (N := 30) C hN gw_aI (Or.inl ⟨rfl, rfl⟩) ⟨by decide, by decide⟩ (by decide) rfl (by decide) (Nat.le_of_ble_eq_true rfl) (Nat.le_of_ble_eq_true rfl) dX2_init_28 (fun H hN => ?_)
  replace hN : HN E z a 4 [(z + a, .inr (2, [.int (jI 0), .ref (z + (a + 1)), .ref (z + (a + 2)), .null, .null, .null, .null])), (z + (a + 1), .inl (eC E 0, 30, .inl (fun _ => jI 0))), (z + (a + 2), .inl (eC E 0, 30, .inl (fun _ => jI 0))), (z + (a + 3), .inl (eC E 0, 30, .inl (fun _ => jI 0)))] sM H _ := hN
  refine r_putFN C hN jc2 3 hin rfl dX2_init_30 lk_X2_22 (by decide) rfl rfl rfl rfl rfl (Nat.le_of_ble_eq_true rfl) (fun H locs hN => ?_)
  replace hN : HN E z a 4 [(z + a, .inr (2, [.int (jI 0), .ref (z + (a + 1)), .ref (z + (a + 2)), .ref (z + (a + 3)), .null, .null, .null])), (z + (a + 1), .inl (eC E 0, 30, .inl (fun _ => jI 0))), (z + (a + 2), .inl (eC E 0, 30, .inl (fun _ => jI 0))), (z + (a + 3), .inl (eC E 0, 30, .inl (fun _ => jI 0)))] sM H locs := hN
  refine r_aload_n C dX2_init_33 rfl hl 0 rfl ?_
  refine r_bipush C dX2_init_34 rfl ?_
  refine r_newaN (t := 0) (atype := .int) (N := 30) C hN gw_aI (Or.inl ⟨rfl, rfl⟩) ⟨by decide, by decide⟩ (by decide) rfl (by decide) (Nat.le_of_ble_eq_true rfl) (Nat.le_of_ble_eq_true rfl) dX2_init_36 (fun H hN => ?_)
  replace hN : HN E z a 5 [(z + a, .inr (2, [.int (jI 0), .ref (z + (a + 1)), .ref (z + (a + 2)), .ref (z + (a + 3)), .null, .null, .null])), (z + (a + 1), .inl (eC E 0, 30, .inl (fun _ => jI 0))), (z + (a + 2), .inl (eC E 0, 30, .inl (fun _ => jI 0))), (z + (a + 3), .inl (eC E 0, 30, .inl (fun _ => jI 0))), (z + (a + 4), .inl (eC E 0, 30, .inl (fun _ => jI 0)))] sM H _ := hN
  refine r_putFN C hN jc2 4 hin rfl dX2_init_38 lk_X2_25 (by decide) rfl rfl rfl rfl rfl (Nat.le_of_ble_eq_true rfl) (fun H locs hN => ?_)
  replace hN : HN E z a 5 [(z + a, .inr (2, [.int (jI 0), .ref (z + (a + 1)), .ref (z + (a + 2)), .ref (z + (a + 3)), .ref (z + (a + 4)), .null, .null])), (z + (a + 1), .inl (eC E 0, 30, .inl (fun _ => jI 0))), (z + (a + 2), .inl (eC E 0, 30, .inl (fun _ => jI 0))), (z + (a + 3), .inl (eC E 0, 30, .inl (fun _ => jI 0))), (z + (a + 4), .inl (eC E 0, 30, .inl (fun _ => jI 0)))] sM H locs := hN
  refine r_aload_n C dX2_init_41 rfl hl 0 rfl ?_
  refine r_bipush C dX2_init_42 rfl ?_
  refine r_newaN (t := 0) (atype := .int) (N := 30) C hN gw_aI (Or.inl ⟨rfl, rfl⟩) ⟨by decide, by decide⟩ (by decide) rfl (by decide) (Nat.le_of_ble_eq_true rfl) (Nat.le_of_ble_eq_true rfl) dX2_init_44 (fun H hN => ?_)
  replace hN : HN E z a 6 [(z + a, .inr (2, [.int (jI 0), .ref (z + (a + 1)), .ref (z + (a + 2)), .ref (z + (a + 3)), .ref (z + (a + 4)), .null, .null])), (z + (a + 1), .inl (eC E 0, 30, .inl (fun _ => jI 0))), (z + (a + 2), .inl (eC E 0, 30, .inl (fun _ => jI 0))), (z + (a + 3), .inl (eC E 0, 30, .inl (fun _ => jI 0))), (z + (a + 4), .inl (eC E 0, 30, .inl (fun _ => jI 0))), (z + (a + 5), .inl (eC E 0, 30, .inl (fun _ => jI 0)))] sM H _ := hN
  refine r_putFN C hN jc2 5 hin rfl dX2_init_46 lk_X2_28 (by decide) rfl rfl rfl rfl rfl (Nat.le_of_ble_eq_true rfl) (fun H locs hN => ?_)
  replace hN : HN E z a 6 [(z + a, .inr (2, [.int (jI 0), .ref (z + (a + 1)), .ref (z + (a + 2)), .ref (z + (a + 3)), .ref (z + (a + 4)), .ref (z + (a + 5)), .null])), (z + (a + 1), .inl (eC E 0, 30, .inl (fun _ => jI 0))), (z + (a + 2), .inl (eC E 0, 30, .inl (fun _ => jI 0))), (z + (a + 3), .inl (eC E 0, 30, .inl (fun _ => jI 0))), (z + (a + 4), .inl (eC E 0, 30, .inl (fun _ => jI 0))), (z + (a + 5), .inl (eC E 0, 30, .inl (fun _ => jI 0)))] sM H locs := hN
  refine r_aload_n C dX2_init_49 rfl hl 0 rfl ?_
  refine r_iconst C dX2_init_50 ?_
  refine r_newaN (t := 0) (atype := .int) (N := 5) C hN gw_aI (Or.inl ⟨rfl, rfl⟩) ⟨by decide, by decide⟩ (by decide) rfl (by decide) (Nat.le_of_ble_eq_true rfl) (Nat.le_of_ble_eq_true rfl) dX2_init_51 (fun H hN => ?_)
  replace hN : HN E z a 7 [(z + a, .inr (2, [.int (jI 0), .ref (z + (a + 1)), .ref (z + (a + 2)), .ref (z + (a + 3)), .ref (z + (a + 4)), .ref (z + (a + 5)), .null])), (z + (a + 1), .inl (eC E 0, 30, .inl (fun _ => jI 0))), (z + (a + 2), .inl (eC E 0, 30, .inl (fun _ => jI 0))), (z + (a + 3), .inl (eC E 0, 30, .inl (fun _ => jI 0))), (z + (a + 4), .inl (eC E 0, 30, .inl (fun _ => jI 0))), (z + (a + 5), .inl (eC E 0, 30, .inl (fun _ => jI 0))), (z + (a + 6), .inl (eC E 0, 5, .inl (fun _ => jI 0)))] sM H _ := hN
  refine r_putFN C hN jc2 6 hin rfl dX2_init_53 lk_X2_31 (by decide) rfl rfl rfl rfl rfl (Nat.le_of_ble_eq_true rfl) (fun H locs hN => ?_)
  replace hN : HN E z a 7 [(z + a, .inr (2, [.int (jI 0), .ref (z + (a + 1)), .ref (z + (a + 2)), .ref (z + (a + 3)), .ref (z + (a + 4)), .ref (z + (a + 5)), .ref (z + (a + 6))])), (z + (a + 1), .inl (eC E 0, 30, .inl (fun _ => jI 0))), (z + (a + 2), .inl (eC E 0, 30, .inl (fun _ => jI 0))), (z + (a + 3), .inl (eC E 0, 30, .inl (fun _ => jI 0))), (z + (a + 4), .inl (eC E 0, 30, .inl (fun _ => jI 0))), (z + (a + 5), .inl (eC E 0, 30, .inl (fun _ => jI 0))), (z + (a + 6), .inl (eC E 0, 5, .inl (fun _ => jI 0)))] sM H locs := hN
  refine r_endN C hN ?_ hr hlk dX2_init_56 (Nat.le_of_ble_eq_true rfl) (Nat.le_of_ble_eq_true rfl)
  unfold seg
  show _ = [(z + (a + 0), cellOf (eC E) z (a + 0) (Ly.2 (a + 0)) (M (a + 0))), (z + (a + 1), cellOf (eC E) z (a + 1) (Ly.2 (a + 1)) (M (a + 1))), (z + (a + 2), cellOf (eC E) z (a + 2) (Ly.2 (a + 2)) (M (a + 2))), (z + (a + 3), cellOf (eC E) z (a + 3) (Ly.2 (a + 3)) (M (a + 3))), (z + (a + 4), cellOf (eC E) z (a + 4) (Ly.2 (a + 4)) (M (a + 4))), (z + (a + 5), cellOf (eC E) z (a + 5) (Ly.2 (a + 5)) (M (a + 5))), (z + (a + 6), cellOf (eC E) z (a + 6) (Ly.2 (a + 6)) (M (a + 6)))]
  rw [hLy 0 (by decide), hM 0 (by decide), hLy 1 (by decide), hM 1 (by decide), hLy 2 (by decide), hM 2 (by decide), hLy 3 (by decide), hM 3 (by decide), hLy 4 (by decide), hM 4 (by decide), hLy 5 (by decide), hM 5 (by decide), hLy 6 (by decide), hM 6 (by decide)]
  rfl
def ll_X5_init : List (Nat × Nat) := [(5, 0), (20, 60), (20, 60), (20, 60), (20, 60), (20, 60), (20, 60), (20, 5)]
set_option maxRecDepth 100000 in
set_option maxHeartbeats 8000000 in
theorem cn_X5_init (l : Launch) (E : jE) (z a : Nat) (Ly : jLy) (M : Mem) (hLy : ∀ j, j < 8 → Ly.2 (a + j) = ll_X5_init.getD j (99, 0)) (hM : ∀ j, j < 8 → M (a + j) = im_X5_init j) : CtN l yX5_init cX5_init 1 { frames := 1, cells := 7, slots := 365, locals := 100 } E z a 8 Ly M (.inr (5, [.int 0, .int 0, .null, .null, .null, .null, .null, .null, .null, .int 0])) := by
  refine jmN (by decide +kernel) (Nat.le_of_ble_eq_true rfl) ?_
  intro p e sM m below meth c C hN hX hr hlk hin ls hl
  replace hl : lv_has ls 1 [(0, .ref (z + a))] := hl
  refine r_aload_n C dX5_init_0 rfl hl 0 rfl ?_
  refine r_objInit C lk_X5_3 hl.1 dX5_init_1 (Nat.le_of_ble_eq_true rfl) (Nat.le_of_ble_eq_true rfl) ?_
  refine r_aload_n C dX5_init_4 rfl hl 0 rfl ?_
  refine r_iconst C dX5_init_5 ?_
  refine r_putN C hN jc5 0 dX5_init_6 lk_X5_9 (by decide) rfl rfl rfl rfl rfl (Nat.le_of_ble_eq_true rfl) (fun H locs hN => ?_)
  replace hN : HN E z a 1 [(z + a, .inr (5, [.int (jI 0), .int 0, .null, .null, .null, .null, .null, .null, .null, .int 0]))] sM H locs := hN
  refine r_aload_n C dX5_init_9 rfl hl 0 rfl ?_
  refine r_iconst C dX5_init_10 ?_
  refine r_putN C hN jc5 1 dX5_init_11 lk_X5_15 (by decide) rfl rfl rfl rfl rfl (Nat.le_of_ble_eq_true rfl) (fun H locs hN => ?_)
  replace hN : HN E z a 1 [(z + a, .inr (5, [.int (jI 0), .int (jI 0), .null, .null, .null, .null, .null, .null, .null, .int 0]))] sM H locs := hN
  refine r_aload_n C dX5_init_14 rfl hl 0 rfl ?_
  refine r_bipush C dX5_init_15 rfl ?_
  refine r_newaN (t := 0) (atype := .int) (N := 60) C hN gw_aI (Or.inl ⟨rfl, rfl⟩) ⟨by decide, by decide⟩ (by decide) rfl (by decide) (Nat.le_of_ble_eq_true rfl) (Nat.le_of_ble_eq_true rfl) dX5_init_17 (fun H hN => ?_)
  replace hN : HN E z a 2 [(z + a, .inr (5, [.int (jI 0), .int (jI 0), .null, .null, .null, .null, .null, .null, .null, .int 0])), (z + (a + 1), .inl (eC E 0, 60, .inl (fun _ => jI 0)))] sM H _ := hN
  refine r_putFN C hN jc5 2 hin rfl dX5_init_19 lk_X5_18 (by decide) rfl rfl rfl rfl rfl (Nat.le_of_ble_eq_true rfl) (fun H locs hN => ?_)
  replace hN : HN E z a 2 [(z + a, .inr (5, [.int (jI 0), .int (jI 0), .ref (z + (a + 1)), .null, .null, .null, .null, .null, .null, .int 0])), (z + (a + 1), .inl (eC E 0, 60, .inl (fun _ => jI 0)))] sM H locs := hN
  refine r_aload_n C dX5_init_22 rfl hl 0 rfl ?_
  refine r_bipush C dX5_init_23 rfl ?_
  refine r_newaN (t := 0) (atype := .int) (N := 60) C hN gw_aI (Or.inl ⟨rfl, rfl⟩) ⟨by decide, by decide⟩ (by decide) rfl (by decide) (Nat.le_of_ble_eq_true rfl) (Nat.le_of_ble_eq_true rfl) dX5_init_25 (fun H hN => ?_)
  replace hN : HN E z a 3 [(z + a, .inr (5, [.int (jI 0), .int (jI 0), .ref (z + (a + 1)), .null, .null, .null, .null, .null, .null, .int 0])), (z + (a + 1), .inl (eC E 0, 60, .inl (fun _ => jI 0))), (z + (a + 2), .inl (eC E 0, 60, .inl (fun _ => jI 0)))] sM H _ := hN
  refine r_putFN C hN jc5 3 hin rfl dX5_init_27 lk_X5_22 (by decide) rfl rfl rfl rfl rfl (Nat.le_of_ble_eq_true rfl) (fun H locs hN => ?_)
  replace hN : HN E z a 3 [(z + a, .inr (5, [.int (jI 0), .int (jI 0), .ref (z + (a + 1)), .ref (z + (a + 2)), .null, .null, .null, .null, .null, .int 0])), (z + (a + 1), .inl (eC E 0, 60, .inl (fun _ => jI 0))), (z + (a + 2), .inl (eC E 0, 60, .inl (fun _ => jI 0)))] sM H locs := hN
  refine r_aload_n C dX5_init_30 rfl hl 0 rfl ?_
  refine r_bipush C dX5_init_31 rfl ?_
  refine r_newaN (t := 0) (atype := .int) (N := 60) C hN gw_aI (Or.inl ⟨rfl, rfl⟩) ⟨by decide, by decide⟩ (by decide) rfl (by decide) (Nat.le_of_ble_eq_true rfl) (Nat.le_of_ble_eq_true rfl) dX5_init_33 (fun H hN => ?_)
  replace hN : HN E z a 4 [(z + a, .inr (5, [.int (jI 0), .int (jI 0), .ref (z + (a + 1)), .ref (z + (a + 2)), .null, .null, .null, .null, .null, .int 0])), (z + (a + 1), .inl (eC E 0, 60, .inl (fun _ => jI 0))), (z + (a + 2), .inl (eC E 0, 60, .inl (fun _ => jI 0))), (z + (a + 3), .inl (eC E 0, 60, .inl (fun _ => jI 0)))] sM H _ := hN
  refine r_putFN C hN jc5 4 hin rfl dX5_init_35 lk_X5_25 (by decide) rfl rfl rfl rfl rfl (Nat.le_of_ble_eq_true rfl) (fun H locs hN => ?_)
  replace hN : HN E z a 4 [(z + a, .inr (5, [.int (jI 0), .int (jI 0), .ref (z + (a + 1)), .ref (z + (a + 2)), .ref (z + (a + 3)), .null, .null, .null, .null, .int 0])), (z + (a + 1), .inl (eC E 0, 60, .inl (fun _ => jI 0))), (z + (a + 2), .inl (eC E 0, 60, .inl (fun _ => jI 0))), (z + (a + 3), .inl (eC E 0, 60, .inl (fun _ => jI 0)))] sM H locs := hN
  refine r_aload_n C dX5_init_38 rfl hl 0 rfl ?_
  refine r_bipush C dX5_init_39 rfl ?_
  refine r_newaN (t := 0) (atype := .int) (N := 60) C hN gw_aI (Or.inl ⟨rfl, rfl⟩) ⟨by decide, by decide⟩ (by decide) rfl (by decide) (Nat.le_of_ble_eq_true rfl) (Nat.le_of_ble_eq_true rfl) dX5_init_41 (fun H hN => ?_)
  replace hN : HN E z a 5 [(z + a, .inr (5, [.int (jI 0), .int (jI 0), .ref (z + (a + 1)), .ref (z + (a + 2)), .ref (z + (a + 3)), .null, .null, .null, .null, .int 0])), (z + (a + 1), .inl (eC E 0, 60, .inl (fun _ => jI 0))), (z + (a + 2), .inl (eC E 0, 60, .inl (fun _ => jI 0))), (z + (a + 3), .inl (eC E 0, 60, .inl (fun _ => jI 0))), (z + (a + 4), .inl (eC E 0, 60, .inl (fun _ => jI 0)))] sM H _ := hN
  refine r_putFN C hN jc5 5 hin rfl dX5_init_43 lk_X5_28 (by decide) rfl rfl rfl rfl rfl (Nat.le_of_ble_eq_true rfl) (fun H locs hN => ?_)
  replace hN : HN E z a 5 [(z + a, .inr (5, [.int (jI 0), .int (jI 0), .ref (z + (a + 1)), .ref (z + (a + 2)), .ref (z + (a + 3)), .ref (z + (a + 4)), .null, .null, .null, .int 0])), (z + (a + 1), .inl (eC E 0, 60, .inl (fun _ => jI 0))), (z + (a + 2), .inl (eC E 0, 60, .inl (fun _ => jI 0))), (z + (a + 3), .inl (eC E 0, 60, .inl (fun _ => jI 0))), (z + (a + 4), .inl (eC E 0, 60, .inl (fun _ => jI 0)))] sM H locs := hN
  refine r_aload_n C dX5_init_46 rfl hl 0 rfl ?_
  refine r_bipush C dX5_init_47 rfl ?_
  refine r_newaN (t := 0) (atype := .int) (N := 60) C hN gw_aI (Or.inl ⟨rfl, rfl⟩) ⟨by decide, by decide⟩ (by decide) rfl (by decide) (Nat.le_of_ble_eq_true rfl) (Nat.le_of_ble_eq_true rfl) dX5_init_49 (fun H hN => ?_)
  replace hN : HN E z a 6 [(z + a, .inr (5, [.int (jI 0), .int (jI 0), .ref (z + (a + 1)), .ref (z + (a + 2)), .ref (z + (a + 3)), .ref (z + (a + 4)), .null, .null, .null, .int 0])), (z + (a + 1), .inl (eC E 0, 60, .inl (fun _ => jI 0))), (z + (a + 2), .inl (eC E 0, 60, .inl (fun _ => jI 0))), (z + (a + 3), .inl (eC E 0, 60, .inl (fun _ => jI 0))), (z + (a + 4), .inl (eC E 0, 60, .inl (fun _ => jI 0))), (z + (a + 5), .inl (eC E 0, 60, .inl (fun _ => jI 0)))] sM H _ := hN
  refine r_putFN C hN jc5 6 hin rfl dX5_init_51 lk_X5_31 (by decide) rfl rfl rfl rfl rfl (Nat.le_of_ble_eq_true rfl) (fun H locs hN => ?_)
  replace hN : HN E z a 6 [(z + a, .inr (5, [.int (jI 0), .int (jI 0), .ref (z + (a + 1)), .ref (z + (a + 2)), .ref (z + (a + 3)), .ref (z + (a + 4)), .ref (z + (a + 5)), .null, .null, .int 0])), (z + (a + 1), .inl (eC E 0, 60, .inl (fun _ => jI 0))), (z + (a + 2), .inl (eC E 0, 60, .inl (fun _ => jI 0))), (z + (a + 3), .inl (eC E 0, 60, .inl (fun _ => jI 0))), (z + (a + 4), .inl (eC E 0, 60, .inl (fun _ => jI 0))), (z + (a + 5), .inl (eC E 0, 60, .inl (fun _ => jI 0)))] sM H locs := hN
  refine r_aload_n C dX5_init_54 rfl hl 0 rfl ?_
  refine r_bipush C dX5_init_55 rfl ?_
  refine r_newaN (t := 0) (atype := .int) (N := 60) C hN gw_aI (Or.inl ⟨rfl, rfl⟩) ⟨by decide, by decide⟩ (by decide) rfl (by decide) (Nat.le_of_ble_eq_true rfl) (Nat.le_of_ble_eq_true rfl) dX5_init_57 (fun H hN => ?_)
  replace hN : HN E z a 7 [(z + a, .inr (5, [.int (jI 0), .int (jI 0), .ref (z + (a + 1)), .ref (z + (a + 2)), .ref (z + (a + 3)), .ref (z + (a + 4)), .ref (z + (a + 5)), .null, .null, .int 0])), (z + (a + 1), .inl (eC E 0, 60, .inl (fun _ => jI 0))), (z + (a + 2), .inl (eC E 0, 60, .inl (fun _ => jI 0))), (z + (a + 3), .inl (eC E 0, 60, .inl (fun _ => jI 0))), (z + (a + 4), .inl (eC E 0, 60, .inl (fun _ => jI 0))), (z + (a + 5), .inl (eC E 0, 60, .inl (fun _ => jI 0))), (z + (a + 6), .inl (eC E 0, 60, .inl (fun _ => jI 0)))] sM H _ := hN
  refine r_putFN C hN jc5 7 hin rfl dX5_init_59 lk_X5_34 (by decide) rfl rfl rfl rfl rfl (Nat.le_of_ble_eq_true rfl) (fun H locs hN => ?_)
  replace hN : HN E z a 7 [(z + a, .inr (5, [.int (jI 0), .int (jI 0), .ref (z + (a + 1)), .ref (z + (a + 2)), .ref (z + (a + 3)), .ref (z + (a + 4)), .ref (z + (a + 5)), .ref (z + (a + 6)), .null, .int 0])), (z + (a + 1), .inl (eC E 0, 60, .inl (fun _ => jI 0))), (z + (a + 2), .inl (eC E 0, 60, .inl (fun _ => jI 0))), (z + (a + 3), .inl (eC E 0, 60, .inl (fun _ => jI 0))), (z + (a + 4), .inl (eC E 0, 60, .inl (fun _ => jI 0))), (z + (a + 5), .inl (eC E 0, 60, .inl (fun _ => jI 0))), (z + (a + 6), .inl (eC E 0, 60, .inl (fun _ => jI 0)))] sM H locs := hN
  refine r_aload_n C dX5_init_62 rfl hl 0 rfl ?_
  refine r_iconst C dX5_init_63 ?_
  refine r_newaN (t := 0) (atype := .int) (N := 5) C hN gw_aI (Or.inl ⟨rfl, rfl⟩) ⟨by decide, by decide⟩ (by decide) rfl (by decide) (Nat.le_of_ble_eq_true rfl) (Nat.le_of_ble_eq_true rfl) dX5_init_64 (fun H hN => ?_)
  replace hN : HN E z a 8 [(z + a, .inr (5, [.int (jI 0), .int (jI 0), .ref (z + (a + 1)), .ref (z + (a + 2)), .ref (z + (a + 3)), .ref (z + (a + 4)), .ref (z + (a + 5)), .ref (z + (a + 6)), .null, .int 0])), (z + (a + 1), .inl (eC E 0, 60, .inl (fun _ => jI 0))), (z + (a + 2), .inl (eC E 0, 60, .inl (fun _ => jI 0))), (z + (a + 3), .inl (eC E 0, 60, .inl (fun _ => jI 0))), (z + (a + 4), .inl (eC E 0, 60, .inl (fun _ => jI 0))), (z + (a + 5), .inl (eC E 0, 60, .inl (fun _ => jI 0))), (z + (a + 6), .inl (eC E 0, 60, .inl (fun _ => jI 0))), (z + (a + 7), .inl (eC E 0, 5, .inl (fun _ => jI 0)))] sM H _ := hN
  refine r_putFN C hN jc5 8 hin rfl dX5_init_66 lk_X5_37 (by decide) rfl rfl rfl rfl rfl (Nat.le_of_ble_eq_true rfl) (fun H locs hN => ?_)
  replace hN : HN E z a 8 [(z + a, .inr (5, [.int (jI 0), .int (jI 0), .ref (z + (a + 1)), .ref (z + (a + 2)), .ref (z + (a + 3)), .ref (z + (a + 4)), .ref (z + (a + 5)), .ref (z + (a + 6)), .ref (z + (a + 7)), .int 0])), (z + (a + 1), .inl (eC E 0, 60, .inl (fun _ => jI 0))), (z + (a + 2), .inl (eC E 0, 60, .inl (fun _ => jI 0))), (z + (a + 3), .inl (eC E 0, 60, .inl (fun _ => jI 0))), (z + (a + 4), .inl (eC E 0, 60, .inl (fun _ => jI 0))), (z + (a + 5), .inl (eC E 0, 60, .inl (fun _ => jI 0))), (z + (a + 6), .inl (eC E 0, 60, .inl (fun _ => jI 0))), (z + (a + 7), .inl (eC E 0, 5, .inl (fun _ => jI 0)))] sM H locs := hN
  refine r_aload_n C dX5_init_69 rfl hl 0 rfl ?_
  refine r_iconst C dX5_init_70 ?_
  refine r_putN C hN jc5 9 dX5_init_71 lk_X5_40 (by decide) rfl rfl rfl rfl rfl (Nat.le_of_ble_eq_true rfl) (fun H locs hN => ?_)
  replace hN : HN E z a 8 [(z + a, .inr (5, [.int (jI 0), .int (jI 0), .ref (z + (a + 1)), .ref (z + (a + 2)), .ref (z + (a + 3)), .ref (z + (a + 4)), .ref (z + (a + 5)), .ref (z + (a + 6)), .ref (z + (a + 7)), .int (jI 0)])), (z + (a + 1), .inl (eC E 0, 60, .inl (fun _ => jI 0))), (z + (a + 2), .inl (eC E 0, 60, .inl (fun _ => jI 0))), (z + (a + 3), .inl (eC E 0, 60, .inl (fun _ => jI 0))), (z + (a + 4), .inl (eC E 0, 60, .inl (fun _ => jI 0))), (z + (a + 5), .inl (eC E 0, 60, .inl (fun _ => jI 0))), (z + (a + 6), .inl (eC E 0, 60, .inl (fun _ => jI 0))), (z + (a + 7), .inl (eC E 0, 5, .inl (fun _ => jI 0)))] sM H locs := hN
  refine r_endN C hN ?_ hr hlk dX5_init_74 (Nat.le_of_ble_eq_true rfl) (Nat.le_of_ble_eq_true rfl)
  unfold seg
  show _ = [(z + (a + 0), cellOf (eC E) z (a + 0) (Ly.2 (a + 0)) (M (a + 0))), (z + (a + 1), cellOf (eC E) z (a + 1) (Ly.2 (a + 1)) (M (a + 1))), (z + (a + 2), cellOf (eC E) z (a + 2) (Ly.2 (a + 2)) (M (a + 2))), (z + (a + 3), cellOf (eC E) z (a + 3) (Ly.2 (a + 3)) (M (a + 3))), (z + (a + 4), cellOf (eC E) z (a + 4) (Ly.2 (a + 4)) (M (a + 4))), (z + (a + 5), cellOf (eC E) z (a + 5) (Ly.2 (a + 5)) (M (a + 5))), (z + (a + 6), cellOf (eC E) z (a + 6) (Ly.2 (a + 6)) (M (a + 6))), (z + (a + 7), cellOf (eC E) z (a + 7) (Ly.2 (a + 7)) (M (a + 7)))]
  rw [hLy 0 (by decide), hM 0 (by decide), hLy 1 (by decide), hM 1 (by decide), hLy 2 (by decide), hM 2 (by decide), hLy 3 (by decide), hM 3 (by decide), hLy 4 (by decide), hM 4 (by decide), hLy 5 (by decide), hM 5 (by decide), hLy 6 (by decide), hM 6 (by decide), hLy 7 (by decide), hM 7 (by decide)]
  rfl
def ll_X6_init : List (Nat × Nat) := [(6, 0), (20, 60), (20, 60), (20, 60)]
set_option maxRecDepth 100000 in
set_option maxHeartbeats 8000000 in
theorem cn_X6_init (l : Launch) (E : jE) (z a : Nat) (Ly : jLy) (M : Mem) (hLy : ∀ j, j < 4 → Ly.2 (a + j) = ll_X6_init.getD j (99, 0)) (hM : ∀ j, j < 4 → M (a + j) = im_X6_init j) : CtN l yX6_init cX6_init 1 { frames := 1, cells := 3, slots := 180, locals := 100 } E z a 4 Ly M (.inr (6, [.int 0, .int 0, .null, .null, .null])) := by
  refine jmN (by decide +kernel) (Nat.le_of_ble_eq_true rfl) ?_
  intro p e sM m below meth c C hN hX hr hlk hin ls hl
  replace hl : lv_has ls 1 [(0, .ref (z + a))] := hl
  refine r_aload_n C dX6_init_0 rfl hl 0 rfl ?_
  refine r_objInit C lk_X6_3 hl.1 dX6_init_1 (Nat.le_of_ble_eq_true rfl) (Nat.le_of_ble_eq_true rfl) ?_
  refine r_aload_n C dX6_init_4 rfl hl 0 rfl ?_
  refine r_iconst C dX6_init_5 ?_
  refine r_putN C hN jc6 0 dX6_init_6 lk_X6_9 (by decide) rfl rfl rfl rfl rfl (Nat.le_of_ble_eq_true rfl) (fun H locs hN => ?_)
  replace hN : HN E z a 1 [(z + a, .inr (6, [.int (jI 0), .int 0, .null, .null, .null]))] sM H locs := hN
  refine r_aload_n C dX6_init_9 rfl hl 0 rfl ?_
  refine r_iconst C dX6_init_10 ?_
  refine r_putN C hN jc6 1 dX6_init_11 lk_X6_15 (by decide) rfl rfl rfl rfl rfl (Nat.le_of_ble_eq_true rfl) (fun H locs hN => ?_)
  replace hN : HN E z a 1 [(z + a, .inr (6, [.int (jI 0), .int (jI 0), .null, .null, .null]))] sM H locs := hN
  refine r_aload_n C dX6_init_14 rfl hl 0 rfl ?_
  refine r_bipush C dX6_init_15 rfl ?_
  refine r_newaN (t := 0) (atype := .int) (N := 60) C hN gw_aI (Or.inl ⟨rfl, rfl⟩) ⟨by decide, by decide⟩ (by decide) rfl (by decide) (Nat.le_of_ble_eq_true rfl) (Nat.le_of_ble_eq_true rfl) dX6_init_17 (fun H hN => ?_)
  replace hN : HN E z a 2 [(z + a, .inr (6, [.int (jI 0), .int (jI 0), .null, .null, .null])), (z + (a + 1), .inl (eC E 0, 60, .inl (fun _ => jI 0)))] sM H _ := hN
  refine r_putFN C hN jc6 2 hin rfl dX6_init_19 lk_X6_18 (by decide) rfl rfl rfl rfl rfl (Nat.le_of_ble_eq_true rfl) (fun H locs hN => ?_)
  replace hN : HN E z a 2 [(z + a, .inr (6, [.int (jI 0), .int (jI 0), .ref (z + (a + 1)), .null, .null])), (z + (a + 1), .inl (eC E 0, 60, .inl (fun _ => jI 0)))] sM H locs := hN
  refine r_aload_n C dX6_init_22 rfl hl 0 rfl ?_
  refine r_bipush C dX6_init_23 rfl ?_
  refine r_newaN (t := 0) (atype := .int) (N := 60) C hN gw_aI (Or.inl ⟨rfl, rfl⟩) ⟨by decide, by decide⟩ (by decide) rfl (by decide) (Nat.le_of_ble_eq_true rfl) (Nat.le_of_ble_eq_true rfl) dX6_init_25 (fun H hN => ?_)
  replace hN : HN E z a 3 [(z + a, .inr (6, [.int (jI 0), .int (jI 0), .ref (z + (a + 1)), .null, .null])), (z + (a + 1), .inl (eC E 0, 60, .inl (fun _ => jI 0))), (z + (a + 2), .inl (eC E 0, 60, .inl (fun _ => jI 0)))] sM H _ := hN
  refine r_putFN C hN jc6 3 hin rfl dX6_init_27 lk_X6_22 (by decide) rfl rfl rfl rfl rfl (Nat.le_of_ble_eq_true rfl) (fun H locs hN => ?_)
  replace hN : HN E z a 3 [(z + a, .inr (6, [.int (jI 0), .int (jI 0), .ref (z + (a + 1)), .ref (z + (a + 2)), .null])), (z + (a + 1), .inl (eC E 0, 60, .inl (fun _ => jI 0))), (z + (a + 2), .inl (eC E 0, 60, .inl (fun _ => jI 0)))] sM H locs := hN
  refine r_aload_n C dX6_init_30 rfl hl 0 rfl ?_
  refine r_bipush C dX6_init_31 rfl ?_
  refine r_newaN (t := 0) (atype := .int) (N := 60) C hN gw_aI (Or.inl ⟨rfl, rfl⟩) ⟨by decide, by decide⟩ (by decide) rfl (by decide) (Nat.le_of_ble_eq_true rfl) (Nat.le_of_ble_eq_true rfl) dX6_init_33 (fun H hN => ?_)
  replace hN : HN E z a 4 [(z + a, .inr (6, [.int (jI 0), .int (jI 0), .ref (z + (a + 1)), .ref (z + (a + 2)), .null])), (z + (a + 1), .inl (eC E 0, 60, .inl (fun _ => jI 0))), (z + (a + 2), .inl (eC E 0, 60, .inl (fun _ => jI 0))), (z + (a + 3), .inl (eC E 0, 60, .inl (fun _ => jI 0)))] sM H _ := hN
  refine r_putFN C hN jc6 4 hin rfl dX6_init_35 lk_X6_25 (by decide) rfl rfl rfl rfl rfl (Nat.le_of_ble_eq_true rfl) (fun H locs hN => ?_)
  replace hN : HN E z a 4 [(z + a, .inr (6, [.int (jI 0), .int (jI 0), .ref (z + (a + 1)), .ref (z + (a + 2)), .ref (z + (a + 3))])), (z + (a + 1), .inl (eC E 0, 60, .inl (fun _ => jI 0))), (z + (a + 2), .inl (eC E 0, 60, .inl (fun _ => jI 0))), (z + (a + 3), .inl (eC E 0, 60, .inl (fun _ => jI 0)))] sM H locs := hN
  refine r_endN C hN ?_ hr hlk dX6_init_38 (Nat.le_of_ble_eq_true rfl) (Nat.le_of_ble_eq_true rfl)
  unfold seg
  show _ = [(z + (a + 0), cellOf (eC E) z (a + 0) (Ly.2 (a + 0)) (M (a + 0))), (z + (a + 1), cellOf (eC E) z (a + 1) (Ly.2 (a + 1)) (M (a + 1))), (z + (a + 2), cellOf (eC E) z (a + 2) (Ly.2 (a + 2)) (M (a + 2))), (z + (a + 3), cellOf (eC E) z (a + 3) (Ly.2 (a + 3)) (M (a + 3)))]
  rw [hLy 0 (by decide), hM 0 (by decide), hLy 1 (by decide), hM 1 (by decide), hLy 2 (by decide), hM 2 (by decide), hLy 3 (by decide), hM 3 (by decide)]
  rfl
def ll_X1_init : List (Nat × Nat) := [(1, 0), (20, 241), (20, 241)]
set_option maxRecDepth 100000 in
set_option maxHeartbeats 8000000 in
theorem cn_X1_init (l : Launch) (E : jE) (z a : Nat) (Ly : jLy) (M : Mem) (hLy : ∀ j, j < 3 → Ly.2 (a + j) = ll_X1_init.getD j (99, 0)) (hM : ∀ j, j < 3 → M (a + j) = im_X1_init j) : CtN l yX1_init cX1_init 1 { frames := 1, cells := 2, slots := 482, locals := 100 } E z a 3 Ly M (.inr (1, [.int 0, .null, .null])) := by
  refine jmN (by decide +kernel) (Nat.le_of_ble_eq_true rfl) ?_
  intro p e sM m below meth c C hN hX hr hlk hin ls hl
  replace hl : lv_has ls 1 [(0, .ref (z + a))] := hl
  refine r_aload_n C dX1_init_0 rfl hl 0 rfl ?_
  refine r_objInit C lk_X1_3 hl.1 dX1_init_1 (Nat.le_of_ble_eq_true rfl) (Nat.le_of_ble_eq_true rfl) ?_
  refine r_aload_n C dX1_init_4 rfl hl 0 rfl ?_
  refine r_iconst C dX1_init_5 ?_
  refine r_putN C hN jc1 0 dX1_init_6 lk_X1_9 (by decide) rfl rfl rfl rfl rfl (Nat.le_of_ble_eq_true rfl) (fun H locs hN => ?_)
  replace hN : HN E z a 1 [(z + a, .inr (1, [.int (jI 0), .null, .null]))] sM H locs := hN
  refine r_aload_n C dX1_init_9 rfl hl 0 rfl ?_
  refine r_sipush C dX1_init_10 rfl ?_
  refine r_newaN (t := 0) (atype := .int) (N := 241) C hN gw_aI (Or.inl ⟨rfl, rfl⟩) ⟨by decide, by decide⟩ (by decide) rfl (by decide) (Nat.le_of_ble_eq_true rfl) (Nat.le_of_ble_eq_true rfl) dX1_init_13 (fun H hN => ?_)
  replace hN : HN E z a 2 [(z + a, .inr (1, [.int (jI 0), .null, .null])), (z + (a + 1), .inl (eC E 0, 241, .inl (fun _ => jI 0)))] sM H _ := hN
  refine r_putFN C hN jc1 1 hin rfl dX1_init_15 lk_X1_15 (by decide) rfl rfl rfl rfl rfl (Nat.le_of_ble_eq_true rfl) (fun H locs hN => ?_)
  replace hN : HN E z a 2 [(z + a, .inr (1, [.int (jI 0), .ref (z + (a + 1)), .null])), (z + (a + 1), .inl (eC E 0, 241, .inl (fun _ => jI 0)))] sM H locs := hN
  refine r_aload_n C dX1_init_18 rfl hl 0 rfl ?_
  refine r_sipush C dX1_init_19 rfl ?_
  refine r_newaN (t := 0) (atype := .int) (N := 241) C hN gw_aI (Or.inl ⟨rfl, rfl⟩) ⟨by decide, by decide⟩ (by decide) rfl (by decide) (Nat.le_of_ble_eq_true rfl) (Nat.le_of_ble_eq_true rfl) dX1_init_22 (fun H hN => ?_)
  replace hN : HN E z a 3 [(z + a, .inr (1, [.int (jI 0), .ref (z + (a + 1)), .null])), (z + (a + 1), .inl (eC E 0, 241, .inl (fun _ => jI 0))), (z + (a + 2), .inl (eC E 0, 241, .inl (fun _ => jI 0)))] sM H _ := hN
  refine r_putFN C hN jc1 2 hin rfl dX1_init_24 lk_X1_19 (by decide) rfl rfl rfl rfl rfl (Nat.le_of_ble_eq_true rfl) (fun H locs hN => ?_)
  replace hN : HN E z a 3 [(z + a, .inr (1, [.int (jI 0), .ref (z + (a + 1)), .ref (z + (a + 2))])), (z + (a + 1), .inl (eC E 0, 241, .inl (fun _ => jI 0))), (z + (a + 2), .inl (eC E 0, 241, .inl (fun _ => jI 0)))] sM H locs := hN
  refine r_endN C hN ?_ hr hlk dX1_init_27 (Nat.le_of_ble_eq_true rfl) (Nat.le_of_ble_eq_true rfl)
  unfold seg
  show _ = [(z + (a + 0), cellOf (eC E) z (a + 0) (Ly.2 (a + 0)) (M (a + 0))), (z + (a + 1), cellOf (eC E) z (a + 1) (Ly.2 (a + 1)) (M (a + 1))), (z + (a + 2), cellOf (eC E) z (a + 2) (Ly.2 (a + 2)) (M (a + 2)))]
  rw [hLy 0 (by decide), hM 0 (by decide), hLy 1 (by decide), hM 1 (by decide), hLy 2 (by decide), hM 2 (by decide)]
  rfl
def ll_X0_init : List (Nat × Nat) := [(0, 0), (20, 4096)]
set_option maxRecDepth 100000 in
set_option maxHeartbeats 8000000 in
theorem cn_X0_init (l : Launch) (E : jE) (z a : Nat) (Ly : jLy) (M : Mem) (hLy : ∀ j, j < 2 → Ly.2 (a + j) = ll_X0_init.getD j (99, 0)) (hM : ∀ j, j < 2 → M (a + j) = im_X0_init j) : CtN l yX0_init cX0_init 1 { frames := 1, cells := 1, slots := 4096, locals := 100 } E z a 2 Ly M (.inr (0, [.int 0, .int 0, .int 0, .null])) := by
  refine jmN (by decide +kernel) (Nat.le_of_ble_eq_true rfl) ?_
  intro p e sM m below meth c C hN hX hr hlk hin ls hl
  replace hl : lv_has ls 1 [(0, .ref (z + a))] := hl
  refine r_aload_n C dX0_init_0 rfl hl 0 rfl ?_
  refine r_objInit C lk_X0_3 hl.1 dX0_init_1 (Nat.le_of_ble_eq_true rfl) (Nat.le_of_ble_eq_true rfl) ?_
  refine r_aload_n C dX0_init_4 rfl hl 0 rfl ?_
  refine r_iconst C dX0_init_5 ?_
  refine r_putN C hN jc0 0 dX0_init_6 lk_X0_9 (by decide) rfl rfl rfl rfl rfl (Nat.le_of_ble_eq_true rfl) (fun H locs hN => ?_)
  replace hN : HN E z a 1 [(z + a, .inr (0, [.int (jI (-1)), .int 0, .int 0, .null]))] sM H locs := hN
  refine r_aload_n C dX0_init_9 rfl hl 0 rfl ?_
  refine r_iconst C dX0_init_10 ?_
  refine r_putN C hN jc0 1 dX0_init_11 lk_X0_15 (by decide) rfl rfl rfl rfl rfl (Nat.le_of_ble_eq_true rfl) (fun H locs hN => ?_)
  replace hN : HN E z a 1 [(z + a, .inr (0, [.int (jI (-1)), .int (jI (-1)), .int 0, .null]))] sM H locs := hN
  refine r_aload_n C dX0_init_14 rfl hl 0 rfl ?_
  refine r_iconst C dX0_init_15 ?_
  refine r_putN C hN jc0 2 dX0_init_16 lk_X0_18 (by decide) rfl rfl rfl rfl rfl (Nat.le_of_ble_eq_true rfl) (fun H locs hN => ?_)
  replace hN : HN E z a 1 [(z + a, .inr (0, [.int (jI (-1)), .int (jI (-1)), .int (jI (-1)), .null]))] sM H locs := hN
  refine r_aload_n C dX0_init_19 rfl hl 0 rfl ?_
  refine r_sipush C dX0_init_20 rfl ?_
  refine r_newaN (t := 0) (atype := .int) (N := 4096) C hN gw_aI (Or.inl ⟨rfl, rfl⟩) ⟨by decide, by decide⟩ (by decide) rfl (by decide) (Nat.le_of_ble_eq_true rfl) (Nat.le_of_ble_eq_true rfl) dX0_init_23 (fun H hN => ?_)
  replace hN : HN E z a 2 [(z + a, .inr (0, [.int (jI (-1)), .int (jI (-1)), .int (jI (-1)), .null])), (z + (a + 1), .inl (eC E 0, 4096, .inl (fun _ => jI 0)))] sM H _ := hN
  refine r_putFN C hN jc0 3 hin rfl dX0_init_25 lk_X0_21 (by decide) rfl rfl rfl rfl rfl (Nat.le_of_ble_eq_true rfl) (fun H locs hN => ?_)
  replace hN : HN E z a 2 [(z + a, .inr (0, [.int (jI (-1)), .int (jI (-1)), .int (jI (-1)), .ref (z + (a + 1))])), (z + (a + 1), .inl (eC E 0, 4096, .inl (fun _ => jI 0)))] sM H locs := hN
  refine r_endN C hN ?_ hr hlk dX0_init_28 (Nat.le_of_ble_eq_true rfl) (Nat.le_of_ble_eq_true rfl)
  unfold seg
  show _ = [(z + (a + 0), cellOf (eC E) z (a + 0) (Ly.2 (a + 0)) (M (a + 0))), (z + (a + 1), cellOf (eC E) z (a + 1) (Ly.2 (a + 1)) (M (a + 1)))]
  rw [hLy 0 (by decide), hM 0 (by decide), hLy 1 (by decide), hM 1 (by decide)]
  rfl
def ll_X3_init : List (Nat × Nat) := [(3, 0), (20, 12), (20, 12), (21, 48), (20, 6), (20, 10), (20, 10), (20, 10), (20, 5), (22, 5)]
set_option maxRecDepth 100000 in
set_option maxHeartbeats 8000000 in
theorem cn_X3_init (l : Launch) (E : jE) (z a : Nat) (Ly : jLy) (M : Mem) (hLy : ∀ j, j < 10 → Ly.2 (a + j) = ll_X3_init.getD j (99, 0)) (hM : ∀ j, j < 10 → M (a + j) = im_X3_init j) : CtN l yX3_init cX3_init 1 { frames := 1, cells := 9, slots := 118, locals := 100 } E z a 10 Ly M (.inr (3, [.int 0, .null, .null, .int 0, .null, .null, .int 0, .null, .null, .null, .null, .null])) := by
  refine jmN (by decide +kernel) (Nat.le_of_ble_eq_true rfl) ?_
  intro p e sM m below meth c C hN hX hr hlk hin ls hl
  replace hl : lv_has ls 1 [(0, .ref (z + a))] := hl
  refine r_aload_n C dX3_init_0 rfl hl 0 rfl ?_
  refine r_objInit C lk_X3_3 hl.1 dX3_init_1 (Nat.le_of_ble_eq_true rfl) (Nat.le_of_ble_eq_true rfl) ?_
  refine r_aload_n C dX3_init_4 rfl hl 0 rfl ?_
  refine r_iconst C dX3_init_5 ?_
  refine r_putN C hN jc3 0 dX3_init_6 lk_X3_9 (by decide) rfl rfl rfl rfl rfl (Nat.le_of_ble_eq_true rfl) (fun H locs hN => ?_)
  replace hN : HN E z a 1 [(z + a, .inr (3, [.int (jI 0), .null, .null, .int 0, .null, .null, .int 0, .null, .null, .null, .null, .null]))] sM H locs := hN
  refine r_aload_n C dX3_init_9 rfl hl 0 rfl ?_
  refine r_bipush C dX3_init_10 rfl ?_
  refine r_newaN (t := 0) (atype := .int) (N := 12) C hN gw_aI (Or.inl ⟨rfl, rfl⟩) ⟨by decide, by decide⟩ (by decide) rfl (by decide) (Nat.le_of_ble_eq_true rfl) (Nat.le_of_ble_eq_true rfl) dX3_init_12 (fun H hN => ?_)
  replace hN : HN E z a 2 [(z + a, .inr (3, [.int (jI 0), .null, .null, .int 0, .null, .null, .int 0, .null, .null, .null, .null, .null])), (z + (a + 1), .inl (eC E 0, 12, .inl (fun _ => jI 0)))] sM H _ := hN
  refine r_putFN C hN jc3 1 hin rfl dX3_init_14 lk_X3_15 (by decide) rfl rfl rfl rfl rfl (Nat.le_of_ble_eq_true rfl) (fun H locs hN => ?_)
  replace hN : HN E z a 2 [(z + a, .inr (3, [.int (jI 0), .ref (z + (a + 1)), .null, .int 0, .null, .null, .int 0, .null, .null, .null, .null, .null])), (z + (a + 1), .inl (eC E 0, 12, .inl (fun _ => jI 0)))] sM H locs := hN
  refine r_aload_n C dX3_init_17 rfl hl 0 rfl ?_
  refine r_bipush C dX3_init_18 rfl ?_
  refine r_newaN (t := 0) (atype := .int) (N := 12) C hN gw_aI (Or.inl ⟨rfl, rfl⟩) ⟨by decide, by decide⟩ (by decide) rfl (by decide) (Nat.le_of_ble_eq_true rfl) (Nat.le_of_ble_eq_true rfl) dX3_init_20 (fun H hN => ?_)
  replace hN : HN E z a 3 [(z + a, .inr (3, [.int (jI 0), .ref (z + (a + 1)), .null, .int 0, .null, .null, .int 0, .null, .null, .null, .null, .null])), (z + (a + 1), .inl (eC E 0, 12, .inl (fun _ => jI 0))), (z + (a + 2), .inl (eC E 0, 12, .inl (fun _ => jI 0)))] sM H _ := hN
  refine r_putFN C hN jc3 2 hin rfl dX3_init_22 lk_X3_19 (by decide) rfl rfl rfl rfl rfl (Nat.le_of_ble_eq_true rfl) (fun H locs hN => ?_)
  replace hN : HN E z a 3 [(z + a, .inr (3, [.int (jI 0), .ref (z + (a + 1)), .ref (z + (a + 2)), .int 0, .null, .null, .int 0, .null, .null, .null, .null, .null])), (z + (a + 1), .inl (eC E 0, 12, .inl (fun _ => jI 0))), (z + (a + 2), .inl (eC E 0, 12, .inl (fun _ => jI 0)))] sM H locs := hN
  refine r_aload_n C dX3_init_25 rfl hl 0 rfl ?_
  refine r_iconst C dX3_init_26 ?_
  refine r_putN C hN jc3 3 dX3_init_27 lk_X3_22 (by decide) rfl rfl rfl rfl rfl (Nat.le_of_ble_eq_true rfl) (fun H locs hN => ?_)
  replace hN : HN E z a 3 [(z + a, .inr (3, [.int (jI 0), .ref (z + (a + 1)), .ref (z + (a + 2)), .int (jI 0), .null, .null, .int 0, .null, .null, .null, .null, .null])), (z + (a + 1), .inl (eC E 0, 12, .inl (fun _ => jI 0))), (z + (a + 2), .inl (eC E 0, 12, .inl (fun _ => jI 0)))] sM H locs := hN
  refine r_aload_n C dX3_init_30 rfl hl 0 rfl ?_
  refine r_bipush C dX3_init_31 rfl ?_
  refine r_newaN (t := 1) (atype := .byte) (N := 48) C hN gw_aB (Or.inr (Or.inl ⟨rfl, rfl⟩)) ⟨by decide, by decide⟩ (by decide) rfl (by decide) (Nat.le_of_ble_eq_true rfl) (Nat.le_of_ble_eq_true rfl) dX3_init_33 (fun H hN => ?_)
  replace hN : HN E z a 4 [(z + a, .inr (3, [.int (jI 0), .ref (z + (a + 1)), .ref (z + (a + 2)), .int (jI 0), .null, .null, .int 0, .null, .null, .null, .null, .null])), (z + (a + 1), .inl (eC E 0, 12, .inl (fun _ => jI 0))), (z + (a + 2), .inl (eC E 0, 12, .inl (fun _ => jI 0))), (z + (a + 3), .inl (eC E 1, 48, .inl (fun _ => jI 0)))] sM H _ := hN
  refine r_putFN C hN jc3 4 hin rfl dX3_init_35 lk_X3_25 (by decide) rfl rfl rfl rfl rfl (Nat.le_of_ble_eq_true rfl) (fun H locs hN => ?_)
  replace hN : HN E z a 4 [(z + a, .inr (3, [.int (jI 0), .ref (z + (a + 1)), .ref (z + (a + 2)), .int (jI 0), .ref (z + (a + 3)), .null, .int 0, .null, .null, .null, .null, .null])), (z + (a + 1), .inl (eC E 0, 12, .inl (fun _ => jI 0))), (z + (a + 2), .inl (eC E 0, 12, .inl (fun _ => jI 0))), (z + (a + 3), .inl (eC E 1, 48, .inl (fun _ => jI 0)))] sM H locs := hN
  refine r_aload_n C dX3_init_38 rfl hl 0 rfl ?_
  refine r_bipush C dX3_init_39 rfl ?_
  refine r_newaN (t := 0) (atype := .int) (N := 6) C hN gw_aI (Or.inl ⟨rfl, rfl⟩) ⟨by decide, by decide⟩ (by decide) rfl (by decide) (Nat.le_of_ble_eq_true rfl) (Nat.le_of_ble_eq_true rfl) dX3_init_41 (fun H hN => ?_)
  replace hN : HN E z a 5 [(z + a, .inr (3, [.int (jI 0), .ref (z + (a + 1)), .ref (z + (a + 2)), .int (jI 0), .ref (z + (a + 3)), .null, .int 0, .null, .null, .null, .null, .null])), (z + (a + 1), .inl (eC E 0, 12, .inl (fun _ => jI 0))), (z + (a + 2), .inl (eC E 0, 12, .inl (fun _ => jI 0))), (z + (a + 3), .inl (eC E 1, 48, .inl (fun _ => jI 0))), (z + (a + 4), .inl (eC E 0, 6, .inl (fun _ => jI 0)))] sM H _ := hN
  refine r_putFN C hN jc3 5 hin rfl dX3_init_43 lk_X3_29 (by decide) rfl rfl rfl rfl rfl (Nat.le_of_ble_eq_true rfl) (fun H locs hN => ?_)
  replace hN : HN E z a 5 [(z + a, .inr (3, [.int (jI 0), .ref (z + (a + 1)), .ref (z + (a + 2)), .int (jI 0), .ref (z + (a + 3)), .ref (z + (a + 4)), .int 0, .null, .null, .null, .null, .null])), (z + (a + 1), .inl (eC E 0, 12, .inl (fun _ => jI 0))), (z + (a + 2), .inl (eC E 0, 12, .inl (fun _ => jI 0))), (z + (a + 3), .inl (eC E 1, 48, .inl (fun _ => jI 0))), (z + (a + 4), .inl (eC E 0, 6, .inl (fun _ => jI 0)))] sM H locs := hN
  refine r_aload_n C dX3_init_46 rfl hl 0 rfl ?_
  refine r_iconst C dX3_init_47 ?_
  refine r_putN C hN jc3 6 dX3_init_48 lk_X3_32 (by decide) rfl rfl rfl rfl rfl (Nat.le_of_ble_eq_true rfl) (fun H locs hN => ?_)
  replace hN : HN E z a 5 [(z + a, .inr (3, [.int (jI 0), .ref (z + (a + 1)), .ref (z + (a + 2)), .int (jI 0), .ref (z + (a + 3)), .ref (z + (a + 4)), .int (jI 0), .null, .null, .null, .null, .null])), (z + (a + 1), .inl (eC E 0, 12, .inl (fun _ => jI 0))), (z + (a + 2), .inl (eC E 0, 12, .inl (fun _ => jI 0))), (z + (a + 3), .inl (eC E 1, 48, .inl (fun _ => jI 0))), (z + (a + 4), .inl (eC E 0, 6, .inl (fun _ => jI 0)))] sM H locs := hN
  refine r_aload_n C dX3_init_51 rfl hl 0 rfl ?_
  refine r_bipush C dX3_init_52 rfl ?_
  refine r_newaN (t := 0) (atype := .int) (N := 10) C hN gw_aI (Or.inl ⟨rfl, rfl⟩) ⟨by decide, by decide⟩ (by decide) rfl (by decide) (Nat.le_of_ble_eq_true rfl) (Nat.le_of_ble_eq_true rfl) dX3_init_54 (fun H hN => ?_)
  replace hN : HN E z a 6 [(z + a, .inr (3, [.int (jI 0), .ref (z + (a + 1)), .ref (z + (a + 2)), .int (jI 0), .ref (z + (a + 3)), .ref (z + (a + 4)), .int (jI 0), .null, .null, .null, .null, .null])), (z + (a + 1), .inl (eC E 0, 12, .inl (fun _ => jI 0))), (z + (a + 2), .inl (eC E 0, 12, .inl (fun _ => jI 0))), (z + (a + 3), .inl (eC E 1, 48, .inl (fun _ => jI 0))), (z + (a + 4), .inl (eC E 0, 6, .inl (fun _ => jI 0))), (z + (a + 5), .inl (eC E 0, 10, .inl (fun _ => jI 0)))] sM H _ := hN
  refine r_putFN C hN jc3 7 hin rfl dX3_init_56 lk_X3_35 (by decide) rfl rfl rfl rfl rfl (Nat.le_of_ble_eq_true rfl) (fun H locs hN => ?_)
  replace hN : HN E z a 6 [(z + a, .inr (3, [.int (jI 0), .ref (z + (a + 1)), .ref (z + (a + 2)), .int (jI 0), .ref (z + (a + 3)), .ref (z + (a + 4)), .int (jI 0), .ref (z + (a + 5)), .null, .null, .null, .null])), (z + (a + 1), .inl (eC E 0, 12, .inl (fun _ => jI 0))), (z + (a + 2), .inl (eC E 0, 12, .inl (fun _ => jI 0))), (z + (a + 3), .inl (eC E 1, 48, .inl (fun _ => jI 0))), (z + (a + 4), .inl (eC E 0, 6, .inl (fun _ => jI 0))), (z + (a + 5), .inl (eC E 0, 10, .inl (fun _ => jI 0)))] sM H locs := hN
  refine r_aload_n C dX3_init_59 rfl hl 0 rfl ?_
  refine r_bipush C dX3_init_60 rfl ?_
  refine r_newaN (t := 0) (atype := .int) (N := 10) C hN gw_aI (Or.inl ⟨rfl, rfl⟩) ⟨by decide, by decide⟩ (by decide) rfl (by decide) (Nat.le_of_ble_eq_true rfl) (Nat.le_of_ble_eq_true rfl) dX3_init_62 (fun H hN => ?_)
  replace hN : HN E z a 7 [(z + a, .inr (3, [.int (jI 0), .ref (z + (a + 1)), .ref (z + (a + 2)), .int (jI 0), .ref (z + (a + 3)), .ref (z + (a + 4)), .int (jI 0), .ref (z + (a + 5)), .null, .null, .null, .null])), (z + (a + 1), .inl (eC E 0, 12, .inl (fun _ => jI 0))), (z + (a + 2), .inl (eC E 0, 12, .inl (fun _ => jI 0))), (z + (a + 3), .inl (eC E 1, 48, .inl (fun _ => jI 0))), (z + (a + 4), .inl (eC E 0, 6, .inl (fun _ => jI 0))), (z + (a + 5), .inl (eC E 0, 10, .inl (fun _ => jI 0))), (z + (a + 6), .inl (eC E 0, 10, .inl (fun _ => jI 0)))] sM H _ := hN
  refine r_putFN C hN jc3 8 hin rfl dX3_init_64 lk_X3_38 (by decide) rfl rfl rfl rfl rfl (Nat.le_of_ble_eq_true rfl) (fun H locs hN => ?_)
  replace hN : HN E z a 7 [(z + a, .inr (3, [.int (jI 0), .ref (z + (a + 1)), .ref (z + (a + 2)), .int (jI 0), .ref (z + (a + 3)), .ref (z + (a + 4)), .int (jI 0), .ref (z + (a + 5)), .ref (z + (a + 6)), .null, .null, .null])), (z + (a + 1), .inl (eC E 0, 12, .inl (fun _ => jI 0))), (z + (a + 2), .inl (eC E 0, 12, .inl (fun _ => jI 0))), (z + (a + 3), .inl (eC E 1, 48, .inl (fun _ => jI 0))), (z + (a + 4), .inl (eC E 0, 6, .inl (fun _ => jI 0))), (z + (a + 5), .inl (eC E 0, 10, .inl (fun _ => jI 0))), (z + (a + 6), .inl (eC E 0, 10, .inl (fun _ => jI 0)))] sM H locs := hN
  refine r_aload_n C dX3_init_67 rfl hl 0 rfl ?_
  refine r_bipush C dX3_init_68 rfl ?_
  refine r_newaN (t := 0) (atype := .int) (N := 10) C hN gw_aI (Or.inl ⟨rfl, rfl⟩) ⟨by decide, by decide⟩ (by decide) rfl (by decide) (Nat.le_of_ble_eq_true rfl) (Nat.le_of_ble_eq_true rfl) dX3_init_70 (fun H hN => ?_)
  replace hN : HN E z a 8 [(z + a, .inr (3, [.int (jI 0), .ref (z + (a + 1)), .ref (z + (a + 2)), .int (jI 0), .ref (z + (a + 3)), .ref (z + (a + 4)), .int (jI 0), .ref (z + (a + 5)), .ref (z + (a + 6)), .null, .null, .null])), (z + (a + 1), .inl (eC E 0, 12, .inl (fun _ => jI 0))), (z + (a + 2), .inl (eC E 0, 12, .inl (fun _ => jI 0))), (z + (a + 3), .inl (eC E 1, 48, .inl (fun _ => jI 0))), (z + (a + 4), .inl (eC E 0, 6, .inl (fun _ => jI 0))), (z + (a + 5), .inl (eC E 0, 10, .inl (fun _ => jI 0))), (z + (a + 6), .inl (eC E 0, 10, .inl (fun _ => jI 0))), (z + (a + 7), .inl (eC E 0, 10, .inl (fun _ => jI 0)))] sM H _ := hN
  refine r_putFN C hN jc3 9 hin rfl dX3_init_72 lk_X3_41 (by decide) rfl rfl rfl rfl rfl (Nat.le_of_ble_eq_true rfl) (fun H locs hN => ?_)
  replace hN : HN E z a 8 [(z + a, .inr (3, [.int (jI 0), .ref (z + (a + 1)), .ref (z + (a + 2)), .int (jI 0), .ref (z + (a + 3)), .ref (z + (a + 4)), .int (jI 0), .ref (z + (a + 5)), .ref (z + (a + 6)), .ref (z + (a + 7)), .null, .null])), (z + (a + 1), .inl (eC E 0, 12, .inl (fun _ => jI 0))), (z + (a + 2), .inl (eC E 0, 12, .inl (fun _ => jI 0))), (z + (a + 3), .inl (eC E 1, 48, .inl (fun _ => jI 0))), (z + (a + 4), .inl (eC E 0, 6, .inl (fun _ => jI 0))), (z + (a + 5), .inl (eC E 0, 10, .inl (fun _ => jI 0))), (z + (a + 6), .inl (eC E 0, 10, .inl (fun _ => jI 0))), (z + (a + 7), .inl (eC E 0, 10, .inl (fun _ => jI 0)))] sM H locs := hN
  refine r_aload_n C dX3_init_75 rfl hl 0 rfl ?_
  refine r_iconst C dX3_init_76 ?_
  refine r_newaN (t := 0) (atype := .int) (N := 5) C hN gw_aI (Or.inl ⟨rfl, rfl⟩) ⟨by decide, by decide⟩ (by decide) rfl (by decide) (Nat.le_of_ble_eq_true rfl) (Nat.le_of_ble_eq_true rfl) dX3_init_77 (fun H hN => ?_)
  replace hN : HN E z a 9 [(z + a, .inr (3, [.int (jI 0), .ref (z + (a + 1)), .ref (z + (a + 2)), .int (jI 0), .ref (z + (a + 3)), .ref (z + (a + 4)), .int (jI 0), .ref (z + (a + 5)), .ref (z + (a + 6)), .ref (z + (a + 7)), .null, .null])), (z + (a + 1), .inl (eC E 0, 12, .inl (fun _ => jI 0))), (z + (a + 2), .inl (eC E 0, 12, .inl (fun _ => jI 0))), (z + (a + 3), .inl (eC E 1, 48, .inl (fun _ => jI 0))), (z + (a + 4), .inl (eC E 0, 6, .inl (fun _ => jI 0))), (z + (a + 5), .inl (eC E 0, 10, .inl (fun _ => jI 0))), (z + (a + 6), .inl (eC E 0, 10, .inl (fun _ => jI 0))), (z + (a + 7), .inl (eC E 0, 10, .inl (fun _ => jI 0))), (z + (a + 8), .inl (eC E 0, 5, .inl (fun _ => jI 0)))] sM H _ := hN
  refine r_putFN C hN jc3 10 hin rfl dX3_init_79 lk_X3_44 (by decide) rfl rfl rfl rfl rfl (Nat.le_of_ble_eq_true rfl) (fun H locs hN => ?_)
  replace hN : HN E z a 9 [(z + a, .inr (3, [.int (jI 0), .ref (z + (a + 1)), .ref (z + (a + 2)), .int (jI 0), .ref (z + (a + 3)), .ref (z + (a + 4)), .int (jI 0), .ref (z + (a + 5)), .ref (z + (a + 6)), .ref (z + (a + 7)), .ref (z + (a + 8)), .null])), (z + (a + 1), .inl (eC E 0, 12, .inl (fun _ => jI 0))), (z + (a + 2), .inl (eC E 0, 12, .inl (fun _ => jI 0))), (z + (a + 3), .inl (eC E 1, 48, .inl (fun _ => jI 0))), (z + (a + 4), .inl (eC E 0, 6, .inl (fun _ => jI 0))), (z + (a + 5), .inl (eC E 0, 10, .inl (fun _ => jI 0))), (z + (a + 6), .inl (eC E 0, 10, .inl (fun _ => jI 0))), (z + (a + 7), .inl (eC E 0, 10, .inl (fun _ => jI 0))), (z + (a + 8), .inl (eC E 0, 5, .inl (fun _ => jI 0)))] sM H locs := hN
  refine r_aload_n C dX3_init_82 rfl hl 0 rfl ?_
  refine r_iconst C dX3_init_83 ?_
  refine r_newaN (t := 2) (atype := .boolean) (N := 5) C hN gw_aZ (Or.inr (Or.inr ⟨rfl, rfl⟩)) ⟨by decide, by decide⟩ (by decide) rfl (by decide) (Nat.le_of_ble_eq_true rfl) (Nat.le_of_ble_eq_true rfl) dX3_init_84 (fun H hN => ?_)
  replace hN : HN E z a 10 [(z + a, .inr (3, [.int (jI 0), .ref (z + (a + 1)), .ref (z + (a + 2)), .int (jI 0), .ref (z + (a + 3)), .ref (z + (a + 4)), .int (jI 0), .ref (z + (a + 5)), .ref (z + (a + 6)), .ref (z + (a + 7)), .ref (z + (a + 8)), .null])), (z + (a + 1), .inl (eC E 0, 12, .inl (fun _ => jI 0))), (z + (a + 2), .inl (eC E 0, 12, .inl (fun _ => jI 0))), (z + (a + 3), .inl (eC E 1, 48, .inl (fun _ => jI 0))), (z + (a + 4), .inl (eC E 0, 6, .inl (fun _ => jI 0))), (z + (a + 5), .inl (eC E 0, 10, .inl (fun _ => jI 0))), (z + (a + 6), .inl (eC E 0, 10, .inl (fun _ => jI 0))), (z + (a + 7), .inl (eC E 0, 10, .inl (fun _ => jI 0))), (z + (a + 8), .inl (eC E 0, 5, .inl (fun _ => jI 0))), (z + (a + 9), .inl (eC E 2, 5, .inl (fun _ => jI 0)))] sM H _ := hN
  refine r_putFN C hN jc3 11 hin rfl dX3_init_86 lk_X3_47 (by decide) rfl rfl rfl rfl rfl (Nat.le_of_ble_eq_true rfl) (fun H locs hN => ?_)
  replace hN : HN E z a 10 [(z + a, .inr (3, [.int (jI 0), .ref (z + (a + 1)), .ref (z + (a + 2)), .int (jI 0), .ref (z + (a + 3)), .ref (z + (a + 4)), .int (jI 0), .ref (z + (a + 5)), .ref (z + (a + 6)), .ref (z + (a + 7)), .ref (z + (a + 8)), .ref (z + (a + 9))])), (z + (a + 1), .inl (eC E 0, 12, .inl (fun _ => jI 0))), (z + (a + 2), .inl (eC E 0, 12, .inl (fun _ => jI 0))), (z + (a + 3), .inl (eC E 1, 48, .inl (fun _ => jI 0))), (z + (a + 4), .inl (eC E 0, 6, .inl (fun _ => jI 0))), (z + (a + 5), .inl (eC E 0, 10, .inl (fun _ => jI 0))), (z + (a + 6), .inl (eC E 0, 10, .inl (fun _ => jI 0))), (z + (a + 7), .inl (eC E 0, 10, .inl (fun _ => jI 0))), (z + (a + 8), .inl (eC E 0, 5, .inl (fun _ => jI 0))), (z + (a + 9), .inl (eC E 2, 5, .inl (fun _ => jI 0)))] sM H locs := hN
  refine r_getsTN C hN rfl (by decide) dX3_init_89 ?_
  refine r_iconst C dX3_init_92 ?_
  refine r_aload_n C dX3_init_93 rfl hl 0 rfl ?_
  refine r_getN C hN jc3 10 (v := .ref (z + (a + 8))) dX3_init_94 lk_X3_44 rfl rfl (by decide) rfl ?_
  refine r_iconst C dX3_init_97 ?_
  refine r_iconst C dX3_init_98 ?_
  refine r_copyTN C hN lk_X3_54 dX3_init_99 8 rfl hl.1 (Nat.le_of_ble_eq_true rfl) (Nat.le_of_ble_eq_true rfl) (fun H locs hN => ?_)
  replace hN : HN E z a 10 [(z + a, .inr (3, [.int (jI 0), .ref (z + (a + 1)), .ref (z + (a + 2)), .int (jI 0), .ref (z + (a + 3)), .ref (z + (a + 4)), .int (jI 0), .ref (z + (a + 5)), .ref (z + (a + 6)), .ref (z + (a + 7)), .ref (z + (a + 8)), .ref (z + (a + 9))])), (z + (a + 1), .inl (eC E 0, 12, .inl (fun _ => jI 0))), (z + (a + 2), .inl (eC E 0, 12, .inl (fun _ => jI 0))), (z + (a + 3), .inl (eC E 1, 48, .inl (fun _ => jI 0))), (z + (a + 4), .inl (eC E 0, 6, .inl (fun _ => jI 0))), (z + (a + 5), .inl (eC E 0, 10, .inl (fun _ => jI 0))), (z + (a + 6), .inl (eC E 0, 10, .inl (fun _ => jI 0))), (z + (a + 7), .inl (eC E 0, 10, .inl (fun _ => jI 0))), (z + (a + 8), .inl (eC E 0, 5, .inl tF)), (z + (a + 9), .inl (eC E 2, 5, .inl (fun _ => jI 0)))] sM H locs := hN
  refine r_endN C hN ?_ hr hlk dX3_init_102 (Nat.le_of_ble_eq_true rfl) (Nat.le_of_ble_eq_true rfl)
  unfold seg
  show _ = [(z + (a + 0), cellOf (eC E) z (a + 0) (Ly.2 (a + 0)) (M (a + 0))), (z + (a + 1), cellOf (eC E) z (a + 1) (Ly.2 (a + 1)) (M (a + 1))), (z + (a + 2), cellOf (eC E) z (a + 2) (Ly.2 (a + 2)) (M (a + 2))), (z + (a + 3), cellOf (eC E) z (a + 3) (Ly.2 (a + 3)) (M (a + 3))), (z + (a + 4), cellOf (eC E) z (a + 4) (Ly.2 (a + 4)) (M (a + 4))), (z + (a + 5), cellOf (eC E) z (a + 5) (Ly.2 (a + 5)) (M (a + 5))), (z + (a + 6), cellOf (eC E) z (a + 6) (Ly.2 (a + 6)) (M (a + 6))), (z + (a + 7), cellOf (eC E) z (a + 7) (Ly.2 (a + 7)) (M (a + 7))), (z + (a + 8), cellOf (eC E) z (a + 8) (Ly.2 (a + 8)) (M (a + 8))), (z + (a + 9), cellOf (eC E) z (a + 9) (Ly.2 (a + 9)) (M (a + 9)))]
  rw [hLy 0 (by decide), hM 0 (by decide), hLy 1 (by decide), hM 1 (by decide), hLy 2 (by decide), hM 2 (by decide), hLy 3 (by decide), hM 3 (by decide), hLy 4 (by decide), hM 4 (by decide), hLy 5 (by decide), hM 5 (by decide), hLy 6 (by decide), hM 6 (by decide), hLy 7 (by decide), hM 7 (by decide), hLy 8 (by decide), hM 8 (by decide), hLy 9 (by decide), hM 9 (by decide)]
  rfl
def ll_X7_init : List (Nat × Nat) := [(7, 0), (3, 0), (20, 12), (20, 12), (21, 48), (20, 6), (20, 10), (20, 10), (20, 10), (20, 5), (22, 5), (9, 0), (21, 500), (20, 60), (20, 60), (20, 60), (22, 60), (2, 0), (20, 30), (20, 30), (20, 30), (20, 30), (20, 30), (20, 5)]
set_option maxRecDepth 100000 in
set_option maxHeartbeats 8000000 in
theorem cn_X7_init (l : Launch) (E : jE) (z a : Nat) (Ly : jLy) (M : Mem) (hLy : ∀ j, j < 24 → Ly.2 (a + j) = ll_X7_init.getD j (99, 0)) (hM : ∀ j, j < 24 → M (a + j) = im_X7_init j) : CtN l yX7_init cX7_init 1 { frames := 2, cells := 23, slots := 1039, locals := 120 } E z a 24 Ly M (.inr (7, [.null, .null, .null])) := by
  have hl_1 : ∀ j, j < 10 → Ly.2 (a + 1 + j) = ll_X3_init.getD j (99, 0) := by
    intro j hj
    rw [Nat.add_assoc, hLy (1 + j) (by omega)]
    exact (by decide +kernel : ∀ j, j < 10 → ll_X7_init.getD (1 + j) (99, 0) = ll_X3_init.getD j (99, 0)) j hj
  have hm_1 : ∀ j, j < 10 → M (a + 1 + j) = im_X3_init j := by
    intro j hj
    rw [Nat.add_assoc, hM (1 + j) (by omega)]
    funext k
    have hq : j = 0 ∨ j = 1 ∨ j = 2 ∨ j = 3 ∨ j = 4 ∨ j = 5 ∨ j = 6 ∨ j = 7 ∨ j = 8 ∨ j = 9 := by omega
    rcases hq with rfl | rfl | rfl | rfl | rfl | rfl | rfl | rfl | rfl | rfl <;> rfl
  have hl_11 : ∀ j, j < 6 → Ly.2 (a + 11 + j) = ll_X9_init.getD j (99, 0) := by
    intro j hj
    rw [Nat.add_assoc, hLy (11 + j) (by omega)]
    exact (by decide +kernel : ∀ j, j < 6 → ll_X7_init.getD (11 + j) (99, 0) = ll_X9_init.getD j (99, 0)) j hj
  have hm_11 : ∀ j, j < 6 → M (a + 11 + j) = im_X9_init j := by
    intro j hj
    rw [Nat.add_assoc, hM (11 + j) (by omega)]
    funext k
    have hq : j = 0 ∨ j = 1 ∨ j = 2 ∨ j = 3 ∨ j = 4 ∨ j = 5 := by omega
    rcases hq with rfl | rfl | rfl | rfl | rfl | rfl <;> rfl
  have hl_17 : ∀ j, j < 7 → Ly.2 (a + 17 + j) = ll_X2_init.getD j (99, 0) := by
    intro j hj
    rw [Nat.add_assoc, hLy (17 + j) (by omega)]
    exact (by decide +kernel : ∀ j, j < 7 → ll_X7_init.getD (17 + j) (99, 0) = ll_X2_init.getD j (99, 0)) j hj
  have hm_17 : ∀ j, j < 7 → M (a + 17 + j) = im_X2_init j := by
    intro j hj
    rw [Nat.add_assoc, hM (17 + j) (by omega)]
    funext k
    have hq : j = 0 ∨ j = 1 ∨ j = 2 ∨ j = 3 ∨ j = 4 ∨ j = 5 ∨ j = 6 := by omega
    rcases hq with rfl | rfl | rfl | rfl | rfl | rfl | rfl <;> rfl
  refine jmN (by decide +kernel) (Nat.le_of_ble_eq_true rfl) ?_
  intro p e sM m below meth c C hN hX hr hlk hin ls hl
  replace hl : lv_has ls 1 [(0, .ref (z + a))] := hl
  refine r_aload_n C dX7_init_0 rfl hl 0 rfl ?_
  refine r_objInit C lk_X7_1 hl.1 dX7_init_1 (Nat.le_of_ble_eq_true rfl) (Nat.le_of_ble_eq_true rfl) ?_
  refine r_aload_n C dX7_init_4 rfl hl 0 rfl ?_
  refine r_mkN (nK := 10) C hN jc3 (fs := [.int 0, .null, .null, .int 0, .null, .null, .int 0, .null, .null, .null, .null, .null]) (fun j hj => ?_) (cn_X3_init l E z (a + 1) Ly M (hl_1) (hm_1)) yi_X3_init xl_X7_7 xi_X3 xn_X3 hX (Or.inl lk_X7_9) dX7_init_5 dX7_init_8 dX7_init_9 hl.1 (Nat.le_of_ble_eq_true rfl) ⟨Nat.le_of_ble_eq_true rfl, Nat.le_of_ble_eq_true rfl⟩ ⟨Nat.le_of_ble_eq_true rfl, Nat.le_of_ble_eq_true rfl⟩ (fun H locs hN => ?_)
  · have hq : j = 0 ∨ j = 1 ∨ j = 2 ∨ j = 3 ∨ j = 4 ∨ j = 5 ∨ j = 6 ∨ j = 7 ∨ j = 8 ∨ j = 9 ∨ j = 10 ∨ j = 11 := by omega
    rcases hq with rfl | rfl | rfl | rfl | rfl | rfl | rfl | rfl | rfl | rfl | rfl | rfl <;> rfl
  replace hN : HN E z a 11 ((z + a, .inr (7, [.null, .null, .null])) :: ((seg E z (a + 1) Ly M 10))) sM H locs := hN
  refine r_putFN C hN jc7 0 hin rfl dX7_init_12 lk_X7_10 (by decide) rfl rfl rfl rfl rfl (Nat.le_of_ble_eq_true rfl) (fun H locs hN => ?_)
  replace hN : HN E z a 11 ((z + a, .inr (7, [.ref (z + (a + 1)), .null, .null])) :: ((seg E z (a + 1) Ly M 10))) sM H locs := hN
  refine r_aload_n C dX7_init_15 rfl hl 0 rfl ?_
  refine r_mkN (nK := 6) C hN jc9 (fs := [.int 0, .int 0, .null, .null, .null, .null, .null]) (fun j hj => ?_) (cn_X9_init l E z (a + 11) Ly M (hl_11) (hm_11)) yi_X9_init xl_X7_16 xi_X9 xn_X9 hX (Or.inr (List.mem_of_getElem? (i := 3) rfl)) dX7_init_16 dX7_init_19 dX7_init_20 hl.1 (Nat.le_of_ble_eq_true rfl) ⟨Nat.le_of_ble_eq_true rfl, Nat.le_of_ble_eq_true rfl⟩ ⟨Nat.le_of_ble_eq_true rfl, Nat.le_of_ble_eq_true rfl⟩ (fun H locs hN => ?_)
  · have hq : j = 0 ∨ j = 1 ∨ j = 2 ∨ j = 3 ∨ j = 4 ∨ j = 5 ∨ j = 6 := by omega
    rcases hq with rfl | rfl | rfl | rfl | rfl | rfl | rfl <;> rfl
  replace hN : HN E z a 17 ((z + a, .inr (7, [.ref (z + (a + 1)), .null, .null])) :: ((((seg E z (a + 1) Ly M 10)) ++ seg E z (a + 11) Ly M 6))) sM H locs := hN
  refine r_putFN C hN jc7 1 hin rfl dX7_init_23 lk_X7_19 (by decide) rfl rfl rfl rfl rfl (Nat.le_of_ble_eq_true rfl) (fun H locs hN => ?_)
  replace hN : HN E z a 17 ((z + a, .inr (7, [.ref (z + (a + 1)), .ref (z + (a + 11)), .null])) :: ((((seg E z (a + 1) Ly M 10)) ++ seg E z (a + 11) Ly M 6))) sM H locs := hN
  refine r_aload_n C dX7_init_26 rfl hl 0 rfl ?_
  refine r_mkN (nK := 7) C hN jc2 (fs := [.int 0, .null, .null, .null, .null, .null, .null]) (fun j hj => ?_) (cn_X2_init l E z (a + 17) Ly M (hl_17) (hm_17)) yi_X2_init xl_X7_23 xi_X2 xn_X2 hX (Or.inr (List.mem_of_getElem? (i := 4) rfl)) dX7_init_27 dX7_init_30 dX7_init_31 hl.1 (Nat.le_of_ble_eq_true rfl) ⟨Nat.le_of_ble_eq_true rfl, Nat.le_of_ble_eq_true rfl⟩ ⟨Nat.le_of_ble_eq_true rfl, Nat.le_of_ble_eq_true rfl⟩ (fun H locs hN => ?_)
  · have hq : j = 0 ∨ j = 1 ∨ j = 2 ∨ j = 3 ∨ j = 4 ∨ j = 5 ∨ j = 6 := by omega
    rcases hq with rfl | rfl | rfl | rfl | rfl | rfl | rfl <;> rfl
  replace hN : HN E z a 24 ((z + a, .inr (7, [.ref (z + (a + 1)), .ref (z + (a + 11)), .null])) :: ((((((seg E z (a + 1) Ly M 10)) ++ seg E z (a + 11) Ly M 6)) ++ seg E z (a + 17) Ly M 7))) sM H locs := hN
  refine r_putFN C hN jc7 2 hin rfl dX7_init_34 lk_X7_26 (by decide) rfl rfl rfl rfl rfl (Nat.le_of_ble_eq_true rfl) (fun H locs hN => ?_)
  replace hN : HN E z a 24 ((z + a, .inr (7, [.ref (z + (a + 1)), .ref (z + (a + 11)), .ref (z + (a + 17))])) :: ((((((seg E z (a + 1) Ly M 10)) ++ seg E z (a + 11) Ly M 6)) ++ seg E z (a + 17) Ly M 7))) sM H locs := hN
  refine r_endN C hN ?_ hr hlk dX7_init_37 (Nat.le_of_ble_eq_true rfl) (Nat.le_of_ble_eq_true rfl)
  have h0 : seg E z a Ly M 1 = [(z + a, cellOf (eC E) z (a + 0) (Ly.2 (a + 0)) (M (a + 0)))] := rfl
  rw [hLy 0 (by decide)] at h0
  rw [show seg E z a Ly M 24 = (((seg E z a Ly M 1 ++ seg E z (a + 1) Ly M 10) ++ seg E z (a + 11) Ly M 6) ++ seg E z (a + 17) Ly M 7) from by simp only [seg_app], h0]
  rfl
