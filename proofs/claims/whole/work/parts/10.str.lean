/-! Strings: length and charAt of the pool's texts -/
theorem lenST_sh : ∀ i, i < nST → ishr ((lenST.getD i 0 : Nat) : Int) 0 = ((lenST.getD i 0 : Nat) : Int) := by decide +kernel
theorem lenST_of : ∀ i, i < nST → Int32.ofNat (lenST.getD i 0) = jI ((lenST.getD i 0 : Nat) : Int) := by decide +kernel
theorem chST_nar : ∀ i, i < nST → ∀ j, j < lenST.getD i 0 → narrow .char (.int (jI (chST i j))) = .int (jI (chST i j)) := by decide +kernel
theorem jy_J3_checkIndex_8e157 : jYS yJ3_checkIndex_8e157 cJ3_checkIndex_8e157 3 (some .int) 3 := ⟨gmem 623 (by decide +kernel) (by decide +kernel), gmem 154 (by decide +kernel) (by decide +kernel), gmem 624 (by decide +kernel) (by decide +kernel), ⟨by decide, by decide, by decide +kernel⟩⟩
section JS
variable {p : Program} {l : Launch} {e : Env} {R : Room} {s : State} {m : MethodId} {args : Array Value} {below : List Frame} {meth : Method} {c : Code} {H : Heap} {locs : List Loc} {cells slots : Nat} {Q : State → Prop}
variable {cc : ByteArray} {nL : Nat} {own : String} {E : jE} {z : Nat} {Ly : jLy} {M : Mem} {pc : Nat} {ls : Array Slot} {rest : List Value}
theorem r_ldcSW (C : Cx E p c cc nL s args own m) {tx : String} {index i : Nat} (hw : (own, index, tx, i) ∈ strST) (hdg : decode cc pc = .ok (.ldc_w index, 3)) (k : W p l e R s m args below meth c H locs cells slots Q (F0 m (pc + 3) ls (.ref (eK E i) :: rest))) : W p l e R s m args below meth c H locs cells slots Q (F0 m pc ls rest) := by
  intro T hT X
  obtain ⟨t, a1, b1⟩ := k T hT X
  exact ⟨t, X.ldcStringW C.1.1 C.1.2.2.2.1 (text := tx) (a := eK E i) (C.2.2.1.2.1 _ hw).1 (C.2.2.1.2.1 _ hw).2 (g := F0 m pc ls rest) rfl (by rw [C.1.2.1]; exact hdg) t a1, b1⟩
theorem r_coder (C : Cx E p c cc nL s args own m) (hM : HS E z Ly M s H locs) {i index : Nat} (hi : i < nST) (hlink : Cond.fieldLink own index RJ0 "coder" "B" ∈ lwG) (hdg : decode cc pc = .ok (.getfield index, 3)) (kk : W p l e R s m args below meth c H locs cells slots Q (F0 m (pc + 3) ls (.int (jI 0) :: rest))) : W p l e R s m args below meth c H locs cells slots Q (F0 m pc ls (.ref (eK E i) :: rest)) :=
  vk_getf C.1.1 C.1.2.1 (C.2.2.1.1.1 i hi).2.1 hM.2.1 C.1.2.2.2.1 (C.1.2.2.2.2 _ hlink) (fun _ h => h) hdg kk
theorem r_valueS (C : Cx E p c cc nL s args own m) (hM : HS E z Ly M s H locs) {i index : Nat} (hi : i < nST) (hlink : Cond.fieldLink own index RJ0 "value" "[B" ∈ lwG) (hdg : decode cc pc = .ok (.getfield index, 3)) (kk : W p l e R s m args below meth c H locs cells slots Q (F0 m (pc + 3) ls (.ref (eV E i) :: rest))) : W p l e R s m args below meth c H locs cells slots Q (F0 m pc ls (.ref (eK E i) :: rest)) :=
  vk_getf C.1.1 C.1.2.1 (C.2.2.1.1.1 i hi).2.2.1 hM.2.1 C.1.2.2.2.1 (C.1.2.2.2.2 _ hlink) (fun _ h => h) hdg kk
theorem r_compact (C : Cx E p c cc nL s args own m) (hM : HS E z Ly M s H locs) {index : Nat} (hlink : Cond.fieldLink own index RJ0 "COMPACT_STRINGS" "Z" ∈ lwG) (hdg : decode cc pc = .ok (.getstatic index, 3)) (kk : W p l e R s m args below meth c H locs cells slots Q (F0 m (pc + 3) ls (.int (jI 1) :: rest))) : W p l e R s m args below meth c H locs cells slots Q (F0 m pc ls rest) :=
  va_gets (C := RJ0) (ref := RJ0) (n := "COMPACT_STRINGS") (d := "Z") (v := .int (jI 1)) C.1.1 C.1.2.1 C.2.2.1.2.2.1 hM.2.1 C.1.2.2.2.1 (C.1.2.2.2.2 _ hlink) (fun _ h => h) hdg kk
theorem r_siob (C : Cx E p c cc nL s args own m) (hM : HS E z Ly M s H locs) {index : Nat} (hlink : Cond.fieldLink own index RJ3 "SIOOBE_FORMATTER" "Ljava/util/function/BiFunction;" ∈ lwG) (hdg : decode cc pc = .ok (.getstatic index, 3)) (kk : ∀ v : Value, (v = .null ∨ ∃ t : Nat, v = .ref t) → W p l e R s m args below meth c H locs cells slots Q (F0 m (pc + 3) ls (v :: rest))) : W p l e R s m args below meth c H locs cells slots Q (F0 m pc ls rest) := by
  rcases C.2.2.1.2.2.2.2.2.1 with hz | ⟨t, hz⟩
  · exact va_gets C.1.1 C.1.2.1 hz hM.2.1 C.1.2.2.2.1 (C.1.2.2.2.2 _ hlink) (fun _ h => h) hdg (kk _ (Or.inl rfl))
  · exact va_gets C.1.1 C.1.2.1 hz hM.2.1 C.1.2.2.2.1 (C.1.2.2.2.2 _ hlink) (fun _ h => h) hdg (kk _ (Or.inr ⟨t, rfl⟩))
theorem r_lenV (C : Cx E p c cc nL s args own m) (hM : HS E z Ly M s H locs) {i : Nat} (hi : i < nST) (hdg : decode cc pc = .ok (.arraylength, 1)) (kk : W p l e R s m args below meth c H locs cells slots Q (F0 m (pc + 1) ls (.int (jI ((lenST.getD i 0 : Nat) : Int)) :: rest))) : W p l e R s m args below meth c H locs cells slots Q (F0 m pc ls (.ref (eV E i) :: rest)) :=
  va_tlen C.1.1 C.1.2.1 (C.2.2.1.1.1 i hi).2.2.2 hM.2.1 (lenST_of i hi) hdg kk
theorem r_baldV (C : Cx E p c cc nL s args own m) (hM : HS E z Ly M s H locs) {i : Nat} {x : Int} (hi : i < nST) (hx : inR x) (h : 0 ≤ x ∧ x < ((lenST.getD i 0 : Nat) : Int)) (hdg : decode cc pc = .ok (.baload, 1)) (kk : W p l e R s m args below meth c H locs cells slots Q (F0 m (pc + 1) ls (.int (jI ((bytST.getD i []).getD x.toNat 0).toInt) :: rest))) : W p l e R s m args below meth c H locs cells slots Q (F0 m pc ls (.int (jI x) :: .ref (eV E i) :: rest)) :=
  va_tb C.1.1 C.1.2.1 (C.2.2.1.1.1 i hi).2.2.2 hM.2.1 (jI_in h hx) (by rw [jI_nat hx, ← jI_of]) hdg kk
end JS
set_option maxRecDepth 100000 in
theorem c_coder (l : Launch) (E : jE) (z : Nat) {Ly : jLy} {M : Mem} {i : Nat} (hi : i < nST) : CtI l yJ0_coder_7d493 cJ0_coder_7d493 1 (some .byte) { frames := 0, cells := 0, slots := 0, locals := 0 } E z Ly [.ref (eK E i)] M 0 M := by
  refine jm (by decide +kernel) (Nat.le_of_ble_eq_true rfl) ?_
  intro p e sM m below meth c C hM hr hlk ls hl
  replace hl : lv_has ls 1 [(0, .ref (eK E i))] := hl
  refine r_compact C hM lk_J0_38 dJ0_coder_7d493_0 ?_
  refine r_if_eq C 13 ⟨by decide, by decide⟩ dJ0_coder_7d493_3 (by decide) (fun c => absurd c (by decide)) (fun _ => ?_)
  refine r_aload_n C dJ0_coder_7d493_6 rfl hl 0 rfl ?_
  refine r_coder C hM hi lk_J0_15 dJ0_coder_7d493_7 ?_
  refine r_goto C 14 dJ0_coder_7d493_10 (by decide) ?_
  exact r_nreturn C hM hr hlk ⟨by decide, by decide⟩ (by decide) rfl rfl dJ0_coder_7d493_14
set_option maxRecDepth 100000 in
theorem c_isLatin1 (l : Launch) (E : jE) (z : Nat) {Ly : jLy} {M : Mem} {i : Nat} (hi : i < nST) : CtI l yJ0_isLatin1_aae02 cJ0_isLatin1_aae02 1 (some .boolean) { frames := 0, cells := 0, slots := 0, locals := 0 } E z Ly [.ref (eK E i)] M 1 M := by
  refine jm (by decide +kernel) (Nat.le_of_ble_eq_true rfl) ?_
  intro p e sM m below meth c C hM hr hlk ls hl
  replace hl : lv_has ls 1 [(0, .ref (eK E i))] := hl
  refine r_compact C hM lk_J0_38 dJ0_isLatin1_aae02_0 ?_
  refine r_if_eq C 17 ⟨by decide, by decide⟩ dJ0_isLatin1_aae02_3 (by decide) (fun c => absurd c (by decide)) (fun _ => ?_)
  refine r_aload_n C dJ0_isLatin1_aae02_6 rfl hl 0 rfl ?_
  refine r_coder C hM hi lk_J0_15 dJ0_isLatin1_aae02_7 ?_
  refine r_if_ne C 17 ⟨by decide, by decide⟩ dJ0_isLatin1_aae02_10 (by decide) (fun c => absurd rfl c) (fun _ => ?_)
  refine r_iconst C dJ0_isLatin1_aae02_13 ?_
  refine r_goto C 18 dJ0_isLatin1_aae02_14 (by decide) ?_
  exact r_nreturn C hM hr hlk ⟨by decide, by decide⟩ (by decide) rfl rfl dJ0_isLatin1_aae02_18
set_option maxRecDepth 100000 in
theorem c_len (l : Launch) (E : jE) (z : Nat) {Ly : jLy} {M : Mem} {i : Nat} (hi : i < nST) : CtI l yJ0_length_8abf5 cJ0_length_8abf5 1 (some .int) { frames := 1, cells := 0, slots := 0, locals := 20 } E z Ly [.ref (eK E i)] M ((lenST.getD i 0 : Nat) : Int) M := by
  refine jm (by decide +kernel) (Nat.le_of_ble_eq_true rfl) ?_
  intro p e sM m below meth c C hM hr hlk ls hl
  replace hl : lv_has ls 1 [(0, .ref (eK E i))] := hl
  refine r_aload_n C dJ0_length_8abf5_0 rfl hl 0 rfl ?_
  refine r_valueS C hM hi lk_J0_9 dJ0_length_8abf5_1 ?_
  refine r_lenV C hM hi dJ0_length_8abf5_4 ?_
  refine r_aload_n C dJ0_length_8abf5_5 rfl hl 0 rfl ?_
  refine r_callI (As := []) (rest := [.int (jI ((lenST.getD i 0 : Nat) : Int))]) C hM (c_coder l E z hi) jy_J0_coder_7d493 lk_J0_335 dJ0_length_8abf5_6 (recvK C hM hi) rfl rfl hl.1 (Nat.le_of_ble_eq_true rfl) ⟨Nat.le_of_ble_eq_true rfl, Nat.le_of_ble_eq_true rfl⟩ ⟨rfl, rfl⟩ ⟨Nat.zero_le _, Nat.zero_le _⟩ (fun H locs hr1 hM => ?_)
  refine r_ishr C dJ0_length_8abf5_9 ?_
  exact r_nreturn C hM hr hlk (ishr_R _ _) rfl (lenST_sh i hi) rfl dJ0_length_8abf5_10
set_option maxRecDepth 100000 in
theorem c_checkIx (l : Launch) (E : jE) (z : Nat) {Ly : jLy} {M : Mem} {x n : Int} {v : Value} (hv : v = .null ∨ ∃ t : Nat, v = .ref t) (hx : inR x) (hn : inR n) (h : 0 ≤ x ∧ x < n) : CtI l yJ3_checkIndex_8e157 cJ3_checkIndex_8e157 3 (some .int) { frames := 0, cells := 0, slots := 0, locals := 0 } E z Ly [.int (jI x), .int (jI n), v] M x M := by
  rcases hv with rfl | ⟨t, rfl⟩
  all_goals
    refine jm (by decide +kernel) (Nat.le_of_ble_eq_true rfl) ?_
    intro p e sM m below meth c C hM hr hlk ls hl
    replace hl := lv_sub (l' := [(0, .int (jI x)), (1, .int (jI n))]) hl [0, 1] rfl
    refine r_iload_n C dJ3_checkIndex_8e157_0 rfl hl 0 rfl ?_
    refine r_if_lt C 9 hx dJ3_checkIndex_8e157_1 (by decide) (fun c => absurd c (by omega)) (fun _ => ?_)
    refine r_iload_n C dJ3_checkIndex_8e157_4 rfl hl 0 rfl ?_
    refine r_iload_n C dJ3_checkIndex_8e157_5 rfl hl 1 rfl ?_
    refine r_icmp_lt C 16 hx hn dJ3_checkIndex_8e157_6 (by decide) (fun _ => ?_) (fun c => absurd h.2 c)
    refine r_iload_n C dJ3_checkIndex_8e157_16 rfl hl 0 rfl ?_
    exact r_nreturn C hM hr hlk hx rfl rfl rfl dJ3_checkIndex_8e157_17
set_option maxRecDepth 100000 in
theorem c_checkS (l : Launch) (E : jE) (z : Nat) {Ly : jLy} {M : Mem} {x n : Int} (hx : inR x) (hn : inR n) (h : 0 ≤ x ∧ x < n) : CtV l yJ0_checkIndex_df160 cJ0_checkIndex_df160 2 none { frames := 1, cells := 0, slots := 0, locals := 30 } E z Ly [.int (jI x), .int (jI n)] M M := by
  refine jm (by decide +kernel) (Nat.le_of_ble_eq_true rfl) ?_
  intro p e sM m below meth c C hM hr hlk ls hl
  replace hl : lv_has ls 2 [(0, .int (jI x)), (1, .int (jI n))] := hl
  refine r_iload_n C dJ0_checkIndex_df160_0 rfl hl 0 rfl ?_
  refine r_iload_n C dJ0_checkIndex_df160_1 rfl hl 1 rfl ?_
  refine r_siob C hM lk_J0_1053 dJ0_checkIndex_df160_2 (fun v hv => ?_)
  refine r_callSI (As := [.int (jI x), .int (jI n), v]) (rest := []) C hM (c_checkIx l E z hv hx hn h) jy_J3_checkIndex_8e157 lk_J0_1059 dJ0_checkIndex_df160_5 rfl rfl hl.1 (Nat.le_of_ble_eq_true rfl) ⟨Nat.le_of_ble_eq_true rfl, Nat.le_of_ble_eq_true rfl⟩ ⟨rfl, rfl⟩ ⟨Nat.zero_le _, Nat.zero_le _⟩ (fun H locs hr1 hM => ?_)
  refine r_pop C dJ0_checkIndex_df160_8 rfl ?_
  exact r_return C hM hr hlk rfl dJ0_checkIndex_df160_9
set_option maxRecDepth 100000 in
theorem c_charL (l : Launch) (E : jE) (z : Nat) {Ly : jLy} {M : Mem} {i : Nat} {x : Int} (hi : i < nST) (hx : inR x) (h : 0 ≤ x ∧ x < ((lenST.getD i 0 : Nat) : Int)) : CtI l yJ1_charAt_3b067 cJ1_charAt_3b067 2 (some .char) { frames := 2, cells := 0, slots := 0, locals := 60 } E z Ly [.ref (eV E i), .int (jI x)] M (chST i x.toNat) M := by
  refine jm (by decide +kernel) (Nat.le_of_ble_eq_true rfl) ?_
  intro p e sM m below meth c C hM hr hlk ls hl
  replace hl : lv_has ls 2 [(0, .ref (eV E i)), (1, .int (jI x))] := hl
  refine r_iload_n C dJ1_charAt_3b067_0 rfl hl 1 rfl ?_
  refine r_aload_n C dJ1_charAt_3b067_1 rfl hl 0 rfl ?_
  refine r_lenV C hM hi dJ1_charAt_3b067_2 ?_
  refine r_callSV (As := [.int (jI x), .int (jI ((lenST.getD i 0 : Nat) : Int))]) (rest := []) C hM (c_checkS l E z hx (lenST_R i) h) jy_J0_checkIndex_df160 lk_J1_9 dJ1_charAt_3b067_3 rfl rfl hl.1 (Nat.le_of_ble_eq_true rfl) ⟨Nat.le_of_ble_eq_true rfl, Nat.le_of_ble_eq_true rfl⟩ ⟨rfl, rfl⟩ ⟨Nat.zero_le _, Nat.zero_le _⟩ (fun H locs hM => ?_)
  refine r_aload_n C dJ1_charAt_3b067_6 rfl hl 0 rfl ?_
  refine r_iload_n C dJ1_charAt_3b067_7 rfl hl 1 rfl ?_
  refine r_baldV C hM hi hx h dJ1_charAt_3b067_8 ?_
  refine r_sipush C dJ1_charAt_3b067_9 rfl ?_
  refine r_iand C dJ1_charAt_3b067_12 ?_
  refine r_i2c C dJ1_charAt_3b067_13 ?_
  exact r_nreturn C hM hr hlk (chST_R _ _) (chST_nar i hi x.toNat (by omega)) rfl rfl dJ1_charAt_3b067_14
set_option maxRecDepth 100000 in
theorem c_char (l : Launch) (E : jE) (z : Nat) {Ly : jLy} {M : Mem} {i : Nat} {x : Int} (hi : i < nST) (hx : inR x) (h : 0 ≤ x ∧ x < ((lenST.getD i 0 : Nat) : Int)) : CtI l yJ0_charAt_5068e cJ0_charAt_5068e 2 (some .char) { frames := 3, cells := 0, slots := 0, locals := 90 } E z Ly [.ref (eK E i), .int (jI x)] M (chST i x.toNat) M := by
  refine jm (by decide +kernel) (Nat.le_of_ble_eq_true rfl) ?_
  intro p e sM m below meth c C hM hr hlk ls hl
  replace hl : lv_has ls 2 [(0, .ref (eK E i)), (1, .int (jI x))] := hl
  refine r_aload_n C dJ0_charAt_5068e_0 rfl hl 0 rfl ?_
  refine r_callI (As := []) (rest := []) C hM (c_isLatin1 l E z hi) jy_J0_isLatin1_aae02 lk_J0_492 dJ0_charAt_5068e_1 (recvK C hM hi) rfl rfl hl.1 (Nat.le_of_ble_eq_true rfl) ⟨Nat.le_of_ble_eq_true rfl, Nat.le_of_ble_eq_true rfl⟩ ⟨rfl, rfl⟩ ⟨Nat.zero_le _, Nat.zero_le _⟩ (fun H locs hr1 hM => ?_)
  refine r_if_eq C 16 ⟨by decide, by decide⟩ dJ0_charAt_5068e_4 (by decide) (fun c => absurd c (by decide)) (fun _ => ?_)
  refine r_aload_n C dJ0_charAt_5068e_7 rfl hl 0 rfl ?_
  refine r_valueS C hM hi lk_J0_9 dJ0_charAt_5068e_8 ?_
  refine r_iload_n C dJ0_charAt_5068e_11 rfl hl 1 rfl ?_
  refine r_callSI (As := [.ref (eV E i), .int (jI x)]) (rest := []) C hM (c_charL l E z hi hx h) jy_J1_charAt_3b067 lk_J0_495 dJ0_charAt_5068e_12 rfl rfl hl.1 (Nat.le_of_ble_eq_true rfl) ⟨Nat.le_of_ble_eq_true rfl, Nat.le_of_ble_eq_true rfl⟩ ⟨rfl, rfl⟩ ⟨Nat.zero_le _, Nat.zero_le _⟩ (fun H locs hr1 hM => ?_)
  exact r_nreturn C hM hr hlk (chST_R _ _) (chST_nar i hi x.toNat (by omega)) rfl rfl dJ0_charAt_5068e_15
