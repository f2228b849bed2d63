/-! the world that nobody writes: Strings, static tables -/
def nST : Nat := 23
def lenST : List Nat := [4, 3, 3, 4, 5, 5, 5, 5, 6, 3, 4, 2, 5, 4, 7, 4, 6, 4, 39, 25, 23, 22, 2]
def bytST : List (List Int32) := [[115, 104, 111, 116], [109, 97, 112], [98, 97, 110], [119, 101, 101, 107], [115, 112, 101, 101, 100], [112, 97, 117, 115, 101], [108, 101, 97, 115, 116], [115, 108, 97, 99, 107], [114, 101, 112, 101, 97, 116], [109, 105, 120], [102, 114, 111, 109], [116, 111], [115, 104, 111, 116, 32], [109, 97, 112, 32], [114, 101, 112, 101, 97, 116, 32], [109, 105, 120, 32], [32, 102, 114, 111, 109, 32], [32, 116, 111, 32], [116, 104, 101, 32, 116, 101, 120, 116, 32, 119, 111, 117, 108, 100, 32, 98, 101, 32, 108, 111, 110, 103, 101, 114, 32, 116, 104, 97, 110, 32, 53, 48, 48, 32, 98, 121, 116, 101, 115], [116, 104, 101, 32, 118, 97, 108, 117, 101, 32, 105, 115, 32, 111, 117, 116, 32, 111, 102, 32, 114, 97, 110, 103, 101], [116, 104, 101, 114, 101, 32, 105, 115, 32, 110, 111, 32, 115, 117, 99, 104, 32, 110, 117, 109, 98, 101, 114], [110, 111, 116, 104, 105, 110, 103, 32, 105, 115, 32, 115, 97, 118, 101, 100, 32, 116, 104, 101, 114, 101], [125, 59]]
def strST : List (String × Nat × String × Nat) := [("NewsReel$Library", 84, "shot", 0), ("NewsReel$Library", 93, "map", 1), ("NewsReel$Library", 98, "ban", 2), ("NewsReel$Library", 114, "week", 3), ("NewsReel$Library", 116, "speed", 4), ("NewsReel$Library", 118, "pause", 5), ("NewsReel$Library", 120, "least", 6), ("NewsReel$Library", 122, "slack", 7), ("NewsReel$Items", 103, "shot", 0), ("NewsReel$Items", 109, "map", 1), ("NewsReel$Items", 111, "repeat", 8), ("NewsReel$Items", 113, "mix", 9), ("NewsReel$Items", 126, "from", 10), ("NewsReel$Items", 128, "to", 11), ("NewsReel$Output", 50, "shot ", 12), ("NewsReel$Output", 56, "map ", 13), ("NewsReel$Output", 58, "repeat ", 14), ("NewsReel$Output", 60, "mix ", 15), ("NewsReel$Output", 77, " from ", 16), ("NewsReel$Output", 82, " to ", 17), ("NewsReel", 88, "the text would be longer than 500 bytes", 18), ("NewsReel", 378, "the value is out of range", 19), ("NewsReel", 373, "there is no such number", 20), ("NewsReel", 369, "nothing is saved there", 21), ("NewsReelModel", 314, "shot", 0), ("NewsReelModel", 319, "map", 1), ("NewsReelModel", 324, "ban", 2), ("NewsReelModel", 329, "week", 3), ("NewsReelModel", 335, "speed", 4), ("NewsReelModel", 337, "pause", 5), ("NewsReelModel", 339, "least", 6), ("NewsReelModel", 341, "slack", 7), ("NewsReelModel", 380, "repeat", 8), ("NewsReelModel", 382, "mix", 9), ("NewsReelModel", 365, "from", 10), ("NewsReelModel", 367, "to", 11), ("NewsReelModel", 515, "shot ", 12), ("NewsReelModel", 523, " from ", 16), ("NewsReelModel", 525, " to ", 17), ("NewsReelModel", 530, "map ", 13), ("NewsReelModel", 532, "};", 22), ("NewsReelModel", 534, "repeat ", 14), ("NewsReelModel", 536, "mix ", 15)]
def jTab (t : Nat) : List Int := match t with
  | 0 => [0, 4, 10, 8, 0]
  | 1 => [0, 1, 0, 1, 0]
  | _ => [99, 20, 50, 50, 100]
def jTabN (t : Nat) : String := match t with
  | 0 => "SETTING_AT_FIRST"
  | 1 => "SETTING_LOWEST"
  | _ => "SETTING_HIGHEST"
def jNest : List (Nat × String) := [(51, "SETTING_AT_FIRST"), (147, "SETTING_LOWEST"), (150, "SETTING_HIGHEST")]
def Sta (E : jE) (U : State) (H : Heap) : Prop :=
  vk_S nST lenST bytST (eK E) (eV E) (eA E) U H ∧ (∀ q ∈ strST, vk_R q.1 q.2.1 q.2.2.1 (eK E q.2.2.2) U) ∧ va_Z "java/lang/String" "COMPACT_STRINGS" "Z" (.int 1) (eA E) U H ∧
  (∀ t, t < 3 → va_Z "NewsReel" (jTabN t) "[I" (.ref (eS E t)) (eA E) U H ∧ va_T .int (eS E t) 5 (fun k => .int (jI ((jTab t).getD k 0))) (eA E) U H) ∧
  (∀ q : Nat × String, q ∈ jNest → va_Nw (.fieldLinkNest "NewsReel$Library" q.1 "NewsReel" q.2 "[I" "NewsReel") U) ∧
  va_Zq RJ3 "SIOOBE_FORMATTER" "Ljava/util/function/BiFunction;" (eA E) U H ∧ vx_Zq Bundle.tN "UNASSIGNED_STACK" Bundle.steD (eA E) U H ∧ vx_Zq Bundle.tN "SUPPRESSED_SENTINEL" Bundle.listD (eA E) U H
theorem Sta.kept {E : jE} {U : State} {H H1 : Heap} (h : Sta E U H) (hq : ∀ a : Nat, a < H.size → ¬ eA E a → H1[a]? = H[a]?) : Sta E U H1 :=
  ⟨h.1.kept hq, h.2.1, h.2.2.1.kept hq, fun t ht => ⟨(h.2.2.2.1 t ht).1.kept hq, (h.2.2.2.1 t ht).2.kept hq⟩, h.2.2.2.2.1, h.2.2.2.2.2.1.kept hq, h.2.2.2.2.2.2.1.kept hq, h.2.2.2.2.2.2.2.kept hq⟩
theorem Sta.warm {E : jE} {s U : State} {H : Heap} (hW : s.WarmedH U.vm) (h : Sta E s H) : Sta E U H :=
  ⟨vk_S.moved hW.alike h.1, fun q hq => vk_R.warm hW (h.2.1 q hq), va_Z.moved hW.alike h.2.2.1, fun t ht => ⟨va_Z.moved hW.alike (h.2.2.2.1 t ht).1, va_T.moved hW.alike (h.2.2.2.1 t ht).2⟩, fun q hq => va_Nw.warmF hW (h.2.2.2.2.1 q hq), va_Zq.moved hW.alike h.2.2.2.2.2.1, vx_Zq.moved hW.alike h.2.2.2.2.2.2.1, vx_Zq.moved hW.alike h.2.2.2.2.2.2.2⟩
theorem Sta.same {E : jE} {u U : State} {H : Heap} (hv : U.vm = u.vm) (h : Sta E u H) : Sta E U H :=
  ⟨vk_S.moved (by rw [hv]; exact Vm.Alike.refl u.vm) h.1, fun q hq => vk_R.same hv (h.2.1 q hq), va_Z.moved (by rw [hv]; exact Vm.Alike.refl u.vm) h.2.2.1, fun t ht => ⟨va_Z.moved (by rw [hv]; exact Vm.Alike.refl u.vm) (h.2.2.2.1 t ht).1, va_T.moved (by rw [hv]; exact Vm.Alike.refl u.vm) (h.2.2.2.1 t ht).2⟩, fun q hq => va_Nw.same rfl hv.symm (h.2.2.2.2.1 q hq), va_Zq.moved (by rw [hv]; exact Vm.Alike.refl u.vm) h.2.2.2.2.2.1, vx_Zq.moved (by rw [hv]; exact Vm.Alike.refl u.vm) h.2.2.2.2.2.2.1, vx_Zq.moved (by rw [hv]; exact Vm.Alike.refl u.vm) h.2.2.2.2.2.2.2⟩
/-- what a method's walk has all the way -/
def Cx (E : jE) (p : Program) (c : Code) (cc : ByteArray) (nL : Nat) (s : State) (args : Array Value) (own : String) (m : MethodId) : Prop :=
  CallFix p m c cc nL s args lwG own ∧ va_K (eD E) vwCl (eT E) s ∧ Sta E s s.heap ∧ ∀ q : Nat, s.heap.size ≤ q → eA E q
/-- the heap holds the memory M -/
def HS (E : jE) (z : Nat) (Ly : jLy) (M : Mem) (s : State) (H : Heap) (locs : List Loc) : Prop :=
  va_P (eD E) vwCl (Wd (eC E) z Ly M) H ∧ va_S (eA E) s.heap H locs ∧ Mok Ly M ∧ ∀ k : Nat, k < Ly.1 → eA E (z + k)
theorem HS.ok {E : jE} {z : Nat} {Ly : jLy} {M : Mem} {s : State} {H : Heap} {locs : List Loc} (h : HS E z Ly M s H locs) (a k : Nat) : inR (M a k) := inK_R (h.2.2.1 a k)
def jPre (E : jE) (z : Nat) (Ly : jLy) (As : List Value) (M : Mem) : Array Value → State → Prop :=
  va_Pc As (fun U => va_P (eD E) vwCl (Wd (eC E) z Ly M) U.heap ∧ va_K (eD E) vwCl (eT E) U ∧ Sta E U U.heap ∧ (∀ q : Nat, U.heap.size ≤ q → eA E q) ∧ Mok Ly M ∧ ∀ k : Nat, k < Ly.1 → eA E (z + k))
theorem jPre_blind {E : jE} {z : Nat} {Ly : jLy} {As : List Value} {M : Mem} : FrameBlind (jPre E z Ly As M) := fun a U g mk q => by
  obtain ⟨q0, qP, qK, qS, qA, qM, qZ⟩ := q
  exact ⟨q0, qP, va_K.moved (u := U) (U := U.calling g mk a) (Vm.Alike.refl U.vm) qK, Sta.same (u := U) rfl qS, qA, qM, qZ⟩
def CtI (l : Launch) (y : MethodName) (cc : ByteArray) (maxL : Nat) (ret : Option FieldType) (rm : Room) (E : jE) (z : Nat) (Ly : jLy) (As : List Value) (M : Mem) (r : Int) (M' : Mem) : Prop :=
  Met l y (.code y cc maxL ret :: lwG) rm (jPre E z Ly As M) (va_Qi (fun (v : Int32) (_ : Unit) => v = jI r ∧ inR r ∧ Mok Ly M') (fun _ t => va_P (eD E) vwCl (Wd (eC E) z Ly M') t.heap) (eA E)) rm.cells rm.slots (eA E)
def CtV (l : Launch) (y : MethodName) (cc : ByteArray) (maxL : Nat) (ret : Option FieldType) (rm : Room) (E : jE) (z : Nat) (Ly : jLy) (As : List Value) (M : Mem) (M' : Mem) : Prop :=
  Met l y (.code y cc maxL ret :: lwG) rm (jPre E z Ly As M) (va_Qv (fun (_ : Unit) => Mok Ly M') (fun _ t => va_P (eD E) vwCl (Wd (eC E) z Ly M') t.heap) (eA E)) rm.cells rm.slots (eA E)
set_option maxHeartbeats 4000000 in
theorem jm {l : Launch} {y : MethodName} {cc : ByteArray} {maxL : Nat} {ret : Option FieldType} {rm : Room} {E : jE} {z : Nat} {Ly : jLy} {As : List Value} {M : Mem} {Qc : Array Value → State → Outcome → State → Prop} (hy : plainName y.cls = true) (hn : (lg_sl As).length ≤ maxL)
    (body : ∀ (p : Program) (e : Env) (s : State) (m : MethodId) (below : List Frame) (meth : Method) (c : Code), Cx E p c cc maxL s As.toArray y.cls m → HS E z Ly M s s.heap [] → meth.sig.returnType = ret → meth.locks = false → ∀ ls : Array Slot, lv_has ls maxL (lv_args 0 As) →
      W p l e rm s m As.toArray below meth c s.heap [] 0 0 (MQ below Qc As.toArray s rm.cells rm.slots (eA E)) (F0 m 0 ls [])) :
    Met l y (.code y cc maxL ret :: lwG) rm (jPre E z Ly As M) Qc rm.cells rm.slots (eA E) := by
  refine Met.ofW (cc := cc) (maxL := maxL) (ret := ret) hy rfl ?_
  intro p e s m args below meth c s₁ B hml hv
  obtain ⟨rfl, hP, hK, hSt, hA, hM, hZ⟩ := hv
  have hts := atoms_spec (ws := Cond.code y cc maxL ret :: lwG) B.pre
  have hown : s.vm.findClass y.cls = some m.cls := findClass_of_methodNamed B.named
  have hl := lv_entry As (n := maxL) hn
  rw [lg_entry_eq]
  exact body p e s m below meth c ⟨⟨B.exec, B.bytes, hml, hown, fun w hw => hts w (List.mem_cons_of_mem _ hw)⟩, hK, hSt, hA⟩ ⟨hP, va_S.rf, hM, hZ⟩ B.returns B.notSynchronized _ hl
def jCl (ci : Nat) (C : String) (T : u_T) (N : Nat) (ty : Nat → FieldType) : Prop :=
  vwCl[ci]? = some (C, T, N) ∧ (∀ w ∈ u_ws C T N, w ∈ lwG) ∧ (∀ k, k < N → parseFieldDescriptor (T k).2.2.1 = some (ty k)) ∧ ∀ a, a < N → ∀ b, b < N → a ≠ b → (T a).2.1 ≠ (T b).2.1
section JR
variable {p : Program} {l : Launch} {e : Env} {R : Room} {s : State} {m : MethodId} {args : Array Value} {below : List Frame} {meth : Method} {c : Code} {H : Heap} {locs : List Loc} {cells slots : Nat} {Q : State → Prop}
variable {cc : ByteArray} {nL : Nat} {own : String} {E : jE} {z : Nat} {Ly : jLy} {M : Mem} {pc : Nat} {ls : Array Slot} {rest : List Value}
theorem r_iconst (C : Cx E p c cc nL s args own m) {n : Int} (hdg : decode cc pc = .ok (.iconst n, 1)) (k : W p l e R s m args below meth c H locs cells slots Q (F0 m (pc + 1) ls (.int (jI n) :: rest))) : W p l e R s m args below meth c H locs cells slots Q (F0 m pc ls rest) := lv_iconst C.1.1 C.1.2.1 hdg rfl k
theorem r_bipush (C : Cx E p c cc nL s args own m) {n : Int} (hdg : decode cc pc = .ok (.bipush n, 2)) (hn : (Int8.ofInt n).toInt32 = jI n) (k : W p l e R s m args below meth c H locs cells slots Q (F0 m (pc + 2) ls (.int (jI n) :: rest))) : W p l e R s m args below meth c H locs cells slots Q (F0 m pc ls rest) := lv_bipush C.1.1 C.1.2.1 hdg hn k
theorem r_sipush (C : Cx E p c cc nL s args own m) {n : Int} (hdg : decode cc pc = .ok (.sipush n, 3)) (hn : (Int16.ofInt n).toInt32 = jI n) (k : W p l e R s m args below meth c H locs cells slots Q (F0 m (pc + 3) ls (.int (jI n) :: rest))) : W p l e R s m args below meth c H locs cells slots Q (F0 m pc ls rest) := lv_sipush C.1.1 C.1.2.1 hdg hn k
theorem r_ldc (C : Cx E p c cc nL s args own m) {n : Int} {index : Nat} (hw : Cond.constant own index (jI n) ∈ lwG) (hdg : decode cc pc = .ok (.ldc index, 2)) (k : W p l e R s m args below meth c H locs cells slots Q (F0 m (pc + 2) ls (.int (jI n) :: rest))) : W p l e R s m args below meth c H locs cells slots Q (F0 m pc ls rest) := lv_ldc C.1.1 C.1.2.1 C.1.2.2.2.1 (C.1.2.2.2.2 _ hw) hdg k
theorem r_ldcw (C : Cx E p c cc nL s args own m) {n : Int} {index : Nat} (hw : Cond.constant own index (jI n) ∈ lwG) (hdg : decode cc pc = .ok (.ldc_w index, 3)) (k : W p l e R s m args below meth c H locs cells slots Q (F0 m (pc + 3) ls (.int (jI n) :: rest))) : W p l e R s m args below meth c H locs cells slots Q (F0 m pc ls rest) := lv_ldcw C.1.1 C.1.2.1 C.1.2.2.2.1 (C.1.2.2.2.2 _ hw) hdg k
theorem r_ldcS (C : Cx E p c cc nL s args own m) {tx : String} {index i : Nat} (hw : (own, index, tx, i) ∈ strST) (hdg : decode cc pc = .ok (.ldc index, 2)) (k : W p l e R s m args below meth c H locs cells slots Q (F0 m (pc + 2) ls (.ref (eK E i) :: rest))) : W p l e R s m args below meth c H locs cells slots Q (F0 m pc ls rest) := va_ldcS C.1.1 C.1.2.1 C.1.2.2.2.1 (C.2.2.1.2.1 _ hw) hdg k
theorem r_iload_n (C : Cx E p c cc nL s args own m) {k : Fin 4} {i : Nat} {x : Int} {lv : List (Nat × Value)} (hdg : decode cc pc = .ok (.iload_n k, 1)) (hi : (k : Nat) = i) (h : lv_has ls nL lv) (j : Nat) (hj : lv[j]? = some (i, .int (jI x))) (kk : W p l e R s m args below meth c H locs cells slots Q (F0 m (pc + 1) ls (.int (jI x) :: rest))) : W p l e R s m args below meth c H locs cells slots Q (F0 m pc ls rest) := lv_iload_n C.1.1 C.1.2.1 hdg hi (lv_at h j hj) kk
theorem r_iload (C : Cx E p c cc nL s args own m) {i : Nat} {x : Int} {lv : List (Nat × Value)} (hdg : decode cc pc = .ok (.iload i, 2)) (h : lv_has ls nL lv) (j : Nat) (hj : lv[j]? = some (i, .int (jI x))) (kk : W p l e R s m args below meth c H locs cells slots Q (F0 m (pc + 2) ls (.int (jI x) :: rest))) : W p l e R s m args below meth c H locs cells slots Q (F0 m pc ls rest) := lv_iload C.1.1 C.1.2.1 hdg (lv_at h j hj) kk
theorem r_aload_n (C : Cx E p c cc nL s args own m) {k : Fin 4} {i : Nat} {x : Nat} {lv : List (Nat × Value)} (hdg : decode cc pc = .ok (.aload_n k, 1)) (hi : (k : Nat) = i) (h : lv_has ls nL lv) (j : Nat) (hj : lv[j]? = some (i, .ref x)) (kk : W p l e R s m args below meth c H locs cells slots Q (F0 m (pc + 1) ls (.ref x :: rest))) : W p l e R s m args below meth c H locs cells slots Q (F0 m pc ls rest) := lv_aload_n C.1.1 C.1.2.1 hdg hi (lv_at h j hj) kk
theorem r_aload (C : Cx E p c cc nL s args own m) {i : Nat} {x : Nat} {lv : List (Nat × Value)} (hdg : decode cc pc = .ok (.aload i, 2)) (h : lv_has ls nL lv) (j : Nat) (hj : lv[j]? = some (i, .ref x)) (kk : W p l e R s m args below meth c H locs cells slots Q (F0 m (pc + 2) ls (.ref x :: rest))) : W p l e R s m args below meth c H locs cells slots Q (F0 m pc ls rest) := lv_aload C.1.1 C.1.2.1 hdg (lv_at h j hj) kk
theorem r_istore_n (C : Cx E p c cc nL s args own m) {k : Fin 4} {i : Nat} {x : Int32} {lv : List (Nat × Value)} (lv' : List (Nat × Value)) (hdg : decode cc pc = .ok (.istore_n k, 1)) (hi : (k : Nat) = i) (h : lv_has ls nL lv) (hn : i < nL) (hl : (i, Value.int x) :: lv.filter (fun q => !(q.1 == i) && !(q.1 + 1 == i && q.2.category == 2)) = lv') (kk : ∀ ls' : Array Slot, lv_has ls' nL lv' → W p l e R s m args below meth c H locs cells slots Q (F0 m (pc + 1) ls' rest)) : W p l e R s m args below meth c H locs cells slots Q (F0 m pc ls (.int x :: rest)) := lv_istore_n C.1.1 C.1.2.1 hdg hi h hn hl kk
theorem r_istore (C : Cx E p c cc nL s args own m) {i : Nat} {x : Int32} {lv : List (Nat × Value)} (lv' : List (Nat × Value)) (hdg : decode cc pc = .ok (.istore i, 2)) (h : lv_has ls nL lv) (hn : i < nL) (hl : (i, Value.int x) :: lv.filter (fun q => !(q.1 == i) && !(q.1 + 1 == i && q.2.category == 2)) = lv') (kk : ∀ ls' : Array Slot, lv_has ls' nL lv' → W p l e R s m args below meth c H locs cells slots Q (F0 m (pc + 2) ls' rest)) : W p l e R s m args below meth c H locs cells slots Q (F0 m pc ls (.int x :: rest)) := lv_istore C.1.1 C.1.2.1 hdg h hn hl kk
theorem r_iinc (C : Cx E p c cc nL s args own m) {i j : Nat} {n x : Int} {lv : List (Nat × Value)} (lv' : List (Nat × Value)) (hdg : decode cc pc = .ok (.iinc i n, 3)) (h : lv_has ls nL lv) (hj : lv[j]? = some (i, .int (jI x))) (hn : i < nL) (hl : (i, Value.int (jI (x + n))) :: lv.filter (fun q => !(q.1 == i) && !(q.1 + 1 == i && q.2.category == 2)) = lv') (kk : ∀ ls' : Array Slot, lv_has ls' nL lv' → W p l e R s m args below meth c H locs cells slots Q (F0 m (pc + 3) ls' rest)) : W p l e R s m args below meth c H locs cells slots Q (F0 m pc ls rest) := lv_iinc C.1.1 C.1.2.1 hdg h hj (v := jI (x + n)) (Int32.ofInt_add x n).symm hn hl kk
theorem r_iadd (C : Cx E p c cc nL s args own m) {x y : Int} (hdg : decode cc pc = .ok (.iadd, 1)) (k : W p l e R s m args below meth c H locs cells slots Q (F0 m (pc + 1) ls (.int (jI (x + y)) :: rest))) : W p l e R s m args below meth c H locs cells slots Q (F0 m pc ls (.int (jI y) :: .int (jI x) :: rest)) := lv_iadd C.1.1 C.1.2.1 hdg (by rw [show jI x + jI y = jI (x + y) from (Int32.ofInt_add x y).symm]; exact k)
theorem r_isub (C : Cx E p c cc nL s args own m) {x y : Int} (hdg : decode cc pc = .ok (.isub, 1)) (k : W p l e R s m args below meth c H locs cells slots Q (F0 m (pc + 1) ls (.int (jI (x - y)) :: rest))) : W p l e R s m args below meth c H locs cells slots Q (F0 m pc ls (.int (jI y) :: .int (jI x) :: rest)) := lv_isub C.1.1 C.1.2.1 hdg (by rw [show jI x - jI y = jI (x - y) from (Int32.ofInt_sub x y).symm]; exact k)
theorem r_imul (C : Cx E p c cc nL s args own m) {x y : Int} (hdg : decode cc pc = .ok (.imul, 1)) (k : W p l e R s m args below meth c H locs cells slots Q (F0 m (pc + 1) ls (.int (jI (x * y)) :: rest))) : W p l e R s m args below meth c H locs cells slots Q (F0 m pc ls (.int (jI y) :: .int (jI x) :: rest)) := lv_imul C.1.1 C.1.2.1 hdg (by rw [show jI x * jI y = jI (x * y) from (Int32.ofInt_mul x y).symm]; exact k)
theorem r_ineg (C : Cx E p c cc nL s args own m) {x : Int} (hdg : decode cc pc = .ok (.ineg, 1)) (k : W p l e R s m args below meth c H locs cells slots Q (F0 m (pc + 1) ls (.int (jI (-x)) :: rest))) : W p l e R s m args below meth c H locs cells slots Q (F0 m pc ls (.int (jI x) :: rest)) := lv_ineg C.1.1 C.1.2.1 hdg (by rw [show - jI x = jI (-x) from Int32.neg_ofInt]; exact k)
theorem r_idiv (C : Cx E p c cc nL s args own m) {x y : Int} (hy : inR y) (hne : y ≠ 0) (hdg : decode cc pc = .ok (.idiv, 1)) (k : W p l e R s m args below meth c H locs cells slots Q (F0 m (pc + 1) ls (.int (jI (idiv x y)) :: rest))) : W p l e R s m args below meth c H locs cells slots Q (F0 m pc ls (.int (jI y) :: .int (jI x) :: rest)) := lv_idiv C.1.1 C.1.2.1 hdg (fun q => hne (jI_inj hy ⟨by decide, by decide⟩ (show jI y = jI 0 from q))) (by rw [jI_of (jI x / jI y)]; exact k)
theorem r_irem (C : Cx E p c cc nL s args own m) {x y : Int} (hy : inR y) (hne : y ≠ 0) (hdg : decode cc pc = .ok (.irem, 1)) (k : W p l e R s m args below meth c H locs cells slots Q (F0 m (pc + 1) ls (.int (jI (irem x y)) :: rest))) : W p l e R s m args below meth c H locs cells slots Q (F0 m pc ls (.int (jI y) :: .int (jI x) :: rest)) := lv_irem C.1.1 C.1.2.1 hdg (fun q => hne (jI_inj hy ⟨by decide, by decide⟩ (show jI y = jI 0 from q))) (by rw [jI_of (jI x - jI x / jI y * jI y)]; exact k)
theorem r_iand (C : Cx E p c cc nL s args own m) {x y : Int} (hdg : decode cc pc = .ok (.iand, 1)) (k : W p l e R s m args below meth c H locs cells slots Q (F0 m (pc + 1) ls (.int (jI (iand x y)) :: rest))) : W p l e R s m args below meth c H locs cells slots Q (F0 m pc ls (.int (jI y) :: .int (jI x) :: rest)) := lv_iand C.1.1 C.1.2.1 hdg (by rw [jI_of (jI x &&& jI y)]; exact k)
theorem r_ior (C : Cx E p c cc nL s args own m) {x y : Int} (hdg : decode cc pc = .ok (.ior, 1)) (k : W p l e R s m args below meth c H locs cells slots Q (F0 m (pc + 1) ls (.int (jI (ior x y)) :: rest))) : W p l e R s m args below meth c H locs cells slots Q (F0 m pc ls (.int (jI y) :: .int (jI x) :: rest)) := lv_ior C.1.1 C.1.2.1 hdg (by rw [jI_of (jI x ||| jI y)]; exact k)
theorem r_ixor (C : Cx E p c cc nL s args own m) {x y : Int} (hdg : decode cc pc = .ok (.ixor, 1)) (k : W p l e R s m args below meth c H locs cells slots Q (F0 m (pc + 1) ls (.int (jI (ixor x y)) :: rest))) : W p l e R s m args below meth c H locs cells slots Q (F0 m pc ls (.int (jI y) :: .int (jI x) :: rest)) := lv_ixor C.1.1 C.1.2.1 hdg (by rw [jI_of (jI x ^^^ jI y)]; exact k)
theorem r_ishl (C : Cx E p c cc nL s args own m) {x y : Int} (hdg : decode cc pc = .ok (.ishl, 1)) (k : W p l e R s m args below meth c H locs cells slots Q (F0 m (pc + 1) ls (.int (jI (ishl x y)) :: rest))) : W p l e R s m args below meth c H locs cells slots Q (F0 m pc ls (.int (jI y) :: .int (jI x) :: rest)) := lv_ishl C.1.1 C.1.2.1 hdg (by rw [jI_of (jI x <<< (jI y &&& 31))]; exact k)
theorem r_ishr (C : Cx E p c cc nL s args own m) {x y : Int} (hdg : decode cc pc = .ok (.ishr, 1)) (k : W p l e R s m args below meth c H locs cells slots Q (F0 m (pc + 1) ls (.int (jI (ishr x y)) :: rest))) : W p l e R s m args below meth c H locs cells slots Q (F0 m pc ls (.int (jI y) :: .int (jI x) :: rest)) := lv_ishr C.1.1 C.1.2.1 hdg (by rw [jI_of (jI x >>> (jI y &&& 31))]; exact k)
theorem r_iushr (C : Cx E p c cc nL s args own m) {x y : Int} (hdg : decode cc pc = .ok (.iushr, 1)) (k : W p l e R s m args below meth c H locs cells slots Q (F0 m (pc + 1) ls (.int (jI (iushr x y)) :: rest))) : W p l e R s m args below meth c H locs cells slots Q (F0 m pc ls (.int (jI y) :: .int (jI x) :: rest)) := lv_iushr C.1.1 C.1.2.1 hdg (jI_of _) k
theorem r_i2b (C : Cx E p c cc nL s args own m) {x : Int} (hdg : decode cc pc = .ok (.i2b, 1)) (k : W p l e R s m args below meth c H locs cells slots Q (F0 m (pc + 1) ls (.int (jI (i2b x)) :: rest))) : W p l e R s m args below meth c H locs cells slots Q (F0 m pc ls (.int (jI x) :: rest)) := lv_i2b C.1.1 C.1.2.1 hdg (jI_of _) k
theorem r_i2c (C : Cx E p c cc nL s args own m) {x : Int} (hdg : decode cc pc = .ok (.i2c, 1)) (k : W p l e R s m args below meth c H locs cells slots Q (F0 m (pc + 1) ls (.int (jI (i2c x)) :: rest))) : W p l e R s m args below meth c H locs cells slots Q (F0 m pc ls (.int (jI x) :: rest)) := lv_i2c C.1.1 C.1.2.1 hdg (jI_of _) k
theorem iand_R (x y : Int) : inR (iand x y) := jI_R _
theorem ior_R (x y : Int) : inR (ior x y) := jI_R _
theorem ixor_R (x y : Int) : inR (ixor x y) := jI_R _
theorem ishl_R (x y : Int) : inR (ishl x y) := jI_R _
theorem ishr_R (x y : Int) : inR (ishr x y) := jI_R _
theorem iushr_R (x y : Int) : inR (iushr x y) := jI_R _
theorem idiv_R (x y : Int) : inR (idiv x y) := jI_R _
theorem irem_R (x y : Int) : inR (irem x y) := jI_R _
theorem i2b_R (x : Int) : inR (i2b x) := jI_R _
theorem i2c_R (x : Int) : inR (i2c x) := jI_R _
theorem r_if_eq (C : Cx E p c cc nL s args own m) {x : Int} {off : Int} (tgt : Nat) (hx : inR x) (hdg : decode cc pc = .ok (.ifCond .eq off, 3)) (ht : (pc : Int) + off = (tgt : Int)) (kt : x = 0 → W p l e R s m args below meth c H locs cells slots Q (F0 m tgt ls rest)) (kf : ¬ x = 0 → W p l e R s m args below meth c H locs cells slots Q (F0 m (pc + 3) ls rest)) : W p l e R s m args below meth c H locs cells slots Q (F0 m pc ls (.int (jI x) :: rest)) := by
  have hy : inR 0 := ⟨by decide, by decide⟩
  exact lv_if_eq C.1.1 C.1.2.1 hdg ht (fun q => kt ((jI_eq hx hy).mp q)) (fun q => kf (fun h => q ((jI_eq hx hy).mpr h)))
theorem r_icmp_eq (C : Cx E p c cc nL s args own m) {x y : Int} {off : Int} (tgt : Nat) (hx : inR x) (hy : inR y) (hdg : decode cc pc = .ok (.if_icmp .eq off, 3)) (ht : (pc : Int) + off = (tgt : Int)) (kt : x = y → W p l e R s m args below meth c H locs cells slots Q (F0 m tgt ls rest)) (kf : ¬ x = y → W p l e R s m args below meth c H locs cells slots Q (F0 m (pc + 3) ls rest)) : W p l e R s m args below meth c H locs cells slots Q (F0 m pc ls (.int (jI y) :: .int (jI x) :: rest)) := lv_icmp_eq C.1.1 C.1.2.1 hdg ht (fun q => kt ((jI_eq hx hy).mp q)) (fun q => kf (fun h => q ((jI_eq hx hy).mpr h)))
theorem r_if_ne (C : Cx E p c cc nL s args own m) {x : Int} {off : Int} (tgt : Nat) (hx : inR x) (hdg : decode cc pc = .ok (.ifCond .ne off, 3)) (ht : (pc : Int) + off = (tgt : Int)) (kt : ¬ x = 0 → W p l e R s m args below meth c H locs cells slots Q (F0 m tgt ls rest)) (kf : x = 0 → W p l e R s m args below meth c H locs cells slots Q (F0 m (pc + 3) ls rest)) : W p l e R s m args below meth c H locs cells slots Q (F0 m pc ls (.int (jI x) :: rest)) := by
  have hy : inR 0 := ⟨by decide, by decide⟩
  exact lv_if_ne C.1.1 C.1.2.1 hdg ht (fun q => kt (fun h => q ((jI_eq hx hy).mpr h))) (fun q => kf ((jI_eq hx hy).mp q))
theorem r_icmp_ne (C : Cx E p c cc nL s args own m) {x y : Int} {off : Int} (tgt : Nat) (hx : inR x) (hy : inR y) (hdg : decode cc pc = .ok (.if_icmp .ne off, 3)) (ht : (pc : Int) + off = (tgt : Int)) (kt : ¬ x = y → W p l e R s m args below meth c H locs cells slots Q (F0 m tgt ls rest)) (kf : x = y → W p l e R s m args below meth c H locs cells slots Q (F0 m (pc + 3) ls rest)) : W p l e R s m args below meth c H locs cells slots Q (F0 m pc ls (.int (jI y) :: .int (jI x) :: rest)) := lv_icmp_ne C.1.1 C.1.2.1 hdg ht (fun q => kt (fun h => q ((jI_eq hx hy).mpr h))) (fun q => kf ((jI_eq hx hy).mp q))
theorem r_if_lt (C : Cx E p c cc nL s args own m) {x : Int} {off : Int} (tgt : Nat) (hx : inR x) (hdg : decode cc pc = .ok (.ifCond .lt off, 3)) (ht : (pc : Int) + off = (tgt : Int)) (kt : x < 0 → W p l e R s m args below meth c H locs cells slots Q (F0 m tgt ls rest)) (kf : ¬ x < 0 → W p l e R s m args below meth c H locs cells slots Q (F0 m (pc + 3) ls rest)) : W p l e R s m args below meth c H locs cells slots Q (F0 m pc ls (.int (jI x) :: rest)) := by
  have hy : inR 0 := ⟨by decide, by decide⟩
  exact lv_if_lt C.1.1 C.1.2.1 hdg ht (fun q => kt ((jI_lt hx hy).mp q)) (fun q => kf (fun h => q ((jI_lt hx hy).mpr h)))
theorem r_icmp_lt (C : Cx E p c cc nL s args own m) {x y : Int} {off : Int} (tgt : Nat) (hx : inR x) (hy : inR y) (hdg : decode cc pc = .ok (.if_icmp .lt off, 3)) (ht : (pc : Int) + off = (tgt : Int)) (kt : x < y → W p l e R s m args below meth c H locs cells slots Q (F0 m tgt ls rest)) (kf : ¬ x < y → W p l e R s m args below meth c H locs cells slots Q (F0 m (pc + 3) ls rest)) : W p l e R s m args below meth c H locs cells slots Q (F0 m pc ls (.int (jI y) :: .int (jI x) :: rest)) := lv_icmp_lt C.1.1 C.1.2.1 hdg ht (fun q => kt ((jI_lt hx hy).mp q)) (fun q => kf (fun h => q ((jI_lt hx hy).mpr h)))
theorem r_if_ge (C : Cx E p c cc nL s args own m) {x : Int} {off : Int} (tgt : Nat) (hx : inR x) (hdg : decode cc pc = .ok (.ifCond .ge off, 3)) (ht : (pc : Int) + off = (tgt : Int)) (kt : 0 ≤ x → W p l e R s m args below meth c H locs cells slots Q (F0 m tgt ls rest)) (kf : ¬ 0 ≤ x → W p l e R s m args below meth c H locs cells slots Q (F0 m (pc + 3) ls rest)) : W p l e R s m args below meth c H locs cells slots Q (F0 m pc ls (.int (jI x) :: rest)) := by
  have hy : inR 0 := ⟨by decide, by decide⟩
  exact lv_if_ge C.1.1 C.1.2.1 hdg ht (fun q => kt ((jI_le hy hx).mp q)) (fun q => kf (fun h => q ((jI_le hy hx).mpr h)))
theorem r_icmp_ge (C : Cx E p c cc nL s args own m) {x y : Int} {off : Int} (tgt : Nat) (hx : inR x) (hy : inR y) (hdg : decode cc pc = .ok (.if_icmp .ge off, 3)) (ht : (pc : Int) + off = (tgt : Int)) (kt : y ≤ x → W p l e R s m args below meth c H locs cells slots Q (F0 m tgt ls rest)) (kf : ¬ y ≤ x → W p l e R s m args below meth c H locs cells slots Q (F0 m (pc + 3) ls rest)) : W p l e R s m args below meth c H locs cells slots Q (F0 m pc ls (.int (jI y) :: .int (jI x) :: rest)) := lv_icmp_ge C.1.1 C.1.2.1 hdg ht (fun q => kt ((jI_le hy hx).mp q)) (fun q => kf (fun h => q ((jI_le hy hx).mpr h)))
theorem r_if_gt (C : Cx E p c cc nL s args own m) {x : Int} {off : Int} (tgt : Nat) (hx : inR x) (hdg : decode cc pc = .ok (.ifCond .gt off, 3)) (ht : (pc : Int) + off = (tgt : Int)) (kt : 0 < x → W p l e R s m args below meth c H locs cells slots Q (F0 m tgt ls rest)) (kf : ¬ 0 < x → W p l e R s m args below meth c H locs cells slots Q (F0 m (pc + 3) ls rest)) : W p l e R s m args below meth c H locs cells slots Q (F0 m pc ls (.int (jI x) :: rest)) := by
  have hy : inR 0 := ⟨by decide, by decide⟩
  exact lv_if_gt C.1.1 C.1.2.1 hdg ht (fun q => kt ((jI_lt hy hx).mp q)) (fun q => kf (fun h => q ((jI_lt hy hx).mpr h)))
theorem r_icmp_gt (C : Cx E p c cc nL s args own m) {x y : Int} {off : Int} (tgt : Nat) (hx : inR x) (hy : inR y) (hdg : decode cc pc = .ok (.if_icmp .gt off, 3)) (ht : (pc : Int) + off = (tgt : Int)) (kt : y < x → W p l e R s m args below meth c H locs cells slots Q (F0 m tgt ls rest)) (kf : ¬ y < x → W p l e R s m args below meth c H locs cells slots Q (F0 m (pc + 3) ls rest)) : W p l e R s m args below meth c H locs cells slots Q (F0 m pc ls (.int (jI y) :: .int (jI x) :: rest)) := lv_icmp_gt C.1.1 C.1.2.1 hdg ht (fun q => kt ((jI_lt hy hx).mp q)) (fun q => kf (fun h => q ((jI_lt hy hx).mpr h)))
theorem r_if_le (C : Cx E p c cc nL s args own m) {x : Int} {off : Int} (tgt : Nat) (hx : inR x) (hdg : decode cc pc = .ok (.ifCond .le off, 3)) (ht : (pc : Int) + off = (tgt : Int)) (kt : x ≤ 0 → W p l e R s m args below meth c H locs cells slots Q (F0 m tgt ls rest)) (kf : ¬ x ≤ 0 → W p l e R s m args below meth c H locs cells slots Q (F0 m (pc + 3) ls rest)) : W p l e R s m args below meth c H locs cells slots Q (F0 m pc ls (.int (jI x) :: rest)) := by
  have hy : inR 0 := ⟨by decide, by decide⟩
  exact lv_if_le C.1.1 C.1.2.1 hdg ht (fun q => kt ((jI_le hx hy).mp q)) (fun q => kf (fun h => q ((jI_le hx hy).mpr h)))
theorem r_icmp_le (C : Cx E p c cc nL s args own m) {x y : Int} {off : Int} (tgt : Nat) (hx : inR x) (hy : inR y) (hdg : decode cc pc = .ok (.if_icmp .le off, 3)) (ht : (pc : Int) + off = (tgt : Int)) (kt : x ≤ y → W p l e R s m args below meth c H locs cells slots Q (F0 m tgt ls rest)) (kf : ¬ x ≤ y → W p l e R s m args below meth c H locs cells slots Q (F0 m (pc + 3) ls rest)) : W p l e R s m args below meth c H locs cells slots Q (F0 m pc ls (.int (jI y) :: .int (jI x) :: rest)) := lv_icmp_le C.1.1 C.1.2.1 hdg ht (fun q => kt ((jI_le hx hy).mp q)) (fun q => kf (fun h => q ((jI_le hx hy).mpr h)))
theorem r_goto (C : Cx E p c cc nL s args own m) {off : Int} (tgt : Nat) (hdg : decode cc pc = .ok (.goto off, 3)) (ht : (pc : Int) + off = (tgt : Int)) (k : W p l e R s m args below meth c H locs cells slots Q (F0 m tgt ls rest)) : W p l e R s m args below meth c H locs cells slots Q (F0 m pc ls rest) := lv_goto C.1.1 C.1.2.1 hdg ht k
theorem r_dup (C : Cx E p c cc nL s args own m) {va : Value} (hdg : decode cc pc = .ok (.dup, 1)) (hva : va.category = 1) (k : W p l e R s m args below meth c H locs cells slots Q (F0 m (pc + 1) ls (va :: va :: rest))) : W p l e R s m args below meth c H locs cells slots Q (F0 m pc ls (va :: rest)) := lv_dup C.1.1 C.1.2.1 hdg hva k
theorem r_dup2 (C : Cx E p c cc nL s args own m) {va vb : Value} (hdg : decode cc pc = .ok (.dup2, 1)) (hva : va.category = 1) (hvb : vb.category = 1) (k : W p l e R s m args below meth c H locs cells slots Q (F0 m (pc + 1) ls (va :: vb :: va :: vb :: rest))) : W p l e R s m args below meth c H locs cells slots Q (F0 m pc ls (va :: vb :: rest)) := lv_dup2_11 C.1.1 C.1.2.1 hdg hva hvb k
theorem r_pop (C : Cx E p c cc nL s args own m) {va : Value} (hdg : decode cc pc = .ok (.pop, 1)) (hva : va.category = 1) (k : W p l e R s m args below meth c H locs cells slots Q (F0 m (pc + 1) ls rest)) : W p l e R s m args below meth c H locs cells slots Q (F0 m pc ls (va :: rest)) := lv_pop C.1.1 C.1.2.1 hdg hva k
/-! fields -/
theorem r_get (C : Cx E p c cc nL s args own m) (hM : HS E z Ly M s H locs) {ci N a index : Nat} {Cn : String} {T : u_T} {ty : Nat → FieldType} (jc : jCl ci Cn T N ty) (k : Nat) {kd : Nat × Nat} {fs : List Value} {v : Value} (hdg : decode cc pc = .ok (.getfield index, 3)) (hlink : Cond.fieldLink own index Cn (T k).2.1 (T k).2.2.1 ∈ lwG) (ha : a < Ly.1) (hl : Ly.2 a = kd) (he : cellOf (eC E) z a kd (M a) = .inr (ci, fs)) (hv : fs[k]? = some v) (hk : k < N) (hd : (T k).1 = Cn)
    (kk : W p l e R s m args below meth c H locs cells slots Q (F0 m (pc + 3) ls (v :: rest))) : W p l e R s m args below meth c H locs cells slots Q (F0 m pc ls (.ref (z + a) :: rest)) :=
  va_get C.1.1 C.1.2.1 (Ts := lwG) C.1.2.2.2.2 jc.2.1 C.1.2.2.2.1 C.2.1 hM.1 a (by rw [Wd_get ha, hl, he]) jc.1 k hk (C.1.2.2.2.2 _ hlink) (fun x h => by rw [hd] at h; exact h) hv hdg kk
theorem r_getI (C : Cx E p c cc nL s args own m) (hM : HS E z Ly M s H locs) {ci N a index : Nat} {Cn : String} {T : u_T} {ty : Nat → FieldType} (jc : jCl ci Cn T N ty) (k : Nat) {kd : Nat × Nat} {fs : List Value} {x : Int} (hxe : M a k = x) (hdg : decode cc pc = .ok (.getfield index, 3)) (hlink : Cond.fieldLink own index Cn (T k).2.1 (T k).2.2.1 ∈ lwG) (ha : a < Ly.1) (hl : Ly.2 a = kd) (he : cellOf (eC E) z a kd (M a) = .inr (ci, fs)) (hv : fs[k]? = some (.int (jI (M a k)))) (hk : k < N) (hd : (T k).1 = Cn)
    (kk : W p l e R s m args below meth c H locs cells slots Q (F0 m (pc + 3) ls (.int (jI x) :: rest))) : W p l e R s m args below meth c H locs cells slots Q (F0 m pc ls (.ref (z + a) :: rest)) := r_get C hM jc k hdg hlink ha hl he (by rw [hv, hxe]) hk hd kk
theorem r_getR (C : Cx E p c cc nL s args own m) (hM : HS E z Ly M s H locs) {ci N a index : Nat} {Cn : String} {T : u_T} {ty : Nat → FieldType} (jc : jCl ci Cn T N ty) (k : Nat) (b : Nat) {kd : Nat × Nat} {fs : List Value} (hdg : decode cc pc = .ok (.getfield index, 3)) (hlink : Cond.fieldLink own index Cn (T k).2.1 (T k).2.2.1 ∈ lwG) (ha : a < Ly.1) (hl : Ly.2 a = kd) (he : cellOf (eC E) z a kd (M a) = .inr (ci, fs)) (hv : fs[k]? = some (.ref (z + b))) (hk : k < N) (hd : (T k).1 = Cn)
    (kk : W p l e R s m args below meth c H locs cells slots Q (F0 m (pc + 3) ls (.ref (z + b) :: rest))) : W p l e R s m args below meth c H locs cells slots Q (F0 m pc ls (.ref (z + a) :: rest)) := r_get C hM jc k hdg hlink ha hl he hv hk hd kk
theorem r_putI (C : Cx E p c cc nL s args own m) (hM : HS E z Ly M s H locs) {ci N a index : Nat} {Cn : String} {T : u_T} {ty : Nat → FieldType} (jc : jCl ci Cn T N ty) (k : Nat) {kd : Nat × Nat} {fs : List Value} {v : Int} (hv : inR v) (hdg : decode cc pc = .ok (.putfield index, 3)) (hlink : Cond.fieldLink own index Cn (T k).2.1 (T k).2.2.1 ∈ lwG) (ha : a < Ly.1) (hl : Ly.2 a = kd) (he : cellOf (eC E) z a kd (M a) = .inr (ci, fs)) (he' : cellOf (eC E) z a kd (updr (M a) k v) = .inr (ci, fs.set k (.int (jI v)))) (hk : k < N) (hd : (T k).1 = Cn) (hfin : (T k).2.2.2 = false) (hty : ty k = .int) (hlen : k < fs.length) (hkd : kd.1 ≠ 21 ∧ kd.1 ≠ 22)
    (kk : ∀ (H1 : Heap) (locs1 : List Loc), HS E z Ly (upm M a k v) s H1 locs1 → W p l e R s m args below meth c H1 locs1 cells slots Q (F0 m (pc + 3) ls rest)) : W p l e R s m args below meth c H locs cells slots Q (F0 m pc ls (.int (jI v) :: .ref (z + a) :: rest)) := by
  refine va_put C.1.1 C.1.2.1 (Ts := lwG) C.1.2.2.2.2 jc.2.1 ty jc.2.2.1 jc.2.2.2 C.1.2.2.2.1 C.2.1 hM.1 (Wd_D hM.2.2.2) hM.2.1 a (by rw [Wd_get ha, hl, he]) jc.1 k hk (C.1.2.2.2.2 _ hlink) (fun x h => by rw [hd] at h; exact h) hfin (ty := .int) (by rw [jc.2.2.1 k hk, hty]) rfl rfl hlen hdg (fun H1 locs1 hP hD hS => ?_)
  rw [Wd_set ha (M' := upm M a k v) (by rw [upm_row, hl, he']) (fun b hb => upm_ne hb)] at hP
  exact kk H1 locs1 ⟨hP, hS, upm_ok hM.2.2.1 (by rw [hl]; exact inK_of hkd.1 hkd.2 hv), hM.2.2.2⟩
/-! arrays -/
theorem r_iald (C : Cx E p c cc nL s args own m) (hM : HS E z Ly M s H locs) {a n : Nat} {i x : Int} (hxe : M a i.toNat = x) (hdg : decode cc pc = .ok (.iaload, 1)) (ha : a < Ly.1) (hl : Ly.2 a = (20, n)) (h : 0 ≤ i ∧ i < (n : Int)) (hi : inR i)
    (kk : W p l e R s m args below meth c H locs cells slots Q (F0 m (pc + 1) ls (.int (jI x) :: rest))) : W p l e R s m args below meth c H locs cells slots Q (F0 m pc ls (.int (jI i) :: .ref (z + a) :: rest)) :=
  va_iald C.1.1 C.1.2.1 C.2.1 hM.1 a 0 (f := fun j => jI (M a j)) (by rw [Wd_get ha, hl]; rfl) rfl (jI_in h hi) hdg (by rw [jI_nat hi]; show W p l e R s m args below meth c H locs cells slots Q (F0 m (pc + 1) ls (.int (jI (M a i.toNat)) :: rest)); rw [hxe]; exact kk)
theorem r_bald (C : Cx E p c cc nL s args own m) (hM : HS E z Ly M s H locs) {a n : Nat} {i x : Int} (hxe : M a i.toNat = x) (hdg : decode cc pc = .ok (.baload, 1)) (ha : a < Ly.1) (hl : Ly.2 a = (21, n)) (h : 0 ≤ i ∧ i < (n : Int)) (hi : inR i)
    (kk : W p l e R s m args below meth c H locs cells slots Q (F0 m (pc + 1) ls (.int (jI x) :: rest))) : W p l e R s m args below meth c H locs cells slots Q (F0 m pc ls (.int (jI i) :: .ref (z + a) :: rest)) :=
  va_bald C.1.1 C.1.2.1 C.2.1 hM.1 a 1 (f := fun j => jI (M a j)) (by rw [Wd_get ha, hl]; rfl) rfl (jI_in h hi) hdg (by rw [jI_nat hi]; show W p l e R s m args below meth c H locs cells slots Q (F0 m (pc + 1) ls (.int (jI (M a i.toNat)) :: rest)); rw [hxe]; exact kk)
theorem r_zald (C : Cx E p c cc nL s args own m) (hM : HS E z Ly M s H locs) {a n : Nat} {i x : Int} (hxe : M a i.toNat = x) (hdg : decode cc pc = .ok (.baload, 1)) (ha : a < Ly.1) (hl : Ly.2 a = (22, n)) (h : 0 ≤ i ∧ i < (n : Int)) (hi : inR i)
    (kk : W p l e R s m args below meth c H locs cells slots Q (F0 m (pc + 1) ls (.int (jI x) :: rest))) : W p l e R s m args below meth c H locs cells slots Q (F0 m pc ls (.int (jI i) :: .ref (z + a) :: rest)) :=
  va_zald C.1.1 C.1.2.1 C.2.1 hM.1 a 2 (f := fun j => jI (M a j)) (by rw [Wd_get ha, hl]; rfl) rfl (jI_in h hi) hdg (by rw [jI_nat hi]; show W p l e R s m args below meth c H locs cells slots Q (F0 m (pc + 1) ls (.int (jI (M a i.toNat)) :: rest)); rw [hxe]; exact kk)
theorem upd_row {f : Nat → Int} {k : Nat} {v : Int} {x : Int32} (h : x = jI v) : upd (fun j => jI (f j)) k x = fun j => jI (updr f k v j) := by
  funext j
  unfold upd updr
  by_cases hj : j = k
  · rw [if_pos hj, if_pos hj, h]
  · rw [if_neg hj, if_neg hj]
theorem r_iast (C : Cx E p c cc nL s args own m) (hM : HS E z Ly M s H locs) {a n : Nat} {i v : Int} (hdg : decode cc pc = .ok (.iastore, 1)) (ha : a < Ly.1) (hl : Ly.2 a = (20, n)) (h : 0 ≤ i ∧ i < (n : Int)) (hi : inR i) (hv : inR v)
    (kk : ∀ (H1 : Heap) (locs1 : List Loc), HS E z Ly (upm M a i.toNat v) s H1 locs1 → W p l e R s m args below meth c H1 locs1 cells slots Q (F0 m (pc + 1) ls rest)) : W p l e R s m args below meth c H locs cells slots Q (F0 m pc ls (.int (jI v) :: .int (jI i) :: .ref (z + a) :: rest)) := by
  refine va_iast C.1.1 C.1.2.1 C.2.1 hM.1 (Wd_D hM.2.2.2) hM.2.1 a 0 (f := fun j => jI (M a j)) (n := n) (by rw [Wd_get ha, hl]; rfl) rfl (jI_in h hi) hdg (fun H1 locs1 hP hD hS => ?_)
  rw [jI_nat hi, upd_row (v := v) rfl, Wd_set ha (M' := upm M a i.toNat v) (by rw [upm_row, hl]; rfl) (fun b hb => upm_ne hb)] at hP
  exact kk H1 locs1 ⟨hP, hS, upm_ok hM.2.2.1 (by rw [hl]; exact inK_of (show (20 : Nat) ≠ 21 by decide) (show (20 : Nat) ≠ 22 by decide) hv), hM.2.2.2⟩
theorem bar8_K (v : Int) : inK 21 (bar8 v) := by
  show -128 ≤ bar8 v ∧ bar8 v ≤ 127
  unfold bar8 vp_nar narrow
  have h1 := Int8.le_toInt (jI v).toInt8
  have h2 := Int8.toInt_lt (jI v).toInt8
  simp only [Int8.toInt_toInt32]
  omega
theorem bar1_K (v : Int) : inK 22 (bar1 v) := by
  show bar1 v = 0 ∨ bar1 v = 1
  unfold bar1 vp_nar narrow
  simp only []
  have : (jI v &&& 1) = 0 ∨ (jI v &&& 1) = 1 := by
    rw [← Int32.toBitVec_inj, ← Int32.toBitVec_inj]
    simp only [Int32.toBitVec_and]
    have h : ∀ b : BitVec 32, b &&& 1#32 = 0#32 ∨ b &&& 1#32 = 1#32 := by
      intro b
      have e : b &&& 1#32 = BitVec.setWidth 32 (BitVec.setWidth 1 b) := by
        apply BitVec.eq_of_getLsbD_eq
        intro i hi
        simp
        by_cases h0 : i = 0 <;> simp [h0]
      have h2 : ∀ d : BitVec 1, BitVec.setWidth 32 d = 0#32 ∨ BitVec.setWidth 32 d = 1#32 := by decide
      rw [e]; exact h2 _
    exact h _
  rcases this with h | h <;> rw [h] <;> decide
theorem r_bast (C : Cx E p c cc nL s args own m) (hM : HS E z Ly M s H locs) {a n : Nat} {i v : Int} (hdg : decode cc pc = .ok (.bastore, 1)) (ha : a < Ly.1) (hl : Ly.2 a = (21, n)) (h : 0 ≤ i ∧ i < (n : Int)) (hi : inR i)
    (kk : ∀ (H1 : Heap) (locs1 : List Loc), HS E z Ly (upm M a i.toNat (bar8 v)) s H1 locs1 → W p l e R s m args below meth c H1 locs1 cells slots Q (F0 m (pc + 1) ls rest)) : W p l e R s m args below meth c H locs cells slots Q (F0 m pc ls (.int (jI v) :: .int (jI i) :: .ref (z + a) :: rest)) := by
  refine va_bast C.1.1 C.1.2.1 C.2.1 hM.1 (Wd_D hM.2.2.2) hM.2.1 a 1 (f := fun j => jI (M a j)) (n := n) (by rw [Wd_get ha, hl]; rfl) rfl (jI_in h hi) hdg (fun H1 locs1 hP hD hS => ?_)
  rw [jI_nat hi, upd_row (v := bar8 v) (jI_of _), Wd_set ha (M' := upm M a i.toNat (bar8 v)) (by rw [upm_row, hl]; rfl) (fun b hb => upm_ne hb)] at hP
  exact kk H1 locs1 ⟨hP, hS, upm_ok hM.2.2.1 (by rw [hl]; exact bar8_K v), hM.2.2.2⟩
theorem r_zast (C : Cx E p c cc nL s args own m) (hM : HS E z Ly M s H locs) {a n : Nat} {i v : Int} (hdg : decode cc pc = .ok (.bastore, 1)) (ha : a < Ly.1) (hl : Ly.2 a = (22, n)) (h : 0 ≤ i ∧ i < (n : Int)) (hi : inR i)
    (kk : ∀ (H1 : Heap) (locs1 : List Loc), HS E z Ly (upm M a i.toNat (bar1 v)) s H1 locs1 → W p l e R s m args below meth c H1 locs1 cells slots Q (F0 m (pc + 1) ls rest)) : W p l e R s m args below meth c H locs cells slots Q (F0 m pc ls (.int (jI v) :: .int (jI i) :: .ref (z + a) :: rest)) := by
  refine va_zast C.1.1 C.1.2.1 C.2.1 hM.1 (Wd_D hM.2.2.2) hM.2.1 a 2 (f := fun j => jI (M a j)) (n := n) (by rw [Wd_get ha, hl]; rfl) rfl (jI_in h hi) hdg (fun H1 locs1 hP hD hS => ?_)
  rw [jI_nat hi, upd_row (v := bar1 v) (jI_of _), Wd_set ha (M' := upm M a i.toNat (bar1 v)) (by rw [upm_row, hl]; rfl) (fun b hb => upm_ne hb)] at hP
  exact kk H1 locs1 ⟨hP, hS, upm_ok hM.2.2.1 (by rw [hl]; exact bar1_K v), hM.2.2.2⟩
theorem r_alen (C : Cx E p c cc nL s args own m) (hM : HS E z Ly M s H locs) {a n : Nat} {kd : Nat} (hdg : decode cc pc = .ok (.arraylength, 1)) (ha : a < Ly.1) (hl : Ly.2 a = (kd, n)) (hkd : kd = 20 ∨ kd = 21 ∨ kd = 22)
    (kk : W p l e R s m args below meth c H locs cells slots Q (F0 m (pc + 1) ls (.int (jI (n : Int)) :: rest))) : W p l e R s m args below meth c H locs cells slots Q (F0 m pc ls (.ref (z + a) :: rest)) := by
  rcases hkd with h | h | h <;> subst h
  · exact va_alen C.1.1 C.1.2.1 C.2.1 hM.1 a 0 (x := (n, .inl (fun j => jI (M a j)))) (by rw [Wd_get ha, hl]; rfl) rfl (Int32.ofInt_eq_ofNat.symm) hdg kk
  · exact va_alen C.1.1 C.1.2.1 C.2.1 hM.1 a 1 (x := (n, .inl (fun j => jI (M a j)))) (by rw [Wd_get ha, hl]; rfl) rfl (Int32.ofInt_eq_ofNat.symm) hdg kk
  · exact va_alen C.1.1 C.1.2.1 C.2.1 hM.1 a 2 (x := (n, .inl (fun j => jI (M a j)))) (by rw [Wd_get ha, hl]; rfl) rfl (Int32.ofInt_eq_ofNat.symm) hdg kk
theorem r_aaldP (C : Cx E p c cc nL s args own m) (hM : HS E z Ly M s H locs) {a n : Nat} {i : Int} (hdg : decode cc pc = .ok (.aaload, 1)) (ha : a < Ly.1) (hl : Ly.2 a = (23, n)) (h : 0 ≤ i ∧ i < (n : Int)) (hi : inR i)
    (kk : W p l e R s m args below meth c H locs cells slots Q (F0 m (pc + 1) ls (.ref (z + (74 + i.toNat * 24)) :: rest))) : W p l e R s m args below meth c H locs cells slots Q (F0 m pc ls (.int (jI i) :: .ref (z + a) :: rest)) :=
  va_aldq C.1.1 C.1.2.1 C.2.1 hM.1 a 3 (f := fun i => some (z + (74 + i * 24))) (by rw [Wd_get ha, hl]; rfl) rfl (jI_in h hi) hdg (by rw [jI_nat hi]; exact kk)
theorem r_aaldS (C : Cx E p c cc nL s args own m) (hM : HS E z Ly M s H locs) {a n : Nat} {i : Int} (hdg : decode cc pc = .ok (.aaload, 1)) (ha : a < Ly.1) (hl : Ly.2 a = (24, n)) (h : 0 ≤ i ∧ i < (n : Int)) (hi : inR i)
    (kk : W p l e R s m args below meth c H locs cells slots Q (F0 m (pc + 1) ls (.ref (z + (266 + i.toNat * 24)) :: rest))) : W p l e R s m args below meth c H locs cells slots Q (F0 m pc ls (.int (jI i) :: .ref (z + a) :: rest)) :=
  va_aldq C.1.1 C.1.2.1 C.2.1 hM.1 a 3 (f := fun i => some (z + (266 + i * 24))) (by rw [Wd_get ha, hl]; rfl) rfl (jI_in h hi) hdg (by rw [jI_nat hi]; exact kk)
/-! static tables -/
theorem r_getsN (C : Cx E p c cc nL s args own m) (hM : HS E z Ly M s H locs) (t : Nat) {index : Nat} {nm : String} (ht : t < 3) (hnm : jTabN t = nm) (hown : own = "NewsReel$Library") (hq : (index, nm) ∈ jNest) (hdg : decode cc pc = .ok (.getstatic index, 3))
    (kk : W p l e R s m args below meth c H locs cells slots Q (F0 m (pc + 3) ls (.ref (eS E t) :: rest))) : W p l e R s m args below meth c H locs cells slots Q (F0 m pc ls rest) := by
  subst hown
  have hz := (C.2.2.1.2.2.2.1 t ht).1
  rw [hnm] at hz
  have hw : (Cond.fieldLinkNest "NewsReel$Library" index "NewsReel" nm "[I" "NewsReel").before args s = true := va_Nw.use rfl (C.2.2.1.2.2.2.2.1 (index, nm) hq)
  exact va_getsN (C := "NewsReel") (ref := "NewsReel") (n := nm) (d := "[I") (host := "NewsReel") C.1.1 C.1.2.1 hz hM.2.1 C.1.2.2.2.1 hw (fun _ h => h) hdg kk
theorem r_gets (C : Cx E p c cc nL s args own m) (hM : HS E z Ly M s H locs) (t : Nat) {index : Nat} {nm : String} (ht : t < 3) (hnm : jTabN t = nm) (hlink : Cond.fieldLink own index "NewsReel" nm "[I" ∈ lwG) (hdg : decode cc pc = .ok (.getstatic index, 3))
    (kk : W p l e R s m args below meth c H locs cells slots Q (F0 m (pc + 3) ls (.ref (eS E t) :: rest))) : W p l e R s m args below meth c H locs cells slots Q (F0 m pc ls rest) := by
  have hz := (C.2.2.1.2.2.2.1 t ht).1
  rw [hnm] at hz
  exact va_gets (C := "NewsReel") (ref := "NewsReel") (n := nm) (d := "[I") C.1.1 C.1.2.1 hz hM.2.1 C.1.2.2.2.1 (C.1.2.2.2.2 _ hlink) (fun _ h => h) hdg kk
theorem r_tald (C : Cx E p c cc nL s args own m) (hM : HS E z Ly M s H locs) (t : Nat) {i : Int} (ht : t < 3) (h : 0 ≤ i ∧ i < 5) (hi : inR i) (hdg : decode cc pc = .ok (.iaload, 1))
    (kk : W p l e R s m args below meth c H locs cells slots Q (F0 m (pc + 1) ls (.int (jI ((jTab t).getD i.toNat 0)) :: rest))) : W p l e R s m args below meth c H locs cells slots Q (F0 m pc ls (.int (jI i) :: .ref (eS E t) :: rest)) :=
  va_ti C.1.1 C.1.2.1 (C.2.2.1.2.2.2.1 t ht).2 hM.2.1 (jI_in (n := 5) h hi) (v := .int (jI ((jTab t).getD i.toNat 0))) (by rw [jI_nat hi]) hdg kk
/-! ends -/
theorem r_ireturn (C : Cx E p c cc nL s args own m) (hM : HS E z Ly M s H locs) {v r : Int} {M' : Mem} (hr : meth.sig.returnType = some .int) (hlk : meth.locks = false) (hv : inR v) (h : some v = some r) (h' : M = M') (hdg : decode cc pc = .ok (.ireturn, 1)) :
    W p l e R s m args below meth c H locs cells slots (MQ below (va_Qi (fun (w : Int32) (_ : Unit) => w = jI r ∧ inR r ∧ Mok Ly M') (fun _ t => va_P (eD E) vwCl (Wd (eC E) z Ly M') t.heap) (eA E)) args s cells slots (eA E)) (F0 m pc ls [.int (jI v)]) := by
  cases h; subst h'
  exact W.iret C.1.1 C.1.2.1 hr (fun t ht hW => ⟨⟨jI v, (), rfl, ⟨rfl, hv, hM.2.2.1⟩, by show va_P _ _ _ t.heap; rw [ht]; exact hM.1⟩, hM.2.1.F ht⟩) hM.2.1.2.2 hdg hlk
theorem r_nreturn (C : Cx E p c cc nL s args own m) (hM : HS E z Ly M s H locs) {v r : Int} {M' : Mem} {ty : FieldType} (hr : meth.sig.returnType = some ty) (hlk : meth.locks = false) (hv : inR v) (hn : narrow ty (.int (jI v)) = .int (jI v)) (h : v = r) (h' : M = M') (hdg : decode cc pc = .ok (.ireturn, 1)) :
    W p l e R s m args below meth c H locs cells slots (MQ below (va_Qi (fun (w : Int32) (_ : Unit) => w = jI r ∧ inR r ∧ Mok Ly M') (fun _ t => va_P (eD E) vwCl (Wd (eC E) z Ly M') t.heap) (eA E)) args s cells slots (eA E)) (F0 m pc ls [.int (jI v)]) := by
  subst h h'
  exact W.zret C.1.1 C.1.2.1 hr hn (fun t ht hW => ⟨⟨jI v, (), rfl, ⟨rfl, hv, hM.2.2.1⟩, by show va_P _ _ _ t.heap; rw [ht]; exact hM.1⟩, hM.2.1.F ht⟩) hM.2.1.2.2 hdg hlk
theorem r_zreturn (C : Cx E p c cc nL s args own m) (hM : HS E z Ly M s H locs) {v r : Int} {M' : Mem} (hr : meth.sig.returnType = some .boolean) (hlk : meth.locks = false) (hv : v = 0 ∨ v = 1) (h : some v = some r) (h' : M = M') (hdg : decode cc pc = .ok (.ireturn, 1)) :
    W p l e R s m args below meth c H locs cells slots (MQ below (va_Qi (fun (w : Int32) (_ : Unit) => w = jI r ∧ inR r ∧ Mok Ly M') (fun _ t => va_P (eD E) vwCl (Wd (eC E) z Ly M') t.heap) (eA E)) args s cells slots (eA E)) (F0 m pc ls [.int (jI v)]) := by
  cases h; subst h'
  exact W.zret C.1.1 C.1.2.1 hr (by rcases hv with h | h <;> subst h <;> rfl) (fun t ht hW => ⟨⟨jI v, (), rfl, ⟨rfl, by rcases hv with h | h <;> subst h <;> exact ⟨by decide, by decide⟩, hM.2.2.1⟩, by show va_P _ _ _ t.heap; rw [ht]; exact hM.1⟩, hM.2.1.F ht⟩) hM.2.1.2.2 hdg hlk
theorem r_return (C : Cx E p c cc nL s args own m) (hM : HS E z Ly M s H locs) {M' : Mem} (hr : meth.sig.returnType = none) (hlk : meth.locks = false) (h : some M = some M') (hdg : decode cc pc = .ok (.return_, 1)) :
    W p l e R s m args below meth c H locs cells slots (MQ below (va_Qv (fun (_ : Unit) => Mok Ly M') (fun _ t => va_P (eD E) vwCl (Wd (eC E) z Ly M') t.heap) (eA E)) args s cells slots (eA E)) (F0 m pc ls []) := by
  cases h
  exact W.vret C.1.1 C.1.2.1 hr (fun t ht hW => ⟨⟨(), rfl, hM.2.2.1, by show va_P _ _ _ t.heap; rw [ht]; exact hM.1⟩, hM.2.1.F ht⟩) hM.2.1.2.2 hdg hlk
end JR
