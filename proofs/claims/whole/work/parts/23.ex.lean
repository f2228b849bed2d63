def exNs : List String := ["java/lang/RuntimeException", "java/lang/Exception"]
def exN (k : Nat) : String := match k with
  | 1 => "java/lang/IndexOutOfBoundsException"
  | 2 => "java/lang/IllegalArgumentException"
  | _ => "java/lang/IllegalStateException"
def xWd : List MethodName := [Bundle.initS "java/lang/RuntimeException", Bundle.initS "java/lang/Exception", Bundle.initS Bundle.tN]
def xWc : List (String × String) := [(exN 1, exN 1), (exN 2, exN 2), (exN 3, exN 3)]
def xW : List Cond := xWd.map Cond.declares ++ xWc.map (fun q => Cond.castable q.1 q.2)
theorem xW_in : ∀ w ∈ xW, w ∈ lw_tbl := by decide +kernel
theorem ex_at_1 : ∀ w ∈ vx_atS RX10 375 (exN 1) exNs, w ∈ lwG ∨ w ∈ xW := by decide +kernel
theorem ex_ot_1 : ∀ w ∈ vx_atS RX10 375 (exN 1) exNs, vx_ot w = true := by decide +kernel
theorem ex_at_2 : ∀ w ∈ vx_atS RX10 380 (exN 2) exNs, w ∈ lwG ∨ w ∈ xW := by decide +kernel
theorem ex_ot_2 : ∀ w ∈ vx_atS RX10 380 (exN 2) exNs, vx_ot w = true := by decide +kernel
theorem ex_at_3 : ∀ w ∈ vx_atS RX10 90 (exN 3) exNs, w ∈ lwG ∨ w ∈ xW := by decide +kernel
theorem ex_ot_3 : ∀ w ∈ vx_atS RX10 90 (exN 3) exNs, vx_ot w = true := by decide +kernel
def StX (U : State) : Prop := (∀ y ∈ xWd, va_Nw (.declares y) U) ∧ ∀ q ∈ xWc, va_Nw (.castable q.1 q.2) U
theorem StX.warm {s U : State} (hW : s.WarmedH U.vm) (h : StX s) : StX U := ⟨fun y hy => va_Nw.warmD hW (h.1 y hy), fun q hq => va_Nw.warmC hW (h.2 q hq)⟩
theorem StX.same {u U : State} (hv : u.vm = U.vm) (h : StX u) : StX U := ⟨fun y hy => va_Nw.same rfl hv (h.1 y hy), fun q hq => va_Nw.same rfl hv (h.2 q hq)⟩
theorem StX.use {s : State} {args : Array Value} (h : StX s) : ∀ w ∈ xW, w.before args s = true := by
  intro w hw
  rcases List.mem_append.mp hw with hw | hw
  · obtain ⟨y, hy, rfl⟩ := List.mem_map.mp hw
    exact va_Nw.use rfl (h.1 y hy)
  · obtain ⟨q, hq, rfl⟩ := List.mem_map.mp hw
    exact va_Nw.use rfl (h.2 q hq)
def jPreX (E : jE) (z : Nat) (Ly : jLy) (As : List Value) (M : Mem) : Array Value → State → Prop := fun a U => jPre E z Ly As M a U ∧ StX U
theorem jPreX_blind {E : jE} {z : Nat} {Ly : jLy} {As : List Value} {M : Mem} : FrameBlind (jPreX E z Ly As M) := fun a U g mk q => ⟨jPre_blind a U g mk q.1, StX.same (u := U) rfl q.2⟩
def XX (E : jE) (z : Nat) (Ly : jLy) (M' : Mem) (k : Nat) : String → State → State → Prop := vx_X (fun (_ : Unit) => Mok Ly M') (fun En _ t => En = exN k ∧ va_P (eD E) vwCl (Wd (eC E) z Ly M') t.heap) (eA E)
abbrev QXv (E : jE) : Array Value → State → Outcome → State → Prop := va_Qv (fun (_ : Unit) => False) (fun _ _ => True) (eA E)
abbrev QXi (E : jE) : Array Value → State → Outcome → State → Prop := va_Qi (fun (_ : Int32) (_ : Unit) => False) (fun _ _ => True) (eA E)
abbrev QXd (E : jE) : Array Value → State → Outcome → State → Prop := va_Qd (fun (_ : UInt64) (_ : Unit) => False) (fun _ _ => True) (eA E)
def CtX (Qc : Array Value → State → Outcome → State → Prop) (l : Launch) (y : MethodName) (cc : ByteArray) (maxL : Nat) (ret : Option FieldType) (rm : Room) (E : jE) (z : Nat) (Ly : jLy) (As : List Value) (M : Mem) (k : Nat) (M' : Mem) : Prop :=
  vx_Met l y (.code y cc maxL ret :: lwG) rm (jPreX E z Ly As M) Qc (XX E z Ly M' k) rm.cells rm.slots (eA E)
set_option maxHeartbeats 4000000 in
theorem jmX {l : Launch} {y : MethodName} {cc : ByteArray} {maxL : Nat} {ret : Option FieldType} {rm : Room} {E : jE} {z : Nat} {Ly : jLy} {As : List Value} {M : Mem} {Qc : Array Value → State → Outcome → State → Prop} {k : Nat} {M' : Mem} (hy : plainName y.cls = true) (hn : (lg_sl As).length ≤ maxL)
    (body : ∀ (p : Program) (e : Env) (s : State) (m : MethodId) (below : List Frame) (meth : Method) (c : Code), Cx E p c cc maxL s As.toArray y.cls m → HS E z Ly M s s.heap [] → StX s → meth.locks = false → c.maxLocals = maxL → (∀ x ∈ c.exceptionTable.toList, False) → ∀ ls : Array Slot, lv_has ls maxL (lv_args 0 As) →
      W p l e rm s m As.toArray below meth c s.heap [] 0 0 (vx_MQ below Qc (XX E z Ly M' k) As.toArray s rm.cells rm.slots (eA E)) (F0 m 0 ls [])) :
    CtX Qc l y cc maxL ret rm E z Ly As M k M' := by
  refine vx_ofW (cc := cc) (maxL := maxL) (ret := ret) hy rfl ?_
  intro p e s m args below meth c s₁ B hml ht hv
  obtain ⟨⟨rfl, hP, hK, hSt, hA, hM, hZ⟩, hX⟩ := hv
  have hts := atoms_spec (ws := Cond.code y cc maxL ret :: lwG) B.pre
  have hown : s.vm.findClass y.cls = some m.cls := findClass_of_methodNamed B.named
  have hl := lv_entry As (n := maxL) hn
  rw [lg_entry_eq]
  exact body p e s m below meth c ⟨⟨B.exec, B.bytes, hml, hown, fun w hw => hts w (List.mem_cons_of_mem _ hw)⟩, hK, hSt, hA⟩ ⟨hP, va_S.rf, hM, hZ⟩ hX B.notSynchronized hml ht _ hl
section JX
variable {p : Program} {l : Launch} {e : Env} {R : Room} {s : State} {m : MethodId} {args : Array Value} {below : List Frame} {meth : Method} {c : Code} {H : Heap} {locs : List Loc} {cells slots : Nat} {Q : State → Prop}
variable {cc : ByteArray} {nL : Nat} {own : String} {E : jE} {z : Nat} {Ly : jLy} {M : Mem} {pc : Nat} {ls : Array Slot} {rest : List Value} {Qc : Array Value → State → Outcome → State → Prop} {mc ms : Nat}
theorem xx_grow (hM : HS E z Ly M s H locs) {t : State} (k : Nat) (h1 : H.size ≤ t.heap.size) (h2 : ∀ q : Nat, q < H.size → t.heap[q]? = H[q]?) : XX E z Ly M k (exN k) s t :=
  ⟨(), hM.2.2.1, ⟨rfl, hM.1.kept fun i q hi => h2 _ (hM.1 i q hi).lt⟩, Nat.le_trans hM.2.1.1 h1, fun q a b => by rw [h2 q (Nat.lt_of_lt_of_le a hM.2.1.1)]; exact hM.2.1.2.1 q a b⟩
theorem r_throwS (C : Cx E p c cc nL s args own m) (hM : HS E z Ly M s H locs) (hX : StX s) (hl : l.stackTraces = false) {ik is ic i : Nat} {tx : String} (k : Nat) (hk : Cond.classLink own ik (exN k) ∈ lwG) (hini : Cond.initialized (exN k) ∈ lwG) (hst : (own, is, tx, i) ∈ strST) (hat : ∀ w ∈ vx_atS own ic (exN k) exNs, w ∈ lwG ∨ w ∈ xW) (hot : ∀ w ∈ vx_atS own ic (exN k) exNs, vx_ot w = true) (hfit : Bundle.fit (exN k) = true)
    (d0 : decode cc pc = .ok (.new ik, 3)) (d3 : decode cc (pc + 3) = .ok (.dup, 1)) (d4 : decode cc (pc + 4) = .ok (.ldc is, 2)) (d6 : decode cc (pc + 6) = .ok (.invokespecial ic, 3)) (d9 : decode cc (pc + 9) = .ok (.athrow, 1)) (ht : ∀ x ∈ c.exceptionTable.toList, False) (hlk : meth.locks = false) (hsz : ls.size = c.maxLocals)
    (hR : 5 < R.frames ∧ (rest.map fun v => v.category).sum + 82 ≤ R.locals ∧ cells + 1 ≤ R.cells ∧ slots + 6 ≤ R.slots) (hc : cells + 1 ≤ mc) (hs : slots + 6 ≤ ms) :
    W p l e R s m args below meth c H locs cells slots (vx_MQ below Qc (XX E z Ly M k) args s mc ms (eA E)) (F0 m pc ls rest) :=
  vx_throwS C.1.1 C.1.2.1 hl C.1.2.2.2.1 hfit (by decide +kernel) (C.1.2.2.2.2 _ hk) (C.1.2.2.2.2 _ hini) (C.2.2.1.2.1 _ hst) (fun w hw => (hat w hw).elim (C.1.2.2.2.2 w) (hX.use w)) (fun w hw => by
    rcases List.mem_cons.mp hw with rfl | hw
    · exact Bool.or_eq_true_iff.mpr (Or.inr (lwG_good hk))
    · rcases List.mem_cons.mp hw with rfl | hw
      · exact Bool.or_eq_true_iff.mpr (Or.inr (lwG_good hini))
      · exact hot w hw) C.2.2.1.2.2.2.2.2.2.1 C.2.2.1.2.2.2.2.2.2.2 hM.2.1 hsz d0 d3 d4 d6 d9 (fun x hx => (ht x hx).elim) hR.1 (by have := hR.2.1; simp only [exNs, List.length_cons, List.length_nil]; omega) hR.2.2.1 hR.2.2.2 hlk (fun t _ h1 h2 => xx_grow hM k h1 h2) hM.2.1.2.2 hc hs
theorem r_throwSW (C : Cx E p c cc nL s args own m) (hM : HS E z Ly M s H locs) (hX : StX s) (hl : l.stackTraces = false) {ik is ic i : Nat} {tx : String} (k : Nat) (hk : Cond.classLink own ik (exN k) ∈ lwG) (hini : Cond.initialized (exN k) ∈ lwG) (hst : (own, is, tx, i) ∈ strST) (hat : ∀ w ∈ vx_atS own ic (exN k) exNs, w ∈ lwG ∨ w ∈ xW) (hot : ∀ w ∈ vx_atS own ic (exN k) exNs, vx_ot w = true) (hfit : Bundle.fit (exN k) = true)
    (d0 : decode cc pc = .ok (.new ik, 3)) (d3 : decode cc (pc + 3) = .ok (.dup, 1)) (d4 : decode cc (pc + 4) = .ok (.ldc_w is, 3)) (d7 : decode cc (pc + 7) = .ok (.invokespecial ic, 3)) (d10 : decode cc (pc + 10) = .ok (.athrow, 1)) (ht : ∀ x ∈ c.exceptionTable.toList, False) (hlk : meth.locks = false) (hsz : ls.size = c.maxLocals)
    (hR : 5 < R.frames ∧ (rest.map fun v => v.category).sum + 82 ≤ R.locals ∧ cells + 1 ≤ R.cells ∧ slots + 6 ≤ R.slots) (hc : cells + 1 ≤ mc) (hs : slots + 6 ≤ ms) :
    W p l e R s m args below meth c H locs cells slots (vx_MQ below Qc (XX E z Ly M k) args s mc ms (eA E)) (F0 m pc ls rest) :=
  vx_throwSW C.1.1 C.1.2.1 hl C.1.2.2.2.1 hfit (by decide +kernel) (C.1.2.2.2.2 _ hk) (C.1.2.2.2.2 _ hini) (C.2.2.1.2.1 _ hst) (fun w hw => (hat w hw).elim (C.1.2.2.2.2 w) (hX.use w)) (fun w hw => by
    rcases List.mem_cons.mp hw with rfl | hw
    · exact Bool.or_eq_true_iff.mpr (Or.inr (lwG_good hk))
    · rcases List.mem_cons.mp hw with rfl | hw
      · exact Bool.or_eq_true_iff.mpr (Or.inr (lwG_good hini))
      · exact hot w hw) C.2.2.1.2.2.2.2.2.2.1 C.2.2.1.2.2.2.2.2.2.2 hM.2.1 hsz d0 d3 d4 d7 d10 (fun x hx => (ht x hx).elim) hR.1 (by have := hR.2.1; simp only [exNs, List.length_cons, List.length_nil]; omega) hR.2.2.1 hR.2.2.2 hlk (fun t _ h1 h2 => xx_grow hM k h1 h2) hM.2.1.2.2 hc hs
end JX
