/-! THE CLAIM OUT OF ONE WALK OF THE LAW'S BODY. Your part is whole_start (and what it stands on); all else here is the same for every law, but numbers. -/
def R_law : String := "WeightlatticeLaw"
def lw_P (b : Addr) (xs : List Int32) (args : Array Value) (s : State) : Prop := args = #[.ref b] ∧ s.IntsAt b xs ∧ xs.length ≤ 2048 ∧ (Jvm.Cond.and given_1 narrow_1).before args s = true
/-- what a walk over the start with the record d0 says of its end, said of the start itself -/
theorem lw_closed {s t : State} {o : Outcome} {d0 : Drawn} {L : List Loc} {k n : Nat} (hd0 : s.drawn.sameBut d0 lw_cs) (hv : ∃ v, o = .returned v) (hW : (s.setDrawn d0).WarmedH t.vm) (hs : (s.setDrawn d0).sameButNew ({ t with vm := s.vm } : State) L k n) : State.butDraws s t lw_cs (fun t1 => Framed s o t1 L k n) := by
  have h2 : t.drawn = d0 := congrArg State.drawn hs.1
  refine ⟨⟨hv, hW, State.sameButNew.setDrawn hs s.drawn⟩, ?_, by decide⟩
  rw [h2]
  exact hd0
def lw_Q (_ : Array Value) (s : State) (o : Outcome) (t : State) : Prop := o = .returned (some (.int 1)) ∧ State.butDraws s t lw_cs (fun t1 => Framed s o t1 [] 603072 7178346)
def lw_Z (below : List Frame) (a : Array Value) (s : State) : State → Prop := fun t => ∃ o, t.status = .running ∧ Ended t below o ∧ lw_Q a s o t
/-- the law's own end, with 1 on the stack, nothing written that was there before, its room as the claim has it; d0: the record of draws at this point (at the entry s.drawn: begin with 'refine W.base ?_' and 'have hd0 := Drawn.sameBut.refl s.drawn lw_cs') -/
theorem lw_ret {p : Program} {l : Launch} {e : Env} {s : State} {m : MethodId} {below : List Frame} {meth : Method} {c : Code} {b : Nat} {d0 : Drawn} (hd0 : s.drawn.sameBut d0 lw_cs) (hx : p.tables.exec = Jvm.exec) (hb : c.code = code) (hr : meth.sig.returnType = ret) (hlocks : meth.locks = false) {pc : Nat} {H : Heap} {ls : Array Slot} (hdg : decode code pc = .ok (.ireturn, 1)) : W p l e room_1 (s.setDrawn d0) m #[Value.ref b] below meth c H [] 603072 7178346 (lw_Z below #[Value.ref b] s) (F0 m pc ls [.int 1]) := by
  intro T hT X
  obtain ⟨fs, hret, hrun, hended, hW, hframe⟩ := X.leave (v := some (.int 1)) (hlocks := hlocks) (fun h => by rw [hr] at h; cases h)
  have hmeth' : T.vm.method? m = some meth := X.method'
  refine ⟨T.setFrames fs, ?_, .returned (some (.int 1)), hrun, hended, rfl, lw_closed hd0 ⟨_, rfl⟩ hW hframe⟩
  jvm_step X.here [X.here.top, hx, hb, hdg, hmeth', hr, ret, narrow_b1]
  (try refine ⟨rfl, ?_⟩); (try refine ⟨rfl, ?_⟩)
  first | (intro acts; rw [hret _ acts rfl rfl rfl]) | rw [hret _ _ rfl rfl rfl]
  exact Steps.refl _
/-- what holds at the law's entry: the machine, the code, the tables' words (any of lw_tbl by 'hts w (by decide +kernel)'), the script of L ints xs at the cell b, what the Statement gives of the start (any of its parts by flat_of_before) -/
def lw_At (p : Program) (s : State) (m : MethodId) (meth : Method) (c : Code) (b L : Nat) (xs : Nat → Int32) : Prop :=
  p.tables.exec = Jvm.exec ∧ c.code = code ∧ meth.sig.returnType = ret ∧ c.maxLocals = 9 ∧ s.vm.findClass R_law = some m.cls ∧ (∀ w ∈ lw_tbl, w.before #[Value.ref b] s = true) ∧ va_X b L xs s s.heap ∧ b < s.heap.size ∧ meth.locks = false ∧ (Jvm.Cond.and given_1 narrow_1).before #[Value.ref b] s = true
/-! THE START: WHAT THE STATEMENT GIVES, AS THE ROWS WANT IT -/
theorem xe_F : ∀ q ∈ xnF, Cond.fieldLinkNest q.1 q.2.1 q.2.2.1 q.2.2.2.1 q.2.2.2.2.1 q.2.2.2.2.2 ∈ lw_tbl := by decide +kernel
theorem xe_M : ∀ q ∈ xnM, Cond.methodLinkNest q.1 q.2.1 q.2.2.1 q.2.2.2 ∈ lw_tbl := by decide +kernel
theorem xe_C : ∀ q ∈ xnC, Cond.castable q.1 q.2 ∈ lw_tbl := by decide +kernel
theorem xe_D : ∀ q ∈ xnD, Cond.declares q ∈ lw_tbl := by decide +kernel
theorem xe_I : ∀ q ∈ xnI, q.2.1.cls ≠ "java/lang/invoke/MethodHandle" ∧ q.2.1.cls ≠ "java/lang/invoke/VarHandle" := by decide +kernel
theorem xe_I1 : ∀ q ∈ xnI, Cond.declares q.2.1 ∈ lw_tbl := by decide +kernel
theorem xe_I2 : ∀ q ∈ xnI, Cond.interfaceMethod q.2.1.cls q.2.1.cls q.2.1.name q.2.1.desc ∈ lw_tbl := by decide +kernel
theorem xe_I3 : ∀ q ∈ xnI, Cond.publicMethod q.2.2 ∈ lw_tbl := by decide +kernel
theorem xe_I4 : ∀ q ∈ xnI, Cond.unhidden q.1 q.2.1.name q.2.1.desc ∈ lw_tbl := by decide +kernel
theorem xe_I5 : ∀ q ∈ xnI, Cond.castable q.1 q.2.1.cls ∈ lw_tbl := by decide +kernel
theorem x_classes {s : State} {args : Array Value} (hts : ∀ w ∈ lw_tbl, w.before args s = true) : ∃ (dC : Nat → ClassId) (dI : Nat → Nat → Nat), ∀ (k : Nat) (q : vw_C), xcl[k]? = some q → u_Kn s q.1 q.2.1 q.2.2 (dC k) (dI k) := by
  have htb : ∀ w ∈ xTb, w.before args s = true := fun w hw => hts w (List.mem_filter.mp hw).1
  have h : ∀ k : Nat, ∃ v : ClassId × (Nat → Nat), ∀ q : vw_C, xcl[k]? = some q → u_Kn s q.1 q.2.1 q.2.2 v.1 v.2 := by
    intro k
    match k with
    | 0 =>
      obtain ⟨c, i, h⟩ := u_known (n := 11) htb u_X9 (hts _ (List.mem_of_getElem? (i := 145) (by decide +kernel)))
      exact ⟨(c, i), fun q hq => by cases hq; exact h⟩
    | 1 =>
      obtain ⟨c, i, h⟩ := u_known (n := 14) htb u_X4 (hts _ (List.mem_of_getElem? (i := 153) (by decide +kernel)))
      exact ⟨(c, i), fun q hq => by cases hq; exact h⟩
    | 2 =>
      obtain ⟨c, i, h⟩ := u_known (n := 3) htb u_X8 (hts _ (List.mem_of_getElem? (i := 235) (by decide +kernel)))
      exact ⟨(c, i), fun q hq => by cases hq; exact h⟩
    | 3 =>
      obtain ⟨c, i, h⟩ := u_known (n := 7) htb u_X2 (hts _ (List.mem_of_getElem? (i := 253) (by decide +kernel)))
      exact ⟨(c, i), fun q hq => by cases hq; exact h⟩
    | 4 =>
      obtain ⟨c, i, h⟩ := u_known (n := 11) htb u_X7 (hts _ (List.mem_of_getElem? (i := 284) (by decide +kernel)))
      exact ⟨(c, i), fun q hq => by cases hq; exact h⟩
    | 5 =>
      obtain ⟨c, i, h⟩ := u_known (n := 3) htb u_X5 (hts _ (List.mem_of_getElem? (i := 333) (by decide +kernel)))
      exact ⟨(c, i), fun q hq => by cases hq; exact h⟩
    | 6 =>
      obtain ⟨c, i, h⟩ := u_known (n := 3) htb u_X6 (hts _ (List.mem_of_getElem? (i := 339) (by decide +kernel)))
      exact ⟨(c, i), fun q hq => by cases hq; exact h⟩
    | 7 =>
      obtain ⟨c, i, h⟩ := u_known (n := 5) htb u_X0 (hts _ (List.mem_of_getElem? (i := 372) (by decide +kernel)))
      exact ⟨(c, i), fun q hq => by cases hq; exact h⟩
    | 8 =>
      obtain ⟨c, i, h⟩ := u_known (n := 3) htb u_X3 (hts _ (List.mem_of_getElem? (i := 397) (by decide +kernel)))
      exact ⟨(c, i), fun q hq => by cases hq; exact h⟩
    | 9 =>
      obtain ⟨c, i, h⟩ := u_known (n := 11) htb u_X13 (hts _ (List.mem_of_getElem? (i := 1305) (by decide +kernel)))
      exact ⟨(c, i), fun q hq => by cases hq; exact h⟩
    | 10 =>
      obtain ⟨c, i, h⟩ := u_known (n := 3) htb u_Jx4a65c (hts _ (List.mem_of_getElem? (i := 1312) (by decide +kernel)))
      exact ⟨(c, i), fun q hq => by cases hq; exact h⟩
    | 11 =>
      obtain ⟨c, i, h⟩ := u_known (n := 0) htb u_X10 (hts _ (List.mem_of_getElem? (i := 1541) (by decide +kernel)))
      exact ⟨(c, i), fun q hq => by cases hq; exact h⟩
    | 12 =>
      obtain ⟨c, i, h⟩ := u_known (n := 4) htb u_Jx35411 (hts _ (List.mem_of_getElem? (i := 2125) (by decide +kernel)))
      exact ⟨(c, i), fun q hq => by cases hq; exact h⟩
    | k + 13 => exact ⟨(0, fun _ => 0), fun q hq => by simp at hq⟩
  exact ⟨fun k => (Classical.choose (h k)).1, fun k => (Classical.choose (h k)).2, fun k q hq => Classical.choose_spec (h k) q hq⟩
theorem x_arrs {s : State} {args : Array Value} (hts : ∀ w ∈ lw_tbl, w.before args s = true) : ∃ dA : Nat → ClassId, ∀ (k : Nat) (q : ClassId × FieldType), (x_tys dA)[k]? = some q → ArrOfT s q.1 q.2 ∧ va_RA s q.1 q.2 := by
  obtain ⟨c0, k0, m0, a0, b0, d0⟩ := Cond.arrayClass_spec (hts (Cond.arrayClass ClassFile.FieldType.int) (List.mem_of_getElem? (i := 232) (by decide +kernel)))
  obtain ⟨c1, k1, m1, a1, b1, d1⟩ := Cond.arrayClass_spec (hts (Cond.arrayClass ClassFile.FieldType.long) (List.mem_of_getElem? (i := 233) (by decide +kernel)))
  obtain ⟨c2, k2, m2, a2, b2, d2⟩ := Cond.arrayClass_spec (hts (Cond.arrayClass ClassFile.FieldType.double) (List.mem_of_getElem? (i := 2501) (by decide +kernel)))
  obtain ⟨m3, c3, k3, f3, -, g3, i3, j3⟩ := Cond.arrayOver_spec (hts (Cond.arrayOver (ClassFile.FieldType.object "java/lang/Object")) (List.mem_of_getElem? (i := 1489) (by decide +kernel)))
  obtain ⟨m6, c6, k6, f6, -, g6, i6, j6⟩ := Cond.arrayOver_spec (hts (Cond.arrayOver (ClassFile.FieldType.object "Weightlattice$Register")) (List.mem_of_getElem? (i := 396) (by decide +kernel)))
  obtain ⟨m4, c4, k4, f4, g4, i4, j4⟩ := Cond.arrayOver_specA (hts (Cond.arrayOver (ClassFile.FieldType.array ClassFile.FieldType.int)) (List.mem_of_getElem? (i := 159) (by decide +kernel)))
  obtain ⟨m5, c5, k5, f5, g5, i5, j5⟩ := Cond.arrayOver_specA (hts (Cond.arrayOver (ClassFile.FieldType.array ClassFile.FieldType.long)) (List.mem_of_getElem? (i := 260) (by decide +kernel)))
  refine ⟨fun k => match k with | 0 => c0 | 1 => c1 | 2 => c2 | 3 => c3 | 4 => c4 | 5 => c5 | _ => c6, fun k q hq => ?_⟩
  match k, hq with
  | 0, hq =>
    cases hq
    exact ⟨fun N z => ⟨(fun k h => by cases h), k0, b0, m0, d0⟩, a0⟩
  | 1, hq =>
    cases hq
    exact ⟨fun N z => ⟨(fun k h => by cases h), k1, b1, m1, d1⟩, a1⟩
  | 2, hq =>
    cases hq
    exact ⟨fun N z => ⟨(fun k h => by cases h), k2, b2, m2, d2⟩, a2⟩
  | 3, hq =>
    cases hq
    exact ⟨fun N z => ⟨(fun k h => by cases h), k3, g3, m3, i3⟩, k3, m3, g3, i3, f3, j3⟩
  | 4, hq =>
    cases hq
    exact ⟨fun N z => ⟨(fun k h => by cases h), k4, g4, m4, i4⟩, j4⟩
  | 5, hq =>
    cases hq
    exact ⟨fun N z => ⟨(fun k h => by cases h), k5, g5, m5, i5⟩, j5⟩
  | 6, hq =>
    cases hq
    exact ⟨fun N z => ⟨(fun k h => by cases h), k6, g6, m6, i6⟩, k6, m6, g6, i6, f6, j6⟩
  | k + 7, hq => simp [x_tys] at hq
set_option maxHeartbeats 1000000 in
theorem x_env {p : Program} {s : State} {m : MethodId} {meth : Method} {c : Code} {b L : Nat} {xs : Nat → Int32} (C0 : lw_At p s m meth c b L xs) (P : xP) (rho : Nat → Int32) (hr : ∀ j : Nat, j < L → rho j = xs j) : ∃ E : xE, E.2.2.1 = s.heap.size ∧ E.2.2.2.1 = rho ∧ x_xi E 0 = b ∧ va_K E.1 xcl (x_tys E.2.1) s ∧ x_EnD (xZ L P) E s s.heap := by
  obtain ⟨hx, hb, hr0, hml, hown, hts, hX, hbl, hlocks, hgv⟩ := C0
  have hA : ∀ a : Nat, a < s.heap.size → ¬ (fun q : Nat => s.heap.size ≤ q) a := fun a h => Nat.not_le.mpr h
  have fl := flat_of_before _ hgv
  obtain ⟨dC, dI, hK⟩ := x_classes hts
  obtain ⟨dA, hT⟩ := x_arrs hts
  obtain ⟨t1, ht1, hT1⟩ := va_Tof (A := fun q : Nat => s.heap.size ≤ q) (N := 0) (f := fun _ => .null) (by decide) (fl (.arrayOf (.static "java/util/ArrayList" "DEFAULTCAPACITY_EMPTY_ELEMENTDATA" "[Ljava/lang/Object;") (.object "java/lang/Object")) (by decide +kernel)) (va_eqt (fl (.eq (.length (.static "java/util/ArrayList" "DEFAULTCAPACITY_EMPTY_ELEMENTDATA" "[Ljava/lang/Object;")) (.int 0)) (by decide +kernel))) (fun j hj => absurd hj (Nat.not_lt_zero j)) hA
  obtain ⟨mi, hmi⟩ := va_Mi.of (fl (.isRef (.mirror "[Ljava/lang/Object;")) (by decide +kernel))
  obtain ⟨a4, -, -, -, ev4, -⟩ := Cond.exactly_spec (fl (.exactly (.string "Weightlattice" 80) "java/lang/String") (by decide +kernel))
  obtain ⟨a5, -, -, -, ev5, -⟩ := Cond.exactly_spec (fl (.exactly (.string "Weightlattice" 316) "java/lang/String") (by decide +kernel))
  refine ⟨((dC, dI), dA, s.heap.size, rho, fun k => match k with | 0 => b | 1 => t1 | 2 => mi | 4 => a4 | _ => a5), rfl, rfl, rfl, ⟨hK, hT⟩, ⟨?_, ?_⟩, ⟨?_, hT1⟩, ⟨?_, ?_⟩, ⟨hmi, ?_, ?_⟩, ⟨?_, ?_, ?_, ?_, ?_⟩, ⟨fun q hq => va_Nw.of rfl (hts _ (xe_F q hq)), fun q hq => va_Nw.of rfl (hts _ (xe_M q hq)), fun q hq => va_Nw.of rfl (hts _ (xe_C q hq)), fun q hq => ⟨(xe_I q hq).1, (xe_I q hq).2, va_Fw.of (hts _ (xe_I1 q hq)) (hts _ (xe_I2 q hq)) (hts _ (xe_I3 q hq)) (hts _ (xe_I4 q hq)) (hts _ (xe_I5 q hq))⟩, fun q hq => va_Nw.of rfl (hts _ (xe_D q hq))⟩, ?_, Nat.not_le.mpr hbl, hbl⟩
  · exact vx_Zqof (hts (Cond.laysStatic "java/lang/Throwable" "UNASSIGNED_STACK" "[Ljava/lang/StackTraceElement;") (List.mem_of_getElem? (i := 493) (by decide +kernel))) (hts (Cond.initialized "java/lang/Throwable") (List.mem_of_getElem? (i := 108) (by decide +kernel))) (fl (.isRef (.static "java/lang/Throwable" "UNASSIGNED_STACK" "[Ljava/lang/StackTraceElement;")) (by decide +kernel)) hA
  · exact vx_Zqof (hts (Cond.laysStatic "java/lang/Throwable" "SUPPRESSED_SENTINEL" "Ljava/util/List;") (List.mem_of_getElem? (i := 495) (by decide +kernel))) (hts (Cond.initialized "java/lang/Throwable") (List.mem_of_getElem? (i := 108) (by decide +kernel))) (fl (.isRef (.static "java/lang/Throwable" "SUPPRESSED_SENTINEL" "Ljava/util/List;")) (by decide +kernel)) hA
  · exact va_Zof (hts (Cond.laysStatic "java/util/ArrayList" "DEFAULTCAPACITY_EMPTY_ELEMENTDATA" "[Ljava/lang/Object;") (List.mem_of_getElem? (i := 1324) (by decide +kernel))) (hts (Cond.initialized "java/util/ArrayList") (List.mem_of_getElem? (i := 107) (by decide +kernel))) ht1 hA
  · exact va_Zof (hts (Cond.laysStatic "java/util/Arrays$LegacyMergeSort" "userRequested" "Z") (List.mem_of_getElem? (i := 1796) (by decide +kernel))) (hts (Cond.initialized "java/util/Arrays$LegacyMergeSort") (List.mem_of_getElem? (i := 119) (by decide +kernel))) (va_eqi (fl (.eq (.static "java/util/Arrays$LegacyMergeSort" "userRequested" "Z") (.int 0)) (by decide +kernel))) hA
  · exact va_Zof (hts (Cond.laysStatic "java/util/TimSort" "$assertionsDisabled" "Z") (List.mem_of_getElem? (i := 2075) (by decide +kernel))) (hts (Cond.initialized "java/util/TimSort") (List.mem_of_getElem? (i := 129) (by decide +kernel))) (va_eqi (fl (.eq (.static "java/util/TimSort" "$assertionsDisabled" "Z") (.int 1)) (by decide +kernel))) hA
  · exact vk_R.of (hts (Cond.stringRef "Weightlattice" (80 : Nat) "no such system") (List.mem_of_getElem? (i := 512) (by decide +kernel))) ev4
  · exact vk_R.of (hts (Cond.stringRef "Weightlattice" (316 : Nat) "no system was chosen") (List.mem_of_getElem? (i := 668) (by decide +kernel))) ev5
  · exact va_AO.of (hts (Cond.arrayOver (ClassFile.FieldType.object "java/lang/Object")) (List.mem_of_getElem? (i := 1489) (by decide +kernel)))
  · exact va_AO.of (hts (Cond.arrayOver (ClassFile.FieldType.object "Weightlattice$Register")) (List.mem_of_getElem? (i := 396) (by decide +kernel)))
  · exact (hts (Cond.arrayOver (ClassFile.FieldType.array ClassFile.FieldType.int)) (List.mem_of_getElem? (i := 159) (by decide +kernel)))
  · exact (hts (Cond.arrayOver (ClassFile.FieldType.array ClassFile.FieldType.long)) (List.mem_of_getElem? (i := 260) (by decide +kernel)))
  · exact va_Dc.of (hts (Cond.declares ({ cls := "java/lang/Object", name := "getClass", desc := "()Ljava/lang/Class;" } : MethodName)) (List.mem_of_getElem? (i := 2544) (by decide +kernel)))
  · obtain ⟨scr, h1, h2, h3, h4, h5⟩ := hX
    exact ⟨scr, h1, h2, h3, h4, fun j hj => (h5 j hj).trans (by rw [← hr j hj])⟩
