/-! A FRAME, ITS CONTEXT, A CONTRACT -/
abbrev x_A (E : xE) : Nat → Prop := fun q => E.2.2.1 ≤ q
abbrev x_xi (E : xE) : Nat → Nat := E.2.2.2.2
/-- what holds of the start, and goes on holding: the statics, the constants, the words that aren't good ones -/
def x_En (nF : List (String × Nat × String × String × String × String)) (nM : List (String × Nat × MethodName × String)) (nC : List (String × String)) (nI : List (String × MethodName × MethodName)) (nD : List MethodName) (xs : Nat → Int32) (L : Nat) (E : xE) (U : State) (H : Heap) : Prop :=
  (vx_Zq Bundle.tN "UNASSIGNED_STACK" Bundle.steD (x_A E) U H ∧ vx_Zq Bundle.tN "SUPPRESSED_SENTINEL" Bundle.listD (x_A E) U H) ∧
  (va_Z "java/util/ArrayList" "DEFAULTCAPACITY_EMPTY_ELEMENTDATA" "[Ljava/lang/Object;" (.ref (x_xi E 1)) (x_A E) U H ∧ va_T (.object "java/lang/Object") (x_xi E 1) 0 (fun _ => .null) (x_A E) U H) ∧
  (va_Z "java/util/Arrays$LegacyMergeSort" "userRequested" "Z" (.int 0) (x_A E) U H ∧ va_Z "java/util/TimSort" "$assertionsDisabled" "Z" (.int 1) (x_A E) U H) ∧
  (va_Mi "[Ljava/lang/Object;" (x_xi E 2) U ∧ vk_R "Weightlattice" 80 "no such system" (x_xi E 4) U ∧ vk_R "Weightlattice" 316 "no system was chosen" (x_xi E 5) U) ∧
  (va_AO "java/lang/Object" U ∧ va_AO "Weightlattice$Register" U ∧ va_AOA .int U ∧ va_AOA .long U ∧ va_Dc U) ∧
  ((∀ q ∈ nF, va_Nw (.fieldLinkNest q.1 q.2.1 q.2.2.1 q.2.2.2.1 q.2.2.2.2.1 q.2.2.2.2.2) U) ∧ (∀ q ∈ nM, va_Nw (.methodLinkNest q.1 q.2.1 q.2.2.1 q.2.2.2) U) ∧ (∀ q ∈ nC, va_Nw (.castable q.1 q.2) U) ∧ (∀ q ∈ nI, q.2.1.cls ≠ "java/lang/invoke/MethodHandle" ∧ q.2.1.cls ≠ "java/lang/invoke/VarHandle" ∧ va_Fw q.1 q.2.1 q.2.2 U) ∧ (∀ q ∈ nD, va_Nw (.declares q) U)) ∧
  (va_X (x_xi E 0) L xs U H ∧ ¬ x_A E (x_xi E 0) ∧ x_xi E 0 < H.size)
theorem va_AOA.moved {t : FieldType} {u U : State} (hvm : u.vm.Alike U.vm) (h : va_AOA t u) : va_AOA t U := over_moved hvm h
theorem x_En.moved {nF nM nC nI nD xs L} {E : xE} {u U : State} {H H1 : Heap} (hW : u.WarmedH U.vm) (hz : H.size ≤ H1.size) (hq : ∀ a : Nat, a < H.size → ¬ x_A E a → H1[a]? = H[a]?) (h : x_En nF nM nC nI nD xs L E u H) : x_En nF nM nC nI nD xs L E U H1 := by
  obtain ⟨⟨a1, a2⟩, ⟨b1, b2⟩, ⟨c1, c2⟩, ⟨d1, d2, d3⟩, ⟨e1, e2, e3, e4, e5⟩, ⟨f1, f2, f3, f4, f5⟩, g1, g2, g3⟩ := h
  have hv := hW.alike
  refine ⟨⟨(a1.moved hv).kept hq, (a2.moved hv).kept hq⟩, ⟨(b1.moved hv).kept hq, (b2.moved hv).kept hq⟩, ⟨(c1.moved hv).kept hq, (c2.moved hv).kept hq⟩, ⟨d1.moved hv, vk_R.warm hW d2, vk_R.warm hW d3⟩, ⟨e1.moved hv, e2.moved hv, e3.moved hv, e4.moved hv, e5.moved hv⟩, ⟨fun q hq => va_Nw.warmF hW (f1 q hq), fun q hq => va_Nw.warmM hW (f2 q hq), fun q hq => va_Nw.warmC hW (f3 q hq), fun q hq => ?_, fun q hq => va_Nw.warmD hW (f5 q hq)⟩, (g1.moved hv).kept (hq _ g3 g2), g2, Nat.lt_of_lt_of_le g3 hz⟩
  obtain ⟨k1, k2, k3⟩ := f4 q hq
  exact ⟨k1, k2, k3.moved ⟨k1, k2⟩ hv⟩
/-- the static data of a run: nest words, casts, interface calls, the script, its length, what is known of named numbers -/
abbrev xD : Type := (List (String × Nat × String × String × String × String)) × (List (String × Nat × MethodName × String)) × (List (String × String)) × (List (String × MethodName × MethodName)) × (List MethodName) × Nat × xP
abbrev x_EnD (Z : xD) (E : xE) (U : State) (H : Heap) : Prop := x_En Z.1 Z.2.1 Z.2.2.1 Z.2.2.2.1 Z.2.2.2.2.1 E.2.2.2.1 Z.2.2.2.2.2.1 E U H
/-- a named result of an operation: its number, what it makes of two ints -/
def x_fop : Nat → Int32 → Int32 → Int32
  | 0, a, b => a &&& b
  | 1, a, _ => (a.toUInt32 % 65536).toInt32
  | 2, a, b => cond (decide (a = b)) 1 0
  | 3, a, b => cond (!decide (a = b)) 1 0
  | 4, a, b => cond (decide (a < b)) 1 0
  | 5, a, b => cond (decide (b ≤ a)) 1 0
  | 6, a, b => cond (decide (b < a)) 1 0
  | 7, a, b => cond (decide (a ≤ b)) 1 0
  | 8, a, _ => a
  | _, _, _ => 0
def x_isI (v : xV) : Bool := Nat.beq v.1 2 || Nat.beq v.1 4
/-- what the named results say is so -/
def x_FOK (E : xE) (P : xP) : Prop := ∀ q ∈ P, x_isI q.1.2.1 = true ∧ x_isI q.1.2.2 = true ∧ x_isI q.2 = true ∧ x_fop q.1.1 (x_ri E.2.2.2.1 q.1.2.1) (x_ri E.2.2.2.1 q.1.2.2) = x_ri E.2.2.2.1 q.2
/-- the world that a state holds -/
def x_Wd (E : xE) (w : xW) (ws : va_W) (H : Heap) : Prop := x_RW E w ws ∧ va_P E.1 xcl ws H ∧ va_D (x_A E) ws
/-- the frame's state, as the small machine has it, comes to the result r -/
def x_Gd (E : xE) (nL : Nat) (H0 : Heap) (al0 : List Nat) (G : Heap → List Loc → Nat → Nat → Nat → Array Slot → List Value → Prop) (r : xT) (pc : Nat) (ls st : List xV) (w : xW) (k n : Nat) : Prop :=
  k ≤ r.2.2.2.1 ∧ n ≤ r.2.2.2.2 ∧ ∀ (ws : va_W) (H : Heap) (locs : List Loc) (als : Array Slot) (lv : List (Nat × Value)) (vst : List Value), x_Wd E w ws H → al0 <+: x_al ws → va_S (x_A E) H0 H locs → lv_has als nL lv → x_RL E (x_al ws) ls lv → x_RS E (x_al ws) st vst → G H locs k n pc als vst
abbrev x_G (p : Program) (l : Launch) (e : Env) (R : Room) (s : State) (m : MethodId) (args : Array Value) (below : List Frame) (meth : Method) (c : Code) (Q : State → Prop) : Heap → List Loc → Nat → Nat → Nat → Array Slot → List Value → Prop := fun H locs k n pc als vst => W p l e R s m args below meth c H locs k n Q (F0 m pc als vst)
/-- an answer -/
def x_Ro (E : xE) (al : List Nat) (r : xT) (vo : Option Value) : Prop := (r.1 = 0 ∧ ∃ V, vo = some V ∧ x_rv E al r.2.1 V) ∨ (r.1 = 1 ∧ vo = none)
/-- the return instructions -/
def x_rti (cc : ByteArray) (pc : Nat) (rt : Option FieldType) (vo : Option Value) : Prop :=
  (vo = none ∧ rt = none ∧ decode cc pc = .ok (.return_, 1)) ∨
  (∃ x ty, vo = some (.int x) ∧ rt = some ty ∧ narrow ty (.int x) = .int x ∧ decode cc pc = .ok (.ireturn, 1)) ∨
  (∃ x, vo = some (.long x) ∧ rt = some .long ∧ decode cc pc = .ok (.lreturn, 1)) ∨
  (∃ x, vo = some (.float x) ∧ rt = some .float ∧ decode cc pc = .ok (.freturn, 1)) ∨
  (∃ x, vo = some (.double x) ∧ rt = some .double ∧ decode cc pc = .ok (.dreturn, 1)) ∨
  (∃ v ty, vo = some v ∧ rt = some ty ∧ ((∃ n, ty = .object n) ∨ ∃ t, ty = .array t) ∧ (v = .null ∨ ∃ a, v = .ref a) ∧ decode cc pc = .ok (.areturn, 1))
/-- the exceptions that the class throws -/
def x_en : Nat → String
  | 0 => "java/lang/IllegalStateException"
  | _ => "java/lang/IllegalArgumentException"
abbrev x_rm (d : Nat) (r : xT) : Room := { frames := d + 8, cells := r.2.2.2.1, slots := r.2.2.2.2, locals := 70 * d + 200 }
/-- what a frame knows of itself -/
def x_Cx (own nm : String) (cc : ByteArray) (nL : Nat) (rt : Option FieldType) (hh : List (Nat × Nat × Nat × Nat)) (d : Nat) (Z : xD) (E : xE) (al0 : List Nat) (r : xT) (p : Program) (l : Launch) (e : Env) (R : Room) (s : State) (m : MethodId) (args : Array Value) (below : List Frame) (meth : Method) (c : Code) (Q : State → Prop) : Prop :=
  p.tables.exec = Jvm.exec ∧ c.code = cc ∧ c.maxLocals = nL ∧ s.vm.findClass own = some m.cls ∧ (∀ w ∈ xTb, w.before args s = true) ∧ va_K E.1 xcl (x_tys E.2.1) s ∧ x_EnD Z E s s.heap ∧ E.2.2.1 ≤ s.heap.size ∧ meth.locks = false ∧ l.stackTraces = false ∧ meth.name = nm ∧ c.exceptionTable.toList = tableOf hh ∧ x_FOK E Z.2.2.2.2.2.2 ∧
  (d + 9 ≤ R.frames ∧ 70 * (d + 1) + 200 ≤ R.locals ∧ r.2.2.2.1 ≤ R.cells ∧ r.2.2.2.2 ≤ R.slots) ∧
  (∀ (vo : Option Value) (pc : Nat) (als : Array Slot) (H : Heap) (locs : List Loc) (ws : va_W), x_Wd E r.2.2.1 ws H → al0 <+: x_al ws → va_S (x_A E) s.heap H locs → x_Ro E (x_al ws) r vo → x_rti cc pc rt vo → W p l e R s m args below meth c H locs r.2.2.2.1 r.2.2.2.2 Q (F0 m pc als vo.toList)) ∧
  (2 ≤ r.1 → ∃ (Qc : Array Value → State → Outcome → State → Prop) (XC : String → State → State → Prop), Q = vx_MQ below Qc XC args s r.2.2.2.1 r.2.2.2.2 (x_A E) ∧ ∀ (t : State) (ws : va_W), x_Wd E r.2.2.1 ws t.heap → al0 <+: x_al ws → va_F (x_A E) s t → XC (x_en (r.1 - 2)) s t)
/-- the methods: name, code, locals, type, handlers -/
abbrev xM : Type := MethodName × ByteArray × Nat × Option FieldType × List (Nat × Nat × Nat × Nat)
def x_hd (M : xM) : Cond := if M.2.2.2.2 = [] then .code M.1 M.2.1 M.2.2.1 M.2.2.2.1 else .codeWith M.1 M.2.1 M.2.2.1 M.2.2.2.1 M.2.2.2.2
noncomputable def x_ws (M : xM) : List Cond := x_hd M :: xTb
/-- what a method takes -/
def x_Pre (Z : xD) (E : xE) (w : xW) (ws : va_W) (U : State) : Prop := E.2.2.1 ≤ U.heap.size ∧ x_Wd E w ws U.heap ∧ va_K E.1 xcl (x_tys E.2.1) U ∧ x_EnD Z E U U.heap
/-- what it gives back -/
def x_Qc (E : xE) (al0 : List Nat) (r : xT) : Array Value → State → Outcome → State → Prop := fun _ st oc t => ∃ (vo : Option Value) (ws : va_W), oc = .returned vo ∧ x_Ro E (x_al ws) r vo ∧ x_Wd E r.2.2.1 ws t.heap ∧ al0 <+: x_al ws ∧ va_F (x_A E) st t
def x_Xc (E : xE) (al0 : List Nat) (r : xT) : String → State → State → Prop := fun C st t => ∃ ws : va_W, 2 ≤ r.1 ∧ C = x_en (r.1 - 2) ∧ x_Wd E r.2.2.1 ws t.heap ∧ al0 <+: x_al ws ∧ va_F (x_A E) st t
def x_Ctr (Z : xD) (d : Nat) (M : xM) (av : List xV) (w : xW) (r : xT) : Prop := ∀ (l : Launch) (E : xE) (vs : List Value) (ws : va_W), l.stackTraces = false → x_FOK E Z.2.2.2.2.2.2 → x_RS E (x_al ws) av vs → vx_Met l M.1 (x_ws M) (x_rm d r) (va_Pc vs (x_Pre Z E w ws)) (x_Qc E (x_al ws) r) (x_Xc E (x_al ws) r) r.2.2.2.1 r.2.2.2.2 (x_A E)
/-- the callees' contracts, at depth d -/
def x_Fn (ms : List xM) (Z : xD) (d : Nat) (fn : xF) : Prop := ∀ (u : Nat) (M : xM) (av : List xV) (w : xW) (r : xT), ms[u]? = some M → fn u av w = some r → x_Ctr Z d M av w r
/-- an instruction of the small machine says what the machine does -/
def x_Ok (ms : List xM) (Z : xD) (own nm : String) (cc : ByteArray) (nL : Nat) (rt : Option FieldType) (hh : List (Nat × Nat × Nat × Nat)) (pc : Nat) (o : xO) : Prop :=
  ∀ (d : Nat) (fn : xF), x_Fn ms Z d fn → ∀ (E : xE) (al0 : List Nat) (r : xT) (p : Program) (l : Launch) (e : Env) (R : Room) (s : State) (m : MethodId) (args : Array Value) (below : List Frame) (meth : Method) (c : Code) (Q : State → Prop), x_Cx own nm cc nL rt hh d Z E al0 r p l e R s m args below meth c Q →
    ∀ (cont : xK), (∀ pc ls st w k n, cont pc ls st w k n = some r → x_Gd E nL s.heap al0 (x_G p l e R s m args below meth c Q) r pc ls st w k n) →
      ∀ (ls st : List xV) (w : xW) (k n : Nat), o fn cont ls st w k n = some r → x_Gd E nL s.heap al0 (x_G p l e R s m args below meth c Q) r pc ls st w k n
