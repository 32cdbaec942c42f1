/-! A RUN THAT DOESN'T COME BACK: INTO A CALL WITHOUT A CONTRACT; RUNS CUT SHORT -/
section XDIV
theorem x_within_up {s : State} {f : Frame} {below : List Frame} (h : Within s (f :: below)) : Within s below := by
  obtain ⟨ab, h1, h2, h3⟩ := h
  refine ⟨ab ++ [f], by rw [h1, List.append_assoc]; rfl, by simp, fun a q => ?_⟩
  cases ab with
  | nil => exact h2 rfl
  | cons x t => simp at q
theorem x_steps_up {tb : Tables} {e : Env} {f : Frame} {below : List Frame} {s t : State} (h : Steps tb e (f :: below) s t) : Steps tb e below s t := by
  obtain ⟨n, h1, h2⟩ := h
  exact ⟨n, h1, fun k hk => x_within_up (h2 k hk)⟩
/-- into a method's body, whatever comes of it -/
theorem x_enter {l : Launch} {y : MethodName} {S : Spec} {p : Program} {e : Env} {s : State} {m : MethodId} {args : Array Value} {below : List Frame} {code : ByteArray} {maxL : Nat} {ret : Option FieldType} {Q : State → Prop} (hy : plainFor y = true) (ha : l.admits e) (hc : FairCas e.choices) (hk : FairClock e.choices) (hf : s.frames = .invoking m args :: below) (happ : S.appliesLoose y e.platform s = true)
    (his : s.methodNamed? y = some m → S.pre.before args s = true → ∃ meth c, s.vm.method? m = some meth ∧ meth.code = some c ∧ c.code = code ∧ c.maxLocals = maxL ∧ meth.sig.returnType = ret ∧ meth.locks = false)
    (body : ∀ meth c s₁, BodyLoose p l y S code maxL ret e s m args below meth c s₁ → c.maxLocals = maxL → ∃ t, Steps p.tables e below (s₁.setTop (entryFrame m args maxL)) t ∧ Q t) :
    s.goesOn ∧ ∃ t, Steps p.tables e below (stepThread p.tables e s).1 t ∧ Q t := by
  obtain ⟨hrun, hable, halone, hname, hhears, hinit, hroom, hpre⟩ := (Spec.appliesLoose_iff hf).mp happ
  obtain ⟨meth, c, hmeth, hcode, hbytes, hlocals, hret, hlocks⟩ := his hname hpre
  have hcur := State.cur_lt_of_frames hf
  have hf1 : (s.setFrames (.java (entryFrame m args maxL) :: below)).frames = .java (entryFrame m args maxL) :: below := State.frames_setFrames _ hcur
  have ht1 := State.topJava?_of_frames hf1
  have hplain : (s.setFrames (.java (entryFrame m args maxL) :: below)).plainMethod m := State.plainMethod.of_named (s := s) hy hname hmeth
  have hAt : At (s.setFrames (.java (entryFrame m args maxL) :: below)) m c below :=
    ⟨by rw [ht1]; rfl, ⟨[], by rw [hf1]; rfl⟩, hrun, by simpa using hable, by simpa using halone, by rw [State.code?_eq]; simp [State.setFrames, hmeth, hcode], hplain⟩
  have hstep : (stepThread p.tables e s).1 = (s.setFrames (.java (entryFrame m args maxL) :: below)).setTop (entryFrame m args maxL) := by
    have hfull : e.platform.stackFull (s.setFrames below).me (s.setFrames below).frames c.maxLocals = false := by
      obtain ⟨-, h1, -, h2⟩ := State.hasRoom_stack hroom
      rw [hf, List.length_cons] at h1
      rw [State.localsInUse_invoking hf hmeth hcode] at h2
      have hw := stackUse_le_stackWeight below
      rw [State.frames_setFrames _ hcur]
      exact Platform.stackFull_eq_false (by rw [State.stackLimits_setFrames]; omega) (by rw [State.stackLimits_setFrames]; omega)
    rw [stepThread_invoking hf, (doInvoke_java (s := s.setFrames below) (e := e) (meth := meth) (code := c) hmeth hcode hlocks hfull).1, State.setTop_self ht1]
    simp only [State.pushFrame, State.frames_setFrames _ hcur, State.setFrames_setFrames, hlocals, entryFrame]
  rw [hstep]
  exact ⟨⟨hrun, hable, halone⟩, body meth c _ ⟨ha, hc, hk, by cases p <;> rfl, hf, hname, hhears, hinit, hroom, hpre, hmeth, hret, hlocks, hbytes, rfl, hAt⟩ hlocals⟩
variable {ms : List xM} {Z : xD} {own nm : String} {cc : ByteArray} {nL : Nat} {rt : Option FieldType} {hh : List (Nat × Nat × Nat × Nat)} {pc : Nat}
set_option maxHeartbeats 1000000 in
/-- a call of the receiver's own method, of which nothing is said but where its body comes to -/
theorem x_rowD {na index ci : Nat} {q : vw_C} {M : xM} (hM : x_Mok M) (hci : ci < 100) (hc : xcl[ci]? = some q) (hq : M.1.cls = q.1) (hpl : plainFor M.1 = true) (hlk : Cond.methodLink own index M.1 ∈ xTb) (him : Cond.instanceMethod M.1 ∈ xTb) (hse : Cond.selects q.1 M.1 M.1 ∈ xTb) (hn : (parseMethodDescriptor M.1.desc).map (fun d => d.parameters.length) = some na) (hd : decode cc pc = .ok (.invokevirtual index, 3))
    {d : Nat} {E : xE} {al0 : List Nat} {r : xT} {p : Program} {l : Launch} {e : Env} {R : Room} {s : State} {m : MethodId} {args : Array Value} {below : List Frame} {meth : Method} {c : Code} {Q : State → Prop} (hC : x_Cx own nm cc nL rt hh d Z E al0 r p l e R s m args below meth c Q)
    {w : xW} {ws : va_W} {H : Heap} {locs : List Loc} {als : Array Slot} {k n : Nat} {av : List xV} {vs rest : List Value} (hsz : als.size = nL) (hW : x_Wd E w ws H) (hS : va_S (x_A E) s.heap H locs) (hna : av.length = na + 1) (hV : x_RS E (x_al ws) av vs) (hck : x_ckO ci w av = true) (hcat : (rest.map fun v => v.category).sum ≤ 8)
    {rm : Room} (r1 : rm.frames + 1 ≤ R.frames) (r2 : 8 + (M.2.2.1 + 11) + rm.locals ≤ R.locals) (r3 : k + rm.cells ≤ R.cells) (r4 : n + rm.slots ≤ R.slots)
    (body : ∀ (s' : State) (m' : MethodId) (below' : List Frame) (meth' : Method) (c' : Code) (s₁ : State), BodyLoose p l M.1 (headSpec (x_ws M) rm) M.2.1 M.2.2.1 M.2.2.2.1 e s' m' vs.toArray below' meth' c' s₁ → c'.maxLocals = M.2.2.1 → s'.heap = H → x_Pre Z E w ws s' → ∃ t, Steps p.tables e below' (s₁.setTop (entryFrame m' vs.toArray M.2.2.1)) t ∧ Q t) :
    W p l e R s m args below meth c H locs k n Q (F0 m pc als (vs.reverse ++ rest)) := by
  obtain ⟨hx, hb, hml, ho, hts, hK, hE, hb0, -⟩ := hC
  obtain ⟨b, As, rfl, hlen, cell, hcell, hobj, hcls⟩ := x_recv hci hc hK hW hV hck
  intro T hT X
  have hcode := hts _ hM.2.1
  have hy := hM.2.2.2.1
  obtain ⟨mk, methM, hnamed, hmethM, hstM, habM⟩ := Cond.instanceMethod_spec (hts _ him)
  obtain ⟨methM', cM, hmethM', hcM, -, hlM, -, -, -, hsigM⟩ := Cond.code_spec hnamed hcode
  cases hmethM.symm.trans hmethM'
  obtain ⟨c2, r2', m2, q1, q2, q3, q4, kP, hkP, hkPi⟩ := Cond.selects_spec (hts _ hse)
  cases hcls.symm.trans q1
  cases (State.methodFound?_of_named hnamed hy).symm.trans q2
  cases hnamed.symm.trans q3
  have hselP : selectMethod e.platform s.vm cell.cls mk = .method mk := by rw [Launch.admits_selectMethod X.admits]; exact q4
  have hlen' : As.length = methM.sig.parameters.length := by
    rw [hsigM] at hn
    have hn' : methM.sig.parameters.length = na := Option.some.inj hn
    omega
  have hdg : decode c.code (F0 m pc als ((Value.ref b :: As).reverse ++ rest)).pc = .ok (.invokevirtual index, 3) := by rw [hb]; exact hd
  obtain ⟨vm₁, X₁, hstep₁⟩ := X.invokevirtual hx ho (hts _ hlk) hnamed hmethM hstM hkP hkPi hy (a := b) (cell := cell) (by rw [hT]; exact hcell) (fun z h => by rw [h] at hobj; cases hobj) hselP hmethM habM hkP hkPi (g := F0 m pc als ((Value.ref b :: As).reverse ++ rest)) rfl (argsL := As) (rest := rest) hlen' (by simp) hdg
  have hU : ∀ w ∈ x_ws M, w.before (Value.ref b :: As).toArray (T.setVm vm₁) = true := fun w hw => word_at X₁.warmed (hM.goodIn w hw).2 (hts _ (hM.goodIn w hw).1)
  have hnU := X₁.named hnamed
  have hcodeU : (Cond.code M.1 M.2.1 M.2.2.1 M.2.2.2.1).before (Value.ref b :: As).toArray (T.setVm vm₁) = true := word_at X₁.warmed (hM.goodIn _ (by rw [hM.hd]; exact List.mem_cons_self)).2 hcode
  have hinitU : (Cond.initialized M.1.cls).before (Value.ref b :: As).toArray (T.setVm vm₁) = true := hU _ (by rw [hM.hd]; exact List.mem_cons_of_mem _ hM.2.2.1)
  obtain ⟨methY, cY, hmY, hcY, -, hlY, -, -, -, -⟩ := Cond.code_spec hnU hcodeU
  obtain ⟨kY, hkY, -⟩ := className_of_methodNamed hnU
  have hinitY : kY.init = .initialized := Cond.initialized_spec (findClass_of_methodNamed hnU) hkY hinitU
  let g : JFrame := F0 m pc als rest
  have hAt : At (T.setVm vm₁) g.method c below := X₁.here
  have happ : (headSpec (x_ws M) rm).appliesLoose M.1 e.platform ((T.setVm vm₁).calling g mk (Value.ref b :: As).toArray) = true :=
    Spec.appliesLoose_calling (g := g) hAt (by rw [hb]; exact hd) hnU hkY hinitY
      (X₁.room_calling (g := g) (R' := rm) (hsz.trans hml.symm) hmY hcY r1 (by rw [hlY]; have := lv_room (m := m) (pc := pc) (ls := als) (rest := rest) hcat; show 2 * (F0 m pc als rest).monitorRoom + (rest.map fun v => v.category).sum + (M.2.2.1 + 11) + rm.locals ≤ R.locals; omega) r3 r4) (atoms_intro hU)
  have hfr : ((T.setVm vm₁).setTop g).frames = .java g :: below := by rw [State.frames_setTop' g hAt.top, X₁.tail]
  have hcur : ((T.setVm vm₁).setTop g).cur < ((T.setVm vm₁).setTop g).threads.size := State.cur_lt_of_frames hfr
  have hf' : ((T.setVm vm₁).calling g mk (Value.ref b :: As).toArray).frames = .invoking mk (Value.ref b :: As).toArray :: .java g :: below := by
    rw [State.frames_calling hAt.top, X₁.tail]
  have hWm : s.WarmedH ((T.setVm vm₁).calling g mk (Value.ref b :: As).toArray).vm := X₁.warmed
  have hheap : ((T.setVm vm₁).calling g mk (Value.ref b :: As).toArray).heap = H := hT
  have hpre := x_Pre_of hW hK hE hb0 hS ((T.setVm vm₁).calling g mk (Value.ref b :: As).toArray) hheap hWm
  obtain ⟨-, t, ht, hQ⟩ := x_enter (code := M.2.1) (maxL := M.2.2.1) (ret := M.2.2.2.1) (Q := Q) (p := p) hpl X.admits X.cas X.clock hf' happ (fun hnm hp => by
      obtain ⟨meth, c, h1, h2, h3, h4, h5, h6, -, -⟩ := Cond.code_spec hnm (atoms_spec (ws := x_ws M) hp _ (by rw [hM.hd]; exact List.mem_cons_self))
      exact ⟨meth, c, h1, h2, h3, h4, h5, h6⟩) (fun meth' c' s₁ B hml' => body _ mk _ meth' c' s₁ B hml' hheap hpre)
  obtain ⟨x0, hx0⟩ : ∃ x0, ((T.setVm vm₁).setTop g).threads[((T.setVm vm₁).setTop g).cur]? = some x0 := ⟨_, Array.getElem?_eq_getElem hcur⟩
  have hstep : (stepThread p.tables e ((T.setVm vm₁).calling g mk (Value.ref b :: As).toArray)).1 = (doInvoke e ((T.setVm vm₁).setTop g) [] mk (Value.ref b :: As).toArray).1 := by
    have hf2 : (((T.setVm vm₁).setTop g).pushFrame (.invoking mk (Value.ref b :: As).toArray)).frames = .invoking mk (Value.ref b :: As).toArray :: ((T.setVm vm₁).setTop g).frames := State.frames_setFrames _ hcur
    show (stepThread p.tables e (((T.setVm vm₁).setTop g).pushFrame (.invoking mk (Value.ref b :: As).toArray))).1 = _
    rw [stepThread_invoking hf2, State.pushFrame, State.setFrames_setFrames, State.setFrames_self hx0]
  rw [hstep] at ht
  exact ⟨t, hstep₁ t fun acts => by rw [doInvoke_state]; exact x_steps_up ht, hQ⟩
/-- a run that stops after so many instructions of this frame -/
noncomputable def x_loopS (stop : xK) (code : List (List xO)) (fn : xF) (N : Nat) : xK := Nat.rec (motive := fun _ => xK) stop (fun _ ih pc ls st w k n => x_look code pc fun o => o fn ih ls st w k n) N
theorem x_loopS_ok {stop : xK} {code : List (List xO)} (htab : ∀ (pc i j : Nat) (row : List xO) (o : xO), pc = 16 * i + j → j < 16 → code[i]? = some row → row[j]? = some o → x_Ok ms Z own nm cc nL rt hh pc o) {d : Nat} {fn : xF} (hfn : x_Fn ms Z d fn) {E : xE} {al0 : List Nat} {r : xT} {p : Program} {l : Launch} {e : Env} {R : Room} {s : State} {m : MethodId} {args : Array Value} {below : List Frame} {meth : Method} {c : Code} {Q : State → Prop} (hC : x_Cx own nm cc nL rt hh d Z E al0 r p l e R s m args below meth c Q)
    (hstop : ∀ (pc : Nat) (ls st : List xV) (w : xW) (k n : Nat), stop pc ls st w k n = some r → x_Gd E nL s.heap al0 (x_G p l e R s m args below meth c Q) r pc ls st w k n) : ∀ (N pc : Nat) (ls st : List xV) (w : xW) (k n : Nat), x_loopS stop code fn N pc ls st w k n = some r → x_Gd E nL s.heap al0 (x_G p l e R s m args below meth c Q) r pc ls st w k n := by
  intro N
  induction N with
  | zero => exact hstop
  | succ N ih =>
    intro pc ls st w k n h
    obtain ⟨row, o, h1, h3, h4⟩ := x_look_some (show x_look code pc (fun o => o fn (x_loopS stop code fn N) ls st w k n) = some r from h)
    exact htab pc (pc / 16) (pc % 16) row o (Nat.div_add_mod pc 16).symm (Nat.mod_lt _ (by decide)) h1 h3 d fn hfn E al0 r p l e R s m args below meth c Q hC (x_loopS stop code fn N) ih ls st w k n h4
/-- a stop at one state -/
noncomputable def x_sto (r : xT) (pc0 : Nat) (ls0 st0 : List xV) (w0 : xW) (k0 n0 : Nat) : xK := fun pc ls st w k n => x_if (@decide (pc = pc0 ∧ ls = ls0 ∧ st = st0 ∧ w = w0 ∧ k = k0 ∧ n = n0) (Classical.propDecidable _)) (some r)
theorem x_sto_self {r : xT} {pc0 : Nat} {ls0 st0 : List xV} {w0 : xW} {k0 n0 : Nat} : x_sto r pc0 ls0 st0 w0 k0 n0 pc0 ls0 st0 w0 k0 n0 = some r := by
  unfold x_sto
  rw [@decide_eq_true _ (Classical.propDecidable _) ⟨rfl, rfl, rfl, rfl, rfl, rfl⟩]
  rfl
theorem x_sto_some {r r' : xT} {pc0 : Nat} {ls0 st0 : List xV} {w0 : xW} {k0 n0 pc : Nat} {ls st : List xV} {w : xW} {k n : Nat} (h : x_sto r pc0 ls0 st0 w0 k0 n0 pc ls st w k n = some r') : pc = pc0 ∧ ls = ls0 ∧ st = st0 ∧ w = w0 ∧ k = k0 ∧ n = n0 :=
  @of_decide_eq_true _ (Classical.propDecidable _) (x_if_some h).1
/-- a stretch of a frame's run without calls: from one state of the small machine to another -/
theorem x_seg {code : List (List xO)} (htab : ∀ (pc i j : Nat) (row : List xO) (o : xO), pc = 16 * i + j → j < 16 → code[i]? = some row → row[j]? = some o → x_Ok ms Z own nm cc nL rt hh pc o) {d : Nat} {fn : xF} (hfn : x_Fn ms Z d fn) {E : xE} {al0 : List Nat} {r : xT} {p : Program} {l : Launch} {e : Env} {R : Room} {s : State} {m : MethodId} {args : Array Value} {below : List Frame} {meth : Method} {c : Code} {Q : State → Prop} (hC : x_Cx own nm cc nL rt hh d Z E al0 r p l e R s m args below meth c Q)
    {N pc0 pc1 : Nat} {ls0 st0 ls1 st1 : List xV} {w : xW} {k n : Nat} (hrun : ∀ (stop : xK), x_loopS stop code fn N pc0 ls0 st0 w k n = stop pc1 ls1 st1 w k n) (hk : k ≤ r.2.2.2.1) (hn : n ≤ r.2.2.2.2)
    (kk : ∀ (ws : va_W) (H : Heap) (locs : List Loc) (als : Array Slot) (lv : List (Nat × Value)) (vst : List Value), x_Wd E w ws H → al0 <+: x_al ws → va_S (x_A E) s.heap H locs → lv_has als nL lv → x_RL E (x_al ws) ls1 lv → x_RS E (x_al ws) st1 vst → W p l e R s m args below meth c H locs k n Q (F0 m pc1 als vst)) :
    x_Gd E nL s.heap al0 (x_G p l e R s m args below meth c Q) r pc0 ls0 st0 w k n := by
  refine x_loopS_ok (stop := x_sto r pc1 ls1 st1 w k n) htab hfn hC (fun pc ls st w' k' n' h => ?_) N pc0 ls0 st0 w k n ((hrun _).trans x_sto_self)
  obtain ⟨rfl, rfl, rfl, rfl, rfl, rfl⟩ := x_sto_some h
  exact ⟨hk, hn, kk⟩
end XDIV
