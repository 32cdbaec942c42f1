/-! FIELDS, NEW OBJECTS, STATICS -/
section XHEAP
variable {ms : List xM} {Z : xD} {own nm : String} {cc : ByteArray} {nL : Nat} {rt : Option FieldType} {hh : List (Nat × Nat × Nat × Nat)} {pc : Nat}
theorem x_RC_obj {E : xE} {al : List Nat} {c : xC} {e : va_E} (h : x_RC E al c e) (hc : c.1 < 100) : ∃ vs, e = .inr (c.1, vs) ∧ x_RS E al c.2 vs := by
  rcases h with ⟨-, h⟩ | ⟨h1, -⟩ | ⟨h1, -⟩ | ⟨h1, -⟩ | ⟨h0, h1, -⟩
  · exact h
  all_goals omega
noncomputable def xo_get (ci fk nx : Nat) : xO := fun _ c ls st w k n => x_pop st fun o t => x_tag 1 o fun i => x_wn w i fun q => x_if (Nat.beq q.1 ci) (x_nth q.2 fk fun v => c nx ls (v :: t) w k n)
theorem xs_getW {ci fk : Nat} {C : String} {T : u_T} {N : Nat} (hci : ci < 100) (hc : xcl[ci]? = some (C, T, N))
    (row : ∀ (d : Nat) (E : xE) (al0 : List Nat) (r : xT) (p : Program) (l : Launch) (e : Env) (R : Room) (s : State) (m : MethodId) (args : Array Value) (below : List Frame) (meth : Method) (c : Code) (Q : State → Prop), x_Cx own nm cc nL rt hh d Z E al0 r p l e R s m args below meth c Q → ∀ (ws : va_W) (H : Heap) (locs : List Loc) (als : Array Slot) (k n q0 a : Nat) (fs rest : List Value) (v : Value), va_P E.1 xcl ws H → ws[q0]? = some (a, .inr (ci, fs)) → fs[fk]? = some v → W p l e R s m args below meth c H locs k n Q (F0 m (pc + 3) als (v :: rest)) → W p l e R s m args below meth c H locs k n Q (F0 m pc als (.ref a :: rest))) : x_Ok ms Z own nm cc nL rt hh pc (xo_get ci fk (pc + 3)) := by
  intro d fn hfn E al0 r p l e R s m args below meth c Q hC cont ih ls st w k n h
  replace h := x_pop_some h
  obtain ⟨o, t, rfl, h⟩ := h
  replace h := x_tag_some h
  obtain ⟨i, rfl, h⟩ := h
  obtain ⟨q, h1, h⟩ := x_wn_some h
  obtain ⟨h2, h⟩ := x_if_some h
  obtain ⟨v, h3, h⟩ := x_nth_some h
  have g := ih _ _ _ _ _ _ h
  refine ⟨g.1, g.2.1, fun ws H locs als lv vst hW hal hS hl hL hV => ?_⟩
  replace hV := hV.cons
  obtain ⟨O, vst, rfl, ⟨a, h4, rfl⟩, hV⟩ := hV
  obtain ⟨e1, h5, h6⟩ := hW.1.get h1 h4
  have hq : q.1 = ci := Nat.eq_of_beq_eq_true h2
  obtain ⟨fs, rfl, h7⟩ := x_RC_obj h6 (by rw [hq]; exact hci)
  obtain ⟨V, h8, h9⟩ := h7.get h3
  exact row d E al0 r p l e R s m args below meth c Q hC ws H locs als k n i a fs vst V hW.2.1 (by rw [← hq]; exact h5) h8 (g.2.2 ws H locs als lv (V :: vst) hW hal hS hl hL ⟨h9, hV⟩)
theorem xs_get {ci fk index : Nat} {C ref fnm fds : String} {T : u_T} {N : Nat} (hci : ci < 100) (hc : xcl[ci]? = some (C, T, N)) (hk : fk < N) (hin : ∀ w ∈ u_ws C T N, w ∈ xTb) (hn : (T fk).2.1 = fnm) (hds : (T fk).2.2.1 = fds) (hlk : Cond.fieldLink own index ref fnm fds ∈ xTb) (hsm : ref = (T fk).1 ∨ Cond.sameField ref (T fk).1 fnm fds ∈ xTb) (hd : decode cc pc = .ok (.getfield index, 3)) : x_Ok ms Z own nm cc nL rt hh pc (xo_get ci fk (pc + 3)) := by
  subst hn
  subst hds
  refine xs_getW hci hc fun d E al0 r p l e R s m args below meth c Q hC ws H locs als k n q0 a fs rest v hP he hv kk => ?_
  obtain ⟨hx, hb, -, ho, hts, hK, -⟩ := hC
  refine va_get hx hb hts hin ho hK hP q0 he hc fk hk (hts _ hlk) ?_ hv hd kk
  rcases hsm with h | h
  · subst h
    exact fun x hx => hx
  · exact u_same (hts _ h)
theorem xs_getN {ci fk index : Nat} {C ref host fnm fds : String} {T : u_T} {N : Nat} (hci : ci < 100) (hc : xcl[ci]? = some (C, T, N)) (hk : fk < N) (hin : ∀ w ∈ u_ws C T N, w ∈ xTb) (hn : (T fk).2.1 = fnm) (hds : (T fk).2.2.1 = fds) (hlk : (own, index, ref, fnm, fds, host) ∈ Z.1) (hsm : ref = (T fk).1) (hd : decode cc pc = .ok (.getfield index, 3)) : x_Ok ms Z own nm cc nL rt hh pc (xo_get ci fk (pc + 3)) := by
  subst hn
  subst hds
  refine xs_getW hci hc fun d E al0 r p l e R s m args below meth c Q hC ws H locs als k n q0 a fs rest v hP he hv kk => ?_
  obtain ⟨hx, hb, -, ho, hts, hK, ⟨-, -, -, -, -, ⟨f1, -⟩, -⟩, -⟩ := hC
  exact va_getN hx hb hts hin ho hK hP q0 he hc fk hk (va_Nw.use rfl (f1 _ hlk)) (by subst hsm; exact fun x hx => hx) hv hd kk
/-- what a field takes -/
def x_isC (v : xV) : Bool := Nat.beq v.1 2 && (decide ((nI v.2).toUInt32.toUInt16.toUInt32.toInt32 = nI v.2) && (decide (0 ≤ nI v.2) && decide (nI v.2 ≤ 65535)))
def x_Fit (ty : FieldType) (chk : xV → Bool) : Prop := ∀ (E : xE) (al : List Nat) (v : xV) (V : Value), chk v = true → x_rv E al v V → narrow ty V = V ∧ fits ty V = true
theorem x_fit_int : x_Fit .int x_isI := fun E al v V hi hV => by
  have e := x_ri_of hi hV
  subst e
  exact ⟨rfl, rfl⟩
theorem x_fit_long : x_Fit .long (x_isT 3) := fun E al v V hi hV => by
  obtain ⟨u, rfl⟩ := x_isT_of hi
  cases hV
  exact ⟨rfl, rfl⟩
theorem x_fit_char : x_Fit .char x_isC := fun E al v V hi hV => by
  obtain ⟨t, u⟩ := v
  simp only [x_isC, Bool.and_eq_true, decide_eq_true_eq] at hi
  obtain ⟨h1, h2, h3, h4⟩ := hi
  have e : t = 2 := Nat.eq_of_beq_eq_true h1
  subst e
  cases hV
  exact ⟨congrArg Value.int h2, by simp [fits, h3, h4]⟩
theorem x_fit_obj {C : String} : x_Fit (.object C) x_isA := fun E al v V hi hV => by
  rcases x_isA_of hi hV with e | ⟨a, e⟩ <;> subst e <;> exact ⟨rfl, rfl⟩
theorem x_fit_arr {t : FieldType} : x_Fit (.array t) x_isA := fun E al v V hi hV => by
  rcases x_isA_of hi hV with e | ⟨a, e⟩ <;> subst e <;> exact ⟨rfl, rfl⟩
noncomputable def xo_put (ci fk : Nat) (chk : xV → Bool) (nx : Nat) : xO := fun _ c ls st w k n => x_pop st fun v t => x_pop t fun o t => x_tag 1 o fun i => x_wn w i fun q => x_if (Nat.beq q.1 ci && chk v) (x_set v q.2 fk fun l' => x_wt (ci, l') w i fun w' => c nx ls t w' k n)
theorem xs_putW {ci fk : Nat} {chk : xV → Bool} {ty : FieldType} {C : String} {T : u_T} {N : Nat} (hci : ci < 100) (hc : xcl[ci]? = some (C, T, N)) (hft : x_Fit ty chk)
    (row : ∀ (d : Nat) (E : xE) (al0 : List Nat) (r : xT) (p : Program) (l : Launch) (e : Env) (R : Room) (s : State) (m : MethodId) (args : Array Value) (below : List Frame) (meth : Method) (c : Code) (Q : State → Prop), x_Cx own nm cc nL rt hh d Z E al0 r p l e R s m args below meth c Q → ∀ (ws : va_W) (H : Heap) (locs : List Loc) (als : Array Slot) (k n q0 a : Nat) (fs rest : List Value) (v : Value), va_P E.1 xcl ws H → va_D (x_A E) ws → va_S (x_A E) s.heap H locs → ws[q0]? = some (a, .inr (ci, fs)) → fk < fs.length → narrow ty v = v → fits ty v = true →
      (∀ (H1 : Heap) (locs1 : List Loc), va_P E.1 xcl (ws.set q0 (a, .inr (ci, fs.set fk v))) H1 → va_D (x_A E) (ws.set q0 (a, .inr (ci, fs.set fk v))) → va_S (x_A E) s.heap H1 locs1 → W p l e R s m args below meth c H1 locs1 k n Q (F0 m (pc + 3) als rest)) → W p l e R s m args below meth c H locs k n Q (F0 m pc als (v :: .ref a :: rest))) : x_Ok ms Z own nm cc nL rt hh pc (xo_put ci fk chk (pc + 3)) := by
  intro d fn hfn E al0 r p l e R s m args below meth c Q hC cont ih ls st w k n h
  replace h := x_pop_some h
  obtain ⟨v, t, rfl, h⟩ := h
  replace h := x_pop_some h
  obtain ⟨o, t, rfl, h⟩ := h
  replace h := x_tag_some h
  obtain ⟨i, rfl, h⟩ := h
  obtain ⟨q, h1, h⟩ := x_wn_some h
  obtain ⟨h2, h⟩ := x_if_some h
  obtain ⟨h3, h⟩ := x_set_some h
  obtain ⟨h4, h⟩ := x_wt_some h
  have g := ih _ _ _ _ _ _ h
  refine ⟨g.1, g.2.1, fun ws H locs als lv vst hW hal hS hl hL hV => ?_⟩
  replace hV := hV.cons
  obtain ⟨V, vst, rfl, hv, hV⟩ := hV
  replace hV := hV.cons
  obtain ⟨O, vst, rfl, ⟨a, h5, rfl⟩, hV⟩ := hV
  obtain ⟨e1, h6, h7⟩ := hW.1.get h1 h5
  simp only [Bool.and_eq_true] at h2
  have hq : q.1 = ci := Nat.eq_of_beq_eq_true h2.1
  obtain ⟨fs, rfl, h8⟩ := x_RC_obj h7 (by rw [hq]; exact hci)
  rw [hq] at h6
  obtain ⟨h9, h10⟩ := hft E _ v V h2.2 hv
  refine row d E al0 r p l e R s m args below meth c Q hC ws H locs als k n i a fs vst V hW.2.1 hW.2.2 hS h6 (by rw [← h8.len]; exact h3) h9 h10 fun H1 locs1 hP hD hS1 => ?_
  have ha := x_al_set (e' := .inr (ci, fs.set fk V)) h6
  exact g.2.2 _ H1 locs1 als lv vst ⟨hW.1.set h6 (Or.inl ⟨hci, _, rfl, h8.set hv fk⟩), hP, hD⟩ (by rw [ha]; exact hal) hS1 hl (by rw [ha]; exact hL) (by rw [ha]; exact hV)
theorem xs_put {ci fk index : Nat} {chk : xV → Bool} {ty : FieldType} {C ref fnm fds : String} {T : u_T} {N : Nat} (hci : ci < 100) (hc : xcl[ci]? = some (C, T, N)) (hft : x_Fit ty chk) (hk : fk < N) (hin : ∀ w ∈ u_ws C T N, w ∈ xTb) (ty0 : Nat → FieldType) (hty : ∀ k, k < N → parseFieldDescriptor (T k).2.2.1 = some (ty0 k)) (hnm : ∀ a, a < N → ∀ b, b < N → a ≠ b → (T a).2.1 ≠ (T b).2.1) (hn : (T fk).2.1 = fnm) (hds : (T fk).2.2.1 = fds) (hlk : Cond.fieldLink own index ref fnm fds ∈ xTb) (hsm : ref = (T fk).1 ∨ Cond.sameField ref (T fk).1 fnm fds ∈ xTb) (hfin : (T fk).2.2.2 = false) (hpd : parseFieldDescriptor fds = some ty) (hd : decode cc pc = .ok (.putfield index, 3)) : x_Ok ms Z own nm cc nL rt hh pc (xo_put ci fk chk (pc + 3)) := by
  subst hn
  subst hds
  refine xs_putW hci hc hft fun d E al0 r p l e R s m args below meth c Q hC ws H locs als k n q0 a fs rest v hP hD hS he hl hnr hfi kk => ?_
  obtain ⟨hx, hb, -, ho, hts, hK, -⟩ := hC
  refine va_put hx hb hts hin ty0 hty hnm ho hK hP hD hS q0 he hc fk hk (hts _ hlk) ?_ hfin hpd hnr hfi hl hd kk
  rcases hsm with h | h
  · subst h
    exact fun x hx => hx
  · exact u_same (hts _ h)
theorem xs_putN {ci fk index : Nat} {chk : xV → Bool} {ty : FieldType} {C ref host fnm fds : String} {T : u_T} {N : Nat} (hci : ci < 100) (hc : xcl[ci]? = some (C, T, N)) (hft : x_Fit ty chk) (hk : fk < N) (hin : ∀ w ∈ u_ws C T N, w ∈ xTb) (ty0 : Nat → FieldType) (hty : ∀ k, k < N → parseFieldDescriptor (T k).2.2.1 = some (ty0 k)) (hnm : ∀ a, a < N → ∀ b, b < N → a ≠ b → (T a).2.1 ≠ (T b).2.1) (hn : (T fk).2.1 = fnm) (hds : (T fk).2.2.1 = fds) (hlk : (own, index, ref, fnm, fds, host) ∈ Z.1) (hsm : ref = (T fk).1) (hfin : (T fk).2.2.2 = false) (hpd : parseFieldDescriptor fds = some ty) (hd : decode cc pc = .ok (.putfield index, 3)) : x_Ok ms Z own nm cc nL rt hh pc (xo_put ci fk chk (pc + 3)) := by
  subst hn
  subst hds
  refine xs_putW hci hc hft fun d E al0 r p l e R s m args below meth c Q hC ws H locs als k n q0 a fs rest v hP hD hS he hl hnr hfi kk => ?_
  obtain ⟨hx, hb, -, ho, hts, hK, ⟨-, -, -, -, -, ⟨f1, -⟩, -⟩, -⟩ := hC
  exact va_putN hx hb hts hin ty0 hty hnm ho hK hP hD hS q0 he hc fk hk (va_Nw.use rfl (f1 _ hlk)) (by subst hsm; exact fun x hx => hx) hfin hpd hnr hfi hl hd kk
theorem xs_putF {ci fk index : Nat} {chk : xV → Bool} {ty : FieldType} {C ref fnm fds : String} {T : u_T} {N : Nat} (hci : ci < 100) (hc : xcl[ci]? = some (C, T, N)) (hft : x_Fit ty chk) (hk : fk < N) (hin : ∀ w ∈ u_ws C T N, w ∈ xTb) (ty0 : Nat → FieldType) (hty : ∀ k, k < N → parseFieldDescriptor (T k).2.2.1 = some (ty0 k)) (hnm : ∀ a, a < N → ∀ b, b < N → a ≠ b → (T a).2.1 ≠ (T b).2.1) (hn : (T fk).2.1 = fnm) (hds : (T fk).2.2.1 = fds) (hlk : Cond.fieldLink own index ref fnm fds ∈ xTb) (hsm : ref = (T fk).1) (hfin : (T fk).2.2.2 = true) (hini : nm = "<init>") (hdc : (T fk).1 = own) (hpd : parseFieldDescriptor fds = some ty) (hd : decode cc pc = .ok (.putfield index, 3)) : x_Ok ms Z own nm cc nL rt hh pc (xo_put ci fk chk (pc + 3)) := by
  subst hn
  subst hds
  refine xs_putW hci hc hft fun d E al0 r p l e R s m args below meth c Q hC ws H locs als k n q0 a fs rest v hP hD hS he hl hnr hfi kk => ?_
  obtain ⟨hx, hb, -, ho, hts, hK, -, -, -, -, hnme, -⟩ := hC
  exact va_putF hx hb hts hin ty0 hty hnm ho hK hP hD hS q0 he hc fk hk (hts _ hlk) (by subst hsm; exact fun x hx => hx) hfin (hnme.trans hini) hdc hpd hnr hfi hl hd kk
/-- a static field -/
theorem xs_gets {v : xV} {V : Value} {index : Nat} {ref C fnm fds : String} (henv : ∀ (E : xE) (s : State), x_EnD Z E s s.heap → (∀ al, x_rv E al v (V)) ∧ va_Z C fnm fds V (x_A E) s s.heap) (hlk : Cond.fieldLink own index ref fnm fds ∈ xTb) (hsm : ref = C) (hd : decode cc pc = .ok (.getstatic index, 3)) : x_Ok ms Z own nm cc nL rt hh pc (xo_push v (pc + 3)) := by
  intro d fn hfn E al0 r p l e R s m args below meth c Q hC cont ih ls st w k n h
  have g := ih _ _ _ _ _ _ h
  obtain ⟨hx, hb, -, ho, hts, hK, hE, -⟩ := hC
  refine ⟨g.1, g.2.1, fun ws H locs als lv vst hW hal hS hl hL hV => ?_⟩
  obtain ⟨h1, h2⟩ := henv E s hE
  exact va_gets hx hb h2 hS ho (hts _ hlk) (by subst hsm; exact fun x hx => hx) hd (g.2.2 ws H locs als lv (V :: vst) hW hal hS hl hL ⟨h1 _, hV⟩)
theorem xs_getsU {index : Nat} {host : String} (hlk : (own, index, "java/util/Arrays$LegacyMergeSort", "userRequested", "Z", host) ∈ Z.1) (hd : decode cc pc = .ok (.getstatic index, 3)) : x_Ok ms Z own nm cc nL rt hh pc (xo_push (2, 0) (pc + 3)) := by
  intro d fn hfn E al0 r p l e R s m args below meth c Q hC cont ih ls st w k n h
  have g := ih _ _ _ _ _ _ h
  obtain ⟨hx, hb, -, ho, hts, hK, hE, -⟩ := hC
  refine ⟨g.1, g.2.1, fun ws H locs als lv vst hW hal hS hl hL hV => ?_⟩
  exact va_getsN hx hb hE.2.2.1.1 hS ho (va_Nw.use rfl (hE.2.2.2.2.2.1.1 _ hlk)) (fun x hx => hx) hd (g.2.2 ws H locs als lv (.int 0 :: vst) hW hal hS hl hL ⟨rfl, hV⟩)
theorem xs_getsA {index : Nat} (hlk : Cond.fieldLink own index "java/util/TimSort" "$assertionsDisabled" "Z" ∈ xTb) (hd : decode cc pc = .ok (.getstatic index, 3)) : x_Ok ms Z own nm cc nL rt hh pc (xo_push (2, 1) (pc + 3)) := xs_gets (V := .int 1) (fun E s h => ⟨fun _ => rfl, h.2.2.1.2⟩) hlk rfl hd
theorem xs_getsD {index : Nat} (hlk : Cond.fieldLink own index "java/util/ArrayList" "DEFAULTCAPACITY_EMPTY_ELEMENTDATA" "[Ljava/lang/Object;" ∈ xTb) (hd : decode cc pc = .ok (.getstatic index, 3)) : x_Ok ms Z own nm cc nL rt hh pc (xo_push (5, 1) (pc + 3)) := by
  intro d fn hfn E al0 r p l e R s m args below meth c Q hC cont ih ls st w k n h
  have g := ih _ _ _ _ _ _ h
  obtain ⟨hx, hb, -, ho, hts, hK, hE, -⟩ := hC
  refine ⟨g.1, g.2.1, fun ws H locs als lv vst hW hal hS hl hL hV => ?_⟩
  exact va_gets hx hb hE.2.1.1 hS ho (hts _ hlk) (fun x hx => hx) hd (g.2.2 ws H locs als lv (.ref (x_xi E 1) :: vst) hW hal hS hl hL ⟨rfl, hV⟩)
/-- the default values -/
def x_dv (v : xV) : Value := match v with
  | (2, n) => .int (nI n)
  | (3, n) => .long (lN n)
  | _ => .null
def x_isD (v : xV) : Bool := Nat.beq v.1 0 || (Nat.beq v.1 2 || Nat.beq v.1 3)
theorem x_dv_rv {E : xE} {al : List Nat} {v : xV} (h : x_isD v = true) : x_rv E al v (x_dv v) := by
  obtain ⟨t, n⟩ := v
  simp only [x_isD, Bool.or_eq_true] at h
  rcases h with h | h | h
  · have e : t = 0 := Nat.eq_of_beq_eq_true h
    subst e
    exact rfl
  · have e : t = 2 := Nat.eq_of_beq_eq_true h
    subst e
    exact rfl
  · have e : t = 3 := Nat.eq_of_beq_eq_true h
    subst e
    exact rfl
theorem x_dv_RS {E : xE} {al : List Nat} : ∀ {l : List xV}, l.all x_isD = true → x_RS E al l (l.map x_dv)
  | [], _ => trivial
  | v :: l, h => by
    simp only [List.all_cons, Bool.and_eq_true] at h
    exact ⟨x_dv_rv h.1, x_dv_RS h.2⟩
noncomputable def xo_new (ci : Nat) (ini : List xV) (N nx : Nat) : xO := fun _ c ls st w k n => x_fn w.1 fun i => x_wp (ci, ini) w fun w' => x_fn (k + 1) fun k' => x_fn (n + N) fun n' => c nx ls ((1, i) :: st) w' k' n'
theorem x_al_push {ws : va_W} {a : Nat} {e : va_E} : x_al (ws ++ [(a, e)]) = x_al ws ++ [a] := by simp
theorem x_RW_len {E : xE} {w : xW} {ws : va_W} (h : x_RW E w ws) {a : Nat} {e : va_E} : (x_al (ws ++ [(a, e)]))[w.1]? = some a := by
  rw [x_al_push, h.1, List.getElem?_append_right (by simp)]
  simp
theorem xs_new {ci index : Nat} {ini : List xV} {C : String} {T : u_T} {N : Nat} (hci : ci < 100) (hc : xcl[ci]? = some (C, T, N)) (hin : ∀ w ∈ u_ws C T N, w ∈ xTb) (ty0 : Nat → FieldType) (hty : ∀ k, k < N → parseFieldDescriptor (T k).2.2.1 = some (ty0 k)) (hini : ini.all x_isD = true) (hfs : ∀ j, j < N → defaultValue (ty0 j) = vp_V (ini.map x_dv) j) (hcl : Cond.classLink own index C ∈ xTb) (hins : Cond.instantiable C N ∈ xTb) (hit : Cond.initialized C ∈ xTb) (hd : decode cc pc = .ok (.new index, 3)) : x_Ok ms Z own nm cc nL rt hh pc (xo_new ci ini N (pc + 3)) := by
  intro d fn hfn E al0 r p l e R s m args below meth c Q hC cont ih ls st w k n h
  have h' : x_fn w.1 (fun i => x_wp (ci, ini) w fun w' => x_fn (k + 1) fun k' => x_fn (n + N) fun n' => cont (pc + 3) ls ((1, i) :: st) w' k' n') = some r := h
  rw [x_fn_eq] at h'
  obtain ⟨w', hps, h'⟩ := x_wp_some h'
  rw [x_fn_eq, x_fn_eq] at h'
  have g := ih _ _ _ _ _ _ h'
  obtain ⟨hx, hb, -, ho, hts, hK, hE, hb0, -, -, -, -, -, ⟨-, -, hR1, hR2⟩, -⟩ := hC
  refine ⟨Nat.le_trans (Nat.le_succ k) g.1, Nat.le_trans (Nat.le_add_right n N) g.2.1, fun ws H locs als lv vst hW hal hS hl hL hV => ?_⟩
  refine va_new hx hb hts hin ty0 hty ho (hts _ hcl) (hts _ hins) (hts _ hit) hK hW.2.1 hW.2.2 hS (fun q h => Nat.le_trans hb0 h) hc hfs (Nat.le_trans g.1 hR1) (Nat.le_trans g.2.1 hR2) hd fun q H1 hP hD hS1 => ?_
  have hp : x_al ws <+: x_al (ws ++ [(q, (.inr (ci, ini.map x_dv) : va_E))]) := by rw [x_al_push]; exact List.prefix_append _ _
  exact g.2.2 _ H1 locs als lv _ ⟨hW.1.push hps (Or.inl ⟨hci, _, rfl, x_dv_RS hini⟩), hP, hD⟩ (hal.trans hp) hS1 hl (hL.mono hp) ⟨⟨q, x_RW_len hW.1, rfl⟩, hV.mono hp⟩
end XHEAP
