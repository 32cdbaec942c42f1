/-! ARRAYS -/
section XARR
variable {ms : List xM} {Z : xD} {own nm : String} {cc : ByteArray} {nL : Nat} {rt : Option FieldType} {hh : List (Nat × Nat × Nat × Nat)} {pc : Nat}
theorem x_ix {i n : Nat} (h : i < n) (hi : Nat.blt i 2147483648 = true) : vp_in (nI i) n ∧ (nI i).toNatClampNeg = i := by
  have h1 : i < 2 ^ 31 := Nat.le_of_ble_eq_true hi
  have h2 := nI_clamp h1
  refine ⟨?_, h2⟩
  rintro (q | q)
  · exact nI_pos h1 q
  · rw [h2] at q
    omega
/-- an element onto the stack -/
noncomputable def xo_ald (ck : Nat → Bool) (nx : Nat) : xO := fun _ c ls st w k n => x_pop st fun iv t => x_pop t fun av t => x_tag 2 iv fun i => x_tag 1 av fun a => x_if (Nat.blt i 2147483648) (x_wn w a fun q => x_if (ck q.1) (x_nth q.2 i fun v => c nx ls (v :: t) w k n))
theorem xs_aldW {ck : Nat → Bool} (row : ∀ (d : Nat) (E : xE) (al0 : List Nat) (r : xT) (p : Program) (l : Launch) (e : Env) (R : Room) (s : State) (m : MethodId) (args : Array Value) (below : List Frame) (meth : Method) (c : Code) (Q : State → Prop), x_Cx own nm cc nL rt hh d Z E al0 r p l e R s m args below meth c Q → ∀ (ws : va_W) (H : Heap) (locs : List Loc) (als : Array Slot) (k n q0 a i : Nat) (e1 : va_E) (q : xC) (v : xV) (rest : List Value), va_P E.1 xcl ws H → ws[q0]? = some (a, e1) → ck q.1 = true → x_RC E (x_al ws) q e1 → q.2[i]? = some v → vp_in (nI i) q.2.length → (nI i).toNatClampNeg = i → ∃ V, x_rv E (x_al ws) v V ∧ (W p l e R s m args below meth c H locs k n Q (F0 m (pc + 1) als (V :: rest)) → W p l e R s m args below meth c H locs k n Q (F0 m pc als (.int (nI i) :: .ref a :: rest)))) : x_Ok ms Z own nm cc nL rt hh pc (xo_ald ck (pc + 1)) := by
  intro d fn hfn E al0 r p l e R s m args below meth c Q hC cont ih ls st w k n h
  replace h := x_pop_some h
  obtain ⟨iv, t, rfl, h⟩ := h
  replace h := x_pop_some h
  obtain ⟨av, t, rfl, h⟩ := h
  replace h := x_tag_some h
  obtain ⟨i, rfl, h⟩ := h
  replace h := x_tag_some h
  obtain ⟨b, rfl, h⟩ := h
  obtain ⟨h0, h⟩ := x_if_some h
  obtain ⟨q, h1, h⟩ := x_wn_some h
  obtain ⟨h2, h⟩ := x_if_some h
  obtain ⟨v, h3, h⟩ := x_nth_some h
  have g := ih _ _ _ _ _ _ h
  refine ⟨g.1, g.2.1, fun ws H locs als lv vst hW hal hS hl hL hV => ?_⟩
  replace hV := hV.cons
  obtain ⟨I, vst, rfl, hI, hV⟩ := hV
  replace hV := hV.cons
  obtain ⟨O, vst, rfl, ⟨a, h4, rfl⟩, hV⟩ := hV
  cases hI
  obtain ⟨e1, h5, h6⟩ := hW.1.get h1 h4
  obtain ⟨h7, h8⟩ := x_ix (List.getElem?_eq_some_iff.mp h3).1 h0
  obtain ⟨V, h9, h10⟩ := row d E al0 r p l e R s m args below meth c Q hC ws H locs als k n b a i e1 q v vst hW.2.1 h5 h2 h6 h3 h7 h8
  exact h10 (g.2.2 ws H locs als lv (V :: vst) hW hal hS hl hL ⟨h9, hV⟩)
theorem x_RC_i {E : xE} {al : List Nat} {c : xC} {e : va_E} (h : x_RC E al c e) (hc : c.1 = 100) : ∃ f : Nat → Int32, e = .inl (E.2.1 0, c.2.length, .inl f) ∧ ∀ j v, c.2[j]? = some v → x_rv E al v (.int (f j)) := by
  rcases h with ⟨h1, -⟩ | ⟨-, h⟩ | ⟨h1, -⟩ | ⟨h1, -⟩ | ⟨h0, h1, -⟩
  · omega
  · exact h
  all_goals omega
theorem x_RC_l {E : xE} {al : List Nat} {c : xC} {e : va_E} (h : x_RC E al c e) (hc : c.1 = 101) : ∃ f : Nat → Int64, e = .inl (E.2.1 1, c.2.length, .inr (.inl f)) ∧ ∀ j v, c.2[j]? = some v → x_rv E al v (.long (f j)) := by
  rcases h with ⟨h1, -⟩ | ⟨h1, -⟩ | ⟨-, h⟩ | ⟨h1, -⟩ | ⟨h0, h1, -⟩
  · omega
  · omega
  · exact h
  all_goals omega
theorem x_RC_q {E : xE} {al : List Nat} {c : xC} {e : va_E} (h : x_RC E al c e) (hc : 103 ≤ c.1) : c.1 < 107 ∧ ∃ f : Nat → Option Nat, e = .inl (E.2.1 (c.1 - 100), c.2.length, .inr (.inr (.inr (.inr f)))) ∧ ∀ j v, c.2[j]? = some v → x_rv E al v (va_rf (f j)) := by
  rcases h with ⟨h1, -⟩ | ⟨h1, -⟩ | ⟨h1, -⟩ | ⟨h1, -⟩ | ⟨h0, h1, h⟩
  · omega
  · omega
  · omega
  · omega
  · exact ⟨h1, h⟩
/-- the types of the reference arrays -/
theorem x_tyq {dA : Nat → ClassId} {kd : Nat} (h0 : 103 ≤ kd) (h1 : kd < 107) : ∃ ty : FieldType, (x_tys dA)[kd - 100]? = some (dA (kd - 100), ty) ∧ ty.isReference = true := by
  obtain rfl | rfl | rfl | rfl : kd = 103 ∨ kd = 104 ∨ kd = 105 ∨ kd = 106 := by omega
  · exact ⟨_, rfl, rfl⟩
  · exact ⟨_, rfl, rfl⟩
  · exact ⟨_, rfl, rfl⟩
  · exact ⟨_, rfl, rfl⟩
def x_k100 (k : Nat) : Bool := Nat.beq k 100
def x_k101 (k : Nat) : Bool := Nat.beq k 101
def x_kq (k : Nat) : Bool := Nat.ble 103 k
theorem xs_iaload (hd : decode cc pc = .ok (.iaload, 1)) : x_Ok ms Z own nm cc nL rt hh pc (xo_ald x_k100 (pc + 1)) := xs_aldW fun d E al0 r p l e R s m args below meth c Q hC ws H locs als k n q0 a i e1 q v rest hP he hk hr hv hi hi2 => by
  obtain ⟨hx, hb, -, ho, hts, hK, -⟩ := hC
  obtain ⟨f, rfl, hf⟩ := x_RC_i hr (Nat.eq_of_beq_eq_true hk)
  refine ⟨.int (f i), hf i v hv, fun kk => ?_⟩
  refine va_iald hx hb hK hP q0 0 he rfl hi hd ?_
  rw [hi2]
  exact kk
theorem xs_laload (hd : decode cc pc = .ok (.laload, 1)) : x_Ok ms Z own nm cc nL rt hh pc (xo_ald x_k101 (pc + 1)) := xs_aldW fun d E al0 r p l e R s m args below meth c Q hC ws H locs als k n q0 a i e1 q v rest hP he hk hr hv hi hi2 => by
  obtain ⟨hx, hb, -, ho, hts, hK, -⟩ := hC
  obtain ⟨f, rfl, hf⟩ := x_RC_l hr (Nat.eq_of_beq_eq_true hk)
  refine ⟨.long (f i), hf i v hv, fun kk => ?_⟩
  refine va_lald hx hb hK hP q0 1 he rfl hi hd ?_
  rw [hi2]
  exact kk
theorem xs_aaload (hd : decode cc pc = .ok (.aaload, 1)) : x_Ok ms Z own nm cc nL rt hh pc (xo_ald x_kq (pc + 1)) := xs_aldW fun d E al0 r p l e R s m args below meth c Q hC ws H locs als k n q0 a i e1 q v rest hP he hk hr hv hi hi2 => by
  obtain ⟨hx, hb, -, ho, hts, hK, -⟩ := hC
  have h0 : 103 ≤ q.1 := Nat.le_of_ble_eq_true hk
  obtain ⟨h1, f, rfl, hf⟩ := x_RC_q hr h0
  obtain ⟨ty, ht, hrf⟩ := x_tyq (dA := E.2.1) h0 h1
  refine ⟨va_rf (f i), hf i v hv, fun kk => ?_⟩
  have hlt : (nI i).toNatClampNeg < q.2.length := Nat.not_le.mp fun q => hi (Or.inr q)
  exact W.aald (v := va_rf (f i)) (ty := ty) hx hb (hP q0 _ he) ((hK.2 _ _ ht).1 q.2.length (fun j => va_rf (f j))) hrf (fun q => by cases q) (by show ¬ (nI i < 0 ∨ (arrV _ _ _).slots.size ≤ _); rw [arrV_size]; exact hi) (by show (arrV _ _ _).slots[_]? = _; rw [arrV_read _ _ hlt, hi2]) rfl rfl hd kk
/-- an element written -/
noncomputable def xo_ast (ck : Nat → Bool) (chk : xV → Bool) (nx : Nat) : xO := fun _ c ls st w k n => x_pop st fun v t => x_pop t fun iv t => x_pop t fun av t => x_tag 2 iv fun i => x_tag 1 av fun a => x_if (Nat.blt i 2147483648 && chk v) (x_wn w a fun q => x_if (ck q.1) (x_set v q.2 i fun l' => x_wt (q.1, l') w a fun w' => c nx ls t w' k n))
theorem xs_astW {ck : Nat → Bool} {chk : xV → Bool} (row : ∀ (d : Nat) (E : xE) (al0 : List Nat) (r : xT) (p : Program) (l : Launch) (e : Env) (R : Room) (s : State) (m : MethodId) (args : Array Value) (below : List Frame) (meth : Method) (c : Code) (Q : State → Prop), x_Cx own nm cc nL rt hh d Z E al0 r p l e R s m args below meth c Q → ∀ (w : xW) (ws : va_W) (H : Heap) (locs : List Loc) (als : Array Slot) (k n q0 a i : Nat) (e1 : va_E) (q : xC) (v : xV) (V : Value) (rest : List Value), x_Wd E w ws H → va_S (x_A E) s.heap H locs → ws[q0]? = some (a, e1) → ck q.1 = true → x_RC E (x_al ws) q e1 → i < q.2.length → vp_in (nI i) q.2.length → (nI i).toNatClampNeg = i → chk v = true → x_rv E (x_al ws) v V → ∃ e2, x_RC E (x_al ws) (q.1, q.2.set i v) e2 ∧ ((∀ (H1 : Heap) (locs1 : List Loc), va_P E.1 xcl (ws.set q0 (a, e2)) H1 → va_D (x_A E) (ws.set q0 (a, e2)) → va_S (x_A E) s.heap H1 locs1 → W p l e R s m args below meth c H1 locs1 k n Q (F0 m (pc + 1) als rest)) → W p l e R s m args below meth c H locs k n Q (F0 m pc als (V :: .int (nI i) :: .ref a :: rest)))) : x_Ok ms Z own nm cc nL rt hh pc (xo_ast ck chk (pc + 1)) := by
  intro d fn hfn E al0 r p l e R s m args below meth c Q hC cont ih ls st w k n h
  replace h := x_pop_some h
  obtain ⟨v, t, rfl, h⟩ := h
  replace h := x_pop_some h
  obtain ⟨iv, t, rfl, h⟩ := h
  replace h := x_pop_some h
  obtain ⟨av, t, rfl, h⟩ := h
  replace h := x_tag_some h
  obtain ⟨i, rfl, h⟩ := h
  replace h := x_tag_some h
  obtain ⟨b, rfl, h⟩ := h
  obtain ⟨h0, h⟩ := x_if_some h
  obtain ⟨q, h1, h⟩ := x_wn_some h
  obtain ⟨h2, h⟩ := x_if_some h
  obtain ⟨h3, h⟩ := x_set_some h
  obtain ⟨h4, h⟩ := x_wt_some h
  have g := ih _ _ _ _ _ _ h
  simp only [Bool.and_eq_true] at h0
  refine ⟨g.1, g.2.1, fun ws H locs als lv vst hW hal hS hl hL hV => ?_⟩
  replace hV := hV.cons
  obtain ⟨V, vst, rfl, hvv, hV⟩ := hV
  replace hV := hV.cons
  obtain ⟨I, vst, rfl, hI, hV⟩ := hV
  replace hV := hV.cons
  obtain ⟨O, vst, rfl, ⟨a, h5, rfl⟩, hV⟩ := hV
  cases hI
  obtain ⟨e1, h6, h7⟩ := hW.1.get h1 h5
  obtain ⟨h8, h9⟩ := x_ix h3 h0.1
  obtain ⟨e2, h10, h11⟩ := row d E al0 r p l e R s m args below meth c Q hC w ws H locs als k n b a i e1 q v V vst hW hS h6 h2 h7 h3 h8 h9 h0.2 hvv
  refine h11 fun H1 locs1 hP hD hS1 => ?_
  have ha := x_al_set (e' := e2) h6
  exact g.2.2 _ H1 locs1 als lv vst ⟨hW.1.set h6 h10, hP, hD⟩ (by rw [ha]; exact hal) hS1 hl (by rw [ha]; exact hL) (by rw [ha]; exact hV)
theorem xs_iastore (hd : decode cc pc = .ok (.iastore, 1)) : x_Ok ms Z own nm cc nL rt hh pc (xo_ast x_k100 x_isI (pc + 1)) := xs_astW fun d E al0 r p l e R s m args below meth c Q hC w ws H locs als k n q0 a i e1 q v V rest hW hS he hk hr hlt hi hi2 hc hv => by
  obtain ⟨hx, hb, -, ho, hts, hK, -⟩ := hC
  have hq : q.1 = 100 := Nat.eq_of_beq_eq_true hk
  obtain ⟨f, rfl, hf⟩ := x_RC_i hr hq
  have e := x_ri_of hc hv
  subst e
  refine ⟨.inl (E.2.1 0, q.2.length, .inl (upd f i (x_ri E.2.2.2.1 v))), Or.inr (Or.inl ⟨hq, _, by rw [List.length_set], fun j u hj => ?_⟩), fun kk => ?_⟩
  · by_cases hij : i = j
    · subst hij
      rw [List.getElem?_set_self hlt] at hj
      cases hj
      simp only [upd, if_true]
      exact hv
    · rw [List.getElem?_set_ne hij] at hj
      simp only [upd, if_neg (fun q : j = i => hij q.symm)]
      exact hf j u hj
  · refine va_iast hx hb hK hW.2.1 hW.2.2 hS q0 0 he rfl hi hd ?_
    rw [hi2]
    exact kk
theorem xs_lastore (hd : decode cc pc = .ok (.lastore, 1)) : x_Ok ms Z own nm cc nL rt hh pc (xo_ast x_k101 (x_isT 3) (pc + 1)) := xs_astW fun d E al0 r p l e R s m args below meth c Q hC w ws H locs als k n q0 a i e1 q v V rest hW hS he hk hr hlt hi hi2 hc hv => by
  obtain ⟨hx, hb, -, ho, hts, hK, -⟩ := hC
  have hq : q.1 = 101 := Nat.eq_of_beq_eq_true hk
  obtain ⟨f, rfl, hf⟩ := x_RC_l hr hq
  obtain ⟨u, rfl⟩ := x_isT_of hc
  have e : V = .long (lN u) := hv
  subst e
  refine ⟨.inl (E.2.1 1, q.2.length, .inr (.inl (vp_updL f i (lN u)))), Or.inr (Or.inr (Or.inl ⟨hq, _, by rw [List.length_set], fun j u2 hj => ?_⟩)), fun kk => ?_⟩
  · by_cases hij : i = j
    · subst hij
      rw [List.getElem?_set_self hlt] at hj
      cases hj
      simp only [vp_updL, if_true]
      exact hv
    · rw [List.getElem?_set_ne hij] at hj
      simp only [vp_updL, if_neg (fun q : j = i => hij q.symm)]
      exact hf j u2 hj
  · refine va_last hx hb hK hW.2.1 hW.2.2 hS q0 1 he rfl hi hd ?_
    rw [hi2]
    exact kk
end XARR
