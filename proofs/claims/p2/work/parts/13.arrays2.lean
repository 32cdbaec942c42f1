/-! REFERENCES INTO ARRAYS, LENGTHS, NEW ARRAYS, CASTS, COPIES -/
section XARS
variable {ms : List xM} {Z : xD} {own nm : String} {cc : ByteArray} {nL : Nat} {rt : Option FieldType} {hh : List (Nat × Nat × Nat × Nat)} {pc : Nat}
theorem x_up_some {E : xE} {al : List Nat} {l : List xV} {f : Nat → Option Nat} {i : Nat} {v : xV} {a : Nat} (hlt : i < l.length) (hf : ∀ j u, l[j]? = some u → x_rv E al u (va_rf (f j))) (hv : x_rv E al v (.ref a)) : ∀ j u, (l.set i v)[j]? = some u → x_rv E al u (va_rf (va_up f i (some a) j)) := by
  intro j u hj
  by_cases hij : i = j
  · subst hij
    rw [List.getElem?_set_self hlt] at hj
    cases hj
    simp only [va_up, if_true]
    exact hv
  · rw [List.getElem?_set_ne hij] at hj
    simp only [va_up, if_neg (fun q : j = i => hij q.symm)]
    exact hf j u hj
def x_k103 (k : Nat) : Bool := Nat.beq k 103
def x_k104 (k : Nat) : Bool := Nat.beq k 104
def x_k106 (k : Nat) : Bool := Nat.beq k 106
/-- a reference to a cell, written into an array; what the cell is, is looked up in the world -/
noncomputable def xo_asq (ck ce : Nat → Bool) (nx : Nat) : xO := fun _ c ls st w k n => x_pop st fun v t => x_pop t fun iv t => x_pop t fun av t => x_tag 1 v fun b => x_tag 2 iv fun i => x_tag 1 av fun a => x_if (Nat.blt i 2147483648) (x_wn w b fun qu => x_if (ce qu.1) (x_wn w a fun q => x_if (ck q.1) (x_set v q.2 i fun l' => x_wt (q.1, l') w a fun w' => c nx ls t w' k n)))
theorem xs_asqW {ck ce : Nat → Bool} (hck : ∀ k, ck k = true → 103 ≤ k) (row : ∀ (d : Nat) (E : xE) (al0 : List Nat) (r : xT) (p : Program) (l : Launch) (e : Env) (R : Room) (s : State) (m : MethodId) (args : Array Value) (below : List Frame) (meth : Method) (c : Code) (Q : State → Prop), x_Cx own nm cc nL rt hh d Z E al0 r p l e R s m args below meth c Q → ∀ (ws : va_W) (H : Heap) (locs : List Loc) (als : Array Slot) (k n q0 a i qk u kd N : Nat) (eu : va_E) (qu : xC) (rest : List Value) (f : Nat → Option Nat), va_P E.1 xcl ws H → va_D (x_A E) ws → va_S (x_A E) s.heap H locs → 103 ≤ kd → kd < 107 → ws[q0]? = some (a, .inl (E.2.1 (kd - 100), N, .inr (.inr (.inr (.inr f))))) → ck kd = true → vp_in (nI i) N → (nI i).toNatClampNeg = i → ws[qk]? = some (u, eu) → x_RC E (x_al ws) qu eu → ce qu.1 = true →
      (∀ (H1 : Heap) (locs1 : List Loc), va_P E.1 xcl (ws.set q0 (a, .inl (E.2.1 (kd - 100), N, .inr (.inr (.inr (.inr (va_up f i (some u)))))))) H1 → va_D (x_A E) (ws.set q0 (a, .inl (E.2.1 (kd - 100), N, .inr (.inr (.inr (.inr (va_up f i (some u)))))))) → va_S (x_A E) s.heap H1 locs1 → W p l e R s m args below meth c H1 locs1 k n Q (F0 m (pc + 1) als rest)) → W p l e R s m args below meth c H locs k n Q (F0 m pc als (.ref u :: .int (nI i) :: .ref a :: rest))) : x_Ok ms Z own nm cc nL rt hh pc (xo_asq ck ce (pc + 1)) := by
  intro d fn hfn E al0 r p l e R s m args below meth c Q hC cont ih ls st w k n h
  replace h := x_pop_some h
  obtain ⟨v, t, rfl, h⟩ := h
  replace h := x_pop_some h
  obtain ⟨iv, t, rfl, h⟩ := h
  replace h := x_pop_some h
  obtain ⟨av, t, rfl, h⟩ := h
  replace h := x_tag_some h
  obtain ⟨b, rfl, h⟩ := h
  replace h := x_tag_some h
  obtain ⟨i, rfl, h⟩ := h
  replace h := x_tag_some h
  obtain ⟨ai, rfl, h⟩ := h
  obtain ⟨h0, h⟩ := x_if_some h
  obtain ⟨qu, h1, h⟩ := x_wn_some h
  obtain ⟨h2, h⟩ := x_if_some h
  obtain ⟨q, h3, h⟩ := x_wn_some h
  obtain ⟨h4, h⟩ := x_if_some h
  obtain ⟨h5, h⟩ := x_set_some h
  obtain ⟨h6, h⟩ := x_wt_some h
  have g := ih _ _ _ _ _ _ h
  refine ⟨g.1, g.2.1, fun ws H locs als lv vst hW hal hS hl hL hV => ?_⟩
  replace hV := hV.cons
  obtain ⟨V, vst, rfl, hvv, hV⟩ := hV
  replace hV := hV.cons
  obtain ⟨I, vst, rfl, hI, hV⟩ := hV
  replace hV := hV.cons
  obtain ⟨O, vst, rfl, ⟨a, h7, rfl⟩, hV⟩ := hV
  have hv2 := hvv
  obtain ⟨u, h8, rfl⟩ := hvv
  cases hI
  obtain ⟨e1, h9, h10⟩ := hW.1.get h3 h7
  obtain ⟨eu, h11, h12⟩ := hW.1.get h1 h8
  obtain ⟨h13, h14⟩ := x_ix h5 h0
  have hk0 := hck _ h4
  obtain ⟨hk1, f, rfl, hf⟩ := x_RC_q h10 hk0
  refine row d E al0 r p l e R s m args below meth c Q hC ws H locs als k n ai a i b u q.1 q.2.length eu qu vst f hW.2.1 hW.2.2 hS hk0 hk1 h9 h4 h13 h14 h11 h12 h2 fun H1 locs1 hP hD hS1 => ?_
  have ha := x_al_set (e' := .inl (E.2.1 (q.1 - 100), q.2.length, .inr (.inr (.inr (.inr (va_up f i (some u))))))) h9
  exact g.2.2 _ H1 locs1 als lv vst ⟨hW.1.set h9 (Or.inr (Or.inr (Or.inr (Or.inr ⟨hk0, hk1, _, by rw [List.length_set], x_up_some h5 hf hv2⟩)))), hP, hD⟩ (by rw [ha]; exact hal) hS1 hl (by rw [ha]; exact hL) (by rw [ha]; exact hV)
/-- a Register into a row of Registers -/
theorem xs_aastR {ce : Nat} {T : u_T} {N : Nat} (hce : ce < 100) (hc : xcl[ce]? = some ("Weightlattice$Register", T, N)) (hd : decode cc pc = .ok (.aastore, 1)) : x_Ok ms Z own nm cc nL rt hh pc (xo_asq x_k106 (fun k => Nat.beq k ce) (pc + 1)) := xs_asqW (fun k hk => by rw [show k = 106 from Nat.eq_of_beq_eq_true hk]; decide) fun d E al0 r p l e R s m args below meth c Q hC ws H locs als k n q0 a i qk u kd N2 eu qu rest f hP hD hS h0 h1 he hk hi hi2 hu hru hcu kk => by
  obtain ⟨hx, hb, -, ho, hts, hK, -⟩ := hC
  have e1 : kd = 106 := Nat.eq_of_beq_eq_true hk
  subst e1
  have e2 : qu.1 = ce := Nat.eq_of_beq_eq_true hcu
  obtain ⟨vs, rfl, -⟩ := x_RC_obj hru (by rw [e2]; exact hce)
  rw [e2] at hu
  refine va_astq hx hb hK hP hD hS q0 6 qk ce he rfl hu hc hi hd ?_
  rw [hi2]
  exact kk
theorem x_nmI {E : xE} {s : State} (hK : va_K E.1 xcl (x_tys E.2.1) s) : s.vm.findClass "[I" = some (E.2.1 0) := (hK.2 0 _ rfl).2
/-- a row of ints into a row of rows -/
theorem xs_aastI (hd : decode cc pc = .ok (.aastore, 1)) : x_Ok ms Z own nm cc nL rt hh pc (xo_asq x_k104 x_k100 (pc + 1)) := xs_asqW (fun k hk => by rw [show k = 104 from Nat.eq_of_beq_eq_true hk]; decide) fun d E al0 r p l e R s m args below meth c Q hC ws H locs als k n q0 a i qk u kd N2 eu qu rest f hP hD hS h0 h1 he hk hi hi2 hu hru hcu kk => by
  obtain ⟨hx, hb, -, ho, hts, hK, hE, -⟩ := hC
  have e1 : kd = 104 := Nat.eq_of_beq_eq_true hk
  subst e1
  obtain ⟨g, rfl, -⟩ := x_RC_i hru (Nat.eq_of_beq_eq_true hcu)
  have hlt : (nI i).toNatClampNeg < N2 := Nat.not_le.mp fun q => hi (Or.inr q)
  have h0 : ¬ nI i < 0 := fun q => hi (Or.inl q)
  obtain ⟨comp, c2, k2, k3, -, k5, k6, k7⟩ := arrayOverA_spec hE.2.2.2.2.1.2.2.1
  have hcA : c2 = E.2.1 4 := Option.some.inj (k7.symm.trans (hK.2 4 _ rfl).2)
  subst hcA
  have hcI : comp = E.2.1 0 := Option.some.inj (k3.symm.trans (x_nmI hK))
  subst hcI
  obtain ⟨kI, hkI, -⟩ := Vm.findClass_spec (x_nmI hK)
  refine W.aast hx hb (hP q0 _ he) (fun q h => by cases h) (fun h => by cases h) k5 k6 rfl hkI ⟨h0, by show _ < (arrV _ _ _).slots.size; rw [arrV_size]; exact hlt⟩ (hP qk _ hu) (fun q h => by cases h) hkI (va_asg _ _) rfl rfl hd fun H1 e z oq => ?_
  refine kk H1 _ (hP.set hD he ?_ oq) (hD.set he) (hS.put z oq (hD.2 q0 _ he))
  show H1[a]? = some (vp_cell _ _)
  rw [e]
  rw [vp_cell_q, vp_cell_q, arrV_store]
  congr 2
  funext q
  by_cases hq : q = i
  · subst hq
    simp [updV, va_up, va_rf, hi2]
  · simp [updV, va_up, hi2, hq]
theorem x_anyI {E : xE} {s : State} {H : Heap} {ws : va_W} {qk u : Nat} {x : vp_A} (hK : va_K E.1 xcl (x_tys E.2.1) s) (hP : va_P E.1 xcl ws H) (hu : ws[qk]? = some (u, .inl (E.2.1 0, x))) (hca : va_Nw (.castable "[I" "java/lang/Object") s) : va_Any "java/lang/Object" s H u := by
  obtain ⟨kI, hkI, -⟩ := Vm.findClass_spec (x_nmI hK)
  obtain ⟨c3, c4, hc3, hc4, hasg⟩ := Cond.castable_spec hca
  have e3 : c3 = E.2.1 0 := Option.some.inj (hc3.symm.trans (x_nmI hK))
  subst e3
  have hcell : H[u]? = some (vp_cell (E.2.1 0) x) := hP qk _ hu
  have hcv : (vp_cell (E.2.1 0) x).cls = E.2.1 0 ∧ (vp_cell (E.2.1 0) x).vm = .none := by
    obtain ⟨n, f | f | f | f | f⟩ := x <;> exact ⟨rfl, rfl⟩
  refine ⟨_, hcell, by rw [hcv.2]; rfl, ⟨kI, by rw [hcv.1]; exact hkI⟩, fun comp hcomp => ?_⟩
  have e4 : comp = c4 := Option.some.inj (hcomp.symm.trans hc4)
  subst e4
  rw [hcv.1]
  exact hasg
/-- a row of ints into a row of objects -/
theorem xs_aastO (hca : ("[I", "java/lang/Object") ∈ Z.2.2.1) (hd : decode cc pc = .ok (.aastore, 1)) : x_Ok ms Z own nm cc nL rt hh pc (xo_asq x_k103 x_k100 (pc + 1)) := xs_asqW (fun k hk => by rw [show k = 103 from Nat.eq_of_beq_eq_true hk]; decide) fun d E al0 r p l e R s m args below meth c Q hC ws H locs als k n q0 a i qk u kd N2 eu qu rest f hP hD hS h0 h1 he hk hi hi2 hu hru hcu kk => by
  obtain ⟨hx, hb, -, ho, hts, hK, hE, -⟩ := hC
  have e1 : kd = 103 := Nat.eq_of_beq_eq_true hk
  subst e1
  obtain ⟨g, rfl, -⟩ := x_RC_i hru (Nat.eq_of_beq_eq_true hcu)
  refine va_astqM hx hb hK hP hD hS q0 3 he rfl (x_anyI hK hP hu (hE.2.2.2.2.2.1.2.2.1 _ hca)) hi hd ?_
  rw [hi2]
  exact kk
/-- lengths -/
noncomputable def xo_alen (L nx : Nat) : xO := fun _ c ls st w k n => x_pop st fun v t => x_br (Nat.beq v.1 1) (x_wn w v.2 fun q => x_if (Nat.ble 100 q.1) (x_fn q.2.length fun z => c nx ls ((2, z) :: t) w k n)) (x_tag 5 v fun j => x_br (Nat.beq j 0) (c nx ls ((2, L) :: t) w k n) (x_if (Nat.beq j 1) (c nx ls ((2, 0) :: t) w k n)))
theorem xs_alen (hd : decode cc pc = .ok (.arraylength, 1)) : x_Ok ms Z own nm cc nL rt hh pc (xo_alen Z.2.2.2.2.2.1 (pc + 1)) := by
  intro d fn hfn E al0 r p l e R s m args below meth c Q hC cont ih ls st w k n h
  replace h := x_pop_some h
  obtain ⟨v, t, rfl, h⟩ := h
  obtain ⟨hx, hb, -, ho, hts, hK, hE, hb0, -⟩ := hC
  cases hv : Nat.beq v.1 1 with
  | true =>
    rw [hv] at h
    obtain ⟨q, h1, h⟩ := x_wn_some h
    obtain ⟨h2, h⟩ := x_if_some h
    rw [x_fn_eq] at h
    have g := ih _ _ _ _ _ _ h
    refine ⟨g.1, g.2.1, fun ws H locs als lv vst hW hal hS hl hL hV => ?_⟩
    replace hV := hV.cons
    obtain ⟨V, vst, rfl, hvv, hV⟩ := hV
    obtain ⟨tv, j⟩ := v
    have e : tv = 1 := Nat.eq_of_beq_eq_true hv
    subst e
    obtain ⟨a, h3, rfl⟩ := hvv
    obtain ⟨e1, h4, h5⟩ := hW.1.get h1 h3
    have h6 : 100 ≤ q.1 := Nat.le_of_ble_eq_true h2
    have kk := g.2.2 ws H locs als lv (.int (nI q.2.length) :: vst) hW hal hS hl hL ⟨rfl, hV⟩
    rcases h5 with ⟨h7, -⟩ | ⟨-, f, rfl, -⟩ | ⟨-, f, rfl, -⟩ | ⟨-, f, rfl, -⟩ | ⟨h7, h8, f, rfl, -⟩
    · omega
    · exact va_alen hx hb hK hW.2.1 j 0 h4 rfl rfl hd kk
    · exact va_alen hx hb hK hW.2.1 j 1 h4 rfl rfl hd kk
    · exact va_alen hx hb hK hW.2.1 j 2 h4 rfl rfl hd kk
    · obtain ⟨ty, ht, -⟩ := x_tyq (dA := E.2.1) h7 h8
      exact va_alen hx hb hK hW.2.1 j _ h4 ht rfl hd kk
  | false =>
    rw [hv] at h
    replace h := x_tag_some (show x_tag 5 v (fun j => x_br (Nat.beq j 0) (cont (pc + 1) ls ((2, Z.2.2.2.2.2.1) :: t) w k n) (x_if (Nat.beq j 1) (cont (pc + 1) ls ((2, 0) :: t) w k n))) = some r from h)
    obtain ⟨j, rfl, h⟩ := h
    cases hj : Nat.beq j 0 with
    | true =>
      rw [hj] at h
      have g := ih _ _ _ _ _ _ h
      refine ⟨g.1, g.2.1, fun ws H locs als lv vst hW hal hS hl hL hV => ?_⟩
      replace hV := hV.cons
      obtain ⟨V, vst, rfl, hvv, hV⟩ := hV
      have e : j = 0 := Nat.eq_of_beq_eq_true hj
      subst e
      have e2 : V = .ref (x_xi E 0) := hvv
      subst e2
      obtain ⟨g1, g2, g3⟩ := hE.2.2.2.2.2.2
      exact va_slen hx hb g1 g3 g2 hS hd (g.2.2 ws H locs als lv (.int (nI Z.2.2.2.2.2.1) :: vst) hW hal hS hl hL ⟨rfl, hV⟩)
    | false =>
      rw [hj] at h
      obtain ⟨h0, h⟩ := x_if_some h
      have g := ih _ _ _ _ _ _ h
      refine ⟨g.1, g.2.1, fun ws H locs als lv vst hW hal hS hl hL hV => ?_⟩
      replace hV := hV.cons
      obtain ⟨V, vst, rfl, hvv, hV⟩ := hV
      have e : j = 1 := Nat.eq_of_beq_eq_true h0
      subst e
      have e2 : V = .ref (x_xi E 1) := hvv
      subst e2
      exact va_tlen hx hb hE.2.1.2 hS (v := nI 0) rfl hd (g.2.2 ws H locs als lv (.int (nI 0) :: vst) hW hal hS hl hL ⟨rfl, hV⟩)
/-- a named number that is known -/
noncomputable def x_id {β : Type} (P : xP) (x : xV) (kk : xV → Option β) : Option β := List.rec (motive := fun _ => Option β) (kk x) (fun q _ ih => match q with
  | ((o2, x2, _), v) => match Nat.beq o2 8 && (Nat.beq x.1 x2.1 && Nat.beq x.2 x2.2) with
    | true => kk v
    | false => ih) P
theorem x_id_some {β : Type} {P : xP} {x : xV} {kk : xV → Option β} {r : β} (h : x_id P x kk = some r) : ∃ v, kk v = some r ∧ (v = x ∨ ∃ y, ((8, x, y), v) ∈ P) := by
  induction P with
  | nil => exact ⟨x, h, Or.inl rfl⟩
  | cons q t ih =>
    obtain ⟨⟨o2, x2, y2⟩, v⟩ := q
    have h' : (match Nat.beq o2 8 && (Nat.beq x.1 x2.1 && Nat.beq x.2 x2.2) with
      | true => kk v
      | false => x_id t x kk) = some r := h
    cases hb : Nat.beq o2 8 && (Nat.beq x.1 x2.1 && Nat.beq x.2 x2.2) with
    | false =>
      rw [hb] at h'
      obtain ⟨v2, h1, h2⟩ := ih h'
      refine ⟨v2, h1, h2.imp id fun ⟨y, hy⟩ => ⟨y, List.mem_cons_of_mem _ hy⟩⟩
    | true =>
      rw [hb] at h'
      simp only [Bool.and_eq_true] at hb
      have e1 := Nat.eq_of_beq_eq_true hb.1
      have e2 : x = x2 := Prod.ext (Nat.eq_of_beq_eq_true hb.2.1) (Nat.eq_of_beq_eq_true hb.2.2)
      subst e1; subst e2
      exact ⟨v, h', Or.inr ⟨y2, List.mem_cons_self⟩⟩
/-- an int of the script -/
noncomputable def xo_sld (P : xP) (L nx : Nat) : xO := fun _ c ls st w k n => x_pop st fun iv t => x_pop t fun av t => x_tag 2 iv fun i => x_tag 5 av fun j => x_if (Nat.beq j 0 && (Nat.blt i 2147483648 && Nat.blt i L)) (x_id P (4, i) fun v => c nx ls (v :: t) w k n)
theorem xs_sld {P : xP} (hsub : ∀ q ∈ P, q ∈ Z.2.2.2.2.2.2) (hd : decode cc pc = .ok (.iaload, 1)) : x_Ok ms Z own nm cc nL rt hh pc (xo_sld P Z.2.2.2.2.2.1 (pc + 1)) := by
  intro d fn hfn E al0 r p l e R s m args below meth c Q hC cont ih ls st w k n h
  replace h := x_pop_some h
  obtain ⟨iv, t, rfl, h⟩ := h
  replace h := x_pop_some h
  obtain ⟨av, t, rfl, h⟩ := h
  replace h := x_tag_some h
  obtain ⟨i, rfl, h⟩ := h
  replace h := x_tag_some h
  obtain ⟨j, rfl, h⟩ := h
  obtain ⟨h0, h⟩ := x_if_some h
  obtain ⟨v, h, hv⟩ := x_id_some h
  simp only [Bool.and_eq_true] at h0
  obtain ⟨hj, hi1, hi2⟩ := h0
  obtain ⟨hx, hb, -, ho, hts, hK, hE, hb0, -, -, -, -, hF, -⟩ := hC
  have g := ih _ _ _ _ _ _ h
  refine ⟨g.1, g.2.1, fun ws H locs als lv vst hW hal hS hl hL hV => ?_⟩
  replace hV := hV.cons
  obtain ⟨I, vst, rfl, hI, hV⟩ := hV
  replace hV := hV.cons
  obtain ⟨O, vst, rfl, hO, hV⟩ := hV
  have e : j = 0 := Nat.eq_of_beq_eq_true hj
  subst e
  have e1 : I = .int (nI i) := hI
  subst e1
  have e2 : O = .ref (x_xi E 0) := hO
  subst e2
  obtain ⟨g1, g2, g3⟩ := hE.2.2.2.2.2.2
  obtain ⟨h7, h8⟩ := x_ix (Nat.le_of_ble_eq_true hi2 : i < Z.2.2.2.2.2.1) hi1
  have key : x_rv E (x_al ws) v (.int (E.2.2.2.1 i)) := by
    rcases hv with rfl | ⟨y, hy⟩
    · exact rfl
    · obtain ⟨p1, p2, p3, p4⟩ := hF _ (hsub _ hy)
      have p5 : E.2.2.2.1 i = x_ri E.2.2.2.1 v := p4
      rw [p5]
      exact x_rv_ri p3
  refine va_sld hx hb g1 g3 g2 hS h7 hd ?_
  rw [h8]
  exact g.2.2 ws H locs als lv (.int (E.2.2.2.1 i) :: vst) hW hal hS hl hL ⟨key, hV⟩
end XARS
