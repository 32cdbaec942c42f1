/-! MIRRORED MAKES A CELL THAT WASN'T THERE -/
section XMIR
variable {ms : List xM} {Z : xD} {own nm : String} {cc : ByteArray} {nL : Nat} {rt : Option FieldType} {hh : List (Nat × Nat × Nat × Nat)} {pc : Nat}
set_option maxHeartbeats 1000000 in
/-- a copy of a row of ints as the first thing that a frame makes: its cell is a new one -/
theorem x_clnE {index : Nat} (hlk : Cond.methodLink own index ⟨"[I", "clone", "()Ljava/lang/Object;"⟩ ∈ xTb) (hsm : Cond.sameMethod "[I" "java/lang/Object" "clone" "()Ljava/lang/Object;" ∈ xTb) (hnt : Cond.native ⟨"java/lang/Object", "clone", "()Ljava/lang/Object;"⟩ ∈ xTb) (him : Cond.instanceMethod ⟨"java/lang/Object", "clone", "()Ljava/lang/Object;"⟩ ∈ xTb) (hse : Cond.selects "[I" ⟨"[I", "clone", "()Ljava/lang/Object;"⟩ ⟨"java/lang/Object", "clone", "()Ljava/lang/Object;"⟩ ∈ xTb) (hca : ("[I", "java/lang/Cloneable") ∈ Z.2.2.1) (hd : decode cc pc = .ok (.invokevirtual index, 3))
    {d : Nat} {E : xE} {al0 : List Nat} {r : xT} {p : Program} {l : Launch} {e : Env} {R : Room} {s : State} {m : MethodId} {args : Array Value} {below : List Frame} {meth : Method} {c : Code} {Q : State → Prop} (hC : x_Cx own nm cc nL rt hh d Z E al0 r p l e R s m args below meth c Q)
    {ws : va_W} {als : Array Slot} {b a N : Nat} {f : Nat → Int32} {vst : List Value} (hsz : als.size = nL) (hP0 : va_P E.1 xcl ws s.heap) (hD0 : va_D (x_A E) ws) (h3 : ws[b]? = some (a, .inl (E.2.1 0, N, .inl f))) (hct : (vst.map fun v => v.category).sum ≤ 8) (hc1 : 0 + 1 ≤ R.cells) (hs1 : 0 + N ≤ R.slots)
    (kk : ∀ (q : Nat) (H1 : Heap), s.heap.size ≤ q → va_P E.1 xcl (ws ++ [(q, .inl (E.2.1 0, N, .inl f))]) H1 → va_D (x_A E) (ws ++ [(q, .inl (E.2.1 0, N, .inl f))]) → va_S (x_A E) s.heap H1 [] → W p l e R s m args below meth c H1 [] (0 + 1) (0 + N) Q (F0 m (pc + 3) als (.ref q :: vst))) :
    W p l e R s m args below meth c s.heap [] 0 0 Q (F0 m pc als (.ref a :: vst)) := by
  obtain ⟨hx, hb, hml, ho, hts, hK, hE, hb0, -, -, -, -, -, ⟨hR3, hR4, hR1, hR2⟩, -⟩ := hC
  have hat : va_at E.1 xcl (a, .inl (E.2.1 0, N, .inl f)) s.heap := hP0 b _ h3
  have hP1 : va_P E.1 xcl [(a, .inl (E.2.1 0, N, .inl f))] s.heap := fun k q hk => by
    cases k with
    | zero => cases hk; exact hat
    | succ k => simp at hk
  have hD1 : va_D (fun z : Nat => z = a ∨ s.heap.size ≤ z) [((a, .inl (E.2.1 0, N, .inl f)) : Nat × va_E)] := ⟨fun i j p q hi hj _ => by
    cases i with
    | zero => cases j with
      | zero => rfl
      | succ j => simp at hj
    | succ i => simp at hi, fun k q hk => by
    cases k with
    | zero => cases hk; exact Or.inl rfl
    | succ k => simp at hk⟩
  refine va_clone (A := fun z : Nat => z = a ∨ s.heap.size ≤ z) (H0 := s.heap) hx hb (hml.trans hsz.symm) ho (hts _ hlk) (hts _ hsm) (hts _ hnt) (hts _ him) (hts _ hse) (hE.2.2.2.2.2.1.2.2.1 _ hca) hK hP1 hD1 va_S.rf (fun q h => Or.inr h) 0 0 rfl rfl (x_nmI hK) (fun i v hv => ?_) (by omega) (by omega) hc1 hs1 hd fun q1 H1 hK1 hP hD hS1 => ?_
  · rw [vp_cell_i] at hv
    have hi : i < N := by
      have := (Array.getElem?_eq_some_iff.mp hv).1
      rwa [arrV_size] at this
    rw [arrV_read _ _ hi] at hv
    cases hv
    rfl
  · have hq : s.heap.size ≤ q1 := by
      rcases hD.2 1 (q1, .inl (E.2.1 0, N, .inl f)) rfl with h | h
      · have h1 : q1 = a := h
        have := hD.1 0 1 (a, .inl (E.2.1 0, N, .inl f)) (q1, .inl (E.2.1 0, N, .inl f)) rfl rfl h1.symm
        omega
      · exact h
    have hsame : ∀ z : Nat, z < s.heap.size → H1[z]? = s.heap[z]? := fun z hz => by
      by_cases hza : z = a
      · subst hza
        have e1 : H1[z]? = some (vp_cell (E.2.1 0) (N, .inl f)) := hP 0 (z, .inl (E.2.1 0, N, .inl f)) rfl
        have e2 : s.heap[z]? = some (vp_cell (E.2.1 0) (N, .inl f)) := hat
        rw [e1, e2]
      · exact hS1.2.1 z hz (fun h => by
          rcases h with h | h
          · exact hza h
          · omega)
    have hold : ∀ (k : Nat) (x : Nat × va_E), ws[k]? = some x → x.1 < s.heap.size := fun k x hx => (hP0 k x hx).lt
    have key : ∀ (k : Nat) (x : Nat × va_E), (ws ++ [((q1, .inl (E.2.1 0, N, .inl f)) : Nat × va_E)])[k]? = some x → (ws[k]? = some x ∧ x.1 < q1) ∨ (k = ws.length ∧ x = (q1, .inl (E.2.1 0, N, .inl f))) := fun k x hk => by
      by_cases hl : k < ws.length
      · rw [List.getElem?_append_left hl] at hk
        exact Or.inl ⟨hk, Nat.lt_of_lt_of_le (hold k x hk) hq⟩
      · rw [List.getElem?_append_right (by omega)] at hk
        have hz : k - ws.length < 1 := (List.getElem?_eq_some_iff.mp hk).1
        rw [show k - ws.length = 0 by omega] at hk
        cases hk
        exact Or.inr ⟨by omega, rfl⟩
    refine kk q1 H1 hq ((hP0.kept fun k x hx => hsame x.1 (hold k x hx)).app fun k x hk => ?_) ⟨fun i j x y hi hj hxy => ?_, fun k x hk => ?_⟩ ⟨hS1.1, fun z h1 _ => hsame z h1, fun _ h => nomatch h⟩
    · have hz : k < 1 := (List.getElem?_eq_some_iff.mp hk).1
      rw [show k = 0 by omega] at hk
      cases hk
      exact hP 1 (q1, .inl (E.2.1 0, N, .inl f)) rfl
    · rcases key i x hi with ⟨h1, h2⟩ | ⟨h1, rfl⟩
      · rcases key j y hj with ⟨h4, h5⟩ | ⟨h4, rfl⟩
        · exact hD0.1 i j x y h1 h4 hxy
        · exact absurd hxy (Nat.ne_of_lt h2)
      · rcases key j y hj with ⟨h4, h5⟩ | ⟨h4, -⟩
        · exact absurd hxy.symm (Nat.ne_of_lt h5)
        · omega
    · rcases key k x hk with ⟨h1, -⟩ | ⟨-, rfl⟩
      · exact hD0.2 k x h1
      · exact Nat.le_trans hb0 hq
end XMIR
/-- as x_Qc, and the heap has grown -/
def x_QcG (E : xE) (al0 : List Nat) (r : xT) : Array Value → State → Outcome → State → Prop := fun a st oc t => x_Qc E al0 r a st oc t ∧ st.heap.size < t.heap.size
/-! the small world of the loop: the model, its matrix, the row of the mirror 0, the weight -/
abbrev xmf : List xV := [(2, 0), (2, 71), (2, 2), (1, 1), (8, 0), (8, 0), (8, 0), (8, 0), (8, 0), (0, 0), (8, 0)]
abbrev xwt (y : Nat) : xC := (100, [(2, 2147483648), (2, y)])
abbrev xcs (y : Nat) : List xC := [(9, xmf), (104, [(1, 2), (8, 0)]), (100, [(2, 2), (2, 4294967295)]), xwt y]
abbrev xcs5 (y z : Nat) : List xC := [(9, xmf), (104, [(1, 2), (8, 0)]), (100, [(2, 2), (2, 4294967295)]), xwt y, xwt z]
abbrev xw4 (y : Nat) : xW := (4, [xcs y])
abbrev xw5 (y z : Nat) : xW := (5, [xcs5 y z])
abbrev xr5 (y z : Nat) : xT := (0, (1, 4), xw5 y z, 1, 2)
theorem x_push5 (y z : Nat) : x_Ps (xw4 y) [xwt z] (xw5 y z) := by
  refine ⟨rfl, fun j c hj hc => ?_, fun j c hc hj => ?_⟩
  · have hj' : j < 4 := hj
    match j, hj', hc with
    | 0, _, hc => exact hc
    | 1, _, hc => exact hc
    | 2, _, hc => exact hc
    | 3, _, hc => exact hc
    | j + 4, h, _ => omega
  · have hj' : j < 1 := hj
    obtain rfl : j = 0 := by omega
    have hc' : x_cl (xw5 y z) 4 = some c := hc
    exact hc'
set_option maxHeartbeats 2000000 in
theorem x_mir (L : Nat) (P : xP) {y y' : Nat} (hrun : x_loop k_X13_mirrored (x_run (xpr L P) 11) 1000 4 [(1, 0), (2, 0), (1, 3), (9, 0), (9, 0)] [(1, 4)] (xw5 y y) (0 + 1) (0 + 2) = some (xr5 y y')) (l : Launch) (E : xE) (vs : List Value) (ws : va_W) (hfl : l.stackTraces = false) (hF : x_FOK E (xZ L P).2.2.2.2.2.2) (hV : x_RS E (x_al ws) [(1, 0), (2, 0), (1, 3)] vs) :
    vx_Met l M_X13_mirrored.1 (x_ws M_X13_mirrored) (x_rm 12 (xr5 y y')) (va_Pc vs (x_Pre (xZ L P) E (xw4 y) ws)) (x_QcG E (x_al ws) (xr5 y y')) (x_Xc E (x_al ws) (xr5 y y')) 1 2 (x_A E) := by
  refine vx_ofWF (cc := M_X13_mirrored.2.1) (maxL := M_X13_mirrored.2.2.1) (ret := M_X13_mirrored.2.2.2.1) (by decide +kernel) (ws' := xTb) (by unfold x_ws x_hd; rw [if_pos rfl]) fun p e s m args below meth c s₁ B hml hno hpc => ?_
  obtain ⟨rfl, hb0, hW, hK, hE⟩ := hpc
  have htab : c.exceptionTable.toList = tableOf [] := by
    cases hl : c.exceptionTable.toList with
    | nil => rfl
    | cons x t => exact False.elim (hno x (by rw [hl]; exact List.mem_cons_self))
  have hts0 := atoms_spec (ws := x_ws M_X13_mirrored) B.pre
  have hrt := B.returns
  have hlk : meth.locks = false := B.notSynchronized
  have hCof : ∀ (al0 : List Nat) (r : xT), r.1 = 0 → r.2.2.2.1 ≤ 1 → r.2.2.2.2 ≤ 2 → (∀ (vo : Option Value) (pc : Nat) (als : Array Slot) (H : Heap) (locs : List Loc) (ws' : va_W), x_Wd E r.2.2.1 ws' H → al0 <+: x_al ws' → va_S (x_A E) s.heap H locs → x_Ro E (x_al ws') r vo → x_rti M_X13_mirrored.2.1 pc M_X13_mirrored.2.2.2.1 vo → W p l e (headSpec (x_ws M_X13_mirrored) (x_rm 12 (xr5 y y'))).room s m vs.toArray below meth c H locs r.2.2.2.1 r.2.2.2.2 (vx_MQ below (x_QcG E (x_al ws) (xr5 y y')) (x_Xc E (x_al ws) (xr5 y y')) vs.toArray s 1 2 (x_A E)) (F0 m pc als vo.toList)) →
      x_Cx M_X13_mirrored.1.cls M_X13_mirrored.1.name M_X13_mirrored.2.1 M_X13_mirrored.2.2.1 M_X13_mirrored.2.2.2.1 M_X13_mirrored.2.2.2.2 11 (xZ L P) E al0 r p l e (headSpec (x_ws M_X13_mirrored) (x_rm 12 (xr5 y y'))).room s m vs.toArray below meth c (vx_MQ below (x_QcG E (x_al ws) (xr5 y y')) (x_Xc E (x_al ws) (xr5 y y')) vs.toArray s 1 2 (x_A E)) := fun al0 r h0 h1 h2 hret =>
    ⟨B.exec, B.bytes, hml, findClass_of_methodNamed B.named, fun w hw => hts0 w (List.mem_cons_of_mem _ hw), hK, hE, hb0, hlk, hfl, (name_of_methodNamed B.named B.method).1, htab, hF, ⟨Nat.le_refl _, Nat.le_refl _, h1, h2⟩, hret, fun h => absurd h (by omega)⟩
  have hC0 := hCof [] (0, (10, 0), (0, []), 1, 2) rfl (Nat.le_refl _) (Nat.le_refl _) (fun vo pc als H locs ws' _ _ _ hro _ => by
    rcases hro with ⟨-, V, -, hv⟩ | ⟨h, -⟩
    · exact hv.elim
    · cases h)
  have hl := lv_entry vs (n := M_X13_mirrored.2.2.1) (by rw [x_ini_len hV]; decide)
  have hRL : x_RL E (x_al ws) [(1, 0), (2, 0), (1, 3), (9, 0), (9, 0)] (lv_args 0 vs) := x_pad_RL (z := 2) hV
  rw [lg_entry_eq]
  obtain ⟨V2, hm2, a, ha, rfl⟩ := hRL 2 (1, 3) rfl (by decide)
  refine lv_aload_n (k := 2) (i := 2) (x := a) B.exec B.bytes (by decide +kernel) rfl (hl.2.2 (2, .ref a) hm2) ?_
  obtain ⟨e3, h3, h4⟩ := hW.1.get (i := 3) (c := xwt y) rfl ha
  obtain ⟨f, rfl, hf⟩ := x_RC_i h4 rfl
  refine x_clnE (index := 103) q_1528 q_1529 q_1530 q_1531 q_1532 c_IC (by decide +kernel) hC0 (b := 3) (a := a) (N := 2) (f := f) (vst := []) hl.1 hW.2.1 hW.2.2 h3 (by decide) (Nat.le_refl _) (Nat.le_refl _) fun q H1 hq hP1 hD1 hS1 => ?_
  have hp : x_al ws <+: x_al (ws ++ [(q, (.inl (E.2.1 0, 2, .inl f) : va_E))]) := by rw [x_al_push]; exact List.prefix_append _ _
  have hC1 := hCof (x_al (ws ++ [(q, (.inl (E.2.1 0, 2, .inl f) : va_E))])) (xr5 y y') rfl (Nat.le_refl _) (Nat.le_refl _) (fun vo pc als H locs ws' hW' hal' hS hro hri => by
    have hgrow : s.heap.size < H.size := by
      obtain ⟨g, hg⟩ := hal'
      have h5 : (x_al ws')[ws.length]? = some q := by
        rw [← hg, List.getElem?_append_left (by simp [x_al]), x_al_push, List.getElem?_append_right (by simp [x_al])]
        simp [x_al]
      rw [List.getElem?_map] at h5
      cases h6 : ws'[ws.length]? with
      | none => rw [h6] at h5; cases h5
      | some x =>
        rw [h6] at h5
        have h7 : x.1 = q := Option.some.inj h5
        have h8 := (hW'.2.1 _ x h6).lt
        omega
    have hq9 : ∀ t : State, t.heap = H → s.WarmedH t.vm → x_QcG E (x_al ws) (xr5 y y') vs.toArray s (.returned vo) t := fun t ht hWt => ⟨⟨vo, ws', rfl, hro, by rw [ht]; exact hW', hp.trans hal', hS.F ht⟩, by rw [ht]; exact hgrow⟩
    have hfr : ∀ q ∈ locs, x_A E q.base := fun q hq => hS.2.2 q hq
    refine vx_ret ?_
    rcases hri with ⟨rfl, e1, e2⟩ | ⟨x, ty, rfl, e1, e2, e3⟩ | ⟨x, rfl, e1, e2⟩ | ⟨x, rfl, e1, e2⟩ | ⟨x, rfl, e1, e2⟩ | ⟨v, ty, rfl, e1, e2, e3, e4⟩
    · exact W.vret B.exec B.bytes (hrt.trans e1) hq9 hfr e2 hlk
    · exact W.zret B.exec B.bytes (hrt.trans e1) e2 hq9 hfr e3 hlk
    · exact W.lret B.exec B.bytes (hrt.trans e1) hq9 hfr e2 hlk
    · exact W.fret B.exec B.bytes (hrt.trans e1) hq9 hfr e2 hlk
    · exact W.dret B.exec B.bytes (hrt.trans e1) hq9 hfr e2 hlk
    · exact W.aret B.exec B.bytes (hrt.trans e1) e2 e3 hq9 hfr e4 hlk)
  have hn : xwt y = (100, [(2, 2147483648), (2, y)]) := rfl
  have hW1 : x_Wd E (xw5 y y) (ws ++ [(q, (.inl (E.2.1 0, 2, .inl f) : va_E))]) H1 := ⟨hW.1.push (x_push5 y y) (h4.mono hp), hP1, hD1⟩
  have hlen : ws.length = 4 := hW.1.1.symm
  have g := x_loop_ok (t_X13_mirrored L P).2.2 (x_run_ok (x_prOk L P) 11) hC1 1000 4 _ _ _ _ _ hrun
  exact g.2.2 _ H1 [] _ (lv_args 0 vs) [.ref q] hW1 (List.prefix_refl _) hS1 hl (hRL.mono hp) ⟨⟨q, by rw [x_al_push, List.getElem?_append_right (by simp [x_al, hlen])]; simp [x_al, hlen], rfl⟩, trivial⟩
