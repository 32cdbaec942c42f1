/-! THE LOOP OF RAISE THAT NEVER ENDS -/
section XSPIN
theorem x_pv_ne9 {idx : List Nat} {u v : xV} (h : x_pv idx u v = true) (hu : u.1 ≠ 9) : v.1 ≠ 9 := by
  intro h9
  unfold x_pv at h
  rw [h9] at h
  cases h8 : Nat.beq u.1 8 with
  | true =>
    rw [h8] at h
    have h' : (Nat.beq 9 1 || Nat.beq 9 8) = true := h
    exact absurd h' (by decide)
  | false =>
    rw [h8] at h
    cases h1 : Nat.beq u.1 1 with
    | true =>
      rw [h1] at h
      have h' : (Nat.beq 9 1 && x_at idx (fun i => Nat.beq i v.2) u.2) = true := h
      rw [show Nat.beq 9 1 = false from rfl, Bool.false_and] at h'
      cases h'
    | false =>
      rw [h1] at h
      have h' : (Nat.beq u.1 9 && Nat.beq u.2 v.2) = true := h
      simp only [Bool.and_eq_true] at h'
      exact hu (Nat.eq_of_beq_eq_true h'.1)
/-- locals; 9: nothing is said of it -/
noncomputable def x_pr (idx : List Nat) : List xV → List xV → Bool
  | [], [] => true
  | u :: us, v :: vs => (Nat.beq u.1 9 || x_pv idx u v) && x_pr idx us vs
  | _, _ => false
theorem x_pr_at {idx : List Nat} : ∀ {us vs : List xV}, x_pr idx us vs = true → ∀ {j : Nat} {u : xV}, us[j]? = some u → u.1 ≠ 9 → ∃ v, vs[j]? = some v ∧ x_pv idx u v = true
  | [], [], _, j, u, hj, _ => by simp at hj
  | a :: us, b :: vs, h, 0, u, hj, h9 => by
    simp only [x_pr, Bool.and_eq_true, Bool.or_eq_true] at h
    cases hj
    rcases h.1 with h1 | h1
    · exact absurd (Nat.eq_of_beq_eq_true h1) h9
    · exact ⟨b, rfl, h1⟩
  | a :: us, b :: vs, h, j + 1, u, hj, h9 => by
    simp only [x_pr, Bool.and_eq_true] at h
    exact x_pr_at h.2 (j := j) hj h9
  | [], _ :: _, h, _, _, _, _ => by simp [x_pr] at h
  | _ :: _, [], h, _, _, _, _ => by simp [x_pr] at h
theorem x_pr_RL {E : xE} {al al0 : List Nat} {idx : List Nat} (hal : ∀ (k i : Nat), idx[k]? = some i → al0[k]? = al[i]?) {us vs : List xV} {lv : List (Nat × Value)} (h : x_pr idx us vs = true) (hL : x_RL E al vs lv) : x_RL E al0 us lv := fun i u hi h9 => by
  obtain ⟨v, h1, h2⟩ := x_pr_at h hi h9
  obtain ⟨V, h3, h4⟩ := hL i v h1 (x_pv_ne9 h2 h9)
  exact ⟨V, h3, x_pv_rv hal h2 h4⟩
variable {Z : xD} {own nm : String} {cc : ByteArray} {nL : Nat} {rt : Option FieldType} {hh : List (Nat × Nat × Nat × Nat)} {pc : Nat}
/-- as x_rowV, for any promise of the callee's -/
theorem x_rowVG {na index ci : Nat} {q : vw_C} {M : xM} (hM : x_Mok M) (hci : ci < 100) (hc : xcl[ci]? = some q) (hq : M.1.cls = q.1) (hlk : Cond.methodLink own index M.1 ∈ xTb) (him : Cond.instanceMethod M.1 ∈ xTb) (hse : Cond.selects q.1 M.1 M.1 ∈ xTb) (hn : (parseMethodDescriptor M.1.desc).map (fun d => d.parameters.length) = some na) (hd : decode cc pc = .ok (.invokevirtual index, 3))
    {d : Nat} {E : xE} {al0 : List Nat} {r : xT} {p : Program} {l : Launch} {e : Env} {R : Room} {s : State} {m : MethodId} {args : Array Value} {below : List Frame} {meth : Method} {c : Code} {Q : State → Prop} (hC : x_Cx own nm cc nL rt hh d Z E al0 r p l e R s m args below meth c Q)
    {w : xW} {ws : va_W} {H : Heap} {locs : List Loc} {als : Array Slot} {k n : Nat} {av : List xV} {vs rest : List Value} {r2 : xT} (hsz : als.size = nL) (hW : x_Wd E w ws H) (hS : va_S (x_A E) s.heap H locs) (hna : av.length = na + 1) (hV : x_RS E (x_al ws) av vs) (hck : x_ckO ci w av = true) (hcat : (rest.map fun v => v.category).sum ≤ 8) (hk1 : k + r2.2.2.2.1 ≤ R.cells) (hk2 : n + r2.2.2.2.2 ≤ R.slots)
    {Qc : Array Value → State → Outcome → State → Prop} {XC : String → State → State → Prop} (hMet : vx_Met l M.1 (x_ws M) (x_rm d r2) (va_Pc vs (x_Pre Z E w ws)) Qc XC r2.2.2.2.1 r2.2.2.2.2 (x_A E)) :
    x_Rn 3 p l e R s m args below meth c H locs k n r2.2.2.2.1 r2.2.2.2.2 (F0 m pc als (vs.reverse ++ rest)) rest (fun st oc t => Qc vs.toArray st oc t) XC (x_A E) := by
  obtain ⟨hx, hb, hml, ho, hts, hK, hE, hb0, -, -, -, -, -, ⟨hR3, hR4, hR1, hR2⟩, -⟩ := hC
  obtain ⟨b, As, rfl, hlen, hrecv⟩ := x_recv hci hc hK hW hV hck
  have hG : GoodIn xTb (wsV own index q.1 M.1 (x_ws M)) := x_goodApp (fun w hw => by
    simp only [List.mem_cons, List.not_mem_nil, or_false] at hw
    rcases hw with rfl | rfl | rfl | rfl
    · exact hlk
    · exact him
    · exact hse
    · rw [← hq]
      exact hM.2.2.1) hM.goodIn
  have hml40 := hM.2.2.2.2
  exact vx_runV (C := q.1) (b := b) (As := As) (rest := rest) ⟨hx, hb, hml, ho, hts⟩ hMet (cwV (R := R) (rm := x_rm d r2) na hts hG hM.hd rfl rfl ⟨hq, hM.2.2.2.1.1, hM.2.2.2.1.2, hn⟩ ⟨by show d + 8 + 1 ≤ R.frames; omega, by show 8 + (M.2.2.1 + 11) + (70 * d + 200) ≤ R.locals; omega⟩) ⟨x_Pre_blind, hrecv, fun U hU hW1 => ⟨rfl, x_Pre_of hW hK hE hb0 hS U hU hW1⟩⟩ rfl (by omega) hsz (by simp) (lv_room hcat) hd ⟨hk1, hk2⟩
theorem x_afterG {p : Program} {l : Launch} {e : Env} {R : Room} {s : State} {m : MethodId} {args : Array Value} {below : List Frame} {meth : Method} {c : Code} {H : Heap} {locs : List Loc} {cells slots : Nat} {Q : State → Prop} {dp pc mc ms : Nat} {E : xE} {al : List Nat} {r2 : xT} {als : Array Slot} {st0 rest : List Value} {a9 : Array Value} (h2 : ¬ 2 ≤ r2.1) (hr : x_Rn dp p l e R s m args below meth c H locs cells slots mc ms (F0 m pc als st0) rest (fun st oc t => x_QcG E al r2 a9 st oc t) (x_Xc E al r2) (x_A E)) (hS : va_S (x_A E) s.heap H locs)
    (kk : ∀ (vo : Option Value) (ws' : va_W) (H1 : Heap) (locs1 : List Loc), H.size < H1.size → x_Ro E (x_al ws') r2 vo → x_Wd E r2.2.2.1 ws' H1 → al <+: x_al ws' → va_S (x_A E) s.heap H1 locs1 → W p l e R s m args below meth c H1 locs1 (cells + mc) (slots + ms) Q (F0 m (pc + dp) als (vo.toList ++ rest))) :
    W p l e R s m args below meth c H locs cells slots Q (F0 m pc als st0) := by
  intro T hT X
  rcases hr T hT X with ⟨v, st₀, t, T', L, h0, X', hL, e1, e2, ⟨⟨vo, ws', hv, hp, hw, ha, hF⟩, hG⟩, st⟩ | ⟨q, st₀, t, T', L, Ec, ce, h0, X', hL, e1, e2, ⟨ws', h3, -⟩, -⟩
  · cases hv
    obtain ⟨k1, k2, k3⟩ := vx_keep (A0 := x_A E) (A1 := x_A E) (free := x_A E) h0 e1 hS (fun _ _ h => h) (fun _ h => h) hL hF
    obtain ⟨t2, a1, b1⟩ := kk v ws' T'.heap (locs ++ L) (by rw [e1, ← h0]; exact hG) hp (by rw [e1]; exact hw) ha k3 T' rfl X'
    exact ⟨t2, st t2 a1, b1⟩
  · exact absurd h3 h2
theorem x_afterL {p : Program} {l : Launch} {e : Env} {R : Room} {s : State} {m : MethodId} {args : Array Value} {below : List Frame} {meth : Method} {c : Code} {H : Heap} {locs : List Loc} {cells slots : Nat} {Q : State → Prop} {dp pc mc ms : Nat} {E : xE} {al : List Nat} {r2 : xT} {als : Array Slot} {st0 rest : List Value} {a9 : Array Value} (h2 : ¬ 2 ≤ r2.1) (hr : x_Rn dp p l e R s m args below meth c H locs cells slots mc ms (F0 m pc als st0) rest (fun st oc t => x_Qc E al r2 a9 st oc t) (x_Xc E al r2) (x_A E)) (hS : va_S (x_A E) s.heap H locs)
    (kk : ∀ (vo : Option Value) (ws' : va_W) (H1 : Heap) (locs1 : List Loc), H.size ≤ H1.size → x_Ro E (x_al ws') r2 vo → x_Wd E r2.2.2.1 ws' H1 → al <+: x_al ws' → va_S (x_A E) s.heap H1 locs1 → W p l e R s m args below meth c H1 locs1 (cells + mc) (slots + ms) Q (F0 m (pc + dp) als (vo.toList ++ rest))) :
    W p l e R s m args below meth c H locs cells slots Q (F0 m pc als st0) := by
  intro T hT X
  rcases hr T hT X with ⟨v, st₀, t, T', L, h0, X', hL, e1, e2, ⟨vo, ws', hv, hp, hw, ha, hF⟩, st⟩ | ⟨q, st₀, t, T', L, Ec, ce, h0, X', hL, e1, e2, ⟨ws', h3, -⟩, -⟩
  · cases hv
    obtain ⟨k1, k2, k3⟩ := vx_keep (A0 := x_A E) (A1 := x_A E) (free := x_A E) h0 e1 hS (fun _ _ h => h) (fun _ h => h) hL hF
    obtain ⟨t2, a1, b1⟩ := kk v ws' T'.heap (locs ++ L) (by rw [e1, ← h0]; exact hF.1) hp (by rw [e1]; exact hw) ha k3 T' rfl X'
    exact ⟨t2, st t2 a1, b1⟩
  · exact absurd h3 h2
theorem x_pfx {a b : List Nat} (h : a <+: b) {i x : Nat} (hi : a[i]? = some x) : b[i]? = some x := by
  obtain ⟨g, rfl⟩ := h
  rw [List.getElem?_append_left (List.getElem?_eq_some_iff.mp hi).1]
  exact hi
abbrev xls (b : Nat) : List xV := [(1, 0), (9, 0), (9, 0), (1, b), (2, 0)]
abbrev xy1 : Nat := 1073741824
abbrev xy2 : Nat := 3221225472
abbrev x_dR : Room := { frames := 1000, cells := 603400, slots := 7000000, locals := 50000 }
/-- what no return can give -/
abbrev x_rR : xT := (0, (10, 0), (0, []), 603400, 7000000)
/-- raise's frame, of which nothing is asked but where it comes to -/
abbrev x_CxR (L : Nat) (P : xP) (E : xE) (p : Program) (l : Launch) (e : Env) (s : State) (m : MethodId) (args : Array Value) (below : List Frame) (meth : Method) (c : Code) (Q : State → Prop) : Prop := x_Cx M_X13_raise.1.cls M_X13_raise.1.name M_X13_raise.2.1 M_X13_raise.2.2.1 M_X13_raise.2.2.2.1 M_X13_raise.2.2.2.2 12 (xZ L P) E [] x_rR p l e x_dR s m args below meth c Q
abbrev xlo (y z : Nat) : xT := (0, (2, 0), xw5 y z, 0, 0)
abbrev xlv (a0 a3 : Nat) : List (Nat × Value) := [(0, .ref a0), (3, .ref a3), (4, .int (nI 0))]
set_option maxHeartbeats 4000000 in
theorem x_iter {L : Nat} {P : xP} {E : xE} {p : Program} {l : Launch} {e : Env} {s : State} {m : MethodId} {args : Array Value} {below : List Frame} {meth : Method} {c : Code} {Q : State → Prop} (hC : x_CxR L P E p l e s m args below meth c Q) {y y' : Nat}
    (hm : x_loop k_X13_mirrored (x_run (xpr L P) 11) 1000 4 [(1, 0), (2, 0), (1, 3), (9, 0), (9, 0)] [(1, 4)] (xw5 y y) (0 + 1) (0 + 2) = some (xr5 y y')) (hlw : x_run (xpr L P) 12 38 [(1, 0), (1, 4), (2, 4294967295)] (xw5 y y') = some (xlo y y')) (hsm : x_sm [0, 1, 2, 4] (xw5 y y') [0, 1, 2, 4] (xcs y') = true)
    (hck : x_ckO 9 (xw4 y) [(1, 0), (2, 0), (1, 3)] = true) (hck2 : x_ckO 9 (xw5 y y') [(1, 0), (1, 4), (2, 4294967295)] = true)
    {ws : va_W} {H : Heap} {locs : List Loc} {als : Array Slot} {a0 a3 : Nat} {k n : Nat} (hk : k + 1 ≤ 603400) (hn : n + 2 ≤ 7000000) (hW : x_Wd E (xw4 y) ws H) (hS : va_S (x_A E) s.heap H locs) (hl : lv_has als 5 (xlv a0 a3)) (h0 : (x_al ws)[0]? = some a0) (h3 : (x_al ws)[3]? = some a3)
    (kk : ∀ (ws : va_W) (H1 : Heap) (locs : List Loc) (als : Array Slot) (a3 : Nat), H.size < H1.size → x_Wd E (xw4 y') ws H1 → va_S (x_A E) s.heap H1 locs → lv_has als 5 (xlv a0 a3) → (x_al ws)[0]? = some a0 → (x_al ws)[3]? = some a3 → W p l e x_dR s m args below meth c H1 locs (k + 1) (n + 2) Q (F0 m 42 als [])) :
    W p l e x_dR s m args below meth c H locs k n Q (F0 m 42 als []) := by
  have hC' := hC
  obtain ⟨hx, hb, hml, ho, hts, hK, hE, hb0, hlk, hfl, -, htb, hF, -⟩ := hC'
  refine lv_iload hx hb (i := 4) (by decide +kernel) (lv_at hl 2 rfl) ?_
  refine lv_if_lt hx hb (off := 22) (tgt := 66) (by decide +kernel) (by decide) (fun h => absurd h (by decide)) fun _ => ?_
  refine lv_aload_n (k := 0) (i := 0) hx hb (by decide +kernel) rfl (lv_at hl 0 rfl) ?_
  refine lv_iload hx hb (i := 4) (by decide +kernel) (lv_at hl 2 rfl) ?_
  refine lv_aload_n (k := 3) (i := 3) hx hb (by decide +kernel) rfl (lv_at hl 1 rfl) ?_
  have hV : x_RS E (x_al ws) [(1, 0), (2, 0), (1, 3)] [.ref a0, .int (nI 0), .ref a3] := ⟨⟨a0, h0, rfl⟩, rfl, ⟨a3, h3, rfl⟩, trivial⟩
  have hrow := x_rowVG (na := 2) (index := 159) (ci := 9) mo_X13_mirrored (by decide) rfl rfl q_2273 q_2275 q_73 (by decide +kernel) (by decide +kernel) hC (als := als) (k := k) (n := n) (r2 := xr5 y y') (rest := []) (pc := 51) hl.1 hW hS rfl hV hck (by decide) hk hn (x_mir L P hm l E _ ws hfl hF hV)
  refine x_afterG (show ¬ (2 : Nat) ≤ 0 from by decide) hrow hS fun vo ws1 H1 locs1 hgrow hro hW1 hal1 hS1 => ?_
  rcases hro with ⟨-, V, rfl, a4, h4, rfl⟩ | ⟨h9, -⟩
  · have h01 := x_pfx hal1 h0
    refine lv_astore_n (k := 3) (i := 3) hx hb (by decide +kernel) rfl hl (by decide) rfl fun als1 hl1 => ?_
    have hl2 : lv_has als1 5 (xlv a0 a4) := lv_sub hl1 [1, 0, 2] rfl
    refine lv_aload_n (k := 0) (i := 0) hx hb (by decide +kernel) rfl (lv_at hl2 0 rfl) ?_
    refine lv_aload_n (k := 3) (i := 3) hx hb (by decide +kernel) rfl (lv_at hl2 1 rfl) ?_
    refine lv_iconst hx hb (n := -1) (v := nI 4294967295) (by decide +kernel) (by decide) ?_
    have hV2 : x_RS E (x_al ws1) [(1, 0), (1, 4), (2, 4294967295)] [.ref a0, .ref a4, .int (nI 4294967295)] := ⟨⟨a0, h01, rfl⟩, ⟨a4, h4, rfl⟩, rfl, trivial⟩
    have hctr := x_run_ok (x_prOk L P) 12 38 M_X13_lowest _ _ _ u_X13_lowest hlw l E _ ws1 hfl hF hV2
    have hrow2 := x_rowVG (na := 2) (index := 212) (ci := 9) mo_X13_lowest (by decide) rfl rfl q_2361 q_2363 q_81 (by decide +kernel) (by decide +kernel) hC (als := als1) (k := k + 1) (n := n + 2) (r2 := xlo y y') (rest := []) (pc := 58) hl2.1 hW1 hS1 rfl hV2 hck2 (by decide) hk hn hctr
    refine x_afterL (show ¬ (2 : Nat) ≤ 0 from by decide) hrow2 hS1 fun vo ws2 H2 locs2 hle hro2 hW2 hal2 hS2 => ?_
    rcases hro2 with ⟨-, V2, rfl, hV3⟩ | ⟨h9, -⟩
    · cases hV3
      refine lv_istore hx hb (i := 4) (by decide +kernel) hl2 (by decide) rfl fun als2 hl3 => ?_
      have hl4 : lv_has als2 5 (xlv a0 a4) := lv_sub hl3 [1, 2, 0] rfl
      refine lv_goto hx hb (off := -21) (tgt := 42) (by decide +kernel) (by decide) ?_
      obtain ⟨ws0, hW0, hal0⟩ := x_shrink hW2 (by decide) hsm
      exact kk ws0 H2 locs2 als2 a4 (Nat.lt_of_lt_of_le hgrow hle) hW0 hS2 hl4 ((hal0 0 0 rfl).trans (x_pfx hal2 h01)) ((hal0 3 4 rfl).trans (x_pfx hal2 h4))
    · cases h9
  · cases h9
theorem x_spin {L : Nat} {P : xP} {E : xE} {p : Program} {l : Launch} {e : Env} {s : State} {m : MethodId} {args : Array Value} {below : List Frame} {meth : Method} {c : Code} {K : Nat} (hC : x_CxR L P E p l e s m args below meth c (fun t => K ≤ t.heap.size))
    (hm1 : x_loop k_X13_mirrored (x_run (xpr L P) 11) 1000 4 [(1, 0), (2, 0), (1, 3), (9, 0), (9, 0)] [(1, 4)] (xw5 xy1 xy1) (0 + 1) (0 + 2) = some (xr5 xy1 xy2)) (hl1 : x_run (xpr L P) 12 38 [(1, 0), (1, 4), (2, 4294967295)] (xw5 xy1 xy2) = some (xlo xy1 xy2))
    (hm2 : x_loop k_X13_mirrored (x_run (xpr L P) 11) 1000 4 [(1, 0), (2, 0), (1, 3), (9, 0), (9, 0)] [(1, 4)] (xw5 xy2 xy2) (0 + 1) (0 + 2) = some (xr5 xy2 xy1)) (hl2 : x_run (xpr L P) 12 38 [(1, 0), (1, 4), (2, 4294967295)] (xw5 xy2 xy1) = some (xlo xy2 xy1)) :
    ∀ (N : Nat) (y : Nat), y = xy1 ∨ y = xy2 → ∀ (ws : va_W) (H : Heap) (locs : List Loc) (als : Array Slot) (a0 a3 k n : Nat), K ≤ H.size + N → k + N ≤ 603400 → n + 2 * N ≤ 7000000 → x_Wd E (xw4 y) ws H → va_S (x_A E) s.heap H locs → lv_has als 5 (xlv a0 a3) → (x_al ws)[0]? = some a0 → (x_al ws)[3]? = some a3 → W p l e x_dR s m args below meth c H locs k n (fun t => K ≤ t.heap.size) (F0 m 42 als []) := by
  intro N
  induction N with
  | zero =>
    intro y _ ws H locs als a0 a3 k n hK _ _ _ _ _ _ _ T hT X
    exact ⟨T.setTop (F0 m 42 als []), Steps.refl _, by
      show K ≤ (T.setTop (F0 m 42 als [])).heap.size
      have e : (T.setTop (F0 m 42 als [])).heap = T.heap := rfl
      rw [e, hT]
      exact hK⟩
  | succ N ih =>
    intro y hy ws H locs als a0 a3 k n hK hk hn hW hS hl h0 h3
    rcases hy with rfl | rfl
    · exact x_iter hC hm1 hl1 (by decide +kernel) (by decide +kernel) (by decide +kernel) (by omega) (by omega) hW hS hl h0 h3 fun ws1 H1 locs1 als1 a4 hg hW1 hS1 hl1 h01 h31 => ih xy2 (Or.inr rfl) ws1 H1 locs1 als1 a0 a4 (k + 1) (n + 2) (by omega) (by omega) (by omega) hW1 hS1 hl1 h01 h31
    · exact x_iter hC hm2 hl2 (by decide +kernel) (by decide +kernel) (by decide +kernel) (by omega) (by omega) hW hS hl h0 h3 fun ws1 H1 locs1 als1 a4 hg hW1 hS1 hl1 h01 h31 => ih xy1 (Or.inl rfl) ws1 H1 locs1 als1 a0 a4 (k + 1) (n + 2) (by omega) (by omega) (by omega) hW1 hS1 hl1 h01 h31
end XSPIN
