/-! GRIDS OF NUMBERS, CLONES, CASTS, COPIES, CLASS OBJECTS, REFERENCES COMPARED -/
section XARY
variable {ms : List xM} {Z : xD} {own nm : String} {cc : ByteArray} {nL : Nat} {rt : Option FieldType} {hh : List (Nat × Nat × Nat × Nat)} {pc : Nat}
theorem xs_mnaI {index : Nat} (hcl : Cond.classLink own index "[[I" ∈ xTb) (har : Cond.arrayClass .int ∈ xTb) (hd : decode cc pc = .ok (.multianewarray index 2, 4)) : x_Ok ms Z own nm cc nL rt hh pc (xo_mna 104 100 (2, 0) (pc + 4)) := xs_mnaW (di := 0) (dz := 0) (ty := .int) (z := fun K => (K, .inl (fun _ => 0))) ⟨by decide, by decide⟩ (fun dA => rfl) hcl har (fun E s h => h.2.2.2.2.1.2.2.1) (fun E s h => x_nmI h) (by decide) rfl rfl (fun K c => arrV_new c K _) (fun E al K => Or.inr (Or.inl ⟨rfl, fun _ => 0, by simp, x_rep (V := .int 0) rfl⟩)) hd
theorem xs_mnaJ {index : Nat} (hcl : Cond.classLink own index "[[J" ∈ xTb) (har : Cond.arrayClass .long ∈ xTb) (hd : decode cc pc = .ok (.multianewarray index 2, 4)) : x_Ok ms Z own nm cc nL rt hh pc (xo_mna 105 101 (3, 0) (pc + 4)) := xs_mnaW (di := 1) (dz := 0) (ty := .long) (z := fun K => (K, .inr (.inl (fun _ => 0)))) ⟨by decide, by decide⟩ (fun dA => rfl) hcl har (fun E s h => h.2.2.2.2.1.2.2.2.1) (fun E s h => (h.2 1 _ rfl).2) (by decide) rfl rfl (fun K c => arrV_new c K _) (fun E al K => Or.inr (Or.inr (Or.inl ⟨rfl, fun _ => 0, by simp, x_rep (V := .long 0) rfl⟩))) hd
def x_cat (st : List xV) : Nat := match st with
  | [] => 0
  | v :: t => (if x_c1 v then 1 else 2) + x_cat t
theorem x_cat_le {E : xE} {al : List Nat} : ∀ {st : List xV} {vst : List Value}, x_RS E al st vst → (vst.map fun v => v.category).sum ≤ x_cat st
  | [], [], _ => Nat.le_refl _
  | v :: t, V :: m, h => by
    have h1 := x_cat_le (st := t) (vst := m) h.2
    have h2 : V.category ≤ (if x_c1 v then 1 else 2) := by
      cases hc : x_c1 v with
      | true => simp [x_c1_cat hc h.1]
      | false => rcases lv_cat V with h | h <;> simp [h]
    show (V.category + (m.map fun v => v.category).sum) ≤ _
    simp only [x_cat]
    omega
  | [], _ :: _, h => False.elim h
  | _ :: _, [], h => False.elim h
/-- a copy of a row of ints -/
noncomputable def xo_cln (nx : Nat) : xO := fun _ c ls st w k n => x_pop st fun v t => x_tag 1 v fun a => x_wn w a fun q => x_if (Nat.beq q.1 100 && Nat.ble (x_cat t) 8) (x_fn w.1 fun i => x_wp q w fun w' => x_fn (k + 1) fun k' => x_fn (n + q.2.length) fun n' => c nx ls ((1, i) :: t) w' k' n')
theorem xs_cln {index : Nat} (hlk : Cond.methodLink own index ⟨"[I", "clone", "()Ljava/lang/Object;"⟩ ∈ xTb) (hsm : Cond.sameMethod "[I" "java/lang/Object" "clone" "()Ljava/lang/Object;" ∈ xTb) (hnt : Cond.native ⟨"java/lang/Object", "clone", "()Ljava/lang/Object;"⟩ ∈ xTb) (him : Cond.instanceMethod ⟨"java/lang/Object", "clone", "()Ljava/lang/Object;"⟩ ∈ xTb) (hse : Cond.selects "[I" ⟨"[I", "clone", "()Ljava/lang/Object;"⟩ ⟨"java/lang/Object", "clone", "()Ljava/lang/Object;"⟩ ∈ xTb) (hca : ("[I", "java/lang/Cloneable") ∈ Z.2.2.1) (hd : decode cc pc = .ok (.invokevirtual index, 3)) : x_Ok ms Z own nm cc nL rt hh pc (xo_cln (pc + 3)) := by
  intro d fn hfn E al0 r p l e R s m args below meth c Q hC cont ih ls st w k n h
  replace h := x_pop_some h
  obtain ⟨v, t, rfl, h⟩ := h
  replace h := x_tag_some h
  obtain ⟨b, rfl, h⟩ := h
  obtain ⟨q, h1, h⟩ := x_wn_some h
  obtain ⟨h0, h⟩ := x_if_some h
  rw [x_fn_eq] at h
  replace h := x_wp_some h
  obtain ⟨w', hps, h⟩ := h
  rw [x_fn_eq, x_fn_eq] at h
  have g := ih _ _ _ _ _ _ h
  simp only [Bool.and_eq_true] at h0
  obtain ⟨hx, hb, hml, ho, hts, hK, hE, hb0, -, -, -, -, -, ⟨hR3, hR4, hR1, hR2⟩, -⟩ := hC
  refine ⟨Nat.le_trans (Nat.le_succ k) g.1, Nat.le_trans (Nat.le_add_right n _) g.2.1, fun ws H locs als lv vst hW hal hS hl hL hV => ?_⟩
  replace hV := hV.cons
  obtain ⟨V, vst, rfl, ⟨a, h2, rfl⟩, hV⟩ := hV
  obtain ⟨e1, h3, h4⟩ := hW.1.get h1 h2
  have hq : q.1 = 100 := Nat.eq_of_beq_eq_true h0.1
  have hct : (vst.map fun v => v.category).sum ≤ 8 := Nat.le_trans (x_cat_le hV) (Nat.le_of_ble_eq_true h0.2)
  have h4' := h4
  obtain ⟨f, rfl, hf⟩ := x_RC_i h4 hq
  refine va_clone hx hb (hml.trans hl.1.symm) ho (hts _ hlk) (hts _ hsm) (hts _ hnt) (hts _ him) (hts _ hse) (hE.2.2.2.2.2.1.2.2.1 _ hca) hK hW.2.1 hW.2.2 hS (fun q h => Nat.le_trans hb0 h) b 0 h3 rfl (x_nmI hK) (fun i v hv => ?_) (by omega) (by omega) (Nat.le_trans g.1 hR1) (Nat.le_trans g.2.1 hR2) hd fun q1 H1 hK1 hP hD hS1 => ?_
  · rw [vp_cell_i] at hv
    have hi : i < q.2.length := by
      have := (Array.getElem?_eq_some_iff.mp hv).1
      rwa [arrV_size] at this
    rw [arrV_read _ _ hi] at hv
    cases hv
    rfl
  · have hp : x_al ws <+: x_al (ws ++ [(q1, (.inl (E.2.1 0, q.2.length, .inl f) : va_E))]) := by rw [x_al_push]; exact List.prefix_append _ _
    exact g.2.2 _ H1 locs als lv _ ⟨hW.1.push hps (h4'.mono hp), hP, hD⟩ (hal.trans hp) hS1 hl (hL.mono hp) ⟨⟨q1, x_RW_len hW.1, rfl⟩, hV.mono hp⟩
/-- a cast of a row of ints to what it is -/
noncomputable def xo_cst (nx : Nat) : xO := fun _ c ls st w k n => x_pop st fun v t => x_tag 1 v fun a => x_wn w a fun q => x_if (Nat.beq q.1 100) (c nx ls (v :: t) w k n)
theorem xs_cst {index : Nat} (hcl : Cond.classLink own index "[I" ∈ xTb) (hd : decode cc pc = .ok (.checkcast index, 3)) : x_Ok ms Z own nm cc nL rt hh pc (xo_cst (pc + 3)) := by
  intro d fn hfn E al0 r p l e R s m args below meth c Q hC cont ih ls st w k n h
  replace h := x_pop_some h
  obtain ⟨v, t, rfl, h⟩ := h
  replace h := x_tag_some h
  obtain ⟨b, rfl, h⟩ := h
  obtain ⟨q, h1, h⟩ := x_wn_some h
  obtain ⟨h0, h⟩ := x_if_some h
  have g := ih _ _ _ _ _ _ h
  obtain ⟨hx, hb, hml, ho, hts, hK, -⟩ := hC
  refine ⟨g.1, g.2.1, fun ws H locs als lv vst hW hal hS hl hL hV => ?_⟩
  have kk := g.2.2 ws H locs als lv vst hW hal hS hl hL hV
  replace hV := hV.cons
  obtain ⟨V, vst, rfl, ⟨a, h2, rfl⟩, hV⟩ := hV
  obtain ⟨e1, h3, h4⟩ := hW.1.get h1 h2
  obtain ⟨f, rfl, hf⟩ := x_RC_i h4 (Nat.eq_of_beq_eq_true h0)
  exact va_castA hx hb ho (hts _ hcl) hW.2.1 b h3 (x_nmI hK) hd kk
/-- an int constant of the pool -/
theorem xs_ldcI {index z : Nat} {v : Int32} (hw : Cond.constant own index v ∈ xTb) (hv : v = nI z) (hd : decode cc pc = .ok (.ldc index, 2)) : x_Ok ms Z own nm cc nL rt hh pc (xo_push (2, z) (pc + 2)) :=
  x_lift fun fn cont ls st w k n r h => ⟨_, _, h, fun E al vst hF hV => ⟨.int (nI z) :: vst, ⟨rfl, hV⟩, fun p l e R s m args below meth c H locs k n Q als hx hb ho hts kk => lv_ldc hx hb ho (hts _ hw) hd (by rw [hv]; exact kk)⟩⟩
/-- the class object of the rows of objects -/
theorem xs_ldcM {index : Nat} (hcl : Cond.classLink own index "[Ljava/lang/Object;" ∈ xTb) (hd : decode cc pc = .ok (.ldc index, 2)) : x_Ok ms Z own nm cc nL rt hh pc (xo_push (5, 2) (pc + 2)) := by
  intro d fn hfn E al0 r p l e R s m args below meth c Q hC cont ih ls st w k n h
  have g := ih _ _ _ _ _ _ h
  obtain ⟨hx, hb, -, ho, hts, hK, hE, -⟩ := hC
  refine ⟨g.1, g.2.1, fun ws H locs als lv vst hW hal hS hl hL hV => ?_⟩
  exact va_ldcM hx hb ho (hts _ hcl) hE.2.2.2.1.1 hd (g.2.2 ws H locs als lv (.ref (x_xi E 2) :: vst) hW hal hS hl hL ⟨rfl, hV⟩)
noncomputable def xo_gcl (nx : Nat) : xO := fun _ c ls st w k n => x_pop st fun v t => x_tag 1 v fun a => x_wn w a fun q => x_if (Nat.beq q.1 103 && Nat.ble (x_cat t) 8) (c nx ls ((5, 2) :: t) w k n)
theorem xs_gcl {index : Nat} (hlk : Cond.methodLink own index ⟨"java/lang/Object", "getClass", "()Ljava/lang/Class;"⟩ ∈ xTb) (hse : Cond.selects "[Ljava/lang/Object;" ⟨"java/lang/Object", "getClass", "()Ljava/lang/Class;"⟩ ⟨"java/lang/Object", "getClass", "()Ljava/lang/Class;"⟩ ∈ xTb) (him : Cond.instanceMethod ⟨"java/lang/Object", "getClass", "()Ljava/lang/Class;"⟩ ∈ xTb) (hnt : Cond.native ⟨"java/lang/Object", "getClass", "()Ljava/lang/Class;"⟩ ∈ xTb) (hd : decode cc pc = .ok (.invokevirtual index, 3)) : x_Ok ms Z own nm cc nL rt hh pc (xo_gcl (pc + 3)) := by
  intro d fn hfn E al0 r p l e R s m args below meth c Q hC cont ih ls st w k n h
  replace h := x_pop_some h
  obtain ⟨v, t, rfl, h⟩ := h
  replace h := x_tag_some h
  obtain ⟨b, rfl, h⟩ := h
  obtain ⟨q, h1, h⟩ := x_wn_some h
  obtain ⟨h0, h⟩ := x_if_some h
  simp only [Bool.and_eq_true] at h0
  have g := ih _ _ _ _ _ _ h
  obtain ⟨hx, hb, hml, ho, hts, hK, hE, hb0, -, -, -, -, -, ⟨hR3, hR4, hR1, hR2⟩, -⟩ := hC
  refine ⟨g.1, g.2.1, fun ws H locs als lv vst hW hal hS hl hL hV => ?_⟩
  replace hV := hV.cons
  obtain ⟨V, vst, rfl, ⟨a, h2, rfl⟩, hV⟩ := hV
  obtain ⟨e1, h3, h4⟩ := hW.1.get h1 h2
  have hq : q.1 = 103 := Nat.eq_of_beq_eq_true h0.1
  have hct : (vst.map fun v => v.category).sum ≤ 8 := Nat.le_trans (x_cat_le hV) (Nat.le_of_ble_eq_true h0.2)
  obtain ⟨-, f, rfl, hf⟩ := x_RC_q h4 (by omega)
  have hnm : s.vm.findClass "[Ljava/lang/Object;" = some (E.2.1 (q.1 - 100)) := by
    rw [hq]
    exact va_nmO (C := "java/lang/Object") (hK.2 3 _ rfl).2 (by decide)
  exact va_getC hx hb (hml.trans hl.1.symm) ho (hts _ hlk) (va_Dc.use hE.2.2.2.2.1.2.2.2.2) (hts _ hse) (hts _ him) (hts _ hnt) hE.2.2.2.1.1 ⟨_, hW.2.1 b _ h3, rfl, hnm⟩ (by omega) (by omega) hd (g.2.2 ws H locs als lv (.ref (x_xi E 2) :: vst) hW hal hS hl hL ⟨rfl, hV⟩)
/-- references compared: the same name, or a cell against the empty row -/
noncomputable def xo_acm (ts tn : Nat) : xO := fun _ c ls st w k n => x_pop st fun y t => x_pop t fun x t => x_br ((Nat.beq x.1 1 || Nat.beq x.1 5) && (Nat.beq x.1 y.1 && Nat.beq x.2 y.2)) (c ts ls t w k n) (x_if (Nat.beq x.1 1 && (Nat.beq y.1 5 && Nat.beq y.2 1)) (c tn ls t w k n))
theorem xs_acmW {ts tn : Nat} (row : ∀ (p : Program) (l : Launch) (e : Env) (R : Room) (s : State) (m : MethodId) (args : Array Value) (below : List Frame) (meth : Method) (c : Code) (H : Heap) (locs : List Loc) (k n : Nat) (Q : State → Prop) (als : Array Slot) (x y : Nat) (rest : List Value), p.tables.exec = Jvm.exec → c.code = cc → (x = y → W p l e R s m args below meth c H locs k n Q (F0 m ts als rest)) → (¬ x = y → W p l e R s m args below meth c H locs k n Q (F0 m tn als rest)) → W p l e R s m args below meth c H locs k n Q (F0 m pc als (.ref y :: .ref x :: rest))) : x_Ok ms Z own nm cc nL rt hh pc (xo_acm ts tn) := by
  intro d fn hfn E al0 r p l e R s m args below meth c Q hC cont ih ls st w k n h
  replace h := x_pop_some h
  obtain ⟨y, t, rfl, h⟩ := h
  replace h := x_pop_some h
  obtain ⟨x, t, rfl, h⟩ := h
  obtain ⟨hx, hb, hml, ho, hts, hK, hE, -⟩ := hC
  obtain ⟨tx, jx⟩ := x
  obtain ⟨ty, jy⟩ := y
  cases hc : ((Nat.beq tx 1 || Nat.beq tx 5) && (Nat.beq tx ty && Nat.beq jx jy)) with
  | true =>
    have h' : x_br ((Nat.beq tx 1 || Nat.beq tx 5) && (Nat.beq tx ty && Nat.beq jx jy)) (cont ts ls t w k n) (x_if (Nat.beq tx 1 && (Nat.beq ty 5 && Nat.beq jy 1)) (cont tn ls t w k n)) = some r := h
    rw [hc] at h'
    have g := ih _ _ _ _ _ _ h'
    simp only [Bool.and_eq_true, Bool.or_eq_true] at hc
    obtain ⟨h1, h2, h3⟩ := hc
    have e1 := Nat.eq_of_beq_eq_true h2
    have e2 := Nat.eq_of_beq_eq_true h3
    subst e1
    subst e2
    refine ⟨g.1, g.2.1, fun ws H locs als lv vst hW hal hS hl hL hV => ?_⟩
    replace hV := hV.cons
    obtain ⟨Y, vst, rfl, hY, hV⟩ := hV
    replace hV := hV.cons
    obtain ⟨X, vst, rfl, hX, hV⟩ := hV
    have key : ∃ a, Y = .ref a ∧ X = .ref a := by
      rcases h1 with h1 | h1
      · have e : tx = 1 := Nat.eq_of_beq_eq_true h1
        subst e
        obtain ⟨a, k1, rfl⟩ := hY
        obtain ⟨a2, k2, rfl⟩ := hX
        rw [k1] at k2
        cases k2
        exact ⟨a, rfl, rfl⟩
      · have e : tx = 5 := Nat.eq_of_beq_eq_true h1
        subst e
        exact ⟨_, hY, hX⟩
    obtain ⟨a, rfl, rfl⟩ := key
    exact row p l e R s m args below meth c H locs k n Q als a a vst hx hb (fun _ => g.2.2 ws H locs als lv vst hW hal hS hl hL hV) (fun q => absurd rfl q)
  | false =>
    have h' : x_br ((Nat.beq tx 1 || Nat.beq tx 5) && (Nat.beq tx ty && Nat.beq jx jy)) (cont ts ls t w k n) (x_if (Nat.beq tx 1 && (Nat.beq ty 5 && Nat.beq jy 1)) (cont tn ls t w k n)) = some r := h
    rw [hc] at h'
    obtain ⟨h0, h'⟩ := x_if_some (b := Nat.beq tx 1 && (Nat.beq ty 5 && Nat.beq jy 1)) h'
    have g := ih _ _ _ _ _ _ h'
    simp only [Bool.and_eq_true] at h0
    obtain ⟨h1, h2, h3⟩ := h0
    have e1 := Nat.eq_of_beq_eq_true h1
    have e2 := Nat.eq_of_beq_eq_true h2
    have e3 := Nat.eq_of_beq_eq_true h3
    subst e1
    subst e2
    subst e3
    refine ⟨g.1, g.2.1, fun ws H locs als lv vst hW hal hS hl hL hV => ?_⟩
    replace hV := hV.cons
    obtain ⟨Y, vst, rfl, hY, hV⟩ := hV
    replace hV := hV.cons
    obtain ⟨X, vst, rfl, ⟨a, k1, rfl⟩, hV⟩ := hV
    have e4 : Y = .ref (x_xi E 1) := hY
    subst e4
    refine row p l e R s m args below meth c H locs k n Q als a (x_xi E 1) vst hx hb (fun q => ?_) (fun q => g.2.2 ws H locs als lv vst hW hal hS hl hL hV)
    obtain ⟨cellT, -, -, -, -, -, -, hnA⟩ := hE.2.1.2
    exfalso
    apply hnA
    rw [← q]
    rw [List.getElem?_map] at k1
    cases hw : ws[jx]? with
    | none => rw [hw] at k1; cases k1
    | some z =>
      rw [hw] at k1
      have e5 : z.1 = a := Option.some.inj k1
      rw [← e5]
      exact hW.2.2.2 jx z hw
theorem xs_acm_eq {off : Int} {tg : Nat} (hd : decode cc pc = .ok (.if_acmp .eq off, 3)) (ht : (pc : Int) + off = (tg : Int)) : x_Ok ms Z own nm cc nL rt hh pc (xo_acm tg (pc + 3)) := xs_acmW fun p l e R s m args below meth c H locs k n Q als x y rest hx hb ke kn => lv_acmp_eq (rx := some x) (ry := some y) hx hb hd ht (fun q => ke (Option.some.inj q)) (fun q => kn fun q2 => q (congrArg some q2))
theorem xs_acm_ne {off : Int} {tg : Nat} (hd : decode cc pc = .ok (.if_acmp .ne off, 3)) (ht : (pc : Int) + off = (tg : Int)) : x_Ok ms Z own nm cc nL rt hh pc (xo_acm (pc + 3) tg) := xs_acmW fun p l e R s m args below meth c H locs k n Q als x y rest hx hb ke kn => lv_acmp_ne (rx := some x) (ry := some y) hx hb hd ht (fun q => kn fun q2 => q (congrArg some q2)) (fun q => ke (Option.some.inj q))
end XARY
