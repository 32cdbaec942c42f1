/-! COPIES OF ROWS; A METHOD'S RUN, AND ITS CONTRACT -/
section XRUN
variable {ms : List xM} {Z : xD} {own nm : String} {cc : ByteArray} {nL : Nat} {rt : Option FieldType} {hh : List (Nat × Nat × Nat × Nat)} {pc : Nat}
/-- each of them null or a row of ints -/
noncomputable def x_ck (w : xW) (l : List xV) : Bool := List.rec (motive := fun _ => Bool) true (fun v _ ih => (Nat.beq v.1 0 || (x_isT 1 v && x_wat w (fun q => Nat.beq q.1 100) v.2)) && ih) l
theorem x_ck_all {w : xW} {l : List xV} (h : x_ck w l = true) : ∀ v ∈ l, v.1 = 0 ∨ ∃ b q, v = (1, b) ∧ x_cl w b = some q ∧ q.1 = 100 := by
  induction l with
  | nil => intro v hv; cases hv
  | cons a t ih =>
    have h' : ((Nat.beq a.1 0 || (x_isT 1 a && x_wat w (fun q => Nat.beq q.1 100) a.2)) && x_ck w t) = true := h
    simp only [Bool.and_eq_true, Bool.or_eq_true] at h'
    intro v hv
    rcases List.mem_cons.mp hv with rfl | hv
    · rcases h'.1 with h1 | ⟨h1, h2⟩
      · exact Or.inl (Nat.eq_of_beq_eq_true h1)
      · obtain ⟨b, rfl⟩ := x_isT_of h1
        obtain ⟨q, h3, h4⟩ := x_wat_some h2
        exact Or.inr ⟨b, q, rfl, h3, Nat.eq_of_beq_eq_true h4⟩
    · exact ih h'.2 v hv
noncomputable def xo_acp (nx : Nat) : xO := fun _ c ls st w k n => x_pop st fun nv t => x_pop t fun dv t => x_pop t fun bv t => x_pop t fun sv t => x_pop t fun av t => x_tag 2 nv fun N => x_tag 2 dv fun dp => x_tag 1 bv fun b => x_tag 2 sv fun sp => x_tag 1 av fun a => x_wn w a fun qa => x_wn w b fun qb => x_if (Nat.beq qa.1 103 && (Nat.beq qb.1 103 && (Nat.ble (sp + N) qa.2.length && (Nat.ble (dp + N) qb.2.length && (Nat.ble (sp + (dp + N)) 100000 && (x_ck w ((qa.2.drop sp).take N) && Nat.ble (x_cat t) 8))))))
  (x_app [] ((qb.2.take dp ++ (qa.2.drop sp).take N) ++ qb.2.drop (dp + N)) fun l' => x_wt (103, l') w b fun w' => c nx ls t w' k n)
theorem x_spl {l0 l1 : List xV} {sp dp N j : Nat} {u : xV} (h0 : sp + N ≤ l0.length) (h1 : dp + N ≤ l1.length) (h : ((l1.take dp ++ (l0.drop sp).take N) ++ l1.drop (dp + N))[j]? = some u) : (dp ≤ j ∧ j < dp + N ∧ l0[sp + (j - dp)]? = some u) ∨ (¬ (dp ≤ j ∧ j < dp + N) ∧ l1[j]? = some u) := by
  have e1 : (l1.take dp).length = dp := by rw [List.length_take]; omega
  have e2 : ((l0.drop sp).take N).length = N := by rw [List.length_take, List.length_drop]; omega
  by_cases hj1 : j < dp
  · rw [List.append_assoc, List.getElem?_append_left (by omega), List.getElem?_take, if_pos hj1] at h
    exact Or.inr ⟨by omega, h⟩
  · by_cases hj2 : j < dp + N
    · rw [List.append_assoc, List.getElem?_append_right (by omega), List.getElem?_append_left (by omega), e1, List.getElem?_take, if_pos (by omega), List.getElem?_drop] at h
      exact Or.inl ⟨by omega, hj2, h⟩
    · rw [List.getElem?_append_right (by rw [List.length_append]; omega), List.length_append, e1, e2, List.getElem?_drop, show dp + N + (j - (dp + N)) = j by omega] at h
      exact Or.inr ⟨by omega, h⟩
theorem xs_acp {index : Nat} (hlk : Cond.methodLink own index arraycopyName ∈ xTb) (hnt : Cond.native arraycopyName ∈ xTb) (hst : Cond.static arraycopyName ∈ xTb) (hini : Cond.initialized "java/lang/System" ∈ xTb) (hca : ("[I", "java/lang/Object") ∈ Z.2.2.1) (hnf : nativeFrameWords "java/lang/System" "arraycopy" 5 + 11 ≤ 100) (hd : decode cc pc = .ok (.invokestatic index, 3)) : x_Ok ms Z own nm cc nL rt hh pc (xo_acp (pc + 3)) := by
  intro d fn hfn E al0 r p l e R s m args below meth c Q hC cont ih ls st w k n h
  replace h := x_pop_some h
  obtain ⟨nv, t, rfl, h⟩ := h
  replace h := x_pop_some h
  obtain ⟨dv, t, rfl, h⟩ := h
  replace h := x_pop_some h
  obtain ⟨bv, t, rfl, h⟩ := h
  replace h := x_pop_some h
  obtain ⟨sv, t, rfl, h⟩ := h
  replace h := x_pop_some h
  obtain ⟨av, t, rfl, h⟩ := h
  replace h := x_tag_some h
  obtain ⟨N, rfl, h⟩ := h
  replace h := x_tag_some h
  obtain ⟨dp, rfl, h⟩ := h
  replace h := x_tag_some h
  obtain ⟨b, rfl, h⟩ := h
  replace h := x_tag_some h
  obtain ⟨sp, rfl, h⟩ := h
  replace h := x_tag_some h
  obtain ⟨a, rfl, h⟩ := h
  obtain ⟨qa, h1, h⟩ := x_wn_some h
  obtain ⟨qb, h2, h⟩ := x_wn_some h
  obtain ⟨h0, h⟩ := x_if_some h
  rw [x_app_eq, List.append_nil] at h
  obtain ⟨h3, h⟩ := x_wt_some h
  have g := ih _ _ _ _ _ _ h
  simp only [Bool.and_eq_true] at h0
  obtain ⟨c1, c2, c3, c4, c5, c6, c7⟩ := h0
  have k1 : qa.1 = 103 := Nat.eq_of_beq_eq_true c1
  have k2 : qb.1 = 103 := Nat.eq_of_beq_eq_true c2
  have k3 : sp + N ≤ qa.2.length := Nat.le_of_ble_eq_true c3
  have k4 : dp + N ≤ qb.2.length := Nat.le_of_ble_eq_true c4
  have k5 : sp + (dp + N) ≤ 100000 := Nat.le_of_ble_eq_true c5
  have k6 := x_ck_all c6
  have k7 : x_cat t ≤ 8 := Nat.le_of_ble_eq_true c7
  obtain ⟨hx, hb, hml, ho, hts, hK, hE, hb0, -, -, -, -, -, ⟨hR3, hR4, hR1, hR2⟩, -⟩ := hC
  refine ⟨g.1, g.2.1, fun ws H locs als lv vst hW hal hS hl hL hV => ?_⟩
  replace hV := hV.cons
  obtain ⟨V1, vst, rfl, z1, hV⟩ := hV
  replace hV := hV.cons
  obtain ⟨V2, vst, rfl, z2, hV⟩ := hV
  replace hV := hV.cons
  obtain ⟨V3, vst, rfl, ⟨bb, z3, rfl⟩, hV⟩ := hV
  replace hV := hV.cons
  obtain ⟨V4, vst, rfl, z4, hV⟩ := hV
  replace hV := hV.cons
  obtain ⟨V5, vst, rfl, ⟨aa, z5, rfl⟩, hV⟩ := hV
  cases z1
  cases z2
  cases z4
  obtain ⟨ea, y1, y2⟩ := hW.1.get h1 z5
  obtain ⟨eb, y3, y4⟩ := hW.1.get h2 z3
  obtain ⟨-, f, rfl, hf⟩ := x_RC_q y2 (by omega)
  obtain ⟨-, gg, rfl, hg⟩ := x_RC_q y4 (by omega)
  rw [k1] at y1
  rw [k2] at y3
  have n1 : N < 2 ^ 31 := by omega
  have n2 : dp < 2 ^ 31 := by omega
  have n3 : sp < 2 ^ 31 := by omega
  have hct := x_cat_le hV
  refine va_copyM (E0 := "java/lang/Object") (E1 := "java/lang/Object") hx hb (hml.trans hl.1.symm) ho (hts _ hlk) (hts _ hnt) (hts _ hst) (hts _ hini) hK hW.2.1 hW.2.2 hS a b 3 3 y1 y3 rfl rfl (nI_pos n3) (nI_pos n2) (nI_pos n1) (by rw [nI_clamp n3, nI_clamp n1]; exact k3) (by rw [nI_clamp n2, nI_clamp n1]; exact k4) (fun i hi y hy => ?_) (by omega) (by omega) hd fun H1 locs1 hP hD hS1 => ?_
  · rw [nI_clamp n1] at hi
    rw [nI_clamp n3] at hy
    have hlt : sp + i < qa.2.length := by omega
    have hu : qa.2[sp + i]? = some qa.2[sp + i] := List.getElem?_eq_getElem hlt
    have hm : qa.2[sp + i] ∈ (qa.2.drop sp).take N := by
      refine List.mem_of_getElem? (i := i) ?_
      rw [List.getElem?_take, if_pos hi, List.getElem?_drop]
      exact hu
    have hr := hf _ _ hu
    rw [hy] at hr
    rcases k6 _ hm with q0 | ⟨b2, q2, e2, w2, q3⟩
    · generalize qa.2[sp + i] = u at q0 hr
      obtain ⟨tu, ju⟩ := u
      dsimp only at q0
      subst q0
      cases hr
    · rw [e2] at hr
      obtain ⟨a2, r1, r2⟩ := hr
      have ea2 : y = a2 := by
        have : Value.ref y = .ref a2 := r2
        injection this
      subst ea2
      obtain ⟨e3, r3, r4⟩ := hW.1.get w2 r1
      obtain ⟨f3, rfl, -⟩ := x_RC_i r4 q3
      exact x_anyI hK hW.2.1 r3 (hE.2.2.2.2.2.1.2.2.1 _ hca)
  · rw [nI_clamp n1, nI_clamp n2, nI_clamp n3] at hP hD
    have ha := x_al_set (e' := .inl (E.2.1 (103 - 100), qb.2.length, .inr (.inr (.inr (.inr (va_cpy f gg sp dp N)))))) y3
    refine g.2.2 _ H1 locs1 als lv vst ⟨hW.1.set y3 (Or.inr (Or.inr (Or.inr (Or.inr ⟨(by decide : (103 : Nat) ≤ 103), (by decide : (103 : Nat) < 107), va_cpy f gg sp dp N, ?_, fun j u hj => ?_⟩)))), hP, hD⟩ (by rw [ha]; exact hal) hS1 hl (by rw [ha]; exact hL) (by rw [ha]; exact hV)
    · have : ((qb.2.take dp ++ (qa.2.drop sp).take N) ++ qb.2.drop (dp + N)).length = qb.2.length := by
        simp only [List.length_append, List.length_take, List.length_drop]
        omega
      show (Sum.inl (E.2.1 (103 - 100), qb.2.length, _) : va_E) = .inl (E.2.1 (103 - 100), ((qb.2.take dp ++ (qa.2.drop sp).take N) ++ qb.2.drop (dp + N)).length, _)
      rw [this]
    · rcases x_spl k3 k4 hj with ⟨s1, s2, s3⟩ | ⟨s1, s3⟩
      · simp only [va_cpy, if_pos (And.intro s1 s2)]
        exact hf _ _ s3
      · simp only [va_cpy, if_neg s1]
        exact hg _ _ s3
/-- the code, in rows of sixteen, by its bytes' places -/
noncomputable def x_lk (code : List (List xO)) (pc : Nat) : Option xO := x_nth code (pc / 16) fun row => x_nth row (pc % 16) some
noncomputable def x_look {β : Type} (code : List (List xO)) (pc : Nat) (kk : xO → Option β) : Option β := match x_lk code pc with
  | none => none
  | some o => kk o
theorem x_look_some {β : Type} {code : List (List xO)} {pc : Nat} {kk : xO → Option β} {r : β} (h : x_look code pc kk = some r) : ∃ row o, code[pc / 16]? = some row ∧ row[pc % 16]? = some o ∧ kk o = some r := by
  unfold x_look at h
  cases hk : x_lk code pc with
  | none => rw [hk] at h; cases h
  | some o =>
    rw [hk] at h
    obtain ⟨row, h1, h2⟩ := x_nth_some (show x_nth code (pc / 16) (fun row => x_nth row (pc % 16) some) = some o from hk)
    obtain ⟨o', h3, h4⟩ := x_nth_some h2
    cases h4
    exact ⟨row, o, h1, h3, h⟩
noncomputable def x_loop (code : List (List xO)) (fn : xF) (N : Nat) : xK := Nat.rec (motive := fun _ => xK) (fun _ _ _ _ _ _ => none) (fun _ ih pc ls st w k n => x_look code pc fun o => o fn ih ls st w k n) N
def x_ini : List xV → List xV
  | [] => []
  | v :: t => if x_c1 v then v :: x_ini t else v :: (9, 0) :: x_ini t
abbrev xQ : Type := List (List xO) × Nat
noncomputable def x_run (pr : List xQ) (d : Nat) : xF := Nat.rec (motive := fun _ => xF) (fun _ _ _ => none) (fun _ ih u av w => x_nth pr u fun q => x_if (Nat.ble (x_ini av).length q.2) (x_app [] (x_ini av ++ List.replicate (q.2 - (x_ini av).length) (9, 0)) fun ls => x_loop q.1 ih 1000000 0 ls [] w 0 0)) d
/-- as vx_ofW, of a method that no native stands for -/
theorem vx_ofWF {l : Launch} {y : MethodName} {ws ws' : List Cond} {rm : Room} {Pc : Array Value → State → Prop} {Qc : Array Value → State → Outcome → State → Prop} {XC : String → State → State → Prop} {mc ms : Nat} {free : Addr → Prop} {cc : ByteArray} {maxL : Nat} {ret : Option FieldType}
    (hy : plainFor y = true) (hw : ws = Cond.code y cc maxL ret :: ws')
    (body : ∀ p e s m args below meth c s₁, BodyLoose p l y (headSpec ws rm) cc maxL ret e s m args below meth c s₁ → c.maxLocals = maxL → (∀ x ∈ c.exceptionTable.toList, False) → Pc args s →
      W p l e (headSpec ws rm).room s m args below meth c s.heap [] 0 0 (vx_MQ below Qc XC args s mc ms free) (entryFrame m args maxL)) : vx_Met l y ws rm Pc Qc XC mc ms free := by
  refine MetFree.of_bodySF (code := cc) (maxLocals := maxL) (ret := ret) hy ?_ ?_
  · intro args s m h hn
    obtain ⟨meth, c, h1, h2, h3, h4, h5, h6, -, -⟩ := Cond.code_spec hn (atoms_spec (ws := ws) h _ (by rw [hw]; exact List.mem_cons_self))
    exact ⟨meth, c, h1, h2, h3, h4, h5, h6⟩
  · intro p e s m args below meth c s₁ B hml hP _
    have hh0 : s₁.heap = s.heap := by rw [B.state]; rfl
    have ht : ∀ x ∈ c.exceptionTable.toList, False := by
      obtain ⟨meth9, c9, h1, h2, -, -, -, -, h7, -⟩ := Cond.code_spec B.named (atoms_spec (ws := ws) B.pre _ (by rw [hw]; exact List.mem_cons_self))
      cases Option.some.inj (h1.symm.trans B.method)
      cases Option.some.inj (h2.symm.trans (Stand.of_body B).code)
      intro x hx
      rw [Array.isEmpty_iff.mp h7] at hx
      cases hx
    obtain ⟨t, a1, o, b1, b2, b3⟩ := body p e s m args below meth c s₁ B hml ht hP s₁ hh0 (Stand.of_body B)
    exact ⟨t, o, a1, b1, b2, b3⟩
/-- a method's rows say what its bytes do -/
def x_Tab (ms : List xM) (Z : xD) (M : xM) (q : xQ) : Prop := q.2 = M.2.2.1 ∧ (plainFor M.1 && (M.2.2.2.2.isEmpty || plainName M.1.cls)) = true ∧ ∀ (pc i j : Nat) (row : List xO) (o : xO), pc = 16 * i + j → j < 16 → q.1[i]? = some row → row[j]? = some o → x_Ok ms Z M.1.cls M.1.name M.2.1 M.2.2.1 M.2.2.2.1 M.2.2.2.2 pc o
theorem x_loop_ok {code : List (List xO)} (htab : ∀ (pc i j : Nat) (row : List xO) (o : xO), pc = 16 * i + j → j < 16 → code[i]? = some row → row[j]? = some o → x_Ok ms Z own nm cc nL rt hh pc o) {d : Nat} {fn : xF} (hfn : x_Fn ms Z d fn) {E : xE} {al0 : List Nat} {r : xT} {p : Program} {l : Launch} {e : Env} {R : Room} {s : State} {m : MethodId} {args : Array Value} {below : List Frame} {meth : Method} {c : Code} {Q : State → Prop} (hC : x_Cx own nm cc nL rt hh d Z E al0 r p l e R s m args below meth c Q) : ∀ (N pc : Nat) (ls st : List xV) (w : xW) (k n : Nat), x_loop code fn N pc ls st w k n = some r → x_Gd E nL s.heap al0 (x_G p l e R s m args below meth c Q) r pc ls st w k n := by
  intro N
  induction N with
  | zero => intro pc ls st w k n h; cases h
  | succ N ih =>
    intro pc ls st w k n h
    obtain ⟨row, o, h1, h3, h4⟩ := x_look_some (show x_look code pc (fun o => o fn (x_loop code fn N) ls st w k n) = some r from h)
    exact htab pc (pc / 16) (pc % 16) row o (Nat.div_add_mod pc 16).symm (Nat.mod_lt _ (by decide)) h1 h3 d fn hfn E al0 r p l e R s m args below meth c Q hC (x_loop code fn N) ih ls st w k n h4
theorem x_c2_cat {E : xE} {al : List Nat} {v : xV} {V : Value} (hi : x_c1 v = false) (h : x_rv E al v V) : V.category = 2 := by
  obtain ⟨t, n⟩ := v
  simp only [x_c1, Bool.not_eq_false', Bool.or_eq_true] at hi
  rcases hi with hi | hi
  · have e : t = 3 := Nat.eq_of_beq_eq_true hi
    subst e
    cases h
    rfl
  · have e : t = 7 := Nat.eq_of_beq_eq_true hi
    subst e
    cases h
    rfl
theorem x_ini_len {E : xE} {al : List Nat} : ∀ {av : List xV} {vs : List Value}, x_RS E al av vs → (lg_sl vs).length = (x_ini av).length
  | [], [], _ => rfl
  | v :: t, V :: m, h => by
    have ih := x_ini_len (av := t) (vs := m) h.2
    have e : lg_sl (V :: m) = (if V.category = 2 then [Slot.val V, .second] else [.val V]) ++ lg_sl m := rfl
    cases hc : x_c1 v with
    | true =>
      have h1 := x_c1_cat hc h.1
      rw [e, if_neg (by omega)]
      simp [x_ini, hc, ih]
    | false =>
      have h1 := x_c2_cat hc h.1
      rw [e, if_pos h1]
      simp [x_ini, hc, ih]
  | [], _ :: _, h => False.elim h
  | _ :: _, [], h => False.elim h
theorem x_ini_RL {E : xE} {al : List Nat} : ∀ {av : List xV} {vs : List Value} (i0 : Nat), x_RS E al av vs → ∀ (j : Nat) (v : xV), (x_ini av)[j]? = some v → v.1 ≠ 9 → ∃ V, (i0 + j, V) ∈ lv_args i0 vs ∧ x_rv E al v V
  | [], [], i0, _, j, v, hj, _ => by simp [x_ini] at hj
  | u :: t, V :: m, i0, h, j, v, hj, h9 => by
    cases hc : x_c1 u with
    | true =>
      have h1 := x_c1_cat hc h.1
      simp only [x_ini, hc, if_true] at hj
      cases j with
      | zero =>
        cases hj
        exact ⟨V, List.mem_cons_self, h.1⟩
      | succ j =>
        obtain ⟨V2, k1, k2⟩ := x_ini_RL (av := t) (vs := m) (i0 + 1) h.2 j v hj h9
        refine ⟨V2, ?_, k2⟩
        show _ ∈ (i0, V) :: lv_args (if V.category = 2 then i0 + 2 else i0 + 1) m
        rw [if_neg (by omega), show i0 + (j + 1) = i0 + 1 + j by omega]
        exact List.mem_cons_of_mem _ k1
    | false =>
      have h1 := x_c2_cat hc h.1
      simp only [x_ini, hc] at hj
      match j, hj with
      | 0, hj =>
        cases hj
        exact ⟨V, List.mem_cons_self, h.1⟩
      | 1, hj =>
        cases hj
        exact absurd rfl h9
      | j + 2, hj =>
        obtain ⟨V2, k1, k2⟩ := x_ini_RL (av := t) (vs := m) (i0 + 2) h.2 j v hj h9
        refine ⟨V2, ?_, k2⟩
        show _ ∈ (i0, V) :: lv_args (if V.category = 2 then i0 + 2 else i0 + 1) m
        rw [if_pos h1, show i0 + (j + 2) = i0 + 2 + j by omega]
        exact List.mem_cons_of_mem _ k1
  | [], _ :: _, _, h, _, _, _, _ => False.elim h
  | _ :: _, [], _, h, _, _, _, _ => False.elim h
theorem x_pad_RL {E : xE} {al : List Nat} {av : List xV} {vs : List Value} {z : Nat} (h : x_RS E al av vs) : x_RL E al (x_ini av ++ List.replicate z (9, 0)) (lv_args 0 vs) := by
  intro j v hj h9
  by_cases hl : j < (x_ini av).length
  · rw [List.getElem?_append_left hl] at hj
    obtain ⟨V, k1, k2⟩ := x_ini_RL 0 h j v hj h9
    rw [Nat.zero_add] at k1
    exact ⟨V, k1, k2⟩
  · rw [List.getElem?_append_right (by omega)] at hj
    have e := (List.mem_replicate.mp (List.mem_of_getElem? hj)).2
    subst e
    exact absurd rfl h9
set_option maxHeartbeats 1000000 in
theorem x_run_ok {pr : List xQ} (hpr : ∀ (u : Nat) (q : xQ) (M : xM), pr[u]? = some q → ms[u]? = some M → x_Tab ms Z M q) : ∀ d : Nat, x_Fn ms Z d (x_run pr d) := by
  intro d
  induction d with
  | zero => intro u M av w r hM h; cases h
  | succ d ih =>
    intro u M av w r hM h
    obtain ⟨q, h1, h2⟩ := x_nth_some (show x_nth pr u (fun q => x_if (Nat.ble (x_ini av).length q.2) (x_app [] (x_ini av ++ List.replicate (q.2 - (x_ini av).length) (9, 0)) fun ls => x_loop q.1 (x_run pr d) 1000000 0 ls [] w 0 0)) = some r from h)
    obtain ⟨h3, h4⟩ := x_if_some h2
    rw [x_app_eq, List.append_nil] at h4
    obtain ⟨t1, t2, t3⟩ := hpr u q M h1 hM
    have hlen : (x_ini av).length ≤ M.2.2.1 := by rw [← t1]; exact Nat.le_of_ble_eq_true h3
    intro l E vs ws hfl hF hV
    have body : ∀ (p : Program) (e : Env) (s : State) (m : MethodId) (args : Array Value) (below : List Frame) (meth : Method) (c : Code) (s₁ : State), BodyLoose p l M.1 (headSpec (x_ws M) (x_rm (d + 1) r)) M.2.1 M.2.2.1 M.2.2.2.1 e s m args below meth c s₁ → c.maxLocals = M.2.2.1 → c.exceptionTable.toList = tableOf M.2.2.2.2 → va_Pc vs (x_Pre Z E w ws) args s →
        W p l e (headSpec (x_ws M) (x_rm (d + 1) r)).room s m args below meth c s.heap [] 0 0 (vx_MQ below (x_Qc E (x_al ws) r) (x_Xc E (x_al ws) r) args s r.2.2.2.1 r.2.2.2.2 (x_A E)) (entryFrame m args M.2.2.1) := by
      intro p e s m args below meth c s₁ B hml htab hpc
      obtain ⟨rfl, hb0, hW, hK, hE⟩ := hpc
      have hts0 := atoms_spec (ws := x_ws M) B.pre
      have hrt := B.returns
      have hC : x_Cx M.1.cls M.1.name M.2.1 M.2.2.1 M.2.2.2.1 M.2.2.2.2 d Z E (x_al ws) r p l e (headSpec (x_ws M) (x_rm (d + 1) r)).room s m vs.toArray below meth c (vx_MQ below (x_Qc E (x_al ws) r) (x_Xc E (x_al ws) r) vs.toArray s r.2.2.2.1 r.2.2.2.2 (x_A E)) := by
        refine ⟨B.exec, B.bytes, hml, findClass_of_methodNamed B.named, fun w hw => hts0 w (List.mem_cons_of_mem _ hw), hK, hE, hb0, B.notSynchronized, hfl, (name_of_methodNamed B.named B.method).1, htab, hF, ⟨by show d + 9 ≤ d + 1 + 8; omega, Nat.le_refl _, Nat.le_refl _, Nat.le_refl _⟩, fun vo pc als H locs ws' hW' hal hS hro hri => ?_, fun h2 => ⟨_, _, rfl, fun t ws' hW' hal hF' => ⟨ws', h2, rfl, hW', hal, hF'⟩⟩⟩
        have hlk : meth.locks = false := B.notSynchronized
        have hq : ∀ t : State, t.heap = H → s.WarmedH t.vm → x_Qc E (x_al ws) r vs.toArray s (.returned vo) t := fun t ht hWt => ⟨vo, ws', rfl, hro, by rw [ht]; exact hW', hal, hS.F ht⟩
        have hf : ∀ q ∈ locs, x_A E q.base := fun q hq => hS.2.2 q hq
        refine vx_ret ?_
        rcases hri with ⟨rfl, e1, e2⟩ | ⟨x, ty, rfl, e1, e2, e3⟩ | ⟨x, rfl, e1, e2⟩ | ⟨x, rfl, e1, e2⟩ | ⟨x, rfl, e1, e2⟩ | ⟨v, ty, rfl, e1, e2, e3, e4⟩
        · exact W.vret B.exec B.bytes (hrt.trans e1) hq hf e2 hlk
        · exact W.zret B.exec B.bytes (hrt.trans e1) e2 hq hf e3 hlk
        · exact W.lret B.exec B.bytes (hrt.trans e1) hq hf e2 hlk
        · exact W.fret B.exec B.bytes (hrt.trans e1) hq hf e2 hlk
        · exact W.dret B.exec B.bytes (hrt.trans e1) hq hf e2 hlk
        · exact W.aret B.exec B.bytes (hrt.trans e1) e2 e3 hq hf e4 hlk
      have g := x_loop_ok t3 ih hC 1000000 0 _ [] w 0 0 h4
      have hl := lv_entry vs (n := M.2.2.1) (by rw [x_ini_len hV]; exact hlen)
      rw [lg_entry_eq]
      refine g.2.2 ws s.heap [] _ (lv_args 0 vs) [] hW (List.prefix_refl _) va_S.rf hl (x_pad_RL hV) trivial
    by_cases hh0 : M.2.2.2.2 = []
    · simp only [Bool.and_eq_true] at t2
      refine vx_ofWF (cc := M.2.1) (maxL := M.2.2.1) (ret := M.2.2.2.1) t2.1 (ws' := xTb) (by unfold x_ws x_hd; rw [if_pos hh0]) fun p e s m args below meth c s₁ B hml hno hpc => body p e s m args below meth c s₁ B hml ?_ hpc
      rw [hh0]
      cases hl : c.exceptionTable.toList with
      | nil => rfl
      | cons x t => exact False.elim (hno x (by rw [hl]; exact List.mem_cons_self))
    · have t4 : plainName M.1.cls = true := by
        simp only [Bool.and_eq_true, Bool.or_eq_true, List.isEmpty_iff] at t2
        rcases t2.2 with t5 | t5
        · exact absurd t5 hh0
        · exact t5
      have hw : x_ws M = Cond.codeWith M.1 M.2.1 M.2.2.1 M.2.2.2.1 M.2.2.2.2 :: xTb := by unfold x_ws x_hd; rw [if_neg hh0]
      refine vx_ofWH (cc := M.2.1) (maxL := M.2.2.1) (ret := M.2.2.2.1) (hh := M.2.2.2.2) t4 hw fun p e s m args below meth c s₁ B hml hpc => body p e s m args below meth c s₁ B hml (vx_table (x := M.1) B (atoms_spec (ws := x_ws M) B.pre _ (by rw [hw]; exact List.mem_cons_self))) hpc
end XRUN
