/-! INSTRUCTIONS ON THE STACK ALONE -/
section XOPS
variable {ms : List xM} {Z : xD} {own nm : String} {cc : ByteArray} {nL : Nat} {rt : Option FieldType} {hh : List (Nat × Nat × Nat × Nat)} {pc : Nat}
theorem x_lift {o : xO} (hstep : ∀ (fn : xF) (cont : xK) (ls st : List xV) (w : xW) (k n : Nat) (r : xT), o fn cont ls st w k n = some r → ∃ pc' st', cont pc' ls st' w k n = some r ∧ ∀ (E : xE) (al : List Nat) (vst : List Value), x_FOK E Z.2.2.2.2.2.2 → x_RS E al st vst → ∃ vst', x_RS E al st' vst' ∧
    ∀ (p : Program) (l : Launch) (e : Env) (R : Room) (s : State) (m : MethodId) (args : Array Value) (below : List Frame) (meth : Method) (c : Code) (H : Heap) (locs : List Loc) (k n : Nat) (Q : State → Prop) (als : Array Slot), p.tables.exec = Jvm.exec → c.code = cc → s.vm.findClass own = some m.cls → (∀ w ∈ xTb, w.before args s = true) → W p l e R s m args below meth c H locs k n Q (F0 m pc' als vst') → W p l e R s m args below meth c H locs k n Q (F0 m pc als vst)) : x_Ok ms Z own nm cc nL rt hh pc o := by
  intro d fn hfn E al0 r p l e R s m args below meth c Q hC cont ih ls st w k n h
  obtain ⟨pc', st', h1, h2⟩ := hstep fn cont ls st w k n r h
  have g := ih _ _ _ _ _ _ h1
  obtain ⟨hx, hb, -, ho, hts, -, -, -, -, -, -, -, hF, -⟩ := hC
  refine ⟨g.1, g.2.1, fun ws H locs als lv vst hW hal hS hl hL hV => ?_⟩
  obtain ⟨vst', h3, h4⟩ := h2 E (x_al ws) vst hF hV
  exact h4 p l e R s m args below meth c H locs k n Q als hx hb ho hts (g.2.2 ws H locs als lv vst' hW hal hS hl hL h3)
/-- a constant -/
noncomputable def xo_push (v : xV) (nx : Nat) : xO := fun _ c ls st w k n => c nx ls (v :: st) w k n
theorem xs_iconst {a : Int} {z : Nat} (hd : decode cc pc = .ok (.iconst a, 1)) (hv : Int32.ofInt a = nI z) : x_Ok ms Z own nm cc nL rt hh pc (xo_push (2, z) (pc + 1)) :=
  x_lift fun fn cont ls st w k n r h => ⟨_, _, h, fun E al vst hF hV => ⟨.int (nI z) :: vst, ⟨rfl, hV⟩, fun p l e R s m args below meth c H locs k n Q als hx hb ho hts kk => lv_iconst hx hb hd hv kk⟩⟩
theorem xs_bipush {a : Int} {z : Nat} (hd : decode cc pc = .ok (.bipush a, 2)) (hv : (Int8.ofInt a).toInt32 = nI z) : x_Ok ms Z own nm cc nL rt hh pc (xo_push (2, z) (pc + 2)) :=
  x_lift fun fn cont ls st w k n r h => ⟨_, _, h, fun E al vst hF hV => ⟨.int (nI z) :: vst, ⟨rfl, hV⟩, fun p l e R s m args below meth c H locs k n Q als hx hb ho hts kk => lv_bipush hx hb hd hv kk⟩⟩
theorem xs_sipush {a : Int} {z : Nat} (hd : decode cc pc = .ok (.sipush a, 3)) (hv : (Int16.ofInt a).toInt32 = nI z) : x_Ok ms Z own nm cc nL rt hh pc (xo_push (2, z) (pc + 3)) :=
  x_lift fun fn cont ls st w k n r h => ⟨_, _, h, fun E al vst hF hV => ⟨.int (nI z) :: vst, ⟨rfl, hV⟩, fun p l e R s m args below meth c H locs k n Q als hx hb ho hts kk => lv_sipush hx hb hd hv kk⟩⟩
theorem xs_lconst {a : Fin 2} {z : Nat} (hd : decode cc pc = .ok (.lconst a, 1)) (hv : Int64.ofNat (a : Nat) = lN z) : x_Ok ms Z own nm cc nL rt hh pc (xo_push (3, z) (pc + 1)) :=
  x_lift fun fn cont ls st w k n r h => ⟨_, _, h, fun E al vst hF hV => ⟨.long (lN z) :: vst, ⟨rfl, hV⟩, fun p l e R s m args below meth c H locs k n Q als hx hb ho hts kk => lv_lconst hx hb hd hv kk⟩⟩
theorem xs_null (hd : decode cc pc = .ok (.aconst_null, 1)) : x_Ok ms Z own nm cc nL rt hh pc (xo_push (0, 0) (pc + 1)) :=
  x_lift fun fn cont ls st w k n r h => ⟨_, _, h, fun E al vst hF hV => ⟨.null :: vst, ⟨rfl, hV⟩, fun p l e R s m args below meth c H locs k n Q als hx hb ho hts kk => lv_null hx hb hd kk⟩⟩
theorem xs_fconst (hd : decode cc pc = .ok (.fconst 0, 1)) : x_Ok ms Z own nm cc nL rt hh pc (xo_push (6, 0) (pc + 1)) :=
  x_lift fun fn cont ls st w k n r h => ⟨_, _, h, fun E al vst hF hV => ⟨.float FP.fconst0 :: vst, ⟨rfl, hV⟩, fun p l e R s m args below meth c H locs k n Q als hx hb ho hts kk => lv_fconst0 hx hb hd kk⟩⟩
theorem xs_dconst (hd : decode cc pc = .ok (.dconst 0, 1)) : x_Ok ms Z own nm cc nL rt hh pc (xo_push (7, 0) (pc + 1)) :=
  x_lift fun fn cont ls st w k n r h => ⟨_, _, h, fun E al vst hF hV => ⟨.double FP.dconst0 :: vst, ⟨rfl, hV⟩, fun p l e R s m args below meth c H locs k n Q als hx hb ho hts kk => lv_dconst0 hx hb hd kk⟩⟩
theorem xs_ldc2 {i z : Nat} {v : Int64} (hw : Cond.constantLong own i v ∈ xTb) (hv : v = lN z) (hd : decode cc pc = .ok (.ldc2_w i, 3)) : x_Ok ms Z own nm cc nL rt hh pc (xo_push (3, z) (pc + 3)) :=
  x_lift fun fn cont ls st w k n r h => ⟨_, _, h, fun E al vst hF hV => ⟨.long (lN z) :: vst, ⟨rfl, hV⟩, fun p l e R s m args below meth c H locs k n Q als hx hb ho hts kk => lv_ldc2 hx hb ho (hts _ hw) hd (by rw [hv]; exact kk)⟩⟩
/-- what is known of two ints, some of them named -/
noncomputable def x_fl {β : Type} (P : xP) (o : Nat) (x y : xV) (kk : xV → Option β) : Option β := List.rec (motive := fun _ => Option β) none (fun q _ ih => match q with
  | ((o2, x2, y2), v) => match Nat.beq o o2 && (Nat.beq x.1 x2.1 && Nat.beq x.2 x2.2) && (Nat.beq y.1 y2.1 && Nat.beq y.2 y2.2) with
    | true => kk v
    | false => ih) P
theorem x_fl_some {β : Type} {P : xP} {o : Nat} {x y : xV} {kk : xV → Option β} {r : β} (h : x_fl P o x y kk = some r) : ∃ v, ((o, x, y), v) ∈ P ∧ kk v = some r := by
  induction P with
  | nil => cases h
  | cons q t ih =>
    obtain ⟨⟨o2, x2, y2⟩, v⟩ := q
    have h' : (match Nat.beq o o2 && (Nat.beq x.1 x2.1 && Nat.beq x.2 x2.2) && (Nat.beq y.1 y2.1 && Nat.beq y.2 y2.2) with
      | true => kk v
      | false => x_fl t o x y kk) = some r := h
    cases hb : Nat.beq o o2 && (Nat.beq x.1 x2.1 && Nat.beq x.2 x2.2) && (Nat.beq y.1 y2.1 && Nat.beq y.2 y2.2) with
    | false =>
      rw [hb] at h'
      obtain ⟨v2, h1, h2⟩ := ih h'
      exact ⟨v2, List.mem_cons_of_mem _ h1, h2⟩
    | true =>
      rw [hb] at h'
      simp only [Bool.and_eq_true] at hb
      obtain ⟨⟨h1, h2, h3⟩, h4, h5⟩ := hb
      have e1 := Nat.eq_of_beq_eq_true h1
      have e2 : x = x2 := Prod.ext (Nat.eq_of_beq_eq_true h2) (Nat.eq_of_beq_eq_true h3)
      have e3 : y = y2 := Prod.ext (Nat.eq_of_beq_eq_true h4) (Nat.eq_of_beq_eq_true h5)
      subst e1; subst e2; subst e3
      exact ⟨v, List.mem_cons_self, h'⟩
theorem x_ri_of {E : xE} {al : List Nat} {v : xV} {V : Value} (hi : x_isI v = true) (h : x_rv E al v V) : V = .int (x_ri E.2.2.2.1 v) := by
  obtain ⟨t, n⟩ := v
  simp only [x_isI, Bool.or_eq_true] at hi
  rcases hi with hi | hi
  · have e : t = 2 := Nat.eq_of_beq_eq_true hi
    subst e
    exact h
  · have e : t = 4 := Nat.eq_of_beq_eq_true hi
    subst e
    exact h
theorem x_rv_ri {E : xE} {al : List Nat} {v : xV} (hi : x_isI v = true) : x_rv E al v (.int (x_ri E.2.2.2.1 v)) := by
  obtain ⟨t, n⟩ := v
  simp only [x_isI, Bool.or_eq_true] at hi
  rcases hi with hi | hi
  · have e : t = 2 := Nat.eq_of_beq_eq_true hi
    subst e
    exact rfl
  · have e : t = 4 := Nat.eq_of_beq_eq_true hi
    subst e
    exact rfl
/-- two ints' result -/
noncomputable def x_ii {β : Type} (P : xP) (o : Nat) (f : Int32 → Int32 → Int32) (x y : xV) (kk : xV → Option β) : Option β := match Nat.beq x.1 2 && Nat.beq y.1 2 with
  | true => x_fn (f (nI x.2) (nI y.2)).toUInt32.toNat fun z => kk (2, z)
  | false => x_fl P o x y kk
theorem x_ii_some {β : Type} {P : xP} {o : Nat} {f : Int32 → Int32 → Int32} {x y : xV} {kk : xV → Option β} {r : β} (hsub : ∀ q ∈ P, q ∈ Z.2.2.2.2.2.2) (ho : P = [] ∨ x_fop o = f) (h : x_ii P o f x y kk = some r) : ∃ z, kk z = some r ∧ ∀ (E : xE) (al : List Nat) (X Y : Value), x_FOK E Z.2.2.2.2.2.2 → x_rv E al x X → x_rv E al y Y → ∃ a b : Int32, X = .int a ∧ Y = .int b ∧ x_rv E al z (.int (f a b)) := by
  unfold x_ii at h
  cases hb : Nat.beq x.1 2 && Nat.beq y.1 2 with
  | true =>
    rw [hb] at h
    simp only [Bool.and_eq_true] at hb
    obtain ⟨tx, a⟩ := x
    obtain ⟨ty, b⟩ := y
    have e1 := Nat.eq_of_beq_eq_true hb.1
    have e2 := Nat.eq_of_beq_eq_true hb.2
    dsimp only at e1 e2
    subst e1; subst e2
    dsimp only at h
    rw [x_fn_eq] at h
    refine ⟨_, h, fun E al X Y hF hX hY => ⟨nI a, nI b, hX, hY, ?_⟩⟩
    show Value.int (f (nI a) (nI b)) = .int (nI _)
    rw [x_nI]
  | false =>
    rw [hb] at h
    obtain ⟨v, h1, h2⟩ := x_fl_some h
    refine ⟨v, h2, fun E al X Y hF hX hY => ?_⟩
    obtain ⟨g1, g2, g3, g4⟩ := hF _ (hsub _ h1)
    rcases ho with ho | ho
    · subst ho
      cases h1
    refine ⟨_, _, x_ri_of g1 hX, x_ri_of g2 hY, ?_⟩
    rw [← ho, g4]
    exact x_rv_ri g3
/-- two ints' test -/
noncomputable def x_ib {β : Type} (P : xP) (o : Nat) (f : Int32 → Int32 → Bool) (x y : xV) (kk : Bool → Option β) : Option β := match Nat.beq x.1 2 && Nat.beq y.1 2 with
  | true => kk (f (nI x.2) (nI y.2))
  | false => x_fl P o x y fun v => match v with
    | (2, 0) => kk false
    | (2, 1) => kk true
    | _ => none
theorem x_ib_some {β : Type} {P : xP} {o : Nat} {f : Int32 → Int32 → Bool} {x y : xV} {kk : Bool → Option β} {r : β} (hsub : ∀ q ∈ P, q ∈ Z.2.2.2.2.2.2) (ho : P = [] ∨ x_fop o = fun a b => cond (f a b) 1 0) (h : x_ib P o f x y kk = some r) : ∃ z, kk z = some r ∧ ∀ (E : xE) (al : List Nat) (X Y : Value), x_FOK E Z.2.2.2.2.2.2 → x_rv E al x X → x_rv E al y Y → ∃ a b : Int32, X = .int a ∧ Y = .int b ∧ z = f a b := by
  unfold x_ib at h
  cases hb : Nat.beq x.1 2 && Nat.beq y.1 2 with
  | true =>
    rw [hb] at h
    simp only [Bool.and_eq_true] at hb
    obtain ⟨tx, a⟩ := x
    obtain ⟨ty, b⟩ := y
    have e1 := Nat.eq_of_beq_eq_true hb.1
    have e2 := Nat.eq_of_beq_eq_true hb.2
    dsimp only at e1 e2
    subst e1; subst e2
    exact ⟨_, h, fun E al X Y hF hX hY => ⟨nI a, nI b, hX, hY, rfl⟩⟩
  | false =>
    rw [hb] at h
    obtain ⟨v, h1, h2⟩ := x_fl_some h
    have key : ∀ (E : xE) (al : List Nat) (X Y : Value), x_FOK E Z.2.2.2.2.2.2 → x_rv E al x X → x_rv E al y Y → ∃ a b : Int32, X = .int a ∧ Y = .int b ∧ cond (f a b) (1 : Int32) 0 = x_ri E.2.2.2.1 v := by
      intro E al X Y hF hX hY
      obtain ⟨g1, g2, g3, g4⟩ := hF _ (hsub _ h1)
      rcases ho with ho | ho
      · subst ho
        cases h1
      refine ⟨_, _, x_ri_of g1 hX, x_ri_of g2 hY, ?_⟩
      rw [← g4, ho]
    split at h2
    · refine ⟨false, h2, fun E al X Y hF hX hY => ?_⟩
      obtain ⟨a, b, h3, h4, h5⟩ := key E al X Y hF hX hY
      refine ⟨a, b, h3, h4, ?_⟩
      cases hf : f a b with
      | false => rfl
      | true => rw [hf] at h5; exact absurd h5 (by show ¬ ((1 : Int32) = nI 0); decide)
    · refine ⟨true, h2, fun E al X Y hF hX hY => ?_⟩
      obtain ⟨a, b, h3, h4, h5⟩ := key E al X Y hF hX hY
      refine ⟨a, b, h3, h4, ?_⟩
      cases hf : f a b with
      | true => rfl
      | false => rw [hf] at h5; exact absurd h5 (by show ¬ ((0 : Int32) = nI 1); decide)
    · cases h2
/-- an operation on two ints -/
noncomputable def xo_i2 (P : xP) (o : Nat) (f : Int32 → Int32 → Int32) (nx : Nat) : xO := fun _ c ls st w k n => x_pop st fun y t => x_pop t fun x t => x_ii P o f x y fun z => c nx ls (z :: t) w k n
theorem xs_i2 {P : xP} {o : Nat} {f : Int32 → Int32 → Int32} (hsub : ∀ q ∈ P, q ∈ Z.2.2.2.2.2.2) (ho : P = [] ∨ x_fop o = f) (row : ∀ (p : Program) (l : Launch) (e : Env) (R : Room) (s : State) (m : MethodId) (args : Array Value) (below : List Frame) (meth : Method) (c : Code) (H : Heap) (locs : List Loc) (k n : Nat) (Q : State → Prop) (als : Array Slot) (x y : Int32) (rest : List Value), p.tables.exec = Jvm.exec → c.code = cc → W p l e R s m args below meth c H locs k n Q (F0 m (pc + 1) als (.int (f x y) :: rest)) → W p l e R s m args below meth c H locs k n Q (F0 m pc als (.int y :: .int x :: rest))) : x_Ok ms Z own nm cc nL rt hh pc (xo_i2 P o f (pc + 1)) :=
  x_lift fun fn cont ls st w k n r h => by
    replace h := x_pop_some h
    obtain ⟨y, t, rfl, h⟩ := h
    replace h := x_pop_some h
    obtain ⟨x, t, rfl, h⟩ := h
    obtain ⟨z, h1, h2⟩ := x_ii_some (Z := Z) hsub ho h
    refine ⟨_, _, h1, fun E al vst hF hV => ?_⟩
    replace hV := hV.cons
    obtain ⟨Y, vst, rfl, hY, hV⟩ := hV
    replace hV := hV.cons
    obtain ⟨X, vst, rfl, hX, hV⟩ := hV
    obtain ⟨a, b, rfl, rfl, h3⟩ := h2 E al X Y hF hX hY
    exact ⟨.int (f a b) :: vst, ⟨h3, hV⟩, fun p l e R s m args below meth c H locs k n Q als hx hb ho hts kk => row p l e R s m args below meth c H locs k n Q als a b vst hx hb kk⟩
theorem xs_iadd (hd : decode cc pc = .ok (.iadd, 1)) : x_Ok ms Z own nm cc nL rt hh pc (xo_i2 [] 99 (· + ·) (pc + 1)) := xs_i2 (fun q h => nomatch h) (Or.inl rfl) fun p l e R s m args below meth c H locs k n Q als x y rest hx hb kk => lv_iadd hx hb hd kk
theorem xs_isub (hd : decode cc pc = .ok (.isub, 1)) : x_Ok ms Z own nm cc nL rt hh pc (xo_i2 [] 99 (· - ·) (pc + 1)) := xs_i2 (fun q h => nomatch h) (Or.inl rfl) fun p l e R s m args below meth c H locs k n Q als x y rest hx hb kk => lv_isub hx hb hd kk
theorem xs_imul (hd : decode cc pc = .ok (.imul, 1)) : x_Ok ms Z own nm cc nL rt hh pc (xo_i2 [] 99 (· * ·) (pc + 1)) := xs_i2 (fun q h => nomatch h) (Or.inl rfl) fun p l e R s m args below meth c H locs k n Q als x y rest hx hb kk => lv_imul hx hb hd kk
theorem xs_iand {P : xP} (hsub : ∀ q ∈ P, q ∈ Z.2.2.2.2.2.2) (hd : decode cc pc = .ok (.iand, 1)) : x_Ok ms Z own nm cc nL rt hh pc (xo_i2 P 0 (· &&& ·) (pc + 1)) := xs_i2 hsub (Or.inr rfl) fun p l e R s m args below meth c H locs k n Q als x y rest hx hb kk => lv_iand hx hb hd kk
theorem xs_ishr (hd : decode cc pc = .ok (.ishr, 1)) : x_Ok ms Z own nm cc nL rt hh pc (xo_i2 [] 99 (fun x y => x >>> (y &&& 31)) (pc + 1)) := xs_i2 (fun q h => nomatch h) (Or.inl rfl) fun p l e R s m args below meth c H locs k n Q als x y rest hx hb kk => lv_ishr hx hb hd kk
theorem xs_iushr (hd : decode cc pc = .ok (.iushr, 1)) : x_Ok ms Z own nm cc nL rt hh pc (xo_i2 [] 99 (fun x y => (x.toUInt32 >>> (y.toUInt32 &&& Int32.toUInt32 31)).toInt32) (pc + 1)) := xs_i2 (fun q h => nomatch h) (Or.inl rfl) fun p l e R s m args below meth c H locs k n Q als x y rest hx hb kk => lv_iushr hx hb hd rfl kk
/-- division: the divisor isn't 0 -/
noncomputable def xo_idiv (nx : Nat) : xO := fun _ c ls st w k n => x_pop st fun y t => x_pop t fun x t => x_tag 2 y fun b => x_tag 2 x fun a => x_if (!decide (nI b = 0)) (x_fn (nI a / nI b).toUInt32.toNat fun z => c nx ls ((2, z) :: t) w k n)
theorem xs_idiv (hd : decode cc pc = .ok (.idiv, 1)) : x_Ok ms Z own nm cc nL rt hh pc (xo_idiv (pc + 1)) :=
  x_lift fun fn cont ls st w k n r h => by
    replace h := x_pop_some h
    obtain ⟨y, t, rfl, h⟩ := h
    replace h := x_pop_some h
    obtain ⟨x, t, rfl, h⟩ := h
    replace h := x_tag_some h
    obtain ⟨b, rfl, h⟩ := h
    replace h := x_tag_some h
    obtain ⟨a, rfl, h⟩ := h
    replace h := x_if_some h
    obtain ⟨h0, h⟩ := h
    rw [x_fn_eq] at h
    refine ⟨_, _, h, fun E al vst hF hV => ?_⟩
    replace hV := hV.cons
    obtain ⟨Y, vst, rfl, hY, hV⟩ := hV
    replace hV := hV.cons
    obtain ⟨X, vst, rfl, hX, hV⟩ := hV
    cases hX
    cases hY
    refine ⟨.int (nI a / nI b) :: vst, ⟨by show Value.int _ = .int (nI _); rw [x_nI], hV⟩, fun p l e R s m args below meth c H locs k n Q als hx hb ho hts kk => lv_idiv hx hb hd (by simpa using h0) kk⟩
/-- an operation on one int -/
noncomputable def xo_i1 (P : xP) (o : Nat) (f : Int32 → Int32) (nx : Nat) : xO := fun _ c ls st w k n => x_pop st fun x t => x_ii P o (fun a _ => f a) x (2, 0) fun z => c nx ls (z :: t) w k n
theorem xs_i1 {P : xP} {o : Nat} {f : Int32 → Int32} (hsub : ∀ q ∈ P, q ∈ Z.2.2.2.2.2.2) (ho : P = [] ∨ x_fop o = fun a _ => f a) (row : ∀ (p : Program) (l : Launch) (e : Env) (R : Room) (s : State) (m : MethodId) (args : Array Value) (below : List Frame) (meth : Method) (c : Code) (H : Heap) (locs : List Loc) (k n : Nat) (Q : State → Prop) (als : Array Slot) (x : Int32) (rest : List Value), p.tables.exec = Jvm.exec → c.code = cc → W p l e R s m args below meth c H locs k n Q (F0 m (pc + 1) als (.int (f x) :: rest)) → W p l e R s m args below meth c H locs k n Q (F0 m pc als (.int x :: rest))) : x_Ok ms Z own nm cc nL rt hh pc (xo_i1 P o f (pc + 1)) :=
  x_lift fun fn cont ls st w k n r h => by
    replace h := x_pop_some h
    obtain ⟨x, t, rfl, h⟩ := h
    obtain ⟨z, h1, h2⟩ := x_ii_some (Z := Z) hsub ho h
    refine ⟨_, _, h1, fun E al vst hF hV => ?_⟩
    replace hV := hV.cons
    obtain ⟨X, vst, rfl, hX, hV⟩ := hV
    obtain ⟨a, b, rfl, -, h3⟩ := h2 E al X (.int 0) hF hX rfl
    exact ⟨.int (f a) :: vst, ⟨h3, hV⟩, fun p l e R s m args below meth c H locs k n Q als hx hb ho hts kk => row p l e R s m args below meth c H locs k n Q als a vst hx hb kk⟩
theorem xs_ineg (hd : decode cc pc = .ok (.ineg, 1)) : x_Ok ms Z own nm cc nL rt hh pc (xo_i1 [] 99 (fun x => -x) (pc + 1)) := xs_i1 (fun q h => nomatch h) (Or.inl rfl) fun p l e R s m args below meth c H locs k n Q als x rest hx hb kk => lv_ineg hx hb hd kk
theorem xs_i2c {P : xP} (hsub : ∀ q ∈ P, q ∈ Z.2.2.2.2.2.2) (hd : decode cc pc = .ok (.i2c, 1)) : x_Ok ms Z own nm cc nL rt hh pc (xo_i1 P 1 (fun x => (x.toUInt32 % 65536).toInt32) (pc + 1)) := xs_i1 hsub (Or.inr rfl) fun p l e R s m args below meth c H locs k n Q als x rest hx hb kk => lv_i2c hx hb hd rfl kk
/-- an operation on two longs -/
noncomputable def xo_l2 (f : Int64 → Int64 → Int64) (nx : Nat) : xO := fun _ c ls st w k n => x_pop st fun y t => x_pop t fun x t => x_tag 3 y fun b => x_tag 3 x fun a => x_fn (f (lN a) (lN b)).toUInt64.toNat fun z => c nx ls ((3, z) :: t) w k n
theorem xs_l2 {f : Int64 → Int64 → Int64} (row : ∀ (p : Program) (l : Launch) (e : Env) (R : Room) (s : State) (m : MethodId) (args : Array Value) (below : List Frame) (meth : Method) (c : Code) (H : Heap) (locs : List Loc) (k n : Nat) (Q : State → Prop) (als : Array Slot) (x y : Int64) (rest : List Value), p.tables.exec = Jvm.exec → c.code = cc → W p l e R s m args below meth c H locs k n Q (F0 m (pc + 1) als (.long (f x y) :: rest)) → W p l e R s m args below meth c H locs k n Q (F0 m pc als (.long y :: .long x :: rest))) : x_Ok ms Z own nm cc nL rt hh pc (xo_l2 f (pc + 1)) :=
  x_lift fun fn cont ls st w k n r h => by
    replace h := x_pop_some h
    obtain ⟨y, t, rfl, h⟩ := h
    replace h := x_pop_some h
    obtain ⟨x, t, rfl, h⟩ := h
    replace h := x_tag_some h
    obtain ⟨b, rfl, h⟩ := h
    replace h := x_tag_some h
    obtain ⟨a, rfl, h⟩ := h
    rw [x_fn_eq] at h
    refine ⟨_, _, h, fun E al vst hF hV => ?_⟩
    replace hV := hV.cons
    obtain ⟨Y, vst, rfl, hY, hV⟩ := hV
    replace hV := hV.cons
    obtain ⟨X, vst, rfl, hX, hV⟩ := hV
    cases hX
    cases hY
    exact ⟨.long (f (lN a) (lN b)) :: vst, ⟨by show Value.long _ = .long (lN _); rw [x_lN], hV⟩, fun p l e R s m args below meth c H locs k n Q als hx hb ho hts kk => row p l e R s m args below meth c H locs k n Q als (lN a) (lN b) vst hx hb kk⟩
theorem xs_ladd (hd : decode cc pc = .ok (.ladd, 1)) : x_Ok ms Z own nm cc nL rt hh pc (xo_l2 (· + ·) (pc + 1)) := xs_l2 fun p l e R s m args below meth c H locs k n Q als x y rest hx hb kk => lv_ladd hx hb hd kk
theorem xs_lmul (hd : decode cc pc = .ok (.lmul, 1)) : x_Ok ms Z own nm cc nL rt hh pc (xo_l2 (· * ·) (pc + 1)) := xs_l2 fun p l e R s m args below meth c H locs k n Q als x y rest hx hb kk => lv_lmul hx hb hd kk
theorem xs_land (hd : decode cc pc = .ok (.land, 1)) : x_Ok ms Z own nm cc nL rt hh pc (xo_l2 (· &&& ·) (pc + 1)) := xs_l2 fun p l e R s m args below meth c H locs k n Q als x y rest hx hb kk => lv_land hx hb hd kk
noncomputable def xo_ldiv (nx : Nat) : xO := fun _ c ls st w k n => x_pop st fun y t => x_pop t fun x t => x_tag 3 y fun b => x_tag 3 x fun a => x_if (!decide (lN b = 0)) (x_fn (lN a / lN b).toUInt64.toNat fun z => c nx ls ((3, z) :: t) w k n)
theorem xs_ldiv (hd : decode cc pc = .ok (.ldiv, 1)) : x_Ok ms Z own nm cc nL rt hh pc (xo_ldiv (pc + 1)) :=
  x_lift fun fn cont ls st w k n r h => by
    replace h := x_pop_some h
    obtain ⟨y, t, rfl, h⟩ := h
    replace h := x_pop_some h
    obtain ⟨x, t, rfl, h⟩ := h
    replace h := x_tag_some h
    obtain ⟨b, rfl, h⟩ := h
    replace h := x_tag_some h
    obtain ⟨a, rfl, h⟩ := h
    replace h := x_if_some h
    obtain ⟨h0, h⟩ := h
    rw [x_fn_eq] at h
    refine ⟨_, _, h, fun E al vst hF hV => ?_⟩
    replace hV := hV.cons
    obtain ⟨Y, vst, rfl, hY, hV⟩ := hV
    replace hV := hV.cons
    obtain ⟨X, vst, rfl, hX, hV⟩ := hV
    cases hX
    cases hY
    exact ⟨.long (lN a / lN b) :: vst, ⟨by show Value.long _ = .long (lN _); rw [x_lN], hV⟩, fun p l e R s m args below meth c H locs k n Q als hx hb ho hts kk => lv_ldiv hx hb hd (by simpa using h0) kk⟩
noncomputable def xo_lcmp (nx : Nat) : xO := fun _ c ls st w k n => x_pop st fun y t => x_pop t fun x t => x_tag 3 y fun b => x_tag 3 x fun a => x_fn (lg_cmp (lN a) (lN b)).toUInt32.toNat fun z => c nx ls ((2, z) :: t) w k n
theorem xs_lcmp (hd : decode cc pc = .ok (.lcmp, 1)) : x_Ok ms Z own nm cc nL rt hh pc (xo_lcmp (pc + 1)) :=
  x_lift fun fn cont ls st w k n r h => by
    replace h := x_pop_some h
    obtain ⟨y, t, rfl, h⟩ := h
    replace h := x_pop_some h
    obtain ⟨x, t, rfl, h⟩ := h
    replace h := x_tag_some h
    obtain ⟨b, rfl, h⟩ := h
    replace h := x_tag_some h
    obtain ⟨a, rfl, h⟩ := h
    rw [x_fn_eq] at h
    refine ⟨_, _, h, fun E al vst hF hV => ?_⟩
    replace hV := hV.cons
    obtain ⟨Y, vst, rfl, hY, hV⟩ := hV
    replace hV := hV.cons
    obtain ⟨X, vst, rfl, hX, hV⟩ := hV
    cases hX
    cases hY
    exact ⟨.int (lg_cmp (lN a) (lN b)) :: vst, ⟨by show Value.int _ = .int (nI _); rw [x_nI], hV⟩, fun p l e R s m args below meth c H locs k n Q als hx hb ho hts kk => W.lcmp hx hb hd kk⟩
noncomputable def xo_i2l (nx : Nat) : xO := fun _ c ls st w k n => x_pop st fun x t => x_tag 2 x fun a => x_fn (nI a).toInt64.toUInt64.toNat fun z => c nx ls ((3, z) :: t) w k n
theorem xs_i2l (hd : decode cc pc = .ok (.i2l, 1)) : x_Ok ms Z own nm cc nL rt hh pc (xo_i2l (pc + 1)) :=
  x_lift fun fn cont ls st w k n r h => by
    replace h := x_pop_some h
    obtain ⟨x, t, rfl, h⟩ := h
    replace h := x_tag_some h
    obtain ⟨a, rfl, h⟩ := h
    rw [x_fn_eq] at h
    refine ⟨_, _, h, fun E al vst hF hV => ?_⟩
    replace hV := hV.cons
    obtain ⟨X, vst, rfl, hX, hV⟩ := hV
    cases hX
    exact ⟨.long (nI a).toInt64 :: vst, ⟨by show Value.long _ = .long (lN _); rw [x_lN], hV⟩, fun p l e R s m args below meth c H locs k n Q als hx hb ho hts kk => lv_i2l hx hb hd rfl kk⟩
/-- branches -/
noncomputable def xo_go (tg : Nat) : xO := fun _ c ls st w k n => c tg ls st w k n
theorem xs_goto {off : Int} {tg : Nat} (hd : decode cc pc = .ok (.goto off, 3)) (ht : (pc : Int) + off = (tg : Int)) : x_Ok ms Z own nm cc nL rt hh pc (xo_go tg) :=
  x_lift fun fn cont ls st w k n r h => ⟨_, _, h, fun E al vst hF hV => ⟨vst, hV, fun p l e R s m args below meth c H locs k n Q als hx hb ho hts kk => lv_goto hx hb hd ht kk⟩⟩
def x_br {β : Type} (b : Bool) (x y : β) : β := match b with
  | true => x
  | false => y
noncomputable def xo_ic (P : xP) (o : Nat) (f : Int32 → Int32 → Bool) (tg nx : Nat) : xO := fun _ c ls st w k n => x_pop st fun y t => x_pop t fun x t => x_ib P o f x y fun b => x_br b (c tg ls t w k n) (c nx ls t w k n)
theorem xs_ic {P : xP} {o : Nat} {f : Int32 → Int32 → Bool} {tg : Nat} (hsub : ∀ q ∈ P, q ∈ Z.2.2.2.2.2.2) (ho : P = [] ∨ x_fop o = fun a b => cond (f a b) 1 0) (row : ∀ (p : Program) (l : Launch) (e : Env) (R : Room) (s : State) (m : MethodId) (args : Array Value) (below : List Frame) (meth : Method) (c : Code) (H : Heap) (locs : List Loc) (k n : Nat) (Q : State → Prop) (als : Array Slot) (x y : Int32) (rest : List Value), p.tables.exec = Jvm.exec → c.code = cc → (f x y = true → W p l e R s m args below meth c H locs k n Q (F0 m tg als rest)) → (f x y = false → W p l e R s m args below meth c H locs k n Q (F0 m (pc + 3) als rest)) → W p l e R s m args below meth c H locs k n Q (F0 m pc als (.int y :: .int x :: rest))) : x_Ok ms Z own nm cc nL rt hh pc (xo_ic P o f tg (pc + 3)) :=
  x_lift fun fn cont ls st w k n r h => by
    replace h := x_pop_some h
    obtain ⟨y, t, rfl, h⟩ := h
    replace h := x_pop_some h
    obtain ⟨x, t, rfl, h⟩ := h
    obtain ⟨z, h1, h2⟩ := x_ib_some (Z := Z) hsub ho h
    cases z with
    | true =>
      refine ⟨tg, t, h1, fun E al vst hF hV => ?_⟩
      replace hV := hV.cons
      obtain ⟨Y, vst, rfl, hY, hV⟩ := hV
      replace hV := hV.cons
      obtain ⟨X, vst, rfl, hX, hV⟩ := hV
      obtain ⟨a, b, rfl, rfl, h3⟩ := h2 E al X Y hF hX hY
      exact ⟨vst, hV, fun p l e R s m args below meth c H locs k n Q als hx hb ho hts kk => row p l e R s m args below meth c H locs k n Q als a b vst hx hb (fun _ => kk) (fun q => by rw [← h3] at q; cases q)⟩
    | false =>
      refine ⟨pc + 3, t, h1, fun E al vst hF hV => ?_⟩
      replace hV := hV.cons
      obtain ⟨Y, vst, rfl, hY, hV⟩ := hV
      replace hV := hV.cons
      obtain ⟨X, vst, rfl, hX, hV⟩ := hV
      obtain ⟨a, b, rfl, rfl, h3⟩ := h2 E al X Y hF hX hY
      exact ⟨vst, hV, fun p l e R s m args below meth c H locs k n Q als hx hb ho hts kk => row p l e R s m args below meth c H locs k n Q als a b vst hx hb (fun q => by rw [← h3] at q; cases q) (fun _ => kk)⟩
def x_ceq (a b : Int32) : Bool := decide (a = b)
def x_cne (a b : Int32) : Bool := !decide (a = b)
def x_clt (a b : Int32) : Bool := decide (a < b)
def x_cge (a b : Int32) : Bool := decide (b ≤ a)
def x_cgt (a b : Int32) : Bool := decide (b < a)
def x_cle (a b : Int32) : Bool := decide (a ≤ b)
theorem xs_icmp_eq {P : xP} {off : Int} {tg : Nat} (hsub : ∀ q ∈ P, q ∈ Z.2.2.2.2.2.2) (hd : decode cc pc = .ok (.if_icmp .eq off, 3)) (ht : (pc : Int) + off = (tg : Int)) : x_Ok ms Z own nm cc nL rt hh pc (xo_ic P 2 x_ceq tg (pc + 3)) := xs_ic hsub (Or.inr rfl) fun p l e R s m args below meth c H locs k n Q als x y rest hx hb kt kf => lv_icmp_eq hx hb hd ht (fun q => kt (by simp [x_ceq, q])) (fun q => kf (by simp [x_ceq, q]))
theorem xs_icmp_ne {P : xP} {off : Int} {tg : Nat} (hsub : ∀ q ∈ P, q ∈ Z.2.2.2.2.2.2) (hd : decode cc pc = .ok (.if_icmp .ne off, 3)) (ht : (pc : Int) + off = (tg : Int)) : x_Ok ms Z own nm cc nL rt hh pc (xo_ic P 3 x_cne tg (pc + 3)) := xs_ic hsub (Or.inr rfl) fun p l e R s m args below meth c H locs k n Q als x y rest hx hb kt kf => lv_icmp_ne hx hb hd ht (fun q => kt (by simp [x_cne, q])) (fun q => kf (by simp [x_cne, q]))
theorem xs_icmp_lt {P : xP} {off : Int} {tg : Nat} (hsub : ∀ q ∈ P, q ∈ Z.2.2.2.2.2.2) (hd : decode cc pc = .ok (.if_icmp .lt off, 3)) (ht : (pc : Int) + off = (tg : Int)) : x_Ok ms Z own nm cc nL rt hh pc (xo_ic P 4 x_clt tg (pc + 3)) := xs_ic hsub (Or.inr rfl) fun p l e R s m args below meth c H locs k n Q als x y rest hx hb kt kf => lv_icmp_lt hx hb hd ht (fun q => kt (decide_eq_true q)) (fun q => kf (decide_eq_false q))
theorem xs_icmp_ge {P : xP} {off : Int} {tg : Nat} (hsub : ∀ q ∈ P, q ∈ Z.2.2.2.2.2.2) (hd : decode cc pc = .ok (.if_icmp .ge off, 3)) (ht : (pc : Int) + off = (tg : Int)) : x_Ok ms Z own nm cc nL rt hh pc (xo_ic P 5 x_cge tg (pc + 3)) := xs_ic hsub (Or.inr rfl) fun p l e R s m args below meth c H locs k n Q als x y rest hx hb kt kf => lv_icmp_ge hx hb hd ht (fun q => kt (decide_eq_true q)) (fun q => kf (decide_eq_false q))
theorem xs_icmp_gt {P : xP} {off : Int} {tg : Nat} (hsub : ∀ q ∈ P, q ∈ Z.2.2.2.2.2.2) (hd : decode cc pc = .ok (.if_icmp .gt off, 3)) (ht : (pc : Int) + off = (tg : Int)) : x_Ok ms Z own nm cc nL rt hh pc (xo_ic P 6 x_cgt tg (pc + 3)) := xs_ic hsub (Or.inr rfl) fun p l e R s m args below meth c H locs k n Q als x y rest hx hb kt kf => lv_icmp_gt hx hb hd ht (fun q => kt (decide_eq_true q)) (fun q => kf (decide_eq_false q))
theorem xs_icmp_le {P : xP} {off : Int} {tg : Nat} (hsub : ∀ q ∈ P, q ∈ Z.2.2.2.2.2.2) (hd : decode cc pc = .ok (.if_icmp .le off, 3)) (ht : (pc : Int) + off = (tg : Int)) : x_Ok ms Z own nm cc nL rt hh pc (xo_ic P 7 x_cle tg (pc + 3)) := xs_ic hsub (Or.inr rfl) fun p l e R s m args below meth c H locs k n Q als x y rest hx hb kt kf => lv_icmp_le hx hb hd ht (fun q => kt (decide_eq_true q)) (fun q => kf (decide_eq_false q))
end XOPS
