/-! BRANCHES ON ONE VALUE, SWITCHES, LOCALS -/
section XOPT
variable {ms : List xM} {Z : xD} {own nm : String} {cc : ByteArray} {nL : Nat} {rt : Option FieldType} {hh : List (Nat × Nat × Nat × Nat)} {pc : Nat}
noncomputable def xo_if (P : xP) (o : Nat) (f : Int32 → Int32 → Bool) (tg nx : Nat) : xO := fun _ c ls st w k n => x_pop st fun x t => x_ib P o f x (2, 0) fun b => x_br b (c tg ls t w k n) (c nx ls t w k n)
theorem xs_if {P : xP} {o : Nat} {f : Int32 → Int32 → Bool} {tg : Nat} (hsub : ∀ q ∈ P, q ∈ Z.2.2.2.2.2.2) (ho : P = [] ∨ x_fop o = fun a b => cond (f a b) 1 0) (row : ∀ (p : Program) (l : Launch) (e : Env) (R : Room) (s : State) (m : MethodId) (args : Array Value) (below : List Frame) (meth : Method) (c : Code) (H : Heap) (locs : List Loc) (k n : Nat) (Q : State → Prop) (als : Array Slot) (x : Int32) (rest : List Value), p.tables.exec = Jvm.exec → c.code = cc → (f x 0 = true → W p l e R s m args below meth c H locs k n Q (F0 m tg als rest)) → (f x 0 = false → W p l e R s m args below meth c H locs k n Q (F0 m (pc + 3) als rest)) → W p l e R s m args below meth c H locs k n Q (F0 m pc als (.int x :: rest))) : x_Ok ms Z own nm cc nL rt hh pc (xo_if P o f tg (pc + 3)) :=
  x_lift fun fn cont ls st w k n r h => by
    replace h := x_pop_some h
    obtain ⟨x, t, rfl, h⟩ := h
    obtain ⟨z, h1, h2⟩ := x_ib_some (Z := Z) hsub ho h
    cases z with
    | true =>
      refine ⟨tg, t, h1, fun E al vst hF hV => ?_⟩
      replace hV := hV.cons
      obtain ⟨X, vst, rfl, hX, hV⟩ := hV
      obtain ⟨a, b, rfl, hb0, h3⟩ := h2 E al X (.int 0) hF hX rfl
      cases hb0
      exact ⟨vst, hV, fun p l e R s m args below meth c H locs k n Q als hx hb ho hts kk => row p l e R s m args below meth c H locs k n Q als a vst hx hb (fun _ => kk) (fun q => by rw [← h3] at q; cases q)⟩
    | false =>
      refine ⟨pc + 3, t, h1, fun E al vst hF hV => ?_⟩
      replace hV := hV.cons
      obtain ⟨X, vst, rfl, hX, hV⟩ := hV
      obtain ⟨a, b, rfl, hb0, h3⟩ := h2 E al X (.int 0) hF hX rfl
      cases hb0
      exact ⟨vst, hV, fun p l e R s m args below meth c H locs k n Q als hx hb ho hts kk => row p l e R s m args below meth c H locs k n Q als a vst hx hb (fun q => by rw [← h3] at q; cases q) (fun _ => kk)⟩
theorem xs_if_eq {P : xP} {off : Int} {tg : Nat} (hsub : ∀ q ∈ P, q ∈ Z.2.2.2.2.2.2) (hd : decode cc pc = .ok (.ifCond .eq off, 3)) (ht : (pc : Int) + off = (tg : Int)) : x_Ok ms Z own nm cc nL rt hh pc (xo_if P 2 x_ceq tg (pc + 3)) := xs_if hsub (Or.inr rfl) fun p l e R s m args below meth c H locs k n Q als x rest hx hb kt kf => lv_if_eq hx hb hd ht (fun q => kt (by simp [x_ceq, q])) (fun q => kf (by simp [x_ceq, q]))
theorem xs_if_ne {P : xP} {off : Int} {tg : Nat} (hsub : ∀ q ∈ P, q ∈ Z.2.2.2.2.2.2) (hd : decode cc pc = .ok (.ifCond .ne off, 3)) (ht : (pc : Int) + off = (tg : Int)) : x_Ok ms Z own nm cc nL rt hh pc (xo_if P 3 x_cne tg (pc + 3)) := xs_if hsub (Or.inr rfl) fun p l e R s m args below meth c H locs k n Q als x rest hx hb kt kf => lv_if_ne hx hb hd ht (fun q => kt (by simp [x_cne, q])) (fun q => kf (by simp [x_cne, q]))
theorem xs_if_lt {P : xP} {off : Int} {tg : Nat} (hsub : ∀ q ∈ P, q ∈ Z.2.2.2.2.2.2) (hd : decode cc pc = .ok (.ifCond .lt off, 3)) (ht : (pc : Int) + off = (tg : Int)) : x_Ok ms Z own nm cc nL rt hh pc (xo_if P 4 x_clt tg (pc + 3)) := xs_if hsub (Or.inr rfl) fun p l e R s m args below meth c H locs k n Q als x rest hx hb kt kf => lv_if_lt hx hb hd ht (fun q => kt (decide_eq_true q)) (fun q => kf (decide_eq_false q))
theorem xs_if_ge {P : xP} {off : Int} {tg : Nat} (hsub : ∀ q ∈ P, q ∈ Z.2.2.2.2.2.2) (hd : decode cc pc = .ok (.ifCond .ge off, 3)) (ht : (pc : Int) + off = (tg : Int)) : x_Ok ms Z own nm cc nL rt hh pc (xo_if P 5 x_cge tg (pc + 3)) := xs_if hsub (Or.inr rfl) fun p l e R s m args below meth c H locs k n Q als x rest hx hb kt kf => lv_if_ge hx hb hd ht (fun q => kt (decide_eq_true q)) (fun q => kf (decide_eq_false q))
theorem xs_if_gt {P : xP} {off : Int} {tg : Nat} (hsub : ∀ q ∈ P, q ∈ Z.2.2.2.2.2.2) (hd : decode cc pc = .ok (.ifCond .gt off, 3)) (ht : (pc : Int) + off = (tg : Int)) : x_Ok ms Z own nm cc nL rt hh pc (xo_if P 6 x_cgt tg (pc + 3)) := xs_if hsub (Or.inr rfl) fun p l e R s m args below meth c H locs k n Q als x rest hx hb kt kf => lv_if_gt hx hb hd ht (fun q => kt (decide_eq_true q)) (fun q => kf (decide_eq_false q))
theorem xs_if_le {P : xP} {off : Int} {tg : Nat} (hsub : ∀ q ∈ P, q ∈ Z.2.2.2.2.2.2) (hd : decode cc pc = .ok (.ifCond .le off, 3)) (ht : (pc : Int) + off = (tg : Int)) : x_Ok ms Z own nm cc nL rt hh pc (xo_if P 7 x_cle tg (pc + 3)) := xs_if hsub (Or.inr rfl) fun p l e R s m args below meth c H locs k n Q als x rest hx hb kt kf => lv_if_le hx hb hd ht (fun q => kt (decide_eq_true q)) (fun q => kf (decide_eq_false q))
/-- a reference, not null -/
def x_isR (v : xV) : Bool := Nat.beq v.1 1 || (Nat.beq v.1 5 || Nat.beq v.1 8)
theorem x_isR_ref {E : xE} {al : List Nat} {v : xV} {V : Value} (hi : x_isR v = true) (h : x_rv E al v V) : ∃ a, V = .ref a := by
  obtain ⟨t, n⟩ := v
  simp only [x_isR, Bool.or_eq_true] at hi
  rcases hi with hi | hi | hi
  · have e : t = 1 := Nat.eq_of_beq_eq_true hi
    subst e
    obtain ⟨a, -, h⟩ := h
    exact ⟨a, h⟩
  · have e : t = 5 := Nat.eq_of_beq_eq_true hi
    subst e
    exact ⟨_, h⟩
  · have e : t = 8 := Nat.eq_of_beq_eq_true hi
    subst e
    exact h
noncomputable def xo_nul (tn tr : Nat) : xO := fun _ c ls st w k n => x_pop st fun x t => x_br (Nat.beq x.1 0) (c tn ls t w k n) (x_if (x_isR x) (c tr ls t w k n))
theorem xs_nul {tn tr : Nat} (row0 : ∀ (p : Program) (l : Launch) (e : Env) (R : Room) (s : State) (m : MethodId) (args : Array Value) (below : List Frame) (meth : Method) (c : Code) (H : Heap) (locs : List Loc) (k n : Nat) (Q : State → Prop) (als : Array Slot) (rest : List Value), p.tables.exec = Jvm.exec → c.code = cc → W p l e R s m args below meth c H locs k n Q (F0 m tn als rest) → W p l e R s m args below meth c H locs k n Q (F0 m pc als (.null :: rest)))
    (row1 : ∀ (p : Program) (l : Launch) (e : Env) (R : Room) (s : State) (m : MethodId) (args : Array Value) (below : List Frame) (meth : Method) (c : Code) (H : Heap) (locs : List Loc) (k n : Nat) (Q : State → Prop) (als : Array Slot) (a : Nat) (rest : List Value), p.tables.exec = Jvm.exec → c.code = cc → W p l e R s m args below meth c H locs k n Q (F0 m tr als rest) → W p l e R s m args below meth c H locs k n Q (F0 m pc als (.ref a :: rest))) : x_Ok ms Z own nm cc nL rt hh pc (xo_nul tn tr) :=
  x_lift fun fn cont ls st w k n r h => by
    replace h := x_pop_some h
    obtain ⟨x, t, rfl, h⟩ := h
    cases hb : Nat.beq x.1 0 with
    | true =>
      rw [hb] at h
      refine ⟨tn, t, h, fun E al vst hF hV => ?_⟩
      replace hV := hV.cons
      obtain ⟨X, vst, rfl, hX, hV⟩ := hV
      obtain ⟨u, q⟩ := x
      have e : u = 0 := Nat.eq_of_beq_eq_true hb
      subst e
      cases hX
      exact ⟨vst, hV, fun p l e R s m args below meth c H locs k n Q als hx hb ho hts kk => row0 p l e R s m args below meth c H locs k n Q als vst hx hb kk⟩
    | false =>
      rw [hb] at h
      replace h := x_if_some h
      obtain ⟨h0, h⟩ := h
      refine ⟨tr, t, h, fun E al vst hF hV => ?_⟩
      replace hV := hV.cons
      obtain ⟨X, vst, rfl, hX, hV⟩ := hV
      obtain ⟨a, rfl⟩ := x_isR_ref h0 hX
      exact ⟨vst, hV, fun p l e R s m args below meth c H locs k n Q als hx hb ho hts kk => row1 p l e R s m args below meth c H locs k n Q als a vst hx hb kk⟩
theorem xs_ifnull {off : Int} {tg : Nat} (hd : decode cc pc = .ok (.ifnull off, 3)) (ht : (pc : Int) + off = (tg : Int)) : x_Ok ms Z own nm cc nL rt hh pc (xo_nul tg (pc + 3)) := xs_nul (fun p l e R s m args below meth c H locs k n Q als rest hx hb kk => lv_ifnullN hx hb hd ht kk) (fun p l e R s m args below meth c H locs k n Q als a rest hx hb kk => lv_ifnull hx hb hd kk)
theorem xs_ifnonnull {off : Int} {tg : Nat} (hd : decode cc pc = .ok (.ifnonnull off, 3)) (ht : (pc : Int) + off = (tg : Int)) : x_Ok ms Z own nm cc nL rt hh pc (xo_nul (pc + 3) tg) := xs_nul (fun p l e R s m args below meth c H locs k n Q als rest hx hb kk => lv_ifnonnullN hx hb hd kk) (fun p l e R s m args below meth c H locs k n Q als a rest hx hb kk => lv_ifnonnull hx hb hd ht kk)
/-- switches: the target out of the offset -/
noncomputable def x_off {β : Type} (pc : Nat) (off : Int) (kk : Nat → Option β) : Option β := x_if (decide (0 ≤ (pc : Int) + off)) (x_fn ((pc : Int) + off).toNat kk)
theorem x_off_some {β : Type} {pc : Nat} {off : Int} {kk : Nat → Option β} {r : β} (h : x_off pc off kk = some r) : ∃ tg : Nat, (pc : Int) + off = (tg : Int) ∧ kk tg = some r := by
  obtain ⟨h1, h2⟩ := x_if_some h
  rw [x_fn_eq] at h2
  exact ⟨_, (Int.toNat_of_nonneg (of_decide_eq_true h1)).symm, h2⟩
noncomputable def xo_tsw (pc : Nat) (dflt lo hi : Int) (offs : List Int) : xO := fun _ c ls st w k n => x_pop st fun x t => x_tag 2 x fun a => x_br (decide ((nI a).toInt < lo) || decide (hi < (nI a).toInt)) (x_off pc dflt fun tg => c tg ls t w k n) (x_nth offs ((nI a).toInt - lo).toNat fun off => x_off pc off fun tg => c tg ls t w k n)
theorem xs_tsw {dflt lo hi : Int} {offs : Array Int} {ol : List Int} {len : Nat} (hd : decode cc pc = .ok (.tableswitch dflt lo hi offs, len)) (ho : offs.toList = ol) : x_Ok ms Z own nm cc nL rt hh pc (xo_tsw pc dflt lo hi ol) :=
  x_lift fun fn cont ls st w k n r h => by
    subst ho
    replace h := x_pop_some h
    obtain ⟨x, t, rfl, h⟩ := h
    replace h := x_tag_some h
    obtain ⟨a, rfl, h⟩ := h
    cases hb : (decide ((nI a).toInt < lo) || decide (hi < (nI a).toInt)) with
    | true =>
      rw [hb] at h
      obtain ⟨tg, h1, h2⟩ := x_off_some h
      refine ⟨tg, t, h2, fun E al vst hF hV => ?_⟩
      replace hV := hV.cons
      obtain ⟨X, vst, rfl, hX, hV⟩ := hV
      cases hX
      exact ⟨vst, hV, fun p l e R s m args below meth c H locs k n Q als hx hc ho hts kk => lv_tableOut hx hc hd (by simpa using hb) h1 kk⟩
    | false =>
      rw [hb] at h
      obtain ⟨off, h0, h⟩ := x_nth_some h
      obtain ⟨tg, h1, h2⟩ := x_off_some h
      refine ⟨tg, t, h2, fun E al vst hF hV => ?_⟩
      replace hV := hV.cons
      obtain ⟨X, vst, rfl, hX, hV⟩ := hV
      cases hX
      simp only [Bool.or_eq_false_iff, decide_eq_false_iff_not] at hb
      exact ⟨vst, hV, fun p l e R s m args below meth c H locs k n Q als hx hc ho hts kk => lv_tableIn hx hc hd hb.1 hb.2 (by rw [← Array.getElem?_toList]; exact h0) h1 kk⟩
noncomputable def xo_lsw (pc : Nat) (dflt : Int) (ps : List (Int × Int)) : xO := fun _ c ls st w k n => x_pop st fun x t => x_tag 2 x fun a => x_off pc (Op.lookupswitch.offset ps dflt (nI a).toInt) fun tg => c tg ls t w k n
theorem xs_lsw {dflt : Int} {ps : Array (Int × Int)} {pl : List (Int × Int)} {len : Nat} (hd : decode cc pc = .ok (.lookupswitch dflt ps, len)) (hp : (ps.toList.zip (ps.toList.drop 1)).all (fun (a, next) => a.1 < next.1) = true) (ho : ps.toList = pl) : x_Ok ms Z own nm cc nL rt hh pc (xo_lsw pc dflt pl) :=
  x_lift fun fn cont ls st w k n r h => by
    subst ho
    replace h := x_pop_some h
    obtain ⟨x, t, rfl, h⟩ := h
    replace h := x_tag_some h
    obtain ⟨a, rfl, h⟩ := h
    obtain ⟨tg, h1, h2⟩ := x_off_some h
    refine ⟨tg, t, h2, fun E al vst hF hV => ?_⟩
    replace hV := hV.cons
    obtain ⟨X, vst, rfl, hX, hV⟩ := hV
    cases hX
    exact ⟨vst, hV, fun p l e R s m args below meth c H locs k n Q als hx hc ho hts kk => lv_lookup hx hc hd hp rfl h1 kk⟩
/-- values of one slot -/
def x_c1 (v : xV) : Bool := !(Nat.beq v.1 3 || Nat.beq v.1 7)
theorem x_c1_cat {E : xE} {al : List Nat} {v : xV} {V : Value} (hi : x_c1 v = true) (h : x_rv E al v V) : V.category = 1 := by
  obtain ⟨t, n⟩ := v
  match t, hi, h with
  | 0, _, h => cases h; rfl
  | 1, _, h => obtain ⟨a, -, rfl⟩ := h; rfl
  | 2, _, h => cases h; rfl
  | 4, _, h => cases h; rfl
  | 5, _, h => cases h; rfl
  | 6, _, h => cases h; rfl
  | 8, _, h => obtain ⟨a, rfl⟩ := h; rfl
  | (t + 9), _, h => exact False.elim h
noncomputable def xo_dup (nx : Nat) : xO := fun _ c ls st w k n => x_pop st fun x t => x_if (x_c1 x) (c nx ls (x :: x :: t) w k n)
theorem xs_dup (hd : decode cc pc = .ok (.dup, 1)) : x_Ok ms Z own nm cc nL rt hh pc (xo_dup (pc + 1)) :=
  x_lift fun fn cont ls st w k n r h => by
    replace h := x_pop_some h
    obtain ⟨x, t, rfl, h⟩ := h
    obtain ⟨h0, h⟩ := x_if_some h
    refine ⟨_, _, h, fun E al vst hF hV => ?_⟩
    replace hV := hV.cons
    obtain ⟨X, vst, rfl, hX, hV⟩ := hV
    exact ⟨X :: X :: vst, ⟨hX, hX, hV⟩, fun p l e R s m args below meth c H locs k n Q als hx hb ho hts kk => lv_dup hx hb hd (x_c1_cat h0 hX) kk⟩
noncomputable def xo_pop (nx : Nat) : xO := fun _ c ls st w k n => x_pop st fun x t => x_if (x_c1 x) (c nx ls t w k n)
theorem xs_pop (hd : decode cc pc = .ok (.pop, 1)) : x_Ok ms Z own nm cc nL rt hh pc (xo_pop (pc + 1)) :=
  x_lift fun fn cont ls st w k n r h => by
    replace h := x_pop_some h
    obtain ⟨x, t, rfl, h⟩ := h
    obtain ⟨h0, h⟩ := x_if_some h
    refine ⟨_, _, h, fun E al vst hF hV => ?_⟩
    replace hV := hV.cons
    obtain ⟨X, vst, rfl, hX, hV⟩ := hV
    exact ⟨vst, hV, fun p l e R s m args below meth c H locs k n Q als hx hb ho hts kk => lv_pop hx hb hd (x_c1_cat h0 hX) kk⟩
noncomputable def xo_dupx1 (nx : Nat) : xO := fun _ c ls st w k n => x_pop st fun x t => x_pop t fun y t => x_if (x_c1 x && x_c1 y) (c nx ls (x :: y :: x :: t) w k n)
theorem xs_dupx1 (hd : decode cc pc = .ok (.dup_x1, 1)) : x_Ok ms Z own nm cc nL rt hh pc (xo_dupx1 (pc + 1)) :=
  x_lift fun fn cont ls st w k n r h => by
    replace h := x_pop_some h
    obtain ⟨x, t, rfl, h⟩ := h
    replace h := x_pop_some h
    obtain ⟨y, t, rfl, h⟩ := h
    obtain ⟨h0, h⟩ := x_if_some h
    simp only [Bool.and_eq_true] at h0
    refine ⟨_, _, h, fun E al vst hF hV => ?_⟩
    replace hV := hV.cons
    obtain ⟨X, vst, rfl, hX, hV⟩ := hV
    replace hV := hV.cons
    obtain ⟨Y, vst, rfl, hY, hV⟩ := hV
    exact ⟨X :: Y :: X :: vst, ⟨hX, hY, hX, hV⟩, fun p l e R s m args below meth c H locs k n Q als hx hb ho hts kk => lv_dup_x1 hx hb hd (x_c1_cat h0.1 hX) (x_c1_cat h0.2 hY) kk⟩
noncomputable def xo_dup2 (nx : Nat) : xO := fun _ c ls st w k n => x_pop st fun x t => x_pop t fun y t => x_if (x_c1 x && x_c1 y) (c nx ls (x :: y :: x :: y :: t) w k n)
theorem xs_dup2 (hd : decode cc pc = .ok (.dup2, 1)) : x_Ok ms Z own nm cc nL rt hh pc (xo_dup2 (pc + 1)) :=
  x_lift fun fn cont ls st w k n r h => by
    replace h := x_pop_some h
    obtain ⟨x, t, rfl, h⟩ := h
    replace h := x_pop_some h
    obtain ⟨y, t, rfl, h⟩ := h
    obtain ⟨h0, h⟩ := x_if_some h
    simp only [Bool.and_eq_true] at h0
    refine ⟨_, _, h, fun E al vst hF hV => ?_⟩
    replace hV := hV.cons
    obtain ⟨X, vst, rfl, hX, hV⟩ := hV
    replace hV := hV.cons
    obtain ⟨Y, vst, rfl, hY, hV⟩ := hV
    exact ⟨X :: Y :: X :: Y :: vst, ⟨hX, hY, hX, hY, hV⟩, fun p l e R s m args below meth c H locs k n Q als hx hb ho hts kk => lv_dup2_11 hx hb hd (x_c1_cat h0.1 hX) (x_c1_cat h0.2 hY) kk⟩
end XOPT
