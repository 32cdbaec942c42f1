/-! LOCALS -/
section XLOC
variable {ms : List xM} {Z : xD} {own nm : String} {cc : ByteArray} {nL : Nat} {rt : Option FieldType} {hh : List (Nat × Nat × Nat × Nat)} {pc : Nat}
def x_isA (v : xV) : Bool := Nat.beq v.1 0 || x_isR v
theorem x_isA_of {E : xE} {al : List Nat} {v : xV} {V : Value} (hi : x_isA v = true) (h : x_rv E al v V) : V = .null ∨ ∃ a, V = .ref a := by
  simp only [x_isA, Bool.or_eq_true] at hi
  rcases hi with hi | hi
  · obtain ⟨t, n⟩ := v
    have e : t = 0 := Nat.eq_of_beq_eq_true hi
    subst e
    exact Or.inl h
  · exact Or.inr (x_isR_ref hi h)
def x_isT (t : Nat) (v : xV) : Bool := Nat.beq v.1 t
theorem x_isT_of {t : Nat} {v : xV} (hi : x_isT t v = true) : ∃ n, v = (t, n) := ⟨v.2, Prod.ext (Nat.eq_of_beq_eq_true hi) rfl⟩
theorem x_not9 {E : xE} {al : List Nat} {chk : xV → Bool} (h9 : ∀ n, chk (9, n) = false) {v : xV} (hi : chk v = true) : v.1 ≠ 9 := by
  intro h
  obtain ⟨t, n⟩ := v
  dsimp only at h
  subst h
  rw [h9] at hi
  cases hi
/-- a local onto the stack -/
noncomputable def xo_ld (chk : xV → Bool) (i nx : Nat) : xO := fun _ c ls st w k n => x_nth ls i fun v => x_if (chk v) (c nx ls (v :: st) w k n)
theorem xs_ld {chk : xV → Bool} {i nx : Nat} (h9 : ∀ n, chk (9, n) = false) (row : ∀ (E : xE) (al : List Nat) (v : xV) (V : Value), chk v = true → x_rv E al v V → ∀ (p : Program) (l : Launch) (e : Env) (R : Room) (s : State) (m : MethodId) (args : Array Value) (below : List Frame) (meth : Method) (c : Code) (H : Heap) (locs : List Loc) (k n : Nat) (Q : State → Prop) (als : Array Slot) (rest : List Value), p.tables.exec = Jvm.exec → c.code = cc → als[i]? = some (.val V) → W p l e R s m args below meth c H locs k n Q (F0 m nx als (V :: rest)) → W p l e R s m args below meth c H locs k n Q (F0 m pc als rest)) : x_Ok ms Z own nm cc nL rt hh pc (xo_ld chk i nx) := by
  intro d fn hfn E al0 r p l e R s m args below meth c Q hC cont ih ls st w k n h
  obtain ⟨v, h1, h⟩ := x_nth_some h
  obtain ⟨h2, h⟩ := x_if_some h
  have g := ih _ _ _ _ _ _ h
  obtain ⟨hx, hb, -⟩ := hC
  refine ⟨g.1, g.2.1, fun ws H locs als lv vst hW hal hS hl hL hV => ?_⟩
  obtain ⟨V, h3, h4⟩ := hL i v h1 (x_not9 (E := E) (al := []) h9 h2)
  exact row E _ v V h2 h4 p l e R s m args below meth c H locs k n Q als vst hx hb (hl.2.2 (i, V) h3) (g.2.2 ws H locs als lv (V :: vst) hW hal hS hl hL ⟨h4, hV⟩)
theorem xs_iload {i : Nat} (hd : decode cc pc = .ok (.iload i, 2)) : x_Ok ms Z own nm cc nL rt hh pc (xo_ld x_isI i (pc + 2)) := xs_ld (fun _ => rfl) fun E al v V hi hV p l e R s m args below meth c H locs k n Q als rest hx hb ha kk => by
  have e := x_ri_of hi hV
  subst e
  exact lv_iload hx hb hd ha kk
theorem xs_iload_n {j : Fin 4} {i : Nat} (hd : decode cc pc = .ok (.iload_n j, 1)) (hj : (j : Nat) = i) : x_Ok ms Z own nm cc nL rt hh pc (xo_ld x_isI i (pc + 1)) := xs_ld (fun _ => rfl) fun E al v V hi hV p l e R s m args below meth c H locs k n Q als rest hx hb ha kk => by
  have e := x_ri_of hi hV
  subst e
  exact lv_iload_n hx hb hd hj ha kk
theorem xs_aload {i : Nat} (hd : decode cc pc = .ok (.aload i, 2)) : x_Ok ms Z own nm cc nL rt hh pc (xo_ld x_isA i (pc + 2)) := xs_ld (fun _ => rfl) fun E al v V hi hV p l e R s m args below meth c H locs k n Q als rest hx hb ha kk => by
  rcases x_isA_of hi hV with e | ⟨a, e⟩
  · subst e
    exact lv_aloadN hx hb hd ha kk
  · subst e
    exact lv_aload hx hb hd ha kk
theorem xs_aload_n {j : Fin 4} {i : Nat} (hd : decode cc pc = .ok (.aload_n j, 1)) (hj : (j : Nat) = i) : x_Ok ms Z own nm cc nL rt hh pc (xo_ld x_isA i (pc + 1)) := xs_ld (fun _ => rfl) fun E al v V hi hV p l e R s m args below meth c H locs k n Q als rest hx hb ha kk => by
  rcases x_isA_of hi hV with e | ⟨a, e⟩
  · subst e
    exact lv_aload_nN hx hb hd hj ha kk
  · subst e
    exact lv_aload_n hx hb hd hj ha kk
theorem xs_lload {i : Nat} (hd : decode cc pc = .ok (.lload i, 2)) : x_Ok ms Z own nm cc nL rt hh pc (xo_ld (x_isT 3) i (pc + 2)) := xs_ld (fun _ => rfl) fun E al v V hi hV p l e R s m args below meth c H locs k n Q als rest hx hb ha kk => by
  obtain ⟨u, rfl⟩ := x_isT_of hi
  cases hV
  exact lv_lload hx hb hd ha kk
theorem xs_lload_n {j : Fin 4} {i : Nat} (hd : decode cc pc = .ok (.lload_n j, 1)) (hj : (j : Nat) = i) : x_Ok ms Z own nm cc nL rt hh pc (xo_ld (x_isT 3) i (pc + 1)) := xs_ld (fun _ => rfl) fun E al v V hi hV p l e R s m args below meth c H locs k n Q als rest hx hb ha kk => by
  obtain ⟨u, rfl⟩ := x_isT_of hi
  cases hV
  exact lv_lload_n hx hb hd hj ha kk
/-- one value into a local: the slot ahead doesn't begin a long -/
noncomputable def x_pre {β : Type} (ls : List xV) (i : Nat) (kk : Option β) : Option β := Nat.rec (motive := fun _ => Option β) kk (fun j _ => x_nth ls j fun u => x_if (x_c1 u) kk) i
theorem x_pre_some {β : Type} {ls : List xV} {i : Nat} {kk : Option β} {r : β} (h : x_pre ls i kk = some r) : (∀ j u, j + 1 = i → ls[j]? = some u → x_c1 u = true) ∧ kk = some r := by
  cases i with
  | zero => exact ⟨fun j u hj => by omega, h⟩
  | succ j =>
    obtain ⟨u, h1, h2⟩ := x_nth_some (k := fun u => x_if (x_c1 u) kk) h
    obtain ⟨h3, h4⟩ := x_if_some h2
    refine ⟨fun j' u' hj hu => ?_, h4⟩
    have e : j' = j := by omega
    subst e
    rw [h1] at hu
    cases hu
    exact h3
theorem x_RL_st {E : xE} {al : List Nat} {sl : List xV} {lv : List (Nat × Value)} {i : Nat} {v : xV} {V : Value} (hL : x_RL E al sl lv) (hv : x_rv E al v V) (hp : ∀ j u, j + 1 = i → sl[j]? = some u → x_c1 u = true) : x_RL E al (sl.set i v) ((i, V) :: lv.filter (fun q => !(q.1 == i) && !(q.1 + 1 == i && q.2.category == 2))) := by
  intro j u hj hu
  by_cases hij : i = j
  · subst hij
    have hl : i < sl.length := by
      have := (List.getElem?_eq_some_iff.mp hj).1
      rwa [List.length_set] at this
    rw [List.getElem?_set_self hl] at hj
    cases hj
    exact ⟨V, List.mem_cons_self, hv⟩
  · rw [List.getElem?_set_ne hij] at hj
    obtain ⟨U, h1, h2⟩ := hL j u hj hu
    refine ⟨U, List.mem_cons_of_mem _ (List.mem_filter.mpr ⟨h1, ?_⟩), h2⟩
    have hji : ¬ j = i := fun q => hij q.symm
    by_cases hj1 : j + 1 = i
    · have hc := x_c1_cat (hp j u hj1 hj) h2
      simp [hji, hc]
    · simp [hji, hj1]
theorem x_RL_st2 {E : xE} {al : List Nat} {sl : List xV} {lv : List (Nat × Value)} {i : Nat} {v : xV} {V : Value} (hi : i < sl.length) (hL : x_RL E al sl lv) (hv : x_rv E al v V) (hp : ∀ j u, j + 1 = i → sl[j]? = some u → x_c1 u = true) : x_RL E al ((sl.set i v).set (i + 1) (9, 0)) ((i, V) :: lv.filter (fun q => !(q.1 == i) && (!(q.1 == i + 1) && !(q.1 + 1 == i && q.2.category == 2)))) := by
  intro j u hj hu
  by_cases hj1 : i + 1 = j
  · subst hj1
    have hl : i + 1 < (sl.set i v).length := by
      have := (List.getElem?_eq_some_iff.mp hj).1
      rwa [List.length_set] at this
    rw [List.getElem?_set_self hl] at hj
    cases hj
    exact absurd rfl hu
  rw [List.getElem?_set_ne hj1] at hj
  by_cases hij : i = j
  · subst hij
    rw [List.getElem?_set_self hi] at hj
    cases hj
    exact ⟨V, List.mem_cons_self, hv⟩
  · rw [List.getElem?_set_ne hij] at hj
    obtain ⟨U, h1, h2⟩ := hL j u hj hu
    refine ⟨U, List.mem_cons_of_mem _ (List.mem_filter.mpr ⟨h1, ?_⟩), h2⟩
    have hji : ¬ j = i := fun q => hij q.symm
    have hji1 : ¬ j = i + 1 := fun q => hj1 q.symm
    by_cases hj2 : j + 1 = i
    · have hc := x_c1_cat (hp j u hj2 hj) h2
      simp [hji, hji1, hc]
    · simp [hji, hji1, hj2]
noncomputable def xo_st (chk : xV → Bool) (i nx : Nat) : xO := fun _ c ls st w k n => x_pop st fun v t => x_if (chk v) (x_pre ls i (x_set v ls i fun ls' => c nx ls' t w k n))
theorem xs_st {chk : xV → Bool} {i nx : Nat} (hn : i < nL) (row : ∀ (E : xE) (al : List Nat) (v : xV) (V : Value), chk v = true → x_rv E al v V → ∀ (p : Program) (l : Launch) (e : Env) (R : Room) (s : State) (m : MethodId) (args : Array Value) (below : List Frame) (meth : Method) (c : Code) (H : Heap) (locs : List Loc) (k n : Nat) (Q : State → Prop) (als : Array Slot) (lv : List (Nat × Value)) (rest : List Value), p.tables.exec = Jvm.exec → c.code = cc → lv_has als nL lv → (∀ als' : Array Slot, lv_has als' nL ((i, V) :: lv.filter (fun q => !(q.1 == i) && !(q.1 + 1 == i && q.2.category == 2))) → W p l e R s m args below meth c H locs k n Q (F0 m nx als' rest)) → W p l e R s m args below meth c H locs k n Q (F0 m pc als (V :: rest))) : x_Ok ms Z own nm cc nL rt hh pc (xo_st chk i nx) := by
  intro d fn hfn E al0 r p l e R s m args below meth c Q hC cont ih ls st w k n h
  replace h := x_pop_some h
  obtain ⟨v, t, rfl, h⟩ := h
  obtain ⟨h2, h⟩ := x_if_some h
  obtain ⟨h3, h⟩ := x_pre_some h
  obtain ⟨h4, h⟩ := x_set_some h
  have g := ih _ _ _ _ _ _ h
  obtain ⟨hx, hb, -⟩ := hC
  refine ⟨g.1, g.2.1, fun ws H locs als lv vst hW hal hS hl hL hV => ?_⟩
  replace hV := hV.cons
  obtain ⟨V, vst, rfl, h5, hV⟩ := hV
  exact row E _ v V h2 h5 p l e R s m args below meth c H locs k n Q als lv vst hx hb hl fun als' hl' => g.2.2 ws H locs als' _ vst hW hal hS hl' (x_RL_st hL h5 h3) hV
theorem xs_istore {i : Nat} (hn : i < nL) (hd : decode cc pc = .ok (.istore i, 2)) : x_Ok ms Z own nm cc nL rt hh pc (xo_st x_isI i (pc + 2)) := xs_st hn fun E al v V hi hV p l e R s m args below meth c H locs k n Q als lv rest hx hb hl kk => by
  have e := x_ri_of hi hV
  subst e
  exact lv_istore hx hb hd hl hn rfl kk
theorem xs_istore_n {j : Fin 4} {i : Nat} (hn : i < nL) (hd : decode cc pc = .ok (.istore_n j, 1)) (hj : (j : Nat) = i) : x_Ok ms Z own nm cc nL rt hh pc (xo_st x_isI i (pc + 1)) := xs_st hn fun E al v V hi hV p l e R s m args below meth c H locs k n Q als lv rest hx hb hl kk => by
  have e := x_ri_of hi hV
  subst e
  exact lv_istore_n hx hb hd hj hl hn rfl kk
theorem xs_astore {i : Nat} (hn : i < nL) (hd : decode cc pc = .ok (.astore i, 2)) : x_Ok ms Z own nm cc nL rt hh pc (xo_st x_isA i (pc + 2)) := xs_st hn fun E al v V hi hV p l e R s m args below meth c H locs k n Q als lv rest hx hb hl kk => by
  rcases x_isA_of hi hV with e | ⟨a, e⟩
  · subst e
    exact lv_astoreN hx hb hd hl hn rfl kk
  · subst e
    exact lv_astore hx hb hd hl hn rfl kk
theorem xs_astore_n {j : Fin 4} {i : Nat} (hn : i < nL) (hd : decode cc pc = .ok (.astore_n j, 1)) (hj : (j : Nat) = i) : x_Ok ms Z own nm cc nL rt hh pc (xo_st x_isA i (pc + 1)) := xs_st hn fun E al v V hi hV p l e R s m args below meth c H locs k n Q als lv rest hx hb hl kk => by
  rcases x_isA_of hi hV with e | ⟨a, e⟩
  · subst e
    exact lv_astore_nN hx hb hd hj hl hn rfl kk
  · subst e
    exact lv_astore_n hx hb hd hj hl hn rfl kk
theorem xs_fstore {i : Nat} (hn : i < nL) (hd : decode cc pc = .ok (.fstore i, 2)) : x_Ok ms Z own nm cc nL rt hh pc (xo_st (x_isT 6) i (pc + 2)) := xs_st hn fun E al v V hi hV p l e R s m args below meth c H locs k n Q als lv rest hx hb hl kk => by
  obtain ⟨u, rfl⟩ := x_isT_of hi
  cases hV
  exact lv_fstore hx hb hd hl hn rfl kk
/-- a long, or a double, into two locals -/
noncomputable def xo_st2 (chk : xV → Bool) (i nx : Nat) : xO := fun _ c ls st w k n => x_pop st fun v t => x_if (chk v) (x_pre ls i (x_set v ls i fun ls' => x_set (9, 0) ls' (i + 1) fun ls'' => c nx ls'' t w k n))
theorem xs_st2 {chk : xV → Bool} {i nx : Nat} (hn : i + 1 < nL) (row : ∀ (E : xE) (al : List Nat) (v : xV) (V : Value), chk v = true → x_rv E al v V → ∀ (p : Program) (l : Launch) (e : Env) (R : Room) (s : State) (m : MethodId) (args : Array Value) (below : List Frame) (meth : Method) (c : Code) (H : Heap) (locs : List Loc) (k n : Nat) (Q : State → Prop) (als : Array Slot) (lv : List (Nat × Value)) (rest : List Value), p.tables.exec = Jvm.exec → c.code = cc → lv_has als nL lv → (∀ als' : Array Slot, lv_has als' nL ((i, V) :: lv.filter (fun q => !(q.1 == i) && (!(q.1 == i + 1) && !(q.1 + 1 == i && q.2.category == 2)))) → W p l e R s m args below meth c H locs k n Q (F0 m nx als' rest)) → W p l e R s m args below meth c H locs k n Q (F0 m pc als (V :: rest))) : x_Ok ms Z own nm cc nL rt hh pc (xo_st2 chk i nx) := by
  intro d fn hfn E al0 r p l e R s m args below meth c Q hC cont ih ls st w k n h
  replace h := x_pop_some h
  obtain ⟨v, t, rfl, h⟩ := h
  obtain ⟨h2, h⟩ := x_if_some h
  obtain ⟨h3, h⟩ := x_pre_some h
  obtain ⟨h4, h⟩ := x_set_some h
  obtain ⟨h6, h⟩ := x_set_some h
  have g := ih _ _ _ _ _ _ h
  obtain ⟨hx, hb, -⟩ := hC
  refine ⟨g.1, g.2.1, fun ws H locs als lv vst hW hal hS hl hL hV => ?_⟩
  replace hV := hV.cons
  obtain ⟨V, vst, rfl, h5, hV⟩ := hV
  exact row E _ v V h2 h5 p l e R s m args below meth c H locs k n Q als lv vst hx hb hl fun als' hl' => g.2.2 ws H locs als' _ vst hW hal hS hl' (x_RL_st2 h4 hL h5 h3) hV
theorem xs_lstore {i : Nat} (hn : i + 1 < nL) (hd : decode cc pc = .ok (.lstore i, 2)) : x_Ok ms Z own nm cc nL rt hh pc (xo_st2 (x_isT 3) i (pc + 2)) := xs_st2 hn fun E al v V hi hV p l e R s m args below meth c H locs k n Q als lv rest hx hb hl kk => by
  obtain ⟨u, rfl⟩ := x_isT_of hi
  cases hV
  exact lv_lstore hx hb hd hl hn rfl kk
theorem xs_lstore_n {j : Fin 4} {i : Nat} (hn : i + 1 < nL) (hd : decode cc pc = .ok (.lstore_n j, 1)) (hj : (j : Nat) = i) : x_Ok ms Z own nm cc nL rt hh pc (xo_st2 (x_isT 3) i (pc + 1)) := xs_st2 hn fun E al v V hi hV p l e R s m args below meth c H locs k n Q als lv rest hx hb hl kk => by
  obtain ⟨u, rfl⟩ := x_isT_of hi
  cases hV
  exact lv_lstore_n hx hb hd hj hl hn rfl kk
theorem xs_dstore {i : Nat} (hn : i + 1 < nL) (hd : decode cc pc = .ok (.dstore i, 2)) : x_Ok ms Z own nm cc nL rt hh pc (xo_st2 (x_isT 7) i (pc + 2)) := xs_st2 hn fun E al v V hi hV p l e R s m args below meth c H locs k n Q als lv rest hx hb hl kk => by
  obtain ⟨u, rfl⟩ := x_isT_of hi
  cases hV
  exact lv_dstore hx hb hd hl hn rfl kk
noncomputable def xo_iinc (i : Nat) (a : Int32) (nx : Nat) : xO := fun _ c ls st w k n => x_nth ls i fun v => x_tag 2 v fun b => x_pre ls i (x_fn (nI b + a).toUInt32.toNat fun z => x_set (2, z) ls i fun ls' => c nx ls' st w k n)
theorem xs_iinc {i : Nat} {a : Int} {b : Int32} (hn : i < nL) (hd : decode cc pc = .ok (.iinc i a, 3)) (hab : Int32.ofInt a = b) : x_Ok ms Z own nm cc nL rt hh pc (xo_iinc i b (pc + 3)) := by
  subst hab
  intro d fn hfn E al0 r p l e R s m args below meth c Q hC cont ih ls st w k n h
  obtain ⟨v, h1, h⟩ := x_nth_some h
  replace h := x_tag_some h
  obtain ⟨u, rfl, h⟩ := h
  obtain ⟨h3, h⟩ := x_pre_some h
  rw [x_fn_eq] at h
  obtain ⟨h4, h⟩ := x_set_some h
  have g := ih _ _ _ _ _ _ h
  obtain ⟨hx, hb, -⟩ := hC
  refine ⟨g.1, g.2.1, fun ws H locs als lv vst hW hal hS hl hL hV => ?_⟩
  obtain ⟨V, h5, h6⟩ := hL i _ h1 (by show (2 : Nat) ≠ 9; decide)
  cases h6
  obtain ⟨j, h7⟩ := List.getElem?_of_mem h5
  exact lv_iinc hx hb hd hl h7 rfl hn rfl fun als' hl' => g.2.2 ws H locs als' _ vst hW hal hS hl' (x_RL_st hL (by show Value.int _ = .int (nI _); rw [x_nI]) h3) hV
end XLOC
