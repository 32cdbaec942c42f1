/-! WHAT THE SMALL MACHINE'S VALUES, CELLS AND FRAMES ARE IN THE MACHINE -/
/-- the words that every method is given: the good ones of the tables -/
noncomputable def xTb : List Cond := lw_tbl.filter goodWord
theorem x_word {w : Cond} (h : w ∈ lw_tbl) (hg : goodWord w = true) : w ∈ xTb := List.mem_filter.mpr ⟨h, hg⟩
theorem x_in (i : Nat) {w : Cond} (h : lw_tbl[i]? = some w) (hg : goodWord w = true) : w ∈ xTb := x_word (List.mem_of_getElem? h) hg
theorem x_good {w : Cond} (h : w ∈ xTb) : goodWord w = true := (List.mem_filter.mp h).2
theorem x_goodIn {Ts ws : List Cond} (h : ∀ w ∈ ws, w ∈ Ts ∧ goodWord w = true) : GoodIn Ts ws := fun w hw => ⟨(h w hw).1, good_of_word (h w hw).2⟩
/-- a number of the small machine, known or named -/
def x_ri (rho : Nat → Int32) (v : xV) : Int32 := cond (Nat.beq v.1 2) (nI v.2) (rho v.2)
/-- a value of the small machine, and the machine's own: al the cells' addresses, in their order -/
def x_rv (E : xE) (al : List Nat) (v : xV) (V : Value) : Prop := match v with
  | (0, _) => V = .null
  | (1, n) => ∃ a, al[n]? = some a ∧ V = .ref a
  | (2, n) => V = .int (nI n)
  | (3, n) => V = .long (lN n)
  | (4, n) => V = .int (E.2.2.2.1 n)
  | (5, n) => V = .ref (E.2.2.2.2 n)
  | (6, n) => V = .float (UInt32.ofNat n)
  | (7, n) => V = .double (UInt64.ofNat n)
  | (8, _) => ∃ a, V = .ref a
  | _ => False
theorem x_rv.mono {E : xE} {al be : List Nat} {v : xV} {V : Value} (hp : al <+: be) (h : x_rv E al v V) : x_rv E be v V := by
  obtain ⟨t, n⟩ := v
  match t, h with
  | 0, h => exact h
  | 1, h =>
    obtain ⟨a, h1, h2⟩ := h
    obtain ⟨g, rfl⟩ := hp
    exact ⟨a, by rw [List.getElem?_append_left (List.getElem?_eq_some_iff.mp h1).1]; exact h1, h2⟩
  | 2, h => exact h
  | 3, h => exact h
  | 4, h => exact h
  | 5, h => exact h
  | 6, h => exact h
  | 7, h => exact h
  | 8, h => exact h
  | (t + 9), h => exact h
def x_RS (E : xE) (al : List Nat) : List xV → List Value → Prop
  | [], [] => True
  | v :: l, V :: m => x_rv E al v V ∧ x_RS E al l m
  | _, _ => False
theorem x_RS.mono {E : xE} {al be : List Nat} (hp : al <+: be) : ∀ {l : List xV} {m : List Value}, x_RS E al l m → x_RS E be l m
  | [], [], _ => trivial
  | _ :: _, _ :: _, h => ⟨h.1.mono hp, x_RS.mono hp h.2⟩
  | [], _ :: _, h => h
  | _ :: _, [], h => h
theorem x_RS.cons {E : xE} {al : List Nat} {v : xV} {l : List xV} {m : List Value} (h : x_RS E al (v :: l) m) : ∃ V t, m = V :: t ∧ x_rv E al v V ∧ x_RS E al l t := by
  cases m with
  | nil => exact False.elim h
  | cons V t => exact ⟨V, t, rfl, h.1, h.2⟩
theorem x_RS.nil {E : xE} {al : List Nat} {m : List Value} (h : x_RS E al [] m) : m = [] := by
  cases m with
  | nil => rfl
  | cons V t => exact False.elim h
theorem x_RS.get {E : xE} {al : List Nat} : ∀ {l : List xV} {m : List Value}, x_RS E al l m → ∀ {k : Nat} {v : xV}, l[k]? = some v → ∃ V, m[k]? = some V ∧ x_rv E al v V
  | [], _, _, k, v, hk => by simp at hk
  | a :: l, [], h, _, _, _ => False.elim h
  | a :: l, b :: m, h, 0, v, hk => ⟨b, rfl, by cases hk; exact h.1⟩
  | a :: l, b :: m, h, k + 1, v, hk => x_RS.get (l := l) (m := m) h.2 (k := k) hk
theorem x_RS.set {E : xE} {al : List Nat} {v : xV} {V : Value} (hv : x_rv E al v V) : ∀ {l : List xV} {m : List Value}, x_RS E al l m → ∀ (k : Nat), x_RS E al (l.set k v) (m.set k V)
  | [], [], _, _ => trivial
  | a :: l, b :: m, h, 0 => ⟨hv, h.2⟩
  | a :: l, b :: m, h, k + 1 => ⟨h.1, x_RS.set hv (l := l) (m := m) h.2 k⟩
  | [], _ :: _, h, _ => False.elim h
  | _ :: _, [], h, _ => False.elim h
theorem x_RS.len {E : xE} {al : List Nat} : ∀ {l : List xV} {m : List Value}, x_RS E al l m → l.length = m.length
  | [], [], _ => rfl
  | a :: l, b :: m, h => congrArg (· + 1) (x_RS.len (l := l) (m := m) h.2)
  | [], _ :: _, h => False.elim h
  | _ :: _, [], h => False.elim h
theorem x_RS.app {E : xE} {al : List Nat} : ∀ {l l2 : List xV} {m m2 : List Value}, x_RS E al l m → x_RS E al l2 m2 → x_RS E al (l ++ l2) (m ++ m2)
  | [], _, [], _, _, h2 => h2
  | a :: l, _, b :: m, _, h, h2 => ⟨h.1, x_RS.app (l := l) (m := m) h.2 h2⟩
  | [], _, _ :: _, _, h, _ => False.elim h
  | _ :: _, _, [], _, h, _ => False.elim h
theorem x_RS.split {E : xE} {al : List Nat} : ∀ {l l2 : List xV} {m : List Value}, x_RS E al (l ++ l2) m → ∃ m1 m2, m = m1 ++ m2 ∧ x_RS E al l m1 ∧ x_RS E al l2 m2
  | [], _, m, h => ⟨[], m, rfl, trivial, h⟩
  | a :: l, l2, [], h => False.elim h
  | a :: l, l2, b :: m, h => by
    obtain ⟨m1, m2, rfl, h1, h2⟩ := x_RS.split (l := l) (l2 := l2) (m := m) h.2
    exact ⟨b :: m1, m2, rfl, ⟨h.1, h1⟩, h2⟩
theorem x_RS.rev {E : xE} {al : List Nat} : ∀ {l : List xV} {m : List Value}, x_RS E al l m → x_RS E al l.reverse m.reverse
  | [], [], _ => trivial
  | a :: l, b :: m, h => by
    rw [List.reverse_cons, List.reverse_cons]
    exact x_RS.app (x_RS.rev (l := l) (m := m) h.2) ⟨h.1, trivial⟩
  | [], _ :: _, h => False.elim h
  | _ :: _, [], h => False.elim h
/-- the arrays' kinds: 100 and on -/
def x_tyl : List FieldType := [.int, .long, .double, .object "java/lang/Object", .array .int, .array .long, .object "Weightlattice$Register"]
def x_tys (dA : Nat → ClassId) : List (ClassId × FieldType) := [(dA 0, .int), (dA 1, .long), (dA 2, .double), (dA 3, .object "java/lang/Object"), (dA 4, .array .int), (dA 5, .array .long), (dA 6, .object "Weightlattice$Register")]
/-- a cell of the small machine, and the machine's own -/
def x_RC (E : xE) (al : List Nat) (c : xC) (e : va_E) : Prop :=
  (c.1 < 100 ∧ ∃ vs, e = .inr (c.1, vs) ∧ x_RS E al c.2 vs) ∨
  (c.1 = 100 ∧ ∃ f : Nat → Int32, e = .inl (E.2.1 0, c.2.length, .inl f) ∧ ∀ j v, c.2[j]? = some v → x_rv E al v (.int (f j))) ∨
  (c.1 = 101 ∧ ∃ f : Nat → Int64, e = .inl (E.2.1 1, c.2.length, .inr (.inl f)) ∧ ∀ j v, c.2[j]? = some v → x_rv E al v (.long (f j))) ∨
  (c.1 = 102 ∧ ∃ f : Nat → UInt64, e = .inl (E.2.1 2, c.2.length, .inr (.inr (.inr (.inl f)))) ∧ ∀ j v, c.2[j]? = some v → x_rv E al v (.double (f j))) ∨
  (103 ≤ c.1 ∧ c.1 < 107 ∧ ∃ f : Nat → Option Nat, e = .inl (E.2.1 (c.1 - 100), c.2.length, .inr (.inr (.inr (.inr f)))) ∧ ∀ j v, c.2[j]? = some v → x_rv E al v (va_rf (f j)))
theorem x_RC.mono {E : xE} {al be : List Nat} {c : xC} {e : va_E} (hp : al <+: be) (h : x_RC E al c e) : x_RC E be c e := by
  rcases h with ⟨h1, vs, h2, h3⟩ | ⟨h1, f, h2, h3⟩ | ⟨h1, f, h2, h3⟩ | ⟨h1, f, h2, h3⟩ | ⟨h0, h1, f, h2, h3⟩
  · exact Or.inl ⟨h1, vs, h2, h3.mono hp⟩
  · exact Or.inr (Or.inl ⟨h1, f, h2, fun j v hj => (h3 j v hj).mono hp⟩)
  · exact Or.inr (Or.inr (Or.inl ⟨h1, f, h2, fun j v hj => (h3 j v hj).mono hp⟩))
  · exact Or.inr (Or.inr (Or.inr (Or.inl ⟨h1, f, h2, fun j v hj => (h3 j v hj).mono hp⟩)))
  · exact Or.inr (Or.inr (Or.inr (Or.inr ⟨h0, h1, f, h2, fun j v hj => (h3 j v hj).mono hp⟩)))
abbrev x_al (ws : va_W) : List Nat := ws.map (·.1)
/-- the cells, one by one -/
def x_RW (E : xE) (w : xW) (ws : va_W) : Prop := w.1 = ws.length ∧ ∀ (i : Nat) (c : xC) (q : Nat × va_E), x_cl w i = some c → ws[i]? = some q → x_RC E (x_al ws) c q.2
theorem x_RW.get {E : xE} {w : xW} {ws : va_W} (h : x_RW E w ws) {i : Nat} {c : xC} (hi : x_cl w i = some c) {a : Nat} (ha : (x_al ws)[i]? = some a) : ∃ e, ws[i]? = some (a, e) ∧ x_RC E (x_al ws) c e := by
  obtain ⟨q, hq, rfl⟩ : ∃ q, ws[i]? = some q ∧ q.1 = a := by
    rw [List.getElem?_map] at ha
    cases hw : ws[i]? with
    | none => rw [hw] at ha; cases ha
    | some q => rw [hw] at ha; exact ⟨q, rfl, Option.some.inj ha⟩
  exact ⟨q.2, hq, h.2 i c q hi hq⟩
theorem x_al_set {ws : va_W} {i a : Nat} {e e' : va_E} (h : ws[i]? = some (a, e)) : x_al (ws.set i (a, e')) = x_al ws := by
  apply List.ext_getElem?
  intro j
  rw [List.getElem?_map, List.getElem?_map]
  by_cases hj : i = j
  · subst hj
    rw [List.getElem?_set_self (List.getElem?_eq_some_iff.mp h).1, h]
    rfl
  · rw [List.getElem?_set_ne hj]
theorem x_RW.set {E : xE} {w : xW} {ws : va_W} (h : x_RW E w ws) {i a : Nat} {e e' : va_E} {c' : xC} (hi : ws[i]? = some (a, e)) (hc : x_RC E (x_al ws) c' e') : x_RW E (x_up w i c') (ws.set i (a, e')) := by
  refine ⟨by rw [List.length_set]; exact h.1, fun j c q hj hq => ?_⟩
  rw [x_al_set hi]
  have hl : i < ws.length := (List.getElem?_eq_some_iff.mp hi).1
  rcases x_up_at hj with ⟨hij, hcc⟩ | ⟨hij, hj2⟩
  · subst hij
    subst hcc
    rw [List.getElem?_set_self hl] at hq
    cases hq
    exact hc
  · rw [List.getElem?_set_ne hij] at hq
    exact h.2 j c q hj2 hq
theorem x_RW_app {E : xE} {w w' : xW} {cs : List xC} {ws es : va_W} (hp : x_Ps w cs w') (h : x_RW E w ws) (hl : cs.length = es.length) (hc : ∀ (i : Nat) (c : xC) (q : Nat × va_E), cs[i]? = some c → es[i]? = some q → x_RC E (x_al (ws ++ es)) c q.2) : x_RW E w' (ws ++ es) := by
  refine ⟨by rw [List.length_append, hp.1, h.1, hl], fun j c2 q hj hq => ?_⟩
  by_cases hlt : j < ws.length
  · rw [List.getElem?_append_left hlt] at hq
    exact (h.2 j c2 q (hp.2.1 j c2 (by rw [h.1]; exact hlt) hj) hq).mono (by rw [x_al, x_al, List.map_append]; exact List.prefix_append _ _)
  · rw [List.getElem?_append_right (by omega)] at hq
    have hj2 : x_cl w' (w.1 + (j - ws.length)) = some c2 := by rw [h.1, show ws.length + (j - ws.length) = j by omega]; exact hj
    exact hc _ c2 q (hp.2.2 _ c2 hj2 (by rw [hl]; exact (List.getElem?_eq_some_iff.mp hq).1)) hq
theorem x_RW.push {E : xE} {w w' : xW} {ws : va_W} (h : x_RW E w ws) {a : Nat} {e : va_E} {c : xC} (hp : x_Ps w [c] w') (hc : x_RC E (x_al (ws ++ [(a, e)])) c e) : x_RW E w' (ws ++ [(a, e)]) := x_RW_app hp h rfl fun i c2 q h1 h2 => by
  cases i with
  | zero =>
    cases h1
    cases h2
    exact hc
  | succ i => simp at h1
/-- the locals -/
def x_RL (E : xE) (al : List Nat) (sl : List xV) (lv : List (Nat × Value)) : Prop := ∀ (i : Nat) (v : xV), sl[i]? = some v → v.1 ≠ 9 → ∃ V, (i, V) ∈ lv ∧ x_rv E al v V
theorem x_RL.mono {E : xE} {al be : List Nat} {sl : List xV} {lv : List (Nat × Value)} (hp : al <+: be) (h : x_RL E al sl lv) : x_RL E be sl lv := fun i v hi hv => by
  obtain ⟨V, h1, h2⟩ := h i v hi hv
  exact ⟨V, h1, h2.mono hp⟩
