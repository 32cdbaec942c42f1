/-! A SMALL MACHINE IN FUNCTIONS: what a run of the bytecode does to numbers, references and cells, in a form that the kernel counts through; and what it says of the machine itself. -/
abbrev xV : Type := Nat × Nat
abbrev xC : Type := Nat × List xV
/-- the cells: how many, and in rows of sixteen -/
abbrev xW : Type := Nat × List (List xC)
abbrev xT : Type := Nat × xV × xW × Nat × Nat
abbrev xK : Type := Nat → List xV → List xV → xW → Nat → Nat → Option xT
abbrev xF : Type := Nat → List xV → xW → Option xT
abbrev xO : Type := xF → xK → List xV → List xV → xW → Nat → Nat → Option xT
abbrev xE : Type := va_G × (Nat → ClassId) × Nat × (Nat → Int32) × (Nat → Nat)
abbrev xP : Type := List ((Nat × xV × xV) × xV)
/-- the value at a place, handed on -/
noncomputable def x_nth {α β : Type} (l : List α) : Nat → (α → Option β) → Option β := List.rec (motive := fun _ => Nat → (α → Option β) → Option β) (fun _ _ => none) (fun a _ ih n k => Nat.rec (motive := fun _ => Option β) (k a) (fun m _ => ih m k) n) l
theorem x_nth_some {α β : Type} {l : List α} {n : Nat} {k : α → Option β} {r : β} (h : x_nth l n k = some r) : ∃ a, l[n]? = some a ∧ k a = some r := by
  induction l generalizing n with
  | nil => cases h
  | cons a t ih =>
    cases n with
    | zero => exact ⟨a, rfl, h⟩
    | succ n => exact ih (n := n) h
/-- the list with a value put at a place, handed on -/
noncomputable def x_set {α β : Type} (v : α) (l : List α) : Nat → (List α → Option β) → Option β := List.rec (motive := fun _ => Nat → (List α → Option β) → Option β) (fun _ _ => none) (fun a t ih n k => Nat.rec (motive := fun _ => Option β) (k (v :: t)) (fun m _ => ih m (fun t' => k (a :: t'))) n) l
theorem x_set_some {α β : Type} {v : α} {l : List α} {n : Nat} {k : List α → Option β} {r : β} (h : x_set v l n k = some r) : n < l.length ∧ k (l.set n v) = some r := by
  induction l generalizing n k with
  | nil => cases h
  | cons a t ih =>
    cases n with
    | zero => exact ⟨Nat.succ_pos _, h⟩
    | succ n =>
      obtain ⟨h1, h2⟩ := ih (n := n) (k := fun t' => k (a :: t')) h
      exact ⟨Nat.succ_lt_succ h1, h2⟩
/-- a row with one thing more at its end, handed on -/
noncomputable def x_push {α β : Type} (v : α) (l : List α) : (List α → Option β) → Option β := List.rec (motive := fun _ => (List α → Option β) → Option β) (fun k => k [v]) (fun a _ ih k => ih (fun t' => k (a :: t'))) l
theorem x_push_eq {α β : Type} {v : α} {l : List α} {k : List α → Option β} : x_push v l k = k (l ++ [v]) := by
  induction l generalizing k with
  | nil => rfl
  | cons a t ih => exact ih (k := fun t' => k (a :: t'))
/-- a number, counted out -/
noncomputable def x_fn {β : Type} (n : Nat) (k : Nat → β) : β := Nat.rec (motive := fun _ => β) (k 0) (fun m _ => k (Nat.succ m)) n
theorem x_fn_eq {β : Type} (n : Nat) (k : Nat → β) : x_fn n k = k n := by cases n <;> rfl
def x_if {β : Type} (b : Bool) (k : Option β) : Option β := match b with
  | true => k
  | false => none
theorem x_if_some {β : Type} {b : Bool} {k : Option β} {r : β} (h : x_if b k = some r) : b = true ∧ k = some r := by
  cases b
  · cases h
  · exact ⟨rfl, h⟩
def x_pop {β : Type} (st : List xV) (k : xV → List xV → Option β) : Option β := match st with
  | [] => none
  | v :: t => k v t
theorem x_pop_some {β : Type} {st : List xV} {k : xV → List xV → Option β} {r : β} (h : x_pop st k = some r) : ∃ v t, st = v :: t ∧ k v t = some r := by
  cases st with
  | nil => cases h
  | cons v t => exact ⟨v, t, rfl, h⟩
/-- the payload of a value of that kind -/
def x_tag {β : Type} (t : Nat) (v : xV) (k : Nat → Option β) : Option β := match v with
  | (a, n) => x_if (Nat.beq a t) (k n)
theorem x_tag_some {β : Type} {t : Nat} {v : xV} {k : Nat → Option β} {r : β} (h : x_tag t v k = some r) : ∃ n, v = (t, n) ∧ k n = some r := by
  obtain ⟨a, n⟩ := v
  obtain ⟨h1, h2⟩ := x_if_some h
  exact ⟨n, by rw [Nat.eq_of_beq_eq_true h1], h2⟩
theorem x_nI (x : Int32) : nI x.toUInt32.toNat = x := by
  unfold nI
  apply Int32.toBitVec_inj.mp
  simp [Int32.ofNat, UInt32.toNat]
theorem x_lN (x : Int64) : lN x.toUInt64.toNat = x := by
  unfold lN
  apply Int64.toBitVec_inj.mp
  simp [Int64.ofNat, UInt64.toNat]
/-! the cells by their numbers -/
def x_cl (w : xW) (i : Nat) : Option xC := (w.2[i / 16]?).bind fun row => row[i % 16]?
noncomputable def x_wn {β : Type} (w : xW) (i : Nat) (k : xC → Option β) : Option β := x_nth w.2 (i / 16) fun row => x_nth row (i % 16) k
theorem x_wn_some {β : Type} {w : xW} {i : Nat} {k : xC → Option β} {r : β} (h : x_wn w i k = some r) : ∃ a, x_cl w i = some a ∧ k a = some r := by
  obtain ⟨row, h1, h2⟩ := x_nth_some h
  obtain ⟨a, h3, h4⟩ := x_nth_some h2
  exact ⟨a, by unfold x_cl; rw [h1]; exact h3, h4⟩
def x_up (w : xW) (i : Nat) (v : xC) : xW := (w.1, w.2.set (i / 16) (((w.2[i / 16]?).getD []).set (i % 16) v))
noncomputable def x_wt {β : Type} (v : xC) (w : xW) (i : Nat) (k : xW → Option β) : Option β := x_nth w.2 (i / 16) fun row => x_set v row (i % 16) fun row' => x_set row' w.2 (i / 16) fun l' => k (w.1, l')
theorem x_wt_some {β : Type} {v : xC} {w : xW} {i : Nat} {k : xW → Option β} {r : β} (h : x_wt v w i k = some r) : True ∧ k (x_up w i v) = some r := by
  obtain ⟨row, h1, h2⟩ := x_nth_some h
  obtain ⟨-, h3⟩ := x_set_some h2
  obtain ⟨-, h4⟩ := x_set_some h3
  refine ⟨trivial, ?_⟩
  unfold x_up
  rw [h1]
  exact h4
theorem x_up_at {w : xW} {i : Nat} {v : xC} {j : Nat} {c : xC} (h : x_cl (x_up w i v) j = some c) : (i = j ∧ c = v) ∨ (i ≠ j ∧ x_cl w j = some c) := by
  have h' : ((w.2.set (i / 16) (((w.2[i / 16]?).getD []).set (i % 16) v))[j / 16]?).bind (fun row => row[j % 16]?) = some c := h
  by_cases h1 : i / 16 = j / 16
  · rw [← h1] at h'
    cases hr : w.2[i / 16]? with
    | none =>
      have hl : w.2.length ≤ i / 16 := List.getElem?_eq_none_iff.mp hr
      rw [List.getElem?_eq_none (by rw [List.length_set]; exact hl)] at h'
      cases h'
    | some row =>
      rw [List.getElem?_set_self (List.getElem?_eq_some_iff.mp hr).1, hr] at h'
      have h2 : (row.set (i % 16) v)[j % 16]? = some c := h'
      by_cases h3 : i % 16 = j % 16
      · rw [← h3] at h2
        have hl : i % 16 < row.length := by
          have := (List.getElem?_eq_some_iff.mp h2).1
          rwa [List.length_set] at this
        rw [List.getElem?_set_self hl] at h2
        exact Or.inl ⟨by omega, (Option.some.inj h2).symm⟩
      · rw [List.getElem?_set_ne h3] at h2
        refine Or.inr ⟨fun e => h3 (by rw [e]), ?_⟩
        unfold x_cl
        rw [← h1, hr]
        exact h2
  · rw [List.getElem?_set_ne h1] at h'
    exact Or.inr ⟨fun e => h1 (by rw [e]), h'⟩
/-- the cells cs are put behind those of w -/
def x_Ps (w : xW) (cs : List xC) (w' : xW) : Prop := w'.1 = w.1 + cs.length ∧ (∀ (j : Nat) (c : xC), j < w.1 → x_cl w' j = some c → x_cl w j = some c) ∧ ∀ (j : Nat) (c : xC), x_cl w' (w.1 + j) = some c → j < cs.length → cs[j]? = some c
noncomputable def x_wp {β : Type} (v : xC) (w : xW) (k : xW → Option β) : Option β := match Nat.beq (w.1 % 16) 0 with
  | true => x_if (Nat.beq w.2.length (w.1 / 16)) (x_push [v] w.2 fun l' => x_fn (w.1 + 1) fun z => k (z, l'))
  | false => x_nth w.2 (w.1 / 16) fun row => x_if (Nat.beq row.length (w.1 % 16)) (x_push v row fun row' => x_set row' w.2 (w.1 / 16) fun l' => x_fn (w.1 + 1) fun z => k (z, l'))
theorem x_wp_some {β : Type} {v : xC} {w : xW} {k : xW → Option β} {r : β} (h : x_wp v w k = some r) : ∃ w', x_Ps w [v] w' ∧ k w' = some r := by
  unfold x_wp at h
  cases hb : Nat.beq (w.1 % 16) 0 with
  | true =>
    rw [hb] at h
    have hm : w.1 % 16 = 0 := Nat.eq_of_beq_eq_true hb
    obtain ⟨h1, h2⟩ := x_if_some h
    have hl : w.2.length = w.1 / 16 := Nat.eq_of_beq_eq_true h1
    rw [x_push_eq, x_fn_eq] at h2
    refine ⟨_, ⟨rfl, fun j c hj hc => ?_, fun j c hc hj => ?_⟩, h2⟩
    · have hc' : ((w.2 ++ [[v]])[j / 16]?).bind (fun row => row[j % 16]?) = some c := hc
      rw [List.getElem?_append_left (by omega)] at hc'
      exact hc'
    · have hj0 : j = 0 := by simpa using hj
      subst hj0
      have hc' : ((w.2 ++ [[v]])[(w.1 + 0) / 16]?).bind (fun row => row[(w.1 + 0) % 16]?) = some c := hc
      rw [Nat.add_zero, ← hl, hm, List.getElem?_append_right (Nat.le_refl _), Nat.sub_self] at hc'
      exact hc'
  | false =>
    rw [hb] at h
    obtain ⟨row, h1, h2⟩ := x_nth_some h
    obtain ⟨h3, h4⟩ := x_if_some h2
    have hl : row.length = w.1 % 16 := Nat.eq_of_beq_eq_true h3
    rw [x_push_eq] at h4
    obtain ⟨h5, h6⟩ := x_set_some h4
    rw [x_fn_eq] at h6
    refine ⟨_, ⟨rfl, fun j c hj hc => ?_, fun j c hc hj => ?_⟩, h6⟩
    · have hc' : ((w.2.set (w.1 / 16) (row ++ [v]))[j / 16]?).bind (fun row => row[j % 16]?) = some c := hc
      unfold x_cl
      by_cases e : w.1 / 16 = j / 16
      · rw [← e, List.getElem?_set_self h5] at hc'
        rw [← e, h1]
        have h7 : (row ++ [v])[j % 16]? = some c := hc'
        rw [List.getElem?_append_left (by omega)] at h7
        exact h7
      · rw [List.getElem?_set_ne e] at hc'
        exact hc'
    · have hj0 : j = 0 := by simpa using hj
      subst hj0
      have hc' : ((w.2.set (w.1 / 16) (row ++ [v]))[(w.1 + 0) / 16]?).bind (fun row => row[(w.1 + 0) % 16]?) = some c := hc
      rw [Nat.add_zero, List.getElem?_set_self h5] at hc'
      have h7 : (row ++ [v])[w.1 % 16]? = some c := hc'
      rw [← hl, List.getElem?_append_right (Nat.le_refl _), Nat.sub_self] at h7
      exact h7
noncomputable def x_wps {β : Type} (cs : List xC) : xW → (xW → Option β) → Option β := List.rec (motive := fun _ => xW → (xW → Option β) → Option β) (fun w k => k w) (fun c _ ih w k => x_wp c w fun w' => ih w' k) cs
theorem x_wps_some {β : Type} {cs : List xC} : ∀ {w : xW} {k : xW → Option β} {r : β}, x_wps cs w k = some r → ∃ w', x_Ps w cs w' ∧ k w' = some r := by
  induction cs with
  | nil => exact fun {w k r} h => ⟨w, ⟨rfl, fun j c _ hc => hc, fun j c _ hj => absurd hj (Nat.not_lt_zero j)⟩, h⟩
  | cons c cs ih =>
    intro w k r h
    obtain ⟨w1, ⟨a1, a2, a3⟩, h2⟩ := x_wp_some (show x_wp c w (fun w' => x_wps cs w' k) = some r from h)
    obtain ⟨w', ⟨b1, b2, b3⟩, h4⟩ := ih h2
    have e1 : w1.1 = w.1 + 1 := a1
    refine ⟨w', ⟨by rw [b1, e1, List.length_cons]; omega, fun j d hj hd => a2 j d hj (b2 j d (by omega) hd), fun j d hd hj => ?_⟩, h4⟩
    cases j with
    | zero => exact a3 0 d (b2 w.1 d (by omega) hd) (Nat.zero_lt_one)
    | succ j =>
      rw [List.getElem?_cons_succ]
      exact b3 j d (by rw [e1, show w.1 + 1 + j = w.1 + (j + 1) by omega]; exact hd) (Nat.lt_of_succ_lt_succ hj)
