/-! A SMALL MACHINE IN FUNCTIONS: what a run of the bytecode does to numbers, references and cells, in a form that the kernel counts through; and what it says of the machine itself. -/
abbrev xV : Type := Nat × Nat
abbrev xC : Type := Nat × List xV
abbrev xW : Type := List xC
abbrev xT : Type := Nat × xV × xW × Nat × Nat
abbrev xK : Type := Nat → List xV → List xV → xW → Nat → Nat → Option xT
abbrev xF : Type := Nat → List xV → xW → Option xT
abbrev xO : Type := xF → xK → List xV → List xV → xW → Nat → Nat → Option xT
abbrev xE : Type := va_G × (Nat → ClassId) × Nat × (Nat → Int32) × (Nat → Nat)
abbrev xP : Type := List ((Nat × xV × xV) × xV)
/-- the value at a place, handed on -/
noncomputable def x_nth {α β : Type} (l : List α) : Nat → (α → Option β) → Option β := List.rec (motive := fun _ => Nat → (α → Option β) → Option β) (fun _ _ => none) (fun a _ ih n k => Nat.rec (motive := fun _ => Option β) (k a) (fun m _ => ih m k) n) l
theorem x_nth_some {α β : Type} {l : List α} {n : Nat} {k : α → Option β} {r : β} (h : x_nth l n k = some r) : ∃ a, l[n]? = some a ∧ k a = some r := by
  induction l generalizing n with
  | nil => cases h
  | cons a t ih =>
    cases n with
    | zero => exact ⟨a, rfl, h⟩
    | succ n => exact ih (n := n) h
/-- the list with a value put at a place, handed on -/
noncomputable def x_set {α β : Type} (v : α) (l : List α) : Nat → (List α → Option β) → Option β := List.rec (motive := fun _ => Nat → (List α → Option β) → Option β) (fun _ _ => none) (fun a t ih n k => Nat.rec (motive := fun _ => Option β) (k (v :: t)) (fun m _ => ih m (fun t' => k (a :: t'))) n) l
theorem x_set_some {α β : Type} {v : α} {l : List α} {n : Nat} {k : List α → Option β} {r : β} (h : x_set v l n k = some r) : n < l.length ∧ k (l.set n v) = some r := by
  induction l generalizing n k with
  | nil => cases h
  | cons a t ih =>
    cases n with
    | zero => exact ⟨Nat.succ_pos _, h⟩
    | succ n =>
      obtain ⟨h1, h2⟩ := ih (n := n) (k := fun t' => k (a :: t')) h
      exact ⟨Nat.succ_lt_succ h1, h2⟩
/-- a row with one thing more at its end, handed on -/
noncomputable def x_push {α β : Type} (v : α) (l : List α) : (List α → Option β) → Option β := List.rec (motive := fun _ => (List α → Option β) → Option β) (fun k => k [v]) (fun a _ ih k => ih (fun t' => k (a :: t'))) l
theorem x_push_eq {α β : Type} {v : α} {l : List α} {k : List α → Option β} : x_push v l k = k (l ++ [v]) := by
  induction l generalizing k with
  | nil => rfl
  | cons a t ih => exact ih (k := fun t' => k (a :: t'))
/-- a number, counted out -/
noncomputable def x_fn {β : Type} (n : Nat) (k : Nat → β) : β := Nat.rec (motive := fun _ => β) (k 0) (fun m _ => k (Nat.succ m)) n
theorem x_fn_eq {β : Type} (n : Nat) (k : Nat → β) : x_fn n k = k n := by cases n <;> rfl
def x_if {β : Type} (b : Bool) (k : Option β) : Option β := match b with
  | true => k
  | false => none
theorem x_if_some {β : Type} {b : Bool} {k : Option β} {r : β} (h : x_if b k = some r) : b = true ∧ k = some r := by
  cases b
  · cases h
  · exact ⟨rfl, h⟩
def x_pop {β : Type} (st : List xV) (k : xV → List xV → Option β) : Option β := match st with
  | [] => none
  | v :: t => k v t
theorem x_pop_some {β : Type} {st : List xV} {k : xV → List xV → Option β} {r : β} (h : x_pop st k = some r) : ∃ v t, st = v :: t ∧ k v t = some r := by
  cases st with
  | nil => cases h
  | cons v t => exact ⟨v, t, rfl, h⟩
/-- the payload of a value of that kind -/
def x_tag {β : Type} (t : Nat) (v : xV) (k : Nat → Option β) : Option β := match v with
  | (a, n) => x_if (Nat.beq a t) (k n)
theorem x_tag_some {β : Type} {t : Nat} {v : xV} {k : Nat → Option β} {r : β} (h : x_tag t v k = some r) : ∃ n, v = (t, n) ∧ k n = some r := by
  obtain ⟨a, n⟩ := v
  obtain ⟨h1, h2⟩ := x_if_some h
  exact ⟨n, by rw [Nat.eq_of_beq_eq_true h1], h2⟩
theorem x_nI (x : Int32) : nI x.toUInt32.toNat = x := by
  unfold nI
  apply Int32.toBitVec_inj.mp
  simp [Int32.ofNat, UInt32.toNat]
theorem x_lN (x : Int64) : lN x.toUInt64.toNat = x := by
  unfold lN
  apply Int64.toBitVec_inj.mp
  simp [Int64.ofNat, UInt64.toNat]
