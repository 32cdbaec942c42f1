/-! A WORLD OF FEWER CELLS -/
section XSHR
/-- a value of the small world as one of the large: idx the large world's places; 8: any reference that isn't null -/
noncomputable def x_pv (idx : List Nat) (u v : xV) : Bool := match Nat.beq u.1 8 with
  | true => Nat.beq v.1 1 || Nat.beq v.1 8
  | false => match Nat.beq u.1 1 with
    | true => Nat.beq v.1 1 && x_at idx (fun i => Nat.beq i v.2) u.2
    | false => Nat.beq u.1 v.1 && Nat.beq u.2 v.2
theorem x_pv_rv {E : xE} {al al0 : List Nat} {idx : List Nat} (hal : ∀ (k i : Nat), idx[k]? = some i → al0[k]? = al[i]?) {u v : xV} {V : Value} (h : x_pv idx u v = true) (hv : x_rv E al v V) : x_rv E al0 u V := by
  unfold x_pv at h
  cases h8 : Nat.beq u.1 8 with
  | true =>
    rw [h8] at h
    have e8 := Nat.eq_of_beq_eq_true h8
    obtain ⟨t, n⟩ := u
    dsimp only at e8
    subst e8
    have h' : (Nat.beq v.1 1 || Nat.beq v.1 8) = true := h
    obtain ⟨t, n'⟩ := v
    simp only [Bool.or_eq_true] at h'
    rcases h' with h' | h'
    · have e1 : t = 1 := Nat.eq_of_beq_eq_true h'
      subst e1
      obtain ⟨a, -, h2⟩ := hv
      exact ⟨a, h2⟩
    · have e1 : t = 8 := Nat.eq_of_beq_eq_true h'
      subst e1
      exact hv
  | false =>
    rw [h8] at h
    cases h1 : Nat.beq u.1 1 with
    | true =>
      have h' : (match Nat.beq u.1 1 with
        | true => Nat.beq v.1 1 && x_at idx (fun i => Nat.beq i v.2) u.2
        | false => Nat.beq u.1 v.1 && Nat.beq u.2 v.2) = true := h
      rw [h1] at h'
      have h2 : (Nat.beq v.1 1 && x_at idx (fun i => Nat.beq i v.2) u.2) = true := h'
      simp only [Bool.and_eq_true] at h2
      obtain ⟨h3, h4⟩ := h2
      obtain ⟨i, h5, h6⟩ := x_at_some h4
      have e6 : i = v.2 := Nat.eq_of_beq_eq_true h6
      obtain ⟨t, n⟩ := u
      obtain ⟨t', n'⟩ := v
      have e1 : t = 1 := Nat.eq_of_beq_eq_true h1
      have e3 : t' = 1 := Nat.eq_of_beq_eq_true h3
      dsimp only at e6
      subst e1; subst e3; subst e6
      obtain ⟨a, h7, h8⟩ := hv
      exact ⟨a, (hal n i h5).trans h7, h8⟩
    | false =>
      have h' : (match Nat.beq u.1 1 with
        | true => Nat.beq v.1 1 && x_at idx (fun i => Nat.beq i v.2) u.2
        | false => Nat.beq u.1 v.1 && Nat.beq u.2 v.2) = true := h
      rw [h1] at h'
      have h2 : (Nat.beq u.1 v.1 && Nat.beq u.2 v.2) = true := h'
      simp only [Bool.and_eq_true] at h2
      have e : u = v := Prod.ext (Nat.eq_of_beq_eq_true h2.1) (Nat.eq_of_beq_eq_true h2.2)
      subst e
      obtain ⟨t, n⟩ := u
      have n1 : t ≠ 1 := fun q => by
        subst q
        cases h1
      match t, n1, hv with
      | 0, _, hv => exact hv
      | 1, n1, _ => exact absurd rfl n1
      | 2, _, hv => exact hv
      | 3, _, hv => exact hv
      | 4, _, hv => exact hv
      | 5, _, hv => exact hv
      | 6, _, hv => exact hv
      | 7, _, hv => exact hv
      | 8, _, hv => exact hv
      | t + 9, _, hv => exact hv.elim
noncomputable def x_pl (idx : List Nat) : List xV → List xV → Bool
  | [], [] => true
  | u :: us, v :: vs => x_pv idx u v && x_pl idx us vs
  | _, _ => false
theorem x_pl_len {idx : List Nat} : ∀ {us vs : List xV}, x_pl idx us vs = true → us.length = vs.length
  | [], [], _ => rfl
  | u :: us, v :: vs, h => by
    simp only [x_pl, Bool.and_eq_true] at h
    rw [List.length_cons, List.length_cons, x_pl_len h.2]
  | [], _ :: _, h => by simp [x_pl] at h
  | _ :: _, [], h => by simp [x_pl] at h
theorem x_pl_at {idx : List Nat} : ∀ {us vs : List xV}, x_pl idx us vs = true → ∀ {j : Nat} {u : xV}, us[j]? = some u → ∃ v, vs[j]? = some v ∧ x_pv idx u v = true
  | [], [], _, j, u, hj => by simp at hj
  | a :: us, b :: vs, h, 0, u, hj => by
    simp only [x_pl, Bool.and_eq_true] at h
    cases hj
    exact ⟨b, rfl, h.1⟩
  | a :: us, b :: vs, h, j + 1, u, hj => by
    simp only [x_pl, Bool.and_eq_true] at h
    exact x_pl_at h.2 (j := j) hj
  | [], _ :: _, h, _, _, _ => by simp [x_pl] at h
  | _ :: _, [], h, _, _, _ => by simp [x_pl] at h
theorem x_pl_RS {E : xE} {al al0 : List Nat} {idx : List Nat} (hal : ∀ (k i : Nat), idx[k]? = some i → al0[k]? = al[i]?) : ∀ {us vs : List xV} {m : List Value}, x_pl idx us vs = true → x_RS E al vs m → x_RS E al0 us m
  | [], [], [], _, _ => trivial
  | u :: us, v :: vs, V :: m, h, hv => by
    simp only [x_pl, Bool.and_eq_true] at h
    exact ⟨x_pv_rv hal h.1 hv.1, x_pl_RS hal (us := us) (vs := vs) (m := m) h.2 hv.2⟩
  | [], [], _ :: _, _, hv => False.elim hv
  | _ :: _, _ :: _, [], _, hv => False.elim hv
  | [], _ :: _, _, h, _ => by simp [x_pl] at h
  | _ :: _, [], _, h, _ => by simp [x_pl] at h
theorem x_pl_RC {E : xE} {al al0 : List Nat} {idx : List Nat} (hal : ∀ (k i : Nat), idx[k]? = some i → al0[k]? = al[i]?) {c c0 : xC} {e : va_E} (ht : c0.1 = c.1) (h : x_pl idx c0.2 c.2 = true) (hc : x_RC E al c e) : x_RC E al0 c0 e := by
  have hl := x_pl_len h
  have hg : ∀ (F : Nat → Value), (∀ j v, c.2[j]? = some v → x_rv E al v (F j)) → ∀ j u, c0.2[j]? = some u → x_rv E al0 u (F j) := fun F hF j u hj => by
    obtain ⟨v, h1, h2⟩ := x_pl_at h hj
    exact x_pv_rv hal h2 (hF j v h1)
  unfold x_RC
  rw [ht, hl]
  rcases hc with ⟨h1, vs, h2, h3⟩ | ⟨h1, f, h2, h3⟩ | ⟨h1, f, h2, h3⟩ | ⟨h1, f, h2, h3⟩ | ⟨h0, h1, f, h2, h3⟩
  · exact Or.inl ⟨h1, vs, h2, x_pl_RS hal h h3⟩
  · exact Or.inr (Or.inl ⟨h1, f, h2, hg (fun j => .int (f j)) h3⟩)
  · exact Or.inr (Or.inr (Or.inl ⟨h1, f, h2, hg (fun j => .long (f j)) h3⟩))
  · exact Or.inr (Or.inr (Or.inr (Or.inl ⟨h1, f, h2, hg (fun j => .double (f j)) h3⟩)))
  · exact Or.inr (Or.inr (Or.inr (Or.inr ⟨h0, h1, f, h2, hg (fun j => va_rf (f j)) h3⟩)))
/-- the cells cs are those of w at the places idx -/
noncomputable def x_sm (idx : List Nat) (w : xW) : List Nat → List xC → Bool
  | [], [] => true
  | i :: t, c :: cs => (Nat.blt i w.1 && x_wat w (fun q => Nat.beq c.1 q.1 && x_pl idx c.2 q.2) i) && x_sm idx w t cs
  | _, _ => false
theorem x_sm_at {idx : List Nat} {w : xW} : ∀ {is : List Nat} {cs : List xC}, x_sm idx w is cs = true → is.length = cs.length ∧ ∀ {k : Nat} {i : Nat}, is[k]? = some i → i < w.1 ∧ ∃ c0 c, cs[k]? = some c0 ∧ x_cl w i = some c ∧ c0.1 = c.1 ∧ x_pl idx c0.2 c.2 = true
  | [], [], _ => ⟨rfl, fun {k i} h => by simp at h⟩
  | i0 :: t, c0 :: cs, h => by
    simp only [x_sm, Bool.and_eq_true] at h
    obtain ⟨⟨h1, h2⟩, h3⟩ := h
    obtain ⟨h4, h5⟩ := x_sm_at h3
    refine ⟨by rw [List.length_cons, List.length_cons, h4], fun {k i} hk => ?_⟩
    cases k with
    | zero =>
      cases hk
      obtain ⟨c, h6, h7⟩ := x_wat_some h2
      simp only [Bool.and_eq_true] at h7
      exact ⟨by simpa using h1, c0, c, rfl, h6, Nat.eq_of_beq_eq_true h7.1, h7.2⟩
    | succ k => exact h5 (k := k) hk
  | [], _ :: _, h => by simp [x_sm] at h
  | _ :: _, [], h => by simp [x_sm] at h
set_option maxHeartbeats 1000000 in
theorem x_shrink {E : xE} {w : xW} {ws : va_W} {H : Heap} {idx : List Nat} {cs : List xC} (hW : x_Wd E w ws H) (hnd : idx.Nodup) (h : x_sm idx w idx cs = true) : ∃ ws0 : va_W, x_Wd E (cs.length, [cs]) ws0 H ∧ ∀ (k i : Nat), idx[k]? = some i → (x_al ws0)[k]? = (x_al ws)[i]? := by
  obtain ⟨hlen, hat⟩ := x_sm_at h
  have hget : ∀ {k i : Nat}, idx[k]? = some i → ∃ q, ws[i]? = some q := fun {k i} hk => by
    have h1 := (hat hk).1
    rw [hW.1.1] at h1
    exact ⟨ws[i], List.getElem?_eq_getElem h1⟩
  let d0 : Nat × va_E := (0, .inr (0, []))
  let ws0 : va_W := idx.map fun i => (ws[i]?).getD d0
  have hws0 : ∀ {k : Nat} {q : Nat × va_E}, ws0[k]? = some q → ∃ i, idx[k]? = some i ∧ ws[i]? = some q := fun {k q} hk => by
    have hk' : (idx.map fun i => (ws[i]?).getD d0)[k]? = some q := hk
    rw [List.getElem?_map] at hk'
    cases hi : idx[k]? with
    | none => rw [hi] at hk'; cases hk'
    | some i =>
      rw [hi] at hk'
      obtain ⟨q2, h2⟩ := hget hi
      have h3 : (ws[i]?).getD d0 = q := Option.some.inj hk'
      rw [h2] at h3
      exact ⟨i, rfl, h2.trans (congrArg some h3)⟩
  have hal : ∀ (k i : Nat), idx[k]? = some i → (x_al ws0)[k]? = (x_al ws)[i]? := fun k i hk => by
    obtain ⟨q, hq⟩ := hget hk
    show (ws0.map (·.1))[k]? = (ws.map (·.1))[i]?
    have e1 : (ws.map (·.1))[i]? = some q.1 := by rw [List.getElem?_map, hq]; rfl
    have e2 : ws0[k]? = some q := by
      show (idx.map fun i => (ws[i]?).getD d0)[k]? = some q
      rw [List.getElem?_map, hk]
      show some ((ws[i]?).getD d0) = some q
      rw [hq]
      rfl
    rw [e1, List.getElem?_map, e2]
    rfl
  refine ⟨ws0, ⟨⟨by show cs.length = (idx.map _).length; rw [List.length_map, hlen], fun k c q hc hq => ?_⟩, fun k q hq => ?_, fun i j p q hp hq hpq => ?_, fun k q hq => ?_⟩, hal⟩
  · obtain ⟨i, hi, hqi⟩ := hws0 hq
    obtain ⟨-, c0, c1, h1, h2, h3, h4⟩ := hat hi
    have hcc : c = c0 := by
      have hc' : (([cs] : List (List xC))[k / 16]?).bind (fun row => row[k % 16]?) = some c := hc
      by_cases hk : k / 16 = 0
      · rw [hk] at hc'
        have h5 : cs[k % 16]? = some c := hc'
        rw [show k % 16 = k by omega, h1] at h5
        exact (Option.some.inj h5).symm
      · rw [List.getElem?_eq_none (by simp; omega)] at hc'
        cases hc'
    subst hcc
    exact x_pl_RC hal h3 h4 (hW.1.2 i c1 q h2 hqi)
  · obtain ⟨i, -, hqi⟩ := hws0 hq
    exact hW.2.1 i q hqi
  · obtain ⟨i', h1, h2⟩ := hws0 hp
    obtain ⟨j', h3, h4⟩ := hws0 hq
    have e := hW.2.2.1 i' j' p q h2 h4 hpq
    subst e
    exact (List.getElem?_inj (List.getElem?_eq_some_iff.mp h1).1 hnd).mp (h1.trans h3.symm)
  · obtain ⟨i, -, hqi⟩ := hws0 hq
    exact hW.2.2.2 i q hqi
end XSHR
