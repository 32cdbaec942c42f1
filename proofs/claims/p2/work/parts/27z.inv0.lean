/-! A CALL THAT RETURNS, WHATEVER THE FRAME'S NAME AND TABLE -/
section XINV0
variable {ms : List xM} {Z : xD} {own nm : String} {cc : ByteArray} {nL : Nat} {rt : Option FieldType} {hh : List (Nat × Nat × Nat × Nat)} {pc : Nat}
noncomputable def x_back0 (c : xK) (nx : Nat) (ls t : List xV) (k n : Nat) (o : Option xT) : Option xT := match o with
  | none => none
  | some (kd, v, w', dk, dn) => x_fn (k + dk) fun k' => x_fn (n + dn) fun n' => x_br (Nat.beq kd 0) (c nx ls (v :: t) w' k' n') (x_br (Nat.beq kd 1) (c nx ls t w' k' n') none)
theorem x_back0_some {c : xK} {nx : Nat} {ls t : List xV} {k n : Nat} {o : Option xT} {r : xT} (h : x_back0 c nx ls t k n o = some r) : ∃ r2 : xT, o = some r2 ∧ ((r2.1 = 0 ∧ c nx ls (r2.2.1 :: t) r2.2.2.1 (k + r2.2.2.2.1) (n + r2.2.2.2.2) = some r) ∨ (r2.1 = 1 ∧ c nx ls t r2.2.2.1 (k + r2.2.2.2.1) (n + r2.2.2.2.2) = some r)) := by
  cases o with
  | none => cases h
  | some r2 =>
    obtain ⟨kd, v, w', dk, dn⟩ := r2
    have h' : x_fn (k + dk) (fun k' => x_fn (n + dn) fun n' => x_br (Nat.beq kd 0) (c nx ls (v :: t) w' k' n') (x_br (Nat.beq kd 1) (c nx ls t w' k' n') none)) = some r := h
    rw [x_fn_eq, x_fn_eq] at h'
    refine ⟨_, rfl, ?_⟩
    cases h0 : Nat.beq kd 0 with
    | true =>
      rw [h0] at h'
      exact Or.inl ⟨Nat.eq_of_beq_eq_true h0, h'⟩
    | false =>
      rw [h0] at h'
      cases h1 : Nat.beq kd 1 with
      | true =>
        have h2 : x_br (Nat.beq kd 1) (c nx ls t w' (k + dk) (n + dn)) none = some r := h'
        rw [h1] at h2
        exact Or.inr ⟨Nat.eq_of_beq_eq_true h1, h2⟩
      | false =>
        have h2 : x_br (Nat.beq kd 1) (c nx ls t w' (k + dk) (n + dn)) none = some r := h'
        rw [h1] at h2
        cases h2
noncomputable def xo_inv0 (ck : xW → List xV → Bool) (u na nx : Nat) : xO := fun fn c ls st w k n => x_args na st [] fun av t => x_if (ck w av && Nat.ble (x_cat t) 8) (x_back0 c nx ls t k n (fn u av w))
theorem xs_inv0 {ck : xW → List xV → Bool} {u na dp : Nat} {M : xM} (hu : ms[u]? = some M) (row : x_CallRow na dp M own nm cc nL rt hh pc Z ck) : x_Ok ms Z own nm cc nL rt hh pc (xo_inv0 ck u na (pc + dp)) := by
  intro d fn hfn E al0 r p l e R s m args below meth c Q hC cont ih ls st w k n h
  replace h := x_args_some h
  obtain ⟨av, t, hna, rfl, h⟩ := h
  rw [List.append_nil] at h
  obtain ⟨h0, h⟩ := x_if_some h
  obtain ⟨r2, h1, h⟩ := x_back0_some h
  simp only [Bool.and_eq_true] at h0
  have hctr := hfn u M av w r2 hu h1
  have hC' := hC
  obtain ⟨hx, hb, hml, ho, hts, hK, hE, hb0, hlk, hfl, -, htab, hF, ⟨hR3, hR4, hR1, hR2⟩, -, hthr⟩ := hC
  have hkn : k + r2.2.2.2.1 ≤ r.2.2.2.1 ∧ n + r2.2.2.2.2 ≤ r.2.2.2.2 := by
    rcases h with ⟨-, h⟩ | ⟨-, h⟩
    · have g := ih _ _ _ _ _ _ h
      exact ⟨g.1, g.2.1⟩
    · have g := ih _ _ _ _ _ _ h
      exact ⟨g.1, g.2.1⟩
  refine ⟨Nat.le_trans (Nat.le_add_right _ _) hkn.1, Nat.le_trans (Nat.le_add_right _ _) hkn.2, fun ws H locs als lv vst hW hal hS hl hL hV => ?_⟩
  obtain ⟨m1, m2, rfl, hV1, hV2⟩ := hV.split
  have hV3 := hV1.rev
  rw [List.reverse_reverse] at hV3
  have hcat : (m2.map fun v => v.category).sum ≤ 8 := Nat.le_trans (x_cat_le hV2) (Nat.le_of_ble_eq_true h0.2)
  have hrow := row d E al0 r p l e R s m args below meth c Q hC' w ws H locs als k n av m1.reverse m2 r2 hl.1 hW hS hna hV3 h0.1 hcat (Nat.le_trans hkn.1 hR1) (Nat.le_trans hkn.2 hR2) (hctr l E m1.reverse ws hfl hF hV3)
  rw [List.reverse_reverse] at hrow
  refine x_after hrow hS (fun vo ws' H1 locs1 hro hW1 hal1 hS1 => ?_) (fun h2 q9 ce ws' H1 locs1 hW1 hal1 hS1 hce hcv hcl => ?_)
  · rcases hro with ⟨hk0, V, rfl, hV4⟩ | ⟨hk1, rfl⟩
    · rcases h with ⟨-, h⟩ | ⟨h9, -⟩
      · exact (ih _ _ _ _ _ _ h).2.2 ws' H1 locs1 als lv (V :: m2) hW1 (hal.trans hal1) hS1 hl (hL.mono hal1) ⟨hV4, hV2.mono hal1⟩
      · omega
    · rcases h with ⟨h9, -⟩ | ⟨-, h⟩
      · omega
      · exact (ih _ _ _ _ _ _ h).2.2 ws' H1 locs1 als lv m2 hW1 (hal.trans hal1) hS1 hl (hL.mono hal1) (hV2.mono hal1)
  · rcases h with ⟨h9, -⟩ | ⟨h9, -⟩
    · omega
    · omega
end XINV0
