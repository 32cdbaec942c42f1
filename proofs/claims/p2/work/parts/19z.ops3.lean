/-! TWO INSTRUCTIONS MORE -/
section XOPS3
variable {ms : List xM} {Z : xD} {own nm : String} {cc : ByteArray} {nL : Nat} {rt : Option FieldType} {hh : List (Nat × Nat × Nat × Nat)} {pc : Nat}
noncomputable def xo_lshr (nx : Nat) : xO := fun _ c ls st w k n => x_pop st fun y t => x_pop t fun x t => x_tag 2 y fun b => x_tag 3 x fun a => x_fn (lN a >>> ((nI b).toInt64 &&& 63)).toUInt64.toNat fun z => c nx ls ((3, z) :: t) w k n
theorem xs_lshr (hd : decode cc pc = .ok (.lshr, 1)) : x_Ok ms Z own nm cc nL rt hh pc (xo_lshr (pc + 1)) :=
  x_lift fun fn cont ls st w k n r h => by
    replace h := x_pop_some h
    obtain ⟨y, t, rfl, h⟩ := h
    replace h := x_pop_some h
    obtain ⟨x, t, rfl, h⟩ := h
    replace h := x_tag_some h
    obtain ⟨b, rfl, h⟩ := h
    replace h := x_tag_some h
    obtain ⟨a, rfl, h⟩ := h
    rw [x_fn_eq] at h
    refine ⟨_, _, h, fun E al vst hF hV => ?_⟩
    replace hV := hV.cons
    obtain ⟨Y, vst, rfl, hY, hV⟩ := hV
    replace hV := hV.cons
    obtain ⟨X, vst, rfl, hX, hV⟩ := hV
    cases hX
    cases hY
    exact ⟨.long (lN a >>> ((nI b).toInt64 &&& 63)) :: vst, ⟨by show Value.long _ = .long (lN _); rw [x_lN], hV⟩, fun p l e R s m args below meth c H locs k n Q als hx hb ho hts kk => lv_lshr hx hb hd rfl kk⟩
noncomputable def xo_l2i (nx : Nat) : xO := fun _ c ls st w k n => x_pop st fun x t => x_tag 3 x fun a => x_fn (lN a).toInt32.toUInt32.toNat fun z => c nx ls ((2, z) :: t) w k n
theorem xs_l2i (hd : decode cc pc = .ok (.l2i, 1)) : x_Ok ms Z own nm cc nL rt hh pc (xo_l2i (pc + 1)) :=
  x_lift fun fn cont ls st w k n r h => by
    replace h := x_pop_some h
    obtain ⟨x, t, rfl, h⟩ := h
    replace h := x_tag_some h
    obtain ⟨a, rfl, h⟩ := h
    rw [x_fn_eq] at h
    refine ⟨_, _, h, fun E al vst hF hV => ?_⟩
    replace hV := hV.cons
    obtain ⟨X, vst, rfl, hX, hV⟩ := hV
    cases hX
    exact ⟨.int (lN a).toInt32 :: vst, ⟨by show Value.int _ = .int (nI _); rw [x_nI], hV⟩, fun p l e R s m args below meth c H locs k n Q als hx hb ho hts kk => lv_l2i hx hb hd rfl kk⟩
end XOPS3
