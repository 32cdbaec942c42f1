/-! THE LAW'S RUN -/
theorem x_gd_some {o : Option xT} (h : x_gd o = true) : ∃ r : xT, o = some r ∧ r.1 = 0 ∧ r.2.1 = (2, 1) ∧ r.2.2.2.1 ≤ 600006 ∧ r.2.2.2.2 ≤ 7302008 := by
  cases o with
  | none => cases h
  | some r =>
    obtain ⟨a, ⟨b1, b2⟩, w, k, n⟩ := r
    have h' : (Nat.beq a 0 && (Nat.beq b1 2 && (Nat.beq b2 1 && (Nat.ble k 600006 && Nat.ble n 7302008)))) = true := h
    simp only [Bool.and_eq_true] at h'
    obtain ⟨h1, h2, h3, h4, h5⟩ := h'
    have e1 := Nat.eq_of_beq_eq_true h1
    have e2 := Nat.eq_of_beq_eq_true h2
    have e3 := Nat.eq_of_beq_eq_true h3
    subst e1
    subst e2
    subst e3
    exact ⟨_, rfl, rfl, rfl, Nat.le_of_ble_eq_true h4, Nat.le_of_ble_eq_true h5⟩
set_option maxHeartbeats 1000000 in
theorem x_start {p : Program} {e : Env} {s : State} {m : MethodId} {below : List Frame} {meth : Method} {c : Code} (l : Launch) (hflags : l.flags = flags0) {b L : Nat} {xs : Nat → Int32} (C0 : lw_At p s m meth c b L xs) (P : xP) (rho : Nat → Int32) (hrho : ∀ j : Nat, j < L → rho j = xs j) (hP : ∀ E : xE, E.2.2.2.1 = rho → x_FOK E P) (hg : x_gd (x_law L P) = true) : W p l e room_1 s m #[Value.ref b] below meth c s.heap [] 0 0 (lw_Z below #[Value.ref b] s) (entryFrame m ([Value.ref b] : List Value).toArray 9) := by
  obtain ⟨hx, hb, hr0, hml, hown, hts, hX, hbl, hlocks, hgv⟩ := id C0
  obtain ⟨r, hrun, h0, hV, hk, hn⟩ := x_gd_some hg
  obtain ⟨E, e1, e2, e3, hK, hE⟩ := x_env C0 P rho hrho
  have hst : l.stackTraces = false := by
    show (!l.flags.contains noTraceFlag) = false
    rw [hflags]
    decide
  have hC : x_Cx "WeightlatticeLaw" meth.name code 9 (Option.some Jvm.ClassFile.FieldType.boolean) (c.exceptionTable.toList.map fun h => (h.startPc, h.endPc, h.handlerPc, h.catchType)) 12 (xZ L P) E [] r p l e room_1 s m #[.ref b] below meth c (lw_Z below #[.ref b] s) := by
    refine ⟨hx, hb, hml, hown, fun w hw => hts w (List.mem_filter.mp hw).1, hK, hE, Nat.le_of_eq e1, hlocks, hst, rfl, (table_eq _).symm, hP E e2, ⟨by decide, by decide, hk, hn⟩, fun vo pc als H locs ws hW hal hS hro hri => ?_, fun h2 => absurd h2 (by omega)⟩
    have hvo : vo = some (.int 1) := by
      rcases hro with ⟨-, V, rfl, hv⟩ | ⟨h1, -⟩
      · rw [hV] at hv
        have hv' : V = .int (nI 1) := hv
        rw [hv']
        rfl
      · omega
    subst hvo
    have hd : decode code pc = .ok (.ireturn, 1) := by
      rcases hri with ⟨q, -⟩ | ⟨x, ty, -, -, -, q⟩ | ⟨x, q, -⟩ | ⟨x, q, -⟩ | ⟨x, q, -⟩ | ⟨v, ty, q, -, -, q2, -⟩
      · cases q
      · exact q
      · cases q
      · cases q
      · cases q
      · cases q
        rcases q2 with q2 | ⟨a, q2⟩ <;> cases q2
    refine va_forget (fun q hq => by rw [← e1]; exact hS.2.2 q hq) (W.widen (k := 600006) (n := 7302008) hk hn ?_)
    exact lw_ret (d0 := s.drawn) (Drawn.sameBut.refl s.drawn lw_cs) hx hb hr0 hlocks hd
  have g := x_loop_ok (htab := fun pc i j row o hpc hj hi hrow => by
    subst hpc
    have h9 := (tt_L_law L P meth.name (c.exceptionTable.toList.map fun h => (h.startPc, h.endPc, h.handlerPc, h.catchType))).get hi hrow
    rw [Nat.zero_add] at h9
    exact h9) (x_run_ok (x_prOk L P) 12) hC 100000 0 _ [] (0, []) 0 0 hrun
  have hl := lv_entry [Value.ref b] (n := 9) (Nat.le_of_ble_eq_true rfl)
  rw [lg_entry_eq]
  have hV0 : x_RS E [] [(5, 0)] [Value.ref b] := ⟨by show Value.ref b = Value.ref (x_xi E 0); rw [e3], trivial⟩
  have hW0 : x_Wd E (0, []) [] s.heap := ⟨⟨rfl, fun i c q h => by simp [x_cl] at h⟩, fun k q h => by simp at h, fun i j p q h => by simp at h, fun k q h => by simp at h⟩
  exact g.2.2 [] s.heap [] _ (lv_args 0 [Value.ref b]) [] hW0 (List.prefix_refl _) va_S.rf hl (x_pad_RL (z := 8) hV0) trivial
