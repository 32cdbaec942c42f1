/-! THE LAW'S RUN TO THE LOOP -/
abbrev x_rL : xT := (0, (10, 0), (0, []), 604000, 7178346)
def x_dW (r s : xW) : Decidable (r = s) := inferInstance
def x_dT (r s : xT) : Decidable (r = s) := @instDecidableEqProd Nat (xV × xW × Nat × Nat) inferInstance (@instDecidableEqProd xV (xW × Nat × Nat) inferInstance (@instDecidableEqProd xW (Nat × Nat) x_dW inferInstance)) r s
def x_eqT (r s : xT) : Bool := @decide (r = s) (x_dT r s)
theorem x_eqT_of {r s : xT} (h : x_eqT r s = true) : r = s := @of_decide_eq_true _ (x_dT r s) h
def x_is (o : Option xT) (s : xT) : Bool := match o with
  | none => false
  | some r => x_eqT r s
theorem x_is_of {o : Option xT} {s : xT} (h : x_is o s = true) : o = some s := by
  cases o with
  | none => cases h
  | some r => exact congrArg some (x_eqT_of h)
def x_to (o : Option xT) : Option xT := match o with
  | none => none
  | some r => x_if (x_eqT r x_rR) (some x_rL)
theorem x_to_some {o : Option xT} {r : xT} (h : x_to o = some r) : o = some x_rR ∧ r = x_rL := by
  cases o with
  | none => cases h
  | some r2 =>
    obtain ⟨h1, h2⟩ := x_if_some (b := x_eqT r2 x_rR) h
    exact ⟨congrArg some (x_eqT_of h1), (Option.some.inj h2).symm⟩
def x_nul : List xV → Bool
  | [] => true
  | _ :: _ => false
/-- at the loop's head, with the weight of the loop -/
noncomputable def x_stR : xK := fun pc ls st w k n => x_if (Nat.beq pc 42 && (Nat.ble k 300 && Nat.ble n 10000)) (x_nth ls 0 fun v0 => x_tag 1 v0 fun a => x_nth ls 3 fun v3 => x_tag 1 v3 fun b => x_wn w a fun qa => x_nth qa.2 3 fun vm => x_tag 1 vm fun c => x_wn w c fun qc => x_nth qc.2 0 fun vr => x_tag 1 vr fun dd => x_if (x_nul st && (x_pr [a, c, dd, b] (xls 3) ls && (decide [a, c, dd, b].Nodup && x_sm [a, c, dd, b] w [a, c, dd, b] (xcs xy1)))) (some x_rR))
theorem x_stR_some {pc : Nat} {ls st : List xV} {w : xW} {k n : Nat} {r : xT} (h : x_stR pc ls st w k n = some r) : pc = 42 ∧ k ≤ 300 ∧ n ≤ 10000 ∧ st = [] ∧ ∃ a c dd b : Nat, x_pr [a, c, dd, b] (xls 3) ls = true ∧ [a, c, dd, b].Nodup ∧ x_sm [a, c, dd, b] w [a, c, dd, b] (xcs xy1) = true := by
  obtain ⟨h0, h⟩ := x_if_some h
  simp only [Bool.and_eq_true] at h0
  obtain ⟨v0, -, h⟩ := x_nth_some h
  replace h := x_tag_some h
  obtain ⟨a, -, h⟩ := h
  obtain ⟨v3, -, h⟩ := x_nth_some h
  replace h := x_tag_some h
  obtain ⟨b, -, h⟩ := h
  obtain ⟨qa, -, h⟩ := x_wn_some h
  obtain ⟨vm, -, h⟩ := x_nth_some h
  replace h := x_tag_some h
  obtain ⟨c, -, h⟩ := h
  obtain ⟨qc, -, h⟩ := x_wn_some h
  obtain ⟨vr, -, h⟩ := x_nth_some h
  replace h := x_tag_some h
  obtain ⟨dd, -, h⟩ := h
  obtain ⟨h1, -⟩ := x_if_some h
  simp only [Bool.and_eq_true] at h1
  refine ⟨Nat.eq_of_beq_eq_true h0.1, Nat.le_of_ble_eq_true h0.2.1, Nat.le_of_ble_eq_true h0.2.2, ?_, a, c, dd, b, h1.2.1, of_decide_eq_true h1.2.2.1, h1.2.2.2⟩
  cases st with
  | nil => rfl
  | cons x t => exact absurd h1.1 (by simp [x_nul])
/-- at the call of the model's raise -/
noncomputable def x_stL (L : Nat) (P : xP) : xK := fun pc _ st w k n => x_if (Nat.beq pc 755 && (Nat.ble k 600 && Nat.ble n 100000)) (x_args 2 st [] fun av t => x_if (x_ckO 9 w av && Nat.ble (x_cat t) 8) (x_if (Nat.ble (x_ini av).length 5) (x_app [] (x_ini av ++ List.replicate (5 - (x_ini av).length) (9, 0)) fun ls => x_to (x_loopS x_stR k_X13_raise (x_run (xpr L P) 12) 52 0 ls [] w 0 0))))
abbrev x_R9 : Room := { frames := 2048, cells := 604000, slots := 7178346, locals := 94400 }
noncomputable def x_run9 (L : Nat) (P : xP) (N : Nat) : Option xT := x_loopS (x_stL L P) (k_L_law L P) (x_run (xpr L P) 12) N 0 [(5, 0), (9, 0), (9, 0), (9, 0), (9, 0), (9, 0), (9, 0), (9, 0), (9, 0)] [] (0, []) 0 0
set_option maxHeartbeats 4000000 in
theorem x_startD {p : Program} {e : Env} {s : State} {m : MethodId} {below : List Frame} {meth : Method} {c : Code} (l : Launch) (hflags : l.flags = flags0) {b L : Nat} {xs : Nat → Int32} (C0 : lw_At p s m meth c b L xs) (P : xP) (rho : Nat → Int32) (hrho : ∀ j : Nat, j < L → rho j = xs j) (hP : ∀ E : xE, E.2.2.2.1 = rho → x_FOK E P) {N : Nat} (hg : x_run9 L P N = some x_rL)
    (hm1 : x_loop k_X13_mirrored (x_run (xpr L P) 11) 1000 4 [(1, 0), (2, 0), (1, 3), (9, 0), (9, 0)] [(1, 4)] (xw5 xy1 xy1) (0 + 1) (0 + 2) = some (xr5 xy1 xy2)) (hl1 : x_run (xpr L P) 12 38 [(1, 0), (1, 4), (2, 4294967295)] (xw5 xy1 xy2) = some (xlo xy1 xy2))
    (hm2 : x_loop k_X13_mirrored (x_run (xpr L P) 11) 1000 4 [(1, 0), (2, 0), (1, 3), (9, 0), (9, 0)] [(1, 4)] (xw5 xy2 xy2) (0 + 1) (0 + 2) = some (xr5 xy2 xy1)) (hl2 : x_run (xpr L P) 12 38 [(1, 0), (1, 4), (2, 4294967295)] (xw5 xy2 xy1) = some (xlo xy2 xy1)) :
    W p l e x_R9 s m #[Value.ref b] below meth c s.heap [] 0 0 (fun t => s.heap.size + 603073 ≤ t.heap.size) (entryFrame m ([Value.ref b] : List Value).toArray 9) := by
  obtain ⟨hx, hb, hr0, hml, hown, hts, hX, hbl, hlocks, hgv⟩ := id C0
  obtain ⟨E, e1, e2, e3, hK, hE⟩ := x_env C0 P rho hrho
  have hst : l.stackTraces = false := by
    show (!l.flags.contains noTraceFlag) = false
    rw [hflags]
    decide
  have hC : x_Cx "WeightlatticeLaw" meth.name code 9 (Option.some Jvm.ClassFile.FieldType.boolean) (c.exceptionTable.toList.map fun h => (h.startPc, h.endPc, h.handlerPc, h.catchType)) 12 (xZ L P) E [] x_rL p l e x_R9 s m #[.ref b] below meth c (fun t => s.heap.size + 603073 ≤ t.heap.size) := by
    refine ⟨hx, hb, hml, hown, fun w hw => hts w (List.mem_filter.mp hw).1, hK, hE, Nat.le_of_eq e1, hlocks, hst, rfl, (table_eq _).symm, hP E e2, ⟨by decide, by decide, Nat.le_refl _, Nat.le_refl _⟩, fun vo pc als H locs ws hW hal hS hro hri => ?_, fun h2 => absurd h2 (by decide)⟩
    rcases hro with ⟨-, V, -, hv⟩ | ⟨h1, -⟩
    · exact hv.elim
    · cases h1
  have htabL : ∀ (pc i j : Nat) (row : List xO) (o : xO), pc = 16 * i + j → j < 16 → (k_L_law L P)[i]? = some row → row[j]? = some o → x_Ok xms (xZ L P) "WeightlatticeLaw" meth.name code 9 (Option.some Jvm.ClassFile.FieldType.boolean) (c.exceptionTable.toList.map fun h => (h.startPc, h.endPc, h.handlerPc, h.catchType)) pc o := fun pc i j row o hpc hj hi hrow => by
    subst hpc
    have h9 := (tt_L_law L P meth.name (c.exceptionTable.toList.map fun h => (h.startPc, h.endPc, h.handlerPc, h.catchType))).get hi hrow
    rw [Nat.zero_add] at h9
    exact h9
  have g := x_loopS_ok (stop := x_stL L P) htabL (x_run_ok (x_prOk L P) 12) hC (fun pc ls st w k n hst9 => by
    obtain ⟨h0, h⟩ := x_if_some hst9
    clear hst9
    replace h := x_args_some h
    obtain ⟨av, t, hna, rfl, h⟩ := h
    rw [List.append_nil] at h
    obtain ⟨h1, h⟩ := x_if_some h
    obtain ⟨h2, h⟩ := x_if_some h
    rw [x_app_eq, List.append_nil] at h
    obtain ⟨hnest, -⟩ := x_to_some h
    simp only [Bool.and_eq_true] at h0 h1
    have epc : pc = 755 := Nat.eq_of_beq_eq_true h0.1
    subst epc
    have hk6 : k ≤ 600 := Nat.le_of_ble_eq_true h0.2.1
    have hn6 : n ≤ 100000 := Nat.le_of_ble_eq_true h0.2.2
    have hlen5 : (x_ini av).length ≤ 5 := Nat.le_of_ble_eq_true h2
    refine ⟨by show k ≤ 604000; omega, by show n ≤ 7178346; omega, fun ws H locs als lv vst hW hal hS hl hL hV => ?_⟩
    obtain ⟨m1, m2, rfl, hV1, hV2⟩ := hV.split
    have hV3 := hV1.rev
    rw [List.reverse_reverse] at hV3
    have hcat : (m2.map fun v => v.category).sum ≤ 8 := Nat.le_trans (x_cat_le hV2) (Nat.le_of_ble_eq_true h1.2)
    have key := x_rowD (pc := 755) (na := 1) (index := 195) (ci := 9) (rest := m2) (rm := x_dR) mo_X13_raise (by decide) rfl rfl (by decide +kernel) q_2357 q_2358 q_2359 (by decide +kernel) (by decide +kernel) hC (als := als) (k := k) (n := n) (locs := locs) hl.1 hW hS hna hV3 h1.1 hcat (by decide) (by decide) (by show k + 603400 ≤ 604000; omega) (by show n + 7000000 ≤ 7178346; omega) (fun s' m' below' meth' c' s₁ B hml' hheap hpre => by
      obtain ⟨hb9, hW9, hK9, hE9⟩ := hpre
      have hts0 := atoms_spec (ws := x_ws M_X13_raise) B.pre
      have htab9 : c'.exceptionTable.toList = tableOf [] := by
        obtain ⟨meth9, c9, g1, g2, -, -, -, -, g7, -⟩ := Cond.code_spec B.named (atoms_spec (ws := x_ws M_X13_raise) B.pre _ (by rw [mo_X13_raise.hd]; exact List.mem_cons_self))
        cases Option.some.inj (g1.symm.trans B.method)
        cases Option.some.inj (g2.symm.trans (Stand.of_body B).code)
        rw [Array.isEmpty_iff.mp g7]
        rfl
      have hCR : x_CxR L P E p l e s' m' m1.reverse.toArray below' meth' c' (fun t => s.heap.size + 603073 ≤ t.heap.size) :=
        ⟨B.exec, B.bytes, hml', findClass_of_methodNamed B.named, fun w hw => hts0 w (List.mem_cons_of_mem _ hw), hK9, hE9, hb9, B.notSynchronized, hst, (name_of_methodNamed B.named B.method).1, htab9, hP E e2, ⟨by decide, by decide, Nat.le_refl _, Nat.le_refl _⟩, (fun vo pc als H locs ws hW hal hS hro hri => by
          rcases hro with ⟨-, V, -, hv⟩ | ⟨h1, -⟩
          · exact hv.elim
          · cases h1), fun h => absurd h (by decide)⟩
      have hgr : s.heap.size ≤ s'.heap.size := by rw [hheap]; exact hS.1
      have g2 := x_loopS_ok (stop := x_stR) (t_X13_raise L P).2.2 (x_run_ok (x_prOk L P) 12) hCR (fun pc ls st w k n h => by
        obtain ⟨rfl, hk3, hn3, rfl, a, cc, dd, bb, hpr, hnd, hsm⟩ := x_stR_some h
        refine ⟨by show k ≤ 603400; omega, by show n ≤ 7000000; omega, fun ws H locs als lv vst hW hal hS hl hL hV => ?_⟩
        have hv0 := hV.nil
        subst hv0
        obtain ⟨ws0, hW0, hal0⟩ := x_shrink hW hnd hsm
        have hL0 := x_pr_RL hal0 hpr hL
        obtain ⟨V0, q0, a0, ha0, rfl⟩ := hL0 0 (1, 0) rfl (by decide)
        obtain ⟨V3, q3, a3, ha3, rfl⟩ := hL0 3 (1, 3) rfl (by decide)
        obtain ⟨V4, q4, hv4⟩ := hL0 4 (2, 0) rfl (by decide)
        cases hv4
        have hl0 : lv_has als 5 (xlv a0 a3) := ⟨hl.1, hl.2.1, fun q hq => by
          simp only [List.mem_cons, List.not_mem_nil, or_false] at hq
          rcases hq with rfl | rfl | rfl
          · exact hl.2.2 _ q0
          · exact hl.2.2 _ q3
          · exact hl.2.2 _ q4⟩
        exact x_spin hCR hm1 hl1 hm2 hl2 603073 xy1 (Or.inl rfl) ws0 H locs als a0 a3 k n (Nat.add_le_add_right (Nat.le_trans hgr hS.1) _) (by omega) (by omega) hW0 hS hl0 ha0 ha3) 52 0 _ [] _ 0 0 hnest
      have hlE := lv_entry m1.reverse (n := M_X13_raise.2.2.1) (by rw [x_ini_len hV3]; exact hlen5)
      have hh0 : s₁.heap = s'.heap := by rw [B.state]; rfl
      have K := g2.2.2 ws s'.heap [] _ (lv_args 0 m1.reverse) [] (by rw [hheap]; exact hW) List.nil_prefix va_S.rf hlE (x_pad_RL hV3) trivial
      rw [lg_entry_eq]
      exact K s₁ hh0 (Stand.of_body B))
    rw [List.reverse_reverse] at key
    exact key) N 0 _ [] (0, []) 0 0 hg
  have hl := lv_entry [Value.ref b] (n := 9) (Nat.le_of_ble_eq_true rfl)
  rw [lg_entry_eq]
  have hV0 : x_RS E [] [(5, 0)] [Value.ref b] := ⟨by show Value.ref b = Value.ref (x_xi E 0); rw [e3], trivial⟩
  have hW0 : x_Wd E (0, []) [] s.heap := ⟨⟨rfl, fun i c q h => by simp [x_cl] at h⟩, fun k q h => by simp at h, fun i j p q h => by simp at h, fun k q h => by simp at h⟩
  exact g.2.2 [] s.heap [] _ (lv_args 0 [Value.ref b]) [] hW0 List.nil_prefix va_S.rf hl (x_pad_RL (z := 8) hV0) trivial
