/-! RETURNS, THROWS, CATCHES, COPIES; A METHOD'S RUN -/
section XEND
variable {ms : List xM} {Z : xD} {own nm : String} {cc : ByteArray} {nL : Nat} {rt : Option FieldType} {hh : List (Nat × Nat × Nat × Nat)} {pc : Nat}
noncomputable def xo_bad : xO := fun _ _ _ _ _ _ _ => none
theorem xs_bad : x_Ok ms Z own nm cc nL rt hh pc xo_bad := fun d fn hfn E al0 r p l e R s m args below meth c Q hC cont ih ls st w k n h => nomatch h
noncomputable def xo_ret (chk : xV → Bool) : xO := fun _ _ ls st w k n => x_pop st fun v t => match t with
  | [] => x_if (chk v) (some (0, v, w, k, n))
  | _ :: _ => none
theorem xs_ret {chk : xV → Bool} (hr : ∀ (E : xE) (al : List Nat) (v : xV) (V : Value), chk v = true → x_rv E al v V → x_rti cc pc rt (some V)) : x_Ok ms Z own nm cc nL rt hh pc (xo_ret chk) := by
  intro d fn hfn E al0 r p l e R s m args below meth c Q hC cont ih ls st w k n h
  replace h := x_pop_some h
  obtain ⟨v, t, rfl, h⟩ := h
  cases t with
  | cons a t => cases h
  | nil =>
    obtain ⟨h0, h⟩ := x_if_some (b := chk v) h
    cases h
    obtain ⟨-, -, -, -, -, -, -, -, -, -, -, -, -, -, hret, -⟩ := hC
    refine ⟨Nat.le_refl _, Nat.le_refl _, fun ws H locs als lv vst hW hal hS hl hL hV => ?_⟩
    replace hV := hV.cons
    obtain ⟨V, vst, rfl, hv, hV⟩ := hV
    have e := hV.nil
    subst e
    exact hret (some V) pc als H locs ws hW hal hS (Or.inl ⟨rfl, V, rfl, hv⟩) (hr E _ v V h0 hv)
def x_isZ (v : xV) : Bool := Nat.beq v.1 2 && Nat.ble v.2 1
theorem xs_iret (hrt : rt = some .int) (hd : decode cc pc = .ok (.ireturn, 1)) : x_Ok ms Z own nm cc nL rt hh pc (xo_ret x_isI) := xs_ret fun E al v V hi hV => by
  have e := x_ri_of hi hV
  subst e
  exact Or.inr (Or.inl ⟨_, .int, rfl, hrt, rfl, hd⟩)
theorem xs_zret (hrt : rt = some .boolean) (hd : decode cc pc = .ok (.ireturn, 1)) : x_Ok ms Z own nm cc nL rt hh pc (xo_ret x_isZ) := xs_ret fun E al v V hi hV => by
  obtain ⟨t, n⟩ := v
  simp only [x_isZ, Bool.and_eq_true] at hi
  have e : t = 2 := Nat.eq_of_beq_eq_true hi.1
  subst e
  have e2 : V = .int (nI n) := hV
  subst e2
  refine Or.inr (Or.inl ⟨_, .boolean, rfl, hrt, ?_, hd⟩)
  have hn : n ≤ 1 := Nat.le_of_ble_eq_true hi.2
  obtain rfl | rfl : n = 0 ∨ n = 1 := by omega
  · rfl
  · rfl
theorem xs_cret (hrt : rt = some .char) (hd : decode cc pc = .ok (.ireturn, 1)) : x_Ok ms Z own nm cc nL rt hh pc (xo_ret x_isC) := xs_ret fun E al v V hi hV => by
  have h1 := (x_fit_char E al v V hi hV).1
  obtain ⟨t, n⟩ := v
  simp only [x_isC, Bool.and_eq_true] at hi
  have e : t = 2 := Nat.eq_of_beq_eq_true hi.1
  subst e
  have e2 : V = .int (nI n) := hV
  subst e2
  exact Or.inr (Or.inl ⟨_, .char, rfl, hrt, h1, hd⟩)
theorem xs_lret (hrt : rt = some .long) (hd : decode cc pc = .ok (.lreturn, 1)) : x_Ok ms Z own nm cc nL rt hh pc (xo_ret (x_isT 3)) := xs_ret fun E al v V hi hV => by
  obtain ⟨u, rfl⟩ := x_isT_of hi
  exact Or.inr (Or.inr (Or.inl ⟨lN u, congrArg some hV, hrt, hd⟩))
theorem xs_fret (hrt : rt = some .float) (hd : decode cc pc = .ok (.freturn, 1)) : x_Ok ms Z own nm cc nL rt hh pc (xo_ret (x_isT 6)) := xs_ret fun E al v V hi hV => by
  obtain ⟨u, rfl⟩ := x_isT_of hi
  exact Or.inr (Or.inr (Or.inr (Or.inl ⟨_, congrArg some hV, hrt, hd⟩)))
theorem xs_dret (hrt : rt = some .double) (hd : decode cc pc = .ok (.dreturn, 1)) : x_Ok ms Z own nm cc nL rt hh pc (xo_ret (x_isT 7)) := xs_ret fun E al v V hi hV => by
  obtain ⟨u, rfl⟩ := x_isT_of hi
  exact Or.inr (Or.inr (Or.inr (Or.inr (Or.inl ⟨_, congrArg some hV, hrt, hd⟩))))
theorem xs_aret {ty : FieldType} (hrt : rt = some ty) (hty : (∃ n, ty = .object n) ∨ ∃ t, ty = .array t) (hd : decode cc pc = .ok (.areturn, 1)) : x_Ok ms Z own nm cc nL rt hh pc (xo_ret x_isA) := xs_ret fun E al v V hi hV => Or.inr (Or.inr (Or.inr (Or.inr (Or.inr ⟨V, ty, rfl, hrt, hty, x_isA_of hi hV, hd⟩))))
noncomputable def xo_retv : xO := fun _ _ ls st w k n => match st with
  | [] => some (1, (0, 0), w, k, n)
  | _ :: _ => none
theorem xs_retv (hrt : rt = none) (hd : decode cc pc = .ok (.return_, 1)) : x_Ok ms Z own nm cc nL rt hh pc xo_retv := by
  intro d fn hfn E al0 r p l e R s m args below meth c Q hC cont ih ls st w k n h
  cases st with
  | cons a t => cases h
  | nil =>
    cases h
    obtain ⟨-, -, -, -, -, -, -, -, -, -, -, -, -, -, hret, -⟩ := hC
    refine ⟨Nat.le_refl _, Nat.le_refl _, fun ws H locs als lv vst hW hal hS hl hL hV => ?_⟩
    have e := hV.nil
    subst e
    exact hret none pc als H locs ws hW hal hS (Or.inr ⟨rfl, rfl⟩) (Or.inl ⟨rfl, hrt, hd⟩)
/-- 'throw new E(text)' -/
noncomputable def xo_thr (u : Nat) : xO := fun _ _ ls st w k n => x_if (Nat.ble (x_cat st) 8) (x_fn (k + 1) fun k' => x_fn (n + 6) fun n' => some (u + 2, (0, 0), w, k', n'))
theorem x_names : ["java/lang/RuntimeException", "java/lang/Exception"].all Bundle.fit = true := by decide +kernel
theorem x_thrAt {Zn : List (String × String)} {Zd : List MethodName} {cls : String} {ik ic : Nat} {args : Array Value} {s : State} (hts : ∀ w ∈ xTb, w.before args s = true) (h3 : ∀ q ∈ Zn, va_Nw (.castable q.1 q.2) s) (h5 : ∀ q ∈ Zd, va_Nw (.declares q) s)
    (hg : ∀ w ∈ (vx_atS own ic cls ["java/lang/RuntimeException", "java/lang/Exception"]).filter goodWord, w ∈ xTb) (hng : ∀ w ∈ (vx_atS own ic cls ["java/lang/RuntimeException", "java/lang/Exception"]).filter (fun w => !goodWord w), w ∈ Zn.map (fun q => Cond.castable q.1 q.2) ++ Zd.map (fun q => Cond.declares q)) : ∀ w ∈ vx_atS own ic cls ["java/lang/RuntimeException", "java/lang/Exception"], w.before args s = true :=
  vx_hat (fun w hw => hts w (hg w hw)) hng fun w hw => by
    rcases List.mem_append.mp hw with hw | hw
    · obtain ⟨q, hq, rfl⟩ := List.mem_map.mp hw
      exact va_Nw.use rfl (h3 q hq)
    · obtain ⟨q, hq, rfl⟩ := List.mem_map.mp hw
      exact va_Nw.use rfl (h5 q hq)
theorem xs_thr {u ik is ic : Nat} {cls text : String} (hcls : x_en u = cls) (hft : Bundle.fit cls = true) (hhe : hh = []) (hk : Cond.classLink own ik cls ∈ xTb) (hini : Cond.initialized cls ∈ xTb) (hstr : ∀ (E : xE) (s : State), x_EnD Z E s s.heap → ∃ sa, vk_R own is text sa s) (hg : ∀ w ∈ (vx_atS own ic cls ["java/lang/RuntimeException", "java/lang/Exception"]).filter goodWord, w ∈ xTb) (hng : ∀ w ∈ (vx_atS own ic cls ["java/lang/RuntimeException", "java/lang/Exception"]).filter (fun w => !goodWord w), w ∈ Z.2.2.1.map (fun q => Cond.castable q.1 q.2) ++ Z.2.2.2.2.1.map (fun q => Cond.declares q)) (hgd : ∀ w ∈ Cond.classLink own ik cls :: Cond.initialized cls :: vx_atS own ic cls ["java/lang/RuntimeException", "java/lang/Exception"], vx_ot w = true) (d0 : decode cc pc = .ok (.new ik, 3)) (d3 : decode cc (pc + 3) = .ok (.dup, 1)) (d4 : decode cc (pc + 4) = .ok (.ldc is, 2)) (d6 : decode cc (pc + 6) = .ok (.invokespecial ic, 3)) (d9 : decode cc (pc + 9) = .ok (.athrow, 1)) : x_Ok ms Z own nm cc nL rt hh pc (xo_thr u) := by
  intro d fn hfn E al0 r p l e R s m args below meth c Q hC cont ih ls st w k n h
  obtain ⟨h0, h⟩ := x_if_some h
  rw [x_fn_eq, x_fn_eq] at h
  cases h
  obtain ⟨hx, hb, hml, ho, hts, hK, hE, hb0, hlk, hfl, -, htab, hF, ⟨hR3, hR4, hR1, hR2⟩, -, hthr⟩ := hC
  dsimp only at hR1 hR2
  refine ⟨Nat.le_succ k, Nat.le_add_right n 6, fun ws H locs als lv vst hW hal hS hl hL hV => ?_⟩
  obtain ⟨Qc, XC, rfl, hXC⟩ := hthr (by show 2 ≤ u + 2; omega)
  obtain ⟨sa, hsa⟩ := hstr E s hE
  have hcat : (vst.map fun v => v.category).sum ≤ 8 := Nat.le_trans (x_cat_le hV) (Nat.le_of_ble_eq_true h0)
  refine vx_throwS (A := x_A E) (names := ["java/lang/RuntimeException", "java/lang/Exception"]) (sa := sa) (text := text) hx hb hfl ho hft (fun z hz => List.all_eq_true.mp x_names z hz) (hts _ hk) (hts _ hini) hsa (x_thrAt (ik := ik) hts hE.2.2.2.2.2.1.2.2.1 hE.2.2.2.2.2.1.2.2.2.2 hg hng) hgd hE.1.1 hE.1.2 hS (hl.1.trans hml.symm) d0 d3 d4 d6 d9 (fun x hx9 => by rw [htab, hhe] at hx9; cases hx9) (by show 5 < R.frames; omega) (by show _ + 82 ≤ R.locals; omega) hR1 hR2 hlk (fun t hvm hsz hq => ?_) (fun z hz => hS.2.2 z hz) (Nat.le_refl _) (Nat.le_refl _)
  have h1 := hXC t ws ⟨hW.1, hW.2.1.kept fun j q hj => hq q.1 ((hW.2.1 j q hj).lt), hW.2.2⟩ hal ⟨Nat.le_trans hS.1 hsz, fun q9 h1 h2 => (hq q9 (Nat.lt_of_lt_of_le h1 hS.1)).trans (hS.2.1 q9 h1 h2)⟩
  rw [← hcls]
  exact h1
theorem xs_thrW {u ik is ic : Nat} {cls text : String} (hcls : x_en u = cls) (hft : Bundle.fit cls = true) (hhe : hh = []) (hk : Cond.classLink own ik cls ∈ xTb) (hini : Cond.initialized cls ∈ xTb) (hstr : ∀ (E : xE) (s : State), x_EnD Z E s s.heap → ∃ sa, vk_R own is text sa s) (hg : ∀ w ∈ (vx_atS own ic cls ["java/lang/RuntimeException", "java/lang/Exception"]).filter goodWord, w ∈ xTb) (hng : ∀ w ∈ (vx_atS own ic cls ["java/lang/RuntimeException", "java/lang/Exception"]).filter (fun w => !goodWord w), w ∈ Z.2.2.1.map (fun q => Cond.castable q.1 q.2) ++ Z.2.2.2.2.1.map (fun q => Cond.declares q)) (hgd : ∀ w ∈ Cond.classLink own ik cls :: Cond.initialized cls :: vx_atS own ic cls ["java/lang/RuntimeException", "java/lang/Exception"], vx_ot w = true) (d0 : decode cc pc = .ok (.new ik, 3)) (d3 : decode cc (pc + 3) = .ok (.dup, 1)) (d4 : decode cc (pc + 4) = .ok (.ldc_w is, 3)) (d6 : decode cc (pc + 7) = .ok (.invokespecial ic, 3)) (d9 : decode cc (pc + 10) = .ok (.athrow, 1)) : x_Ok ms Z own nm cc nL rt hh pc (xo_thr u) := by
  intro d fn hfn E al0 r p l e R s m args below meth c Q hC cont ih ls st w k n h
  obtain ⟨h0, h⟩ := x_if_some h
  rw [x_fn_eq, x_fn_eq] at h
  cases h
  obtain ⟨hx, hb, hml, ho, hts, hK, hE, hb0, hlk, hfl, -, htab, hF, ⟨hR3, hR4, hR1, hR2⟩, -, hthr⟩ := hC
  dsimp only at hR1 hR2
  refine ⟨Nat.le_succ k, Nat.le_add_right n 6, fun ws H locs als lv vst hW hal hS hl hL hV => ?_⟩
  obtain ⟨Qc, XC, rfl, hXC⟩ := hthr (by show 2 ≤ u + 2; omega)
  obtain ⟨sa, hsa⟩ := hstr E s hE
  have hcat : (vst.map fun v => v.category).sum ≤ 8 := Nat.le_trans (x_cat_le hV) (Nat.le_of_ble_eq_true h0)
  refine vx_throwSW (A := x_A E) (names := ["java/lang/RuntimeException", "java/lang/Exception"]) (sa := sa) (text := text) hx hb hfl ho hft (fun z hz => List.all_eq_true.mp x_names z hz) (hts _ hk) (hts _ hini) hsa (x_thrAt (ik := ik) hts hE.2.2.2.2.2.1.2.2.1 hE.2.2.2.2.2.1.2.2.2.2 hg hng) hgd hE.1.1 hE.1.2 hS (hl.1.trans hml.symm) d0 d3 d4 d6 d9 (fun x hx9 => by rw [htab, hhe] at hx9; cases hx9) (by show 5 < R.frames; omega) (by show _ + 82 ≤ R.locals; omega) hR1 hR2 hlk (fun t hvm hsz hq => ?_) (fun z hz => hS.2.2 z hz) (Nat.le_refl _) (Nat.le_refl _)
  have h1 := hXC t ws ⟨hW.1, hW.2.1.kept fun j q hj => hq q.1 ((hW.2.1 j q hj).lt), hW.2.2⟩ hal ⟨Nat.le_trans hS.1 hsz, fun q9 h1 h2 => (hq q9 (Nat.lt_of_lt_of_le h1 hS.1)).trans (hS.2.1 q9 h1 h2)⟩
  rw [← hcls]
  exact h1
/-- a call whose exception is caught by the first handler -/
noncomputable def x_backH (u hp : Nat) (c : xK) (nx : Nat) (ls t : List xV) (k n : Nat) (o : Option xT) : Option xT := match o with
  | none => none
  | some (kd, v, w', dk, dn) => x_fn (k + dk) fun k' => x_fn (n + dn) fun n' => x_br (Nat.beq kd 0) (c nx ls (v :: t) w' k' n') (x_br (Nat.beq kd 1) (c nx ls t w' k' n') (x_if (Nat.beq kd (u + 2)) (c hp ls [(8, 0)] w' k' n')))
theorem x_backH_some {u hp : Nat} {c : xK} {nx : Nat} {ls t : List xV} {k n : Nat} {o : Option xT} {r : xT} (h : x_backH u hp c nx ls t k n o = some r) : ∃ r2 : xT, o = some r2 ∧ ((r2.1 = 0 ∧ c nx ls (r2.2.1 :: t) r2.2.2.1 (k + r2.2.2.2.1) (n + r2.2.2.2.2) = some r) ∨ (r2.1 = 1 ∧ c nx ls t r2.2.2.1 (k + r2.2.2.2.1) (n + r2.2.2.2.2) = some r) ∨ (r2.1 = u + 2 ∧ c hp ls [(8, 0)] r2.2.2.1 (k + r2.2.2.2.1) (n + r2.2.2.2.2) = some r)) := by
  cases o with
  | none => cases h
  | some r2 =>
    obtain ⟨kd, v, w', dk, dn⟩ := r2
    have h' : x_fn (k + dk) (fun k' => x_fn (n + dn) fun n' => x_br (Nat.beq kd 0) (c nx ls (v :: t) w' k' n') (x_br (Nat.beq kd 1) (c nx ls t w' k' n') (x_if (Nat.beq kd (u + 2)) (c hp ls [(8, 0)] w' k' n')))) = some r := h
    rw [x_fn_eq, x_fn_eq] at h'
    refine ⟨_, rfl, ?_⟩
    cases h0 : Nat.beq kd 0 with
    | true =>
      rw [h0] at h'
      exact Or.inl ⟨Nat.eq_of_beq_eq_true h0, h'⟩
    | false =>
      rw [h0] at h'
      cases h1 : Nat.beq kd 1 with
      | true =>
        have h2 : x_br (Nat.beq kd 1) (c nx ls t w' (k + dk) (n + dn)) (x_if (Nat.beq kd (u + 2)) (c hp ls [(8, 0)] w' (k + dk) (n + dn))) = some r := h'
        rw [h1] at h2
        exact Or.inr (Or.inl ⟨Nat.eq_of_beq_eq_true h1, h2⟩)
      | false =>
        have h2 : x_br (Nat.beq kd 1) (c nx ls t w' (k + dk) (n + dn)) (x_if (Nat.beq kd (u + 2)) (c hp ls [(8, 0)] w' (k + dk) (n + dn))) = some r := h'
        rw [h1] at h2
        obtain ⟨h3, h4⟩ := x_if_some (b := Nat.beq kd (u + 2)) h2
        exact Or.inr (Or.inr ⟨Nat.eq_of_beq_eq_true h3, h4⟩)
noncomputable def xo_invH (ck : xW → List xV → Bool) (u hp v na nx : Nat) : xO := fun fn c ls st w k n => x_args na st [] fun av t => x_if (ck w av && Nat.ble (x_cat t) 8) (x_backH u hp c nx ls t k n (fn v av w))
theorem xs_invH {ck : xW → List xV → Bool} {u v na dp s0 e0 hp ct : Nat} {hs : List (Nat × Nat × Nat × Nat)} {M : xM} (hu : ms[v]? = some M) (hhe : hh = (s0, e0, hp, ct) :: hs) (hcv : covers ⟨s0, e0, hp, ct⟩ pc = true) (hct : ct ≠ 0) (hcl : Cond.classLink own ct (x_en u) ∈ xTb) (hca : (x_en u, x_en u) ∈ Z.2.2.1) (row : x_CallRow na dp M own nm cc nL rt hh pc Z ck) : x_Ok ms Z own nm cc nL rt hh pc (xo_invH ck u hp v na (pc + dp)) := by
  intro d fn hfn E al0 r p l e R s m args below meth c Q hC cont ih ls st w k n h
  replace h := x_args_some h
  obtain ⟨av, t, hna, rfl, h⟩ := h
  rw [List.append_nil] at h
  obtain ⟨h0, h⟩ := x_if_some h
  obtain ⟨r2, h1, h⟩ := x_backH_some h
  simp only [Bool.and_eq_true] at h0
  have hctr := hfn v M av w r2 hu h1
  have hC' := hC
  obtain ⟨hx, hb, hml, ho, hts, hK, hE, hb0, hlk, hfl, -, htab, hF, ⟨hR3, hR4, hR1, hR2⟩, -, hthr⟩ := hC
  have hkn : k + r2.2.2.2.1 ≤ r.2.2.2.1 ∧ n + r2.2.2.2.2 ≤ r.2.2.2.2 := by
    rcases h with ⟨-, h⟩ | ⟨-, h⟩ | ⟨-, h⟩
    · have g := ih _ _ _ _ _ _ h
      exact ⟨g.1, g.2.1⟩
    · have g := ih _ _ _ _ _ _ h
      exact ⟨g.1, g.2.1⟩
    · have g := ih _ _ _ _ _ _ h
      exact ⟨g.1, g.2.1⟩
  refine ⟨Nat.le_trans (Nat.le_add_right _ _) hkn.1, Nat.le_trans (Nat.le_add_right _ _) hkn.2, fun ws H locs als lv vst hW hal hS hl hL hV => ?_⟩
  obtain ⟨m1, m2, rfl, hV1, hV2⟩ := hV.split
  have hV3 := hV1.rev
  rw [List.reverse_reverse] at hV3
  have hcat : (m2.map fun v => v.category).sum ≤ 8 := Nat.le_trans (x_cat_le hV2) (Nat.le_of_ble_eq_true h0.2)
  have hrow := row d E al0 r p l e R s m args below meth c Q hC' w ws H locs als k n av m1.reverse m2 r2 hl.1 hW hS hna hV3 h0.1 hcat (Nat.le_trans hkn.1 hR1) (Nat.le_trans hkn.2 hR2) (hctr l E m1.reverse ws hfl hF hV3)
  rw [List.reverse_reverse] at hrow
  refine x_after hrow hS (fun vo ws' H1 locs1 hro hW1 hal1 hS1 => ?_) (fun h2 q9 ce ws' H1 locs1 hW1 hal1 hS1 hce hcv9 hcl9 => ?_)
  · rcases hro with ⟨hk0, V, rfl, hV4⟩ | ⟨hk1, rfl⟩
    · rcases h with ⟨-, h⟩ | ⟨h9, -⟩ | ⟨h9, -⟩
      · exact (ih _ _ _ _ _ _ h).2.2 ws' H1 locs1 als lv (V :: m2) hW1 (hal.trans hal1) hS1 hl (hL.mono hal1) ⟨hV4, hV2.mono hal1⟩
      · omega
      · omega
    · rcases h with ⟨h9, -⟩ | ⟨-, h⟩ | ⟨h9, -⟩
      · omega
      · exact (ih _ _ _ _ _ _ h).2.2 ws' H1 locs1 als lv m2 hW1 (hal.trans hal1) hS1 hl (hL.mono hal1) (hV2.mono hal1)
      · omega
  · rcases h with ⟨h9, -⟩ | ⟨h9, -⟩ | ⟨h9, h⟩
    · omega
    · omega
    · have he : r2.1 - 2 = u := by omega
      rw [he] at hcl9
      exact vx_catch (own := own) (name := x_en u) ho [] ⟨s0, e0, hp, ct⟩ (tableOf hs) (by rw [htab, hhe]; rfl) (fun z hz => nomatch hz) hcv hct (hts _ hcl) (va_Nw.use rfl (hE.2.2.2.2.2.1.2.2.1 _ hca)) hce hcv9 hcl9 ((ih _ _ _ _ _ _ h).2.2 ws' H1 locs1 als lv [.ref q9] hW1 (hal.trans hal1) hS1 hl (hL.mono hal1) ⟨⟨q9, rfl⟩, trivial⟩)
end XEND
