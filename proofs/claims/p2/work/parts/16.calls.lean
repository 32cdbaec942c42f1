/-! CALLS -/
section XCALL
variable {p : Program} {l : Launch} {e : Env} {R : Room} {s : State} {m : MethodId} {args : Array Value} {below : List Frame} {meth : Method} {c : Code} {H : Heap} {locs : List Loc} {cells slots : Nat} {Q : State → Prop}
/-- a call of dp bytes, that returns or throws -/
def x_Rn (dp : Nat) (p : Program) (l : Launch) (e : Env) (R : Room) (s : State) (m : MethodId) (args : Array Value) (below : List Frame) (meth : Method) (c : Code) (H : Heap) (locs : List Loc) (cells slots mc ms : Nat) (g : JFrame) (rest : List Value) (Qa : State → Outcome → State → Prop) (XC : String → State → State → Prop) (free : Addr → Prop) : Prop :=
  ∀ T : State, T.heap = H → Stand p l e R s m args below meth c T locs cells slots →
    (∃ (v : Option Value) (st₀ t T' : State) (L : List Loc), st₀.heap = H ∧ Stand p l e R s m args below meth c T' (locs ++ L) (cells + mc) (slots + ms) ∧ (∀ q ∈ L, free q.base) ∧ T'.heap = t.heap ∧ T'.vm = t.vm ∧ Qa st₀ (.returned v) t ∧
      Goes p e below T g T' { g with pc := g.pc + dp, stack := v.toList ++ rest }) ∨
    (∃ (q : Addr) (st₀ t T' : State) (L : List Loc) (E : String) (ce : Cell), st₀.heap = H ∧ Stand p l e R s m args below meth c T' (locs ++ L) (cells + mc) (slots + ms) ∧ (∀ z ∈ L, free z.base) ∧ T'.heap = t.heap ∧ T'.vm = t.vm ∧ XC E st₀ t ∧ t.heap[q]? = some ce ∧ ce.vm = .none ∧ s.vm.findClass E = some ce.cls ∧
      Steps p.tables e below (T.setTop g) ((T'.setTop { g with stack := rest }).pushFrame (.throwing q)))
theorem x_after {dp pc mc ms : Nat} {E : xE} {al : List Nat} {r2 : xT} {als : Array Slot} {st0 rest : List Value} (hr : x_Rn dp p l e R s m args below meth c H locs cells slots mc ms (F0 m pc als st0) rest (fun st oc t => x_Qc E al r2 args st oc t) (x_Xc E al r2) (x_A E)) (hS : va_S (x_A E) s.heap H locs)
    (kk : ∀ (vo : Option Value) (ws' : va_W) (H1 : Heap) (locs1 : List Loc), x_Ro E (x_al ws') r2 vo → x_Wd E r2.2.2.1 ws' H1 → al <+: x_al ws' → va_S (x_A E) s.heap H1 locs1 → W p l e R s m args below meth c H1 locs1 (cells + mc) (slots + ms) Q (F0 m (pc + dp) als (vo.toList ++ rest)))
    (kx : 2 ≤ r2.1 → ∀ (q9 : Addr) (ce : Cell) (ws' : va_W) (H1 : Heap) (locs1 : List Loc), x_Wd E r2.2.2.1 ws' H1 → al <+: x_al ws' → va_S (x_A E) s.heap H1 locs1 → H1[q9]? = some ce → ce.vm = .none → s.vm.findClass (x_en (r2.1 - 2)) = some ce.cls → vx_W p l e R s m args below meth c H1 locs1 (cells + mc) (slots + ms) Q (F0 m pc als rest) q9) :
    W p l e R s m args below meth c H locs cells slots Q (F0 m pc als st0) := by
  intro T hT X
  rcases hr T hT X with ⟨v, st₀, t, T', L, h0, X', hL, e1, e2, ⟨vo, ws', hv, hp, hw, ha, hF⟩, st⟩ | ⟨q, st₀, t, T', L, Ec, ce, h0, X', hL, e1, e2, ⟨ws', h2, hEc, hw, ha, hF⟩, hce, hcv, hcl, st⟩
  · cases hv
    obtain ⟨k1, k2, k3⟩ := vx_keep (A0 := x_A E) (A1 := x_A E) (free := x_A E) h0 e1 hS (fun _ _ h => h) (fun _ h => h) hL hF
    obtain ⟨t2, a1, b1⟩ := kk v ws' T'.heap (locs ++ L) hp (by rw [e1]; exact hw) ha k3 T' rfl X'
    exact ⟨t2, st t2 a1, b1⟩
  · obtain ⟨k1, k2, k3⟩ := vx_keep (A0 := x_A E) (A1 := x_A E) (free := x_A E) h0 e1 hS (fun _ _ h => h) (fun _ h => h) hL hF
    subst hEc
    obtain ⟨t2, a1, b1⟩ := kx h2 q ce ws' T'.heap (locs ++ L) (by rw [e1]; exact hw) ha k3 (by rw [e1]; exact hce) hcv hcl T' rfl X'
    exact ⟨t2, st.trans a1, b1⟩
theorem x_Pre_blind {Z : xD} {E : xE} {w : xW} {ws : va_W} {vs : List Value} : FrameBlind (va_Pc vs (x_Pre Z E w ws)) := fun a U g mk h => by
  obtain ⟨h1, h2, h3, h4, h5⟩ := h
  exact ⟨h1, h2, h3, va_K.moved (u := U) (U := U.calling g mk a) (Vm.Alike.refl U.vm) h4, x_En.moved (u := U) (U := U.calling g mk a) (State.WarmedH.refl U) (Nat.le_refl _) (fun _ _ _ => rfl) h5⟩
theorem x_Pre_of {Z : xD} {E : xE} {w : xW} {ws : va_W} (hw : x_Wd E w ws H) (hK : va_K E.1 xcl (x_tys E.2.1) s) (hE : x_EnD Z E s s.heap) (hb0 : E.2.2.1 ≤ s.heap.size) (hS : va_S (x_A E) s.heap H locs) : ∀ U : State, U.heap = H → s.WarmedH U.vm → x_Pre Z E w ws U := fun U hU hW => by
  subst hU
  exact ⟨Nat.le_trans hb0 hS.1, hw, va_K.moved hW.alike hK, x_En.moved hW hS.1 hS.2.1 hE⟩
end XCALL
section XINV
variable {ms : List xM} {Z : xD} {own nm : String} {cc : ByteArray} {nL : Nat} {rt : Option FieldType} {hh : List (Nat × Nat × Nat × Nat)} {pc : Nat}
/-- the arguments, the last one on top -/
noncomputable def x_args {β : Type} (na : Nat) : List xV → List xV → (List xV → List xV → Option β) → Option β := Nat.rec (motive := fun _ => List xV → List xV → (List xV → List xV → Option β) → Option β) (fun st acc kk => kk acc st) (fun _ ih st acc kk => x_pop st fun v t => ih t (v :: acc) kk) na
theorem x_args_some {β : Type} {na : Nat} : ∀ {st acc : List xV} {kk : List xV → List xV → Option β} {r : β}, x_args na st acc kk = some r → ∃ av t, av.length = na ∧ st = av.reverse ++ t ∧ kk (av ++ acc) t = some r := by
  induction na with
  | zero => exact fun {st acc kk r} h => ⟨[], st, rfl, rfl, h⟩
  | succ na ih =>
    intro st acc kk r h
    obtain ⟨v, t, rfl, h2⟩ := x_pop_some (show x_pop st (fun v t => x_args na t (v :: acc) kk) = some r from h)
    obtain ⟨av, t2, h3, rfl, h4⟩ := ih h2
    refine ⟨av ++ [v], t2, by simp [h3], by simp, ?_⟩
    rw [List.append_assoc]
    exact h4
/-- what comes back: a value, nothing, or an exception that isn't caught here -/
noncomputable def x_back (c : xK) (nx : Nat) (ls t : List xV) (k n : Nat) (o : Option xT) : Option xT := match o with
  | none => none
  | some (kd, v, w', dk, dn) => x_fn (k + dk) fun k' => x_fn (n + dn) fun n' => x_br (Nat.beq kd 0) (c nx ls (v :: t) w' k' n') (x_br (Nat.beq kd 1) (c nx ls t w' k' n') (some (kd, (0, 0), w', k', n')))
theorem x_back_some {c : xK} {nx : Nat} {ls t : List xV} {k n : Nat} {o : Option xT} {r : xT} (h : x_back c nx ls t k n o = some r) : ∃ r2 : xT, o = some r2 ∧ ((r2.1 = 0 ∧ c nx ls (r2.2.1 :: t) r2.2.2.1 (k + r2.2.2.2.1) (n + r2.2.2.2.2) = some r) ∨ (r2.1 = 1 ∧ c nx ls t r2.2.2.1 (k + r2.2.2.2.1) (n + r2.2.2.2.2) = some r) ∨ (2 ≤ r2.1 ∧ r = (r2.1, (0, 0), r2.2.2.1, k + r2.2.2.2.1, n + r2.2.2.2.2))) := by
  cases o with
  | none => cases h
  | some r2 =>
    obtain ⟨kd, v, w', dk, dn⟩ := r2
    have h' : x_fn (k + dk) (fun k' => x_fn (n + dn) fun n' => x_br (Nat.beq kd 0) (c nx ls (v :: t) w' k' n') (x_br (Nat.beq kd 1) (c nx ls t w' k' n') (some (kd, (0, 0), w', k', n')))) = some r := h
    rw [x_fn_eq, x_fn_eq] at h'
    refine ⟨_, rfl, ?_⟩
    cases h0 : Nat.beq kd 0 with
    | true =>
      rw [h0] at h'
      exact Or.inl ⟨Nat.eq_of_beq_eq_true h0, h'⟩
    | false =>
      rw [h0] at h'
      cases h1 : Nat.beq kd 1 with
      | true =>
        have h2 : x_br (Nat.beq kd 1) (c nx ls t w' (k + dk) (n + dn)) (some (kd, (0, 0), w', k + dk, n + dn)) = some r := h'
        rw [h1] at h2
        exact Or.inr (Or.inl ⟨Nat.eq_of_beq_eq_true h1, h2⟩)
      | false =>
        have h2 : x_br (Nat.beq kd 1) (c nx ls t w' (k + dk) (n + dn)) (some (kd, (0, 0), w', k + dk, n + dn)) = some r := h'
        rw [h1] at h2
        have n0 : kd ≠ 0 := fun q => by rw [q] at h0; exact absurd h0 (by decide)
        have n1 : kd ≠ 1 := fun q => by rw [q] at h1; exact absurd h1 (by decide)
        exact Or.inr (Or.inr ⟨by show 2 ≤ kd; omega, (Option.some.inj h2).symm⟩)
/-- the contract's precondition, said of the values at hand -/
def x_CallRow (na dp : Nat) (M : xM) (own nm : String) (cc : ByteArray) (nL : Nat) (rt : Option FieldType) (hh : List (Nat × Nat × Nat × Nat)) (pc : Nat) (Z : xD) (ck : xW → List xV → Bool) : Prop :=
  ∀ (d : Nat) (E : xE) (al0 : List Nat) (r : xT) (p : Program) (l : Launch) (e : Env) (R : Room) (s : State) (m : MethodId) (args : Array Value) (below : List Frame) (meth : Method) (c : Code) (Q : State → Prop), x_Cx own nm cc nL rt hh d Z E al0 r p l e R s m args below meth c Q →
    ∀ (w : xW) (ws : va_W) (H : Heap) (locs : List Loc) (als : Array Slot) (k n : Nat) (av : List xV) (vs rest : List Value) (r2 : xT), als.size = nL → x_Wd E w ws H → va_S (x_A E) s.heap H locs → av.length = na → x_RS E (x_al ws) av vs → ck w av = true → (rest.map fun v => v.category).sum ≤ 8 → k + r2.2.2.2.1 ≤ R.cells → n + r2.2.2.2.2 ≤ R.slots → (vx_Met l M.1 (x_ws M) (x_rm d r2) (va_Pc vs (x_Pre Z E w ws)) (x_Qc E (x_al ws) r2) (x_Xc E (x_al ws) r2) r2.2.2.2.1 r2.2.2.2.2 (x_A E)) →
      x_Rn dp p l e R s m args below meth c H locs k n r2.2.2.2.1 r2.2.2.2.2 (F0 m pc als (vs.reverse ++ rest)) rest (fun st oc t => x_Qc E (x_al ws) r2 args st oc t) (x_Xc E (x_al ws) r2) (x_A E)
noncomputable def xo_inv (ck : xW → List xV → Bool) (u na nx : Nat) : xO := fun fn c ls st w k n => x_args na st [] fun av t => x_if (ck w av && Nat.ble (x_cat t) 8) (x_back c nx ls t k n (fn u av w))
theorem xs_inv {ck : xW → List xV → Bool} {u na dp : Nat} {M : xM} (hu : ms[u]? = some M) (hhe : hh = []) (row : x_CallRow na dp M own nm cc nL rt hh pc Z ck) : x_Ok ms Z own nm cc nL rt hh pc (xo_inv ck u na (pc + dp)) := by
  intro d fn hfn E al0 r p l e R s m args below meth c Q hC cont ih ls st w k n h
  replace h := x_args_some h
  obtain ⟨av, t, hna, rfl, h⟩ := h
  rw [List.append_nil] at h
  obtain ⟨h0, h⟩ := x_if_some h
  obtain ⟨r2, h1, h⟩ := x_back_some h
  simp only [Bool.and_eq_true] at h0
  have hctr := hfn u M av w r2 hu h1
  have hC' := hC
  obtain ⟨hx, hb, hml, ho, hts, hK, hE, hb0, hlk, hfl, -, htab, hF, ⟨hR3, hR4, hR1, hR2⟩, -, hthr⟩ := hC
  have hkn : k + r2.2.2.2.1 ≤ r.2.2.2.1 ∧ n + r2.2.2.2.2 ≤ r.2.2.2.2 := by
    rcases h with ⟨-, h⟩ | ⟨-, h⟩ | ⟨-, rfl⟩
    · have g := ih _ _ _ _ _ _ h
      exact ⟨g.1, g.2.1⟩
    · have g := ih _ _ _ _ _ _ h
      exact ⟨g.1, g.2.1⟩
    · exact ⟨Nat.le_refl _, Nat.le_refl _⟩
  refine ⟨Nat.le_trans (Nat.le_add_right _ _) hkn.1, Nat.le_trans (Nat.le_add_right _ _) hkn.2, fun ws H locs als lv vst hW hal hS hl hL hV => ?_⟩
  obtain ⟨m1, m2, rfl, hV1, hV2⟩ := hV.split
  have hV3 := hV1.rev
  rw [List.reverse_reverse] at hV3
  have hcat : (m2.map fun v => v.category).sum ≤ 8 := Nat.le_trans (x_cat_le hV2) (Nat.le_of_ble_eq_true h0.2)
  have hrow := row d E al0 r p l e R s m args below meth c Q hC' w ws H locs als k n av m1.reverse m2 r2 hl.1 hW hS hna hV3 h0.1 hcat (Nat.le_trans hkn.1 hR1) (Nat.le_trans hkn.2 hR2) (hctr l E m1.reverse ws hfl hF hV3)
  rw [List.reverse_reverse] at hrow
  refine x_after hrow hS (fun vo ws' H1 locs1 hro hW1 hal1 hS1 => ?_) (fun h2 q9 ce ws' H1 locs1 hW1 hal1 hS1 hce hcv hcl => ?_)
  · rcases hro with ⟨hk0, V, rfl, hV4⟩ | ⟨hk1, rfl⟩
    · rcases h with ⟨-, h⟩ | ⟨h9, -⟩ | ⟨h9, -⟩
      · exact (ih _ _ _ _ _ _ h).2.2 ws' H1 locs1 als lv (V :: m2) hW1 (hal.trans hal1) hS1 hl (hL.mono hal1) ⟨hV4, hV2.mono hal1⟩
      · omega
      · omega
    · rcases h with ⟨h9, -⟩ | ⟨-, h⟩ | ⟨h9, -⟩
      · omega
      · exact (ih _ _ _ _ _ _ h).2.2 ws' H1 locs1 als lv m2 hW1 (hal.trans hal1) hS1 hl (hL.mono hal1) (hV2.mono hal1)
      · omega
  · rcases h with ⟨h9, -⟩ | ⟨h9, -⟩ | ⟨-, h⟩
    · omega
    · omega
    · subst h
      obtain ⟨Qc, XC, rfl, hXC⟩ := hthr h2
      refine vx_out (fun x hx9 => ?_) hlk hce hcv hcl (fun t ht hal9 => ?_) (fun z hz => hS1.2.2 z hz) (Nat.le_refl _) (Nat.le_refl _)
      · rw [htab, hhe] at hx9
        cases hx9
      · exact hXC t ws' (by rw [ht]; exact hW1) (hal.trans hal1) (hS1.F ht)
end XINV
