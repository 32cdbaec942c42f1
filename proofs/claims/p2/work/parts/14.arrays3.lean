/-! NEW ARRAYS, CASTS, COPIES, CLASS OBJECTS -/
section XARZ
variable {ms : List xM} {Z : xD} {own nm : String} {cc : ByteArray} {nL : Nat} {rt : Option FieldType} {hh : List (Nat × Nat × Nat × Nat)} {pc : Nat}
theorem x_rep {E : xE} {al : List Nat} {N : Nat} {v : xV} {V : Value} (hv : x_rv E al v V) : ∀ (j : Nat) (u : xV), (List.replicate N v)[j]? = some u → x_rv E al u V := by
  intro j u hj
  have := List.mem_of_getElem? hj
  rw [(List.mem_replicate.mp this).2]
  exact hv
/-- new rows of numbers, and of references -/
noncomputable def xo_newa (kd : Nat) (dv : xV) (nx : Nat) : xO := fun _ c ls st w k n => x_pop st fun v t => x_tag 2 v fun m => x_if (Nat.ble m 100000) (x_fn w.1 fun i => x_wp (kd, List.replicate m dv) w fun w' => x_fn (k + 1) fun k' => x_fn (n + m) fun n' => c nx ls ((1, i) :: t) w' k' n')
theorem xs_newaW {kd nx : Nat} {dv : xV} (row : ∀ (d : Nat) (E : xE) (al0 : List Nat) (r : xT) (p : Program) (l : Launch) (e : Env) (R : Room) (s : State) (m : MethodId) (args : Array Value) (below : List Frame) (meth : Method) (c : Code) (Q : State → Prop), x_Cx own nm cc nL rt hh d Z E al0 r p l e R s m args below meth c Q → ∀ (w : xW) (ws : va_W) (H : Heap) (locs : List Loc) (als : Array Slot) (k n N : Nat) (rest : List Value), x_Wd E w ws H → va_S (x_A E) s.heap H locs → N ≤ 100000 → ¬ nI N < 0 → (nI N).toNatClampNeg = N → k + 1 ≤ R.cells → n + N ≤ R.slots → ∃ e1, (∀ al, x_RC E al (kd, List.replicate N dv) e1) ∧ ((∀ (q : Nat) (H1 : Heap), va_P E.1 xcl (ws ++ [(q, e1)]) H1 → va_D (x_A E) (ws ++ [(q, e1)]) → va_S (x_A E) s.heap H1 locs → W p l e R s m args below meth c H1 locs (k + 1) (n + N) Q (F0 m nx als (.ref q :: rest))) → W p l e R s m args below meth c H locs k n Q (F0 m pc als (.int (nI N) :: rest)))) : x_Ok ms Z own nm cc nL rt hh pc (xo_newa kd dv nx) := by
  intro d fn hfn E al0 r p l e R s m args below meth c Q hC cont ih ls st w k n h
  replace h := x_pop_some h
  obtain ⟨v, t, rfl, h⟩ := h
  replace h := x_tag_some h
  obtain ⟨N, rfl, h⟩ := h
  obtain ⟨h0, h⟩ := x_if_some h
  rw [x_fn_eq] at h
  replace h := x_wp_some h
  obtain ⟨w', hps, h⟩ := h
  rw [x_fn_eq, x_fn_eq] at h
  have g := ih _ _ _ _ _ _ h
  have hR := hC.2.2.2.2.2.2.2.2.2.2.2.2.2.1
  refine ⟨Nat.le_trans (Nat.le_succ k) g.1, Nat.le_trans (Nat.le_add_right n N) g.2.1, fun ws H locs als lv vst hW hal hS hl hL hV => ?_⟩
  replace hV := hV.cons
  obtain ⟨V, vst, rfl, hvv, hV⟩ := hV
  cases hvv
  have hN : N ≤ 100000 := Nat.le_of_ble_eq_true h0
  have hN2 : N < 2 ^ 31 := by omega
  obtain ⟨e1, h1, h2⟩ := row d E al0 r p l e R s m args below meth c Q hC w ws H locs als k n N vst hW hS hN (nI_pos hN2) (nI_clamp hN2) (Nat.le_trans g.1 hR.2.2.1) (Nat.le_trans g.2.1 hR.2.2.2)
  refine h2 fun q H1 hP hD hS1 => ?_
  have hp : x_al ws <+: x_al (ws ++ [(q, e1)]) := by rw [x_al_push]; exact List.prefix_append _ _
  exact g.2.2 _ H1 locs als lv _ ⟨hW.1.push hps (h1 _), hP, hD⟩ (hal.trans hp) hS1 hl (hL.mono hp) ⟨⟨q, x_RW_len hW.1, rfl⟩, hV.mono hp⟩
theorem xs_newI (ha : Cond.arrayClass .int ∈ xTb) (hd : decode cc pc = .ok (.newarray .int, 2)) : x_Ok ms Z own nm cc nL rt hh pc (xo_newa 100 (2, 0) (pc + 2)) := xs_newaW fun d E al0 r p l e R s m args below meth c Q hC w ws H locs als k n N rest hW hS hN h0 hN2 hk hn => by
  obtain ⟨hx, hb, -, ho, hts, hK, hE, hb0, -⟩ := hC
  refine ⟨.inl (E.2.1 0, N, .inl (fun _ => 0)), fun al => Or.inr (Or.inl ⟨rfl, fun _ => 0, by rw [List.length_replicate], x_rep (V := .int 0) rfl⟩), fun kk => ?_⟩
  refine va_newa (atype := .int) (ty := .int) (a0 := (N, .inl (fun _ => 0))) hx hb (hts _ ha) rfl hK hW.2.1 hW.2.2 hS (fun q h => Nat.le_trans hb0 h) (fun cA => rfl) h0 hN2 (Nat.le_trans (Nat.mul_le_mul_right _ hN) (by decide)) hk hn hd fun q cA H1 hK1 hP hD hS1 => ?_
  have e : cA = E.2.1 0 := Option.some.inj ((hK1.2 7 _ rfl).2.symm.trans (hK.2 0 _ rfl).2)
  subst e
  exact kk q H1 hP hD hS1
theorem xs_newJ (ha : Cond.arrayClass .long ∈ xTb) (hd : decode cc pc = .ok (.newarray .long, 2)) : x_Ok ms Z own nm cc nL rt hh pc (xo_newa 101 (3, 0) (pc + 2)) := xs_newaW fun d E al0 r p l e R s m args below meth c Q hC w ws H locs als k n N rest hW hS hN h0 hN2 hk hn => by
  obtain ⟨hx, hb, -, ho, hts, hK, hE, hb0, -⟩ := hC
  refine ⟨.inl (E.2.1 1, N, .inr (.inl (fun _ => 0))), fun al => Or.inr (Or.inr (Or.inl ⟨rfl, fun _ => 0, by rw [List.length_replicate], x_rep (V := .long 0) rfl⟩)), fun kk => ?_⟩
  refine va_newa (atype := .long) (ty := .long) (a0 := (N, .inr (.inl (fun _ => 0)))) hx hb (hts _ ha) rfl hK hW.2.1 hW.2.2 hS (fun q h => Nat.le_trans hb0 h) (fun cA => rfl) h0 hN2 (Nat.le_trans (Nat.mul_le_mul_right _ hN) (by decide)) hk hn hd fun q cA H1 hK1 hP hD hS1 => ?_
  have e : cA = E.2.1 1 := Option.some.inj ((hK1.2 7 _ rfl).2.symm.trans (hK.2 1 _ rfl).2)
  subst e
  exact kk q H1 hP hD hS1
theorem xs_newD (ha : Cond.arrayClass .double ∈ xTb) (hd : decode cc pc = .ok (.newarray .double, 2)) : x_Ok ms Z own nm cc nL rt hh pc (xo_newa 102 (7, 0) (pc + 2)) := xs_newaW fun d E al0 r p l e R s m args below meth c Q hC w ws H locs als k n N rest hW hS hN h0 hN2 hk hn => by
  obtain ⟨hx, hb, -, ho, hts, hK, hE, hb0, -⟩ := hC
  refine ⟨.inl (E.2.1 2, N, .inr (.inr (.inr (.inl (fun _ => 0))))), fun al => Or.inr (Or.inr (Or.inr (Or.inl ⟨rfl, fun _ => 0, by rw [List.length_replicate], x_rep (V := .double 0) rfl⟩))), fun kk => ?_⟩
  refine va_newa (atype := .double) (ty := .double) (a0 := (N, .inr (.inr (.inr (.inl (fun _ => 0)))))) hx hb (hts _ ha) rfl hK hW.2.1 hW.2.2 hS (fun q h => Nat.le_trans hb0 h) (fun cA => rfl) h0 hN2 (Nat.le_trans (Nat.mul_le_mul_right _ hN) (by decide)) hk hn hd fun q cA H1 hK1 hP hD hS1 => ?_
  have e : cA = E.2.1 2 := Option.some.inj ((hK1.2 7 _ rfl).2.symm.trans (hK.2 2 _ rfl).2)
  subst e
  exact kk q H1 hP hD hS1
theorem xs_newO {index : Nat} (hcl : Cond.classLink own index "java/lang/Object" ∈ xTb) (hd : decode cc pc = .ok (.anewarray index, 3)) : x_Ok ms Z own nm cc nL rt hh pc (xo_newa 103 (0, 0) (pc + 3)) := xs_newaW fun d E al0 r p l e R s m args below meth c Q hC w ws H locs als k n N rest hW hS hN h0 hN2 hk hn => by
  obtain ⟨hx, hb, -, ho, hts, hK, hE, hb0, -⟩ := hC
  refine ⟨.inl (E.2.1 3, N, .inr (.inr (.inr (.inr (fun _ => none))))), fun al => Or.inr (Or.inr (Or.inr (Or.inr ⟨(show (103 : Nat) ≤ 103 by decide), (show (103 : Nat) < 107 by decide), fun _ => none, by show (Sum.inl (E.2.1 3, N, _) : va_E) = .inl (E.2.1 3, (List.replicate N _).length, _); rw [List.length_replicate], x_rep (V := .null) rfl⟩))), fun kk => ?_⟩
  refine va_newq hx hb ho (hts _ hcl) hE.2.2.2.2.1.1 hK hW.2.1 hW.2.2 hS (fun q h => Nat.le_trans hb0 h) h0 hN2 (Nat.le_trans (Nat.mul_le_mul_right _ hN) (by decide)) hk hn hd fun q cA H1 hK1 hP hD hS1 => ?_
  obtain ⟨-, -, -, -, -, z1⟩ := (hK1.2 7 _ rfl).2
  obtain ⟨-, -, -, -, -, z2⟩ := (hK.2 3 _ rfl).2
  have e : cA = E.2.1 3 := Option.some.inj (z1.symm.trans z2)
  subst e
  exact kk q H1 hP hD hS1
theorem xs_newR {index : Nat} (hcl : Cond.classLink own index "Weightlattice$Register" ∈ xTb) (hd : decode cc pc = .ok (.anewarray index, 3)) : x_Ok ms Z own nm cc nL rt hh pc (xo_newa 106 (0, 0) (pc + 3)) := xs_newaW fun d E al0 r p l e R s m args below meth c Q hC w ws H locs als k n N rest hW hS hN h0 hN2 hk hn => by
  obtain ⟨hx, hb, -, ho, hts, hK, hE, hb0, -⟩ := hC
  refine ⟨.inl (E.2.1 6, N, .inr (.inr (.inr (.inr (fun _ => none))))), fun al => Or.inr (Or.inr (Or.inr (Or.inr ⟨(show (103 : Nat) ≤ 106 by decide), (show (106 : Nat) < 107 by decide), fun _ => none, by show (Sum.inl (E.2.1 6, N, _) : va_E) = .inl (E.2.1 6, (List.replicate N _).length, _); rw [List.length_replicate], x_rep (V := .null) rfl⟩))), fun kk => ?_⟩
  refine va_newq hx hb ho (hts _ hcl) hE.2.2.2.2.1.2.1 hK hW.2.1 hW.2.2 hS (fun q h => Nat.le_trans hb0 h) h0 hN2 (Nat.le_trans (Nat.mul_le_mul_right _ hN) (by decide)) hk hn hd fun q cA H1 hK1 hP hD hS1 => ?_
  obtain ⟨-, -, -, -, -, z1⟩ := (hK1.2 7 _ rfl).2
  obtain ⟨-, -, -, -, -, z2⟩ := (hK.2 6 _ rfl).2
  have e : cA = E.2.1 6 := Option.some.inj (z1.symm.trans z2)
  subst e
  exact kk q H1 hP hD hS1
/-- rows of rows -/
noncomputable def x_rng {β : Type} (N : Nat) : Nat → (List xV → Option β) → Option β := Nat.rec (motive := fun _ => Nat → (List xV → Option β) → Option β) (fun _ kk => kk []) (fun _ ih i kk => x_fn i fun i' => ih (i' + 1) fun t => kk ((1, i') :: t)) N
theorem x_rng_eq {β : Type} {N : Nat} : ∀ {i : Nat} {kk : List xV → Option β}, x_rng N i kk = kk ((List.range N).map fun j => (1, i + j)) := by
  induction N with
  | zero => intro i kk; rfl
  | succ N ih =>
    intro i kk
    have h : x_rng (N + 1) i kk = x_fn i fun i' => x_rng N (i' + 1) fun t => kk ((1, i') :: t) := rfl
    rw [h, x_fn_eq, ih, List.range_succ_eq_map, List.map_cons, List.map_map]
    congr 3
    funext j
    show (1, i + 1 + j) = (1, i + (j + 1))
    congr 1
    omega
noncomputable def x_reps {α β : Type} (v : α) (N : Nat) : (List α → Option β) → Option β := Nat.rec (motive := fun _ => (List α → Option β) → Option β) (fun kk => kk []) (fun _ ih kk => ih fun t => kk (v :: t)) N
theorem x_reps_eq {α β : Type} {v : α} {N : Nat} : ∀ {kk : List α → Option β}, x_reps v N kk = kk (List.replicate N v) := by
  induction N with
  | zero => intro kk; rfl
  | succ N ih =>
    intro kk
    have h : x_reps v (N + 1) kk = x_reps v N fun t => kk (v :: t) := rfl
    rw [h, ih]
    rfl
noncomputable def x_app {α β : Type} (l : List α) (w : List α) : (List α → Option β) → Option β := List.rec (motive := fun _ => (List α → Option β) → Option β) (fun k => k l) (fun a _ ih k => ih (fun t' => k (a :: t'))) w
theorem x_app_eq {α β : Type} {l w : List α} {k : List α → Option β} : x_app l w k = k (w ++ l) := by
  induction w generalizing k with
  | nil => rfl
  | cons a t ih => exact ih (k := fun t' => k (a :: t'))
noncomputable def xo_mna (ko ki : Nat) (dv : xV) (nx : Nat) : xO := fun _ c ls st w k n => x_pop st fun kv t => x_pop t fun nv t => x_tag 2 kv fun K => x_tag 2 nv fun N => x_if (Nat.ble K 10000 && Nat.ble N 10000) (x_fn w.1 fun i => x_rng N (i + 1) fun refs => x_reps (ki, List.replicate K dv) N fun rows => x_wps ((ko, refs) :: rows) w fun w' => x_fn (k + 1 + N) fun k' => x_fn (n + N + N * K) fun n' => c nx ls ((1, i) :: t) w' k' n')
theorem xs_mnaW {ko ki di dz : Nat} {dv : xV} {ty : FieldType} {z : Nat → vp_A} {index : Nat} (hko : 103 ≤ ko ∧ ko < 107) (hto : ∀ dA : Nat → ClassId, (x_tys dA)[ko - 100]? = some (dA (ko - 100), .array ty)) (hcl : Cond.classLink own index ("[" ++ (FieldType.array ty).toString) ∈ xTb) (har : Cond.arrayClass ty ∈ xTb) (hov : ∀ (E : xE) (s : State), x_EnD Z E s s.heap → va_AOA ty s) (hcy : ∀ (E : xE) (s : State), va_K E.1 xcl (x_tys E.2.1) s → s.vm.findClass (FieldType.array ty).toString = some (E.2.1 di)) (hcb : componentBytes ty ≤ 8) (hdf : fits ty (defaultValue ty) = true) (hdd : (defaultValue ty).isDefault = true) (hz : ∀ (K : Nat) (c : ClassId), Jvm.Free.Multi.innerC c K (defaultValue ty) = vp_cell c (z K))
    (hrc : ∀ (E : xE) (al : List Nat) (K : Nat), x_RC E al (ki, List.replicate K dv) (.inl (E.2.1 di, z K))) (hd : decode cc pc = .ok (.multianewarray index 2, 4)) : x_Ok ms Z own nm cc nL rt hh pc (xo_mna ko ki dv (pc + 4)) := by
  intro d fn hfn E al0 r p l e R s m args below meth c Q hC cont ih ls st w k n h
  replace h := x_pop_some h
  obtain ⟨kv, t, rfl, h⟩ := h
  replace h := x_pop_some h
  obtain ⟨nv, t, rfl, h⟩ := h
  replace h := x_tag_some h
  obtain ⟨K, rfl, h⟩ := h
  replace h := x_tag_some h
  obtain ⟨N, rfl, h⟩ := h
  obtain ⟨h0, h⟩ := x_if_some h
  rw [x_fn_eq, x_rng_eq, x_reps_eq] at h
  replace h := x_wps_some h
  obtain ⟨w', hps, h⟩ := h
  rw [x_fn_eq, x_fn_eq] at h
  have g := ih _ _ _ _ _ _ h
  simp only [Bool.and_eq_true] at h0
  have hK9 : K ≤ 10000 := Nat.le_of_ble_eq_true h0.1
  have hN9 : N ≤ 10000 := Nat.le_of_ble_eq_true h0.2
  obtain ⟨hx, hb, -, ho, hts, hK, hE, hb0, -, -, -, -, -, ⟨-, -, hR1, hR2⟩, -⟩ := hC
  refine ⟨Nat.le_trans (by omega) g.1, Nat.le_trans (by omega) g.2.1, fun ws H locs als lv vst hW hal hS hl hL hV => ?_⟩
  replace hV := hV.cons
  obtain ⟨KV, vst, rfl, hkv, hV⟩ := hV
  replace hV := hV.cons
  obtain ⟨NV, vst, rfl, hnv, hV⟩ := hV
  cases hkv
  cases hnv
  have g1 : k + 1 + N ≤ R.cells := Nat.le_trans g.1 hR1
  have g2 : n + N + N * K ≤ R.slots := Nat.le_trans g.2.1 hR2
  have hKb : K * componentBytes ty ≤ 536870912 := Nat.le_trans (Nat.mul_le_mul hK9 hcb) (by decide)
  refine va_mna (X := ws) (L := []) (f := fun _ => .inl (0, 0, .inl (fun _ => 0))) (ty := ty) (cy := E.2.1 di) (z := z K) hx hb ho (hts _ hcl) (hov E s hE) (hts _ har) (hcy E s hK) hK (by rw [show va_pl ([] : List Nat) _ = [] from rfl, List.append_nil]; exact hW.2.1) (by rw [show va_pl ([] : List Nat) _ = [] from rfl, List.append_nil]; exact hW.2.2) hS (fun q h => Nat.le_trans hb0 h) (nI_pos (by omega)) (nI_pos (by omega)) (nI_clamp (by omega)) (nI_clamp (by omega)) (by omega) hKb (by omega) hdf hdd (by omega) (by omega) (hz K) hd fun q rr cA H1 hinj hnin hK1 hP hD hS1 => ?_
  have e : cA = E.2.1 (ko - 100) := by
    have z1 := (hK1.2 7 _ rfl).2
    have z2 := (hK.2 _ _ (hto E.2.1)).2
    exact Option.some.inj (z1.symm.trans z2)
  subst e
  have hes : va_pl ([] ++ (List.range N).map rr) (vr_up (fun _ => (.inl (0, 0, .inl (fun _ => 0)) : va_E)) ((List.range N).map rr) (.inl (E.2.1 di, z K))) = ((List.range N).map rr).map fun a => (a, (.inl (E.2.1 di, z K) : va_E)) := by
    unfold va_pl
    rw [List.nil_append]
    apply List.map_congr_left
    intro a ha
    rw [vr_up_in ha]
  rw [hes, List.append_assoc] at hP hD
  generalize hge : ([(q, (.inl (E.2.1 (ko - 100), N, .inr (.inr (.inr (.inr (fun i => if i < N then some (rr i) else none))))) : va_E))] ++ ((List.range N).map rr).map fun a => (a, (.inl (E.2.1 di, z K) : va_E)) : va_W) = es at hP hD
  have hal1 : x_al (ws ++ es) = x_al ws ++ (q :: (List.range N).map rr) := by
    rw [← hge, x_al, List.map_append, List.map_append, List.map_map]
    simp
  have hpre : x_al ws <+: x_al (ws ++ es) := by rw [hal1]; exact List.prefix_append _ _
  have hwl : (x_al ws).length = w.1 := by rw [List.length_map, hW.1.1]
  have hq : (x_al (ws ++ es))[w.1]? = some q := by
    rw [hal1, List.getElem?_append_right (by omega), hwl, Nat.sub_self]
    rfl
  refine g.2.2 _ H1 locs als lv _ ⟨?_, hP, hD⟩ (hal.trans hpre) hS1 hl (hL.mono hpre) ⟨⟨q, hq, rfl⟩, hV.mono hpre⟩
  refine x_RW_app hps hW.1 (by rw [← hge]; simp) fun i c2 q2 hi hq2 => ?_
  cases i with
  | zero =>
    rw [← hge] at hq2
    cases hi
    cases hq2
    refine Or.inr (Or.inr (Or.inr (Or.inr ⟨hko.1, hko.2, fun i => if i < N then some (rr i) else none, by simp, fun j v hj => ?_⟩)))
    have hjN : j < N := by
      have := (List.getElem?_eq_some_iff.mp hj).1
      simpa using this
    rw [List.getElem?_map, List.getElem?_range hjN] at hj
    cases hj
    simp only [if_pos hjN]
    refine ⟨rr j, ?_, rfl⟩
    rw [hal1, List.getElem?_append_right (by omega), hwl, show w.1 + 1 + j - w.1 = j + 1 by omega, List.getElem?_cons_succ, List.getElem?_map, List.getElem?_range hjN]
    rfl
  | succ i =>
    rw [← hge] at hq2
    have hi2 : (List.replicate N (ki, List.replicate K dv))[i]? = some c2 := hi
    have hc2 : c2 = (ki, List.replicate K dv) := (List.mem_replicate.mp (List.mem_of_getElem? hi2)).2
    have hq3 : (((List.range N).map rr).map fun a => (a, (.inl (E.2.1 di, z K) : va_E)))[i]? = some q2 := hq2
    obtain ⟨a, -, ha⟩ := List.mem_map.mp (List.mem_of_getElem? hq3)
    subst hc2
    rw [← ha]
    exact hrc E _ K
end XARZ
