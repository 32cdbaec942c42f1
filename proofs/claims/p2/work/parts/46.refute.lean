/-! FROM ANY START WITH THIS SCRIPT AND SOMEWHAT MORE ROOM THE LAW MAKES MORE CELLS THAN THE STATEMENT ALLOWS -/
set_option maxHeartbeats 4000000 in
theorem x_goes {l : Launch} (hflags : l.flags = flags0) {p : Program} {e : Env} (ha : l.admits e) (hc : FairCas e.choices) (hk : FairClock e.choices) {s : State} {m : MethodId} {b : Addr} {below : List Frame} (hf : s.frames = .invoking m #[.ref b] :: below) (happ : (headSpec (Jvm.Cond.code x code maxLocals ret :: tables_1) x_R9).appliesLoose x e.platform s = true) (hints : s.IntsAt b xsI) (hgv : (Jvm.Cond.and given_1 narrow_1).before #[.ref b] s = true) :
    ∃ t, Steps p.tables e below s t ∧ s.heap.size + 603073 ≤ t.heap.size := by
  obtain ⟨hgo, t, ht, hQ⟩ := x_enter (l := l) (y := x) (p := p) (code := code) (maxL := maxLocals) (ret := ret) (Q := fun t => s.heap.size + 603073 ≤ t.heap.size) (by decide +kernel) ha hc hk hf happ (fun hnm hp => by
      obtain ⟨meth, c, h1, h2, h3, h4, h5, h6, -, -⟩ := Cond.code_spec hnm (atoms_spec (ws := Jvm.Cond.code x code maxLocals ret :: tables_1) hp _ List.mem_cons_self)
      exact ⟨meth, c, h1, h2, h3, h4, h5, h6⟩) (fun meth c s₁ B hml0 => by
    obtain ⟨scr, harrAt, hlist, hof, hsmall⟩ := hints
    obtain ⟨hcb, hkn, -, -⟩ := State.arrayAt?_spec harrAt
    have hown : s.vm.findClass R_law = some m.cls := findClass_of_methodNamed B.named
    have hts0 : ∀ c ∈ (Jvm.Cond.code x code maxLocals ret :: tables_1), c.before #[Value.ref b] s = true := atoms_spec (ws := Jvm.Cond.code x code maxLocals ret :: tables_1) B.pre
    have hts : ∀ w ∈ lw_tbl, w.before #[Value.ref b] s = true := k2_hts_sels lw_privs (fun w hw => hts0 w (List.mem_cons_of_mem _ hw)) lw_privs_ok
    have hml : c.maxLocals = 9 := B.maxLocals_eq (hts0 _ List.mem_cons_self)
    have hh0 : s₁.heap = s.heap := by rw [B.state]; rfl
    have hsz : scr.slots.size = xsI.length := by rw [← Array.length_toList, hlist, List.length_map]
    have hval : ∀ j : Nat, j < xsI.length → scr.slots[j]? = some (.int (xsI.getD j 0)) := fun j hj => by
      rw [← Array.getElem?_toList, hlist, List.getElem?_map, List.getD_eq_getElem?_getD, List.getElem?_eq_getElem hj]
      rfl
    have hbl : b < s.heap.size := (Array.getElem?_eq_some_iff.mp hcb).1
    have hX : va_X b 236 (fun j => xsI.getD j 0) s s.heap := ⟨scr, hcb, hof, hkn, by rw [hsz, xsI_len], fun j hj => hval j (by rw [xsI_len]; exact hj)⟩
    have K := x_startD (p := p) (e := e) (below := below) (meth := meth) (c := c) l hflags (b := b) (L := 236) (xs := fun j => xsI.getD j 0) ⟨B.exec, B.bytes, B.returns, hml, hown, hts, hX, hbl, B.notSynchronized, hgv⟩ xP9 (fun j => xsI.getD j 0) (fun _ _ => rfl) xP9_FOK x_big x_bm1 x_bl1 x_bm2 x_bl2
    exact K s₁ hh0 (Stand.of_body B))
  exact ⟨t, Steps.head hgo ⟨[.invoking m #[.ref b]], hf, by simp, by simp⟩ ht, hQ⟩
theorem x_refute {l : Launch} (hflags : l.flags = flags0) {p : Program} {e : Env} (ha : l.admits e) (hc : FairCas e.choices) (hk : FairClock e.choices) {s : State} {m : MethodId} {b : Addr} {below : List Frame} (hf : s.frames = .invoking m #[.ref b] :: below) (happ : (headSpec (Jvm.Cond.code x code maxLocals ret :: tables_1) x_R9).appliesLoose x e.platform s = true) (hints : s.IntsAt b xsI) (hgv : (Jvm.Cond.and given_1 narrow_1).before #[.ref b] s = true) :
    ¬ ∃ (n : Nat) (o : Outcome), (∀ k, k < n → Within (stepsAlone p.tables e k s) below) ∧ (stepsAlone p.tables e n s).status = Status.running ∧ Ended (stepsAlone p.tables e n s) below o ∧ Post_1_1 p.tables e #[.ref b] s o (stepsAlone p.tables e n s) := by
  rintro ⟨n, o, hw, hrun, hend, hpost⟩
  obtain ⟨t, ⟨n1, hn1, hw1⟩, hQ⟩ := x_goes (p := p) hflags ha hc hk hf happ hints hgv
  by_cases hlt : n < n1
  · exact hend.not_within (hw1 n hlt)
  · obtain ⟨j, rfl⟩ := Nat.exists_eq_add_of_le (Nat.le_of_not_lt hlt)
    have h1 : (stepsAlone p.tables e (n1 + j) s).heap.size ≤ s.heap.size + 603072 := hpost.2.1.2.2.2.2.1
    rw [stepsAlone_add, hn1] at h1
    have h2 := stepsAlone_heap_le p.tables e j t
    omega
