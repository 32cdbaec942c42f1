/-! THE KINDS OF CALLS -/
section XKND
variable {ms : List xM} {Z : xD} {own nm : String} {cc : ByteArray} {nL : Nat} {rt : Option FieldType} {hh : List (Nat × Nat × Nat × Nat)} {pc : Nat}
/-- what a method's words are, once for all its calls -/
def x_Mok (M : xM) : Prop := M.2.2.2.2 = [] ∧ Cond.code M.1 M.2.1 M.2.2.1 M.2.2.2.1 ∈ xTb ∧ Cond.initialized M.1.cls ∈ xTb ∧ (M.1.cls ≠ "java/lang/invoke/MethodHandle" ∧ M.1.cls ≠ "java/lang/invoke/VarHandle") ∧ M.2.2.1 ≤ 40
theorem x_Mok.hd {M : xM} (h : x_Mok M) : x_ws M = Cond.code M.1 M.2.1 M.2.2.1 M.2.2.2.1 :: xTb := by
  unfold x_ws x_hd
  rw [if_pos h.1]
theorem x_Mok.goodIn {M : xM} (h : x_Mok M) : GoodIn xTb (x_ws M) := by
  rw [h.hd]
  refine x_goodIn fun w hw => ?_
  rcases List.mem_cons.mp hw with rfl | hw
  · exact ⟨h.2.1, x_good h.2.1⟩
  · exact ⟨hw, x_good hw⟩
theorem x_goodApp {a b : List Cond} (ha : ∀ w ∈ a, w ∈ xTb) (hb : GoodIn xTb b) : GoodIn xTb (a ++ b) := goodIn_app (x_goodIn fun w hw => ⟨ha w hw, x_good (ha w hw)⟩) hb
def x_ckT (_ : xW) (_ : List xV) : Bool := true
/-- a static method -/
theorem x_rowS {na index : Nat} {M : xM} (hM : x_Mok M) (hlk : Cond.methodLink own index M.1 ∈ xTb) (hst : Cond.static M.1 ∈ xTb) (hn : (parseMethodDescriptor M.1.desc).map (fun d => d.parameters.length) = some na) (hd : decode cc pc = .ok (.invokestatic index, 3)) : x_CallRow na 3 M own nm cc nL rt hh pc Z x_ckT := by
  intro d E al0 r p l e R s m args below meth c Q hC w ws H locs als k n av vs rest r2 hsz hW hS hna hV hck hcat hk1 hk2 hMet
  obtain ⟨hx, hb, hml, ho, hts, hK, hE, hb0, -, -, -, -, -, ⟨hR3, hR4, hR1, hR2⟩, -⟩ := hC
  have hG : GoodIn xTb (va_wsS own index M.1 (x_ws M)) := x_goodApp (fun w hw => by
    simp only [List.mem_cons, List.not_mem_nil, or_false] at hw
    rcases hw with rfl | rfl | rfl
    · exact hlk
    · exact hst
    · exact hM.2.2.1) hM.goodIn
  have hml40 := hM.2.2.2.2
  exact vx_runS (As := vs) (rest := rest) ⟨hx, hb, hml, ho, hts⟩ hMet (va_cwS (R := R) (rm := x_rm d r2) na hts hG hM.hd rfl rfl ⟨hM.2.2.2.1.1, hM.2.2.2.1.2, hn⟩ ⟨by show d + 8 + 1 ≤ R.frames; omega, by show 8 + (M.2.2.1 + 11) + (70 * d + 200) ≤ R.locals; omega⟩) ⟨x_Pre_blind, fun U hU hW1 => ⟨rfl, x_Pre_of hW hK hE hb0 hS U hU hW1⟩⟩ rfl (by rw [← hV.len]; exact hna) hsz rfl (lv_room hcat) hd ⟨hk1, hk2⟩
/-- a nest mate's static method -/
theorem x_rowSN {na index : Nat} {host : String} {M : xM} (hM : x_Mok M) (hlk : (own, index, M.1, host) ∈ Z.2.1) (hst : Cond.static M.1 ∈ xTb) (hn : (parseMethodDescriptor M.1.desc).map (fun d => d.parameters.length) = some na) (hd : decode cc pc = .ok (.invokestatic index, 3)) : x_CallRow na 3 M own nm cc nL rt hh pc Z x_ckT := by
  intro d E al0 r p l e R s m args below meth c Q hC w ws H locs als k n av vs rest r2 hsz hW hS hna hV hck hcat hk1 hk2 hMet
  obtain ⟨hx, hb, hml, ho, hts, hK, hE, hb0, -, -, -, -, -, ⟨hR3, hR4, hR1, hR2⟩, -⟩ := hC
  have hml40 := hM.2.2.2.2
  exact vx_runSN (As := vs) (rest := rest) ⟨hx, hb, hml, ho, hts⟩ hMet ⟨va_cnB (R := R) (rm := x_rm d r2) na hts hM.goodIn hM.hd rfl rfl (hE.2.2.2.2.2.1.2.1 _ hlk) (hts _ hM.2.2.1) ⟨hM.2.2.2.1.1, hM.2.2.2.1.2, hn⟩ ⟨by show d + 8 + 1 ≤ R.frames; omega, by show 8 + (M.2.2.1 + 11) + (70 * d + 200) ≤ R.locals; omega⟩, hts _ hst, trivial⟩ ⟨x_Pre_blind, fun U hU hW1 => ⟨rfl, x_Pre_of hW hK hE hb0 hS U hU hW1⟩⟩ rfl (by rw [← hV.len]; exact hna) hsz rfl (lv_room hcat) hd ⟨hk1, hk2⟩
/-- the receiver, a cell of that class -/
noncomputable def x_at {α : Type} (l : List α) (f : α → Bool) : Nat → Bool := List.rec (motive := fun _ => Nat → Bool) (fun _ => false) (fun a _ ih n => Nat.rec (motive := fun _ => Bool) (f a) (fun m _ => ih m) n) l
theorem x_at_some {α : Type} {l : List α} {f : α → Bool} {n : Nat} (h : x_at l f n = true) : ∃ a, l[n]? = some a ∧ f a = true := by
  induction l generalizing n with
  | nil => cases h
  | cons a t ih =>
    cases n with
    | zero => exact ⟨a, rfl, h⟩
    | succ n => exact ih (n := n) h
noncomputable def x_wat (w : xW) (f : xC → Bool) (n : Nat) : Bool := x_at w.2 (fun row => x_at row f (n % 16)) (n / 16)
theorem x_wat_some {w : xW} {f : xC → Bool} {n : Nat} (h : x_wat w f n = true) : ∃ a, x_cl w n = some a ∧ f a = true := by
  obtain ⟨row, h1, h2⟩ := x_at_some h
  obtain ⟨a, h3, h4⟩ := x_at_some h2
  exact ⟨a, by unfold x_cl; rw [h1]; exact h3, h4⟩
noncomputable def x_ckO (ci : Nat) (w : xW) (av : List xV) : Bool := match av with
  | [] => false
  | v :: _ => x_isT 1 v && x_wat w (fun q => Nat.beq q.1 ci) v.2
def x_ckR (_ : xW) (av : List xV) : Bool := match av with
  | [] => false
  | v :: _ => x_isT 1 v
theorem x_recv {E : xE} {s : State} {H : Heap} {ci : Nat} {w : xW} {ws : va_W} {av : List xV} {vs : List Value} {q : vw_C} (hci : ci < 100) (hc : xcl[ci]? = some q) (hK : va_K E.1 xcl (x_tys E.2.1) s) (hW : x_Wd E w ws H) (hV : x_RS E (x_al ws) av vs) (h : x_ckO ci w av = true) : ∃ (b : Nat) (As : List Value), vs = .ref b :: As ∧ av.length = As.length + 1 ∧ (∃ cell : Cell, H[b]? = some cell ∧ cell.vm.isStatics = false ∧ s.vm.findClass q.1 = some cell.cls) := by
  cases av with
  | nil => cases h
  | cons v t =>
    simp only [x_ckO, Bool.and_eq_true] at h
    obtain ⟨i, rfl⟩ := x_isT_of h.1
    obtain ⟨V, As, rfl, ⟨a, h1, rfl⟩, hV2⟩ := hV.cons
    obtain ⟨cq, h2, h3⟩ := x_wat_some h.2
    obtain ⟨e1, h4, h5⟩ := hW.1.get h2 h1
    have hq : cq.1 = ci := Nat.eq_of_beq_eq_true h3
    obtain ⟨fs, rfl, -⟩ := x_RC_obj h5 (by rw [hq]; exact hci)
    rw [hq] at h4
    exact ⟨a, As, rfl, by rw [← hV2.len]; rfl, va_recv hK hW.2.1 hc h4⟩
/-- a method of the receiver's own class -/
theorem x_rowV {na index ci : Nat} {q : vw_C} {M : xM} (hM : x_Mok M) (hci : ci < 100) (hc : xcl[ci]? = some q) (hq : M.1.cls = q.1) (hlk : Cond.methodLink own index M.1 ∈ xTb) (him : Cond.instanceMethod M.1 ∈ xTb) (hse : Cond.selects q.1 M.1 M.1 ∈ xTb) (hn : (parseMethodDescriptor M.1.desc).map (fun d => d.parameters.length) = some na) (hd : decode cc pc = .ok (.invokevirtual index, 3)) : x_CallRow (na + 1) 3 M own nm cc nL rt hh pc Z (x_ckO ci) := by
  intro d E al0 r p l e R s m args below meth c Q hC w ws H locs als k n av vs rest r2 hsz hW hS hna hV hck hcat hk1 hk2 hMet
  obtain ⟨hx, hb, hml, ho, hts, hK, hE, hb0, -, -, -, -, -, ⟨hR3, hR4, hR1, hR2⟩, -⟩ := hC
  obtain ⟨b, As, rfl, hlen, hrecv⟩ := x_recv hci hc hK hW hV hck
  have hG : GoodIn xTb (wsV own index q.1 M.1 (x_ws M)) := x_goodApp (fun w hw => by
    simp only [List.mem_cons, List.not_mem_nil, or_false] at hw
    rcases hw with rfl | rfl | rfl | rfl
    · exact hlk
    · exact him
    · exact hse
    · rw [← hq]
      exact hM.2.2.1) hM.goodIn
  have hml40 := hM.2.2.2.2
  exact vx_runV (C := q.1) (b := b) (As := As) (rest := rest) ⟨hx, hb, hml, ho, hts⟩ hMet (cwV (R := R) (rm := x_rm d r2) na hts hG hM.hd rfl rfl ⟨hq, hM.2.2.2.1.1, hM.2.2.2.1.2, hn⟩ ⟨by show d + 8 + 1 ≤ R.frames; omega, by show 8 + (M.2.2.1 + 11) + (70 * d + 200) ≤ R.locals; omega⟩) ⟨x_Pre_blind, hrecv, fun U hU hW1 => ⟨rfl, x_Pre_of hW hK hE hb0 hS U hU hW1⟩⟩ rfl (by omega) hsz (by simp) (lv_room hcat) hd ⟨hk1, hk2⟩
/-- by an interface -/
theorem x_rowF {na index count ci : Nat} {q : vw_C} {x : MethodName} {M : xM} (hM : x_Mok M) (hci : ci < 100) (hc : xcl[ci]? = some q) (hF : (q.1, x, M.1) ∈ Z.2.2.2.1) (hlk : Cond.methodLink own index x ∈ xTb) (him : Cond.instanceMethod M.1 ∈ xTb) (hse : Cond.selects q.1 x M.1 ∈ xTb) (hn : (parseMethodDescriptor x.desc).map (fun d => d.parameters.length) = some na) (hd : decode cc pc = .ok (.invokeinterface index count, 5)) : x_CallRow (na + 1) 5 M own nm cc nL rt hh pc Z (x_ckO ci) := by
  intro d E al0 r p l e R s m args below meth c Q hC w ws H locs als k n av vs rest r2 hsz hW hS hna hV hck hcat hk1 hk2 hMet
  obtain ⟨hx, hb, hml, ho, hts, hK, hE, hb0, -, -, -, -, -, ⟨hR3, hR4, hR1, hR2⟩, -⟩ := hC
  obtain ⟨b, As, rfl, hlen, hrecv⟩ := x_recv hci hc hK hW hV hck
  have hG : GoodIn xTb (va_wsF own index q.1 x M.1 (x_ws M)) := x_goodApp (fun w hw => by
    simp only [List.mem_cons, List.not_mem_nil, or_false] at hw
    rcases hw with rfl | rfl | rfl | rfl
    · exact hlk
    · exact hse
    · exact him
    · exact hM.2.2.1) hM.goodIn
  have hml40 := hM.2.2.2.2
  obtain ⟨f1, f2, f3⟩ := hE.2.2.2.2.2.1.2.2.2.1 _ hF
  exact vx_runF (C := q.1) (b := b) (As := As) (rest := rest) (hK.1 ci q hc).2 ⟨hx, hb, hml, ho, hts⟩ hMet (va_cwF (R := R) (rm := x_rm d r2) na hts hG hM.hd rfl rfl f3 ⟨f1, f2, hn⟩ ⟨by show d + 8 + 1 ≤ R.frames; omega, by show 8 + (M.2.2.1 + 11) + (70 * d + 200) ≤ R.locals; omega⟩) ⟨x_Pre_blind, hrecv, fun U hU hW1 => ⟨rfl, x_Pre_of hW hK hE hb0 hS U hU hW1⟩⟩ rfl (by omega) hsz (by simp) (lv_room hcat) hd ⟨hk1, hk2⟩
theorem x_refv {E : xE} {al : List Nat} {w : xW} {av : List xV} {vs : List Value} (hV : x_RS E al av vs) (h : x_ckR w av = true) : ∃ (b : Nat) (As : List Value), vs = .ref b :: As ∧ av.length = As.length + 1 := by
  cases av with
  | nil => cases h
  | cons v t =>
    obtain ⟨i, rfl⟩ := x_isT_of h
    obtain ⟨V, As, rfl, ⟨a, h1, rfl⟩, hV2⟩ := hV.cons
    exact ⟨a, As, rfl, by rw [← hV2.len]; rfl⟩
/-- a constructor -/
theorem x_rowI {na index : Nat} {M : xM} (hM : x_Mok M) (hrt : M.2.2.2.1 = none) (hnm : M.1.name = "<init>") (hlk : Cond.methodLink own index M.1 ∈ xTb) (him : Cond.instanceMethod M.1 ∈ xTb) (hn : (parseMethodDescriptor M.1.desc).map (fun d => d.parameters.length) = some na) (hd : decode cc pc = .ok (.invokespecial index, 3)) : x_CallRow (na + 1) 3 M own nm cc nL rt hh pc Z x_ckR := by
  intro d E al0 r p l e R s m args below meth c Q hC w ws H locs als k n av vs rest r2 hsz hW hS hna hV hck hcat hk1 hk2 hMet
  obtain ⟨hx, hb, hml, ho, hts, hK, hE, hb0, -, -, -, -, -, ⟨hR3, hR4, hR1, hR2⟩, -⟩ := hC
  obtain ⟨b, As, rfl, hlen⟩ := x_refv hV hck
  have hml40 := hM.2.2.2.2
  have hw := hM.hd
  rw [hrt] at hw
  exact vx_runI (b := b) (As := As) (rest := rest) ⟨hx, hb, hml, ho, hts⟩ hMet (cwI (R := R) (rm := x_rm d r2) na hts hM.goodIn hw rfl rfl (hts _ hM.2.2.1) (hts _ hlk) (hts _ him) hnm ⟨hM.2.2.2.1.1, hM.2.2.2.1.2, hn⟩ ⟨by show d + 8 + 1 ≤ R.frames; omega, by show 8 + (M.2.2.1 + 11) + (70 * d + 200) ≤ R.locals; omega⟩) ⟨x_Pre_blind, fun U hU hW1 => ⟨rfl, x_Pre_of hW hK hE hb0 hS U hU hW1⟩⟩ rfl (by omega) hsz (by simp) (lv_room hcat) hd ⟨hk1, hk2⟩
/-- a nest mate's private constructor -/
theorem x_rowIN {na index : Nat} {host : String} {M : xM} (hM : x_Mok M) (hrt : M.2.2.2.1 = none) (hnm : M.1.name = "<init>") (hlk : (own, index, M.1, host) ∈ Z.2.1) (him : Cond.instanceMethod M.1 ∈ xTb) (hn : (parseMethodDescriptor M.1.desc).map (fun d => d.parameters.length) = some na) (hd : decode cc pc = .ok (.invokespecial index, 3)) : x_CallRow (na + 1) 3 M own nm cc nL rt hh pc Z x_ckR := by
  intro d E al0 r p l e R s m args below meth c Q hC w ws H locs als k n av vs rest r2 hsz hW hS hna hV hck hcat hk1 hk2 hMet
  obtain ⟨hx, hb, hml, ho, hts, hK, hE, hb0, -, -, -, -, -, ⟨hR3, hR4, hR1, hR2⟩, -⟩ := hC
  obtain ⟨b, As, rfl, hlen⟩ := x_refv hV hck
  have hml40 := hM.2.2.2.2
  have hw := hM.hd
  rw [hrt] at hw
  exact vx_runIN (b := b) (As := As) (rest := rest) ⟨hx, hb, hml, ho, hts⟩ hMet ⟨va_cnB (R := R) (rm := x_rm d r2) na hts hM.goodIn hw rfl rfl (hE.2.2.2.2.2.1.2.1 _ hlk) (hts _ hM.2.2.1) ⟨hM.2.2.2.1.1, hM.2.2.2.1.2, hn⟩ ⟨by show d + 8 + 1 ≤ R.frames; omega, by show 8 + (M.2.2.1 + 11) + (70 * d + 200) ≤ R.locals; omega⟩, hnm, hts _ him⟩ ⟨x_Pre_blind, fun U hU hW1 => ⟨rfl, x_Pre_of hW hK hE hb0 hS U hU hW1⟩⟩ rfl (by omega) hsz (by simp) (lv_room hcat) hd ⟨hk1, hk2⟩
/-- a static method with handlers of its own -/
def x_MokH (M : xM) : Prop := M.2.2.2.2 ≠ [] ∧ Cond.codeWith M.1 M.2.1 M.2.2.1 M.2.2.2.1 M.2.2.2.2 ∈ xTb ∧ Cond.initialized M.1.cls ∈ xTb ∧ (M.1.cls ≠ "java/lang/invoke/MethodHandle" ∧ M.1.cls ≠ "java/lang/invoke/VarHandle") ∧ M.2.2.1 ≤ 40
theorem x_MokH.hd {M : xM} (h : x_MokH M) : x_ws M = Cond.codeWith M.1 M.2.1 M.2.2.1 M.2.2.2.1 M.2.2.2.2 :: xTb := by
  unfold x_ws x_hd
  rw [if_neg h.1]
theorem x_MokH.goodIn {M : xM} (h : x_MokH M) : GoodIn xTb (x_ws M) := by
  rw [h.hd]
  refine x_goodIn fun w hw => ?_
  rcases List.mem_cons.mp hw with rfl | hw
  · exact ⟨h.2.1, x_good h.2.1⟩
  · exact ⟨hw, x_good hw⟩
theorem x_rowSH {na index : Nat} {M : xM} (hM : x_MokH M) (hlk : Cond.methodLink own index M.1 ∈ xTb) (hst : Cond.static M.1 ∈ xTb) (hn : (parseMethodDescriptor M.1.desc).map (fun d => d.parameters.length) = some na) (hd : decode cc pc = .ok (.invokestatic index, 3)) : x_CallRow na 3 M own nm cc nL rt hh pc Z x_ckT := by
  intro d E al0 r p l e R s m args below meth c Q hC w ws H locs als k n av vs rest r2 hsz hW hS hna hV hck hcat hk1 hk2 hMet
  obtain ⟨hx, hb, hml, ho, hts, hK, hE, hb0, -, -, -, -, -, ⟨hR3, hR4, hR1, hR2⟩, -⟩ := hC
  have hG : GoodIn xTb (va_wsS own index M.1 (x_ws M)) := x_goodApp (fun w hw => by
    simp only [List.mem_cons, List.not_mem_nil, or_false] at hw
    rcases hw with rfl | rfl | rfl
    · exact hlk
    · exact hst
    · exact hM.2.2.1) hM.goodIn
  have hml40 := hM.2.2.2.2
  exact vx_runSX (As := vs) (rest := rest) ⟨hx, hb, hml, ho, hts⟩ hMet (vx_cwSW (R := R) (rm := x_rm d r2) na hts hG hM.hd rfl rfl ⟨hM.2.2.2.1.1, hM.2.2.2.1.2, hn⟩ ⟨by show d + 8 + 1 ≤ R.frames; omega, by show 8 + (M.2.2.1 + 11) + (70 * d + 200) ≤ R.locals; omega⟩) ⟨x_Pre_blind, fun U hU hW1 => ⟨rfl, x_Pre_of hW hK hE hb0 hS U hU hW1⟩⟩ rfl (by rw [← hV.len]; exact hna) hsz rfl (lv_room hcat) hd ⟨hk1, hk2⟩
/-- Object's constructor -/
noncomputable def xo_obj (nx : Nat) : xO := fun _ c ls st w k n => x_pop st fun v t => x_if (x_isT 1 v && Nat.ble (x_cat t) 8) (c nx ls t w k n)
theorem xs_obj {index : Nat} (hlk : Cond.methodLink own index Lib.objectInit ∈ xTb) (him : Cond.instanceMethod Lib.objectInit ∈ xTb) (hcd : Cond.code Lib.objectInit ⟨#[0xb1]⟩ 1 none ∈ xTb) (hd : decode cc pc = .ok (.invokespecial index, 3)) : x_Ok ms Z own nm cc nL rt hh pc (xo_obj (pc + 3)) := by
  intro d fn hfn E al0 r p l e R s m args below meth c Q hC cont ih ls st w k n h
  replace h := x_pop_some h
  obtain ⟨v, t, rfl, h⟩ := h
  obtain ⟨h0, h⟩ := x_if_some h
  simp only [Bool.and_eq_true] at h0
  have g := ih _ _ _ _ _ _ h
  obtain ⟨hx, hb, hml, ho, hts, hK, hE, hb0, -, -, -, -, -, ⟨hR3, hR4, hR1, hR2⟩, -⟩ := hC
  refine ⟨g.1, g.2.1, fun ws H locs als lv vst hW hal hS hl hL hV => ?_⟩
  replace hV := hV.cons
  obtain ⟨V, vst, rfl, hv, hV⟩ := hV
  obtain ⟨i, rfl⟩ := x_isT_of h0.1
  obtain ⟨a, -, rfl⟩ := hv
  have hcat : (vst.map fun v => v.category).sum ≤ 8 := Nat.le_trans (x_cat_le hV) (Nat.le_of_ble_eq_true h0.2)
  have hrm := lv_room (m := m) (pc := pc) (ls := als) (rest := .ref a :: vst) hcat
  exact W.objInit hx hb ho (hts _ hlk) (hts _ him) (hts _ hcd) rfl (hl.1.trans hml.symm) rfl hd (by omega) (by omega) (g.2.2 ws H locs als lv vst hW hal hS hl hL hV)
end XKND
