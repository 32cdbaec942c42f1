/-! WHAT IS SO OF THE SCRIPT'S NUMBERS -/
abbrev xrho (xs : Nat → Int32) : Nat → Int32 := fun j => if j = 5 then ((xs 1).toUInt32 % 65536).toInt32 else xs j
def x_F1 (rho : Nat → Int32) (q : (Nat × xV × xV) × xV) : Prop := x_isI q.1.2.1 = true ∧ x_isI q.1.2.2 = true ∧ x_isI q.2 = true ∧ x_fop q.1.1 (x_ri rho q.1.2.1) (x_ri rho q.1.2.2) = x_ri rho q.2
def x_FF (rho : Nat → Int32) (P : xP) : Prop := ∀ q ∈ P, x_F1 rho q
theorem x_FF.ok {rho : Nat → Int32} {P : xP} (h : x_FF rho P) : ∀ E : xE, E.2.2.2.1 = rho → x_FOK E P := fun E e => by
  subst e
  exact h
theorem x_FF.nil {rho : Nat → Int32} : x_FF rho [] := fun q hq => nomatch hq
theorem x_FF.cons {rho : Nat → Int32} {q : (Nat × xV × xV) × xV} {P : xP} (h1 : x_F1 rho q) (h : x_FF rho P) : x_FF rho (q :: P) := List.forall_mem_cons.mpr ⟨h1, h⟩
theorem x_k64 (x : Int32) : ∃ k : Nat, k < 64 ∧ x &&& nI 63 = nI k := by
  refine ⟨(x &&& nI 63).toUInt32.toNat, ?_, (x_nI _).symm⟩
  have h : (x &&& nI 63).toUInt32.toNat = x.toUInt32.toNat &&& 63 := by
    rw [Int32.toUInt32_and, UInt32.toNat_and]
    rfl
  rw [h]
  exact Nat.lt_of_le_of_lt Nat.and_le_right (by decide)
theorem x_eq0 {a b : Int32} (h : ¬ a = b) : x_fop 2 a b = nI 0 := by
  show cond (decide (a = b)) 1 0 = nI 0
  rw [decide_eq_false h]
  rfl
theorem x_ne1 {a b : Int32} (h : ¬ a = b) : x_fop 3 a b = nI 1 := by
  show cond (!decide (a = b)) 1 0 = nI 1
  rw [decide_eq_false h]
  rfl
theorem x_eq1 {a b : Int32} (h : a = b) : x_fop 2 a b = nI 1 := by
  show cond (decide (a = b)) 1 0 = nI 1
  rw [decide_eq_true h]
  rfl
theorem x_ne0 {a b : Int32} (h : a = b) : x_fop 3 a b = nI 0 := by
  show cond (!decide (a = b)) 1 0 = nI 0
  rw [decide_eq_true h]
  rfl
theorem x_lt1 {a b : Int32} (h : a < b) : x_fop 4 a b = nI 1 := by
  show cond (decide (a < b)) 1 0 = nI 1
  rw [decide_eq_true h]
  rfl
theorem x_lt0 {a b : Int32} (h : ¬ a < b) : x_fop 4 a b = nI 0 := by
  show cond (decide (a < b)) 1 0 = nI 0
  rw [decide_eq_false h]
  rfl
theorem x_gt1 {a b : Int32} (h : b < a) : x_fop 6 a b = nI 1 := by
  show cond (decide (b < a)) 1 0 = nI 1
  rw [decide_eq_true h]
  rfl
theorem x_gt0 {a b : Int32} (h : ¬ b < a) : x_fop 6 a b = nI 0 := by
  show cond (decide (b < a)) 1 0 = nI 0
  rw [decide_eq_false h]
  rfl
theorem x_low {a : Int32} {v : Nat} (h : a.toInt < 1) (hv : (nI v).toInt = v) (h1 : 1 ≤ v) : ¬ a = nI v ∧ a < nI v ∧ ¬ nI v < a := by
  refine ⟨fun e => ?_, Int32.lt_iff_toInt_lt.mpr (by omega), fun e => ?_⟩
  · rw [e] at h
    omega
  · have := Int32.lt_iff_toInt_lt.mp e
    omega
theorem x_high {a : Int32} {v : Nat} (h : 4 < a.toInt) (hv : (nI v).toInt = v) (h1 : v ≤ 4) : ¬ a = nI v ∧ ¬ a < nI v ∧ nI v < a := by
  refine ⟨fun e => ?_, fun e => ?_, Int32.lt_iff_toInt_lt.mpr (by omega)⟩
  · rw [e] at h
    omega
  · have := Int32.lt_iff_toInt_lt.mp e
    omega
theorem x_FLo {rho : Nat → Int32} (h : (rho 2).toInt < 1) : x_FF rho xLo := by
  obtain ⟨a1, b1, c1⟩ := x_low (v := 1) h (by decide) (by decide)
  obtain ⟨a2, b2, c2⟩ := x_low (v := 2) h (by decide) (by decide)
  obtain ⟨a3, b3, c3⟩ := x_low (v := 3) h (by decide) (by decide)
  obtain ⟨a4, b4, c4⟩ := x_low (v := 4) h (by decide) (by decide)
  exact .cons ⟨rfl, rfl, rfl, x_eq0 a1⟩ (.cons ⟨rfl, rfl, rfl, x_ne1 a1⟩ (.cons ⟨rfl, rfl, rfl, x_lt1 b1⟩ (.cons ⟨rfl, rfl, rfl, x_gt0 c1⟩ (.cons ⟨rfl, rfl, rfl, x_gt1 b1⟩ (.cons ⟨rfl, rfl, rfl, x_eq0 a2⟩ (.cons ⟨rfl, rfl, rfl, x_ne1 a2⟩ (.cons ⟨rfl, rfl, rfl, x_lt1 b2⟩ (.cons ⟨rfl, rfl, rfl, x_gt0 c2⟩ (.cons ⟨rfl, rfl, rfl, x_gt1 b2⟩ (.cons ⟨rfl, rfl, rfl, x_eq0 a3⟩ (.cons ⟨rfl, rfl, rfl, x_ne1 a3⟩ (.cons ⟨rfl, rfl, rfl, x_lt1 b3⟩ (.cons ⟨rfl, rfl, rfl, x_gt0 c3⟩ (.cons ⟨rfl, rfl, rfl, x_gt1 b3⟩ (.cons ⟨rfl, rfl, rfl, x_eq0 a4⟩ (.cons ⟨rfl, rfl, rfl, x_ne1 a4⟩ (.cons ⟨rfl, rfl, rfl, x_lt1 b4⟩ (.cons ⟨rfl, rfl, rfl, x_gt0 c4⟩ (.cons ⟨rfl, rfl, rfl, x_gt1 b4⟩ (.nil))))))))))))))))))))
theorem x_FHi {rho : Nat → Int32} (h : 4 < (rho 2).toInt) : x_FF rho xHi := by
  obtain ⟨a1, b1, c1⟩ := x_high (v := 1) h (by decide) (by decide)
  obtain ⟨a2, b2, c2⟩ := x_high (v := 2) h (by decide) (by decide)
  obtain ⟨a3, b3, c3⟩ := x_high (v := 3) h (by decide) (by decide)
  obtain ⟨a4, b4, c4⟩ := x_high (v := 4) h (by decide) (by decide)
  exact .cons ⟨rfl, rfl, rfl, x_eq0 a1⟩ (.cons ⟨rfl, rfl, rfl, x_ne1 a1⟩ (.cons ⟨rfl, rfl, rfl, x_lt0 b1⟩ (.cons ⟨rfl, rfl, rfl, x_gt1 c1⟩ (.cons ⟨rfl, rfl, rfl, x_gt0 b1⟩ (.cons ⟨rfl, rfl, rfl, x_eq0 a2⟩ (.cons ⟨rfl, rfl, rfl, x_ne1 a2⟩ (.cons ⟨rfl, rfl, rfl, x_lt0 b2⟩ (.cons ⟨rfl, rfl, rfl, x_gt1 c2⟩ (.cons ⟨rfl, rfl, rfl, x_gt0 b2⟩ (.cons ⟨rfl, rfl, rfl, x_eq0 a3⟩ (.cons ⟨rfl, rfl, rfl, x_ne1 a3⟩ (.cons ⟨rfl, rfl, rfl, x_lt0 b3⟩ (.cons ⟨rfl, rfl, rfl, x_gt1 c3⟩ (.cons ⟨rfl, rfl, rfl, x_gt0 b3⟩ (.cons ⟨rfl, rfl, rfl, x_eq0 a4⟩ (.cons ⟨rfl, rfl, rfl, x_ne1 a4⟩ (.cons ⟨rfl, rfl, rfl, x_lt0 b4⟩ (.cons ⟨rfl, rfl, rfl, x_gt1 c4⟩ (.cons ⟨rfl, rfl, rfl, x_gt0 b4⟩ (.nil))))))))))))))))))))
theorem x_FNo {xs : Nat → Int32} (hA : ¬ ((xs 1).toUInt32 % 65536).toInt32 = nI 65) (hB : ¬ ((xs 1).toUInt32 % 65536).toInt32 = nI 66) (hC : ¬ ((xs 1).toUInt32 % 65536).toInt32 = nI 67) (hD : ¬ ((xs 1).toUInt32 % 65536).toInt32 = nI 68) (hG : ¬ ((xs 1).toUInt32 % 65536).toInt32 = nI 71) : x_FF (xrho xs) xNo := .cons ⟨rfl, rfl, rfl, rfl⟩ (.cons ⟨rfl, rfl, rfl, x_eq0 (hA)⟩ (.cons ⟨rfl, rfl, rfl, x_ne1 (hA)⟩ (.cons ⟨rfl, rfl, rfl, x_eq0 (hB)⟩ (.cons ⟨rfl, rfl, rfl, x_ne1 (hB)⟩ (.cons ⟨rfl, rfl, rfl, x_eq0 (hC)⟩ (.cons ⟨rfl, rfl, rfl, x_ne1 (hC)⟩ (.cons ⟨rfl, rfl, rfl, x_eq0 (hD)⟩ (.cons ⟨rfl, rfl, rfl, x_ne1 (hD)⟩ (.cons ⟨rfl, rfl, rfl, x_eq0 (hG)⟩ (.cons ⟨rfl, rfl, rfl, x_ne1 (hG)⟩ (.nil)))))))))))
theorem x_rank (a : Int32) : a.toInt < 1 ∨ 4 < a.toInt ∨ a = nI 1 ∨ a = nI 2 ∨ a = nI 3 ∨ a = nI 4 := by
  by_cases h1 : a.toInt < 1
  · exact Or.inl h1
  · by_cases h2 : 4 < a.toInt
    · exact Or.inr (Or.inl h2)
    · have e1 : (nI 1).toInt = 1 := by decide
      have e2 : (nI 2).toInt = 2 := by decide
      have e3 : (nI 3).toInt = 3 := by decide
      have e4 : (nI 4).toInt = 4 := by decide
      rcases (show a.toInt = 1 ∨ a.toInt = 2 ∨ a.toInt = 3 ∨ a.toInt = 4 by omega) with h | h | h | h
      · exact Or.inr (Or.inr (Or.inl (Int32.toInt_inj.mp (h.trans e1.symm))))
      · exact Or.inr (Or.inr (Or.inr (Or.inl (Int32.toInt_inj.mp (h.trans e2.symm)))))
      · exact Or.inr (Or.inr (Or.inr (Or.inr (Or.inl (Int32.toInt_inj.mp (h.trans e3.symm))))))
      · exact Or.inr (Or.inr (Or.inr (Or.inr (Or.inr (Int32.toInt_inj.mp (h.trans e4.symm))))))
