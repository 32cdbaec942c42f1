/-! THE LAW'S RUN -/
noncomputable def x_law (L : Nat) (P : xP) : Option xT := x_loop (k_L_law L P) (x_run (xpr L P) 12) 100000 0 [(5, 0), (9, 0), (9, 0), (9, 0), (9, 0), (9, 0), (9, 0), (9, 0), (9, 0)] [] (0, []) 0 0
def x_gd (o : Option xT) : Bool := match o with
  | none => false
  | some r => Nat.beq r.1 0 && (Nat.beq r.2.1.1 2 && (Nat.beq r.2.1.2 1 && (Nat.ble r.2.2.2.1 600006 && Nat.ble r.2.2.2.2 7302008)))
theorem x_t0 : x_gd (x_law 0 []) = true := by decide +kernel
theorem x_tA1 : x_gd (x_law 4 [((0, (4, 0), (2, 63)), (2, 0)), ((1, (4, 1), (2, 0)), (2, 65)), ((8, (4, 2), (2, 0)), (2, 1))]) = true := by decide +kernel
