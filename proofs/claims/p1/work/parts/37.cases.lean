/-! EVERY SCRIPT -/
theorem x_ops (k : Nat) (hk : k < 64) (h0 : k ≠ 0) (h10 : k ≠ 10) : x_gd (x_law 4 [xf0 k]) = true := by
  match k, hk, h0, h10 with
  | 0, _, h, _ => exact absurd rfl h
  | 1, _, _, _ => exact x_rk1
  | 2, _, _, _ => exact x_rk2
  | 3, _, _, _ => exact x_rk3
  | 4, _, _, _ => exact x_rk4
  | 5, _, _, _ => exact x_rk5
  | 6, _, _, _ => exact x_rk6
  | 7, _, _, _ => exact x_rk7
  | 8, _, _, _ => exact x_rk8
  | 9, _, _, _ => exact x_rk9
  | 10, _, _, h => exact absurd rfl h
  | 11, _, _, _ => exact x_rk11
  | 12, _, _, _ => exact x_rk12
  | 13, _, _, _ => exact x_rk13
  | 14, _, _, _ => exact x_rk14
  | 15, _, _, _ => exact x_rk15
  | 16, _, _, _ => exact x_rk16
  | 17, _, _, _ => exact x_rk17
  | 18, _, _, _ => exact x_rk18
  | 19, _, _, _ => exact x_rk19
  | 20, _, _, _ => exact x_rk20
  | 21, _, _, _ => exact x_rk21
  | 22, _, _, _ => exact x_rk22
  | 23, _, _, _ => exact x_rk23
  | 24, _, _, _ => exact x_rk24
  | 25, _, _, _ => exact x_rk25
  | 26, _, _, _ => exact x_rk26
  | 27, _, _, _ => exact x_rk27
  | 28, _, _, _ => exact x_rk28
  | 29, _, _, _ => exact x_rk29
  | 30, _, _, _ => exact x_rk30
  | 31, _, _, _ => exact x_rk31
  | 32, _, _, _ => exact x_rk32
  | 33, _, _, _ => exact x_rk33
  | 34, _, _, _ => exact x_rk34
  | 35, _, _, _ => exact x_rk35
  | 36, _, _, _ => exact x_rk36
  | 37, _, _, _ => exact x_rk37
  | 38, _, _, _ => exact x_rk38
  | 39, _, _, _ => exact x_rk39
  | 40, _, _, _ => exact x_rk40
  | 41, _, _, _ => exact x_rk41
  | 42, _, _, _ => exact x_rk42
  | 43, _, _, _ => exact x_rk43
  | 44, _, _, _ => exact x_rk44
  | 45, _, _, _ => exact x_rk45
  | 46, _, _, _ => exact x_rk46
  | 47, _, _, _ => exact x_rk47
  | 48, _, _, _ => exact x_rk48
  | 49, _, _, _ => exact x_rk49
  | 50, _, _, _ => exact x_rk50
  | 51, _, _, _ => exact x_rk51
  | 52, _, _, _ => exact x_rk52
  | 53, _, _, _ => exact x_rk53
  | 54, _, _, _ => exact x_rk54
  | 55, _, _, _ => exact x_rk55
  | 56, _, _, _ => exact x_rk56
  | 57, _, _, _ => exact x_rk57
  | 58, _, _, _ => exact x_rk58
  | 59, _, _, _ => exact x_rk59
  | 60, _, _, _ => exact x_rk60
  | 61, _, _, _ => exact x_rk61
  | 62, _, _, _ => exact x_rk62
  | 63, _, _, _ => exact x_rk63
  | k + 64, h, _, _ => omega
theorem x_every {L : Nat} (hL : L ≤ 4) (xs : Nat → Int32) : ∃ P : xP, x_FF (xrho xs) P ∧ x_gd (x_law L P) = true := by
  rcases (show L = 0 ∨ L = 1 ∨ L = 2 ∨ L = 3 ∨ L = 4 by omega) with rfl | rfl | rfl | rfl | rfl
  · exact ⟨[], .nil, x_rl0⟩
  · exact ⟨[], .nil, x_rl1⟩
  · exact ⟨[], .nil, x_rl2⟩
  · exact ⟨[], .nil, x_rl3⟩
  · obtain ⟨k, hk, h0⟩ := x_k64 (xs 0)
    have f0 : x_F1 (xrho xs) (xf0 k) := ⟨rfl, rfl, rfl, h0⟩
    by_cases k0 : k = 0
    · subst k0
      by_cases hA : ((xs 1).toUInt32 % 65536).toInt32 = nI 65
      · have f1 : x_F1 (xrho xs) (xf1 65) := ⟨rfl, rfl, rfl, hA⟩
        rcases x_rank (xs 2) with h | h | h | h | h | h
        · exact ⟨_, .cons f0 (.cons f1 (x_FLo (rho := xrho xs) h)), x_loA⟩
        · exact ⟨_, .cons f0 (.cons f1 (x_FHi (rho := xrho xs) h)), x_hiA⟩
        · exact ⟨[xf0 0, xf1 65, xf2 1], .cons f0 (.cons f1 (.cons ⟨rfl, rfl, rfl, h⟩ .nil)), x_rsA1⟩
        · exact ⟨[xf0 0, xf1 65, xf2 2], .cons f0 (.cons f1 (.cons ⟨rfl, rfl, rfl, h⟩ .nil)), x_rsA2⟩
        · exact ⟨[xf0 0, xf1 65, xf2 3], .cons f0 (.cons f1 (.cons ⟨rfl, rfl, rfl, h⟩ .nil)), x_rsA3⟩
        · exact ⟨[xf0 0, xf1 65, xf2 4], .cons f0 (.cons f1 (.cons ⟨rfl, rfl, rfl, h⟩ .nil)), x_rsA4⟩
      by_cases hB : ((xs 1).toUInt32 % 65536).toInt32 = nI 66
      · have f1 : x_F1 (xrho xs) (xf1 66) := ⟨rfl, rfl, rfl, hB⟩
        rcases x_rank (xs 2) with h | h | h | h | h | h
        · exact ⟨_, .cons f0 (.cons f1 (x_FLo (rho := xrho xs) h)), x_loB⟩
        · exact ⟨_, .cons f0 (.cons f1 (x_FHi (rho := xrho xs) h)), x_hiB⟩
        · exact ⟨[xf0 0, xf1 66, xf2 1], .cons f0 (.cons f1 (.cons ⟨rfl, rfl, rfl, h⟩ .nil)), x_rsB1⟩
        · exact ⟨[xf0 0, xf1 66, xf2 2], .cons f0 (.cons f1 (.cons ⟨rfl, rfl, rfl, h⟩ .nil)), x_rsB2⟩
        · exact ⟨[xf0 0, xf1 66, xf2 3], .cons f0 (.cons f1 (.cons ⟨rfl, rfl, rfl, h⟩ .nil)), x_rsB3⟩
        · exact ⟨[xf0 0, xf1 66, xf2 4], .cons f0 (.cons f1 (.cons ⟨rfl, rfl, rfl, h⟩ .nil)), x_rsB4⟩
      by_cases hC : ((xs 1).toUInt32 % 65536).toInt32 = nI 67
      · have f1 : x_F1 (xrho xs) (xf1 67) := ⟨rfl, rfl, rfl, hC⟩
        rcases x_rank (xs 2) with h | h | h | h | h | h
        · exact ⟨_, .cons f0 (.cons f1 (x_FLo (rho := xrho xs) h)), x_loC⟩
        · exact ⟨_, .cons f0 (.cons f1 (x_FHi (rho := xrho xs) h)), x_hiC⟩
        · exact ⟨[xf0 0, xf1 67, xf2 1], .cons f0 (.cons f1 (.cons ⟨rfl, rfl, rfl, h⟩ .nil)), x_rsC1⟩
        · exact ⟨[xf0 0, xf1 67, xf2 2], .cons f0 (.cons f1 (.cons ⟨rfl, rfl, rfl, h⟩ .nil)), x_rsC2⟩
        · exact ⟨[xf0 0, xf1 67, xf2 3], .cons f0 (.cons f1 (.cons ⟨rfl, rfl, rfl, h⟩ .nil)), x_rsC3⟩
        · exact ⟨[xf0 0, xf1 67, xf2 4], .cons f0 (.cons f1 (.cons ⟨rfl, rfl, rfl, h⟩ .nil)), x_rsC4⟩
      by_cases hD : ((xs 1).toUInt32 % 65536).toInt32 = nI 68
      · have f1 : x_F1 (xrho xs) (xf1 68) := ⟨rfl, rfl, rfl, hD⟩
        rcases x_rank (xs 2) with h | h | h | h | h | h
        · exact ⟨_, .cons f0 (.cons f1 (x_FLo (rho := xrho xs) h)), x_loD⟩
        · exact ⟨_, .cons f0 (.cons f1 (x_FHi (rho := xrho xs) h)), x_hiD⟩
        · exact ⟨[xf0 0, xf1 68, xf2 1], .cons f0 (.cons f1 (.cons ⟨rfl, rfl, rfl, h⟩ .nil)), x_rsD1⟩
        · exact ⟨[xf0 0, xf1 68, xf2 2], .cons f0 (.cons f1 (.cons ⟨rfl, rfl, rfl, h⟩ .nil)), x_rsD2⟩
        · exact ⟨[xf0 0, xf1 68, xf2 3], .cons f0 (.cons f1 (.cons ⟨rfl, rfl, rfl, h⟩ .nil)), x_rsD3⟩
        · exact ⟨[xf0 0, xf1 68, xf2 4], .cons f0 (.cons f1 (.cons ⟨rfl, rfl, rfl, h⟩ .nil)), x_rsD4⟩
      by_cases hG : ((xs 1).toUInt32 % 65536).toInt32 = nI 71
      · have f1 : x_F1 (xrho xs) (xf1 71) := ⟨rfl, rfl, rfl, hG⟩
        rcases x_rank (xs 2) with h | h | h | h | h | h
        · exact ⟨_, .cons f0 (.cons f1 (x_FLo (rho := xrho xs) h)), x_loG⟩
        · exact ⟨_, .cons f0 (.cons f1 (x_FHi (rho := xrho xs) h)), x_hiG⟩
        · exact ⟨[xf0 0, xf1 71, xf2 1], .cons f0 (.cons f1 (.cons ⟨rfl, rfl, rfl, h⟩ .nil)), x_rsG1⟩
        · exact ⟨[xf0 0, xf1 71, xf2 2], .cons f0 (.cons f1 (.cons ⟨rfl, rfl, rfl, h⟩ .nil)), x_rsG2⟩
        · exact ⟨[xf0 0, xf1 71, xf2 3], .cons f0 (.cons f1 (.cons ⟨rfl, rfl, rfl, h⟩ .nil)), x_rsG3⟩
        · exact ⟨[xf0 0, xf1 71, xf2 4], .cons f0 (.cons f1 (.cons ⟨rfl, rfl, rfl, h⟩ .nil)), x_rsG4⟩
      exact ⟨_, .cons f0 (x_FNo hA hB hC hD hG), x_no⟩
    · by_cases k10 : k = 10
      · subst k10
        by_cases h : xs 2 = nI 0
        · exact ⟨xf0 10 :: xf3 1 0, .cons f0 (.cons ⟨rfl, rfl, rfl, x_eq1 h⟩ (.cons ⟨rfl, rfl, rfl, x_ne0 h⟩ .nil)), x_rk10_1⟩
        · exact ⟨xf0 10 :: xf3 0 1, .cons f0 (.cons ⟨rfl, rfl, rfl, x_eq0 h⟩ (.cons ⟨rfl, rfl, rfl, x_ne1 h⟩ .nil)), x_rk10_0⟩
      · exact ⟨_, .cons f0 .nil, x_ops k hk k0 k10⟩
theorem whole_start {p : Program} {e : Env} {s : State} {m : MethodId} {below : List Frame} {meth : Method} {c : Code} (l : Launch) (hflags : l.flags = flags0) {b L : Nat} {xs : Nat → Int32} (hL : L ≤ 4) (C0 : lw_At p s m meth c b L xs) : W p l e room_1 s m #[Value.ref b] below meth c s.heap [] 0 0 (lw_Z below #[Value.ref b] s) (entryFrame m ([Value.ref b] : List Value).toArray 9) := by
  obtain ⟨P, h1, h2⟩ := x_every hL xs
  exact x_start l hflags C0 P (xrho xs) (fun j hj => if_neg (by omega)) h1.ok h2
