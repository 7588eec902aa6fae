theorem pure_law (L : Nat) (hL : L ≤ 2560) (xs : Nat → Int32) : ∃ p : Int32 × HS, p.1 = 1 ∧ f_L_law_18 L xs FU 0 hs_s0 = some p := by
  sorry
