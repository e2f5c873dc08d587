theorem e_law {sL : Nat} {sX : Nat → Int32} (hL : sL ≤ 3584) {μ : am_Mu} (h : am_Init μ) : ∃ μ', fL_law_18 sL sX am_F 0 μ = some (1, μ') := by
  sorry
