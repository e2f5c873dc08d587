/-! E: simple calls in closed form -/
theorem z1 : (1 : Int32) &&& 1 = 1 := by decide
theorem z0 : (0 : Int32) &&& 1 = 0 := by decide
theorem bgd {p : Prop} [Decidable p] {ν μ : am_Mu} : ((if p then some ((1 : Int32), ν) else some ((0 : Int32), μ)).bind fun q => if q.1 &&& 1 = q.1 then some (q.1, q.2) else none) = if p then some (1, ν) else some (0, μ) := by
  split
  · simp only [Option.bind_some, z1, if_true]
  · simp only [Option.bind_some, z0, if_true]
theorem x_now (a : Int32) (μ : am_Mu) : fB_now a μ = if 0 ≤ a ∧ a < 1440000 ∧ μ 0 11 ≤ a then some (1, am_up μ 0 11 a) else some (0, μ) := by
  simp only [fB_now, l_isMinuteB, Option.bind_some, b2i_z]
  grind
theorem m_now (a : Int32) (μ : am_Mu) : fM_now a μ = if μ 108 2 ≤ a ∧ a ≤ 1439999 then some (1, am_up μ 108 2 a) else some (0, μ) := by
  simp only [fM_now, l_lies, Option.bind_some, b2i_z]
  grind
theorem x_tell (a b c : Int32) (μ : am_Mu) (h : 0 ≤ μ 1 3) : fFeasts_tell a b c μ = if μ 1 3 < 6 ∧ 0 ≤ a ∧ a < 12 ∧ 0 ≤ b ∧ b ≤ 28 ∧ 1 ≤ c ∧ c ≤ 10 then some (1, am_up (am_up (am_up (am_up μ 2 (μ 1 3).toNatClampNeg a) 3 (μ 1 3).toNatClampNeg b) 4 (μ 1 3).toNatClampNeg c) 1 3 (μ 1 3 + 1)) else some (0, μ) := by
  simp only [fFeasts_tell, l_isIn, Option.bind_some, b2i_z, inb_if (n := 6) (by decide)]
  have h6 : Int32.ofNat 6 = 6 := rfl
  rw [h6]
  grind
theorem x_feast (a b c : Int32) (μ : am_Mu) (h : 0 ≤ μ 1 3) : fB_feast a b c μ = if μ 1 3 < 6 ∧ 0 ≤ a ∧ a < 12 ∧ 0 ≤ b ∧ b ≤ 28 ∧ 1 ≤ c ∧ c ≤ 10 then some (1, am_up (am_up (am_up (am_up μ 2 (μ 1 3).toNatClampNeg a) 3 (μ 1 3).toNatClampNeg b) 4 (μ 1 3).toNatClampNeg c) 1 3 (μ 1 3 + 1)) else some (0, μ) := by
  unfold fB_feast
  rw [x_tell a b c μ h, bgd]
theorem m_feast (a b c : Int32) (μ : am_Mu) (h : 0 ≤ μ 108 3) (h2 : μ 108 3 ≤ 6) : fM_feast a b c μ = if μ 108 3 < 6 ∧ 0 ≤ a ∧ a < 12 ∧ 0 ≤ b ∧ b ≤ 28 ∧ 1 ≤ c ∧ c ≤ 10 then some (1, am_up (am_up (am_up (am_up μ 110 (μ 108 3).toNatClampNeg a) 111 (μ 108 3).toNatClampNeg b) 112 (μ 108 3).toNatClampNeg c) 108 3 (μ 108 3 + 1)) else some (0, μ) := by
  simp only [fM_feast, l_lies, Option.bind_some, b2i_z, inb_if (n := 6) (by decide)]
  have h6 : Int32.ofNat 6 = 6 := rfl
  rw [h6]
  grind
theorem x_thing (a : Int32) (μ : am_Mu) (h : 0 ≤ μ 13 14) : fB_thing a μ = if μ 13 14 < 20 ∧ 0 ≤ a ∧ a < 256 then some (μ 13 14, am_up (am_up μ 14 (μ 13 14).toNatClampNeg a) 13 14 (μ 13 14 + 1)) else some (-1, μ) := by
  simp only [fB_thing, fLedger_addThing, l_isIn, Option.bind_some, b2i_z, inb_if (n := 20) (by decide)]
  have h6 : Int32.ofNat 20 = 20 := rfl
  have h7 : μ 13 14 + 1 - 1 = μ 13 14 := by grind
  rw [h6, h7]
  grind
theorem m_thing (a : Int32) (μ : am_Mu) (h : 0 ≤ μ 108 4) (h2 : μ 108 4 ≤ 20) : fM_thing a μ = if μ 108 4 < 20 ∧ 0 ≤ a ∧ a < 256 then some (μ 108 4, am_up (am_up μ 113 (μ 108 4).toNatClampNeg a) 108 4 (μ 108 4 + 1)) else some (-1, μ) := by
  simp only [fM_thing, l_lies, Option.bind_some, b2i_z, inb_if (n := 20) (by decide)]
  have h6 : Int32.ofNat 20 = 20 := rfl
  have h7 : μ 108 4 + 1 - 1 = μ 108 4 := by grind
  rw [h6, h7]
  grind
theorem x_strike (a : Int32) (μ : am_Mu) (h2 : μ 13 15 ≤ 200) : fB_strike a μ = if 0 ≤ a ∧ a < μ 13 15 ∧ μ 21 a.toNatClampNeg = -1 then some (1, am_up μ 21 a.toNatClampNeg (μ 0 11)) else some (0, μ) := by
  have e : fLedger_strikeAct a (μ 0 11) μ = if 0 ≤ a ∧ a < μ 13 15 ∧ μ 21 a.toNatClampNeg = -1 then some (1, am_up μ 21 a.toNatClampNeg (μ 0 11)) else some (0, μ) := by
    simp only [fLedger_strikeAct, l_isIn, Option.bind_some, b2i_z, inb_if (n := 200) (by decide)]
    have h6 : Int32.ofNat 200 = 200 := rfl
    rw [h6]
    grind
  unfold fB_strike
  rw [e, bgd]
theorem m_strike (a : Int32) (μ : am_Mu) (h : 0 ≤ μ 108 5) (h2 : μ 108 5 ≤ 200) : fM_strike a μ = if 0 ≤ a ∧ a < μ 108 5 ∧ μ 138 a.toNatClampNeg = -1 then some (1, am_up μ 138 a.toNatClampNeg (μ 108 2)) else some (0, μ) := by
  simp only [fM_strike, l_lies, Option.bind_some, b2i_z, inb_if (n := 200) (by decide)]
  have h6 : Int32.ofNat 200 = 200 := rfl
  rw [h6]
  grind
theorem x_seed (a b : Int32) (μ : am_Mu) : fB_seed a b μ = if 0 ≤ a ∧ 1 ≤ b ∧ b ≤ 99 then some (1, am_up (am_up μ 102 8 a) 102 9 b) else some (0, μ) := by
  have e : fVisits_reseed a b μ = if 0 ≤ a ∧ 1 ≤ b ∧ b ≤ 99 then some (1, am_up (am_up μ 102 8 a) 102 9 b) else some (0, μ) := by
    unfold fVisits_reseed
    grind
  unfold fB_seed
  rw [e, bgd]
theorem m_seed (a b : Int32) (μ : am_Mu) : fM_seed a b μ = if 0 ≤ a ∧ 1 ≤ b ∧ b ≤ 99 then some (1, am_up (am_up μ 108 12 a) 108 13 b) else some (0, μ) := by
  simp only [fM_seed, l_lies, Option.bind_some, b2i_z]
  grind
theorem x_kitchen (a b c d : Int32) (μ : am_Mu) (h : 0 ≤ μ 76 8) : fB_kitchen a b c d μ = if μ 76 8 < 8 ∧ 0 ≤ a ∧ a < 2 ∧ 0 ≤ b ∧ b < 8 ∧ 0 ≤ c ∧ c < 100 ∧ 0 ≤ d ∧ d < 100 then some (μ 76 8, am_up (am_up (am_up (am_up (am_up μ 77 (μ 76 8).toNatClampNeg a) 78 (μ 76 8).toNatClampNeg b) 79 (μ 76 8).toNatClampNeg c) 80 (μ 76 8).toNatClampNeg d) 76 8 (μ 76 8 + 1)) else some (-1, μ) := by
  simp only [fB_kitchen, fKitchens_add, l_isIn, Option.bind_some, b2i_z, inb_if (n := 8) (by decide)]
  have h6 : Int32.ofNat 8 = 8 := rfl
  have h7 : μ 76 8 + 1 - 1 = μ 76 8 := by grind
  rw [h6, h7]
  grind
theorem m_kitchen (a b c d : Int32) (μ : am_Mu) (h : 0 ≤ μ 108 7) (h2 : μ 108 7 ≤ 8) : fM_kitchen a b c d μ = if μ 108 7 < 8 ∧ 0 ≤ a ∧ a < 2 ∧ 0 ≤ b ∧ b < 8 ∧ 0 ≤ c ∧ c < 100 ∧ 0 ≤ d ∧ d < 100 then some (μ 108 7, am_up (am_up (am_up (am_up (am_up μ 152 (μ 108 7).toNatClampNeg a) 153 (μ 108 7).toNatClampNeg b) 154 (μ 108 7).toNatClampNeg c) 155 (μ 108 7).toNatClampNeg d) 108 7 (μ 108 7 + 1)) else some (-1, μ) := by
  simp only [fM_kitchen, l_isSchool, l_lies, Option.bind_some, b2i_z, inb_if (n := 8) (by decide)]
  have h6 : Int32.ofNat 8 = 8 := rfl
  have h7 : μ 108 7 + 1 - 1 = μ 108 7 := by grind
  rw [h6, h7]
  grind
theorem x_oversee (a b : Int32) (μ : am_Mu) (h2 : μ 76 8 ≤ 8) : fB_oversee a b μ = if 0 ≤ a ∧ a < μ 76 8 ∧ 0 ≤ b ∧ b < 8 then some (1, am_up μ 78 a.toNatClampNeg b) else some (0, μ) := by
  simp only [fB_oversee, l_isIn, Option.bind_some, b2i_z, inb_if (n := 8) (by decide)]
  have h6 : Int32.ofNat 8 = 8 := rfl
  rw [h6]
  grind
theorem m_oversee (a b : Int32) (μ : am_Mu) (h : 0 ≤ μ 108 7) (h2 : μ 108 7 ≤ 8) : fM_oversee a b μ = if 0 ≤ a ∧ a < μ 108 7 ∧ 0 ≤ b ∧ b < 8 then some (1, am_up μ 153 a.toNatClampNeg b) else some (0, μ) := by
  simp only [fM_oversee, l_isKitchen, l_lies, Option.bind_some, b2i_z, inb_if (n := 8) (by decide)]
  have h6 : Int32.ofNat 8 = 8 := rfl
  rw [h6]
  grind
theorem x_trust (a b c : Int32) (μ : am_Mu) : fB_trust a b c μ = if 0 ≤ a ∧ a < 2 ∧ 0 ≤ b ∧ b < 8 ∧ ¬ μ 81 (a * 8 + b).toNatClampNeg = c then some (1, am_up μ 81 (a * 8 + b).toNatClampNeg (c &&& 1)) else some (0, μ) := by
  simp only [fB_trust, l_isIn, Option.bind_some, b2i_z, inb_if (n := 16) (by decide)]
  have h6 : Int32.ofNat 16 = 16 := rfl
  rw [h6]
  grind
theorem m_trust (a b c : Int32) (μ : am_Mu) : fM_trust a b c μ = if 0 ≤ a ∧ a < 2 ∧ 0 ≤ b ∧ b < 8 ∧ ¬ μ 156 (a * 8 + b).toNatClampNeg = c then some (1, am_up μ 156 (a * 8 + b).toNatClampNeg (c &&& 1)) else some (0, μ) := by
  simp only [fM_trust, l_isSchool, l_lies, Option.bind_some, b2i_z, inb_if (n := 16) (by decide)]
  have h6 : Int32.ofNat 16 = 16 := rfl
  have h7 : (8 : Int32) * a = a * 8 := Int32.mul_comm _ _
  rw [h6, h7]
  grind
theorem x_visitor (a b : Int32) (μ : am_Mu) (h : 0 ≤ μ 97 4) : fB_visitor a b μ = if μ 97 4 < 6 ∧ 0 ≤ a ∧ a < 2 ∧ 1 ≤ b ∧ b ≤ 9 then some (μ 97 4, am_up (am_up (am_up μ 98 (μ 97 4).toNatClampNeg a) 99 (μ 97 4).toNatClampNeg b) 97 4 (μ 97 4 + 1)) else some (-1, μ) := by
  simp only [fB_visitor, fVisitors_add, l_isIn, Option.bind_some, b2i_z, inb_if (n := 6) (by decide)]
  have h6 : Int32.ofNat 6 = 6 := rfl
  have h7 : μ 97 4 + 1 - 1 = μ 97 4 := by grind
  rw [h6, h7]
  grind
theorem m_visitor (a b : Int32) (μ : am_Mu) (h : 0 ≤ μ 108 10) (h2 : μ 108 10 ≤ 6) : fM_visitor a b μ = if μ 108 10 < 6 ∧ 0 ≤ a ∧ a < 2 ∧ 1 ≤ b ∧ b ≤ 9 then some (μ 108 10, am_up (am_up (am_up μ 167 (μ 108 10).toNatClampNeg a) 168 (μ 108 10).toNatClampNeg b) 108 10 (μ 108 10 + 1)) else some (-1, μ) := by
  simp only [fM_visitor, l_isSchool, l_lies, Option.bind_some, b2i_z, inb_if (n := 6) (by decide)]
  have h6 : Int32.ofNat 6 = 6 := rfl
  have h7 : μ 108 10 + 1 - 1 = μ 108 10 := by grind
  rw [h6, h7]
  grind
