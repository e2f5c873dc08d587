/-! E: the loop over the script (printed by wip/whole/gen/mk89.py) -/
theorem lp_b {sL p : Nat} (hp : p + 7 ≤ sL) (hL : sL ≤ 3584) (j : Nat) (hj : j < 7) : am_inb (nI p + nI j) sL = true := by
  rw [nI_plus]
  exact inb_n (by omega) (by omega)
theorem s_now {sL : Nat} {sX : Nat → Int32} {k18 : Int32 → am_Mu → Option (Int32 × am_Mu)} {p : Nat} {μ : am_Mu} (hp : p + 7 ≤ sL) (hL : sL ≤ 3584) (g : Inv μ) (hk : ∀ ν, Inv ν → ∃ μ', k18 (nI (p + 7)) ν = some (1, μ')) : ∃ μ', fL_law_196 sL sX k18 (nI p) μ = some (1, μ') := by
  have b1 : am_inb (nI p + 1) sL = true := lp_b hp hL 1 (by omega)
  have b2 : am_inb (nI p + 2) sL = true := lp_b hp hL 2 (by omega)
  have b3 : am_inb (nI p + 3) sL = true := lp_b hp hL 3 (by omega)
  have b4 : am_inb (nI p + 4) sL = true := lp_b hp hL 4 (by omega)
  have b5 : am_inb (nI p + 5) sL = true := lp_b hp hL 5 (by omega)
  have b6 : am_inb (nI p + 6) sL = true := lp_b hp hL 6 (by omega)
  have p7 : nI p + 7 = nI (p + 7) := nI_plus p 7
  obtain ⟨r, μ1, μ2, e1, e2, g2⟩ := v_now (sX (nI p + 1).toNatClampNeg) μ g
  obtain ⟨μ', h⟩ := hk μ2 g2
  refine ⟨μ', ?_⟩
  unfold fL_law_196
  try simp only [b1, b2, b3, b4, b5, b6, cond_true]
  rw [e1, Option.bind_some]
  dsimp only
  rw [e2, Option.bind_some]
  dsimp only
  rw [if_pos rfl]
  unfold fL_law_1725
  rw [p7]
  exact h
theorem s_feast {sL : Nat} {sX : Nat → Int32} {k18 : Int32 → am_Mu → Option (Int32 × am_Mu)} {p : Nat} {μ : am_Mu} (hp : p + 7 ≤ sL) (hL : sL ≤ 3584) (g : Inv μ) (hk : ∀ ν, Inv ν → ∃ μ', k18 (nI (p + 7)) ν = some (1, μ')) : ∃ μ', fL_law_219 sL sX k18 (nI p) μ = some (1, μ') := by
  have b1 : am_inb (nI p + 1) sL = true := lp_b hp hL 1 (by omega)
  have b2 : am_inb (nI p + 2) sL = true := lp_b hp hL 2 (by omega)
  have b3 : am_inb (nI p + 3) sL = true := lp_b hp hL 3 (by omega)
  have b4 : am_inb (nI p + 4) sL = true := lp_b hp hL 4 (by omega)
  have b5 : am_inb (nI p + 5) sL = true := lp_b hp hL 5 (by omega)
  have b6 : am_inb (nI p + 6) sL = true := lp_b hp hL 6 (by omega)
  have p7 : nI p + 7 = nI (p + 7) := nI_plus p 7
  obtain ⟨r, μ1, μ2, e1, e2, g2⟩ := v_feast (sX (nI p + 1).toNatClampNeg) (sX (nI p + 2).toNatClampNeg) (sX (nI p + 3).toNatClampNeg) μ g
  obtain ⟨μ', h⟩ := hk μ2 g2
  refine ⟨μ', ?_⟩
  unfold fL_law_219
  try simp only [b1, b2, b3, b4, b5, b6, cond_true]
  rw [e1, Option.bind_some]
  dsimp only
  rw [e2, Option.bind_some]
  dsimp only
  rw [if_pos rfl]
  unfold fL_law_1725
  rw [p7]
  exact h
theorem s_isFeast {sL : Nat} {sX : Nat → Int32} {k18 : Int32 → am_Mu → Option (Int32 × am_Mu)} {p : Nat} {μ : am_Mu} (hp : p + 7 ≤ sL) (hL : sL ≤ 3584) (g : Inv μ) (hk : ∀ ν, Inv ν → ∃ μ', k18 (nI (p + 7)) ν = some (1, μ')) : ∃ μ', fL_law_262 sL sX k18 (nI p) μ = some (1, μ') := by
  have b1 : am_inb (nI p + 1) sL = true := lp_b hp hL 1 (by omega)
  have b2 : am_inb (nI p + 2) sL = true := lp_b hp hL 2 (by omega)
  have b3 : am_inb (nI p + 3) sL = true := lp_b hp hL 3 (by omega)
  have b4 : am_inb (nI p + 4) sL = true := lp_b hp hL 4 (by omega)
  have b5 : am_inb (nI p + 5) sL = true := lp_b hp hL 5 (by omega)
  have b6 : am_inb (nI p + 6) sL = true := lp_b hp hL 6 (by omega)
  have p7 : nI p + 7 = nI (p + 7) := nI_plus p 7
  obtain ⟨r, μ1, μ2, e1, e2, g2⟩ := v_isFeast (sX (nI p + 1).toNatClampNeg) μ g
  obtain ⟨μ', h⟩ := hk μ2 g2
  refine ⟨μ', ?_⟩
  unfold fL_law_262
  try simp only [b1, b2, b3, b4, b5, b6, cond_true]
  rw [e1, Option.bind_some]
  dsimp only
  rw [e2, Option.bind_some]
  dsimp only
  rw [if_pos rfl]
  unfold fL_law_1725
  rw [p7]
  exact h
theorem s_moon {sL : Nat} {sX : Nat → Int32} {k18 : Int32 → am_Mu → Option (Int32 × am_Mu)} {p : Nat} {μ : am_Mu} (hp : p + 7 ≤ sL) (hL : sL ≤ 3584) (g : Inv μ) (hk : ∀ ν, Inv ν → ∃ μ', k18 (nI (p + 7)) ν = some (1, μ')) : ∃ μ', fL_law_285 sL sX k18 (nI p) μ = some (1, μ') := by
  have b1 : am_inb (nI p + 1) sL = true := lp_b hp hL 1 (by omega)
  have b2 : am_inb (nI p + 2) sL = true := lp_b hp hL 2 (by omega)
  have b3 : am_inb (nI p + 3) sL = true := lp_b hp hL 3 (by omega)
  have b4 : am_inb (nI p + 4) sL = true := lp_b hp hL 4 (by omega)
  have b5 : am_inb (nI p + 5) sL = true := lp_b hp hL 5 (by omega)
  have b6 : am_inb (nI p + 6) sL = true := lp_b hp hL 6 (by omega)
  have p7 : nI p + 7 = nI (p + 7) := nI_plus p 7
  obtain ⟨r, μ1, μ2, e1, e2, g2⟩ := v_moon (sX (nI p + 1).toNatClampNeg) (sX (nI p + 2).toNatClampNeg) μ g
  obtain ⟨μ', h⟩ := hk μ2 g2
  refine ⟨μ', ?_⟩
  unfold fL_law_285
  try simp only [b1, b2, b3, b4, b5, b6, cond_true]
  rw [e1, Option.bind_some]
  dsimp only
  rw [e2, Option.bind_some]
  dsimp only
  rw [if_pos rfl]
  unfold fL_law_1725
  rw [p7]
  exact h
theorem s_feed {sL : Nat} {sX : Nat → Int32} {k18 : Int32 → am_Mu → Option (Int32 × am_Mu)} {p : Nat} {μ : am_Mu} (hp : p + 7 ≤ sL) (hL : sL ≤ 3584) (g : Inv μ) (hk : ∀ ν, Inv ν → ∃ μ', k18 (nI (p + 7)) ν = some (1, μ')) : ∃ μ', fL_law_318 sL sX k18 (nI p) μ = some (1, μ') := by
  have b1 : am_inb (nI p + 1) sL = true := lp_b hp hL 1 (by omega)
  have b2 : am_inb (nI p + 2) sL = true := lp_b hp hL 2 (by omega)
  have b3 : am_inb (nI p + 3) sL = true := lp_b hp hL 3 (by omega)
  have b4 : am_inb (nI p + 4) sL = true := lp_b hp hL 4 (by omega)
  have b5 : am_inb (nI p + 5) sL = true := lp_b hp hL 5 (by omega)
  have b6 : am_inb (nI p + 6) sL = true := lp_b hp hL 6 (by omega)
  have p7 : nI p + 7 = nI (p + 7) := nI_plus p 7
  obtain ⟨r, μ1, μ2, e1, e2, g2⟩ := v_feed (sX (nI p + 1).toNatClampNeg) (sX (nI p + 2).toNatClampNeg) (sX (nI p + 3).toNatClampNeg) (sX (nI p + 4).toNatClampNeg) (sX (nI p + 5).toNatClampNeg) μ g
  obtain ⟨μ', h⟩ := hk μ2 g2
  refine ⟨μ', ?_⟩
  unfold fL_law_318
  try simp only [b1, b2, b3, b4, b5, b6, cond_true]
  rw [e1, Option.bind_some]
  dsimp only
  rw [e2, Option.bind_some]
  dsimp only
  rw [if_pos rfl]
  unfold fL_law_1725
  rw [p7]
  exact h
theorem s_law {sL : Nat} {sX : Nat → Int32} {k18 : Int32 → am_Mu → Option (Int32 × am_Mu)} {p : Nat} {μ : am_Mu} (hp : p + 7 ≤ sL) (hL : sL ≤ 3584) (g : Inv μ) (hk : ∀ ν, Inv ν → ∃ μ', k18 (nI (p + 7)) ν = some (1, μ')) : ∃ μ', fL_law_381 sL sX k18 (nI p) μ = some (1, μ') := by
  have b1 : am_inb (nI p + 1) sL = true := lp_b hp hL 1 (by omega)
  have b2 : am_inb (nI p + 2) sL = true := lp_b hp hL 2 (by omega)
  have b3 : am_inb (nI p + 3) sL = true := lp_b hp hL 3 (by omega)
  have b4 : am_inb (nI p + 4) sL = true := lp_b hp hL 4 (by omega)
  have b5 : am_inb (nI p + 5) sL = true := lp_b hp hL 5 (by omega)
  have b6 : am_inb (nI p + 6) sL = true := lp_b hp hL 6 (by omega)
  have p7 : nI p + 7 = nI (p + 7) := nI_plus p 7
  by_cases hz : sX (nI p + 2).toNatClampNeg = 0
  · obtain ⟨r, μ1, μ2, e1, e2, g2⟩ := v_law (sX (nI p + 1).toNatClampNeg) 0 (sX (nI p + 3).toNatClampNeg) μ g
    obtain ⟨μ', h⟩ := hk μ2 g2
    refine ⟨μ', ?_⟩
    unfold fL_law_381
    simp only [b1, b2, b3, b4, b5, b6, cond_true]
    rw [if_pos hz]
    unfold fL_law_400
    try simp only [b1, b2, b3, b4, b5, b6, cond_true]
    rw [e1, Option.bind_some]
    dsimp only
    rw [if_pos hz]
    unfold fL_law_427
    try simp only [b1, b2, b3, b4, b5, b6, cond_true]
    rw [e2, Option.bind_some]
    dsimp only
    rw [if_pos rfl]
    unfold fL_law_1725
    rw [p7]
    exact h
  · obtain ⟨r, μ1, μ2, e1, e2, g2⟩ := v_law (sX (nI p + 1).toNatClampNeg) 1 (sX (nI p + 3).toNatClampNeg) μ g
    obtain ⟨μ', h⟩ := hk μ2 g2
    refine ⟨μ', ?_⟩
    unfold fL_law_381
    simp only [b1, b2, b3, b4, b5, b6, cond_true]
    rw [if_neg hz]
    unfold fL_law_400
    try simp only [b1, b2, b3, b4, b5, b6, cond_true]
    rw [e1, Option.bind_some]
    dsimp only
    rw [if_neg hz]
    unfold fL_law_427
    try simp only [b1, b2, b3, b4, b5, b6, cond_true]
    rw [e2, Option.bind_some]
    dsimp only
    rw [if_pos rfl]
    unfold fL_law_1725
    rw [p7]
    exact h
theorem s_rules {sL : Nat} {sX : Nat → Int32} {k18 : Int32 → am_Mu → Option (Int32 × am_Mu)} {p : Nat} {μ : am_Mu} (hp : p + 7 ≤ sL) (hL : sL ≤ 3584) (g : Inv μ) (hk : ∀ ν, Inv ν → ∃ μ', k18 (nI (p + 7)) ν = some (1, μ')) : ∃ μ', fL_law_440 sL sX k18 (nI p) μ = some (1, μ') := by
  have b1 : am_inb (nI p + 1) sL = true := lp_b hp hL 1 (by omega)
  have b2 : am_inb (nI p + 2) sL = true := lp_b hp hL 2 (by omega)
  have b3 : am_inb (nI p + 3) sL = true := lp_b hp hL 3 (by omega)
  have b4 : am_inb (nI p + 4) sL = true := lp_b hp hL 4 (by omega)
  have b5 : am_inb (nI p + 5) sL = true := lp_b hp hL 5 (by omega)
  have b6 : am_inb (nI p + 6) sL = true := lp_b hp hL 6 (by omega)
  have p7 : nI p + 7 = nI (p + 7) := nI_plus p 7
  by_cases hz : sX (nI p + 2).toNatClampNeg = 0
  · obtain ⟨r, μ1, μ2, e1, e2, g2⟩ := v_rules (sX (nI p + 1).toNatClampNeg) 0 μ g
    obtain ⟨μ', h⟩ := hk μ2 g2
    refine ⟨μ', ?_⟩
    unfold fL_law_440
    simp only [b1, b2, b3, b4, b5, b6, cond_true]
    rw [if_pos hz]
    unfold fL_law_459
    try simp only [b1, b2, b3, b4, b5, b6, cond_true]
    rw [e1, Option.bind_some]
    dsimp only
    rw [if_pos hz]
    unfold fL_law_481
    try simp only [b1, b2, b3, b4, b5, b6, cond_true]
    rw [e2, Option.bind_some]
    dsimp only
    rw [if_pos rfl]
    unfold fL_law_1725
    rw [p7]
    exact h
  · obtain ⟨r, μ1, μ2, e1, e2, g2⟩ := v_rules (sX (nI p + 1).toNatClampNeg) 1 μ g
    obtain ⟨μ', h⟩ := hk μ2 g2
    refine ⟨μ', ?_⟩
    unfold fL_law_440
    simp only [b1, b2, b3, b4, b5, b6, cond_true]
    rw [if_neg hz]
    unfold fL_law_459
    try simp only [b1, b2, b3, b4, b5, b6, cond_true]
    rw [e1, Option.bind_some]
    dsimp only
    rw [if_neg hz]
    unfold fL_law_481
    try simp only [b1, b2, b3, b4, b5, b6, cond_true]
    rw [e2, Option.bind_some]
    dsimp only
    rw [if_pos rfl]
    unfold fL_law_1725
    rw [p7]
    exact h
theorem s_thing {sL : Nat} {sX : Nat → Int32} {k18 : Int32 → am_Mu → Option (Int32 × am_Mu)} {p : Nat} {μ : am_Mu} (hp : p + 7 ≤ sL) (hL : sL ≤ 3584) (g : Inv μ) (hk : ∀ ν, Inv ν → ∃ μ', k18 (nI (p + 7)) ν = some (1, μ')) : ∃ μ', fL_law_489 sL sX k18 (nI p) μ = some (1, μ') := by
  have b1 : am_inb (nI p + 1) sL = true := lp_b hp hL 1 (by omega)
  have b2 : am_inb (nI p + 2) sL = true := lp_b hp hL 2 (by omega)
  have b3 : am_inb (nI p + 3) sL = true := lp_b hp hL 3 (by omega)
  have b4 : am_inb (nI p + 4) sL = true := lp_b hp hL 4 (by omega)
  have b5 : am_inb (nI p + 5) sL = true := lp_b hp hL 5 (by omega)
  have b6 : am_inb (nI p + 6) sL = true := lp_b hp hL 6 (by omega)
  have p7 : nI p + 7 = nI (p + 7) := nI_plus p 7
  obtain ⟨r, μ1, μ2, e1, e2, g2⟩ := v_thing (sX (nI p + 1).toNatClampNeg) μ g
  obtain ⟨μ', h⟩ := hk μ2 g2
  refine ⟨μ', ?_⟩
  unfold fL_law_489
  try simp only [b1, b2, b3, b4, b5, b6, cond_true]
  rw [e1, Option.bind_some]
  dsimp only
  rw [e2, Option.bind_some]
  dsimp only
  rw [if_pos rfl]
  unfold fL_law_1725
  rw [p7]
  exact h
theorem s_act {sL : Nat} {sX : Nat → Int32} {k18 : Int32 → am_Mu → Option (Int32 × am_Mu)} {p : Nat} {μ : am_Mu} (hp : p + 7 ≤ sL) (hL : sL ≤ 3584) (g : Inv μ) (hk : ∀ ν, Inv ν → ∃ μ', k18 (nI (p + 7)) ν = some (1, μ')) : ∃ μ', fL_law_512 sL sX k18 (nI p) μ = some (1, μ') := by
  have b1 : am_inb (nI p + 1) sL = true := lp_b hp hL 1 (by omega)
  have b2 : am_inb (nI p + 2) sL = true := lp_b hp hL 2 (by omega)
  have b3 : am_inb (nI p + 3) sL = true := lp_b hp hL 3 (by omega)
  have b4 : am_inb (nI p + 4) sL = true := lp_b hp hL 4 (by omega)
  have b5 : am_inb (nI p + 5) sL = true := lp_b hp hL 5 (by omega)
  have b6 : am_inb (nI p + 6) sL = true := lp_b hp hL 6 (by omega)
  have p7 : nI p + 7 = nI (p + 7) := nI_plus p 7
  by_cases hz : sX (nI p + 5).toNatClampNeg = 0
  · obtain ⟨r, μ1, μ2, e1, e2, g2⟩ := v_act (sX (nI p + 1).toNatClampNeg) (sX (nI p + 2).toNatClampNeg) (sX (nI p + 3).toNatClampNeg) (sX (nI p + 4).toNatClampNeg) 0 (Or.inl rfl) μ g
    obtain ⟨μ', h⟩ := hk μ2 g2
    refine ⟨μ', ?_⟩
    unfold fL_law_512
    simp only [b1, b2, b3, b4, b5, b6, cond_true]
    rw [if_pos hz]
    unfold fL_law_546
    try simp only [b1, b2, b3, b4, b5, b6, cond_true]
    rw [e1, Option.bind_some]
    dsimp only
    rw [if_pos hz]
    unfold fL_law_583
    try simp only [b1, b2, b3, b4, b5, b6, cond_true]
    rw [e2, Option.bind_some]
    dsimp only
    rw [if_pos rfl]
    unfold fL_law_1725
    rw [p7]
    exact h
  · obtain ⟨r, μ1, μ2, e1, e2, g2⟩ := v_act (sX (nI p + 1).toNatClampNeg) (sX (nI p + 2).toNatClampNeg) (sX (nI p + 3).toNatClampNeg) (sX (nI p + 4).toNatClampNeg) 1 (Or.inr rfl) μ g
    obtain ⟨μ', h⟩ := hk μ2 g2
    refine ⟨μ', ?_⟩
    unfold fL_law_512
    simp only [b1, b2, b3, b4, b5, b6, cond_true]
    rw [if_neg hz]
    unfold fL_law_546
    try simp only [b1, b2, b3, b4, b5, b6, cond_true]
    rw [e1, Option.bind_some]
    dsimp only
    rw [if_neg hz]
    unfold fL_law_583
    try simp only [b1, b2, b3, b4, b5, b6, cond_true]
    rw [e2, Option.bind_some]
    dsimp only
    rw [if_pos rfl]
    unfold fL_law_1725
    rw [p7]
    exact h
theorem s_strike {sL : Nat} {sX : Nat → Int32} {k18 : Int32 → am_Mu → Option (Int32 × am_Mu)} {p : Nat} {μ : am_Mu} (hp : p + 7 ≤ sL) (hL : sL ≤ 3584) (g : Inv μ) (hk : ∀ ν, Inv ν → ∃ μ', k18 (nI (p + 7)) ν = some (1, μ')) : ∃ μ', fL_law_591 sL sX k18 (nI p) μ = some (1, μ') := by
  have b1 : am_inb (nI p + 1) sL = true := lp_b hp hL 1 (by omega)
  have b2 : am_inb (nI p + 2) sL = true := lp_b hp hL 2 (by omega)
  have b3 : am_inb (nI p + 3) sL = true := lp_b hp hL 3 (by omega)
  have b4 : am_inb (nI p + 4) sL = true := lp_b hp hL 4 (by omega)
  have b5 : am_inb (nI p + 5) sL = true := lp_b hp hL 5 (by omega)
  have b6 : am_inb (nI p + 6) sL = true := lp_b hp hL 6 (by omega)
  have p7 : nI p + 7 = nI (p + 7) := nI_plus p 7
  obtain ⟨r, μ1, μ2, e1, e2, g2⟩ := v_strike (sX (nI p + 1).toNatClampNeg) μ g
  obtain ⟨μ', h⟩ := hk μ2 g2
  refine ⟨μ', ?_⟩
  unfold fL_law_591
  try simp only [b1, b2, b3, b4, b5, b6, cond_true]
  rw [e1, Option.bind_some]
  dsimp only
  rw [e2, Option.bind_some]
  dsimp only
  rw [if_pos rfl]
  unfold fL_law_1725
  rw [p7]
  exact h
theorem s_mistake {sL : Nat} {sX : Nat → Int32} {k18 : Int32 → am_Mu → Option (Int32 × am_Mu)} {p : Nat} {μ : am_Mu} (hp : p + 7 ≤ sL) (hL : sL ≤ 3584) (g : Inv μ) (hk : ∀ ν, Inv ν → ∃ μ', k18 (nI (p + 7)) ν = some (1, μ')) : ∃ μ', fL_law_614 sL sX k18 (nI p) μ = some (1, μ') := by
  have b1 : am_inb (nI p + 1) sL = true := lp_b hp hL 1 (by omega)
  have b2 : am_inb (nI p + 2) sL = true := lp_b hp hL 2 (by omega)
  have b3 : am_inb (nI p + 3) sL = true := lp_b hp hL 3 (by omega)
  have b4 : am_inb (nI p + 4) sL = true := lp_b hp hL 4 (by omega)
  have b5 : am_inb (nI p + 5) sL = true := lp_b hp hL 5 (by omega)
  have b6 : am_inb (nI p + 6) sL = true := lp_b hp hL 6 (by omega)
  have p7 : nI p + 7 = nI (p + 7) := nI_plus p 7
  obtain ⟨r, μ1, μ2, e1, e2, g2⟩ := v_mistake (sX (nI p + 1).toNatClampNeg) (sX (nI p + 2).toNatClampNeg) (sX (nI p + 3).toNatClampNeg) μ g
  obtain ⟨μ', h⟩ := hk μ2 g2
  refine ⟨μ', ?_⟩
  unfold fL_law_614
  try simp only [b1, b2, b3, b4, b5, b6, cond_true]
  rw [e1, Option.bind_some]
  dsimp only
  rw [e2, Option.bind_some]
  dsimp only
  rw [if_pos rfl]
  unfold fL_law_1725
  rw [p7]
  exact h
theorem s_mark {sL : Nat} {sX : Nat → Int32} {k18 : Int32 → am_Mu → Option (Int32 × am_Mu)} {p : Nat} {μ : am_Mu} (hp : p + 7 ≤ sL) (hL : sL ≤ 3584) (g : Inv μ) (hk : ∀ ν, Inv ν → ∃ μ', k18 (nI (p + 7)) ν = some (1, μ')) : ∃ μ', fL_law_657 sL sX k18 (nI p) μ = some (1, μ') := by
  have b1 : am_inb (nI p + 1) sL = true := lp_b hp hL 1 (by omega)
  have b2 : am_inb (nI p + 2) sL = true := lp_b hp hL 2 (by omega)
  have b3 : am_inb (nI p + 3) sL = true := lp_b hp hL 3 (by omega)
  have b4 : am_inb (nI p + 4) sL = true := lp_b hp hL 4 (by omega)
  have b5 : am_inb (nI p + 5) sL = true := lp_b hp hL 5 (by omega)
  have b6 : am_inb (nI p + 6) sL = true := lp_b hp hL 6 (by omega)
  have p7 : nI p + 7 = nI (p + 7) := nI_plus p 7
  obtain ⟨r, μ1, μ2, e1, e2, g2⟩ := v_mark (sX (nI p + 1).toNatClampNeg) (sX (nI p + 2).toNatClampNeg) (sX (nI p + 3).toNatClampNeg) (sX (nI p + 4).toNatClampNeg) (sX (nI p + 5).toNatClampNeg) μ g
  obtain ⟨μ', h⟩ := hk μ2 g2
  refine ⟨μ', ?_⟩
  unfold fL_law_657
  try simp only [b1, b2, b3, b4, b5, b6, cond_true]
  rw [e1, Option.bind_some]
  dsimp only
  rw [e2, Option.bind_some]
  dsimp only
  rw [if_pos rfl]
  unfold fL_law_1725
  rw [p7]
  exact h
theorem s_since {sL : Nat} {sX : Nat → Int32} {k18 : Int32 → am_Mu → Option (Int32 × am_Mu)} {p : Nat} {μ : am_Mu} (hp : p + 7 ≤ sL) (hL : sL ≤ 3584) (g : Inv μ) (hk : ∀ ν, Inv ν → ∃ μ', k18 (nI (p + 7)) ν = some (1, μ')) : ∃ μ', fL_law_720 sL sX k18 (nI p) μ = some (1, μ') := by
  have b1 : am_inb (nI p + 1) sL = true := lp_b hp hL 1 (by omega)
  have b2 : am_inb (nI p + 2) sL = true := lp_b hp hL 2 (by omega)
  have b3 : am_inb (nI p + 3) sL = true := lp_b hp hL 3 (by omega)
  have b4 : am_inb (nI p + 4) sL = true := lp_b hp hL 4 (by omega)
  have b5 : am_inb (nI p + 5) sL = true := lp_b hp hL 5 (by omega)
  have b6 : am_inb (nI p + 6) sL = true := lp_b hp hL 6 (by omega)
  have p7 : nI p + 7 = nI (p + 7) := nI_plus p 7
  obtain ⟨r, μ1, μ2, e1, e2, g2⟩ := v_since (sX (nI p + 1).toNatClampNeg) (sX (nI p + 2).toNatClampNeg) (sX (nI p + 3).toNatClampNeg) (sX (nI p + 4).toNatClampNeg) (sX (nI p + 5).toNatClampNeg) (sX (nI p + 6).toNatClampNeg) μ g
  obtain ⟨μ', h⟩ := hk μ2 g2
  refine ⟨μ', ?_⟩
  unfold fL_law_720
  try simp only [b1, b2, b3, b4, b5, b6, cond_true]
  rw [e1, Option.bind_some]
  dsimp only
  rw [e2, Option.bind_some]
  dsimp only
  rw [if_pos rfl]
  unfold fL_law_1725
  rw [p7]
  exact h
theorem s_quarrel {sL : Nat} {sX : Nat → Int32} {k18 : Int32 → am_Mu → Option (Int32 × am_Mu)} {p : Nat} {μ : am_Mu} (hp : p + 7 ≤ sL) (hL : sL ≤ 3584) (g : Inv μ) (hk : ∀ ν, Inv ν → ∃ μ', k18 (nI (p + 7)) ν = some (1, μ')) : ∃ μ', fL_law_795 sL sX k18 (nI p) μ = some (1, μ') := by
  have b1 : am_inb (nI p + 1) sL = true := lp_b hp hL 1 (by omega)
  have b2 : am_inb (nI p + 2) sL = true := lp_b hp hL 2 (by omega)
  have b3 : am_inb (nI p + 3) sL = true := lp_b hp hL 3 (by omega)
  have b4 : am_inb (nI p + 4) sL = true := lp_b hp hL 4 (by omega)
  have b5 : am_inb (nI p + 5) sL = true := lp_b hp hL 5 (by omega)
  have b6 : am_inb (nI p + 6) sL = true := lp_b hp hL 6 (by omega)
  have p7 : nI p + 7 = nI (p + 7) := nI_plus p 7
  obtain ⟨r, μ1, μ2, e1, e2, g2⟩ := v_quarrel (sX (nI p + 1).toNatClampNeg) (sX (nI p + 2).toNatClampNeg) μ g
  obtain ⟨μ', h⟩ := hk μ2 g2
  refine ⟨μ', ?_⟩
  unfold fL_law_795
  try simp only [b1, b2, b3, b4, b5, b6, cond_true]
  rw [e1, Option.bind_some]
  dsimp only
  rw [e2, Option.bind_some]
  dsimp only
  rw [if_pos rfl]
  unfold fL_law_1725
  rw [p7]
  exact h
theorem s_leads {sL : Nat} {sX : Nat → Int32} {k18 : Int32 → am_Mu → Option (Int32 × am_Mu)} {p : Nat} {μ : am_Mu} (hp : p + 7 ≤ sL) (hL : sL ≤ 3584) (g : Inv μ) (hk : ∀ ν, Inv ν → ∃ μ', k18 (nI (p + 7)) ν = some (1, μ')) : ∃ μ', fL_law_828 sL sX k18 (nI p) μ = some (1, μ') := by
  have b1 : am_inb (nI p + 1) sL = true := lp_b hp hL 1 (by omega)
  have b2 : am_inb (nI p + 2) sL = true := lp_b hp hL 2 (by omega)
  have b3 : am_inb (nI p + 3) sL = true := lp_b hp hL 3 (by omega)
  have b4 : am_inb (nI p + 4) sL = true := lp_b hp hL 4 (by omega)
  have b5 : am_inb (nI p + 5) sL = true := lp_b hp hL 5 (by omega)
  have b6 : am_inb (nI p + 6) sL = true := lp_b hp hL 6 (by omega)
  have p7 : nI p + 7 = nI (p + 7) := nI_plus p 7
  obtain ⟨r, μ1, μ2, e1, e2, g2⟩ := v_leads (sX (nI p + 1).toNatClampNeg) (sX (nI p + 2).toNatClampNeg) (sX (nI p + 3).toNatClampNeg) (sX (nI p + 4).toNatClampNeg) μ g
  obtain ⟨μ', h⟩ := hk μ2 g2
  refine ⟨μ', ?_⟩
  unfold fL_law_828
  try simp only [b1, b2, b3, b4, b5, b6, cond_true]
  rw [e1, Option.bind_some]
  dsimp only
  rw [e2, Option.bind_some]
  dsimp only
  rw [if_pos rfl]
  unfold fL_law_1725
  rw [p7]
  exact h
theorem s_reached {sL : Nat} {sX : Nat → Int32} {k18 : Int32 → am_Mu → Option (Int32 × am_Mu)} {p : Nat} {μ : am_Mu} (hp : p + 7 ≤ sL) (hL : sL ≤ 3584) (g : Inv μ) (hk : ∀ ν, Inv ν → ∃ μ', k18 (nI (p + 7)) ν = some (1, μ')) : ∃ μ', fL_law_881 sL sX k18 (nI p) μ = some (1, μ') := by
  have b1 : am_inb (nI p + 1) sL = true := lp_b hp hL 1 (by omega)
  have b2 : am_inb (nI p + 2) sL = true := lp_b hp hL 2 (by omega)
  have b3 : am_inb (nI p + 3) sL = true := lp_b hp hL 3 (by omega)
  have b4 : am_inb (nI p + 4) sL = true := lp_b hp hL 4 (by omega)
  have b5 : am_inb (nI p + 5) sL = true := lp_b hp hL 5 (by omega)
  have b6 : am_inb (nI p + 6) sL = true := lp_b hp hL 6 (by omega)
  have p7 : nI p + 7 = nI (p + 7) := nI_plus p 7
  obtain ⟨r, μ1, μ2, e1, e2, g2⟩ := v_reached (sX (nI p + 1).toNatClampNeg) (sX (nI p + 2).toNatClampNeg) (sX (nI p + 3).toNatClampNeg) μ g
  obtain ⟨μ', h⟩ := hk μ2 g2
  refine ⟨μ', ?_⟩
  unfold fL_law_881
  try simp only [b1, b2, b3, b4, b5, b6, cond_true]
  rw [e1, Option.bind_some]
  dsimp only
  rw [e2, Option.bind_some]
  dsimp only
  rw [if_pos rfl]
  unfold fL_law_1725
  rw [p7]
  exact h
theorem s_way {sL : Nat} {sX : Nat → Int32} {k18 : Int32 → am_Mu → Option (Int32 × am_Mu)} {p : Nat} {μ : am_Mu} (hp : p + 7 ≤ sL) (hL : sL ≤ 3584) (g : Inv μ) (hk : ∀ ν, Inv ν → ∃ μ', k18 (nI (p + 7)) ν = some (1, μ')) : ∃ μ', fL_law_924 sL sX k18 (nI p) μ = some (1, μ') := by
  have b1 : am_inb (nI p + 1) sL = true := lp_b hp hL 1 (by omega)
  have b2 : am_inb (nI p + 2) sL = true := lp_b hp hL 2 (by omega)
  have b3 : am_inb (nI p + 3) sL = true := lp_b hp hL 3 (by omega)
  have b4 : am_inb (nI p + 4) sL = true := lp_b hp hL 4 (by omega)
  have b5 : am_inb (nI p + 5) sL = true := lp_b hp hL 5 (by omega)
  have b6 : am_inb (nI p + 6) sL = true := lp_b hp hL 6 (by omega)
  have p7 : nI p + 7 = nI (p + 7) := nI_plus p 7
  obtain ⟨r, μ1, μ2, e1, e2, g2⟩ := v_way (sX (nI p + 1).toNatClampNeg) (sX (nI p + 2).toNatClampNeg) (sX (nI p + 3).toNatClampNeg) (sX (nI p + 4).toNatClampNeg) μ g
  obtain ⟨μ', h⟩ := hk μ2 g2
  refine ⟨μ', ?_⟩
  unfold fL_law_924
  try simp only [b1, b2, b3, b4, b5, b6, cond_true]
  rw [e1, Option.bind_some]
  dsimp only
  rw [e2, Option.bind_some]
  dsimp only
  rw [if_pos rfl]
  unfold fL_law_1725
  rw [p7]
  exact h
theorem s_mend {sL : Nat} {sX : Nat → Int32} {k18 : Int32 → am_Mu → Option (Int32 × am_Mu)} {p : Nat} {μ : am_Mu} (hp : p + 7 ≤ sL) (hL : sL ≤ 3584) (g : Inv μ) (hk : ∀ ν, Inv ν → ∃ μ', k18 (nI (p + 7)) ν = some (1, μ')) : ∃ μ', fL_law_977 sL sX k18 (nI p) μ = some (1, μ') := by
  have b1 : am_inb (nI p + 1) sL = true := lp_b hp hL 1 (by omega)
  have b2 : am_inb (nI p + 2) sL = true := lp_b hp hL 2 (by omega)
  have b3 : am_inb (nI p + 3) sL = true := lp_b hp hL 3 (by omega)
  have b4 : am_inb (nI p + 4) sL = true := lp_b hp hL 4 (by omega)
  have b5 : am_inb (nI p + 5) sL = true := lp_b hp hL 5 (by omega)
  have b6 : am_inb (nI p + 6) sL = true := lp_b hp hL 6 (by omega)
  have p7 : nI p + 7 = nI (p + 7) := nI_plus p 7
  obtain ⟨r, μ1, μ2, e1, e2, g2⟩ := v_mend (sX (nI p + 1).toNatClampNeg) (sX (nI p + 2).toNatClampNeg) (sX (nI p + 3).toNatClampNeg) μ g
  obtain ⟨μ', h⟩ := hk μ2 g2
  refine ⟨μ', ?_⟩
  unfold fL_law_977
  try simp only [b1, b2, b3, b4, b5, b6, cond_true]
  rw [e1, Option.bind_some]
  dsimp only
  rw [e2, Option.bind_some]
  dsimp only
  rw [if_pos rfl]
  unfold fL_law_1725
  rw [p7]
  exact h
theorem s_kitchen {sL : Nat} {sX : Nat → Int32} {k18 : Int32 → am_Mu → Option (Int32 × am_Mu)} {p : Nat} {μ : am_Mu} (hp : p + 7 ≤ sL) (hL : sL ≤ 3584) (g : Inv μ) (hk : ∀ ν, Inv ν → ∃ μ', k18 (nI (p + 7)) ν = some (1, μ')) : ∃ μ', fL_law_1020 sL sX k18 (nI p) μ = some (1, μ') := by
  have b1 : am_inb (nI p + 1) sL = true := lp_b hp hL 1 (by omega)
  have b2 : am_inb (nI p + 2) sL = true := lp_b hp hL 2 (by omega)
  have b3 : am_inb (nI p + 3) sL = true := lp_b hp hL 3 (by omega)
  have b4 : am_inb (nI p + 4) sL = true := lp_b hp hL 4 (by omega)
  have b5 : am_inb (nI p + 5) sL = true := lp_b hp hL 5 (by omega)
  have b6 : am_inb (nI p + 6) sL = true := lp_b hp hL 6 (by omega)
  have p7 : nI p + 7 = nI (p + 7) := nI_plus p 7
  obtain ⟨r, μ1, μ2, e1, e2, g2⟩ := v_kitchen (sX (nI p + 1).toNatClampNeg) (sX (nI p + 2).toNatClampNeg) (sX (nI p + 3).toNatClampNeg) (sX (nI p + 4).toNatClampNeg) μ g
  obtain ⟨μ', h⟩ := hk μ2 g2
  refine ⟨μ', ?_⟩
  unfold fL_law_1020
  try simp only [b1, b2, b3, b4, b5, b6, cond_true]
  rw [e1, Option.bind_some]
  dsimp only
  rw [e2, Option.bind_some]
  dsimp only
  rw [if_pos rfl]
  unfold fL_law_1725
  rw [p7]
  exact h
theorem s_oversee {sL : Nat} {sX : Nat → Int32} {k18 : Int32 → am_Mu → Option (Int32 × am_Mu)} {p : Nat} {μ : am_Mu} (hp : p + 7 ≤ sL) (hL : sL ≤ 3584) (g : Inv μ) (hk : ∀ ν, Inv ν → ∃ μ', k18 (nI (p + 7)) ν = some (1, μ')) : ∃ μ', fL_law_1073 sL sX k18 (nI p) μ = some (1, μ') := by
  have b1 : am_inb (nI p + 1) sL = true := lp_b hp hL 1 (by omega)
  have b2 : am_inb (nI p + 2) sL = true := lp_b hp hL 2 (by omega)
  have b3 : am_inb (nI p + 3) sL = true := lp_b hp hL 3 (by omega)
  have b4 : am_inb (nI p + 4) sL = true := lp_b hp hL 4 (by omega)
  have b5 : am_inb (nI p + 5) sL = true := lp_b hp hL 5 (by omega)
  have b6 : am_inb (nI p + 6) sL = true := lp_b hp hL 6 (by omega)
  have p7 : nI p + 7 = nI (p + 7) := nI_plus p 7
  obtain ⟨r, μ1, μ2, e1, e2, g2⟩ := v_oversee (sX (nI p + 1).toNatClampNeg) (sX (nI p + 2).toNatClampNeg) μ g
  obtain ⟨μ', h⟩ := hk μ2 g2
  refine ⟨μ', ?_⟩
  unfold fL_law_1073
  try simp only [b1, b2, b3, b4, b5, b6, cond_true]
  rw [e1, Option.bind_some]
  dsimp only
  rw [e2, Option.bind_some]
  dsimp only
  rw [if_pos rfl]
  unfold fL_law_1725
  rw [p7]
  exact h
theorem s_trust {sL : Nat} {sX : Nat → Int32} {k18 : Int32 → am_Mu → Option (Int32 × am_Mu)} {p : Nat} {μ : am_Mu} (hp : p + 7 ≤ sL) (hL : sL ≤ 3584) (g : Inv μ) (hk : ∀ ν, Inv ν → ∃ μ', k18 (nI (p + 7)) ν = some (1, μ')) : ∃ μ', fL_law_1106 sL sX k18 (nI p) μ = some (1, μ') := by
  have b1 : am_inb (nI p + 1) sL = true := lp_b hp hL 1 (by omega)
  have b2 : am_inb (nI p + 2) sL = true := lp_b hp hL 2 (by omega)
  have b3 : am_inb (nI p + 3) sL = true := lp_b hp hL 3 (by omega)
  have b4 : am_inb (nI p + 4) sL = true := lp_b hp hL 4 (by omega)
  have b5 : am_inb (nI p + 5) sL = true := lp_b hp hL 5 (by omega)
  have b6 : am_inb (nI p + 6) sL = true := lp_b hp hL 6 (by omega)
  have p7 : nI p + 7 = nI (p + 7) := nI_plus p 7
  by_cases hz : sX (nI p + 3).toNatClampNeg = 0
  · obtain ⟨r, μ1, μ2, e1, e2, g2⟩ := v_trust (sX (nI p + 1).toNatClampNeg) (sX (nI p + 2).toNatClampNeg) 0 (Or.inl rfl) μ g
    obtain ⟨μ', h⟩ := hk μ2 g2
    refine ⟨μ', ?_⟩
    unfold fL_law_1106
    simp only [b1, b2, b3, b4, b5, b6, cond_true]
    rw [if_pos hz]
    unfold fL_law_1130
    try simp only [b1, b2, b3, b4, b5, b6, cond_true]
    rw [e1, Option.bind_some]
    dsimp only
    rw [if_pos hz]
    unfold fL_law_1157
    try simp only [b1, b2, b3, b4, b5, b6, cond_true]
    rw [e2, Option.bind_some]
    dsimp only
    rw [if_pos rfl]
    unfold fL_law_1725
    rw [p7]
    exact h
  · obtain ⟨r, μ1, μ2, e1, e2, g2⟩ := v_trust (sX (nI p + 1).toNatClampNeg) (sX (nI p + 2).toNatClampNeg) 1 (Or.inr rfl) μ g
    obtain ⟨μ', h⟩ := hk μ2 g2
    refine ⟨μ', ?_⟩
    unfold fL_law_1106
    simp only [b1, b2, b3, b4, b5, b6, cond_true]
    rw [if_neg hz]
    unfold fL_law_1130
    try simp only [b1, b2, b3, b4, b5, b6, cond_true]
    rw [e1, Option.bind_some]
    dsimp only
    rw [if_neg hz]
    unfold fL_law_1157
    try simp only [b1, b2, b3, b4, b5, b6, cond_true]
    rw [e2, Option.bind_some]
    dsimp only
    rw [if_pos rfl]
    unfold fL_law_1725
    rw [p7]
    exact h
theorem s_lot {sL : Nat} {sX : Nat → Int32} {k18 : Int32 → am_Mu → Option (Int32 × am_Mu)} {p : Nat} {μ : am_Mu} (hp : p + 7 ≤ sL) (hL : sL ≤ 3584) (g : Inv μ) (hk : ∀ ν, Inv ν → ∃ μ', k18 (nI (p + 7)) ν = some (1, μ')) : ∃ μ', fL_law_1165 sL sX k18 (nI p) μ = some (1, μ') := by
  have b1 : am_inb (nI p + 1) sL = true := lp_b hp hL 1 (by omega)
  have b2 : am_inb (nI p + 2) sL = true := lp_b hp hL 2 (by omega)
  have b3 : am_inb (nI p + 3) sL = true := lp_b hp hL 3 (by omega)
  have b4 : am_inb (nI p + 4) sL = true := lp_b hp hL 4 (by omega)
  have b5 : am_inb (nI p + 5) sL = true := lp_b hp hL 5 (by omega)
  have b6 : am_inb (nI p + 6) sL = true := lp_b hp hL 6 (by omega)
  have p7 : nI p + 7 = nI (p + 7) := nI_plus p 7
  obtain ⟨r, μ1, μ2, e1, e2, g2⟩ := v_lot (sX (nI p + 1).toNatClampNeg) (sX (nI p + 2).toNatClampNeg) μ g
  obtain ⟨μ', h⟩ := hk μ2 g2
  refine ⟨μ', ?_⟩
  unfold fL_law_1165
  try simp only [b1, b2, b3, b4, b5, b6, cond_true]
  rw [e1, Option.bind_some]
  dsimp only
  rw [e2, Option.bind_some]
  dsimp only
  rw [if_pos rfl]
  unfold fL_law_1725
  rw [p7]
  exact h
theorem s_pass {sL : Nat} {sX : Nat → Int32} {k18 : Int32 → am_Mu → Option (Int32 × am_Mu)} {p : Nat} {μ : am_Mu} (hp : p + 7 ≤ sL) (hL : sL ≤ 3584) (g : Inv μ) (hk : ∀ ν, Inv ν → ∃ μ', k18 (nI (p + 7)) ν = some (1, μ')) : ∃ μ', fL_law_1198 sL sX k18 (nI p) μ = some (1, μ') := by
  have b1 : am_inb (nI p + 1) sL = true := lp_b hp hL 1 (by omega)
  have b2 : am_inb (nI p + 2) sL = true := lp_b hp hL 2 (by omega)
  have b3 : am_inb (nI p + 3) sL = true := lp_b hp hL 3 (by omega)
  have b4 : am_inb (nI p + 4) sL = true := lp_b hp hL 4 (by omega)
  have b5 : am_inb (nI p + 5) sL = true := lp_b hp hL 5 (by omega)
  have b6 : am_inb (nI p + 6) sL = true := lp_b hp hL 6 (by omega)
  have p7 : nI p + 7 = nI (p + 7) := nI_plus p 7
  by_cases hz : sX (nI p + 5).toNatClampNeg = 0
  · obtain ⟨r, μ1, μ2, e1, e2, g2⟩ := v_pass (sX (nI p + 1).toNatClampNeg) (sX (nI p + 2).toNatClampNeg) (sX (nI p + 3).toNatClampNeg) (sX (nI p + 4).toNatClampNeg) 0 (Or.inl rfl) μ g
    obtain ⟨μ', h⟩ := hk μ2 g2
    refine ⟨μ', ?_⟩
    unfold fL_law_1198
    simp only [b1, b2, b3, b4, b5, b6, cond_true]
    rw [if_pos hz]
    unfold fL_law_1232
    try simp only [b1, b2, b3, b4, b5, b6, cond_true]
    rw [e1, Option.bind_some]
    dsimp only
    rw [if_pos hz]
    unfold fL_law_1269
    try simp only [b1, b2, b3, b4, b5, b6, cond_true]
    rw [e2, Option.bind_some]
    dsimp only
    rw [if_pos rfl]
    unfold fL_law_1725
    rw [p7]
    exact h
  · obtain ⟨r, μ1, μ2, e1, e2, g2⟩ := v_pass (sX (nI p + 1).toNatClampNeg) (sX (nI p + 2).toNatClampNeg) (sX (nI p + 3).toNatClampNeg) (sX (nI p + 4).toNatClampNeg) 1 (Or.inr rfl) μ g
    obtain ⟨μ', h⟩ := hk μ2 g2
    refine ⟨μ', ?_⟩
    unfold fL_law_1198
    simp only [b1, b2, b3, b4, b5, b6, cond_true]
    rw [if_neg hz]
    unfold fL_law_1232
    try simp only [b1, b2, b3, b4, b5, b6, cond_true]
    rw [e1, Option.bind_some]
    dsimp only
    rw [if_neg hz]
    unfold fL_law_1269
    try simp only [b1, b2, b3, b4, b5, b6, cond_true]
    rw [e2, Option.bind_some]
    dsimp only
    rw [if_pos rfl]
    unfold fL_law_1725
    rw [p7]
    exact h
theorem s_units {sL : Nat} {sX : Nat → Int32} {k18 : Int32 → am_Mu → Option (Int32 × am_Mu)} {p : Nat} {μ : am_Mu} (hp : p + 7 ≤ sL) (hL : sL ≤ 3584) (g : Inv μ) (hk : ∀ ν, Inv ν → ∃ μ', k18 (nI (p + 7)) ν = some (1, μ')) : ∃ μ', fL_law_1277 sL sX k18 (nI p) μ = some (1, μ') := by
  have b1 : am_inb (nI p + 1) sL = true := lp_b hp hL 1 (by omega)
  have b2 : am_inb (nI p + 2) sL = true := lp_b hp hL 2 (by omega)
  have b3 : am_inb (nI p + 3) sL = true := lp_b hp hL 3 (by omega)
  have b4 : am_inb (nI p + 4) sL = true := lp_b hp hL 4 (by omega)
  have b5 : am_inb (nI p + 5) sL = true := lp_b hp hL 5 (by omega)
  have b6 : am_inb (nI p + 6) sL = true := lp_b hp hL 6 (by omega)
  have p7 : nI p + 7 = nI (p + 7) := nI_plus p 7
  obtain ⟨r, μ1, μ2, e1, e2, g2⟩ := v_units (sX (nI p + 1).toNatClampNeg) (sX (nI p + 2).toNatClampNeg) μ g
  obtain ⟨μ', h⟩ := hk μ2 g2
  refine ⟨μ', ?_⟩
  unfold fL_law_1277
  try simp only [b1, b2, b3, b4, b5, b6, cond_true]
  rw [e1, Option.bind_some]
  dsimp only
  rw [e2, Option.bind_some]
  dsimp only
  rw [if_pos rfl]
  unfold fL_law_1725
  rw [p7]
  exact h
theorem s_good {sL : Nat} {sX : Nat → Int32} {k18 : Int32 → am_Mu → Option (Int32 × am_Mu)} {p : Nat} {μ : am_Mu} (hp : p + 7 ≤ sL) (hL : sL ≤ 3584) (g : Inv μ) (hk : ∀ ν, Inv ν → ∃ μ', k18 (nI (p + 7)) ν = some (1, μ')) : ∃ μ', fL_law_1310 sL sX k18 (nI p) μ = some (1, μ') := by
  have b1 : am_inb (nI p + 1) sL = true := lp_b hp hL 1 (by omega)
  have b2 : am_inb (nI p + 2) sL = true := lp_b hp hL 2 (by omega)
  have b3 : am_inb (nI p + 3) sL = true := lp_b hp hL 3 (by omega)
  have b4 : am_inb (nI p + 4) sL = true := lp_b hp hL 4 (by omega)
  have b5 : am_inb (nI p + 5) sL = true := lp_b hp hL 5 (by omega)
  have b6 : am_inb (nI p + 6) sL = true := lp_b hp hL 6 (by omega)
  have p7 : nI p + 7 = nI (p + 7) := nI_plus p 7
  obtain ⟨r, μ1, μ2, e1, e2, g2⟩ := v_good (sX (nI p + 1).toNatClampNeg) (sX (nI p + 2).toNatClampNeg) (sX (nI p + 3).toNatClampNeg) (sX (nI p + 4).toNatClampNeg) μ g
  obtain ⟨μ', h⟩ := hk μ2 g2
  refine ⟨μ', ?_⟩
  unfold fL_law_1310
  try simp only [b1, b2, b3, b4, b5, b6, cond_true]
  rw [e1, Option.bind_some]
  dsimp only
  rw [e2, Option.bind_some]
  dsimp only
  rw [if_pos rfl]
  unfold fL_law_1725
  rw [p7]
  exact h
theorem s_recall {sL : Nat} {sX : Nat → Int32} {k18 : Int32 → am_Mu → Option (Int32 × am_Mu)} {p : Nat} {μ : am_Mu} (hp : p + 7 ≤ sL) (hL : sL ≤ 3584) (g : Inv μ) (hk : ∀ ν, Inv ν → ∃ μ', k18 (nI (p + 7)) ν = some (1, μ')) : ∃ μ', fL_law_1363 sL sX k18 (nI p) μ = some (1, μ') := by
  have b1 : am_inb (nI p + 1) sL = true := lp_b hp hL 1 (by omega)
  have b2 : am_inb (nI p + 2) sL = true := lp_b hp hL 2 (by omega)
  have b3 : am_inb (nI p + 3) sL = true := lp_b hp hL 3 (by omega)
  have b4 : am_inb (nI p + 4) sL = true := lp_b hp hL 4 (by omega)
  have b5 : am_inb (nI p + 5) sL = true := lp_b hp hL 5 (by omega)
  have b6 : am_inb (nI p + 6) sL = true := lp_b hp hL 6 (by omega)
  have p7 : nI p + 7 = nI (p + 7) := nI_plus p 7
  obtain ⟨r, μ1, μ2, e1, e2, g2⟩ := v_recall (sX (nI p + 1).toNatClampNeg) μ g
  obtain ⟨μ', h⟩ := hk μ2 g2
  refine ⟨μ', ?_⟩
  unfold fL_law_1363
  try simp only [b1, b2, b3, b4, b5, b6, cond_true]
  rw [e1, Option.bind_some]
  dsimp only
  rw [e2, Option.bind_some]
  dsimp only
  rw [if_pos rfl]
  unfold fL_law_1725
  rw [p7]
  exact h
theorem s_visitor {sL : Nat} {sX : Nat → Int32} {k18 : Int32 → am_Mu → Option (Int32 × am_Mu)} {p : Nat} {μ : am_Mu} (hp : p + 7 ≤ sL) (hL : sL ≤ 3584) (g : Inv μ) (hk : ∀ ν, Inv ν → ∃ μ', k18 (nI (p + 7)) ν = some (1, μ')) : ∃ μ', fL_law_1386 sL sX k18 (nI p) μ = some (1, μ') := by
  have b1 : am_inb (nI p + 1) sL = true := lp_b hp hL 1 (by omega)
  have b2 : am_inb (nI p + 2) sL = true := lp_b hp hL 2 (by omega)
  have b3 : am_inb (nI p + 3) sL = true := lp_b hp hL 3 (by omega)
  have b4 : am_inb (nI p + 4) sL = true := lp_b hp hL 4 (by omega)
  have b5 : am_inb (nI p + 5) sL = true := lp_b hp hL 5 (by omega)
  have b6 : am_inb (nI p + 6) sL = true := lp_b hp hL 6 (by omega)
  have p7 : nI p + 7 = nI (p + 7) := nI_plus p 7
  obtain ⟨r, μ1, μ2, e1, e2, g2⟩ := v_visitor (sX (nI p + 1).toNatClampNeg) (sX (nI p + 2).toNatClampNeg) μ g
  obtain ⟨μ', h⟩ := hk μ2 g2
  refine ⟨μ', ?_⟩
  unfold fL_law_1386
  try simp only [b1, b2, b3, b4, b5, b6, cond_true]
  rw [e1, Option.bind_some]
  dsimp only
  rw [e2, Option.bind_some]
  dsimp only
  rw [if_pos rfl]
  unfold fL_law_1725
  rw [p7]
  exact h
theorem s_seed {sL : Nat} {sX : Nat → Int32} {k18 : Int32 → am_Mu → Option (Int32 × am_Mu)} {p : Nat} {μ : am_Mu} (hp : p + 7 ≤ sL) (hL : sL ≤ 3584) (g : Inv μ) (hk : ∀ ν, Inv ν → ∃ μ', k18 (nI (p + 7)) ν = some (1, μ')) : ∃ μ', fL_law_1419 sL sX k18 (nI p) μ = some (1, μ') := by
  have b1 : am_inb (nI p + 1) sL = true := lp_b hp hL 1 (by omega)
  have b2 : am_inb (nI p + 2) sL = true := lp_b hp hL 2 (by omega)
  have b3 : am_inb (nI p + 3) sL = true := lp_b hp hL 3 (by omega)
  have b4 : am_inb (nI p + 4) sL = true := lp_b hp hL 4 (by omega)
  have b5 : am_inb (nI p + 5) sL = true := lp_b hp hL 5 (by omega)
  have b6 : am_inb (nI p + 6) sL = true := lp_b hp hL 6 (by omega)
  have p7 : nI p + 7 = nI (p + 7) := nI_plus p 7
  obtain ⟨r, μ1, μ2, e1, e2, g2⟩ := v_seed (sX (nI p + 1).toNatClampNeg) (sX (nI p + 2).toNatClampNeg) μ g
  obtain ⟨μ', h⟩ := hk μ2 g2
  refine ⟨μ', ?_⟩
  unfold fL_law_1419
  try simp only [b1, b2, b3, b4, b5, b6, cond_true]
  rw [e1, Option.bind_some]
  dsimp only
  rw [e2, Option.bind_some]
  dsimp only
  rw [if_pos rfl]
  unfold fL_law_1725
  rw [p7]
  exact h
theorem s_draw {sL : Nat} {sX : Nat → Int32} {k18 : Int32 → am_Mu → Option (Int32 × am_Mu)} {p : Nat} {μ : am_Mu} (hp : p + 7 ≤ sL) (hL : sL ≤ 3584) (g : Inv μ) (hk : ∀ ν, Inv ν → ∃ μ', k18 (nI (p + 7)) ν = some (1, μ')) : ∃ μ', fL_law_1452 sL sX k18 (nI p) μ = some (1, μ') := by
  have b1 : am_inb (nI p + 1) sL = true := lp_b hp hL 1 (by omega)
  have b2 : am_inb (nI p + 2) sL = true := lp_b hp hL 2 (by omega)
  have b3 : am_inb (nI p + 3) sL = true := lp_b hp hL 3 (by omega)
  have b4 : am_inb (nI p + 4) sL = true := lp_b hp hL 4 (by omega)
  have b5 : am_inb (nI p + 5) sL = true := lp_b hp hL 5 (by omega)
  have b6 : am_inb (nI p + 6) sL = true := lp_b hp hL 6 (by omega)
  have p7 : nI p + 7 = nI (p + 7) := nI_plus p 7
  obtain ⟨r, μ1, μ2, e1, e2, g2⟩ := v_draw  μ g
  obtain ⟨μ', h⟩ := hk μ2 g2
  refine ⟨μ', ?_⟩
  unfold fL_law_1452
  try simp only [b1, b2, b3, b4, b5, b6, cond_true]
  rw [e1, Option.bind_some]
  dsimp only
  rw [e2, Option.bind_some]
  dsimp only
  rw [if_pos rfl]
  unfold fL_law_1725
  rw [p7]
  exact h
theorem s_row {sL : Nat} {sX : Nat → Int32} {k18 : Int32 → am_Mu → Option (Int32 × am_Mu)} {p : Nat} {μ : am_Mu} (hp : p + 7 ≤ sL) (hL : sL ≤ 3584) (g : Inv μ) (hk : ∀ ν, Inv ν → ∃ μ', k18 (nI (p + 7)) ν = some (1, μ')) : ∃ μ', fL_law_1465 sL sX k18 (nI p) μ = some (1, μ') := by
  have b1 : am_inb (nI p + 1) sL = true := lp_b hp hL 1 (by omega)
  have b2 : am_inb (nI p + 2) sL = true := lp_b hp hL 2 (by omega)
  have b3 : am_inb (nI p + 3) sL = true := lp_b hp hL 3 (by omega)
  have b4 : am_inb (nI p + 4) sL = true := lp_b hp hL 4 (by omega)
  have b5 : am_inb (nI p + 5) sL = true := lp_b hp hL 5 (by omega)
  have b6 : am_inb (nI p + 6) sL = true := lp_b hp hL 6 (by omega)
  have p7 : nI p + 7 = nI (p + 7) := nI_plus p 7
  obtain ⟨r, μ1, μ2, e1, e2, g2⟩ := v_row  μ g
  obtain ⟨μ', h⟩ := hk μ2 g2
  refine ⟨μ', ?_⟩
  unfold fL_law_1465
  try simp only [b1, b2, b3, b4, b5, b6, cond_true]
  rw [e1, Option.bind_some]
  dsimp only
  rw [e2, Option.bind_some]
  dsimp only
  rw [if_pos rfl]
  unfold fL_law_1725
  rw [p7]
  exact h
theorem s_visit {sL : Nat} {sX : Nat → Int32} {k18 : Int32 → am_Mu → Option (Int32 × am_Mu)} {p : Nat} {μ : am_Mu} (hp : p + 7 ≤ sL) (hL : sL ≤ 3584) (g : Inv μ) (hk : ∀ ν, Inv ν → ∃ μ', k18 (nI (p + 7)) ν = some (1, μ')) : ∃ μ', fL_law_1478 sL sX k18 (nI p) μ = some (1, μ') := by
  have b1 : am_inb (nI p + 1) sL = true := lp_b hp hL 1 (by omega)
  have b2 : am_inb (nI p + 2) sL = true := lp_b hp hL 2 (by omega)
  have b3 : am_inb (nI p + 3) sL = true := lp_b hp hL 3 (by omega)
  have b4 : am_inb (nI p + 4) sL = true := lp_b hp hL 4 (by omega)
  have b5 : am_inb (nI p + 5) sL = true := lp_b hp hL 5 (by omega)
  have b6 : am_inb (nI p + 6) sL = true := lp_b hp hL 6 (by omega)
  have p7 : nI p + 7 = nI (p + 7) := nI_plus p 7
  obtain ⟨r, μ1, μ2, e1, e2, g2⟩ := v_visit (sX (nI p + 1).toNatClampNeg) (sX (nI p + 2).toNatClampNeg) μ g
  obtain ⟨μ', h⟩ := hk μ2 g2
  refine ⟨μ', ?_⟩
  unfold fL_law_1478
  try simp only [b1, b2, b3, b4, b5, b6, cond_true]
  rw [e1, Option.bind_some]
  dsimp only
  rw [e2, Option.bind_some]
  dsimp only
  rw [if_pos rfl]
  unfold fL_law_1725
  rw [p7]
  exact h
theorem s_tour {sL : Nat} {sX : Nat → Int32} {k18 : Int32 → am_Mu → Option (Int32 × am_Mu)} {p : Nat} {μ : am_Mu} (hp : p + 7 ≤ sL) (hL : sL ≤ 3584) (g : Inv μ) (hk : ∀ ν, Inv ν → ∃ μ', k18 (nI (p + 7)) ν = some (1, μ')) : ∃ μ', fL_law_1511 sL sX k18 (nI p) μ = some (1, μ') := by
  have b1 : am_inb (nI p + 1) sL = true := lp_b hp hL 1 (by omega)
  have b2 : am_inb (nI p + 2) sL = true := lp_b hp hL 2 (by omega)
  have b3 : am_inb (nI p + 3) sL = true := lp_b hp hL 3 (by omega)
  have b4 : am_inb (nI p + 4) sL = true := lp_b hp hL 4 (by omega)
  have b5 : am_inb (nI p + 5) sL = true := lp_b hp hL 5 (by omega)
  have b6 : am_inb (nI p + 6) sL = true := lp_b hp hL 6 (by omega)
  have p7 : nI p + 7 = nI (p + 7) := nI_plus p 7
  obtain ⟨r, μ1, μ2, e1, e2, g2⟩ := v_tour (sX (nI p + 1).toNatClampNeg) μ g
  obtain ⟨μ', h⟩ := hk μ2 g2
  refine ⟨μ', ?_⟩
  unfold fL_law_1511
  try simp only [b1, b2, b3, b4, b5, b6, cond_true]
  rw [e1, Option.bind_some]
  dsimp only
  rw [e2, Option.bind_some]
  dsimp only
  rw [if_pos rfl]
  unfold fL_law_1725
  rw [p7]
  exact h
theorem s_stop {sL : Nat} {sX : Nat → Int32} {k18 : Int32 → am_Mu → Option (Int32 × am_Mu)} {p : Nat} {μ : am_Mu} (hp : p + 7 ≤ sL) (hL : sL ≤ 3584) (g : Inv μ) (hk : ∀ ν, Inv ν → ∃ μ', k18 (nI (p + 7)) ν = some (1, μ')) : ∃ μ', fL_law_1534 sL sX k18 (nI p) μ = some (1, μ') := by
  have b1 : am_inb (nI p + 1) sL = true := lp_b hp hL 1 (by omega)
  have b2 : am_inb (nI p + 2) sL = true := lp_b hp hL 2 (by omega)
  have b3 : am_inb (nI p + 3) sL = true := lp_b hp hL 3 (by omega)
  have b4 : am_inb (nI p + 4) sL = true := lp_b hp hL 4 (by omega)
  have b5 : am_inb (nI p + 5) sL = true := lp_b hp hL 5 (by omega)
  have b6 : am_inb (nI p + 6) sL = true := lp_b hp hL 6 (by omega)
  have p7 : nI p + 7 = nI (p + 7) := nI_plus p 7
  obtain ⟨r, μ1, μ2, e1, e2, g2⟩ := v_stop (sX (nI p + 1).toNatClampNeg) (sX (nI p + 2).toNatClampNeg) μ g
  obtain ⟨μ', h⟩ := hk μ2 g2
  refine ⟨μ', ?_⟩
  unfold fL_law_1534
  try simp only [b1, b2, b3, b4, b5, b6, cond_true]
  rw [e1, Option.bind_some]
  dsimp only
  rw [e2, Option.bind_some]
  dsimp only
  rw [if_pos rfl]
  unfold fL_law_1725
  rw [p7]
  exact h
theorem s_word {sL : Nat} {sX : Nat → Int32} {k18 : Int32 → am_Mu → Option (Int32 × am_Mu)} {p : Nat} {μ : am_Mu} (hp : p + 7 ≤ sL) (hL : sL ≤ 3584) (g : Inv μ) (hk : ∀ ν, Inv ν → ∃ μ', k18 (nI (p + 7)) ν = some (1, μ')) : ∃ μ', fL_law_1567 sL sX k18 (nI p) μ = some (1, μ') := by
  have b1 : am_inb (nI p + 1) sL = true := lp_b hp hL 1 (by omega)
  have b2 : am_inb (nI p + 2) sL = true := lp_b hp hL 2 (by omega)
  have b3 : am_inb (nI p + 3) sL = true := lp_b hp hL 3 (by omega)
  have b4 : am_inb (nI p + 4) sL = true := lp_b hp hL 4 (by omega)
  have b5 : am_inb (nI p + 5) sL = true := lp_b hp hL 5 (by omega)
  have b6 : am_inb (nI p + 6) sL = true := lp_b hp hL 6 (by omega)
  have p7 : nI p + 7 = nI (p + 7) := nI_plus p 7
  by_cases hz : sX (nI p + 4).toNatClampNeg = 0
  · obtain ⟨r, μ1, μ2, e1, e2, g2⟩ := v_word (sX (nI p + 1).toNatClampNeg) (sX (nI p + 2).toNatClampNeg) (sX (nI p + 3).toNatClampNeg) 0 μ g
    obtain ⟨μ', h⟩ := hk μ2 g2
    refine ⟨μ', ?_⟩
    unfold fL_law_1567
    simp only [b1, b2, b3, b4, b5, b6, cond_true]
    rw [if_pos hz]
    unfold fL_law_1596
    try simp only [b1, b2, b3, b4, b5, b6, cond_true]
    rw [e1, Option.bind_some]
    dsimp only
    rw [if_pos hz]
    unfold fL_law_1628
    try simp only [b1, b2, b3, b4, b5, b6, cond_true]
    rw [e2, Option.bind_some]
    dsimp only
    rw [if_pos rfl]
    unfold fL_law_1725
    rw [p7]
    exact h
  · obtain ⟨r, μ1, μ2, e1, e2, g2⟩ := v_word (sX (nI p + 1).toNatClampNeg) (sX (nI p + 2).toNatClampNeg) (sX (nI p + 3).toNatClampNeg) 1 μ g
    obtain ⟨μ', h⟩ := hk μ2 g2
    refine ⟨μ', ?_⟩
    unfold fL_law_1567
    simp only [b1, b2, b3, b4, b5, b6, cond_true]
    rw [if_neg hz]
    unfold fL_law_1596
    try simp only [b1, b2, b3, b4, b5, b6, cond_true]
    rw [e1, Option.bind_some]
    dsimp only
    rw [if_neg hz]
    unfold fL_law_1628
    try simp only [b1, b2, b3, b4, b5, b6, cond_true]
    rw [e2, Option.bind_some]
    dsimp only
    rw [if_pos rfl]
    unfold fL_law_1725
    rw [p7]
    exact h
theorem s_believed {sL : Nat} {sX : Nat → Int32} {k18 : Int32 → am_Mu → Option (Int32 × am_Mu)} {p : Nat} {μ : am_Mu} (hp : p + 7 ≤ sL) (hL : sL ≤ 3584) (g : Inv μ) (hk : ∀ ν, Inv ν → ∃ μ', k18 (nI (p + 7)) ν = some (1, μ')) : ∃ μ', fL_law_1636 sL sX k18 (nI p) μ = some (1, μ') := by
  have b1 : am_inb (nI p + 1) sL = true := lp_b hp hL 1 (by omega)
  have b2 : am_inb (nI p + 2) sL = true := lp_b hp hL 2 (by omega)
  have b3 : am_inb (nI p + 3) sL = true := lp_b hp hL 3 (by omega)
  have b4 : am_inb (nI p + 4) sL = true := lp_b hp hL 4 (by omega)
  have b5 : am_inb (nI p + 5) sL = true := lp_b hp hL 5 (by omega)
  have b6 : am_inb (nI p + 6) sL = true := lp_b hp hL 6 (by omega)
  have p7 : nI p + 7 = nI (p + 7) := nI_plus p 7
  obtain ⟨r, μ1, μ2, e1, e2, g2⟩ := v_believed (sX (nI p + 1).toNatClampNeg) (sX (nI p + 2).toNatClampNeg) μ g
  obtain ⟨μ', h⟩ := hk μ2 g2
  refine ⟨μ', ?_⟩
  unfold fL_law_1636
  try simp only [b1, b2, b3, b4, b5, b6, cond_true]
  rw [e1, Option.bind_some]
  dsimp only
  rw [e2, Option.bind_some]
  dsimp only
  rw [if_pos rfl]
  unfold fL_law_1725
  rw [p7]
  exact h
theorem s_look {sL : Nat} {sX : Nat → Int32} {k18 : Int32 → am_Mu → Option (Int32 × am_Mu)} {p : Nat} {μ : am_Mu} (hp : p + 7 ≤ sL) (hL : sL ≤ 3584) (g : Inv μ) (hk : ∀ ν, Inv ν → ∃ μ', k18 (nI (p + 7)) ν = some (1, μ')) : ∃ μ', fL_law_1669 sL sX k18 (nI p) μ = some (1, μ') := by
  have b1 : am_inb (nI p + 1) sL = true := lp_b hp hL 1 (by omega)
  have b2 : am_inb (nI p + 2) sL = true := lp_b hp hL 2 (by omega)
  have b3 : am_inb (nI p + 3) sL = true := lp_b hp hL 3 (by omega)
  have b4 : am_inb (nI p + 4) sL = true := lp_b hp hL 4 (by omega)
  have b5 : am_inb (nI p + 5) sL = true := lp_b hp hL 5 (by omega)
  have b6 : am_inb (nI p + 6) sL = true := lp_b hp hL 6 (by omega)
  have p7 : nI p + 7 = nI (p + 7) := nI_plus p 7
  obtain ⟨r, μ1, μ2, e1, e2, g2⟩ := v_look (sX (nI p + 1).toNatClampNeg) (sX (nI p + 2).toNatClampNeg) μ g
  obtain ⟨μ', h⟩ := hk μ2 g2
  refine ⟨μ', ?_⟩
  unfold fL_law_1669
  try simp only [b1, b2, b3, b4, b5, b6, cond_true]
  rw [e1, Option.bind_some]
  dsimp only
  rw [e2, Option.bind_some]
  dsimp only
  rw [if_pos rfl]
  unfold fL_law_1725
  rw [p7]
  exact h
theorem s_count {sL : Nat} {sX : Nat → Int32} {k18 : Int32 → am_Mu → Option (Int32 × am_Mu)} {p : Nat} {μ : am_Mu} (hp : p + 7 ≤ sL) (hL : sL ≤ 3584) (g : Inv μ) (hk : ∀ ν, Inv ν → ∃ μ', k18 (nI (p + 7)) ν = some (1, μ')) : ∃ μ', fL_law_1702 sL sX k18 (nI p) μ = some (1, μ') := by
  have b1 : am_inb (nI p + 1) sL = true := lp_b hp hL 1 (by omega)
  have b2 : am_inb (nI p + 2) sL = true := lp_b hp hL 2 (by omega)
  have b3 : am_inb (nI p + 3) sL = true := lp_b hp hL 3 (by omega)
  have b4 : am_inb (nI p + 4) sL = true := lp_b hp hL 4 (by omega)
  have b5 : am_inb (nI p + 5) sL = true := lp_b hp hL 5 (by omega)
  have b6 : am_inb (nI p + 6) sL = true := lp_b hp hL 6 (by omega)
  have p7 : nI p + 7 = nI (p + 7) := nI_plus p 7
  obtain ⟨r, μ1, μ2, e1, e2, g2⟩ := v_count (sX (nI p + 1).toNatClampNeg) μ g
  obtain ⟨μ', h⟩ := hk μ2 g2
  refine ⟨μ', ?_⟩
  unfold fL_law_1702
  try simp only [b1, b2, b3, b4, b5, b6, cond_true]
  rw [e1, Option.bind_some]
  dsimp only
  rw [e2, Option.bind_some]
  dsimp only
  rw [if_pos rfl]
  unfold fL_law_1725
  rw [p7]
  exact h
theorem lp_ite {c : Prop} [Decidable c] {a b : Option (Int32 × am_Mu)} (ha : ∃ μ', a = some (1, μ')) (hb : ∃ μ', b = some (1, μ')) : ∃ μ', (if c then a else b) = some (1, μ') := by
  split
  · exact ha
  · exact hb
theorem lp_end {sL p : Nat} (hL : sL ≤ 3584) (hp : p < 4096) : (Int32.ofNat sL) - 7 < nI p ↔ sL < p + 7 := by
  by_cases h : 7 ≤ sL
  · have e : (Int32.ofNat sL) - 7 = nI (sL - 7) := nI_sub (a := sL) (b := 7) h
    rw [e, nI_lt_iff (by omega) (by omega)]
    omega
  · have key : ∀ s : Fin 7, (Int32.ofNat s.val) - 7 < 0 := by decide
    have h1 : (Int32.ofNat sL) - 7 < 0 := key ⟨sL, by omega⟩
    have h2 : 0 ≤ nI p := nI_pos' (by omega)
    exact ⟨fun _ => by omega, fun _ => Int32.lt_of_lt_of_le h1 h2⟩
theorem lp_all {sL : Nat} {sX : Nat → Int32} (hL : sL ≤ 3584) : ∀ q n p μ, sL ≤ p + q → q < n → p < 4000 → Inv μ → ∃ μ', fL_law_18 sL sX n (nI p) μ = some (1, μ') := by
  intro q
  induction q with
  | zero =>
    intro n p μ hq hn hp g
    obtain ⟨n, rfl⟩ : ∃ k, n = k + 1 := ⟨n - 1, by omega⟩
    refine ⟨μ, ?_⟩
    rw [fL_law_18, if_pos ((lp_end hL (by omega)).mpr (by omega))]
  | succ q ih =>
    intro n p μ hq hn hp g
    obtain ⟨n, rfl⟩ : ∃ k, n = k + 1 := ⟨n - 1, by omega⟩
    by_cases he : sL < p + 7
    · refine ⟨μ, ?_⟩
      rw [fL_law_18, if_pos ((lp_end hL (by omega)).mpr he)]
    · have hp7 : p + 7 ≤ sL := by omega
      have hk : ∀ ν, Inv ν → ∃ μ', fL_law_18 sL sX n (nI (p + 7)) ν = some (1, μ') := fun ν gν => ih n (p + 7) ν (by omega) (by omega) (by omega) gν
      have last : ∃ μ', fL_law_1725 sL sX (fL_law_18 sL sX n) (nI p) μ = some (1, μ') := by
        unfold fL_law_1725
        rw [show nI p + 7 = nI (p + 7) from nI_plus p 7]
        exact hk μ g
      rw [fL_law_18, if_neg (by rw [lp_end hL (by omega)]; exact he), inb_n (by omega) (by omega), cond_true]
      exact (lp_ite (s_now hp7 hL g hk) (lp_ite (s_feast hp7 hL g hk) (lp_ite (s_isFeast hp7 hL g hk) (lp_ite (s_moon hp7 hL g hk) (lp_ite (s_feed hp7 hL g hk) (lp_ite (s_law hp7 hL g hk) (lp_ite (s_rules hp7 hL g hk) (lp_ite (s_thing hp7 hL g hk) (lp_ite (s_act hp7 hL g hk) (lp_ite (s_strike hp7 hL g hk) (lp_ite (s_mistake hp7 hL g hk) (lp_ite (s_mark hp7 hL g hk) (lp_ite (s_since hp7 hL g hk) (lp_ite (s_quarrel hp7 hL g hk) (lp_ite (s_leads hp7 hL g hk) (lp_ite (s_reached hp7 hL g hk) (lp_ite (s_way hp7 hL g hk) (lp_ite (s_mend hp7 hL g hk) (lp_ite (s_kitchen hp7 hL g hk) (lp_ite (s_oversee hp7 hL g hk) (lp_ite (s_trust hp7 hL g hk) (lp_ite (s_lot hp7 hL g hk) (lp_ite (s_pass hp7 hL g hk) (lp_ite (s_units hp7 hL g hk) (lp_ite (s_good hp7 hL g hk) (lp_ite (s_recall hp7 hL g hk) (lp_ite (s_visitor hp7 hL g hk) (lp_ite (s_seed hp7 hL g hk) (lp_ite (s_draw hp7 hL g hk) (lp_ite (s_row hp7 hL g hk) (lp_ite (s_visit hp7 hL g hk) (lp_ite (s_tour hp7 hL g hk) (lp_ite (s_stop hp7 hL g hk) (lp_ite (s_word hp7 hL g hk) (lp_ite (s_believed hp7 hL g hk) (lp_ite (s_look hp7 hL g hk) (lp_ite (s_count hp7 hL g hk) last)))))))))))))))))))))))))))))))))))))
