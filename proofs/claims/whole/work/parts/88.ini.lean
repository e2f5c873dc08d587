/-! E: the first memory keeps the invariant -/
def iniK (μ : am_Mu) : Bool := (List.range 8).all (fun j => decide (μ 77 j = 0) && decide (μ 78 j = 0) && decide (μ 79 j = 0) && decide (μ 80 j = 0) && decide (μ 152 j = 0) && decide (μ 153 j = 0) && decide (μ 154 j = 0) && decide (μ 155 j = 0))
set_option maxRecDepth 1000000 in
theorem iniK_ok : iniK am_m2 = true := by decide +kernel
theorem iniK_of {μ : am_Mu} (h : iniK μ = true) : ∀ j, j < 8 → μ 77 j = 0 ∧ μ 78 j = 0 ∧ μ 79 j = 0 ∧ μ 80 j = 0 ∧ μ 152 j = 0 ∧ μ 153 j = 0 ∧ μ 154 j = 0 ∧ μ 155 j = 0 := by
  intro j hj
  unfold iniK at h
  simp only [List.all_eq_true, List.mem_range, Bool.and_eq_true, decide_eq_true_eq] at h
  obtain ⟨⟨⟨⟨⟨⟨⟨a, b⟩, c⟩, d⟩, e⟩, f⟩, g⟩, i⟩ := h j hj
  exact ⟨a, b, c, d, e, f, g, i⟩
theorem inv_ini {μ : am_Mu} (h : am_Init μ) (hk : iniK μ = true) : Inv μ := by
  obtain ⟨h0, h1, h2, h3, h4, h5, h6, h7, h8, h9, h10, h11, h12, h13, h14, h15, h16, h17, h18, h19, h20, h21, h22, h23, h24, h25, h26, h27, h28, h29⟩ := h
  have z : (0 : Int32).toNatClampNeg = 0 := rfl
  have c0 : μ 0 11 = 0 := h0 11 (by omega)
  have c1 : μ 1 3 = 0 := h1 3 (by omega)
  have c5 : μ 5 2 = 0 := h2 2 (by omega)
  have d13 : μ 13 13 = 0 := h4 13 (by omega)
  have d14 : μ 13 14 = 0 := h4 14 (by omega)
  have d15 : μ 13 15 = 0 := h4 15 (by omega)
  have d16 : μ 13 16 = 0 := h4 16 (by omega)
  have c76 : μ 76 8 = 0 := h16 8 (by omega)
  have l13 : μ 84 13 = 0 := h17 13 (by omega)
  have l14 : μ 84 14 = 0 := h17 14 (by omega)
  have c97 : μ 97 4 = 0 := h18 4 (by omega)
  have v7 : μ 102 7 = 0 := by rw [h19 7 (by omega)]; rfl
  have v8 : μ 102 8 = 1 := by rw [h19 8 (by omega)]; rfl
  have v9 : μ 102 9 = 7 := by rw [h19 9 (by omega)]; rfl
  have m : ∀ j, j < 92 → ¬ j = 12 → ¬ j = 13 → μ 108 j = 0 := fun j hj a b => by rw [h20 j hj, if_neg a, if_neg b]
  have m12 : μ 108 12 = 1 := by rw [h20 12 (by omega)]; rfl
  have m13 : μ 108 13 = 7 := by rw [h20 13 (by omega)]; rfl
  refine ⟨?_, ?_, ?_, ?_, ?_, ?_, ?_, ?_, ?_, ?_, ?_⟩
  · unfold G0
    rw [c0, m 2 (by omega) (by omega) (by omega)]
    decide
  · unfold G1
    rw [c1, m 3 (by omega) (by omega) (by omega), z]
    exact ⟨by decide, by decide, rfl, fun j hj => absurd hj (Nat.not_lt_zero _)⟩
  · unfold G2
    rw [c5, m 1 (by omega) (by omega) (by omega), z]
    exact ⟨by decide, by decide, rfl, fun j hj => absurd hj (Nat.not_lt_zero _)⟩
  · intro l hl
    refine ⟨[], ?_, ?_, ?_⟩
    · refine ⟨?_, fun r hr => absurd hr (Nat.not_lt_zero _), fun j hj => absurd hj (Nat.not_lt_zero _), fun j hj => absurd hj (Nat.not_lt_zero _)⟩
      have key : LPl l = 28 ∨ LPl l = 40 ∨ LPl l = 34 ∨ LPl l = 46 := by
        have : l = 0 ∨ l = 1 ∨ l = 2 ∨ l = 3 := by omega
        rcases this with rfl | rfl | rfl | rfl <;> simp [LPl]
      rcases key with e | e | e | e
      · rw [e]; exact h6 5 (by omega)
      · rw [e]; exact h8 5 (by omega)
      · rw [e]; exact h7 5 (by omega)
      · rw [e]; exact h9 5 (by omega)
    · exact ⟨h29 l hl, fun r hr => absurd hr (Nat.not_lt_zero _), fun i hi => absurd hi (Nat.not_lt_zero _)⟩
    · exact ⟨fun r hr => absurd hr List.not_mem_nil, Nat.zero_le _, Nat.zero_le _, Nat.zero_le _⟩
  · unfold G4
    rw [d13, d14, d15, d16, m 4 (by omega) (by omega) (by omega), m 5 (by omega) (by omega) (by omega), m 6 (by omega) (by omega) (by omega), m 55 (by omega) (by omega) (by omega), z]
    exact ⟨⟨by decide, by decide, rfl, fun j hj => absurd hj (Nat.not_lt_zero _)⟩, ⟨by decide, by decide, rfl, fun j hj => absurd hj (Nat.not_lt_zero _)⟩, ⟨by decide, by decide, rfl, fun j hj => absurd hj (Nat.not_lt_zero _)⟩, by decide, rfl, fun j hj => absurd hj (Nat.not_lt_zero _), fun k l _ hl => absurd hl (Nat.not_lt_zero _)⟩
  · unfold G5
    rw [c76, m 7 (by omega) (by omega) (by omega)]
    refine ⟨by decide, by decide, rfl, ?_, ?_⟩
    · intro j hj
      obtain ⟨a, b, c, d, e, f, g, i⟩ := iniK_of hk j hj
      rw [a, b, c, d, e, f, g, i]
      decide
    · intro j hj
      rw [h21 j hj, h22 j hj]
      decide
  · unfold G6
    rw [l13, l14, m 8 (by omega) (by omega) (by omega), m 9 (by omega) (by omega) (by omega), z]
    exact ⟨⟨by decide, by decide, rfl, fun j hj => absurd hj (Nat.not_lt_zero _)⟩, ⟨by decide, by decide, rfl, fun j hj => absurd hj (Nat.not_lt_zero _)⟩, fun j hj => absurd hj (Nat.not_lt_zero _), fun j hj => absurd hj (Nat.not_lt_zero _), fun l _ hl k hk => h23 _ (by omega)⟩
  · unfold G7
    rw [c97, m 10 (by omega) (by omega) (by omega), z]
    exact ⟨by decide, by decide, rfl, fun j hj => absurd hj (Nat.not_lt_zero _)⟩
  · unfold G8
    rw [v7, v8, v9, m 11 (by omega) (by omega) (by omega), m12, m13, z]
    exact ⟨by decide, fun j hj => absurd hj (Nat.not_lt_zero _), fun i i' _ hl => absurd hl (Nat.not_lt_zero _), fun k hk => Or.inl ⟨h28 k hk, h27 k hk, fun j hj => absurd hj (Nat.not_lt_zero _)⟩⟩
  · intro c hc
    refine ⟨⟨0, by omega, h24 c hc, ?_⟩, ⟨0, by omega, h25 c hc, ?_⟩⟩
    · intro p hp
      rw [h26 _ (by omega), Nat.zero_div]
      decide
    · intro p hp
      rw [h26 _ (by omega), Nat.zero_div]
      decide
  · intro k _ hk8
    exact h28 k hk8
