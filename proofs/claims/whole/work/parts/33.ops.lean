abbrev X_now (a : Int32) (μ : am_Mu) : am_Mu := am_up μ 0 11 a
abbrev M_now (a : Int32) (μ : am_Mu) : am_Mu := am_up μ 108 2 a
abbrev X_tell (a b c : Int32) (μ : am_Mu) : am_Mu := am_up (am_up (am_up (am_up μ 2 (μ 1 3).toNatClampNeg a) 3 (μ 1 3).toNatClampNeg b) 4 (μ 1 3).toNatClampNeg c) 1 3 (μ 1 3 + 1)
abbrev X_feast (a b c : Int32) (μ : am_Mu) : am_Mu := am_up (am_up (am_up (am_up μ 2 (μ 1 3).toNatClampNeg a) 3 (μ 1 3).toNatClampNeg b) 4 (μ 1 3).toNatClampNeg c) 1 3 (μ 1 3 + 1)
abbrev M_feast (a b c : Int32) (μ : am_Mu) : am_Mu := am_up (am_up (am_up (am_up μ 110 (μ 108 3).toNatClampNeg a) 111 (μ 108 3).toNatClampNeg b) 112 (μ 108 3).toNatClampNeg c) 108 3 (μ 108 3 + 1)
abbrev X_thing (a : Int32) (μ : am_Mu) : am_Mu := am_up (am_up μ 14 (μ 13 14).toNatClampNeg a) 13 14 (μ 13 14 + 1)
abbrev M_thing (a : Int32) (μ : am_Mu) : am_Mu := am_up (am_up μ 113 (μ 108 4).toNatClampNeg a) 108 4 (μ 108 4 + 1)
abbrev X_strike (a : Int32) (μ : am_Mu) : am_Mu := am_up μ 21 a.toNatClampNeg (μ 0 11)
abbrev M_strike (a : Int32) (μ : am_Mu) : am_Mu := am_up μ 138 a.toNatClampNeg (μ 108 2)
abbrev X_seed (a b : Int32) (μ : am_Mu) : am_Mu := am_up (am_up μ 102 8 a) 102 9 b
abbrev M_seed (a b : Int32) (μ : am_Mu) : am_Mu := am_up (am_up μ 108 12 a) 108 13 b
abbrev X_kitchen (a b c d : Int32) (μ : am_Mu) : am_Mu := am_up (am_up (am_up (am_up (am_up μ 77 (μ 76 8).toNatClampNeg a) 78 (μ 76 8).toNatClampNeg b) 79 (μ 76 8).toNatClampNeg c) 80 (μ 76 8).toNatClampNeg d) 76 8 (μ 76 8 + 1)
abbrev M_kitchen (a b c d : Int32) (μ : am_Mu) : am_Mu := am_up (am_up (am_up (am_up (am_up μ 152 (μ 108 7).toNatClampNeg a) 153 (μ 108 7).toNatClampNeg b) 154 (μ 108 7).toNatClampNeg c) 155 (μ 108 7).toNatClampNeg d) 108 7 (μ 108 7 + 1)
abbrev X_oversee (a b : Int32) (μ : am_Mu) : am_Mu := am_up μ 78 a.toNatClampNeg b
abbrev M_oversee (a b : Int32) (μ : am_Mu) : am_Mu := am_up μ 153 a.toNatClampNeg b
abbrev X_trust (a b c : Int32) (μ : am_Mu) : am_Mu := am_up μ 81 (a * 8 + b).toNatClampNeg (c &&& 1)
abbrev M_trust (a b c : Int32) (μ : am_Mu) : am_Mu := am_up μ 156 (a * 8 + b).toNatClampNeg (c &&& 1)
abbrev X_visitor (a b : Int32) (μ : am_Mu) : am_Mu := am_up (am_up (am_up μ 98 (μ 97 4).toNatClampNeg a) 99 (μ 97 4).toNatClampNeg b) 97 4 (μ 97 4 + 1)
abbrev M_visitor (a b : Int32) (μ : am_Mu) : am_Mu := am_up (am_up (am_up μ 167 (μ 108 10).toNatClampNeg a) 168 (μ 108 10).toNatClampNeg b) 108 10 (μ 108 10 + 1)
/-! E: simple calls keep the invariant -/
theorem upa {μ : am_Mu} {k i a b : Nat} {x : Int32} : am_up μ k i x a b = if a = k ∧ b = i then x else μ a b := rfl
def Op (fx fm : am_Mu → Option (Int32 × am_Mu)) (P P' : am_Mu → Prop) (μ : am_Mu) : Prop := P μ → ∃ r μ1 μ2, fx μ = some (r, μ1) ∧ fm μ1 = some (r, μ2) ∧ P' μ2
theorem op_kitchen (a b c d : Int32) (μ : am_Mu) : Op (fB_kitchen a b c d) (fM_kitchen a b c d) G5 G5 μ := by
  rintro ⟨h1, h2, h3, h4, h5⟩
  by_cases hv : μ 76 8 < 8 ∧ 0 ≤ a ∧ a < 2 ∧ 0 ≤ b ∧ b < 8 ∧ 0 ≤ c ∧ c < 100 ∧ 0 ≤ d ∧ d < 100
  · have e : X_kitchen a b c d μ 108 7 = μ 76 8 := by simp [upa, h3]
    refine ⟨μ 76 8, X_kitchen a b c d μ, M_kitchen a b c d (X_kitchen a b c d μ), by rw [x_kitchen a b c d μ h1, if_pos hv], ?_, ?_⟩
    · rw [m_kitchen a b c d _ (by rw [e]; exact h1) (by rw [e]; exact h2), if_pos (by rw [e]; exact hv)]
      exact congrArg (fun z => some (z, M_kitchen a b c d (X_kitchen a b c d μ))) e
    · have hs := nt_succ h1 (by grind)
      simp only [G5, upa]
      simp [h3]
      refine ⟨by grind, by grind, ?_, ?_⟩
      · intro j hj
        by_cases hjj : j = (μ 76 8).toNatClampNeg
        · subst hjj; simp; grind
        · simp [hjj]
          have := h4 j (by omega)
          grind
      · exact h5
  · exact ⟨-1, μ, μ, by rw [x_kitchen a b c d μ h1, if_neg hv], by rw [m_kitchen a b c d μ (by rw [h3]; exact h1) (by rw [h3]; exact h2), h3, if_neg hv], h1, h2, h3, h4, h5⟩
theorem op_feast (a b c : Int32) (μ : am_Mu) : Op (fB_feast a b c) (fM_feast a b c) G1 G1 μ := by
  rintro ⟨h1, h2, h3, h4⟩
  by_cases hv : μ 1 3 < 6 ∧ 0 ≤ a ∧ a < 12 ∧ 0 ≤ b ∧ b ≤ 28 ∧ 1 ≤ c ∧ c ≤ 10
  · have e : X_feast a b c μ 108 3 = μ 1 3 := by simp [upa, h3]
    refine ⟨1, X_feast a b c μ, M_feast a b c (X_feast a b c μ), by rw [x_feast a b c μ h1, if_pos hv], ?_, ?_⟩
    · rw [m_feast a b c _ (by rw [e]; exact h1) (by rw [e]; exact h2), if_pos (by rw [e]; exact hv)]
    · have hs := nt_succ h1 (by grind)
      simp only [G1, upa]
      simp [h3]
      refine ⟨by grind, by grind, ?_⟩
      intro j hj
      rw [hs] at hj
      by_cases hjj : j = (μ 1 3).toNatClampNeg
      · subst hjj; simp; grind
      · simp [hjj]
        have := h4 j (by omega)
        grind
  · exact ⟨0, μ, μ, by rw [x_feast a b c μ h1, if_neg hv], by rw [m_feast a b c μ (by rw [h3]; exact h1) (by rw [h3]; exact h2), h3, if_neg hv], h1, h2, h3, h4⟩
theorem op_visitor (a b : Int32) (μ : am_Mu) : Op (fB_visitor a b) (fM_visitor a b) G7 G7 μ := by
  rintro ⟨h1, h2, h3, h4⟩
  by_cases hv : μ 97 4 < 6 ∧ 0 ≤ a ∧ a < 2 ∧ 1 ≤ b ∧ b ≤ 9
  · have e : X_visitor a b μ 108 10 = μ 97 4 := by simp [upa, h3]
    refine ⟨μ 97 4, X_visitor a b μ, M_visitor a b (X_visitor a b μ), by rw [x_visitor a b μ h1, if_pos hv], ?_, ?_⟩
    · rw [m_visitor a b _ (by rw [e]; exact h1) (by rw [e]; exact h2), if_pos (by rw [e]; exact hv)]
      exact congrArg (fun z => some (z, M_visitor a b (X_visitor a b μ))) e
    · have hs := nt_succ h1 (by grind)
      simp only [G7, upa]
      simp [h3]
      refine ⟨by grind, by grind, ?_⟩
      intro j hj
      rw [hs] at hj
      by_cases hjj : j = (μ 97 4).toNatClampNeg
      · subst hjj; simp; grind
      · simp [hjj]
        have := h4 j (by omega)
        grind
  · exact ⟨-1, μ, μ, by rw [x_visitor a b μ h1, if_neg hv], by rw [m_visitor a b μ (by rw [h3]; exact h1) (by rw [h3]; exact h2), h3, if_neg hv], h1, h2, h3, h4⟩
theorem op_oversee (a b : Int32) (μ : am_Mu) : Op (fB_oversee a b) (fM_oversee a b) G5 G5 μ := by
  rintro ⟨h1, h2, h3, h4, h5⟩
  by_cases hv : 0 ≤ a ∧ a < μ 76 8 ∧ 0 ≤ b ∧ b < 8
  · have e : X_oversee a b μ 108 7 = μ 76 8 := by simp [upa, h3]
    refine ⟨1, X_oversee a b μ, M_oversee a b (X_oversee a b μ), by rw [x_oversee a b μ h2, if_pos hv], ?_, ?_⟩
    · rw [m_oversee a b _ (by rw [e]; exact h1) (by rw [e]; exact h2), if_pos (by rw [e]; exact hv)]
    · simp only [G5, upa]
      simp [h3]
      refine ⟨h1, h2, ?_, h5⟩
      intro j hj
      have := h4 j hj
      by_cases hjj : j = a.toNatClampNeg
      · subst hjj; simp; grind
      · simp [hjj]
        grind
  · exact ⟨0, μ, μ, by rw [x_oversee a b μ h2, if_neg hv], by rw [m_oversee a b μ (by rw [h3]; exact h1) (by rw [h3]; exact h2), h3, if_neg hv], h1, h2, h3, h4, h5⟩
theorem and1_01 (c : Int32) (h : c = 0 ∨ c = 1) : c &&& 1 = c := by rcases h with rfl | rfl <;> rfl
theorem op_trust (a b c : Int32) (hc : c = 0 ∨ c = 1) (μ : am_Mu) : Op (fB_trust a b c) (fM_trust a b c) G5 G5 μ := by
  rintro ⟨h1, h2, h3, h4, h5⟩
  by_cases hr : 0 ≤ a ∧ a < 2 ∧ 0 ≤ b ∧ b < 8
  · have hix : (a * 8 + b).toNatClampNeg < 16 := by
      have h16 : (16 : Int32).toNatClampNeg = 16 := rfl
      have := nt_lt (a := a * 8 + b) (b := 16) (by grind) (by grind)
      omega
    obtain ⟨e5, e6⟩ := h5 _ hix
    by_cases hv : 0 ≤ a ∧ a < 2 ∧ 0 ≤ b ∧ b < 8 ∧ ¬ μ 81 (a * 8 + b).toNatClampNeg = c
    · have e : X_trust a b c μ 156 (a * 8 + b).toNatClampNeg = μ 81 (a * 8 + b).toNatClampNeg := by simp [upa, e5]
      refine ⟨1, X_trust a b c μ, M_trust a b c (X_trust a b c μ), by rw [x_trust a b c μ, if_pos hv], ?_, ?_⟩
      · rw [m_trust a b c _, if_pos (by rw [e]; exact hv)]
      · simp only [G5, upa]
        simp [h3]
        refine ⟨h1, h2, h4, ?_⟩
        intro j hj
        have := h5 j hj
        by_cases hjj : j = (a * 8 + b).toNatClampNeg
        · subst hjj; simp; rw [and1_01 c hc]; exact hc
        · simp [hjj]
          exact this
    · exact ⟨0, μ, μ, by rw [x_trust a b c μ, if_neg hv], by rw [m_trust a b c μ, e5, if_neg hv], h1, h2, h3, h4, h5⟩
  · exact ⟨0, μ, μ, by rw [x_trust a b c μ, if_neg (by grind)], by rw [m_trust a b c μ, if_neg (by grind)], h1, h2, h3, h4, h5⟩
theorem op_seed (a b : Int32) (μ : am_Mu) : Op (fB_seed a b) (fM_seed a b) G8 G8 μ := by
  rintro ⟨⟨h1, h2, h3, h4, h5, h6, h7, h8⟩, g2⟩
  by_cases hv : 0 ≤ a ∧ 1 ≤ b ∧ b ≤ 99
  · refine ⟨1, X_seed a b μ, M_seed a b (X_seed a b μ), by rw [x_seed a b μ, if_pos hv], by rw [m_seed a b, if_pos hv], ?_⟩
    simp only [G8, upa]
    simp [h3]
    exact ⟨⟨h1, h2, hv⟩, g2⟩
  · exact ⟨0, μ, μ, by rw [x_seed a b μ, if_neg hv], by rw [m_seed a b, if_neg hv], ⟨h1, h2, h3, h4, h5, h6, h7, h8⟩, g2⟩
theorem div_mono {a b : Int32} (h0 : 0 ≤ a) (h : a ≤ b) (h2 : b < 1440000) : a / 1440 ≤ b / 1440 := by
  have key : ∀ x : Int32, 0 ≤ x → x < 1440000 → (x / 1440).toInt = x.toInt / 1440 := by
    intro x hx hx2
    have e1 : (1440 : Int32).toInt = 1440 := rfl
    have e0 : (0 : Int32).toInt = 0 := rfl
    have e2 : (1440000 : Int32).toInt = 1440000 := rfl
    have b1 := Int32.le_iff_toInt_le.mp hx
    have b2 := Int32.lt_iff_toInt_lt.mp hx2
    rw [Int32.toInt_div, e1, Int.tdiv_eq_ediv_of_nonneg (by omega)]
    refine Int.bmod_eq_of_le ?_ ?_ <;> omega
  rw [Int32.le_iff_toInt_le, key a h0 (by grind), key b (by grind) h2]
  have := Int32.le_iff_toInt_le.mp h
  omega
theorem op_now (a : Int32) (μ : am_Mu) : Op (fB_now a) (fM_now a) (fun μ => G0 μ ∧ G8 μ) (fun μ => G0 μ ∧ G8 μ) μ := by
  rintro ⟨⟨h1, h2, h3⟩, g1, g2, g3⟩
  by_cases hv : 0 ≤ a ∧ a < 1440000 ∧ μ 0 11 ≤ a
  · have e : X_now a μ 108 2 = μ 0 11 := by simp [upa, h3]
    refine ⟨1, X_now a μ, M_now a (X_now a μ), by rw [x_now a μ, if_pos hv], by rw [m_now a, if_pos (by rw [e]; grind)], ?_, ?_⟩
    · simp [G0, upa]
      exact ⟨hv.1, hv.2.1⟩
    · simp only [G8, upa]
      simp
      refine ⟨g1, ?_, g3⟩
      intro i hi
      obtain ⟨q1, q2, q3, q4, q5, q6⟩ := g2 i hi
      refine ⟨q1, q2, q3, q4, q5, ?_⟩
      have := div_mono h1 hv.2.2 hv.2.1
      grind
  · exact ⟨0, μ, μ, by rw [x_now a μ, if_neg hv], by rw [m_now a, h3, if_neg (by grind)], ⟨h1, h2, h3⟩, g1, g2, g3⟩
theorem op_thing (a : Int32) (μ : am_Mu) : Op (fB_thing a) (fM_thing a) G4 G4 μ := by
  rintro ⟨⟨h1, h2, h3, h4⟩, ⟨a1, a2, a3, a4⟩, ⟨m1, m2, m3, m4⟩, v1, v2, v3, v4⟩
  by_cases hv : μ 13 14 < 20 ∧ 0 ≤ a ∧ a < 256
  · have e : X_thing a μ 108 4 = μ 13 14 := by simp [upa, h3]
    refine ⟨μ 13 14, X_thing a μ, M_thing a (X_thing a μ), by rw [x_thing a μ h1, if_pos hv], ?_, ?_⟩
    · rw [m_thing a _ (by rw [e]; exact h1) (by rw [e]; exact h2), if_pos (by rw [e]; exact hv)]
      exact congrArg (fun z => some (z, M_thing a (X_thing a μ))) e
    · have hs := nt_succ h1 (by grind)
      have f1 : ∀ x, evMin (M_thing a (X_thing a μ)) x = evMin μ x := evMin_cong ⟨by funext j; simp [upa], by funext j; simp [upa]⟩
      have f2 : ∀ x y, EvRel (M_thing a (X_thing a μ)) x y = EvRel μ x y := EvRel_cong ⟨by simp [upa], by simp [upa]⟩
      refine ⟨⟨?_, ?_, ?_, ?_⟩, ⟨?_, ?_, ?_, ?_⟩, ⟨?_, ?_, ?_, ?_⟩, ?_, ?_, ?_, ?_⟩
      · simp [upa]; grind
      · simp [upa]; grind
      · simp [upa, h3]
      · intro j hj
        simp only [upa] at hj ⊢
        simp at hj ⊢
        rw [hs] at hj
        by_cases hjj : j = (μ 13 14).toNatClampNeg
        · subst hjj; simp [h3]; grind
        · simp [hjj, h3]
          have := h4 j (by omega)
          grind
      · simpa [upa] using a1
      · simpa [upa] using a2
      · simpa [upa] using a3
      · intro j hj
        simp only [upa] at hj ⊢
        simp at hj ⊢
        have := a4 j hj
        grind
      · simpa [upa] using m1
      · simpa [upa] using m2
      · simpa [upa] using m3
      · intro j hj
        simp only [upa] at hj ⊢
        simp at hj ⊢
        have := m4 j hj
        grind
      · simpa [upa] using v1
      · simpa [upa] using v2
      · intro k hk
        rw [f2]
        have := v3 k (by simpa [upa] using hk)
        simpa [upa] using this
      · intro k l hkl hl
        rw [f1, f1]
        have := v4 k l hkl (by simpa [upa] using hl)
        simpa [upa] using this
  · exact ⟨-1, μ, μ, by rw [x_thing a μ h1, if_neg hv], by rw [m_thing a μ (by rw [h3]; exact h1) (by rw [h3]; exact h2), h3, if_neg hv], ⟨h1, h2, h3, h4⟩, ⟨a1, a2, a3, a4⟩, ⟨m1, m2, m3, m4⟩, v1, v2, v3, v4⟩
theorem op_strike (a : Int32) (μ : am_Mu) : Op (fB_strike a) (fM_strike a) (fun μ => G0 μ ∧ G4 μ) (fun μ => G0 μ ∧ G4 μ) μ := by
  rintro ⟨⟨n1, n2, n3⟩, ⟨h1, h2, h3, h4⟩, ⟨a1, a2, a3, a4⟩, ⟨m1, m2, m3, m4⟩, v1, v2, v3, v4⟩
  by_cases hr : 0 ≤ a ∧ a < μ 13 15
  · have hi := nt_lt hr.1 hr.2
    have e7 := (a4 _ hi).2.2.2.2.2.2
    by_cases hv : 0 ≤ a ∧ a < μ 13 15 ∧ μ 21 a.toNatClampNeg = -1
    · have e : X_strike a μ 108 5 = μ 13 15 := by simp [upa, a3]
      have e' : X_strike a μ 138 a.toNatClampNeg = μ 21 a.toNatClampNeg := by simp [upa, e7]
      have e'' : X_strike a μ 108 2 = μ 0 11 := by simp [upa, n3]
      refine ⟨1, X_strike a μ, M_strike a (X_strike a μ), by rw [x_strike a μ a2, if_pos hv], ?_, ?_⟩
      · rw [m_strike a _ (by rw [e]; exact a1) (by rw [e]; exact a2), if_pos (by rw [e, e']; exact hv)]
      · have f1 : ∀ x, evMin (M_strike a (X_strike a μ)) x = evMin μ x := evMin_cong ⟨by funext j; simp [upa], by funext j; simp [upa]⟩
        have f2 : ∀ x y, EvRel (M_strike a (X_strike a μ)) x y = EvRel μ x y := EvRel_cong ⟨by simp [upa], by simp [upa]⟩
        refine ⟨⟨by simpa [upa] using n1, by simpa [upa] using n2, by simpa [upa] using n3⟩, ⟨?_, ?_, ?_, ?_⟩, ⟨?_, ?_, ?_, ?_⟩, ⟨?_, ?_, ?_, ?_⟩, ?_, ?_, ?_, ?_⟩
        · simpa [upa] using h1
        · simpa [upa] using h2
        · simpa [upa] using h3
        · intro j hj
          simp only [upa] at hj ⊢
          simp at hj ⊢
          exact h4 j hj
        · simpa [upa] using a1
        · simpa [upa] using a2
        · simpa [upa] using a3
        · intro j hj
          simp only [upa] at hj ⊢
          simp at hj ⊢
          have := a4 j hj
          by_cases hjj : j = a.toNatClampNeg
          · subst hjj; simp [n3]; grind
          · simp [hjj]; grind
        · simpa [upa] using m1
        · simpa [upa] using m2
        · simpa [upa] using m3
        · intro j hj
          simp only [upa] at hj ⊢
          simp at hj ⊢
          have := m4 j hj
          grind
        · simpa [upa] using v1
        · simpa [upa] using v2
        · intro k hk
          rw [f2]
          have := v3 k (by simpa [upa] using hk)
          simpa [upa] using this
        · intro k l hkl hl
          rw [f1, f1]
          have := v4 k l hkl (by simpa [upa] using hl)
          simpa [upa] using this
    · exact ⟨0, μ, μ, by rw [x_strike a μ a2, if_neg hv], by rw [m_strike a μ (by rw [a3]; exact a1) (by rw [a3]; exact a2), a3, e7, if_neg hv], ⟨n1, n2, n3⟩, ⟨h1, h2, h3, h4⟩, ⟨a1, a2, a3, a4⟩, ⟨m1, m2, m3, m4⟩, v1, v2, v3, v4⟩
  · exact ⟨0, μ, μ, by rw [x_strike a μ a2, if_neg (by grind)], by rw [m_strike a μ (by rw [a3]; exact a1) (by rw [a3]; exact a2), a3, if_neg (by grind)], ⟨n1, n2, n3⟩, ⟨h1, h2, h3, h4⟩, ⟨a1, a2, a3, a4⟩, ⟨m1, m2, m3, m4⟩, v1, v2, v3, v4⟩
