/-! E: act, mistake -/
theorem l_canBe (a b c : Int32) (μ : am_Mu) : fLedger_canBeSecond a b c μ = some (b2i (0 ≤ a ∧ a ≤ 3 ∧ ((a < 2 ∧ 0 ≤ c ∧ c < μ 13 14 ∧ ¬ b = c) ∨ (2 ≤ a ∧ c = -1))), μ) := by
  unfold fLedger_canBeSecond fLedger_canBeSecond_52
  simp only [l_isIn, Option.bind_some, b2i_z]
  unfold b2i
  grind
abbrev Xa (a b c d e : Int32) (μ : am_Mu) : am_Mu := am_up (am_up (am_up (am_up (am_up (am_up (am_up μ 15 (μ 13 15).toNatClampNeg a) 16 (μ 13 15).toNatClampNeg b) 17 (μ 13 15).toNatClampNeg c) 18 (μ 13 15).toNatClampNeg d) 19 (μ 13 15).toNatClampNeg (e &&& 1)) 20 (μ 13 15).toNatClampNeg (μ 0 11)) 21 (μ 13 15).toNatClampNeg (-1)
abbrev Ma (a b c d e : Int32) (μ : am_Mu) : am_Mu := am_up (am_up (am_up (am_up (am_up (am_up (am_up (am_up μ 132 (μ 108 5).toNatClampNeg a) 133 (μ 108 5).toNatClampNeg b) 134 (μ 108 5).toNatClampNeg c) 135 (μ 108 5).toNatClampNeg d) 136 (μ 108 5).toNatClampNeg (e &&& 1)) 137 (μ 108 5).toNatClampNeg (μ 108 2)) 138 (μ 108 5).toNatClampNeg (-1)) 108 5 (μ 108 5 + 1)
abbrev actV (a b c d now nT : Int32) : Prop := (0 ≤ d ∧ d ≤ now) ∧ (0 ≤ b ∧ b < nT) ∧ 0 ≤ a ∧ a ≤ 3 ∧ ((a < 2 ∧ 0 ≤ c ∧ c < nT ∧ ¬ b = c) ∨ (2 ≤ a ∧ c = -1))
theorem x_act {a b c d e : Int32} {μ : am_Mu} (hnow : μ 0 11 < 1440000) (h1 : 0 ≤ μ 13 15) (h2 : μ 13 15 ≤ 200) : fB_act a b c d e μ = if μ 13 15 < 200 ∧ actV a b c d (μ 0 11) (μ 13 14) then ((fLedger_place (10 + μ 13 15) (Xa a b c d e μ)).bind fun q7 => some (q7 13 15 + 1 - 1, am_up q7 13 15 (q7 13 15 + 1))) else some (-1, μ) := by
  unfold fB_act fLedger_addAct
  simp only [l_isTold, Option.bind_some, l_isIn, l_canBe]
  by_cases c1 : 0 ≤ d ∧ d ≤ μ 0 11
  · rw [b2i_t (show 0 ≤ d ∧ d < 1440000 ∧ d ≤ μ 0 11 by grind), if_pos (by decide)]
    by_cases c2 : μ 13 15 < 200
    · rw [if_neg (by grind)]
      by_cases c3 : 0 ≤ b ∧ b < μ 13 14
      · rw [b2i_t c3, if_neg (by decide)]
        by_cases c4 : 0 ≤ a ∧ a ≤ 3 ∧ ((a < 2 ∧ 0 ≤ c ∧ c < μ 13 14 ∧ ¬ b = c) ∨ (2 ≤ a ∧ c = -1))
        · rw [b2i_t c4, if_pos (by decide), inb_t (n := 200) h1 (nt_lt (b := 200) h1 c2), cond_true, if_pos ⟨c2, c1, c3, c4⟩]
          cases fLedger_place (10 + μ 13 15) (Xa a b c d e μ) <;> rfl
        · rw [b2i_f c4, if_neg (by decide), if_neg (fun h => c4 h.2.2.2), Option.bind_some]
      · rw [b2i_f c3, if_pos rfl, if_neg (fun h => c3 h.2.2.1), Option.bind_some]
    · rw [if_pos (by grind), if_neg (fun h => c2 h.1), Option.bind_some]
  · rw [b2i_f (show ¬ (0 ≤ d ∧ d < 1440000 ∧ d ≤ μ 0 11) by grind), if_neg (by decide), if_neg (fun h => c1 h.2.1)]
theorem m_act {a b c d e : Int32} {μ : am_Mu} (h1 : 0 ≤ μ 108 5) (h2 : μ 108 5 ≤ 200) (h3 : 0 ≤ μ 108 4) : fM_act a b c d e μ = if μ 108 5 < 200 ∧ actV a b c d (μ 108 2) (μ 108 4) then ((fM_comes (μ 108 5) (Ma a b c d e μ)).bind fun q2 => some (q2 108 5 - 1, q2)) else some (-1, μ) := by
  unfold fM_act
  simp only [l_lies, Option.bind_some, l_isThing]
  have hT : ∀ x, (0 ≤ x ∧ x ≤ μ 108 4 - 1) ↔ (0 ≤ x ∧ x < μ 108 4) := by intro x; grind
  have e70 : μ 108 5 < 200 → fM_act_70 a b c d e μ = ((fM_comes (μ 108 5) (Ma a b c d e μ)).bind fun q2 => some (q2 108 5 - 1, q2)) := by
    intro h
    unfold fM_act_70
    rw [inb_t (n := 200) h1 (nt_lt (b := 200) h1 h), cond_true, show μ 108 5 + 1 - 1 = μ 108 5 by grind]
  by_cases c2 : μ 108 5 < 200
  · rw [if_neg (by grind)]
    by_cases c5 : 0 ≤ a ∧ a ≤ 3
    · rw [b2i_t c5, if_neg (by decide)]
      by_cases c3 : 0 ≤ b ∧ b < μ 108 4
      · rw [b2i_t ((hT b).mpr c3), if_neg (by decide)]
        by_cases c1 : 0 ≤ d ∧ d ≤ μ 108 2
        · rw [b2i_t c1, if_pos (by decide)]
          by_cases c6 : 2 ≤ a
          · rw [if_pos c6]
            by_cases c7 : c = -1
            · rw [if_pos c7, e70 c2, if_pos ⟨c2, c1, c3, c5.1, c5.2, Or.inr ⟨c6, c7⟩⟩]
            · rw [if_neg c7, if_neg (by grind)]
          · rw [if_neg c6]
            by_cases c8 : 0 ≤ c ∧ c < μ 108 4
            · rw [b2i_t ((hT c).mpr c8), if_neg (by decide)]
              by_cases c9 : b = c
              · rw [if_neg (by simpa using c9), if_neg (by grind)]
              · rw [if_pos c9, e70 c2, if_pos ⟨c2, c1, c3, c5.1, c5.2, Or.inl ⟨by grind, c8.1, c8.2, c9⟩⟩]
            · rw [b2i_f (fun h => c8 ((hT c).mp h)), if_pos rfl, if_neg (by grind)]
        · rw [b2i_f c1, if_neg (by decide), if_neg (fun h => c1 h.2.1)]
      · rw [b2i_f (fun h => c3 ((hT b).mp h)), if_pos rfl, if_neg (fun h => c3 h.2.2.1)]
    · rw [b2i_f c5, if_pos rfl, if_neg (fun h => c5 ⟨h.2.2.2.1, h.2.2.2.2.1⟩)]
  · rw [if_pos (by grind), if_neg (fun h => c2 h.1)]
/-- what the events are, out of the invariant -/
theorem ev_of {μ : am_Mu} (g : G4 μ) {x y : Int32} (h : EvRel μ x y) : evGd μ x ∧ ((0 ≤ x ∧ x < 10 ∧ y = 1000 + x) ∨ (10 ≤ x ∧ x < 210 ∧ y = x - 10)) ∧ rfOK y ∧ evM μ y = evMin μ x := by
  obtain ⟨-, ⟨a1, a2, -, a4⟩, ⟨b1, b2, -, b4⟩, -⟩ := g
  rcases h with ⟨h1, h2, rfl⟩ | ⟨h1, h2, rfl⟩
  · have h10 : x < 10 := by grind
    obtain ⟨-, -, ⟨e1, e2, e3⟩, -⟩ := b4 _ (nt_lt h1 h2)
    have c2 : (1000 : Int32) ≤ 1000 + x := by grind
    have c3 : 1000 + x - 1000 = x := by grind
    have c4 : (1000 : Int32) + x < 1010 := by grind
    refine ⟨⟨⟨h1, by grind⟩, ?_, ?_⟩, Or.inl ⟨h1, h10, rfl⟩, Or.inr ⟨c2, c4⟩, ?_⟩
    · simp only [evMin, if_pos h10]
      exact e2
    · simp only [evMin, if_pos h10]
      exact e3
    · simp only [evMin, evM, if_pos h10, if_pos c2, c3]
      exact e1
  · have h10 : ¬ x < 10 := by grind
    have h0 : 0 ≤ x - 10 := by grind
    have h3 : x - 10 < μ 13 15 := by grind
    obtain ⟨-, -, -, ⟨e1, e2, e3⟩, -⟩ := a4 _ (nt_lt h0 h3)
    have c2 : ¬ (1000 : Int32) ≤ x - 10 := by grind
    refine ⟨⟨⟨by grind, by grind⟩, ?_, ?_⟩, Or.inr ⟨h1, by grind, rfl⟩, Or.inl ⟨h0, by grind⟩, ?_⟩
    · simp only [evMin, if_neg h10]
      exact e2
    · simp only [evMin, if_neg h10]
      exact e3
    · simp only [evMin, evM, if_neg h10, if_neg c2]
      exact e1
theorem ev_n {μ : am_Mu} (g : G4 μ) : μ 13 13 = nI ((μ 13 15).toNatClampNeg + (μ 13 16).toNatClampNeg) ∧ (μ 13 13).toNatClampNeg = (μ 13 15).toNatClampNeg + (μ 13 16).toNatClampNeg ∧ (μ 13 15).toNatClampNeg ≤ 200 ∧ (μ 13 16).toNatClampNeg ≤ 10 := by
  obtain ⟨-, ⟨a1, a2, -, -⟩, ⟨b1, b2, -, -⟩, c1, -⟩ := g
  have k1 : (μ 13 15).toNatClampNeg ≤ 200 := nt_le (b := 200) a1 a2
  have k2 : (μ 13 16).toNatClampNeg ≤ 10 := nt_le (b := 10) b1 b2
  have e : μ 13 13 = nI ((μ 13 15).toNatClampNeg + (μ 13 16).toNatClampNeg) := by rw [← nI_plus, nI_nt a1, nI_nt b1]; exact c1
  exact ⟨e, by rw [e, nI_clamp (by omega)], k1, k2⟩
theorem op_act (a b c d e : Int32) (he : e = 0 ∨ e = 1) (μ : am_Mu) : Op (fB_act a b c d e) (fM_act a b c d e) (fun μ => G0 μ ∧ G4 μ) G4 μ := by
  rintro ⟨⟨g1, g2, g3⟩, g⟩
  have g' := g
  obtain ⟨en, en2, k1, k2⟩ := ev_n g
  obtain ⟨⟨t1, t2, t3, t4⟩, ⟨a1, a2, a3, a4⟩, ⟨b1, b2, b3, b4⟩, c1, c2, c3, c4⟩ := g
  by_cases hv : μ 13 15 < 200 ∧ actV a b c d (μ 0 11) (μ 13 14)
  · have hv' := hv
    obtain ⟨v1, ⟨d1, d2⟩, ⟨vb1, vb2⟩, va1, va2, vc⟩ := hv
    generalize hnA : (μ 13 15).toNatClampNeg = nA at *
    generalize hnM : (μ 13 16).toNatClampNeg = nM at *
    have lA : nA < 200 := by rw [← hnA]; exact nt_lt (b := 200) a1 v1
    have eA : μ 13 15 = nI nA := by rw [← hnA, nI_nt a1]
    have hs : (μ 13 15 + 1).toNatClampNeg = nA + 1 := by rw [nt_succ a1 (by grind), hnA]
    have ix : (10 + μ 13 15 - 10).toNatClampNeg = nA := by rw [show 10 + μ 13 15 - 10 = μ 13 15 by grind, hnA]
    have n10 : ¬ 10 + μ 13 15 < 10 := by grind
    -- the minutes behind the new rows
    have em : ∀ x, evMin (Xa a b c d e μ) x = if x < 10 then μ 24 x.toNatClampNeg else if (x - 10).toNatClampNeg = nA then d else μ 18 (x - 10).toNatClampNeg := by
      intro x
      simp only [evMin, upa, hnA]
      grind
    have old : ∀ k, k < nA + nM → evMin (Xa a b c d e μ) (μ 26 k) = evMin μ (μ 26 k) := by
      intro k hk
      rw [em]
      simp only [evMin]
      rcases c3 k (by omega) with ⟨h1, h2, -⟩ | ⟨h1, h2, -⟩
      · have h9 : μ 26 k < 10 := by grind
        rw [if_pos h9, if_pos h9]
      · have h9 : ¬ μ 26 k < 10 := by grind
        have := nt_lt (a := μ 26 k - 10) (b := μ 13 15) (by grind) (by grind)
        rw [if_neg h9, if_neg h9, if_neg (show ¬ (μ 26 k - 10).toNatClampNeg = nA by omega)]
    have new : evMin (Xa a b c d e μ) (10 + μ 13 15) = d := by rw [em, if_neg n10, ix, if_pos rfl]
    obtain ⟨q, ν, P, x1, x2, x3, x4, x5⟩ := x_place (μ := Xa a b c d e μ) (e := 10 + μ 13 15) (n := nA + nM) (by simp only [upa]; simpa using en) (by omega) ⟨⟨by grind, by grind⟩, by rw [new]; exact d1, by rw [new]; grind⟩ (by
      intro k hk
      have h1 : Xa a b c d e μ 26 k = μ 26 k := by simp [upa]
      obtain ⟨⟨h2, h3⟩, -⟩ := ev_of g' (c3 k (by omega))
      rw [h1]
      exact ⟨h2, by rw [old k hk]; exact h3⟩)
    have r26 : ∀ k, Xa a b c d e μ 26 k = μ 26 k := by intro k; simp [upa]
    have y15 : ν 13 15 = μ 13 15 := by rw [x3 15 (by decide)]; simp [upa]
    -- behind the class
    have X : ∀ r, ¬ r = 13 → ¬ r = 15 → ¬ r = 16 → ¬ r = 17 → ¬ r = 18 → ¬ r = 19 → ¬ r = 20 → ¬ r = 21 → ¬ r = 26 → am_up ν 13 15 (ν 13 15 + 1) r = μ r := by
      intro r _ _ _ _ _ _ _ _ _
      funext j
      simp only [upa, x2 r (by assumption) (by assumption)]
      grind
    generalize hXX : am_up ν 13 15 (ν 13 15 + 1) = ξ at X
    have z13 : ∀ j, ξ 13 j = if j = 13 then nI (nA + nM + 1) else if j = 15 then μ 13 15 + 1 else μ 13 j := by
      intro j
      rw [← hXX]
      simp only [upa, y15]
      by_cases h13 : j = 13
      · subst h13; simp [x4]
      · rw [x3 j h13]; simp [upa, h13]
    have zrow : ∀ r, ¬ r = 13 → ¬ r = 26 → ∀ j, ξ r j = Xa a b c d e μ r j := by
      intro r h1 h2 j
      rw [← hXX]
      simp only [upa, x2 r h2 h1]
      grind
    have z26 : ∀ j, ξ 26 j = insF (μ 26) (10 + μ 13 15) (nA + nM) q j := by
      intro j
      have h : (Xa a b c d e μ) 26 = μ 26 := by funext k; exact r26 k
      rw [← hXX, ← h, ← x5 j]
      simp [upa]
    have m5 : ξ 108 5 = μ 13 15 := by rw [X 108] <;> first | exact a3 | decide
    have m4 : ξ 108 4 = μ 13 14 := by rw [X 108] <;> first | exact t3 | decide
    have m2 : ξ 108 2 = μ 0 11 := by rw [X 108] <;> first | exact g3 | decide
    have m55 : ξ 108 55 = nI (nA + nM) := by rw [X 108] <;> first | exact c2.trans en | decide
    have w143 : ∀ j, Ma a b c d e ξ 143 j = μ 143 j := by
      intro j
      simp only [upa, X 143 (by decide) (by decide) (by decide) (by decide) (by decide) (by decide) (by decide) (by decide) (by decide)]
      simp
    have e141 : ξ 141 = μ 141 := X 141 (by decide) (by decide) (by decide) (by decide) (by decide) (by decide) (by decide) (by decide) (by decide)
    have e135 : ξ 135 = μ 135 := X 135 (by decide) (by decide) (by decide) (by decide) (by decide) (by decide) (by decide) (by decide) (by decide)
    have emM : ∀ y, evM (Ma a b c d e ξ) y = if 1000 ≤ y then μ 141 (y - 1000).toNatClampNeg else if y.toNatClampNeg = nA then d else μ 135 y.toNatClampNeg := by
      intro y
      simp only [evM, upa, m5, hnA, e141, e135]
      grind
    have emX : ∀ y, evMin (Ma a b c d e ξ) y = evMin (Xa a b c d e μ) y := by
      intro y
      have h24 := zrow 24 (by decide) (by decide)
      have h18 := zrow 18 (by decide) (by decide)
      simp only [evMin]
      have i1 : ∀ j, Ma a b c d e ξ 24 j = ξ 24 j := by intro j; simp [upa]
      have i2 : ∀ j, Ma a b c d e ξ 18 j = ξ 18 j := by intro j; simp [upa]
      rw [i1, i2, h24, h18]
    have rf0 : rfOK (μ 13 15) := Or.inl ⟨a1, v1⟩
    obtain ⟨q2, ρ, P2, y1, y2, y3, y4, y5⟩ := m_comes (μ := Ma a b c d e ξ) (e := μ 13 15) (n := nA + nM) (by simp only [upa]; simpa using m55) (by omega) rf0 (by
      intro k hk
      rw [w143]
      exact (ev_of g' (c3 k (by omega))).2.2.1)
    have hqq : q = q2 := by
      refine P.uniq P2 ?_
      intro k hk
      rw [w143, r26]
      obtain ⟨h1, h2, h3, h4⟩ := ev_of g' (c3 k (by omega))
      have h5 : evM (Ma a b c d e ξ) (μ 143 k) = evMin (Ma a b c d e ξ) (μ 26 k) := by
        rw [emX, old k hk, emM, ← h4]
        simp only [evM]
        rcases c3 k (by omega) with ⟨q1, q2, q3⟩ | ⟨q1, q2, q3⟩
        · have : (1000 : Int32) ≤ μ 143 k := by grind
          rw [if_pos this, if_pos this]
        · have : ¬ (1000 : Int32) ≤ μ 143 k := by grind
          have hlt := nt_lt (a := μ 26 k - 10) (b := μ 13 15) (by grind) (by grind)
          rw [if_neg this, if_neg this, if_neg]
          rw [q3]
          omega
      have h6 : evM (Ma a b c d e ξ) (μ 13 15) = evMin (Ma a b c d e ξ) (10 + μ 13 15) := by
        rw [emX, new, emM, if_neg (by grind), if_pos hnA]
      have h7 := ahead_rel (μ := Ma a b c d e ξ) (a := 10 + μ 13 15) (f := μ 13 15) (Or.inr ⟨by grind, by grind, by grind⟩) h2 h6 h5
      rw [h7]
      simp only [aheadX, emX]
    have R13 : ∀ j, ρ 13 j = ξ 13 j := by
      intro j
      rw [y2 13 (by decide) (by decide)]
      simp [upa]
    have R : ∀ r, ¬ r = 143 → ¬ r = 108 → ρ r = Ma a b c d e ξ r := y2
    have R55 : ρ 108 55 = nI (nA + nM + 1) := y4
    have R108 : ∀ j, ¬ j = 55 → ρ 108 j = if j = 5 then μ 13 15 + 1 else μ 108 j := by
      intro j hj
      have e108 : ξ 108 = μ 108 := X 108 (by decide) (by decide) (by decide) (by decide) (by decide) (by decide) (by decide) (by decide) (by decide)
      rw [y3 j hj]
      simp [upa, e108, a3]
    have R143 : ∀ j, ρ 143 j = insF (μ 143) (μ 13 15) (nA + nM) q j := by
      intro j
      have h : Ma a b c d e ξ 143 = μ 143 := by funext k; exact w143 k
      rw [y5 j, h, hqq]
    have R26 : ∀ j, ρ 26 j = insF (μ 26) (10 + μ 13 15) (nA + nM) q j := by
      intro j
      rw [R 26 (by decide) (by decide), ← z26 j]
      simp [upa]
    have rest : ∀ r, ¬ r = 143 → ¬ r = 108 → ¬ r = 132 → ¬ r = 133 → ¬ r = 134 → ¬ r = 135 → ¬ r = 136 → ¬ r = 137 → ¬ r = 138 → ∀ j, ρ r j = ξ r j := by
      intro r h1 h2 _ _ _ _ _ _ _ j
      rw [R r h1 h2]
      simp only [upa]
      grind
    have hb := and1_01 e he
    have rX : ∀ r, ¬ r = 13 → ¬ r = 26 → ¬ r = 143 → ¬ r = 108 → ¬ r = 132 → ¬ r = 133 → ¬ r = 134 → ¬ r = 135 → ¬ r = 136 → ¬ r = 137 → ¬ r = 138 → ∀ j, ρ r j = Xa a b c d e μ r j := by
      intro r h1 h2 h3 h4 h5 h6 h7 h8 h9 h10 h11 j
      rw [rest r h3 h4 h5 h6 h7 h8 h9 h10 h11 j, zrow r h1 h2 j]
    have u15 : ∀ j, ρ 15 j = if j = nA then a else μ 15 j := by intro j; rw [rX 15] <;> first | decide | simp [upa, hnA]
    have u16 : ∀ j, ρ 16 j = if j = nA then b else μ 16 j := by intro j; rw [rX 16] <;> first | decide | simp [upa, hnA]
    have u17 : ∀ j, ρ 17 j = if j = nA then c else μ 17 j := by intro j; rw [rX 17] <;> first | decide | simp [upa, hnA]
    have u18 : ∀ j, ρ 18 j = if j = nA then d else μ 18 j := by intro j; rw [rX 18] <;> first | decide | simp [upa, hnA]
    have u19 : ∀ j, ρ 19 j = if j = nA then e else μ 19 j := by intro j; rw [rX 19] <;> first | decide | simp [upa, hnA, hb]
    have u20 : ∀ j, ρ 20 j = if j = nA then μ 0 11 else μ 20 j := by intro j; rw [rX 20] <;> first | decide | simp [upa, hnA]
    have u21 : ∀ j, ρ 21 j = if j = nA then -1 else μ 21 j := by intro j; rw [rX 21] <;> first | decide | simp [upa, hnA]
    have sX : ∀ r, ¬ r = 13 → ¬ r = 26 → ¬ r = 143 → ¬ r = 108 → ¬ r = 132 → ¬ r = 133 → ¬ r = 134 → ¬ r = 135 → ¬ r = 136 → ¬ r = 137 → ¬ r = 138 → ¬ r = 15 → ¬ r = 16 → ¬ r = 17 → ¬ r = 18 → ¬ r = 19 → ¬ r = 20 → ¬ r = 21 → ρ r = μ r := by
      intro r h1 h2 h3 h4 h5 h6 h7 h8 h9 h10 h11 _ _ _ _ _ _ _
      funext j
      rw [rX r h1 h2 h3 h4 h5 h6 h7 h8 h9 h10 h11 j]
      simp only [upa]
      grind
    have eM : ∀ r, ¬ r = 13 → ¬ r = 26 → ¬ r = 15 → ¬ r = 16 → ¬ r = 17 → ¬ r = 18 → ¬ r = 19 → ¬ r = 20 → ¬ r = 21 → ∀ j, ξ r j = μ r j := by
      intro r _ _ _ _ _ _ _ _ _ j
      rw [X r (by assumption) (by assumption) (by assumption) (by assumption) (by assumption) (by assumption) (by assumption) (by assumption) (by assumption)]
    have u132 : ∀ j, ρ 132 j = if j = nA then a else μ 132 j := by intro j; rw [R 132 (by decide) (by decide)]; simp [upa, m5, hnA, eM 132]
    have u133 : ∀ j, ρ 133 j = if j = nA then b else μ 133 j := by intro j; rw [R 133 (by decide) (by decide)]; simp [upa, m5, hnA, eM 133]
    have u134 : ∀ j, ρ 134 j = if j = nA then c else μ 134 j := by intro j; rw [R 134 (by decide) (by decide)]; simp [upa, m5, hnA, eM 134]
    have u135 : ∀ j, ρ 135 j = if j = nA then d else μ 135 j := by intro j; rw [R 135 (by decide) (by decide)]; simp [upa, m5, hnA, eM 135]
    have u136 : ∀ j, ρ 136 j = if j = nA then e else μ 136 j := by intro j; rw [R 136 (by decide) (by decide)]; simp [upa, m5, hnA, eM 136, hb]
    have u137 : ∀ j, ρ 137 j = if j = nA then μ 0 11 else μ 137 j := by intro j; rw [R 137 (by decide) (by decide)]; simp [upa, m5, hnA, eM 137, m2]
    have u138 : ∀ j, ρ 138 j = if j = nA then -1 else μ 138 j := by intro j; rw [R 138 (by decide) (by decide)]; simp [upa, m5, hnA, eM 138]
    refine ⟨μ 13 15, ξ, ρ, ?_, ?_, ?_⟩
    · rw [x_act (by grind) a1 a2, if_pos hv', x1, Option.bind_some, hXX, y15, show μ 13 15 + 1 - 1 = μ 13 15 by grind]
    · rw [m_act (by rw [m5]; exact a1) (by rw [m5]; exact a2) (by rw [m4]; exact t1), m5, m4, m2, if_pos hv', y1, Option.bind_some, R108 5 (by decide), if_pos rfl, show μ 13 15 + 1 - 1 = μ 13 15 by grind]
    · have v14 : ρ 13 14 = μ 13 14 := by rw [R13, z13]; simp
      have v15 : ρ 13 15 = μ 13 15 + 1 := by rw [R13, z13]; simp
      have v16 : ρ 13 16 = μ 13 16 := by rw [R13, z13]; simp
      have v13 : ρ 13 13 = nI (nA + nM + 1) := by rw [R13, z13]; simp
      have w4 : ρ 108 4 = μ 108 4 := R108 4 (by decide)
      have w5 : ρ 108 5 = μ 13 15 + 1 := R108 5 (by decide)
      have w6 : ρ 108 6 = μ 108 6 := R108 6 (by decide)
      have f14 := sX 14 (by decide) (by decide) (by decide) (by decide) (by decide) (by decide) (by decide) (by decide) (by decide) (by decide) (by decide) (by decide) (by decide) (by decide) (by decide) (by decide) (by decide) (by decide)
      have f22 := sX 22 (by decide) (by decide) (by decide) (by decide) (by decide) (by decide) (by decide) (by decide) (by decide) (by decide) (by decide) (by decide) (by decide) (by decide) (by decide) (by decide) (by decide) (by decide)
      have f23 := sX 23 (by decide) (by decide) (by decide) (by decide) (by decide) (by decide) (by decide) (by decide) (by decide) (by decide) (by decide) (by decide) (by decide) (by decide) (by decide) (by decide) (by decide) (by decide)
      have f24 := sX 24 (by decide) (by decide) (by decide) (by decide) (by decide) (by decide) (by decide) (by decide) (by decide) (by decide) (by decide) (by decide) (by decide) (by decide) (by decide) (by decide) (by decide) (by decide)
      have f25 := sX 25 (by decide) (by decide) (by decide) (by decide) (by decide) (by decide) (by decide) (by decide) (by decide) (by decide) (by decide) (by decide) (by decide) (by decide) (by decide) (by decide) (by decide) (by decide)
      have f113 := sX 113 (by decide) (by decide) (by decide) (by decide) (by decide) (by decide) (by decide) (by decide) (by decide) (by decide) (by decide) (by decide) (by decide) (by decide) (by decide) (by decide) (by decide) (by decide)
      have f139 := sX 139 (by decide) (by decide) (by decide) (by decide) (by decide) (by decide) (by decide) (by decide) (by decide) (by decide) (by decide) (by decide) (by decide) (by decide) (by decide) (by decide) (by decide) (by decide)
      have f140 := sX 140 (by decide) (by decide) (by decide) (by decide) (by decide) (by decide) (by decide) (by decide) (by decide) (by decide) (by decide) (by decide) (by decide) (by decide) (by decide) (by decide) (by decide) (by decide)
      have f141 := sX 141 (by decide) (by decide) (by decide) (by decide) (by decide) (by decide) (by decide) (by decide) (by decide) (by decide) (by decide) (by decide) (by decide) (by decide) (by decide) (by decide) (by decide) (by decide)
      have f142 := sX 142 (by decide) (by decide) (by decide) (by decide) (by decide) (by decide) (by decide) (by decide) (by decide) (by decide) (by decide) (by decide) (by decide) (by decide) (by decide) (by decide) (by decide) (by decide)
      have emR : ∀ x, evMin ρ x = evMin (Xa a b c d e μ) x := by
        intro x
        rw [em]
        simp only [evMin, f24, u18]
      have srt := ins_sorted (μ := μ) (ν := ρ) R26 R143 (by
        intro k hk
        have := c3 k (by omega)
        unfold EvRel at this ⊢
        rw [v15, v16]
        grind) (by
        unfold EvRel
        rw [v15, v16]
        right
        grind) (by
        intro k l hkl hl
        rw [emR, emR, old k (by omega), old l hl]
        exact c4 k l hkl (by omega)) (by
        refine ⟨P.1, ?_, ?_⟩
        · intro k h1 h2
          have : aheadX (Xa a b c d e μ) (10 + μ 13 15) (Xa a b c d e μ 26 k) := P.2.1 k h1 h2
          rw [r26] at this
          simp only [aheadX, emR]
          exact this
        · intro h1
          have : ¬ aheadX (Xa a b c d e μ) (10 + μ 13 15) (Xa a b c d e μ 26 (q - 1)) := P.2.2 h1
          rw [r26] at this
          show ¬ aheadX ρ (10 + μ 13 15) (μ 26 (q - 1))
          simp only [aheadX, emR]
          exact this)
      have v13' : (ρ 13 13).toNatClampNeg = nA + nM + 1 := by rw [v13, nI_clamp (by omega)]
      refine ⟨⟨by rw [v14]; exact t1, by rw [v14]; exact t2, by rw [w4, v14]; exact t3, ?_⟩, ⟨by rw [v15]; grind, by rw [v15]; grind, by rw [w5, v15], ?_⟩, ⟨by rw [v16]; exact b1, by rw [v16]; exact b2, by rw [w6, v16]; exact b3, ?_⟩, ?_, ?_, ?_, ?_⟩
      · rw [v14, f14, f113]
        exact t4
      · intro j hj
        rw [v15, hs] at hj
        rw [u132, u133, u134, u135, u136, u137, u138, u15, u16, u17, u18, u19, u20, u21, v14]
        by_cases hjj : j = nA
        · simp only [if_pos hjj]
          grind
        · simp only [if_neg hjj]
          exact a4 j (by omega)
      · rw [v16, hnM, f22, f23, f24, f25, f139, f140, f141, f142, v14]
        exact b4
      · rw [v13, v15, v16, ← nI_plus, ← nI_plus, eA, ← hnM, nI_nt b1]
        show nI nA + μ 13 16 + 1 = _
        grind
      · rw [R55, v13]
      · rw [v13']
        exact srt.1
      · rw [v13']
        exact srt.2
  · exact ⟨-1, μ, μ, by rw [x_act g2 a1 a2, if_neg hv], by rw [m_act (by rw [a3]; exact a1) (by rw [a3]; exact a2) (by rw [t3]; exact t1), a3, t3, g3, if_neg hv], g'⟩
