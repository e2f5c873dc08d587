/-! E: mistake -/
abbrev Xm (a b c : Int32) (μ : am_Mu) : am_Mu := am_up (am_up (am_up (am_up μ 22 (μ 13 16).toNatClampNeg a) 23 (μ 13 16).toNatClampNeg b) 24 (μ 13 16).toNatClampNeg c) 25 (μ 13 16).toNatClampNeg (μ 0 11)
abbrev Mm (a b c : Int32) (μ : am_Mu) : am_Mu := am_up (am_up (am_up (am_up (am_up μ 139 (μ 108 6).toNatClampNeg a) 140 (μ 108 6).toNatClampNeg b) 141 (μ 108 6).toNatClampNeg c) 142 (μ 108 6).toNatClampNeg (μ 108 2)) 108 6 (μ 108 6 + 1)
abbrev misV (a b c now nT : Int32) : Prop := (0 ≤ c ∧ c ≤ now) ∧ (0 ≤ a ∧ a < nT) ∧ 0 ≤ b ∧ b < 8
theorem x_mistake {a b c : Int32} {μ : am_Mu} (hnow : μ 0 11 < 1440000) (h1 : 0 ≤ μ 13 16) (h2 : μ 13 16 ≤ 10) : fB_mistake a b c μ = if μ 13 16 < 10 ∧ misV a b c (μ 0 11) (μ 13 14) then ((fLedger_place (μ 13 16) (Xm a b c μ)).bind fun q7 => some (q7 13 16 + 1 - 1, am_up q7 13 16 (q7 13 16 + 1))) else some (-1, μ) := by
  unfold fB_mistake fLedger_addMistake
  simp only [l_isTold, Option.bind_some, l_isIn]
  by_cases c1 : 0 ≤ c ∧ c ≤ μ 0 11
  · rw [b2i_t (show 0 ≤ c ∧ c < 1440000 ∧ c ≤ μ 0 11 by grind), if_pos (by decide)]
    by_cases c2 : μ 13 16 < 10
    · rw [if_neg (by grind)]
      by_cases c3 : 0 ≤ a ∧ a < μ 13 14
      · rw [b2i_t c3, if_neg (by decide)]
        by_cases c4 : 0 ≤ b ∧ b < 8
        · rw [b2i_t c4, if_pos (by decide), inb_t (n := 10) h1 (nt_lt (b := 10) h1 c2), cond_true, if_pos ⟨c2, c1, c3, c4⟩]
          cases fLedger_place (μ 13 16) (Xm a b c μ) <;> rfl
        · rw [b2i_f c4, if_neg (by decide), if_neg (fun h => c4 h.2.2.2), Option.bind_some]
      · rw [b2i_f c3, if_pos rfl, if_neg (fun h => c3 h.2.2.1), Option.bind_some]
    · rw [if_pos (by grind), if_neg (fun h => c2 h.1), Option.bind_some]
  · rw [b2i_f (show ¬ (0 ≤ c ∧ c < 1440000 ∧ c ≤ μ 0 11) by grind), if_neg (by decide), if_neg (fun h => c1 h.2.1)]
theorem m_mistake {a b c : Int32} {μ : am_Mu} (h1 : 0 ≤ μ 108 6) (h2 : μ 108 6 ≤ 10) (h3 : 0 ≤ μ 108 4) : fM_mistake a b c μ = if μ 108 6 < 10 ∧ misV a b c (μ 108 2) (μ 108 4) then ((fM_comes (1000 + μ 108 6) (Mm a b c μ)).bind fun q2 => some (q2 108 6 - 1, q2)) else some (-1, μ) := by
  unfold fM_mistake
  simp only [l_lies, Option.bind_some, l_isThing, l_isMark]
  have hT : ∀ x, (0 ≤ x ∧ x ≤ μ 108 4 - 1) ↔ (0 ≤ x ∧ x < μ 108 4) := by intro x; grind
  by_cases c2 : μ 108 6 < 10
  · rw [if_neg (by grind)]
    by_cases c3 : 0 ≤ a ∧ a < μ 108 4
    · rw [b2i_t ((hT a).mpr c3), if_neg (by decide)]
      by_cases c4 : 0 ≤ b ∧ b < 8
      · rw [b2i_t (show 0 ≤ b ∧ b ≤ 7 by grind), if_neg (by decide)]
        by_cases c1 : 0 ≤ c ∧ c ≤ μ 108 2
        · rw [b2i_t c1, if_pos (by decide), inb_t (n := 10) h1 (nt_lt (b := 10) h1 c2), cond_true, if_pos ⟨c2, c1, c3, c4⟩, show (1000 : Int32) + (μ 108 6 + 1) - 1 = 1000 + μ 108 6 by grind]
        · rw [b2i_f c1, if_neg (by decide), if_neg (fun h => c1 h.2.1)]
      · rw [b2i_f (show ¬ (0 ≤ b ∧ b ≤ 7) by grind), if_pos rfl, if_neg (fun h => c4 h.2.2.2)]
    · rw [b2i_f (fun h => c3 ((hT a).mp h)), if_pos rfl, if_neg (fun h => c3 h.2.2.1)]
  · rw [if_pos (by grind), if_neg (fun h => c2 h.1)]
theorem op_mistake (a b c : Int32) (μ : am_Mu) : Op (fB_mistake a b c) (fM_mistake a b c) (fun μ => G0 μ ∧ G4 μ) G4 μ := by
  rintro ⟨⟨g1, g2, g3⟩, g⟩
  have g' := g
  obtain ⟨en, en2, k1, k2⟩ := ev_n g
  obtain ⟨⟨t1, t2, t3, t4⟩, ⟨a1, a2, a3, a4⟩, ⟨b1, b2, b3, b4⟩, c1, c2, c3, c4⟩ := g
  by_cases hv : μ 13 16 < 10 ∧ misV a b c (μ 0 11) (μ 13 14)
  · have hv' := hv
    obtain ⟨v1, ⟨d1, d2⟩, ⟨va1, va2⟩, vb1, vb2⟩ := hv
    generalize hnA : (μ 13 15).toNatClampNeg = nA at *
    generalize hnM : (μ 13 16).toNatClampNeg = nM at *
    have lM : nM < 10 := by rw [← hnM]; exact nt_lt (b := 10) b1 v1
    have eM0 : μ 13 16 = nI nM := by rw [← hnM, nI_nt b1]
    have hs : (μ 13 16 + 1).toNatClampNeg = nM + 1 := by rw [nt_succ b1 (by grind), hnM]
    have em : ∀ x, evMin (Xm a b c μ) x = if x < 10 then (if x.toNatClampNeg = nM then c else μ 24 x.toNatClampNeg) else μ 18 (x - 10).toNatClampNeg := by
      intro x
      simp only [evMin, upa, hnM]
      grind
    have old : ∀ k, k < nA + nM → evMin (Xm a b c μ) (μ 26 k) = evMin μ (μ 26 k) := by
      intro k hk
      rw [em]
      simp only [evMin]
      rcases c3 k (by omega) with ⟨h1, h2, -⟩ | ⟨h1, h2, -⟩
      · have h9 : μ 26 k < 10 := by grind
        have := nt_lt (a := μ 26 k) (b := μ 13 16) h1 h2
        rw [if_pos h9, if_pos h9, if_neg (show ¬ (μ 26 k).toNatClampNeg = nM by omega)]
      · have h9 : ¬ μ 26 k < 10 := by grind
        rw [if_neg h9, if_neg h9]
    have new : evMin (Xm a b c μ) (μ 13 16) = c := by rw [em, if_pos v1, hnM, if_pos rfl]
    obtain ⟨q, ν, P, x1, x2, x3, x4, x5⟩ := x_place (μ := Xm a b c μ) (e := μ 13 16) (n := nA + nM) (by simp only [upa]; simpa using en) (by omega) ⟨⟨by grind, by grind⟩, by rw [new]; exact d1, by rw [new]; grind⟩ (by
      intro k hk
      have h1 : Xm a b c μ 26 k = μ 26 k := by simp [upa]
      obtain ⟨⟨h2, h3⟩, -⟩ := ev_of g' (c3 k (by omega))
      rw [h1]
      exact ⟨h2, by rw [old k hk]; exact h3⟩)
    have r26 : ∀ k, Xm a b c μ 26 k = μ 26 k := by intro k; simp [upa]
    have y16 : ν 13 16 = μ 13 16 := by rw [x3 16 (by decide)]; simp [upa]
    have X : ∀ r, ¬ r = 13 → ¬ r = 22 → ¬ r = 23 → ¬ r = 24 → ¬ r = 25 → ¬ r = 26 → am_up ν 13 16 (ν 13 16 + 1) r = μ r := by
      intro r _ _ _ _ _ _
      funext j
      simp only [upa, x2 r (by assumption) (by assumption)]
      grind
    generalize hXX : am_up ν 13 16 (ν 13 16 + 1) = ξ at X
    have z13 : ∀ j, ξ 13 j = if j = 13 then nI (nA + nM + 1) else if j = 16 then μ 13 16 + 1 else μ 13 j := by
      intro j
      rw [← hXX]
      simp only [upa, y16]
      by_cases h13 : j = 13
      · subst h13; simp [x4]
      · rw [x3 j h13]; simp [upa, h13]
    have zrow : ∀ r, ¬ r = 13 → ¬ r = 26 → ∀ j, ξ r j = Xm a b c μ r j := by
      intro r h1 h2 j
      rw [← hXX]
      simp only [upa, x2 r h2 h1]
      grind
    have z26 : ∀ j, ξ 26 j = insF (μ 26) (μ 13 16) (nA + nM) q j := by
      intro j
      have h : (Xm a b c μ) 26 = μ 26 := by funext k; exact r26 k
      rw [← hXX, ← h, ← x5 j]
      simp [upa]
    have m6 : ξ 108 6 = μ 13 16 := by rw [X 108] <;> first | exact b3 | decide
    have m4 : ξ 108 4 = μ 13 14 := by rw [X 108] <;> first | exact t3 | decide
    have m2 : ξ 108 2 = μ 0 11 := by rw [X 108] <;> first | exact g3 | decide
    have m55 : ξ 108 55 = nI (nA + nM) := by rw [X 108] <;> first | exact c2.trans en | decide
    have w143 : ∀ j, Mm a b c ξ 143 j = μ 143 j := by
      intro j
      simp only [upa, X 143 (by decide) (by decide) (by decide) (by decide) (by decide) (by decide)]
      simp
    have e141 : ξ 141 = μ 141 := X 141 (by decide) (by decide) (by decide) (by decide) (by decide) (by decide)
    have e135 : ξ 135 = μ 135 := X 135 (by decide) (by decide) (by decide) (by decide) (by decide) (by decide)
    have emM : ∀ y, evM (Mm a b c ξ) y = if 1000 ≤ y then (if (y - 1000).toNatClampNeg = nM then c else μ 141 (y - 1000).toNatClampNeg) else μ 135 y.toNatClampNeg := by
      intro y
      simp only [evM, upa, m6, hnM, e141, e135]
      grind
    have emX : ∀ y, evMin (Mm a b c ξ) y = evMin (Xm a b c μ) y := by
      intro y
      have h24 := zrow 24 (by decide) (by decide)
      have h18 := zrow 18 (by decide) (by decide)
      simp only [evMin]
      have i1 : ∀ j, Mm a b c ξ 24 j = ξ 24 j := by intro j; simp [upa]
      have i2 : ∀ j, Mm a b c ξ 18 j = ξ 18 j := by intro j; simp [upa]
      rw [i1, i2, h24, h18]
    have c1000 : (1000 : Int32) ≤ 1000 + μ 13 16 := by grind
    have i1000 : ((1000 : Int32) + μ 13 16 - 1000).toNatClampNeg = nM := by rw [show (1000 : Int32) + μ 13 16 - 1000 = μ 13 16 by grind, hnM]
    have rf0 : rfOK (1000 + μ 13 16) := Or.inr ⟨c1000, by grind⟩
    obtain ⟨q2, ρ, P2, y1, y2, y3, y4, y5⟩ := m_comes (μ := Mm a b c ξ) (e := 1000 + μ 13 16) (n := nA + nM) (by simp only [upa]; simpa using m55) (by omega) rf0 (by
      intro k hk
      rw [w143]
      exact (ev_of g' (c3 k (by omega))).2.2.1)
    have hqq : q = q2 := by
      refine P.uniq P2 ?_
      intro k hk
      rw [w143, r26]
      obtain ⟨h1, h2, h3, h4⟩ := ev_of g' (c3 k (by omega))
      have h5 : evM (Mm a b c ξ) (μ 143 k) = evMin (Mm a b c ξ) (μ 26 k) := by
        rw [emX, old k hk, emM, ← h4]
        simp only [evM]
        rcases c3 k (by omega) with ⟨q1, q2, q3⟩ | ⟨q1, q2, q3⟩
        · have h8 : (1000 : Int32) ≤ μ 143 k := by grind
          have hlt := nt_lt (a := μ 26 k) (b := μ 13 16) q1 q2
          have h7 : μ 143 k - 1000 = μ 26 k := by grind
          rw [if_pos h8, if_pos h8, h7, if_neg (show ¬ (μ 26 k).toNatClampNeg = nM by omega)]
        · have h8 : ¬ (1000 : Int32) ≤ μ 143 k := by grind
          rw [if_neg h8, if_neg h8]
      have h6 : evM (Mm a b c ξ) (1000 + μ 13 16) = evMin (Mm a b c ξ) (μ 13 16) := by
        rw [emX, new, emM, if_pos c1000, if_pos i1000]
      have h7 := ahead_rel (μ := Mm a b c ξ) (a := μ 13 16) (f := 1000 + μ 13 16) (Or.inl ⟨b1, v1, rfl⟩) h2 h6 h5
      rw [h7]
      simp only [aheadX, emX]
    have R13 : ∀ j, ρ 13 j = ξ 13 j := by
      intro j
      rw [y2 13 (by decide) (by decide)]
      simp [upa]
    have R : ∀ r, ¬ r = 143 → ¬ r = 108 → ρ r = Mm a b c ξ r := y2
    have R55 : ρ 108 55 = nI (nA + nM + 1) := y4
    have R108 : ∀ j, ¬ j = 55 → ρ 108 j = if j = 6 then μ 13 16 + 1 else μ 108 j := by
      intro j hj
      have e108 : ξ 108 = μ 108 := X 108 (by decide) (by decide) (by decide) (by decide) (by decide) (by decide)
      rw [y3 j hj]
      simp [upa, e108, b3]
    have R143 : ∀ j, ρ 143 j = insF (μ 143) (1000 + μ 13 16) (nA + nM) q j := by
      intro j
      have h : Mm a b c ξ 143 = μ 143 := by funext k; exact w143 k
      rw [y5 j, h, hqq]
    have R26 : ∀ j, ρ 26 j = insF (μ 26) (μ 13 16) (nA + nM) q j := by
      intro j
      rw [R 26 (by decide) (by decide), ← z26 j]
      simp [upa]
    have rest : ∀ r, ¬ r = 143 → ¬ r = 108 → ¬ r = 139 → ¬ r = 140 → ¬ r = 141 → ¬ r = 142 → ∀ j, ρ r j = ξ r j := by
      intro r h1 h2 _ _ _ _ j
      rw [R r h1 h2]
      simp only [upa]
      grind
    have rX : ∀ r, ¬ r = 13 → ¬ r = 26 → ¬ r = 143 → ¬ r = 108 → ¬ r = 139 → ¬ r = 140 → ¬ r = 141 → ¬ r = 142 → ∀ j, ρ r j = Xm a b c μ r j := by
      intro r h1 h2 h3 h4 h5 h6 h7 h8 j
      rw [rest r h3 h4 h5 h6 h7 h8 j, zrow r h1 h2 j]
    have u22 : ∀ j, ρ 22 j = if j = nM then a else μ 22 j := by intro j; rw [rX 22] <;> first | decide | simp [upa, hnM]
    have u23 : ∀ j, ρ 23 j = if j = nM then b else μ 23 j := by intro j; rw [rX 23] <;> first | decide | simp [upa, hnM]
    have u24 : ∀ j, ρ 24 j = if j = nM then c else μ 24 j := by intro j; rw [rX 24] <;> first | decide | simp [upa, hnM]
    have u25 : ∀ j, ρ 25 j = if j = nM then μ 0 11 else μ 25 j := by intro j; rw [rX 25] <;> first | decide | simp [upa, hnM]
    have sX : ∀ r, ¬ r = 13 → ¬ r = 26 → ¬ r = 143 → ¬ r = 108 → ¬ r = 139 → ¬ r = 140 → ¬ r = 141 → ¬ r = 142 → ¬ r = 22 → ¬ r = 23 → ¬ r = 24 → ¬ r = 25 → ρ r = μ r := by
      intro r h1 h2 h3 h4 h5 h6 h7 h8 _ _ _ _
      funext j
      rw [rX r h1 h2 h3 h4 h5 h6 h7 h8 j]
      simp only [upa]
      grind
    have eM : ∀ r, ¬ r = 13 → ¬ r = 26 → ¬ r = 22 → ¬ r = 23 → ¬ r = 24 → ¬ r = 25 → ∀ j, ξ r j = μ r j := by
      intro r _ _ _ _ _ _ j
      rw [X r (by assumption) (by assumption) (by assumption) (by assumption) (by assumption) (by assumption)]
    have u139 : ∀ j, ρ 139 j = if j = nM then a else μ 139 j := by intro j; rw [R 139 (by decide) (by decide)]; simp [upa, m6, hnM, eM 139]
    have u140 : ∀ j, ρ 140 j = if j = nM then b else μ 140 j := by intro j; rw [R 140 (by decide) (by decide)]; simp [upa, m6, hnM, eM 140]
    have u141 : ∀ j, ρ 141 j = if j = nM then c else μ 141 j := by intro j; rw [R 141 (by decide) (by decide)]; simp [upa, m6, hnM, eM 141]
    have u142 : ∀ j, ρ 142 j = if j = nM then μ 0 11 else μ 142 j := by intro j; rw [R 142 (by decide) (by decide)]; simp [upa, m6, hnM, eM 142, m2]
    refine ⟨μ 13 16, ξ, ρ, ?_, ?_, ?_⟩
    · rw [x_mistake (by grind) b1 b2, if_pos hv', x1, Option.bind_some, hXX, y16, show μ 13 16 + 1 - 1 = μ 13 16 by grind]
    · rw [m_mistake (by rw [m6]; exact b1) (by rw [m6]; exact b2) (by rw [m4]; exact t1), m6, m4, m2, if_pos hv', y1, Option.bind_some, R108 6 (by decide), if_pos rfl, show μ 13 16 + 1 - 1 = μ 13 16 by grind]
    · have v14 : ρ 13 14 = μ 13 14 := by rw [R13, z13]; simp
      have v15 : ρ 13 15 = μ 13 15 := by rw [R13, z13]; simp
      have v16 : ρ 13 16 = μ 13 16 + 1 := by rw [R13, z13]; simp
      have v13 : ρ 13 13 = nI (nA + nM + 1) := by rw [R13, z13]; simp
      have w4 : ρ 108 4 = μ 108 4 := R108 4 (by decide)
      have w5 : ρ 108 5 = μ 108 5 := R108 5 (by decide)
      have w6 : ρ 108 6 = μ 13 16 + 1 := R108 6 (by decide)
      have f14 := sX 14 (by decide) (by decide) (by decide) (by decide) (by decide) (by decide) (by decide) (by decide) (by decide) (by decide) (by decide) (by decide)
      have f15 := sX 15 (by decide) (by decide) (by decide) (by decide) (by decide) (by decide) (by decide) (by decide) (by decide) (by decide) (by decide) (by decide)
      have f16 := sX 16 (by decide) (by decide) (by decide) (by decide) (by decide) (by decide) (by decide) (by decide) (by decide) (by decide) (by decide) (by decide)
      have f17 := sX 17 (by decide) (by decide) (by decide) (by decide) (by decide) (by decide) (by decide) (by decide) (by decide) (by decide) (by decide) (by decide)
      have f18 := sX 18 (by decide) (by decide) (by decide) (by decide) (by decide) (by decide) (by decide) (by decide) (by decide) (by decide) (by decide) (by decide)
      have f19 := sX 19 (by decide) (by decide) (by decide) (by decide) (by decide) (by decide) (by decide) (by decide) (by decide) (by decide) (by decide) (by decide)
      have f20 := sX 20 (by decide) (by decide) (by decide) (by decide) (by decide) (by decide) (by decide) (by decide) (by decide) (by decide) (by decide) (by decide)
      have f21 := sX 21 (by decide) (by decide) (by decide) (by decide) (by decide) (by decide) (by decide) (by decide) (by decide) (by decide) (by decide) (by decide)
      have f113 := sX 113 (by decide) (by decide) (by decide) (by decide) (by decide) (by decide) (by decide) (by decide) (by decide) (by decide) (by decide) (by decide)
      have f132 := sX 132 (by decide) (by decide) (by decide) (by decide) (by decide) (by decide) (by decide) (by decide) (by decide) (by decide) (by decide) (by decide)
      have f133 := sX 133 (by decide) (by decide) (by decide) (by decide) (by decide) (by decide) (by decide) (by decide) (by decide) (by decide) (by decide) (by decide)
      have f134 := sX 134 (by decide) (by decide) (by decide) (by decide) (by decide) (by decide) (by decide) (by decide) (by decide) (by decide) (by decide) (by decide)
      have f135 := sX 135 (by decide) (by decide) (by decide) (by decide) (by decide) (by decide) (by decide) (by decide) (by decide) (by decide) (by decide) (by decide)
      have f136 := sX 136 (by decide) (by decide) (by decide) (by decide) (by decide) (by decide) (by decide) (by decide) (by decide) (by decide) (by decide) (by decide)
      have f137 := sX 137 (by decide) (by decide) (by decide) (by decide) (by decide) (by decide) (by decide) (by decide) (by decide) (by decide) (by decide) (by decide)
      have f138 := sX 138 (by decide) (by decide) (by decide) (by decide) (by decide) (by decide) (by decide) (by decide) (by decide) (by decide) (by decide) (by decide)
      have emR : ∀ x, evMin ρ x = evMin (Xm a b c μ) x := by
        intro x
        rw [em]
        simp only [evMin, f18, u24]
      have srt := ins_sorted (μ := μ) (ν := ρ) R26 R143 (by
        intro k hk
        have := c3 k (by omega)
        unfold EvRel at this ⊢
        rw [v15, v16]
        grind) (by
        unfold EvRel
        rw [v15, v16]
        left
        grind) (by
        intro k l hkl hl
        rw [emR, emR, old k (by omega), old l hl]
        exact c4 k l hkl (by omega)) (by
        refine ⟨P.1, ?_, ?_⟩
        · intro k h1 h2
          have : aheadX (Xm a b c μ) (μ 13 16) (Xm a b c μ 26 k) := P.2.1 k h1 h2
          rw [r26] at this
          simp only [aheadX, emR]
          exact this
        · intro h1
          have : ¬ aheadX (Xm a b c μ) (μ 13 16) (Xm a b c μ 26 (q - 1)) := P.2.2 h1
          rw [r26] at this
          show ¬ aheadX ρ (μ 13 16) (μ 26 (q - 1))
          simp only [aheadX, emR]
          exact this)
      have v13' : (ρ 13 13).toNatClampNeg = nA + nM + 1 := by rw [v13, nI_clamp (by omega)]
      refine ⟨⟨by rw [v14]; exact t1, by rw [v14]; exact t2, by rw [w4, v14]; exact t3, ?_⟩, ⟨by rw [v15]; exact a1, by rw [v15]; exact a2, by rw [w5, v15]; exact a3, ?_⟩, ⟨by rw [v16]; grind, by rw [v16]; grind, by rw [w6, v16], ?_⟩, ?_, ?_, ?_, ?_⟩
      · rw [v14, f14, f113]
        exact t4
      · rw [v15, hnA, f132, f133, f134, f135, f136, f137, f138, f15, f16, f17, f18, f19, f20, f21, v14]
        exact a4
      · intro j hj
        rw [v16, hs] at hj
        rw [u22, u23, u24, u25, u139, u140, u141, u142, v14]
        by_cases hjj : j = nM
        · simp only [if_pos hjj]
          grind
        · simp only [if_neg hjj]
          exact b4 j (by omega)
      · rw [v13, v15, v16, ← nI_plus, ← nI_plus, eM0, ← hnA, nI_nt a1]
        show μ 13 15 + nI nM + 1 = _
        grind
      · rw [R55, v13]
      · rw [v13']
        exact srt.1
      · rw [v13']
        exact srt.2
  · exact ⟨-1, μ, μ, by rw [x_mistake g2 b1 b2, if_neg hv], by rw [m_mistake (by rw [b3]; exact b1) (by rw [b3]; exact b2) (by rw [t3]; exact t1), b3, t3, g3, if_neg hv], g'⟩
