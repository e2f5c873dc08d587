/-! E: act, mistake -/
theorem l_canBe (a b c : Int32) (μ : am_Mu) : fLedger_canBeSecond a b c μ = some (b2i (0 ≤ a ∧ a ≤ 3 ∧ ((a < 2 ∧ 0 ≤ c ∧ c < μ 13 14 ∧ ¬ b = c) ∨ (2 ≤ a ∧ c = -1))), μ) := by
  unfold fLedger_canBeSecond fLedger_canBeSecond_52
  simp only [l_isIn, Option.bind_some, b2i_z]
  unfold b2i
  grind
abbrev Xa (a b c d e : Int32) (μ : am_Mu) : am_Mu := am_up (am_up (am_up (am_up (am_up (am_up (am_up μ 15 (μ 13 15).toNatClampNeg a) 16 (μ 13 15).toNatClampNeg b) 17 (μ 13 15).toNatClampNeg c) 18 (μ 13 15).toNatClampNeg d) 19 (μ 13 15).toNatClampNeg (e &&& 1)) 20 (μ 13 15).toNatClampNeg (μ 0 11)) 21 (μ 13 15).toNatClampNeg (-1)
abbrev Ma (a b c d e : Int32) (μ : am_Mu) : am_Mu := am_up (am_up (am_up (am_up (am_up (am_up (am_up (am_up μ 132 (μ 108 5).toNatClampNeg a) 133 (μ 108 5).toNatClampNeg b) 134 (μ 108 5).toNatClampNeg c) 135 (μ 108 5).toNatClampNeg d) 136 (μ 108 5).toNatClampNeg (e &&& 1)) 137 (μ 108 5).toNatClampNeg (μ 108 2)) 138 (μ 108 5).toNatClampNeg (-1)) 108 5 (μ 108 5 + 1)
abbrev actV (a b c d now nT : Int32) : Prop := (0 ≤ d ∧ d ≤ now) ∧ (0 ≤ b ∧ b < nT) ∧ 0 ≤ a ∧ a ≤ 3 ∧ ((a < 2 ∧ 0 ≤ c ∧ c < nT ∧ ¬ b = c) ∨ (2 ≤ a ∧ c = -1))
theorem x_act {a b c d e : Int32} {μ : am_Mu} (hnow : μ 0 11 < 1440000) (h1 : 0 ≤ μ 13 15) (h2 : μ 13 15 ≤ 200) : fB_act a b c d e μ = if μ 13 15 < 200 ∧ actV a b c d (μ 0 11) (μ 13 14) then ((fLedger_place (10 + μ 13 15) (Xa a b c d e μ)).bind fun q7 => some (q7 13 15 + 1 - 1, am_up q7 13 15 (q7 13 15 + 1))) else some (-1, μ) := by
  unfold fB_act fLedger_addAct
  simp only [l_isTold, Option.bind_some, l_isIn, l_canBe]
  by_cases c1 : 0 ≤ d ∧ d ≤ μ 0 11
  · rw [b2i_t (show 0 ≤ d ∧ d < 1440000 ∧ d ≤ μ 0 11 by grind), if_pos (by decide)]
    by_cases c2 : μ 13 15 < 200
    · rw [if_neg (by grind)]
      by_cases c3 : 0 ≤ b ∧ b < μ 13 14
      · rw [b2i_t c3, if_neg (by decide)]
        by_cases c4 : 0 ≤ a ∧ a ≤ 3 ∧ ((a < 2 ∧ 0 ≤ c ∧ c < μ 13 14 ∧ ¬ b = c) ∨ (2 ≤ a ∧ c = -1))
        · rw [b2i_t c4, if_pos (by decide), inb_t (n := 200) h1 (nt_lt (b := 200) h1 c2), cond_true, if_pos ⟨c2, c1, c3, c4⟩]
          cases fLedger_place (10 + μ 13 15) (Xa a b c d e μ) <;> rfl
        · rw [b2i_f c4, if_neg (by decide), if_neg (fun h => c4 h.2.2.2), Option.bind_some]
      · rw [b2i_f c3, if_pos rfl, if_neg (fun h => c3 h.2.2.1), Option.bind_some]
    · rw [if_pos (by grind), if_neg (fun h => c2 h.1), Option.bind_some]
  · rw [b2i_f (show ¬ (0 ≤ d ∧ d < 1440000 ∧ d ≤ μ 0 11) by grind), if_neg (by decide), if_neg (fun h => c1 h.2.1)]
theorem m_act {a b c d e : Int32} {μ : am_Mu} (h1 : 0 ≤ μ 108 5) (h2 : μ 108 5 ≤ 200) (h3 : 0 ≤ μ 108 4) : fM_act a b c d e μ = if μ 108 5 < 200 ∧ actV a b c d (μ 108 2) (μ 108 4) then ((fM_comes (μ 108 5) (Ma a b c d e μ)).bind fun q2 => some (q2 108 5 - 1, q2)) else some (-1, μ) := by
  unfold fM_act
  simp only [l_lies, Option.bind_some, l_isThing]
  have hT : ∀ x, (0 ≤ x ∧ x ≤ μ 108 4 - 1) ↔ (0 ≤ x ∧ x < μ 108 4) := by intro x; grind
  have e70 : μ 108 5 < 200 → fM_act_70 a b c d e μ = ((fM_comes (μ 108 5) (Ma a b c d e μ)).bind fun q2 => some (q2 108 5 - 1, q2)) := by
    intro h
    unfold fM_act_70
    rw [inb_t (n := 200) h1 (nt_lt (b := 200) h1 h), cond_true, show μ 108 5 + 1 - 1 = μ 108 5 by grind]
  by_cases c2 : μ 108 5 < 200
  · rw [if_neg (by grind)]
    by_cases c5 : 0 ≤ a ∧ a ≤ 3
    · rw [b2i_t c5, if_neg (by decide)]
      by_cases c3 : 0 ≤ b ∧ b < μ 108 4
      · rw [b2i_t ((hT b).mpr c3), if_neg (by decide)]
        by_cases c1 : 0 ≤ d ∧ d ≤ μ 108 2
        · rw [b2i_t c1, if_pos (by decide)]
          by_cases c6 : 2 ≤ a
          · rw [if_pos c6]
            by_cases c7 : c = -1
            · rw [if_pos c7, e70 c2, if_pos ⟨c2, c1, c3, c5.1, c5.2, Or.inr ⟨c6, c7⟩⟩]
            · rw [if_neg c7, if_neg (by grind)]
          · rw [if_neg c6]
            by_cases c8 : 0 ≤ c ∧ c < μ 108 4
            · rw [b2i_t ((hT c).mpr c8), if_neg (by decide)]
              by_cases c9 : b = c
              · rw [if_neg (by simpa using c9), if_neg (by grind)]
              · rw [if_pos c9, e70 c2, if_pos ⟨c2, c1, c3, c5.1, c5.2, Or.inl ⟨by grind, c8.1, c8.2, c9⟩⟩]
            · rw [b2i_f (fun h => c8 ((hT c).mp h)), if_pos rfl, if_neg (by grind)]
        · rw [b2i_f c1, if_neg (by decide), if_neg (fun h => c1 h.2.1)]
      · rw [b2i_f (fun h => c3 ((hT b).mp h)), if_pos rfl, if_neg (fun h => c3 h.2.2.1)]
    · rw [b2i_f c5, if_pos rfl, if_neg (fun h => c5 ⟨h.2.2.2.1, h.2.2.2.2.1⟩)]
  · rw [if_pos (by grind), if_neg (fun h => c2 h.1)]
/-- what the events are, out of the invariant -/
theorem ev_of {μ : am_Mu} (g : G4 μ) {x y : Int32} (h : EvRel μ x y) : evGd μ x ∧ ((0 ≤ x ∧ x < 10 ∧ y = 1000 + x) ∨ (10 ≤ x ∧ x < 210 ∧ y = x - 10)) ∧ rfOK y ∧ evM μ y = evMin μ x := by
  obtain ⟨-, ⟨a1, a2, -, a4⟩, ⟨b1, b2, -, b4⟩, -⟩ := g
  rcases h with ⟨h1, h2, rfl⟩ | ⟨h1, h2, rfl⟩
  · have h10 : x < 10 := by grind
    obtain ⟨-, -, ⟨e1, e2, e3⟩, -⟩ := b4 _ (nt_lt h1 h2)
    have c2 : (1000 : Int32) ≤ 1000 + x := by grind
    have c3 : 1000 + x - 1000 = x := by grind
    have c4 : (1000 : Int32) + x < 1010 := by grind
    refine ⟨⟨⟨h1, by grind⟩, ?_, ?_⟩, Or.inl ⟨h1, h10, rfl⟩, Or.inr ⟨c2, c4⟩, ?_⟩
    · simp only [evMin, if_pos h10]
      exact e2
    · simp only [evMin, if_pos h10]
      exact e3
    · simp only [evMin, evM, if_pos h10, if_pos c2, c3]
      exact e1
  · have h10 : ¬ x < 10 := by grind
    have h0 : 0 ≤ x - 10 := by grind
    have h3 : x - 10 < μ 13 15 := by grind
    obtain ⟨-, -, -, ⟨e1, e2, e3⟩, -⟩ := a4 _ (nt_lt h0 h3)
    have c2 : ¬ (1000 : Int32) ≤ x - 10 := by grind
    refine ⟨⟨⟨by grind, by grind⟩, ?_, ?_⟩, Or.inr ⟨h1, by grind, rfl⟩, Or.inl ⟨h0, by grind⟩, ?_⟩
    · simp only [evMin, if_neg h10]
      exact e2
    · simp only [evMin, if_neg h10]
      exact e3
    · simp only [evMin, evM, if_neg h10, if_neg c2]
      exact e1
theorem ev_n {μ : am_Mu} (g : G4 μ) : μ 13 13 = nI ((μ 13 15).toNatClampNeg + (μ 13 16).toNatClampNeg) ∧ (μ 13 13).toNatClampNeg = (μ 13 15).toNatClampNeg + (μ 13 16).toNatClampNeg ∧ (μ 13 15).toNatClampNeg ≤ 200 ∧ (μ 13 16).toNatClampNeg ≤ 10 := by
  obtain ⟨-, ⟨a1, a2, -, -⟩, ⟨b1, b2, -, -⟩, c1, -⟩ := g
  have k1 : (μ 13 15).toNatClampNeg ≤ 200 := nt_le (b := 200) a1 a2
  have k2 : (μ 13 16).toNatClampNeg ≤ 10 := nt_le (b := 10) b1 b2
  have e : μ 13 13 = nI ((μ 13 15).toNatClampNeg + (μ 13 16).toNatClampNeg) := by rw [← nI_plus, nI_nt a1, nI_nt b1]; exact c1
  exact ⟨e, by rw [e, nI_clamp (by omega)], k1, k2⟩
