/-! E: how many cleansings mend it -/
theorem op_mend (a b c : Int32) (μ : am_Mu) : Op (fB_mend a b c) (fM_mend a b c) (fun μ => G0 μ ∧ G1 μ ∧ G3 μ ∧ G4 μ) (fun _ => True) μ := by
  rintro ⟨g0, g1, g3, g4⟩
  have t20 : nTh μ ≤ 20 := nt_le (b := 20) g4.1.1 g4.1.2.1
  have m10 : (μ 13 16).toNatClampNeg ≤ 10 := nt_le (b := 10) g4.2.2.1.1 g4.2.2.1.2.1
  have h6 := g4.2.2.1.2.2.1
  have h4 := g4.1.2.2.1
  have eM : ∀ X : am_Mu, X 108 6 = μ 13 16 → X 108 4 = μ 13 14 → fM_mend a b c X = if (0 ≤ a ∧ a < μ 13 16) ∧ (0 ≤ b ∧ b < 2) ∧ 0 ≤ c ∧ c < μ 13 14 then ((fM_goes b 0 (X 108 2) (X 108 2) (-1) X).bind fun q7 => ((fM_goes b 1 (q7 108 2) (q7 108 2) ((1000 : Int32) + a) q7).bind fun q8 => fM_mend_62 am_F b c 0 q8)) else some (-1, X) := by
    intro X x6 x4
    rw [← m_can g4 x6 x4 a b c (Z := fun X => ((fM_goes b 0 (X 108 2) (X 108 2) (-1) X).bind fun q7 => ((fM_goes b 1 (q7 108 2) (q7 108 2) ((1000 : Int32) + a) q7).bind fun q8 => fM_mend_62 am_F b c 0 q8)))]
    unfold fM_mend
    rw [l_isMistake, Option.bind_some, Option.bind_some]
    dsimp only
    rw [l_isSchool, Option.bind_some, Option.bind_some]
    dsimp only
    rw [l_isThing, Option.bind_some, Option.bind_some]
    dsimp only
    by_cases h3 : 0 ≤ c ∧ c ≤ X 108 4 - 1
    · rw [b2i_t h3, if_pos (show ¬ (1 : Int32) = 0 by decide), if_neg (show ¬ (1 : Int32) = 0 by decide)]
    · rw [b2i_f h3, if_neg (show ¬ ¬ (0 : Int32) = 0 by decide), if_pos (show (0 : Int32) = 0 from rfl)]
  by_cases hv : (0 ≤ a ∧ a < μ 13 16) ∧ (0 ≤ b ∧ b < 2) ∧ 0 ≤ c ∧ c < μ 13 14
  · obtain ⟨i, rfl, hi⟩ : ∃ i, a = nI i ∧ i < (μ 13 16).toNatClampNeg := ⟨a.toNatClampNeg, (nI_nt hv.1.1).symm, nt_lt hv.1.1 hv.1.2⟩
    obtain ⟨s, rfl, hs⟩ : ∃ s, b = nI s ∧ s < 2 := ⟨b.toNatClampNeg, (nI_nt hv.2.1.1).symm, nt_lt (b := 2) hv.2.1.1 hv.2.1.2⟩
    obtain ⟨th, rfl, hth⟩ : ∃ th, c = nI th ∧ th < nTh μ := ⟨c.toNatClampNeg, (nI_nt hv.2.2.1).symm, nt_lt hv.2.2.1 hv.2.2.2⟩
    obtain ⟨P, hP, hPm⟩ := play_all2 g1 g3 g4 hs
    obtain ⟨l, rs, l1, l2, l3, l4, l5⟩ := law_both g1 g3 hs g0.1 g0.2.1
    have hK : 8 * nTh μ ≤ 160 := by omega
    have m58 : isM 58 := by unfold isM; omega
    have hLl := LPl_is l1
    -- the cleansings, side by side
    have both : ∀ q n (X : am_Mu) (A B : Wd) f, n + q = 6 → q < f → SB X μ → XW (8 * nTh μ) 58 X A → XW (8 * nTh μ) 62 X B → WG (8 * nTh μ) A → WG (8 * nTh μ) B → ∃ r X', fTrace_cleansings_3 f (nI s) (nI th) (μ 0 11) (nI n) X = some (r, X') ∧ SB X' μ ∧ ∀ Y, SB Y μ → MW (8 * nTh μ) 0 Y A → MW (8 * nTh μ) 1 Y B → ∃ Y', fM_mend_62 f (nI s) (nI th) (nI n) Y = some (r, Y') := by
      intro q
      induction q with
      | zero =>
        intro n X A B f hn hf hX xA xB gA gB
        obtain ⟨f, rfl⟩ : ∃ k, f = k + 1 := ⟨f - 1, by omega⟩
        have : n = 6 := by omega
        subst this
        exact ⟨-1, X, by rw [fTrace_cleansings_3, if_pos (by decide)], hX, fun Y _ _ _ => ⟨Y, by rw [fM_mend_62, if_pos (by decide)]⟩⟩
      | succ q ih =>
        intro n X A B f hn hf hX xA xB gA gB
        obtain ⟨f, rfl⟩ : ∃ k, f = k + 1 := ⟨f - 1, by omega⟩
        have c1 : ¬ (5 : Int32) < nI n := by
          show ¬ nI 5 < _
          rw [nI_lt_iff (by omega) (by omega)]
          omega
        have c2 : ¬ (6 : Int32) ≤ nI n := by
          show ¬ nI 6 ≤ _
          rw [nI_le_iff (by omega) (by omega)]
          omega
        rw [fTrace_cleansings_3, if_neg c1, x_oth hK (t := th) (by omega) xA xB gA gB, Option.bind_some]
        dsimp only
        by_cases ho : odv A B 8 (8 * th) 0 = 0
        · rw [if_neg (by simpa using ho)]
          refine ⟨nI n, X, rfl, hX, fun Y hY mA mB => ⟨Y, ?_⟩⟩
          rw [fM_mend_62, if_neg c2, m_oth hK (t := th) (by omega) mA mB, Option.bind_some]
          dsimp only
          rw [if_neg (by simpa using ho)]
        · rw [if_pos ho]
          have hb : ∀ t : Nat, (none : Option Nat) = some t → 8 * t + 8 ≤ 8 * nTh μ ∧ ¬ th = t := fun t h => by cases h
          obtain ⟨X1, j1, j2, j3⟩ := x_perform (K := 8 * nTh μ) (M := 58) m58 hLl.1 hK (a := th) (b := none) (by omega) hb (m := μ 0 11) (kd := 2) (sure := 1) g0.1 g0.2.1 l4 (hX.lx l1 l2) xA gA
          have j1 : fJudge_perform 58 (LPl l) 2 (nI th) (-1) (μ 0 11) 1 X = some X1 := j1
          have hcl : fJudge_cleanse 58 (nI s) (nI th) (μ 0 11) X = some X1 := by
            unfold fJudge_cleanse
            rw [(l5 X hX).1, Option.bind_some]
            dsimp only
            rw [hLl.2, cond_true, j1, Option.bind_some]
          rw [hcl, Option.bind_some, show nI n + 1 = nI (n + 1) from nI_plus _ 1]
          obtain ⟨r, X', i1, i2, i3⟩ := ih (n + 1) X1 _ B f (by omega) (by omega) (hX.ofM m58 j3) j2 (xB.cong (j3 _ (by omega) (by omega) (by omega) (by omega) (by omega) (by omega) (by omega)) (j3 _ (by omega) (by omega) (by omega) (by omega) (by omega) (by omega) (by omega)) (j3 _ (by omega) (by omega) (by omega) (by omega) (by omega) (by omega) (by omega))) (acS_g g0.1 g0.2.1 (by omega) (fun t h => (hb t h).1) gA) gB
          refine ⟨r, X', i1, i2, fun Y hY mA mB => ?_⟩
          obtain ⟨Y1, k1, k2, k3⟩ := m_wacts (K := 8 * nTh μ) (w := 0) (l := l) (s := s) (by omega) l1 hK (a := th) (b := none) (by omega) hb (m := μ 0 11) (kd := 2) (sure := 1) g0.1 g0.2.1 l4 (μ := μ) (Y := Y) hY l3 (fun X hX => (l5 X hX).2) mA gA
          have k1 : fM_acts (nI s) 0 2 (nI th) (-1) (μ 0 11) 1 Y = some Y1 := k1
          have n1 : Y 108 2 = μ 0 11 := by rw [hY 108 (by omega), g0.2.2]
          obtain ⟨Y', e1⟩ := i3 Y1 (hY.ofN k3) k2 (mB.other (by omega) (by omega) k3)
          refine ⟨Y', ?_⟩
          rw [fM_mend_62, if_neg c2, m_oth hK (t := th) (by omega) mA mB, Option.bind_some]
          dsimp only
          rw [if_pos ho, n1, k1, Option.bind_some, show nI n + 1 = nI (n + 1) from nI_plus _ 1, e1]
    obtain ⟨X, x1, x2, x3, x4, -⟩ := x_follow g1 g3 g4 hP hPm (show i < 10 by omega) (μ 0 11) (μ 0 11)
    have gA := runW_g hP (C := cnd μ (μ 0 11) (μ 0 11)) (wd0_g μ (8 * nTh μ)) (nEv μ) (Nat.le_refl _)
    have gB := runW_g hP (C := cndW μ (μ 0 11) (μ 0 11) (nI (1000 + i))) (wd0_g μ (8 * nTh μ)) (nEv μ) (Nat.le_refl _)
    obtain ⟨r, X', p1, p2, p3⟩ := both 6 0 X _ _ am_F (by omega) (by unfold am_F; omega) x2 x3 x4 gA gB
    have p1 : fTrace_cleansings_3 am_F (nI s) (nI th) (μ 0 11) 0 X = some (r, X') := p1
    obtain ⟨Y1, y1, y2, y3⟩ := m_goesW g4 hP (w := 0) (by omega) (v := μ 0 11) (t := μ 0 11) (wo := -1) (Or.inl (by decide)) p2
    rw [cndW_all g4 (by decide) _ (Nat.le_refl _)] at y2
    have hY1 : SB Y1 μ := p2.ofN y3
    obtain ⟨Y2, y4, y5, y6⟩ := m_goesW g4 hP (w := 1) (by omega) (v := μ 0 11) (t := μ 0 11) (wo := nI (1000 + i)) (Or.inr ((nI_le_iff (a := 1000) (by omega) (by omega)).mpr (by omega))) hY1
    obtain ⟨Y', p4⟩ := p3 Y2 (hY1.ofN y6) (y2.other (by omega) (by omega) y6) y5
    have p4 : fM_mend_62 am_F (nI s) (nI th) 0 Y2 = some (r, Y') := p4
    have e1000 : (1000 : Int32) + nI i = nI (1000 + i) := nI_plus 1000 i
    refine ⟨r, X', Y', ?_, ?_, trivial⟩
    · unfold fB_mend fTrace_cleansings
      rw [l_canTrace, Option.bind_some, b2i_t hv]
      dsimp only
      rw [if_pos (by decide), x1, Option.bind_some, x2 0 (by omega), p1, Option.bind_some]
    · have n0 : X' 108 2 = μ 0 11 := by rw [p2 108 (by omega), g0.2.2]
      have n1 : Y1 108 2 = μ 0 11 := by rw [hY1 108 (by omega), g0.2.2]
      change fM_goes (nI s) 0 (μ 0 11) (μ 0 11) (-1) X' = some Y1 at y1
      change fM_goes (nI s) 1 (μ 0 11) (μ 0 11) (nI (1000 + i)) Y1 = some Y2 at y4
      rw [eM X' (by rw [p2 108 (by omega), h6]) (by rw [p2 108 (by omega), h4]), if_pos hv, n0, y1, Option.bind_some, n1, e1000, y4, Option.bind_some, p4]
  · refine ⟨-1, μ, μ, ?_, ?_, trivial⟩
    · unfold fB_mend
      rw [l_canTrace, Option.bind_some, b2i_f hv]
      rfl
    · rw [eM μ h6 h4, if_neg hv]
