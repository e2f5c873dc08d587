/-! E: units, good, recall, lot, pass -/
theorem op_units (a b : Int32) (μ : am_Mu) : Op (fB_units a b) (fM_units a b) (fun μ => G5 μ ∧ G6 μ) G6 μ := by
  rintro ⟨g5, g6⟩
  have g5' := g5
  have g6' := g6
  obtain ⟨u1, u2, u3, -⟩ := g5
  obtain ⟨⟨n1, n2, n0, hlt⟩, -, h88, -⟩ := g6
  by_cases ha : 0 ≤ a ∧ a < μ 84 13
  · have ea := nI_nt ha.1
    have la := nt_lt ha.1 ha.2
    have n3 : (μ 84 13).toNatClampNeg ≤ 10 := nt_le (b := 10) n1 n2
    have c1 : fB_isIn a (μ 84 13) μ = some (1, μ) := by rw [l_isIn, b2i_t ha]
    have c2 : fM_isLot a μ = some (1, μ) := by rw [l_isLot, b2i_t (by rw [n0]; grind)]
    by_cases hb : 0 ≤ b ∧ b < μ 76 8
    · have eb := nI_nt hb.1
      have lb : b.toNatClampNeg < 8 := nt_lt (b := 8) hb.1 (by grind)
      have c3 : fB_isIn b (μ 76 8) μ = some (1, μ) := by rw [l_isIn, b2i_t hb]
      have c4 : fM_isKitchen b μ = some (1, μ) := by rw [l_isKitchen, b2i_t (by rw [u3]; grind)]
      obtain ⟨M, f1, f2, f3, f4⟩ := m_follows g5' g6' (s := 0) (by omega) la
      rw [ea] at f1
      have hix : a * 8 + b = nI (8 * a.toNatClampNeg + b.toNatClampNeg) := by
        rw [← nI_plus, ← nI_mul, ea, eb]
        exact congrArg (· + b) (Int32.mul_comm a 8)
      refine ⟨μ 88 (8 * a.toNatClampNeg + b.toNatClampNeg), μ, M, ?_, ?_, G6.fr1 (w_fM_follows f1) rfl g6'⟩
      · simp only [fB_units, c1, c3, Option.bind_some, hix]
        rw [if_neg (by decide), if_pos (by decide), inb_n (by omega) (by omega), cond_true, nI_clamp (by omega)]
      · simp only [fM_units, c2, c4, Option.bind_some]
        rw [if_neg (by decide), if_pos (by decide), show (0 : Int32) = nI 0 from rfl, f1, Option.bind_some, inb_t hb.1 lb, cond_true, (f3 _ lb).1, h88 _ la _ lb]
    · have c3 : fB_isIn b (μ 76 8) μ = some (0, μ) := by rw [l_isIn, b2i_f hb]
      have c4 : fM_isKitchen b μ = some (0, μ) := by rw [l_isKitchen, b2i_f (by rw [u3]; grind)]
      exact ⟨-1, μ, μ, by simp only [fB_units, c1, c3, Option.bind_some]; grind, by simp only [fM_units, c2, c4, Option.bind_some]; grind, g6'⟩
  · have c1 : fB_isIn a (μ 84 13) μ = some (0, μ) := by rw [l_isIn, b2i_f ha]
    have c2 : fM_isLot a μ = some (0, μ) := by rw [l_isLot, b2i_f (by rw [n0]; grind)]
    exact ⟨-1, μ, μ, by simp only [fB_units, c1, Option.bind_some]; grind, by simp only [fM_units, c2, Option.bind_some]; grind, g6'⟩
theorem op_recall (a : Int32) (μ : am_Mu) : Op (fB_recall a) (fM_recall a) (fun μ => G5 μ ∧ G6 μ) G6 μ := by
  rintro ⟨g5, g6⟩
  have g6' := g6
  obtain ⟨⟨n1, n2, n0, hlt⟩, -, -, h87, -⟩ := g6
  by_cases ha : 0 ≤ a ∧ a < μ 84 13
  · have ea := nI_nt ha.1
    have la := nt_lt ha.1 ha.2
    have n3 : (μ 84 13).toNatClampNeg ≤ 10 := nt_le (b := 10) n1 n2
    have c1 : fB_isIn a (μ 84 13) μ = some (1, μ) := by rw [l_isIn, b2i_t ha]
    have c2 : fM_isLot a μ = some (1, μ) := by rw [l_isLot, b2i_t (by rw [n0]; grind)]
    obtain ⟨M, f1, f2, f3, f4⟩ := m_follows g5 g6' (s := 0) (by omega) la
    rw [ea] at f1
    refine ⟨μ 87 a.toNatClampNeg, μ, M, ?_, ?_, G6.fr1 (w_fM_follows f1) rfl g6'⟩
    · simp only [fB_recall, c1, Option.bind_some]
      rw [if_pos (by decide), inb_t ha.1 (by omega), cond_true]
    · simp only [fM_recall, c2, Option.bind_some]
      rw [if_pos (by decide), show (0 : Int32) = nI 0 from rfl, f1, Option.bind_some, f4, h87 _ la]
  · have c1 : fB_isIn a (μ 84 13) μ = some (0, μ) := by rw [l_isIn, b2i_f ha]
    have c2 : fM_isLot a μ = some (0, μ) := by rw [l_isLot, b2i_f (by rw [n0]; grind)]
    exact ⟨-1, μ, μ, by simp only [fB_recall, c1, Option.bind_some]; grind, by simp only [fM_recall, c2, Option.bind_some]; grind, g6'⟩
theorem lfG_cong {μ ν : am_Mu} {l s : Nat} (h78 : ν 78 = μ 78) (h81 : ν 81 = μ 81) (h : ν 85 = μ 85 ∧ ν 86 = μ 86 ∧ ν 89 = μ 89 ∧ ν 90 = μ 90 ∧ ν 91 = μ 91 ∧ ν 92 = μ 92) (h93 : ν 93 = μ 93) : ∀ n, lfG ν l s n = lfG μ l s n := by
  have h' := h
  obtain ⟨h1, h2, h3, h4, h5, h6⟩ := h
  have ht : ∀ s k, trw ν s k = trw μ s k := fun s k => by simp only [trw, h78, h81]
  intro n
  induction n with
  | zero => simp only [lfG, h1, h2, ht]
  | succ n ih => simp only [lfG, h3, h4, h5, h6, h93, ht, ih, ltThere_cong h']
theorem op_good (a b c d : Int32) (μ : am_Mu) : Op (fB_good a b c d) (fM_good a b c d) (fun μ => G5 μ ∧ G6 μ) G6 μ := by
  rintro ⟨g5, g6⟩
  have g5' := g5
  have g6' := g6
  obtain ⟨u1, u2, u3, -⟩ := g5
  obtain ⟨⟨n1, n2, n0, hlt⟩, -⟩ := g6
  by_cases h0 : 0 ≤ a ∧ a < 2
  · have cx0 : fB_isIn a 2 μ = some (1, μ) := by rw [l_isIn, b2i_t h0]
    have cm0 : fM_isSchool a μ = some (1, μ) := by rw [l_isSchool, b2i_t h0]
    by_cases hb : 0 ≤ b ∧ b < μ 84 13
    · have cx1 : fB_isIn b (μ 84 13) μ = some (1, μ) := by rw [l_isIn, b2i_t hb]
      have cm1 : fM_isLot b μ = some (1, μ) := by rw [l_isLot, b2i_t (by rw [n0]; grind)]
      by_cases hc : 0 ≤ c ∧ c < μ 76 8
      · have cx2 : fB_isIn c (μ 76 8) μ = some (1, μ) := by rw [l_isIn, b2i_t hc]
        have cm2 : fM_isKitchen c μ = some (1, μ) := by rw [l_isKitchen, b2i_t (by rw [u3]; grind)]
        by_cases hd : 0 ≤ d ∧ d < 2
        · have cx3 : fB_isIn d 2 μ = some (1, μ) := by rw [l_isIn, b2i_t hd]
          have ea := nI_nt h0.1
          have la : a.toNatClampNeg < 2 := nt_lt (b := 2) h0.1 h0.2
          have eb := nI_nt hb.1
          have lb := nt_lt hb.1 hb.2
          have lc : c.toNatClampNeg < 8 := nt_lt (b := 8) hc.1 (by grind)
          obtain ⟨X, x1, x2, x3⟩ := x_seeGood g5' g6' la lb
          rw [ea, eb] at x1
          have w := w_fLots_seeGood x1
          have p5 : G5 X := G5.fr1 w rfl g5'
          have p6 : G6 X := G6.fr1 w rfl g6'
          have e8413 : X 84 = μ 84 := x2 84 (by decide) (by decide) (by decide)
          have m13 : X 108 8 = μ 84 13 := by rw [x2 108 (by decide) (by decide) (by decide)]; exact n0
          have m7 : X 108 7 = μ 76 8 := by rw [x2 108 (by decide) (by decide) (by decide)]; exact u3
          have cm0 : fM_isSchool a X = some (1, X) := by rw [l_isSchool, b2i_t h0]
          have cm1 : fM_isLot b X = some (1, X) := by rw [l_isLot, b2i_t (by rw [m13]; grind)]
          have cm2 : fM_isKitchen c X = some (1, X) := by rw [l_isKitchen, b2i_t (by rw [m7]; grind)]
          have cm3 : fM_lies d 0 1 X = some (1, X) := by rw [l_lies, b2i_t (by grind)]
          obtain ⟨M, f1, f2, f3, f4⟩ := m_follows p5 p6 (s := a.toNatClampNeg) la (l := b.toNatClampNeg) (by rw [e8413]; exact lb)
          rw [ea, eb] at f1
          have hrow : ∀ j, FrX X μ → (¬ j = 94 → ¬ j = 95 → ¬ j = 96 → X j = μ j) := fun j h => h j
          rw [lfG_cong (x2 78 (by decide) (by decide) (by decide)) (x2 81 (by decide) (by decide) (by decide)) ⟨x2 85 (by decide) (by decide) (by decide), x2 86 (by decide) (by decide) (by decide), x2 89 (by decide) (by decide) (by decide), x2 90 (by decide) (by decide) (by decide), x2 91 (by decide) (by decide) (by decide), x2 92 (by decide) (by decide) (by decide)⟩ (x2 93 (by decide) (by decide) (by decide)), e8413] at f3
          obtain ⟨-, r2, r3⟩ := x3 _ lc
          obtain ⟨-, s2, s3⟩ := f3 _ lc
          simp only [Nat.reduceAdd] at r2 r3 s2 s3
          have pG : G6 M := G6.fr1 (w_fM_follows f1) rfl p6
          by_cases hd0 : d = 0
          · refine ⟨(lfG μ b.toNatClampNeg a.toNatClampNeg (μ 84 14).toNatClampNeg).1 c.toNatClampNeg, X, M, ?_, ?_, pG⟩
            · simp only [fB_good, cx0, cx1, cx2, cx3, Option.bind_some]
              rw [if_neg (by decide), if_neg (by decide), if_pos (by decide), if_pos (by decide), x1, Option.bind_some, if_neg (by simpa using hd0), inb_t hc.1 lc, cond_true, r2]
            · simp only [fM_good, cm0, cm1, cm2, cm3, Option.bind_some]
              rw [if_neg (by decide), if_neg (by decide), if_neg (by decide), if_pos (by decide), f1, Option.bind_some, if_neg (by simpa using hd0), inb_t hc.1 lc, cond_true, s2]
          · refine ⟨(lfG μ b.toNatClampNeg a.toNatClampNeg (μ 84 14).toNatClampNeg).2 c.toNatClampNeg, X, M, ?_, ?_, pG⟩
            · simp only [fB_good, cx0, cx1, cx2, cx3, Option.bind_some]
              rw [if_neg (by decide), if_neg (by decide), if_pos (by decide), if_pos (by decide), x1, Option.bind_some, if_pos hd0, inb_t hc.1 lc, cond_true, r3]
            · simp only [fM_good, cm0, cm1, cm2, cm3, Option.bind_some]
              rw [if_neg (by decide), if_neg (by decide), if_neg (by decide), if_pos (by decide), f1, Option.bind_some, if_pos hd0, inb_t hc.1 lc, cond_true, s3]
        · have cx3 : fB_isIn d 2 μ = some (0, μ) := by rw [l_isIn, b2i_f hd]
          have cm3 : fM_lies d 0 1 μ = some (0, μ) := by rw [l_lies, b2i_f (by grind)]
          exact ⟨-1, μ, μ, by simp only [fB_good, cx0, cx1, cx2, cx3, Option.bind_some]; grind, by simp only [fM_good, cm0, cm1, cm2, cm3, Option.bind_some]; grind, g6'⟩
      · have cx2 : fB_isIn c (μ 76 8) μ = some (0, μ) := by rw [l_isIn, b2i_f hc]
        have cm2 : fM_isKitchen c μ = some (0, μ) := by rw [l_isKitchen, b2i_f (by rw [u3]; grind)]
        exact ⟨-1, μ, μ, by simp only [fB_good, cx0, cx1, cx2, Option.bind_some]; grind, by simp only [fM_good, cm0, cm1, cm2, Option.bind_some]; grind, g6'⟩
    · have cx1 : fB_isIn b (μ 84 13) μ = some (0, μ) := by rw [l_isIn, b2i_f hb]
      have cm1 : fM_isLot b μ = some (0, μ) := by rw [l_isLot, b2i_f (by rw [n0]; grind)]
      exact ⟨-1, μ, μ, by simp only [fB_good, cx0, cx1, Option.bind_some]; grind, by simp only [fM_good, cm0, cm1, Option.bind_some]; grind, g6'⟩
  · have cx0 : fB_isIn a 2 μ = some (0, μ) := by rw [l_isIn, b2i_f h0]
    have cm0 : fM_isSchool a μ = some (0, μ) := by rw [l_isSchool, b2i_f h0]
    exact ⟨-1, μ, μ, by simp only [fB_good, cx0, Option.bind_some]; grind, by simp only [fM_good, cm0, Option.bind_some]; grind, g6'⟩
