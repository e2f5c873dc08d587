/-! E: units, good, recall, lot, pass -/
theorem op_units (a b : Int32) (μ : am_Mu) : Op (fB_units a b) (fM_units a b) (fun μ => G5 μ ∧ G6 μ) G6 μ := by
  rintro ⟨g5, g6⟩
  have g5' := g5
  have g6' := g6
  obtain ⟨u1, u2, u3, -⟩ := g5
  obtain ⟨⟨n1, n2, n0, hlt⟩, -, h88, -⟩ := g6
  by_cases ha : 0 ≤ a ∧ a < μ 84 13
  · have ea := nI_nt ha.1
    have la := nt_lt ha.1 ha.2
    have n3 : (μ 84 13).toNatClampNeg ≤ 10 := nt_le (b := 10) n1 n2
    have c1 : fB_isIn a (μ 84 13) μ = some (1, μ) := by rw [l_isIn, b2i_t ha]
    have c2 : fM_isLot a μ = some (1, μ) := by rw [l_isLot, b2i_t (by rw [n0]; grind)]
    by_cases hb : 0 ≤ b ∧ b < μ 76 8
    · have eb := nI_nt hb.1
      have lb : b.toNatClampNeg < 8 := nt_lt (b := 8) hb.1 (by grind)
      have c3 : fB_isIn b (μ 76 8) μ = some (1, μ) := by rw [l_isIn, b2i_t hb]
      have c4 : fM_isKitchen b μ = some (1, μ) := by rw [l_isKitchen, b2i_t (by rw [u3]; grind)]
      obtain ⟨M, f1, f2, f3, f4⟩ := m_follows g5' g6' (s := 0) (by omega) la
      rw [ea] at f1
      have hix : a * 8 + b = nI (8 * a.toNatClampNeg + b.toNatClampNeg) := by
        rw [← nI_plus, ← nI_mul, ea, eb]
        exact congrArg (· + b) (Int32.mul_comm a 8)
      refine ⟨μ 88 (8 * a.toNatClampNeg + b.toNatClampNeg), μ, M, ?_, ?_, G6.fr1 (w_fM_follows f1) rfl g6'⟩
      · simp only [fB_units, c1, c3, Option.bind_some, hix]
        rw [if_neg (by decide), if_pos (by decide), inb_n (by omega) (by omega), cond_true, nI_clamp (by omega)]
      · simp only [fM_units, c2, c4, Option.bind_some]
        rw [if_neg (by decide), if_pos (by decide), show (0 : Int32) = nI 0 from rfl, f1, Option.bind_some, inb_t hb.1 lb, cond_true, (f3 _ lb).1, h88 _ la _ lb]
    · have c3 : fB_isIn b (μ 76 8) μ = some (0, μ) := by rw [l_isIn, b2i_f hb]
      have c4 : fM_isKitchen b μ = some (0, μ) := by rw [l_isKitchen, b2i_f (by rw [u3]; grind)]
      exact ⟨-1, μ, μ, by simp only [fB_units, c1, c3, Option.bind_some]; grind, by simp only [fM_units, c2, c4, Option.bind_some]; grind, g6'⟩
  · have c1 : fB_isIn a (μ 84 13) μ = some (0, μ) := by rw [l_isIn, b2i_f ha]
    have c2 : fM_isLot a μ = some (0, μ) := by rw [l_isLot, b2i_f (by rw [n0]; grind)]
    exact ⟨-1, μ, μ, by simp only [fB_units, c1, Option.bind_some]; grind, by simp only [fM_units, c2, Option.bind_some]; grind, g6'⟩
theorem op_recall (a : Int32) (μ : am_Mu) : Op (fB_recall a) (fM_recall a) (fun μ => G5 μ ∧ G6 μ) G6 μ := by
  rintro ⟨g5, g6⟩
  have g6' := g6
  obtain ⟨⟨n1, n2, n0, hlt⟩, -, -, h87, -⟩ := g6
  by_cases ha : 0 ≤ a ∧ a < μ 84 13
  · have ea := nI_nt ha.1
    have la := nt_lt ha.1 ha.2
    have n3 : (μ 84 13).toNatClampNeg ≤ 10 := nt_le (b := 10) n1 n2
    have c1 : fB_isIn a (μ 84 13) μ = some (1, μ) := by rw [l_isIn, b2i_t ha]
    have c2 : fM_isLot a μ = some (1, μ) := by rw [l_isLot, b2i_t (by rw [n0]; grind)]
    obtain ⟨M, f1, f2, f3, f4⟩ := m_follows g5 g6' (s := 0) (by omega) la
    rw [ea] at f1
    refine ⟨μ 87 a.toNatClampNeg, μ, M, ?_, ?_, G6.fr1 (w_fM_follows f1) rfl g6'⟩
    · simp only [fB_recall, c1, Option.bind_some]
      rw [if_pos (by decide), inb_t ha.1 (by omega), cond_true]
    · simp only [fM_recall, c2, Option.bind_some]
      rw [if_pos (by decide), show (0 : Int32) = nI 0 from rfl, f1, Option.bind_some, f4, h87 _ la]
  · have c1 : fB_isIn a (μ 84 13) μ = some (0, μ) := by rw [l_isIn, b2i_f ha]
    have c2 : fM_isLot a μ = some (0, μ) := by rw [l_isLot, b2i_f (by rw [n0]; grind)]
    exact ⟨-1, μ, μ, by simp only [fB_recall, c1, Option.bind_some]; grind, by simp only [fM_recall, c2, Option.bind_some]; grind, g6'⟩
theorem lfG_cong {μ ν : am_Mu} {l s : Nat} (h78 : ν 78 = μ 78) (h81 : ν 81 = μ 81) (h : ν 85 = μ 85 ∧ ν 86 = μ 86 ∧ ν 89 = μ 89 ∧ ν 90 = μ 90 ∧ ν 91 = μ 91 ∧ ν 92 = μ 92) (h93 : ν 93 = μ 93) : ∀ n, lfG ν l s n = lfG μ l s n := by
  have h' := h
  obtain ⟨h1, h2, h3, h4, h5, h6⟩ := h
  have ht : ∀ s k, trw ν s k = trw μ s k := fun s k => by simp only [trw, h78, h81]
  intro n
  induction n with
  | zero => simp only [lfG, h1, h2, ht]
  | succ n ih => simp only [lfG, h3, h4, h5, h6, h93, ht, ih, ltThere_cong h']
theorem op_good (a b c d : Int32) (μ : am_Mu) : Op (fB_good a b c d) (fM_good a b c d) (fun μ => G5 μ ∧ G6 μ) G6 μ := by
  rintro ⟨g5, g6⟩
  have g5' := g5
  have g6' := g6
  obtain ⟨u1, u2, u3, -⟩ := g5
  obtain ⟨⟨n1, n2, n0, hlt⟩, -⟩ := g6
  by_cases h0 : 0 ≤ a ∧ a < 2
  · have cx0 : fB_isIn a 2 μ = some (1, μ) := by rw [l_isIn, b2i_t h0]
    have cm0 : fM_isSchool a μ = some (1, μ) := by rw [l_isSchool, b2i_t h0]
    by_cases hb : 0 ≤ b ∧ b < μ 84 13
    · have cx1 : fB_isIn b (μ 84 13) μ = some (1, μ) := by rw [l_isIn, b2i_t hb]
      have cm1 : fM_isLot b μ = some (1, μ) := by rw [l_isLot, b2i_t (by rw [n0]; grind)]
      by_cases hc : 0 ≤ c ∧ c < μ 76 8
      · have cx2 : fB_isIn c (μ 76 8) μ = some (1, μ) := by rw [l_isIn, b2i_t hc]
        have cm2 : fM_isKitchen c μ = some (1, μ) := by rw [l_isKitchen, b2i_t (by rw [u3]; grind)]
        by_cases hd : 0 ≤ d ∧ d < 2
        · have cx3 : fB_isIn d 2 μ = some (1, μ) := by rw [l_isIn, b2i_t hd]
          have ea := nI_nt h0.1
          have la : a.toNatClampNeg < 2 := nt_lt (b := 2) h0.1 h0.2
          have eb := nI_nt hb.1
          have lb := nt_lt hb.1 hb.2
          have lc : c.toNatClampNeg < 8 := nt_lt (b := 8) hc.1 (by grind)
          obtain ⟨X, x1, x2, x3⟩ := x_seeGood g5' g6' la lb
          rw [ea, eb] at x1
          have w := w_fLots_seeGood x1
          have p5 : G5 X := G5.fr1 w rfl g5'
          have p6 : G6 X := G6.fr1 w rfl g6'
          have e8413 : X 84 = μ 84 := x2 84 (by decide) (by decide) (by decide)
          have m13 : X 108 8 = μ 84 13 := by rw [x2 108 (by decide) (by decide) (by decide)]; exact n0
          have m7 : X 108 7 = μ 76 8 := by rw [x2 108 (by decide) (by decide) (by decide)]; exact u3
          have cm0 : fM_isSchool a X = some (1, X) := by rw [l_isSchool, b2i_t h0]
          have cm1 : fM_isLot b X = some (1, X) := by rw [l_isLot, b2i_t (by rw [m13]; grind)]
          have cm2 : fM_isKitchen c X = some (1, X) := by rw [l_isKitchen, b2i_t (by rw [m7]; grind)]
          have cm3 : fM_lies d 0 1 X = some (1, X) := by rw [l_lies, b2i_t (by grind)]
          obtain ⟨M, f1, f2, f3, f4⟩ := m_follows p5 p6 (s := a.toNatClampNeg) la (l := b.toNatClampNeg) (by rw [e8413]; exact lb)
          rw [ea, eb] at f1
          have hrow : ∀ j, FrX X μ → (¬ j = 94 → ¬ j = 95 → ¬ j = 96 → X j = μ j) := fun j h => h j
          rw [lfG_cong (x2 78 (by decide) (by decide) (by decide)) (x2 81 (by decide) (by decide) (by decide)) ⟨x2 85 (by decide) (by decide) (by decide), x2 86 (by decide) (by decide) (by decide), x2 89 (by decide) (by decide) (by decide), x2 90 (by decide) (by decide) (by decide), x2 91 (by decide) (by decide) (by decide), x2 92 (by decide) (by decide) (by decide)⟩ (x2 93 (by decide) (by decide) (by decide)), e8413] at f3
          obtain ⟨-, r2, r3⟩ := x3 _ lc
          obtain ⟨-, s2, s3⟩ := f3 _ lc
          simp only [Nat.reduceAdd] at r2 r3 s2 s3
          have pG : G6 M := G6.fr1 (w_fM_follows f1) rfl p6
          by_cases hd0 : d = 0
          · refine ⟨(lfG μ b.toNatClampNeg a.toNatClampNeg (μ 84 14).toNatClampNeg).1 c.toNatClampNeg, X, M, ?_, ?_, pG⟩
            · simp only [fB_good, cx0, cx1, cx2, cx3, Option.bind_some]
              rw [if_neg (by decide), if_neg (by decide), if_pos (by decide), if_pos (by decide), x1, Option.bind_some, if_neg (by simpa using hd0), inb_t hc.1 lc, cond_true, r2]
            · simp only [fM_good, cm0, cm1, cm2, cm3, Option.bind_some]
              rw [if_neg (by decide), if_neg (by decide), if_neg (by decide), if_pos (by decide), f1, Option.bind_some, if_neg (by simpa using hd0), inb_t hc.1 lc, cond_true, s2]
          · refine ⟨(lfG μ b.toNatClampNeg a.toNatClampNeg (μ 84 14).toNatClampNeg).2 c.toNatClampNeg, X, M, ?_, ?_, pG⟩
            · simp only [fB_good, cx0, cx1, cx2, cx3, Option.bind_some]
              rw [if_neg (by decide), if_neg (by decide), if_pos (by decide), if_pos (by decide), x1, Option.bind_some, if_pos hd0, inb_t hc.1 lc, cond_true, r3]
            · simp only [fM_good, cm0, cm1, cm2, cm3, Option.bind_some]
              rw [if_neg (by decide), if_neg (by decide), if_neg (by decide), if_pos (by decide), f1, Option.bind_some, if_pos hd0, inb_t hc.1 lc, cond_true, s3]
        · have cx3 : fB_isIn d 2 μ = some (0, μ) := by rw [l_isIn, b2i_f hd]
          have cm3 : fM_lies d 0 1 μ = some (0, μ) := by rw [l_lies, b2i_f (by grind)]
          exact ⟨-1, μ, μ, by simp only [fB_good, cx0, cx1, cx2, cx3, Option.bind_some]; grind, by simp only [fM_good, cm0, cm1, cm2, cm3, Option.bind_some]; grind, g6'⟩
      · have cx2 : fB_isIn c (μ 76 8) μ = some (0, μ) := by rw [l_isIn, b2i_f hc]
        have cm2 : fM_isKitchen c μ = some (0, μ) := by rw [l_isKitchen, b2i_f (by rw [u3]; grind)]
        exact ⟨-1, μ, μ, by simp only [fB_good, cx0, cx1, cx2, Option.bind_some]; grind, by simp only [fM_good, cm0, cm1, cm2, Option.bind_some]; grind, g6'⟩
    · have cx1 : fB_isIn b (μ 84 13) μ = some (0, μ) := by rw [l_isIn, b2i_f hb]
      have cm1 : fM_isLot b μ = some (0, μ) := by rw [l_isLot, b2i_f (by rw [n0]; grind)]
      exact ⟨-1, μ, μ, by simp only [fB_good, cx0, cx1, Option.bind_some]; grind, by simp only [fM_good, cm0, cm1, Option.bind_some]; grind, g6'⟩
  · have cx0 : fB_isIn a 2 μ = some (0, μ) := by rw [l_isIn, b2i_f h0]
    have cm0 : fM_isSchool a μ = some (0, μ) := by rw [l_isSchool, b2i_f h0]
    exact ⟨-1, μ, μ, by simp only [fB_good, cx0, Option.bind_some]; grind, by simp only [fM_good, cm0, Option.bind_some]; grind, g6'⟩
theorem lt_cong {μ ν : am_Mu} {l : Nat} (h1 : ν 85 l = μ 85 l) (h2 : ν 86 l = μ 86 l) : ∀ n, (∀ j, j < n → ν 89 j = μ 89 j ∧ ν 90 j = μ 90 j ∧ ν 91 j = μ 91 j ∧ ν 92 j = μ 92 j) → ltThere ν l n = ltThere μ l n ∧ ltEver ν l n = ltEver μ l n := by
  intro n
  induction n with
  | zero => exact fun _ => ⟨by funext k; simp only [ltThere, h1, h2], by simp only [ltEver, h1]⟩
  | succ n ih =>
    intro h
    obtain ⟨i1, i2⟩ := ih (fun j hj => h j (by omega))
    obtain ⟨e1, e2, e3, e4⟩ := h n (by omega)
    exact ⟨by funext k; simp only [ltThere, e1, e2, e3, e4, i1], by simp only [ltEver, e1, e3, i2]⟩
theorem lt_none {μ : am_Mu} {l : Nat} : ∀ n, (∀ j, j < n → ¬ μ 89 j = nI l) → ltThere μ l n = ltThere μ l 0 ∧ ltEver μ l n = ltEver μ l 0 := by
  intro n
  induction n with
  | zero => exact fun _ => ⟨rfl, rfl⟩
  | succ n ih =>
    intro h
    obtain ⟨i1, i2⟩ := ih (fun j hj => h j (by omega))
    have e := h n (by omega)
    exact ⟨by rw [← i1]; funext k; simp only [ltThere, if_neg e], by rw [← i2]; simp only [ltEver, if_neg e]⟩
abbrev X_lot (a b : Int32) (μ : am_Mu) : am_Mu := am_up (am_up (am_up (am_up (am_up μ 85 (μ 84 13).toNatClampNeg a) 86 (μ 84 13).toNatClampNeg b) 87 (μ 84 13).toNatClampNeg ((1 : Int32) <<< (a &&& 31))) 88 (μ 84 13 * 8 + a).toNatClampNeg b) 84 13 (μ 84 13 + 1)
abbrev M_lot (a b : Int32) (μ : am_Mu) : am_Mu := am_up (am_up (am_up μ 157 (μ 108 8).toNatClampNeg a) 158 (μ 108 8).toNatClampNeg b) 108 8 (μ 108 8 + 1)
theorem lot_ix {n a : Int32} (h1 : 0 ≤ n) (h2 : n ≤ 10) (h3 : 0 ≤ a) (h4 : a < 8) : n * 8 + a = nI (8 * n.toNatClampNeg + a.toNatClampNeg) ∧ n.toNatClampNeg ≤ 10 ∧ a.toNatClampNeg < 8 := by
  refine ⟨?_, nt_le (b := 10) h1 h2, nt_lt (b := 8) h3 h4⟩
  rw [← nI_plus, ← nI_mul, nI_nt h1, nI_nt h3]
  exact congrArg (· + a) (Int32.mul_comm n 8)
theorem op_lot (a b : Int32) (μ : am_Mu) : Op (fB_lot a b) (fM_lot a b) (fun μ => G5 μ ∧ G6 μ) G6 μ := by
  rintro ⟨g5, g6⟩
  have g6' := g6
  obtain ⟨u1, u2, u3, -⟩ := g5
  obtain ⟨⟨n1, n2, n0, hlt⟩, ⟨m1, m2, m0, hp⟩, h88, h87, hz⟩ := g6
  by_cases hn : μ 84 13 < 10
  · by_cases ha : 0 ≤ a ∧ a < μ 76 8
    · have c1 : fB_isIn a (μ 76 8) μ = some (1, μ) := by rw [l_isIn, b2i_t ha]
      by_cases hb : 1 ≤ b ∧ b ≤ 100000
      · obtain ⟨i1, i2, i3⟩ := lot_ix n1 n2 ha.1 (by grind)
        have i4 : (μ 84 13).toNatClampNeg < 10 := nt_lt (b := 10) n1 hn
        have hs := nt_succ n1 (by grind)
        have e8 : X_lot a b μ 108 8 = μ 84 13 := by simp [upa, n0]
        have e7 : X_lot a b μ 108 7 = μ 76 8 := by simp [upa, u3]
        refine ⟨μ 84 13, X_lot a b μ, M_lot a b (X_lot a b μ), ?_, ?_, ?_⟩
        · unfold fB_lot fLots_add
          rw [if_neg (by grind), c1, Option.bind_some]
          dsimp only
          rw [if_neg (by decide), if_neg (by grind), if_pos hb.2, inb_t n1 i4, cond_true, i1, inb_n (by omega) (by omega), cond_true, Option.bind_some]
          refine congrArg some (Prod.ext (by grind) ?_)
          dsimp only [X_lot]
          rw [i1]
        · unfold fM_lot
          have d1 : fM_isKitchen a (X_lot a b μ) = some (1, X_lot a b μ) := by rw [l_isKitchen, b2i_t (by rw [e7]; grind)]
          have d2 : fM_lies b 1 100000 (X_lot a b μ) = some (1, X_lot a b μ) := by rw [l_lies, b2i_t hb]
          rw [e8, if_neg (by grind), d1, Option.bind_some]
          dsimp only
          rw [if_neg (by decide), d2, Option.bind_some]
          dsimp only
          rw [if_pos (by decide), e8, inb_t n1 i4, cond_true]
          refine congrArg some (Prod.ext (by grind) ?_)
          dsimp only [M_lot]
          rw [e8]
        · have A1 : ∀ r, ¬ r = 84 → ¬ r = 85 → ¬ r = 86 → ¬ r = 87 → ¬ r = 88 → ¬ r = 108 → ¬ r = 157 → ¬ r = 158 → M_lot a b (X_lot a b μ) r = μ r := by
            intro r _ _ _ _ _ _ _ _
            funext j
            simp only [upa]
            grind
          have B13 : M_lot a b (X_lot a b μ) 84 13 = μ 84 13 + 1 := by simp [upa]
          have B14 : M_lot a b (X_lot a b μ) 84 14 = μ 84 14 := by simp [upa]
          have B8 : M_lot a b (X_lot a b μ) 108 8 = μ 84 13 + 1 := by simp [upa, n0]
          have B9 : M_lot a b (X_lot a b μ) 108 9 = μ 108 9 := by simp [upa]
          have B85 : ∀ j, M_lot a b (X_lot a b μ) 85 j = if j = (μ 84 13).toNatClampNeg then a else μ 85 j := by intro j; simp [upa]
          have B86 : ∀ j, M_lot a b (X_lot a b μ) 86 j = if j = (μ 84 13).toNatClampNeg then b else μ 86 j := by intro j; simp [upa]
          have B87 : ∀ j, M_lot a b (X_lot a b μ) 87 j = if j = (μ 84 13).toNatClampNeg then (1 : Int32) <<< (a &&& 31) else μ 87 j := by intro j; simp [upa]
          have B88 : ∀ j, M_lot a b (X_lot a b μ) 88 j = if j = 8 * (μ 84 13).toNatClampNeg + a.toNatClampNeg then b else μ 88 j := by
            intro j
            simp [upa, i1, nI_clamp (show 8 * (μ 84 13).toNatClampNeg + a.toNatClampNeg < 2 ^ 31 by omega)]
          have B157 : ∀ j, M_lot a b (X_lot a b μ) 157 j = if j = (μ 84 13).toNatClampNeg then a else μ 157 j := by intro j; simp [upa, n0]
          have B158 : ∀ j, M_lot a b (X_lot a b μ) 158 j = if j = (μ 84 13).toNatClampNeg then b else μ 158 j := by intro j; simp [upa, n0]
          generalize M_lot a b (X_lot a b μ) = ν at A1 B13 B14 B8 B9 B85 B86 B87 B88 B157 B158
          have r89 := A1 89 (by decide) (by decide) (by decide) (by decide) (by decide) (by decide) (by decide) (by decide)
          have r90 := A1 90 (by decide) (by decide) (by decide) (by decide) (by decide) (by decide) (by decide) (by decide)
          have r91 := A1 91 (by decide) (by decide) (by decide) (by decide) (by decide) (by decide) (by decide) (by decide)
          have r92 := A1 92 (by decide) (by decide) (by decide) (by decide) (by decide) (by decide) (by decide) (by decide)
          have r93 := A1 93 (by decide) (by decide) (by decide) (by decide) (by decide) (by decide) (by decide) (by decide)
          have r159 := A1 159 (by decide) (by decide) (by decide) (by decide) (by decide) (by decide) (by decide) (by decide)
          have r160 := A1 160 (by decide) (by decide) (by decide) (by decide) (by decide) (by decide) (by decide) (by decide)
          have r161 := A1 161 (by decide) (by decide) (by decide) (by decide) (by decide) (by decide) (by decide) (by decide)
          have r162 := A1 162 (by decide) (by decide) (by decide) (by decide) (by decide) (by decide) (by decide) (by decide)
          have r163 := A1 163 (by decide) (by decide) (by decide) (by decide) (by decide) (by decide) (by decide) (by decide)
          have same : ∀ l, ¬ l = (μ 84 13).toNatClampNeg → ltThere ν l (μ 84 14).toNatClampNeg = ltThere μ l (μ 84 14).toNatClampNeg ∧ ltEver ν l (μ 84 14).toNatClampNeg = ltEver μ l (μ 84 14).toNatClampNeg := by
            intro l hl
            exact lt_cong (by rw [B85, if_neg hl]) (by rw [B86, if_neg hl]) _ (fun j _ => ⟨by rw [r89], by rw [r90], by rw [r91], by rw [r92]⟩)
          have new := lt_none (μ := ν) (l := (μ 84 13).toNatClampNeg) (μ 84 14).toNatClampNeg (by
            intro j hj
            rw [r89, nI_nt n1]
            obtain ⟨⟨-, p1, p2⟩, -⟩ := hp j hj
            grind)
          refine ⟨⟨by grind, by grind, by grind, ?_⟩, ⟨by grind, by grind, by grind, ?_⟩, ?_, ?_, ?_⟩
          · intro j hj
            rw [B13, hs] at hj
            rw [B157, B85, B158, B86]
            by_cases hjj : j = (μ 84 13).toNatClampNeg
            · simp only [if_pos hjj]
              grind
            · simp only [if_neg hjj]
              exact hlt j (by omega)
          · intro j hj
            rw [B14] at hj
            rw [r159, r160, r161, r162, r163, r89, r90, r91, r92, r93, B13]
            have := hp j hj
            grind
          · intro l hl k hk
            rw [B13, hs] at hl
            rw [B14, B88]
            by_cases hjj : l = (μ 84 13).toNatClampNeg
            · subst hjj
              rw [new.1]
              simp only [ltThere]
              rw [B85, B86, if_pos rfl, if_pos rfl]
              by_cases hk2 : k = a.toNatClampNeg
              · rw [if_pos hk2, if_pos (by omega)]
              · rw [if_neg hk2, if_neg (by omega)]
                exact hz _ (Nat.le_refl _) i4 k hk
            · rw [(same l hjj).1, if_neg (by omega)]
              exact h88 l (by omega) k hk
          · intro l hl
            rw [B13, hs] at hl
            rw [B14, B87]
            by_cases hjj : l = (μ 84 13).toNatClampNeg
            · subst hjj
              rw [new.2, if_pos rfl]
              simp only [ltEver]
              rw [B85, if_pos rfl]
            · rw [(same l hjj).2, if_neg hjj]
              exact h87 l (by omega)
          · intro l hl hl2 k hk
            rw [B13, hs] at hl
            rw [B88, if_neg (by omega)]
            exact hz l (by omega) hl2 k hk
      · have d1 : fM_isKitchen a μ = some (1, μ) := by rw [l_isKitchen, b2i_t (by rw [u3]; grind)]
        have d2 : fM_lies b 1 100000 μ = some (0, μ) := by rw [l_lies, b2i_f hb]
        exact ⟨-1, μ, μ, by simp only [fB_lot, fLots_add, c1, Option.bind_some]; grind, by simp only [fM_lot, d1, d2, Option.bind_some]; grind, g6'⟩
    · have c1 : fB_isIn a (μ 76 8) μ = some (0, μ) := by rw [l_isIn, b2i_f ha]
      have d1 : fM_isKitchen a μ = some (0, μ) := by rw [l_isKitchen, b2i_f (by rw [u3]; grind)]
      exact ⟨-1, μ, μ, by simp only [fB_lot, fLots_add, c1, Option.bind_some]; grind, by simp only [fM_lot, d1, Option.bind_some]; grind, g6'⟩
  · exact ⟨-1, μ, μ, by unfold fB_lot fLots_add; rw [if_pos (by grind)]; rfl, by unfold fM_lot; rw [if_pos (by grind)], g6'⟩
