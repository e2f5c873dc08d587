abbrev X_pass (l f t u b : Int32) (μ : am_Mu) : am_Mu := am_up (am_up (am_up (am_up (am_up (am_up (am_up (am_up (am_up μ 89 (μ 84 14).toNatClampNeg l) 90 (μ 84 14).toNatClampNeg f) 91 (μ 84 14).toNatClampNeg t) 92 (μ 84 14).toNatClampNeg u) 93 (μ 84 14).toNatClampNeg (b &&& 1)) 84 14 (μ 84 14 + 1)) 88 (8 * l.toNatClampNeg + f.toNatClampNeg) (μ 88 (8 * l.toNatClampNeg + f.toNatClampNeg) - u)) 88 (8 * l.toNatClampNeg + t.toNatClampNeg) (μ 88 (8 * l.toNatClampNeg + t.toNatClampNeg) + u)) 87 l.toNatClampNeg (μ 87 l.toNatClampNeg ||| ((1 : Int32) <<< (t &&& 31)))
abbrev M_pass (l f t u b : Int32) (μ : am_Mu) : am_Mu := am_up (am_up (am_up (am_up (am_up (am_up μ 159 (μ 108 9).toNatClampNeg l) 160 (μ 108 9).toNatClampNeg f) 161 (μ 108 9).toNatClampNeg t) 162 (μ 108 9).toNatClampNeg u) 163 (μ 108 9).toNatClampNeg (b &&& 1)) 108 9 (μ 108 9 + 1)
theorem pf0 (μ : am_Mu) : ((some ((0 : Int32), μ)).bind fun q1 => if q1.1 &&& 1 = q1.1 then some (q1.1, q1.2) else none) = some (0, μ) := by
  rw [Option.bind_some]
  dsimp only
  rw [if_pos (by decide)]
theorem op_pass (l f t u b : Int32) (hbb : b = 0 ∨ b = 1) (μ : am_Mu) : Op (fB_pass l f t u b) (fM_pass l f t u b) (fun μ => G5 μ ∧ G6 μ) G6 μ := by
  rintro ⟨g5, g6⟩
  have g5' := g5
  have g6' := g6
  obtain ⟨u1, u2, u3, -⟩ := g5
  obtain ⟨⟨n1, n2, n0, hlt⟩, ⟨m1, m2, m0, hp⟩, h88, h87, hz⟩ := g6
  by_cases hn : μ 84 14 < 100
  · by_cases hl : 0 ≤ l ∧ l < μ 84 13
    · have cx1 : fB_isIn l (μ 84 13) μ = some (1, μ) := by rw [l_isIn, b2i_t hl]
      by_cases hh : (¬ f = t) ∧ 1 ≤ u ∧ (0 ≤ f ∧ f < μ 76 8) ∧ 0 ≤ t ∧ t < μ 76 8
      · obtain ⟨hft, hu, hf, ht⟩ := hh
        have cx2 : fB_isIn f (μ 76 8) μ = some (1, μ) := by rw [l_isIn, b2i_t hf]
        have cx3 : fB_isIn t (μ 76 8) μ = some (1, μ) := by rw [l_isIn, b2i_t ht]
        have ll := nt_lt hl.1 hl.2
        obtain ⟨if1, bl, bf⟩ := lot_ix hl.1 (by grind) hf.1 (show f < 8 by grind)
        obtain ⟨it1, -, bt⟩ := lot_ix hl.1 (by grind) ht.1 (show t < 8 by grind)
        have nl10 : (μ 84 13).toNatClampNeg ≤ 10 := nt_le (b := 10) n1 n2
        have bP : (μ 84 14).toNatClampNeg < 100 := nt_lt (b := 100) m1 hn
        have nft : ¬ f.toNatClampNeg = t.toNatClampNeg := fun h => hft (nt_inj hf.1 ht.1 h)
        have el := nI_nt hl.1
        have base : fB_pass l f t u b μ = if u ≤ μ 88 (8 * l.toNatClampNeg + f.toNatClampNeg) then some (1, X_pass l f t u b μ) else some (0, μ) := by
          unfold fB_pass fLots_move
          rw [if_neg (by grind), cx1, Option.bind_some]
          dsimp only
          rw [if_neg (by decide), if_neg hft, if_pos hu, cx2, Option.bind_some]
          dsimp only
          rw [if_neg (by decide), cx3, Option.bind_some]
          dsimp only
          rw [if_neg (by decide), if1, it1, inb_n (by omega) (by omega), inb_n (by omega) (by omega), cond_true, cond_true, nI_clamp (show 8 * l.toNatClampNeg + f.toNatClampNeg < 2 ^ 31 by omega), nI_clamp (show 8 * l.toNatClampNeg + t.toNatClampNeg < 2 ^ 31 by omega), inb_t m1 bP, cond_true, inb_t hl.1 (by omega), cond_true]
          by_cases hc : u ≤ μ 88 (8 * l.toNatClampNeg + f.toNatClampNeg)
          · rw [if_pos hc, if_pos hc, Option.bind_some]
            dsimp only
            rw [if_pos (by decide)]
            refine congrArg some (Prod.ext rfl ?_)
            dsimp only [X_pass]
            have h1 : ∀ x, am_up (am_up (am_up (am_up (am_up (am_up (am_up μ 89 (μ 84 14).toNatClampNeg l) 90 (μ 84 14).toNatClampNeg f) 91 (μ 84 14).toNatClampNeg t) 92 (μ 84 14).toNatClampNeg u) 93 (μ 84 14).toNatClampNeg (b &&& 1)) 84 14 (μ 84 14 + 1)) 88 (8 * l.toNatClampNeg + f.toNatClampNeg) x 88 (8 * l.toNatClampNeg + t.toNatClampNeg) = μ 88 (8 * l.toNatClampNeg + t.toNatClampNeg) := by
              intro x
              simp [upa]
              grind
            rw [h1]
          · rw [if_neg hc, if_neg hc, Option.bind_some]
            dsimp only
            rw [if_pos (by decide)]
        have mbase : ∀ β, MB β μ → β 108 8 = μ 84 13 → β 108 7 = μ 76 8 → ∃ ν, FrM ν β ∧ fM_follows l 0 β = some ν ∧ fM_pass l f t u b β = if u ≤ μ 88 (8 * l.toNatClampNeg + f.toNatClampNeg) then some (1, M_pass l f t u b ν) else some (0, ν) := by
          intro β hb hb8 hb7
          obtain ⟨ν, f1, f2, f3, -⟩ := m_followsB hb g5' g6' (s := 0) (by omega) ll
          rw [el, show nI 0 = (0 : Int32) from rfl] at f1
          refine ⟨ν, f2, f1, ?_⟩
          have d1 : fM_isLot l β = some (1, β) := by rw [l_isLot, b2i_t (by rw [hb8]; grind)]
          have d2 : fM_isKitchen f β = some (1, β) := by rw [l_isKitchen, b2i_t (by rw [hb7]; grind)]
          have d3 : fM_isKitchen t β = some (1, β) := by rw [l_isKitchen, b2i_t (by rw [hb7]; grind)]
          have d9 : β 108 9 = μ 84 14 := by rw [hb.1]; exact m0
          have e9 : ν 108 9 = μ 84 14 := by rw [f2.2 9 (by decide)]; exact d9
          unfold fM_pass
          rw [d9, if_neg (by grind), d1, Option.bind_some]
          dsimp only
          rw [if_neg (by decide), d2, Option.bind_some]
          dsimp only
          rw [if_neg (by decide), d3, Option.bind_some]
          dsimp only
          rw [if_neg (by decide), if_neg hft, if_pos hu, f1, Option.bind_some, inb_t hf.1 bf, cond_true, (f3 _ bf).1, ← h88 _ ll _ bf, e9, inb_t m1 bP, cond_true]
          dsimp only [M_pass]
          rw [e9]
        by_cases hc : u ≤ μ 88 (8 * l.toNatClampNeg + f.toNatClampNeg)
        · obtain ⟨ν, f2, -, f4⟩ := mbase (X_pass l f t u b μ) (by
            refine ⟨by simp [upa], ?_, ?_, ?_, ?_, ?_, ?_, ?_, ?_, ?_⟩ <;>
            · funext j
              simp [upa]) (by simp [upa, n0]) (by simp [upa, u3])
          rw [if_pos hc] at f4
          refine ⟨1, X_pass l f t u b μ, M_pass l f t u b ν, by rw [base, if_pos hc], f4, ?_⟩
          have hs := nt_succ m1 (by grind)
          have e9 : ν 108 9 = μ 84 14 := by rw [f2.2 9 (by decide)]; simp [upa, m0]
          have A1 : ∀ r, ¬ r = 84 → ¬ r = 87 → ¬ r = 88 → ¬ r = 89 → ¬ r = 90 → ¬ r = 91 → ¬ r = 92 → ¬ r = 93 → ¬ r = 108 → ¬ r = 159 → ¬ r = 160 → ¬ r = 161 → ¬ r = 162 → ¬ r = 163 → ¬ r = 164 → ¬ r = 165 → ¬ r = 166 → M_pass l f t u b ν r = μ r := by
            intro r _ _ _ _ _ _ _ _ _ _ _ _ _ _ h164 h165 h166
            funext j
            simp only [upa]
            rw [f2.1 r h164 h165 h166 (by assumption)]
            simp only [upa]
            grind
          have C : ∀ r j, ¬ r = 164 → ¬ r = 165 → ¬ r = 166 → ¬ r = 108 → ν r j = X_pass l f t u b μ r j := fun r j h1 h2 h3 h4 => by rw [f2.1 r h1 h2 h3 h4]
          have B13 : M_pass l f t u b ν 84 13 = μ 84 13 := by simp [upa, C 84 13]
          have B14 : M_pass l f t u b ν 84 14 = μ 84 14 + 1 := by simp [upa, C 84 14]
          have B8 : M_pass l f t u b ν 108 8 = μ 84 13 := by simp [upa, f2.2 8, n0]
          have B9 : M_pass l f t u b ν 108 9 = μ 84 14 + 1 := by simp [upa, e9]
          have B87 : ∀ j, M_pass l f t u b ν 87 j = if j = l.toNatClampNeg then μ 87 l.toNatClampNeg ||| ((1 : Int32) <<< (t &&& 31)) else μ 87 j := by intro j; simp [upa, C 87 j]
          have B88 : ∀ j, M_pass l f t u b ν 88 j = if j = 8 * l.toNatClampNeg + t.toNatClampNeg then μ 88 (8 * l.toNatClampNeg + t.toNatClampNeg) + u else if j = 8 * l.toNatClampNeg + f.toNatClampNeg then μ 88 (8 * l.toNatClampNeg + f.toNatClampNeg) - u else μ 88 j := by intro j; simp [upa, C 88 j]
          have B89 : ∀ j, M_pass l f t u b ν 89 j = if j = (μ 84 14).toNatClampNeg then l else μ 89 j := by intro j; simp [upa, C 89 j]
          have B90 : ∀ j, M_pass l f t u b ν 90 j = if j = (μ 84 14).toNatClampNeg then f else μ 90 j := by intro j; simp [upa, C 90 j]
          have B91 : ∀ j, M_pass l f t u b ν 91 j = if j = (μ 84 14).toNatClampNeg then t else μ 91 j := by intro j; simp [upa, C 91 j]
          have B92 : ∀ j, M_pass l f t u b ν 92 j = if j = (μ 84 14).toNatClampNeg then u else μ 92 j := by intro j; simp [upa, C 92 j]
          have B93 : ∀ j, M_pass l f t u b ν 93 j = if j = (μ 84 14).toNatClampNeg then b &&& 1 else μ 93 j := by intro j; simp [upa, C 93 j]
          have B159 : ∀ j, M_pass l f t u b ν 159 j = if j = (μ 84 14).toNatClampNeg then l else μ 159 j := by intro j; simp [upa, C 159 j, e9]
          have B160 : ∀ j, M_pass l f t u b ν 160 j = if j = (μ 84 14).toNatClampNeg then f else μ 160 j := by intro j; simp [upa, C 160 j, e9]
          have B161 : ∀ j, M_pass l f t u b ν 161 j = if j = (μ 84 14).toNatClampNeg then t else μ 161 j := by intro j; simp [upa, C 161 j, e9]
          have B162 : ∀ j, M_pass l f t u b ν 162 j = if j = (μ 84 14).toNatClampNeg then u else μ 162 j := by intro j; simp [upa, C 162 j, e9]
          have B163 : ∀ j, M_pass l f t u b ν 163 j = if j = (μ 84 14).toNatClampNeg then b &&& 1 else μ 163 j := by intro j; simp [upa, C 163 j, e9]
          have r85 := A1 85 (by decide) (by decide) (by decide) (by decide) (by decide) (by decide) (by decide) (by decide) (by decide) (by decide) (by decide) (by decide) (by decide) (by decide) (by decide) (by decide) (by decide)
          have r86 := A1 86 (by decide) (by decide) (by decide) (by decide) (by decide) (by decide) (by decide) (by decide) (by decide) (by decide) (by decide) (by decide) (by decide) (by decide) (by decide) (by decide) (by decide)
          have r157 := A1 157 (by decide) (by decide) (by decide) (by decide) (by decide) (by decide) (by decide) (by decide) (by decide) (by decide) (by decide) (by decide) (by decide) (by decide) (by decide) (by decide) (by decide)
          have r158 := A1 158 (by decide) (by decide) (by decide) (by decide) (by decide) (by decide) (by decide) (by decide) (by decide) (by decide) (by decide) (by decide) (by decide) (by decide) (by decide) (by decide) (by decide)
          generalize M_pass l f t u b ν = ρ at A1 B13 B14 B8 B9 B87 B88 B89 B90 B91 B92 B93 B159 B160 B161 B162 B163 r85 r86 r157 r158
          have same : ∀ k, ltThere ρ k (μ 84 14).toNatClampNeg = ltThere μ k (μ 84 14).toNatClampNeg ∧ ltEver ρ k (μ 84 14).toNatClampNeg = ltEver μ k (μ 84 14).toNatClampNeg := by
            intro k
            exact lt_cong (by rw [r85]) (by rw [r86]) _ (fun j hj => ⟨by rw [B89, if_neg (by omega)], by rw [B90, if_neg (by omega)], by rw [B91, if_neg (by omega)], by rw [B92, if_neg (by omega)]⟩)
          have hb2 := and1_01 b hbb
          refine ⟨⟨by grind, by grind, by grind, ?_⟩, ⟨by grind, by grind, by grind, ?_⟩, ?_, ?_, ?_⟩
          · intro j hj
            rw [B13] at hj
            rw [r157, r158, r85, r86]
            exact hlt j hj
          · intro j hj
            rw [B14, hs] at hj
            rw [B159, B160, B161, B162, B163, B89, B90, B91, B92, B93, B13, hb2]
            by_cases hjj : j = (μ 84 14).toNatClampNeg
            · simp only [if_pos hjj]
              grind
            · simp only [if_neg hjj]
              exact hp j (by omega)
          · intro k hk c hcc
            rw [B13] at hk
            rw [B14, hs, B88]
            simp only [ltThere]
            rw [B89, B90, B91, B92, if_pos rfl, if_pos rfl, if_pos rfl, if_pos rfl, (same k).1]
            have e88 := h88 k hk c hcc
            by_cases hkl : k = l.toNatClampNeg
            · subst hkl
              rw [if_pos (show l = nI l.toNatClampNeg from el.symm)]
              simp only [Nat.add_right_inj]
              by_cases h1 : c = t.toNatClampNeg
              · subst h1
                simp only [if_true, e88]
              · by_cases h2 : c = f.toNatClampNeg
                · subst h2
                  simp only [if_neg h1, if_true, e88]
                · simp only [if_neg h1, if_neg h2, e88]
            · rw [if_neg (show ¬ l = nI k by
                intro h
                rw [h, nI_clamp (by omega)] at hkl
                exact hkl rfl), if_neg (by omega), if_neg (by omega)]
              exact e88
          · intro k hk
            rw [B13] at hk
            rw [B14, hs, B87]
            simp only [ltEver]
            rw [B89, B91, if_pos rfl, if_pos rfl, (same k).2]
            have e87 := h87 k hk
            by_cases hkl : k = l.toNatClampNeg
            · subst hkl
              rw [if_pos (show l = nI l.toNatClampNeg from el.symm), if_pos rfl, e87]
            · rw [if_neg (show ¬ l = nI k by
                intro h
                rw [h, nI_clamp (by omega)] at hkl
                exact hkl rfl), if_neg hkl]
              exact e87
          · intro k hk hk2 c hcc
            rw [B13] at hk
            rw [B88, if_neg (by omega), if_neg (by omega)]
            exact hz k hk hk2 c hcc
        · obtain ⟨ν, f2, f3, f4⟩ := mbase μ ⟨rfl, rfl, rfl, rfl, rfl, rfl, rfl, rfl, rfl, rfl⟩ n0 u3
          rw [if_neg hc] at f4
          exact ⟨0, μ, ν, by rw [base, if_neg hc], f4, G6.fr1 (w_fM_follows f3) rfl g6'⟩
      · refine ⟨0, μ, μ, ?_, ?_, g6'⟩
        · unfold fB_pass fLots_move
          simp only [cx1, Option.bind_some, l_isIn]
          rw [if_neg (by grind), if_neg (by decide)]
          by_cases k1 : f = t
          · rw [if_pos k1]; exact pf0 μ
          · rw [if_neg k1]
            by_cases k2 : 1 ≤ u
            · rw [if_pos k2]
              by_cases k3 : 0 ≤ f ∧ f < μ 76 8
              · rw [b2i_t k3, b2i_f (fun k4 => hh ⟨k1, k2, k3, k4⟩), if_neg (by decide), if_pos rfl]
                exact pf0 μ
              · rw [b2i_f k3, if_pos rfl]; exact pf0 μ
            · rw [if_neg k2]; exact pf0 μ
        · have d1 : fM_isLot l μ = some (1, μ) := by rw [l_isLot, b2i_t (by rw [n0]; grind)]
          unfold fM_pass
          simp only [d1, Option.bind_some, l_isKitchen, u3]
          rw [if_neg (by grind), if_neg (by decide)]
          by_cases k3 : 0 ≤ f ∧ f < μ 76 8
          · rw [b2i_t (show 0 ≤ f ∧ f ≤ μ 76 8 - 1 by grind), if_neg (by decide)]
            by_cases k4 : 0 ≤ t ∧ t < μ 76 8
            · rw [b2i_t (show 0 ≤ t ∧ t ≤ μ 76 8 - 1 by grind), if_neg (by decide)]
              by_cases k1 : f = t
              · rw [if_pos k1]
              · rw [if_neg k1, if_neg (fun k2 => hh ⟨k1, k2, k3, k4⟩)]
            · rw [b2i_f (show ¬ (0 ≤ t ∧ t ≤ μ 76 8 - 1) by grind), if_pos rfl]
          · rw [b2i_f (show ¬ (0 ≤ f ∧ f ≤ μ 76 8 - 1) by grind), if_pos rfl]
    · have c1 : fB_isIn l (μ 84 13) μ = some (0, μ) := by rw [l_isIn, b2i_f hl]
      have d1 : fM_isLot l μ = some (0, μ) := by rw [l_isLot, b2i_f (by rw [n0]; grind)]
      exact ⟨0, μ, μ, by
        unfold fB_pass fLots_move
        rw [if_neg (by grind), c1, Option.bind_some]
        dsimp only
        rw [if_pos rfl]
        exact pf0 μ, by simp only [fM_pass, d1, Option.bind_some]; grind, g6'⟩
  · refine ⟨0, μ, μ, ?_, ?_, g6'⟩
    · unfold fB_pass fLots_move
      rw [if_pos (by grind)]
      exact pf0 μ
    · unfold fM_pass
      rw [if_pos (by grind)]
