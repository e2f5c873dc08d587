/-! E: today's kitchens of a visitor; kitchens that are not yet have no visit -/
def G10 (μ : am_Mu) : Prop := ∀ k, (μ 76 8).toNatClampNeg ≤ k → k < 8 → μ 105 k = -1
def foot10 : List (Nat × Nat) := [(76, 8), (105, 999)]
theorem G10.fr {μ μ' : am_Mu} (h : am_ag foot10 μ μ') (g : G10 μ) : G10 μ' := by
  have e0 : μ' 76 8 = μ 76 8 := h.2 (76, 8) (by decide) (by decide)
  have e1 : μ' 105 = μ 105 := h.1 (105, 999) (by decide) rfl
  simp only [G10, e0, e1]
  exact g
theorem G10.fr1 {l : List (Nat × Nat)} {μ μ1 : am_Mu} (h : am_fr l μ μ1) (d : am_dis l foot10 = true) (g : G10 μ) : G10 μ1 := G10.fr (h.ag d) g
theorem G10.fr2 {l l2 : List (Nat × Nat)} {μ μ1 μ2 : am_Mu} (h : am_fr l μ μ1) (h2 : am_fr l2 μ1 μ2) (d : am_dis l foot10 = true) (d2 : am_dis l2 foot10 = true) (g : G10 μ) : G10 μ2 := G10.fr ((h.ag d).trans (h2.ag d2)) g
abbrev todB (μ : am_Mu) (D a : Int32) (k : Nat) : Prop := μ 105 k = a ∧ μ 106 k = D
theorem x_mask {μ : am_Mu} (g8 : G8 μ) {a : Int32} (ha : 0 ≤ a) : ∃ m, m < 256 ∧ fVisits_kitchensOn (μ 0 11 / 1440) a μ = some (nI m, μ) ∧ ∀ k, k < 8 → (hasB m k ↔ todB μ (μ 0 11 / 1440) a k) := by
  obtain ⟨⟨n1, n2, -⟩, h2, h3, h4⟩ := g8
  have n4 : (μ 102 7).toNatClampNeg ≤ 400 := nt_le (b := 400) n1 n2
  have key : ∀ q i n m, i + q = (μ 102 7).toNatClampNeg → q < n → m < 256 → (∀ k, k < 8 → (hasB m k ↔ ∃ i', i' < i ∧ μ 169 i' = nI k ∧ μ 171 i' = μ 0 11 / 1440 ∧ μ 170 i' = a)) → ∃ m', m' < 256 ∧ fVisits_kitchensOn_5 n (μ 0 11 / 1440) a (nI m) (nI i) μ = some (nI m', μ) ∧ ∀ k, k < 8 → (hasB m' k ↔ ∃ i', i' < (μ 102 7).toNatClampNeg ∧ μ 169 i' = nI k ∧ μ 171 i' = μ 0 11 / 1440 ∧ μ 170 i' = a) := by
    intro q
    induction q with
    | zero =>
      intro i n m h5 h6 h7 h8
      obtain ⟨n, rfl⟩ : ∃ k, n = k + 1 := ⟨n - 1, by omega⟩
      have e : i = (μ 102 7).toNatClampNeg := by omega
      refine ⟨m, h7, ?_, ?_⟩
      · rw [fVisits_kitchensOn_5, e, nI_nt n1, if_pos (Int32.le_refl _)]
      · rw [← e]
        exact h8
    | succ q ih =>
      intro i n m h5 h6 h7 h8
      obtain ⟨n, rfl⟩ : ∃ k, n = k + 1 := ⟨n - 1, by omega⟩
      have hi : i < (μ 102 7).toNatClampNeg := by omega
      have hlt : ¬ μ 102 7 ≤ nI i := by
        rw [← nI_nt n1, nI_le_iff (by omega) (by omega)]
        omega
      obtain ⟨⟨k1, k2⟩, ⟨v1, v2⟩, e3, e4, -⟩ := h2 i hi
      obtain ⟨d1, d2⟩ := two_div k1 k2 v1 v2
      have ek : nI i + 1 = nI (i + 1) := nI_plus i 1
      rw [fVisits_kitchensOn_5, if_neg hlt, inb_n (by omega) (by omega), cond_true, nI_clamp (show i < 2 ^ 31 by omega), e4]
      have skip : ¬ (μ 171 i = μ 0 11 / 1440 ∧ μ 170 i = a) → ∃ m', m' < 256 ∧ fVisits_kitchensOn_46 (fVisits_kitchensOn_5 n) (μ 0 11 / 1440) a (nI m) (nI i) μ = some (nI m', μ) ∧ ∀ k, k < 8 → (hasB m' k ↔ ∃ i', i' < (μ 102 7).toNatClampNeg ∧ μ 169 i' = nI k ∧ μ 171 i' = μ 0 11 / 1440 ∧ μ 170 i' = a) := by
        intro hno
        unfold fVisits_kitchensOn_46
        rw [ek]
        refine ih (i + 1) n m (by omega) (by omega) h7 ?_
        intro k hk
        rw [h8 k hk]
        constructor
        · rintro ⟨i', q1, q2⟩
          exact ⟨i', by omega, q2⟩
        · rintro ⟨i', q1, q2, q3⟩
          by_cases hii : i' = i
          · subst hii
            exact absurd q3 hno
          · exact ⟨i', by omega, q2, q3⟩
      by_cases c1 : μ 171 i = μ 0 11 / 1440
      · rw [if_neg (by simpa using c1)]
        unfold fVisits_visitorOf fVisits_kitchenOf
        rw [inb_n (by omega) (by omega), cond_true, nI_clamp (show i < 2 ^ 31 by omega), e3, Option.bind_some]
        dsimp only
        rw [d2]
        by_cases c2 : μ 170 i = a
        · rw [if_neg (by simpa using c2), cond_true, Option.bind_some]
          dsimp only
          rw [e3, d1]
          have lk : (μ 169 i).toNatClampNeg < 8 := nt_lt (b := 8) k1 k2
          obtain ⟨o1, o2, o3⟩ := or8 h7 lk
          rw [nI_nt k1] at o1
          unfold fVisits_kitchensOn_46
          rw [o1, ek]
          refine ih (i + 1) n _ (by omega) (by omega) o2 ?_
          intro k hk
          rw [o3 k hk, h8 k hk]
          constructor
          · rintro (q1 | ⟨i', q1, q2⟩)
            · exact ⟨i, by omega, by rw [q1, nI_nt k1], c1, c2⟩
            · exact ⟨i', by omega, q2⟩
          · rintro ⟨i', q1, q2, q3⟩
            by_cases hii : i' = i
            · subst hii
              left
              rw [q2, nI_clamp (by omega)]
            · exact Or.inr ⟨i', by omega, q2, q3⟩
        · rw [if_pos c2]
          exact skip (fun h => c2 h.2)
      · rw [if_pos c1]
        exact skip (fun h => c1 h.1)
  obtain ⟨m, m1, m2, m3⟩ := key (μ 102 7).toNatClampNeg 0 am_F 0 (by omega) (by unfold am_F; omega) (by omega) (by
    intro k hk
    constructor
    · intro h
      rw [hasB, Nat.zero_div] at h
      exact absurd h (by decide)
    · rintro ⟨i', q1, -⟩
      omega)
  refine ⟨m, m1, m2, ?_⟩
  intro k hk
  rw [m3 k hk]
  constructor
  · rintro ⟨i, q1, q2, q3, q4⟩
    rcases h4 k hk with ⟨-, -, z3⟩ | ⟨i0, z1, z2, z3, z4, z5⟩
    · exact absurd q2 (z3 i q1)
    · have e : i = i0 := by
        rcases Nat.lt_trichotomy i i0 with c | c | c
        · have w1 := (h3 i i0 c z1).2 (by rw [q2, z2])
          have w2 := (h2 i0 z1).2.2.2.2.2
          rw [q3] at w1
          exact absurd w1 (Int32.not_lt.mpr w2)
        · exact c
        · exact absurd q2 (z5 i c q1)
      subst e
      exact ⟨by rw [z3, q4], by rw [z4, q3]⟩
  · rintro ⟨q1, q2⟩
    rcases h4 k hk with ⟨z1, -, -⟩ | ⟨i0, z1, z2, z3, z4, z5⟩
    · rw [z1] at q1
      rw [← q1] at ha
      exact absurd ha (by decide)
    · exact ⟨i0, z1, z2, by rw [← z4, q2], by rw [← z3, q1]⟩
