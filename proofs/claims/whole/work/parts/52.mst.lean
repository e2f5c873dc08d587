/-! E: the tour, the reference: the stops -/
def tdL (μ : am_Mu) (D a : Int32) : Nat → List Nat
  | 0 => []
  | k + 1 => if todB μ D a k then tdL μ D a k ++ [k] else tdL μ D a k
theorem tdL_len (μ : am_Mu) (D a : Int32) : ∀ k, (tdL μ D a k).length ≤ k := by
  intro k
  induction k with
  | zero => exact Nat.le_refl _
  | succ k ih =>
    unfold tdL
    split
    · rw [List.length_append]
      exact Nat.succ_le_succ ih
    · omega
theorem tdL_mem {μ : am_Mu} {D a : Int32} {x : Nat} : ∀ k, x ∈ tdL μ D a k ↔ x < k ∧ todB μ D a x := by
  intro k
  induction k with
  | zero => unfold tdL; simp
  | succ k ih =>
    unfold tdL
    split
    · rename_i h
      rw [List.mem_append, ih, List.mem_singleton]
      constructor
      · rintro (⟨h1, h2⟩ | rfl)
        · exact ⟨by omega, h2⟩
        · exact ⟨by omega, h⟩
      · rintro ⟨h1, h2⟩
        by_cases hx : x = k
        · exact Or.inr hx
        · exact Or.inl ⟨by omega, h2⟩
    · rename_i h
      rw [ih]
      constructor
      · rintro ⟨h1, h2⟩
        exact ⟨by omega, h2⟩
      · rintro ⟨h1, h2⟩
        refine ⟨?_, h2⟩
        by_cases hx : x = k
        · subst hx
          exact absurd h2 h
        · omega
theorem tdL_inc {μ : am_Mu} {D a : Int32} : ∀ k, (tdL μ D a k).Pairwise (· < ·) := by
  intro k
  induction k with
  | zero => unfold tdL; exact List.Pairwise.nil
  | succ k ih =>
    unfold tdL
    split
    · refine List.pairwise_append.mpr ⟨ih, List.pairwise_singleton _ _, ?_⟩
      intro x hx y hy
      rw [List.mem_singleton.mp hy]
      exact ((tdL_mem k).mp hx).1
    · exact ih
def FrV (ν μ : am_Mu) : Prop := (∀ a, ¬ a = 173 → ¬ a = 108 → ν a = μ a) ∧ ∀ j, ¬ j = 88 → ν 108 j = μ 108 j
theorem FrV.app {ν μ : am_Mu} {i : Nat} {x y : Int32} (h : FrV ν μ) : FrV (am_up (am_up ν 173 i x) 108 88 y) μ := by
  refine ⟨?_, ?_⟩
  · intro a h1 h2
    rw [← h.1 a h1 h2]
    funext j
    simp only [upa]
    grind
  · intro j hj
    rw [← h.2 j hj]
    simp only [upa]
    grind
theorem FrV.mv {ν β μ : am_Mu} (h : FrV ν β) (k : MV β μ) : MV ν μ := by
  obtain ⟨⟨k1, k2, k3, k4, k5, k6⟩, k7, k8, k9, k10, k11⟩ := k
  refine ⟨⟨?_, ?_, ?_, ?_, ?_, ?_⟩, ?_, ?_, ?_, ?_, ?_⟩
  · rw [h.2 2 (by decide)]; exact k1
  · rw [h.2 7 (by decide)]; exact k2
  · rw [h.2 10 (by decide)]; exact k3
  · rw [h.2 11 (by decide)]; exact k4
  · rw [h.2 12 (by decide)]; exact k5
  · rw [h.2 13 (by decide)]; exact k6
  · rw [h.1 152 (by decide) (by decide)]; exact k7
  · rw [h.1 167 (by decide) (by decide)]; exact k8
  · rw [h.1 169 (by decide) (by decide)]; exact k9
  · rw [h.1 170 (by decide) (by decide)]; exact k10
  · rw [h.1 171 (by decide) (by decide)]; exact k11
theorem m_stops {μ β : am_Mu} (g5 : G5 μ) (g8 : G8 μ) (mv : MV β μ) {D a : Int32} (hD : μ 108 2 / 1440 = D) (ha : 0 ≤ a) {nK : Nat} (hK : μ 76 8 = nI nK) (hK8 : nK ≤ 8) : ∀ q k n (ν : am_Mu), k + q = nK → q < n → FrV ν β → RowIs (ν 173) ((tdL μ D a k).map nI) → ν 108 88 = nI (tdL μ D a k).length → ∃ ν', fM_tours_7 n a (nI k) ν = fM_tours_82 ν' ∧ FrV ν' β ∧ RowIs (ν' 173) ((tdL μ D a nK).map nI) ∧ ν' 108 88 = nI (tdL μ D a nK).length := by
  have g8' := g8
  obtain ⟨-, -, u3, -⟩ := g5
  obtain ⟨⟨n1, n2, -⟩, h170, -⟩ := g8
  have n4 : (μ 102 7).toNatClampNeg ≤ 400 := nt_le (b := 400) n1 n2
  intro q
  induction q with
  | zero =>
    intro k n ν h1 h2 h3 h4 h5
    obtain ⟨n, rfl⟩ : ∃ k, n = k + 1 := ⟨n - 1, by omega⟩
    have e : k = nK := by omega
    subst e
    refine ⟨ν, ?_, h3, h4, h5⟩
    rw [fM_tours_7, (h3.mv mv).1.2.1, u3, hK, if_pos (Int32.le_refl _)]
  | succ q ih =>
    intro k n ν h1 h2 h3 h4 h5
    obtain ⟨n, rfl⟩ : ∃ k, n = k + 1 := ⟨n - 1, by omega⟩
    have hlt : ¬ nI nK ≤ nI k := by
      rw [nI_le_iff (by omega) (by omega)]
      omega
    have lk := tdL_len μ D a k
    have mvν := h3.mv mv
    obtain ⟨r, l1, l2⟩ := m_latest g8' mvν (show k < 8 by omega)
    obtain ⟨⟨e2, e7, -⟩, -, -, -, e170, e171⟩ := mvν
    have ek : nI k + 1 = nI (k + 1) := nI_plus k 1
    rw [fM_tours_7, e7, u3, hK, if_neg hlt, l1, Option.bind_some]
    dsimp only
    have skip : ¬ todB μ D a k → ∃ ν', fM_tours_76 (fM_tours_7 n) a (nI k) ν = fM_tours_82 ν' ∧ FrV ν' β ∧ RowIs (ν' 173) ((tdL μ D a nK).map nI) ∧ ν' 108 88 = nI (tdL μ D a nK).length := by
      intro hc
      unfold fM_tours_76
      have e : tdL μ D a (k + 1) = tdL μ D a k := by rw [tdL, if_neg hc]
      rw [ek]
      exact ih (k + 1) n ν (by omega) (by omega) h3 (by rw [e]; exact h4) (by rw [e]; exact h5)
    rcases l2 with ⟨r1, r2, r3⟩ | ⟨i, r1, r2, -, r4, r5⟩
    · rw [if_pos r1]
      refine skip ?_
      rintro ⟨q1, -⟩
      rw [r2] at q1
      rw [← q1] at ha
      exact absurd ha (by decide)
    · have hne : ¬ r = -1 := by
        rw [r2]
        intro h
        have := nI_pos' (n := i) (by omega)
        rw [h] at this
        exact absurd this (by decide)
      have hb : am_inb r 400 = true := by rw [r2]; exact inb_n (by omega) (by omega)
      have hi : r.toNatClampNeg = i := by rw [r2, nI_clamp (by omega)]
      have q1 : (ν 170 i = a) ↔ (μ 105 k = a) := by rw [e170, ← r4]
      have q2 : (ν 171 i = ν 108 2 / 1440) ↔ (μ 106 k = D) := by rw [e171, e2, hD, ← r5]
      rw [if_neg hne, hb, cond_true, hi]
      by_cases c1 : μ 105 k = a
      · rw [if_neg (fun h => h (q1.mpr c1))]
        by_cases c2 : μ 106 k = D
        · have e : tdL μ D a (k + 1) = tdL μ D a k ++ [k] := by rw [tdL, if_pos ⟨c1, c2⟩]
          rw [if_pos (q2.mpr c2), h5, inb_n (by omega) (by omega), cond_true, nI_clamp (show (tdL μ D a k).length < 2 ^ 31 by omega)]
          unfold fM_tours_76
          rw [ek, show nI (tdL μ D a k).length + 1 = nI ((tdL μ D a k).length + 1) from nI_plus _ 1]
          refine ih (k + 1) n _ (by omega) (by omega) h3.app ?_ ?_
          · rw [e, List.map_append]
            refine h4.app ?_
            intro j
            rw [List.length_map]
            simp only [upa]
            grind
          · rw [e, List.length_append]
            simp [upa]
        · rw [if_neg (fun h => c2 (q2.mp h))]
          exact skip (fun h => c2 h.2)
      · rw [if_pos (fun h => c1 (q1.mp h))]
        exact skip (fun h => c1 h.1)
