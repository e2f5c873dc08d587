/-! E: the tour, the reference: all sets -/
theorem sh9F : ∀ n : Fin 9, (1 : Int32) <<< (nI n.val &&& 31) = nI (2 ^ n.val) := by decide +kernel
theorem sh9 {n : Nat} (h : n ≤ 8) : (1 : Int32) <<< (nI n &&& 31) = nI (2 ^ n) := sh9F ⟨n, by omega⟩
theorem p2_le {n : Nat} (h : n ≤ 8) : 2 ^ n ≤ 256 := Nat.pow_le_pow_right (n := 2) (i := n) (j := 8) (by decide) h
theorem mem_lt {T n i : Nat} (hT : T < 2 ^ n) (hb : hasB T i) : i < n := by
  by_cases h : i < n
  · exact h
  · have h1 : 2 ^ n ≤ 2 ^ i := Nat.pow_le_pow_right (by decide) (by omega)
    have h2 : T / 2 ^ i = 0 := Nat.div_eq_of_lt (by omega)
    rw [hasB, h2] at hb
    exact absurd hb (by decide)
def MstP (d : Nat → Nat → Int32) (ν : am_Mu) (T : Nat) : Prop := ∀ R, R < T → ∀ i, i < 8 → hasB R i → ν 174 (8 * R + i) = wW d R i
theorem m_set {ks : Nat → Nat} {n : Nat} (hn : n ≤ 8) {β μ : am_Mu} (h173 : ∀ i, i < n → β 173 i = nI (ks i)) (hk : ∀ i, i < n → ks i < 8) (e154 : ∀ k, k < 8 → β 154 k = μ 79 k) (e155 : ∀ k, k < 8 → β 155 k = μ 80 k) (e88 : β 108 88 = nI n) {k84 : Int32 → am_Mu → Option am_Mu} {T : Nat} (hT : T < 2 ^ n) : ∀ q i f (ν : am_Mu), i + q = n → q < f → FrR 174 ν β → MstP (fun i j => dK μ (ks i) (ks j)) ν T → (∀ j, j < i → hasB T j → ν 174 (8 * T + j) = wW (fun i j => dK μ (ks i) (ks j)) T j) → ∃ ν', fM_tours_96 f k84 (nI T) (nI i) ν = k84 (nI (T + 1)) ν' ∧ FrR 174 ν' β ∧ MstP (fun i j => dK μ (ks i) (ks j)) ν' (T + 1) := by
  have hT2 := p2_le hn
  intro q
  induction q with
  | zero =>
    intro i f ν h1 h2 h3 h4 h5
    obtain ⟨f, rfl⟩ : ∃ k, f = k + 1 := ⟨f - 1, by omega⟩
    have e : i = n := by omega
    subst e
    refine ⟨ν, ?_, h3, ?_⟩
    · rw [fM_tours_96, h3 108 (by decide), e88, if_pos (Int32.le_refl _)]
      unfold fM_tours_224
      rw [show nI T + 1 = nI (T + 1) from nI_plus T 1]
    · intro R hR j hj hb
      by_cases hRT : R = T
      · subst hRT
        exact h5 j (mem_lt hT hb) hb
      · exact h4 R (by omega) j hj hb
  | succ q ih =>
    intro i f ν h1 h2 h3 h4 h5
    obtain ⟨f, rfl⟩ : ∃ k, f = k + 1 := ⟨f - 1, by omega⟩
    have hi : i < n := by omega
    have hlt : ¬ nI n ≤ nI i := by
      rw [nI_le_iff (by omega) (by omega)]
      omega
    obtain ⟨c1, c2, c3⟩ := clr8 (b := T) (v := i) (by omega) (by omega)
    rw [fM_tours_96, h3 108 (by decide), e88, if_neg hlt, c1]
    have fin : ∀ v, (hasB T i → v = wW (fun i j => dK μ (ks i) (ks j)) T i) → ∃ ν', fM_tours_205 k84 (fM_tours_96 f k84) (nI T) (nI i) v ν = k84 (nI (T + 1)) ν' ∧ FrR 174 ν' β ∧ MstP (fun i j => dK μ (ks i) (ks j)) ν' (T + 1) := by
      intro v hv
      have eix : (8 : Int32) * nI T + nI i = nI (8 * T + i) := by
        show nI 8 * _ + nI i = _
        rw [nI_mul, nI_plus]
      unfold fM_tours_205
      rw [eix, inb_n (by omega) (by omega), cond_true, nI_clamp (show 8 * T + i < 2 ^ 31 by omega), show nI i + 1 = nI (i + 1) from nI_plus i 1]
      refine ih (i + 1) f _ (by omega) (by omega) h3.up ?_ ?_
      · intro R hR j hj hb
        simp only [upa]
        rw [if_neg (by omega)]
        exact h4 R hR j hj hb
      · intro j hj hb
        simp only [upa]
        by_cases hji : j = i
        · subst hji
          rw [if_pos ⟨trivial, rfl⟩]
          exact hv hb
        · rw [if_neg (by omega)]
          exact h5 j (by omega) hb
    by_cases hb : hasB T i
    · have hs := m_tset (ks := ks) hn (ν := ν) (μ := μ) (by rw [h3 173 (by decide)]; exact h173) hk (by rw [h3 154 (by decide)]; exact e154) (by rw [h3 155 (by decide)]; exact e155) (by rw [h3 108 (by decide)]; exact e88) (k84 := k84) (k96 := fM_tours_96 f k84) (T := T) (i := i) (by omega) hi hb n 0 am_F (by omega) (by unfold am_F; omega)
      rw [nearB] at hs
      change fM_tours_122 am_F k84 (fM_tours_96 f k84) (nI T) (nI i) 0 (nI (clrB T i)) 0 0 ν = _ at hs
      rw [hs]
      refine fin _ ?_
      intro _
      have we := wW_eq (d := fun i j => dK μ (ks i) (ks j)) (S := T) (k := i) (by omega) (by omega) hb
      have hlc := (card8 (b := T) (k := i) (by omega) (by omega) hb).2
      have e1 : nearB (fun j => dK μ (ks i) (ks j) + ν 174 (8 * clrB T i + j)) (clrB T i) n = nearB (fun j => dK μ (ks i) (ks j) + wW (fun i j => dK μ (ks i) (ks j)) (clrB T i) j) (clrB T i) 8 := by
        rw [near_ext hn (fun j hj hs => mem_lt hT ((c3 j hj).mp hs).2)]
        refine near_congr ?_
        intro j hj hs
        rw [h4 (clrB T i) hlc j (by omega) hs]
      have np := near_p (fun j => dK μ (ks i) (ks j) + wW (fun i j => dK μ (ks i) (ks j)) (clrB T i) j) (clrB T i) 8
      rw [e1, we]
      cases hq : nearB (fun j => dK μ (ks i) (ks j) + wW (fun i j => dK μ (ks i) (ks j)) (clrB T i) j) (clrB T i) 8 with
      | none => rfl
      | some b =>
        rw [hq] at np
        show dK μ (ks i) (ks b) + ν 174 (8 * clrB T i + b) = _
        rw [h4 (clrB T i) hlc b np.1 np.2.1]
    · obtain ⟨g, hg⟩ : ∃ g, am_F = g + 1 := ⟨99999, rfl⟩
      have h0 : ¬ nI n ≤ (0 : Int32) := by
        rw [show (0 : Int32) = nI 0 from rfl, nI_le_iff (by omega) (by omega)]
        omega
      rw [hg, fM_tours_122, h3 108 (by decide), e88, if_neg h0, l_has (by omega) (by omega), Option.bind_some, b2i_f hb]
      dsimp only
      rw [if_pos rfl]
      exact fin 0 (fun h => absurd h hb)
theorem m_sets {ks : Nat → Nat} {n : Nat} (hn : n ≤ 8) {β μ : am_Mu} (h173 : ∀ i, i < n → β 173 i = nI (ks i)) (hk : ∀ i, i < n → ks i < 8) (e154 : ∀ k, k < 8 → β 154 k = μ 79 k) (e155 : ∀ k, k < 8 → β 155 k = μ 80 k) (e88 : β 108 88 = nI n) : ∀ q T f (ν : am_Mu), T + q = 2 ^ n → q < f → FrR 174 ν β → MstP (fun i j => dK μ (ks i) (ks j)) ν T → ∃ ν', fM_tours_84 f (nI T) ν = some ν' ∧ FrR 174 ν' β ∧ MstP (fun i j => dK μ (ks i) (ks j)) ν' (2 ^ n) := by
  have hT2 := p2_le hn
  intro q
  induction q with
  | zero =>
    intro T f ν h1 h2 h3 h4
    obtain ⟨f, rfl⟩ : ∃ k, f = k + 1 := ⟨f - 1, by omega⟩
    have e : T = 2 ^ n := by omega
    refine ⟨ν, ?_, h3, by rw [← e]; exact h4⟩
    rw [fM_tours_84, h3 108 (by decide), e88, sh9 hn, e, if_pos (Int32.le_refl _)]
  | succ q ih =>
    intro T f ν h1 h2 h3 h4
    obtain ⟨f, rfl⟩ : ∃ k, f = k + 1 := ⟨f - 1, by omega⟩
    have hlt : ¬ nI (2 ^ n) ≤ nI T := by
      rw [nI_le_iff (by omega) (by omega)]
      omega
    rw [fM_tours_84, h3 108 (by decide), e88, sh9 hn, if_neg hlt]
    obtain ⟨ν', m1, m2, m3⟩ := m_set hn h173 hk e154 e155 e88 (k84 := fM_tours_84 f) (T := T) (by omega) n 0 am_F ν (by omega) (by unfold am_F; omega) h3 h4 (fun j hj => absurd hj (by omega))
    change fM_tours_96 am_F (fM_tours_84 f) (nI T) 0 ν = _ at m1
    rw [m1]
    exact ih (T + 1) f ν' (by omega) (by omega) m2 m3
