/-! E: events in their order -/
def evOK (e : Int32) : Prop := 0 ≤ e ∧ e < 210
def evGd (μ : am_Mu) (e : Int32) : Prop := evOK e ∧ 0 ≤ evMin μ e ∧ evMin μ e < 1440000
abbrev aheadX (μ : am_Mu) (a b : Int32) : Prop := evMin μ a < evMin μ b ∨ (evMin μ a = evMin μ b ∧ a < b)
def evM (μ : am_Mu) (f : Int32) : Int32 := if 1000 ≤ f then μ 141 (f - 1000).toNatClampNeg else μ 135 f.toNatClampNeg
def rfOK (f : Int32) : Prop := (0 ≤ f ∧ f < 200) ∨ (1000 ≤ f ∧ f < 1010)
abbrev aheadM (μ : am_Mu) (f g : Int32) : Prop := evM μ f < evM μ g ∨ (evM μ f = evM μ g ∧ ((1000 ≤ f ∧ g < 1000) ∨ ((1000 ≤ f ↔ 1000 ≤ g) ∧ f < g)))
theorem l_minuteX {μ : am_Mu} {e : Int32} (h : evOK e) : fLedger_minuteOf e μ = some (evMin μ e, μ) := by
  unfold fLedger_minuteOf fLedger_isMistake evMin
  by_cases h10 : e < 10
  · rw [if_neg (by grind), Option.bind_some]
    dsimp only
    rw [if_neg (by decide), inb_t (n := 10) h.1 (nt_lt (b := 10) h.1 h10), cond_true, if_pos h10]
  · rw [if_pos (by grind), Option.bind_some]
    dsimp only
    obtain ⟨h1, h2⟩ := h
    have h3 : 0 ≤ e - 10 := by grind
    have h4 : e - 10 < 200 := by grind
    rw [if_pos rfl, inb_t (n := 200) h3 (nt_lt (b := 200) h3 h4), cond_true, if_neg h10]
theorem l_minuteM {μ : am_Mu} {f : Int32} (h : rfOK f) : fM_minuteOf f μ = some (evM μ f, μ) := by
  unfold fM_minuteOf evM
  by_cases h10 : 1000 ≤ f
  · have h3 : 0 ≤ f - 1000 := by grind
    have h4 : f - 1000 < 10 := by rcases h with h | h <;> grind
    rw [if_pos h10, if_pos h10, inb_t (n := 10) h3 (nt_lt (b := 10) h3 h4), cond_true]
  · have h3 : 0 ≤ f := by rcases h with h | h <;> grind
    have h4 : f < 200 := by rcases h with h | h <;> grind
    rw [if_neg h10, if_neg h10, inb_t (n := 200) h3 (nt_lt (b := 200) h3 h4), cond_true]
theorem l_comesAhead {μ : am_Mu} {a b : Int32} (ha : evGd μ a) (hb : evGd μ b) : fLedger_comesAhead a b μ = some (b2i (aheadX μ a b), μ) := by
  unfold fLedger_comesAhead
  rw [l_minuteX ha.1, Option.bind_some]
  dsimp only
  rw [l_minuteX hb.1, Option.bind_some]
  dsimp only
  obtain ⟨-, a1, a2⟩ := ha
  obtain ⟨-, b1, b2⟩ := hb
  unfold fLedger_comesAhead_25 fLedger_comesAhead_29 b2i aheadX
  grind
theorem l_isAhead {μ : am_Mu} {f g : Int32} (hf : rfOK f) (hg : rfOK g) : fM_isAhead f g μ = some (b2i (aheadM μ f g), μ) := by
  unfold fM_isAhead fM_isAhead_44 fM_isAhead_56
  simp only [l_minuteM hf, l_minuteM hg, Option.bind_some]
  unfold b2i aheadM
  grind
/-- two numbers of one event each: the orders are one order -/
theorem ahead_rel {μ : am_Mu} {a b f g : Int32} (h : (0 ≤ a ∧ a < 10 ∧ f = 1000 + a) ∨ (10 ≤ a ∧ a < 210 ∧ f = a - 10)) (k : (0 ≤ b ∧ b < 10 ∧ g = 1000 + b) ∨ (10 ≤ b ∧ b < 210 ∧ g = b - 10)) (e1 : evM μ f = evMin μ a) (e2 : evM μ g = evMin μ b) : aheadM μ f g ↔ aheadX μ a b := by
  unfold aheadM aheadX
  rw [e1, e2]
  generalize evMin μ a = x
  generalize evMin μ b = y
  rcases h with ⟨h1, h2, rfl⟩ | ⟨h1, h2, rfl⟩ <;> rcases k with ⟨k1, k2, rfl⟩ | ⟨k1, k2, rfl⟩
  · have c1 : (1000 : Int32) ≤ 1000 + a := by grind
    have c2 : (1000 : Int32) ≤ 1000 + b := by grind
    have c3 : (1000 + a < 1000 + b) ↔ a < b := by grind
    simp only [c1, c2, c3]
    grind
  · have c1 : (1000 : Int32) ≤ 1000 + a := by grind
    have c2 : b - 10 < (1000 : Int32) := by grind
    have c3 : a < b := by grind
    simp only [c1, c2, c3]
    grind
  · have c1 : ¬ (1000 : Int32) ≤ a - 10 := by grind
    have c2 : (1000 : Int32) ≤ 1000 + b := by grind
    have c3 : ¬ a < b := by grind
    simp only [c1, c2, c3]
    grind
  · have c1 : ¬ (1000 : Int32) ≤ a - 10 := by grind
    have c2 : ¬ (1000 : Int32) ≤ b - 10 := by grind
    have c3 : (a - 10 < b - 10) ↔ a < b := by grind
    simp only [c1, c2, c3]
    grind
/-- the place of a new event -/
def InsP (P : Nat → Prop) (n p : Nat) : Prop := p ≤ n ∧ (∀ k, p ≤ k → k < n → P k) ∧ (0 < p → ¬ P (p - 1))
theorem InsP.uniq {P Q : Nat → Prop} {n p q : Nat} (h : InsP P n p) (k : InsP Q n q) (hPQ : ∀ j, j < n → (P j ↔ Q j)) : p = q := by
  obtain ⟨h1, h2, h3⟩ := h
  obtain ⟨k1, k2, k3⟩ := k
  rcases Nat.lt_trichotomy p q with hlt | heq | hgt
  · exact absurd ((hPQ _ (by omega)).mp (h2 (q - 1) (by omega) (by omega))) (k3 (by omega))
  · exact heq
  · exact absurd ((hPQ _ (by omega)).mpr (k2 (p - 1) (by omega) (by omega))) (h3 (by omega))
def insF (x : Nat → Int32) (e : Int32) (n p : Nat) : Nat → Int32 := fun j => if j < p then x j else if j = p then e else if j ≤ n then x (j - 1) else x j
/-- a row shifted from p on -/
def shF (x : Nat → Int32) (n p : Nat) : Nat → Int32 := fun j => if j ≤ p then x j else if j ≤ n then x (j - 1) else x j
theorem x_place23 {μ : am_Mu} {e : Int32} {n : Nat} (hn : μ 13 13 = nI n) (hn2 : n < 210) (he : evGd μ e) (hx : ∀ k, k < n → evGd μ (μ 26 k)) : ∀ p f (ν : am_Mu), p ≤ n → p < f → (∀ a, ¬ a = 26 → ν a = μ a) → (∀ j, ν 26 j = shF (μ 26) n p j) → (∀ k, p ≤ k → k < n → aheadX μ e (μ 26 k)) → ∃ q ν', InsP (fun k => aheadX μ e (μ 26 k)) n q ∧ fLedger_place_23 f e (nI p) (nI p) ν = some ν' ∧ (∀ a, ¬ a = 26 → ¬ a = 13 → ν' a = μ a) ∧ (∀ j, ¬ j = 13 → ν' 13 j = μ 13 j) ∧ ν' 13 13 = nI (n + 1) ∧ ∀ j, ν' 26 j = insF (μ 26) e n q j := by
  have fin : ∀ p (ν : am_Mu), p ≤ n → (∀ a, ¬ a = 26 → ν a = μ a) → (∀ j, ν 26 j = shF (μ 26) n p j) → (∀ k, p ≤ k → k < n → aheadX μ e (μ 26 k)) → (0 < p → ¬ aheadX μ e (μ 26 (p - 1))) → ∃ q ν', InsP (fun k => aheadX μ e (μ 26 k)) n q ∧ fLedger_place_67 e (nI p) ν = some ν' ∧ (∀ a, ¬ a = 26 → ¬ a = 13 → ν' a = μ a) ∧ (∀ j, ¬ j = 13 → ν' 13 j = μ 13 j) ∧ ν' 13 13 = nI (n + 1) ∧ ∀ j, ν' 26 j = insF (μ 26) e n q j := by
    intro p ν h1 h2 h3 h4 h5
    refine ⟨p, am_up (am_up ν 26 p e) 13 13 (ν 13 13 + 1), ⟨h1, h4, h5⟩, ?_, ?_, ?_, ?_, ?_⟩
    · unfold fLedger_place_67
      rw [inb_n (by omega) (by omega), cond_true, nI_clamp (show p < 2 ^ 31 by omega)]
    · intro a k1 k2
      funext j
      simp only [upa, h2 a k1]
      grind
    · intro j k1
      simp only [upa, h2 13 (by decide)]
      grind
    · simp only [upa, h2 13 (by decide), hn]
      exact nI_plus n 1
    · intro j
      simp only [upa, h3 j, insF, shF]
      grind
  intro p
  induction p with
  | zero =>
    intro f ν h1 h2 h3 h4 h5
    obtain ⟨f, rfl⟩ : ∃ k, f = k + 1 := ⟨f - 1, by omega⟩
    rw [fLedger_place_23, if_pos (by decide)]
    exact fin 0 ν h1 h3 h4 h5 (fun h => absurd h (by omega))
  | succ p ih =>
    intro f ν h1 h2 h3 h4 h5
    obtain ⟨f, rfl⟩ : ∃ k, f = k + 1 := ⟨f - 1, by omega⟩
    have h0 : ¬ nI (p + 1) ≤ (0 : Int32) := by
      have := (nI_lt_iff (a := 0) (b := p + 1) (by omega) (by omega)).mpr (by omega)
      exact Int32.not_le.mpr this
    have e1 : nI (p + 1) - 1 = nI p := by rw [← nI_plus]; show nI p + 1 - 1 = _; grind
    have e2 : nI (p + 1) + -1 = nI p := by rw [← nI_plus]; show nI p + 1 + -1 = _; grind
    have e3 : ν 26 p = μ 26 p := by rw [h4]; simp [shF]
    have g1 : evGd ν e := by simp only [evGd, evMin, h3 24 (by decide), h3 18 (by decide)]; exact he
    have g2 : evGd ν (μ 26 p) := by
      have := hx p (by omega)
      simp only [evGd, evMin, h3 24 (by decide), h3 18 (by decide)]
      exact this
    have g3 : aheadX ν e (μ 26 p) = aheadX μ e (μ 26 p) := by simp only [aheadX, evMin, h3 24 (by decide), h3 18 (by decide)]
    rw [fLedger_place_23, if_neg h0, e1, e2, inb_n (by omega) (by omega), cond_true, nI_clamp (show p < 2 ^ 31 by omega), nI_clamp (show p + 1 < 2 ^ 31 by omega), e3, l_comesAhead g1 g2, Option.bind_some]
    dsimp only
    by_cases hA : aheadX μ e (μ 26 p)
    · rw [b2i_t (by rw [g3]; exact hA), if_neg (by decide), inb_n (by omega) (by omega), cond_true]
      refine ih f _ (by omega) (by omega) ?_ ?_ ?_
      · intro a k1
        funext j
        simp only [upa, h3 a k1]
        grind
      · intro j
        simp only [upa, h4, shF]
        grind
      · intro k k1 k2
        by_cases hk : k = p
        · subst hk
          exact hA
        · exact h5 k (by omega) k2
    · rw [b2i_f (by rw [g3]; exact hA), if_pos rfl]
      exact fin (p + 1) ν h1 h3 h4 h5 (fun _ => hA)
theorem x_place {μ : am_Mu} {e : Int32} {n : Nat} (hn : μ 13 13 = nI n) (hn2 : n < 210) (he : evGd μ e) (hx : ∀ k, k < n → evGd μ (μ 26 k)) : ∃ q ν', InsP (fun k => aheadX μ e (μ 26 k)) n q ∧ fLedger_place e μ = some ν' ∧ (∀ a, ¬ a = 26 → ¬ a = 13 → ν' a = μ a) ∧ (∀ j, ¬ j = 13 → ν' 13 j = μ 13 j) ∧ ν' 13 13 = nI (n + 1) ∧ ∀ j, ν' 26 j = insF (μ 26) e n q j := by
  unfold fLedger_place
  rw [hn, if_pos (show nI n < 210 from (nI_lt_iff (b := 210) (by omega) (by omega)).mpr hn2)]
  refine x_place23 hn hn2 he hx n am_F μ (Nat.le_refl _) (by unfold am_F; omega) (fun _ _ => rfl) ?_ (fun k h1 h2 => absurd h1 (by omega))
  intro j
  simp only [shF]
  grind
theorem m_comes5 {μ : am_Mu} {e : Int32} {n : Nat} (hn : μ 108 55 = nI n) (hn2 : n < 210) (he : rfOK e) (hx : ∀ k, k < n → rfOK (μ 143 k)) : ∀ p f (ν : am_Mu), p ≤ n → p < f → (∀ a, ¬ a = 143 → ν a = μ a) → (∀ j, ν 143 j = shF (μ 143) n p j) → (∀ k, p ≤ k → k < n → aheadM μ e (μ 143 k)) → ∃ q ν', InsP (fun k => aheadM μ e (μ 143 k)) n q ∧ fM_comes_5 f e (nI p) ν = some ν' ∧ (∀ a, ¬ a = 143 → ¬ a = 108 → ν' a = μ a) ∧ (∀ j, ¬ j = 55 → ν' 108 j = μ 108 j) ∧ ν' 108 55 = nI (n + 1) ∧ ∀ j, ν' 143 j = insF (μ 143) e n q j := by
  have fin : ∀ p (ν : am_Mu), p ≤ n → (∀ a, ¬ a = 143 → ν a = μ a) → (∀ j, ν 143 j = shF (μ 143) n p j) → (∀ k, p ≤ k → k < n → aheadM μ e (μ 143 k)) → (0 < p → ¬ aheadM μ e (μ 143 (p - 1))) → ∃ q ν', InsP (fun k => aheadM μ e (μ 143 k)) n q ∧ fM_comes_45 e (nI p) ν = some ν' ∧ (∀ a, ¬ a = 143 → ¬ a = 108 → ν' a = μ a) ∧ (∀ j, ¬ j = 55 → ν' 108 j = μ 108 j) ∧ ν' 108 55 = nI (n + 1) ∧ ∀ j, ν' 143 j = insF (μ 143) e n q j := by
    intro p ν h1 h2 h3 h4 h5
    refine ⟨p, am_up (am_up ν 143 p e) 108 55 (ν 108 55 + 1), ⟨h1, h4, h5⟩, ?_, ?_, ?_, ?_, ?_⟩
    · unfold fM_comes_45
      rw [inb_n (by omega) (by omega), cond_true, nI_clamp (show p < 2 ^ 31 by omega)]
    · intro a k1 k2
      funext j
      simp only [upa, h2 a k1]
      grind
    · intro j k1
      simp only [upa, h2 108 (by decide)]
      grind
    · simp only [upa, h2 108 (by decide), hn]
      exact nI_plus n 1
    · intro j
      simp only [upa, h3 j, insF, shF]
      grind
  intro p
  induction p with
  | zero =>
    intro f ν h1 h2 h3 h4 h5
    obtain ⟨f, rfl⟩ : ∃ k, f = k + 1 := ⟨f - 1, by omega⟩
    rw [fM_comes_5, if_pos (by decide)]
    exact fin 0 ν h1 h3 h4 h5 (fun h => absurd h (by omega))
  | succ p ih =>
    intro f ν h1 h2 h3 h4 h5
    obtain ⟨f, rfl⟩ : ∃ k, f = k + 1 := ⟨f - 1, by omega⟩
    have h0 : ¬ nI (p + 1) ≤ (0 : Int32) := by
      have := (nI_lt_iff (a := 0) (b := p + 1) (by omega) (by omega)).mpr (by omega)
      exact Int32.not_le.mpr this
    have e1 : nI (p + 1) - 1 = nI p := by rw [← nI_plus]; show nI p + 1 - 1 = _; grind
    have e2 : nI (p + 1) + -1 = nI p := by rw [← nI_plus]; show nI p + 1 + -1 = _; grind
    have e3 : ν 143 p = μ 143 p := by rw [h4]; simp [shF]
    have g3 : aheadM ν e (μ 143 p) = aheadM μ e (μ 143 p) := by simp only [aheadM, evM, h3 141 (by decide), h3 135 (by decide)]
    rw [fM_comes_5, if_neg h0, e1, e2, inb_n (by omega) (by omega), cond_true, nI_clamp (show p < 2 ^ 31 by omega), nI_clamp (show p + 1 < 2 ^ 31 by omega), e3, l_isAhead he (hx p (by omega)), Option.bind_some]
    dsimp only
    by_cases hA : aheadM μ e (μ 143 p)
    · rw [b2i_t (by rw [g3]; exact hA), if_neg (by decide), inb_n (by omega) (by omega), cond_true]
      refine ih f _ (by omega) (by omega) ?_ ?_ ?_
      · intro a k1
        funext j
        simp only [upa, h3 a k1]
        grind
      · intro j
        simp only [upa, h4, shF]
        grind
      · intro k k1 k2
        by_cases hk : k = p
        · subst hk
          exact hA
        · exact h5 k (by omega) k2
    · rw [b2i_f (by rw [g3]; exact hA), if_pos rfl]
      exact fin (p + 1) ν h1 h3 h4 h5 (fun _ => hA)
theorem m_comes {μ : am_Mu} {e : Int32} {n : Nat} (hn : μ 108 55 = nI n) (hn2 : n < 210) (he : rfOK e) (hx : ∀ k, k < n → rfOK (μ 143 k)) : ∃ q ν', InsP (fun k => aheadM μ e (μ 143 k)) n q ∧ fM_comes e μ = some ν' ∧ (∀ a, ¬ a = 143 → ¬ a = 108 → ν' a = μ a) ∧ (∀ j, ¬ j = 55 → ν' 108 j = μ 108 j) ∧ ν' 108 55 = nI (n + 1) ∧ ∀ j, ν' 143 j = insF (μ 143) e n q j := by
  unfold fM_comes
  rw [hn]
  refine m_comes5 hn hn2 he hx n am_F μ (Nat.le_refl _) (by unfold am_F; omega) (fun _ _ => rfl) ?_ (fun k h1 h2 => absurd h1 (by omega))
  intro j
  simp only [shF]
  grind
theorem ins_sorted {μ ν : am_Mu} {e f : Int32} {n p : Nat} (h26 : ∀ j, ν 26 j = insF (μ 26) e n p j) (h143 : ∀ j, ν 143 j = insF (μ 143) f n p j) (hr : ∀ k, k < n → EvRel ν (μ 26 k) (μ 143 k)) (hef : EvRel ν e f) (hs : ∀ k l, k < l → l < n → evMin ν (μ 26 k) ≤ evMin ν (μ 26 l)) (hp : InsP (fun k => aheadX ν e (μ 26 k)) n p) : (∀ k, k < n + 1 → EvRel ν (ν 26 k) (ν 143 k)) ∧ ∀ k l, k < l → l < n + 1 → evMin ν (ν 26 k) ≤ evMin ν (ν 26 l) := by
  obtain ⟨p1, p2, p3⟩ := hp
  have up : ∀ k, p ≤ k → k < n → evMin ν e ≤ evMin ν (μ 26 k) := by
    intro k h1 h2
    have := p2 k h1 h2
    grind
  have dn : ∀ k, k < p → evMin ν (μ 26 k) ≤ evMin ν e := by
    intro k h1
    have h2 := p3 (by omega)
    have h3 : evMin ν (μ 26 (p - 1)) ≤ evMin ν e := by grind
    by_cases hk : k = p - 1
    · rw [hk]
      exact h3
    · exact Int32.le_trans (hs k (p - 1) (by omega) (by omega)) h3
  constructor
  · intro k hk
    rw [h26, h143]
    simp only [insF]
    by_cases c1 : k < p
    · rw [if_pos c1, if_pos c1]
      exact hr k (by omega)
    · rw [if_neg c1, if_neg c1]
      by_cases c2 : k = p
      · rw [if_pos c2, if_pos c2]
        exact hef
      · rw [if_neg c2, if_neg c2, if_pos (by omega), if_pos (by omega)]
        exact hr (k - 1) (by omega)
  · intro k l hkl hl
    rw [h26, h26]
    simp only [insF]
    by_cases c1 : l < p
    · rw [if_pos c1, if_pos (by omega)]
      exact hs k l hkl (by omega)
    · rw [if_neg c1]
      by_cases c2 : l = p
      · rw [if_pos c2, if_pos (by omega)]
        exact dn k (by omega)
      · rw [if_neg c2, if_pos (show l ≤ n by omega)]
        by_cases c3 : k < p
        · rw [if_pos c3]
          exact Int32.le_trans (dn k c3) (up (l - 1) (by omega) (by omega))
        · rw [if_neg c3]
          by_cases c4 : k = p
          · rw [if_pos c4]
            exact up (l - 1) (by omega) (by omega)
          · rw [if_neg c4, if_pos (by omega)]
            exact hs (k - 1) (l - 1) (by omega) (by omega)
