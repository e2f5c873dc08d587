/-! E: of the class alone (as in whole) -/
def b2i (p : Prop) [Decidable p] : Int32 := if p then 1 else 0
theorem b2i_z {p : Prop} [Decidable p] : b2i p = 0 ↔ ¬ p := by unfold b2i; split <;> simp_all
theorem b2i_a {p : Prop} [Decidable p] : b2i p &&& 1 = b2i p := by unfold b2i; split <;> decide
theorem b2i_t {p : Prop} [Decidable p] (h : p) : b2i p = 1 := if_pos h
theorem b2i_f {p : Prop} [Decidable p] (h : ¬ p) : b2i p = 0 := if_neg h
theorem nt_toInt (a : Int32) : a.toNatClampNeg = a.toInt.toNat := rfl
theorem nt_int {a : Int32} (h : 0 ≤ a) : (a.toNatClampNeg : Int) = a.toInt := by
  have := Int32.le_iff_toInt_le.mp h
  rw [nt_toInt]
  have h0 : (0 : Int32).toInt = 0 := rfl
  omega
theorem nt_lt {a b : Int32} (h0 : 0 ≤ a) (h : a < b) : a.toNatClampNeg < b.toNatClampNeg := by
  have h1 := Int32.lt_iff_toInt_lt.mp h
  have h2 := nt_int h0
  have h3 := nt_int (show 0 ≤ b by grind)
  omega
theorem nt_le {a b : Int32} (h0 : 0 ≤ a) (h : a ≤ b) : a.toNatClampNeg ≤ b.toNatClampNeg := by
  have h1 := Int32.le_iff_toInt_le.mp h
  have h2 := nt_int h0
  have h3 := nt_int (show 0 ≤ b by grind)
  omega
theorem nt_inj {a b : Int32} (h0 : 0 ≤ a) (h1 : 0 ≤ b) (h : a.toNatClampNeg = b.toNatClampNeg) : a = b := by
  have h2 := nt_int h0
  have h3 := nt_int h1
  exact Int32.toInt_inj.mp (by omega)
theorem nI_nt {a : Int32} (h : 0 ≤ a) : nI a.toNatClampNeg = a := by
  refine nt_inj (nI_pos' ?_) h ?_
  · have := nt_int h
    have := Int32.toInt_lt a
    omega
  · refine nI_clamp ?_
    have := nt_int h
    have := Int32.toInt_lt a
    omega
theorem nt_b {a : Int32} : a.toNatClampNeg < 2 ^ 31 := by
  have := Int32.toInt_lt a
  rw [nt_toInt]
  omega
theorem nI_plus (a b : Nat) : nI a + nI b = nI (a + b) := by
  unfold nI
  rw [← Int32.ofNat_add]
theorem nI_mul (a b : Nat) : nI a * nI b = nI (a * b) := by
  unfold nI
  rw [← Int32.ofNat_mul]
theorem nI_sub {a b : Nat} (h : b ≤ a) : nI a - nI b = nI (a - b) := by
  have : nI a = nI (a - b) + nI b := by rw [nI_plus, Nat.sub_add_cancel h]
  rw [this]
  grind
theorem nI_lt_iff {a b : Nat} (ha : a < 2 ^ 31) (hb : b < 2 ^ 31) : nI a < nI b ↔ a < b := by
  rw [Int32.lt_iff_toInt_lt, nI_toInt ha, nI_toInt hb]
  omega
theorem nI_le_iff {a b : Nat} (ha : a < 2 ^ 31) (hb : b < 2 ^ 31) : nI a ≤ nI b ↔ a ≤ b := by
  rw [Int32.le_iff_toInt_le, nI_toInt ha, nI_toInt hb]
  omega
theorem nI_inj {a b : Nat} (ha : a < 2 ^ 31) (hb : b < 2 ^ 31) : nI a = nI b ↔ a = b := by
  rw [← Int32.toInt_inj, nI_toInt ha, nI_toInt hb]
  omega
theorem nt_add {a b : Int32} (ha : 0 ≤ a) (hb : 0 ≤ b) (h : a.toNatClampNeg + b.toNatClampNeg < 2 ^ 31) : (a + b).toNatClampNeg = a.toNatClampNeg + b.toNatClampNeg := by
  rw [← nI_nt ha, ← nI_nt hb, nI_plus, nI_clamp h, nI_clamp nt_b, nI_clamp nt_b]
theorem nt_succ {a : Int32} (ha : 0 ≤ a) (h : a < 2147483647) : (a + 1).toNatClampNeg = a.toNatClampNeg + 1 := by
  have h1 : (1 : Int32).toNatClampNeg = 1 := rfl
  have h2 : a.toNatClampNeg < 2147483647 := nt_lt ha h
  rw [nt_add ha (by decide) (by rw [h1]; omega), h1]
theorem inb_t {a : Int32} {n : Nat} (h0 : 0 ≤ a) (h : a.toNatClampNeg < n) : am_inb a n = true := by
  have h4 : ¬ a < 0 := Int32.not_lt.mpr h0
  have h5 : Nat.ble n a.toNatClampNeg = false := by
    cases hq : Nat.ble n a.toNatClampNeg with
    | false => rfl
    | true => exact absurd (Nat.le_of_ble_eq_true hq) (by omega)
  unfold am_inb
  simp [h4, h5]
theorem inb_n {k n : Nat} (h : k < n) (hn : n < 2 ^ 31) : am_inb (nI k) n = true := inb_t (nI_pos' (by omega)) (by rw [nI_clamp (by omega)]; exact h)
theorem up_eq {μ : am_Mu} {k i : Nat} {x : Int32} : am_up μ k i x k i = x := if_pos ⟨rfl, rfl⟩
theorem up_ne {μ : am_Mu} {k i a b : Nat} {x : Int32} (h : ¬ (a = k ∧ b = i)) : am_up μ k i x a b = μ a b := if_neg h
theorem up_ne2 {μ : am_Mu} {k i b : Nat} {x : Int32} (h : ¬ b = i) : am_up μ k i x k b = μ k b := if_neg (fun q => h q.2)
theorem up_row {μ : am_Mu} {k i a : Nat} {x : Int32} (h : ¬ a = k) : am_up μ k i x a = μ a := am_up_ne h
theorem up_at {μ : am_Mu} {k i b : Nat} {x : Int32} : am_up μ k i x k b = if b = i then x else μ k b := by
  by_cases h : b = i
  · subst h; rw [if_pos rfl, up_eq]
  · rw [if_neg h, up_ne2 h]
theorem l_isIn (a n : Int32) (μ : am_Mu) : fB_isIn a n μ = some (b2i (0 ≤ a ∧ a < n), μ) := by
  unfold fB_isIn fB_isIn_13 b2i
  grind
theorem l_isMinuteB (a : Int32) (μ : am_Mu) : fB_isMinute a μ = some (b2i (0 ≤ a ∧ a < 1440000), μ) := by
  unfold fB_isMinute
  rw [l_isIn, Option.bind_some, if_pos b2i_a]
theorem l_isTold (a : Int32) (μ : am_Mu) : fB_isTold a μ = some (b2i (0 ≤ a ∧ a < 1440000 ∧ a ≤ μ 0 11), μ) := by
  unfold fB_isTold
  rw [l_isMinuteB, Option.bind_some]
  unfold fB_isTold_19 b2i
  grind

/-- the minute of an event, by the class's numbers (mistakes first, acts from 10 on) -/
def evMin (μ : am_Mu) (e : Int32) : Int32 := if e < 10 then μ 24 e.toNatClampNeg else μ 18 (e - 10).toNatClampNeg
theorem upa {μ : am_Mu} {k i a b : Nat} {x : Int32} : am_up μ k i x a b = if a = k ∧ b = i then x else μ a b := rfl
theorem and1_01 (c : Int32) (h : c = 0 ∨ c = 1) : c &&& 1 = c := by rcases h with rfl | rfl <;> rfl
theorem nI_div {a b : Nat} (ha : a < 2 ^ 31) (hb : b < 2 ^ 31) : nI a / nI b = nI (a / b) := by
  have hab : a / b ≤ a := Nat.div_le_self a b
  rw [← Int32.toInt_inj, Int32.toInt_div, nI_toInt ha, nI_toInt hb, nI_toInt (show a / b < 2 ^ 31 by omega), Int.tdiv_eq_ediv_of_nonneg (by omega)]
  have e : ((a : Int) / (b : Int)) = ((a / b : Nat) : Int) := by simp
  rw [e]
  generalize a / b = q at hab ⊢
  refine Int.bmod_eq_of_le ?_ ?_ <;> omega
theorem nI_mod {a b : Nat} (ha : a < 2 ^ 31) (hb : b < 2 ^ 31) : nI a - nI a / nI b * nI b = nI (a % b) := by
  rw [nI_div ha hb, nI_mul, nI_sub (Nat.div_mul_le_self a b)]
  congr 1
  have h1 := Nat.div_add_mod a b
  have h2 := Nat.mul_comm b (a / b)
  omega
def evOK (e : Int32) : Prop := 0 ≤ e ∧ e < 210
def evGd (μ : am_Mu) (e : Int32) : Prop := evOK e ∧ 0 ≤ evMin μ e ∧ evMin μ e < 1440000
abbrev aheadX (μ : am_Mu) (a b : Int32) : Prop := evMin μ a < evMin μ b ∨ (evMin μ a = evMin μ b ∧ a < b)
theorem l_minuteX {μ : am_Mu} {e : Int32} (h : evOK e) : fLedger_minuteOf e μ = some (evMin μ e, μ) := by
  unfold fLedger_minuteOf fLedger_isMistake evMin
  by_cases h10 : e < 10
  · rw [if_neg (by grind), Option.bind_some]
    dsimp only
    rw [if_neg (by decide), inb_t (n := 10) h.1 (nt_lt (b := 10) h.1 h10), cond_true, if_pos h10]
  · rw [if_pos (by grind), Option.bind_some]
    dsimp only
    obtain ⟨h1, h2⟩ := h
    have h3 : 0 ≤ e - 10 := by grind
    have h4 : e - 10 < 200 := by grind
    rw [if_pos rfl, inb_t (n := 200) h3 (nt_lt (b := 200) h3 h4), cond_true, if_neg h10]
theorem l_comesAhead {μ : am_Mu} {a b : Int32} (ha : evGd μ a) (hb : evGd μ b) : fLedger_comesAhead a b μ = some (b2i (aheadX μ a b), μ) := by
  unfold fLedger_comesAhead
  rw [l_minuteX ha.1, Option.bind_some]
  dsimp only
  rw [l_minuteX hb.1, Option.bind_some]
  dsimp only
  obtain ⟨-, a1, a2⟩ := ha
  obtain ⟨-, b1, b2⟩ := hb
  unfold fLedger_comesAhead_25 fLedger_comesAhead_29 b2i aheadX
  grind
/-- the place of a new event -/
def InsP (P : Nat → Prop) (n p : Nat) : Prop := p ≤ n ∧ (∀ k, p ≤ k → k < n → P k) ∧ (0 < p → ¬ P (p - 1))
def insF (x : Nat → Int32) (e : Int32) (n p : Nat) : Nat → Int32 := fun j => if j < p then x j else if j = p then e else if j ≤ n then x (j - 1) else x j
/-- a row shifted from p on -/
def shF (x : Nat → Int32) (n p : Nat) : Nat → Int32 := fun j => if j ≤ p then x j else if j ≤ n then x (j - 1) else x j
theorem x_place23 {μ : am_Mu} {e : Int32} {n : Nat} (hn : μ 13 13 = nI n) (hn2 : n < 210) (he : evGd μ e) (hx : ∀ k, k < n → evGd μ (μ 26 k)) : ∀ p f (ν : am_Mu), p ≤ n → p < f → (∀ a, ¬ a = 26 → ν a = μ a) → (∀ j, ν 26 j = shF (μ 26) n p j) → (∀ k, p ≤ k → k < n → aheadX μ e (μ 26 k)) → ∃ q ν', InsP (fun k => aheadX μ e (μ 26 k)) n q ∧ fLedger_place_23 f e (nI p) (nI p) ν = some ν' ∧ (∀ a, ¬ a = 26 → ¬ a = 13 → ν' a = μ a) ∧ (∀ j, ¬ j = 13 → ν' 13 j = μ 13 j) ∧ ν' 13 13 = nI (n + 1) ∧ ∀ j, ν' 26 j = insF (μ 26) e n q j := by
  have fin : ∀ p (ν : am_Mu), p ≤ n → (∀ a, ¬ a = 26 → ν a = μ a) → (∀ j, ν 26 j = shF (μ 26) n p j) → (∀ k, p ≤ k → k < n → aheadX μ e (μ 26 k)) → (0 < p → ¬ aheadX μ e (μ 26 (p - 1))) → ∃ q ν', InsP (fun k => aheadX μ e (μ 26 k)) n q ∧ fLedger_place_67 e (nI p) ν = some ν' ∧ (∀ a, ¬ a = 26 → ¬ a = 13 → ν' a = μ a) ∧ (∀ j, ¬ j = 13 → ν' 13 j = μ 13 j) ∧ ν' 13 13 = nI (n + 1) ∧ ∀ j, ν' 26 j = insF (μ 26) e n q j := by
    intro p ν h1 h2 h3 h4 h5
    refine ⟨p, am_up (am_up ν 26 p e) 13 13 (ν 13 13 + 1), ⟨h1, h4, h5⟩, ?_, ?_, ?_, ?_, ?_⟩
    · unfold fLedger_place_67
      rw [inb_n (by omega) (by omega), cond_true, nI_clamp (show p < 2 ^ 31 by omega)]
    · intro a k1 k2
      funext j
      simp only [upa, h2 a k1]
      grind
    · intro j k1
      simp only [upa, h2 13 (by decide)]
      grind
    · simp only [upa, h2 13 (by decide), hn]
      exact nI_plus n 1
    · intro j
      simp only [upa, h3 j, insF, shF]
      grind
  intro p
  induction p with
  | zero =>
    intro f ν h1 h2 h3 h4 h5
    obtain ⟨f, rfl⟩ : ∃ k, f = k + 1 := ⟨f - 1, by omega⟩
    rw [fLedger_place_23, if_pos (by decide)]
    exact fin 0 ν h1 h3 h4 h5 (fun h => absurd h (by omega))
  | succ p ih =>
    intro f ν h1 h2 h3 h4 h5
    obtain ⟨f, rfl⟩ : ∃ k, f = k + 1 := ⟨f - 1, by omega⟩
    have h0 : ¬ nI (p + 1) ≤ (0 : Int32) := by
      have := (nI_lt_iff (a := 0) (b := p + 1) (by omega) (by omega)).mpr (by omega)
      exact Int32.not_le.mpr this
    have e1 : nI (p + 1) - 1 = nI p := by rw [← nI_plus]; show nI p + 1 - 1 = _; grind
    have e2 : nI (p + 1) + -1 = nI p := by rw [← nI_plus]; show nI p + 1 + -1 = _; grind
    have e3 : ν 26 p = μ 26 p := by rw [h4]; simp [shF]
    have g1 : evGd ν e := by simp only [evGd, evMin, h3 24 (by decide), h3 18 (by decide)]; exact he
    have g2 : evGd ν (μ 26 p) := by
      have := hx p (by omega)
      simp only [evGd, evMin, h3 24 (by decide), h3 18 (by decide)]
      exact this
    have g3 : aheadX ν e (μ 26 p) = aheadX μ e (μ 26 p) := by simp only [aheadX, evMin, h3 24 (by decide), h3 18 (by decide)]
    rw [fLedger_place_23, if_neg h0, e1, e2, inb_n (by omega) (by omega), cond_true, nI_clamp (show p < 2 ^ 31 by omega), nI_clamp (show p + 1 < 2 ^ 31 by omega), e3, l_comesAhead g1 g2, Option.bind_some]
    dsimp only
    by_cases hA : aheadX μ e (μ 26 p)
    · rw [b2i_t (by rw [g3]; exact hA), if_neg (by decide), inb_n (by omega) (by omega), cond_true]
      refine ih f _ (by omega) (by omega) ?_ ?_ ?_
      · intro a k1
        funext j
        simp only [upa, h3 a k1]
        grind
      · intro j
        simp only [upa, h4, shF]
        grind
      · intro k k1 k2
        by_cases hk : k = p
        · subst hk
          exact hA
        · exact h5 k (by omega) k2
    · rw [b2i_f (by rw [g3]; exact hA), if_pos rfl]
      exact fin (p + 1) ν h1 h3 h4 h5 (fun _ => hA)
theorem x_place {μ : am_Mu} {e : Int32} {n : Nat} (hn : μ 13 13 = nI n) (hn2 : n < 210) (he : evGd μ e) (hx : ∀ k, k < n → evGd μ (μ 26 k)) : ∃ q ν', InsP (fun k => aheadX μ e (μ 26 k)) n q ∧ fLedger_place e μ = some ν' ∧ (∀ a, ¬ a = 26 → ¬ a = 13 → ν' a = μ a) ∧ (∀ j, ¬ j = 13 → ν' 13 j = μ 13 j) ∧ ν' 13 13 = nI (n + 1) ∧ ∀ j, ν' 26 j = insF (μ 26) e n q j := by
  unfold fLedger_place
  rw [hn, if_pos (show nI n < 210 from (nI_lt_iff (b := 210) (by omega) (by omega)).mpr hn2)]
  refine x_place23 hn hn2 he hx n am_F μ (Nat.le_refl _) (by unfold am_F; omega) (fun _ _ => rfl) ?_ (fun k h1 h2 => absurd h1 (by omega))
  intro j
  simp only [shF]
  grind
theorem l_canBe (a b c : Int32) (μ : am_Mu) : fLedger_canBeSecond a b c μ = some (b2i (0 ≤ a ∧ a ≤ 3 ∧ ((a < 2 ∧ 0 ≤ c ∧ c < μ 13 14 ∧ ¬ b = c) ∨ (2 ≤ a ∧ c = -1))), μ) := by
  unfold fLedger_canBeSecond fLedger_canBeSecond_52
  simp only [l_isIn, Option.bind_some, b2i_z]
  unfold b2i
  grind
abbrev Xa (a b c d e : Int32) (μ : am_Mu) : am_Mu := am_up (am_up (am_up (am_up (am_up (am_up (am_up μ 15 (μ 13 15).toNatClampNeg a) 16 (μ 13 15).toNatClampNeg b) 17 (μ 13 15).toNatClampNeg c) 18 (μ 13 15).toNatClampNeg d) 19 (μ 13 15).toNatClampNeg (e &&& 1)) 20 (μ 13 15).toNatClampNeg (μ 0 11)) 21 (μ 13 15).toNatClampNeg (-1)
abbrev actV (a b c d now nT : Int32) : Prop := (0 ≤ d ∧ d ≤ now) ∧ (0 ≤ b ∧ b < nT) ∧ 0 ≤ a ∧ a ≤ 3 ∧ ((a < 2 ∧ 0 ≤ c ∧ c < nT ∧ ¬ b = c) ∨ (2 ≤ a ∧ c = -1))
theorem x_act {a b c d e : Int32} {μ : am_Mu} (hnow : μ 0 11 < 1440000) (h1 : 0 ≤ μ 13 15) (h2 : μ 13 15 ≤ 200) : fB_act a b c d e μ = if μ 13 15 < 200 ∧ actV a b c d (μ 0 11) (μ 13 14) then ((fLedger_place (10 + μ 13 15) (Xa a b c d e μ)).bind fun q7 => some (q7 13 15 + 1 - 1, am_up q7 13 15 (q7 13 15 + 1))) else some (-1, μ) := by
  unfold fB_act fLedger_addAct
  simp only [l_isTold, Option.bind_some, l_isIn, l_canBe]
  by_cases c1 : 0 ≤ d ∧ d ≤ μ 0 11
  · rw [b2i_t (show 0 ≤ d ∧ d < 1440000 ∧ d ≤ μ 0 11 by grind), if_pos (by decide)]
    by_cases c2 : μ 13 15 < 200
    · rw [if_neg (by grind)]
      by_cases c3 : 0 ≤ b ∧ b < μ 13 14
      · rw [b2i_t c3, if_neg (by decide)]
        by_cases c4 : 0 ≤ a ∧ a ≤ 3 ∧ ((a < 2 ∧ 0 ≤ c ∧ c < μ 13 14 ∧ ¬ b = c) ∨ (2 ≤ a ∧ c = -1))
        · rw [b2i_t c4, if_pos (by decide), inb_t (n := 200) h1 (nt_lt (b := 200) h1 c2), cond_true, if_pos ⟨c2, c1, c3, c4⟩]
          cases fLedger_place (10 + μ 13 15) (Xa a b c d e μ) <;> rfl
        · rw [b2i_f c4, if_neg (by decide), if_neg (fun h => c4 h.2.2.2), Option.bind_some]
      · rw [b2i_f c3, if_pos rfl, if_neg (fun h => c3 h.2.2.1), Option.bind_some]
    · rw [if_pos (by grind), if_neg (fun h => c2 h.1), Option.bind_some]
  · rw [b2i_f (show ¬ (0 ≤ d ∧ d < 1440000 ∧ d ≤ μ 0 11) by grind), if_neg (by decide), if_neg (fun h => c1 h.2.1)]
abbrev Xm (a b c : Int32) (μ : am_Mu) : am_Mu := am_up (am_up (am_up (am_up μ 22 (μ 13 16).toNatClampNeg a) 23 (μ 13 16).toNatClampNeg b) 24 (μ 13 16).toNatClampNeg c) 25 (μ 13 16).toNatClampNeg (μ 0 11)
abbrev misV (a b c now nT : Int32) : Prop := (0 ≤ c ∧ c ≤ now) ∧ (0 ≤ a ∧ a < nT) ∧ 0 ≤ b ∧ b < 8
theorem x_mistake {a b c : Int32} {μ : am_Mu} (hnow : μ 0 11 < 1440000) (h1 : 0 ≤ μ 13 16) (h2 : μ 13 16 ≤ 10) : fB_mistake a b c μ = if μ 13 16 < 10 ∧ misV a b c (μ 0 11) (μ 13 14) then ((fLedger_place (μ 13 16) (Xm a b c μ)).bind fun q7 => some (q7 13 16 + 1 - 1, am_up q7 13 16 (q7 13 16 + 1))) else some (-1, μ) := by
  unfold fB_mistake fLedger_addMistake
  simp only [l_isTold, Option.bind_some, l_isIn]
  by_cases c1 : 0 ≤ c ∧ c ≤ μ 0 11
  · rw [b2i_t (show 0 ≤ c ∧ c < 1440000 ∧ c ≤ μ 0 11 by grind), if_pos (by decide)]
    by_cases c2 : μ 13 16 < 10
    · rw [if_neg (by grind)]
      by_cases c3 : 0 ≤ a ∧ a < μ 13 14
      · rw [b2i_t c3, if_neg (by decide)]
        by_cases c4 : 0 ≤ b ∧ b < 8
        · rw [b2i_t c4, if_pos (by decide), inb_t (n := 10) h1 (nt_lt (b := 10) h1 c2), cond_true, if_pos ⟨c2, c1, c3, c4⟩]
          cases fLedger_place (μ 13 16) (Xm a b c μ) <;> rfl
        · rw [b2i_f c4, if_neg (by decide), if_neg (fun h => c4 h.2.2.2), Option.bind_some]
      · rw [b2i_f c3, if_pos rfl, if_neg (fun h => c3 h.2.2.1), Option.bind_some]
    · rw [if_pos (by grind), if_neg (fun h => c2 h.1), Option.bind_some]
  · rw [b2i_f (show ¬ (0 ≤ c ∧ c < 1440000 ∧ c ≤ μ 0 11) by grind), if_neg (by decide), if_neg (fun h => c1 h.2.1)]
def RowIs (r : Nat → Int32) (L : List Int32) : Prop := ∀ j, j < L.length → r j = L.getD j 0
theorem RowIs.app {r s : Nat → Int32} {L : List Int32} {x : Int32} (h : RowIs r L) (e : ∀ j, s j = if j = L.length then x else r j) : RowIs s (L ++ [x]) := by
  intro j hj
  rw [e]
  rw [List.length_append] at hj
  simp only [List.length_cons, List.length_nil] at hj
  by_cases hjl : j = L.length
  · rw [if_pos hjl, hjl]
    simp
  · rw [if_neg hjl, h j (by omega)]
    simp only [List.getD_eq_getElem?_getD]
    rw [List.getElem?_append_left (by omega)]
abbrev hasB (S k : Nat) : Prop := S / 2 ^ k % 2 = 1
theorem has8F : ∀ b : Fin 256, ∀ k : Fin 8, (nI b.val >>> (nI k.val &&& 31)) &&& 1 = if b.val / 2 ^ k.val % 2 = 1 then 1 else 0 := by decide +kernel
theorem has8 {b k : Nat} (hb : b < 256) (hk : k < 8) : (nI b >>> (nI k &&& 31)) &&& 1 = if hasB b k then 1 else 0 := has8F ⟨b, hb⟩ ⟨k, hk⟩
theorem nI_and (a b : Nat) : nI a &&& nI b = nI (a &&& b) := by
  unfold nI
  rw [← Int32.toBitVec_inj]
  simp
abbrev PS : Type := Nat × Nat × List Int32
def stC (a b c : Int32) : Int32 := (a ||| (b <<< (3 &&& 31))) ||| (c <<< (7 &&& 31))
/-- the depth of the stack behind a row of steps -/
def dpS : List Int32 → Nat → Option Nat
  | [], d => some d
  | c :: l, d => if c &&& 7 = 1 then (if 1 ≤ d then dpS l d else none) else if c &&& 7 = 2 ∨ c &&& 7 = 3 then (if 2 ≤ d then dpS l (d - 1) else none) else dpS l (d + 1)
def opS : List Int32 → Nat
  | [] => 0
  | c :: l => if c &&& 7 = 1 ∨ c &&& 7 = 2 ∨ c &&& 7 = 3 then opS l else opS l + 1
theorem dpS_app : ∀ a b d, dpS (a ++ b) d = (dpS a d).bind (dpS b) := by
  intro a b
  induction a with
  | nil => intro d; rfl
  | cons c l ih =>
    intro d
    simp only [List.cons_append, dpS]
    split
    · split
      · exact ih d
      · rfl
    · split
      · split
        · exact ih (d - 1)
        · rfl
      · exact ih (d + 1)
theorem opS_app : ∀ a b, opS (a ++ b) = opS a + opS b := by
  intro a b
  induction a with
  | nil => simp [opS]
  | cons c l ih =>
    simp only [List.cons_append, opS, ih]
    split <;> omega
/-- the steps that there are -/
def StG (c : Int32) : Prop := c = stC 0 0 0 ∨ c = stC 1 0 0 ∨ c = stC 2 0 0 ∨ c = stC 3 0 0 ∨ (∃ b, b < 16 ∧ c = stC 4 (nI b) 0) ∨ ∃ b v, b < 16 ∧ v < 1000000 ∧ c = stC 5 (nI b) (nI v)
/-- what a reading lays behind: j more on the stack than i -/
def POK (e i j : Nat) (s s' : PS) : Prop := s.1 ≤ s'.1 ∧ s'.1 ≤ e ∧ s'.2.2.length + s.1 ≤ s'.1 + s.2.2.length ∧ s'.2.1 ≤ 80 ∧ ∃ g, s'.2.2 = s.2.2 ++ g ∧ (∀ d, dpS g (d + i) = some (d + j)) ∧ s'.2.1 = s.2.1 + opS g ∧ ∀ c, c ∈ g → StG c
theorem POK.trans {e i j k : Nat} {a b c : PS} (h : POK e i j a b) (q : POK e j k b c) : POK e i k a c := by
  obtain ⟨h1, h2, h3, h4, g, h5, h6, h7, h8⟩ := h
  obtain ⟨q1, q2, q3, q4, r, q5, q6, q7, q8⟩ := q
  refine ⟨by omega, q2, by omega, q4, g ++ r, by rw [q5, h5, List.append_assoc], ?_, by rw [q7, h7, opS_app]; omega, ?_⟩
  · intro d
    rw [dpS_app, h6, Option.bind_some, q6]
  · intro x hx
    rcases List.mem_append.mp hx with h | h
    · exact h8 x h
    · exact q8 x h
theorem nI_or (a b : Nat) : nI a ||| nI b = nI (a ||| b) := by
  unfold nI
  rw [← Int32.toBitVec_inj]
  simp
theorem shl3 (b : Nat) : nI b <<< ((3 : Int32) &&& 31) = nI (8 * b) := by
  rw [show ((3 : Int32) &&& 31) = 3 by decide]
  unfold nI
  apply Int32.toBitVec_inj.mp
  rw [Int32.toBitVec_shiftLeft, show (3 : Int32).toBitVec.smod 32 = 3#32 by decide]
  apply BitVec.eq_of_toNat_eq
  simp [Nat.shiftLeft_eq, Nat.mul_comm]
theorem shl7 (b : Nat) : nI b <<< ((7 : Int32) &&& 31) = nI (128 * b) := by
  rw [show ((7 : Int32) &&& 31) = 7 by decide]
  unfold nI
  apply Int32.toBitVec_inj.mp
  rw [Int32.toBitVec_shiftLeft, show (7 : Int32).toBitVec.smod 32 = 7#32 by decide]
  apply BitVec.eq_of_toNat_eq
  simp [Nat.shiftLeft_eq, Nat.mul_comm]
theorem st_nat {a b v : Nat} (ha : a < 8) (hb : b < 16) : stC (nI a) (nI b) (nI v) = nI (a + 8 * b + 128 * v) := by
  unfold stC
  rw [shl3, shl7, nI_or, nI_or]
  congr 1
  have h1 : 8 * b + a = 8 * b ||| a := Nat.two_pow_add_eq_or_of_lt (i := 3) ha b
  have h2 : 128 * v + (8 * b + a) = 128 * v ||| (8 * b + a) := Nat.two_pow_add_eq_or_of_lt (i := 7) (by omega) v
  rw [Nat.or_comm a, ← h1, Nat.or_comm, ← h2]
  omega
theorem st7 {a b v : Nat} (ha : a < 8) (hb : b < 16) : stC (nI a) (nI b) (nI v) &&& 7 = nI a := by
  rw [st_nat ha hb]
  show nI _ &&& nI 7 = _
  rw [nI_and]
  congr 1
  have : (a + 8 * b + 128 * v) &&& 7 = (a + 8 * b + 128 * v) % 8 := Nat.and_two_pow_sub_one_eq_mod _ 3
  rw [this]
  omega
theorem RowIs.left {r : Nat → Int32} {L M : List Int32} (h : RowIs r (L ++ M)) : RowIs r L := by
  intro j hj
  rw [h j (by rw [List.length_append]; omega)]
  simp only [List.getD_eq_getElem?_getD, List.getElem?_append_left hj]
abbrev LR : Type := Int32 × List Int32 × List Int32
def dR : LR := (0, [], [])
def flS : List LR → List Int32
  | [] => []
  | r :: rs => r.2.1 ++ flS rs
def flE : List LR → List Int32
  | [] => []
  | r :: rs => r.2.2 ++ flE rs
theorem flS_app : ∀ a b, flS (a ++ b) = flS a ++ flS b := by
  intro a b
  induction a with
  | nil => rfl
  | cons r rs ih => rw [List.cons_append, flS, ih, flS, List.append_assoc]
theorem flE_app : ∀ a b, flE (a ++ b) = flE a ++ flE b := by
  intro a b
  induction a with
  | nil => rfl
  | cons r rs ih => rw [List.cons_append, flE, ih, flE, List.append_assoc]
/-- what a rule is -/
def RG (r : LR) : Prop := (∃ b, b < 4 ∧ r.1 = nI b) ∧ dpS r.2.1 0 = some 1 ∧ opS r.2.1 ≤ 80 ∧ (∀ c, c ∈ r.2.1 → StG c) ∧ r.2.2.length ≤ 4 ∧ ∀ c, c ∈ r.2.2 → ∃ b, b < 32 ∧ c = nI b
theorem getD_mem {A : Type} {L : List A} {d : A} {j : Nat} (h : j < L.length) : L.getD j d ∈ L := by
  simp only [List.getD_eq_getElem?_getD, List.getElem?_eq_getElem h, Option.getD_some]
  exact List.getElem_mem _
def LX (L : Nat) (μ : am_Mu) (rs : List LR) : Prop := μ L 5 = nI rs.length ∧ (∀ r, r < rs.length → μ (L + 1) r = (rs.getD r dR).1 ∧ μ (L + 2) r = nI (flS (rs.take (r + 1))).length ∧ μ (L + 3) r = nI (flE (rs.take (r + 1))).length) ∧ RowIs (μ (L + 4)) (flS rs) ∧ RowIs (μ (L + 5)) (flE rs)
def LG (rs : List LR) : Prop := (∀ r, r ∈ rs → RG r) ∧ rs.length ≤ 24 ∧ (flS rs).length ≤ 240 ∧ (flE rs).length ≤ 96
theorem LX.cong {L : Nat} {μ μ' : am_Mu} {rs : List LR} (h : LX L μ rs) (e0 : μ' L 5 = μ L 5) (e1 : ∀ j, μ' (L + 1) j = μ (L + 1) j) (e2 : ∀ j, μ' (L + 2) j = μ (L + 2) j) (e3 : ∀ j, μ' (L + 3) j = μ (L + 3) j) (e4 : ∀ j, μ' (L + 4) j = μ (L + 4) j) (e5 : ∀ j, μ' (L + 5) j = μ (L + 5) j) : LX L μ' rs := by
  obtain ⟨h1, h2, h3, h4⟩ := h
  refine ⟨by rw [e0, h1], ?_, fun j hj => by rw [e4, h3 j hj], fun j hj => by rw [e5, h4 j hj]⟩
  intro r hr
  rw [e1, e2, e3]
  exact h2 r hr
abbrev TR : Type := Int32 × Int32 × Int32
abbrev Wd : Type := Nat → Int32 × Int32 × Int32
def z3 : TR := (0, 0, 0)
def jn (x y : TR) : TR := if y.1 = 0 then (if x.1 = 0 then x else (1, x.2.1, x.2.2)) else if x.1 = 0 then (1, y.2.1, y.2.2) else ((if x.1 = 2 ∧ y.1 = 2 then 2 else 1), (if y.2.1 < x.2.1 then y.2.1 else x.2.1), (if x.2.2 < y.2.2 then y.2.2 else x.2.2))
def wup (W : Wd) (k : Nat) (t : TR) : Wd := fun j => if j = k then t else W j
def V3 (v : Int32) : Prop := v = 0 ∨ v = 1 ∨ v = 2
def TG (t : TR) : Prop := V3 t.1 ∧ (¬ t.1 = 0 → 0 ≤ t.2.1 ∧ t.2.1 ≤ t.2.2 ∧ t.2.2 < 1440000)
def WG (K : Nat) (W : Wd) : Prop := ∀ k, k < K → TG (W k)
theorem z3_g : TG z3 := ⟨Or.inl rfl, fun h => absurd rfl h⟩
theorem jn_g {x y : TR} (hx : TG x) (hy : TG y) : TG (jn x y) := by
  obtain ⟨x1, x2⟩ := hx
  obtain ⟨y1, y2⟩ := hy
  unfold jn
  by_cases h1 : y.1 = 0
  · rw [if_pos h1]
    by_cases h2 : x.1 = 0
    · rw [if_pos h2]
      exact ⟨x1, x2⟩
    · rw [if_neg h2]
      exact ⟨Or.inr (Or.inl rfl), fun _ => x2 h2⟩
  · rw [if_neg h1]
    by_cases h2 : x.1 = 0
    · rw [if_pos h2]
      exact ⟨Or.inr (Or.inl rfl), fun _ => y2 h1⟩
    · rw [if_neg h2]
      obtain ⟨a1, a2, a3⟩ := x2 h2
      obtain ⟨b1, b2, b3⟩ := y2 h1
      refine ⟨?_, fun _ => ?_⟩
      · dsimp only
        split
        · exact Or.inr (Or.inr rfl)
        · exact Or.inr (Or.inl rfl)
      · dsimp only
        generalize x.2.1 = p1 at a1 a2 ⊢
        generalize x.2.2 = p2 at a2 a3 ⊢
        generalize y.2.1 = q1 at b1 b2 ⊢
        generalize y.2.2 = q2 at b2 b3 ⊢
        refine ⟨?_, ?_, ?_⟩
        · split <;> assumption
        · split <;> split <;> grind
        · split <;> assumption
theorem wup_g {K k : Nat} {W : Wd} {t : TR} (h : WG K W) (ht : TG t) : WG K (wup W k t) := by
  intro j hj
  unfold wup
  split
  · exact ht
  · exact h j hj
theorem wup_ne {W : Wd} {k j : Nat} {t : TR} (h : ¬ j = k) : wup W k t j = W j := if_neg h
/-- a mark by how long ago -/
def lat (t : TR) (m n : Int32) : Int32 := if t.1 = 0 then 0 else if m - t.2.2 < n then (if m - t.2.1 < n then t.1 else 1) else 0
theorem lat_v {t : TR} (h : TG t) (m n : Int32) : V3 (lat t m n) := by
  unfold lat
  split
  · exact Or.inl rfl
  · split
    · split
      · exact h.1
      · exact Or.inr (Or.inl rfl)
    · exact Or.inl rfl
def opv (A : Wd) (m c : Int32) : Int32 := if c &&& 7 = 0 then 2 else if c &&& 7 = 4 then (A (c.toNatClampNeg / 8 % 16)).1 else lat (A (c.toNatClampNeg / 8 % 16)) m (nI (c.toNatClampNeg / 128))
def evS (A : Wd) (m : Int32) : List Int32 → List Int32 → List Int32
  | [], st => st
  | c :: l, st =>
    if c &&& 7 = 1 then (match st with
      | [] => evS A m l []
      | x :: r => evS A m l ((2 - x) :: r))
    else if c &&& 7 = 2 then (match st with
      | x :: y :: r => evS A m l ((if x < y then x else y) :: r)
      | s => evS A m l s)
    else if c &&& 7 = 3 then (match st with
      | x :: y :: r => evS A m l ((if y < x then x else y) :: r)
      | s => evS A m l s)
    else evS A m l (opv A m c :: st)
def evV (A : Wd) (m : Int32) (l : List Int32) : Int32 := (evS A m l []).headD 0
theorem opv_v {A : Wd} (h : WG 16 A) (m c : Int32) : V3 (opv A m c) := by
  unfold opv
  have hb : c.toNatClampNeg / 8 % 16 < 16 := Nat.mod_lt _ (by decide)
  split
  · exact Or.inr (Or.inr rfl)
  · split
    · exact (h _ hb).1
    · exact lat_v (h _ hb) _ _
theorem evS_v {A : Wd} (h : WG 16 A) (m : Int32) : ∀ l st, (∀ x, x ∈ st → V3 x) → ∀ x, x ∈ evS A m l st → V3 x := by
  intro l
  induction l with
  | nil => exact fun st hs => hs
  | cons c l ih =>
    intro st hs
    unfold evS
    split
    · cases st with
      | nil => exact ih [] hs
      | cons x r =>
        refine ih _ ?_
        intro y hy
        rcases List.mem_cons.mp hy with hy | hy
        · rw [hy]
          rcases hs x List.mem_cons_self with h | h | h <;> rw [h]
          · exact Or.inr (Or.inr rfl)
          · exact Or.inr (Or.inl rfl)
          · exact Or.inl rfl
        · exact hs y (List.mem_cons_of_mem _ hy)
    · split
      · match st, hs with
        | [], hs => exact ih _ hs
        | [x], hs => exact ih _ hs
        | x :: y :: r, hs =>
          refine ih _ ?_
          intro z hz
          rcases List.mem_cons.mp hz with hz | hz
          · rw [hz]
            split
            · exact hs x List.mem_cons_self
            · exact hs y (List.mem_cons_of_mem _ List.mem_cons_self)
          · exact hs z (List.mem_cons_of_mem _ (List.mem_cons_of_mem _ hz))
      · split
        · match st, hs with
          | [], hs => exact ih _ hs
          | [x], hs => exact ih _ hs
          | x :: y :: r, hs =>
            refine ih _ ?_
            intro z hz
            rcases List.mem_cons.mp hz with hz | hz
            · rw [hz]
              split
              · exact hs x List.mem_cons_self
              · exact hs y (List.mem_cons_of_mem _ List.mem_cons_self)
            · exact hs z (List.mem_cons_of_mem _ (List.mem_cons_of_mem _ hz))
        · refine ih _ ?_
          intro z hz
          rcases List.mem_cons.mp hz with hz | hz
          · rw [hz]
            exact opv_v h m c
          · exact hs z hz
theorem evV_v {A : Wd} (h : WG 16 A) (m : Int32) (l : List Int32) : V3 (evV A m l) := by
  have := evS_v h m l [] (fun x h => by cases h)
  unfold evV
  cases hq : evS A m l [] with
  | nil => exact Or.inl rfl
  | cons x r =>
    rw [hq] at this
    exact this x List.mem_cons_self
/-- the two things of an act, as a condition asks of them -/
def ahA (W : Wd) (x : Nat) (y : Option Nat) : Wd := fun b => if b < 8 then W (8 * x + b) else match y with
  | none => z3
  | some y => W (8 * y + (b - 8))
def efT (x : Nat) (y : Option Nat) (c : Int32) : Option Nat := if c.toNatClampNeg / 8 % 2 = 0 then some x else y
def efV (c : Int32) : Int32 := if 16 ≤ c.toNatClampNeg then 2 else 0
def ef1 (x : Nat) (y : Option Nat) (m v c : Int32) (W : Wd) : Wd := match efT x y c with
  | none => W
  | some t => wup W (8 * t + c.toNatClampNeg % 8) (if v = 1 then jn (W (8 * t + c.toNatClampNeg % 8)) (efV c, m, m) else (efV c, m, m))
def efS (x : Nat) (y : Option Nat) (m v : Int32) : List Int32 → Wd → Wd
  | [], W => W
  | c :: l, W => efS x y m v l (ef1 x y m v c W)
def ruS (A : Wd) (kd : Int32) (x : Nat) (y : Option Nat) (m : Int32) : List LR → Wd → Wd
  | [], W => W
  | r :: l, W => ruS A kd x y m l (if r.1 = kd ∧ ¬ evV A m r.2.1 = 0 then efS x y m (evV A m r.2.1) r.2.2 W else W)
def acR (rs : List LR) (kd : Int32) (a : Nat) (b : Option Nat) (m : Int32) (W : Wd) : Wd := match b with
  | none => ruS (ahA W a none) kd a none m rs W
  | some b => ruS (ahA W b (some a)) kd b (some a) m rs (ruS (ahA W a (some b)) kd a (some b) m rs W)
def acS (rs : List LR) (kd : Int32) (a : Nat) (b : Option Nat) (m sure : Int32) (W : Wd) : Wd := if sure = 0 then fun k => if k / 8 = a ∨ some (k / 8) = b then jn (acR rs kd a b m W k) (W k) else acR rs kd a b m W k else acR rs kd a b m W
theorem efV_g {c m : Int32} (h0 : 0 ≤ m) (h1 : m < 1440000) : TG (efV c, m, m) := by
  refine ⟨?_, fun _ => ⟨h0, Int32.le_refl _, h1⟩⟩
  unfold efV
  dsimp only
  split
  · exact Or.inr (Or.inr rfl)
  · exact Or.inl rfl
theorem efS_g {K x : Nat} {y : Option Nat} {m v : Int32} (h0 : 0 ≤ m) (h1 : m < 1440000) (hx : 8 * x + 8 ≤ K) (hy : ∀ t, y = some t → 8 * t + 8 ≤ K) : ∀ l W, WG K W → WG K (efS x y m v l W) := by
  intro l
  induction l with
  | nil => exact fun W h => h
  | cons c l ih =>
    intro W h
    refine ih _ ?_
    unfold ef1
    cases hq : efT x y c with
    | none => exact h
    | some t =>
      dsimp only
      have ht : 8 * t + 8 ≤ K := by
        unfold efT at hq
        split at hq
        · cases hq; exact hx
        · exact hy t hq
      refine wup_g h ?_
      split
      · exact jn_g (h _ (by omega)) (efV_g h0 h1)
      · exact efV_g h0 h1
theorem ruS_g {K x : Nat} {y : Option Nat} {m kd : Int32} {A : Wd} (h0 : 0 ≤ m) (h1 : m < 1440000) (hx : 8 * x + 8 ≤ K) (hy : ∀ t, y = some t → 8 * t + 8 ≤ K) : ∀ l W, WG K W → WG K (ruS A kd x y m l W) := by
  intro l
  induction l with
  | nil => exact fun W h => h
  | cons r l ih =>
    intro W h
    refine ih _ ?_
    split
    · exact efS_g h0 h1 hx hy _ W h
    · exact h
theorem ahA_g {K x : Nat} {y : Option Nat} {W : Wd} (h : WG K W) (hx : 8 * x + 8 ≤ K) (hy : ∀ t, y = some t → 8 * t + 8 ≤ K) : WG 16 (ahA W x y) := by
  intro b hb
  unfold ahA
  split
  · exact h _ (by omega)
  · cases y with
    | none => exact z3_g
    | some t => exact h _ (by have := hy t rfl; omega)
theorem acR_g {K a : Nat} {b : Option Nat} {m kd : Int32} {rs : List LR} {W : Wd} (h0 : 0 ≤ m) (h1 : m < 1440000) (ha : 8 * a + 8 ≤ K) (hb : ∀ t, b = some t → 8 * t + 8 ≤ K) (h : WG K W) : WG K (acR rs kd a b m W) := by
  unfold acR
  cases b with
  | none => exact ruS_g h0 h1 ha (fun t h => by cases h) _ _ h
  | some b =>
    have hbb := hb b rfl
    exact ruS_g h0 h1 hbb (fun t h => by cases h; exact ha) _ _ (ruS_g h0 h1 ha (fun t h => by cases h; exact hbb) _ _ h)
theorem acS_g {K a : Nat} {b : Option Nat} {m kd sure : Int32} {rs : List LR} {W : Wd} (h0 : 0 ≤ m) (h1 : m < 1440000) (ha : 8 * a + 8 ≤ K) (hb : ∀ t, b = some t → 8 * t + 8 ≤ K) (h : WG K W) : WG K (acS rs kd a b m sure W) := by
  unfold acS
  have hR := acR_g (rs := rs) (kd := kd) h0 h1 ha hb h
  split
  · intro k hk
    dsimp only
    split
    · exact jn_g (hR k hk) (h k hk)
    · exact hR k hk
  · exact hR
theorem efS_o {x : Nat} {y : Option Nat} {m v : Int32} {k : Nat} (hx : ¬ k / 8 = x) (hy : ¬ some (k / 8) = y) : ∀ l W, efS x y m v l W k = W k := by
  intro l
  induction l with
  | nil => exact fun W => rfl
  | cons c l ih =>
    intro W
    rw [efS, ih]
    unfold ef1
    cases hq : efT x y c with
    | none => rfl
    | some t =>
      dsimp only
      refine wup_ne ?_
      intro hk
      have : k / 8 = t := by omega
      unfold efT at hq
      split at hq
      · cases hq; exact hx this
      · rw [← this] at hq
        exact hy hq.symm
theorem ruS_o {A : Wd} {kd : Int32} {x : Nat} {y : Option Nat} {m : Int32} {k : Nat} (hx : ¬ k / 8 = x) (hy : ¬ some (k / 8) = y) : ∀ l W, ruS A kd x y m l W k = W k := by
  intro l
  induction l with
  | nil => exact fun W => rfl
  | cons r l ih =>
    intro W
    rw [ruS, ih]
    split
    · exact efS_o hx hy _ _
    · rfl
theorem acS_o {rs : List LR} {kd : Int32} {a : Nat} {b : Option Nat} {m sure : Int32} {W : Wd} {k : Nat} (ha : ¬ k / 8 = a) (hb : ¬ some (k / 8) = b) : acS rs kd a b m sure W k = W k := by
  have hR : acR rs kd a b m W k = W k := by
    unfold acR
    cases b with
    | none => exact ruS_o ha hb _ _
    | some b =>
      dsimp only
      rw [ruS_o (fun h => hb (by rw [h])) (fun h => ha (Option.some.inj h)), ruS_o ha hb]
  unfold acS
  split
  · dsimp only
    rw [if_neg (by rintro (h | h) <;> contradiction), hR]
  · exact hR

def isM (M : Nat) : Prop := M = 58 ∨ M = 62 ∨ M = 68 ∨ M = 72
theorem isM.m {M : Nat} (h : isM M) : am_isMarks M = true := by rcases h with rfl | rfl | rfl | rfl <;> rfl
theorem isM.lo {M : Nat} (h : isM M) : 58 ≤ M ∧ M ≤ 72 := by rcases h with rfl | rfl | rfl | rfl <;> omega
def XW (K M : Nat) (X : am_Mu) (W : Wd) : Prop := ∀ k, k < K → X (M + 1) k = (W k).1 ∧ (¬ (W k).1 = 0 → X (M + 2) k = (W k).2.1 ∧ X (M + 3) k = (W k).2.2)
def FrMk (M : Nat) (X' X : am_Mu) : Prop := ∀ a, ¬ a = M + 1 → ¬ a = M + 2 → ¬ a = M + 3 → ¬ a = 53 → ¬ a = 54 → ¬ a = 55 → ¬ a = 56 → X' a = X a
def FrO (M : Nat) (X' X : am_Mu) : Prop := ∀ a, ¬ a = M + 1 → ¬ a = M + 2 → ¬ a = M + 3 → X' a = X a
theorem FrMk.trans {M : Nat} {A B C : am_Mu} (h1 : FrMk M A B) (h2 : FrMk M B C) : FrMk M A C := fun a q1 q2 q3 q4 q5 q6 q7 => (h1 a q1 q2 q3 q4 q5 q6 q7).trans (h2 a q1 q2 q3 q4 q5 q6 q7)
theorem FrMk.rf {M : Nat} {A : am_Mu} : FrMk M A A := fun _ _ _ _ _ _ _ _ => rfl
theorem FrO.toM {M : Nat} {A B : am_Mu} (h : FrO M A B) : FrMk M A B := fun a q1 q2 q3 _ _ _ _ => h a q1 q2 q3
theorem FrO.trans {M : Nat} {A B C : am_Mu} (h1 : FrO M A B) (h2 : FrO M B C) : FrO M A C := fun a q1 q2 q3 => (h1 a q1 q2 q3).trans (h2 a q1 q2 q3)
theorem FrO.rf {M : Nat} {A : am_Mu} : FrO M A A := fun _ _ _ _ => rfl
theorem XW.cong {K M : Nat} {X X' : am_Mu} {W : Wd} (h : XW K M X W) (e1 : X' (M + 1) = X (M + 1)) (e2 : X' (M + 2) = X (M + 2)) (e3 : X' (M + 3) = X (M + 3)) : XW K M X' W := by
  intro k hk
  rw [e1, e2, e3]
  exact h k hk
theorem XW.up3 {K M k : Nat} {X : am_Mu} {W : Wd} {v p q : Int32} (h : XW K M X W) : XW K M (am_up (am_up (am_up X (M + 1) k v) (M + 2) k p) (M + 3) k q) (wup W k (v, p, q)) := by
  intro j hj
  rw [up_row (a := M + 1) (by omega), up_row (a := M + 1) (by omega), up_row (a := M + 2) (by omega), up_at, up_at, up_at, up_row (a := M + 2) (by omega), up_row (a := M + 3) (by omega), up_row (a := M + 3) (by omega)]
  unfold wup
  by_cases hjk : j = k
  · rw [if_pos hjk, if_pos hjk, if_pos hjk, if_pos hjk]
    exact ⟨rfl, fun _ => ⟨rfl, rfl⟩⟩
  · rw [if_neg hjk, if_neg hjk, if_neg hjk, if_neg hjk]
    exact h j hj
theorem FrO.up3 {M k : Nat} {X : am_Mu} {v p q : Int32} : FrO M (am_up (am_up (am_up X (M + 1) k v) (M + 2) k p) (M + 3) k q) X := by
  intro a h1 h2 h3
  rw [up_row h3, up_row h2, up_row h1]
theorem x_wput {M k : Nat} (hM : isM M) (hk : k < 160) (v m : Int32) (X : am_Mu) : fMarks_put M (nI k) v m X = some (am_up (am_up (am_up X (M + 1) k v) (M + 2) k m) (M + 3) k m) := by
  unfold fMarks_put
  rw [hM.m, cond_true, inb_n hk (by omega), cond_true, nI_clamp (by omega)]
theorem up_self {μ : am_Mu} {a i : Nat} {v : Int32} (h : μ a i = v) : am_up μ a i v = μ := by
  funext b j
  simp only [upa]
  split
  · rename_i hb
    rw [hb.1, hb.2, h]
  · rfl
theorem x_j33 {M k : Nat} (hM : isM M) (hk : k < 160) (Y : am_Mu) {a p q : Int32} (n : Prop) [Decidable n] : fMarks_join_33 M (nI k) a p q (b2i n) Y = some (if a = 0 then Y else if n then am_up (am_up Y (M + 2) k p) (M + 3) k q else am_up (am_up Y (M + 2) k (if p < Y (M + 2) k then p else Y (M + 2) k)) (M + 3) k (if Y (M + 3) k < q then q else Y (M + 3) k)) := by
  have r3 : ∀ x, am_up Y (M + 2) k x (M + 3) k = Y (M + 3) k := fun x => by rw [up_row (by omega)]
  unfold fMarks_join_33
  rw [hM.m, cond_true, inb_n hk (by omega), cond_true, cond_true, nI_clamp (by omega)]
  by_cases h0 : a = 0
  · rw [if_pos h0, if_pos h0]
  · rw [if_neg h0, if_neg h0]
    by_cases hn : n
    · rw [b2i_t hn, if_pos (by decide), if_pos (by decide), if_pos hn]
    · rw [b2i_f hn, if_neg (by decide), if_neg hn]
      simp only [r3]
      by_cases hp : p < Y (M + 2) k
      · rw [if_neg (Int32.not_le.mpr hp), if_neg (by decide), if_pos hp]
        by_cases hq : Y (M + 3) k < q
        · rw [if_neg (Int32.not_le.mpr hq), if_pos hq]
        · rw [if_pos (Int32.not_lt.mp hq), if_neg hq]
      · rw [if_pos (Int32.not_lt.mp hp), if_neg (by decide), if_neg hp]
        by_cases hq : Y (M + 3) k < q
        · rw [if_neg (Int32.not_le.mpr hq), if_pos hq]
        · rw [if_pos (Int32.not_lt.mp hq), if_neg hq]
theorem x_wjoin {K M k : Nat} (hM : isM M) (hK : K ≤ 160) (hk : k < K) {X : am_Mu} {W : Wd} (h : XW K M X W) (hg : V3 (W k).1) {t : TR} (ht : V3 t.1) {p q : Int32} (hpq : ¬ t.1 = 0 → p = t.2.1 ∧ q = t.2.2) : ∃ X', fMarks_join M (nI k) t.1 p q X = some X' ∧ XW K M X' (wup W k (jn (W k) t)) ∧ FrO M X' X := by
  obtain ⟨h1, h2⟩ := h k hk
  have k160 : k < 160 := by omega
  have eq : fMarks_join M (nI k) t.1 p q X = fMarks_join_33 M (nI k) t.1 p q (b2i ((W k).1 = 0)) (am_up X (M + 1) k (if (W k).1 = t.1 then (W k).1 else 1)) := by
    have e14 : ∀ s, fMarks_join_14 M (nI k) t.1 p q s X = fMarks_join_33 M (nI k) t.1 p q s (am_up X (M + 1) k (if (W k).1 = t.1 then (W k).1 else 1)) := by
      intro s
      unfold fMarks_join_14
      rw [hM.m, cond_true, inb_n k160 (by omega), cond_true, nI_clamp (by omega), h1]
      by_cases ht : (W k).1 = t.1
      · rw [if_pos ht, if_pos ht, up_self h1]
      · rw [if_neg ht, if_neg ht]
    unfold fMarks_join
    rw [hM.m, cond_true, inb_n k160 (by omega), cond_true, nI_clamp (by omega), h1]
    by_cases hw : (W k).1 = 0
    · rw [if_neg (by simpa using hw), b2i_t hw, e14]
    · rw [if_pos hw, b2i_f hw, e14]
  rw [eq, x_j33 hM k160]
  by_cases h0 : t.1 = 0
  · rw [if_pos h0]
    refine ⟨_, rfl, ?_, fun a q1 q2 q3 => up_row q1⟩
    intro j hj
    rw [up_at, up_row (by omega), up_row (by omega)]
    unfold wup
    by_cases hjk : j = k
    · rw [if_pos hjk, if_pos hjk, hjk]
      unfold jn
      rw [if_pos h0]
      by_cases hw : (W k).1 = 0
      · rw [if_pos hw, hw, h0, if_pos rfl]
        exact ⟨rfl, fun h => absurd rfl h⟩
      · rw [if_neg hw, if_neg (by rw [h0]; exact hw)]
        exact ⟨rfl, fun _ => h2 hw⟩
    · rw [if_neg hjk, if_neg hjk]
      exact h j hj
  · obtain ⟨hp, hq⟩ := hpq h0
    rw [if_neg h0]
    by_cases hw : (W k).1 = 0
    · rw [if_pos hw, if_neg (by rw [hw]; exact fun h => h0 h.symm)]
      refine ⟨_, rfl, ?_, FrO.up3⟩
      have : jn (W k) t = (1, p, q) := by
        unfold jn
        rw [if_neg h0, if_pos hw, hp, hq]
      rw [this]
      exact h.up3
    · rw [if_neg hw]
      obtain ⟨w2, w3⟩ := h2 hw
      have r2 : ∀ v, am_up X (M + 1) k v (M + 2) k = (W k).2.1 := fun v => by rw [up_row (by omega), w2]
      have r3 : ∀ v, am_up X (M + 1) k v (M + 3) k = (W k).2.2 := fun v => by rw [up_row (by omega), w3]
      rw [r2, r3, hp, hq]
      refine ⟨_, rfl, ?_, FrO.up3⟩
      have : jn (W k) t = ((if (W k).1 = t.1 then (W k).1 else 1), (if t.2.1 < (W k).2.1 then t.2.1 else (W k).2.1), (if (W k).2.2 < t.2.2 then t.2.2 else (W k).2.2)) := by
        unfold jn
        rw [if_neg h0, if_neg hw]
        congr 1
        rcases hg with g | g | g
        · exact absurd g hw
        · rw [g]
          rcases ht with g2 | g2 | g2
          · exact absurd g2 h0
          · rw [g2]; rfl
          · rw [g2]; rfl
        · rw [g]
          rcases ht with g2 | g2 | g2
          · exact absurd g2 h0
          · rw [g2]; rfl
          · rw [g2]; rfl
      rw [this]
      exact h.up3
/-- at the beginning -/
def wd0 (μ : am_Mu) : Wd := fun k => ((if hasB (μ 14 (k / 8)).toNatClampNeg (k % 8) then 2 else 0), 0, 0)
theorem wd0_g (μ : am_Mu) (K : Nat) : WG K (wd0 μ) := by
  intro k hk
  unfold wd0
  split
  · exact ⟨Or.inr (Or.inr rfl), fun _ => ⟨by decide, by decide, by decide⟩⟩
  · exact ⟨Or.inl rfl, fun h => absurd rfl h⟩
theorem nI_d8 {k : Nat} (h : k < 2 ^ 31) : nI k / 8 = nI (k / 8) := nI_div (b := 8) h (by omega)
theorem nI_m8 {k : Nat} (h : k < 2 ^ 31) : nI k - nI k / 8 * 8 = nI (k % 8) := nI_mod (b := 8) h (by omega)
/-- what was ahead, of the things of P -/
def AW (P : Nat → Prop) (X : am_Mu) (W : Wd) : Prop := ∀ k, P k → X 53 k = (W k).1 ∧ (¬ (W k).1 = 0 → X 54 k = (W k).2.1 ∧ X 55 k = (W k).2.2)
theorem x_copy {M a : Nat} (hM : isM M) (ha : a < 20) : ∀ q j n (X X0 : am_Mu), j + q = 8 * a + 8 → 8 * a ≤ j → q < n → (∀ r, ¬ r = 53 → ¬ r = 54 → ¬ r = 55 → X r = X0 r) → (∀ i, 8 * a ≤ i → i < j → X 53 i = X0 (M + 1) i ∧ X 54 i = X0 (M + 2) i ∧ X 55 i = X0 (M + 3) i) → (∀ i, ¬ (8 * a ≤ i ∧ i < 8 * a + 8) → X 53 i = X0 53 i ∧ X 54 i = X0 54 i ∧ X 55 i = X0 55 i) → ∃ X', fMarks_copyThing_5 n 52 M (nI a) (nI j) X = some X' ∧ (∀ r, ¬ r = 53 → ¬ r = 54 → ¬ r = 55 → X' r = X0 r) ∧ (∀ i, 8 * a ≤ i → i < 8 * a + 8 → X' 53 i = X0 (M + 1) i ∧ X' 54 i = X0 (M + 2) i ∧ X' 55 i = X0 (M + 3) i) ∧ ∀ i, ¬ (8 * a ≤ i ∧ i < 8 * a + 8) → X' 53 i = X0 53 i ∧ X' 54 i = X0 54 i ∧ X' 55 i = X0 55 i := by
  have lo := hM.lo
  have e8 : nI a * 8 + 8 = nI (8 * a + 8) := by
    show nI a * nI 8 + nI 8 = _
    rw [nI_mul, nI_plus, Nat.mul_comm]
  intro q
  induction q with
  | zero =>
    intro j n X X0 hj hj2 hn h1 h2 h3
    obtain ⟨n, rfl⟩ : ∃ k, n = k + 1 := ⟨n - 1, by omega⟩
    have : j = 8 * a + 8 := by omega
    subst this
    refine ⟨X, ?_, h1, h2, h3⟩
    rw [fMarks_copyThing_5, if_pos (by rw [e8]; exact Int32.le_refl _)]
  | succ q ih =>
    intro j n X X0 hj hj2 hn h1 h2 h3
    obtain ⟨n, rfl⟩ : ∃ k, n = k + 1 := ⟨n - 1, by omega⟩
    rw [fMarks_copyThing_5, if_neg (by rw [e8, nI_le_iff (by omega) (by omega)]; omega), show am_isMarks 52 = true from rfl, cond_true, hM.m, cond_true, inb_n (by omega) (by omega), cond_true, nI_clamp (by omega), show nI j + 1 = nI (j + 1) from nI_plus _ 1]
    have e2 : am_up X (52 + 1) j (X (M + 1) j) (M + 2) j = X (M + 2) j := by rw [up_row (by omega)]
    rw [e2]
    have e3 : am_up (am_up X (52 + 1) j (X (M + 1) j)) (52 + 2) j (X (M + 2) j) (M + 3) j = X (M + 3) j := by rw [up_row (by omega), up_row (by omega)]
    rw [e3]
    refine ih (j + 1) n _ X0 (by omega) (by omega) (by omega) ?_ ?_ ?_
    · intro r q1 q2 q3
      rw [up_row (by omega), up_row (by omega), up_row (by omega), h1 r q1 q2 q3]
    · intro i q1 q2
      rw [up_row (a := 53) (by omega), up_row (a := 53) (by omega), up_row (a := 54) (by omega)]
      by_cases hij : i = j
      · subst hij
        rw [up_eq, up_eq, up_eq, h1 (M + 1) (by omega) (by omega) (by omega), h1 (M + 2) (by omega) (by omega) (by omega), h1 (M + 3) (by omega) (by omega) (by omega)]
        exact ⟨rfl, rfl, rfl⟩
      · rw [up_ne2 hij, up_ne2 hij, up_ne2 hij, up_row (a := 54) (by omega), up_row (a := 55) (by omega), up_row (a := 55) (by omega)]
        exact h2 i q1 (by omega)
    · intro i hi
      have hij : ¬ i = j := by omega
      rw [up_row (a := 53) (by omega), up_row (a := 53) (by omega), up_row (a := 54) (by omega), up_ne2 hij, up_ne2 hij, up_ne2 hij, up_row (a := 54) (by omega), up_row (a := 55) (by omega), up_row (a := 55) (by omega)]
      exact h3 i hi
theorem x_copyT {K M a : Nat} (hM : isM M) (ha : a < 20) (hK : 8 * a + 8 ≤ K) {X : am_Mu} {W : Wd} (h : XW K M X W) {P : Nat → Prop} (hP : AW P X W) : ∃ X', fMarks_copyThing 52 M (nI a) X = some X' ∧ AW (fun k => k / 8 = a ∨ P k) X' W ∧ ∀ r, ¬ r = 53 → ¬ r = 54 → ¬ r = 55 → X' r = X r := by
  have e8 : nI a * 8 = nI (8 * a) := by
    show nI a * nI 8 = _
    rw [nI_mul, Nat.mul_comm]
  obtain ⟨X', i1, i2, i3, i4⟩ := x_copy hM ha 8 (8 * a) am_F X X (by omega) (by omega) (by unfold am_F; omega) (fun _ _ _ _ => rfl) (fun i h1 h2 => by omega) (fun _ _ => ⟨rfl, rfl, rfl⟩)
  refine ⟨X', ?_, ?_, i2⟩
  · unfold fMarks_copyThing
    rw [e8]
    exact i1
  · intro k hk
    by_cases hka : k / 8 = a
    · obtain ⟨j1, j2, j3⟩ := i3 k (by omega) (by omega)
      rw [j1, j2, j3]
      exact h k (by omega)
    · obtain ⟨j1, j2, j3⟩ := i4 k (by omega)
      rw [j1, j2, j3]
      rcases hk with hk | hk
      · exact absurd hk hka
      · exact hP k hk
/-- a thing is joined with what was ahead -/
theorem x_joinT {K M a : Nat} (hM : isM M) (ha : a < 20) (hK : K ≤ 160) (haK : 8 * a + 8 ≤ K) {W0 : Wd} (hg0 : WG K W0) : ∀ q j n (X : am_Mu) (W : Wd), j + q = 8 * a + 8 → 8 * a ≤ j → q < n → XW K M X W → WG K W → AW (fun k => k / 8 = a) X W0 → ∃ X', fMarks_joinThing_5 n M 52 (nI a) (nI j) X = some X' ∧ XW K M X' (fun k => if j ≤ k ∧ k < 8 * a + 8 then jn (W k) (W0 k) else W k) ∧ FrO M X' X := by
  have lo := hM.lo
  have e8 : nI a * 8 + 8 = nI (8 * a + 8) := by
    show nI a * nI 8 + nI 8 = _
    rw [nI_mul, nI_plus, Nat.mul_comm]
  intro q
  induction q with
  | zero =>
    intro j n X W hj hj2 hn h hg hA
    obtain ⟨n, rfl⟩ : ∃ k, n = k + 1 := ⟨n - 1, by omega⟩
    refine ⟨X, ?_, ?_, FrO.rf⟩
    · rw [fMarks_joinThing_5, if_pos (by rw [e8, show j = 8 * a + 8 by omega]; exact Int32.le_refl _)]
    · intro k hk
      dsimp only
      rw [if_neg (by omega)]
      exact h k hk
  | succ q ih =>
    intro j n X W hj hj2 hn h hg hA
    obtain ⟨n, rfl⟩ : ∃ k, n = k + 1 := ⟨n - 1, by omega⟩
    obtain ⟨a1, a2⟩ := hA j (by omega)
    have hj0 := hg0 j (by omega)
    rw [fMarks_joinThing_5, if_neg (by rw [e8, nI_le_iff (by omega) (by omega)]; omega), show am_isMarks 52 = true from rfl, cond_true, inb_n (by omega) (by omega), cond_true, hM.m, cond_true, nI_clamp (by omega), show nI j + 1 = nI (j + 1) from nI_plus _ 1]
    have e1 : X (52 + 1) j = (W0 j).1 := a1
    obtain ⟨X1, j1, j2, j3⟩ := x_wjoin hM hK (show j < K by omega) h (hg j (by omega)).1 (t := W0 j) hj0.1 (p := X (52 + 2) j) (q := X (52 + 3) j) a2
    rw [e1, j1, Option.bind_some]
    have hA' : AW (fun k => k / 8 = a) X1 W0 := by
      intro k hk
      rw [j3 53 (by omega) (by omega) (by omega), j3 54 (by omega) (by omega) (by omega), j3 55 (by omega) (by omega) (by omega)]
      exact hA k hk
    obtain ⟨X', i1, i2, i3⟩ := ih (j + 1) n X1 (wup W j (jn (W j) (W0 j))) (by omega) (by omega) (by omega) j2 (wup_g hg (jn_g (hg j (by omega)) hj0)) hA'
    refine ⟨X', i1, ?_, i3.trans j3⟩
    intro k hk
    have := i2 k hk
    dsimp only at this ⊢
    by_cases hkj : k = j
    · subst hkj
      rw [if_neg (by omega)] at this
      rw [if_pos (by omega)]
      unfold wup at this
      rw [if_pos rfl] at this
      exact this
    · unfold wup at this
      rw [if_neg hkj] at this
      by_cases hr : j ≤ k ∧ k < 8 * a + 8
      · rw [if_pos (by omega)] at this
        rw [if_pos hr]
        exact this
      · rw [if_neg (by omega)] at this
        rw [if_neg hr]
        exact this

theorem shr3 {n : Nat} (h : n < 2 ^ 31) : nI n >>> ((3 : Int32) &&& 31) = nI (n / 8) := by
  rw [show ((3 : Int32) &&& 31) = 3 by decide]
  unfold nI
  apply Int32.toBitVec_inj.mp
  rw [Int32.toBitVec_shiftRight, show (3 : Int32).toBitVec.smod 32 = 3#32 by decide, show (Int32.ofNat n).toBitVec.sshiftRight' 3#32 = (Int32.ofNat n).toBitVec.sshiftRight 3 from rfl, BitVec.sshiftRight_eq_of_msb_false]
  · apply BitVec.eq_of_toNat_eq
    simp [Nat.shiftRight_eq_div_pow]
    omega
  · rw [BitVec.msb_eq_false_iff_two_mul_lt]
    simp
    omega
theorem shr7 {n : Nat} (h : n < 2 ^ 31) : nI n >>> ((7 : Int32) &&& 31) = nI (n / 128) := by
  rw [show ((7 : Int32) &&& 31) = 7 by decide]
  unfold nI
  apply Int32.toBitVec_inj.mp
  rw [Int32.toBitVec_shiftRight, show (7 : Int32).toBitVec.smod 32 = 7#32 by decide, show (Int32.ofNat n).toBitVec.sshiftRight' 7#32 = (Int32.ofNat n).toBitVec.sshiftRight 7 from rfl, BitVec.sshiftRight_eq_of_msb_false]
  · apply BitVec.eq_of_toNat_eq
    simp [Nat.shiftRight_eq_div_pow]
    omega
  · rw [BitVec.msb_eq_false_iff_two_mul_lt]
    simp
    omega
theorem and8F : ∀ m : Fin 16, m.val &&& 8 = 8 * (m.val / 8 % 2) := by decide +kernel
theorem nat_and8 (n : Nat) : n &&& 8 = 8 * (n / 8 % 2) := by
  have h1 : (n &&& 8) % 2 ^ 4 = (n % 2 ^ 4) &&& (8 % 2 ^ 4) := Nat.and_mod_two_pow
  have h2 : n &&& 8 ≤ 8 := Nat.and_le_right
  have h3 := and8F ⟨n % 16, Nat.mod_lt _ (by decide)⟩
  dsimp only at h3
  have h4 : (8 : Nat) % 2 ^ 4 = 8 := rfl
  rw [h4] at h1
  have h5 : (2 : Nat) ^ 4 = 16 := rfl
  rw [h5] at h1
  rw [h3] at h1
  omega
theorem nat_and7 (n : Nat) : n &&& 7 = n % 8 := Nat.and_two_pow_sub_one_eq_mod n 3
theorem and8_z {n : Nat} (h : n < 2 ^ 31) : (nI n &&& 8 = 0) ↔ n / 8 % 2 = 0 := by
  have e1 : nI n &&& 8 = nI (8 * (n / 8 % 2)) := by
    show nI n &&& nI 8 = _
    rw [nI_and, nat_and8]
  rw [e1, show (0 : Int32) = nI 0 from rfl, nI_inj (by omega) (by omega)]
  omega
theorem and7_e (n : Nat) : nI n &&& 7 = nI (n % 8) := by
  show nI n &&& nI 7 = _
  rw [nI_and, nat_and7]
def yI (y : Option Nat) : Int32 := match y with
  | none => -1
  | some t => nI t
theorem yI_n {t : Nat} (h : t < 20) : ¬ nI t = -1 := by
  intro e
  have h0 := nI_pos' (n := t) (by omega)
  rw [e] at h0
  exact absurd h0 (by decide)
/-- the operand of a step -/
theorem x_opnd {W : Wd} {x : Nat} {y : Option Nat} (hx : x < 20) (hy : ∀ t, y = some t → t < 20) {m c : Int32} {X : am_Mu} (hA : AW (fun k => k / 8 = x ∨ some (k / 8) = y) X W) (hc : c = stC 0 0 0 ∨ (∃ b, b < 16 ∧ c = stC 4 (nI b) 0) ∨ ∃ b v, b < 16 ∧ v < 1000000 ∧ c = stC 5 (nI b) (nI v)) : fJudge_askOperand c (nI x) (yI y) m X = some (opv (ahA W x y) m c, X) := by
  rcases hc with rfl | hc
  · unfold fJudge_askOperand opv
    rw [if_neg (by decide), if_pos (by decide)]
  · have both : ∃ a b v : Nat, (a = 4 ∧ v = 0 ∨ a = 5) ∧ b < 16 ∧ v < 1000000 ∧ c = nI (a + 8 * b + 128 * v) := by
      rcases hc with ⟨b, h1, h2⟩ | ⟨b, v, h1, h2, h3⟩
      · exact ⟨4, b, 0, Or.inl ⟨rfl, rfl⟩, h1, by omega, by rw [h2]; exact st_nat (a := 4) (v := 0) (by omega) h1⟩
      · exact ⟨5, b, v, Or.inr rfl, h1, h2, by rw [h3]; exact st_nat (a := 5) (by omega) h1⟩
    obtain ⟨a, b, v, ha, hb, hv, rfl⟩ := both
    clear hc
    have ha2 : a = 4 ∨ a = 5 := by
      rcases ha with ⟨h, -⟩ | h
      · exact Or.inl h
      · exact Or.inr h
    have e7 : nI (a + 8 * b + 128 * v) &&& 7 = nI a := by
      rw [and7_e]
      congr 1
      omega
    have e3 : nI (a + 8 * b + 128 * v) >>> ((3 : Int32) &&& 31) = nI (b + 16 * v) := by
      rw [shr3 (by omega)]
      congr 1
      omega
    have e77 : nI (a + 8 * b + 128 * v) >>> ((7 : Int32) &&& 31) = nI v := by
      rw [shr7 (by omega)]
      congr 1
      omega
    have ent : (nI (a + 8 * b + 128 * v)).toNatClampNeg = a + 8 * b + 128 * v := nI_clamp (by omega)
    have na0 : ¬ nI a = 0 := by rcases ha2 with rfl | rfl <;> decide
    have z8 : (nI (b + 16 * v) &&& 8 = 0) ↔ b < 8 := by
      rw [and8_z (by omega)]
      omega
    have z7 : nI (b + 16 * v) &&& 7 = nI (b % 8) := by
      rw [and7_e]
      congr 1
      omega
    unfold opv
    rw [e7, ent, if_neg na0, show (a + 8 * b + 128 * v) / 8 % 16 = b by omega, show (a + 8 * b + 128 * v) / 128 = v by omega]
    -- one thing, of x's side or of y's
    have one : ∀ t, t < 20 → (∀ k, k / 8 = t → X 53 k = (W k).1 ∧ (¬ (W k).1 = 0 → X 54 k = (W k).2.1 ∧ X 55 k = (W k).2.2)) → fJudge_askOperand_31 (nI (a + 8 * b + 128 * v)) m (nI a) (nI (b + 16 * v)) (nI t) X = some ((if nI a = 4 then (W (8 * t + b % 8)).1 else lat (W (8 * t + b % 8)) m (nI v)), X) := by
      intro t ht hX
      have ep : nI t * 8 + nI (b % 8) = nI (8 * t + b % 8) := by
        show nI t * nI 8 + _ = _
        rw [nI_mul, nI_plus, Nat.mul_comm]
      obtain ⟨w1, w2⟩ := hX (8 * t + b % 8) (by omega)
      unfold fJudge_askOperand_31
      rw [if_pos (yI_n ht), z7, ep, e77, inb_n (show 8 * t + b % 8 < 160 by omega) (by omega), nI_clamp (show 8 * t + b % 8 < 2 ^ 31 by omega), w1]
      by_cases h4 : nI a = 4
      · rw [if_pos h4, if_pos h4, cond_true]
      · rw [if_neg h4, if_neg h4, cond_true]
        unfold lat
        by_cases h0 : (W (8 * t + b % 8)).1 = 0
        · rw [if_neg (by simpa using h0), if_pos h0, h0]
        · obtain ⟨w3, w4⟩ := w2 h0
          rw [if_pos h0, if_neg h0, w3, w4]
          by_cases hl : m - (W (8 * t + b % 8)).2.2 < nI v
          · rw [if_pos hl, if_pos hl]
            by_cases he : m - (W (8 * t + b % 8)).2.1 < nI v
            · rw [if_neg (Int32.not_le.mpr he), if_pos he]
            · rw [if_pos (Int32.not_lt.mp he), if_neg he]
          · rw [if_neg hl, if_neg hl]
    unfold fJudge_askOperand
    rw [e7, e3, if_pos na0]
    unfold ahA
    by_cases hb8 : b < 8
    · rw [if_neg (by rw [z8]; simpa using hb8), one x hx (fun k hk => hA k (Or.inl hk)), if_pos hb8, show b % 8 = b by omega]
    · rw [if_pos (by rw [z8]; exact hb8), if_neg hb8]
      cases hy' : y with
      | none =>
        unfold fJudge_askOperand_31 yI
        dsimp only
        rw [if_neg (by decide)]
        unfold z3 lat
        dsimp only
        rw [if_pos rfl]
        split <;> rfl
      | some t =>
        unfold yI
        dsimp only
        rw [one t (hy t hy') (fun k hk => hA k (Or.inr (by rw [hy', hk]))), show b - 8 = b % 8 by omega]
theorem flS_take {rs : List LR} {r : Nat} (h : r < rs.length) : flS (rs.take (r + 1)) = flS (rs.take r) ++ (rs.getD r dR).2.1 ∧ flS rs = flS (rs.take (r + 1)) ++ flS (rs.drop (r + 1)) ∧ flE (rs.take (r + 1)) = flE (rs.take r) ++ (rs.getD r dR).2.2 ∧ flE rs = flE (rs.take (r + 1)) ++ flE (rs.drop (r + 1)) := by
  have e1 : rs.take (r + 1) = rs.take r ++ [rs.getD r dR] := by
    rw [List.take_succ]
    simp [List.getD_eq_getElem?_getD, List.getElem?_eq_getElem h]
  have e2 : rs = rs.take (r + 1) ++ rs.drop (r + 1) := (List.take_append_drop _ _).symm
  have c1 : flS [rs.getD r dR] = (rs.getD r dR).2.1 := by show _ ++ [] = _; rw [List.append_nil]
  have c2 : flE [rs.getD r dR] = (rs.getD r dR).2.2 := by show _ ++ [] = _; rw [List.append_nil]
  refine ⟨by rw [e1, flS_app, c1], by rw [← flS_app, ← e2], by rw [e1, flE_app, c2], by rw [← flE_app, ← e2]⟩
theorem getD_mid {A B C : List Int32} {i : Nat} (h : i < B.length) : ((A ++ B) ++ C).getD (A.length + i) 0 = B.getD i 0 := by
  simp only [List.getD_eq_getElem?_getD]
  rw [List.getElem?_append_left (by rw [List.length_append]; omega), List.getElem?_append_right (by omega), show A.length + i - A.length = i by omega]
theorem evS_not {A : Wd} {m c x : Int32} {l r : List Int32} (h : c &&& 7 = 1) : evS A m (c :: l) (x :: r) = evS A m l ((2 - x) :: r) := by
  rw [evS.eq_def]
  dsimp only
  rw [if_pos h]
theorem evS_and {A : Wd} {m c x y : Int32} {l r : List Int32} (h : c &&& 7 = 2) : evS A m (c :: l) (x :: y :: r) = evS A m l ((if x < y then x else y) :: r) := by
  rw [evS.eq_def]
  dsimp only
  rw [if_neg (by rw [h]; decide), if_pos h]
theorem evS_or {A : Wd} {m c x y : Int32} {l r : List Int32} (h : c &&& 7 = 3) : evS A m (c :: l) (x :: y :: r) = evS A m l ((if y < x then x else y) :: r) := by
  rw [evS.eq_def]
  dsimp only
  rw [if_neg (by rw [h]; decide), if_neg (by rw [h]; decide), if_pos h]
theorem evS_op {A : Wd} {m c : Int32} {l st : List Int32} (h1 : ¬ c &&& 7 = 1) (h2 : ¬ c &&& 7 = 2) (h3 : ¬ c &&& 7 = 3) : evS A m (c :: l) st = evS A m l (opv A m c :: st) := by
  rw [evS.eq_def]
  dsimp only
  rw [if_neg h1, if_neg h2, if_neg h3]
theorem isL_of {L : Nat} (h : L = 28 ∨ L = 34 ∨ L = 40 ∨ L = 46) : am_isLaw L = true ∧ 28 ≤ L ∧ L ≤ 46 := by rcases h with rfl | rfl | rfl | rfl <;> decide
theorem x_ask {L : Nat} (hL : L = 28 ∨ L = 34 ∨ L = 40 ∨ L = 46) {W : Wd} {x : Nat} {y : Option Nat} (hx : x < 20) (hy : ∀ t, y = some t → t < 20) {m : Int32} {rs : List LR} (hg : LG rs) {r : Nat} (hr : r < rs.length) {X0 : am_Mu} (hX : LX L X0 rs) (hA : AW (fun k => k / 8 = x ∨ some (k / 8) = y) X0 W) : ∀ rest pre st n (X : am_Mu), (rs.getD r dR).2.1 = pre ++ rest → dpS rest st.length = some 1 → st.length + opS rest ≤ 80 → rest.length < n → RowIs (X 56) st.reverse → (∀ a, ¬ a = 56 → X a = X0 a) → ∃ X', fJudge_ask_10 n L (nI r) (nI x) (yI y) m (nI st.length) (nI ((flS (rs.take r)).length + pre.length)) X = some ((evS (ahA W x y) m rest st).headD 0, X') ∧ ∀ a, ¬ a = 56 → X' a = X0 a := by
  obtain ⟨hl1, hl2, hl3⟩ := isL_of hL
  obtain ⟨t1, t2, -, -⟩ := flS_take hr
  obtain ⟨g1, g2, g3, g4⟩ := hg
  have hRG := g1 _ (getD_mem (d := dR) hr)
  have hend : X0 (L + 2) r = nI ((flS (rs.take r)).length + (rs.getD r dR).2.1.length) := by
    rw [(hX.2.1 r hr).2.1, t1, List.length_append]
  have hsegl : (flS (rs.take r)).length + (rs.getD r dR).2.1.length ≤ 240 := by
    have : (flS rs).length = (flS (rs.take r)).length + (rs.getD r dR).2.1.length + (flS (rs.drop (r + 1))).length := by
      rw [t2, t1, List.length_append, List.length_append]
    omega
  have hrow : ∀ i, i < (rs.getD r dR).2.1.length → (flS (rs.take r)).length + i < 240 ∧ X0 (L + 4) ((flS (rs.take r)).length + i) = (rs.getD r dR).2.1.getD i 0 := by
    intro i hi
    have hlen : (flS (rs.take r)).length + i < (flS rs).length := by
      rw [t2, t1, List.length_append, List.length_append]
      omega
    refine ⟨by omega, ?_⟩
    rw [hX.2.2.1 _ hlen, t2, t1, getD_mid hi]
  intro rest
  induction rest with
  | nil =>
    intro pre st n X hseg hdp hop hn hst hfr
    obtain ⟨n, rfl⟩ : ∃ k, n = k + 1 := ⟨n - 1, by omega⟩
    rw [List.append_nil] at hseg
    have hlen : st.length = 1 := by
      unfold dpS at hdp
      exact Option.some.inj hdp
    rw [fJudge_ask_10, hl1, cond_true, inb_n (by omega) (by omega), cond_true, nI_clamp (by omega), hfr (L + 2) (by omega), hend, hseg, if_pos (Int32.le_refl _)]
    unfold fJudge_ask_188 evS
    rw [hlen, if_neg (by decide)]
    refine ⟨X, ?_, hfr⟩
    match st, hlen with
    | [v], _ =>
      have := hst 0 (by simp)
      rw [this]
      rfl
  | cons c l ih =>
    intro pre st n X hseg hdp hop hn hst hfr
    obtain ⟨n, rfl⟩ : ∃ k, n = k + 1 := ⟨n - 1, by omega⟩
    rw [List.length_cons] at hn
    have hpl : pre.length < (rs.getD r dR).2.1.length := by rw [hseg, List.length_append, List.length_cons]; omega
    have hcode : (rs.getD r dR).2.1.getD pre.length 0 = c := by
      rw [hseg]
      simp [List.getD_eq_getElem?_getD]
    obtain ⟨r1, r2⟩ := hrow _ hpl
    rw [hcode] at r2
    have hcG := hRG.2.2.2.1 c (by rw [hseg]; simp)
    have hsl : st.length ≤ 80 := by omega
    have nxt : ∀ (st' : List Int32) (X' : am_Mu), dpS l st'.length = some 1 → st'.length + opS l ≤ 80 → RowIs (X' 56) st'.reverse → (∀ a, ¬ a = 56 → X' a = X0 a) → evS (ahA W x y) m l st' = evS (ahA W x y) m (c :: l) st → ∃ X'', fJudge_ask_182 (fJudge_ask_10 n) L (nI r) (nI x) (yI y) m (nI st'.length) (nI ((flS (rs.take r)).length + pre.length)) X' = some ((evS (ahA W x y) m (c :: l) st).headD 0, X'') ∧ ∀ a, ¬ a = 56 → X'' a = X0 a := by
      intro st' X' h1 h2 h3 h4 h5
      unfold fJudge_ask_182
      rw [show nI ((flS (rs.take r)).length + pre.length) + 1 = nI ((flS (rs.take r)).length + (pre ++ [c]).length) by rw [List.length_append, List.length_singleton, ← Nat.add_assoc]; exact nI_plus _ 1, ← h5]
      exact ih (pre ++ [c]) st' n X' (by rw [hseg, List.append_assoc]; rfl) h1 h2 (by omega) h3 h4
    rw [fJudge_ask_10, hl1, cond_true, inb_n (show r < 24 by omega) (by omega), cond_true, nI_clamp (show r < 2 ^ 31 by omega), hfr (L + 2) (by omega), hend, if_neg (by rw [nI_le_iff (by omega) (by omega)]; omega), inb_n r1 (by omega), cond_true, nI_clamp (show (flS (rs.take r)).length + pre.length < 2 ^ 31 by omega), hfr (L + 4) (by omega), r2]
    -- two values become one
    have pair : ∀ (v : Int32) (a9 : Int32), (c &&& 7 = a9) → (a9 = 2 ∨ a9 = 3) → ∃ X'', fJudge_ask_83 (fJudge_ask_10 n) L (nI r) (nI x) (yI y) m (nI st.length) (nI ((flS (rs.take r)).length + pre.length)) a9 X = some ((evS (ahA W x y) m (c :: l) st).headD 0, X'') ∧ ∀ a, ¬ a = 56 → X'' a = X0 a := by
      intro _ a9 h7 h23
      have h71 : ¬ c &&& 7 = 1 := by rw [h7]; rcases h23 with h | h <;> rw [h] <;> decide
      have hdp' : 2 ≤ st.length ∧ dpS l (st.length - 1) = some 1 := by
        unfold dpS at hdp
        rw [if_neg h71, if_pos (by rw [h7]; exact h23)] at hdp
        split at hdp
        · exact ⟨by assumption, hdp⟩
        · cases hdp
      have hop' : opS (c :: l) = opS l := by
        show (if c &&& 7 = 1 ∨ c &&& 7 = 2 ∨ c &&& 7 = 3 then opS l else opS l + 1) = _
        rw [if_pos (by rw [h7]; exact Or.inr h23)]
      match st, hdp', hst with
      | p :: q :: s, hdp', hst =>
        have hl2' : (p :: q :: s).length = s.length + 2 := rfl
        have e0 : X 56 (s.length + 1) = p := by
          rw [hst (s.length + 1) (by simp)]
          simp [List.getD_eq_getElem?_getD]
        have e1 : X 56 s.length = q := by
          rw [hst s.length (by simp)]
          simp [List.getD_eq_getElem?_getD, List.getElem?_append_left, List.getElem?_append_right]
        have i1 : nI (s.length + 2) + (-1) = nI (s.length + 1) := by
          have : nI (s.length + 2) = nI (s.length + 1) + 1 := (nI_plus (s.length + 1) 1).symm
          rw [this]
          grind
        have i2 : nI (s.length + 1) - 1 = nI s.length := nI_sub (a := s.length + 1) (b := 1) (by omega)
        have fin : ∀ (v : Int32), evS (ahA W x y) m l (v :: s) = evS (ahA W x y) m (c :: l) (p :: q :: s) → ∃ X'', fJudge_ask_147 (fJudge_ask_10 n) L (nI r) (nI x) (yI y) m (nI (s.length + 1)) (nI ((flS (rs.take r)).length + pre.length)) (nI s.length) v X = some ((evS (ahA W x y) m (c :: l) (p :: q :: s)).headD 0, X'') ∧ ∀ a, ¬ a = 56 → X'' a = X0 a := by
          intro v hv
          unfold fJudge_ask_147
          rw [inb_n (by omega) (by omega), cond_true, nI_clamp (by omega)]
          refine nxt (v :: s) _ (by rw [List.length_cons]; exact hdp'.2) (by rw [List.length_cons]; omega) ?_ (fun a ha => by rw [up_row ha, hfr a ha]) hv
          rw [List.reverse_cons]
          refine RowIs.app (r := X 56) ?_ ?_
          · rw [List.reverse_cons, List.reverse_cons] at hst
            exact hst.left.left
          · intro j
            rw [up_at, List.length_reverse]
        unfold fJudge_ask_83
        rw [hl2', if_neg (by show ¬ _ ≤ nI 1; rw [nI_le_iff (by omega) (by omega)]; omega), i1, i2, inb_n (show s.length < 80 by omega) (by omega), inb_n (show s.length + 1 < 80 by omega) (by omega), cond_true, cond_true, nI_clamp (show s.length < 2 ^ 31 by omega), nI_clamp (show s.length + 1 < 2 ^ 31 by omega), e0, e1]
        rcases h23 with h | h
        · rw [if_neg (by rw [h]; decide), cond_true, cond_true]
          refine fin _ ?_
          exact (evS_and (by rw [h7, h])).symm
        · rw [if_pos (by rw [h]; decide)]
          refine fin _ ?_
          exact (evS_or (by rw [h7, h])).symm
    have opd : (c = stC 0 0 0 ∨ (∃ b, b < 16 ∧ c = stC 4 (nI b) 0) ∨ ∃ b v, b < 16 ∧ v < 1000000 ∧ c = stC 5 (nI b) (nI v)) → ∃ X'', (if ¬ c &&& 7 = 1 then (if c &&& 7 = 2 then fJudge_ask_83 (fJudge_ask_10 n) L (nI r) (nI x) (yI y) m (nI st.length) (nI ((flS (rs.take r)).length + pre.length)) (c &&& 7) X else (if ¬ c &&& 7 = 3 then (if 80 ≤ nI st.length then fJudge_ask_182 (fJudge_ask_10 n) L (nI r) (nI x) (yI y) m (nI st.length) (nI ((flS (rs.take r)).length + pre.length)) X else ((fJudge_askOperand c (nI x) (yI y) m X).bind fun q8 => (bif am_inb (nI st.length) 80 then fJudge_ask_182 (fJudge_ask_10 n) L (nI r) (nI x) (yI y) m (nI st.length + 1) (nI ((flS (rs.take r)).length + pre.length)) (am_up q8.2 56 ((nI st.length).toNatClampNeg) q8.1) else none))) else fJudge_ask_83 (fJudge_ask_10 n) L (nI r) (nI x) (yI y) m (nI st.length) (nI ((flS (rs.take r)).length + pre.length)) (c &&& 7) X)) else (if nI st.length ≤ 0 then fJudge_ask_182 (fJudge_ask_10 n) L (nI r) (nI x) (yI y) m (nI st.length) (nI ((flS (rs.take r)).length + pre.length)) X else (bif am_inb (nI st.length - 1) 80 then fJudge_ask_182 (fJudge_ask_10 n) L (nI r) (nI x) (yI y) m (nI st.length) (nI ((flS (rs.take r)).length + pre.length)) (am_up X 56 (((nI st.length - 1)).toNatClampNeg) ((2 : Int32) - (X 56 (((nI st.length - 1)).toNatClampNeg)))) else none))) = some ((evS (ahA W x y) m (c :: l) st).headD 0, X'') ∧ ∀ a, ¬ a = 56 → X'' a = X0 a := by
      intro hc
      have k7 : ¬ c &&& 7 = 1 ∧ ¬ c &&& 7 = 2 ∧ ¬ c &&& 7 = 3 := by
        rcases hc with rfl | ⟨b, hb, rfl⟩ | ⟨b, v, hb, hv, rfl⟩
        · decide
        · have := st7 (a := 4) (b := b) (v := 0) (by omega) hb
          rw [show stC 4 (nI b) 0 = stC (nI 4) (nI b) (nI 0) from rfl, this]
          decide
        · have := st7 (a := 5) (b := b) (v := v) (by omega) hb
          rw [show stC 5 (nI b) (nI v) = stC (nI 5) (nI b) (nI v) from rfl, this]
          decide
      obtain ⟨k1, k2, k3⟩ := k7
      have hdp' : dpS l (st.length + 1) = some 1 := by
        unfold dpS at hdp
        rw [if_neg k1, if_neg (by rintro (h | h) <;> contradiction)] at hdp
        exact hdp
      have hop' : opS (c :: l) = opS l + 1 := by
        show (if c &&& 7 = 1 ∨ c &&& 7 = 2 ∨ c &&& 7 = 3 then opS l else opS l + 1) = _
        rw [if_neg (by rintro (h | h | h) <;> contradiction)]
      have hA' : AW (fun k => k / 8 = x ∨ some (k / 8) = y) X W := by
        intro k hk
        rw [hfr 53 (by decide), hfr 54 (by decide), hfr 55 (by decide)]
        exact hA k hk
      rw [if_pos k1, if_neg k2, if_pos k3, if_neg (by show ¬ nI 80 ≤ _; rw [nI_le_iff (by omega) (by omega)]; omega), x_opnd hx hy hA' hc, Option.bind_some, inb_n (by omega) (by omega), cond_true, nI_clamp (by omega), show nI st.length + 1 = nI (opv (ahA W x y) m c :: st).length from nI_plus _ 1]
      dsimp only
      refine nxt (opv (ahA W x y) m c :: st) _ (by rw [List.length_cons]; exact hdp') (by rw [List.length_cons]; omega) ?_ (fun a ha => by rw [up_row ha, hfr a ha]) ?_
      · rw [List.reverse_cons]
        refine RowIs.app hst ?_
        intro j
        rw [up_at, List.length_reverse]
      · exact (evS_op k1 k2 k3).symm
    rcases hcG with h | h | h | h | h | h
    · exact opd (Or.inl h)
    · have k1 : c &&& 7 = 1 := by rw [h]; decide
      have hdp' : 1 ≤ st.length ∧ dpS l st.length = some 1 := by
        unfold dpS at hdp
        rw [if_pos k1] at hdp
        split at hdp
        · exact ⟨by assumption, hdp⟩
        · cases hdp
      have hop' : opS (c :: l) = opS l := by
        show (if c &&& 7 = 1 ∨ c &&& 7 = 2 ∨ c &&& 7 = 3 then opS l else opS l + 1) = _
        rw [if_pos (Or.inl k1)]
      match st, hdp', hst with
      | p :: s, hdp', hst =>
        have hl2' : (p :: s).length = s.length + 1 := rfl
        have e0 : X 56 s.length = p := by
          rw [hst s.length (by simp)]
          simp [List.getD_eq_getElem?_getD]
        have i2 : nI (s.length + 1) - 1 = nI s.length := nI_sub (a := s.length + 1) (b := 1) (by omega)
        rw [hl2', if_neg (by simpa using k1), if_neg (by show ¬ _ ≤ nI 0; rw [nI_le_iff (by omega) (by omega)]; omega), i2, inb_n (show s.length < 80 by omega) (by omega), cond_true, nI_clamp (show s.length < 2 ^ 31 by omega), e0]
        have := nxt ((2 - p) :: s) (am_up X 56 s.length (2 - p)) (by rw [List.length_cons]; exact hdp'.2) (by rw [List.length_cons]; omega) (by
          rw [List.reverse_cons]
          refine RowIs.app (r := X 56) ?_ ?_
          · rw [List.reverse_cons] at hst
            exact hst.left
          · intro j
            rw [up_at, List.length_reverse]) (fun a ha => by rw [up_row ha, hfr a ha]) (evS_not k1).symm
        exact this
    · have k7 : c &&& 7 = 2 := by rw [h]; decide
      rw [if_pos (by rw [k7]; decide), if_pos k7]
      exact pair 0 (c &&& 7) rfl (Or.inl k7)
    · have k7 : c &&& 7 = 3 := by rw [h]; decide
      rw [if_pos (by rw [k7]; decide), if_neg (by rw [k7]; decide), if_neg (by rw [k7]; decide)]
      exact pair 0 (c &&& 7) rfl (Or.inr k7)
    · exact opd (Or.inr (Or.inl h))
    · exact opd (Or.inr (Or.inr h))

theorem LX.of_fr {L : Nat} (hL : L = 28 ∨ L = 34 ∨ L = 40 ∨ L = 46) {X X' : am_Mu} {rs : List LR} (h : LX L X rs) (hf : ∀ a, a ≤ 52 → X' a = X a) : LX L X' rs := by
  obtain ⟨-, h1, h2⟩ := isL_of hL
  exact h.cong (by rw [hf L (by omega)]) (fun j => by rw [hf _ (by omega)]) (fun j => by rw [hf _ (by omega)]) (fun j => by rw [hf _ (by omega)]) (fun j => by rw [hf _ (by omega)]) (fun j => by rw [hf _ (by omega)])
theorem x_askV {L : Nat} (hL : L = 28 ∨ L = 34 ∨ L = 40 ∨ L = 46) {W : Wd} {x : Nat} {y : Option Nat} (hx : x < 20) (hy : ∀ t, y = some t → t < 20) {m : Int32} {rs : List LR} (hg : LG rs) {r : Nat} (hr : r < rs.length) {X : am_Mu} (hX : LX L X rs) (hA : AW (fun k => k / 8 = x ∨ some (k / 8) = y) X W) : ∃ X', fJudge_ask L (nI r) (nI x) (yI y) m X = some (evV (ahA W x y) m (rs.getD r dR).2.1, X') ∧ ∀ a, ¬ a = 56 → X' a = X a := by
  obtain ⟨hl1, hl2, hl3⟩ := isL_of hL
  obtain ⟨g1, g2, g3, g4⟩ := hg
  have hRG := g1 _ (getD_mem (d := dR) hr)
  have hsf : fLaw_stepsFrom L (nI r) X = some (nI (flS (rs.take r)).length, X) := by
    unfold fLaw_stepsFrom
    cases r with
    | zero => rw [if_pos (by decide)]; rfl
    | succ r =>
      rw [if_neg (by show ¬ _ ≤ nI 0; rw [nI_le_iff (by omega) (by omega)]; omega), hl1, cond_true, show nI (r + 1) - 1 = nI r from nI_sub (a := r + 1) (b := 1) (by omega), inb_n (by omega) (by omega), cond_true, nI_clamp (by omega), (hX.2.1 r (by omega)).2.1]
  have hseg : (rs.getD r dR).2.1.length ≤ 240 := by
    obtain ⟨t1, t2, -, -⟩ := flS_take hr
    rw [t2, t1, List.length_append, List.length_append] at g3
    omega
  obtain ⟨X', e1, e2⟩ := x_ask hL hx hy (m := m) ⟨g1, g2, g3, g4⟩ hr hX hA (rs.getD r dR).2.1 [] [] am_F X rfl hRG.2.1 (by rw [List.length_nil]; have := hRG.2.2.1; omega) (by unfold am_F; omega) (fun j hj => absurd hj (by simp)) (fun _ _ => rfl)
  refine ⟨X', ?_, e2⟩
  unfold fJudge_ask
  rw [hl1, cond_true, hsf, Option.bind_some]
  exact e1
theorem eff32 : ∀ b : Fin 32, ((nI b.val &&& 8 = 0) ↔ b.val / 8 % 2 = 0) ∧ (nI b.val &&& 7 = nI (b.val % 8)) ∧ ((nI b.val &&& 16 = 0) ↔ ¬ 16 ≤ b.val) := by decide +kernel
