/-! E: the tour, the reference: the sets -/
theorem l_has {S k : Nat} (hS : S < 256) (hk : k < 8) (μ : am_Mu) : fM_has (nI S) (nI k) μ = some (b2i (hasB S k), μ) := by
  unfold fM_has
  rw [has8 hS hk]
  by_cases h : hasB S k
  · rw [if_pos h, if_neg (by decide), b2i_t h]
  · rw [if_neg h, if_pos (by decide), b2i_f h]
theorem absI (x : Int32) : (if x ≤ -x then -x else x) = if 0 ≤ x then x else 0 - x := by
  by_cases h : 0 ≤ x
  · rw [if_pos h]
    by_cases h2 : x ≤ -x
    · rw [if_pos h2]
      have h3 := Int32.le_iff_toInt_le.mp h
      have h4 := Int32.le_iff_toInt_le.mp h2
      have h0 : (0 : Int32).toInt = 0 := rfl
      have h5 := Int32.toInt_lt x
      rw [Int32.toInt_neg] at h4
      have h6 : (-x.toInt).bmod (2 ^ 32) = -x.toInt := Int.bmod_eq_of_le (by omega) (by omega)
      rw [h6] at h4
      have h7 : x = 0 := Int32.toInt_inj.mp (by omega)
      rw [h7]
      rfl
    · rw [if_neg h2]
  · rw [if_neg h]
    by_cases h2 : x ≤ -x
    · rw [if_pos h2]
      grind
    · rw [if_neg h2]
      have h3 : ¬ (0 : Int) ≤ x.toInt := fun q => h (Int32.le_iff_toInt_le.mpr q)
      have h4 : ¬ x.toInt ≤ (-x).toInt := fun q => h2 (Int32.le_iff_toInt_le.mpr q)
      have h5 := Int32.le_toInt x
      rw [Int32.toInt_neg] at h4
      by_cases h6 : x.toInt = -2 ^ 31
      · have h7 : x = Int32.minValue := Int32.toInt_inj.mp h6
        rw [h7]
        decide
      · have h8 : (-x.toInt).bmod (2 ^ 32) = -x.toInt := Int.bmod_eq_of_le (by omega) (by omega)
        rw [h8] at h4
        omega
theorem l_way0 {ks : Nat → Nat} {n : Nat} (hn : n ≤ 8) {ν μ : am_Mu} (h173 : ∀ i, i < n → ν 173 i = nI (ks i)) (hk : ∀ i, i < n → ks i < 8) (e154 : ∀ k, k < 8 → ν 154 k = μ 79 k) (e155 : ∀ k, k < 8 → ν 155 k = μ 80 k) {i j : Nat} (hi : i < n) (hj : j < n) : fM_way0 (nI i) (nI j) ν = some (dK μ (ks i) (ks j), ν) := by
  have most : ∀ a b μ, fM_most a b μ = some (if a ≤ b then b else a, μ) := by
    intro a b μ
    unfold fM_most
    split <;> rfl
  have ki := hk i hi
  have kj := hk j hj
  unfold fM_way0
  rw [inb_n (show i < 8 by omega) (by omega), inb_n (show j < 8 by omega) (by omega), cond_true, cond_true, nI_clamp (show i < 2 ^ 31 by omega), nI_clamp (show j < 2 ^ 31 by omega), h173 i hi, h173 j hj, inb_n ki (by omega), inb_n kj (by omega), cond_true, cond_true, nI_clamp (show ks i < 2 ^ 31 by omega), nI_clamp (show ks j < 2 ^ 31 by omega), e154 _ ki, e154 _ kj, e155 _ ki, e155 _ kj, most, Option.bind_some]
  dsimp only
  rw [most, Option.bind_some]
  dsimp only
  rw [absI, absI]
  rfl
theorem near_ext {w : Nat → Int32} {R n m : Nat} (hnm : n ≤ m) (h : ∀ i, i < m → hasB R i → i < n) : nearB w R m = nearB w R n := by
  refine near_u (near_p w R m) ?_
  have p := near_p w R n
  cases hq : nearB w R n with
  | none =>
    rw [hq] at p
    exact fun j hj hs => p j (h j hj hs) hs
  | some b =>
    rw [hq] at p
    obtain ⟨p1, p2, p3, p4⟩ := p
    exact ⟨by omega, p2, fun j hj hs => p3 j (h j hj hs) hs, p4⟩
def nvl (w : Nat → Int32) (p : Option Nat) : Int32 := match p with
  | none => 0
  | some b => w b
def nfl (p : Option Nat) : Int32 := match p with
  | none => 0
  | some _ => 1
theorem m_tset {ks : Nat → Nat} {n : Nat} (hn : n ≤ 8) {ν μ : am_Mu} (h173 : ∀ i, i < n → ν 173 i = nI (ks i)) (hk : ∀ i, i < n → ks i < 8) (e154 : ∀ k, k < 8 → ν 154 k = μ 79 k) (e155 : ∀ k, k < 8 → ν 155 k = μ 80 k) (e88 : ν 108 88 = nI n) {k84 : Int32 → am_Mu → Option am_Mu} {k96 : Int32 → Int32 → am_Mu → Option am_Mu} {T i : Nat} (hT : T < 256) (hi : i < n) (hb : hasB T i) : ∀ q j f, j + q = n → q < f → fM_tours_122 f k84 k96 (nI T) (nI i) (nvl (fun j => dK μ (ks i) (ks j) + ν 174 (8 * clrB T i + j)) (nearB (fun j => dK μ (ks i) (ks j) + ν 174 (8 * clrB T i + j)) (clrB T i) j)) (nI (clrB T i)) (nfl (nearB (fun j => dK μ (ks i) (ks j) + ν 174 (8 * clrB T i + j)) (clrB T i) j)) (nI j) ν = fM_tours_205 k84 k96 (nI T) (nI i) (nvl (fun j => dK μ (ks i) (ks j) + ν 174 (8 * clrB T i + j)) (nearB (fun j => dK μ (ks i) (ks j) + ν 174 (8 * clrB T i + j)) (clrB T i) n)) ν := by
  have hR : clrB T i < 256 := by have := (clr8 hT (show i < 8 by omega)).2.1; omega
  intro q
  induction q with
  | zero =>
    intro j f h1 h2
    obtain ⟨f, rfl⟩ : ∃ k, f = k + 1 := ⟨f - 1, by omega⟩
    have e : j = n := by omega
    subst e
    rw [fM_tours_122, e88, if_pos (Int32.le_refl _)]
  | succ q ih =>
    intro j f h1 h2
    obtain ⟨f, rfl⟩ : ∃ k, f = k + 1 := ⟨f - 1, by omega⟩
    have hlt : ¬ nI n ≤ nI j := by
      rw [nI_le_iff (by omega) (by omega)]
      omega
    have ej : nI j + 1 = nI (j + 1) := nI_plus j 1
    have ih' := ih (j + 1) f (by omega) (by omega)
    rw [fM_tours_122, e88, if_neg hlt, l_has hT (show i < 8 by omega), Option.bind_some, b2i_t hb]
    dsimp only
    rw [if_neg (by decide), l_has hR (show j < 8 by omega), Option.bind_some]
    dsimp only
    by_cases hs : hasB (clrB T i) j
    · have eix : (8 : Int32) * nI (clrB T i) + nI j = nI (8 * clrB T i + j) := by
        show nI 8 * _ + nI j = _
        rw [nI_mul, nI_plus]
      rw [b2i_t hs, if_pos (by decide), l_way0 hn h173 hk e154 e155 hi (show j < n by omega), Option.bind_some]
      dsimp only
      rw [eix, inb_n (by omega) (by omega), cond_true, nI_clamp (show 8 * clrB T i + j < 2 ^ 31 by omega)]
      unfold fM_tours_187 fM_tours_194 fM_tours_199
      rw [ej]
      rw [nearB] at ih'
      cases hq : nearB (fun j => dK μ (ks i) (ks j) + ν 174 (8 * clrB T i + j)) (clrB T i) j with
      | none =>
        rw [hq] at ih'
        dsimp only at ih'
        rw [if_pos hs] at ih'
        rw [show nfl none = 0 from rfl, if_pos rfl]
        exact ih'
      | some b =>
        rw [hq] at ih'
        dsimp only at ih'
        rw [show nfl (some b) = 1 from rfl, if_neg (by decide)]
        by_cases c : dK μ (ks i) (ks b) + ν 174 (8 * clrB T i + b) ≤ dK μ (ks i) (ks j) + ν 174 (8 * clrB T i + j)
        · rw [if_neg (fun h => absurd h.2 (Int32.not_lt.mpr c))] at ih'
          rw [if_pos (show nvl (fun j => dK μ (ks i) (ks j) + ν 174 (8 * clrB T i + j)) (some b) ≤ _ from c)]
          exact ih'
        · rw [if_pos ⟨hs, Int32.not_le.mp c⟩] at ih'
          rw [if_neg (show ¬ nvl (fun j => dK μ (ks i) (ks j) + ν 174 (8 * clrB T i + j)) (some b) ≤ _ from c)]
          exact ih'
    · rw [b2i_f hs, if_neg (by decide)]
      unfold fM_tours_199
      rw [ej]
      have e : nearB (fun j => dK μ (ks i) (ks j) + ν 174 (8 * clrB T i + j)) (clrB T i) (j + 1) = nearB (fun j => dK μ (ks i) (ks j) + ν 174 (8 * clrB T i + j)) (clrB T i) j := by
        rw [nearB]
        cases nearB (fun j => dK μ (ks i) (ks j) + ν 174 (8 * clrB T i + j)) (clrB T i) j with
        | none => exact if_neg hs
        | some b => exact if_neg (fun h => hs h.1)
      rw [e] at ih'
      exact ih'
