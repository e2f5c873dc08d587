/-! E: the tour, the reference: the sets -/
theorem l_has {S k : Nat} (hS : S < 256) (hk : k < 8) (μ : am_Mu) : fM_has (nI S) (nI k) μ = some (b2i (hasB S k), μ) := by
  unfold fM_has
  rw [has8 hS hk]
  by_cases h : hasB S k
  · rw [if_pos h, if_neg (by decide), b2i_t h]
  · rw [if_neg h, if_pos (by decide), b2i_f h]
theorem absI (x : Int32) : (if x ≤ -x then -x else x) = if 0 ≤ x then x else 0 - x := by
  by_cases h : 0 ≤ x
  · rw [if_pos h]
    by_cases h2 : x ≤ -x
    · rw [if_pos h2]
      have h3 := Int32.le_iff_toInt_le.mp h
      have h4 := Int32.le_iff_toInt_le.mp h2
      have h0 : (0 : Int32).toInt = 0 := rfl
      have h5 := Int32.toInt_lt x
      rw [Int32.toInt_neg] at h4
      have h6 : (-x.toInt).bmod (2 ^ 32) = -x.toInt := Int.bmod_eq_of_le (by omega) (by omega)
      rw [h6] at h4
      have h7 : x = 0 := Int32.toInt_inj.mp (by omega)
      rw [h7]
      rfl
    · rw [if_neg h2]
  · rw [if_neg h]
    by_cases h2 : x ≤ -x
    · rw [if_pos h2]
      grind
    · rw [if_neg h2]
      have h3 : ¬ (0 : Int) ≤ x.toInt := fun q => h (Int32.le_iff_toInt_le.mpr q)
      have h4 : ¬ x.toInt ≤ (-x).toInt := fun q => h2 (Int32.le_iff_toInt_le.mpr q)
      have h5 := Int32.le_toInt x
      rw [Int32.toInt_neg] at h4
      by_cases h6 : x.toInt = -2 ^ 31
      · have h7 : x = Int32.minValue := Int32.toInt_inj.mp h6
        rw [h7]
        decide
      · have h8 : (-x.toInt).bmod (2 ^ 32) = -x.toInt := Int.bmod_eq_of_le (by omega) (by omega)
        rw [h8] at h4
        omega
theorem l_way0 {ks : Nat → Nat} {n : Nat} (hn : n ≤ 8) {ν μ : am_Mu} (h173 : ∀ i, i < n → ν 173 i = nI (ks i)) (hk : ∀ i, i < n → ks i < 8) (e154 : ∀ k, k < 8 → ν 154 k = μ 79 k) (e155 : ∀ k, k < 8 → ν 155 k = μ 80 k) {i j : Nat} (hi : i < n) (hj : j < n) : fM_way0 (nI i) (nI j) ν = some (dK μ (ks i) (ks j), ν) := by
  have most : ∀ a b μ, fM_most a b μ = some (if a ≤ b then b else a, μ) := by
    intro a b μ
    unfold fM_most
    split <;> rfl
  have ki := hk i hi
  have kj := hk j hj
  unfold fM_way0
  rw [inb_n (show i < 8 by omega) (by omega), inb_n (show j < 8 by omega) (by omega), cond_true, cond_true, nI_clamp (show i < 2 ^ 31 by omega), nI_clamp (show j < 2 ^ 31 by omega), h173 i hi, h173 j hj, inb_n ki (by omega), inb_n kj (by omega), cond_true, cond_true, nI_clamp (show ks i < 2 ^ 31 by omega), nI_clamp (show ks j < 2 ^ 31 by omega), e154 _ ki, e154 _ kj, e155 _ ki, e155 _ kj, most, Option.bind_some]
  dsimp only
  rw [most, Option.bind_some]
  dsimp only
  rw [absI, absI]
  rfl
