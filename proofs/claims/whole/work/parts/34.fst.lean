/-! E: moon and feasts -/
theorem nI_div {a b : Nat} (ha : a < 2 ^ 31) (hb : b < 2 ^ 31) : nI a / nI b = nI (a / b) := by
  have hab : a / b ≤ a := Nat.div_le_self a b
  rw [← Int32.toInt_inj, Int32.toInt_div, nI_toInt ha, nI_toInt hb, nI_toInt (show a / b < 2 ^ 31 by omega), Int.tdiv_eq_ediv_of_nonneg (by omega)]
  have e : ((a : Int) / (b : Int)) = ((a / b : Nat) : Int) := by simp
  rw [e]
  generalize a / b = q at hab ⊢
  refine Int.bmod_eq_of_le ?_ ?_ <;> omega
theorem nI_mod {a b : Nat} (ha : a < 2 ^ 31) (hb : b < 2 ^ 31) : nI a - nI a / nI b * nI b = nI (a % b) := by
  rw [nI_div ha hb, nI_mul, nI_sub (Nat.div_mul_le_self a b)]
  congr 1
  have h1 := Nat.div_add_mod a b
  have h2 := Nat.mul_comm b (a / b)
  omega
def bg (m : Nat) : Nat := m * 2953 / 100
theorem nI_bg {m : Nat} (h : m ≤ 1000) : nI m * 2953 / 100 = nI (bg m) := by
  show nI m * nI 2953 / nI 100 = _
  rw [nI_mul, nI_div (by omega) (by omega)]
  rfl
theorem bg_lt {m k : Nat} (h : m < k) : bg m < bg k := by unfold bg; omega
theorem bg_2 {m : Nat} : bg m + 59 ≤ bg (m + 2) := by unfold bg; omega
theorem x_mo (d : Nat) (hd : d < 1000) (μ : am_Mu) : ∀ (q n m f : Nat), q < n → m + q = 34 → f < m → bg f ≤ d → (∀ t, f < t → t < m → d < bg t) →
    ∃ r, r < 34 ∧ bg r ≤ d ∧ d < bg (r + 1) ∧ fFeasts_monthOf_4 n (nI d) (nI f) (nI m) μ = some (nI r, μ) := by
  intro q
  induction q with
  | zero =>
    intro n m f hn hm hf hb hl
    obtain ⟨n, rfl⟩ : ∃ k, n = k + 1 := ⟨n - 1, by omega⟩
    have hm2 : m = 34 := by omega
    subst hm2
    refine ⟨f, hf, hb, ?_, ?_⟩
    · rcases Nat.lt_or_ge (f + 1) 34 with h | h
      · exact hl (f + 1) (by omega) h
      · have : f + 1 = 34 := by omega
        rw [this]
        have : bg 34 = 1004 := by decide
        omega
    · unfold fFeasts_monthOf_4
      rw [if_pos (show (34 : Int32) ≤ nI 34 by decide)]
  | succ q ih =>
    intro n m f hn hm hf hb hl
    obtain ⟨n, rfl⟩ : ∃ k, n = k + 1 := ⟨n - 1, by omega⟩
    unfold fFeasts_monthOf_4 fFeasts_beginOf fFeasts_monthOf_20
    have h1 : ¬ (34 : Int32) ≤ nI m := by
      show ¬ nI 34 ≤ nI m
      rw [nI_le_iff (by omega) (by omega)]
      omega
    have e1 : nI m + 1 = nI (m + 1) := nI_plus m 1
    have hbm : bg m < 2 ^ 31 := by unfold bg; omega
    rw [if_neg h1, Option.bind_some, nI_bg (by omega), e1]
    by_cases h2 : d < bg m
    · rw [if_pos ((nI_lt_iff (by omega) hbm).mpr h2)]
      refine ih n (m + 1) f (by omega) (by omega) (by omega) hb (fun t h3 h4 => ?_)
      rcases Nat.lt_or_ge t m with h5 | h5
      · exact hl t h3 h5
      · have : t = m := by omega
        subst this; exact h2
    · rw [if_neg (fun q => h2 ((nI_lt_iff (by omega) hbm).mp q))]
      exact ih n (m + 1) m (by omega) (by omega) (by omega) (by omega) (fun t h3 h4 => by omega)
theorem m_mo (d : Nat) (hd : d < 1000) (μ : am_Mu) : ∀ (q n m r : Nat), q < n → m + q = r → r < 34 → bg r ≤ d → d < bg (r + 1) → fM_monthOf_2 n (nI d) (nI m) μ = some (nI r, μ) := by
  intro q
  induction q with
  | zero =>
    intro n m r hn hm hr hb hl
    obtain ⟨n, rfl⟩ : ∃ k, n = k + 1 := ⟨n - 1, by omega⟩
    have hm2 : m = r := by omega
    subst hm2
    unfold fM_monthOf_2 fM_begin
    have e1 : nI m + 1 = nI (m + 1) := nI_plus m 1
    have hbm : bg (m + 1) < 2 ^ 31 := by unfold bg; omega
    rw [e1, nI_bg (by omega), Option.bind_some, if_pos ((nI_lt_iff (by omega) hbm).mpr hl)]
  | succ q ih =>
    intro n m r hn hm hr hb hl
    obtain ⟨n, rfl⟩ : ∃ k, n = k + 1 := ⟨n - 1, by omega⟩
    unfold fM_monthOf_2 fM_begin
    have e1 : nI m + 1 = nI (m + 1) := nI_plus m 1
    have h2 : ¬ d < bg (m + 1) := by
      have : bg (m + 1) ≤ bg r := by
        rcases Nat.lt_or_ge (m + 1) r with h | h
        · exact Nat.le_of_lt (bg_lt h)
        · rw [show m + 1 = r by omega]; exact Nat.le_refl _
      omega
    have hbm : bg (m + 1) < 2 ^ 31 := by unfold bg; omega
    rw [e1, nI_bg (by omega), Option.bind_some, if_neg (fun q => h2 ((nI_lt_iff (by omega) hbm).mp q))]
    exact ih n (m + 1) r (by omega) (by omega) hr hb hl
theorem mo_both (d : Nat) (hd : d < 1000) : ∃ r, r < 34 ∧ bg r ≤ d ∧ d < bg (r + 1) ∧ ∀ μ, fFeasts_monthOf (nI d) μ = some (nI r, μ) ∧ fM_monthOf (nI d) μ = some (nI r, μ) := by
  obtain ⟨r, h1, h2, h3, -⟩ := x_mo d hd (fun _ _ => 0) 33 am_F 1 0 (by decide) rfl (by omega) (by unfold bg; omega) (fun t h3 h4 => by omega)
  refine ⟨r, h1, h2, h3, fun μ => ⟨?_, ?_⟩⟩
  · obtain ⟨r', g1, g2, g3, g4⟩ := x_mo d hd μ 33 am_F 1 0 (by decide) rfl (by omega) (by unfold bg; omega) (fun t h3 h4 => by omega)
    have : r' = r := by
      rcases Nat.lt_trichotomy r' r with h | h | h
      · have := Nat.le_of_lt_succ (show r' + 1 < r + 1 by omega)
        have h9 : bg (r' + 1) ≤ bg r := by
          rcases Nat.lt_or_ge (r' + 1) r with q | q
          · exact Nat.le_of_lt (bg_lt q)
          · rw [show r' + 1 = r by omega]; exact Nat.le_refl _
        omega
      · exact h
      · have h9 : bg (r + 1) ≤ bg r' := by
          rcases Nat.lt_or_ge (r + 1) r' with q | q
          · exact Nat.le_of_lt (bg_lt q)
          · rw [show r + 1 = r' by omega]; exact Nat.le_refl _
        omega
    subst this
    exact g4
  · exact m_mo d hd μ r am_F 0 r (by unfold am_F; omega) (by omega) h1 h2 h3
theorem op_moon (a b : Int32) (μ : am_Mu) : Op (fB_moon a b) (fM_moon a b) (fun _ => True) (fun _ => True) μ := by
  intro _
  by_cases hv : 0 ≤ a ∧ a < 1000
  · have hd : a.toNatClampNeg < 1000 := nt_lt (b := 1000) hv.1 hv.2
    obtain ⟨r, h1, h2, h3, h4⟩ := mo_both _ hd
    rw [nI_nt hv.1] at h4
    have e1 : fB_isIn a 1000 μ = some (1, μ) := by rw [l_isIn, b2i_t hv]
    have e2 : fM_lies a 0 999 μ = some (1, μ) := by rw [l_lies, b2i_t (by grind)]
    refine ⟨if b = 0 then nI r else if b = 1 then nI r - nI r / 12 * 12 else if b = 2 then a - nI r * 2953 / 100 else -1, μ, μ, ?_, ?_, trivial⟩
    · simp only [fB_moon, e1, Option.bind_some, (h4 μ).1, fFeasts_beginOf]
      grind
    · simp only [fM_moon, e2, Option.bind_some, (h4 μ).2, fM_begin]
      grind
  · have e1 : fB_isIn a 1000 μ = some (0, μ) := by rw [l_isIn, b2i_f hv]
    have e2 : fM_lies a 0 999 μ = some (0, μ) := by rw [l_lies, b2i_f (by grind)]
    unfold fB_moon fM_moon
    refine ⟨-1, μ, μ, by rw [e1, Option.bind_some, if_neg (by simp)], by rw [e2, Option.bind_some, if_neg (by simp)], trivial⟩
/-- a feast keeps a day, by month k -/
def kept (μ : am_Mu) (d k f : Nat) : Prop := μ 2 f = nI (k % 12) ∧ μ 3 f ≤ nI d - nI (bg k) ∧ nI d - nI (bg k) < μ 3 f + μ 4 f
theorem x_kept (d k : Nat) (hk : k < 34) (μ : am_Mu) (h1 : 0 ≤ μ 1 3) (h2 : μ 1 3 ≤ 6) : ∀ (q n f : Nat), q < n → f + q = (μ 1 3).toNatClampNeg →
    (∃ g, f ≤ g ∧ g < (μ 1 3).toNatClampNeg ∧ kept μ d k g) ∧ fFeasts_isKept_10 n (nI k) (nI d - nI (bg k)) (nI f) μ = some (1, μ) ∨
    (∀ g, f ≤ g → g < (μ 1 3).toNatClampNeg → ¬ kept μ d k g) ∧ fFeasts_isKept_10 n (nI k) (nI d - nI (bg k)) (nI f) μ = some (0, μ) := by
  have h6 : (μ 1 3).toNatClampNeg ≤ 6 := nt_le (b := 6) h1 h2
  have hn6 : μ 1 3 = nI (μ 1 3).toNatClampNeg := (nI_nt h1).symm
  generalize hN : (μ 1 3).toNatClampNeg = N at h6 hn6 ⊢
  intro q
  induction q with
  | zero =>
    intro n f hn hf
    obtain ⟨n, rfl⟩ : ∃ k, n = k + 1 := ⟨n - 1, by omega⟩
    right
    refine ⟨fun g g1 g2 => by omega, ?_⟩
    unfold fFeasts_isKept_10
    rw [if_pos (by rw [hn6, nI_le_iff (by omega) (by omega)]; omega)]
  | succ q ih =>
    intro n f hn hf
    obtain ⟨n, rfl⟩ : ∃ k, n = k + 1 := ⟨n - 1, by omega⟩
    have c1 : ¬ μ 1 3 ≤ nI f := by rw [hn6, nI_le_iff (by omega) (by omega)]; omega
    have c2 : am_inb (nI f) 6 = true := inb_n (by omega) (by omega)
    have c3 : (nI f).toNatClampNeg = f := nI_clamp (by omega)
    have c4 : nI k - nI k / 12 * 12 = nI (k % 12) := nI_mod (b := 12) (by omega) (by omega)
    have c5 : nI f + 1 = nI (f + 1) := nI_plus f 1
    by_cases hkp : kept μ d k f
    · left
      refine ⟨⟨f, Nat.le_refl _, by omega, hkp⟩, ?_⟩
      obtain ⟨k1, k2, k3⟩ := hkp
      unfold fFeasts_isKept_10
      rw [if_neg c1, c2, cond_true, c3, c4, if_neg (fun q => q k1)]
      unfold fFeasts_isKept_38
      rw [if_neg (by decide), c2, cond_true, c3, if_neg (by grind), if_neg (by grind)]
    · have e : fFeasts_isKept_10 (n + 1) (nI k) (nI d - nI (bg k)) (nI f) μ = fFeasts_isKept_10 n (nI k) (nI d - nI (bg k)) (nI (f + 1)) μ := by
        rw [show fFeasts_isKept_10 (n + 1) (nI k) (nI d - nI (bg k)) (nI f) μ = _ from by unfold fFeasts_isKept_10; rw [if_neg c1, c2, cond_true, c3, c4]]
        by_cases k1 : μ 2 f = nI (k % 12)
        · rw [if_neg (fun q => q k1)]
          unfold fFeasts_isKept_38 fFeasts_isKept_77
          rw [if_neg (by decide), c2, cond_true, c3, c5]
          by_cases k2 : μ 3 f ≤ nI d - nI (bg k)
          · rw [if_neg (by grind), if_pos (by unfold kept at hkp; grind)]
          · rw [if_pos (by grind)]
        · rw [if_pos k1]
          unfold fFeasts_isKept_38 fFeasts_isKept_77
          rw [if_pos rfl, c5]
      rcases ih n (f + 1) (by omega) (by omega) with ⟨⟨g, g1, g2, g3⟩, g4⟩ | ⟨g1, g2⟩
      · left; exact ⟨⟨g, by omega, g2, g3⟩, by rw [e]; exact g4⟩
      · right
        refine ⟨fun g g3 g4 => ?_, by rw [e]; exact g2⟩
        rcases Nat.eq_or_lt_of_le g3 with rfl | g5
        · exact hkp
        · exact g1 g g5 g4
