/-! E: whether a day is a feast -/
theorem kept_iff {B D x y : Int32} (h1 : 0 ≤ B) (h2 : B < 1100) (h3 : 0 ≤ D) (h4 : D < 1000) (h5 : 0 ≤ x) (h6 : x ≤ 28) (h7 : 1 ≤ y) (h8 : y ≤ 10) : (B + x ≤ D ∧ D ≤ B + x + y - 1) ↔ (x ≤ D - B ∧ D - B < x + y) := by grind
theorem m_kstep {d k r f n : Nat} (hd : d < 1000) (hk : k ≤ r) (hr : r < 34) (hk3 : ¬ nI k ≤ nI r - 3) (k7 : Int32 → Int32 → Int32 → am_Mu → Option (Int32 × am_Mu)) (μ : am_Mu) (hf : f < 6) (he : μ 110 f = μ 2 f ∧ μ 111 f = μ 3 f ∧ μ 112 f = μ 4 f ∧ 0 ≤ μ 2 f ∧ μ 2 f < 12 ∧ 0 ≤ μ 3 f ∧ μ 3 f ≤ 28 ∧ 1 ≤ μ 4 f ∧ μ 4 f ≤ 10) :
    (kept μ d k f ∧ fM_isFeastDay_18 (n + 1) k7 (nI d) (nI r) (nI f) (nI k) μ = some (1, μ)) ∨ (¬ kept μ d k f ∧ fM_isFeastDay_18 (n + 1) k7 (nI d) (nI r) (nI f) (nI k) μ = fM_isFeastDay_18 n k7 (nI d) (nI r) (nI f) (nI k + -1) μ) := by
  obtain ⟨e1, e2, e3, b1, b2, b3, b4, b5, b6⟩ := he
  have c0 : ¬ nI k < 0 := by show ¬ nI k < nI 0; rw [nI_lt_iff (by omega) (by omega)]; omega
  have c2 : am_inb (nI f) 6 = true := inb_n (by omega) (by omega)
  have c3 : (nI f).toNatClampNeg = f := nI_clamp (by omega)
  have c4 : nI k - nI k / 12 * 12 = nI (k % 12) := nI_mod (b := 12) (by omega) (by omega)
  have hb1 : 0 ≤ nI (bg k) := nI_pos' (by unfold bg; omega)
  have hb2 : nI (bg k) < 1100 := by show nI (bg k) < nI 1100; rw [nI_lt_iff (by unfold bg; omega) (by omega)]; unfold bg; omega
  have hd1 : 0 ≤ nI d := nI_pos' (by omega)
  have hd2 : nI d < 1000 := by show nI d < nI 1000; rw [nI_lt_iff (by omega) (by omega)]; omega
  have es : fM_isFeastDay_18 (n + 1) k7 (nI d) (nI r) (nI f) (nI k) μ = (if ¬ nI (k % 12) = μ 2 f then fM_isFeastDay_18 n k7 (nI d) (nI r) (nI f) (nI k + -1) μ else if nI (bg k) + μ 3 f ≤ nI d ∧ nI d ≤ nI (bg k) + μ 3 f + μ 4 f - 1 then some (1, μ) else fM_isFeastDay_18 n k7 (nI d) (nI r) (nI f) (nI k + -1) μ) := by
    rw [fM_isFeastDay_18, if_neg c0, if_neg hk3]
    unfold fM_begin fM_isFeastDay_81
    rw [nI_bg (by omega), Option.bind_some]
    dsimp only
    rw [c2, cond_true, c3, c4]
    simp only [e1, e2, e3, l_lies, Option.bind_some, b2i_z]
    grind
  rw [es]
  unfold kept
  have hi := kept_iff hb1 hb2 hd1 hd2 b3 b4 b5 b6
  by_cases c : nI (k % 12) = μ 2 f
  · rw [if_neg (fun q => q c)]
    by_cases c9 : nI (bg k) + μ 3 f ≤ nI d ∧ nI d ≤ nI (bg k) + μ 3 f + μ 4 f - 1
    · left; exact ⟨⟨c.symm, hi.mp c9⟩, if_pos c9⟩
    · right; exact ⟨fun q => c9 (hi.mpr q.2), if_neg c9⟩
  · right; exact ⟨fun q => c q.1.symm, if_pos c⟩
theorem m_kend {d r f n : Nat} {a4 : Int32} (h : a4 < 0 ∨ a4 ≤ nI r - 3) (k7 : Int32 → Int32 → Int32 → am_Mu → Option (Int32 × am_Mu)) (μ : am_Mu) : fM_isFeastDay_18 (n + 1) k7 (nI d) (nI r) (nI f) a4 μ = k7 (nI d) (nI r) (nI f + 1) μ := by
  rw [fM_isFeastDay_18]
  unfold fM_isFeastDay_87
  grind
theorem not_kept2 {μ : am_Mu} {d r f : Nat} (hr : r + 2 < 34) (h : bg (r + 2) ≤ d) (hd : d < 1000) (b3 : 0 ≤ μ 3 f) (b4 : μ 3 f ≤ 28) (b5 : 1 ≤ μ 4 f) (b6 : μ 4 f ≤ 10) : ¬ kept μ d r f := by
  rintro ⟨-, -, h3⟩
  have h1 := bg_2 (m := r)
  have h2 : nI (bg r) + 59 ≤ nI d := by
    show nI (bg r) + nI 59 ≤ nI d
    rw [nI_plus, nI_le_iff (by omega) (by omega)]
    omega
  have hb1 : 0 ≤ nI (bg r) := nI_pos' (by omega)
  have hb2 : nI (bg r) < 1100 := by show nI (bg r) < nI 1100; rw [nI_lt_iff (by omega) (by omega)]; omega
  have hd2 : nI d < 1000 := by show nI d < nI 1000; rw [nI_lt_iff (by omega) (by omega)]; omega
  grind
def keptD (μ : am_Mu) (d r f : Nat) : Prop := kept μ d r f ∨ (1 ≤ r ∧ kept μ d (r - 1) f)
theorem m_inner {d r f : Nat} (hd : d < 1000) (hr : r < 34) (hb : bg r ≤ d) (k7 : Int32 → Int32 → Int32 → am_Mu → Option (Int32 × am_Mu)) (μ : am_Mu) (hf : f < 6) (he : μ 110 f = μ 2 f ∧ μ 111 f = μ 3 f ∧ μ 112 f = μ 4 f ∧ 0 ≤ μ 2 f ∧ μ 2 f < 12 ∧ 0 ≤ μ 3 f ∧ μ 3 f ≤ 28 ∧ 1 ≤ μ 4 f ∧ μ 4 f ≤ 10) :
    (keptD μ d r f ∧ fM_isFeastDay_18 am_F k7 (nI d) (nI r) (nI f) (nI r) μ = some (1, μ)) ∨ (¬ keptD μ d r f ∧ fM_isFeastDay_18 am_F k7 (nI d) (nI r) (nI f) (nI r) μ = k7 (nI d) (nI r) (nI (f + 1)) μ) := by
  have hF : am_F = 99996 + 1 + 1 + 1 + 1 := rfl
  have c5 : nI f + 1 = nI (f + 1) := nI_plus f 1
  have hr0 : 0 ≤ nI r := nI_pos' (by omega)
  have hr1 : nI r < 34 := by show nI r < nI 34; rw [nI_lt_iff (by omega) (by omega)]; omega
  have he' := he
  obtain ⟨e1, e2, e3, b1, b2, b3, b4, b5, b6⟩ := he
  rw [hF]
  rcases m_kstep (n := 99996 + 1 + 1 + 1) hd (Nat.le_refl r) hr (by grind) k7 μ hf he' with ⟨h1, h2⟩ | ⟨h1, h2⟩
  · left; exact ⟨Or.inl h1, h2⟩
  · rw [h2]
    by_cases r0 : r = 0
    · subst r0
      right
      refine ⟨fun q => ?_, ?_⟩
      · rcases q with q | ⟨q, -⟩
        · exact h1 q
        · omega
      · rw [m_kend (Or.inl (by decide)) k7 μ, c5]
    · have e1' : nI r + -1 = nI (r - 1) := by
        have := nI_sub (a := r) (b := 1) (by omega)
        rw [← this]
        show nI r + -1 = nI r - 1
        grind
      rw [e1']
      rcases m_kstep (k := r - 1) (n := 99996 + 1 + 1) hd (by omega) hr (by rw [← e1']; grind) k7 μ hf he' with ⟨g1, g2⟩ | ⟨g1, g2⟩
      · left; exact ⟨Or.inr ⟨by omega, g1⟩, g2⟩
      · rw [g2]
        have hnk : ¬ keptD μ d r f := by
          rintro (q | ⟨-, q⟩)
          · exact h1 q
          · exact g1 q
        right
        refine ⟨hnk, ?_⟩
        by_cases r1 : r = 1
        · subst r1
          rw [m_kend (Or.inl (by decide)) k7 μ, c5]
        · have e2' : nI (r - 1) + -1 = nI (r - 2) := by
            have := nI_sub (a := r - 1) (b := 1) (by omega)
            rw [show r - 2 = r - 1 - 1 by omega, ← this]
            show nI (r - 1) + -1 = nI (r - 1) - 1
            grind
          rw [e2']
          have hnk2 : ¬ kept μ d (r - 2) f := not_kept2 (by omega) (by rw [show r - 2 + 2 = r by omega]; exact hb) hd b3 b4 b5 b6
          rcases m_kstep (k := r - 2) (n := 99996 + 1) hd (by omega) hr (by rw [← e2', ← e1']; grind) k7 μ hf he' with ⟨g3, g4⟩ | ⟨g3, g4⟩
          · exact absurd g3 hnk2
          · rw [g4, m_kend (Or.inr (by rw [← e2', ← e1']; grind)) k7 μ, c5]
theorem m_outer (d r : Nat) (hd : d < 1000) (hr : r < 34) (hb : bg r ≤ d) (μ : am_Mu) (hG : G1 μ) : ∀ (q n f : Nat), q < n → f + q = (μ 1 3).toNatClampNeg →
    ((∃ g, f ≤ g ∧ g < (μ 1 3).toNatClampNeg ∧ keptD μ d r g) ∧ fM_isFeastDay_7 n (nI d) (nI r) (nI f) μ = some (1, μ)) ∨
    ((∀ g, f ≤ g → g < (μ 1 3).toNatClampNeg → ¬ keptD μ d r g) ∧ fM_isFeastDay_7 n (nI d) (nI r) (nI f) μ = some (0, μ)) := by
  obtain ⟨h1, h2, h3, h4⟩ := hG
  have h6 : (μ 1 3).toNatClampNeg ≤ 6 := nt_le (b := 6) h1 h2
  have hn6 : μ 108 3 = nI (μ 1 3).toNatClampNeg := by rw [h3]; exact (nI_nt h1).symm
  generalize hN : (μ 1 3).toNatClampNeg = N at h4 h6 hn6 ⊢
  intro q
  induction q with
  | zero =>
    intro n f hn hf
    obtain ⟨n, rfl⟩ : ∃ k, n = k + 1 := ⟨n - 1, by omega⟩
    right
    refine ⟨fun g g1 g2 => by omega, ?_⟩
    rw [fM_isFeastDay_7, if_pos (by rw [hn6, nI_le_iff (by omega) (by omega)]; omega)]
  | succ q ih =>
    intro n f hn hf
    obtain ⟨n, rfl⟩ : ∃ k, n = k + 1 := ⟨n - 1, by omega⟩
    have c1 : ¬ μ 108 3 ≤ nI f := by rw [hn6, nI_le_iff (by omega) (by omega)]; omega
    rw [fM_isFeastDay_7, if_neg c1]
    rcases m_inner hd hr hb (fM_isFeastDay_7 n) μ (f := f) (by omega) (h4 f (by omega)) with ⟨k1, k2⟩ | ⟨k1, k2⟩
    · left; exact ⟨⟨f, Nat.le_refl _, by omega, k1⟩, k2⟩
    · rw [k2]
      rcases ih n (f + 1) (by omega) (by omega) with ⟨⟨g, g1, g2, g3⟩, g4⟩ | ⟨g1, g2⟩
      · left; exact ⟨⟨g, by omega, g2, g3⟩, g4⟩
      · right
        refine ⟨fun g g3 g4 => ?_, g2⟩
        rcases Nat.eq_or_lt_of_le g3 with rfl | g5
        · exact k1
        · exact g1 g g5 g4
/-- both say the same of a day, and write nothing -/
theorem feast_both (d : Nat) (hd : d < 1000) (μ : am_Mu) (hG : G1 μ) : ∃ r : Int32, (r = 0 ∨ r = 1) ∧ fFeasts_has (nI d) μ = some (r, μ) ∧ fM_isFeastDay (nI d) μ = some (r, μ) := by
  obtain ⟨r, h1, h2, h3, h4⟩ := mo_both d hd
  have hg := hG
  obtain ⟨g1, g2, g3, g4⟩ := hG
  have h6 : (μ 1 3).toNatClampNeg ≤ 6 := nt_le (b := 6) g1 g2
  have hF : (μ 1 3).toNatClampNeg < am_F := by unfold am_F; omega
  have ek : ∀ k, k < 34 → ∀ ν, fFeasts_isKept (nI k) (nI d) ν = fFeasts_isKept_10 am_F (nI k) (nI d - nI (bg k)) (nI 0) ν := by
    intro k hk ν
    unfold fFeasts_isKept fFeasts_beginOf
    rw [nI_bg (by omega), Option.bind_some]
    rfl
  have hM := m_outer d r hd h1 h2 μ hg _ am_F 0 hF (by omega)
  have eM : fM_isFeastDay (nI d) μ = fM_isFeastDay_7 am_F (nI d) (nI r) (nI 0) μ := by
    unfold fM_isFeastDay
    rw [(h4 μ).2, Option.bind_some]
    rfl
  have eX : fFeasts_has (nI d) μ = ((fFeasts_isKept (nI r) (nI d) μ).bind fun q2 => (if ¬ q2.1 = 0 then some (1, q2.2) else (if nI r ≤ 0 then some (0, q2.2) else ((fFeasts_isKept (nI r - 1) (nI d) q2.2).bind fun q5 => (if q5.1 = 0 then some (0, q5.2) else some (1, q5.2)))))) := by
    unfold fFeasts_has fFeasts_has_29 fFeasts_has_33
    rw [(h4 μ).1, Option.bind_some]
  rw [eM, eX, ek r h1]
  rcases x_kept d r h1 μ g1 g2 _ am_F 0 hF (by omega) with ⟨⟨f, f1, f2, f3⟩, f4⟩ | ⟨f1, f2⟩
  · rw [f4, Option.bind_some, if_pos (show ¬ (1 : Int32) = 0 by decide)]
    rcases hM with ⟨-, m2⟩ | ⟨m1, -⟩
    · exact ⟨1, Or.inr rfl, rfl, m2⟩
    · exact absurd (Or.inl f3) (m1 f f1 f2)
  · rw [f2, Option.bind_some, if_neg (by simp)]
    by_cases r0 : r = 0
    · subst r0
      rw [if_pos (by decide)]
      rcases hM with ⟨⟨f, k1, k2, k3⟩, -⟩ | ⟨-, m2⟩
      · rcases k3 with k3 | ⟨k3, -⟩
        · exact absurd k3 (f1 f k1 k2)
        · omega
      · exact ⟨0, Or.inl rfl, rfl, m2⟩
    · have e1' : nI r - 1 = nI (r - 1) := nI_sub (a := r) (b := 1) (by omega)
      rw [if_neg (by show ¬ nI r ≤ nI 0; rw [nI_le_iff (by omega) (by omega)]; omega), e1', ek (r - 1) (by omega)]
      rcases x_kept d (r - 1) (by omega) μ g1 g2 _ am_F 0 hF (by omega) with ⟨⟨f, p1, p2, p3⟩, p4⟩ | ⟨p1, p2⟩
      · rw [p4, Option.bind_some, if_neg (show ¬ (1 : Int32) = 0 by decide)]
        rcases hM with ⟨-, m2⟩ | ⟨m1, -⟩
        · exact ⟨1, Or.inr rfl, rfl, m2⟩
        · exact absurd (Or.inr ⟨by omega, p3⟩) (m1 f p1 p2)
      · rw [p2, Option.bind_some, if_pos (by rfl)]
        rcases hM with ⟨⟨f, k1, k2, k3⟩, -⟩ | ⟨-, m2⟩
        · rcases k3 with k3 | ⟨-, k3⟩
          · exact absurd k3 (f1 f k1 k2)
          · exact absurd k3 (p1 f k1 k2)
        · exact ⟨0, Or.inl rfl, rfl, m2⟩
theorem op_isFeast (a : Int32) (μ : am_Mu) : Op (fB_isFeast a) (fM_isFeast a) G1 G1 μ := by
  intro hG
  by_cases hv : 0 ≤ a ∧ a < 1000
  · have hd : a.toNatClampNeg < 1000 := nt_lt (b := 1000) hv.1 hv.2
    obtain ⟨r, hr, h1, h2⟩ := feast_both _ hd μ hG
    rw [nI_nt hv.1] at h1 h2
    have e1 : fB_isIn a 1000 μ = some (1, μ) := by rw [l_isIn, b2i_t hv]
    have e2 : fM_lies a 0 999 μ = some (1, μ) := by rw [l_lies, b2i_t (by grind)]
    refine ⟨r, μ, μ, ?_, ?_, hG⟩
    · simp only [fB_isFeast, e1, Option.bind_some, h1]; grind
    · simp only [fM_isFeast, e2, Option.bind_some, h2]; grind
  · have e1 : fB_isIn a 1000 μ = some (0, μ) := by rw [l_isIn, b2i_f hv]
    have e2 : fM_lies a 0 999 μ = some (0, μ) := by rw [l_lies, b2i_f (by grind)]
    exact ⟨-1, μ, μ, by simp only [fB_isFeast, e1, Option.bind_some]; grind, by simp only [fM_isFeast, e2, Option.bind_some]; grind, hG⟩
