/-! E: all things asked; the end of the law -/
section
variable {sL : Nat} {sX : Nat → Int32} {n U : Nat} {K A : Nat → Nat} {B : Nat → Option Nat} {M wr wm c : Nat → Nat} {μ : am_Mu}
theorem l_1135 (hD : Dat n K A B M wr wm) (he : LEnd n K A B M wr wm c U μ) {t : Nat} (ht : t < n) (kk : Int32 → Int32 → Int32 → Int32 → am_Mu → Option (Int32 × am_Mu)) {X : am_Mu} (hX : SB X μ) : ∃ X', fL_law_1135 sL sX kk (nI n) (nI U) (nI t) 1 X = kk (nI n) 1 (nI U) (nI (t + 1)) X' ∧ SB X' μ := by
  have n6 := hD.2.1
  have h := he.1.1
  obtain ⟨w9, l9⟩ := snp_all hD h (show 60 ≤ 9000 by omega)
  have r115 : μ 115 t = nI (wiB 0 K A B M wr wm c 9000 t) := by rw [w9]; exact he.2.1.1 t ht
  have r116 : μ 116 t = nI (leB 0 K A B M wr wm c 9000 t) := by rw [l9]; exact he.2.1.2.1 t ht
  have l1 : wiB 0 K A B M wr wm c 9000 t < 4 := (rel_wi hD h 0 (v := 9000) (by omega) t ht).1
  have l2 : leB 0 K A B M wr wm c 9000 t < 4 := (rel_le hD h 0 (v := 9000) (by omega) t ht).1
  obtain ⟨X', x1, x2⟩ := q_mend hD h hX ht
  refine ⟨X', ?_, x2⟩
  generalize wiB 0 K A B M wr wm c 9000 t = a at *
  generalize leB 0 K A B M wr wm c 9000 t = b at *
  have s : ∀ v, fB_mend 0 0 (nI t) X = some (v, X') → fL_law_1174 sL sX kk (nI n) 1 (nI U) (nI t) v X = kk (nI n) 1 (nI U) (nI (t + 1)) X' := by
    intro v hv
    unfold fL_law_1174
    rw [if_neg (by decide), hv, Option.bind_some]
    dsimp only
    rw [if_neg (fun z => z rfl)]
    unfold fL_law_1198
    rw [show nI t + 1 = nI (t + 1) from nI_plus _ 1]
  have hc := and2_b ⟨a, l1⟩
  dsimp only at hc
  have lc : clr1 a < 4 := by unfold clr1; split <;> omega
  unfold fL_law_1135
  rw [inb_n (by omega) (by omega), cond_true, nI_clamp (show t < 2 ^ 31 by omega), hX 115 (by omega), hX 116 (by omega), r115, r116, hc]
  by_cases h1 : a = b
  · rw [if_pos h1] at x1
    rw [if_neg (fun z => z (by rw [h1]))]
    exact s 0 x1
  · rw [if_neg h1] at x1
    rw [if_pos (fun z => h1 ((nI_inj (by omega) (by omega)).mp z))]
    by_cases h2 : clr1 a = b
    · rw [if_pos h2] at x1
      rw [if_neg (fun z => z (by rw [h2]))]
      exact s 1 x1
    · rw [if_neg h2] at x1
      rw [if_pos (fun z => h2 ((nI_inj (by omega) (by omega)).mp z))]
      exact s (-1) x1
/-- what no question is -/
theorem l_1205 (hD : Dat n K A B M wr wm) (h : Cs n K A B M wr wm c μ) {X : am_Mu} (hX : SB X μ) : fL_law_1205 sL sX (nI n) 1 X = some (1, X) := by
  have n6 := hD.2.1
  have h16 : X 13 16 = 2 := by rw [hX 13 (by omega)]; exact h.2.2.1.1
  have h14 : X 13 14 = nI n := by rw [hX 13 (by omega)]; exact h.1.2.2.1
  have hn : ¬ nI n < X 13 14 := by rw [h14]; exact fun z => Int32.lt_irrefl z
  unfold fL_law_1205
  rw [if_neg (by decide), z_leads X (fun z => absurd z.1.2 (by rw [h16]; decide)), Option.bind_some]
  dsimp only
  rw [if_neg (fun z => z rfl), z_reached X (fun z => absurd z.2.1.2 (by decide)), Option.bind_some]
  dsimp only
  rw [if_neg (fun z => z rfl), z_way X (Or.inl (fun z => hn z.2.2.2)), Option.bind_some]
  dsimp only
  rw [if_neg (fun z => z rfl), z_mend X (fun z => hn z.2.2.2), Option.bind_some]
  dsimp only
  rw [if_neg (fun z => z rfl), z_way X (Or.inr (by decide)), Option.bind_some]
  dsimp only
  rw [if_neg (fun z => z rfl)]
theorem l_694 (hD : Dat n K A B M wr wm) (he : LEnd n K A B M wr wm c U μ) (hU : U < 60) : ∀ q t f X, t + q = n → q < f → SB X μ → ∃ X', fL_law_694 sL sX f (nI n) 1 (nI U) (nI t) X = some (1, X') := by
  have n6 := hD.2.1
  have h := he.1.1
  intro q
  induction q with
  | zero =>
    intro t f X ht hf hX
    obtain ⟨f, rfl⟩ : ∃ k, f = k + 1 := ⟨f - 1, by omega⟩
    have : t = n := by omega
    subst this
    exact ⟨X, by rw [fL_law_694, if_pos (Int32.le_refl _)]; exact l_1205 hD h hX⟩
  | succ q ih =>
    intro t f X ht hf hX
    obtain ⟨f, rfl⟩ : ∃ k, f = k + 1 := ⟨f - 1, by omega⟩
    have htn : t < n := by omega
    have d0 := (hD.2.2.2 0).1
    have d1 := (hD.2.2.2 1).1
    obtain ⟨w9, l9⟩ := snp_all hD h (show 60 ≤ 9000 by omega)
    have r115 : μ 115 t = nI (wiB 0 K A B M wr wm c 9000 t) := by rw [w9]; exact he.2.1.1 t htn
    have r116 : μ 116 t = nI (leB 0 K A B M wr wm c 9000 t) := by rw [l9]; exact he.2.1.2.1 t htn
    have r117 : μ 117 t = rcB K A B wr c 16 t := he.2.1.2.2 t htn
    have r118 : μ 118 t = nI (wiB 0 K A B M wr wm c U t) := he.2.2.1 t htn
    have r119 : μ 119 t = nI (leB 0 K A B M wr wm c U t) := he.2.2.2 t htn
    have m0 : μ 114 0 = nI (wr 0) := (he.1.2.2 0 (by omega)).1
    have m1 : μ 114 1 = nI (wr 1) := (he.1.2.2 1 (by omega)).1
    have la : wiB 0 K A B M wr wm c 9000 t < 4 := (rel_wi hD h 0 (v := 9000) (by omega) t htn).1
    have lb : leB 0 K A B M wr wm c 9000 t < 4 := (rel_le hD h 0 (v := 9000) (by omega) t htn).1
    have lc : wiB 0 K A B M wr wm c U t < 4 := (rel_wi hD h 0 (v := U) (by omega) t htn).1
    have ld : leB 0 K A B M wr wm c U t < 4 := (rel_le hD h 0 (v := U) (by omega) t htn).1
    have t2 := two_at hD h (v := 5000) (by omega) t
    obtain ⟨X1, a1, a2⟩ := q_leads hD h hX (s := 0) (t := t) (v := U) (by omega) htn (by omega)
    obtain ⟨X2, b1, b2⟩ := q_leads hD h a2 (s := 0) (t := t) (v := 9000) (by omega) htn (by omega)
    obtain ⟨X3, c1, c2⟩ := q_leads hD h b2 (s := 1) (t := t) (v := 5000) (by omega) htn (by omega)
    obtain ⟨X4, e1, e2⟩ := q_reached hD h c2 htn
    obtain ⟨X5, f1, f2⟩ := l_829 (sL := sL) (sX := sX) hD he hU htn (fL_law_694 sL sX f) 3 0 am_F X4 (by omega) (by unfold am_F; omega) e2
    obtain ⟨X6, g1, g2⟩ := l_953 (sL := sL) (sX := sX) hD he htn (fL_law_694 sL sX f) f2
    obtain ⟨X7, h1, h2⟩ := l_1135 (sL := sL) (sX := sX) hD he htn (fL_law_694 sL sX f) g2
    obtain ⟨X', u1⟩ := ih (t + 1) f X7 (by omega) (by omega) h2
    refine ⟨X', ?_⟩
    rw [← u1, ← h1, ← g1, ← f1]
    generalize wiB 0 K A B M wr wm c 9000 t = a at *
    generalize leB 0 K A B M wr wm c 9000 t = b at *
    generalize wiB 0 K A B M wr wm c U t = aU at *
    generalize leB 0 K A B M wr wm c U t = bU at *
    generalize wiB 1 K A B M wr wm c 5000 t = a5 at *
    generalize leB 1 K A B M wr wm c 5000 t = b5 at *
    have a1 : fB_leads 0 0 (nI t) (nI U) X = some ((if aU = bU then 0 else 2), X1) := a1
    have b1 : fB_leads 0 0 (nI t) 9000 X1 = some ((if a = b then 0 else 2), X2) := b1
    have c1 : fB_leads 0 1 (nI t) 5000 X2 = some ((if a5 = b5 then 0 else 2), X3) := c1
    have s801 : ∀ v, fL_law_801 sL sX (fL_law_694 sL sX f) (nI n) (nI U) (nI t) v v X3 = fL_law_829 sL sX am_F (fL_law_694 sL sX f) (nI n) 1 (nI U) (nI t) (nI 0) X4 := by
      intro v
      unfold fL_law_801
      rw [if_neg (fun z => z rfl), e1, Option.bind_some]
      dsimp only
      have ex : X4 117 t = rcB K A B wr c 16 t := by rw [e2 117 (by omega), r117]
      rw [inb_n (by omega) (by omega), cond_true, nI_clamp (show t < 2 ^ 31 by omega), if_neg (show ¬ ¬ rcB K A B wr c 16 t = X4 117 t from fun z => z ex.symm)]
      rfl
    have s764 : ∀ v, fL_law_764 sL sX (fL_law_694 sL sX f) (nI n) (nI U) (nI t) v v X2 = fL_law_829 sL sX am_F (fL_law_694 sL sX f) (nI n) 1 (nI U) (nI t) (nI 0) X4 := by
      intro v
      unfold fL_law_764
      rw [if_neg (fun z => z rfl), c1, Option.bind_some]
      dsimp only
      have ex : X3 114 0 = nI (wr 0) := by rw [c2 114 (by omega), m0]
      have ey : X3 114 1 = nI (wr 1) := by rw [c2 114 (by omega), m1]
      by_cases h0 : t = wr 0
      · rw [if_neg (show ¬ ¬ nI t = X3 114 0 from fun z => z (by rw [ex, h0]))]
        by_cases h1 : wr 1 = t
        · rw [if_pos (show X3 114 1 = nI t by rw [ey, h1]), if_pos (t2.mpr (fun z => z.2 h1))]
          exact s801 0
        · rw [if_neg (show ¬ X3 114 1 = nI t by rw [ey]; exact fun z => h1 ((nI_inj (by omega) (by omega)).mp z)), if_neg (fun z => t2.mp z ⟨h0, h1⟩)]
          exact s801 2
      · rw [if_pos (show ¬ nI t = X3 114 0 by rw [ex]; exact fun z => h0 ((nI_inj (by omega) (by omega)).mp z)), if_pos (t2.mpr (fun z => h0 z.1))]
        exact s801 0
    have s732 : ∀ v, fL_law_732 sL sX (fL_law_694 sL sX f) (nI n) (nI U) (nI t) v v X1 = fL_law_829 sL sX am_F (fL_law_694 sL sX f) (nI n) 1 (nI U) (nI t) (nI 0) X4 := by
      intro v
      unfold fL_law_732
      rw [if_neg (fun z => z rfl), b1, Option.bind_some]
      dsimp only
      have ex : X2 115 t = nI a := by rw [b2 115 (by omega)]; exact r115
      have ey : X2 116 t = nI b := by rw [b2 116 (by omega)]; exact r116
      rw [inb_n (by omega) (by omega), cond_true, nI_clamp (show t < 2 ^ 31 by omega)]
      by_cases hab : a = b
      · rw [if_pos (show X2 115 t = X2 116 t by rw [ex, ey, hab]), if_pos hab]
        exact s764 0
      · rw [if_neg (show ¬ X2 115 t = X2 116 t by rw [ex, ey]; exact fun z => hab ((nI_inj (by omega) (by omega)).mp z)), if_neg hab]
        exact s764 2
    rw [fL_law_694, if_neg (by rw [nI_le_iff (by omega) (by omega)]; omega), if_neg (by decide), a1, Option.bind_some]
    dsimp only
    have ex : X1 118 t = nI aU := by rw [a2 118 (by omega)]; exact r118
    have ey : X1 119 t = nI bU := by rw [a2 119 (by omega)]; exact r119
    rw [inb_n (by omega) (by omega), cond_true, nI_clamp (show t < 2 ^ 31 by omega)]
    by_cases hab : aU = bU
    · rw [if_pos (show X1 118 t = X1 119 t by rw [ex, ey, hab]), if_pos hab]
      exact s732 0
    · rw [if_neg (show ¬ X1 118 t = X1 119 t by rw [ex, ey]; exact fun z => hab ((nI_inj (by omega) (by omega)).mp z)), if_neg hab]
      exact s732 2
end
