/-! E: every call keeps the whole invariant (printed by wip/whole/gen/mk87.py) -/
def Inv (μ : am_Mu) : Prop := G0 μ ∧ G1 μ ∧ G2 μ ∧ G3 μ ∧ G4 μ ∧ G5 μ ∧ G6 μ ∧ G7 μ ∧ G8 μ ∧ G9 μ ∧ G10 μ
theorem inv_fr {l l2 : List (Nat × Nat)} {μ μ1 μ2 : am_Mu} (h : am_fr l μ μ1) (h2 : am_fr l2 μ1 μ2) : am_fr (l ++ l2) μ μ2 := by
  intro a i hw
  have hw' : am_wl l a i = false ∧ am_wl l2 a i = false := by
    unfold am_wl at hw ⊢
    rw [List.any_append, Bool.or_eq_false_iff] at hw
    exact hw
  rw [h2 a i hw'.2, h a i hw'.1]
theorem kitchen_g10 {a b c d r : Int32} {μ μ1 μ2 : am_Mu} (g5 : G5 μ) (e1 : fB_kitchen a b c d μ = some (r, μ1)) (e2 : fM_kitchen a b c d μ1 = some (r, μ2)) (g10 : G10 μ) : G10 μ2 := by
  have f1 : am_fr _ μ1 μ2 := w_fM_kitchen e2
  have f0 : am_fr _ μ μ1 := w_fB_kitchen e1
  have k1 : μ2 76 8 = μ1 76 8 := f1 76 8 (by decide +kernel)
  have k2 : ∀ j, μ2 105 j = μ 105 j := fun j => (f1 105 j rfl).trans (f0 105 j rfl)
  have k3 : (μ 76 8).toNatClampNeg ≤ (μ1 76 8).toNatClampNeg := by
    rw [x_kitchen a b c d μ g5.1] at e1
    by_cases hv : μ 76 8 < 8 ∧ 0 ≤ a ∧ a < 2 ∧ 0 ≤ b ∧ b < 8 ∧ 0 ≤ c ∧ c < 100 ∧ 0 ≤ d ∧ d < 100
    · rw [if_pos hv] at e1
      cases e1
      rw [up_eq, nt_succ g5.1 (by grind)]
      omega
    · rw [if_neg hv] at e1
      cases e1
      exact Nat.le_refl _
  intro k h1 h2
  rw [k2]
  exact g10 k (by rw [k1] at h1; omega) h2
theorem v_now (a : Int32) (μ : am_Mu) : Op (fB_now a) (fM_now a) Inv Inv μ := by
  rintro ⟨g0, g1, g2, g3, g4, g5, g6, g7, g8, g9, g10⟩
  obtain ⟨r, μ1, μ2, e1, e2, q⟩ := op_now a μ ⟨g0, g8⟩
  have f0 : am_fr _ μ μ1 := w_fB_now e1
  have f1 : am_fr _ μ1 μ2 := w_fM_now e2
  have f := inv_fr f0 f1
  exact ⟨r, μ1, μ2, e1, e2, q.1, g1.fr1 f (by decide +kernel), g2.fr1 f (by decide +kernel), g3.fr1 f (by decide +kernel), g4.fr1 f (by decide +kernel), g5.fr1 f (by decide +kernel), g6.fr1 f (by decide +kernel), g7.fr1 f (by decide +kernel), q.2, g9.fr1 f (by decide +kernel), g10.fr1 f (by decide +kernel)⟩
theorem v_feast (a b c : Int32) (μ : am_Mu) : Op (fB_feast a b c) (fM_feast a b c) Inv Inv μ := by
  rintro ⟨g0, g1, g2, g3, g4, g5, g6, g7, g8, g9, g10⟩
  obtain ⟨r, μ1, μ2, e1, e2, q⟩ := op_feast a b c μ g1
  have f0 : am_fr _ μ μ1 := w_fB_feast e1
  have f1 : am_fr _ μ1 μ2 := w_fM_feast e2
  have f := inv_fr f0 f1
  exact ⟨r, μ1, μ2, e1, e2, g0.fr1 f (by decide +kernel), q, g2.fr1 f (by decide +kernel), g3.fr1 f (by decide +kernel), g4.fr1 f (by decide +kernel), g5.fr1 f (by decide +kernel), g6.fr1 f (by decide +kernel), g7.fr1 f (by decide +kernel), g8.fr1 f (by decide +kernel), g9.fr1 f (by decide +kernel), g10.fr1 f (by decide +kernel)⟩
theorem v_isFeast (a : Int32) (μ : am_Mu) : Op (fB_isFeast a) (fM_isFeast a) Inv Inv μ := by
  rintro ⟨g0, g1, g2, g3, g4, g5, g6, g7, g8, g9, g10⟩
  obtain ⟨r, μ1, μ2, e1, e2, q⟩ := op_isFeast a μ g1
  have f0 : am_fr _ μ μ1 := w_fB_isFeast e1
  have f1 : am_fr _ μ1 μ2 := w_fM_isFeast e2
  have f := inv_fr f0 f1
  exact ⟨r, μ1, μ2, e1, e2, g0.fr1 f (by decide +kernel), g1.fr1 f (by decide +kernel), g2.fr1 f (by decide +kernel), g3.fr1 f (by decide +kernel), g4.fr1 f (by decide +kernel), g5.fr1 f (by decide +kernel), g6.fr1 f (by decide +kernel), g7.fr1 f (by decide +kernel), g8.fr1 f (by decide +kernel), g9.fr1 f (by decide +kernel), g10.fr1 f (by decide +kernel)⟩
theorem v_moon (a b : Int32) (μ : am_Mu) : Op (fB_moon a b) (fM_moon a b) Inv Inv μ := by
  rintro ⟨g0, g1, g2, g3, g4, g5, g6, g7, g8, g9, g10⟩
  obtain ⟨r, μ1, μ2, e1, e2, q⟩ := op_moon a b μ trivial
  have f0 : am_fr _ μ μ1 := w_fB_moon e1
  have f1 : am_fr _ μ1 μ2 := w_fM_moon e2
  have f := inv_fr f0 f1
  exact ⟨r, μ1, μ2, e1, e2, g0.fr1 f (by decide +kernel), g1.fr1 f (by decide +kernel), g2.fr1 f (by decide +kernel), g3.fr1 f (by decide +kernel), g4.fr1 f (by decide +kernel), g5.fr1 f (by decide +kernel), g6.fr1 f (by decide +kernel), g7.fr1 f (by decide +kernel), g8.fr1 f (by decide +kernel), g9.fr1 f (by decide +kernel), g10.fr1 f (by decide +kernel)⟩
theorem v_feed (a b c d e : Int32) (μ : am_Mu) : Op (fB_feed a b c d e) (fM_feed a b c d e) Inv Inv μ := by
  rintro ⟨g0, g1, g2, g3, g4, g5, g6, g7, g8, g9, g10⟩
  obtain ⟨r, μ1, μ2, e1, e2, q⟩ := op_feed a b c d e μ g2
  have f0 : am_fr _ μ μ1 := w_fB_feed e1
  have f1 : am_fr _ μ1 μ2 := w_fM_feed e2
  have f := inv_fr f0 f1
  exact ⟨r, μ1, μ2, e1, e2, g0.fr1 f (by decide +kernel), g1.fr1 f (by decide +kernel), q, g3.fr1 f (by decide +kernel), g4.fr1 f (by decide +kernel), g5.fr1 f (by decide +kernel), g6.fr1 f (by decide +kernel), g7.fr1 f (by decide +kernel), g8.fr1 f (by decide +kernel), g9.fr1 f (by decide +kernel), g10.fr1 f (by decide +kernel)⟩
theorem v_law (a b c : Int32) (μ : am_Mu) : Op (fB_law a b c) (fM_law a b c) Inv Inv μ := by
  rintro ⟨g0, g1, g2, g3, g4, g5, g6, g7, g8, g9, g10⟩
  obtain ⟨r, μ1, μ2, e1, e2, q⟩ := op_law a b c μ ⟨g2, g3⟩
  have f0 : am_fr _ μ μ1 := w_fB_law e1
  have f1 : am_fr _ μ1 μ2 := w_fM_law e2
  have f := inv_fr f0 f1
  exact ⟨r, μ1, μ2, e1, e2, g0.fr1 f (by decide +kernel), g1.fr1 f (by decide +kernel), q.1, q.2, g4.fr1 f (by decide +kernel), g5.fr1 f (by decide +kernel), g6.fr1 f (by decide +kernel), g7.fr1 f (by decide +kernel), g8.fr1 f (by decide +kernel), g9.fr1 f (by decide +kernel), g10.fr1 f (by decide +kernel)⟩
theorem v_rules (a b : Int32) (μ : am_Mu) : Op (fB_rules a b) (fM_rules a b) Inv Inv μ := by
  rintro ⟨g0, g1, g2, g3, g4, g5, g6, g7, g8, g9, g10⟩
  obtain ⟨r, μ1, μ2, e1, e2, q⟩ := op_rules a b μ g3
  have f0 : am_fr _ μ μ1 := w_fB_rules e1
  have f1 : am_fr _ μ1 μ2 := w_fM_rules e2
  have f := inv_fr f0 f1
  exact ⟨r, μ1, μ2, e1, e2, g0.fr1 f (by decide +kernel), g1.fr1 f (by decide +kernel), g2.fr1 f (by decide +kernel), g3.fr1 f (by decide +kernel), g4.fr1 f (by decide +kernel), g5.fr1 f (by decide +kernel), g6.fr1 f (by decide +kernel), g7.fr1 f (by decide +kernel), g8.fr1 f (by decide +kernel), g9.fr1 f (by decide +kernel), g10.fr1 f (by decide +kernel)⟩
theorem v_thing (a : Int32) (μ : am_Mu) : Op (fB_thing a) (fM_thing a) Inv Inv μ := by
  rintro ⟨g0, g1, g2, g3, g4, g5, g6, g7, g8, g9, g10⟩
  obtain ⟨r, μ1, μ2, e1, e2, q⟩ := op_thing a μ g4
  have f0 : am_fr _ μ μ1 := w_fB_thing e1
  have f1 : am_fr _ μ1 μ2 := w_fM_thing e2
  have f := inv_fr f0 f1
  exact ⟨r, μ1, μ2, e1, e2, g0.fr1 f (by decide +kernel), g1.fr1 f (by decide +kernel), g2.fr1 f (by decide +kernel), g3.fr1 f (by decide +kernel), q, g5.fr1 f (by decide +kernel), g6.fr1 f (by decide +kernel), g7.fr1 f (by decide +kernel), g8.fr1 f (by decide +kernel), g9.fr1 f (by decide +kernel), g10.fr1 f (by decide +kernel)⟩
theorem v_act (a b c d e : Int32) (h : e = 0 ∨ e = 1) (μ : am_Mu) : Op (fB_act a b c d e) (fM_act a b c d e) Inv Inv μ := by
  rintro ⟨g0, g1, g2, g3, g4, g5, g6, g7, g8, g9, g10⟩
  obtain ⟨r, μ1, μ2, e1, e2, q⟩ := op_act a b c d e h μ ⟨g0, g4⟩
  have f0 : am_fr _ μ μ1 := w_fB_act e1
  have f1 : am_fr _ μ1 μ2 := w_fM_act e2
  have f := inv_fr f0 f1
  exact ⟨r, μ1, μ2, e1, e2, g0.fr1 f (by decide +kernel), g1.fr1 f (by decide +kernel), g2.fr1 f (by decide +kernel), g3.fr1 f (by decide +kernel), q, g5.fr1 f (by decide +kernel), g6.fr1 f (by decide +kernel), g7.fr1 f (by decide +kernel), g8.fr1 f (by decide +kernel), g9.fr1 f (by decide +kernel), g10.fr1 f (by decide +kernel)⟩
theorem v_strike (a : Int32) (μ : am_Mu) : Op (fB_strike a) (fM_strike a) Inv Inv μ := by
  rintro ⟨g0, g1, g2, g3, g4, g5, g6, g7, g8, g9, g10⟩
  obtain ⟨r, μ1, μ2, e1, e2, q⟩ := op_strike a μ ⟨g0, g4⟩
  have f0 : am_fr _ μ μ1 := w_fB_strike e1
  have f1 : am_fr _ μ1 μ2 := w_fM_strike e2
  have f := inv_fr f0 f1
  exact ⟨r, μ1, μ2, e1, e2, g0.fr1 f (by decide +kernel), g1.fr1 f (by decide +kernel), g2.fr1 f (by decide +kernel), g3.fr1 f (by decide +kernel), q.2, g5.fr1 f (by decide +kernel), g6.fr1 f (by decide +kernel), g7.fr1 f (by decide +kernel), g8.fr1 f (by decide +kernel), g9.fr1 f (by decide +kernel), g10.fr1 f (by decide +kernel)⟩
theorem v_mistake (a b c : Int32) (μ : am_Mu) : Op (fB_mistake a b c) (fM_mistake a b c) Inv Inv μ := by
  rintro ⟨g0, g1, g2, g3, g4, g5, g6, g7, g8, g9, g10⟩
  obtain ⟨r, μ1, μ2, e1, e2, q⟩ := op_mistake a b c μ ⟨g0, g4⟩
  have f0 : am_fr _ μ μ1 := w_fB_mistake e1
  have f1 : am_fr _ μ1 μ2 := w_fM_mistake e2
  have f := inv_fr f0 f1
  exact ⟨r, μ1, μ2, e1, e2, g0.fr1 f (by decide +kernel), g1.fr1 f (by decide +kernel), g2.fr1 f (by decide +kernel), g3.fr1 f (by decide +kernel), q, g5.fr1 f (by decide +kernel), g6.fr1 f (by decide +kernel), g7.fr1 f (by decide +kernel), g8.fr1 f (by decide +kernel), g9.fr1 f (by decide +kernel), g10.fr1 f (by decide +kernel)⟩
theorem v_mark (a b c d e : Int32) (μ : am_Mu) : Op (fB_mark a b c d e) (fM_mark a b c d e) Inv Inv μ := by
  rintro ⟨g0, g1, g2, g3, g4, g5, g6, g7, g8, g9, g10⟩
  obtain ⟨r, μ1, μ2, e1, e2, q⟩ := op_mark a b c d e μ ⟨g1, g3, g4⟩
  have f0 : am_fr _ μ μ1 := w_fB_mark e1
  have f1 : am_fr _ μ1 μ2 := w_fM_mark e2
  have f := inv_fr f0 f1
  exact ⟨r, μ1, μ2, e1, e2, g0.fr1 f (by decide +kernel), g1.fr1 f (by decide +kernel), g2.fr1 f (by decide +kernel), g3.fr1 f (by decide +kernel), g4.fr1 f (by decide +kernel), g5.fr1 f (by decide +kernel), g6.fr1 f (by decide +kernel), g7.fr1 f (by decide +kernel), g8.fr1 f (by decide +kernel), g9.fr1 f (by decide +kernel), g10.fr1 f (by decide +kernel)⟩
theorem v_since (a b c d e f : Int32) (μ : am_Mu) : Op (fB_since a b c d e f) (fM_since a b c d e f) Inv Inv μ := by
  rintro ⟨g0, g1, g2, g3, g4, g5, g6, g7, g8, g9, g10⟩
  obtain ⟨r, μ1, μ2, e1, e2, q⟩ := op_since a b c d e f μ ⟨g1, g3, g4⟩
  have f0 : am_fr _ μ μ1 := w_fB_since e1
  have f1 : am_fr _ μ1 μ2 := w_fM_since e2
  have f := inv_fr f0 f1
  exact ⟨r, μ1, μ2, e1, e2, g0.fr1 f (by decide +kernel), g1.fr1 f (by decide +kernel), g2.fr1 f (by decide +kernel), g3.fr1 f (by decide +kernel), g4.fr1 f (by decide +kernel), g5.fr1 f (by decide +kernel), g6.fr1 f (by decide +kernel), g7.fr1 f (by decide +kernel), g8.fr1 f (by decide +kernel), g9.fr1 f (by decide +kernel), g10.fr1 f (by decide +kernel)⟩
theorem v_quarrel (a b : Int32) (μ : am_Mu) : Op (fB_quarrel a b) (fM_quarrel a b) Inv Inv μ := by
  rintro ⟨g0, g1, g2, g3, g4, g5, g6, g7, g8, g9, g10⟩
  obtain ⟨r, μ1, μ2, e1, e2, q⟩ := op_quarrel a b μ ⟨g0, g1, g3, g4⟩
  have f0 : am_fr _ μ μ1 := w_fB_quarrel e1
  have f1 : am_fr _ μ1 μ2 := w_fM_quarrel e2
  have f := inv_fr f0 f1
  exact ⟨r, μ1, μ2, e1, e2, g0.fr1 f (by decide +kernel), g1.fr1 f (by decide +kernel), g2.fr1 f (by decide +kernel), g3.fr1 f (by decide +kernel), g4.fr1 f (by decide +kernel), g5.fr1 f (by decide +kernel), g6.fr1 f (by decide +kernel), g7.fr1 f (by decide +kernel), g8.fr1 f (by decide +kernel), g9.fr1 f (by decide +kernel), g10.fr1 f (by decide +kernel)⟩
theorem v_leads (a b c d : Int32) (μ : am_Mu) : Op (fB_leads a b c d) (fM_leads a b c d) Inv Inv μ := by
  rintro ⟨g0, g1, g2, g3, g4, g5, g6, g7, g8, g9, g10⟩
  obtain ⟨r, μ1, μ2, e1, e2, q⟩ := op_leads a b c d μ ⟨g0, g1, g3, g4⟩
  have f0 : am_fr _ μ μ1 := w_fB_leads e1
  have f1 : am_fr _ μ1 μ2 := w_fM_leads e2
  have f := inv_fr f0 f1
  exact ⟨r, μ1, μ2, e1, e2, g0.fr1 f (by decide +kernel), g1.fr1 f (by decide +kernel), g2.fr1 f (by decide +kernel), g3.fr1 f (by decide +kernel), g4.fr1 f (by decide +kernel), g5.fr1 f (by decide +kernel), g6.fr1 f (by decide +kernel), g7.fr1 f (by decide +kernel), g8.fr1 f (by decide +kernel), g9.fr1 f (by decide +kernel), g10.fr1 f (by decide +kernel)⟩
theorem v_reached (a b c : Int32) (μ : am_Mu) : Op (fB_reached a b c) (fM_reached a b c) Inv Inv μ := by
  rintro ⟨g0, g1, g2, g3, g4, g5, g6, g7, g8, g9, g10⟩
  obtain ⟨r, μ1, μ2, e1, e2, q⟩ := op_reached a b c μ ⟨g0, g1, g3, g4⟩
  have f0 : am_fr _ μ μ1 := w_fB_reached e1
  have f1 : am_fr _ μ1 μ2 := w_fM_reached e2
  have f := inv_fr f0 f1
  exact ⟨r, μ1, μ2, e1, e2, g0.fr1 f (by decide +kernel), g1.fr1 f (by decide +kernel), g2.fr1 f (by decide +kernel), g3.fr1 f (by decide +kernel), g4.fr1 f (by decide +kernel), g5.fr1 f (by decide +kernel), g6.fr1 f (by decide +kernel), g7.fr1 f (by decide +kernel), g8.fr1 f (by decide +kernel), g9.fr1 f (by decide +kernel), g10.fr1 f (by decide +kernel)⟩
theorem v_way (a b c d : Int32) (μ : am_Mu) : Op (fB_way a b c d) (fM_way a b c d) Inv Inv μ := by
  rintro ⟨g0, g1, g2, g3, g4, g5, g6, g7, g8, g9, g10⟩
  obtain ⟨r, μ1, μ2, e1, e2, q⟩ := op_way a b c d μ ⟨g0, g1, g3, g4⟩
  have f0 : am_fr _ μ μ1 := w_fB_way e1
  have f1 : am_fr _ μ1 μ2 := w_fM_way e2
  have f := inv_fr f0 f1
  exact ⟨r, μ1, μ2, e1, e2, g0.fr1 f (by decide +kernel), g1.fr1 f (by decide +kernel), g2.fr1 f (by decide +kernel), g3.fr1 f (by decide +kernel), g4.fr1 f (by decide +kernel), g5.fr1 f (by decide +kernel), g6.fr1 f (by decide +kernel), g7.fr1 f (by decide +kernel), g8.fr1 f (by decide +kernel), g9.fr1 f (by decide +kernel), g10.fr1 f (by decide +kernel)⟩
theorem v_mend (a b c : Int32) (μ : am_Mu) : Op (fB_mend a b c) (fM_mend a b c) Inv Inv μ := by
  rintro ⟨g0, g1, g2, g3, g4, g5, g6, g7, g8, g9, g10⟩
  obtain ⟨r, μ1, μ2, e1, e2, q⟩ := op_mend a b c μ ⟨g0, g1, g3, g4⟩
  have f0 : am_fr _ μ μ1 := w_fB_mend e1
  have f1 : am_fr _ μ1 μ2 := w_fM_mend e2
  have f := inv_fr f0 f1
  exact ⟨r, μ1, μ2, e1, e2, g0.fr1 f (by decide +kernel), g1.fr1 f (by decide +kernel), g2.fr1 f (by decide +kernel), g3.fr1 f (by decide +kernel), g4.fr1 f (by decide +kernel), g5.fr1 f (by decide +kernel), g6.fr1 f (by decide +kernel), g7.fr1 f (by decide +kernel), g8.fr1 f (by decide +kernel), g9.fr1 f (by decide +kernel), g10.fr1 f (by decide +kernel)⟩
theorem v_kitchen (a b c d : Int32) (μ : am_Mu) : Op (fB_kitchen a b c d) (fM_kitchen a b c d) Inv Inv μ := by
  rintro ⟨g0, g1, g2, g3, g4, g5, g6, g7, g8, g9, g10⟩
  obtain ⟨r, μ1, μ2, e1, e2, q⟩ := op_kitchen a b c d μ g5
  have f0 : am_fr _ μ μ1 := w_fB_kitchen e1
  have f1 : am_fr _ μ1 μ2 := w_fM_kitchen e2
  have f := inv_fr f0 f1
  exact ⟨r, μ1, μ2, e1, e2, g0.fr1 f (by decide +kernel), g1.fr1 f (by decide +kernel), g2.fr1 f (by decide +kernel), g3.fr1 f (by decide +kernel), g4.fr1 f (by decide +kernel), q, g6.fr1 f (by decide +kernel), g7.fr1 f (by decide +kernel), g8.fr1 f (by decide +kernel), g9.fr1 f (by decide +kernel), kitchen_g10 g5 e1 e2 g10⟩
theorem v_oversee (a b : Int32) (μ : am_Mu) : Op (fB_oversee a b) (fM_oversee a b) Inv Inv μ := by
  rintro ⟨g0, g1, g2, g3, g4, g5, g6, g7, g8, g9, g10⟩
  obtain ⟨r, μ1, μ2, e1, e2, q⟩ := op_oversee a b μ g5
  have f0 : am_fr _ μ μ1 := w_fB_oversee e1
  have f1 : am_fr _ μ1 μ2 := w_fM_oversee e2
  have f := inv_fr f0 f1
  exact ⟨r, μ1, μ2, e1, e2, g0.fr1 f (by decide +kernel), g1.fr1 f (by decide +kernel), g2.fr1 f (by decide +kernel), g3.fr1 f (by decide +kernel), g4.fr1 f (by decide +kernel), q, g6.fr1 f (by decide +kernel), g7.fr1 f (by decide +kernel), g8.fr1 f (by decide +kernel), g9.fr1 f (by decide +kernel), g10.fr1 f (by decide +kernel)⟩
theorem v_trust (a b c : Int32) (h : c = 0 ∨ c = 1) (μ : am_Mu) : Op (fB_trust a b c) (fM_trust a b c) Inv Inv μ := by
  rintro ⟨g0, g1, g2, g3, g4, g5, g6, g7, g8, g9, g10⟩
  obtain ⟨r, μ1, μ2, e1, e2, q⟩ := op_trust a b c h μ g5
  have f0 : am_fr _ μ μ1 := w_fB_trust e1
  have f1 : am_fr _ μ1 μ2 := w_fM_trust e2
  have f := inv_fr f0 f1
  exact ⟨r, μ1, μ2, e1, e2, g0.fr1 f (by decide +kernel), g1.fr1 f (by decide +kernel), g2.fr1 f (by decide +kernel), g3.fr1 f (by decide +kernel), g4.fr1 f (by decide +kernel), q, g6.fr1 f (by decide +kernel), g7.fr1 f (by decide +kernel), g8.fr1 f (by decide +kernel), g9.fr1 f (by decide +kernel), g10.fr1 f (by decide +kernel)⟩
theorem v_lot (a b : Int32) (μ : am_Mu) : Op (fB_lot a b) (fM_lot a b) Inv Inv μ := by
  rintro ⟨g0, g1, g2, g3, g4, g5, g6, g7, g8, g9, g10⟩
  obtain ⟨r, μ1, μ2, e1, e2, q⟩ := op_lot a b μ ⟨g5, g6⟩
  have f0 : am_fr _ μ μ1 := w_fB_lot e1
  have f1 : am_fr _ μ1 μ2 := w_fM_lot e2
  have f := inv_fr f0 f1
  exact ⟨r, μ1, μ2, e1, e2, g0.fr1 f (by decide +kernel), g1.fr1 f (by decide +kernel), g2.fr1 f (by decide +kernel), g3.fr1 f (by decide +kernel), g4.fr1 f (by decide +kernel), g5.fr1 f (by decide +kernel), q, g7.fr1 f (by decide +kernel), g8.fr1 f (by decide +kernel), g9.fr1 f (by decide +kernel), g10.fr1 f (by decide +kernel)⟩
theorem v_pass (a b c d e : Int32) (h : e = 0 ∨ e = 1) (μ : am_Mu) : Op (fB_pass a b c d e) (fM_pass a b c d e) Inv Inv μ := by
  rintro ⟨g0, g1, g2, g3, g4, g5, g6, g7, g8, g9, g10⟩
  obtain ⟨r, μ1, μ2, e1, e2, q⟩ := op_pass a b c d e h μ ⟨g5, g6⟩
  have f0 : am_fr _ μ μ1 := w_fB_pass e1
  have f1 : am_fr _ μ1 μ2 := w_fM_pass e2
  have f := inv_fr f0 f1
  exact ⟨r, μ1, μ2, e1, e2, g0.fr1 f (by decide +kernel), g1.fr1 f (by decide +kernel), g2.fr1 f (by decide +kernel), g3.fr1 f (by decide +kernel), g4.fr1 f (by decide +kernel), g5.fr1 f (by decide +kernel), q, g7.fr1 f (by decide +kernel), g8.fr1 f (by decide +kernel), g9.fr1 f (by decide +kernel), g10.fr1 f (by decide +kernel)⟩
theorem v_units (a b : Int32) (μ : am_Mu) : Op (fB_units a b) (fM_units a b) Inv Inv μ := by
  rintro ⟨g0, g1, g2, g3, g4, g5, g6, g7, g8, g9, g10⟩
  obtain ⟨r, μ1, μ2, e1, e2, q⟩ := op_units a b μ ⟨g5, g6⟩
  have f0 : am_fr _ μ μ1 := w_fB_units e1
  have f1 : am_fr _ μ1 μ2 := w_fM_units e2
  have f := inv_fr f0 f1
  exact ⟨r, μ1, μ2, e1, e2, g0.fr1 f (by decide +kernel), g1.fr1 f (by decide +kernel), g2.fr1 f (by decide +kernel), g3.fr1 f (by decide +kernel), g4.fr1 f (by decide +kernel), g5.fr1 f (by decide +kernel), g6.fr1 f (by decide +kernel), g7.fr1 f (by decide +kernel), g8.fr1 f (by decide +kernel), g9.fr1 f (by decide +kernel), g10.fr1 f (by decide +kernel)⟩
theorem v_good (a b c d : Int32) (μ : am_Mu) : Op (fB_good a b c d) (fM_good a b c d) Inv Inv μ := by
  rintro ⟨g0, g1, g2, g3, g4, g5, g6, g7, g8, g9, g10⟩
  obtain ⟨r, μ1, μ2, e1, e2, q⟩ := op_good a b c d μ ⟨g5, g6⟩
  have f0 : am_fr _ μ μ1 := w_fB_good e1
  have f1 : am_fr _ μ1 μ2 := w_fM_good e2
  have f := inv_fr f0 f1
  exact ⟨r, μ1, μ2, e1, e2, g0.fr1 f (by decide +kernel), g1.fr1 f (by decide +kernel), g2.fr1 f (by decide +kernel), g3.fr1 f (by decide +kernel), g4.fr1 f (by decide +kernel), g5.fr1 f (by decide +kernel), g6.fr1 f (by decide +kernel), g7.fr1 f (by decide +kernel), g8.fr1 f (by decide +kernel), g9.fr1 f (by decide +kernel), g10.fr1 f (by decide +kernel)⟩
theorem v_recall (a : Int32) (μ : am_Mu) : Op (fB_recall a) (fM_recall a) Inv Inv μ := by
  rintro ⟨g0, g1, g2, g3, g4, g5, g6, g7, g8, g9, g10⟩
  obtain ⟨r, μ1, μ2, e1, e2, q⟩ := op_recall a μ ⟨g5, g6⟩
  have f0 : am_fr _ μ μ1 := w_fB_recall e1
  have f1 : am_fr _ μ1 μ2 := w_fM_recall e2
  have f := inv_fr f0 f1
  exact ⟨r, μ1, μ2, e1, e2, g0.fr1 f (by decide +kernel), g1.fr1 f (by decide +kernel), g2.fr1 f (by decide +kernel), g3.fr1 f (by decide +kernel), g4.fr1 f (by decide +kernel), g5.fr1 f (by decide +kernel), g6.fr1 f (by decide +kernel), g7.fr1 f (by decide +kernel), g8.fr1 f (by decide +kernel), g9.fr1 f (by decide +kernel), g10.fr1 f (by decide +kernel)⟩
theorem v_visitor (a b : Int32) (μ : am_Mu) : Op (fB_visitor a b) (fM_visitor a b) Inv Inv μ := by
  rintro ⟨g0, g1, g2, g3, g4, g5, g6, g7, g8, g9, g10⟩
  obtain ⟨r, μ1, μ2, e1, e2, q⟩ := op_visitor a b μ g7
  have f0 : am_fr _ μ μ1 := w_fB_visitor e1
  have f1 : am_fr _ μ1 μ2 := w_fM_visitor e2
  have f := inv_fr f0 f1
  exact ⟨r, μ1, μ2, e1, e2, g0.fr1 f (by decide +kernel), g1.fr1 f (by decide +kernel), g2.fr1 f (by decide +kernel), g3.fr1 f (by decide +kernel), g4.fr1 f (by decide +kernel), g5.fr1 f (by decide +kernel), g6.fr1 f (by decide +kernel), q, g8.fr1 f (by decide +kernel), g9.fr1 f (by decide +kernel), g10.fr1 f (by decide +kernel)⟩
theorem v_seed (a b : Int32) (μ : am_Mu) : Op (fB_seed a b) (fM_seed a b) Inv Inv μ := by
  rintro ⟨g0, g1, g2, g3, g4, g5, g6, g7, g8, g9, g10⟩
  obtain ⟨r, μ1, μ2, e1, e2, q⟩ := op_seed a b μ g8
  have f0 : am_fr _ μ μ1 := w_fB_seed e1
  have f1 : am_fr _ μ1 μ2 := w_fM_seed e2
  have f := inv_fr f0 f1
  exact ⟨r, μ1, μ2, e1, e2, g0.fr1 f (by decide +kernel), g1.fr1 f (by decide +kernel), g2.fr1 f (by decide +kernel), g3.fr1 f (by decide +kernel), g4.fr1 f (by decide +kernel), g5.fr1 f (by decide +kernel), g6.fr1 f (by decide +kernel), g7.fr1 f (by decide +kernel), q, g9.fr1 f (by decide +kernel), g10.fr1 f (by decide +kernel)⟩
theorem draw_g10 {r : Int32} {μ μ1 μ2 : am_Mu} (e1 : fB_draw μ = some (r, μ1)) (e2 : fM_draw μ1 = some (r, μ2)) (q : ∀ j, (μ 76 8).toNatClampNeg ≤ j → μ2 105 j = μ 105 j) (g10 : G10 μ) : G10 μ2 := by
  have f1 : am_fr _ μ1 μ2 := w_fM_draw e2
  have f0 : am_fr _ μ μ1 := w_fB_draw e1
  have k1 : μ2 76 8 = μ 76 8 := (f1 76 8 (by decide +kernel)).trans (f0 76 8 (by decide +kernel))
  intro k h1 h2
  rw [k1] at h1
  rw [q k h1]
  exact g10 k h1 h2
theorem v_draw (μ : am_Mu) : Op fB_draw fM_draw Inv Inv μ := by
  rintro ⟨g0, g1, g2, g3, g4, g5, g6, g7, g8, g9, g10⟩
  obtain ⟨r, μ1, μ2, e1, e2, q⟩ := op_draw μ ⟨g0, g5, g7, g8⟩
  have f0 : am_fr _ μ μ1 := w_fB_draw e1
  have f1 : am_fr _ μ1 μ2 := w_fM_draw e2
  have f := inv_fr f0 f1
  exact ⟨r, μ1, μ2, e1, e2, g0.fr1 f (by decide +kernel), g1.fr1 f (by decide +kernel), g2.fr1 f (by decide +kernel), g3.fr1 f (by decide +kernel), g4.fr1 f (by decide +kernel), g5.fr1 f (by decide +kernel), g6.fr1 f (by decide +kernel), g7.fr1 f (by decide +kernel), q.1, g9.fr1 f (by decide +kernel), draw_g10 e1 e2 q.2 g10⟩
theorem v_row (μ : am_Mu) : Op fB_row fM_row Inv Inv μ := by
  rintro ⟨g0, g1, g2, g3, g4, g5, g6, g7, g8, g9, g10⟩
  obtain ⟨r, μ1, μ2, e1, e2, q⟩ := op_row μ ⟨g0, g5, g7, g8⟩
  have f0 : am_fr _ μ μ1 := w_fB_row e1
  have f1 : am_fr _ μ1 μ2 := w_fM_row e2
  have f := inv_fr f0 f1
  exact ⟨r, μ1, μ2, e1, e2, g0.fr1 f (by decide +kernel), g1.fr1 f (by decide +kernel), g2.fr1 f (by decide +kernel), g3.fr1 f (by decide +kernel), g4.fr1 f (by decide +kernel), g5.fr1 f (by decide +kernel), g6.fr1 f (by decide +kernel), g7.fr1 f (by decide +kernel), g8.fr1 f (by decide +kernel), g9.fr1 f (by decide +kernel), g10.fr1 f (by decide +kernel)⟩
theorem v_visit (a b : Int32) (μ : am_Mu) : Op (fB_visit a b) (fM_visit a b) Inv Inv μ := by
  rintro ⟨g0, g1, g2, g3, g4, g5, g6, g7, g8, g9, g10⟩
  obtain ⟨r, μ1, μ2, e1, e2, q⟩ := op_visit a b μ g8
  have f0 : am_fr _ μ μ1 := w_fB_visit e1
  have f1 : am_fr _ μ1 μ2 := w_fM_visit e2
  have f := inv_fr f0 f1
  exact ⟨r, μ1, μ2, e1, e2, g0.fr1 f (by decide +kernel), g1.fr1 f (by decide +kernel), g2.fr1 f (by decide +kernel), g3.fr1 f (by decide +kernel), g4.fr1 f (by decide +kernel), g5.fr1 f (by decide +kernel), g6.fr1 f (by decide +kernel), g7.fr1 f (by decide +kernel), g8.fr1 f (by decide +kernel), g9.fr1 f (by decide +kernel), g10.fr1 f (by decide +kernel)⟩
theorem v_tour (a : Int32) (μ : am_Mu) : Op (fB_tour a) (fM_tour a) Inv Inv μ := by
  rintro ⟨g0, g1, g2, g3, g4, g5, g6, g7, g8, g9, g10⟩
  obtain ⟨r, μ1, μ2, e1, e2, q⟩ := op_tour a μ ⟨g0, g5, g7, g8, g10⟩
  have f0 : am_fr _ μ μ1 := w_fB_tour e1
  have f1 : am_fr _ μ1 μ2 := w_fM_tour e2
  have f := inv_fr f0 f1
  exact ⟨r, μ1, μ2, e1, e2, g0.fr1 f (by decide +kernel), g1.fr1 f (by decide +kernel), g2.fr1 f (by decide +kernel), g3.fr1 f (by decide +kernel), g4.fr1 f (by decide +kernel), g5.fr1 f (by decide +kernel), g6.fr1 f (by decide +kernel), g7.fr1 f (by decide +kernel), g8.fr1 f (by decide +kernel), g9.fr1 f (by decide +kernel), g10.fr1 f (by decide +kernel)⟩
theorem v_stop (a b : Int32) (μ : am_Mu) : Op (fB_stop a b) (fM_stop a b) Inv Inv μ := by
  rintro ⟨g0, g1, g2, g3, g4, g5, g6, g7, g8, g9, g10⟩
  obtain ⟨r, μ1, μ2, e1, e2, q⟩ := op_stop a b μ ⟨g0, g5, g7, g8, g10⟩
  have f0 : am_fr _ μ μ1 := w_fB_stop e1
  have f1 : am_fr _ μ1 μ2 := w_fM_stop e2
  have f := inv_fr f0 f1
  exact ⟨r, μ1, μ2, e1, e2, g0.fr1 f (by decide +kernel), g1.fr1 f (by decide +kernel), g2.fr1 f (by decide +kernel), g3.fr1 f (by decide +kernel), g4.fr1 f (by decide +kernel), g5.fr1 f (by decide +kernel), g6.fr1 f (by decide +kernel), g7.fr1 f (by decide +kernel), g8.fr1 f (by decide +kernel), g9.fr1 f (by decide +kernel), g10.fr1 f (by decide +kernel)⟩
theorem v_word (a b c d : Int32) (μ : am_Mu) : Op (fB_word a b c d) (fM_word a b c d) Inv Inv μ := by
  rintro ⟨g0, g1, g2, g3, g4, g5, g6, g7, g8, g9, g10⟩
  obtain ⟨r, μ1, μ2, e1, e2, q⟩ := op_word a b c d μ ⟨g4, g7, g9⟩
  have f0 : am_fr _ μ μ1 := w_fB_word e1
  have f1 : am_fr _ μ1 μ2 := w_fM_word e2
  have f := inv_fr f0 f1
  exact ⟨r, μ1, μ2, e1, e2, g0.fr1 f (by decide +kernel), g1.fr1 f (by decide +kernel), g2.fr1 f (by decide +kernel), g3.fr1 f (by decide +kernel), g4.fr1 f (by decide +kernel), g5.fr1 f (by decide +kernel), g6.fr1 f (by decide +kernel), g7.fr1 f (by decide +kernel), g8.fr1 f (by decide +kernel), q, g10.fr1 f (by decide +kernel)⟩
theorem v_believed (a b : Int32) (μ : am_Mu) : Op (fB_believed a b) (fM_believed a b) Inv Inv μ := by
  rintro ⟨g0, g1, g2, g3, g4, g5, g6, g7, g8, g9, g10⟩
  obtain ⟨r, μ1, μ2, e1, e2, q⟩ := op_believed a b μ ⟨g4, g7, g9⟩
  have f0 : am_fr _ μ μ1 := w_fB_believed e1
  have f1 : am_fr _ μ1 μ2 := w_fM_believed e2
  have f := inv_fr f0 f1
  exact ⟨r, μ1, μ2, e1, e2, g0.fr1 f (by decide +kernel), g1.fr1 f (by decide +kernel), g2.fr1 f (by decide +kernel), g3.fr1 f (by decide +kernel), g4.fr1 f (by decide +kernel), g5.fr1 f (by decide +kernel), g6.fr1 f (by decide +kernel), g7.fr1 f (by decide +kernel), g8.fr1 f (by decide +kernel), g9.fr1 f (by decide +kernel), g10.fr1 f (by decide +kernel)⟩
theorem v_look (a b : Int32) (μ : am_Mu) : Op (fB_look a b) (fM_look a b) Inv Inv μ := by
  rintro ⟨g0, g1, g2, g3, g4, g5, g6, g7, g8, g9, g10⟩
  obtain ⟨r, μ1, μ2, e1, e2, q⟩ := op_look a b μ g4
  have f0 : am_fr _ μ μ1 := w_fB_look e1
  have f1 : am_fr _ μ1 μ2 := w_fM_look e2
  have f := inv_fr f0 f1
  exact ⟨r, μ1, μ2, e1, e2, g0.fr1 f (by decide +kernel), g1.fr1 f (by decide +kernel), g2.fr1 f (by decide +kernel), g3.fr1 f (by decide +kernel), g4.fr1 f (by decide +kernel), g5.fr1 f (by decide +kernel), g6.fr1 f (by decide +kernel), g7.fr1 f (by decide +kernel), g8.fr1 f (by decide +kernel), g9.fr1 f (by decide +kernel), g10.fr1 f (by decide +kernel)⟩
theorem v_count (a : Int32) (μ : am_Mu) : Op (fB_count a) (fM_count a) Inv Inv μ := by
  rintro ⟨g0, g1, g2, g3, g4, g5, g6, g7, g8, g9, g10⟩
  obtain ⟨r, μ1, μ2, e1, e2, q⟩ := op_count a μ ⟨g0, g1, g2, g3, g4, g5, g6, g7, g8⟩
  have f0 : am_fr _ μ μ1 := w_fB_count e1
  have f1 : am_fr _ μ1 μ2 := w_fM_count e2
  have f := inv_fr f0 f1
  exact ⟨r, μ1, μ2, e1, e2, g0.fr1 f (by decide +kernel), g1.fr1 f (by decide +kernel), g2.fr1 f (by decide +kernel), g3.fr1 f (by decide +kernel), g4.fr1 f (by decide +kernel), g5.fr1 f (by decide +kernel), g6.fr1 f (by decide +kernel), g7.fr1 f (by decide +kernel), g8.fr1 f (by decide +kernel), g9.fr1 f (by decide +kernel), g10.fr1 f (by decide +kernel)⟩
