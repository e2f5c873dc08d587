/-! E: the questions -/
section
variable {n : Nat} {K A : Nat → Nat} {B : Nat → Option Nat} {M wr wm c : Nat → Nat} {μ : am_Mu}
theorem st1_at (st : Nat → (Nat → Nat) → Nat → Nat) (hst : ∀ e w t, st e w t = if e < 10 ∧ t = wr e then set1 (w t) else w t) (C : Nat → Bool) (t : Nat) : ∀ k, ((∃ j, j < k ∧ C j = true ∧ c j < 10 ∧ t = wr (c j)) → rnS st c C k t = 1) ∧ ((∀ j, j < k → C j = true → c j < 10 → ¬ t = wr (c j)) → rnS st c C k t = 0) ∧ rnS st c C k t < 2 := by
  intro k
  induction k with
  | zero => exact ⟨fun ⟨j, h, _⟩ => absurd h (by omega), fun _ => rfl, by show 0 < 2; omega⟩
  | succ k ih =>
    obtain ⟨i1, i2, i3⟩ := ih
    have s01 : ∀ v, v < 2 → set1 v = 1 := by
      intro v hv
      unfold set1
      split <;> omega
    rw [rnS]
    by_cases hC : C k = true
    · rw [if_pos hC, hst]
      by_cases hk : c k < 10 ∧ t = wr (c k)
      · rw [if_pos hk, s01 _ i3]
        exact ⟨fun _ => rfl, fun h => absurd hk.2 (h k (by omega) hC hk.1), by omega⟩
      · rw [if_neg hk]
        refine ⟨fun ⟨j, h1, h2, h3, h4⟩ => i1 ⟨j, ?_, h2, h3, h4⟩, fun h => i2 (fun j hj => h j (by omega)), i3⟩
        by_cases hjk : j = k
        · subst hjk; exact absurd ⟨h3, h4⟩ hk
        · omega
    · rw [if_neg hC]
      refine ⟨fun ⟨j, h1, h2, h3, h4⟩ => i1 ⟨j, ?_, h2, h3, h4⟩, fun h => i2 (fun j hj => h j (by omega)), i3⟩
      by_cases hjk : j = k
      · subst hjk; exact absurd h2 hC
      · omega
/-- the second school: without rules -/
theorem two_at (hD : Dat n K A B M wr wm) (h : Cs n K A B M wr wm c μ) {v : Nat} (hv : 60 ≤ v) (t : Nat) : (wiB 1 K A B M wr wm c v t = leB 1 K A B M wr wm c v t) ↔ ¬ (t = wr 0 ∧ ¬ wr 1 = t) := by
  have hst : ∀ e w t, stS 1 K A B wr e w t = if e < 10 ∧ t = wr e then set1 (w t) else w t := by
    intro e w t
    show st1 wr e w t = _
    unfold st1
    by_cases he : e < 10
    · rw [if_pos he]
      unfold updN
      by_cases ht : t = wr e
      · rw [if_pos ht, if_pos ⟨he, ht⟩, ht]
      · rw [if_neg ht, if_neg (fun z => ht z.2)]
    · rw [if_neg he, if_neg (fun z => he z.1)]
  have hmn := fun k hk => cs_mn hD h (k := k) hk
  obtain ⟨o1, o2, o3⟩ := h.2.2.2.2
  obtain ⟨p0, p01, p02⟩ := o3 0 (Or.inl (by omega))
  obtain ⟨p1, p11, p12⟩ := o3 1 (Or.inl (by omega))
  have al : ∀ k, k < 16 → decide (mnC M wm (c k) ≤ v) = true := by
    intro k hk
    have := (hmn k hk).2.2.2.1
    exact decide_eq_true (by omega)
  have cc : ∀ k, k < 16 → c k < 10 → c k = 0 ∨ c k = 1 := by
    intro k hk h10
    rcases (hmn k hk).2.1 with z | z
    · omega
    · omega
  obtain ⟨w1, w2, -⟩ := st1_at (c := c) (wr := wr) (stS 1 K A B wr) hst (fun k => decide (mnC M wm (c k) ≤ v)) t 16
  obtain ⟨l1, l2, -⟩ := st1_at (c := c) (wr := wr) (stS 1 K A B wr) hst (fun k => decide (mnC M wm (c k) ≤ v) && !decide (c k = 0)) t 16
  unfold wiB leB
  by_cases t1 : t = wr 1
  · have a1 := w1 ⟨p1, p11, al p1 p11, by omega, by rw [p12]; exact t1⟩
    have a2 := l1 ⟨p1, p11, by rw [al p1 p11, p12]; rfl, by omega, by rw [p12]; exact t1⟩
    rw [a1, a2]
    exact ⟨fun _ z => z.2 t1.symm, fun _ => rfl⟩
  · have a2 := l2 (by
      intro j hj hC h10
      rcases cc j hj h10 with z | z
      · rw [z, Bool.and_eq_true] at hC
        exact absurd hC.2 (by decide)
      · rw [z]; exact t1)
    rw [a2]
    by_cases t0 : t = wr 0
    · have a1 := w1 ⟨p0, p01, al p0 p01, by omega, by rw [p02]; exact t0⟩
      rw [a1]
      exact ⟨fun z => absurd z (by omega), fun z => absurd ⟨t0, fun y => t1 y.symm⟩ z⟩
    · have a1 := w2 (by
        intro j hj hC h10
        rcases cc j hj h10 with z | z
        · rw [z]; exact t0
        · rw [z]; exact t1)
      rw [a1]
      exact ⟨fun _ z => t0 z.1, fun _ => rfl⟩
theorem q_reached (hD : Dat n K A B M wr wm) (h : Cs n K A B M wr wm c μ) {X0 : am_Mu} (hX0 : SB X0 μ) {t : Nat} (ht : t < n) : ∃ X', fB_reached 0 0 (nI t) X0 = some (rcB K A B wr c 16 t, X') ∧ SB X' μ := by
  obtain ⟨e1, e2, e3, e4⟩ := cs_nth hD h
  obtain ⟨X', x1, x2⟩ := a_reached h.1.2.1 (cs_g4 hD h) hX0 (i := 0) (s := 0) (th := t) (by omega) (by omega) (by omega)
  refine ⟨X', ?_, x2⟩
  rw [h.1.1, e2, rc_bits hD h 16 (Nat.le_refl _) t ht] at x1
  exact x1
theorem q_mend (hD : Dat n K A B M wr wm) (h : Cs n K A B M wr wm c μ) {X0 : am_Mu} (hX0 : SB X0 μ) {t : Nat} (ht : t < n) : ∃ X', fB_mend 0 0 (nI t) X0 = some ((if wiB 0 K A B M wr wm c 9000 t = leB 0 K A B M wr wm c 9000 t then 0 else if clr1 (wiB 0 K A B M wr wm c 9000 t) = leB 0 K A B M wr wm c 9000 t then 1 else -1), X') ∧ SB X' μ := by
  obtain ⟨e1, e2, e3, e4⟩ := cs_nth hD h
  obtain ⟨X', x1, x2⟩ := a_mend h.1.2.1 (cs_g4 hD h) (by rw [h.1.1]; decide) hX0 (i := 0) (s := 0) (th := t) (by omega) (by omega) (by omega)
  refine ⟨X', ?_, x2⟩
  have hA := rel_wi hD h 0 (v := 9000) (by omega)
  have hB := rel_le hD h 0 (v := 9000) (by omega)
  have e9 : (nI 9000 : Int32) = 9000 := rfl
  rw [e9] at hA hB
  have e0 : rsS 0 = rs40 := rfl
  rw [h.1.1, e2, e0, mn_bits hA hB ht] at x1
  exact x1
/-- the way back -/
def rcM (μ : am_Mu) : Nat → Int32 := rcR μ (Pv μ 0) 9000 9000 0 16
theorem q_way (hD : Dat n K A B M wr wm) (h : Cs n K A B M wr wm c μ) {X0 : am_Mu} (hX0 : SB X0 μ) {t m : Nat} (ht : t < n) (hm : m < 2 ^ 31) : ∃ X', fB_way 0 0 (nI t) (nI m) X0 = some ((if t = wr 0 ∨ ¬ rcB K A B wr c 16 t = -1 then (if m < (wayL μ (rcM μ) 0 t).length then nI ((wayL μ (rcM μ) 0 t).getD m 0) else -1) else -1), X') ∧ SB X' μ := by
  obtain ⟨e1, e2, e3, e4⟩ := cs_nth hD h
  have n6 := hD.2.1
  have d0 := (hD.2.2.2 0).1
  obtain ⟨X', x1, x2⟩ := a_way h.1.2.1 (cs_g4 hD h) hX0 (i := 0) (s := 0) (th := t) (m := m) (by omega) (by omega) (by omega) hm
  refine ⟨X', ?_, x2⟩
  rw [h.1.1, e2, show rcR μ (Pv μ 0) 9000 9000 0 16 = rcM μ from rfl] at x1
  have hr : rcM μ t = rcB K A B wr c 16 t := rc_bits hD h 16 (Nat.le_refl _) t ht
  have hw : μ 22 0 = nI (wr 0) := (h.2.2.1.2 0 (by omega)).1
  have hc : (nI t = μ 22 0 ∨ ¬ rcM μ t = -1) ↔ (t = wr 0 ∨ ¬ rcB K A B wr c 16 t = -1) := by
    rw [hw, hr, nI_inj (by omega) (by omega)]
  simp only [hc] at x1
  exact x1
end
