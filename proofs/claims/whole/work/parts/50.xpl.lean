/-! E: the tour, the class, whole -/
theorem sub_le {S F : Nat} (hS : S < 256) (hF : F < 256) (h : subB S F) : S ≤ F := by
  have h1 : nI S &&& (nI F ^^^ (-1)) = 0 := (sub8 hS hF).mpr h
  have h2 : S &&& (255 - F) = 0 := by
    have e1 : nI S &&& (nI F ^^^ (-1)) = nI (S &&& (255 - F)) := by
      rw [← nI_and, ← s8B ⟨F, hF⟩, ← Int32.and_assoc, s8A ⟨S, hS⟩]
    have hx : S &&& (255 - F) ≤ S := Nat.and_le_left
    rw [e1, show (0 : Int32) = nI 0 from rfl, nI_inj (by omega) (by omega)] at h1
    exact h1
  have h3 : S &&& F = S := by
    refine Nat.eq_of_testBit_eq ?_
    intro p
    rw [Nat.testBit_and]
    cases hq : S.testBit p with
    | false => rfl
    | true =>
      rw [Bool.true_and]
      have hb' : ∀ x p, hasB x p ↔ x.testBit p = true := by
        intro x p
        rw [Nat.testBit_eq_decide_div_mod_eq]
        simp
      by_cases hp : p < 8
      · exact (hb' F p).mp (h p hp ((hb' S p).mpr hq))
      · rw [Nat.testBit_lt_two_pow (Nat.lt_of_lt_of_le hS (Nat.pow_le_pow_right (n := 2) (i := 8) (by decide) (by omega)))] at hq
        exact absurd hq (by decide)
  rw [← h3]
  exact Nat.and_le_right
def FrT (ν μ : am_Mu) : Prop := (∀ a, ¬ a = 82 → ¬ a = 83 → ¬ a = 76 → ν a = μ a) ∧ ∀ j, ¬ j = 7 → ν 76 j = μ 76 j
theorem x_tour0 {μ : am_Mu} : fKitchens_planTour (nI 0) μ = some (-1, am_up μ 76 7 0) := by
  unfold fKitchens_planTour
  rw [l_isIn, Option.bind_some, b2i_f (by decide)]
  dsimp only
  rw [if_neg (by decide)]
theorem x_tour {μ : am_Mu} {F : Nat} (hF0 : 1 ≤ F) (hF : F < 256) : ∃ b ν', nearB (fun j => wW (dK μ) F j) F 8 = some b ∧ fKitchens_planTour (nI F) μ = some (wW (dK μ) F b, ν') ∧ FrT ν' μ ∧ RowIs (ν' 83) ((wlk (dK μ) 8 F (some b)).map nI) ∧ ν' 76 7 = nI (wlk (dK μ) 8 F (some b)).length := by
  have d0 : dK (am_up μ 76 7 0) = dK μ := by
    funext a b
    simp [dK, upa]
  obtain ⟨ν, p1, p2, p3⟩ := x_plan (μ := am_up μ 76 7 0) hF F 1 am_F (am_up μ 76 7 0) (by omega) (by omega) (by unfold am_F; omega) (fun _ _ => rfl) (by
    intro T hT hs k hk hb
    have h0 : T = 0 := by omega
    subst h0
    exact absurd hb (by rw [hasB, Nat.zero_div]; decide))
  rw [d0] at p3
  have hin : 0 ≤ nI F - 1 ∧ nI F - 1 < 255 := by
    have e : nI F - 1 = nI (F - 1) := by
      have : nI F = nI (F - 1) + nI 1 := by rw [nI_plus, Nat.sub_add_cancel hF0]
      rw [this]
      show nI (F - 1) + 1 - 1 = _
      grind
    rw [e]
    exact ⟨nI_pos' (by omega), (nI_lt_iff (b := 255) (by omega) (by omega)).mpr (by omega)⟩
  have dν : ∀ k j, dK ν k j = dK μ k j := by
    intro k j
    have := congrFun (congrFun d0 k) j
    rw [← this]
    simp only [dK, p2 79 (by decide), p2 80 (by decide)]
  have xn := x_near (μ := ν) (p := none) (fun k h => by cases h) hF
  have sF : subB F F := fun _ _ h => h
  have en : nearB (fun j => dP ν none j + ν 82 (8 * F + j)) F 8 = nearB (fun j => wW (dK μ) F j) F 8 := by
    refine near_congr ?_
    intro j hj hb
    rw [p3 F (by omega) sF j hj hb]
    show 0 + _ = _
    grind
  have np := near_p (fun j => wW (dK μ) F j) F 8
  cases hq : nearB (fun j => wW (dK μ) F j) F 8 with
  | none =>
    rw [hq] at np
    exfalso
    have hc := sub_le hF (show 0 < 256 by omega) (fun p hp hb => absurd hb (np p hp))
    omega
  | some b =>
    rw [hq] at np
    have hb8 := np.1
    have lv := l_via (μ := ν) (p := none) (fun k h => by cases h) hb8 hF
    rw [show pv none = -1 from rfl] at lv xn
    obtain ⟨ν', w1, w2, w3, w4⟩ := x_walk (μ := am_up ν 76 7 0) (d := dK μ) (F := F) (a4 := wW (dK μ) F b) (by
      intro k j
      rw [← dν k j]
      simp [dK, upa]) hF (by
      intro T hT hs k hk hb
      have := p3 T hT hs k hk hb
      simpa [upa] using this) (fun S h1 h2 => sub_le h1 hF h2) 8 am_F ν [] F (some b) rfl (by unfold am_F; omega) hF sF (by
      intro k hk
      cases hk
      exact ⟨hb8, np.2.1⟩) (by
      have e7 : ν 76 7 = 0 := by rw [p2 76 (by decide)]; simp [upa]
      refine ⟨?_, ?_⟩
      · intro a h1 h2
        funext j
        simp only [upa]
        grind
      · intro j hj
        simp only [upa]
        grind) (fun j hj => absurd hj (by simp)) (by rw [p2 76 (by decide)]; simp [upa]; rfl)
    refine ⟨b, ν', rfl, ?_, ?_, ?_, ?_⟩
    · unfold fKitchens_planTour
      rw [l_isIn, Option.bind_some, b2i_t hin]
      dsimp only
      rw [if_pos (by decide)]
      rw [show (1 : Int32) = nI 1 from rfl, p1]
      unfold fKitchens_planTour_45 fKitchens_walkTour
      rw [xn, Option.bind_some, en, hq]
      dsimp only
      rw [show pv (some b) = nI b from rfl, lv, Option.bind_some]
      dsimp only
      have ev : dP ν none b + ν 82 (8 * F + b) = wW (dK μ) F b := by
        rw [p3 F (by omega) sF b hb8 np.2.1]
        show 0 + _ = _
        grind
      rw [ev]
      change fKitchens_walkTour_21 am_F (nI F) (nI b) (wW (dK μ) F b) 0 ν = _ at w1
      rw [w1, Option.bind_some]
    · refine ⟨?_, ?_⟩
      · intro a h1 h2 h3
        rw [w2.1 a h2 h3]
        funext j
        have := congrFun (p2 a h1) j
        simp only [upa] at this ⊢
        grind
      · intro j hj
        rw [w2.2 j hj]
        have := congrFun (p2 76 (by decide)) j
        simp only [upa] at this ⊢
        grind
    · simpa using w3
    · simpa using w4
