/-! E: the tour: both sides -/
def ksL (L : List Nat) (i : Nat) : Nat := L.getD i 0
theorem ksL_mem {L : List Nat} {i : Nat} (h : i < L.length) : ksL L i ∈ L := by
  unfold ksL
  simp only [List.getD_eq_getElem?_getD, List.getElem?_eq_getElem h, Option.getD_some]
  exact List.getElem_mem _
theorem ksL_inc {L : List Nat} (hp : L.Pairwise (· < ·)) {i j : Nat} (h : i < j) (hj : j < L.length) : ksL L i < ksL L j := by
  unfold ksL
  simp only [List.getD_eq_getElem?_getD, List.getElem?_eq_getElem hj, List.getElem?_eq_getElem (show i < L.length by omega), Option.getD_some]
  exact List.pairwise_iff_getElem.mp hp i j (by omega) hj h
theorem tour_set {μ : am_Mu} (g10 : G10 μ) {D a : Int32} (ha : 0 ≤ a) {nK m : Nat} (hK : μ 76 8 = nI nK) (hK8 : nK ≤ 8) (hm : ∀ k, k < 8 → (hasB m k ↔ todB μ D a k)) : SetR (ksL (tdL μ D a nK)) (tdL μ D a nK).length m (2 ^ (tdL μ D a nK).length - 1) := by
  have ln := tdL_len μ D a nK
  have hn : (tdL μ D a nK).length ≤ 8 := by omega
  have hpos : 0 < 2 ^ (tdL μ D a nK).length := Nat.pow_pos (by decide)
  refine ⟨?_, ?_, ?_⟩
  · intro k hk hs
    have ht := (hm k hk).mp hs
    have hkK : k < nK := by
      by_cases h : k < nK
      · exact h
      · have e := g10 k (by rw [hK, nI_clamp (by omega)]; omega) hk
        rw [ht.1] at e
        rw [e] at ha
        exact absurd ha (by decide)
    obtain ⟨i, hi, e⟩ := List.getElem_of_mem ((tdL_mem (μ := μ) (D := D) (a := a) (x := k) nK).mpr ⟨hkK, ht⟩)
    refine ⟨i, hi, ?_, (full8 hn (by omega)).mpr hi⟩
    unfold ksL
    simp only [List.getD_eq_getElem?_getD, List.getElem?_eq_getElem hi, Option.getD_some]
    exact e
  · intro i hi hs
    obtain ⟨h1, h2⟩ := (tdL_mem nK).mp (ksL_mem hi)
    exact (hm _ (by omega)).mpr h2
  · intro i hi hs
    exact (full8 hn hi).mp hs
theorem m_tours {μ β : am_Mu} (g5 : G5 μ) (g8 : G8 μ) (mv : MV β μ) (e154 : β 154 = μ 154) (e155 : β 155 = μ 155) {D a : Int32} (hD : μ 108 2 / 1440 = D) (ha : 0 ≤ a) {nK : Nat} (hK : μ 76 8 = nI nK) (hK8 : nK ≤ 8) : ∃ ν', fM_tours a β = some ν' ∧ ν' 108 88 = nI (tdL μ D a nK).length ∧ (∀ i, i < (tdL μ D a nK).length → ν' 173 i = nI (ksL (tdL μ D a nK) i)) ∧ (∀ k, k < 8 → ν' 154 k = μ 79 k) ∧ (∀ k, k < 8 → ν' 155 k = μ 80 k) ∧ MstP (fun i j => dK μ (ksL (tdL μ D a nK) i) (ksL (tdL μ D a nK) j)) ν' (2 ^ (tdL μ D a nK).length) := by
  have ln := tdL_len μ D a nK
  have hn : (tdL μ D a nK).length ≤ 8 := by omega
  have hT2 := p2_le hn
  have hpos : 0 < 2 ^ (tdL μ D a nK).length := Nat.pow_pos (by decide)
  obtain ⟨-, -, -, h4, -⟩ := id g5
  obtain ⟨ν, s1, s2, s3, s4⟩ := m_stops g5 g8 mv hD ha hK hK8 nK 0 am_F (am_up β 108 88 0) (by omega) (by unfold am_F; omega) (by
    refine ⟨?_, ?_⟩
    · intro a h1 h2
      funext j
      simp only [upa]
      grind
    · intro j hj
      simp only [upa]
      grind) (fun j hj => absurd hj (by unfold tdL; simp)) (by simp only [upa]; rfl)
  have r173 : ∀ i, i < (tdL μ D a nK).length → ν 173 i = nI (ksL (tdL μ D a nK) i) := by
    intro i hi
    rw [s3 i (by rw [List.length_map]; exact hi)]
    unfold ksL
    simp only [List.getD_eq_getElem?_getD, List.getElem?_map, List.getElem?_eq_getElem hi, Option.getD_some, Option.map_some]
  have hk : ∀ i, i < (tdL μ D a nK).length → ksL (tdL μ D a nK) i < 8 := by
    intro i hi
    have := ((tdL_mem nK).mp (ksL_mem hi)).1
    omega
  have r154 : ∀ k, k < 8 → ν 154 k = μ 79 k := by
    intro k hk
    rw [s2.1 154 (by decide) (by decide), e154]
    exact (h4 k hk).2.2.1.1
  have r155 : ∀ k, k < 8 → ν 155 k = μ 80 k := by
    intro k hk
    rw [s2.1 155 (by decide) (by decide), e155]
    exact (h4 k hk).2.2.2.1
  obtain ⟨ν', t1, t2, t3⟩ := m_sets (ks := ksL (tdL μ D a nK)) hn (β := ν) (μ := μ) r173 hk r154 r155 s4 (2 ^ (tdL μ D a nK).length - 1) 1 am_F ν (by omega) (by unfold am_F; omega) (fun _ _ => rfl) (by
    intro R hR i hi hb
    have h0 : R = 0 := by omega
    subst h0
    exact absurd hb (by rw [hasB, Nat.zero_div]; decide))
  refine ⟨ν', ?_, by rw [t2 108 (by decide)]; exact s4, by rw [t2 173 (by decide)]; exact r173, by rw [t2 154 (by decide)]; exact r154, by rw [t2 155 (by decide)]; exact r155, t3⟩
  unfold fM_tours
  change fM_tours_7 am_F a 0 (am_up β 108 88 0) = _ at s1
  rw [s1]
  unfold fM_tours_82
  exact t1
