/-! E: the laws in force -/
def LPl (l : Nat) : Nat := if l = 0 then 28 else if l = 1 then 40 else if l = 2 then 34 else 46
def LX (L : Nat) (μ : am_Mu) (rs : List LR) : Prop := μ L 5 = nI rs.length ∧ (∀ r, r < rs.length → μ (L + 1) r = (rs.getD r dR).1 ∧ μ (L + 2) r = nI (flS (rs.take (r + 1))).length ∧ μ (L + 3) r = nI (flE (rs.take (r + 1))).length) ∧ RowIs (μ (L + 4)) (flS rs) ∧ RowIs (μ (L + 5)) (flE rs)
def LG (rs : List LR) : Prop := (∀ r, r ∈ rs → RG r) ∧ rs.length ≤ 24 ∧ (flS rs).length ≤ 240 ∧ (flE rs).length ≤ 96
def G3 (μ : am_Mu) : Prop := ∀ l, l < 4 → ∃ rs : List LR, LX (LPl l) μ rs ∧ LM l μ rs ∧ LG rs
theorem LX.cong {L : Nat} {μ μ' : am_Mu} {rs : List LR} (h : LX L μ rs) (e0 : μ' L 5 = μ L 5) (e1 : ∀ j, μ' (L + 1) j = μ (L + 1) j) (e2 : ∀ j, μ' (L + 2) j = μ (L + 2) j) (e3 : ∀ j, μ' (L + 3) j = μ (L + 3) j) (e4 : ∀ j, μ' (L + 4) j = μ (L + 4) j) (e5 : ∀ j, μ' (L + 5) j = μ (L + 5) j) : LX L μ' rs := by
  obtain ⟨h1, h2, h3, h4⟩ := h
  refine ⟨by rw [e0, h1], ?_, fun j hj => by rw [e4, h3 j hj], fun j hj => by rw [e5, h4 j hj]⟩
  intro r hr
  rw [e1, e2, e3]
  exact h2 r hr
theorem LM.cong {l : Nat} {μ μ' : am_Mu} {rs : List LR} (h : LM l μ rs) (hg : LG rs) (e0 : μ' 114 l = μ 114 l) (e1 : ∀ a i, 115 ≤ a → a ≤ 118 → 24 * l ≤ i → i < 24 * l + 24 → μ' a i = μ a i) (e2 : ∀ i, 96 * l ≤ i → i < 96 * l + 96 → μ' 119 i = μ 119 i) (e3 : ∀ a i, 120 ≤ a → a ≤ 122 → 240 * l ≤ i → i < 240 * l + 240 → μ' a i = μ a i) : LM l μ' rs := by
  obtain ⟨h1, h2, h3⟩ := h
  obtain ⟨g1, g2, g3, g4⟩ := hg
  refine ⟨by rw [e0, h1], ?_, ?_⟩
  · intro r hr
    obtain ⟨a1, a2, a3, a4, a5⟩ := h2 r hr
    refine ⟨by rw [e1 115 _ (by omega) (by omega) (by omega) (by omega), a1], by rw [e1 116 _ (by omega) (by omega) (by omega) (by omega), a2], by rw [e1 117 _ (by omega) (by omega) (by omega) (by omega), a3], by rw [e1 118 _ (by omega) (by omega) (by omega) (by omega), a4], ?_⟩
    intro j hj
    have := (g1 _ (getD_mem (d := dR) hr)).2.2.2.2.1
    rw [e2 _ (by omega) (by omega), a5 j hj]
  · intro i hi
    rw [e3 120 _ (by omega) (by omega) (by omega) (by omega), e3 121 _ (by omega) (by omega) (by omega) (by omega), e3 122 _ (by omega) (by omega) (by omega) (by omega)]
    exact h3 i hi
def foot3 : List (Nat × Nat) := [(28, 5), (29, 999), (30, 999), (31, 999), (32, 999), (33, 999), (34, 5), (35, 999), (36, 999), (37, 999), (38, 999), (39, 999), (40, 5), (41, 999), (42, 999), (43, 999), (44, 999), (45, 999), (46, 5), (47, 999), (48, 999), (49, 999), (50, 999), (51, 999), (114, 999), (115, 999), (116, 999), (117, 999), (118, 999), (119, 999), (120, 999), (121, 999), (122, 999)]
theorem G3.fr {μ μ' : am_Mu} (h : am_ag foot3 μ μ') (g : G3 μ) : G3 μ' := by
  have c28 : μ' 28 5 = μ 28 5 := h.2 (28, 5) (by decide) (by decide)
  have r29 : μ' 29 = μ 29 := h.1 (29, 999) (by decide) rfl
  have r30 : μ' 30 = μ 30 := h.1 (30, 999) (by decide) rfl
  have r31 : μ' 31 = μ 31 := h.1 (31, 999) (by decide) rfl
  have r32 : μ' 32 = μ 32 := h.1 (32, 999) (by decide) rfl
  have r33 : μ' 33 = μ 33 := h.1 (33, 999) (by decide) rfl
  have c34 : μ' 34 5 = μ 34 5 := h.2 (34, 5) (by decide) (by decide)
  have r35 : μ' 35 = μ 35 := h.1 (35, 999) (by decide) rfl
  have r36 : μ' 36 = μ 36 := h.1 (36, 999) (by decide) rfl
  have r37 : μ' 37 = μ 37 := h.1 (37, 999) (by decide) rfl
  have r38 : μ' 38 = μ 38 := h.1 (38, 999) (by decide) rfl
  have r39 : μ' 39 = μ 39 := h.1 (39, 999) (by decide) rfl
  have c40 : μ' 40 5 = μ 40 5 := h.2 (40, 5) (by decide) (by decide)
  have r41 : μ' 41 = μ 41 := h.1 (41, 999) (by decide) rfl
  have r42 : μ' 42 = μ 42 := h.1 (42, 999) (by decide) rfl
  have r43 : μ' 43 = μ 43 := h.1 (43, 999) (by decide) rfl
  have r44 : μ' 44 = μ 44 := h.1 (44, 999) (by decide) rfl
  have r45 : μ' 45 = μ 45 := h.1 (45, 999) (by decide) rfl
  have c46 : μ' 46 5 = μ 46 5 := h.2 (46, 5) (by decide) (by decide)
  have r47 : μ' 47 = μ 47 := h.1 (47, 999) (by decide) rfl
  have r48 : μ' 48 = μ 48 := h.1 (48, 999) (by decide) rfl
  have r49 : μ' 49 = μ 49 := h.1 (49, 999) (by decide) rfl
  have r50 : μ' 50 = μ 50 := h.1 (50, 999) (by decide) rfl
  have r51 : μ' 51 = μ 51 := h.1 (51, 999) (by decide) rfl
  have r114 : μ' 114 = μ 114 := h.1 (114, 999) (by decide) rfl
  have r115 : μ' 115 = μ 115 := h.1 (115, 999) (by decide) rfl
  have r116 : μ' 116 = μ 116 := h.1 (116, 999) (by decide) rfl
  have r117 : μ' 117 = μ 117 := h.1 (117, 999) (by decide) rfl
  have r118 : μ' 118 = μ 118 := h.1 (118, 999) (by decide) rfl
  have r119 : μ' 119 = μ 119 := h.1 (119, 999) (by decide) rfl
  have r120 : μ' 120 = μ 120 := h.1 (120, 999) (by decide) rfl
  have r121 : μ' 121 = μ 121 := h.1 (121, 999) (by decide) rfl
  have r122 : μ' 122 = μ 122 := h.1 (122, 999) (by decide) rfl
  intro l hl
  obtain ⟨rs, g1, g2, g3⟩ := g l hl
  refine ⟨rs, ?_, ?_, g3⟩
  · have key : (l = 0 ∧ LPl l = 28) ∨ (l = 1 ∧ LPl l = 40) ∨ (l = 2 ∧ LPl l = 34) ∨ (l = 3 ∧ LPl l = 46) := by
      have : l = 0 ∨ l = 1 ∨ l = 2 ∨ l = 3 := by omega
      rcases this with rfl | rfl | rfl | rfl <;> simp [LPl]
    rcases key with ⟨-, e⟩ | ⟨-, e⟩ | ⟨-, e⟩ | ⟨-, e⟩
    · rw [e] at g1 ⊢
      exact g1.cong c28 (fun j => by rw [r29]) (fun j => by rw [r30]) (fun j => by rw [r31]) (fun j => by rw [r32]) (fun j => by rw [r33])
    · rw [e] at g1 ⊢
      exact g1.cong c40 (fun j => by rw [r41]) (fun j => by rw [r42]) (fun j => by rw [r43]) (fun j => by rw [r44]) (fun j => by rw [r45])
    · rw [e] at g1 ⊢
      exact g1.cong c34 (fun j => by rw [r35]) (fun j => by rw [r36]) (fun j => by rw [r37]) (fun j => by rw [r38]) (fun j => by rw [r39])
    · rw [e] at g1 ⊢
      exact g1.cong c46 (fun j => by rw [r47]) (fun j => by rw [r48]) (fun j => by rw [r49]) (fun j => by rw [r50]) (fun j => by rw [r51])
  · refine g2.cong g3 (by rw [r114]) ?_ (fun i _ _ => by rw [r119]) ?_
    · intro a i h1 h2 _ _
      have : a = 115 ∨ a = 116 ∨ a = 117 ∨ a = 118 := by omega
      rcases this with rfl | rfl | rfl | rfl
      · rw [r115]
      · rw [r116]
      · rw [r117]
      · rw [r118]
    · intro a i h1 h2 _ _
      have : a = 120 ∨ a = 121 ∨ a = 122 := by omega
      rcases this with rfl | rfl | rfl
      · rw [r120]
      · rw [r121]
      · rw [r122]
theorem G3.fr1 {l : List (Nat × Nat)} {μ μ1 : am_Mu} (h : am_fr l μ μ1) (d : am_dis l foot3 = true) (g : G3 μ) : G3 μ1 := G3.fr (h.ag d) g
theorem G3.fr2 {l l2 : List (Nat × Nat)} {μ μ1 μ2 : am_Mu} (h : am_fr l μ μ1) (h2 : am_fr l2 μ1 μ2) (d : am_dis l foot3 = true) (d2 : am_dis l2 foot3 = true) (g : G3 μ) : G3 μ2 := G3.fr ((h.ag d).trans (h2.ag d2)) g
/-! a law becomes the one that was read -/
theorem cpy0 {f g : Nat → Int32} {n j : Nat} (h : j < n) : va_cpy f g 0 0 n j = f j := by
  unfold va_cpy
  rw [if_pos ⟨Nat.zero_le _, by omega⟩, Nat.zero_add, Nat.sub_zero]
theorem become_all {L : Nat} (hL : L = 28 ∨ L = 34 ∨ L = 40 ∨ L = 46) (μ : am_Mu) : ∃ μ', fLaw_become L 7 μ = some μ' ∧ μ' L 5 = μ 7 5 ∧ (∀ j, j < 24 → μ' (L + 1) j = μ 8 j) ∧ (∀ j, j < 24 → μ' (L + 2) j = μ 9 j) ∧ (∀ j, j < 24 → μ' (L + 3) j = μ 10 j) ∧ (∀ j, j < 240 → μ' (L + 4) j = μ 11 j) ∧ ∀ j, j < 96 → μ' (L + 5) j = μ 12 j := by
  rcases hL with rfl | rfl | rfl | rfl
  · refine ⟨_, rfl, rfl, ?_, ?_, ?_, ?_, ?_⟩
    · intro j hj
      exact (show _ = va_cpy (μ 8) (μ 29) 0 0 24 j from rfl).trans (cpy0 hj)
    · intro j hj
      exact (show _ = va_cpy (μ 9) (μ 30) 0 0 24 j from rfl).trans (cpy0 hj)
    · intro j hj
      exact (show _ = va_cpy (μ 10) (μ 31) 0 0 24 j from rfl).trans (cpy0 hj)
    · intro j hj
      exact (show _ = va_cpy (μ 11) (μ 32) 0 0 240 j from rfl).trans (cpy0 hj)
    · intro j hj
      exact (show _ = va_cpy (μ 12) (μ 33) 0 0 96 j from rfl).trans (cpy0 hj)
  · refine ⟨_, rfl, rfl, ?_, ?_, ?_, ?_, ?_⟩
    · intro j hj
      exact (show _ = va_cpy (μ 8) (μ 35) 0 0 24 j from rfl).trans (cpy0 hj)
    · intro j hj
      exact (show _ = va_cpy (μ 9) (μ 36) 0 0 24 j from rfl).trans (cpy0 hj)
    · intro j hj
      exact (show _ = va_cpy (μ 10) (μ 37) 0 0 24 j from rfl).trans (cpy0 hj)
    · intro j hj
      exact (show _ = va_cpy (μ 11) (μ 38) 0 0 240 j from rfl).trans (cpy0 hj)
    · intro j hj
      exact (show _ = va_cpy (μ 12) (μ 39) 0 0 96 j from rfl).trans (cpy0 hj)
  · refine ⟨_, rfl, rfl, ?_, ?_, ?_, ?_, ?_⟩
    · intro j hj
      exact (show _ = va_cpy (μ 8) (μ 41) 0 0 24 j from rfl).trans (cpy0 hj)
    · intro j hj
      exact (show _ = va_cpy (μ 9) (μ 42) 0 0 24 j from rfl).trans (cpy0 hj)
    · intro j hj
      exact (show _ = va_cpy (μ 10) (μ 43) 0 0 24 j from rfl).trans (cpy0 hj)
    · intro j hj
      exact (show _ = va_cpy (μ 11) (μ 44) 0 0 240 j from rfl).trans (cpy0 hj)
    · intro j hj
      exact (show _ = va_cpy (μ 12) (μ 45) 0 0 96 j from rfl).trans (cpy0 hj)
  · refine ⟨_, rfl, rfl, ?_, ?_, ?_, ?_, ?_⟩
    · intro j hj
      exact (show _ = va_cpy (μ 8) (μ 47) 0 0 24 j from rfl).trans (cpy0 hj)
    · intro j hj
      exact (show _ = va_cpy (μ 9) (μ 48) 0 0 24 j from rfl).trans (cpy0 hj)
    · intro j hj
      exact (show _ = va_cpy (μ 10) (μ 49) 0 0 24 j from rfl).trans (cpy0 hj)
    · intro j hj
      exact (show _ = va_cpy (μ 11) (μ 50) 0 0 240 j from rfl).trans (cpy0 hj)
    · intro j hj
      exact (show _ = va_cpy (μ 12) (μ 51) 0 0 96 j from rfl).trans (cpy0 hj)
theorem LX_become {L : Nat} (hL : L = 28 ∨ L = 34 ∨ L = 40 ∨ L = 46) {μ : am_Mu} {rs : List LR} (h : LX0 μ rs) (hg : LG rs) : ∃ μ', fLaw_become L 7 μ = some μ' ∧ LX L μ' rs := by
  obtain ⟨μ', e1, e2, e3, e4, e5, e6, e7⟩ := become_all hL μ
  obtain ⟨⟨h1, h2, h3, h4⟩, h5, h6⟩ := h
  obtain ⟨g1, g2, g3, g4⟩ := hg
  refine ⟨μ', e1, by rw [e2, h1], ?_, fun j hj => by rw [e6 j (by omega), h6 j hj], fun j hj => by rw [e7 j (by omega), h4 j hj]⟩
  intro r hr
  rw [e3 r (by omega), e4 r (by omega), e5 r (by omega)]
  exact h2 r hr
