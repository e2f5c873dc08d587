/-! E: leads and reached -/
theorem m_rc109 {μ : am_Mu} (g4 : G4 μ) {i s k : Nat} (hi : i < (μ 13 16).toNatClampNeg) {A B : Wd} {k35 : Int32 → Int32 → Int32 → am_Mu → Option am_Mu} {f : Int32} (hf : f < 1000) : ∀ q j n (Y : am_Mu), j + q = nTh μ → q < n → SB Y μ → MW (8 * nTh μ) 0 Y A → MW (8 * nTh μ) 1 Y B → ∃ Y', fM_reaches_109 n k35 (nI i) (nI s) (nI k) f (nI j) Y = k35 (nI i) (nI s) (nI (k + 1)) Y' ∧ (∀ a, ¬ a = 151 → Y' a = Y a) ∧ ∀ th, Y' 151 th = if (j ≤ th ∧ th < nTh μ) ∧ Y 151 th = -1 ∧ ¬ nI th = μ 22 i ∧ 0 < odv A B 8 (8 * th) 0 then f else Y 151 th := by
  have t20 : nTh μ ≤ 20 := nt_le (b := 20) g4.1.1 g4.1.2.1
  have en : μ 13 14 = nI (nTh μ) := (nI_nt g4.1.1).symm
  have e4 := g4.1.2.2.1
  have m10 : (μ 13 16).toNatClampNeg ≤ 10 := nt_le (b := 10) g4.2.2.1.1 g4.2.2.1.2.1
  have e139 := (g4.2.2.1.2.2.2 i hi).1.1
  have ek : nI k + 1 = nI (k + 1) := nI_plus _ 1
  intro q
  induction q with
  | zero =>
    intro j n Y hj hn hY hA hB
    obtain ⟨n, rfl⟩ : ∃ k, n = k + 1 := ⟨n - 1, by omega⟩
    refine ⟨Y, ?_, fun _ _ => rfl, fun th => by rw [if_neg (by omega)]⟩
    rw [fM_reaches_109, if_pos (by rw [hY 108 (by omega), e4, en]; exact (nI_le_iff (by omega) (by omega)).mpr (by omega))]
    unfold fM_reaches_172
    rw [ek]
  | succ q ih =>
    intro j n Y hj hn hY hA hB
    obtain ⟨n, rfl⟩ : ∃ k, n = k + 1 := ⟨n - 1, by omega⟩
    have nxt : ∀ Y1 : am_Mu, (∀ a, ¬ a = 151 → Y1 a = Y a) → (∀ th, Y1 151 th = if th = j ∧ Y 151 j = -1 ∧ ¬ nI j = μ 22 i ∧ 0 < odv A B 8 (8 * j) 0 then f else Y 151 th) → ∃ Y', fM_reaches_166 k35 (fM_reaches_109 n k35) (nI i) (nI s) (nI k) f (nI j) Y1 = k35 (nI i) (nI s) (nI (k + 1)) Y' ∧ (∀ a, ¬ a = 151 → Y' a = Y a) ∧ ∀ th, Y' 151 th = if (j ≤ th ∧ th < nTh μ) ∧ Y 151 th = -1 ∧ ¬ nI th = μ 22 i ∧ 0 < odv A B 8 (8 * th) 0 then f else Y 151 th := by
      intro Y1 q1 q2
      unfold fM_reaches_166
      rw [show nI j + 1 = nI (j + 1) from nI_plus _ 1]
      obtain ⟨Y', i1, i2, i3⟩ := ih (j + 1) n Y1 (by omega) (by omega) (fun a ha => by rw [q1 a (by omega)]; exact hY a ha) (hA.cong (q1 _ (by omega)) (q1 _ (by omega)) (q1 _ (by omega))) (hB.cong (q1 _ (by omega)) (q1 _ (by omega)) (q1 _ (by omega)))
      refine ⟨Y', i1, fun a ha => by rw [i2 a ha, q1 a ha], ?_⟩
      intro th
      by_cases hth : th = j
      · rw [i3, if_neg (show ¬ ((j + 1 ≤ th ∧ th < nTh μ) ∧ _) from fun z => by have := z.1.1; omega), q2, hth]
        by_cases hq : Y 151 j = -1 ∧ ¬ nI j = μ 22 i ∧ 0 < odv A B 8 (8 * j) 0
        · rw [if_pos ⟨rfl, hq⟩, if_pos ⟨⟨Nat.le_refl _, by omega⟩, hq⟩]
        · rw [if_neg (fun z => hq z.2), if_neg (fun z => hq z.2)]
      · have e5 : Y1 151 th = Y 151 th := by rw [q2, if_neg (fun z => hth z.1)]
        rw [i3, e5]
        by_cases hq : (j ≤ th ∧ th < nTh μ) ∧ Y 151 th = -1 ∧ ¬ nI th = μ 22 i ∧ 0 < odv A B 8 (8 * th) 0
        · rw [if_pos hq, if_pos ⟨⟨by omega, hq.1.2⟩, hq.2⟩]
        · rw [if_neg hq, if_neg (fun z => hq ⟨⟨by omega, z.1.2⟩, z.2⟩)]
    have skip : ¬ (Y 151 j = -1 ∧ ¬ nI j = μ 22 i ∧ 0 < odv A B 8 (8 * j) 0) → ∃ Y', fM_reaches_166 k35 (fM_reaches_109 n k35) (nI i) (nI s) (nI k) f (nI j) Y = k35 (nI i) (nI s) (nI (k + 1)) Y' ∧ (∀ a, ¬ a = 151 → Y' a = Y a) ∧ ∀ th, Y' 151 th = if (j ≤ th ∧ th < nTh μ) ∧ Y 151 th = -1 ∧ ¬ nI th = μ 22 i ∧ 0 < odv A B 8 (8 * th) 0 then f else Y 151 th := by
      intro hq
      exact nxt Y (fun _ _ => rfl) (fun th => by rw [if_neg (fun z => hq z.2)])
    rw [fM_reaches_109, if_neg (by rw [hY 108 (by omega), e4, en, nI_le_iff (by omega) (by omega)]; omega), if_neg (Int32.not_le.mpr hf), inb_n (by omega) (by omega), cond_true, nI_clamp (by omega)]
    by_cases h1 : Y 151 j = -1
    · rw [if_neg (by simpa using h1), inb_n (by omega) (by omega), cond_true, nI_clamp (by omega)]
      by_cases h2 : nI j = μ 22 i
      · rw [if_pos (by rw [hY 139 (by omega), e139]; exact h2)]
        exact skip (fun z => z.2.1 h2)
      · rw [if_neg (by rw [hY 139 (by omega), e139]; exact h2), m_oth (show 8 * nTh μ ≤ 160 by omega) (by omega) hA hB, Option.bind_some]
        dsimp only
        by_cases h3 : odv A B 8 (8 * j) 0 ≤ 0
        · rw [if_pos h3]
          exact skip (fun z => absurd z.2.2 (Int32.not_lt.mpr h3))
        · rw [if_neg h3]
          refine nxt _ (fun a ha => up_row ha) (fun th => ?_)
          rw [up_at]
          by_cases hth : th = j
          · rw [if_pos hth, if_pos ⟨hth, h1, h2, Int32.not_le.mp h3⟩]
          · rw [if_neg hth, if_neg (fun z => hth z.1)]
    · rw [if_pos h1]
      exact skip (fun z => h1 z.1)
theorem rcR_stop {μ : am_Mu} {P : Nat → Wd → Wd} {v t : Int32} {i k : Nat} : ∀ j, (∀ x, k ≤ x → x < k + j → cnd μ v t x = false) → ∀ th, rcR μ P v t i (k + j) th = rcR μ P v t i k th := by
  intro j
  induction j with
  | zero => exact fun _ _ => rfl
  | succ j ih =>
    intro h th
    rw [← Nat.add_assoc, rcR]
    dsimp only
    rw [if_neg (fun z => by rw [h (k + j) (by omega) (by omega)] at z; exact absurd z.1 (by decide))]
    exact ih (fun x h1 h2 => h x h1 (by omega)) th
theorem m_rcL {μ : am_Mu} (g0 : G0 μ) (g4 : G4 μ) {s : Nat} {P : Nat → Wd → Wd} (hP : PlayAll μ s P) {i : Nat} (hi : i < (μ 13 16).toNatClampNeg) : ∀ q k n (Y : am_Mu), k + q = nEv μ → q < n → SB Y μ → MW (8 * nTh μ) 0 Y (wdA μ P (μ 0 11) (μ 0 11) k) → MW (8 * nTh μ) 1 Y (wdB μ P (μ 0 11) (μ 0 11) i k) → (∀ th, th < nTh μ → Y 151 th = rcR μ P (μ 0 11) (μ 0 11) i k th) → ∃ Y', fM_reaches_35 n (nI i) (nI s) (nI k) Y = some Y' ∧ SB Y' μ ∧ ∀ th, th < nTh μ → Y' 151 th = rcR μ P (μ 0 11) (μ 0 11) i (nEv μ) th := by
  obtain ⟨hN, eN⟩ := evN_n g4
  have t20 : nTh μ ≤ 20 := nt_le (b := 20) g4.1.1 g4.1.2.1
  have e55 : μ 108 55 = μ 13 13 := g4.2.2.2.2.1
  have hsort := g4.2.2.2.2.2.2
  have m10 : (μ 13 16).toNatClampNeg ≤ 10 := nt_le (b := 10) g4.2.2.1.1 g4.2.2.1.2.1
  have hi10 : i < 10 := by omega
  have e1000 : (1000 : Int32) + nI i = nI (1000 + i) := nI_plus 1000 i
  intro q
  induction q with
  | zero =>
    intro k n Y hk hn hY hA hB hR
    obtain ⟨n, rfl⟩ : ∃ k, n = k + 1 := ⟨n - 1, by omega⟩
    have : k = nEv μ := by omega
    subst this
    refine ⟨Y, ?_, hY, hR⟩
    rw [fM_reaches_35, if_pos (by rw [hY 108 (by omega), e55, eN]; exact Int32.le_refl _)]
  | succ q ih =>
    intro k n Y hk hn hY hA hB hR
    obtain ⟨n, rfl⟩ : ∃ k, n = k + 1 := ⟨n - 1, by omega⟩
    have hkN : k < nEv μ := by omega
    have hef := ev_rel g4 hkN
    have gA := runW_g hP (C := cnd μ (μ 0 11) (μ 0 11)) (wd0_g μ (8 * nTh μ)) k (by omega)
    have gB := runW_g hP (C := cndW μ (μ 0 11) (μ 0 11) (nI (1000 + i))) (wd0_g μ (8 * nTh μ)) k (by omega)
    have now : Y 108 2 = μ 0 11 := by rw [hY 108 (by omega), g0.2.2]
    rw [fM_reaches_35, if_neg (by rw [hY 108 (by omega), e55, eN, nI_le_iff (by omega) (by omega)]; omega), inb_n (by omega) (by omega), cond_true, nI_clamp (by omega), hY 143 (by omega), (min_both g4 hef hY).2, Option.bind_some]
    dsimp only
    by_cases hmin : μ 0 11 < evMin μ (μ 26 k)
    · rw [if_pos (by rw [now]; exact hmin)]
      refine ⟨Y, rfl, hY, ?_⟩
      intro th hth
      have hst := rcR_stop (μ := μ) (P := P) (i := i) (k := k) (v := μ 0 11) (t := μ 0 11) (nEv μ - k) (by
        intro x h1 h2
        have hle : evMin μ (μ 26 k) ≤ evMin μ (μ 26 x) := by
          by_cases hik : x = k
          · rw [hik]; exact Int32.le_refl _
          · exact hsort k x (by omega) (by unfold nEv at *; omega)
        have : ¬ evMin μ (μ 26 x) ≤ μ 0 11 := fun z => absurd (Int32.le_trans hle z) (Int32.not_le.mpr hmin)
        unfold cnd
        simp [this]) th
      rw [show k + (nEv μ - k) = nEv μ by omega] at hst
      rw [hst]
      exact hR th hth
    · rw [if_neg (by rw [now]; exact hmin), hY 143 (by omega), now, (kn_both g4 hef (μ 0 11) hY).2, Option.bind_some]
      dsimp only
      by_cases hk2 : kn μ (μ 26 k) (μ 0 11) = true
      · have hc : cnd μ (μ 0 11) (μ 0 11) k = true := by unfold cnd; simp [Int32.not_lt.mp hmin, hk2]
        have eW := cndW_i g4 (v := μ 0 11) (t := μ 0 11) hi10 hkN
        have hne1 : ¬ μ 143 k = -1 := by
          have q1 := g4.2.2.1.2.1
          have q2 := g4.2.1.2.1
          rcases hef with ⟨x1, x2, x3⟩ | ⟨x1, x2, x3⟩
          · rw [x3]
            intro z
            have : μ 26 k < 10 := Int32.lt_of_lt_of_le x2 q1
            grind
          · have := evi3 x1 x2 g4.2.1.1 q2
            rw [x3]
            intro z
            rw [z] at this
            exact absurd this.1 (by decide)
        rw [if_pos hk2, if_pos (by decide)]
        obtain ⟨Y1, j1, j2, j3⟩ := (hP k hkN).2.2.2 0 Y _ (-1) (by omega) hY hA gA hne1
        have hY1 : SB Y1 μ := hY.ofN j3
        have hB1 := hB.other (by omega) (by omega) j3
        have A1 : wdA μ P (μ 0 11) (μ 0 11) (k + 1) = P k (wdA μ P (μ 0 11) (μ 0 11) k) := by unfold wdA; rw [runW, if_pos hc]
        change fM_happens (nI s) 0 (μ 143 k) (-1) Y = some Y1 at j1
        rw [j1, Option.bind_some, e1000]
        have tail : ∀ Y2 : am_Mu, SB Y2 μ → MW (8 * nTh μ) 0 Y2 (wdA μ P (μ 0 11) (μ 0 11) (k + 1)) → MW (8 * nTh μ) 1 Y2 (wdB μ P (μ 0 11) (μ 0 11) i (k + 1)) → Y2 151 = Y 151 → ∃ Y', fM_reaches_109 am_F (fM_reaches_35 n) (nI i) (nI s) (nI k) (μ 143 k) 0 Y2 = some Y' ∧ SB Y' μ ∧ ∀ th, th < nTh μ → Y' 151 th = rcR μ P (μ 0 11) (μ 0 11) i (nEv μ) th := by
          intro Y2 hY2 hA2 hB2 r2
          by_cases he : μ 26 k < 10
          · have h1000 : 1000 ≤ μ 143 k := by
              rcases hef with ⟨x1, x2, x3⟩ | ⟨x1, x2, x3⟩
              · rw [x3]
                have := g4.2.2.1.2.1
                grind
              · exact absurd he (Int32.not_lt.mpr x1)
            have st : fM_reaches_109 am_F (fM_reaches_35 n) (nI i) (nI s) (nI k) (μ 143 k) 0 Y2 = fM_reaches_35 n (nI i) (nI s) (nI (k + 1)) Y2 := by
              rw [show am_F = 99999 + 1 from rfl, fM_reaches_109, if_pos h1000]
              unfold fM_reaches_172
              rw [show nI k + 1 = nI (k + 1) from nI_plus _ 1]
              split <;> rfl
            rw [st]
            refine ih (k + 1) n Y2 (by omega) (by omega) hY2 hA2 hB2 ?_
            intro th hth
            rw [rcR]
            dsimp only
            rw [if_neg (fun z => z.2.1 he), r2]
            exact hR th hth
          · have hfe : μ 143 k = μ 26 k - 10 ∧ μ 143 k < 1000 := by
              rcases hef with ⟨x1, x2, x3⟩ | ⟨x1, x2, x3⟩
              · exact absurd (Int32.not_lt.mp he) (evi4 x1 x2 g4.2.2.1.2.1)
              · have := evi3 x1 x2 g4.2.1.1 g4.2.1.2.1
                refine ⟨x3, ?_⟩
                rw [x3]
                exact Int32.lt_of_lt_of_le this.2 (Int32.le_trans g4.2.1.2.1 (by decide))
            obtain ⟨Y3, l1, l2, l3⟩ := m_rc109 g4 (s := s) (k := k) hi (A := wdA μ P (μ 0 11) (μ 0 11) (k + 1)) (B := wdB μ P (μ 0 11) (μ 0 11) i (k + 1)) (k35 := fM_reaches_35 n) hfe.2 (nTh μ) 0 am_F Y2 (by omega) (by unfold am_F; omega) hY2 hA2 hB2
            change fM_reaches_109 am_F (fM_reaches_35 n) (nI i) (nI s) (nI k) (μ 143 k) 0 Y2 = _ at l1
            rw [l1]
            refine ih (k + 1) n Y3 (by omega) (by omega) (fun a ha => by rw [l2 a (by omega)]; exact hY2 a ha) (hA2.cong (l2 _ (by omega)) (l2 _ (by omega)) (l2 _ (by omega))) (hB2.cong (l2 _ (by omega)) (l2 _ (by omega)) (l2 _ (by omega))) ?_
            intro th hth
            rw [l3, r2, rcR]
            dsimp only
            rw [hR th hth, hfe.1]
            by_cases hq : rcR μ P (μ 0 11) (μ 0 11) i k th = -1 ∧ ¬ nI th = μ 22 i ∧ 0 < oth μ P (μ 0 11) (μ 0 11) i (k + 1) th
            · rw [if_pos ⟨⟨by omega, hth⟩, hq⟩, if_pos ⟨hc, he, hq⟩]
            · rw [if_neg (fun z => hq z.2), if_neg (fun z => hq z.2.2)]
        by_cases hei : μ 26 k = nI i
        · have hcW : ¬ cndW μ (μ 0 11) (μ 0 11) (nI (1000 + i)) k = true := by rw [eW]; simp [hei]
          have hfo : μ 143 k = nI (1000 + i) := by
            rcases hef with ⟨x1, x2, x3⟩ | ⟨x1, x2, x3⟩
            · rw [x3, hei]; exact e1000
            · exfalso
              rw [hei] at x1
              have := (nI_le_iff (a := 10) (by omega) (by omega)).mp x1
              omega
          have hself : fM_happens (nI s) 1 (μ 143 k) (nI (1000 + i)) Y1 = some Y1 := by
            unfold fM_happens
            rw [if_pos (by rw [hfo]; exact (nI_le_iff (a := 1000) (by omega) (by omega)).mpr (by omega)), if_pos hfo]
          rw [hself, Option.bind_some]
          refine tail Y1 hY1 (by rw [A1]; exact j2) ?_ (j3.1 151 (by omega))
          unfold wdB
          rw [runW, if_neg hcW]
          exact hB1
        · have hcW : cndW μ (μ 0 11) (μ 0 11) (nI (1000 + i)) k = true := by rw [eW]; simp [hei, hc]
          have hfo : ¬ μ 143 k = nI (1000 + i) := by
            intro z
            have : cndW μ (μ 0 11) (μ 0 11) (nI (1000 + i)) k = false := by unfold cndW; simp [z]
            rw [this] at hcW
            exact absurd hcW (by decide)
          obtain ⟨Y2, k1, k2, k3⟩ := (hP k hkN).2.2.2 1 Y1 _ (nI (1000 + i)) (by omega) hY1 hB1 gB hfo
          change fM_happens (nI s) 1 (μ 143 k) (nI (1000 + i)) Y1 = some Y2 at k1
          rw [k1, Option.bind_some]
          refine tail Y2 (hY1.ofN k3) ?_ ?_ ?_
          · rw [A1]
            exact j2.other (by omega) (by omega) k3
          · unfold wdB
            rw [runW, if_pos hcW]
            exact k2
          · rw [k3.1 151 (by omega), j3.1 151 (by omega)]
      · have hc : ¬ cnd μ (μ 0 11) (μ 0 11) k = true := by unfold cnd; simp [hk2]
        have hcW : ¬ cndW μ (μ 0 11) (μ 0 11) (nI (1000 + i)) k = true := by unfold cndW; simp [hc]
        rw [if_neg hk2, if_neg (by decide)]
        unfold fM_reaches_172
        rw [show nI k + 1 = nI (k + 1) from nI_plus _ 1]
        refine ih (k + 1) n Y (by omega) (by omega) hY ?_ ?_ ?_
        · unfold wdA; rw [runW, if_neg hc]; exact hA
        · unfold wdB; rw [runW, if_neg hcW]; exact hB
        · intro th hth
          rw [rcR]
          dsimp only
          rw [if_neg (fun q => hc q.1)]
          exact hR th hth
theorem m_rc151 {μ : am_Mu} (g4 : G4 μ) {a b : Int32} : ∀ q j n (Y : am_Mu), j + q = nTh μ → q < n → Y 108 4 = μ 13 14 → (∀ i, i < j → Y 151 i = -1) → ∃ Y', fM_reaches_12 n a b (nI j) Y = fM_reaches_33 a b Y' ∧ (∀ r, ¬ r = 151 → Y' r = Y r) ∧ ∀ i, i < nTh μ → Y' 151 i = -1 := by
  have t20 : nTh μ ≤ 20 := nt_le (b := 20) g4.1.1 g4.1.2.1
  have en : μ 13 14 = nI (nTh μ) := (nI_nt g4.1.1).symm
  intro q
  induction q with
  | zero =>
    intro j n Y hj hn hY h
    obtain ⟨n, rfl⟩ : ∃ k, n = k + 1 := ⟨n - 1, by omega⟩
    have : j = nTh μ := by omega
    subst this
    refine ⟨Y, ?_, fun _ _ => rfl, h⟩
    rw [fM_reaches_12, if_pos (by rw [hY, en]; exact Int32.le_refl _)]
  | succ q ih =>
    intro j n Y hj hn hY h
    obtain ⟨n, rfl⟩ : ∃ k, n = k + 1 := ⟨n - 1, by omega⟩
    rw [fM_reaches_12, if_neg (by rw [hY, en, nI_le_iff (by omega) (by omega)]; omega), inb_n (by omega) (by omega), cond_true, nI_clamp (by omega), show nI j + 1 = nI (j + 1) from nI_plus _ 1]
    obtain ⟨Y', i1, i2, i3⟩ := ih (j + 1) n (am_up Y 151 j (-1)) (by omega) (by omega) (by rw [up_row (by omega), hY]) (by
      intro i hi
      rw [up_at]
      by_cases hij : i = j
      · rw [if_pos hij]
      · rw [if_neg hij]; exact h i (by omega))
    exact ⟨Y', i1, fun r hr => by rw [i2 r hr, up_row hr], i3⟩
/-- the whole of reaches -/
theorem m_reaches {μ : am_Mu} (g0 : G0 μ) (g4 : G4 μ) {s : Nat} {P : Nat → Wd → Wd} (hP : PlayAll μ s P) {i : Nat} (hi : i < (μ 13 16).toNatClampNeg) {Y : am_Mu} (hY : SB Y μ) : ∃ Y', fM_reaches (nI i) (nI s) Y = some Y' ∧ SB Y' μ ∧ ∀ th, th < nTh μ → Y' 151 th = rcR μ P (μ 0 11) (μ 0 11) i (nEv μ) th := by
  obtain ⟨hN, -⟩ := evN_n g4
  have t20 : nTh μ ≤ 20 := nt_le (b := 20) g4.1.1 g4.1.2.1
  have d4 : ∀ X, SB X μ → X 108 4 = μ 13 14 := fun X h => by rw [h 108 (by omega)]; exact g4.1.2.2.1
  have d113 : ∀ X, SB X μ → ∀ j, j < (μ 13 14).toNatClampNeg → X 113 j = μ 14 j := fun X h j hj => by rw [h 113 (by omega)]; exact (g4.1.2.2.2 j hj).1
  obtain ⟨Y1, b1, b2, b3⟩ := m_wbegins (w := 0) (by omega) g4 (nTh μ) 0 am_F Y (by unfold nTh; omega) (by unfold am_F; omega) (d4 Y hY) (d113 Y hY) (fun k hk => absurd hk (by omega))
  have hY1 : SB Y1 μ := hY.ofN b3.toN
  obtain ⟨Y2, c1, c2, c3⟩ := m_wbegins (w := 1) (by omega) g4 (nTh μ) 0 am_F Y1 (by unfold nTh; omega) (by unfold am_F; omega) (d4 Y1 hY1) (d113 Y1 hY1) (fun k hk => absurd hk (by omega))
  have hY2 : SB Y2 μ := hY1.ofN c3.toN
  obtain ⟨Y3, e1, e2, e3⟩ := m_rc151 g4 (a := nI i) (b := nI s) (nTh μ) 0 am_F Y2 (by omega) (by unfold am_F; omega) (d4 Y2 hY2) (fun i hi => by omega)
  have hY3 : SB Y3 μ := fun a ha => by rw [e2 a (by omega)]; exact hY2 a ha
  have hb2 := b2.other (w' := 0) (w := 1) (by unfold nTh at t20; omega) (by omega) c3.toN
  obtain ⟨Y', i1, i2, i3⟩ := m_rcL g0 g4 hP hi (nEv μ) 0 am_F Y3 (by omega) (by unfold am_F; omega) hY3 (hb2.cong (e2 _ (by omega)) (e2 _ (by omega)) (e2 _ (by omega))) (c2.cong (e2 _ (by omega)) (e2 _ (by omega)) (e2 _ (by omega))) (fun th hth => e3 th hth)
  refine ⟨Y', ?_, i2, i3⟩
  unfold fM_reaches
  have f1 : fM_begins 0 Y = some Y1 := b1
  have f2 : fM_begins 1 Y1 = some Y2 := c1
  rw [f1, Option.bind_some, f2, Option.bind_some]
  change fM_reaches_12 am_F (nI i) (nI s) 0 Y2 = _ at e1
  rw [e1]
  exact i1
/-! the calls -/
theorem l_canTrace (a b c : Int32) (μ : am_Mu) : fB_canTrace a b c μ = some (b2i ((0 ≤ a ∧ a < μ 13 16) ∧ (0 ≤ b ∧ b < 2) ∧ 0 ≤ c ∧ c < μ 13 14), μ) := by
  unfold fB_canTrace fB_canTrace_40
  rw [l_isIn, Option.bind_some]
  dsimp only
  by_cases h1 : 0 ≤ a ∧ a < μ 13 16
  · rw [b2i_t h1, if_neg (by decide), l_isIn, Option.bind_some]
    dsimp only
    by_cases h2 : 0 ≤ b ∧ b < 2
    · rw [b2i_t h2, if_neg (by decide), l_isIn, Option.bind_some]
      dsimp only
      by_cases h3 : 0 ≤ c ∧ c < μ 13 14
      · rw [b2i_t h3, if_neg (by decide), b2i_t ⟨h1, h2, h3⟩]
      · rw [b2i_f h3, if_pos rfl, b2i_f (fun h => h3 h.2.2)]
    · rw [b2i_f h2, if_pos rfl, b2i_f (fun h => h2 h.2.1)]
  · rw [b2i_f h1, if_pos rfl, b2i_f (fun h => h1 h.1)]
theorem le_pred {a n : Int32} (h0 : 0 ≤ n) : (0 ≤ a ∧ a ≤ n - 1) ↔ (0 ≤ a ∧ a < n) := by grind
/-- the reference's tests, all at once -/
theorem m_can {μ X : am_Mu} (g4 : G4 μ) (h6 : X 108 6 = μ 13 16) (h4 : X 108 4 = μ 13 14) (a b c : Int32) {Z : am_Mu → Option (Int32 × am_Mu)} : ((fM_isMistake a X).bind fun q1 => (if q1.1 = 0 then some ((-1), q1.2) else ((fM_isSchool b q1.2).bind fun q3 => (if q3.1 = 0 then some ((-1), q3.2) else ((fM_isThing c q3.2).bind fun q5 => (if q5.1 = 0 then some ((-1), q5.2) else Z q5.2)))))) = if (0 ≤ a ∧ a < μ 13 16) ∧ (0 ≤ b ∧ b < 2) ∧ 0 ≤ c ∧ c < μ 13 14 then Z X else some (-1, X) := by
  rw [l_isMistake, Option.bind_some, h6]
  dsimp only
  by_cases h1 : 0 ≤ a ∧ a < μ 13 16
  · rw [b2i_t ((le_pred g4.2.2.1.1).mpr h1), if_neg (by decide), l_isSchool, Option.bind_some]
    dsimp only
    by_cases h2 : 0 ≤ b ∧ b < 2
    · rw [b2i_t h2, if_neg (by decide), l_isThing, Option.bind_some, h4]
      dsimp only
      by_cases h3 : 0 ≤ c ∧ c < μ 13 14
      · rw [b2i_t ((le_pred g4.1.1).mpr h3), if_neg (by decide), if_pos ⟨h1, h2, h3⟩]
      · rw [b2i_f (fun h => h3 ((le_pred g4.1.1).mp h)), if_pos rfl, if_neg (fun h => h3 h.2.2)]
    · rw [b2i_f h2, if_pos rfl, if_neg (fun h => h2 h.2.1)]
  · rw [b2i_f (fun h => h1 ((le_pred g4.2.2.1.1).mp h)), if_pos rfl, if_neg (fun h => h1 h.1)]
theorem op_leads (a b c d : Int32) (μ : am_Mu) : Op (fB_leads a b c d) (fM_leads a b c d) (fun μ => G0 μ ∧ G1 μ ∧ G3 μ ∧ G4 μ) (fun _ => True) μ := by
  rintro ⟨g0, g1, g3, g4⟩
  have t20 : nTh μ ≤ 20 := nt_le (b := 20) g4.1.1 g4.1.2.1
  have m10 : (μ 13 16).toNatClampNeg ≤ 10 := nt_le (b := 10) g4.2.2.1.1 g4.2.2.1.2.1
  have h6 := g4.2.2.1.2.2.1
  have h4 := g4.1.2.2.1
  have eM : ∀ X : am_Mu, X 108 6 = μ 13 16 → X 108 4 = μ 13 14 → fM_leads a b c d X = if (0 ≤ a ∧ a < μ 13 16) ∧ (0 ≤ b ∧ b < 2) ∧ 0 ≤ c ∧ c < μ 13 14 then ((fM_isMinute d X).bind fun q7 => (if ¬ q7.1 = 0 then ((fM_goes b 0 d (q7.2 108 2) (-1) q7.2).bind fun q9 => ((fM_goes b 1 d (q9 108 2) ((1000 : Int32) + a) q9).bind fun q10 => ((fM_otherwise c q10).bind fun q11 => some (q11.1, q11.2)))) else some ((-1), q7.2))) else some (-1, X) := by
    intro X x6 x4
    unfold fM_leads
    exact m_can g4 x6 x4 a b c (Z := fun X => ((fM_isMinute d X).bind fun q7 => (if ¬ q7.1 = 0 then ((fM_goes b 0 d (q7.2 108 2) (-1) q7.2).bind fun q9 => ((fM_goes b 1 d (q9 108 2) ((1000 : Int32) + a) q9).bind fun q10 => ((fM_otherwise c q10).bind fun q11 => some (q11.1, q11.2)))) else some ((-1), q7.2))))
  by_cases hv : (0 ≤ a ∧ a < μ 13 16) ∧ (0 ≤ b ∧ b < 2) ∧ 0 ≤ c ∧ c < μ 13 14
  · by_cases hd : 0 ≤ d ∧ d < 1440000
    · obtain ⟨i, rfl, hi⟩ : ∃ i, a = nI i ∧ i < (μ 13 16).toNatClampNeg := ⟨a.toNatClampNeg, (nI_nt hv.1.1).symm, nt_lt hv.1.1 hv.1.2⟩
      obtain ⟨s, rfl, hs⟩ : ∃ s, b = nI s ∧ s < 2 := ⟨b.toNatClampNeg, (nI_nt hv.2.1.1).symm, nt_lt (b := 2) hv.2.1.1 hv.2.1.2⟩
      obtain ⟨th, rfl, hth⟩ : ∃ th, c = nI th ∧ th < nTh μ := ⟨c.toNatClampNeg, (nI_nt hv.2.2.1).symm, nt_lt hv.2.2.1 hv.2.2.2⟩
      obtain ⟨P, hP, hPm⟩ := play_all2 g1 g3 g4 hs
      obtain ⟨X, x1, x2, x3, x4, -⟩ := x_follow g1 g3 g4 hP hPm (show i < 10 by omega) d (μ 0 11)
      have gA := runW_g hP (C := cnd μ d (μ 0 11)) (wd0_g μ (8 * nTh μ)) (nEv μ) (Nat.le_refl _)
      have gB := runW_g hP (C := cndW μ d (μ 0 11) (nI (1000 + i))) (wd0_g μ (8 * nTh μ)) (nEv μ) (Nat.le_refl _)
      have ox := x_oth (show 8 * nTh μ ≤ 160 by omega) (t := th) (by omega) x3 x4 gA gB
      obtain ⟨Y1, y1, y2, y3⟩ := m_goesW g4 hP (w := 0) (by omega) (v := d) (t := μ 0 11) (wo := -1) (Or.inl (by decide)) x2
      rw [cndW_all g4 (by decide) _ (Nat.le_refl _)] at y2
      have hY1 : SB Y1 μ := x2.ofN y3
      obtain ⟨Y2, y4, y5, y6⟩ := m_goesW g4 hP (w := 1) (by omega) (v := d) (t := μ 0 11) (wo := nI (1000 + i)) (Or.inr ((nI_le_iff (a := 1000) (by omega) (by omega)).mpr (by omega))) hY1
      have om := m_oth (show 8 * nTh μ ≤ 160 by omega) (t := th) (by omega) (y2.other (by omega) (by omega) y6) y5
      have e1000 : (1000 : Int32) + nI i = nI (1000 + i) := nI_plus 1000 i
      refine ⟨oth μ P d (μ 0 11) i (nEv μ) th, X, Y2, ?_, ?_, trivial⟩
      · unfold fB_leads
        rw [l_canTrace, Option.bind_some, b2i_t hv]
        dsimp only
        rw [if_neg (by decide), l_isMinuteB, Option.bind_some, b2i_t hd]
        dsimp only
        rw [if_pos (by decide), x1, Option.bind_some, ox, Option.bind_some]
      · rw [eM X (by rw [x2 108 (by omega), h6]) (by rw [x2 108 (by omega), h4]), if_pos hv, l_isMinuteM, Option.bind_some, b2i_t (show 0 ≤ d ∧ d ≤ 1439999 by grind)]
        dsimp only
        have n1 : X 108 2 = μ 0 11 := by rw [x2 108 (by omega), g0.2.2]
        have n2 : Y1 108 2 = μ 0 11 := by rw [hY1 108 (by omega), g0.2.2]
        change fM_goes (nI s) 0 d (μ 0 11) (-1) X = some Y1 at y1
        change fM_goes (nI s) 1 d (μ 0 11) (nI (1000 + i)) Y1 = some Y2 at y4
        rw [if_pos (by decide), n1, y1, Option.bind_some, n2, e1000, y4, Option.bind_some, om, Option.bind_some]
    · refine ⟨-1, μ, μ, ?_, ?_, trivial⟩
      · unfold fB_leads
        rw [l_canTrace, Option.bind_some, b2i_t hv]
        dsimp only
        rw [if_neg (by decide), l_isMinuteB, Option.bind_some, b2i_f hd]
        rfl
      · rw [eM μ h6 h4, if_pos hv, l_isMinuteM, Option.bind_some, b2i_f (show ¬ (0 ≤ d ∧ d ≤ 1439999) by grind)]
        rfl
  · refine ⟨-1, μ, μ, ?_, ?_, trivial⟩
    · unfold fB_leads
      rw [l_canTrace, Option.bind_some, b2i_f hv]
      rfl
    · rw [eM μ h6 h4, if_neg hv]
theorem op_reached (a b c : Int32) (μ : am_Mu) : Op (fB_reached a b c) (fM_reached a b c) (fun μ => G0 μ ∧ G1 μ ∧ G3 μ ∧ G4 μ) (fun _ => True) μ := by
  rintro ⟨g0, g1, g3, g4⟩
  have t20 : nTh μ ≤ 20 := nt_le (b := 20) g4.1.1 g4.1.2.1
  have m10 : (μ 13 16).toNatClampNeg ≤ 10 := nt_le (b := 10) g4.2.2.1.1 g4.2.2.1.2.1
  have h6 := g4.2.2.1.2.2.1
  have h4 := g4.1.2.2.1
  have eM : ∀ X : am_Mu, X 108 6 = μ 13 16 → X 108 4 = μ 13 14 → fM_reached a b c X = if (0 ≤ a ∧ a < μ 13 16) ∧ (0 ≤ b ∧ b < 2) ∧ 0 ≤ c ∧ c < μ 13 14 then ((fM_reaches a b X).bind fun q7 => (bif am_inb c 20 then some ((q7 151 ((c).toNatClampNeg)), q7) else none)) else some (-1, X) := by
    intro X x6 x4
    rw [← m_can g4 x6 x4 a b c (Z := fun X => ((fM_reaches a b X).bind fun q7 => (bif am_inb c 20 then some ((q7 151 ((c).toNatClampNeg)), q7) else none)))]
    unfold fM_reached
    rw [l_isMistake, Option.bind_some, Option.bind_some]
    dsimp only
    rw [l_isSchool, Option.bind_some, Option.bind_some]
    dsimp only
    rw [l_isThing, Option.bind_some, Option.bind_some]
    dsimp only
    by_cases h3 : 0 ≤ c ∧ c ≤ X 108 4 - 1
    · rw [b2i_t h3, if_pos (show ¬ (1 : Int32) = 0 by decide), if_neg (show ¬ (1 : Int32) = 0 by decide)]
    · rw [b2i_f h3, if_neg (show ¬ ¬ (0 : Int32) = 0 by decide), if_pos (show (0 : Int32) = 0 from rfl)]
  by_cases hv : (0 ≤ a ∧ a < μ 13 16) ∧ (0 ≤ b ∧ b < 2) ∧ 0 ≤ c ∧ c < μ 13 14
  · obtain ⟨i, rfl, hi⟩ : ∃ i, a = nI i ∧ i < (μ 13 16).toNatClampNeg := ⟨a.toNatClampNeg, (nI_nt hv.1.1).symm, nt_lt hv.1.1 hv.1.2⟩
    obtain ⟨s, rfl, hs⟩ : ∃ s, b = nI s ∧ s < 2 := ⟨b.toNatClampNeg, (nI_nt hv.2.1.1).symm, nt_lt (b := 2) hv.2.1.1 hv.2.1.2⟩
    obtain ⟨th, rfl, hth⟩ : ∃ th, c = nI th ∧ th < nTh μ := ⟨c.toNatClampNeg, (nI_nt hv.2.2.1).symm, nt_lt hv.2.2.1 hv.2.2.2⟩
    obtain ⟨P, hP, hPm⟩ := play_all2 g1 g3 g4 hs
    obtain ⟨X, x1, x2, -, -, x5⟩ := x_follow g1 g3 g4 hP hPm (show i < 10 by omega) (μ 0 11) (μ 0 11)
    obtain ⟨Y, y1, y2, y3⟩ := m_reaches g0 g4 hP hi x2
    refine ⟨rcR μ P (μ 0 11) (μ 0 11) i (nEv μ) th, X, Y, ?_, ?_, trivial⟩
    · unfold fB_reached
      rw [l_canTrace, Option.bind_some, b2i_t hv]
      dsimp only
      rw [if_pos (by decide), x1, Option.bind_some, inb_n (by omega) (by omega), cond_true, nI_clamp (by omega), x5 th hth]
    · rw [eM X (by rw [x2 108 (by omega), h6]) (by rw [x2 108 (by omega), h4]), if_pos hv, y1, Option.bind_some, inb_n (by omega) (by omega), cond_true, nI_clamp (by omega), y3 th hth]
  · refine ⟨-1, μ, μ, ?_, ?_, trivial⟩
    · unfold fB_reached
      rw [l_canTrace, Option.bind_some, b2i_f hv]
      rfl
    · rw [eM μ h6 h4, if_neg hv]
