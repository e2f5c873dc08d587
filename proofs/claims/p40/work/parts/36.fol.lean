/-! E: a mistake is followed, in the class -/
def cndW (μ : am_Mu) (v t : Int32) (i k : Nat) : Bool := cnd μ v t k && !decide (μ 26 k = nI i)
abbrev wdA (μ : am_Mu) (P : Nat → Wd → Wd) (v t : Int32) (k : Nat) : Wd := runW P (cnd μ v t) (wd0 μ) k
abbrev wdB (μ : am_Mu) (P : Nat → Wd → Wd) (v t : Int32) (i k : Nat) : Wd := runW P (cndW μ v t i) (wd0 μ) k
abbrev oth (μ : am_Mu) (P : Nat → Wd → Wd) (v t : Int32) (i k th : Nat) : Int32 := odv (wdA μ P v t k) (wdB μ P v t i k) 8 (8 * th) 0
def rcR (μ : am_Mu) (P : Nat → Wd → Wd) (v t : Int32) (i : Nat) : Nat → Nat → Int32
  | 0 => fun _ => -1
  | k + 1 => fun th => if cnd μ v t k = true ∧ ¬ μ 26 k < 10 ∧ rcR μ P v t i k th = -1 ∧ ¬ nI th = μ 22 i ∧ 0 < oth μ P v t i (k + 1) th then μ 26 k - 10 else rcR μ P v t i k th
/-- a thing that wasn't reached is as it would be -/
theorem rc_inv {μ : am_Mu} (g4 : G4 μ) {s : Nat} {P : Nat → Wd → Wd} (hP : PlayAll μ s P) (hPm : ∀ k, k < nEv μ → μ 26 k < 10 → ∃ t j, t < nTh μ ∧ j < 8 ∧ nI t = μ 22 (μ 26 k).toNatClampNeg ∧ P k = fun W => wup W (8 * t + j) (2, μ 24 (μ 26 k).toNatClampNeg, μ 24 (μ 26 k).toNatClampNeg)) {v t : Int32} {i : Nat} (hi : i < 10) : ∀ k, k ≤ nEv μ → (∀ th, th < nTh μ → ¬ nI th = μ 22 i → rcR μ P v t i k th = -1 → ¬ 0 < oth μ P v t i k th) ∧ (k < nEv μ → cnd μ v t k = true → ∀ th, th < nTh μ → ¬ evT μ (μ 26 k) th → oth μ P v t i (k + 1) th = oth μ P v t i k th) := by
  have t20 : nTh μ ≤ 20 := nt_le (b := 20) g4.1.1 g4.1.2.1
  -- untouched things
  have unt : ∀ k, k < nEv μ → ∀ th, th < nTh μ → ¬ evT μ (μ 26 k) th → oth μ P v t i (k + 1) th = oth μ P v t i k th := by
    intro k hk th hth hno
    unfold oth
    refine odv_cong 8 (8 * th) 0 ?_
    intro j h1 h2
    have hj8 : j / 8 = th := by omega
    have hp := (hP k hk).2.1
    constructor
    · unfold wdA
      rw [runW]
      split
      · exact hp _ j (by omega) (by rw [hj8]; exact hno)
      · rfl
    · unfold wdB
      rw [runW]
      split
      · exact hp _ j (by omega) (by rw [hj8]; exact hno)
      · rfl
  intro k
  induction k with
  | zero =>
    intro hk
    refine ⟨?_, fun h _ => unt 0 h⟩
    intro th hth hne _
    have : oth μ P v t i 0 th = 0 := odv_z _ _ 8 (8 * th) (fun j _ _ => rfl)
    rw [this]
    decide
  | succ k ih =>
    intro hk
    refine ⟨?_, fun h _ => unt (k + 1) h⟩
    have hkN : k < nEv μ := by omega
    obtain ⟨i1, -⟩ := ih (by omega)
    intro th hth hne hr
    rw [rcR] at hr
    dsimp only at hr
    by_cases hc : cnd μ v t k = true
    · by_cases he : μ 26 k < 10
      · rw [if_neg (fun q => q.2.1 he)] at hr
        have hprev := odv_n _ _ 8 (8 * th) (i1 th hth hne hr)
        obtain ⟨t', j', p1, p2, p3, p4⟩ := hPm k hkN he
        have hz : oth μ P v t i (k + 1) th = 0 := by
          refine odv_z _ _ 8 (8 * th) ?_
          intro j h1 h2
          unfold wdA wdB
          rw [runW, if_pos hc, runW, show cndW μ v t i k = (cnd μ v t k && !decide (μ 26 k = nI i)) from rfl, hc, p4]
          by_cases hei : μ 26 k = nI i
          · rw [if_neg (by simp [hei])]
            dsimp only
            rw [wup_ne (by
              intro hq
              have : t' = th := by omega
              rw [hei, nI_clamp (by omega)] at p3
              rw [this] at p3
              exact hne p3)]
            exact hprev j h1 h2
          · rw [if_pos (by simp [hei])]
            dsimp only
            unfold wup
            by_cases hjp : j = 8 * t' + j'
            · rw [if_pos hjp, if_pos hjp]
            · rw [if_neg hjp, if_neg hjp]
              exact hprev j h1 h2
        rw [hz]
        decide
      · by_cases hall : rcR μ P v t i k th = -1
        · by_cases hpos : 0 < oth μ P v t i (k + 1) th
          · rw [if_pos ⟨hc, he, hall, hne, hpos⟩] at hr
            exfalso
            have h200 := g4.2.1.2.1
            have h0 := g4.2.1.1
            rcases ev_rel g4 hkN with ⟨x1, x2⟩ | ⟨x1, x2⟩
            · have h10 := g4.2.2.1.2.1
              exact he (by grind)
            · have h6 : μ 26 k < 210 := by grind
              have h7 : 0 ≤ μ 26 k - 10 := by grind
              rw [hr] at h7
              exact absurd h7 (by decide)
          · exact hpos
        · rw [if_neg (fun q => hall q.2.2.1)] at hr
          exact absurd hr hall
    · rw [if_neg (fun q => hc q.1)] at hr
      have hcW : ¬ cndW μ v t i k = true := by
        unfold cndW
        simp [hc]
      have : oth μ P v t i (k + 1) th = oth μ P v t i k th := by
        unfold oth wdA wdB
        rw [runW, if_neg hc, runW, if_neg hcW]
      rw [this]
      exact i1 th hth hne hr

def PlayM (μ : am_Mu) (P : Nat → Wd → Wd) : Prop := ∀ k, k < nEv μ → μ 26 k < 10 → ∃ t j, t < nTh μ ∧ j < 8 ∧ nI t = μ 22 (μ 26 k).toNatClampNeg ∧ P k = fun W => wup W (8 * t + j) (2, μ 24 (μ 26 k).toNatClampNeg, μ 24 (μ 26 k).toNatClampNeg)
theorem play_m {μ : am_Mu} (g3 : G3 μ) (g4 : G4 μ) {s : Nat} (hs : s < 2) : PlayM μ (Pv μ s) := fun k hk he => (play_c g3 g4 hs (ev_rel g4 hk)).2 he
theorem x_folL {μ : am_Mu} (g4 : G4 μ) {s : Nat} {P : Nat → Wd → Wd} (hP : PlayAll μ s P) (hPm : PlayM μ P) {i : Nat} (hi : i < 10) {v t : Int32} : ∀ q k n (X : am_Mu), k + q = nEv μ → q < n → SB X μ → XW (8 * nTh μ) 58 X (wdA μ P v t k) → XW (8 * nTh μ) 62 X (wdB μ P v t i k) → (∀ th, th < nTh μ → X 66 th = rcR μ P v t i k th) → ∃ X', fTrace_follow_54 n (nI i) (nI s) v t (nI k) X = some X' ∧ SB X' μ ∧ XW (8 * nTh μ) 58 X' (wdA μ P v t (nEv μ)) ∧ XW (8 * nTh μ) 62 X' (wdB μ P v t i (nEv μ)) ∧ ∀ th, th < nTh μ → X' 66 th = rcR μ P v t i (nEv μ) th := by
  obtain ⟨hN, eN⟩ := evN_n g4
  have t20 : nTh μ ≤ 20 := nt_le (b := 20) g4.1.1 g4.1.2.1
  have inv := rc_inv g4 hP hPm (v := v) (t := t) hi
  have m58 : isM 58 := by unfold isM; omega
  have m62 : isM 62 := by unfold isM; omega
  intro q
  induction q with
  | zero =>
    intro k n X hk hn hX hA hB hR
    obtain ⟨n, rfl⟩ : ∃ k, n = k + 1 := ⟨n - 1, by omega⟩
    have : k = nEv μ := by omega
    subst this
    refine ⟨X, ?_, hX, hA, hB, hR⟩
    rw [fTrace_follow_54, if_pos (by rw [hX 13 (by omega), eN]; exact Int32.le_refl _)]
  | succ q ih =>
    intro k n X hk hn hX hA hB hR
    obtain ⟨n, rfl⟩ : ∃ k, n = k + 1 := ⟨n - 1, by omega⟩
    have hkN : k < nEv μ := by omega
    have hef := ev_rel g4 hkN
    have gA := runW_g hP (C := cnd μ v t) (wd0_g μ (8 * nTh μ)) k (by omega)
    have gB := runW_g hP (C := cndW μ v t i) (wd0_g μ (8 * nTh μ)) k (by omega)
    have gA1 := runW_g hP (C := cnd μ v t) (wd0_g μ (8 * nTh μ)) (k + 1) (by omega)
    have gB1 := runW_g hP (C := cndW μ v t i) (wd0_g μ (8 * nTh μ)) (k + 1) (by omega)
    have eW : cndW μ v t i k = (cnd μ v t k && !decide (μ 26 k = nI i)) := rfl
    have nxt : ∀ X1 : am_Mu, SB X1 μ → XW (8 * nTh μ) 58 X1 (wdA μ P v t (k + 1)) → XW (8 * nTh μ) 62 X1 (wdB μ P v t i (k + 1)) → (∀ th, th < nTh μ → X1 66 th = rcR μ P v t i (k + 1) th) → ∃ X', fTrace_follow_172 (fTrace_follow_54 n) (nI i) (nI s) v t (nI k) X1 = some X' ∧ SB X' μ ∧ XW (8 * nTh μ) 58 X' (wdA μ P v t (nEv μ)) ∧ XW (8 * nTh μ) 62 X' (wdB μ P v t i (nEv μ)) ∧ ∀ th, th < nTh μ → X' 66 th = rcR μ P v t i (nEv μ) th := by
      intro X1 q1 q2 q3 q4
      unfold fTrace_follow_172
      rw [show nI k + 1 = nI (k + 1) from nI_plus _ 1]
      exact ih (k + 1) n X1 (by omega) (by omega) q1 q2 q3 q4
    -- nothing happens
    have idle : ¬ cnd μ v t k = true → ∃ X', fTrace_follow_172 (fTrace_follow_54 n) (nI i) (nI s) v t (nI k) X = some X' ∧ SB X' μ ∧ XW (8 * nTh μ) 58 X' (wdA μ P v t (nEv μ)) ∧ XW (8 * nTh μ) 62 X' (wdB μ P v t i (nEv μ)) ∧ ∀ th, th < nTh μ → X' 66 th = rcR μ P v t i (nEv μ) th := by
      intro hc
      have hcW : ¬ cndW μ v t i k = true := by unfold cndW; simp [hc]
      refine nxt X hX ?_ ?_ ?_
      · unfold wdA; rw [runW, if_neg hc]; exact hA
      · unfold wdB; rw [runW, if_neg hcW]; exact hB
      · intro th hth
        rw [rcR]
        dsimp only
        rw [if_neg (fun q => hc q.1)]
        exact hR th hth
    rw [fTrace_follow_54, if_neg (by rw [hX 13 (by omega), eN, nI_le_iff (by omega) (by omega)]; omega), inb_n (by omega) (by omega), cond_true, nI_clamp (by omega), hX 26 (by omega), min_c g4 hef hX, Option.bind_some]
    dsimp only
    by_cases hmin : v < evMin μ (μ 26 k)
    · rw [if_pos hmin]
      exact idle (by unfold cnd; simp [Int32.not_le.mpr hmin])
    · rw [if_neg hmin, kn_c g4 hef t hX, Option.bind_some]
      dsimp only
      by_cases hk2 : kn μ (μ 26 k) t = true
      · have hc : cnd μ v t k = true := by unfold cnd; simp [Int32.not_lt.mp hmin, hk2]
        rw [if_pos hk2, if_pos (by decide)]
        obtain ⟨X1, j1, j2, j3⟩ := (hP k hkN).2.2 58 X _ m58 hX hA gA
        have hX1 : SB X1 μ := hX.ofM m58 j3
        have hB1 : XW (8 * nTh μ) 62 X1 (wdB μ P v t i k) := hB.cong (j3 _ (by omega) (by omega) (by omega) (by omega) (by omega) (by omega) (by omega)) (j3 _ (by omega) (by omega) (by omega) (by omega) (by omega) (by omega) (by omega)) (j3 _ (by omega) (by omega) (by omega) (by omega) (by omega) (by omega) (by omega))
        have r1 : X1 66 = X 66 := j3 66 (by omega) (by omega) (by omega) (by omega) (by omega) (by omega) (by omega)
        have A1 : wdA μ P v t (k + 1) = P k (wdA μ P v t k) := by unfold wdA; rw [runW, if_pos hc]
        rw [j1, Option.bind_some]
        -- behind both worlds
        have tail : ∀ X2 : am_Mu, SB X2 μ → XW (8 * nTh μ) 58 X2 (wdA μ P v t (k + 1)) → XW (8 * nTh μ) 62 X2 (wdB μ P v t i (k + 1)) → X2 66 = X 66 → ∃ X', fTrace_follow_142 (fTrace_follow_54 n) (nI i) (nI s) v t (nI k) (μ 26 k) X2 = some X' ∧ SB X' μ ∧ XW (8 * nTh μ) 58 X' (wdA μ P v t (nEv μ)) ∧ XW (8 * nTh μ) 62 X' (wdB μ P v t i (nEv μ)) ∧ ∀ th, th < nTh μ → X' 66 th = rcR μ P v t i (nEv μ) th := by
          intro X2 hX2 hA2 hB2 r2
          unfold fTrace_follow_142 fLedger_isMistake
          by_cases he : μ 26 k < 10
          · rw [if_neg (Int32.not_le.mpr he), Option.bind_some]
            dsimp only
            rw [if_pos (by decide)]
            refine nxt X2 hX2 hA2 hB2 ?_
            intro th hth
            rw [rcR]
            dsimp only
            rw [if_neg (fun q => q.2.1 he), r2]
            exact hR th hth
          · have he' : (10 : Int32) ≤ μ 26 k := Int32.not_lt.mp he
            rw [if_pos he', Option.bind_some]
            dsimp only
            rw [if_neg (by decide), inb_n hi (by omega), cond_true, nI_clamp (by omega), hX2 22 (by omega)]
            have hi2 : 0 ≤ μ 26 k - 10 ∧ μ 26 k - 10 < μ 13 15 := by
              have h200 := g4.2.1.2.1
              have h0 := g4.2.1.1
              rcases hef with ⟨x1, x2⟩ | ⟨x1, x2⟩
              · exact absurd he' (evi4 x1 x2 g4.2.2.1.2.1)
              · exact evi3 x1 x2 h0 h200
            have hin := nt_lt hi2.1 hi2.2
            have h200 : (μ 13 15).toNatClampNeg ≤ 200 := nt_le (b := 200) g4.2.1.1 g4.2.1.2.1
            obtain ⟨-, ⟨-, p2, p3⟩, ⟨-, p5⟩, -⟩ := g4.2.1.2.2.2 _ hin
            have hth1 := nt_lt p2 p3
            obtain ⟨X3, n1, n2, n3⟩ := x_note (show 8 * nTh μ ≤ 160 by omega) (th := (μ 16 (μ 26 k - 10).toNatClampNeg).toNatClampNeg) (by unfold nTh; omega) hA2 hB2 gA1 gB1 (μ 26 k - 10) (μ 22 i)
            rw [nI_nt p2] at n1 n3
            have hA3 : XW (8 * nTh μ) 58 X3 (wdA μ P v t (k + 1)) := hA2.cong (n2 _ (by omega)) (n2 _ (by omega)) (n2 _ (by omega))
            have hB3 : XW (8 * nTh μ) 62 X3 (wdB μ P v t i (k + 1)) := hB2.cong (n2 _ (by omega)) (n2 _ (by omega)) (n2 _ (by omega))
            have hX3 : SB X3 μ := fun a ha => by rw [n2 a (by omega)]; exact hX2 a ha
            unfold fTrace_noteReached
            rw [inb_t (n := 200) hi2.1 (by omega), cond_true, hX2 16 (by omega), n1, Option.bind_some, hX3 17 (by omega)]
            -- others were not touched
            have other : ∀ th, th < nTh μ → ¬ nI th = μ 16 (μ 26 k - 10).toNatClampNeg → ¬ nI th = μ 17 (μ 26 k - 10).toNatClampNeg → rcR μ P v t i (k + 1) th = rcR μ P v t i k th := by
              intro th hth q1 q2
              rw [rcR]
              dsimp only
              refine if_neg ?_
              rintro ⟨-, -, w3, w4, w5⟩
              have h1 := (inv k (by omega)).2 hkN hc th hth (by
                unfold evT
                rw [if_neg he]
                rintro (h | h)
                · exact q1 h
                · exact q2 h)
              rw [h1] at w5
              exact (inv k (by omega)).1 th hth w4 w3 w5
            have same : ∀ th, th < nTh μ → rcR μ P v t i (k + 1) th = if X 66 th = -1 ∧ ¬ nI th = μ 22 i ∧ 0 < oth μ P v t i (k + 1) th then μ 26 k - 10 else X 66 th := by
              intro th hth
              rw [rcR]
              dsimp only
              rw [hR th hth]
              by_cases hq : rcR μ P v t i k th = -1 ∧ ¬ nI th = μ 22 i ∧ 0 < oth μ P v t i (k + 1) th
              · rw [if_pos hq, if_pos ⟨hc, he, hq⟩]
              · rw [if_neg hq, if_neg (fun z => hq z.2.2)]
            by_cases hb : μ 17 (μ 26 k - 10).toNatClampNeg = -1
            · rw [if_pos hb, Option.bind_some]
              refine nxt X3 hX3 hA3 hB3 ?_
              intro th hth
              rw [n3, r2]
              by_cases ht1 : th = (μ 16 (μ 26 k - 10).toNatClampNeg).toNatClampNeg
              · rw [same th hth, ht1, nI_nt p2]
                by_cases hq : X 66 (μ 16 (μ 26 k - 10).toNatClampNeg).toNatClampNeg = -1 ∧ ¬ μ 16 (μ 26 k - 10).toNatClampNeg = μ 22 i ∧ 0 < oth μ P v t i (k + 1) (μ 16 (μ 26 k - 10).toNatClampNeg).toNatClampNeg
                · rw [if_pos ⟨rfl, hq⟩, if_pos hq]
                · rw [if_neg (fun z => hq z.2), if_neg hq]
              · rw [if_neg (fun z => ht1 z.1), hR th hth, other th hth (fun h => ht1 (by rw [← h, nI_clamp (by omega)])) (by rw [hb]; exact yI_n (by omega))]
            · rw [if_neg hb]
              have hb2 : 0 ≤ μ 17 (μ 26 k - 10).toNatClampNeg ∧ μ 17 (μ 26 k - 10).toNatClampNeg < μ 13 14 ∧ ¬ μ 16 (μ 26 k - 10).toNatClampNeg = μ 17 (μ 26 k - 10).toNatClampNeg := by
                rcases p5 with ⟨-, z⟩ | ⟨-, z⟩
                · exact z
                · exact absurd z hb
              have hth2 := nt_lt hb2.1 hb2.2.1
              obtain ⟨X4, l1, l2, l3⟩ := x_note (show 8 * nTh μ ≤ 160 by omega) (th := (μ 17 (μ 26 k - 10).toNatClampNeg).toNatClampNeg) (by unfold nTh; omega) hA3 hB3 gA1 gB1 (μ 26 k - 10) (μ 22 i)
              rw [nI_nt hb2.1] at l1 l3
              have hne12 : ¬ (μ 17 (μ 26 k - 10).toNatClampNeg).toNatClampNeg = (μ 16 (μ 26 k - 10).toNatClampNeg).toNatClampNeg := fun h => hb2.2.2 (nt_inj p2 hb2.1 h.symm)
              rw [l1, Option.bind_some, Option.bind_some]
              refine nxt X4 (fun a ha => by rw [l2 a (by omega)]; exact hX3 a ha) (hA3.cong (l2 _ (by omega)) (l2 _ (by omega)) (l2 _ (by omega))) (hB3.cong (l2 _ (by omega)) (l2 _ (by omega)) (l2 _ (by omega))) ?_
              intro th hth
              have e3 : X3 66 (μ 17 (μ 26 k - 10).toNatClampNeg).toNatClampNeg = X 66 (μ 17 (μ 26 k - 10).toNatClampNeg).toNatClampNeg := by rw [n3, if_neg (fun z => hne12 z.1), r2]
              rw [l3, e3]
              by_cases ht1 : th = (μ 16 (μ 26 k - 10).toNatClampNeg).toNatClampNeg
              · rw [if_neg (fun z => hne12 (z.1.symm.trans ht1)), n3 th, r2, same th hth, ht1, nI_nt p2]
                by_cases hq : X 66 (μ 16 (μ 26 k - 10).toNatClampNeg).toNatClampNeg = -1 ∧ ¬ μ 16 (μ 26 k - 10).toNatClampNeg = μ 22 i ∧ 0 < oth μ P v t i (k + 1) (μ 16 (μ 26 k - 10).toNatClampNeg).toNatClampNeg
                · rw [if_pos ⟨rfl, hq⟩, if_pos hq]
                · rw [if_neg (fun z => hq z.2), if_neg hq]
              · have e4 : X3 66 th = X 66 th := by rw [n3, if_neg (fun z => ht1 z.1), r2]
                rw [e4]
                by_cases ht2 : th = (μ 17 (μ 26 k - 10).toNatClampNeg).toNatClampNeg
                · rw [same th hth, ht2, nI_nt hb2.1]
                  by_cases hq : X 66 (μ 17 (μ 26 k - 10).toNatClampNeg).toNatClampNeg = -1 ∧ ¬ μ 17 (μ 26 k - 10).toNatClampNeg = μ 22 i ∧ 0 < oth μ P v t i (k + 1) (μ 17 (μ 26 k - 10).toNatClampNeg).toNatClampNeg
                  · rw [if_pos ⟨rfl, hq⟩, if_pos hq]
                  · rw [if_neg (fun z => hq z.2), if_neg hq]
                · rw [if_neg (fun z => ht2 z.1), hR th hth, other th hth (fun h => ht1 (by rw [← h, nI_clamp (by omega)])) (fun h => ht2 (by rw [← h, nI_clamp (by omega)]))]
        by_cases hei : μ 26 k = nI i
        · have hcW : ¬ cndW μ v t i k = true := by rw [eW]; simp [hei]
          rw [if_pos hei]
          refine tail X1 hX1 (by rw [A1]; exact j2) ?_ r1
          unfold wdB
          rw [runW, if_neg hcW]
          exact hB1
        · have hcW : cndW μ v t i k = true := by rw [eW]; simp [hei, hc]
          rw [if_neg hei]
          obtain ⟨X2, k1, k2, k3⟩ := (hP k hkN).2.2 62 X1 _ m62 hX1 hB1 gB
          rw [k1, Option.bind_some]
          refine tail X2 (hX1.ofM m62 k3) ?_ ?_ ?_
          · rw [A1]
            exact j2.cong (k3 _ (by omega) (by omega) (by omega) (by omega) (by omega) (by omega) (by omega)) (k3 _ (by omega) (by omega) (by omega) (by omega) (by omega) (by omega) (by omega)) (k3 _ (by omega) (by omega) (by omega) (by omega) (by omega) (by omega) (by omega))
          · unfold wdB
            rw [runW, if_pos hcW]
            exact k2
          · rw [k3 66 (by omega) (by omega) (by omega) (by omega) (by omega) (by omega) (by omega)]
            exact r1
      · rw [if_neg hk2, if_neg (by decide)]
        exact idle (by unfold cnd; simp [hk2])
theorem x_fol66 {μ : am_Mu} (g4 : G4 μ) {a b v t : Int32} : ∀ q j n (X : am_Mu), j + q = nTh μ → q < n → X 13 14 = μ 13 14 → (∀ i, i < j → X 66 i = -1) → ∃ X', fTrace_follow_25 n a b v t (nI j) X = fTrace_follow_51 a b v t X' ∧ (∀ r, ¬ r = 66 → X' r = X r) ∧ ∀ i, i < nTh μ → X' 66 i = -1 := by
  have t20 : nTh μ ≤ 20 := nt_le (b := 20) g4.1.1 g4.1.2.1
  have en : μ 13 14 = nI (nTh μ) := (nI_nt g4.1.1).symm
  intro q
  induction q with
  | zero =>
    intro j n X hj hn hX h
    obtain ⟨n, rfl⟩ : ∃ k, n = k + 1 := ⟨n - 1, by omega⟩
    have : j = nTh μ := by omega
    subst this
    refine ⟨X, ?_, fun _ _ => rfl, h⟩
    rw [fTrace_follow_25, if_pos (by rw [hX, en]; exact Int32.le_refl _)]
  | succ q ih =>
    intro j n X hj hn hX h
    obtain ⟨n, rfl⟩ : ∃ k, n = k + 1 := ⟨n - 1, by omega⟩
    rw [fTrace_follow_25, if_neg (by rw [hX, en, nI_le_iff (by omega) (by omega)]; omega), inb_n (by omega) (by omega), cond_true, nI_clamp (by omega), show nI j + 1 = nI (j + 1) from nI_plus _ 1]
    obtain ⟨X', i1, i2, i3⟩ := ih (j + 1) n (am_up X 66 j (-1)) (by omega) (by omega) (by rw [up_row (by omega), hX]) (by
      intro i hi
      rw [up_at]
      by_cases hij : i = j
      · rw [if_pos hij]
      · rw [if_neg hij]; exact h i (by omega))
    exact ⟨X', i1, fun r hr => by rw [i2 r hr, up_row hr], i3⟩
/-- the whole of follow -/
theorem x_follow {μ : am_Mu} (g4 : G4 μ) {s : Nat} {P : Nat → Wd → Wd} (hP : PlayAll μ s P) (hPm : PlayM μ P) {i : Nat} (hi : i < 10) (v t : Int32) {X0 : am_Mu} (hX0 : SB X0 μ) : ∃ X', fTrace_follow (nI i) (nI s) v t X0 = some X' ∧ SB X' μ ∧ XW (8 * nTh μ) 58 X' (wdA μ P v t (nEv μ)) ∧ XW (8 * nTh μ) 62 X' (wdB μ P v t i (nEv μ)) ∧ ∀ th, th < nTh μ → X' 66 th = rcR μ P v t i (nEv μ) th := by
  obtain ⟨hN, -⟩ := evN_n g4
  have t20 : nTh μ ≤ 20 := nt_le (b := 20) g4.1.1 g4.1.2.1
  have m58 : isM 58 := by unfold isM; omega
  have m62 : isM 62 := by unfold isM; omega
  obtain ⟨X1, b1, b2, b3⟩ := x_begin m58 g4 (8 * nTh μ) 0 am_F X0 (by unfold nTh; omega) (by unfold am_F; omega) (by rw [hX0 13 (by omega)]) (fun j => by rw [hX0 14 (by omega)]) (fun k hk => absurd hk (by omega))
  have hX1 : SB X1 μ := hX0.ofM m58 b3.toM
  obtain ⟨X2, c1, c2, c3⟩ := x_begin m62 g4 (8 * nTh μ) 0 am_F X1 (by unfold nTh; omega) (by unfold am_F; omega) (by rw [hX1 13 (by omega)]) (fun j => by rw [hX1 14 (by omega)]) (fun k hk => absurd hk (by omega))
  have hX2 : SB X2 μ := hX1.ofM m62 c3.toM
  obtain ⟨X3, d1, d2, d3⟩ := x_fol66 g4 (a := nI i) (b := nI s) (v := v) (t := t) (nTh μ) 0 am_F X2 (by omega) (by unfold am_F; omega) (by rw [hX2 13 (by omega)]) (fun i hi => by omega)
  have hX3 : SB X3 μ := fun a ha => by rw [d2 a (by omega)]; exact hX2 a ha
  obtain ⟨X', i1, i2, i3, i4, i5⟩ := x_folL g4 hP hPm hi (v := v) (t := t) (nEv μ) 0 am_F X3 (by omega) (by unfold am_F; omega) hX3 ((b2.cong (c3 _ (by omega) (by omega) (by omega)) (c3 _ (by omega) (by omega) (by omega)) (c3 _ (by omega) (by omega) (by omega))).cong (d2 _ (by omega)) (d2 _ (by omega)) (d2 _ (by omega))) (c2.cong (d2 _ (by omega)) (d2 _ (by omega)) (d2 _ (by omega))) (fun th hth => d3 th hth)
  refine ⟨X', ?_, i2, i3, i4, i5⟩
  unfold fTrace_follow
  have e1 : fMarks_begin 58 X0 = some X1 := b1
  have e2 : fMarks_begin 62 X1 = some X2 := c1
  rw [e1, Option.bind_some, e2, Option.bind_some]
  change fTrace_follow_25 am_F (nI i) (nI s) v t 0 X2 = _ at d1
  rw [d1]
  exact i1

