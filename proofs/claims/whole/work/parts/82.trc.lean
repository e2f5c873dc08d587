/-! E: two worlds side by side -/
def dff (a b : Int32) : Int32 := if a = b then 0 else if a + b = 2 ∧ ¬ a = 1 then 2 else 1
def odv (A B : Wd) : Nat → Nat → Int32 → Int32
  | 0, _, r => r
  | q + 1, k, r => odv A B q (k + 1) (if r < dff (A k).1 (B k).1 then dff (A k).1 (B k).1 else r)
theorem dff_x {a b : Int32} (ha : V3 a) (hb : V3 b) : (if 0 ≤ a - b then a - b else 0 - (a - b)) = dff a b := by
  rcases ha with rfl | rfl | rfl <;> rcases hb with rfl | rfl | rfl <;> decide
theorem x_unl {K M N t : Nat} (hM : isM M) (hN : isM N) (hK : K ≤ 160) (ht : 8 * t + 8 ≤ K) {X : am_Mu} {A B : Wd} (hA : XW K M X A) (hB : XW K N X B) (gA : WG K A) (gB : WG K B) : ∀ q k r n, k + q = 8 * t + 8 → q < n → fMarks_unlike_8 n M N (nI t) r (nI k) X = some (odv A B q k r, X) := by
  have e8 : nI t * 8 + 8 = nI (8 * t + 8) := by
    show nI t * nI 8 + nI 8 = _
    rw [nI_mul, nI_plus, Nat.mul_comm]
  intro q
  induction q with
  | zero =>
    intro k r n hk hn
    obtain ⟨n, rfl⟩ : ∃ k, n = k + 1 := ⟨n - 1, by omega⟩
    rw [fMarks_unlike_8, if_pos (by rw [e8]; exact (nI_le_iff (by omega) (by omega)).mpr (by omega))]
    rfl
  | succ q ih =>
    intro k r n hk hn
    obtain ⟨n, rfl⟩ : ∃ k, n = k + 1 := ⟨n - 1, by omega⟩
    rw [fMarks_unlike_8, if_neg (by rw [e8, nI_le_iff (by omega) (by omega)]; omega), hM.m, cond_true, inb_n (by omega) (by omega), cond_true, hN.m, cond_true, nI_clamp (by omega), (hA k (by omega)).1, (hB k (by omega)).1, dff_x (gA k (by omega)).1 (gB k (by omega)).1, show nI k + 1 = nI (k + 1) from nI_plus _ 1, ih (k + 1) _ n (by omega) (by omega)]
    rfl
theorem x_oth {K t : Nat} (hK : K ≤ 160) (ht : 8 * t + 8 ≤ K) {X : am_Mu} {A B : Wd} (hA : XW K 58 X A) (hB : XW K 62 X B) (gA : WG K A) (gB : WG K B) : fTrace_otherwise (nI t) X = some (odv A B 8 (8 * t) 0, X) := by
  have e8 : nI t * 8 = nI (8 * t) := by
    show nI t * nI 8 = _
    rw [nI_mul, Nat.mul_comm]
  have h := x_unl (M := 58) (N := 62) (by unfold isM; omega) (by unfold isM; omega) hK ht hA hB gA gB 8 (8 * t) 0 am_F (by omega) (by unfold am_F; omega)
  unfold fTrace_otherwise fMarks_unlike
  rw [e8, h, Option.bind_some]
theorem m_oth {K t : Nat} (hK : K ≤ 160) (ht : 8 * t + 8 ≤ K) {Y : am_Mu} {A B : Wd} (hA : MW K 0 Y A) (hB : MW K 1 Y B) : fM_otherwise (nI t) Y = some (odv A B 8 (8 * t) 0, Y) := by
  have key : ∀ q j r n, j + q = 8 → q < n → fM_otherwise_4 n (nI t) r (nI j) Y = some (odv A B q (8 * t + j) r, Y) := by
    intro q
    induction q with
    | zero =>
      intro j r n hj hn
      obtain ⟨n, rfl⟩ : ∃ k, n = k + 1 := ⟨n - 1, by omega⟩
      rw [fM_otherwise_4, if_pos (by rw [show j = 8 by omega]; decide)]
      rfl
    | succ q ih =>
      intro j r n hj hn
      obtain ⟨n, rfl⟩ : ∃ k, n = k + 1 := ⟨n - 1, by omega⟩
      have a1 : Y 144 (8 * t + j) = (A (8 * t + j)).1 := by
        have := (hA (8 * t + j) (by omega)).1
        rwa [Nat.mul_zero, Nat.zero_add] at this
      have a2 : Y 144 (160 + 8 * t + j) = (B (8 * t + j)).1 := by
        have := (hB (8 * t + j) (by omega)).1
        rwa [Nat.mul_one, ← Nat.add_assoc] at this
      have e1 : (8 : Int32) * nI t + nI j = nI (8 * t + j) := by
        show nI 8 * nI t + _ = _
        rw [nI_mul, nI_plus]
      have e2 : ((160 : Int32) + (8 : Int32) * nI t) + nI j = nI (160 + 8 * t + j) := by
        show (nI 160 + nI 8 * nI t) + _ = _
        rw [nI_mul, nI_plus, nI_plus]
      have e71 : ∀ d : Int32, d = dff (A (8 * t + j)).1 (B (8 * t + j)).1 → fM_otherwise_71 (fM_otherwise_4 n) (nI t) r (nI j) d Y = some (odv A B (q + 1) (8 * t + j) r, Y) := by
        intro d hd
        unfold fM_otherwise_71 fM_otherwise_85 odv
        rw [show nI j + 1 = nI (j + 1) from nI_plus _ 1, ← hd]
        by_cases hc : d ≤ r
        · rw [if_pos hc, if_neg (Int32.not_lt.mpr hc), ih (j + 1) r n (by omega) (by omega), Nat.add_assoc]
        · rw [if_neg hc, if_pos (Int32.not_le.mp hc), ih (j + 1) d n (by omega) (by omega), Nat.add_assoc]
      rw [fM_otherwise_4, if_neg (by show ¬ nI 8 ≤ _; rw [nI_le_iff (by omega) (by omega)]; omega), e1, e2, inb_n (by omega) (by omega), cond_true, inb_n (by omega) (by omega), cond_true, nI_clamp (show 8 * t + j < 2 ^ 31 by omega), nI_clamp (show 160 + 8 * t + j < 2 ^ 31 by omega)]
      by_cases hab : (A (8 * t + j)).1 = (B (8 * t + j)).1
      · rw [if_neg (by rw [a1, a2]; simpa using hab)]
        exact e71 0 (by unfold dff; rw [if_pos hab])
      · rw [if_pos (by rw [a1, a2]; exact hab)]
        by_cases hs : (A (8 * t + j)).1 + (B (8 * t + j)).1 = 2
        · rw [if_neg (by rw [a1, a2]; simpa using hs)]
          by_cases h1 : (A (8 * t + j)).1 = 1
          · rw [if_pos (by rw [a1]; exact h1)]
            unfold fM_otherwise_70
            exact e71 1 (by unfold dff; rw [if_neg hab, if_neg (fun q => q.2 h1)])
          · rw [if_neg (by rw [a1]; exact h1)]
            exact e71 2 (by unfold dff; rw [if_neg hab, if_pos ⟨hs, h1⟩])
        · rw [if_pos (by rw [a1, a2]; exact hs)]
          unfold fM_otherwise_70
          exact e71 1 (by unfold dff; rw [if_neg hab, if_neg (fun q => hs q.1)])
  have := key 8 0 0 am_F (by omega) (by unfold am_F; omega)
  rw [Nat.add_zero] at this
  exact this
theorem dff_p (a b : Int32) : 0 ≤ dff a b ∧ (dff a b = 0 ↔ a = b) := by
  unfold dff
  by_cases h : a = b
  · rw [if_pos h]
    exact ⟨by decide, by simp [h]⟩
  · rw [if_neg h]
    split
    · exact ⟨by decide, by simp [h]⟩
    · exact ⟨by decide, by simp [h]⟩
theorem odv_le (A B : Wd) : ∀ q k r, r ≤ odv A B q k r := by
  intro q
  induction q with
  | zero => exact fun k r => Int32.le_refl _
  | succ q ih =>
    intro k r
    unfold odv
    have := ih (k + 1) (if r < dff (A k).1 (B k).1 then dff (A k).1 (B k).1 else r)
    refine Int32.le_trans ?_ this
    split
    · rename_i h
      exact Int32.le_of_lt h
    · exact Int32.le_refl _
theorem odv_z (A B : Wd) : ∀ q k, (∀ j, k ≤ j → j < k + q → (A j).1 = (B j).1) → odv A B q k 0 = 0 := by
  intro q
  induction q with
  | zero => exact fun k _ => rfl
  | succ q ih =>
    intro k h
    unfold odv
    rw [(dff_p _ _).2.mpr (h k (Nat.le_refl _) (by omega)), if_neg (by decide)]
    exact ih (k + 1) (fun j h1 h2 => h j (by omega) (by omega))
theorem odv_n (A B : Wd) : ∀ q k, ¬ 0 < odv A B q k 0 → ∀ j, k ≤ j → j < k + q → (A j).1 = (B j).1 := by
  intro q
  induction q with
  | zero => intro k h j h1 h2; omega
  | succ q ih =>
    intro k h j h1 h2
    unfold odv at h
    by_cases hd : (A k).1 = (B k).1
    · rw [(dff_p _ _).2.mpr hd, if_neg (by decide)] at h
      by_cases hjk : j = k
      · rw [hjk]; exact hd
      · exact ih (k + 1) h j (by omega) (by omega)
    · exfalso
      obtain ⟨p1, p2⟩ := dff_p (A k).1 (B k).1
      have hpos : 0 < dff (A k).1 (B k).1 := by
        have : ¬ dff (A k).1 (B k).1 = 0 := fun q => hd (p2.mp q)
        grind
      rw [if_pos hpos] at h
      have := odv_le A B q (k + 1) (dff (A k).1 (B k).1)
      grind
theorem odv_cong {A B A' B' : Wd} : ∀ q k r, (∀ j, k ≤ j → j < k + q → A' j = A j ∧ B' j = B j) → odv A' B' q k r = odv A B q k r := by
  intro q
  induction q with
  | zero => exact fun _ _ _ => rfl
  | succ q ih =>
    intro k r h
    unfold odv
    rw [(h k (Nat.le_refl _) (by omega)).1, (h k (Nat.le_refl _) (by omega)).2, ih (k + 1) _ (fun j h1 h2 => h j (by omega) (by omega))]
/-! who is reached, and by which act -/
abbrev wdA (μ : am_Mu) (P : Nat → Wd → Wd) (v t : Int32) (k : Nat) : Wd := runW P (cnd μ v t) (wd0 μ) k
abbrev wdB (μ : am_Mu) (P : Nat → Wd → Wd) (v t : Int32) (i k : Nat) : Wd := runW P (cndW μ v t (nI (1000 + i))) (wd0 μ) k
abbrev oth (μ : am_Mu) (P : Nat → Wd → Wd) (v t : Int32) (i k th : Nat) : Int32 := odv (wdA μ P v t k) (wdB μ P v t i k) 8 (8 * th) 0
def rcR (μ : am_Mu) (P : Nat → Wd → Wd) (v t : Int32) (i : Nat) : Nat → Nat → Int32
  | 0 => fun _ => -1
  | k + 1 => fun th => if cnd μ v t k = true ∧ ¬ μ 26 k < 10 ∧ rcR μ P v t i k th = -1 ∧ ¬ nI th = μ 22 i ∧ 0 < oth μ P v t i (k + 1) th then μ 26 k - 10 else rcR μ P v t i k th
theorem evi1 {x y n : Int32} (h1 : 0 ≤ x) (h2 : x < n) (h3 : n ≤ 10) (h4 : 0 ≤ y) : (1000 + x = 1000 + y) ↔ (x = y) := by grind
theorem evi2 {x y n : Int32} (h1 : 10 ≤ x) (h2 : x < 10 + n) (h0 : 0 ≤ n) (h3 : n ≤ 200) (h4 : 0 ≤ y) (h5 : y < 10) : (x - 10 = 1000 + y) ↔ (x = y) := by
  have h6 : x < 210 := by grind
  constructor
  · intro h
    exfalso
    have : x = 1010 + y := by grind
    grind
  · intro h
    exfalso
    grind
theorem cndW_i {μ : am_Mu} (g4 : G4 μ) {v t : Int32} {i k : Nat} (hi : i < 10) (hk : k < nEv μ) : cndW μ v t (nI (1000 + i)) k = (cnd μ v t k && !decide (μ 26 k = nI i)) := by
  have : (μ 143 k = nI (1000 + i)) ↔ (μ 26 k = nI i) := by
    have e : nI (1000 + i) = 1000 + nI i := (nI_plus 1000 i).symm
    have hi0 : 0 ≤ nI i := nI_pos' (by omega)
    have hi10 : nI i < 10 := (nI_lt_iff (b := 10) (by omega) (by omega)).mpr hi
    have this_m := g4.2.2.1.2.1
    have this_n := g4.2.1.2.1
    have this_0 := g4.2.1.1
    rw [e]
    rcases ev_rel g4 hk with ⟨x1, x2, x3⟩ | ⟨x1, x2, x3⟩
    · rw [x3]; exact evi1 x1 x2 this_m hi0
    · rw [x3]; exact evi2 x1 x2 this_0 this_n hi0 hi10
  unfold cndW
  by_cases h : μ 26 k = nI i
  · simp [h, this.mpr h]
  · have h2 : ¬ μ 143 k = nI (1000 + i) := fun q => h (this.mp q)
    simp [h, h2]
/-- a thing that wasn't reached is as it would be -/
theorem rc_inv {μ : am_Mu} (g1 : G1 μ) (g3 : G3 μ) (g4 : G4 μ) {s : Nat} {P : Nat → Wd → Wd} (hP : PlayAll μ s P) (hPm : ∀ k, k < nEv μ → μ 26 k < 10 → ∃ t j, t < nTh μ ∧ j < 8 ∧ nI t = μ 22 (μ 26 k).toNatClampNeg ∧ P k = fun W => wup W (8 * t + j) (2, μ 24 (μ 26 k).toNatClampNeg, μ 24 (μ 26 k).toNatClampNeg)) {v t : Int32} {i : Nat} (hi : i < 10) : ∀ k, k ≤ nEv μ → (∀ th, th < nTh μ → ¬ nI th = μ 22 i → rcR μ P v t i k th = -1 → ¬ 0 < oth μ P v t i k th) ∧ (k < nEv μ → cnd μ v t k = true → ∀ th, th < nTh μ → ¬ evT μ (μ 26 k) th → oth μ P v t i (k + 1) th = oth μ P v t i k th) := by
  have t20 : nTh μ ≤ 20 := nt_le (b := 20) g4.1.1 g4.1.2.1
  -- untouched things
  have unt : ∀ k, k < nEv μ → ∀ th, th < nTh μ → ¬ evT μ (μ 26 k) th → oth μ P v t i (k + 1) th = oth μ P v t i k th := by
    intro k hk th hth hno
    unfold oth
    refine odv_cong 8 (8 * th) 0 ?_
    intro j h1 h2
    have hj8 : j / 8 = th := by omega
    have hp := (hP k hk).2.1
    constructor
    · unfold wdA
      rw [runW]
      split
      · exact hp _ j (by omega) (by rw [hj8]; exact hno)
      · rfl
    · unfold wdB
      rw [runW]
      split
      · exact hp _ j (by omega) (by rw [hj8]; exact hno)
      · rfl
  intro k
  induction k with
  | zero =>
    intro hk
    refine ⟨?_, fun h _ => unt 0 h⟩
    intro th hth hne _
    have : oth μ P v t i 0 th = 0 := odv_z _ _ 8 (8 * th) (fun j _ _ => rfl)
    rw [this]
    decide
  | succ k ih =>
    intro hk
    refine ⟨?_, fun h _ => unt (k + 1) h⟩
    have hkN : k < nEv μ := by omega
    obtain ⟨i1, -⟩ := ih (by omega)
    intro th hth hne hr
    rw [rcR] at hr
    dsimp only at hr
    by_cases hc : cnd μ v t k = true
    · by_cases he : μ 26 k < 10
      · rw [if_neg (fun q => q.2.1 he)] at hr
        have hprev := odv_n _ _ 8 (8 * th) (i1 th hth hne hr)
        obtain ⟨t', j', p1, p2, p3, p4⟩ := hPm k hkN he
        have hz : oth μ P v t i (k + 1) th = 0 := by
          refine odv_z _ _ 8 (8 * th) ?_
          intro j h1 h2
          unfold wdA wdB
          rw [runW, if_pos hc, runW, cndW_i g4 hi hkN, hc, p4]
          by_cases hei : μ 26 k = nI i
          · rw [if_neg (by simp [hei])]
            dsimp only
            rw [wup_ne (by
              intro hq
              have : t' = th := by omega
              rw [hei, nI_clamp (by omega)] at p3
              rw [this] at p3
              exact hne p3)]
            exact hprev j h1 h2
          · rw [if_pos (by simp [hei])]
            dsimp only
            unfold wup
            by_cases hjp : j = 8 * t' + j'
            · rw [if_pos hjp, if_pos hjp]
            · rw [if_neg hjp, if_neg hjp]
              exact hprev j h1 h2
        rw [hz]
        decide
      · by_cases hall : rcR μ P v t i k th = -1
        · by_cases hpos : 0 < oth μ P v t i (k + 1) th
          · rw [if_pos ⟨hc, he, hall, hne, hpos⟩] at hr
            exfalso
            have h200 := g4.2.1.2.1
            have h0 := g4.2.1.1
            rcases ev_rel g4 hkN with ⟨x1, x2, x3⟩ | ⟨x1, x2, x3⟩
            · have h10 := g4.2.2.1.2.1
              exact he (by grind)
            · have h6 : μ 26 k < 210 := by grind
              have h7 : 0 ≤ μ 26 k - 10 := by grind
              rw [hr] at h7
              exact absurd h7 (by decide)
          · exact hpos
        · rw [if_neg (fun q => hall q.2.2.1)] at hr
          exact absurd hr hall
    · rw [if_neg (fun q => hc q.1)] at hr
      have hcW : ¬ cndW μ v t (nI (1000 + i)) k = true := by
        unfold cndW
        simp [hc]
      have : oth μ P v t i (k + 1) th = oth μ P v t i k th := by
        unfold oth wdA wdB
        rw [runW, if_neg hc, runW, if_neg hcW]
      rw [this]
      exact i1 th hth hne hr
