/-! E: mark, since, quarrels -/
theorem l_canAsk (a b c d e : Int32) (μ : am_Mu) : fB_canAsk a b c d e μ = some (b2i ((0 ≤ a ∧ a < 2) ∧ (0 ≤ b ∧ b < μ 13 14) ∧ (0 ≤ c ∧ c < 8) ∧ (0 ≤ d ∧ d < 1440000) ∧ 0 ≤ e ∧ e < 1440000), μ) := by
  unfold fB_canAsk fB_canAsk_51
  rw [l_isIn, Option.bind_some]
  dsimp only
  by_cases h1 : 0 ≤ a ∧ a < 2
  · rw [b2i_t h1, if_neg (by decide), l_isIn, Option.bind_some]
    dsimp only
    by_cases h2 : 0 ≤ b ∧ b < μ 13 14
    · rw [b2i_t h2, if_neg (by decide), l_isIn, Option.bind_some]
      dsimp only
      by_cases h3 : 0 ≤ c ∧ c < 8
      · rw [b2i_t h3, if_neg (by decide), l_isMinuteB, Option.bind_some]
        dsimp only
        by_cases h4 : 0 ≤ d ∧ d < 1440000
        · rw [b2i_t h4, if_neg (by decide), l_isMinuteB, Option.bind_some]
          dsimp only
          by_cases h5 : 0 ≤ e ∧ e < 1440000
          · rw [b2i_t h5, if_neg (by decide), b2i_t ⟨h1, h2, h3, h4, h5⟩]
          · rw [b2i_f h5, if_pos rfl, b2i_f (fun h => h5 h.2.2.2.2)]
        · rw [b2i_f h4, if_pos rfl, b2i_f (fun h => h4 h.2.2.2.1)]
      · rw [b2i_f h3, if_pos rfl, b2i_f (fun h => h3 h.2.2.1)]
    · rw [b2i_f h2, if_pos rfl, b2i_f (fun h => h2 h.2.1)]
  · rw [b2i_f h1, if_pos rfl, b2i_f (fun h => h1 h.1)]
def canM (μ : am_Mu) (a b c d e : Int32) : Prop := (0 ≤ a ∧ a < 2) ∧ (0 ≤ b ∧ b < μ 13 14) ∧ (0 ≤ c ∧ c < 8) ∧ (0 ≤ d ∧ d < 1440000) ∧ 0 ≤ e ∧ e < 1440000
theorem m_markB {μ X : am_Mu} (h4 : X 108 4 = μ 13 14) (hb : 0 ≤ μ 13 14) (a b c d e : Int32) : fM_mark a b c d e X = if (0 ≤ a ∧ a < 2) ∧ (0 ≤ b ∧ b < μ 13 14) ∧ (0 ≤ c ∧ c < 8) ∧ (0 ≤ d ∧ d < 1440000) ∧ 0 ≤ e ∧ e < 1440000 then ((fM_goes a 0 d e (-1) X).bind fun q11 => (bif am_inb (((8 : Int32) * b) + c) 320 then some ((q11 144 (((((8 : Int32) * b) + c)).toNatClampNeg)), q11) else none)) else some (-1, X) := by
  unfold fM_mark
  rw [l_isSchool, Option.bind_some]
  dsimp only
  by_cases h1 : 0 ≤ a ∧ a < 2
  · rw [b2i_t h1, if_neg (by decide), l_isThing, Option.bind_some]
    dsimp only
    by_cases h2 : 0 ≤ b ∧ b < μ 13 14
    · rw [b2i_t (show 0 ≤ b ∧ b ≤ X 108 4 - 1 by rw [h4]; grind), if_neg (by decide), l_isMark, Option.bind_some]
      dsimp only
      by_cases h3 : 0 ≤ c ∧ c < 8
      · rw [b2i_t (show 0 ≤ c ∧ c ≤ 7 by grind), if_neg (by decide), l_isMinuteM, Option.bind_some]
        dsimp only
        by_cases h5 : 0 ≤ d ∧ d < 1440000
        · rw [b2i_t (show 0 ≤ d ∧ d ≤ 1439999 by grind), if_neg (by decide), l_isMinuteM, Option.bind_some]
          dsimp only
          by_cases h6 : 0 ≤ e ∧ e < 1440000
          · rw [b2i_t (show 0 ≤ e ∧ e ≤ 1439999 by grind), if_pos (by decide), if_pos ⟨h1, h2, h3, h5, h6⟩]
          · rw [b2i_f (show ¬ (0 ≤ e ∧ e ≤ 1439999) by grind), if_neg (by decide), if_neg (fun h => h6 h.2.2.2.2)]
        · rw [b2i_f (show ¬ (0 ≤ d ∧ d ≤ 1439999) by grind), if_pos rfl, if_neg (fun h => h5 h.2.2.2.1)]
      · rw [b2i_f (show ¬ (0 ≤ c ∧ c ≤ 7) by grind), if_pos rfl, if_neg (fun h => h3 h.2.2.1)]
    · rw [b2i_f (show ¬ (0 ≤ b ∧ b ≤ X 108 4 - 1) by rw [h4]; grind), if_pos rfl, if_neg (fun h => h2 h.2.1)]
  · rw [b2i_f h1, if_pos rfl, if_neg (fun h => h1 h.1)]
theorem tell_both {μ : am_Mu} (g1 : G1 μ) (g3 : G3 μ) (g4 : G4 μ) {s : Nat} (hs : s < 2) {M w : Nat} (hM : isM M) (hw : w < 2) (v t : Int32) : ∃ W, WG (8 * nTh μ) W ∧ (∀ X, SB X μ → ∃ X', fJudge_tellWhatIs M (nI s) v t X = some X' ∧ XW (8 * nTh μ) M X' W ∧ FrMk M X' X) ∧ ∀ Y, SB Y μ → ∃ Y', fM_goes (nI s) (nI w) v t (-1) Y = some Y' ∧ MW (8 * nTh μ) w Y' W ∧ FrN w Y' Y := by
  obtain ⟨P, hP⟩ := play_all g1 g3 g4 hs
  refine ⟨runW P (cnd μ v t) (wd0 μ) (nEv μ), runW_g hP (wd0_g μ _) _ (Nat.le_refl _), fun X hX => x_tellW g4 hP hM hX, ?_⟩
  intro Y hY
  obtain ⟨Y', i1, i2, i3⟩ := m_goesW g4 hP hw (v := v) (t := t) (wo := -1) (Or.inl (by decide)) hY
  rw [cndW_all g4 (by decide) _ (Nat.le_refl _)] at i2
  exact ⟨Y', i1, i2, i3⟩
theorem place_in {μ : am_Mu} (hb20 : μ 13 14 ≤ 20) {b c : Int32} (h2 : 0 ≤ b ∧ b < μ 13 14) (h3 : 0 ≤ c ∧ c < 8) : ∃ k, k < 8 * nTh μ ∧ k < 160 ∧ b * 8 + c = nI k ∧ (8 : Int32) * b + c = nI k := by
  have hb := nt_lt h2.1 h2.2
  have hc := nt_lt (b := 8) h3.1 h3.2
  have h8 : (8 : Int32).toNatClampNeg = 8 := rfl
  have h20 : nTh μ ≤ 20 := nt_le (b := 20) (by grind) hb20
  refine ⟨8 * b.toNatClampNeg + c.toNatClampNeg, by unfold nTh; omega, by unfold nTh at h20; omega, ?_, ?_⟩
  · rw [← nI_plus, nI_nt h3.1, Nat.mul_comm, ← nI_mul, nI_nt h2.1]
    rfl
  · rw [← nI_plus, nI_nt h3.1, ← nI_mul, nI_nt h2.1]
    rfl
theorem op_mark (a b c d e : Int32) (μ : am_Mu) : Op (fB_mark a b c d e) (fM_mark a b c d e) (fun μ => G1 μ ∧ G3 μ ∧ G4 μ) (fun _ => True) μ := by
  rintro ⟨g1, g3, g4⟩
  obtain ⟨⟨t1, t2, t3, -⟩, -⟩ := id g4
  by_cases hc : (0 ≤ a ∧ a < 2) ∧ (0 ≤ b ∧ b < μ 13 14) ∧ (0 ≤ c ∧ c < 8) ∧ (0 ≤ d ∧ d < 1440000) ∧ 0 ≤ e ∧ e < 1440000
  · obtain ⟨s, rfl, hs⟩ : ∃ s, a = nI s ∧ s < 2 := ⟨a.toNatClampNeg, (nI_nt hc.1.1).symm, nt_lt (b := 2) hc.1.1 hc.1.2⟩
    obtain ⟨k, k1, k160, k2, k3⟩ := place_in t2 hc.2.1 hc.2.2.1
    obtain ⟨W, w1, w2, w3⟩ := tell_both g1 g3 g4 hs (M := 68) (w := 0) (by unfold isM; omega) (by omega) d e
    obtain ⟨X, x1, x2, x3⟩ := w2 μ SB.rf
    have hX : SB X μ := SB.rf.ofM (by unfold isM; omega) x3
    obtain ⟨Y, y1, y2, y3⟩ := w3 X hX
    refine ⟨(W k).1, X, Y, ?_, ?_, trivial⟩
    · unfold fB_mark
      rw [l_canAsk, Option.bind_some, b2i_t hc]
      dsimp only
      rw [if_pos (by decide), x1, Option.bind_some, k2, inb_n k160 (by omega), cond_true, nI_clamp (by omega), (x2 k k1).1]
    · rw [m_markB (by rw [hX 108 (by omega), t3]) t1, if_pos hc]
      change fM_goes (nI s) 0 d e (-1) X = some Y at y1
      rw [y1, Option.bind_some, k3, inb_n (by omega) (by omega), cond_true, nI_clamp (by omega)]
      have := (y2 k k1).1
      rw [Nat.mul_zero, Nat.zero_add] at this
      rw [this]
  · refine ⟨-1, μ, μ, ?_, ?_, trivial⟩
    · unfold fB_mark
      rw [l_canAsk, Option.bind_some, b2i_f hc]
      rfl
    · rw [m_markB t3 t1, if_neg hc]
theorem op_since (a b c d e f : Int32) (μ : am_Mu) : Op (fB_since a b c d e f) (fM_since a b c d e f) (fun μ => G1 μ ∧ G3 μ ∧ G4 μ) (fun _ => True) μ := by
  rintro ⟨g1, g3, g4⟩
  obtain ⟨⟨t1, t2, t3, -⟩, -⟩ := id g4
  by_cases hc : (0 ≤ a ∧ a < 2) ∧ (0 ≤ b ∧ b < μ 13 14) ∧ (0 ≤ c ∧ c < 8) ∧ (0 ≤ d ∧ d < 1440000) ∧ 0 ≤ e ∧ e < 1440000
  · by_cases hf : 0 ≤ f ∧ f < 2
    · obtain ⟨s, rfl, hs⟩ : ∃ s, a = nI s ∧ s < 2 := ⟨a.toNatClampNeg, (nI_nt hc.1.1).symm, nt_lt (b := 2) hc.1.1 hc.1.2⟩
      obtain ⟨k, k1, k160, k2, k3⟩ := place_in t2 hc.2.1 hc.2.2.1
      obtain ⟨W, w1, w2, w3⟩ := tell_both g1 g3 g4 hs (M := 68) (w := 0) (by unfold isM; omega) (by omega) d e
      obtain ⟨X, x1, x2, x3⟩ := w2 μ SB.rf
      have hX : SB X μ := SB.rf.ofM (by unfold isM; omega) x3
      obtain ⟨Y, y1, y2, y3⟩ := w3 X hX
      change fM_goes (nI s) 0 d e (-1) X = some Y at y1
      obtain ⟨v1, v2⟩ := x2 k k1
      obtain ⟨u1, u2⟩ := y2 k k1
      rw [Nat.mul_zero, Nat.zero_add] at u1 u2
      have hV := (w1 k k1).1
      have exB : fB_since (nI s) b c d e f μ = if ¬ (W k).1 = 0 then (if ¬ f = 0 then some (X 71 k, X) else some (X 70 k, X)) else some (-1, X) := by
        unfold fB_since
        rw [l_canAsk, Option.bind_some, b2i_t hc]
        dsimp only
        rw [if_neg (by decide), l_isIn, Option.bind_some, b2i_t hf]
        dsimp only
        rw [if_pos (by decide), x1, Option.bind_some, k2, inb_n k160 (by omega), cond_true, nI_clamp (by omega)]
        have v1' : X 69 k = (W k).1 := v1
        by_cases hz : (W k).1 = 0
        · rw [if_neg (by rw [v1']; simpa using hz), if_neg (by simpa using hz)]
        · rw [if_pos (by rw [v1']; exact hz), if_pos hz]
      have exM : fM_since (nI s) b c d e f X = if ¬ (W k).1 = 0 then (if ¬ f = 0 then some (Y 146 k, Y) else some (Y 145 k, Y)) else some (-1, Y) := by
        unfold fM_since
        rw [l_lies, Option.bind_some, b2i_t (show 0 ≤ f ∧ f ≤ 1 by grind)]
        dsimp only
        rw [if_neg (by decide), m_markB (by rw [hX 108 (by omega), t3]) t1, if_pos hc, y1, Option.bind_some, k3, inb_n (by omega) (by omega), cond_true, nI_clamp (by omega), Option.bind_some, cond_true, cond_true]
        dsimp only
        by_cases hz : (W k).1 = 0
        · rw [if_neg (by rw [u1, hz]; decide), if_neg (by simpa using hz)]
        · rw [if_pos (by
            rw [u1]
            rcases hV with h | h | h
            · exact absurd h hz
            · rw [h]; decide
            · rw [h]; decide), if_pos hz]
      refine ⟨if ¬ (W k).1 = 0 then (if ¬ f = 0 then (W k).2.2 else (W k).2.1) else -1, X, Y, ?_, ?_, trivial⟩
      · rw [exB]
        by_cases hz : (W k).1 = 0
        · rw [if_neg (by simpa using hz), if_neg (by simpa using hz)]
        · rw [if_pos hz, if_pos hz]
          obtain ⟨v2, v3⟩ := v2 hz
          have v2' : X 70 k = _ := v2
          have v3' : X 71 k = _ := v3
          rw [v2', v3']
          by_cases hf0 : f = 0
          · rw [if_neg (by simpa using hf0), if_neg (by simpa using hf0)]
          · rw [if_pos hf0, if_pos hf0]
      · rw [exM]
        by_cases hz : (W k).1 = 0
        · rw [if_neg (by simpa using hz), if_neg (by simpa using hz)]
        · rw [if_pos hz, if_pos hz]
          obtain ⟨u2, u3⟩ := u2 hz
          rw [u2, u3]
          by_cases hf0 : f = 0
          · rw [if_neg (by simpa using hf0), if_neg (by simpa using hf0)]
          · rw [if_pos hf0, if_pos hf0]
    · refine ⟨-1, μ, μ, ?_, ?_, trivial⟩
      · unfold fB_since
        rw [l_canAsk, Option.bind_some, b2i_t hc]
        dsimp only
        rw [if_neg (by decide), l_isIn, Option.bind_some, b2i_f hf]
        rfl
      · unfold fM_since
        rw [l_lies, Option.bind_some, b2i_f (show ¬ (0 ≤ f ∧ f ≤ 1) by grind)]
        rfl
  · refine ⟨-1, μ, μ, ?_, ?_, trivial⟩
    · unfold fB_since
      rw [l_canAsk, Option.bind_some, b2i_f hc]
      rfl
    · unfold fM_since
      rw [l_lies, Option.bind_some]
      dsimp only
      by_cases hf : 0 ≤ f ∧ f ≤ 1
      · rw [b2i_t hf, if_neg (by decide), m_markB t3 t1, if_neg hc, Option.bind_some]
        rfl
      · rw [b2i_f hf, if_pos rfl]
/-! quarrels -/
def qp (D : Nat → Bool) : Nat → Nat → Nat → Int32
  | 0, _, _ => -1
  | q + 1, k, l => if D k = true then (if l = 0 then nI k else qp D q (k + 1) (l - 1)) else qp D q (k + 1) l
def qc (D : Nat → Bool) : Nat → Nat → Int32 → Int32
  | 0, _, r => r
  | q + 1, k, r => if D k = true then qc D q (k + 1) (r + 1) else qc D q (k + 1) r
def difW (W V : Wd) (k : Nat) : Bool := !decide ((W k).1 = (V k).1)
theorem qp_in (D : Nat → Bool) : ∀ q k l, qp D q k l = -1 ∨ ∃ j, k ≤ j ∧ j < k + q ∧ qp D q k l = nI j := by
  intro q
  induction q with
  | zero => exact fun k l => Or.inl rfl
  | succ q ih =>
    intro k l
    have step : ∀ l', qp D q (k + 1) l' = -1 ∨ ∃ j, k ≤ j ∧ j < k + (q + 1) ∧ qp D q (k + 1) l' = nI j := by
      intro l'
      rcases ih (k + 1) l' with h | ⟨j, h1, h2, h3⟩
      · exact Or.inl h
      · exact Or.inr ⟨j, by omega, by omega, h3⟩
    unfold qp
    split
    · split
      · exact Or.inr ⟨k, Nat.le_refl _, by omega, rfl⟩
      · exact step _
    · exact step _
theorem e8K {μ : am_Mu} (t1 : 0 ≤ μ 13 14) : μ 13 14 * 8 = nI (8 * nTh μ) ∧ (8 : Int32) * μ 13 14 = nI (8 * nTh μ) := by
  have e : μ 13 14 = nI (nTh μ) := (nI_nt t1).symm
  constructor
  · rw [e]
    show nI _ * nI 8 = _
    rw [nI_mul, Nat.mul_comm]
  · rw [e]
    show nI 8 * nI _ = _
    rw [nI_mul]
theorem x_qp {μ : am_Mu} (g4 : G4 μ) {W V : Wd} {X : am_Mu} (hX : X 13 14 = μ 13 14) (h1 : XW (8 * nTh μ) 68 X W) (h2 : XW (8 * nTh μ) 72 X V) : ∀ q k l n, k + q = 8 * nTh μ → q < n → l < 2 ^ 31 → fB_quarrelPlace_4 n (nI l) (nI k) X = some (qp (difW W V) q k l, X) := by
  obtain ⟨⟨t1, t2, -⟩, -⟩ := g4
  have h20 : nTh μ ≤ 20 := nt_le (b := 20) t1 t2
  have e8 := (e8K t1).1
  intro q
  induction q with
  | zero =>
    intro k l n hk hn hl
    obtain ⟨n, rfl⟩ : ∃ k, n = k + 1 := ⟨n - 1, by omega⟩
    rw [fB_quarrelPlace_4, if_pos (by rw [hX, e8]; exact (nI_le_iff (by omega) (by omega)).mpr (by omega))]
    rfl
  | succ q ih =>
    intro k l n hk hn hl
    obtain ⟨n, rfl⟩ : ∃ k, n = k + 1 := ⟨n - 1, by omega⟩
    have a1 : X 69 k = (W k).1 := (h1 k (by omega)).1
    have a2 : X 73 k = (V k).1 := (h2 k (by omega)).1
    have ek : nI k + 1 = nI (k + 1) := nI_plus _ 1
    rw [fB_quarrelPlace_4, if_neg (by rw [hX, e8, nI_le_iff (by omega) (by omega)]; omega), inb_n (by omega) (by omega), cond_true, nI_clamp (by omega)]
    unfold fB_quarrelPlace_48 qp
    rw [ek]
    have hdf : (W k).1 = (V k).1 → ¬ difW W V k = true := by
      intro h
      unfold difW
      simp [h]
    have hdt : ¬ (W k).1 = (V k).1 → difW W V k = true := by
      intro h
      unfold difW
      simp [h]
    by_cases hd : (W k).1 = (V k).1
    · rw [if_pos (by rw [a1, a2]; exact hd), if_neg (hdf hd), ih (k + 1) l n (by omega) (by omega) hl]
    · rw [if_neg (by rw [a1, a2]; exact hd), if_pos (hdt hd)]
      by_cases hl0 : l = 0
      · rw [hl0, if_neg (show ¬ ¬ nI 0 = 0 by decide), if_pos (show (0 : Nat) = 0 from rfl)]
      · have el : nI l + (-1) = nI (l - 1) := by
          have : nI l = nI (l - 1) + 1 := by
            rw [show l = (l - 1) + 1 by omega]
            exact (nI_plus _ 1).symm
          rw [this]
          grind
        rw [if_pos (by show ¬ _ = nI 0; rw [nI_inj hl (by omega)]; exact hl0), if_neg hl0, el, ih (k + 1) (l - 1) n (by omega) (by omega) (by omega)]
theorem m_qp {μ : am_Mu} (g4 : G4 μ) {W V : Wd} {Y : am_Mu} (hY : Y 108 4 = μ 13 14) (h1 : MW (8 * nTh μ) 0 Y W) (h2 : MW (8 * nTh μ) 1 Y V) {i : Nat} (hi : i < 2 ^ 31) : ∀ q k c n, k + q = 8 * nTh μ → q < n → c ≤ i → fM_quarrelAt_34 n (nI i) (nI c) (nI k) Y = some (qp (difW W V) q k (i - c), Y) := by
  obtain ⟨⟨t1, t2, -⟩, -⟩ := g4
  have h20 : nTh μ ≤ 20 := nt_le (b := 20) t1 t2
  have e8 := (e8K t1).2
  intro q
  induction q with
  | zero =>
    intro k c n hk hn hc
    obtain ⟨n, rfl⟩ : ∃ k, n = k + 1 := ⟨n - 1, by omega⟩
    rw [fM_quarrelAt_34, if_pos (by rw [hY, e8]; exact (nI_le_iff (by omega) (by omega)).mpr (by omega))]
    rfl
  | succ q ih =>
    intro k c n hk hn hc
    obtain ⟨n, rfl⟩ : ∃ k, n = k + 1 := ⟨n - 1, by omega⟩
    have a1 : Y 144 k = (W k).1 := by
      have := (h1 k (by omega)).1
      rwa [Nat.mul_zero, Nat.zero_add] at this
    have a2 : Y 144 (160 + k) = (V k).1 := (h2 k (by omega)).1
    have ek : nI k + 1 = nI (k + 1) := nI_plus _ 1
    have e160 : (160 : Int32) + nI k = nI (160 + k) := nI_plus 160 k
    rw [fM_quarrelAt_34, if_neg (by rw [hY, e8, nI_le_iff (by omega) (by omega)]; omega), inb_n (by omega) (by omega), cond_true, e160, inb_n (by omega) (by omega), cond_true, nI_clamp (show k < 2 ^ 31 by omega), nI_clamp (show 160 + k < 2 ^ 31 by omega)]
    unfold fM_quarrelAt_77 qp
    rw [ek]
    have hdf : (W k).1 = (V k).1 → ¬ difW W V k = true := by
      intro h
      unfold difW
      simp [h]
    have hdt : ¬ (W k).1 = (V k).1 → difW W V k = true := by
      intro h
      unfold difW
      simp [h]
    by_cases hd : (W k).1 = (V k).1
    · rw [if_neg (by rw [a1, a2]; simpa using hd), if_neg (hdf hd), ih (k + 1) c n (by omega) (by omega) hc]
    · rw [if_pos (by rw [a1, a2]; exact hd), if_pos (hdt hd)]
      by_cases hci : c = i
      · rw [if_neg (by rw [hci]; simp), if_pos (by omega)]
      · rw [if_pos (by rw [nI_inj (by omega) hi]; exact hci), if_neg (by omega), show nI c + 1 = nI (c + 1) from nI_plus _ 1, ih (k + 1) (c + 1) n (by omega) (by omega) (by omega), show i - (c + 1) = i - c - 1 by omega]
theorem x_qc {μ : am_Mu} (g4 : G4 μ) {W V : Wd} {X : am_Mu} (hX : X 13 14 = μ 13 14) (h1 : XW (8 * nTh μ) 68 X W) (h2 : XW (8 * nTh μ) 72 X V) : ∀ q k r n, k + q = 8 * nTh μ → q < n → fB_quarrelsHeld_4 n r (nI k) X = some (qc (difW W V) q k r, X) := by
  obtain ⟨⟨t1, t2, -⟩, -⟩ := g4
  have h20 : nTh μ ≤ 20 := nt_le (b := 20) t1 t2
  have e8 := (e8K t1).1
  intro q
  induction q with
  | zero =>
    intro k r n hk hn
    obtain ⟨n, rfl⟩ : ∃ k, n = k + 1 := ⟨n - 1, by omega⟩
    rw [fB_quarrelsHeld_4, if_pos (by rw [hX, e8]; exact (nI_le_iff (by omega) (by omega)).mpr (by omega))]
    rfl
  | succ q ih =>
    intro k r n hk hn
    obtain ⟨n, rfl⟩ : ∃ k, n = k + 1 := ⟨n - 1, by omega⟩
    have a1 : X 69 k = (W k).1 := (h1 k (by omega)).1
    have a2 : X 73 k = (V k).1 := (h2 k (by omega)).1
    have ek : nI k + 1 = nI (k + 1) := nI_plus _ 1
    rw [fB_quarrelsHeld_4, if_neg (by rw [hX, e8, nI_le_iff (by omega) (by omega)]; omega), inb_n (by omega) (by omega), cond_true, nI_clamp (by omega)]
    unfold fB_quarrelsHeld_42 qc
    rw [ek]
    have hdf : (W k).1 = (V k).1 → ¬ difW W V k = true := by
      intro h
      unfold difW
      simp [h]
    have hdt : ¬ (W k).1 = (V k).1 → difW W V k = true := by
      intro h
      unfold difW
      simp [h]
    by_cases hd : (W k).1 = (V k).1
    · rw [if_pos (by rw [a1, a2]; exact hd), if_neg (hdf hd), ih (k + 1) r n (by omega) (by omega)]
    · rw [if_neg (by rw [a1, a2]; exact hd), if_pos (hdt hd), ih (k + 1) (r + 1) n (by omega) (by omega)]
theorem m_qc {μ : am_Mu} (g4 : G4 μ) {W V : Wd} {Y : am_Mu} (hY : Y 108 4 = μ 13 14) (h1 : MW (8 * nTh μ) 0 Y W) (h2 : MW (8 * nTh μ) 1 Y V) : ∀ q k r n, k + q = 8 * nTh μ → q < n → fM_quarrels_34 n r (nI k) Y = some (qc (difW W V) q k r, Y) := by
  obtain ⟨⟨t1, t2, -⟩, -⟩ := g4
  have h20 : nTh μ ≤ 20 := nt_le (b := 20) t1 t2
  have e8 := (e8K t1).2
  intro q
  induction q with
  | zero =>
    intro k r n hk hn
    obtain ⟨n, rfl⟩ : ∃ k, n = k + 1 := ⟨n - 1, by omega⟩
    rw [fM_quarrels_34, if_pos (by rw [hY, e8]; exact (nI_le_iff (by omega) (by omega)).mpr (by omega))]
    rfl
  | succ q ih =>
    intro k r n hk hn
    obtain ⟨n, rfl⟩ : ∃ k, n = k + 1 := ⟨n - 1, by omega⟩
    have a1 : Y 144 k = (W k).1 := by
      have := (h1 k (by omega)).1
      rwa [Nat.mul_zero, Nat.zero_add] at this
    have a2 : Y 144 (160 + k) = (V k).1 := (h2 k (by omega)).1
    have ek : nI k + 1 = nI (k + 1) := nI_plus _ 1
    have e160 : (160 : Int32) + nI k = nI (160 + k) := nI_plus 160 k
    rw [fM_quarrels_34, if_neg (by rw [hY, e8, nI_le_iff (by omega) (by omega)]; omega), inb_n (by omega) (by omega), cond_true, e160, inb_n (by omega) (by omega), cond_true, nI_clamp (show k < 2 ^ 31 by omega), nI_clamp (show 160 + k < 2 ^ 31 by omega)]
    unfold fM_quarrels_70 qc
    rw [ek]
    have hdf : (W k).1 = (V k).1 → ¬ difW W V k = true := by
      intro h
      unfold difW
      simp [h]
    have hdt : ¬ (W k).1 = (V k).1 → difW W V k = true := by
      intro h
      unfold difW
      simp [h]
    by_cases hd : (W k).1 = (V k).1
    · rw [if_neg (by rw [a1, a2]; simpa using hd), if_neg (hdf hd), show r + 0 = r by grind, ih (k + 1) r n (by omega) (by omega)]
    · rw [if_pos (by rw [a1, a2]; exact hd), if_pos (hdt hd), ih (k + 1) (r + 1) n (by omega) (by omega)]
/-- both schools are asked -/
theorem ask_both {μ : am_Mu} (g0 : G0 μ) (g1 : G1 μ) (g3 : G3 μ) (g4 : G4 μ) : ∃ (W V : Wd) (X Y : am_Mu), WG (8 * nTh μ) W ∧ WG (8 * nTh μ) V ∧ fB_askBothSchools μ = some X ∧ SB X μ ∧ XW (8 * nTh μ) 68 X W ∧ XW (8 * nTh μ) 72 X V ∧ ((fM_goes 0 0 (X 108 2) (X 108 2) (-1) X).bind fun q1 => fM_goes 1 1 (q1 108 2) (q1 108 2) (-1) q1) = some Y ∧ SB Y μ ∧ MW (8 * nTh μ) 0 Y W ∧ MW (8 * nTh μ) 1 Y V := by
  have tn : nTh μ ≤ 20 := nt_le (b := 20) g4.1.1 g4.1.2.1
  obtain ⟨W, w1, w2, w3⟩ := tell_both g1 g3 g4 (s := 0) (by omega) (M := 68) (w := 0) (by unfold isM; omega) (by omega) (μ 0 11) (μ 0 11)
  obtain ⟨V, v1, v2, v3⟩ := tell_both g1 g3 g4 (s := 1) (by omega) (M := 72) (w := 1) (by unfold isM; omega) (by omega) (μ 0 11) (μ 0 11)
  obtain ⟨X1, x1, x2, x3⟩ := w2 μ SB.rf
  have hX1 : SB X1 μ := SB.rf.ofM (by unfold isM; omega) x3
  obtain ⟨X2, x4, x5, x6⟩ := v2 X1 hX1
  have hX2 : SB X2 μ := hX1.ofM (by unfold isM; omega) x6
  obtain ⟨Y1, y1, y2, y3⟩ := w3 X2 hX2
  have hY1 : SB Y1 μ := hX2.ofN y3
  obtain ⟨Y2, y4, y5, y6⟩ := v3 Y1 hY1
  have e2 : X2 108 2 = μ 0 11 := by rw [hX2 108 (by omega), g0.2.2]
  have e3 : Y1 108 2 = μ 0 11 := by rw [hY1 108 (by omega), g0.2.2]
  refine ⟨W, V, X2, Y2, w1, v1, ?_, hX2, x2.cong (x6 _ (by omega) (by omega) (by omega) (by omega) (by omega) (by omega) (by omega)) (x6 _ (by omega) (by omega) (by omega) (by omega) (by omega) (by omega) (by omega)) (x6 _ (by omega) (by omega) (by omega) (by omega) (by omega) (by omega) (by omega)), x5, ?_, hY1.ofN y6, y2.other (by omega) (by omega) y6, y5⟩
  · unfold fB_askBothSchools
    change fJudge_tellWhatIs 68 0 (μ 0 11) (μ 0 11) μ = some X1 at x1
    change fJudge_tellWhatIs 72 1 (μ 0 11) (μ 0 11) X1 = some X2 at x4
    rw [x1, Option.bind_some, hX1 0 (by omega), x4, Option.bind_some]
  · change fM_goes 0 0 (μ 0 11) (μ 0 11) (-1) X2 = some Y1 at y1
    change fM_goes 1 1 (μ 0 11) (μ 0 11) (-1) Y1 = some Y2 at y4
    rw [e2, y1, Option.bind_some, e3, y4]
theorem op_quarrel (a b : Int32) (μ : am_Mu) : Op (fB_quarrel a b) (fM_quarrel a b) (fun μ => G0 μ ∧ G1 μ ∧ G3 μ ∧ G4 μ) (fun _ => True) μ := by
  rintro ⟨g0, g1, g3, g4⟩
  by_cases ha : 0 ≤ a
  · by_cases hb : 0 ≤ b ∧ b < 4
    · obtain ⟨W, V, X, Y, -, -, x1, hX, x2, x3, y1, hY, y2, y3⟩ := ask_both g0 g1 g3 g4
      have h20 : nTh μ ≤ 20 := nt_le (b := 20) g4.1.1 g4.1.2.1
      obtain ⟨i, rfl, hi⟩ : ∃ i, a = nI i ∧ i < 2 ^ 31 := ⟨a.toNatClampNeg, (nI_nt ha).symm, nt_b⟩
      have eX := x_qp g4 (by rw [hX 13 (by omega)]) x2 x3 (8 * nTh μ) 0 i am_F (by omega) (by unfold am_F; omega) hi
      have eY := m_qp g4 (by rw [hY 108 (by omega)]; exact g4.1.2.2.1) y2 y3 hi (8 * nTh μ) 0 0 am_F (by omega) (by unfold am_F; omega) (by omega)
      rw [Nat.sub_zero] at eY
      have eYa : fM_quarrelAt (nI i) X = some (qp (difW W V) (8 * nTh μ) 0 i, Y) := by
        unfold fM_quarrelAt
        cases hg : fM_goes 0 0 (X 108 2) (X 108 2) (-1) X with
        | none =>
          rw [hg] at y1
          cases y1
        | some q1 =>
          rw [hg, Option.bind_some] at y1
          rw [Option.bind_some, y1, Option.bind_some]
          exact eY
      have eXa : fB_quarrelPlace (nI i) X = some (qp (difW W V) (8 * nTh μ) 0 i, X) := eX
      have hin := qp_in (difW W V) (8 * nTh μ) 0 i
      generalize qp (difW W V) (8 * nTh μ) 0 i = r at hin eYa eXa
      have exB : fB_quarrel (nI i) b μ = (if ¬ r = (-1) then (if b = 0 then some ((r / 8), X) else (if b = 1 then some ((r - (r / 8) * 8), X) else (if b = 2 then (bif am_inb r 160 then some ((X 69 ((r).toNatClampNeg)), X) else none) else (bif am_inb r 160 then some ((X 73 ((r).toNatClampNeg)), X) else none)))) else some ((-1), X)) := by
        unfold fB_quarrel
        rw [if_neg (Int32.not_lt.mpr ha), l_isIn, Option.bind_some, b2i_t hb]
        dsimp only
        rw [if_pos (by decide), x1, Option.bind_some, eXa, Option.bind_some]
      have exM : fM_quarrel (nI i) b X = (if ¬ r = (-1) then (if ¬ b = 0 then (if ¬ b = 1 then (if ¬ b = 2 then (bif am_inb ((160 : Int32) + r) 320 then some ((Y 144 ((((160 : Int32) + r)).toNatClampNeg)), Y) else none) else (bif am_inb r 320 then some ((Y 144 ((r).toNatClampNeg)), Y) else none)) else some ((r - (r / 8) * 8), Y)) else some ((r / 8), Y)) else some ((-1), Y)) := by
        unfold fM_quarrel
        rw [if_neg (Int32.not_lt.mpr ha), l_lies, Option.bind_some, b2i_t (show 0 ≤ b ∧ b ≤ 3 by grind)]
        dsimp only
        rw [if_pos (by decide), eYa, Option.bind_some]
      rcases hin with hr | ⟨j, -, hj, hr⟩
      · refine ⟨-1, X, Y, ?_, ?_, trivial⟩
        · rw [exB, if_neg (by simpa using hr)]
        · rw [exM, if_neg (by simpa using hr)]
      · have hne : ¬ r = -1 := by
          intro h
          have h0 := nI_pos' (n := j) (by omega)
          rw [← hr, h] at h0
          exact absurd h0 (by decide)
        have hj2 : j < 8 * nTh μ := by omega
        have a1 : X 69 j = (W j).1 := (x2 j hj2).1
        have a2 : X 73 j = (V j).1 := (x3 j hj2).1
        have c1 : Y 144 j = (W j).1 := by
          have := (y2 j hj2).1
          rwa [Nat.mul_zero, Nat.zero_add] at this
        have c2 : Y 144 (160 + j) = (V j).1 := (y3 j hj2).1
        have e160 : (160 : Int32) + nI j = nI (160 + j) := nI_plus 160 j
        refine ⟨if b = 0 then nI j / 8 else if b = 1 then nI j - nI j / 8 * 8 else if b = 2 then (W j).1 else (V j).1, X, Y, ?_, ?_, trivial⟩
        · rw [exB, if_pos hne, hr, inb_n (show j < 160 by omega) (by omega), cond_true, cond_true, nI_clamp (by omega), a1, a2]
          by_cases b0 : b = 0
          · rw [if_pos b0, if_pos b0]
          · rw [if_neg b0, if_neg b0]
            by_cases b1 : b = 1
            · rw [if_pos b1, if_pos b1]
            · rw [if_neg b1, if_neg b1]
              by_cases b2 : b = 2
              · rw [if_pos b2, if_pos b2]
              · rw [if_neg b2, if_neg b2]
        · rw [exM, if_pos hne, hr, e160, inb_n (show 160 + j < 320 by omega) (by omega), inb_n (show j < 320 by omega) (by omega), cond_true, cond_true, nI_clamp (show 160 + j < 2 ^ 31 by omega), nI_clamp (show j < 2 ^ 31 by omega), c1, c2]
          by_cases b0 : b = 0
          · rw [if_neg (by simpa using b0), if_pos b0]
          · rw [if_pos b0, if_neg b0]
            by_cases b1 : b = 1
            · rw [if_neg (by simpa using b1), if_pos b1]
            · rw [if_pos b1, if_neg b1]
              by_cases b2 : b = 2
              · rw [if_neg (by simpa using b2), if_pos b2]
              · rw [if_pos b2, if_neg b2]
    · refine ⟨-1, μ, μ, ?_, ?_, trivial⟩
      · unfold fB_quarrel
        rw [if_neg (Int32.not_lt.mpr ha), l_isIn, Option.bind_some, b2i_f hb]
        rfl
      · unfold fM_quarrel
        rw [if_neg (Int32.not_lt.mpr ha), l_lies, Option.bind_some, b2i_f (show ¬ (0 ≤ b ∧ b ≤ 3) by grind)]
        rfl
  · refine ⟨-1, μ, μ, ?_, ?_, trivial⟩
    · unfold fB_quarrel
      rw [if_pos (Int32.not_le.mp ha)]
    · unfold fM_quarrel
      rw [if_pos (Int32.not_le.mp ha)]
theorem quarrels_both {μ : am_Mu} (g0 : G0 μ) (g1 : G1 μ) (g3 : G3 μ) (g4 : G4 μ) : ∃ r X Y, ((fB_askBothSchools μ).bind fun q15 => fB_quarrelsHeld q15) = some (r, X) ∧ fM_quarrels X = some (r, Y) := by
  obtain ⟨W, V, X, Y, -, -, x1, hX, x2, x3, y1, hY, y2, y3⟩ := ask_both g0 g1 g3 g4
  have h20 : nTh μ ≤ 20 := nt_le (b := 20) g4.1.1 g4.1.2.1
  have eX := x_qc g4 (by rw [hX 13 (by omega)]) x2 x3 (8 * nTh μ) 0 0 am_F (by omega) (by unfold am_F; omega)
  have eY := m_qc g4 (by rw [hY 108 (by omega)]; exact g4.1.2.2.1) y2 y3 (8 * nTh μ) 0 0 am_F (by omega) (by unfold am_F; omega)
  refine ⟨qc (difW W V) (8 * nTh μ) 0 0, X, Y, ?_, ?_⟩
  · rw [x1, Option.bind_some]
    unfold fB_quarrelsHeld
    exact eX
  · unfold fM_quarrels
    cases hg : fM_goes 0 0 (X 108 2) (X 108 2) (-1) X with
    | none =>
      rw [hg] at y1
      cases y1
    | some q1 =>
      rw [hg, Option.bind_some] at y1
      rw [Option.bind_some, y1, Option.bind_some]
      exact eY
theorem cs {p : Prop} [Decidable p] {x y : Int32} {μ : am_Mu} {Z : Option (Int32 × am_Mu)} (h : Z = some (y, μ)) : (if p then some (x, μ) else Z) = some ((if p then x else y), μ) := by
  by_cases hp : p
  · rw [if_pos hp, if_pos hp]
  · rw [if_neg hp, if_neg hp, h]
theorem op_count (a : Int32) (μ : am_Mu) : Op (fB_count a) (fM_count a) (fun μ => G0 μ ∧ G1 μ ∧ G2 μ ∧ G3 μ ∧ G4 μ ∧ G5 μ ∧ G6 μ ∧ G7 μ ∧ G8 μ) (fun _ => True) μ := by
  rintro ⟨g0, g1, g2, g3, g4, g5, g6, g7, g8⟩
  obtain ⟨r, X, Y, x1, y1⟩ := quarrels_both g0 g1 g3 g4
  have e0 := g0.2.2
  have e1 := g1.2.2.1
  have e2 := g4.1.2.2.1
  have e3 := g4.2.1.2.2.1
  have e4 := g4.2.2.1.2.2.1
  have e5 := g5.2.2.1
  have e6 := g6.1.2.2.1
  have e7 := g6.2.1.2.2.1
  have e8 := g7.2.2.1
  have e9 := g8.1.2.2.1
  have e10 := g8.1.2.2.2.2.1
  have e11 := g8.1.2.2.2.2.2.2.2
  have e12 := g2.2.2.1
  by_cases h13 : a = 13
  · subst h13
    refine ⟨r, X, Y, ?_, ?_, trivial⟩
    · unfold fB_count
      rw [if_neg (by decide), if_neg (by decide), if_neg (by decide), if_neg (by decide), if_neg (by decide), if_neg (by decide), if_neg (by decide), if_neg (by decide), if_neg (by decide), if_neg (by decide), if_neg (by decide), if_neg (by decide), if_neg (by decide), if_pos rfl, ← Option.bind_assoc, x1, Option.bind_some]
    · unfold fM_count
      rw [if_neg (by decide), if_neg (by decide), if_neg (by decide), if_neg (by decide), if_neg (by decide), if_neg (by decide), if_neg (by decide), if_neg (by decide), if_neg (by decide), if_neg (by decide), if_neg (by decide), if_neg (by decide), if_neg (by decide), if_pos rfl, y1, Option.bind_some]
  · refine ⟨if a = 0 then μ 0 11 else if a = 1 then μ 1 3 else if a = 2 then μ 13 14 else if a = 3 then μ 13 15 else if a = 4 then μ 13 16 else if a = 5 then μ 76 8 else if a = 6 then μ 84 13 else if a = 7 then μ 84 14 else if a = 8 then μ 97 4 else if a = 9 then μ 102 7 else if a = 10 then μ 102 8 else if a = 11 then μ 102 9 else if a = 12 then μ 5 2 else -1, μ, μ, ?_, ?_, trivial⟩
    · unfold fB_count
      rw [if_neg h13]
      exact cs (cs (cs (cs (cs (cs (cs (cs (cs (cs (cs (cs (cs rfl))))))))))))
    · unfold fM_count
      rw [if_neg h13, e0, e1, e2, e3, e4, e5, e6, e7, e8, e9, e10, e11, e12]
      exact cs (cs (cs (cs (cs (cs (cs (cs (cs (cs (cs (cs (cs rfl))))))))))))
