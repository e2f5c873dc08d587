/-! E: the reference's worlds -/
def MW (K w : Nat) (Y : am_Mu) (W : Wd) : Prop := ∀ k, k < K → Y 144 (160 * w + k) = (W k).1 ∧ (¬ (W k).1 = 0 → Y 145 (160 * w + k) = (W k).2.1 ∧ Y 146 (160 * w + k) = (W k).2.2)
def FrN (w : Nat) (Y' Y : am_Mu) : Prop := (∀ a, ¬ (144 ≤ a ∧ a ≤ 150) → Y' a = Y a) ∧ ∀ a i, 144 ≤ a → a ≤ 146 → ¬ (160 * w ≤ i ∧ i < 160 * w + 160) → Y' a i = Y a i
def FrNO (w : Nat) (Y' Y : am_Mu) : Prop := (∀ a, ¬ (144 ≤ a ∧ a ≤ 146) → Y' a = Y a) ∧ ∀ a i, 144 ≤ a → a ≤ 146 → ¬ (160 * w ≤ i ∧ i < 160 * w + 160) → Y' a i = Y a i
theorem FrN.rf {w : Nat} {Y : am_Mu} : FrN w Y Y := ⟨fun _ _ => rfl, fun _ _ _ _ _ => rfl⟩
theorem FrNO.rf {w : Nat} {Y : am_Mu} : FrNO w Y Y := ⟨fun _ _ => rfl, fun _ _ _ _ _ => rfl⟩
theorem FrN.trans {w : Nat} {A B C : am_Mu} (h1 : FrN w A B) (h2 : FrN w B C) : FrN w A C := ⟨fun a q => (h1.1 a q).trans (h2.1 a q), fun a i q1 q2 q3 => (h1.2 a i q1 q2 q3).trans (h2.2 a i q1 q2 q3)⟩
theorem FrNO.trans {w : Nat} {A B C : am_Mu} (h1 : FrNO w A B) (h2 : FrNO w B C) : FrNO w A C := ⟨fun a q => (h1.1 a q).trans (h2.1 a q), fun a i q1 q2 q3 => (h1.2 a i q1 q2 q3).trans (h2.2 a i q1 q2 q3)⟩
theorem FrNO.toN {w : Nat} {A B : am_Mu} (h : FrNO w A B) : FrN w A B := ⟨fun a q => h.1 a (fun p => q ⟨p.1, by omega⟩), h.2⟩
theorem MW.cong {K w : Nat} {Y Y' : am_Mu} {W : Wd} (h : MW K w Y W) (e1 : Y' 144 = Y 144) (e2 : Y' 145 = Y 145) (e3 : Y' 146 = Y 146) : MW K w Y' W := by
  intro k hk
  rw [e1, e2, e3]
  exact h k hk
theorem MW.ext {K w : Nat} {Y : am_Mu} {W W' : Wd} (h : MW K w Y W) (he : ∀ k, k < K → W' k = W k) : MW K w Y W' := by
  intro k hk
  rw [he k hk]
  exact h k hk
/-- the other world is as it was -/
theorem MW.other {K w w' : Nat} {Y Y' : am_Mu} {W : Wd} (hK : K ≤ 160) (hw : ¬ w' = w) (h : MW K w' Y W) (hf : FrN w Y' Y) : MW K w' Y' W := by
  intro k hk
  rw [hf.2 144 _ (by omega) (by omega) (by omega), hf.2 145 _ (by omega) (by omega) (by omega), hf.2 146 _ (by omega) (by omega) (by omega)]
  exact h k hk
theorem MW.up3 {K w k : Nat} {Y : am_Mu} {W : Wd} {v p q : Int32} {t : TR} (h : MW K w Y W) (h1 : v = t.1) (h2 : ¬ t.1 = 0 → p = t.2.1 ∧ q = t.2.2) : MW K w (am_up (am_up (am_up Y 144 (160 * w + k) v) 145 (160 * w + k) p) 146 (160 * w + k) q) (wup W k t) := by
  intro j hj
  rw [up_row (a := 144) (by decide), up_row (a := 144) (by decide), up_row (a := 145) (by decide), up_at, up_at, up_at, up_row (a := 145) (by decide), up_row (a := 146) (by decide), up_row (a := 146) (by decide)]
  unfold wup
  by_cases hjk : j = k
  · rw [if_pos hjk, if_pos (by omega), if_pos (by omega), if_pos (by omega)]
    exact ⟨h1, h2⟩
  · rw [if_neg hjk, if_neg (by omega), if_neg (by omega), if_neg (by omega)]
    exact h j hj
theorem FrNO.up3 {w k : Nat} (hk : k < 160) {Y : am_Mu} {v p q : Int32} : FrNO w (am_up (am_up (am_up Y 144 (160 * w + k) v) 145 (160 * w + k) p) 146 (160 * w + k) q) Y := by
  refine ⟨fun a h => by rw [up_row (by omega), up_row (by omega), up_row (by omega)], fun a i h1 h2 h3 => ?_⟩
  rw [up_ne (by omega), up_ne (by omega), up_ne (by omega)]
theorem m_wsets {w k : Nat} (hw : w < 2) (hk : k < 160) (v p q : Int32) (Y : am_Mu) : fM_sets (nI (160 * w + k)) v p q Y = some (am_up (am_up (am_up Y 144 (160 * w + k) v) 145 (160 * w + k) p) 146 (160 * w + k) q) := by
  unfold fM_sets
  rw [inb_n (by omega) (by omega), cond_true, nI_clamp (by omega)]
theorem m_wjoins {K w k : Nat} (hw : w < 2) (hK : K ≤ 160) (hk : k < K) {Y : am_Mu} {W : Wd} (h : MW K w Y W) (hg : V3 (W k).1) {t : TR} (ht : V3 t.1) {p q : Int32} (hpq : ¬ t.1 = 0 → p = t.2.1 ∧ q = t.2.2) : ∃ Y', fM_joins (nI (160 * w + k)) t.1 p q Y = some Y' ∧ MW K w Y' (wup W k (jn (W k) t)) ∧ FrNO w Y' Y := by
  obtain ⟨h1, h2⟩ := h k hk
  have hin : am_inb (nI (160 * w + k)) 320 = true := inb_n (by omega) (by omega)
  have hnt : (nI (160 * w + k)).toNatClampNeg = 160 * w + k := nI_clamp (by omega)
  have fin : ∀ lo hi : Int32, (¬ (jn (W k) t).1 = 0 → lo = (jn (W k) t).2.1 ∧ hi = (jn (W k) t).2.2) → (jn (W k) t).1 = (if (W k).1 = 2 ∧ t.1 = 2 then 2 else 1) → ∃ Y', fM_joins_93 (nI (160 * w + k)) t.1 lo hi Y = some Y' ∧ MW K w Y' (wup W k (jn (W k) t)) ∧ FrNO w Y' Y := by
    intro lo hi hl hv
    have e93 : fM_joins_93 (nI (160 * w + k)) t.1 lo hi Y = some (am_up (am_up (am_up Y 144 (160 * w + k) (jn (W k) t).1) 145 (160 * w + k) lo) 146 (160 * w + k) hi) := by
      unfold fM_joins_93 fM_joins_116 fM_joins_117
      rw [hin, cond_true, hnt, h1, m_wsets hw (by omega), m_wsets hw (by omega), Option.bind_some, Option.bind_some, hv]
      by_cases hw2 : (W k).1 = 2
      · rw [if_neg (by simpa using hw2)]
        by_cases ht2 : t.1 = 2
        · rw [if_neg (by simpa using ht2), if_pos ⟨hw2, ht2⟩]
        · rw [if_pos ht2, if_neg (fun q => ht2 q.2)]
      · rw [if_pos hw2, if_neg (fun q => hw2 q.1)]
    exact ⟨_, e93, h.up3 rfl hl, FrNO.up3 (by omega)⟩
  unfold fM_joins
  rw [hin, cond_true, hnt, h1]
  by_cases hw0 : (W k).1 = 0
  · rw [if_neg (by simpa using hw0)]
    by_cases ht0 : t.1 = 0
    · rw [if_neg (by simpa using ht0)]
      refine ⟨Y, rfl, ?_, FrNO.rf⟩
      have : jn (W k) t = W k := by unfold jn; rw [if_pos ht0, if_pos hw0]
      rw [this]
      refine h.ext ?_
      intro j hj
      unfold wup
      split
      · rename_i hjk
        rw [hjk]
      · rfl
    · obtain ⟨hp, hq⟩ := hpq ht0
      rw [if_pos ht0]
      unfold fM_joins_14
      rw [hin, cond_true, hnt, h1, if_neg (by simpa using hw0)]
      unfold fM_joins_51
      rw [hin, cond_true, hnt, h1, if_neg (by simpa using hw0)]
      have ej : jn (W k) t = (1, t.2.1, t.2.2) := by unfold jn; rw [if_neg ht0, if_pos hw0]
      refine fin p q (fun _ => by rw [ej]; exact ⟨hp, hq⟩) ?_
      rw [ej, if_neg (fun q => by rw [hw0] at q; exact absurd q.1 (by decide))]
  · obtain ⟨w2, w3⟩ := h2 hw0
    rw [if_pos hw0]
    unfold fM_joins_14
    rw [hin, cond_true, hnt, h1, if_pos hw0, w2]
    by_cases ht0 : t.1 = 0
    · rw [if_pos ht0]
      unfold fM_joins_41
      rw [hin, cond_true, hnt, w2]
      unfold fM_joins_51
      rw [hin, cond_true, hnt, h1, if_pos hw0, if_pos ht0]
      unfold fM_joins_82
      rw [hin, cond_true, hnt, w3]
      have ej : jn (W k) t = (1, (W k).2.1, (W k).2.2) := by unfold jn; rw [if_pos ht0, if_neg hw0]
      refine fin _ _ (fun _ => by rw [ej]; exact ⟨rfl, rfl⟩) ?_
      rw [ej, if_neg (fun q => by rw [ht0] at q; exact absurd q.2 (by decide))]
    · obtain ⟨hp, hq⟩ := hpq ht0
      rw [if_neg ht0]
      have ej : jn (W k) t = ((if (W k).1 = 2 ∧ t.1 = 2 then 2 else 1), (if t.2.1 < (W k).2.1 then t.2.1 else (W k).2.1), (if (W k).2.2 < t.2.2 then t.2.2 else (W k).2.2)) := by unfold jn; rw [if_neg ht0, if_neg hw0]
      have e51 : ∀ lo : Int32, lo = (jn (W k) t).2.1 → ∃ Y', fM_joins_51 (nI (160 * w + k)) t.1 q lo Y = some Y' ∧ MW K w Y' (wup W k (jn (W k) t)) ∧ FrNO w Y' Y := by
        intro lo hlo
        unfold fM_joins_51
        rw [hin, cond_true, hnt, h1, if_pos hw0, if_neg ht0, w3]
        by_cases hl : (W k).2.2 ≤ q
        · rw [if_pos hl]
          refine fin lo q (fun _ => ⟨hlo, ?_⟩) (by rw [ej])
          rw [ej]
          dsimp only
          rw [← hq]
          split
          · rfl
          · rename_i hn
            exact Int32.le_antisymm (Int32.not_lt.mp hn) hl
        · rw [if_neg hl]
          unfold fM_joins_82
          rw [hin, cond_true, hnt, w3]
          refine fin lo _ (fun _ => ⟨hlo, ?_⟩) (by rw [ej])
          rw [ej]
          dsimp only
          rw [← hq, if_neg (fun h => hl (Int32.le_of_lt h))]
      by_cases he : p ≤ (W k).2.1
      · rw [if_pos he]
        refine e51 p ?_
        rw [ej]
        dsimp only
        rw [← hp]
        split
        · rfl
        · rename_i hn
          exact Int32.le_antisymm he (Int32.not_lt.mp hn)
      · rw [if_neg he]
        unfold fM_joins_41
        rw [hin, cond_true, hnt, w2]
        refine e51 _ ?_
        rw [ej]
        dsimp only
        rw [← hp, if_neg (fun h => he (Int32.le_of_lt h))]
/-! the beginning -/
theorem m_beg1 {w t : Nat} (hw : w < 2) (ht : t < 20) {μ : am_Mu} (h1 : 0 ≤ μ 14 t) (h2 : μ 14 t < 256) {k2 : Int32 → Int32 → am_Mu → Option am_Mu} : ∀ q j n (Y : am_Mu), j + q = 8 → q < n → Y 113 t = μ 14 t → MW (8 * t + j) w Y (wd0 μ) → ∃ Y', fM_begins_12 n k2 (nI w) (nI t) (nI j) Y = k2 (nI w) (nI (t + 1)) Y' ∧ MW (8 * t + 8) w Y' (wd0 μ) ∧ FrNO w Y' Y := by
  have hb := nt_lt (b := 256) h1 h2
  have h256 : (256 : Int32).toNatClampNeg = 256 := rfl
  intro q
  induction q with
  | zero =>
    intro j n Y hj hn hY h
    obtain ⟨n, rfl⟩ : ∃ k, n = k + 1 := ⟨n - 1, by omega⟩
    have : j = 8 := by omega
    subst this
    refine ⟨Y, ?_, h, FrNO.rf⟩
    rw [fM_begins_12, if_pos (by decide)]
    unfold fM_begins_79
    rw [show nI t + 1 = nI (t + 1) from nI_plus _ 1]
  | succ q ih =>
    intro j n Y hj hn hY h
    obtain ⟨n, rfl⟩ : ∃ k, n = k + 1 := ⟨n - 1, by omega⟩
    have ei : ((160 : Int32) * nI w + (8 : Int32) * nI t) + nI j = nI (160 * w + (8 * t + j)) := by
      show (nI 160 * nI w + nI 8 * nI t) + nI j = _
      rw [nI_mul, nI_mul, nI_plus, nI_plus, Nat.add_assoc]
    have hv : ∀ s2 : Int32, s2 = (if hasB (μ 14 t).toNatClampNeg j then 2 else 0) → ∃ Y', fM_begins_56 k2 (fM_begins_12 n k2) (nI w) (nI t) (nI j) (nI (160 * w + (8 * t + j))) (nI (160 * w + (8 * t + j))) s2 Y = k2 (nI w) (nI (t + 1)) Y' ∧ MW (8 * t + 8) w Y' (wd0 μ) ∧ FrNO w Y' Y := by
      intro s2 hs
      unfold fM_begins_56
      rw [inb_n (by omega) (by omega), cond_true, cond_true, nI_clamp (by omega), show nI j + 1 = nI (j + 1) from nI_plus _ 1]
      obtain ⟨Y', i1, i2, i3⟩ := ih (j + 1) n (am_up (am_up (am_up Y 144 (160 * w + (8 * t + j)) s2) 145 (160 * w + (8 * t + j)) 0) 146 (160 * w + (8 * t + j)) 0) (by omega) (by omega) (by rw [up_row (by decide), up_row (by decide), up_row (by decide), hY]) (by
        intro k hk
        by_cases hkj : k = 8 * t + j
        · subst hkj
          rw [up_row (a := 144) (by decide), up_row (a := 144) (by decide), up_row (a := 145) (by decide), up_eq, up_eq, up_eq]
          unfold wd0
          rw [show (8 * t + j) / 8 = t by omega, show (8 * t + j) % 8 = j by omega]
          exact ⟨hs, fun _ => ⟨rfl, rfl⟩⟩
        · have := h k (by omega)
          rw [up_row (a := 144) (by decide), up_row (a := 144) (by decide), up_row (a := 145) (by decide), up_ne2 (by omega), up_ne2 (by omega), up_ne2 (by omega), up_row (a := 145) (by decide), up_row (a := 146) (by decide), up_row (a := 146) (by decide)]
          exact this)
      exact ⟨Y', i1, i2, i3.trans (FrNO.up3 (by omega))⟩
    rw [fM_begins_12, if_neg (by show ¬ nI 8 ≤ _; rw [nI_le_iff (by omega) (by omega)]; omega), inb_n (by omega) (by omega), cond_true, nI_clamp (by omega), hY]
    have eh := l_has (S := (μ 14 t).toNatClampNeg) (k := j) (by omega) (by omega) Y
    rw [nI_nt h1] at eh
    rw [eh, Option.bind_some]
    dsimp only
    rw [ei]
    by_cases hh : hasB (μ 14 t).toNatClampNeg j
    · rw [b2i_t hh, if_neg (by decide)]
      exact hv 2 (by rw [if_pos hh])
    · rw [b2i_f hh, if_pos rfl]
      exact hv 0 (by rw [if_neg hh])
theorem m_wbegins {w : Nat} (hw : w < 2) {μ : am_Mu} (g4 : G4 μ) : ∀ q t n (Y : am_Mu), t + q = (μ 13 14).toNatClampNeg → q < n → Y 108 4 = μ 13 14 → (∀ j, j < (μ 13 14).toNatClampNeg → Y 113 j = μ 14 j) → MW (8 * t) w Y (wd0 μ) → ∃ Y', fM_begins_2 n (nI w) (nI t) Y = some Y' ∧ MW (8 * (μ 13 14).toNatClampNeg) w Y' (wd0 μ) ∧ FrNO w Y' Y := by
  obtain ⟨⟨t1, t2, t3, t4⟩, -⟩ := g4
  have tn : (μ 13 14).toNatClampNeg ≤ 20 := nt_le (b := 20) t1 t2
  have en := (nI_nt t1).symm
  intro q
  induction q with
  | zero =>
    intro t n Y ht hn h4 h113 h
    obtain ⟨n, rfl⟩ : ∃ k, n = k + 1 := ⟨n - 1, by omega⟩
    have : t = (μ 13 14).toNatClampNeg := by omega
    refine ⟨Y, ?_, this ▸ h, FrNO.rf⟩
    rw [fM_begins_2, if_pos (by rw [h4, en, this]; exact Int32.le_refl _)]
  | succ q ih =>
    intro t n Y ht hn h4 h113 h
    obtain ⟨n, rfl⟩ : ∃ k, n = k + 1 := ⟨n - 1, by omega⟩
    obtain ⟨-, b1, b2⟩ := t4 t (by omega)
    obtain ⟨Y1, i1, i2, i3⟩ := m_beg1 hw (show t < 20 by omega) b1 b2 (k2 := fM_begins_2 n) 8 0 am_F Y (by omega) (by unfold am_F; omega) (h113 t (by omega)) h
    obtain ⟨Y', j1, j2, j3⟩ := ih (t + 1) n Y1 (by omega) (by omega) (by rw [i3.1 108 (by omega), h4]) (fun j hj => by rw [i3.1 113 (by omega), h113 j hj]) i2
    refine ⟨Y', ?_, j2, j3.trans i3⟩
    rw [fM_begins_2, if_neg (by rw [h4, en, nI_le_iff (by omega) (by omega)]; omega)]
    change fM_begins_12 am_F (fM_begins_2 n) (nI w) (nI t) 0 Y = _ at i1
    rw [i1, j1]
/-! what was ahead -/
def WasI (Y : am_Mu) (B : Wd) : Prop := ∀ c, c < 16 → Y 147 c = (B c).1 ∧ (¬ (B c).1 = 0 → Y 148 c = (B c).2.1 ∧ Y 149 c = (B c).2.2)
theorem m_keeps {K w a : Nat} {b : Option Nat} (hw : w < 2) (hK : K ≤ 160) (ha : 8 * a + 8 ≤ K) (hb : ∀ t, b = some t → 8 * t + 8 ≤ K) {W : Wd} : ∀ q c n (Y : am_Mu), c + q = 16 → q < n → MW K w Y W → (∀ i, i < c → Y 147 i = (ahA W a b i).1 ∧ (¬ (ahA W a b i).1 = 0 → Y 148 i = (ahA W a b i).2.1 ∧ Y 149 i = (ahA W a b i).2.2)) → ∃ Y', fM_keeps_3 n (nI w) (nI a) (yI b) (nI c) Y = some Y' ∧ WasI Y' (ahA W a b) ∧ ∀ r, ¬ r = 147 → ¬ r = 148 → ¬ r = 149 → Y' r = Y r := by
  intro q
  induction q with
  | zero =>
    intro c n Y hc hn h hA
    obtain ⟨n, rfl⟩ : ∃ k, n = k + 1 := ⟨n - 1, by omega⟩
    have : c = 16 := by omega
    subst this
    refine ⟨Y, ?_, hA, fun _ _ _ _ => rfl⟩
    rw [fM_keeps_3, if_pos (by decide)]
  | succ q ih =>
    intro c n Y hc hn h hA
    obtain ⟨n, rfl⟩ : ∃ k, n = k + 1 := ⟨n - 1, by omega⟩
    have hin : am_inb (nI c) 16 = true := inb_n (by omega) (by omega)
    have hnc : (nI c).toNatClampNeg = c := nI_clamp (by omega)
    -- three values are laid down
    have lay : ∀ v p q' : Int32, v = (ahA W a b c).1 → (¬ (ahA W a b c).1 = 0 → p = (ahA W a b c).2.1 ∧ q' = (ahA W a b c).2.2) → ∃ Y', fM_keeps_3 n (nI w) (nI a) (yI b) (nI c + 1) (am_up (am_up (am_up Y 147 c v) 148 c p) 149 c q') = some Y' ∧ WasI Y' (ahA W a b) ∧ ∀ r, ¬ r = 147 → ¬ r = 148 → ¬ r = 149 → Y' r = Y r := by
      intro v p q' h1 h2
      rw [show nI c + 1 = nI (c + 1) from nI_plus _ 1]
      obtain ⟨Y', i1, i2, i3⟩ := ih (c + 1) n (am_up (am_up (am_up Y 147 c v) 148 c p) 149 c q') (by omega) (by omega) (h.cong (by rw [up_row (by decide), up_row (by decide), up_row (by decide)]) (by rw [up_row (by decide), up_row (by decide), up_row (by decide)]) (by rw [up_row (by decide), up_row (by decide), up_row (by decide)])) (by
        intro i hi
        rw [up_row (a := 147) (by decide), up_row (a := 147) (by decide), up_row (a := 148) (by decide), up_at, up_at, up_at, up_row (a := 148) (by decide), up_row (a := 149) (by decide), up_row (a := 149) (by decide)]
        by_cases hic : i = c
        · rw [if_pos hic, if_pos hic, if_pos hic, hic]
          exact ⟨h1, h2⟩
        · rw [if_neg hic, if_neg hic, if_neg hic]
          exact hA i (by omega))
      exact ⟨Y', i1, i2, fun r q1 q2 q3 => by rw [i3 r q1 q2 q3, up_row q3, up_row q2, up_row q1]⟩
    have some_t : ∀ t, 8 * t + 8 ≤ K → ahA W a b c = W (8 * t + c % 8) → ∃ Y', fM_keeps_22 (fM_keeps_3 n) (nI w) (nI a) (yI b) (nI c) (nI t) Y = some Y' ∧ WasI Y' (ahA W a b) ∧ ∀ r, ¬ r = 147 → ¬ r = 148 → ¬ r = 149 → Y' r = Y r := by
      intro t ht he
      have ei : ((160 : Int32) * nI w + (8 : Int32) * nI t) + (nI c - nI c / 8 * 8) = nI (160 * w + (8 * t + c % 8)) := by
        rw [nI_m8 (by omega)]
        show (nI 160 * nI w + nI 8 * nI t) + nI (c % 8) = _
        rw [nI_mul, nI_mul, nI_plus, nI_plus, Nat.add_assoc]
      obtain ⟨w1, w2⟩ := h (8 * t + c % 8) (by omega)
      have hi3 : am_inb (nI (160 * w + (8 * t + c % 8))) 320 = true := inb_n (by omega) (by omega)
      have hn3 : (nI (160 * w + (8 * t + c % 8))).toNatClampNeg = 160 * w + (8 * t + c % 8) := nI_clamp (by omega)
      have hne : ¬ nI t = -1 := yI_n (by omega)
      unfold fM_keeps_22
      rw [if_pos hne, ei]
      unfold fM_keeps_51
      rw [if_pos hne, hi3, cond_true, hn3]
      unfold fM_keeps_76
      rw [hin, cond_true, if_pos hne, hi3, cond_true, hn3, hnc]
      unfold fM_keeps_100
      rw [hin, cond_true, if_pos hne, hi3, cond_true, hn3, hnc]
      unfold fM_keeps_124
      rw [hin, cond_true, hnc]
      have e2 : am_up Y 147 c (Y 144 (160 * w + (8 * t + c % 8))) 146 (160 * w + (8 * t + c % 8)) = Y 146 (160 * w + (8 * t + c % 8)) := by rw [up_row (by decide)]
      rw [e2]
      exact lay _ _ _ (by rw [he, w1]) (by rw [he]; exact w2)
    rw [fM_keeps_3, if_neg (by show ¬ nI 16 ≤ _; rw [nI_le_iff (by omega) (by omega)]; omega)]
    by_cases hc8 : c < 8
    · rw [if_neg (by show ¬ nI 8 ≤ _; rw [nI_le_iff (by omega) (by omega)]; omega)]
      refine some_t a ha ?_
      unfold ahA
      rw [if_pos hc8, show c % 8 = c by omega]
    · rw [if_pos (show (8 : Int32) ≤ nI c from (nI_le_iff (a := 8) (by omega) (by omega)).mpr (by omega))]
      cases hb' : b with
      | some t =>
        rw [hb'] at some_t
        refine some_t t (hb t hb') ?_
        unfold ahA
        rw [if_neg hc8, show c - 8 = c % 8 by omega]
      | none =>
        rw [hb'] at lay
        have hz : ahA W a none c = z3 := by
          unfold ahA
          rw [if_neg hc8]
        unfold fM_keeps_22
        rw [if_neg (show ¬ ¬ yI none = -1 from fun h => h rfl)]
        unfold fM_keeps_51
        rw [if_neg (show ¬ ¬ yI none = -1 from fun h => h rfl)]
        unfold fM_keeps_76
        rw [hin, cond_true, if_neg (show ¬ ¬ yI none = -1 from fun h => h rfl), hnc]
        unfold fM_keeps_100
        rw [hin, cond_true, if_neg (show ¬ ¬ yI none = -1 from fun h => h rfl), hnc]
        unfold fM_keeps_124
        rw [hin, cond_true, hnc]
        exact lay 0 0 0 (by rw [hz]; rfl) (by rw [hz]; exact fun h => absurd rfl h)
