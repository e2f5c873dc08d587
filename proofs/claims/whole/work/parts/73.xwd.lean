/-! E: the class's worlds -/
def isM (M : Nat) : Prop := M = 58 ∨ M = 62 ∨ M = 68 ∨ M = 72
theorem isM.m {M : Nat} (h : isM M) : am_isMarks M = true := by rcases h with rfl | rfl | rfl | rfl <;> rfl
theorem isM.lo {M : Nat} (h : isM M) : 58 ≤ M ∧ M ≤ 72 := by rcases h with rfl | rfl | rfl | rfl <;> omega
def XW (K M : Nat) (X : am_Mu) (W : Wd) : Prop := ∀ k, k < K → X (M + 1) k = (W k).1 ∧ (¬ (W k).1 = 0 → X (M + 2) k = (W k).2.1 ∧ X (M + 3) k = (W k).2.2)
def FrMk (M : Nat) (X' X : am_Mu) : Prop := ∀ a, ¬ a = M + 1 → ¬ a = M + 2 → ¬ a = M + 3 → ¬ a = 53 → ¬ a = 54 → ¬ a = 55 → ¬ a = 56 → X' a = X a
def FrO (M : Nat) (X' X : am_Mu) : Prop := ∀ a, ¬ a = M + 1 → ¬ a = M + 2 → ¬ a = M + 3 → X' a = X a
theorem FrMk.trans {M : Nat} {A B C : am_Mu} (h1 : FrMk M A B) (h2 : FrMk M B C) : FrMk M A C := fun a q1 q2 q3 q4 q5 q6 q7 => (h1 a q1 q2 q3 q4 q5 q6 q7).trans (h2 a q1 q2 q3 q4 q5 q6 q7)
theorem FrMk.rf {M : Nat} {A : am_Mu} : FrMk M A A := fun _ _ _ _ _ _ _ _ => rfl
theorem FrO.toM {M : Nat} {A B : am_Mu} (h : FrO M A B) : FrMk M A B := fun a q1 q2 q3 _ _ _ _ => h a q1 q2 q3
theorem FrO.trans {M : Nat} {A B C : am_Mu} (h1 : FrO M A B) (h2 : FrO M B C) : FrO M A C := fun a q1 q2 q3 => (h1 a q1 q2 q3).trans (h2 a q1 q2 q3)
theorem FrO.rf {M : Nat} {A : am_Mu} : FrO M A A := fun _ _ _ _ => rfl
theorem XW.cong {K M : Nat} {X X' : am_Mu} {W : Wd} (h : XW K M X W) (e1 : X' (M + 1) = X (M + 1)) (e2 : X' (M + 2) = X (M + 2)) (e3 : X' (M + 3) = X (M + 3)) : XW K M X' W := by
  intro k hk
  rw [e1, e2, e3]
  exact h k hk
theorem XW.up3 {K M k : Nat} {X : am_Mu} {W : Wd} {v p q : Int32} (h : XW K M X W) : XW K M (am_up (am_up (am_up X (M + 1) k v) (M + 2) k p) (M + 3) k q) (wup W k (v, p, q)) := by
  intro j hj
  rw [up_row (a := M + 1) (by omega), up_row (a := M + 1) (by omega), up_row (a := M + 2) (by omega), up_at, up_at, up_at, up_row (a := M + 2) (by omega), up_row (a := M + 3) (by omega), up_row (a := M + 3) (by omega)]
  unfold wup
  by_cases hjk : j = k
  · rw [if_pos hjk, if_pos hjk, if_pos hjk, if_pos hjk]
    exact ⟨rfl, fun _ => ⟨rfl, rfl⟩⟩
  · rw [if_neg hjk, if_neg hjk, if_neg hjk, if_neg hjk]
    exact h j hj
theorem FrO.up3 {M k : Nat} {X : am_Mu} {v p q : Int32} : FrO M (am_up (am_up (am_up X (M + 1) k v) (M + 2) k p) (M + 3) k q) X := by
  intro a h1 h2 h3
  rw [up_row h3, up_row h2, up_row h1]
theorem x_wput {M k : Nat} (hM : isM M) (hk : k < 160) (v m : Int32) (X : am_Mu) : fMarks_put M (nI k) v m X = some (am_up (am_up (am_up X (M + 1) k v) (M + 2) k m) (M + 3) k m) := by
  unfold fMarks_put
  rw [hM.m, cond_true, inb_n hk (by omega), cond_true, nI_clamp (by omega)]
theorem up_self {μ : am_Mu} {a i : Nat} {v : Int32} (h : μ a i = v) : am_up μ a i v = μ := by
  funext b j
  simp only [upa]
  split
  · rename_i hb
    rw [hb.1, hb.2, h]
  · rfl
theorem x_j33 {M k : Nat} (hM : isM M) (hk : k < 160) (Y : am_Mu) {a p q : Int32} (n : Prop) [Decidable n] : fMarks_join_33 M (nI k) a p q (b2i n) Y = some (if a = 0 then Y else if n then am_up (am_up Y (M + 2) k p) (M + 3) k q else am_up (am_up Y (M + 2) k (if p < Y (M + 2) k then p else Y (M + 2) k)) (M + 3) k (if Y (M + 3) k < q then q else Y (M + 3) k)) := by
  have r3 : ∀ x, am_up Y (M + 2) k x (M + 3) k = Y (M + 3) k := fun x => by rw [up_row (by omega)]
  unfold fMarks_join_33
  rw [hM.m, cond_true, inb_n hk (by omega), cond_true, cond_true, nI_clamp (by omega)]
  by_cases h0 : a = 0
  · rw [if_pos h0, if_pos h0]
  · rw [if_neg h0, if_neg h0]
    by_cases hn : n
    · rw [b2i_t hn, if_pos (by decide), if_pos (by decide), if_pos hn]
    · rw [b2i_f hn, if_neg (by decide), if_neg hn]
      simp only [r3]
      by_cases hp : p < Y (M + 2) k
      · rw [if_neg (Int32.not_le.mpr hp), if_neg (by decide), if_pos hp]
        by_cases hq : Y (M + 3) k < q
        · rw [if_neg (Int32.not_le.mpr hq), if_pos hq]
        · rw [if_pos (Int32.not_lt.mp hq), if_neg hq]
      · rw [if_pos (Int32.not_lt.mp hp), if_neg (by decide), if_neg hp]
        by_cases hq : Y (M + 3) k < q
        · rw [if_neg (Int32.not_le.mpr hq), if_pos hq]
        · rw [if_pos (Int32.not_lt.mp hq), if_neg hq]
theorem x_wjoin {K M k : Nat} (hM : isM M) (hK : K ≤ 160) (hk : k < K) {X : am_Mu} {W : Wd} (h : XW K M X W) (hg : V3 (W k).1) {t : TR} (ht : V3 t.1) {p q : Int32} (hpq : ¬ t.1 = 0 → p = t.2.1 ∧ q = t.2.2) : ∃ X', fMarks_join M (nI k) t.1 p q X = some X' ∧ XW K M X' (wup W k (jn (W k) t)) ∧ FrO M X' X := by
  obtain ⟨h1, h2⟩ := h k hk
  have k160 : k < 160 := by omega
  have eq : fMarks_join M (nI k) t.1 p q X = fMarks_join_33 M (nI k) t.1 p q (b2i ((W k).1 = 0)) (am_up X (M + 1) k (if (W k).1 = t.1 then (W k).1 else 1)) := by
    have e14 : ∀ s, fMarks_join_14 M (nI k) t.1 p q s X = fMarks_join_33 M (nI k) t.1 p q s (am_up X (M + 1) k (if (W k).1 = t.1 then (W k).1 else 1)) := by
      intro s
      unfold fMarks_join_14
      rw [hM.m, cond_true, inb_n k160 (by omega), cond_true, nI_clamp (by omega), h1]
      by_cases ht : (W k).1 = t.1
      · rw [if_pos ht, if_pos ht, up_self h1]
      · rw [if_neg ht, if_neg ht]
    unfold fMarks_join
    rw [hM.m, cond_true, inb_n k160 (by omega), cond_true, nI_clamp (by omega), h1]
    by_cases hw : (W k).1 = 0
    · rw [if_neg (by simpa using hw), b2i_t hw, e14]
    · rw [if_pos hw, b2i_f hw, e14]
  rw [eq, x_j33 hM k160]
  by_cases h0 : t.1 = 0
  · rw [if_pos h0]
    refine ⟨_, rfl, ?_, fun a q1 q2 q3 => up_row q1⟩
    intro j hj
    rw [up_at, up_row (by omega), up_row (by omega)]
    unfold wup
    by_cases hjk : j = k
    · rw [if_pos hjk, if_pos hjk, hjk]
      unfold jn
      rw [if_pos h0]
      by_cases hw : (W k).1 = 0
      · rw [if_pos hw, hw, h0, if_pos rfl]
        exact ⟨rfl, fun h => absurd rfl h⟩
      · rw [if_neg hw, if_neg (by rw [h0]; exact hw)]
        exact ⟨rfl, fun _ => h2 hw⟩
    · rw [if_neg hjk, if_neg hjk]
      exact h j hj
  · obtain ⟨hp, hq⟩ := hpq h0
    rw [if_neg h0]
    by_cases hw : (W k).1 = 0
    · rw [if_pos hw, if_neg (by rw [hw]; exact fun h => h0 h.symm)]
      refine ⟨_, rfl, ?_, FrO.up3⟩
      have : jn (W k) t = (1, p, q) := by
        unfold jn
        rw [if_neg h0, if_pos hw, hp, hq]
      rw [this]
      exact h.up3
    · rw [if_neg hw]
      obtain ⟨w2, w3⟩ := h2 hw
      have r2 : ∀ v, am_up X (M + 1) k v (M + 2) k = (W k).2.1 := fun v => by rw [up_row (by omega), w2]
      have r3 : ∀ v, am_up X (M + 1) k v (M + 3) k = (W k).2.2 := fun v => by rw [up_row (by omega), w3]
      rw [r2, r3, hp, hq]
      refine ⟨_, rfl, ?_, FrO.up3⟩
      have : jn (W k) t = ((if (W k).1 = t.1 then (W k).1 else 1), (if t.2.1 < (W k).2.1 then t.2.1 else (W k).2.1), (if (W k).2.2 < t.2.2 then t.2.2 else (W k).2.2)) := by
        unfold jn
        rw [if_neg h0, if_neg hw]
        congr 1
        rcases hg with g | g | g
        · exact absurd g hw
        · rw [g]
          rcases ht with g2 | g2 | g2
          · exact absurd g2 h0
          · rw [g2]; rfl
          · rw [g2]; rfl
        · rw [g]
          rcases ht with g2 | g2 | g2
          · exact absurd g2 h0
          · rw [g2]; rfl
          · rw [g2]; rfl
      rw [this]
      exact h.up3
/-- at the beginning -/
def wd0 (μ : am_Mu) : Wd := fun k => ((if hasB (μ 14 (k / 8)).toNatClampNeg (k % 8) then 2 else 0), 0, 0)
theorem wd0_g (μ : am_Mu) (K : Nat) : WG K (wd0 μ) := by
  intro k hk
  unfold wd0
  split
  · exact ⟨Or.inr (Or.inr rfl), fun _ => ⟨by decide, by decide, by decide⟩⟩
  · exact ⟨Or.inl rfl, fun h => absurd rfl h⟩
theorem nI_d8 {k : Nat} (h : k < 2 ^ 31) : nI k / 8 = nI (k / 8) := nI_div (b := 8) h (by omega)
theorem nI_m8 {k : Nat} (h : k < 2 ^ 31) : nI k - nI k / 8 * 8 = nI (k % 8) := nI_mod (b := 8) h (by omega)
theorem x_begin {M : Nat} (hM : isM M) {μ : am_Mu} (g4 : G4 μ) : ∀ q k n (X : am_Mu), k + q = 8 * (μ 13 14).toNatClampNeg → q < n → X 13 14 = μ 13 14 → (∀ j, X 14 j = μ 14 j) → XW k M X (wd0 μ) → ∃ X', fMarks_begin_2 n M (nI k) X = some X' ∧ XW (8 * (μ 13 14).toNatClampNeg) M X' (wd0 μ) ∧ FrO M X' X := by
  obtain ⟨⟨t1, t2, t3, t4⟩, -⟩ := g4
  have tn : (μ 13 14).toNatClampNeg ≤ 20 := nt_le (b := 20) t1 t2
  have lo := hM.lo
  have e8 : μ 13 14 * 8 = nI (8 * (μ 13 14).toNatClampNeg) := by
    rw [← nI_nt t1, nI_clamp nt_b]
    show nI _ * nI 8 = _
    rw [nI_mul, Nat.mul_comm]
  intro q
  induction q with
  | zero =>
    intro k n X hk hn h13 h14 h
    obtain ⟨n, rfl⟩ : ∃ k, n = k + 1 := ⟨n - 1, by omega⟩
    have : k = 8 * (μ 13 14).toNatClampNeg := by omega
    refine ⟨X, ?_, this ▸ h, FrO.rf⟩
    rw [fMarks_begin_2, if_pos (by rw [h13, e8, this]; exact Int32.le_refl _)]
  | succ q ih =>
    intro k n X hk hn h13 h14 h
    obtain ⟨n, rfl⟩ : ∃ k, n = k + 1 := ⟨n - 1, by omega⟩
    have hk8 : k / 8 < (μ 13 14).toNatClampNeg := by omega
    obtain ⟨-, b1, b2⟩ := t4 (k / 8) hk8
    have hb := nt_lt (b := 256) b1 b2
    have h256 : (256 : Int32).toNatClampNeg = 256 := rfl
    have hv : ((nI (μ 14 (k / 8)).toNatClampNeg >>> (nI (k % 8) &&& 31)) &&& 1) * 2 = if hasB (μ 14 (k / 8)).toNatClampNeg (k % 8) then 2 else 0 := by
      rw [has8 (by omega) (Nat.mod_lt _ (by decide))]
      split <;> rfl
    rw [nI_nt b1] at hv
    rw [fMarks_begin_2, if_neg (by rw [h13, e8, nI_le_iff (by omega) (by omega)]; omega), nI_m8 (by omega), nI_d8 (by omega), inb_n (by omega) (by omega), cond_true, hM.m, cond_true, nI_clamp (by omega), h14, hv, x_wput hM (by omega), Option.bind_some, show nI k + 1 = nI (k + 1) from nI_plus _ 1]
    obtain ⟨X', i1, i2, i3⟩ := ih (k + 1) n (am_up (am_up (am_up X (M + 1) k (if hasB (μ 14 (k / 8)).toNatClampNeg (k % 8) then 2 else 0)) (M + 2) k 0) (M + 3) k 0) (by omega) (by omega) (by rw [up_row (by omega), up_row (by omega), up_row (by omega), h13]) (by intro j; rw [up_row (by omega), up_row (by omega), up_row (by omega), h14]) (by
      intro j hj
      by_cases hjk : j = k
      · subst hjk
        rw [up_row (a := M + 1) (by omega), up_row (a := M + 1) (by omega), up_row (a := M + 2) (by omega), up_eq, up_eq, up_eq]
        exact ⟨rfl, fun _ => ⟨rfl, rfl⟩⟩
      · rw [up_ne2 (k := M + 3) hjk, up_row (a := M + 1) (by omega), up_row (a := M + 1) (by omega), up_ne2 hjk, up_row (a := M + 2) (by omega), up_ne2 hjk, up_row (a := M + 2) (by omega), up_row (a := M + 3) (by omega), up_row (a := M + 3) (by omega)]
        exact h j (by omega))
    exact ⟨X', i1, i2, i3.trans FrO.up3⟩
/-- what was ahead, of the things of P -/
def AW (P : Nat → Prop) (X : am_Mu) (W : Wd) : Prop := ∀ k, P k → X 53 k = (W k).1 ∧ (¬ (W k).1 = 0 → X 54 k = (W k).2.1 ∧ X 55 k = (W k).2.2)
theorem x_copy {M a : Nat} (hM : isM M) (ha : a < 20) : ∀ q j n (X X0 : am_Mu), j + q = 8 * a + 8 → 8 * a ≤ j → q < n → (∀ r, ¬ r = 53 → ¬ r = 54 → ¬ r = 55 → X r = X0 r) → (∀ i, 8 * a ≤ i → i < j → X 53 i = X0 (M + 1) i ∧ X 54 i = X0 (M + 2) i ∧ X 55 i = X0 (M + 3) i) → (∀ i, ¬ (8 * a ≤ i ∧ i < 8 * a + 8) → X 53 i = X0 53 i ∧ X 54 i = X0 54 i ∧ X 55 i = X0 55 i) → ∃ X', fMarks_copyThing_5 n 52 M (nI a) (nI j) X = some X' ∧ (∀ r, ¬ r = 53 → ¬ r = 54 → ¬ r = 55 → X' r = X0 r) ∧ (∀ i, 8 * a ≤ i → i < 8 * a + 8 → X' 53 i = X0 (M + 1) i ∧ X' 54 i = X0 (M + 2) i ∧ X' 55 i = X0 (M + 3) i) ∧ ∀ i, ¬ (8 * a ≤ i ∧ i < 8 * a + 8) → X' 53 i = X0 53 i ∧ X' 54 i = X0 54 i ∧ X' 55 i = X0 55 i := by
  have lo := hM.lo
  have e8 : nI a * 8 + 8 = nI (8 * a + 8) := by
    show nI a * nI 8 + nI 8 = _
    rw [nI_mul, nI_plus, Nat.mul_comm]
  intro q
  induction q with
  | zero =>
    intro j n X X0 hj hj2 hn h1 h2 h3
    obtain ⟨n, rfl⟩ : ∃ k, n = k + 1 := ⟨n - 1, by omega⟩
    have : j = 8 * a + 8 := by omega
    subst this
    refine ⟨X, ?_, h1, h2, h3⟩
    rw [fMarks_copyThing_5, if_pos (by rw [e8]; exact Int32.le_refl _)]
  | succ q ih =>
    intro j n X X0 hj hj2 hn h1 h2 h3
    obtain ⟨n, rfl⟩ : ∃ k, n = k + 1 := ⟨n - 1, by omega⟩
    rw [fMarks_copyThing_5, if_neg (by rw [e8, nI_le_iff (by omega) (by omega)]; omega), show am_isMarks 52 = true from rfl, cond_true, hM.m, cond_true, inb_n (by omega) (by omega), cond_true, nI_clamp (by omega), show nI j + 1 = nI (j + 1) from nI_plus _ 1]
    have e2 : am_up X (52 + 1) j (X (M + 1) j) (M + 2) j = X (M + 2) j := by rw [up_row (by omega)]
    rw [e2]
    have e3 : am_up (am_up X (52 + 1) j (X (M + 1) j)) (52 + 2) j (X (M + 2) j) (M + 3) j = X (M + 3) j := by rw [up_row (by omega), up_row (by omega)]
    rw [e3]
    refine ih (j + 1) n _ X0 (by omega) (by omega) (by omega) ?_ ?_ ?_
    · intro r q1 q2 q3
      rw [up_row (by omega), up_row (by omega), up_row (by omega), h1 r q1 q2 q3]
    · intro i q1 q2
      rw [up_row (a := 53) (by omega), up_row (a := 53) (by omega), up_row (a := 54) (by omega)]
      by_cases hij : i = j
      · subst hij
        rw [up_eq, up_eq, up_eq, h1 (M + 1) (by omega) (by omega) (by omega), h1 (M + 2) (by omega) (by omega) (by omega), h1 (M + 3) (by omega) (by omega) (by omega)]
        exact ⟨rfl, rfl, rfl⟩
      · rw [up_ne2 hij, up_ne2 hij, up_ne2 hij, up_row (a := 54) (by omega), up_row (a := 55) (by omega), up_row (a := 55) (by omega)]
        exact h2 i q1 (by omega)
    · intro i hi
      have hij : ¬ i = j := by omega
      rw [up_row (a := 53) (by omega), up_row (a := 53) (by omega), up_row (a := 54) (by omega), up_ne2 hij, up_ne2 hij, up_ne2 hij, up_row (a := 54) (by omega), up_row (a := 55) (by omega), up_row (a := 55) (by omega)]
      exact h3 i hi
theorem x_copyT {K M a : Nat} (hM : isM M) (ha : a < 20) (hK : 8 * a + 8 ≤ K) {X : am_Mu} {W : Wd} (h : XW K M X W) {P : Nat → Prop} (hP : AW P X W) : ∃ X', fMarks_copyThing 52 M (nI a) X = some X' ∧ AW (fun k => k / 8 = a ∨ P k) X' W ∧ ∀ r, ¬ r = 53 → ¬ r = 54 → ¬ r = 55 → X' r = X r := by
  have e8 : nI a * 8 = nI (8 * a) := by
    show nI a * nI 8 = _
    rw [nI_mul, Nat.mul_comm]
  obtain ⟨X', i1, i2, i3, i4⟩ := x_copy hM ha 8 (8 * a) am_F X X (by omega) (by omega) (by unfold am_F; omega) (fun _ _ _ _ => rfl) (fun i h1 h2 => by omega) (fun _ _ => ⟨rfl, rfl, rfl⟩)
  refine ⟨X', ?_, ?_, i2⟩
  · unfold fMarks_copyThing
    rw [e8]
    exact i1
  · intro k hk
    by_cases hka : k / 8 = a
    · obtain ⟨j1, j2, j3⟩ := i3 k (by omega) (by omega)
      rw [j1, j2, j3]
      exact h k (by omega)
    · obtain ⟨j1, j2, j3⟩ := i4 k (by omega)
      rw [j1, j2, j3]
      rcases hk with hk | hk
      · exact absurd hk hka
      · exact hP k hk
/-- a thing is joined with what was ahead -/
theorem x_joinT {K M a : Nat} (hM : isM M) (ha : a < 20) (hK : K ≤ 160) (haK : 8 * a + 8 ≤ K) {W0 : Wd} (hg0 : WG K W0) : ∀ q j n (X : am_Mu) (W : Wd), j + q = 8 * a + 8 → 8 * a ≤ j → q < n → XW K M X W → WG K W → AW (fun k => k / 8 = a) X W0 → ∃ X', fMarks_joinThing_5 n M 52 (nI a) (nI j) X = some X' ∧ XW K M X' (fun k => if j ≤ k ∧ k < 8 * a + 8 then jn (W k) (W0 k) else W k) ∧ FrO M X' X := by
  have lo := hM.lo
  have e8 : nI a * 8 + 8 = nI (8 * a + 8) := by
    show nI a * nI 8 + nI 8 = _
    rw [nI_mul, nI_plus, Nat.mul_comm]
  intro q
  induction q with
  | zero =>
    intro j n X W hj hj2 hn h hg hA
    obtain ⟨n, rfl⟩ : ∃ k, n = k + 1 := ⟨n - 1, by omega⟩
    refine ⟨X, ?_, ?_, FrO.rf⟩
    · rw [fMarks_joinThing_5, if_pos (by rw [e8, show j = 8 * a + 8 by omega]; exact Int32.le_refl _)]
    · intro k hk
      dsimp only
      rw [if_neg (by omega)]
      exact h k hk
  | succ q ih =>
    intro j n X W hj hj2 hn h hg hA
    obtain ⟨n, rfl⟩ : ∃ k, n = k + 1 := ⟨n - 1, by omega⟩
    obtain ⟨a1, a2⟩ := hA j (by omega)
    have hj0 := hg0 j (by omega)
    rw [fMarks_joinThing_5, if_neg (by rw [e8, nI_le_iff (by omega) (by omega)]; omega), show am_isMarks 52 = true from rfl, cond_true, inb_n (by omega) (by omega), cond_true, hM.m, cond_true, nI_clamp (by omega), show nI j + 1 = nI (j + 1) from nI_plus _ 1]
    have e1 : X (52 + 1) j = (W0 j).1 := a1
    obtain ⟨X1, j1, j2, j3⟩ := x_wjoin hM hK (show j < K by omega) h (hg j (by omega)).1 (t := W0 j) hj0.1 (p := X (52 + 2) j) (q := X (52 + 3) j) a2
    rw [e1, j1, Option.bind_some]
    have hA' : AW (fun k => k / 8 = a) X1 W0 := by
      intro k hk
      rw [j3 53 (by omega) (by omega) (by omega), j3 54 (by omega) (by omega) (by omega), j3 55 (by omega) (by omega) (by omega)]
      exact hA k hk
    obtain ⟨X', i1, i2, i3⟩ := ih (j + 1) n X1 (wup W j (jn (W j) (W0 j))) (by omega) (by omega) (by omega) j2 (wup_g hg (jn_g (hg j (by omega)) hj0)) hA'
    refine ⟨X', i1, ?_, i3.trans j3⟩
    intro k hk
    have := i2 k hk
    dsimp only at this ⊢
    by_cases hkj : k = j
    · subst hkj
      rw [if_neg (by omega)] at this
      rw [if_pos (by omega)]
      unfold wup at this
      rw [if_pos rfl] at this
      exact this
    · unfold wup at this
      rw [if_neg hkj] at this
      by_cases hr : j ≤ k ∧ k < 8 * a + 8
      · rw [if_pos (by omega)] at this
        rw [if_pos hr]
        exact this
      · rw [if_neg (by omega)] at this
        rw [if_neg hr]
        exact this
