/-! E: the choices, the reference -/
def FrQ (ν μ : am_Mu) : Prop := (∀ a, ¬ a = 172 → ¬ a = 108 → ν a = μ a) ∧ ∀ j, ¬ j = 86 → ν 108 j = μ 108 j
theorem FrQ.trans {a b c : am_Mu} (h1 : FrQ a b) (h2 : FrQ b c) : FrQ a c := ⟨fun x h3 h4 => (h1.1 x h3 h4).trans (h2.1 x h3 h4), fun j h => (h1.2 j h).trans (h2.2 j h)⟩
theorem FrQ.app {ν μ : am_Mu} {i : Nat} {x y : Int32} (h : FrQ ν μ) : FrQ (am_up (am_up ν 172 i x) 108 86 y) μ := by
  refine ⟨?_, ?_⟩
  · intro a h1 h2
    rw [← h.1 a h1 h2]
    funext j
    simp only [upa]
    grind
  · intro j hj
    rw [← h.2 j hj]
    simp only [upa]
    grind
/-- a memory whose reference part on visits is that of another -/
def MV (β μ : am_Mu) : Prop := (β 108 2 = μ 108 2 ∧ β 108 7 = μ 108 7 ∧ β 108 10 = μ 108 10 ∧ β 108 11 = μ 108 11 ∧ β 108 12 = μ 108 12 ∧ β 108 13 = μ 108 13) ∧ β 152 = μ 152 ∧ β 167 = μ 167 ∧ β 169 = μ 169 ∧ β 170 = μ 170 ∧ β 171 = μ 171
theorem FrQ.mv {ν β μ : am_Mu} (h : FrQ ν β) (k : MV β μ) : MV ν μ := by
  obtain ⟨⟨k1, k2, k3, k4, k5, k6⟩, k7, k8, k9, k10, k11⟩ := k
  refine ⟨⟨?_, ?_, ?_, ?_, ?_, ?_⟩, ?_, ?_, ?_, ?_, ?_⟩
  · rw [h.2 2 (by decide)]; exact k1
  · rw [h.2 7 (by decide)]; exact k2
  · rw [h.2 10 (by decide)]; exact k3
  · rw [h.2 11 (by decide)]; exact k4
  · rw [h.2 12 (by decide)]; exact k5
  · rw [h.2 13 (by decide)]; exact k6
  · rw [h.1 152 (by decide) (by decide)]; exact k7
  · rw [h.1 167 (by decide) (by decide)]; exact k8
  · rw [h.1 169 (by decide) (by decide)]; exact k9
  · rw [h.1 170 (by decide) (by decide)]; exact k10
  · rw [h.1 171 (by decide) (by decide)]; exact k11
/-- the latest visit of a kitchen -/
def LatR (μ : am_Mu) (k : Nat) (r : Int32) : Prop := (r = -1 ∧ μ 105 k = -1 ∧ μ 106 k = 0) ∨ ∃ i, i < (μ 102 7).toNatClampNeg ∧ r = nI i ∧ μ 169 i = nI k ∧ μ 105 k = μ 170 i ∧ μ 106 k = μ 171 i
theorem m_latest {μ β : am_Mu} (g8 : G8 μ) (mv : MV β μ) {k : Nat} (hk : k < 8) : ∃ r, fM_latest (nI k) β = some (r, β) ∧ LatR μ k r := by
  obtain ⟨⟨n1, n2, n3, -⟩, h2, -, h4⟩ := g8
  obtain ⟨⟨-, -, -, m11, -, -⟩, -, -, m169, -, -⟩ := mv
  have n4 : (μ 102 7).toNatClampNeg ≤ 400 := nt_le (b := 400) n1 n2
  have key : ∀ p n, p ≤ (μ 102 7).toNatClampNeg → p < n → (∀ i, p ≤ i → i < (μ 102 7).toNatClampNeg → ¬ μ 169 i = nI k) → ∃ r, fM_latest_7 n (nI k) (nI p - 1) β = some (r, β) ∧ LatR μ k r := by
    intro p
    induction p with
    | zero =>
      intro n h5 h6 h7
      obtain ⟨n, rfl⟩ : ∃ k, n = k + 1 := ⟨n - 1, by omega⟩
      refine ⟨nI 0 - 1, ?_, Or.inl ?_⟩
      · rw [fM_latest_7, if_pos (by decide)]
      · rcases h4 k hk with ⟨q1, q2, -⟩ | ⟨i, q1, q2, -⟩
        · exact ⟨by decide, q1, q2⟩
        · exact absurd q2 (h7 i (by omega) q1)
    | succ p ih =>
      intro n h5 h6 h7
      obtain ⟨n, rfl⟩ : ∃ k, n = k + 1 := ⟨n - 1, by omega⟩
      have e1 : nI (p + 1) - 1 = nI p := by rw [← nI_plus]; show nI p + 1 - 1 = _; grind
      have e2 : nI p + -1 = nI p - 1 := by grind
      have h0 : ¬ nI p < 0 := Int32.not_lt.mpr (nI_pos' (by omega))
      rw [fM_latest_7, e1, if_neg h0, inb_n (by omega) (by omega), cond_true, nI_clamp (show p < 2 ^ 31 by omega), m169, e2]
      by_cases c : μ 169 p = nI k
      · rw [if_pos c]
        refine ⟨nI p, rfl, Or.inr ⟨p, by omega, rfl, c, ?_⟩⟩
        rcases h4 k hk with ⟨-, -, q⟩ | ⟨i, q1, q2, q3, q4, q5⟩
        · exact absurd c (q p (by omega))
        · have : i = p := by
            rcases Nat.lt_trichotomy i p with h | h | h
            · exact absurd c (q5 p h (by omega))
            · exact h
            · exact absurd q2 (h7 i (by omega) q1)
          subst this
          exact ⟨q3, q4⟩
      · rw [if_neg c]
        refine ih n (by omega) (by omega) ?_
        intro i hi hi2
        by_cases hip : i = p
        · subst hip
          exact c
        · exact h7 i (by omega) hi2
  unfold fM_latest
  rw [m11, n3, ← nI_nt n1]
  exact key _ am_F (Nat.le_refl _) (by unfold am_F; omega) (fun i h5 h6 => absurd h5 (by omega))
theorem m_in {μ β : am_Mu} (g5 : G5 μ) (g7 : G7 μ) (g8 : G8 μ) (mv : MV β μ) {nV : Nat} (hV : μ 97 4 = nI nV) (hV6 : nV ≤ 6) {k7 : Int32 → Int32 → am_Mu → Option am_Mu} {ov r : Int32} {k : Nat} (hk : k < 8) (hr : LatR μ k r) {L : List Int32} (hL : L.length + 6 ≤ 48) : ∀ q v n (ν : am_Mu), v + q = nV → q < n → FrQ ν β → RowIs (ν 172) (L ++ chV μ k v) → ν 108 86 = nI (L ++ chV μ k v).length → ∃ ν', fM_lists_61 n k7 ov (nI k) r (nI v) ν = k7 ov (nI (k + 1)) ν' ∧ FrQ ν' β ∧ RowIs (ν' 172) (L ++ chV μ k nV) ∧ ν' 108 86 = nI (L ++ chV μ k nV).length := by
  obtain ⟨-, -, -, h152, -⟩ := g5
  obtain ⟨v1, v2, v3, h167⟩ := g7
  obtain ⟨⟨n1, n2, n3, -⟩, h170, -, -⟩ := g8
  obtain ⟨⟨-, -, m10, -, -, -⟩, m152, m167, -, m170, -⟩ := mv
  have n4 : (μ 102 7).toNatClampNeg ≤ 400 := nt_le (b := 400) n1 n2
  have hVn : (μ 97 4).toNatClampNeg = nV := by rw [hV, nI_clamp (by omega)]
  intro q
  induction q with
  | zero =>
    intro v n ν h1 h2 h3 h4 h5
    obtain ⟨n, rfl⟩ : ∃ k, n = k + 1 := ⟨n - 1, by omega⟩
    have e : v = nV := by omega
    subst e
    refine ⟨ν, ?_, h3, h4, h5⟩
    rw [fM_lists_61, h3.2 10 (by decide), m10, v3, hV, if_pos (Int32.le_refl _)]
    unfold fM_lists_137
    rw [show nI k + 1 = nI (k + 1) from nI_plus k 1]
  | succ q ih =>
    intro v n ν h1 h2 h3 h4 h5
    obtain ⟨n, rfl⟩ : ∃ k, n = k + 1 := ⟨n - 1, by omega⟩
    have hlt : ¬ nI nV ≤ nI v := by
      rw [nI_le_iff (by omega) (by omega)]
      omega
    have lv := chV_len μ k v
    have ll : (L ++ chV μ k v).length < 48 := by rw [List.length_append]; omega
    obtain ⟨⟨w1, w2, w3⟩, -⟩ := h167 v (by omega)
    obtain ⟨⟨u1, -⟩, -⟩ := h152 k hk
    rw [fM_lists_61, h3.2 10 (by decide), m10, v3, hV, if_neg hlt, inb_n (by omega) (by omega), cond_true, inb_n hk (by omega), cond_true, nI_clamp (show v < 2 ^ 31 by omega), nI_clamp (show k < 2 ^ 31 by omega), h3.1 167 (by decide) (by decide), h3.1 152 (by decide) (by decide), h3.1 170 (by decide) (by decide), m167, m152, m170, w1, u1]
    have same : ¬ chC μ k v → ∃ ν', fM_lists_131 k7 (fM_lists_61 n k7) ov (nI k) r (nI v) ν = k7 ov (nI (k + 1)) ν' ∧ FrQ ν' β ∧ RowIs (ν' 172) (L ++ chV μ k nV) ∧ ν' 108 86 = nI (L ++ chV μ k nV).length := by
      intro hc
      unfold fM_lists_131
      rw [show nI v + 1 = nI (v + 1) from nI_plus v 1]
      have e : chV μ k (v + 1) = chV μ k v := by
        rw [chV, if_neg hc]
      exact ih (v + 1) n ν (by omega) (by omega) h3 (by rw [e]; exact h4) (by rw [e]; exact h5)
    have add : chC μ k v → ∃ ν', fM_lists_105 k7 (fM_lists_61 n k7) ov (nI k) r (nI v) ν = k7 ov (nI (k + 1)) ν' ∧ FrQ ν' β ∧ RowIs (ν' 172) (L ++ chV μ k nV) ∧ ν' 108 86 = nI (L ++ chV μ k nV).length := by
      intro hc
      unfold fM_lists_105 fM_lists_131
      rw [h5, inb_n ll (by omega), cond_true, nI_clamp (show (L ++ chV μ k v).length < 2 ^ 31 by omega)]
      rw [show nI v + 1 = nI (v + 1) from nI_plus v 1]
      have e : chV μ k (v + 1) = chV μ k v ++ [nI (10 * k + v)] := by
        rw [chV, if_pos hc]
      have e2 : nI (L ++ chV μ k v).length + 1 = nI (L ++ chV μ k (v + 1)).length := by
        rw [e, ← List.append_assoc, List.length_append (as := L ++ chV μ k v)]
        exact nI_plus _ 1
      have e3 : (10 : Int32) * nI k + nI v = nI (10 * k + v) := by
        show nI 10 * nI k + nI v = _
        rw [nI_mul, nI_plus]
      rw [e2, e3]
      refine ih (v + 1) n _ (by omega) (by omega) h3.app ?_ ?_
      · rw [e, ← List.append_assoc]
        refine h4.app ?_
        intro j
        simp only [upa]
        grind
      · simp [upa]
    by_cases c1 : μ 98 v = μ 77 k
    · rw [if_neg (by simpa using c1)]
      rcases hr with ⟨r1, r2, r3⟩ | ⟨i, r1, r2, r3, r4, r5⟩
      · rw [if_pos r1]
        refine add ⟨c1, ?_⟩
        rw [r2]
        intro h
        have := nI_pos' (n := v) (by omega)
        rw [← h] at this
        exact absurd this (by decide)
      · have hne : ¬ r = -1 := by
          intro h
          have := nI_pos' (n := i) (by omega)
          rw [← r2, h] at this
          exact absurd this (by decide)
        rw [if_neg hne, r2, inb_n (by omega) (by omega), cond_true, nI_clamp (show i < 2 ^ 31 by omega), ← r4]
        by_cases c2 : μ 105 k = nI v
        · rw [if_neg (by simpa using c2), ← r2]
          exact same (fun h => h.2 c2)
        · rw [if_pos c2, ← r2]
          exact add ⟨c1, c2⟩
    · rw [if_pos c1]
      exact same (fun h => c1 h.1)
theorem m_out {μ β : am_Mu} (g5 : G5 μ) (g7 : G7 μ) (g8 : G8 μ) (mv : MV β μ) {D : Int32} (hD : μ 108 2 / 1440 = D) {nV nK : Nat} (hV : μ 97 4 = nI nV) (hV6 : nV ≤ 6) (hK : μ 76 8 = nI nK) (hK8 : nK ≤ 8) {ov : Int32} : ∀ q k n (ν : am_Mu), k + q = nK → q < n → FrQ ν β → RowIs (ν 172) (chK μ D ov nV k) → ν 108 86 = nI (chK μ D ov nV k).length → ∃ ν', fM_lists_7 n ov (nI k) ν = some ν' ∧ FrQ ν' β ∧ RowIs (ν' 172) (chK μ D ov nV nK) ∧ ν' 108 86 = nI (chK μ D ov nV nK).length := by
  have g5' := g5
  have g8' := g8
  obtain ⟨-, -, u3, -⟩ := g5
  obtain ⟨⟨n1, n2, n3, -, -, -, -, p13⟩, h170, -, -⟩ := g8
  have n4 : (μ 102 7).toNatClampNeg ≤ 400 := nt_le (b := 400) n1 n2
  intro q
  induction q with
  | zero =>
    intro k n ν h1 h2 h3 h4 h5
    obtain ⟨n, rfl⟩ : ∃ k, n = k + 1 := ⟨n - 1, by omega⟩
    have e : k = nK := by omega
    subst e
    refine ⟨ν, ?_, h3, h4, h5⟩
    rw [fM_lists_7, (h3.mv mv).1.2.1, u3, hK, if_pos (Int32.le_refl _)]
  | succ q ih =>
    intro k n ν h1 h2 h3 h4 h5
    obtain ⟨n, rfl⟩ : ∃ k, n = k + 1 := ⟨n - 1, by omega⟩
    have hlt : ¬ nI nK ≤ nI k := by
      rw [nI_le_iff (by omega) (by omega)]
      omega
    have lk := chK_len μ D ov hV6 k
    have mvν := h3.mv mv
    obtain ⟨r, l1, l2⟩ := m_latest g8' mvν (show k < 8 by omega)
    have mvν' := mvν
    obtain ⟨⟨e2, e7, -, -, -, e13⟩, -, -, -, -, e171⟩ := mvν
    rw [fM_lists_7, e7, u3, hK, if_neg hlt, l1, Option.bind_some]
    dsimp only
    have skip : ¬ chO μ D ov k → ∃ ν', fM_lists_137 (fM_lists_7 n) ov (nI k) ν = some ν' ∧ FrQ ν' β ∧ RowIs (ν' 172) (chK μ D ov nV nK) ∧ ν' 108 86 = nI (chK μ D ov nV nK).length := by
      intro hc
      unfold fM_lists_137
      have e : chK μ D ov nV (k + 1) = chK μ D ov nV k := by rw [chK, if_neg hc]
      rw [show nI k + 1 = nI (k + 1) from nI_plus k 1]
      exact ih (k + 1) n ν (by omega) (by omega) h3 (by rw [e]; exact h4) (by rw [e]; exact h5)
    have go : chO μ D ov k → ∃ ν', fM_lists_58 (fM_lists_7 n) ov (nI k) r ν = some ν' ∧ FrQ ν' β ∧ RowIs (ν' 172) (chK μ D ov nV nK) ∧ ν' 108 86 = nI (chK μ D ov nV nK).length := by
      intro hc
      unfold fM_lists_58
      have e : chK μ D ov nV (k + 1) = chK μ D ov nV k ++ chV μ k nV := by rw [chK, if_pos hc]
      obtain ⟨ν', i1, i2, i3, i4⟩ := m_in g5' g7 g8' mv hV hV6 (k7 := fM_lists_7 n) (ov := ov) (show k < 8 by omega) l2 (L := chK μ D ov nV k) (by omega) nV 0 am_F ν (by omega) (by unfold am_F; omega) h3 (by rw [chV, List.append_nil]; exact h4) (by rw [chV, List.append_nil]; exact h5)
      rw [show (0 : Int32) = nI 0 from rfl, i1]
      exact ih (k + 1) n ν' (by omega) (by omega) i2 (by rw [e]; exact i3) (by rw [e]; exact i4)
    have mid : ¬ (¬ μ 105 k = -1 ∧ μ 106 k = D) → ∃ ν', fM_lists_43 (fM_lists_7 n) ov (nI k) r ν = some ν' ∧ FrQ ν' β ∧ RowIs (ν' 172) (chK μ D ov nV nK) ∧ ν' 108 86 = nI (chK μ D ov nV nK).length := by
      intro h5
      unfold fM_lists_43
      by_cases c7 : ov = 0
      · rw [if_pos c7]
        exact go ⟨h5, Or.inl c7⟩
      · rw [if_neg c7]
        unfold fM_isOverdue
        rw [l1, Option.bind_some]
        dsimp only
        have od : ∀ x, x = μ 106 k → fM_isOverdue_29 (ν 108 2 / 1440) x ν = some (if D - μ 106 k ≤ μ 102 9 then 0 else 1, ν) := by
          intro x hx
          unfold fM_isOverdue_29
          rw [hx, e2, hD, e13, p13]
          split <;> rfl
        have tail : ∀ z : Option (Int32 × am_Mu), z = some (if D - μ 106 k ≤ μ 102 9 then 0 else 1, ν) → ∃ ν', (z.bind fun q2 => if ¬ q2.1 = 0 then fM_lists_58 (fM_lists_7 n) ov (nI k) r q2.2 else fM_lists_137 (fM_lists_7 n) ov (nI k) q2.2) = some ν' ∧ FrQ ν' β ∧ RowIs (ν' 172) (chK μ D ov nV nK) ∧ ν' 108 86 = nI (chK μ D ov nV nK).length := by
          intro z hz
          rw [hz, Option.bind_some]
          dsimp only
          by_cases c6 : D - μ 106 k ≤ μ 102 9
          · rw [if_pos c6, if_neg (by decide)]
            exact skip (fun h => h.2.elim c7 (fun h => h c6))
          · rw [if_neg c6, if_pos (by decide)]
            exact go ⟨h5, Or.inr c6⟩
        refine tail _ ?_
        rcases l2 with ⟨r1, r2, r3⟩ | ⟨i, r1, r2, -, r4, r5⟩
        · rw [if_neg (by simpa using r1)]
          exact od 0 r3.symm
        · have hne : ¬ r = -1 := by
            intro h
            have := nI_pos' (n := i) (by omega)
            rw [← r2, h] at this
            exact absurd this (by decide)
          rw [if_pos hne, r2, inb_n (by omega) (by omega), cond_true, nI_clamp (show i < 2 ^ 31 by omega), e171]
          exact od _ r5.symm
    rcases l2 with ⟨r1, r2, r3⟩ | ⟨i, r1, r2, -, r4, r5⟩
    · rw [if_pos r1]
      exact mid (fun h => h.1 r2)
    · have hne : ¬ r = -1 := by
        intro h
        have := nI_pos' (n := i) (by omega)
        rw [← r2, h] at this
        exact absurd this (by decide)
      rw [if_neg hne]
      obtain ⟨-, ⟨p1, -⟩, -⟩ := h170 i r1
      have hx : ¬ μ 105 k = -1 := by
        rw [r4]
        intro h
        rw [h] at p1
        exact absurd p1 (by decide)
      have hb : am_inb r 400 = true := by rw [r2]; exact inb_n (by omega) (by omega)
      have hi : r.toNatClampNeg = i := by rw [r2, nI_clamp (by omega)]
      have hcond : (ν 171 i = ν 108 2 / 1440) ↔ (μ 106 k = D) := by rw [e171, e2, hD, ← r5]
      rw [hb, cond_true, hi]
      by_cases c : μ 106 k = D
      · rw [if_pos (hcond.mpr c)]
        exact skip (fun h => h.1 ⟨hx, c⟩)
      · rw [if_neg (fun h => c (hcond.mp h))]
        exact mid (fun h => c h.2)
theorem m_rows {μ β : am_Mu} (g5 : G5 μ) (g7 : G7 μ) (g8 : G8 μ) (mv : MV β μ) {D : Int32} (hD : μ 108 2 / 1440 = D) {nV nK : Nat} (hV : μ 97 4 = nI nV) (hV6 : nV ≤ 6) (hK : μ 76 8 = nI nK) (hK8 : nK ≤ 8) : ∃ ν', fM_rows β = some ν' ∧ FrQ ν' β ∧ RowIs (ν' 172) (chR μ D nV nK) ∧ ν' 108 86 = nI (chR μ D nV nK).length := by
  have z : ∀ β : am_Mu, FrQ (am_up β 108 86 0) β := by
    intro β
    refine ⟨?_, ?_⟩
    · intro a h1 h2
      funext j
      simp only [upa]
      grind
    · intro j hj
      simp only [upa]
      grind
  have l1 := chK_len μ D 1 hV6 nK
  obtain ⟨ν, a1, a2, a3, a4⟩ := m_out g5 g7 g8 mv hD hV hV6 hK hK8 (ov := 1) nK 0 am_F (am_up β 108 86 0) (by omega) (by unfold am_F; omega) (z β) (fun j hj => absurd hj (by unfold chK; simp)) (by simp only [upa]; rfl)
  unfold fM_rows fM_lists
  change fM_lists_7 am_F 1 0 _ = _ at a1
  rw [a1, Option.bind_some, a4]
  by_cases h : chK μ D 1 nV nK = []
  · rw [if_neg (by rw [h]; decide)]
    obtain ⟨ν', b1, b2, b3, b4⟩ := m_out g5 g7 g8 (a2.mv mv) hD hV hV6 hK hK8 (ov := 0) nK 0 am_F (am_up ν 108 86 0) (by omega) (by unfold am_F; omega) (z ν) (fun j hj => absurd hj (by unfold chK; simp)) (by simp only [upa]; rfl)
    change fM_lists_7 am_F 0 0 _ = _ at b1
    rw [b1, Option.bind_some]
    refine ⟨ν', rfl, b2.trans a2, ?_, ?_⟩
    · rw [chR, if_pos h]
      exact b3
    · rw [chR, if_pos h]
      exact b4
  · have hpos : 0 < (chK μ D 1 nV nK).length := List.length_pos_iff.mpr h
    have hn : ¬ nI (chK μ D 1 nV nK).length = 0 := by
      rw [show (0 : Int32) = nI 0 from rfl, nI_inj (by omega) (by omega)]
      omega
    rw [if_pos hn]
    refine ⟨ν, rfl, a2, ?_, ?_⟩
    · rw [chR, if_neg h]
      exact a3
    · rw [chR, if_neg h]
      exact a4
