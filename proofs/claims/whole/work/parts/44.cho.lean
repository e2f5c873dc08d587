/-! E: the choices of a visit -/
abbrev chC (μ : am_Mu) (k v : Nat) : Prop := μ 98 v = μ 77 k ∧ ¬ μ 105 k = nI v
def chV (μ : am_Mu) (k : Nat) : Nat → List Int32
  | 0 => []
  | v + 1 => if chC μ k v then chV μ k v ++ [nI (10 * k + v)] else chV μ k v
abbrev chO (μ : am_Mu) (D ov : Int32) (k : Nat) : Prop := ¬ (¬ μ 105 k = -1 ∧ μ 106 k = D) ∧ (ov = 0 ∨ ¬ (D - μ 106 k ≤ μ 102 9))
def chK (μ : am_Mu) (D ov : Int32) (nV : Nat) : Nat → List Int32
  | 0 => []
  | k + 1 => if chO μ D ov k then chK μ D ov nV k ++ chV μ k nV else chK μ D ov nV k
theorem chV_len (μ : am_Mu) (k : Nat) : ∀ v, (chV μ k v).length ≤ v := by
  intro v
  induction v with
  | zero => exact Nat.le_refl _
  | succ v ih =>
    unfold chV
    split
    · rw [List.length_append]
      exact Nat.succ_le_succ ih
    · omega
theorem chK_len (μ : am_Mu) (D ov : Int32) {nV : Nat} (h : nV ≤ 6) : ∀ k, (chK μ D ov nV k).length ≤ 6 * k := by
  intro k
  induction k with
  | zero => exact Nat.le_refl _
  | succ k ih =>
    unfold chK
    have := chV_len μ k nV
    split
    · rw [List.length_append]
      omega
    · omega
def RowIs (r : Nat → Int32) (L : List Int32) : Prop := ∀ j, j < L.length → r j = L.getD j 0
theorem RowIs.app {r s : Nat → Int32} {L : List Int32} {x : Int32} (h : RowIs r L) (e : ∀ j, s j = if j = L.length then x else r j) : RowIs s (L ++ [x]) := by
  intro j hj
  rw [e]
  rw [List.length_append] at hj
  simp only [List.length_cons, List.length_nil] at hj
  by_cases hjl : j = L.length
  · rw [if_pos hjl, hjl]
    simp
  · rw [if_neg hjl, h j (by omega)]
    simp only [List.getD_eq_getElem?_getD]
    rw [List.getElem?_append_left (by omega)]
def FrR (r : Nat) (ν μ : am_Mu) : Prop := ∀ a, ¬ a = r → ν a = μ a
theorem FrR.up {r i : Nat} {x : Int32} {ν μ : am_Mu} (h : FrR r ν μ) : FrR r (am_up ν r i x) μ := by
  intro a ha
  rw [← h a ha]
  funext j
  simp only [upa]
  grind
theorem x_in {μ : am_Mu} {nV : Nat} (hV : μ 97 4 = nI nV) (hV6 : nV ≤ 6) {k5 : Int32 → Int32 → Int32 → Int32 → am_Mu → Option (Int32 × am_Mu)} {D ov : Int32} {k : Nat} (hk : k < 8) {L : List Int32} (hL : L.length + 6 ≤ 48) : ∀ q v n (ν : am_Mu), v + q = nV → q < n → FrR 107 ν μ → RowIs (ν 107) (L ++ chV μ k v) → ∃ ν', fVisits_fillChoices_89 n k5 D ov (nI (L ++ chV μ k v).length) (nI k) (nI v) ν = k5 D ov (nI (L ++ chV μ k nV).length) (nI (k + 1)) ν' ∧ FrR 107 ν' μ ∧ RowIs (ν' 107) (L ++ chV μ k nV) := by
  intro q
  induction q with
  | zero =>
    intro v n ν h1 h2 h3 h4
    obtain ⟨n, rfl⟩ : ∃ k, n = k + 1 := ⟨n - 1, by omega⟩
    have e : v = nV := by omega
    subst e
    refine ⟨ν, ?_, h3, h4⟩
    rw [fVisits_fillChoices_89, h3 97 (by decide), hV, if_pos (Int32.le_refl _)]
    unfold fVisits_fillChoices_159
    rw [show nI k + 1 = nI (k + 1) from nI_plus k 1]
  | succ q ih =>
    intro v n ν h1 h2 h3 h4
    obtain ⟨n, rfl⟩ : ∃ k, n = k + 1 := ⟨n - 1, by omega⟩
    have hlt : ¬ nI nV ≤ nI v := by
      rw [nI_le_iff (by omega) (by omega)]
      omega
    have lv := chV_len μ k v
    have ll : (L ++ chV μ k v).length < 48 := by rw [List.length_append]; omega
    rw [fVisits_fillChoices_89, h3 97 (by decide), hV, if_neg hlt, inb_n (by omega) (by omega), cond_true, inb_n hk (by omega), cond_true, nI_clamp (show v < 2 ^ 31 by omega), nI_clamp (show k < 2 ^ 31 by omega), h3 98 (by decide), h3 77 (by decide), h3 105 (by decide), inb_n ll (by omega), cond_true, nI_clamp (show (L ++ chV μ k v).length < 2 ^ 31 by omega)]
    have same : ¬ chC μ k v → ∃ ν', fVisits_fillChoices_153 k5 (fVisits_fillChoices_89 n k5) D ov (nI (L ++ chV μ k v).length) (nI k) (nI v) ν = k5 D ov (nI (L ++ chV μ k nV).length) (nI (k + 1)) ν' ∧ FrR 107 ν' μ ∧ RowIs (ν' 107) (L ++ chV μ k nV) := by
      intro hc
      unfold fVisits_fillChoices_153
      rw [show nI v + 1 = nI (v + 1) from nI_plus v 1]
      have e : chV μ k (v + 1) = chV μ k v := by
        rw [chV, if_neg hc]
      rw [← e]
      exact ih (v + 1) n ν (by omega) (by omega) h3 (by rw [e]; exact h4)
    by_cases c1 : μ 98 v = μ 77 k
    · rw [if_neg (by simpa using c1)]
      by_cases c2 : μ 105 k = nI v
      · rw [if_pos c2]
        exact same (fun h => h.2 c2)
      · rw [if_neg c2]
        unfold fVisits_fillChoices_153
        rw [show nI v + 1 = nI (v + 1) from nI_plus v 1]
        have e : chV μ k (v + 1) = chV μ k v ++ [nI (10 * k + v)] := by
          rw [chV, if_pos ⟨c1, c2⟩]
        have e2 : nI (L ++ chV μ k v).length + 1 = nI (L ++ chV μ k (v + 1)).length := by
          rw [e, ← List.append_assoc, List.length_append (as := L ++ chV μ k v)]
          exact nI_plus _ 1
        have e3 : nI k * 10 + nI v = nI (10 * k + v) := by
          show nI k * nI 10 + nI v = _
          rw [nI_mul, nI_plus, Nat.mul_comm]
        rw [e2, e3]
        refine ih (v + 1) n _ (by omega) (by omega) h3.up ?_
        rw [e, ← List.append_assoc]
        refine h4.app ?_
        intro j
        simp only [upa]
        grind
    · rw [if_pos c1]
      exact same (fun h => c1 h.1)
theorem x_out {μ : am_Mu} {nV nK : Nat} (hV : μ 97 4 = nI nV) (hV6 : nV ≤ 6) (hK : μ 76 8 = nI nK) (hK8 : nK ≤ 8) {D ov : Int32} : ∀ q k n (ν : am_Mu), k + q = nK → q < n → FrR 107 ν μ → RowIs (ν 107) (chK μ D ov nV k) → ∃ ν', fVisits_fillChoices_5 n D ov (nI (chK μ D ov nV k).length) (nI k) ν = some (nI (chK μ D ov nV nK).length, ν') ∧ FrR 107 ν' μ ∧ RowIs (ν' 107) (chK μ D ov nV nK) := by
  intro q
  induction q with
  | zero =>
    intro k n ν h1 h2 h3 h4
    obtain ⟨n, rfl⟩ : ∃ k, n = k + 1 := ⟨n - 1, by omega⟩
    have e : k = nK := by omega
    subst e
    refine ⟨ν, ?_, h3, h4⟩
    rw [fVisits_fillChoices_5, h3 76 (by decide), hK, if_pos (Int32.le_refl _)]
  | succ q ih =>
    intro k n ν h1 h2 h3 h4
    obtain ⟨n, rfl⟩ : ∃ k, n = k + 1 := ⟨n - 1, by omega⟩
    have hlt : ¬ nI nK ≤ nI k := by
      rw [nI_le_iff (by omega) (by omega)]
      omega
    have lk := chK_len μ D ov hV6 k
    rw [fVisits_fillChoices_5, h3 76 (by decide), hK, if_neg hlt, inb_n (show k < 8 by omega) (by omega), cond_true, nI_clamp (show k < 2 ^ 31 by omega), h3 105 (by decide), h3 106 (by decide)]
    have skip : ¬ chO μ D ov k → ∃ ν', fVisits_fillChoices_159 (fVisits_fillChoices_5 n) D ov (nI (chK μ D ov nV k).length) (nI k) ν = some (nI (chK μ D ov nV nK).length, ν') ∧ FrR 107 ν' μ ∧ RowIs (ν' 107) (chK μ D ov nV nK) := by
      intro hc
      unfold fVisits_fillChoices_159
      have e : chK μ D ov nV (k + 1) = chK μ D ov nV k := by rw [chK, if_neg hc]
      rw [show nI k + 1 = nI (k + 1) from nI_plus k 1, ← e]
      exact ih (k + 1) n ν (by omega) (by omega) h3 (by rw [e]; exact h4)
    have go : chO μ D ov k → ∃ ν', fVisits_fillChoices_86 (fVisits_fillChoices_5 n) D ov (nI (chK μ D ov nV k).length) (nI k) ν = some (nI (chK μ D ov nV nK).length, ν') ∧ FrR 107 ν' μ ∧ RowIs (ν' 107) (chK μ D ov nV nK) := by
      intro hc
      unfold fVisits_fillChoices_86
      have e : chK μ D ov nV (k + 1) = chK μ D ov nV k ++ chV μ k nV := by rw [chK, if_pos hc]
      obtain ⟨ν', i1, i2, i3⟩ := x_in hV hV6 (k5 := fVisits_fillChoices_5 n) (D := D) (ov := ov) (show k < 8 by omega) (L := chK μ D ov nV k) (by omega) nV 0 am_F ν (by omega) (by unfold am_F; omega) h3 (by rw [chV, List.append_nil]; exact h4)
      rw [chV, List.append_nil] at i1
      rw [show (0 : Int32) = nI 0 from rfl, i1, ← e]
      exact ih (k + 1) n ν' (by omega) (by omega) i2 (by rw [e]; exact i3)
    have mid : ∀ a5 : Int32, (a5 = 0 ↔ ¬ (¬ μ 105 k = -1 ∧ μ 106 k = D)) → ∃ ν', fVisits_fillChoices_44 (fVisits_fillChoices_5 n) D ov (nI (chK μ D ov nV k).length) (nI k) a5 ν = some (nI (chK μ D ov nV nK).length, ν') ∧ FrR 107 ν' μ ∧ RowIs (ν' 107) (chK μ D ov nV nK) := by
      intro a5 h5
      unfold fVisits_fillChoices_44
      rw [inb_n (show k < 8 by omega) (by omega), cond_true, nI_clamp (show k < 2 ^ 31 by omega), h3 106 (by decide), h3 102 (by decide)]
      by_cases c5 : a5 = 0
      · have n5 := h5.mp c5
        by_cases c6 : D - μ 106 k ≤ μ 102 9
        · rw [if_pos c6]
          unfold fVisits_fillChoices_67
          rw [if_neg (by simpa using c5)]
          by_cases c7 : ov = 0
          · rw [if_pos c7]
            exact go ⟨n5, Or.inl c7⟩
          · rw [if_neg c7, if_neg (by decide)]
            exact skip (fun h => h.2.elim c7 (fun h => h c6))
        · rw [if_neg c6]
          unfold fVisits_fillChoices_67
          rw [if_neg (by simpa using c5)]
          by_cases c7 : ov = 0
          · rw [if_pos c7]
            exact go ⟨n5, Or.inl c7⟩
          · rw [if_neg c7, if_pos (by decide)]
            exact go ⟨n5, Or.inr c6⟩
      · have hs := skip (fun h => c5 (h5.mpr h.1))
        unfold fVisits_fillChoices_67
        simp only [if_pos c5, ite_self]
        exact hs
    by_cases c1 : μ 105 k = -1
    · rw [if_pos c1]
      unfold fVisits_fillChoices_43
      exact mid 0 ⟨fun _ h => h.1 c1, fun _ => rfl⟩
    · rw [if_neg c1]
      by_cases c2 : μ 106 k = D
      · rw [if_neg (by simpa using c2)]
        exact mid 1 ⟨fun h => absurd h (by decide), fun h => absurd ⟨c1, c2⟩ h⟩
      · rw [if_pos c2]
        unfold fVisits_fillChoices_43
        exact mid 0 ⟨fun _ h => c2 h.2, fun _ => rfl⟩
/-- the row of choices -/
def chR (μ : am_Mu) (D : Int32) (nV nK : Nat) : List Int32 := if chK μ D 1 nV nK = [] then chK μ D 0 nV nK else chK μ D 1 nV nK
theorem x_row {μ : am_Mu} {nV nK : Nat} (hV : μ 97 4 = nI nV) (hV6 : nV ≤ 6) (hK : μ 76 8 = nI nK) (hK8 : nK ≤ 8) {D : Int32} : ∃ ν', fVisits_fillRow D μ = some (nI (chR μ D nV nK).length, ν') ∧ FrR 107 ν' μ ∧ RowIs (ν' 107) (chR μ D nV nK) := by
  obtain ⟨ν, a1, a2, a3⟩ := x_out (μ := μ) hV hV6 hK hK8 (D := D) (ov := 1) nK 0 am_F μ (by omega) (by unfold am_F; omega) (fun _ _ => rfl) (fun j hj => absurd hj (by unfold chK; simp))
  have l1 := chK_len μ D 1 hV6 nK
  unfold fVisits_fillRow fVisits_fillChoices
  change fVisits_fillChoices_5 am_F D 1 0 0 μ = _ at a1
  rw [a1, Option.bind_some]
  dsimp only
  by_cases h : chK μ D 1 nV nK = []
  · rw [if_pos (by rw [h]; decide)]
    have hV' : ν 97 4 = nI nV := by rw [a2 97 (by decide)]; exact hV
    have hK' : ν 76 8 = nI nK := by rw [a2 76 (by decide)]; exact hK
    have cC : ∀ k v, chV ν k v = chV μ k v := by
      intro k v
      induction v with
      | zero => rfl
      | succ v ih => simp only [chV, chC, ih, a2 98 (by decide), a2 77 (by decide), a2 105 (by decide)]
    have cK : ∀ k, chK ν D 0 nV k = chK μ D 0 nV k := by
      intro k
      induction k with
      | zero => rfl
      | succ k ih => simp only [chK, chO, ih, cC, a2 106 (by decide), a2 102 (by decide), a2 105 (by decide)]
    obtain ⟨ν', b1, b2, b3⟩ := x_out (μ := ν) hV' hV6 hK' hK8 (D := D) (ov := 0) nK 0 am_F ν (by omega) (by unfold am_F; omega) (fun _ _ => rfl) (fun j hj => absurd hj (by unfold chK; simp))
    change fVisits_fillChoices_5 am_F D 0 0 0 ν = _ at b1
    rw [cK] at b1 b3
    rw [b1, Option.bind_some]
    refine ⟨ν', ?_, fun a ha => (b2 a ha).trans (a2 a ha), ?_⟩
    · rw [chR, if_pos h]
    · rw [chR, if_pos h]
      exact b3
  · have hpos : 0 < (chK μ D 1 nV nK).length := List.length_pos_iff.mpr h
    have hn : ¬ nI (chK μ D 1 nV nK).length ≤ 0 := by
      rw [show (0 : Int32) = nI 0 from rfl, nI_le_iff (by omega) (by omega)]
      omega
    rw [if_neg hn]
    refine ⟨ν, ?_, a2, ?_⟩
    · rw [chR, if_neg h]
    · rw [chR, if_neg h]
      exact a3
