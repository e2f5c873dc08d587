/-! E: THE LAW'S NUMBERS, and the loops that lay things, acts and mistakes -/
theorem CSt.cong {n k q : Nat} {K A : Nat → Nat} {B : Nat → Option Nat} {M wr wm : Nat → Nat} {μ ν : am_Mu} (h : CSt n k q K A B M wr wm μ) (e : ∀ a, a ≤ 52 → ν a = μ a) : CSt n k q K A B M wr wm ν := by
  obtain ⟨⟨b1, b2, b3, b4⟩, ⟨a1, a2⟩, ⟨m1, m2⟩, c1, c2⟩ := h
  refine ⟨⟨by rw [e 0 (by omega)]; exact b1, b2.cong (fun a _ h2 => e a (by omega)), by rw [e 13 (by omega)]; exact b3, by rw [e 14 (by omega)]; exact b4⟩, ⟨by rw [e 13 (by omega)]; exact a1, ?_⟩, ⟨by rw [e 13 (by omega)]; exact m1, ?_⟩, by rw [e 13 (by omega)]; exact c1, by rw [e 26 (by omega)]; exact c2⟩
  · rw [e 15 (by omega), e 16 (by omega), e 17 (by omega), e 18 (by omega), e 19 (by omega), e 20 (by omega), e 21 (by omega)]
    exact a2
  · rw [e 22 (by omega), e 23 (by omega), e 24 (by omega), e 25 (by omega)]
    exact m2
theorem and_lt (v : Int32) : ∃ j, j < 65536 ∧ v &&& 65535 = nI j := pk_andE v (m := 65535) 16 (by decide)
def cvL (sL : Nat) (sX : Nat → Int32) (k : Nat) : Int32 := if Int32.ofNat sL ≤ nI k then 0 else sX k
def pkN (v : Int32) (N : Nat) : Nat := (v &&& 65535).toNatClampNeg % N
theorem l_cell {sL : Nat} {sX : Nat → Int32} (hL : sL ≤ 260) {k : Nat} (hk : k < 1000) (μ : am_Mu) : fL_cell sL sX (nI k) μ = some (cvL sL sX k, μ) := by
  unfold fL_cell cvL
  have e : Int32.ofNat sL = nI sL := rfl
  by_cases h : Int32.ofNat sL ≤ nI k
  · rw [if_pos h, if_pos h]
  · rw [if_neg h, if_neg h]
    rw [e, nI_le_iff (by omega) (by omega)] at h
    rw [inb_n (by omega) (by omega), cond_true, nI_clamp (by omega)]
theorem l_pick {v : Int32} {N : Nat} (h0 : 0 < N) (h1 : N < 1000) (μ : am_Mu) : fL_pick v (nI N) μ = some (nI (pkN v N), μ) := by
  obtain ⟨j, j1, j2⟩ := and_lt v
  unfold fL_pick pkN
  rw [if_neg (by rw [show (0 : Int32) = nI 0 from rfl, nI_inj (by omega) (by omega)]; omega), j2, nI_clamp (by omega), nI_mod (by omega) (by omega)]
theorem pkN_lt {v : Int32} {N : Nat} (h : 0 < N) : pkN v N < N := Nat.mod_lt _ h
def dN (sL : Nat) (sX : Nat → Int32) : Nat := 2 + pkN (cvL sL sX 0) 5
def dK (sL : Nat) (sX : Nat → Int32) (k : Nat) : Nat := if pkN (cvL sL sX (1 + k)) 8 < 5 then 0 else if pkN (cvL sL sX (1 + k)) 8 < 7 then 1 else 2
def dA (sL : Nat) (sX : Nat → Int32) (k : Nat) : Nat := pkN (cvL sL sX (1 + k) >>> (4 &&& 31)) (dN sL sX)
def dB (sL : Nat) (sX : Nat → Int32) (k : Nat) : Option Nat := if dK sL sX k = 2 then none else some ((dA sL sX k + 1 + pkN (cvL sL sX (1 + k) >>> (8 &&& 31)) (dN sL sX - 1)) % dN sL sX)
def dM (sL : Nat) (sX : Nat → Int32) (k : Nat) : Nat := 10 + pkN (cvL sL sX (1 + k) >>> (12 &&& 31)) 40
def dwr (sL : Nat) (sX : Nat → Int32) (k : Nat) : Nat := pkN (cvL sL sX (15 + k)) (dN sL sX)
def dwm (sL : Nat) (sX : Nat → Int32) (k : Nat) : Nat := pkN (cvL sL sX (15 + k) >>> (8 &&& 31)) 40
def dU (sL : Nat) (sX : Nat → Int32) : Nat := 10 + pkN (cvL sL sX 17) 45
theorem dN_b (sL : Nat) (sX : Nat → Int32) : 2 ≤ dN sL sX ∧ dN sL sX ≤ 6 := by
  have := pkN_lt (v := cvL sL sX 0) (N := 5) (by omega)
  unfold dN
  omega
theorem dat_a (sL : Nat) (sX : Nat → Int32) (j : Nat) : DatA (dN sL sX) (dK sL sX) (dA sL sX) (dB sL sX) (dM sL sX) j := by
  obtain ⟨n1, n2⟩ := dN_b sL sX
  have hA : dA sL sX j < dN sL sX := pkN_lt (by omega)
  have hM := pkN_lt (v := cvL sL sX (1 + j) >>> (12 &&& 31)) (N := 40) (by omega)
  have hR := pkN_lt (v := cvL sL sX (1 + j) >>> (8 &&& 31)) (N := dN sL sX - 1) (by omega)
  have hK : dK sL sX j = 0 ∨ dK sL sX j = 1 ∨ dK sL sX j = 2 := by
    unfold dK
    split
    · exact Or.inl rfl
    · split
      · exact Or.inr (Or.inl rfl)
      · exact Or.inr (Or.inr rfl)
  refine ⟨by omega, hA, by unfold dM; omega, ?_⟩
  by_cases h2 : dK sL sX j = 2
  · exact Or.inr ⟨h2, by unfold dB; rw [if_pos h2]⟩
  · refine Or.inl ⟨by omega, (dA sL sX j + 1 + pkN (cvL sL sX (1 + j) >>> (8 &&& 31)) (dN sL sX - 1)) % dN sL sX, by unfold dB; rw [if_neg h2], Nat.mod_lt _ (by omega), ?_⟩
    intro hz
    generalize dA sL sX j = a at *
    generalize pkN (cvL sL sX (1 + j) >>> (8 &&& 31)) (dN sL sX - 1) = r at *
    generalize dN sL sX = n at *
    by_cases hlt : a + 1 + r < n
    · rw [Nat.mod_eq_of_lt hlt] at hz
      omega
    · rw [Nat.mod_eq_sub_mod (by omega), Nat.mod_eq_of_lt (by omega)] at hz
      omega
theorem dat_m (sL : Nat) (sX : Nat → Int32) (j : Nat) : DatM (dN sL sX) (dwr sL sX) (dwm sL sX) j := by
  obtain ⟨n1, n2⟩ := dN_b sL sX
  have h2 := pkN_lt (v := cvL sL sX (15 + j) >>> (8 &&& 31)) (N := 40) (by omega)
  exact ⟨pkN_lt (by omega), by unfold dwm; omega⟩
def LawA (k : Nat) (K A : Nat → Nat) (B : Nat → Option Nat) (M : Nat → Nat) (μ : am_Mu) : Prop := ∀ j, j < k → μ 110 j = nI (K j) ∧ μ 111 j = nI (A j) ∧ μ 112 j = yI (B j) ∧ μ 113 j = nI (M j)
section
variable {sL : Nat} {sX : Nat → Int32}
abbrev CS' (sL : Nat) (sX : Nat → Int32) (k q : Nat) (μ : am_Mu) : Prop := CSt (dN sL sX) k q (dK sL sX) (dA sL sX) (dB sL sX) (dM sL sX) (dwr sL sX) (dwm sL sX) μ
abbrev LA' (sL : Nat) (sX : Nat → Int32) (k : Nat) (μ : am_Mu) : Prop := LawA k (dK sL sX) (dA sL sX) (dB sL sX) (dM sL sX) μ
/-- the things -/
theorem l_things : ∀ q t m μ, t + q = dN sL sX → q < m → Bas t μ → ∃ μ', fL_law_60 sL sX m (nI (dN sL sX)) 1 (nI t) μ = fL_law_92 sL sX (nI (dN sL sX)) 1 μ' ∧ Bas (dN sL sX) μ' ∧ (∀ a, ¬ a = 13 → ¬ a = 14 → μ' a = μ a) ∧ ∀ j, ¬ j = 14 → μ' 13 j = μ 13 j := by
  obtain ⟨n1, n2⟩ := dN_b sL sX
  intro q
  induction q with
  | zero =>
    intro t m μ ht hm h
    obtain ⟨m, rfl⟩ : ∃ k, m = k + 1 := ⟨m - 1, by omega⟩
    have : t = dN sL sX := by omega
    subst this
    refine ⟨μ, ?_, h, fun _ _ _ => rfl, fun _ _ => rfl⟩
    rw [fL_law_60, if_pos (Int32.le_refl _)]
  | succ q ih =>
    intro t m μ ht hm h
    obtain ⟨m, rfl⟩ : ∃ k, m = k + 1 := ⟨m - 1, by omega⟩
    obtain ⟨μ1, x1, x2, x3, x4⟩ := s_thing (by omega) h
    obtain ⟨μ', y1, y2, y3, y4⟩ := ih (t + 1) m μ1 (by omega) (by omega) x2
    refine ⟨μ', ?_, y2, fun a h1 h2 => by rw [y3 a h1 h2, x3 a h1 h2], fun j hj => by rw [y4 j hj, x4 j hj]⟩
    rw [fL_law_60, if_neg (by rw [nI_le_iff (by omega) (by omega)]; omega), if_neg (by decide), x1, Option.bind_some]
    dsimp only
    rw [if_neg (fun z => z rfl)]
    unfold fL_law_85
    rw [show nI t + 1 = nI (t + 1) from nI_plus _ 1]
    exact y1
/-- one act: from its kind on -/
theorem l_224 {k : Nat} (hk : k < 14) {ν : am_Mu} (h : CS' sL sX k 0 ν) (hA : LA' sL sX k ν) (h110 : ν 110 k = nI (dK sL sX k)) (h111 : ν 111 k = nI (dA sL sX k)) (kk : Int32 → Int32 → Int32 → am_Mu → Option (Int32 × am_Mu)) : ∃ μ', fL_law_224 sL sX kk (nI (dN sL sX)) 1 (nI k) (cvL sL sX (1 + k)) (nI k) (yI (dB sL sX k)) ν = kk (nI (dN sL sX)) 1 (nI (k + 1)) μ' ∧ CS' sL sX (k + 1) 0 μ' ∧ LA' sL sX (k + 1) μ' := by
  obtain ⟨n1, n2⟩ := dN_b sL sX
  have e12 : (10 : Int32) + nI (pkN (cvL sL sX (1 + k) >>> (12 &&& 31)) 40) = nI (dM sL sX k) := nI_plus 10 _
  generalize hν2 : am_up (am_up ν 112 k (yI (dB sL sX k))) 113 k (nI (dM sL sX k)) = ν2
  have hc : CS' sL sX k 0 ν2 := h.cong (fun a ha => by rw [← hν2, up_row (by omega), up_row (by omega)])
  have r110 : ν2 110 = ν 110 := by rw [← hν2, up_row (by omega), up_row (by omega)]
  have r111 : ν2 111 = ν 111 := by rw [← hν2, up_row (by omega), up_row (by omega)]
  have r112 : ∀ j, ν2 112 j = if j = k then yI (dB sL sX k) else ν 112 j := by intro j; rw [← hν2, up_row (by omega), up_at]
  have r113 : ∀ j, ν2 113 j = if j = k then nI (dM sL sX k) else ν 113 j := by intro j; rw [← hν2, up_at, up_row (by omega)]
  obtain ⟨μ', x1, x2, x3⟩ := s_act hc (by omega) hk (by omega) (fun j _ => dat_a sL sX j) (fun j _ => dat_m sL sX j)
  refine ⟨μ', ?_, x2, ?_⟩
  · unfold fL_law_224
    rw [inb_n (by omega) (by omega), cond_true, nI_clamp (show k < 2 ^ 31 by omega), show (40 : Int32) = nI 40 from rfl, l_pick (by omega) (by omega), Option.bind_some]
    dsimp only
    rw [inb_n (by omega) (by omega), cond_true, if_neg (by decide), cond_true, e12, hν2]
    rw [show am_up ν 112 k (yI (dB sL sX k)) 110 k = nI (dK sL sX k) by rw [up_row (by omega)]; exact h110, show am_up ν 112 k (yI (dB sL sX k)) 111 k = nI (dA sL sX k) by rw [up_row (by omega)]; exact h111, up_eq, r113 k, if_pos rfl, x1, Option.bind_some]
    dsimp only
    rw [if_neg (fun z => z rfl)]
    unfold fL_law_282
    rw [show nI k + 1 = nI (k + 1) from nI_plus _ 1]
  · intro j hj
    rw [x3 110 (by omega), x3 111 (by omega), x3 112 (by omega), x3 113 (by omega), r110, r111, r112, r113]
    by_cases hjk : j = k
    · rw [if_pos hjk, if_pos hjk, hjk]
      exact ⟨h110, h111, rfl, rfl⟩
    · rw [if_neg hjk, if_neg hjk]
      exact hA j (by omega)
theorem l_172 {k : Nat} (hk : k < 14) {μ : am_Mu} (h : CS' sL sX k 0 μ) (hA : LA' sL sX k μ) (kk : Int32 → Int32 → Int32 → am_Mu → Option (Int32 × am_Mu)) : ∃ μ', fL_law_172 sL sX kk (nI (dN sL sX)) 1 (nI k) (cvL sL sX (1 + k)) (nI k) (nI (dK sL sX k)) μ = kk (nI (dN sL sX)) 1 (nI (k + 1)) μ' ∧ CS' sL sX (k + 1) 0 μ' ∧ LA' sL sX (k + 1) μ' := by
  obtain ⟨n1, n2⟩ := dN_b sL sX
  obtain ⟨dk3, dan, -, -⟩ := dat_a sL sX k
  generalize hν : am_up (am_up μ 110 k (nI (dK sL sX k))) 111 k (nI (dA sL sX k)) = ν
  have hc : CS' sL sX k 0 ν := h.cong (fun a ha => by rw [← hν, up_row (by omega), up_row (by omega)])
  have r110 : ∀ j, ν 110 j = if j = k then nI (dK sL sX k) else μ 110 j := by intro j; rw [← hν, up_row (by omega), up_at]
  have r111 : ∀ j, ν 111 j = if j = k then nI (dA sL sX k) else μ 111 j := by intro j; rw [← hν, up_at, up_row (by omega)]
  have hA2 : LA' sL sX k ν := by
    intro j hj
    rw [r110, r111, if_neg (by omega), if_neg (by omega), ← hν, up_row (by omega), up_row (by omega), up_row (by omega), up_row (by omega)]
    exact hA j hj
  obtain ⟨μ', x1, x2, x3⟩ := l_224 hk hc hA2 (by rw [r110, if_pos rfl]) (by rw [r111, if_pos rfl]) kk
  refine ⟨μ', ?_, x2, x3⟩
  rw [← x1]
  unfold fL_law_172
  rw [inb_n (by omega) (by omega), cond_true, nI_clamp (show k < 2 ^ 31 by omega), l_pick (by omega) (by omega), Option.bind_some]
  dsimp only
  rw [cond_true]
  have eA : nI (pkN (cvL sL sX (1 + k) >>> (4 &&& 31)) (dN sL sX)) = nI (dA sL sX k) := rfl
  rw [eA, hν]
  by_cases h2 : dK sL sX k = 2
  · rw [if_neg (by rw [up_eq, h2]; exact fun z => z rfl)]
    have : yI (dB sL sX k) = -1 := by unfold dB; rw [if_pos h2]; rfl
    rw [this]
  · have hR := pkN_lt (v := cvL sL sX (1 + k) >>> (8 &&& 31)) (N := dN sL sX - 1) (by omega)
    rw [if_pos (by rw [up_eq]; exact fun z => h2 ((nI_inj (b := 2) (by omega) (by omega)).mp z)), show nI (dN sL sX) - 1 = nI (dN sL sX - 1) from nI_sub (b := 1) (by omega), l_pick (by omega) (by omega), Option.bind_some]
    dsimp only
    rw [if_neg (by rw [show (0 : Int32) = nI 0 from rfl, nI_inj (by omega) (by omega)]; omega), r111, if_pos rfl]
    have e1 : ∀ r : Nat, (nI (dA sL sX k) + (1 : Int32)) + nI r = nI (dA sL sX k + 1 + r) := fun r => by
      rw [show nI (dA sL sX k) + 1 = nI (dA sL sX k + 1) from nI_plus _ 1, nI_plus]
    have e2 : yI (dB sL sX k) = nI ((dA sL sX k + 1 + pkN (cvL sL sX (1 + k) >>> (8 &&& 31)) (dN sL sX - 1)) % dN sL sX) := by unfold dB; rw [if_neg h2]; rfl
    rw [e1, nI_mod (by omega) (by omega), e2]
/-- the acts -/
theorem l_acts (hL : sL ≤ 260) : ∀ q k m μ, k + q = 14 → q < m → CS' sL sX k 0 μ → LA' sL sX k μ → ∃ μ', fL_law_119 sL sX m (nI (dN sL sX)) 1 (nI k) μ = fL_law_289 sL sX (nI (dN sL sX)) 1 μ' ∧ CS' sL sX 14 0 μ' ∧ LA' sL sX 14 μ' := by
  intro q
  induction q with
  | zero =>
    intro k m μ hk hm h hA
    obtain ⟨m, rfl⟩ : ∃ k, m = k + 1 := ⟨m - 1, by omega⟩
    have : k = 14 := by omega
    subst this
    refine ⟨μ, ?_, h, hA⟩
    rw [fL_law_119, if_pos (by decide)]
  | succ q ih =>
    intro k m μ hk hm h hA
    obtain ⟨m, rfl⟩ : ∃ k, m = k + 1 := ⟨m - 1, by omega⟩
    obtain ⟨μ1, x1, x2, x3⟩ := l_172 (by omega) h hA (fL_law_119 sL sX m)
    obtain ⟨μ', y1, y2, y3⟩ := ih (k + 1) m μ1 (by omega) (by omega) x2 x3
    refine ⟨μ', ?_, y2, y3⟩
    have e1 : (1 : Int32) + nI k = nI (1 + k) := nI_plus 1 k
    have hp := pkN_lt (v := cvL sL sX (1 + k)) (N := 8) (by omega)
    rw [← y1, ← x1, fL_law_119, if_neg (by show ¬ nI 14 ≤ _; rw [nI_le_iff (by omega) (by omega)]; omega), e1, l_cell hL (by omega), Option.bind_some]
    dsimp only
    rw [show (8 : Int32) = nI 8 from rfl, l_pick (by omega) (by omega), Option.bind_some]
    dsimp only
    by_cases h5 : pkN (cvL sL sX (1 + k)) 8 < 5
    · rw [if_neg (by show ¬ nI 5 ≤ _; rw [nI_le_iff (by omega) (by omega)]; omega)]
      have : dK sL sX k = 0 := by unfold dK; rw [if_pos h5]
      rw [this]
      rfl
    · rw [if_pos (show (5 : Int32) ≤ nI (pkN (cvL sL sX (1 + k)) 8) from (nI_le_iff (a := 5) (by omega) (by omega)).mpr (by omega)), l_pick (by omega) (by omega), Option.bind_some]
      dsimp only
      by_cases h7 : pkN (cvL sL sX (1 + k)) 8 < 7
      · rw [if_neg (by show ¬ nI 7 ≤ _; rw [nI_le_iff (by omega) (by omega)]; omega)]
        have : dK sL sX k = 1 := by unfold dK; rw [if_neg h5, if_pos h7]
        rw [this]
        rfl
      · rw [if_pos (show (7 : Int32) ≤ nI (pkN (cvL sL sX (1 + k)) 8) from (nI_le_iff (a := 7) (by omega) (by omega)).mpr (by omega))]
        have : dK sL sX k = 2 := by unfold dK; rw [if_neg h5, if_neg h7]
        rw [this]
        rfl
def LawM (q : Nat) (wr wm : Nat → Nat) (μ : am_Mu) : Prop := ∀ j, j < q → μ 114 j = nI (wr j) ∧ μ 113 (16 + j) = nI (wm j)
abbrev LM' (sL : Nat) (sX : Nat → Int32) (q : Nat) (μ : am_Mu) : Prop := LawM q (dwr sL sX) (dwm sL sX) μ
/-- the mistakes -/
theorem l_miss (hL : sL ≤ 260) : ∀ q k m μ, k + q = 2 → q < m → CS' sL sX 14 k μ → LA' sL sX 14 μ → LM' sL sX k μ → ∃ μ', fL_law_297 sL sX m (nI (dN sL sX)) 1 (nI k) μ = fL_law_385 sL sX (nI (dN sL sX)) 1 μ' ∧ CS' sL sX 14 2 μ' ∧ LA' sL sX 14 μ' ∧ LM' sL sX 2 μ' := by
  obtain ⟨n1, n2⟩ := dN_b sL sX
  intro q
  induction q with
  | zero =>
    intro k m μ hk hm h hA hM
    obtain ⟨m, rfl⟩ : ∃ k, m = k + 1 := ⟨m - 1, by omega⟩
    have : k = 2 := by omega
    subst this
    refine ⟨μ, ?_, h, hA, hM⟩
    rw [fL_law_297, if_pos (by decide)]
  | succ q ih =>
    intro k m μ hk hm h hA hM
    obtain ⟨m, rfl⟩ : ∃ k, m = k + 1 := ⟨m - 1, by omega⟩
    have hwr : nI (pkN (cvL sL sX (15 + k)) (dN sL sX)) = nI (dwr sL sX k) := rfl
    have hwm : nI (pkN (cvL sL sX (15 + k) >>> (8 &&& 31)) 40) = nI (dwm sL sX k) := rfl
    generalize hν : am_up (am_up μ 114 k (nI (dwr sL sX k))) 113 (16 + k) (nI (dwm sL sX k)) = ν
    have hc : CS' sL sX 14 k ν := h.cong (fun a ha => by rw [← hν, up_row (by omega), up_row (by omega)])
    have r114 : ∀ j, ν 114 j = if j = k then nI (dwr sL sX k) else μ 114 j := by intro j; rw [← hν, up_row (by omega), up_at]
    have r113 : ∀ j, ν 113 j = if j = 16 + k then nI (dwm sL sX k) else μ 113 j := by intro j; rw [← hν, up_at, up_row (by omega)]
    have ro : ∀ a, ¬ a = 113 → ¬ a = 114 → ν a = μ a := fun a h1 h2 => by rw [← hν, up_row h1, up_row h2]
    obtain ⟨μ1, x1, x2, x3⟩ := s_mis hc (by omega) (by omega) (show k < 2 by omega) (fun j _ => dat_a sL sX j) (fun j _ => dat_m sL sX j)
    obtain ⟨μ', y1, y2, y3, y4⟩ := ih (k + 1) m μ1 (by omega) (by omega) x2 (by
      intro j hj
      rw [x3 110 (by omega), x3 111 (by omega), x3 112 (by omega), x3 113 (by omega), r113, if_neg (by omega), ro 110 (by omega) (by omega), ro 111 (by omega) (by omega), ro 112 (by omega) (by omega)]
      exact hA j hj) (by
      intro j hj
      rw [x3 114 (by omega), x3 113 (by omega), r113, r114]
      by_cases hjk : j = k
      · rw [if_pos hjk, if_pos (by omega), hjk]
        exact ⟨rfl, rfl⟩
      · rw [if_neg hjk, if_neg (by omega)]
        exact hM j (by omega))
    refine ⟨μ', ?_, y2, y3, y4⟩
    have e1 : (15 : Int32) + nI k = nI (15 + k) := nI_plus 15 k
    have e2 : (16 : Int32) + nI k = nI (16 + k) := nI_plus 16 k
    rw [← y1, fL_law_297, if_neg (by show ¬ nI 2 ≤ _; rw [nI_le_iff (by omega) (by omega)]; omega), e1, e2, l_cell hL (by omega), Option.bind_some]
    dsimp only
    rw [l_pick (by omega) (by omega), Option.bind_some]
    dsimp only
    rw [inb_n (by omega) (by omega), cond_true, nI_clamp (show k < 2 ^ 31 by omega), hwr, l_cell hL (by omega), Option.bind_some]
    dsimp only
    rw [show (40 : Int32) = nI 40 from rfl, l_pick (by omega) (by omega), Option.bind_some]
    dsimp only
    rw [inb_n (by omega) (by omega), cond_true, if_neg (by decide), nI_clamp (show 16 + k < 2 ^ 31 by omega), hwm, hν, r113, if_pos rfl, up_eq, x1, Option.bind_some]
    dsimp only
    rw [if_neg (fun z => z rfl)]
    unfold fL_law_378
    rw [show nI k + 1 = nI (k + 1) from nI_plus _ 1]
end
