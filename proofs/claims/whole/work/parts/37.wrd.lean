/-! E: words, and what is believed -/
theorem orbF : ∀ b : Fin 64, ∀ v : Fin 6, nI b.val ||| ((1 : Int32) <<< (nI v.val &&& 31)) = nI (b.val ||| 2 ^ v.val) ∧ b.val ||| 2 ^ v.val < 64 ∧ ∀ p : Fin 6, ((b.val ||| 2 ^ v.val) / 2 ^ p.val % 2 = 1 ↔ p.val = v.val ∨ b.val / 2 ^ p.val % 2 = 1) := by decide +kernel
theorem andbF : ∀ b : Fin 64, ∀ v : Fin 6, nI b.val &&& (((1 : Int32) <<< (nI v.val &&& 31)) ^^^ (-1)) = nI (b.val &&& (63 - 2 ^ v.val)) ∧ b.val &&& (63 - 2 ^ v.val) < 64 ∧ ∀ p : Fin 6, ((b.val &&& (63 - 2 ^ v.val)) / 2 ^ p.val % 2 = 1 ↔ ¬ p.val = v.val ∧ b.val / 2 ^ p.val % 2 = 1) := by decide +kernel
theorem bitbF : ∀ b : Fin 64, ∀ k : Fin 6, (nI b.val >>> (nI k.val &&& 31)) &&& 1 = if b.val / 2 ^ k.val % 2 = 1 then 1 else 0 := by decide +kernel
theorem orb {b v : Nat} (hb : b < 64) (hv : v < 6) : nI b ||| ((1 : Int32) <<< (nI v &&& 31)) = nI (b ||| 2 ^ v) ∧ b ||| 2 ^ v < 64 ∧ ∀ p, p < 6 → ((b ||| 2 ^ v) / 2 ^ p % 2 = 1 ↔ p = v ∨ b / 2 ^ p % 2 = 1) := by
  obtain ⟨h1, h2, h3⟩ := orbF ⟨b, hb⟩ ⟨v, hv⟩
  exact ⟨h1, h2, fun p hp => h3 ⟨p, hp⟩⟩
theorem andb {b v : Nat} (hb : b < 64) (hv : v < 6) : nI b &&& (((1 : Int32) <<< (nI v &&& 31)) ^^^ (-1)) = nI (b &&& (63 - 2 ^ v)) ∧ b &&& (63 - 2 ^ v) < 64 ∧ ∀ p, p < 6 → ((b &&& (63 - 2 ^ v)) / 2 ^ p % 2 = 1 ↔ ¬ p = v ∧ b / 2 ^ p % 2 = 1) := by
  obtain ⟨h1, h2, h3⟩ := andbF ⟨b, hb⟩ ⟨v, hv⟩
  exact ⟨h1, h2, fun p hp => h3 ⟨p, hp⟩⟩
theorem bitb {b k : Nat} (hb : b < 64) (hk : k < 6) : (nI b >>> (nI k &&& 31)) &&& 1 = if b / 2 ^ k % 2 = 1 then 1 else 0 := bitbF ⟨b, hb⟩ ⟨k, hk⟩
def wsum (μ : am_Mu) (c : Nat) (v : Int32) : Nat → Int32
  | 0 => 0
  | n + 1 => wsum μ c v n + (if μ 175 (160 * n + c) = v then μ 99 n else 0)
theorem x_weight {μ : am_Mu} {N b c : Nat} {v : Int32} (hN : N ≤ 6) (hc : μ 97 4 = nI N) (hb : b < 64) (hv : ∀ p, p < 6 → (b / 2 ^ p % 2 = 1 ↔ μ 175 (160 * p + c) = v)) : ∀ (q n k : Nat), q < n → k + q = N → fVisitors_weightOf_4 n (nI b) (wsum μ c v k) (nI k) μ = some (wsum μ c v N, μ) := by
  intro q
  induction q with
  | zero =>
    intro n k hn hk
    obtain ⟨n, rfl⟩ : ∃ k, n = k + 1 := ⟨n - 1, by omega⟩
    rw [fVisitors_weightOf_4, if_pos (by rw [hc, nI_le_iff (by omega) (by omega)]; omega), show k = N by omega]
  | succ q ih =>
    intro n k hn hk
    obtain ⟨n, rfl⟩ : ∃ k, n = k + 1 := ⟨n - 1, by omega⟩
    have e := ih n (k + 1) (by omega) (by omega)
    rw [fVisitors_weightOf_4, if_neg (by rw [hc, nI_le_iff (by omega) (by omega)]; omega), inb_n (by omega) (by omega), cond_true, nI_clamp (by omega), bitb hb (by omega)]
    have e1 : nI k + 1 = nI (k + 1) := nI_plus k 1
    rw [e1]
    rw [← e]
    congr 1
    show _ = wsum μ c v k + _
    congr 1
    have hp := hv k (by omega)
    by_cases h : μ 175 (160 * k + c) = v
    · rw [if_pos (hp.mpr h), if_pos h]; exact Int32.one_mul _
    · rw [if_neg (fun q => h (hp.mp q)), if_neg h]; exact Int32.zero_mul
theorem m_weight {μ : am_Mu} {N t m : Nat} (hN : N ≤ 6) (hc : μ 108 10 = nI N) (ht : t < 20) (hm : m < 8) (hw : ∀ j, j < N → μ 168 j = μ 99 j) : ∀ (q n k : Nat), q < n → k + q = N → fM_believed_25 n (nI t) (nI m) (wsum μ (8 * t + m) 1 k) (wsum μ (8 * t + m) 2 k) (nI k) μ = fM_believed_102 (wsum μ (8 * t + m) 1 N) (wsum μ (8 * t + m) 2 N) μ := by
  intro q
  induction q with
  | zero =>
    intro n k hn hk
    obtain ⟨n, rfl⟩ : ∃ k, n = k + 1 := ⟨n - 1, by omega⟩
    rw [fM_believed_25, if_pos (by rw [hc, nI_le_iff (by omega) (by omega)]; omega), show k = N by omega]
  | succ q ih =>
    intro n k hn hk
    obtain ⟨n, rfl⟩ : ∃ k, n = k + 1 := ⟨n - 1, by omega⟩
    have e := ih n (k + 1) (by omega) (by omega)
    have ei : (160 : Int32) * nI k + 8 * nI t + nI m = nI (160 * k + (8 * t + m)) := by
      show nI 160 * nI k + nI 8 * nI t + nI m = _
      rw [nI_mul, nI_mul, nI_plus, nI_plus, Nat.add_assoc]
    have e1 : nI k + 1 = nI (k + 1) := nI_plus k 1
    rw [fM_believed_25, if_neg (by rw [hc, nI_le_iff (by omega) (by omega)]; omega), ei, inb_n (by omega) (by omega), cond_true, nI_clamp (by omega), inb_n (show k < 6 by omega) (by omega), cond_true, nI_clamp (by omega), hw k (by omega)]
    have hb : am_inb (nI k) 6 = true := inb_n (by omega) (by omega)
    rw [← e]
    unfold fM_believed_72 fM_believed_93
    simp only [hb, cond_true, nI_clamp (show k < 2 ^ 31 by omega), hw k (by omega), e1, wsum]
    generalize μ 175 (160 * k + (8 * t + m)) = w
    by_cases h1 : w = 1
    · subst h1
      simp
    · by_cases h2 : w = 2
      · subst h2
        simp
      · simp [h1, h2]
theorem op_believed (a b : Int32) (μ : am_Mu) : Op (fB_believed a b) (fM_believed a b) (fun μ => G4 μ ∧ G7 μ ∧ G9 μ) (fun μ => G4 μ ∧ G7 μ ∧ G9 μ) μ := by
  intro hG
  have hG' := hG
  obtain ⟨⟨⟨h1, h2, h3, h4⟩, -⟩, ⟨v1, v2, v3, v4⟩, g9⟩ := hG
  by_cases hv : (0 ≤ a ∧ a < μ 13 14) ∧ 0 ≤ b ∧ b < 8
  · have hb20 : a.toNatClampNeg < 20 := nt_lt (b := 20) hv.1.1 (by grind)
    have hb8 : b.toNatClampNeg < 8 := nt_lt (b := 8) hv.2.1 hv.2.2
    have ea := nI_nt hv.1.1
    have eb := nI_nt hv.2.1
    generalize a.toNatClampNeg = t at hb20 ea
    generalize b.toNatClampNeg = m at hb8 eb
    have hN6 : (μ 97 4).toNatClampNeg ≤ 6 := nt_le (b := 6) v1 v2
    have eN : μ 97 4 = nI (μ 97 4).toNatClampNeg := (nI_nt v1).symm
    generalize (μ 97 4).toNatClampNeg = N at hN6 eN v4
    obtain ⟨⟨b1, hb1, e1, f1⟩, b2, hb2, e2, f2⟩ := g9 (8 * t + m) (by omega)
    have c1 : fB_isIn a (μ 13 14) μ = some (1, μ) := by rw [l_isIn, b2i_t hv.1]
    have c2 : fB_isIn b 8 μ = some (1, μ) := by rw [l_isIn, b2i_t hv.2]
    have c3 : fM_isThing a μ = some (1, μ) := by rw [l_isThing, b2i_t (by rw [h3]; grind)]
    have c4 : fM_isMark b μ = some (1, μ) := by rw [l_isMark, b2i_t (by grind)]
    have ei : a * 8 + b = nI (8 * t + m) := by
      rw [← ea, ← eb]
      show nI t * nI 8 + nI m = _
      rw [nI_mul, nI_plus, Nat.mul_comm]
    have w1 := x_weight hN6 eN hb1 f1 N am_F 0 (by unfold am_F; omega) (by omega)
    have w2 := x_weight hN6 eN hb2 f2 N am_F 0 (by unfold am_F; omega) (by omega)
    have w3 := m_weight (t := t) (m := m) hN6 (by rw [v3, eN]) hb20 hb8 (fun j hj => (v4 j hj).2) N am_F 0 (by unfold am_F; omega) (by omega)
    have n1 : ¬ (1 : Int32) = 0 := by decide
    refine ⟨if wsum μ (8 * t + m) 1 N ≤ 2 * wsum μ (8 * t + m) 2 N then (if wsum μ (8 * t + m) 2 N ≤ 2 * wsum μ (8 * t + m) 1 N then -1 else 0) else 1, μ, μ, ?_, ?_, hG'⟩
    · simp only [fB_believed, c1, c2, Option.bind_some, fVisitors_belief, ei, inb_n (show 8 * t + m < 160 by omega) (by omega), cond_true, nI_clamp (show 8 * t + m < 2 ^ 31 by omega), e1, e2, fVisitors_weightOf]
      rw [show fVisitors_weightOf_4 am_F (nI b1) 0 0 μ = _ from w1, Option.bind_some]
      dsimp only
      rw [e2, show fVisitors_weightOf_4 am_F (nI b2) 0 0 μ = _ from w2, Option.bind_some, if_neg n1, if_pos n1]
      dsimp only
      split
      · split <;> rfl
      · rfl
    · simp only [fM_believed, c3, c4, Option.bind_some]
      rw [if_neg n1, if_pos n1, ← ea, ← eb, show fM_believed_25 am_F (nI t) (nI m) 0 0 0 μ = _ from w3]
      unfold fM_believed_102
      split
      · split <;> rfl
      · rfl
  · have n1 : ¬ (1 : Int32) = 0 := by decide
    refine ⟨-1, μ, μ, ?_, ?_, hG'⟩
    · simp only [fB_believed, l_isIn, Option.bind_some, b2i_z]
      by_cases c : 0 ≤ a ∧ a < μ 13 14
      · rw [if_neg (fun q => q c), if_neg (by grind)]
      · rw [if_pos c]
    · simp only [fM_believed, l_isThing, l_isMark, Option.bind_some, b2i_z, h3]
      by_cases c : 0 ≤ a ∧ a < μ 13 14
      · rw [if_neg (by grind), if_neg (by grind)]
      · rw [if_pos (by grind)]
def X_word (p c : Nat) (has : Bool) (μ : am_Mu) : am_Mu :=
  if has then am_up (am_up μ 100 c (μ 100 c ||| ((1 : Int32) <<< (nI p &&& 31)))) 101 c (μ 101 c &&& (((1 : Int32) <<< (nI p &&& 31)) ^^^ (-1)))
  else am_up (am_up μ 100 c (μ 100 c &&& (((1 : Int32) <<< (nI p &&& 31)) ^^^ (-1)))) 101 c (μ 101 c ||| ((1 : Int32) <<< (nI p &&& 31)))
theorem op_word (a b c d : Int32) (μ : am_Mu) : Op (fB_word a b c d) (fM_word a b c d) (fun μ => G4 μ ∧ G7 μ ∧ G9 μ) G9 μ := by
  intro hG
  obtain ⟨⟨⟨h1, h2, h3, h4⟩, -⟩, ⟨v1, v2, v3, v4⟩, g9⟩ := hG
  by_cases hv : (0 ≤ a ∧ a < μ 97 4) ∧ (0 ≤ b ∧ b < μ 13 14) ∧ 0 ≤ c ∧ c < 8
  · have hb6 : a.toNatClampNeg < 6 := nt_lt (b := 6) hv.1.1 (by grind)
    have hb20 : b.toNatClampNeg < 20 := nt_lt (b := 20) hv.2.1.1 (by grind)
    have hb8 : c.toNatClampNeg < 8 := nt_lt (b := 8) hv.2.2.1 hv.2.2.2
    have ea := nI_nt hv.1.1
    have eb := nI_nt hv.2.1.1
    have ec := nI_nt hv.2.2.1
    generalize a.toNatClampNeg = p at hb6 ea
    generalize b.toNatClampNeg = t at hb20 eb
    generalize c.toNatClampNeg = m at hb8 ec
    subst ea eb ec
    have c1 : fB_isIn (nI p) (μ 97 4) μ = some (1, μ) := by rw [l_isIn, b2i_t hv.1]
    have c2 : fB_isIn (nI t) (μ 13 14) μ = some (1, μ) := by rw [l_isIn, b2i_t hv.2.1]
    have c3 : fB_isIn (nI m) 8 μ = some (1, μ) := by rw [l_isIn, b2i_t hv.2.2]
    have ei : nI t * 8 + nI m = nI (8 * t + m) := by
      show nI t * nI 8 + nI m = _
      rw [nI_mul, nI_plus, Nat.mul_comm]
    have n1 : ¬ (1 : Int32) = 0 := by decide
    have hin : am_inb (nI (8 * t + m)) 160 = true := inb_n (by omega) (by omega)
    have hcl : (nI (8 * t + m)).toNatClampNeg = 8 * t + m := nI_clamp (by omega)
    have ex : fB_word (nI p) (nI t) (nI m) d μ = some (1, X_word p (8 * t + m) (decide (¬ d = 0)) μ) := by
      simp only [fB_word, c1, c2, c3, Option.bind_some, if_neg n1, if_pos n1, ei, fVisitors_hear, fVisitors_hear_37, hin, hcl, cond_true]
      unfold X_word
      by_cases hd : d = 0 <;> simp [hd]
    have k1 : ∀ k, ¬ k = 100 → ¬ k = 101 → X_word p (8 * t + m) (decide (¬ d = 0)) μ k = μ k := by
      intro k q1 q2
      unfold X_word
      split <;> rw [am_up_ne q2, am_up_ne q1]
    have e13 : X_word p (8 * t + m) (decide (¬ d = 0)) μ 13 14 = μ 13 14 := by rw [k1 13 (by decide) (by decide)]
    have e108 : X_word p (8 * t + m) (decide (¬ d = 0)) μ 108 = μ 108 := k1 108 (by decide) (by decide)
    have ej : (160 : Int32) * nI p + 8 * nI t + nI m = nI (160 * p + (8 * t + m)) := by
      show nI 160 * nI p + nI 8 * nI t + nI m = _
      rw [nI_mul, nI_mul, nI_plus, nI_plus, Nat.add_assoc]
    have d1 : fM_lies (nI p) 0 (X_word p (8 * t + m) (decide (¬ d = 0)) μ 108 10 - 1) (X_word p (8 * t + m) (decide (¬ d = 0)) μ) = some (1, X_word p (8 * t + m) (decide (¬ d = 0)) μ) := by rw [l_lies, b2i_t (by rw [e108, v3]; grind)]
    have d2 : fM_isThing (nI t) (X_word p (8 * t + m) (decide (¬ d = 0)) μ) = some (1, X_word p (8 * t + m) (decide (¬ d = 0)) μ) := by rw [l_isThing, b2i_t (by rw [e108, h3]; grind)]
    have d3 : fM_isMark (nI m) (X_word p (8 * t + m) (decide (¬ d = 0)) μ) = some (1, X_word p (8 * t + m) (decide (¬ d = 0)) μ) := by rw [l_isMark, b2i_t (by grind)]
    have em : fM_word (nI p) (nI t) (nI m) d (X_word p (8 * t + m) (decide (¬ d = 0)) μ) = some (1, am_up (X_word p (8 * t + m) (decide (¬ d = 0)) μ) 175 (160 * p + (8 * t + m)) (if d = 0 then 2 else 1)) := by
      simp only [fM_word, d1, d2, d3, Option.bind_some, if_neg n1, if_pos n1, ej, inb_n (show 160 * p + (8 * t + m) < 960 by omega) (by omega), cond_true, nI_clamp (show 160 * p + (8 * t + m) < 2 ^ 31 by omega)]
      by_cases hd : d = 0 <;> simp [hd]
    refine ⟨1, _, _, ex, em, ?_⟩
    intro q hq
    obtain ⟨⟨b1, hb1, e1, f1⟩, b2, hb2, e2, f2⟩ := g9 q hq
    have tl : ∀ r, r < 6 → am_up (X_word p (8 * t + m) (decide (¬ d = 0)) μ) 175 (160 * p + (8 * t + m)) (if d = 0 then 2 else 1) 175 (160 * r + q) = if r = p ∧ q = 8 * t + m then (if d = 0 then 2 else 1) else μ 175 (160 * r + q) := by
      intro r hr
      rw [upa, k1 175 (by decide) (by decide)]
      by_cases hz : r = p ∧ q = 8 * t + m
      · rw [if_pos hz, if_pos ⟨rfl, by rw [hz.1, hz.2]⟩]
      · rw [if_neg hz, if_neg (by rintro ⟨-, h⟩; exact hz (by omega))]
    have y1 : am_up (X_word p (8 * t + m) (decide (¬ d = 0)) μ) 175 (160 * p + (8 * t + m)) (if d = 0 then 2 else 1) 100 = X_word p (8 * t + m) (decide (¬ d = 0)) μ 100 := am_up_ne (by decide)
    have y2 : am_up (X_word p (8 * t + m) (decide (¬ d = 0)) μ) 175 (160 * p + (8 * t + m)) (if d = 0 then 2 else 1) 101 = X_word p (8 * t + m) (decide (¬ d = 0)) μ 101 := am_up_ne (by decide)
    rw [y1, y2]
    by_cases hz : q = 8 * t + m
    · subst hz
      by_cases hd : d = 0
      · obtain ⟨o1, o2, o3⟩ := andb hb1 hb6
        obtain ⟨o4, o5, o6⟩ := orb hb2 hb6
        refine ⟨⟨b1 &&& (63 - 2 ^ p), o2, ?_, ?_⟩, ⟨b2 ||| 2 ^ p, o5, ?_, ?_⟩⟩
        · simpa [X_word, hd, upa, e1] using o1
        · intro r hr
          rw [o3 r hr, tl r hr, f1 r hr]
          by_cases hrp : r = p <;> simp [hrp, hd]
        · simp only [X_word, hd]; simp [upa, e2, o4]
        · intro r hr
          rw [o6 r hr, tl r hr, f2 r hr]
          by_cases hrp : r = p <;> simp [hrp, hd]
      · obtain ⟨o1, o2, o3⟩ := andb hb2 hb6
        obtain ⟨o4, o5, o6⟩ := orb hb1 hb6
        refine ⟨⟨b1 ||| 2 ^ p, o5, ?_, ?_⟩, ⟨b2 &&& (63 - 2 ^ p), o2, ?_, ?_⟩⟩
        · simp only [X_word]; simp [upa, e1, o4, hd]
        · intro r hr
          rw [o6 r hr, tl r hr, f1 r hr]
          by_cases hrp : r = p <;> simp [hrp, hd]
        · simpa [X_word, hd, upa, e2] using o1
        · intro r hr
          rw [o3 r hr, tl r hr, f2 r hr]
          by_cases hrp : r = p <;> simp [hrp, hd]
    · refine ⟨⟨b1, hb1, ?_, ?_⟩, ⟨b2, hb2, ?_, ?_⟩⟩
      · rw [← e1]; unfold X_word; split <;> simp [upa, hz]
      · intro r hr
        rw [tl r hr, if_neg (fun h => hz h.2)]; exact f1 r hr
      · rw [← e2]; unfold X_word; split <;> simp [upa, hz]
      · intro r hr
        rw [tl r hr, if_neg (fun h => hz h.2)]; exact f2 r hr
  · refine ⟨0, μ, μ, ?_, ?_, g9⟩
    · simp only [fB_word, l_isIn, Option.bind_some, b2i_z]
      by_cases c1 : 0 ≤ a ∧ a < μ 97 4
      · by_cases c2 : 0 ≤ b ∧ b < μ 13 14
        · rw [if_neg (fun q => q c1), if_neg (fun q => q c2), if_neg (by grind)]
        · rw [if_neg (fun q => q c1), if_pos c2]
      · rw [if_pos c1]
    · simp only [fM_word, l_lies, l_isThing, l_isMark, Option.bind_some, b2i_z, h3, v3]
      by_cases c1 : 0 ≤ a ∧ a < μ 97 4
      · by_cases c2 : 0 ≤ b ∧ b < μ 13 14
        · rw [if_neg (by grind), if_neg (by grind), if_neg (by grind)]
        · rw [if_neg (by grind), if_pos (by grind)]
      · rw [if_pos (by grind)]
