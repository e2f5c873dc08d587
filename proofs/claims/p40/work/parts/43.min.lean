/-! E: the law's loops over the minutes -/
section
variable {sL : Nat} {sX : Nat → Int32} {n U : Nat} {K A : Nat → Nat} {B : Nat → Option Nat} {M wr wm c : Nat → Nat}
/-- what stays through the loops -/
def LBase (n : Nat) (K A : Nat → Nat) (B : Nat → Option Nat) (M wr wm c : Nat → Nat) (μ : am_Mu) : Prop := Cs n K A B M wr wm c μ ∧ LawA 14 K A B M μ ∧ LawM 2 wr wm μ
theorem LBase.cong {μ ν : am_Mu} (h : LBase n K A B M wr wm c μ) (e : ∀ a, a ≤ 114 → ν a = μ a) : LBase n K A B M wr wm c ν := by
  obtain ⟨h1, h2, h3⟩ := h
  refine ⟨h1.cong (fun a ha => e a (by omega)), ?_, ?_⟩
  · intro j hj
    rw [e 110 (by omega), e 111 (by omega), e 112 (by omega), e 113 (by omega)]
    exact h2 j hj
  · intro j hj
    rw [e 114 (by omega), e 113 (by omega)]
    exact h3 j hj
/-- the three rows, behind p events -/
def LRow (n : Nat) (K A : Nat → Nat) (B : Nat → Option Nat) (wr c : Nat → Nat) (p : Nat) (μ : am_Mu) : Prop := Row n 115 (wiP K A B wr c p) μ ∧ Row n 116 (leP K A B wr c p) μ ∧ ∀ t, t < n → μ 117 t = rcB K A B wr c p t
def Snp (n : Nat) (K A : Nat → Nat) (B : Nat → Option Nat) (M wr wm c : Nat → Nat) (U : Nat) (μ : am_Mu) : Prop := Row n 118 (wiB 0 K A B M wr wm c U) μ ∧ Row n 119 (leB 0 K A B M wr wm c U) μ
theorem Snp.cong {μ ν : am_Mu} (h : Snp n K A B M wr wm c U μ) (e : ∀ a, 117 < a → ν a = μ a) : Snp n K A B M wr wm c U ν := by
  refine ⟨fun t ht => ?_, fun t ht => ?_⟩
  · rw [e 118 (by omega)]; exact h.1 t ht
  · rw [e 119 (by omega)]; exact h.2 t ht
theorem w_lt (hD : Dat n K A B M wr wm) {μ : am_Mu} (h : Cs n K A B M wr wm c μ) {p : Nat} (hp : p ≤ 16) : (∀ t, t < n → wiP K A B wr c p t < 4) ∧ ∀ t, t < n → leP K A B wr c p t < 4 :=
  ⟨fun t ht => (rel_run hD h 0 (fun _ => true) p hp t ht).1, fun t ht => (rel_run hD h 0 (fun k => !decide (c k = 0)) p hp t ht).1⟩
theorem rc_sg : ∀ p t, rcB K A B wr c p t = -1 ∨ ∃ k, rcB K A B wr c p t = nI k ∧ ∃ j, j < p ∧ c j = 10 + k := by
  intro p
  induction p with
  | zero => intro t; exact Or.inl rfl
  | succ p ih =>
    intro t
    rw [rcB]
    dsimp only
    split
    · rename_i h
      exact Or.inr ⟨c p - 10, rfl, p, by omega, by omega⟩
    · rcases ih t with h | ⟨k, h1, j, h2, h3⟩
      · exact Or.inl h
      · exact Or.inr ⟨k, h1, j, by omega, h3⟩
theorem rc_0 (hD : Dat n K A B M wr wm) {μ : am_Mu} (h : Cs n K A B M wr wm c μ) {p : Nat} (hp : p ≤ 16) (t : Nat) : (0 ≤ rcB K A B wr c p t ↔ ¬ rcB K A B wr c p t = -1) ∧ (¬ rcB K A B wr c p t = -1 → ∃ k, k < 14 ∧ rcB K A B wr c p t = nI k) := by
  rcases rc_sg (K := K) (A := A) (B := B) (wr := wr) (c := c) p t with q | ⟨k, q1, j, q2, q3⟩
  · rw [q]; exact ⟨by decide, fun z => absurd rfl z⟩
  · have := (cs_mn hD h (k := j) (by omega)).2.2.1
    rw [q1]
    exact ⟨⟨fun _ => yI_n (by omega), fun _ => nI_pos' (by omega)⟩, fun _ => ⟨k, by omega, rfl⟩⟩
theorem ky_e (M wm : Nat → Nat) (e : Nat) : kyC M wm e = mnC M wm e * 1000 + e := rfl
/-- mistakes of a minute -/
theorem l_465 (hD : Dat n K A B M wr wm) {m : Nat} (hm : m < 60) (kk : Int32 → Int32 → Int32 → Int32 → am_Mu → Option (Int32 × am_Mu)) : ∀ q k f p μ, k + q = 2 → q < f → LBase n K A B M wr wm c μ → LRow n K A B wr c p μ → Cur M wm c p (m * 1000 + k) → ∃ p' μ', fL_law_465 sL sX f kk (nI n) 1 (nI U) (nI m) (nI k) μ = fL_law_522 sL sX kk (nI n) 1 (nI U) (nI m) μ' ∧ LBase n K A B M wr wm c μ' ∧ LRow n K A B wr c p' μ' ∧ Cur M wm c p' (m * 1000 + 2) ∧ ∀ a, 116 < a → μ' a = μ a := by
  intro q
  induction q with
  | zero =>
    intro k f p μ hk hf hb hr hc
    obtain ⟨f, rfl⟩ : ∃ k, f = k + 1 := ⟨f - 1, by omega⟩
    have : k = 2 := by omega
    subst this
    refine ⟨p, μ, ?_, hb, hr, hc, fun _ _ => rfl⟩
    rw [fL_law_465, if_pos (by decide)]
  | succ q ih =>
    intro k f p μ hk hf hb hr hc
    obtain ⟨f, rfl⟩ : ∃ k, f = k + 1 := ⟨f - 1, by omega⟩
    obtain ⟨h1, h2, h3⟩ := id hb
    obtain ⟨m1, m2⟩ := h3 k (by omega)
    obtain ⟨d1, d2⟩ := hD.2.2.2 k
    have n6 := hD.2.1
    obtain ⟨r1, r2, r3⟩ := hr
    have hp16 := hc.1
    obtain ⟨w1, w2⟩ := w_lt hD h1 hp16
    have e16 : (16 : Int32) + nI k = nI (16 + k) := nI_plus 16 k
    have ek : nI k + 1 = nI (k + 1) := nI_plus _ 1
    rw [fL_law_465, if_neg (by show ¬ nI 2 ≤ _; rw [nI_le_iff (by omega) (by omega)]; omega), e16, inb_n (by omega) (by omega), cond_true, nI_clamp (show 16 + k < 2 ^ 31 by omega), m2]
    by_cases hw : wm k = m
    · obtain ⟨c1, c2, c3⟩ := cur_hit h1.2.2.2.2 hc (e := k) (Or.inl (by omega)) (by rw [ky_e]; unfold mnC; rw [if_pos (by omega), hw])
      rw [if_pos (by rw [hw]), inb_n (show k < 2 by omega) (by omega), cond_true, nI_clamp (show k < 2 ^ 31 by omega), m1, inb_n (by omega) (by omega), cond_true, nI_clamp (show wr k < 2 ^ 31 by omega), r1 _ d1, r2 _ d1, or1_b ⟨_, w1 _ d1⟩]
      have ewi : wiP K A B wr c (p + 1) = updN (wiP K A B wr c p) (wr k) (set1 (wiP K A B wr c p (wr k))) := by
        unfold wiP
        rw [rnS, if_pos rfl, c2]
        unfold stB
        rw [if_pos (by omega)]
      have erc : ∀ t, rcB K A B wr c (p + 1) t = rcB K A B wr c p t := by
        intro t
        rw [rcB]
        dsimp only
        rw [if_neg (by rw [c2]; omega)]
      unfold fL_law_516
      rw [ek]
      by_cases hk0 : k = 0
      · rw [if_pos (show nI k ≤ 0 by rw [hk0]; decide)]
        have ele : leP K A B wr c (p + 1) = leP K A B wr c p := by
          unfold leP
          rw [rnS, if_neg (by rw [c2, hk0]; decide)]
        obtain ⟨p', μ', y1, y2, y3, y4, y5⟩ := ih (k + 1) f (p + 1) _ (by omega) (by omega) (hb.cong (ν := am_up μ 115 (wr k) (nI (set1 (wiP K A B wr c p (wr k))))) (fun a ha => up_row (by omega))) ⟨by rw [ewi]; exact row_up r1 rfl, by rw [ele]; intro t ht; rw [up_row (by omega)]; exact r2 t ht, fun t ht => by rw [up_row (by omega), erc]; exact r3 t ht⟩ (by rw [← Nat.add_assoc]; exact c3)
        exact ⟨p', μ', y1, y2, y3, y4, fun a ha => by rw [y5 a ha, up_row (by omega)]⟩
      · have k1 : k = 1 := by omega
        rw [if_neg (show ¬ nI k ≤ 0 by rw [k1]; decide), or1_b ⟨_, w2 _ d1⟩]
        have ele : leP K A B wr c (p + 1) = updN (leP K A B wr c p) (wr k) (set1 (leP K A B wr c p (wr k))) := by
          unfold leP
          rw [rnS, if_pos (by rw [c2, k1]; rfl), c2]
          unfold stB
          rw [if_pos (by omega)]
        obtain ⟨p', μ', y1, y2, y3, y4, y5⟩ := ih (k + 1) f (p + 1) _ (by omega) (by omega) (hb.cong (ν := am_up (am_up μ 115 (wr k) (nI (set1 (wiP K A B wr c p (wr k))))) 116 (wr k) (nI (set1 (leP K A B wr c p (wr k))))) (fun a ha => by rw [up_row (by omega), up_row (by omega)])) ⟨by rw [ewi]; intro t ht; rw [up_row (by omega)]; exact row_up r1 rfl t ht, by rw [ele]; exact row_up (fun t ht => by rw [up_row (by omega)]; exact r2 t ht) rfl, fun t ht => by rw [up_row (by omega), up_row (by omega), erc]; exact r3 t ht⟩ (by rw [← Nat.add_assoc]; exact c3)
        exact ⟨p', μ', y1, y2, y3, y4, fun a ha => by rw [y5 a ha, up_row (by omega), up_row (by omega)]⟩
    · rw [if_neg (fun z => hw ((nI_inj (by omega) (by omega)).mp z))]
      unfold fL_law_516
      rw [ek]
      exact ih (k + 1) f p μ (by omega) (by omega) hb ⟨r1, r2, r3⟩ (cur_skip h1.2.2.2.2 hc (by omega) (by
        intro e he hx
        rw [ky_e] at hx
        have := okC_lt he (by omega) (by omega)
        have e1 : e = k := by omega
        rw [e1] at hx
        have e2 : mnC M wm k = wm k := by unfold mnC; rw [if_pos (by omega)]
        rw [e2] at hx
        omega))
/-- who is reached by an act -/
theorem l_588 (hD : Dat n K A B M wr wm) {m k p : Nat} (hk : k < 14) (hp : p < 16) (hcp : c p = 10 + k) (kk : Int32 → Int32 → Int32 → Int32 → am_Mu → Option (Int32 × am_Mu)) (k5 : Int32 → Int32 → Int32 → Int32 → Int32 → am_Mu → Option (Int32 × am_Mu)) : ∀ q t f μ, t + q = n → q < f → LBase n K A B M wr wm c μ → Row n 115 (wiP K A B wr c (p + 1)) μ → Row n 116 (leP K A B wr c (p + 1)) μ → (∀ s, s < n → μ 117 s = if s < t then rcB K A B wr c (p + 1) s else rcB K A B wr c p s) → ∃ μ', fL_law_588 sL sX f kk k5 (nI n) 1 (nI U) (nI m) (nI k) (nI t) μ = fL_law_637 sL sX kk k5 (nI n) 1 (nI U) (nI m) (nI k) μ' ∧ LBase n K A B M wr wm c μ' ∧ LRow n K A B wr c (p + 1) μ' ∧ ∀ a, ¬ a = 117 → μ' a = μ a := by
  have n6 := hD.2.1
  intro q
  induction q with
  | zero =>
    intro t f μ ht hf hb h5 h6 h7
    obtain ⟨f, rfl⟩ : ∃ k, f = k + 1 := ⟨f - 1, by omega⟩
    have : t = n := by omega
    subst this
    refine ⟨μ, ?_, hb, ⟨h5, h6, fun s hs => by rw [h7 s hs, if_pos hs]⟩, fun _ _ => rfl⟩
    rw [fL_law_588, if_pos (Int32.le_refl _)]
  | succ q ih =>
    intro t f μ ht hf hb h5 h6 h7
    obtain ⟨f, rfl⟩ : ∃ k, f = k + 1 := ⟨f - 1, by omega⟩
    have htn : t < n := by omega
    have h7t := h7 t htn
    rw [if_neg (by omega)] at h7t
    obtain ⟨z1, z2⟩ := rc_0 hD hb.1 (show p ≤ 16 by omega) t
    have m0 := (hb.2.2 0 (by omega)).1
    have d0 := (hD.2.2.2 0).1
    obtain ⟨w1, w2⟩ := w_lt hD hb.1 (show p + 1 ≤ 16 by omega)
    have et : nI t + 1 = nI (t + 1) := nI_plus _ 1
    have next : ∀ ν : am_Mu, (∀ a, ¬ a = 117 → ν a = μ a) → (∀ s, s < n → ν 117 s = if s < t + 1 then rcB K A B wr c (p + 1) s else rcB K A B wr c p s) → ∃ μ', fL_law_631 sL sX kk k5 (fL_law_588 sL sX f kk k5) (nI n) 1 (nI U) (nI m) (nI k) (nI t) ν = fL_law_637 sL sX kk k5 (nI n) 1 (nI U) (nI m) (nI k) μ' ∧ LBase n K A B M wr wm c μ' ∧ LRow n K A B wr c (p + 1) μ' ∧ ∀ a, ¬ a = 117 → μ' a = μ a := by
      intro ν e1 e2
      unfold fL_law_631
      rw [et]
      obtain ⟨μ', y1, y2, y3, y4⟩ := ih (t + 1) f ν (by omega) (by omega) (hb.cong (fun a ha => e1 a (by omega))) (fun s hs => by rw [e1 115 (by omega)]; exact h5 s hs) (fun s hs => by rw [e1 116 (by omega)]; exact h6 s hs) e2
      exact ⟨μ', y1, y2, y3, fun a ha => by rw [y4 a ha, e1 a ha]⟩
    have same : rcB K A B wr c (p + 1) t = rcB K A B wr c p t → ∀ s, s < n → μ 117 s = if s < t + 1 then rcB K A B wr c (p + 1) s else rcB K A B wr c p s := by
      intro hs s hsn
      rw [h7 s hsn]
      by_cases h1 : s < t
      · rw [if_pos h1, if_pos (by omega)]
      · rw [if_neg h1]
        by_cases h2 : s = t
        · rw [if_pos (by omega), h2, hs]
        · rw [if_neg (by omega)]
    have erc : rcB K A B wr c (p + 1) t = if 10 ≤ c p ∧ rcB K A B wr c p t = -1 ∧ ¬ t = wr 0 ∧ ¬ wiP K A B wr c (p + 1) t = leP K A B wr c (p + 1) t then nI (c p - 10) else rcB K A B wr c p t := rfl
    rw [fL_law_588, if_neg (by rw [nI_le_iff (by omega) (by omega)]; omega), inb_n (by omega) (by omega), cond_true, nI_clamp (show t < 2 ^ 31 by omega), h7t, m0, h5 t htn, h6 t htn]
    by_cases c1 : rcB K A B wr c p t = -1
    · rw [if_neg (fun z => z1.mp z c1)]
      by_cases c2 : t = wr 0
      · rw [if_pos (by rw [← c2])]
        exact next μ (fun _ _ => rfl) (same (by rw [erc, if_neg (fun z => z.2.2.1 c2)]))
      · rw [if_neg (fun z => c2 ((nI_inj (by omega) (by omega)).mp z))]
        by_cases c3 : wiP K A B wr c (p + 1) t = leP K A B wr c (p + 1) t
        · rw [if_pos (by rw [c3])]
          exact next μ (fun _ _ => rfl) (same (by rw [erc, if_neg (fun z => z.2.2.2 c3)]))
        · have l1 := w1 t htn
          have l2 := w2 t htn
          rw [if_neg (fun z => c3 ((nI_inj (by omega) (by omega)).mp z))]
          refine next _ (fun a ha => up_row ha) ?_
          intro s hs
          rw [up_at]
          by_cases h1 : s = t
          · rw [if_pos h1, if_pos (by omega), h1, erc, if_pos ⟨by omega, c1, c2, c3⟩, hcp, show 10 + k - 10 = k by omega]
          · rw [if_neg h1, h7 s hs]
            by_cases h2 : s < t
            · rw [if_pos h2, if_pos (by omega)]
            · rw [if_neg h2, if_neg (by omega)]
    · rw [if_pos (z1.mpr c1)]
      exact next μ (fun _ _ => rfl) (same (by rw [erc, if_neg (fun z => c1 z.2.1)]))
/-- acts of a minute -/
theorem l_525 (hD : Dat n K A B M wr wm) {m : Nat} (hm : m < 60) (kk : Int32 → Int32 → Int32 → Int32 → am_Mu → Option (Int32 × am_Mu)) : ∀ q k f p μ, k + q = 14 → q < f → LBase n K A B M wr wm c μ → LRow n K A B wr c p μ → Cur M wm c p (m * 1000 + (10 + k)) → ∃ p' μ', fL_law_525 sL sX f kk (nI n) 1 (nI U) (nI m) (nI k) μ = fL_law_643 sL sX kk (nI n) 1 (nI U) (nI m) μ' ∧ LBase n K A B M wr wm c μ' ∧ LRow n K A B wr c p' μ' ∧ Cur M wm c p' (m * 1000 + 24) ∧ ∀ a, 117 < a → μ' a = μ a := by
  have n6 := hD.2.1
  intro q
  induction q with
  | zero =>
    intro k f p μ hk hf hb hr hc
    obtain ⟨f, rfl⟩ : ∃ k, f = k + 1 := ⟨f - 1, by omega⟩
    have : k = 14 := by omega
    subst this
    refine ⟨p, μ, ?_, hb, hr, hc, fun _ _ => rfl⟩
    rw [fL_law_525, if_pos (by decide)]
  | succ q ih =>
    intro k f p μ hk hf hb hr hc
    obtain ⟨f, rfl⟩ : ∃ k, f = k + 1 := ⟨f - 1, by omega⟩
    obtain ⟨h1, h2, h3⟩ := id hb
    obtain ⟨a1, a2, a3, a4⟩ := h2 k (by omega)
    obtain ⟨d1, d2, d3, d4⟩ := hD.2.2.1 k
    obtain ⟨r1, r2, r3⟩ := id hr
    have hp16 := hc.1
    obtain ⟨w1, w2⟩ := w_lt hD h1 hp16
    have ek : nI k + 1 = nI (k + 1) := nI_plus _ 1
    rw [fL_law_525, if_neg (by show ¬ nI 14 ≤ _; rw [nI_le_iff (by omega) (by omega)]; omega), inb_n (show k < 18 by omega) (by omega), cond_true, nI_clamp (show k < 2 ^ 31 by omega), a4]
    by_cases hw : M k = m
    · obtain ⟨c1, c2, c3⟩ := cur_hit h1.2.2.2.2 hc (e := 10 + k) (Or.inr (by omega)) (by rw [ky_e]; unfold mnC; rw [if_neg (by omega), show 10 + k - 10 = k by omega, hw])
      rw [if_pos (by rw [hw]), inb_n (show k < 16 by omega) (by omega), cond_true, a1, a2, a3]
      obtain ⟨μ1, x1, x2, x3⟩ := goW n6 w1 r1 d2 d4
      have est : ∀ w, stB K A B wr (c p) w = goB (K k) (A k) (B k) w := by
        intro w
        unfold stB
        rw [c2, if_neg (by omega), show 10 + k - 10 = k by omega]
      have ewi : wiP K A B wr c (p + 1) = goB (K k) (A k) (B k) (wiP K A B wr c p) := by
        rw [← est]
        unfold wiP
        rw [rnS, if_pos rfl]
      have ele : leP K A B wr c (p + 1) = goB (K k) (A k) (B k) (leP K A B wr c p) := by
        rw [← est]
        unfold leP
        have hz : (!decide (c p = 0)) = true := by rw [decide_eq_false (by omega)]; rfl
        rw [rnS, if_pos hz]
      obtain ⟨μ2, y1, y2, y3⟩ := goL (μ := μ1) n6 w2 (fun t ht => by rw [x2 116 (by omega)]; exact r2 t ht) d2 d4
      rw [x1, Option.bind_some, x2 110 (by omega), x2 111 (by omega), x2 112 (by omega), a1, a2, a3, y1, Option.bind_some]
      have hb2 : LBase n K A B M wr wm c μ2 := hb.cong (fun a ha => by rw [y2 a (by omega), x2 a (by omega)])
      obtain ⟨μ3, z1, z2, z3, z4⟩ := l_588 (sL := sL) (sX := sX) (U := U) hD (m := m) (k := k) (p := p) (by omega) c1 c2 kk (fL_law_525 sL sX f kk) n 0 am_F μ2 (by omega) (by unfold am_F; omega) hb2 (by rw [ewi]; intro t ht; rw [y2 115 (by omega)]; exact x3 t ht) (by rw [ele]; exact y3) (fun s hs => by rw [if_neg (by omega), y2 117 (by omega), x2 117 (by omega)]; exact r3 s hs)
      rw [show (0 : Int32) = nI 0 from rfl, z1]
      unfold fL_law_637
      rw [ek]
      obtain ⟨p', μ', u1, u2, u3, u4, u5⟩ := ih (k + 1) f (p + 1) μ3 (by omega) (by omega) z2 z3 (by rw [show m * 1000 + (10 + (k + 1)) = m * 1000 + (10 + k) + 1 by omega]; exact c3)
      exact ⟨p', μ', u1, u2, u3, u4, fun a ha => by rw [u5 a ha, z4 a (by omega), y2 a (by omega), x2 a (by omega)]⟩
    · rw [if_neg (fun z => hw ((nI_inj (by omega) (by omega)).mp z))]
      unfold fL_law_637
      rw [ek]
      exact ih (k + 1) f p μ (by omega) (by omega) hb hr (cur_skip h1.2.2.2.2 hc (by omega) (by
        intro e he hx
        rw [ky_e] at hx
        have := okC_lt he (by omega) (by omega)
        have e1 : e = 10 + k := by omega
        rw [e1] at hx
        have e2 : mnC M wm (10 + k) = M k := by unfold mnC; rw [if_neg (by omega), show 10 + k - 10 = k by omega]
        rw [e2] at hx
        omega))
end
