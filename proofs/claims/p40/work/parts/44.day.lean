/-! E: the law's minutes, to their end -/
section
variable {sL : Nat} {sX : Nat → Int32} {n U : Nat} {K A : Nat → Nat} {B : Nat → Option Nat} {M wr wm c : Nat → Nat}
theorem snp_now {μ : am_Mu} (hD : Dat n K A B M wr wm) (h : Cs n K A B M wr wm c μ) {p v : Nat} (hc : Cur M wm c p (v * 1000 + 24)) : wiB 0 K A B M wr wm c v = wiP K A B wr c p ∧ leB 0 K A B M wr wm c v = leP K A B wr c p := by
  obtain ⟨h1, h2, h3⟩ := hc
  have l1 : ∀ k, k < p → decide (mnC M wm (c k) ≤ v) = true := by
    intro k hk
    have a1 := h2 k hk
    rw [ky_e] at a1
    exact decide_eq_true (by omega)
  have l2 : ∀ k, p ≤ k → k < 16 → decide (mnC M wm (c k) ≤ v) = false := by
    intro k hk hk2
    have a1 := h3 k hk hk2
    have a2 := (cs_mn hD h hk2).2.2.1
    rw [ky_e] at a1
    exact decide_eq_false (by omega)
  constructor
  · exact rnS_pre (st := stB K A B wr) (E := fun _ => true) h1 l1 l2
  · refine rnS_pre (st := stB K A B wr) (E := fun k => !decide (c k = 0)) h1 (fun k hk => ?_) (fun k hk hk2 => ?_)
    · rw [l1 k hk, Bool.true_and]
    · rw [l2 k hk hk2, Bool.false_and]
theorem snp_all {μ : am_Mu} (hD : Dat n K A B M wr wm) (h : Cs n K A B M wr wm c μ) {v : Nat} (hv : 60 ≤ v) : wiB 0 K A B M wr wm c v = wiP K A B wr c 16 ∧ leB 0 K A B M wr wm c v = leP K A B wr c 16 := by
  refine snp_now hD h ⟨by omega, fun k hk => ?_, fun k hk hk2 => absurd hk2 (by omega)⟩
  obtain ⟨-, -, a1, a2, -⟩ := cs_mn hD h hk
  rw [ky_e]
  omega
/-- what is shown at the minute asked -/
theorem l_646 (hD : Dat n K A B M wr wm) {m p : Nat} (hm : m < 60) (hU : U < 60) (kk : Int32 → Int32 → Int32 → Int32 → am_Mu → Option (Int32 × am_Mu)) : ∀ q t f μ, t + q = n → q < f → LBase n K A B M wr wm c μ → LRow n K A B wr c p μ → Cur M wm c p (m * 1000 + 24) → (U < m → Snp n K A B M wr wm c U μ) → (m = U → ∀ s, s < t → μ 118 s = nI (wiP K A B wr c p s) ∧ μ 119 s = nI (leP K A B wr c p s)) → ∃ μ', fL_law_646 sL sX f kk (nI n) 1 (nI U) (nI m) (nI t) μ = kk (nI n) 1 (nI U) (nI (m + 1)) μ' ∧ LBase n K A B M wr wm c μ' ∧ LRow n K A B wr c p μ' ∧ (U < m + 1 → Snp n K A B M wr wm c U μ') := by
  have n6 := hD.2.1
  have n2 := hD.1
  have em : nI m + 1 = nI (m + 1) := nI_plus _ 1
  intro q
  induction q with
  | zero =>
    intro t f μ ht hf hb hr hc hs h7
    obtain ⟨f, rfl⟩ : ∃ k, f = k + 1 := ⟨f - 1, by omega⟩
    have : t = n := by omega
    subst this
    refine ⟨μ, ?_, hb, hr, ?_⟩
    · rw [fL_law_646, if_pos (Int32.le_refl _)]
      unfold fL_law_685
      rw [em]
    · intro hu
      by_cases h : U < m
      · exact hs h
      · have hmU : m = U := by omega
        subst hmU
        obtain ⟨e1, e2⟩ := snp_now hD hb.1 hc
        refine ⟨fun s hs => ?_, fun s hs => ?_⟩
        · rw [e1]; exact (h7 rfl s hs).1
        · rw [e2]; exact (h7 rfl s hs).2
  | succ q ih =>
    intro t f μ ht hf hb hr hc hs h7
    obtain ⟨f, rfl⟩ : ∃ k, f = k + 1 := ⟨f - 1, by omega⟩
    rw [fL_law_646, if_neg (by rw [nI_le_iff (by omega) (by omega)]; omega)]
    by_cases hmU : m = U
    · rw [if_neg (fun z => z (by rw [hmU])), inb_n (by omega) (by omega), cond_true, nI_clamp (show t < 2 ^ 31 by omega), show nI t + 1 = nI (t + 1) from nI_plus _ 1]
      have hl := fun a (ha : ¬ a = 118) (hb : ¬ a = 119) => (show am_up (am_up μ 118 t (μ 115 t)) 119 t (μ 116 t) a = μ a by rw [up_row hb, up_row ha])
      refine ih (t + 1) f _ (by omega) (by omega) (hb.cong (fun a ha => hl a (by omega) (by omega))) ⟨?_, ?_, ?_⟩ hc (fun z => absurd z (by omega)) ?_
      · intro s hs; rw [hl 115 (by omega) (by omega)]; exact hr.1 s hs
      · intro s hs; rw [hl 116 (by omega) (by omega)]; exact hr.2.1 s hs
      · intro s hs; rw [hl 117 (by omega) (by omega)]; exact hr.2.2 s hs
      · intro _ s hst
        rw [up_at, up_row (show ¬ 118 = 119 by omega), up_at, up_row (show ¬ 119 = 118 by omega)]
        by_cases h : s = t
        · rw [if_pos h, if_pos h, h]
          exact ⟨hr.1 t (by omega), hr.2.1 t (by omega)⟩
        · rw [if_neg h, if_neg h]
          exact h7 hmU s (by omega)
    · rw [if_pos (fun z => hmU ((nI_inj (by omega) (by omega)).mp z))]
      unfold fL_law_685
      rw [em]
      exact ⟨μ, rfl, hb, hr, fun hu => hs (by omega)⟩
/-- all minutes -/
theorem l_455 (hD : Dat n K A B M wr wm) (hU : U < 60) : ∀ q m f p μ, m + q = 60 → q < f → LBase n K A B M wr wm c μ → LRow n K A B wr c p μ → Cur M wm c p (m * 1000) → (U < m → Snp n K A B M wr wm c U μ) → ∃ μ', fL_law_455 sL sX f (nI n) 1 (nI U) (nI m) μ = fL_law_691 sL sX (nI n) 1 (nI U) μ' ∧ LBase n K A B M wr wm c μ' ∧ LRow n K A B wr c 16 μ' ∧ Snp n K A B M wr wm c U μ' := by
  have n6 := hD.2.1
  have n2 := hD.1
  intro q
  induction q with
  | zero =>
    intro m f p μ hm hf hb hr hc hs
    obtain ⟨f, rfl⟩ : ∃ k, f = k + 1 := ⟨f - 1, by omega⟩
    have : m = 60 := by omega
    subst this
    have hp : p = 16 := by
      obtain ⟨c1, c2, c3⟩ := hc
      rcases Nat.lt_or_ge p 16 with h | h
      · have a1 := c3 p (Nat.le_refl _) h
        obtain ⟨-, -, a2, a3, -⟩ := cs_mn hD hb.1 h
        rw [ky_e] at a1
        omega
      · omega
    subst hp
    refine ⟨μ, ?_, hb, hr, hs hU⟩
    rw [fL_law_455, if_pos (by decide)]
  | succ q ih =>
    intro m f p μ hm hf hb hr hc hs
    obtain ⟨f, rfl⟩ : ∃ k, f = k + 1 := ⟨f - 1, by omega⟩
    have hm6 : m < 60 := by omega
    rw [fL_law_455, if_neg (by show ¬ nI 60 ≤ _; rw [nI_le_iff (by omega) (by omega)]; omega)]
    obtain ⟨p1, μ1, x1, x2, x3, x4, x5⟩ := l_465 (sL := sL) (sX := sX) (U := U) hD hm6 (fL_law_455 sL sX f) 2 0 am_F p μ (by omega) (by unfold am_F; omega) hb hr (by rw [Nat.add_zero]; exact hc)
    have hc2 : Cur M wm c p1 (m * 1000 + (10 + 0)) := cur_skip x2.1.2.2.2.2 x4 (by omega) (by
      intro e he hx
      rw [ky_e] at hx
      have := okC_lt he (by omega) (by omega)
      rcases he with h | h
      · omega
      · omega)
    obtain ⟨p2, μ2, y1, y2, y3, y4, y5⟩ := l_525 (sL := sL) (sX := sX) (U := U) hD hm6 (fL_law_455 sL sX f) 14 0 am_F p1 μ1 (by omega) (by unfold am_F; omega) x2 x3 hc2
    obtain ⟨μ3, z1, z2, z3, z4⟩ := l_646 (sL := sL) (sX := sX) hD hm6 hU (fL_law_455 sL sX f) n 0 am_F μ2 (by omega) (by unfold am_F; omega) y2 y3 y4 (fun hu => (hs hu).cong (fun a ha => by rw [y5 a ha, x5 a (by omega)])) (fun _ s hs => absurd hs (by omega))
    have hc3 : Cur M wm c p2 ((m + 1) * 1000) := cur_skip y2.1.2.2.2.2 y4 (by omega) (by
      intro e he hx
      rw [ky_e] at hx
      have := okC_lt he (by omega) (by omega)
      omega)
    obtain ⟨μ', u1, u2, u3, u4⟩ := ih (m + 1) f p2 μ3 (by omega) (by omega) z2 z3 hc3 z4
    refine ⟨μ', ?_, u2, u3, u4⟩
    rw [← u1, ← z1, show (0 : Int32) = nI 0 from rfl, x1]
    unfold fL_law_522
    rw [show (0 : Int32) = nI 0 from rfl, y1]
    rfl
/-- none is reached yet -/
theorem l_406 (hD : Dat n K A B M wr wm) : ∀ q t f μ, t + q = n → q < f → (∀ s, s < t → μ 117 s = -1) → ∃ μ', fL_law_406 sL sX f (nI n) 1 (nI t) μ = fL_law_424 sL sX (nI n) 1 μ' ∧ (∀ a, ¬ a = 117 → μ' a = μ a) ∧ ∀ s, s < n → μ' 117 s = -1 := by
  have n6 := hD.2.1
  intro q
  induction q with
  | zero =>
    intro t f μ ht hf h
    obtain ⟨f, rfl⟩ : ∃ k, f = k + 1 := ⟨f - 1, by omega⟩
    have : t = n := by omega
    subst this
    refine ⟨μ, ?_, fun _ _ => rfl, h⟩
    rw [fL_law_406, if_pos (Int32.le_refl _)]
  | succ q ih =>
    intro t f μ ht hf h
    obtain ⟨f, rfl⟩ : ∃ k, f = k + 1 := ⟨f - 1, by omega⟩
    obtain ⟨μ', x1, x2, x3⟩ := ih (t + 1) f (am_up μ 117 t (-1)) (by omega) (by omega) (by
      intro s hs
      rw [up_at]
      by_cases h1 : s = t
      · rw [if_pos h1]
      · rw [if_neg h1]; exact h s (by omega))
    refine ⟨μ', ?_, fun a ha => by rw [x2 a ha, up_row ha], x3⟩
    rw [fL_law_406, if_neg (by rw [nI_le_iff (by omega) (by omega)]; omega), inb_n (by omega) (by omega), cond_true, nI_clamp (show t < 2 ^ 31 by omega), show nI t + 1 = nI (t + 1) from nI_plus _ 1]
    exact x1
theorem l_385 (hL : sL ≤ 260) (hD : Dat n K A B M wr wm) {μ : am_Mu} (hb : LBase n K A B M wr wm c μ) : ∃ μ', fL_law_385 sL sX (nI n) 1 μ = fL_law_691 sL sX (nI n) 1 (nI (dU sL sX)) μ' ∧ LBase n K A B M wr wm c μ' ∧ LRow n K A B wr c 16 μ' ∧ Snp n K A B M wr wm c (dU sL sX) μ' := by
  have n6 := hD.2.1
  have hU : dU sL sX < 60 := by
    have := pkN_lt (v := cvL sL sX 17) (N := 45) (by omega)
    unfold dU
    omega
  have e17 : (10 : Int32) + nI (pkN (cvL sL sX 17) 45) = nI (dU sL sX) := nI_plus 10 _
  generalize hν : am_row (am_row (am_row μ 115 (fun _ => 0)) 116 (fun _ => 0)) 117 (fun _ => 0) = ν
  have v115 : ν 115 = fun _ => 0 := by rw [← hν, am_row_ne (by omega), am_row_ne (by omega), am_row_eq]
  have v116 : ν 116 = fun _ => 0 := by rw [← hν, am_row_ne (by omega), am_row_eq]
  have vo : ∀ a, a ≤ 114 → ν a = μ a := fun a ha => by rw [← hν, am_row_ne (by omega), am_row_ne (by omega), am_row_ne (by omega)]
  obtain ⟨μ1, x1, x2, x3⟩ := l_406 (sL := sL) (sX := sX) hD n 0 am_F ν (by omega) (by unfold am_F; omega) (fun s hs => absurd hs (by omega))
  generalize hξ : am_row (am_row μ1 118 (fun _ => 0)) 119 (fun _ => 0) = ξ
  have xo : ∀ a, a ≤ 117 → ξ a = μ1 a := fun a ha => by rw [← hξ, am_row_ne (by omega), am_row_ne (by omega)]
  have hbx : LBase n K A B M wr wm c ξ := hb.cong (fun a ha => by rw [xo a (by omega), x2 a (by omega), vo a ha])
  obtain ⟨μ', y1, y2, y3, y4⟩ := l_455 (sL := sL) (sX := sX) hD hU 60 0 am_F 0 ξ (by omega) (by unfold am_F; omega) hbx ⟨fun t ht => by rw [xo 115 (by omega), x2 115 (by omega), v115]; rfl, fun t ht => by rw [xo 116 (by omega), x2 116 (by omega), v116]; rfl, fun t ht => by rw [xo 117 (by omega), x3 t ht]; rfl⟩ ⟨by omega, fun k hk => absurd hk (by omega), fun k _ _ => by rw [Nat.zero_mul]; exact Nat.zero_le _⟩ (fun hu => absurd hu (by omega))
  refine ⟨μ', ?_, y2, y3, y4⟩
  rw [← y1]
  unfold fL_law_385
  rw [hν, show (0 : Int32) = nI 0 from rfl, x1]
  unfold fL_law_424
  rw [show (17 : Int32) = nI 17 from rfl, l_cell hL (by omega), Option.bind_some]
  dsimp only
  rw [show (45 : Int32) = nI 45 from rfl, l_pick (by omega) (by omega), Option.bind_some]
  dsimp only
  rw [e17, hξ]
  rfl
end
