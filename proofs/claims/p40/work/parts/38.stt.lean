/-! E: THE STATE that the law's calls have laid: n things, k acts, q mistakes -/
def okC (k q e : Nat) : Prop := e < q ∨ (10 ≤ e ∧ e < 10 + k)
def mnC (M wm : Nat → Nat) (e : Nat) : Nat := if e < 10 then wm e else M (e - 10)
def kyC (M wm : Nat → Nat) (e : Nat) : Nat := mnC M wm e * 1000 + e
def OrdS (k q : Nat) (M wm : Nat → Nat) (x : Nat → Int32) : Prop := ∃ c : Nat → Nat, (∀ p, p < k + q → x p = nI (c p) ∧ okC k q (c p)) ∧ (∀ p p', p < p' → p' < k + q → kyC M wm (c p) < kyC M wm (c p')) ∧ ∀ e, okC k q e → ∃ p, p < k + q ∧ c p = e
def DatA (n : Nat) (K A : Nat → Nat) (B : Nat → Option Nat) (M : Nat → Nat) (j : Nat) : Prop := K j < 3 ∧ A j < n ∧ M j < 60 ∧ ((K j < 2 ∧ ∃ b, B j = some b ∧ b < n ∧ ¬ A j = b) ∨ (K j = 2 ∧ B j = none))
def DatM (n : Nat) (wr wm : Nat → Nat) (j : Nat) : Prop := wr j < n ∧ wm j < 60
def Bas (n : Nat) (μ : am_Mu) : Prop := μ 0 11 = 9000 ∧ G3 μ ∧ μ 13 14 = nI n ∧ ∀ t, t < n → μ 14 t = 0
def ActR (k : Nat) (K A : Nat → Nat) (B : Nat → Option Nat) (M : Nat → Nat) (μ : am_Mu) : Prop := μ 13 15 = nI k ∧ ∀ j, j < k → μ 15 j = nI (K j) ∧ μ 16 j = nI (A j) ∧ μ 17 j = yI (B j) ∧ μ 18 j = nI (M j) ∧ μ 19 j = 1 ∧ μ 20 j = 9000 ∧ μ 21 j = -1
def MisR (q : Nat) (wr wm : Nat → Nat) (μ : am_Mu) : Prop := μ 13 16 = nI q ∧ ∀ j, j < q → μ 22 j = nI (wr j) ∧ μ 23 j = 0 ∧ μ 24 j = nI (wm j) ∧ μ 25 j = 9000
def CSt (n k q : Nat) (K A : Nat → Nat) (B : Nat → Option Nat) (M wr wm : Nat → Nat) (μ : am_Mu) : Prop := Bas n μ ∧ ActR k K A B M μ ∧ MisR q wr wm μ ∧ μ 13 13 = nI (k + q) ∧ OrdS k q M wm (μ 26)
theorem G3.cong {μ ν : am_Mu} (h : G3 μ) (e : ∀ a, 27 < a → a ≤ 52 → ν a = μ a) : G3 ν := by
  obtain ⟨h1, h2, h3, h4⟩ := h
  refine ⟨by rw [e 40 (by omega) (by omega)]; exact h1, by rw [e 46 (by omega) (by omega)]; exact h2, ?_, ?_⟩
  · exact h3.cong (by rw [e 28 (by omega) (by omega)]) (fun j => by rw [e 29 (by omega) (by omega)]) (fun j => by rw [e 30 (by omega) (by omega)]) (fun j => by rw [e 31 (by omega) (by omega)]) (fun j => by rw [e 32 (by omega) (by omega)]) (fun j => by rw [e 33 (by omega) (by omega)])
  · exact h4.cong (by rw [e 34 (by omega) (by omega)]) (fun j => by rw [e 35 (by omega) (by omega)]) (fun j => by rw [e 36 (by omega) (by omega)]) (fun j => by rw [e 37 (by omega) (by omega)]) (fun j => by rw [e 38 (by omega) (by omega)]) (fun j => by rw [e 39 (by omega) (by omega)])
theorem okC_lt {k q c : Nat} (h : okC k q c) (hk : k ≤ 14) (hq : q ≤ 2) : c < 24 := by
  rcases h with h | h <;> omega
/-- a new event comes to its place -/
theorem ord_ins {k q k' q' e p : Nat} {M wm : Nat → Nat} {x y : Nat → Int32} (h : OrdS k q M wm x) (hk : k ≤ 14) (hq : q ≤ 2) (he : e < 24) (hN : k' + q' = k + q + 1) (hok : ∀ c, okC k' q' c ↔ okC k q c ∨ c = e) (hne : ¬ okC k q e) (hp1 : p ≤ k + q) (hp2 : ∀ j, p ≤ j → j < k + q → ∀ c, x j = nI c → okC k q c → kyC M wm e < kyC M wm c) (hp3 : 0 < p → ∀ c, x (p - 1) = nI c → okC k q c → ¬ kyC M wm e < kyC M wm c) (hy : ∀ j, y j = insF x (nI e) (k + q) p j) : OrdS k' q' M wm y := by
  obtain ⟨c, c1, c2, c3⟩ := h
  have up : ∀ j, p ≤ j → j < k + q → kyC M wm e < kyC M wm (c j) := fun j h1 h2 => hp2 j h1 h2 _ (c1 j h2).1 (c1 j h2).2
  have dn : ∀ j, j < p → kyC M wm (c j) < kyC M wm e := by
    intro j hj
    have h1 := hp3 (by omega) _ (c1 (p - 1) (by omega)).1 (c1 (p - 1) (by omega)).2
    have hlt := okC_lt (c1 (p - 1) (by omega)).2 hk hq
    have h2 : kyC M wm (c (p - 1)) < kyC M wm e := by
      have hd : ¬ c (p - 1) = e := fun z => hne (by rw [← z]; exact (c1 (p - 1) (by omega)).2)
      unfold kyC at h1 ⊢
      omega
    by_cases hjp : j = p - 1
    · rw [hjp]; exact h2
    · exact Nat.lt_trans (c2 j (p - 1) (by omega) (by omega)) h2
  refine ⟨fun j => if j < p then c j else if j = p then e else c (j - 1), ?_, ?_, ?_⟩
  · intro j hj
    rw [hy]
    unfold insF
    dsimp only
    by_cases h1 : j < p
    · rw [if_pos h1, if_pos h1]
      exact ⟨(c1 j (by omega)).1, (hok _).mpr (Or.inl (c1 j (by omega)).2)⟩
    · rw [if_neg h1, if_neg h1]
      by_cases h2 : j = p
      · rw [if_pos h2, if_pos h2]
        exact ⟨rfl, (hok _).mpr (Or.inr rfl)⟩
      · rw [if_neg h2, if_neg h2, if_pos (by omega)]
        exact ⟨(c1 (j - 1) (by omega)).1, (hok _).mpr (Or.inl (c1 (j - 1) (by omega)).2)⟩
  · intro i j hij hj
    dsimp only
    by_cases h1 : j < p
    · rw [if_pos h1, if_pos (by omega)]
      exact c2 i j hij (by omega)
    · rw [if_neg h1]
      by_cases h2 : j = p
      · rw [if_pos h2, if_pos (by omega)]
        exact dn i (by omega)
      · rw [if_neg h2]
        by_cases h3 : i < p
        · rw [if_pos h3]
          exact Nat.lt_trans (dn i h3) (up (j - 1) (by omega) (by omega))
        · rw [if_neg h3]
          by_cases h4 : i = p
          · rw [if_pos h4]
            exact up (j - 1) (by omega) (by omega)
          · rw [if_neg h4]
            exact c2 (i - 1) (j - 1) (by omega) (by omega)
  · intro e' he'
    rcases (hok e').mp he' with h1 | h1
    · obtain ⟨j, j1, j2⟩ := c3 e' h1
      by_cases h2 : j < p
      · exact ⟨j, by omega, by dsimp only; rw [if_pos h2]; exact j2⟩
      · exact ⟨j + 1, by omega, by dsimp only; rw [if_neg (by omega), if_neg (by omega), Nat.add_sub_cancel]; exact j2⟩
    · exact ⟨p, by omega, by dsimp only; rw [if_neg (by omega), if_pos rfl]; exact h1.symm⟩
theorem ahead_ky {μ : am_Mu} {M wm : Nat → Nat} {a c : Nat} (ha : evMin μ (nI a) = nI (mnC M wm a)) (hc : evMin μ (nI c) = nI (mnC M wm c)) (h1 : mnC M wm a < 60) (h2 : mnC M wm c < 60) (h3 : a < 24) (h4 : c < 24) : aheadX μ (nI a) (nI c) ↔ kyC M wm a < kyC M wm c := by
  unfold aheadX kyC
  rw [ha, hc, nI_lt_iff (by omega) (by omega), nI_inj (by omega) (by omega), nI_lt_iff (by omega) (by omega)]
  omega
theorem mnC_lt {n k q : Nat} {K A : Nat → Nat} {B : Nat → Option Nat} {M wr wm : Nat → Nat} (hq : q ≤ 2) (hd : ∀ j, j < k → DatA n K A B M j) (hm : ∀ j, j < q → DatM n wr wm j) {c : Nat} (h : okC k q c) : mnC M wm c < 60 := by
  unfold mnC
  rcases h with h | h
  · rw [if_pos (by omega)]
    exact (hm c h).2
  · rw [if_neg (by omega)]
    exact (hd (c - 10) (by omega)).2.2.1
theorem e_min {k q : Nat} {M wm : Nat → Nat} {X : am_Mu} (hk : k ≤ 14) (hq : q ≤ 2) (h18 : ∀ j, j < k → X 18 j = nI (M j)) (h24 : ∀ j, j < q → X 24 j = nI (wm j)) {c : Nat} (h : okC k q c) : evMin X (nI c) = nI (mnC M wm c) := by
  unfold evMin mnC
  rcases h with h | h
  · rw [if_pos (show nI c < 10 from (nI_lt_iff (b := 10) (by omega) (by omega)).mpr (by omega)), nI_clamp (by omega), h24 c h, if_pos (by omega)]
  · rw [if_neg (by show ¬ _ < nI 10; rw [nI_lt_iff (by omega) (by omega)]; omega), show nI c - 10 = nI (c - 10) from nI_sub (b := 10) h.1, nI_clamp (by omega), h18 _ (by omega), if_neg (by omega)]
theorem nI_lt60 {m : Nat} (h : m < 60) : 0 ≤ nI m ∧ nI m ≤ 9000 ∧ nI m < 1440000 := ⟨nI_pos' (by omega), (nI_le_iff (b := 9000) (by omega) (by omega)).mpr (by omega), (nI_lt_iff (b := 1440000) (by omega) (by omega)).mpr (by omega)⟩
/-- one more event is placed, behind its row -/
theorem s_place {n k q k' q' e : Nat} {K A : Nat → Nat} {B : Nat → Option Nat} {M wr wm : Nat → Nat} {μ X : am_Mu} (hk : k' ≤ 14) (hq : q' ≤ 2) (h1 : X 13 13 = nI (k + q)) (h2 : OrdS k q M wm (X 26)) (hN : k' + q' = k + q + 1) (he : e < 24) (hok : ∀ c, okC k' q' c ↔ okC k q c ∨ c = e) (hne : ¬ okC k q e) (hkk : k ≤ k') (hqq : q ≤ q') (hd : ∀ j, j < k' → DatA n K A B M j) (hm : ∀ j, j < q' → DatM n wr wm j) (h18 : ∀ j, j < k' → X 18 j = nI (M j)) (h24 : ∀ j, j < q' → X 24 j = nI (wm j)) : ∃ ν, fLedger_place (nI e) X = some ν ∧ (∀ a, ¬ a = 26 → ¬ a = 13 → ν a = X a) ∧ (∀ j, ¬ j = 13 → ν 13 j = X 13 j) ∧ ν 13 13 = nI (k' + q') ∧ OrdS k' q' M wm (ν 26) := by
  have em : ∀ c, okC k' q' c → evMin X (nI c) = nI (mnC M wm c) := fun c hc => e_min hk hq h18 h24 hc
  have gd : ∀ c, okC k' q' c → evGd X (nI c) := by
    intro c hc
    have hlt := okC_lt hc hk hq
    have hml := mnC_lt hq hd hm hc
    refine ⟨⟨nI_pos' (by omega), (nI_lt_iff (b := 210) (by omega) (by omega)).mpr (by omega)⟩, ?_, ?_⟩
    · rw [em c hc]; exact (nI_lt60 hml).1
    · rw [em c hc]; exact (nI_lt60 hml).2.2
  have oke : okC k' q' e := (hok e).mpr (Or.inr rfl)
  obtain ⟨c, c1, c2, c3⟩ := id h2
  obtain ⟨p, ν, P, x1, x2, x3, x4, x5⟩ := x_place (μ := X) (e := nI e) (n := k + q) h1 (by omega) (gd e oke) (fun j hj => by rw [(c1 j hj).1]; exact gd _ ((hok _).mpr (Or.inl (c1 j hj).2)))
  refine ⟨ν, x1, x2, x3, by rw [x4, hN], ?_⟩
  have key : ∀ c, okC k q c → (aheadX X (nI e) (nI c) ↔ kyC M wm e < kyC M wm c) := by
    intro c hc
    have hc' := (hok c).mpr (Or.inl hc)
    exact ahead_ky (em e oke) (em c hc') (mnC_lt hq hd hm oke) (mnC_lt hq hd hm hc') he (okC_lt hc' hk hq)
  refine ord_ins h2 (by omega) (by omega) he hN hok hne P.1 ?_ ?_ x5
  · intro j j1 j2 d hdj hdo
    have := P.2.1 j j1 j2
    dsimp only at this
    rw [hdj] at this
    exact (key d hdo).mp this
  · intro hp d hdj hdo hlt
    have := P.2.2 hp
    dsimp only at this
    rw [hdj] at this
    exact this ((key d hdo).mpr hlt)
theorem s_act {n k q : Nat} {K A : Nat → Nat} {B : Nat → Option Nat} {M wr wm : Nat → Nat} {μ : am_Mu} (h : CSt n k q K A B M wr wm μ) (hn : n ≤ 20) (hk : k < 14) (hq : q ≤ 2) (hd : ∀ j, j < k + 1 → DatA n K A B M j) (hm : ∀ j, j < q → DatM n wr wm j) : ∃ μ', fB_act (nI (K k)) (nI (A k)) (yI (B k)) (nI (M k)) 1 μ = some (nI k, μ') ∧ CSt n (k + 1) q K A B M wr wm μ' ∧ ∀ a, 52 < a → μ' a = μ a := by
  obtain ⟨⟨b1, b2, b3, b4⟩, ⟨a1, a2⟩, ⟨m1, m2⟩, c1, c2⟩ := h
  obtain ⟨d1, d2, d3, d4⟩ := hd k (by omega)
  have hidx : (μ 13 15).toNatClampNeg = k := by rw [a1, nI_clamp (by omega)]
  have hv : μ 13 15 < 200 ∧ actV (nI (K k)) (nI (A k)) (yI (B k)) (nI (M k)) (μ 0 11) (μ 13 14) := by
    rw [a1, b1, b3]
    refine ⟨(nI_lt_iff (b := 200) (by omega) (by omega)).mpr (by omega), ⟨(nI_lt60 d3).1, (nI_lt60 d3).2.1⟩, ⟨nI_pos' (by omega), (nI_lt_iff (by omega) (by omega)).mpr d2⟩, nI_pos' (by omega), (nI_le_iff (b := 3) (by omega) (by omega)).mpr (by omega), ?_⟩
    rcases d4 with ⟨e1, b, e2, e3, e4⟩ | ⟨e1, e2⟩
    · rw [e2]
      exact Or.inl ⟨(nI_lt_iff (b := 2) (by omega) (by omega)).mpr e1, nI_pos' (by omega), (nI_lt_iff (by omega) (by omega)).mpr e3, fun z => e4 ((nI_inj (by omega) (by omega)).mp z)⟩
    · rw [e2]
      exact Or.inr ⟨(nI_le_iff (a := 2) (by omega) (by omega)).mpr (by omega), rfl⟩
  have e10 : (10 : Int32) + μ 13 15 = nI (10 + k) := by rw [a1]; exact nI_plus 10 k
  generalize hX : Xa (nI (K k)) (nI (A k)) (yI (B k)) (nI (M k)) 1 μ = X
  have X13 : ∀ j, X 13 j = μ 13 j := by intro j; rw [← hX]; simp [upa]
  have X26 : X 26 = μ 26 := by funext j; rw [← hX]; simp [upa]
  have x15 : ∀ j, X 15 j = if j = k then nI (K k) else μ 15 j := by intro j; rw [← hX]; simp [upa, hidx]
  have x16 : ∀ j, X 16 j = if j = k then nI (A k) else μ 16 j := by intro j; rw [← hX]; simp [upa, hidx]
  have x17 : ∀ j, X 17 j = if j = k then yI (B k) else μ 17 j := by intro j; rw [← hX]; simp [upa, hidx]
  have x18 : ∀ j, X 18 j = if j = k then nI (M k) else μ 18 j := by intro j; rw [← hX]; simp [upa, hidx]
  have x19 : ∀ j, X 19 j = if j = k then 1 else μ 19 j := by intro j; rw [← hX]; simp [upa, hidx]
  have x20 : ∀ j, X 20 j = if j = k then 9000 else μ 20 j := by intro j; rw [← hX]; simp [upa, hidx, b1]
  have x21 : ∀ j, X 21 j = if j = k then -1 else μ 21 j := by intro j; rw [← hX]; simp [upa, hidx]
  have xo : ∀ a, ¬ a = 15 → ¬ a = 16 → ¬ a = 17 → ¬ a = 18 → ¬ a = 19 → ¬ a = 20 → ¬ a = 21 → X a = μ a := by
    intro a q1 q2 q3 q4 q5 q6 q7
    rw [← hX]
    unfold Xa
    rw [up_row q7, up_row q6, up_row q5, up_row q4, up_row q3, up_row q2, up_row q1]
  obtain ⟨ν, p1, p2, p3, p4, p5⟩ := s_place (n := n) (k := k) (q := q) (k' := k + 1) (q' := q) (e := 10 + k) (K := K) (A := A) (B := B) (M := M) (wr := wr) (wm := wm) (μ := μ) (X := X) (by omega) hq (by rw [X13]; exact c1) (by rw [X26]; exact c2) (by omega) (by omega) (by unfold okC; omega) (by unfold okC; omega) (by omega) (by omega) hd hm (by
    intro j hj
    rw [x18]
    by_cases hjk : j = k
    · rw [if_pos hjk, hjk]
    · rw [if_neg hjk]; exact (a2 j (by omega)).2.2.2.1) (by
    intro j hj
    rw [xo 24 (by omega) (by omega) (by omega) (by omega) (by omega) (by omega) (by omega)]
    exact (m2 j hj).2.2.1)
  have y15 : ν 13 15 = nI k := by rw [p3 15 (by omega), X13, a1]
  refine ⟨am_up ν 13 15 (nI (k + 1)), ?_, ⟨⟨?_, ?_, ?_, ?_⟩, ⟨?_, ?_⟩, ⟨?_, ?_⟩, ?_, ?_⟩, ?_⟩
  · rw [x_act (by rw [b1]; decide) (by rw [a1]; exact nI_pos' (by omega)) (by rw [a1]; exact (nI_le_iff (b := 200) (by omega) (by omega)).mpr (by omega)), if_pos hv, e10, hX, p1, Option.bind_some, y15, show nI k + 1 = nI (k + 1) from nI_plus _ 1, show nI (k + 1) - 1 = nI k from nI_sub (b := 1) (by omega)]
  · rw [up_row (by omega), p2 0 (by omega) (by omega), xo 0 (by omega) (by omega) (by omega) (by omega) (by omega) (by omega) (by omega)]; exact b1
  · exact b2.cong (fun a h1 h2 => by rw [up_row (by omega), p2 a (by omega) (by omega), xo a (by omega) (by omega) (by omega) (by omega) (by omega) (by omega) (by omega)])
  · rw [up_at, if_neg (by omega), p3 14 (by omega), X13]; exact b3
  · intro t ht
    rw [up_row (by omega), p2 14 (by omega) (by omega), xo 14 (by omega) (by omega) (by omega) (by omega) (by omega) (by omega) (by omega)]; exact b4 t ht
  · rw [up_eq]
  · intro j hj
    have r : ∀ a, 14 < a → a < 22 → am_up ν 13 15 (nI (k + 1)) a = X a := fun a h1 h2 => by rw [up_row (by omega), p2 a (by omega) (by omega)]
    rw [r 15 (by omega) (by omega), r 16 (by omega) (by omega), r 17 (by omega) (by omega), r 18 (by omega) (by omega), r 19 (by omega) (by omega), r 20 (by omega) (by omega), r 21 (by omega) (by omega), x15, x16, x17, x18, x19, x20, x21]
    by_cases hjk : j = k
    · simp only [if_pos hjk]
      subst hjk
      simp
    · simp only [if_neg hjk]
      exact a2 j (by omega)
  · rw [up_at, if_neg (by omega), p3 16 (by omega), X13]; exact m1
  · intro j hj
    have r : ∀ a, 21 < a → a < 26 → am_up ν 13 15 (nI (k + 1)) a = μ a := fun a h1 h2 => by rw [up_row (by omega), p2 a (by omega) (by omega), xo a (by omega) (by omega) (by omega) (by omega) (by omega) (by omega) (by omega)]
    rw [r 22 (by omega) (by omega), r 23 (by omega) (by omega), r 24 (by omega) (by omega), r 25 (by omega) (by omega)]
    exact m2 j hj
  · rw [up_at, if_neg (by omega)]; exact p4
  · rw [up_row (by omega)]; exact p5
  · intro a ha
    rw [up_row (by omega), p2 a (by omega) (by omega), xo a (by omega) (by omega) (by omega) (by omega) (by omega) (by omega) (by omega)]
theorem s_mis {n k q : Nat} {K A : Nat → Nat} {B : Nat → Option Nat} {M wr wm : Nat → Nat} {μ : am_Mu} (h : CSt n k q K A B M wr wm μ) (hn : n ≤ 20) (hk : k ≤ 14) (hq : q < 2) (hd : ∀ j, j < k → DatA n K A B M j) (hm : ∀ j, j < q + 1 → DatM n wr wm j) : ∃ μ', fB_mistake (nI (wr q)) 0 (nI (wm q)) μ = some (nI q, μ') ∧ CSt n k (q + 1) K A B M wr wm μ' ∧ ∀ a, 52 < a → μ' a = μ a := by
  obtain ⟨⟨b1, b2, b3, b4⟩, ⟨a1, a2⟩, ⟨m1, m2⟩, c1, c2⟩ := h
  obtain ⟨d1, d2⟩ := hm q (by omega)
  have hidx : (μ 13 16).toNatClampNeg = q := by rw [m1, nI_clamp (by omega)]
  have hv : μ 13 16 < 10 ∧ misV (nI (wr q)) 0 (nI (wm q)) (μ 0 11) (μ 13 14) := by
    rw [m1, b1, b3]
    exact ⟨(nI_lt_iff (b := 10) (by omega) (by omega)).mpr (by omega), ⟨(nI_lt60 d2).1, (nI_lt60 d2).2.1⟩, ⟨nI_pos' (by omega), (nI_lt_iff (by omega) (by omega)).mpr d1⟩, by decide, by decide⟩
  generalize hX : Xm (nI (wr q)) 0 (nI (wm q)) μ = X
  have X13 : ∀ j, X 13 j = μ 13 j := by intro j; rw [← hX]; simp [upa]
  have X26 : X 26 = μ 26 := by funext j; rw [← hX]; simp [upa]
  have x22 : ∀ j, X 22 j = if j = q then nI (wr q) else μ 22 j := by intro j; rw [← hX]; simp [upa, hidx]
  have x23 : ∀ j, X 23 j = if j = q then 0 else μ 23 j := by intro j; rw [← hX]; simp [upa, hidx]
  have x24 : ∀ j, X 24 j = if j = q then nI (wm q) else μ 24 j := by intro j; rw [← hX]; simp [upa, hidx]
  have x25 : ∀ j, X 25 j = if j = q then 9000 else μ 25 j := by intro j; rw [← hX]; simp [upa, hidx, b1]
  have xo : ∀ a, ¬ a = 22 → ¬ a = 23 → ¬ a = 24 → ¬ a = 25 → X a = μ a := by
    intro a q1 q2 q3 q4
    rw [← hX]
    unfold Xm
    rw [up_row q4, up_row q3, up_row q2, up_row q1]
  obtain ⟨ν, p1, p2, p3, p4, p5⟩ := s_place (n := n) (k := k) (q := q) (k' := k) (q' := q + 1) (e := q) (K := K) (A := A) (B := B) (M := M) (wr := wr) (wm := wm) (μ := μ) (X := X) hk (by omega) (by rw [X13]; exact c1) (by rw [X26]; exact c2) (by omega) (by omega) (by unfold okC; omega) (by unfold okC; omega) (by omega) (by omega) hd hm (by
    intro j hj
    rw [xo 18 (by omega) (by omega) (by omega) (by omega)]
    exact (a2 j hj).2.2.2.1) (by
    intro j hj
    rw [x24]
    by_cases hjk : j = q
    · rw [if_pos hjk, hjk]
    · rw [if_neg hjk]; exact (m2 j (by omega)).2.2.1)
  have y16 : ν 13 16 = nI q := by rw [p3 16 (by omega), X13, m1]
  refine ⟨am_up ν 13 16 (nI (q + 1)), ?_, ⟨⟨?_, ?_, ?_, ?_⟩, ⟨?_, ?_⟩, ⟨?_, ?_⟩, ?_, ?_⟩, ?_⟩
  · rw [x_mistake (by rw [b1]; decide) (by rw [m1]; exact nI_pos' (by omega)) (by rw [m1]; exact (nI_le_iff (b := 10) (by omega) (by omega)).mpr (by omega)), if_pos hv, hX, m1, p1, Option.bind_some, y16, show nI q + 1 = nI (q + 1) from nI_plus _ 1, show nI (q + 1) - 1 = nI q from nI_sub (b := 1) (by omega)]
  · rw [up_row (by omega), p2 0 (by omega) (by omega), xo 0 (by omega) (by omega) (by omega) (by omega)]; exact b1
  · exact b2.cong (fun a h1 h2 => by rw [up_row (by omega), p2 a (by omega) (by omega), xo a (by omega) (by omega) (by omega) (by omega)])
  · rw [up_at, if_neg (by omega), p3 14 (by omega), X13]; exact b3
  · intro t ht
    rw [up_row (by omega), p2 14 (by omega) (by omega), xo 14 (by omega) (by omega) (by omega) (by omega)]; exact b4 t ht
  · rw [up_at, if_neg (by omega), p3 15 (by omega), X13]; exact a1
  · intro j hj
    have r : ∀ a, 14 < a → a < 22 → am_up ν 13 16 (nI (q + 1)) a = μ a := fun a h1 h2 => by rw [up_row (by omega), p2 a (by omega) (by omega), xo a (by omega) (by omega) (by omega) (by omega)]
    rw [r 15 (by omega) (by omega), r 16 (by omega) (by omega), r 17 (by omega) (by omega), r 18 (by omega) (by omega), r 19 (by omega) (by omega), r 20 (by omega) (by omega), r 21 (by omega) (by omega)]
    exact a2 j hj
  · rw [up_eq]
  · intro j hj
    have r : ∀ a, 21 < a → a < 26 → am_up ν 13 16 (nI (q + 1)) a = X a := fun a h1 h2 => by rw [up_row (by omega), p2 a (by omega) (by omega)]
    rw [r 22 (by omega) (by omega), r 23 (by omega) (by omega), r 24 (by omega) (by omega), r 25 (by omega) (by omega), x22, x23, x24, x25]
    by_cases hjk : j = q
    · simp only [if_pos hjk]
      subst hjk
      simp
    · simp only [if_neg hjk]
      exact m2 j (by omega)
  · rw [up_at, if_neg (by omega)]; exact p4
  · rw [up_row (by omega)]; exact p5
  · intro a ha
    rw [up_row (by omega), p2 a (by omega) (by omega), xo a (by omega) (by omega) (by omega) (by omega)]
/-- a thing -/
theorem s_thing {μ : am_Mu} {t : Nat} (ht : t < 20) (h : Bas t μ) : ∃ μ', fB_thing 0 μ = some (nI t, μ') ∧ Bas (t + 1) μ' ∧ (∀ a, ¬ a = 13 → ¬ a = 14 → μ' a = μ a) ∧ ∀ j, ¬ j = 14 → μ' 13 j = μ 13 j := by
  obtain ⟨b1, b2, b3, b4⟩ := h
  refine ⟨am_up (am_up μ 14 t 0) 13 14 (nI (t + 1)), ?_, ⟨?_, ?_, ?_, ?_⟩, ?_, ?_⟩
  · unfold fB_thing fLedger_addThing
    rw [b3, if_neg (by show ¬ nI 20 ≤ _; rw [nI_le_iff (by omega) (by omega)]; omega), l_isIn, Option.bind_some, b2i_t (by decide)]
    dsimp only
    rw [if_pos (by decide), b3, inb_n (by omega) (by omega), cond_true, nI_clamp (by omega), show nI t + 1 = nI (t + 1) from nI_plus _ 1, show nI (t + 1) - 1 = nI t from nI_sub (b := 1) (by omega), Option.bind_some]
  · rw [up_row (by omega), up_row (by omega)]; exact b1
  · exact b2.cong (fun a h1 h2 => by rw [up_row (by omega), up_row (by omega)])
  · rw [up_eq]
  · intro j hj
    rw [up_row (by omega), up_at]
    by_cases hjt : j = t
    · rw [if_pos hjt]
    · rw [if_neg hjt]; exact b4 j (by omega)
  · intro a h1 h2
    rw [up_row h1, up_row h2]
  · intro j hj
    rw [up_at, if_neg hj, up_row (by omega)]
