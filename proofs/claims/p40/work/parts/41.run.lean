/-! E: THE RUN OF ALL THAT HAPPENED, in bits -/
def OrdC (k q : Nat) (M wm c : Nat → Nat) (x : Nat → Int32) : Prop := (∀ p, p < k + q → x p = nI (c p) ∧ okC k q (c p)) ∧ (∀ p p', p < p' → p' < k + q → kyC M wm (c p) < kyC M wm (c p')) ∧ ∀ e, okC k q e → ∃ p, p < k + q ∧ c p = e
/-- the state behind all acts and mistakes -/
def Cs (n : Nat) (K A : Nat → Nat) (B : Nat → Option Nat) (M wr wm c : Nat → Nat) (μ : am_Mu) : Prop := Bas n μ ∧ ActR 14 K A B M μ ∧ MisR 2 wr wm μ ∧ μ 13 13 = nI 16 ∧ OrdC 14 2 M wm c (μ 26)
def Dat (n : Nat) (K A : Nat → Nat) (B : Nat → Option Nat) (M wr wm : Nat → Nat) : Prop := 2 ≤ n ∧ n ≤ 6 ∧ (∀ j, DatA n K A B M j) ∧ ∀ j, DatM n wr wm j
def rnS (st : Nat → (Nat → Nat) → Nat → Nat) (c : Nat → Nat) (C : Nat → Bool) : Nat → Nat → Nat
  | 0 => fun _ => 0
  | k + 1 => if C k = true then st (c k) (rnS st c C k) else rnS st c C k
def stB (K A : Nat → Nat) (B : Nat → Option Nat) (wr : Nat → Nat) (e : Nat) (w : Nat → Nat) : Nat → Nat := if e < 10 then updN w (wr e) (set1 (w (wr e))) else goB (K (e - 10)) (A (e - 10)) (B (e - 10)) w
def st1 (wr : Nat → Nat) (e : Nat) (w : Nat → Nat) : Nat → Nat := if e < 10 then updN w (wr e) (set1 (w (wr e))) else w
def stS (s : Nat) (K A : Nat → Nat) (B : Nat → Option Nat) (wr : Nat → Nat) : Nat → (Nat → Nat) → Nat → Nat := if s = 0 then stB K A B wr else st1 wr
theorem rnS_congr {st : Nat → (Nat → Nat) → Nat → Nat} {c : Nat → Nat} {C D : Nat → Bool} : ∀ m, (∀ k, k < m → C k = D k) → rnS st c C m = rnS st c D m := by
  intro m
  induction m with
  | zero => intro h; rfl
  | succ m ih =>
    intro h
    rw [rnS, rnS, h m (by omega), ih (fun k hk => h k (by omega))]
theorem rnS_stop {st : Nat → (Nat → Nat) → Nat → Nat} {c : Nat → Nat} {C : Nat → Bool} {p : Nat} : ∀ j, (∀ k, p ≤ k → k < p + j → C k = false) → rnS st c C (p + j) = rnS st c C p := by
  intro j
  induction j with
  | zero => intro h; rfl
  | succ j ih =>
    intro h
    rw [← Nat.add_assoc, rnS, if_neg (by rw [h (p + j) (by omega) (by omega)]; decide)]
    exact ih (fun k h1 h2 => h k h1 (by omega))
theorem rnS_pre {st : Nat → (Nat → Nat) → Nat → Nat} {c : Nat → Nat} {C E : Nat → Bool} {p m : Nat} (hp : p ≤ m) (h1 : ∀ k, k < p → C k = E k) (h2 : ∀ k, p ≤ k → k < m → C k = false) : rnS st c C m = rnS st c E p := by
  obtain ⟨j, rfl⟩ : ∃ j, m = p + j := ⟨m - p, by omega⟩
  rw [rnS_stop j h2]
  exact rnS_congr p h1
theorem rnS_none {st : Nat → (Nat → Nat) → Nat → Nat} {c : Nat → Nat} {C : Nat → Bool} {m : Nat} (h : ∀ k, k < m → C k = false) : rnS st c C m = fun _ => 0 := by
  have := rnS_pre (st := st) (c := c) (C := C) (E := C) (p := 0) (m := m) (by omega) (fun k hk => absurd hk (by omega)) (fun k _ hk => h k hk)
  rw [this]
  rfl
section
variable {n : Nat} {K A : Nat → Nat} {B : Nat → Option Nat} {M wr wm c : Nat → Nat} {μ : am_Mu}
theorem cs_of (h : CSt n 14 2 K A B M wr wm μ) : ∃ c, Cs n K A B M wr wm c μ := by
  obtain ⟨h1, h2, h3, h4, c, h5⟩ := h
  exact ⟨c, h1, h2, h3, h4, h5⟩
theorem Cs.cong {ν : am_Mu} (h : Cs n K A B M wr wm c μ) (e : ∀ a, a ≤ 52 → ν a = μ a) : Cs n K A B M wr wm c ν := by
  obtain ⟨⟨b1, b2, b3, b4⟩, ⟨a1, a2⟩, ⟨m1, m2⟩, c1, c2⟩ := h
  refine ⟨⟨by rw [e 0 (by omega)]; exact b1, b2.cong (fun a _ h2 => e a (by omega)), by rw [e 13 (by omega)]; exact b3, by rw [e 14 (by omega)]; exact b4⟩, ⟨by rw [e 13 (by omega)]; exact a1, ?_⟩, ⟨by rw [e 13 (by omega)]; exact m1, ?_⟩, by rw [e 13 (by omega)]; exact c1, by rw [e 26 (by omega)]; exact c2⟩
  · rw [e 15 (by omega), e 16 (by omega), e 17 (by omega), e 18 (by omega), e 19 (by omega), e 20 (by omega), e 21 (by omega)]
    exact a2
  · rw [e 22 (by omega), e 23 (by omega), e 24 (by omega), e 25 (by omega)]
    exact m2
theorem cs_nth (hD : Dat n K A B M wr wm) (h : Cs n K A B M wr wm c μ) : nTh μ = n ∧ nEv μ = 16 ∧ (μ 13 15).toNatClampNeg = 14 ∧ (μ 13 16).toNatClampNeg = 2 := by
  have hn := hD.2.1
  unfold nTh nEv
  rw [h.1.2.2.1, h.2.2.2.1, h.2.1.1, h.2.2.1.1]
  exact ⟨nI_clamp (by omega), nI_clamp (by omega), nI_clamp (by omega), nI_clamp (by omega)⟩
theorem cs_mn (hD : Dat n K A B M wr wm) (h : Cs n K A B M wr wm c μ) {k : Nat} (hk : k < 16) : μ 26 k = nI (c k) ∧ okC 14 2 (c k) ∧ c k < 24 ∧ mnC M wm (c k) < 60 ∧ evMin μ (μ 26 k) = nI (mnC M wm (c k)) := by
  obtain ⟨h1, h2⟩ := h.2.2.2.2.1 k hk
  refine ⟨h1, h2, okC_lt h2 (by omega) (by omega), mnC_lt (by omega) (fun j _ => hD.2.2.1 j) (fun j _ => hD.2.2.2 j) h2, ?_⟩
  rw [h1]
  exact e_min (by omega) (by omega) (fun j hj => (h.2.1.2 j hj).2.2.2.1) (fun j hj => (h.2.2.1.2 j hj).2.2.1) h2
theorem cs_g4 (hD : Dat n K A B M wr wm) (h : Cs n K A B M wr wm c μ) : G4 μ := by
  obtain ⟨e1, e2, e3, e4⟩ := cs_nth hD h
  have hmn := fun k hk => cs_mn hD h (k := k) hk
  obtain ⟨⟨b1, b2, b3, b4⟩, ⟨a1, a2⟩, ⟨m1, m2⟩, c1, c2, c3, c4⟩ := id h
  obtain ⟨n2, n6, dA, dM⟩ := hD
  unfold nTh at e1
  unfold nEv at e2
  refine ⟨⟨by rw [b3]; exact nI_pos' (by omega), by rw [b3]; exact (nI_le_iff (b := 20) (by omega) (by omega)).mpr (by omega), trivial, ?_⟩, ⟨by rw [a1]; decide, by rw [a1]; decide, trivial, ?_⟩, ⟨by rw [m1]; decide, by rw [m1]; decide, trivial, ?_⟩, by rw [c1, a1, m1]; decide, trivial, ?_, ?_⟩
  · intro j hj
    rw [b4 j (by omega)]
    exact ⟨trivial, by decide, by decide⟩
  · intro j hj
    obtain ⟨q1, q2, q3, q4, q5, q6, q7⟩ := a2 j (by omega)
    obtain ⟨d1, d2, d3, d4⟩ := dA j
    rw [q1, q2, q3, q4, q5, b3]
    refine ⟨⟨trivial, nI_pos' (by omega), (nI_lt_iff (b := 4) (by omega) (by omega)).mpr (by omega)⟩, ⟨trivial, nI_pos' (by omega), (nI_lt_iff (by omega) (by omega)).mpr d2⟩, ⟨trivial, ?_⟩, ⟨trivial, (nI_lt60 d3).1, (nI_lt60 d3).2.2⟩, ⟨trivial, Or.inr rfl⟩, trivial, trivial⟩
    rcases d4 with ⟨z1, b, z2, z3, z4⟩ | ⟨z1, z2⟩
    · rw [z2]
      exact Or.inl ⟨(nI_lt_iff (b := 2) (by omega) (by omega)).mpr z1, nI_pos' (by omega), (nI_lt_iff (by omega) (by omega)).mpr z3, fun z => z4 ((nI_inj (by omega) (by omega)).mp z)⟩
    · rw [z2]
      exact Or.inr ⟨(nI_le_iff (a := 2) (by omega) (by omega)).mpr (by omega), rfl⟩
  · intro j hj
    obtain ⟨q1, q2, q3, q4⟩ := m2 j (by omega)
    obtain ⟨d1, d2⟩ := dM j
    rw [q1, q2, q3, b3]
    exact ⟨⟨trivial, nI_pos' (by omega), (nI_lt_iff (by omega) (by omega)).mpr d1⟩, ⟨trivial, by decide, by decide⟩, ⟨trivial, (nI_lt60 d2).1, (nI_lt60 d2).2.2⟩, trivial⟩
  · intro k hk
    obtain ⟨p1, p2, p3, -, -⟩ := hmn k (by omega)
    unfold EvRel
    rw [p1, m1, a1]
    rcases p2 with p2 | p2
    · exact Or.inl ⟨nI_pos' (by omega), (nI_lt_iff (by omega) (by omega)).mpr p2⟩
    · exact Or.inr ⟨(nI_le_iff (a := 10) (by omega) (by omega)).mpr p2.1, by rw [show (10 : Int32) + nI 14 = nI 24 from rfl]; exact (nI_lt_iff (by omega) (by omega)).mpr (by omega)⟩
  · intro k l hkl hl
    obtain ⟨-, -, p3, p4, p5⟩ := hmn k (by omega)
    obtain ⟨-, -, r3, r4, r5⟩ := hmn l (by omega)
    have := c3 k l hkl (by omega)
    rw [p5, r5]
    unfold kyC at this
    exact (nI_le_iff (by omega) (by omega)).mpr (by omega)
theorem cs_kn (h : Cs n K A B M wr wm c μ) {e : Nat} (he : okC 14 2 e) (t : Int32) : kn μ (nI e) t = decide ((9000 : Int32) ≤ t) := by
  unfold kn
  rcases he with he | he
  · rw [if_pos (show nI e < 10 from (nI_lt_iff (b := 10) (by omega) (by omega)).mpr (by omega)), nI_clamp (by omega), (h.2.2.1.2 e he).2.2.2]
  · rw [if_neg (by show ¬ _ < nI 10; rw [nI_lt_iff (by omega) (by omega)]; omega), show nI e - 10 = nI (e - 10) from nI_sub (b := 10) he.1, nI_clamp (by omega)]
    obtain ⟨-, -, -, -, -, q6, q7⟩ := h.2.1.2 (e - 10) (by omega)
    rw [q6, q7]
    simp
theorem cs_cnd (hD : Dat n K A B M wr wm) (h : Cs n K A B M wr wm c μ) {v : Nat} (hv : v < 2 ^ 31) {k : Nat} (hk : k < 16) : cnd μ (nI v) 9000 k = decide (mnC M wm (c k) ≤ v) := by
  obtain ⟨p1, p2, p3, p4, p5⟩ := cs_mn hD h hk
  unfold cnd
  rw [p5, p1, cs_kn h p2]
  have : (nI (mnC M wm (c k)) ≤ nI v) ↔ mnC M wm (c k) ≤ v := nI_le_iff (by omega) hv
  simp [this]
theorem cs_cnd9 (hD : Dat n K A B M wr wm) (h : Cs n K A B M wr wm c μ) (v : Int32) {k : Nat} (hk : k < 16) : cnd μ v 8999 k = false := by
  obtain ⟨p1, p2, p3, p4, p5⟩ := cs_mn hD h hk
  unfold cnd
  rw [p5, p1, cs_kn h p2]
  simp
theorem rel_w0 (hD : Dat n K A B M wr wm) (h : Cs n K A B M wr wm c μ) : Rel n (wd0 μ) (fun _ => 0) := by
  intro t ht
  refine ⟨show 0 < 4 by decide, fun j hj => ?_⟩
  unfold wd0
  dsimp only
  rw [show (8 * t + j) / 8 = t by omega, show (8 * t + j) % 8 = j by omega, h.1.2.2.2 t ht]
  have : ∀ j : Fin 8, (if hasB (0 : Int32).toNatClampNeg j.val then (2 : Int32) else 0) = bv 0 j.val := by decide +kernel
  exact this ⟨j, hj⟩
theorem acS_nil {kd m : Int32} {a : Nat} {b : Option Nat} {W : Wd} : acS [] kd a b m 1 W = W := by
  rw [acS_sure]
  unfold acR
  cases b <;> rfl
theorem rel_ev (hD : Dat n K A B M wr wm) (h : Cs n K A B M wr wm c μ) (s : Nat) {k : Nat} (hk : k < 16) {W : Wd} {w : Nat → Nat} (hW : Rel n W w) : Rel n (Pv μ s k W) (stS s K A B wr (c k) w) := by
  obtain ⟨p1, p2, p3, p4, p5⟩ := cs_mn hD h hk
  obtain ⟨n2, n6, dA, dM⟩ := hD
  show Rel n (evW μ s (μ 26 k) W) _
  rw [p1]
  unfold evW
  rcases p2 with p2 | p2
  · rw [if_pos (show nI (c k) < 10 from (nI_lt_iff (b := 10) (by omega) (by omega)).mpr (by omega)), nI_clamp (by omega)]
    obtain ⟨q1, q2, q3, -⟩ := h.2.2.1.2 (c k) p2
    obtain ⟨d1, -⟩ := dM (c k)
    rw [q1, q2, q3, nI_clamp (by omega)]
    have e : stS s K A B wr (c k) w = updN w (wr (c k)) (set1 (w (wr (c k)))) := by
      unfold stS stB st1
      split
      · dsimp only; rw [if_pos (by omega)]
      · dsimp only; rw [if_pos (by omega)]
    rw [e]
    exact rel_set hW d1
  · rw [if_neg (by show ¬ _ < nI 10; rw [nI_lt_iff (by omega) (by omega)]; omega), show nI (c k) - 10 = nI (c k - 10) from nI_sub (b := 10) p2.1, nI_clamp (by omega)]
    obtain ⟨q1, q2, q3, q4, q5, -, -⟩ := h.2.1.2 (c k - 10) (by omega)
    obtain ⟨d1, d2, d3, d4⟩ := dA (c k - 10)
    rw [q1, q2, q3, q4, q5, nI_clamp (by omega)]
    have ey : yN (yI (B (c k - 10))) = B (c k - 10) := by
      rcases d4 with ⟨z1, b, z2, z3, z4⟩ | ⟨z1, z2⟩
      · rw [z2]
        show yN (nI b) = _
        unfold yN
        rw [if_neg (yI_n (by omega)), nI_clamp (by omega)]
      · rw [z2]
        rfl
    rw [ey]
    unfold rsS stS
    by_cases hs : s = 0
    · rw [if_pos hs, if_pos hs]
      unfold stB
      rw [if_neg (by omega)]
      exact rel_act hW d2 d4
    · rw [if_neg hs, if_neg hs, acS_nil]
      unfold st1
      rw [if_neg (by omega)]
      exact hW
theorem rel_run (hD : Dat n K A B M wr wm) (h : Cs n K A B M wr wm c μ) (s : Nat) (C : Nat → Bool) : ∀ k, k ≤ 16 → Rel n (runW (Pv μ s) C (wd0 μ) k) (rnS (stS s K A B wr) c C k) := by
  intro k
  induction k with
  | zero => intro _; exact rel_w0 hD h
  | succ k ih =>
    intro hk
    rw [runW, rnS]
    split
    · exact rel_ev hD h s (by omega) (ih (by omega))
    · exact ih (by omega)
/-! what is asked, in bits -/
def wiB (s : Nat) (K A : Nat → Nat) (B : Nat → Option Nat) (M wr wm c : Nat → Nat) (v : Nat) : Nat → Nat := rnS (stS s K A B wr) c (fun k => decide (mnC M wm (c k) ≤ v)) 16
def leB (s : Nat) (K A : Nat → Nat) (B : Nat → Option Nat) (M wr wm c : Nat → Nat) (v : Nat) : Nat → Nat := rnS (stS s K A B wr) c (fun k => decide (mnC M wm (c k) ≤ v) && !decide (c k = 0)) 16
theorem rel_wi (hD : Dat n K A B M wr wm) (h : Cs n K A B M wr wm c μ) (s : Nat) {v : Nat} (hv : v < 2 ^ 31) : Rel n (wdA μ (Pv μ s) (nI v) 9000 16) (wiB s K A B M wr wm c v) := by
  have h1 := rel_run hD h s (cnd μ (nI v) 9000) 16 (Nat.le_refl _)
  rw [rnS_congr 16 (fun k hk => cs_cnd hD h hv hk)] at h1
  exact h1
theorem cW_eq (hD : Dat n K A B M wr wm) (h : Cs n K A B M wr wm c μ) {v : Nat} (hv : v < 2 ^ 31) {k : Nat} (hk : k < 16) : cndW μ (nI v) 9000 0 k = (decide (mnC M wm (c k) ≤ v) && !decide (c k = 0)) := by
  obtain ⟨p1, p2, p3, p4, p5⟩ := cs_mn hD h hk
  unfold cndW
  rw [cs_cnd hD h hv hk, p1]
  have : (nI (c k) = nI 0) ↔ c k = 0 := nI_inj (by omega) (by omega)
  simp [this]
theorem rel_le (hD : Dat n K A B M wr wm) (h : Cs n K A B M wr wm c μ) (s : Nat) {v : Nat} (hv : v < 2 ^ 31) : Rel n (wdB μ (Pv μ s) (nI v) 9000 0 16) (leB s K A B M wr wm c v) := by
  have h1 := rel_run hD h s (cndW μ (nI v) 9000 0) 16 (Nat.le_refl _)
  rw [rnS_congr 16 (fun k hk => cW_eq hD h hv hk)] at h1
  exact h1
theorem q_leads (hD : Dat n K A B M wr wm) (h : Cs n K A B M wr wm c μ) {X0 : am_Mu} (hX0 : SB X0 μ) {s t v : Nat} (hs : s < 2) (ht : t < n) (hv : v < 1440000) : ∃ X', fB_leads 0 (nI s) (nI t) (nI v) X0 = some ((if wiB s K A B M wr wm c v t = leB s K A B M wr wm c v t then 0 else 2), X') ∧ SB X' μ := by
  obtain ⟨e1, e2, e3, e4⟩ := cs_nth hD h
  obtain ⟨X', x1, x2⟩ := a_leads h.1.2.1 (cs_g4 hD h) hX0 (i := 0) (s := s) (th := t) (by omega) hs (by omega) (d := nI v) ⟨nI_pos' (by omega), (nI_lt_iff (b := 1440000) (by omega) (by omega)).mpr hv⟩
  refine ⟨X', ?_, x2⟩
  rw [show (0 : Int32) = nI 0 from rfl, x1, h.1.1, e2]
  unfold oth
  rw [odv_bits (rel_wi hD h s (by omega)) (rel_le hD h s (by omega)) ht]
  rfl
theorem q_mark (hD : Dat n K A B M wr wm) (h : Cs n K A B M wr wm c μ) {X0 : am_Mu} (hX0 : SB X0 μ) {t j v : Nat} (ht : t < n) (hj : j < 8) (hv : v < 1440000) : ∃ X', fB_mark 0 (nI t) (nI j) (nI v) 9000 X0 = some (bv (wiB 0 K A B M wr wm c v t) j, X') ∧ SB X' μ := by
  obtain ⟨e1, e2, e3, e4⟩ := cs_nth hD h
  obtain ⟨X', x1, x2⟩ := a_mark h.1.2.1 (cs_g4 hD h) hX0 (s := 0) (th := t) (j := j) (by omega) (by omega) hj (d := nI v) (e := 9000) ⟨nI_pos' (by omega), (nI_lt_iff (b := 1440000) (by omega) (by omega)).mpr hv⟩ (by decide)
  refine ⟨X', ?_, x2⟩
  rw [show (0 : Int32) = nI 0 from rfl, x1, e2]
  have := (rel_wi hD h 0 (v := v) (by omega) t ht).2 j hj
  rw [← this]
theorem q_mark9 (hD : Dat n K A B M wr wm) (h : Cs n K A B M wr wm c μ) {X0 : am_Mu} (hX0 : SB X0 μ) {t j v : Nat} (ht : t < n) (hj : j < 8) (hv : v < 1440000) : ∃ X', fB_mark 0 (nI t) (nI j) (nI v) 8999 X0 = some (0, X') ∧ SB X' μ := by
  obtain ⟨e1, e2, e3, e4⟩ := cs_nth hD h
  obtain ⟨X', x1, x2⟩ := a_mark h.1.2.1 (cs_g4 hD h) hX0 (s := 0) (th := t) (j := j) (by omega) (by omega) hj (d := nI v) (e := 8999) ⟨nI_pos' (by omega), (nI_lt_iff (b := 1440000) (by omega) (by omega)).mpr hv⟩ (by decide)
  refine ⟨X', ?_, x2⟩
  have h1 := rel_run hD h 0 (cnd μ (nI v) 8999) 16 (Nat.le_refl _)
  rw [rnS_none (fun k hk => cs_cnd9 hD h _ hk)] at h1
  have h2 := (h1 t ht).2 j hj
  rw [show (0 : Int32) = nI 0 from rfl, x1, e2, h2]
  have : ∀ j : Fin 8, bv 0 j.val = nI 0 := by decide +kernel
  rw [this ⟨j, hj⟩]
/-! who is reached -/
def wiP (K A : Nat → Nat) (B : Nat → Option Nat) (wr c : Nat → Nat) : Nat → Nat → Nat := rnS (stB K A B wr) c (fun _ => true)
def leP (K A : Nat → Nat) (B : Nat → Option Nat) (wr c : Nat → Nat) : Nat → Nat → Nat := rnS (stB K A B wr) c (fun k => !decide (c k = 0))
def rcB (K A : Nat → Nat) (B : Nat → Option Nat) (wr c : Nat → Nat) : Nat → Nat → Int32
  | 0 => fun _ => -1
  | k + 1 => fun t => if 10 ≤ c k ∧ rcB K A B wr c k t = -1 ∧ ¬ t = wr 0 ∧ ¬ wiP K A B wr c (k + 1) t = leP K A B wr c (k + 1) t then nI (c k - 10) else rcB K A B wr c k t
theorem rc_bits (hD : Dat n K A B M wr wm) (h : Cs n K A B M wr wm c μ) : ∀ k, k ≤ 16 → ∀ t, t < n → rcR μ (Pv μ 0) 9000 9000 0 k t = rcB K A B wr c k t := by
  have hmn := fun k hk => cs_mn hD h (k := k) hk
  have hall : ∀ k, k < 16 → cnd μ 9000 9000 k = true := by
    intro k hk
    have := cs_cnd hD h (v := 9000) (by omega) hk
    obtain ⟨-, -, -, p4, -⟩ := hmn k hk
    rw [show (9000 : Int32) = nI 9000 from rfl]
    rw [show (nI 9000 : Int32) = 9000 from rfl] at this ⊢
    rw [this]
    exact decide_eq_true (by omega)
  intro k
  induction k with
  | zero => intro _ t ht; rfl
  | succ k ih =>
    intro hk t ht
    obtain ⟨p1, p2, p3, p4, p5⟩ := hmn k (by omega)
    have r1 := rel_run hD h 0 (cnd μ 9000 9000) (k + 1) hk
    have r2 := rel_run hD h 0 (cndW μ 9000 9000 0) (k + 1) hk
    rw [rnS_congr (D := fun _ => true) (k + 1) (fun j hj => hall j (by omega))] at r1
    rw [rnS_congr (D := fun k => !decide (c k = 0)) (k + 1) (fun j hj => by
      have := cW_eq hD h (v := 9000) (by omega) (show j < 16 by omega)
      obtain ⟨-, -, -, q4, -⟩ := hmn j (by omega)
      rw [show (nI 9000 : Int32) = 9000 from rfl] at this
      rw [this, decide_eq_true (show mnC M wm (c j) ≤ 9000 by omega), Bool.true_and])] at r2
    have e : oth μ (Pv μ 0) 9000 9000 0 (k + 1) t = if wiP K A B wr c (k + 1) t = leP K A B wr c (k + 1) t then 0 else 2 := odv_bits r1 r2 ht
    rw [rcR, rcB]
    dsimp only
    rw [ih (by omega) t ht, e, p1, (h.2.2.1.2 0 (by omega)).1, hall k (by omega)]
    have c1 : (¬ nI (c k) < 10) ↔ 10 ≤ c k := by
      show (¬ nI (c k) < nI 10) ↔ _
      rw [nI_lt_iff (by omega) (by omega)]
      omega
    have hwr := (hD.2.2.2 0).1
    have hn6 := hD.2.1
    have c2 : (¬ nI t = nI (wr 0)) ↔ ¬ t = wr 0 := by rw [nI_inj (by omega) (by omega)]
    by_cases hx : wiP K A B wr c (k + 1) t = leP K A B wr c (k + 1) t
    · rw [if_pos hx, if_neg (fun z => absurd z.2.2.2.2 (by decide)), if_neg (fun z => z.2.2.2 hx)]
    · rw [if_neg hx]
      by_cases hy : 10 ≤ c k ∧ rcB K A B wr c k t = -1 ∧ ¬ t = wr 0
      · rw [if_pos ⟨rfl, c1.mpr hy.1, hy.2.1, c2.mpr hy.2.2, by decide⟩, if_pos ⟨hy.1, hy.2.1, hy.2.2, hx⟩]
        exact nI_sub (b := 10) hy.1
      · rw [if_neg (fun z => hy ⟨c1.mp z.2.1, z.2.2.1, c2.mp z.2.2.2.1⟩), if_neg (fun z => hy ⟨z.1, z.2.1, z.2.2.1⟩)]
end
