/-! E: the reference reads what the functions of a text say: conditions -/
def ER (x : Nat × Nat) : Prop := 0 < x.1 ∧ x.1 < 7 ∧ x.2 ≤ 240
def QF (Q : am_Mu → Prop) (x : Nat × Nat) : Prop := ∀ ν'' : am_Mu, ν'' 108 29 = nI (1000 * x.1 + x.2) → ER x → Q ν''
def QE (T : Nat → Int32) (e : Nat) (Q : am_Mu → Prop) (p k : Nat) (out : List Int32) : Prop := ∀ ν'' o, RS0 T e ν'' p k o [] out → Q ν''
def wB (T : Nat → Int32) (e : Nat) (Q : am_Mu → Prop) (p k : Nat) (σ out : List Int32) : Prop := ∀ ν, RS T e ν p k σ out → ∀ n12 n31, 300 ≤ n12 + p → 300 ≤ n31 + p → ∃ ν'', fM_condition_31 n31 (fM_condition_12 n12) ν = some ν'' ∧ Q ν''
def wA (T : Nat → Int32) (e : Nat) (Q : am_Mu → Prop) (p k : Nat) (σ out : List Int32) : Prop := ∀ ν, RS T e ν p k σ out → ∀ n12 n31 m, 300 ≤ n12 + p → 300 ≤ n31 + p → σ.length < m → ∃ ν'', (fM_ends_0 m ν).bind (fun q4 => fM_condition_31 n31 (fM_condition_12 n12) q4) = some ν'' ∧ Q ν''
def wP (T : Nat → Int32) (e : Nat) (Q : am_Mu → Prop) (p k : Nat) (σ out : List Int32) : Prop := ∀ ν, RS T e ν p k σ out → ∀ n12 m, 300 ≤ n12 + p → 300 ≤ m + p → ∃ ν'', (fM_piece_0 m ν).bind (fun q3 => (fM_ends q3).bind fun q4 => fM_condition_31 am_F (fM_condition_12 n12) q4) = some ν'' ∧ Q ν''
def PC (T : Nat → Int32) (e : Nat) (Q : am_Mu → Prop) (p k : Nat) (w : List Int32 × List Int32) : Prop := match w.1 with
  | [] => QF Q (1, p)
  | c :: σ => if c = 40 then wA T e Q (p + 1) k σ w.2 else QF Q (1, p)
def PB (T : Nat → Int32) (e : Nat) (Q : am_Mu → Prop) (p k : Nat) (σ out : List Int32) : Prop :=
  if sgT T e p = 41 then PC T e Q p k (wk 1 σ out)
  else if sgT T e p = 38 then wP T e Q (p + 1) k (38 :: (wk 0 σ out).1) (wk 0 σ out).2
  else if sgT T e p = 124 then wP T e Q (p + 1) k (124 :: (wk 1 σ out).1) (wk 1 σ out).2
  else if sgT T e p = 62 ∧ (wk 1 σ out).1 = [] then QE T e Q (p + 1) k (wk 1 σ out).2
  else QF Q (1, p)
def PA (T : Nat → Int32) (e : Nat) (Q : am_Mu → Prop) (p k : Nat) : List Int32 → List Int32 → Prop
  | [], out => PB T e Q p k [] out
  | c :: σ, out => if c = 33 then PA T e Q p k σ (out ++ [stC 1 0 0]) else PB T e Q p k (c :: σ) out
theorem m_is {T : Nat → Int32} {e p : Nat} (c : Int32) (h0 : ¬ c = 0) (h1 : ¬ c = -1) : (hrT T e p = c) = (sgT T e p = c) := propext (hr_eq h0 h1)
/-- behind the loop of a condition -/
theorem m_124 {T : Nat → Int32} {e : Nat} (he : e ≤ 240) {Q : am_Mu → Prop} {p k : Nat} {σ out : List Int32} {ν : am_Mu} (h : RS T e ν p k σ out) (hQ : if sgT T e p = 62 ∧ (wk 1 σ out).1 = [] then QE T e Q (p + 1) k (wk 1 σ out).2 else QF Q (1, p)) : ∃ ν'', fM_condition_124 ν = some ν'' ∧ Q ν'' := by
  obtain ⟨ν1, w1, w2⟩ := m_worksR he (a := 1) h
  have hp := w2.2.1
  have hs := w2.2.2.2.2
  unfold fM_condition_124
  rw [if_pos (by rw [h.1.2.2.1]; decide), w1, Option.bind_some, m_here he w2.1 (by omega), Option.bind_some]
  dsimp only
  have bad : ∃ ν'', fM_condition_153 ν1 = some ν'' ∧ ν'' 108 29 = nI (1000 * 1 + p) := by
    obtain ⟨ν2, f1, f2, -⟩ := m_fails he w2.1 (by omega) (by omega) 1 (by omega)
    unfold fM_condition_153 fM_condition_158
    rw [show (1 : Int32) = nI 1 from rfl, f1, Option.bind_some]
    exact ⟨_, rfl, by simp only [upa]; rw [if_neg (by decide)]; exact f2.1⟩
  have e34 := w2.1.2.2.2.2.2.2.1
  by_cases h62 : sgT T e p = 62
  · rw [if_neg (by rw [m_is 62 (by decide) (by decide)]; simpa using h62)]
    by_cases hn : (wk 1 σ out).1 = []
    · rw [if_pos ⟨h62, hn⟩] at hQ
      rw [if_pos (by rw [e34, hn]; decide)]
      rw [hn] at w2
      unfold fM_condition_158
      exact ⟨_, rfl, hQ _ _ (m_place0 w2.1)⟩
    · rw [if_neg (fun q => hn q.2)] at hQ
      have := List.length_pos_iff.mpr hn
      rw [if_neg (by rw [e34]; show ¬ _ ≤ nI 0; rw [nI_le_iff (by omega) (by omega)]; omega)]
      obtain ⟨ν2, b1, b2⟩ := bad
      exact ⟨ν2, b1, hQ ν2 b2 ⟨Nat.one_pos, by show 1 < 7; omega, by show p ≤ 240; omega⟩⟩
  · rw [if_pos (by rw [m_is 62 (by decide) (by decide)]; exact h62)]
    rw [if_neg (fun q => h62 q.1)] at hQ
    obtain ⟨ν2, b1, b2⟩ := bad
    exact ⟨ν2, b1, hQ ν2 b2 ⟨Nat.one_pos, by show 1 < 7; omega, by show p ≤ 240; omega⟩⟩
theorem wB_of {T : Nat → Int32} {e : Nat} (he : e ≤ 240) {Q : am_Mu → Prop} {p k : Nat} {σ out : List Int32} (hs : σ.length < 40) (hB : PB T e Q p k σ out) : wB T e Q p k σ out := by
  intro ν h n12 n31 hn12 hn31
  have hp := h.2.1
  obtain ⟨n12, rfl⟩ : ∃ k, n12 = k + 1 := ⟨n12 - 1, by omega⟩
  obtain ⟨n31, rfl⟩ : ∃ k, n31 = k + 1 := ⟨n31 - 1, by omega⟩
  have e29 := h.1.2.2.1
  have hh := m_here he h.1 (by omega)
  unfold PB at hB
  rw [fM_condition_31, if_neg (by rw [e29]; decide), hh, Option.bind_some]
  dsimp only
  by_cases h41 : sgT T e p = 41
  · rw [if_pos h41] at hB
    have hlt := sg_lt h41 (by decide)
    rw [if_neg (by rw [m_is 41 (by decide) (by decide)]; simpa using h41)]
    obtain ⟨ν1, w1, w2⟩ := m_worksR he (a := 1) h
    have hs1 := w2.2.2.2.2
    have ht := m_top w2.1 (by omega)
    generalize hg : (wk 1 σ out).1.headD 0 = g at ht
    unfold fM_closes
    rw [w1, Option.bind_some, ht, Option.bind_some]
    dsimp only
    have bad : QF Q (1, p) → ∃ ν'', (((fM_fails 1 ν1).bind fun q5 => some q5).bind fun q4 => (fM_condition_31 n31 (fM_condition_12 (n12 + 1))) q4) = some ν'' ∧ Q ν'' := by
      intro hq
      obtain ⟨ν2, f1, f2, -⟩ := m_fails he w2.1 (by omega) (by omega) 1 (by omega)
      obtain ⟨n31, rfl⟩ : ∃ k, n31 = k + 1 := ⟨n31 - 1, by omega⟩
      rw [show (1 : Int32) = nI 1 from rfl, f1, Option.bind_some, Option.bind_some, d_31 he f2]
      exact ⟨ν2, rfl, hq _ f2.1 ⟨f2.2.1, f2.2.2.1, f2.2.2.2.1⟩⟩
    unfold PC at hB
    cases hw : (wk 1 σ out).1 with
    | nil =>
      rw [hw] at hB hg
      have eg : g = 0 := hg.symm
      rw [if_neg (by rw [eg]; decide)]
      exact bad hB
    | cons c σ' =>
      rw [hw] at hB hg
      dsimp only at hB
      have eg : g = c := hg.symm
      by_cases hc : c = 40
      · rw [if_pos hc] at hB
        rw [if_pos (by rw [eg]; exact hc)]
        rw [hw] at w2
        have hR : RS T e (am_up (am_up (am_up ν1 108 34 (ν1 108 34 - 1)) 108 33 (ν1 108 33 - 1)) 108 27 (ν1 108 27 + 1)) (p + 1) k σ' (wk 1 σ out).2 := by
          refine ⟨m_place1 (m_open0 (m_pop0 w2.1) ?_) ?_, ?_⟩
          · rw [w2.1.2.2.2.2.2.1]
            have : cO (c :: σ') = cO σ' + 1 := by simp [cO, hc]; omega
            rw [this]
            exact nI_sub (a := cO σ' + 1) (b := 1) (by omega)
          · rw [w2.1.1]
            exact nI_plus _ 1
          · obtain ⟨a1, a2, a3, a4⟩ := w2.2
            rw [List.length_cons] at a2 a4
            exact ⟨by omega, by omega, a3, by omega⟩
        obtain ⟨ν'', q1, q2⟩ := hB _ hR (n12 + 1) n31 am_F (by omega) (by omega) (by have := hR.2.2.2.2; unfold am_F; omega)
        refine ⟨ν'', ?_, q2⟩
        rw [← q1]
        unfold fM_ends
        cases fM_ends_0 am_F (am_up (am_up (am_up ν1 108 34 (ν1 108 34 - 1)) 108 33 (ν1 108 33 - 1)) 108 27 (ν1 108 27 + 1)) <;> rfl
      · rw [if_neg hc] at hB
        rw [if_neg (by rw [eg]; exact hc)]
        exact bad hB
  · rw [if_neg h41] at hB
    rw [if_pos (by rw [m_is 41 (by decide) (by decide)]; exact h41)]
    unfold fM_condition_54
    rw [hh, Option.bind_some]
    dsimp only
    have e29' : ¬ 0 < ν 108 29 := by rw [e29]; decide
    have push : ∀ a c, wP T e Q (p + 1) k (c :: (wk a σ out).1) (wk a σ out).2 → ¬ c = 33 → ¬ c = 40 → p < e → ∃ ν'', fM_condition_103 (fM_condition_12 (n12 + 1)) 1 c a ν = some ν'' ∧ Q ν'' := by
      intro a c hP hc33 hc40 hpe
      obtain ⟨ν1, w1, w2⟩ := m_worksR he (a := a) h
      obtain ⟨w3, w4⟩ := wk_cO (a := a) σ out
      obtain ⟨ν2, u1, u2⟩ := m_puts0 w2.1 (by omega) c
      unfold fM_condition_103
      rw [w1, Option.bind_some, u1, Option.bind_some, fM_condition_12, if_neg (by decide)]
      have hR : RS T e (am_up ν2 108 27 (ν2 108 27 + 1)) (p + 1) k (c :: (wk a σ out).1) (wk a σ out).2 := by
        have hcO : cO (c :: (wk a σ out).1) = cO (wk a σ out).1 := by
          simp [cO, hc33, hc40]
        refine ⟨by rw [hcO]; exact m_place0 u2, ?_⟩
        obtain ⟨a1, a2, a3, a4⟩ := w2.2
        refine ⟨by omega, ?_, a3, ?_⟩
        · rw [List.length_cons]; omega
        · rw [List.length_cons]; omega
      rw [if_neg (by rw [hR.1.2.2.1]; decide)]
      exact hP _ hR n12 am_F (by omega) (by unfold am_F; omega)
    by_cases h38 : sgT T e p = 38
    · rw [if_pos h38] at hB
      have hlt := sg_lt h38 (by decide)
      have e38 : hrT T e p = 38 := (hr_eq (by decide) (by decide)).mpr h38
      rw [e38, if_pos rfl]
      unfold fM_condition_71 fM_condition_76
      rw [if_neg e29', if_pos (by decide), if_pos (by decide)]
      exact push 0 38 hB (by decide) (by decide) hlt
    · rw [if_neg h38] at hB
      rw [if_neg (by rw [m_is 38 (by decide) (by decide)]; exact h38)]
      by_cases h124 : sgT T e p = 124
      · rw [if_pos h124] at hB
        have hlt := sg_lt h124 (by decide)
        have e124 : hrT T e p = 124 := (hr_eq (by decide) (by decide)).mpr h124
        rw [e124, if_neg (by decide)]
        unfold fM_condition_71 fM_condition_76
        rw [if_neg e29', if_pos (by decide), if_neg (by decide)]
        exact push 1 124 hB (by decide) (by decide) hlt
      · rw [if_neg h124] at hB
        rw [if_pos (by rw [m_is 124 (by decide) (by decide)]; exact h124)]
        unfold fM_condition_76
        rw [if_neg e29', if_neg (by decide), fM_condition_12, if_pos rfl]
        exact m_124 he h hB
theorem wA_of {T : Nat → Int32} {e : Nat} (he : e ≤ 240) {Q : am_Mu → Prop} {p k : Nat} : ∀ σ out, σ.length < 40 → PA T e Q p k σ out → wA T e Q p k σ out := by
  intro σ
  have stop : ∀ σ out, σ.length < 40 → ¬ σ.headD 0 = 33 → PB T e Q p k σ out → wA T e Q p k σ out := by
    intro σ out hs hd hB ν h n12 n31 m hn12 hn31 hm
    obtain ⟨m, rfl⟩ : ∃ k, m = k + 1 := ⟨m - 1, by omega⟩
    rw [fM_ends_0, m_top h.1 (by omega), Option.bind_some]
    dsimp only
    rw [if_pos hd, Option.bind_some]
    exact wB_of he hs hB ν h n12 n31 hn12 hn31
  induction σ with
  | nil =>
    intro out hs hA
    exact stop [] out hs (by decide) hA
  | cons c σ ih =>
    intro out hs hA
    unfold PA at hA
    by_cases hc : c = 33
    · rw [if_pos hc] at hA
      rw [List.length_cons] at hs
      intro ν h n12 n31 m hn12 hn31 hm
      obtain ⟨m, rfl⟩ : ∃ k, m = k + 1 := ⟨m - 1, by omega⟩
      rw [List.length_cons] at hm
      have h2 := h.2
      obtain ⟨a1, a2, a3, a4⟩ := h.2
      rw [List.length_cons] at a2 a4
      have ht : fM_top ν = some (c, ν) := m_top h.1 (by rw [List.length_cons]; omega)
      rw [fM_ends_0, ht, Option.bind_some]
      dsimp only
      rw [if_neg (by simpa using hc)]
      have h1 : RS0 T e (am_up (am_up ν 108 34 (ν 108 34 - 1)) 108 33 (ν 108 33 - 1)) p k (cO σ) σ out := by
        refine m_open0 (m_pop0 h.1) ?_
        rw [h.1.2.2.2.2.2.1]
        have : cO (c :: σ) = cO σ + 1 := by simp [cO, hc]; omega
        rw [this]
        exact nI_sub (a := cO σ + 1) (b := 1) (by omega)
      obtain ⟨ν1, e1, e2⟩ := m_emit0 h1 (by omega) (code := stC 1 0 0) (a := 2) (b := 0) (c := -1) (Or.inr (Or.inl ⟨rfl, rfl⟩))
      rw [e1, Option.bind_some]
      exact ih _ (by omega) hA ν1 ⟨e2, h2.pop⟩ n12 n31 m hn12 hn31 (by omega)
    · rw [if_neg hc] at hA
      exact stop (c :: σ) out hs hc hA
/-! a number -/
theorem m_num {T : Nat → Int32} {e : Nat} (he : e ≤ 240) {k o : Nat} {σ out : List Int32} (hs : σ.length ≤ 41) : ∀ q n p (v : Int32) from_ ν, q ≤ 6 → q + 1 < n → p + q = from_ + 6 → p ≤ e → (q = 6 → dgT T e p) → RS0 T e ν p k o σ out → match sp_num T e q v p with
    | .ok w => ∃ ν', fM_number_26 n (nI from_) v ν = some (w.1, ν') ∧ RS0 T e ν' w.2 k o σ out
    | .error x => ∃ u ν', fM_number_26 n (nI from_) v ν = some (u, ν') ∧ FS e ν' x := by
  intro q
  induction q with
  | zero =>
    intro n p v from_ ν hq hn hpq hpe h6 h
    obtain ⟨n, rfl⟩ : ∃ k, n = k + 1 := ⟨n - 1, by omega⟩
    obtain ⟨n, rfl⟩ : ∃ k, n = k + 1 := ⟨n - 1, by omega⟩
    rw [fM_number_26, if_neg (by rw [h.2.2.1]; decide), m_here he h (by omega), Option.bind_some]
    dsimp only
    rw [l_lies, Option.bind_some]
    by_cases hd : dgT T e p
    · have hlt := dg_lt hd
      have hin : (48 : Int32) ≤ hrT T e p ∧ hrT T e p ≤ 57 := by rw [hr_sg hlt]; unfold dgT at hd; grind
      unfold sp_num
      rw [if_pos hd, b2i_t hin]
      dsimp only
      rw [if_neg (by decide), if_neg (by
        have : nI from_ + 6 = nI (from_ + 6) := nI_plus _ 6
        rw [this, h.1, show p = from_ + 6 by omega]
        exact fun h => h rfl)]
      obtain ⟨ν1, f1, f2, -⟩ := m_fails he h (by omega) hs 2 (by omega)
      rw [show (2 : Int32) = nI 2 from rfl, f1, Option.bind_some]
      obtain ⟨c, hc⟩ := m_hereF he f2
      unfold fM_number_63
      rw [hc, Option.bind_some]
      dsimp only
      have f3 : FS e (am_up ν1 108 27 (ν1 108 27 + 1)) (2, p) := by
        obtain ⟨a1, a2, a3, a4, ⟨q, a5, a6⟩, a7, d, a8, a9⟩ := f2
        have hq2 : q ≤ 240 := by
          obtain ⟨ν1', g1, -, g3⟩ := m_fails he h (by omega) hs 2 (by omega)
          rw [f1] at g1
          cases g1
          rw [g3] at a5
          simp [upa, h.1] at a5
          rw [nI_inj (by omega) (by omega)] at a5
          omega
        refine ⟨by simp [upa, a1], a2, a3, a4, ⟨q + 1, ?_, by omega⟩, by simp [upa, a7], d, by simp [upa, a8], a9⟩
        rw [up_eq, a5]
        exact nI_plus _ 1
      rw [fM_number_26, if_pos (by have := f3.pos; grind)]
      exact ⟨_, _, rfl, f3⟩
    · have hin : ¬ ((48 : Int32) ≤ hrT T e p ∧ hrT T e p ≤ 57) := by
        rw [hr_in (by decide) (by decide)]
        unfold dgT at hd
        grind
      unfold sp_num
      rw [if_neg hd, b2i_f hin]
      dsimp only
      rw [if_pos rfl]
      exact ⟨ν, rfl, h⟩
  | succ q ih =>
    intro n p v from_ ν hq hn hpq hpe h6 h
    obtain ⟨n, rfl⟩ : ∃ k, n = k + 1 := ⟨n - 1, by omega⟩
    rw [fM_number_26, if_neg (by rw [h.2.2.1]; decide), m_here he h (by omega), Option.bind_some]
    dsimp only
    rw [l_lies, Option.bind_some]
    by_cases hd : dgT T e p
    · have hlt := dg_lt hd
      have hin : (48 : Int32) ≤ hrT T e p ∧ hrT T e p ≤ 57 := by rw [hr_sg hlt]; unfold dgT at hd; grind
      unfold sp_num
      rw [if_pos hd, b2i_t hin]
      dsimp only
      rw [if_neg (by decide), if_pos (by
        have : nI from_ + 6 = nI (from_ + 6) := nI_plus _ 6
        rw [this, h.1, nI_inj (by omega) (by omega)]
        omega)]
      unfold fM_number_63
      rw [m_here he h (by omega), Option.bind_some]
      dsimp only
      have ev : (10 : Int32) * v + hrT T e p - 48 = v * 10 + (sgT T e p - 48) := by
        rw [hr_sg hlt]
        grind
      rw [ev]
      exact ih n (p + 1) _ from_ _ (by omega) (by omega) (by omega) (by omega) (by omega) (m_place0 h)
    · have hin : ¬ ((48 : Int32) ≤ hrT T e p ∧ hrT T e p ≤ 57) := by
        rw [hr_in (by decide) (by decide)]
        unfold dgT at hd
        grind
      unfold sp_num
      rw [if_neg hd, b2i_f hin]
      dsimp only
      rw [if_pos rfl]
      have : ¬ q = 5 := by
        intro h5
        exact hd (h6 (by omega))
      rw [if_neg this]
      exact ⟨ν, rfl, h⟩
