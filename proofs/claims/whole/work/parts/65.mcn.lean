/-! E: the reference reads a piece -/
theorem mk_iff (x : Int32) : (0 ≤ x - 97 ∧ x - 97 ≤ 7) ↔ (97 ≤ x ∧ x ≤ 104) := by grind
theorem mk_iff2 (x : Int32) : (0 ≤ x - 97 ∧ x - 97 < 8) ↔ (97 ≤ x ∧ x ≤ 104) := by grind
theorem m_number {T : Nat → Int32} {e : Nat} (he : e ≤ 240) {k o p : Nat} {σ out : List Int32} {ν : am_Mu} (hs : σ.length ≤ 41) (hpe : p ≤ e) (h : RS0 T e ν p k o σ out) : match sp_num T e 6 0 p with
    | .ok w => ∃ ν', fM_number ν = some (w.1, ν') ∧ RS0 T e ν' w.2 k o σ out
    | .error x => ∃ u ν', fM_number ν = some (u, ν') ∧ FS e ν' x := by
  have e1 : fM_number ν = if dgT T e p then fM_number_26 am_F (nI p) 0 ν else ((fM_fails 1 ν).bind fun q4 => fM_number_26 am_F (nI p) 0 q4) := by
    unfold fM_number
    rw [m_here he h (by omega), Option.bind_some]
    dsimp only
    rw [l_lies, Option.bind_some, h.1]
    by_cases hd : dgT T e p
    · have hlt := dg_lt hd
      have hin : (48 : Int32) ≤ hrT T e p ∧ hrT T e p ≤ 57 := by rw [hr_sg hlt]; unfold dgT at hd; grind
      rw [if_pos hd, b2i_t hin]
      dsimp only
      rw [if_pos (by decide)]
    · have hin : ¬ ((48 : Int32) ≤ hrT T e p ∧ hrT T e p ≤ 57) := by
        rw [hr_in (by decide) (by decide)]
        unfold dgT at hd
        grind
      rw [if_neg hd, b2i_f hin]
      dsimp only
      rw [if_neg (by decide)]
  rw [e1]
  by_cases hd : dgT T e p
  · rw [if_pos hd]
    exact m_num he hs 6 am_F p 0 p ν (by omega) (by unfold am_F; omega) (by omega) hpe (fun _ => hd) h
  · rw [if_neg hd]
    unfold sp_num
    rw [if_neg hd, if_pos rfl]
    dsimp only
    obtain ⟨ν1, f1, f2, -⟩ := m_fails he h (by omega) hs 1 (by omega)
    rw [show (1 : Int32) = nI 1 from rfl, f1, Option.bind_some, show am_F = 99999 + 1 from rfl, fM_number_26, if_pos (by have := f2.pos; grind)]
    exact ⟨_, _, rfl, f2⟩
def p70R (T : Nat → Int32) (e : Nat) (σ : List Int32) (q : Option am_Mu) (r : PR) : Prop := match r with
  | .ok s => ∃ ν', q = some ν' ∧ RS T e ν' s.1 s.2.1 σ s.2.2
  | .error x => ∃ ν', q = some ν' ∧ FS e ν' x
theorem m_122F {e : Nat} {ν : am_Mu} {x : Nat × Nat} (h : FS e ν x) (a : Int32) : fM_piece_122 a ν = some ν := by
  unfold fM_piece_122
  rw [if_neg (Int32.not_le.mpr h.pos)]
theorem m_70F {e : Nat} {ν : am_Mu} {x : Nat × Nat} (h : FS e ν x) : fM_piece_70 ν = some ν := by
  unfold fM_piece_70
  rw [if_neg (Int32.not_le.mpr h.pos)]
theorem m_p70 {T : Nat → Int32} {e : Nat} (he : e ≤ 240) {p k : Nat} {σ out : List Int32} {ν : am_Mu} (h : RS T e ν p k σ out) (hsg : sgT T e p = 49 ∨ sgT T e p = 120 ∨ sgT T e p = 121) : p70R T e σ (fM_piece_70 ν) (sp_op T e (p, k, out)) := by
  have hp : p < e := by
    rcases hsg with h | h | h
    · exact sg_lt h (by decide)
    · exact sg_lt h (by decide)
    · exact sg_lt h (by decide)
  obtain ⟨r1, r2, r3, r4⟩ := h.2
  have h0 := h.1
  have hh := m_here he h0 (by omega)
  have e29 := h0.2.2.1
  have esg := hr_sg (T := T) hp
  have e1 : fM_piece_70 ν = fM_piece_107 (if sgT T e p = 49 then 0 else 1) ν := by
    unfold fM_piece_70
    rw [e29, if_pos (by decide), hh, Option.bind_some, esg]
    dsimp only
    unfold fM_isSide fM_isSide_12
    rcases hsg with h | h | h
    · rw [h, if_neg (by decide), if_pos (by decide), Option.bind_some]
      dsimp only
      rw [if_neg (by decide), hh, Option.bind_some, esg, h]
      dsimp only
      rw [if_pos rfl, if_pos rfl]
    · rw [h, if_pos (by decide), Option.bind_some]
      dsimp only
      rw [if_pos (by decide), if_neg (by decide)]
    · rw [h, if_neg (by decide), if_neg (by decide), Option.bind_some]
      dsimp only
      rw [if_pos (by decide), if_neg (by decide)]
  rw [e1]
  unfold fM_piece_107 sp_op
  rw [h0.2.2.2.2.1]
  by_cases h80 : k < 80
  · rw [if_pos h80, if_pos (by show ¬ _ = nI 80; rw [nI_inj (by omega) (by omega)]; omega)]
    unfold fM_piece_122
    rw [e29, if_pos (by decide)]
    have hS := m_sign0 h0
    by_cases h49 : sgT T e p = 49
    · rw [if_pos h49, if_pos h49, if_neg (by decide)]
      obtain ⟨ν1, g1, g2⟩ := m_emit0 (m_place1 hS (y := ν 108 27 + 1) (by rw [h0.1]; exact nI_plus _ 1)) (by omega) (code := stC 0 0 0) (a := 1) (b := 0) (c := -1) (Or.inl ⟨rfl, rfl⟩)
      refine ⟨ν1, ?_, g2, ?_⟩
      · rw [g1, Option.bind_some]
      · refine ⟨by show p + 1 ≤ e; omega, ?_, by show k + 1 ≤ 80; omega, r4⟩
        show (out ++ [stC 0 0 0]).length + σ.length ≤ p + 1
        rw [List.length_append, List.length_singleton]
        omega
    · rw [if_neg h49, if_neg h49, if_pos (by decide)]
      unfold fM_sideMark
      rw [m_here he hS (by omega), Option.bind_some, esg]
      dsimp only
      have hP := m_place0 hS
      -- the two sides are one
      have side : (if ¬ sgT T e p = 121 then fM_sideMark_14 0 (am_up ν 108 32 (ν 108 32 + 1)) else fM_sideMark_14 1 (am_up ν 108 32 (ν 108 32 + 1))) = fM_sideMark_14 (if sgT T e p = 121 then 1 else 0) (am_up ν 108 32 (ν 108 32 + 1)) := by
        by_cases hy : sgT T e p = 121
        · rw [if_neg (by simpa using hy), if_pos hy]
        · rw [if_pos hy, if_neg hy]
      rw [side]
      unfold fM_sideMark_14
      rw [m_here he hP (by omega), Option.bind_some]
      dsimp only
      rw [l_isMark, Option.bind_some]
      by_cases hm : mkT T e (p + 1)
      · have hlt := mk_lt hm
        have esg1 := hr_sg (T := T) hlt
        obtain ⟨b, b1, b2⟩ := opl_nI hm
        rw [if_pos hm, esg1, b2i_t ((mk_iff _).mpr ((mk_iff2 _).mp hm))]
        dsimp only
        rw [if_pos (by decide)]
        unfold fM_sideMark_45
        rw [Option.bind_some]
        dsimp only
        have eval : (8 : Int32) * (if sgT T e p = 121 then 1 else 0) + (sgT T e (p + 1) - 97) = nI b := by
          rw [← b2]
          unfold sp_opl
          split <;> grind
        rw [eval, b2]
        have hP2 := m_place0 hP
        generalize am_up (am_up (am_up ν 108 32 (ν 108 32 + 1)) 108 27 (am_up ν 108 32 (ν 108 32 + 1) 108 27 + 1)) 108 27 (am_up (am_up ν 108 32 (ν 108 32 + 1)) 108 27 (am_up ν 108 32 (ν 108 32 + 1) 108 27 + 1) 108 27 + 1) = ξ at hP2
        rw [if_neg (by rw [hP2.2.2.1]; decide), m_here he hP2 (by omega), Option.bind_some]
        dsimp only
        by_cases h60 : sgT T e (p + 2) = 60
        · have hlt2 := sg_lt h60 (by decide)
          rw [if_pos h60, if_neg (by rw [m_is 60 (by decide) (by decide)]; simpa using h60)]
          have hn := m_number he (by omega) (show p + 1 + 1 + 1 ≤ e by omega) (m_place0 hP2)
          change (match sp_num T e 6 0 (p + 3) with
            | .ok w => _
            | .error x => _) at hn
          cases hq : sp_num T e 6 0 (p + 3) with
          | error x =>
            rw [hq] at hn
            obtain ⟨u, ν1, n1, n2⟩ := hn
            refine ⟨ν1, ?_, n2⟩
            rw [n1, Option.bind_some]
            unfold fM_piece_200
            rw [m_emitF n2, Option.bind_some]
          | ok w =>
            rw [hq] at hn
            obtain ⟨ν1, n1, n2⟩ := hn
            obtain ⟨v, p'⟩ := w
            obtain ⟨m, m1, m2, m3, m4⟩ := num_ok 6 0 (p + 3) v p' (by omega) (by decide) hq
            obtain ⟨ν2, g1, g2⟩ := m_emit0 n2 (by omega) (code := stC 5 (nI b) v) (a := 0) (b := nI b) (c := v) (Or.inr (Or.inr (Or.inr (Or.inr (Or.inr ⟨b, m, b1, m2, by rw [m1], rfl, rfl, m1⟩)))))
            refine ⟨ν2, ?_, g2, ?_⟩
            · rw [n1, Option.bind_some]
              unfold fM_piece_200
              dsimp only
              rw [g1, Option.bind_some]
            · refine ⟨m4 (by omega), ?_, by show k + 1 ≤ 80; omega, r4⟩
              show (out ++ [stC 5 (nI b) v]).length + σ.length ≤ p'
              rw [List.length_append, List.length_singleton]
              omega
        · rw [if_neg h60, if_pos (by rw [m_is 60 (by decide) (by decide)]; exact h60)]
          obtain ⟨ν2, g1, g2⟩ := m_emit0 hP2 (by omega) (code := stC 4 (nI b) 0) (a := 0) (b := nI b) (c := -1) (Or.inr (Or.inr (Or.inr (Or.inr (Or.inl ⟨b, b1, rfl, rfl, rfl, rfl⟩)))))
          refine ⟨ν2, ?_, g2, ?_⟩
          · unfold fM_piece_200
            rw [g1, Option.bind_some]
          · refine ⟨by show p + 2 ≤ e; omega, ?_, by show k + 1 ≤ 80; omega, r4⟩
            show (out ++ [stC 4 (nI b) 0]).length + σ.length ≤ p + 2
            rw [List.length_append, List.length_singleton]
            omega
      · rw [if_neg hm, b2i_f (fun hq => hm ((mk_iff2 _).mpr ((hr_in (by decide) (by decide)).mp ((mk_iff _).mp hq))))]
        dsimp only
        rw [if_neg (by decide)]
        obtain ⟨ν1, f1, f2, f3⟩ := m_fails he hP (by omega) (by omega) 1 (by omega)
        change fM_fails 1 _ = some ν1 at f1
        rw [f1, Option.bind_some]
        unfold fM_sideMark_45
        rw [Option.bind_some]
        dsimp only
        have f4 : FS e (am_up ν1 108 27 (ν1 108 27 + 1)) (1, p + 1) := by
          have e27 : ν1 108 27 = nI (p + 1) := by
            rw [f3, up_ne (by decide)]
            exact hP.1
          obtain ⟨a1, a2, a3, a4, -, a7, d, a8, a9⟩ := f2
          refine ⟨by simp [upa, a1], a2, a3, a4, ⟨p + 2, ?_, by omega⟩, by simp [upa, a7], d, by simp [upa, a8], a9⟩
          rw [up_eq, e27]
          exact nI_plus _ 1
        rw [if_pos (by have := f4.pos; grind)]
        refine ⟨am_up ν1 108 27 (ν1 108 27 + 1), ?_, f4⟩
        unfold fM_piece_200
        rw [m_emitF f4, Option.bind_some]
  · rw [if_neg h80, if_neg (by
      have : k = 80 := by omega
      rw [this]
      decide)]
    obtain ⟨ν1, f1, f2, -⟩ := m_fails he h0 (by omega) (by omega) 6 (by omega)
    rw [show (6 : Int32) = nI 6 from rfl, f1, Option.bind_some]
    exact ⟨ν1, m_122F f2 _, f2⟩
/-! the roads of a piece -/
theorem pieceF {e : Nat} (he : e ≤ 240) {Q : am_Mu → Prop} {p : Nat} {x : Nat × Nat} (hQ : QF Q x) {ν ν' : am_Mu} {m n12 : Nat} (h1 : fM_piece_0 m ν = some ν') (h2 : FS e ν' x) (hp : p ≤ 240) (hn : 300 ≤ n12 + p) : ∃ ν'', (fM_piece_0 m ν).bind (fun q3 => (fM_ends q3).bind fun q4 => fM_condition_31 am_F (fM_condition_12 n12) q4) = some ν'' ∧ Q ν'' := by
  obtain ⟨n12, rfl⟩ : ∃ k, n12 = k + 1 := ⟨n12 - 1, by omega⟩
  obtain ⟨ν'', e1, e2⟩ := drain he h2 am_F 99999 n12 (by unfold am_F; omega)
  exact ⟨ν'', by rw [h1, Option.bind_some]; exact e1, hQ _ e2 ⟨h2.2.1, h2.2.2.1, h2.2.2.2.1⟩⟩
theorem wP_open {T : Nat → Int32} {e : Nat} (he : e ≤ 240) {Q : am_Mu → Prop} {p k : Nat} {σ out : List Int32} {c : Int32} (hc : sgT T e p = c) (hcc : c = 33 ∨ c = 40) (ho : cO σ < 8) (hs : σ.length < 40) (hP : wP T e Q (p + 1) k (c :: σ) out) : wP T e Q p k σ out := by
  intro ν h n12 m hn12 hm
  obtain ⟨r1, r2, r3, r4⟩ := h.2
  obtain ⟨m, rfl⟩ : ∃ k, m = k + 1 := ⟨m - 1, by omega⟩
  have hlt : p < e := sg_lt hc (by rcases hcc with h | h <;> rw [h] <;> decide)
  have hh := m_here he h.1 (by omega)
  rw [hr_sg hlt, hc] at hh
  have e1 : fM_piece_0 (m + 1) ν = fM_piece_39 (fM_piece_0 m) ν := by
    rw [fM_piece_0, if_neg (by rw [h.1.2.2.1]; decide), hh, Option.bind_some]
    dsimp only
    have e25 : fM_piece_25 (fM_piece_0 m) ν = fM_piece_39 (fM_piece_0 m) ν := by
      unfold fM_piece_25
      rw [h.1.2.2.2.2.2.1, if_pos (by show ¬ _ = nI 8; rw [nI_inj (by omega) (by omega)]; omega)]
    rcases hcc with hq | hq
    · rw [if_pos hq, e25]
    · rw [if_neg (by rw [hq]; decide), hh, Option.bind_some]
      dsimp only
      rw [if_neg (by simpa using hq), e25]
  obtain ⟨ν2, u1, u2⟩ := m_puts0 h.1 (by omega) c
  rw [e1]
  unfold fM_piece_39
  rw [hh, Option.bind_some]
  dsimp only
  rw [u1, Option.bind_some]
  refine hP _ ⟨?_, by omega, ?_, r3, ?_⟩ n12 m (by omega) (by omega)
  · refine m_place1 (m_open0 u2 ?_) ?_
    · rw [u2.2.2.2.2.2.1]
      have : cO (c :: σ) = cO σ + 1 := by
        rcases hcc with hq | hq <;> simp [cO, hq] <;> omega
      rw [this]
      exact nI_plus _ 1
    · rw [u2.1]
      exact nI_plus _ 1
  · rw [List.length_cons]; omega
  · rw [List.length_cons]; omega
theorem wP_deep {T : Nat → Int32} {e : Nat} (he : e ≤ 240) {Q : am_Mu → Prop} {p k : Nat} {σ out : List Int32} {c : Int32} (hc : sgT T e p = c) (hcc : c = 33 ∨ c = 40) (ho : cO σ = 8) (hQ : QF Q (5, p)) : wP T e Q p k σ out := by
  intro ν h n12 m hn12 hm
  obtain ⟨r1, r2, r3, r4⟩ := h.2
  obtain ⟨m, rfl⟩ : ∃ k, m = k + 1 := ⟨m - 1, by omega⟩
  obtain ⟨m, rfl⟩ : ∃ k, m = k + 1 := ⟨m - 1, by omega⟩
  have hlt : p < e := sg_lt hc (by rcases hcc with h | h <;> rw [h] <;> decide)
  have hh := m_here he h.1 (by omega)
  rw [hr_sg hlt, hc] at hh
  obtain ⟨ν1, f1, f2, f3⟩ := m_fails he h.1 (by omega) (by omega) 5 (by omega)
  have e1 : fM_piece_0 (m + 1 + 1) ν = fM_piece_39 (fM_piece_0 (m + 1)) ν1 := by
    rw [fM_piece_0, if_neg (by rw [h.1.2.2.1]; decide), hh, Option.bind_some]
    dsimp only
    have e25 : fM_piece_25 (fM_piece_0 (m + 1)) ν = fM_piece_39 (fM_piece_0 (m + 1)) ν1 := by
      unfold fM_piece_25
      rw [h.1.2.2.2.2.2.1, if_neg (by rw [ho]; decide), show (5 : Int32) = nI 5 from rfl, f1, Option.bind_some]
    rcases hcc with hq | hq
    · rw [if_pos hq, e25]
    · rw [if_neg (by rw [hq]; decide), hh, Option.bind_some]
      dsimp only
      rw [if_neg (by simpa using hq), e25]
  obtain ⟨c', hc'⟩ := m_hereF he f2
  have e34 : ν1 108 34 = nI σ.length := by rw [f3, up_ne (by decide)]; exact h.1.2.2.2.2.2.2.1
  have e27 : ν1 108 27 = nI p := by rw [f3, up_ne (by decide)]; exact h.1.1
  refine pieceF he hQ (ν' := am_up (am_up (am_up (am_up ν1 131 σ.length c') 108 34 (nI (σ.length + 1))) 108 33 (ν1 108 33 + 1)) 108 27 (nI (p + 1))) ?_ ?_ (by omega) hn12
  · rw [e1]
    unfold fM_piece_39 fM_puts
    rw [hc', Option.bind_some]
    dsimp only
    rw [e34, inb_n (by omega) (by omega), cond_true, nI_clamp (by omega), show nI σ.length + 1 = nI (σ.length + 1) from nI_plus _ 1, Option.bind_some]
    have e33 : am_up (am_up ν1 131 σ.length c') 108 34 (nI (σ.length + 1)) 108 33 = ν1 108 33 := by simp [upa]
    have e27' : am_up (am_up ν1 131 σ.length c') 108 34 (nI (σ.length + 1)) 108 27 = nI p := by simp [upa, e27]
    rw [e33, e27', show nI p + 1 = nI (p + 1) from nI_plus _ 1, fM_piece_0, if_pos (by
      have := f2.pos
      simp only [upa]
      simp
      grind)]
    refine m_70F (e := e) (x := (5, p)) ?_
    obtain ⟨a1, a2, a3, a4, -, a7, d, a8, a9⟩ := f2
    exact ⟨by simp [upa, a1], a2, a3, a4, ⟨p + 1, by simp [upa], by omega⟩, by simp [upa, a7], σ.length + 1, by simp [upa], by omega⟩
  · obtain ⟨a1, a2, a3, a4, -, a7, d, a8, a9⟩ := f2
    exact ⟨by simp [upa, a1], a2, a3, a4, ⟨p + 1, by simp [upa], by omega⟩, by simp [upa, a7], σ.length + 1, by simp [upa], by omega⟩
theorem p70_of {T : Nat → Int32} {e : Nat} (he : e ≤ 240) {p k : Nat} {σ out : List Int32} {ν : am_Mu} (h : RS T e ν p k σ out) (h33 : ¬ sgT T e p = 33) (h40 : ¬ sgT T e p = 40) (m : Nat) : fM_piece_0 (m + 1) ν = fM_piece_70 ν := by
  have hp := h.2.1
  have hh := m_here he h.1 (by omega)
  rw [fM_piece_0, if_neg (by rw [h.1.2.2.1]; decide), hh, Option.bind_some]
  dsimp only
  rw [if_neg (by rw [m_is 33 (by decide) (by decide)]; exact h33), hh, Option.bind_some]
  dsimp only
  rw [if_pos (by rw [m_is 40 (by decide) (by decide)]; exact h40)]
theorem wP_bad {T : Nat → Int32} {e : Nat} (he : e ≤ 240) {Q : am_Mu → Prop} {p k : Nat} {σ out : List Int32} (h33 : ¬ sgT T e p = 33) (h40 : ¬ sgT T e p = 40) (hno : ¬ (sgT T e p = 49 ∨ sgT T e p = 120 ∨ sgT T e p = 121)) (hQ : QF Q (1, p)) : wP T e Q p k σ out := by
  intro ν h n12 m hn12 hm
  obtain ⟨r1, r2, r3, r4⟩ := h.2
  obtain ⟨m, rfl⟩ : ∃ k, m = k + 1 := ⟨m - 1, by omega⟩
  obtain ⟨ν1, f1, f2, f3⟩ := m_fails he h.1 (by omega) (by omega) 1 (by omega)
  have hh := m_here he h.1 (by omega)
  refine pieceF he hQ (ν' := ν1) ?_ f2 (show p ≤ 240 by omega) hn12
  rw [p70_of he h h33 h40]
  unfold fM_piece_70 fM_isSide fM_isSide_12
  rw [h.1.2.2.1, if_pos (by decide), hh, Option.bind_some]
  dsimp only
  rw [if_neg (by rw [m_is 120 (by decide) (by decide)]; exact fun h => hno (Or.inr (Or.inl h))), if_pos (by rw [m_is 121 (by decide) (by decide)]; exact fun h => hno (Or.inr (Or.inr h))), Option.bind_some]
  dsimp only
  rw [if_neg (by decide), hh, Option.bind_some]
  dsimp only
  rw [if_neg (by rw [m_is 49 (by decide) (by decide)]; exact fun h => hno (Or.inl h)), show (1 : Int32) = nI 1 from rfl, f1, Option.bind_some, m_122F f2]
def CT (T : Nat → Int32) (e : Nat) (Q : am_Mu → Prop) (σ : List Int32) (r : PR) : Prop := match r with
  | .error x => QF Q x
  | .ok s => PA T e Q s.1 s.2.1 σ s.2.2
theorem wP_op {T : Nat → Int32} {e : Nat} (he : e ≤ 240) {Q : am_Mu → Prop} {p k : Nat} {σ out : List Int32} (hsg : sgT T e p = 49 ∨ sgT T e p = 120 ∨ sgT T e p = 121) (hs : σ.length < 40) (hQ : CT T e Q σ (sp_op T e (p, k, out))) : wP T e Q p k σ out := by
  intro ν h n12 m hn12 hm
  have hp := h.2.1
  obtain ⟨m, rfl⟩ : ∃ k, m = k + 1 := ⟨m - 1, by omega⟩
  have e1 := p70_of he h (by rcases hsg with h | h | h <;> rw [h] <;> decide) (by rcases hsg with h | h | h <;> rw [h] <;> decide) m
  have h70 := m_p70 he h hsg
  rw [← e1] at h70
  have hpk : p < e := by
    rcases hsg with h | h | h
    · exact sg_lt h (by decide)
    · exact sg_lt h (by decide)
    · exact sg_lt h (by decide)
  cases hq : sp_op T e (p, k, out) with
  | error x =>
    rw [hq] at h70 hQ
    obtain ⟨ν', g1, g2⟩ := h70
    exact pieceF he hQ g1 g2 (show p ≤ 240 by omega) hn12
  | ok s =>
    rw [hq] at h70 hQ
    obtain ⟨ν', g1, g2⟩ := h70
    have hlt : p < s.1 := (op_ok hpk hq).2
    have hp' := g2.2.1
    obtain ⟨ν'', q1, q2⟩ := wA_of he σ s.2.2 hs hQ ν' g2 n12 am_F am_F (by omega) (by unfold am_F; omega) (by unfold am_F; omega)
    exact ⟨ν'', by rw [g1, Option.bind_some]; exact q1, q2⟩
/-! the whole of a condition -/
theorem PA_PB {T : Nat → Int32} {e : Nat} {Q : am_Mu → Prop} {p k : Nat} {σ out : List Int32} (h : ¬ σ.headD 0 = 33) : PA T e Q p k σ out = PB T e Q p k σ out := by
  cases σ with
  | nil => rfl
  | cons c σ =>
    unfold PA
    rw [if_neg (show ¬ c = 33 from h)]
theorem PB_and {T : Nat → Int32} {e : Nat} {Q : am_Mu → Prop} {p k : Nat} {σ out : List Int32} : PB T e Q p k (38 :: σ) out = PB T e Q p k σ (out ++ [stC 2 0 0]) := by
  have e1 : ∀ a, wk a (38 :: σ) out = wk a σ (out ++ [stC 2 0 0]) := by
    intro a
    rw [wk, if_pos rfl]
  unfold PB
  rw [e1, e1]
theorem PB_or {T : Nat → Int32} {e : Nat} {Q : am_Mu → Prop} {p k : Nat} {σ out : List Int32} (h : ¬ sgT T e p = 38) : PB T e Q p k (124 :: σ) out = PB T e Q p k σ (out ++ [stC 3 0 0]) := by
  have e1 : wk 1 (124 :: σ) out = wk 1 σ (out ++ [stC 3 0 0]) := by
    rw [wk, if_neg (by decide), if_neg (by decide), if_pos rfl]
  unfold PB
  rw [if_neg h, if_neg h, e1]
theorem wk_stop {a : Int32} {σ out : List Int32} (h : ¬ σ.headD 0 = 38) (h2 : a = 0 ∨ ¬ σ.headD 0 = 124) : wk a σ out = (σ, out) := by
  cases σ with
  | nil => rfl
  | cons c σ =>
    have hc : ¬ c = 38 := h
    unfold wk
    rw [if_neg hc]
    by_cases ha : a = 0
    · rw [if_pos ha]
    · rw [if_neg ha, if_neg (by rcases h2 with h | h; exact absurd h ha; exact h)]
def MPc (T : Nat → Int32) (e o : Nat) (f : PS → PR) : Prop := ∀ (Q : am_Mu → Prop) σ p k out, cO σ = o → σ.length ≤ 3 * o + 2 → k ≤ 80 → CT T e Q σ (f (p, k, out)) → wP T e Q p k σ out
theorem M_loopP {T : Nat → Int32} {e o : Nat} (ho : o ≤ 8) {f : PS → PR} (hf : MPc T e o f) (hk : FOK e f) {Q : am_Mu → Prop} {σ : List Int32} (h1 : cO σ = o) (h2 : σ.length ≤ 3 * o + 1) (h33 : ¬ σ.headD 0 = 33) (h38 : ¬ σ.headD 0 = 38) : ∀ m (s : PS), s.2.1 ≤ 80 → CT T e Q σ (sp_loop T e 38 (stC 2 0 0) f m s) → PA T e Q s.1 s.2.1 σ s.2.2 := by
  intro m
  induction m with
  | zero => exact fun s _ h => h
  | succ m ih =>
    intro s hk8 h
    unfold sp_loop at h
    by_cases hc : sgT T e s.1 = 38
    · rw [if_pos hc] at h
      rw [PA_PB h33]
      unfold PB
      rw [if_neg (by rw [hc]; decide), if_pos hc, wk_stop h38 (Or.inl rfl)]
      refine hf Q (38 :: σ) _ _ _ (by simp [cO, h1]) (by rw [List.length_cons]; omega) hk8 ?_
      unfold PR_bind at h
      cases hq : f (s.1 + 1, s.2.1, s.2.2) with
      | error x =>
        rw [hq] at h
        exact h
      | ok r =>
        rw [hq] at h
        dsimp only at h
        have := ih (r.1, r.2.1, r.2.2 ++ [stC 2 0 0]) (hk (s.1 + 1, s.2.1, s.2.2) r hk8 hq).1.2.2.2.1 h
        show PA T e Q r.1 r.2.1 (38 :: σ) r.2.2
        rw [PA_PB (by rw [List.headD_cons]; decide), PB_and, ← PA_PB h33]
        exact this
    · rw [if_neg hc] at h
      exact h
theorem M_part {T : Nat → Int32} {e o : Nat} (ho : o ≤ 8) {f : PS → PR} (hf : MPc T e o f) (hk : FOK e f) {Q : am_Mu → Prop} {σ : List Int32} (h1 : cO σ = o) (h2 : σ.length ≤ 3 * o + 1) (h33 : ¬ σ.headD 0 = 33) (h38 : ¬ σ.headD 0 = 38) {p k : Nat} {out : List Int32} (hk8 : k ≤ 80) (h : CT T e Q σ (sp_part T e f (p, k, out))) : wP T e Q p k σ out := by
  refine hf Q σ p k out h1 (by omega) hk8 ?_
  unfold sp_part PR_bind at h
  cases hq : f (p, k, out) with
  | error x =>
    rw [hq] at h
    exact h
  | ok r =>
    rw [hq] at h
    exact M_loopP ho hf hk h1 h2 h33 h38 240 r (hk (p, k, out) r hk8 hq).1.2.2.2.1 h
theorem M_loopC {T : Nat → Int32} {e o : Nat} (he : e ≤ 240) (ho : o ≤ 8) {f : PS → PR} (hf : MPc T e o f) (hk : FOK e f) {Q : am_Mu → Prop} {σ : List Int32} (h1 : cO σ = o) (h2 : σ.length ≤ 3 * o) (h33 : ¬ σ.headD 0 = 33) (h38 : ¬ σ.headD 0 = 38) (h124 : ¬ σ.headD 0 = 124) : ∀ m (s : PS), s.2.1 ≤ 80 → CT T e Q σ (sp_loop T e 124 (stC 3 0 0) (sp_part T e f) m s) → PA T e Q s.1 s.2.1 σ s.2.2 := by
  intro m
  induction m with
  | zero => exact fun s _ h => h
  | succ m ih =>
    intro s hk8 h
    unfold sp_loop at h
    by_cases hc : sgT T e s.1 = 124
    · rw [if_pos hc] at h
      rw [PA_PB h33]
      unfold PB
      rw [if_neg (by rw [hc]; decide), if_neg (by rw [hc]; decide), if_pos hc, wk_stop h38 (Or.inr h124)]
      refine M_part ho hf hk (σ := 124 :: σ) (by simp [cO, h1]) (by rw [List.length_cons]; omega) (by rw [List.headD_cons]; decide) (by rw [List.headD_cons]; decide) hk8 ?_
      unfold PR_bind at h
      cases hq : sp_part T e f (s.1 + 1, s.2.1, s.2.2) with
      | error x =>
        rw [hq] at h
        exact h
      | ok r =>
        rw [hq] at h
        dsimp only at h
        obtain ⟨⟨q1, -⟩, q2⟩ := part_ok he hk (s.1 + 1, s.2.1, s.2.2) r hk8 hq
        have := ih (r.1, r.2.1, r.2.2 ++ [stC 3 0 0]) q1.2.2.2.1 h
        show PA T e Q r.1 r.2.1 (124 :: σ) r.2.2
        rw [PA_PB (by rw [List.headD_cons]; decide), PB_or q2, ← PA_PB h33]
        exact this
    · rw [if_neg hc] at h
      exact h
theorem M_condf {T : Nat → Int32} {e o : Nat} (he : e ≤ 240) (ho : o ≤ 8) {f : PS → PR} (hf : MPc T e o f) (hk : FOK e f) {Q : am_Mu → Prop} {σ : List Int32} (h1 : cO σ = o) (h2 : σ.length ≤ 3 * o) (h33 : ¬ σ.headD 0 = 33) (h38 : ¬ σ.headD 0 = 38) (h124 : ¬ σ.headD 0 = 124) {p k : Nat} {out : List Int32} (hk8 : k ≤ 80) (h : CT T e Q σ (sp_condf T e f (p, k, out))) : wP T e Q p k σ out := by
  refine M_part ho hf hk h1 (by omega) h33 h38 hk8 ?_
  unfold sp_condf PR_bind at h
  cases hq : sp_part T e f (p, k, out) with
  | error x =>
    rw [hq] at h
    exact h
  | ok r =>
    rw [hq] at h
    exact M_loopC he ho hf hk h1 h2 h33 h38 h124 240 r (part_ok he hk (p, k, out) r hk8 hq).1.1.2.2.2.1 h
theorem M_piece {T : Nat → Int32} {e : Nat} (he : e ≤ 240) : ∀ n o, o ≤ 8 → n + o = 9 → MPc T e o (sp_piece T e n o) := by
  intro n
  induction n with
  | zero => intro o h1 h2; omega
  | succ n ih =>
    intro o h8 h9 Q σ p k out h1 h2 hk h
    unfold sp_piece at h
    dsimp only at h
    by_cases h33 : sgT T e p = 33
    · rw [if_pos h33] at h
      by_cases ho : o < 8
      · rw [if_pos ho] at h
        refine wP_open he h33 (Or.inl rfl) (by omega) (by omega) ?_
        refine ih (o + 1) (by omega) (by omega) Q (33 :: σ) _ _ _ (by simp [cO, h1]; omega) (by rw [List.length_cons]; omega) hk ?_
        unfold PR_bind at h
        cases hq : sp_piece T e n (o + 1) (p + 1, k, out) with
        | error x =>
          rw [hq] at h
          exact h
        | ok r =>
          rw [hq] at h
          show PA T e Q r.1 r.2.1 (33 :: σ) r.2.2
          unfold PA
          rw [if_pos rfl]
          exact h
      · rw [if_neg ho] at h
        exact wP_deep he h33 (Or.inl rfl) (by omega) h
    · rw [if_neg h33] at h
      by_cases h40 : sgT T e p = 40
      · rw [if_pos h40] at h
        by_cases ho : o < 8
        · rw [if_pos ho] at h
          refine wP_open he h40 (Or.inr rfl) (by omega) (by omega) ?_
          refine M_condf he (show o + 1 ≤ 8 by omega) (ih (o + 1) (by omega) (by omega)) (piece_ok he n (o + 1)) (σ := 40 :: σ) (by simp [cO, h1]; omega) (by rw [List.length_cons]; omega) (by rw [List.headD_cons]; decide) (by rw [List.headD_cons]; decide) (by rw [List.headD_cons]; decide) hk ?_
          unfold PR_bind at h
          cases hq : sp_condf T e (sp_piece T e n (o + 1)) (p + 1, k, out) with
          | error x =>
            rw [hq] at h
            exact h
          | ok r =>
            rw [hq] at h
            dsimp only at h
            obtain ⟨-, q124, q38⟩ := condf_ok he (piece_ok he n (o + 1)) (p + 1, k, out) r hk hq
            show PA T e Q r.1 r.2.1 (40 :: σ) r.2.2
            rw [PA_PB (by rw [List.headD_cons]; decide)]
            unfold PB
            unfold sp_expect at h
            have ewk : wk 1 (40 :: σ) r.2.2 = (40 :: σ, r.2.2) := wk_stop (by rw [List.headD_cons]; decide) (Or.inr (by rw [List.headD_cons]; decide))
            by_cases h41 : sgT T e r.1 = 41
            · rw [if_pos h41] at h ⊢
              rw [ewk]
              unfold PC
              dsimp only
              rw [if_pos rfl]
              exact wA_of he σ _ (by omega) h
            · rw [if_neg h41] at h ⊢
              rw [if_neg q38, if_neg q124, ewk, if_neg (fun q => by cases q.2)]
              exact h
        · rw [if_neg ho] at h
          exact wP_deep he h40 (Or.inr rfl) (by omega) h
      · rw [if_neg h40] at h
        by_cases hop : sgT T e p = 49 ∨ sgT T e p = 120 ∨ sgT T e p = 121
        · rw [if_pos hop] at h
          exact wP_op he hop (by omega) h
        · rw [if_neg hop] at h
          exact wP_bad he h33 h40 hop h
/-- a condition and the > behind it -/
theorem m_cond {T : Nat → Int32} {e : Nat} (he : e ≤ 240) {p k : Nat} {out : List Int32} {ν : am_Mu} (h : RS T e (am_up (am_up ν 108 34 0) 108 33 0) p k [] out) : match PR_bind (sp_cond T e (p, k, out)) (sp_expect T e 62) with
    | .ok s => ∃ ν' o, fM_condition ν = some ν' ∧ RS0 T e ν' s.1 s.2.1 o [] s.2.2
    | .error x => ∃ ν', fM_condition ν = some ν' ∧ ν' 108 29 = nI (1000 * x.1 + x.2) ∧ ER x := by
  have key : ∀ Q : am_Mu → Prop, CT T e Q [] (sp_cond T e (p, k, out)) → ∃ ν'', fM_condition ν = some ν'' ∧ Q ν'' := by
    intro Q hQ
    have hw := M_condf he (by omega) (M_piece he 9 0 (by omega) (by omega)) (piece_ok he 9 0) (σ := []) rfl (by simp) (by decide) (by decide) (by decide) h.2.2.2.1 hQ
    obtain ⟨ν'', e1, e2⟩ := hw _ h 99999 am_F (by omega) (by unfold am_F; omega)
    refine ⟨ν'', ?_, e2⟩
    unfold fM_condition
    rw [show am_F = 99999 + 1 from rfl, fM_condition_12, if_neg (by decide), if_neg (by rw [h.1.2.2.1]; decide)]
    exact e1
  cases hq : sp_cond T e (p, k, out) with
  | error x =>
    rw [hq] at key
    obtain ⟨ν', e1, e2⟩ := key (fun ν' => ν' 108 29 = nI (1000 * x.1 + x.2) ∧ ER x) (fun ν'' h h2 => ⟨h, h2⟩)
    exact ⟨ν', e1, e2⟩
  | ok s =>
    rw [hq] at key
    obtain ⟨-, q124, q38⟩ := cond_ok he (p, k, out) s h.2.2.2.1 hq
    unfold PR_bind sp_expect
    dsimp only
    have hPA : ∀ Q : am_Mu → Prop, CT T e Q [] (.ok s : PR) = (if sgT T e s.1 = 62 then QE T e Q (s.1 + 1) s.2.1 s.2.2 else QF Q (1, s.1)) := by
      intro Q
      show PB T e Q s.1 s.2.1 [] s.2.2 = _
      unfold PB PC wk
      by_cases h41 : sgT T e s.1 = 41
      · rw [if_pos h41, if_neg (by rw [h41]; decide)]
      · rw [if_neg h41, if_neg q38, if_neg q124]
        by_cases h62 : sgT T e s.1 = 62
        · rw [if_pos h62, if_pos ⟨h62, rfl⟩]
        · rw [if_neg h62, if_neg (fun q => h62 q.1)]
    by_cases h62 : sgT T e s.1 = 62
    · rw [if_pos h62]
      dsimp only
      obtain ⟨ν', e1, o, e2⟩ := key (fun ν' => ∃ o, RS0 T e ν' (s.1 + 1) s.2.1 o [] s.2.2) (by
        rw [hPA, if_pos h62]
        exact fun ν'' o h => ⟨o, h⟩)
      exact ⟨ν', o, e1, e2⟩
    · rw [if_neg h62]
      dsimp only
      obtain ⟨ν', e1, e2⟩ := key (fun ν' => ν' 108 29 = nI (1000 * 1 + s.1) ∧ ER (1, s.1)) (by
        rw [hPA, if_neg h62]
        exact fun ν'' h h2 => ⟨h, h2⟩)
      exact ⟨ν', e1, e2⟩
