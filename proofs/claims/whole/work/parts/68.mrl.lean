/-! E: the reference reads effects, a rule -/
theorem l_isSide (c : Int32) (μ : am_Mu) : fM_isSide c μ = some (b2i (c = 120 ∨ c = 121), μ) := by
  unfold fM_isSide fM_isSide_12
  by_cases h1 : c = 120
  · rw [if_pos h1, b2i_t (Or.inl h1)]
  · rw [if_neg h1]
    by_cases h2 : c = 121
    · rw [if_neg (by simpa using h2), b2i_t (Or.inr h2)]
    · rw [if_pos h2, b2i_f (by rintro (h | h) <;> contradiction)]
theorem FS.pl {e : Nat} {ν : am_Mu} {x : Nat × Nat} (h : FS e ν x) {y : Int32} {q : Nat} (hy : y = nI q) (hq : q ≤ 500) : FS e (am_up ν 108 27 y) x := by
  obtain ⟨a1, a2, a3, a4, -, a7, d, a8, a9⟩ := h
  exact ⟨by simp [upa, a1], a2, a3, a4, ⟨q, by rw [up_eq, hy], hq⟩, by simp [upa, a7], d, by simp [upa, a8], a9⟩
theorem FS.er {e : Nat} {ν : am_Mu} {x : Nat × Nat} (h : FS e ν x) : ν 108 29 = nI (1000 * x.1 + x.2) ∧ ER x := ⟨h.1, h.2.1, h.2.2.1, h.2.2.2.1⟩
theorem m_43F {e : Nat} {ν : am_Mu} {x : Nat × Nat} (h : FS e ν x) (k4 : Int32 → Int32 → am_Mu → Option am_Mu) (a : Int32) : fM_effects_43 k4 a ν = some ν := by
  unfold fM_effects_43
  rw [if_neg (Int32.not_le.mpr h.pos)]
theorem m_133F {e : Nat} {ν : am_Mu} {x : Nat × Nat} (h : FS e ν x) (k4 : Int32 → Int32 → am_Mu → Option am_Mu) (a b c d : Int32) : fM_effects_133 k4 a b c d ν = some (am_up ν 108 27 (ν 108 27 + 1)) := by
  unfold fM_effects_133
  rw [if_neg (Int32.not_le.mpr h.pos)]
theorem m_101F {e : Nat} (he : e ≤ 240) {ν : am_Mu} {x : Nat × Nat} (h : FS e ν x) (k4 : Int32 → Int32 → am_Mu → Option am_Mu) (a b c : Int32) {q : Nat} (hq : ν 108 27 = nI q) (hq2 : q ≤ 400) : ∃ ν', fM_effects_101 k4 a b c ν = some ν' ∧ ν' 108 29 = nI (1000 * x.1 + x.2) := by
  have h1 : FS e (am_up ν 108 27 (ν 108 27 + 1)) x := h.pl (q := q + 1) (by rw [hq]; exact nI_plus _ 1) (by omega)
  obtain ⟨d, hd⟩ := m_hereF he h1
  unfold fM_effects_101
  rw [hd, Option.bind_some]
  dsimp only
  rw [l_isMark, Option.bind_some]
  dsimp only
  by_cases hb : b2i (0 ≤ d - 97 ∧ d - 97 ≤ 7) = 0
  · rw [if_neg (by simpa using hb)]
    obtain ⟨ν2, f1, f2⟩ := m_failsF h1 1
    rw [f1, Option.bind_some, m_133F f2]
    exact ⟨_, rfl, by rw [up_ne (by decide)]; exact f2.1⟩
  · rw [if_pos hb, m_133F h1]
    exact ⟨_, rfl, by rw [up_ne (by decide)]; exact h1.1⟩
theorem m_effs {T : Nat → Int32} {e : Nat} (he : e ≤ 240) {k o b N : Nat} {out : List Int32} (hN : N < 24) : ∀ q n p acc (ν : am_Mu), q ≤ 4 → q + 1 < n → RS0 T e ν p k o [] out → p ≤ e → ν 108 30 = nI N → acc.length + q = b + 4 → b ≤ acc.length → (∀ j, b ≤ j → j < acc.length → ν 127 (4 * N + (j - b)) = acc.getD j 0) → match sp_eff T e q p acc with
    | .ok w => ∃ ν', fM_effects_4 n (nI (4 - q)) 1 ν = some ν' ∧ RS0 T e ν' w.1 k o [] out ∧ (∀ j, b ≤ j → j < w.2.length → ν' 127 (4 * N + (j - b)) = w.2.getD j 0) ∧ ν' 126 N = nI (w.2.length - b) ∧ (∀ i, i < 4 * N → ν' 127 i = ν 127 i) ∧ ∀ i, ¬ i = N → ν' 126 i = ν 126 i
    | .error x => ∃ ν', fM_effects_4 n (nI (4 - q)) 1 ν = some ν' ∧ ν' 108 29 = nI (1000 * x.1 + x.2) ∧ ER x := by
  intro q
  induction q with
  | zero =>
    intro n p acc ν hq hn h hp h30 hacc hb h127
    obtain ⟨n, rfl⟩ : ∃ k, n = k + 1 := ⟨n - 1, by omega⟩
    have st : fM_effects_4 (n + 1) (nI (4 - 0)) 1 ν = if sdT T e p then ((fM_fails 3 ν).bind fun q7 => fM_effects_43 (fM_effects_4 n) (nI (4 - 0)) q7) else ((fM_fails 1 ν).bind fun q8 => fM_effects_43 (fM_effects_4 n) (nI (4 - 0)) q8) := by
      rw [fM_effects_4, if_neg (by decide), if_neg (by rw [h.2.2.1]; decide), m_here he h (by omega), Option.bind_some]
      dsimp only
      rw [l_isSide, Option.bind_some]
      dsimp only
      have hsd : (hrT T e p = 120 ∨ hrT T e p = 121) ↔ sdT T e p := by rw [hr_eq (by decide) (by decide), hr_eq (by decide) (by decide)]
      by_cases hs : sdT T e p
      · rw [if_pos hs, b2i_t (hsd.mpr hs), if_pos (by decide), if_neg (by decide)]
      · rw [if_neg hs, b2i_f (fun h => hs (hsd.mp h)), if_neg (by decide)]
    rw [st]
    unfold sp_eff
    by_cases hs : sdT T e p
    · rw [if_pos hs, if_pos hs]
      dsimp only
      obtain ⟨ν1, f1, f2, -⟩ := m_fails he h (by omega) (by simp) 3 (by omega)
      change fM_fails 3 ν = some ν1 at f1
      rw [f1, Option.bind_some, m_43F f2]
      exact ⟨ν1, rfl, f2.er⟩
    · rw [if_neg hs, if_neg hs]
      dsimp only
      obtain ⟨ν1, f1, f2, -⟩ := m_fails he h (by omega) (by simp) 1 (by omega)
      change fM_fails 1 ν = some ν1 at f1
      rw [f1, Option.bind_some, m_43F f2]
      exact ⟨ν1, rfl, f2.er⟩
  | succ q ih =>
    intro n p acc ν hq hn h hp h30 hacc hb h127
    obtain ⟨n, rfl⟩ : ∃ k, n = k + 1 := ⟨n - 1, by omega⟩
    have st : fM_effects_4 (n + 1) (nI (4 - (q + 1))) 1 ν = if sdT T e p then fM_effects_65 (fM_effects_4 n) (nI (4 - (q + 1))) (if sgT T e p = 121 then 1 else 0) ν else ((fM_fails 1 ν).bind fun q8 => fM_effects_43 (fM_effects_4 n) (nI (4 - (q + 1))) q8) := by
      rw [fM_effects_4, if_neg (by decide), if_neg (by rw [h.2.2.1]; decide), m_here he h (by omega), Option.bind_some]
      dsimp only
      rw [l_isSide, Option.bind_some]
      dsimp only
      have hsd : (hrT T e p = 120 ∨ hrT T e p = 121) ↔ sdT T e p := by rw [hr_eq (by decide) (by decide), hr_eq (by decide) (by decide)]
      by_cases hs : sdT T e p
      · rw [if_pos hs, b2i_t (hsd.mpr hs), if_pos (by decide), if_pos (by show ¬ _ = nI 4; rw [nI_inj (by omega) (by omega)]; omega)]
        unfold fM_effects_43
        rw [h.2.2.1, if_pos (by decide), m_here he h (by omega), Option.bind_some]
        dsimp only
        by_cases h121 : sgT T e p = 121
        · rw [if_neg (by rw [m_is 121 (by decide) (by decide)]; simpa using h121), if_pos h121]
        · rw [if_pos (by rw [m_is 121 (by decide) (by decide)]; exact h121), if_neg h121]
      · rw [if_neg hs, b2i_f (fun h => hs (hsd.mp h)), if_neg (by decide)]
    rw [st]
    unfold sp_eff
    by_cases hs : sdT T e p
    · rw [if_pos hs, if_pos hs]
      have hpe : p < e := by rcases hs with h | h <;> exact sg_lt h (by decide)
      have h1 := m_place0 h
      have e27 : am_up ν 108 27 (ν 108 27 + 1) 108 27 = nI (p + 1) := h1.1
      unfold fM_effects_65
      rw [m_here he h1 (by omega), Option.bind_some]
      dsimp only
      by_cases hpm : pmT T e (p + 1)
      · rw [if_pos hpm]
        have hpe1 : p + 1 < e := by rcases hpm with h | h <;> exact sg_lt h (by decide)
        have ehr := hr_sg (T := T) hpe1
        have e65 : ∀ (k4 : Int32 → Int32 → am_Mu → Option am_Mu) (a s : Int32), (if hrT T e (p + 1) = 43 then fM_effects_101 k4 a s (hrT T e (p + 1)) (am_up ν 108 27 (ν 108 27 + 1)) else if hrT T e (p + 1) = 45 then fM_effects_101 k4 a s (hrT T e (p + 1)) (am_up ν 108 27 (ν 108 27 + 1)) else (fM_fails 1 (am_up ν 108 27 (ν 108 27 + 1))).bind fun q4 => fM_effects_101 k4 a s (hrT T e (p + 1)) q4) = fM_effects_101 k4 a s (sgT T e (p + 1)) (am_up ν 108 27 (ν 108 27 + 1)) := by
          intro k4 a s
          rw [ehr]
          rcases hpm with h | h
          · rw [if_pos h]
          · rw [if_neg (by rw [h]; decide), if_pos h]
        rw [e65]
        have h2 := m_place0 h1
        unfold fM_effects_101
        rw [m_here he h2 (by omega), Option.bind_some]
        dsimp only
        rw [l_isMark, Option.bind_some]
        dsimp only
        by_cases hm : mkT T e (p + 2)
        · have hpe2 := mk_lt hm
          have ehr2 := hr_sg (T := T) hpe2
          rw [if_pos hm, show hrT T e (p + 1 + 1) = sgT T e (p + 2) from ehr2, b2i_t ((mk_iff _).mpr ((mk_iff2 _).mp hm)), if_pos (show ¬ (1 : Int32) = 0 by decide)]
          have h3 := m_place0 h2
          unfold fM_effects_133
          rw [h2.2.2.1, if_pos (show (0 : Int32) ≤ 0 by decide)]
          generalize hξ : am_up (am_up (am_up ν 108 27 (ν 108 27 + 1)) 108 27 (am_up ν 108 27 (ν 108 27 + 1) 108 27 + 1)) 108 27 (am_up (am_up ν 108 27 (ν 108 27 + 1)) 108 27 (am_up ν 108 27 (ν 108 27 + 1) 108 27 + 1) 108 27 + 1) = ξ at h3
          have x30 : am_up (am_up ν 108 27 (ν 108 27 + 1)) 108 27 (am_up ν 108 27 (ν 108 27 + 1) 108 27 + 1) 108 30 = nI N := by simp [upa, h30]
          rw [x30]
          have y30 : ξ 108 30 = nI N := by rw [← hξ]; simp [upa, h30]
          have y127 : ∀ j, ξ 127 j = ν 127 j := by intro j; rw [← hξ]; simp [upa]
          have ei : (4 : Int32) * nI N + nI (4 - (q + 1)) = nI (4 * N + (acc.length - b)) := by
            show nI 4 * nI N + _ = _
            rw [nI_mul, nI_plus]
            congr 1
            omega
          have e133 : ∀ (k4 : Int32 → Int32 → am_Mu → Option am_Mu), (if ¬ sgT T e (p + 1) = 43 then fM_effects_177 k4 (nI (4 - (q + 1))) (if sgT T e p = 121 then 1 else 0) (sgT T e (p + 2) - 97) ((4 : Int32) * nI N + nI (4 - (q + 1))) 16 0 ξ else fM_effects_177 k4 (nI (4 - (q + 1))) (if sgT T e p = 121 then 1 else 0) (sgT T e (p + 2) - 97) ((4 : Int32) * nI N + nI (4 - (q + 1))) 16 1 ξ) = ((fM_here (am_up ξ 127 (4 * N + (acc.length - b)) (efC T e p))).bind fun q2 => (if ¬ q2.1 = 44 then fM_effects_204 k4 (nI (4 - (q + 1)) + 1) 0 q2.2 else fM_effects_204 k4 (nI (4 - (q + 1)) + 1) 1 q2.2)) := by
            intro k4
            unfold fM_effects_177 efC
            rw [ei, inb_n (by omega) (by omega), cond_true, nI_clamp (by omega)]
            by_cases h43 : sgT T e (p + 1) = 43
            · rw [if_neg (by simpa using h43), if_pos h43]
              rw [cond_true]
            · rw [if_pos h43, if_neg h43]
          rw [e133]
          have h4 : RS0 T e (am_up ξ 127 (4 * N + (acc.length - b)) (efC T e p)) (p + 3) k o [] out := by
            obtain ⟨a1, a2, a3, a4, a5, a6, a7, a8, a9, a10⟩ := h3
            exact ⟨by simp [upa, a1], by simp [upa, a2], by simp [upa, a3], by simp [upa, a4], by simp [upa, a5], by simp [upa, a6], by simp [upa, a7], fun j hj => absurd hj (by simp), fun i hi => by simpa [upa] using a9 i hi, fun j hj => by simpa [upa] using a10 j hj⟩
          have z127 : ∀ j, b ≤ j → j < (acc ++ [efC T e p]).length → am_up ξ 127 (4 * N + (acc.length - b)) (efC T e p) 127 (4 * N + (j - b)) = (acc ++ [efC T e p]).getD j 0 := by
            intro j hj1 hj2
            rw [List.length_append, List.length_singleton] at hj2
            rw [up_at]
            by_cases hjl : j = acc.length
            · rw [if_pos (by rw [hjl]), hjl]
              simp [List.getD_eq_getElem?_getD]
            · rw [if_neg (by omega), y127, h127 j hj1 (by omega)]
              simp only [List.getD_eq_getElem?_getD, List.getElem?_append_left (show j < acc.length by omega)]
          have z30 : am_up ξ 127 (4 * N + (acc.length - b)) (efC T e p) 108 30 = nI N := by rw [up_row (by decide), y30]
          have z0 : ∀ i, i < 4 * N → am_up ξ 127 (4 * N + (acc.length - b)) (efC T e p) 127 i = ν 127 i := by
            intro i hi
            rw [up_at, if_neg (by omega), y127]
          have z6 : ∀ i, am_up ξ 127 (4 * N + (acc.length - b)) (efC T e p) 126 i = ν 126 i := by
            intro i
            rw [up_row (by decide), ← hξ]
            simp [upa]
          generalize am_up ξ 127 (4 * N + (acc.length - b)) (efC T e p) = ρ at h4 z127 z30 z0 z6
          rw [m_here he h4 (by omega), Option.bind_some]
          dsimp only
          have ec : nI (4 - (q + 1)) + 1 = nI (4 - q) := by rw [show (4 - q) = (4 - (q + 1)) + 1 by omega]; exact nI_plus _ 1
          rw [ec]
          by_cases h44 : sgT T e (p + 3) = 44
          · rw [if_pos h44, if_neg (by rw [m_is 44 (by decide) (by decide)]; simpa using h44)]
            have hpe3 := sg_lt h44 (by decide)
            unfold fM_effects_204 fM_effects_219
            rw [if_neg (by decide)]
            have h5 := m_place0 h4
            have hI := ih n (p + 4) (acc ++ [efC T e p]) _ (by omega) (by omega) h5 (by omega) (by rw [up_ne (by decide)]; exact z30) (by rw [List.length_append, List.length_singleton]; omega) (by rw [List.length_append, List.length_singleton]; omega) (fun j hj1 hj2 => by rw [up_row (by decide)]; exact z127 j hj1 hj2)
            cases hq2 : sp_eff T e q (p + 4) (acc ++ [efC T e p]) with
            | error x =>
              rw [hq2] at hI
              exact hI
            | ok w =>
              rw [hq2] at hI
              dsimp only at hI ⊢
              obtain ⟨ν', i1, i2, i3, i4, i5, i6⟩ := hI
              exact ⟨ν', i1, i2, i3, i4, fun i hi => by rw [i5 i hi, up_row (by decide), z0 i hi], fun i hi => by rw [i6 i hi, up_row (by decide), z6 i]⟩
          · rw [if_neg h44, if_pos (by rw [m_is 44 (by decide) (by decide)]; exact h44)]
            dsimp only
            unfold fM_effects_204 fM_effects_219
            rw [if_pos rfl]
            obtain ⟨n, rfl⟩ : ∃ k, n = k + 1 := ⟨n - 1, by omega⟩
            rw [fM_effects_4, if_pos rfl]
            unfold fM_effects_226
            rw [up_ne (by decide), z30, inb_n (by omega) (by omega), cond_true, nI_clamp (by omega)]
            refine ⟨_, rfl, ?_, ?_, ?_, fun i hi => by rw [up_row (by decide), up_row (by decide), z0 i hi], fun i hi => by rw [up_ne2 hi, up_row (by decide), z6 i]⟩
            · obtain ⟨a1, a2, a3, a4, a5, a6, a7, a8, a9, a10⟩ := h4
              exact ⟨by rw [up_row (by decide), up_eq, a1]; exact nI_plus _ 0, by simp [upa, a2], by simp [upa, a3], by simp [upa, a4], by simp [upa, a5], by simp [upa, a6], by simp [upa, a7], fun j hj => absurd hj (by simp), fun i hi => by simpa [upa] using a9 i hi, fun j hj => by simpa [upa] using a10 j hj⟩
            · intro j hj1 hj2
              rw [up_row (by decide), up_row (by decide)]
              exact z127 j hj1 hj2
            · rw [up_eq, List.length_append, List.length_singleton]
              congr 1
              omega
        · rw [if_neg hm, b2i_f (fun hq => hm ((mk_iff2 _).mpr ((hr_in (by decide) (by decide)).mp ((mk_iff _).mp hq)))), if_neg (by decide)]
          dsimp only
          obtain ⟨ν1, f1, f2, f3⟩ := m_fails he h2 (by omega) (by simp) 1 (by omega)
          change fM_fails 1 _ = some ν1 at f1
          rw [f1, Option.bind_some, m_133F f2]
          refine ⟨_, rfl, ?_, f2.er.2⟩
          rw [up_ne (by decide)]
          exact f2.1
      · rw [if_neg hpm]
        dsimp only
        have n43 : ¬ hrT T e (p + 1) = 43 := by rw [hr_eq (by decide) (by decide)]; exact fun h => hpm (Or.inl h)
        have n45 : ¬ hrT T e (p + 1) = 45 := by rw [hr_eq (by decide) (by decide)]; exact fun h => hpm (Or.inr h)
        rw [if_neg n43, if_neg n45]
        obtain ⟨ν1, f1, f2, f3⟩ := m_fails he h1 (by omega) (by simp) 1 (by omega)
        change fM_fails 1 _ = some ν1 at f1
        rw [f1, Option.bind_some]
        obtain ⟨ν2, g1, g2⟩ := m_101F he f2 (fM_effects_4 n) (nI (4 - (q + 1))) (if sgT T e p = 121 then 1 else 0) (hrT T e (p + 1)) (q := p + 1) (by rw [f3, up_ne (by decide)]; exact e27) (by omega)
        exact ⟨ν2, g1, g2, f2.er.2⟩
    · rw [if_neg hs, if_neg hs]
      dsimp only
      obtain ⟨ν1, f1, f2, -⟩ := m_fails he h (by omega) (by simp) 1 (by omega)
      change fM_fails 1 ν = some ν1 at f1
      rw [f1, Option.bind_some, m_43F f2]
      exact ⟨ν1, rfl, f2.er⟩
def ML (ν : am_Mu) (rs : List LR) : Prop := ν 108 30 = nI rs.length ∧ ∀ r, r < rs.length → ν 123 r = (rs.getD r dR).1 ∧ ν 124 r = nI (flS (rs.take r)).length ∧ ν 125 r = nI (flS (rs.take (r + 1))).length ∧ ν 126 r = nI (rs.getD r dR).2.2.length ∧ ∀ j, j < (rs.getD r dR).2.2.length → ν 127 (4 * r + j) = (rs.getD r dR).2.2.getD j 0
theorem m_kind {T : Nat → Int32} {e p : Nat} (μ : am_Mu) : fM_kindOf (hrT T e p) μ = some (kdT T e p, μ) := by
  unfold fM_kindOf kdT
  by_cases h1 : sgT T e p = 116
  · rw [if_neg (by rw [m_is 116 (by decide) (by decide)]; simpa using h1), if_neg (by rw [h1]; decide), if_neg (by rw [h1]; decide), if_neg (by rw [h1]; decide), if_pos h1]
  · rw [if_pos (by rw [m_is 116 (by decide) (by decide)]; exact h1)]
    by_cases h2 : sgT T e p = 107
    · rw [if_neg (by rw [m_is 107 (by decide) (by decide)]; simpa using h2), if_neg (by rw [h2]; decide), if_pos h2]
    · rw [if_pos (by rw [m_is 107 (by decide) (by decide)]; exact h2)]
      by_cases h3 : sgT T e p = 99
      · rw [if_neg (by rw [m_is 99 (by decide) (by decide)]; simpa using h3), if_pos h3]
      · rw [if_pos (by rw [m_is 99 (by decide) (by decide)]; exact h3), if_neg h3, if_neg h2]
        by_cases h4 : sgT T e p = 108
        · rw [if_neg (by rw [m_is 108 (by decide) (by decide)]; simpa using h4), if_pos h4]
        · rw [if_pos (by rw [m_is 108 (by decide) (by decide)]; exact h4), if_neg h4, if_neg h1]
/-- ahead of a rule, whatever lies on the stack -/
def RS1 (T : Nat → Int32) (e : Nat) (ν : am_Mu) (p k : Nat) (out : List Int32) : Prop := ν 108 27 = nI p ∧ ν 108 28 = nI e ∧ ν 108 29 = 0 ∧ ν 108 31 = nI out.length ∧ ν 108 32 = nI k ∧ CodeIs ν out ∧ ∀ j, j < e → ν 109 j &&& 255 = T j
theorem RS0.to1 {T : Nat → Int32} {e : Nat} {ν : am_Mu} {p k o : Nat} {σ out : List Int32} (h : RS0 T e ν p k o σ out) : RS1 T e ν p k out := ⟨h.1, h.2.1, h.2.2.1, h.2.2.2.1, h.2.2.2.2.1, h.2.2.2.2.2.2.2.2.1, h.2.2.2.2.2.2.2.2.2⟩
theorem m_here1 {T : Nat → Int32} {e : Nat} (he : e ≤ 240) {ν : am_Mu} {p k : Nat} {out : List Int32} (h : RS1 T e ν p k out) (hp : p ≤ 1000) : fM_here ν = some (hrT T e p, ν) := by
  obtain ⟨h1, h2, h3, h4, h5, h9, h10⟩ := h
  unfold fM_here hrT
  rw [h1, h2]
  by_cases hpe : p < e
  · rw [if_neg (by rw [nI_le_iff (by omega) (by omega)]; omega), inb_n (by omega) (by omega), cond_true, nI_clamp (by omega), if_pos hpe, h10 _ hpe]
  · rw [if_pos ((nI_le_iff (by omega) (by omega)).mpr (by omega)), if_neg hpe]
def FX (ν : am_Mu) (x : Nat × Nat) : Prop := ν 108 29 = nI (1000 * x.1 + x.2) ∧ ER x
theorem FX.pos {ν : am_Mu} {x : Nat × Nat} (h : FX ν x) : 0 < ν 108 29 := by
  obtain ⟨h1, h2, h3, h4⟩ := h
  rw [h1]
  exact (nI_lt_iff (a := 0) (by omega) (by omega)).mpr (by omega)
theorem m_fails1 {T : Nat → Int32} {e : Nat} {ν : am_Mu} {p k : Nat} {out : List Int32} (h : RS1 T e ν p k out) (hp : p ≤ 240) (f : Nat) (hf : 0 < f ∧ f < 7) : ∃ ν', fM_fails (nI f) ν = some ν' ∧ FX ν' (f, p) ∧ ν' = am_up ν 108 29 (nI (1000 * f + p)) := by
  refine ⟨am_up ν 108 29 (nI (1000 * f + p)), ?_, ⟨up_eq, hf.1, hf.2, hp⟩, rfl⟩
  unfold fM_fails
  rw [h.2.2.1, if_pos (by decide), h.1, show (1000 : Int32) * nI f + nI p = nI (1000 * f + p) by show nI 1000 * nI f + nI p = _; rw [nI_mul, nI_plus]]
theorem m_35F {ν : am_Mu} {x : Nat × Nat} (h : FX ν x) (a : Int32) : fM_rule_35 a ν = some ν := by
  unfold fM_rule_35
  rw [if_neg (Int32.not_le.mpr h.pos)]
theorem m_77F {ν : am_Mu} {x : Nat × Nat} (h : FX ν x) {N : Nat} (hN : N < 24) (h30 : ν 108 30 = nI N) : ∃ ν', fM_rule_77 ν = some ν' ∧ ν' 108 29 = nI (1000 * x.1 + x.2) := by
  have hp := h.pos
  unfold fM_rule_77 fM_condition
  rw [h30, inb_n hN (by omega), cond_true, show am_F = 99999 + 1 from rfl, fM_condition_12, if_neg (by decide), if_pos (by simp only [upa]; simp; grind)]
  unfold fM_condition_124
  rw [if_neg (by simp only [upa]; simp; grind), Option.bind_some]
  have e30 : ∀ (ξ : am_Mu), am_up (am_up ξ 108 34 0) 108 33 0 108 30 = ξ 108 30 := by intro ξ; simp [upa]
  have e29 : ∀ (ξ : am_Mu), am_up (am_up ξ 108 34 0) 108 33 0 108 29 = ξ 108 29 := by intro ξ; simp [upa]
  generalize hξ : am_up (am_up ν 108 27 (ν 108 27 + 1)) 124 (nI N).toNatClampNeg (ν 108 31) = ξ
  have x30 : ξ 108 30 = nI N := by rw [← hξ]; simp [upa, h30]
  have x29 : ξ 108 29 = ν 108 29 := by rw [← hξ]; simp [upa]
  rw [e30, x30, inb_n hN (by omega), cond_true, e29, x29, if_pos (by grind)]
  unfold fM_rule_128
  refine ⟨_, rfl, ?_⟩
  rw [up_ne (by decide), up_row (by decide), e29, x29]
  exact h.1
theorem m_rule {T : Nat → Int32} {e : Nat} (he : e ≤ 240) {p k : Nat} {rs : List LR} {ν : am_Mu} (h : RS1 T e ν p k (flS rs)) (hl : ML ν rs) (hf : RFit e p k rs) (h24 : rs.length ≤ 24) (len4 : ∀ j, j < rs.length → (rs.getD j dR).2.2.length ≤ 4) : match sp_rule T e p k rs with
    | .ok w => ∃ ν' o', fM_rule ν = some ν' ∧ RS0 T e ν' w.1 w.2.1 o' [] (flS (rs ++ [w.2.2])) ∧ ML ν' (rs ++ [w.2.2])
    | .error x => ∃ ν', fM_rule ν = some ν' ∧ ν' 108 29 = nI (1000 * x.1 + x.2) ∧ ER x := by
  obtain ⟨f1, f2, f3, f4⟩ := hf
  have one : fM_rule ν = if kdT T e p = -1 then ((fM_fails 1 ν).bind fun q6 => fM_rule_35 (kdT T e p) q6) else if rs.length < 24 then fM_rule_35 (kdT T e p) ν else ((fM_fails 4 ν).bind fun q5 => fM_rule_35 (kdT T e p) q5) := by
    unfold fM_rule
    rw [m_here1 he h (by omega), Option.bind_some]
    dsimp only
    rw [m_kind, Option.bind_some]
    dsimp only
    by_cases hk : kdT T e p = -1
    · rw [if_neg (by simpa using hk), if_pos hk]
    · rw [if_pos hk, if_neg hk]
      by_cases hn : rs.length < 24
      · rw [if_pos hn, if_pos (by rw [hl.1]; show ¬ _ = nI 24; rw [nI_inj (by omega) (by omega)]; omega)]
      · rw [if_neg hn, if_neg (by rw [hl.1, show rs.length = 24 by omega]; decide)]
  rw [one]
  unfold sp_rule
  by_cases hk : kdT T e p = -1
  · rw [if_pos hk, if_pos hk]
    dsimp only
    obtain ⟨ν1, g1, g2, -⟩ := m_fails1 h (by omega) 1 (by omega)
    change fM_fails 1 ν = some ν1 at g1
    rw [g1, Option.bind_some, m_35F g2]
    exact ⟨ν1, rfl, g2⟩
  · rw [if_neg hk, if_neg hk]
    have hpe := (kd_nI hk).2
    by_cases hn : rs.length < 24
    · rw [if_pos hn, if_pos hn]
      unfold fM_rule_35
      rw [h.2.2.1, if_pos (show (0 : Int32) ≤ 0 by decide), hl.1, inb_n hn (by omega), cond_true, nI_clamp (by omega)]
      have h1 : RS1 T e (am_up (am_up ν 123 rs.length (kdT T e p)) 108 27 (ν 108 27 + 1)) (p + 1) k (flS rs) := by
        obtain ⟨a1, a2, a3, a4, a5, a9, a10⟩ := h
        exact ⟨by rw [up_eq, a1]; exact nI_plus _ 1, by simp [upa, a2], by simp [upa, a3], by simp [upa, a4], by simp [upa, a5], fun i hi => by simpa [upa] using a9 i hi, fun j hj => by simpa [upa] using a10 j hj⟩
      have b30 : am_up (am_up ν 123 rs.length (kdT T e p)) 108 27 (ν 108 27 + 1) 108 30 = nI rs.length := by simp [upa, hl.1]
      have b123 : ∀ j, am_up (am_up ν 123 rs.length (kdT T e p)) 108 27 (ν 108 27 + 1) 123 j = if j = rs.length then kdT T e p else ν 123 j := by intro j; rw [up_row (by decide), up_at]
      have bo : ∀ a, ¬ a = 123 → ¬ a = 108 → am_up (am_up ν 123 rs.length (kdT T e p)) 108 27 (ν 108 27 + 1) a = ν a := by intro a h1 h2; rw [up_row h2, up_row h1]
      generalize am_up (am_up ν 123 rs.length (kdT T e p)) 108 27 (ν 108 27 + 1) = β at h1 b30 b123 bo
      rw [m_here1 he h1 (by omega), Option.bind_some]
      dsimp only
      by_cases h58 : sgT T e (p + 1) = 58
      · rw [if_pos h58, if_pos (by rw [m_is 58 (by decide) (by decide)]; exact h58)]
        have hpe1 := sg_lt h58 (by decide)
        unfold fM_rule_77
        rw [b30, inb_n hn (by omega), cond_true, nI_clamp (by omega), h1.2.2.2.1]
        have h2 : RS T e (am_up (am_up (am_up (am_up β 108 27 (β 108 27 + 1)) 124 rs.length (nI (flS rs).length)) 108 34 0) 108 33 0) (p + 2) k [] (flS rs) := by
          obtain ⟨a1, a2, a3, a4, a5, a9, a10⟩ := h1
          refine ⟨⟨by rw [up_ne (by decide), up_ne (by decide), up_row (by decide), up_eq, a1]; exact nI_plus _ 1, by simp [upa, a2], by simp [upa, a3], by simp [upa, a4], by simp [upa, a5], by simp [upa]; rfl, by simp [upa]; rfl, fun j hj => absurd hj (by simp), fun i hi => by simpa [upa] using a9 i hi, fun j hj => by simpa [upa] using a10 j hj⟩, by omega, by simp; omega, f3, by simp⟩
        have hc := m_cond he h2
        have c30 : am_up (am_up β 108 27 (β 108 27 + 1)) 124 rs.length (nI (flS rs).length) 108 30 = nI rs.length := by simp [upa, b30]
        have c124 : ∀ j, am_up (am_up β 108 27 (β 108 27 + 1)) 124 rs.length (nI (flS rs).length) 124 j = if j = rs.length then nI (flS rs).length else β 124 j := by intro j; rw [up_at, up_row (by decide)]
        have co : ∀ a, ¬ a = 124 → ¬ a = 108 → am_up (am_up β 108 27 (β 108 27 + 1)) 124 rs.length (nI (flS rs).length) a = β a := by intro a h1 h2; rw [up_row h1, up_row h2]
        generalize am_up (am_up β 108 27 (β 108 27 + 1)) 124 rs.length (nI (flS rs).length) = γ at hc c30 c124 co
        cases hs : PR_bind (sp_cond T e (p + 2, k, flS rs)) (sp_expect T e 62) with
        | error x =>
          rw [hs] at hc
          dsimp only at hc ⊢
          obtain ⟨ν1, d1, d2, d3⟩ := hc
          have fr := w_fM_condition d1
          have d30 : ν1 108 30 = nI rs.length := by rw [fr 108 30 rfl, c30]
          rw [d1, Option.bind_some, d30, inb_n hn (by omega), cond_true, if_pos (by
            rw [d2, show (0 : Int32) = nI 0 from rfl]
            obtain ⟨x1, x2, x3⟩ := d3
            rw [nI_inj (by omega) (by omega)]
            omega)]
          unfold fM_rule_128
          refine ⟨_, rfl, ?_, d3⟩
          rw [up_ne (by decide), up_row (by decide)]
          exact d2
        | ok s =>
          rw [hs] at hc
          dsimp only at hc ⊢
          obtain ⟨ν1, o1, d1, d2⟩ := hc
          have fr := w_fM_condition d1
          have d30 : ν1 108 30 = nI rs.length := by rw [fr 108 30 rfl, c30]
          -- the steps
          have hsp : s.1 ≤ e ∧ ∃ sg, s.2.2 = flS rs ++ sg := by
            unfold PR_bind at hs
            cases hq : sp_cond T e (p + 2, k, flS rs) with
            | error x =>
              rw [hq] at hs
              cases hs
            | ok r =>
              rw [hq] at hs
              dsimp only at hs
              obtain ⟨⟨⟨-, -, -, -, sg, c5, -⟩, -⟩, -⟩ := cond_ok he (p + 2, k, flS rs) r f3 hq
              unfold sp_expect at hs
              split at hs
              · rename_i h62
                have := sg_lt h62 (by decide)
                cases hs
                exact ⟨by show r.1 + 1 ≤ e; omega, sg, c5⟩
              · cases hs
          obtain ⟨hse, sg, c5⟩ := hsp
          rw [d1, Option.bind_some, d30, inb_n hn (by omega), cond_true, if_neg (by rw [d2.2.2.1]; decide), nI_clamp (by omega), d2.2.2.2.1]
          have h3 : RS0 T e (am_up ν1 125 rs.length (nI s.2.2.length)) s.1 s.2.1 o1 [] s.2.2 := by
            obtain ⟨a1, a2, a3, a4, a5, a6, a7, a8, a9, a10⟩ := d2
            exact ⟨by simp [upa, a1], by simp [upa, a2], by simp [upa, a3], by simp [upa, a4], by simp [upa, a5], by simp [upa, a6], by simp [upa, a7], fun j hj => absurd hj (by simp), fun i hi => by simpa [upa] using a9 i hi, fun j hj => by simpa [upa] using a10 j hj⟩
          have heff := m_effs he (b := (flE rs).length) hn 4 am_F s.1 (flE rs) _ (by omega) (by unfold am_F; omega) h3 hse (by rw [up_row (by decide)]; exact d30) rfl (Nat.le_refl _) (fun j h1 h2 => by omega)
          have er : ∀ ξ, fM_effects ξ = fM_effects_4 am_F (nI (4 - 4)) 1 ξ := fun _ => rfl
          cases hq : sp_eff T e 4 s.1 (flE rs) with
          | error x =>
            rw [hq] at heff
            dsimp only at heff ⊢
            obtain ⟨ν2, u1, u2, u3⟩ := heff
            rw [er, u1, Option.bind_some]
            unfold fM_rule_128
            refine ⟨_, rfl, ?_, u3⟩
            rw [up_ne (by decide)]
            exact u2
          | ok w =>
            rw [hq] at heff
            dsimp only at heff ⊢
            obtain ⟨ν2, u1, u2, u3, u4, u5, u6⟩ := heff
            obtain ⟨-, -, g, e3, e4, -⟩ := eff_ok 4 s.1 (flE rs) w hq
            have fr2 := w_fM_effects ((er _).trans u1)
            have e1 : s.2.2.drop (flS rs).length = sg := by rw [c5]; exact drop_app
            have e2 : w.2.drop (flE rs).length = g := by rw [e3]; exact drop_app
            rw [er, u1, Option.bind_some, e1, e2]
            unfold fM_rule_128
            have v30 : ν2 108 30 = nI rs.length := by rw [fr2 108 30 rfl, up_row (by decide), d30]
            have eS : flS (rs ++ [(kdT T e p, sg, g)]) = s.2.2 := by
              rw [flS_app, c5]
              show flS rs ++ (sg ++ []) = _
              rw [List.append_nil]
            have wl : w.2.length - (flE rs).length = g.length := by rw [e3, List.length_append]; omega
            refine ⟨_, o1, rfl, ?_, ?_, ?_⟩
            · rw [eS]
              obtain ⟨a1, a2, a3, a4, a5, a6, a7, a8, a9, a10⟩ := u2
              exact ⟨by simp [upa, a1], by simp [upa, a2], by simp [upa, a3], by simp [upa, a4], by simp [upa, a5], by simp [upa, a6], by simp [upa, a7], fun j hj => absurd hj (by simp), fun i hi => by simpa [upa] using a9 i hi, fun j hj => by simpa [upa] using a10 j hj⟩
            · rw [up_eq, v30, List.length_append, List.length_singleton]
              exact nI_plus _ 1
            · intro j hj
              rw [List.length_append, List.length_singleton] at hj
              have r123 : am_up ν2 108 30 (ν2 108 30 + 1) 123 j = if j = rs.length then kdT T e p else ν 123 j := by
                rw [up_row (by decide), fr2 123 j rfl, up_row (by decide), fr 123 j rfl, co 123 (by decide) (by decide), b123]
              have r124 : am_up ν2 108 30 (ν2 108 30 + 1) 124 j = if j = rs.length then nI (flS rs).length else ν 124 j := by
                rw [up_row (by decide), fr2 124 j rfl, up_row (by decide), fr 124 j rfl, c124, bo 124 (by decide) (by decide)]
              have r125 : am_up ν2 108 30 (ν2 108 30 + 1) 125 j = if j = rs.length then nI s.2.2.length else ν 125 j := by
                rw [up_row (by decide), fr2 125 j rfl, up_at, fr 125 j rfl, co 125 (by decide) (by decide), bo 125 (by decide) (by decide)]
              rw [r123, r124, r125, up_row (by decide), up_row (by decide)]
              by_cases hjl : j = rs.length
              · rw [if_pos hjl, if_pos hjl, if_pos hjl, hjl]
                have et : (rs ++ [(kdT T e p, sg, g)]).take (rs.length + 1) = rs ++ [(kdT T e p, sg, g)] := List.take_of_length_le (by simp)
                have et0 : (rs ++ [(kdT T e p, sg, g)]).take rs.length = rs := List.take_left
                have eg : (rs ++ [(kdT T e p, sg, g)]).getD rs.length dR = (kdT T e p, sg, g) := by simp [List.getD_eq_getElem?_getD]
                rw [et, et0, eS, eg]
                refine ⟨rfl, rfl, rfl, by rw [u4, wl], ?_⟩
                intro i hi
                have hi' : i < g.length := hi
                have := u3 ((flE rs).length + i) (by omega) (by rw [e3, List.length_append]; omega)
                rw [show (flE rs).length + i - (flE rs).length = i by omega] at this
                rw [this, e3]
                simp only [List.getD_eq_getElem?_getD, List.getElem?_append_right (show (flE rs).length ≤ (flE rs).length + i by omega), show (flE rs).length + i - (flE rs).length = i by omega]
              · rw [if_neg hjl, if_neg hjl, if_neg hjl, take_app1 (by omega)]
                have et0 : (rs ++ [(kdT T e p, sg, g)]).take j = rs.take j := List.take_append_of_le_length (by omega)
                have eg : (rs ++ [(kdT T e p, sg, g)]).getD j dR = rs.getD j dR := by simp only [List.getD_eq_getElem?_getD, List.getElem?_append_left (show j < rs.length by omega)]
                rw [et0, eg]
                obtain ⟨m1, m2, m3, m4, m5⟩ := hl.2 j (by omega)
                refine ⟨m1, m2, m3, ?_, ?_⟩
                · rw [u6 j hjl, up_row (by decide), fr 126 j rfl, co 126 (by decide) (by decide), bo 126 (by decide) (by decide), m4]
                · intro i hi
                  have h4' := len4 j (by omega)
                  rw [u5 _ (by omega), up_row (by decide), fr 127 _ rfl, co 127 (by decide) (by decide), bo 127 (by decide) (by decide), m5 i hi]
      · rw [if_neg h58, if_neg (by rw [m_is 58 (by decide) (by decide)]; exact h58)]
        dsimp only
        obtain ⟨ν1, g1, g2, g3⟩ := m_fails1 h1 (by omega) 1 (by omega)
        change fM_fails 1 β = some ν1 at g1
        rw [g1, Option.bind_some]
        obtain ⟨ν2, k1, k2⟩ := m_77F g2 hn (by rw [g3, up_ne (by decide)]; exact b30)
        exact ⟨ν2, k1, k2, g2.2⟩
    · rw [if_neg hn, if_neg hn]
      dsimp only
      obtain ⟨ν1, g1, g2, -⟩ := m_fails1 h (by omega) 4 (by omega)
      change fM_fails 4 ν = some ν1 at g1
      rw [g1, Option.bind_some, m_35F g2]
      exact ⟨ν1, rfl, g2⟩
