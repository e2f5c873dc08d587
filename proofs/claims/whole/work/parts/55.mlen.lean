/-! E: the tour, the reference: the length, where a tour begins -/
theorem full_has : ∀ n : Fin 9, ∀ i : Fin 8, hasB (2 ^ n.val - 1) i.val ↔ i.val < n.val := by decide +kernel
theorem full8 {n i : Nat} (hn : n ≤ 8) (hi : i < 8) : hasB (2 ^ n - 1) i ↔ i < n := full_has ⟨n, by omega⟩ ⟨i, hi⟩
theorem m_begins {n : Nat} (hn : n ≤ 8) {ν : am_Mu} (e88 : ν 108 88 = nI n) {w : Nat → Int32} {T : Nat} (hT : T < 2 ^ n) {p : Option Nat} (hp : ∀ k, p = some k → k < 8) {len : Int32} (hw : ∀ j, j < n → hasB T j → (p = none → ν 174 (8 * T + j) = w j) ∧ ∀ k, p = some k → ∃ x, fM_way0 (nI k) (nI j) ν = some (x, ν) ∧ ν 174 (8 * T + j) + x = w j) {b : Nat} (hb : b < n) (hbT : hasB T b) (hbw : w b = len) (hfst : ∀ j, j < b → hasB T j → ¬ w j = len) : fM_beginsAt (nI T) len (pv p) ν = some (nI b, ν) := by
  have hT2 := p2_le hn
  have key : ∀ q j f, j + q = b → q < f → fM_beginsAt_3 f (nI T) len (pv p) (nI j) ν = some (nI b, ν) := by
    have step : ∀ j f, j ≤ b → (j < b → fM_beginsAt_3 f (nI T) len (pv p) (nI (j + 1)) ν = some (nI b, ν)) → fM_beginsAt_3 (f + 1) (nI T) len (pv p) (nI j) ν = some (nI b, ν) := by
      intro j f hj hnx
      have hlt : ¬ nI n ≤ nI j := by
        rw [nI_le_iff (by omega) (by omega)]
        omega
      have ej : nI j + 1 = nI (j + 1) := nI_plus j 1
      rw [fM_beginsAt_3, e88, if_neg hlt, l_has (by omega) (by omega), Option.bind_some]
      dsimp only
      by_cases hs : hasB T j
      · have eix : (8 : Int32) * nI T + nI j = nI (8 * T + j) := by
          show nI 8 * _ + nI j = _
          rw [nI_mul, nI_plus]
        rw [b2i_t hs, if_neg (by decide), eix, inb_n (by omega) (by omega), cond_true, nI_clamp (show 8 * T + j < 2 ^ 31 by omega)]
        obtain ⟨w1, w2⟩ := hw j (by omega) hs
        have fin : ∀ x, ν 174 (8 * T + j) + x = w j → fM_beginsAt_49 (fM_beginsAt_3 f) (nI T) len (pv p) (nI j) (ν 174 (8 * T + j)) x ν = some (nI b, ν) := by
          intro x hx
          unfold fM_beginsAt_49 fM_beginsAt_57
          rw [hx, ej]
          by_cases c : w j = len
          · have e : j = b := by
              by_cases hjb : j < b
              · exact absurd c (hfst j hjb hs)
              · omega
            rw [if_neg (by simpa using c), e]
          · have hjb : j < b := by
              by_cases hjb : j < b
              · exact hjb
              · have : j = b := by omega
                rw [this] at c
                exact absurd hbw c
            rw [if_pos c]
            exact hnx hjb
        cases p with
        | none =>
          rw [show pv none = -1 from rfl, if_neg (by decide)]
          exact fin 0 (by rw [w1 rfl]; grind)
        | some k =>
          obtain ⟨x, x1, x2⟩ := w2 k rfl
          rw [show pv (some k) = nI k from rfl, if_pos (pv_ne (hp k rfl)), x1, Option.bind_some]
          exact fin x x2
      · have hjb : j < b := by
          by_cases hjb : j < b
          · exact hjb
          · have : j = b := by omega
            rw [this] at hs
            exact absurd hbT hs
        rw [b2i_f hs, if_pos rfl]
        unfold fM_beginsAt_57
        rw [ej]
        exact hnx hjb
    intro q
    induction q with
    | zero =>
      intro j f h1 h2
      obtain ⟨f, rfl⟩ : ∃ k, f = k + 1 := ⟨f - 1, by omega⟩
      exact step j f (by omega) (fun h => absurd h (by omega))
    | succ q ih =>
      intro j f h1 h2
      obtain ⟨f, rfl⟩ : ∃ k, f = k + 1 := ⟨f - 1, by omega⟩
      exact step j f (by omega) (fun _ => ih (j + 1) f (by omega) (by omega))
  unfold fM_beginsAt
  exact key b 0 am_F (by omega) (by unfold am_F; omega)
