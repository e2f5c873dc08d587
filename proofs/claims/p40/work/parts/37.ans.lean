theorem rcR_act {μ : am_Mu} (g4 : G4 μ) {P : Nat → Wd → Wd} {v t : Int32} {i : Nat} : ∀ k, k ≤ nEv μ → ∀ th, rcR μ P v t i k th = -1 ∨ (0 ≤ rcR μ P v t i k th ∧ rcR μ P v t i k th < μ 13 15) := by
  intro k
  induction k with
  | zero => exact fun _ _ => Or.inl rfl
  | succ k ih =>
    intro hk th
    rw [rcR]
    dsimp only
    split
    · rename_i h
      refine Or.inr ?_
      rcases ev_rel g4 (show k < nEv μ by omega) with ⟨x1, x2⟩ | ⟨x1, x2⟩
      · exact absurd (Int32.not_lt.mp h.2.1) (evi4 x1 x2 g4.2.2.1.2.1)
      · exact evi3 x1 x2 g4.2.1.1 g4.2.1.2.1
    · exact ih (by omega) th
theorem oth_wn {μ : am_Mu} (g4 : G4 μ) {a : Int32} (h0 : 0 ≤ a) (h1 : a < μ 13 15) (t : Nat) : WN (nTh μ) (othT μ a t) := by
  obtain ⟨-, ⟨-, p2, p3⟩, ⟨-, p5⟩, -⟩ := g4.2.1.2.2.2 _ (nt_lt h0 h1)
  unfold othT
  by_cases h : μ 16 a.toNatClampNeg = nI t
  · rw [if_neg (by simpa using h)]
    rcases p5 with ⟨-, q1, q2, -⟩ | ⟨-, q⟩
    · exact Or.inr ⟨_, nt_lt q1 q2, (nI_nt q1).symm⟩
    · exact Or.inl q
  · rw [if_pos h]
    exact Or.inr ⟨_, nt_lt p2 p3, (nI_nt p2).symm⟩
theorem wnx_wn {μ : am_Mu} (g4 : G4 μ) {R : Nat → Int32} (hR : ∀ th, R th = -1 ∨ (0 ≤ R th ∧ R th < μ 13 15)) (i t : Nat) : WN (nTh μ) (wnx μ R i t) := by
  unfold wnx
  split
  · exact Or.inl rfl
  · split
    · exact Or.inl rfl
    · rename_i h
      rcases hR t with h2 | ⟨h2, h3⟩
      · exact absurd h2 h
      · exact oth_wn g4 h2 h3 t
theorem x_wb {μ : am_Mu} (g4 : G4 μ) {R : Nat → Int32} (hR : ∀ th, R th = -1 ∨ (0 ≤ R th ∧ R th < μ 13 15)) {i : Nat} : ∀ q vis a n (X : am_Mu), vis.length + q = 20 → q < n → WN (nTh μ) a → SB X μ → (∀ th, th < nTh μ → X 66 th = R th) → (∀ t, t < 20 → (t ∈ vis ↔ ∃ j, j < vis.length ∧ X 67 j = nI t)) → ∃ X', fTrace_walkBack_36 n (μ 22 i) (nI vis.length) a (nI vis.length) X = some (nI (vis.length + (wback (wnx μ R i) q vis a).length), X') ∧ (∀ r, ¬ r = 67 → X' r = X r) ∧ (∀ j, j < vis.length → X' 67 j = X 67 j) ∧ ∀ j, j < (wback (wnx μ R i) q vis a).length → X' 67 (vis.length + j) = nI ((wback (wnx μ R i) q vis a).getD j 0) := by
  have t20 : nTh μ ≤ 20 := nt_le (b := 20) g4.1.1 g4.1.2.1
  have a200 : (μ 13 15).toNatClampNeg ≤ 200 := nt_le (b := 200) g4.2.1.1 g4.2.1.2.1
  intro q
  induction q with
  | zero =>
    intro vis a n X hv hn ha hX h66 hS
    obtain ⟨n, rfl⟩ : ∃ k, n = k + 1 := ⟨n - 1, by omega⟩
    refine ⟨X, ?_, fun _ _ => rfl, fun _ _ => rfl, fun j hj => absurd hj (Nat.not_lt_zero _)⟩
    rw [fTrace_walkBack_36, if_pos (show (20 : Int32) ≤ nI vis.length from (nI_le_iff (a := 20) (b := vis.length) (by omega) (by omega)).mpr (by omega))]
    rfl
  | succ q ih =>
    intro vis a n X hv hn ha hX h66 hS
    obtain ⟨n, rfl⟩ : ∃ k, n = k + 1 := ⟨n - 1, by omega⟩
    rw [fTrace_walkBack_36, if_neg (by show ¬ nI 20 ≤ _; rw [nI_le_iff (by omega) (by omega)]; omega)]
    by_cases ha1 : a = -1
    · rw [if_pos ha1]
      subst ha1
      rw [wback_none]
      exact ⟨X, rfl, fun _ _ => rfl, fun _ _ => rfl, fun j hj => absurd hj (Nat.not_lt_zero _)⟩
    · rw [if_neg ha1]
      obtain ⟨t, ht, rfl⟩ : ∃ t, t < nTh μ ∧ a = nI t := by
        rcases ha with h | h
        · exact absurd h ha1
        · exact h
      have hc : (nI t).toNatClampNeg = t := nI_clamp (by omega)
      rw [x_isStep (by omega) (hS t (by omega)), Option.bind_some]
      dsimp only
      by_cases hm : t ∈ vis
      · rw [b2i_t hm, if_pos (by decide), wback_seen (by rw [hc]; exact hm)]
        exact ⟨X, rfl, fun _ _ => rfl, fun _ _ => rfl, fun j hj => absurd hj (Nat.not_lt_zero _)⟩
      · have ew : wback (wnx μ R i) (q + 1) vis (nI t) = t :: wback (wnx μ R i) q (t :: vis) (wnx μ R i t) := by
          rw [wback, if_neg ha1, hc, if_neg hm]
        rw [b2i_f hm, if_neg (by decide), ew, inb_n (by omega) (by omega), cond_true, nI_clamp (show vis.length < 2 ^ 31 by omega), show nI vis.length + 1 = nI (vis.length + 1) from nI_plus _ 1]
        have nxt : ∃ X', fTrace_walkBack_36 n (μ 22 i) (nI (vis.length + 1)) (wnx μ R i t) (nI (vis.length + 1)) (am_up X 67 vis.length (nI t)) = some (nI (vis.length + (t :: wback (wnx μ R i) q (t :: vis) (wnx μ R i t)).length), X') ∧ (∀ r, ¬ r = 67 → X' r = X r) ∧ (∀ j, j < vis.length → X' 67 j = X 67 j) ∧ ∀ j, j < (t :: wback (wnx μ R i) q (t :: vis) (wnx μ R i t)).length → X' 67 (vis.length + j) = nI ((t :: wback (wnx μ R i) q (t :: vis) (wnx μ R i t)).getD j 0) := by
          obtain ⟨X', i1, i2, i3, i4⟩ := ih (t :: vis) (wnx μ R i t) n (am_up X 67 vis.length (nI t)) (by rw [List.length_cons]; omega) (by omega) (wnx_wn g4 hR i t) (hX.up (by omega)) (fun th hth => by rw [up_row (by omega)]; exact h66 th hth) (by
            intro t' ht'
            rw [List.mem_cons, hS t' ht', List.length_cons]
            constructor
            · rintro (h | ⟨j, h1, h2⟩)
              · exact ⟨vis.length, by omega, by rw [up_eq, h]⟩
              · exact ⟨j, by omega, by rw [up_at, if_neg (by omega)]; exact h2⟩
            · rintro ⟨j, h1, h2⟩
              rw [up_at] at h2
              by_cases hj : j = vis.length
              · rw [if_pos hj] at h2
                exact Or.inl ((nI_inj (by omega) (by omega)).mp h2).symm
              · rw [if_neg hj] at h2
                exact Or.inr ⟨j, by omega, h2⟩)
          rw [List.length_cons] at i1 i3 i4
          refine ⟨X', ?_, ?_, ?_, ?_⟩
          · rw [i1, List.length_cons]
            congr 3
            omega
          · intro r hr
            rw [i2 r hr, up_row hr]
          · intro j hj
            rw [i3 j (by omega), up_at, if_neg (by omega)]
          · intro j hj
            cases j with
            | zero =>
              rw [Nat.add_zero, i3 _ (by omega), up_eq]
              rfl
            | succ j =>
              rw [List.length_cons] at hj
              rw [List.getD_cons_succ, ← i4 j (by omega)]
              congr 1
              omega
        by_cases ho : nI t = μ 22 i
        · rw [if_pos ho]
          unfold fTrace_walkBack_89 fTrace_walkBack_109
          have : wnx μ R i t = -1 := by unfold wnx; rw [if_pos ho]
          rw [show nI vis.length + 1 = nI (vis.length + 1) from nI_plus _ 1]
          rw [this] at nxt ⊢
          exact nxt
        · rw [if_neg ho, inb_n (by omega) (by omega), cond_true, hc]
          by_cases hr : R t = -1
          · rw [if_neg (by rw [h66 t ht]; simpa using hr)]
            unfold fTrace_walkBack_89 fTrace_walkBack_109
            have : wnx μ R i t = -1 := by unfold wnx; rw [if_neg ho, if_pos hr]
            rw [show nI vis.length + 1 = nI (vis.length + 1) from nI_plus _ 1]
            rw [this] at nxt ⊢
            exact nxt
          · obtain ⟨r0, r1⟩ : 0 ≤ R t ∧ R t < μ 13 15 := (hR t).resolve_left hr
            have hlt := nt_lt r0 r1
            have eo : fLedger_otherThing (R t) (nI t) (am_up X 67 vis.length (nI t)) = some (othT μ (R t) t, am_up X 67 vis.length (nI t)) := by
              unfold fLedger_otherThing othT
              rw [inb_t r0 (by omega), cond_true, up_row (by omega), up_row (by omega), hX 16 (by omega), hX 17 (by omega)]
              split <;> rfl
            rw [if_pos (by rw [h66 t ht]; exact hr), h66 t ht, eo, Option.bind_some]
            unfold fTrace_walkBack_109
            have : wnx μ R i t = othT μ (R t) t := by unfold wnx; rw [if_neg ho, if_neg hr]
            rw [show nI vis.length + 1 = nI (vis.length + 1) from nI_plus _ 1]
            rw [this] at nxt ⊢
            exact nxt
/-! E: what the class answers -/
section
variable {μ X0 : am_Mu}
theorem vc_lt {a : Nat} {n : Int32} (hn : 0 ≤ n) (h : a < n.toNatClampNeg) : 0 ≤ nI a ∧ nI a < n := by
  have hb : n.toNatClampNeg < 2 ^ 31 := nt_b
  refine ⟨nI_pos' (by omega), ?_⟩
  rw [← nI_nt hn]
  exact (nI_lt_iff (by omega) (by omega)).mpr h
theorem vc_can (g4 : G4 μ) (hX0 : SB X0 μ) {i s th : Nat} (hi : i < (μ 13 16).toNatClampNeg) (hs : s < 2) (hth : th < nTh μ) : fB_canTrace (nI i) (nI s) (nI th) X0 = some (1, X0) := by
  rw [l_canTrace, hX0 13 (by omega), b2i_t]
  exact ⟨vc_lt g4.2.2.1.1 hi, ⟨nI_pos' (by omega), (nI_lt_iff (b := 2) (by omega) (by omega)).mpr hs⟩, vc_lt g4.1.1 hth⟩
theorem vc_min {d : Int32} (hd : 0 ≤ d ∧ d < 1440000) (X : am_Mu) : fB_isMinute d X = some (1, X) := by
  rw [l_isMinuteB, b2i_t hd]
theorem a_mark (g3 : G3 μ) (g4 : G4 μ) (hX0 : SB X0 μ) {s th j : Nat} (hs : s < 2) (hth : th < nTh μ) (hj : j < 8) {d e : Int32} (hd : 0 ≤ d ∧ d < 1440000) (he : 0 ≤ e ∧ e < 1440000) : ∃ X', fB_mark (nI s) (nI th) (nI j) d e X0 = some ((runW (Pv μ s) (cnd μ d e) (wd0 μ) (nEv μ) (8 * th + j)).1, X') ∧ SB X' μ := by
  have t20 : nTh μ ≤ 20 := nt_le (b := 20) g4.1.1 g4.1.2.1
  obtain ⟨X, x1, x2, x3⟩ := x_tellW g4 (play_all g3 g4 hs) (M := 68) (by unfold isM; omega) (v := d) (t := e) hX0
  refine ⟨X, ?_, hX0.ofM (by unfold isM; omega) x3⟩
  have ek : nI th * 8 + nI j = nI (8 * th + j) := by
    show nI th * nI 8 + _ = _
    rw [nI_mul, nI_plus, Nat.mul_comm]
  unfold fB_mark
  rw [l_canAsk, hX0 13 (by omega), Option.bind_some, b2i_t ⟨⟨nI_pos' (by omega), (nI_lt_iff (b := 2) (by omega) (by omega)).mpr hs⟩, vc_lt g4.1.1 hth, ⟨nI_pos' (by omega), (nI_lt_iff (b := 8) (by omega) (by omega)).mpr hj⟩, hd, he⟩]
  dsimp only
  rw [if_pos (by decide), x1, Option.bind_some, ek, inb_n (by omega) (by omega), cond_true, nI_clamp (by omega), (x2 _ (by omega)).1]
theorem a_leads (g3 : G3 μ) (g4 : G4 μ) (hX0 : SB X0 μ) {i s th : Nat} (hi : i < (μ 13 16).toNatClampNeg) (hs : s < 2) (hth : th < nTh μ) {d : Int32} (hd : 0 ≤ d ∧ d < 1440000) : ∃ X', fB_leads (nI i) (nI s) (nI th) d X0 = some (oth μ (Pv μ s) d (μ 0 11) i (nEv μ) th, X') ∧ SB X' μ := by
  have t20 : nTh μ ≤ 20 := nt_le (b := 20) g4.1.1 g4.1.2.1
  have m10 : (μ 13 16).toNatClampNeg ≤ 10 := nt_le (b := 10) g4.2.2.1.1 g4.2.2.1.2.1
  have hP := play_all g3 g4 hs
  obtain ⟨X, x1, x2, x3, x4, -⟩ := x_follow g4 hP (play_m g3 g4 hs) (show i < 10 by omega) d (μ 0 11) hX0
  have gA := runW_g hP (C := cnd μ d (μ 0 11)) (wd0_g μ (8 * nTh μ)) (nEv μ) (Nat.le_refl _)
  have gB := runW_g hP (C := cndW μ d (μ 0 11) i) (wd0_g μ (8 * nTh μ)) (nEv μ) (Nat.le_refl _)
  refine ⟨X, ?_, x2⟩
  unfold fB_leads
  rw [vc_can g4 hX0 hi hs hth, Option.bind_some]
  dsimp only
  rw [if_neg (by decide), vc_min hd, Option.bind_some]
  dsimp only
  rw [if_pos (by decide), hX0 0 (by omega), x1, Option.bind_some, x_oth (show 8 * nTh μ ≤ 160 by omega) (t := th) (by omega) x3 x4 gA gB, Option.bind_some]
theorem a_reached (g3 : G3 μ) (g4 : G4 μ) (hX0 : SB X0 μ) {i s th : Nat} (hi : i < (μ 13 16).toNatClampNeg) (hs : s < 2) (hth : th < nTh μ) : ∃ X', fB_reached (nI i) (nI s) (nI th) X0 = some (rcR μ (Pv μ s) (μ 0 11) (μ 0 11) i (nEv μ) th, X') ∧ SB X' μ := by
  have t20 : nTh μ ≤ 20 := nt_le (b := 20) g4.1.1 g4.1.2.1
  have m10 : (μ 13 16).toNatClampNeg ≤ 10 := nt_le (b := 10) g4.2.2.1.1 g4.2.2.1.2.1
  obtain ⟨X, x1, x2, -, -, x5⟩ := x_follow g4 (play_all g3 g4 hs) (play_m g3 g4 hs) (show i < 10 by omega) (μ 0 11) (μ 0 11) hX0
  refine ⟨X, ?_, x2⟩
  unfold fB_reached
  rw [vc_can g4 hX0 hi hs hth, Option.bind_some]
  dsimp only
  rw [if_pos (by decide), hX0 0 (by omega), x1, Option.bind_some, inb_n (by omega) (by omega), cond_true, nI_clamp (by omega), x5 th hth]
def wayL (μ : am_Mu) (R : Nat → Int32) (i th : Nat) : List Nat := wback (wnx μ R i) 20 [] (nI th)
theorem a_way (g3 : G3 μ) (g4 : G4 μ) (hX0 : SB X0 μ) {i s th m : Nat} (hi : i < (μ 13 16).toNatClampNeg) (hs : s < 2) (hth : th < nTh μ) (hm : m < 2 ^ 31) : ∃ X', fB_way (nI i) (nI s) (nI th) (nI m) X0 = some ((if nI th = μ 22 i ∨ ¬ rcR μ (Pv μ s) (μ 0 11) (μ 0 11) i (nEv μ) th = -1 then (if m < (wayL μ (rcR μ (Pv μ s) (μ 0 11) (μ 0 11) i (nEv μ)) i th).length then nI ((wayL μ (rcR μ (Pv μ s) (μ 0 11) (μ 0 11) i (nEv μ)) i th).getD m 0) else -1) else -1), X') ∧ SB X' μ := by
  have t20 : nTh μ ≤ 20 := nt_le (b := 20) g4.1.1 g4.1.2.1
  have m10 : (μ 13 16).toNatClampNeg ≤ 10 := nt_le (b := 10) g4.2.2.1.1 g4.2.2.1.2.1
  have hP := play_all g3 g4 hs
  have hd0 : (0 : Int32) ≤ nI m := nI_pos' hm
  generalize hRR : rcR μ (Pv μ s) (μ 0 11) (μ 0 11) i (nEv μ) = RR
  have hRact : ∀ th, RR th = -1 ∨ (0 ≤ RR th ∧ RR th < μ 13 15) := by
    rw [← hRR]
    exact rcR_act g4 (P := Pv μ s) (v := μ 0 11) (t := μ 0 11) (i := i) (nEv μ) (Nat.le_refl _)
  have hwl := wback_len (nx := wnx μ RR i) 20 [] (nI th)
  by_cases hd : m < 20
  · obtain ⟨X, x1, x2, -, -, x5⟩ := x_follow g4 hP (play_m g3 g4 hs) (show i < 10 by omega) (μ 0 11) (μ 0 11) hX0
    rw [hRR] at x5
    have hcl : ∃ L X', fTrace_walkBack (nI i) (nI th) X = some (nI L, X') ∧ SB X' μ ∧ L ≤ 20 ∧ ((if nI th = μ 22 i ∨ ¬ RR th = -1 then (if m < (wayL μ RR i th).length then nI ((wayL μ RR i th).getD m 0) else -1) else -1) = if L ≤ m then -1 else X' 67 m) := by
      unfold wayL
      obtain ⟨X', i1, i2, i3, i4⟩ := x_wb g4 hRact (i := i) 20 [] (nI th) am_F X rfl (by unfold am_F; omega) (Or.inr ⟨th, hth, rfl⟩) x2 x5 (by
        intro t ht
        constructor
        · intro h; exact absurd h List.not_mem_nil
        · rintro ⟨j, h, -⟩; exact absurd h (Nat.not_lt_zero _))
      have i1 : fTrace_walkBack_27 (nI th) (μ 22 i) X = some (nI (0 + (wback (wnx μ RR i) 20 [] (nI th)).length), X') := i1
      have fin : (if m < (wback (wnx μ RR i) 20 [] (nI th)).length then nI ((wback (wnx μ RR i) 20 [] (nI th)).getD m 0) else -1) = if (wback (wnx μ RR i) 20 [] (nI th)).length ≤ m then -1 else X' 67 m := by
        by_cases hml : m < (wback (wnx μ RR i) 20 [] (nI th)).length
        · have h5 := i4 m hml
          rw [List.length_nil, Nat.zero_add] at h5
          rw [if_pos hml, if_neg (by omega), h5]
        · rw [if_neg hml, if_pos (by omega)]
      have hX' : SB X' μ := fun r hr => by rw [i2 r (by omega)]; exact x2 r hr
      unfold fTrace_walkBack
      rw [inb_n (by omega) (by omega), cond_true, nI_clamp (show i < 2 ^ 31 by omega), x2 22 (by omega), i1, Nat.zero_add]
      by_cases ho : nI th = μ 22 i
      · rw [if_pos ho, if_pos (Or.inl ho)]
        exact ⟨_, X', rfl, hX', hwl, fin⟩
      · rw [if_neg ho, inb_n (by omega) (by omega), cond_true, nI_clamp (by omega), x5 th hth]
        by_cases hr : RR th = -1
        · rw [if_neg (by simpa using hr), if_neg (fun z => z.elim ho (fun y => y hr))]
          exact ⟨0, X, rfl, x2, by omega, by rw [if_pos (Nat.zero_le _)]⟩
        · rw [if_pos hr, if_pos (Or.inr hr)]
          exact ⟨_, X', rfl, hX', hwl, fin⟩
    obtain ⟨L, X', w1, w2, w3, w4⟩ := hcl
    refine ⟨X', ?_, w2⟩
    unfold fB_way
    rw [vc_can g4 hX0 hi hs hth, Option.bind_some]
    dsimp only
    rw [if_neg (by decide), l_isIn, Option.bind_some, b2i_t (show 0 ≤ nI m ∧ nI m < 20 from ⟨hd0, (nI_lt_iff (b := 20) (by omega) (by omega)).mpr hd⟩)]
    dsimp only
    rw [if_pos (by decide), hX0 0 (by omega), x1, Option.bind_some, w1, Option.bind_some, w4]
    dsimp only
    by_cases hLm : L ≤ m
    · rw [if_pos ((nI_le_iff (by omega) (by omega)).mpr hLm), if_pos hLm]
    · rw [if_neg (by rw [nI_le_iff (by omega) (by omega)]; exact hLm), if_neg hLm, inb_n (by omega) (by omega), cond_true, nI_clamp (by omega)]
  · refine ⟨X0, ?_, hX0⟩
    unfold wayL
    rw [if_neg (show ¬ m < (wback (wnx μ RR i) 20 [] (nI th)).length by omega), ite_self]
    unfold fB_way
    rw [vc_can g4 hX0 hi hs hth, Option.bind_some]
    dsimp only
    rw [if_neg (by decide), l_isIn, Option.bind_some, b2i_f (show ¬ (0 ≤ nI m ∧ nI m < 20) from fun z => hd ((nI_lt_iff (b := 20) (by omega) (by omega)).mp z.2))]
    rfl
/-- how many cleansings mend a thing -/
def mnV (rs : List LR) (th : Nat) (m : Int32) (B : Wd) : Nat → Nat → Wd → Int32
  | 0, _, _ => -1
  | q + 1, n, A => if odv A B 8 (8 * th) 0 = 0 then nI n else mnV rs th m B q (n + 1) (acS rs 2 th none m 1 A)
theorem a_mend (g3 : G3 μ) (g4 : G4 μ) (g0 : 0 ≤ μ 0 11 ∧ μ 0 11 < 1440000) (hX0 : SB X0 μ) {i s th : Nat} (hi : i < (μ 13 16).toNatClampNeg) (hs : s < 2) (hth : th < nTh μ) : ∃ X', fB_mend (nI i) (nI s) (nI th) X0 = some (mnV (rsS s) th (μ 0 11) (wdB μ (Pv μ s) (μ 0 11) (μ 0 11) i (nEv μ)) 6 0 (wdA μ (Pv μ s) (μ 0 11) (μ 0 11) (nEv μ)), X') ∧ SB X' μ := by
  have t20 : nTh μ ≤ 20 := nt_le (b := 20) g4.1.1 g4.1.2.1
  have m10 : (μ 13 16).toNatClampNeg ≤ 10 := nt_le (b := 10) g4.2.2.1.1 g4.2.2.1.2.1
  have hP := play_all g3 g4 hs
  have hK : 8 * nTh μ ≤ 160 := by omega
  have m58 : isM 58 := by unfold isM; omega
  have both : ∀ q n (X : am_Mu) (A B : Wd) f, n + q = 6 → q < f → SB X μ → XW (8 * nTh μ) 58 X A → XW (8 * nTh μ) 62 X B → WG (8 * nTh μ) A → WG (8 * nTh μ) B → ∃ X', fTrace_cleansings_3 f (nI s) (nI th) (μ 0 11) (nI n) X = some (mnV (rsS s) th (μ 0 11) B q n A, X') ∧ SB X' μ := by
    intro q
    induction q with
    | zero =>
      intro n X A B f hn hf hX xA xB gA gB
      obtain ⟨f, rfl⟩ : ∃ k, f = k + 1 := ⟨f - 1, by omega⟩
      have : n = 6 := by omega
      subst this
      exact ⟨X, by rw [fTrace_cleansings_3, if_pos (by decide)]; rfl, hX⟩
    | succ q ih =>
      intro n X A B f hn hf hX xA xB gA gB
      obtain ⟨f, rfl⟩ : ∃ k, f = k + 1 := ⟨f - 1, by omega⟩
      have c1 : ¬ (5 : Int32) < nI n := by
        show ¬ nI 5 < _
        rw [nI_lt_iff (by omega) (by omega)]
        omega
      rw [fTrace_cleansings_3, if_neg c1, x_oth hK (t := th) (by omega) xA xB gA gB, Option.bind_some]
      dsimp only
      unfold mnV
      by_cases ho : odv A B 8 (8 * th) 0 = 0
      · rw [if_neg (by simpa using ho), if_pos ho]
        exact ⟨X, rfl, hX⟩
      · rw [if_pos ho, if_neg ho]
        have hb : ∀ t : Nat, (none : Option Nat) = some t → 8 * t + 8 ≤ 8 * nTh μ ∧ ¬ th = t := fun t h => by cases h
        obtain ⟨X1, j1, j2, j3⟩ := x_perform (K := 8 * nTh μ) (M := 58) m58 (pl_is s).1 hK (a := th) (b := none) (by omega) hb (m := μ 0 11) (kd := 2) (sure := 1) g0.1 g0.2 (rs_g s) (pl_lx g3 hX s) xA gA
        have j1 : fJudge_perform 58 (plS s) 2 (nI th) (-1) (μ 0 11) 1 X = some X1 := j1
        have hcl : fJudge_cleanse 58 (nI s) (nI th) (μ 0 11) X = some X1 := by
          unfold fJudge_cleanse
          rw [x_lawAt g3 hX hs, Option.bind_some]
          dsimp only
          rw [(pl_is s).2, cond_true, j1, Option.bind_some]
        rw [hcl, Option.bind_some, show nI n + 1 = nI (n + 1) from nI_plus _ 1]
        exact ih (n + 1) X1 _ B f (by omega) (by omega) (hX.ofM m58 j3) j2 (xB.cong (j3 _ (by omega) (by omega) (by omega) (by omega) (by omega) (by omega) (by omega)) (j3 _ (by omega) (by omega) (by omega) (by omega) (by omega) (by omega) (by omega)) (j3 _ (by omega) (by omega) (by omega) (by omega) (by omega) (by omega) (by omega))) (acS_g g0.1 g0.2 (by omega) (fun t h => (hb t h).1) gA) gB
  obtain ⟨X, x1, x2, x3, x4, -⟩ := x_follow g4 hP (play_m g3 g4 hs) (show i < 10 by omega) (μ 0 11) (μ 0 11) hX0
  have gA := runW_g hP (C := cnd μ (μ 0 11) (μ 0 11)) (wd0_g μ (8 * nTh μ)) (nEv μ) (Nat.le_refl _)
  have gB := runW_g hP (C := cndW μ (μ 0 11) (μ 0 11) i) (wd0_g μ (8 * nTh μ)) (nEv μ) (Nat.le_refl _)
  obtain ⟨X', p1, p2⟩ := both 6 0 X _ _ am_F (by omega) (by unfold am_F; omega) x2 x3 x4 gA gB
  have p1 : fTrace_cleansings_3 am_F (nI s) (nI th) (μ 0 11) 0 X = some (_, X') := p1
  refine ⟨X', ?_, p2⟩
  unfold fB_mend fTrace_cleansings
  rw [vc_can g4 hX0 hi hs hth, Option.bind_some]
  dsimp only
  rw [if_pos (by decide), hX0 0 (by omega), x1, Option.bind_some, x2 0 (by omega), p1, Option.bind_some]
/-! what is no question -/
theorem z_leads {a b c d : Int32} (X : am_Mu) (h : ¬ ((0 ≤ a ∧ a < X 13 16) ∧ (0 ≤ b ∧ b < 2) ∧ 0 ≤ c ∧ c < X 13 14)) : fB_leads a b c d X = some (-1, X) := by
  unfold fB_leads
  rw [l_canTrace, Option.bind_some, b2i_f h]
  rfl
theorem z_reached {a b c : Int32} (X : am_Mu) (h : ¬ ((0 ≤ a ∧ a < X 13 16) ∧ (0 ≤ b ∧ b < 2) ∧ 0 ≤ c ∧ c < X 13 14)) : fB_reached a b c X = some (-1, X) := by
  unfold fB_reached
  rw [l_canTrace, Option.bind_some, b2i_f h]
  rfl
theorem z_mend {a b c : Int32} (X : am_Mu) (h : ¬ ((0 ≤ a ∧ a < X 13 16) ∧ (0 ≤ b ∧ b < 2) ∧ 0 ≤ c ∧ c < X 13 14)) : fB_mend a b c X = some (-1, X) := by
  unfold fB_mend
  rw [l_canTrace, Option.bind_some, b2i_f h]
  rfl
theorem z_way {a b c d : Int32} (X : am_Mu) (h : ¬ ((0 ≤ a ∧ a < X 13 16) ∧ (0 ≤ b ∧ b < 2) ∧ 0 ≤ c ∧ c < X 13 14) ∨ ¬ (0 ≤ d ∧ d < 20)) : fB_way a b c d X = some (-1, X) := by
  unfold fB_way
  rw [l_canTrace, Option.bind_some]
  by_cases hc : (0 ≤ a ∧ a < X 13 16) ∧ (0 ≤ b ∧ b < 2) ∧ 0 ≤ c ∧ c < X 13 14
  · rw [b2i_t hc]
    dsimp only
    rw [if_neg (by decide), l_isIn, Option.bind_some, b2i_f (h.resolve_left (fun z => z hc))]
    rfl
  · rw [b2i_f hc]
    rfl
end
