/-! E: what an event does to the class's worlds -/
theorem x_begin {M : Nat} (hM : isM M) {μ : am_Mu} (g4 : G4 μ) : ∀ q k n (X : am_Mu), k + q = 8 * (μ 13 14).toNatClampNeg → q < n → X 13 14 = μ 13 14 → (∀ j, X 14 j = μ 14 j) → XW k M X (wd0 μ) → ∃ X', fMarks_begin_2 n M (nI k) X = some X' ∧ XW (8 * (μ 13 14).toNatClampNeg) M X' (wd0 μ) ∧ FrO M X' X := by
  obtain ⟨⟨t1, t2, t3, t4⟩, -⟩ := g4
  have tn : (μ 13 14).toNatClampNeg ≤ 20 := nt_le (b := 20) t1 t2
  have lo := hM.lo
  have e8 : μ 13 14 * 8 = nI (8 * (μ 13 14).toNatClampNeg) := by
    rw [← nI_nt t1, nI_clamp nt_b]
    show nI _ * nI 8 = _
    rw [nI_mul, Nat.mul_comm]
  intro q
  induction q with
  | zero =>
    intro k n X hk hn h13 h14 h
    obtain ⟨n, rfl⟩ : ∃ k, n = k + 1 := ⟨n - 1, by omega⟩
    have : k = 8 * (μ 13 14).toNatClampNeg := by omega
    refine ⟨X, ?_, this ▸ h, FrO.rf⟩
    rw [fMarks_begin_2, if_pos (by rw [h13, e8, this]; exact Int32.le_refl _)]
  | succ q ih =>
    intro k n X hk hn h13 h14 h
    obtain ⟨n, rfl⟩ : ∃ k, n = k + 1 := ⟨n - 1, by omega⟩
    have hk8 : k / 8 < (μ 13 14).toNatClampNeg := by omega
    obtain ⟨-, b1, b2⟩ := t4 (k / 8) hk8
    have hb := nt_lt (b := 256) b1 b2
    have h256 : (256 : Int32).toNatClampNeg = 256 := rfl
    have hv : ((nI (μ 14 (k / 8)).toNatClampNeg >>> (nI (k % 8) &&& 31)) &&& 1) * 2 = if hasB (μ 14 (k / 8)).toNatClampNeg (k % 8) then 2 else 0 := by
      rw [has8 (by omega) (Nat.mod_lt _ (by decide))]
      split <;> rfl
    rw [nI_nt b1] at hv
    rw [fMarks_begin_2, if_neg (by rw [h13, e8, nI_le_iff (by omega) (by omega)]; omega), nI_m8 (by omega), nI_d8 (by omega), inb_n (by omega) (by omega), cond_true, hM.m, cond_true, nI_clamp (by omega), h14, hv, x_wput hM (by omega), Option.bind_some, show nI k + 1 = nI (k + 1) from nI_plus _ 1]
    obtain ⟨X', i1, i2, i3⟩ := ih (k + 1) n (am_up (am_up (am_up X (M + 1) k (if hasB (μ 14 (k / 8)).toNatClampNeg (k % 8) then 2 else 0)) (M + 2) k 0) (M + 3) k 0) (by omega) (by omega) (by rw [up_row (by omega), up_row (by omega), up_row (by omega), h13]) (by intro j; rw [up_row (by omega), up_row (by omega), up_row (by omega), h14]) (by
      intro j hj
      by_cases hjk : j = k
      · subst hjk
        rw [up_row (a := M + 1) (by omega), up_row (a := M + 1) (by omega), up_row (a := M + 2) (by omega), up_eq, up_eq, up_eq]
        exact ⟨rfl, fun _ => ⟨rfl, rfl⟩⟩
      · rw [up_ne2 (k := M + 3) hjk, up_row (a := M + 1) (by omega), up_row (a := M + 1) (by omega), up_ne2 hjk, up_row (a := M + 2) (by omega), up_ne2 hjk, up_row (a := M + 2) (by omega), up_row (a := M + 3) (by omega), up_row (a := M + 3) (by omega)]
        exact h j (by omega))
    exact ⟨X', i1, i2, i3.trans FrO.up3⟩
def evT (μ : am_Mu) (e : Int32) (t : Nat) : Prop := if e < 10 then nI t = μ 22 e.toNatClampNeg else (nI t = μ 16 (e - 10).toNatClampNeg ∨ nI t = μ 17 (e - 10).toNatClampNeg)
def Play (μ : am_Mu) (K s : Nat) (e : Int32) (P : Wd → Wd) : Prop := (∀ W, WG K W → WG K (P W)) ∧ (∀ W k, k < K → ¬ evT μ e (k / 8) → P W k = W k) ∧ (∀ M X W, isM M → SB X μ → XW K M X W → WG K W → ∃ X', fJudge_play M (nI s) e X = some X' ∧ XW K M X' (P W) ∧ FrMk M X' X)
def yN (c : Int32) : Option Nat := if c = -1 then none else some c.toNatClampNeg
def evW (μ : am_Mu) (s : Nat) (e : Int32) : Wd → Wd := if e < 10 then (fun W => wup W (8 * (μ 22 e.toNatClampNeg).toNatClampNeg + (μ 23 e.toNatClampNeg).toNatClampNeg) (2, μ 24 e.toNatClampNeg, μ 24 e.toNatClampNeg)) else acS (rsS s) (μ 15 (e - 10).toNatClampNeg) (μ 16 (e - 10).toNatClampNeg).toNatClampNeg (yN (μ 17 (e - 10).toNatClampNeg)) (μ 18 (e - 10).toNatClampNeg) (μ 19 (e - 10).toNatClampNeg)

theorem play_c {μ : am_Mu} (g3 : G3 μ) (g4 : G4 μ) {s : Nat} (hs : s < 2) {e : Int32} (hef : EvRel μ e) : Play μ (8 * nTh μ) s e (evW μ s e) ∧ (e < 10 → ∃ t k, t < nTh μ ∧ k < 8 ∧ nI t = μ 22 e.toNatClampNeg ∧ evW μ s e = (fun W => wup W (8 * t + k) (2, μ 24 e.toNatClampNeg, μ 24 e.toNatClampNeg))) := by
  obtain ⟨⟨t1, t2, t3, t4⟩, ⟨a1, a2, a3, a4⟩, ⟨m1, m2, m3, m4⟩, -⟩ := g4
  have tn : (μ 13 14).toNatClampNeg ≤ 20 := nt_le (b := 20) t1 t2
  rcases hef with ⟨e1, e2⟩ | ⟨e1, e2⟩
  · have e10 : e < 10 := by grind
    have hi : e.toNatClampNeg < (μ 13 16).toNatClampNeg := nt_lt e1 e2
    have hi10 : e.toNatClampNeg < 10 := nt_lt (b := 10) e1 e10
    obtain ⟨⟨q1, q2, q3⟩, ⟨q4, q5, q6⟩, ⟨q7, q8, q9⟩, -⟩ := m4 _ hi
    have ht : (μ 22 e.toNatClampNeg).toNatClampNeg < (μ 13 14).toNatClampNeg := nt_lt q2 q3
    have hk : (μ 23 e.toNatClampNeg).toNatClampNeg < 8 := nt_lt (b := 8) q5 q6
    have key : Play μ (8 * nTh μ) s e (fun W => wup W (8 * (μ 22 e.toNatClampNeg).toNatClampNeg + (μ 23 e.toNatClampNeg).toNatClampNeg) (2, μ 24 e.toNatClampNeg, μ 24 e.toNatClampNeg)) := by
      refine ⟨fun W hW => wup_g hW ⟨Or.inr (Or.inr rfl), fun _ => ⟨q8, Int32.le_refl _, q9⟩⟩, ?_, ?_⟩
      · intro W k hkK hno
        refine wup_ne ?_
        intro hkk
        refine hno ?_
        unfold evT
        rw [if_pos e10, show k / 8 = (μ 22 e.toNatClampNeg).toNatClampNeg by omega, nI_nt q2]
      · intro M X W hM hX h hW
        have epl : μ 22 e.toNatClampNeg * 8 + μ 23 e.toNatClampNeg = nI (8 * (μ 22 e.toNatClampNeg).toNatClampNeg + (μ 23 e.toNatClampNeg).toNatClampNeg) := by
          rw [← nI_plus, nI_nt q5, Nat.mul_comm, ← nI_mul, nI_nt q2]
          rfl
        refine ⟨_, ?_, h.up3 (v := 2) (p := μ 24 e.toNatClampNeg) (q := μ 24 e.toNatClampNeg), FrO.up3.toM⟩
        unfold fJudge_play fLedger_isMistake
        rw [if_neg (Int32.not_le.mpr e10), Option.bind_some]
        dsimp only
        rw [if_neg (by decide), inb_t (n := 10) e1 hi10, cond_true, hM.m, cond_true, hX 22 (by omega), hX 23 (by omega), hX 24 (by omega), epl, x_wput hM (by omega), Option.bind_some]
    have ew : evW μ s e = (fun W => wup W (8 * (μ 22 e.toNatClampNeg).toNatClampNeg + (μ 23 e.toNatClampNeg).toNatClampNeg) (2, μ 24 e.toNatClampNeg, μ 24 e.toNatClampNeg)) := if_pos e10
    rw [ew]
    exact ⟨key, fun _ => ⟨_, _, ht, hk, nI_nt q2, rfl⟩⟩
  · have e10 : ¬ e < 10 := Int32.not_lt.mpr e1
    refine ⟨?_, fun h => absurd h e10⟩
    have hf0 : 0 ≤ e - 10 := by grind
    have hfl : e - 10 < μ 13 15 := by grind
    have hi : (e - 10).toNatClampNeg < (μ 13 15).toNatClampNeg := nt_lt hf0 hfl
    have h200 : (μ 13 15).toNatClampNeg ≤ 200 := nt_le (b := 200) a1 a2
    obtain ⟨⟨k1, k2, k3⟩, ⟨p1, p2, p3⟩, ⟨r1, r2⟩, ⟨s1, s2, s3⟩, ⟨u1, u2⟩, -⟩ := a4 _ hi
    have ew : evW μ s e = acS (rsS s) (μ 15 (e - 10).toNatClampNeg) (μ 16 (e - 10).toNatClampNeg).toNatClampNeg (yN (μ 17 (e - 10).toNatClampNeg)) (μ 18 (e - 10).toNatClampNeg) (μ 19 (e - 10).toNatClampNeg) := if_neg e10
    rw [ew]
    obtain ⟨a, ha, haT, ha2⟩ : ∃ a, μ 16 (e - 10).toNatClampNeg = nI a ∧ a < nTh μ ∧ (μ 16 (e - 10).toNatClampNeg).toNatClampNeg = a := ⟨_, (nI_nt p2).symm, nt_lt p2 p3, rfl⟩
    obtain ⟨b, hb, hbT, hb2⟩ : ∃ b : Option Nat, μ 17 (e - 10).toNatClampNeg = yI b ∧ (∀ t, b = some t → 8 * t + 8 ≤ 8 * nTh μ ∧ ¬ a = t) ∧ yN (μ 17 (e - 10).toNatClampNeg) = b := by
      rcases r2 with ⟨-, x1, x2, x3⟩ | ⟨-, x1⟩
      · refine ⟨some (μ 17 (e - 10).toNatClampNeg).toNatClampNeg, (nI_nt x1).symm, ?_, if_neg (by intro h; rw [h] at x1; exact absurd x1 (by decide))⟩
        intro t ht
        cases ht
        have := nt_lt x1 x2
        refine ⟨by unfold nTh; omega, ?_⟩
        intro hq
        rw [ha, hq, nI_nt x1] at x3
        exact x3 rfl
      · exact ⟨none, x1, fun t h => (by cases h), if_pos x1⟩
    have haK : 8 * a + 8 ≤ 8 * nTh μ := by omega
    rw [ha2, hb2]
    refine ⟨fun W hW => acS_g s2 s3 haK (fun t h => (hbT t h).1) hW, ?_, ?_⟩
    · intro W k hkK hno
      unfold evT at hno
      rw [if_neg e10, ha, hb] at hno
      refine acS_o ?_ ?_
      · intro hq
        exact hno (Or.inl (by rw [hq]))
      · intro hq
        refine hno (Or.inr ?_)
        rw [← hq]
        rfl
    · intro M X W hM hX h hW
      obtain ⟨X', i1, i2, i3⟩ := x_perform hM (pl_is s).1 (show 8 * nTh μ ≤ 160 by unfold nTh; omega) haK hbT (kd := μ 15 (e - 10).toNatClampNeg) (sure := μ 19 (e - 10).toNatClampNeg) s2 s3 (rs_g s) (pl_lx g3 hX s) h hW
      refine ⟨X', ?_, i2, i3⟩
      unfold fJudge_play fLedger_isMistake
      rw [if_pos e1, Option.bind_some]
      dsimp only
      rw [if_pos rfl, inb_t (n := 200) hf0 (by omega), cond_true, hX 18 (by omega), x_lawAt g3 hX hs, Option.bind_some]
      dsimp only
      rw [(pl_is s).2, cond_true, hX 15 (by omega), hX 16 (by omega), hX 17 (by omega), hX 19 (by omega), ha, hb, i1, Option.bind_some]
def kn (μ : am_Mu) (e t : Int32) : Bool := if e < 10 then decide (μ 25 e.toNatClampNeg ≤ t) else (decide (μ 20 (e - 10).toNatClampNeg ≤ t) && (decide (μ 21 (e - 10).toNatClampNeg = -1) || decide (t < μ 21 (e - 10).toNatClampNeg)))
theorem min_c {μ : am_Mu} (g4 : G4 μ) {e : Int32} (hef : EvRel μ e) {X : am_Mu} (hX : SB X μ) : fLedger_minuteOf e X = some (evMin μ e, X) := by
  obtain ⟨-, ⟨a1, a2, a3, a4⟩, ⟨m1, m2, m3, m4⟩, -⟩ := g4
  unfold fLedger_minuteOf fLedger_isMistake evMin
  rcases hef with ⟨e1, e2⟩ | ⟨e1, e2⟩
  · have e10 : e < 10 := by grind
    have hi : e.toNatClampNeg < (μ 13 16).toNatClampNeg := nt_lt e1 e2
    have hi10 : e.toNatClampNeg < 10 := nt_lt (b := 10) e1 e10
    obtain ⟨-, -, ⟨q7, -⟩, -⟩ := m4 _ hi
    rw [if_neg (Int32.not_le.mpr e10), Option.bind_some]
    dsimp only
    rw [if_neg (by decide), inb_t (n := 10) e1 hi10, cond_true, hX 24 (by omega), if_pos e10]
  · have e10 : ¬ e < 10 := Int32.not_lt.mpr e1
    have hf0 : 0 ≤ e - 10 := by grind
    have hfl : e - 10 < μ 13 15 := by grind
    have hi : (e - 10).toNatClampNeg < (μ 13 15).toNatClampNeg := nt_lt hf0 hfl
    have h200 : (μ 13 15).toNatClampNeg ≤ 200 := nt_le (b := 200) a1 a2
    obtain ⟨-, -, -, ⟨s1, -⟩, -⟩ := a4 _ hi
    rw [if_pos e1, Option.bind_some]
    dsimp only
    rw [if_pos rfl, inb_t (n := 200) hf0 (by omega), cond_true, hX 18 (by omega), if_neg e10]
theorem kn_c {μ : am_Mu} (g4 : G4 μ) {e : Int32} (hef : EvRel μ e) (t : Int32) {X : am_Mu} (hX : SB X μ) : fLedger_isKnown e t X = some ((if kn μ e t = true then 1 else 0), X) := by
  obtain ⟨-, ⟨a1, a2, a3, a4⟩, ⟨m1, m2, m3, m4⟩, -⟩ := g4
  unfold fLedger_isKnown fLedger_isMistake kn fLedger_isKnown_63 fLedger_isKnown_59
  rcases hef with ⟨e1, e2⟩ | ⟨e1, e2⟩
  · have e10 : e < 10 := by grind
    have hi : e.toNatClampNeg < (μ 13 16).toNatClampNeg := nt_lt e1 e2
    have hi10 : e.toNatClampNeg < 10 := nt_lt (b := 10) e1 e10
    obtain ⟨-, -, -, q7⟩ := m4 _ hi
    rw [if_pos e10]
    simp only [decide_eq_true_eq]
    rw [if_neg (Int32.not_le.mpr e10), Option.bind_some]
    dsimp only
    rw [if_neg (by decide), inb_t (n := 10) e1 hi10, cond_true]
    have h25 : X 25 e.toNatClampNeg = μ 25 e.toNatClampNeg := by rw [hX 25 (by omega)]
    by_cases hc : t < μ 25 e.toNatClampNeg
    · rw [if_pos (by rw [h25]; exact hc), if_neg (Int32.not_le.mpr hc)]
    · rw [if_neg (by rw [h25]; exact hc), if_pos (Int32.not_lt.mp hc)]
  · have e10 : ¬ e < 10 := Int32.not_lt.mpr e1
    have hf0 : 0 ≤ e - 10 := by grind
    have hfl : e - 10 < μ 13 15 := by grind
    have hi : (e - 10).toNatClampNeg < (μ 13 15).toNatClampNeg := nt_lt hf0 hfl
    have h200 : (μ 13 15).toNatClampNeg ≤ 200 := nt_le (b := 200) a1 a2
    obtain ⟨-, -, -, -, -, s1, s2⟩ := a4 _ hi
    rw [if_neg e10]
    simp only [Bool.and_eq_true, Bool.or_eq_true, decide_eq_true_eq]
    have fin : ∀ (X : am_Mu) (u w : Int32), u = μ 20 (e - 10).toNatClampNeg → w = μ 21 (e - 10).toNatClampNeg → (if t < u then some ((0 : Int32), X) else (if w = (-1) then some (1, X) else (if w ≤ t then some (0, X) else some (1, X)))) = some ((if μ 20 (e - 10).toNatClampNeg ≤ t ∧ (μ 21 (e - 10).toNatClampNeg = -1 ∨ t < μ 21 (e - 10).toNatClampNeg) then 1 else 0), X) := by
      intro X u w hu hw
      subst hu hw
      by_cases c1 : t < μ 20 (e - 10).toNatClampNeg
      · rw [if_pos c1, if_neg (fun q => absurd q.1 (Int32.not_le.mpr c1))]
      · rw [if_neg c1]
        by_cases c2 : μ 21 (e - 10).toNatClampNeg = -1
        · rw [if_pos c2, if_pos ⟨Int32.not_lt.mp c1, Or.inl c2⟩]
        · rw [if_neg c2]
          by_cases c3 : μ 21 (e - 10).toNatClampNeg ≤ t
          · rw [if_pos c3, if_neg (fun q => by rcases q.2 with q | q; exact c2 q; exact absurd q (Int32.not_lt.mpr c3))]
          · rw [if_neg c3, if_pos ⟨Int32.not_lt.mp c1, Or.inr (Int32.not_le.mp c3)⟩]
    rw [if_pos e1, Option.bind_some]
    dsimp only
    rw [if_pos rfl, inb_t (n := 200) hf0 (by omega), cond_true]
    exact fin X _ _ (by rw [hX 20 (by omega)]) (by rw [hX 21 (by omega)])
def runW (P : Nat → Wd → Wd) (C : Nat → Bool) (W : Wd) : Nat → Wd
  | 0 => W
  | k + 1 => if C k = true then P k (runW P C W k) else runW P C W k
def PlayAll (μ : am_Mu) (s : Nat) (P : Nat → Wd → Wd) : Prop := ∀ k, k < nEv μ → Play μ (8 * nTh μ) s (μ 26 k) (P k)
abbrev Pv (μ : am_Mu) (s : Nat) : Nat → Wd → Wd := fun k => evW μ s (μ 26 k)
theorem ev_rel {μ : am_Mu} (g4 : G4 μ) {k : Nat} (hk : k < nEv μ) : EvRel μ (μ 26 k) := g4.2.2.2.2.2.1 k hk
theorem play_all {μ : am_Mu} (g3 : G3 μ) (g4 : G4 μ) {s : Nat} (hs : s < 2) : PlayAll μ s (Pv μ s) := fun k hk => (play_c g3 g4 hs (ev_rel g4 hk)).1
theorem evN_n {μ : am_Mu} (g4 : G4 μ) : nEv μ ≤ 210 ∧ μ 13 13 = nI (nEv μ) := by
  obtain ⟨-, ⟨a1, a2, -⟩, ⟨m1, m2, -⟩, v1, -⟩ := g4
  have h0 : 0 ≤ μ 13 13 := by grind
  refine ⟨nt_le (b := 210) h0 (by grind), (nI_nt h0).symm⟩
theorem runW_g {μ : am_Mu} {s : Nat} {P : Nat → Wd → Wd} (hP : PlayAll μ s P) {C : Nat → Bool} {W : Wd} (hW : WG (8 * nTh μ) W) : ∀ k, k ≤ nEv μ → WG (8 * nTh μ) (runW P C W k) := by
  intro k
  induction k with
  | zero => exact fun _ => hW
  | succ k ih =>
    intro hk
    unfold runW
    split
    · exact (hP k (by omega)).1 _ (ih (by omega))
    · exact ih (by omega)
theorem runW_stop {P : Nat → Wd → Wd} {C : Nat → Bool} {W : Wd} {k : Nat} : ∀ j, (∀ i, k ≤ i → i < k + j → C i = false) → runW P C W (k + j) = runW P C W k := by
  intro j
  induction j with
  | zero => exact fun _ => rfl
  | succ j ih =>
    intro h
    rw [← Nat.add_assoc, runW, if_neg (by rw [h (k + j) (by omega) (by omega)]; decide)]
    exact ih (fun i h1 h2 => h i h1 (by omega))
def cnd (μ : am_Mu) (v t : Int32) (k : Nat) : Bool := decide (evMin μ (μ 26 k) ≤ v) && kn μ (μ 26 k) t
theorem x_tellL {μ : am_Mu} (g4 : G4 μ) {s : Nat} {P : Nat → Wd → Wd} (hP : PlayAll μ s P) {M : Nat} (hM : isM M) {v t : Int32} : ∀ q k n (X : am_Mu), k + q = nEv μ → q < n → SB X μ → XW (8 * nTh μ) M X (runW P (cnd μ v t) (wd0 μ) k) → ∃ X', fJudge_tellWhatIs_11 n M (nI s) v t (nI k) X = some X' ∧ XW (8 * nTh μ) M X' (runW P (cnd μ v t) (wd0 μ) (nEv μ)) ∧ FrMk M X' X := by
  obtain ⟨hN, eN⟩ := evN_n g4
  intro q
  induction q with
  | zero =>
    intro k n X hk hn hX h
    obtain ⟨n, rfl⟩ : ∃ k, n = k + 1 := ⟨n - 1, by omega⟩
    have : k = nEv μ := by omega
    refine ⟨X, ?_, this ▸ h, FrMk.rf⟩
    rw [fJudge_tellWhatIs_11, if_pos (by rw [hX 13 (by omega), eN, this]; exact Int32.le_refl _)]
  | succ q ih =>
    intro k n X hk hn hX h
    obtain ⟨n, rfl⟩ : ∃ k, n = k + 1 := ⟨n - 1, by omega⟩
    have hkN : k < nEv μ := by omega
    have hef := ev_rel g4 hkN
    have hg := runW_g hP (C := cnd μ v t) (wd0_g μ (8 * nTh μ)) k (by omega)
    have nxt : ∀ X1 : am_Mu, FrMk M X1 X → XW (8 * nTh μ) M X1 (runW P (cnd μ v t) (wd0 μ) (k + 1)) → ∃ X', fJudge_tellWhatIs_70 (fJudge_tellWhatIs_11 n) M (nI s) v t (nI k) X1 = some X' ∧ XW (8 * nTh μ) M X' (runW P (cnd μ v t) (wd0 μ) (nEv μ)) ∧ FrMk M X' X := by
      intro X1 q1 q2
      unfold fJudge_tellWhatIs_70
      rw [show nI k + 1 = nI (k + 1) from nI_plus _ 1]
      obtain ⟨X', i1, i2, i3⟩ := ih (k + 1) n X1 (by omega) (by omega) (hX.ofM hM q1) q2
      exact ⟨X', i1, i2, i3.trans q1⟩
    rw [fJudge_tellWhatIs_11, if_neg (by rw [hX 13 (by omega), eN, nI_le_iff (by omega) (by omega)]; omega), inb_n (by omega) (by omega), cond_true, nI_clamp (by omega), hX 26 (by omega), min_c g4 hef hX, Option.bind_some]
    dsimp only
    by_cases hmin : v < evMin μ (μ 26 k)
    · rw [if_pos hmin]
      refine nxt X FrMk.rf ?_
      rw [runW, if_neg (by unfold cnd; simp [Int32.not_le.mpr hmin])]
      exact h
    · rw [if_neg hmin, kn_c g4 hef t hX, Option.bind_some]
      dsimp only
      by_cases hk2 : kn μ (μ 26 k) t = true
      · rw [if_pos hk2, if_neg (by decide)]
        obtain ⟨X1, j1, j2, j3⟩ := (hP k hkN).2.2 M X _ hM hX h hg
        rw [j1, Option.bind_some]
        refine nxt X1 j3 ?_
        rw [runW, if_pos (by unfold cnd; simp [Int32.not_lt.mp hmin, hk2])]
        exact j2
      · rw [if_neg hk2, if_pos rfl]
        refine nxt X FrMk.rf ?_
        rw [runW, if_neg (by unfold cnd; simp [hk2])]
        exact h
theorem x_tellW {μ : am_Mu} (g4 : G4 μ) {s : Nat} {P : Nat → Wd → Wd} (hP : PlayAll μ s P) {M : Nat} (hM : isM M) {v t : Int32} {X : am_Mu} (hX : SB X μ) : ∃ X', fJudge_tellWhatIs M (nI s) v t X = some X' ∧ XW (8 * nTh μ) M X' (runW P (cnd μ v t) (wd0 μ) (nEv μ)) ∧ FrMk M X' X := by
  obtain ⟨hN, -⟩ := evN_n g4
  have tn : nTh μ ≤ 20 := nt_le (b := 20) g4.1.1 g4.1.2.1
  obtain ⟨X1, b1, b2, b3⟩ := x_begin hM g4 (8 * nTh μ) 0 am_F X (by unfold nTh; omega) (by unfold am_F; omega) (by rw [hX 13 (by omega)]) (fun j => by rw [hX 14 (by omega)]) (fun k hk => absurd hk (by omega))
  obtain ⟨X', i1, i2, i3⟩ := x_tellL g4 hP hM (v := v) (t := t) (nEv μ) 0 am_F X1 (by omega) (by unfold am_F; omega) (hX.ofM hM b3.toM) b2
  refine ⟨X', ?_, i2, i3.trans b3.toM⟩
  unfold fJudge_tellWhatIs
  rw [hM.m, cond_true]
  have : fMarks_begin M X = some X1 := b1
  rw [this, Option.bind_some]
  exact i1
