/-! E: one event, in both -/
abbrev nTh (μ : am_Mu) : Nat := (μ 13 14).toNatClampNeg
def evT (μ : am_Mu) (e : Int32) (t : Nat) : Prop := if e < 10 then nI t = μ 22 e.toNatClampNeg else (nI t = μ 16 (e - 10).toNatClampNeg ∨ nI t = μ 17 (e - 10).toNatClampNeg)
def Play (μ : am_Mu) (K s : Nat) (e f : Int32) (P : Wd → Wd) : Prop := (∀ W, WG K W → WG K (P W)) ∧ (∀ W k, k < K → ¬ evT μ e (k / 8) → P W k = W k) ∧ (∀ M X W, isM M → SB X μ → XW K M X W → WG K W → ∃ X', fJudge_play M (nI s) e X = some X' ∧ XW K M X' (P W) ∧ FrMk M X' X) ∧ ∀ w Y W wo, w < 2 → SB Y μ → MW K w Y W → WG K W → ¬ f = wo → ∃ Y', fM_happens (nI s) (nI w) f wo Y = some Y' ∧ MW K w Y' (P W) ∧ FrN w Y' Y
theorem play_both {μ : am_Mu} (g1 : G1 μ) (g3 : G3 μ) (g4 : G4 μ) {s : Nat} (hs : s < 2) {e f : Int32} (hef : EvRel μ e f) : (∃ P, Play μ (8 * nTh μ) s e f P) ∧ (e < 10 → ∃ t k, t < nTh μ ∧ k < 8 ∧ nI t = μ 22 e.toNatClampNeg ∧ Play μ (8 * nTh μ) s e f (fun W => wup W (8 * t + k) (2, μ 24 e.toNatClampNeg, μ 24 e.toNatClampNeg))) := by
  obtain ⟨⟨t1, t2, t3, t4⟩, ⟨a1, a2, a3, a4⟩, ⟨m1, m2, m3, m4⟩, -⟩ := g4
  have tn : (μ 13 14).toNatClampNeg ≤ 20 := nt_le (b := 20) t1 t2
  rcases hef with ⟨e1, e2, e3⟩ | ⟨e1, e2, e3⟩
  · have e10 : e < 10 := by grind
    have hi : e.toNatClampNeg < (μ 13 16).toNatClampNeg := nt_lt e1 e2
    have hi10 : e.toNatClampNeg < 10 := nt_lt (b := 10) e1 e10
    obtain ⟨⟨q1, q2, q3⟩, ⟨q4, q5, q6⟩, ⟨q7, q8, q9⟩, -⟩ := m4 _ hi
    have ht : (μ 22 e.toNatClampNeg).toNatClampNeg < (μ 13 14).toNatClampNeg := nt_lt q2 q3
    have hk : (μ 23 e.toNatClampNeg).toNatClampNeg < 8 := nt_lt (b := 8) q5 q6
    have key : Play μ (8 * nTh μ) s e f (fun W => wup W (8 * (μ 22 e.toNatClampNeg).toNatClampNeg + (μ 23 e.toNatClampNeg).toNatClampNeg) (2, μ 24 e.toNatClampNeg, μ 24 e.toNatClampNeg)) := by
      refine ⟨fun W hW => wup_g hW ⟨Or.inr (Or.inr rfl), fun _ => ⟨q8, Int32.le_refl _, q9⟩⟩, ?_, ?_, ?_⟩
      · intro W k hkK hno
        refine wup_ne ?_
        intro hkk
        refine hno ?_
        unfold evT
        rw [if_pos e10, show k / 8 = (μ 22 e.toNatClampNeg).toNatClampNeg by omega, nI_nt q2]
      · intro M X W hM hX h hW
        have epl : μ 22 e.toNatClampNeg * 8 + μ 23 e.toNatClampNeg = nI (8 * (μ 22 e.toNatClampNeg).toNatClampNeg + (μ 23 e.toNatClampNeg).toNatClampNeg) := by
          rw [← nI_plus, nI_nt q5, Nat.mul_comm, ← nI_mul, nI_nt q2]
          rfl
        refine ⟨_, ?_, h.up3 (v := 2) (p := μ 24 e.toNatClampNeg) (q := μ 24 e.toNatClampNeg), FrO.up3.toM⟩
        unfold fJudge_play fLedger_isMistake
        rw [if_neg (Int32.not_le.mpr e10), Option.bind_some]
        dsimp only
        rw [if_neg (by decide), inb_t (n := 10) e1 hi10, cond_true, hM.m, cond_true, hX 22 (by omega), hX 23 (by omega), hX 24 (by omega), epl, x_wput hM (by omega), Option.bind_some]
      · intro w Y W wo hw hY h hW hne
        have ef : f - 1000 = e := by rw [e3]; grind
        have hf : 1000 ≤ f := by rw [e3]; grind
        have epl : ((160 : Int32) * nI w + (8 : Int32) * μ 22 e.toNatClampNeg) + μ 23 e.toNatClampNeg = nI (160 * w + (8 * (μ 22 e.toNatClampNeg).toNatClampNeg + (μ 23 e.toNatClampNeg).toNatClampNeg)) := by
          rw [← nI_plus, ← nI_plus, nI_nt q5, ← nI_mul 8, nI_nt q2, ← nI_mul, Int32.add_assoc]
          rfl
        refine ⟨_, ?_, h.up3 (v := 2) (p := μ 24 e.toNatClampNeg) (q := μ 24 e.toNatClampNeg) rfl (fun _ => ⟨rfl, rfl⟩), (FrNO.up3 (by omega)).toN⟩
        unfold fM_happens
        rw [if_pos hf, if_neg hne, ef, inb_t (n := 10) e1 hi10, cond_true, hY 139 (by omega), hY 140 (by omega), hY 141 (by omega), q1, q4, q7, epl, m_wsets hw (by omega), Option.bind_some]
    exact ⟨⟨_, key⟩, fun _ => ⟨_, _, ht, hk, nI_nt q2, key⟩⟩
  · have e10 : ¬ e < 10 := Int32.not_lt.mpr e1
    refine ⟨?_, fun h => absurd h e10⟩
    have hf0 : 0 ≤ e - 10 := by grind
    have hfl : e - 10 < μ 13 15 := by grind
    have hi : (e - 10).toNatClampNeg < (μ 13 15).toNatClampNeg := nt_lt hf0 hfl
    have h200 : (μ 13 15).toNatClampNeg ≤ 200 := nt_le (b := 200) a1 a2
    obtain ⟨⟨k1, k2, k3⟩, ⟨p1, p2, p3⟩, ⟨r1, r2⟩, ⟨s1, s2, s3⟩, ⟨u1, u2⟩, -⟩ := a4 _ hi
    obtain ⟨l, rs, l1, l2, l3, l4, l5⟩ := law_both g1 g3 hs s2 s3
    obtain ⟨a, ha, haT⟩ : ∃ a, μ 16 (e - 10).toNatClampNeg = nI a ∧ a < nTh μ := ⟨_, (nI_nt p2).symm, nt_lt p2 p3⟩
    obtain ⟨b, hb, hbT⟩ : ∃ b : Option Nat, μ 17 (e - 10).toNatClampNeg = yI b ∧ ∀ t, b = some t → 8 * t + 8 ≤ 8 * nTh μ ∧ ¬ a = t := by
      rcases r2 with ⟨-, x1, x2, x3⟩ | ⟨-, x1⟩
      · refine ⟨some (μ 17 (e - 10).toNatClampNeg).toNatClampNeg, (nI_nt x1).symm, ?_⟩
        intro t ht
        cases ht
        have := nt_lt x1 x2
        refine ⟨by unfold nTh; omega, ?_⟩
        intro hq
        rw [ha, hq, nI_nt x1] at x3
        exact x3 rfl
      · exact ⟨none, x1, fun t h => by cases h⟩
    have haK : 8 * a + 8 ≤ 8 * nTh μ := by omega
    refine ⟨acS rs (μ 15 (e - 10).toNatClampNeg) a b (μ 18 (e - 10).toNatClampNeg) (μ 19 (e - 10).toNatClampNeg), fun W hW => acS_g s2 s3 haK (fun t h => (hbT t h).1) hW, ?_, ?_, ?_⟩
    · intro W k hkK hno
      unfold evT at hno
      rw [if_neg e10, ha, hb] at hno
      refine acS_o ?_ ?_
      · intro hq
        exact hno (Or.inl (by rw [hq]))
      · intro hq
        refine hno (Or.inr ?_)
        rw [← hq]
        rfl
    · intro M X W hM hX h hW
      obtain ⟨X', i1, i2, i3⟩ := x_perform hM (LPl_is l1).1 (show 8 * nTh μ ≤ 160 by unfold nTh; omega) haK hbT (kd := μ 15 (e - 10).toNatClampNeg) (sure := μ 19 (e - 10).toNatClampNeg) s2 s3 l4 (hX.lx l1 l2) h hW
      refine ⟨X', ?_, i2, i3⟩
      unfold fJudge_play fLedger_isMistake
      rw [if_pos e1, Option.bind_some]
      dsimp only
      rw [if_pos rfl, inb_t (n := 200) hf0 (by omega), cond_true, hX 18 (by omega), (l5 X hX).1, Option.bind_some]
      dsimp only
      rw [(LPl_is l1).2, cond_true, hX 15 (by omega), hX 16 (by omega), hX 17 (by omega), hX 19 (by omega), ha, hb, i1, Option.bind_some]
    · intro w Y W wo hw hY h hW hne
      obtain ⟨Y', i1, i2, i3⟩ := m_wacts hw l1 (show 8 * nTh μ ≤ 160 by unfold nTh; omega) haK hbT (kd := μ 15 (e - 10).toNatClampNeg) (sure := μ 19 (e - 10).toNatClampNeg) s2 s3 l4 hY l3 (fun X hX => (l5 X hX).2) h hW
      refine ⟨Y', ?_, i2, i3⟩
      unfold fM_happens
      rw [if_neg (by rw [e3]; grind), e3, inb_t (n := 200) hf0 (by omega), cond_true, hY 132 (by omega), hY 133 (by omega), hY 134 (by omega), hY 135 (by omega), hY 136 (by omega), k1, p1, r1, s1, u1, ha, hb, i1, Option.bind_some]
/-! minutes, and what is known -/
def kn (μ : am_Mu) (e t : Int32) : Bool := if e < 10 then decide (μ 25 e.toNatClampNeg ≤ t) else (decide (μ 20 (e - 10).toNatClampNeg ≤ t) && (decide (μ 21 (e - 10).toNatClampNeg = -1) || decide (t < μ 21 (e - 10).toNatClampNeg)))
theorem min_both {μ : am_Mu} (g4 : G4 μ) {e f : Int32} (hef : EvRel μ e f) {X : am_Mu} (hX : SB X μ) : fLedger_minuteOf e X = some (evMin μ e, X) ∧ fM_minuteOf f X = some (evMin μ e, X) := by
  obtain ⟨-, ⟨a1, a2, a3, a4⟩, ⟨m1, m2, m3, m4⟩, -⟩ := g4
  unfold fLedger_minuteOf fLedger_isMistake fM_minuteOf evMin
  rcases hef with ⟨e1, e2, e3⟩ | ⟨e1, e2, e3⟩
  · have e10 : e < 10 := by grind
    have hi : e.toNatClampNeg < (μ 13 16).toNatClampNeg := nt_lt e1 e2
    have hi10 : e.toNatClampNeg < 10 := nt_lt (b := 10) e1 e10
    obtain ⟨-, -, ⟨q7, -⟩, -⟩ := m4 _ hi
    have ef : f - 1000 = e := by rw [e3]; grind
    have hf : 1000 ≤ f := by rw [e3]; grind
    constructor
    · rw [if_neg (Int32.not_le.mpr e10), Option.bind_some]
      dsimp only
      rw [if_neg (by decide), inb_t (n := 10) e1 hi10, cond_true, hX 24 (by omega), if_pos e10]
    · rw [if_pos hf, ef, inb_t (n := 10) e1 hi10, cond_true, hX 141 (by omega), q7, if_pos e10]
  · have e10 : ¬ e < 10 := Int32.not_lt.mpr e1
    have hf0 : 0 ≤ e - 10 := by grind
    have hfl : e - 10 < μ 13 15 := by grind
    have hi : (e - 10).toNatClampNeg < (μ 13 15).toNatClampNeg := nt_lt hf0 hfl
    have h200 : (μ 13 15).toNatClampNeg ≤ 200 := nt_le (b := 200) a1 a2
    obtain ⟨-, -, -, ⟨s1, -⟩, -⟩ := a4 _ hi
    constructor
    · rw [if_pos e1, Option.bind_some]
      dsimp only
      rw [if_pos rfl, inb_t (n := 200) hf0 (by omega), cond_true, hX 18 (by omega), if_neg e10]
    · rw [if_neg (by rw [e3]; grind), e3, inb_t (n := 200) hf0 (by omega), cond_true, hX 135 (by omega), s1, if_neg e10]
theorem kn_both {μ : am_Mu} (g4 : G4 μ) {e f : Int32} (hef : EvRel μ e f) (t : Int32) {X : am_Mu} (hX : SB X μ) : fLedger_isKnown e t X = some ((if kn μ e t = true then 1 else 0), X) ∧ fM_isKnown f t X = some ((if kn μ e t = true then 1 else 0), X) := by
  obtain ⟨-, ⟨a1, a2, a3, a4⟩, ⟨m1, m2, m3, m4⟩, -⟩ := g4
  unfold fLedger_isKnown fLedger_isMistake fM_isKnown kn fLedger_isKnown_63 fLedger_isKnown_59 fM_isKnown_61 fM_isKnown_57
  rcases hef with ⟨e1, e2, e3⟩ | ⟨e1, e2, e3⟩
  · have e10 : e < 10 := by grind
    have hi : e.toNatClampNeg < (μ 13 16).toNatClampNeg := nt_lt e1 e2
    have hi10 : e.toNatClampNeg < 10 := nt_lt (b := 10) e1 e10
    obtain ⟨-, -, -, q7⟩ := m4 _ hi
    have ef : f - 1000 = e := by rw [e3]; grind
    have hf : ¬ f < 1000 := by rw [e3]; grind
    rw [if_pos e10]
    simp only [decide_eq_true_eq]
    constructor
    · rw [if_neg (Int32.not_le.mpr e10), Option.bind_some]
      dsimp only
      rw [if_neg (by decide), inb_t (n := 10) e1 hi10, cond_true]
      have h25 : X 25 e.toNatClampNeg = μ 25 e.toNatClampNeg := by rw [hX 25 (by omega)]
      by_cases hc : t < μ 25 e.toNatClampNeg
      · rw [if_pos (by rw [h25]; exact hc), if_neg (Int32.not_le.mpr hc)]
      · rw [if_neg (by rw [h25]; exact hc), if_pos (Int32.not_lt.mp hc)]
    · rw [if_neg hf, ef, inb_t (n := 10) e1 hi10, cond_true, hX 142 (by omega), q7]
      by_cases hc : t < μ 25 e.toNatClampNeg
      · rw [if_pos hc, if_neg (Int32.not_le.mpr hc)]
      · rw [if_neg hc, if_pos (Int32.not_lt.mp hc)]
  · have e10 : ¬ e < 10 := Int32.not_lt.mpr e1
    have hf0 : 0 ≤ e - 10 := by grind
    have hfl : e - 10 < μ 13 15 := by grind
    have hi : (e - 10).toNatClampNeg < (μ 13 15).toNatClampNeg := nt_lt hf0 hfl
    have h200 : (μ 13 15).toNatClampNeg ≤ 200 := nt_le (b := 200) a1 a2
    obtain ⟨-, -, -, -, -, s1, s2⟩ := a4 _ hi
    rw [if_neg e10]
    simp only [Bool.and_eq_true, Bool.or_eq_true, decide_eq_true_eq]
    have fin : ∀ (X : am_Mu) (u w : Int32), u = μ 20 (e - 10).toNatClampNeg → w = μ 21 (e - 10).toNatClampNeg → (if t < u then some ((0 : Int32), X) else (if w = (-1) then some (1, X) else (if w ≤ t then some (0, X) else some (1, X)))) = some ((if μ 20 (e - 10).toNatClampNeg ≤ t ∧ (μ 21 (e - 10).toNatClampNeg = -1 ∨ t < μ 21 (e - 10).toNatClampNeg) then 1 else 0), X) := by
      intro X u w hu hw
      subst hu hw
      by_cases c1 : t < μ 20 (e - 10).toNatClampNeg
      · rw [if_pos c1, if_neg (fun q => absurd q.1 (Int32.not_le.mpr c1))]
      · rw [if_neg c1]
        by_cases c2 : μ 21 (e - 10).toNatClampNeg = -1
        · rw [if_pos c2, if_pos ⟨Int32.not_lt.mp c1, Or.inl c2⟩]
        · rw [if_neg c2]
          by_cases c3 : μ 21 (e - 10).toNatClampNeg ≤ t
          · rw [if_pos c3, if_neg (fun q => by rcases q.2 with q | q; exact c2 q; exact absurd q (Int32.not_lt.mpr c3))]
          · rw [if_neg c3, if_pos ⟨Int32.not_lt.mp c1, Or.inr (Int32.not_le.mp c3)⟩]
    constructor
    · rw [if_pos e1, Option.bind_some]
      dsimp only
      rw [if_pos rfl, inb_t (n := 200) hf0 (by omega), cond_true]
      exact fin X _ _ (by rw [hX 20 (by omega)]) (by rw [hX 21 (by omega)])
    · rw [if_pos (by rw [e3]; grind), e3, inb_t (n := 200) hf0 (by omega), cond_true]
      exact fin X _ _ (by rw [hX 137 (by omega), s1]) (by rw [hX 138 (by omega), s2])
/-! all that happened -/
def runW (P : Nat → Wd → Wd) (C : Nat → Bool) (W : Wd) : Nat → Wd
  | 0 => W
  | k + 1 => if C k = true then P k (runW P C W k) else runW P C W k
abbrev nEv (μ : am_Mu) : Nat := (μ 13 13).toNatClampNeg
def PlayAll (μ : am_Mu) (s : Nat) (P : Nat → Wd → Wd) : Prop := ∀ k, k < nEv μ → Play μ (8 * nTh μ) s (μ 26 k) (μ 143 k) (P k)
theorem ev_rel {μ : am_Mu} (g4 : G4 μ) {k : Nat} (hk : k < nEv μ) : EvRel μ (μ 26 k) (μ 143 k) := g4.2.2.2.2.2.1 k hk
theorem evN_n {μ : am_Mu} (g4 : G4 μ) : nEv μ ≤ 210 ∧ μ 13 13 = nI (nEv μ) := by
  obtain ⟨-, ⟨a1, a2, -⟩, ⟨m1, m2, -⟩, v1, -⟩ := g4
  have h0 : 0 ≤ μ 13 13 := by grind
  refine ⟨nt_le (b := 210) h0 (by grind), (nI_nt h0).symm⟩
theorem play_all {μ : am_Mu} (g1 : G1 μ) (g3 : G3 μ) (g4 : G4 μ) {s : Nat} (hs : s < 2) : ∃ P, PlayAll μ s P := by
  have h : ∀ k : Nat, ∃ P : Wd → Wd, k < nEv μ → Play μ (8 * nTh μ) s (μ 26 k) (μ 143 k) P := by
    intro k
    by_cases hk : k < nEv μ
    · obtain ⟨P, hP⟩ := (play_both g1 g3 g4 hs (ev_rel g4 hk)).1
      exact ⟨P, fun _ => hP⟩
    · exact ⟨id, fun h => absurd h hk⟩
  obtain ⟨P, hP⟩ := Classical.axiomOfChoice h
  exact ⟨P, hP⟩
theorem runW_g {μ : am_Mu} {s : Nat} {P : Nat → Wd → Wd} (hP : PlayAll μ s P) {C : Nat → Bool} {W : Wd} (hW : WG (8 * nTh μ) W) : ∀ k, k ≤ nEv μ → WG (8 * nTh μ) (runW P C W k) := by
  intro k
  induction k with
  | zero => exact fun _ => hW
  | succ k ih =>
    intro hk
    unfold runW
    split
    · exact (hP k (by omega)).1 _ (ih (by omega))
    · exact ih (by omega)
theorem runW_stop {P : Nat → Wd → Wd} {C : Nat → Bool} {W : Wd} {k : Nat} : ∀ j, (∀ i, k ≤ i → i < k + j → C i = false) → runW P C W (k + j) = runW P C W k := by
  intro j
  induction j with
  | zero => exact fun _ => rfl
  | succ j ih =>
    intro h
    rw [← Nat.add_assoc, runW, if_neg (by rw [h (k + j) (by omega) (by omega)]; decide)]
    exact ih (fun i h1 h2 => h i h1 (by omega))
def cnd (μ : am_Mu) (v t : Int32) (k : Nat) : Bool := decide (evMin μ (μ 26 k) ≤ v) && kn μ (μ 26 k) t
theorem x_tellL {μ : am_Mu} (g4 : G4 μ) {s : Nat} {P : Nat → Wd → Wd} (hP : PlayAll μ s P) {M : Nat} (hM : isM M) {v t : Int32} : ∀ q k n (X : am_Mu), k + q = nEv μ → q < n → SB X μ → XW (8 * nTh μ) M X (runW P (cnd μ v t) (wd0 μ) k) → ∃ X', fJudge_tellWhatIs_11 n M (nI s) v t (nI k) X = some X' ∧ XW (8 * nTh μ) M X' (runW P (cnd μ v t) (wd0 μ) (nEv μ)) ∧ FrMk M X' X := by
  obtain ⟨hN, eN⟩ := evN_n g4
  intro q
  induction q with
  | zero =>
    intro k n X hk hn hX h
    obtain ⟨n, rfl⟩ : ∃ k, n = k + 1 := ⟨n - 1, by omega⟩
    have : k = nEv μ := by omega
    refine ⟨X, ?_, this ▸ h, FrMk.rf⟩
    rw [fJudge_tellWhatIs_11, if_pos (by rw [hX 13 (by omega), eN, this]; exact Int32.le_refl _)]
  | succ q ih =>
    intro k n X hk hn hX h
    obtain ⟨n, rfl⟩ : ∃ k, n = k + 1 := ⟨n - 1, by omega⟩
    have hkN : k < nEv μ := by omega
    have hef := ev_rel g4 hkN
    have hg := runW_g hP (C := cnd μ v t) (wd0_g μ (8 * nTh μ)) k (by omega)
    have nxt : ∀ X1 : am_Mu, FrMk M X1 X → XW (8 * nTh μ) M X1 (runW P (cnd μ v t) (wd0 μ) (k + 1)) → ∃ X', fJudge_tellWhatIs_70 (fJudge_tellWhatIs_11 n) M (nI s) v t (nI k) X1 = some X' ∧ XW (8 * nTh μ) M X' (runW P (cnd μ v t) (wd0 μ) (nEv μ)) ∧ FrMk M X' X := by
      intro X1 q1 q2
      unfold fJudge_tellWhatIs_70
      rw [show nI k + 1 = nI (k + 1) from nI_plus _ 1]
      obtain ⟨X', i1, i2, i3⟩ := ih (k + 1) n X1 (by omega) (by omega) (hX.ofM hM q1) q2
      exact ⟨X', i1, i2, i3.trans q1⟩
    rw [fJudge_tellWhatIs_11, if_neg (by rw [hX 13 (by omega), eN, nI_le_iff (by omega) (by omega)]; omega), inb_n (by omega) (by omega), cond_true, nI_clamp (by omega), hX 26 (by omega), (min_both g4 hef hX).1, Option.bind_some]
    dsimp only
    by_cases hmin : v < evMin μ (μ 26 k)
    · rw [if_pos hmin]
      refine nxt X FrMk.rf ?_
      rw [runW, if_neg (by unfold cnd; simp [Int32.not_le.mpr hmin])]
      exact h
    · rw [if_neg hmin, (kn_both g4 hef t hX).1, Option.bind_some]
      dsimp only
      by_cases hk2 : kn μ (μ 26 k) t = true
      · rw [if_pos hk2, if_neg (by decide)]
        obtain ⟨X1, j1, j2, j3⟩ := (hP k hkN).2.2.1 M X _ hM hX h hg
        rw [j1, Option.bind_some]
        refine nxt X1 j3 ?_
        rw [runW, if_pos (by unfold cnd; simp [Int32.not_lt.mp hmin, hk2])]
        exact j2
      · rw [if_neg hk2, if_pos rfl]
        refine nxt X FrMk.rf ?_
        rw [runW, if_neg (by unfold cnd; simp [hk2])]
        exact h
theorem x_tellW {μ : am_Mu} (g4 : G4 μ) {s : Nat} {P : Nat → Wd → Wd} (hP : PlayAll μ s P) {M : Nat} (hM : isM M) {v t : Int32} {X : am_Mu} (hX : SB X μ) : ∃ X', fJudge_tellWhatIs M (nI s) v t X = some X' ∧ XW (8 * nTh μ) M X' (runW P (cnd μ v t) (wd0 μ) (nEv μ)) ∧ FrMk M X' X := by
  obtain ⟨hN, -⟩ := evN_n g4
  have tn : nTh μ ≤ 20 := nt_le (b := 20) g4.1.1 g4.1.2.1
  obtain ⟨X1, b1, b2, b3⟩ := x_begin hM g4 (8 * nTh μ) 0 am_F X (by unfold nTh; omega) (by unfold am_F; omega) (by rw [hX 13 (by omega)]) (fun j => by rw [hX 14 (by omega)]) (fun k hk => absurd hk (by omega))
  obtain ⟨X', i1, i2, i3⟩ := x_tellL g4 hP hM (v := v) (t := t) (nEv μ) 0 am_F X1 (by omega) (by unfold am_F; omega) (hX.ofM hM b3.toM) b2
  refine ⟨X', ?_, i2, i3.trans b3.toM⟩
  unfold fJudge_tellWhatIs
  rw [hM.m, cond_true]
  have : fMarks_begin M X = some X1 := b1
  rw [this, Option.bind_some]
  exact i1
def cndW (μ : am_Mu) (v t wo : Int32) (k : Nat) : Bool := cnd μ v t k && !decide (μ 143 k = wo)
theorem m_goes {μ : am_Mu} (g4 : G4 μ) {s : Nat} {P : Nat → Wd → Wd} (hP : PlayAll μ s P) {w : Nat} (hw : w < 2) {v t wo : Int32} (hwo : wo < 0 ∨ 1000 ≤ wo) : ∀ q k n (Y : am_Mu), k + q = nEv μ → q < n → SB Y μ → MW (8 * nTh μ) w Y (runW P (cndW μ v t wo) (wd0 μ) k) → ∃ Y', fM_goes_8 n (nI s) (nI w) v t wo (nI k) Y = some Y' ∧ MW (8 * nTh μ) w Y' (runW P (cndW μ v t wo) (wd0 μ) (nEv μ)) ∧ FrN w Y' Y := by
  obtain ⟨hN, eN⟩ := evN_n g4
  have e55 : μ 108 55 = μ 13 13 := g4.2.2.2.2.1
  have hsort := g4.2.2.2.2.2.2
  intro q
  induction q with
  | zero =>
    intro k n Y hk hn hY h
    obtain ⟨n, rfl⟩ : ∃ k, n = k + 1 := ⟨n - 1, by omega⟩
    have : k = nEv μ := by omega
    refine ⟨Y, ?_, this ▸ h, FrN.rf⟩
    rw [fM_goes_8, if_pos (by rw [hY 108 (by omega), e55, eN, this]; exact Int32.le_refl _)]
  | succ q ih =>
    intro k n Y hk hn hY h
    obtain ⟨n, rfl⟩ : ∃ k, n = k + 1 := ⟨n - 1, by omega⟩
    have hkN : k < nEv μ := by omega
    have hef := ev_rel g4 hkN
    have hg := runW_g hP (C := cndW μ v t wo) (wd0_g μ (8 * nTh μ)) k (by omega)
    have nxt : ∀ Y1 : am_Mu, FrN w Y1 Y → MW (8 * nTh μ) w Y1 (runW P (cndW μ v t wo) (wd0 μ) (k + 1)) → ∃ Y', fM_goes_63 (fM_goes_8 n) (nI s) (nI w) v t wo (nI k) Y1 = some Y' ∧ MW (8 * nTh μ) w Y' (runW P (cndW μ v t wo) (wd0 μ) (nEv μ)) ∧ FrN w Y' Y := by
      intro Y1 q1 q2
      unfold fM_goes_63
      rw [show nI k + 1 = nI (k + 1) from nI_plus _ 1]
      obtain ⟨Y', i1, i2, i3⟩ := ih (k + 1) n Y1 (by omega) (by omega) (hY.ofN q1) q2
      exact ⟨Y', i1, i2, i3.trans q1⟩
    rw [fM_goes_8, if_neg (by rw [hY 108 (by omega), e55, eN, nI_le_iff (by omega) (by omega)]; omega), inb_n (by omega) (by omega), cond_true, nI_clamp (by omega), hY 143 (by omega), (min_both g4 hef hY).2, Option.bind_some]
    dsimp only
    by_cases hmin : v < evMin μ (μ 26 k)
    · rw [if_pos hmin]
      refine ⟨Y, rfl, ?_, FrN.rf⟩
      have hst := runW_stop (P := P) (C := cndW μ v t wo) (W := wd0 μ) (k := k) (nEv μ - k) (by
        intro i h1 h2
        have hle : evMin μ (μ 26 k) ≤ evMin μ (μ 26 i) := by
          by_cases hik : i = k
          · rw [hik]; exact Int32.le_refl _
          · exact hsort k i (by omega) (by unfold nEv at *; omega)
        have : ¬ evMin μ (μ 26 i) ≤ v := by grind
        unfold cndW cnd
        simp [this])
      rw [show k + (nEv μ - k) = nEv μ by omega] at hst
      rw [hst]
      exact h
    · rw [if_neg hmin, hY 143 (by omega), (kn_both g4 hef t hY).2, Option.bind_some]
      dsimp only
      by_cases hk2 : kn μ (μ 26 k) t = true
      · rw [if_pos hk2, if_neg (by decide), hY 143 (by omega)]
        by_cases hfo : μ 143 k = wo
        · have hself : fM_happens (nI s) (nI w) (μ 143 k) wo Y = some Y := by
            have h1000 : 1000 ≤ μ 143 k := by
              rcases hef with ⟨x1, x2, x3⟩ | ⟨x1, x2, x3⟩
              · have := g4.2.2.1.2.1
                rw [x3]; grind
              · have := g4.2.1.2.1
                have := g4.2.1.1
                exfalso
                rcases hwo with hw | hw
                · rw [← hfo, x3] at hw; grind
                · rw [← hfo, x3] at hw; grind
            unfold fM_happens
            rw [if_pos h1000, if_pos hfo]
          rw [hself, Option.bind_some]
          refine nxt Y FrN.rf ?_
          rw [runW, if_neg (by unfold cndW; simp [hfo])]
          exact h
        · obtain ⟨Y1, j1, j2, j3⟩ := (hP k hkN).2.2.2 w Y _ wo hw hY h hg hfo
          rw [j1, Option.bind_some]
          refine nxt Y1 j3 ?_
          rw [runW, if_pos (by unfold cndW cnd; simp [Int32.not_lt.mp hmin, hk2, hfo])]
          exact j2
      · rw [if_neg hk2, if_pos rfl]
        refine nxt Y FrN.rf ?_
        rw [runW, if_neg (by unfold cndW cnd; simp [hk2])]
        exact h
theorem m_goesW {μ : am_Mu} (g4 : G4 μ) {s : Nat} {P : Nat → Wd → Wd} (hP : PlayAll μ s P) {w : Nat} (hw : w < 2) {v t wo : Int32} (hwo : wo < 0 ∨ 1000 ≤ wo) {Y : am_Mu} (hY : SB Y μ) : ∃ Y', fM_goes (nI s) (nI w) v t wo Y = some Y' ∧ MW (8 * nTh μ) w Y' (runW P (cndW μ v t wo) (wd0 μ) (nEv μ)) ∧ FrN w Y' Y := by
  obtain ⟨hN, -⟩ := evN_n g4
  have tn : nTh μ ≤ 20 := nt_le (b := 20) g4.1.1 g4.1.2.1
  obtain ⟨Y1, b1, b2, b3⟩ := m_wbegins hw g4 (nTh μ) 0 am_F Y (by unfold nTh; omega) (by unfold am_F; omega) (by rw [hY 108 (by omega)]; exact g4.1.2.2.1) (fun j hj => by rw [hY 113 (by omega)]; exact (g4.1.2.2.2 j hj).1) (fun k hk => absurd hk (by omega))
  obtain ⟨Y', i1, i2, i3⟩ := m_goes g4 hP hw (v := v) (t := t) hwo (nEv μ) 0 am_F Y1 (by omega) (by unfold am_F; omega) (hY.ofN b3.toN) b2
  refine ⟨Y', ?_, i2, i3.trans b3.toN⟩
  unfold fM_goes
  have : fM_begins (nI w) Y = some Y1 := b1
  rw [this, Option.bind_some]
  exact i1
theorem cndW_all {μ : am_Mu} (g4 : G4 μ) {v t wo : Int32} (hwo : wo < 0) {P : Nat → Wd → Wd} {W : Wd} : ∀ k, k ≤ nEv μ → runW P (cndW μ v t wo) W k = runW P (cnd μ v t) W k := by
  intro k
  induction k with
  | zero => exact fun _ => rfl
  | succ k ih =>
    intro hk
    have hne : ¬ μ 143 k = wo := by
      have := g4.2.2.1.2.1
      have := g4.2.2.1.1
      rcases ev_rel g4 (show k < nEv μ by omega) with ⟨x1, x2, x3⟩ | ⟨x1, x2, x3⟩
      · rw [x3]; grind
      · rw [x3]
        have := g4.2.1.2.1
        grind
    have : cndW μ v t wo k = cnd μ v t k := by unfold cndW; simp [hne]
    rw [runW, runW, ih (by omega), this]
