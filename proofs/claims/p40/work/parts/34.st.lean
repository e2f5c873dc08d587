/-! E: THE STATE OF THE CLASS, as far as this law asks: things, acts, mistakes, events; the two laws -/
abbrev nTh (μ : am_Mu) : Nat := (μ 13 14).toNatClampNeg
abbrev nEv (μ : am_Mu) : Nat := (μ 13 13).toNatClampNeg
def EvRel (μ : am_Mu) (e : Int32) : Prop := (0 ≤ e ∧ e < μ 13 16) ∨ (10 ≤ e ∧ e < 10 + μ 13 15)
def G4 (μ : am_Mu) : Prop := (0 ≤ μ 13 14 ∧ μ 13 14 ≤ 20 ∧ True ∧ ∀ j, j < (μ 13 14).toNatClampNeg → True ∧ 0 ≤ μ 14 j ∧ μ 14 j < 256) ∧ (0 ≤ μ 13 15 ∧ μ 13 15 ≤ 200 ∧ True ∧ ∀ j, j < (μ 13 15).toNatClampNeg → (True ∧ 0 ≤ μ 15 j ∧ μ 15 j < 4) ∧ (True ∧ 0 ≤ μ 16 j ∧ μ 16 j < μ 13 14) ∧ (True ∧ ((μ 15 j < 2 ∧ 0 ≤ μ 17 j ∧ μ 17 j < μ 13 14 ∧ ¬ μ 16 j = μ 17 j) ∨ (2 ≤ μ 15 j ∧ μ 17 j = -1))) ∧ (True ∧ 0 ≤ μ 18 j ∧ μ 18 j < 1440000) ∧ (True ∧ (μ 19 j = 0 ∨ μ 19 j = 1)) ∧ True ∧ True) ∧ (0 ≤ μ 13 16 ∧ μ 13 16 ≤ 10 ∧ True ∧ ∀ j, j < (μ 13 16).toNatClampNeg → (True ∧ 0 ≤ μ 22 j ∧ μ 22 j < μ 13 14) ∧ (True ∧ 0 ≤ μ 23 j ∧ μ 23 j < 8) ∧ (True ∧ 0 ≤ μ 24 j ∧ μ 24 j < 1440000) ∧ True) ∧ (μ 13 13 = μ 13 15 + μ 13 16 ∧ True ∧ (∀ k, k < (μ 13 13).toNatClampNeg → EvRel μ (μ 26 k)) ∧ ∀ k l, k < l → l < (μ 13 13).toNatClampNeg → evMin μ (μ 26 k) ≤ evMin μ (μ 26 l))
/-- the law of three rules -/
def rs40 : List LR := [(0, [stC 4 0 0], [24]), (1, [stC 4 0 0], [24, 25]), (2, [stC 0 0 0], [0])]
def rsS (s : Nat) : List LR := if s = 0 then rs40 else []
def plS (s : Nat) : Nat := if s = 0 then 28 else 34
def G3 (μ : am_Mu) : Prop := μ 40 5 = 0 ∧ μ 46 5 = 0 ∧ LX 28 μ rs40 ∧ LX 34 μ []
theorem rs_g (s : Nat) : LG (rsS s) := by
  unfold rsS
  split
  · refine ⟨?_, by decide, by decide, by decide⟩
    intro r hr
    have hr : r = (0, [stC 4 0 0], [24]) ∨ r = (1, [stC 4 0 0], [24, 25]) ∨ r = (2, [stC 0 0 0], [0]) := by simpa [rs40] using hr
    rcases hr with rfl | rfl | rfl
    · exact ⟨⟨0, by omega, rfl⟩, rfl, by decide, fun c hc => by rw [List.mem_singleton.mp hc]; exact Or.inr (Or.inr (Or.inr (Or.inr (Or.inl ⟨0, by omega, rfl⟩)))), by decide, fun c hc => ⟨24, by omega, List.mem_singleton.mp hc⟩⟩
    · refine ⟨⟨1, by omega, rfl⟩, rfl, by decide, fun c hc => by rw [List.mem_singleton.mp hc]; exact Or.inr (Or.inr (Or.inr (Or.inr (Or.inl ⟨0, by omega, rfl⟩)))), by decide, fun c hc => ?_⟩
      have hc : c = 24 ∨ c = 25 := by simpa using hc
      rcases hc with rfl | rfl
      · exact ⟨24, by omega, rfl⟩
      · exact ⟨25, by omega, rfl⟩
    · exact ⟨⟨2, by omega, rfl⟩, rfl, by decide, fun c hc => by rw [List.mem_singleton.mp hc]; exact Or.inl rfl, by decide, fun c hc => ⟨0, by omega, List.mem_singleton.mp hc⟩⟩
  · exact ⟨fun r hr => (by cases hr), by decide, by decide, by decide⟩

theorem SB.ofM {M : Nat} (hM : isM M) {X' X μ : am_Mu} (h : SB X μ) (hf : FrMk M X' X) : SB X' μ := by
  intro a ha
  have lo := hM.lo
  rw [hf a (by omega) (by omega) (by omega) (by omega) (by omega) (by omega) (by omega)]
  exact h a ha
theorem SB.up {X μ : am_Mu} (h : SB X μ) {k i : Nat} {x : Int32} (hk : ¬ (k < 53 ∨ (75 < k ∧ k < 144) ∨ 151 < k)) : SB (am_up X k i x) μ := by
  intro a ha
  rw [up_row (by rintro rfl; exact hk ha)]
  exact h a ha
theorem SB.trans {X Y μ : am_Mu} (h : SB Y X) (h2 : SB X μ) : SB Y μ := fun a ha => (h a ha).trans (h2 a ha)
theorem pl_is (s : Nat) : (plS s = 28 ∨ plS s = 34 ∨ plS s = 40 ∨ plS s = 46) ∧ am_isLaw (plS s) = true := by
  unfold plS
  split
  · exact ⟨Or.inl rfl, rfl⟩
  · exact ⟨Or.inr (Or.inl rfl), rfl⟩
theorem pl_lx {μ X : am_Mu} (g3 : G3 μ) (h : SB X μ) (s : Nat) : LX (plS s) X (rsS s) := by
  have h1 : ∀ a, a ≤ 52 → X a = μ a := fun a ha => h a (by omega)
  unfold plS rsS
  split
  · exact g3.2.2.1.of_fr (Or.inl rfl) h1
  · exact g3.2.2.2.of_fr (Or.inr (Or.inl rfl)) h1
theorem x_lawAt {μ X : am_Mu} (g3 : G3 μ) (h : SB X μ) {s : Nat} (hs : s < 2) (m : Int32) : fJudge_lawAt (nI s) m X = some (plS s, X) := by
  have h40 : X 40 5 = 0 := by rw [h 40 (by omega)]; exact g3.1
  have h46 : X 46 5 = 0 := by rw [h 46 (by omega)]; exact g3.2.1
  have hs2 : s = 0 ∨ s = 1 := by omega
  unfold fJudge_lawAt fJudge_lawAt_31 fJudge_lawOf plS
  rcases hs2 with rfl | rfl
  · rw [if_neg (by decide), if_neg (by decide), Option.bind_some]
    dsimp only
    rw [show am_isLaw 40 = true from rfl, cond_true, if_pos (show X 40 5 ≤ 0 by rw [h40]; decide), if_neg (by decide), if_pos rfl, Option.bind_some, if_pos rfl]
  · rw [if_pos (by decide), if_neg (by decide), Option.bind_some]
    dsimp only
    rw [show am_isLaw 46 = true from rfl, cond_true, if_pos (show X 46 5 ≤ 0 by rw [h46]; decide), if_pos (by decide), if_pos rfl, Option.bind_some, if_neg (by decide)]
