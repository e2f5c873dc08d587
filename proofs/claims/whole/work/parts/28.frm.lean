/-! FRAMES: what each function may write (place, slot; 999: the whole row) -/
def am_wl (l : List (Nat × Nat)) (k j : Nat) : Bool := l.any (fun a => Nat.beq a.1 k && (Nat.beq a.2 999 || Nat.beq a.2 j))
def am_fr (l : List (Nat × Nat)) (μ μ' : am_Mu) : Prop := ∀ k j, am_wl l k j = false → μ' k j = μ k j
theorem am_fr.rf {l : List (Nat × Nat)} {μ : am_Mu} : am_fr l μ μ := fun _ _ _ => rfl
theorem am_fr.trans {l : List (Nat × Nat)} {μ ν ρ : am_Mu} (h1 : am_fr l μ ν) (h2 : am_fr l ν ρ) : am_fr l μ ρ := fun k j h => (h2 k j h).trans (h1 k j h)
theorem am_fr.up {l : List (Nat × Nat)} {μ ν : am_Mu} {k i : Nat} {x : Int32} (h : am_fr l μ ν) (hw : am_wl l k i = true) : am_fr l μ (am_up ν k i x) := by
  intro a b hab
  have hne : ¬ (a = k ∧ b = i) := by
    rintro ⟨rfl, rfl⟩
    rw [hw] at hab; cases hab
  rw [show am_up ν k i x a b = ν a b from if_neg hne]
  exact h a b hab
theorem am_fr.row {l : List (Nat × Nat)} {μ ν : am_Mu} {k : Nat} {f : Nat → Int32} (h : am_fr l μ ν) (hw : am_wl l k 999 = true) : am_fr l μ (am_row ν k f) := by
  intro a b hab
  have hne : ¬ a = k := by
    rintro rfl
    unfold am_wl at hw hab
    obtain ⟨x, hx, hx2⟩ := List.any_eq_true.mp hw
    have h3 := List.any_eq_false.mp hab x hx
    simp only [Bool.and_eq_true, Bool.or_eq_true, Nat.beq_eq, not_and, not_or] at hx2 h3
    rcases hx2 with ⟨e1, e2⟩
    have := h3 e1
    omega
  rw [am_row_ne hne]
  exact h a b hab
theorem am_fr.mono {l l' : List (Nat × Nat)} {μ ν : am_Mu} (h : am_fr l μ ν) (hs : l.all (fun a => l'.contains a) = true) : am_fr l' μ ν := by
  intro k j hkj
  refine h k j ?_
  cases hq : am_wl l k j with
  | false => rfl
  | true =>
    unfold am_wl at hq
    obtain ⟨x, hx, hx2⟩ := List.any_eq_true.mp hq
    have h1 := List.all_eq_true.mp hs x hx
    have h2 : x ∈ l' := List.contains_iff_mem.mp h1
    have h3 : am_wl l' k j = true := List.any_eq_true.mpr ⟨x, h2, hx2⟩
    rw [h3] at hkj; cases hkj

set_option maxRecDepth 20000 in
theorem w_fFeasts_beginOf : ∀ {a0 : Int32} {μ : am_Mu} {out : Int32 × am_Mu}, fFeasts_beginOf a0 μ = some out → am_fr [] μ out.2 := by
  intro a0 μ out h
  unfold fFeasts_beginOf at h
  cases h
  exact am_fr.rf
set_option maxRecDepth 20000 in
theorem w_fFeasts_monthOf_20 {k4 : Int32 → Int32 → Int32 → am_Mu → Option (Int32 × am_Mu)} (hk4 : ∀ {a0 : Int32} {a1 : Int32} {a2 : Int32} {μ : am_Mu} {out : Int32 × am_Mu}, k4 a0 a1 a2 μ = some out → am_fr [] μ out.2) : ∀ {a0 : Int32} {a1 : Int32} {a2 : Int32} {μ : am_Mu} {out : Int32 × am_Mu}, fFeasts_monthOf_20 k4 a0 a1 a2 μ = some out → am_fr [] μ out.2 := by
  intro a0 a1 a2 μ out h
  unfold fFeasts_monthOf_20 at h
  exact am_fr.trans am_fr.rf (hk4 h)
set_option maxRecDepth 20000 in
theorem w_fFeasts_monthOf_4 : ∀ n : Nat, ∀ {a0 : Int32} {a1 : Int32} {a2 : Int32} {μ : am_Mu} {out : Int32 × am_Mu}, fFeasts_monthOf_4 n a0 a1 a2 μ = some out → am_fr [] μ out.2 := by
  intro n
  induction n with
  | zero => intros; contradiction
  | succ n ih =>
    have hk4 : ∀ {a0 : Int32} {a1 : Int32} {a2 : Int32} {μ : am_Mu} {out : Int32 × am_Mu}, (fFeasts_monthOf_4 n) a0 a1 a2 μ = some out → am_fr [] μ out.2 := ih
    intro a0 a1 a2 μ out h
    unfold fFeasts_monthOf_4 at h
    rcases am_ite h with ⟨q1, h⟩ | ⟨q1, h⟩
    · skip
      cases h
      exact am_fr.rf
    · skip
      obtain ⟨q2, h_q2, h⟩ := am_bind h
      have w_q2 : am_fr [] μ q2.2 := am_fr.trans am_fr.rf (am_fr.mono (w_fFeasts_beginOf h_q2) rfl)
      rcases am_ite h with ⟨q3, h⟩ | ⟨q3, h⟩
      · skip
        exact am_fr.trans w_q2 (w_fFeasts_monthOf_20 hk4 h)
      · skip
        exact am_fr.trans w_q2 (w_fFeasts_monthOf_20 hk4 h)
set_option maxRecDepth 20000 in
theorem w_fFeasts_monthOf : ∀ {a0 : Int32} {μ : am_Mu} {out : Int32 × am_Mu}, fFeasts_monthOf a0 μ = some out → am_fr [] μ out.2 := by
  intro a0 μ out h
  unfold fFeasts_monthOf at h
  exact am_fr.trans am_fr.rf (w_fFeasts_monthOf_4 am_F h)
set_option maxRecDepth 20000 in
theorem w_fB_isIn_13 : ∀ {μ : am_Mu} {out : Int32 × am_Mu}, fB_isIn_13 μ = some out → am_fr [] μ out.2 := by
  intro μ out h
  unfold fB_isIn_13 at h
  cases h
  exact am_fr.rf
set_option maxRecDepth 20000 in
theorem w_fB_isIn : ∀ {a0 : Int32} {a1 : Int32} {μ : am_Mu} {out : Int32 × am_Mu}, fB_isIn a0 a1 μ = some out → am_fr [] μ out.2 := by
  intro a0 a1 μ out h
  unfold fB_isIn at h
  rcases am_ite h with ⟨q1, h⟩ | ⟨q1, h⟩
  · skip
    exact am_fr.trans am_fr.rf (w_fB_isIn_13 h)
  · skip
    rcases am_ite h with ⟨q2, h⟩ | ⟨q2, h⟩
    · skip
      exact am_fr.trans am_fr.rf (w_fB_isIn_13 h)
    · skip
      cases h
      exact am_fr.rf
set_option maxRecDepth 20000 in
theorem w_fFeasts_tell : ∀ {a1 : Int32} {a2 : Int32} {a3 : Int32} {μ : am_Mu} {out : Int32 × am_Mu}, fFeasts_tell a1 a2 a3 μ = some out → am_fr [(1, 3), (2, 999), (3, 999), (4, 999)] μ out.2 := by
  intro a1 a2 a3 μ out h
  unfold fFeasts_tell at h
  rcases am_ite h with ⟨q1, h⟩ | ⟨q1, h⟩
  · skip
    cases h
    exact am_fr.rf
  · skip
    obtain ⟨q2, h_q2, h⟩ := am_bind h
    have w_q2 : am_fr [(1, 3), (2, 999), (3, 999), (4, 999)] μ q2.2 := am_fr.trans am_fr.rf (am_fr.mono (w_fB_isIn h_q2) rfl)
    rcases am_ite h with ⟨q3, h⟩ | ⟨q3, h⟩
    · skip
      rcases am_ite h with ⟨q4, h⟩ | ⟨q4, h⟩
      · skip
        cases h
        exact w_q2
      · skip
        rcases am_ite h with ⟨q5, h⟩ | ⟨q5, h⟩
        · skip
          cases h
          exact w_q2
        · skip
          rcases am_ite h with ⟨q6, h⟩ | ⟨q6, h⟩
          · skip
            cases h
            exact w_q2
          · skip
            rcases am_ite h with ⟨q7, h⟩ | ⟨q7, h⟩
            · skip
              obtain ⟨q8, h⟩ := am_bif h
              cases h
              exact (am_fr.up (am_fr.up (am_fr.up (am_fr.up w_q2 rfl) rfl) rfl) rfl)
            · skip
              cases h
              exact w_q2
    · skip
      cases h
      exact w_q2
set_option maxRecDepth 20000 in
theorem w_fFeasts_isKept_77 {k10 : Int32 → Int32 → Int32 → am_Mu → Option (Int32 × am_Mu)} (hk10 : ∀ {a1 : Int32} {a3 : Int32} {a4 : Int32} {μ : am_Mu} {out : Int32 × am_Mu}, k10 a1 a3 a4 μ = some out → am_fr [] μ out.2) : ∀ {a1 : Int32} {a3 : Int32} {a4 : Int32} {μ : am_Mu} {out : Int32 × am_Mu}, fFeasts_isKept_77 k10 a1 a3 a4 μ = some out → am_fr [] μ out.2 := by
  intro a1 a3 a4 μ out h
  unfold fFeasts_isKept_77 at h
  exact am_fr.trans am_fr.rf (hk10 h)
set_option maxRecDepth 20000 in
theorem w_fFeasts_isKept_38 {k10 : Int32 → Int32 → Int32 → am_Mu → Option (Int32 × am_Mu)} (hk10 : ∀ {a1 : Int32} {a3 : Int32} {a4 : Int32} {μ : am_Mu} {out : Int32 × am_Mu}, k10 a1 a3 a4 μ = some out → am_fr [] μ out.2) : ∀ {a1 : Int32} {a3 : Int32} {a4 : Int32} {s0 : Int32} {μ : am_Mu} {out : Int32 × am_Mu}, fFeasts_isKept_38 k10 a1 a3 a4 s0 μ = some out → am_fr [] μ out.2 := by
  intro a1 a3 a4 s0 μ out h
  unfold fFeasts_isKept_38 at h
  rcases am_ite h with ⟨q1, h⟩ | ⟨q1, h⟩
  · skip
    exact am_fr.trans am_fr.rf (w_fFeasts_isKept_77 hk10 h)
  · skip
    obtain ⟨q2, h⟩ := am_bif h
    rcases am_ite h with ⟨q3, h⟩ | ⟨q3, h⟩
    · skip
      exact am_fr.trans am_fr.rf (w_fFeasts_isKept_77 hk10 h)
    · skip
      rcases am_ite h with ⟨q4, h⟩ | ⟨q4, h⟩
      · skip
        exact am_fr.trans am_fr.rf (w_fFeasts_isKept_77 hk10 h)
      · skip
        cases h
        exact am_fr.rf
set_option maxRecDepth 20000 in
theorem w_fFeasts_isKept_10 : ∀ n : Nat, ∀ {a1 : Int32} {a3 : Int32} {a4 : Int32} {μ : am_Mu} {out : Int32 × am_Mu}, fFeasts_isKept_10 n a1 a3 a4 μ = some out → am_fr [] μ out.2 := by
  intro n
  induction n with
  | zero => intros; contradiction
  | succ n ih =>
    have hk10 : ∀ {a1 : Int32} {a3 : Int32} {a4 : Int32} {μ : am_Mu} {out : Int32 × am_Mu}, (fFeasts_isKept_10 n) a1 a3 a4 μ = some out → am_fr [] μ out.2 := ih
    intro a1 a3 a4 μ out h
    unfold fFeasts_isKept_10 at h
    rcases am_ite h with ⟨q1, h⟩ | ⟨q1, h⟩
    · skip
      cases h
      exact am_fr.rf
    · skip
      obtain ⟨q2, h⟩ := am_bif h
      rcases am_ite h with ⟨q3, h⟩ | ⟨q3, h⟩
      · skip
        exact am_fr.trans am_fr.rf (w_fFeasts_isKept_38 hk10 h)
      · skip
        exact am_fr.trans am_fr.rf (w_fFeasts_isKept_38 hk10 h)
set_option maxRecDepth 20000 in
theorem w_fFeasts_isKept : ∀ {a1 : Int32} {a2 : Int32} {μ : am_Mu} {out : Int32 × am_Mu}, fFeasts_isKept a1 a2 μ = some out → am_fr [] μ out.2 := by
  intro a1 a2 μ out h
  unfold fFeasts_isKept at h
  obtain ⟨q1, h_q1, h⟩ := am_bind h
  have w_q1 : am_fr [] μ q1.2 := am_fr.trans am_fr.rf (am_fr.mono (w_fFeasts_beginOf h_q1) rfl)
  exact am_fr.trans w_q1 (w_fFeasts_isKept_10 am_F h)
set_option maxRecDepth 20000 in
theorem w_fFeasts_has_29 : ∀ {μ : am_Mu} {out : Int32 × am_Mu}, fFeasts_has_29 μ = some out → am_fr [] μ out.2 := by
  intro μ out h
  unfold fFeasts_has_29 at h
  cases h
  exact am_fr.rf
set_option maxRecDepth 20000 in
theorem w_fFeasts_has_33 : ∀ {μ : am_Mu} {out : Int32 × am_Mu}, fFeasts_has_33 μ = some out → am_fr [] μ out.2 := by
  intro μ out h
  unfold fFeasts_has_33 at h
  cases h
  exact am_fr.rf
set_option maxRecDepth 20000 in
theorem w_fFeasts_has : ∀ {a1 : Int32} {μ : am_Mu} {out : Int32 × am_Mu}, fFeasts_has a1 μ = some out → am_fr [] μ out.2 := by
  intro a1 μ out h
  unfold fFeasts_has at h
  obtain ⟨q1, h_q1, h⟩ := am_bind h
  have w_q1 : am_fr [] μ q1.2 := am_fr.trans am_fr.rf (am_fr.mono (w_fFeasts_monthOf h_q1) rfl)
  obtain ⟨q2, h_q2, h⟩ := am_bind h
  have w_q2 : am_fr [] μ q2.2 := am_fr.trans w_q1 (am_fr.mono (w_fFeasts_isKept h_q2) rfl)
  rcases am_ite h with ⟨q3, h⟩ | ⟨q3, h⟩
  · skip
    exact am_fr.trans w_q2 (w_fFeasts_has_29 h)
  · skip
    rcases am_ite h with ⟨q4, h⟩ | ⟨q4, h⟩
    · skip
      exact am_fr.trans w_q2 (w_fFeasts_has_33 h)
    · skip
      obtain ⟨q5, h_q5, h⟩ := am_bind h
      have w_q5 : am_fr [] μ q5.2 := am_fr.trans w_q2 (am_fr.mono (w_fFeasts_isKept h_q5) rfl)
      rcases am_ite h with ⟨q6, h⟩ | ⟨q6, h⟩
      · skip
        exact am_fr.trans w_q5 (w_fFeasts_has_33 h)
      · skip
        exact am_fr.trans w_q5 (w_fFeasts_has_29 h)
set_option maxRecDepth 20000 in
theorem w_fJudge_lawOf : ∀ {a1 : Int32} {a2 : Int32} {μ : am_Mu} {out : Nat × am_Mu}, fJudge_lawOf a1 a2 μ = some out → am_fr [] μ out.2 := by
  intro a1 a2 μ out h
  unfold fJudge_lawOf at h
  rcases am_ite h with ⟨q1, h⟩ | ⟨q1, h⟩
  · skip
    rcases am_ite h with ⟨q2, h⟩ | ⟨q2, h⟩
    · skip
      cases h
      exact am_fr.rf
    · skip
      cases h
      exact am_fr.rf
  · skip
    rcases am_ite h with ⟨q3, h⟩ | ⟨q3, h⟩
    · skip
      cases h
      exact am_fr.rf
    · skip
      cases h
      exact am_fr.rf
set_option maxRecDepth 20000 in
theorem w_fJudge_lawAt_31 : ∀ {a1 : Int32} {μ : am_Mu} {out : Nat × am_Mu}, fJudge_lawAt_31 a1 μ = some out → am_fr [] μ out.2 := by
  intro a1 μ out h
  unfold fJudge_lawAt_31 at h
  obtain ⟨q1, h_q1, h⟩ := am_bind h
  have w_q1 : am_fr [] μ q1.2 := am_fr.trans am_fr.rf (am_fr.mono (w_fJudge_lawOf h_q1) rfl)
  cases h
  exact w_q1
set_option maxRecDepth 20000 in
theorem w_fJudge_lawAt : ∀ {a1 : Int32} {a2 : Int32} {μ : am_Mu} {out : Nat × am_Mu}, fJudge_lawAt a1 a2 μ = some out → am_fr [] μ out.2 := by
  intro a1 a2 μ out h
  unfold fJudge_lawAt at h
  obtain ⟨q1, h_q1, h⟩ := am_bind h
  have w_q1 : am_fr [] μ q1.2 := am_fr.trans am_fr.rf (am_fr.mono (w_fJudge_lawOf h_q1) rfl)
  obtain ⟨g_q1_1, h⟩ := am_bif h
  rcases am_ite h with ⟨q2, h⟩ | ⟨q2, h⟩
  · skip
    exact am_fr.trans w_q1 (w_fJudge_lawAt_31 h)
  · skip
    obtain ⟨q3, h_q3, h⟩ := am_bind h
    have w_q3 : am_fr [] μ q3.2 := am_fr.trans w_q1 (am_fr.mono (w_fFeasts_has h_q3) rfl)
    rcases am_ite h with ⟨q4, h⟩ | ⟨q4, h⟩
    · skip
      exact am_fr.trans w_q3 (w_fJudge_lawAt_31 h)
    · skip
      cases h
      exact w_q3
set_option maxRecDepth 20000 in
theorem w_fMarks_put {a0 : Nat} : ∀ {a1 : Int32} {a2 : Int32} {a3 : Int32} {μ : am_Mu} {out : am_Mu}, fMarks_put a0 a1 a2 a3 μ = some out → am_fr [(a0 + 1, 999), (a0 + 2, 999), (a0 + 3, 999)] μ out := by
  intro a1 a2 a3 μ out h
  unfold fMarks_put at h
  obtain ⟨g_a0, h⟩ := am_bif h
  obtain ⟨q1, h⟩ := am_bif h
  cases h
  exact (am_fr.up (am_fr.up (am_fr.up am_fr.rf (by simp [am_wl])) (by simp [am_wl])) (by simp [am_wl]))
set_option maxRecDepth 20000 in
theorem w_fMarks_begin_2 {a0 : Nat} : ∀ n : Nat, ∀ {a2 : Int32} {μ : am_Mu} {out : am_Mu}, fMarks_begin_2 n a0 a2 μ = some out → am_fr [(a0 + 1, 999), (a0 + 2, 999), (a0 + 3, 999)] μ out := by
  intro n
  induction n with
  | zero => intros; contradiction
  | succ n ih =>
    have hk2 : ∀ {a2 : Int32} {μ : am_Mu} {out : am_Mu}, (fMarks_begin_2 n) a0 a2 μ = some out → am_fr [(a0 + 1, 999), (a0 + 2, 999), (a0 + 3, 999)] μ out := ih
    intro a2 μ out h
    unfold fMarks_begin_2 at h
    rcases am_ite h with ⟨q1, h⟩ | ⟨q1, h⟩
    · skip
      cases h
      exact am_fr.rf
    · skip
      obtain ⟨q2, h⟩ := am_bif h
      obtain ⟨g_a0, h⟩ := am_bif h
      obtain ⟨q3, h_q3, h⟩ := am_bind h
      have w_q3 : am_fr [(a0 + 1, 999), (a0 + 2, 999), (a0 + 3, 999)] μ q3 := am_fr.trans am_fr.rf (am_fr.mono (w_fMarks_put h_q3) (by simp))
      exact am_fr.trans w_q3 (hk2 h)
set_option maxRecDepth 20000 in
theorem w_fMarks_begin {a0 : Nat} : ∀ {μ : am_Mu} {out : am_Mu}, fMarks_begin a0 μ = some out → am_fr [(a0 + 1, 999), (a0 + 2, 999), (a0 + 3, 999)] μ out := by
  intro μ out h
  unfold fMarks_begin at h
  exact am_fr.trans am_fr.rf (w_fMarks_begin_2 am_F h)
set_option maxRecDepth 20000 in
theorem w_fLedger_isMistake : ∀ {a1 : Int32} {μ : am_Mu} {out : Int32 × am_Mu}, fLedger_isMistake a1 μ = some out → am_fr [] μ out.2 := by
  intro a1 μ out h
  unfold fLedger_isMistake at h
  rcases am_ite h with ⟨q1, h⟩ | ⟨q1, h⟩
  · skip
    cases h
    exact am_fr.rf
  · skip
    cases h
    exact am_fr.rf
set_option maxRecDepth 20000 in
theorem w_fLedger_minuteOf : ∀ {a1 : Int32} {μ : am_Mu} {out : Int32 × am_Mu}, fLedger_minuteOf a1 μ = some out → am_fr [] μ out.2 := by
  intro a1 μ out h
  unfold fLedger_minuteOf at h
  obtain ⟨q1, h_q1, h⟩ := am_bind h
  have w_q1 : am_fr [] μ q1.2 := am_fr.trans am_fr.rf (am_fr.mono (w_fLedger_isMistake h_q1) rfl)
  rcases am_ite h with ⟨q2, h⟩ | ⟨q2, h⟩
  · skip
    obtain ⟨q3, h⟩ := am_bif h
    cases h
    exact w_q1
  · skip
    obtain ⟨q4, h⟩ := am_bif h
    cases h
    exact w_q1
set_option maxRecDepth 20000 in
theorem w_fLedger_isKnown_63 : ∀ {μ : am_Mu} {out : Int32 × am_Mu}, fLedger_isKnown_63 μ = some out → am_fr [] μ out.2 := by
  intro μ out h
  unfold fLedger_isKnown_63 at h
  cases h
  exact am_fr.rf
set_option maxRecDepth 20000 in
theorem w_fLedger_isKnown_59 : ∀ {μ : am_Mu} {out : Int32 × am_Mu}, fLedger_isKnown_59 μ = some out → am_fr [] μ out.2 := by
  intro μ out h
  unfold fLedger_isKnown_59 at h
  cases h
  exact am_fr.rf
set_option maxRecDepth 20000 in
theorem w_fLedger_isKnown : ∀ {a1 : Int32} {a2 : Int32} {μ : am_Mu} {out : Int32 × am_Mu}, fLedger_isKnown a1 a2 μ = some out → am_fr [] μ out.2 := by
  intro a1 a2 μ out h
  unfold fLedger_isKnown at h
  obtain ⟨q1, h_q1, h⟩ := am_bind h
  have w_q1 : am_fr [] μ q1.2 := am_fr.trans am_fr.rf (am_fr.mono (w_fLedger_isMistake h_q1) rfl)
  rcases am_ite h with ⟨q2, h⟩ | ⟨q2, h⟩
  · skip
    obtain ⟨q3, h⟩ := am_bif h
    rcases am_ite h with ⟨q4, h⟩ | ⟨q4, h⟩
    · skip
      exact am_fr.trans w_q1 (w_fLedger_isKnown_63 h)
    · skip
      rcases am_ite h with ⟨q5, h⟩ | ⟨q5, h⟩
      · skip
        exact am_fr.trans w_q1 (w_fLedger_isKnown_59 h)
      · skip
        rcases am_ite h with ⟨q6, h⟩ | ⟨q6, h⟩
        · skip
          exact am_fr.trans w_q1 (w_fLedger_isKnown_63 h)
        · skip
          exact am_fr.trans w_q1 (w_fLedger_isKnown_59 h)
  · skip
    obtain ⟨q7, h⟩ := am_bif h
    rcases am_ite h with ⟨q8, h⟩ | ⟨q8, h⟩
    · skip
      cases h
      exact w_q1
    · skip
      cases h
      exact w_q1
set_option maxRecDepth 20000 in
theorem w_fMarks_copyThing_5 {a0 : Nat} {a1 : Nat} : ∀ n : Nat, ∀ {a2 : Int32} {a3 : Int32} {μ : am_Mu} {out : am_Mu}, fMarks_copyThing_5 n a0 a1 a2 a3 μ = some out → am_fr [(a0 + 1, 999), (a0 + 2, 999), (a0 + 3, 999)] μ out := by
  intro n
  induction n with
  | zero => intros; contradiction
  | succ n ih =>
    have hk5 : ∀ {a2 : Int32} {a3 : Int32} {μ : am_Mu} {out : am_Mu}, (fMarks_copyThing_5 n) a0 a1 a2 a3 μ = some out → am_fr [(a0 + 1, 999), (a0 + 2, 999), (a0 + 3, 999)] μ out := ih
    intro a2 a3 μ out h
    unfold fMarks_copyThing_5 at h
    rcases am_ite h with ⟨q1, h⟩ | ⟨q1, h⟩
    · skip
      cases h
      exact am_fr.rf
    · skip
      obtain ⟨g_a0, h⟩ := am_bif h
      obtain ⟨g_a1, h⟩ := am_bif h
      obtain ⟨q2, h⟩ := am_bif h
      exact am_fr.trans (am_fr.up (am_fr.up (am_fr.up am_fr.rf (by simp [am_wl])) (by simp [am_wl])) (by simp [am_wl])) (hk5 h)
set_option maxRecDepth 20000 in
theorem w_fMarks_copyThing {a0 : Nat} {a1 : Nat} : ∀ {a2 : Int32} {μ : am_Mu} {out : am_Mu}, fMarks_copyThing a0 a1 a2 μ = some out → am_fr [(a0 + 1, 999), (a0 + 2, 999), (a0 + 3, 999)] μ out := by
  intro a2 μ out h
  unfold fMarks_copyThing at h
  exact am_fr.trans am_fr.rf (w_fMarks_copyThing_5 am_F h)
set_option maxRecDepth 20000 in
theorem w_fLaw_stepsFrom {a0 : Nat} : ∀ {a1 : Int32} {μ : am_Mu} {out : Int32 × am_Mu}, fLaw_stepsFrom a0 a1 μ = some out → am_fr [] μ out.2 := by
  intro a1 μ out h
  unfold fLaw_stepsFrom at h
  rcases am_ite h with ⟨q1, h⟩ | ⟨q1, h⟩
  · skip
    cases h
    exact am_fr.rf
  · skip
    obtain ⟨g_a0, h⟩ := am_bif h
    obtain ⟨q2, h⟩ := am_bif h
    cases h
    exact am_fr.rf
set_option maxRecDepth 20000 in
theorem w_fJudge_askOperand_31 : ∀ {a1 : Int32} {a4 : Int32} {a5 : Int32} {a6 : Int32} {s0 : Int32} {μ : am_Mu} {out : Int32 × am_Mu}, fJudge_askOperand_31 a1 a4 a5 a6 s0 μ = some out → am_fr [] μ out.2 := by
  intro a1 a4 a5 a6 s0 μ out h
  unfold fJudge_askOperand_31 at h
  rcases am_ite h with ⟨q1, h⟩ | ⟨q1, h⟩
  · skip
    obtain ⟨q2, h⟩ := am_bif h
    rcases am_ite h with ⟨q3, h⟩ | ⟨q3, h⟩
    · skip
      cases h
      exact am_fr.rf
    · skip
      rcases am_ite h with ⟨q4, h⟩ | ⟨q4, h⟩
      · skip
        rcases am_ite h with ⟨q5, h⟩ | ⟨q5, h⟩
        · skip
          rcases am_ite h with ⟨q6, h⟩ | ⟨q6, h⟩
          · skip
            cases h
            exact am_fr.rf
          · skip
            cases h
            exact am_fr.rf
        · skip
          cases h
          exact am_fr.rf
      · skip
        cases h
        exact am_fr.rf
  · skip
    cases h
    exact am_fr.rf
set_option maxRecDepth 20000 in
theorem w_fJudge_askOperand : ∀ {a1 : Int32} {a2 : Int32} {a3 : Int32} {a4 : Int32} {μ : am_Mu} {out : Int32 × am_Mu}, fJudge_askOperand a1 a2 a3 a4 μ = some out → am_fr [] μ out.2 := by
  intro a1 a2 a3 a4 μ out h
  unfold fJudge_askOperand at h
  rcases am_ite h with ⟨q1, h⟩ | ⟨q1, h⟩
  · skip
    rcases am_ite h with ⟨q2, h⟩ | ⟨q2, h⟩
    · skip
      exact am_fr.trans am_fr.rf (w_fJudge_askOperand_31 h)
    · skip
      exact am_fr.trans am_fr.rf (w_fJudge_askOperand_31 h)
  · skip
    cases h
    exact am_fr.rf
set_option maxRecDepth 20000 in
theorem w_fJudge_ask_188 : ∀ {a6 : Int32} {μ : am_Mu} {out : Int32 × am_Mu}, fJudge_ask_188 a6 μ = some out → am_fr [(56, 999)] μ out.2 := by
  intro a6 μ out h
  unfold fJudge_ask_188 at h
  rcases am_ite h with ⟨q1, h⟩ | ⟨q1, h⟩
  · skip
    cases h
    exact am_fr.rf
  · skip
    cases h
    exact am_fr.rf
set_option maxRecDepth 20000 in
theorem w_fJudge_ask_182 {a1 : Nat} {k10 : Nat → Int32 → Int32 → Int32 → Int32 → Int32 → Int32 → am_Mu → Option (Int32 × am_Mu)} (hk10 : ∀ {a2 : Int32} {a3 : Int32} {a4 : Int32} {a5 : Int32} {a6 : Int32} {a7 : Int32} {μ : am_Mu} {out : Int32 × am_Mu}, k10 a1 a2 a3 a4 a5 a6 a7 μ = some out → am_fr [(56, 999)] μ out.2) : ∀ {a2 : Int32} {a3 : Int32} {a4 : Int32} {a5 : Int32} {a6 : Int32} {a7 : Int32} {μ : am_Mu} {out : Int32 × am_Mu}, fJudge_ask_182 k10 a1 a2 a3 a4 a5 a6 a7 μ = some out → am_fr [(56, 999)] μ out.2 := by
  intro a2 a3 a4 a5 a6 a7 μ out h
  unfold fJudge_ask_182 at h
  exact am_fr.trans am_fr.rf (hk10 h)
set_option maxRecDepth 20000 in
theorem w_fJudge_ask_147 {a1 : Nat} {k10 : Nat → Int32 → Int32 → Int32 → Int32 → Int32 → Int32 → am_Mu → Option (Int32 × am_Mu)} (hk10 : ∀ {a2 : Int32} {a3 : Int32} {a4 : Int32} {a5 : Int32} {a6 : Int32} {a7 : Int32} {μ : am_Mu} {out : Int32 × am_Mu}, k10 a1 a2 a3 a4 a5 a6 a7 μ = some out → am_fr [(56, 999)] μ out.2) : ∀ {a2 : Int32} {a3 : Int32} {a4 : Int32} {a5 : Int32} {a6 : Int32} {a7 : Int32} {s1 : Int32} {s2 : Int32} {μ : am_Mu} {out : Int32 × am_Mu}, fJudge_ask_147 k10 a1 a2 a3 a4 a5 a6 a7 s1 s2 μ = some out → am_fr [(56, 999)] μ out.2 := by
  intro a2 a3 a4 a5 a6 a7 s1 s2 μ out h
  unfold fJudge_ask_147 at h
  obtain ⟨q1, h⟩ := am_bif h
  exact am_fr.trans (am_fr.up am_fr.rf rfl) (w_fJudge_ask_182 hk10 h)
set_option maxRecDepth 20000 in
theorem w_fJudge_ask_83 {a1 : Nat} {k10 : Nat → Int32 → Int32 → Int32 → Int32 → Int32 → Int32 → am_Mu → Option (Int32 × am_Mu)} (hk10 : ∀ {a2 : Int32} {a3 : Int32} {a4 : Int32} {a5 : Int32} {a6 : Int32} {a7 : Int32} {μ : am_Mu} {out : Int32 × am_Mu}, k10 a1 a2 a3 a4 a5 a6 a7 μ = some out → am_fr [(56, 999)] μ out.2) : ∀ {a2 : Int32} {a3 : Int32} {a4 : Int32} {a5 : Int32} {a6 : Int32} {a7 : Int32} {a9 : Int32} {μ : am_Mu} {out : Int32 × am_Mu}, fJudge_ask_83 k10 a1 a2 a3 a4 a5 a6 a7 a9 μ = some out → am_fr [(56, 999)] μ out.2 := by
  intro a2 a3 a4 a5 a6 a7 a9 μ out h
  unfold fJudge_ask_83 at h
  rcases am_ite h with ⟨q1, h⟩ | ⟨q1, h⟩
  · skip
    exact am_fr.trans am_fr.rf (w_fJudge_ask_182 hk10 h)
  · skip
    rcases am_ite h with ⟨q2, h⟩ | ⟨q2, h⟩
    · skip
      obtain ⟨q3, h⟩ := am_bif h
      obtain ⟨q4, h⟩ := am_bif h
      exact am_fr.trans am_fr.rf (w_fJudge_ask_147 hk10 h)
    · skip
      obtain ⟨q5, h⟩ := am_bif h
      obtain ⟨q6, h⟩ := am_bif h
      exact am_fr.trans am_fr.rf (w_fJudge_ask_147 hk10 h)
set_option maxRecDepth 20000 in
theorem w_fJudge_ask_10 {a1 : Nat} : ∀ n : Nat, ∀ {a2 : Int32} {a3 : Int32} {a4 : Int32} {a5 : Int32} {a6 : Int32} {a7 : Int32} {μ : am_Mu} {out : Int32 × am_Mu}, fJudge_ask_10 n a1 a2 a3 a4 a5 a6 a7 μ = some out → am_fr [(56, 999)] μ out.2 := by
  intro n
  induction n with
  | zero => intros; contradiction
  | succ n ih =>
    have hk10 : ∀ {a2 : Int32} {a3 : Int32} {a4 : Int32} {a5 : Int32} {a6 : Int32} {a7 : Int32} {μ : am_Mu} {out : Int32 × am_Mu}, (fJudge_ask_10 n) a1 a2 a3 a4 a5 a6 a7 μ = some out → am_fr [(56, 999)] μ out.2 := ih
    intro a2 a3 a4 a5 a6 a7 μ out h
    unfold fJudge_ask_10 at h
    obtain ⟨g_a1, h⟩ := am_bif h
    obtain ⟨q1, h⟩ := am_bif h
    rcases am_ite h with ⟨q2, h⟩ | ⟨q2, h⟩
    · skip
      exact am_fr.trans am_fr.rf (w_fJudge_ask_188 h)
    · skip
      obtain ⟨q3, h⟩ := am_bif h
      rcases am_ite h with ⟨q4, h⟩ | ⟨q4, h⟩
      · skip
        rcases am_ite h with ⟨q5, h⟩ | ⟨q5, h⟩
        · skip
          exact am_fr.trans am_fr.rf (w_fJudge_ask_83 hk10 h)
        · skip
          rcases am_ite h with ⟨q6, h⟩ | ⟨q6, h⟩
          · skip
            rcases am_ite h with ⟨q7, h⟩ | ⟨q7, h⟩
            · skip
              exact am_fr.trans am_fr.rf (w_fJudge_ask_182 hk10 h)
            · skip
              obtain ⟨q8, h_q8, h⟩ := am_bind h
              have w_q8 : am_fr [(56, 999)] μ q8.2 := am_fr.trans am_fr.rf (am_fr.mono (w_fJudge_askOperand h_q8) rfl)
              obtain ⟨q9, h⟩ := am_bif h
              exact am_fr.trans (am_fr.up w_q8 rfl) (w_fJudge_ask_182 hk10 h)
          · skip
            exact am_fr.trans am_fr.rf (w_fJudge_ask_83 hk10 h)
      · skip
        rcases am_ite h with ⟨q10, h⟩ | ⟨q10, h⟩
        · skip
          exact am_fr.trans am_fr.rf (w_fJudge_ask_182 hk10 h)
        · skip
          obtain ⟨q11, h⟩ := am_bif h
          exact am_fr.trans (am_fr.up am_fr.rf rfl) (w_fJudge_ask_182 hk10 h)
set_option maxRecDepth 20000 in
theorem w_fJudge_ask {a1 : Nat} : ∀ {a2 : Int32} {a3 : Int32} {a4 : Int32} {a5 : Int32} {μ : am_Mu} {out : Int32 × am_Mu}, fJudge_ask a1 a2 a3 a4 a5 μ = some out → am_fr [(56, 999)] μ out.2 := by
  intro a2 a3 a4 a5 μ out h
  unfold fJudge_ask at h
  obtain ⟨g_a1, h⟩ := am_bif h
  obtain ⟨q1, h_q1, h⟩ := am_bind h
  have w_q1 : am_fr [(56, 999)] μ q1.2 := am_fr.trans am_fr.rf (am_fr.mono (w_fLaw_stepsFrom h_q1) rfl)
  exact am_fr.trans w_q1 (w_fJudge_ask_10 am_F h)
set_option maxRecDepth 20000 in
theorem w_fLaw_effectsFrom {a0 : Nat} : ∀ {a1 : Int32} {μ : am_Mu} {out : Int32 × am_Mu}, fLaw_effectsFrom a0 a1 μ = some out → am_fr [] μ out.2 := by
  intro a1 μ out h
  unfold fLaw_effectsFrom at h
  rcases am_ite h with ⟨q1, h⟩ | ⟨q1, h⟩
  · skip
    cases h
    exact am_fr.rf
  · skip
    obtain ⟨g_a0, h⟩ := am_bif h
    obtain ⟨q2, h⟩ := am_bif h
    cases h
    exact am_fr.rf
set_option maxRecDepth 20000 in
theorem w_fMarks_join_33 {a0 : Nat} : ∀ {a1 : Int32} {a2 : Int32} {a3 : Int32} {a4 : Int32} {a5 : Int32} {μ : am_Mu} {out : am_Mu}, fMarks_join_33 a0 a1 a2 a3 a4 a5 μ = some out → am_fr [(a0 + 1, 999), (a0 + 2, 999), (a0 + 3, 999)] μ out := by
  intro a1 a2 a3 a4 a5 μ out h
  unfold fMarks_join_33 at h
  rcases am_ite h with ⟨q1, h⟩ | ⟨q1, h⟩
  · skip
    cases h
    exact am_fr.rf
  · skip
    obtain ⟨g_a0, h⟩ := am_bif h
    rcases am_ite h with ⟨q2, h⟩ | ⟨q2, h⟩
    · skip
      obtain ⟨q3, h⟩ := am_bif h
      rcases am_ite h with ⟨q4, h⟩ | ⟨q4, h⟩
      · skip
        cases h
        exact (am_fr.up (am_fr.up am_fr.rf (by simp [am_wl])) (by simp [am_wl]))
      · skip
        rcases am_ite h with ⟨q5, h⟩ | ⟨q5, h⟩
        · skip
          cases h
          exact (am_fr.up (am_fr.up am_fr.rf (by simp [am_wl])) (by simp [am_wl]))
        · skip
          cases h
          exact (am_fr.up (am_fr.up am_fr.rf (by simp [am_wl])) (by simp [am_wl]))
    · skip
      obtain ⟨q6, h⟩ := am_bif h
      rcases am_ite h with ⟨q7, h⟩ | ⟨q7, h⟩
      · skip
        rcases am_ite h with ⟨q8, h⟩ | ⟨q8, h⟩
        · skip
          cases h
          exact (am_fr.up (am_fr.up am_fr.rf (by simp [am_wl])) (by simp [am_wl]))
        · skip
          rcases am_ite h with ⟨q9, h⟩ | ⟨q9, h⟩
          · skip
            cases h
            exact (am_fr.up (am_fr.up am_fr.rf (by simp [am_wl])) (by simp [am_wl]))
          · skip
            cases h
            exact (am_fr.up (am_fr.up am_fr.rf (by simp [am_wl])) (by simp [am_wl]))
      · skip
        rcases am_ite h with ⟨q10, h⟩ | ⟨q10, h⟩
        · skip
          cases h
          exact (am_fr.up (am_fr.up am_fr.rf (by simp [am_wl])) (by simp [am_wl]))
        · skip
          rcases am_ite h with ⟨q11, h⟩ | ⟨q11, h⟩
          · skip
            cases h
            exact (am_fr.up (am_fr.up am_fr.rf (by simp [am_wl])) (by simp [am_wl]))
          · skip
            cases h
            exact (am_fr.up (am_fr.up am_fr.rf (by simp [am_wl])) (by simp [am_wl]))
set_option maxRecDepth 20000 in
theorem w_fMarks_join_14 {a0 : Nat} : ∀ {a1 : Int32} {a2 : Int32} {a3 : Int32} {a4 : Int32} {s0 : Int32} {μ : am_Mu} {out : am_Mu}, fMarks_join_14 a0 a1 a2 a3 a4 s0 μ = some out → am_fr [(a0 + 1, 999), (a0 + 2, 999), (a0 + 3, 999)] μ out := by
  intro a1 a2 a3 a4 s0 μ out h
  unfold fMarks_join_14 at h
  obtain ⟨g_a0, h⟩ := am_bif h
  obtain ⟨q1, h⟩ := am_bif h
  rcases am_ite h with ⟨q2, h⟩ | ⟨q2, h⟩
  · skip
    exact am_fr.trans am_fr.rf (w_fMarks_join_33 h)
  · skip
    exact am_fr.trans (am_fr.up am_fr.rf (by simp [am_wl])) (w_fMarks_join_33 h)
set_option maxRecDepth 20000 in
theorem w_fMarks_join {a0 : Nat} : ∀ {a1 : Int32} {a2 : Int32} {a3 : Int32} {a4 : Int32} {μ : am_Mu} {out : am_Mu}, fMarks_join a0 a1 a2 a3 a4 μ = some out → am_fr [(a0 + 1, 999), (a0 + 2, 999), (a0 + 3, 999)] μ out := by
  intro a1 a2 a3 a4 μ out h
  unfold fMarks_join at h
  obtain ⟨g_a0, h⟩ := am_bif h
  obtain ⟨q1, h⟩ := am_bif h
  rcases am_ite h with ⟨q2, h⟩ | ⟨q2, h⟩
  · skip
    exact am_fr.trans am_fr.rf (w_fMarks_join_14 h)
  · skip
    exact am_fr.trans am_fr.rf (w_fMarks_join_14 h)
set_option maxRecDepth 20000 in
theorem w_fJudge_applyEffects_111 {a1 : Nat} {a2 : Nat} {k7 : Nat → Nat → Int32 → Int32 → Int32 → Int32 → Int32 → Int32 → am_Mu → Option (am_Mu)} (hk7 : ∀ {a3 : Int32} {a4 : Int32} {a5 : Int32} {a6 : Int32} {a7 : Int32} {a8 : Int32} {μ : am_Mu} {out : am_Mu}, k7 a1 a2 a3 a4 a5 a6 a7 a8 μ = some out → am_fr [(a1 + 1, 999), (a1 + 2, 999), (a1 + 3, 999)] μ out) : ∀ {a3 : Int32} {a4 : Int32} {a5 : Int32} {a6 : Int32} {a7 : Int32} {a8 : Int32} {μ : am_Mu} {out : am_Mu}, fJudge_applyEffects_111 k7 a1 a2 a3 a4 a5 a6 a7 a8 μ = some out → am_fr [(a1 + 1, 999), (a1 + 2, 999), (a1 + 3, 999)] μ out := by
  intro a3 a4 a5 a6 a7 a8 μ out h
  unfold fJudge_applyEffects_111 at h
  exact am_fr.trans am_fr.rf (hk7 h)
set_option maxRecDepth 20000 in
theorem w_fJudge_applyEffects_79 {a1 : Nat} {a2 : Nat} {k7 : Nat → Nat → Int32 → Int32 → Int32 → Int32 → Int32 → Int32 → am_Mu → Option (am_Mu)} (hk7 : ∀ {a3 : Int32} {a4 : Int32} {a5 : Int32} {a6 : Int32} {a7 : Int32} {a8 : Int32} {μ : am_Mu} {out : am_Mu}, k7 a1 a2 a3 a4 a5 a6 a7 a8 μ = some out → am_fr [(a1 + 1, 999), (a1 + 2, 999), (a1 + 3, 999)] μ out) : ∀ {a3 : Int32} {a4 : Int32} {a5 : Int32} {a6 : Int32} {a7 : Int32} {a8 : Int32} {a11 : Int32} {s0 : Int32} {μ : am_Mu} {out : am_Mu}, fJudge_applyEffects_79 k7 a1 a2 a3 a4 a5 a6 a7 a8 a11 s0 μ = some out → am_fr [(a1 + 1, 999), (a1 + 2, 999), (a1 + 3, 999)] μ out := by
  intro a3 a4 a5 a6 a7 a8 a11 s0 μ out h
  unfold fJudge_applyEffects_79 at h
  rcases am_ite h with ⟨q1, h⟩ | ⟨q1, h⟩
  · skip
    obtain ⟨g_a1, h⟩ := am_bif h
    obtain ⟨q2, h_q2, h⟩ := am_bind h
    have w_q2 : am_fr [(a1 + 1, 999), (a1 + 2, 999), (a1 + 3, 999)] μ q2 := am_fr.trans am_fr.rf (am_fr.mono (w_fMarks_join h_q2) (by simp))
    exact am_fr.trans w_q2 (w_fJudge_applyEffects_111 hk7 h)
  · skip
    obtain ⟨g_a1, h⟩ := am_bif h
    obtain ⟨q3, h_q3, h⟩ := am_bind h
    have w_q3 : am_fr [(a1 + 1, 999), (a1 + 2, 999), (a1 + 3, 999)] μ q3 := am_fr.trans am_fr.rf (am_fr.mono (w_fMarks_put h_q3) (by simp))
    exact am_fr.trans w_q3 (w_fJudge_applyEffects_111 hk7 h)
set_option maxRecDepth 20000 in
theorem w_fJudge_applyEffects_42 {a1 : Nat} {a2 : Nat} {k7 : Nat → Nat → Int32 → Int32 → Int32 → Int32 → Int32 → Int32 → am_Mu → Option (am_Mu)} (hk7 : ∀ {a3 : Int32} {a4 : Int32} {a5 : Int32} {a6 : Int32} {a7 : Int32} {a8 : Int32} {μ : am_Mu} {out : am_Mu}, k7 a1 a2 a3 a4 a5 a6 a7 a8 μ = some out → am_fr [(a1 + 1, 999), (a1 + 2, 999), (a1 + 3, 999)] μ out) : ∀ {a3 : Int32} {a4 : Int32} {a5 : Int32} {a6 : Int32} {a7 : Int32} {a8 : Int32} {a9 : Int32} {s0 : Int32} {μ : am_Mu} {out : am_Mu}, fJudge_applyEffects_42 k7 a1 a2 a3 a4 a5 a6 a7 a8 a9 s0 μ = some out → am_fr [(a1 + 1, 999), (a1 + 2, 999), (a1 + 3, 999)] μ out := by
  intro a3 a4 a5 a6 a7 a8 a9 s0 μ out h
  unfold fJudge_applyEffects_42 at h
  rcases am_ite h with ⟨q1, h⟩ | ⟨q1, h⟩
  · skip
    rcases am_ite h with ⟨q2, h⟩ | ⟨q2, h⟩
    · skip
      exact am_fr.trans am_fr.rf (w_fJudge_applyEffects_79 hk7 h)
    · skip
      exact am_fr.trans am_fr.rf (w_fJudge_applyEffects_79 hk7 h)
  · skip
    exact am_fr.trans am_fr.rf (w_fJudge_applyEffects_111 hk7 h)
set_option maxRecDepth 20000 in
theorem w_fJudge_applyEffects_7 {a1 : Nat} {a2 : Nat} : ∀ n : Nat, ∀ {a3 : Int32} {a4 : Int32} {a5 : Int32} {a6 : Int32} {a7 : Int32} {a8 : Int32} {μ : am_Mu} {out : am_Mu}, fJudge_applyEffects_7 n a1 a2 a3 a4 a5 a6 a7 a8 μ = some out → am_fr [(a1 + 1, 999), (a1 + 2, 999), (a1 + 3, 999)] μ out := by
  intro n
  induction n with
  | zero => intros; contradiction
  | succ n ih =>
    have hk7 : ∀ {a3 : Int32} {a4 : Int32} {a5 : Int32} {a6 : Int32} {a7 : Int32} {a8 : Int32} {μ : am_Mu} {out : am_Mu}, (fJudge_applyEffects_7 n) a1 a2 a3 a4 a5 a6 a7 a8 μ = some out → am_fr [(a1 + 1, 999), (a1 + 2, 999), (a1 + 3, 999)] μ out := ih
    intro a3 a4 a5 a6 a7 a8 μ out h
    unfold fJudge_applyEffects_7 at h
    obtain ⟨g_a2, h⟩ := am_bif h
    obtain ⟨q1, h⟩ := am_bif h
    rcases am_ite h with ⟨q2, h⟩ | ⟨q2, h⟩
    · skip
      cases h
      exact am_fr.rf
    · skip
      obtain ⟨q3, h⟩ := am_bif h
      rcases am_ite h with ⟨q4, h⟩ | ⟨q4, h⟩
      · skip
        exact am_fr.trans am_fr.rf (w_fJudge_applyEffects_42 hk7 h)
      · skip
        exact am_fr.trans am_fr.rf (w_fJudge_applyEffects_42 hk7 h)
set_option maxRecDepth 20000 in
theorem w_fJudge_applyEffects {a1 : Nat} {a2 : Nat} : ∀ {a3 : Int32} {a4 : Int32} {a5 : Int32} {a6 : Int32} {a7 : Int32} {μ : am_Mu} {out : am_Mu}, fJudge_applyEffects a1 a2 a3 a4 a5 a6 a7 μ = some out → am_fr [(a1 + 1, 999), (a1 + 2, 999), (a1 + 3, 999)] μ out := by
  intro a3 a4 a5 a6 a7 μ out h
  unfold fJudge_applyEffects at h
  obtain ⟨g_a2, h⟩ := am_bif h
  obtain ⟨q1, h_q1, h⟩ := am_bind h
  have w_q1 : am_fr [(a1 + 1, 999), (a1 + 2, 999), (a1 + 3, 999)] μ q1.2 := am_fr.trans am_fr.rf (am_fr.mono (w_fLaw_effectsFrom h_q1) rfl)
  exact am_fr.trans w_q1 (w_fJudge_applyEffects_7 am_F h)
set_option maxRecDepth 20000 in
theorem w_fJudge_applyRules_71 {a1 : Nat} {a2 : Nat} {k3 : Nat → Nat → Int32 → Int32 → Int32 → Int32 → Int32 → am_Mu → Option (am_Mu)} (hk3 : ∀ {a3 : Int32} {a4 : Int32} {a5 : Int32} {a6 : Int32} {a7 : Int32} {μ : am_Mu} {out : am_Mu}, k3 a1 a2 a3 a4 a5 a6 a7 μ = some out → am_fr [(53, 999), (54, 999), (55, 999), (56, 999), (59, 999), (60, 999), (61, 999), (63, 999), (64, 999), (65, 999), (69, 999), (70, 999), (71, 999), (73, 999), (74, 999), (75, 999)] μ out) : ∀ {a3 : Int32} {a4 : Int32} {a5 : Int32} {a6 : Int32} {a7 : Int32} {μ : am_Mu} {out : am_Mu}, fJudge_applyRules_71 k3 a1 a2 a3 a4 a5 a6 a7 μ = some out → am_fr [(53, 999), (54, 999), (55, 999), (56, 999), (59, 999), (60, 999), (61, 999), (63, 999), (64, 999), (65, 999), (69, 999), (70, 999), (71, 999), (73, 999), (74, 999), (75, 999)] μ out := by
  intro a3 a4 a5 a6 a7 μ out h
  unfold fJudge_applyRules_71 at h
  exact am_fr.trans am_fr.rf (hk3 h)
set_option maxRecDepth 20000 in
theorem w_fJudge_applyRules_68 {a1 : Nat} {a2 : Nat} {k3 : Nat → Nat → Int32 → Int32 → Int32 → Int32 → Int32 → am_Mu → Option (am_Mu)} (hk3 : ∀ {a3 : Int32} {a4 : Int32} {a5 : Int32} {a6 : Int32} {a7 : Int32} {μ : am_Mu} {out : am_Mu}, k3 a1 a2 a3 a4 a5 a6 a7 μ = some out → am_fr [(53, 999), (54, 999), (55, 999), (56, 999), (59, 999), (60, 999), (61, 999), (63, 999), (64, 999), (65, 999), (69, 999), (70, 999), (71, 999), (73, 999), (74, 999), (75, 999)] μ out) : ∀ {a3 : Int32} {a4 : Int32} {a5 : Int32} {a6 : Int32} {a7 : Int32} {s1 : Nat} {s2 : Nat} {s3 : Int32} {s4 : Int32} {s5 : Int32} {s6 : Int32} {s7 : Int32} {μ : am_Mu} {out : am_Mu}, fJudge_applyRules_68 k3 a1 a2 a3 a4 a5 a6 a7 s1 s2 s3 s4 s5 s6 s7 μ = some out → am_fr [(53, 999), (54, 999), (55, 999), (56, 999), (59, 999), (60, 999), (61, 999), (63, 999), (64, 999), (65, 999), (69, 999), (70, 999), (71, 999), (73, 999), (74, 999), (75, 999)] μ out := by
  intro a3 a4 a5 a6 a7 s1 s2 s3 s4 s5 s6 s7 μ out h
  unfold fJudge_applyRules_68 at h
  obtain ⟨g_s1, h⟩ := am_bif h
  obtain ⟨g_s2, h⟩ := am_bif h
  obtain ⟨q1, h_q1, h⟩ := am_bind h
  have w_q1 : am_fr [(53, 999), (54, 999), (55, 999), (56, 999), (59, 999), (60, 999), (61, 999), (63, 999), (64, 999), (65, 999), (69, 999), (70, 999), (71, 999), (73, 999), (74, 999), (75, 999)] μ q1 := am_fr.trans am_fr.rf (by rcases am_isMarks_cases g_s1 with e | e | e | e | e <;> (have w9 := w_fJudge_applyEffects h_q1; rw [e] at w9; exact am_fr.mono w9 rfl))
  exact am_fr.trans w_q1 (w_fJudge_applyRules_71 hk3 h)
set_option maxRecDepth 20000 in
theorem w_fJudge_applyRules_3 {a1 : Nat} {a2 : Nat} : ∀ n : Nat, ∀ {a3 : Int32} {a4 : Int32} {a5 : Int32} {a6 : Int32} {a7 : Int32} {μ : am_Mu} {out : am_Mu}, fJudge_applyRules_3 n a1 a2 a3 a4 a5 a6 a7 μ = some out → am_fr [(53, 999), (54, 999), (55, 999), (56, 999), (59, 999), (60, 999), (61, 999), (63, 999), (64, 999), (65, 999), (69, 999), (70, 999), (71, 999), (73, 999), (74, 999), (75, 999)] μ out := by
  intro n
  induction n with
  | zero => intros; contradiction
  | succ n ih =>
    have hk3 : ∀ {a3 : Int32} {a4 : Int32} {a5 : Int32} {a6 : Int32} {a7 : Int32} {μ : am_Mu} {out : am_Mu}, (fJudge_applyRules_3 n) a1 a2 a3 a4 a5 a6 a7 μ = some out → am_fr [(53, 999), (54, 999), (55, 999), (56, 999), (59, 999), (60, 999), (61, 999), (63, 999), (64, 999), (65, 999), (69, 999), (70, 999), (71, 999), (73, 999), (74, 999), (75, 999)] μ out := ih
    intro a3 a4 a5 a6 a7 μ out h
    unfold fJudge_applyRules_3 at h
    obtain ⟨g_a2, h⟩ := am_bif h
    rcases am_ite h with ⟨q1, h⟩ | ⟨q1, h⟩
    · skip
      cases h
      exact am_fr.rf
    · skip
      obtain ⟨q2, h⟩ := am_bif h
      rcases am_ite h with ⟨q3, h⟩ | ⟨q3, h⟩
      · skip
        obtain ⟨q4, h_q4, h⟩ := am_bind h
        have w_q4 : am_fr [(53, 999), (54, 999), (55, 999), (56, 999), (59, 999), (60, 999), (61, 999), (63, 999), (64, 999), (65, 999), (69, 999), (70, 999), (71, 999), (73, 999), (74, 999), (75, 999)] μ q4.2 := am_fr.trans am_fr.rf (am_fr.mono (w_fJudge_ask h_q4) rfl)
        rcases am_ite h with ⟨q5, h⟩ | ⟨q5, h⟩
        · skip
          exact am_fr.trans w_q4 (w_fJudge_applyRules_71 hk3 h)
        · skip
          rcases am_ite h with ⟨q6, h⟩ | ⟨q6, h⟩
          · skip
            exact am_fr.trans w_q4 (w_fJudge_applyRules_68 hk3 h)
          · skip
            exact am_fr.trans w_q4 (w_fJudge_applyRules_68 hk3 h)
      · skip
        exact am_fr.trans am_fr.rf (w_fJudge_applyRules_71 hk3 h)
set_option maxRecDepth 20000 in
theorem w_fJudge_applyRules {a1 : Nat} {a2 : Nat} : ∀ {a3 : Int32} {a4 : Int32} {a5 : Int32} {a6 : Int32} {μ : am_Mu} {out : am_Mu}, fJudge_applyRules a1 a2 a3 a4 a5 a6 μ = some out → am_fr [(53, 999), (54, 999), (55, 999), (56, 999), (59, 999), (60, 999), (61, 999), (63, 999), (64, 999), (65, 999), (69, 999), (70, 999), (71, 999), (73, 999), (74, 999), (75, 999)] μ out := by
  intro a3 a4 a5 a6 μ out h
  unfold fJudge_applyRules at h
  exact am_fr.trans am_fr.rf (w_fJudge_applyRules_3 am_F h)
set_option maxRecDepth 20000 in
theorem w_fMarks_joinThing_5 {a0 : Nat} {a1 : Nat} : ∀ n : Nat, ∀ {a2 : Int32} {a3 : Int32} {μ : am_Mu} {out : am_Mu}, fMarks_joinThing_5 n a0 a1 a2 a3 μ = some out → am_fr [(a0 + 1, 999), (a0 + 2, 999), (a0 + 3, 999)] μ out := by
  intro n
  induction n with
  | zero => intros; contradiction
  | succ n ih =>
    have hk5 : ∀ {a2 : Int32} {a3 : Int32} {μ : am_Mu} {out : am_Mu}, (fMarks_joinThing_5 n) a0 a1 a2 a3 μ = some out → am_fr [(a0 + 1, 999), (a0 + 2, 999), (a0 + 3, 999)] μ out := ih
    intro a2 a3 μ out h
    unfold fMarks_joinThing_5 at h
    rcases am_ite h with ⟨q1, h⟩ | ⟨q1, h⟩
    · skip
      cases h
      exact am_fr.rf
    · skip
      obtain ⟨g_a1, h⟩ := am_bif h
      obtain ⟨q2, h⟩ := am_bif h
      obtain ⟨g_a0, h⟩ := am_bif h
      obtain ⟨q3, h_q3, h⟩ := am_bind h
      have w_q3 : am_fr [(a0 + 1, 999), (a0 + 2, 999), (a0 + 3, 999)] μ q3 := am_fr.trans am_fr.rf (am_fr.mono (w_fMarks_join h_q3) (by simp))
      exact am_fr.trans w_q3 (hk5 h)
set_option maxRecDepth 20000 in
theorem w_fMarks_joinThing {a0 : Nat} {a1 : Nat} : ∀ {a2 : Int32} {μ : am_Mu} {out : am_Mu}, fMarks_joinThing a0 a1 a2 μ = some out → am_fr [(a0 + 1, 999), (a0 + 2, 999), (a0 + 3, 999)] μ out := by
  intro a2 μ out h
  unfold fMarks_joinThing at h
  exact am_fr.trans am_fr.rf (w_fMarks_joinThing_5 am_F h)
set_option maxRecDepth 20000 in
theorem w_fJudge_perform_69 {a1 : Nat} : ∀ {a4 : Int32} {a5 : Int32} {a7 : Int32} {a8 : Int32} {μ : am_Mu} {out : am_Mu}, fJudge_perform_69 a1 a4 a5 a7 a8 μ = some out → am_fr [(53, 999), (54, 999), (55, 999), (56, 999), (59, 999), (60, 999), (61, 999), (63, 999), (64, 999), (65, 999), (69, 999), (70, 999), (71, 999), (73, 999), (74, 999), (75, 999), (a1 + 1, 999), (a1 + 2, 999), (a1 + 3, 999)] μ out := by
  intro a4 a5 a7 a8 μ out h
  unfold fJudge_perform_69 at h
  rcases am_ite h with ⟨q1, h⟩ | ⟨q1, h⟩
  · skip
    cases h
    exact am_fr.rf
  · skip
    obtain ⟨g_a1, h⟩ := am_bif h
    obtain ⟨q2, h_q2, h⟩ := am_bind h
    have w_q2 : am_fr [(53, 999), (54, 999), (55, 999), (56, 999), (59, 999), (60, 999), (61, 999), (63, 999), (64, 999), (65, 999), (69, 999), (70, 999), (71, 999), (73, 999), (74, 999), (75, 999), (a1 + 1, 999), (a1 + 2, 999), (a1 + 3, 999)] μ q2 := am_fr.trans am_fr.rf (am_fr.mono (w_fMarks_joinThing h_q2) (by simp))
    rcases am_ite h with ⟨q3, h⟩ | ⟨q3, h⟩
    · skip
      cases h
      exact w_q2
    · skip
      obtain ⟨q4, h_q4, h⟩ := am_bind h
      have w_q4 : am_fr [(53, 999), (54, 999), (55, 999), (56, 999), (59, 999), (60, 999), (61, 999), (63, 999), (64, 999), (65, 999), (69, 999), (70, 999), (71, 999), (73, 999), (74, 999), (75, 999), (a1 + 1, 999), (a1 + 2, 999), (a1 + 3, 999)] μ q4 := am_fr.trans w_q2 (am_fr.mono (w_fMarks_joinThing h_q4) (by simp))
      cases h
      exact w_q4
set_option maxRecDepth 20000 in
theorem w_fJudge_perform_38 {a1 : Nat} {a2 : Nat} : ∀ {a3 : Int32} {a4 : Int32} {a5 : Int32} {a6 : Int32} {a7 : Int32} {a8 : Int32} {μ : am_Mu} {out : am_Mu}, fJudge_perform_38 a1 a2 a3 a4 a5 a6 a7 a8 μ = some out → am_fr [(53, 999), (54, 999), (55, 999), (56, 999), (59, 999), (60, 999), (61, 999), (63, 999), (64, 999), (65, 999), (69, 999), (70, 999), (71, 999), (73, 999), (74, 999), (75, 999), (a1 + 1, 999), (a1 + 2, 999), (a1 + 3, 999)] μ out := by
  intro a3 a4 a5 a6 a7 a8 μ out h
  unfold fJudge_perform_38 at h
  obtain ⟨q1, h_q1, h⟩ := am_bind h
  have w_q1 : am_fr [(53, 999), (54, 999), (55, 999), (56, 999), (59, 999), (60, 999), (61, 999), (63, 999), (64, 999), (65, 999), (69, 999), (70, 999), (71, 999), (73, 999), (74, 999), (75, 999), (a1 + 1, 999), (a1 + 2, 999), (a1 + 3, 999)] μ q1 := am_fr.trans am_fr.rf (am_fr.mono (w_fJudge_applyRules h_q1) rfl)
  rcases am_ite h with ⟨q2, h⟩ | ⟨q2, h⟩
  · skip
    exact am_fr.trans w_q1 (w_fJudge_perform_69 h)
  · skip
    obtain ⟨q3, h_q3, h⟩ := am_bind h
    have w_q3 : am_fr [(53, 999), (54, 999), (55, 999), (56, 999), (59, 999), (60, 999), (61, 999), (63, 999), (64, 999), (65, 999), (69, 999), (70, 999), (71, 999), (73, 999), (74, 999), (75, 999), (a1 + 1, 999), (a1 + 2, 999), (a1 + 3, 999)] μ q3 := am_fr.trans w_q1 (am_fr.mono (w_fJudge_applyRules h_q3) rfl)
    exact am_fr.trans w_q3 (w_fJudge_perform_69 h)
set_option maxRecDepth 20000 in
theorem w_fJudge_perform_11 {a1 : Nat} {a2 : Nat} : ∀ {a3 : Int32} {a4 : Int32} {a5 : Int32} {a6 : Int32} {a7 : Int32} {s0 : Int32} {μ : am_Mu} {out : am_Mu}, fJudge_perform_11 a1 a2 a3 a4 a5 a6 a7 s0 μ = some out → am_fr [(53, 999), (54, 999), (55, 999), (56, 999), (59, 999), (60, 999), (61, 999), (63, 999), (64, 999), (65, 999), (69, 999), (70, 999), (71, 999), (73, 999), (74, 999), (75, 999), (a1 + 1, 999), (a1 + 2, 999), (a1 + 3, 999)] μ out := by
  intro a3 a4 a5 a6 a7 s0 μ out h
  unfold fJudge_perform_11 at h
  obtain ⟨q1, h_q1, h⟩ := am_bind h
  have w_q1 : am_fr [(53, 999), (54, 999), (55, 999), (56, 999), (59, 999), (60, 999), (61, 999), (63, 999), (64, 999), (65, 999), (69, 999), (70, 999), (71, 999), (73, 999), (74, 999), (75, 999), (a1 + 1, 999), (a1 + 2, 999), (a1 + 3, 999)] μ q1 := am_fr.trans am_fr.rf (am_fr.mono (w_fMarks_copyThing h_q1) rfl)
  rcases am_ite h with ⟨q2, h⟩ | ⟨q2, h⟩
  · skip
    exact am_fr.trans w_q1 (w_fJudge_perform_38 h)
  · skip
    obtain ⟨q3, h_q3, h⟩ := am_bind h
    have w_q3 : am_fr [(53, 999), (54, 999), (55, 999), (56, 999), (59, 999), (60, 999), (61, 999), (63, 999), (64, 999), (65, 999), (69, 999), (70, 999), (71, 999), (73, 999), (74, 999), (75, 999), (a1 + 1, 999), (a1 + 2, 999), (a1 + 3, 999)] μ q3 := am_fr.trans w_q1 (am_fr.mono (w_fMarks_copyThing h_q3) rfl)
    exact am_fr.trans w_q3 (w_fJudge_perform_38 h)
set_option maxRecDepth 20000 in
theorem w_fJudge_perform {a1 : Nat} {a2 : Nat} : ∀ {a3 : Int32} {a4 : Int32} {a5 : Int32} {a6 : Int32} {a7 : Int32} {μ : am_Mu} {out : am_Mu}, fJudge_perform a1 a2 a3 a4 a5 a6 a7 μ = some out → am_fr [(53, 999), (54, 999), (55, 999), (56, 999), (59, 999), (60, 999), (61, 999), (63, 999), (64, 999), (65, 999), (69, 999), (70, 999), (71, 999), (73, 999), (74, 999), (75, 999), (a1 + 1, 999), (a1 + 2, 999), (a1 + 3, 999)] μ out := by
  intro a3 a4 a5 a6 a7 μ out h
  unfold fJudge_perform at h
  rcases am_ite h with ⟨q1, h⟩ | ⟨q1, h⟩
  · skip
    exact am_fr.trans am_fr.rf (w_fJudge_perform_11 h)
  · skip
    exact am_fr.trans am_fr.rf (w_fJudge_perform_11 h)
set_option maxRecDepth 20000 in
theorem w_fJudge_play {a1 : Nat} : ∀ {a2 : Int32} {a3 : Int32} {μ : am_Mu} {out : am_Mu}, fJudge_play a1 a2 a3 μ = some out → am_fr [(53, 999), (54, 999), (55, 999), (56, 999), (59, 999), (60, 999), (61, 999), (63, 999), (64, 999), (65, 999), (69, 999), (70, 999), (71, 999), (73, 999), (74, 999), (75, 999), (a1 + 1, 999), (a1 + 2, 999), (a1 + 3, 999)] μ out := by
  intro a2 a3 μ out h
  unfold fJudge_play at h
  obtain ⟨q1, h_q1, h⟩ := am_bind h
  have w_q1 : am_fr [(53, 999), (54, 999), (55, 999), (56, 999), (59, 999), (60, 999), (61, 999), (63, 999), (64, 999), (65, 999), (69, 999), (70, 999), (71, 999), (73, 999), (74, 999), (75, 999), (a1 + 1, 999), (a1 + 2, 999), (a1 + 3, 999)] μ q1.2 := am_fr.trans am_fr.rf (am_fr.mono (w_fLedger_isMistake h_q1) rfl)
  rcases am_ite h with ⟨q2, h⟩ | ⟨q2, h⟩
  · skip
    obtain ⟨q3, h⟩ := am_bif h
    obtain ⟨q4, h_q4, h⟩ := am_bind h
    have w_q4 : am_fr [(53, 999), (54, 999), (55, 999), (56, 999), (59, 999), (60, 999), (61, 999), (63, 999), (64, 999), (65, 999), (69, 999), (70, 999), (71, 999), (73, 999), (74, 999), (75, 999), (a1 + 1, 999), (a1 + 2, 999), (a1 + 3, 999)] μ q4.2 := am_fr.trans w_q1 (am_fr.mono (w_fJudge_lawAt h_q4) rfl)
    obtain ⟨g_q4_1, h⟩ := am_bif h
    obtain ⟨q5, h_q5, h⟩ := am_bind h
    have w_q5 : am_fr [(53, 999), (54, 999), (55, 999), (56, 999), (59, 999), (60, 999), (61, 999), (63, 999), (64, 999), (65, 999), (69, 999), (70, 999), (71, 999), (73, 999), (74, 999), (75, 999), (a1 + 1, 999), (a1 + 2, 999), (a1 + 3, 999)] μ q5 := am_fr.trans w_q4 (am_fr.mono (w_fJudge_perform h_q5) (by simp))
    cases h
    exact w_q5
  · skip
    obtain ⟨q6, h⟩ := am_bif h
    obtain ⟨g_a1, h⟩ := am_bif h
    obtain ⟨q7, h_q7, h⟩ := am_bind h
    have w_q7 : am_fr [(53, 999), (54, 999), (55, 999), (56, 999), (59, 999), (60, 999), (61, 999), (63, 999), (64, 999), (65, 999), (69, 999), (70, 999), (71, 999), (73, 999), (74, 999), (75, 999), (a1 + 1, 999), (a1 + 2, 999), (a1 + 3, 999)] μ q7 := am_fr.trans w_q1 (am_fr.mono (w_fMarks_put h_q7) (by simp))
    cases h
    exact w_q7
set_option maxRecDepth 20000 in
theorem w_fJudge_tellWhatIs_70 {a1 : Nat} {k11 : Nat → Int32 → Int32 → Int32 → Int32 → am_Mu → Option (am_Mu)} (hk11 : ∀ {a2 : Int32} {a3 : Int32} {a4 : Int32} {a5 : Int32} {μ : am_Mu} {out : am_Mu}, k11 a1 a2 a3 a4 a5 μ = some out → am_fr [(53, 999), (54, 999), (55, 999), (56, 999), (59, 999), (60, 999), (61, 999), (63, 999), (64, 999), (65, 999), (69, 999), (70, 999), (71, 999), (73, 999), (74, 999), (75, 999), (a1 + 1, 999), (a1 + 2, 999), (a1 + 3, 999)] μ out) : ∀ {a2 : Int32} {a3 : Int32} {a4 : Int32} {a5 : Int32} {μ : am_Mu} {out : am_Mu}, fJudge_tellWhatIs_70 k11 a1 a2 a3 a4 a5 μ = some out → am_fr [(53, 999), (54, 999), (55, 999), (56, 999), (59, 999), (60, 999), (61, 999), (63, 999), (64, 999), (65, 999), (69, 999), (70, 999), (71, 999), (73, 999), (74, 999), (75, 999), (a1 + 1, 999), (a1 + 2, 999), (a1 + 3, 999)] μ out := by
  intro a2 a3 a4 a5 μ out h
  unfold fJudge_tellWhatIs_70 at h
  exact am_fr.trans am_fr.rf (hk11 h)
set_option maxRecDepth 20000 in
theorem w_fJudge_tellWhatIs_11 {a1 : Nat} : ∀ n : Nat, ∀ {a2 : Int32} {a3 : Int32} {a4 : Int32} {a5 : Int32} {μ : am_Mu} {out : am_Mu}, fJudge_tellWhatIs_11 n a1 a2 a3 a4 a5 μ = some out → am_fr [(53, 999), (54, 999), (55, 999), (56, 999), (59, 999), (60, 999), (61, 999), (63, 999), (64, 999), (65, 999), (69, 999), (70, 999), (71, 999), (73, 999), (74, 999), (75, 999), (a1 + 1, 999), (a1 + 2, 999), (a1 + 3, 999)] μ out := by
  intro n
  induction n with
  | zero => intros; contradiction
  | succ n ih =>
    have hk11 : ∀ {a2 : Int32} {a3 : Int32} {a4 : Int32} {a5 : Int32} {μ : am_Mu} {out : am_Mu}, (fJudge_tellWhatIs_11 n) a1 a2 a3 a4 a5 μ = some out → am_fr [(53, 999), (54, 999), (55, 999), (56, 999), (59, 999), (60, 999), (61, 999), (63, 999), (64, 999), (65, 999), (69, 999), (70, 999), (71, 999), (73, 999), (74, 999), (75, 999), (a1 + 1, 999), (a1 + 2, 999), (a1 + 3, 999)] μ out := ih
    intro a2 a3 a4 a5 μ out h
    unfold fJudge_tellWhatIs_11 at h
    rcases am_ite h with ⟨q1, h⟩ | ⟨q1, h⟩
    · skip
      cases h
      exact am_fr.rf
    · skip
      obtain ⟨q2, h⟩ := am_bif h
      obtain ⟨q3, h_q3, h⟩ := am_bind h
      have w_q3 : am_fr [(53, 999), (54, 999), (55, 999), (56, 999), (59, 999), (60, 999), (61, 999), (63, 999), (64, 999), (65, 999), (69, 999), (70, 999), (71, 999), (73, 999), (74, 999), (75, 999), (a1 + 1, 999), (a1 + 2, 999), (a1 + 3, 999)] μ q3.2 := am_fr.trans am_fr.rf (am_fr.mono (w_fLedger_minuteOf h_q3) rfl)
      rcases am_ite h with ⟨q4, h⟩ | ⟨q4, h⟩
      · skip
        exact am_fr.trans w_q3 (w_fJudge_tellWhatIs_70 hk11 h)
      · skip
        obtain ⟨q5, h_q5, h⟩ := am_bind h
        have w_q5 : am_fr [(53, 999), (54, 999), (55, 999), (56, 999), (59, 999), (60, 999), (61, 999), (63, 999), (64, 999), (65, 999), (69, 999), (70, 999), (71, 999), (73, 999), (74, 999), (75, 999), (a1 + 1, 999), (a1 + 2, 999), (a1 + 3, 999)] μ q5.2 := am_fr.trans w_q3 (am_fr.mono (w_fLedger_isKnown h_q5) rfl)
        rcases am_ite h with ⟨q6, h⟩ | ⟨q6, h⟩
        · skip
          exact am_fr.trans w_q5 (w_fJudge_tellWhatIs_70 hk11 h)
        · skip
          obtain ⟨q7, h_q7, h⟩ := am_bind h
          have w_q7 : am_fr [(53, 999), (54, 999), (55, 999), (56, 999), (59, 999), (60, 999), (61, 999), (63, 999), (64, 999), (65, 999), (69, 999), (70, 999), (71, 999), (73, 999), (74, 999), (75, 999), (a1 + 1, 999), (a1 + 2, 999), (a1 + 3, 999)] μ q7 := am_fr.trans w_q5 (am_fr.mono (w_fJudge_play h_q7) (by simp))
          exact am_fr.trans w_q7 (w_fJudge_tellWhatIs_70 hk11 h)
set_option maxRecDepth 20000 in
theorem w_fJudge_tellWhatIs {a1 : Nat} : ∀ {a2 : Int32} {a3 : Int32} {a4 : Int32} {μ : am_Mu} {out : am_Mu}, fJudge_tellWhatIs a1 a2 a3 a4 μ = some out → am_fr [(53, 999), (54, 999), (55, 999), (56, 999), (59, 999), (60, 999), (61, 999), (63, 999), (64, 999), (65, 999), (69, 999), (70, 999), (71, 999), (73, 999), (74, 999), (75, 999), (a1 + 1, 999), (a1 + 2, 999), (a1 + 3, 999)] μ out := by
  intro a2 a3 a4 μ out h
  unfold fJudge_tellWhatIs at h
  obtain ⟨g_a1, h⟩ := am_bif h
  obtain ⟨q1, h_q1, h⟩ := am_bind h
  have w_q1 : am_fr [(53, 999), (54, 999), (55, 999), (56, 999), (59, 999), (60, 999), (61, 999), (63, 999), (64, 999), (65, 999), (69, 999), (70, 999), (71, 999), (73, 999), (74, 999), (75, 999), (a1 + 1, 999), (a1 + 2, 999), (a1 + 3, 999)] μ q1 := am_fr.trans am_fr.rf (am_fr.mono (w_fMarks_begin h_q1) (by simp))
  exact am_fr.trans w_q1 (w_fJudge_tellWhatIs_11 am_F h)
set_option maxRecDepth 20000 in
theorem w_fJudge_cleanse {a1 : Nat} : ∀ {a2 : Int32} {a3 : Int32} {a4 : Int32} {μ : am_Mu} {out : am_Mu}, fJudge_cleanse a1 a2 a3 a4 μ = some out → am_fr [(53, 999), (54, 999), (55, 999), (56, 999), (59, 999), (60, 999), (61, 999), (63, 999), (64, 999), (65, 999), (69, 999), (70, 999), (71, 999), (73, 999), (74, 999), (75, 999), (a1 + 1, 999), (a1 + 2, 999), (a1 + 3, 999)] μ out := by
  intro a2 a3 a4 μ out h
  unfold fJudge_cleanse at h
  obtain ⟨q1, h_q1, h⟩ := am_bind h
  have w_q1 : am_fr [(53, 999), (54, 999), (55, 999), (56, 999), (59, 999), (60, 999), (61, 999), (63, 999), (64, 999), (65, 999), (69, 999), (70, 999), (71, 999), (73, 999), (74, 999), (75, 999), (a1 + 1, 999), (a1 + 2, 999), (a1 + 3, 999)] μ q1.2 := am_fr.trans am_fr.rf (am_fr.mono (w_fJudge_lawAt h_q1) rfl)
  obtain ⟨g_q1_1, h⟩ := am_bif h
  obtain ⟨q2, h_q2, h⟩ := am_bind h
  have w_q2 : am_fr [(53, 999), (54, 999), (55, 999), (56, 999), (59, 999), (60, 999), (61, 999), (63, 999), (64, 999), (65, 999), (69, 999), (70, 999), (71, 999), (73, 999), (74, 999), (75, 999), (a1 + 1, 999), (a1 + 2, 999), (a1 + 3, 999)] μ q2 := am_fr.trans w_q1 (am_fr.mono (w_fJudge_perform h_q2) (by simp))
  cases h
  exact w_q2
set_option maxRecDepth 20000 in
theorem w_fKitchens_add : ∀ {a1 : Int32} {a2 : Int32} {a3 : Int32} {a4 : Int32} {μ : am_Mu} {out : Int32 × am_Mu}, fKitchens_add a1 a2 a3 a4 μ = some out → am_fr [(76, 8), (77, 999), (78, 999), (79, 999), (80, 999)] μ out.2 := by
  intro a1 a2 a3 a4 μ out h
  unfold fKitchens_add at h
  rcases am_ite h with ⟨q1, h⟩ | ⟨q1, h⟩
  · skip
    cases h
    exact am_fr.rf
  · skip
    obtain ⟨q2, h_q2, h⟩ := am_bind h
    have w_q2 : am_fr [(76, 8), (77, 999), (78, 999), (79, 999), (80, 999)] μ q2.2 := am_fr.trans am_fr.rf (am_fr.mono (w_fB_isIn h_q2) rfl)
    rcases am_ite h with ⟨q3, h⟩ | ⟨q3, h⟩
    · skip
      cases h
      exact w_q2
    · skip
      obtain ⟨q4, h_q4, h⟩ := am_bind h
      have w_q4 : am_fr [(76, 8), (77, 999), (78, 999), (79, 999), (80, 999)] μ q4.2 := am_fr.trans w_q2 (am_fr.mono (w_fB_isIn h_q4) rfl)
      rcases am_ite h with ⟨q5, h⟩ | ⟨q5, h⟩
      · skip
        obtain ⟨q6, h_q6, h⟩ := am_bind h
        have w_q6 : am_fr [(76, 8), (77, 999), (78, 999), (79, 999), (80, 999)] μ q6.2 := am_fr.trans w_q4 (am_fr.mono (w_fB_isIn h_q6) rfl)
        rcases am_ite h with ⟨q7, h⟩ | ⟨q7, h⟩
        · skip
          cases h
          exact w_q6
        · skip
          obtain ⟨q8, h_q8, h⟩ := am_bind h
          have w_q8 : am_fr [(76, 8), (77, 999), (78, 999), (79, 999), (80, 999)] μ q8.2 := am_fr.trans w_q6 (am_fr.mono (w_fB_isIn h_q8) rfl)
          rcases am_ite h with ⟨q9, h⟩ | ⟨q9, h⟩
          · skip
            obtain ⟨q10, h⟩ := am_bif h
            cases h
            exact (am_fr.up (am_fr.up (am_fr.up (am_fr.up (am_fr.up w_q8 rfl) rfl) rfl) rfl) rfl)
          · skip
            cases h
            exact w_q8
      · skip
        cases h
        exact w_q4
set_option maxRecDepth 20000 in
theorem w_fKitchens_isTrusted : ∀ {a1 : Int32} {a2 : Int32} {μ : am_Mu} {out : Int32 × am_Mu}, fKitchens_isTrusted a1 a2 μ = some out → am_fr [] μ out.2 := by
  intro a1 a2 μ out h
  unfold fKitchens_isTrusted at h
  obtain ⟨q1, h⟩ := am_bif h
  obtain ⟨q2, h⟩ := am_bif h
  obtain ⟨q3, h⟩ := am_ifp h
  cases h
  exact am_fr.rf
set_option maxRecDepth 20000 in
theorem w_fKitchens_distance : ∀ {a1 : Int32} {a2 : Int32} {μ : am_Mu} {out : Int32 × am_Mu}, fKitchens_distance a1 a2 μ = some out → am_fr [] μ out.2 := by
  intro a1 a2 μ out h
  unfold fKitchens_distance at h
  obtain ⟨q1, h⟩ := am_bif h
  obtain ⟨q2, h⟩ := am_bif h
  cases h
  exact am_fr.rf
set_option maxRecDepth 20000 in
theorem w_fKitchens_lengthVia_15 : ∀ {a2 : Int32} {a3 : Int32} {s0 : Int32} {μ : am_Mu} {out : Int32 × am_Mu}, fKitchens_lengthVia_15 a2 a3 s0 μ = some out → am_fr [] μ out.2 := by
  intro a2 a3 s0 μ out h
  unfold fKitchens_lengthVia_15 at h
  obtain ⟨q1, h⟩ := am_bif h
  cases h
  exact am_fr.rf
set_option maxRecDepth 20000 in
theorem w_fKitchens_lengthVia : ∀ {a1 : Int32} {a2 : Int32} {a3 : Int32} {μ : am_Mu} {out : Int32 × am_Mu}, fKitchens_lengthVia a1 a2 a3 μ = some out → am_fr [] μ out.2 := by
  intro a1 a2 a3 μ out h
  unfold fKitchens_lengthVia at h
  rcases am_ite h with ⟨q1, h⟩ | ⟨q1, h⟩
  · skip
    obtain ⟨q2, h_q2, h⟩ := am_bind h
    have w_q2 : am_fr [] μ q2.2 := am_fr.trans am_fr.rf (am_fr.mono (w_fKitchens_distance h_q2) rfl)
    exact am_fr.trans w_q2 (w_fKitchens_lengthVia_15 h)
  · skip
    exact am_fr.trans am_fr.rf (w_fKitchens_lengthVia_15 h)
set_option maxRecDepth 20000 in
theorem w_fKitchens_nearest_60 {k5 : Int32 → Int32 → Int32 → Int32 → am_Mu → Option (Int32 × am_Mu)} (hk5 : ∀ {a1 : Int32} {a2 : Int32} {a3 : Int32} {a4 : Int32} {μ : am_Mu} {out : Int32 × am_Mu}, k5 a1 a2 a3 a4 μ = some out → am_fr [] μ out.2) : ∀ {a1 : Int32} {a2 : Int32} {a3 : Int32} {a4 : Int32} {μ : am_Mu} {out : Int32 × am_Mu}, fKitchens_nearest_60 k5 a1 a2 a3 a4 μ = some out → am_fr [] μ out.2 := by
  intro a1 a2 a3 a4 μ out h
  unfold fKitchens_nearest_60 at h
  exact am_fr.trans am_fr.rf (hk5 h)
set_option maxRecDepth 20000 in
theorem w_fKitchens_nearest_57 {k5 : Int32 → Int32 → Int32 → Int32 → am_Mu → Option (Int32 × am_Mu)} (hk5 : ∀ {a1 : Int32} {a2 : Int32} {a3 : Int32} {a4 : Int32} {μ : am_Mu} {out : Int32 × am_Mu}, k5 a1 a2 a3 a4 μ = some out → am_fr [] μ out.2) : ∀ {a1 : Int32} {a2 : Int32} {a4 : Int32} {μ : am_Mu} {out : Int32 × am_Mu}, fKitchens_nearest_57 k5 a1 a2 a4 μ = some out → am_fr [] μ out.2 := by
  intro a1 a2 a4 μ out h
  unfold fKitchens_nearest_57 at h
  exact am_fr.trans am_fr.rf (w_fKitchens_nearest_60 hk5 h)
set_option maxRecDepth 20000 in
theorem w_fKitchens_nearest_27 {k5 : Int32 → Int32 → Int32 → Int32 → am_Mu → Option (Int32 × am_Mu)} (hk5 : ∀ {a1 : Int32} {a2 : Int32} {a3 : Int32} {a4 : Int32} {μ : am_Mu} {out : Int32 × am_Mu}, k5 a1 a2 a3 a4 μ = some out → am_fr [] μ out.2) : ∀ {a1 : Int32} {a2 : Int32} {a3 : Int32} {a4 : Int32} {s0 : Int32} {μ : am_Mu} {out : Int32 × am_Mu}, fKitchens_nearest_27 k5 a1 a2 a3 a4 s0 μ = some out → am_fr [] μ out.2 := by
  intro a1 a2 a3 a4 s0 μ out h
  unfold fKitchens_nearest_27 at h
  rcases am_ite h with ⟨q1, h⟩ | ⟨q1, h⟩
  · skip
    exact am_fr.trans am_fr.rf (w_fKitchens_nearest_60 hk5 h)
  · skip
    rcases am_ite h with ⟨q2, h⟩ | ⟨q2, h⟩
    · skip
      exact am_fr.trans am_fr.rf (w_fKitchens_nearest_57 hk5 h)
    · skip
      obtain ⟨q3, h_q3, h⟩ := am_bind h
      have w_q3 : am_fr [] μ q3.2 := am_fr.trans am_fr.rf (am_fr.mono (w_fKitchens_lengthVia h_q3) rfl)
      obtain ⟨q4, h_q4, h⟩ := am_bind h
      have w_q4 : am_fr [] μ q4.2 := am_fr.trans w_q3 (am_fr.mono (w_fKitchens_lengthVia h_q4) rfl)
      rcases am_ite h with ⟨q5, h⟩ | ⟨q5, h⟩
      · skip
        exact am_fr.trans w_q4 (w_fKitchens_nearest_60 hk5 h)
      · skip
        exact am_fr.trans w_q4 (w_fKitchens_nearest_57 hk5 h)
set_option maxRecDepth 20000 in
theorem w_fKitchens_nearest_5 : ∀ n : Nat, ∀ {a1 : Int32} {a2 : Int32} {a3 : Int32} {a4 : Int32} {μ : am_Mu} {out : Int32 × am_Mu}, fKitchens_nearest_5 n a1 a2 a3 a4 μ = some out → am_fr [] μ out.2 := by
  intro n
  induction n with
  | zero => intros; contradiction
  | succ n ih =>
    have hk5 : ∀ {a1 : Int32} {a2 : Int32} {a3 : Int32} {a4 : Int32} {μ : am_Mu} {out : Int32 × am_Mu}, (fKitchens_nearest_5 n) a1 a2 a3 a4 μ = some out → am_fr [] μ out.2 := ih
    intro a1 a2 a3 a4 μ out h
    unfold fKitchens_nearest_5 at h
    rcases am_ite h with ⟨q1, h⟩ | ⟨q1, h⟩
    · skip
      cases h
      exact am_fr.rf
    · skip
      rcases am_ite h with ⟨q2, h⟩ | ⟨q2, h⟩
      · skip
        exact am_fr.trans am_fr.rf (w_fKitchens_nearest_27 hk5 h)
      · skip
        exact am_fr.trans am_fr.rf (w_fKitchens_nearest_27 hk5 h)
set_option maxRecDepth 20000 in
theorem w_fKitchens_nearest : ∀ {a1 : Int32} {a2 : Int32} {μ : am_Mu} {out : Int32 × am_Mu}, fKitchens_nearest a1 a2 μ = some out → am_fr [] μ out.2 := by
  intro a1 a2 μ out h
  unfold fKitchens_nearest at h
  exact am_fr.trans am_fr.rf (w_fKitchens_nearest_5 am_F h)
set_option maxRecDepth 20000 in
theorem w_fKitchens_measure_62 {k2 : Int32 → Int32 → am_Mu → Option (am_Mu)} (hk2 : ∀ {a1 : Int32} {a2 : Int32} {μ : am_Mu} {out : am_Mu}, k2 a1 a2 μ = some out → am_fr [(82, 999)] μ out) : ∀ {a1 : Int32} {a2 : Int32} {μ : am_Mu} {out : am_Mu}, fKitchens_measure_62 k2 a1 a2 μ = some out → am_fr [(82, 999)] μ out := by
  intro a1 a2 μ out h
  unfold fKitchens_measure_62 at h
  exact am_fr.trans am_fr.rf (hk2 h)
set_option maxRecDepth 20000 in
theorem w_fKitchens_measure_61 {k2 : Int32 → Int32 → am_Mu → Option (am_Mu)} (hk2 : ∀ {a1 : Int32} {a2 : Int32} {μ : am_Mu} {out : am_Mu}, k2 a1 a2 μ = some out → am_fr [(82, 999)] μ out) : ∀ {a1 : Int32} {a2 : Int32} {s1 : Int32} {s2 : Int32} {μ : am_Mu} {out : am_Mu}, fKitchens_measure_61 k2 a1 a2 s1 s2 μ = some out → am_fr [(82, 999)] μ out := by
  intro a1 a2 s1 s2 μ out h
  unfold fKitchens_measure_61 at h
  obtain ⟨q1, h⟩ := am_bif h
  exact am_fr.trans (am_fr.up am_fr.rf rfl) (w_fKitchens_measure_62 hk2 h)
set_option maxRecDepth 20000 in
theorem w_fKitchens_measure_2 : ∀ n : Nat, ∀ {a1 : Int32} {a2 : Int32} {μ : am_Mu} {out : am_Mu}, fKitchens_measure_2 n a1 a2 μ = some out → am_fr [(82, 999)] μ out := by
  intro n
  induction n with
  | zero => intros; contradiction
  | succ n ih =>
    have hk2 : ∀ {a1 : Int32} {a2 : Int32} {μ : am_Mu} {out : am_Mu}, (fKitchens_measure_2 n) a1 a2 μ = some out → am_fr [(82, 999)] μ out := ih
    intro a1 a2 μ out h
    unfold fKitchens_measure_2 at h
    rcases am_ite h with ⟨q1, h⟩ | ⟨q1, h⟩
    · skip
      cases h
      exact am_fr.rf
    · skip
      rcases am_ite h with ⟨q2, h⟩ | ⟨q2, h⟩
      · skip
        exact am_fr.trans am_fr.rf (w_fKitchens_measure_62 hk2 h)
      · skip
        obtain ⟨q3, h_q3, h⟩ := am_bind h
        have w_q3 : am_fr [(82, 999)] μ q3.2 := am_fr.trans am_fr.rf (am_fr.mono (w_fKitchens_nearest h_q3) rfl)
        rcases am_ite h with ⟨q4, h⟩ | ⟨q4, h⟩
        · skip
          obtain ⟨q5, h_q5, h⟩ := am_bind h
          have w_q5 : am_fr [(82, 999)] μ q5.2 := am_fr.trans w_q3 (am_fr.mono (w_fKitchens_lengthVia h_q5) rfl)
          exact am_fr.trans w_q5 (w_fKitchens_measure_61 hk2 h)
        · skip
          exact am_fr.trans w_q3 (w_fKitchens_measure_61 hk2 h)
set_option maxRecDepth 20000 in
theorem w_fKitchens_measure : ∀ {a1 : Int32} {μ : am_Mu} {out : am_Mu}, fKitchens_measure a1 μ = some out → am_fr [(82, 999)] μ out := by
  intro a1 μ out h
  unfold fKitchens_measure at h
  exact am_fr.trans am_fr.rf (w_fKitchens_measure_2 am_F h)
set_option maxRecDepth 20000 in
theorem w_fKitchens_walkTour_21 : ∀ n : Nat, ∀ {a2 : Int32} {a3 : Int32} {a4 : Int32} {a5 : Int32} {μ : am_Mu} {out : Int32 × am_Mu}, fKitchens_walkTour_21 n a2 a3 a4 a5 μ = some out → am_fr [(76, 7), (83, 999)] μ out.2 := by
  intro n
  induction n with
  | zero => intros; contradiction
  | succ n ih =>
    have hk21 : ∀ {a2 : Int32} {a3 : Int32} {a4 : Int32} {a5 : Int32} {μ : am_Mu} {out : Int32 × am_Mu}, (fKitchens_walkTour_21 n) a2 a3 a4 a5 μ = some out → am_fr [(76, 7), (83, 999)] μ out.2 := ih
    intro a2 a3 a4 a5 μ out h
    unfold fKitchens_walkTour_21 at h
    rcases am_ite h with ⟨q1, h⟩ | ⟨q1, h⟩
    · skip
      cases h
      exact am_fr.rf
    · skip
      rcases am_ite h with ⟨q2, h⟩ | ⟨q2, h⟩
      · skip
        cases h
        exact am_fr.rf
      · skip
        obtain ⟨q3, h⟩ := am_bif h
        obtain ⟨q4, h_q4, h⟩ := am_bind h
        have w_q4 : am_fr [(76, 7), (83, 999)] μ q4.2 := am_fr.trans (am_fr.up (am_fr.up am_fr.rf rfl) rfl) (am_fr.mono (w_fKitchens_nearest h_q4) rfl)
        exact am_fr.trans w_q4 (hk21 h)
set_option maxRecDepth 20000 in
theorem w_fKitchens_walkTour : ∀ {a1 : Int32} {μ : am_Mu} {out : Int32 × am_Mu}, fKitchens_walkTour a1 μ = some out → am_fr [(76, 7), (83, 999)] μ out.2 := by
  intro a1 μ out h
  unfold fKitchens_walkTour at h
  obtain ⟨q1, h_q1, h⟩ := am_bind h
  have w_q1 : am_fr [(76, 7), (83, 999)] μ q1.2 := am_fr.trans am_fr.rf (am_fr.mono (w_fKitchens_nearest h_q1) rfl)
  obtain ⟨q2, h_q2, h⟩ := am_bind h
  have w_q2 : am_fr [(76, 7), (83, 999)] μ q2.2 := am_fr.trans w_q1 (am_fr.mono (w_fKitchens_lengthVia h_q2) rfl)
  exact am_fr.trans w_q2 (w_fKitchens_walkTour_21 am_F h)
set_option maxRecDepth 20000 in
theorem w_fKitchens_planTour_45 : ∀ {a1 : Int32} {μ : am_Mu} {out : Int32 × am_Mu}, fKitchens_planTour_45 a1 μ = some out → am_fr [(76, 7), (82, 999), (83, 999)] μ out.2 := by
  intro a1 μ out h
  unfold fKitchens_planTour_45 at h
  obtain ⟨q1, h_q1, h⟩ := am_bind h
  have w_q1 : am_fr [(76, 7), (82, 999), (83, 999)] μ q1.2 := am_fr.trans am_fr.rf (am_fr.mono (w_fKitchens_walkTour h_q1) rfl)
  cases h
  exact w_q1
set_option maxRecDepth 20000 in
theorem w_fKitchens_planTour_39 {k21 : Int32 → Int32 → am_Mu → Option (Int32 × am_Mu)} (hk21 : ∀ {a1 : Int32} {a2 : Int32} {μ : am_Mu} {out : Int32 × am_Mu}, k21 a1 a2 μ = some out → am_fr [(76, 7), (82, 999), (83, 999)] μ out.2) : ∀ {a1 : Int32} {a2 : Int32} {μ : am_Mu} {out : Int32 × am_Mu}, fKitchens_planTour_39 k21 a1 a2 μ = some out → am_fr [(76, 7), (82, 999), (83, 999)] μ out.2 := by
  intro a1 a2 μ out h
  unfold fKitchens_planTour_39 at h
  exact am_fr.trans am_fr.rf (hk21 h)
set_option maxRecDepth 20000 in
theorem w_fKitchens_planTour_21 : ∀ n : Nat, ∀ {a1 : Int32} {a2 : Int32} {μ : am_Mu} {out : Int32 × am_Mu}, fKitchens_planTour_21 n a1 a2 μ = some out → am_fr [(76, 7), (82, 999), (83, 999)] μ out.2 := by
  intro n
  induction n with
  | zero => intros; contradiction
  | succ n ih =>
    have hk21 : ∀ {a1 : Int32} {a2 : Int32} {μ : am_Mu} {out : Int32 × am_Mu}, (fKitchens_planTour_21 n) a1 a2 μ = some out → am_fr [(76, 7), (82, 999), (83, 999)] μ out.2 := ih
    intro a1 a2 μ out h
    unfold fKitchens_planTour_21 at h
    rcases am_ite h with ⟨q1, h⟩ | ⟨q1, h⟩
    · skip
      exact am_fr.trans am_fr.rf (w_fKitchens_planTour_45 h)
    · skip
      rcases am_ite h with ⟨q2, h⟩ | ⟨q2, h⟩
      · skip
        exact am_fr.trans am_fr.rf (w_fKitchens_planTour_39 hk21 h)
      · skip
        obtain ⟨q3, h_q3, h⟩ := am_bind h
        have w_q3 : am_fr [(76, 7), (82, 999), (83, 999)] μ q3 := am_fr.trans am_fr.rf (am_fr.mono (w_fKitchens_measure h_q3) rfl)
        exact am_fr.trans w_q3 (w_fKitchens_planTour_39 hk21 h)
set_option maxRecDepth 20000 in
theorem w_fKitchens_planTour : ∀ {a1 : Int32} {μ : am_Mu} {out : Int32 × am_Mu}, fKitchens_planTour a1 μ = some out → am_fr [(76, 7), (82, 999), (83, 999)] μ out.2 := by
  intro a1 μ out h
  unfold fKitchens_planTour at h
  obtain ⟨q1, h_q1, h⟩ := am_bind h
  have w_q1 : am_fr [(76, 7), (82, 999), (83, 999)] μ q1.2 := am_fr.trans (am_fr.up am_fr.rf rfl) (am_fr.mono (w_fB_isIn h_q1) rfl)
  rcases am_ite h with ⟨q2, h⟩ | ⟨q2, h⟩
  · skip
    exact am_fr.trans w_q1 (w_fKitchens_planTour_21 am_F h)
  · skip
    cases h
    exact w_q1
set_option maxRecDepth 20000 in
theorem w_fLaw_empty {a0 : Nat} : ∀ {μ : am_Mu} {out : am_Mu}, fLaw_empty a0 μ = some out → am_fr [(a0, 5), (a0, 6), (a0, 7)] μ out := by
  intro μ out h
  unfold fLaw_empty at h
  obtain ⟨g_a0, h⟩ := am_bif h
  cases h
  exact (am_fr.up (am_fr.up (am_fr.up am_fr.rf (by simp [am_wl])) (by simp [am_wl])) (by simp [am_wl]))
set_option maxRecDepth 20000 in
theorem w_fLaw_become {a0 : Nat} {a1 : Nat} : ∀ {μ : am_Mu} {out : am_Mu}, fLaw_become a0 a1 μ = some out → am_fr [(a0, 5), (a0, 6), (a0, 7), (a0 + 1, 999), (a0 + 2, 999), (a0 + 3, 999), (a0 + 4, 999), (a0 + 5, 999)] μ out := by
  intro μ out h
  unfold fLaw_become at h
  obtain ⟨g_a1, h⟩ := am_bif h
  obtain ⟨g_a0, h⟩ := am_bif h
  cases h
  exact (am_fr.up (am_fr.up (am_fr.up (am_fr.row (am_fr.row (am_fr.row (am_fr.row (am_fr.row am_fr.rf (by simp [am_wl])) (by simp [am_wl])) (by simp [am_wl])) (by simp [am_wl])) (by simp [am_wl])) (by simp [am_wl])) (by simp [am_wl])) (by simp [am_wl]))
set_option maxRecDepth 20000 in
theorem w_fLaw_addStep {a0 : Nat} : ∀ {a1 : Int32} {a2 : Int32} {a3 : Int32} {μ : am_Mu} {out : am_Mu}, fLaw_addStep a0 a1 a2 a3 μ = some out → am_fr [(a0, 6), (a0 + 4, 999)] μ out := by
  intro a1 a2 a3 μ out h
  unfold fLaw_addStep at h
  obtain ⟨g_a0, h⟩ := am_bif h
  rcases am_ite h with ⟨q1, h⟩ | ⟨q1, h⟩
  · skip
    cases h
    exact am_fr.rf
  · skip
    obtain ⟨q2, h⟩ := am_bif h
    cases h
    exact (am_fr.up (am_fr.up am_fr.rf (by simp [am_wl])) (by simp [am_wl]))
set_option maxRecDepth 20000 in
theorem w_fLaw_addEffect {a0 : Nat} : ∀ {a1 : Int32} {μ : am_Mu} {out : am_Mu}, fLaw_addEffect a0 a1 μ = some out → am_fr [(a0, 7), (a0 + 5, 999)] μ out := by
  intro a1 μ out h
  unfold fLaw_addEffect at h
  obtain ⟨g_a0, h⟩ := am_bif h
  rcases am_ite h with ⟨q1, h⟩ | ⟨q1, h⟩
  · skip
    cases h
    exact am_fr.rf
  · skip
    obtain ⟨q2, h⟩ := am_bif h
    cases h
    exact (am_fr.up (am_fr.up am_fr.rf (by simp [am_wl])) (by simp [am_wl]))
set_option maxRecDepth 20000 in
theorem w_fLaw_addRule {a0 : Nat} : ∀ {a1 : Int32} {μ : am_Mu} {out : am_Mu}, fLaw_addRule a0 a1 μ = some out → am_fr [(a0, 5), (a0 + 1, 999), (a0 + 2, 999), (a0 + 3, 999)] μ out := by
  intro a1 μ out h
  unfold fLaw_addRule at h
  obtain ⟨g_a0, h⟩ := am_bif h
  rcases am_ite h with ⟨q1, h⟩ | ⟨q1, h⟩
  · skip
    cases h
    exact am_fr.rf
  · skip
    obtain ⟨q2, h⟩ := am_bif h
    obtain ⟨q3, h⟩ := am_bif h
    obtain ⟨q4, h⟩ := am_bif h
    cases h
    exact (am_fr.up (am_fr.up (am_fr.up (am_fr.up am_fr.rf (by simp [am_wl])) (by simp [am_wl])) (by simp [am_wl])) (by simp [am_wl]))
set_option maxRecDepth 20000 in
theorem w_fLawReader_put_45 {k3 : Int32 → Int32 → am_Mu → Option (am_Mu)} (hk3 : ∀ {a1 : Int32} {a2 : Int32} {μ : am_Mu} {out : am_Mu}, k3 a1 a2 μ = some out → am_fr [(5, 2), (6, 999)] μ out) : ∀ {a1 : Int32} {a2 : Int32} {μ : am_Mu} {out : am_Mu}, fLawReader_put_45 k3 a1 a2 μ = some out → am_fr [(5, 2), (6, 999)] μ out := by
  intro a1 a2 μ out h
  unfold fLawReader_put_45 at h
  exact am_fr.trans am_fr.rf (hk3 h)
set_option maxRecDepth 20000 in
theorem w_fLawReader_put_3 : ∀ n : Nat, ∀ {a1 : Int32} {a2 : Int32} {μ : am_Mu} {out : am_Mu}, fLawReader_put_3 n a1 a2 μ = some out → am_fr [(5, 2), (6, 999)] μ out := by
  intro n
  induction n with
  | zero => intros; contradiction
  | succ n ih =>
    have hk3 : ∀ {a1 : Int32} {a2 : Int32} {μ : am_Mu} {out : am_Mu}, (fLawReader_put_3 n) a1 a2 μ = some out → am_fr [(5, 2), (6, 999)] μ out := ih
    intro a1 a2 μ out h
    unfold fLawReader_put_3 at h
    rcases am_ite h with ⟨q1, h⟩ | ⟨q1, h⟩
    · skip
      cases h
      exact am_fr.rf
    · skip
      rcases am_ite h with ⟨q2, h⟩ | ⟨q2, h⟩
      · skip
        exact am_fr.trans am_fr.rf (w_fLawReader_put_45 hk3 h)
      · skip
        obtain ⟨q3, h⟩ := am_bif h
        exact am_fr.trans (am_fr.up (am_fr.up am_fr.rf rfl) rfl) (w_fLawReader_put_45 hk3 h)
set_option maxRecDepth 20000 in
theorem w_fLawReader_put : ∀ {a1 : Int32} {μ : am_Mu} {out : am_Mu}, fLawReader_put a1 μ = some out → am_fr [(5, 2), (6, 999)] μ out := by
  intro a1 μ out h
  unfold fLawReader_put at h
  exact am_fr.trans am_fr.rf (w_fLawReader_put_3 am_F h)
set_option maxRecDepth 20000 in
theorem w_fLawReader_append : ∀ {a1 : Int32} {a2 : Int32} {a3 : Int32} {a4 : Int32} {a5 : Int32} {μ : am_Mu} {out : Int32 × am_Mu}, fLawReader_append a1 a2 a3 a4 a5 μ = some out → am_fr [(5, 2), (6, 999)] μ out.2 := by
  intro a1 a2 a3 a4 a5 μ out h
  unfold fLawReader_append at h
  rcases am_ite h with ⟨q1, h⟩ | ⟨q1, h⟩
  · skip
    obtain ⟨q2, h_q2, h⟩ := am_bind h
    have w_q2 : am_fr [(5, 2), (6, 999)] μ q2 := am_fr.trans am_fr.rf (am_fr.mono (w_fLawReader_put h_q2) rfl)
    obtain ⟨q3, h_q3, h⟩ := am_bind h
    have w_q3 : am_fr [(5, 2), (6, 999)] μ q3 := am_fr.trans w_q2 (am_fr.mono (w_fLawReader_put h_q3) rfl)
    obtain ⟨q4, h_q4, h⟩ := am_bind h
    have w_q4 : am_fr [(5, 2), (6, 999)] μ q4 := am_fr.trans w_q3 (am_fr.mono (w_fLawReader_put h_q4) rfl)
    obtain ⟨q5, h_q5, h⟩ := am_bind h
    have w_q5 : am_fr [(5, 2), (6, 999)] μ q5 := am_fr.trans w_q4 (am_fr.mono (w_fLawReader_put h_q5) rfl)
    obtain ⟨q6, h_q6, h⟩ := am_bind h
    have w_q6 : am_fr [(5, 2), (6, 999)] μ q6 := am_fr.trans w_q5 (am_fr.mono (w_fLawReader_put h_q6) rfl)
    cases h
    exact w_q6
  · skip
    cases h
    exact am_fr.rf
set_option maxRecDepth 20000 in
theorem w_fLawReader_sign_49 : ∀ {μ : am_Mu} {out : Int32 × am_Mu}, fLawReader_sign_49 μ = some out → am_fr [] μ out.2 := by
  intro μ out h
  unfold fLawReader_sign_49 at h
  cases h
  exact am_fr.rf
set_option maxRecDepth 20000 in
theorem w_fLawReader_sign : ∀ {μ : am_Mu} {out : Int32 × am_Mu}, fLawReader_sign μ = some out → am_fr [] μ out.2 := by
  intro μ out h
  unfold fLawReader_sign at h
  rcases am_ite h with ⟨q1, h⟩ | ⟨q1, h⟩
  · skip
    exact am_fr.trans am_fr.rf (w_fLawReader_sign_49 h)
  · skip
    rcases am_ite h with ⟨q2, h⟩ | ⟨q2, h⟩
    · skip
      exact am_fr.trans am_fr.rf (w_fLawReader_sign_49 h)
    · skip
      rcases am_ite h with ⟨q3, h⟩ | ⟨q3, h⟩
      · skip
        exact am_fr.trans am_fr.rf (w_fLawReader_sign_49 h)
      · skip
        rcases am_ite h with ⟨q4, h⟩ | ⟨q4, h⟩
        · skip
          exact am_fr.trans am_fr.rf (w_fLawReader_sign_49 h)
        · skip
          obtain ⟨q5, h⟩ := am_bif h
          cases h
          exact am_fr.rf
set_option maxRecDepth 20000 in
theorem w_fLawReader_kindOf : ∀ {a0 : Int32} {μ : am_Mu} {out : Int32 × am_Mu}, fLawReader_kindOf a0 μ = some out → am_fr [] μ out.2 := by
  intro a0 μ out h
  unfold fLawReader_kindOf at h
  rcases am_ite h with ⟨q1, h⟩ | ⟨q1, h⟩
  · skip
    cases h
    exact am_fr.rf
  rcases am_ite h with ⟨q2, h⟩ | ⟨q2, h⟩
  · skip
    cases h
    exact am_fr.rf
  rcases am_ite h with ⟨q3, h⟩ | ⟨q3, h⟩
  · skip
    cases h
    exact am_fr.rf
  rcases am_ite h with ⟨q4, h⟩ | ⟨q4, h⟩
  · skip
    cases h
    exact am_fr.rf
  cases h
  exact am_fr.rf
set_option maxRecDepth 20000 in
theorem w_fLawReader_fail : ∀ {a1 : Int32} {μ : am_Mu} {out : am_Mu}, fLawReader_fail a1 μ = some out → am_fr [(5, 5)] μ out := by
  intro a1 μ out h
  unfold fLawReader_fail at h
  rcases am_ite h with ⟨q1, h⟩ | ⟨q1, h⟩
  · skip
    cases h
    exact am_fr.rf
  · skip
    cases h
    exact (am_fr.up am_fr.rf rfl)
set_option maxRecDepth 20000 in
theorem w_fLawReader_readKind : ∀ {a1 : Int32} {μ : am_Mu} {out : Int32 × am_Mu}, fLawReader_readKind a1 μ = some out → am_fr [(5, 4), (5, 5)] μ out.2 := by
  intro a1 μ out h
  unfold fLawReader_readKind at h
  obtain ⟨q1, h_q1, h⟩ := am_bind h
  have w_q1 : am_fr [(5, 4), (5, 5)] μ q1.2 := am_fr.trans am_fr.rf (am_fr.mono (w_fLawReader_sign h_q1) rfl)
  obtain ⟨q2, h_q2, h⟩ := am_bind h
  have w_q2 : am_fr [(5, 4), (5, 5)] μ q2.2 := am_fr.trans w_q1 (am_fr.mono (w_fLawReader_kindOf h_q2) rfl)
  rcases am_ite h with ⟨q3, h⟩ | ⟨q3, h⟩
  · skip
    rcases am_ite h with ⟨q4, h⟩ | ⟨q4, h⟩
    · skip
      cases h
      exact (am_fr.up w_q2 rfl)
    · skip
      obtain ⟨q5, h_q5, h⟩ := am_bind h
      have w_q5 : am_fr [(5, 4), (5, 5)] μ q5 := am_fr.trans w_q2 (am_fr.mono (w_fLawReader_fail h_q5) rfl)
      cases h
      exact w_q5
  · skip
    obtain ⟨q6, h_q6, h⟩ := am_bind h
    have w_q6 : am_fr [(5, 4), (5, 5)] μ q6 := am_fr.trans w_q2 (am_fr.mono (w_fLawReader_fail h_q6) rfl)
    cases h
    exact w_q6
set_option maxRecDepth 20000 in
theorem w_fLawReader_goesOn : ∀ {a1 : Int32} {μ : am_Mu} {out : Int32 × am_Mu}, fLawReader_goesOn a1 μ = some out → am_fr [] μ out.2 := by
  intro a1 μ out h
  unfold fLawReader_goesOn at h
  obtain ⟨q1, h_q1, h⟩ := am_bind h
  have w_q1 : am_fr [] μ q1.2 := am_fr.trans am_fr.rf (am_fr.mono (w_fLawReader_sign h_q1) rfl)
  rcases am_ite h with ⟨q2, h⟩ | ⟨q2, h⟩
  · skip
    cases h
    exact w_q1
  · skip
    cases h
    exact w_q1
set_option maxRecDepth 20000 in
theorem w_fLawReader_expect : ∀ {a1 : Int32} {μ : am_Mu} {out : am_Mu}, fLawReader_expect a1 μ = some out → am_fr [(5, 4), (5, 5)] μ out := by
  intro a1 μ out h
  unfold fLawReader_expect at h
  obtain ⟨q1, h_q1, h⟩ := am_bind h
  have w_q1 : am_fr [(5, 4), (5, 5)] μ q1.2 := am_fr.trans am_fr.rf (am_fr.mono (w_fLawReader_goesOn h_q1) rfl)
  rcases am_ite h with ⟨q2, h⟩ | ⟨q2, h⟩
  · skip
    obtain ⟨q3, h_q3, h⟩ := am_bind h
    have w_q3 : am_fr [(5, 4), (5, 5)] μ q3 := am_fr.trans w_q1 (am_fr.mono (w_fLawReader_fail h_q3) rfl)
    cases h
    exact w_q3
  · skip
    cases h
    exact (am_fr.up w_q1 rfl)
set_option maxRecDepth 20000 in
theorem w_fLawReader_mayOpen : ∀ {a1 : Int32} {μ : am_Mu} {out : Int32 × am_Mu}, fLawReader_mayOpen a1 μ = some out → am_fr [(5, 5)] μ out.2 := by
  intro a1 μ out h
  unfold fLawReader_mayOpen at h
  rcases am_ite h with ⟨q1, h⟩ | ⟨q1, h⟩
  · skip
    cases h
    exact am_fr.rf
  · skip
    obtain ⟨q2, h_q2, h⟩ := am_bind h
    have w_q2 : am_fr [(5, 5)] μ q2 := am_fr.trans am_fr.rf (am_fr.mono (w_fLawReader_fail h_q2) rfl)
    cases h
    exact w_q2
set_option maxRecDepth 20000 in
theorem w_fLawReader_readMark : ∀ {μ : am_Mu} {out : Int32 × am_Mu}, fLawReader_readMark μ = some out → am_fr [(5, 4), (5, 5)] μ out.2 := by
  intro μ out h
  unfold fLawReader_readMark at h
  obtain ⟨q1, h_q1, h⟩ := am_bind h
  have w_q1 : am_fr [(5, 4), (5, 5)] μ q1.2 := am_fr.trans am_fr.rf (am_fr.mono (w_fLawReader_sign h_q1) rfl)
  obtain ⟨q2, h_q2, h⟩ := am_bind h
  have w_q2 : am_fr [(5, 4), (5, 5)] μ q2.2 := am_fr.trans w_q1 (am_fr.mono (w_fB_isIn h_q2) rfl)
  rcases am_ite h with ⟨q3, h⟩ | ⟨q3, h⟩
  · skip
    cases h
    exact (am_fr.up w_q2 rfl)
  · skip
    obtain ⟨q4, h_q4, h⟩ := am_bind h
    have w_q4 : am_fr [(5, 4), (5, 5)] μ q4 := am_fr.trans w_q2 (am_fr.mono (w_fLawReader_fail h_q4) rfl)
    cases h
    exact w_q4
set_option maxRecDepth 20000 in
theorem w_fLawReader_readNumber_44 : ∀ {a1 : Int32} {μ : am_Mu} {out : Int32 × am_Mu}, fLawReader_readNumber_44 a1 μ = some out → am_fr [(5, 4), (5, 5)] μ out.2 := by
  intro a1 μ out h
  unfold fLawReader_readNumber_44 at h
  obtain ⟨q1, h_q1, h⟩ := am_bind h
  have w_q1 : am_fr [(5, 4), (5, 5)] μ q1 := am_fr.trans am_fr.rf (am_fr.mono (w_fLawReader_fail h_q1) rfl)
  cases h
  exact w_q1
set_option maxRecDepth 20000 in
theorem w_fLawReader_readNumber_27 : ∀ {a1 : Int32} {a2 : Int32} {μ : am_Mu} {out : Int32 × am_Mu}, fLawReader_readNumber_27 a1 a2 μ = some out → am_fr [(5, 4), (5, 5)] μ out.2 := by
  intro a1 a2 μ out h
  unfold fLawReader_readNumber_27 at h
  rcases am_ite h with ⟨q1, h⟩ | ⟨q1, h⟩
  · skip
    cases h
    exact am_fr.rf
  · skip
    obtain ⟨q2, h_q2, h⟩ := am_bind h
    have w_q2 : am_fr [(5, 4), (5, 5)] μ q2 := am_fr.trans am_fr.rf (am_fr.mono (w_fLawReader_fail h_q2) rfl)
    cases h
    exact w_q2
set_option maxRecDepth 20000 in
theorem w_fLawReader_readNumber_4 : ∀ n : Nat, ∀ {a1 : Int32} {a2 : Int32} {μ : am_Mu} {out : Int32 × am_Mu}, fLawReader_readNumber_4 n a1 a2 μ = some out → am_fr [(5, 4), (5, 5)] μ out.2 := by
  intro n
  induction n with
  | zero => intros; contradiction
  | succ n ih =>
    have hk4 : ∀ {a1 : Int32} {a2 : Int32} {μ : am_Mu} {out : Int32 × am_Mu}, (fLawReader_readNumber_4 n) a1 a2 μ = some out → am_fr [(5, 4), (5, 5)] μ out.2 := ih
    intro a1 a2 μ out h
    unfold fLawReader_readNumber_4 at h
    rcases am_ite h with ⟨q1, h⟩ | ⟨q1, h⟩
    · skip
      cases h
      exact am_fr.rf
    · skip
      obtain ⟨q2, h_q2, h⟩ := am_bind h
      have w_q2 : am_fr [(5, 4), (5, 5)] μ q2.2 := am_fr.trans am_fr.rf (am_fr.mono (w_fLawReader_sign h_q2) rfl)
      obtain ⟨q3, h_q3, h⟩ := am_bind h
      have w_q3 : am_fr [(5, 4), (5, 5)] μ q3.2 := am_fr.trans w_q2 (am_fr.mono (w_fB_isIn h_q3) rfl)
      rcases am_ite h with ⟨q4, h⟩ | ⟨q4, h⟩
      · skip
        rcases am_ite h with ⟨q5, h⟩ | ⟨q5, h⟩
        · skip
          exact am_fr.trans (am_fr.up w_q3 rfl) (hk4 h)
        · skip
          exact am_fr.trans w_q3 (w_fLawReader_readNumber_44 h)
      · skip
        exact am_fr.trans w_q3 (w_fLawReader_readNumber_27 h)
set_option maxRecDepth 20000 in
theorem w_fLawReader_readNumber : ∀ {μ : am_Mu} {out : Int32 × am_Mu}, fLawReader_readNumber μ = some out → am_fr [(5, 4), (5, 5)] μ out.2 := by
  intro μ out h
  unfold fLawReader_readNumber at h
  exact am_fr.trans am_fr.rf (w_fLawReader_readNumber_4 am_F h)
set_option maxRecDepth 20000 in
theorem w_fLawReader_readOperand_69 : ∀ {s0 : Int32} {s1 : Int32} {μ : am_Mu} {out : am_Mu}, fLawReader_readOperand_69 s0 s1 μ = some out → am_fr [(11, 999), (5, 4), (5, 5), (5, 6), (7, 6)] μ out := by
  intro s0 s1 μ out h
  unfold fLawReader_readOperand_69 at h
  obtain ⟨q1, h_q1, h⟩ := am_bind h
  have w_q1 : am_fr [(11, 999), (5, 4), (5, 5), (5, 6), (7, 6)] μ q1.2 := am_fr.trans am_fr.rf (am_fr.mono (w_fLawReader_goesOn h_q1) rfl)
  rcases am_ite h with ⟨q2, h⟩ | ⟨q2, h⟩
  · skip
    obtain ⟨q3, h_q3, h⟩ := am_bind h
    have w_q3 : am_fr [(11, 999), (5, 4), (5, 5), (5, 6), (7, 6)] μ q3 := am_fr.trans w_q1 (am_fr.mono (w_fLaw_addStep h_q3) rfl)
    cases h
    exact w_q3
  · skip
    obtain ⟨q4, h_q4, h⟩ := am_bind h
    have w_q4 : am_fr [(11, 999), (5, 4), (5, 5), (5, 6), (7, 6)] μ q4.2 := am_fr.trans (am_fr.up w_q1 rfl) (am_fr.mono (w_fLawReader_readNumber h_q4) rfl)
    obtain ⟨q5, h_q5, h⟩ := am_bind h
    have w_q5 : am_fr [(11, 999), (5, 4), (5, 5), (5, 6), (7, 6)] μ q5 := am_fr.trans w_q4 (am_fr.mono (w_fLaw_addStep h_q5) rfl)
    cases h
    exact w_q5
set_option maxRecDepth 20000 in
theorem w_fLawReader_readOperand : ∀ {a1 : Int32} {μ : am_Mu} {out : am_Mu}, fLawReader_readOperand a1 μ = some out → am_fr [(11, 999), (5, 4), (5, 5), (5, 6), (7, 6)] μ out := by
  intro a1 μ out h
  unfold fLawReader_readOperand at h
  rcases am_ite h with ⟨q1, h⟩ | ⟨q1, h⟩
  · skip
    rcases am_ite h with ⟨q2, h⟩ | ⟨q2, h⟩
    · skip
      obtain ⟨q3, h_q3, h⟩ := am_bind h
      have w_q3 : am_fr [(11, 999), (5, 4), (5, 5), (5, 6), (7, 6)] μ q3.2 := am_fr.trans (am_fr.up (am_fr.up am_fr.rf rfl) rfl) (am_fr.mono (w_fLawReader_readMark h_q3) rfl)
      rcases am_ite h with ⟨q4, h⟩ | ⟨q4, h⟩
      · skip
        exact am_fr.trans w_q3 (w_fLawReader_readOperand_69 h)
      · skip
        exact am_fr.trans w_q3 (w_fLawReader_readOperand_69 h)
    · skip
      obtain ⟨q5, h_q5, h⟩ := am_bind h
      have w_q5 : am_fr [(11, 999), (5, 4), (5, 5), (5, 6), (7, 6)] μ q5 := am_fr.trans (am_fr.up (am_fr.up am_fr.rf rfl) rfl) (am_fr.mono (w_fLaw_addStep h_q5) rfl)
      cases h
      exact w_q5
  · skip
    obtain ⟨q6, h_q6, h⟩ := am_bind h
    have w_q6 : am_fr [(11, 999), (5, 4), (5, 5), (5, 6), (7, 6)] μ q6 := am_fr.trans am_fr.rf (am_fr.mono (w_fLawReader_fail h_q6) rfl)
    cases h
    exact w_q6
set_option maxRecDepth 20000 in
theorem w_fLawReader_readPiece_144 {kc : Int32 → am_Mu → Option am_Mu} (h_kc : ∀ {a1 : Int32} {μ : am_Mu} {out : am_Mu}, kc a1 μ = some out → am_fr [(11, 999), (5, 4), (5, 5), (5, 6), (7, 6)] μ out) : ∀ n : Nat, ∀ {a2 : Int32} {a3 : Int32} {μ : am_Mu} {out : am_Mu}, fLawReader_readPiece_144 n kc a2 a3 μ = some out → am_fr [(11, 999), (5, 4), (5, 5), (5, 6), (7, 6)] μ out := by
  intro n
  induction n with
  | zero => intros; contradiction
  | succ n ih =>
    have hk144 : ∀ {a2 : Int32} {a3 : Int32} {μ : am_Mu} {out : am_Mu}, (fLawReader_readPiece_144 n kc) a2 a3 μ = some out → am_fr [(11, 999), (5, 4), (5, 5), (5, 6), (7, 6)] μ out := ih
    intro a2 a3 μ out h
    unfold fLawReader_readPiece_144 at h
    rcases am_ite h with ⟨q1, h⟩ | ⟨q1, h⟩
    · skip
      cases h
      exact am_fr.rf
    · skip
      obtain ⟨q2, h_q2, h⟩ := am_bind h
      have w_q2 : am_fr [(11, 999), (5, 4), (5, 5), (5, 6), (7, 6)] μ q2 := am_fr.trans am_fr.rf (am_fr.mono (w_fLaw_addStep h_q2) rfl)
      exact am_fr.trans w_q2 (hk144 h)
set_option maxRecDepth 20000 in
theorem w_fLawReader_readPiece_142 {kc : Int32 → am_Mu → Option am_Mu} (h_kc : ∀ {a1 : Int32} {μ : am_Mu} {out : am_Mu}, kc a1 μ = some out → am_fr [(11, 999), (5, 4), (5, 5), (5, 6), (7, 6)] μ out) : ∀ {a1 : Int32} {a2 : Int32} {μ : am_Mu} {out : am_Mu}, fLawReader_readPiece_142 kc a1 a2 μ = some out → am_fr [(11, 999), (5, 4), (5, 5), (5, 6), (7, 6)] μ out := by
  intro a1 a2 μ out h
  unfold fLawReader_readPiece_142 at h
  exact am_fr.trans am_fr.rf (w_fLawReader_readPiece_144 h_kc am_F h)
set_option maxRecDepth 20000 in
theorem w_fLawReader_readPiece_46 {kc : Int32 → am_Mu → Option am_Mu} (h_kc : ∀ {a1 : Int32} {μ : am_Mu} {out : am_Mu}, kc a1 μ = some out → am_fr [(11, 999), (5, 4), (5, 5), (5, 6), (7, 6)] μ out) : ∀ {a1 : Int32} {a2 : Int32} {μ : am_Mu} {out : am_Mu}, fLawReader_readPiece_46 kc a1 a2 μ = some out → am_fr [(11, 999), (5, 4), (5, 5), (5, 6), (7, 6)] μ out := by
  intro a1 a2 μ out h
  unfold fLawReader_readPiece_46 at h
  obtain ⟨q1, h_q1, h⟩ := am_bind h
  have w_q1 : am_fr [(11, 999), (5, 4), (5, 5), (5, 6), (7, 6)] μ q1.2 := am_fr.trans am_fr.rf (am_fr.mono (w_fLawReader_sign h_q1) rfl)
  rcases am_ite h with ⟨q2, h⟩ | ⟨q2, h⟩
  · skip
    obtain ⟨q3, h_q3, h⟩ := am_bind h
    have w_q3 : am_fr [(11, 999), (5, 4), (5, 5), (5, 6), (7, 6)] μ q3.2 := am_fr.trans w_q1 (am_fr.mono (w_fLawReader_mayOpen h_q3) rfl)
    rcases am_ite h with ⟨q4, h⟩ | ⟨q4, h⟩
    · skip
      exact am_fr.trans w_q3 (w_fLawReader_readPiece_142 h_kc h)
    · skip
      obtain ⟨q5, h_q5, h⟩ := am_bind h
      have w_q5 : am_fr [(11, 999), (5, 4), (5, 5), (5, 6), (7, 6)] μ q5 := am_fr.trans (am_fr.up w_q3 rfl) (am_fr.mono (h_kc h_q5) rfl)
      obtain ⟨q6, h_q6, h⟩ := am_bind h
      have w_q6 : am_fr [(11, 999), (5, 4), (5, 5), (5, 6), (7, 6)] μ q6 := am_fr.trans w_q5 (am_fr.mono (w_fLawReader_expect h_q6) rfl)
      exact am_fr.trans w_q6 (w_fLawReader_readPiece_142 h_kc h)
  rcases am_ite h with ⟨q7, h⟩ | ⟨q7, h⟩
  · skip
    obtain ⟨q8, h_q8, h⟩ := am_bind h
    have w_q8 : am_fr [(11, 999), (5, 4), (5, 5), (5, 6), (7, 6)] μ q8.2 := am_fr.trans w_q1 (am_fr.mono (w_fLawReader_sign h_q8) rfl)
    obtain ⟨q9, h_q9, h⟩ := am_bind h
    have w_q9 : am_fr [(11, 999), (5, 4), (5, 5), (5, 6), (7, 6)] μ q9 := am_fr.trans w_q8 (am_fr.mono (w_fLawReader_readOperand h_q9) rfl)
    exact am_fr.trans w_q9 (w_fLawReader_readPiece_142 h_kc h)
  rcases am_ite h with ⟨q10, h⟩ | ⟨q10, h⟩
  · skip
    obtain ⟨q11, h_q11, h⟩ := am_bind h
    have w_q11 : am_fr [(11, 999), (5, 4), (5, 5), (5, 6), (7, 6)] μ q11.2 := am_fr.trans w_q1 (am_fr.mono (w_fLawReader_sign h_q11) rfl)
    obtain ⟨q12, h_q12, h⟩ := am_bind h
    have w_q12 : am_fr [(11, 999), (5, 4), (5, 5), (5, 6), (7, 6)] μ q12 := am_fr.trans w_q11 (am_fr.mono (w_fLawReader_readOperand h_q12) rfl)
    exact am_fr.trans w_q12 (w_fLawReader_readPiece_142 h_kc h)
  rcases am_ite h with ⟨q13, h⟩ | ⟨q13, h⟩
  · skip
    obtain ⟨q14, h_q14, h⟩ := am_bind h
    have w_q14 : am_fr [(11, 999), (5, 4), (5, 5), (5, 6), (7, 6)] μ q14.2 := am_fr.trans w_q1 (am_fr.mono (w_fLawReader_sign h_q14) rfl)
    obtain ⟨q15, h_q15, h⟩ := am_bind h
    have w_q15 : am_fr [(11, 999), (5, 4), (5, 5), (5, 6), (7, 6)] μ q15 := am_fr.trans w_q14 (am_fr.mono (w_fLawReader_readOperand h_q15) rfl)
    exact am_fr.trans w_q15 (w_fLawReader_readPiece_142 h_kc h)
  obtain ⟨q16, h_q16, h⟩ := am_bind h
  have w_q16 : am_fr [(11, 999), (5, 4), (5, 5), (5, 6), (7, 6)] μ q16 := am_fr.trans w_q1 (am_fr.mono (w_fLawReader_fail h_q16) rfl)
  exact am_fr.trans w_q16 (w_fLawReader_readPiece_142 h_kc h)
set_option maxRecDepth 20000 in
theorem w_fLawReader_readPiece_4 {kc : Int32 → am_Mu → Option am_Mu} (h_kc : ∀ {a1 : Int32} {μ : am_Mu} {out : am_Mu}, kc a1 μ = some out → am_fr [(11, 999), (5, 4), (5, 5), (5, 6), (7, 6)] μ out) : ∀ n : Nat, ∀ {a1 : Int32} {a2 : Int32} {a3 : Int32} {μ : am_Mu} {out : am_Mu}, fLawReader_readPiece_4 n kc a1 a2 a3 μ = some out → am_fr [(11, 999), (5, 4), (5, 5), (5, 6), (7, 6)] μ out := by
  intro n
  induction n with
  | zero => intros; contradiction
  | succ n ih =>
    have hk4 : ∀ {a1 : Int32} {a2 : Int32} {a3 : Int32} {μ : am_Mu} {out : am_Mu}, (fLawReader_readPiece_4 n kc) a1 a2 a3 μ = some out → am_fr [(11, 999), (5, 4), (5, 5), (5, 6), (7, 6)] μ out := ih
    intro a1 a2 a3 μ out h
    unfold fLawReader_readPiece_4 at h
    rcases am_ite h with ⟨q1, h⟩ | ⟨q1, h⟩
    · skip
      exact am_fr.trans am_fr.rf (w_fLawReader_readPiece_46 h_kc h)
    · skip
      obtain ⟨q2, h_q2, h⟩ := am_bind h
      have w_q2 : am_fr [(11, 999), (5, 4), (5, 5), (5, 6), (7, 6)] μ q2.2 := am_fr.trans am_fr.rf (am_fr.mono (w_fLawReader_goesOn h_q2) rfl)
      rcases am_ite h with ⟨q3, h⟩ | ⟨q3, h⟩
      · skip
        exact am_fr.trans w_q2 (w_fLawReader_readPiece_46 h_kc h)
      · skip
        obtain ⟨q4, h_q4, h⟩ := am_bind h
        have w_q4 : am_fr [(11, 999), (5, 4), (5, 5), (5, 6), (7, 6)] μ q4.2 := am_fr.trans w_q2 (am_fr.mono (w_fLawReader_mayOpen h_q4) rfl)
        rcases am_ite h with ⟨q5, h⟩ | ⟨q5, h⟩
        · skip
          exact am_fr.trans w_q4 (w_fLawReader_readPiece_46 h_kc h)
        · skip
          exact am_fr.trans (am_fr.up w_q4 rfl) (hk4 h)
set_option maxRecDepth 20000 in
theorem w_fLawReader_readPiece {kc : Int32 → am_Mu → Option am_Mu} (h_kc : ∀ {a1 : Int32} {μ : am_Mu} {out : am_Mu}, kc a1 μ = some out → am_fr [(11, 999), (5, 4), (5, 5), (5, 6), (7, 6)] μ out) : ∀ {a1 : Int32} {μ : am_Mu} {out : am_Mu}, fLawReader_readPiece kc a1 μ = some out → am_fr [(11, 999), (5, 4), (5, 5), (5, 6), (7, 6)] μ out := by
  intro a1 μ out h
  unfold fLawReader_readPiece at h
  exact am_fr.trans am_fr.rf (w_fLawReader_readPiece_4 h_kc am_F h)
set_option maxRecDepth 20000 in
theorem w_fLawReader_readPart_7 {kp : Int32 → am_Mu → Option am_Mu} (h_kp : ∀ {a1 : Int32} {μ : am_Mu} {out : am_Mu}, kp a1 μ = some out → am_fr [(11, 999), (5, 4), (5, 5), (5, 6), (7, 6)] μ out) : ∀ n : Nat, ∀ {a1 : Int32} {a2 : Int32} {μ : am_Mu} {out : am_Mu}, fLawReader_readPart_7 n kp a1 a2 μ = some out → am_fr [(11, 999), (5, 4), (5, 5), (5, 6), (7, 6)] μ out := by
  intro n
  induction n with
  | zero => intros; contradiction
  | succ n ih =>
    have hk7 : ∀ {a1 : Int32} {a2 : Int32} {μ : am_Mu} {out : am_Mu}, (fLawReader_readPart_7 n kp) a1 a2 μ = some out → am_fr [(11, 999), (5, 4), (5, 5), (5, 6), (7, 6)] μ out := ih
    intro a1 a2 μ out h
    unfold fLawReader_readPart_7 at h
    rcases am_ite h with ⟨q1, h⟩ | ⟨q1, h⟩
    · skip
      cases h
      exact am_fr.rf
    · skip
      obtain ⟨q2, h_q2, h⟩ := am_bind h
      have w_q2 : am_fr [(11, 999), (5, 4), (5, 5), (5, 6), (7, 6)] μ q2.2 := am_fr.trans am_fr.rf (am_fr.mono (w_fLawReader_goesOn h_q2) rfl)
      rcases am_ite h with ⟨q3, h⟩ | ⟨q3, h⟩
      · skip
        cases h
        exact w_q2
      · skip
        obtain ⟨q4, h_q4, h⟩ := am_bind h
        have w_q4 : am_fr [(11, 999), (5, 4), (5, 5), (5, 6), (7, 6)] μ q4 := am_fr.trans (am_fr.up w_q2 rfl) (am_fr.mono (h_kp h_q4) rfl)
        obtain ⟨q5, h_q5, h⟩ := am_bind h
        have w_q5 : am_fr [(11, 999), (5, 4), (5, 5), (5, 6), (7, 6)] μ q5 := am_fr.trans w_q4 (am_fr.mono (w_fLaw_addStep h_q5) rfl)
        exact am_fr.trans w_q5 (hk7 h)
set_option maxRecDepth 20000 in
theorem w_fLawReader_readPart {kp : Int32 → am_Mu → Option am_Mu} (h_kp : ∀ {a1 : Int32} {μ : am_Mu} {out : am_Mu}, kp a1 μ = some out → am_fr [(11, 999), (5, 4), (5, 5), (5, 6), (7, 6)] μ out) : ∀ {a1 : Int32} {μ : am_Mu} {out : am_Mu}, fLawReader_readPart kp a1 μ = some out → am_fr [(11, 999), (5, 4), (5, 5), (5, 6), (7, 6)] μ out := by
  intro a1 μ out h
  unfold fLawReader_readPart at h
  obtain ⟨q1, h_q1, h⟩ := am_bind h
  have w_q1 : am_fr [(11, 999), (5, 4), (5, 5), (5, 6), (7, 6)] μ q1 := am_fr.trans am_fr.rf (am_fr.mono (h_kp h_q1) rfl)
  exact am_fr.trans w_q1 (w_fLawReader_readPart_7 h_kp am_F h)
set_option maxRecDepth 20000 in
theorem w_fLawReader_readCondition_7 {kr : Int32 → am_Mu → Option am_Mu} (h_kr : ∀ {a1 : Int32} {μ : am_Mu} {out : am_Mu}, kr a1 μ = some out → am_fr [(11, 999), (5, 4), (5, 5), (5, 6), (7, 6)] μ out) : ∀ n : Nat, ∀ {a1 : Int32} {a2 : Int32} {μ : am_Mu} {out : am_Mu}, fLawReader_readCondition_7 n kr a1 a2 μ = some out → am_fr [(11, 999), (5, 4), (5, 5), (5, 6), (7, 6)] μ out := by
  intro n
  induction n with
  | zero => intros; contradiction
  | succ n ih =>
    have hk7 : ∀ {a1 : Int32} {a2 : Int32} {μ : am_Mu} {out : am_Mu}, (fLawReader_readCondition_7 n kr) a1 a2 μ = some out → am_fr [(11, 999), (5, 4), (5, 5), (5, 6), (7, 6)] μ out := ih
    intro a1 a2 μ out h
    unfold fLawReader_readCondition_7 at h
    rcases am_ite h with ⟨q1, h⟩ | ⟨q1, h⟩
    · skip
      cases h
      exact am_fr.rf
    · skip
      obtain ⟨q2, h_q2, h⟩ := am_bind h
      have w_q2 : am_fr [(11, 999), (5, 4), (5, 5), (5, 6), (7, 6)] μ q2.2 := am_fr.trans am_fr.rf (am_fr.mono (w_fLawReader_goesOn h_q2) rfl)
      rcases am_ite h with ⟨q3, h⟩ | ⟨q3, h⟩
      · skip
        cases h
        exact w_q2
      · skip
        obtain ⟨q4, h_q4, h⟩ := am_bind h
        have w_q4 : am_fr [(11, 999), (5, 4), (5, 5), (5, 6), (7, 6)] μ q4 := am_fr.trans (am_fr.up w_q2 rfl) (am_fr.mono (h_kr h_q4) rfl)
        obtain ⟨q5, h_q5, h⟩ := am_bind h
        have w_q5 : am_fr [(11, 999), (5, 4), (5, 5), (5, 6), (7, 6)] μ q5 := am_fr.trans w_q4 (am_fr.mono (w_fLaw_addStep h_q5) rfl)
        exact am_fr.trans w_q5 (hk7 h)
set_option maxRecDepth 20000 in
theorem w_fLawReader_readCondition {kr : Int32 → am_Mu → Option am_Mu} (h_kr : ∀ {a1 : Int32} {μ : am_Mu} {out : am_Mu}, kr a1 μ = some out → am_fr [(11, 999), (5, 4), (5, 5), (5, 6), (7, 6)] μ out) : ∀ {a1 : Int32} {μ : am_Mu} {out : am_Mu}, fLawReader_readCondition kr a1 μ = some out → am_fr [(11, 999), (5, 4), (5, 5), (5, 6), (7, 6)] μ out := by
  intro a1 μ out h
  unfold fLawReader_readCondition at h
  obtain ⟨q1, h_q1, h⟩ := am_bind h
  have w_q1 : am_fr [(11, 999), (5, 4), (5, 5), (5, 6), (7, 6)] μ q1 := am_fr.trans am_fr.rf (am_fr.mono (h_kr h_q1) rfl)
  exact am_fr.trans w_q1 (w_fLawReader_readCondition_7 h_kr am_F h)
theorem w_fLR_piece : ∀ (n : Nat) {a1 : Int32} {μ : am_Mu} {out : am_Mu}, fLR_piece n a1 μ = some out → am_fr [(11, 999), (5, 4), (5, 5), (5, 6), (7, 6)] μ out := by
  intro n
  induction n with
  | zero => intro a1 μ out h; cases h
  | succ n ih =>
    intro a1 μ out h
    refine am_fr.mono (w_fLawReader_readPiece (kc := fLR_cond n) (fun {a1 μ out} h => ?_) h) rfl
    refine am_fr.mono (w_fLawReader_readCondition (kr := fLawReader_readPart (fLR_piece n)) (fun {a1 μ out} h => ?_) h) rfl
    exact am_fr.mono (w_fLawReader_readPart (kp := fLR_piece n) (fun {a1 μ out} h => ih h) h) rfl
theorem w_fLR_cond {a1 : Int32} {μ : am_Mu} {out : am_Mu} (h : fLR_cond 9 a1 μ = some out) : am_fr [(11, 999), (5, 4), (5, 5), (5, 6), (7, 6)] μ out := by
  refine am_fr.mono (w_fLawReader_readCondition (kr := fLawReader_readPart (fLR_piece 9)) (fun {a1 μ out} h => ?_) h) rfl
  exact am_fr.mono (w_fLawReader_readPart (kp := fLR_piece 9) (fun {a1 μ out} h => w_fLR_piece 9 h) h) rfl
set_option maxRecDepth 20000 in
theorem w_fLawReader_readEffect_114 : ∀ {s1 : Int32} {s2 : Int32} {μ : am_Mu} {out : am_Mu}, fLawReader_readEffect_114 s1 s2 μ = some out → am_fr [(12, 999), (5, 4), (5, 5), (7, 7)] μ out := by
  intro s1 s2 μ out h
  unfold fLawReader_readEffect_114 at h
  obtain ⟨q1, h_q1, h⟩ := am_bind h
  have w_q1 : am_fr [(12, 999), (5, 4), (5, 5), (7, 7)] μ q1 := am_fr.trans am_fr.rf (am_fr.mono (w_fLaw_addEffect h_q1) rfl)
  cases h
  exact w_q1
set_option maxRecDepth 20000 in
theorem w_fLawReader_readEffect_101 : ∀ {a3 : Int32} {s1 : Int32} {s2 : Int32} {μ : am_Mu} {out : am_Mu}, fLawReader_readEffect_101 a3 s1 s2 μ = some out → am_fr [(12, 999), (5, 4), (5, 5), (7, 7)] μ out := by
  intro a3 s1 s2 μ out h
  unfold fLawReader_readEffect_101 at h
  rcases am_ite h with ⟨q1, h⟩ | ⟨q1, h⟩
  · skip
    exact am_fr.trans am_fr.rf (w_fLawReader_readEffect_114 h)
  · skip
    exact am_fr.trans am_fr.rf (w_fLawReader_readEffect_114 h)
set_option maxRecDepth 20000 in
theorem w_fLawReader_readEffect_67 : ∀ {a2 : Int32} {a3 : Int32} {μ : am_Mu} {out : am_Mu}, fLawReader_readEffect_67 a2 a3 μ = some out → am_fr [(12, 999), (5, 4), (5, 5), (7, 7)] μ out := by
  intro a2 a3 μ out h
  unfold fLawReader_readEffect_67 at h
  obtain ⟨q1, h_q1, h⟩ := am_bind h
  have w_q1 : am_fr [(12, 999), (5, 4), (5, 5), (7, 7)] μ q1.2 := am_fr.trans (am_fr.up am_fr.rf rfl) (am_fr.mono (w_fLawReader_readMark h_q1) rfl)
  rcases am_ite h with ⟨q2, h⟩ | ⟨q2, h⟩
  · skip
    exact am_fr.trans w_q1 (w_fLawReader_readEffect_101 h)
  · skip
    exact am_fr.trans w_q1 (w_fLawReader_readEffect_101 h)
set_option maxRecDepth 20000 in
theorem w_fLawReader_readEffect_23 : ∀ {a1 : Int32} {a2 : Int32} {μ : am_Mu} {out : am_Mu}, fLawReader_readEffect_23 a1 a2 μ = some out → am_fr [(12, 999), (5, 4), (5, 5), (7, 7)] μ out := by
  intro a1 a2 μ out h
  unfold fLawReader_readEffect_23 at h
  rcases am_ite h with ⟨q1, h⟩ | ⟨q1, h⟩
  · skip
    obtain ⟨q2, h_q2, h⟩ := am_bind h
    have w_q2 : am_fr [(12, 999), (5, 4), (5, 5), (7, 7)] μ q2.2 := am_fr.trans (am_fr.up am_fr.rf rfl) (am_fr.mono (w_fLawReader_sign h_q2) rfl)
    rcases am_ite h with ⟨q3, h⟩ | ⟨q3, h⟩
    · skip
      exact am_fr.trans w_q2 (w_fLawReader_readEffect_67 h)
    · skip
      rcases am_ite h with ⟨q4, h⟩ | ⟨q4, h⟩
      · skip
        exact am_fr.trans w_q2 (w_fLawReader_readEffect_67 h)
      · skip
        obtain ⟨q5, h_q5, h⟩ := am_bind h
        have w_q5 : am_fr [(12, 999), (5, 4), (5, 5), (7, 7)] μ q5 := am_fr.trans w_q2 (am_fr.mono (w_fLawReader_fail h_q5) rfl)
        cases h
        exact w_q5
  · skip
    obtain ⟨q6, h_q6, h⟩ := am_bind h
    have w_q6 : am_fr [(12, 999), (5, 4), (5, 5), (7, 7)] μ q6 := am_fr.trans am_fr.rf (am_fr.mono (w_fLawReader_fail h_q6) rfl)
    cases h
    exact w_q6
set_option maxRecDepth 20000 in
theorem w_fLawReader_readEffect : ∀ {a1 : Int32} {μ : am_Mu} {out : am_Mu}, fLawReader_readEffect a1 μ = some out → am_fr [(12, 999), (5, 4), (5, 5), (7, 7)] μ out := by
  intro a1 μ out h
  unfold fLawReader_readEffect at h
  obtain ⟨q1, h_q1, h⟩ := am_bind h
  have w_q1 : am_fr [(12, 999), (5, 4), (5, 5), (7, 7)] μ q1.2 := am_fr.trans am_fr.rf (am_fr.mono (w_fLawReader_sign h_q1) rfl)
  rcases am_ite h with ⟨q2, h⟩ | ⟨q2, h⟩
  · skip
    exact am_fr.trans w_q1 (w_fLawReader_readEffect_23 h)
  · skip
    rcases am_ite h with ⟨q3, h⟩ | ⟨q3, h⟩
    · skip
      exact am_fr.trans w_q1 (w_fLawReader_readEffect_23 h)
    · skip
      obtain ⟨q4, h_q4, h⟩ := am_bind h
      have w_q4 : am_fr [(12, 999), (5, 4), (5, 5), (7, 7)] μ q4 := am_fr.trans w_q1 (am_fr.mono (w_fLawReader_fail h_q4) rfl)
      cases h
      exact w_q4
set_option maxRecDepth 20000 in
theorem w_fLawReader_readEffects_2 : ∀ n : Nat, ∀ {a1 : Int32} {μ : am_Mu} {out : am_Mu}, fLawReader_readEffects_2 n a1 μ = some out → am_fr [(12, 999), (5, 4), (5, 5), (7, 7)] μ out := by
  intro n
  induction n with
  | zero => intros; contradiction
  | succ n ih =>
    have hk2 : ∀ {a1 : Int32} {μ : am_Mu} {out : am_Mu}, (fLawReader_readEffects_2 n) a1 μ = some out → am_fr [(12, 999), (5, 4), (5, 5), (7, 7)] μ out := ih
    intro a1 μ out h
    unfold fLawReader_readEffects_2 at h
    rcases am_ite h with ⟨q1, h⟩ | ⟨q1, h⟩
    · skip
      cases h
      exact am_fr.rf
    · skip
      obtain ⟨q2, h_q2, h⟩ := am_bind h
      have w_q2 : am_fr [(12, 999), (5, 4), (5, 5), (7, 7)] μ q2 := am_fr.trans am_fr.rf (am_fr.mono (w_fLawReader_readEffect h_q2) rfl)
      obtain ⟨q3, h_q3, h⟩ := am_bind h
      have w_q3 : am_fr [(12, 999), (5, 4), (5, 5), (7, 7)] μ q3.2 := am_fr.trans w_q2 (am_fr.mono (w_fLawReader_goesOn h_q3) rfl)
      rcases am_ite h with ⟨q4, h⟩ | ⟨q4, h⟩
      · skip
        exact am_fr.trans (am_fr.up w_q3 rfl) (hk2 h)
      · skip
        cases h
        exact w_q3
set_option maxRecDepth 20000 in
theorem w_fLawReader_readEffects : ∀ {μ : am_Mu} {out : am_Mu}, fLawReader_readEffects μ = some out → am_fr [(12, 999), (5, 4), (5, 5), (7, 7)] μ out := by
  intro μ out h
  unfold fLawReader_readEffects at h
  exact am_fr.trans am_fr.rf (w_fLawReader_readEffects_2 am_F h)
set_option maxRecDepth 20000 in
theorem w_fLawReader_readTape_112 : ∀ {μ : am_Mu} {out : Int32 × am_Mu}, fLawReader_readTape_112 μ = some out → am_fr [(10, 999), (11, 999), (12, 999), (5, 2), (5, 3), (5, 4), (5, 5), (5, 6), (7, 5), (7, 6), (7, 7), (8, 999), (9, 999)] μ out.2 := by
  intro μ out h
  unfold fLawReader_readTape_112 at h
  rcases am_ite h with ⟨q1, h⟩ | ⟨q1, h⟩
  · skip
    cases h
    exact am_fr.rf
  · skip
    cases h
    exact am_fr.rf
set_option maxRecDepth 20000 in
theorem w_fLawReader_readTape_97 : ∀ {μ : am_Mu} {out : Int32 × am_Mu}, fLawReader_readTape_97 μ = some out → am_fr [(10, 999), (11, 999), (12, 999), (5, 2), (5, 3), (5, 4), (5, 5), (5, 6), (7, 5), (7, 6), (7, 7), (8, 999), (9, 999)] μ out.2 := by
  intro μ out h
  unfold fLawReader_readTape_97 at h
  exact am_fr.trans am_fr.rf (w_fLawReader_readTape_112 h)
set_option maxRecDepth 20000 in
theorem w_fLawReader_readTape_34 : ∀ n : Nat, ∀ {a1 : Int32} {a2 : Int32} {μ : am_Mu} {out : Int32 × am_Mu}, fLawReader_readTape_34 n a1 a2 μ = some out → am_fr [(10, 999), (11, 999), (12, 999), (5, 2), (5, 3), (5, 4), (5, 5), (5, 6), (7, 5), (7, 6), (7, 7), (8, 999), (9, 999)] μ out.2 := by
  intro n
  induction n with
  | zero => intros; contradiction
  | succ n ih =>
    have hk34 : ∀ {a1 : Int32} {a2 : Int32} {μ : am_Mu} {out : Int32 × am_Mu}, (fLawReader_readTape_34 n) a1 a2 μ = some out → am_fr [(10, 999), (11, 999), (12, 999), (5, 2), (5, 3), (5, 4), (5, 5), (5, 6), (7, 5), (7, 6), (7, 7), (8, 999), (9, 999)] μ out.2 := ih
    intro a1 a2 μ out h
    unfold fLawReader_readTape_34 at h
    rcases am_ite h with ⟨q1, h⟩ | ⟨q1, h⟩
    · skip
      exact am_fr.trans am_fr.rf (w_fLawReader_readTape_112 h)
    · skip
      rcases am_ite h with ⟨q2, h⟩ | ⟨q2, h⟩
      · skip
        exact am_fr.trans am_fr.rf (w_fLawReader_readTape_112 h)
      · skip
        obtain ⟨q3, h_q3, h⟩ := am_bind h
        have w_q3 : am_fr [(10, 999), (11, 999), (12, 999), (5, 2), (5, 3), (5, 4), (5, 5), (5, 6), (7, 5), (7, 6), (7, 7), (8, 999), (9, 999)] μ q3.2 := am_fr.trans am_fr.rf (am_fr.mono (w_fLawReader_readKind h_q3) rfl)
        obtain ⟨q4, h_q4, h⟩ := am_bind h
        have w_q4 : am_fr [(10, 999), (11, 999), (12, 999), (5, 2), (5, 3), (5, 4), (5, 5), (5, 6), (7, 5), (7, 6), (7, 7), (8, 999), (9, 999)] μ q4 := am_fr.trans w_q3 (am_fr.mono (w_fLawReader_expect h_q4) rfl)
        obtain ⟨q5, h_q5, h⟩ := am_bind h
        have w_q5 : am_fr [(10, 999), (11, 999), (12, 999), (5, 2), (5, 3), (5, 4), (5, 5), (5, 6), (7, 5), (7, 6), (7, 7), (8, 999), (9, 999)] μ q5 := am_fr.trans w_q4 (am_fr.mono (w_fLR_cond h_q5) rfl)
        obtain ⟨q6, h_q6, h⟩ := am_bind h
        have w_q6 : am_fr [(10, 999), (11, 999), (12, 999), (5, 2), (5, 3), (5, 4), (5, 5), (5, 6), (7, 5), (7, 6), (7, 7), (8, 999), (9, 999)] μ q6 := am_fr.trans w_q5 (am_fr.mono (w_fLawReader_expect h_q6) rfl)
        obtain ⟨q7, h_q7, h⟩ := am_bind h
        have w_q7 : am_fr [(10, 999), (11, 999), (12, 999), (5, 2), (5, 3), (5, 4), (5, 5), (5, 6), (7, 5), (7, 6), (7, 7), (8, 999), (9, 999)] μ q7 := am_fr.trans w_q6 (am_fr.mono (w_fLawReader_readEffects h_q7) rfl)
        obtain ⟨q8, h_q8, h⟩ := am_bind h
        have w_q8 : am_fr [(10, 999), (11, 999), (12, 999), (5, 2), (5, 3), (5, 4), (5, 5), (5, 6), (7, 5), (7, 6), (7, 7), (8, 999), (9, 999)] μ q8 := am_fr.trans w_q7 (am_fr.mono (w_fLaw_addRule h_q8) rfl)
        rcases am_ite h with ⟨q9, h⟩ | ⟨q9, h⟩
        · skip
          exact am_fr.trans w_q8 (w_fLawReader_readTape_112 h)
        · skip
          rcases am_ite h with ⟨q10, h⟩ | ⟨q10, h⟩
          · skip
            obtain ⟨q11, h_q11, h⟩ := am_bind h
            have w_q11 : am_fr [(10, 999), (11, 999), (12, 999), (5, 2), (5, 3), (5, 4), (5, 5), (5, 6), (7, 5), (7, 6), (7, 7), (8, 999), (9, 999)] μ q11 := am_fr.trans w_q8 (am_fr.mono (w_fLawReader_expect h_q11) rfl)
            exact am_fr.trans w_q11 (hk34 h)
          · skip
            exact am_fr.trans w_q8 (w_fLawReader_readTape_97 h)
set_option maxRecDepth 20000 in
theorem w_fLawReader_readTape : ∀ {a1 : Int32} {μ : am_Mu} {out : Int32 × am_Mu}, fLawReader_readTape a1 μ = some out → am_fr [(10, 999), (11, 999), (12, 999), (5, 2), (5, 3), (5, 4), (5, 5), (5, 6), (7, 5), (7, 6), (7, 7), (8, 999), (9, 999)] μ out.2 := by
  intro a1 μ out h
  unfold fLawReader_readTape at h
  obtain ⟨q1, h_q1, h⟩ := am_bind h
  have w_q1 : am_fr [(10, 999), (11, 999), (12, 999), (5, 2), (5, 3), (5, 4), (5, 5), (5, 6), (7, 5), (7, 6), (7, 7), (8, 999), (9, 999)] μ q1 := am_fr.trans am_fr.rf (am_fr.mono (w_fLaw_empty h_q1) rfl)
  exact am_fr.trans (am_fr.up (am_fr.up (am_fr.up (am_fr.up (am_fr.up w_q1 rfl) rfl) rfl) rfl) rfl) (w_fLawReader_readTape_34 am_F h)
set_option maxRecDepth 20000 in
theorem w_fLedger_addThing : ∀ {a1 : Int32} {μ : am_Mu} {out : Int32 × am_Mu}, fLedger_addThing a1 μ = some out → am_fr [(13, 14), (14, 999)] μ out.2 := by
  intro a1 μ out h
  unfold fLedger_addThing at h
  rcases am_ite h with ⟨q1, h⟩ | ⟨q1, h⟩
  · skip
    cases h
    exact am_fr.rf
  · skip
    obtain ⟨q2, h_q2, h⟩ := am_bind h
    have w_q2 : am_fr [(13, 14), (14, 999)] μ q2.2 := am_fr.trans am_fr.rf (am_fr.mono (w_fB_isIn h_q2) rfl)
    rcases am_ite h with ⟨q3, h⟩ | ⟨q3, h⟩
    · skip
      obtain ⟨q4, h⟩ := am_bif h
      cases h
      exact (am_fr.up (am_fr.up w_q2 rfl) rfl)
    · skip
      cases h
      exact w_q2
set_option maxRecDepth 20000 in
theorem w_fLedger_canBeSecond_52 : ∀ {μ : am_Mu} {out : Int32 × am_Mu}, fLedger_canBeSecond_52 μ = some out → am_fr [] μ out.2 := by
  intro μ out h
  unfold fLedger_canBeSecond_52 at h
  cases h
  exact am_fr.rf
set_option maxRecDepth 20000 in
theorem w_fLedger_canBeSecond : ∀ {a1 : Int32} {a2 : Int32} {a3 : Int32} {μ : am_Mu} {out : Int32 × am_Mu}, fLedger_canBeSecond a1 a2 a3 μ = some out → am_fr [] μ out.2 := by
  intro a1 a2 a3 μ out h
  unfold fLedger_canBeSecond at h
  rcases am_ite h with ⟨q1, h⟩ | ⟨q1, h⟩
  · skip
    obtain ⟨q2, h_q2, h⟩ := am_bind h
    have w_q2 : am_fr [] μ q2.2 := am_fr.trans am_fr.rf (am_fr.mono (w_fB_isIn h_q2) rfl)
    rcases am_ite h with ⟨q3, h⟩ | ⟨q3, h⟩
    · skip
      exact am_fr.trans w_q2 (w_fLedger_canBeSecond_52 h)
    · skip
      rcases am_ite h with ⟨q4, h⟩ | ⟨q4, h⟩
      · skip
        exact am_fr.trans w_q2 (w_fLedger_canBeSecond_52 h)
      · skip
        cases h
        exact w_q2
  rcases am_ite h with ⟨q5, h⟩ | ⟨q5, h⟩
  · skip
    obtain ⟨q6, h_q6, h⟩ := am_bind h
    have w_q6 : am_fr [] μ q6.2 := am_fr.trans am_fr.rf (am_fr.mono (w_fB_isIn h_q6) rfl)
    rcases am_ite h with ⟨q7, h⟩ | ⟨q7, h⟩
    · skip
      exact am_fr.trans w_q6 (w_fLedger_canBeSecond_52 h)
    · skip
      rcases am_ite h with ⟨q8, h⟩ | ⟨q8, h⟩
      · skip
        exact am_fr.trans w_q6 (w_fLedger_canBeSecond_52 h)
      · skip
        cases h
        exact w_q6
  rcases am_ite h with ⟨q9, h⟩ | ⟨q9, h⟩
  · skip
    rcases am_ite h with ⟨q10, h⟩ | ⟨q10, h⟩
    · skip
      cases h
      exact am_fr.rf
    · skip
      cases h
      exact am_fr.rf
  rcases am_ite h with ⟨q11, h⟩ | ⟨q11, h⟩
  · skip
    rcases am_ite h with ⟨q12, h⟩ | ⟨q12, h⟩
    · skip
      cases h
      exact am_fr.rf
    · skip
      cases h
      exact am_fr.rf
  cases h
  exact am_fr.rf
set_option maxRecDepth 20000 in
theorem w_fLedger_comesAhead_25 : ∀ {μ : am_Mu} {out : Int32 × am_Mu}, fLedger_comesAhead_25 μ = some out → am_fr [] μ out.2 := by
  intro μ out h
  unfold fLedger_comesAhead_25 at h
  cases h
  exact am_fr.rf
set_option maxRecDepth 20000 in
theorem w_fLedger_comesAhead_29 : ∀ {μ : am_Mu} {out : Int32 × am_Mu}, fLedger_comesAhead_29 μ = some out → am_fr [] μ out.2 := by
  intro μ out h
  unfold fLedger_comesAhead_29 at h
  cases h
  exact am_fr.rf
set_option maxRecDepth 20000 in
theorem w_fLedger_comesAhead : ∀ {a1 : Int32} {a2 : Int32} {μ : am_Mu} {out : Int32 × am_Mu}, fLedger_comesAhead a1 a2 μ = some out → am_fr [] μ out.2 := by
  intro a1 a2 μ out h
  unfold fLedger_comesAhead at h
  obtain ⟨q1, h_q1, h⟩ := am_bind h
  have w_q1 : am_fr [] μ q1.2 := am_fr.trans am_fr.rf (am_fr.mono (w_fLedger_minuteOf h_q1) rfl)
  obtain ⟨q2, h_q2, h⟩ := am_bind h
  have w_q2 : am_fr [] μ q2.2 := am_fr.trans w_q1 (am_fr.mono (w_fLedger_minuteOf h_q2) rfl)
  rcases am_ite h with ⟨q3, h⟩ | ⟨q3, h⟩
  · skip
    exact am_fr.trans w_q2 (w_fLedger_comesAhead_25 h)
  · skip
    rcases am_ite h with ⟨q4, h⟩ | ⟨q4, h⟩
    · skip
      exact am_fr.trans w_q2 (w_fLedger_comesAhead_29 h)
    · skip
      rcases am_ite h with ⟨q5, h⟩ | ⟨q5, h⟩
      · skip
        exact am_fr.trans w_q2 (w_fLedger_comesAhead_29 h)
      · skip
        exact am_fr.trans w_q2 (w_fLedger_comesAhead_25 h)
set_option maxRecDepth 20000 in
theorem w_fLedger_place_67 : ∀ {a1 : Int32} {a2 : Int32} {μ : am_Mu} {out : am_Mu}, fLedger_place_67 a1 a2 μ = some out → am_fr [(13, 13), (26, 999)] μ out := by
  intro a1 a2 μ out h
  unfold fLedger_place_67 at h
  obtain ⟨q1, h⟩ := am_bif h
  cases h
  exact (am_fr.up (am_fr.up am_fr.rf rfl) rfl)
set_option maxRecDepth 20000 in
theorem w_fLedger_place_23 : ∀ n : Nat, ∀ {a1 : Int32} {a2 : Int32} {a3 : Int32} {μ : am_Mu} {out : am_Mu}, fLedger_place_23 n a1 a2 a3 μ = some out → am_fr [(13, 13), (26, 999)] μ out := by
  intro n
  induction n with
  | zero => intros; contradiction
  | succ n ih =>
    have hk23 : ∀ {a1 : Int32} {a2 : Int32} {a3 : Int32} {μ : am_Mu} {out : am_Mu}, (fLedger_place_23 n) a1 a2 a3 μ = some out → am_fr [(13, 13), (26, 999)] μ out := ih
    intro a1 a2 a3 μ out h
    unfold fLedger_place_23 at h
    rcases am_ite h with ⟨q1, h⟩ | ⟨q1, h⟩
    · skip
      exact am_fr.trans am_fr.rf (w_fLedger_place_67 h)
    · skip
      obtain ⟨q2, h⟩ := am_bif h
      obtain ⟨q3, h_q3, h⟩ := am_bind h
      have w_q3 : am_fr [(13, 13), (26, 999)] μ q3.2 := am_fr.trans am_fr.rf (am_fr.mono (w_fLedger_comesAhead h_q3) rfl)
      rcases am_ite h with ⟨q4, h⟩ | ⟨q4, h⟩
      · skip
        exact am_fr.trans w_q3 (w_fLedger_place_67 h)
      · skip
        obtain ⟨q5, h⟩ := am_bif h
        exact am_fr.trans (am_fr.up w_q3 rfl) (hk23 h)
set_option maxRecDepth 20000 in
theorem w_fLedger_place : ∀ {a1 : Int32} {μ : am_Mu} {out : am_Mu}, fLedger_place a1 μ = some out → am_fr [(13, 13), (26, 999)] μ out := by
  intro a1 μ out h
  unfold fLedger_place at h
  rcases am_ite h with ⟨q1, h⟩ | ⟨q1, h⟩
  · skip
    exact am_fr.trans am_fr.rf (w_fLedger_place_23 am_F h)
  · skip
    cases h
    exact am_fr.rf
set_option maxRecDepth 20000 in
theorem w_fLedger_addAct : ∀ {a1 : Int32} {a2 : Int32} {a3 : Int32} {a4 : Int32} {a5 : Int32} {a6 : Int32} {μ : am_Mu} {out : Int32 × am_Mu}, fLedger_addAct a1 a2 a3 a4 a5 a6 μ = some out → am_fr [(13, 13), (13, 15), (15, 999), (16, 999), (17, 999), (18, 999), (19, 999), (20, 999), (21, 999), (26, 999)] μ out.2 := by
  intro a1 a2 a3 a4 a5 a6 μ out h
  unfold fLedger_addAct at h
  rcases am_ite h with ⟨q1, h⟩ | ⟨q1, h⟩
  · skip
    cases h
    exact am_fr.rf
  · skip
    obtain ⟨q2, h_q2, h⟩ := am_bind h
    have w_q2 : am_fr [(13, 13), (13, 15), (15, 999), (16, 999), (17, 999), (18, 999), (19, 999), (20, 999), (21, 999), (26, 999)] μ q2.2 := am_fr.trans am_fr.rf (am_fr.mono (w_fB_isIn h_q2) rfl)
    rcases am_ite h with ⟨q3, h⟩ | ⟨q3, h⟩
    · skip
      cases h
      exact w_q2
    · skip
      obtain ⟨q4, h_q4, h⟩ := am_bind h
      have w_q4 : am_fr [(13, 13), (13, 15), (15, 999), (16, 999), (17, 999), (18, 999), (19, 999), (20, 999), (21, 999), (26, 999)] μ q4.2 := am_fr.trans w_q2 (am_fr.mono (w_fLedger_canBeSecond h_q4) rfl)
      rcases am_ite h with ⟨q5, h⟩ | ⟨q5, h⟩
      · skip
        obtain ⟨q6, h⟩ := am_bif h
        obtain ⟨q7, h_q7, h⟩ := am_bind h
        have w_q7 : am_fr [(13, 13), (13, 15), (15, 999), (16, 999), (17, 999), (18, 999), (19, 999), (20, 999), (21, 999), (26, 999)] μ q7 := am_fr.trans (am_fr.up (am_fr.up (am_fr.up (am_fr.up (am_fr.up (am_fr.up (am_fr.up w_q4 rfl) rfl) rfl) rfl) rfl) rfl) rfl) (am_fr.mono (w_fLedger_place h_q7) rfl)
        cases h
        exact (am_fr.up w_q7 rfl)
      · skip
        cases h
        exact w_q4
set_option maxRecDepth 20000 in
theorem w_fLedger_strikeAct : ∀ {a1 : Int32} {a2 : Int32} {μ : am_Mu} {out : Int32 × am_Mu}, fLedger_strikeAct a1 a2 μ = some out → am_fr [(21, 999)] μ out.2 := by
  intro a1 a2 μ out h
  unfold fLedger_strikeAct at h
  obtain ⟨q1, h_q1, h⟩ := am_bind h
  have w_q1 : am_fr [(21, 999)] μ q1.2 := am_fr.trans am_fr.rf (am_fr.mono (w_fB_isIn h_q1) rfl)
  rcases am_ite h with ⟨q2, h⟩ | ⟨q2, h⟩
  · skip
    cases h
    exact w_q1
  · skip
    obtain ⟨q3, h⟩ := am_bif h
    rcases am_ite h with ⟨q4, h⟩ | ⟨q4, h⟩
    · skip
      cases h
      exact (am_fr.up w_q1 rfl)
    · skip
      cases h
      exact w_q1
set_option maxRecDepth 20000 in
theorem w_fLedger_addMistake : ∀ {a1 : Int32} {a2 : Int32} {a3 : Int32} {a4 : Int32} {μ : am_Mu} {out : Int32 × am_Mu}, fLedger_addMistake a1 a2 a3 a4 μ = some out → am_fr [(13, 13), (13, 16), (22, 999), (23, 999), (24, 999), (25, 999), (26, 999)] μ out.2 := by
  intro a1 a2 a3 a4 μ out h
  unfold fLedger_addMistake at h
  rcases am_ite h with ⟨q1, h⟩ | ⟨q1, h⟩
  · skip
    cases h
    exact am_fr.rf
  · skip
    obtain ⟨q2, h_q2, h⟩ := am_bind h
    have w_q2 : am_fr [(13, 13), (13, 16), (22, 999), (23, 999), (24, 999), (25, 999), (26, 999)] μ q2.2 := am_fr.trans am_fr.rf (am_fr.mono (w_fB_isIn h_q2) rfl)
    rcases am_ite h with ⟨q3, h⟩ | ⟨q3, h⟩
    · skip
      cases h
      exact w_q2
    · skip
      obtain ⟨q4, h_q4, h⟩ := am_bind h
      have w_q4 : am_fr [(13, 13), (13, 16), (22, 999), (23, 999), (24, 999), (25, 999), (26, 999)] μ q4.2 := am_fr.trans w_q2 (am_fr.mono (w_fB_isIn h_q4) rfl)
      rcases am_ite h with ⟨q5, h⟩ | ⟨q5, h⟩
      · skip
        obtain ⟨q6, h⟩ := am_bif h
        obtain ⟨q7, h_q7, h⟩ := am_bind h
        have w_q7 : am_fr [(13, 13), (13, 16), (22, 999), (23, 999), (24, 999), (25, 999), (26, 999)] μ q7 := am_fr.trans (am_fr.up (am_fr.up (am_fr.up (am_fr.up w_q4 rfl) rfl) rfl) rfl) (am_fr.mono (w_fLedger_place h_q7) rfl)
        cases h
        exact (am_fr.up w_q7 rfl)
      · skip
        cases h
        exact w_q4
set_option maxRecDepth 20000 in
theorem w_fLedger_otherThing : ∀ {a1 : Int32} {a2 : Int32} {μ : am_Mu} {out : Int32 × am_Mu}, fLedger_otherThing a1 a2 μ = some out → am_fr [] μ out.2 := by
  intro a1 a2 μ out h
  unfold fLedger_otherThing at h
  obtain ⟨q1, h⟩ := am_bif h
  rcases am_ite h with ⟨q2, h⟩ | ⟨q2, h⟩
  · skip
    cases h
    exact am_fr.rf
  · skip
    cases h
    exact am_fr.rf
set_option maxRecDepth 20000 in
theorem w_fLots_add : ∀ {a1 : Int32} {a2 : Int32} {μ : am_Mu} {out : Int32 × am_Mu}, fLots_add a1 a2 μ = some out → am_fr [(84, 13), (85, 999), (86, 999), (87, 999), (88, 999)] μ out.2 := by
  intro a1 a2 μ out h
  unfold fLots_add at h
  rcases am_ite h with ⟨q1, h⟩ | ⟨q1, h⟩
  · skip
    cases h
    exact am_fr.rf
  · skip
    obtain ⟨q2, h_q2, h⟩ := am_bind h
    have w_q2 : am_fr [(84, 13), (85, 999), (86, 999), (87, 999), (88, 999)] μ q2.2 := am_fr.trans am_fr.rf (am_fr.mono (w_fB_isIn h_q2) rfl)
    rcases am_ite h with ⟨q3, h⟩ | ⟨q3, h⟩
    · skip
      cases h
      exact w_q2
    · skip
      rcases am_ite h with ⟨q4, h⟩ | ⟨q4, h⟩
      · skip
        cases h
        exact w_q2
      · skip
        rcases am_ite h with ⟨q5, h⟩ | ⟨q5, h⟩
        · skip
          obtain ⟨q6, h⟩ := am_bif h
          obtain ⟨q7, h⟩ := am_bif h
          cases h
          exact (am_fr.up (am_fr.up (am_fr.up (am_fr.up (am_fr.up w_q2 rfl) rfl) rfl) rfl) rfl)
        · skip
          cases h
          exact w_q2
set_option maxRecDepth 20000 in
theorem w_fLots_move : ∀ {a1 : Int32} {a2 : Int32} {a3 : Int32} {a4 : Int32} {a5 : Int32} {μ : am_Mu} {out : Int32 × am_Mu}, fLots_move a1 a2 a3 a4 a5 μ = some out → am_fr [(84, 14), (87, 999), (88, 999), (89, 999), (90, 999), (91, 999), (92, 999), (93, 999)] μ out.2 := by
  intro a1 a2 a3 a4 a5 μ out h
  unfold fLots_move at h
  rcases am_ite h with ⟨q1, h⟩ | ⟨q1, h⟩
  · skip
    cases h
    exact am_fr.rf
  · skip
    obtain ⟨q2, h_q2, h⟩ := am_bind h
    have w_q2 : am_fr [(84, 14), (87, 999), (88, 999), (89, 999), (90, 999), (91, 999), (92, 999), (93, 999)] μ q2.2 := am_fr.trans am_fr.rf (am_fr.mono (w_fB_isIn h_q2) rfl)
    rcases am_ite h with ⟨q3, h⟩ | ⟨q3, h⟩
    · skip
      cases h
      exact w_q2
    · skip
      rcases am_ite h with ⟨q4, h⟩ | ⟨q4, h⟩
      · skip
        cases h
        exact w_q2
      · skip
        rcases am_ite h with ⟨q5, h⟩ | ⟨q5, h⟩
        · skip
          obtain ⟨q6, h_q6, h⟩ := am_bind h
          have w_q6 : am_fr [(84, 14), (87, 999), (88, 999), (89, 999), (90, 999), (91, 999), (92, 999), (93, 999)] μ q6.2 := am_fr.trans w_q2 (am_fr.mono (w_fB_isIn h_q6) rfl)
          rcases am_ite h with ⟨q7, h⟩ | ⟨q7, h⟩
          · skip
            cases h
            exact w_q6
          · skip
            obtain ⟨q8, h_q8, h⟩ := am_bind h
            have w_q8 : am_fr [(84, 14), (87, 999), (88, 999), (89, 999), (90, 999), (91, 999), (92, 999), (93, 999)] μ q8.2 := am_fr.trans w_q6 (am_fr.mono (w_fB_isIn h_q8) rfl)
            rcases am_ite h with ⟨q9, h⟩ | ⟨q9, h⟩
            · skip
              cases h
              exact w_q8
            · skip
              obtain ⟨q10, h⟩ := am_bif h
              rcases am_ite h with ⟨q11, h⟩ | ⟨q11, h⟩
              · skip
                obtain ⟨q12, h⟩ := am_bif h
                obtain ⟨q13, h⟩ := am_bif h
                obtain ⟨q14, h⟩ := am_bif h
                cases h
                exact (am_fr.up (am_fr.up (am_fr.up (am_fr.up (am_fr.up (am_fr.up (am_fr.up (am_fr.up (am_fr.up w_q8 rfl) rfl) rfl) rfl) rfl) rfl) rfl) rfl) rfl)
              · skip
                cases h
                exact w_q8
        · skip
          cases h
          exact w_q2
set_option maxRecDepth 20000 in
theorem w_fLots_passGood_87 : ∀ {a3 : Int32} {a4 : Int32} {a5 : Int32} {μ : am_Mu} {out : am_Mu}, fLots_passGood_87 a3 a4 a5 μ = some out → am_fr [(94, 999), (95, 999), (96, 999)] μ out := by
  intro a3 a4 a5 μ out h
  unfold fLots_passGood_87 at h
  obtain ⟨q1, h⟩ := am_bif h
  obtain ⟨q2, h⟩ := am_bif h
  cases h
  exact (am_fr.up (am_fr.up (am_fr.up (am_fr.up am_fr.rf rfl) rfl) rfl) rfl)
set_option maxRecDepth 20000 in
theorem w_fLots_passGood : ∀ {a1 : Int32} {a2 : Int32} {μ : am_Mu} {out : am_Mu}, fLots_passGood a1 a2 μ = some out → am_fr [(94, 999), (95, 999), (96, 999)] μ out := by
  intro a1 a2 μ out h
  unfold fLots_passGood at h
  obtain ⟨q1, h⟩ := am_bif h
  rcases am_ite h with ⟨q2, h⟩ | ⟨q2, h⟩
  · skip
    exact am_fr.trans am_fr.rf (w_fLots_passGood_87 h)
  · skip
    rcases am_ite h with ⟨q3, h⟩ | ⟨q3, h⟩
    · skip
      exact am_fr.trans am_fr.rf (w_fLots_passGood_87 h)
    · skip
      obtain ⟨q4, h⟩ := am_bif h
      obtain ⟨q5, h⟩ := am_bif h
      exact am_fr.trans (am_fr.up (am_fr.up am_fr.rf rfl) rfl) (w_fLots_passGood_87 h)
set_option maxRecDepth 20000 in
theorem w_fLots_seeGood_134 {k93 : Int32 → Int32 → Int32 → am_Mu → Option (am_Mu)} (hk93 : ∀ {a1 : Int32} {a2 : Int32} {a4 : Int32} {μ : am_Mu} {out : am_Mu}, k93 a1 a2 a4 μ = some out → am_fr [(94, 999), (95, 999), (96, 999)] μ out) : ∀ {a1 : Int32} {a2 : Int32} {a4 : Int32} {μ : am_Mu} {out : am_Mu}, fLots_seeGood_134 k93 a1 a2 a4 μ = some out → am_fr [(94, 999), (95, 999), (96, 999)] μ out := by
  intro a1 a2 a4 μ out h
  unfold fLots_seeGood_134 at h
  exact am_fr.trans am_fr.rf (hk93 h)
set_option maxRecDepth 20000 in
theorem w_fLots_seeGood_93 : ∀ n : Nat, ∀ {a1 : Int32} {a2 : Int32} {a4 : Int32} {μ : am_Mu} {out : am_Mu}, fLots_seeGood_93 n a1 a2 a4 μ = some out → am_fr [(94, 999), (95, 999), (96, 999)] μ out := by
  intro n
  induction n with
  | zero => intros; contradiction
  | succ n ih =>
    have hk93 : ∀ {a1 : Int32} {a2 : Int32} {a4 : Int32} {μ : am_Mu} {out : am_Mu}, (fLots_seeGood_93 n) a1 a2 a4 μ = some out → am_fr [(94, 999), (95, 999), (96, 999)] μ out := ih
    intro a1 a2 a4 μ out h
    unfold fLots_seeGood_93 at h
    rcases am_ite h with ⟨q1, h⟩ | ⟨q1, h⟩
    · skip
      cases h
      exact am_fr.rf
    · skip
      obtain ⟨q2, h⟩ := am_bif h
      rcases am_ite h with ⟨q3, h⟩ | ⟨q3, h⟩
      · skip
        exact am_fr.trans am_fr.rf (w_fLots_seeGood_134 hk93 h)
      · skip
        obtain ⟨q4, h_q4, h⟩ := am_bind h
        have w_q4 : am_fr [(94, 999), (95, 999), (96, 999)] μ q4.2 := am_fr.trans am_fr.rf (am_fr.mono (w_fKitchens_isTrusted h_q4) rfl)
        obtain ⟨q5, h_q5, h⟩ := am_bind h
        have w_q5 : am_fr [(94, 999), (95, 999), (96, 999)] μ q5 := am_fr.trans w_q4 (am_fr.mono (w_fLots_passGood h_q5) rfl)
        exact am_fr.trans w_q5 (w_fLots_seeGood_134 hk93 h)
set_option maxRecDepth 20000 in
theorem w_fLots_seeGood_90 : ∀ {a1 : Int32} {a2 : Int32} {μ : am_Mu} {out : am_Mu}, fLots_seeGood_90 a1 a2 μ = some out → am_fr [(94, 999), (95, 999), (96, 999)] μ out := by
  intro a1 a2 μ out h
  unfold fLots_seeGood_90 at h
  exact am_fr.trans am_fr.rf (w_fLots_seeGood_93 am_F h)
set_option maxRecDepth 20000 in
theorem w_fLots_seeGood_35 : ∀ {a1 : Int32} {a2 : Int32} {μ : am_Mu} {out : am_Mu}, fLots_seeGood_35 a1 a2 μ = some out → am_fr [(94, 999), (95, 999), (96, 999)] μ out := by
  intro a1 a2 μ out h
  unfold fLots_seeGood_35 at h
  obtain ⟨q1, h⟩ := am_bif h
  obtain ⟨q2, h⟩ := am_bif h
  obtain ⟨q3, h_q3, h⟩ := am_bind h
  have w_q3 : am_fr [(94, 999), (95, 999), (96, 999)] μ q3.2 := am_fr.trans (am_fr.up am_fr.rf rfl) (am_fr.mono (w_fKitchens_isTrusted h_q3) rfl)
  rcases am_ite h with ⟨q4, h⟩ | ⟨q4, h⟩
  · skip
    exact am_fr.trans w_q3 (w_fLots_seeGood_90 h)
  · skip
    exact am_fr.trans (am_fr.up (am_fr.up w_q3 rfl) rfl) (w_fLots_seeGood_90 h)
set_option maxRecDepth 20000 in
theorem w_fLots_seeGood_2 : ∀ n : Nat, ∀ {a1 : Int32} {a2 : Int32} {a3 : Int32} {μ : am_Mu} {out : am_Mu}, fLots_seeGood_2 n a1 a2 a3 μ = some out → am_fr [(94, 999), (95, 999), (96, 999)] μ out := by
  intro n
  induction n with
  | zero => intros; contradiction
  | succ n ih =>
    have hk2 : ∀ {a1 : Int32} {a2 : Int32} {a3 : Int32} {μ : am_Mu} {out : am_Mu}, (fLots_seeGood_2 n) a1 a2 a3 μ = some out → am_fr [(94, 999), (95, 999), (96, 999)] μ out := ih
    intro a1 a2 a3 μ out h
    unfold fLots_seeGood_2 at h
    rcases am_ite h with ⟨q1, h⟩ | ⟨q1, h⟩
    · skip
      exact am_fr.trans am_fr.rf (w_fLots_seeGood_35 h)
    · skip
      obtain ⟨q2, h⟩ := am_bif h
      exact am_fr.trans (am_fr.up (am_fr.up (am_fr.up am_fr.rf rfl) rfl) rfl) (hk2 h)
set_option maxRecDepth 20000 in
theorem w_fLots_seeGood : ∀ {a1 : Int32} {a2 : Int32} {μ : am_Mu} {out : am_Mu}, fLots_seeGood a1 a2 μ = some out → am_fr [(94, 999), (95, 999), (96, 999)] μ out := by
  intro a1 a2 μ out h
  unfold fLots_seeGood at h
  exact am_fr.trans am_fr.rf (w_fLots_seeGood_2 am_F h)
set_option maxRecDepth 20000 in
theorem w_fMarks_unlike_8 {a0 : Nat} {a1 : Nat} : ∀ n : Nat, ∀ {a2 : Int32} {a3 : Int32} {a4 : Int32} {μ : am_Mu} {out : Int32 × am_Mu}, fMarks_unlike_8 n a0 a1 a2 a3 a4 μ = some out → am_fr [] μ out.2 := by
  intro n
  induction n with
  | zero => intros; contradiction
  | succ n ih =>
    have hk8 : ∀ {a2 : Int32} {a3 : Int32} {a4 : Int32} {μ : am_Mu} {out : Int32 × am_Mu}, (fMarks_unlike_8 n) a0 a1 a2 a3 a4 μ = some out → am_fr [] μ out.2 := ih
    intro a2 a3 a4 μ out h
    unfold fMarks_unlike_8 at h
    rcases am_ite h with ⟨q1, h⟩ | ⟨q1, h⟩
    · skip
      cases h
      exact am_fr.rf
    · skip
      obtain ⟨g_a0, h⟩ := am_bif h
      obtain ⟨q2, h⟩ := am_bif h
      obtain ⟨g_a1, h⟩ := am_bif h
      exact am_fr.trans am_fr.rf (hk8 h)
set_option maxRecDepth 20000 in
theorem w_fMarks_unlike {a0 : Nat} {a1 : Nat} : ∀ {a2 : Int32} {μ : am_Mu} {out : Int32 × am_Mu}, fMarks_unlike a0 a1 a2 μ = some out → am_fr [] μ out.2 := by
  intro a2 μ out h
  unfold fMarks_unlike at h
  exact am_fr.trans am_fr.rf (w_fMarks_unlike_8 am_F h)
set_option maxRecDepth 20000 in
theorem w_fTrace_otherwise : ∀ {a1 : Int32} {μ : am_Mu} {out : Int32 × am_Mu}, fTrace_otherwise a1 μ = some out → am_fr [] μ out.2 := by
  intro a1 μ out h
  unfold fTrace_otherwise at h
  obtain ⟨q1, h_q1, h⟩ := am_bind h
  have w_q1 : am_fr [] μ q1.2 := am_fr.trans am_fr.rf (am_fr.mono (w_fMarks_unlike h_q1) rfl)
  cases h
  exact w_q1
set_option maxRecDepth 20000 in
theorem w_fTrace_noteThing : ∀ {a1 : Int32} {a2 : Int32} {a3 : Int32} {μ : am_Mu} {out : am_Mu}, fTrace_noteThing a1 a2 a3 μ = some out → am_fr [(66, 999)] μ out := by
  intro a1 a2 a3 μ out h
  unfold fTrace_noteThing at h
  rcases am_ite h with ⟨q1, h⟩ | ⟨q1, h⟩
  · skip
    cases h
    exact am_fr.rf
  · skip
    obtain ⟨q2, h⟩ := am_bif h
    rcases am_ite h with ⟨q3, h⟩ | ⟨q3, h⟩
    · skip
      cases h
      exact am_fr.rf
    · skip
      obtain ⟨q4, h_q4, h⟩ := am_bind h
      have w_q4 : am_fr [(66, 999)] μ q4.2 := am_fr.trans am_fr.rf (am_fr.mono (w_fTrace_otherwise h_q4) rfl)
      rcases am_ite h with ⟨q5, h⟩ | ⟨q5, h⟩
      · skip
        cases h
        exact w_q4
      · skip
        cases h
        exact (am_fr.up w_q4 rfl)
set_option maxRecDepth 20000 in
theorem w_fTrace_noteReached : ∀ {a1 : Int32} {a2 : Int32} {μ : am_Mu} {out : am_Mu}, fTrace_noteReached a1 a2 μ = some out → am_fr [(66, 999)] μ out := by
  intro a1 a2 μ out h
  unfold fTrace_noteReached at h
  obtain ⟨q1, h⟩ := am_bif h
  obtain ⟨q2, h_q2, h⟩ := am_bind h
  have w_q2 : am_fr [(66, 999)] μ q2 := am_fr.trans am_fr.rf (am_fr.mono (w_fTrace_noteThing h_q2) rfl)
  rcases am_ite h with ⟨q3, h⟩ | ⟨q3, h⟩
  · skip
    cases h
    exact w_q2
  · skip
    obtain ⟨q4, h_q4, h⟩ := am_bind h
    have w_q4 : am_fr [(66, 999)] μ q4 := am_fr.trans w_q2 (am_fr.mono (w_fTrace_noteThing h_q4) rfl)
    cases h
    exact w_q4
set_option maxRecDepth 20000 in
theorem w_fTrace_follow_172 {k54 : Int32 → Int32 → Int32 → Int32 → Int32 → am_Mu → Option (am_Mu)} (hk54 : ∀ {a1 : Int32} {a2 : Int32} {a3 : Int32} {a4 : Int32} {a5 : Int32} {μ : am_Mu} {out : am_Mu}, k54 a1 a2 a3 a4 a5 μ = some out → am_fr [(53, 999), (54, 999), (55, 999), (56, 999), (59, 999), (60, 999), (61, 999), (63, 999), (64, 999), (65, 999), (66, 999), (69, 999), (70, 999), (71, 999), (73, 999), (74, 999), (75, 999)] μ out) : ∀ {a1 : Int32} {a2 : Int32} {a3 : Int32} {a4 : Int32} {a5 : Int32} {μ : am_Mu} {out : am_Mu}, fTrace_follow_172 k54 a1 a2 a3 a4 a5 μ = some out → am_fr [(53, 999), (54, 999), (55, 999), (56, 999), (59, 999), (60, 999), (61, 999), (63, 999), (64, 999), (65, 999), (66, 999), (69, 999), (70, 999), (71, 999), (73, 999), (74, 999), (75, 999)] μ out := by
  intro a1 a2 a3 a4 a5 μ out h
  unfold fTrace_follow_172 at h
  exact am_fr.trans am_fr.rf (hk54 h)
set_option maxRecDepth 20000 in
theorem w_fTrace_follow_142 {k54 : Int32 → Int32 → Int32 → Int32 → Int32 → am_Mu → Option (am_Mu)} (hk54 : ∀ {a1 : Int32} {a2 : Int32} {a3 : Int32} {a4 : Int32} {a5 : Int32} {μ : am_Mu} {out : am_Mu}, k54 a1 a2 a3 a4 a5 μ = some out → am_fr [(53, 999), (54, 999), (55, 999), (56, 999), (59, 999), (60, 999), (61, 999), (63, 999), (64, 999), (65, 999), (66, 999), (69, 999), (70, 999), (71, 999), (73, 999), (74, 999), (75, 999)] μ out) : ∀ {a1 : Int32} {a2 : Int32} {a3 : Int32} {a4 : Int32} {a5 : Int32} {a6 : Int32} {μ : am_Mu} {out : am_Mu}, fTrace_follow_142 k54 a1 a2 a3 a4 a5 a6 μ = some out → am_fr [(53, 999), (54, 999), (55, 999), (56, 999), (59, 999), (60, 999), (61, 999), (63, 999), (64, 999), (65, 999), (66, 999), (69, 999), (70, 999), (71, 999), (73, 999), (74, 999), (75, 999)] μ out := by
  intro a1 a2 a3 a4 a5 a6 μ out h
  unfold fTrace_follow_142 at h
  obtain ⟨q1, h_q1, h⟩ := am_bind h
  have w_q1 : am_fr [(53, 999), (54, 999), (55, 999), (56, 999), (59, 999), (60, 999), (61, 999), (63, 999), (64, 999), (65, 999), (66, 999), (69, 999), (70, 999), (71, 999), (73, 999), (74, 999), (75, 999)] μ q1.2 := am_fr.trans am_fr.rf (am_fr.mono (w_fLedger_isMistake h_q1) rfl)
  rcases am_ite h with ⟨q2, h⟩ | ⟨q2, h⟩
  · skip
    exact am_fr.trans w_q1 (w_fTrace_follow_172 hk54 h)
  · skip
    obtain ⟨q3, h⟩ := am_bif h
    obtain ⟨q4, h_q4, h⟩ := am_bind h
    have w_q4 : am_fr [(53, 999), (54, 999), (55, 999), (56, 999), (59, 999), (60, 999), (61, 999), (63, 999), (64, 999), (65, 999), (66, 999), (69, 999), (70, 999), (71, 999), (73, 999), (74, 999), (75, 999)] μ q4 := am_fr.trans w_q1 (am_fr.mono (w_fTrace_noteReached h_q4) rfl)
    exact am_fr.trans w_q4 (w_fTrace_follow_172 hk54 h)
set_option maxRecDepth 20000 in
theorem w_fTrace_follow_54 : ∀ n : Nat, ∀ {a1 : Int32} {a2 : Int32} {a3 : Int32} {a4 : Int32} {a5 : Int32} {μ : am_Mu} {out : am_Mu}, fTrace_follow_54 n a1 a2 a3 a4 a5 μ = some out → am_fr [(53, 999), (54, 999), (55, 999), (56, 999), (59, 999), (60, 999), (61, 999), (63, 999), (64, 999), (65, 999), (66, 999), (69, 999), (70, 999), (71, 999), (73, 999), (74, 999), (75, 999)] μ out := by
  intro n
  induction n with
  | zero => intros; contradiction
  | succ n ih =>
    have hk54 : ∀ {a1 : Int32} {a2 : Int32} {a3 : Int32} {a4 : Int32} {a5 : Int32} {μ : am_Mu} {out : am_Mu}, (fTrace_follow_54 n) a1 a2 a3 a4 a5 μ = some out → am_fr [(53, 999), (54, 999), (55, 999), (56, 999), (59, 999), (60, 999), (61, 999), (63, 999), (64, 999), (65, 999), (66, 999), (69, 999), (70, 999), (71, 999), (73, 999), (74, 999), (75, 999)] μ out := ih
    intro a1 a2 a3 a4 a5 μ out h
    unfold fTrace_follow_54 at h
    rcases am_ite h with ⟨q1, h⟩ | ⟨q1, h⟩
    · skip
      cases h
      exact am_fr.rf
    · skip
      obtain ⟨q2, h⟩ := am_bif h
      obtain ⟨q3, h_q3, h⟩ := am_bind h
      have w_q3 : am_fr [(53, 999), (54, 999), (55, 999), (56, 999), (59, 999), (60, 999), (61, 999), (63, 999), (64, 999), (65, 999), (66, 999), (69, 999), (70, 999), (71, 999), (73, 999), (74, 999), (75, 999)] μ q3.2 := am_fr.trans am_fr.rf (am_fr.mono (w_fLedger_minuteOf h_q3) rfl)
      rcases am_ite h with ⟨q4, h⟩ | ⟨q4, h⟩
      · skip
        exact am_fr.trans w_q3 (w_fTrace_follow_172 hk54 h)
      · skip
        obtain ⟨q5, h_q5, h⟩ := am_bind h
        have w_q5 : am_fr [(53, 999), (54, 999), (55, 999), (56, 999), (59, 999), (60, 999), (61, 999), (63, 999), (64, 999), (65, 999), (66, 999), (69, 999), (70, 999), (71, 999), (73, 999), (74, 999), (75, 999)] μ q5.2 := am_fr.trans w_q3 (am_fr.mono (w_fLedger_isKnown h_q5) rfl)
        rcases am_ite h with ⟨q6, h⟩ | ⟨q6, h⟩
        · skip
          obtain ⟨q7, h_q7, h⟩ := am_bind h
          have w_q7 : am_fr [(53, 999), (54, 999), (55, 999), (56, 999), (59, 999), (60, 999), (61, 999), (63, 999), (64, 999), (65, 999), (66, 999), (69, 999), (70, 999), (71, 999), (73, 999), (74, 999), (75, 999)] μ q7 := am_fr.trans w_q5 (am_fr.mono (w_fJudge_play h_q7) rfl)
          rcases am_ite h with ⟨q8, h⟩ | ⟨q8, h⟩
          · skip
            exact am_fr.trans w_q7 (w_fTrace_follow_142 hk54 h)
          · skip
            obtain ⟨q9, h_q9, h⟩ := am_bind h
            have w_q9 : am_fr [(53, 999), (54, 999), (55, 999), (56, 999), (59, 999), (60, 999), (61, 999), (63, 999), (64, 999), (65, 999), (66, 999), (69, 999), (70, 999), (71, 999), (73, 999), (74, 999), (75, 999)] μ q9 := am_fr.trans w_q7 (am_fr.mono (w_fJudge_play h_q9) rfl)
            exact am_fr.trans w_q9 (w_fTrace_follow_142 hk54 h)
        · skip
          exact am_fr.trans w_q5 (w_fTrace_follow_172 hk54 h)
set_option maxRecDepth 20000 in
theorem w_fTrace_follow_51 : ∀ {a1 : Int32} {a2 : Int32} {a3 : Int32} {a4 : Int32} {μ : am_Mu} {out : am_Mu}, fTrace_follow_51 a1 a2 a3 a4 μ = some out → am_fr [(53, 999), (54, 999), (55, 999), (56, 999), (59, 999), (60, 999), (61, 999), (63, 999), (64, 999), (65, 999), (66, 999), (69, 999), (70, 999), (71, 999), (73, 999), (74, 999), (75, 999)] μ out := by
  intro a1 a2 a3 a4 μ out h
  unfold fTrace_follow_51 at h
  exact am_fr.trans am_fr.rf (w_fTrace_follow_54 am_F h)
set_option maxRecDepth 20000 in
theorem w_fTrace_follow_25 : ∀ n : Nat, ∀ {a1 : Int32} {a2 : Int32} {a3 : Int32} {a4 : Int32} {a5 : Int32} {μ : am_Mu} {out : am_Mu}, fTrace_follow_25 n a1 a2 a3 a4 a5 μ = some out → am_fr [(53, 999), (54, 999), (55, 999), (56, 999), (59, 999), (60, 999), (61, 999), (63, 999), (64, 999), (65, 999), (66, 999), (69, 999), (70, 999), (71, 999), (73, 999), (74, 999), (75, 999)] μ out := by
  intro n
  induction n with
  | zero => intros; contradiction
  | succ n ih =>
    have hk25 : ∀ {a1 : Int32} {a2 : Int32} {a3 : Int32} {a4 : Int32} {a5 : Int32} {μ : am_Mu} {out : am_Mu}, (fTrace_follow_25 n) a1 a2 a3 a4 a5 μ = some out → am_fr [(53, 999), (54, 999), (55, 999), (56, 999), (59, 999), (60, 999), (61, 999), (63, 999), (64, 999), (65, 999), (66, 999), (69, 999), (70, 999), (71, 999), (73, 999), (74, 999), (75, 999)] μ out := ih
    intro a1 a2 a3 a4 a5 μ out h
    unfold fTrace_follow_25 at h
    rcases am_ite h with ⟨q1, h⟩ | ⟨q1, h⟩
    · skip
      exact am_fr.trans am_fr.rf (w_fTrace_follow_51 h)
    · skip
      obtain ⟨q2, h⟩ := am_bif h
      exact am_fr.trans (am_fr.up am_fr.rf rfl) (hk25 h)
set_option maxRecDepth 20000 in
theorem w_fTrace_follow : ∀ {a1 : Int32} {a2 : Int32} {a3 : Int32} {a4 : Int32} {μ : am_Mu} {out : am_Mu}, fTrace_follow a1 a2 a3 a4 μ = some out → am_fr [(53, 999), (54, 999), (55, 999), (56, 999), (59, 999), (60, 999), (61, 999), (63, 999), (64, 999), (65, 999), (66, 999), (69, 999), (70, 999), (71, 999), (73, 999), (74, 999), (75, 999)] μ out := by
  intro a1 a2 a3 a4 μ out h
  unfold fTrace_follow at h
  obtain ⟨q1, h_q1, h⟩ := am_bind h
  have w_q1 : am_fr [(53, 999), (54, 999), (55, 999), (56, 999), (59, 999), (60, 999), (61, 999), (63, 999), (64, 999), (65, 999), (66, 999), (69, 999), (70, 999), (71, 999), (73, 999), (74, 999), (75, 999)] μ q1 := am_fr.trans am_fr.rf (am_fr.mono (w_fMarks_begin h_q1) rfl)
  obtain ⟨q2, h_q2, h⟩ := am_bind h
  have w_q2 : am_fr [(53, 999), (54, 999), (55, 999), (56, 999), (59, 999), (60, 999), (61, 999), (63, 999), (64, 999), (65, 999), (66, 999), (69, 999), (70, 999), (71, 999), (73, 999), (74, 999), (75, 999)] μ q2 := am_fr.trans w_q1 (am_fr.mono (w_fMarks_begin h_q2) rfl)
  exact am_fr.trans w_q2 (w_fTrace_follow_25 am_F h)
set_option maxRecDepth 20000 in
theorem w_fTrace_isStep_2 : ∀ n : Nat, ∀ {a1 : Int32} {a2 : Int32} {a3 : Int32} {μ : am_Mu} {out : Int32 × am_Mu}, fTrace_isStep_2 n a1 a2 a3 μ = some out → am_fr [] μ out.2 := by
  intro n
  induction n with
  | zero => intros; contradiction
  | succ n ih =>
    have hk2 : ∀ {a1 : Int32} {a2 : Int32} {a3 : Int32} {μ : am_Mu} {out : Int32 × am_Mu}, (fTrace_isStep_2 n) a1 a2 a3 μ = some out → am_fr [] μ out.2 := ih
    intro a1 a2 a3 μ out h
    unfold fTrace_isStep_2 at h
    rcases am_ite h with ⟨q1, h⟩ | ⟨q1, h⟩
    · skip
      cases h
      exact am_fr.rf
    · skip
      obtain ⟨q2, h⟩ := am_bif h
      rcases am_ite h with ⟨q3, h⟩ | ⟨q3, h⟩
      · skip
        exact am_fr.trans am_fr.rf (hk2 h)
      · skip
        cases h
        exact am_fr.rf
set_option maxRecDepth 20000 in
theorem w_fTrace_isStep : ∀ {a1 : Int32} {a2 : Int32} {μ : am_Mu} {out : Int32 × am_Mu}, fTrace_isStep a1 a2 μ = some out → am_fr [] μ out.2 := by
  intro a1 a2 μ out h
  unfold fTrace_isStep at h
  exact am_fr.trans am_fr.rf (w_fTrace_isStep_2 am_F h)
set_option maxRecDepth 20000 in
theorem w_fTrace_walkBack_109 {k36 : Int32 → Int32 → Int32 → Int32 → am_Mu → Option (Int32 × am_Mu)} (hk36 : ∀ {a3 : Int32} {a4 : Int32} {a5 : Int32} {a6 : Int32} {μ : am_Mu} {out : Int32 × am_Mu}, k36 a3 a4 a5 a6 μ = some out → am_fr [(67, 999)] μ out.2) : ∀ {a3 : Int32} {a4 : Int32} {a6 : Int32} {s0 : Int32} {μ : am_Mu} {out : Int32 × am_Mu}, fTrace_walkBack_109 k36 a3 a4 a6 s0 μ = some out → am_fr [(67, 999)] μ out.2 := by
  intro a3 a4 a6 s0 μ out h
  unfold fTrace_walkBack_109 at h
  exact am_fr.trans am_fr.rf (hk36 h)
set_option maxRecDepth 20000 in
theorem w_fTrace_walkBack_89 {k36 : Int32 → Int32 → Int32 → Int32 → am_Mu → Option (Int32 × am_Mu)} (hk36 : ∀ {a3 : Int32} {a4 : Int32} {a5 : Int32} {a6 : Int32} {μ : am_Mu} {out : Int32 × am_Mu}, k36 a3 a4 a5 a6 μ = some out → am_fr [(67, 999)] μ out.2) : ∀ {a3 : Int32} {a4 : Int32} {a6 : Int32} {μ : am_Mu} {out : Int32 × am_Mu}, fTrace_walkBack_89 k36 a3 a4 a6 μ = some out → am_fr [(67, 999)] μ out.2 := by
  intro a3 a4 a6 μ out h
  unfold fTrace_walkBack_89 at h
  exact am_fr.trans am_fr.rf (w_fTrace_walkBack_109 hk36 h)
set_option maxRecDepth 20000 in
theorem w_fTrace_walkBack_36 : ∀ n : Nat, ∀ {a3 : Int32} {a4 : Int32} {a5 : Int32} {a6 : Int32} {μ : am_Mu} {out : Int32 × am_Mu}, fTrace_walkBack_36 n a3 a4 a5 a6 μ = some out → am_fr [(67, 999)] μ out.2 := by
  intro n
  induction n with
  | zero => intros; contradiction
  | succ n ih =>
    have hk36 : ∀ {a3 : Int32} {a4 : Int32} {a5 : Int32} {a6 : Int32} {μ : am_Mu} {out : Int32 × am_Mu}, (fTrace_walkBack_36 n) a3 a4 a5 a6 μ = some out → am_fr [(67, 999)] μ out.2 := ih
    intro a3 a4 a5 a6 μ out h
    unfold fTrace_walkBack_36 at h
    rcases am_ite h with ⟨q1, h⟩ | ⟨q1, h⟩
    · skip
      cases h
      exact am_fr.rf
    · skip
      rcases am_ite h with ⟨q2, h⟩ | ⟨q2, h⟩
      · skip
        cases h
        exact am_fr.rf
      · skip
        obtain ⟨q3, h_q3, h⟩ := am_bind h
        have w_q3 : am_fr [(67, 999)] μ q3.2 := am_fr.trans am_fr.rf (am_fr.mono (w_fTrace_isStep h_q3) rfl)
        rcases am_ite h with ⟨q4, h⟩ | ⟨q4, h⟩
        · skip
          cases h
          exact w_q3
        · skip
          obtain ⟨q5, h⟩ := am_bif h
          rcases am_ite h with ⟨q6, h⟩ | ⟨q6, h⟩
          · skip
            exact am_fr.trans (am_fr.up w_q3 rfl) (w_fTrace_walkBack_89 hk36 h)
          · skip
            obtain ⟨q7, h⟩ := am_bif h
            rcases am_ite h with ⟨q8, h⟩ | ⟨q8, h⟩
            · skip
              obtain ⟨q9, h_q9, h⟩ := am_bind h
              have w_q9 : am_fr [(67, 999)] μ q9.2 := am_fr.trans (am_fr.up w_q3 rfl) (am_fr.mono (w_fLedger_otherThing h_q9) rfl)
              exact am_fr.trans w_q9 (w_fTrace_walkBack_109 hk36 h)
            · skip
              exact am_fr.trans (am_fr.up w_q3 rfl) (w_fTrace_walkBack_89 hk36 h)
set_option maxRecDepth 20000 in
theorem w_fTrace_walkBack_27 : ∀ {a2 : Int32} {a3 : Int32} {μ : am_Mu} {out : Int32 × am_Mu}, fTrace_walkBack_27 a2 a3 μ = some out → am_fr [(67, 999)] μ out.2 := by
  intro a2 a3 μ out h
  unfold fTrace_walkBack_27 at h
  exact am_fr.trans am_fr.rf (w_fTrace_walkBack_36 am_F h)
set_option maxRecDepth 20000 in
theorem w_fTrace_walkBack : ∀ {a1 : Int32} {a2 : Int32} {μ : am_Mu} {out : Int32 × am_Mu}, fTrace_walkBack a1 a2 μ = some out → am_fr [(67, 999)] μ out.2 := by
  intro a1 a2 μ out h
  unfold fTrace_walkBack at h
  obtain ⟨q1, h⟩ := am_bif h
  rcases am_ite h with ⟨q2, h⟩ | ⟨q2, h⟩
  · skip
    exact am_fr.trans am_fr.rf (w_fTrace_walkBack_27 h)
  · skip
    obtain ⟨q3, h⟩ := am_bif h
    rcases am_ite h with ⟨q4, h⟩ | ⟨q4, h⟩
    · skip
      exact am_fr.trans am_fr.rf (w_fTrace_walkBack_27 h)
    · skip
      cases h
      exact am_fr.rf
set_option maxRecDepth 20000 in
theorem w_fTrace_cleansings_3 : ∀ n : Nat, ∀ {a1 : Int32} {a2 : Int32} {a3 : Int32} {a4 : Int32} {μ : am_Mu} {out : Int32 × am_Mu}, fTrace_cleansings_3 n a1 a2 a3 a4 μ = some out → am_fr [(53, 999), (54, 999), (55, 999), (56, 999), (59, 999), (60, 999), (61, 999), (63, 999), (64, 999), (65, 999), (69, 999), (70, 999), (71, 999), (73, 999), (74, 999), (75, 999)] μ out.2 := by
  intro n
  induction n with
  | zero => intros; contradiction
  | succ n ih =>
    have hk3 : ∀ {a1 : Int32} {a2 : Int32} {a3 : Int32} {a4 : Int32} {μ : am_Mu} {out : Int32 × am_Mu}, (fTrace_cleansings_3 n) a1 a2 a3 a4 μ = some out → am_fr [(53, 999), (54, 999), (55, 999), (56, 999), (59, 999), (60, 999), (61, 999), (63, 999), (64, 999), (65, 999), (69, 999), (70, 999), (71, 999), (73, 999), (74, 999), (75, 999)] μ out.2 := ih
    intro a1 a2 a3 a4 μ out h
    unfold fTrace_cleansings_3 at h
    rcases am_ite h with ⟨q1, h⟩ | ⟨q1, h⟩
    · skip
      cases h
      exact am_fr.rf
    · skip
      obtain ⟨q2, h_q2, h⟩ := am_bind h
      have w_q2 : am_fr [(53, 999), (54, 999), (55, 999), (56, 999), (59, 999), (60, 999), (61, 999), (63, 999), (64, 999), (65, 999), (69, 999), (70, 999), (71, 999), (73, 999), (74, 999), (75, 999)] μ q2.2 := am_fr.trans am_fr.rf (am_fr.mono (w_fTrace_otherwise h_q2) rfl)
      rcases am_ite h with ⟨q3, h⟩ | ⟨q3, h⟩
      · skip
        obtain ⟨q4, h_q4, h⟩ := am_bind h
        have w_q4 : am_fr [(53, 999), (54, 999), (55, 999), (56, 999), (59, 999), (60, 999), (61, 999), (63, 999), (64, 999), (65, 999), (69, 999), (70, 999), (71, 999), (73, 999), (74, 999), (75, 999)] μ q4 := am_fr.trans w_q2 (am_fr.mono (w_fJudge_cleanse h_q4) rfl)
        exact am_fr.trans w_q4 (hk3 h)
      · skip
        cases h
        exact w_q2
set_option maxRecDepth 20000 in
theorem w_fTrace_cleansings : ∀ {a1 : Int32} {a2 : Int32} {a3 : Int32} {μ : am_Mu} {out : Int32 × am_Mu}, fTrace_cleansings a1 a2 a3 μ = some out → am_fr [(53, 999), (54, 999), (55, 999), (56, 999), (59, 999), (60, 999), (61, 999), (63, 999), (64, 999), (65, 999), (69, 999), (70, 999), (71, 999), (73, 999), (74, 999), (75, 999)] μ out.2 := by
  intro a1 a2 a3 μ out h
  unfold fTrace_cleansings at h
  exact am_fr.trans am_fr.rf (w_fTrace_cleansings_3 am_F h)
set_option maxRecDepth 20000 in
theorem w_fVisitors_add : ∀ {a1 : Int32} {a2 : Int32} {μ : am_Mu} {out : Int32 × am_Mu}, fVisitors_add a1 a2 μ = some out → am_fr [(97, 4), (98, 999), (99, 999)] μ out.2 := by
  intro a1 a2 μ out h
  unfold fVisitors_add at h
  rcases am_ite h with ⟨q1, h⟩ | ⟨q1, h⟩
  · skip
    cases h
    exact am_fr.rf
  · skip
    obtain ⟨q2, h_q2, h⟩ := am_bind h
    have w_q2 : am_fr [(97, 4), (98, 999), (99, 999)] μ q2.2 := am_fr.trans am_fr.rf (am_fr.mono (w_fB_isIn h_q2) rfl)
    rcases am_ite h with ⟨q3, h⟩ | ⟨q3, h⟩
    · skip
      cases h
      exact w_q2
    · skip
      rcases am_ite h with ⟨q4, h⟩ | ⟨q4, h⟩
      · skip
        cases h
        exact w_q2
      · skip
        rcases am_ite h with ⟨q5, h⟩ | ⟨q5, h⟩
        · skip
          obtain ⟨q6, h⟩ := am_bif h
          cases h
          exact (am_fr.up (am_fr.up (am_fr.up w_q2 rfl) rfl) rfl)
        · skip
          cases h
          exact w_q2
set_option maxRecDepth 20000 in
theorem w_fVisitors_hear_37 : ∀ {a2 : Int32} {a3 : Int32} {a4 : Int32} {s1 : Int32} {s2 : Int32} {μ : am_Mu} {out : am_Mu}, fVisitors_hear_37 a2 a3 a4 s1 s2 μ = some out → am_fr [(100, 999), (101, 999)] μ out := by
  intro a2 a3 a4 s1 s2 μ out h
  unfold fVisitors_hear_37 at h
  obtain ⟨q1, h⟩ := am_bif h
  rcases am_ite h with ⟨q2, h⟩ | ⟨q2, h⟩
  · skip
    obtain ⟨q3, h⟩ := am_bif h
    cases h
    exact (am_fr.up (am_fr.up am_fr.rf rfl) rfl)
  · skip
    obtain ⟨q4, h⟩ := am_bif h
    cases h
    exact (am_fr.up (am_fr.up am_fr.rf rfl) rfl)
set_option maxRecDepth 20000 in
theorem w_fVisitors_hear : ∀ {a1 : Int32} {a2 : Int32} {a3 : Int32} {μ : am_Mu} {out : am_Mu}, fVisitors_hear a1 a2 a3 μ = some out → am_fr [(100, 999), (101, 999)] μ out := by
  intro a1 a2 a3 μ out h
  unfold fVisitors_hear at h
  rcases am_ite h with ⟨q1, h⟩ | ⟨q1, h⟩
  · skip
    obtain ⟨q2, h⟩ := am_bif h
    exact am_fr.trans am_fr.rf (w_fVisitors_hear_37 h)
  · skip
    obtain ⟨q3, h⟩ := am_bif h
    exact am_fr.trans am_fr.rf (w_fVisitors_hear_37 h)
set_option maxRecDepth 20000 in
theorem w_fVisitors_weightOf_4 : ∀ n : Nat, ∀ {a1 : Int32} {a2 : Int32} {a3 : Int32} {μ : am_Mu} {out : Int32 × am_Mu}, fVisitors_weightOf_4 n a1 a2 a3 μ = some out → am_fr [] μ out.2 := by
  intro n
  induction n with
  | zero => intros; contradiction
  | succ n ih =>
    have hk4 : ∀ {a1 : Int32} {a2 : Int32} {a3 : Int32} {μ : am_Mu} {out : Int32 × am_Mu}, (fVisitors_weightOf_4 n) a1 a2 a3 μ = some out → am_fr [] μ out.2 := ih
    intro a1 a2 a3 μ out h
    unfold fVisitors_weightOf_4 at h
    rcases am_ite h with ⟨q1, h⟩ | ⟨q1, h⟩
    · skip
      cases h
      exact am_fr.rf
    · skip
      obtain ⟨q2, h⟩ := am_bif h
      exact am_fr.trans am_fr.rf (hk4 h)
set_option maxRecDepth 20000 in
theorem w_fVisitors_weightOf : ∀ {a1 : Int32} {μ : am_Mu} {out : Int32 × am_Mu}, fVisitors_weightOf a1 μ = some out → am_fr [] μ out.2 := by
  intro a1 μ out h
  unfold fVisitors_weightOf at h
  exact am_fr.trans am_fr.rf (w_fVisitors_weightOf_4 am_F h)
set_option maxRecDepth 20000 in
theorem w_fVisitors_belief : ∀ {a1 : Int32} {μ : am_Mu} {out : Int32 × am_Mu}, fVisitors_belief a1 μ = some out → am_fr [] μ out.2 := by
  intro a1 μ out h
  unfold fVisitors_belief at h
  obtain ⟨q1, h⟩ := am_bif h
  obtain ⟨q2, h_q2, h⟩ := am_bind h
  have w_q2 : am_fr [] μ q2.2 := am_fr.trans am_fr.rf (am_fr.mono (w_fVisitors_weightOf h_q2) rfl)
  obtain ⟨q3, h_q3, h⟩ := am_bind h
  have w_q3 : am_fr [] μ q3.2 := am_fr.trans w_q2 (am_fr.mono (w_fVisitors_weightOf h_q3) rfl)
  rcases am_ite h with ⟨q4, h⟩ | ⟨q4, h⟩
  · skip
    rcases am_ite h with ⟨q5, h⟩ | ⟨q5, h⟩
    · skip
      cases h
      exact w_q3
    · skip
      cases h
      exact w_q3
  · skip
    cases h
    exact w_q3
set_option maxRecDepth 20000 in
theorem w_fVisits_reseed : ∀ {a1 : Int32} {a2 : Int32} {μ : am_Mu} {out : Int32 × am_Mu}, fVisits_reseed a1 a2 μ = some out → am_fr [(102, 8), (102, 9)] μ out.2 := by
  intro a1 a2 μ out h
  unfold fVisits_reseed at h
  rcases am_ite h with ⟨q1, h⟩ | ⟨q1, h⟩
  · skip
    cases h
    exact am_fr.rf
  · skip
    rcases am_ite h with ⟨q2, h⟩ | ⟨q2, h⟩
    · skip
      cases h
      exact am_fr.rf
    · skip
      rcases am_ite h with ⟨q3, h⟩ | ⟨q3, h⟩
      · skip
        cases h
        exact (am_fr.up (am_fr.up am_fr.rf rfl) rfl)
      · skip
        cases h
        exact am_fr.rf
set_option maxRecDepth 20000 in
theorem w_fVisits_fillChoices_159 {k5 : Int32 → Int32 → Int32 → Int32 → am_Mu → Option (Int32 × am_Mu)} (hk5 : ∀ {a1 : Int32} {a2 : Int32} {a3 : Int32} {a4 : Int32} {μ : am_Mu} {out : Int32 × am_Mu}, k5 a1 a2 a3 a4 μ = some out → am_fr [(107, 999)] μ out.2) : ∀ {a1 : Int32} {a2 : Int32} {a3 : Int32} {a4 : Int32} {μ : am_Mu} {out : Int32 × am_Mu}, fVisits_fillChoices_159 k5 a1 a2 a3 a4 μ = some out → am_fr [(107, 999)] μ out.2 := by
  intro a1 a2 a3 a4 μ out h
  unfold fVisits_fillChoices_159 at h
  exact am_fr.trans am_fr.rf (hk5 h)
set_option maxRecDepth 20000 in
theorem w_fVisits_fillChoices_153 {k5 : Int32 → Int32 → Int32 → Int32 → am_Mu → Option (Int32 × am_Mu)} {k89 : Int32 → Int32 → Int32 → Int32 → Int32 → am_Mu → Option (Int32 × am_Mu)} (hk5 : ∀ {a1 : Int32} {a2 : Int32} {a3 : Int32} {a4 : Int32} {μ : am_Mu} {out : Int32 × am_Mu}, k5 a1 a2 a3 a4 μ = some out → am_fr [(107, 999)] μ out.2) (hk89 : ∀ {a1 : Int32} {a2 : Int32} {a3 : Int32} {a4 : Int32} {a7 : Int32} {μ : am_Mu} {out : Int32 × am_Mu}, k89 a1 a2 a3 a4 a7 μ = some out → am_fr [(107, 999)] μ out.2) : ∀ {a1 : Int32} {a2 : Int32} {a3 : Int32} {a4 : Int32} {a7 : Int32} {μ : am_Mu} {out : Int32 × am_Mu}, fVisits_fillChoices_153 k5 k89 a1 a2 a3 a4 a7 μ = some out → am_fr [(107, 999)] μ out.2 := by
  intro a1 a2 a3 a4 a7 μ out h
  unfold fVisits_fillChoices_153 at h
  exact am_fr.trans am_fr.rf (hk89 h)
set_option maxRecDepth 20000 in
theorem w_fVisits_fillChoices_89 {k5 : Int32 → Int32 → Int32 → Int32 → am_Mu → Option (Int32 × am_Mu)} (hk5 : ∀ {a1 : Int32} {a2 : Int32} {a3 : Int32} {a4 : Int32} {μ : am_Mu} {out : Int32 × am_Mu}, k5 a1 a2 a3 a4 μ = some out → am_fr [(107, 999)] μ out.2) : ∀ n : Nat, ∀ {a1 : Int32} {a2 : Int32} {a3 : Int32} {a4 : Int32} {a7 : Int32} {μ : am_Mu} {out : Int32 × am_Mu}, fVisits_fillChoices_89 n k5 a1 a2 a3 a4 a7 μ = some out → am_fr [(107, 999)] μ out.2 := by
  intro n
  induction n with
  | zero => intros; contradiction
  | succ n ih =>
    have hk89 : ∀ {a1 : Int32} {a2 : Int32} {a3 : Int32} {a4 : Int32} {a7 : Int32} {μ : am_Mu} {out : Int32 × am_Mu}, (fVisits_fillChoices_89 n k5) a1 a2 a3 a4 a7 μ = some out → am_fr [(107, 999)] μ out.2 := ih
    intro a1 a2 a3 a4 a7 μ out h
    unfold fVisits_fillChoices_89 at h
    rcases am_ite h with ⟨q1, h⟩ | ⟨q1, h⟩
    · skip
      exact am_fr.trans am_fr.rf (w_fVisits_fillChoices_159 hk5 h)
    · skip
      obtain ⟨q2, h⟩ := am_bif h
      obtain ⟨q3, h⟩ := am_bif h
      rcases am_ite h with ⟨q4, h⟩ | ⟨q4, h⟩
      · skip
        exact am_fr.trans am_fr.rf (w_fVisits_fillChoices_153 hk5 hk89 h)
      · skip
        rcases am_ite h with ⟨q5, h⟩ | ⟨q5, h⟩
        · skip
          exact am_fr.trans am_fr.rf (w_fVisits_fillChoices_153 hk5 hk89 h)
        · skip
          obtain ⟨q6, h⟩ := am_bif h
          exact am_fr.trans (am_fr.up am_fr.rf rfl) (w_fVisits_fillChoices_153 hk5 hk89 h)
set_option maxRecDepth 20000 in
theorem w_fVisits_fillChoices_86 {k5 : Int32 → Int32 → Int32 → Int32 → am_Mu → Option (Int32 × am_Mu)} (hk5 : ∀ {a1 : Int32} {a2 : Int32} {a3 : Int32} {a4 : Int32} {μ : am_Mu} {out : Int32 × am_Mu}, k5 a1 a2 a3 a4 μ = some out → am_fr [(107, 999)] μ out.2) : ∀ {a1 : Int32} {a2 : Int32} {a3 : Int32} {a4 : Int32} {μ : am_Mu} {out : Int32 × am_Mu}, fVisits_fillChoices_86 k5 a1 a2 a3 a4 μ = some out → am_fr [(107, 999)] μ out.2 := by
  intro a1 a2 a3 a4 μ out h
  unfold fVisits_fillChoices_86 at h
  exact am_fr.trans am_fr.rf (w_fVisits_fillChoices_89 hk5 am_F h)
set_option maxRecDepth 20000 in
theorem w_fVisits_fillChoices_67 {k5 : Int32 → Int32 → Int32 → Int32 → am_Mu → Option (Int32 × am_Mu)} (hk5 : ∀ {a1 : Int32} {a2 : Int32} {a3 : Int32} {a4 : Int32} {μ : am_Mu} {out : Int32 × am_Mu}, k5 a1 a2 a3 a4 μ = some out → am_fr [(107, 999)] μ out.2) : ∀ {a1 : Int32} {a2 : Int32} {a3 : Int32} {a4 : Int32} {a5 : Int32} {s0 : Int32} {μ : am_Mu} {out : Int32 × am_Mu}, fVisits_fillChoices_67 k5 a1 a2 a3 a4 a5 s0 μ = some out → am_fr [(107, 999)] μ out.2 := by
  intro a1 a2 a3 a4 a5 s0 μ out h
  unfold fVisits_fillChoices_67 at h
  rcases am_ite h with ⟨q1, h⟩ | ⟨q1, h⟩
  · skip
    exact am_fr.trans am_fr.rf (w_fVisits_fillChoices_159 hk5 h)
  · skip
    rcases am_ite h with ⟨q2, h⟩ | ⟨q2, h⟩
    · skip
      exact am_fr.trans am_fr.rf (w_fVisits_fillChoices_86 hk5 h)
    · skip
      rcases am_ite h with ⟨q3, h⟩ | ⟨q3, h⟩
      · skip
        exact am_fr.trans am_fr.rf (w_fVisits_fillChoices_86 hk5 h)
      · skip
        exact am_fr.trans am_fr.rf (w_fVisits_fillChoices_159 hk5 h)
set_option maxRecDepth 20000 in
theorem w_fVisits_fillChoices_44 {k5 : Int32 → Int32 → Int32 → Int32 → am_Mu → Option (Int32 × am_Mu)} (hk5 : ∀ {a1 : Int32} {a2 : Int32} {a3 : Int32} {a4 : Int32} {μ : am_Mu} {out : Int32 × am_Mu}, k5 a1 a2 a3 a4 μ = some out → am_fr [(107, 999)] μ out.2) : ∀ {a1 : Int32} {a2 : Int32} {a3 : Int32} {a4 : Int32} {s0 : Int32} {μ : am_Mu} {out : Int32 × am_Mu}, fVisits_fillChoices_44 k5 a1 a2 a3 a4 s0 μ = some out → am_fr [(107, 999)] μ out.2 := by
  intro a1 a2 a3 a4 s0 μ out h
  unfold fVisits_fillChoices_44 at h
  obtain ⟨q1, h⟩ := am_bif h
  rcases am_ite h with ⟨q2, h⟩ | ⟨q2, h⟩
  · skip
    exact am_fr.trans am_fr.rf (w_fVisits_fillChoices_67 hk5 h)
  · skip
    exact am_fr.trans am_fr.rf (w_fVisits_fillChoices_67 hk5 h)
set_option maxRecDepth 20000 in
theorem w_fVisits_fillChoices_43 {k5 : Int32 → Int32 → Int32 → Int32 → am_Mu → Option (Int32 × am_Mu)} (hk5 : ∀ {a1 : Int32} {a2 : Int32} {a3 : Int32} {a4 : Int32} {μ : am_Mu} {out : Int32 × am_Mu}, k5 a1 a2 a3 a4 μ = some out → am_fr [(107, 999)] μ out.2) : ∀ {a1 : Int32} {a2 : Int32} {a3 : Int32} {a4 : Int32} {μ : am_Mu} {out : Int32 × am_Mu}, fVisits_fillChoices_43 k5 a1 a2 a3 a4 μ = some out → am_fr [(107, 999)] μ out.2 := by
  intro a1 a2 a3 a4 μ out h
  unfold fVisits_fillChoices_43 at h
  exact am_fr.trans am_fr.rf (w_fVisits_fillChoices_44 hk5 h)
set_option maxRecDepth 20000 in
theorem w_fVisits_fillChoices_5 : ∀ n : Nat, ∀ {a1 : Int32} {a2 : Int32} {a3 : Int32} {a4 : Int32} {μ : am_Mu} {out : Int32 × am_Mu}, fVisits_fillChoices_5 n a1 a2 a3 a4 μ = some out → am_fr [(107, 999)] μ out.2 := by
  intro n
  induction n with
  | zero => intros; contradiction
  | succ n ih =>
    have hk5 : ∀ {a1 : Int32} {a2 : Int32} {a3 : Int32} {a4 : Int32} {μ : am_Mu} {out : Int32 × am_Mu}, (fVisits_fillChoices_5 n) a1 a2 a3 a4 μ = some out → am_fr [(107, 999)] μ out.2 := ih
    intro a1 a2 a3 a4 μ out h
    unfold fVisits_fillChoices_5 at h
    rcases am_ite h with ⟨q1, h⟩ | ⟨q1, h⟩
    · skip
      cases h
      exact am_fr.rf
    · skip
      obtain ⟨q2, h⟩ := am_bif h
      rcases am_ite h with ⟨q3, h⟩ | ⟨q3, h⟩
      · skip
        exact am_fr.trans am_fr.rf (w_fVisits_fillChoices_43 hk5 h)
      · skip
        rcases am_ite h with ⟨q4, h⟩ | ⟨q4, h⟩
        · skip
          exact am_fr.trans am_fr.rf (w_fVisits_fillChoices_43 hk5 h)
        · skip
          exact am_fr.trans am_fr.rf (w_fVisits_fillChoices_44 hk5 h)
set_option maxRecDepth 20000 in
theorem w_fVisits_fillChoices : ∀ {a1 : Int32} {a2 : Int32} {μ : am_Mu} {out : Int32 × am_Mu}, fVisits_fillChoices a1 a2 μ = some out → am_fr [(107, 999)] μ out.2 := by
  intro a1 a2 μ out h
  unfold fVisits_fillChoices at h
  exact am_fr.trans am_fr.rf (w_fVisits_fillChoices_5 am_F h)
set_option maxRecDepth 20000 in
theorem w_fVisits_fillRow : ∀ {a1 : Int32} {μ : am_Mu} {out : Int32 × am_Mu}, fVisits_fillRow a1 μ = some out → am_fr [(107, 999)] μ out.2 := by
  intro a1 μ out h
  unfold fVisits_fillRow at h
  obtain ⟨q1, h_q1, h⟩ := am_bind h
  have w_q1 : am_fr [(107, 999)] μ q1.2 := am_fr.trans am_fr.rf (am_fr.mono (w_fVisits_fillChoices h_q1) rfl)
  rcases am_ite h with ⟨q2, h⟩ | ⟨q2, h⟩
  · skip
    obtain ⟨q3, h_q3, h⟩ := am_bind h
    have w_q3 : am_fr [(107, 999)] μ q3.2 := am_fr.trans w_q1 (am_fr.mono (w_fVisits_fillChoices h_q3) rfl)
    cases h
    exact w_q3
  · skip
    cases h
    exact w_q1
set_option maxRecDepth 20000 in
theorem w_fVisits_drawOne : ∀ {a1 : Int32} {μ : am_Mu} {out : Int32 × am_Mu}, fVisits_drawOne a1 μ = some out → am_fr [(102, 7), (102, 8), (103, 999), (104, 999), (105, 999), (106, 999), (107, 999)] μ out.2 := by
  intro a1 μ out h
  unfold fVisits_drawOne at h
  rcases am_ite h with ⟨q1, h⟩ | ⟨q1, h⟩
  · skip
    obtain ⟨q2, h_q2, h⟩ := am_bind h
    have w_q2 : am_fr [(102, 7), (102, 8), (103, 999), (104, 999), (105, 999), (106, 999), (107, 999)] μ q2.2 := am_fr.trans am_fr.rf (am_fr.mono (w_fVisits_fillRow h_q2) rfl)
    rcases am_ite h with ⟨q3, h⟩ | ⟨q3, h⟩
    · skip
      obtain ⟨q4, h⟩ := am_ifn h
      obtain ⟨q5, h⟩ := am_bif h
      obtain ⟨q6, h⟩ := am_bif h
      obtain ⟨q7, h⟩ := am_bif h
      cases h
      exact (am_fr.up (am_fr.up (am_fr.up (am_fr.up (am_fr.up (am_fr.up w_q2 rfl) rfl) rfl) rfl) rfl) rfl)
    · skip
      cases h
      exact w_q2
  · skip
    cases h
    exact am_fr.rf
set_option maxRecDepth 20000 in
theorem w_fVisits_kitchenOf : ∀ {a1 : Int32} {μ : am_Mu} {out : Int32 × am_Mu}, fVisits_kitchenOf a1 μ = some out → am_fr [] μ out.2 := by
  intro a1 μ out h
  unfold fVisits_kitchenOf at h
  obtain ⟨q1, h⟩ := am_bif h
  cases h
  exact am_fr.rf
set_option maxRecDepth 20000 in
theorem w_fVisits_visitorOf : ∀ {a1 : Int32} {μ : am_Mu} {out : Int32 × am_Mu}, fVisits_visitorOf a1 μ = some out → am_fr [] μ out.2 := by
  intro a1 μ out h
  unfold fVisits_visitorOf at h
  obtain ⟨q1, h⟩ := am_bif h
  cases h
  exact am_fr.rf
set_option maxRecDepth 20000 in
theorem w_fVisits_kitchensOn_46 {k5 : Int32 → Int32 → Int32 → Int32 → am_Mu → Option (Int32 × am_Mu)} (hk5 : ∀ {a1 : Int32} {a2 : Int32} {a3 : Int32} {a4 : Int32} {μ : am_Mu} {out : Int32 × am_Mu}, k5 a1 a2 a3 a4 μ = some out → am_fr [] μ out.2) : ∀ {a1 : Int32} {a2 : Int32} {a3 : Int32} {a4 : Int32} {μ : am_Mu} {out : Int32 × am_Mu}, fVisits_kitchensOn_46 k5 a1 a2 a3 a4 μ = some out → am_fr [] μ out.2 := by
  intro a1 a2 a3 a4 μ out h
  unfold fVisits_kitchensOn_46 at h
  exact am_fr.trans am_fr.rf (hk5 h)
set_option maxRecDepth 20000 in
theorem w_fVisits_kitchensOn_5 : ∀ n : Nat, ∀ {a1 : Int32} {a2 : Int32} {a3 : Int32} {a4 : Int32} {μ : am_Mu} {out : Int32 × am_Mu}, fVisits_kitchensOn_5 n a1 a2 a3 a4 μ = some out → am_fr [] μ out.2 := by
  intro n
  induction n with
  | zero => intros; contradiction
  | succ n ih =>
    have hk5 : ∀ {a1 : Int32} {a2 : Int32} {a3 : Int32} {a4 : Int32} {μ : am_Mu} {out : Int32 × am_Mu}, (fVisits_kitchensOn_5 n) a1 a2 a3 a4 μ = some out → am_fr [] μ out.2 := ih
    intro a1 a2 a3 a4 μ out h
    unfold fVisits_kitchensOn_5 at h
    rcases am_ite h with ⟨q1, h⟩ | ⟨q1, h⟩
    · skip
      cases h
      exact am_fr.rf
    · skip
      obtain ⟨q2, h⟩ := am_bif h
      rcases am_ite h with ⟨q3, h⟩ | ⟨q3, h⟩
      · skip
        exact am_fr.trans am_fr.rf (w_fVisits_kitchensOn_46 hk5 h)
      · skip
        obtain ⟨q4, h_q4, h⟩ := am_bind h
        have w_q4 : am_fr [] μ q4.2 := am_fr.trans am_fr.rf (am_fr.mono (w_fVisits_visitorOf h_q4) rfl)
        rcases am_ite h with ⟨q5, h⟩ | ⟨q5, h⟩
        · skip
          exact am_fr.trans w_q4 (w_fVisits_kitchensOn_46 hk5 h)
        · skip
          obtain ⟨q6, h_q6, h⟩ := am_bind h
          have w_q6 : am_fr [] μ q6.2 := am_fr.trans w_q4 (am_fr.mono (w_fVisits_kitchenOf h_q6) rfl)
          exact am_fr.trans w_q6 (w_fVisits_kitchensOn_46 hk5 h)
set_option maxRecDepth 20000 in
theorem w_fVisits_kitchensOn : ∀ {a1 : Int32} {a2 : Int32} {μ : am_Mu} {out : Int32 × am_Mu}, fVisits_kitchensOn a1 a2 μ = some out → am_fr [] μ out.2 := by
  intro a1 a2 μ out h
  unfold fVisits_kitchensOn at h
  exact am_fr.trans am_fr.rf (w_fVisits_kitchensOn_5 am_F h)
set_option maxRecDepth 20000 in
theorem w_fB_isMinute : ∀ {a0 : Int32} {μ : am_Mu} {out : Int32 × am_Mu}, fB_isMinute a0 μ = some out → am_fr [] μ out.2 := by
  intro a0 μ out h
  unfold fB_isMinute at h
  obtain ⟨q1, h_q1, h⟩ := am_bind h
  have w_q1 : am_fr [] μ q1.2 := am_fr.trans am_fr.rf (am_fr.mono (w_fB_isIn h_q1) rfl)
  obtain ⟨q2, h⟩ := am_ifp h
  cases h
  exact w_q1
set_option maxRecDepth 20000 in
theorem w_fB_now : ∀ {a1 : Int32} {μ : am_Mu} {out : Int32 × am_Mu}, fB_now a1 μ = some out → am_fr [(0, 11)] μ out.2 := by
  intro a1 μ out h
  unfold fB_now at h
  obtain ⟨q1, h_q1, h⟩ := am_bind h
  have w_q1 : am_fr [(0, 11)] μ q1.2 := am_fr.trans am_fr.rf (am_fr.mono (w_fB_isMinute h_q1) rfl)
  rcases am_ite h with ⟨q2, h⟩ | ⟨q2, h⟩
  · skip
    cases h
    exact w_q1
  · skip
    rcases am_ite h with ⟨q3, h⟩ | ⟨q3, h⟩
    · skip
      cases h
      exact (am_fr.up w_q1 rfl)
    · skip
      cases h
      exact w_q1
set_option maxRecDepth 20000 in
theorem w_fB_feast : ∀ {a1 : Int32} {a2 : Int32} {a3 : Int32} {μ : am_Mu} {out : Int32 × am_Mu}, fB_feast a1 a2 a3 μ = some out → am_fr [(1, 3), (2, 999), (3, 999), (4, 999)] μ out.2 := by
  intro a1 a2 a3 μ out h
  unfold fB_feast at h
  obtain ⟨q1, h_q1, h⟩ := am_bind h
  have w_q1 : am_fr [(1, 3), (2, 999), (3, 999), (4, 999)] μ q1.2 := am_fr.trans am_fr.rf (am_fr.mono (w_fFeasts_tell h_q1) rfl)
  obtain ⟨q2, h⟩ := am_ifp h
  cases h
  exact w_q1
set_option maxRecDepth 20000 in
theorem w_fB_isFeast : ∀ {a1 : Int32} {μ : am_Mu} {out : Int32 × am_Mu}, fB_isFeast a1 μ = some out → am_fr [] μ out.2 := by
  intro a1 μ out h
  unfold fB_isFeast at h
  obtain ⟨q1, h_q1, h⟩ := am_bind h
  have w_q1 : am_fr [] μ q1.2 := am_fr.trans am_fr.rf (am_fr.mono (w_fB_isIn h_q1) rfl)
  rcases am_ite h with ⟨q2, h⟩ | ⟨q2, h⟩
  · skip
    obtain ⟨q3, h_q3, h⟩ := am_bind h
    have w_q3 : am_fr [] μ q3.2 := am_fr.trans w_q1 (am_fr.mono (w_fFeasts_has h_q3) rfl)
    rcases am_ite h with ⟨q4, h⟩ | ⟨q4, h⟩
    · skip
      cases h
      exact w_q3
    · skip
      cases h
      exact w_q3
  · skip
    cases h
    exact w_q1
set_option maxRecDepth 20000 in
theorem w_fB_moon : ∀ {a1 : Int32} {a2 : Int32} {μ : am_Mu} {out : Int32 × am_Mu}, fB_moon a1 a2 μ = some out → am_fr [] μ out.2 := by
  intro a1 a2 μ out h
  unfold fB_moon at h
  obtain ⟨q1, h_q1, h⟩ := am_bind h
  have w_q1 : am_fr [] μ q1.2 := am_fr.trans am_fr.rf (am_fr.mono (w_fB_isIn h_q1) rfl)
  rcases am_ite h with ⟨q2, h⟩ | ⟨q2, h⟩
  · skip
    obtain ⟨q3, h_q3, h⟩ := am_bind h
    have w_q3 : am_fr [] μ q3.2 := am_fr.trans w_q1 (am_fr.mono (w_fFeasts_monthOf h_q3) rfl)
    rcases am_ite h with ⟨q4, h⟩ | ⟨q4, h⟩
    · skip
      cases h
      exact w_q3
    rcases am_ite h with ⟨q5, h⟩ | ⟨q5, h⟩
    · skip
      cases h
      exact w_q3
    rcases am_ite h with ⟨q6, h⟩ | ⟨q6, h⟩
    · skip
      obtain ⟨q7, h_q7, h⟩ := am_bind h
      have w_q7 : am_fr [] μ q7.2 := am_fr.trans w_q3 (am_fr.mono (w_fFeasts_beginOf h_q7) rfl)
      cases h
      exact w_q7
    cases h
    exact w_q3
  · skip
    cases h
    exact w_q1
set_option maxRecDepth 20000 in
theorem w_fB_feed : ∀ {a1 : Int32} {a2 : Int32} {a3 : Int32} {a4 : Int32} {a5 : Int32} {μ : am_Mu} {out : Int32 × am_Mu}, fB_feed a1 a2 a3 a4 a5 μ = some out → am_fr [(5, 2), (6, 999)] μ out.2 := by
  intro a1 a2 a3 a4 a5 μ out h
  unfold fB_feed at h
  obtain ⟨q1, h_q1, h⟩ := am_bind h
  have w_q1 : am_fr [(5, 2), (6, 999)] μ q1.2 := am_fr.trans am_fr.rf (am_fr.mono (w_fLawReader_append h_q1) rfl)
  cases h
  exact w_q1
set_option maxRecDepth 20000 in
theorem w_fB_law : ∀ {a1 : Int32} {a2 : Int32} {a3 : Int32} {μ : am_Mu} {out : Int32 × am_Mu}, fB_law a1 a2 a3 μ = some out → am_fr [(10, 999), (11, 999), (12, 999), (28, 5), (28, 6), (28, 7), (29, 999), (30, 999), (31, 999), (32, 999), (33, 999), (34, 5), (34, 6), (34, 7), (35, 999), (36, 999), (37, 999), (38, 999), (39, 999), (40, 5), (40, 6), (40, 7), (41, 999), (42, 999), (43, 999), (44, 999), (45, 999), (46, 5), (46, 6), (46, 7), (47, 999), (48, 999), (49, 999), (5, 2), (5, 3), (5, 4), (5, 5), (5, 6), (50, 999), (51, 999), (7, 5), (7, 6), (7, 7), (8, 999), (9, 999)] μ out.2 := by
  intro a1 a2 a3 μ out h
  unfold fB_law at h
  obtain ⟨q1, h_q1, h⟩ := am_bind h
  have w_q1 : am_fr [(10, 999), (11, 999), (12, 999), (28, 5), (28, 6), (28, 7), (29, 999), (30, 999), (31, 999), (32, 999), (33, 999), (34, 5), (34, 6), (34, 7), (35, 999), (36, 999), (37, 999), (38, 999), (39, 999), (40, 5), (40, 6), (40, 7), (41, 999), (42, 999), (43, 999), (44, 999), (45, 999), (46, 5), (46, 6), (46, 7), (47, 999), (48, 999), (49, 999), (5, 2), (5, 3), (5, 4), (5, 5), (5, 6), (50, 999), (51, 999), (7, 5), (7, 6), (7, 7), (8, 999), (9, 999)] μ q1.2 := am_fr.trans am_fr.rf (am_fr.mono (w_fB_isIn h_q1) rfl)
  rcases am_ite h with ⟨q2, h⟩ | ⟨q2, h⟩
  · skip
    cases h
    exact w_q1
  · skip
    rcases am_ite h with ⟨q3, h⟩ | ⟨q3, h⟩
    · skip
      cases h
      exact w_q1
    · skip
      rcases am_ite h with ⟨q4, h⟩ | ⟨q4, h⟩
      · skip
        obtain ⟨q5, h_q5, h⟩ := am_bind h
        have w_q5 : am_fr [(10, 999), (11, 999), (12, 999), (28, 5), (28, 6), (28, 7), (29, 999), (30, 999), (31, 999), (32, 999), (33, 999), (34, 5), (34, 6), (34, 7), (35, 999), (36, 999), (37, 999), (38, 999), (39, 999), (40, 5), (40, 6), (40, 7), (41, 999), (42, 999), (43, 999), (44, 999), (45, 999), (46, 5), (46, 6), (46, 7), (47, 999), (48, 999), (49, 999), (5, 2), (5, 3), (5, 4), (5, 5), (5, 6), (50, 999), (51, 999), (7, 5), (7, 6), (7, 7), (8, 999), (9, 999)] μ q5.2 := am_fr.trans w_q1 (am_fr.mono (w_fLawReader_readTape h_q5) rfl)
        rcases am_ite h with ⟨q6, h⟩ | ⟨q6, h⟩
        · skip
          cases h
          exact w_q5
        · skip
          obtain ⟨q7, h_q7, h⟩ := am_bind h
          have w_q7 : am_fr [(10, 999), (11, 999), (12, 999), (28, 5), (28, 6), (28, 7), (29, 999), (30, 999), (31, 999), (32, 999), (33, 999), (34, 5), (34, 6), (34, 7), (35, 999), (36, 999), (37, 999), (38, 999), (39, 999), (40, 5), (40, 6), (40, 7), (41, 999), (42, 999), (43, 999), (44, 999), (45, 999), (46, 5), (46, 6), (46, 7), (47, 999), (48, 999), (49, 999), (5, 2), (5, 3), (5, 4), (5, 5), (5, 6), (50, 999), (51, 999), (7, 5), (7, 6), (7, 7), (8, 999), (9, 999)] μ q7.2 := am_fr.trans w_q5 (am_fr.mono (w_fJudge_lawOf h_q7) rfl)
          obtain ⟨g_q7_1, h⟩ := am_bif h
          obtain ⟨q8, h_q8, h⟩ := am_bind h
          have w_q8 : am_fr [(10, 999), (11, 999), (12, 999), (28, 5), (28, 6), (28, 7), (29, 999), (30, 999), (31, 999), (32, 999), (33, 999), (34, 5), (34, 6), (34, 7), (35, 999), (36, 999), (37, 999), (38, 999), (39, 999), (40, 5), (40, 6), (40, 7), (41, 999), (42, 999), (43, 999), (44, 999), (45, 999), (46, 5), (46, 6), (46, 7), (47, 999), (48, 999), (49, 999), (5, 2), (5, 3), (5, 4), (5, 5), (5, 6), (50, 999), (51, 999), (7, 5), (7, 6), (7, 7), (8, 999), (9, 999)] μ q8 := am_fr.trans w_q7 (by rcases am_isLaw_cases g_q7_1 with e | e | e | e | e <;> (have w9 := w_fLaw_become h_q8; rw [e] at w9; exact am_fr.mono w9 rfl))
          cases h
          exact w_q8
      · skip
        cases h
        exact w_q1
set_option maxRecDepth 20000 in
theorem w_fB_rules : ∀ {a1 : Int32} {a2 : Int32} {μ : am_Mu} {out : Int32 × am_Mu}, fB_rules a1 a2 μ = some out → am_fr [] μ out.2 := by
  intro a1 a2 μ out h
  unfold fB_rules at h
  obtain ⟨q1, h_q1, h⟩ := am_bind h
  have w_q1 : am_fr [] μ q1.2 := am_fr.trans am_fr.rf (am_fr.mono (w_fB_isIn h_q1) rfl)
  rcases am_ite h with ⟨q2, h⟩ | ⟨q2, h⟩
  · skip
    obtain ⟨q3, h_q3, h⟩ := am_bind h
    have w_q3 : am_fr [] μ q3.2 := am_fr.trans w_q1 (am_fr.mono (w_fJudge_lawOf h_q3) rfl)
    obtain ⟨g_q3_1, h⟩ := am_bif h
    cases h
    exact w_q3
  · skip
    cases h
    exact w_q1
set_option maxRecDepth 20000 in
theorem w_fB_thing : ∀ {a1 : Int32} {μ : am_Mu} {out : Int32 × am_Mu}, fB_thing a1 μ = some out → am_fr [(13, 14), (14, 999)] μ out.2 := by
  intro a1 μ out h
  unfold fB_thing at h
  obtain ⟨q1, h_q1, h⟩ := am_bind h
  have w_q1 : am_fr [(13, 14), (14, 999)] μ q1.2 := am_fr.trans am_fr.rf (am_fr.mono (w_fLedger_addThing h_q1) rfl)
  cases h
  exact w_q1
set_option maxRecDepth 20000 in
theorem w_fB_isTold_19 : ∀ {μ : am_Mu} {out : Int32 × am_Mu}, fB_isTold_19 μ = some out → am_fr [] μ out.2 := by
  intro μ out h
  unfold fB_isTold_19 at h
  cases h
  exact am_fr.rf
set_option maxRecDepth 20000 in
theorem w_fB_isTold : ∀ {a1 : Int32} {μ : am_Mu} {out : Int32 × am_Mu}, fB_isTold a1 μ = some out → am_fr [] μ out.2 := by
  intro a1 μ out h
  unfold fB_isTold at h
  obtain ⟨q1, h_q1, h⟩ := am_bind h
  have w_q1 : am_fr [] μ q1.2 := am_fr.trans am_fr.rf (am_fr.mono (w_fB_isMinute h_q1) rfl)
  rcases am_ite h with ⟨q2, h⟩ | ⟨q2, h⟩
  · skip
    exact am_fr.trans w_q1 (w_fB_isTold_19 h)
  · skip
    rcases am_ite h with ⟨q3, h⟩ | ⟨q3, h⟩
    · skip
      exact am_fr.trans w_q1 (w_fB_isTold_19 h)
    · skip
      cases h
      exact w_q1
set_option maxRecDepth 20000 in
theorem w_fB_act : ∀ {a1 : Int32} {a2 : Int32} {a3 : Int32} {a4 : Int32} {a5 : Int32} {μ : am_Mu} {out : Int32 × am_Mu}, fB_act a1 a2 a3 a4 a5 μ = some out → am_fr [(13, 13), (13, 15), (15, 999), (16, 999), (17, 999), (18, 999), (19, 999), (20, 999), (21, 999), (26, 999)] μ out.2 := by
  intro a1 a2 a3 a4 a5 μ out h
  unfold fB_act at h
  obtain ⟨q1, h_q1, h⟩ := am_bind h
  have w_q1 : am_fr [(13, 13), (13, 15), (15, 999), (16, 999), (17, 999), (18, 999), (19, 999), (20, 999), (21, 999), (26, 999)] μ q1.2 := am_fr.trans am_fr.rf (am_fr.mono (w_fB_isTold h_q1) rfl)
  rcases am_ite h with ⟨q2, h⟩ | ⟨q2, h⟩
  · skip
    obtain ⟨q3, h_q3, h⟩ := am_bind h
    have w_q3 : am_fr [(13, 13), (13, 15), (15, 999), (16, 999), (17, 999), (18, 999), (19, 999), (20, 999), (21, 999), (26, 999)] μ q3.2 := am_fr.trans w_q1 (am_fr.mono (w_fLedger_addAct h_q3) rfl)
    cases h
    exact w_q3
  · skip
    cases h
    exact w_q1
set_option maxRecDepth 20000 in
theorem w_fB_strike : ∀ {a1 : Int32} {μ : am_Mu} {out : Int32 × am_Mu}, fB_strike a1 μ = some out → am_fr [(21, 999)] μ out.2 := by
  intro a1 μ out h
  unfold fB_strike at h
  obtain ⟨q1, h_q1, h⟩ := am_bind h
  have w_q1 : am_fr [(21, 999)] μ q1.2 := am_fr.trans am_fr.rf (am_fr.mono (w_fLedger_strikeAct h_q1) rfl)
  obtain ⟨q2, h⟩ := am_ifp h
  cases h
  exact w_q1
set_option maxRecDepth 20000 in
theorem w_fB_mistake : ∀ {a1 : Int32} {a2 : Int32} {a3 : Int32} {μ : am_Mu} {out : Int32 × am_Mu}, fB_mistake a1 a2 a3 μ = some out → am_fr [(13, 13), (13, 16), (22, 999), (23, 999), (24, 999), (25, 999), (26, 999)] μ out.2 := by
  intro a1 a2 a3 μ out h
  unfold fB_mistake at h
  obtain ⟨q1, h_q1, h⟩ := am_bind h
  have w_q1 : am_fr [(13, 13), (13, 16), (22, 999), (23, 999), (24, 999), (25, 999), (26, 999)] μ q1.2 := am_fr.trans am_fr.rf (am_fr.mono (w_fB_isTold h_q1) rfl)
  rcases am_ite h with ⟨q2, h⟩ | ⟨q2, h⟩
  · skip
    obtain ⟨q3, h_q3, h⟩ := am_bind h
    have w_q3 : am_fr [(13, 13), (13, 16), (22, 999), (23, 999), (24, 999), (25, 999), (26, 999)] μ q3.2 := am_fr.trans w_q1 (am_fr.mono (w_fLedger_addMistake h_q3) rfl)
    cases h
    exact w_q3
  · skip
    cases h
    exact w_q1
set_option maxRecDepth 20000 in
theorem w_fB_canAsk_51 : ∀ {μ : am_Mu} {out : Int32 × am_Mu}, fB_canAsk_51 μ = some out → am_fr [] μ out.2 := by
  intro μ out h
  unfold fB_canAsk_51 at h
  cases h
  exact am_fr.rf
set_option maxRecDepth 20000 in
theorem w_fB_canAsk : ∀ {a1 : Int32} {a2 : Int32} {a3 : Int32} {a4 : Int32} {a5 : Int32} {μ : am_Mu} {out : Int32 × am_Mu}, fB_canAsk a1 a2 a3 a4 a5 μ = some out → am_fr [] μ out.2 := by
  intro a1 a2 a3 a4 a5 μ out h
  unfold fB_canAsk at h
  obtain ⟨q1, h_q1, h⟩ := am_bind h
  have w_q1 : am_fr [] μ q1.2 := am_fr.trans am_fr.rf (am_fr.mono (w_fB_isIn h_q1) rfl)
  rcases am_ite h with ⟨q2, h⟩ | ⟨q2, h⟩
  · skip
    exact am_fr.trans w_q1 (w_fB_canAsk_51 h)
  · skip
    obtain ⟨q3, h_q3, h⟩ := am_bind h
    have w_q3 : am_fr [] μ q3.2 := am_fr.trans w_q1 (am_fr.mono (w_fB_isIn h_q3) rfl)
    rcases am_ite h with ⟨q4, h⟩ | ⟨q4, h⟩
    · skip
      exact am_fr.trans w_q3 (w_fB_canAsk_51 h)
    · skip
      obtain ⟨q5, h_q5, h⟩ := am_bind h
      have w_q5 : am_fr [] μ q5.2 := am_fr.trans w_q3 (am_fr.mono (w_fB_isIn h_q5) rfl)
      rcases am_ite h with ⟨q6, h⟩ | ⟨q6, h⟩
      · skip
        exact am_fr.trans w_q5 (w_fB_canAsk_51 h)
      · skip
        obtain ⟨q7, h_q7, h⟩ := am_bind h
        have w_q7 : am_fr [] μ q7.2 := am_fr.trans w_q5 (am_fr.mono (w_fB_isMinute h_q7) rfl)
        rcases am_ite h with ⟨q8, h⟩ | ⟨q8, h⟩
        · skip
          exact am_fr.trans w_q7 (w_fB_canAsk_51 h)
        · skip
          obtain ⟨q9, h_q9, h⟩ := am_bind h
          have w_q9 : am_fr [] μ q9.2 := am_fr.trans w_q7 (am_fr.mono (w_fB_isMinute h_q9) rfl)
          rcases am_ite h with ⟨q10, h⟩ | ⟨q10, h⟩
          · skip
            exact am_fr.trans w_q9 (w_fB_canAsk_51 h)
          · skip
            cases h
            exact w_q9
set_option maxRecDepth 20000 in
theorem w_fB_mark : ∀ {a1 : Int32} {a2 : Int32} {a3 : Int32} {a4 : Int32} {a5 : Int32} {μ : am_Mu} {out : Int32 × am_Mu}, fB_mark a1 a2 a3 a4 a5 μ = some out → am_fr [(53, 999), (54, 999), (55, 999), (56, 999), (59, 999), (60, 999), (61, 999), (63, 999), (64, 999), (65, 999), (69, 999), (70, 999), (71, 999), (73, 999), (74, 999), (75, 999)] μ out.2 := by
  intro a1 a2 a3 a4 a5 μ out h
  unfold fB_mark at h
  obtain ⟨q1, h_q1, h⟩ := am_bind h
  have w_q1 : am_fr [(53, 999), (54, 999), (55, 999), (56, 999), (59, 999), (60, 999), (61, 999), (63, 999), (64, 999), (65, 999), (69, 999), (70, 999), (71, 999), (73, 999), (74, 999), (75, 999)] μ q1.2 := am_fr.trans am_fr.rf (am_fr.mono (w_fB_canAsk h_q1) rfl)
  rcases am_ite h with ⟨q2, h⟩ | ⟨q2, h⟩
  · skip
    obtain ⟨q3, h_q3, h⟩ := am_bind h
    have w_q3 : am_fr [(53, 999), (54, 999), (55, 999), (56, 999), (59, 999), (60, 999), (61, 999), (63, 999), (64, 999), (65, 999), (69, 999), (70, 999), (71, 999), (73, 999), (74, 999), (75, 999)] μ q3 := am_fr.trans w_q1 (am_fr.mono (w_fJudge_tellWhatIs h_q3) rfl)
    obtain ⟨q4, h⟩ := am_bif h
    cases h
    exact w_q3
  · skip
    cases h
    exact w_q1
set_option maxRecDepth 20000 in
theorem w_fB_since : ∀ {a1 : Int32} {a2 : Int32} {a3 : Int32} {a4 : Int32} {a5 : Int32} {a6 : Int32} {μ : am_Mu} {out : Int32 × am_Mu}, fB_since a1 a2 a3 a4 a5 a6 μ = some out → am_fr [(53, 999), (54, 999), (55, 999), (56, 999), (59, 999), (60, 999), (61, 999), (63, 999), (64, 999), (65, 999), (69, 999), (70, 999), (71, 999), (73, 999), (74, 999), (75, 999)] μ out.2 := by
  intro a1 a2 a3 a4 a5 a6 μ out h
  unfold fB_since at h
  obtain ⟨q1, h_q1, h⟩ := am_bind h
  have w_q1 : am_fr [(53, 999), (54, 999), (55, 999), (56, 999), (59, 999), (60, 999), (61, 999), (63, 999), (64, 999), (65, 999), (69, 999), (70, 999), (71, 999), (73, 999), (74, 999), (75, 999)] μ q1.2 := am_fr.trans am_fr.rf (am_fr.mono (w_fB_canAsk h_q1) rfl)
  rcases am_ite h with ⟨q2, h⟩ | ⟨q2, h⟩
  · skip
    cases h
    exact w_q1
  · skip
    obtain ⟨q3, h_q3, h⟩ := am_bind h
    have w_q3 : am_fr [(53, 999), (54, 999), (55, 999), (56, 999), (59, 999), (60, 999), (61, 999), (63, 999), (64, 999), (65, 999), (69, 999), (70, 999), (71, 999), (73, 999), (74, 999), (75, 999)] μ q3.2 := am_fr.trans w_q1 (am_fr.mono (w_fB_isIn h_q3) rfl)
    rcases am_ite h with ⟨q4, h⟩ | ⟨q4, h⟩
    · skip
      obtain ⟨q5, h_q5, h⟩ := am_bind h
      have w_q5 : am_fr [(53, 999), (54, 999), (55, 999), (56, 999), (59, 999), (60, 999), (61, 999), (63, 999), (64, 999), (65, 999), (69, 999), (70, 999), (71, 999), (73, 999), (74, 999), (75, 999)] μ q5 := am_fr.trans w_q3 (am_fr.mono (w_fJudge_tellWhatIs h_q5) rfl)
      obtain ⟨q6, h⟩ := am_bif h
      rcases am_ite h with ⟨q7, h⟩ | ⟨q7, h⟩
      · skip
        rcases am_ite h with ⟨q8, h⟩ | ⟨q8, h⟩
        · skip
          cases h
          exact w_q5
        · skip
          cases h
          exact w_q5
      · skip
        cases h
        exact w_q5
    · skip
      cases h
      exact w_q3
set_option maxRecDepth 20000 in
theorem w_fB_askBothSchools : ∀ {μ : am_Mu} {out : am_Mu}, fB_askBothSchools μ = some out → am_fr [(53, 999), (54, 999), (55, 999), (56, 999), (59, 999), (60, 999), (61, 999), (63, 999), (64, 999), (65, 999), (69, 999), (70, 999), (71, 999), (73, 999), (74, 999), (75, 999)] μ out := by
  intro μ out h
  unfold fB_askBothSchools at h
  obtain ⟨q1, h_q1, h⟩ := am_bind h
  have w_q1 : am_fr [(53, 999), (54, 999), (55, 999), (56, 999), (59, 999), (60, 999), (61, 999), (63, 999), (64, 999), (65, 999), (69, 999), (70, 999), (71, 999), (73, 999), (74, 999), (75, 999)] μ q1 := am_fr.trans am_fr.rf (am_fr.mono (w_fJudge_tellWhatIs h_q1) rfl)
  obtain ⟨q2, h_q2, h⟩ := am_bind h
  have w_q2 : am_fr [(53, 999), (54, 999), (55, 999), (56, 999), (59, 999), (60, 999), (61, 999), (63, 999), (64, 999), (65, 999), (69, 999), (70, 999), (71, 999), (73, 999), (74, 999), (75, 999)] μ q2 := am_fr.trans w_q1 (am_fr.mono (w_fJudge_tellWhatIs h_q2) rfl)
  cases h
  exact w_q2
set_option maxRecDepth 20000 in
theorem w_fB_quarrelPlace_48 {k4 : Int32 → Int32 → am_Mu → Option (Int32 × am_Mu)} (hk4 : ∀ {a2 : Int32} {a3 : Int32} {μ : am_Mu} {out : Int32 × am_Mu}, k4 a2 a3 μ = some out → am_fr [] μ out.2) : ∀ {a2 : Int32} {a3 : Int32} {μ : am_Mu} {out : Int32 × am_Mu}, fB_quarrelPlace_48 k4 a2 a3 μ = some out → am_fr [] μ out.2 := by
  intro a2 a3 μ out h
  unfold fB_quarrelPlace_48 at h
  exact am_fr.trans am_fr.rf (hk4 h)
set_option maxRecDepth 20000 in
theorem w_fB_quarrelPlace_4 : ∀ n : Nat, ∀ {a2 : Int32} {a3 : Int32} {μ : am_Mu} {out : Int32 × am_Mu}, fB_quarrelPlace_4 n a2 a3 μ = some out → am_fr [] μ out.2 := by
  intro n
  induction n with
  | zero => intros; contradiction
  | succ n ih =>
    have hk4 : ∀ {a2 : Int32} {a3 : Int32} {μ : am_Mu} {out : Int32 × am_Mu}, (fB_quarrelPlace_4 n) a2 a3 μ = some out → am_fr [] μ out.2 := ih
    intro a2 a3 μ out h
    unfold fB_quarrelPlace_4 at h
    rcases am_ite h with ⟨q1, h⟩ | ⟨q1, h⟩
    · skip
      cases h
      exact am_fr.rf
    · skip
      obtain ⟨q2, h⟩ := am_bif h
      rcases am_ite h with ⟨q3, h⟩ | ⟨q3, h⟩
      · skip
        exact am_fr.trans am_fr.rf (w_fB_quarrelPlace_48 hk4 h)
      · skip
        rcases am_ite h with ⟨q4, h⟩ | ⟨q4, h⟩
        · skip
          exact am_fr.trans am_fr.rf (w_fB_quarrelPlace_48 hk4 h)
        · skip
          cases h
          exact am_fr.rf
set_option maxRecDepth 20000 in
theorem w_fB_quarrelPlace : ∀ {a1 : Int32} {μ : am_Mu} {out : Int32 × am_Mu}, fB_quarrelPlace a1 μ = some out → am_fr [] μ out.2 := by
  intro a1 μ out h
  unfold fB_quarrelPlace at h
  exact am_fr.trans am_fr.rf (w_fB_quarrelPlace_4 am_F h)
set_option maxRecDepth 20000 in
theorem w_fB_quarrel : ∀ {a1 : Int32} {a2 : Int32} {μ : am_Mu} {out : Int32 × am_Mu}, fB_quarrel a1 a2 μ = some out → am_fr [(53, 999), (54, 999), (55, 999), (56, 999), (59, 999), (60, 999), (61, 999), (63, 999), (64, 999), (65, 999), (69, 999), (70, 999), (71, 999), (73, 999), (74, 999), (75, 999)] μ out.2 := by
  intro a1 a2 μ out h
  unfold fB_quarrel at h
  rcases am_ite h with ⟨q1, h⟩ | ⟨q1, h⟩
  · skip
    cases h
    exact am_fr.rf
  · skip
    obtain ⟨q2, h_q2, h⟩ := am_bind h
    have w_q2 : am_fr [(53, 999), (54, 999), (55, 999), (56, 999), (59, 999), (60, 999), (61, 999), (63, 999), (64, 999), (65, 999), (69, 999), (70, 999), (71, 999), (73, 999), (74, 999), (75, 999)] μ q2.2 := am_fr.trans am_fr.rf (am_fr.mono (w_fB_isIn h_q2) rfl)
    rcases am_ite h with ⟨q3, h⟩ | ⟨q3, h⟩
    · skip
      obtain ⟨q4, h_q4, h⟩ := am_bind h
      have w_q4 : am_fr [(53, 999), (54, 999), (55, 999), (56, 999), (59, 999), (60, 999), (61, 999), (63, 999), (64, 999), (65, 999), (69, 999), (70, 999), (71, 999), (73, 999), (74, 999), (75, 999)] μ q4 := am_fr.trans w_q2 (am_fr.mono (w_fB_askBothSchools h_q4) rfl)
      obtain ⟨q5, h_q5, h⟩ := am_bind h
      have w_q5 : am_fr [(53, 999), (54, 999), (55, 999), (56, 999), (59, 999), (60, 999), (61, 999), (63, 999), (64, 999), (65, 999), (69, 999), (70, 999), (71, 999), (73, 999), (74, 999), (75, 999)] μ q5.2 := am_fr.trans w_q4 (am_fr.mono (w_fB_quarrelPlace h_q5) rfl)
      rcases am_ite h with ⟨q6, h⟩ | ⟨q6, h⟩
      · skip
        rcases am_ite h with ⟨q7, h⟩ | ⟨q7, h⟩
        · skip
          cases h
          exact w_q5
        rcases am_ite h with ⟨q8, h⟩ | ⟨q8, h⟩
        · skip
          cases h
          exact w_q5
        rcases am_ite h with ⟨q9, h⟩ | ⟨q9, h⟩
        · skip
          obtain ⟨q10, h⟩ := am_bif h
          cases h
          exact w_q5
        obtain ⟨q11, h⟩ := am_bif h
        cases h
        exact w_q5
      · skip
        cases h
        exact w_q5
    · skip
      cases h
      exact w_q2
set_option maxRecDepth 20000 in
theorem w_fB_canTrace_40 : ∀ {μ : am_Mu} {out : Int32 × am_Mu}, fB_canTrace_40 μ = some out → am_fr [] μ out.2 := by
  intro μ out h
  unfold fB_canTrace_40 at h
  cases h
  exact am_fr.rf
set_option maxRecDepth 20000 in
theorem w_fB_canTrace : ∀ {a1 : Int32} {a2 : Int32} {a3 : Int32} {μ : am_Mu} {out : Int32 × am_Mu}, fB_canTrace a1 a2 a3 μ = some out → am_fr [] μ out.2 := by
  intro a1 a2 a3 μ out h
  unfold fB_canTrace at h
  obtain ⟨q1, h_q1, h⟩ := am_bind h
  have w_q1 : am_fr [] μ q1.2 := am_fr.trans am_fr.rf (am_fr.mono (w_fB_isIn h_q1) rfl)
  rcases am_ite h with ⟨q2, h⟩ | ⟨q2, h⟩
  · skip
    exact am_fr.trans w_q1 (w_fB_canTrace_40 h)
  · skip
    obtain ⟨q3, h_q3, h⟩ := am_bind h
    have w_q3 : am_fr [] μ q3.2 := am_fr.trans w_q1 (am_fr.mono (w_fB_isIn h_q3) rfl)
    rcases am_ite h with ⟨q4, h⟩ | ⟨q4, h⟩
    · skip
      exact am_fr.trans w_q3 (w_fB_canTrace_40 h)
    · skip
      obtain ⟨q5, h_q5, h⟩ := am_bind h
      have w_q5 : am_fr [] μ q5.2 := am_fr.trans w_q3 (am_fr.mono (w_fB_isIn h_q5) rfl)
      rcases am_ite h with ⟨q6, h⟩ | ⟨q6, h⟩
      · skip
        exact am_fr.trans w_q5 (w_fB_canTrace_40 h)
      · skip
        cases h
        exact w_q5
set_option maxRecDepth 20000 in
theorem w_fB_leads : ∀ {a1 : Int32} {a2 : Int32} {a3 : Int32} {a4 : Int32} {μ : am_Mu} {out : Int32 × am_Mu}, fB_leads a1 a2 a3 a4 μ = some out → am_fr [(53, 999), (54, 999), (55, 999), (56, 999), (59, 999), (60, 999), (61, 999), (63, 999), (64, 999), (65, 999), (66, 999), (69, 999), (70, 999), (71, 999), (73, 999), (74, 999), (75, 999)] μ out.2 := by
  intro a1 a2 a3 a4 μ out h
  unfold fB_leads at h
  obtain ⟨q1, h_q1, h⟩ := am_bind h
  have w_q1 : am_fr [(53, 999), (54, 999), (55, 999), (56, 999), (59, 999), (60, 999), (61, 999), (63, 999), (64, 999), (65, 999), (66, 999), (69, 999), (70, 999), (71, 999), (73, 999), (74, 999), (75, 999)] μ q1.2 := am_fr.trans am_fr.rf (am_fr.mono (w_fB_canTrace h_q1) rfl)
  rcases am_ite h with ⟨q2, h⟩ | ⟨q2, h⟩
  · skip
    cases h
    exact w_q1
  · skip
    obtain ⟨q3, h_q3, h⟩ := am_bind h
    have w_q3 : am_fr [(53, 999), (54, 999), (55, 999), (56, 999), (59, 999), (60, 999), (61, 999), (63, 999), (64, 999), (65, 999), (66, 999), (69, 999), (70, 999), (71, 999), (73, 999), (74, 999), (75, 999)] μ q3.2 := am_fr.trans w_q1 (am_fr.mono (w_fB_isMinute h_q3) rfl)
    rcases am_ite h with ⟨q4, h⟩ | ⟨q4, h⟩
    · skip
      obtain ⟨q5, h_q5, h⟩ := am_bind h
      have w_q5 : am_fr [(53, 999), (54, 999), (55, 999), (56, 999), (59, 999), (60, 999), (61, 999), (63, 999), (64, 999), (65, 999), (66, 999), (69, 999), (70, 999), (71, 999), (73, 999), (74, 999), (75, 999)] μ q5 := am_fr.trans w_q3 (am_fr.mono (w_fTrace_follow h_q5) rfl)
      obtain ⟨q6, h_q6, h⟩ := am_bind h
      have w_q6 : am_fr [(53, 999), (54, 999), (55, 999), (56, 999), (59, 999), (60, 999), (61, 999), (63, 999), (64, 999), (65, 999), (66, 999), (69, 999), (70, 999), (71, 999), (73, 999), (74, 999), (75, 999)] μ q6.2 := am_fr.trans w_q5 (am_fr.mono (w_fTrace_otherwise h_q6) rfl)
      cases h
      exact w_q6
    · skip
      cases h
      exact w_q3
set_option maxRecDepth 20000 in
theorem w_fB_reached : ∀ {a1 : Int32} {a2 : Int32} {a3 : Int32} {μ : am_Mu} {out : Int32 × am_Mu}, fB_reached a1 a2 a3 μ = some out → am_fr [(53, 999), (54, 999), (55, 999), (56, 999), (59, 999), (60, 999), (61, 999), (63, 999), (64, 999), (65, 999), (66, 999), (69, 999), (70, 999), (71, 999), (73, 999), (74, 999), (75, 999)] μ out.2 := by
  intro a1 a2 a3 μ out h
  unfold fB_reached at h
  obtain ⟨q1, h_q1, h⟩ := am_bind h
  have w_q1 : am_fr [(53, 999), (54, 999), (55, 999), (56, 999), (59, 999), (60, 999), (61, 999), (63, 999), (64, 999), (65, 999), (66, 999), (69, 999), (70, 999), (71, 999), (73, 999), (74, 999), (75, 999)] μ q1.2 := am_fr.trans am_fr.rf (am_fr.mono (w_fB_canTrace h_q1) rfl)
  rcases am_ite h with ⟨q2, h⟩ | ⟨q2, h⟩
  · skip
    obtain ⟨q3, h_q3, h⟩ := am_bind h
    have w_q3 : am_fr [(53, 999), (54, 999), (55, 999), (56, 999), (59, 999), (60, 999), (61, 999), (63, 999), (64, 999), (65, 999), (66, 999), (69, 999), (70, 999), (71, 999), (73, 999), (74, 999), (75, 999)] μ q3 := am_fr.trans w_q1 (am_fr.mono (w_fTrace_follow h_q3) rfl)
    obtain ⟨q4, h⟩ := am_bif h
    cases h
    exact w_q3
  · skip
    cases h
    exact w_q1
set_option maxRecDepth 20000 in
theorem w_fB_way : ∀ {a1 : Int32} {a2 : Int32} {a3 : Int32} {a4 : Int32} {μ : am_Mu} {out : Int32 × am_Mu}, fB_way a1 a2 a3 a4 μ = some out → am_fr [(53, 999), (54, 999), (55, 999), (56, 999), (59, 999), (60, 999), (61, 999), (63, 999), (64, 999), (65, 999), (66, 999), (67, 999), (69, 999), (70, 999), (71, 999), (73, 999), (74, 999), (75, 999)] μ out.2 := by
  intro a1 a2 a3 a4 μ out h
  unfold fB_way at h
  obtain ⟨q1, h_q1, h⟩ := am_bind h
  have w_q1 : am_fr [(53, 999), (54, 999), (55, 999), (56, 999), (59, 999), (60, 999), (61, 999), (63, 999), (64, 999), (65, 999), (66, 999), (67, 999), (69, 999), (70, 999), (71, 999), (73, 999), (74, 999), (75, 999)] μ q1.2 := am_fr.trans am_fr.rf (am_fr.mono (w_fB_canTrace h_q1) rfl)
  rcases am_ite h with ⟨q2, h⟩ | ⟨q2, h⟩
  · skip
    cases h
    exact w_q1
  · skip
    obtain ⟨q3, h_q3, h⟩ := am_bind h
    have w_q3 : am_fr [(53, 999), (54, 999), (55, 999), (56, 999), (59, 999), (60, 999), (61, 999), (63, 999), (64, 999), (65, 999), (66, 999), (67, 999), (69, 999), (70, 999), (71, 999), (73, 999), (74, 999), (75, 999)] μ q3.2 := am_fr.trans w_q1 (am_fr.mono (w_fB_isIn h_q3) rfl)
    rcases am_ite h with ⟨q4, h⟩ | ⟨q4, h⟩
    · skip
      obtain ⟨q5, h_q5, h⟩ := am_bind h
      have w_q5 : am_fr [(53, 999), (54, 999), (55, 999), (56, 999), (59, 999), (60, 999), (61, 999), (63, 999), (64, 999), (65, 999), (66, 999), (67, 999), (69, 999), (70, 999), (71, 999), (73, 999), (74, 999), (75, 999)] μ q5 := am_fr.trans w_q3 (am_fr.mono (w_fTrace_follow h_q5) rfl)
      obtain ⟨q6, h_q6, h⟩ := am_bind h
      have w_q6 : am_fr [(53, 999), (54, 999), (55, 999), (56, 999), (59, 999), (60, 999), (61, 999), (63, 999), (64, 999), (65, 999), (66, 999), (67, 999), (69, 999), (70, 999), (71, 999), (73, 999), (74, 999), (75, 999)] μ q6.2 := am_fr.trans w_q5 (am_fr.mono (w_fTrace_walkBack h_q6) rfl)
      rcases am_ite h with ⟨q7, h⟩ | ⟨q7, h⟩
      · skip
        cases h
        exact w_q6
      · skip
        obtain ⟨q8, h⟩ := am_bif h
        cases h
        exact w_q6
    · skip
      cases h
      exact w_q3
set_option maxRecDepth 20000 in
theorem w_fB_mend : ∀ {a1 : Int32} {a2 : Int32} {a3 : Int32} {μ : am_Mu} {out : Int32 × am_Mu}, fB_mend a1 a2 a3 μ = some out → am_fr [(53, 999), (54, 999), (55, 999), (56, 999), (59, 999), (60, 999), (61, 999), (63, 999), (64, 999), (65, 999), (66, 999), (69, 999), (70, 999), (71, 999), (73, 999), (74, 999), (75, 999)] μ out.2 := by
  intro a1 a2 a3 μ out h
  unfold fB_mend at h
  obtain ⟨q1, h_q1, h⟩ := am_bind h
  have w_q1 : am_fr [(53, 999), (54, 999), (55, 999), (56, 999), (59, 999), (60, 999), (61, 999), (63, 999), (64, 999), (65, 999), (66, 999), (69, 999), (70, 999), (71, 999), (73, 999), (74, 999), (75, 999)] μ q1.2 := am_fr.trans am_fr.rf (am_fr.mono (w_fB_canTrace h_q1) rfl)
  rcases am_ite h with ⟨q2, h⟩ | ⟨q2, h⟩
  · skip
    obtain ⟨q3, h_q3, h⟩ := am_bind h
    have w_q3 : am_fr [(53, 999), (54, 999), (55, 999), (56, 999), (59, 999), (60, 999), (61, 999), (63, 999), (64, 999), (65, 999), (66, 999), (69, 999), (70, 999), (71, 999), (73, 999), (74, 999), (75, 999)] μ q3 := am_fr.trans w_q1 (am_fr.mono (w_fTrace_follow h_q3) rfl)
    obtain ⟨q4, h_q4, h⟩ := am_bind h
    have w_q4 : am_fr [(53, 999), (54, 999), (55, 999), (56, 999), (59, 999), (60, 999), (61, 999), (63, 999), (64, 999), (65, 999), (66, 999), (69, 999), (70, 999), (71, 999), (73, 999), (74, 999), (75, 999)] μ q4.2 := am_fr.trans w_q3 (am_fr.mono (w_fTrace_cleansings h_q4) rfl)
    cases h
    exact w_q4
  · skip
    cases h
    exact w_q1
set_option maxRecDepth 20000 in
theorem w_fB_kitchen : ∀ {a1 : Int32} {a2 : Int32} {a3 : Int32} {a4 : Int32} {μ : am_Mu} {out : Int32 × am_Mu}, fB_kitchen a1 a2 a3 a4 μ = some out → am_fr [(76, 8), (77, 999), (78, 999), (79, 999), (80, 999)] μ out.2 := by
  intro a1 a2 a3 a4 μ out h
  unfold fB_kitchen at h
  obtain ⟨q1, h_q1, h⟩ := am_bind h
  have w_q1 : am_fr [(76, 8), (77, 999), (78, 999), (79, 999), (80, 999)] μ q1.2 := am_fr.trans am_fr.rf (am_fr.mono (w_fKitchens_add h_q1) rfl)
  cases h
  exact w_q1
set_option maxRecDepth 20000 in
theorem w_fB_oversee : ∀ {a1 : Int32} {a2 : Int32} {μ : am_Mu} {out : Int32 × am_Mu}, fB_oversee a1 a2 μ = some out → am_fr [(78, 999)] μ out.2 := by
  intro a1 a2 μ out h
  unfold fB_oversee at h
  obtain ⟨q1, h_q1, h⟩ := am_bind h
  have w_q1 : am_fr [(78, 999)] μ q1.2 := am_fr.trans am_fr.rf (am_fr.mono (w_fB_isIn h_q1) rfl)
  rcases am_ite h with ⟨q2, h⟩ | ⟨q2, h⟩
  · skip
    cases h
    exact w_q1
  · skip
    obtain ⟨q3, h_q3, h⟩ := am_bind h
    have w_q3 : am_fr [(78, 999)] μ q3.2 := am_fr.trans w_q1 (am_fr.mono (w_fB_isIn h_q3) rfl)
    rcases am_ite h with ⟨q4, h⟩ | ⟨q4, h⟩
    · skip
      obtain ⟨q5, h⟩ := am_bif h
      cases h
      exact (am_fr.up w_q3 rfl)
    · skip
      cases h
      exact w_q3
set_option maxRecDepth 20000 in
theorem w_fB_trust : ∀ {a1 : Int32} {a2 : Int32} {a3 : Int32} {μ : am_Mu} {out : Int32 × am_Mu}, fB_trust a1 a2 a3 μ = some out → am_fr [(81, 999)] μ out.2 := by
  intro a1 a2 a3 μ out h
  unfold fB_trust at h
  obtain ⟨q1, h_q1, h⟩ := am_bind h
  have w_q1 : am_fr [(81, 999)] μ q1.2 := am_fr.trans am_fr.rf (am_fr.mono (w_fB_isIn h_q1) rfl)
  rcases am_ite h with ⟨q2, h⟩ | ⟨q2, h⟩
  · skip
    cases h
    exact w_q1
  · skip
    obtain ⟨q3, h_q3, h⟩ := am_bind h
    have w_q3 : am_fr [(81, 999)] μ q3.2 := am_fr.trans w_q1 (am_fr.mono (w_fB_isIn h_q3) rfl)
    rcases am_ite h with ⟨q4, h⟩ | ⟨q4, h⟩
    · skip
      obtain ⟨q5, h⟩ := am_bif h
      rcases am_ite h with ⟨q6, h⟩ | ⟨q6, h⟩
      · skip
        cases h
        exact (am_fr.up w_q3 rfl)
      · skip
        cases h
        exact w_q3
    · skip
      cases h
      exact w_q3
set_option maxRecDepth 20000 in
theorem w_fB_lot : ∀ {a1 : Int32} {a2 : Int32} {μ : am_Mu} {out : Int32 × am_Mu}, fB_lot a1 a2 μ = some out → am_fr [(84, 13), (85, 999), (86, 999), (87, 999), (88, 999)] μ out.2 := by
  intro a1 a2 μ out h
  unfold fB_lot at h
  obtain ⟨q1, h_q1, h⟩ := am_bind h
  have w_q1 : am_fr [(84, 13), (85, 999), (86, 999), (87, 999), (88, 999)] μ q1.2 := am_fr.trans am_fr.rf (am_fr.mono (w_fLots_add h_q1) rfl)
  cases h
  exact w_q1
set_option maxRecDepth 20000 in
theorem w_fB_pass : ∀ {a1 : Int32} {a2 : Int32} {a3 : Int32} {a4 : Int32} {a5 : Int32} {μ : am_Mu} {out : Int32 × am_Mu}, fB_pass a1 a2 a3 a4 a5 μ = some out → am_fr [(84, 14), (87, 999), (88, 999), (89, 999), (90, 999), (91, 999), (92, 999), (93, 999)] μ out.2 := by
  intro a1 a2 a3 a4 a5 μ out h
  unfold fB_pass at h
  obtain ⟨q1, h_q1, h⟩ := am_bind h
  have w_q1 : am_fr [(84, 14), (87, 999), (88, 999), (89, 999), (90, 999), (91, 999), (92, 999), (93, 999)] μ q1.2 := am_fr.trans am_fr.rf (am_fr.mono (w_fLots_move h_q1) rfl)
  obtain ⟨q2, h⟩ := am_ifp h
  cases h
  exact w_q1
set_option maxRecDepth 20000 in
theorem w_fB_units : ∀ {a1 : Int32} {a2 : Int32} {μ : am_Mu} {out : Int32 × am_Mu}, fB_units a1 a2 μ = some out → am_fr [] μ out.2 := by
  intro a1 a2 μ out h
  unfold fB_units at h
  obtain ⟨q1, h_q1, h⟩ := am_bind h
  have w_q1 : am_fr [] μ q1.2 := am_fr.trans am_fr.rf (am_fr.mono (w_fB_isIn h_q1) rfl)
  rcases am_ite h with ⟨q2, h⟩ | ⟨q2, h⟩
  · skip
    cases h
    exact w_q1
  · skip
    obtain ⟨q3, h_q3, h⟩ := am_bind h
    have w_q3 : am_fr [] μ q3.2 := am_fr.trans w_q1 (am_fr.mono (w_fB_isIn h_q3) rfl)
    rcases am_ite h with ⟨q4, h⟩ | ⟨q4, h⟩
    · skip
      obtain ⟨q5, h⟩ := am_bif h
      cases h
      exact w_q3
    · skip
      cases h
      exact w_q3
set_option maxRecDepth 20000 in
theorem w_fB_good : ∀ {a1 : Int32} {a2 : Int32} {a3 : Int32} {a4 : Int32} {μ : am_Mu} {out : Int32 × am_Mu}, fB_good a1 a2 a3 a4 μ = some out → am_fr [(94, 999), (95, 999), (96, 999)] μ out.2 := by
  intro a1 a2 a3 a4 μ out h
  unfold fB_good at h
  obtain ⟨q1, h_q1, h⟩ := am_bind h
  have w_q1 : am_fr [(94, 999), (95, 999), (96, 999)] μ q1.2 := am_fr.trans am_fr.rf (am_fr.mono (w_fB_isIn h_q1) rfl)
  rcases am_ite h with ⟨q2, h⟩ | ⟨q2, h⟩
  · skip
    cases h
    exact w_q1
  · skip
    obtain ⟨q3, h_q3, h⟩ := am_bind h
    have w_q3 : am_fr [(94, 999), (95, 999), (96, 999)] μ q3.2 := am_fr.trans w_q1 (am_fr.mono (w_fB_isIn h_q3) rfl)
    rcases am_ite h with ⟨q4, h⟩ | ⟨q4, h⟩
    · skip
      cases h
      exact w_q3
    · skip
      obtain ⟨q5, h_q5, h⟩ := am_bind h
      have w_q5 : am_fr [(94, 999), (95, 999), (96, 999)] μ q5.2 := am_fr.trans w_q3 (am_fr.mono (w_fB_isIn h_q5) rfl)
      rcases am_ite h with ⟨q6, h⟩ | ⟨q6, h⟩
      · skip
        obtain ⟨q7, h_q7, h⟩ := am_bind h
        have w_q7 : am_fr [(94, 999), (95, 999), (96, 999)] μ q7.2 := am_fr.trans w_q5 (am_fr.mono (w_fB_isIn h_q7) rfl)
        rcases am_ite h with ⟨q8, h⟩ | ⟨q8, h⟩
        · skip
          obtain ⟨q9, h_q9, h⟩ := am_bind h
          have w_q9 : am_fr [(94, 999), (95, 999), (96, 999)] μ q9 := am_fr.trans w_q7 (am_fr.mono (w_fLots_seeGood h_q9) rfl)
          rcases am_ite h with ⟨q10, h⟩ | ⟨q10, h⟩
          · skip
            obtain ⟨q11, h⟩ := am_bif h
            cases h
            exact w_q9
          · skip
            obtain ⟨q12, h⟩ := am_bif h
            cases h
            exact w_q9
        · skip
          cases h
          exact w_q7
      · skip
        cases h
        exact w_q5
set_option maxRecDepth 20000 in
theorem w_fB_recall : ∀ {a1 : Int32} {μ : am_Mu} {out : Int32 × am_Mu}, fB_recall a1 μ = some out → am_fr [] μ out.2 := by
  intro a1 μ out h
  unfold fB_recall at h
  obtain ⟨q1, h_q1, h⟩ := am_bind h
  have w_q1 : am_fr [] μ q1.2 := am_fr.trans am_fr.rf (am_fr.mono (w_fB_isIn h_q1) rfl)
  rcases am_ite h with ⟨q2, h⟩ | ⟨q2, h⟩
  · skip
    obtain ⟨q3, h⟩ := am_bif h
    cases h
    exact w_q1
  · skip
    cases h
    exact w_q1
set_option maxRecDepth 20000 in
theorem w_fB_visitor : ∀ {a1 : Int32} {a2 : Int32} {μ : am_Mu} {out : Int32 × am_Mu}, fB_visitor a1 a2 μ = some out → am_fr [(97, 4), (98, 999), (99, 999)] μ out.2 := by
  intro a1 a2 μ out h
  unfold fB_visitor at h
  obtain ⟨q1, h_q1, h⟩ := am_bind h
  have w_q1 : am_fr [(97, 4), (98, 999), (99, 999)] μ q1.2 := am_fr.trans am_fr.rf (am_fr.mono (w_fVisitors_add h_q1) rfl)
  cases h
  exact w_q1
set_option maxRecDepth 20000 in
theorem w_fB_seed : ∀ {a1 : Int32} {a2 : Int32} {μ : am_Mu} {out : Int32 × am_Mu}, fB_seed a1 a2 μ = some out → am_fr [(102, 8), (102, 9)] μ out.2 := by
  intro a1 a2 μ out h
  unfold fB_seed at h
  obtain ⟨q1, h_q1, h⟩ := am_bind h
  have w_q1 : am_fr [(102, 8), (102, 9)] μ q1.2 := am_fr.trans am_fr.rf (am_fr.mono (w_fVisits_reseed h_q1) rfl)
  obtain ⟨q2, h⟩ := am_ifp h
  cases h
  exact w_q1
set_option maxRecDepth 20000 in
theorem w_fB_today : ∀ {μ : am_Mu} {out : Int32 × am_Mu}, fB_today μ = some out → am_fr [] μ out.2 := by
  intro μ out h
  unfold fB_today at h
  cases h
  exact am_fr.rf
set_option maxRecDepth 20000 in
theorem w_fB_draw : ∀ {μ : am_Mu} {out : Int32 × am_Mu}, fB_draw μ = some out → am_fr [(102, 7), (102, 8), (103, 999), (104, 999), (105, 999), (106, 999), (107, 999)] μ out.2 := by
  intro μ out h
  unfold fB_draw at h
  obtain ⟨q1, h_q1, h⟩ := am_bind h
  have w_q1 : am_fr [(102, 7), (102, 8), (103, 999), (104, 999), (105, 999), (106, 999), (107, 999)] μ q1.2 := am_fr.trans am_fr.rf (am_fr.mono (w_fB_today h_q1) rfl)
  obtain ⟨q2, h_q2, h⟩ := am_bind h
  have w_q2 : am_fr [(102, 7), (102, 8), (103, 999), (104, 999), (105, 999), (106, 999), (107, 999)] μ q2.2 := am_fr.trans w_q1 (am_fr.mono (w_fVisits_drawOne h_q2) rfl)
  cases h
  exact w_q2
set_option maxRecDepth 20000 in
theorem w_fB_row : ∀ {μ : am_Mu} {out : Int32 × am_Mu}, fB_row μ = some out → am_fr [(107, 999)] μ out.2 := by
  intro μ out h
  unfold fB_row at h
  obtain ⟨q1, h_q1, h⟩ := am_bind h
  have w_q1 : am_fr [(107, 999)] μ q1.2 := am_fr.trans am_fr.rf (am_fr.mono (w_fB_today h_q1) rfl)
  obtain ⟨q2, h_q2, h⟩ := am_bind h
  have w_q2 : am_fr [(107, 999)] μ q2.2 := am_fr.trans w_q1 (am_fr.mono (w_fVisits_fillRow h_q2) rfl)
  cases h
  exact w_q2
set_option maxRecDepth 20000 in
theorem w_fB_visit : ∀ {a1 : Int32} {a2 : Int32} {μ : am_Mu} {out : Int32 × am_Mu}, fB_visit a1 a2 μ = some out → am_fr [] μ out.2 := by
  intro a1 a2 μ out h
  unfold fB_visit at h
  obtain ⟨q1, h_q1, h⟩ := am_bind h
  have w_q1 : am_fr [] μ q1.2 := am_fr.trans am_fr.rf (am_fr.mono (w_fB_isIn h_q1) rfl)
  rcases am_ite h with ⟨q2, h⟩ | ⟨q2, h⟩
  · skip
    rcases am_ite h with ⟨q3, h⟩ | ⟨q3, h⟩
    · skip
      obtain ⟨q4, h_q4, h⟩ := am_bind h
      have w_q4 : am_fr [] μ q4.2 := am_fr.trans w_q1 (am_fr.mono (w_fVisits_kitchenOf h_q4) rfl)
      cases h
      exact w_q4
    rcases am_ite h with ⟨q5, h⟩ | ⟨q5, h⟩
    · skip
      obtain ⟨q6, h_q6, h⟩ := am_bind h
      have w_q6 : am_fr [] μ q6.2 := am_fr.trans w_q1 (am_fr.mono (w_fVisits_visitorOf h_q6) rfl)
      cases h
      exact w_q6
    rcases am_ite h with ⟨q7, h⟩ | ⟨q7, h⟩
    · skip
      obtain ⟨q8, h⟩ := am_bif h
      cases h
      exact w_q1
    cases h
    exact w_q1
  · skip
    cases h
    exact w_q1
set_option maxRecDepth 20000 in
theorem w_fB_tour : ∀ {a1 : Int32} {μ : am_Mu} {out : Int32 × am_Mu}, fB_tour a1 μ = some out → am_fr [(76, 7), (82, 999), (83, 999)] μ out.2 := by
  intro a1 μ out h
  unfold fB_tour at h
  obtain ⟨q1, h_q1, h⟩ := am_bind h
  have w_q1 : am_fr [(76, 7), (82, 999), (83, 999)] μ q1.2 := am_fr.trans am_fr.rf (am_fr.mono (w_fB_isIn h_q1) rfl)
  rcases am_ite h with ⟨q2, h⟩ | ⟨q2, h⟩
  · skip
    obtain ⟨q3, h_q3, h⟩ := am_bind h
    have w_q3 : am_fr [(76, 7), (82, 999), (83, 999)] μ q3.2 := am_fr.trans w_q1 (am_fr.mono (w_fB_today h_q3) rfl)
    obtain ⟨q4, h_q4, h⟩ := am_bind h
    have w_q4 : am_fr [(76, 7), (82, 999), (83, 999)] μ q4.2 := am_fr.trans w_q3 (am_fr.mono (w_fVisits_kitchensOn h_q4) rfl)
    obtain ⟨q5, h_q5, h⟩ := am_bind h
    have w_q5 : am_fr [(76, 7), (82, 999), (83, 999)] μ q5.2 := am_fr.trans w_q4 (am_fr.mono (w_fKitchens_planTour h_q5) rfl)
    cases h
    exact w_q5
  · skip
    cases h
    exact w_q1
set_option maxRecDepth 20000 in
theorem w_fB_stop : ∀ {a1 : Int32} {a2 : Int32} {μ : am_Mu} {out : Int32 × am_Mu}, fB_stop a1 a2 μ = some out → am_fr [(76, 7), (82, 999), (83, 999)] μ out.2 := by
  intro a1 a2 μ out h
  unfold fB_stop at h
  obtain ⟨q1, h_q1, h⟩ := am_bind h
  have w_q1 : am_fr [(76, 7), (82, 999), (83, 999)] μ q1.2 := am_fr.trans am_fr.rf (am_fr.mono (w_fB_isIn h_q1) rfl)
  rcases am_ite h with ⟨q2, h⟩ | ⟨q2, h⟩
  · skip
    cases h
    exact w_q1
  · skip
    obtain ⟨q3, h_q3, h⟩ := am_bind h
    have w_q3 : am_fr [(76, 7), (82, 999), (83, 999)] μ q3.2 := am_fr.trans w_q1 (am_fr.mono (w_fB_isIn h_q3) rfl)
    rcases am_ite h with ⟨q4, h⟩ | ⟨q4, h⟩
    · skip
      obtain ⟨q5, h_q5, h⟩ := am_bind h
      have w_q5 : am_fr [(76, 7), (82, 999), (83, 999)] μ q5.2 := am_fr.trans w_q3 (am_fr.mono (w_fB_today h_q5) rfl)
      obtain ⟨q6, h_q6, h⟩ := am_bind h
      have w_q6 : am_fr [(76, 7), (82, 999), (83, 999)] μ q6.2 := am_fr.trans w_q5 (am_fr.mono (w_fVisits_kitchensOn h_q6) rfl)
      obtain ⟨q7, h_q7, h⟩ := am_bind h
      have w_q7 : am_fr [(76, 7), (82, 999), (83, 999)] μ q7.2 := am_fr.trans w_q6 (am_fr.mono (w_fKitchens_planTour h_q7) rfl)
      rcases am_ite h with ⟨q8, h⟩ | ⟨q8, h⟩
      · skip
        cases h
        exact w_q7
      · skip
        obtain ⟨q9, h⟩ := am_bif h
        cases h
        exact w_q7
    · skip
      cases h
      exact w_q3
set_option maxRecDepth 20000 in
theorem w_fB_word : ∀ {a1 : Int32} {a2 : Int32} {a3 : Int32} {a4 : Int32} {μ : am_Mu} {out : Int32 × am_Mu}, fB_word a1 a2 a3 a4 μ = some out → am_fr [(100, 999), (101, 999)] μ out.2 := by
  intro a1 a2 a3 a4 μ out h
  unfold fB_word at h
  obtain ⟨q1, h_q1, h⟩ := am_bind h
  have w_q1 : am_fr [(100, 999), (101, 999)] μ q1.2 := am_fr.trans am_fr.rf (am_fr.mono (w_fB_isIn h_q1) rfl)
  rcases am_ite h with ⟨q2, h⟩ | ⟨q2, h⟩
  · skip
    cases h
    exact w_q1
  · skip
    obtain ⟨q3, h_q3, h⟩ := am_bind h
    have w_q3 : am_fr [(100, 999), (101, 999)] μ q3.2 := am_fr.trans w_q1 (am_fr.mono (w_fB_isIn h_q3) rfl)
    rcases am_ite h with ⟨q4, h⟩ | ⟨q4, h⟩
    · skip
      cases h
      exact w_q3
    · skip
      obtain ⟨q5, h_q5, h⟩ := am_bind h
      have w_q5 : am_fr [(100, 999), (101, 999)] μ q5.2 := am_fr.trans w_q3 (am_fr.mono (w_fB_isIn h_q5) rfl)
      rcases am_ite h with ⟨q6, h⟩ | ⟨q6, h⟩
      · skip
        obtain ⟨q7, h_q7, h⟩ := am_bind h
        have w_q7 : am_fr [(100, 999), (101, 999)] μ q7 := am_fr.trans w_q5 (am_fr.mono (w_fVisitors_hear h_q7) rfl)
        cases h
        exact w_q7
      · skip
        cases h
        exact w_q5
set_option maxRecDepth 20000 in
theorem w_fB_believed : ∀ {a1 : Int32} {a2 : Int32} {μ : am_Mu} {out : Int32 × am_Mu}, fB_believed a1 a2 μ = some out → am_fr [] μ out.2 := by
  intro a1 a2 μ out h
  unfold fB_believed at h
  obtain ⟨q1, h_q1, h⟩ := am_bind h
  have w_q1 : am_fr [] μ q1.2 := am_fr.trans am_fr.rf (am_fr.mono (w_fB_isIn h_q1) rfl)
  rcases am_ite h with ⟨q2, h⟩ | ⟨q2, h⟩
  · skip
    cases h
    exact w_q1
  · skip
    obtain ⟨q3, h_q3, h⟩ := am_bind h
    have w_q3 : am_fr [] μ q3.2 := am_fr.trans w_q1 (am_fr.mono (w_fB_isIn h_q3) rfl)
    rcases am_ite h with ⟨q4, h⟩ | ⟨q4, h⟩
    · skip
      obtain ⟨q5, h_q5, h⟩ := am_bind h
      have w_q5 : am_fr [] μ q5.2 := am_fr.trans w_q3 (am_fr.mono (w_fVisitors_belief h_q5) rfl)
      cases h
      exact w_q5
    · skip
      cases h
      exact w_q3
set_option maxRecDepth 20000 in
theorem w_fB_look : ∀ {a1 : Int32} {a2 : Int32} {μ : am_Mu} {out : Int32 × am_Mu}, fB_look a1 a2 μ = some out → am_fr [] μ out.2 := by
  intro a1 a2 μ out h
  unfold fB_look at h
  obtain ⟨q1, h_q1, h⟩ := am_bind h
  have w_q1 : am_fr [] μ q1.2 := am_fr.trans am_fr.rf (am_fr.mono (w_fB_isIn h_q1) rfl)
  rcases am_ite h with ⟨q2, h⟩ | ⟨q2, h⟩
  · skip
    rcases am_ite h with ⟨q3, h⟩ | ⟨q3, h⟩
    · skip
      obtain ⟨q4, h⟩ := am_bif h
      cases h
      exact w_q1
    rcases am_ite h with ⟨q5, h⟩ | ⟨q5, h⟩
    · skip
      obtain ⟨q6, h⟩ := am_bif h
      cases h
      exact w_q1
    rcases am_ite h with ⟨q7, h⟩ | ⟨q7, h⟩
    · skip
      obtain ⟨q8, h⟩ := am_bif h
      cases h
      exact w_q1
    rcases am_ite h with ⟨q9, h⟩ | ⟨q9, h⟩
    · skip
      obtain ⟨q10, h⟩ := am_bif h
      cases h
      exact w_q1
    rcases am_ite h with ⟨q11, h⟩ | ⟨q11, h⟩
    · skip
      obtain ⟨q12, h⟩ := am_bif h
      rcases am_ite h with ⟨q13, h⟩ | ⟨q13, h⟩
      · skip
        cases h
        exact w_q1
      · skip
        cases h
        exact w_q1
    rcases am_ite h with ⟨q14, h⟩ | ⟨q14, h⟩
    · skip
      obtain ⟨q15, h⟩ := am_bif h
      cases h
      exact w_q1
    rcases am_ite h with ⟨q16, h⟩ | ⟨q16, h⟩
    · skip
      obtain ⟨q17, h⟩ := am_bif h
      cases h
      exact w_q1
    cases h
    exact w_q1
  · skip
    cases h
    exact w_q1
set_option maxRecDepth 20000 in
theorem w_fB_quarrelsHeld_42 {k4 : Int32 → Int32 → am_Mu → Option (Int32 × am_Mu)} (hk4 : ∀ {a1 : Int32} {a2 : Int32} {μ : am_Mu} {out : Int32 × am_Mu}, k4 a1 a2 μ = some out → am_fr [] μ out.2) : ∀ {a1 : Int32} {a2 : Int32} {μ : am_Mu} {out : Int32 × am_Mu}, fB_quarrelsHeld_42 k4 a1 a2 μ = some out → am_fr [] μ out.2 := by
  intro a1 a2 μ out h
  unfold fB_quarrelsHeld_42 at h
  exact am_fr.trans am_fr.rf (hk4 h)
set_option maxRecDepth 20000 in
theorem w_fB_quarrelsHeld_4 : ∀ n : Nat, ∀ {a1 : Int32} {a2 : Int32} {μ : am_Mu} {out : Int32 × am_Mu}, fB_quarrelsHeld_4 n a1 a2 μ = some out → am_fr [] μ out.2 := by
  intro n
  induction n with
  | zero => intros; contradiction
  | succ n ih =>
    have hk4 : ∀ {a1 : Int32} {a2 : Int32} {μ : am_Mu} {out : Int32 × am_Mu}, (fB_quarrelsHeld_4 n) a1 a2 μ = some out → am_fr [] μ out.2 := ih
    intro a1 a2 μ out h
    unfold fB_quarrelsHeld_4 at h
    rcases am_ite h with ⟨q1, h⟩ | ⟨q1, h⟩
    · skip
      cases h
      exact am_fr.rf
    · skip
      obtain ⟨q2, h⟩ := am_bif h
      rcases am_ite h with ⟨q3, h⟩ | ⟨q3, h⟩
      · skip
        exact am_fr.trans am_fr.rf (w_fB_quarrelsHeld_42 hk4 h)
      · skip
        exact am_fr.trans am_fr.rf (w_fB_quarrelsHeld_42 hk4 h)
set_option maxRecDepth 20000 in
theorem w_fB_quarrelsHeld : ∀ {μ : am_Mu} {out : Int32 × am_Mu}, fB_quarrelsHeld μ = some out → am_fr [] μ out.2 := by
  intro μ out h
  unfold fB_quarrelsHeld at h
  exact am_fr.trans am_fr.rf (w_fB_quarrelsHeld_4 am_F h)
set_option maxRecDepth 20000 in
theorem w_fB_count : ∀ {a1 : Int32} {μ : am_Mu} {out : Int32 × am_Mu}, fB_count a1 μ = some out → am_fr [(53, 999), (54, 999), (55, 999), (56, 999), (59, 999), (60, 999), (61, 999), (63, 999), (64, 999), (65, 999), (69, 999), (70, 999), (71, 999), (73, 999), (74, 999), (75, 999)] μ out.2 := by
  intro a1 μ out h
  unfold fB_count at h
  rcases am_ite h with ⟨q1, h⟩ | ⟨q1, h⟩
  · skip
    cases h
    exact am_fr.rf
  rcases am_ite h with ⟨q2, h⟩ | ⟨q2, h⟩
  · skip
    cases h
    exact am_fr.rf
  rcases am_ite h with ⟨q3, h⟩ | ⟨q3, h⟩
  · skip
    cases h
    exact am_fr.rf
  rcases am_ite h with ⟨q4, h⟩ | ⟨q4, h⟩
  · skip
    cases h
    exact am_fr.rf
  rcases am_ite h with ⟨q5, h⟩ | ⟨q5, h⟩
  · skip
    cases h
    exact am_fr.rf
  rcases am_ite h with ⟨q6, h⟩ | ⟨q6, h⟩
  · skip
    cases h
    exact am_fr.rf
  rcases am_ite h with ⟨q7, h⟩ | ⟨q7, h⟩
  · skip
    cases h
    exact am_fr.rf
  rcases am_ite h with ⟨q8, h⟩ | ⟨q8, h⟩
  · skip
    cases h
    exact am_fr.rf
  rcases am_ite h with ⟨q9, h⟩ | ⟨q9, h⟩
  · skip
    cases h
    exact am_fr.rf
  rcases am_ite h with ⟨q10, h⟩ | ⟨q10, h⟩
  · skip
    cases h
    exact am_fr.rf
  rcases am_ite h with ⟨q11, h⟩ | ⟨q11, h⟩
  · skip
    cases h
    exact am_fr.rf
  rcases am_ite h with ⟨q12, h⟩ | ⟨q12, h⟩
  · skip
    cases h
    exact am_fr.rf
  rcases am_ite h with ⟨q13, h⟩ | ⟨q13, h⟩
  · skip
    cases h
    exact am_fr.rf
  rcases am_ite h with ⟨q14, h⟩ | ⟨q14, h⟩
  · skip
    obtain ⟨q15, h_q15, h⟩ := am_bind h
    have w_q15 : am_fr [(53, 999), (54, 999), (55, 999), (56, 999), (59, 999), (60, 999), (61, 999), (63, 999), (64, 999), (65, 999), (69, 999), (70, 999), (71, 999), (73, 999), (74, 999), (75, 999)] μ q15 := am_fr.trans am_fr.rf (am_fr.mono (w_fB_askBothSchools h_q15) rfl)
    obtain ⟨q16, h_q16, h⟩ := am_bind h
    have w_q16 : am_fr [(53, 999), (54, 999), (55, 999), (56, 999), (59, 999), (60, 999), (61, 999), (63, 999), (64, 999), (65, 999), (69, 999), (70, 999), (71, 999), (73, 999), (74, 999), (75, 999)] μ q16.2 := am_fr.trans w_q15 (am_fr.mono (w_fB_quarrelsHeld h_q16) rfl)
    cases h
    exact w_q16
  cases h
  exact am_fr.rf
set_option maxRecDepth 20000 in
theorem w_fM_lies_14 : ∀ {μ : am_Mu} {out : Int32 × am_Mu}, fM_lies_14 μ = some out → am_fr [] μ out.2 := by
  intro μ out h
  unfold fM_lies_14 at h
  cases h
  exact am_fr.rf
set_option maxRecDepth 20000 in
theorem w_fM_lies : ∀ {a0 : Int32} {a1 : Int32} {a2 : Int32} {μ : am_Mu} {out : Int32 × am_Mu}, fM_lies a0 a1 a2 μ = some out → am_fr [] μ out.2 := by
  intro a0 a1 a2 μ out h
  unfold fM_lies at h
  rcases am_ite h with ⟨q1, h⟩ | ⟨q1, h⟩
  · skip
    exact am_fr.trans am_fr.rf (w_fM_lies_14 h)
  · skip
    rcases am_ite h with ⟨q2, h⟩ | ⟨q2, h⟩
    · skip
      exact am_fr.trans am_fr.rf (w_fM_lies_14 h)
    · skip
      cases h
      exact am_fr.rf
set_option maxRecDepth 20000 in
theorem w_fM_isSchool_9 : ∀ {μ : am_Mu} {out : Int32 × am_Mu}, fM_isSchool_9 μ = some out → am_fr [] μ out.2 := by
  intro μ out h
  unfold fM_isSchool_9 at h
  cases h
  exact am_fr.rf
set_option maxRecDepth 20000 in
theorem w_fM_isSchool : ∀ {a0 : Int32} {μ : am_Mu} {out : Int32 × am_Mu}, fM_isSchool a0 μ = some out → am_fr [] μ out.2 := by
  intro a0 μ out h
  unfold fM_isSchool at h
  rcases am_ite h with ⟨q1, h⟩ | ⟨q1, h⟩
  · skip
    exact am_fr.trans am_fr.rf (w_fM_isSchool_9 h)
  · skip
    rcases am_ite h with ⟨q2, h⟩ | ⟨q2, h⟩
    · skip
      cases h
      exact am_fr.rf
    · skip
      exact am_fr.trans am_fr.rf (w_fM_isSchool_9 h)
set_option maxRecDepth 20000 in
theorem w_fM_has : ∀ {a0 : Int32} {a1 : Int32} {μ : am_Mu} {out : Int32 × am_Mu}, fM_has a0 a1 μ = some out → am_fr [] μ out.2 := by
  intro a0 a1 μ out h
  unfold fM_has at h
  rcases am_ite h with ⟨q1, h⟩ | ⟨q1, h⟩
  · skip
    cases h
    exact am_fr.rf
  · skip
    cases h
    exact am_fr.rf
set_option maxRecDepth 20000 in
theorem w_fM_isThing : ∀ {a1 : Int32} {μ : am_Mu} {out : Int32 × am_Mu}, fM_isThing a1 μ = some out → am_fr [] μ out.2 := by
  intro a1 μ out h
  unfold fM_isThing at h
  obtain ⟨q1, h_q1, h⟩ := am_bind h
  have w_q1 : am_fr [] μ q1.2 := am_fr.trans am_fr.rf (am_fr.mono (w_fM_lies h_q1) rfl)
  obtain ⟨q2, h⟩ := am_ifp h
  cases h
  exact w_q1
set_option maxRecDepth 20000 in
theorem w_fM_isMark : ∀ {a0 : Int32} {μ : am_Mu} {out : Int32 × am_Mu}, fM_isMark a0 μ = some out → am_fr [] μ out.2 := by
  intro a0 μ out h
  unfold fM_isMark at h
  obtain ⟨q1, h_q1, h⟩ := am_bind h
  have w_q1 : am_fr [] μ q1.2 := am_fr.trans am_fr.rf (am_fr.mono (w_fM_lies h_q1) rfl)
  obtain ⟨q2, h⟩ := am_ifp h
  cases h
  exact w_q1
set_option maxRecDepth 20000 in
theorem w_fM_isMinute : ∀ {a0 : Int32} {μ : am_Mu} {out : Int32 × am_Mu}, fM_isMinute a0 μ = some out → am_fr [] μ out.2 := by
  intro a0 μ out h
  unfold fM_isMinute at h
  obtain ⟨q1, h_q1, h⟩ := am_bind h
  have w_q1 : am_fr [] μ q1.2 := am_fr.trans am_fr.rf (am_fr.mono (w_fM_lies h_q1) rfl)
  obtain ⟨q2, h⟩ := am_ifp h
  cases h
  exact w_q1
set_option maxRecDepth 20000 in
theorem w_fM_now : ∀ {a1 : Int32} {μ : am_Mu} {out : Int32 × am_Mu}, fM_now a1 μ = some out → am_fr [(108, 2)] μ out.2 := by
  intro a1 μ out h
  unfold fM_now at h
  obtain ⟨q1, h_q1, h⟩ := am_bind h
  have w_q1 : am_fr [(108, 2)] μ q1.2 := am_fr.trans am_fr.rf (am_fr.mono (w_fM_lies h_q1) rfl)
  rcases am_ite h with ⟨q2, h⟩ | ⟨q2, h⟩
  · skip
    cases h
    exact (am_fr.up w_q1 rfl)
  · skip
    cases h
    exact w_q1
set_option maxRecDepth 20000 in
theorem w_fM_begin : ∀ {a0 : Int32} {μ : am_Mu} {out : Int32 × am_Mu}, fM_begin a0 μ = some out → am_fr [] μ out.2 := by
  intro a0 μ out h
  unfold fM_begin at h
  cases h
  exact am_fr.rf
set_option maxRecDepth 20000 in
theorem w_fM_monthOf_2 : ∀ n : Nat, ∀ {a0 : Int32} {a1 : Int32} {μ : am_Mu} {out : Int32 × am_Mu}, fM_monthOf_2 n a0 a1 μ = some out → am_fr [] μ out.2 := by
  intro n
  induction n with
  | zero => intros; contradiction
  | succ n ih =>
    have hk2 : ∀ {a0 : Int32} {a1 : Int32} {μ : am_Mu} {out : Int32 × am_Mu}, (fM_monthOf_2 n) a0 a1 μ = some out → am_fr [] μ out.2 := ih
    intro a0 a1 μ out h
    unfold fM_monthOf_2 at h
    obtain ⟨q1, h_q1, h⟩ := am_bind h
    have w_q1 : am_fr [] μ q1.2 := am_fr.trans am_fr.rf (am_fr.mono (w_fM_begin h_q1) rfl)
    rcases am_ite h with ⟨q2, h⟩ | ⟨q2, h⟩
    · skip
      cases h
      exact w_q1
    · skip
      exact am_fr.trans w_q1 (hk2 h)
set_option maxRecDepth 20000 in
theorem w_fM_monthOf : ∀ {a0 : Int32} {μ : am_Mu} {out : Int32 × am_Mu}, fM_monthOf a0 μ = some out → am_fr [] μ out.2 := by
  intro a0 μ out h
  unfold fM_monthOf at h
  exact am_fr.trans am_fr.rf (w_fM_monthOf_2 am_F h)
set_option maxRecDepth 20000 in
theorem w_fM_feast : ∀ {a1 : Int32} {a2 : Int32} {a3 : Int32} {μ : am_Mu} {out : Int32 × am_Mu}, fM_feast a1 a2 a3 μ = some out → am_fr [(108, 3), (110, 999), (111, 999), (112, 999)] μ out.2 := by
  intro a1 a2 a3 μ out h
  unfold fM_feast at h
  rcases am_ite h with ⟨q1, h⟩ | ⟨q1, h⟩
  · skip
    cases h
    exact am_fr.rf
  · skip
    obtain ⟨q2, h_q2, h⟩ := am_bind h
    have w_q2 : am_fr [(108, 3), (110, 999), (111, 999), (112, 999)] μ q2.2 := am_fr.trans am_fr.rf (am_fr.mono (w_fM_lies h_q2) rfl)
    rcases am_ite h with ⟨q3, h⟩ | ⟨q3, h⟩
    · skip
      cases h
      exact w_q2
    · skip
      obtain ⟨q4, h_q4, h⟩ := am_bind h
      have w_q4 : am_fr [(108, 3), (110, 999), (111, 999), (112, 999)] μ q4.2 := am_fr.trans w_q2 (am_fr.mono (w_fM_lies h_q4) rfl)
      rcases am_ite h with ⟨q5, h⟩ | ⟨q5, h⟩
      · skip
        cases h
        exact w_q4
      · skip
        obtain ⟨q6, h_q6, h⟩ := am_bind h
        have w_q6 : am_fr [(108, 3), (110, 999), (111, 999), (112, 999)] μ q6.2 := am_fr.trans w_q4 (am_fr.mono (w_fM_lies h_q6) rfl)
        rcases am_ite h with ⟨q7, h⟩ | ⟨q7, h⟩
        · skip
          obtain ⟨q8, h⟩ := am_bif h
          cases h
          exact (am_fr.up (am_fr.up (am_fr.up (am_fr.up w_q6 rfl) rfl) rfl) rfl)
        · skip
          cases h
          exact w_q6
set_option maxRecDepth 20000 in
theorem w_fM_isFeastDay_87 {k7 : Int32 → Int32 → Int32 → am_Mu → Option (Int32 × am_Mu)} (hk7 : ∀ {a1 : Int32} {a2 : Int32} {a3 : Int32} {μ : am_Mu} {out : Int32 × am_Mu}, k7 a1 a2 a3 μ = some out → am_fr [] μ out.2) : ∀ {a1 : Int32} {a2 : Int32} {a3 : Int32} {μ : am_Mu} {out : Int32 × am_Mu}, fM_isFeastDay_87 k7 a1 a2 a3 μ = some out → am_fr [] μ out.2 := by
  intro a1 a2 a3 μ out h
  unfold fM_isFeastDay_87 at h
  exact am_fr.trans am_fr.rf (hk7 h)
set_option maxRecDepth 20000 in
theorem w_fM_isFeastDay_81 {k7 : Int32 → Int32 → Int32 → am_Mu → Option (Int32 × am_Mu)} {k18 : Int32 → Int32 → Int32 → Int32 → am_Mu → Option (Int32 × am_Mu)} (hk7 : ∀ {a1 : Int32} {a2 : Int32} {a3 : Int32} {μ : am_Mu} {out : Int32 × am_Mu}, k7 a1 a2 a3 μ = some out → am_fr [] μ out.2) (hk18 : ∀ {a1 : Int32} {a2 : Int32} {a3 : Int32} {a4 : Int32} {μ : am_Mu} {out : Int32 × am_Mu}, k18 a1 a2 a3 a4 μ = some out → am_fr [] μ out.2) : ∀ {a1 : Int32} {a2 : Int32} {a3 : Int32} {a4 : Int32} {μ : am_Mu} {out : Int32 × am_Mu}, fM_isFeastDay_81 k7 k18 a1 a2 a3 a4 μ = some out → am_fr [] μ out.2 := by
  intro a1 a2 a3 a4 μ out h
  unfold fM_isFeastDay_81 at h
  exact am_fr.trans am_fr.rf (hk18 h)
set_option maxRecDepth 20000 in
theorem w_fM_isFeastDay_18 {k7 : Int32 → Int32 → Int32 → am_Mu → Option (Int32 × am_Mu)} (hk7 : ∀ {a1 : Int32} {a2 : Int32} {a3 : Int32} {μ : am_Mu} {out : Int32 × am_Mu}, k7 a1 a2 a3 μ = some out → am_fr [] μ out.2) : ∀ n : Nat, ∀ {a1 : Int32} {a2 : Int32} {a3 : Int32} {a4 : Int32} {μ : am_Mu} {out : Int32 × am_Mu}, fM_isFeastDay_18 n k7 a1 a2 a3 a4 μ = some out → am_fr [] μ out.2 := by
  intro n
  induction n with
  | zero => intros; contradiction
  | succ n ih =>
    have hk18 : ∀ {a1 : Int32} {a2 : Int32} {a3 : Int32} {a4 : Int32} {μ : am_Mu} {out : Int32 × am_Mu}, (fM_isFeastDay_18 n k7) a1 a2 a3 a4 μ = some out → am_fr [] μ out.2 := ih
    intro a1 a2 a3 a4 μ out h
    unfold fM_isFeastDay_18 at h
    rcases am_ite h with ⟨q1, h⟩ | ⟨q1, h⟩
    · skip
      exact am_fr.trans am_fr.rf (w_fM_isFeastDay_87 hk7 h)
    · skip
      rcases am_ite h with ⟨q2, h⟩ | ⟨q2, h⟩
      · skip
        exact am_fr.trans am_fr.rf (w_fM_isFeastDay_87 hk7 h)
      · skip
        obtain ⟨q3, h_q3, h⟩ := am_bind h
        have w_q3 : am_fr [] μ q3.2 := am_fr.trans am_fr.rf (am_fr.mono (w_fM_begin h_q3) rfl)
        obtain ⟨q4, h⟩ := am_bif h
        rcases am_ite h with ⟨q5, h⟩ | ⟨q5, h⟩
        · skip
          exact am_fr.trans w_q3 (w_fM_isFeastDay_81 hk7 hk18 h)
        · skip
          obtain ⟨q6, h_q6, h⟩ := am_bind h
          have w_q6 : am_fr [] μ q6.2 := am_fr.trans w_q3 (am_fr.mono (w_fM_lies h_q6) rfl)
          rcases am_ite h with ⟨q7, h⟩ | ⟨q7, h⟩
          · skip
            exact am_fr.trans w_q6 (w_fM_isFeastDay_81 hk7 hk18 h)
          · skip
            cases h
            exact w_q6
set_option maxRecDepth 20000 in
theorem w_fM_isFeastDay_7 : ∀ n : Nat, ∀ {a1 : Int32} {a2 : Int32} {a3 : Int32} {μ : am_Mu} {out : Int32 × am_Mu}, fM_isFeastDay_7 n a1 a2 a3 μ = some out → am_fr [] μ out.2 := by
  intro n
  induction n with
  | zero => intros; contradiction
  | succ n ih =>
    have hk7 : ∀ {a1 : Int32} {a2 : Int32} {a3 : Int32} {μ : am_Mu} {out : Int32 × am_Mu}, (fM_isFeastDay_7 n) a1 a2 a3 μ = some out → am_fr [] μ out.2 := ih
    intro a1 a2 a3 μ out h
    unfold fM_isFeastDay_7 at h
    rcases am_ite h with ⟨q1, h⟩ | ⟨q1, h⟩
    · skip
      cases h
      exact am_fr.rf
    · skip
      exact am_fr.trans am_fr.rf (w_fM_isFeastDay_18 hk7 am_F h)
set_option maxRecDepth 20000 in
theorem w_fM_isFeastDay : ∀ {a1 : Int32} {μ : am_Mu} {out : Int32 × am_Mu}, fM_isFeastDay a1 μ = some out → am_fr [] μ out.2 := by
  intro a1 μ out h
  unfold fM_isFeastDay at h
  obtain ⟨q1, h_q1, h⟩ := am_bind h
  have w_q1 : am_fr [] μ q1.2 := am_fr.trans am_fr.rf (am_fr.mono (w_fM_monthOf h_q1) rfl)
  exact am_fr.trans w_q1 (w_fM_isFeastDay_7 am_F h)
set_option maxRecDepth 20000 in
theorem w_fM_isFeast : ∀ {a1 : Int32} {μ : am_Mu} {out : Int32 × am_Mu}, fM_isFeast a1 μ = some out → am_fr [] μ out.2 := by
  intro a1 μ out h
  unfold fM_isFeast at h
  obtain ⟨q1, h_q1, h⟩ := am_bind h
  have w_q1 : am_fr [] μ q1.2 := am_fr.trans am_fr.rf (am_fr.mono (w_fM_lies h_q1) rfl)
  rcases am_ite h with ⟨q2, h⟩ | ⟨q2, h⟩
  · skip
    obtain ⟨q3, h_q3, h⟩ := am_bind h
    have w_q3 : am_fr [] μ q3.2 := am_fr.trans w_q1 (am_fr.mono (w_fM_isFeastDay h_q3) rfl)
    rcases am_ite h with ⟨q4, h⟩ | ⟨q4, h⟩
    · skip
      cases h
      exact w_q3
    · skip
      cases h
      exact w_q3
  · skip
    cases h
    exact w_q1
set_option maxRecDepth 20000 in
theorem w_fM_moon : ∀ {a1 : Int32} {a2 : Int32} {μ : am_Mu} {out : Int32 × am_Mu}, fM_moon a1 a2 μ = some out → am_fr [] μ out.2 := by
  intro a1 a2 μ out h
  unfold fM_moon at h
  obtain ⟨q1, h_q1, h⟩ := am_bind h
  have w_q1 : am_fr [] μ q1.2 := am_fr.trans am_fr.rf (am_fr.mono (w_fM_lies h_q1) rfl)
  rcases am_ite h with ⟨q2, h⟩ | ⟨q2, h⟩
  · skip
    obtain ⟨q3, h_q3, h⟩ := am_bind h
    have w_q3 : am_fr [] μ q3.2 := am_fr.trans w_q1 (am_fr.mono (w_fM_monthOf h_q3) rfl)
    rcases am_ite h with ⟨q4, h⟩ | ⟨q4, h⟩
    · skip
      rcases am_ite h with ⟨q5, h⟩ | ⟨q5, h⟩
      · skip
        rcases am_ite h with ⟨q6, h⟩ | ⟨q6, h⟩
        · skip
          cases h
          exact w_q3
        · skip
          obtain ⟨q7, h_q7, h⟩ := am_bind h
          have w_q7 : am_fr [] μ q7.2 := am_fr.trans w_q3 (am_fr.mono (w_fM_begin h_q7) rfl)
          cases h
          exact w_q7
      · skip
        cases h
        exact w_q3
    · skip
      cases h
      exact w_q3
  · skip
    cases h
    exact w_q1
set_option maxRecDepth 20000 in
theorem w_fM_here : ∀ {μ : am_Mu} {out : Int32 × am_Mu}, fM_here μ = some out → am_fr [] μ out.2 := by
  intro μ out h
  unfold fM_here at h
  rcases am_ite h with ⟨q1, h⟩ | ⟨q1, h⟩
  · skip
    cases h
    exact am_fr.rf
  · skip
    obtain ⟨q2, h⟩ := am_bif h
    cases h
    exact am_fr.rf
set_option maxRecDepth 20000 in
theorem w_fM_fails : ∀ {a1 : Int32} {μ : am_Mu} {out : am_Mu}, fM_fails a1 μ = some out → am_fr [(108, 29)] μ out := by
  intro a1 μ out h
  unfold fM_fails at h
  rcases am_ite h with ⟨q1, h⟩ | ⟨q1, h⟩
  · skip
    cases h
    exact (am_fr.up am_fr.rf rfl)
  · skip
    cases h
    exact (am_fr.up am_fr.rf rfl)
set_option maxRecDepth 20000 in
theorem w_fM_emit : ∀ {a1 : Int32} {a2 : Int32} {a3 : Int32} {μ : am_Mu} {out : am_Mu}, fM_emit a1 a2 a3 μ = some out → am_fr [(108, 31), (128, 999), (129, 999), (130, 999)] μ out := by
  intro a1 a2 a3 μ out h
  unfold fM_emit at h
  rcases am_ite h with ⟨q1, h⟩ | ⟨q1, h⟩
  · skip
    obtain ⟨q2, h⟩ := am_bif h
    cases h
    exact (am_fr.up (am_fr.up (am_fr.up (am_fr.up am_fr.rf rfl) rfl) rfl) rfl)
  · skip
    cases h
    exact am_fr.rf
set_option maxRecDepth 20000 in
theorem w_fM_top : ∀ {μ : am_Mu} {out : Int32 × am_Mu}, fM_top μ = some out → am_fr [] μ out.2 := by
  intro μ out h
  unfold fM_top at h
  rcases am_ite h with ⟨q1, h⟩ | ⟨q1, h⟩
  · skip
    cases h
    exact am_fr.rf
  · skip
    obtain ⟨q2, h⟩ := am_bif h
    cases h
    exact am_fr.rf
set_option maxRecDepth 20000 in
theorem w_fM_puts : ∀ {a1 : Int32} {μ : am_Mu} {out : am_Mu}, fM_puts a1 μ = some out → am_fr [(108, 34), (131, 999)] μ out := by
  intro a1 μ out h
  unfold fM_puts at h
  obtain ⟨q1, h⟩ := am_bif h
  cases h
  exact (am_fr.up (am_fr.up am_fr.rf rfl) rfl)
set_option maxRecDepth 20000 in
theorem w_fM_ends_0 : ∀ n : Nat, ∀ {μ : am_Mu} {out : am_Mu}, fM_ends_0 n μ = some out → am_fr [(108, 31), (108, 33), (108, 34), (128, 999), (129, 999), (130, 999)] μ out := by
  intro n
  induction n with
  | zero => intros; contradiction
  | succ n ih =>
    have hk0 : ∀ {μ : am_Mu} {out : am_Mu}, (fM_ends_0 n) μ = some out → am_fr [(108, 31), (108, 33), (108, 34), (128, 999), (129, 999), (130, 999)] μ out := ih
    intro μ out h
    unfold fM_ends_0 at h
    obtain ⟨q1, h_q1, h⟩ := am_bind h
    have w_q1 : am_fr [(108, 31), (108, 33), (108, 34), (128, 999), (129, 999), (130, 999)] μ q1.2 := am_fr.trans am_fr.rf (am_fr.mono (w_fM_top h_q1) rfl)
    rcases am_ite h with ⟨q2, h⟩ | ⟨q2, h⟩
    · skip
      cases h
      exact w_q1
    · skip
      obtain ⟨q3, h_q3, h⟩ := am_bind h
      have w_q3 : am_fr [(108, 31), (108, 33), (108, 34), (128, 999), (129, 999), (130, 999)] μ q3 := am_fr.trans (am_fr.up (am_fr.up w_q1 rfl) rfl) (am_fr.mono (w_fM_emit h_q3) rfl)
      exact am_fr.trans w_q3 (hk0 h)
set_option maxRecDepth 20000 in
theorem w_fM_ends {μ : am_Mu} {out : am_Mu} (h : fM_ends μ = some out) : am_fr [(108, 31), (108, 33), (108, 34), (128, 999), (129, 999), (130, 999)] μ out := w_fM_ends_0 am_F h
set_option maxRecDepth 20000 in
theorem w_fM_works_37 {k0 : Int32 → am_Mu → Option (am_Mu)} (hk0 : ∀ {a1 : Int32} {μ : am_Mu} {out : am_Mu}, k0 a1 μ = some out → am_fr [(108, 31), (108, 34), (128, 999), (129, 999), (130, 999)] μ out) : ∀ {a1 : Int32} {s1 : Int32} {μ : am_Mu} {out : am_Mu}, fM_works_37 k0 a1 s1 μ = some out → am_fr [(108, 31), (108, 34), (128, 999), (129, 999), (130, 999)] μ out := by
  intro a1 s1 μ out h
  unfold fM_works_37 at h
  obtain ⟨q1, h_q1, h⟩ := am_bind h
  have w_q1 : am_fr [(108, 31), (108, 34), (128, 999), (129, 999), (130, 999)] μ q1 := am_fr.trans am_fr.rf (am_fr.mono (w_fM_emit h_q1) rfl)
  exact am_fr.trans (am_fr.up w_q1 rfl) (hk0 h)
set_option maxRecDepth 20000 in
theorem w_fM_works_22 {k0 : Int32 → am_Mu → Option (am_Mu)} (hk0 : ∀ {a1 : Int32} {μ : am_Mu} {out : am_Mu}, k0 a1 μ = some out → am_fr [(108, 31), (108, 34), (128, 999), (129, 999), (130, 999)] μ out) : ∀ {a1 : Int32} {μ : am_Mu} {out : am_Mu}, fM_works_22 k0 a1 μ = some out → am_fr [(108, 31), (108, 34), (128, 999), (129, 999), (130, 999)] μ out := by
  intro a1 μ out h
  unfold fM_works_22 at h
  obtain ⟨q1, h_q1, h⟩ := am_bind h
  have w_q1 : am_fr [(108, 31), (108, 34), (128, 999), (129, 999), (130, 999)] μ q1.2 := am_fr.trans am_fr.rf (am_fr.mono (w_fM_top h_q1) rfl)
  rcases am_ite h with ⟨q2, h⟩ | ⟨q2, h⟩
  · skip
    exact am_fr.trans w_q1 (w_fM_works_37 hk0 h)
  · skip
    exact am_fr.trans w_q1 (w_fM_works_37 hk0 h)
set_option maxRecDepth 20000 in
theorem w_fM_works_0 : ∀ n : Nat, ∀ {a1 : Int32} {μ : am_Mu} {out : am_Mu}, fM_works_0 n a1 μ = some out → am_fr [(108, 31), (108, 34), (128, 999), (129, 999), (130, 999)] μ out := by
  intro n
  induction n with
  | zero => intros; contradiction
  | succ n ih =>
    have hk0 : ∀ {a1 : Int32} {μ : am_Mu} {out : am_Mu}, (fM_works_0 n) a1 μ = some out → am_fr [(108, 31), (108, 34), (128, 999), (129, 999), (130, 999)] μ out := ih
    intro a1 μ out h
    unfold fM_works_0 at h
    obtain ⟨q1, h_q1, h⟩ := am_bind h
    have w_q1 : am_fr [(108, 31), (108, 34), (128, 999), (129, 999), (130, 999)] μ q1.2 := am_fr.trans am_fr.rf (am_fr.mono (w_fM_top h_q1) rfl)
    rcases am_ite h with ⟨q2, h⟩ | ⟨q2, h⟩
    · skip
      exact am_fr.trans w_q1 (w_fM_works_22 hk0 h)
    · skip
      rcases am_ite h with ⟨q3, h⟩ | ⟨q3, h⟩
      · skip
        cases h
        exact w_q1
      · skip
        obtain ⟨q4, h_q4, h⟩ := am_bind h
        have w_q4 : am_fr [(108, 31), (108, 34), (128, 999), (129, 999), (130, 999)] μ q4.2 := am_fr.trans w_q1 (am_fr.mono (w_fM_top h_q4) rfl)
        rcases am_ite h with ⟨q5, h⟩ | ⟨q5, h⟩
        · skip
          cases h
          exact w_q4
        · skip
          exact am_fr.trans w_q4 (w_fM_works_22 hk0 h)
set_option maxRecDepth 20000 in
theorem w_fM_works {a1 : Int32} {μ : am_Mu} {out : am_Mu} (h : fM_works a1 μ = some out) : am_fr [(108, 31), (108, 34), (128, 999), (129, 999), (130, 999)] μ out := w_fM_works_0 am_F h
set_option maxRecDepth 20000 in
theorem w_fM_isSide_12 : ∀ {μ : am_Mu} {out : Int32 × am_Mu}, fM_isSide_12 μ = some out → am_fr [] μ out.2 := by
  intro μ out h
  unfold fM_isSide_12 at h
  cases h
  exact am_fr.rf
set_option maxRecDepth 20000 in
theorem w_fM_isSide : ∀ {a0 : Int32} {μ : am_Mu} {out : Int32 × am_Mu}, fM_isSide a0 μ = some out → am_fr [] μ out.2 := by
  intro a0 μ out h
  unfold fM_isSide at h
  rcases am_ite h with ⟨q1, h⟩ | ⟨q1, h⟩
  · skip
    exact am_fr.trans am_fr.rf (w_fM_isSide_12 h)
  · skip
    rcases am_ite h with ⟨q2, h⟩ | ⟨q2, h⟩
    · skip
      cases h
      exact am_fr.rf
    · skip
      exact am_fr.trans am_fr.rf (w_fM_isSide_12 h)
set_option maxRecDepth 20000 in
theorem w_fM_sideMark_45 : ∀ {a1 : Int32} {a2 : Int32} {μ : am_Mu} {out : Int32 × am_Mu}, fM_sideMark_45 a1 a2 μ = some out → am_fr [(108, 27), (108, 29)] μ out.2 := by
  intro a1 a2 μ out h
  unfold fM_sideMark_45 at h
  cases h
  exact (am_fr.up am_fr.rf rfl)
set_option maxRecDepth 20000 in
theorem w_fM_sideMark_14 : ∀ {s0 : Int32} {μ : am_Mu} {out : Int32 × am_Mu}, fM_sideMark_14 s0 μ = some out → am_fr [(108, 27), (108, 29)] μ out.2 := by
  intro s0 μ out h
  unfold fM_sideMark_14 at h
  obtain ⟨q1, h_q1, h⟩ := am_bind h
  have w_q1 : am_fr [(108, 27), (108, 29)] μ q1.2 := am_fr.trans (am_fr.up am_fr.rf rfl) (am_fr.mono (w_fM_here h_q1) rfl)
  obtain ⟨q2, h_q2, h⟩ := am_bind h
  have w_q2 : am_fr [(108, 27), (108, 29)] μ q2.2 := am_fr.trans w_q1 (am_fr.mono (w_fM_isMark h_q2) rfl)
  rcases am_ite h with ⟨q3, h⟩ | ⟨q3, h⟩
  · skip
    exact am_fr.trans w_q2 (w_fM_sideMark_45 h)
  · skip
    obtain ⟨q4, h_q4, h⟩ := am_bind h
    have w_q4 : am_fr [(108, 27), (108, 29)] μ q4 := am_fr.trans w_q2 (am_fr.mono (w_fM_fails h_q4) rfl)
    exact am_fr.trans w_q4 (w_fM_sideMark_45 h)
set_option maxRecDepth 20000 in
theorem w_fM_sideMark : ∀ {μ : am_Mu} {out : Int32 × am_Mu}, fM_sideMark μ = some out → am_fr [(108, 27), (108, 29)] μ out.2 := by
  intro μ out h
  unfold fM_sideMark at h
  obtain ⟨q1, h_q1, h⟩ := am_bind h
  have w_q1 : am_fr [(108, 27), (108, 29)] μ q1.2 := am_fr.trans am_fr.rf (am_fr.mono (w_fM_here h_q1) rfl)
  rcases am_ite h with ⟨q2, h⟩ | ⟨q2, h⟩
  · skip
    exact am_fr.trans w_q1 (w_fM_sideMark_14 h)
  · skip
    exact am_fr.trans w_q1 (w_fM_sideMark_14 h)
set_option maxRecDepth 20000 in
theorem w_fM_number_63 {k26 : Int32 → Int32 → am_Mu → Option (Int32 × am_Mu)} (hk26 : ∀ {a1 : Int32} {a2 : Int32} {μ : am_Mu} {out : Int32 × am_Mu}, k26 a1 a2 μ = some out → am_fr [(108, 27), (108, 29)] μ out.2) : ∀ {a1 : Int32} {a2 : Int32} {μ : am_Mu} {out : Int32 × am_Mu}, fM_number_63 k26 a1 a2 μ = some out → am_fr [(108, 27), (108, 29)] μ out.2 := by
  intro a1 a2 μ out h
  unfold fM_number_63 at h
  obtain ⟨q1, h_q1, h⟩ := am_bind h
  have w_q1 : am_fr [(108, 27), (108, 29)] μ q1.2 := am_fr.trans am_fr.rf (am_fr.mono (w_fM_here h_q1) rfl)
  exact am_fr.trans (am_fr.up w_q1 rfl) (hk26 h)
set_option maxRecDepth 20000 in
theorem w_fM_number_26 : ∀ n : Nat, ∀ {a1 : Int32} {a2 : Int32} {μ : am_Mu} {out : Int32 × am_Mu}, fM_number_26 n a1 a2 μ = some out → am_fr [(108, 27), (108, 29)] μ out.2 := by
  intro n
  induction n with
  | zero => intros; contradiction
  | succ n ih =>
    have hk26 : ∀ {a1 : Int32} {a2 : Int32} {μ : am_Mu} {out : Int32 × am_Mu}, (fM_number_26 n) a1 a2 μ = some out → am_fr [(108, 27), (108, 29)] μ out.2 := ih
    intro a1 a2 μ out h
    unfold fM_number_26 at h
    rcases am_ite h with ⟨q1, h⟩ | ⟨q1, h⟩
    · skip
      cases h
      exact am_fr.rf
    · skip
      obtain ⟨q2, h_q2, h⟩ := am_bind h
      have w_q2 : am_fr [(108, 27), (108, 29)] μ q2.2 := am_fr.trans am_fr.rf (am_fr.mono (w_fM_here h_q2) rfl)
      obtain ⟨q3, h_q3, h⟩ := am_bind h
      have w_q3 : am_fr [(108, 27), (108, 29)] μ q3.2 := am_fr.trans w_q2 (am_fr.mono (w_fM_lies h_q3) rfl)
      rcases am_ite h with ⟨q4, h⟩ | ⟨q4, h⟩
      · skip
        cases h
        exact w_q3
      · skip
        rcases am_ite h with ⟨q5, h⟩ | ⟨q5, h⟩
        · skip
          exact am_fr.trans w_q3 (w_fM_number_63 hk26 h)
        · skip
          obtain ⟨q6, h_q6, h⟩ := am_bind h
          have w_q6 : am_fr [(108, 27), (108, 29)] μ q6 := am_fr.trans w_q3 (am_fr.mono (w_fM_fails h_q6) rfl)
          exact am_fr.trans w_q6 (w_fM_number_63 hk26 h)
set_option maxRecDepth 20000 in
theorem w_fM_number : ∀ {μ : am_Mu} {out : Int32 × am_Mu}, fM_number μ = some out → am_fr [(108, 27), (108, 29)] μ out.2 := by
  intro μ out h
  unfold fM_number at h
  obtain ⟨q1, h_q1, h⟩ := am_bind h
  have w_q1 : am_fr [(108, 27), (108, 29)] μ q1.2 := am_fr.trans am_fr.rf (am_fr.mono (w_fM_here h_q1) rfl)
  obtain ⟨q2, h_q2, h⟩ := am_bind h
  have w_q2 : am_fr [(108, 27), (108, 29)] μ q2.2 := am_fr.trans w_q1 (am_fr.mono (w_fM_lies h_q2) rfl)
  rcases am_ite h with ⟨q3, h⟩ | ⟨q3, h⟩
  · skip
    exact am_fr.trans w_q2 (w_fM_number_26 am_F h)
  · skip
    obtain ⟨q4, h_q4, h⟩ := am_bind h
    have w_q4 : am_fr [(108, 27), (108, 29)] μ q4 := am_fr.trans w_q2 (am_fr.mono (w_fM_fails h_q4) rfl)
    exact am_fr.trans w_q4 (w_fM_number_26 am_F h)
set_option maxRecDepth 20000 in
theorem w_fM_piece_200 : ∀ {a2 : Int32} {a3 : Int32} {μ : am_Mu} {out : am_Mu}, fM_piece_200 a2 a3 μ = some out → am_fr [(108, 27), (108, 29), (108, 31), (108, 32), (108, 33), (108, 34), (128, 999), (129, 999), (130, 999), (131, 999)] μ out := by
  intro a2 a3 μ out h
  unfold fM_piece_200 at h
  obtain ⟨q1, h_q1, h⟩ := am_bind h
  have w_q1 : am_fr [(108, 27), (108, 29), (108, 31), (108, 32), (108, 33), (108, 34), (128, 999), (129, 999), (130, 999), (131, 999)] μ q1 := am_fr.trans am_fr.rf (am_fr.mono (w_fM_emit h_q1) rfl)
  cases h
  exact w_q1
set_option maxRecDepth 20000 in
theorem w_fM_piece_122 : ∀ {a1 : Int32} {μ : am_Mu} {out : am_Mu}, fM_piece_122 a1 μ = some out → am_fr [(108, 27), (108, 29), (108, 31), (108, 32), (108, 33), (108, 34), (128, 999), (129, 999), (130, 999), (131, 999)] μ out := by
  intro a1 μ out h
  unfold fM_piece_122 at h
  rcases am_ite h with ⟨q1, h⟩ | ⟨q1, h⟩
  · skip
    rcases am_ite h with ⟨q2, h⟩ | ⟨q2, h⟩
    · skip
      obtain ⟨q3, h_q3, h⟩ := am_bind h
      have w_q3 : am_fr [(108, 27), (108, 29), (108, 31), (108, 32), (108, 33), (108, 34), (128, 999), (129, 999), (130, 999), (131, 999)] μ q3.2 := am_fr.trans (am_fr.up am_fr.rf rfl) (am_fr.mono (w_fM_sideMark h_q3) rfl)
      rcases am_ite h with ⟨q4, h⟩ | ⟨q4, h⟩
      · skip
        exact am_fr.trans w_q3 (w_fM_piece_200 h)
      · skip
        obtain ⟨q5, h_q5, h⟩ := am_bind h
        have w_q5 : am_fr [(108, 27), (108, 29), (108, 31), (108, 32), (108, 33), (108, 34), (128, 999), (129, 999), (130, 999), (131, 999)] μ q5.2 := am_fr.trans w_q3 (am_fr.mono (w_fM_here h_q5) rfl)
        rcases am_ite h with ⟨q6, h⟩ | ⟨q6, h⟩
        · skip
          exact am_fr.trans w_q5 (w_fM_piece_200 h)
        · skip
          obtain ⟨q7, h_q7, h⟩ := am_bind h
          have w_q7 : am_fr [(108, 27), (108, 29), (108, 31), (108, 32), (108, 33), (108, 34), (128, 999), (129, 999), (130, 999), (131, 999)] μ q7.2 := am_fr.trans (am_fr.up w_q5 rfl) (am_fr.mono (w_fM_number h_q7) rfl)
          exact am_fr.trans w_q7 (w_fM_piece_200 h)
    · skip
      obtain ⟨q8, h_q8, h⟩ := am_bind h
      have w_q8 : am_fr [(108, 27), (108, 29), (108, 31), (108, 32), (108, 33), (108, 34), (128, 999), (129, 999), (130, 999), (131, 999)] μ q8 := am_fr.trans (am_fr.up (am_fr.up am_fr.rf rfl) rfl) (am_fr.mono (w_fM_emit h_q8) rfl)
      cases h
      exact w_q8
  · skip
    cases h
    exact am_fr.rf
set_option maxRecDepth 20000 in
theorem w_fM_piece_107 : ∀ {a1 : Int32} {μ : am_Mu} {out : am_Mu}, fM_piece_107 a1 μ = some out → am_fr [(108, 27), (108, 29), (108, 31), (108, 32), (108, 33), (108, 34), (128, 999), (129, 999), (130, 999), (131, 999)] μ out := by
  intro a1 μ out h
  unfold fM_piece_107 at h
  rcases am_ite h with ⟨q1, h⟩ | ⟨q1, h⟩
  · skip
    exact am_fr.trans am_fr.rf (w_fM_piece_122 h)
  · skip
    obtain ⟨q2, h_q2, h⟩ := am_bind h
    have w_q2 : am_fr [(108, 27), (108, 29), (108, 31), (108, 32), (108, 33), (108, 34), (128, 999), (129, 999), (130, 999), (131, 999)] μ q2 := am_fr.trans am_fr.rf (am_fr.mono (w_fM_fails h_q2) rfl)
    exact am_fr.trans w_q2 (w_fM_piece_122 h)
set_option maxRecDepth 20000 in
theorem w_fM_piece_70 : ∀ {μ : am_Mu} {out : am_Mu}, fM_piece_70 μ = some out → am_fr [(108, 27), (108, 29), (108, 31), (108, 32), (108, 33), (108, 34), (128, 999), (129, 999), (130, 999), (131, 999)] μ out := by
  intro μ out h
  unfold fM_piece_70 at h
  rcases am_ite h with ⟨q1, h⟩ | ⟨q1, h⟩
  · skip
    obtain ⟨q2, h_q2, h⟩ := am_bind h
    have w_q2 : am_fr [(108, 27), (108, 29), (108, 31), (108, 32), (108, 33), (108, 34), (128, 999), (129, 999), (130, 999), (131, 999)] μ q2.2 := am_fr.trans am_fr.rf (am_fr.mono (w_fM_here h_q2) rfl)
    obtain ⟨q3, h_q3, h⟩ := am_bind h
    have w_q3 : am_fr [(108, 27), (108, 29), (108, 31), (108, 32), (108, 33), (108, 34), (128, 999), (129, 999), (130, 999), (131, 999)] μ q3.2 := am_fr.trans w_q2 (am_fr.mono (w_fM_isSide h_q3) rfl)
    rcases am_ite h with ⟨q4, h⟩ | ⟨q4, h⟩
    · skip
      exact am_fr.trans w_q3 (w_fM_piece_107 h)
    · skip
      obtain ⟨q5, h_q5, h⟩ := am_bind h
      have w_q5 : am_fr [(108, 27), (108, 29), (108, 31), (108, 32), (108, 33), (108, 34), (128, 999), (129, 999), (130, 999), (131, 999)] μ q5.2 := am_fr.trans w_q3 (am_fr.mono (w_fM_here h_q5) rfl)
      rcases am_ite h with ⟨q6, h⟩ | ⟨q6, h⟩
      · skip
        exact am_fr.trans w_q5 (w_fM_piece_107 h)
      · skip
        obtain ⟨q7, h_q7, h⟩ := am_bind h
        have w_q7 : am_fr [(108, 27), (108, 29), (108, 31), (108, 32), (108, 33), (108, 34), (128, 999), (129, 999), (130, 999), (131, 999)] μ q7 := am_fr.trans w_q5 (am_fr.mono (w_fM_fails h_q7) rfl)
        exact am_fr.trans w_q7 (w_fM_piece_122 h)
  · skip
    cases h
    exact am_fr.rf
set_option maxRecDepth 20000 in
theorem w_fM_piece_39 {k0 : am_Mu → Option (am_Mu)} (hk0 : ∀ {μ : am_Mu} {out : am_Mu}, k0 μ = some out → am_fr [(108, 27), (108, 29), (108, 31), (108, 32), (108, 33), (108, 34), (128, 999), (129, 999), (130, 999), (131, 999)] μ out) : ∀ {μ : am_Mu} {out : am_Mu}, fM_piece_39 k0 μ = some out → am_fr [(108, 27), (108, 29), (108, 31), (108, 32), (108, 33), (108, 34), (128, 999), (129, 999), (130, 999), (131, 999)] μ out := by
  intro μ out h
  unfold fM_piece_39 at h
  obtain ⟨q1, h_q1, h⟩ := am_bind h
  have w_q1 : am_fr [(108, 27), (108, 29), (108, 31), (108, 32), (108, 33), (108, 34), (128, 999), (129, 999), (130, 999), (131, 999)] μ q1.2 := am_fr.trans am_fr.rf (am_fr.mono (w_fM_here h_q1) rfl)
  obtain ⟨q2, h_q2, h⟩ := am_bind h
  have w_q2 : am_fr [(108, 27), (108, 29), (108, 31), (108, 32), (108, 33), (108, 34), (128, 999), (129, 999), (130, 999), (131, 999)] μ q2 := am_fr.trans w_q1 (am_fr.mono (w_fM_puts h_q2) rfl)
  exact am_fr.trans (am_fr.up (am_fr.up w_q2 rfl) rfl) (hk0 h)
set_option maxRecDepth 20000 in
theorem w_fM_piece_25 {k0 : am_Mu → Option (am_Mu)} (hk0 : ∀ {μ : am_Mu} {out : am_Mu}, k0 μ = some out → am_fr [(108, 27), (108, 29), (108, 31), (108, 32), (108, 33), (108, 34), (128, 999), (129, 999), (130, 999), (131, 999)] μ out) : ∀ {μ : am_Mu} {out : am_Mu}, fM_piece_25 k0 μ = some out → am_fr [(108, 27), (108, 29), (108, 31), (108, 32), (108, 33), (108, 34), (128, 999), (129, 999), (130, 999), (131, 999)] μ out := by
  intro μ out h
  unfold fM_piece_25 at h
  rcases am_ite h with ⟨q1, h⟩ | ⟨q1, h⟩
  · skip
    exact am_fr.trans am_fr.rf (w_fM_piece_39 hk0 h)
  · skip
    obtain ⟨q2, h_q2, h⟩ := am_bind h
    have w_q2 : am_fr [(108, 27), (108, 29), (108, 31), (108, 32), (108, 33), (108, 34), (128, 999), (129, 999), (130, 999), (131, 999)] μ q2 := am_fr.trans am_fr.rf (am_fr.mono (w_fM_fails h_q2) rfl)
    exact am_fr.trans w_q2 (w_fM_piece_39 hk0 h)
set_option maxRecDepth 20000 in
theorem w_fM_piece_0 : ∀ n : Nat, ∀ {μ : am_Mu} {out : am_Mu}, fM_piece_0 n μ = some out → am_fr [(108, 27), (108, 29), (108, 31), (108, 32), (108, 33), (108, 34), (128, 999), (129, 999), (130, 999), (131, 999)] μ out := by
  intro n
  induction n with
  | zero => intros; contradiction
  | succ n ih =>
    have hk0 : ∀ {μ : am_Mu} {out : am_Mu}, (fM_piece_0 n) μ = some out → am_fr [(108, 27), (108, 29), (108, 31), (108, 32), (108, 33), (108, 34), (128, 999), (129, 999), (130, 999), (131, 999)] μ out := ih
    intro μ out h
    unfold fM_piece_0 at h
    rcases am_ite h with ⟨q1, h⟩ | ⟨q1, h⟩
    · skip
      exact am_fr.trans am_fr.rf (w_fM_piece_70 h)
    · skip
      obtain ⟨q2, h_q2, h⟩ := am_bind h
      have w_q2 : am_fr [(108, 27), (108, 29), (108, 31), (108, 32), (108, 33), (108, 34), (128, 999), (129, 999), (130, 999), (131, 999)] μ q2.2 := am_fr.trans am_fr.rf (am_fr.mono (w_fM_here h_q2) rfl)
      rcases am_ite h with ⟨q3, h⟩ | ⟨q3, h⟩
      · skip
        exact am_fr.trans w_q2 (w_fM_piece_25 hk0 h)
      · skip
        obtain ⟨q4, h_q4, h⟩ := am_bind h
        have w_q4 : am_fr [(108, 27), (108, 29), (108, 31), (108, 32), (108, 33), (108, 34), (128, 999), (129, 999), (130, 999), (131, 999)] μ q4.2 := am_fr.trans w_q2 (am_fr.mono (w_fM_here h_q4) rfl)
        rcases am_ite h with ⟨q5, h⟩ | ⟨q5, h⟩
        · skip
          exact am_fr.trans w_q4 (w_fM_piece_70 h)
        · skip
          exact am_fr.trans w_q4 (w_fM_piece_25 hk0 h)
set_option maxRecDepth 20000 in
theorem w_fM_piece {μ : am_Mu} {out : am_Mu} (h : fM_piece μ = some out) : am_fr [(108, 27), (108, 29), (108, 31), (108, 32), (108, 33), (108, 34), (128, 999), (129, 999), (130, 999), (131, 999)] μ out := w_fM_piece_0 am_F h
set_option maxRecDepth 20000 in
theorem w_fM_closes : ∀ {μ : am_Mu} {out : am_Mu}, fM_closes μ = some out → am_fr [(108, 27), (108, 29), (108, 31), (108, 33), (108, 34), (128, 999), (129, 999), (130, 999)] μ out := by
  intro μ out h
  unfold fM_closes at h
  obtain ⟨q1, h_q1, h⟩ := am_bind h
  have w_q1 : am_fr [(108, 27), (108, 29), (108, 31), (108, 33), (108, 34), (128, 999), (129, 999), (130, 999)] μ q1 := am_fr.trans am_fr.rf (am_fr.mono (w_fM_works h_q1) rfl)
  obtain ⟨q2, h_q2, h⟩ := am_bind h
  have w_q2 : am_fr [(108, 27), (108, 29), (108, 31), (108, 33), (108, 34), (128, 999), (129, 999), (130, 999)] μ q2.2 := am_fr.trans w_q1 (am_fr.mono (w_fM_top h_q2) rfl)
  rcases am_ite h with ⟨q3, h⟩ | ⟨q3, h⟩
  · skip
    obtain ⟨q4, h_q4, h⟩ := am_bind h
    have w_q4 : am_fr [(108, 27), (108, 29), (108, 31), (108, 33), (108, 34), (128, 999), (129, 999), (130, 999)] μ q4 := am_fr.trans (am_fr.up (am_fr.up (am_fr.up w_q2 rfl) rfl) rfl) (am_fr.mono (w_fM_ends h_q4) rfl)
    cases h
    exact w_q4
  · skip
    obtain ⟨q5, h_q5, h⟩ := am_bind h
    have w_q5 : am_fr [(108, 27), (108, 29), (108, 31), (108, 33), (108, 34), (128, 999), (129, 999), (130, 999)] μ q5 := am_fr.trans w_q2 (am_fr.mono (w_fM_fails h_q5) rfl)
    cases h
    exact w_q5
set_option maxRecDepth 20000 in
theorem w_fM_condition_158 : ∀ {μ : am_Mu} {out : am_Mu}, fM_condition_158 μ = some out → am_fr [(108, 27), (108, 29), (108, 31), (108, 32), (108, 33), (108, 34), (128, 999), (129, 999), (130, 999), (131, 999)] μ out := by
  intro μ out h
  unfold fM_condition_158 at h
  cases h
  exact (am_fr.up am_fr.rf rfl)
set_option maxRecDepth 20000 in
theorem w_fM_condition_153 : ∀ {μ : am_Mu} {out : am_Mu}, fM_condition_153 μ = some out → am_fr [(108, 27), (108, 29), (108, 31), (108, 32), (108, 33), (108, 34), (128, 999), (129, 999), (130, 999), (131, 999)] μ out := by
  intro μ out h
  unfold fM_condition_153 at h
  obtain ⟨q1, h_q1, h⟩ := am_bind h
  have w_q1 : am_fr [(108, 27), (108, 29), (108, 31), (108, 32), (108, 33), (108, 34), (128, 999), (129, 999), (130, 999), (131, 999)] μ q1 := am_fr.trans am_fr.rf (am_fr.mono (w_fM_fails h_q1) rfl)
  exact am_fr.trans w_q1 (w_fM_condition_158 h)
set_option maxRecDepth 20000 in
theorem w_fM_condition_124 : ∀ {μ : am_Mu} {out : am_Mu}, fM_condition_124 μ = some out → am_fr [(108, 27), (108, 29), (108, 31), (108, 32), (108, 33), (108, 34), (128, 999), (129, 999), (130, 999), (131, 999)] μ out := by
  intro μ out h
  unfold fM_condition_124 at h
  rcases am_ite h with ⟨q1, h⟩ | ⟨q1, h⟩
  · skip
    obtain ⟨q2, h_q2, h⟩ := am_bind h
    have w_q2 : am_fr [(108, 27), (108, 29), (108, 31), (108, 32), (108, 33), (108, 34), (128, 999), (129, 999), (130, 999), (131, 999)] μ q2 := am_fr.trans am_fr.rf (am_fr.mono (w_fM_works h_q2) rfl)
    obtain ⟨q3, h_q3, h⟩ := am_bind h
    have w_q3 : am_fr [(108, 27), (108, 29), (108, 31), (108, 32), (108, 33), (108, 34), (128, 999), (129, 999), (130, 999), (131, 999)] μ q3.2 := am_fr.trans w_q2 (am_fr.mono (w_fM_here h_q3) rfl)
    rcases am_ite h with ⟨q4, h⟩ | ⟨q4, h⟩
    · skip
      exact am_fr.trans w_q3 (w_fM_condition_153 h)
    · skip
      rcases am_ite h with ⟨q5, h⟩ | ⟨q5, h⟩
      · skip
        exact am_fr.trans w_q3 (w_fM_condition_158 h)
      · skip
        exact am_fr.trans w_q3 (w_fM_condition_153 h)
  · skip
    cases h
    exact am_fr.rf
set_option maxRecDepth 20000 in
theorem w_fM_condition_103 {k12 : Int32 → am_Mu → Option (am_Mu)} (hk12 : ∀ {a1 : Int32} {μ : am_Mu} {out : am_Mu}, k12 a1 μ = some out → am_fr [(108, 27), (108, 29), (108, 31), (108, 32), (108, 33), (108, 34), (128, 999), (129, 999), (130, 999), (131, 999)] μ out) : ∀ {a1 : Int32} {a2 : Int32} {s1 : Int32} {μ : am_Mu} {out : am_Mu}, fM_condition_103 k12 a1 a2 s1 μ = some out → am_fr [(108, 27), (108, 29), (108, 31), (108, 32), (108, 33), (108, 34), (128, 999), (129, 999), (130, 999), (131, 999)] μ out := by
  intro a1 a2 s1 μ out h
  unfold fM_condition_103 at h
  obtain ⟨q1, h_q1, h⟩ := am_bind h
  have w_q1 : am_fr [(108, 27), (108, 29), (108, 31), (108, 32), (108, 33), (108, 34), (128, 999), (129, 999), (130, 999), (131, 999)] μ q1 := am_fr.trans am_fr.rf (am_fr.mono (w_fM_works h_q1) rfl)
  obtain ⟨q2, h_q2, h⟩ := am_bind h
  have w_q2 : am_fr [(108, 27), (108, 29), (108, 31), (108, 32), (108, 33), (108, 34), (128, 999), (129, 999), (130, 999), (131, 999)] μ q2 := am_fr.trans w_q1 (am_fr.mono (w_fM_puts h_q2) rfl)
  exact am_fr.trans (am_fr.up w_q2 rfl) (hk12 h)
set_option maxRecDepth 20000 in
theorem w_fM_condition_76 {k12 : Int32 → am_Mu → Option (am_Mu)} (hk12 : ∀ {a1 : Int32} {μ : am_Mu} {out : am_Mu}, k12 a1 μ = some out → am_fr [(108, 27), (108, 29), (108, 31), (108, 32), (108, 33), (108, 34), (128, 999), (129, 999), (130, 999), (131, 999)] μ out) : ∀ {a2 : Int32} {s0 : Int32} {μ : am_Mu} {out : am_Mu}, fM_condition_76 k12 a2 s0 μ = some out → am_fr [(108, 27), (108, 29), (108, 31), (108, 32), (108, 33), (108, 34), (128, 999), (129, 999), (130, 999), (131, 999)] μ out := by
  intro a2 s0 μ out h
  unfold fM_condition_76 at h
  rcases am_ite h with ⟨q1, h⟩ | ⟨q1, h⟩
  · skip
    exact am_fr.trans am_fr.rf (hk12 h)
  · skip
    rcases am_ite h with ⟨q2, h⟩ | ⟨q2, h⟩
    · skip
      rcases am_ite h with ⟨q3, h⟩ | ⟨q3, h⟩
      · skip
        exact am_fr.trans am_fr.rf (w_fM_condition_103 hk12 h)
      · skip
        exact am_fr.trans am_fr.rf (w_fM_condition_103 hk12 h)
    · skip
      exact am_fr.trans am_fr.rf (hk12 h)
set_option maxRecDepth 20000 in
theorem w_fM_condition_71 {k12 : Int32 → am_Mu → Option (am_Mu)} (hk12 : ∀ {a1 : Int32} {μ : am_Mu} {out : am_Mu}, k12 a1 μ = some out → am_fr [(108, 27), (108, 29), (108, 31), (108, 32), (108, 33), (108, 34), (128, 999), (129, 999), (130, 999), (131, 999)] μ out) : ∀ {a2 : Int32} {μ : am_Mu} {out : am_Mu}, fM_condition_71 k12 a2 μ = some out → am_fr [(108, 27), (108, 29), (108, 31), (108, 32), (108, 33), (108, 34), (128, 999), (129, 999), (130, 999), (131, 999)] μ out := by
  intro a2 μ out h
  unfold fM_condition_71 at h
  exact am_fr.trans am_fr.rf (w_fM_condition_76 hk12 h)
set_option maxRecDepth 20000 in
theorem w_fM_condition_54 {k12 : Int32 → am_Mu → Option (am_Mu)} (hk12 : ∀ {a1 : Int32} {μ : am_Mu} {out : am_Mu}, k12 a1 μ = some out → am_fr [(108, 27), (108, 29), (108, 31), (108, 32), (108, 33), (108, 34), (128, 999), (129, 999), (130, 999), (131, 999)] μ out) : ∀ {μ : am_Mu} {out : am_Mu}, fM_condition_54 k12 μ = some out → am_fr [(108, 27), (108, 29), (108, 31), (108, 32), (108, 33), (108, 34), (128, 999), (129, 999), (130, 999), (131, 999)] μ out := by
  intro μ out h
  unfold fM_condition_54 at h
  obtain ⟨q1, h_q1, h⟩ := am_bind h
  have w_q1 : am_fr [(108, 27), (108, 29), (108, 31), (108, 32), (108, 33), (108, 34), (128, 999), (129, 999), (130, 999), (131, 999)] μ q1.2 := am_fr.trans am_fr.rf (am_fr.mono (w_fM_here h_q1) rfl)
  rcases am_ite h with ⟨q2, h⟩ | ⟨q2, h⟩
  · skip
    exact am_fr.trans w_q1 (w_fM_condition_71 hk12 h)
  · skip
    rcases am_ite h with ⟨q3, h⟩ | ⟨q3, h⟩
    · skip
      exact am_fr.trans w_q1 (w_fM_condition_76 hk12 h)
    · skip
      exact am_fr.trans w_q1 (w_fM_condition_71 hk12 h)
set_option maxRecDepth 20000 in
theorem w_fM_condition_31 {k12 : Int32 → am_Mu → Option (am_Mu)} (hk12 : ∀ {a1 : Int32} {μ : am_Mu} {out : am_Mu}, k12 a1 μ = some out → am_fr [(108, 27), (108, 29), (108, 31), (108, 32), (108, 33), (108, 34), (128, 999), (129, 999), (130, 999), (131, 999)] μ out) : ∀ n : Nat, ∀ {μ : am_Mu} {out : am_Mu}, fM_condition_31 n k12 μ = some out → am_fr [(108, 27), (108, 29), (108, 31), (108, 32), (108, 33), (108, 34), (128, 999), (129, 999), (130, 999), (131, 999)] μ out := by
  intro n
  induction n with
  | zero => intros; contradiction
  | succ n ih =>
    have hk31 : ∀ {μ : am_Mu} {out : am_Mu}, (fM_condition_31 n k12) μ = some out → am_fr [(108, 27), (108, 29), (108, 31), (108, 32), (108, 33), (108, 34), (128, 999), (129, 999), (130, 999), (131, 999)] μ out := ih
    intro μ out h
    unfold fM_condition_31 at h
    rcases am_ite h with ⟨q1, h⟩ | ⟨q1, h⟩
    · skip
      exact am_fr.trans am_fr.rf (w_fM_condition_54 hk12 h)
    · skip
      obtain ⟨q2, h_q2, h⟩ := am_bind h
      have w_q2 : am_fr [(108, 27), (108, 29), (108, 31), (108, 32), (108, 33), (108, 34), (128, 999), (129, 999), (130, 999), (131, 999)] μ q2.2 := am_fr.trans am_fr.rf (am_fr.mono (w_fM_here h_q2) rfl)
      rcases am_ite h with ⟨q3, h⟩ | ⟨q3, h⟩
      · skip
        exact am_fr.trans w_q2 (w_fM_condition_54 hk12 h)
      · skip
        obtain ⟨q4, h_q4, h⟩ := am_bind h
        have w_q4 : am_fr [(108, 27), (108, 29), (108, 31), (108, 32), (108, 33), (108, 34), (128, 999), (129, 999), (130, 999), (131, 999)] μ q4 := am_fr.trans w_q2 (am_fr.mono (w_fM_closes h_q4) rfl)
        exact am_fr.trans w_q4 (hk31 h)
set_option maxRecDepth 20000 in
theorem w_fM_condition_12 : ∀ n : Nat, ∀ {a1 : Int32} {μ : am_Mu} {out : am_Mu}, fM_condition_12 n a1 μ = some out → am_fr [(108, 27), (108, 29), (108, 31), (108, 32), (108, 33), (108, 34), (128, 999), (129, 999), (130, 999), (131, 999)] μ out := by
  intro n
  induction n with
  | zero => intros; contradiction
  | succ n ih =>
    have hk12 : ∀ {a1 : Int32} {μ : am_Mu} {out : am_Mu}, (fM_condition_12 n) a1 μ = some out → am_fr [(108, 27), (108, 29), (108, 31), (108, 32), (108, 33), (108, 34), (128, 999), (129, 999), (130, 999), (131, 999)] μ out := ih
    intro a1 μ out h
    unfold fM_condition_12 at h
    rcases am_ite h with ⟨q1, h⟩ | ⟨q1, h⟩
    · skip
      exact am_fr.trans am_fr.rf (w_fM_condition_124 h)
    · skip
      rcases am_ite h with ⟨q2, h⟩ | ⟨q2, h⟩
      · skip
        exact am_fr.trans am_fr.rf (w_fM_condition_124 h)
      · skip
        obtain ⟨q3, h_q3, h⟩ := am_bind h
        have w_q3 : am_fr [(108, 27), (108, 29), (108, 31), (108, 32), (108, 33), (108, 34), (128, 999), (129, 999), (130, 999), (131, 999)] μ q3 := am_fr.trans am_fr.rf (am_fr.mono (w_fM_piece h_q3) rfl)
        obtain ⟨q4, h_q4, h⟩ := am_bind h
        have w_q4 : am_fr [(108, 27), (108, 29), (108, 31), (108, 32), (108, 33), (108, 34), (128, 999), (129, 999), (130, 999), (131, 999)] μ q4 := am_fr.trans w_q3 (am_fr.mono (w_fM_ends h_q4) rfl)
        exact am_fr.trans w_q4 (w_fM_condition_31 hk12 am_F h)
set_option maxRecDepth 20000 in
theorem w_fM_condition : ∀ {μ : am_Mu} {out : am_Mu}, fM_condition μ = some out → am_fr [(108, 27), (108, 29), (108, 31), (108, 32), (108, 33), (108, 34), (128, 999), (129, 999), (130, 999), (131, 999)] μ out := by
  intro μ out h
  unfold fM_condition at h
  exact am_fr.trans (am_fr.up (am_fr.up am_fr.rf rfl) rfl) (w_fM_condition_12 am_F h)
set_option maxRecDepth 20000 in
theorem w_fM_effects_226 : ∀ {a1 : Int32} {μ : am_Mu} {out : am_Mu}, fM_effects_226 a1 μ = some out → am_fr [(108, 27), (108, 29), (126, 999), (127, 999)] μ out := by
  intro a1 μ out h
  unfold fM_effects_226 at h
  obtain ⟨q1, h⟩ := am_bif h
  cases h
  exact (am_fr.up am_fr.rf rfl)
set_option maxRecDepth 20000 in
theorem w_fM_effects_219 {k4 : Int32 → Int32 → am_Mu → Option (am_Mu)} (hk4 : ∀ {a1 : Int32} {a2 : Int32} {μ : am_Mu} {out : am_Mu}, k4 a1 a2 μ = some out → am_fr [(108, 27), (108, 29), (126, 999), (127, 999)] μ out) : ∀ {a1 : Int32} {a2 : Int32} {s1 : Int32} {s2 : Int32} {μ : am_Mu} {out : am_Mu}, fM_effects_219 k4 a1 a2 s1 s2 μ = some out → am_fr [(108, 27), (108, 29), (126, 999), (127, 999)] μ out := by
  intro a1 a2 s1 s2 μ out h
  unfold fM_effects_219 at h
  exact am_fr.trans (am_fr.up am_fr.rf rfl) (hk4 h)
set_option maxRecDepth 20000 in
theorem w_fM_effects_204 {k4 : Int32 → Int32 → am_Mu → Option (am_Mu)} (hk4 : ∀ {a1 : Int32} {a2 : Int32} {μ : am_Mu} {out : am_Mu}, k4 a1 a2 μ = some out → am_fr [(108, 27), (108, 29), (126, 999), (127, 999)] μ out) : ∀ {a1 : Int32} {s0 : Int32} {μ : am_Mu} {out : am_Mu}, fM_effects_204 k4 a1 s0 μ = some out → am_fr [(108, 27), (108, 29), (126, 999), (127, 999)] μ out := by
  intro a1 s0 μ out h
  unfold fM_effects_204 at h
  rcases am_ite h with ⟨q1, h⟩ | ⟨q1, h⟩
  · skip
    exact am_fr.trans am_fr.rf (w_fM_effects_219 hk4 h)
  · skip
    exact am_fr.trans am_fr.rf (w_fM_effects_219 hk4 h)
set_option maxRecDepth 20000 in
theorem w_fM_effects_177 {k4 : Int32 → Int32 → am_Mu → Option (am_Mu)} (hk4 : ∀ {a1 : Int32} {a2 : Int32} {μ : am_Mu} {out : am_Mu}, k4 a1 a2 μ = some out → am_fr [(108, 27), (108, 29), (126, 999), (127, 999)] μ out) : ∀ {a1 : Int32} {a3 : Int32} {a5 : Int32} {s1 : Int32} {s2 : Int32} {s3 : Int32} {μ : am_Mu} {out : am_Mu}, fM_effects_177 k4 a1 a3 a5 s1 s2 s3 μ = some out → am_fr [(108, 27), (108, 29), (126, 999), (127, 999)] μ out := by
  intro a1 a3 a5 s1 s2 s3 μ out h
  unfold fM_effects_177 at h
  obtain ⟨q1, h⟩ := am_bif h
  obtain ⟨q2, h_q2, h⟩ := am_bind h
  have w_q2 : am_fr [(108, 27), (108, 29), (126, 999), (127, 999)] μ q2.2 := am_fr.trans (am_fr.up am_fr.rf rfl) (am_fr.mono (w_fM_here h_q2) rfl)
  rcases am_ite h with ⟨q3, h⟩ | ⟨q3, h⟩
  · skip
    exact am_fr.trans w_q2 (w_fM_effects_204 hk4 h)
  · skip
    exact am_fr.trans w_q2 (w_fM_effects_204 hk4 h)
set_option maxRecDepth 20000 in
theorem w_fM_effects_133 {k4 : Int32 → Int32 → am_Mu → Option (am_Mu)} (hk4 : ∀ {a1 : Int32} {a2 : Int32} {μ : am_Mu} {out : am_Mu}, k4 a1 a2 μ = some out → am_fr [(108, 27), (108, 29), (126, 999), (127, 999)] μ out) : ∀ {a1 : Int32} {a3 : Int32} {a4 : Int32} {a5 : Int32} {μ : am_Mu} {out : am_Mu}, fM_effects_133 k4 a1 a3 a4 a5 μ = some out → am_fr [(108, 27), (108, 29), (126, 999), (127, 999)] μ out := by
  intro a1 a3 a4 a5 μ out h
  unfold fM_effects_133 at h
  rcases am_ite h with ⟨q1, h⟩ | ⟨q1, h⟩
  · skip
    rcases am_ite h with ⟨q2, h⟩ | ⟨q2, h⟩
    · skip
      exact am_fr.trans (am_fr.up am_fr.rf rfl) (w_fM_effects_177 hk4 h)
    · skip
      exact am_fr.trans (am_fr.up am_fr.rf rfl) (w_fM_effects_177 hk4 h)
  · skip
    cases h
    exact (am_fr.up am_fr.rf rfl)
set_option maxRecDepth 20000 in
theorem w_fM_effects_101 {k4 : Int32 → Int32 → am_Mu → Option (am_Mu)} (hk4 : ∀ {a1 : Int32} {a2 : Int32} {μ : am_Mu} {out : am_Mu}, k4 a1 a2 μ = some out → am_fr [(108, 27), (108, 29), (126, 999), (127, 999)] μ out) : ∀ {a1 : Int32} {a3 : Int32} {a4 : Int32} {μ : am_Mu} {out : am_Mu}, fM_effects_101 k4 a1 a3 a4 μ = some out → am_fr [(108, 27), (108, 29), (126, 999), (127, 999)] μ out := by
  intro a1 a3 a4 μ out h
  unfold fM_effects_101 at h
  obtain ⟨q1, h_q1, h⟩ := am_bind h
  have w_q1 : am_fr [(108, 27), (108, 29), (126, 999), (127, 999)] μ q1.2 := am_fr.trans (am_fr.up am_fr.rf rfl) (am_fr.mono (w_fM_here h_q1) rfl)
  obtain ⟨q2, h_q2, h⟩ := am_bind h
  have w_q2 : am_fr [(108, 27), (108, 29), (126, 999), (127, 999)] μ q2.2 := am_fr.trans w_q1 (am_fr.mono (w_fM_isMark h_q2) rfl)
  rcases am_ite h with ⟨q3, h⟩ | ⟨q3, h⟩
  · skip
    exact am_fr.trans w_q2 (w_fM_effects_133 hk4 h)
  · skip
    obtain ⟨q4, h_q4, h⟩ := am_bind h
    have w_q4 : am_fr [(108, 27), (108, 29), (126, 999), (127, 999)] μ q4 := am_fr.trans w_q2 (am_fr.mono (w_fM_fails h_q4) rfl)
    exact am_fr.trans w_q4 (w_fM_effects_133 hk4 h)
set_option maxRecDepth 20000 in
theorem w_fM_effects_65 {k4 : Int32 → Int32 → am_Mu → Option (am_Mu)} (hk4 : ∀ {a1 : Int32} {a2 : Int32} {μ : am_Mu} {out : am_Mu}, k4 a1 a2 μ = some out → am_fr [(108, 27), (108, 29), (126, 999), (127, 999)] μ out) : ∀ {a1 : Int32} {s0 : Int32} {μ : am_Mu} {out : am_Mu}, fM_effects_65 k4 a1 s0 μ = some out → am_fr [(108, 27), (108, 29), (126, 999), (127, 999)] μ out := by
  intro a1 s0 μ out h
  unfold fM_effects_65 at h
  obtain ⟨q1, h_q1, h⟩ := am_bind h
  have w_q1 : am_fr [(108, 27), (108, 29), (126, 999), (127, 999)] μ q1.2 := am_fr.trans (am_fr.up am_fr.rf rfl) (am_fr.mono (w_fM_here h_q1) rfl)
  rcases am_ite h with ⟨q2, h⟩ | ⟨q2, h⟩
  · skip
    exact am_fr.trans w_q1 (w_fM_effects_101 hk4 h)
  · skip
    rcases am_ite h with ⟨q3, h⟩ | ⟨q3, h⟩
    · skip
      exact am_fr.trans w_q1 (w_fM_effects_101 hk4 h)
    · skip
      obtain ⟨q4, h_q4, h⟩ := am_bind h
      have w_q4 : am_fr [(108, 27), (108, 29), (126, 999), (127, 999)] μ q4 := am_fr.trans w_q1 (am_fr.mono (w_fM_fails h_q4) rfl)
      exact am_fr.trans w_q4 (w_fM_effects_101 hk4 h)
set_option maxRecDepth 20000 in
theorem w_fM_effects_43 {k4 : Int32 → Int32 → am_Mu → Option (am_Mu)} (hk4 : ∀ {a1 : Int32} {a2 : Int32} {μ : am_Mu} {out : am_Mu}, k4 a1 a2 μ = some out → am_fr [(108, 27), (108, 29), (126, 999), (127, 999)] μ out) : ∀ {a1 : Int32} {μ : am_Mu} {out : am_Mu}, fM_effects_43 k4 a1 μ = some out → am_fr [(108, 27), (108, 29), (126, 999), (127, 999)] μ out := by
  intro a1 μ out h
  unfold fM_effects_43 at h
  rcases am_ite h with ⟨q1, h⟩ | ⟨q1, h⟩
  · skip
    obtain ⟨q2, h_q2, h⟩ := am_bind h
    have w_q2 : am_fr [(108, 27), (108, 29), (126, 999), (127, 999)] μ q2.2 := am_fr.trans am_fr.rf (am_fr.mono (w_fM_here h_q2) rfl)
    rcases am_ite h with ⟨q3, h⟩ | ⟨q3, h⟩
    · skip
      exact am_fr.trans w_q2 (w_fM_effects_65 hk4 h)
    · skip
      exact am_fr.trans w_q2 (w_fM_effects_65 hk4 h)
  · skip
    cases h
    exact am_fr.rf
set_option maxRecDepth 20000 in
theorem w_fM_effects_4 : ∀ n : Nat, ∀ {a1 : Int32} {a2 : Int32} {μ : am_Mu} {out : am_Mu}, fM_effects_4 n a1 a2 μ = some out → am_fr [(108, 27), (108, 29), (126, 999), (127, 999)] μ out := by
  intro n
  induction n with
  | zero => intros; contradiction
  | succ n ih =>
    have hk4 : ∀ {a1 : Int32} {a2 : Int32} {μ : am_Mu} {out : am_Mu}, (fM_effects_4 n) a1 a2 μ = some out → am_fr [(108, 27), (108, 29), (126, 999), (127, 999)] μ out := ih
    intro a1 a2 μ out h
    unfold fM_effects_4 at h
    rcases am_ite h with ⟨q1, h⟩ | ⟨q1, h⟩
    · skip
      exact am_fr.trans am_fr.rf (w_fM_effects_226 h)
    · skip
      rcases am_ite h with ⟨q2, h⟩ | ⟨q2, h⟩
      · skip
        exact am_fr.trans am_fr.rf (w_fM_effects_226 h)
      · skip
        obtain ⟨q3, h_q3, h⟩ := am_bind h
        have w_q3 : am_fr [(108, 27), (108, 29), (126, 999), (127, 999)] μ q3.2 := am_fr.trans am_fr.rf (am_fr.mono (w_fM_here h_q3) rfl)
        obtain ⟨q4, h_q4, h⟩ := am_bind h
        have w_q4 : am_fr [(108, 27), (108, 29), (126, 999), (127, 999)] μ q4.2 := am_fr.trans w_q3 (am_fr.mono (w_fM_isSide h_q4) rfl)
        rcases am_ite h with ⟨q5, h⟩ | ⟨q5, h⟩
        · skip
          rcases am_ite h with ⟨q6, h⟩ | ⟨q6, h⟩
          · skip
            exact am_fr.trans w_q4 (w_fM_effects_43 hk4 h)
          · skip
            obtain ⟨q7, h_q7, h⟩ := am_bind h
            have w_q7 : am_fr [(108, 27), (108, 29), (126, 999), (127, 999)] μ q7 := am_fr.trans w_q4 (am_fr.mono (w_fM_fails h_q7) rfl)
            exact am_fr.trans w_q7 (w_fM_effects_43 hk4 h)
        · skip
          obtain ⟨q8, h_q8, h⟩ := am_bind h
          have w_q8 : am_fr [(108, 27), (108, 29), (126, 999), (127, 999)] μ q8 := am_fr.trans w_q4 (am_fr.mono (w_fM_fails h_q8) rfl)
          exact am_fr.trans w_q8 (w_fM_effects_43 hk4 h)
set_option maxRecDepth 20000 in
theorem w_fM_effects : ∀ {μ : am_Mu} {out : am_Mu}, fM_effects μ = some out → am_fr [(108, 27), (108, 29), (126, 999), (127, 999)] μ out := by
  intro μ out h
  unfold fM_effects at h
  exact am_fr.trans am_fr.rf (w_fM_effects_4 am_F h)
set_option maxRecDepth 20000 in
theorem w_fM_kindOf : ∀ {a0 : Int32} {μ : am_Mu} {out : Int32 × am_Mu}, fM_kindOf a0 μ = some out → am_fr [] μ out.2 := by
  intro a0 μ out h
  unfold fM_kindOf at h
  rcases am_ite h with ⟨q1, h⟩ | ⟨q1, h⟩
  · skip
    rcases am_ite h with ⟨q2, h⟩ | ⟨q2, h⟩
    · skip
      rcases am_ite h with ⟨q3, h⟩ | ⟨q3, h⟩
      · skip
        rcases am_ite h with ⟨q4, h⟩ | ⟨q4, h⟩
        · skip
          cases h
          exact am_fr.rf
        · skip
          cases h
          exact am_fr.rf
      · skip
        cases h
        exact am_fr.rf
    · skip
      cases h
      exact am_fr.rf
  · skip
    cases h
    exact am_fr.rf
set_option maxRecDepth 20000 in
theorem w_fM_rule_128 : ∀ {μ : am_Mu} {out : am_Mu}, fM_rule_128 μ = some out → am_fr [(108, 27), (108, 29), (108, 30), (108, 31), (108, 32), (108, 33), (108, 34), (123, 999), (124, 999), (125, 999), (126, 999), (127, 999), (128, 999), (129, 999), (130, 999), (131, 999)] μ out := by
  intro μ out h
  unfold fM_rule_128 at h
  cases h
  exact (am_fr.up am_fr.rf rfl)
set_option maxRecDepth 20000 in
theorem w_fM_rule_77 : ∀ {μ : am_Mu} {out : am_Mu}, fM_rule_77 μ = some out → am_fr [(108, 27), (108, 29), (108, 30), (108, 31), (108, 32), (108, 33), (108, 34), (123, 999), (124, 999), (125, 999), (126, 999), (127, 999), (128, 999), (129, 999), (130, 999), (131, 999)] μ out := by
  intro μ out h
  unfold fM_rule_77 at h
  obtain ⟨q1, h⟩ := am_bif h
  obtain ⟨q2, h_q2, h⟩ := am_bind h
  have w_q2 : am_fr [(108, 27), (108, 29), (108, 30), (108, 31), (108, 32), (108, 33), (108, 34), (123, 999), (124, 999), (125, 999), (126, 999), (127, 999), (128, 999), (129, 999), (130, 999), (131, 999)] μ q2 := am_fr.trans (am_fr.up (am_fr.up am_fr.rf rfl) rfl) (am_fr.mono (w_fM_condition h_q2) rfl)
  obtain ⟨q3, h⟩ := am_bif h
  rcases am_ite h with ⟨q4, h⟩ | ⟨q4, h⟩
  · skip
    exact am_fr.trans (am_fr.up w_q2 rfl) (w_fM_rule_128 h)
  · skip
    obtain ⟨q5, h_q5, h⟩ := am_bind h
    have w_q5 : am_fr [(108, 27), (108, 29), (108, 30), (108, 31), (108, 32), (108, 33), (108, 34), (123, 999), (124, 999), (125, 999), (126, 999), (127, 999), (128, 999), (129, 999), (130, 999), (131, 999)] μ q5 := am_fr.trans (am_fr.up w_q2 rfl) (am_fr.mono (w_fM_effects h_q5) rfl)
    exact am_fr.trans w_q5 (w_fM_rule_128 h)
set_option maxRecDepth 20000 in
theorem w_fM_rule_35 : ∀ {a1 : Int32} {μ : am_Mu} {out : am_Mu}, fM_rule_35 a1 μ = some out → am_fr [(108, 27), (108, 29), (108, 30), (108, 31), (108, 32), (108, 33), (108, 34), (123, 999), (124, 999), (125, 999), (126, 999), (127, 999), (128, 999), (129, 999), (130, 999), (131, 999)] μ out := by
  intro a1 μ out h
  unfold fM_rule_35 at h
  rcases am_ite h with ⟨q1, h⟩ | ⟨q1, h⟩
  · skip
    obtain ⟨q2, h⟩ := am_bif h
    obtain ⟨q3, h_q3, h⟩ := am_bind h
    have w_q3 : am_fr [(108, 27), (108, 29), (108, 30), (108, 31), (108, 32), (108, 33), (108, 34), (123, 999), (124, 999), (125, 999), (126, 999), (127, 999), (128, 999), (129, 999), (130, 999), (131, 999)] μ q3.2 := am_fr.trans (am_fr.up (am_fr.up am_fr.rf rfl) rfl) (am_fr.mono (w_fM_here h_q3) rfl)
    rcases am_ite h with ⟨q4, h⟩ | ⟨q4, h⟩
    · skip
      exact am_fr.trans w_q3 (w_fM_rule_77 h)
    · skip
      obtain ⟨q5, h_q5, h⟩ := am_bind h
      have w_q5 : am_fr [(108, 27), (108, 29), (108, 30), (108, 31), (108, 32), (108, 33), (108, 34), (123, 999), (124, 999), (125, 999), (126, 999), (127, 999), (128, 999), (129, 999), (130, 999), (131, 999)] μ q5 := am_fr.trans w_q3 (am_fr.mono (w_fM_fails h_q5) rfl)
      exact am_fr.trans w_q5 (w_fM_rule_77 h)
  · skip
    cases h
    exact am_fr.rf
set_option maxRecDepth 20000 in
theorem w_fM_rule : ∀ {μ : am_Mu} {out : am_Mu}, fM_rule μ = some out → am_fr [(108, 27), (108, 29), (108, 30), (108, 31), (108, 32), (108, 33), (108, 34), (123, 999), (124, 999), (125, 999), (126, 999), (127, 999), (128, 999), (129, 999), (130, 999), (131, 999)] μ out := by
  intro μ out h
  unfold fM_rule at h
  obtain ⟨q1, h_q1, h⟩ := am_bind h
  have w_q1 : am_fr [(108, 27), (108, 29), (108, 30), (108, 31), (108, 32), (108, 33), (108, 34), (123, 999), (124, 999), (125, 999), (126, 999), (127, 999), (128, 999), (129, 999), (130, 999), (131, 999)] μ q1.2 := am_fr.trans am_fr.rf (am_fr.mono (w_fM_here h_q1) rfl)
  obtain ⟨q2, h_q2, h⟩ := am_bind h
  have w_q2 : am_fr [(108, 27), (108, 29), (108, 30), (108, 31), (108, 32), (108, 33), (108, 34), (123, 999), (124, 999), (125, 999), (126, 999), (127, 999), (128, 999), (129, 999), (130, 999), (131, 999)] μ q2.2 := am_fr.trans w_q1 (am_fr.mono (w_fM_kindOf h_q2) rfl)
  rcases am_ite h with ⟨q3, h⟩ | ⟨q3, h⟩
  · skip
    rcases am_ite h with ⟨q4, h⟩ | ⟨q4, h⟩
    · skip
      exact am_fr.trans w_q2 (w_fM_rule_35 h)
    · skip
      obtain ⟨q5, h_q5, h⟩ := am_bind h
      have w_q5 : am_fr [(108, 27), (108, 29), (108, 30), (108, 31), (108, 32), (108, 33), (108, 34), (123, 999), (124, 999), (125, 999), (126, 999), (127, 999), (128, 999), (129, 999), (130, 999), (131, 999)] μ q5 := am_fr.trans w_q2 (am_fr.mono (w_fM_fails h_q5) rfl)
      exact am_fr.trans w_q5 (w_fM_rule_35 h)
  · skip
    obtain ⟨q6, h_q6, h⟩ := am_bind h
    have w_q6 : am_fr [(108, 27), (108, 29), (108, 30), (108, 31), (108, 32), (108, 33), (108, 34), (123, 999), (124, 999), (125, 999), (126, 999), (127, 999), (128, 999), (129, 999), (130, 999), (131, 999)] μ q6 := am_fr.trans w_q2 (am_fr.mono (w_fM_fails h_q6) rfl)
    exact am_fr.trans w_q6 (w_fM_rule_35 h)
set_option maxRecDepth 20000 in
theorem w_fM_law_324 : ∀ n : Nat, ∀ {a5 : Int32} {a6 : Int32} {μ : am_Mu} {out : Int32 × am_Mu}, fM_law_324 n a5 a6 μ = some out → am_fr [(108, 1), (108, 27), (108, 28), (108, 29), (108, 30), (108, 31), (108, 32), (108, 33), (108, 34), (114, 999), (115, 999), (116, 999), (117, 999), (118, 999), (119, 999), (120, 999), (121, 999), (122, 999), (123, 999), (124, 999), (125, 999), (126, 999), (127, 999), (128, 999), (129, 999), (130, 999), (131, 999)] μ out.2 := by
  intro n
  induction n with
  | zero => intros; contradiction
  | succ n ih =>
    have hk324 : ∀ {a5 : Int32} {a6 : Int32} {μ : am_Mu} {out : Int32 × am_Mu}, (fM_law_324 n) a5 a6 μ = some out → am_fr [(108, 1), (108, 27), (108, 28), (108, 29), (108, 30), (108, 31), (108, 32), (108, 33), (108, 34), (114, 999), (115, 999), (116, 999), (117, 999), (118, 999), (119, 999), (120, 999), (121, 999), (122, 999), (123, 999), (124, 999), (125, 999), (126, 999), (127, 999), (128, 999), (129, 999), (130, 999), (131, 999)] μ out.2 := ih
    intro a5 a6 μ out h
    unfold fM_law_324 at h
    rcases am_ite h with ⟨q1, h⟩ | ⟨q1, h⟩
    · skip
      cases h
      exact am_fr.rf
    · skip
      obtain ⟨q2, h⟩ := am_bif h
      obtain ⟨q3, h⟩ := am_bif h
      exact am_fr.trans (am_fr.up (am_fr.up (am_fr.up am_fr.rf rfl) rfl) rfl) (hk324 h)
set_option maxRecDepth 20000 in
theorem w_fM_law_321 : ∀ {a5 : Int32} {μ : am_Mu} {out : Int32 × am_Mu}, fM_law_321 a5 μ = some out → am_fr [(108, 1), (108, 27), (108, 28), (108, 29), (108, 30), (108, 31), (108, 32), (108, 33), (108, 34), (114, 999), (115, 999), (116, 999), (117, 999), (118, 999), (119, 999), (120, 999), (121, 999), (122, 999), (123, 999), (124, 999), (125, 999), (126, 999), (127, 999), (128, 999), (129, 999), (130, 999), (131, 999)] μ out.2 := by
  intro a5 μ out h
  unfold fM_law_321 at h
  exact am_fr.trans am_fr.rf (w_fM_law_324 am_F h)
set_option maxRecDepth 20000 in
theorem w_fM_law_315 {k181 : Int32 → Int32 → am_Mu → Option (Int32 × am_Mu)} (hk181 : ∀ {a5 : Int32} {a6 : Int32} {μ : am_Mu} {out : Int32 × am_Mu}, k181 a5 a6 μ = some out → am_fr [(108, 1), (108, 27), (108, 28), (108, 29), (108, 30), (108, 31), (108, 32), (108, 33), (108, 34), (114, 999), (115, 999), (116, 999), (117, 999), (118, 999), (119, 999), (120, 999), (121, 999), (122, 999), (123, 999), (124, 999), (125, 999), (126, 999), (127, 999), (128, 999), (129, 999), (130, 999), (131, 999)] μ out.2) : ∀ {a5 : Int32} {a6 : Int32} {μ : am_Mu} {out : Int32 × am_Mu}, fM_law_315 k181 a5 a6 μ = some out → am_fr [(108, 1), (108, 27), (108, 28), (108, 29), (108, 30), (108, 31), (108, 32), (108, 33), (108, 34), (114, 999), (115, 999), (116, 999), (117, 999), (118, 999), (119, 999), (120, 999), (121, 999), (122, 999), (123, 999), (124, 999), (125, 999), (126, 999), (127, 999), (128, 999), (129, 999), (130, 999), (131, 999)] μ out.2 := by
  intro a5 a6 μ out h
  unfold fM_law_315 at h
  exact am_fr.trans am_fr.rf (hk181 h)
set_option maxRecDepth 20000 in
theorem w_fM_law_273 {k181 : Int32 → Int32 → am_Mu → Option (Int32 × am_Mu)} (hk181 : ∀ {a5 : Int32} {a6 : Int32} {μ : am_Mu} {out : Int32 × am_Mu}, k181 a5 a6 μ = some out → am_fr [(108, 1), (108, 27), (108, 28), (108, 29), (108, 30), (108, 31), (108, 32), (108, 33), (108, 34), (114, 999), (115, 999), (116, 999), (117, 999), (118, 999), (119, 999), (120, 999), (121, 999), (122, 999), (123, 999), (124, 999), (125, 999), (126, 999), (127, 999), (128, 999), (129, 999), (130, 999), (131, 999)] μ out.2) : ∀ n : Nat, ∀ {a5 : Int32} {a6 : Int32} {a7 : Int32} {μ : am_Mu} {out : Int32 × am_Mu}, fM_law_273 n k181 a5 a6 a7 μ = some out → am_fr [(108, 1), (108, 27), (108, 28), (108, 29), (108, 30), (108, 31), (108, 32), (108, 33), (108, 34), (114, 999), (115, 999), (116, 999), (117, 999), (118, 999), (119, 999), (120, 999), (121, 999), (122, 999), (123, 999), (124, 999), (125, 999), (126, 999), (127, 999), (128, 999), (129, 999), (130, 999), (131, 999)] μ out.2 := by
  intro n
  induction n with
  | zero => intros; contradiction
  | succ n ih =>
    have hk273 : ∀ {a5 : Int32} {a6 : Int32} {a7 : Int32} {μ : am_Mu} {out : Int32 × am_Mu}, (fM_law_273 n k181) a5 a6 a7 μ = some out → am_fr [(108, 1), (108, 27), (108, 28), (108, 29), (108, 30), (108, 31), (108, 32), (108, 33), (108, 34), (114, 999), (115, 999), (116, 999), (117, 999), (118, 999), (119, 999), (120, 999), (121, 999), (122, 999), (123, 999), (124, 999), (125, 999), (126, 999), (127, 999), (128, 999), (129, 999), (130, 999), (131, 999)] μ out.2 := ih
    intro a5 a6 a7 μ out h
    unfold fM_law_273 at h
    rcases am_ite h with ⟨q1, h⟩ | ⟨q1, h⟩
    · skip
      exact am_fr.trans am_fr.rf (w_fM_law_315 hk181 h)
    · skip
      obtain ⟨q2, h⟩ := am_bif h
      obtain ⟨q3, h⟩ := am_bif h
      exact am_fr.trans (am_fr.up am_fr.rf rfl) (hk273 h)
set_option maxRecDepth 20000 in
theorem w_fM_law_181 : ∀ n : Nat, ∀ {a5 : Int32} {a6 : Int32} {μ : am_Mu} {out : Int32 × am_Mu}, fM_law_181 n a5 a6 μ = some out → am_fr [(108, 1), (108, 27), (108, 28), (108, 29), (108, 30), (108, 31), (108, 32), (108, 33), (108, 34), (114, 999), (115, 999), (116, 999), (117, 999), (118, 999), (119, 999), (120, 999), (121, 999), (122, 999), (123, 999), (124, 999), (125, 999), (126, 999), (127, 999), (128, 999), (129, 999), (130, 999), (131, 999)] μ out.2 := by
  intro n
  induction n with
  | zero => intros; contradiction
  | succ n ih =>
    have hk181 : ∀ {a5 : Int32} {a6 : Int32} {μ : am_Mu} {out : Int32 × am_Mu}, (fM_law_181 n) a5 a6 μ = some out → am_fr [(108, 1), (108, 27), (108, 28), (108, 29), (108, 30), (108, 31), (108, 32), (108, 33), (108, 34), (114, 999), (115, 999), (116, 999), (117, 999), (118, 999), (119, 999), (120, 999), (121, 999), (122, 999), (123, 999), (124, 999), (125, 999), (126, 999), (127, 999), (128, 999), (129, 999), (130, 999), (131, 999)] μ out.2 := ih
    intro a5 a6 μ out h
    unfold fM_law_181 at h
    rcases am_ite h with ⟨q1, h⟩ | ⟨q1, h⟩
    · skip
      exact am_fr.trans am_fr.rf (w_fM_law_321 h)
    · skip
      obtain ⟨q2, h⟩ := am_bif h
      obtain ⟨q3, h⟩ := am_bif h
      exact am_fr.trans (am_fr.up (am_fr.up (am_fr.up (am_fr.up am_fr.rf rfl) rfl) rfl) rfl) (w_fM_law_273 hk181 am_F h)
set_option maxRecDepth 20000 in
theorem w_fM_law_164 : ∀ {s0 : Int32} {s1 : Int32} {μ : am_Mu} {out : Int32 × am_Mu}, fM_law_164 s0 s1 μ = some out → am_fr [(108, 1), (108, 27), (108, 28), (108, 29), (108, 30), (108, 31), (108, 32), (108, 33), (108, 34), (114, 999), (115, 999), (116, 999), (117, 999), (118, 999), (119, 999), (120, 999), (121, 999), (122, 999), (123, 999), (124, 999), (125, 999), (126, 999), (127, 999), (128, 999), (129, 999), (130, 999), (131, 999)] μ out.2 := by
  intro s0 s1 μ out h
  unfold fM_law_164 at h
  obtain ⟨q1, h⟩ := am_bif h
  exact am_fr.trans (am_fr.up am_fr.rf rfl) (w_fM_law_181 am_F h)
set_option maxRecDepth 20000 in
theorem w_fM_law_140 : ∀ {a1 : Int32} {a2 : Int32} {μ : am_Mu} {out : Int32 × am_Mu}, fM_law_140 a1 a2 μ = some out → am_fr [(108, 1), (108, 27), (108, 28), (108, 29), (108, 30), (108, 31), (108, 32), (108, 33), (108, 34), (114, 999), (115, 999), (116, 999), (117, 999), (118, 999), (119, 999), (120, 999), (121, 999), (122, 999), (123, 999), (124, 999), (125, 999), (126, 999), (127, 999), (128, 999), (129, 999), (130, 999), (131, 999)] μ out.2 := by
  intro a1 a2 μ out h
  unfold fM_law_140 at h
  rcases am_ite h with ⟨q1, h⟩ | ⟨q1, h⟩
  · skip
    rcases am_ite h with ⟨q2, h⟩ | ⟨q2, h⟩
    · skip
      exact am_fr.trans am_fr.rf (w_fM_law_164 h)
    · skip
      exact am_fr.trans am_fr.rf (w_fM_law_164 h)
  · skip
    cases h
    exact am_fr.rf
set_option maxRecDepth 20000 in
theorem w_fM_law_127 {k67 : Int32 → Int32 → Int32 → am_Mu → Option (Int32 × am_Mu)} (hk67 : ∀ {a1 : Int32} {a2 : Int32} {a4 : Int32} {μ : am_Mu} {out : Int32 × am_Mu}, k67 a1 a2 a4 μ = some out → am_fr [(108, 1), (108, 27), (108, 28), (108, 29), (108, 30), (108, 31), (108, 32), (108, 33), (108, 34), (114, 999), (115, 999), (116, 999), (117, 999), (118, 999), (119, 999), (120, 999), (121, 999), (122, 999), (123, 999), (124, 999), (125, 999), (126, 999), (127, 999), (128, 999), (129, 999), (130, 999), (131, 999)] μ out.2) : ∀ {a1 : Int32} {a2 : Int32} {a4 : Int32} {μ : am_Mu} {out : Int32 × am_Mu}, fM_law_127 k67 a1 a2 a4 μ = some out → am_fr [(108, 1), (108, 27), (108, 28), (108, 29), (108, 30), (108, 31), (108, 32), (108, 33), (108, 34), (114, 999), (115, 999), (116, 999), (117, 999), (118, 999), (119, 999), (120, 999), (121, 999), (122, 999), (123, 999), (124, 999), (125, 999), (126, 999), (127, 999), (128, 999), (129, 999), (130, 999), (131, 999)] μ out.2 := by
  intro a1 a2 a4 μ out h
  unfold fM_law_127 at h
  exact am_fr.trans (am_fr.up am_fr.rf rfl) (hk67 h)
set_option maxRecDepth 20000 in
theorem w_fM_law_106 {k67 : Int32 → Int32 → Int32 → am_Mu → Option (Int32 × am_Mu)} (hk67 : ∀ {a1 : Int32} {a2 : Int32} {a4 : Int32} {μ : am_Mu} {out : Int32 × am_Mu}, k67 a1 a2 a4 μ = some out → am_fr [(108, 1), (108, 27), (108, 28), (108, 29), (108, 30), (108, 31), (108, 32), (108, 33), (108, 34), (114, 999), (115, 999), (116, 999), (117, 999), (118, 999), (119, 999), (120, 999), (121, 999), (122, 999), (123, 999), (124, 999), (125, 999), (126, 999), (127, 999), (128, 999), (129, 999), (130, 999), (131, 999)] μ out.2) : ∀ {a1 : Int32} {a2 : Int32} {s0 : Int32} {μ : am_Mu} {out : Int32 × am_Mu}, fM_law_106 k67 a1 a2 s0 μ = some out → am_fr [(108, 1), (108, 27), (108, 28), (108, 29), (108, 30), (108, 31), (108, 32), (108, 33), (108, 34), (114, 999), (115, 999), (116, 999), (117, 999), (118, 999), (119, 999), (120, 999), (121, 999), (122, 999), (123, 999), (124, 999), (125, 999), (126, 999), (127, 999), (128, 999), (129, 999), (130, 999), (131, 999)] μ out.2 := by
  intro a1 a2 s0 μ out h
  unfold fM_law_106 at h
  rcases am_ite h with ⟨q1, h⟩ | ⟨q1, h⟩
  · skip
    exact am_fr.trans am_fr.rf (w_fM_law_127 hk67 h)
  · skip
    obtain ⟨q2, h_q2, h⟩ := am_bind h
    have w_q2 : am_fr [(108, 1), (108, 27), (108, 28), (108, 29), (108, 30), (108, 31), (108, 32), (108, 33), (108, 34), (114, 999), (115, 999), (116, 999), (117, 999), (118, 999), (119, 999), (120, 999), (121, 999), (122, 999), (123, 999), (124, 999), (125, 999), (126, 999), (127, 999), (128, 999), (129, 999), (130, 999), (131, 999)] μ q2.2 := am_fr.trans am_fr.rf (am_fr.mono (w_fM_here h_q2) rfl)
    rcases am_ite h with ⟨q3, h⟩ | ⟨q3, h⟩
    · skip
      exact am_fr.trans w_q2 (w_fM_law_127 hk67 h)
    · skip
      obtain ⟨q4, h_q4, h⟩ := am_bind h
      have w_q4 : am_fr [(108, 1), (108, 27), (108, 28), (108, 29), (108, 30), (108, 31), (108, 32), (108, 33), (108, 34), (114, 999), (115, 999), (116, 999), (117, 999), (118, 999), (119, 999), (120, 999), (121, 999), (122, 999), (123, 999), (124, 999), (125, 999), (126, 999), (127, 999), (128, 999), (129, 999), (130, 999), (131, 999)] μ q4 := am_fr.trans w_q2 (am_fr.mono (w_fM_fails h_q4) rfl)
      exact am_fr.trans w_q4 (w_fM_law_127 hk67 h)
set_option maxRecDepth 20000 in
theorem w_fM_law_105 {k67 : Int32 → Int32 → Int32 → am_Mu → Option (Int32 × am_Mu)} (hk67 : ∀ {a1 : Int32} {a2 : Int32} {a4 : Int32} {μ : am_Mu} {out : Int32 × am_Mu}, k67 a1 a2 a4 μ = some out → am_fr [(108, 1), (108, 27), (108, 28), (108, 29), (108, 30), (108, 31), (108, 32), (108, 33), (108, 34), (114, 999), (115, 999), (116, 999), (117, 999), (118, 999), (119, 999), (120, 999), (121, 999), (122, 999), (123, 999), (124, 999), (125, 999), (126, 999), (127, 999), (128, 999), (129, 999), (130, 999), (131, 999)] μ out.2) : ∀ {a1 : Int32} {a2 : Int32} {μ : am_Mu} {out : Int32 × am_Mu}, fM_law_105 k67 a1 a2 μ = some out → am_fr [(108, 1), (108, 27), (108, 28), (108, 29), (108, 30), (108, 31), (108, 32), (108, 33), (108, 34), (114, 999), (115, 999), (116, 999), (117, 999), (118, 999), (119, 999), (120, 999), (121, 999), (122, 999), (123, 999), (124, 999), (125, 999), (126, 999), (127, 999), (128, 999), (129, 999), (130, 999), (131, 999)] μ out.2 := by
  intro a1 a2 μ out h
  unfold fM_law_105 at h
  exact am_fr.trans am_fr.rf (w_fM_law_106 hk67 h)
set_option maxRecDepth 20000 in
theorem w_fM_law_67 : ∀ n : Nat, ∀ {a1 : Int32} {a2 : Int32} {a4 : Int32} {μ : am_Mu} {out : Int32 × am_Mu}, fM_law_67 n a1 a2 a4 μ = some out → am_fr [(108, 1), (108, 27), (108, 28), (108, 29), (108, 30), (108, 31), (108, 32), (108, 33), (108, 34), (114, 999), (115, 999), (116, 999), (117, 999), (118, 999), (119, 999), (120, 999), (121, 999), (122, 999), (123, 999), (124, 999), (125, 999), (126, 999), (127, 999), (128, 999), (129, 999), (130, 999), (131, 999)] μ out.2 := by
  intro n
  induction n with
  | zero => intros; contradiction
  | succ n ih =>
    have hk67 : ∀ {a1 : Int32} {a2 : Int32} {a4 : Int32} {μ : am_Mu} {out : Int32 × am_Mu}, (fM_law_67 n) a1 a2 a4 μ = some out → am_fr [(108, 1), (108, 27), (108, 28), (108, 29), (108, 30), (108, 31), (108, 32), (108, 33), (108, 34), (114, 999), (115, 999), (116, 999), (117, 999), (118, 999), (119, 999), (120, 999), (121, 999), (122, 999), (123, 999), (124, 999), (125, 999), (126, 999), (127, 999), (128, 999), (129, 999), (130, 999), (131, 999)] μ out.2 := ih
    intro a1 a2 a4 μ out h
    unfold fM_law_67 at h
    rcases am_ite h with ⟨q1, h⟩ | ⟨q1, h⟩
    · skip
      exact am_fr.trans am_fr.rf (w_fM_law_140 h)
    · skip
      rcases am_ite h with ⟨q2, h⟩ | ⟨q2, h⟩
      · skip
        exact am_fr.trans am_fr.rf (w_fM_law_140 h)
      · skip
        obtain ⟨q3, h_q3, h⟩ := am_bind h
        have w_q3 : am_fr [(108, 1), (108, 27), (108, 28), (108, 29), (108, 30), (108, 31), (108, 32), (108, 33), (108, 34), (114, 999), (115, 999), (116, 999), (117, 999), (118, 999), (119, 999), (120, 999), (121, 999), (122, 999), (123, 999), (124, 999), (125, 999), (126, 999), (127, 999), (128, 999), (129, 999), (130, 999), (131, 999)] μ q3 := am_fr.trans am_fr.rf (am_fr.mono (w_fM_rule h_q3) rfl)
        rcases am_ite h with ⟨q4, h⟩ | ⟨q4, h⟩
        · skip
          exact am_fr.trans w_q3 (w_fM_law_105 hk67 h)
        · skip
          rcases am_ite h with ⟨q5, h⟩ | ⟨q5, h⟩
          · skip
            exact am_fr.trans w_q3 (w_fM_law_105 hk67 h)
          · skip
            exact am_fr.trans w_q3 (w_fM_law_106 hk67 h)
set_option maxRecDepth 20000 in
theorem w_fM_law_65 : ∀ {a1 : Int32} {a2 : Int32} {s0 : Int32} {μ : am_Mu} {out : Int32 × am_Mu}, fM_law_65 a1 a2 s0 μ = some out → am_fr [(108, 1), (108, 27), (108, 28), (108, 29), (108, 30), (108, 31), (108, 32), (108, 33), (108, 34), (114, 999), (115, 999), (116, 999), (117, 999), (118, 999), (119, 999), (120, 999), (121, 999), (122, 999), (123, 999), (124, 999), (125, 999), (126, 999), (127, 999), (128, 999), (129, 999), (130, 999), (131, 999)] μ out.2 := by
  intro a1 a2 s0 μ out h
  unfold fM_law_65 at h
  exact am_fr.trans am_fr.rf (w_fM_law_67 am_F h)
set_option maxRecDepth 20000 in
theorem w_fM_law : ∀ {a1 : Int32} {a2 : Int32} {a3 : Int32} {μ : am_Mu} {out : Int32 × am_Mu}, fM_law a1 a2 a3 μ = some out → am_fr [(108, 1), (108, 27), (108, 28), (108, 29), (108, 30), (108, 31), (108, 32), (108, 33), (108, 34), (114, 999), (115, 999), (116, 999), (117, 999), (118, 999), (119, 999), (120, 999), (121, 999), (122, 999), (123, 999), (124, 999), (125, 999), (126, 999), (127, 999), (128, 999), (129, 999), (130, 999), (131, 999)] μ out.2 := by
  intro a1 a2 a3 μ out h
  unfold fM_law at h
  obtain ⟨q1, h_q1, h⟩ := am_bind h
  have w_q1 : am_fr [(108, 1), (108, 27), (108, 28), (108, 29), (108, 30), (108, 31), (108, 32), (108, 33), (108, 34), (114, 999), (115, 999), (116, 999), (117, 999), (118, 999), (119, 999), (120, 999), (121, 999), (122, 999), (123, 999), (124, 999), (125, 999), (126, 999), (127, 999), (128, 999), (129, 999), (130, 999), (131, 999)] μ q1.2 := am_fr.trans am_fr.rf (am_fr.mono (w_fM_isSchool h_q1) rfl)
  rcases am_ite h with ⟨q2, h⟩ | ⟨q2, h⟩
  · skip
    cases h
    exact w_q1
  · skip
    rcases am_ite h with ⟨q3, h⟩ | ⟨q3, h⟩
    · skip
      cases h
      exact w_q1
    · skip
      rcases am_ite h with ⟨q4, h⟩ | ⟨q4, h⟩
      · skip
        rcases am_ite h with ⟨q5, h⟩ | ⟨q5, h⟩
        · skip
          exact am_fr.trans (am_fr.up (am_fr.up (am_fr.up (am_fr.up (am_fr.up (am_fr.up (am_fr.up w_q1 rfl) rfl) rfl) rfl) rfl) rfl) rfl) (w_fM_law_65 h)
        · skip
          exact am_fr.trans (am_fr.up (am_fr.up (am_fr.up (am_fr.up (am_fr.up (am_fr.up (am_fr.up w_q1 rfl) rfl) rfl) rfl) rfl) rfl) rfl) (w_fM_law_65 h)
      · skip
        cases h
        exact w_q1
set_option maxRecDepth 20000 in
theorem w_fM_rules_23 : ∀ {s1 : Int32} {s2 : Int32} {μ : am_Mu} {out : Int32 × am_Mu}, fM_rules_23 s1 s2 μ = some out → am_fr [] μ out.2 := by
  intro s1 s2 μ out h
  unfold fM_rules_23 at h
  obtain ⟨q1, h⟩ := am_bif h
  cases h
  exact am_fr.rf
set_option maxRecDepth 20000 in
theorem w_fM_rules : ∀ {a1 : Int32} {a2 : Int32} {μ : am_Mu} {out : Int32 × am_Mu}, fM_rules a1 a2 μ = some out → am_fr [] μ out.2 := by
  intro a1 a2 μ out h
  unfold fM_rules at h
  obtain ⟨q1, h_q1, h⟩ := am_bind h
  have w_q1 : am_fr [] μ q1.2 := am_fr.trans am_fr.rf (am_fr.mono (w_fM_isSchool h_q1) rfl)
  rcases am_ite h with ⟨q2, h⟩ | ⟨q2, h⟩
  · skip
    cases h
    exact w_q1
  · skip
    rcases am_ite h with ⟨q3, h⟩ | ⟨q3, h⟩
    · skip
      exact am_fr.trans w_q1 (w_fM_rules_23 h)
    · skip
      exact am_fr.trans w_q1 (w_fM_rules_23 h)
set_option maxRecDepth 20000 in
theorem w_fM_push_3 : ∀ n : Nat, ∀ {a1 : Int32} {a2 : Int32} {μ : am_Mu} {out : am_Mu}, fM_push_3 n a1 a2 μ = some out → am_fr [(108, 1), (109, 999)] μ out := by
  intro n
  induction n with
  | zero => intros; contradiction
  | succ n ih =>
    have hk3 : ∀ {a1 : Int32} {a2 : Int32} {μ : am_Mu} {out : am_Mu}, (fM_push_3 n) a1 a2 μ = some out → am_fr [(108, 1), (109, 999)] μ out := ih
    intro a1 a2 μ out h
    unfold fM_push_3 at h
    rcases am_ite h with ⟨q1, h⟩ | ⟨q1, h⟩
    · skip
      cases h
      exact am_fr.rf
    · skip
      obtain ⟨q2, h⟩ := am_bif h
      exact am_fr.trans (am_fr.up (am_fr.up am_fr.rf rfl) rfl) (hk3 h)
set_option maxRecDepth 20000 in
theorem w_fM_push : ∀ {a1 : Int32} {μ : am_Mu} {out : am_Mu}, fM_push a1 μ = some out → am_fr [(108, 1), (109, 999)] μ out := by
  intro a1 μ out h
  unfold fM_push at h
  exact am_fr.trans am_fr.rf (w_fM_push_3 am_F h)
set_option maxRecDepth 20000 in
theorem w_fM_feed : ∀ {a1 : Int32} {a2 : Int32} {a3 : Int32} {a4 : Int32} {a5 : Int32} {μ : am_Mu} {out : Int32 × am_Mu}, fM_feed a1 a2 a3 a4 a5 μ = some out → am_fr [(108, 1), (109, 999)] μ out.2 := by
  intro a1 a2 a3 a4 a5 μ out h
  unfold fM_feed at h
  rcases am_ite h with ⟨q1, h⟩ | ⟨q1, h⟩
  · skip
    obtain ⟨q2, h_q2, h⟩ := am_bind h
    have w_q2 : am_fr [(108, 1), (109, 999)] μ q2 := am_fr.trans am_fr.rf (am_fr.mono (w_fM_push h_q2) rfl)
    obtain ⟨q3, h_q3, h⟩ := am_bind h
    have w_q3 : am_fr [(108, 1), (109, 999)] μ q3 := am_fr.trans w_q2 (am_fr.mono (w_fM_push h_q3) rfl)
    obtain ⟨q4, h_q4, h⟩ := am_bind h
    have w_q4 : am_fr [(108, 1), (109, 999)] μ q4 := am_fr.trans w_q3 (am_fr.mono (w_fM_push h_q4) rfl)
    obtain ⟨q5, h_q5, h⟩ := am_bind h
    have w_q5 : am_fr [(108, 1), (109, 999)] μ q5 := am_fr.trans w_q4 (am_fr.mono (w_fM_push h_q5) rfl)
    obtain ⟨q6, h_q6, h⟩ := am_bind h
    have w_q6 : am_fr [(108, 1), (109, 999)] μ q6 := am_fr.trans w_q5 (am_fr.mono (w_fM_push h_q6) rfl)
    cases h
    exact w_q6
  · skip
    cases h
    exact am_fr.rf
set_option maxRecDepth 20000 in
theorem w_fM_thing : ∀ {a1 : Int32} {μ : am_Mu} {out : Int32 × am_Mu}, fM_thing a1 μ = some out → am_fr [(108, 4), (113, 999)] μ out.2 := by
  intro a1 μ out h
  unfold fM_thing at h
  rcases am_ite h with ⟨q1, h⟩ | ⟨q1, h⟩
  · skip
    cases h
    exact am_fr.rf
  · skip
    obtain ⟨q2, h_q2, h⟩ := am_bind h
    have w_q2 : am_fr [(108, 4), (113, 999)] μ q2.2 := am_fr.trans am_fr.rf (am_fr.mono (w_fM_lies h_q2) rfl)
    rcases am_ite h with ⟨q3, h⟩ | ⟨q3, h⟩
    · skip
      obtain ⟨q4, h⟩ := am_bif h
      cases h
      exact (am_fr.up (am_fr.up w_q2 rfl) rfl)
    · skip
      cases h
      exact w_q2
set_option maxRecDepth 20000 in
theorem w_fM_minuteOf : ∀ {a1 : Int32} {μ : am_Mu} {out : Int32 × am_Mu}, fM_minuteOf a1 μ = some out → am_fr [] μ out.2 := by
  intro a1 μ out h
  unfold fM_minuteOf at h
  rcases am_ite h with ⟨q1, h⟩ | ⟨q1, h⟩
  · skip
    obtain ⟨q2, h⟩ := am_bif h
    cases h
    exact am_fr.rf
  · skip
    obtain ⟨q3, h⟩ := am_bif h
    cases h
    exact am_fr.rf
set_option maxRecDepth 20000 in
theorem w_fM_isAhead_56 : ∀ {a1 : Int32} {a2 : Int32} {s0 : Int32} {s1 : Int32} {μ : am_Mu} {out : Int32 × am_Mu}, fM_isAhead_56 a1 a2 s0 s1 μ = some out → am_fr [] μ out.2 := by
  intro a1 a2 s0 s1 μ out h
  unfold fM_isAhead_56 at h
  rcases am_ite h with ⟨q1, h⟩ | ⟨q1, h⟩
  · skip
    rcases am_ite h with ⟨q2, h⟩ | ⟨q2, h⟩
    · skip
      cases h
      exact am_fr.rf
    · skip
      cases h
      exact am_fr.rf
  · skip
    rcases am_ite h with ⟨q3, h⟩ | ⟨q3, h⟩
    · skip
      cases h
      exact am_fr.rf
    · skip
      cases h
      exact am_fr.rf
set_option maxRecDepth 20000 in
theorem w_fM_isAhead_44 : ∀ {a1 : Int32} {a2 : Int32} {s0 : Int32} {μ : am_Mu} {out : Int32 × am_Mu}, fM_isAhead_44 a1 a2 s0 μ = some out → am_fr [] μ out.2 := by
  intro a1 a2 s0 μ out h
  unfold fM_isAhead_44 at h
  rcases am_ite h with ⟨q1, h⟩ | ⟨q1, h⟩
  · skip
    exact am_fr.trans am_fr.rf (w_fM_isAhead_56 h)
  · skip
    exact am_fr.trans am_fr.rf (w_fM_isAhead_56 h)
set_option maxRecDepth 20000 in
theorem w_fM_isAhead : ∀ {a1 : Int32} {a2 : Int32} {μ : am_Mu} {out : Int32 × am_Mu}, fM_isAhead a1 a2 μ = some out → am_fr [] μ out.2 := by
  intro a1 a2 μ out h
  unfold fM_isAhead at h
  obtain ⟨q1, h_q1, h⟩ := am_bind h
  have w_q1 : am_fr [] μ q1.2 := am_fr.trans am_fr.rf (am_fr.mono (w_fM_minuteOf h_q1) rfl)
  obtain ⟨q2, h_q2, h⟩ := am_bind h
  have w_q2 : am_fr [] μ q2.2 := am_fr.trans w_q1 (am_fr.mono (w_fM_minuteOf h_q2) rfl)
  rcases am_ite h with ⟨q3, h⟩ | ⟨q3, h⟩
  · skip
    rcases am_ite h with ⟨q4, h⟩ | ⟨q4, h⟩
    · skip
      exact am_fr.trans w_q2 (w_fM_isAhead_44 h)
    · skip
      exact am_fr.trans w_q2 (w_fM_isAhead_44 h)
  · skip
    obtain ⟨q5, h_q5, h⟩ := am_bind h
    have w_q5 : am_fr [] μ q5.2 := am_fr.trans w_q2 (am_fr.mono (w_fM_minuteOf h_q5) rfl)
    obtain ⟨q6, h_q6, h⟩ := am_bind h
    have w_q6 : am_fr [] μ q6.2 := am_fr.trans w_q5 (am_fr.mono (w_fM_minuteOf h_q6) rfl)
    rcases am_ite h with ⟨q7, h⟩ | ⟨q7, h⟩
    · skip
      cases h
      exact w_q6
    · skip
      cases h
      exact w_q6
set_option maxRecDepth 20000 in
theorem w_fM_comes_45 : ∀ {a1 : Int32} {a2 : Int32} {μ : am_Mu} {out : am_Mu}, fM_comes_45 a1 a2 μ = some out → am_fr [(108, 55), (143, 999)] μ out := by
  intro a1 a2 μ out h
  unfold fM_comes_45 at h
  obtain ⟨q1, h⟩ := am_bif h
  cases h
  exact (am_fr.up (am_fr.up am_fr.rf rfl) rfl)
set_option maxRecDepth 20000 in
theorem w_fM_comes_5 : ∀ n : Nat, ∀ {a1 : Int32} {a2 : Int32} {μ : am_Mu} {out : am_Mu}, fM_comes_5 n a1 a2 μ = some out → am_fr [(108, 55), (143, 999)] μ out := by
  intro n
  induction n with
  | zero => intros; contradiction
  | succ n ih =>
    have hk5 : ∀ {a1 : Int32} {a2 : Int32} {μ : am_Mu} {out : am_Mu}, (fM_comes_5 n) a1 a2 μ = some out → am_fr [(108, 55), (143, 999)] μ out := ih
    intro a1 a2 μ out h
    unfold fM_comes_5 at h
    rcases am_ite h with ⟨q1, h⟩ | ⟨q1, h⟩
    · skip
      exact am_fr.trans am_fr.rf (w_fM_comes_45 h)
    · skip
      obtain ⟨q2, h⟩ := am_bif h
      obtain ⟨q3, h_q3, h⟩ := am_bind h
      have w_q3 : am_fr [(108, 55), (143, 999)] μ q3.2 := am_fr.trans am_fr.rf (am_fr.mono (w_fM_isAhead h_q3) rfl)
      rcases am_ite h with ⟨q4, h⟩ | ⟨q4, h⟩
      · skip
        exact am_fr.trans w_q3 (w_fM_comes_45 h)
      · skip
        obtain ⟨q5, h⟩ := am_bif h
        exact am_fr.trans (am_fr.up w_q3 rfl) (hk5 h)
set_option maxRecDepth 20000 in
theorem w_fM_comes : ∀ {a1 : Int32} {μ : am_Mu} {out : am_Mu}, fM_comes a1 μ = some out → am_fr [(108, 55), (143, 999)] μ out := by
  intro a1 μ out h
  unfold fM_comes at h
  exact am_fr.trans am_fr.rf (w_fM_comes_5 am_F h)
set_option maxRecDepth 20000 in
theorem w_fM_act_70 : ∀ {a1 : Int32} {a2 : Int32} {a3 : Int32} {a4 : Int32} {a5 : Int32} {μ : am_Mu} {out : Int32 × am_Mu}, fM_act_70 a1 a2 a3 a4 a5 μ = some out → am_fr [(108, 5), (108, 55), (132, 999), (133, 999), (134, 999), (135, 999), (136, 999), (137, 999), (138, 999), (143, 999)] μ out.2 := by
  intro a1 a2 a3 a4 a5 μ out h
  unfold fM_act_70 at h
  obtain ⟨q1, h⟩ := am_bif h
  obtain ⟨q2, h_q2, h⟩ := am_bind h
  have w_q2 : am_fr [(108, 5), (108, 55), (132, 999), (133, 999), (134, 999), (135, 999), (136, 999), (137, 999), (138, 999), (143, 999)] μ q2 := am_fr.trans (am_fr.up (am_fr.up (am_fr.up (am_fr.up (am_fr.up (am_fr.up (am_fr.up (am_fr.up am_fr.rf rfl) rfl) rfl) rfl) rfl) rfl) rfl) rfl) (am_fr.mono (w_fM_comes h_q2) rfl)
  cases h
  exact w_q2
set_option maxRecDepth 20000 in
theorem w_fM_act : ∀ {a1 : Int32} {a2 : Int32} {a3 : Int32} {a4 : Int32} {a5 : Int32} {μ : am_Mu} {out : Int32 × am_Mu}, fM_act a1 a2 a3 a4 a5 μ = some out → am_fr [(108, 5), (108, 55), (132, 999), (133, 999), (134, 999), (135, 999), (136, 999), (137, 999), (138, 999), (143, 999)] μ out.2 := by
  intro a1 a2 a3 a4 a5 μ out h
  unfold fM_act at h
  rcases am_ite h with ⟨q1, h⟩ | ⟨q1, h⟩
  · skip
    cases h
    exact am_fr.rf
  · skip
    obtain ⟨q2, h_q2, h⟩ := am_bind h
    have w_q2 : am_fr [(108, 5), (108, 55), (132, 999), (133, 999), (134, 999), (135, 999), (136, 999), (137, 999), (138, 999), (143, 999)] μ q2.2 := am_fr.trans am_fr.rf (am_fr.mono (w_fM_lies h_q2) rfl)
    rcases am_ite h with ⟨q3, h⟩ | ⟨q3, h⟩
    · skip
      cases h
      exact w_q2
    · skip
      obtain ⟨q4, h_q4, h⟩ := am_bind h
      have w_q4 : am_fr [(108, 5), (108, 55), (132, 999), (133, 999), (134, 999), (135, 999), (136, 999), (137, 999), (138, 999), (143, 999)] μ q4.2 := am_fr.trans w_q2 (am_fr.mono (w_fM_isThing h_q4) rfl)
      rcases am_ite h with ⟨q5, h⟩ | ⟨q5, h⟩
      · skip
        cases h
        exact w_q4
      · skip
        obtain ⟨q6, h_q6, h⟩ := am_bind h
        have w_q6 : am_fr [(108, 5), (108, 55), (132, 999), (133, 999), (134, 999), (135, 999), (136, 999), (137, 999), (138, 999), (143, 999)] μ q6.2 := am_fr.trans w_q4 (am_fr.mono (w_fM_lies h_q6) rfl)
        rcases am_ite h with ⟨q7, h⟩ | ⟨q7, h⟩
        · skip
          rcases am_ite h with ⟨q8, h⟩ | ⟨q8, h⟩
          · skip
            rcases am_ite h with ⟨q9, h⟩ | ⟨q9, h⟩
            · skip
              exact am_fr.trans w_q6 (w_fM_act_70 h)
            · skip
              cases h
              exact w_q6
          · skip
            obtain ⟨q10, h_q10, h⟩ := am_bind h
            have w_q10 : am_fr [(108, 5), (108, 55), (132, 999), (133, 999), (134, 999), (135, 999), (136, 999), (137, 999), (138, 999), (143, 999)] μ q10.2 := am_fr.trans w_q6 (am_fr.mono (w_fM_isThing h_q10) rfl)
            rcases am_ite h with ⟨q11, h⟩ | ⟨q11, h⟩
            · skip
              cases h
              exact w_q10
            · skip
              rcases am_ite h with ⟨q12, h⟩ | ⟨q12, h⟩
              · skip
                exact am_fr.trans w_q10 (w_fM_act_70 h)
              · skip
                cases h
                exact w_q10
        · skip
          cases h
          exact w_q6
set_option maxRecDepth 20000 in
theorem w_fM_strike : ∀ {a1 : Int32} {μ : am_Mu} {out : Int32 × am_Mu}, fM_strike a1 μ = some out → am_fr [(138, 999)] μ out.2 := by
  intro a1 μ out h
  unfold fM_strike at h
  obtain ⟨q1, h_q1, h⟩ := am_bind h
  have w_q1 : am_fr [(138, 999)] μ q1.2 := am_fr.trans am_fr.rf (am_fr.mono (w_fM_lies h_q1) rfl)
  rcases am_ite h with ⟨q2, h⟩ | ⟨q2, h⟩
  · skip
    cases h
    exact w_q1
  · skip
    obtain ⟨q3, h⟩ := am_bif h
    rcases am_ite h with ⟨q4, h⟩ | ⟨q4, h⟩
    · skip
      cases h
      exact (am_fr.up w_q1 rfl)
    · skip
      cases h
      exact w_q1
set_option maxRecDepth 20000 in
theorem w_fM_mistake : ∀ {a1 : Int32} {a2 : Int32} {a3 : Int32} {μ : am_Mu} {out : Int32 × am_Mu}, fM_mistake a1 a2 a3 μ = some out → am_fr [(108, 55), (108, 6), (139, 999), (140, 999), (141, 999), (142, 999), (143, 999)] μ out.2 := by
  intro a1 a2 a3 μ out h
  unfold fM_mistake at h
  rcases am_ite h with ⟨q1, h⟩ | ⟨q1, h⟩
  · skip
    cases h
    exact am_fr.rf
  · skip
    obtain ⟨q2, h_q2, h⟩ := am_bind h
    have w_q2 : am_fr [(108, 55), (108, 6), (139, 999), (140, 999), (141, 999), (142, 999), (143, 999)] μ q2.2 := am_fr.trans am_fr.rf (am_fr.mono (w_fM_isThing h_q2) rfl)
    rcases am_ite h with ⟨q3, h⟩ | ⟨q3, h⟩
    · skip
      cases h
      exact w_q2
    · skip
      obtain ⟨q4, h_q4, h⟩ := am_bind h
      have w_q4 : am_fr [(108, 55), (108, 6), (139, 999), (140, 999), (141, 999), (142, 999), (143, 999)] μ q4.2 := am_fr.trans w_q2 (am_fr.mono (w_fM_isMark h_q4) rfl)
      rcases am_ite h with ⟨q5, h⟩ | ⟨q5, h⟩
      · skip
        cases h
        exact w_q4
      · skip
        obtain ⟨q6, h_q6, h⟩ := am_bind h
        have w_q6 : am_fr [(108, 55), (108, 6), (139, 999), (140, 999), (141, 999), (142, 999), (143, 999)] μ q6.2 := am_fr.trans w_q4 (am_fr.mono (w_fM_lies h_q6) rfl)
        rcases am_ite h with ⟨q7, h⟩ | ⟨q7, h⟩
        · skip
          obtain ⟨q8, h⟩ := am_bif h
          obtain ⟨q9, h_q9, h⟩ := am_bind h
          have w_q9 : am_fr [(108, 55), (108, 6), (139, 999), (140, 999), (141, 999), (142, 999), (143, 999)] μ q9 := am_fr.trans (am_fr.up (am_fr.up (am_fr.up (am_fr.up (am_fr.up w_q6 rfl) rfl) rfl) rfl) rfl) (am_fr.mono (w_fM_comes h_q9) rfl)
          cases h
          exact w_q9
        · skip
          cases h
          exact w_q6
set_option maxRecDepth 20000 in
theorem w_fM_isKnown_61 : ∀ {μ : am_Mu} {out : Int32 × am_Mu}, fM_isKnown_61 μ = some out → am_fr [] μ out.2 := by
  intro μ out h
  unfold fM_isKnown_61 at h
  cases h
  exact am_fr.rf
set_option maxRecDepth 20000 in
theorem w_fM_isKnown_57 : ∀ {μ : am_Mu} {out : Int32 × am_Mu}, fM_isKnown_57 μ = some out → am_fr [] μ out.2 := by
  intro μ out h
  unfold fM_isKnown_57 at h
  cases h
  exact am_fr.rf
set_option maxRecDepth 20000 in
theorem w_fM_isKnown : ∀ {a1 : Int32} {a2 : Int32} {μ : am_Mu} {out : Int32 × am_Mu}, fM_isKnown a1 a2 μ = some out → am_fr [] μ out.2 := by
  intro a1 a2 μ out h
  unfold fM_isKnown at h
  rcases am_ite h with ⟨q1, h⟩ | ⟨q1, h⟩
  · skip
    obtain ⟨q2, h⟩ := am_bif h
    rcases am_ite h with ⟨q3, h⟩ | ⟨q3, h⟩
    · skip
      exact am_fr.trans am_fr.rf (w_fM_isKnown_61 h)
    · skip
      rcases am_ite h with ⟨q4, h⟩ | ⟨q4, h⟩
      · skip
        exact am_fr.trans am_fr.rf (w_fM_isKnown_57 h)
      · skip
        rcases am_ite h with ⟨q5, h⟩ | ⟨q5, h⟩
        · skip
          exact am_fr.trans am_fr.rf (w_fM_isKnown_61 h)
        · skip
          exact am_fr.trans am_fr.rf (w_fM_isKnown_57 h)
  · skip
    obtain ⟨q6, h⟩ := am_bif h
    rcases am_ite h with ⟨q7, h⟩ | ⟨q7, h⟩
    · skip
      cases h
      exact am_fr.rf
    · skip
      cases h
      exact am_fr.rf
set_option maxRecDepth 20000 in
theorem w_fM_begins_79 {k2 : Int32 → Int32 → am_Mu → Option (am_Mu)} (hk2 : ∀ {a1 : Int32} {a2 : Int32} {μ : am_Mu} {out : am_Mu}, k2 a1 a2 μ = some out → am_fr [(144, 999), (145, 999), (146, 999)] μ out) : ∀ {a1 : Int32} {a2 : Int32} {μ : am_Mu} {out : am_Mu}, fM_begins_79 k2 a1 a2 μ = some out → am_fr [(144, 999), (145, 999), (146, 999)] μ out := by
  intro a1 a2 μ out h
  unfold fM_begins_79 at h
  exact am_fr.trans am_fr.rf (hk2 h)
set_option maxRecDepth 20000 in
theorem w_fM_begins_56 {k2 : Int32 → Int32 → am_Mu → Option (am_Mu)} {k12 : Int32 → Int32 → Int32 → am_Mu → Option (am_Mu)} (hk2 : ∀ {a1 : Int32} {a2 : Int32} {μ : am_Mu} {out : am_Mu}, k2 a1 a2 μ = some out → am_fr [(144, 999), (145, 999), (146, 999)] μ out) (hk12 : ∀ {a1 : Int32} {a2 : Int32} {a3 : Int32} {μ : am_Mu} {out : am_Mu}, k12 a1 a2 a3 μ = some out → am_fr [(144, 999), (145, 999), (146, 999)] μ out) : ∀ {a1 : Int32} {a2 : Int32} {a3 : Int32} {a4 : Int32} {s1 : Int32} {s2 : Int32} {μ : am_Mu} {out : am_Mu}, fM_begins_56 k2 k12 a1 a2 a3 a4 s1 s2 μ = some out → am_fr [(144, 999), (145, 999), (146, 999)] μ out := by
  intro a1 a2 a3 a4 s1 s2 μ out h
  unfold fM_begins_56 at h
  obtain ⟨q1, h⟩ := am_bif h
  obtain ⟨q2, h⟩ := am_bif h
  exact am_fr.trans (am_fr.up (am_fr.up (am_fr.up am_fr.rf rfl) rfl) rfl) (hk12 h)
set_option maxRecDepth 20000 in
theorem w_fM_begins_12 {k2 : Int32 → Int32 → am_Mu → Option (am_Mu)} (hk2 : ∀ {a1 : Int32} {a2 : Int32} {μ : am_Mu} {out : am_Mu}, k2 a1 a2 μ = some out → am_fr [(144, 999), (145, 999), (146, 999)] μ out) : ∀ n : Nat, ∀ {a1 : Int32} {a2 : Int32} {a3 : Int32} {μ : am_Mu} {out : am_Mu}, fM_begins_12 n k2 a1 a2 a3 μ = some out → am_fr [(144, 999), (145, 999), (146, 999)] μ out := by
  intro n
  induction n with
  | zero => intros; contradiction
  | succ n ih =>
    have hk12 : ∀ {a1 : Int32} {a2 : Int32} {a3 : Int32} {μ : am_Mu} {out : am_Mu}, (fM_begins_12 n k2) a1 a2 a3 μ = some out → am_fr [(144, 999), (145, 999), (146, 999)] μ out := ih
    intro a1 a2 a3 μ out h
    unfold fM_begins_12 at h
    rcases am_ite h with ⟨q1, h⟩ | ⟨q1, h⟩
    · skip
      exact am_fr.trans am_fr.rf (w_fM_begins_79 hk2 h)
    · skip
      obtain ⟨q2, h⟩ := am_bif h
      obtain ⟨q3, h_q3, h⟩ := am_bind h
      have w_q3 : am_fr [(144, 999), (145, 999), (146, 999)] μ q3.2 := am_fr.trans am_fr.rf (am_fr.mono (w_fM_has h_q3) rfl)
      rcases am_ite h with ⟨q4, h⟩ | ⟨q4, h⟩
      · skip
        exact am_fr.trans w_q3 (w_fM_begins_56 hk2 hk12 h)
      · skip
        exact am_fr.trans w_q3 (w_fM_begins_56 hk2 hk12 h)
set_option maxRecDepth 20000 in
theorem w_fM_begins_2 : ∀ n : Nat, ∀ {a1 : Int32} {a2 : Int32} {μ : am_Mu} {out : am_Mu}, fM_begins_2 n a1 a2 μ = some out → am_fr [(144, 999), (145, 999), (146, 999)] μ out := by
  intro n
  induction n with
  | zero => intros; contradiction
  | succ n ih =>
    have hk2 : ∀ {a1 : Int32} {a2 : Int32} {μ : am_Mu} {out : am_Mu}, (fM_begins_2 n) a1 a2 μ = some out → am_fr [(144, 999), (145, 999), (146, 999)] μ out := ih
    intro a1 a2 μ out h
    unfold fM_begins_2 at h
    rcases am_ite h with ⟨q1, h⟩ | ⟨q1, h⟩
    · skip
      cases h
      exact am_fr.rf
    · skip
      exact am_fr.trans am_fr.rf (w_fM_begins_12 hk2 am_F h)
set_option maxRecDepth 20000 in
theorem w_fM_begins : ∀ {a1 : Int32} {μ : am_Mu} {out : am_Mu}, fM_begins a1 μ = some out → am_fr [(144, 999), (145, 999), (146, 999)] μ out := by
  intro a1 μ out h
  unfold fM_begins at h
  exact am_fr.trans am_fr.rf (w_fM_begins_2 am_F h)
set_option maxRecDepth 20000 in
theorem w_fM_sets : ∀ {a1 : Int32} {a2 : Int32} {a3 : Int32} {a4 : Int32} {μ : am_Mu} {out : am_Mu}, fM_sets a1 a2 a3 a4 μ = some out → am_fr [(144, 999), (145, 999), (146, 999)] μ out := by
  intro a1 a2 a3 a4 μ out h
  unfold fM_sets at h
  obtain ⟨q1, h⟩ := am_bif h
  cases h
  exact (am_fr.up (am_fr.up (am_fr.up am_fr.rf rfl) rfl) rfl)
set_option maxRecDepth 20000 in
theorem w_fM_joins_117 : ∀ {a5 : Int32} {a6 : Int32} {s1 : Int32} {s2 : Int32} {μ : am_Mu} {out : am_Mu}, fM_joins_117 a5 a6 s1 s2 μ = some out → am_fr [(144, 999), (145, 999), (146, 999)] μ out := by
  intro a5 a6 s1 s2 μ out h
  unfold fM_joins_117 at h
  obtain ⟨q1, h_q1, h⟩ := am_bind h
  have w_q1 : am_fr [(144, 999), (145, 999), (146, 999)] μ q1 := am_fr.trans am_fr.rf (am_fr.mono (w_fM_sets h_q1) rfl)
  cases h
  exact w_q1
set_option maxRecDepth 20000 in
theorem w_fM_joins_116 : ∀ {a5 : Int32} {a6 : Int32} {s1 : Int32} {μ : am_Mu} {out : am_Mu}, fM_joins_116 a5 a6 s1 μ = some out → am_fr [(144, 999), (145, 999), (146, 999)] μ out := by
  intro a5 a6 s1 μ out h
  unfold fM_joins_116 at h
  exact am_fr.trans am_fr.rf (w_fM_joins_117 h)
set_option maxRecDepth 20000 in
theorem w_fM_joins_93 : ∀ {a1 : Int32} {a2 : Int32} {a5 : Int32} {s0 : Int32} {μ : am_Mu} {out : am_Mu}, fM_joins_93 a1 a2 a5 s0 μ = some out → am_fr [(144, 999), (145, 999), (146, 999)] μ out := by
  intro a1 a2 a5 s0 μ out h
  unfold fM_joins_93 at h
  obtain ⟨q1, h⟩ := am_bif h
  rcases am_ite h with ⟨q2, h⟩ | ⟨q2, h⟩
  · skip
    exact am_fr.trans am_fr.rf (w_fM_joins_116 h)
  · skip
    rcases am_ite h with ⟨q3, h⟩ | ⟨q3, h⟩
    · skip
      exact am_fr.trans am_fr.rf (w_fM_joins_116 h)
    · skip
      exact am_fr.trans am_fr.rf (w_fM_joins_117 h)
set_option maxRecDepth 20000 in
theorem w_fM_joins_82 : ∀ {a1 : Int32} {a2 : Int32} {a5 : Int32} {μ : am_Mu} {out : am_Mu}, fM_joins_82 a1 a2 a5 μ = some out → am_fr [(144, 999), (145, 999), (146, 999)] μ out := by
  intro a1 a2 a5 μ out h
  unfold fM_joins_82 at h
  obtain ⟨q1, h⟩ := am_bif h
  exact am_fr.trans am_fr.rf (w_fM_joins_93 h)
set_option maxRecDepth 20000 in
theorem w_fM_joins_51 : ∀ {a1 : Int32} {a2 : Int32} {a4 : Int32} {s0 : Int32} {μ : am_Mu} {out : am_Mu}, fM_joins_51 a1 a2 a4 s0 μ = some out → am_fr [(144, 999), (145, 999), (146, 999)] μ out := by
  intro a1 a2 a4 s0 μ out h
  unfold fM_joins_51 at h
  obtain ⟨q1, h⟩ := am_bif h
  rcases am_ite h with ⟨q2, h⟩ | ⟨q2, h⟩
  · skip
    rcases am_ite h with ⟨q3, h⟩ | ⟨q3, h⟩
    · skip
      exact am_fr.trans am_fr.rf (w_fM_joins_82 h)
    · skip
      rcases am_ite h with ⟨q4, h⟩ | ⟨q4, h⟩
      · skip
        exact am_fr.trans am_fr.rf (w_fM_joins_93 h)
      · skip
        exact am_fr.trans am_fr.rf (w_fM_joins_82 h)
  · skip
    exact am_fr.trans am_fr.rf (w_fM_joins_93 h)
set_option maxRecDepth 20000 in
theorem w_fM_joins_41 : ∀ {a1 : Int32} {a2 : Int32} {a4 : Int32} {μ : am_Mu} {out : am_Mu}, fM_joins_41 a1 a2 a4 μ = some out → am_fr [(144, 999), (145, 999), (146, 999)] μ out := by
  intro a1 a2 a4 μ out h
  unfold fM_joins_41 at h
  obtain ⟨q1, h⟩ := am_bif h
  exact am_fr.trans am_fr.rf (w_fM_joins_51 h)
set_option maxRecDepth 20000 in
theorem w_fM_joins_14 : ∀ {a1 : Int32} {a2 : Int32} {a3 : Int32} {a4 : Int32} {μ : am_Mu} {out : am_Mu}, fM_joins_14 a1 a2 a3 a4 μ = some out → am_fr [(144, 999), (145, 999), (146, 999)] μ out := by
  intro a1 a2 a3 a4 μ out h
  unfold fM_joins_14 at h
  obtain ⟨q1, h⟩ := am_bif h
  rcases am_ite h with ⟨q2, h⟩ | ⟨q2, h⟩
  · skip
    rcases am_ite h with ⟨q3, h⟩ | ⟨q3, h⟩
    · skip
      exact am_fr.trans am_fr.rf (w_fM_joins_41 h)
    · skip
      rcases am_ite h with ⟨q4, h⟩ | ⟨q4, h⟩
      · skip
        exact am_fr.trans am_fr.rf (w_fM_joins_51 h)
      · skip
        exact am_fr.trans am_fr.rf (w_fM_joins_41 h)
  · skip
    exact am_fr.trans am_fr.rf (w_fM_joins_51 h)
set_option maxRecDepth 20000 in
theorem w_fM_joins : ∀ {a1 : Int32} {a2 : Int32} {a3 : Int32} {a4 : Int32} {μ : am_Mu} {out : am_Mu}, fM_joins a1 a2 a3 a4 μ = some out → am_fr [(144, 999), (145, 999), (146, 999)] μ out := by
  intro a1 a2 a3 a4 μ out h
  unfold fM_joins at h
  obtain ⟨q1, h⟩ := am_bif h
  rcases am_ite h with ⟨q2, h⟩ | ⟨q2, h⟩
  · skip
    exact am_fr.trans am_fr.rf (w_fM_joins_14 h)
  · skip
    rcases am_ite h with ⟨q3, h⟩ | ⟨q3, h⟩
    · skip
      exact am_fr.trans am_fr.rf (w_fM_joins_14 h)
    · skip
      cases h
      exact am_fr.rf
set_option maxRecDepth 20000 in
theorem w_fM_asked : ∀ {a1 : Int32} {a2 : Int32} {a3 : Int32} {μ : am_Mu} {out : Int32 × am_Mu}, fM_asked a1 a2 a3 μ = some out → am_fr [] μ out.2 := by
  intro a1 a2 a3 μ out h
  unfold fM_asked at h
  obtain ⟨q1, h⟩ := am_bif h
  rcases am_ite h with ⟨q2, h⟩ | ⟨q2, h⟩
  · skip
    cases h
    exact am_fr.rf
  · skip
    rcases am_ite h with ⟨q3, h⟩ | ⟨q3, h⟩
    · skip
      rcases am_ite h with ⟨q4, h⟩ | ⟨q4, h⟩
      · skip
        rcases am_ite h with ⟨q5, h⟩ | ⟨q5, h⟩
        · skip
          cases h
          exact am_fr.rf
        · skip
          cases h
          exact am_fr.rf
      · skip
        cases h
        exact am_fr.rf
    · skip
      cases h
      exact am_fr.rf
set_option maxRecDepth 20000 in
theorem w_fM_holds_252 : ∀ {μ : am_Mu} {out : Int32 × am_Mu}, fM_holds_252 μ = some out → am_fr [(150, 999)] μ out.2 := by
  intro μ out h
  unfold fM_holds_252 at h
  cases h
  exact am_fr.rf
set_option maxRecDepth 20000 in
theorem w_fM_holds_246 {k22 : Int32 → Int32 → Int32 → Int32 → Int32 → Int32 → am_Mu → Option (Int32 × am_Mu)} (hk22 : ∀ {a1 : Int32} {a2 : Int32} {a3 : Int32} {a4 : Int32} {a5 : Int32} {a6 : Int32} {μ : am_Mu} {out : Int32 × am_Mu}, k22 a1 a2 a3 a4 a5 a6 μ = some out → am_fr [(150, 999)] μ out.2) : ∀ {a1 : Int32} {a2 : Int32} {a3 : Int32} {a4 : Int32} {a5 : Int32} {a6 : Int32} {μ : am_Mu} {out : Int32 × am_Mu}, fM_holds_246 k22 a1 a2 a3 a4 a5 a6 μ = some out → am_fr [(150, 999)] μ out.2 := by
  intro a1 a2 a3 a4 a5 a6 μ out h
  unfold fM_holds_246 at h
  exact am_fr.trans am_fr.rf (hk22 h)
set_option maxRecDepth 20000 in
theorem w_fM_holds_107 {k22 : Int32 → Int32 → Int32 → Int32 → Int32 → Int32 → am_Mu → Option (Int32 × am_Mu)} (hk22 : ∀ {a1 : Int32} {a2 : Int32} {a3 : Int32} {a4 : Int32} {a5 : Int32} {a6 : Int32} {μ : am_Mu} {out : Int32 × am_Mu}, k22 a1 a2 a3 a4 a5 a6 μ = some out → am_fr [(150, 999)] μ out.2) : ∀ {a1 : Int32} {a2 : Int32} {a3 : Int32} {a4 : Int32} {a5 : Int32} {a6 : Int32} {s1 : Int32} {s3 : Int32} {μ : am_Mu} {out : Int32 × am_Mu}, fM_holds_107 k22 a1 a2 a3 a4 a5 a6 s1 s3 μ = some out → am_fr [(150, 999)] μ out.2 := by
  intro a1 a2 a3 a4 a5 a6 s1 s3 μ out h
  unfold fM_holds_107 at h
  obtain ⟨q1, h⟩ := am_bif h
  obtain ⟨q2, h_q2, h⟩ := am_bind h
  have w_q2 : am_fr [(150, 999)] μ q2.2 := am_fr.trans am_fr.rf (am_fr.mono (w_fM_asked h_q2) rfl)
  obtain ⟨q3, h⟩ := am_bif h
  exact am_fr.trans (am_fr.up w_q2 rfl) (w_fM_holds_246 hk22 h)
set_option maxRecDepth 20000 in
theorem w_fM_holds_230 {k22 : Int32 → Int32 → Int32 → Int32 → Int32 → Int32 → am_Mu → Option (Int32 × am_Mu)} (hk22 : ∀ {a1 : Int32} {a2 : Int32} {a3 : Int32} {a4 : Int32} {a5 : Int32} {a6 : Int32} {μ : am_Mu} {out : Int32 × am_Mu}, k22 a1 a2 a3 a4 a5 a6 μ = some out → am_fr [(150, 999)] μ out.2) : ∀ {a1 : Int32} {a2 : Int32} {a3 : Int32} {a4 : Int32} {a5 : Int32} {a6 : Int32} {μ : am_Mu} {out : Int32 × am_Mu}, fM_holds_230 k22 a1 a2 a3 a4 a5 a6 μ = some out → am_fr [(150, 999)] μ out.2 := by
  intro a1 a2 a3 a4 a5 a6 μ out h
  unfold fM_holds_230 at h
  obtain ⟨q1, h⟩ := am_bif h
  obtain ⟨q2, h⟩ := am_bif h
  exact am_fr.trans (am_fr.up am_fr.rf rfl) (w_fM_holds_246 hk22 h)
set_option maxRecDepth 20000 in
theorem w_fM_holds_182 {k22 : Int32 → Int32 → Int32 → Int32 → Int32 → Int32 → am_Mu → Option (Int32 × am_Mu)} (hk22 : ∀ {a1 : Int32} {a2 : Int32} {a3 : Int32} {a4 : Int32} {a5 : Int32} {a6 : Int32} {μ : am_Mu} {out : Int32 × am_Mu}, k22 a1 a2 a3 a4 a5 a6 μ = some out → am_fr [(150, 999)] μ out.2) : ∀ {a1 : Int32} {a2 : Int32} {a3 : Int32} {a4 : Int32} {a5 : Int32} {a6 : Int32} {s0 : Int32} {μ : am_Mu} {out : Int32 × am_Mu}, fM_holds_182 k22 a1 a2 a3 a4 a5 a6 s0 μ = some out → am_fr [(150, 999)] μ out.2 := by
  intro a1 a2 a3 a4 a5 a6 s0 μ out h
  unfold fM_holds_182 at h
  rcases am_ite h with ⟨q1, h⟩ | ⟨q1, h⟩
  · skip
    obtain ⟨q2, h⟩ := am_bif h
    obtain ⟨q3, h⟩ := am_bif h
    rcases am_ite h with ⟨q4, h⟩ | ⟨q4, h⟩
    · skip
      exact am_fr.trans am_fr.rf (w_fM_holds_246 hk22 h)
    · skip
      exact am_fr.trans am_fr.rf (w_fM_holds_230 hk22 h)
  · skip
    obtain ⟨q5, h⟩ := am_bif h
    obtain ⟨q6, h⟩ := am_bif h
    rcases am_ite h with ⟨q7, h⟩ | ⟨q7, h⟩
    · skip
      exact am_fr.trans am_fr.rf (w_fM_holds_246 hk22 h)
    · skip
      exact am_fr.trans am_fr.rf (w_fM_holds_230 hk22 h)
set_option maxRecDepth 20000 in
theorem w_fM_holds_22 : ∀ n : Nat, ∀ {a1 : Int32} {a2 : Int32} {a3 : Int32} {a4 : Int32} {a5 : Int32} {a6 : Int32} {μ : am_Mu} {out : Int32 × am_Mu}, fM_holds_22 n a1 a2 a3 a4 a5 a6 μ = some out → am_fr [(150, 999)] μ out.2 := by
  intro n
  induction n with
  | zero => intros; contradiction
  | succ n ih =>
    have hk22 : ∀ {a1 : Int32} {a2 : Int32} {a3 : Int32} {a4 : Int32} {a5 : Int32} {a6 : Int32} {μ : am_Mu} {out : Int32 × am_Mu}, (fM_holds_22 n) a1 a2 a3 a4 a5 a6 μ = some out → am_fr [(150, 999)] μ out.2 := ih
    intro a1 a2 a3 a4 a5 a6 μ out h
    unfold fM_holds_22 at h
    obtain ⟨q1, h⟩ := am_bif h
    rcases am_ite h with ⟨q2, h⟩ | ⟨q2, h⟩
    · skip
      exact am_fr.trans am_fr.rf (w_fM_holds_252 h)
    · skip
      obtain ⟨q3, h⟩ := am_bif h
      rcases am_ite h with ⟨q4, h⟩ | ⟨q4, h⟩
      · skip
        rcases am_ite h with ⟨q5, h⟩ | ⟨q5, h⟩
        · skip
          exact am_fr.trans am_fr.rf (w_fM_holds_107 hk22 h)
        · skip
          exact am_fr.trans am_fr.rf (w_fM_holds_107 hk22 h)
      rcases am_ite h with ⟨q6, h⟩ | ⟨q6, h⟩
      · skip
        obtain ⟨q7, h⟩ := am_bif h
        exact am_fr.trans (am_fr.up am_fr.rf rfl) (w_fM_holds_246 hk22 h)
      rcases am_ite h with ⟨q8, h⟩ | ⟨q8, h⟩
      · skip
        obtain ⟨q9, h⟩ := am_bif h
        exact am_fr.trans (am_fr.up am_fr.rf rfl) (w_fM_holds_246 hk22 h)
      rcases am_ite h with ⟨q10, h⟩ | ⟨q10, h⟩
      · skip
        exact am_fr.trans am_fr.rf (w_fM_holds_182 hk22 h)
      · skip
        exact am_fr.trans am_fr.rf (w_fM_holds_182 hk22 h)
set_option maxRecDepth 20000 in
theorem w_fM_holds : ∀ {a1 : Int32} {a2 : Int32} {a3 : Int32} {a4 : Int32} {μ : am_Mu} {out : Int32 × am_Mu}, fM_holds a1 a2 a3 a4 μ = some out → am_fr [(150, 999)] μ out.2 := by
  intro a1 a2 a3 a4 μ out h
  unfold fM_holds at h
  obtain ⟨q1, h⟩ := am_bif h
  exact am_fr.trans am_fr.rf (w_fM_holds_22 am_F h)
set_option maxRecDepth 20000 in
theorem w_fM_does_169 {k3 : Int32 → Int32 → Int32 → Int32 → Int32 → Int32 → Int32 → Int32 → am_Mu → Option (am_Mu)} (hk3 : ∀ {a1 : Int32} {a2 : Int32} {a3 : Int32} {a4 : Int32} {a5 : Int32} {a6 : Int32} {a7 : Int32} {a8 : Int32} {μ : am_Mu} {out : am_Mu}, k3 a1 a2 a3 a4 a5 a6 a7 a8 μ = some out → am_fr [(144, 999), (145, 999), (146, 999)] μ out) : ∀ {a1 : Int32} {a2 : Int32} {a3 : Int32} {a4 : Int32} {a5 : Int32} {a6 : Int32} {a7 : Int32} {a8 : Int32} {μ : am_Mu} {out : am_Mu}, fM_does_169 k3 a1 a2 a3 a4 a5 a6 a7 a8 μ = some out → am_fr [(144, 999), (145, 999), (146, 999)] μ out := by
  intro a1 a2 a3 a4 a5 a6 a7 a8 μ out h
  unfold fM_does_169 at h
  exact am_fr.trans am_fr.rf (hk3 h)
set_option maxRecDepth 20000 in
theorem w_fM_does_166 {k3 : Int32 → Int32 → Int32 → Int32 → Int32 → Int32 → Int32 → Int32 → am_Mu → Option (am_Mu)} (hk3 : ∀ {a1 : Int32} {a2 : Int32} {a3 : Int32} {a4 : Int32} {a5 : Int32} {a6 : Int32} {a7 : Int32} {a8 : Int32} {μ : am_Mu} {out : am_Mu}, k3 a1 a2 a3 a4 a5 a6 a7 a8 μ = some out → am_fr [(144, 999), (145, 999), (146, 999)] μ out) : ∀ {a1 : Int32} {a2 : Int32} {a3 : Int32} {a4 : Int32} {a5 : Int32} {a6 : Int32} {a7 : Int32} {a8 : Int32} {s1 : Int32} {s2 : Int32} {s3 : Int32} {s4 : Int32} {μ : am_Mu} {out : am_Mu}, fM_does_166 k3 a1 a2 a3 a4 a5 a6 a7 a8 s1 s2 s3 s4 μ = some out → am_fr [(144, 999), (145, 999), (146, 999)] μ out := by
  intro a1 a2 a3 a4 a5 a6 a7 a8 s1 s2 s3 s4 μ out h
  unfold fM_does_166 at h
  obtain ⟨q1, h_q1, h⟩ := am_bind h
  have w_q1 : am_fr [(144, 999), (145, 999), (146, 999)] μ q1 := am_fr.trans am_fr.rf (am_fr.mono (w_fM_sets h_q1) rfl)
  exact am_fr.trans w_q1 (w_fM_does_169 hk3 h)
set_option maxRecDepth 20000 in
theorem w_fM_does_155 {k3 : Int32 → Int32 → Int32 → Int32 → Int32 → Int32 → Int32 → Int32 → am_Mu → Option (am_Mu)} (hk3 : ∀ {a1 : Int32} {a2 : Int32} {a3 : Int32} {a4 : Int32} {a5 : Int32} {a6 : Int32} {a7 : Int32} {a8 : Int32} {μ : am_Mu} {out : am_Mu}, k3 a1 a2 a3 a4 a5 a6 a7 a8 μ = some out → am_fr [(144, 999), (145, 999), (146, 999)] μ out) : ∀ {a1 : Int32} {a2 : Int32} {a3 : Int32} {a4 : Int32} {a5 : Int32} {a6 : Int32} {a7 : Int32} {a8 : Int32} {a12 : Int32} {s1 : Int32} {s2 : Int32} {s3 : Int32} {μ : am_Mu} {out : am_Mu}, fM_does_155 k3 a1 a2 a3 a4 a5 a6 a7 a8 a12 s1 s2 s3 μ = some out → am_fr [(144, 999), (145, 999), (146, 999)] μ out := by
  intro a1 a2 a3 a4 a5 a6 a7 a8 a12 s1 s2 s3 μ out h
  unfold fM_does_155 at h
  rcases am_ite h with ⟨q1, h⟩ | ⟨q1, h⟩
  · skip
    exact am_fr.trans am_fr.rf (w_fM_does_166 hk3 h)
  · skip
    exact am_fr.trans am_fr.rf (w_fM_does_166 hk3 h)
set_option maxRecDepth 20000 in
theorem w_fM_does_144 {k3 : Int32 → Int32 → Int32 → Int32 → Int32 → Int32 → Int32 → Int32 → am_Mu → Option (am_Mu)} (hk3 : ∀ {a1 : Int32} {a2 : Int32} {a3 : Int32} {a4 : Int32} {a5 : Int32} {a6 : Int32} {a7 : Int32} {a8 : Int32} {μ : am_Mu} {out : am_Mu}, k3 a1 a2 a3 a4 a5 a6 a7 a8 μ = some out → am_fr [(144, 999), (145, 999), (146, 999)] μ out) : ∀ {a1 : Int32} {a2 : Int32} {a3 : Int32} {a4 : Int32} {a5 : Int32} {a6 : Int32} {a7 : Int32} {a8 : Int32} {a12 : Int32} {s1 : Int32} {s2 : Int32} {μ : am_Mu} {out : am_Mu}, fM_does_144 k3 a1 a2 a3 a4 a5 a6 a7 a8 a12 s1 s2 μ = some out → am_fr [(144, 999), (145, 999), (146, 999)] μ out := by
  intro a1 a2 a3 a4 a5 a6 a7 a8 a12 s1 s2 μ out h
  unfold fM_does_144 at h
  rcases am_ite h with ⟨q1, h⟩ | ⟨q1, h⟩
  · skip
    exact am_fr.trans am_fr.rf (w_fM_does_155 hk3 h)
  · skip
    exact am_fr.trans am_fr.rf (w_fM_does_155 hk3 h)
set_option maxRecDepth 20000 in
theorem w_fM_does_121 {k3 : Int32 → Int32 → Int32 → Int32 → Int32 → Int32 → Int32 → Int32 → am_Mu → Option (am_Mu)} (hk3 : ∀ {a1 : Int32} {a2 : Int32} {a3 : Int32} {a4 : Int32} {a5 : Int32} {a6 : Int32} {a7 : Int32} {a8 : Int32} {μ : am_Mu} {out : am_Mu}, k3 a1 a2 a3 a4 a5 a6 a7 a8 μ = some out → am_fr [(144, 999), (145, 999), (146, 999)] μ out) : ∀ {a1 : Int32} {a2 : Int32} {a3 : Int32} {a4 : Int32} {a5 : Int32} {a6 : Int32} {a7 : Int32} {a8 : Int32} {s1 : Int32} {s2 : Int32} {μ : am_Mu} {out : am_Mu}, fM_does_121 k3 a1 a2 a3 a4 a5 a6 a7 a8 s1 s2 μ = some out → am_fr [(144, 999), (145, 999), (146, 999)] μ out := by
  intro a1 a2 a3 a4 a5 a6 a7 a8 s1 s2 μ out h
  unfold fM_does_121 at h
  obtain ⟨q1, h_q1, h⟩ := am_bind h
  have w_q1 : am_fr [(144, 999), (145, 999), (146, 999)] μ q1 := am_fr.trans am_fr.rf (am_fr.mono (w_fM_joins h_q1) rfl)
  exact am_fr.trans w_q1 (w_fM_does_169 hk3 h)
set_option maxRecDepth 20000 in
theorem w_fM_does_101 {k3 : Int32 → Int32 → Int32 → Int32 → Int32 → Int32 → Int32 → Int32 → am_Mu → Option (am_Mu)} (hk3 : ∀ {a1 : Int32} {a2 : Int32} {a3 : Int32} {a4 : Int32} {a5 : Int32} {a6 : Int32} {a7 : Int32} {a8 : Int32} {μ : am_Mu} {out : am_Mu}, k3 a1 a2 a3 a4 a5 a6 a7 a8 μ = some out → am_fr [(144, 999), (145, 999), (146, 999)] μ out) : ∀ {a1 : Int32} {a2 : Int32} {a3 : Int32} {a4 : Int32} {a5 : Int32} {a6 : Int32} {a7 : Int32} {a8 : Int32} {a11 : Int32} {s0 : Int32} {μ : am_Mu} {out : am_Mu}, fM_does_101 k3 a1 a2 a3 a4 a5 a6 a7 a8 a11 s0 μ = some out → am_fr [(144, 999), (145, 999), (146, 999)] μ out := by
  intro a1 a2 a3 a4 a5 a6 a7 a8 a11 s0 μ out h
  unfold fM_does_101 at h
  rcases am_ite h with ⟨q1, h⟩ | ⟨q1, h⟩
  · skip
    rcases am_ite h with ⟨q2, h⟩ | ⟨q2, h⟩
    · skip
      exact am_fr.trans am_fr.rf (w_fM_does_144 hk3 h)
    · skip
      exact am_fr.trans am_fr.rf (w_fM_does_144 hk3 h)
  · skip
    rcases am_ite h with ⟨q3, h⟩ | ⟨q3, h⟩
    · skip
      exact am_fr.trans am_fr.rf (w_fM_does_121 hk3 h)
    · skip
      exact am_fr.trans am_fr.rf (w_fM_does_121 hk3 h)
set_option maxRecDepth 20000 in
theorem w_fM_does_58 {k3 : Int32 → Int32 → Int32 → Int32 → Int32 → Int32 → Int32 → Int32 → am_Mu → Option (am_Mu)} (hk3 : ∀ {a1 : Int32} {a2 : Int32} {a3 : Int32} {a4 : Int32} {a5 : Int32} {a6 : Int32} {a7 : Int32} {a8 : Int32} {μ : am_Mu} {out : am_Mu}, k3 a1 a2 a3 a4 a5 a6 a7 a8 μ = some out → am_fr [(144, 999), (145, 999), (146, 999)] μ out) : ∀ {a1 : Int32} {a2 : Int32} {a3 : Int32} {a4 : Int32} {a5 : Int32} {a6 : Int32} {a7 : Int32} {a8 : Int32} {a9 : Int32} {s0 : Int32} {μ : am_Mu} {out : am_Mu}, fM_does_58 k3 a1 a2 a3 a4 a5 a6 a7 a8 a9 s0 μ = some out → am_fr [(144, 999), (145, 999), (146, 999)] μ out := by
  intro a1 a2 a3 a4 a5 a6 a7 a8 a9 s0 μ out h
  unfold fM_does_58 at h
  rcases am_ite h with ⟨q1, h⟩ | ⟨q1, h⟩
  · skip
    rcases am_ite h with ⟨q2, h⟩ | ⟨q2, h⟩
    · skip
      exact am_fr.trans am_fr.rf (w_fM_does_101 hk3 h)
    · skip
      exact am_fr.trans am_fr.rf (w_fM_does_101 hk3 h)
  · skip
    exact am_fr.trans am_fr.rf (w_fM_does_169 hk3 h)
set_option maxRecDepth 20000 in
theorem w_fM_does_3 : ∀ n : Nat, ∀ {a1 : Int32} {a2 : Int32} {a3 : Int32} {a4 : Int32} {a5 : Int32} {a6 : Int32} {a7 : Int32} {a8 : Int32} {μ : am_Mu} {out : am_Mu}, fM_does_3 n a1 a2 a3 a4 a5 a6 a7 a8 μ = some out → am_fr [(144, 999), (145, 999), (146, 999)] μ out := by
  intro n
  induction n with
  | zero => intros; contradiction
  | succ n ih =>
    have hk3 : ∀ {a1 : Int32} {a2 : Int32} {a3 : Int32} {a4 : Int32} {a5 : Int32} {a6 : Int32} {a7 : Int32} {a8 : Int32} {μ : am_Mu} {out : am_Mu}, (fM_does_3 n) a1 a2 a3 a4 a5 a6 a7 a8 μ = some out → am_fr [(144, 999), (145, 999), (146, 999)] μ out := ih
    intro a1 a2 a3 a4 a5 a6 a7 a8 μ out h
    unfold fM_does_3 at h
    obtain ⟨q1, h⟩ := am_bif h
    rcases am_ite h with ⟨q2, h⟩ | ⟨q2, h⟩
    · skip
      cases h
      exact am_fr.rf
    · skip
      rcases am_ite h with ⟨q3, h⟩ | ⟨q3, h⟩
      · skip
        cases h
        exact am_fr.rf
      · skip
        obtain ⟨q4, h⟩ := am_bif h
        rcases am_ite h with ⟨q5, h⟩ | ⟨q5, h⟩
        · skip
          exact am_fr.trans am_fr.rf (w_fM_does_58 hk3 h)
        · skip
          exact am_fr.trans am_fr.rf (w_fM_does_58 hk3 h)
set_option maxRecDepth 20000 in
theorem w_fM_does : ∀ {a1 : Int32} {a2 : Int32} {a3 : Int32} {a4 : Int32} {a5 : Int32} {a6 : Int32} {a7 : Int32} {μ : am_Mu} {out : am_Mu}, fM_does a1 a2 a3 a4 a5 a6 a7 μ = some out → am_fr [(144, 999), (145, 999), (146, 999)] μ out := by
  intro a1 a2 a3 a4 a5 a6 a7 μ out h
  unfold fM_does at h
  exact am_fr.trans am_fr.rf (w_fM_does_3 am_F h)
set_option maxRecDepth 20000 in
theorem w_fM_keeps_124 {k3 : Int32 → Int32 → Int32 → Int32 → am_Mu → Option (am_Mu)} (hk3 : ∀ {a1 : Int32} {a2 : Int32} {a3 : Int32} {a4 : Int32} {μ : am_Mu} {out : am_Mu}, k3 a1 a2 a3 a4 μ = some out → am_fr [(147, 999), (148, 999), (149, 999)] μ out) : ∀ {a1 : Int32} {a2 : Int32} {a3 : Int32} {a4 : Int32} {s1 : Int32} {s2 : Int32} {μ : am_Mu} {out : am_Mu}, fM_keeps_124 k3 a1 a2 a3 a4 s1 s2 μ = some out → am_fr [(147, 999), (148, 999), (149, 999)] μ out := by
  intro a1 a2 a3 a4 s1 s2 μ out h
  unfold fM_keeps_124 at h
  obtain ⟨q1, h⟩ := am_bif h
  exact am_fr.trans (am_fr.up am_fr.rf rfl) (hk3 h)
set_option maxRecDepth 20000 in
theorem w_fM_keeps_100 {k3 : Int32 → Int32 → Int32 → Int32 → am_Mu → Option (am_Mu)} (hk3 : ∀ {a1 : Int32} {a2 : Int32} {a3 : Int32} {a4 : Int32} {μ : am_Mu} {out : am_Mu}, k3 a1 a2 a3 a4 μ = some out → am_fr [(147, 999), (148, 999), (149, 999)] μ out) : ∀ {a1 : Int32} {a2 : Int32} {a3 : Int32} {a4 : Int32} {a5 : Int32} {a6 : Int32} {s1 : Int32} {s2 : Int32} {μ : am_Mu} {out : am_Mu}, fM_keeps_100 k3 a1 a2 a3 a4 a5 a6 s1 s2 μ = some out → am_fr [(147, 999), (148, 999), (149, 999)] μ out := by
  intro a1 a2 a3 a4 a5 a6 s1 s2 μ out h
  unfold fM_keeps_100 at h
  obtain ⟨q1, h⟩ := am_bif h
  rcases am_ite h with ⟨q2, h⟩ | ⟨q2, h⟩
  · skip
    obtain ⟨q3, h⟩ := am_bif h
    exact am_fr.trans (am_fr.up am_fr.rf rfl) (w_fM_keeps_124 hk3 h)
  · skip
    exact am_fr.trans (am_fr.up am_fr.rf rfl) (w_fM_keeps_124 hk3 h)
set_option maxRecDepth 20000 in
theorem w_fM_keeps_76 {k3 : Int32 → Int32 → Int32 → Int32 → am_Mu → Option (am_Mu)} (hk3 : ∀ {a1 : Int32} {a2 : Int32} {a3 : Int32} {a4 : Int32} {μ : am_Mu} {out : am_Mu}, k3 a1 a2 a3 a4 μ = some out → am_fr [(147, 999), (148, 999), (149, 999)] μ out) : ∀ {a1 : Int32} {a2 : Int32} {a3 : Int32} {a4 : Int32} {a5 : Int32} {a6 : Int32} {s1 : Int32} {s2 : Int32} {μ : am_Mu} {out : am_Mu}, fM_keeps_76 k3 a1 a2 a3 a4 a5 a6 s1 s2 μ = some out → am_fr [(147, 999), (148, 999), (149, 999)] μ out := by
  intro a1 a2 a3 a4 a5 a6 s1 s2 μ out h
  unfold fM_keeps_76 at h
  obtain ⟨q1, h⟩ := am_bif h
  rcases am_ite h with ⟨q2, h⟩ | ⟨q2, h⟩
  · skip
    obtain ⟨q3, h⟩ := am_bif h
    exact am_fr.trans (am_fr.up am_fr.rf rfl) (w_fM_keeps_100 hk3 h)
  · skip
    exact am_fr.trans (am_fr.up am_fr.rf rfl) (w_fM_keeps_100 hk3 h)
set_option maxRecDepth 20000 in
theorem w_fM_keeps_51 {k3 : Int32 → Int32 → Int32 → Int32 → am_Mu → Option (am_Mu)} (hk3 : ∀ {a1 : Int32} {a2 : Int32} {a3 : Int32} {a4 : Int32} {μ : am_Mu} {out : am_Mu}, k3 a1 a2 a3 a4 μ = some out → am_fr [(147, 999), (148, 999), (149, 999)] μ out) : ∀ {a1 : Int32} {a2 : Int32} {a3 : Int32} {a4 : Int32} {a5 : Int32} {s0 : Int32} {μ : am_Mu} {out : am_Mu}, fM_keeps_51 k3 a1 a2 a3 a4 a5 s0 μ = some out → am_fr [(147, 999), (148, 999), (149, 999)] μ out := by
  intro a1 a2 a3 a4 a5 s0 μ out h
  unfold fM_keeps_51 at h
  rcases am_ite h with ⟨q1, h⟩ | ⟨q1, h⟩
  · skip
    obtain ⟨q2, h⟩ := am_bif h
    exact am_fr.trans am_fr.rf (w_fM_keeps_76 hk3 h)
  · skip
    exact am_fr.trans am_fr.rf (w_fM_keeps_76 hk3 h)
set_option maxRecDepth 20000 in
theorem w_fM_keeps_22 {k3 : Int32 → Int32 → Int32 → Int32 → am_Mu → Option (am_Mu)} (hk3 : ∀ {a1 : Int32} {a2 : Int32} {a3 : Int32} {a4 : Int32} {μ : am_Mu} {out : am_Mu}, k3 a1 a2 a3 a4 μ = some out → am_fr [(147, 999), (148, 999), (149, 999)] μ out) : ∀ {a1 : Int32} {a2 : Int32} {a3 : Int32} {a4 : Int32} {s0 : Int32} {μ : am_Mu} {out : am_Mu}, fM_keeps_22 k3 a1 a2 a3 a4 s0 μ = some out → am_fr [(147, 999), (148, 999), (149, 999)] μ out := by
  intro a1 a2 a3 a4 s0 μ out h
  unfold fM_keeps_22 at h
  rcases am_ite h with ⟨q1, h⟩ | ⟨q1, h⟩
  · skip
    exact am_fr.trans am_fr.rf (w_fM_keeps_51 hk3 h)
  · skip
    exact am_fr.trans am_fr.rf (w_fM_keeps_51 hk3 h)
set_option maxRecDepth 20000 in
theorem w_fM_keeps_3 : ∀ n : Nat, ∀ {a1 : Int32} {a2 : Int32} {a3 : Int32} {a4 : Int32} {μ : am_Mu} {out : am_Mu}, fM_keeps_3 n a1 a2 a3 a4 μ = some out → am_fr [(147, 999), (148, 999), (149, 999)] μ out := by
  intro n
  induction n with
  | zero => intros; contradiction
  | succ n ih =>
    have hk3 : ∀ {a1 : Int32} {a2 : Int32} {a3 : Int32} {a4 : Int32} {μ : am_Mu} {out : am_Mu}, (fM_keeps_3 n) a1 a2 a3 a4 μ = some out → am_fr [(147, 999), (148, 999), (149, 999)] μ out := ih
    intro a1 a2 a3 a4 μ out h
    unfold fM_keeps_3 at h
    rcases am_ite h with ⟨q1, h⟩ | ⟨q1, h⟩
    · skip
      cases h
      exact am_fr.rf
    · skip
      rcases am_ite h with ⟨q2, h⟩ | ⟨q2, h⟩
      · skip
        exact am_fr.trans am_fr.rf (w_fM_keeps_22 hk3 h)
      · skip
        exact am_fr.trans am_fr.rf (w_fM_keeps_22 hk3 h)
set_option maxRecDepth 20000 in
theorem w_fM_keeps : ∀ {a1 : Int32} {a2 : Int32} {a3 : Int32} {μ : am_Mu} {out : am_Mu}, fM_keeps a1 a2 a3 μ = some out → am_fr [(147, 999), (148, 999), (149, 999)] μ out := by
  intro a1 a2 a3 μ out h
  unfold fM_keeps at h
  exact am_fr.trans am_fr.rf (w_fM_keeps_3 am_F h)
set_option maxRecDepth 20000 in
theorem w_fM_lawOf_32 : ∀ {s0 : Int32} {μ : am_Mu} {out : Int32 × am_Mu}, fM_lawOf_32 s0 μ = some out → am_fr [] μ out.2 := by
  intro s0 μ out h
  unfold fM_lawOf_32 at h
  cases h
  exact am_fr.rf
set_option maxRecDepth 20000 in
theorem w_fM_lawOf : ∀ {a1 : Int32} {a2 : Int32} {μ : am_Mu} {out : Int32 × am_Mu}, fM_lawOf a1 a2 μ = some out → am_fr [] μ out.2 := by
  intro a1 a2 μ out h
  unfold fM_lawOf at h
  obtain ⟨q1, h⟩ := am_bif h
  rcases am_ite h with ⟨q2, h⟩ | ⟨q2, h⟩
  · skip
    exact am_fr.trans am_fr.rf (w_fM_lawOf_32 h)
  · skip
    obtain ⟨q3, h_q3, h⟩ := am_bind h
    have w_q3 : am_fr [] μ q3.2 := am_fr.trans am_fr.rf (am_fr.mono (w_fM_isFeastDay h_q3) rfl)
    rcases am_ite h with ⟨q4, h⟩ | ⟨q4, h⟩
    · skip
      exact am_fr.trans w_q3 (w_fM_lawOf_32 h)
    · skip
      cases h
      exact w_q3
set_option maxRecDepth 20000 in
theorem w_fM_acts_224 {k148 : Int32 → Int32 → Int32 → Int32 → Int32 → am_Mu → Option (am_Mu)} (hk148 : ∀ {a2 : Int32} {a4 : Int32} {a5 : Int32} {a7 : Int32} {a9 : Int32} {μ : am_Mu} {out : am_Mu}, k148 a2 a4 a5 a7 a9 μ = some out → am_fr [(144, 999), (145, 999), (146, 999), (147, 999), (148, 999), (149, 999), (150, 999)] μ out) : ∀ {a2 : Int32} {a4 : Int32} {a5 : Int32} {a7 : Int32} {a9 : Int32} {μ : am_Mu} {out : am_Mu}, fM_acts_224 k148 a2 a4 a5 a7 a9 μ = some out → am_fr [(144, 999), (145, 999), (146, 999), (147, 999), (148, 999), (149, 999), (150, 999)] μ out := by
  intro a2 a4 a5 a7 a9 μ out h
  unfold fM_acts_224 at h
  exact am_fr.trans am_fr.rf (hk148 h)
set_option maxRecDepth 20000 in
theorem w_fM_acts_174 {k148 : Int32 → Int32 → Int32 → Int32 → Int32 → am_Mu → Option (am_Mu)} (hk148 : ∀ {a2 : Int32} {a4 : Int32} {a5 : Int32} {a7 : Int32} {a9 : Int32} {μ : am_Mu} {out : am_Mu}, k148 a2 a4 a5 a7 a9 μ = some out → am_fr [(144, 999), (145, 999), (146, 999), (147, 999), (148, 999), (149, 999), (150, 999)] μ out) : ∀ {a2 : Int32} {a4 : Int32} {a5 : Int32} {a7 : Int32} {a9 : Int32} {s0 : Int32} {μ : am_Mu} {out : am_Mu}, fM_acts_174 k148 a2 a4 a5 a7 a9 s0 μ = some out → am_fr [(144, 999), (145, 999), (146, 999), (147, 999), (148, 999), (149, 999), (150, 999)] μ out := by
  intro a2 a4 a5 a7 a9 s0 μ out h
  unfold fM_acts_174 at h
  rcases am_ite h with ⟨q1, h⟩ | ⟨q1, h⟩
  · skip
    exact am_fr.trans am_fr.rf (w_fM_acts_224 hk148 h)
  · skip
    obtain ⟨q2, h⟩ := am_bif h
    obtain ⟨q3, h_q3, h⟩ := am_bind h
    have w_q3 : am_fr [(144, 999), (145, 999), (146, 999), (147, 999), (148, 999), (149, 999), (150, 999)] μ q3 := am_fr.trans am_fr.rf (am_fr.mono (w_fM_joins h_q3) rfl)
    exact am_fr.trans w_q3 (w_fM_acts_224 hk148 h)
set_option maxRecDepth 20000 in
theorem w_fM_acts_148 : ∀ n : Nat, ∀ {a2 : Int32} {a4 : Int32} {a5 : Int32} {a7 : Int32} {a9 : Int32} {μ : am_Mu} {out : am_Mu}, fM_acts_148 n a2 a4 a5 a7 a9 μ = some out → am_fr [(144, 999), (145, 999), (146, 999), (147, 999), (148, 999), (149, 999), (150, 999)] μ out := by
  intro n
  induction n with
  | zero => intros; contradiction
  | succ n ih =>
    have hk148 : ∀ {a2 : Int32} {a4 : Int32} {a5 : Int32} {a7 : Int32} {a9 : Int32} {μ : am_Mu} {out : am_Mu}, (fM_acts_148 n) a2 a4 a5 a7 a9 μ = some out → am_fr [(144, 999), (145, 999), (146, 999), (147, 999), (148, 999), (149, 999), (150, 999)] μ out := ih
    intro a2 a4 a5 a7 a9 μ out h
    unfold fM_acts_148 at h
    rcases am_ite h with ⟨q1, h⟩ | ⟨q1, h⟩
    · skip
      cases h
      exact am_fr.rf
    · skip
      rcases am_ite h with ⟨q2, h⟩ | ⟨q2, h⟩
      · skip
        cases h
        exact am_fr.rf
      · skip
        rcases am_ite h with ⟨q3, h⟩ | ⟨q3, h⟩
        · skip
          exact am_fr.trans am_fr.rf (w_fM_acts_174 hk148 h)
        · skip
          exact am_fr.trans am_fr.rf (w_fM_acts_174 hk148 h)
set_option maxRecDepth 20000 in
theorem w_fM_acts_145 : ∀ {a2 : Int32} {a4 : Int32} {a5 : Int32} {a7 : Int32} {μ : am_Mu} {out : am_Mu}, fM_acts_145 a2 a4 a5 a7 μ = some out → am_fr [(144, 999), (145, 999), (146, 999), (147, 999), (148, 999), (149, 999), (150, 999)] μ out := by
  intro a2 a4 a5 a7 μ out h
  unfold fM_acts_145 at h
  exact am_fr.trans am_fr.rf (w_fM_acts_148 am_F h)
set_option maxRecDepth 20000 in
theorem w_fM_acts_139 {k21 : Int32 → Int32 → Int32 → Int32 → Int32 → Int32 → Int32 → Int32 → am_Mu → Option (am_Mu)} (hk21 : ∀ {a2 : Int32} {a3 : Int32} {a4 : Int32} {a5 : Int32} {a6 : Int32} {a7 : Int32} {a8 : Int32} {a9 : Int32} {μ : am_Mu} {out : am_Mu}, k21 a2 a3 a4 a5 a6 a7 a8 a9 μ = some out → am_fr [(144, 999), (145, 999), (146, 999), (147, 999), (148, 999), (149, 999), (150, 999)] μ out) : ∀ {a2 : Int32} {a3 : Int32} {a4 : Int32} {a5 : Int32} {a6 : Int32} {a7 : Int32} {a8 : Int32} {a9 : Int32} {μ : am_Mu} {out : am_Mu}, fM_acts_139 k21 a2 a3 a4 a5 a6 a7 a8 a9 μ = some out → am_fr [(144, 999), (145, 999), (146, 999), (147, 999), (148, 999), (149, 999), (150, 999)] μ out := by
  intro a2 a3 a4 a5 a6 a7 a8 a9 μ out h
  unfold fM_acts_139 at h
  exact am_fr.trans am_fr.rf (hk21 h)
set_option maxRecDepth 20000 in
theorem w_fM_acts_133 {k21 : Int32 → Int32 → Int32 → Int32 → Int32 → Int32 → Int32 → Int32 → am_Mu → Option (am_Mu)} {k43 : Int32 → Int32 → Int32 → Int32 → Int32 → Int32 → Int32 → Int32 → Int32 → Int32 → am_Mu → Option (am_Mu)} (hk21 : ∀ {a2 : Int32} {a3 : Int32} {a4 : Int32} {a5 : Int32} {a6 : Int32} {a7 : Int32} {a8 : Int32} {a9 : Int32} {μ : am_Mu} {out : am_Mu}, k21 a2 a3 a4 a5 a6 a7 a8 a9 μ = some out → am_fr [(144, 999), (145, 999), (146, 999), (147, 999), (148, 999), (149, 999), (150, 999)] μ out) (hk43 : ∀ {a2 : Int32} {a3 : Int32} {a4 : Int32} {a5 : Int32} {a6 : Int32} {a7 : Int32} {a8 : Int32} {a9 : Int32} {a10 : Int32} {a11 : Int32} {μ : am_Mu} {out : am_Mu}, k43 a2 a3 a4 a5 a6 a7 a8 a9 a10 a11 μ = some out → am_fr [(144, 999), (145, 999), (146, 999), (147, 999), (148, 999), (149, 999), (150, 999)] μ out) : ∀ {a2 : Int32} {a3 : Int32} {a4 : Int32} {a5 : Int32} {a6 : Int32} {a7 : Int32} {a8 : Int32} {a9 : Int32} {a10 : Int32} {a11 : Int32} {μ : am_Mu} {out : am_Mu}, fM_acts_133 k21 k43 a2 a3 a4 a5 a6 a7 a8 a9 a10 a11 μ = some out → am_fr [(144, 999), (145, 999), (146, 999), (147, 999), (148, 999), (149, 999), (150, 999)] μ out := by
  intro a2 a3 a4 a5 a6 a7 a8 a9 a10 a11 μ out h
  unfold fM_acts_133 at h
  exact am_fr.trans am_fr.rf (hk43 h)
set_option maxRecDepth 20000 in
theorem w_fM_acts_128 {k21 : Int32 → Int32 → Int32 → Int32 → Int32 → Int32 → Int32 → Int32 → am_Mu → Option (am_Mu)} {k43 : Int32 → Int32 → Int32 → Int32 → Int32 → Int32 → Int32 → Int32 → Int32 → Int32 → am_Mu → Option (am_Mu)} (hk21 : ∀ {a2 : Int32} {a3 : Int32} {a4 : Int32} {a5 : Int32} {a6 : Int32} {a7 : Int32} {a8 : Int32} {a9 : Int32} {μ : am_Mu} {out : am_Mu}, k21 a2 a3 a4 a5 a6 a7 a8 a9 μ = some out → am_fr [(144, 999), (145, 999), (146, 999), (147, 999), (148, 999), (149, 999), (150, 999)] μ out) (hk43 : ∀ {a2 : Int32} {a3 : Int32} {a4 : Int32} {a5 : Int32} {a6 : Int32} {a7 : Int32} {a8 : Int32} {a9 : Int32} {a10 : Int32} {a11 : Int32} {μ : am_Mu} {out : am_Mu}, k43 a2 a3 a4 a5 a6 a7 a8 a9 a10 a11 μ = some out → am_fr [(144, 999), (145, 999), (146, 999), (147, 999), (148, 999), (149, 999), (150, 999)] μ out) : ∀ {a2 : Int32} {a3 : Int32} {a4 : Int32} {a5 : Int32} {a6 : Int32} {a7 : Int32} {a8 : Int32} {a9 : Int32} {a10 : Int32} {a11 : Int32} {s1 : Int32} {s2 : Int32} {s3 : Int32} {s4 : Int32} {s5 : Int32} {s6 : Int32} {μ : am_Mu} {out : am_Mu}, fM_acts_128 k21 k43 a2 a3 a4 a5 a6 a7 a8 a9 a10 a11 s1 s2 s3 s4 s5 s6 μ = some out → am_fr [(144, 999), (145, 999), (146, 999), (147, 999), (148, 999), (149, 999), (150, 999)] μ out := by
  intro a2 a3 a4 a5 a6 a7 a8 a9 a10 a11 s1 s2 s3 s4 s5 s6 μ out h
  unfold fM_acts_128 at h
  obtain ⟨q1, h_q1, h⟩ := am_bind h
  have w_q1 : am_fr [(144, 999), (145, 999), (146, 999), (147, 999), (148, 999), (149, 999), (150, 999)] μ q1 := am_fr.trans am_fr.rf (am_fr.mono (w_fM_does h_q1) rfl)
  exact am_fr.trans w_q1 (w_fM_acts_133 hk21 hk43 h)
set_option maxRecDepth 20000 in
theorem w_fM_acts_116 {k21 : Int32 → Int32 → Int32 → Int32 → Int32 → Int32 → Int32 → Int32 → am_Mu → Option (am_Mu)} {k43 : Int32 → Int32 → Int32 → Int32 → Int32 → Int32 → Int32 → Int32 → Int32 → Int32 → am_Mu → Option (am_Mu)} (hk21 : ∀ {a2 : Int32} {a3 : Int32} {a4 : Int32} {a5 : Int32} {a6 : Int32} {a7 : Int32} {a8 : Int32} {a9 : Int32} {μ : am_Mu} {out : am_Mu}, k21 a2 a3 a4 a5 a6 a7 a8 a9 μ = some out → am_fr [(144, 999), (145, 999), (146, 999), (147, 999), (148, 999), (149, 999), (150, 999)] μ out) (hk43 : ∀ {a2 : Int32} {a3 : Int32} {a4 : Int32} {a5 : Int32} {a6 : Int32} {a7 : Int32} {a8 : Int32} {a9 : Int32} {a10 : Int32} {a11 : Int32} {μ : am_Mu} {out : am_Mu}, k43 a2 a3 a4 a5 a6 a7 a8 a9 a10 a11 μ = some out → am_fr [(144, 999), (145, 999), (146, 999), (147, 999), (148, 999), (149, 999), (150, 999)] μ out) : ∀ {a2 : Int32} {a3 : Int32} {a4 : Int32} {a5 : Int32} {a6 : Int32} {a7 : Int32} {a8 : Int32} {a9 : Int32} {a10 : Int32} {a11 : Int32} {s1 : Int32} {s2 : Int32} {s3 : Int32} {s4 : Int32} {s5 : Int32} {μ : am_Mu} {out : am_Mu}, fM_acts_116 k21 k43 a2 a3 a4 a5 a6 a7 a8 a9 a10 a11 s1 s2 s3 s4 s5 μ = some out → am_fr [(144, 999), (145, 999), (146, 999), (147, 999), (148, 999), (149, 999), (150, 999)] μ out := by
  intro a2 a3 a4 a5 a6 a7 a8 a9 a10 a11 s1 s2 s3 s4 s5 μ out h
  unfold fM_acts_116 at h
  rcases am_ite h with ⟨q1, h⟩ | ⟨q1, h⟩
  · skip
    exact am_fr.trans am_fr.rf (w_fM_acts_128 hk21 hk43 h)
  · skip
    exact am_fr.trans am_fr.rf (w_fM_acts_128 hk21 hk43 h)
set_option maxRecDepth 20000 in
theorem w_fM_acts_66 {k21 : Int32 → Int32 → Int32 → Int32 → Int32 → Int32 → Int32 → Int32 → am_Mu → Option (am_Mu)} {k43 : Int32 → Int32 → Int32 → Int32 → Int32 → Int32 → Int32 → Int32 → Int32 → Int32 → am_Mu → Option (am_Mu)} (hk21 : ∀ {a2 : Int32} {a3 : Int32} {a4 : Int32} {a5 : Int32} {a6 : Int32} {a7 : Int32} {a8 : Int32} {a9 : Int32} {μ : am_Mu} {out : am_Mu}, k21 a2 a3 a4 a5 a6 a7 a8 a9 μ = some out → am_fr [(144, 999), (145, 999), (146, 999), (147, 999), (148, 999), (149, 999), (150, 999)] μ out) (hk43 : ∀ {a2 : Int32} {a3 : Int32} {a4 : Int32} {a5 : Int32} {a6 : Int32} {a7 : Int32} {a8 : Int32} {a9 : Int32} {a10 : Int32} {a11 : Int32} {μ : am_Mu} {out : am_Mu}, k43 a2 a3 a4 a5 a6 a7 a8 a9 a10 a11 μ = some out → am_fr [(144, 999), (145, 999), (146, 999), (147, 999), (148, 999), (149, 999), (150, 999)] μ out) : ∀ {a2 : Int32} {a3 : Int32} {a4 : Int32} {a5 : Int32} {a6 : Int32} {a7 : Int32} {a8 : Int32} {a9 : Int32} {a10 : Int32} {a11 : Int32} {μ : am_Mu} {out : am_Mu}, fM_acts_66 k21 k43 a2 a3 a4 a5 a6 a7 a8 a9 a10 a11 μ = some out → am_fr [(144, 999), (145, 999), (146, 999), (147, 999), (148, 999), (149, 999), (150, 999)] μ out := by
  intro a2 a3 a4 a5 a6 a7 a8 a9 a10 a11 μ out h
  unfold fM_acts_66 at h
  obtain ⟨q1, h⟩ := am_bif h
  rcases am_ite h with ⟨q2, h⟩ | ⟨q2, h⟩
  · skip
    obtain ⟨q3, h_q3, h⟩ := am_bind h
    have w_q3 : am_fr [(144, 999), (145, 999), (146, 999), (147, 999), (148, 999), (149, 999), (150, 999)] μ q3.2 := am_fr.trans am_fr.rf (am_fr.mono (w_fM_holds h_q3) rfl)
    rcases am_ite h with ⟨q4, h⟩ | ⟨q4, h⟩
    · skip
      exact am_fr.trans w_q3 (w_fM_acts_116 hk21 hk43 h)
    · skip
      exact am_fr.trans w_q3 (w_fM_acts_116 hk21 hk43 h)
  · skip
    exact am_fr.trans am_fr.rf (w_fM_acts_133 hk21 hk43 h)
set_option maxRecDepth 20000 in
theorem w_fM_acts_43 {k21 : Int32 → Int32 → Int32 → Int32 → Int32 → Int32 → Int32 → Int32 → am_Mu → Option (am_Mu)} (hk21 : ∀ {a2 : Int32} {a3 : Int32} {a4 : Int32} {a5 : Int32} {a6 : Int32} {a7 : Int32} {a8 : Int32} {a9 : Int32} {μ : am_Mu} {out : am_Mu}, k21 a2 a3 a4 a5 a6 a7 a8 a9 μ = some out → am_fr [(144, 999), (145, 999), (146, 999), (147, 999), (148, 999), (149, 999), (150, 999)] μ out) : ∀ n : Nat, ∀ {a2 : Int32} {a3 : Int32} {a4 : Int32} {a5 : Int32} {a6 : Int32} {a7 : Int32} {a8 : Int32} {a9 : Int32} {a10 : Int32} {a11 : Int32} {μ : am_Mu} {out : am_Mu}, fM_acts_43 n k21 a2 a3 a4 a5 a6 a7 a8 a9 a10 a11 μ = some out → am_fr [(144, 999), (145, 999), (146, 999), (147, 999), (148, 999), (149, 999), (150, 999)] μ out := by
  intro n
  induction n with
  | zero => intros; contradiction
  | succ n ih =>
    have hk43 : ∀ {a2 : Int32} {a3 : Int32} {a4 : Int32} {a5 : Int32} {a6 : Int32} {a7 : Int32} {a8 : Int32} {a9 : Int32} {a10 : Int32} {a11 : Int32} {μ : am_Mu} {out : am_Mu}, (fM_acts_43 n k21) a2 a3 a4 a5 a6 a7 a8 a9 a10 a11 μ = some out → am_fr [(144, 999), (145, 999), (146, 999), (147, 999), (148, 999), (149, 999), (150, 999)] μ out := ih
    intro a2 a3 a4 a5 a6 a7 a8 a9 a10 a11 μ out h
    unfold fM_acts_43 at h
    obtain ⟨q1, h⟩ := am_bif h
    rcases am_ite h with ⟨q2, h⟩ | ⟨q2, h⟩
    · skip
      exact am_fr.trans am_fr.rf (w_fM_acts_139 hk21 h)
    · skip
      rcases am_ite h with ⟨q3, h⟩ | ⟨q3, h⟩
      · skip
        exact am_fr.trans am_fr.rf (w_fM_acts_66 hk21 hk43 h)
      · skip
        rcases am_ite h with ⟨q4, h⟩ | ⟨q4, h⟩
        · skip
          exact am_fr.trans am_fr.rf (w_fM_acts_139 hk21 h)
        · skip
          exact am_fr.trans am_fr.rf (w_fM_acts_66 hk21 hk43 h)
set_option maxRecDepth 20000 in
theorem w_fM_acts_38 {k21 : Int32 → Int32 → Int32 → Int32 → Int32 → Int32 → Int32 → Int32 → am_Mu → Option (am_Mu)} (hk21 : ∀ {a2 : Int32} {a3 : Int32} {a4 : Int32} {a5 : Int32} {a6 : Int32} {a7 : Int32} {a8 : Int32} {a9 : Int32} {μ : am_Mu} {out : am_Mu}, k21 a2 a3 a4 a5 a6 a7 a8 a9 μ = some out → am_fr [(144, 999), (145, 999), (146, 999), (147, 999), (148, 999), (149, 999), (150, 999)] μ out) : ∀ {a2 : Int32} {a3 : Int32} {a4 : Int32} {a5 : Int32} {a6 : Int32} {a7 : Int32} {a8 : Int32} {a9 : Int32} {s0 : Int32} {μ : am_Mu} {out : am_Mu}, fM_acts_38 k21 a2 a3 a4 a5 a6 a7 a8 a9 s0 μ = some out → am_fr [(144, 999), (145, 999), (146, 999), (147, 999), (148, 999), (149, 999), (150, 999)] μ out := by
  intro a2 a3 a4 a5 a6 a7 a8 a9 s0 μ out h
  unfold fM_acts_38 at h
  exact am_fr.trans am_fr.rf (w_fM_acts_43 hk21 am_F h)
set_option maxRecDepth 20000 in
theorem w_fM_acts_21 : ∀ n : Nat, ∀ {a2 : Int32} {a3 : Int32} {a4 : Int32} {a5 : Int32} {a6 : Int32} {a7 : Int32} {a8 : Int32} {a9 : Int32} {μ : am_Mu} {out : am_Mu}, fM_acts_21 n a2 a3 a4 a5 a6 a7 a8 a9 μ = some out → am_fr [(144, 999), (145, 999), (146, 999), (147, 999), (148, 999), (149, 999), (150, 999)] μ out := by
  intro n
  induction n with
  | zero => intros; contradiction
  | succ n ih =>
    have hk21 : ∀ {a2 : Int32} {a3 : Int32} {a4 : Int32} {a5 : Int32} {a6 : Int32} {a7 : Int32} {a8 : Int32} {a9 : Int32} {μ : am_Mu} {out : am_Mu}, (fM_acts_21 n) a2 a3 a4 a5 a6 a7 a8 a9 μ = some out → am_fr [(144, 999), (145, 999), (146, 999), (147, 999), (148, 999), (149, 999), (150, 999)] μ out := ih
    intro a2 a3 a4 a5 a6 a7 a8 a9 μ out h
    unfold fM_acts_21 at h
    rcases am_ite h with ⟨q1, h⟩ | ⟨q1, h⟩
    · skip
      exact am_fr.trans am_fr.rf (w_fM_acts_145 h)
    · skip
      rcases am_ite h with ⟨q2, h⟩ | ⟨q2, h⟩
      · skip
        exact am_fr.trans am_fr.rf (w_fM_acts_38 hk21 h)
      · skip
        exact am_fr.trans am_fr.rf (w_fM_acts_38 hk21 h)
set_option maxRecDepth 20000 in
theorem w_fM_acts : ∀ {a1 : Int32} {a2 : Int32} {a3 : Int32} {a4 : Int32} {a5 : Int32} {a6 : Int32} {a7 : Int32} {μ : am_Mu} {out : am_Mu}, fM_acts a1 a2 a3 a4 a5 a6 a7 μ = some out → am_fr [(144, 999), (145, 999), (146, 999), (147, 999), (148, 999), (149, 999), (150, 999)] μ out := by
  intro a1 a2 a3 a4 a5 a6 a7 μ out h
  unfold fM_acts at h
  obtain ⟨q1, h_q1, h⟩ := am_bind h
  have w_q1 : am_fr [(144, 999), (145, 999), (146, 999), (147, 999), (148, 999), (149, 999), (150, 999)] μ q1 := am_fr.trans am_fr.rf (am_fr.mono (w_fM_keeps h_q1) rfl)
  obtain ⟨q2, h_q2, h⟩ := am_bind h
  have w_q2 : am_fr [(144, 999), (145, 999), (146, 999), (147, 999), (148, 999), (149, 999), (150, 999)] μ q2.2 := am_fr.trans w_q1 (am_fr.mono (w_fM_lawOf h_q2) rfl)
  exact am_fr.trans w_q2 (w_fM_acts_21 am_F h)
set_option maxRecDepth 20000 in
theorem w_fM_happens : ∀ {a1 : Int32} {a2 : Int32} {a3 : Int32} {a4 : Int32} {μ : am_Mu} {out : am_Mu}, fM_happens a1 a2 a3 a4 μ = some out → am_fr [(144, 999), (145, 999), (146, 999), (147, 999), (148, 999), (149, 999), (150, 999)] μ out := by
  intro a1 a2 a3 a4 μ out h
  unfold fM_happens at h
  rcases am_ite h with ⟨q1, h⟩ | ⟨q1, h⟩
  · skip
    rcases am_ite h with ⟨q2, h⟩ | ⟨q2, h⟩
    · skip
      cases h
      exact am_fr.rf
    · skip
      obtain ⟨q3, h⟩ := am_bif h
      obtain ⟨q4, h_q4, h⟩ := am_bind h
      have w_q4 : am_fr [(144, 999), (145, 999), (146, 999), (147, 999), (148, 999), (149, 999), (150, 999)] μ q4 := am_fr.trans am_fr.rf (am_fr.mono (w_fM_sets h_q4) rfl)
      cases h
      exact w_q4
  · skip
    obtain ⟨q5, h⟩ := am_bif h
    obtain ⟨q6, h_q6, h⟩ := am_bind h
    have w_q6 : am_fr [(144, 999), (145, 999), (146, 999), (147, 999), (148, 999), (149, 999), (150, 999)] μ q6 := am_fr.trans am_fr.rf (am_fr.mono (w_fM_acts h_q6) rfl)
    cases h
    exact w_q6
set_option maxRecDepth 20000 in
theorem w_fM_goes_63 {k8 : Int32 → Int32 → Int32 → Int32 → Int32 → Int32 → am_Mu → Option (am_Mu)} (hk8 : ∀ {a1 : Int32} {a2 : Int32} {a3 : Int32} {a4 : Int32} {a5 : Int32} {a6 : Int32} {μ : am_Mu} {out : am_Mu}, k8 a1 a2 a3 a4 a5 a6 μ = some out → am_fr [(144, 999), (145, 999), (146, 999), (147, 999), (148, 999), (149, 999), (150, 999)] μ out) : ∀ {a1 : Int32} {a2 : Int32} {a3 : Int32} {a4 : Int32} {a5 : Int32} {a6 : Int32} {μ : am_Mu} {out : am_Mu}, fM_goes_63 k8 a1 a2 a3 a4 a5 a6 μ = some out → am_fr [(144, 999), (145, 999), (146, 999), (147, 999), (148, 999), (149, 999), (150, 999)] μ out := by
  intro a1 a2 a3 a4 a5 a6 μ out h
  unfold fM_goes_63 at h
  exact am_fr.trans am_fr.rf (hk8 h)
set_option maxRecDepth 20000 in
theorem w_fM_goes_8 : ∀ n : Nat, ∀ {a1 : Int32} {a2 : Int32} {a3 : Int32} {a4 : Int32} {a5 : Int32} {a6 : Int32} {μ : am_Mu} {out : am_Mu}, fM_goes_8 n a1 a2 a3 a4 a5 a6 μ = some out → am_fr [(144, 999), (145, 999), (146, 999), (147, 999), (148, 999), (149, 999), (150, 999)] μ out := by
  intro n
  induction n with
  | zero => intros; contradiction
  | succ n ih =>
    have hk8 : ∀ {a1 : Int32} {a2 : Int32} {a3 : Int32} {a4 : Int32} {a5 : Int32} {a6 : Int32} {μ : am_Mu} {out : am_Mu}, (fM_goes_8 n) a1 a2 a3 a4 a5 a6 μ = some out → am_fr [(144, 999), (145, 999), (146, 999), (147, 999), (148, 999), (149, 999), (150, 999)] μ out := ih
    intro a1 a2 a3 a4 a5 a6 μ out h
    unfold fM_goes_8 at h
    rcases am_ite h with ⟨q1, h⟩ | ⟨q1, h⟩
    · skip
      cases h
      exact am_fr.rf
    · skip
      obtain ⟨q2, h⟩ := am_bif h
      obtain ⟨q3, h_q3, h⟩ := am_bind h
      have w_q3 : am_fr [(144, 999), (145, 999), (146, 999), (147, 999), (148, 999), (149, 999), (150, 999)] μ q3.2 := am_fr.trans am_fr.rf (am_fr.mono (w_fM_minuteOf h_q3) rfl)
      rcases am_ite h with ⟨q4, h⟩ | ⟨q4, h⟩
      · skip
        cases h
        exact w_q3
      · skip
        obtain ⟨q5, h_q5, h⟩ := am_bind h
        have w_q5 : am_fr [(144, 999), (145, 999), (146, 999), (147, 999), (148, 999), (149, 999), (150, 999)] μ q5.2 := am_fr.trans w_q3 (am_fr.mono (w_fM_isKnown h_q5) rfl)
        rcases am_ite h with ⟨q6, h⟩ | ⟨q6, h⟩
        · skip
          exact am_fr.trans w_q5 (w_fM_goes_63 hk8 h)
        · skip
          obtain ⟨q7, h_q7, h⟩ := am_bind h
          have w_q7 : am_fr [(144, 999), (145, 999), (146, 999), (147, 999), (148, 999), (149, 999), (150, 999)] μ q7 := am_fr.trans w_q5 (am_fr.mono (w_fM_happens h_q7) rfl)
          exact am_fr.trans w_q7 (w_fM_goes_63 hk8 h)
set_option maxRecDepth 20000 in
theorem w_fM_goes : ∀ {a1 : Int32} {a2 : Int32} {a3 : Int32} {a4 : Int32} {a5 : Int32} {μ : am_Mu} {out : am_Mu}, fM_goes a1 a2 a3 a4 a5 μ = some out → am_fr [(144, 999), (145, 999), (146, 999), (147, 999), (148, 999), (149, 999), (150, 999)] μ out := by
  intro a1 a2 a3 a4 a5 μ out h
  unfold fM_goes at h
  obtain ⟨q1, h_q1, h⟩ := am_bind h
  have w_q1 : am_fr [(144, 999), (145, 999), (146, 999), (147, 999), (148, 999), (149, 999), (150, 999)] μ q1 := am_fr.trans am_fr.rf (am_fr.mono (w_fM_begins h_q1) rfl)
  exact am_fr.trans w_q1 (w_fM_goes_8 am_F h)
set_option maxRecDepth 20000 in
theorem w_fM_mark : ∀ {a1 : Int32} {a2 : Int32} {a3 : Int32} {a4 : Int32} {a5 : Int32} {μ : am_Mu} {out : Int32 × am_Mu}, fM_mark a1 a2 a3 a4 a5 μ = some out → am_fr [(144, 999), (145, 999), (146, 999), (147, 999), (148, 999), (149, 999), (150, 999)] μ out.2 := by
  intro a1 a2 a3 a4 a5 μ out h
  unfold fM_mark at h
  obtain ⟨q1, h_q1, h⟩ := am_bind h
  have w_q1 : am_fr [(144, 999), (145, 999), (146, 999), (147, 999), (148, 999), (149, 999), (150, 999)] μ q1.2 := am_fr.trans am_fr.rf (am_fr.mono (w_fM_isSchool h_q1) rfl)
  rcases am_ite h with ⟨q2, h⟩ | ⟨q2, h⟩
  · skip
    cases h
    exact w_q1
  · skip
    obtain ⟨q3, h_q3, h⟩ := am_bind h
    have w_q3 : am_fr [(144, 999), (145, 999), (146, 999), (147, 999), (148, 999), (149, 999), (150, 999)] μ q3.2 := am_fr.trans w_q1 (am_fr.mono (w_fM_isThing h_q3) rfl)
    rcases am_ite h with ⟨q4, h⟩ | ⟨q4, h⟩
    · skip
      cases h
      exact w_q3
    · skip
      obtain ⟨q5, h_q5, h⟩ := am_bind h
      have w_q5 : am_fr [(144, 999), (145, 999), (146, 999), (147, 999), (148, 999), (149, 999), (150, 999)] μ q5.2 := am_fr.trans w_q3 (am_fr.mono (w_fM_isMark h_q5) rfl)
      rcases am_ite h with ⟨q6, h⟩ | ⟨q6, h⟩
      · skip
        cases h
        exact w_q5
      · skip
        obtain ⟨q7, h_q7, h⟩ := am_bind h
        have w_q7 : am_fr [(144, 999), (145, 999), (146, 999), (147, 999), (148, 999), (149, 999), (150, 999)] μ q7.2 := am_fr.trans w_q5 (am_fr.mono (w_fM_isMinute h_q7) rfl)
        rcases am_ite h with ⟨q8, h⟩ | ⟨q8, h⟩
        · skip
          cases h
          exact w_q7
        · skip
          obtain ⟨q9, h_q9, h⟩ := am_bind h
          have w_q9 : am_fr [(144, 999), (145, 999), (146, 999), (147, 999), (148, 999), (149, 999), (150, 999)] μ q9.2 := am_fr.trans w_q7 (am_fr.mono (w_fM_isMinute h_q9) rfl)
          rcases am_ite h with ⟨q10, h⟩ | ⟨q10, h⟩
          · skip
            obtain ⟨q11, h_q11, h⟩ := am_bind h
            have w_q11 : am_fr [(144, 999), (145, 999), (146, 999), (147, 999), (148, 999), (149, 999), (150, 999)] μ q11 := am_fr.trans w_q9 (am_fr.mono (w_fM_goes h_q11) rfl)
            obtain ⟨q12, h⟩ := am_bif h
            cases h
            exact w_q11
          · skip
            cases h
            exact w_q9
set_option maxRecDepth 20000 in
theorem w_fM_since : ∀ {a1 : Int32} {a2 : Int32} {a3 : Int32} {a4 : Int32} {a5 : Int32} {a6 : Int32} {μ : am_Mu} {out : Int32 × am_Mu}, fM_since a1 a2 a3 a4 a5 a6 μ = some out → am_fr [(144, 999), (145, 999), (146, 999), (147, 999), (148, 999), (149, 999), (150, 999)] μ out.2 := by
  intro a1 a2 a3 a4 a5 a6 μ out h
  unfold fM_since at h
  obtain ⟨q1, h_q1, h⟩ := am_bind h
  have w_q1 : am_fr [(144, 999), (145, 999), (146, 999), (147, 999), (148, 999), (149, 999), (150, 999)] μ q1.2 := am_fr.trans am_fr.rf (am_fr.mono (w_fM_lies h_q1) rfl)
  rcases am_ite h with ⟨q2, h⟩ | ⟨q2, h⟩
  · skip
    cases h
    exact w_q1
  · skip
    obtain ⟨q3, h_q3, h⟩ := am_bind h
    have w_q3 : am_fr [(144, 999), (145, 999), (146, 999), (147, 999), (148, 999), (149, 999), (150, 999)] μ q3.2 := am_fr.trans w_q1 (am_fr.mono (w_fM_mark h_q3) rfl)
    rcases am_ite h with ⟨q4, h⟩ | ⟨q4, h⟩
    · skip
      rcases am_ite h with ⟨q5, h⟩ | ⟨q5, h⟩
      · skip
        obtain ⟨q6, h⟩ := am_bif h
        cases h
        exact w_q3
      · skip
        obtain ⟨q7, h⟩ := am_bif h
        cases h
        exact w_q3
    · skip
      cases h
      exact w_q3
set_option maxRecDepth 20000 in
theorem w_fM_quarrelAt_77 {k34 : Int32 → Int32 → Int32 → am_Mu → Option (Int32 × am_Mu)} (hk34 : ∀ {a1 : Int32} {a2 : Int32} {a3 : Int32} {μ : am_Mu} {out : Int32 × am_Mu}, k34 a1 a2 a3 μ = some out → am_fr [(144, 999), (145, 999), (146, 999), (147, 999), (148, 999), (149, 999), (150, 999)] μ out.2) : ∀ {a1 : Int32} {a2 : Int32} {a3 : Int32} {μ : am_Mu} {out : Int32 × am_Mu}, fM_quarrelAt_77 k34 a1 a2 a3 μ = some out → am_fr [(144, 999), (145, 999), (146, 999), (147, 999), (148, 999), (149, 999), (150, 999)] μ out.2 := by
  intro a1 a2 a3 μ out h
  unfold fM_quarrelAt_77 at h
  exact am_fr.trans am_fr.rf (hk34 h)
set_option maxRecDepth 20000 in
theorem w_fM_quarrelAt_34 : ∀ n : Nat, ∀ {a1 : Int32} {a2 : Int32} {a3 : Int32} {μ : am_Mu} {out : Int32 × am_Mu}, fM_quarrelAt_34 n a1 a2 a3 μ = some out → am_fr [(144, 999), (145, 999), (146, 999), (147, 999), (148, 999), (149, 999), (150, 999)] μ out.2 := by
  intro n
  induction n with
  | zero => intros; contradiction
  | succ n ih =>
    have hk34 : ∀ {a1 : Int32} {a2 : Int32} {a3 : Int32} {μ : am_Mu} {out : Int32 × am_Mu}, (fM_quarrelAt_34 n) a1 a2 a3 μ = some out → am_fr [(144, 999), (145, 999), (146, 999), (147, 999), (148, 999), (149, 999), (150, 999)] μ out.2 := ih
    intro a1 a2 a3 μ out h
    unfold fM_quarrelAt_34 at h
    rcases am_ite h with ⟨q1, h⟩ | ⟨q1, h⟩
    · skip
      cases h
      exact am_fr.rf
    · skip
      obtain ⟨q2, h⟩ := am_bif h
      obtain ⟨q3, h⟩ := am_bif h
      rcases am_ite h with ⟨q4, h⟩ | ⟨q4, h⟩
      · skip
        rcases am_ite h with ⟨q5, h⟩ | ⟨q5, h⟩
        · skip
          exact am_fr.trans am_fr.rf (w_fM_quarrelAt_77 hk34 h)
        · skip
          cases h
          exact am_fr.rf
      · skip
        exact am_fr.trans am_fr.rf (w_fM_quarrelAt_77 hk34 h)
set_option maxRecDepth 20000 in
theorem w_fM_quarrelAt : ∀ {a1 : Int32} {μ : am_Mu} {out : Int32 × am_Mu}, fM_quarrelAt a1 μ = some out → am_fr [(144, 999), (145, 999), (146, 999), (147, 999), (148, 999), (149, 999), (150, 999)] μ out.2 := by
  intro a1 μ out h
  unfold fM_quarrelAt at h
  obtain ⟨q1, h_q1, h⟩ := am_bind h
  have w_q1 : am_fr [(144, 999), (145, 999), (146, 999), (147, 999), (148, 999), (149, 999), (150, 999)] μ q1 := am_fr.trans am_fr.rf (am_fr.mono (w_fM_goes h_q1) rfl)
  obtain ⟨q2, h_q2, h⟩ := am_bind h
  have w_q2 : am_fr [(144, 999), (145, 999), (146, 999), (147, 999), (148, 999), (149, 999), (150, 999)] μ q2 := am_fr.trans w_q1 (am_fr.mono (w_fM_goes h_q2) rfl)
  exact am_fr.trans w_q2 (w_fM_quarrelAt_34 am_F h)
set_option maxRecDepth 20000 in
theorem w_fM_quarrel : ∀ {a1 : Int32} {a2 : Int32} {μ : am_Mu} {out : Int32 × am_Mu}, fM_quarrel a1 a2 μ = some out → am_fr [(144, 999), (145, 999), (146, 999), (147, 999), (148, 999), (149, 999), (150, 999)] μ out.2 := by
  intro a1 a2 μ out h
  unfold fM_quarrel at h
  rcases am_ite h with ⟨q1, h⟩ | ⟨q1, h⟩
  · skip
    cases h
    exact am_fr.rf
  · skip
    obtain ⟨q2, h_q2, h⟩ := am_bind h
    have w_q2 : am_fr [(144, 999), (145, 999), (146, 999), (147, 999), (148, 999), (149, 999), (150, 999)] μ q2.2 := am_fr.trans am_fr.rf (am_fr.mono (w_fM_lies h_q2) rfl)
    rcases am_ite h with ⟨q3, h⟩ | ⟨q3, h⟩
    · skip
      obtain ⟨q4, h_q4, h⟩ := am_bind h
      have w_q4 : am_fr [(144, 999), (145, 999), (146, 999), (147, 999), (148, 999), (149, 999), (150, 999)] μ q4.2 := am_fr.trans w_q2 (am_fr.mono (w_fM_quarrelAt h_q4) rfl)
      rcases am_ite h with ⟨q5, h⟩ | ⟨q5, h⟩
      · skip
        rcases am_ite h with ⟨q6, h⟩ | ⟨q6, h⟩
        · skip
          rcases am_ite h with ⟨q7, h⟩ | ⟨q7, h⟩
          · skip
            rcases am_ite h with ⟨q8, h⟩ | ⟨q8, h⟩
            · skip
              obtain ⟨q9, h⟩ := am_bif h
              cases h
              exact w_q4
            · skip
              obtain ⟨q10, h⟩ := am_bif h
              cases h
              exact w_q4
          · skip
            cases h
            exact w_q4
        · skip
          cases h
          exact w_q4
      · skip
        cases h
        exact w_q4
    · skip
      cases h
      exact w_q2
set_option maxRecDepth 20000 in
theorem w_fM_isMistake : ∀ {a1 : Int32} {μ : am_Mu} {out : Int32 × am_Mu}, fM_isMistake a1 μ = some out → am_fr [] μ out.2 := by
  intro a1 μ out h
  unfold fM_isMistake at h
  obtain ⟨q1, h_q1, h⟩ := am_bind h
  have w_q1 : am_fr [] μ q1.2 := am_fr.trans am_fr.rf (am_fr.mono (w_fM_lies h_q1) rfl)
  obtain ⟨q2, h⟩ := am_ifp h
  cases h
  exact w_q1
set_option maxRecDepth 20000 in
theorem w_fM_otherwise_85 {k4 : Int32 → Int32 → Int32 → am_Mu → Option (Int32 × am_Mu)} (hk4 : ∀ {a1 : Int32} {a2 : Int32} {a3 : Int32} {μ : am_Mu} {out : Int32 × am_Mu}, k4 a1 a2 a3 μ = some out → am_fr [] μ out.2) : ∀ {a1 : Int32} {a3 : Int32} {s0 : Int32} {μ : am_Mu} {out : Int32 × am_Mu}, fM_otherwise_85 k4 a1 a3 s0 μ = some out → am_fr [] μ out.2 := by
  intro a1 a3 s0 μ out h
  unfold fM_otherwise_85 at h
  exact am_fr.trans am_fr.rf (hk4 h)
set_option maxRecDepth 20000 in
theorem w_fM_otherwise_71 {k4 : Int32 → Int32 → Int32 → am_Mu → Option (Int32 × am_Mu)} (hk4 : ∀ {a1 : Int32} {a2 : Int32} {a3 : Int32} {μ : am_Mu} {out : Int32 × am_Mu}, k4 a1 a2 a3 μ = some out → am_fr [] μ out.2) : ∀ {a1 : Int32} {a2 : Int32} {a3 : Int32} {s0 : Int32} {μ : am_Mu} {out : Int32 × am_Mu}, fM_otherwise_71 k4 a1 a2 a3 s0 μ = some out → am_fr [] μ out.2 := by
  intro a1 a2 a3 s0 μ out h
  unfold fM_otherwise_71 at h
  rcases am_ite h with ⟨q1, h⟩ | ⟨q1, h⟩
  · skip
    exact am_fr.trans am_fr.rf (w_fM_otherwise_85 hk4 h)
  · skip
    exact am_fr.trans am_fr.rf (w_fM_otherwise_85 hk4 h)
set_option maxRecDepth 20000 in
theorem w_fM_otherwise_70 {k4 : Int32 → Int32 → Int32 → am_Mu → Option (Int32 × am_Mu)} (hk4 : ∀ {a1 : Int32} {a2 : Int32} {a3 : Int32} {μ : am_Mu} {out : Int32 × am_Mu}, k4 a1 a2 a3 μ = some out → am_fr [] μ out.2) : ∀ {a1 : Int32} {a2 : Int32} {a3 : Int32} {μ : am_Mu} {out : Int32 × am_Mu}, fM_otherwise_70 k4 a1 a2 a3 μ = some out → am_fr [] μ out.2 := by
  intro a1 a2 a3 μ out h
  unfold fM_otherwise_70 at h
  exact am_fr.trans am_fr.rf (w_fM_otherwise_71 hk4 h)
set_option maxRecDepth 20000 in
theorem w_fM_otherwise_4 : ∀ n : Nat, ∀ {a1 : Int32} {a2 : Int32} {a3 : Int32} {μ : am_Mu} {out : Int32 × am_Mu}, fM_otherwise_4 n a1 a2 a3 μ = some out → am_fr [] μ out.2 := by
  intro n
  induction n with
  | zero => intros; contradiction
  | succ n ih =>
    have hk4 : ∀ {a1 : Int32} {a2 : Int32} {a3 : Int32} {μ : am_Mu} {out : Int32 × am_Mu}, (fM_otherwise_4 n) a1 a2 a3 μ = some out → am_fr [] μ out.2 := ih
    intro a1 a2 a3 μ out h
    unfold fM_otherwise_4 at h
    rcases am_ite h with ⟨q1, h⟩ | ⟨q1, h⟩
    · skip
      cases h
      exact am_fr.rf
    · skip
      obtain ⟨q2, h⟩ := am_bif h
      obtain ⟨q3, h⟩ := am_bif h
      rcases am_ite h with ⟨q4, h⟩ | ⟨q4, h⟩
      · skip
        rcases am_ite h with ⟨q5, h⟩ | ⟨q5, h⟩
        · skip
          exact am_fr.trans am_fr.rf (w_fM_otherwise_70 hk4 h)
        · skip
          rcases am_ite h with ⟨q6, h⟩ | ⟨q6, h⟩
          · skip
            exact am_fr.trans am_fr.rf (w_fM_otherwise_70 hk4 h)
          · skip
            exact am_fr.trans am_fr.rf (w_fM_otherwise_71 hk4 h)
      · skip
        exact am_fr.trans am_fr.rf (w_fM_otherwise_71 hk4 h)
set_option maxRecDepth 20000 in
theorem w_fM_otherwise : ∀ {a1 : Int32} {μ : am_Mu} {out : Int32 × am_Mu}, fM_otherwise a1 μ = some out → am_fr [] μ out.2 := by
  intro a1 μ out h
  unfold fM_otherwise at h
  exact am_fr.trans am_fr.rf (w_fM_otherwise_4 am_F h)
set_option maxRecDepth 20000 in
theorem w_fM_leads : ∀ {a1 : Int32} {a2 : Int32} {a3 : Int32} {a4 : Int32} {μ : am_Mu} {out : Int32 × am_Mu}, fM_leads a1 a2 a3 a4 μ = some out → am_fr [(144, 999), (145, 999), (146, 999), (147, 999), (148, 999), (149, 999), (150, 999)] μ out.2 := by
  intro a1 a2 a3 a4 μ out h
  unfold fM_leads at h
  obtain ⟨q1, h_q1, h⟩ := am_bind h
  have w_q1 : am_fr [(144, 999), (145, 999), (146, 999), (147, 999), (148, 999), (149, 999), (150, 999)] μ q1.2 := am_fr.trans am_fr.rf (am_fr.mono (w_fM_isMistake h_q1) rfl)
  rcases am_ite h with ⟨q2, h⟩ | ⟨q2, h⟩
  · skip
    cases h
    exact w_q1
  · skip
    obtain ⟨q3, h_q3, h⟩ := am_bind h
    have w_q3 : am_fr [(144, 999), (145, 999), (146, 999), (147, 999), (148, 999), (149, 999), (150, 999)] μ q3.2 := am_fr.trans w_q1 (am_fr.mono (w_fM_isSchool h_q3) rfl)
    rcases am_ite h with ⟨q4, h⟩ | ⟨q4, h⟩
    · skip
      cases h
      exact w_q3
    · skip
      obtain ⟨q5, h_q5, h⟩ := am_bind h
      have w_q5 : am_fr [(144, 999), (145, 999), (146, 999), (147, 999), (148, 999), (149, 999), (150, 999)] μ q5.2 := am_fr.trans w_q3 (am_fr.mono (w_fM_isThing h_q5) rfl)
      rcases am_ite h with ⟨q6, h⟩ | ⟨q6, h⟩
      · skip
        cases h
        exact w_q5
      · skip
        obtain ⟨q7, h_q7, h⟩ := am_bind h
        have w_q7 : am_fr [(144, 999), (145, 999), (146, 999), (147, 999), (148, 999), (149, 999), (150, 999)] μ q7.2 := am_fr.trans w_q5 (am_fr.mono (w_fM_isMinute h_q7) rfl)
        rcases am_ite h with ⟨q8, h⟩ | ⟨q8, h⟩
        · skip
          obtain ⟨q9, h_q9, h⟩ := am_bind h
          have w_q9 : am_fr [(144, 999), (145, 999), (146, 999), (147, 999), (148, 999), (149, 999), (150, 999)] μ q9 := am_fr.trans w_q7 (am_fr.mono (w_fM_goes h_q9) rfl)
          obtain ⟨q10, h_q10, h⟩ := am_bind h
          have w_q10 : am_fr [(144, 999), (145, 999), (146, 999), (147, 999), (148, 999), (149, 999), (150, 999)] μ q10 := am_fr.trans w_q9 (am_fr.mono (w_fM_goes h_q10) rfl)
          obtain ⟨q11, h_q11, h⟩ := am_bind h
          have w_q11 : am_fr [(144, 999), (145, 999), (146, 999), (147, 999), (148, 999), (149, 999), (150, 999)] μ q11.2 := am_fr.trans w_q10 (am_fr.mono (w_fM_otherwise h_q11) rfl)
          cases h
          exact w_q11
        · skip
          cases h
          exact w_q7
set_option maxRecDepth 20000 in
theorem w_fM_reaches_172 {k35 : Int32 → Int32 → Int32 → am_Mu → Option (am_Mu)} (hk35 : ∀ {a1 : Int32} {a2 : Int32} {a3 : Int32} {μ : am_Mu} {out : am_Mu}, k35 a1 a2 a3 μ = some out → am_fr [(144, 999), (145, 999), (146, 999), (147, 999), (148, 999), (149, 999), (150, 999), (151, 999)] μ out) : ∀ {a1 : Int32} {a2 : Int32} {a3 : Int32} {μ : am_Mu} {out : am_Mu}, fM_reaches_172 k35 a1 a2 a3 μ = some out → am_fr [(144, 999), (145, 999), (146, 999), (147, 999), (148, 999), (149, 999), (150, 999), (151, 999)] μ out := by
  intro a1 a2 a3 μ out h
  unfold fM_reaches_172 at h
  exact am_fr.trans am_fr.rf (hk35 h)
set_option maxRecDepth 20000 in
theorem w_fM_reaches_166 {k35 : Int32 → Int32 → Int32 → am_Mu → Option (am_Mu)} {k109 : Int32 → Int32 → Int32 → Int32 → Int32 → am_Mu → Option (am_Mu)} (hk35 : ∀ {a1 : Int32} {a2 : Int32} {a3 : Int32} {μ : am_Mu} {out : am_Mu}, k35 a1 a2 a3 μ = some out → am_fr [(144, 999), (145, 999), (146, 999), (147, 999), (148, 999), (149, 999), (150, 999), (151, 999)] μ out) (hk109 : ∀ {a1 : Int32} {a2 : Int32} {a3 : Int32} {a4 : Int32} {a5 : Int32} {μ : am_Mu} {out : am_Mu}, k109 a1 a2 a3 a4 a5 μ = some out → am_fr [(144, 999), (145, 999), (146, 999), (147, 999), (148, 999), (149, 999), (150, 999), (151, 999)] μ out) : ∀ {a1 : Int32} {a2 : Int32} {a3 : Int32} {a4 : Int32} {a5 : Int32} {μ : am_Mu} {out : am_Mu}, fM_reaches_166 k35 k109 a1 a2 a3 a4 a5 μ = some out → am_fr [(144, 999), (145, 999), (146, 999), (147, 999), (148, 999), (149, 999), (150, 999), (151, 999)] μ out := by
  intro a1 a2 a3 a4 a5 μ out h
  unfold fM_reaches_166 at h
  exact am_fr.trans am_fr.rf (hk109 h)
set_option maxRecDepth 20000 in
theorem w_fM_reaches_109 {k35 : Int32 → Int32 → Int32 → am_Mu → Option (am_Mu)} (hk35 : ∀ {a1 : Int32} {a2 : Int32} {a3 : Int32} {μ : am_Mu} {out : am_Mu}, k35 a1 a2 a3 μ = some out → am_fr [(144, 999), (145, 999), (146, 999), (147, 999), (148, 999), (149, 999), (150, 999), (151, 999)] μ out) : ∀ n : Nat, ∀ {a1 : Int32} {a2 : Int32} {a3 : Int32} {a4 : Int32} {a5 : Int32} {μ : am_Mu} {out : am_Mu}, fM_reaches_109 n k35 a1 a2 a3 a4 a5 μ = some out → am_fr [(144, 999), (145, 999), (146, 999), (147, 999), (148, 999), (149, 999), (150, 999), (151, 999)] μ out := by
  intro n
  induction n with
  | zero => intros; contradiction
  | succ n ih =>
    have hk109 : ∀ {a1 : Int32} {a2 : Int32} {a3 : Int32} {a4 : Int32} {a5 : Int32} {μ : am_Mu} {out : am_Mu}, (fM_reaches_109 n k35) a1 a2 a3 a4 a5 μ = some out → am_fr [(144, 999), (145, 999), (146, 999), (147, 999), (148, 999), (149, 999), (150, 999), (151, 999)] μ out := ih
    intro a1 a2 a3 a4 a5 μ out h
    unfold fM_reaches_109 at h
    rcases am_ite h with ⟨q1, h⟩ | ⟨q1, h⟩
    · skip
      exact am_fr.trans am_fr.rf (w_fM_reaches_172 hk35 h)
    · skip
      rcases am_ite h with ⟨q2, h⟩ | ⟨q2, h⟩
      · skip
        exact am_fr.trans am_fr.rf (w_fM_reaches_172 hk35 h)
      · skip
        obtain ⟨q3, h⟩ := am_bif h
        rcases am_ite h with ⟨q4, h⟩ | ⟨q4, h⟩
        · skip
          exact am_fr.trans am_fr.rf (w_fM_reaches_166 hk35 hk109 h)
        · skip
          obtain ⟨q5, h⟩ := am_bif h
          rcases am_ite h with ⟨q6, h⟩ | ⟨q6, h⟩
          · skip
            exact am_fr.trans am_fr.rf (w_fM_reaches_166 hk35 hk109 h)
          · skip
            obtain ⟨q7, h_q7, h⟩ := am_bind h
            have w_q7 : am_fr [(144, 999), (145, 999), (146, 999), (147, 999), (148, 999), (149, 999), (150, 999), (151, 999)] μ q7.2 := am_fr.trans am_fr.rf (am_fr.mono (w_fM_otherwise h_q7) rfl)
            rcases am_ite h with ⟨q8, h⟩ | ⟨q8, h⟩
            · skip
              exact am_fr.trans w_q7 (w_fM_reaches_166 hk35 hk109 h)
            · skip
              exact am_fr.trans (am_fr.up w_q7 rfl) (w_fM_reaches_166 hk35 hk109 h)
set_option maxRecDepth 20000 in
theorem w_fM_reaches_35 : ∀ n : Nat, ∀ {a1 : Int32} {a2 : Int32} {a3 : Int32} {μ : am_Mu} {out : am_Mu}, fM_reaches_35 n a1 a2 a3 μ = some out → am_fr [(144, 999), (145, 999), (146, 999), (147, 999), (148, 999), (149, 999), (150, 999), (151, 999)] μ out := by
  intro n
  induction n with
  | zero => intros; contradiction
  | succ n ih =>
    have hk35 : ∀ {a1 : Int32} {a2 : Int32} {a3 : Int32} {μ : am_Mu} {out : am_Mu}, (fM_reaches_35 n) a1 a2 a3 μ = some out → am_fr [(144, 999), (145, 999), (146, 999), (147, 999), (148, 999), (149, 999), (150, 999), (151, 999)] μ out := ih
    intro a1 a2 a3 μ out h
    unfold fM_reaches_35 at h
    rcases am_ite h with ⟨q1, h⟩ | ⟨q1, h⟩
    · skip
      cases h
      exact am_fr.rf
    · skip
      obtain ⟨q2, h⟩ := am_bif h
      obtain ⟨q3, h_q3, h⟩ := am_bind h
      have w_q3 : am_fr [(144, 999), (145, 999), (146, 999), (147, 999), (148, 999), (149, 999), (150, 999), (151, 999)] μ q3.2 := am_fr.trans am_fr.rf (am_fr.mono (w_fM_minuteOf h_q3) rfl)
      rcases am_ite h with ⟨q4, h⟩ | ⟨q4, h⟩
      · skip
        cases h
        exact w_q3
      · skip
        obtain ⟨q5, h_q5, h⟩ := am_bind h
        have w_q5 : am_fr [(144, 999), (145, 999), (146, 999), (147, 999), (148, 999), (149, 999), (150, 999), (151, 999)] μ q5.2 := am_fr.trans w_q3 (am_fr.mono (w_fM_isKnown h_q5) rfl)
        rcases am_ite h with ⟨q6, h⟩ | ⟨q6, h⟩
        · skip
          obtain ⟨q7, h_q7, h⟩ := am_bind h
          have w_q7 : am_fr [(144, 999), (145, 999), (146, 999), (147, 999), (148, 999), (149, 999), (150, 999), (151, 999)] μ q7 := am_fr.trans w_q5 (am_fr.mono (w_fM_happens h_q7) rfl)
          obtain ⟨q8, h_q8, h⟩ := am_bind h
          have w_q8 : am_fr [(144, 999), (145, 999), (146, 999), (147, 999), (148, 999), (149, 999), (150, 999), (151, 999)] μ q8 := am_fr.trans w_q7 (am_fr.mono (w_fM_happens h_q8) rfl)
          exact am_fr.trans w_q8 (w_fM_reaches_109 hk35 am_F h)
        · skip
          exact am_fr.trans w_q5 (w_fM_reaches_172 hk35 h)
set_option maxRecDepth 20000 in
theorem w_fM_reaches_33 : ∀ {a1 : Int32} {a2 : Int32} {μ : am_Mu} {out : am_Mu}, fM_reaches_33 a1 a2 μ = some out → am_fr [(144, 999), (145, 999), (146, 999), (147, 999), (148, 999), (149, 999), (150, 999), (151, 999)] μ out := by
  intro a1 a2 μ out h
  unfold fM_reaches_33 at h
  exact am_fr.trans am_fr.rf (w_fM_reaches_35 am_F h)
set_option maxRecDepth 20000 in
theorem w_fM_reaches_12 : ∀ n : Nat, ∀ {a1 : Int32} {a2 : Int32} {a3 : Int32} {μ : am_Mu} {out : am_Mu}, fM_reaches_12 n a1 a2 a3 μ = some out → am_fr [(144, 999), (145, 999), (146, 999), (147, 999), (148, 999), (149, 999), (150, 999), (151, 999)] μ out := by
  intro n
  induction n with
  | zero => intros; contradiction
  | succ n ih =>
    have hk12 : ∀ {a1 : Int32} {a2 : Int32} {a3 : Int32} {μ : am_Mu} {out : am_Mu}, (fM_reaches_12 n) a1 a2 a3 μ = some out → am_fr [(144, 999), (145, 999), (146, 999), (147, 999), (148, 999), (149, 999), (150, 999), (151, 999)] μ out := ih
    intro a1 a2 a3 μ out h
    unfold fM_reaches_12 at h
    rcases am_ite h with ⟨q1, h⟩ | ⟨q1, h⟩
    · skip
      exact am_fr.trans am_fr.rf (w_fM_reaches_33 h)
    · skip
      obtain ⟨q2, h⟩ := am_bif h
      exact am_fr.trans (am_fr.up am_fr.rf rfl) (hk12 h)
set_option maxRecDepth 20000 in
theorem w_fM_reaches : ∀ {a1 : Int32} {a2 : Int32} {μ : am_Mu} {out : am_Mu}, fM_reaches a1 a2 μ = some out → am_fr [(144, 999), (145, 999), (146, 999), (147, 999), (148, 999), (149, 999), (150, 999), (151, 999)] μ out := by
  intro a1 a2 μ out h
  unfold fM_reaches at h
  obtain ⟨q1, h_q1, h⟩ := am_bind h
  have w_q1 : am_fr [(144, 999), (145, 999), (146, 999), (147, 999), (148, 999), (149, 999), (150, 999), (151, 999)] μ q1 := am_fr.trans am_fr.rf (am_fr.mono (w_fM_begins h_q1) rfl)
  obtain ⟨q2, h_q2, h⟩ := am_bind h
  have w_q2 : am_fr [(144, 999), (145, 999), (146, 999), (147, 999), (148, 999), (149, 999), (150, 999), (151, 999)] μ q2 := am_fr.trans w_q1 (am_fr.mono (w_fM_begins h_q2) rfl)
  exact am_fr.trans w_q2 (w_fM_reaches_12 am_F h)
set_option maxRecDepth 20000 in
theorem w_fM_reached : ∀ {a1 : Int32} {a2 : Int32} {a3 : Int32} {μ : am_Mu} {out : Int32 × am_Mu}, fM_reached a1 a2 a3 μ = some out → am_fr [(144, 999), (145, 999), (146, 999), (147, 999), (148, 999), (149, 999), (150, 999), (151, 999)] μ out.2 := by
  intro a1 a2 a3 μ out h
  unfold fM_reached at h
  obtain ⟨q1, h_q1, h⟩ := am_bind h
  have w_q1 : am_fr [(144, 999), (145, 999), (146, 999), (147, 999), (148, 999), (149, 999), (150, 999), (151, 999)] μ q1.2 := am_fr.trans am_fr.rf (am_fr.mono (w_fM_isMistake h_q1) rfl)
  rcases am_ite h with ⟨q2, h⟩ | ⟨q2, h⟩
  · skip
    cases h
    exact w_q1
  · skip
    obtain ⟨q3, h_q3, h⟩ := am_bind h
    have w_q3 : am_fr [(144, 999), (145, 999), (146, 999), (147, 999), (148, 999), (149, 999), (150, 999), (151, 999)] μ q3.2 := am_fr.trans w_q1 (am_fr.mono (w_fM_isSchool h_q3) rfl)
    rcases am_ite h with ⟨q4, h⟩ | ⟨q4, h⟩
    · skip
      cases h
      exact w_q3
    · skip
      obtain ⟨q5, h_q5, h⟩ := am_bind h
      have w_q5 : am_fr [(144, 999), (145, 999), (146, 999), (147, 999), (148, 999), (149, 999), (150, 999), (151, 999)] μ q5.2 := am_fr.trans w_q3 (am_fr.mono (w_fM_isThing h_q5) rfl)
      rcases am_ite h with ⟨q6, h⟩ | ⟨q6, h⟩
      · skip
        obtain ⟨q7, h_q7, h⟩ := am_bind h
        have w_q7 : am_fr [(144, 999), (145, 999), (146, 999), (147, 999), (148, 999), (149, 999), (150, 999), (151, 999)] μ q7 := am_fr.trans w_q5 (am_fr.mono (w_fM_reaches h_q7) rfl)
        obtain ⟨q8, h⟩ := am_bif h
        cases h
        exact w_q7
      · skip
        cases h
        exact w_q5
set_option maxRecDepth 20000 in
theorem w_fM_way_144 {k69 : Int32 → Int32 → Int32 → Int32 → Int32 → am_Mu → Option (Int32 × am_Mu)} (hk69 : ∀ {a1 : Int32} {a4 : Int32} {a5 : Int32} {a6 : Int32} {a7 : Int32} {μ : am_Mu} {out : Int32 × am_Mu}, k69 a1 a4 a5 a6 a7 μ = some out → am_fr [(144, 999), (145, 999), (146, 999), (147, 999), (148, 999), (149, 999), (150, 999), (151, 999)] μ out.2) : ∀ {a1 : Int32} {a4 : Int32} {a6 : Int32} {a7 : Int32} {s0 : Int32} {μ : am_Mu} {out : Int32 × am_Mu}, fM_way_144 k69 a1 a4 a6 a7 s0 μ = some out → am_fr [(144, 999), (145, 999), (146, 999), (147, 999), (148, 999), (149, 999), (150, 999), (151, 999)] μ out.2 := by
  intro a1 a4 a6 a7 s0 μ out h
  unfold fM_way_144 at h
  rcases am_ite h with ⟨q1, h⟩ | ⟨q1, h⟩
  · skip
    cases h
    exact am_fr.rf
  · skip
    obtain ⟨q2, h_q2, h⟩ := am_bind h
    have w_q2 : am_fr [(144, 999), (145, 999), (146, 999), (147, 999), (148, 999), (149, 999), (150, 999), (151, 999)] μ q2.2 := am_fr.trans am_fr.rf (am_fr.mono (w_fM_has h_q2) rfl)
    rcases am_ite h with ⟨q3, h⟩ | ⟨q3, h⟩
    · skip
      exact am_fr.trans w_q2 (hk69 h)
    · skip
      cases h
      exact w_q2
set_option maxRecDepth 20000 in
theorem w_fM_way_69 : ∀ n : Nat, ∀ {a1 : Int32} {a4 : Int32} {a5 : Int32} {a6 : Int32} {a7 : Int32} {μ : am_Mu} {out : Int32 × am_Mu}, fM_way_69 n a1 a4 a5 a6 a7 μ = some out → am_fr [(144, 999), (145, 999), (146, 999), (147, 999), (148, 999), (149, 999), (150, 999), (151, 999)] μ out.2 := by
  intro n
  induction n with
  | zero => intros; contradiction
  | succ n ih =>
    have hk69 : ∀ {a1 : Int32} {a4 : Int32} {a5 : Int32} {a6 : Int32} {a7 : Int32} {μ : am_Mu} {out : Int32 × am_Mu}, (fM_way_69 n) a1 a4 a5 a6 a7 μ = some out → am_fr [(144, 999), (145, 999), (146, 999), (147, 999), (148, 999), (149, 999), (150, 999), (151, 999)] μ out.2 := ih
    intro a1 a4 a5 a6 a7 μ out h
    unfold fM_way_69 at h
    rcases am_ite h with ⟨q1, h⟩ | ⟨q1, h⟩
    · skip
      cases h
      exact am_fr.rf
    · skip
      obtain ⟨q2, h⟩ := am_bif h
      rcases am_ite h with ⟨q3, h⟩ | ⟨q3, h⟩
      · skip
        cases h
        exact am_fr.rf
      · skip
        obtain ⟨q4, h⟩ := am_bif h
        rcases am_ite h with ⟨q5, h⟩ | ⟨q5, h⟩
        · skip
          obtain ⟨q6, h⟩ := am_bif h
          rcases am_ite h with ⟨q7, h⟩ | ⟨q7, h⟩
          · skip
            exact am_fr.trans am_fr.rf (w_fM_way_144 hk69 h)
          · skip
            exact am_fr.trans am_fr.rf (w_fM_way_144 hk69 h)
        · skip
          cases h
          exact am_fr.rf
set_option maxRecDepth 20000 in
theorem w_fM_way_58 : ∀ {a1 : Int32} {a3 : Int32} {a4 : Int32} {μ : am_Mu} {out : Int32 × am_Mu}, fM_way_58 a1 a3 a4 μ = some out → am_fr [(144, 999), (145, 999), (146, 999), (147, 999), (148, 999), (149, 999), (150, 999), (151, 999)] μ out.2 := by
  intro a1 a3 a4 μ out h
  unfold fM_way_58 at h
  exact am_fr.trans am_fr.rf (w_fM_way_69 am_F h)
set_option maxRecDepth 20000 in
theorem w_fM_way : ∀ {a1 : Int32} {a2 : Int32} {a3 : Int32} {a4 : Int32} {μ : am_Mu} {out : Int32 × am_Mu}, fM_way a1 a2 a3 a4 μ = some out → am_fr [(144, 999), (145, 999), (146, 999), (147, 999), (148, 999), (149, 999), (150, 999), (151, 999)] μ out.2 := by
  intro a1 a2 a3 a4 μ out h
  unfold fM_way at h
  obtain ⟨q1, h_q1, h⟩ := am_bind h
  have w_q1 : am_fr [(144, 999), (145, 999), (146, 999), (147, 999), (148, 999), (149, 999), (150, 999), (151, 999)] μ q1.2 := am_fr.trans am_fr.rf (am_fr.mono (w_fM_isMistake h_q1) rfl)
  rcases am_ite h with ⟨q2, h⟩ | ⟨q2, h⟩
  · skip
    cases h
    exact w_q1
  · skip
    obtain ⟨q3, h_q3, h⟩ := am_bind h
    have w_q3 : am_fr [(144, 999), (145, 999), (146, 999), (147, 999), (148, 999), (149, 999), (150, 999), (151, 999)] μ q3.2 := am_fr.trans w_q1 (am_fr.mono (w_fM_isSchool h_q3) rfl)
    rcases am_ite h with ⟨q4, h⟩ | ⟨q4, h⟩
    · skip
      cases h
      exact w_q3
    · skip
      obtain ⟨q5, h_q5, h⟩ := am_bind h
      have w_q5 : am_fr [(144, 999), (145, 999), (146, 999), (147, 999), (148, 999), (149, 999), (150, 999), (151, 999)] μ q5.2 := am_fr.trans w_q3 (am_fr.mono (w_fM_isThing h_q5) rfl)
      rcases am_ite h with ⟨q6, h⟩ | ⟨q6, h⟩
      · skip
        cases h
        exact w_q5
      · skip
        rcases am_ite h with ⟨q7, h⟩ | ⟨q7, h⟩
        · skip
          obtain ⟨q8, h_q8, h⟩ := am_bind h
          have w_q8 : am_fr [(144, 999), (145, 999), (146, 999), (147, 999), (148, 999), (149, 999), (150, 999), (151, 999)] μ q8 := am_fr.trans w_q5 (am_fr.mono (w_fM_reaches h_q8) rfl)
          obtain ⟨q9, h⟩ := am_bif h
          rcases am_ite h with ⟨q10, h⟩ | ⟨q10, h⟩
          · skip
            exact am_fr.trans w_q8 (w_fM_way_58 h)
          · skip
            obtain ⟨q11, h⟩ := am_bif h
            rcases am_ite h with ⟨q12, h⟩ | ⟨q12, h⟩
            · skip
              exact am_fr.trans w_q8 (w_fM_way_58 h)
            · skip
              cases h
              exact w_q8
        · skip
          cases h
          exact w_q5
set_option maxRecDepth 20000 in
theorem w_fM_mend_62 : ∀ n : Nat, ∀ {a2 : Int32} {a3 : Int32} {a4 : Int32} {μ : am_Mu} {out : Int32 × am_Mu}, fM_mend_62 n a2 a3 a4 μ = some out → am_fr [(144, 999), (145, 999), (146, 999), (147, 999), (148, 999), (149, 999), (150, 999)] μ out.2 := by
  intro n
  induction n with
  | zero => intros; contradiction
  | succ n ih =>
    have hk62 : ∀ {a2 : Int32} {a3 : Int32} {a4 : Int32} {μ : am_Mu} {out : Int32 × am_Mu}, (fM_mend_62 n) a2 a3 a4 μ = some out → am_fr [(144, 999), (145, 999), (146, 999), (147, 999), (148, 999), (149, 999), (150, 999)] μ out.2 := ih
    intro a2 a3 a4 μ out h
    unfold fM_mend_62 at h
    rcases am_ite h with ⟨q1, h⟩ | ⟨q1, h⟩
    · skip
      cases h
      exact am_fr.rf
    · skip
      obtain ⟨q2, h_q2, h⟩ := am_bind h
      have w_q2 : am_fr [(144, 999), (145, 999), (146, 999), (147, 999), (148, 999), (149, 999), (150, 999)] μ q2.2 := am_fr.trans am_fr.rf (am_fr.mono (w_fM_otherwise h_q2) rfl)
      rcases am_ite h with ⟨q3, h⟩ | ⟨q3, h⟩
      · skip
        obtain ⟨q4, h_q4, h⟩ := am_bind h
        have w_q4 : am_fr [(144, 999), (145, 999), (146, 999), (147, 999), (148, 999), (149, 999), (150, 999)] μ q4 := am_fr.trans w_q2 (am_fr.mono (w_fM_acts h_q4) rfl)
        exact am_fr.trans w_q4 (hk62 h)
      · skip
        cases h
        exact w_q2
set_option maxRecDepth 20000 in
theorem w_fM_mend : ∀ {a1 : Int32} {a2 : Int32} {a3 : Int32} {μ : am_Mu} {out : Int32 × am_Mu}, fM_mend a1 a2 a3 μ = some out → am_fr [(144, 999), (145, 999), (146, 999), (147, 999), (148, 999), (149, 999), (150, 999)] μ out.2 := by
  intro a1 a2 a3 μ out h
  unfold fM_mend at h
  obtain ⟨q1, h_q1, h⟩ := am_bind h
  have w_q1 : am_fr [(144, 999), (145, 999), (146, 999), (147, 999), (148, 999), (149, 999), (150, 999)] μ q1.2 := am_fr.trans am_fr.rf (am_fr.mono (w_fM_isMistake h_q1) rfl)
  rcases am_ite h with ⟨q2, h⟩ | ⟨q2, h⟩
  · skip
    cases h
    exact w_q1
  · skip
    obtain ⟨q3, h_q3, h⟩ := am_bind h
    have w_q3 : am_fr [(144, 999), (145, 999), (146, 999), (147, 999), (148, 999), (149, 999), (150, 999)] μ q3.2 := am_fr.trans w_q1 (am_fr.mono (w_fM_isSchool h_q3) rfl)
    rcases am_ite h with ⟨q4, h⟩ | ⟨q4, h⟩
    · skip
      cases h
      exact w_q3
    · skip
      obtain ⟨q5, h_q5, h⟩ := am_bind h
      have w_q5 : am_fr [(144, 999), (145, 999), (146, 999), (147, 999), (148, 999), (149, 999), (150, 999)] μ q5.2 := am_fr.trans w_q3 (am_fr.mono (w_fM_isThing h_q5) rfl)
      rcases am_ite h with ⟨q6, h⟩ | ⟨q6, h⟩
      · skip
        obtain ⟨q7, h_q7, h⟩ := am_bind h
        have w_q7 : am_fr [(144, 999), (145, 999), (146, 999), (147, 999), (148, 999), (149, 999), (150, 999)] μ q7 := am_fr.trans w_q5 (am_fr.mono (w_fM_goes h_q7) rfl)
        obtain ⟨q8, h_q8, h⟩ := am_bind h
        have w_q8 : am_fr [(144, 999), (145, 999), (146, 999), (147, 999), (148, 999), (149, 999), (150, 999)] μ q8 := am_fr.trans w_q7 (am_fr.mono (w_fM_goes h_q8) rfl)
        exact am_fr.trans w_q8 (w_fM_mend_62 am_F h)
      · skip
        cases h
        exact w_q5
set_option maxRecDepth 20000 in
theorem w_fM_isKitchen : ∀ {a1 : Int32} {μ : am_Mu} {out : Int32 × am_Mu}, fM_isKitchen a1 μ = some out → am_fr [] μ out.2 := by
  intro a1 μ out h
  unfold fM_isKitchen at h
  obtain ⟨q1, h_q1, h⟩ := am_bind h
  have w_q1 : am_fr [] μ q1.2 := am_fr.trans am_fr.rf (am_fr.mono (w_fM_lies h_q1) rfl)
  obtain ⟨q2, h⟩ := am_ifp h
  cases h
  exact w_q1
set_option maxRecDepth 20000 in
theorem w_fM_isLot : ∀ {a1 : Int32} {μ : am_Mu} {out : Int32 × am_Mu}, fM_isLot a1 μ = some out → am_fr [] μ out.2 := by
  intro a1 μ out h
  unfold fM_isLot at h
  obtain ⟨q1, h_q1, h⟩ := am_bind h
  have w_q1 : am_fr [] μ q1.2 := am_fr.trans am_fr.rf (am_fr.mono (w_fM_lies h_q1) rfl)
  obtain ⟨q2, h⟩ := am_ifp h
  cases h
  exact w_q1
set_option maxRecDepth 20000 in
theorem w_fM_kitchen : ∀ {a1 : Int32} {a2 : Int32} {a3 : Int32} {a4 : Int32} {μ : am_Mu} {out : Int32 × am_Mu}, fM_kitchen a1 a2 a3 a4 μ = some out → am_fr [(108, 7), (152, 999), (153, 999), (154, 999), (155, 999)] μ out.2 := by
  intro a1 a2 a3 a4 μ out h
  unfold fM_kitchen at h
  rcases am_ite h with ⟨q1, h⟩ | ⟨q1, h⟩
  · skip
    cases h
    exact am_fr.rf
  · skip
    obtain ⟨q2, h_q2, h⟩ := am_bind h
    have w_q2 : am_fr [(108, 7), (152, 999), (153, 999), (154, 999), (155, 999)] μ q2.2 := am_fr.trans am_fr.rf (am_fr.mono (w_fM_isSchool h_q2) rfl)
    rcases am_ite h with ⟨q3, h⟩ | ⟨q3, h⟩
    · skip
      cases h
      exact w_q2
    · skip
      obtain ⟨q4, h_q4, h⟩ := am_bind h
      have w_q4 : am_fr [(108, 7), (152, 999), (153, 999), (154, 999), (155, 999)] μ q4.2 := am_fr.trans w_q2 (am_fr.mono (w_fM_lies h_q4) rfl)
      rcases am_ite h with ⟨q5, h⟩ | ⟨q5, h⟩
      · skip
        cases h
        exact w_q4
      · skip
        obtain ⟨q6, h_q6, h⟩ := am_bind h
        have w_q6 : am_fr [(108, 7), (152, 999), (153, 999), (154, 999), (155, 999)] μ q6.2 := am_fr.trans w_q4 (am_fr.mono (w_fM_lies h_q6) rfl)
        rcases am_ite h with ⟨q7, h⟩ | ⟨q7, h⟩
        · skip
          cases h
          exact w_q6
        · skip
          obtain ⟨q8, h_q8, h⟩ := am_bind h
          have w_q8 : am_fr [(108, 7), (152, 999), (153, 999), (154, 999), (155, 999)] μ q8.2 := am_fr.trans w_q6 (am_fr.mono (w_fM_lies h_q8) rfl)
          rcases am_ite h with ⟨q9, h⟩ | ⟨q9, h⟩
          · skip
            obtain ⟨q10, h⟩ := am_bif h
            cases h
            exact (am_fr.up (am_fr.up (am_fr.up (am_fr.up (am_fr.up w_q8 rfl) rfl) rfl) rfl) rfl)
          · skip
            cases h
            exact w_q8
set_option maxRecDepth 20000 in
theorem w_fM_oversee : ∀ {a1 : Int32} {a2 : Int32} {μ : am_Mu} {out : Int32 × am_Mu}, fM_oversee a1 a2 μ = some out → am_fr [(153, 999)] μ out.2 := by
  intro a1 a2 μ out h
  unfold fM_oversee at h
  obtain ⟨q1, h_q1, h⟩ := am_bind h
  have w_q1 : am_fr [(153, 999)] μ q1.2 := am_fr.trans am_fr.rf (am_fr.mono (w_fM_isKitchen h_q1) rfl)
  rcases am_ite h with ⟨q2, h⟩ | ⟨q2, h⟩
  · skip
    cases h
    exact w_q1
  · skip
    obtain ⟨q3, h_q3, h⟩ := am_bind h
    have w_q3 : am_fr [(153, 999)] μ q3.2 := am_fr.trans w_q1 (am_fr.mono (w_fM_lies h_q3) rfl)
    rcases am_ite h with ⟨q4, h⟩ | ⟨q4, h⟩
    · skip
      obtain ⟨q5, h⟩ := am_bif h
      cases h
      exact (am_fr.up w_q3 rfl)
    · skip
      cases h
      exact w_q3
set_option maxRecDepth 20000 in
theorem w_fM_trust : ∀ {a1 : Int32} {a2 : Int32} {a3 : Int32} {μ : am_Mu} {out : Int32 × am_Mu}, fM_trust a1 a2 a3 μ = some out → am_fr [(156, 999)] μ out.2 := by
  intro a1 a2 a3 μ out h
  unfold fM_trust at h
  obtain ⟨q1, h_q1, h⟩ := am_bind h
  have w_q1 : am_fr [(156, 999)] μ q1.2 := am_fr.trans am_fr.rf (am_fr.mono (w_fM_isSchool h_q1) rfl)
  rcases am_ite h with ⟨q2, h⟩ | ⟨q2, h⟩
  · skip
    cases h
    exact w_q1
  · skip
    obtain ⟨q3, h_q3, h⟩ := am_bind h
    have w_q3 : am_fr [(156, 999)] μ q3.2 := am_fr.trans w_q1 (am_fr.mono (w_fM_lies h_q3) rfl)
    rcases am_ite h with ⟨q4, h⟩ | ⟨q4, h⟩
    · skip
      cases h
      exact w_q3
    · skip
      obtain ⟨q5, h⟩ := am_bif h
      rcases am_ite h with ⟨q6, h⟩ | ⟨q6, h⟩
      · skip
        cases h
        exact (am_fr.up w_q3 rfl)
      · skip
        cases h
        exact w_q3
set_option maxRecDepth 20000 in
theorem w_fM_lot : ∀ {a1 : Int32} {a2 : Int32} {μ : am_Mu} {out : Int32 × am_Mu}, fM_lot a1 a2 μ = some out → am_fr [(108, 8), (157, 999), (158, 999)] μ out.2 := by
  intro a1 a2 μ out h
  unfold fM_lot at h
  rcases am_ite h with ⟨q1, h⟩ | ⟨q1, h⟩
  · skip
    cases h
    exact am_fr.rf
  · skip
    obtain ⟨q2, h_q2, h⟩ := am_bind h
    have w_q2 : am_fr [(108, 8), (157, 999), (158, 999)] μ q2.2 := am_fr.trans am_fr.rf (am_fr.mono (w_fM_isKitchen h_q2) rfl)
    rcases am_ite h with ⟨q3, h⟩ | ⟨q3, h⟩
    · skip
      cases h
      exact w_q2
    · skip
      obtain ⟨q4, h_q4, h⟩ := am_bind h
      have w_q4 : am_fr [(108, 8), (157, 999), (158, 999)] μ q4.2 := am_fr.trans w_q2 (am_fr.mono (w_fM_lies h_q4) rfl)
      rcases am_ite h with ⟨q5, h⟩ | ⟨q5, h⟩
      · skip
        obtain ⟨q6, h⟩ := am_bif h
        cases h
        exact (am_fr.up (am_fr.up (am_fr.up w_q4 rfl) rfl) rfl)
      · skip
        cases h
        exact w_q4
set_option maxRecDepth 20000 in
theorem w_fM_least : ∀ {a0 : Int32} {a1 : Int32} {μ : am_Mu} {out : Int32 × am_Mu}, fM_least a0 a1 μ = some out → am_fr [] μ out.2 := by
  intro a0 a1 μ out h
  unfold fM_least at h
  rcases am_ite h with ⟨q1, h⟩ | ⟨q1, h⟩
  · skip
    cases h
    exact am_fr.rf
  · skip
    cases h
    exact am_fr.rf
set_option maxRecDepth 20000 in
theorem w_fM_most : ∀ {a0 : Int32} {a1 : Int32} {μ : am_Mu} {out : Int32 × am_Mu}, fM_most a0 a1 μ = some out → am_fr [] μ out.2 := by
  intro a0 a1 μ out h
  unfold fM_most at h
  rcases am_ite h with ⟨q1, h⟩ | ⟨q1, h⟩
  · skip
    cases h
    exact am_fr.rf
  · skip
    cases h
    exact am_fr.rf
set_option maxRecDepth 20000 in
theorem w_fM_passes_134 : ∀ {a2 : Int32} {s1 : Int32} {s2 : Int32} {s3 : Int32} {μ : am_Mu} {out : am_Mu}, fM_passes_134 a2 s1 s2 s3 μ = some out → am_fr [(108, 80), (164, 999), (165, 999), (166, 999)] μ out := by
  intro a2 s1 s2 s3 μ out h
  unfold fM_passes_134 at h
  obtain ⟨q1, h⟩ := am_bif h
  cases h
  exact (am_fr.up (am_fr.up am_fr.rf rfl) rfl)
set_option maxRecDepth 20000 in
theorem w_fM_passes_114 : ∀ {a2 : Int32} {a4 : Int32} {a6 : Int32} {s1 : Int32} {s2 : Int32} {s3 : Int32} {μ : am_Mu} {out : am_Mu}, fM_passes_114 a2 a4 a6 s1 s2 s3 μ = some out → am_fr [(108, 80), (164, 999), (165, 999), (166, 999)] μ out := by
  intro a2 a4 a6 s1 s2 s3 μ out h
  unfold fM_passes_114 at h
  obtain ⟨q1, h⟩ := am_bif h
  obtain ⟨q2, h⟩ := am_bif h
  rcases am_ite h with ⟨q3, h⟩ | ⟨q3, h⟩
  · skip
    exact am_fr.trans (am_fr.up am_fr.rf rfl) (w_fM_passes_134 h)
  · skip
    exact am_fr.trans (am_fr.up am_fr.rf rfl) (w_fM_passes_134 h)
set_option maxRecDepth 20000 in
theorem w_fM_passes : ∀ {a1 : Int32} {a2 : Int32} {a3 : Int32} {a4 : Int32} {μ : am_Mu} {out : am_Mu}, fM_passes a1 a2 a3 a4 μ = some out → am_fr [(108, 80), (164, 999), (165, 999), (166, 999)] μ out := by
  intro a1 a2 a3 a4 μ out h
  unfold fM_passes at h
  obtain ⟨q1, h⟩ := am_bif h
  obtain ⟨q2, h_q2, h⟩ := am_bind h
  have w_q2 : am_fr [(108, 80), (164, 999), (165, 999), (166, 999)] μ q2.2 := am_fr.trans am_fr.rf (am_fr.mono (w_fM_most h_q2) rfl)
  obtain ⟨q3, h_q3, h⟩ := am_bind h
  have w_q3 : am_fr [(108, 80), (164, 999), (165, 999), (166, 999)] μ q3.2 := am_fr.trans w_q2 (am_fr.mono (w_fM_least h_q3) rfl)
  obtain ⟨q4, h_q4, h⟩ := am_bind h
  have w_q4 : am_fr [(108, 80), (164, 999), (165, 999), (166, 999)] μ q4.2 := am_fr.trans w_q3 (am_fr.mono (w_fM_most h_q4) rfl)
  obtain ⟨q5, h_q5, h⟩ := am_bind h
  have w_q5 : am_fr [(108, 80), (164, 999), (165, 999), (166, 999)] μ q5.2 := am_fr.trans (am_fr.up w_q4 rfl) (am_fr.mono (w_fM_least h_q5) rfl)
  obtain ⟨q6, h⟩ := am_bif h
  rcases am_ite h with ⟨q7, h⟩ | ⟨q7, h⟩
  · skip
    exact am_fr.trans (am_fr.up (am_fr.up (am_fr.up w_q5 rfl) rfl) rfl) (w_fM_passes_114 h)
  · skip
    exact am_fr.trans (am_fr.up (am_fr.up (am_fr.up w_q5 rfl) rfl) rfl) (w_fM_passes_114 h)
set_option maxRecDepth 20000 in
theorem w_fM_follows_200 {k115 : Int32 → Int32 → Int32 → am_Mu → Option (am_Mu)} (hk115 : ∀ {a1 : Int32} {a2 : Int32} {a5 : Int32} {μ : am_Mu} {out : am_Mu}, k115 a1 a2 a5 μ = some out → am_fr [(108, 80), (164, 999), (165, 999), (166, 999)] μ out) : ∀ {a1 : Int32} {a2 : Int32} {a5 : Int32} {μ : am_Mu} {out : am_Mu}, fM_follows_200 k115 a1 a2 a5 μ = some out → am_fr [(108, 80), (164, 999), (165, 999), (166, 999)] μ out := by
  intro a1 a2 a5 μ out h
  unfold fM_follows_200 at h
  exact am_fr.trans am_fr.rf (hk115 h)
set_option maxRecDepth 20000 in
theorem w_fM_follows_197 {k115 : Int32 → Int32 → Int32 → am_Mu → Option (am_Mu)} (hk115 : ∀ {a1 : Int32} {a2 : Int32} {a5 : Int32} {μ : am_Mu} {out : am_Mu}, k115 a1 a2 a5 μ = some out → am_fr [(108, 80), (164, 999), (165, 999), (166, 999)] μ out) : ∀ {a1 : Int32} {a2 : Int32} {a5 : Int32} {s1 : Int32} {s2 : Int32} {s3 : Int32} {s4 : Int32} {μ : am_Mu} {out : am_Mu}, fM_follows_197 k115 a1 a2 a5 s1 s2 s3 s4 μ = some out → am_fr [(108, 80), (164, 999), (165, 999), (166, 999)] μ out := by
  intro a1 a2 a5 s1 s2 s3 s4 μ out h
  unfold fM_follows_197 at h
  obtain ⟨q1, h_q1, h⟩ := am_bind h
  have w_q1 : am_fr [(108, 80), (164, 999), (165, 999), (166, 999)] μ q1 := am_fr.trans am_fr.rf (am_fr.mono (w_fM_passes h_q1) rfl)
  exact am_fr.trans w_q1 (w_fM_follows_200 hk115 h)
set_option maxRecDepth 20000 in
theorem w_fM_follows_196 {k115 : Int32 → Int32 → Int32 → am_Mu → Option (am_Mu)} (hk115 : ∀ {a1 : Int32} {a2 : Int32} {a5 : Int32} {μ : am_Mu} {out : am_Mu}, k115 a1 a2 a5 μ = some out → am_fr [(108, 80), (164, 999), (165, 999), (166, 999)] μ out) : ∀ {a1 : Int32} {a2 : Int32} {a5 : Int32} {s1 : Int32} {s2 : Int32} {s3 : Int32} {μ : am_Mu} {out : am_Mu}, fM_follows_196 k115 a1 a2 a5 s1 s2 s3 μ = some out → am_fr [(108, 80), (164, 999), (165, 999), (166, 999)] μ out := by
  intro a1 a2 a5 s1 s2 s3 μ out h
  unfold fM_follows_196 at h
  exact am_fr.trans am_fr.rf (w_fM_follows_197 hk115 h)
set_option maxRecDepth 20000 in
theorem w_fM_follows_115 : ∀ n : Nat, ∀ {a1 : Int32} {a2 : Int32} {a5 : Int32} {μ : am_Mu} {out : am_Mu}, fM_follows_115 n a1 a2 a5 μ = some out → am_fr [(108, 80), (164, 999), (165, 999), (166, 999)] μ out := by
  intro n
  induction n with
  | zero => intros; contradiction
  | succ n ih =>
    have hk115 : ∀ {a1 : Int32} {a2 : Int32} {a5 : Int32} {μ : am_Mu} {out : am_Mu}, (fM_follows_115 n) a1 a2 a5 μ = some out → am_fr [(108, 80), (164, 999), (165, 999), (166, 999)] μ out := ih
    intro a1 a2 a5 μ out h
    unfold fM_follows_115 at h
    rcases am_ite h with ⟨q1, h⟩ | ⟨q1, h⟩
    · skip
      cases h
      exact am_fr.rf
    · skip
      obtain ⟨q2, h⟩ := am_bif h
      rcases am_ite h with ⟨q3, h⟩ | ⟨q3, h⟩
      · skip
        exact am_fr.trans am_fr.rf (w_fM_follows_200 hk115 h)
      · skip
        rcases am_ite h with ⟨q4, h⟩ | ⟨q4, h⟩
        · skip
          exact am_fr.trans am_fr.rf (w_fM_follows_196 hk115 h)
        · skip
          obtain ⟨q5, h⟩ := am_bif h
          obtain ⟨q6, h⟩ := am_bif h
          rcases am_ite h with ⟨q7, h⟩ | ⟨q7, h⟩
          · skip
            exact am_fr.trans am_fr.rf (w_fM_follows_196 hk115 h)
          · skip
            exact am_fr.trans am_fr.rf (w_fM_follows_197 hk115 h)
set_option maxRecDepth 20000 in
theorem w_fM_follows_92 : ∀ {a1 : Int32} {a2 : Int32} {a3 : Int32} {s1 : Int32} {s2 : Int32} {μ : am_Mu} {out : am_Mu}, fM_follows_92 a1 a2 a3 s1 s2 μ = some out → am_fr [(108, 80), (164, 999), (165, 999), (166, 999)] μ out := by
  intro a1 a2 a3 s1 s2 μ out h
  unfold fM_follows_92 at h
  obtain ⟨q1, h⟩ := am_bif h
  obtain ⟨q2, h⟩ := am_bif h
  exact am_fr.trans (am_fr.up (am_fr.up (am_fr.up am_fr.rf rfl) rfl) rfl) (w_fM_follows_115 am_F h)
set_option maxRecDepth 20000 in
theorem w_fM_follows_35 : ∀ {a1 : Int32} {a2 : Int32} {μ : am_Mu} {out : am_Mu}, fM_follows_35 a1 a2 μ = some out → am_fr [(108, 80), (164, 999), (165, 999), (166, 999)] μ out := by
  intro a1 a2 μ out h
  unfold fM_follows_35 at h
  obtain ⟨q1, h⟩ := am_bif h
  obtain ⟨q2, h⟩ := am_bif h
  obtain ⟨q3, h⟩ := am_bif h
  rcases am_ite h with ⟨q4, h⟩ | ⟨q4, h⟩
  · skip
    exact am_fr.trans (am_fr.up am_fr.rf rfl) (w_fM_follows_92 h)
  · skip
    exact am_fr.trans (am_fr.up am_fr.rf rfl) (w_fM_follows_92 h)
set_option maxRecDepth 20000 in
theorem w_fM_follows_2 : ∀ n : Nat, ∀ {a1 : Int32} {a2 : Int32} {a3 : Int32} {μ : am_Mu} {out : am_Mu}, fM_follows_2 n a1 a2 a3 μ = some out → am_fr [(108, 80), (164, 999), (165, 999), (166, 999)] μ out := by
  intro n
  induction n with
  | zero => intros; contradiction
  | succ n ih =>
    have hk2 : ∀ {a1 : Int32} {a2 : Int32} {a3 : Int32} {μ : am_Mu} {out : am_Mu}, (fM_follows_2 n) a1 a2 a3 μ = some out → am_fr [(108, 80), (164, 999), (165, 999), (166, 999)] μ out := ih
    intro a1 a2 a3 μ out h
    unfold fM_follows_2 at h
    rcases am_ite h with ⟨q1, h⟩ | ⟨q1, h⟩
    · skip
      exact am_fr.trans am_fr.rf (w_fM_follows_35 h)
    · skip
      obtain ⟨q2, h⟩ := am_bif h
      exact am_fr.trans (am_fr.up (am_fr.up (am_fr.up am_fr.rf rfl) rfl) rfl) (hk2 h)
set_option maxRecDepth 20000 in
theorem w_fM_follows : ∀ {a1 : Int32} {a2 : Int32} {μ : am_Mu} {out : am_Mu}, fM_follows a1 a2 μ = some out → am_fr [(108, 80), (164, 999), (165, 999), (166, 999)] μ out := by
  intro a1 a2 μ out h
  unfold fM_follows at h
  exact am_fr.trans am_fr.rf (w_fM_follows_2 am_F h)
set_option maxRecDepth 20000 in
theorem w_fM_pass : ∀ {a1 : Int32} {a2 : Int32} {a3 : Int32} {a4 : Int32} {a5 : Int32} {μ : am_Mu} {out : Int32 × am_Mu}, fM_pass a1 a2 a3 a4 a5 μ = some out → am_fr [(108, 80), (108, 9), (159, 999), (160, 999), (161, 999), (162, 999), (163, 999), (164, 999), (165, 999), (166, 999)] μ out.2 := by
  intro a1 a2 a3 a4 a5 μ out h
  unfold fM_pass at h
  rcases am_ite h with ⟨q1, h⟩ | ⟨q1, h⟩
  · skip
    cases h
    exact am_fr.rf
  · skip
    obtain ⟨q2, h_q2, h⟩ := am_bind h
    have w_q2 : am_fr [(108, 80), (108, 9), (159, 999), (160, 999), (161, 999), (162, 999), (163, 999), (164, 999), (165, 999), (166, 999)] μ q2.2 := am_fr.trans am_fr.rf (am_fr.mono (w_fM_isLot h_q2) rfl)
    rcases am_ite h with ⟨q3, h⟩ | ⟨q3, h⟩
    · skip
      cases h
      exact w_q2
    · skip
      obtain ⟨q4, h_q4, h⟩ := am_bind h
      have w_q4 : am_fr [(108, 80), (108, 9), (159, 999), (160, 999), (161, 999), (162, 999), (163, 999), (164, 999), (165, 999), (166, 999)] μ q4.2 := am_fr.trans w_q2 (am_fr.mono (w_fM_isKitchen h_q4) rfl)
      rcases am_ite h with ⟨q5, h⟩ | ⟨q5, h⟩
      · skip
        cases h
        exact w_q4
      · skip
        obtain ⟨q6, h_q6, h⟩ := am_bind h
        have w_q6 : am_fr [(108, 80), (108, 9), (159, 999), (160, 999), (161, 999), (162, 999), (163, 999), (164, 999), (165, 999), (166, 999)] μ q6.2 := am_fr.trans w_q4 (am_fr.mono (w_fM_isKitchen h_q6) rfl)
        rcases am_ite h with ⟨q7, h⟩ | ⟨q7, h⟩
        · skip
          cases h
          exact w_q6
        · skip
          rcases am_ite h with ⟨q8, h⟩ | ⟨q8, h⟩
          · skip
            cases h
            exact w_q6
          · skip
            rcases am_ite h with ⟨q9, h⟩ | ⟨q9, h⟩
            · skip
              obtain ⟨q10, h_q10, h⟩ := am_bind h
              have w_q10 : am_fr [(108, 80), (108, 9), (159, 999), (160, 999), (161, 999), (162, 999), (163, 999), (164, 999), (165, 999), (166, 999)] μ q10 := am_fr.trans w_q6 (am_fr.mono (w_fM_follows h_q10) rfl)
              obtain ⟨q11, h⟩ := am_bif h
              rcases am_ite h with ⟨q12, h⟩ | ⟨q12, h⟩
              · skip
                obtain ⟨q13, h⟩ := am_bif h
                cases h
                exact (am_fr.up (am_fr.up (am_fr.up (am_fr.up (am_fr.up (am_fr.up w_q10 rfl) rfl) rfl) rfl) rfl) rfl)
              · skip
                cases h
                exact w_q10
            · skip
              cases h
              exact w_q6
set_option maxRecDepth 20000 in
theorem w_fM_units : ∀ {a1 : Int32} {a2 : Int32} {μ : am_Mu} {out : Int32 × am_Mu}, fM_units a1 a2 μ = some out → am_fr [(108, 80), (164, 999), (165, 999), (166, 999)] μ out.2 := by
  intro a1 a2 μ out h
  unfold fM_units at h
  obtain ⟨q1, h_q1, h⟩ := am_bind h
  have w_q1 : am_fr [(108, 80), (164, 999), (165, 999), (166, 999)] μ q1.2 := am_fr.trans am_fr.rf (am_fr.mono (w_fM_isLot h_q1) rfl)
  rcases am_ite h with ⟨q2, h⟩ | ⟨q2, h⟩
  · skip
    cases h
    exact w_q1
  · skip
    obtain ⟨q3, h_q3, h⟩ := am_bind h
    have w_q3 : am_fr [(108, 80), (164, 999), (165, 999), (166, 999)] μ q3.2 := am_fr.trans w_q1 (am_fr.mono (w_fM_isKitchen h_q3) rfl)
    rcases am_ite h with ⟨q4, h⟩ | ⟨q4, h⟩
    · skip
      obtain ⟨q5, h_q5, h⟩ := am_bind h
      have w_q5 : am_fr [(108, 80), (164, 999), (165, 999), (166, 999)] μ q5 := am_fr.trans w_q3 (am_fr.mono (w_fM_follows h_q5) rfl)
      obtain ⟨q6, h⟩ := am_bif h
      cases h
      exact w_q5
    · skip
      cases h
      exact w_q3
set_option maxRecDepth 20000 in
theorem w_fM_good : ∀ {a1 : Int32} {a2 : Int32} {a3 : Int32} {a4 : Int32} {μ : am_Mu} {out : Int32 × am_Mu}, fM_good a1 a2 a3 a4 μ = some out → am_fr [(108, 80), (164, 999), (165, 999), (166, 999)] μ out.2 := by
  intro a1 a2 a3 a4 μ out h
  unfold fM_good at h
  obtain ⟨q1, h_q1, h⟩ := am_bind h
  have w_q1 : am_fr [(108, 80), (164, 999), (165, 999), (166, 999)] μ q1.2 := am_fr.trans am_fr.rf (am_fr.mono (w_fM_isSchool h_q1) rfl)
  rcases am_ite h with ⟨q2, h⟩ | ⟨q2, h⟩
  · skip
    cases h
    exact w_q1
  · skip
    obtain ⟨q3, h_q3, h⟩ := am_bind h
    have w_q3 : am_fr [(108, 80), (164, 999), (165, 999), (166, 999)] μ q3.2 := am_fr.trans w_q1 (am_fr.mono (w_fM_isLot h_q3) rfl)
    rcases am_ite h with ⟨q4, h⟩ | ⟨q4, h⟩
    · skip
      cases h
      exact w_q3
    · skip
      obtain ⟨q5, h_q5, h⟩ := am_bind h
      have w_q5 : am_fr [(108, 80), (164, 999), (165, 999), (166, 999)] μ q5.2 := am_fr.trans w_q3 (am_fr.mono (w_fM_isKitchen h_q5) rfl)
      rcases am_ite h with ⟨q6, h⟩ | ⟨q6, h⟩
      · skip
        cases h
        exact w_q5
      · skip
        obtain ⟨q7, h_q7, h⟩ := am_bind h
        have w_q7 : am_fr [(108, 80), (164, 999), (165, 999), (166, 999)] μ q7.2 := am_fr.trans w_q5 (am_fr.mono (w_fM_lies h_q7) rfl)
        rcases am_ite h with ⟨q8, h⟩ | ⟨q8, h⟩
        · skip
          obtain ⟨q9, h_q9, h⟩ := am_bind h
          have w_q9 : am_fr [(108, 80), (164, 999), (165, 999), (166, 999)] μ q9 := am_fr.trans w_q7 (am_fr.mono (w_fM_follows h_q9) rfl)
          rcases am_ite h with ⟨q10, h⟩ | ⟨q10, h⟩
          · skip
            obtain ⟨q11, h⟩ := am_bif h
            cases h
            exact w_q9
          · skip
            obtain ⟨q12, h⟩ := am_bif h
            cases h
            exact w_q9
        · skip
          cases h
          exact w_q7
set_option maxRecDepth 20000 in
theorem w_fM_recall : ∀ {a1 : Int32} {μ : am_Mu} {out : Int32 × am_Mu}, fM_recall a1 μ = some out → am_fr [(108, 80), (164, 999), (165, 999), (166, 999)] μ out.2 := by
  intro a1 μ out h
  unfold fM_recall at h
  obtain ⟨q1, h_q1, h⟩ := am_bind h
  have w_q1 : am_fr [(108, 80), (164, 999), (165, 999), (166, 999)] μ q1.2 := am_fr.trans am_fr.rf (am_fr.mono (w_fM_isLot h_q1) rfl)
  rcases am_ite h with ⟨q2, h⟩ | ⟨q2, h⟩
  · skip
    obtain ⟨q3, h_q3, h⟩ := am_bind h
    have w_q3 : am_fr [(108, 80), (164, 999), (165, 999), (166, 999)] μ q3 := am_fr.trans w_q1 (am_fr.mono (w_fM_follows h_q3) rfl)
    cases h
    exact w_q3
  · skip
    cases h
    exact w_q1
set_option maxRecDepth 20000 in
theorem w_fM_visitor : ∀ {a1 : Int32} {a2 : Int32} {μ : am_Mu} {out : Int32 × am_Mu}, fM_visitor a1 a2 μ = some out → am_fr [(108, 10), (167, 999), (168, 999)] μ out.2 := by
  intro a1 a2 μ out h
  unfold fM_visitor at h
  rcases am_ite h with ⟨q1, h⟩ | ⟨q1, h⟩
  · skip
    cases h
    exact am_fr.rf
  · skip
    obtain ⟨q2, h_q2, h⟩ := am_bind h
    have w_q2 : am_fr [(108, 10), (167, 999), (168, 999)] μ q2.2 := am_fr.trans am_fr.rf (am_fr.mono (w_fM_isSchool h_q2) rfl)
    rcases am_ite h with ⟨q3, h⟩ | ⟨q3, h⟩
    · skip
      cases h
      exact w_q2
    · skip
      obtain ⟨q4, h_q4, h⟩ := am_bind h
      have w_q4 : am_fr [(108, 10), (167, 999), (168, 999)] μ q4.2 := am_fr.trans w_q2 (am_fr.mono (w_fM_lies h_q4) rfl)
      rcases am_ite h with ⟨q5, h⟩ | ⟨q5, h⟩
      · skip
        obtain ⟨q6, h⟩ := am_bif h
        cases h
        exact (am_fr.up (am_fr.up (am_fr.up w_q4 rfl) rfl) rfl)
      · skip
        cases h
        exact w_q4
set_option maxRecDepth 20000 in
theorem w_fM_seed : ∀ {a1 : Int32} {a2 : Int32} {μ : am_Mu} {out : Int32 × am_Mu}, fM_seed a1 a2 μ = some out → am_fr [(108, 12), (108, 13)] μ out.2 := by
  intro a1 a2 μ out h
  unfold fM_seed at h
  rcases am_ite h with ⟨q1, h⟩ | ⟨q1, h⟩
  · skip
    cases h
    exact am_fr.rf
  · skip
    obtain ⟨q2, h_q2, h⟩ := am_bind h
    have w_q2 : am_fr [(108, 12), (108, 13)] μ q2.2 := am_fr.trans am_fr.rf (am_fr.mono (w_fM_lies h_q2) rfl)
    rcases am_ite h with ⟨q3, h⟩ | ⟨q3, h⟩
    · skip
      cases h
      exact (am_fr.up (am_fr.up w_q2 rfl) rfl)
    · skip
      cases h
      exact w_q2
set_option maxRecDepth 20000 in
theorem w_fM_latest_7 : ∀ n : Nat, ∀ {a1 : Int32} {a2 : Int32} {μ : am_Mu} {out : Int32 × am_Mu}, fM_latest_7 n a1 a2 μ = some out → am_fr [] μ out.2 := by
  intro n
  induction n with
  | zero => intros; contradiction
  | succ n ih =>
    have hk7 : ∀ {a1 : Int32} {a2 : Int32} {μ : am_Mu} {out : Int32 × am_Mu}, (fM_latest_7 n) a1 a2 μ = some out → am_fr [] μ out.2 := ih
    intro a1 a2 μ out h
    unfold fM_latest_7 at h
    rcases am_ite h with ⟨q1, h⟩ | ⟨q1, h⟩
    · skip
      cases h
      exact am_fr.rf
    · skip
      obtain ⟨q2, h⟩ := am_bif h
      rcases am_ite h with ⟨q3, h⟩ | ⟨q3, h⟩
      · skip
        cases h
        exact am_fr.rf
      · skip
        exact am_fr.trans am_fr.rf (hk7 h)
set_option maxRecDepth 20000 in
theorem w_fM_latest : ∀ {a1 : Int32} {μ : am_Mu} {out : Int32 × am_Mu}, fM_latest a1 μ = some out → am_fr [] μ out.2 := by
  intro a1 μ out h
  unfold fM_latest at h
  exact am_fr.trans am_fr.rf (w_fM_latest_7 am_F h)
set_option maxRecDepth 20000 in
theorem w_fM_isOverdue_29 : ∀ {s0 : Int32} {s1 : Int32} {μ : am_Mu} {out : Int32 × am_Mu}, fM_isOverdue_29 s0 s1 μ = some out → am_fr [] μ out.2 := by
  intro s0 s1 μ out h
  unfold fM_isOverdue_29 at h
  rcases am_ite h with ⟨q1, h⟩ | ⟨q1, h⟩
  · skip
    cases h
    exact am_fr.rf
  · skip
    cases h
    exact am_fr.rf
set_option maxRecDepth 20000 in
theorem w_fM_isOverdue : ∀ {a1 : Int32} {μ : am_Mu} {out : Int32 × am_Mu}, fM_isOverdue a1 μ = some out → am_fr [] μ out.2 := by
  intro a1 μ out h
  unfold fM_isOverdue at h
  obtain ⟨q1, h_q1, h⟩ := am_bind h
  have w_q1 : am_fr [] μ q1.2 := am_fr.trans am_fr.rf (am_fr.mono (w_fM_latest h_q1) rfl)
  rcases am_ite h with ⟨q2, h⟩ | ⟨q2, h⟩
  · skip
    obtain ⟨q3, h⟩ := am_bif h
    exact am_fr.trans w_q1 (w_fM_isOverdue_29 h)
  · skip
    exact am_fr.trans w_q1 (w_fM_isOverdue_29 h)
set_option maxRecDepth 20000 in
theorem w_fM_lists_137 {k7 : Int32 → Int32 → am_Mu → Option (am_Mu)} (hk7 : ∀ {a1 : Int32} {a2 : Int32} {μ : am_Mu} {out : am_Mu}, k7 a1 a2 μ = some out → am_fr [(108, 86), (172, 999)] μ out) : ∀ {a1 : Int32} {a2 : Int32} {μ : am_Mu} {out : am_Mu}, fM_lists_137 k7 a1 a2 μ = some out → am_fr [(108, 86), (172, 999)] μ out := by
  intro a1 a2 μ out h
  unfold fM_lists_137 at h
  exact am_fr.trans am_fr.rf (hk7 h)
set_option maxRecDepth 20000 in
theorem w_fM_lists_131 {k7 : Int32 → Int32 → am_Mu → Option (am_Mu)} {k61 : Int32 → Int32 → Int32 → Int32 → am_Mu → Option (am_Mu)} (hk7 : ∀ {a1 : Int32} {a2 : Int32} {μ : am_Mu} {out : am_Mu}, k7 a1 a2 μ = some out → am_fr [(108, 86), (172, 999)] μ out) (hk61 : ∀ {a1 : Int32} {a2 : Int32} {a3 : Int32} {a4 : Int32} {μ : am_Mu} {out : am_Mu}, k61 a1 a2 a3 a4 μ = some out → am_fr [(108, 86), (172, 999)] μ out) : ∀ {a1 : Int32} {a2 : Int32} {a3 : Int32} {a4 : Int32} {μ : am_Mu} {out : am_Mu}, fM_lists_131 k7 k61 a1 a2 a3 a4 μ = some out → am_fr [(108, 86), (172, 999)] μ out := by
  intro a1 a2 a3 a4 μ out h
  unfold fM_lists_131 at h
  exact am_fr.trans am_fr.rf (hk61 h)
set_option maxRecDepth 20000 in
theorem w_fM_lists_105 {k7 : Int32 → Int32 → am_Mu → Option (am_Mu)} {k61 : Int32 → Int32 → Int32 → Int32 → am_Mu → Option (am_Mu)} (hk7 : ∀ {a1 : Int32} {a2 : Int32} {μ : am_Mu} {out : am_Mu}, k7 a1 a2 μ = some out → am_fr [(108, 86), (172, 999)] μ out) (hk61 : ∀ {a1 : Int32} {a2 : Int32} {a3 : Int32} {a4 : Int32} {μ : am_Mu} {out : am_Mu}, k61 a1 a2 a3 a4 μ = some out → am_fr [(108, 86), (172, 999)] μ out) : ∀ {a1 : Int32} {a2 : Int32} {a3 : Int32} {a4 : Int32} {μ : am_Mu} {out : am_Mu}, fM_lists_105 k7 k61 a1 a2 a3 a4 μ = some out → am_fr [(108, 86), (172, 999)] μ out := by
  intro a1 a2 a3 a4 μ out h
  unfold fM_lists_105 at h
  obtain ⟨q1, h⟩ := am_bif h
  exact am_fr.trans (am_fr.up (am_fr.up am_fr.rf rfl) rfl) (w_fM_lists_131 hk7 hk61 h)
set_option maxRecDepth 20000 in
theorem w_fM_lists_61 {k7 : Int32 → Int32 → am_Mu → Option (am_Mu)} (hk7 : ∀ {a1 : Int32} {a2 : Int32} {μ : am_Mu} {out : am_Mu}, k7 a1 a2 μ = some out → am_fr [(108, 86), (172, 999)] μ out) : ∀ n : Nat, ∀ {a1 : Int32} {a2 : Int32} {a3 : Int32} {a4 : Int32} {μ : am_Mu} {out : am_Mu}, fM_lists_61 n k7 a1 a2 a3 a4 μ = some out → am_fr [(108, 86), (172, 999)] μ out := by
  intro n
  induction n with
  | zero => intros; contradiction
  | succ n ih =>
    have hk61 : ∀ {a1 : Int32} {a2 : Int32} {a3 : Int32} {a4 : Int32} {μ : am_Mu} {out : am_Mu}, (fM_lists_61 n k7) a1 a2 a3 a4 μ = some out → am_fr [(108, 86), (172, 999)] μ out := ih
    intro a1 a2 a3 a4 μ out h
    unfold fM_lists_61 at h
    rcases am_ite h with ⟨q1, h⟩ | ⟨q1, h⟩
    · skip
      exact am_fr.trans am_fr.rf (w_fM_lists_137 hk7 h)
    · skip
      obtain ⟨q2, h⟩ := am_bif h
      obtain ⟨q3, h⟩ := am_bif h
      rcases am_ite h with ⟨q4, h⟩ | ⟨q4, h⟩
      · skip
        exact am_fr.trans am_fr.rf (w_fM_lists_131 hk7 hk61 h)
      · skip
        rcases am_ite h with ⟨q5, h⟩ | ⟨q5, h⟩
        · skip
          exact am_fr.trans am_fr.rf (w_fM_lists_105 hk7 hk61 h)
        · skip
          obtain ⟨q6, h⟩ := am_bif h
          rcases am_ite h with ⟨q7, h⟩ | ⟨q7, h⟩
          · skip
            exact am_fr.trans am_fr.rf (w_fM_lists_105 hk7 hk61 h)
          · skip
            exact am_fr.trans am_fr.rf (w_fM_lists_131 hk7 hk61 h)
set_option maxRecDepth 20000 in
theorem w_fM_lists_58 {k7 : Int32 → Int32 → am_Mu → Option (am_Mu)} (hk7 : ∀ {a1 : Int32} {a2 : Int32} {μ : am_Mu} {out : am_Mu}, k7 a1 a2 μ = some out → am_fr [(108, 86), (172, 999)] μ out) : ∀ {a1 : Int32} {a2 : Int32} {a3 : Int32} {μ : am_Mu} {out : am_Mu}, fM_lists_58 k7 a1 a2 a3 μ = some out → am_fr [(108, 86), (172, 999)] μ out := by
  intro a1 a2 a3 μ out h
  unfold fM_lists_58 at h
  exact am_fr.trans am_fr.rf (w_fM_lists_61 hk7 am_F h)
set_option maxRecDepth 20000 in
theorem w_fM_lists_43 {k7 : Int32 → Int32 → am_Mu → Option (am_Mu)} (hk7 : ∀ {a1 : Int32} {a2 : Int32} {μ : am_Mu} {out : am_Mu}, k7 a1 a2 μ = some out → am_fr [(108, 86), (172, 999)] μ out) : ∀ {a1 : Int32} {a2 : Int32} {a3 : Int32} {μ : am_Mu} {out : am_Mu}, fM_lists_43 k7 a1 a2 a3 μ = some out → am_fr [(108, 86), (172, 999)] μ out := by
  intro a1 a2 a3 μ out h
  unfold fM_lists_43 at h
  rcases am_ite h with ⟨q1, h⟩ | ⟨q1, h⟩
  · skip
    exact am_fr.trans am_fr.rf (w_fM_lists_58 hk7 h)
  · skip
    obtain ⟨q2, h_q2, h⟩ := am_bind h
    have w_q2 : am_fr [(108, 86), (172, 999)] μ q2.2 := am_fr.trans am_fr.rf (am_fr.mono (w_fM_isOverdue h_q2) rfl)
    rcases am_ite h with ⟨q3, h⟩ | ⟨q3, h⟩
    · skip
      exact am_fr.trans w_q2 (w_fM_lists_58 hk7 h)
    · skip
      exact am_fr.trans w_q2 (w_fM_lists_137 hk7 h)
set_option maxRecDepth 20000 in
theorem w_fM_lists_7 : ∀ n : Nat, ∀ {a1 : Int32} {a2 : Int32} {μ : am_Mu} {out : am_Mu}, fM_lists_7 n a1 a2 μ = some out → am_fr [(108, 86), (172, 999)] μ out := by
  intro n
  induction n with
  | zero => intros; contradiction
  | succ n ih =>
    have hk7 : ∀ {a1 : Int32} {a2 : Int32} {μ : am_Mu} {out : am_Mu}, (fM_lists_7 n) a1 a2 μ = some out → am_fr [(108, 86), (172, 999)] μ out := ih
    intro a1 a2 μ out h
    unfold fM_lists_7 at h
    rcases am_ite h with ⟨q1, h⟩ | ⟨q1, h⟩
    · skip
      cases h
      exact am_fr.rf
    · skip
      obtain ⟨q2, h_q2, h⟩ := am_bind h
      have w_q2 : am_fr [(108, 86), (172, 999)] μ q2.2 := am_fr.trans am_fr.rf (am_fr.mono (w_fM_latest h_q2) rfl)
      rcases am_ite h with ⟨q3, h⟩ | ⟨q3, h⟩
      · skip
        exact am_fr.trans w_q2 (w_fM_lists_43 hk7 h)
      · skip
        obtain ⟨q4, h⟩ := am_bif h
        rcases am_ite h with ⟨q5, h⟩ | ⟨q5, h⟩
        · skip
          exact am_fr.trans w_q2 (w_fM_lists_137 hk7 h)
        · skip
          exact am_fr.trans w_q2 (w_fM_lists_43 hk7 h)
set_option maxRecDepth 20000 in
theorem w_fM_lists : ∀ {a1 : Int32} {μ : am_Mu} {out : am_Mu}, fM_lists a1 μ = some out → am_fr [(108, 86), (172, 999)] μ out := by
  intro a1 μ out h
  unfold fM_lists at h
  exact am_fr.trans (am_fr.up am_fr.rf rfl) (w_fM_lists_7 am_F h)
set_option maxRecDepth 20000 in
theorem w_fM_rows : ∀ {μ : am_Mu} {out : am_Mu}, fM_rows μ = some out → am_fr [(108, 86), (172, 999)] μ out := by
  intro μ out h
  unfold fM_rows at h
  obtain ⟨q1, h_q1, h⟩ := am_bind h
  have w_q1 : am_fr [(108, 86), (172, 999)] μ q1 := am_fr.trans am_fr.rf (am_fr.mono (w_fM_lists h_q1) rfl)
  rcases am_ite h with ⟨q2, h⟩ | ⟨q2, h⟩
  · skip
    cases h
    exact w_q1
  · skip
    obtain ⟨q3, h_q3, h⟩ := am_bind h
    have w_q3 : am_fr [(108, 86), (172, 999)] μ q3 := am_fr.trans w_q1 (am_fr.mono (w_fM_lists h_q3) rfl)
    cases h
    exact w_q3
set_option maxRecDepth 20000 in
theorem w_fM_row : ∀ {μ : am_Mu} {out : Int32 × am_Mu}, fM_row μ = some out → am_fr [(108, 86), (172, 999)] μ out.2 := by
  intro μ out h
  unfold fM_row at h
  obtain ⟨q1, h_q1, h⟩ := am_bind h
  have w_q1 : am_fr [(108, 86), (172, 999)] μ q1 := am_fr.trans am_fr.rf (am_fr.mono (w_fM_rows h_q1) rfl)
  cases h
  exact w_q1
set_option maxRecDepth 20000 in
theorem w_fM_draw : ∀ {μ : am_Mu} {out : Int32 × am_Mu}, fM_draw μ = some out → am_fr [(108, 11), (108, 12), (108, 86), (169, 999), (170, 999), (171, 999), (172, 999)] μ out.2 := by
  intro μ out h
  unfold fM_draw at h
  rcases am_ite h with ⟨q1, h⟩ | ⟨q1, h⟩
  · skip
    obtain ⟨q2, h_q2, h⟩ := am_bind h
    have w_q2 : am_fr [(108, 11), (108, 12), (108, 86), (169, 999), (170, 999), (171, 999), (172, 999)] μ q2 := am_fr.trans am_fr.rf (am_fr.mono (w_fM_rows h_q2) rfl)
    rcases am_ite h with ⟨q3, h⟩ | ⟨q3, h⟩
    · skip
      obtain ⟨q4, h⟩ := am_ifn h
      obtain ⟨q5, h⟩ := am_bif h
      obtain ⟨q6, h⟩ := am_bif h
      cases h
      exact (am_fr.up (am_fr.up (am_fr.up (am_fr.up (am_fr.up w_q2 rfl) rfl) rfl) rfl) rfl)
    · skip
      cases h
      exact w_q2
  · skip
    cases h
    exact am_fr.rf
set_option maxRecDepth 20000 in
theorem w_fM_visit : ∀ {a1 : Int32} {a2 : Int32} {μ : am_Mu} {out : Int32 × am_Mu}, fM_visit a1 a2 μ = some out → am_fr [] μ out.2 := by
  intro a1 a2 μ out h
  unfold fM_visit at h
  obtain ⟨q1, h_q1, h⟩ := am_bind h
  have w_q1 : am_fr [] μ q1.2 := am_fr.trans am_fr.rf (am_fr.mono (w_fM_lies h_q1) rfl)
  rcases am_ite h with ⟨q2, h⟩ | ⟨q2, h⟩
  · skip
    rcases am_ite h with ⟨q3, h⟩ | ⟨q3, h⟩
    · skip
      rcases am_ite h with ⟨q4, h⟩ | ⟨q4, h⟩
      · skip
        rcases am_ite h with ⟨q5, h⟩ | ⟨q5, h⟩
        · skip
          cases h
          exact w_q1
        · skip
          obtain ⟨q6, h⟩ := am_bif h
          cases h
          exact w_q1
      · skip
        obtain ⟨q7, h⟩ := am_bif h
        cases h
        exact w_q1
    · skip
      obtain ⟨q8, h⟩ := am_bif h
      cases h
      exact w_q1
  · skip
    cases h
    exact w_q1
set_option maxRecDepth 20000 in
theorem w_fM_way0 : ∀ {a1 : Int32} {a2 : Int32} {μ : am_Mu} {out : Int32 × am_Mu}, fM_way0 a1 a2 μ = some out → am_fr [] μ out.2 := by
  intro a1 a2 μ out h
  unfold fM_way0 at h
  obtain ⟨q1, h⟩ := am_bif h
  obtain ⟨q2, h⟩ := am_bif h
  obtain ⟨q3, h⟩ := am_bif h
  obtain ⟨q4, h⟩ := am_bif h
  obtain ⟨q5, h_q5, h⟩ := am_bind h
  have w_q5 : am_fr [] μ q5.2 := am_fr.trans am_fr.rf (am_fr.mono (w_fM_most h_q5) rfl)
  obtain ⟨q6, h_q6, h⟩ := am_bind h
  have w_q6 : am_fr [] μ q6.2 := am_fr.trans w_q5 (am_fr.mono (w_fM_most h_q6) rfl)
  cases h
  exact w_q6
set_option maxRecDepth 20000 in
theorem w_fM_tours_224 {k84 : Int32 → am_Mu → Option (am_Mu)} (hk84 : ∀ {a2 : Int32} {μ : am_Mu} {out : am_Mu}, k84 a2 μ = some out → am_fr [(108, 88), (173, 999), (174, 999)] μ out) : ∀ {a2 : Int32} {μ : am_Mu} {out : am_Mu}, fM_tours_224 k84 a2 μ = some out → am_fr [(108, 88), (173, 999), (174, 999)] μ out := by
  intro a2 μ out h
  unfold fM_tours_224 at h
  exact am_fr.trans am_fr.rf (hk84 h)
set_option maxRecDepth 20000 in
theorem w_fM_tours_205 {k84 : Int32 → am_Mu → Option (am_Mu)} {k96 : Int32 → Int32 → am_Mu → Option (am_Mu)} (hk84 : ∀ {a2 : Int32} {μ : am_Mu} {out : am_Mu}, k84 a2 μ = some out → am_fr [(108, 88), (173, 999), (174, 999)] μ out) (hk96 : ∀ {a2 : Int32} {a3 : Int32} {μ : am_Mu} {out : am_Mu}, k96 a2 a3 μ = some out → am_fr [(108, 88), (173, 999), (174, 999)] μ out) : ∀ {a2 : Int32} {a3 : Int32} {a4 : Int32} {μ : am_Mu} {out : am_Mu}, fM_tours_205 k84 k96 a2 a3 a4 μ = some out → am_fr [(108, 88), (173, 999), (174, 999)] μ out := by
  intro a2 a3 a4 μ out h
  unfold fM_tours_205 at h
  obtain ⟨q1, h⟩ := am_bif h
  exact am_fr.trans (am_fr.up am_fr.rf rfl) (hk96 h)
set_option maxRecDepth 20000 in
theorem w_fM_tours_199 {k84 : Int32 → am_Mu → Option (am_Mu)} {k96 : Int32 → Int32 → am_Mu → Option (am_Mu)} {k122 : Int32 → Int32 → Int32 → Int32 → Int32 → Int32 → am_Mu → Option (am_Mu)} (hk84 : ∀ {a2 : Int32} {μ : am_Mu} {out : am_Mu}, k84 a2 μ = some out → am_fr [(108, 88), (173, 999), (174, 999)] μ out) (hk96 : ∀ {a2 : Int32} {a3 : Int32} {μ : am_Mu} {out : am_Mu}, k96 a2 a3 μ = some out → am_fr [(108, 88), (173, 999), (174, 999)] μ out) (hk122 : ∀ {a2 : Int32} {a3 : Int32} {a4 : Int32} {a5 : Int32} {a6 : Int32} {a7 : Int32} {μ : am_Mu} {out : am_Mu}, k122 a2 a3 a4 a5 a6 a7 μ = some out → am_fr [(108, 88), (173, 999), (174, 999)] μ out) : ∀ {a2 : Int32} {a3 : Int32} {a4 : Int32} {a5 : Int32} {a6 : Int32} {a7 : Int32} {μ : am_Mu} {out : am_Mu}, fM_tours_199 k84 k96 k122 a2 a3 a4 a5 a6 a7 μ = some out → am_fr [(108, 88), (173, 999), (174, 999)] μ out := by
  intro a2 a3 a4 a5 a6 a7 μ out h
  unfold fM_tours_199 at h
  exact am_fr.trans am_fr.rf (hk122 h)
set_option maxRecDepth 20000 in
theorem w_fM_tours_194 {k84 : Int32 → am_Mu → Option (am_Mu)} {k96 : Int32 → Int32 → am_Mu → Option (am_Mu)} {k122 : Int32 → Int32 → Int32 → Int32 → Int32 → Int32 → am_Mu → Option (am_Mu)} (hk84 : ∀ {a2 : Int32} {μ : am_Mu} {out : am_Mu}, k84 a2 μ = some out → am_fr [(108, 88), (173, 999), (174, 999)] μ out) (hk96 : ∀ {a2 : Int32} {a3 : Int32} {μ : am_Mu} {out : am_Mu}, k96 a2 a3 μ = some out → am_fr [(108, 88), (173, 999), (174, 999)] μ out) (hk122 : ∀ {a2 : Int32} {a3 : Int32} {a4 : Int32} {a5 : Int32} {a6 : Int32} {a7 : Int32} {μ : am_Mu} {out : am_Mu}, k122 a2 a3 a4 a5 a6 a7 μ = some out → am_fr [(108, 88), (173, 999), (174, 999)] μ out) : ∀ {a2 : Int32} {a3 : Int32} {a5 : Int32} {a7 : Int32} {s0 : Int32} {μ : am_Mu} {out : am_Mu}, fM_tours_194 k84 k96 k122 a2 a3 a5 a7 s0 μ = some out → am_fr [(108, 88), (173, 999), (174, 999)] μ out := by
  intro a2 a3 a5 a7 s0 μ out h
  unfold fM_tours_194 at h
  exact am_fr.trans am_fr.rf (w_fM_tours_199 hk84 hk96 hk122 h)
set_option maxRecDepth 20000 in
theorem w_fM_tours_187 {k84 : Int32 → am_Mu → Option (am_Mu)} {k96 : Int32 → Int32 → am_Mu → Option (am_Mu)} {k122 : Int32 → Int32 → Int32 → Int32 → Int32 → Int32 → am_Mu → Option (am_Mu)} (hk84 : ∀ {a2 : Int32} {μ : am_Mu} {out : am_Mu}, k84 a2 μ = some out → am_fr [(108, 88), (173, 999), (174, 999)] μ out) (hk96 : ∀ {a2 : Int32} {a3 : Int32} {μ : am_Mu} {out : am_Mu}, k96 a2 a3 μ = some out → am_fr [(108, 88), (173, 999), (174, 999)] μ out) (hk122 : ∀ {a2 : Int32} {a3 : Int32} {a4 : Int32} {a5 : Int32} {a6 : Int32} {a7 : Int32} {μ : am_Mu} {out : am_Mu}, k122 a2 a3 a4 a5 a6 a7 μ = some out → am_fr [(108, 88), (173, 999), (174, 999)] μ out) : ∀ {a2 : Int32} {a3 : Int32} {a5 : Int32} {a7 : Int32} {a8 : Int32} {μ : am_Mu} {out : am_Mu}, fM_tours_187 k84 k96 k122 a2 a3 a5 a7 a8 μ = some out → am_fr [(108, 88), (173, 999), (174, 999)] μ out := by
  intro a2 a3 a5 a7 a8 μ out h
  unfold fM_tours_187 at h
  exact am_fr.trans am_fr.rf (w_fM_tours_194 hk84 hk96 hk122 h)
set_option maxRecDepth 20000 in
theorem w_fM_tours_122 {k84 : Int32 → am_Mu → Option (am_Mu)} {k96 : Int32 → Int32 → am_Mu → Option (am_Mu)} (hk84 : ∀ {a2 : Int32} {μ : am_Mu} {out : am_Mu}, k84 a2 μ = some out → am_fr [(108, 88), (173, 999), (174, 999)] μ out) (hk96 : ∀ {a2 : Int32} {a3 : Int32} {μ : am_Mu} {out : am_Mu}, k96 a2 a3 μ = some out → am_fr [(108, 88), (173, 999), (174, 999)] μ out) : ∀ n : Nat, ∀ {a2 : Int32} {a3 : Int32} {a4 : Int32} {a5 : Int32} {a6 : Int32} {a7 : Int32} {μ : am_Mu} {out : am_Mu}, fM_tours_122 n k84 k96 a2 a3 a4 a5 a6 a7 μ = some out → am_fr [(108, 88), (173, 999), (174, 999)] μ out := by
  intro n
  induction n with
  | zero => intros; contradiction
  | succ n ih =>
    have hk122 : ∀ {a2 : Int32} {a3 : Int32} {a4 : Int32} {a5 : Int32} {a6 : Int32} {a7 : Int32} {μ : am_Mu} {out : am_Mu}, (fM_tours_122 n k84 k96) a2 a3 a4 a5 a6 a7 μ = some out → am_fr [(108, 88), (173, 999), (174, 999)] μ out := ih
    intro a2 a3 a4 a5 a6 a7 μ out h
    unfold fM_tours_122 at h
    rcases am_ite h with ⟨q1, h⟩ | ⟨q1, h⟩
    · skip
      exact am_fr.trans am_fr.rf (w_fM_tours_205 hk84 hk96 h)
    · skip
      obtain ⟨q2, h_q2, h⟩ := am_bind h
      have w_q2 : am_fr [(108, 88), (173, 999), (174, 999)] μ q2.2 := am_fr.trans am_fr.rf (am_fr.mono (w_fM_has h_q2) rfl)
      rcases am_ite h with ⟨q3, h⟩ | ⟨q3, h⟩
      · skip
        exact am_fr.trans w_q2 (w_fM_tours_205 hk84 hk96 h)
      · skip
        obtain ⟨q4, h_q4, h⟩ := am_bind h
        have w_q4 : am_fr [(108, 88), (173, 999), (174, 999)] μ q4.2 := am_fr.trans w_q2 (am_fr.mono (w_fM_has h_q4) rfl)
        rcases am_ite h with ⟨q5, h⟩ | ⟨q5, h⟩
        · skip
          obtain ⟨q6, h_q6, h⟩ := am_bind h
          have w_q6 : am_fr [(108, 88), (173, 999), (174, 999)] μ q6.2 := am_fr.trans w_q4 (am_fr.mono (w_fM_way0 h_q6) rfl)
          obtain ⟨q7, h⟩ := am_bif h
          rcases am_ite h with ⟨q8, h⟩ | ⟨q8, h⟩
          · skip
            exact am_fr.trans w_q6 (w_fM_tours_187 hk84 hk96 hk122 h)
          · skip
            rcases am_ite h with ⟨q9, h⟩ | ⟨q9, h⟩
            · skip
              exact am_fr.trans w_q6 (w_fM_tours_194 hk84 hk96 hk122 h)
            · skip
              exact am_fr.trans w_q6 (w_fM_tours_187 hk84 hk96 hk122 h)
        · skip
          exact am_fr.trans w_q4 (w_fM_tours_199 hk84 hk96 hk122 h)
set_option maxRecDepth 20000 in
theorem w_fM_tours_96 {k84 : Int32 → am_Mu → Option (am_Mu)} (hk84 : ∀ {a2 : Int32} {μ : am_Mu} {out : am_Mu}, k84 a2 μ = some out → am_fr [(108, 88), (173, 999), (174, 999)] μ out) : ∀ n : Nat, ∀ {a2 : Int32} {a3 : Int32} {μ : am_Mu} {out : am_Mu}, fM_tours_96 n k84 a2 a3 μ = some out → am_fr [(108, 88), (173, 999), (174, 999)] μ out := by
  intro n
  induction n with
  | zero => intros; contradiction
  | succ n ih =>
    have hk96 : ∀ {a2 : Int32} {a3 : Int32} {μ : am_Mu} {out : am_Mu}, (fM_tours_96 n k84) a2 a3 μ = some out → am_fr [(108, 88), (173, 999), (174, 999)] μ out := ih
    intro a2 a3 μ out h
    unfold fM_tours_96 at h
    rcases am_ite h with ⟨q1, h⟩ | ⟨q1, h⟩
    · skip
      exact am_fr.trans am_fr.rf (w_fM_tours_224 hk84 h)
    · skip
      exact am_fr.trans am_fr.rf (w_fM_tours_122 hk84 hk96 am_F h)
set_option maxRecDepth 20000 in
theorem w_fM_tours_84 : ∀ n : Nat, ∀ {a2 : Int32} {μ : am_Mu} {out : am_Mu}, fM_tours_84 n a2 μ = some out → am_fr [(108, 88), (173, 999), (174, 999)] μ out := by
  intro n
  induction n with
  | zero => intros; contradiction
  | succ n ih =>
    have hk84 : ∀ {a2 : Int32} {μ : am_Mu} {out : am_Mu}, (fM_tours_84 n) a2 μ = some out → am_fr [(108, 88), (173, 999), (174, 999)] μ out := ih
    intro a2 μ out h
    unfold fM_tours_84 at h
    rcases am_ite h with ⟨q1, h⟩ | ⟨q1, h⟩
    · skip
      cases h
      exact am_fr.rf
    · skip
      exact am_fr.trans am_fr.rf (w_fM_tours_96 hk84 am_F h)
set_option maxRecDepth 20000 in
theorem w_fM_tours_82 : ∀ {μ : am_Mu} {out : am_Mu}, fM_tours_82 μ = some out → am_fr [(108, 88), (173, 999), (174, 999)] μ out := by
  intro μ out h
  unfold fM_tours_82 at h
  exact am_fr.trans am_fr.rf (w_fM_tours_84 am_F h)
set_option maxRecDepth 20000 in
theorem w_fM_tours_76 {k7 : Int32 → Int32 → am_Mu → Option (am_Mu)} (hk7 : ∀ {a1 : Int32} {a2 : Int32} {μ : am_Mu} {out : am_Mu}, k7 a1 a2 μ = some out → am_fr [(108, 88), (173, 999), (174, 999)] μ out) : ∀ {a1 : Int32} {a2 : Int32} {μ : am_Mu} {out : am_Mu}, fM_tours_76 k7 a1 a2 μ = some out → am_fr [(108, 88), (173, 999), (174, 999)] μ out := by
  intro a1 a2 μ out h
  unfold fM_tours_76 at h
  exact am_fr.trans am_fr.rf (hk7 h)
set_option maxRecDepth 20000 in
theorem w_fM_tours_7 : ∀ n : Nat, ∀ {a1 : Int32} {a2 : Int32} {μ : am_Mu} {out : am_Mu}, fM_tours_7 n a1 a2 μ = some out → am_fr [(108, 88), (173, 999), (174, 999)] μ out := by
  intro n
  induction n with
  | zero => intros; contradiction
  | succ n ih =>
    have hk7 : ∀ {a1 : Int32} {a2 : Int32} {μ : am_Mu} {out : am_Mu}, (fM_tours_7 n) a1 a2 μ = some out → am_fr [(108, 88), (173, 999), (174, 999)] μ out := ih
    intro a1 a2 μ out h
    unfold fM_tours_7 at h
    rcases am_ite h with ⟨q1, h⟩ | ⟨q1, h⟩
    · skip
      exact am_fr.trans am_fr.rf (w_fM_tours_82 h)
    · skip
      obtain ⟨q2, h_q2, h⟩ := am_bind h
      have w_q2 : am_fr [(108, 88), (173, 999), (174, 999)] μ q2.2 := am_fr.trans am_fr.rf (am_fr.mono (w_fM_latest h_q2) rfl)
      rcases am_ite h with ⟨q3, h⟩ | ⟨q3, h⟩
      · skip
        exact am_fr.trans w_q2 (w_fM_tours_76 hk7 h)
      · skip
        obtain ⟨q4, h⟩ := am_bif h
        rcases am_ite h with ⟨q5, h⟩ | ⟨q5, h⟩
        · skip
          exact am_fr.trans w_q2 (w_fM_tours_76 hk7 h)
        · skip
          rcases am_ite h with ⟨q6, h⟩ | ⟨q6, h⟩
          · skip
            obtain ⟨q7, h⟩ := am_bif h
            exact am_fr.trans (am_fr.up (am_fr.up w_q2 rfl) rfl) (w_fM_tours_76 hk7 h)
          · skip
            exact am_fr.trans w_q2 (w_fM_tours_76 hk7 h)
set_option maxRecDepth 20000 in
theorem w_fM_tours : ∀ {a1 : Int32} {μ : am_Mu} {out : am_Mu}, fM_tours a1 μ = some out → am_fr [(108, 88), (173, 999), (174, 999)] μ out := by
  intro a1 μ out h
  unfold fM_tours at h
  exact am_fr.trans (am_fr.up am_fr.rf rfl) (w_fM_tours_7 am_F h)
set_option maxRecDepth 20000 in
theorem w_fM_beginsAt_57 {k3 : Int32 → Int32 → Int32 → Int32 → am_Mu → Option (Int32 × am_Mu)} (hk3 : ∀ {a1 : Int32} {a2 : Int32} {a3 : Int32} {a4 : Int32} {μ : am_Mu} {out : Int32 × am_Mu}, k3 a1 a2 a3 a4 μ = some out → am_fr [] μ out.2) : ∀ {a1 : Int32} {a2 : Int32} {a3 : Int32} {a4 : Int32} {μ : am_Mu} {out : Int32 × am_Mu}, fM_beginsAt_57 k3 a1 a2 a3 a4 μ = some out → am_fr [] μ out.2 := by
  intro a1 a2 a3 a4 μ out h
  unfold fM_beginsAt_57 at h
  exact am_fr.trans am_fr.rf (hk3 h)
set_option maxRecDepth 20000 in
theorem w_fM_beginsAt_49 {k3 : Int32 → Int32 → Int32 → Int32 → am_Mu → Option (Int32 × am_Mu)} (hk3 : ∀ {a1 : Int32} {a2 : Int32} {a3 : Int32} {a4 : Int32} {μ : am_Mu} {out : Int32 × am_Mu}, k3 a1 a2 a3 a4 μ = some out → am_fr [] μ out.2) : ∀ {a1 : Int32} {a2 : Int32} {a3 : Int32} {a4 : Int32} {s0 : Int32} {s1 : Int32} {μ : am_Mu} {out : Int32 × am_Mu}, fM_beginsAt_49 k3 a1 a2 a3 a4 s0 s1 μ = some out → am_fr [] μ out.2 := by
  intro a1 a2 a3 a4 s0 s1 μ out h
  unfold fM_beginsAt_49 at h
  rcases am_ite h with ⟨q1, h⟩ | ⟨q1, h⟩
  · skip
    exact am_fr.trans am_fr.rf (w_fM_beginsAt_57 hk3 h)
  · skip
    cases h
    exact am_fr.rf
set_option maxRecDepth 20000 in
theorem w_fM_beginsAt_3 : ∀ n : Nat, ∀ {a1 : Int32} {a2 : Int32} {a3 : Int32} {a4 : Int32} {μ : am_Mu} {out : Int32 × am_Mu}, fM_beginsAt_3 n a1 a2 a3 a4 μ = some out → am_fr [] μ out.2 := by
  intro n
  induction n with
  | zero => intros; contradiction
  | succ n ih =>
    have hk3 : ∀ {a1 : Int32} {a2 : Int32} {a3 : Int32} {a4 : Int32} {μ : am_Mu} {out : Int32 × am_Mu}, (fM_beginsAt_3 n) a1 a2 a3 a4 μ = some out → am_fr [] μ out.2 := ih
    intro a1 a2 a3 a4 μ out h
    unfold fM_beginsAt_3 at h
    rcases am_ite h with ⟨q1, h⟩ | ⟨q1, h⟩
    · skip
      cases h
      exact am_fr.rf
    · skip
      obtain ⟨q2, h_q2, h⟩ := am_bind h
      have w_q2 : am_fr [] μ q2.2 := am_fr.trans am_fr.rf (am_fr.mono (w_fM_has h_q2) rfl)
      rcases am_ite h with ⟨q3, h⟩ | ⟨q3, h⟩
      · skip
        exact am_fr.trans w_q2 (w_fM_beginsAt_57 hk3 h)
      · skip
        obtain ⟨q4, h⟩ := am_bif h
        rcases am_ite h with ⟨q5, h⟩ | ⟨q5, h⟩
        · skip
          obtain ⟨q6, h_q6, h⟩ := am_bind h
          have w_q6 : am_fr [] μ q6.2 := am_fr.trans w_q2 (am_fr.mono (w_fM_way0 h_q6) rfl)
          exact am_fr.trans w_q6 (w_fM_beginsAt_49 hk3 h)
        · skip
          exact am_fr.trans w_q2 (w_fM_beginsAt_49 hk3 h)
set_option maxRecDepth 20000 in
theorem w_fM_beginsAt : ∀ {a1 : Int32} {a2 : Int32} {a3 : Int32} {μ : am_Mu} {out : Int32 × am_Mu}, fM_beginsAt a1 a2 a3 μ = some out → am_fr [] μ out.2 := by
  intro a1 a2 a3 μ out h
  unfold fM_beginsAt at h
  exact am_fr.trans am_fr.rf (w_fM_beginsAt_3 am_F h)
set_option maxRecDepth 20000 in
theorem w_fM_length_21 : ∀ n : Nat, ∀ {a1 : Int32} {a2 : Int32} {a3 : Int32} {μ : am_Mu} {out : Int32 × am_Mu}, fM_length_21 n a1 a2 a3 μ = some out → am_fr [] μ out.2 := by
  intro n
  induction n with
  | zero => intros; contradiction
  | succ n ih =>
    have hk21 : ∀ {a1 : Int32} {a2 : Int32} {a3 : Int32} {μ : am_Mu} {out : Int32 × am_Mu}, (fM_length_21 n) a1 a2 a3 μ = some out → am_fr [] μ out.2 := ih
    intro a1 a2 a3 μ out h
    unfold fM_length_21 at h
    rcases am_ite h with ⟨q1, h⟩ | ⟨q1, h⟩
    · skip
      cases h
      exact am_fr.rf
    · skip
      obtain ⟨q2, h⟩ := am_bif h
      obtain ⟨q3, h_q3, h⟩ := am_bind h
      have w_q3 : am_fr [] μ q3.2 := am_fr.trans am_fr.rf (am_fr.mono (w_fM_least h_q3) rfl)
      exact am_fr.trans w_q3 (hk21 h)
set_option maxRecDepth 20000 in
theorem w_fM_length : ∀ {μ : am_Mu} {out : Int32 × am_Mu}, fM_length μ = some out → am_fr [] μ out.2 := by
  intro μ out h
  unfold fM_length at h
  obtain ⟨q1, h⟩ := am_bif h
  exact am_fr.trans am_fr.rf (w_fM_length_21 am_F h)
set_option maxRecDepth 20000 in
theorem w_fM_tour : ∀ {a1 : Int32} {μ : am_Mu} {out : Int32 × am_Mu}, fM_tour a1 μ = some out → am_fr [(108, 88), (173, 999), (174, 999)] μ out.2 := by
  intro a1 μ out h
  unfold fM_tour at h
  obtain ⟨q1, h_q1, h⟩ := am_bind h
  have w_q1 : am_fr [(108, 88), (173, 999), (174, 999)] μ q1.2 := am_fr.trans am_fr.rf (am_fr.mono (w_fM_lies h_q1) rfl)
  rcases am_ite h with ⟨q2, h⟩ | ⟨q2, h⟩
  · skip
    obtain ⟨q3, h_q3, h⟩ := am_bind h
    have w_q3 : am_fr [(108, 88), (173, 999), (174, 999)] μ q3 := am_fr.trans w_q1 (am_fr.mono (w_fM_tours h_q3) rfl)
    rcases am_ite h with ⟨q4, h⟩ | ⟨q4, h⟩
    · skip
      obtain ⟨q5, h_q5, h⟩ := am_bind h
      have w_q5 : am_fr [(108, 88), (173, 999), (174, 999)] μ q5.2 := am_fr.trans w_q3 (am_fr.mono (w_fM_length h_q5) rfl)
      cases h
      exact w_q5
    · skip
      cases h
      exact w_q3
  · skip
    cases h
    exact w_q1
set_option maxRecDepth 20000 in
theorem w_fM_stop_105 : ∀ {a4 : Int32} {μ : am_Mu} {out : Int32 × am_Mu}, fM_stop_105 a4 μ = some out → am_fr [(108, 88), (173, 999), (174, 999)] μ out.2 := by
  intro a4 μ out h
  unfold fM_stop_105 at h
  obtain ⟨q1, h⟩ := am_bif h
  cases h
  exact am_fr.rf
set_option maxRecDepth 20000 in
theorem w_fM_stop_59 : ∀ n : Nat, ∀ {a2 : Int32} {a3 : Int32} {a4 : Int32} {a5 : Int32} {μ : am_Mu} {out : Int32 × am_Mu}, fM_stop_59 n a2 a3 a4 a5 μ = some out → am_fr [(108, 88), (173, 999), (174, 999)] μ out.2 := by
  intro n
  induction n with
  | zero => intros; contradiction
  | succ n ih =>
    have hk59 : ∀ {a2 : Int32} {a3 : Int32} {a4 : Int32} {a5 : Int32} {μ : am_Mu} {out : Int32 × am_Mu}, (fM_stop_59 n) a2 a3 a4 a5 μ = some out → am_fr [(108, 88), (173, 999), (174, 999)] μ out.2 := ih
    intro a2 a3 a4 a5 μ out h
    unfold fM_stop_59 at h
    rcases am_ite h with ⟨q1, h⟩ | ⟨q1, h⟩
    · skip
      exact am_fr.trans am_fr.rf (w_fM_stop_105 h)
    · skip
      obtain ⟨q2, h⟩ := am_bif h
      obtain ⟨q3, h_q3, h⟩ := am_bind h
      have w_q3 : am_fr [(108, 88), (173, 999), (174, 999)] μ q3.2 := am_fr.trans am_fr.rf (am_fr.mono (w_fM_beginsAt h_q3) rfl)
      exact am_fr.trans w_q3 (hk59 h)
set_option maxRecDepth 20000 in
theorem w_fM_stop : ∀ {a1 : Int32} {a2 : Int32} {μ : am_Mu} {out : Int32 × am_Mu}, fM_stop a1 a2 μ = some out → am_fr [(108, 88), (173, 999), (174, 999)] μ out.2 := by
  intro a1 a2 μ out h
  unfold fM_stop at h
  obtain ⟨q1, h_q1, h⟩ := am_bind h
  have w_q1 : am_fr [(108, 88), (173, 999), (174, 999)] μ q1.2 := am_fr.trans am_fr.rf (am_fr.mono (w_fM_lies h_q1) rfl)
  rcases am_ite h with ⟨q2, h⟩ | ⟨q2, h⟩
  · skip
    cases h
    exact w_q1
  · skip
    rcases am_ite h with ⟨q3, h⟩ | ⟨q3, h⟩
    · skip
      obtain ⟨q4, h_q4, h⟩ := am_bind h
      have w_q4 : am_fr [(108, 88), (173, 999), (174, 999)] μ q4 := am_fr.trans w_q1 (am_fr.mono (w_fM_tours h_q4) rfl)
      rcases am_ite h with ⟨q5, h⟩ | ⟨q5, h⟩
      · skip
        obtain ⟨q6, h_q6, h⟩ := am_bind h
        have w_q6 : am_fr [(108, 88), (173, 999), (174, 999)] μ q6.2 := am_fr.trans w_q4 (am_fr.mono (w_fM_length h_q6) rfl)
        obtain ⟨q7, h_q7, h⟩ := am_bind h
        have w_q7 : am_fr [(108, 88), (173, 999), (174, 999)] μ q7.2 := am_fr.trans w_q6 (am_fr.mono (w_fM_beginsAt h_q7) rfl)
        exact am_fr.trans w_q7 (w_fM_stop_59 am_F h)
      · skip
        cases h
        exact w_q4
    · skip
      cases h
      exact w_q1
set_option maxRecDepth 20000 in
theorem w_fM_word : ∀ {a1 : Int32} {a2 : Int32} {a3 : Int32} {a4 : Int32} {μ : am_Mu} {out : Int32 × am_Mu}, fM_word a1 a2 a3 a4 μ = some out → am_fr [(175, 999)] μ out.2 := by
  intro a1 a2 a3 a4 μ out h
  unfold fM_word at h
  obtain ⟨q1, h_q1, h⟩ := am_bind h
  have w_q1 : am_fr [(175, 999)] μ q1.2 := am_fr.trans am_fr.rf (am_fr.mono (w_fM_lies h_q1) rfl)
  rcases am_ite h with ⟨q2, h⟩ | ⟨q2, h⟩
  · skip
    cases h
    exact w_q1
  · skip
    obtain ⟨q3, h_q3, h⟩ := am_bind h
    have w_q3 : am_fr [(175, 999)] μ q3.2 := am_fr.trans w_q1 (am_fr.mono (w_fM_isThing h_q3) rfl)
    rcases am_ite h with ⟨q4, h⟩ | ⟨q4, h⟩
    · skip
      cases h
      exact w_q3
    · skip
      obtain ⟨q5, h_q5, h⟩ := am_bind h
      have w_q5 : am_fr [(175, 999)] μ q5.2 := am_fr.trans w_q3 (am_fr.mono (w_fM_isMark h_q5) rfl)
      rcases am_ite h with ⟨q6, h⟩ | ⟨q6, h⟩
      · skip
        rcases am_ite h with ⟨q7, h⟩ | ⟨q7, h⟩
        · skip
          obtain ⟨q8, h⟩ := am_bif h
          cases h
          exact (am_fr.up w_q5 rfl)
        · skip
          obtain ⟨q9, h⟩ := am_bif h
          cases h
          exact (am_fr.up w_q5 rfl)
      · skip
        cases h
        exact w_q5
set_option maxRecDepth 20000 in
theorem w_fM_believed_102 : ∀ {a3 : Int32} {a4 : Int32} {μ : am_Mu} {out : Int32 × am_Mu}, fM_believed_102 a3 a4 μ = some out → am_fr [] μ out.2 := by
  intro a3 a4 μ out h
  unfold fM_believed_102 at h
  rcases am_ite h with ⟨q1, h⟩ | ⟨q1, h⟩
  · skip
    rcases am_ite h with ⟨q2, h⟩ | ⟨q2, h⟩
    · skip
      cases h
      exact am_fr.rf
    · skip
      cases h
      exact am_fr.rf
  · skip
    cases h
    exact am_fr.rf
set_option maxRecDepth 20000 in
theorem w_fM_believed_93 {k25 : Int32 → Int32 → Int32 → Int32 → Int32 → am_Mu → Option (Int32 × am_Mu)} (hk25 : ∀ {a1 : Int32} {a2 : Int32} {a3 : Int32} {a4 : Int32} {a5 : Int32} {μ : am_Mu} {out : Int32 × am_Mu}, k25 a1 a2 a3 a4 a5 μ = some out → am_fr [] μ out.2) : ∀ {a1 : Int32} {a2 : Int32} {a3 : Int32} {a5 : Int32} {s0 : Int32} {s1 : Int32} {μ : am_Mu} {out : Int32 × am_Mu}, fM_believed_93 k25 a1 a2 a3 a5 s0 s1 μ = some out → am_fr [] μ out.2 := by
  intro a1 a2 a3 a5 s0 s1 μ out h
  unfold fM_believed_93 at h
  exact am_fr.trans am_fr.rf (hk25 h)
set_option maxRecDepth 20000 in
theorem w_fM_believed_72 {k25 : Int32 → Int32 → Int32 → Int32 → Int32 → am_Mu → Option (Int32 × am_Mu)} (hk25 : ∀ {a1 : Int32} {a2 : Int32} {a3 : Int32} {a4 : Int32} {a5 : Int32} {μ : am_Mu} {out : Int32 × am_Mu}, k25 a1 a2 a3 a4 a5 μ = some out → am_fr [] μ out.2) : ∀ {a1 : Int32} {a2 : Int32} {a4 : Int32} {a5 : Int32} {a6 : Int32} {s0 : Int32} {s1 : Int32} {μ : am_Mu} {out : Int32 × am_Mu}, fM_believed_72 k25 a1 a2 a4 a5 a6 s0 s1 μ = some out → am_fr [] μ out.2 := by
  intro a1 a2 a4 a5 a6 s0 s1 μ out h
  unfold fM_believed_72 at h
  rcases am_ite h with ⟨q1, h⟩ | ⟨q1, h⟩
  · skip
    exact am_fr.trans am_fr.rf (w_fM_believed_93 hk25 h)
  · skip
    obtain ⟨q2, h⟩ := am_bif h
    exact am_fr.trans am_fr.rf (w_fM_believed_93 hk25 h)
set_option maxRecDepth 20000 in
theorem w_fM_believed_25 : ∀ n : Nat, ∀ {a1 : Int32} {a2 : Int32} {a3 : Int32} {a4 : Int32} {a5 : Int32} {μ : am_Mu} {out : Int32 × am_Mu}, fM_believed_25 n a1 a2 a3 a4 a5 μ = some out → am_fr [] μ out.2 := by
  intro n
  induction n with
  | zero => intros; contradiction
  | succ n ih =>
    have hk25 : ∀ {a1 : Int32} {a2 : Int32} {a3 : Int32} {a4 : Int32} {a5 : Int32} {μ : am_Mu} {out : Int32 × am_Mu}, (fM_believed_25 n) a1 a2 a3 a4 a5 μ = some out → am_fr [] μ out.2 := ih
    intro a1 a2 a3 a4 a5 μ out h
    unfold fM_believed_25 at h
    rcases am_ite h with ⟨q1, h⟩ | ⟨q1, h⟩
    · skip
      exact am_fr.trans am_fr.rf (w_fM_believed_102 h)
    · skip
      obtain ⟨q2, h⟩ := am_bif h
      rcases am_ite h with ⟨q3, h⟩ | ⟨q3, h⟩
      · skip
        exact am_fr.trans am_fr.rf (w_fM_believed_72 hk25 h)
      · skip
        obtain ⟨q4, h⟩ := am_bif h
        exact am_fr.trans am_fr.rf (w_fM_believed_72 hk25 h)
set_option maxRecDepth 20000 in
theorem w_fM_believed : ∀ {a1 : Int32} {a2 : Int32} {μ : am_Mu} {out : Int32 × am_Mu}, fM_believed a1 a2 μ = some out → am_fr [] μ out.2 := by
  intro a1 a2 μ out h
  unfold fM_believed at h
  obtain ⟨q1, h_q1, h⟩ := am_bind h
  have w_q1 : am_fr [] μ q1.2 := am_fr.trans am_fr.rf (am_fr.mono (w_fM_isThing h_q1) rfl)
  rcases am_ite h with ⟨q2, h⟩ | ⟨q2, h⟩
  · skip
    cases h
    exact w_q1
  · skip
    obtain ⟨q3, h_q3, h⟩ := am_bind h
    have w_q3 : am_fr [] μ q3.2 := am_fr.trans w_q1 (am_fr.mono (w_fM_isMark h_q3) rfl)
    rcases am_ite h with ⟨q4, h⟩ | ⟨q4, h⟩
    · skip
      exact am_fr.trans w_q3 (w_fM_believed_25 am_F h)
    · skip
      cases h
      exact w_q3
set_option maxRecDepth 20000 in
theorem w_fM_look : ∀ {a1 : Int32} {a2 : Int32} {μ : am_Mu} {out : Int32 × am_Mu}, fM_look a1 a2 μ = some out → am_fr [] μ out.2 := by
  intro a1 a2 μ out h
  unfold fM_look at h
  obtain ⟨q1, h_q1, h⟩ := am_bind h
  have w_q1 : am_fr [] μ q1.2 := am_fr.trans am_fr.rf (am_fr.mono (w_fM_lies h_q1) rfl)
  rcases am_ite h with ⟨q2, h⟩ | ⟨q2, h⟩
  · skip
    rcases am_ite h with ⟨q3, h⟩ | ⟨q3, h⟩
    · skip
      obtain ⟨q4, h⟩ := am_bif h
      cases h
      exact w_q1
    rcases am_ite h with ⟨q5, h⟩ | ⟨q5, h⟩
    · skip
      obtain ⟨q6, h⟩ := am_bif h
      cases h
      exact w_q1
    rcases am_ite h with ⟨q7, h⟩ | ⟨q7, h⟩
    · skip
      obtain ⟨q8, h⟩ := am_bif h
      cases h
      exact w_q1
    rcases am_ite h with ⟨q9, h⟩ | ⟨q9, h⟩
    · skip
      obtain ⟨q10, h⟩ := am_bif h
      cases h
      exact w_q1
    rcases am_ite h with ⟨q11, h⟩ | ⟨q11, h⟩
    · skip
      obtain ⟨q12, h⟩ := am_bif h
      rcases am_ite h with ⟨q13, h⟩ | ⟨q13, h⟩
      · skip
        cases h
        exact w_q1
      · skip
        cases h
        exact w_q1
    rcases am_ite h with ⟨q14, h⟩ | ⟨q14, h⟩
    · skip
      obtain ⟨q15, h⟩ := am_bif h
      cases h
      exact w_q1
    rcases am_ite h with ⟨q16, h⟩ | ⟨q16, h⟩
    · skip
      obtain ⟨q17, h⟩ := am_bif h
      cases h
      exact w_q1
    cases h
    exact w_q1
  · skip
    cases h
    exact w_q1
set_option maxRecDepth 20000 in
theorem w_fM_quarrels_70 {k34 : Int32 → Int32 → am_Mu → Option (Int32 × am_Mu)} (hk34 : ∀ {a1 : Int32} {a2 : Int32} {μ : am_Mu} {out : Int32 × am_Mu}, k34 a1 a2 μ = some out → am_fr [(144, 999), (145, 999), (146, 999), (147, 999), (148, 999), (149, 999), (150, 999)] μ out.2) : ∀ {a2 : Int32} {s0 : Int32} {s1 : Int32} {μ : am_Mu} {out : Int32 × am_Mu}, fM_quarrels_70 k34 a2 s0 s1 μ = some out → am_fr [(144, 999), (145, 999), (146, 999), (147, 999), (148, 999), (149, 999), (150, 999)] μ out.2 := by
  intro a2 s0 s1 μ out h
  unfold fM_quarrels_70 at h
  exact am_fr.trans am_fr.rf (hk34 h)
set_option maxRecDepth 20000 in
theorem w_fM_quarrels_34 : ∀ n : Nat, ∀ {a1 : Int32} {a2 : Int32} {μ : am_Mu} {out : Int32 × am_Mu}, fM_quarrels_34 n a1 a2 μ = some out → am_fr [(144, 999), (145, 999), (146, 999), (147, 999), (148, 999), (149, 999), (150, 999)] μ out.2 := by
  intro n
  induction n with
  | zero => intros; contradiction
  | succ n ih =>
    have hk34 : ∀ {a1 : Int32} {a2 : Int32} {μ : am_Mu} {out : Int32 × am_Mu}, (fM_quarrels_34 n) a1 a2 μ = some out → am_fr [(144, 999), (145, 999), (146, 999), (147, 999), (148, 999), (149, 999), (150, 999)] μ out.2 := ih
    intro a1 a2 μ out h
    unfold fM_quarrels_34 at h
    rcases am_ite h with ⟨q1, h⟩ | ⟨q1, h⟩
    · skip
      cases h
      exact am_fr.rf
    · skip
      obtain ⟨q2, h⟩ := am_bif h
      obtain ⟨q3, h⟩ := am_bif h
      rcases am_ite h with ⟨q4, h⟩ | ⟨q4, h⟩
      · skip
        exact am_fr.trans am_fr.rf (w_fM_quarrels_70 hk34 h)
      · skip
        exact am_fr.trans am_fr.rf (w_fM_quarrels_70 hk34 h)
set_option maxRecDepth 20000 in
theorem w_fM_quarrels : ∀ {μ : am_Mu} {out : Int32 × am_Mu}, fM_quarrels μ = some out → am_fr [(144, 999), (145, 999), (146, 999), (147, 999), (148, 999), (149, 999), (150, 999)] μ out.2 := by
  intro μ out h
  unfold fM_quarrels at h
  obtain ⟨q1, h_q1, h⟩ := am_bind h
  have w_q1 : am_fr [(144, 999), (145, 999), (146, 999), (147, 999), (148, 999), (149, 999), (150, 999)] μ q1 := am_fr.trans am_fr.rf (am_fr.mono (w_fM_goes h_q1) rfl)
  obtain ⟨q2, h_q2, h⟩ := am_bind h
  have w_q2 : am_fr [(144, 999), (145, 999), (146, 999), (147, 999), (148, 999), (149, 999), (150, 999)] μ q2 := am_fr.trans w_q1 (am_fr.mono (w_fM_goes h_q2) rfl)
  exact am_fr.trans w_q2 (w_fM_quarrels_34 am_F h)
set_option maxRecDepth 20000 in
theorem w_fM_count : ∀ {a1 : Int32} {μ : am_Mu} {out : Int32 × am_Mu}, fM_count a1 μ = some out → am_fr [(144, 999), (145, 999), (146, 999), (147, 999), (148, 999), (149, 999), (150, 999)] μ out.2 := by
  intro a1 μ out h
  unfold fM_count at h
  rcases am_ite h with ⟨q1, h⟩ | ⟨q1, h⟩
  · skip
    cases h
    exact am_fr.rf
  rcases am_ite h with ⟨q2, h⟩ | ⟨q2, h⟩
  · skip
    cases h
    exact am_fr.rf
  rcases am_ite h with ⟨q3, h⟩ | ⟨q3, h⟩
  · skip
    cases h
    exact am_fr.rf
  rcases am_ite h with ⟨q4, h⟩ | ⟨q4, h⟩
  · skip
    cases h
    exact am_fr.rf
  rcases am_ite h with ⟨q5, h⟩ | ⟨q5, h⟩
  · skip
    cases h
    exact am_fr.rf
  rcases am_ite h with ⟨q6, h⟩ | ⟨q6, h⟩
  · skip
    cases h
    exact am_fr.rf
  rcases am_ite h with ⟨q7, h⟩ | ⟨q7, h⟩
  · skip
    cases h
    exact am_fr.rf
  rcases am_ite h with ⟨q8, h⟩ | ⟨q8, h⟩
  · skip
    cases h
    exact am_fr.rf
  rcases am_ite h with ⟨q9, h⟩ | ⟨q9, h⟩
  · skip
    cases h
    exact am_fr.rf
  rcases am_ite h with ⟨q10, h⟩ | ⟨q10, h⟩
  · skip
    cases h
    exact am_fr.rf
  rcases am_ite h with ⟨q11, h⟩ | ⟨q11, h⟩
  · skip
    cases h
    exact am_fr.rf
  rcases am_ite h with ⟨q12, h⟩ | ⟨q12, h⟩
  · skip
    cases h
    exact am_fr.rf
  rcases am_ite h with ⟨q13, h⟩ | ⟨q13, h⟩
  · skip
    cases h
    exact am_fr.rf
  rcases am_ite h with ⟨q14, h⟩ | ⟨q14, h⟩
  · skip
    obtain ⟨q15, h_q15, h⟩ := am_bind h
    have w_q15 : am_fr [(144, 999), (145, 999), (146, 999), (147, 999), (148, 999), (149, 999), (150, 999)] μ q15.2 := am_fr.trans am_fr.rf (am_fr.mono (w_fM_quarrels h_q15) rfl)
    cases h
    exact w_q15
  cases h
  exact am_fr.rf
