def fB_moon (a1 : Int32) (a2 : Int32) (μ : am_Mu) : Option (Int32 × am_Mu) := ((fB_isIn a1 1000 μ).bind fun q1 => (if ¬ q1.1 = 0 then ((fFeasts_monthOf a1 q1.2).bind fun q3 => (if a2 = 0 then some (q3.1, q3.2) else (if a2 = 1 then some ((q3.1 - (q3.1 / 12) * 12), q3.2) else (if a2 = 2 then ((fFeasts_beginOf q3.1 q3.2).bind fun q7 => some ((a1 - q7.1), q7.2)) else some ((-1), q3.2))))) else some ((-1), q1.2)))
set_option maxRecDepth 20000 in
theorem e_fB_moon (d : Nat) : ∀ {a1 : Int32} {a2 : Int32} {μ : am_Mu} {out : Int32 × am_Mu}, fB_moon a1 a2 μ = some out → am_Ex none (d + 2) 102 0 [.ref 0, .int a1, .int a2, .null] [] am_SH μ (some (.int out.1), am_SH, out.2) := by
  intro a1 a2 μ out h
  unfold fB_moon at h
  refine am_Ex.seg 2 4 [.ref 0, .int a1, .int a2, .null] [.int 1000, .int a1] μ (fun _ => rfl) ?_
  obtain ⟨q1, h_q1, h⟩ := am_bind h
  refine am_Ex.isk (na := 2) rfl (As := [.int a1, .int 1000]) rfl rfl rfl rfl rfl rfl (e_fB_isIn (d + 1) h_q1) ?_
  refine am_Ex.same 7 [.ref 0, .int a1, .int a2, .null] [.int q1.1] q1.2 rfl ?_
  rcases am_ite h with ⟨q2, h⟩ | ⟨q2, h⟩
  · refine am_Ex.if_ne_t rfl q2 ?_
    refine am_Ex.seg 1 13 [.ref 0, .int a1, .int a2, .null] [.int a1] q1.2 (fun _ => rfl) ?_
    obtain ⟨q3, h_q3, h⟩ := am_bind h
    refine am_Ex.isk (na := 1) rfl (As := [.int a1]) rfl rfl rfl rfl rfl rfl (e_fFeasts_monthOf (d + 0) h_q3) ?_
    refine am_Ex.same 16 [.ref 0, .int a1, .int a2, .null] [.int q3.1] q3.2 rfl ?_
    refine am_Ex.seg 2 18 [.ref 0, .int a1, .int a2, .int q3.1] [.int a2] q3.2 (fun _ => rfl) ?_
    rcases am_ite h with ⟨q4, h⟩ | ⟨q4, h⟩
    · refine am_Ex.tblIn 44 (v := 0) rfl q4 (by decide) rfl rfl ?_
      refine am_Ex.seg 1 45 [.ref 0, .int a1, .int a2, .int q3.1] [.int q3.1] q3.2 (fun _ => rfl) ?_
      cases h
      exact am_Ex.iret rfl rfl
    rcases am_ite h with ⟨q5, h⟩ | ⟨q5, h⟩
    · refine am_Ex.tblIn 46 (v := 1) rfl q5 (by decide) rfl rfl ?_
      refine am_Ex.seg 2 49 [.ref 0, .int a1, .int a2, .int q3.1] [.int 12, .int q3.1] q3.2 (fun _ => rfl) ?_
      refine am_Ex.irem rfl (by decide) ?_
      cases h
      exact am_Ex.iret rfl rfl
    rcases am_ite h with ⟨q6, h⟩ | ⟨q6, h⟩
    · refine am_Ex.tblIn 51 (v := 2) rfl q6 (by decide) rfl rfl ?_
      refine am_Ex.seg 2 53 [.ref 0, .int a1, .int a2, .int q3.1] [.int q3.1, .int a1] q3.2 (fun _ => rfl) ?_
      obtain ⟨q7, h_q7, h⟩ := am_bind h
      refine am_Ex.isk (na := 1) rfl (As := [.int q3.1]) rfl rfl rfl rfl rfl rfl (e_fFeasts_beginOf (d + 1) h_q7) ?_
      refine am_Ex.same 56 [.ref 0, .int a1, .int a2, .int q3.1] [.int q7.1, .int a1] q7.2 rfl ?_
      refine am_Ex.seg 1 57 [.ref 0, .int a1, .int a2, .int q3.1] [.int (a1 - q7.1)] q7.2 (fun _ => rfl) ?_
      cases h
      exact am_Ex.iret rfl rfl
    refine am_Ex.tblOut 58 rfl (by have := lv_neT q4 (a := 0) rfl; have := lv_neT q5 (a := 1) rfl; have := lv_neT q6 (a := 2) rfl; omega) rfl ?_
    refine am_Ex.seg 1 59 [.ref 0, .int a1, .int a2, .int q3.1] [.int (-1)] q3.2 (fun _ => rfl) ?_
    cases h
    exact am_Ex.iret rfl rfl
  · refine am_Ex.if_ne_f rfl (Decidable.not_not.mp q2) ?_
    refine am_Ex.seg 1 11 [.ref 0, .int a1, .int a2, .null] [.int (-1)] q1.2 (fun _ => rfl) ?_
    cases h
    exact am_Ex.iret rfl rfl
def fB_feed (a1 : Int32) (a2 : Int32) (a3 : Int32) (a4 : Int32) (a5 : Int32) (μ : am_Mu) : Option (Int32 × am_Mu) := ((fLawReader_append a1 a2 a3 a4 a5 μ).bind fun q1 => some (q1.1, q1.2))
set_option maxRecDepth 20000 in
theorem e_fB_feed (d : Nat) : ∀ {a1 : Int32} {a2 : Int32} {a3 : Int32} {a4 : Int32} {a5 : Int32} {μ : am_Mu} {out : Int32 × am_Mu}, fB_feed a1 a2 a3 a4 a5 μ = some out → am_Ex none (d + 2) 103 0 [.ref 0, .int a1, .int a2, .int a3, .int a4, .int a5] [] am_SH μ (some (.int out.1), am_SH, out.2) := by
  intro a1 a2 a3 a4 a5 μ out h
  unfold fB_feed at h
  refine am_Ex.seg 7 11 [.ref 0, .int a1, .int a2, .int a3, .int a4, .int a5] [.int a5, .int a4, .int a3, .int a2, .int a1, .ref 5] μ (fun _ => rfl) ?_
  obtain ⟨q1, h_q1, h⟩ := am_bind h
  refine am_Ex.ivk (na := 6) (b := 5) (As' := [.int a1, .int a2, .int a3, .int a4, .int a5]) rfl rfl rfl rfl rfl rfl rfl rfl rfl (e_fLawReader_append (d + 0) h_q1) ?_
  refine am_Ex.same 14 [.ref 0, .int a1, .int a2, .int a3, .int a4, .int a5] [.int q1.1] q1.2 rfl ?_
  cases h
  exact am_Ex.iret rfl rfl
def fB_law (a1 : Int32) (a2 : Int32) (a3 : Int32) (μ : am_Mu) : Option (Int32 × am_Mu) := ((fB_isIn a1 2 μ).bind fun q1 => (if q1.1 = 0 then some ((-1), q1.2) else (if a3 < 0 then some ((-1), q1.2) else (if a3 ≤ (q1.2 5 2) then ((fLawReader_readTape a3 q1.2).bind fun q5 => (if ¬ q5.1 = 0 then some (q5.1, q5.2) else ((fJudge_lawOf a1 a2 q5.2).bind fun q7 => (bif am_isLaw q7.1 then ((fLaw_become q7.1 7 q7.2).bind fun q8 => some (q5.1, q8)) else none)))) else some ((-1), q1.2)))))
set_option maxRecDepth 20000 in
theorem e_fB_law (d : Nat) : ∀ {a1 : Int32} {a2 : Int32} {a3 : Int32} {μ : am_Mu} {out : Int32 × am_Mu}, fB_law a1 a2 a3 μ = some out → am_Ex none (d + 36) 104 0 [.ref 0, .int a1, .int a2, .int a3, .null] [] am_SH μ (some (.int out.1), am_SH, out.2) := by
  intro a1 a2 a3 μ out h
  unfold fB_law at h
  refine am_Ex.seg 2 2 [.ref 0, .int a1, .int a2, .int a3, .null] [.int 2, .int a1] μ (fun _ => rfl) ?_
  obtain ⟨q1, h_q1, h⟩ := am_bind h
  refine am_Ex.isk (na := 2) rfl (As := [.int a1, .int 2]) rfl rfl rfl rfl rfl rfl (e_fB_isIn (d + 35) h_q1) ?_
  refine am_Ex.same 5 [.ref 0, .int a1, .int a2, .int a3, .null] [.int q1.1] q1.2 rfl ?_
  rcases am_ite h with ⟨q2, h⟩ | ⟨q2, h⟩
  · refine am_Ex.if_eq_t rfl q2 ?_
    refine am_Ex.seg 1 24 [.ref 0, .int a1, .int a2, .int a3, .null] [.int (-1)] q1.2 (fun _ => rfl) ?_
    cases h
    exact am_Ex.iret rfl rfl
  · refine am_Ex.if_eq_f rfl q2 ?_
    refine am_Ex.seg 1 9 [.ref 0, .int a1, .int a2, .int a3, .null] [.int a3] q1.2 (fun _ => rfl) ?_
    rcases am_ite h with ⟨q3, h⟩ | ⟨q3, h⟩
    · refine am_Ex.if_lt_t rfl q3 ?_
      refine am_Ex.seg 1 24 [.ref 0, .int a1, .int a2, .int a3, .null] [.int (-1)] q1.2 (fun _ => rfl) ?_
      cases h
      exact am_Ex.iret rfl rfl
    · refine am_Ex.if_lt_f rfl q3 ?_
      refine am_Ex.seg 4 20 [.ref 0, .int a1, .int a2, .int a3, .null] [.int (q1.2 5 2), .int a3] q1.2 (fun _ => rfl) ?_
      rcases am_ite h with ⟨q4, h⟩ | ⟨q4, h⟩
      · refine am_Ex.icmp_le_t rfl q4 ?_
        refine am_Ex.seg 3 30 [.ref 0, .int a1, .int a2, .int a3, .null] [.int a3, .ref 5] q1.2 (fun _ => rfl) ?_
        obtain ⟨q5, h_q5, h⟩ := am_bind h
        refine am_Ex.ivk (na := 2) (b := 5) (As' := [.int a3]) rfl rfl rfl rfl rfl rfl rfl rfl rfl (e_fLawReader_readTape (d + 0) h_q5) ?_
        refine am_Ex.same 33 [.ref 0, .int a1, .int a2, .int a3, .null] [.int q5.1] q5.2 rfl ?_
        refine am_Ex.seg 2 37 [.ref 0, .int a1, .int a2, .int a3, .int q5.1] [.int q5.1] q5.2 (fun _ => rfl) ?_
        rcases am_ite h with ⟨q6, h⟩ | ⟨q6, h⟩
        · refine am_Ex.if_ne_t rfl q6 ?_
          refine am_Ex.seg 1 61 [.ref 0, .int a1, .int a2, .int a3, .int q5.1] [.int q5.1] q5.2 (fun _ => rfl) ?_
          cases h
          exact am_Ex.iret rfl rfl
        · refine am_Ex.if_ne_f rfl (Decidable.not_not.mp q6) ?_
          refine am_Ex.seg 4 46 [.ref 0, .int a1, .int a2, .int a3, .int q5.1] [.int a2, .int a1, .ref 27] q5.2 (fun _ => rfl) ?_
          obtain ⟨q7, h_q7, h⟩ := am_bind h
          refine am_Ex.ivk (na := 3) (b := 27) (As' := [.int a1, .int a2]) rfl rfl rfl rfl rfl rfl rfl rfl rfl (e_fJudge_lawOf (d + 35) h_q7) ?_
          refine am_Ex.same 49 [.ref 0, .int a1, .int a2, .int a3, .int q5.1] [.ref q7.1] q7.2 rfl ?_
          refine am_Ex.seg 3 56 [.ref 0, .int a1, .int a2, .int a3, .int q5.1] [.ref 7, .ref q7.1] q7.2 (fun _ => rfl) ?_
          obtain ⟨g_q7_1, h⟩ := am_bif h
          obtain ⟨q8, h_q8, h⟩ := am_bind h
          refine am_Ex.ivk (na := 2) (b := q7.1) (As' := [.ref 7]) rfl rfl rfl rfl rfl rfl rfl (am_isLaw_0 g_q7_1) rfl (e_fLaw_become (d + 34) h_q8) ?_
          refine am_Ex.same 59 [.ref 0, .int a1, .int a2, .int a3, .int q5.1] [] q8 rfl ?_
          refine am_Ex.seg 1 61 [.ref 0, .int a1, .int a2, .int a3, .int q5.1] [.int q5.1] q8 (fun _ => rfl) ?_
          cases h
          exact am_Ex.iret rfl rfl
      · refine am_Ex.icmp_le_f rfl q4 ?_
        refine am_Ex.seg 1 24 [.ref 0, .int a1, .int a2, .int a3, .null] [.int (-1)] q1.2 (fun _ => rfl) ?_
        cases h
        exact am_Ex.iret rfl rfl
def fB_rules (a1 : Int32) (a2 : Int32) (μ : am_Mu) : Option (Int32 × am_Mu) := ((fB_isIn a1 2 μ).bind fun q1 => (if ¬ q1.1 = 0 then ((fJudge_lawOf a1 a2 q1.2).bind fun q3 => (bif am_isLaw q3.1 then some ((q3.2 q3.1 5), q3.2) else none)) else some ((-1), q1.2)))
set_option maxRecDepth 20000 in
theorem e_fB_rules (d : Nat) : ∀ {a1 : Int32} {a2 : Int32} {μ : am_Mu} {out : Int32 × am_Mu}, fB_rules a1 a2 μ = some out → am_Ex none (d + 1) 105 0 [.ref 0, .int a1, .int a2] [] am_SH μ (some (.int out.1), am_SH, out.2) := by
  intro a1 a2 μ out h
  unfold fB_rules at h
  refine am_Ex.seg 2 2 [.ref 0, .int a1, .int a2] [.int 2, .int a1] μ (fun _ => rfl) ?_
  obtain ⟨q1, h_q1, h⟩ := am_bind h
  refine am_Ex.isk (na := 2) rfl (As := [.int a1, .int 2]) rfl rfl rfl rfl rfl rfl (e_fB_isIn (d + 0) h_q1) ?_
  refine am_Ex.same 5 [.ref 0, .int a1, .int a2] [.int q1.1] q1.2 rfl ?_
  rcases am_ite h with ⟨q2, h⟩ | ⟨q2, h⟩
  · refine am_Ex.if_ne_t rfl q2 ?_
    refine am_Ex.seg 4 16 [.ref 0, .int a1, .int a2] [.int a2, .int a1, .ref 27] q1.2 (fun _ => rfl) ?_
    obtain ⟨q3, h_q3, h⟩ := am_bind h
    refine am_Ex.ivk (na := 3) (b := 27) (As' := [.int a1, .int a2]) rfl rfl rfl rfl rfl rfl rfl rfl rfl (e_fJudge_lawOf (d + 0) h_q3) ?_
    refine am_Ex.same 19 [.ref 0, .int a1, .int a2] [.ref q3.1] q3.2 rfl ?_
    obtain ⟨g_q3_1, h⟩ := am_bif h
    refine am_Ex.getint rfl (am_isLaw_0 g_q3_1) rfl rfl ?_
    cases h
    exact am_Ex.iret rfl rfl
  · refine am_Ex.if_ne_f rfl (Decidable.not_not.mp q2) ?_
    refine am_Ex.seg 1 9 [.ref 0, .int a1, .int a2] [.int (-1)] q1.2 (fun _ => rfl) ?_
    cases h
    exact am_Ex.iret rfl rfl
def fB_thing (a1 : Int32) (μ : am_Mu) : Option (Int32 × am_Mu) := ((fLedger_addThing a1 μ).bind fun q1 => some (q1.1, q1.2))
set_option maxRecDepth 20000 in
theorem e_fB_thing (d : Nat) : ∀ {a1 : Int32} {μ : am_Mu} {out : Int32 × am_Mu}, fB_thing a1 μ = some out → am_Ex none (d + 2) 106 0 [.ref 0, .int a1] [] am_SH μ (some (.int out.1), am_SH, out.2) := by
  intro a1 μ out h
  unfold fB_thing at h
  refine am_Ex.seg 3 5 [.ref 0, .int a1] [.int a1, .ref 13] μ (fun _ => rfl) ?_
  obtain ⟨q1, h_q1, h⟩ := am_bind h
  refine am_Ex.ivk (na := 2) (b := 13) (As' := [.int a1]) rfl rfl rfl rfl rfl rfl rfl rfl rfl (e_fLedger_addThing (d + 0) h_q1) ?_
  refine am_Ex.same 8 [.ref 0, .int a1] [.int q1.1] q1.2 rfl ?_
  cases h
  exact am_Ex.iret rfl rfl
def fB_isTold_19 (μ : am_Mu) : Option (Int32 × am_Mu) := some (0, μ)
def fB_isTold (a1 : Int32) (μ : am_Mu) : Option (Int32 × am_Mu) := ((fB_isMinute a1 μ).bind fun q1 => (if q1.1 = 0 then fB_isTold_19 q1.2 else (if (q1.2 0 11) < a1 then fB_isTold_19 q1.2 else some (1, q1.2))))
set_option maxRecDepth 20000 in
theorem e_fB_isTold_19 (d : Nat) : ∀ {w0 w1 : Value} {μ : am_Mu} {out : Int32 × am_Mu}, fB_isTold_19 μ = some out → am_Ex none (d + 2) 138 19 [w0, w1] [] am_SH μ (some (.int out.1), am_SH, out.2) := by
  intro w0 w1 μ out h
  unfold fB_isTold_19 at h
  refine am_Ex.seg 1 20 [w0, w1] [.int 0] μ (fun _ => rfl) ?_
  cases h
  exact am_Ex.zret rfl rfl (by decide)
set_option maxRecDepth 20000 in
theorem e_fB_isTold (d : Nat) : ∀ {a1 : Int32} {μ : am_Mu} {out : Int32 × am_Mu}, fB_isTold a1 μ = some out → am_Ex none (d + 2) 138 0 [.ref 0, .int a1] [] am_SH μ (some (.int out.1), am_SH, out.2) := by
  intro a1 μ out h
  unfold fB_isTold at h
  refine am_Ex.seg 1 1 [.ref 0, .int a1] [.int a1] μ (fun _ => rfl) ?_
  obtain ⟨q1, h_q1, h⟩ := am_bind h
  refine am_Ex.isk (na := 1) rfl (As := [.int a1]) rfl rfl rfl rfl rfl rfl (e_fB_isMinute (d + 0) h_q1) ?_
  refine am_Ex.same 4 [.ref 0, .int a1] [.int q1.1] q1.2 rfl ?_
  rcases am_ite h with ⟨q2, h⟩ | ⟨q2, h⟩
  · refine am_Ex.if_eq_t rfl q2 ?_
    exact e_fB_isTold_19 d h
  · refine am_Ex.if_eq_f rfl q2 ?_
    refine am_Ex.seg 3 12 [.ref 0, .int a1] [.int (q1.2 0 11), .int a1] q1.2 (fun _ => rfl) ?_
    rcases am_ite h with ⟨q3, h⟩ | ⟨q3, h⟩
    · refine am_Ex.icmp_gt_t rfl q3 ?_
      exact e_fB_isTold_19 d h
    · refine am_Ex.icmp_gt_f rfl q3 ?_
      refine am_Ex.seg 1 16 [.ref 0, .int a1] [.int 1] q1.2 (fun _ => rfl) ?_
      refine am_Ex.goto rfl ?_
      cases h
      exact am_Ex.zret rfl rfl (by decide)
def fB_act (a1 : Int32) (a2 : Int32) (a3 : Int32) (a4 : Int32) (a5 : Int32) (μ : am_Mu) : Option (Int32 × am_Mu) := ((fB_isTold a4 μ).bind fun q1 => (if ¬ q1.1 = 0 then ((fLedger_addAct a1 a2 a3 a4 a5 (q1.2 0 11) q1.2).bind fun q3 => some (q3.1, q3.2)) else some ((-1), q1.2)))
set_option maxRecDepth 20000 in
theorem e_fB_act (d : Nat) : ∀ {a1 : Int32} {a2 : Int32} {a3 : Int32} {a4 : Int32} {a5 : Int32} {μ : am_Mu} {out : Int32 × am_Mu}, fB_act a1 a2 a3 a4 a5 μ = some out → am_Ex none (d + 5) 107 0 [.ref 0, .int a1, .int a2, .int a3, .int a4, .int a5] [] am_SH μ (some (.int out.1), am_SH, out.2) := by
  intro a1 a2 a3 a4 a5 μ out h
  unfold fB_act at h
  refine am_Ex.seg 2 3 [.ref 0, .int a1, .int a2, .int a3, .int a4, .int a5] [.int a4, .ref 0] μ (fun _ => rfl) ?_
  obtain ⟨q1, h_q1, h⟩ := am_bind h
  refine am_Ex.ivk (na := 2) (b := 0) (As' := [.int a4]) rfl rfl rfl rfl rfl rfl rfl rfl rfl (e_fB_isTold (d + 2) h_q1) ?_
  refine am_Ex.same 6 [.ref 0, .int a1, .int a2, .int a3, .int a4, .int a5] [.int q1.1] q1.2 rfl ?_
  rcases am_ite h with ⟨q2, h⟩ | ⟨q2, h⟩
  · refine am_Ex.if_ne_t rfl q2 ?_
    refine am_Ex.seg 9 26 [.ref 0, .int a1, .int a2, .int a3, .int a4, .int a5] [.int (q1.2 0 11), .int a5, .int a4, .int a3, .int a2, .int a1, .ref 13] q1.2 (fun _ => rfl) ?_
    obtain ⟨q3, h_q3, h⟩ := am_bind h
    refine am_Ex.ivk (na := 7) (b := 13) (As' := [.int a1, .int a2, .int a3, .int a4, .int a5, .int (q1.2 0 11)]) rfl rfl rfl rfl rfl rfl rfl rfl rfl (e_fLedger_addAct (d + 0) h_q3) ?_
    refine am_Ex.same 29 [.ref 0, .int a1, .int a2, .int a3, .int a4, .int a5] [.int q3.1] q3.2 rfl ?_
    cases h
    exact am_Ex.iret rfl rfl
  · refine am_Ex.if_ne_f rfl (Decidable.not_not.mp q2) ?_
    refine am_Ex.seg 1 10 [.ref 0, .int a1, .int a2, .int a3, .int a4, .int a5] [.int (-1)] q1.2 (fun _ => rfl) ?_
    cases h
    exact am_Ex.iret rfl rfl
def fB_strike (a1 : Int32) (μ : am_Mu) : Option (Int32 × am_Mu) := ((fLedger_strikeAct a1 (μ 0 11) μ).bind fun q1 => (if q1.1 &&& 1 = q1.1 then some (q1.1, q1.2) else none))
set_option maxRecDepth 20000 in
theorem e_fB_strike (d : Nat) : ∀ {a1 : Int32} {μ : am_Mu} {out : Int32 × am_Mu}, fB_strike a1 μ = some out → am_Ex none (d + 2) 108 0 [.ref 0, .int a1] [] am_SH μ (some (.int out.1), am_SH, out.2) := by
  intro a1 μ out h
  unfold fB_strike at h
  refine am_Ex.seg 5 9 [.ref 0, .int a1] [.int (μ 0 11), .int a1, .ref 13] μ (fun _ => rfl) ?_
  obtain ⟨q1, h_q1, h⟩ := am_bind h
  refine am_Ex.ivk (na := 3) (b := 13) (As' := [.int a1, .int (μ 0 11)]) rfl rfl rfl rfl rfl rfl rfl rfl rfl (e_fLedger_strikeAct (d + 0) h_q1) ?_
  refine am_Ex.same 12 [.ref 0, .int a1] [.int q1.1] q1.2 rfl ?_
  obtain ⟨q2, h⟩ := am_ifp h
  cases h
  exact am_Ex.zret rfl rfl q2
def fB_mistake (a1 : Int32) (a2 : Int32) (a3 : Int32) (μ : am_Mu) : Option (Int32 × am_Mu) := ((fB_isTold a3 μ).bind fun q1 => (if ¬ q1.1 = 0 then ((fLedger_addMistake a1 a2 a3 (q1.2 0 11) q1.2).bind fun q3 => some (q3.1, q3.2)) else some ((-1), q1.2)))
set_option maxRecDepth 20000 in
theorem e_fB_mistake (d : Nat) : ∀ {a1 : Int32} {a2 : Int32} {a3 : Int32} {μ : am_Mu} {out : Int32 × am_Mu}, fB_mistake a1 a2 a3 μ = some out → am_Ex none (d + 5) 109 0 [.ref 0, .int a1, .int a2, .int a3] [] am_SH μ (some (.int out.1), am_SH, out.2) := by
  intro a1 a2 a3 μ out h
  unfold fB_mistake at h
  refine am_Ex.seg 2 2 [.ref 0, .int a1, .int a2, .int a3] [.int a3, .ref 0] μ (fun _ => rfl) ?_
  obtain ⟨q1, h_q1, h⟩ := am_bind h
  refine am_Ex.ivk (na := 2) (b := 0) (As' := [.int a3]) rfl rfl rfl rfl rfl rfl rfl rfl rfl (e_fB_isTold (d + 2) h_q1) ?_
  refine am_Ex.same 5 [.ref 0, .int a1, .int a2, .int a3] [.int q1.1] q1.2 rfl ?_
  rcases am_ite h with ⟨q2, h⟩ | ⟨q2, h⟩
  · refine am_Ex.if_ne_t rfl q2 ?_
    refine am_Ex.seg 7 21 [.ref 0, .int a1, .int a2, .int a3] [.int (q1.2 0 11), .int a3, .int a2, .int a1, .ref 13] q1.2 (fun _ => rfl) ?_
    obtain ⟨q3, h_q3, h⟩ := am_bind h
    refine am_Ex.ivk (na := 5) (b := 13) (As' := [.int a1, .int a2, .int a3, .int (q1.2 0 11)]) rfl rfl rfl rfl rfl rfl rfl rfl rfl (e_fLedger_addMistake (d + 0) h_q3) ?_
    refine am_Ex.same 24 [.ref 0, .int a1, .int a2, .int a3] [.int q3.1] q3.2 rfl ?_
    cases h
    exact am_Ex.iret rfl rfl
  · refine am_Ex.if_ne_f rfl (Decidable.not_not.mp q2) ?_
    refine am_Ex.seg 1 9 [.ref 0, .int a1, .int a2, .int a3] [.int (-1)] q1.2 (fun _ => rfl) ?_
    cases h
    exact am_Ex.iret rfl rfl
def fB_canAsk_51 (μ : am_Mu) : Option (Int32 × am_Mu) := some (0, μ)
def fB_canAsk (a1 : Int32) (a2 : Int32) (a3 : Int32) (a4 : Int32) (a5 : Int32) (μ : am_Mu) : Option (Int32 × am_Mu) := ((fB_isIn a1 2 μ).bind fun q1 => (if q1.1 = 0 then fB_canAsk_51 q1.2 else ((fB_isIn a2 (q1.2 13 14) q1.2).bind fun q3 => (if q3.1 = 0 then fB_canAsk_51 q3.2 else ((fB_isIn a3 8 q3.2).bind fun q5 => (if q5.1 = 0 then fB_canAsk_51 q5.2 else ((fB_isMinute a4 q5.2).bind fun q7 => (if q7.1 = 0 then fB_canAsk_51 q7.2 else ((fB_isMinute a5 q7.2).bind fun q9 => (if q9.1 = 0 then fB_canAsk_51 q9.2 else some (1, q9.2)))))))))))
set_option maxRecDepth 20000 in
theorem e_fB_canAsk_51 (d : Nat) : ∀ {w0 w1 w2 w3 w4 w5 : Value} {μ : am_Mu} {out : Int32 × am_Mu}, fB_canAsk_51 μ = some out → am_Ex none (d + 2) 140 51 [w0, w1, w2, w3, w4, w5] [] am_SH μ (some (.int out.1), am_SH, out.2) := by
  intro w0 w1 w2 w3 w4 w5 μ out h
  unfold fB_canAsk_51 at h
  refine am_Ex.seg 1 52 [w0, w1, w2, w3, w4, w5] [.int 0] μ (fun _ => rfl) ?_
  cases h
  exact am_Ex.zret rfl rfl (by decide)
set_option maxRecDepth 20000 in
theorem e_fB_canAsk (d : Nat) : ∀ {a1 : Int32} {a2 : Int32} {a3 : Int32} {a4 : Int32} {a5 : Int32} {μ : am_Mu} {out : Int32 × am_Mu}, fB_canAsk a1 a2 a3 a4 a5 μ = some out → am_Ex none (d + 2) 140 0 [.ref 0, .int a1, .int a2, .int a3, .int a4, .int a5] [] am_SH μ (some (.int out.1), am_SH, out.2) := by
  intro a1 a2 a3 a4 a5 μ out h
  unfold fB_canAsk at h
  refine am_Ex.seg 2 2 [.ref 0, .int a1, .int a2, .int a3, .int a4, .int a5] [.int 2, .int a1] μ (fun _ => rfl) ?_
  obtain ⟨q1, h_q1, h⟩ := am_bind h
  refine am_Ex.isk (na := 2) rfl (As := [.int a1, .int 2]) rfl rfl rfl rfl rfl rfl (e_fB_isIn (d + 1) h_q1) ?_
  refine am_Ex.same 5 [.ref 0, .int a1, .int a2, .int a3, .int a4, .int a5] [.int q1.1] q1.2 rfl ?_
  rcases am_ite h with ⟨q2, h⟩ | ⟨q2, h⟩
  · refine am_Ex.if_eq_t rfl q2 ?_
    exact e_fB_canAsk_51 d h
  · refine am_Ex.if_eq_f rfl q2 ?_
    refine am_Ex.seg 4 16 [.ref 0, .int a1, .int a2, .int a3, .int a4, .int a5] [.int (q1.2 13 14), .int a2] q1.2 (fun _ => rfl) ?_
    obtain ⟨q3, h_q3, h⟩ := am_bind h
    refine am_Ex.isk (na := 2) rfl (As := [.int a2, .int (q1.2 13 14)]) rfl rfl rfl rfl rfl rfl (e_fB_isIn (d + 1) h_q3) ?_
    refine am_Ex.same 19 [.ref 0, .int a1, .int a2, .int a3, .int a4, .int a5] [.int q3.1] q3.2 rfl ?_
    rcases am_ite h with ⟨q4, h⟩ | ⟨q4, h⟩
    · refine am_Ex.if_eq_t rfl q4 ?_
      exact e_fB_canAsk_51 d h
    · refine am_Ex.if_eq_f rfl q4 ?_
      refine am_Ex.seg 2 25 [.ref 0, .int a1, .int a2, .int a3, .int a4, .int a5] [.int 8, .int a3] q3.2 (fun _ => rfl) ?_
      obtain ⟨q5, h_q5, h⟩ := am_bind h
      refine am_Ex.isk (na := 2) rfl (As := [.int a3, .int 8]) rfl rfl rfl rfl rfl rfl (e_fB_isIn (d + 1) h_q5) ?_
      refine am_Ex.same 28 [.ref 0, .int a1, .int a2, .int a3, .int a4, .int a5] [.int q5.1] q5.2 rfl ?_
      rcases am_ite h with ⟨q6, h⟩ | ⟨q6, h⟩
      · refine am_Ex.if_eq_t rfl q6 ?_
        exact e_fB_canAsk_51 d h
      · refine am_Ex.if_eq_f rfl q6 ?_
        refine am_Ex.seg 1 33 [.ref 0, .int a1, .int a2, .int a3, .int a4, .int a5] [.int a4] q5.2 (fun _ => rfl) ?_
        obtain ⟨q7, h_q7, h⟩ := am_bind h
        refine am_Ex.isk (na := 1) rfl (As := [.int a4]) rfl rfl rfl rfl rfl rfl (e_fB_isMinute (d + 0) h_q7) ?_
        refine am_Ex.same 36 [.ref 0, .int a1, .int a2, .int a3, .int a4, .int a5] [.int q7.1] q7.2 rfl ?_
        rcases am_ite h with ⟨q8, h⟩ | ⟨q8, h⟩
        · refine am_Ex.if_eq_t rfl q8 ?_
          exact e_fB_canAsk_51 d h
        · refine am_Ex.if_eq_f rfl q8 ?_
          refine am_Ex.seg 1 41 [.ref 0, .int a1, .int a2, .int a3, .int a4, .int a5] [.int a5] q7.2 (fun _ => rfl) ?_
          obtain ⟨q9, h_q9, h⟩ := am_bind h
          refine am_Ex.isk (na := 1) rfl (As := [.int a5]) rfl rfl rfl rfl rfl rfl (e_fB_isMinute (d + 0) h_q9) ?_
          refine am_Ex.same 44 [.ref 0, .int a1, .int a2, .int a3, .int a4, .int a5] [.int q9.1] q9.2 rfl ?_
          rcases am_ite h with ⟨q10, h⟩ | ⟨q10, h⟩
          · refine am_Ex.if_eq_t rfl q10 ?_
            exact e_fB_canAsk_51 d h
          · refine am_Ex.if_eq_f rfl q10 ?_
            refine am_Ex.seg 1 48 [.ref 0, .int a1, .int a2, .int a3, .int a4, .int a5] [.int 1] q9.2 (fun _ => rfl) ?_
            refine am_Ex.goto rfl ?_
            cases h
            exact am_Ex.zret rfl rfl (by decide)
def fB_mark (a1 : Int32) (a2 : Int32) (a3 : Int32) (a4 : Int32) (a5 : Int32) (μ : am_Mu) : Option (Int32 × am_Mu) := ((fB_canAsk a1 a2 a3 a4 a5 μ).bind fun q1 => (if ¬ q1.1 = 0 then ((fJudge_tellWhatIs 68 a1 a4 a5 q1.2).bind fun q3 => (bif am_inb ((a2 * 8) + a3) 160 then some ((q3 69 ((((a2 * 8) + a3)).toNatClampNeg)), q3) else none)) else some ((-1), q1.2)))
set_option maxRecDepth 20000 in
theorem e_fB_mark (d : Nat) : ∀ {a1 : Int32} {a2 : Int32} {a3 : Int32} {a4 : Int32} {a5 : Int32} {μ : am_Mu} {out : Int32 × am_Mu}, fB_mark a1 a2 a3 a4 a5 μ = some out → am_Ex none (d + 6) 110 0 [.ref 0, .int a1, .int a2, .int a3, .int a4, .int a5] [] am_SH μ (some (.int out.1), am_SH, out.2) := by
  intro a1 a2 a3 a4 a5 μ out h
  unfold fB_mark at h
  refine am_Ex.seg 6 8 [.ref 0, .int a1, .int a2, .int a3, .int a4, .int a5] [.int a5, .int a4, .int a3, .int a2, .int a1, .ref 0] μ (fun _ => rfl) ?_
  obtain ⟨q1, h_q1, h⟩ := am_bind h
  refine am_Ex.ivk (na := 6) (b := 0) (As' := [.int a1, .int a2, .int a3, .int a4, .int a5]) rfl rfl rfl rfl rfl rfl rfl rfl rfl (e_fB_canAsk (d + 3) h_q1) ?_
  refine am_Ex.same 11 [.ref 0, .int a1, .int a2, .int a3, .int a4, .int a5] [.int q1.1] q1.2 rfl ?_
  rcases am_ite h with ⟨q2, h⟩ | ⟨q2, h⟩
  · refine am_Ex.if_ne_t rfl q2 ?_
    refine am_Ex.seg 7 29 [.ref 0, .int a1, .int a2, .int a3, .int a4, .int a5] [.int a5, .int a4, .int a1, .ref 68, .ref 27] q1.2 (fun _ => rfl) ?_
    obtain ⟨q3, h_q3, h⟩ := am_bind h
    refine am_Ex.ivk (na := 5) (b := 27) (As' := [.ref 68, .int a1, .int a4, .int a5]) rfl rfl rfl rfl rfl rfl rfl rfl rfl (e_fJudge_tellWhatIs (d + 0) h_q3) ?_
    refine am_Ex.same 32 [.ref 0, .int a1, .int a2, .int a3, .int a4, .int a5] [] q3 rfl ?_
    refine am_Ex.seg 8 45 [.ref 0, .int a1, .int a2, .int a3, .int a4, .int a5] [.int ((a2 * 8) + a3), .ref 69] q3 (fun _ => rfl) ?_
    obtain ⟨q4, h⟩ := am_bif h
    refine am_Ex.iald (v := (q3 69 ((((a2 * 8) + a3)).toNatClampNeg))) rfl rfl q4 rfl ?_
    cases h
    exact am_Ex.iret rfl rfl
  · refine am_Ex.if_ne_f rfl (Decidable.not_not.mp q2) ?_
    refine am_Ex.seg 1 15 [.ref 0, .int a1, .int a2, .int a3, .int a4, .int a5] [.int (-1)] q1.2 (fun _ => rfl) ?_
    cases h
    exact am_Ex.iret rfl rfl
def fB_since (a1 : Int32) (a2 : Int32) (a3 : Int32) (a4 : Int32) (a5 : Int32) (a6 : Int32) (μ : am_Mu) : Option (Int32 × am_Mu) := ((fB_canAsk a1 a2 a3 a4 a5 μ).bind fun q1 => (if q1.1 = 0 then some ((-1), q1.2) else ((fB_isIn a6 2 q1.2).bind fun q3 => (if ¬ q3.1 = 0 then ((fJudge_tellWhatIs 68 a1 a4 a5 q3.2).bind fun q5 => (bif am_inb ((a2 * 8) + a3) 160 then (if ¬ (q5 69 ((((a2 * 8) + a3)).toNatClampNeg)) = 0 then (if ¬ a6 = 0 then some ((q5 71 ((((a2 * 8) + a3)).toNatClampNeg)), q5) else some ((q5 70 ((((a2 * 8) + a3)).toNatClampNeg)), q5)) else some ((-1), q5)) else none)) else some ((-1), q3.2)))))
set_option maxRecDepth 20000 in
theorem e_fB_since (d : Nat) : ∀ {a1 : Int32} {a2 : Int32} {a3 : Int32} {a4 : Int32} {a5 : Int32} {a6 : Int32} {μ : am_Mu} {out : Int32 × am_Mu}, fB_since a1 a2 a3 a4 a5 a6 μ = some out → am_Ex none (d + 6) 111 0 [.ref 0, .int a1, .int a2, .int a3, .int a4, .int a5, .int a6, .null] [] am_SH μ (some (.int out.1), am_SH, out.2) := by
  intro a1 a2 a3 a4 a5 a6 μ out h
  unfold fB_since at h
  refine am_Ex.seg 6 8 [.ref 0, .int a1, .int a2, .int a3, .int a4, .int a5, .int a6, .null] [.int a5, .int a4, .int a3, .int a2, .int a1, .ref 0] μ (fun _ => rfl) ?_
  obtain ⟨q1, h_q1, h⟩ := am_bind h
  refine am_Ex.ivk (na := 6) (b := 0) (As' := [.int a1, .int a2, .int a3, .int a4, .int a5]) rfl rfl rfl rfl rfl rfl rfl rfl rfl (e_fB_canAsk (d + 3) h_q1) ?_
  refine am_Ex.same 11 [.ref 0, .int a1, .int a2, .int a3, .int a4, .int a5, .int a6, .null] [.int q1.1] q1.2 rfl ?_
  rcases am_ite h with ⟨q2, h⟩ | ⟨q2, h⟩
  · refine am_Ex.if_eq_t rfl q2 ?_
    refine am_Ex.seg 1 24 [.ref 0, .int a1, .int a2, .int a3, .int a4, .int a5, .int a6, .null] [.int (-1)] q1.2 (fun _ => rfl) ?_
    cases h
    exact am_Ex.iret rfl rfl
  · refine am_Ex.if_eq_f rfl q2 ?_
    refine am_Ex.seg 2 17 [.ref 0, .int a1, .int a2, .int a3, .int a4, .int a5, .int a6, .null] [.int 2, .int a6] q1.2 (fun _ => rfl) ?_
    obtain ⟨q3, h_q3, h⟩ := am_bind h
    refine am_Ex.isk (na := 2) rfl (As := [.int a6, .int 2]) rfl rfl rfl rfl rfl rfl (e_fB_isIn (d + 5) h_q3) ?_
    refine am_Ex.same 20 [.ref 0, .int a1, .int a2, .int a3, .int a4, .int a5, .int a6, .null] [.int q3.1] q3.2 rfl ?_
    rcases am_ite h with ⟨q4, h⟩ | ⟨q4, h⟩
    · refine am_Ex.if_ne_t rfl q4 ?_
      refine am_Ex.seg 7 38 [.ref 0, .int a1, .int a2, .int a3, .int a4, .int a5, .int a6, .null] [.int a5, .int a4, .int a1, .ref 68, .ref 27] q3.2 (fun _ => rfl) ?_
      obtain ⟨q5, h_q5, h⟩ := am_bind h
      refine am_Ex.ivk (na := 5) (b := 27) (As' := [.ref 68, .int a1, .int a4, .int a5]) rfl rfl rfl rfl rfl rfl rfl rfl rfl (e_fJudge_tellWhatIs (d + 0) h_q5) ?_
      refine am_Ex.same 41 [.ref 0, .int a1, .int a2, .int a3, .int a4, .int a5, .int a6, .null] [] q5 rfl ?_
      refine am_Ex.seg 10 58 [.ref 0, .int a1, .int a2, .int a3, .int a4, .int a5, .int a6, .int ((a2 * 8) + a3)] [.int ((a2 * 8) + a3), .ref 69] q5 (fun _ => rfl) ?_
      obtain ⟨q6, h⟩ := am_bif h
      refine am_Ex.iald (v := (q5 69 ((((a2 * 8) + a3)).toNatClampNeg))) rfl rfl q6 rfl ?_
      rcases am_ite h with ⟨q7, h⟩ | ⟨q7, h⟩
      · refine am_Ex.if_ne_t rfl q7 ?_
        refine am_Ex.seg 1 66 [.ref 0, .int a1, .int a2, .int a3, .int a4, .int a5, .int a6, .int ((a2 * 8) + a3)] [.int a6] q5 (fun _ => rfl) ?_
        rcases am_ite h with ⟨q8, h⟩ | ⟨q8, h⟩
        · refine am_Ex.if_ne_t rfl q8 ?_
          refine am_Ex.seg 4 91 [.ref 0, .int a1, .int a2, .int a3, .int a4, .int a5, .int a6, .int ((a2 * 8) + a3)] [.int ((a2 * 8) + a3), .ref 71] q5 (fun _ => rfl) ?_
          refine am_Ex.iald (v := (q5 71 ((((a2 * 8) + a3)).toNatClampNeg))) rfl rfl q6 rfl ?_
          cases h
          exact am_Ex.iret rfl rfl
        · refine am_Ex.if_ne_f rfl (Decidable.not_not.mp q8) ?_
          refine am_Ex.seg 4 78 [.ref 0, .int a1, .int a2, .int a3, .int a4, .int a5, .int a6, .int ((a2 * 8) + a3)] [.int ((a2 * 8) + a3), .ref 70] q5 (fun _ => rfl) ?_
          refine am_Ex.iald (v := (q5 70 ((((a2 * 8) + a3)).toNatClampNeg))) rfl rfl q6 rfl ?_
          refine am_Ex.goto rfl ?_
          cases h
          exact am_Ex.iret rfl rfl
      · refine am_Ex.if_ne_f rfl (Decidable.not_not.mp q7) ?_
        refine am_Ex.seg 1 63 [.ref 0, .int a1, .int a2, .int a3, .int a4, .int a5, .int a6, .int ((a2 * 8) + a3)] [.int (-1)] q5 (fun _ => rfl) ?_
        cases h
        exact am_Ex.iret rfl rfl
    · refine am_Ex.if_ne_f rfl (Decidable.not_not.mp q4) ?_
      refine am_Ex.seg 1 24 [.ref 0, .int a1, .int a2, .int a3, .int a4, .int a5, .int a6, .null] [.int (-1)] q3.2 (fun _ => rfl) ?_
      cases h
      exact am_Ex.iret rfl rfl
def fB_askBothSchools (μ : am_Mu) : Option (am_Mu) := ((fJudge_tellWhatIs 68 0 (μ 0 11) (μ 0 11) μ).bind fun q1 => ((fJudge_tellWhatIs 72 1 (q1 0 11) (q1 0 11) q1).bind fun q2 => some q2))
set_option maxRecDepth 20000 in
theorem e_fB_askBothSchools (d : Nat) : ∀ {μ : am_Mu} {out : am_Mu}, fB_askBothSchools μ = some out → am_Ex none (d + 6) 142 0 [.ref 0] [] am_SH μ (none, am_SH, out) := by
  intro μ out h
  unfold fB_askBothSchools at h
  refine am_Ex.seg 9 17 [.ref 0] [.int (μ 0 11), .int (μ 0 11), .int 0, .ref 68, .ref 27] μ (fun _ => rfl) ?_
  obtain ⟨q1, h_q1, h⟩ := am_bind h
  refine am_Ex.ivk (na := 5) (b := 27) (As' := [.ref 68, .int 0, .int (μ 0 11), .int (μ 0 11)]) rfl rfl rfl rfl rfl rfl rfl rfl rfl (e_fJudge_tellWhatIs (d + 0) h_q1) ?_
  refine am_Ex.same 20 [.ref 0] [] q1 rfl ?_
  refine am_Ex.seg 9 37 [.ref 0] [.int (q1 0 11), .int (q1 0 11), .int 1, .ref 72, .ref 27] q1 (fun _ => rfl) ?_
  obtain ⟨q2, h_q2, h⟩ := am_bind h
  refine am_Ex.ivk (na := 5) (b := 27) (As' := [.ref 72, .int 1, .int (q1 0 11), .int (q1 0 11)]) rfl rfl rfl rfl rfl rfl rfl rfl rfl (e_fJudge_tellWhatIs (d + 0) h_q2) ?_
  refine am_Ex.same 40 [.ref 0] [] q2 rfl ?_
  cases h
  exact am_Ex.vret rfl rfl
def fB_quarrelPlace_48 (k4 : Int32 → Int32 → am_Mu → Option (Int32 × am_Mu)) (a2 : Int32) (a3 : Int32) (μ : am_Mu) : Option (Int32 × am_Mu) := k4 a2 (a3 + 1) μ
def fB_quarrelPlace_4 : Nat → Int32 → Int32 → am_Mu → Option (Int32 × am_Mu)
  | 0, _, _, _ => none
  | n + 1, a2, a3, μ => (if ((μ 13 14) * 8) ≤ a3 then some ((-1), μ) else (bif am_inb a3 160 then (if (μ 69 ((a3).toNatClampNeg)) = (μ 73 ((a3).toNatClampNeg)) then fB_quarrelPlace_48 (fB_quarrelPlace_4 n) a2 a3 μ else (if ¬ a2 = 0 then fB_quarrelPlace_48 (fB_quarrelPlace_4 n) (a2 + (-1)) a3 μ else some (a3, μ))) else none))
def fB_quarrelPlace (a1 : Int32) (μ : am_Mu) : Option (Int32 × am_Mu) := fB_quarrelPlace_4 am_F a1 0 μ
set_option maxRecDepth 20000 in
theorem e_fB_quarrelPlace_48 (d : Nat) {k4 : Int32 → Int32 → am_Mu → Option (Int32 × am_Mu)} (hk4 : ∀ {a2 : Int32} {a3 : Int32} {w1 : Value} {μ : am_Mu} {out : Int32 × am_Mu}, k4 a2 a3 μ = some out → am_Ex none (d + 0) 143 4 [.ref 0, w1, .int a2, .int a3] [] am_SH μ (some (.int out.1), am_SH, out.2)) : ∀ {a2 : Int32} {a3 : Int32} {w1 : Value} {μ : am_Mu} {out : Int32 × am_Mu}, fB_quarrelPlace_48 k4 a2 a3 μ = some out → am_Ex none (d + 0) 143 48 [.ref 0, w1, .int a2, .int a3] [] am_SH μ (some (.int out.1), am_SH, out.2) := by
  intro a2 a3 w1 μ out h
  unfold fB_quarrelPlace_48 at h
  refine am_Ex.seg 1 51 [.ref 0, w1, .int a2, .int (a3 + 1)] [] μ (fun _ => rfl) ?_
  refine am_Ex.goto rfl ?_
  exact hk4 h
set_option maxRecDepth 20000 in
theorem e_fB_quarrelPlace_4 (d : Nat) : ∀ n : Nat, ∀ {a2 : Int32} {a3 : Int32} {w1 : Value} {μ : am_Mu} {out : Int32 × am_Mu}, fB_quarrelPlace_4 n a2 a3 μ = some out → am_Ex none (d + 0) 143 4 [.ref 0, w1, .int a2, .int a3] [] am_SH μ (some (.int out.1), am_SH, out.2) := by
  intro n
  induction n with
  | zero => intros; contradiction
  | succ n ih =>
    have hk4 : ∀ {a2 : Int32} {a3 : Int32} {w1 : Value} {μ : am_Mu} {out : Int32 × am_Mu}, (fB_quarrelPlace_4 n) a2 a3 μ = some out → am_Ex none (d + 0) 143 4 [.ref 0, w1, .int a2, .int a3] [] am_SH μ (some (.int out.1), am_SH, out.2) := ih
    intro a2 a3 w1 μ out h
    unfold fB_quarrelPlace_4 at h
    refine am_Ex.seg 6 15 [.ref 0, w1, .int a2, .int a3] [.int ((μ 13 14) * 8), .int a3] μ (fun _ => rfl) ?_
    rcases am_ite h with ⟨q1, h⟩ | ⟨q1, h⟩
    · refine am_Ex.icmp_ge_t rfl q1 ?_
      refine am_Ex.seg 1 55 [.ref 0, w1, .int a2, .int a3] [.int (-1)] μ (fun _ => rfl) ?_
      cases h
      exact am_Ex.iret rfl rfl
    · refine am_Ex.icmp_ge_f rfl q1 ?_
      refine am_Ex.seg 4 26 [.ref 0, w1, .int a2, .int a3] [.int a3, .ref 69] μ (fun _ => rfl) ?_
      obtain ⟨q2, h⟩ := am_bif h
      refine am_Ex.iald (v := (μ 69 ((a3).toNatClampNeg))) rfl rfl q2 rfl ?_
      refine am_Ex.seg 4 35 [.ref 0, w1, .int a2, .int a3] [.int a3, .ref 73, .int (μ 69 ((a3).toNatClampNeg))] μ (fun _ => rfl) ?_
      refine am_Ex.iald (v := (μ 73 ((a3).toNatClampNeg))) rfl rfl q2 rfl ?_
      rcases am_ite h with ⟨q3, h⟩ | ⟨q3, h⟩
      · refine am_Ex.icmp_eq_t rfl q3 ?_
        exact e_fB_quarrelPlace_48 d hk4 h
      · refine am_Ex.icmp_eq_f rfl q3 ?_
        refine am_Ex.seg 1 40 [.ref 0, w1, .int a2, .int a3] [.int a2] μ (fun _ => rfl) ?_
        rcases am_ite h with ⟨q4, h⟩ | ⟨q4, h⟩
        · refine am_Ex.if_ne_t rfl q4 ?_
          refine am_Ex.seg 1 48 [.ref 0, w1, .int (a2 + (-1)), .int a3] [] μ (fun _ => rfl) ?_
          exact e_fB_quarrelPlace_48 d hk4 h
        · refine am_Ex.if_ne_f rfl (Decidable.not_not.mp q4) ?_
          refine am_Ex.seg 1 44 [.ref 0, w1, .int a2, .int a3] [.int a3] μ (fun _ => rfl) ?_
          cases h
          exact am_Ex.iret rfl rfl
set_option maxRecDepth 20000 in
theorem e_fB_quarrelPlace (d : Nat) : ∀ {a1 : Int32} {μ : am_Mu} {out : Int32 × am_Mu}, fB_quarrelPlace a1 μ = some out → am_Ex none (d + 0) 143 0 [.ref 0, .int a1, .null, .null] [] am_SH μ (some (.int out.1), am_SH, out.2) := by
  intro a1 μ out h
  unfold fB_quarrelPlace at h
  refine am_Ex.seg 4 4 [.ref 0, .int a1, .int a1, .int 0] [] μ (fun _ => rfl) ?_
  exact e_fB_quarrelPlace_4 d am_F h
def fB_quarrel (a1 : Int32) (a2 : Int32) (μ : am_Mu) : Option (Int32 × am_Mu) := (if a1 < 0 then some ((-1), μ) else ((fB_isIn a2 4 μ).bind fun q2 => (if ¬ q2.1 = 0 then ((fB_askBothSchools q2.2).bind fun q4 => ((fB_quarrelPlace a1 q4).bind fun q5 => (if ¬ q5.1 = (-1) then (if a2 = 0 then some ((q5.1 / 8), q5.2) else (if a2 = 1 then some ((q5.1 - (q5.1 / 8) * 8), q5.2) else (if a2 = 2 then (bif am_inb q5.1 160 then some ((q5.2 69 ((q5.1).toNatClampNeg)), q5.2) else none) else (bif am_inb q5.1 160 then some ((q5.2 73 ((q5.1).toNatClampNeg)), q5.2) else none)))) else some ((-1), q5.2)))) else some ((-1), q2.2))))
set_option maxRecDepth 20000 in
theorem e_fB_quarrel (d : Nat) : ∀ {a1 : Int32} {a2 : Int32} {μ : am_Mu} {out : Int32 × am_Mu}, fB_quarrel a1 a2 μ = some out → am_Ex none (d + 7) 112 0 [.ref 0, .int a1, .int a2, .null] [] am_SH μ (some (.int out.1), am_SH, out.2) := by
  intro a1 a2 μ out h
  unfold fB_quarrel at h
  refine am_Ex.seg 1 1 [.ref 0, .int a1, .int a2, .null] [.int a1] μ (fun _ => rfl) ?_
  rcases am_ite h with ⟨q1, h⟩ | ⟨q1, h⟩
  · refine am_Ex.if_lt_t rfl q1 ?_
    refine am_Ex.seg 1 13 [.ref 0, .int a1, .int a2, .null] [.int (-1)] μ (fun _ => rfl) ?_
    cases h
    exact am_Ex.iret rfl rfl
  · refine am_Ex.if_lt_f rfl q1 ?_
    refine am_Ex.seg 2 6 [.ref 0, .int a1, .int a2, .null] [.int 4, .int a2] μ (fun _ => rfl) ?_
    obtain ⟨q2, h_q2, h⟩ := am_bind h
    refine am_Ex.isk (na := 2) rfl (As := [.int a2, .int 4]) rfl rfl rfl rfl rfl rfl (e_fB_isIn (d + 6) h_q2) ?_
    refine am_Ex.same 9 [.ref 0, .int a1, .int a2, .null] [.int q2.1] q2.2 rfl ?_
    rcases am_ite h with ⟨q3, h⟩ | ⟨q3, h⟩
    · refine am_Ex.if_ne_t rfl q3 ?_
      refine am_Ex.seg 1 15 [.ref 0, .int a1, .int a2, .null] [.ref 0] q2.2 (fun _ => rfl) ?_
      obtain ⟨q4, h_q4, h⟩ := am_bind h
      refine am_Ex.ivk (na := 1) (b := 0) (As' := []) rfl rfl rfl rfl rfl rfl rfl rfl rfl (e_fB_askBothSchools (d + 0) h_q4) ?_
      refine am_Ex.same 18 [.ref 0, .int a1, .int a2, .null] [] q4 rfl ?_
      refine am_Ex.seg 2 20 [.ref 0, .int a1, .int a2, .null] [.int a1, .ref 0] q4 (fun _ => rfl) ?_
      obtain ⟨q5, h_q5, h⟩ := am_bind h
      refine am_Ex.ivk (na := 2) (b := 0) (As' := [.int a1]) rfl rfl rfl rfl rfl rfl rfl rfl rfl (e_fB_quarrelPlace (d + 6) h_q5) ?_
      refine am_Ex.same 23 [.ref 0, .int a1, .int a2, .null] [.int q5.1] q5.2 rfl ?_
      refine am_Ex.seg 3 26 [.ref 0, .int a1, .int a2, .int q5.1] [.int (-1), .int q5.1] q5.2 (fun _ => rfl) ?_
      rcases am_ite h with ⟨q6, h⟩ | ⟨q6, h⟩
      · refine am_Ex.icmp_ne_t rfl q6 ?_
        refine am_Ex.seg 1 32 [.ref 0, .int a1, .int a2, .int q5.1] [.int a2] q5.2 (fun _ => rfl) ?_
        rcases am_ite h with ⟨q7, h⟩ | ⟨q7, h⟩
        · refine am_Ex.tblIn 60 (v := 0) rfl q7 (by decide) rfl rfl ?_
          refine am_Ex.seg 2 63 [.ref 0, .int a1, .int a2, .int q5.1] [.int 8, .int q5.1] q5.2 (fun _ => rfl) ?_
          refine am_Ex.idiv rfl (by decide) ?_
          cases h
          exact am_Ex.iret rfl rfl
        rcases am_ite h with ⟨q8, h⟩ | ⟨q8, h⟩
        · refine am_Ex.tblIn 65 (v := 1) rfl q8 (by decide) rfl rfl ?_
          refine am_Ex.seg 2 68 [.ref 0, .int a1, .int a2, .int q5.1] [.int 8, .int q5.1] q5.2 (fun _ => rfl) ?_
          refine am_Ex.irem rfl (by decide) ?_
          cases h
          exact am_Ex.iret rfl rfl
        rcases am_ite h with ⟨q9, h⟩ | ⟨q9, h⟩
        · refine am_Ex.tblIn 70 (v := 2) rfl q9 (by decide) rfl rfl ?_
          refine am_Ex.seg 4 78 [.ref 0, .int a1, .int a2, .int q5.1] [.int q5.1, .ref 69] q5.2 (fun _ => rfl) ?_
          obtain ⟨q10, h⟩ := am_bif h
          refine am_Ex.iald (v := (q5.2 69 ((q5.1).toNatClampNeg))) rfl rfl q10 rfl ?_
          cases h
          exact am_Ex.iret rfl rfl
        refine am_Ex.tblOut 80 rfl (by have := lv_neT q7 (a := 0) rfl; have := lv_neT q8 (a := 1) rfl; have := lv_neT q9 (a := 2) rfl; omega) rfl ?_
        refine am_Ex.seg 4 88 [.ref 0, .int a1, .int a2, .int q5.1] [.int q5.1, .ref 73] q5.2 (fun _ => rfl) ?_
        obtain ⟨q11, h⟩ := am_bif h
        refine am_Ex.iald (v := (q5.2 73 ((q5.1).toNatClampNeg))) rfl rfl q11 rfl ?_
        cases h
        exact am_Ex.iret rfl rfl
      · refine am_Ex.icmp_ne_f rfl (Decidable.not_not.mp q6) ?_
        refine am_Ex.seg 1 30 [.ref 0, .int a1, .int a2, .int q5.1] [.int (-1)] q5.2 (fun _ => rfl) ?_
        cases h
        exact am_Ex.iret rfl rfl
    · refine am_Ex.if_ne_f rfl (Decidable.not_not.mp q3) ?_
      refine am_Ex.seg 1 13 [.ref 0, .int a1, .int a2, .null] [.int (-1)] q2.2 (fun _ => rfl) ?_
      cases h
      exact am_Ex.iret rfl rfl
def fB_canTrace_40 (μ : am_Mu) : Option (Int32 × am_Mu) := some (0, μ)
def fB_canTrace (a1 : Int32) (a2 : Int32) (a3 : Int32) (μ : am_Mu) : Option (Int32 × am_Mu) := ((fB_isIn a1 (μ 13 16) μ).bind fun q1 => (if q1.1 = 0 then fB_canTrace_40 q1.2 else ((fB_isIn a2 2 q1.2).bind fun q3 => (if q3.1 = 0 then fB_canTrace_40 q3.2 else ((fB_isIn a3 (q3.2 13 14) q3.2).bind fun q5 => (if q5.1 = 0 then fB_canTrace_40 q5.2 else some (1, q5.2)))))))
set_option maxRecDepth 20000 in
theorem e_fB_canTrace_40 (d : Nat) : ∀ {w0 w1 w2 w3 : Value} {μ : am_Mu} {out : Int32 × am_Mu}, fB_canTrace_40 μ = some out → am_Ex none (d + 1) 141 40 [w0, w1, w2, w3] [] am_SH μ (some (.int out.1), am_SH, out.2) := by
  intro w0 w1 w2 w3 μ out h
  unfold fB_canTrace_40 at h
  refine am_Ex.seg 1 41 [w0, w1, w2, w3] [.int 0] μ (fun _ => rfl) ?_
  cases h
  exact am_Ex.zret rfl rfl (by decide)
set_option maxRecDepth 20000 in
theorem e_fB_canTrace (d : Nat) : ∀ {a1 : Int32} {a2 : Int32} {a3 : Int32} {μ : am_Mu} {out : Int32 × am_Mu}, fB_canTrace a1 a2 a3 μ = some out → am_Ex none (d + 1) 141 0 [.ref 0, .int a1, .int a2, .int a3] [] am_SH μ (some (.int out.1), am_SH, out.2) := by
  intro a1 a2 a3 μ out h
  unfold fB_canTrace at h
  refine am_Ex.seg 4 8 [.ref 0, .int a1, .int a2, .int a3] [.int (μ 13 16), .int a1] μ (fun _ => rfl) ?_
  obtain ⟨q1, h_q1, h⟩ := am_bind h
  refine am_Ex.isk (na := 2) rfl (As := [.int a1, .int (μ 13 16)]) rfl rfl rfl rfl rfl rfl (e_fB_isIn (d + 0) h_q1) ?_
  refine am_Ex.same 11 [.ref 0, .int a1, .int a2, .int a3] [.int q1.1] q1.2 rfl ?_
  rcases am_ite h with ⟨q2, h⟩ | ⟨q2, h⟩
  · refine am_Ex.if_eq_t rfl q2 ?_
    exact e_fB_canTrace_40 d h
  · refine am_Ex.if_eq_f rfl q2 ?_
    refine am_Ex.seg 2 16 [.ref 0, .int a1, .int a2, .int a3] [.int 2, .int a2] q1.2 (fun _ => rfl) ?_
    obtain ⟨q3, h_q3, h⟩ := am_bind h
    refine am_Ex.isk (na := 2) rfl (As := [.int a2, .int 2]) rfl rfl rfl rfl rfl rfl (e_fB_isIn (d + 0) h_q3) ?_
    refine am_Ex.same 19 [.ref 0, .int a1, .int a2, .int a3] [.int q3.1] q3.2 rfl ?_
    rcases am_ite h with ⟨q4, h⟩ | ⟨q4, h⟩
    · refine am_Ex.if_eq_t rfl q4 ?_
      exact e_fB_canTrace_40 d h
    · refine am_Ex.if_eq_f rfl q4 ?_
      refine am_Ex.seg 4 30 [.ref 0, .int a1, .int a2, .int a3] [.int (q3.2 13 14), .int a3] q3.2 (fun _ => rfl) ?_
      obtain ⟨q5, h_q5, h⟩ := am_bind h
      refine am_Ex.isk (na := 2) rfl (As := [.int a3, .int (q3.2 13 14)]) rfl rfl rfl rfl rfl rfl (e_fB_isIn (d + 0) h_q5) ?_
      refine am_Ex.same 33 [.ref 0, .int a1, .int a2, .int a3] [.int q5.1] q5.2 rfl ?_
      rcases am_ite h with ⟨q6, h⟩ | ⟨q6, h⟩
      · refine am_Ex.if_eq_t rfl q6 ?_
        exact e_fB_canTrace_40 d h
      · refine am_Ex.if_eq_f rfl q6 ?_
        refine am_Ex.seg 1 37 [.ref 0, .int a1, .int a2, .int a3] [.int 1] q5.2 (fun _ => rfl) ?_
        refine am_Ex.goto rfl ?_
        cases h
        exact am_Ex.zret rfl rfl (by decide)
def fB_leads (a1 : Int32) (a2 : Int32) (a3 : Int32) (a4 : Int32) (μ : am_Mu) : Option (Int32 × am_Mu) := ((fB_canTrace a1 a2 a3 μ).bind fun q1 => (if q1.1 = 0 then some ((-1), q1.2) else ((fB_isMinute a4 q1.2).bind fun q3 => (if ¬ q3.1 = 0 then ((fTrace_follow a1 a2 a4 (q3.2 0 11) q3.2).bind fun q5 => ((fTrace_otherwise a3 q5).bind fun q6 => some (q6.1, q6.2))) else some ((-1), q3.2)))))
set_option maxRecDepth 20000 in
theorem e_fB_leads (d : Nat) : ∀ {a1 : Int32} {a2 : Int32} {a3 : Int32} {a4 : Int32} {μ : am_Mu} {out : Int32 × am_Mu}, fB_leads a1 a2 a3 a4 μ = some out → am_Ex none (d + 6) 113 0 [.ref 0, .int a1, .int a2, .int a3, .int a4] [] am_SH μ (some (.int out.1), am_SH, out.2) := by
  intro a1 a2 a3 a4 μ out h
  unfold fB_leads at h
  refine am_Ex.seg 4 4 [.ref 0, .int a1, .int a2, .int a3, .int a4] [.int a3, .int a2, .int a1, .ref 0] μ (fun _ => rfl) ?_
  obtain ⟨q1, h_q1, h⟩ := am_bind h
  refine am_Ex.ivk (na := 4) (b := 0) (As' := [.int a1, .int a2, .int a3]) rfl rfl rfl rfl rfl rfl rfl rfl rfl (e_fB_canTrace (d + 4) h_q1) ?_
  refine am_Ex.same 7 [.ref 0, .int a1, .int a2, .int a3, .int a4] [.int q1.1] q1.2 rfl ?_
  rcases am_ite h with ⟨q2, h⟩ | ⟨q2, h⟩
  · refine am_Ex.if_eq_t rfl q2 ?_
    refine am_Ex.seg 1 19 [.ref 0, .int a1, .int a2, .int a3, .int a4] [.int (-1)] q1.2 (fun _ => rfl) ?_
    cases h
    exact am_Ex.iret rfl rfl
  · refine am_Ex.if_eq_f rfl q2 ?_
    refine am_Ex.seg 1 12 [.ref 0, .int a1, .int a2, .int a3, .int a4] [.int a4] q1.2 (fun _ => rfl) ?_
    obtain ⟨q3, h_q3, h⟩ := am_bind h
    refine am_Ex.isk (na := 1) rfl (As := [.int a4]) rfl rfl rfl rfl rfl rfl (e_fB_isMinute (d + 4) h_q3) ?_
    refine am_Ex.same 15 [.ref 0, .int a1, .int a2, .int a3, .int a4] [.int q3.1] q3.2 rfl ?_
    rcases am_ite h with ⟨q4, h⟩ | ⟨q4, h⟩
    · refine am_Ex.if_ne_t rfl q4 ?_
      refine am_Ex.seg 7 32 [.ref 0, .int a1, .int a2, .int a3, .int a4] [.int (q3.2 0 11), .int a4, .int a2, .int a1, .ref 57] q3.2 (fun _ => rfl) ?_
      obtain ⟨q5, h_q5, h⟩ := am_bind h
      refine am_Ex.ivk (na := 5) (b := 57) (As' := [.int a1, .int a2, .int a4, .int (q3.2 0 11)]) rfl rfl rfl rfl rfl rfl rfl rfl rfl (e_fTrace_follow (d + 0) h_q5) ?_
      refine am_Ex.same 35 [.ref 0, .int a1, .int a2, .int a3, .int a4] [] q5 rfl ?_
      refine am_Ex.seg 3 40 [.ref 0, .int a1, .int a2, .int a3, .int a4] [.int a3, .ref 57] q5 (fun _ => rfl) ?_
      obtain ⟨q6, h_q6, h⟩ := am_bind h
      refine am_Ex.ivk (na := 2) (b := 57) (As' := [.int a3]) rfl rfl rfl rfl rfl rfl rfl rfl rfl (e_fTrace_otherwise (d + 3) h_q6) ?_
      refine am_Ex.same 43 [.ref 0, .int a1, .int a2, .int a3, .int a4] [.int q6.1] q6.2 rfl ?_
      cases h
      exact am_Ex.iret rfl rfl
    · refine am_Ex.if_ne_f rfl (Decidable.not_not.mp q4) ?_
      refine am_Ex.seg 1 19 [.ref 0, .int a1, .int a2, .int a3, .int a4] [.int (-1)] q3.2 (fun _ => rfl) ?_
      cases h
      exact am_Ex.iret rfl rfl
def fB_reached (a1 : Int32) (a2 : Int32) (a3 : Int32) (μ : am_Mu) : Option (Int32 × am_Mu) := ((fB_canTrace a1 a2 a3 μ).bind fun q1 => (if ¬ q1.1 = 0 then ((fTrace_follow a1 a2 (q1.2 0 11) (q1.2 0 11) q1.2).bind fun q3 => (bif am_inb a3 20 then some ((q3 66 ((a3).toNatClampNeg)), q3) else none)) else some ((-1), q1.2)))
set_option maxRecDepth 20000 in
theorem e_fB_reached (d : Nat) : ∀ {a1 : Int32} {a2 : Int32} {a3 : Int32} {μ : am_Mu} {out : Int32 × am_Mu}, fB_reached a1 a2 a3 μ = some out → am_Ex none (d + 6) 114 0 [.ref 0, .int a1, .int a2, .int a3] [] am_SH μ (some (.int out.1), am_SH, out.2) := by
  intro a1 a2 a3 μ out h
  unfold fB_reached at h
  refine am_Ex.seg 4 4 [.ref 0, .int a1, .int a2, .int a3] [.int a3, .int a2, .int a1, .ref 0] μ (fun _ => rfl) ?_
  obtain ⟨q1, h_q1, h⟩ := am_bind h
  refine am_Ex.ivk (na := 4) (b := 0) (As' := [.int a1, .int a2, .int a3]) rfl rfl rfl rfl rfl rfl rfl rfl rfl (e_fB_canTrace (d + 4) h_q1) ?_
  refine am_Ex.same 7 [.ref 0, .int a1, .int a2, .int a3] [.int q1.1] q1.2 rfl ?_
  rcases am_ite h with ⟨q2, h⟩ | ⟨q2, h⟩
  · refine am_Ex.if_ne_t rfl q2 ?_
    refine am_Ex.seg 8 26 [.ref 0, .int a1, .int a2, .int a3] [.int (q1.2 0 11), .int (q1.2 0 11), .int a2, .int a1, .ref 57] q1.2 (fun _ => rfl) ?_
    obtain ⟨q3, h_q3, h⟩ := am_bind h
    refine am_Ex.ivk (na := 5) (b := 57) (As' := [.int a1, .int a2, .int (q1.2 0 11), .int (q1.2 0 11)]) rfl rfl rfl rfl rfl rfl rfl rfl rfl (e_fTrace_follow (d + 0) h_q3) ?_
    refine am_Ex.same 29 [.ref 0, .int a1, .int a2, .int a3] [] q3 rfl ?_
    refine am_Ex.seg 4 37 [.ref 0, .int a1, .int a2, .int a3] [.int a3, .ref 66] q3 (fun _ => rfl) ?_
    obtain ⟨q4, h⟩ := am_bif h
    refine am_Ex.iald (v := (q3 66 ((a3).toNatClampNeg))) rfl rfl q4 rfl ?_
    cases h
    exact am_Ex.iret rfl rfl
  · refine am_Ex.if_ne_f rfl (Decidable.not_not.mp q2) ?_
    refine am_Ex.seg 1 11 [.ref 0, .int a1, .int a2, .int a3] [.int (-1)] q1.2 (fun _ => rfl) ?_
    cases h
    exact am_Ex.iret rfl rfl
def fB_way (a1 : Int32) (a2 : Int32) (a3 : Int32) (a4 : Int32) (μ : am_Mu) : Option (Int32 × am_Mu) := ((fB_canTrace a1 a2 a3 μ).bind fun q1 => (if q1.1 = 0 then some ((-1), q1.2) else ((fB_isIn a4 20 q1.2).bind fun q3 => (if ¬ q3.1 = 0 then ((fTrace_follow a1 a2 (q3.2 0 11) (q3.2 0 11) q3.2).bind fun q5 => ((fTrace_walkBack a1 a3 q5).bind fun q6 => (if q6.1 ≤ a4 then some ((-1), q6.2) else (bif am_inb a4 20 then some ((q6.2 67 ((a4).toNatClampNeg)), q6.2) else none)))) else some ((-1), q3.2)))))
set_option maxRecDepth 20000 in
theorem e_fB_way (d : Nat) : ∀ {a1 : Int32} {a2 : Int32} {a3 : Int32} {a4 : Int32} {μ : am_Mu} {out : Int32 × am_Mu}, fB_way a1 a2 a3 a4 μ = some out → am_Ex none (d + 6) 115 0 [.ref 0, .int a1, .int a2, .int a3, .int a4, .null] [] am_SH μ (some (.int out.1), am_SH, out.2) := by
  intro a1 a2 a3 a4 μ out h
  unfold fB_way at h
  refine am_Ex.seg 4 4 [.ref 0, .int a1, .int a2, .int a3, .int a4, .null] [.int a3, .int a2, .int a1, .ref 0] μ (fun _ => rfl) ?_
  obtain ⟨q1, h_q1, h⟩ := am_bind h
  refine am_Ex.ivk (na := 4) (b := 0) (As' := [.int a1, .int a2, .int a3]) rfl rfl rfl rfl rfl rfl rfl rfl rfl (e_fB_canTrace (d + 4) h_q1) ?_
  refine am_Ex.same 7 [.ref 0, .int a1, .int a2, .int a3, .int a4, .null] [.int q1.1] q1.2 rfl ?_
  rcases am_ite h with ⟨q2, h⟩ | ⟨q2, h⟩
  · refine am_Ex.if_eq_t rfl q2 ?_
    refine am_Ex.seg 1 21 [.ref 0, .int a1, .int a2, .int a3, .int a4, .null] [.int (-1)] q1.2 (fun _ => rfl) ?_
    cases h
    exact am_Ex.iret rfl rfl
  · refine am_Ex.if_eq_f rfl q2 ?_
    refine am_Ex.seg 2 14 [.ref 0, .int a1, .int a2, .int a3, .int a4, .null] [.int 20, .int a4] q1.2 (fun _ => rfl) ?_
    obtain ⟨q3, h_q3, h⟩ := am_bind h
    refine am_Ex.isk (na := 2) rfl (As := [.int a4, .int 20]) rfl rfl rfl rfl rfl rfl (e_fB_isIn (d + 5) h_q3) ?_
    refine am_Ex.same 17 [.ref 0, .int a1, .int a2, .int a3, .int a4, .null] [.int q3.1] q3.2 rfl ?_
    rcases am_ite h with ⟨q4, h⟩ | ⟨q4, h⟩
    · refine am_Ex.if_ne_t rfl q4 ?_
      refine am_Ex.seg 8 36 [.ref 0, .int a1, .int a2, .int a3, .int a4, .null] [.int (q3.2 0 11), .int (q3.2 0 11), .int a2, .int a1, .ref 57] q3.2 (fun _ => rfl) ?_
      obtain ⟨q5, h_q5, h⟩ := am_bind h
      refine am_Ex.ivk (na := 5) (b := 57) (As' := [.int a1, .int a2, .int (q3.2 0 11), .int (q3.2 0 11)]) rfl rfl rfl rfl rfl rfl rfl rfl rfl (e_fTrace_follow (d + 0) h_q5) ?_
      refine am_Ex.same 39 [.ref 0, .int a1, .int a2, .int a3, .int a4, .null] [] q5 rfl ?_
      refine am_Ex.seg 4 45 [.ref 0, .int a1, .int a2, .int a3, .int a4, .null] [.int a3, .int a1, .ref 57] q5 (fun _ => rfl) ?_
      obtain ⟨q6, h_q6, h⟩ := am_bind h
      refine am_Ex.ivk (na := 3) (b := 57) (As' := [.int a1, .int a3]) rfl rfl rfl rfl rfl rfl rfl rfl rfl (e_fTrace_walkBack (d + 4) h_q6) ?_
      refine am_Ex.same 48 [.ref 0, .int a1, .int a2, .int a3, .int a4, .null] [.int q6.1] q6.2 rfl ?_
      refine am_Ex.seg 3 54 [.ref 0, .int a1, .int a2, .int a3, .int a4, .int q6.1] [.int q6.1, .int a4] q6.2 (fun _ => rfl) ?_
      rcases am_ite h with ⟨q7, h⟩ | ⟨q7, h⟩
      · refine am_Ex.icmp_ge_t rfl q7 ?_
        refine am_Ex.seg 1 71 [.ref 0, .int a1, .int a2, .int a3, .int a4, .int q6.1] [.int (-1)] q6.2 (fun _ => rfl) ?_
        cases h
        exact am_Ex.iret rfl rfl
      · refine am_Ex.icmp_ge_f rfl q7 ?_
        refine am_Ex.seg 4 66 [.ref 0, .int a1, .int a2, .int a3, .int a4, .int q6.1] [.int a4, .ref 67] q6.2 (fun _ => rfl) ?_
        obtain ⟨q8, h⟩ := am_bif h
        refine am_Ex.iald (v := (q6.2 67 ((a4).toNatClampNeg))) rfl rfl q8 rfl ?_
        refine am_Ex.goto rfl ?_
        cases h
        exact am_Ex.iret rfl rfl
    · refine am_Ex.if_ne_f rfl (Decidable.not_not.mp q4) ?_
      refine am_Ex.seg 1 21 [.ref 0, .int a1, .int a2, .int a3, .int a4, .null] [.int (-1)] q3.2 (fun _ => rfl) ?_
      cases h
      exact am_Ex.iret rfl rfl
def fB_mend (a1 : Int32) (a2 : Int32) (a3 : Int32) (μ : am_Mu) : Option (Int32 × am_Mu) := ((fB_canTrace a1 a2 a3 μ).bind fun q1 => (if ¬ q1.1 = 0 then ((fTrace_follow a1 a2 (q1.2 0 11) (q1.2 0 11) q1.2).bind fun q3 => ((fTrace_cleansings a2 a3 (q3 0 11) q3).bind fun q4 => some (q4.1, q4.2))) else some ((-1), q1.2)))
set_option maxRecDepth 20000 in
theorem e_fB_mend (d : Nat) : ∀ {a1 : Int32} {a2 : Int32} {a3 : Int32} {μ : am_Mu} {out : Int32 × am_Mu}, fB_mend a1 a2 a3 μ = some out → am_Ex none (d + 6) 116 0 [.ref 0, .int a1, .int a2, .int a3] [] am_SH μ (some (.int out.1), am_SH, out.2) := by
  intro a1 a2 a3 μ out h
  unfold fB_mend at h
  refine am_Ex.seg 4 4 [.ref 0, .int a1, .int a2, .int a3] [.int a3, .int a2, .int a1, .ref 0] μ (fun _ => rfl) ?_
  obtain ⟨q1, h_q1, h⟩ := am_bind h
  refine am_Ex.ivk (na := 4) (b := 0) (As' := [.int a1, .int a2, .int a3]) rfl rfl rfl rfl rfl rfl rfl rfl rfl (e_fB_canTrace (d + 4) h_q1) ?_
  refine am_Ex.same 7 [.ref 0, .int a1, .int a2, .int a3] [.int q1.1] q1.2 rfl ?_
  rcases am_ite h with ⟨q2, h⟩ | ⟨q2, h⟩
  · refine am_Ex.if_ne_t rfl q2 ?_
    refine am_Ex.seg 8 26 [.ref 0, .int a1, .int a2, .int a3] [.int (q1.2 0 11), .int (q1.2 0 11), .int a2, .int a1, .ref 57] q1.2 (fun _ => rfl) ?_
    obtain ⟨q3, h_q3, h⟩ := am_bind h
    refine am_Ex.ivk (na := 5) (b := 57) (As' := [.int a1, .int a2, .int (q1.2 0 11), .int (q1.2 0 11)]) rfl rfl rfl rfl rfl rfl rfl rfl rfl (e_fTrace_follow (d + 0) h_q3) ?_
    refine am_Ex.same 29 [.ref 0, .int a1, .int a2, .int a3] [] q3 rfl ?_
    refine am_Ex.seg 6 39 [.ref 0, .int a1, .int a2, .int a3] [.int (q3 0 11), .int a3, .int a2, .ref 57] q3 (fun _ => rfl) ?_
    obtain ⟨q4, h_q4, h⟩ := am_bind h
    refine am_Ex.ivk (na := 4) (b := 57) (As' := [.int a2, .int a3, .int (q3 0 11)]) rfl rfl rfl rfl rfl rfl rfl rfl rfl (e_fTrace_cleansings (d + 0) h_q4) ?_
    refine am_Ex.same 42 [.ref 0, .int a1, .int a2, .int a3] [.int q4.1] q4.2 rfl ?_
    cases h
    exact am_Ex.iret rfl rfl
  · refine am_Ex.if_ne_f rfl (Decidable.not_not.mp q2) ?_
    refine am_Ex.seg 1 11 [.ref 0, .int a1, .int a2, .int a3] [.int (-1)] q1.2 (fun _ => rfl) ?_
    cases h
    exact am_Ex.iret rfl rfl
def fB_kitchen (a1 : Int32) (a2 : Int32) (a3 : Int32) (a4 : Int32) (μ : am_Mu) : Option (Int32 × am_Mu) := ((fKitchens_add a1 a2 a3 a4 μ).bind fun q1 => some (q1.1, q1.2))
set_option maxRecDepth 20000 in
theorem e_fB_kitchen (d : Nat) : ∀ {a1 : Int32} {a2 : Int32} {a3 : Int32} {a4 : Int32} {μ : am_Mu} {out : Int32 × am_Mu}, fB_kitchen a1 a2 a3 a4 μ = some out → am_Ex none (d + 2) 117 0 [.ref 0, .int a1, .int a2, .int a3, .int a4] [] am_SH μ (some (.int out.1), am_SH, out.2) := by
  intro a1 a2 a3 a4 μ out h
  unfold fB_kitchen at h
  refine am_Ex.seg 6 9 [.ref 0, .int a1, .int a2, .int a3, .int a4] [.int a4, .int a3, .int a2, .int a1, .ref 76] μ (fun _ => rfl) ?_
  obtain ⟨q1, h_q1, h⟩ := am_bind h
  refine am_Ex.ivk (na := 5) (b := 76) (As' := [.int a1, .int a2, .int a3, .int a4]) rfl rfl rfl rfl rfl rfl rfl rfl rfl (e_fKitchens_add (d + 0) h_q1) ?_
  refine am_Ex.same 12 [.ref 0, .int a1, .int a2, .int a3, .int a4] [.int q1.1] q1.2 rfl ?_
  cases h
  exact am_Ex.iret rfl rfl
def fB_oversee (a1 : Int32) (a2 : Int32) (μ : am_Mu) : Option (Int32 × am_Mu) := ((fB_isIn a1 (μ 76 8) μ).bind fun q1 => (if q1.1 = 0 then some (0, q1.2) else ((fB_isIn a2 8 q1.2).bind fun q3 => (if ¬ q3.1 = 0 then (bif am_inb a1 8 then some (1, (am_up q3.2 78 ((a1).toNatClampNeg) a2)) else none) else some (0, q3.2)))))
set_option maxRecDepth 20000 in
theorem e_fB_oversee (d : Nat) : ∀ {a1 : Int32} {a2 : Int32} {μ : am_Mu} {out : Int32 × am_Mu}, fB_oversee a1 a2 μ = some out → am_Ex none (d + 1) 118 0 [.ref 0, .int a1, .int a2] [] am_SH μ (some (.int out.1), am_SH, out.2) := by
  intro a1 a2 μ out h
  unfold fB_oversee at h
  refine am_Ex.seg 4 8 [.ref 0, .int a1, .int a2] [.int (μ 76 8), .int a1] μ (fun _ => rfl) ?_
  obtain ⟨q1, h_q1, h⟩ := am_bind h
  refine am_Ex.isk (na := 2) rfl (As := [.int a1, .int (μ 76 8)]) rfl rfl rfl rfl rfl rfl (e_fB_isIn (d + 0) h_q1) ?_
  refine am_Ex.same 11 [.ref 0, .int a1, .int a2] [.int q1.1] q1.2 rfl ?_
  rcases am_ite h with ⟨q2, h⟩ | ⟨q2, h⟩
  · refine am_Ex.if_eq_t rfl q2 ?_
    refine am_Ex.seg 1 24 [.ref 0, .int a1, .int a2] [.int 0] q1.2 (fun _ => rfl) ?_
    cases h
    exact am_Ex.zret rfl rfl (by decide)
  · refine am_Ex.if_eq_f rfl q2 ?_
    refine am_Ex.seg 2 17 [.ref 0, .int a1, .int a2] [.int 8, .int a2] q1.2 (fun _ => rfl) ?_
    obtain ⟨q3, h_q3, h⟩ := am_bind h
    refine am_Ex.isk (na := 2) rfl (As := [.int a2, .int 8]) rfl rfl rfl rfl rfl rfl (e_fB_isIn (d + 0) h_q3) ?_
    refine am_Ex.same 20 [.ref 0, .int a1, .int a2] [.int q3.1] q3.2 rfl ?_
    rcases am_ite h with ⟨q4, h⟩ | ⟨q4, h⟩
    · refine am_Ex.if_ne_t rfl q4 ?_
      refine am_Ex.seg 5 34 [.ref 0, .int a1, .int a2] [.int a2, .int a1, .ref 78] q3.2 (fun _ => rfl) ?_
      obtain ⟨q5, h⟩ := am_bif h
      refine am_Ex.iast (v2 := a2) (i2 := (a1).toNatClampNeg) rfl rfl q5 rfl rfl ?_
      refine am_Ex.seg 1 36 [.ref 0, .int a1, .int a2] [.int 1] (am_up q3.2 78 ((a1).toNatClampNeg) a2) (fun _ => rfl) ?_
      cases h
      exact am_Ex.zret rfl rfl (by decide)
    · refine am_Ex.if_ne_f rfl (Decidable.not_not.mp q4) ?_
      refine am_Ex.seg 1 24 [.ref 0, .int a1, .int a2] [.int 0] q3.2 (fun _ => rfl) ?_
      cases h
      exact am_Ex.zret rfl rfl (by decide)
def fB_trust (a1 : Int32) (a2 : Int32) (a3 : Int32) (μ : am_Mu) : Option (Int32 × am_Mu) := ((fB_isIn a1 2 μ).bind fun q1 => (if q1.1 = 0 then some (0, q1.2) else ((fB_isIn a2 8 q1.2).bind fun q3 => (if ¬ q3.1 = 0 then (bif am_inb ((a1 * 8) + a2) 16 then (if ¬ (q3.2 81 ((((a1 * 8) + a2)).toNatClampNeg)) = a3 then some (1, (am_up q3.2 81 ((((a1 * 8) + a2)).toNatClampNeg) (a3 &&& 1))) else some (0, q3.2)) else none) else some (0, q3.2)))))
set_option maxRecDepth 20000 in
theorem e_fB_trust (d : Nat) : ∀ {a1 : Int32} {a2 : Int32} {a3 : Int32} {μ : am_Mu} {out : Int32 × am_Mu}, fB_trust a1 a2 a3 μ = some out → am_Ex none (d + 1) 119 0 [.ref 0, .int a1, .int a2, .int a3, .null] [] am_SH μ (some (.int out.1), am_SH, out.2) := by
  intro a1 a2 a3 μ out h
  unfold fB_trust at h
  refine am_Ex.seg 2 2 [.ref 0, .int a1, .int a2, .int a3, .null] [.int 2, .int a1] μ (fun _ => rfl) ?_
  obtain ⟨q1, h_q1, h⟩ := am_bind h
  refine am_Ex.isk (na := 2) rfl (As := [.int a1, .int 2]) rfl rfl rfl rfl rfl rfl (e_fB_isIn (d + 0) h_q1) ?_
  refine am_Ex.same 5 [.ref 0, .int a1, .int a2, .int a3, .null] [.int q1.1] q1.2 rfl ?_
  rcases am_ite h with ⟨q2, h⟩ | ⟨q2, h⟩
  · refine am_Ex.if_eq_t rfl q2 ?_
    refine am_Ex.seg 1 18 [.ref 0, .int a1, .int a2, .int a3, .null] [.int 0] q1.2 (fun _ => rfl) ?_
    cases h
    exact am_Ex.zret rfl rfl (by decide)
  · refine am_Ex.if_eq_f rfl q2 ?_
    refine am_Ex.seg 2 11 [.ref 0, .int a1, .int a2, .int a3, .null] [.int 8, .int a2] q1.2 (fun _ => rfl) ?_
    obtain ⟨q3, h_q3, h⟩ := am_bind h
    refine am_Ex.isk (na := 2) rfl (As := [.int a2, .int 8]) rfl rfl rfl rfl rfl rfl (e_fB_isIn (d + 0) h_q3) ?_
    refine am_Ex.same 14 [.ref 0, .int a1, .int a2, .int a3, .null] [.int q3.1] q3.2 rfl ?_
    rcases am_ite h with ⟨q4, h⟩ | ⟨q4, h⟩
    · refine am_Ex.if_ne_t rfl q4 ?_
      refine am_Ex.seg 10 36 [.ref 0, .int a1, .int a2, .int a3, .int ((a1 * 8) + a2)] [.int ((a1 * 8) + a2), .ref 81] q3.2 (fun _ => rfl) ?_
      obtain ⟨q5, h⟩ := am_bif h
      refine am_Ex.zald (v := (q3.2 81 ((((a1 * 8) + a2)).toNatClampNeg))) rfl rfl q5 rfl ?_
      refine am_Ex.seg 1 38 [.ref 0, .int a1, .int a2, .int a3, .int ((a1 * 8) + a2)] [.int a3, .int (q3.2 81 ((((a1 * 8) + a2)).toNatClampNeg))] q3.2 (fun _ => rfl) ?_
      rcases am_ite h with ⟨q6, h⟩ | ⟨q6, h⟩
      · refine am_Ex.icmp_ne_t rfl q6 ?_
        refine am_Ex.seg 5 53 [.ref 0, .int a1, .int a2, .int a3, .int ((a1 * 8) + a2)] [.int a3, .int ((a1 * 8) + a2), .ref 81] q3.2 (fun _ => rfl) ?_
        refine am_Ex.zast (v2 := (a3 &&& 1)) (i2 := (((a1 * 8) + a2)).toNatClampNeg) rfl rfl q5 rfl rfl ?_
        refine am_Ex.seg 1 55 [.ref 0, .int a1, .int a2, .int a3, .int ((a1 * 8) + a2)] [.int 1] (am_up q3.2 81 ((((a1 * 8) + a2)).toNatClampNeg) (a3 &&& 1)) (fun _ => rfl) ?_
        cases h
        exact am_Ex.zret rfl rfl (by decide)
      · refine am_Ex.icmp_ne_f rfl (Decidable.not_not.mp q6) ?_
        refine am_Ex.seg 1 42 [.ref 0, .int a1, .int a2, .int a3, .int ((a1 * 8) + a2)] [.int 0] q3.2 (fun _ => rfl) ?_
        cases h
        exact am_Ex.zret rfl rfl (by decide)
    · refine am_Ex.if_ne_f rfl (Decidable.not_not.mp q4) ?_
      refine am_Ex.seg 1 18 [.ref 0, .int a1, .int a2, .int a3, .null] [.int 0] q3.2 (fun _ => rfl) ?_
      cases h
      exact am_Ex.zret rfl rfl (by decide)
def fB_lot (a1 : Int32) (a2 : Int32) (μ : am_Mu) : Option (Int32 × am_Mu) := ((fLots_add a1 a2 μ).bind fun q1 => some (q1.1, q1.2))
set_option maxRecDepth 20000 in
theorem e_fB_lot (d : Nat) : ∀ {a1 : Int32} {a2 : Int32} {μ : am_Mu} {out : Int32 × am_Mu}, fB_lot a1 a2 μ = some out → am_Ex none (d + 2) 120 0 [.ref 0, .int a1, .int a2] [] am_SH μ (some (.int out.1), am_SH, out.2) := by
  intro a1 a2 μ out h
  unfold fB_lot at h
  refine am_Ex.seg 4 6 [.ref 0, .int a1, .int a2] [.int a2, .int a1, .ref 84] μ (fun _ => rfl) ?_
  obtain ⟨q1, h_q1, h⟩ := am_bind h
  refine am_Ex.ivk (na := 3) (b := 84) (As' := [.int a1, .int a2]) rfl rfl rfl rfl rfl rfl rfl rfl rfl (e_fLots_add (d + 0) h_q1) ?_
  refine am_Ex.same 9 [.ref 0, .int a1, .int a2] [.int q1.1] q1.2 rfl ?_
  cases h
  exact am_Ex.iret rfl rfl
def fB_pass (a1 : Int32) (a2 : Int32) (a3 : Int32) (a4 : Int32) (a5 : Int32) (μ : am_Mu) : Option (Int32 × am_Mu) := ((fLots_move a1 a2 a3 a4 a5 μ).bind fun q1 => (if q1.1 &&& 1 = q1.1 then some (q1.1, q1.2) else none))
set_option maxRecDepth 20000 in
theorem e_fB_pass (d : Nat) : ∀ {a1 : Int32} {a2 : Int32} {a3 : Int32} {a4 : Int32} {a5 : Int32} {μ : am_Mu} {out : Int32 × am_Mu}, fB_pass a1 a2 a3 a4 a5 μ = some out → am_Ex none (d + 2) 121 0 [.ref 0, .int a1, .int a2, .int a3, .int a4, .int a5] [] am_SH μ (some (.int out.1), am_SH, out.2) := by
  intro a1 a2 a3 a4 a5 μ out h
  unfold fB_pass at h
  refine am_Ex.seg 7 11 [.ref 0, .int a1, .int a2, .int a3, .int a4, .int a5] [.int a5, .int a4, .int a3, .int a2, .int a1, .ref 84] μ (fun _ => rfl) ?_
  obtain ⟨q1, h_q1, h⟩ := am_bind h
  refine am_Ex.ivk (na := 6) (b := 84) (As' := [.int a1, .int a2, .int a3, .int a4, .int a5]) rfl rfl rfl rfl rfl rfl rfl rfl rfl (e_fLots_move (d + 0) h_q1) ?_
  refine am_Ex.same 14 [.ref 0, .int a1, .int a2, .int a3, .int a4, .int a5] [.int q1.1] q1.2 rfl ?_
  obtain ⟨q2, h⟩ := am_ifp h
  cases h
  exact am_Ex.zret rfl rfl q2
def fB_units (a1 : Int32) (a2 : Int32) (μ : am_Mu) : Option (Int32 × am_Mu) := ((fB_isIn a1 (μ 84 13) μ).bind fun q1 => (if q1.1 = 0 then some ((-1), q1.2) else ((fB_isIn a2 (q1.2 76 8) q1.2).bind fun q3 => (if ¬ q3.1 = 0 then (bif am_inb ((a1 * 8) + a2) 80 then some ((q3.2 88 ((((a1 * 8) + a2)).toNatClampNeg)), q3.2) else none) else some ((-1), q3.2)))))
set_option maxRecDepth 20000 in
theorem e_fB_units (d : Nat) : ∀ {a1 : Int32} {a2 : Int32} {μ : am_Mu} {out : Int32 × am_Mu}, fB_units a1 a2 μ = some out → am_Ex none (d + 1) 122 0 [.ref 0, .int a1, .int a2] [] am_SH μ (some (.int out.1), am_SH, out.2) := by
  intro a1 a2 μ out h
  unfold fB_units at h
  refine am_Ex.seg 4 8 [.ref 0, .int a1, .int a2] [.int (μ 84 13), .int a1] μ (fun _ => rfl) ?_
  obtain ⟨q1, h_q1, h⟩ := am_bind h
  refine am_Ex.isk (na := 2) rfl (As := [.int a1, .int (μ 84 13)]) rfl rfl rfl rfl rfl rfl (e_fB_isIn (d + 0) h_q1) ?_
  refine am_Ex.same 11 [.ref 0, .int a1, .int a2] [.int q1.1] q1.2 rfl ?_
  rcases am_ite h with ⟨q2, h⟩ | ⟨q2, h⟩
  · refine am_Ex.if_eq_t rfl q2 ?_
    refine am_Ex.seg 1 29 [.ref 0, .int a1, .int a2] [.int (-1)] q1.2 (fun _ => rfl) ?_
    cases h
    exact am_Ex.iret rfl rfl
  · refine am_Ex.if_eq_f rfl q2 ?_
    refine am_Ex.seg 4 22 [.ref 0, .int a1, .int a2] [.int (q1.2 76 8), .int a2] q1.2 (fun _ => rfl) ?_
    obtain ⟨q3, h_q3, h⟩ := am_bind h
    refine am_Ex.isk (na := 2) rfl (As := [.int a2, .int (q1.2 76 8)]) rfl rfl rfl rfl rfl rfl (e_fB_isIn (d + 0) h_q3) ?_
    refine am_Ex.same 25 [.ref 0, .int a1, .int a2] [.int q3.1] q3.2 rfl ?_
    rcases am_ite h with ⟨q4, h⟩ | ⟨q4, h⟩
    · refine am_Ex.if_ne_t rfl q4 ?_
      refine am_Ex.seg 8 43 [.ref 0, .int a1, .int a2] [.int ((a1 * 8) + a2), .ref 88] q3.2 (fun _ => rfl) ?_
      obtain ⟨q5, h⟩ := am_bif h
      refine am_Ex.iald (v := (q3.2 88 ((((a1 * 8) + a2)).toNatClampNeg))) rfl rfl q5 rfl ?_
      cases h
      exact am_Ex.iret rfl rfl
    · refine am_Ex.if_ne_f rfl (Decidable.not_not.mp q4) ?_
      refine am_Ex.seg 1 29 [.ref 0, .int a1, .int a2] [.int (-1)] q3.2 (fun _ => rfl) ?_
      cases h
      exact am_Ex.iret rfl rfl
def fB_good (a1 : Int32) (a2 : Int32) (a3 : Int32) (a4 : Int32) (μ : am_Mu) : Option (Int32 × am_Mu) := ((fB_isIn a1 2 μ).bind fun q1 => (if q1.1 = 0 then some ((-1), q1.2) else ((fB_isIn a2 (q1.2 84 13) q1.2).bind fun q3 => (if q3.1 = 0 then some ((-1), q3.2) else ((fB_isIn a3 (q3.2 76 8) q3.2).bind fun q5 => (if ¬ q5.1 = 0 then ((fB_isIn a4 2 q5.2).bind fun q7 => (if ¬ q7.1 = 0 then ((fLots_seeGood a1 a2 q7.2).bind fun q9 => (if ¬ a4 = 0 then (bif am_inb a3 8 then some ((q9 96 ((a3).toNatClampNeg)), q9) else none) else (bif am_inb a3 8 then some ((q9 95 ((a3).toNatClampNeg)), q9) else none))) else some ((-1), q7.2))) else some ((-1), q5.2)))))))
set_option maxRecDepth 20000 in
theorem e_fB_good (d : Nat) : ∀ {a1 : Int32} {a2 : Int32} {a3 : Int32} {a4 : Int32} {μ : am_Mu} {out : Int32 × am_Mu}, fB_good a1 a2 a3 a4 μ = some out → am_Ex none (d + 3) 123 0 [.ref 0, .int a1, .int a2, .int a3, .int a4] [] am_SH μ (some (.int out.1), am_SH, out.2) := by
  intro a1 a2 a3 a4 μ out h
  unfold fB_good at h
  refine am_Ex.seg 2 2 [.ref 0, .int a1, .int a2, .int a3, .int a4] [.int 2, .int a1] μ (fun _ => rfl) ?_
  obtain ⟨q1, h_q1, h⟩ := am_bind h
  refine am_Ex.isk (na := 2) rfl (As := [.int a1, .int 2]) rfl rfl rfl rfl rfl rfl (e_fB_isIn (d + 2) h_q1) ?_
  refine am_Ex.same 5 [.ref 0, .int a1, .int a2, .int a3, .int a4] [.int q1.1] q1.2 rfl ?_
  rcases am_ite h with ⟨q2, h⟩ | ⟨q2, h⟩
  · refine am_Ex.if_eq_t rfl q2 ?_
    refine am_Ex.seg 1 37 [.ref 0, .int a1, .int a2, .int a3, .int a4] [.int (-1)] q1.2 (fun _ => rfl) ?_
    cases h
    exact am_Ex.iret rfl rfl
  · refine am_Ex.if_eq_f rfl q2 ?_
    refine am_Ex.seg 4 16 [.ref 0, .int a1, .int a2, .int a3, .int a4] [.int (q1.2 84 13), .int a2] q1.2 (fun _ => rfl) ?_
    obtain ⟨q3, h_q3, h⟩ := am_bind h
    refine am_Ex.isk (na := 2) rfl (As := [.int a2, .int (q1.2 84 13)]) rfl rfl rfl rfl rfl rfl (e_fB_isIn (d + 2) h_q3) ?_
    refine am_Ex.same 19 [.ref 0, .int a1, .int a2, .int a3, .int a4] [.int q3.1] q3.2 rfl ?_
    rcases am_ite h with ⟨q4, h⟩ | ⟨q4, h⟩
    · refine am_Ex.if_eq_t rfl q4 ?_
      refine am_Ex.seg 1 37 [.ref 0, .int a1, .int a2, .int a3, .int a4] [.int (-1)] q3.2 (fun _ => rfl) ?_
      cases h
      exact am_Ex.iret rfl rfl
    · refine am_Ex.if_eq_f rfl q4 ?_
      refine am_Ex.seg 4 30 [.ref 0, .int a1, .int a2, .int a3, .int a4] [.int (q3.2 76 8), .int a3] q3.2 (fun _ => rfl) ?_
      obtain ⟨q5, h_q5, h⟩ := am_bind h
      refine am_Ex.isk (na := 2) rfl (As := [.int a3, .int (q3.2 76 8)]) rfl rfl rfl rfl rfl rfl (e_fB_isIn (d + 2) h_q5) ?_
      refine am_Ex.same 33 [.ref 0, .int a1, .int a2, .int a3, .int a4] [.int q5.1] q5.2 rfl ?_
      rcases am_ite h with ⟨q6, h⟩ | ⟨q6, h⟩
      · refine am_Ex.if_ne_t rfl q6 ?_
        refine am_Ex.seg 2 41 [.ref 0, .int a1, .int a2, .int a3, .int a4] [.int 2, .int a4] q5.2 (fun _ => rfl) ?_
        obtain ⟨q7, h_q7, h⟩ := am_bind h
        refine am_Ex.isk (na := 2) rfl (As := [.int a4, .int 2]) rfl rfl rfl rfl rfl rfl (e_fB_isIn (d + 2) h_q7) ?_
        refine am_Ex.same 44 [.ref 0, .int a1, .int a2, .int a3, .int a4] [.int q7.1] q7.2 rfl ?_
        rcases am_ite h with ⟨q8, h⟩ | ⟨q8, h⟩
        · refine am_Ex.if_ne_t rfl q8 ?_
          refine am_Ex.seg 4 55 [.ref 0, .int a1, .int a2, .int a3, .int a4] [.int a2, .int a1, .ref 84] q7.2 (fun _ => rfl) ?_
          obtain ⟨q9, h_q9, h⟩ := am_bind h
          refine am_Ex.ivk (na := 3) (b := 84) (As' := [.int a1, .int a2]) rfl rfl rfl rfl rfl rfl rfl rfl rfl (e_fLots_seeGood (d + 0) h_q9) ?_
          refine am_Ex.same 58 [.ref 0, .int a1, .int a2, .int a3, .int a4] [] q9 rfl ?_
          refine am_Ex.seg 1 60 [.ref 0, .int a1, .int a2, .int a3, .int a4] [.int a4] q9 (fun _ => rfl) ?_
          rcases am_ite h with ⟨q10, h⟩ | ⟨q10, h⟩
          · refine am_Ex.if_ne_t rfl q10 ?_
            refine am_Ex.seg 4 83 [.ref 0, .int a1, .int a2, .int a3, .int a4] [.int a3, .ref 96] q9 (fun _ => rfl) ?_
            obtain ⟨q11, h⟩ := am_bif h
            refine am_Ex.iald (v := (q9 96 ((a3).toNatClampNeg))) rfl rfl q11 rfl ?_
            cases h
            exact am_Ex.iret rfl rfl
          · refine am_Ex.if_ne_f rfl (Decidable.not_not.mp q10) ?_
            refine am_Ex.seg 4 71 [.ref 0, .int a1, .int a2, .int a3, .int a4] [.int a3, .ref 95] q9 (fun _ => rfl) ?_
            obtain ⟨q12, h⟩ := am_bif h
            refine am_Ex.iald (v := (q9 95 ((a3).toNatClampNeg))) rfl rfl q12 rfl ?_
            refine am_Ex.goto rfl ?_
            cases h
            exact am_Ex.iret rfl rfl
        · refine am_Ex.if_ne_f rfl (Decidable.not_not.mp q8) ?_
          refine am_Ex.seg 1 48 [.ref 0, .int a1, .int a2, .int a3, .int a4] [.int (-1)] q7.2 (fun _ => rfl) ?_
          cases h
          exact am_Ex.iret rfl rfl
      · refine am_Ex.if_ne_f rfl (Decidable.not_not.mp q6) ?_
        refine am_Ex.seg 1 37 [.ref 0, .int a1, .int a2, .int a3, .int a4] [.int (-1)] q5.2 (fun _ => rfl) ?_
        cases h
        exact am_Ex.iret rfl rfl
def fB_recall (a1 : Int32) (μ : am_Mu) : Option (Int32 × am_Mu) := ((fB_isIn a1 (μ 84 13) μ).bind fun q1 => (if ¬ q1.1 = 0 then (bif am_inb a1 10 then some ((q1.2 87 ((a1).toNatClampNeg)), q1.2) else none) else some ((-1), q1.2)))
set_option maxRecDepth 20000 in
theorem e_fB_recall (d : Nat) : ∀ {a1 : Int32} {μ : am_Mu} {out : Int32 × am_Mu}, fB_recall a1 μ = some out → am_Ex none (d + 1) 124 0 [.ref 0, .int a1] [] am_SH μ (some (.int out.1), am_SH, out.2) := by
  intro a1 μ out h
  unfold fB_recall at h
  refine am_Ex.seg 4 8 [.ref 0, .int a1] [.int (μ 84 13), .int a1] μ (fun _ => rfl) ?_
  obtain ⟨q1, h_q1, h⟩ := am_bind h
  refine am_Ex.isk (na := 2) rfl (As := [.int a1, .int (μ 84 13)]) rfl rfl rfl rfl rfl rfl (e_fB_isIn (d + 0) h_q1) ?_
  refine am_Ex.same 11 [.ref 0, .int a1] [.int q1.1] q1.2 rfl ?_
  rcases am_ite h with ⟨q2, h⟩ | ⟨q2, h⟩
  · refine am_Ex.if_ne_t rfl q2 ?_
    refine am_Ex.seg 4 24 [.ref 0, .int a1] [.int a1, .ref 87] q1.2 (fun _ => rfl) ?_
    obtain ⟨q3, h⟩ := am_bif h
    refine am_Ex.iald (v := (q1.2 87 ((a1).toNatClampNeg))) rfl rfl q3 rfl ?_
    cases h
    exact am_Ex.iret rfl rfl
  · refine am_Ex.if_ne_f rfl (Decidable.not_not.mp q2) ?_
    refine am_Ex.seg 1 15 [.ref 0, .int a1] [.int (-1)] q1.2 (fun _ => rfl) ?_
    cases h
    exact am_Ex.iret rfl rfl
def fB_visitor (a1 : Int32) (a2 : Int32) (μ : am_Mu) : Option (Int32 × am_Mu) := ((fVisitors_add a1 a2 μ).bind fun q1 => some (q1.1, q1.2))
set_option maxRecDepth 20000 in
theorem e_fB_visitor (d : Nat) : ∀ {a1 : Int32} {a2 : Int32} {μ : am_Mu} {out : Int32 × am_Mu}, fB_visitor a1 a2 μ = some out → am_Ex none (d + 2) 125 0 [.ref 0, .int a1, .int a2] [] am_SH μ (some (.int out.1), am_SH, out.2) := by
  intro a1 a2 μ out h
  unfold fB_visitor at h
  refine am_Ex.seg 4 6 [.ref 0, .int a1, .int a2] [.int a2, .int a1, .ref 97] μ (fun _ => rfl) ?_
  obtain ⟨q1, h_q1, h⟩ := am_bind h
  refine am_Ex.ivk (na := 3) (b := 97) (As' := [.int a1, .int a2]) rfl rfl rfl rfl rfl rfl rfl rfl rfl (e_fVisitors_add (d + 0) h_q1) ?_
  refine am_Ex.same 9 [.ref 0, .int a1, .int a2] [.int q1.1] q1.2 rfl ?_
  cases h
  exact am_Ex.iret rfl rfl
def fB_seed (a1 : Int32) (a2 : Int32) (μ : am_Mu) : Option (Int32 × am_Mu) := ((fVisits_reseed a1 a2 μ).bind fun q1 => (if q1.1 &&& 1 = q1.1 then some (q1.1, q1.2) else none))
set_option maxRecDepth 20000 in
theorem e_fB_seed (d : Nat) : ∀ {a1 : Int32} {a2 : Int32} {μ : am_Mu} {out : Int32 × am_Mu}, fB_seed a1 a2 μ = some out → am_Ex none (d + 1) 126 0 [.ref 0, .int a1, .int a2] [] am_SH μ (some (.int out.1), am_SH, out.2) := by
  intro a1 a2 μ out h
  unfold fB_seed at h
  refine am_Ex.seg 4 6 [.ref 0, .int a1, .int a2] [.int a2, .int a1, .ref 102] μ (fun _ => rfl) ?_
  obtain ⟨q1, h_q1, h⟩ := am_bind h
  refine am_Ex.ivk (na := 3) (b := 102) (As' := [.int a1, .int a2]) rfl rfl rfl rfl rfl rfl rfl rfl rfl (e_fVisits_reseed (d + 0) h_q1) ?_
  refine am_Ex.same 9 [.ref 0, .int a1, .int a2] [.int q1.1] q1.2 rfl ?_
  obtain ⟨q2, h⟩ := am_ifp h
  cases h
  exact am_Ex.zret rfl rfl q2
def fB_today (μ : am_Mu) : Option (Int32 × am_Mu) := some (((μ 0 11) / 1440), μ)
set_option maxRecDepth 20000 in
theorem e_fB_today (d : Nat) : ∀ {μ : am_Mu} {out : Int32 × am_Mu}, fB_today μ = some out → am_Ex none (d + 0) 139 0 [.ref 0] [] am_SH μ (some (.int out.1), am_SH, out.2) := by
  intro μ out h
  unfold fB_today at h
  refine am_Ex.seg 3 7 [.ref 0] [.int 1440, .int (μ 0 11)] μ (fun _ => rfl) ?_
  refine am_Ex.idiv rfl (by decide) ?_
  cases h
  exact am_Ex.iret rfl rfl
def fB_draw (μ : am_Mu) : Option (Int32 × am_Mu) := ((fB_today μ).bind fun q1 => ((fVisits_drawOne q1.1 q1.2).bind fun q2 => some (q2.1, q2.2)))
set_option maxRecDepth 20000 in
theorem e_fB_draw (d : Nat) : ∀ {μ : am_Mu} {out : Int32 × am_Mu}, fB_draw μ = some out → am_Ex none (d + 3) 127 0 [.ref 0] [] am_SH μ (some (.int out.1), am_SH, out.2) := by
  intro μ out h
  unfold fB_draw at h
  refine am_Ex.seg 3 5 [.ref 0] [.ref 0, .ref 102] μ (fun _ => rfl) ?_
  obtain ⟨q1, h_q1, h⟩ := am_bind h
  refine am_Ex.ivk (na := 1) (b := 0) (As' := []) rfl rfl rfl rfl rfl rfl rfl rfl rfl (e_fB_today (d + 2) h_q1) ?_
  refine am_Ex.same 8 [.ref 0] [.int q1.1, .ref 102] q1.2 rfl ?_
  obtain ⟨q2, h_q2, h⟩ := am_bind h
  refine am_Ex.ivk (na := 2) (b := 102) (As' := [.int q1.1]) rfl rfl rfl rfl rfl rfl rfl rfl rfl (e_fVisits_drawOne (d + 0) h_q2) ?_
  refine am_Ex.same 11 [.ref 0] [.int q2.1] q2.2 rfl ?_
  cases h
  exact am_Ex.iret rfl rfl
def fB_row (μ : am_Mu) : Option (Int32 × am_Mu) := ((fB_today μ).bind fun q1 => ((fVisits_fillRow q1.1 q1.2).bind fun q2 => some (q2.1, q2.2)))
set_option maxRecDepth 20000 in
theorem e_fB_row (d : Nat) : ∀ {μ : am_Mu} {out : Int32 × am_Mu}, fB_row μ = some out → am_Ex none (d + 2) 128 0 [.ref 0] [] am_SH μ (some (.int out.1), am_SH, out.2) := by
  intro μ out h
  unfold fB_row at h
  refine am_Ex.seg 3 5 [.ref 0] [.ref 0, .ref 102] μ (fun _ => rfl) ?_
  obtain ⟨q1, h_q1, h⟩ := am_bind h
  refine am_Ex.ivk (na := 1) (b := 0) (As' := []) rfl rfl rfl rfl rfl rfl rfl rfl rfl (e_fB_today (d + 1) h_q1) ?_
  refine am_Ex.same 8 [.ref 0] [.int q1.1, .ref 102] q1.2 rfl ?_
  obtain ⟨q2, h_q2, h⟩ := am_bind h
  refine am_Ex.ivk (na := 2) (b := 102) (As' := [.int q1.1]) rfl rfl rfl rfl rfl rfl rfl rfl rfl (e_fVisits_fillRow (d + 0) h_q2) ?_
  refine am_Ex.same 11 [.ref 0] [.int q2.1] q2.2 rfl ?_
  cases h
  exact am_Ex.iret rfl rfl
def fB_visit (a1 : Int32) (a2 : Int32) (μ : am_Mu) : Option (Int32 × am_Mu) := ((fB_isIn a1 (μ 102 7) μ).bind fun q1 => (if ¬ q1.1 = 0 then (if a2 = 0 then ((fVisits_kitchenOf a1 q1.2).bind fun q4 => some (q4.1, q4.2)) else (if a2 = 1 then ((fVisits_visitorOf a1 q1.2).bind fun q6 => some (q6.1, q6.2)) else (if a2 = 2 then (bif am_inb a1 400 then some ((q1.2 104 ((a1).toNatClampNeg)), q1.2) else none) else some ((-1), q1.2)))) else some ((-1), q1.2)))
set_option maxRecDepth 20000 in
theorem e_fB_visit (d : Nat) : ∀ {a1 : Int32} {a2 : Int32} {μ : am_Mu} {out : Int32 × am_Mu}, fB_visit a1 a2 μ = some out → am_Ex none (d + 1) 129 0 [.ref 0, .int a1, .int a2] [] am_SH μ (some (.int out.1), am_SH, out.2) := by
  intro a1 a2 μ out h
  unfold fB_visit at h
  refine am_Ex.seg 4 8 [.ref 0, .int a1, .int a2] [.int (μ 102 7), .int a1] μ (fun _ => rfl) ?_
  obtain ⟨q1, h_q1, h⟩ := am_bind h
  refine am_Ex.isk (na := 2) rfl (As := [.int a1, .int (μ 102 7)]) rfl rfl rfl rfl rfl rfl (e_fB_isIn (d + 0) h_q1) ?_
  refine am_Ex.same 11 [.ref 0, .int a1, .int a2] [.int q1.1] q1.2 rfl ?_
  rcases am_ite h with ⟨q2, h⟩ | ⟨q2, h⟩
  · refine am_Ex.if_ne_t rfl q2 ?_
    refine am_Ex.seg 1 17 [.ref 0, .int a1, .int a2] [.int a2] q1.2 (fun _ => rfl) ?_
    rcases am_ite h with ⟨q3, h⟩ | ⟨q3, h⟩
    · refine am_Ex.tblIn 44 (v := 0) rfl q3 (by decide) rfl rfl ?_
      refine am_Ex.seg 3 49 [.ref 0, .int a1, .int a2] [.int a1, .ref 102] q1.2 (fun _ => rfl) ?_
      obtain ⟨q4, h_q4, h⟩ := am_bind h
      refine am_Ex.ivk (na := 2) (b := 102) (As' := [.int a1]) rfl rfl rfl rfl rfl rfl rfl rfl rfl (e_fVisits_kitchenOf (d + 0) h_q4) ?_
      refine am_Ex.same 52 [.ref 0, .int a1, .int a2] [.int q4.1] q4.2 rfl ?_
      cases h
      exact am_Ex.iret rfl rfl
    rcases am_ite h with ⟨q5, h⟩ | ⟨q5, h⟩
    · refine am_Ex.tblIn 53 (v := 1) rfl q5 (by decide) rfl rfl ?_
      refine am_Ex.seg 3 58 [.ref 0, .int a1, .int a2] [.int a1, .ref 102] q1.2 (fun _ => rfl) ?_
      obtain ⟨q6, h_q6, h⟩ := am_bind h
      refine am_Ex.ivk (na := 2) (b := 102) (As' := [.int a1]) rfl rfl rfl rfl rfl rfl rfl rfl rfl (e_fVisits_visitorOf (d + 0) h_q6) ?_
      refine am_Ex.same 61 [.ref 0, .int a1, .int a2] [.int q6.1] q6.2 rfl ?_
      cases h
      exact am_Ex.iret rfl rfl
    rcases am_ite h with ⟨q7, h⟩ | ⟨q7, h⟩
    · refine am_Ex.tblIn 62 (v := 2) rfl q7 (by decide) rfl rfl ?_
      refine am_Ex.seg 4 70 [.ref 0, .int a1, .int a2] [.int a1, .ref 104] q1.2 (fun _ => rfl) ?_
      obtain ⟨q8, h⟩ := am_bif h
      refine am_Ex.iald (v := (q1.2 104 ((a1).toNatClampNeg))) rfl rfl q8 rfl ?_
      cases h
      exact am_Ex.iret rfl rfl
    refine am_Ex.tblOut 72 rfl (by have := lv_neT q3 (a := 0) rfl; have := lv_neT q5 (a := 1) rfl; have := lv_neT q7 (a := 2) rfl; omega) rfl ?_
    refine am_Ex.seg 1 73 [.ref 0, .int a1, .int a2] [.int (-1)] q1.2 (fun _ => rfl) ?_
    cases h
    exact am_Ex.iret rfl rfl
  · refine am_Ex.if_ne_f rfl (Decidable.not_not.mp q2) ?_
    refine am_Ex.seg 1 15 [.ref 0, .int a1, .int a2] [.int (-1)] q1.2 (fun _ => rfl) ?_
    cases h
    exact am_Ex.iret rfl rfl
def fB_tour (a1 : Int32) (μ : am_Mu) : Option (Int32 × am_Mu) := ((fB_isIn a1 (μ 97 4) μ).bind fun q1 => (if ¬ q1.1 = 0 then ((fB_today q1.2).bind fun q3 => ((fVisits_kitchensOn q3.1 a1 q3.2).bind fun q4 => ((fKitchens_planTour q4.1 q4.2).bind fun q5 => some (q5.1, q5.2)))) else some ((-1), q1.2)))
set_option maxRecDepth 20000 in
theorem e_fB_tour (d : Nat) : ∀ {a1 : Int32} {μ : am_Mu} {out : Int32 × am_Mu}, fB_tour a1 μ = some out → am_Ex none (d + 6) 130 0 [.ref 0, .int a1] [] am_SH μ (some (.int out.1), am_SH, out.2) := by
  intro a1 μ out h
  unfold fB_tour at h
  refine am_Ex.seg 4 8 [.ref 0, .int a1] [.int (μ 97 4), .int a1] μ (fun _ => rfl) ?_
  obtain ⟨q1, h_q1, h⟩ := am_bind h
  refine am_Ex.isk (na := 2) rfl (As := [.int a1, .int (μ 97 4)]) rfl rfl rfl rfl rfl rfl (e_fB_isIn (d + 5) h_q1) ?_
  refine am_Ex.same 11 [.ref 0, .int a1] [.int q1.1] q1.2 rfl ?_
  rcases am_ite h with ⟨q2, h⟩ | ⟨q2, h⟩
  · refine am_Ex.if_ne_t rfl q2 ?_
    refine am_Ex.seg 5 25 [.ref 0, .int a1] [.ref 0, .ref 102, .ref 76] q1.2 (fun _ => rfl) ?_
    obtain ⟨q3, h_q3, h⟩ := am_bind h
    refine am_Ex.ivk (na := 1) (b := 0) (As' := []) rfl rfl rfl rfl rfl rfl rfl rfl rfl (e_fB_today (d + 5) h_q3) ?_
    refine am_Ex.same 28 [.ref 0, .int a1] [.int q3.1, .ref 102, .ref 76] q3.2 rfl ?_
    refine am_Ex.seg 1 29 [.ref 0, .int a1] [.int a1, .int q3.1, .ref 102, .ref 76] q3.2 (fun _ => rfl) ?_
    obtain ⟨q4, h_q4, h⟩ := am_bind h
    refine am_Ex.ivk (na := 3) (b := 102) (As' := [.int q3.1, .int a1]) rfl rfl rfl rfl rfl rfl rfl rfl rfl (e_fVisits_kitchensOn (d + 4) h_q4) ?_
    refine am_Ex.same 32 [.ref 0, .int a1] [.int q4.1, .ref 76] q4.2 rfl ?_
    obtain ⟨q5, h_q5, h⟩ := am_bind h
    refine am_Ex.ivk (na := 2) (b := 76) (As' := [.int q4.1]) rfl rfl rfl rfl rfl rfl rfl rfl rfl (e_fKitchens_planTour (d + 0) h_q5) ?_
    refine am_Ex.same 35 [.ref 0, .int a1] [.int q5.1] q5.2 rfl ?_
    cases h
    exact am_Ex.iret rfl rfl
  · refine am_Ex.if_ne_f rfl (Decidable.not_not.mp q2) ?_
    refine am_Ex.seg 1 15 [.ref 0, .int a1] [.int (-1)] q1.2 (fun _ => rfl) ?_
    cases h
    exact am_Ex.iret rfl rfl
def fB_stop (a1 : Int32) (a2 : Int32) (μ : am_Mu) : Option (Int32 × am_Mu) := ((fB_isIn a1 (μ 97 4) μ).bind fun q1 => (if q1.1 = 0 then some ((-1), q1.2) else ((fB_isIn a2 8 q1.2).bind fun q3 => (if ¬ q3.1 = 0 then ((fB_today q3.2).bind fun q5 => ((fVisits_kitchensOn q5.1 a1 q5.2).bind fun q6 => ((fKitchens_planTour q6.1 q6.2).bind fun q7 => (if (q7.2 76 7) ≤ a2 then some ((-1), q7.2) else (bif am_inb a2 8 then some ((q7.2 83 ((a2).toNatClampNeg)), q7.2) else none))))) else some ((-1), q3.2)))))
set_option maxRecDepth 20000 in
theorem e_fB_stop (d : Nat) : ∀ {a1 : Int32} {a2 : Int32} {μ : am_Mu} {out : Int32 × am_Mu}, fB_stop a1 a2 μ = some out → am_Ex none (d + 6) 131 0 [.ref 0, .int a1, .int a2] [] am_SH μ (some (.int out.1), am_SH, out.2) := by
  intro a1 a2 μ out h
  unfold fB_stop at h
  refine am_Ex.seg 4 8 [.ref 0, .int a1, .int a2] [.int (μ 97 4), .int a1] μ (fun _ => rfl) ?_
  obtain ⟨q1, h_q1, h⟩ := am_bind h
  refine am_Ex.isk (na := 2) rfl (As := [.int a1, .int (μ 97 4)]) rfl rfl rfl rfl rfl rfl (e_fB_isIn (d + 5) h_q1) ?_
  refine am_Ex.same 11 [.ref 0, .int a1, .int a2] [.int q1.1] q1.2 rfl ?_
  rcases am_ite h with ⟨q2, h⟩ | ⟨q2, h⟩
  · refine am_Ex.if_eq_t rfl q2 ?_
    refine am_Ex.seg 1 24 [.ref 0, .int a1, .int a2] [.int (-1)] q1.2 (fun _ => rfl) ?_
    cases h
    exact am_Ex.iret rfl rfl
  · refine am_Ex.if_eq_f rfl q2 ?_
    refine am_Ex.seg 2 17 [.ref 0, .int a1, .int a2] [.int 8, .int a2] q1.2 (fun _ => rfl) ?_
    obtain ⟨q3, h_q3, h⟩ := am_bind h
    refine am_Ex.isk (na := 2) rfl (As := [.int a2, .int 8]) rfl rfl rfl rfl rfl rfl (e_fB_isIn (d + 5) h_q3) ?_
    refine am_Ex.same 20 [.ref 0, .int a1, .int a2] [.int q3.1] q3.2 rfl ?_
    rcases am_ite h with ⟨q4, h⟩ | ⟨q4, h⟩
    · refine am_Ex.if_ne_t rfl q4 ?_
      refine am_Ex.seg 5 34 [.ref 0, .int a1, .int a2] [.ref 0, .ref 102, .ref 76] q3.2 (fun _ => rfl) ?_
      obtain ⟨q5, h_q5, h⟩ := am_bind h
      refine am_Ex.ivk (na := 1) (b := 0) (As' := []) rfl rfl rfl rfl rfl rfl rfl rfl rfl (e_fB_today (d + 5) h_q5) ?_
      refine am_Ex.same 37 [.ref 0, .int a1, .int a2] [.int q5.1, .ref 102, .ref 76] q5.2 rfl ?_
      refine am_Ex.seg 1 38 [.ref 0, .int a1, .int a2] [.int a1, .int q5.1, .ref 102, .ref 76] q5.2 (fun _ => rfl) ?_
      obtain ⟨q6, h_q6, h⟩ := am_bind h
      refine am_Ex.ivk (na := 3) (b := 102) (As' := [.int q5.1, .int a1]) rfl rfl rfl rfl rfl rfl rfl rfl rfl (e_fVisits_kitchensOn (d + 4) h_q6) ?_
      refine am_Ex.same 41 [.ref 0, .int a1, .int a2] [.int q6.1, .ref 76] q6.2 rfl ?_
      obtain ⟨q7, h_q7, h⟩ := am_bind h
      refine am_Ex.ivk (na := 2) (b := 76) (As' := [.int q6.1]) rfl rfl rfl rfl rfl rfl rfl rfl rfl (e_fKitchens_planTour (d + 0) h_q7) ?_
      refine am_Ex.same 44 [.ref 0, .int a1, .int a2] [.int q7.1] q7.2 rfl ?_
      refine am_Ex.seg 5 53 [.ref 0, .int a1, .int a2] [.int (q7.2 76 7), .int a2] q7.2 (fun _ => rfl) ?_
      rcases am_ite h with ⟨q8, h⟩ | ⟨q8, h⟩
      · refine am_Ex.icmp_ge_t rfl q8 ?_
        refine am_Ex.seg 1 69 [.ref 0, .int a1, .int a2] [.int (-1)] q7.2 (fun _ => rfl) ?_
        cases h
        exact am_Ex.iret rfl rfl
      · refine am_Ex.icmp_ge_f rfl q8 ?_
        refine am_Ex.seg 4 64 [.ref 0, .int a1, .int a2] [.int a2, .ref 83] q7.2 (fun _ => rfl) ?_
        obtain ⟨q9, h⟩ := am_bif h
        refine am_Ex.iald (v := (q7.2 83 ((a2).toNatClampNeg))) rfl rfl q9 rfl ?_
        refine am_Ex.goto rfl ?_
        cases h
        exact am_Ex.iret rfl rfl
    · refine am_Ex.if_ne_f rfl (Decidable.not_not.mp q4) ?_
      refine am_Ex.seg 1 24 [.ref 0, .int a1, .int a2] [.int (-1)] q3.2 (fun _ => rfl) ?_
      cases h
      exact am_Ex.iret rfl rfl
def fB_word (a1 : Int32) (a2 : Int32) (a3 : Int32) (a4 : Int32) (μ : am_Mu) : Option (Int32 × am_Mu) := ((fB_isIn a1 (μ 97 4) μ).bind fun q1 => (if q1.1 = 0 then some (0, q1.2) else ((fB_isIn a2 (q1.2 13 14) q1.2).bind fun q3 => (if q3.1 = 0 then some (0, q3.2) else ((fB_isIn a3 8 q3.2).bind fun q5 => (if ¬ q5.1 = 0 then ((fVisitors_hear a1 ((a2 * 8) + a3) a4 q5.2).bind fun q7 => some (1, q7)) else some (0, q5.2)))))))
set_option maxRecDepth 20000 in
theorem e_fB_word (d : Nat) : ∀ {a1 : Int32} {a2 : Int32} {a3 : Int32} {a4 : Int32} {μ : am_Mu} {out : Int32 × am_Mu}, fB_word a1 a2 a3 a4 μ = some out → am_Ex none (d + 1) 132 0 [.ref 0, .int a1, .int a2, .int a3, .int a4] [] am_SH μ (some (.int out.1), am_SH, out.2) := by
  intro a1 a2 a3 a4 μ out h
  unfold fB_word at h
  refine am_Ex.seg 4 8 [.ref 0, .int a1, .int a2, .int a3, .int a4] [.int (μ 97 4), .int a1] μ (fun _ => rfl) ?_
  obtain ⟨q1, h_q1, h⟩ := am_bind h
  refine am_Ex.isk (na := 2) rfl (As := [.int a1, .int (μ 97 4)]) rfl rfl rfl rfl rfl rfl (e_fB_isIn (d + 0) h_q1) ?_
  refine am_Ex.same 11 [.ref 0, .int a1, .int a2, .int a3, .int a4] [.int q1.1] q1.2 rfl ?_
  rcases am_ite h with ⟨q2, h⟩ | ⟨q2, h⟩
  · refine am_Ex.if_eq_t rfl q2 ?_
    refine am_Ex.seg 1 38 [.ref 0, .int a1, .int a2, .int a3, .int a4] [.int 0] q1.2 (fun _ => rfl) ?_
    cases h
    exact am_Ex.zret rfl rfl (by decide)
  · refine am_Ex.if_eq_f rfl q2 ?_
    refine am_Ex.seg 4 22 [.ref 0, .int a1, .int a2, .int a3, .int a4] [.int (q1.2 13 14), .int a2] q1.2 (fun _ => rfl) ?_
    obtain ⟨q3, h_q3, h⟩ := am_bind h
    refine am_Ex.isk (na := 2) rfl (As := [.int a2, .int (q1.2 13 14)]) rfl rfl rfl rfl rfl rfl (e_fB_isIn (d + 0) h_q3) ?_
    refine am_Ex.same 25 [.ref 0, .int a1, .int a2, .int a3, .int a4] [.int q3.1] q3.2 rfl ?_
    rcases am_ite h with ⟨q4, h⟩ | ⟨q4, h⟩
    · refine am_Ex.if_eq_t rfl q4 ?_
      refine am_Ex.seg 1 38 [.ref 0, .int a1, .int a2, .int a3, .int a4] [.int 0] q3.2 (fun _ => rfl) ?_
      cases h
      exact am_Ex.zret rfl rfl (by decide)
    · refine am_Ex.if_eq_f rfl q4 ?_
      refine am_Ex.seg 2 31 [.ref 0, .int a1, .int a2, .int a3, .int a4] [.int 8, .int a3] q3.2 (fun _ => rfl) ?_
      obtain ⟨q5, h_q5, h⟩ := am_bind h
      refine am_Ex.isk (na := 2) rfl (As := [.int a3, .int 8]) rfl rfl rfl rfl rfl rfl (e_fB_isIn (d + 0) h_q5) ?_
      refine am_Ex.same 34 [.ref 0, .int a1, .int a2, .int a3, .int a4] [.int q5.1] q5.2 rfl ?_
      rcases am_ite h with ⟨q6, h⟩ | ⟨q6, h⟩
      · refine am_Ex.if_ne_t rfl q6 ?_
        refine am_Ex.seg 9 52 [.ref 0, .int a1, .int a2, .int a3, .int a4] [.int a4, .int ((a2 * 8) + a3), .int a1, .ref 97] q5.2 (fun _ => rfl) ?_
        obtain ⟨q7, h_q7, h⟩ := am_bind h
        refine am_Ex.ivk (na := 4) (b := 97) (As' := [.int a1, .int ((a2 * 8) + a3), .int a4]) rfl rfl rfl rfl rfl rfl rfl rfl rfl (e_fVisitors_hear (d + 0) h_q7) ?_
        refine am_Ex.same 55 [.ref 0, .int a1, .int a2, .int a3, .int a4] [] q7 rfl ?_
        refine am_Ex.seg 1 56 [.ref 0, .int a1, .int a2, .int a3, .int a4] [.int 1] q7 (fun _ => rfl) ?_
        cases h
        exact am_Ex.zret rfl rfl (by decide)
      · refine am_Ex.if_ne_f rfl (Decidable.not_not.mp q6) ?_
        refine am_Ex.seg 1 38 [.ref 0, .int a1, .int a2, .int a3, .int a4] [.int 0] q5.2 (fun _ => rfl) ?_
        cases h
        exact am_Ex.zret rfl rfl (by decide)
def fB_believed (a1 : Int32) (a2 : Int32) (μ : am_Mu) : Option (Int32 × am_Mu) := ((fB_isIn a1 (μ 13 14) μ).bind fun q1 => (if q1.1 = 0 then some ((-1), q1.2) else ((fB_isIn a2 8 q1.2).bind fun q3 => (if ¬ q3.1 = 0 then ((fVisitors_belief ((a1 * 8) + a2) q3.2).bind fun q5 => some (q5.1, q5.2)) else some ((-1), q3.2)))))
set_option maxRecDepth 20000 in
theorem e_fB_believed (d : Nat) : ∀ {a1 : Int32} {a2 : Int32} {μ : am_Mu} {out : Int32 × am_Mu}, fB_believed a1 a2 μ = some out → am_Ex none (d + 2) 133 0 [.ref 0, .int a1, .int a2] [] am_SH μ (some (.int out.1), am_SH, out.2) := by
  intro a1 a2 μ out h
  unfold fB_believed at h
  refine am_Ex.seg 4 8 [.ref 0, .int a1, .int a2] [.int (μ 13 14), .int a1] μ (fun _ => rfl) ?_
  obtain ⟨q1, h_q1, h⟩ := am_bind h
  refine am_Ex.isk (na := 2) rfl (As := [.int a1, .int (μ 13 14)]) rfl rfl rfl rfl rfl rfl (e_fB_isIn (d + 1) h_q1) ?_
  refine am_Ex.same 11 [.ref 0, .int a1, .int a2] [.int q1.1] q1.2 rfl ?_
  rcases am_ite h with ⟨q2, h⟩ | ⟨q2, h⟩
  · refine am_Ex.if_eq_t rfl q2 ?_
    refine am_Ex.seg 1 24 [.ref 0, .int a1, .int a2] [.int (-1)] q1.2 (fun _ => rfl) ?_
    cases h
    exact am_Ex.iret rfl rfl
  · refine am_Ex.if_eq_f rfl q2 ?_
    refine am_Ex.seg 2 17 [.ref 0, .int a1, .int a2] [.int 8, .int a2] q1.2 (fun _ => rfl) ?_
    obtain ⟨q3, h_q3, h⟩ := am_bind h
    refine am_Ex.isk (na := 2) rfl (As := [.int a2, .int 8]) rfl rfl rfl rfl rfl rfl (e_fB_isIn (d + 1) h_q3) ?_
    refine am_Ex.same 20 [.ref 0, .int a1, .int a2] [.int q3.1] q3.2 rfl ?_
    rcases am_ite h with ⟨q4, h⟩ | ⟨q4, h⟩
    · refine am_Ex.if_ne_t rfl q4 ?_
      refine am_Ex.seg 7 35 [.ref 0, .int a1, .int a2] [.int ((a1 * 8) + a2), .ref 97] q3.2 (fun _ => rfl) ?_
      obtain ⟨q5, h_q5, h⟩ := am_bind h
      refine am_Ex.ivk (na := 2) (b := 97) (As' := [.int ((a1 * 8) + a2)]) rfl rfl rfl rfl rfl rfl rfl rfl rfl (e_fVisitors_belief (d + 0) h_q5) ?_
      refine am_Ex.same 38 [.ref 0, .int a1, .int a2] [.int q5.1] q5.2 rfl ?_
      cases h
      exact am_Ex.iret rfl rfl
    · refine am_Ex.if_ne_f rfl (Decidable.not_not.mp q4) ?_
      refine am_Ex.seg 1 24 [.ref 0, .int a1, .int a2] [.int (-1)] q3.2 (fun _ => rfl) ?_
      cases h
      exact am_Ex.iret rfl rfl
def fB_look (a1 : Int32) (a2 : Int32) (μ : am_Mu) : Option (Int32 × am_Mu) := ((fB_isIn a1 (μ 13 15) μ).bind fun q1 => (if ¬ q1.1 = 0 then (if a2 = 0 then (bif am_inb a1 200 then some ((q1.2 15 ((a1).toNatClampNeg)), q1.2) else none) else (if a2 = 1 then (bif am_inb a1 200 then some ((q1.2 16 ((a1).toNatClampNeg)), q1.2) else none) else (if a2 = 2 then (bif am_inb a1 200 then some ((q1.2 17 ((a1).toNatClampNeg)), q1.2) else none) else (if a2 = 3 then (bif am_inb a1 200 then some ((q1.2 18 ((a1).toNatClampNeg)), q1.2) else none) else (if a2 = 4 then (bif am_inb a1 200 then (if (q1.2 19 ((a1).toNatClampNeg)) = 0 then some (0, q1.2) else some (1, q1.2)) else none) else (if a2 = 5 then (bif am_inb a1 200 then some ((q1.2 20 ((a1).toNatClampNeg)), q1.2) else none) else (if a2 = 6 then (bif am_inb a1 200 then some ((q1.2 21 ((a1).toNatClampNeg)), q1.2) else none) else some ((-1), q1.2)))))))) else some ((-1), q1.2)))
set_option maxRecDepth 20000 in
theorem e_fB_look (d : Nat) : ∀ {a1 : Int32} {a2 : Int32} {μ : am_Mu} {out : Int32 × am_Mu}, fB_look a1 a2 μ = some out → am_Ex none (d + 1) 134 0 [.ref 0, .int a1, .int a2] [] am_SH μ (some (.int out.1), am_SH, out.2) := by
  intro a1 a2 μ out h
  unfold fB_look at h
  refine am_Ex.seg 4 8 [.ref 0, .int a1, .int a2] [.int (μ 13 15), .int a1] μ (fun _ => rfl) ?_
  obtain ⟨q1, h_q1, h⟩ := am_bind h
  refine am_Ex.isk (na := 2) rfl (As := [.int a1, .int (μ 13 15)]) rfl rfl rfl rfl rfl rfl (e_fB_isIn (d + 0) h_q1) ?_
  refine am_Ex.same 11 [.ref 0, .int a1, .int a2] [.int q1.1] q1.2 rfl ?_
  rcases am_ite h with ⟨q2, h⟩ | ⟨q2, h⟩
  · refine am_Ex.if_ne_t rfl q2 ?_
    refine am_Ex.seg 1 17 [.ref 0, .int a1, .int a2] [.int a2] q1.2 (fun _ => rfl) ?_
    rcases am_ite h with ⟨q3, h⟩ | ⟨q3, h⟩
    · refine am_Ex.tblIn 60 (v := 0) rfl q3 (by decide) rfl rfl ?_
      refine am_Ex.seg 4 68 [.ref 0, .int a1, .int a2] [.int a1, .ref 15] q1.2 (fun _ => rfl) ?_
      obtain ⟨q4, h⟩ := am_bif h
      refine am_Ex.iald (v := (q1.2 15 ((a1).toNatClampNeg))) rfl rfl q4 rfl ?_
      cases h
      exact am_Ex.iret rfl rfl
    rcases am_ite h with ⟨q5, h⟩ | ⟨q5, h⟩
    · refine am_Ex.tblIn 70 (v := 1) rfl q5 (by decide) rfl rfl ?_
      refine am_Ex.seg 4 78 [.ref 0, .int a1, .int a2] [.int a1, .ref 16] q1.2 (fun _ => rfl) ?_
      obtain ⟨q6, h⟩ := am_bif h
      refine am_Ex.iald (v := (q1.2 16 ((a1).toNatClampNeg))) rfl rfl q6 rfl ?_
      cases h
      exact am_Ex.iret rfl rfl
    rcases am_ite h with ⟨q7, h⟩ | ⟨q7, h⟩
    · refine am_Ex.tblIn 80 (v := 2) rfl q7 (by decide) rfl rfl ?_
      refine am_Ex.seg 4 88 [.ref 0, .int a1, .int a2] [.int a1, .ref 17] q1.2 (fun _ => rfl) ?_
      obtain ⟨q8, h⟩ := am_bif h
      refine am_Ex.iald (v := (q1.2 17 ((a1).toNatClampNeg))) rfl rfl q8 rfl ?_
      cases h
      exact am_Ex.iret rfl rfl
    rcases am_ite h with ⟨q9, h⟩ | ⟨q9, h⟩
    · refine am_Ex.tblIn 90 (v := 3) rfl q9 (by decide) rfl rfl ?_
      refine am_Ex.seg 4 98 [.ref 0, .int a1, .int a2] [.int a1, .ref 18] q1.2 (fun _ => rfl) ?_
      obtain ⟨q10, h⟩ := am_bif h
      refine am_Ex.iald (v := (q1.2 18 ((a1).toNatClampNeg))) rfl rfl q10 rfl ?_
      cases h
      exact am_Ex.iret rfl rfl
    rcases am_ite h with ⟨q11, h⟩ | ⟨q11, h⟩
    · refine am_Ex.tblIn 100 (v := 4) rfl q11 (by decide) rfl rfl ?_
      refine am_Ex.seg 4 108 [.ref 0, .int a1, .int a2] [.int a1, .ref 19] q1.2 (fun _ => rfl) ?_
      obtain ⟨q12, h⟩ := am_bif h
      refine am_Ex.zald (v := (q1.2 19 ((a1).toNatClampNeg))) rfl rfl q12 rfl ?_
      rcases am_ite h with ⟨q13, h⟩ | ⟨q13, h⟩
      · refine am_Ex.if_eq_t rfl q13 ?_
        refine am_Ex.seg 1 117 [.ref 0, .int a1, .int a2] [.int 0] q1.2 (fun _ => rfl) ?_
        cases h
        exact am_Ex.iret rfl rfl
      · refine am_Ex.if_eq_f rfl q13 ?_
        refine am_Ex.seg 1 113 [.ref 0, .int a1, .int a2] [.int 1] q1.2 (fun _ => rfl) ?_
        refine am_Ex.goto rfl ?_
        cases h
        exact am_Ex.iret rfl rfl
    rcases am_ite h with ⟨q14, h⟩ | ⟨q14, h⟩
    · refine am_Ex.tblIn 118 (v := 5) rfl q14 (by decide) rfl rfl ?_
      refine am_Ex.seg 4 126 [.ref 0, .int a1, .int a2] [.int a1, .ref 20] q1.2 (fun _ => rfl) ?_
      obtain ⟨q15, h⟩ := am_bif h
      refine am_Ex.iald (v := (q1.2 20 ((a1).toNatClampNeg))) rfl rfl q15 rfl ?_
      cases h
      exact am_Ex.iret rfl rfl
    rcases am_ite h with ⟨q16, h⟩ | ⟨q16, h⟩
    · refine am_Ex.tblIn 128 (v := 6) rfl q16 (by decide) rfl rfl ?_
      refine am_Ex.seg 4 136 [.ref 0, .int a1, .int a2] [.int a1, .ref 21] q1.2 (fun _ => rfl) ?_
      obtain ⟨q17, h⟩ := am_bif h
      refine am_Ex.iald (v := (q1.2 21 ((a1).toNatClampNeg))) rfl rfl q17 rfl ?_
      cases h
      exact am_Ex.iret rfl rfl
    refine am_Ex.tblOut 138 rfl (by have := lv_neT q3 (a := 0) rfl; have := lv_neT q5 (a := 1) rfl; have := lv_neT q7 (a := 2) rfl; have := lv_neT q9 (a := 3) rfl; have := lv_neT q11 (a := 4) rfl; have := lv_neT q14 (a := 5) rfl; have := lv_neT q16 (a := 6) rfl; omega) rfl ?_
    refine am_Ex.seg 1 139 [.ref 0, .int a1, .int a2] [.int (-1)] q1.2 (fun _ => rfl) ?_
    cases h
    exact am_Ex.iret rfl rfl
  · refine am_Ex.if_ne_f rfl (Decidable.not_not.mp q2) ?_
    refine am_Ex.seg 1 15 [.ref 0, .int a1, .int a2] [.int (-1)] q1.2 (fun _ => rfl) ?_
    cases h
    exact am_Ex.iret rfl rfl
def fB_quarrelsHeld_42 (k4 : Int32 → Int32 → am_Mu → Option (Int32 × am_Mu)) (a1 : Int32) (a2 : Int32) (μ : am_Mu) : Option (Int32 × am_Mu) := k4 a1 (a2 + 1) μ
def fB_quarrelsHeld_4 : Nat → Int32 → Int32 → am_Mu → Option (Int32 × am_Mu)
  | 0, _, _, _ => none
  | n + 1, a1, a2, μ => (if ((μ 13 14) * 8) ≤ a2 then some (a1, μ) else (bif am_inb a2 160 then (if (μ 69 ((a2).toNatClampNeg)) = (μ 73 ((a2).toNatClampNeg)) then fB_quarrelsHeld_42 (fB_quarrelsHeld_4 n) a1 a2 μ else fB_quarrelsHeld_42 (fB_quarrelsHeld_4 n) (a1 + 1) a2 μ) else none))
def fB_quarrelsHeld (μ : am_Mu) : Option (Int32 × am_Mu) := fB_quarrelsHeld_4 am_F 0 0 μ
set_option maxRecDepth 20000 in
theorem e_fB_quarrelsHeld_42 (d : Nat) {k4 : Int32 → Int32 → am_Mu → Option (Int32 × am_Mu)} (hk4 : ∀ {a1 : Int32} {a2 : Int32} {μ : am_Mu} {out : Int32 × am_Mu}, k4 a1 a2 μ = some out → am_Ex none (d + 0) 144 4 [.ref 0, .int a1, .int a2] [] am_SH μ (some (.int out.1), am_SH, out.2)) : ∀ {a1 : Int32} {a2 : Int32} {μ : am_Mu} {out : Int32 × am_Mu}, fB_quarrelsHeld_42 k4 a1 a2 μ = some out → am_Ex none (d + 0) 144 42 [.ref 0, .int a1, .int a2] [] am_SH μ (some (.int out.1), am_SH, out.2) := by
  intro a1 a2 μ out h
  unfold fB_quarrelsHeld_42 at h
  refine am_Ex.seg 1 45 [.ref 0, .int a1, .int (a2 + 1)] [] μ (fun _ => rfl) ?_
  refine am_Ex.goto rfl ?_
  exact hk4 h
set_option maxRecDepth 20000 in
theorem e_fB_quarrelsHeld_4 (d : Nat) : ∀ n : Nat, ∀ {a1 : Int32} {a2 : Int32} {μ : am_Mu} {out : Int32 × am_Mu}, fB_quarrelsHeld_4 n a1 a2 μ = some out → am_Ex none (d + 0) 144 4 [.ref 0, .int a1, .int a2] [] am_SH μ (some (.int out.1), am_SH, out.2) := by
  intro n
  induction n with
  | zero => intros; contradiction
  | succ n ih =>
    have hk4 : ∀ {a1 : Int32} {a2 : Int32} {μ : am_Mu} {out : Int32 × am_Mu}, (fB_quarrelsHeld_4 n) a1 a2 μ = some out → am_Ex none (d + 0) 144 4 [.ref 0, .int a1, .int a2] [] am_SH μ (some (.int out.1), am_SH, out.2) := ih
    intro a1 a2 μ out h
    unfold fB_quarrelsHeld_4 at h
    refine am_Ex.seg 6 15 [.ref 0, .int a1, .int a2] [.int ((μ 13 14) * 8), .int a2] μ (fun _ => rfl) ?_
    rcases am_ite h with ⟨q1, h⟩ | ⟨q1, h⟩
    · refine am_Ex.icmp_ge_t rfl q1 ?_
      refine am_Ex.seg 1 49 [.ref 0, .int a1, .int a2] [.int a1] μ (fun _ => rfl) ?_
      cases h
      exact am_Ex.iret rfl rfl
    · refine am_Ex.icmp_ge_f rfl q1 ?_
      refine am_Ex.seg 4 26 [.ref 0, .int a1, .int a2] [.int a2, .ref 69] μ (fun _ => rfl) ?_
      obtain ⟨q2, h⟩ := am_bif h
      refine am_Ex.iald (v := (μ 69 ((a2).toNatClampNeg))) rfl rfl q2 rfl ?_
      refine am_Ex.seg 4 35 [.ref 0, .int a1, .int a2] [.int a2, .ref 73, .int (μ 69 ((a2).toNatClampNeg))] μ (fun _ => rfl) ?_
      refine am_Ex.iald (v := (μ 73 ((a2).toNatClampNeg))) rfl rfl q2 rfl ?_
      rcases am_ite h with ⟨q3, h⟩ | ⟨q3, h⟩
      · refine am_Ex.icmp_eq_t rfl q3 ?_
        exact e_fB_quarrelsHeld_42 d hk4 h
      · refine am_Ex.icmp_eq_f rfl q3 ?_
        refine am_Ex.seg 1 42 [.ref 0, .int (a1 + 1), .int a2] [] μ (fun _ => rfl) ?_
        exact e_fB_quarrelsHeld_42 d hk4 h
set_option maxRecDepth 20000 in
theorem e_fB_quarrelsHeld (d : Nat) : ∀ {μ : am_Mu} {out : Int32 × am_Mu}, fB_quarrelsHeld μ = some out → am_Ex none (d + 0) 144 0 [.ref 0, .null, .null] [] am_SH μ (some (.int out.1), am_SH, out.2) := by
  intro μ out h
  unfold fB_quarrelsHeld at h
  refine am_Ex.seg 4 4 [.ref 0, .int 0, .int 0] [] μ (fun _ => rfl) ?_
  exact e_fB_quarrelsHeld_4 d am_F h
def fB_count (a1 : Int32) (μ : am_Mu) : Option (Int32 × am_Mu) := (if a1 = 0 then some ((μ 0 11), μ) else (if a1 = 1 then some ((μ 1 3), μ) else (if a1 = 2 then some ((μ 13 14), μ) else (if a1 = 3 then some ((μ 13 15), μ) else (if a1 = 4 then some ((μ 13 16), μ) else (if a1 = 5 then some ((μ 76 8), μ) else (if a1 = 6 then some ((μ 84 13), μ) else (if a1 = 7 then some ((μ 84 14), μ) else (if a1 = 8 then some ((μ 97 4), μ) else (if a1 = 9 then some ((μ 102 7), μ) else (if a1 = 10 then some ((μ 102 8), μ) else (if a1 = 11 then some ((μ 102 9), μ) else (if a1 = 12 then some ((μ 5 2), μ) else (if a1 = 13 then ((fB_askBothSchools μ).bind fun q15 => ((fB_quarrelsHeld q15).bind fun q16 => some (q16.1, q16.2))) else some ((-1), μ)))))))))))))))
set_option maxRecDepth 20000 in
theorem e_fB_count (d : Nat) : ∀ {a1 : Int32} {μ : am_Mu} {out : Int32 × am_Mu}, fB_count a1 μ = some out → am_Ex none (d + 7) 135 0 [.ref 0, .int a1] [] am_SH μ (some (.int out.1), am_SH, out.2) := by
  intro a1 μ out h
  unfold fB_count at h
  refine am_Ex.seg 1 1 [.ref 0, .int a1] [.int a1] μ (fun _ => rfl) ?_
  rcases am_ite h with ⟨q1, h⟩ | ⟨q1, h⟩
  · refine am_Ex.tblIn 72 (v := 0) rfl q1 (by decide) rfl rfl ?_
    refine am_Ex.seg 2 76 [.ref 0, .int a1] [.int (μ 0 11)] μ (fun _ => rfl) ?_
    cases h
    exact am_Ex.iret rfl rfl
  rcases am_ite h with ⟨q2, h⟩ | ⟨q2, h⟩
  · refine am_Ex.tblIn 77 (v := 1) rfl q2 (by decide) rfl rfl ?_
    refine am_Ex.seg 3 84 [.ref 0, .int a1] [.int (μ 1 3)] μ (fun _ => rfl) ?_
    cases h
    exact am_Ex.iret rfl rfl
  rcases am_ite h with ⟨q3, h⟩ | ⟨q3, h⟩
  · refine am_Ex.tblIn 85 (v := 2) rfl q3 (by decide) rfl rfl ?_
    refine am_Ex.seg 3 92 [.ref 0, .int a1] [.int (μ 13 14)] μ (fun _ => rfl) ?_
    cases h
    exact am_Ex.iret rfl rfl
  rcases am_ite h with ⟨q4, h⟩ | ⟨q4, h⟩
  · refine am_Ex.tblIn 93 (v := 3) rfl q4 (by decide) rfl rfl ?_
    refine am_Ex.seg 3 100 [.ref 0, .int a1] [.int (μ 13 15)] μ (fun _ => rfl) ?_
    cases h
    exact am_Ex.iret rfl rfl
  rcases am_ite h with ⟨q5, h⟩ | ⟨q5, h⟩
  · refine am_Ex.tblIn 101 (v := 4) rfl q5 (by decide) rfl rfl ?_
    refine am_Ex.seg 3 108 [.ref 0, .int a1] [.int (μ 13 16)] μ (fun _ => rfl) ?_
    cases h
    exact am_Ex.iret rfl rfl
  rcases am_ite h with ⟨q6, h⟩ | ⟨q6, h⟩
  · refine am_Ex.tblIn 109 (v := 5) rfl q6 (by decide) rfl rfl ?_
    refine am_Ex.seg 3 116 [.ref 0, .int a1] [.int (μ 76 8)] μ (fun _ => rfl) ?_
    cases h
    exact am_Ex.iret rfl rfl
  rcases am_ite h with ⟨q7, h⟩ | ⟨q7, h⟩
  · refine am_Ex.tblIn 117 (v := 6) rfl q7 (by decide) rfl rfl ?_
    refine am_Ex.seg 3 124 [.ref 0, .int a1] [.int (μ 84 13)] μ (fun _ => rfl) ?_
    cases h
    exact am_Ex.iret rfl rfl
  rcases am_ite h with ⟨q8, h⟩ | ⟨q8, h⟩
  · refine am_Ex.tblIn 125 (v := 7) rfl q8 (by decide) rfl rfl ?_
    refine am_Ex.seg 3 132 [.ref 0, .int a1] [.int (μ 84 14)] μ (fun _ => rfl) ?_
    cases h
    exact am_Ex.iret rfl rfl
  rcases am_ite h with ⟨q9, h⟩ | ⟨q9, h⟩
  · refine am_Ex.tblIn 133 (v := 8) rfl q9 (by decide) rfl rfl ?_
    refine am_Ex.seg 3 140 [.ref 0, .int a1] [.int (μ 97 4)] μ (fun _ => rfl) ?_
    cases h
    exact am_Ex.iret rfl rfl
  rcases am_ite h with ⟨q10, h⟩ | ⟨q10, h⟩
  · refine am_Ex.tblIn 141 (v := 9) rfl q10 (by decide) rfl rfl ?_
    refine am_Ex.seg 3 148 [.ref 0, .int a1] [.int (μ 102 7)] μ (fun _ => rfl) ?_
    cases h
    exact am_Ex.iret rfl rfl
  rcases am_ite h with ⟨q11, h⟩ | ⟨q11, h⟩
  · refine am_Ex.tblIn 149 (v := 10) rfl q11 (by decide) rfl rfl ?_
    refine am_Ex.seg 3 156 [.ref 0, .int a1] [.int (μ 102 8)] μ (fun _ => rfl) ?_
    cases h
    exact am_Ex.iret rfl rfl
  rcases am_ite h with ⟨q12, h⟩ | ⟨q12, h⟩
  · refine am_Ex.tblIn 157 (v := 11) rfl q12 (by decide) rfl rfl ?_
    refine am_Ex.seg 3 164 [.ref 0, .int a1] [.int (μ 102 9)] μ (fun _ => rfl) ?_
    cases h
    exact am_Ex.iret rfl rfl
  rcases am_ite h with ⟨q13, h⟩ | ⟨q13, h⟩
  · refine am_Ex.tblIn 165 (v := 12) rfl q13 (by decide) rfl rfl ?_
    refine am_Ex.seg 3 172 [.ref 0, .int a1] [.int (μ 5 2)] μ (fun _ => rfl) ?_
    cases h
    exact am_Ex.iret rfl rfl
  rcases am_ite h with ⟨q14, h⟩ | ⟨q14, h⟩
  · refine am_Ex.tblIn 173 (v := 13) rfl q14 (by decide) rfl rfl ?_
    refine am_Ex.seg 1 174 [.ref 0, .int a1] [.ref 0] μ (fun _ => rfl) ?_
    obtain ⟨q15, h_q15, h⟩ := am_bind h
    refine am_Ex.ivk (na := 1) (b := 0) (As' := []) rfl rfl rfl rfl rfl rfl rfl rfl rfl (e_fB_askBothSchools (d + 0) h_q15) ?_
    refine am_Ex.same 177 [.ref 0, .int a1] [] q15 rfl ?_
    refine am_Ex.seg 1 178 [.ref 0, .int a1] [.ref 0] q15 (fun _ => rfl) ?_
    obtain ⟨q16, h_q16, h⟩ := am_bind h
    refine am_Ex.ivk (na := 1) (b := 0) (As' := []) rfl rfl rfl rfl rfl rfl rfl rfl rfl (e_fB_quarrelsHeld (d + 6) h_q16) ?_
    refine am_Ex.same 181 [.ref 0, .int a1] [.int q16.1] q16.2 rfl ?_
    cases h
    exact am_Ex.iret rfl rfl
  refine am_Ex.tblOut 182 rfl (by have := lv_neT q1 (a := 0) rfl; have := lv_neT q2 (a := 1) rfl; have := lv_neT q3 (a := 2) rfl; have := lv_neT q4 (a := 3) rfl; have := lv_neT q5 (a := 4) rfl; have := lv_neT q6 (a := 5) rfl; have := lv_neT q7 (a := 6) rfl; have := lv_neT q8 (a := 7) rfl; have := lv_neT q9 (a := 8) rfl; have := lv_neT q10 (a := 9) rfl; have := lv_neT q11 (a := 10) rfl; have := lv_neT q12 (a := 11) rfl; have := lv_neT q13 (a := 12) rfl; have := lv_neT q14 (a := 13) rfl; omega) rfl ?_
  refine am_Ex.seg 1 183 [.ref 0, .int a1] [.int (-1)] μ (fun _ => rfl) ?_
  cases h
  exact am_Ex.iret rfl rfl
