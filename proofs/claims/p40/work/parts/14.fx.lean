section
variable {tl : am_Sh}
def fLedger_addAct (a1 : Int32) (a2 : Int32) (a3 : Int32) (a4 : Int32) (a5 : Int32) (a6 : Int32) (μ : am_Mu) : Option (Int32 × am_Mu) := (if 200 ≤ (μ 13 15) then some ((-1), μ) else ((fB_isIn a2 (μ 13 14) μ).bind fun q2 => (if q2.1 = 0 then some ((-1), q2.2) else ((fLedger_canBeSecond a1 a2 a3 q2.2).bind fun q4 => (if ¬ q4.1 = 0 then (bif am_inb (q4.2 13 15) 200 then ((fLedger_place ((10 : Int32) + (q4.2 13 15)) (am_up (am_up (am_up (am_up (am_up (am_up (am_up q4.2 15 (((q4.2 13 15)).toNatClampNeg) a1) 16 (((q4.2 13 15)).toNatClampNeg) a2) 17 (((q4.2 13 15)).toNatClampNeg) a3) 18 (((q4.2 13 15)).toNatClampNeg) a4) 19 (((q4.2 13 15)).toNatClampNeg) (a5 &&& 1)) 20 (((q4.2 13 15)).toNatClampNeg) a6) 21 (((q4.2 13 15)).toNatClampNeg) (-1))).bind fun q7 => some ((((q7 13 15) + 1) - 1), (am_up q7 13 15 ((q7 13 15) + 1)))) else none) else some ((-1), q4.2))))))
set_option maxRecDepth 20000 in
theorem e_fLedger_addAct (d : Nat) : ∀ {a1 : Int32} {a2 : Int32} {a3 : Int32} {a4 : Int32} {a5 : Int32} {a6 : Int32} {μ : am_Mu} {out : Int32 × am_Mu}, fLedger_addAct a1 a2 a3 a4 a5 a6 μ = some out → am_Ex none (d + 4) 46 0 [.ref 13, .int a1, .int a2, .int a3, .int a4, .int a5, .int a6] [] (am_SX tl) μ (some (.int out.1), (am_SX tl), out.2) := by
  intro a1 a2 a3 a4 a5 a6 μ out h
  unfold fLedger_addAct at h
  refine am_Ex.seg 3 7 [.ref 13, .int a1, .int a2, .int a3, .int a4, .int a5, .int a6] [.int 200, .int (μ 13 15)] μ (fun _ => rfl) ?_
  rcases am_ite h with ⟨q1, h⟩ | ⟨q1, h⟩
  · refine am_Ex.icmp_ge_t rfl q1 ?_
    refine am_Ex.seg 1 32 [.ref 13, .int a1, .int a2, .int a3, .int a4, .int a5, .int a6] [.int (-1)] μ (fun _ => rfl) ?_
    cases h
    exact am_Ex.iret rfl rfl
  · refine am_Ex.icmp_ge_f rfl q1 ?_
    refine am_Ex.seg 3 15 [.ref 13, .int a1, .int a2, .int a3, .int a4, .int a5, .int a6] [.int (μ 13 14), .int a2] μ (fun _ => rfl) ?_
    obtain ⟨q2, h_q2, h⟩ := am_bind h
    refine am_Ex.isk (na := 2) rfl (As := [.int a2, .int (μ 13 14)]) rfl rfl rfl rfl rfl rfl (e_fB_isIn (d + 3) h_q2) ?_
    refine am_Ex.same 18 [.ref 13, .int a1, .int a2, .int a3, .int a4, .int a5, .int a6] [.int q2.1] q2.2 rfl ?_
    rcases am_ite h with ⟨q3, h⟩ | ⟨q3, h⟩
    · refine am_Ex.if_eq_t rfl q3 ?_
      refine am_Ex.seg 1 32 [.ref 13, .int a1, .int a2, .int a3, .int a4, .int a5, .int a6] [.int (-1)] q2.2 (fun _ => rfl) ?_
      cases h
      exact am_Ex.iret rfl rfl
    · refine am_Ex.if_eq_f rfl q3 ?_
      refine am_Ex.seg 4 25 [.ref 13, .int a1, .int a2, .int a3, .int a4, .int a5, .int a6] [.int a3, .int a2, .int a1, .ref 13] q2.2 (fun _ => rfl) ?_
      obtain ⟨q4, h_q4, h⟩ := am_bind h
      refine am_Ex.ivk (na := 4) (b := 13) (As' := [.int a1, .int a2, .int a3]) rfl rfl rfl rfl rfl rfl rfl rfl rfl (e_fLedger_canBeSecond (d + 2) h_q4) ?_
      refine am_Ex.same 28 [.ref 13, .int a1, .int a2, .int a3, .int a4, .int a5, .int a6] [.int q4.1] q4.2 rfl ?_
      rcases am_ite h with ⟨q5, h⟩ | ⟨q5, h⟩
      · refine am_Ex.if_ne_t rfl q5 ?_
        refine am_Ex.seg 5 42 [.ref 13, .int a1, .int a2, .int a3, .int a4, .int a5, .int a6] [.int a1, .int (q4.2 13 15), .ref 15] q4.2 (fun _ => rfl) ?_
        obtain ⟨q6, h⟩ := am_bif h
        refine am_Ex.iast (v2 := a1) (i2 := ((q4.2 13 15)).toNatClampNeg) rfl rfl q6 rfl rfl ?_
        refine am_Ex.seg 5 52 [.ref 13, .int a1, .int a2, .int a3, .int a4, .int a5, .int a6] [.int a2, .int (q4.2 13 15), .ref 16] (am_up q4.2 15 (((q4.2 13 15)).toNatClampNeg) a1) (fun _ => rfl) ?_
        refine am_Ex.iast (v2 := a2) (i2 := ((q4.2 13 15)).toNatClampNeg) rfl rfl q6 rfl rfl ?_
        refine am_Ex.seg 5 62 [.ref 13, .int a1, .int a2, .int a3, .int a4, .int a5, .int a6] [.int a3, .int (q4.2 13 15), .ref 17] (am_up (am_up q4.2 15 (((q4.2 13 15)).toNatClampNeg) a1) 16 (((q4.2 13 15)).toNatClampNeg) a2) (fun _ => rfl) ?_
        refine am_Ex.iast (v2 := a3) (i2 := ((q4.2 13 15)).toNatClampNeg) rfl rfl q6 rfl rfl ?_
        refine am_Ex.seg 5 73 [.ref 13, .int a1, .int a2, .int a3, .int a4, .int a5, .int a6] [.int a4, .int (q4.2 13 15), .ref 18] (am_up (am_up (am_up q4.2 15 (((q4.2 13 15)).toNatClampNeg) a1) 16 (((q4.2 13 15)).toNatClampNeg) a2) 17 (((q4.2 13 15)).toNatClampNeg) a3) (fun _ => rfl) ?_
        refine am_Ex.iast (v2 := a4) (i2 := ((q4.2 13 15)).toNatClampNeg) rfl rfl q6 rfl rfl ?_
        refine am_Ex.seg 5 84 [.ref 13, .int a1, .int a2, .int a3, .int a4, .int a5, .int a6] [.int a5, .int (q4.2 13 15), .ref 19] (am_up (am_up (am_up (am_up q4.2 15 (((q4.2 13 15)).toNatClampNeg) a1) 16 (((q4.2 13 15)).toNatClampNeg) a2) 17 (((q4.2 13 15)).toNatClampNeg) a3) 18 (((q4.2 13 15)).toNatClampNeg) a4) (fun _ => rfl) ?_
        refine am_Ex.zast (v2 := (a5 &&& 1)) (i2 := ((q4.2 13 15)).toNatClampNeg) rfl rfl q6 rfl rfl ?_
        refine am_Ex.seg 5 95 [.ref 13, .int a1, .int a2, .int a3, .int a4, .int a5, .int a6] [.int a6, .int (q4.2 13 15), .ref 20] (am_up (am_up (am_up (am_up (am_up q4.2 15 (((q4.2 13 15)).toNatClampNeg) a1) 16 (((q4.2 13 15)).toNatClampNeg) a2) 17 (((q4.2 13 15)).toNatClampNeg) a3) 18 (((q4.2 13 15)).toNatClampNeg) a4) 19 (((q4.2 13 15)).toNatClampNeg) (a5 &&& 1)) (fun _ => rfl) ?_
        refine am_Ex.iast (v2 := a6) (i2 := ((q4.2 13 15)).toNatClampNeg) rfl rfl q6 rfl rfl ?_
        refine am_Ex.seg 5 105 [.ref 13, .int a1, .int a2, .int a3, .int a4, .int a5, .int a6] [.int (-1), .int (q4.2 13 15), .ref 21] (am_up (am_up (am_up (am_up (am_up (am_up q4.2 15 (((q4.2 13 15)).toNatClampNeg) a1) 16 (((q4.2 13 15)).toNatClampNeg) a2) 17 (((q4.2 13 15)).toNatClampNeg) a3) 18 (((q4.2 13 15)).toNatClampNeg) a4) 19 (((q4.2 13 15)).toNatClampNeg) (a5 &&& 1)) 20 (((q4.2 13 15)).toNatClampNeg) a6) (fun _ => rfl) ?_
        refine am_Ex.iast (v2 := (-1)) (i2 := ((q4.2 13 15)).toNatClampNeg) rfl rfl q6 rfl rfl ?_
        refine am_Ex.seg 5 114 [.ref 13, .int a1, .int a2, .int a3, .int a4, .int a5, .int a6] [.int ((10 : Int32) + (q4.2 13 15)), .ref 13] (am_up (am_up (am_up (am_up (am_up (am_up (am_up q4.2 15 (((q4.2 13 15)).toNatClampNeg) a1) 16 (((q4.2 13 15)).toNatClampNeg) a2) 17 (((q4.2 13 15)).toNatClampNeg) a3) 18 (((q4.2 13 15)).toNatClampNeg) a4) 19 (((q4.2 13 15)).toNatClampNeg) (a5 &&& 1)) 20 (((q4.2 13 15)).toNatClampNeg) a6) 21 (((q4.2 13 15)).toNatClampNeg) (-1)) (fun _ => rfl) ?_
        obtain ⟨q7, h_q7, h⟩ := am_bind h
        refine am_Ex.ivk (na := 2) (b := 13) (As' := [.int ((10 : Int32) + (q4.2 13 15))]) rfl rfl rfl rfl rfl rfl rfl rfl rfl (e_fLedger_place (d + 0) h_q7) ?_
        refine am_Ex.same 117 [.ref 13, .int a1, .int a2, .int a3, .int a4, .int a5, .int a6] [] q7 rfl ?_
        refine am_Ex.seg 10 133 [.ref 13, .int a1, .int a2, .int a3, .int a4, .int a5, .int a6] [.int (((q7 13 15) + 1) - 1)] (am_up q7 13 15 ((q7 13 15) + 1)) (fun _ => rfl) ?_
        cases h
        exact am_Ex.iret rfl rfl
      · refine am_Ex.if_ne_f rfl (Decidable.not_not.mp q5) ?_
        refine am_Ex.seg 1 32 [.ref 13, .int a1, .int a2, .int a3, .int a4, .int a5, .int a6] [.int (-1)] q4.2 (fun _ => rfl) ?_
        cases h
        exact am_Ex.iret rfl rfl
def fLedger_addMistake (a1 : Int32) (a2 : Int32) (a3 : Int32) (a4 : Int32) (μ : am_Mu) : Option (Int32 × am_Mu) := (if 10 ≤ (μ 13 16) then some ((-1), μ) else ((fB_isIn a1 (μ 13 14) μ).bind fun q2 => (if q2.1 = 0 then some ((-1), q2.2) else ((fB_isIn a2 8 q2.2).bind fun q4 => (if ¬ q4.1 = 0 then (bif am_inb (q4.2 13 16) 10 then ((fLedger_place (q4.2 13 16) (am_up (am_up (am_up (am_up q4.2 22 (((q4.2 13 16)).toNatClampNeg) a1) 23 (((q4.2 13 16)).toNatClampNeg) a2) 24 (((q4.2 13 16)).toNatClampNeg) a3) 25 (((q4.2 13 16)).toNatClampNeg) a4)).bind fun q7 => some ((((q7 13 16) + 1) - 1), (am_up q7 13 16 ((q7 13 16) + 1)))) else none) else some ((-1), q4.2))))))
set_option maxRecDepth 20000 in
theorem e_fLedger_addMistake (d : Nat) : ∀ {a1 : Int32} {a2 : Int32} {a3 : Int32} {a4 : Int32} {μ : am_Mu} {out : Int32 × am_Mu}, fLedger_addMistake a1 a2 a3 a4 μ = some out → am_Ex none (d + 4) 48 0 [.ref 13, .int a1, .int a2, .int a3, .int a4] [] (am_SX tl) μ (some (.int out.1), (am_SX tl), out.2) := by
  intro a1 a2 a3 a4 μ out h
  unfold fLedger_addMistake at h
  refine am_Ex.seg 3 6 [.ref 13, .int a1, .int a2, .int a3, .int a4] [.int 10, .int (μ 13 16)] μ (fun _ => rfl) ?_
  rcases am_ite h with ⟨q1, h⟩ | ⟨q1, h⟩
  · refine am_Ex.icmp_ge_t rfl q1 ?_
    refine am_Ex.seg 1 30 [.ref 13, .int a1, .int a2, .int a3, .int a4] [.int (-1)] μ (fun _ => rfl) ?_
    cases h
    exact am_Ex.iret rfl rfl
  · refine am_Ex.icmp_ge_f rfl q1 ?_
    refine am_Ex.seg 3 14 [.ref 13, .int a1, .int a2, .int a3, .int a4] [.int (μ 13 14), .int a1] μ (fun _ => rfl) ?_
    obtain ⟨q2, h_q2, h⟩ := am_bind h
    refine am_Ex.isk (na := 2) rfl (As := [.int a1, .int (μ 13 14)]) rfl rfl rfl rfl rfl rfl (e_fB_isIn (d + 3) h_q2) ?_
    refine am_Ex.same 17 [.ref 13, .int a1, .int a2, .int a3, .int a4] [.int q2.1] q2.2 rfl ?_
    rcases am_ite h with ⟨q3, h⟩ | ⟨q3, h⟩
    · refine am_Ex.if_eq_t rfl q3 ?_
      refine am_Ex.seg 1 30 [.ref 13, .int a1, .int a2, .int a3, .int a4] [.int (-1)] q2.2 (fun _ => rfl) ?_
      cases h
      exact am_Ex.iret rfl rfl
    · refine am_Ex.if_eq_f rfl q3 ?_
      refine am_Ex.seg 2 23 [.ref 13, .int a1, .int a2, .int a3, .int a4] [.int 8, .int a2] q2.2 (fun _ => rfl) ?_
      obtain ⟨q4, h_q4, h⟩ := am_bind h
      refine am_Ex.isk (na := 2) rfl (As := [.int a2, .int 8]) rfl rfl rfl rfl rfl rfl (e_fB_isIn (d + 3) h_q4) ?_
      refine am_Ex.same 26 [.ref 13, .int a1, .int a2, .int a3, .int a4] [.int q4.1] q4.2 rfl ?_
      rcases am_ite h with ⟨q5, h⟩ | ⟨q5, h⟩
      · refine am_Ex.if_ne_t rfl q5 ?_
        refine am_Ex.seg 5 40 [.ref 13, .int a1, .int a2, .int a3, .int a4] [.int a1, .int (q4.2 13 16), .ref 22] q4.2 (fun _ => rfl) ?_
        obtain ⟨q6, h⟩ := am_bif h
        refine am_Ex.iast (v2 := a1) (i2 := ((q4.2 13 16)).toNatClampNeg) rfl rfl q6 rfl rfl ?_
        refine am_Ex.seg 5 50 [.ref 13, .int a1, .int a2, .int a3, .int a4] [.int a2, .int (q4.2 13 16), .ref 23] (am_up q4.2 22 (((q4.2 13 16)).toNatClampNeg) a1) (fun _ => rfl) ?_
        refine am_Ex.iast (v2 := a2) (i2 := ((q4.2 13 16)).toNatClampNeg) rfl rfl q6 rfl rfl ?_
        refine am_Ex.seg 5 60 [.ref 13, .int a1, .int a2, .int a3, .int a4] [.int a3, .int (q4.2 13 16), .ref 24] (am_up (am_up q4.2 22 (((q4.2 13 16)).toNatClampNeg) a1) 23 (((q4.2 13 16)).toNatClampNeg) a2) (fun _ => rfl) ?_
        refine am_Ex.iast (v2 := a3) (i2 := ((q4.2 13 16)).toNatClampNeg) rfl rfl q6 rfl rfl ?_
        refine am_Ex.seg 5 71 [.ref 13, .int a1, .int a2, .int a3, .int a4] [.int a4, .int (q4.2 13 16), .ref 25] (am_up (am_up (am_up q4.2 22 (((q4.2 13 16)).toNatClampNeg) a1) 23 (((q4.2 13 16)).toNatClampNeg) a2) 24 (((q4.2 13 16)).toNatClampNeg) a3) (fun _ => rfl) ?_
        refine am_Ex.iast (v2 := a4) (i2 := ((q4.2 13 16)).toNatClampNeg) rfl rfl q6 rfl rfl ?_
        refine am_Ex.seg 3 77 [.ref 13, .int a1, .int a2, .int a3, .int a4] [.int (q4.2 13 16), .ref 13] (am_up (am_up (am_up (am_up q4.2 22 (((q4.2 13 16)).toNatClampNeg) a1) 23 (((q4.2 13 16)).toNatClampNeg) a2) 24 (((q4.2 13 16)).toNatClampNeg) a3) 25 (((q4.2 13 16)).toNatClampNeg) a4) (fun _ => rfl) ?_
        obtain ⟨q7, h_q7, h⟩ := am_bind h
        refine am_Ex.ivk (na := 2) (b := 13) (As' := [.int (q4.2 13 16)]) rfl rfl rfl rfl rfl rfl rfl rfl rfl (e_fLedger_place (d + 0) h_q7) ?_
        refine am_Ex.same 80 [.ref 13, .int a1, .int a2, .int a3, .int a4] [] q7 rfl ?_
        refine am_Ex.seg 10 96 [.ref 13, .int a1, .int a2, .int a3, .int a4] [.int (((q7 13 16) + 1) - 1)] (am_up q7 13 16 ((q7 13 16) + 1)) (fun _ => rfl) ?_
        cases h
        exact am_Ex.iret rfl rfl
      · refine am_Ex.if_ne_f rfl (Decidable.not_not.mp q5) ?_
        refine am_Ex.seg 1 30 [.ref 13, .int a1, .int a2, .int a3, .int a4] [.int (-1)] q4.2 (fun _ => rfl) ?_
        cases h
        exact am_Ex.iret rfl rfl
def fLedger_otherThing (a1 : Int32) (a2 : Int32) (μ : am_Mu) : Option (Int32 × am_Mu) := (bif am_inb a1 200 then (if ¬ (μ 16 ((a1).toNatClampNeg)) = a2 then some ((μ 16 ((a1).toNatClampNeg)), μ) else some ((μ 17 ((a1).toNatClampNeg)), μ)) else none)
set_option maxRecDepth 20000 in
theorem e_fLedger_otherThing (d : Nat) : ∀ {a1 : Int32} {a2 : Int32} {μ : am_Mu} {out : Int32 × am_Mu}, fLedger_otherThing a1 a2 μ = some out → am_Ex none (d + 0) 54 0 [.ref 13, .int a1, .int a2] [] (am_SX tl) μ (some (.int out.1), (am_SX tl), out.2) := by
  intro a1 a2 μ out h
  unfold fLedger_otherThing at h
  refine am_Ex.seg 3 5 [.ref 13, .int a1, .int a2] [.int a1, .ref 16] μ (fun _ => rfl) ?_
  obtain ⟨q1, h⟩ := am_bif h
  refine am_Ex.iald (v := (μ 16 ((a1).toNatClampNeg))) rfl rfl rfl q1 rfl ?_
  refine am_Ex.seg 1 7 [.ref 13, .int a1, .int a2] [.int a2, .int (μ 16 ((a1).toNatClampNeg))] μ (fun _ => rfl) ?_
  rcases am_ite h with ⟨q2, h⟩ | ⟨q2, h⟩
  · refine am_Ex.icmp_ne_t rfl q2 ?_
    refine am_Ex.seg 3 24 [.ref 13, .int a1, .int a2] [.int a1, .ref 16] μ (fun _ => rfl) ?_
    refine am_Ex.iald (v := (μ 16 ((a1).toNatClampNeg))) rfl rfl rfl q1 rfl ?_
    cases h
    exact am_Ex.iret rfl rfl
  · refine am_Ex.icmp_ne_f rfl (Decidable.not_not.mp q2) ?_
    refine am_Ex.seg 3 15 [.ref 13, .int a1, .int a2] [.int a1, .ref 17] μ (fun _ => rfl) ?_
    refine am_Ex.iald (v := (μ 17 ((a1).toNatClampNeg))) rfl rfl rfl q1 rfl ?_
    refine am_Ex.goto rfl ?_
    cases h
    exact am_Ex.iret rfl rfl
def fMarks_unlike_8 : Nat → Nat → Nat → Int32 → Int32 → Int32 → am_Mu → Option (Int32 × am_Mu)
  | 0, _, _, _, _, _, _ => none
  | n + 1, a0, a1, a2, a3, a4, μ => (if ((a2 * 8) + 8) ≤ a4 then some (a3, μ) else (bif am_isMarks a0 then (bif am_inb a4 160 then (bif am_isMarks a1 then (fMarks_unlike_8 n) a0 a1 a2 (if a3 < (if 0 ≤ ((μ (a0 + 1) ((a4).toNatClampNeg)) - (μ (a1 + 1) ((a4).toNatClampNeg))) then ((μ (a0 + 1) ((a4).toNatClampNeg)) - (μ (a1 + 1) ((a4).toNatClampNeg))) else 0 - ((μ (a0 + 1) ((a4).toNatClampNeg)) - (μ (a1 + 1) ((a4).toNatClampNeg)))) then (if 0 ≤ ((μ (a0 + 1) ((a4).toNatClampNeg)) - (μ (a1 + 1) ((a4).toNatClampNeg))) then ((μ (a0 + 1) ((a4).toNatClampNeg)) - (μ (a1 + 1) ((a4).toNatClampNeg))) else 0 - ((μ (a0 + 1) ((a4).toNatClampNeg)) - (μ (a1 + 1) ((a4).toNatClampNeg)))) else a3) (a4 + 1) μ else none) else none) else none))
def fMarks_unlike (a0 : Nat) (a1 : Nat) (a2 : Int32) (μ : am_Mu) : Option (Int32 × am_Mu) := fMarks_unlike_8 am_F a0 a1 a2 0 (a2 * 8) μ
set_option maxRecDepth 20000 in
theorem e_fMarks_unlike_8 (d : Nat) : ∀ n : Nat, ∀ {a0 : Nat} {a1 : Nat} {a2 : Int32} {a3 : Int32} {a4 : Int32} {μ : am_Mu} {out : Int32 × am_Mu}, fMarks_unlike_8 n a0 a1 a2 a3 a4 μ = some out → am_Ex none (d + 1) 62 8 [.ref a0, .ref a1, .int a2, .int a3, .int a4] [] (am_SX tl) μ (some (.int out.1), (am_SX tl), out.2) := by
  intro n
  induction n with
  | zero => intros; contradiction
  | succ n ih =>
    have hk8 : ∀ {a0 : Nat} {a1 : Nat} {a2 : Int32} {a3 : Int32} {a4 : Int32} {μ : am_Mu} {out : Int32 × am_Mu}, (fMarks_unlike_8 n) a0 a1 a2 a3 a4 μ = some out → am_Ex none (d + 1) 62 8 [.ref a0, .ref a1, .int a2, .int a3, .int a4] [] (am_SX tl) μ (some (.int out.1), (am_SX tl), out.2) := ih
    intro a0 a1 a2 a3 a4 μ out h
    unfold fMarks_unlike_8 at h
    refine am_Ex.seg 6 17 [.ref a0, .ref a1, .int a2, .int a3, .int a4] [.int ((a2 * 8) + 8), .int a4] μ (fun _ => rfl) ?_
    rcases am_ite h with ⟨q1, h⟩ | ⟨q1, h⟩
    · refine am_Ex.icmp_ge_t rfl q1 ?_
      refine am_Ex.seg 1 50 [.ref a0, .ref a1, .int a2, .int a3, .int a4] [.int a3] μ (fun _ => rfl) ?_
      cases h
      exact am_Ex.iret rfl rfl
    · refine am_Ex.icmp_ge_f rfl q1 ?_
      obtain ⟨g_a0, h⟩ := am_bif h
      refine am_Ex.seg 2 22 [.ref a0, .ref a1, .int a2, .int a3, .int a4] [.ref a0, .int a3] μ (fun _ => rfl) ?_
      refine am_Ex.getref rfl (am_isMarks_0 g_a0) rfl rfl ?_
      refine am_Ex.seg 1 27 [.ref a0, .ref a1, .int a2, .int a3, .int a4] [.int a4, .ref (a0 + 1), .int a3] μ (fun _ => rfl) ?_
      obtain ⟨q2, h⟩ := am_bif h
      refine am_Ex.iald (v := (μ (a0 + 1) ((a4).toNatClampNeg))) rfl (am_isMarks_1 g_a0) (am_isMarks_n1 g_a0) q2 rfl ?_
      obtain ⟨g_a1, h⟩ := am_bif h
      refine am_Ex.seg 1 29 [.ref a0, .ref a1, .int a2, .int a3, .int a4] [.ref a1, .int (μ (a0 + 1) ((a4).toNatClampNeg)), .int a3] μ (fun _ => rfl) ?_
      refine am_Ex.getref rfl (am_isMarks_0 g_a1) rfl rfl ?_
      refine am_Ex.seg 1 34 [.ref a0, .ref a1, .int a2, .int a3, .int a4] [.int a4, .ref (a1 + 1), .int (μ (a0 + 1) ((a4).toNatClampNeg)), .int a3] μ (fun _ => rfl) ?_
      refine am_Ex.iald (v := (μ (a1 + 1) ((a4).toNatClampNeg))) rfl (am_isMarks_1 g_a1) (am_isMarks_n1 g_a1) q2 rfl ?_
      refine am_Ex.seg 1 36 [.ref a0, .ref a1, .int a2, .int a3, .int a4] [.int ((μ (a0 + 1) ((a4).toNatClampNeg)) - (μ (a1 + 1) ((a4).toNatClampNeg))), .int a3] μ (fun _ => rfl) ?_
      refine am_Ex.abs rfl rfl rfl ?_
      refine am_Ex.max rfl rfl rfl ?_
      refine am_Ex.seg 2 46 [.ref a0, .ref a1, .int a2, .int (if a3 < (if 0 ≤ ((μ (a0 + 1) ((a4).toNatClampNeg)) - (μ (a1 + 1) ((a4).toNatClampNeg))) then ((μ (a0 + 1) ((a4).toNatClampNeg)) - (μ (a1 + 1) ((a4).toNatClampNeg))) else 0 - ((μ (a0 + 1) ((a4).toNatClampNeg)) - (μ (a1 + 1) ((a4).toNatClampNeg)))) then (if 0 ≤ ((μ (a0 + 1) ((a4).toNatClampNeg)) - (μ (a1 + 1) ((a4).toNatClampNeg))) then ((μ (a0 + 1) ((a4).toNatClampNeg)) - (μ (a1 + 1) ((a4).toNatClampNeg))) else 0 - ((μ (a0 + 1) ((a4).toNatClampNeg)) - (μ (a1 + 1) ((a4).toNatClampNeg)))) else a3), .int (a4 + 1)] [] μ (fun _ => rfl) ?_
      refine am_Ex.goto rfl ?_
      exact hk8 h
set_option maxRecDepth 20000 in
theorem e_fMarks_unlike (d : Nat) : ∀ {a0 : Nat} {a1 : Nat} {a2 : Int32} {μ : am_Mu} {out : Int32 × am_Mu}, fMarks_unlike a0 a1 a2 μ = some out → am_Ex none (d + 1) 62 0 [.ref a0, .ref a1, .int a2, .null, .null] [] (am_SX tl) μ (some (.int out.1), (am_SX tl), out.2) := by
  intro a0 a1 a2 μ out h
  unfold fMarks_unlike at h
  refine am_Ex.seg 6 8 [.ref a0, .ref a1, .int a2, .int 0, .int (a2 * 8)] [] μ (fun _ => rfl) ?_
  exact e_fMarks_unlike_8 d am_F h
def fTrace_otherwise (a1 : Int32) (μ : am_Mu) : Option (Int32 × am_Mu) := ((fMarks_unlike 58 62 a1 μ).bind fun q1 => some (q1.1, q1.2))
set_option maxRecDepth 20000 in
theorem e_fTrace_otherwise (d : Nat) : ∀ {a1 : Int32} {μ : am_Mu} {out : Int32 × am_Mu}, fTrace_otherwise a1 μ = some out → am_Ex none (d + 2) 67 0 [.ref 57, .int a1] [] (am_SX tl) μ (some (.int out.1), (am_SX tl), out.2) := by
  intro a1 μ out h
  unfold fTrace_otherwise at h
  refine am_Ex.seg 5 9 [.ref 57, .int a1] [.int a1, .ref 62, .ref 58] μ (fun _ => rfl) ?_
  obtain ⟨q1, h_q1, h⟩ := am_bind h
  refine am_Ex.ivk (na := 3) (b := 58) (As' := [.ref 62, .int a1]) rfl rfl rfl rfl rfl rfl rfl rfl rfl (e_fMarks_unlike (d + 0) h_q1) ?_
  refine am_Ex.same 12 [.ref 57, .int a1] [.int q1.1] q1.2 rfl ?_
  cases h
  exact am_Ex.iret rfl rfl
def fTrace_noteThing (a1 : Int32) (a2 : Int32) (a3 : Int32) (μ : am_Mu) : Option (am_Mu) := (if a1 = a3 then some μ else (bif am_inb a1 20 then (if ¬ (μ 66 ((a1).toNatClampNeg)) = (-1) then some μ else ((fTrace_otherwise a1 μ).bind fun q4 => (if q4.1 ≤ 0 then some q4.2 else some (am_up q4.2 66 ((a1).toNatClampNeg) a2)))) else none))
set_option maxRecDepth 20000 in
theorem e_fTrace_noteThing (d : Nat) : ∀ {a1 : Int32} {a2 : Int32} {a3 : Int32} {μ : am_Mu} {out : am_Mu}, fTrace_noteThing a1 a2 a3 μ = some out → am_Ex none (d + 3) 66 0 [.ref 57, .int a1, .int a2, .int a3] [] (am_SX tl) μ (none, (am_SX tl), out) := by
  intro a1 a2 a3 μ out h
  unfold fTrace_noteThing at h
  refine am_Ex.seg 2 2 [.ref 57, .int a1, .int a2, .int a3] [.int a3, .int a1] μ (fun _ => rfl) ?_
  rcases am_ite h with ⟨q1, h⟩ | ⟨q1, h⟩
  · refine am_Ex.icmp_eq_t rfl q1 ?_
    cases h
    exact am_Ex.vret rfl rfl
  · refine am_Ex.icmp_eq_f rfl q1 ?_
    refine am_Ex.seg 3 10 [.ref 57, .int a1, .int a2, .int a3] [.int a1, .ref 66] μ (fun _ => rfl) ?_
    obtain ⟨q2, h⟩ := am_bif h
    refine am_Ex.iald (v := (μ 66 ((a1).toNatClampNeg))) rfl rfl rfl q2 rfl ?_
    refine am_Ex.seg 1 12 [.ref 57, .int a1, .int a2, .int a3] [.int (-1), .int (μ 66 ((a1).toNatClampNeg))] μ (fun _ => rfl) ?_
    rcases am_ite h with ⟨q3, h⟩ | ⟨q3, h⟩
    · refine am_Ex.icmp_ne_t rfl q3 ?_
      cases h
      exact am_Ex.vret rfl rfl
    · refine am_Ex.icmp_ne_f rfl (Decidable.not_not.mp q3) ?_
      refine am_Ex.seg 2 17 [.ref 57, .int a1, .int a2, .int a3] [.int a1, .ref 57] μ (fun _ => rfl) ?_
      obtain ⟨q4, h_q4, h⟩ := am_bind h
      refine am_Ex.ivk (na := 2) (b := 57) (As' := [.int a1]) rfl rfl rfl rfl rfl rfl rfl rfl rfl (e_fTrace_otherwise (d + 0) h_q4) ?_
      refine am_Ex.same 20 [.ref 57, .int a1, .int a2, .int a3] [.int q4.1] q4.2 rfl ?_
      rcases am_ite h with ⟨q5, h⟩ | ⟨q5, h⟩
      · refine am_Ex.if_le_t rfl q5 ?_
        cases h
        exact am_Ex.vret rfl rfl
      · refine am_Ex.if_le_f rfl q5 ?_
        refine am_Ex.seg 4 29 [.ref 57, .int a1, .int a2, .int a3] [.int a2, .int a1, .ref 66] q4.2 (fun _ => rfl) ?_
        refine am_Ex.iast (v2 := a2) (i2 := (a1).toNatClampNeg) rfl rfl q2 rfl rfl ?_
        cases h
        exact am_Ex.vret rfl rfl
def fTrace_noteReached (a1 : Int32) (a2 : Int32) (μ : am_Mu) : Option (am_Mu) := (bif am_inb a1 200 then ((fTrace_noteThing (μ 16 ((a1).toNatClampNeg)) a1 a2 μ).bind fun q2 => (if (q2 17 ((a1).toNatClampNeg)) = (-1) then some q2 else ((fTrace_noteThing (q2 17 ((a1).toNatClampNeg)) a1 a2 q2).bind fun q4 => some q4))) else none)
set_option maxRecDepth 20000 in
theorem e_fTrace_noteReached (d : Nat) : ∀ {a1 : Int32} {a2 : Int32} {μ : am_Mu} {out : am_Mu}, fTrace_noteReached a1 a2 μ = some out → am_Ex none (d + 4) 65 0 [.ref 57, .int a1, .int a2] [] (am_SX tl) μ (none, (am_SX tl), out) := by
  intro a1 a2 μ out h
  unfold fTrace_noteReached at h
  refine am_Ex.seg 5 9 [.ref 57, .int a1, .int a2] [.int a1, .ref 16, .ref 57] μ (fun _ => rfl) ?_
  obtain ⟨q1, h⟩ := am_bif h
  refine am_Ex.iald (v := (μ 16 ((a1).toNatClampNeg))) rfl rfl rfl q1 rfl ?_
  refine am_Ex.seg 2 12 [.ref 57, .int a1, .int a2] [.int a2, .int a1, .int (μ 16 ((a1).toNatClampNeg)), .ref 57] μ (fun _ => rfl) ?_
  obtain ⟨q2, h_q2, h⟩ := am_bind h
  refine am_Ex.ivk (na := 4) (b := 57) (As' := [.int (μ 16 ((a1).toNatClampNeg)), .int a1, .int a2]) rfl rfl rfl rfl rfl rfl rfl rfl rfl (e_fTrace_noteThing (d + 0) h_q2) ?_
  refine am_Ex.same 15 [.ref 57, .int a1, .int a2] [] q2 rfl ?_
  refine am_Ex.seg 4 23 [.ref 57, .int a1, .int a2] [.int a1, .ref 17] q2 (fun _ => rfl) ?_
  refine am_Ex.iald (v := (q2 17 ((a1).toNatClampNeg))) rfl rfl rfl q1 rfl ?_
  refine am_Ex.seg 1 25 [.ref 57, .int a1, .int a2] [.int (-1), .int (q2 17 ((a1).toNatClampNeg))] q2 (fun _ => rfl) ?_
  rcases am_ite h with ⟨q3, h⟩ | ⟨q3, h⟩
  · refine am_Ex.icmp_eq_t rfl q3 ?_
    cases h
    exact am_Ex.vret rfl rfl
  · refine am_Ex.icmp_eq_f rfl q3 ?_
    refine am_Ex.seg 5 37 [.ref 57, .int a1, .int a2] [.int a1, .ref 17, .ref 57] q2 (fun _ => rfl) ?_
    refine am_Ex.iald (v := (q2 17 ((a1).toNatClampNeg))) rfl rfl rfl q1 rfl ?_
    refine am_Ex.seg 2 40 [.ref 57, .int a1, .int a2] [.int a2, .int a1, .int (q2 17 ((a1).toNatClampNeg)), .ref 57] q2 (fun _ => rfl) ?_
    obtain ⟨q4, h_q4, h⟩ := am_bind h
    refine am_Ex.ivk (na := 4) (b := 57) (As' := [.int (q2 17 ((a1).toNatClampNeg)), .int a1, .int a2]) rfl rfl rfl rfl rfl rfl rfl rfl rfl (e_fTrace_noteThing (d + 0) h_q4) ?_
    refine am_Ex.same 43 [.ref 57, .int a1, .int a2] [] q4 rfl ?_
    cases h
    exact am_Ex.vret rfl rfl
def fTrace_follow_172 (k54 : Int32 → Int32 → Int32 → Int32 → Int32 → am_Mu → Option (am_Mu)) (a1 : Int32) (a2 : Int32) (a3 : Int32) (a4 : Int32) (a5 : Int32) (μ : am_Mu) : Option (am_Mu) := k54 a1 a2 a3 a4 (a5 + 1) μ
def fTrace_follow_142 (k54 : Int32 → Int32 → Int32 → Int32 → Int32 → am_Mu → Option (am_Mu)) (a1 : Int32) (a2 : Int32) (a3 : Int32) (a4 : Int32) (a5 : Int32) (a6 : Int32) (μ : am_Mu) : Option (am_Mu) := ((fLedger_isMistake a6 μ).bind fun q1 => (if ¬ q1.1 = 0 then fTrace_follow_172 k54 a1 a2 a3 a4 a5 q1.2 else (bif am_inb a1 10 then ((fTrace_noteReached (a6 - 10) (q1.2 22 ((a1).toNatClampNeg)) q1.2).bind fun q4 => fTrace_follow_172 k54 a1 a2 a3 a4 a5 q4) else none)))
def fTrace_follow_54 : Nat → Int32 → Int32 → Int32 → Int32 → Int32 → am_Mu → Option (am_Mu)
  | 0, _, _, _, _, _, _ => none
  | n + 1, a1, a2, a3, a4, a5, μ => (if (μ 13 13) ≤ a5 then some μ else (bif am_inb a5 210 then ((fLedger_minuteOf (μ 26 ((a5).toNatClampNeg)) μ).bind fun q3 => (if a3 < q3.1 then fTrace_follow_172 (fTrace_follow_54 n) a1 a2 a3 a4 a5 q3.2 else ((fLedger_isKnown (μ 26 ((a5).toNatClampNeg)) a4 q3.2).bind fun q5 => (if ¬ q5.1 = 0 then ((fJudge_play 58 a2 (μ 26 ((a5).toNatClampNeg)) q5.2).bind fun q7 => (if (μ 26 ((a5).toNatClampNeg)) = a1 then fTrace_follow_142 (fTrace_follow_54 n) a1 a2 a3 a4 a5 (μ 26 ((a5).toNatClampNeg)) q7 else ((fJudge_play 62 a2 (μ 26 ((a5).toNatClampNeg)) q7).bind fun q9 => fTrace_follow_142 (fTrace_follow_54 n) a1 a2 a3 a4 a5 (μ 26 ((a5).toNatClampNeg)) q9))) else fTrace_follow_172 (fTrace_follow_54 n) a1 a2 a3 a4 a5 q5.2)))) else none))
def fTrace_follow_51 (a1 : Int32) (a2 : Int32) (a3 : Int32) (a4 : Int32) (μ : am_Mu) : Option (am_Mu) := fTrace_follow_54 am_F a1 a2 a3 a4 0 μ
def fTrace_follow_25 : Nat → Int32 → Int32 → Int32 → Int32 → Int32 → am_Mu → Option (am_Mu)
  | 0, _, _, _, _, _, _ => none
  | n + 1, a1, a2, a3, a4, a5, μ => (if (μ 13 14) ≤ a5 then fTrace_follow_51 a1 a2 a3 a4 μ else (bif am_inb a5 20 then (fTrace_follow_25 n) a1 a2 a3 a4 (a5 + 1) (am_up μ 66 ((a5).toNatClampNeg) (-1)) else none))
def fTrace_follow (a1 : Int32) (a2 : Int32) (a3 : Int32) (a4 : Int32) (μ : am_Mu) : Option (am_Mu) := ((fMarks_begin 58 μ).bind fun q1 => ((fMarks_begin 62 q1).bind fun q2 => fTrace_follow_25 am_F a1 a2 a3 a4 0 q2))
set_option maxRecDepth 20000 in
theorem e_fTrace_follow_172 (d : Nat) {k54 : Int32 → Int32 → Int32 → Int32 → Int32 → am_Mu → Option (am_Mu)} (hk54 : ∀ {a1 : Int32} {a2 : Int32} {a3 : Int32} {a4 : Int32} {a5 : Int32} {w6 : Value} {μ : am_Mu} {out : am_Mu}, k54 a1 a2 a3 a4 a5 μ = some out → am_Ex none (d + 5) 64 54 [.ref 57, .int a1, .int a2, .int a3, .int a4, .int a5, w6] [] (am_SX tl) μ (none, (am_SX tl), out)) : ∀ {a1 : Int32} {a2 : Int32} {a3 : Int32} {a4 : Int32} {a5 : Int32} {w6 : Value} {μ : am_Mu} {out : am_Mu}, fTrace_follow_172 k54 a1 a2 a3 a4 a5 μ = some out → am_Ex none (d + 5) 64 172 [.ref 57, .int a1, .int a2, .int a3, .int a4, .int a5, w6] [] (am_SX tl) μ (none, (am_SX tl), out) := by
  intro a1 a2 a3 a4 a5 w6 μ out h
  unfold fTrace_follow_172 at h
  refine am_Ex.seg 1 175 [.ref 57, .int a1, .int a2, .int a3, .int a4, .int (a5 + 1), w6] [] μ (fun _ => rfl) ?_
  refine am_Ex.goto rfl ?_
  exact hk54 h
set_option maxRecDepth 20000 in
theorem e_fTrace_follow_142 (d : Nat) {k54 : Int32 → Int32 → Int32 → Int32 → Int32 → am_Mu → Option (am_Mu)} (hk54 : ∀ {a1 : Int32} {a2 : Int32} {a3 : Int32} {a4 : Int32} {a5 : Int32} {w6 : Value} {μ : am_Mu} {out : am_Mu}, k54 a1 a2 a3 a4 a5 μ = some out → am_Ex none (d + 5) 64 54 [.ref 57, .int a1, .int a2, .int a3, .int a4, .int a5, w6] [] (am_SX tl) μ (none, (am_SX tl), out)) : ∀ {a1 : Int32} {a2 : Int32} {a3 : Int32} {a4 : Int32} {a5 : Int32} {a6 : Int32} {μ : am_Mu} {out : am_Mu}, fTrace_follow_142 k54 a1 a2 a3 a4 a5 a6 μ = some out → am_Ex none (d + 5) 64 142 [.ref 57, .int a1, .int a2, .int a3, .int a4, .int a5, .int a6] [] (am_SX tl) μ (none, (am_SX tl), out) := by
  intro a1 a2 a3 a4 a5 a6 μ out h
  unfold fTrace_follow_142 at h
  refine am_Ex.seg 3 148 [.ref 57, .int a1, .int a2, .int a3, .int a4, .int a5, .int a6] [.int a6, .ref 13] μ (fun _ => rfl) ?_
  obtain ⟨q1, h_q1, h⟩ := am_bind h
  refine am_Ex.ivk (na := 2) (b := 13) (As' := [.int a6]) rfl rfl rfl rfl rfl rfl rfl rfl rfl (e_fLedger_isMistake (d + 4) h_q1) ?_
  refine am_Ex.same 151 [.ref 57, .int a1, .int a2, .int a3, .int a4, .int a5, .int a6] [.int q1.1] q1.2 rfl ?_
  rcases am_ite h with ⟨q2, h⟩ | ⟨q2, h⟩
  · refine am_Ex.if_ne_t rfl q2 ?_
    exact e_fTrace_follow_172 d hk54 h
  · refine am_Ex.if_ne_f rfl (Decidable.not_not.mp q2) ?_
    refine am_Ex.seg 8 168 [.ref 57, .int a1, .int a2, .int a3, .int a4, .int a5, .int a6] [.int a1, .ref 22, .int (a6 - 10), .ref 57] q1.2 (fun _ => rfl) ?_
    obtain ⟨q3, h⟩ := am_bif h
    refine am_Ex.iald (v := (q1.2 22 ((a1).toNatClampNeg))) rfl rfl rfl q3 rfl ?_
    obtain ⟨q4, h_q4, h⟩ := am_bind h
    refine am_Ex.ivk (na := 3) (b := 57) (As' := [.int (a6 - 10), .int (q1.2 22 ((a1).toNatClampNeg))]) rfl rfl rfl rfl rfl rfl rfl rfl rfl (e_fTrace_noteReached (d + 0) h_q4) ?_
    refine am_Ex.same 172 [.ref 57, .int a1, .int a2, .int a3, .int a4, .int a5, .int a6] [] q4 rfl ?_
    exact e_fTrace_follow_172 d hk54 h
set_option maxRecDepth 20000 in
theorem e_fTrace_follow_54 (d : Nat) : ∀ n : Nat, ∀ {a1 : Int32} {a2 : Int32} {a3 : Int32} {a4 : Int32} {a5 : Int32} {w6 : Value} {μ : am_Mu} {out : am_Mu}, fTrace_follow_54 n a1 a2 a3 a4 a5 μ = some out → am_Ex none (d + 5) 64 54 [.ref 57, .int a1, .int a2, .int a3, .int a4, .int a5, w6] [] (am_SX tl) μ (none, (am_SX tl), out) := by
  intro n
  induction n with
  | zero => intros; contradiction
  | succ n ih =>
    have hk54 : ∀ {a1 : Int32} {a2 : Int32} {a3 : Int32} {a4 : Int32} {a5 : Int32} {w6 : Value} {μ : am_Mu} {out : am_Mu}, (fTrace_follow_54 n) a1 a2 a3 a4 a5 μ = some out → am_Ex none (d + 5) 64 54 [.ref 57, .int a1, .int a2, .int a3, .int a4, .int a5, w6] [] (am_SX tl) μ (none, (am_SX tl), out) := ih
    intro a1 a2 a3 a4 a5 w6 μ out h
    unfold fTrace_follow_54 at h
    refine am_Ex.seg 4 63 [.ref 57, .int a1, .int a2, .int a3, .int a4, .int a5, w6] [.int (μ 13 13), .int a5] μ (fun _ => rfl) ?_
    rcases am_ite h with ⟨q1, h⟩ | ⟨q1, h⟩
    · refine am_Ex.icmp_ge_t rfl q1 ?_
      cases h
      exact am_Ex.vret rfl rfl
    · refine am_Ex.icmp_ge_f rfl q1 ?_
      refine am_Ex.seg 4 75 [.ref 57, .int a1, .int a2, .int a3, .int a4, .int a5, w6] [.int a5, .ref 26] μ (fun _ => rfl) ?_
      obtain ⟨q2, h⟩ := am_bif h
      refine am_Ex.iald (v := (μ 26 ((a5).toNatClampNeg))) rfl rfl rfl q2 rfl ?_
      refine am_Ex.seg 4 84 [.ref 57, .int a1, .int a2, .int a3, .int a4, .int a5, .int (μ 26 ((a5).toNatClampNeg))] [.int (μ 26 ((a5).toNatClampNeg)), .ref 13] μ (fun _ => rfl) ?_
      obtain ⟨q3, h_q3, h⟩ := am_bind h
      refine am_Ex.ivk (na := 2) (b := 13) (As' := [.int (μ 26 ((a5).toNatClampNeg))]) rfl rfl rfl rfl rfl rfl rfl rfl rfl (e_fLedger_minuteOf (d + 3) h_q3) ?_
      refine am_Ex.same 87 [.ref 57, .int a1, .int a2, .int a3, .int a4, .int a5, .int (μ 26 ((a5).toNatClampNeg))] [.int q3.1] q3.2 rfl ?_
      refine am_Ex.seg 1 88 [.ref 57, .int a1, .int a2, .int a3, .int a4, .int a5, .int (μ 26 ((a5).toNatClampNeg))] [.int a3, .int q3.1] q3.2 (fun _ => rfl) ?_
      rcases am_ite h with ⟨q4, h⟩ | ⟨q4, h⟩
      · refine am_Ex.icmp_gt_t rfl q4 ?_
        exact e_fTrace_follow_172 d hk54 h
      · refine am_Ex.icmp_gt_f rfl q4 ?_
        refine am_Ex.seg 4 99 [.ref 57, .int a1, .int a2, .int a3, .int a4, .int a5, .int (μ 26 ((a5).toNatClampNeg))] [.int a4, .int (μ 26 ((a5).toNatClampNeg)), .ref 13] q3.2 (fun _ => rfl) ?_
        obtain ⟨q5, h_q5, h⟩ := am_bind h
        refine am_Ex.ivk (na := 3) (b := 13) (As' := [.int (μ 26 ((a5).toNatClampNeg)), .int a4]) rfl rfl rfl rfl rfl rfl rfl rfl rfl (e_fLedger_isKnown (d + 3) h_q5) ?_
        refine am_Ex.same 102 [.ref 57, .int a1, .int a2, .int a3, .int a4, .int a5, .int (μ 26 ((a5).toNatClampNeg))] [.int q5.1] q5.2 rfl ?_
        rcases am_ite h with ⟨q6, h⟩ | ⟨q6, h⟩
        · refine am_Ex.if_ne_t rfl q6 ?_
          refine am_Ex.seg 6 119 [.ref 57, .int a1, .int a2, .int a3, .int a4, .int a5, .int (μ 26 ((a5).toNatClampNeg))] [.int (μ 26 ((a5).toNatClampNeg)), .int a2, .ref 58, .ref 27] q5.2 (fun _ => rfl) ?_
          obtain ⟨q7, h_q7, h⟩ := am_bind h
          refine am_Ex.ivk (na := 4) (b := 27) (As' := [.ref 58, .int a2, .int (μ 26 ((a5).toNatClampNeg))]) rfl rfl rfl rfl rfl rfl rfl rfl rfl (e_fJudge_play (d + 0) h_q7) ?_
          refine am_Ex.same 122 [.ref 57, .int a1, .int a2, .int a3, .int a4, .int a5, .int (μ 26 ((a5).toNatClampNeg))] [] q7 rfl ?_
          refine am_Ex.seg 2 125 [.ref 57, .int a1, .int a2, .int a3, .int a4, .int a5, .int (μ 26 ((a5).toNatClampNeg))] [.int a1, .int (μ 26 ((a5).toNatClampNeg))] q7 (fun _ => rfl) ?_
          rcases am_ite h with ⟨q8, h⟩ | ⟨q8, h⟩
          · refine am_Ex.icmp_eq_t rfl q8 ?_
            exact e_fTrace_follow_142 d hk54 h
          · refine am_Ex.icmp_eq_f rfl q8 ?_
            refine am_Ex.seg 6 139 [.ref 57, .int a1, .int a2, .int a3, .int a4, .int a5, .int (μ 26 ((a5).toNatClampNeg))] [.int (μ 26 ((a5).toNatClampNeg)), .int a2, .ref 62, .ref 27] q7 (fun _ => rfl) ?_
            obtain ⟨q9, h_q9, h⟩ := am_bind h
            refine am_Ex.ivk (na := 4) (b := 27) (As' := [.ref 62, .int a2, .int (μ 26 ((a5).toNatClampNeg))]) rfl rfl rfl rfl rfl rfl rfl rfl rfl (e_fJudge_play (d + 0) h_q9) ?_
            refine am_Ex.same 142 [.ref 57, .int a1, .int a2, .int a3, .int a4, .int a5, .int (μ 26 ((a5).toNatClampNeg))] [] q9 rfl ?_
            exact e_fTrace_follow_142 d hk54 h
        · refine am_Ex.if_ne_f rfl (Decidable.not_not.mp q6) ?_
          refine am_Ex.goto rfl ?_
          exact e_fTrace_follow_172 d hk54 h
set_option maxRecDepth 20000 in
theorem e_fTrace_follow_51 (d : Nat) : ∀ {a1 : Int32} {a2 : Int32} {a3 : Int32} {a4 : Int32} {w5 w6 : Value} {μ : am_Mu} {out : am_Mu}, fTrace_follow_51 a1 a2 a3 a4 μ = some out → am_Ex none (d + 5) 64 51 [.ref 57, .int a1, .int a2, .int a3, .int a4, w5, w6] [] (am_SX tl) μ (none, (am_SX tl), out) := by
  intro a1 a2 a3 a4 w5 w6 μ out h
  unfold fTrace_follow_51 at h
  refine am_Ex.seg 2 54 [.ref 57, .int a1, .int a2, .int a3, .int a4, .int 0, w6] [] μ (fun _ => rfl) ?_
  exact e_fTrace_follow_54 d am_F h
set_option maxRecDepth 20000 in
theorem e_fTrace_follow_25 (d : Nat) : ∀ n : Nat, ∀ {a1 : Int32} {a2 : Int32} {a3 : Int32} {a4 : Int32} {a5 : Int32} {w6 : Value} {μ : am_Mu} {out : am_Mu}, fTrace_follow_25 n a1 a2 a3 a4 a5 μ = some out → am_Ex none (d + 5) 64 25 [.ref 57, .int a1, .int a2, .int a3, .int a4, .int a5, w6] [] (am_SX tl) μ (none, (am_SX tl), out) := by
  intro n
  induction n with
  | zero => intros; contradiction
  | succ n ih =>
    have hk25 : ∀ {a1 : Int32} {a2 : Int32} {a3 : Int32} {a4 : Int32} {a5 : Int32} {w6 : Value} {μ : am_Mu} {out : am_Mu}, (fTrace_follow_25 n) a1 a2 a3 a4 a5 μ = some out → am_Ex none (d + 5) 64 25 [.ref 57, .int a1, .int a2, .int a3, .int a4, .int a5, w6] [] (am_SX tl) μ (none, (am_SX tl), out) := ih
    intro a1 a2 a3 a4 a5 w6 μ out h
    unfold fTrace_follow_25 at h
    refine am_Ex.seg 4 34 [.ref 57, .int a1, .int a2, .int a3, .int a4, .int a5, w6] [.int (μ 13 14), .int a5] μ (fun _ => rfl) ?_
    rcases am_ite h with ⟨q1, h⟩ | ⟨q1, h⟩
    · refine am_Ex.icmp_ge_t rfl q1 ?_
      exact e_fTrace_follow_51 d h
    · refine am_Ex.icmp_ge_f rfl q1 ?_
      refine am_Ex.seg 4 44 [.ref 57, .int a1, .int a2, .int a3, .int a4, .int a5, w6] [.int (-1), .int a5, .ref 66] μ (fun _ => rfl) ?_
      obtain ⟨q2, h⟩ := am_bif h
      refine am_Ex.iast (v2 := (-1)) (i2 := (a5).toNatClampNeg) rfl rfl q2 rfl rfl ?_
      refine am_Ex.seg 1 48 [.ref 57, .int a1, .int a2, .int a3, .int a4, .int (a5 + 1), w6] [] (am_up μ 66 ((a5).toNatClampNeg) (-1)) (fun _ => rfl) ?_
      refine am_Ex.goto rfl ?_
      exact hk25 h
set_option maxRecDepth 20000 in
theorem e_fTrace_follow (d : Nat) : ∀ {a1 : Int32} {a2 : Int32} {a3 : Int32} {a4 : Int32} {μ : am_Mu} {out : am_Mu}, fTrace_follow a1 a2 a3 a4 μ = some out → am_Ex none (d + 5) 64 0 [.ref 57, .int a1, .int a2, .int a3, .int a4, .null, .null] [] (am_SX tl) μ (none, (am_SX tl), out) := by
  intro a1 a2 a3 a4 μ out h
  unfold fTrace_follow at h
  refine am_Ex.seg 4 8 [.ref 57, .int a1, .int a2, .int a3, .int a4, .null, .null] [.ref 13, .ref 58] μ (fun _ => rfl) ?_
  obtain ⟨q1, h_q1, h⟩ := am_bind h
  refine am_Ex.ivk (na := 2) (b := 58) (As' := [.ref 13]) rfl rfl rfl rfl rfl rfl rfl rfl rfl (e_fMarks_begin (d + 3) h_q1) ?_
  refine am_Ex.same 11 [.ref 57, .int a1, .int a2, .int a3, .int a4, .null, .null] [] q1 rfl ?_
  refine am_Ex.seg 4 19 [.ref 57, .int a1, .int a2, .int a3, .int a4, .null, .null] [.ref 13, .ref 62] q1 (fun _ => rfl) ?_
  obtain ⟨q2, h_q2, h⟩ := am_bind h
  refine am_Ex.ivk (na := 2) (b := 62) (As' := [.ref 13]) rfl rfl rfl rfl rfl rfl rfl rfl rfl (e_fMarks_begin (d + 3) h_q2) ?_
  refine am_Ex.same 22 [.ref 57, .int a1, .int a2, .int a3, .int a4, .null, .null] [] q2 rfl ?_
  refine am_Ex.seg 2 25 [.ref 57, .int a1, .int a2, .int a3, .int a4, .int 0, .null] [] q2 (fun _ => rfl) ?_
  exact e_fTrace_follow_25 d am_F h
def fTrace_isStep_2 : Nat → Int32 → Int32 → Int32 → am_Mu → Option (Int32 × am_Mu)
  | 0, _, _, _, _ => none
  | n + 1, a1, a2, a3, μ => (if a2 ≤ a3 then some (0, μ) else (bif am_inb a3 20 then (if ¬ (μ 67 ((a3).toNatClampNeg)) = a1 then (fTrace_isStep_2 n) a1 a2 (a3 + 1) μ else some (1, μ)) else none))
def fTrace_isStep (a1 : Int32) (a2 : Int32) (μ : am_Mu) : Option (Int32 × am_Mu) := fTrace_isStep_2 am_F a1 a2 0 μ
set_option maxRecDepth 20000 in
theorem e_fTrace_isStep_2 (d : Nat) : ∀ n : Nat, ∀ {a1 : Int32} {a2 : Int32} {a3 : Int32} {μ : am_Mu} {out : Int32 × am_Mu}, fTrace_isStep_2 n a1 a2 a3 μ = some out → am_Ex none (d + 0) 69 2 [.ref 57, .int a1, .int a2, .int a3] [] (am_SX tl) μ (some (.int out.1), (am_SX tl), out.2) := by
  intro n
  induction n with
  | zero => intros; contradiction
  | succ n ih =>
    have hk2 : ∀ {a1 : Int32} {a2 : Int32} {a3 : Int32} {μ : am_Mu} {out : Int32 × am_Mu}, (fTrace_isStep_2 n) a1 a2 a3 μ = some out → am_Ex none (d + 0) 69 2 [.ref 57, .int a1, .int a2, .int a3] [] (am_SX tl) μ (some (.int out.1), (am_SX tl), out.2) := ih
    intro a1 a2 a3 μ out h
    unfold fTrace_isStep_2 at h
    refine am_Ex.seg 2 4 [.ref 57, .int a1, .int a2, .int a3] [.int a2, .int a3] μ (fun _ => rfl) ?_
    rcases am_ite h with ⟨q1, h⟩ | ⟨q1, h⟩
    · refine am_Ex.icmp_ge_t rfl q1 ?_
      refine am_Ex.seg 1 26 [.ref 57, .int a1, .int a2, .int a3] [.int 0] μ (fun _ => rfl) ?_
      cases h
      exact am_Ex.zret rfl rfl (by decide)
    · refine am_Ex.icmp_ge_f rfl q1 ?_
      refine am_Ex.seg 3 12 [.ref 57, .int a1, .int a2, .int a3] [.int a3, .ref 67] μ (fun _ => rfl) ?_
      obtain ⟨q2, h⟩ := am_bif h
      refine am_Ex.iald (v := (μ 67 ((a3).toNatClampNeg))) rfl rfl rfl q2 rfl ?_
      refine am_Ex.seg 1 14 [.ref 57, .int a1, .int a2, .int a3] [.int a1, .int (μ 67 ((a3).toNatClampNeg))] μ (fun _ => rfl) ?_
      rcases am_ite h with ⟨q3, h⟩ | ⟨q3, h⟩
      · refine am_Ex.icmp_ne_t rfl q3 ?_
        refine am_Ex.seg 1 22 [.ref 57, .int a1, .int a2, .int (a3 + 1)] [] μ (fun _ => rfl) ?_
        refine am_Ex.goto rfl ?_
        exact hk2 h
      · refine am_Ex.icmp_ne_f rfl (Decidable.not_not.mp q3) ?_
        refine am_Ex.seg 1 18 [.ref 57, .int a1, .int a2, .int a3] [.int 1] μ (fun _ => rfl) ?_
        cases h
        exact am_Ex.zret rfl rfl (by decide)
set_option maxRecDepth 20000 in
theorem e_fTrace_isStep (d : Nat) : ∀ {a1 : Int32} {a2 : Int32} {μ : am_Mu} {out : Int32 × am_Mu}, fTrace_isStep a1 a2 μ = some out → am_Ex none (d + 0) 69 0 [.ref 57, .int a1, .int a2, .null] [] (am_SX tl) μ (some (.int out.1), (am_SX tl), out.2) := by
  intro a1 a2 μ out h
  unfold fTrace_isStep at h
  refine am_Ex.seg 2 2 [.ref 57, .int a1, .int a2, .int 0] [] μ (fun _ => rfl) ?_
  exact e_fTrace_isStep_2 d am_F h
def fTrace_walkBack_109 (k36 : Int32 → Int32 → Int32 → Int32 → am_Mu → Option (Int32 × am_Mu)) (a3 : Int32) (a4 : Int32) (a6 : Int32) (s0 : Int32) (μ : am_Mu) : Option (Int32 × am_Mu) := k36 a3 a4 s0 (a6 + 1) μ
def fTrace_walkBack_89 (k36 : Int32 → Int32 → Int32 → Int32 → am_Mu → Option (Int32 × am_Mu)) (a3 : Int32) (a4 : Int32) (a6 : Int32) (μ : am_Mu) : Option (Int32 × am_Mu) := fTrace_walkBack_109 k36 a3 a4 a6 (-1) μ
def fTrace_walkBack_36 : Nat → Int32 → Int32 → Int32 → Int32 → am_Mu → Option (Int32 × am_Mu)
  | 0, _, _, _, _, _ => none
  | n + 1, a3, a4, a5, a6, μ => (if 20 ≤ a6 then some (a4, μ) else (if a5 = (-1) then some (a4, μ) else ((fTrace_isStep a5 a4 μ).bind fun q3 => (if ¬ q3.1 = 0 then some (a4, q3.2) else (bif am_inb a4 20 then (if a5 = a3 then fTrace_walkBack_89 (fTrace_walkBack_36 n) a3 (a4 + 1) a6 (am_up q3.2 67 ((a4).toNatClampNeg) a5) else (bif am_inb a5 20 then (if ¬ (q3.2 66 ((a5).toNatClampNeg)) = (-1) then ((fLedger_otherThing (q3.2 66 ((a5).toNatClampNeg)) a5 (am_up q3.2 67 ((a4).toNatClampNeg) a5)).bind fun q9 => fTrace_walkBack_109 (fTrace_walkBack_36 n) a3 (a4 + 1) a6 q9.1 q9.2) else fTrace_walkBack_89 (fTrace_walkBack_36 n) a3 (a4 + 1) a6 (am_up q3.2 67 ((a4).toNatClampNeg) a5)) else none)) else none)))))
def fTrace_walkBack_27 (a2 : Int32) (a3 : Int32) (μ : am_Mu) : Option (Int32 × am_Mu) := fTrace_walkBack_36 am_F a3 0 a2 0 μ
def fTrace_walkBack (a1 : Int32) (a2 : Int32) (μ : am_Mu) : Option (Int32 × am_Mu) := (bif am_inb a1 10 then (if a2 = (μ 22 ((a1).toNatClampNeg)) then fTrace_walkBack_27 a2 (μ 22 ((a1).toNatClampNeg)) μ else (bif am_inb a2 20 then (if ¬ (μ 66 ((a2).toNatClampNeg)) = (-1) then fTrace_walkBack_27 a2 (μ 22 ((a1).toNatClampNeg)) μ else some (0, μ)) else none)) else none)
set_option maxRecDepth 20000 in
theorem e_fTrace_walkBack_109 (d : Nat) {k36 : Int32 → Int32 → Int32 → Int32 → am_Mu → Option (Int32 × am_Mu)} (hk36 : ∀ {a3 : Int32} {a4 : Int32} {a5 : Int32} {a6 : Int32} {w1 w2 : Value} {μ : am_Mu} {out : Int32 × am_Mu}, k36 a3 a4 a5 a6 μ = some out → am_Ex none (d + 1) 68 36 [.ref 57, w1, w2, .int a3, .int a4, .int a5, .int a6] [] (am_SX tl) μ (some (.int out.1), (am_SX tl), out.2)) : ∀ {a3 : Int32} {a4 : Int32} {a6 : Int32} {s0 : Int32} {w1 w2 w5 : Value} {μ : am_Mu} {out : Int32 × am_Mu}, fTrace_walkBack_109 k36 a3 a4 a6 s0 μ = some out → am_Ex none (d + 1) 68 109 [.ref 57, w1, w2, .int a3, .int a4, w5, .int a6] [.int s0] (am_SX tl) μ (some (.int out.1), (am_SX tl), out.2) := by
  intro a3 a4 a6 s0 w1 w2 w5 μ out h
  unfold fTrace_walkBack_109 at h
  refine am_Ex.seg 2 114 [.ref 57, w1, w2, .int a3, .int a4, .int s0, .int (a6 + 1)] [] μ (fun _ => rfl) ?_
  refine am_Ex.goto rfl ?_
  exact hk36 h
set_option maxRecDepth 20000 in
theorem e_fTrace_walkBack_89 (d : Nat) {k36 : Int32 → Int32 → Int32 → Int32 → am_Mu → Option (Int32 × am_Mu)} (hk36 : ∀ {a3 : Int32} {a4 : Int32} {a5 : Int32} {a6 : Int32} {w1 w2 : Value} {μ : am_Mu} {out : Int32 × am_Mu}, k36 a3 a4 a5 a6 μ = some out → am_Ex none (d + 1) 68 36 [.ref 57, w1, w2, .int a3, .int a4, .int a5, .int a6] [] (am_SX tl) μ (some (.int out.1), (am_SX tl), out.2)) : ∀ {a3 : Int32} {a4 : Int32} {a6 : Int32} {w1 w2 w5 : Value} {μ : am_Mu} {out : Int32 × am_Mu}, fTrace_walkBack_89 k36 a3 a4 a6 μ = some out → am_Ex none (d + 1) 68 89 [.ref 57, w1, w2, .int a3, .int a4, w5, .int a6] [] (am_SX tl) μ (some (.int out.1), (am_SX tl), out.2) := by
  intro a3 a4 a6 w1 w2 w5 μ out h
  unfold fTrace_walkBack_89 at h
  refine am_Ex.seg 1 90 [.ref 57, w1, w2, .int a3, .int a4, w5, .int a6] [.int (-1)] μ (fun _ => rfl) ?_
  refine am_Ex.goto rfl ?_
  exact e_fTrace_walkBack_109 d hk36 h
set_option maxRecDepth 20000 in
theorem e_fTrace_walkBack_36 (d : Nat) : ∀ n : Nat, ∀ {a3 : Int32} {a4 : Int32} {a5 : Int32} {a6 : Int32} {w1 w2 : Value} {μ : am_Mu} {out : Int32 × am_Mu}, fTrace_walkBack_36 n a3 a4 a5 a6 μ = some out → am_Ex none (d + 1) 68 36 [.ref 57, w1, w2, .int a3, .int a4, .int a5, .int a6] [] (am_SX tl) μ (some (.int out.1), (am_SX tl), out.2) := by
  intro n
  induction n with
  | zero => intros; contradiction
  | succ n ih =>
    have hk36 : ∀ {a3 : Int32} {a4 : Int32} {a5 : Int32} {a6 : Int32} {w1 w2 : Value} {μ : am_Mu} {out : Int32 × am_Mu}, (fTrace_walkBack_36 n) a3 a4 a5 a6 μ = some out → am_Ex none (d + 1) 68 36 [.ref 57, w1, w2, .int a3, .int a4, .int a5, .int a6] [] (am_SX tl) μ (some (.int out.1), (am_SX tl), out.2) := ih
    intro a3 a4 a5 a6 w1 w2 μ out h
    unfold fTrace_walkBack_36 at h
    refine am_Ex.seg 2 40 [.ref 57, w1, w2, .int a3, .int a4, .int a5, .int a6] [.int 20, .int a6] μ (fun _ => rfl) ?_
    rcases am_ite h with ⟨q1, h⟩ | ⟨q1, h⟩
    · refine am_Ex.icmp_ge_t rfl q1 ?_
      refine am_Ex.seg 1 119 [.ref 57, w1, w2, .int a3, .int a4, .int a5, .int a6] [.int a4] μ (fun _ => rfl) ?_
      cases h
      exact am_Ex.iret rfl rfl
    · refine am_Ex.icmp_ge_f rfl q1 ?_
      refine am_Ex.seg 2 46 [.ref 57, w1, w2, .int a3, .int a4, .int a5, .int a6] [.int (-1), .int a5] μ (fun _ => rfl) ?_
      rcases am_ite h with ⟨q2, h⟩ | ⟨q2, h⟩
      · refine am_Ex.icmp_eq_t rfl q2 ?_
        refine am_Ex.seg 1 119 [.ref 57, w1, w2, .int a3, .int a4, .int a5, .int a6] [.int a4] μ (fun _ => rfl) ?_
        cases h
        exact am_Ex.iret rfl rfl
      · refine am_Ex.icmp_eq_f rfl q2 ?_
        refine am_Ex.seg 3 54 [.ref 57, w1, w2, .int a3, .int a4, .int a5, .int a6] [.int a4, .int a5, .ref 57] μ (fun _ => rfl) ?_
        obtain ⟨q3, h_q3, h⟩ := am_bind h
        refine am_Ex.ivk (na := 3) (b := 57) (As' := [.int a5, .int a4]) rfl rfl rfl rfl rfl rfl rfl rfl rfl (e_fTrace_isStep (d + 0) h_q3) ?_
        refine am_Ex.same 57 [.ref 57, w1, w2, .int a3, .int a4, .int a5, .int a6] [.int q3.1] q3.2 rfl ?_
        rcases am_ite h with ⟨q4, h⟩ | ⟨q4, h⟩
        · refine am_Ex.if_ne_t rfl q4 ?_
          refine am_Ex.seg 1 119 [.ref 57, w1, w2, .int a3, .int a4, .int a5, .int a6] [.int a4] q3.2 (fun _ => rfl) ?_
          cases h
          exact am_Ex.iret rfl rfl
        · refine am_Ex.if_ne_f rfl (Decidable.not_not.mp q4) ?_
          refine am_Ex.seg 4 68 [.ref 57, w1, w2, .int a3, .int a4, .int a5, .int a6] [.int a5, .int a4, .ref 67] q3.2 (fun _ => rfl) ?_
          obtain ⟨q5, h⟩ := am_bif h
          refine am_Ex.iast (v2 := a5) (i2 := (a4).toNatClampNeg) rfl rfl q5 rfl rfl ?_
          refine am_Ex.seg 3 75 [.ref 57, w1, w2, .int a3, .int (a4 + 1), .int a5, .int a6] [.int a3, .int a5] (am_up q3.2 67 ((a4).toNatClampNeg) a5) (fun _ => rfl) ?_
          rcases am_ite h with ⟨q6, h⟩ | ⟨q6, h⟩
          · refine am_Ex.icmp_eq_t rfl q6 ?_
            exact e_fTrace_walkBack_89 d hk36 h
          · refine am_Ex.icmp_eq_f rfl q6 ?_
            refine am_Ex.seg 3 84 [.ref 57, w1, w2, .int a3, .int (a4 + 1), .int a5, .int a6] [.int a5, .ref 66] (am_up q3.2 67 ((a4).toNatClampNeg) a5) (fun _ => rfl) ?_
            obtain ⟨q7, h⟩ := am_bif h
            refine am_Ex.iald (v := (q3.2 66 ((a5).toNatClampNeg))) rfl rfl rfl q7 ((am_up_k (by decide)).trans rfl) ?_
            refine am_Ex.seg 1 86 [.ref 57, w1, w2, .int a3, .int (a4 + 1), .int a5, .int a6] [.int (-1), .int (q3.2 66 ((a5).toNatClampNeg))] (am_up q3.2 67 ((a4).toNatClampNeg) a5) (fun _ => rfl) ?_
            rcases am_ite h with ⟨q8, h⟩ | ⟨q8, h⟩
            · refine am_Ex.icmp_ne_t rfl q8 ?_
              refine am_Ex.seg 5 103 [.ref 57, w1, w2, .int a3, .int (a4 + 1), .int a5, .int a6] [.int a5, .ref 66, .ref 13] (am_up q3.2 67 ((a4).toNatClampNeg) a5) (fun _ => rfl) ?_
              refine am_Ex.iald (v := (q3.2 66 ((a5).toNatClampNeg))) rfl rfl rfl q7 ((am_up_k (by decide)).trans rfl) ?_
              refine am_Ex.seg 1 106 [.ref 57, w1, w2, .int a3, .int (a4 + 1), .int a5, .int a6] [.int a5, .int (q3.2 66 ((a5).toNatClampNeg)), .ref 13] (am_up q3.2 67 ((a4).toNatClampNeg) a5) (fun _ => rfl) ?_
              obtain ⟨q9, h_q9, h⟩ := am_bind h
              refine am_Ex.ivk (na := 3) (b := 13) (As' := [.int (q3.2 66 ((a5).toNatClampNeg)), .int a5]) rfl rfl rfl rfl rfl rfl rfl rfl rfl (e_fLedger_otherThing (d + 0) h_q9) ?_
              refine am_Ex.same 109 [.ref 57, w1, w2, .int a3, .int (a4 + 1), .int a5, .int a6] [.int q9.1] q9.2 rfl ?_
              exact e_fTrace_walkBack_109 d hk36 h
            · refine am_Ex.icmp_ne_f rfl (Decidable.not_not.mp q8) ?_
              exact e_fTrace_walkBack_89 d hk36 h
set_option maxRecDepth 20000 in
theorem e_fTrace_walkBack_27 (d : Nat) : ∀ {a2 : Int32} {a3 : Int32} {w1 w4 w5 w6 : Value} {μ : am_Mu} {out : Int32 × am_Mu}, fTrace_walkBack_27 a2 a3 μ = some out → am_Ex none (d + 1) 68 27 [.ref 57, w1, .int a2, .int a3, w4, w5, w6] [] (am_SX tl) μ (some (.int out.1), (am_SX tl), out.2) := by
  intro a2 a3 w1 w4 w5 w6 μ out h
  unfold fTrace_walkBack_27 at h
  refine am_Ex.seg 6 36 [.ref 57, w1, .int a2, .int a3, .int 0, .int a2, .int 0] [] μ (fun _ => rfl) ?_
  exact e_fTrace_walkBack_36 d am_F h
set_option maxRecDepth 20000 in
theorem e_fTrace_walkBack (d : Nat) : ∀ {a1 : Int32} {a2 : Int32} {μ : am_Mu} {out : Int32 × am_Mu}, fTrace_walkBack a1 a2 μ = some out → am_Ex none (d + 1) 68 0 [.ref 57, .int a1, .int a2, .null, .null, .null, .null] [] (am_SX tl) μ (some (.int out.1), (am_SX tl), out.2) := by
  intro a1 a2 μ out h
  unfold fTrace_walkBack at h
  refine am_Ex.seg 4 8 [.ref 57, .int a1, .int a2, .null, .null, .null, .null] [.int a1, .ref 22] μ (fun _ => rfl) ?_
  obtain ⟨q1, h⟩ := am_bif h
  refine am_Ex.iald (v := (μ 22 ((a1).toNatClampNeg))) rfl rfl rfl q1 rfl ?_
  refine am_Ex.seg 3 12 [.ref 57, .int a1, .int a2, .int (μ 22 ((a1).toNatClampNeg)), .null, .null, .null] [.int (μ 22 ((a1).toNatClampNeg)), .int a2] μ (fun _ => rfl) ?_
  rcases am_ite h with ⟨q2, h⟩ | ⟨q2, h⟩
  · refine am_Ex.icmp_eq_t rfl q2 ?_
    exact e_fTrace_walkBack_27 d h
  · refine am_Ex.icmp_eq_f rfl q2 ?_
    refine am_Ex.seg 3 20 [.ref 57, .int a1, .int a2, .int (μ 22 ((a1).toNatClampNeg)), .null, .null, .null] [.int a2, .ref 66] μ (fun _ => rfl) ?_
    obtain ⟨q3, h⟩ := am_bif h
    refine am_Ex.iald (v := (μ 66 ((a2).toNatClampNeg))) rfl rfl rfl q3 rfl ?_
    refine am_Ex.seg 1 22 [.ref 57, .int a1, .int a2, .int (μ 22 ((a1).toNatClampNeg)), .null, .null, .null] [.int (-1), .int (μ 66 ((a2).toNatClampNeg))] μ (fun _ => rfl) ?_
    rcases am_ite h with ⟨q4, h⟩ | ⟨q4, h⟩
    · refine am_Ex.icmp_ne_t rfl q4 ?_
      exact e_fTrace_walkBack_27 d h
    · refine am_Ex.icmp_ne_f rfl (Decidable.not_not.mp q4) ?_
      refine am_Ex.seg 1 26 [.ref 57, .int a1, .int a2, .int (μ 22 ((a1).toNatClampNeg)), .null, .null, .null] [.int 0] μ (fun _ => rfl) ?_
      cases h
      exact am_Ex.iret rfl rfl
def fTrace_cleansings_3 : Nat → Int32 → Int32 → Int32 → Int32 → am_Mu → Option (Int32 × am_Mu)
  | 0, _, _, _, _, _ => none
  | n + 1, a1, a2, a3, a4, μ => (if 5 < a4 then some ((-1), μ) else ((fTrace_otherwise a2 μ).bind fun q2 => (if ¬ q2.1 = 0 then ((fJudge_cleanse 58 a1 a2 a3 q2.2).bind fun q4 => (fTrace_cleansings_3 n) a1 a2 a3 (a4 + 1) q4) else some (a4, q2.2))))
def fTrace_cleansings (a1 : Int32) (a2 : Int32) (a3 : Int32) (μ : am_Mu) : Option (Int32 × am_Mu) := fTrace_cleansings_3 am_F a1 a2 a3 0 μ
set_option maxRecDepth 20000 in
theorem e_fTrace_cleansings_3 (d : Nat) : ∀ n : Nat, ∀ {a1 : Int32} {a2 : Int32} {a3 : Int32} {a4 : Int32} {μ : am_Mu} {out : Int32 × am_Mu}, fTrace_cleansings_3 n a1 a2 a3 a4 μ = some out → am_Ex none (d + 5) 70 3 [.ref 57, .int a1, .int a2, .int a3, .int a4] [] (am_SX tl) μ (some (.int out.1), (am_SX tl), out.2) := by
  intro n
  induction n with
  | zero => intros; contradiction
  | succ n ih =>
    have hk3 : ∀ {a1 : Int32} {a2 : Int32} {a3 : Int32} {a4 : Int32} {μ : am_Mu} {out : Int32 × am_Mu}, (fTrace_cleansings_3 n) a1 a2 a3 a4 μ = some out → am_Ex none (d + 5) 70 3 [.ref 57, .int a1, .int a2, .int a3, .int a4] [] (am_SX tl) μ (some (.int out.1), (am_SX tl), out.2) := ih
    intro a1 a2 a3 a4 μ out h
    unfold fTrace_cleansings_3 at h
    refine am_Ex.seg 2 6 [.ref 57, .int a1, .int a2, .int a3, .int a4] [.int 5, .int a4] μ (fun _ => rfl) ?_
    rcases am_ite h with ⟨q1, h⟩ | ⟨q1, h⟩
    · refine am_Ex.icmp_gt_t rfl q1 ?_
      refine am_Ex.seg 1 41 [.ref 57, .int a1, .int a2, .int a3, .int a4] [.int (-1)] μ (fun _ => rfl) ?_
      cases h
      exact am_Ex.iret rfl rfl
    · refine am_Ex.icmp_gt_f rfl q1 ?_
      refine am_Ex.seg 2 11 [.ref 57, .int a1, .int a2, .int a3, .int a4] [.int a2, .ref 57] μ (fun _ => rfl) ?_
      obtain ⟨q2, h_q2, h⟩ := am_bind h
      refine am_Ex.ivk (na := 2) (b := 57) (As' := [.int a2]) rfl rfl rfl rfl rfl rfl rfl rfl rfl (e_fTrace_otherwise (d + 2) h_q2) ?_
      refine am_Ex.same 14 [.ref 57, .int a1, .int a2, .int a3, .int a4] [.int q2.1] q2.2 rfl ?_
      rcases am_ite h with ⟨q3, h⟩ | ⟨q3, h⟩
      · refine am_Ex.if_ne_t rfl q3 ?_
        refine am_Ex.seg 7 31 [.ref 57, .int a1, .int a2, .int a3, .int a4] [.int a3, .int a2, .int a1, .ref 58, .ref 27] q2.2 (fun _ => rfl) ?_
        obtain ⟨q4, h_q4, h⟩ := am_bind h
        refine am_Ex.ivk (na := 5) (b := 27) (As' := [.ref 58, .int a1, .int a2, .int a3]) rfl rfl rfl rfl rfl rfl rfl rfl rfl (e_fJudge_cleanse (d + 0) h_q4) ?_
        refine am_Ex.same 34 [.ref 57, .int a1, .int a2, .int a3, .int a4] [] q4 rfl ?_
        refine am_Ex.seg 1 37 [.ref 57, .int a1, .int a2, .int a3, .int (a4 + 1)] [] q4 (fun _ => rfl) ?_
        refine am_Ex.goto rfl ?_
        exact hk3 h
      · refine am_Ex.if_ne_f rfl (Decidable.not_not.mp q3) ?_
        refine am_Ex.seg 1 19 [.ref 57, .int a1, .int a2, .int a3, .int a4] [.int a4] q2.2 (fun _ => rfl) ?_
        cases h
        exact am_Ex.iret rfl rfl
set_option maxRecDepth 20000 in
theorem e_fTrace_cleansings (d : Nat) : ∀ {a1 : Int32} {a2 : Int32} {a3 : Int32} {μ : am_Mu} {out : Int32 × am_Mu}, fTrace_cleansings a1 a2 a3 μ = some out → am_Ex none (d + 5) 70 0 [.ref 57, .int a1, .int a2, .int a3, .null] [] (am_SX tl) μ (some (.int out.1), (am_SX tl), out.2) := by
  intro a1 a2 a3 μ out h
  unfold fTrace_cleansings at h
  refine am_Ex.seg 2 3 [.ref 57, .int a1, .int a2, .int a3, .int 0] [] μ (fun _ => rfl) ?_
  exact e_fTrace_cleansings_3 d am_F h
def fB_thing (a1 : Int32) (μ : am_Mu) : Option (Int32 × am_Mu) := ((fLedger_addThing a1 μ).bind fun q1 => some (q1.1, q1.2))
set_option maxRecDepth 20000 in
theorem e_fB_thing (d : Nat) : ∀ {a1 : Int32} {μ : am_Mu} {out : Int32 × am_Mu}, fB_thing a1 μ = some out → am_Ex none (d + 2) 78 0 [.ref 0, .int a1] [] (am_SX tl) μ (some (.int out.1), (am_SX tl), out.2) := by
  intro a1 μ out h
  unfold fB_thing at h
  refine am_Ex.seg 3 5 [.ref 0, .int a1] [.int a1, .ref 13] μ (fun _ => rfl) ?_
  obtain ⟨q1, h_q1, h⟩ := am_bind h
  refine am_Ex.ivk (na := 2) (b := 13) (As' := [.int a1]) rfl rfl rfl rfl rfl rfl rfl rfl rfl (e_fLedger_addThing (d + 0) h_q1) ?_
  refine am_Ex.same 8 [.ref 0, .int a1] [.int q1.1] q1.2 rfl ?_
  cases h
  exact am_Ex.iret rfl rfl
def fB_isMinute (a0 : Int32) (μ : am_Mu) : Option (Int32 × am_Mu) := ((fB_isIn a0 1440000 μ).bind fun q1 => (if q1.1 &&& 1 = q1.1 then some (q1.1, q1.2) else none))
set_option maxRecDepth 20000 in
theorem e_fB_isMinute (d : Nat) : ∀ {a0 : Int32} {μ : am_Mu} {out : Int32 × am_Mu}, fB_isMinute a0 μ = some out → am_Ex none (d + 1) 87 0 [.int a0] [] (am_SX tl) μ (some (.int out.1), (am_SX tl), out.2) := by
  intro a0 μ out h
  unfold fB_isMinute at h
  refine am_Ex.seg 2 4 [.int a0] [.int 1440000, .int a0] μ (fun _ => rfl) ?_
  obtain ⟨q1, h_q1, h⟩ := am_bind h
  refine am_Ex.isk (na := 2) rfl (As := [.int a0, .int 1440000]) rfl rfl rfl rfl rfl rfl (e_fB_isIn (d + 0) h_q1) ?_
  refine am_Ex.same 7 [.int a0] [.int q1.1] q1.2 rfl ?_
  obtain ⟨q2, h⟩ := am_ifp h
  cases h
  exact am_Ex.zret rfl rfl q2
def fB_isTold_19 (μ : am_Mu) : Option (Int32 × am_Mu) := some (0, μ)
def fB_isTold (a1 : Int32) (μ : am_Mu) : Option (Int32 × am_Mu) := ((fB_isMinute a1 μ).bind fun q1 => (if q1.1 = 0 then fB_isTold_19 q1.2 else (if (q1.2 0 11) < a1 then fB_isTold_19 q1.2 else some (1, q1.2))))
set_option maxRecDepth 20000 in
theorem e_fB_isTold_19 (d : Nat) : ∀ {w0 w1 : Value} {μ : am_Mu} {out : Int32 × am_Mu}, fB_isTold_19 μ = some out → am_Ex none (d + 2) 88 19 [w0, w1] [] (am_SX tl) μ (some (.int out.1), (am_SX tl), out.2) := by
  intro w0 w1 μ out h
  unfold fB_isTold_19 at h
  refine am_Ex.seg 1 20 [w0, w1] [.int 0] μ (fun _ => rfl) ?_
  cases h
  exact am_Ex.zret rfl rfl (by decide)
set_option maxRecDepth 20000 in
theorem e_fB_isTold (d : Nat) : ∀ {a1 : Int32} {μ : am_Mu} {out : Int32 × am_Mu}, fB_isTold a1 μ = some out → am_Ex none (d + 2) 88 0 [.ref 0, .int a1] [] (am_SX tl) μ (some (.int out.1), (am_SX tl), out.2) := by
  intro a1 μ out h
  unfold fB_isTold at h
  refine am_Ex.seg 1 1 [.ref 0, .int a1] [.int a1] μ (fun _ => rfl) ?_
  obtain ⟨q1, h_q1, h⟩ := am_bind h
  refine am_Ex.isk (na := 1) rfl (As := [.int a1]) rfl rfl rfl rfl rfl rfl (e_fB_isMinute (d + 0) h_q1) ?_
  refine am_Ex.same 4 [.ref 0, .int a1] [.int q1.1] q1.2 rfl ?_
  rcases am_ite h with ⟨q2, h⟩ | ⟨q2, h⟩
  · refine am_Ex.if_eq_t rfl q2 ?_
    exact e_fB_isTold_19 d h
  · refine am_Ex.if_eq_f rfl q2 ?_
    refine am_Ex.seg 3 12 [.ref 0, .int a1] [.int (q1.2 0 11), .int a1] q1.2 (fun _ => rfl) ?_
    rcases am_ite h with ⟨q3, h⟩ | ⟨q3, h⟩
    · refine am_Ex.icmp_gt_t rfl q3 ?_
      exact e_fB_isTold_19 d h
    · refine am_Ex.icmp_gt_f rfl q3 ?_
      refine am_Ex.seg 1 16 [.ref 0, .int a1] [.int 1] q1.2 (fun _ => rfl) ?_
      refine am_Ex.goto rfl ?_
      cases h
      exact am_Ex.zret rfl rfl (by decide)
def fB_act (a1 : Int32) (a2 : Int32) (a3 : Int32) (a4 : Int32) (a5 : Int32) (μ : am_Mu) : Option (Int32 × am_Mu) := ((fB_isTold a4 μ).bind fun q1 => (if ¬ q1.1 = 0 then ((fLedger_addAct a1 a2 a3 a4 a5 (q1.2 0 11) q1.2).bind fun q3 => some (q3.1, q3.2)) else some ((-1), q1.2)))
set_option maxRecDepth 20000 in
theorem e_fB_act (d : Nat) : ∀ {a1 : Int32} {a2 : Int32} {a3 : Int32} {a4 : Int32} {a5 : Int32} {μ : am_Mu} {out : Int32 × am_Mu}, fB_act a1 a2 a3 a4 a5 μ = some out → am_Ex none (d + 5) 79 0 [.ref 0, .int a1, .int a2, .int a3, .int a4, .int a5] [] (am_SX tl) μ (some (.int out.1), (am_SX tl), out.2) := by
  intro a1 a2 a3 a4 a5 μ out h
  unfold fB_act at h
  refine am_Ex.seg 2 3 [.ref 0, .int a1, .int a2, .int a3, .int a4, .int a5] [.int a4, .ref 0] μ (fun _ => rfl) ?_
  obtain ⟨q1, h_q1, h⟩ := am_bind h
  refine am_Ex.ivk (na := 2) (b := 0) (As' := [.int a4]) rfl rfl rfl rfl rfl rfl rfl rfl rfl (e_fB_isTold (d + 2) h_q1) ?_
  refine am_Ex.same 6 [.ref 0, .int a1, .int a2, .int a3, .int a4, .int a5] [.int q1.1] q1.2 rfl ?_
  rcases am_ite h with ⟨q2, h⟩ | ⟨q2, h⟩
  · refine am_Ex.if_ne_t rfl q2 ?_
    refine am_Ex.seg 9 26 [.ref 0, .int a1, .int a2, .int a3, .int a4, .int a5] [.int (q1.2 0 11), .int a5, .int a4, .int a3, .int a2, .int a1, .ref 13] q1.2 (fun _ => rfl) ?_
    obtain ⟨q3, h_q3, h⟩ := am_bind h
    refine am_Ex.ivk (na := 7) (b := 13) (As' := [.int a1, .int a2, .int a3, .int a4, .int a5, .int (q1.2 0 11)]) rfl rfl rfl rfl rfl rfl rfl rfl rfl (e_fLedger_addAct (d + 0) h_q3) ?_
    refine am_Ex.same 29 [.ref 0, .int a1, .int a2, .int a3, .int a4, .int a5] [.int q3.1] q3.2 rfl ?_
    cases h
    exact am_Ex.iret rfl rfl
  · refine am_Ex.if_ne_f rfl (Decidable.not_not.mp q2) ?_
    refine am_Ex.seg 1 10 [.ref 0, .int a1, .int a2, .int a3, .int a4, .int a5] [.int (-1)] q1.2 (fun _ => rfl) ?_
    cases h
    exact am_Ex.iret rfl rfl
def fB_mistake (a1 : Int32) (a2 : Int32) (a3 : Int32) (μ : am_Mu) : Option (Int32 × am_Mu) := ((fB_isTold a3 μ).bind fun q1 => (if ¬ q1.1 = 0 then ((fLedger_addMistake a1 a2 a3 (q1.2 0 11) q1.2).bind fun q3 => some (q3.1, q3.2)) else some ((-1), q1.2)))
set_option maxRecDepth 20000 in
theorem e_fB_mistake (d : Nat) : ∀ {a1 : Int32} {a2 : Int32} {a3 : Int32} {μ : am_Mu} {out : Int32 × am_Mu}, fB_mistake a1 a2 a3 μ = some out → am_Ex none (d + 5) 80 0 [.ref 0, .int a1, .int a2, .int a3] [] (am_SX tl) μ (some (.int out.1), (am_SX tl), out.2) := by
  intro a1 a2 a3 μ out h
  unfold fB_mistake at h
  refine am_Ex.seg 2 2 [.ref 0, .int a1, .int a2, .int a3] [.int a3, .ref 0] μ (fun _ => rfl) ?_
  obtain ⟨q1, h_q1, h⟩ := am_bind h
  refine am_Ex.ivk (na := 2) (b := 0) (As' := [.int a3]) rfl rfl rfl rfl rfl rfl rfl rfl rfl (e_fB_isTold (d + 2) h_q1) ?_
  refine am_Ex.same 5 [.ref 0, .int a1, .int a2, .int a3] [.int q1.1] q1.2 rfl ?_
  rcases am_ite h with ⟨q2, h⟩ | ⟨q2, h⟩
  · refine am_Ex.if_ne_t rfl q2 ?_
    refine am_Ex.seg 7 21 [.ref 0, .int a1, .int a2, .int a3] [.int (q1.2 0 11), .int a3, .int a2, .int a1, .ref 13] q1.2 (fun _ => rfl) ?_
    obtain ⟨q3, h_q3, h⟩ := am_bind h
    refine am_Ex.ivk (na := 5) (b := 13) (As' := [.int a1, .int a2, .int a3, .int (q1.2 0 11)]) rfl rfl rfl rfl rfl rfl rfl rfl rfl (e_fLedger_addMistake (d + 0) h_q3) ?_
    refine am_Ex.same 24 [.ref 0, .int a1, .int a2, .int a3] [.int q3.1] q3.2 rfl ?_
    cases h
    exact am_Ex.iret rfl rfl
  · refine am_Ex.if_ne_f rfl (Decidable.not_not.mp q2) ?_
    refine am_Ex.seg 1 9 [.ref 0, .int a1, .int a2, .int a3] [.int (-1)] q1.2 (fun _ => rfl) ?_
    cases h
    exact am_Ex.iret rfl rfl
def fB_canAsk_51 (μ : am_Mu) : Option (Int32 × am_Mu) := some (0, μ)
def fB_canAsk (a1 : Int32) (a2 : Int32) (a3 : Int32) (a4 : Int32) (a5 : Int32) (μ : am_Mu) : Option (Int32 × am_Mu) := ((fB_isIn a1 2 μ).bind fun q1 => (if q1.1 = 0 then fB_canAsk_51 q1.2 else ((fB_isIn a2 (q1.2 13 14) q1.2).bind fun q3 => (if q3.1 = 0 then fB_canAsk_51 q3.2 else ((fB_isIn a3 8 q3.2).bind fun q5 => (if q5.1 = 0 then fB_canAsk_51 q5.2 else ((fB_isMinute a4 q5.2).bind fun q7 => (if q7.1 = 0 then fB_canAsk_51 q7.2 else ((fB_isMinute a5 q7.2).bind fun q9 => (if q9.1 = 0 then fB_canAsk_51 q9.2 else some (1, q9.2)))))))))))
set_option maxRecDepth 20000 in
theorem e_fB_canAsk_51 (d : Nat) : ∀ {w0 w1 w2 w3 w4 w5 : Value} {μ : am_Mu} {out : Int32 × am_Mu}, fB_canAsk_51 μ = some out → am_Ex none (d + 2) 89 51 [w0, w1, w2, w3, w4, w5] [] (am_SX tl) μ (some (.int out.1), (am_SX tl), out.2) := by
  intro w0 w1 w2 w3 w4 w5 μ out h
  unfold fB_canAsk_51 at h
  refine am_Ex.seg 1 52 [w0, w1, w2, w3, w4, w5] [.int 0] μ (fun _ => rfl) ?_
  cases h
  exact am_Ex.zret rfl rfl (by decide)
set_option maxRecDepth 20000 in
theorem e_fB_canAsk (d : Nat) : ∀ {a1 : Int32} {a2 : Int32} {a3 : Int32} {a4 : Int32} {a5 : Int32} {μ : am_Mu} {out : Int32 × am_Mu}, fB_canAsk a1 a2 a3 a4 a5 μ = some out → am_Ex none (d + 2) 89 0 [.ref 0, .int a1, .int a2, .int a3, .int a4, .int a5] [] (am_SX tl) μ (some (.int out.1), (am_SX tl), out.2) := by
  intro a1 a2 a3 a4 a5 μ out h
  unfold fB_canAsk at h
  refine am_Ex.seg 2 2 [.ref 0, .int a1, .int a2, .int a3, .int a4, .int a5] [.int 2, .int a1] μ (fun _ => rfl) ?_
  obtain ⟨q1, h_q1, h⟩ := am_bind h
  refine am_Ex.isk (na := 2) rfl (As := [.int a1, .int 2]) rfl rfl rfl rfl rfl rfl (e_fB_isIn (d + 1) h_q1) ?_
  refine am_Ex.same 5 [.ref 0, .int a1, .int a2, .int a3, .int a4, .int a5] [.int q1.1] q1.2 rfl ?_
  rcases am_ite h with ⟨q2, h⟩ | ⟨q2, h⟩
  · refine am_Ex.if_eq_t rfl q2 ?_
    exact e_fB_canAsk_51 d h
  · refine am_Ex.if_eq_f rfl q2 ?_
    refine am_Ex.seg 4 16 [.ref 0, .int a1, .int a2, .int a3, .int a4, .int a5] [.int (q1.2 13 14), .int a2] q1.2 (fun _ => rfl) ?_
    obtain ⟨q3, h_q3, h⟩ := am_bind h
    refine am_Ex.isk (na := 2) rfl (As := [.int a2, .int (q1.2 13 14)]) rfl rfl rfl rfl rfl rfl (e_fB_isIn (d + 1) h_q3) ?_
    refine am_Ex.same 19 [.ref 0, .int a1, .int a2, .int a3, .int a4, .int a5] [.int q3.1] q3.2 rfl ?_
    rcases am_ite h with ⟨q4, h⟩ | ⟨q4, h⟩
    · refine am_Ex.if_eq_t rfl q4 ?_
      exact e_fB_canAsk_51 d h
    · refine am_Ex.if_eq_f rfl q4 ?_
      refine am_Ex.seg 2 25 [.ref 0, .int a1, .int a2, .int a3, .int a4, .int a5] [.int 8, .int a3] q3.2 (fun _ => rfl) ?_
      obtain ⟨q5, h_q5, h⟩ := am_bind h
      refine am_Ex.isk (na := 2) rfl (As := [.int a3, .int 8]) rfl rfl rfl rfl rfl rfl (e_fB_isIn (d + 1) h_q5) ?_
      refine am_Ex.same 28 [.ref 0, .int a1, .int a2, .int a3, .int a4, .int a5] [.int q5.1] q5.2 rfl ?_
      rcases am_ite h with ⟨q6, h⟩ | ⟨q6, h⟩
      · refine am_Ex.if_eq_t rfl q6 ?_
        exact e_fB_canAsk_51 d h
      · refine am_Ex.if_eq_f rfl q6 ?_
        refine am_Ex.seg 1 33 [.ref 0, .int a1, .int a2, .int a3, .int a4, .int a5] [.int a4] q5.2 (fun _ => rfl) ?_
        obtain ⟨q7, h_q7, h⟩ := am_bind h
        refine am_Ex.isk (na := 1) rfl (As := [.int a4]) rfl rfl rfl rfl rfl rfl (e_fB_isMinute (d + 0) h_q7) ?_
        refine am_Ex.same 36 [.ref 0, .int a1, .int a2, .int a3, .int a4, .int a5] [.int q7.1] q7.2 rfl ?_
        rcases am_ite h with ⟨q8, h⟩ | ⟨q8, h⟩
        · refine am_Ex.if_eq_t rfl q8 ?_
          exact e_fB_canAsk_51 d h
        · refine am_Ex.if_eq_f rfl q8 ?_
          refine am_Ex.seg 1 41 [.ref 0, .int a1, .int a2, .int a3, .int a4, .int a5] [.int a5] q7.2 (fun _ => rfl) ?_
          obtain ⟨q9, h_q9, h⟩ := am_bind h
          refine am_Ex.isk (na := 1) rfl (As := [.int a5]) rfl rfl rfl rfl rfl rfl (e_fB_isMinute (d + 0) h_q9) ?_
          refine am_Ex.same 44 [.ref 0, .int a1, .int a2, .int a3, .int a4, .int a5] [.int q9.1] q9.2 rfl ?_
          rcases am_ite h with ⟨q10, h⟩ | ⟨q10, h⟩
          · refine am_Ex.if_eq_t rfl q10 ?_
            exact e_fB_canAsk_51 d h
          · refine am_Ex.if_eq_f rfl q10 ?_
            refine am_Ex.seg 1 48 [.ref 0, .int a1, .int a2, .int a3, .int a4, .int a5] [.int 1] q9.2 (fun _ => rfl) ?_
            refine am_Ex.goto rfl ?_
            cases h
            exact am_Ex.zret rfl rfl (by decide)
def fB_mark (a1 : Int32) (a2 : Int32) (a3 : Int32) (a4 : Int32) (a5 : Int32) (μ : am_Mu) : Option (Int32 × am_Mu) := ((fB_canAsk a1 a2 a3 a4 a5 μ).bind fun q1 => (if ¬ q1.1 = 0 then ((fJudge_tellWhatIs 68 a1 a4 a5 q1.2).bind fun q3 => (bif am_inb ((a2 * 8) + a3) 160 then some ((q3 69 ((((a2 * 8) + a3)).toNatClampNeg)), q3) else none)) else some ((-1), q1.2)))
set_option maxRecDepth 20000 in
theorem e_fB_mark (d : Nat) : ∀ {a1 : Int32} {a2 : Int32} {a3 : Int32} {a4 : Int32} {a5 : Int32} {μ : am_Mu} {out : Int32 × am_Mu}, fB_mark a1 a2 a3 a4 a5 μ = some out → am_Ex none (d + 6) 81 0 [.ref 0, .int a1, .int a2, .int a3, .int a4, .int a5] [] (am_SX tl) μ (some (.int out.1), (am_SX tl), out.2) := by
  intro a1 a2 a3 a4 a5 μ out h
  unfold fB_mark at h
  refine am_Ex.seg 6 8 [.ref 0, .int a1, .int a2, .int a3, .int a4, .int a5] [.int a5, .int a4, .int a3, .int a2, .int a1, .ref 0] μ (fun _ => rfl) ?_
  obtain ⟨q1, h_q1, h⟩ := am_bind h
  refine am_Ex.ivk (na := 6) (b := 0) (As' := [.int a1, .int a2, .int a3, .int a4, .int a5]) rfl rfl rfl rfl rfl rfl rfl rfl rfl (e_fB_canAsk (d + 3) h_q1) ?_
  refine am_Ex.same 11 [.ref 0, .int a1, .int a2, .int a3, .int a4, .int a5] [.int q1.1] q1.2 rfl ?_
  rcases am_ite h with ⟨q2, h⟩ | ⟨q2, h⟩
  · refine am_Ex.if_ne_t rfl q2 ?_
    refine am_Ex.seg 7 29 [.ref 0, .int a1, .int a2, .int a3, .int a4, .int a5] [.int a5, .int a4, .int a1, .ref 68, .ref 27] q1.2 (fun _ => rfl) ?_
    obtain ⟨q3, h_q3, h⟩ := am_bind h
    refine am_Ex.ivk (na := 5) (b := 27) (As' := [.ref 68, .int a1, .int a4, .int a5]) rfl rfl rfl rfl rfl rfl rfl rfl rfl (e_fJudge_tellWhatIs (d + 0) h_q3) ?_
    refine am_Ex.same 32 [.ref 0, .int a1, .int a2, .int a3, .int a4, .int a5] [] q3 rfl ?_
    refine am_Ex.seg 8 45 [.ref 0, .int a1, .int a2, .int a3, .int a4, .int a5] [.int ((a2 * 8) + a3), .ref 69] q3 (fun _ => rfl) ?_
    obtain ⟨q4, h⟩ := am_bif h
    refine am_Ex.iald (v := (q3 69 ((((a2 * 8) + a3)).toNatClampNeg))) rfl rfl rfl q4 rfl ?_
    cases h
    exact am_Ex.iret rfl rfl
  · refine am_Ex.if_ne_f rfl (Decidable.not_not.mp q2) ?_
    refine am_Ex.seg 1 15 [.ref 0, .int a1, .int a2, .int a3, .int a4, .int a5] [.int (-1)] q1.2 (fun _ => rfl) ?_
    cases h
    exact am_Ex.iret rfl rfl
def fB_canTrace_40 (μ : am_Mu) : Option (Int32 × am_Mu) := some (0, μ)
def fB_canTrace (a1 : Int32) (a2 : Int32) (a3 : Int32) (μ : am_Mu) : Option (Int32 × am_Mu) := ((fB_isIn a1 (μ 13 16) μ).bind fun q1 => (if q1.1 = 0 then fB_canTrace_40 q1.2 else ((fB_isIn a2 2 q1.2).bind fun q3 => (if q3.1 = 0 then fB_canTrace_40 q3.2 else ((fB_isIn a3 (q3.2 13 14) q3.2).bind fun q5 => (if q5.1 = 0 then fB_canTrace_40 q5.2 else some (1, q5.2)))))))
set_option maxRecDepth 20000 in
theorem e_fB_canTrace_40 (d : Nat) : ∀ {w0 w1 w2 w3 : Value} {μ : am_Mu} {out : Int32 × am_Mu}, fB_canTrace_40 μ = some out → am_Ex none (d + 1) 90 40 [w0, w1, w2, w3] [] (am_SX tl) μ (some (.int out.1), (am_SX tl), out.2) := by
  intro w0 w1 w2 w3 μ out h
  unfold fB_canTrace_40 at h
  refine am_Ex.seg 1 41 [w0, w1, w2, w3] [.int 0] μ (fun _ => rfl) ?_
  cases h
  exact am_Ex.zret rfl rfl (by decide)
set_option maxRecDepth 20000 in
theorem e_fB_canTrace (d : Nat) : ∀ {a1 : Int32} {a2 : Int32} {a3 : Int32} {μ : am_Mu} {out : Int32 × am_Mu}, fB_canTrace a1 a2 a3 μ = some out → am_Ex none (d + 1) 90 0 [.ref 0, .int a1, .int a2, .int a3] [] (am_SX tl) μ (some (.int out.1), (am_SX tl), out.2) := by
  intro a1 a2 a3 μ out h
  unfold fB_canTrace at h
  refine am_Ex.seg 4 8 [.ref 0, .int a1, .int a2, .int a3] [.int (μ 13 16), .int a1] μ (fun _ => rfl) ?_
  obtain ⟨q1, h_q1, h⟩ := am_bind h
  refine am_Ex.isk (na := 2) rfl (As := [.int a1, .int (μ 13 16)]) rfl rfl rfl rfl rfl rfl (e_fB_isIn (d + 0) h_q1) ?_
  refine am_Ex.same 11 [.ref 0, .int a1, .int a2, .int a3] [.int q1.1] q1.2 rfl ?_
  rcases am_ite h with ⟨q2, h⟩ | ⟨q2, h⟩
  · refine am_Ex.if_eq_t rfl q2 ?_
    exact e_fB_canTrace_40 d h
  · refine am_Ex.if_eq_f rfl q2 ?_
    refine am_Ex.seg 2 16 [.ref 0, .int a1, .int a2, .int a3] [.int 2, .int a2] q1.2 (fun _ => rfl) ?_
    obtain ⟨q3, h_q3, h⟩ := am_bind h
    refine am_Ex.isk (na := 2) rfl (As := [.int a2, .int 2]) rfl rfl rfl rfl rfl rfl (e_fB_isIn (d + 0) h_q3) ?_
    refine am_Ex.same 19 [.ref 0, .int a1, .int a2, .int a3] [.int q3.1] q3.2 rfl ?_
    rcases am_ite h with ⟨q4, h⟩ | ⟨q4, h⟩
    · refine am_Ex.if_eq_t rfl q4 ?_
      exact e_fB_canTrace_40 d h
    · refine am_Ex.if_eq_f rfl q4 ?_
      refine am_Ex.seg 4 30 [.ref 0, .int a1, .int a2, .int a3] [.int (q3.2 13 14), .int a3] q3.2 (fun _ => rfl) ?_
      obtain ⟨q5, h_q5, h⟩ := am_bind h
      refine am_Ex.isk (na := 2) rfl (As := [.int a3, .int (q3.2 13 14)]) rfl rfl rfl rfl rfl rfl (e_fB_isIn (d + 0) h_q5) ?_
      refine am_Ex.same 33 [.ref 0, .int a1, .int a2, .int a3] [.int q5.1] q5.2 rfl ?_
      rcases am_ite h with ⟨q6, h⟩ | ⟨q6, h⟩
      · refine am_Ex.if_eq_t rfl q6 ?_
        exact e_fB_canTrace_40 d h
      · refine am_Ex.if_eq_f rfl q6 ?_
        refine am_Ex.seg 1 37 [.ref 0, .int a1, .int a2, .int a3] [.int 1] q5.2 (fun _ => rfl) ?_
        refine am_Ex.goto rfl ?_
        cases h
        exact am_Ex.zret rfl rfl (by decide)
def fB_leads (a1 : Int32) (a2 : Int32) (a3 : Int32) (a4 : Int32) (μ : am_Mu) : Option (Int32 × am_Mu) := ((fB_canTrace a1 a2 a3 μ).bind fun q1 => (if q1.1 = 0 then some ((-1), q1.2) else ((fB_isMinute a4 q1.2).bind fun q3 => (if ¬ q3.1 = 0 then ((fTrace_follow a1 a2 a4 (q3.2 0 11) q3.2).bind fun q5 => ((fTrace_otherwise a3 q5).bind fun q6 => some (q6.1, q6.2))) else some ((-1), q3.2)))))
set_option maxRecDepth 20000 in
theorem e_fB_leads (d : Nat) : ∀ {a1 : Int32} {a2 : Int32} {a3 : Int32} {a4 : Int32} {μ : am_Mu} {out : Int32 × am_Mu}, fB_leads a1 a2 a3 a4 μ = some out → am_Ex none (d + 6) 82 0 [.ref 0, .int a1, .int a2, .int a3, .int a4] [] (am_SX tl) μ (some (.int out.1), (am_SX tl), out.2) := by
  intro a1 a2 a3 a4 μ out h
  unfold fB_leads at h
  refine am_Ex.seg 4 4 [.ref 0, .int a1, .int a2, .int a3, .int a4] [.int a3, .int a2, .int a1, .ref 0] μ (fun _ => rfl) ?_
  obtain ⟨q1, h_q1, h⟩ := am_bind h
  refine am_Ex.ivk (na := 4) (b := 0) (As' := [.int a1, .int a2, .int a3]) rfl rfl rfl rfl rfl rfl rfl rfl rfl (e_fB_canTrace (d + 4) h_q1) ?_
  refine am_Ex.same 7 [.ref 0, .int a1, .int a2, .int a3, .int a4] [.int q1.1] q1.2 rfl ?_
  rcases am_ite h with ⟨q2, h⟩ | ⟨q2, h⟩
  · refine am_Ex.if_eq_t rfl q2 ?_
    refine am_Ex.seg 1 19 [.ref 0, .int a1, .int a2, .int a3, .int a4] [.int (-1)] q1.2 (fun _ => rfl) ?_
    cases h
    exact am_Ex.iret rfl rfl
  · refine am_Ex.if_eq_f rfl q2 ?_
    refine am_Ex.seg 1 12 [.ref 0, .int a1, .int a2, .int a3, .int a4] [.int a4] q1.2 (fun _ => rfl) ?_
    obtain ⟨q3, h_q3, h⟩ := am_bind h
    refine am_Ex.isk (na := 1) rfl (As := [.int a4]) rfl rfl rfl rfl rfl rfl (e_fB_isMinute (d + 4) h_q3) ?_
    refine am_Ex.same 15 [.ref 0, .int a1, .int a2, .int a3, .int a4] [.int q3.1] q3.2 rfl ?_
    rcases am_ite h with ⟨q4, h⟩ | ⟨q4, h⟩
    · refine am_Ex.if_ne_t rfl q4 ?_
      refine am_Ex.seg 7 32 [.ref 0, .int a1, .int a2, .int a3, .int a4] [.int (q3.2 0 11), .int a4, .int a2, .int a1, .ref 57] q3.2 (fun _ => rfl) ?_
      obtain ⟨q5, h_q5, h⟩ := am_bind h
      refine am_Ex.ivk (na := 5) (b := 57) (As' := [.int a1, .int a2, .int a4, .int (q3.2 0 11)]) rfl rfl rfl rfl rfl rfl rfl rfl rfl (e_fTrace_follow (d + 0) h_q5) ?_
      refine am_Ex.same 35 [.ref 0, .int a1, .int a2, .int a3, .int a4] [] q5 rfl ?_
      refine am_Ex.seg 3 40 [.ref 0, .int a1, .int a2, .int a3, .int a4] [.int a3, .ref 57] q5 (fun _ => rfl) ?_
      obtain ⟨q6, h_q6, h⟩ := am_bind h
      refine am_Ex.ivk (na := 2) (b := 57) (As' := [.int a3]) rfl rfl rfl rfl rfl rfl rfl rfl rfl (e_fTrace_otherwise (d + 3) h_q6) ?_
      refine am_Ex.same 43 [.ref 0, .int a1, .int a2, .int a3, .int a4] [.int q6.1] q6.2 rfl ?_
      cases h
      exact am_Ex.iret rfl rfl
    · refine am_Ex.if_ne_f rfl (Decidable.not_not.mp q4) ?_
      refine am_Ex.seg 1 19 [.ref 0, .int a1, .int a2, .int a3, .int a4] [.int (-1)] q3.2 (fun _ => rfl) ?_
      cases h
      exact am_Ex.iret rfl rfl
def fB_reached (a1 : Int32) (a2 : Int32) (a3 : Int32) (μ : am_Mu) : Option (Int32 × am_Mu) := ((fB_canTrace a1 a2 a3 μ).bind fun q1 => (if ¬ q1.1 = 0 then ((fTrace_follow a1 a2 (q1.2 0 11) (q1.2 0 11) q1.2).bind fun q3 => (bif am_inb a3 20 then some ((q3 66 ((a3).toNatClampNeg)), q3) else none)) else some ((-1), q1.2)))
set_option maxRecDepth 20000 in
theorem e_fB_reached (d : Nat) : ∀ {a1 : Int32} {a2 : Int32} {a3 : Int32} {μ : am_Mu} {out : Int32 × am_Mu}, fB_reached a1 a2 a3 μ = some out → am_Ex none (d + 6) 83 0 [.ref 0, .int a1, .int a2, .int a3] [] (am_SX tl) μ (some (.int out.1), (am_SX tl), out.2) := by
  intro a1 a2 a3 μ out h
  unfold fB_reached at h
  refine am_Ex.seg 4 4 [.ref 0, .int a1, .int a2, .int a3] [.int a3, .int a2, .int a1, .ref 0] μ (fun _ => rfl) ?_
  obtain ⟨q1, h_q1, h⟩ := am_bind h
  refine am_Ex.ivk (na := 4) (b := 0) (As' := [.int a1, .int a2, .int a3]) rfl rfl rfl rfl rfl rfl rfl rfl rfl (e_fB_canTrace (d + 4) h_q1) ?_
  refine am_Ex.same 7 [.ref 0, .int a1, .int a2, .int a3] [.int q1.1] q1.2 rfl ?_
  rcases am_ite h with ⟨q2, h⟩ | ⟨q2, h⟩
  · refine am_Ex.if_ne_t rfl q2 ?_
    refine am_Ex.seg 8 26 [.ref 0, .int a1, .int a2, .int a3] [.int (q1.2 0 11), .int (q1.2 0 11), .int a2, .int a1, .ref 57] q1.2 (fun _ => rfl) ?_
    obtain ⟨q3, h_q3, h⟩ := am_bind h
    refine am_Ex.ivk (na := 5) (b := 57) (As' := [.int a1, .int a2, .int (q1.2 0 11), .int (q1.2 0 11)]) rfl rfl rfl rfl rfl rfl rfl rfl rfl (e_fTrace_follow (d + 0) h_q3) ?_
    refine am_Ex.same 29 [.ref 0, .int a1, .int a2, .int a3] [] q3 rfl ?_
    refine am_Ex.seg 4 37 [.ref 0, .int a1, .int a2, .int a3] [.int a3, .ref 66] q3 (fun _ => rfl) ?_
    obtain ⟨q4, h⟩ := am_bif h
    refine am_Ex.iald (v := (q3 66 ((a3).toNatClampNeg))) rfl rfl rfl q4 rfl ?_
    cases h
    exact am_Ex.iret rfl rfl
  · refine am_Ex.if_ne_f rfl (Decidable.not_not.mp q2) ?_
    refine am_Ex.seg 1 11 [.ref 0, .int a1, .int a2, .int a3] [.int (-1)] q1.2 (fun _ => rfl) ?_
    cases h
    exact am_Ex.iret rfl rfl
def fB_way (a1 : Int32) (a2 : Int32) (a3 : Int32) (a4 : Int32) (μ : am_Mu) : Option (Int32 × am_Mu) := ((fB_canTrace a1 a2 a3 μ).bind fun q1 => (if q1.1 = 0 then some ((-1), q1.2) else ((fB_isIn a4 20 q1.2).bind fun q3 => (if ¬ q3.1 = 0 then ((fTrace_follow a1 a2 (q3.2 0 11) (q3.2 0 11) q3.2).bind fun q5 => ((fTrace_walkBack a1 a3 q5).bind fun q6 => (if q6.1 ≤ a4 then some ((-1), q6.2) else (bif am_inb a4 20 then some ((q6.2 67 ((a4).toNatClampNeg)), q6.2) else none)))) else some ((-1), q3.2)))))
set_option maxRecDepth 20000 in
theorem e_fB_way (d : Nat) : ∀ {a1 : Int32} {a2 : Int32} {a3 : Int32} {a4 : Int32} {μ : am_Mu} {out : Int32 × am_Mu}, fB_way a1 a2 a3 a4 μ = some out → am_Ex none (d + 6) 84 0 [.ref 0, .int a1, .int a2, .int a3, .int a4, .null] [] (am_SX tl) μ (some (.int out.1), (am_SX tl), out.2) := by
  intro a1 a2 a3 a4 μ out h
  unfold fB_way at h
  refine am_Ex.seg 4 4 [.ref 0, .int a1, .int a2, .int a3, .int a4, .null] [.int a3, .int a2, .int a1, .ref 0] μ (fun _ => rfl) ?_
  obtain ⟨q1, h_q1, h⟩ := am_bind h
  refine am_Ex.ivk (na := 4) (b := 0) (As' := [.int a1, .int a2, .int a3]) rfl rfl rfl rfl rfl rfl rfl rfl rfl (e_fB_canTrace (d + 4) h_q1) ?_
  refine am_Ex.same 7 [.ref 0, .int a1, .int a2, .int a3, .int a4, .null] [.int q1.1] q1.2 rfl ?_
  rcases am_ite h with ⟨q2, h⟩ | ⟨q2, h⟩
  · refine am_Ex.if_eq_t rfl q2 ?_
    refine am_Ex.seg 1 21 [.ref 0, .int a1, .int a2, .int a3, .int a4, .null] [.int (-1)] q1.2 (fun _ => rfl) ?_
    cases h
    exact am_Ex.iret rfl rfl
  · refine am_Ex.if_eq_f rfl q2 ?_
    refine am_Ex.seg 2 14 [.ref 0, .int a1, .int a2, .int a3, .int a4, .null] [.int 20, .int a4] q1.2 (fun _ => rfl) ?_
    obtain ⟨q3, h_q3, h⟩ := am_bind h
    refine am_Ex.isk (na := 2) rfl (As := [.int a4, .int 20]) rfl rfl rfl rfl rfl rfl (e_fB_isIn (d + 5) h_q3) ?_
    refine am_Ex.same 17 [.ref 0, .int a1, .int a2, .int a3, .int a4, .null] [.int q3.1] q3.2 rfl ?_
    rcases am_ite h with ⟨q4, h⟩ | ⟨q4, h⟩
    · refine am_Ex.if_ne_t rfl q4 ?_
      refine am_Ex.seg 8 36 [.ref 0, .int a1, .int a2, .int a3, .int a4, .null] [.int (q3.2 0 11), .int (q3.2 0 11), .int a2, .int a1, .ref 57] q3.2 (fun _ => rfl) ?_
      obtain ⟨q5, h_q5, h⟩ := am_bind h
      refine am_Ex.ivk (na := 5) (b := 57) (As' := [.int a1, .int a2, .int (q3.2 0 11), .int (q3.2 0 11)]) rfl rfl rfl rfl rfl rfl rfl rfl rfl (e_fTrace_follow (d + 0) h_q5) ?_
      refine am_Ex.same 39 [.ref 0, .int a1, .int a2, .int a3, .int a4, .null] [] q5 rfl ?_
      refine am_Ex.seg 4 45 [.ref 0, .int a1, .int a2, .int a3, .int a4, .null] [.int a3, .int a1, .ref 57] q5 (fun _ => rfl) ?_
      obtain ⟨q6, h_q6, h⟩ := am_bind h
      refine am_Ex.ivk (na := 3) (b := 57) (As' := [.int a1, .int a3]) rfl rfl rfl rfl rfl rfl rfl rfl rfl (e_fTrace_walkBack (d + 4) h_q6) ?_
      refine am_Ex.same 48 [.ref 0, .int a1, .int a2, .int a3, .int a4, .null] [.int q6.1] q6.2 rfl ?_
      refine am_Ex.seg 3 54 [.ref 0, .int a1, .int a2, .int a3, .int a4, .int q6.1] [.int q6.1, .int a4] q6.2 (fun _ => rfl) ?_
      rcases am_ite h with ⟨q7, h⟩ | ⟨q7, h⟩
      · refine am_Ex.icmp_ge_t rfl q7 ?_
        refine am_Ex.seg 1 71 [.ref 0, .int a1, .int a2, .int a3, .int a4, .int q6.1] [.int (-1)] q6.2 (fun _ => rfl) ?_
        cases h
        exact am_Ex.iret rfl rfl
      · refine am_Ex.icmp_ge_f rfl q7 ?_
        refine am_Ex.seg 4 66 [.ref 0, .int a1, .int a2, .int a3, .int a4, .int q6.1] [.int a4, .ref 67] q6.2 (fun _ => rfl) ?_
        obtain ⟨q8, h⟩ := am_bif h
        refine am_Ex.iald (v := (q6.2 67 ((a4).toNatClampNeg))) rfl rfl rfl q8 rfl ?_
        refine am_Ex.goto rfl ?_
        cases h
        exact am_Ex.iret rfl rfl
    · refine am_Ex.if_ne_f rfl (Decidable.not_not.mp q4) ?_
      refine am_Ex.seg 1 21 [.ref 0, .int a1, .int a2, .int a3, .int a4, .null] [.int (-1)] q3.2 (fun _ => rfl) ?_
      cases h
      exact am_Ex.iret rfl rfl
def fB_mend (a1 : Int32) (a2 : Int32) (a3 : Int32) (μ : am_Mu) : Option (Int32 × am_Mu) := ((fB_canTrace a1 a2 a3 μ).bind fun q1 => (if ¬ q1.1 = 0 then ((fTrace_follow a1 a2 (q1.2 0 11) (q1.2 0 11) q1.2).bind fun q3 => ((fTrace_cleansings a2 a3 (q3 0 11) q3).bind fun q4 => some (q4.1, q4.2))) else some ((-1), q1.2)))
set_option maxRecDepth 20000 in
theorem e_fB_mend (d : Nat) : ∀ {a1 : Int32} {a2 : Int32} {a3 : Int32} {μ : am_Mu} {out : Int32 × am_Mu}, fB_mend a1 a2 a3 μ = some out → am_Ex none (d + 6) 85 0 [.ref 0, .int a1, .int a2, .int a3] [] (am_SX tl) μ (some (.int out.1), (am_SX tl), out.2) := by
  intro a1 a2 a3 μ out h
  unfold fB_mend at h
  refine am_Ex.seg 4 4 [.ref 0, .int a1, .int a2, .int a3] [.int a3, .int a2, .int a1, .ref 0] μ (fun _ => rfl) ?_
  obtain ⟨q1, h_q1, h⟩ := am_bind h
  refine am_Ex.ivk (na := 4) (b := 0) (As' := [.int a1, .int a2, .int a3]) rfl rfl rfl rfl rfl rfl rfl rfl rfl (e_fB_canTrace (d + 4) h_q1) ?_
  refine am_Ex.same 7 [.ref 0, .int a1, .int a2, .int a3] [.int q1.1] q1.2 rfl ?_
  rcases am_ite h with ⟨q2, h⟩ | ⟨q2, h⟩
  · refine am_Ex.if_ne_t rfl q2 ?_
    refine am_Ex.seg 8 26 [.ref 0, .int a1, .int a2, .int a3] [.int (q1.2 0 11), .int (q1.2 0 11), .int a2, .int a1, .ref 57] q1.2 (fun _ => rfl) ?_
    obtain ⟨q3, h_q3, h⟩ := am_bind h
    refine am_Ex.ivk (na := 5) (b := 57) (As' := [.int a1, .int a2, .int (q1.2 0 11), .int (q1.2 0 11)]) rfl rfl rfl rfl rfl rfl rfl rfl rfl (e_fTrace_follow (d + 0) h_q3) ?_
    refine am_Ex.same 29 [.ref 0, .int a1, .int a2, .int a3] [] q3 rfl ?_
    refine am_Ex.seg 6 39 [.ref 0, .int a1, .int a2, .int a3] [.int (q3 0 11), .int a3, .int a2, .ref 57] q3 (fun _ => rfl) ?_
    obtain ⟨q4, h_q4, h⟩ := am_bind h
    refine am_Ex.ivk (na := 4) (b := 57) (As' := [.int a2, .int a3, .int (q3 0 11)]) rfl rfl rfl rfl rfl rfl rfl rfl rfl (e_fTrace_cleansings (d + 0) h_q4) ?_
    refine am_Ex.same 42 [.ref 0, .int a1, .int a2, .int a3] [.int q4.1] q4.2 rfl ?_
    cases h
    exact am_Ex.iret rfl rfl
  · refine am_Ex.if_ne_f rfl (Decidable.not_not.mp q2) ?_
    refine am_Ex.seg 1 11 [.ref 0, .int a1, .int a2, .int a3] [.int (-1)] q1.2 (fun _ => rfl) ?_
    cases h
    exact am_Ex.iret rfl rfl
end
