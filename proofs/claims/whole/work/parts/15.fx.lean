def fLawReader_readEffect_114 (s1 : Int32) (s2 : Int32) (μ : am_Mu) : Option (am_Mu) := ((fLaw_addEffect 7 (s1 ||| s2) μ).bind fun q1 => some q1)
def fLawReader_readEffect_101 (a3 : Int32) (s1 : Int32) (s2 : Int32) (μ : am_Mu) : Option (am_Mu) := (if ¬ a3 = 43 then fLawReader_readEffect_114 (s1 ||| s2) 0 μ else fLawReader_readEffect_114 (s1 ||| s2) 16 μ)
def fLawReader_readEffect_67 (a2 : Int32) (a3 : Int32) (μ : am_Mu) : Option (am_Mu) := ((fLawReader_readMark (am_up μ 5 4 ((μ 5 4) + 1))).bind fun q1 => (if ¬ a2 = 121 then fLawReader_readEffect_101 a3 q1.1 0 q1.2 else fLawReader_readEffect_101 a3 q1.1 8 q1.2))
def fLawReader_readEffect_23 (a1 : Int32) (a2 : Int32) (μ : am_Mu) : Option (am_Mu) := (if a1 < 4 then ((fLawReader_sign (am_up μ 5 4 ((μ 5 4) + 1))).bind fun q2 => (if q2.1 = 43 then fLawReader_readEffect_67 a2 q2.1 q2.2 else (if q2.1 = 45 then fLawReader_readEffect_67 a2 q2.1 q2.2 else ((fLawReader_fail 1 q2.2).bind fun q5 => some q5)))) else ((fLawReader_fail 3 μ).bind fun q6 => some q6))
def fLawReader_readEffect (a1 : Int32) (μ : am_Mu) : Option (am_Mu) := ((fLawReader_sign μ).bind fun q1 => (if q1.1 = 120 then fLawReader_readEffect_23 a1 q1.1 q1.2 else (if q1.1 = 121 then fLawReader_readEffect_23 a1 q1.1 q1.2 else ((fLawReader_fail 1 q1.2).bind fun q4 => some q4))))
set_option maxRecDepth 20000 in
theorem e_fLawReader_readEffect_114 (d : Nat) : ∀ {s1 : Int32} {s2 : Int32} {w0 w1 w2 w3 w4 : Value} {μ : am_Mu} {out : am_Mu}, fLawReader_readEffect_114 s1 s2 μ = some out → am_Ex none (d + 2) 47 114 [w0, w1, w2, w3, w4] [.int s2, .int s1, .ref 7] am_SH μ (none, am_SH, out) := by
  intro s1 s2 w0 w1 w2 w3 w4 μ out h
  unfold fLawReader_readEffect_114 at h
  refine am_Ex.seg 1 115 [w0, w1, w2, w3, w4] [.int (s1 ||| s2), .ref 7] μ (fun _ => rfl) ?_
  obtain ⟨q1, h_q1, h⟩ := am_bind h
  refine am_Ex.ivk (na := 2) (b := 7) (As' := [.int (s1 ||| s2)]) rfl rfl rfl rfl rfl rfl rfl rfl rfl (e_fLaw_addEffect (d + 1) h_q1) ?_
  refine am_Ex.same 118 [w0, w1, w2, w3, w4] [] q1 rfl ?_
  cases h
  exact am_Ex.vret rfl rfl
set_option maxRecDepth 20000 in
theorem e_fLawReader_readEffect_101 (d : Nat) : ∀ {a3 : Int32} {s1 : Int32} {s2 : Int32} {w0 w1 w2 w4 : Value} {μ : am_Mu} {out : am_Mu}, fLawReader_readEffect_101 a3 s1 s2 μ = some out → am_Ex none (d + 2) 47 101 [w0, w1, w2, .int a3, w4] [.int s2, .int s1, .ref 7] am_SH μ (none, am_SH, out) := by
  intro a3 s1 s2 w0 w1 w2 w4 μ out h
  unfold fLawReader_readEffect_101 at h
  refine am_Ex.seg 3 105 [w0, w1, w2, .int a3, w4] [.int 43, .int a3, .int (s1 ||| s2), .ref 7] μ (fun _ => rfl) ?_
  rcases am_ite h with ⟨q1, h⟩ | ⟨q1, h⟩
  · refine am_Ex.icmp_ne_t rfl q1 ?_
    refine am_Ex.seg 1 114 [w0, w1, w2, .int a3, w4] [.int 0, .int (s1 ||| s2), .ref 7] μ (fun _ => rfl) ?_
    exact e_fLawReader_readEffect_114 d h
  · refine am_Ex.icmp_ne_f rfl (Decidable.not_not.mp q1) ?_
    refine am_Ex.seg 1 110 [w0, w1, w2, .int a3, w4] [.int 16, .int (s1 ||| s2), .ref 7] μ (fun _ => rfl) ?_
    refine am_Ex.goto rfl ?_
    exact e_fLawReader_readEffect_114 d h
set_option maxRecDepth 20000 in
theorem e_fLawReader_readEffect_67 (d : Nat) : ∀ {a2 : Int32} {a3 : Int32} {w1 w4 : Value} {μ : am_Mu} {out : am_Mu}, fLawReader_readEffect_67 a2 a3 μ = some out → am_Ex none (d + 2) 47 67 [.ref 5, w1, .int a2, .int a3, w4] [] am_SH μ (none, am_SH, out) := by
  intro a2 a3 w1 w4 μ out h
  unfold fLawReader_readEffect_67 at h
  refine am_Ex.seg 7 78 [.ref 5, w1, .int a2, .int a3, w4] [.ref 5] (am_up μ 5 4 ((μ 5 4) + 1)) (fun _ => rfl) ?_
  obtain ⟨q1, h_q1, h⟩ := am_bind h
  refine am_Ex.ivk (na := 1) (b := 5) (As' := []) rfl rfl rfl rfl rfl rfl rfl rfl rfl (e_fLawReader_readMark (d + 0) h_q1) ?_
  refine am_Ex.same 81 [.ref 5, w1, .int a2, .int a3, w4] [.int q1.1] q1.2 rfl ?_
  refine am_Ex.seg 6 92 [.ref 5, w1, .int a2, .int a3, .int q1.1] [.int 121, .int a2, .int q1.1, .ref 7] q1.2 (fun _ => rfl) ?_
  rcases am_ite h with ⟨q2, h⟩ | ⟨q2, h⟩
  · refine am_Ex.icmp_ne_t rfl q2 ?_
    refine am_Ex.seg 1 101 [.ref 5, w1, .int a2, .int a3, .int q1.1] [.int 0, .int q1.1, .ref 7] q1.2 (fun _ => rfl) ?_
    exact e_fLawReader_readEffect_101 d h
  · refine am_Ex.icmp_ne_f rfl (Decidable.not_not.mp q2) ?_
    refine am_Ex.seg 1 97 [.ref 5, w1, .int a2, .int a3, .int q1.1] [.int 8, .int q1.1, .ref 7] q1.2 (fun _ => rfl) ?_
    refine am_Ex.goto rfl ?_
    exact e_fLawReader_readEffect_101 d h
set_option maxRecDepth 20000 in
theorem e_fLawReader_readEffect_23 (d : Nat) : ∀ {a1 : Int32} {a2 : Int32} {w3 w4 : Value} {μ : am_Mu} {out : am_Mu}, fLawReader_readEffect_23 a1 a2 μ = some out → am_Ex none (d + 2) 47 23 [.ref 5, .int a1, .int a2, w3, w4] [] am_SH μ (none, am_SH, out) := by
  intro a1 a2 w3 w4 μ out h
  unfold fLawReader_readEffect_23 at h
  refine am_Ex.seg 2 25 [.ref 5, .int a1, .int a2, w3, w4] [.int 4, .int a1] μ (fun _ => rfl) ?_
  rcases am_ite h with ⟨q1, h⟩ | ⟨q1, h⟩
  · refine am_Ex.icmp_lt_t rfl q1 ?_
    refine am_Ex.seg 7 45 [.ref 5, .int a1, .int a2, w3, w4] [.ref 5] (am_up μ 5 4 ((μ 5 4) + 1)) (fun _ => rfl) ?_
    obtain ⟨q2, h_q2, h⟩ := am_bind h
    refine am_Ex.ivk (na := 1) (b := 5) (As' := []) rfl rfl rfl rfl rfl rfl rfl rfl rfl (e_fLawReader_sign (d + 1) h_q2) ?_
    refine am_Ex.same 48 [.ref 5, .int a1, .int a2, w3, w4] [.int q2.1] q2.2 rfl ?_
    refine am_Ex.seg 3 52 [.ref 5, .int a1, .int a2, .int q2.1, w4] [.int 43, .int q2.1] q2.2 (fun _ => rfl) ?_
    rcases am_ite h with ⟨q3, h⟩ | ⟨q3, h⟩
    · refine am_Ex.icmp_eq_t rfl q3 ?_
      exact e_fLawReader_readEffect_67 d h
    · refine am_Ex.icmp_eq_f rfl q3 ?_
      refine am_Ex.seg 2 58 [.ref 5, .int a1, .int a2, .int q2.1, w4] [.int 45, .int q2.1] q2.2 (fun _ => rfl) ?_
      rcases am_ite h with ⟨q4, h⟩ | ⟨q4, h⟩
      · refine am_Ex.icmp_eq_t rfl q4 ?_
        exact e_fLawReader_readEffect_67 d h
      · refine am_Ex.icmp_eq_f rfl q4 ?_
        refine am_Ex.seg 2 63 [.ref 5, .int a1, .int a2, .int q2.1, w4] [.int 1, .ref 5] q2.2 (fun _ => rfl) ?_
        obtain ⟨q5, h_q5, h⟩ := am_bind h
        refine am_Ex.ivk (na := 2) (b := 5) (As' := [.int 1]) rfl rfl rfl rfl rfl rfl rfl rfl rfl (e_fLawReader_fail (d + 1) h_q5) ?_
        refine am_Ex.same 66 [.ref 5, .int a1, .int a2, .int q2.1, w4] [] q5 rfl ?_
        cases h
        exact am_Ex.vret rfl rfl
  · refine am_Ex.icmp_lt_f rfl q1 ?_
    refine am_Ex.seg 2 30 [.ref 5, .int a1, .int a2, w3, w4] [.int 3, .ref 5] μ (fun _ => rfl) ?_
    obtain ⟨q6, h_q6, h⟩ := am_bind h
    refine am_Ex.ivk (na := 2) (b := 5) (As' := [.int 3]) rfl rfl rfl rfl rfl rfl rfl rfl rfl (e_fLawReader_fail (d + 1) h_q6) ?_
    refine am_Ex.same 33 [.ref 5, .int a1, .int a2, w3, w4] [] q6 rfl ?_
    cases h
    exact am_Ex.vret rfl rfl
set_option maxRecDepth 20000 in
theorem e_fLawReader_readEffect (d : Nat) : ∀ {a1 : Int32} {μ : am_Mu} {out : am_Mu}, fLawReader_readEffect a1 μ = some out → am_Ex none (d + 2) 47 0 [.ref 5, .int a1, .null, .null, .null] [] am_SH μ (none, am_SH, out) := by
  intro a1 μ out h
  unfold fLawReader_readEffect at h
  refine am_Ex.seg 1 1 [.ref 5, .int a1, .null, .null, .null] [.ref 5] μ (fun _ => rfl) ?_
  obtain ⟨q1, h_q1, h⟩ := am_bind h
  refine am_Ex.ivk (na := 1) (b := 5) (As' := []) rfl rfl rfl rfl rfl rfl rfl rfl rfl (e_fLawReader_sign (d + 1) h_q1) ?_
  refine am_Ex.same 4 [.ref 5, .int a1, .null, .null, .null] [.int q1.1] q1.2 rfl ?_
  refine am_Ex.seg 3 8 [.ref 5, .int a1, .int q1.1, .null, .null] [.int 120, .int q1.1] q1.2 (fun _ => rfl) ?_
  rcases am_ite h with ⟨q2, h⟩ | ⟨q2, h⟩
  · refine am_Ex.icmp_eq_t rfl q2 ?_
    exact e_fLawReader_readEffect_23 d h
  · refine am_Ex.icmp_eq_f rfl q2 ?_
    refine am_Ex.seg 2 14 [.ref 5, .int a1, .int q1.1, .null, .null] [.int 121, .int q1.1] q1.2 (fun _ => rfl) ?_
    rcases am_ite h with ⟨q3, h⟩ | ⟨q3, h⟩
    · refine am_Ex.icmp_eq_t rfl q3 ?_
      exact e_fLawReader_readEffect_23 d h
    · refine am_Ex.icmp_eq_f rfl q3 ?_
      refine am_Ex.seg 2 19 [.ref 5, .int a1, .int q1.1, .null, .null] [.int 1, .ref 5] q1.2 (fun _ => rfl) ?_
      obtain ⟨q4, h_q4, h⟩ := am_bind h
      refine am_Ex.ivk (na := 2) (b := 5) (As' := [.int 1]) rfl rfl rfl rfl rfl rfl rfl rfl rfl (e_fLawReader_fail (d + 1) h_q4) ?_
      refine am_Ex.same 22 [.ref 5, .int a1, .int q1.1, .null, .null] [] q4 rfl ?_
      cases h
      exact am_Ex.vret rfl rfl
def fLawReader_readEffects_2 : Nat → Int32 → am_Mu → Option (am_Mu)
  | 0, _, _ => none
  | n + 1, a1, μ => (if 4 < a1 then some μ else ((fLawReader_readEffect a1 μ).bind fun q2 => ((fLawReader_goesOn 44 q2).bind fun q3 => (if ¬ q3.1 = 0 then (fLawReader_readEffects_2 n) (a1 + 1) (am_up q3.2 5 4 ((q3.2 5 4) + 1)) else some q3.2))))
def fLawReader_readEffects (μ : am_Mu) : Option (am_Mu) := fLawReader_readEffects_2 am_F 0 μ
set_option maxRecDepth 20000 in
theorem e_fLawReader_readEffects_2 (d : Nat) : ∀ n : Nat, ∀ {a1 : Int32} {μ : am_Mu} {out : am_Mu}, fLawReader_readEffects_2 n a1 μ = some out → am_Ex none (d + 3) 46 2 [.ref 5, .int a1] [] am_SH μ (none, am_SH, out) := by
  intro n
  induction n with
  | zero => intros; contradiction
  | succ n ih =>
    have hk2 : ∀ {a1 : Int32} {μ : am_Mu} {out : am_Mu}, (fLawReader_readEffects_2 n) a1 μ = some out → am_Ex none (d + 3) 46 2 [.ref 5, .int a1] [] am_SH μ (none, am_SH, out) := ih
    intro a1 μ out h
    unfold fLawReader_readEffects_2 at h
    refine am_Ex.seg 2 4 [.ref 5, .int a1] [.int 4, .int a1] μ (fun _ => rfl) ?_
    rcases am_ite h with ⟨q1, h⟩ | ⟨q1, h⟩
    · refine am_Ex.icmp_gt_t rfl q1 ?_
      cases h
      exact am_Ex.vret rfl rfl
    · refine am_Ex.icmp_gt_f rfl q1 ?_
      refine am_Ex.seg 2 9 [.ref 5, .int a1] [.int a1, .ref 5] μ (fun _ => rfl) ?_
      obtain ⟨q2, h_q2, h⟩ := am_bind h
      refine am_Ex.ivk (na := 2) (b := 5) (As' := [.int a1]) rfl rfl rfl rfl rfl rfl rfl rfl rfl (e_fLawReader_readEffect (d + 0) h_q2) ?_
      refine am_Ex.same 12 [.ref 5, .int a1] [] q2 rfl ?_
      refine am_Ex.seg 2 15 [.ref 5, .int a1] [.int 44, .ref 5] q2 (fun _ => rfl) ?_
      obtain ⟨q3, h_q3, h⟩ := am_bind h
      refine am_Ex.ivk (na := 2) (b := 5) (As' := [.int 44]) rfl rfl rfl rfl rfl rfl rfl rfl rfl (e_fLawReader_goesOn (d + 1) h_q3) ?_
      refine am_Ex.same 18 [.ref 5, .int a1] [.int q3.1] q3.2 rfl ?_
      rcases am_ite h with ⟨q4, h⟩ | ⟨q4, h⟩
      · refine am_Ex.if_ne_t rfl q4 ?_
        refine am_Ex.seg 7 35 [.ref 5, .int (a1 + 1)] [] (am_up q3.2 5 4 ((q3.2 5 4) + 1)) (fun _ => rfl) ?_
        refine am_Ex.goto rfl ?_
        exact hk2 h
      · refine am_Ex.if_ne_f rfl (Decidable.not_not.mp q4) ?_
        cases h
        exact am_Ex.vret rfl rfl
set_option maxRecDepth 20000 in
theorem e_fLawReader_readEffects (d : Nat) : ∀ {μ : am_Mu} {out : am_Mu}, fLawReader_readEffects μ = some out → am_Ex none (d + 3) 46 0 [.ref 5, .null] [] am_SH μ (none, am_SH, out) := by
  intro μ out h
  unfold fLawReader_readEffects at h
  refine am_Ex.seg 2 2 [.ref 5, .int 0] [] μ (fun _ => rfl) ?_
  exact e_fLawReader_readEffects_2 d am_F h
def fLawReader_readTape_112 (μ : am_Mu) : Option (Int32 × am_Mu) := (if ¬ (μ 5 5) = 0 then some ((((1000 : Int32) * (μ 5 5)) + (μ 5 4)), μ) else some (0, μ))
def fLawReader_readTape_97 (μ : am_Mu) : Option (Int32 × am_Mu) := fLawReader_readTape_112 μ
def fLawReader_readTape_34 : Nat → Int32 → Int32 → am_Mu → Option (Int32 × am_Mu)
  | 0, _, _, _ => none
  | n + 1, a1, a2, μ => (if 24 < a2 then fLawReader_readTape_112 μ else (if a1 ≤ 0 then fLawReader_readTape_112 μ else ((fLawReader_readKind a2 μ).bind fun q3 => ((fLawReader_expect 58 q3.2).bind fun q4 => ((fLR_cond 9 0 q4).bind fun q5 => ((fLawReader_expect 62 q5).bind fun q6 => ((fLawReader_readEffects q6).bind fun q7 => ((fLaw_addRule 7 q3.1 q7).bind fun q8 => (if ¬ (q8 5 5) = 0 then fLawReader_readTape_112 q8 else (if (q8 5 4) < (q8 5 3) then ((fLawReader_expect 59 q8).bind fun q11 => (fLawReader_readTape_34 n) a1 (a2 + 1) q11) else fLawReader_readTape_97 q8))))))))))
def fLawReader_readTape (a1 : Int32) (μ : am_Mu) : Option (Int32 × am_Mu) := ((fLaw_empty 7 μ).bind fun q1 => fLawReader_readTape_34 am_F a1 0 (am_up (am_up (am_up (am_up (am_up q1 5 3 a1) 5 4 0) 5 5 0) 5 6 0) 5 2 0))
set_option maxRecDepth 20000 in
theorem e_fLawReader_readTape_112 (d : Nat) : ∀ {w1 w2 w3 : Value} {μ : am_Mu} {out : Int32 × am_Mu}, fLawReader_readTape_112 μ = some out → am_Ex none (d + 35) 37 112 [.ref 5, w1, w2, w3] [] am_SH μ (some (.int out.1), am_SH, out.2) := by
  intro w1 w2 w3 μ out h
  unfold fLawReader_readTape_112 at h
  refine am_Ex.seg 2 116 [.ref 5, w1, w2, w3] [.int (μ 5 5)] μ (fun _ => rfl) ?_
  rcases am_ite h with ⟨q1, h⟩ | ⟨q1, h⟩
  · refine am_Ex.if_ne_t rfl q1 ?_
    refine am_Ex.seg 7 136 [.ref 5, w1, w2, w3] [.int (((1000 : Int32) * (μ 5 5)) + (μ 5 4))] μ (fun _ => rfl) ?_
    cases h
    exact am_Ex.iret rfl rfl
  · refine am_Ex.if_ne_f rfl (Decidable.not_not.mp q1) ?_
    refine am_Ex.seg 1 120 [.ref 5, w1, w2, w3] [.int 0] μ (fun _ => rfl) ?_
    refine am_Ex.goto rfl ?_
    cases h
    exact am_Ex.iret rfl rfl
set_option maxRecDepth 20000 in
theorem e_fLawReader_readTape_97 (d : Nat) : ∀ {w1 w2 w3 : Value} {μ : am_Mu} {out : Int32 × am_Mu}, fLawReader_readTape_97 μ = some out → am_Ex none (d + 35) 37 97 [.ref 5, w1, w2, w3] [] am_SH μ (some (.int out.1), am_SH, out.2) := by
  intro w1 w2 w3 μ out h
  unfold fLawReader_readTape_97 at h
  refine am_Ex.goto rfl ?_
  exact e_fLawReader_readTape_112 d h
set_option maxRecDepth 20000 in
theorem e_fLawReader_readTape_34 (d : Nat) : ∀ n : Nat, ∀ {a1 : Int32} {a2 : Int32} {w3 : Value} {μ : am_Mu} {out : Int32 × am_Mu}, fLawReader_readTape_34 n a1 a2 μ = some out → am_Ex none (d + 35) 37 34 [.ref 5, .int a1, .int a2, w3] [] am_SH μ (some (.int out.1), am_SH, out.2) := by
  intro n
  induction n with
  | zero => intros; contradiction
  | succ n ih =>
    have hk34 : ∀ {a1 : Int32} {a2 : Int32} {w3 : Value} {μ : am_Mu} {out : Int32 × am_Mu}, (fLawReader_readTape_34 n) a1 a2 μ = some out → am_Ex none (d + 35) 37 34 [.ref 5, .int a1, .int a2, w3] [] am_SH μ (some (.int out.1), am_SH, out.2) := ih
    intro a1 a2 w3 μ out h
    unfold fLawReader_readTape_34 at h
    refine am_Ex.seg 2 37 [.ref 5, .int a1, .int a2, w3] [.int 24, .int a2] μ (fun _ => rfl) ?_
    rcases am_ite h with ⟨q1, h⟩ | ⟨q1, h⟩
    · refine am_Ex.icmp_gt_t rfl q1 ?_
      exact e_fLawReader_readTape_112 d h
    · refine am_Ex.icmp_gt_f rfl q1 ?_
      refine am_Ex.seg 1 41 [.ref 5, .int a1, .int a2, w3] [.int a1] μ (fun _ => rfl) ?_
      rcases am_ite h with ⟨q2, h⟩ | ⟨q2, h⟩
      · refine am_Ex.if_le_t rfl q2 ?_
        exact e_fLawReader_readTape_112 d h
      · refine am_Ex.if_le_f rfl q2 ?_
        refine am_Ex.seg 2 46 [.ref 5, .int a1, .int a2, w3] [.int a2, .ref 5] μ (fun _ => rfl) ?_
        obtain ⟨q3, h_q3, h⟩ := am_bind h
        refine am_Ex.ivk (na := 2) (b := 5) (As' := [.int a2]) rfl rfl rfl rfl rfl rfl rfl rfl rfl (e_fLawReader_readKind (d + 33) h_q3) ?_
        refine am_Ex.same 49 [.ref 5, .int a1, .int a2, w3] [.int q3.1] q3.2 rfl ?_
        refine am_Ex.seg 3 53 [.ref 5, .int a1, .int a2, .int q3.1] [.int 58, .ref 5] q3.2 (fun _ => rfl) ?_
        obtain ⟨q4, h_q4, h⟩ := am_bind h
        refine am_Ex.ivk (na := 2) (b := 5) (As' := [.int 58]) rfl rfl rfl rfl rfl rfl rfl rfl rfl (e_fLawReader_expect (d + 32) h_q4) ?_
        refine am_Ex.same 56 [.ref 5, .int a1, .int a2, .int q3.1] [] q4 rfl ?_
        refine am_Ex.seg 2 58 [.ref 5, .int a1, .int a2, .int q3.1] [.int 0, .ref 5] q4 (fun _ => rfl) ?_
        obtain ⟨q5, h_q5, h⟩ := am_bind h
        refine am_Ex.ivk (na := 2) (b := 5) (As' := [.int 0]) rfl rfl rfl rfl rfl rfl rfl rfl rfl (e_fLR_cond (d + 0) h_q5) ?_
        refine am_Ex.same 61 [.ref 5, .int a1, .int a2, .int q3.1] [] q5 rfl ?_
        refine am_Ex.seg 2 64 [.ref 5, .int a1, .int a2, .int q3.1] [.int 62, .ref 5] q5 (fun _ => rfl) ?_
        obtain ⟨q6, h_q6, h⟩ := am_bind h
        refine am_Ex.ivk (na := 2) (b := 5) (As' := [.int 62]) rfl rfl rfl rfl rfl rfl rfl rfl rfl (e_fLawReader_expect (d + 32) h_q6) ?_
        refine am_Ex.same 67 [.ref 5, .int a1, .int a2, .int q3.1] [] q6 rfl ?_
        refine am_Ex.seg 1 68 [.ref 5, .int a1, .int a2, .int q3.1] [.ref 5] q6 (fun _ => rfl) ?_
        obtain ⟨q7, h_q7, h⟩ := am_bind h
        refine am_Ex.ivk (na := 1) (b := 5) (As' := []) rfl rfl rfl rfl rfl rfl rfl rfl rfl (e_fLawReader_readEffects (d + 31) h_q7) ?_
        refine am_Ex.same 71 [.ref 5, .int a1, .int a2, .int q3.1] [] q7 rfl ?_
        refine am_Ex.seg 3 76 [.ref 5, .int a1, .int a2, .int q3.1] [.int q3.1, .ref 7] q7 (fun _ => rfl) ?_
        obtain ⟨q8, h_q8, h⟩ := am_bind h
        refine am_Ex.ivk (na := 2) (b := 7) (As' := [.int q3.1]) rfl rfl rfl rfl rfl rfl rfl rfl rfl (e_fLaw_addRule (d + 34) h_q8) ?_
        refine am_Ex.same 79 [.ref 5, .int a1, .int a2, .int q3.1] [] q8 rfl ?_
        refine am_Ex.seg 2 83 [.ref 5, .int a1, .int a2, .int q3.1] [.int (q8 5 5)] q8 (fun _ => rfl) ?_
        rcases am_ite h with ⟨q9, h⟩ | ⟨q9, h⟩
        · refine am_Ex.if_ne_t rfl q9 ?_
          exact e_fLawReader_readTape_112 d h
        · refine am_Ex.if_ne_f rfl (Decidable.not_not.mp q9) ?_
          refine am_Ex.seg 4 94 [.ref 5, .int a1, .int a2, .int q3.1] [.int (q8 5 3), .int (q8 5 4)] q8 (fun _ => rfl) ?_
          rcases am_ite h with ⟨q10, h⟩ | ⟨q10, h⟩
          · refine am_Ex.icmp_lt_t rfl q10 ?_
            refine am_Ex.seg 2 103 [.ref 5, .int a1, .int a2, .int q3.1] [.int 59, .ref 5] q8 (fun _ => rfl) ?_
            obtain ⟨q11, h_q11, h⟩ := am_bind h
            refine am_Ex.ivk (na := 2) (b := 5) (As' := [.int 59]) rfl rfl rfl rfl rfl rfl rfl rfl rfl (e_fLawReader_expect (d + 32) h_q11) ?_
            refine am_Ex.same 106 [.ref 5, .int a1, .int a2, .int q3.1] [] q11 rfl ?_
            refine am_Ex.seg 1 109 [.ref 5, .int a1, .int (a2 + 1), .int q3.1] [] q11 (fun _ => rfl) ?_
            refine am_Ex.goto rfl ?_
            exact hk34 h
          · refine am_Ex.icmp_lt_f rfl q10 ?_
            exact e_fLawReader_readTape_97 d h
set_option maxRecDepth 20000 in
theorem e_fLawReader_readTape (d : Nat) : ∀ {a1 : Int32} {μ : am_Mu} {out : Int32 × am_Mu}, fLawReader_readTape a1 μ = some out → am_Ex none (d + 35) 37 0 [.ref 5, .int a1, .null, .null] [] am_SH μ (some (.int out.1), am_SH, out.2) := by
  intro a1 μ out h
  unfold fLawReader_readTape at h
  refine am_Ex.seg 2 4 [.ref 5, .int a1, .null, .null] [.ref 7] μ (fun _ => rfl) ?_
  obtain ⟨q1, h_q1, h⟩ := am_bind h
  refine am_Ex.ivk (na := 1) (b := 7) (As' := []) rfl rfl rfl rfl rfl rfl rfl rfl rfl (e_fLaw_empty (d + 34) h_q1) ?_
  refine am_Ex.same 7 [.ref 5, .int a1, .null, .null] [] q1 rfl ?_
  refine am_Ex.seg 17 34 [.ref 5, .int a1, .int 0, .null] [] (am_up (am_up (am_up (am_up (am_up q1 5 3 a1) 5 4 0) 5 5 0) 5 6 0) 5 2 0) (fun _ => rfl) ?_
  exact e_fLawReader_readTape_34 d am_F h
def fLedger_addThing (a1 : Int32) (μ : am_Mu) : Option (Int32 × am_Mu) := (if 20 ≤ (μ 13 14) then some ((-1), μ) else ((fB_isIn a1 256 μ).bind fun q2 => (if ¬ q2.1 = 0 then (bif am_inb (q2.2 13 14) 20 then some ((((q2.2 13 14) + 1) - 1), (am_up (am_up q2.2 14 (((q2.2 13 14)).toNatClampNeg) a1) 13 14 ((q2.2 13 14) + 1))) else none) else some ((-1), q2.2))))
set_option maxRecDepth 20000 in
theorem e_fLedger_addThing (d : Nat) : ∀ {a1 : Int32} {μ : am_Mu} {out : Int32 × am_Mu}, fLedger_addThing a1 μ = some out → am_Ex none (d + 1) 54 0 [.ref 13, .int a1] [] am_SH μ (some (.int out.1), am_SH, out.2) := by
  intro a1 μ out h
  unfold fLedger_addThing at h
  refine am_Ex.seg 3 6 [.ref 13, .int a1] [.int 20, .int (μ 13 14)] μ (fun _ => rfl) ?_
  rcases am_ite h with ⟨q1, h⟩ | ⟨q1, h⟩
  · refine am_Ex.icmp_ge_t rfl q1 ?_
    refine am_Ex.seg 1 20 [.ref 13, .int a1] [.int (-1)] μ (fun _ => rfl) ?_
    cases h
    exact am_Ex.iret rfl rfl
  · refine am_Ex.icmp_ge_f rfl q1 ?_
    refine am_Ex.seg 2 13 [.ref 13, .int a1] [.int 256, .int a1] μ (fun _ => rfl) ?_
    obtain ⟨q2, h_q2, h⟩ := am_bind h
    refine am_Ex.isk (na := 2) rfl (As := [.int a1, .int 256]) rfl rfl rfl rfl rfl rfl (e_fB_isIn (d + 0) h_q2) ?_
    refine am_Ex.same 16 [.ref 13, .int a1] [.int q2.1] q2.2 rfl ?_
    rcases am_ite h with ⟨q3, h⟩ | ⟨q3, h⟩
    · refine am_Ex.if_ne_t rfl q3 ?_
      refine am_Ex.seg 5 30 [.ref 13, .int a1] [.int a1, .int (q2.2 13 14), .ref 14] q2.2 (fun _ => rfl) ?_
      obtain ⟨q4, h⟩ := am_bif h
      refine am_Ex.iast (v2 := a1) (i2 := ((q2.2 13 14)).toNatClampNeg) rfl rfl q4 rfl rfl ?_
      refine am_Ex.seg 10 47 [.ref 13, .int a1] [.int (((q2.2 13 14) + 1) - 1)] (am_up (am_up q2.2 14 (((q2.2 13 14)).toNatClampNeg) a1) 13 14 ((q2.2 13 14) + 1)) (fun _ => rfl) ?_
      cases h
      exact am_Ex.iret rfl rfl
    · refine am_Ex.if_ne_f rfl (Decidable.not_not.mp q3) ?_
      refine am_Ex.seg 1 20 [.ref 13, .int a1] [.int (-1)] q2.2 (fun _ => rfl) ?_
      cases h
      exact am_Ex.iret rfl rfl
def fLedger_canBeSecond_52 (μ : am_Mu) : Option (Int32 × am_Mu) := some (0, μ)
def fLedger_canBeSecond (a1 : Int32) (a2 : Int32) (a3 : Int32) (μ : am_Mu) : Option (Int32 × am_Mu) := (if a1 = 0 then ((fB_isIn a3 (μ 13 14) μ).bind fun q2 => (if q2.1 = 0 then fLedger_canBeSecond_52 q2.2 else (if a2 = a3 then fLedger_canBeSecond_52 q2.2 else some (1, q2.2)))) else (if a1 = 1 then ((fB_isIn a3 (μ 13 14) μ).bind fun q6 => (if q6.1 = 0 then fLedger_canBeSecond_52 q6.2 else (if a2 = a3 then fLedger_canBeSecond_52 q6.2 else some (1, q6.2)))) else (if a1 = 2 then (if ¬ a3 = (-1) then some (0, μ) else some (1, μ)) else (if a1 = 3 then (if ¬ a3 = (-1) then some (0, μ) else some (1, μ)) else some (0, μ)))))
set_option maxRecDepth 20000 in
theorem e_fLedger_canBeSecond_52 (d : Nat) : ∀ {w0 w1 w2 w3 : Value} {μ : am_Mu} {out : Int32 × am_Mu}, fLedger_canBeSecond_52 μ = some out → am_Ex none (d + 1) 56 52 [w0, w1, w2, w3] [] am_SH μ (some (.int out.1), am_SH, out.2) := by
  intro w0 w1 w2 w3 μ out h
  unfold fLedger_canBeSecond_52 at h
  refine am_Ex.seg 1 53 [w0, w1, w2, w3] [.int 0] μ (fun _ => rfl) ?_
  cases h
  exact am_Ex.zret rfl rfl (by decide)
set_option maxRecDepth 20000 in
theorem e_fLedger_canBeSecond (d : Nat) : ∀ {a1 : Int32} {a2 : Int32} {a3 : Int32} {μ : am_Mu} {out : Int32 × am_Mu}, fLedger_canBeSecond a1 a2 a3 μ = some out → am_Ex none (d + 1) 56 0 [.ref 13, .int a1, .int a2, .int a3] [] am_SH μ (some (.int out.1), am_SH, out.2) := by
  intro a1 a2 a3 μ out h
  unfold fLedger_canBeSecond at h
  refine am_Ex.seg 1 1 [.ref 13, .int a1, .int a2, .int a3] [.int a1] μ (fun _ => rfl) ?_
  rcases am_ite h with ⟨q1, h⟩ | ⟨q1, h⟩
  · refine am_Ex.tblIn 32 (v := 0) rfl q1 (by decide) rfl rfl ?_
    refine am_Ex.seg 3 37 [.ref 13, .int a1, .int a2, .int a3] [.int (μ 13 14), .int a3] μ (fun _ => rfl) ?_
    obtain ⟨q2, h_q2, h⟩ := am_bind h
    refine am_Ex.isk (na := 2) rfl (As := [.int a3, .int (μ 13 14)]) rfl rfl rfl rfl rfl rfl (e_fB_isIn (d + 0) h_q2) ?_
    refine am_Ex.same 40 [.ref 13, .int a1, .int a2, .int a3] [.int q2.1] q2.2 rfl ?_
    rcases am_ite h with ⟨q3, h⟩ | ⟨q3, h⟩
    · refine am_Ex.if_eq_t rfl q3 ?_
      exact e_fLedger_canBeSecond_52 d h
    · refine am_Ex.if_eq_f rfl q3 ?_
      refine am_Ex.seg 2 45 [.ref 13, .int a1, .int a2, .int a3] [.int a3, .int a2] q2.2 (fun _ => rfl) ?_
      rcases am_ite h with ⟨q4, h⟩ | ⟨q4, h⟩
      · refine am_Ex.icmp_eq_t rfl q4 ?_
        exact e_fLedger_canBeSecond_52 d h
      · refine am_Ex.icmp_eq_f rfl q4 ?_
        refine am_Ex.seg 1 49 [.ref 13, .int a1, .int a2, .int a3] [.int 1] q2.2 (fun _ => rfl) ?_
        refine am_Ex.goto rfl ?_
        cases h
        exact am_Ex.zret rfl rfl (by decide)
  rcases am_ite h with ⟨q5, h⟩ | ⟨q5, h⟩
  · refine am_Ex.tblIn 32 (v := 1) rfl q5 (by decide) rfl rfl ?_
    refine am_Ex.seg 3 37 [.ref 13, .int a1, .int a2, .int a3] [.int (μ 13 14), .int a3] μ (fun _ => rfl) ?_
    obtain ⟨q6, h_q6, h⟩ := am_bind h
    refine am_Ex.isk (na := 2) rfl (As := [.int a3, .int (μ 13 14)]) rfl rfl rfl rfl rfl rfl (e_fB_isIn (d + 0) h_q6) ?_
    refine am_Ex.same 40 [.ref 13, .int a1, .int a2, .int a3] [.int q6.1] q6.2 rfl ?_
    rcases am_ite h with ⟨q7, h⟩ | ⟨q7, h⟩
    · refine am_Ex.if_eq_t rfl q7 ?_
      exact e_fLedger_canBeSecond_52 d h
    · refine am_Ex.if_eq_f rfl q7 ?_
      refine am_Ex.seg 2 45 [.ref 13, .int a1, .int a2, .int a3] [.int a3, .int a2] q6.2 (fun _ => rfl) ?_
      rcases am_ite h with ⟨q8, h⟩ | ⟨q8, h⟩
      · refine am_Ex.icmp_eq_t rfl q8 ?_
        exact e_fLedger_canBeSecond_52 d h
      · refine am_Ex.icmp_eq_f rfl q8 ?_
        refine am_Ex.seg 1 49 [.ref 13, .int a1, .int a2, .int a3] [.int 1] q6.2 (fun _ => rfl) ?_
        refine am_Ex.goto rfl ?_
        cases h
        exact am_Ex.zret rfl rfl (by decide)
  rcases am_ite h with ⟨q9, h⟩ | ⟨q9, h⟩
  · refine am_Ex.tblIn 54 (v := 2) rfl q9 (by decide) rfl rfl ?_
    refine am_Ex.seg 2 56 [.ref 13, .int a1, .int a2, .int a3] [.int (-1), .int a3] μ (fun _ => rfl) ?_
    rcases am_ite h with ⟨q10, h⟩ | ⟨q10, h⟩
    · refine am_Ex.icmp_ne_t rfl q10 ?_
      refine am_Ex.seg 1 64 [.ref 13, .int a1, .int a2, .int a3] [.int 0] μ (fun _ => rfl) ?_
      cases h
      exact am_Ex.zret rfl rfl (by decide)
    · refine am_Ex.icmp_ne_f rfl (Decidable.not_not.mp q10) ?_
      refine am_Ex.seg 1 60 [.ref 13, .int a1, .int a2, .int a3] [.int 1] μ (fun _ => rfl) ?_
      refine am_Ex.goto rfl ?_
      cases h
      exact am_Ex.zret rfl rfl (by decide)
  rcases am_ite h with ⟨q11, h⟩ | ⟨q11, h⟩
  · refine am_Ex.tblIn 54 (v := 3) rfl q11 (by decide) rfl rfl ?_
    refine am_Ex.seg 2 56 [.ref 13, .int a1, .int a2, .int a3] [.int (-1), .int a3] μ (fun _ => rfl) ?_
    rcases am_ite h with ⟨q12, h⟩ | ⟨q12, h⟩
    · refine am_Ex.icmp_ne_t rfl q12 ?_
      refine am_Ex.seg 1 64 [.ref 13, .int a1, .int a2, .int a3] [.int 0] μ (fun _ => rfl) ?_
      cases h
      exact am_Ex.zret rfl rfl (by decide)
    · refine am_Ex.icmp_ne_f rfl (Decidable.not_not.mp q12) ?_
      refine am_Ex.seg 1 60 [.ref 13, .int a1, .int a2, .int a3] [.int 1] μ (fun _ => rfl) ?_
      refine am_Ex.goto rfl ?_
      cases h
      exact am_Ex.zret rfl rfl (by decide)
  refine am_Ex.tblOut 65 rfl (by have := lv_neT q1 (a := 0) rfl; have := lv_neT q5 (a := 1) rfl; have := lv_neT q9 (a := 2) rfl; have := lv_neT q11 (a := 3) rfl; omega) rfl ?_
  refine am_Ex.seg 1 66 [.ref 13, .int a1, .int a2, .int a3] [.int 0] μ (fun _ => rfl) ?_
  cases h
  exact am_Ex.zret rfl rfl (by decide)
def fLedger_comesAhead_25 (μ : am_Mu) : Option (Int32 × am_Mu) := some (1, μ)
def fLedger_comesAhead_29 (μ : am_Mu) : Option (Int32 × am_Mu) := some (0, μ)
def fLedger_comesAhead (a1 : Int32) (a2 : Int32) (μ : am_Mu) : Option (Int32 × am_Mu) := ((fLedger_minuteOf a1 μ).bind fun q1 => ((fLedger_minuteOf a2 q1.2).bind fun q2 => (if (q1.1 - q2.1) < 0 then fLedger_comesAhead_25 q2.2 else (if ¬ (q1.1 - q2.1) = 0 then fLedger_comesAhead_29 q2.2 else (if a2 ≤ a1 then fLedger_comesAhead_29 q2.2 else fLedger_comesAhead_25 q2.2)))))
set_option maxRecDepth 20000 in
theorem e_fLedger_comesAhead_25 (d : Nat) : ∀ {w0 w1 w2 w3 : Value} {μ : am_Mu} {out : Int32 × am_Mu}, fLedger_comesAhead_25 μ = some out → am_Ex none (d + 2) 60 25 [w0, w1, w2, w3] [] am_SH μ (some (.int out.1), am_SH, out.2) := by
  intro w0 w1 w2 w3 μ out h
  unfold fLedger_comesAhead_25 at h
  refine am_Ex.seg 1 26 [w0, w1, w2, w3] [.int 1] μ (fun _ => rfl) ?_
  refine am_Ex.goto rfl ?_
  cases h
  exact am_Ex.zret rfl rfl (by decide)
set_option maxRecDepth 20000 in
theorem e_fLedger_comesAhead_29 (d : Nat) : ∀ {w0 w1 w2 w3 : Value} {μ : am_Mu} {out : Int32 × am_Mu}, fLedger_comesAhead_29 μ = some out → am_Ex none (d + 2) 60 29 [w0, w1, w2, w3] [] am_SH μ (some (.int out.1), am_SH, out.2) := by
  intro w0 w1 w2 w3 μ out h
  unfold fLedger_comesAhead_29 at h
  refine am_Ex.seg 1 30 [w0, w1, w2, w3] [.int 0] μ (fun _ => rfl) ?_
  cases h
  exact am_Ex.zret rfl rfl (by decide)
set_option maxRecDepth 20000 in
theorem e_fLedger_comesAhead (d : Nat) : ∀ {a1 : Int32} {a2 : Int32} {μ : am_Mu} {out : Int32 × am_Mu}, fLedger_comesAhead a1 a2 μ = some out → am_Ex none (d + 2) 60 0 [.ref 13, .int a1, .int a2, .null] [] am_SH μ (some (.int out.1), am_SH, out.2) := by
  intro a1 a2 μ out h
  unfold fLedger_comesAhead at h
  refine am_Ex.seg 2 2 [.ref 13, .int a1, .int a2, .null] [.int a1, .ref 13] μ (fun _ => rfl) ?_
  obtain ⟨q1, h_q1, h⟩ := am_bind h
  refine am_Ex.ivk (na := 2) (b := 13) (As' := [.int a1]) rfl rfl rfl rfl rfl rfl rfl rfl rfl (e_fLedger_minuteOf (d + 0) h_q1) ?_
  refine am_Ex.same 5 [.ref 13, .int a1, .int a2, .null] [.int q1.1] q1.2 rfl ?_
  refine am_Ex.seg 2 7 [.ref 13, .int a1, .int a2, .null] [.int a2, .ref 13, .int q1.1] q1.2 (fun _ => rfl) ?_
  obtain ⟨q2, h_q2, h⟩ := am_bind h
  refine am_Ex.ivk (na := 2) (b := 13) (As' := [.int a2]) rfl rfl rfl rfl rfl rfl rfl rfl rfl (e_fLedger_minuteOf (d + 0) h_q2) ?_
  refine am_Ex.same 10 [.ref 13, .int a1, .int a2, .null] [.int q2.1, .int q1.1] q2.2 rfl ?_
  refine am_Ex.seg 3 13 [.ref 13, .int a1, .int a2, .int (q1.1 - q2.1)] [.int (q1.1 - q2.1)] q2.2 (fun _ => rfl) ?_
  rcases am_ite h with ⟨q3, h⟩ | ⟨q3, h⟩
  · refine am_Ex.if_lt_t rfl q3 ?_
    exact e_fLedger_comesAhead_25 d h
  · refine am_Ex.if_lt_f rfl q3 ?_
    refine am_Ex.seg 1 17 [.ref 13, .int a1, .int a2, .int (q1.1 - q2.1)] [.int (q1.1 - q2.1)] q2.2 (fun _ => rfl) ?_
    rcases am_ite h with ⟨q4, h⟩ | ⟨q4, h⟩
    · refine am_Ex.if_ne_t rfl q4 ?_
      exact e_fLedger_comesAhead_29 d h
    · refine am_Ex.if_ne_f rfl (Decidable.not_not.mp q4) ?_
      refine am_Ex.seg 2 22 [.ref 13, .int a1, .int a2, .int (q1.1 - q2.1)] [.int a2, .int a1] q2.2 (fun _ => rfl) ?_
      rcases am_ite h with ⟨q5, h⟩ | ⟨q5, h⟩
      · refine am_Ex.icmp_ge_t rfl q5 ?_
        exact e_fLedger_comesAhead_29 d h
      · refine am_Ex.icmp_ge_f rfl q5 ?_
        exact e_fLedger_comesAhead_25 d h
def fLedger_place_67 (a1 : Int32) (a2 : Int32) (μ : am_Mu) : Option (am_Mu) := (bif am_inb a2 210 then some (am_up (am_up μ 26 ((a2).toNatClampNeg) a1) 13 13 ((μ 13 13) + 1)) else none)
def fLedger_place_23 : Nat → Int32 → Int32 → Int32 → am_Mu → Option (am_Mu)
  | 0, _, _, _, _ => none
  | n + 1, a1, a2, a3, μ => (if a3 ≤ 0 then fLedger_place_67 a1 a2 μ else (bif am_inb (a3 - 1) 210 then ((fLedger_comesAhead a1 (μ 26 (((a3 - 1)).toNatClampNeg)) μ).bind fun q3 => (if q3.1 = 0 then fLedger_place_67 a1 a2 q3.2 else (bif am_inb a3 210 then (fLedger_place_23 n) a1 (a3 - 1) (a3 + (-1)) (am_up q3.2 26 ((a3).toNatClampNeg) (q3.2 26 (((a3 - 1)).toNatClampNeg))) else none))) else none))
def fLedger_place (a1 : Int32) (μ : am_Mu) : Option (am_Mu) := (if (μ 13 13) < 210 then fLedger_place_23 am_F a1 (μ 13 13) (μ 13 13) μ else some μ)
set_option maxRecDepth 20000 in
theorem e_fLedger_place_67 (d : Nat) : ∀ {a1 : Int32} {a2 : Int32} {w3 : Value} {μ : am_Mu} {out : am_Mu}, fLedger_place_67 a1 a2 μ = some out → am_Ex none (d + 3) 59 67 [.ref 13, .int a1, .int a2, w3] [] am_SH μ (none, am_SH, out) := by
  intro a1 a2 w3 μ out h
  unfold fLedger_place_67 at h
  refine am_Ex.seg 4 73 [.ref 13, .int a1, .int a2, w3] [.int a1, .int a2, .ref 26] μ (fun _ => rfl) ?_
  obtain ⟨q1, h⟩ := am_bif h
  refine am_Ex.iast (v2 := a1) (i2 := (a2).toNatClampNeg) rfl rfl q1 rfl rfl ?_
  refine am_Ex.seg 6 84 [.ref 13, .int a1, .int a2, w3] [] (am_up (am_up μ 26 ((a2).toNatClampNeg) a1) 13 13 ((μ 13 13) + 1)) (fun _ => rfl) ?_
  cases h
  exact am_Ex.vret rfl rfl
set_option maxRecDepth 20000 in
theorem e_fLedger_place_23 (d : Nat) : ∀ n : Nat, ∀ {a1 : Int32} {a2 : Int32} {a3 : Int32} {μ : am_Mu} {out : am_Mu}, fLedger_place_23 n a1 a2 a3 μ = some out → am_Ex none (d + 3) 59 23 [.ref 13, .int a1, .int a2, .int a3] [] am_SH μ (none, am_SH, out) := by
  intro n
  induction n with
  | zero => intros; contradiction
  | succ n ih =>
    have hk23 : ∀ {a1 : Int32} {a2 : Int32} {a3 : Int32} {μ : am_Mu} {out : am_Mu}, (fLedger_place_23 n) a1 a2 a3 μ = some out → am_Ex none (d + 3) 59 23 [.ref 13, .int a1, .int a2, .int a3] [] am_SH μ (none, am_SH, out) := ih
    intro a1 a2 a3 μ out h
    unfold fLedger_place_23 at h
    refine am_Ex.seg 1 24 [.ref 13, .int a1, .int a2, .int a3] [.int a3] μ (fun _ => rfl) ?_
    rcases am_ite h with ⟨q1, h⟩ | ⟨q1, h⟩
    · refine am_Ex.if_le_t rfl q1 ?_
      exact e_fLedger_place_67 d h
    · refine am_Ex.if_le_f rfl q1 ?_
      refine am_Ex.seg 7 36 [.ref 13, .int a1, .int a2, .int a3] [.int (a3 - 1), .ref 26, .int a1, .ref 13] μ (fun _ => rfl) ?_
      obtain ⟨q2, h⟩ := am_bif h
      refine am_Ex.iald (v := (μ 26 (((a3 - 1)).toNatClampNeg))) rfl rfl q2 rfl ?_
      obtain ⟨q3, h_q3, h⟩ := am_bind h
      refine am_Ex.ivk (na := 3) (b := 13) (As' := [.int a1, .int (μ 26 (((a3 - 1)).toNatClampNeg))]) rfl rfl rfl rfl rfl rfl rfl rfl rfl (e_fLedger_comesAhead (d + 0) h_q3) ?_
      refine am_Ex.same 40 [.ref 13, .int a1, .int a2, .int a3] [.int q3.1] q3.2 rfl ?_
      rcases am_ite h with ⟨q4, h⟩ | ⟨q4, h⟩
      · refine am_Ex.if_eq_t rfl q4 ?_
        exact e_fLedger_place_67 d h
      · refine am_Ex.if_eq_f rfl q4 ?_
        refine am_Ex.seg 8 55 [.ref 13, .int a1, .int a2, .int a3] [.int (a3 - 1), .ref 26, .int a3, .ref 26] q3.2 (fun _ => rfl) ?_
        refine am_Ex.iald (v := (q3.2 26 (((a3 - 1)).toNatClampNeg))) rfl rfl q2 rfl ?_
        obtain ⟨q5, h⟩ := am_bif h
        refine am_Ex.iast (v2 := (q3.2 26 (((a3 - 1)).toNatClampNeg))) (i2 := (a3).toNatClampNeg) rfl rfl q5 rfl rfl ?_
        refine am_Ex.seg 5 64 [.ref 13, .int a1, .int (a3 - 1), .int (a3 + (-1))] [] (am_up q3.2 26 ((a3).toNatClampNeg) (q3.2 26 (((a3 - 1)).toNatClampNeg))) (fun _ => rfl) ?_
        refine am_Ex.goto rfl ?_
        exact hk23 h
set_option maxRecDepth 20000 in
theorem e_fLedger_place (d : Nat) : ∀ {a1 : Int32} {μ : am_Mu} {out : am_Mu}, fLedger_place a1 μ = some out → am_Ex none (d + 3) 59 0 [.ref 13, .int a1, .null, .null] [] am_SH μ (none, am_SH, out) := by
  intro a1 μ out h
  unfold fLedger_place at h
  refine am_Ex.seg 5 9 [.ref 13, .int a1, .null, .null] [.int 210, .int (μ 13 13)] μ (fun _ => rfl) ?_
  rcases am_ite h with ⟨q1, h⟩ | ⟨q1, h⟩
  · refine am_Ex.icmp_lt_t rfl q1 ?_
    refine am_Ex.seg 6 23 [.ref 13, .int a1, .int (μ 13 13), .int (μ 13 13)] [] μ (fun _ => rfl) ?_
    exact e_fLedger_place_23 d am_F h
  · refine am_Ex.icmp_lt_f rfl q1 ?_
    cases h
    exact am_Ex.vret rfl rfl
def fLedger_addAct (a1 : Int32) (a2 : Int32) (a3 : Int32) (a4 : Int32) (a5 : Int32) (a6 : Int32) (μ : am_Mu) : Option (Int32 × am_Mu) := (if 200 ≤ (μ 13 15) then some ((-1), μ) else ((fB_isIn a2 (μ 13 14) μ).bind fun q2 => (if q2.1 = 0 then some ((-1), q2.2) else ((fLedger_canBeSecond a1 a2 a3 q2.2).bind fun q4 => (if ¬ q4.1 = 0 then (bif am_inb (q4.2 13 15) 200 then ((fLedger_place ((10 : Int32) + (q4.2 13 15)) (am_up (am_up (am_up (am_up (am_up (am_up (am_up q4.2 15 (((q4.2 13 15)).toNatClampNeg) a1) 16 (((q4.2 13 15)).toNatClampNeg) a2) 17 (((q4.2 13 15)).toNatClampNeg) a3) 18 (((q4.2 13 15)).toNatClampNeg) a4) 19 (((q4.2 13 15)).toNatClampNeg) (a5 &&& 1)) 20 (((q4.2 13 15)).toNatClampNeg) a6) 21 (((q4.2 13 15)).toNatClampNeg) (-1))).bind fun q7 => some ((((q7 13 15) + 1) - 1), (am_up q7 13 15 ((q7 13 15) + 1)))) else none) else some ((-1), q4.2))))))
set_option maxRecDepth 20000 in
theorem e_fLedger_addAct (d : Nat) : ∀ {a1 : Int32} {a2 : Int32} {a3 : Int32} {a4 : Int32} {a5 : Int32} {a6 : Int32} {μ : am_Mu} {out : Int32 × am_Mu}, fLedger_addAct a1 a2 a3 a4 a5 a6 μ = some out → am_Ex none (d + 4) 55 0 [.ref 13, .int a1, .int a2, .int a3, .int a4, .int a5, .int a6] [] am_SH μ (some (.int out.1), am_SH, out.2) := by
  intro a1 a2 a3 a4 a5 a6 μ out h
  unfold fLedger_addAct at h
  refine am_Ex.seg 3 7 [.ref 13, .int a1, .int a2, .int a3, .int a4, .int a5, .int a6] [.int 200, .int (μ 13 15)] μ (fun _ => rfl) ?_
  rcases am_ite h with ⟨q1, h⟩ | ⟨q1, h⟩
  · refine am_Ex.icmp_ge_t rfl q1 ?_
    refine am_Ex.seg 1 32 [.ref 13, .int a1, .int a2, .int a3, .int a4, .int a5, .int a6] [.int (-1)] μ (fun _ => rfl) ?_
    cases h
    exact am_Ex.iret rfl rfl
  · refine am_Ex.icmp_ge_f rfl q1 ?_
    refine am_Ex.seg 3 15 [.ref 13, .int a1, .int a2, .int a3, .int a4, .int a5, .int a6] [.int (μ 13 14), .int a2] μ (fun _ => rfl) ?_
    obtain ⟨q2, h_q2, h⟩ := am_bind h
    refine am_Ex.isk (na := 2) rfl (As := [.int a2, .int (μ 13 14)]) rfl rfl rfl rfl rfl rfl (e_fB_isIn (d + 3) h_q2) ?_
    refine am_Ex.same 18 [.ref 13, .int a1, .int a2, .int a3, .int a4, .int a5, .int a6] [.int q2.1] q2.2 rfl ?_
    rcases am_ite h with ⟨q3, h⟩ | ⟨q3, h⟩
    · refine am_Ex.if_eq_t rfl q3 ?_
      refine am_Ex.seg 1 32 [.ref 13, .int a1, .int a2, .int a3, .int a4, .int a5, .int a6] [.int (-1)] q2.2 (fun _ => rfl) ?_
      cases h
      exact am_Ex.iret rfl rfl
    · refine am_Ex.if_eq_f rfl q3 ?_
      refine am_Ex.seg 4 25 [.ref 13, .int a1, .int a2, .int a3, .int a4, .int a5, .int a6] [.int a3, .int a2, .int a1, .ref 13] q2.2 (fun _ => rfl) ?_
      obtain ⟨q4, h_q4, h⟩ := am_bind h
      refine am_Ex.ivk (na := 4) (b := 13) (As' := [.int a1, .int a2, .int a3]) rfl rfl rfl rfl rfl rfl rfl rfl rfl (e_fLedger_canBeSecond (d + 2) h_q4) ?_
      refine am_Ex.same 28 [.ref 13, .int a1, .int a2, .int a3, .int a4, .int a5, .int a6] [.int q4.1] q4.2 rfl ?_
      rcases am_ite h with ⟨q5, h⟩ | ⟨q5, h⟩
      · refine am_Ex.if_ne_t rfl q5 ?_
        refine am_Ex.seg 5 42 [.ref 13, .int a1, .int a2, .int a3, .int a4, .int a5, .int a6] [.int a1, .int (q4.2 13 15), .ref 15] q4.2 (fun _ => rfl) ?_
        obtain ⟨q6, h⟩ := am_bif h
        refine am_Ex.iast (v2 := a1) (i2 := ((q4.2 13 15)).toNatClampNeg) rfl rfl q6 rfl rfl ?_
        refine am_Ex.seg 5 52 [.ref 13, .int a1, .int a2, .int a3, .int a4, .int a5, .int a6] [.int a2, .int (q4.2 13 15), .ref 16] (am_up q4.2 15 (((q4.2 13 15)).toNatClampNeg) a1) (fun _ => rfl) ?_
        refine am_Ex.iast (v2 := a2) (i2 := ((q4.2 13 15)).toNatClampNeg) rfl rfl q6 rfl rfl ?_
        refine am_Ex.seg 5 62 [.ref 13, .int a1, .int a2, .int a3, .int a4, .int a5, .int a6] [.int a3, .int (q4.2 13 15), .ref 17] (am_up (am_up q4.2 15 (((q4.2 13 15)).toNatClampNeg) a1) 16 (((q4.2 13 15)).toNatClampNeg) a2) (fun _ => rfl) ?_
        refine am_Ex.iast (v2 := a3) (i2 := ((q4.2 13 15)).toNatClampNeg) rfl rfl q6 rfl rfl ?_
        refine am_Ex.seg 5 73 [.ref 13, .int a1, .int a2, .int a3, .int a4, .int a5, .int a6] [.int a4, .int (q4.2 13 15), .ref 18] (am_up (am_up (am_up q4.2 15 (((q4.2 13 15)).toNatClampNeg) a1) 16 (((q4.2 13 15)).toNatClampNeg) a2) 17 (((q4.2 13 15)).toNatClampNeg) a3) (fun _ => rfl) ?_
        refine am_Ex.iast (v2 := a4) (i2 := ((q4.2 13 15)).toNatClampNeg) rfl rfl q6 rfl rfl ?_
        refine am_Ex.seg 5 84 [.ref 13, .int a1, .int a2, .int a3, .int a4, .int a5, .int a6] [.int a5, .int (q4.2 13 15), .ref 19] (am_up (am_up (am_up (am_up q4.2 15 (((q4.2 13 15)).toNatClampNeg) a1) 16 (((q4.2 13 15)).toNatClampNeg) a2) 17 (((q4.2 13 15)).toNatClampNeg) a3) 18 (((q4.2 13 15)).toNatClampNeg) a4) (fun _ => rfl) ?_
        refine am_Ex.zast (v2 := (a5 &&& 1)) (i2 := ((q4.2 13 15)).toNatClampNeg) rfl rfl q6 rfl rfl ?_
        refine am_Ex.seg 5 95 [.ref 13, .int a1, .int a2, .int a3, .int a4, .int a5, .int a6] [.int a6, .int (q4.2 13 15), .ref 20] (am_up (am_up (am_up (am_up (am_up q4.2 15 (((q4.2 13 15)).toNatClampNeg) a1) 16 (((q4.2 13 15)).toNatClampNeg) a2) 17 (((q4.2 13 15)).toNatClampNeg) a3) 18 (((q4.2 13 15)).toNatClampNeg) a4) 19 (((q4.2 13 15)).toNatClampNeg) (a5 &&& 1)) (fun _ => rfl) ?_
        refine am_Ex.iast (v2 := a6) (i2 := ((q4.2 13 15)).toNatClampNeg) rfl rfl q6 rfl rfl ?_
        refine am_Ex.seg 5 105 [.ref 13, .int a1, .int a2, .int a3, .int a4, .int a5, .int a6] [.int (-1), .int (q4.2 13 15), .ref 21] (am_up (am_up (am_up (am_up (am_up (am_up q4.2 15 (((q4.2 13 15)).toNatClampNeg) a1) 16 (((q4.2 13 15)).toNatClampNeg) a2) 17 (((q4.2 13 15)).toNatClampNeg) a3) 18 (((q4.2 13 15)).toNatClampNeg) a4) 19 (((q4.2 13 15)).toNatClampNeg) (a5 &&& 1)) 20 (((q4.2 13 15)).toNatClampNeg) a6) (fun _ => rfl) ?_
        refine am_Ex.iast (v2 := (-1)) (i2 := ((q4.2 13 15)).toNatClampNeg) rfl rfl q6 rfl rfl ?_
        refine am_Ex.seg 5 114 [.ref 13, .int a1, .int a2, .int a3, .int a4, .int a5, .int a6] [.int ((10 : Int32) + (q4.2 13 15)), .ref 13] (am_up (am_up (am_up (am_up (am_up (am_up (am_up q4.2 15 (((q4.2 13 15)).toNatClampNeg) a1) 16 (((q4.2 13 15)).toNatClampNeg) a2) 17 (((q4.2 13 15)).toNatClampNeg) a3) 18 (((q4.2 13 15)).toNatClampNeg) a4) 19 (((q4.2 13 15)).toNatClampNeg) (a5 &&& 1)) 20 (((q4.2 13 15)).toNatClampNeg) a6) 21 (((q4.2 13 15)).toNatClampNeg) (-1)) (fun _ => rfl) ?_
        obtain ⟨q7, h_q7, h⟩ := am_bind h
        refine am_Ex.ivk (na := 2) (b := 13) (As' := [.int ((10 : Int32) + (q4.2 13 15))]) rfl rfl rfl rfl rfl rfl rfl rfl rfl (e_fLedger_place (d + 0) h_q7) ?_
        refine am_Ex.same 117 [.ref 13, .int a1, .int a2, .int a3, .int a4, .int a5, .int a6] [] q7 rfl ?_
        refine am_Ex.seg 10 133 [.ref 13, .int a1, .int a2, .int a3, .int a4, .int a5, .int a6] [.int (((q7 13 15) + 1) - 1)] (am_up q7 13 15 ((q7 13 15) + 1)) (fun _ => rfl) ?_
        cases h
        exact am_Ex.iret rfl rfl
      · refine am_Ex.if_ne_f rfl (Decidable.not_not.mp q5) ?_
        refine am_Ex.seg 1 32 [.ref 13, .int a1, .int a2, .int a3, .int a4, .int a5, .int a6] [.int (-1)] q4.2 (fun _ => rfl) ?_
        cases h
        exact am_Ex.iret rfl rfl
def fLedger_strikeAct (a1 : Int32) (a2 : Int32) (μ : am_Mu) : Option (Int32 × am_Mu) := ((fB_isIn a1 (μ 13 15) μ).bind fun q1 => (if q1.1 = 0 then some (0, q1.2) else (bif am_inb a1 200 then (if (q1.2 21 ((a1).toNatClampNeg)) = (-1) then some (1, (am_up q1.2 21 ((a1).toNatClampNeg) a2)) else some (0, q1.2)) else none)))
set_option maxRecDepth 20000 in
theorem e_fLedger_strikeAct (d : Nat) : ∀ {a1 : Int32} {a2 : Int32} {μ : am_Mu} {out : Int32 × am_Mu}, fLedger_strikeAct a1 a2 μ = some out → am_Ex none (d + 1) 57 0 [.ref 13, .int a1, .int a2] [] am_SH μ (some (.int out.1), am_SH, out.2) := by
  intro a1 a2 μ out h
  unfold fLedger_strikeAct at h
  refine am_Ex.seg 3 5 [.ref 13, .int a1, .int a2] [.int (μ 13 15), .int a1] μ (fun _ => rfl) ?_
  obtain ⟨q1, h_q1, h⟩ := am_bind h
  refine am_Ex.isk (na := 2) rfl (As := [.int a1, .int (μ 13 15)]) rfl rfl rfl rfl rfl rfl (e_fB_isIn (d + 0) h_q1) ?_
  refine am_Ex.same 8 [.ref 13, .int a1, .int a2] [.int q1.1] q1.2 rfl ?_
  rcases am_ite h with ⟨q2, h⟩ | ⟨q2, h⟩
  · refine am_Ex.if_eq_t rfl q2 ?_
    refine am_Ex.seg 1 22 [.ref 13, .int a1, .int a2] [.int 0] q1.2 (fun _ => rfl) ?_
    cases h
    exact am_Ex.zret rfl rfl (by decide)
  · refine am_Ex.if_eq_f rfl q2 ?_
    refine am_Ex.seg 3 16 [.ref 13, .int a1, .int a2] [.int a1, .ref 21] q1.2 (fun _ => rfl) ?_
    obtain ⟨q3, h⟩ := am_bif h
    refine am_Ex.iald (v := (q1.2 21 ((a1).toNatClampNeg))) rfl rfl q3 rfl ?_
    refine am_Ex.seg 1 18 [.ref 13, .int a1, .int a2] [.int (-1), .int (q1.2 21 ((a1).toNatClampNeg))] q1.2 (fun _ => rfl) ?_
    rcases am_ite h with ⟨q4, h⟩ | ⟨q4, h⟩
    · refine am_Ex.icmp_eq_t rfl q4 ?_
      refine am_Ex.seg 4 29 [.ref 13, .int a1, .int a2] [.int a2, .int a1, .ref 21] q1.2 (fun _ => rfl) ?_
      refine am_Ex.iast (v2 := a2) (i2 := (a1).toNatClampNeg) rfl rfl q3 rfl rfl ?_
      refine am_Ex.seg 1 31 [.ref 13, .int a1, .int a2] [.int 1] (am_up q1.2 21 ((a1).toNatClampNeg) a2) (fun _ => rfl) ?_
      cases h
      exact am_Ex.zret rfl rfl (by decide)
    · refine am_Ex.icmp_eq_f rfl q4 ?_
      refine am_Ex.seg 1 22 [.ref 13, .int a1, .int a2] [.int 0] q1.2 (fun _ => rfl) ?_
      cases h
      exact am_Ex.zret rfl rfl (by decide)
def fLedger_addMistake (a1 : Int32) (a2 : Int32) (a3 : Int32) (a4 : Int32) (μ : am_Mu) : Option (Int32 × am_Mu) := (if 10 ≤ (μ 13 16) then some ((-1), μ) else ((fB_isIn a1 (μ 13 14) μ).bind fun q2 => (if q2.1 = 0 then some ((-1), q2.2) else ((fB_isIn a2 8 q2.2).bind fun q4 => (if ¬ q4.1 = 0 then (bif am_inb (q4.2 13 16) 10 then ((fLedger_place (q4.2 13 16) (am_up (am_up (am_up (am_up q4.2 22 (((q4.2 13 16)).toNatClampNeg) a1) 23 (((q4.2 13 16)).toNatClampNeg) a2) 24 (((q4.2 13 16)).toNatClampNeg) a3) 25 (((q4.2 13 16)).toNatClampNeg) a4)).bind fun q7 => some ((((q7 13 16) + 1) - 1), (am_up q7 13 16 ((q7 13 16) + 1)))) else none) else some ((-1), q4.2))))))
set_option maxRecDepth 20000 in
theorem e_fLedger_addMistake (d : Nat) : ∀ {a1 : Int32} {a2 : Int32} {a3 : Int32} {a4 : Int32} {μ : am_Mu} {out : Int32 × am_Mu}, fLedger_addMistake a1 a2 a3 a4 μ = some out → am_Ex none (d + 4) 58 0 [.ref 13, .int a1, .int a2, .int a3, .int a4] [] am_SH μ (some (.int out.1), am_SH, out.2) := by
  intro a1 a2 a3 a4 μ out h
  unfold fLedger_addMistake at h
  refine am_Ex.seg 3 6 [.ref 13, .int a1, .int a2, .int a3, .int a4] [.int 10, .int (μ 13 16)] μ (fun _ => rfl) ?_
  rcases am_ite h with ⟨q1, h⟩ | ⟨q1, h⟩
  · refine am_Ex.icmp_ge_t rfl q1 ?_
    refine am_Ex.seg 1 30 [.ref 13, .int a1, .int a2, .int a3, .int a4] [.int (-1)] μ (fun _ => rfl) ?_
    cases h
    exact am_Ex.iret rfl rfl
  · refine am_Ex.icmp_ge_f rfl q1 ?_
    refine am_Ex.seg 3 14 [.ref 13, .int a1, .int a2, .int a3, .int a4] [.int (μ 13 14), .int a1] μ (fun _ => rfl) ?_
    obtain ⟨q2, h_q2, h⟩ := am_bind h
    refine am_Ex.isk (na := 2) rfl (As := [.int a1, .int (μ 13 14)]) rfl rfl rfl rfl rfl rfl (e_fB_isIn (d + 3) h_q2) ?_
    refine am_Ex.same 17 [.ref 13, .int a1, .int a2, .int a3, .int a4] [.int q2.1] q2.2 rfl ?_
    rcases am_ite h with ⟨q3, h⟩ | ⟨q3, h⟩
    · refine am_Ex.if_eq_t rfl q3 ?_
      refine am_Ex.seg 1 30 [.ref 13, .int a1, .int a2, .int a3, .int a4] [.int (-1)] q2.2 (fun _ => rfl) ?_
      cases h
      exact am_Ex.iret rfl rfl
    · refine am_Ex.if_eq_f rfl q3 ?_
      refine am_Ex.seg 2 23 [.ref 13, .int a1, .int a2, .int a3, .int a4] [.int 8, .int a2] q2.2 (fun _ => rfl) ?_
      obtain ⟨q4, h_q4, h⟩ := am_bind h
      refine am_Ex.isk (na := 2) rfl (As := [.int a2, .int 8]) rfl rfl rfl rfl rfl rfl (e_fB_isIn (d + 3) h_q4) ?_
      refine am_Ex.same 26 [.ref 13, .int a1, .int a2, .int a3, .int a4] [.int q4.1] q4.2 rfl ?_
      rcases am_ite h with ⟨q5, h⟩ | ⟨q5, h⟩
      · refine am_Ex.if_ne_t rfl q5 ?_
        refine am_Ex.seg 5 40 [.ref 13, .int a1, .int a2, .int a3, .int a4] [.int a1, .int (q4.2 13 16), .ref 22] q4.2 (fun _ => rfl) ?_
        obtain ⟨q6, h⟩ := am_bif h
        refine am_Ex.iast (v2 := a1) (i2 := ((q4.2 13 16)).toNatClampNeg) rfl rfl q6 rfl rfl ?_
        refine am_Ex.seg 5 50 [.ref 13, .int a1, .int a2, .int a3, .int a4] [.int a2, .int (q4.2 13 16), .ref 23] (am_up q4.2 22 (((q4.2 13 16)).toNatClampNeg) a1) (fun _ => rfl) ?_
        refine am_Ex.iast (v2 := a2) (i2 := ((q4.2 13 16)).toNatClampNeg) rfl rfl q6 rfl rfl ?_
        refine am_Ex.seg 5 60 [.ref 13, .int a1, .int a2, .int a3, .int a4] [.int a3, .int (q4.2 13 16), .ref 24] (am_up (am_up q4.2 22 (((q4.2 13 16)).toNatClampNeg) a1) 23 (((q4.2 13 16)).toNatClampNeg) a2) (fun _ => rfl) ?_
        refine am_Ex.iast (v2 := a3) (i2 := ((q4.2 13 16)).toNatClampNeg) rfl rfl q6 rfl rfl ?_
        refine am_Ex.seg 5 71 [.ref 13, .int a1, .int a2, .int a3, .int a4] [.int a4, .int (q4.2 13 16), .ref 25] (am_up (am_up (am_up q4.2 22 (((q4.2 13 16)).toNatClampNeg) a1) 23 (((q4.2 13 16)).toNatClampNeg) a2) 24 (((q4.2 13 16)).toNatClampNeg) a3) (fun _ => rfl) ?_
        refine am_Ex.iast (v2 := a4) (i2 := ((q4.2 13 16)).toNatClampNeg) rfl rfl q6 rfl rfl ?_
        refine am_Ex.seg 3 77 [.ref 13, .int a1, .int a2, .int a3, .int a4] [.int (q4.2 13 16), .ref 13] (am_up (am_up (am_up (am_up q4.2 22 (((q4.2 13 16)).toNatClampNeg) a1) 23 (((q4.2 13 16)).toNatClampNeg) a2) 24 (((q4.2 13 16)).toNatClampNeg) a3) 25 (((q4.2 13 16)).toNatClampNeg) a4) (fun _ => rfl) ?_
        obtain ⟨q7, h_q7, h⟩ := am_bind h
        refine am_Ex.ivk (na := 2) (b := 13) (As' := [.int (q4.2 13 16)]) rfl rfl rfl rfl rfl rfl rfl rfl rfl (e_fLedger_place (d + 0) h_q7) ?_
        refine am_Ex.same 80 [.ref 13, .int a1, .int a2, .int a3, .int a4] [] q7 rfl ?_
        refine am_Ex.seg 10 96 [.ref 13, .int a1, .int a2, .int a3, .int a4] [.int (((q7 13 16) + 1) - 1)] (am_up q7 13 16 ((q7 13 16) + 1)) (fun _ => rfl) ?_
        cases h
        exact am_Ex.iret rfl rfl
      · refine am_Ex.if_ne_f rfl (Decidable.not_not.mp q5) ?_
        refine am_Ex.seg 1 30 [.ref 13, .int a1, .int a2, .int a3, .int a4] [.int (-1)] q4.2 (fun _ => rfl) ?_
        cases h
        exact am_Ex.iret rfl rfl
def fLedger_otherThing (a1 : Int32) (a2 : Int32) (μ : am_Mu) : Option (Int32 × am_Mu) := (bif am_inb a1 200 then (if ¬ (μ 16 ((a1).toNatClampNeg)) = a2 then some ((μ 16 ((a1).toNatClampNeg)), μ) else some ((μ 17 ((a1).toNatClampNeg)), μ)) else none)
set_option maxRecDepth 20000 in
theorem e_fLedger_otherThing (d : Nat) : ∀ {a1 : Int32} {a2 : Int32} {μ : am_Mu} {out : Int32 × am_Mu}, fLedger_otherThing a1 a2 μ = some out → am_Ex none (d + 0) 64 0 [.ref 13, .int a1, .int a2] [] am_SH μ (some (.int out.1), am_SH, out.2) := by
  intro a1 a2 μ out h
  unfold fLedger_otherThing at h
  refine am_Ex.seg 3 5 [.ref 13, .int a1, .int a2] [.int a1, .ref 16] μ (fun _ => rfl) ?_
  obtain ⟨q1, h⟩ := am_bif h
  refine am_Ex.iald (v := (μ 16 ((a1).toNatClampNeg))) rfl rfl q1 rfl ?_
  refine am_Ex.seg 1 7 [.ref 13, .int a1, .int a2] [.int a2, .int (μ 16 ((a1).toNatClampNeg))] μ (fun _ => rfl) ?_
  rcases am_ite h with ⟨q2, h⟩ | ⟨q2, h⟩
  · refine am_Ex.icmp_ne_t rfl q2 ?_
    refine am_Ex.seg 3 24 [.ref 13, .int a1, .int a2] [.int a1, .ref 16] μ (fun _ => rfl) ?_
    refine am_Ex.iald (v := (μ 16 ((a1).toNatClampNeg))) rfl rfl q1 rfl ?_
    cases h
    exact am_Ex.iret rfl rfl
  · refine am_Ex.icmp_ne_f rfl (Decidable.not_not.mp q2) ?_
    refine am_Ex.seg 3 15 [.ref 13, .int a1, .int a2] [.int a1, .ref 17] μ (fun _ => rfl) ?_
    refine am_Ex.iald (v := (μ 17 ((a1).toNatClampNeg))) rfl rfl q1 rfl ?_
    refine am_Ex.goto rfl ?_
    cases h
    exact am_Ex.iret rfl rfl
def fLots_add (a1 : Int32) (a2 : Int32) (μ : am_Mu) : Option (Int32 × am_Mu) := (if 10 ≤ (μ 84 13) then some ((-1), μ) else ((fB_isIn a1 (μ 76 8) μ).bind fun q2 => (if q2.1 = 0 then some ((-1), q2.2) else (if a2 < 1 then some ((-1), q2.2) else (if a2 ≤ 100000 then (bif am_inb (q2.2 84 13) 10 then (bif am_inb (((q2.2 84 13) * 8) + a1) 80 then some ((((q2.2 84 13) + 1) - 1), (am_up (am_up (am_up (am_up (am_up q2.2 85 (((q2.2 84 13)).toNatClampNeg) a1) 86 (((q2.2 84 13)).toNatClampNeg) a2) 87 (((q2.2 84 13)).toNatClampNeg) ((1 : Int32) <<< (a1 &&& 31))) 88 (((((q2.2 84 13) * 8) + a1)).toNatClampNeg) a2) 84 13 ((q2.2 84 13) + 1))) else none) else none) else some ((-1), q2.2))))))
set_option maxRecDepth 20000 in
theorem e_fLots_add (d : Nat) : ∀ {a1 : Int32} {a2 : Int32} {μ : am_Mu} {out : Int32 × am_Mu}, fLots_add a1 a2 μ = some out → am_Ex none (d + 1) 66 0 [.ref 84, .int a1, .int a2] [] am_SH μ (some (.int out.1), am_SH, out.2) := by
  intro a1 a2 μ out h
  unfold fLots_add at h
  refine am_Ex.seg 3 6 [.ref 84, .int a1, .int a2] [.int 10, .int (μ 84 13)] μ (fun _ => rfl) ?_
  rcases am_ite h with ⟨q1, h⟩ | ⟨q1, h⟩
  · refine am_Ex.icmp_ge_t rfl q1 ?_
    refine am_Ex.seg 1 35 [.ref 84, .int a1, .int a2] [.int (-1)] μ (fun _ => rfl) ?_
    cases h
    exact am_Ex.iret rfl rfl
  · refine am_Ex.icmp_ge_f rfl q1 ?_
    refine am_Ex.seg 4 17 [.ref 84, .int a1, .int a2] [.int (μ 76 8), .int a1] μ (fun _ => rfl) ?_
    obtain ⟨q2, h_q2, h⟩ := am_bind h
    refine am_Ex.isk (na := 2) rfl (As := [.int a1, .int (μ 76 8)]) rfl rfl rfl rfl rfl rfl (e_fB_isIn (d + 0) h_q2) ?_
    refine am_Ex.same 20 [.ref 84, .int a1, .int a2] [.int q2.1] q2.2 rfl ?_
    rcases am_ite h with ⟨q3, h⟩ | ⟨q3, h⟩
    · refine am_Ex.if_eq_t rfl q3 ?_
      refine am_Ex.seg 1 35 [.ref 84, .int a1, .int a2] [.int (-1)] q2.2 (fun _ => rfl) ?_
      cases h
      exact am_Ex.iret rfl rfl
    · refine am_Ex.if_eq_f rfl q3 ?_
      refine am_Ex.seg 2 25 [.ref 84, .int a1, .int a2] [.int 1, .int a2] q2.2 (fun _ => rfl) ?_
      rcases am_ite h with ⟨q4, h⟩ | ⟨q4, h⟩
      · refine am_Ex.icmp_lt_t rfl q4 ?_
        refine am_Ex.seg 1 35 [.ref 84, .int a1, .int a2] [.int (-1)] q2.2 (fun _ => rfl) ?_
        cases h
        exact am_Ex.iret rfl rfl
      · refine am_Ex.icmp_lt_f rfl q4 ?_
        refine am_Ex.seg 2 31 [.ref 84, .int a1, .int a2] [.int 100000, .int a2] q2.2 (fun _ => rfl) ?_
        rcases am_ite h with ⟨q5, h⟩ | ⟨q5, h⟩
        · refine am_Ex.icmp_le_t rfl q5 ?_
          refine am_Ex.seg 5 45 [.ref 84, .int a1, .int a2] [.int a1, .int (q2.2 84 13), .ref 85] q2.2 (fun _ => rfl) ?_
          obtain ⟨q6, h⟩ := am_bif h
          refine am_Ex.iast (v2 := a1) (i2 := ((q2.2 84 13)).toNatClampNeg) rfl rfl q6 rfl rfl ?_
          refine am_Ex.seg 5 55 [.ref 84, .int a1, .int a2] [.int a2, .int (q2.2 84 13), .ref 86] (am_up q2.2 85 (((q2.2 84 13)).toNatClampNeg) a1) (fun _ => rfl) ?_
          refine am_Ex.iast (v2 := a2) (i2 := ((q2.2 84 13)).toNatClampNeg) rfl rfl q6 rfl rfl ?_
          refine am_Ex.seg 7 67 [.ref 84, .int a1, .int a2] [.int ((1 : Int32) <<< (a1 &&& 31)), .int (q2.2 84 13), .ref 87] (am_up (am_up q2.2 85 (((q2.2 84 13)).toNatClampNeg) a1) 86 (((q2.2 84 13)).toNatClampNeg) a2) (fun _ => rfl) ?_
          refine am_Ex.iast (v2 := ((1 : Int32) <<< (a1 &&& 31))) (i2 := ((q2.2 84 13)).toNatClampNeg) rfl rfl q6 rfl rfl ?_
          refine am_Ex.seg 9 82 [.ref 84, .int a1, .int a2] [.int a2, .int (((q2.2 84 13) * 8) + a1), .ref 88] (am_up (am_up (am_up q2.2 85 (((q2.2 84 13)).toNatClampNeg) a1) 86 (((q2.2 84 13)).toNatClampNeg) a2) 87 (((q2.2 84 13)).toNatClampNeg) ((1 : Int32) <<< (a1 &&& 31))) (fun _ => rfl) ?_
          obtain ⟨q7, h⟩ := am_bif h
          refine am_Ex.iast (v2 := a2) (i2 := ((((q2.2 84 13) * 8) + a1)).toNatClampNeg) rfl rfl q7 rfl rfl ?_
          refine am_Ex.seg 10 99 [.ref 84, .int a1, .int a2] [.int (((q2.2 84 13) + 1) - 1)] (am_up (am_up (am_up (am_up (am_up q2.2 85 (((q2.2 84 13)).toNatClampNeg) a1) 86 (((q2.2 84 13)).toNatClampNeg) a2) 87 (((q2.2 84 13)).toNatClampNeg) ((1 : Int32) <<< (a1 &&& 31))) 88 (((((q2.2 84 13) * 8) + a1)).toNatClampNeg) a2) 84 13 ((q2.2 84 13) + 1)) (fun _ => rfl) ?_
          cases h
          exact am_Ex.iret rfl rfl
        · refine am_Ex.icmp_le_f rfl q5 ?_
          refine am_Ex.seg 1 35 [.ref 84, .int a1, .int a2] [.int (-1)] q2.2 (fun _ => rfl) ?_
          cases h
          exact am_Ex.iret rfl rfl
def fLots_move (a1 : Int32) (a2 : Int32) (a3 : Int32) (a4 : Int32) (a5 : Int32) (μ : am_Mu) : Option (Int32 × am_Mu) := (if 100 ≤ (μ 84 14) then some (0, μ) else ((fB_isIn a1 (μ 84 13) μ).bind fun q2 => (if q2.1 = 0 then some (0, q2.2) else (if a2 = a3 then some (0, q2.2) else (if 1 ≤ a4 then ((fB_isIn a2 (q2.2 76 8) q2.2).bind fun q6 => (if q6.1 = 0 then some (0, q6.2) else ((fB_isIn a3 (q6.2 76 8) q6.2).bind fun q8 => (if q8.1 = 0 then some (0, q8.2) else (bif am_inb ((a1 * 8) + a2) 80 then (if a4 ≤ (q8.2 88 ((((a1 * 8) + a2)).toNatClampNeg)) then (bif am_inb (q8.2 84 14) 100 then (bif am_inb ((a1 * 8) + a3) 80 then (bif am_inb a1 10 then some (1, (am_up (am_up (am_up (am_up (am_up (am_up (am_up (am_up (am_up q8.2 89 (((q8.2 84 14)).toNatClampNeg) a1) 90 (((q8.2 84 14)).toNatClampNeg) a2) 91 (((q8.2 84 14)).toNatClampNeg) a3) 92 (((q8.2 84 14)).toNatClampNeg) a4) 93 (((q8.2 84 14)).toNatClampNeg) (a5 &&& 1)) 84 14 ((q8.2 84 14) + 1)) 88 ((((a1 * 8) + a2)).toNatClampNeg) ((q8.2 88 ((((a1 * 8) + a2)).toNatClampNeg)) - a4)) 88 ((((a1 * 8) + a3)).toNatClampNeg) (((am_up (am_up (am_up (am_up (am_up (am_up (am_up q8.2 89 (((q8.2 84 14)).toNatClampNeg) a1) 90 (((q8.2 84 14)).toNatClampNeg) a2) 91 (((q8.2 84 14)).toNatClampNeg) a3) 92 (((q8.2 84 14)).toNatClampNeg) a4) 93 (((q8.2 84 14)).toNatClampNeg) (a5 &&& 1)) 84 14 ((q8.2 84 14) + 1)) 88 ((((a1 * 8) + a2)).toNatClampNeg) ((q8.2 88 ((((a1 * 8) + a2)).toNatClampNeg)) - a4)) 88 ((((a1 * 8) + a3)).toNatClampNeg)) + a4)) 87 ((a1).toNatClampNeg) ((q8.2 87 ((a1).toNatClampNeg)) ||| ((1 : Int32) <<< (a3 &&& 31))))) else none) else none) else none) else some (0, q8.2)) else none))))) else some (0, q2.2))))))
set_option maxRecDepth 20000 in
theorem e_fLots_move (d : Nat) : ∀ {a1 : Int32} {a2 : Int32} {a3 : Int32} {a4 : Int32} {a5 : Int32} {μ : am_Mu} {out : Int32 × am_Mu}, fLots_move a1 a2 a3 a4 a5 μ = some out → am_Ex none (d + 1) 67 0 [.ref 84, .int a1, .int a2, .int a3, .int a4, .int a5] [] am_SH μ (some (.int out.1), am_SH, out.2) := by
  intro a1 a2 a3 a4 a5 μ out h
  unfold fLots_move at h
  refine am_Ex.seg 3 6 [.ref 84, .int a1, .int a2, .int a3, .int a4, .int a5] [.int 100, .int (μ 84 14)] μ (fun _ => rfl) ?_
  rcases am_ite h with ⟨q1, h⟩ | ⟨q1, h⟩
  · refine am_Ex.icmp_ge_t rfl q1 ?_
    refine am_Ex.seg 1 32 [.ref 84, .int a1, .int a2, .int a3, .int a4, .int a5] [.int 0] μ (fun _ => rfl) ?_
    cases h
    exact am_Ex.zret rfl rfl (by decide)
  · refine am_Ex.icmp_ge_f rfl q1 ?_
    refine am_Ex.seg 3 14 [.ref 84, .int a1, .int a2, .int a3, .int a4, .int a5] [.int (μ 84 13), .int a1] μ (fun _ => rfl) ?_
    obtain ⟨q2, h_q2, h⟩ := am_bind h
    refine am_Ex.isk (na := 2) rfl (As := [.int a1, .int (μ 84 13)]) rfl rfl rfl rfl rfl rfl (e_fB_isIn (d + 0) h_q2) ?_
    refine am_Ex.same 17 [.ref 84, .int a1, .int a2, .int a3, .int a4, .int a5] [.int q2.1] q2.2 rfl ?_
    rcases am_ite h with ⟨q3, h⟩ | ⟨q3, h⟩
    · refine am_Ex.if_eq_t rfl q3 ?_
      refine am_Ex.seg 1 32 [.ref 84, .int a1, .int a2, .int a3, .int a4, .int a5] [.int 0] q2.2 (fun _ => rfl) ?_
      cases h
      exact am_Ex.zret rfl rfl (by decide)
    · refine am_Ex.if_eq_f rfl q3 ?_
      refine am_Ex.seg 2 22 [.ref 84, .int a1, .int a2, .int a3, .int a4, .int a5] [.int a3, .int a2] q2.2 (fun _ => rfl) ?_
      rcases am_ite h with ⟨q4, h⟩ | ⟨q4, h⟩
      · refine am_Ex.icmp_eq_t rfl q4 ?_
        refine am_Ex.seg 1 32 [.ref 84, .int a1, .int a2, .int a3, .int a4, .int a5] [.int 0] q2.2 (fun _ => rfl) ?_
        cases h
        exact am_Ex.zret rfl rfl (by decide)
      · refine am_Ex.icmp_eq_f rfl q4 ?_
        refine am_Ex.seg 2 28 [.ref 84, .int a1, .int a2, .int a3, .int a4, .int a5] [.int 1, .int a4] q2.2 (fun _ => rfl) ?_
        rcases am_ite h with ⟨q5, h⟩ | ⟨q5, h⟩
        · refine am_Ex.icmp_ge_t rfl q5 ?_
          refine am_Ex.seg 4 41 [.ref 84, .int a1, .int a2, .int a3, .int a4, .int a5] [.int (q2.2 76 8), .int a2] q2.2 (fun _ => rfl) ?_
          obtain ⟨q6, h_q6, h⟩ := am_bind h
          refine am_Ex.isk (na := 2) rfl (As := [.int a2, .int (q2.2 76 8)]) rfl rfl rfl rfl rfl rfl (e_fB_isIn (d + 0) h_q6) ?_
          refine am_Ex.same 44 [.ref 84, .int a1, .int a2, .int a3, .int a4, .int a5] [.int q6.1] q6.2 rfl ?_
          rcases am_ite h with ⟨q7, h⟩ | ⟨q7, h⟩
          · refine am_Ex.if_eq_t rfl q7 ?_
            refine am_Ex.seg 1 78 [.ref 84, .int a1, .int a2, .int a3, .int a4, .int a5] [.int 0] q6.2 (fun _ => rfl) ?_
            cases h
            exact am_Ex.zret rfl rfl (by decide)
          · refine am_Ex.if_eq_f rfl q7 ?_
            refine am_Ex.seg 4 55 [.ref 84, .int a1, .int a2, .int a3, .int a4, .int a5] [.int (q6.2 76 8), .int a3] q6.2 (fun _ => rfl) ?_
            obtain ⟨q8, h_q8, h⟩ := am_bind h
            refine am_Ex.isk (na := 2) rfl (As := [.int a3, .int (q6.2 76 8)]) rfl rfl rfl rfl rfl rfl (e_fB_isIn (d + 0) h_q8) ?_
            refine am_Ex.same 58 [.ref 84, .int a1, .int a2, .int a3, .int a4, .int a5] [.int q8.1] q8.2 rfl ?_
            rcases am_ite h with ⟨q9, h⟩ | ⟨q9, h⟩
            · refine am_Ex.if_eq_t rfl q9 ?_
              refine am_Ex.seg 1 78 [.ref 84, .int a1, .int a2, .int a3, .int a4, .int a5] [.int 0] q8.2 (fun _ => rfl) ?_
              cases h
              exact am_Ex.zret rfl rfl (by decide)
            · refine am_Ex.if_eq_f rfl q9 ?_
              refine am_Ex.seg 8 73 [.ref 84, .int a1, .int a2, .int a3, .int a4, .int a5] [.int ((a1 * 8) + a2), .ref 88, .int a4] q8.2 (fun _ => rfl) ?_
              obtain ⟨q10, h⟩ := am_bif h
              refine am_Ex.iald (v := (q8.2 88 ((((a1 * 8) + a2)).toNatClampNeg))) rfl rfl q10 rfl ?_
              rcases am_ite h with ⟨q11, h⟩ | ⟨q11, h⟩
              · refine am_Ex.icmp_le_t rfl q11 ?_
                refine am_Ex.seg 5 88 [.ref 84, .int a1, .int a2, .int a3, .int a4, .int a5] [.int a1, .int (q8.2 84 14), .ref 89] q8.2 (fun _ => rfl) ?_
                obtain ⟨q12, h⟩ := am_bif h
                refine am_Ex.iast (v2 := a1) (i2 := ((q8.2 84 14)).toNatClampNeg) rfl rfl q12 rfl rfl ?_
                refine am_Ex.seg 5 98 [.ref 84, .int a1, .int a2, .int a3, .int a4, .int a5] [.int a2, .int (q8.2 84 14), .ref 90] (am_up q8.2 89 (((q8.2 84 14)).toNatClampNeg) a1) (fun _ => rfl) ?_
                refine am_Ex.iast (v2 := a2) (i2 := ((q8.2 84 14)).toNatClampNeg) rfl rfl q12 rfl rfl ?_
                refine am_Ex.seg 5 108 [.ref 84, .int a1, .int a2, .int a3, .int a4, .int a5] [.int a3, .int (q8.2 84 14), .ref 91] (am_up (am_up q8.2 89 (((q8.2 84 14)).toNatClampNeg) a1) 90 (((q8.2 84 14)).toNatClampNeg) a2) (fun _ => rfl) ?_
                refine am_Ex.iast (v2 := a3) (i2 := ((q8.2 84 14)).toNatClampNeg) rfl rfl q12 rfl rfl ?_
                refine am_Ex.seg 5 119 [.ref 84, .int a1, .int a2, .int a3, .int a4, .int a5] [.int a4, .int (q8.2 84 14), .ref 92] (am_up (am_up (am_up q8.2 89 (((q8.2 84 14)).toNatClampNeg) a1) 90 (((q8.2 84 14)).toNatClampNeg) a2) 91 (((q8.2 84 14)).toNatClampNeg) a3) (fun _ => rfl) ?_
                refine am_Ex.iast (v2 := a4) (i2 := ((q8.2 84 14)).toNatClampNeg) rfl rfl q12 rfl rfl ?_
                refine am_Ex.seg 5 130 [.ref 84, .int a1, .int a2, .int a3, .int a4, .int a5] [.int a5, .int (q8.2 84 14), .ref 93] (am_up (am_up (am_up (am_up q8.2 89 (((q8.2 84 14)).toNatClampNeg) a1) 90 (((q8.2 84 14)).toNatClampNeg) a2) 91 (((q8.2 84 14)).toNatClampNeg) a3) 92 (((q8.2 84 14)).toNatClampNeg) a4) (fun _ => rfl) ?_
                refine am_Ex.zast (v2 := (a5 &&& 1)) (i2 := ((q8.2 84 14)).toNatClampNeg) rfl rfl q12 rfl rfl ?_
                refine am_Ex.seg 14 152 [.ref 84, .int a1, .int a2, .int a3, .int a4, .int a5] [.int ((a1 * 8) + a2), .ref 88, .int ((a1 * 8) + a2), .ref 88] (am_up (am_up (am_up (am_up (am_up (am_up q8.2 89 (((q8.2 84 14)).toNatClampNeg) a1) 90 (((q8.2 84 14)).toNatClampNeg) a2) 91 (((q8.2 84 14)).toNatClampNeg) a3) 92 (((q8.2 84 14)).toNatClampNeg) a4) 93 (((q8.2 84 14)).toNatClampNeg) (a5 &&& 1)) 84 14 ((q8.2 84 14) + 1)) (fun _ => rfl) ?_
                refine am_Ex.iald (v := (q8.2 88 ((((a1 * 8) + a2)).toNatClampNeg))) rfl rfl q10 ((am_up_k (by decide)).trans ((am_up_k (by decide)).trans ((am_up_k (by decide)).trans ((am_up_k (by decide)).trans ((am_up_k (by decide)).trans ((am_up_k (by decide)).trans rfl)))))) ?_
                refine am_Ex.seg 2 156 [.ref 84, .int a1, .int a2, .int a3, .int a4, .int a5] [.int ((q8.2 88 ((((a1 * 8) + a2)).toNatClampNeg)) - a4), .int ((a1 * 8) + a2), .ref 88] (am_up (am_up (am_up (am_up (am_up (am_up q8.2 89 (((q8.2 84 14)).toNatClampNeg) a1) 90 (((q8.2 84 14)).toNatClampNeg) a2) 91 (((q8.2 84 14)).toNatClampNeg) a3) 92 (((q8.2 84 14)).toNatClampNeg) a4) 93 (((q8.2 84 14)).toNatClampNeg) (a5 &&& 1)) 84 14 ((q8.2 84 14) + 1)) (fun _ => rfl) ?_
                refine am_Ex.iast (v2 := ((q8.2 88 ((((a1 * 8) + a2)).toNatClampNeg)) - a4)) (i2 := (((a1 * 8) + a2)).toNatClampNeg) rfl rfl q10 rfl rfl ?_
                refine am_Ex.seg 8 168 [.ref 84, .int a1, .int a2, .int a3, .int a4, .int a5] [.int ((a1 * 8) + a3), .ref 88, .int ((a1 * 8) + a3), .ref 88] (am_up (am_up (am_up (am_up (am_up (am_up (am_up q8.2 89 (((q8.2 84 14)).toNatClampNeg) a1) 90 (((q8.2 84 14)).toNatClampNeg) a2) 91 (((q8.2 84 14)).toNatClampNeg) a3) 92 (((q8.2 84 14)).toNatClampNeg) a4) 93 (((q8.2 84 14)).toNatClampNeg) (a5 &&& 1)) 84 14 ((q8.2 84 14) + 1)) 88 ((((a1 * 8) + a2)).toNatClampNeg) ((q8.2 88 ((((a1 * 8) + a2)).toNatClampNeg)) - a4)) (fun _ => rfl) ?_
                obtain ⟨q13, h⟩ := am_bif h
                refine am_Ex.iald (v := ((am_up (am_up (am_up (am_up (am_up (am_up (am_up q8.2 89 (((q8.2 84 14)).toNatClampNeg) a1) 90 (((q8.2 84 14)).toNatClampNeg) a2) 91 (((q8.2 84 14)).toNatClampNeg) a3) 92 (((q8.2 84 14)).toNatClampNeg) a4) 93 (((q8.2 84 14)).toNatClampNeg) (a5 &&& 1)) 84 14 ((q8.2 84 14) + 1)) 88 ((((a1 * 8) + a2)).toNatClampNeg) ((q8.2 88 ((((a1 * 8) + a2)).toNatClampNeg)) - a4)) 88 ((((a1 * 8) + a3)).toNatClampNeg))) rfl rfl q13 rfl ?_
                refine am_Ex.seg 2 172 [.ref 84, .int a1, .int a2, .int a3, .int a4, .int a5] [.int (((am_up (am_up (am_up (am_up (am_up (am_up (am_up q8.2 89 (((q8.2 84 14)).toNatClampNeg) a1) 90 (((q8.2 84 14)).toNatClampNeg) a2) 91 (((q8.2 84 14)).toNatClampNeg) a3) 92 (((q8.2 84 14)).toNatClampNeg) a4) 93 (((q8.2 84 14)).toNatClampNeg) (a5 &&& 1)) 84 14 ((q8.2 84 14) + 1)) 88 ((((a1 * 8) + a2)).toNatClampNeg) ((q8.2 88 ((((a1 * 8) + a2)).toNatClampNeg)) - a4)) 88 ((((a1 * 8) + a3)).toNatClampNeg)) + a4), .int ((a1 * 8) + a3), .ref 88] (am_up (am_up (am_up (am_up (am_up (am_up (am_up q8.2 89 (((q8.2 84 14)).toNatClampNeg) a1) 90 (((q8.2 84 14)).toNatClampNeg) a2) 91 (((q8.2 84 14)).toNatClampNeg) a3) 92 (((q8.2 84 14)).toNatClampNeg) a4) 93 (((q8.2 84 14)).toNatClampNeg) (a5 &&& 1)) 84 14 ((q8.2 84 14) + 1)) 88 ((((a1 * 8) + a2)).toNatClampNeg) ((q8.2 88 ((((a1 * 8) + a2)).toNatClampNeg)) - a4)) (fun _ => rfl) ?_
                refine am_Ex.iast (v2 := (((am_up (am_up (am_up (am_up (am_up (am_up (am_up q8.2 89 (((q8.2 84 14)).toNatClampNeg) a1) 90 (((q8.2 84 14)).toNatClampNeg) a2) 91 (((q8.2 84 14)).toNatClampNeg) a3) 92 (((q8.2 84 14)).toNatClampNeg) a4) 93 (((q8.2 84 14)).toNatClampNeg) (a5 &&& 1)) 84 14 ((q8.2 84 14) + 1)) 88 ((((a1 * 8) + a2)).toNatClampNeg) ((q8.2 88 ((((a1 * 8) + a2)).toNatClampNeg)) - a4)) 88 ((((a1 * 8) + a3)).toNatClampNeg)) + a4)) (i2 := (((a1 * 8) + a3)).toNatClampNeg) rfl rfl q13 rfl rfl ?_
                refine am_Ex.seg 4 179 [.ref 84, .int a1, .int a2, .int a3, .int a4, .int a5] [.int a1, .ref 87, .int a1, .ref 87] (am_up (am_up (am_up (am_up (am_up (am_up (am_up (am_up q8.2 89 (((q8.2 84 14)).toNatClampNeg) a1) 90 (((q8.2 84 14)).toNatClampNeg) a2) 91 (((q8.2 84 14)).toNatClampNeg) a3) 92 (((q8.2 84 14)).toNatClampNeg) a4) 93 (((q8.2 84 14)).toNatClampNeg) (a5 &&& 1)) 84 14 ((q8.2 84 14) + 1)) 88 ((((a1 * 8) + a2)).toNatClampNeg) ((q8.2 88 ((((a1 * 8) + a2)).toNatClampNeg)) - a4)) 88 ((((a1 * 8) + a3)).toNatClampNeg) (((am_up (am_up (am_up (am_up (am_up (am_up (am_up q8.2 89 (((q8.2 84 14)).toNatClampNeg) a1) 90 (((q8.2 84 14)).toNatClampNeg) a2) 91 (((q8.2 84 14)).toNatClampNeg) a3) 92 (((q8.2 84 14)).toNatClampNeg) a4) 93 (((q8.2 84 14)).toNatClampNeg) (a5 &&& 1)) 84 14 ((q8.2 84 14) + 1)) 88 ((((a1 * 8) + a2)).toNatClampNeg) ((q8.2 88 ((((a1 * 8) + a2)).toNatClampNeg)) - a4)) 88 ((((a1 * 8) + a3)).toNatClampNeg)) + a4)) (fun _ => rfl) ?_
                obtain ⟨q14, h⟩ := am_bif h
                refine am_Ex.iald (v := (q8.2 87 ((a1).toNatClampNeg))) rfl rfl q14 ((am_up_k (by decide)).trans ((am_up_k (by decide)).trans ((am_up_k (by decide)).trans ((am_up_k (by decide)).trans ((am_up_k (by decide)).trans ((am_up_k (by decide)).trans ((am_up_k (by decide)).trans ((am_up_k (by decide)).trans rfl)))))))) ?_
                refine am_Ex.seg 4 184 [.ref 84, .int a1, .int a2, .int a3, .int a4, .int a5] [.int ((q8.2 87 ((a1).toNatClampNeg)) ||| ((1 : Int32) <<< (a3 &&& 31))), .int a1, .ref 87] (am_up (am_up (am_up (am_up (am_up (am_up (am_up (am_up q8.2 89 (((q8.2 84 14)).toNatClampNeg) a1) 90 (((q8.2 84 14)).toNatClampNeg) a2) 91 (((q8.2 84 14)).toNatClampNeg) a3) 92 (((q8.2 84 14)).toNatClampNeg) a4) 93 (((q8.2 84 14)).toNatClampNeg) (a5 &&& 1)) 84 14 ((q8.2 84 14) + 1)) 88 ((((a1 * 8) + a2)).toNatClampNeg) ((q8.2 88 ((((a1 * 8) + a2)).toNatClampNeg)) - a4)) 88 ((((a1 * 8) + a3)).toNatClampNeg) (((am_up (am_up (am_up (am_up (am_up (am_up (am_up q8.2 89 (((q8.2 84 14)).toNatClampNeg) a1) 90 (((q8.2 84 14)).toNatClampNeg) a2) 91 (((q8.2 84 14)).toNatClampNeg) a3) 92 (((q8.2 84 14)).toNatClampNeg) a4) 93 (((q8.2 84 14)).toNatClampNeg) (a5 &&& 1)) 84 14 ((q8.2 84 14) + 1)) 88 ((((a1 * 8) + a2)).toNatClampNeg) ((q8.2 88 ((((a1 * 8) + a2)).toNatClampNeg)) - a4)) 88 ((((a1 * 8) + a3)).toNatClampNeg)) + a4)) (fun _ => rfl) ?_
                refine am_Ex.iast (v2 := ((q8.2 87 ((a1).toNatClampNeg)) ||| ((1 : Int32) <<< (a3 &&& 31)))) (i2 := (a1).toNatClampNeg) rfl rfl q14 rfl rfl ?_
                refine am_Ex.seg 1 186 [.ref 84, .int a1, .int a2, .int a3, .int a4, .int a5] [.int 1] (am_up (am_up (am_up (am_up (am_up (am_up (am_up (am_up (am_up q8.2 89 (((q8.2 84 14)).toNatClampNeg) a1) 90 (((q8.2 84 14)).toNatClampNeg) a2) 91 (((q8.2 84 14)).toNatClampNeg) a3) 92 (((q8.2 84 14)).toNatClampNeg) a4) 93 (((q8.2 84 14)).toNatClampNeg) (a5 &&& 1)) 84 14 ((q8.2 84 14) + 1)) 88 ((((a1 * 8) + a2)).toNatClampNeg) ((q8.2 88 ((((a1 * 8) + a2)).toNatClampNeg)) - a4)) 88 ((((a1 * 8) + a3)).toNatClampNeg) (((am_up (am_up (am_up (am_up (am_up (am_up (am_up q8.2 89 (((q8.2 84 14)).toNatClampNeg) a1) 90 (((q8.2 84 14)).toNatClampNeg) a2) 91 (((q8.2 84 14)).toNatClampNeg) a3) 92 (((q8.2 84 14)).toNatClampNeg) a4) 93 (((q8.2 84 14)).toNatClampNeg) (a5 &&& 1)) 84 14 ((q8.2 84 14) + 1)) 88 ((((a1 * 8) + a2)).toNatClampNeg) ((q8.2 88 ((((a1 * 8) + a2)).toNatClampNeg)) - a4)) 88 ((((a1 * 8) + a3)).toNatClampNeg)) + a4)) 87 ((a1).toNatClampNeg) ((q8.2 87 ((a1).toNatClampNeg)) ||| ((1 : Int32) <<< (a3 &&& 31)))) (fun _ => rfl) ?_
                cases h
                exact am_Ex.zret rfl rfl (by decide)
              · refine am_Ex.icmp_le_f rfl q11 ?_
                refine am_Ex.seg 1 78 [.ref 84, .int a1, .int a2, .int a3, .int a4, .int a5] [.int 0] q8.2 (fun _ => rfl) ?_
                cases h
                exact am_Ex.zret rfl rfl (by decide)
        · refine am_Ex.icmp_ge_f rfl q5 ?_
          refine am_Ex.seg 1 32 [.ref 84, .int a1, .int a2, .int a3, .int a4, .int a5] [.int 0] q2.2 (fun _ => rfl) ?_
          cases h
          exact am_Ex.zret rfl rfl (by decide)
def fLots_passGood_87 (a3 : Int32) (a4 : Int32) (a5 : Int32) (μ : am_Mu) : Option (am_Mu) := (bif am_inb a3 8 then (bif am_inb a4 8 then some (am_up (am_up (am_up (am_up μ 94 ((a3).toNatClampNeg) ((μ 94 ((a3).toNatClampNeg)) - a5)) 94 ((a4).toNatClampNeg) (((am_up μ 94 ((a3).toNatClampNeg) ((μ 94 ((a3).toNatClampNeg)) - a5)) 94 ((a4).toNatClampNeg)) + a5)) 95 ((a3).toNatClampNeg) (if 0 < ((μ 95 ((a3).toNatClampNeg)) - a5) then ((μ 95 ((a3).toNatClampNeg)) - a5) else 0)) 96 ((a3).toNatClampNeg) (if ((am_up (am_up μ 94 ((a3).toNatClampNeg) ((μ 94 ((a3).toNatClampNeg)) - a5)) 94 ((a4).toNatClampNeg) (((am_up μ 94 ((a3).toNatClampNeg) ((μ 94 ((a3).toNatClampNeg)) - a5)) 94 ((a4).toNatClampNeg)) + a5)) 94 ((a3).toNatClampNeg)) < (μ 96 ((a3).toNatClampNeg)) then ((am_up (am_up μ 94 ((a3).toNatClampNeg) ((μ 94 ((a3).toNatClampNeg)) - a5)) 94 ((a4).toNatClampNeg) (((am_up μ 94 ((a3).toNatClampNeg) ((μ 94 ((a3).toNatClampNeg)) - a5)) 94 ((a4).toNatClampNeg)) + a5)) 94 ((a3).toNatClampNeg)) else (μ 96 ((a3).toNatClampNeg)))) else none) else none)
def fLots_passGood (a1 : Int32) (a2 : Int32) (μ : am_Mu) : Option (am_Mu) := (bif am_inb a1 100 then (if (μ 93 ((a1).toNatClampNeg)) = 0 then fLots_passGood_87 (μ 90 ((a1).toNatClampNeg)) (μ 91 ((a1).toNatClampNeg)) (μ 92 ((a1).toNatClampNeg)) μ else (if a2 = 0 then fLots_passGood_87 (μ 90 ((a1).toNatClampNeg)) (μ 91 ((a1).toNatClampNeg)) (μ 92 ((a1).toNatClampNeg)) μ else (bif am_inb (μ 91 ((a1).toNatClampNeg)) 8 then (bif am_inb (μ 90 ((a1).toNatClampNeg)) 8 then fLots_passGood_87 (μ 90 ((a1).toNatClampNeg)) (μ 91 ((a1).toNatClampNeg)) (μ 92 ((a1).toNatClampNeg)) (am_up (am_up μ 95 (((μ 91 ((a1).toNatClampNeg))).toNatClampNeg) ((μ 95 (((μ 91 ((a1).toNatClampNeg))).toNatClampNeg)) + (if 0 < ((μ 92 ((a1).toNatClampNeg)) - ((μ 94 (((μ 90 ((a1).toNatClampNeg))).toNatClampNeg)) - (μ 95 (((μ 90 ((a1).toNatClampNeg))).toNatClampNeg)))) then ((μ 92 ((a1).toNatClampNeg)) - ((μ 94 (((μ 90 ((a1).toNatClampNeg))).toNatClampNeg)) - (μ 95 (((μ 90 ((a1).toNatClampNeg))).toNatClampNeg)))) else 0))) 96 (((μ 91 ((a1).toNatClampNeg))).toNatClampNeg) ((μ 96 (((μ 91 ((a1).toNatClampNeg))).toNatClampNeg)) + (if (μ 96 (((μ 90 ((a1).toNatClampNeg))).toNatClampNeg)) < (μ 92 ((a1).toNatClampNeg)) then (μ 96 (((μ 90 ((a1).toNatClampNeg))).toNatClampNeg)) else (μ 92 ((a1).toNatClampNeg))))) else none) else none))) else none)
set_option maxRecDepth 20000 in
theorem e_fLots_passGood_87 (d : Nat) : ∀ {a3 : Int32} {a4 : Int32} {a5 : Int32} {w1 w2 : Value} {μ : am_Mu} {out : am_Mu}, fLots_passGood_87 a3 a4 a5 μ = some out → am_Ex none (d + 1) 69 87 [.ref 84, w1, w2, .int a3, .int a4, .int a5] [] am_SH μ (none, am_SH, out) := by
  intro a3 a4 a5 w1 w2 μ out h
  unfold fLots_passGood_87 at h
  refine am_Ex.seg 4 93 [.ref 84, w1, w2, .int a3, .int a4, .int a5] [.int a3, .ref 94, .int a3, .ref 94] μ (fun _ => rfl) ?_
  obtain ⟨q1, h⟩ := am_bif h
  refine am_Ex.iald (v := (μ 94 ((a3).toNatClampNeg))) rfl rfl q1 rfl ?_
  refine am_Ex.seg 2 97 [.ref 84, w1, w2, .int a3, .int a4, .int a5] [.int ((μ 94 ((a3).toNatClampNeg)) - a5), .int a3, .ref 94] μ (fun _ => rfl) ?_
  refine am_Ex.iast (v2 := ((μ 94 ((a3).toNatClampNeg)) - a5)) (i2 := (a3).toNatClampNeg) rfl rfl q1 rfl rfl ?_
  refine am_Ex.seg 4 105 [.ref 84, w1, w2, .int a3, .int a4, .int a5] [.int a4, .ref 94, .int a4, .ref 94] (am_up μ 94 ((a3).toNatClampNeg) ((μ 94 ((a3).toNatClampNeg)) - a5)) (fun _ => rfl) ?_
  obtain ⟨q2, h⟩ := am_bif h
  refine am_Ex.iald (v := ((am_up μ 94 ((a3).toNatClampNeg) ((μ 94 ((a3).toNatClampNeg)) - a5)) 94 ((a4).toNatClampNeg))) rfl rfl q2 rfl ?_
  refine am_Ex.seg 2 109 [.ref 84, w1, w2, .int a3, .int a4, .int a5] [.int (((am_up μ 94 ((a3).toNatClampNeg) ((μ 94 ((a3).toNatClampNeg)) - a5)) 94 ((a4).toNatClampNeg)) + a5), .int a4, .ref 94] (am_up μ 94 ((a3).toNatClampNeg) ((μ 94 ((a3).toNatClampNeg)) - a5)) (fun _ => rfl) ?_
  refine am_Ex.iast (v2 := (((am_up μ 94 ((a3).toNatClampNeg) ((μ 94 ((a3).toNatClampNeg)) - a5)) 94 ((a4).toNatClampNeg)) + a5)) (i2 := (a4).toNatClampNeg) rfl rfl q2 rfl rfl ?_
  refine am_Ex.seg 7 121 [.ref 84, w1, w2, .int a3, .int a4, .int a5] [.int a3, .ref 95, .int 0, .int a3, .ref 95] (am_up (am_up μ 94 ((a3).toNatClampNeg) ((μ 94 ((a3).toNatClampNeg)) - a5)) 94 ((a4).toNatClampNeg) (((am_up μ 94 ((a3).toNatClampNeg) ((μ 94 ((a3).toNatClampNeg)) - a5)) 94 ((a4).toNatClampNeg)) + a5)) (fun _ => rfl) ?_
  refine am_Ex.iald (v := (μ 95 ((a3).toNatClampNeg))) rfl rfl q1 ((am_up_k (by decide)).trans ((am_up_k (by decide)).trans rfl)) ?_
  refine am_Ex.seg 2 125 [.ref 84, w1, w2, .int a3, .int a4, .int a5] [.int ((μ 95 ((a3).toNatClampNeg)) - a5), .int 0, .int a3, .ref 95] (am_up (am_up μ 94 ((a3).toNatClampNeg) ((μ 94 ((a3).toNatClampNeg)) - a5)) 94 ((a4).toNatClampNeg) (((am_up μ 94 ((a3).toNatClampNeg) ((μ 94 ((a3).toNatClampNeg)) - a5)) 94 ((a4).toNatClampNeg)) + a5)) (fun _ => rfl) ?_
  refine am_Ex.max rfl rfl rfl ?_
  refine am_Ex.iast (v2 := (if 0 < ((μ 95 ((a3).toNatClampNeg)) - a5) then ((μ 95 ((a3).toNatClampNeg)) - a5) else 0)) (i2 := (a3).toNatClampNeg) rfl rfl q1 rfl rfl ?_
  refine am_Ex.seg 6 139 [.ref 84, w1, w2, .int a3, .int a4, .int a5] [.int a3, .ref 96, .int a3, .ref 96] (am_up (am_up (am_up μ 94 ((a3).toNatClampNeg) ((μ 94 ((a3).toNatClampNeg)) - a5)) 94 ((a4).toNatClampNeg) (((am_up μ 94 ((a3).toNatClampNeg) ((μ 94 ((a3).toNatClampNeg)) - a5)) 94 ((a4).toNatClampNeg)) + a5)) 95 ((a3).toNatClampNeg) (if 0 < ((μ 95 ((a3).toNatClampNeg)) - a5) then ((μ 95 ((a3).toNatClampNeg)) - a5) else 0)) (fun _ => rfl) ?_
  refine am_Ex.iald (v := (μ 96 ((a3).toNatClampNeg))) rfl rfl q1 ((am_up_k (by decide)).trans ((am_up_k (by decide)).trans ((am_up_k (by decide)).trans rfl))) ?_
  refine am_Ex.seg 3 145 [.ref 84, w1, w2, .int a3, .int a4, .int a5] [.int a3, .ref 94, .int (μ 96 ((a3).toNatClampNeg)), .int a3, .ref 96] (am_up (am_up (am_up μ 94 ((a3).toNatClampNeg) ((μ 94 ((a3).toNatClampNeg)) - a5)) 94 ((a4).toNatClampNeg) (((am_up μ 94 ((a3).toNatClampNeg) ((μ 94 ((a3).toNatClampNeg)) - a5)) 94 ((a4).toNatClampNeg)) + a5)) 95 ((a3).toNatClampNeg) (if 0 < ((μ 95 ((a3).toNatClampNeg)) - a5) then ((μ 95 ((a3).toNatClampNeg)) - a5) else 0)) (fun _ => rfl) ?_
  refine am_Ex.iald (v := ((am_up (am_up μ 94 ((a3).toNatClampNeg) ((μ 94 ((a3).toNatClampNeg)) - a5)) 94 ((a4).toNatClampNeg) (((am_up μ 94 ((a3).toNatClampNeg) ((μ 94 ((a3).toNatClampNeg)) - a5)) 94 ((a4).toNatClampNeg)) + a5)) 94 ((a3).toNatClampNeg))) rfl rfl q1 ((am_up_k (by decide)).trans rfl) ?_
  refine am_Ex.min rfl rfl rfl ?_
  refine am_Ex.iast (v2 := (if ((am_up (am_up μ 94 ((a3).toNatClampNeg) ((μ 94 ((a3).toNatClampNeg)) - a5)) 94 ((a4).toNatClampNeg) (((am_up μ 94 ((a3).toNatClampNeg) ((μ 94 ((a3).toNatClampNeg)) - a5)) 94 ((a4).toNatClampNeg)) + a5)) 94 ((a3).toNatClampNeg)) < (μ 96 ((a3).toNatClampNeg)) then ((am_up (am_up μ 94 ((a3).toNatClampNeg) ((μ 94 ((a3).toNatClampNeg)) - a5)) 94 ((a4).toNatClampNeg) (((am_up μ 94 ((a3).toNatClampNeg) ((μ 94 ((a3).toNatClampNeg)) - a5)) 94 ((a4).toNatClampNeg)) + a5)) 94 ((a3).toNatClampNeg)) else (μ 96 ((a3).toNatClampNeg)))) (i2 := (a3).toNatClampNeg) rfl rfl q1 rfl rfl ?_
  cases h
  exact am_Ex.vret rfl rfl
set_option maxRecDepth 20000 in
theorem e_fLots_passGood (d : Nat) : ∀ {a1 : Int32} {a2 : Int32} {μ : am_Mu} {out : am_Mu}, fLots_passGood a1 a2 μ = some out → am_Ex none (d + 1) 69 0 [.ref 84, .int a1, .int a2, .null, .null, .null] [] am_SH μ (none, am_SH, out) := by
  intro a1 a2 μ out h
  unfold fLots_passGood at h
  refine am_Ex.seg 3 5 [.ref 84, .int a1, .int a2, .null, .null, .null] [.int a1, .ref 90] μ (fun _ => rfl) ?_
  obtain ⟨q1, h⟩ := am_bif h
  refine am_Ex.iald (v := (μ 90 ((a1).toNatClampNeg))) rfl rfl q1 rfl ?_
  refine am_Ex.seg 4 12 [.ref 84, .int a1, .int a2, .int (μ 90 ((a1).toNatClampNeg)), .null, .null] [.int a1, .ref 91] μ (fun _ => rfl) ?_
  refine am_Ex.iald (v := (μ 91 ((a1).toNatClampNeg))) rfl rfl q1 rfl ?_
  refine am_Ex.seg 4 20 [.ref 84, .int a1, .int a2, .int (μ 90 ((a1).toNatClampNeg)), .int (μ 91 ((a1).toNatClampNeg)), .null] [.int a1, .ref 92] μ (fun _ => rfl) ?_
  refine am_Ex.iald (v := (μ 92 ((a1).toNatClampNeg))) rfl rfl q1 rfl ?_
  refine am_Ex.seg 4 28 [.ref 84, .int a1, .int a2, .int (μ 90 ((a1).toNatClampNeg)), .int (μ 91 ((a1).toNatClampNeg)), .int (μ 92 ((a1).toNatClampNeg))] [.int a1, .ref 93] μ (fun _ => rfl) ?_
  refine am_Ex.zald (v := (μ 93 ((a1).toNatClampNeg))) rfl rfl q1 rfl ?_
  rcases am_ite h with ⟨q2, h⟩ | ⟨q2, h⟩
  · refine am_Ex.if_eq_t rfl q2 ?_
    exact e_fLots_passGood_87 d h
  · refine am_Ex.if_eq_f rfl q2 ?_
    refine am_Ex.seg 1 33 [.ref 84, .int a1, .int a2, .int (μ 90 ((a1).toNatClampNeg)), .int (μ 91 ((a1).toNatClampNeg)), .int (μ 92 ((a1).toNatClampNeg))] [.int a2] μ (fun _ => rfl) ?_
    rcases am_ite h with ⟨q3, h⟩ | ⟨q3, h⟩
    · refine am_Ex.if_eq_t rfl q3 ?_
      exact e_fLots_passGood_87 d h
    · refine am_Ex.if_eq_f rfl q3 ?_
      refine am_Ex.seg 4 43 [.ref 84, .int a1, .int a2, .int (μ 90 ((a1).toNatClampNeg)), .int (μ 91 ((a1).toNatClampNeg)), .int (μ 92 ((a1).toNatClampNeg))] [.int (μ 91 ((a1).toNatClampNeg)), .ref 95, .int (μ 91 ((a1).toNatClampNeg)), .ref 95] μ (fun _ => rfl) ?_
      obtain ⟨q4, h⟩ := am_bif h
      refine am_Ex.iald (v := (μ 95 (((μ 91 ((a1).toNatClampNeg))).toNatClampNeg))) rfl rfl q4 rfl ?_
      refine am_Ex.seg 5 52 [.ref 84, .int a1, .int a2, .int (μ 90 ((a1).toNatClampNeg)), .int (μ 91 ((a1).toNatClampNeg)), .int (μ 92 ((a1).toNatClampNeg))] [.int (μ 90 ((a1).toNatClampNeg)), .ref 94, .int (μ 92 ((a1).toNatClampNeg)), .int 0, .int (μ 95 (((μ 91 ((a1).toNatClampNeg))).toNatClampNeg)), .int (μ 91 ((a1).toNatClampNeg)), .ref 95] μ (fun _ => rfl) ?_
      obtain ⟨q5, h⟩ := am_bif h
      refine am_Ex.iald (v := (μ 94 (((μ 90 ((a1).toNatClampNeg))).toNatClampNeg))) rfl rfl q5 rfl ?_
      refine am_Ex.seg 3 58 [.ref 84, .int a1, .int a2, .int (μ 90 ((a1).toNatClampNeg)), .int (μ 91 ((a1).toNatClampNeg)), .int (μ 92 ((a1).toNatClampNeg))] [.int (μ 90 ((a1).toNatClampNeg)), .ref 95, .int (μ 94 (((μ 90 ((a1).toNatClampNeg))).toNatClampNeg)), .int (μ 92 ((a1).toNatClampNeg)), .int 0, .int (μ 95 (((μ 91 ((a1).toNatClampNeg))).toNatClampNeg)), .int (μ 91 ((a1).toNatClampNeg)), .ref 95] μ (fun _ => rfl) ?_
      refine am_Ex.iald (v := (μ 95 (((μ 90 ((a1).toNatClampNeg))).toNatClampNeg))) rfl rfl q5 rfl ?_
      refine am_Ex.seg 2 61 [.ref 84, .int a1, .int a2, .int (μ 90 ((a1).toNatClampNeg)), .int (μ 91 ((a1).toNatClampNeg)), .int (μ 92 ((a1).toNatClampNeg))] [.int ((μ 92 ((a1).toNatClampNeg)) - ((μ 94 (((μ 90 ((a1).toNatClampNeg))).toNatClampNeg)) - (μ 95 (((μ 90 ((a1).toNatClampNeg))).toNatClampNeg)))), .int 0, .int (μ 95 (((μ 91 ((a1).toNatClampNeg))).toNatClampNeg)), .int (μ 91 ((a1).toNatClampNeg)), .ref 95] μ (fun _ => rfl) ?_
      refine am_Ex.max rfl rfl rfl ?_
      refine am_Ex.seg 1 65 [.ref 84, .int a1, .int a2, .int (μ 90 ((a1).toNatClampNeg)), .int (μ 91 ((a1).toNatClampNeg)), .int (μ 92 ((a1).toNatClampNeg))] [.int ((μ 95 (((μ 91 ((a1).toNatClampNeg))).toNatClampNeg)) + (if 0 < ((μ 92 ((a1).toNatClampNeg)) - ((μ 94 (((μ 90 ((a1).toNatClampNeg))).toNatClampNeg)) - (μ 95 (((μ 90 ((a1).toNatClampNeg))).toNatClampNeg)))) then ((μ 92 ((a1).toNatClampNeg)) - ((μ 94 (((μ 90 ((a1).toNatClampNeg))).toNatClampNeg)) - (μ 95 (((μ 90 ((a1).toNatClampNeg))).toNatClampNeg)))) else 0)), .int (μ 91 ((a1).toNatClampNeg)), .ref 95] μ (fun _ => rfl) ?_
      refine am_Ex.iast (v2 := ((μ 95 (((μ 91 ((a1).toNatClampNeg))).toNatClampNeg)) + (if 0 < ((μ 92 ((a1).toNatClampNeg)) - ((μ 94 (((μ 90 ((a1).toNatClampNeg))).toNatClampNeg)) - (μ 95 (((μ 90 ((a1).toNatClampNeg))).toNatClampNeg)))) then ((μ 92 ((a1).toNatClampNeg)) - ((μ 94 (((μ 90 ((a1).toNatClampNeg))).toNatClampNeg)) - (μ 95 (((μ 90 ((a1).toNatClampNeg))).toNatClampNeg)))) else 0))) (i2 := ((μ 91 ((a1).toNatClampNeg))).toNatClampNeg) rfl rfl q4 rfl rfl ?_
      refine am_Ex.seg 4 73 [.ref 84, .int a1, .int a2, .int (μ 90 ((a1).toNatClampNeg)), .int (μ 91 ((a1).toNatClampNeg)), .int (μ 92 ((a1).toNatClampNeg))] [.int (μ 91 ((a1).toNatClampNeg)), .ref 96, .int (μ 91 ((a1).toNatClampNeg)), .ref 96] (am_up μ 95 (((μ 91 ((a1).toNatClampNeg))).toNatClampNeg) ((μ 95 (((μ 91 ((a1).toNatClampNeg))).toNatClampNeg)) + (if 0 < ((μ 92 ((a1).toNatClampNeg)) - ((μ 94 (((μ 90 ((a1).toNatClampNeg))).toNatClampNeg)) - (μ 95 (((μ 90 ((a1).toNatClampNeg))).toNatClampNeg)))) then ((μ 92 ((a1).toNatClampNeg)) - ((μ 94 (((μ 90 ((a1).toNatClampNeg))).toNatClampNeg)) - (μ 95 (((μ 90 ((a1).toNatClampNeg))).toNatClampNeg)))) else 0))) (fun _ => rfl) ?_
      refine am_Ex.iald (v := (μ 96 (((μ 91 ((a1).toNatClampNeg))).toNatClampNeg))) rfl rfl q4 ((am_up_k (by decide)).trans rfl) ?_
      refine am_Ex.seg 4 81 [.ref 84, .int a1, .int a2, .int (μ 90 ((a1).toNatClampNeg)), .int (μ 91 ((a1).toNatClampNeg)), .int (μ 92 ((a1).toNatClampNeg))] [.int (μ 90 ((a1).toNatClampNeg)), .ref 96, .int (μ 92 ((a1).toNatClampNeg)), .int (μ 96 (((μ 91 ((a1).toNatClampNeg))).toNatClampNeg)), .int (μ 91 ((a1).toNatClampNeg)), .ref 96] (am_up μ 95 (((μ 91 ((a1).toNatClampNeg))).toNatClampNeg) ((μ 95 (((μ 91 ((a1).toNatClampNeg))).toNatClampNeg)) + (if 0 < ((μ 92 ((a1).toNatClampNeg)) - ((μ 94 (((μ 90 ((a1).toNatClampNeg))).toNatClampNeg)) - (μ 95 (((μ 90 ((a1).toNatClampNeg))).toNatClampNeg)))) then ((μ 92 ((a1).toNatClampNeg)) - ((μ 94 (((μ 90 ((a1).toNatClampNeg))).toNatClampNeg)) - (μ 95 (((μ 90 ((a1).toNatClampNeg))).toNatClampNeg)))) else 0))) (fun _ => rfl) ?_
      refine am_Ex.iald (v := (μ 96 (((μ 90 ((a1).toNatClampNeg))).toNatClampNeg))) rfl rfl q5 ((am_up_k (by decide)).trans rfl) ?_
      refine am_Ex.min rfl rfl rfl ?_
      refine am_Ex.seg 1 86 [.ref 84, .int a1, .int a2, .int (μ 90 ((a1).toNatClampNeg)), .int (μ 91 ((a1).toNatClampNeg)), .int (μ 92 ((a1).toNatClampNeg))] [.int ((μ 96 (((μ 91 ((a1).toNatClampNeg))).toNatClampNeg)) + (if (μ 96 (((μ 90 ((a1).toNatClampNeg))).toNatClampNeg)) < (μ 92 ((a1).toNatClampNeg)) then (μ 96 (((μ 90 ((a1).toNatClampNeg))).toNatClampNeg)) else (μ 92 ((a1).toNatClampNeg)))), .int (μ 91 ((a1).toNatClampNeg)), .ref 96] (am_up μ 95 (((μ 91 ((a1).toNatClampNeg))).toNatClampNeg) ((μ 95 (((μ 91 ((a1).toNatClampNeg))).toNatClampNeg)) + (if 0 < ((μ 92 ((a1).toNatClampNeg)) - ((μ 94 (((μ 90 ((a1).toNatClampNeg))).toNatClampNeg)) - (μ 95 (((μ 90 ((a1).toNatClampNeg))).toNatClampNeg)))) then ((μ 92 ((a1).toNatClampNeg)) - ((μ 94 (((μ 90 ((a1).toNatClampNeg))).toNatClampNeg)) - (μ 95 (((μ 90 ((a1).toNatClampNeg))).toNatClampNeg)))) else 0))) (fun _ => rfl) ?_
      refine am_Ex.iast (v2 := ((μ 96 (((μ 91 ((a1).toNatClampNeg))).toNatClampNeg)) + (if (μ 96 (((μ 90 ((a1).toNatClampNeg))).toNatClampNeg)) < (μ 92 ((a1).toNatClampNeg)) then (μ 96 (((μ 90 ((a1).toNatClampNeg))).toNatClampNeg)) else (μ 92 ((a1).toNatClampNeg))))) (i2 := ((μ 91 ((a1).toNatClampNeg))).toNatClampNeg) rfl rfl q4 rfl rfl ?_
      exact e_fLots_passGood_87 d h
def fLots_seeGood_134 (k93 : Int32 → Int32 → Int32 → am_Mu → Option (am_Mu)) (a1 : Int32) (a2 : Int32) (a4 : Int32) (μ : am_Mu) : Option (am_Mu) := k93 a1 a2 (a4 + 1) μ
def fLots_seeGood_93 : Nat → Int32 → Int32 → Int32 → am_Mu → Option (am_Mu)
  | 0, _, _, _, _ => none
  | n + 1, a1, a2, a4, μ => (if (μ 84 14) ≤ a4 then some μ else (bif am_inb a4 100 then (if ¬ (μ 89 ((a4).toNatClampNeg)) = a2 then fLots_seeGood_134 (fLots_seeGood_93 n) a1 a2 a4 μ else ((fKitchens_isTrusted a1 (μ 90 ((a4).toNatClampNeg)) μ).bind fun q4 => ((fLots_passGood a4 q4.1 q4.2).bind fun q5 => fLots_seeGood_134 (fLots_seeGood_93 n) a1 a2 a4 q5))) else none))
def fLots_seeGood_90 (a1 : Int32) (a2 : Int32) (μ : am_Mu) : Option (am_Mu) := fLots_seeGood_93 am_F a1 a2 0 μ
def fLots_seeGood_35 (a1 : Int32) (a2 : Int32) (μ : am_Mu) : Option (am_Mu) := (bif am_inb a2 10 then (bif am_inb (μ 85 ((a2).toNatClampNeg)) 8 then ((fKitchens_isTrusted a1 (μ 85 ((a2).toNatClampNeg)) (am_up μ 94 (((μ 85 ((a2).toNatClampNeg))).toNatClampNeg) (μ 86 ((a2).toNatClampNeg)))).bind fun q3 => (if q3.1 = 0 then fLots_seeGood_90 a1 a2 q3.2 else fLots_seeGood_90 a1 a2 (am_up (am_up q3.2 95 (((μ 85 ((a2).toNatClampNeg))).toNatClampNeg) (q3.2 86 ((a2).toNatClampNeg))) 96 (((μ 85 ((a2).toNatClampNeg))).toNatClampNeg) (q3.2 86 ((a2).toNatClampNeg))))) else none) else none)
def fLots_seeGood_2 : Nat → Int32 → Int32 → Int32 → am_Mu → Option (am_Mu)
  | 0, _, _, _, _ => none
  | n + 1, a1, a2, a3, μ => (if 8 ≤ a3 then fLots_seeGood_35 a1 a2 μ else (bif am_inb a3 8 then (fLots_seeGood_2 n) a1 a2 (a3 + 1) (am_up (am_up (am_up μ 94 ((a3).toNatClampNeg) 0) 95 ((a3).toNatClampNeg) 0) 96 ((a3).toNatClampNeg) 0) else none))
def fLots_seeGood (a1 : Int32) (a2 : Int32) (μ : am_Mu) : Option (am_Mu) := fLots_seeGood_2 am_F a1 a2 0 μ
set_option maxRecDepth 20000 in
theorem e_fLots_seeGood_134 (d : Nat) {k93 : Int32 → Int32 → Int32 → am_Mu → Option (am_Mu)} (hk93 : ∀ {a1 : Int32} {a2 : Int32} {a4 : Int32} {w3 : Value} {μ : am_Mu} {out : am_Mu}, k93 a1 a2 a4 μ = some out → am_Ex none (d + 2) 68 93 [.ref 84, .int a1, .int a2, w3, .int a4] [] am_SH μ (none, am_SH, out)) : ∀ {a1 : Int32} {a2 : Int32} {a4 : Int32} {w3 : Value} {μ : am_Mu} {out : am_Mu}, fLots_seeGood_134 k93 a1 a2 a4 μ = some out → am_Ex none (d + 2) 68 134 [.ref 84, .int a1, .int a2, w3, .int a4] [] am_SH μ (none, am_SH, out) := by
  intro a1 a2 a4 w3 μ out h
  unfold fLots_seeGood_134 at h
  refine am_Ex.seg 1 137 [.ref 84, .int a1, .int a2, w3, .int (a4 + 1)] [] μ (fun _ => rfl) ?_
  refine am_Ex.goto rfl ?_
  exact hk93 h
set_option maxRecDepth 20000 in
theorem e_fLots_seeGood_93 (d : Nat) : ∀ n : Nat, ∀ {a1 : Int32} {a2 : Int32} {a4 : Int32} {w3 : Value} {μ : am_Mu} {out : am_Mu}, fLots_seeGood_93 n a1 a2 a4 μ = some out → am_Ex none (d + 2) 68 93 [.ref 84, .int a1, .int a2, w3, .int a4] [] am_SH μ (none, am_SH, out) := by
  intro n
  induction n with
  | zero => intros; contradiction
  | succ n ih =>
    have hk93 : ∀ {a1 : Int32} {a2 : Int32} {a4 : Int32} {w3 : Value} {μ : am_Mu} {out : am_Mu}, (fLots_seeGood_93 n) a1 a2 a4 μ = some out → am_Ex none (d + 2) 68 93 [.ref 84, .int a1, .int a2, w3, .int a4] [] am_SH μ (none, am_SH, out) := ih
    intro a1 a2 a4 w3 μ out h
    unfold fLots_seeGood_93 at h
    refine am_Ex.seg 3 99 [.ref 84, .int a1, .int a2, w3, .int a4] [.int (μ 84 14), .int a4] μ (fun _ => rfl) ?_
    rcases am_ite h with ⟨q1, h⟩ | ⟨q1, h⟩
    · refine am_Ex.icmp_ge_t rfl q1 ?_
      cases h
      exact am_Ex.vret rfl rfl
    · refine am_Ex.icmp_ge_f rfl q1 ?_
      refine am_Ex.seg 3 108 [.ref 84, .int a1, .int a2, w3, .int a4] [.int a4, .ref 89] μ (fun _ => rfl) ?_
      obtain ⟨q2, h⟩ := am_bif h
      refine am_Ex.iald (v := (μ 89 ((a4).toNatClampNeg))) rfl rfl q2 rfl ?_
      refine am_Ex.seg 1 110 [.ref 84, .int a1, .int a2, w3, .int a4] [.int a2, .int (μ 89 ((a4).toNatClampNeg))] μ (fun _ => rfl) ?_
      rcases am_ite h with ⟨q3, h⟩ | ⟨q3, h⟩
      · refine am_Ex.icmp_ne_t rfl q3 ?_
        exact e_fLots_seeGood_134 d hk93 h
      · refine am_Ex.icmp_ne_f rfl (Decidable.not_not.mp q3) ?_
        refine am_Ex.seg 8 127 [.ref 84, .int a1, .int a2, w3, .int a4] [.int a4, .ref 90, .int a1, .ref 76, .int a4, .ref 84] μ (fun _ => rfl) ?_
        refine am_Ex.iald (v := (μ 90 ((a4).toNatClampNeg))) rfl rfl q2 rfl ?_
        obtain ⟨q4, h_q4, h⟩ := am_bind h
        refine am_Ex.ivk (na := 3) (b := 76) (As' := [.int a1, .int (μ 90 ((a4).toNatClampNeg))]) rfl rfl rfl rfl rfl rfl rfl rfl rfl (e_fKitchens_isTrusted (d + 1) h_q4) ?_
        refine am_Ex.same 131 [.ref 84, .int a1, .int a2, w3, .int a4] [.int q4.1, .int a4, .ref 84] q4.2 rfl ?_
        obtain ⟨q5, h_q5, h⟩ := am_bind h
        refine am_Ex.ivk (na := 3) (b := 84) (As' := [.int a4, .int q4.1]) rfl rfl rfl rfl rfl rfl rfl rfl rfl (e_fLots_passGood (d + 0) h_q5) ?_
        refine am_Ex.same 134 [.ref 84, .int a1, .int a2, w3, .int a4] [] q5 rfl ?_
        exact e_fLots_seeGood_134 d hk93 h
set_option maxRecDepth 20000 in
theorem e_fLots_seeGood_90 (d : Nat) : ∀ {a1 : Int32} {a2 : Int32} {w3 w4 : Value} {μ : am_Mu} {out : am_Mu}, fLots_seeGood_90 a1 a2 μ = some out → am_Ex none (d + 2) 68 90 [.ref 84, .int a1, .int a2, w3, w4] [] am_SH μ (none, am_SH, out) := by
  intro a1 a2 w3 w4 μ out h
  unfold fLots_seeGood_90 at h
  refine am_Ex.seg 2 93 [.ref 84, .int a1, .int a2, w3, .int 0] [] μ (fun _ => rfl) ?_
  exact e_fLots_seeGood_93 d am_F h
set_option maxRecDepth 20000 in
theorem e_fLots_seeGood_35 (d : Nat) : ∀ {a1 : Int32} {a2 : Int32} {w3 w4 : Value} {μ : am_Mu} {out : am_Mu}, fLots_seeGood_35 a1 a2 μ = some out → am_Ex none (d + 2) 68 35 [.ref 84, .int a1, .int a2, w3, w4] [] am_SH μ (none, am_SH, out) := by
  intro a1 a2 w3 w4 μ out h
  unfold fLots_seeGood_35 at h
  refine am_Ex.seg 3 40 [.ref 84, .int a1, .int a2, w3, w4] [.int a2, .ref 85] μ (fun _ => rfl) ?_
  obtain ⟨q1, h⟩ := am_bif h
  refine am_Ex.iald (v := (μ 85 ((a2).toNatClampNeg))) rfl rfl q1 rfl ?_
  refine am_Ex.seg 7 52 [.ref 84, .int a1, .int a2, .int (μ 85 ((a2).toNatClampNeg)), w4] [.int a2, .ref 86, .int (μ 85 ((a2).toNatClampNeg)), .ref 94] μ (fun _ => rfl) ?_
  refine am_Ex.iald (v := (μ 86 ((a2).toNatClampNeg))) rfl rfl q1 rfl ?_
  obtain ⟨q2, h⟩ := am_bif h
  refine am_Ex.iast (v2 := (μ 86 ((a2).toNatClampNeg))) (i2 := ((μ 85 ((a2).toNatClampNeg))).toNatClampNeg) rfl rfl q2 rfl rfl ?_
  refine am_Ex.seg 4 60 [.ref 84, .int a1, .int a2, .int (μ 85 ((a2).toNatClampNeg)), w4] [.int (μ 85 ((a2).toNatClampNeg)), .int a1, .ref 76] (am_up μ 94 (((μ 85 ((a2).toNatClampNeg))).toNatClampNeg) (μ 86 ((a2).toNatClampNeg))) (fun _ => rfl) ?_
  obtain ⟨q3, h_q3, h⟩ := am_bind h
  refine am_Ex.ivk (na := 3) (b := 76) (As' := [.int a1, .int (μ 85 ((a2).toNatClampNeg))]) rfl rfl rfl rfl rfl rfl rfl rfl rfl (e_fKitchens_isTrusted (d + 1) h_q3) ?_
  refine am_Ex.same 63 [.ref 84, .int a1, .int a2, .int (μ 85 ((a2).toNatClampNeg)), w4] [.int q3.1] q3.2 rfl ?_
  rcases am_ite h with ⟨q4, h⟩ | ⟨q4, h⟩
  · refine am_Ex.if_eq_t rfl q4 ?_
    exact e_fLots_seeGood_90 d h
  · refine am_Ex.if_eq_f rfl q4 ?_
    refine am_Ex.seg 6 76 [.ref 84, .int a1, .int a2, .int (μ 85 ((a2).toNatClampNeg)), w4] [.int a2, .ref 86, .int (μ 85 ((a2).toNatClampNeg)), .ref 95] q3.2 (fun _ => rfl) ?_
    refine am_Ex.iald (v := (q3.2 86 ((a2).toNatClampNeg))) rfl rfl q1 rfl ?_
    refine am_Ex.iast (v2 := (q3.2 86 ((a2).toNatClampNeg))) (i2 := ((μ 85 ((a2).toNatClampNeg))).toNatClampNeg) rfl rfl q2 rfl rfl ?_
    refine am_Ex.seg 6 88 [.ref 84, .int a1, .int a2, .int (μ 85 ((a2).toNatClampNeg)), w4] [.int a2, .ref 86, .int (μ 85 ((a2).toNatClampNeg)), .ref 96] (am_up q3.2 95 (((μ 85 ((a2).toNatClampNeg))).toNatClampNeg) (q3.2 86 ((a2).toNatClampNeg))) (fun _ => rfl) ?_
    refine am_Ex.iald (v := (q3.2 86 ((a2).toNatClampNeg))) rfl rfl q1 ((am_up_k (by decide)).trans rfl) ?_
    refine am_Ex.iast (v2 := (q3.2 86 ((a2).toNatClampNeg))) (i2 := ((μ 85 ((a2).toNatClampNeg))).toNatClampNeg) rfl rfl q2 rfl rfl ?_
    exact e_fLots_seeGood_90 d h
set_option maxRecDepth 20000 in
theorem e_fLots_seeGood_2 (d : Nat) : ∀ n : Nat, ∀ {a1 : Int32} {a2 : Int32} {a3 : Int32} {w4 : Value} {μ : am_Mu} {out : am_Mu}, fLots_seeGood_2 n a1 a2 a3 μ = some out → am_Ex none (d + 2) 68 2 [.ref 84, .int a1, .int a2, .int a3, w4] [] am_SH μ (none, am_SH, out) := by
  intro n
  induction n with
  | zero => intros; contradiction
  | succ n ih =>
    have hk2 : ∀ {a1 : Int32} {a2 : Int32} {a3 : Int32} {w4 : Value} {μ : am_Mu} {out : am_Mu}, (fLots_seeGood_2 n) a1 a2 a3 μ = some out → am_Ex none (d + 2) 68 2 [.ref 84, .int a1, .int a2, .int a3, w4] [] am_SH μ (none, am_SH, out) := ih
    intro a1 a2 a3 w4 μ out h
    unfold fLots_seeGood_2 at h
    refine am_Ex.seg 2 5 [.ref 84, .int a1, .int a2, .int a3, w4] [.int 8, .int a3] μ (fun _ => rfl) ?_
    rcases am_ite h with ⟨q1, h⟩ | ⟨q1, h⟩
    · refine am_Ex.icmp_ge_t rfl q1 ?_
      exact e_fLots_seeGood_35 d h
    · refine am_Ex.icmp_ge_f rfl q1 ?_
      refine am_Ex.seg 4 14 [.ref 84, .int a1, .int a2, .int a3, w4] [.int 0, .int a3, .ref 94] μ (fun _ => rfl) ?_
      obtain ⟨q2, h⟩ := am_bif h
      refine am_Ex.iast (v2 := 0) (i2 := (a3).toNatClampNeg) rfl rfl q2 rfl rfl ?_
      refine am_Ex.seg 4 21 [.ref 84, .int a1, .int a2, .int a3, w4] [.int 0, .int a3, .ref 95] (am_up μ 94 ((a3).toNatClampNeg) 0) (fun _ => rfl) ?_
      refine am_Ex.iast (v2 := 0) (i2 := (a3).toNatClampNeg) rfl rfl q2 rfl rfl ?_
      refine am_Ex.seg 4 28 [.ref 84, .int a1, .int a2, .int a3, w4] [.int 0, .int a3, .ref 96] (am_up (am_up μ 94 ((a3).toNatClampNeg) 0) 95 ((a3).toNatClampNeg) 0) (fun _ => rfl) ?_
      refine am_Ex.iast (v2 := 0) (i2 := (a3).toNatClampNeg) rfl rfl q2 rfl rfl ?_
      refine am_Ex.seg 1 32 [.ref 84, .int a1, .int a2, .int (a3 + 1), w4] [] (am_up (am_up (am_up μ 94 ((a3).toNatClampNeg) 0) 95 ((a3).toNatClampNeg) 0) 96 ((a3).toNatClampNeg) 0) (fun _ => rfl) ?_
      refine am_Ex.goto rfl ?_
      exact hk2 h
set_option maxRecDepth 20000 in
theorem e_fLots_seeGood (d : Nat) : ∀ {a1 : Int32} {a2 : Int32} {μ : am_Mu} {out : am_Mu}, fLots_seeGood a1 a2 μ = some out → am_Ex none (d + 2) 68 0 [.ref 84, .int a1, .int a2, .null, .null] [] am_SH μ (none, am_SH, out) := by
  intro a1 a2 μ out h
  unfold fLots_seeGood at h
  refine am_Ex.seg 2 2 [.ref 84, .int a1, .int a2, .int 0, .null] [] μ (fun _ => rfl) ?_
  exact e_fLots_seeGood_2 d am_F h
def fMarks_unlike_8 : Nat → Nat → Nat → Int32 → Int32 → Int32 → am_Mu → Option (Int32 × am_Mu)
  | 0, _, _, _, _, _, _ => none
  | n + 1, a0, a1, a2, a3, a4, μ => (if ((a2 * 8) + 8) ≤ a4 then some (a3, μ) else (bif am_isMarks a0 then (bif am_inb a4 160 then (bif am_isMarks a1 then (fMarks_unlike_8 n) a0 a1 a2 (if a3 < (if 0 ≤ ((μ (a0 + 1) ((a4).toNatClampNeg)) - (μ (a1 + 1) ((a4).toNatClampNeg))) then ((μ (a0 + 1) ((a4).toNatClampNeg)) - (μ (a1 + 1) ((a4).toNatClampNeg))) else 0 - ((μ (a0 + 1) ((a4).toNatClampNeg)) - (μ (a1 + 1) ((a4).toNatClampNeg)))) then (if 0 ≤ ((μ (a0 + 1) ((a4).toNatClampNeg)) - (μ (a1 + 1) ((a4).toNatClampNeg))) then ((μ (a0 + 1) ((a4).toNatClampNeg)) - (μ (a1 + 1) ((a4).toNatClampNeg))) else 0 - ((μ (a0 + 1) ((a4).toNatClampNeg)) - (μ (a1 + 1) ((a4).toNatClampNeg)))) else a3) (a4 + 1) μ else none) else none) else none))
def fMarks_unlike (a0 : Nat) (a1 : Nat) (a2 : Int32) (μ : am_Mu) : Option (Int32 × am_Mu) := fMarks_unlike_8 am_F a0 a1 a2 0 (a2 * 8) μ
set_option maxRecDepth 20000 in
theorem e_fMarks_unlike_8 (d : Nat) : ∀ n : Nat, ∀ {a0 : Nat} {a1 : Nat} {a2 : Int32} {a3 : Int32} {a4 : Int32} {μ : am_Mu} {out : Int32 × am_Mu}, fMarks_unlike_8 n a0 a1 a2 a3 a4 μ = some out → am_Ex none (d + 1) 76 8 [.ref a0, .ref a1, .int a2, .int a3, .int a4] [] am_SH μ (some (.int out.1), am_SH, out.2) := by
  intro n
  induction n with
  | zero => intros; contradiction
  | succ n ih =>
    have hk8 : ∀ {a0 : Nat} {a1 : Nat} {a2 : Int32} {a3 : Int32} {a4 : Int32} {μ : am_Mu} {out : Int32 × am_Mu}, (fMarks_unlike_8 n) a0 a1 a2 a3 a4 μ = some out → am_Ex none (d + 1) 76 8 [.ref a0, .ref a1, .int a2, .int a3, .int a4] [] am_SH μ (some (.int out.1), am_SH, out.2) := ih
    intro a0 a1 a2 a3 a4 μ out h
    unfold fMarks_unlike_8 at h
    refine am_Ex.seg 6 17 [.ref a0, .ref a1, .int a2, .int a3, .int a4] [.int ((a2 * 8) + 8), .int a4] μ (fun _ => rfl) ?_
    rcases am_ite h with ⟨q1, h⟩ | ⟨q1, h⟩
    · refine am_Ex.icmp_ge_t rfl q1 ?_
      refine am_Ex.seg 1 50 [.ref a0, .ref a1, .int a2, .int a3, .int a4] [.int a3] μ (fun _ => rfl) ?_
      cases h
      exact am_Ex.iret rfl rfl
    · refine am_Ex.icmp_ge_f rfl q1 ?_
      obtain ⟨g_a0, h⟩ := am_bif h
      refine am_Ex.seg 2 22 [.ref a0, .ref a1, .int a2, .int a3, .int a4] [.ref a0, .int a3] μ (fun _ => rfl) ?_
      refine am_Ex.getref rfl (am_isMarks_0 g_a0) rfl rfl ?_
      refine am_Ex.seg 1 27 [.ref a0, .ref a1, .int a2, .int a3, .int a4] [.int a4, .ref (a0 + 1), .int a3] μ (fun _ => rfl) ?_
      obtain ⟨q2, h⟩ := am_bif h
      refine am_Ex.iald (v := (μ (a0 + 1) ((a4).toNatClampNeg))) rfl (am_isMarks_1 g_a0) q2 rfl ?_
      obtain ⟨g_a1, h⟩ := am_bif h
      refine am_Ex.seg 1 29 [.ref a0, .ref a1, .int a2, .int a3, .int a4] [.ref a1, .int (μ (a0 + 1) ((a4).toNatClampNeg)), .int a3] μ (fun _ => rfl) ?_
      refine am_Ex.getref rfl (am_isMarks_0 g_a1) rfl rfl ?_
      refine am_Ex.seg 1 34 [.ref a0, .ref a1, .int a2, .int a3, .int a4] [.int a4, .ref (a1 + 1), .int (μ (a0 + 1) ((a4).toNatClampNeg)), .int a3] μ (fun _ => rfl) ?_
      refine am_Ex.iald (v := (μ (a1 + 1) ((a4).toNatClampNeg))) rfl (am_isMarks_1 g_a1) q2 rfl ?_
      refine am_Ex.seg 1 36 [.ref a0, .ref a1, .int a2, .int a3, .int a4] [.int ((μ (a0 + 1) ((a4).toNatClampNeg)) - (μ (a1 + 1) ((a4).toNatClampNeg))), .int a3] μ (fun _ => rfl) ?_
      refine am_Ex.abs rfl rfl rfl ?_
      refine am_Ex.max rfl rfl rfl ?_
      refine am_Ex.seg 2 46 [.ref a0, .ref a1, .int a2, .int (if a3 < (if 0 ≤ ((μ (a0 + 1) ((a4).toNatClampNeg)) - (μ (a1 + 1) ((a4).toNatClampNeg))) then ((μ (a0 + 1) ((a4).toNatClampNeg)) - (μ (a1 + 1) ((a4).toNatClampNeg))) else 0 - ((μ (a0 + 1) ((a4).toNatClampNeg)) - (μ (a1 + 1) ((a4).toNatClampNeg)))) then (if 0 ≤ ((μ (a0 + 1) ((a4).toNatClampNeg)) - (μ (a1 + 1) ((a4).toNatClampNeg))) then ((μ (a0 + 1) ((a4).toNatClampNeg)) - (μ (a1 + 1) ((a4).toNatClampNeg))) else 0 - ((μ (a0 + 1) ((a4).toNatClampNeg)) - (μ (a1 + 1) ((a4).toNatClampNeg)))) else a3), .int (a4 + 1)] [] μ (fun _ => rfl) ?_
      refine am_Ex.goto rfl ?_
      exact hk8 h
set_option maxRecDepth 20000 in
theorem e_fMarks_unlike (d : Nat) : ∀ {a0 : Nat} {a1 : Nat} {a2 : Int32} {μ : am_Mu} {out : Int32 × am_Mu}, fMarks_unlike a0 a1 a2 μ = some out → am_Ex none (d + 1) 76 0 [.ref a0, .ref a1, .int a2, .null, .null] [] am_SH μ (some (.int out.1), am_SH, out.2) := by
  intro a0 a1 a2 μ out h
  unfold fMarks_unlike at h
  refine am_Ex.seg 6 8 [.ref a0, .ref a1, .int a2, .int 0, .int (a2 * 8)] [] μ (fun _ => rfl) ?_
  exact e_fMarks_unlike_8 d am_F h
def fTrace_otherwise (a1 : Int32) (μ : am_Mu) : Option (Int32 × am_Mu) := ((fMarks_unlike 58 62 a1 μ).bind fun q1 => some (q1.1, q1.2))
set_option maxRecDepth 20000 in
theorem e_fTrace_otherwise (d : Nat) : ∀ {a1 : Int32} {μ : am_Mu} {out : Int32 × am_Mu}, fTrace_otherwise a1 μ = some out → am_Ex none (d + 2) 81 0 [.ref 57, .int a1] [] am_SH μ (some (.int out.1), am_SH, out.2) := by
  intro a1 μ out h
  unfold fTrace_otherwise at h
  refine am_Ex.seg 5 9 [.ref 57, .int a1] [.int a1, .ref 62, .ref 58] μ (fun _ => rfl) ?_
  obtain ⟨q1, h_q1, h⟩ := am_bind h
  refine am_Ex.ivk (na := 3) (b := 58) (As' := [.ref 62, .int a1]) rfl rfl rfl rfl rfl rfl rfl rfl rfl (e_fMarks_unlike (d + 0) h_q1) ?_
  refine am_Ex.same 12 [.ref 57, .int a1] [.int q1.1] q1.2 rfl ?_
  cases h
  exact am_Ex.iret rfl rfl
def fTrace_noteThing (a1 : Int32) (a2 : Int32) (a3 : Int32) (μ : am_Mu) : Option (am_Mu) := (if a1 = a3 then some μ else (bif am_inb a1 20 then (if ¬ (μ 66 ((a1).toNatClampNeg)) = (-1) then some μ else ((fTrace_otherwise a1 μ).bind fun q4 => (if q4.1 ≤ 0 then some q4.2 else some (am_up q4.2 66 ((a1).toNatClampNeg) a2)))) else none))
set_option maxRecDepth 20000 in
theorem e_fTrace_noteThing (d : Nat) : ∀ {a1 : Int32} {a2 : Int32} {a3 : Int32} {μ : am_Mu} {out : am_Mu}, fTrace_noteThing a1 a2 a3 μ = some out → am_Ex none (d + 3) 80 0 [.ref 57, .int a1, .int a2, .int a3] [] am_SH μ (none, am_SH, out) := by
  intro a1 a2 a3 μ out h
  unfold fTrace_noteThing at h
  refine am_Ex.seg 2 2 [.ref 57, .int a1, .int a2, .int a3] [.int a3, .int a1] μ (fun _ => rfl) ?_
  rcases am_ite h with ⟨q1, h⟩ | ⟨q1, h⟩
  · refine am_Ex.icmp_eq_t rfl q1 ?_
    cases h
    exact am_Ex.vret rfl rfl
  · refine am_Ex.icmp_eq_f rfl q1 ?_
    refine am_Ex.seg 3 10 [.ref 57, .int a1, .int a2, .int a3] [.int a1, .ref 66] μ (fun _ => rfl) ?_
    obtain ⟨q2, h⟩ := am_bif h
    refine am_Ex.iald (v := (μ 66 ((a1).toNatClampNeg))) rfl rfl q2 rfl ?_
    refine am_Ex.seg 1 12 [.ref 57, .int a1, .int a2, .int a3] [.int (-1), .int (μ 66 ((a1).toNatClampNeg))] μ (fun _ => rfl) ?_
    rcases am_ite h with ⟨q3, h⟩ | ⟨q3, h⟩
    · refine am_Ex.icmp_ne_t rfl q3 ?_
      cases h
      exact am_Ex.vret rfl rfl
    · refine am_Ex.icmp_ne_f rfl (Decidable.not_not.mp q3) ?_
      refine am_Ex.seg 2 17 [.ref 57, .int a1, .int a2, .int a3] [.int a1, .ref 57] μ (fun _ => rfl) ?_
      obtain ⟨q4, h_q4, h⟩ := am_bind h
      refine am_Ex.ivk (na := 2) (b := 57) (As' := [.int a1]) rfl rfl rfl rfl rfl rfl rfl rfl rfl (e_fTrace_otherwise (d + 0) h_q4) ?_
      refine am_Ex.same 20 [.ref 57, .int a1, .int a2, .int a3] [.int q4.1] q4.2 rfl ?_
      rcases am_ite h with ⟨q5, h⟩ | ⟨q5, h⟩
      · refine am_Ex.if_le_t rfl q5 ?_
        cases h
        exact am_Ex.vret rfl rfl
      · refine am_Ex.if_le_f rfl q5 ?_
        refine am_Ex.seg 4 29 [.ref 57, .int a1, .int a2, .int a3] [.int a2, .int a1, .ref 66] q4.2 (fun _ => rfl) ?_
        refine am_Ex.iast (v2 := a2) (i2 := (a1).toNatClampNeg) rfl rfl q2 rfl rfl ?_
        cases h
        exact am_Ex.vret rfl rfl
def fTrace_noteReached (a1 : Int32) (a2 : Int32) (μ : am_Mu) : Option (am_Mu) := (bif am_inb a1 200 then ((fTrace_noteThing (μ 16 ((a1).toNatClampNeg)) a1 a2 μ).bind fun q2 => (if (q2 17 ((a1).toNatClampNeg)) = (-1) then some q2 else ((fTrace_noteThing (q2 17 ((a1).toNatClampNeg)) a1 a2 q2).bind fun q4 => some q4))) else none)
set_option maxRecDepth 20000 in
theorem e_fTrace_noteReached (d : Nat) : ∀ {a1 : Int32} {a2 : Int32} {μ : am_Mu} {out : am_Mu}, fTrace_noteReached a1 a2 μ = some out → am_Ex none (d + 4) 79 0 [.ref 57, .int a1, .int a2] [] am_SH μ (none, am_SH, out) := by
  intro a1 a2 μ out h
  unfold fTrace_noteReached at h
  refine am_Ex.seg 5 9 [.ref 57, .int a1, .int a2] [.int a1, .ref 16, .ref 57] μ (fun _ => rfl) ?_
  obtain ⟨q1, h⟩ := am_bif h
  refine am_Ex.iald (v := (μ 16 ((a1).toNatClampNeg))) rfl rfl q1 rfl ?_
  refine am_Ex.seg 2 12 [.ref 57, .int a1, .int a2] [.int a2, .int a1, .int (μ 16 ((a1).toNatClampNeg)), .ref 57] μ (fun _ => rfl) ?_
  obtain ⟨q2, h_q2, h⟩ := am_bind h
  refine am_Ex.ivk (na := 4) (b := 57) (As' := [.int (μ 16 ((a1).toNatClampNeg)), .int a1, .int a2]) rfl rfl rfl rfl rfl rfl rfl rfl rfl (e_fTrace_noteThing (d + 0) h_q2) ?_
  refine am_Ex.same 15 [.ref 57, .int a1, .int a2] [] q2 rfl ?_
  refine am_Ex.seg 4 23 [.ref 57, .int a1, .int a2] [.int a1, .ref 17] q2 (fun _ => rfl) ?_
  refine am_Ex.iald (v := (q2 17 ((a1).toNatClampNeg))) rfl rfl q1 rfl ?_
  refine am_Ex.seg 1 25 [.ref 57, .int a1, .int a2] [.int (-1), .int (q2 17 ((a1).toNatClampNeg))] q2 (fun _ => rfl) ?_
  rcases am_ite h with ⟨q3, h⟩ | ⟨q3, h⟩
  · refine am_Ex.icmp_eq_t rfl q3 ?_
    cases h
    exact am_Ex.vret rfl rfl
  · refine am_Ex.icmp_eq_f rfl q3 ?_
    refine am_Ex.seg 5 37 [.ref 57, .int a1, .int a2] [.int a1, .ref 17, .ref 57] q2 (fun _ => rfl) ?_
    refine am_Ex.iald (v := (q2 17 ((a1).toNatClampNeg))) rfl rfl q1 rfl ?_
    refine am_Ex.seg 2 40 [.ref 57, .int a1, .int a2] [.int a2, .int a1, .int (q2 17 ((a1).toNatClampNeg)), .ref 57] q2 (fun _ => rfl) ?_
    obtain ⟨q4, h_q4, h⟩ := am_bind h
    refine am_Ex.ivk (na := 4) (b := 57) (As' := [.int (q2 17 ((a1).toNatClampNeg)), .int a1, .int a2]) rfl rfl rfl rfl rfl rfl rfl rfl rfl (e_fTrace_noteThing (d + 0) h_q4) ?_
    refine am_Ex.same 43 [.ref 57, .int a1, .int a2] [] q4 rfl ?_
    cases h
    exact am_Ex.vret rfl rfl
def fTrace_follow_172 (k54 : Int32 → Int32 → Int32 → Int32 → Int32 → am_Mu → Option (am_Mu)) (a1 : Int32) (a2 : Int32) (a3 : Int32) (a4 : Int32) (a5 : Int32) (μ : am_Mu) : Option (am_Mu) := k54 a1 a2 a3 a4 (a5 + 1) μ
def fTrace_follow_142 (k54 : Int32 → Int32 → Int32 → Int32 → Int32 → am_Mu → Option (am_Mu)) (a1 : Int32) (a2 : Int32) (a3 : Int32) (a4 : Int32) (a5 : Int32) (a6 : Int32) (μ : am_Mu) : Option (am_Mu) := ((fLedger_isMistake a6 μ).bind fun q1 => (if ¬ q1.1 = 0 then fTrace_follow_172 k54 a1 a2 a3 a4 a5 q1.2 else (bif am_inb a1 10 then ((fTrace_noteReached (a6 - 10) (q1.2 22 ((a1).toNatClampNeg)) q1.2).bind fun q4 => fTrace_follow_172 k54 a1 a2 a3 a4 a5 q4) else none)))
def fTrace_follow_54 : Nat → Int32 → Int32 → Int32 → Int32 → Int32 → am_Mu → Option (am_Mu)
  | 0, _, _, _, _, _, _ => none
  | n + 1, a1, a2, a3, a4, a5, μ => (if (μ 13 13) ≤ a5 then some μ else (bif am_inb a5 210 then ((fLedger_minuteOf (μ 26 ((a5).toNatClampNeg)) μ).bind fun q3 => (if a3 < q3.1 then fTrace_follow_172 (fTrace_follow_54 n) a1 a2 a3 a4 a5 q3.2 else ((fLedger_isKnown (μ 26 ((a5).toNatClampNeg)) a4 q3.2).bind fun q5 => (if ¬ q5.1 = 0 then ((fJudge_play 58 a2 (μ 26 ((a5).toNatClampNeg)) q5.2).bind fun q7 => (if (μ 26 ((a5).toNatClampNeg)) = a1 then fTrace_follow_142 (fTrace_follow_54 n) a1 a2 a3 a4 a5 (μ 26 ((a5).toNatClampNeg)) q7 else ((fJudge_play 62 a2 (μ 26 ((a5).toNatClampNeg)) q7).bind fun q9 => fTrace_follow_142 (fTrace_follow_54 n) a1 a2 a3 a4 a5 (μ 26 ((a5).toNatClampNeg)) q9))) else fTrace_follow_172 (fTrace_follow_54 n) a1 a2 a3 a4 a5 q5.2)))) else none))
def fTrace_follow_51 (a1 : Int32) (a2 : Int32) (a3 : Int32) (a4 : Int32) (μ : am_Mu) : Option (am_Mu) := fTrace_follow_54 am_F a1 a2 a3 a4 0 μ
def fTrace_follow_25 : Nat → Int32 → Int32 → Int32 → Int32 → Int32 → am_Mu → Option (am_Mu)
  | 0, _, _, _, _, _, _ => none
  | n + 1, a1, a2, a3, a4, a5, μ => (if (μ 13 14) ≤ a5 then fTrace_follow_51 a1 a2 a3 a4 μ else (bif am_inb a5 20 then (fTrace_follow_25 n) a1 a2 a3 a4 (a5 + 1) (am_up μ 66 ((a5).toNatClampNeg) (-1)) else none))
def fTrace_follow (a1 : Int32) (a2 : Int32) (a3 : Int32) (a4 : Int32) (μ : am_Mu) : Option (am_Mu) := ((fMarks_begin 58 μ).bind fun q1 => ((fMarks_begin 62 q1).bind fun q2 => fTrace_follow_25 am_F a1 a2 a3 a4 0 q2))
set_option maxRecDepth 20000 in
theorem e_fTrace_follow_172 (d : Nat) {k54 : Int32 → Int32 → Int32 → Int32 → Int32 → am_Mu → Option (am_Mu)} (hk54 : ∀ {a1 : Int32} {a2 : Int32} {a3 : Int32} {a4 : Int32} {a5 : Int32} {w6 : Value} {μ : am_Mu} {out : am_Mu}, k54 a1 a2 a3 a4 a5 μ = some out → am_Ex none (d + 5) 78 54 [.ref 57, .int a1, .int a2, .int a3, .int a4, .int a5, w6] [] am_SH μ (none, am_SH, out)) : ∀ {a1 : Int32} {a2 : Int32} {a3 : Int32} {a4 : Int32} {a5 : Int32} {w6 : Value} {μ : am_Mu} {out : am_Mu}, fTrace_follow_172 k54 a1 a2 a3 a4 a5 μ = some out → am_Ex none (d + 5) 78 172 [.ref 57, .int a1, .int a2, .int a3, .int a4, .int a5, w6] [] am_SH μ (none, am_SH, out) := by
  intro a1 a2 a3 a4 a5 w6 μ out h
  unfold fTrace_follow_172 at h
  refine am_Ex.seg 1 175 [.ref 57, .int a1, .int a2, .int a3, .int a4, .int (a5 + 1), w6] [] μ (fun _ => rfl) ?_
  refine am_Ex.goto rfl ?_
  exact hk54 h
set_option maxRecDepth 20000 in
theorem e_fTrace_follow_142 (d : Nat) {k54 : Int32 → Int32 → Int32 → Int32 → Int32 → am_Mu → Option (am_Mu)} (hk54 : ∀ {a1 : Int32} {a2 : Int32} {a3 : Int32} {a4 : Int32} {a5 : Int32} {w6 : Value} {μ : am_Mu} {out : am_Mu}, k54 a1 a2 a3 a4 a5 μ = some out → am_Ex none (d + 5) 78 54 [.ref 57, .int a1, .int a2, .int a3, .int a4, .int a5, w6] [] am_SH μ (none, am_SH, out)) : ∀ {a1 : Int32} {a2 : Int32} {a3 : Int32} {a4 : Int32} {a5 : Int32} {a6 : Int32} {μ : am_Mu} {out : am_Mu}, fTrace_follow_142 k54 a1 a2 a3 a4 a5 a6 μ = some out → am_Ex none (d + 5) 78 142 [.ref 57, .int a1, .int a2, .int a3, .int a4, .int a5, .int a6] [] am_SH μ (none, am_SH, out) := by
  intro a1 a2 a3 a4 a5 a6 μ out h
  unfold fTrace_follow_142 at h
  refine am_Ex.seg 3 148 [.ref 57, .int a1, .int a2, .int a3, .int a4, .int a5, .int a6] [.int a6, .ref 13] μ (fun _ => rfl) ?_
  obtain ⟨q1, h_q1, h⟩ := am_bind h
  refine am_Ex.ivk (na := 2) (b := 13) (As' := [.int a6]) rfl rfl rfl rfl rfl rfl rfl rfl rfl (e_fLedger_isMistake (d + 4) h_q1) ?_
  refine am_Ex.same 151 [.ref 57, .int a1, .int a2, .int a3, .int a4, .int a5, .int a6] [.int q1.1] q1.2 rfl ?_
  rcases am_ite h with ⟨q2, h⟩ | ⟨q2, h⟩
  · refine am_Ex.if_ne_t rfl q2 ?_
    exact e_fTrace_follow_172 d hk54 h
  · refine am_Ex.if_ne_f rfl (Decidable.not_not.mp q2) ?_
    refine am_Ex.seg 8 168 [.ref 57, .int a1, .int a2, .int a3, .int a4, .int a5, .int a6] [.int a1, .ref 22, .int (a6 - 10), .ref 57] q1.2 (fun _ => rfl) ?_
    obtain ⟨q3, h⟩ := am_bif h
    refine am_Ex.iald (v := (q1.2 22 ((a1).toNatClampNeg))) rfl rfl q3 rfl ?_
    obtain ⟨q4, h_q4, h⟩ := am_bind h
    refine am_Ex.ivk (na := 3) (b := 57) (As' := [.int (a6 - 10), .int (q1.2 22 ((a1).toNatClampNeg))]) rfl rfl rfl rfl rfl rfl rfl rfl rfl (e_fTrace_noteReached (d + 0) h_q4) ?_
    refine am_Ex.same 172 [.ref 57, .int a1, .int a2, .int a3, .int a4, .int a5, .int a6] [] q4 rfl ?_
    exact e_fTrace_follow_172 d hk54 h
set_option maxRecDepth 20000 in
theorem e_fTrace_follow_54 (d : Nat) : ∀ n : Nat, ∀ {a1 : Int32} {a2 : Int32} {a3 : Int32} {a4 : Int32} {a5 : Int32} {w6 : Value} {μ : am_Mu} {out : am_Mu}, fTrace_follow_54 n a1 a2 a3 a4 a5 μ = some out → am_Ex none (d + 5) 78 54 [.ref 57, .int a1, .int a2, .int a3, .int a4, .int a5, w6] [] am_SH μ (none, am_SH, out) := by
  intro n
  induction n with
  | zero => intros; contradiction
  | succ n ih =>
    have hk54 : ∀ {a1 : Int32} {a2 : Int32} {a3 : Int32} {a4 : Int32} {a5 : Int32} {w6 : Value} {μ : am_Mu} {out : am_Mu}, (fTrace_follow_54 n) a1 a2 a3 a4 a5 μ = some out → am_Ex none (d + 5) 78 54 [.ref 57, .int a1, .int a2, .int a3, .int a4, .int a5, w6] [] am_SH μ (none, am_SH, out) := ih
    intro a1 a2 a3 a4 a5 w6 μ out h
    unfold fTrace_follow_54 at h
    refine am_Ex.seg 4 63 [.ref 57, .int a1, .int a2, .int a3, .int a4, .int a5, w6] [.int (μ 13 13), .int a5] μ (fun _ => rfl) ?_
    rcases am_ite h with ⟨q1, h⟩ | ⟨q1, h⟩
    · refine am_Ex.icmp_ge_t rfl q1 ?_
      cases h
      exact am_Ex.vret rfl rfl
    · refine am_Ex.icmp_ge_f rfl q1 ?_
      refine am_Ex.seg 4 75 [.ref 57, .int a1, .int a2, .int a3, .int a4, .int a5, w6] [.int a5, .ref 26] μ (fun _ => rfl) ?_
      obtain ⟨q2, h⟩ := am_bif h
      refine am_Ex.iald (v := (μ 26 ((a5).toNatClampNeg))) rfl rfl q2 rfl ?_
      refine am_Ex.seg 4 84 [.ref 57, .int a1, .int a2, .int a3, .int a4, .int a5, .int (μ 26 ((a5).toNatClampNeg))] [.int (μ 26 ((a5).toNatClampNeg)), .ref 13] μ (fun _ => rfl) ?_
      obtain ⟨q3, h_q3, h⟩ := am_bind h
      refine am_Ex.ivk (na := 2) (b := 13) (As' := [.int (μ 26 ((a5).toNatClampNeg))]) rfl rfl rfl rfl rfl rfl rfl rfl rfl (e_fLedger_minuteOf (d + 3) h_q3) ?_
      refine am_Ex.same 87 [.ref 57, .int a1, .int a2, .int a3, .int a4, .int a5, .int (μ 26 ((a5).toNatClampNeg))] [.int q3.1] q3.2 rfl ?_
      refine am_Ex.seg 1 88 [.ref 57, .int a1, .int a2, .int a3, .int a4, .int a5, .int (μ 26 ((a5).toNatClampNeg))] [.int a3, .int q3.1] q3.2 (fun _ => rfl) ?_
      rcases am_ite h with ⟨q4, h⟩ | ⟨q4, h⟩
      · refine am_Ex.icmp_gt_t rfl q4 ?_
        exact e_fTrace_follow_172 d hk54 h
      · refine am_Ex.icmp_gt_f rfl q4 ?_
        refine am_Ex.seg 4 99 [.ref 57, .int a1, .int a2, .int a3, .int a4, .int a5, .int (μ 26 ((a5).toNatClampNeg))] [.int a4, .int (μ 26 ((a5).toNatClampNeg)), .ref 13] q3.2 (fun _ => rfl) ?_
        obtain ⟨q5, h_q5, h⟩ := am_bind h
        refine am_Ex.ivk (na := 3) (b := 13) (As' := [.int (μ 26 ((a5).toNatClampNeg)), .int a4]) rfl rfl rfl rfl rfl rfl rfl rfl rfl (e_fLedger_isKnown (d + 3) h_q5) ?_
        refine am_Ex.same 102 [.ref 57, .int a1, .int a2, .int a3, .int a4, .int a5, .int (μ 26 ((a5).toNatClampNeg))] [.int q5.1] q5.2 rfl ?_
        rcases am_ite h with ⟨q6, h⟩ | ⟨q6, h⟩
        · refine am_Ex.if_ne_t rfl q6 ?_
          refine am_Ex.seg 6 119 [.ref 57, .int a1, .int a2, .int a3, .int a4, .int a5, .int (μ 26 ((a5).toNatClampNeg))] [.int (μ 26 ((a5).toNatClampNeg)), .int a2, .ref 58, .ref 27] q5.2 (fun _ => rfl) ?_
          obtain ⟨q7, h_q7, h⟩ := am_bind h
          refine am_Ex.ivk (na := 4) (b := 27) (As' := [.ref 58, .int a2, .int (μ 26 ((a5).toNatClampNeg))]) rfl rfl rfl rfl rfl rfl rfl rfl rfl (e_fJudge_play (d + 0) h_q7) ?_
          refine am_Ex.same 122 [.ref 57, .int a1, .int a2, .int a3, .int a4, .int a5, .int (μ 26 ((a5).toNatClampNeg))] [] q7 rfl ?_
          refine am_Ex.seg 2 125 [.ref 57, .int a1, .int a2, .int a3, .int a4, .int a5, .int (μ 26 ((a5).toNatClampNeg))] [.int a1, .int (μ 26 ((a5).toNatClampNeg))] q7 (fun _ => rfl) ?_
          rcases am_ite h with ⟨q8, h⟩ | ⟨q8, h⟩
          · refine am_Ex.icmp_eq_t rfl q8 ?_
            exact e_fTrace_follow_142 d hk54 h
          · refine am_Ex.icmp_eq_f rfl q8 ?_
            refine am_Ex.seg 6 139 [.ref 57, .int a1, .int a2, .int a3, .int a4, .int a5, .int (μ 26 ((a5).toNatClampNeg))] [.int (μ 26 ((a5).toNatClampNeg)), .int a2, .ref 62, .ref 27] q7 (fun _ => rfl) ?_
            obtain ⟨q9, h_q9, h⟩ := am_bind h
            refine am_Ex.ivk (na := 4) (b := 27) (As' := [.ref 62, .int a2, .int (μ 26 ((a5).toNatClampNeg))]) rfl rfl rfl rfl rfl rfl rfl rfl rfl (e_fJudge_play (d + 0) h_q9) ?_
            refine am_Ex.same 142 [.ref 57, .int a1, .int a2, .int a3, .int a4, .int a5, .int (μ 26 ((a5).toNatClampNeg))] [] q9 rfl ?_
            exact e_fTrace_follow_142 d hk54 h
        · refine am_Ex.if_ne_f rfl (Decidable.not_not.mp q6) ?_
          refine am_Ex.goto rfl ?_
          exact e_fTrace_follow_172 d hk54 h
set_option maxRecDepth 20000 in
theorem e_fTrace_follow_51 (d : Nat) : ∀ {a1 : Int32} {a2 : Int32} {a3 : Int32} {a4 : Int32} {w5 w6 : Value} {μ : am_Mu} {out : am_Mu}, fTrace_follow_51 a1 a2 a3 a4 μ = some out → am_Ex none (d + 5) 78 51 [.ref 57, .int a1, .int a2, .int a3, .int a4, w5, w6] [] am_SH μ (none, am_SH, out) := by
  intro a1 a2 a3 a4 w5 w6 μ out h
  unfold fTrace_follow_51 at h
  refine am_Ex.seg 2 54 [.ref 57, .int a1, .int a2, .int a3, .int a4, .int 0, w6] [] μ (fun _ => rfl) ?_
  exact e_fTrace_follow_54 d am_F h
set_option maxRecDepth 20000 in
theorem e_fTrace_follow_25 (d : Nat) : ∀ n : Nat, ∀ {a1 : Int32} {a2 : Int32} {a3 : Int32} {a4 : Int32} {a5 : Int32} {w6 : Value} {μ : am_Mu} {out : am_Mu}, fTrace_follow_25 n a1 a2 a3 a4 a5 μ = some out → am_Ex none (d + 5) 78 25 [.ref 57, .int a1, .int a2, .int a3, .int a4, .int a5, w6] [] am_SH μ (none, am_SH, out) := by
  intro n
  induction n with
  | zero => intros; contradiction
  | succ n ih =>
    have hk25 : ∀ {a1 : Int32} {a2 : Int32} {a3 : Int32} {a4 : Int32} {a5 : Int32} {w6 : Value} {μ : am_Mu} {out : am_Mu}, (fTrace_follow_25 n) a1 a2 a3 a4 a5 μ = some out → am_Ex none (d + 5) 78 25 [.ref 57, .int a1, .int a2, .int a3, .int a4, .int a5, w6] [] am_SH μ (none, am_SH, out) := ih
    intro a1 a2 a3 a4 a5 w6 μ out h
    unfold fTrace_follow_25 at h
    refine am_Ex.seg 4 34 [.ref 57, .int a1, .int a2, .int a3, .int a4, .int a5, w6] [.int (μ 13 14), .int a5] μ (fun _ => rfl) ?_
    rcases am_ite h with ⟨q1, h⟩ | ⟨q1, h⟩
    · refine am_Ex.icmp_ge_t rfl q1 ?_
      exact e_fTrace_follow_51 d h
    · refine am_Ex.icmp_ge_f rfl q1 ?_
      refine am_Ex.seg 4 44 [.ref 57, .int a1, .int a2, .int a3, .int a4, .int a5, w6] [.int (-1), .int a5, .ref 66] μ (fun _ => rfl) ?_
      obtain ⟨q2, h⟩ := am_bif h
      refine am_Ex.iast (v2 := (-1)) (i2 := (a5).toNatClampNeg) rfl rfl q2 rfl rfl ?_
      refine am_Ex.seg 1 48 [.ref 57, .int a1, .int a2, .int a3, .int a4, .int (a5 + 1), w6] [] (am_up μ 66 ((a5).toNatClampNeg) (-1)) (fun _ => rfl) ?_
      refine am_Ex.goto rfl ?_
      exact hk25 h
set_option maxRecDepth 20000 in
theorem e_fTrace_follow (d : Nat) : ∀ {a1 : Int32} {a2 : Int32} {a3 : Int32} {a4 : Int32} {μ : am_Mu} {out : am_Mu}, fTrace_follow a1 a2 a3 a4 μ = some out → am_Ex none (d + 5) 78 0 [.ref 57, .int a1, .int a2, .int a3, .int a4, .null, .null] [] am_SH μ (none, am_SH, out) := by
  intro a1 a2 a3 a4 μ out h
  unfold fTrace_follow at h
  refine am_Ex.seg 4 8 [.ref 57, .int a1, .int a2, .int a3, .int a4, .null, .null] [.ref 13, .ref 58] μ (fun _ => rfl) ?_
  obtain ⟨q1, h_q1, h⟩ := am_bind h
  refine am_Ex.ivk (na := 2) (b := 58) (As' := [.ref 13]) rfl rfl rfl rfl rfl rfl rfl rfl rfl (e_fMarks_begin (d + 3) h_q1) ?_
  refine am_Ex.same 11 [.ref 57, .int a1, .int a2, .int a3, .int a4, .null, .null] [] q1 rfl ?_
  refine am_Ex.seg 4 19 [.ref 57, .int a1, .int a2, .int a3, .int a4, .null, .null] [.ref 13, .ref 62] q1 (fun _ => rfl) ?_
  obtain ⟨q2, h_q2, h⟩ := am_bind h
  refine am_Ex.ivk (na := 2) (b := 62) (As' := [.ref 13]) rfl rfl rfl rfl rfl rfl rfl rfl rfl (e_fMarks_begin (d + 3) h_q2) ?_
  refine am_Ex.same 22 [.ref 57, .int a1, .int a2, .int a3, .int a4, .null, .null] [] q2 rfl ?_
  refine am_Ex.seg 2 25 [.ref 57, .int a1, .int a2, .int a3, .int a4, .int 0, .null] [] q2 (fun _ => rfl) ?_
  exact e_fTrace_follow_25 d am_F h
def fTrace_isStep_2 : Nat → Int32 → Int32 → Int32 → am_Mu → Option (Int32 × am_Mu)
  | 0, _, _, _, _ => none
  | n + 1, a1, a2, a3, μ => (if a2 ≤ a3 then some (0, μ) else (bif am_inb a3 20 then (if ¬ (μ 67 ((a3).toNatClampNeg)) = a1 then (fTrace_isStep_2 n) a1 a2 (a3 + 1) μ else some (1, μ)) else none))
def fTrace_isStep (a1 : Int32) (a2 : Int32) (μ : am_Mu) : Option (Int32 × am_Mu) := fTrace_isStep_2 am_F a1 a2 0 μ
set_option maxRecDepth 20000 in
theorem e_fTrace_isStep_2 (d : Nat) : ∀ n : Nat, ∀ {a1 : Int32} {a2 : Int32} {a3 : Int32} {μ : am_Mu} {out : Int32 × am_Mu}, fTrace_isStep_2 n a1 a2 a3 μ = some out → am_Ex none (d + 0) 83 2 [.ref 57, .int a1, .int a2, .int a3] [] am_SH μ (some (.int out.1), am_SH, out.2) := by
  intro n
  induction n with
  | zero => intros; contradiction
  | succ n ih =>
    have hk2 : ∀ {a1 : Int32} {a2 : Int32} {a3 : Int32} {μ : am_Mu} {out : Int32 × am_Mu}, (fTrace_isStep_2 n) a1 a2 a3 μ = some out → am_Ex none (d + 0) 83 2 [.ref 57, .int a1, .int a2, .int a3] [] am_SH μ (some (.int out.1), am_SH, out.2) := ih
    intro a1 a2 a3 μ out h
    unfold fTrace_isStep_2 at h
    refine am_Ex.seg 2 4 [.ref 57, .int a1, .int a2, .int a3] [.int a2, .int a3] μ (fun _ => rfl) ?_
    rcases am_ite h with ⟨q1, h⟩ | ⟨q1, h⟩
    · refine am_Ex.icmp_ge_t rfl q1 ?_
      refine am_Ex.seg 1 26 [.ref 57, .int a1, .int a2, .int a3] [.int 0] μ (fun _ => rfl) ?_
      cases h
      exact am_Ex.zret rfl rfl (by decide)
    · refine am_Ex.icmp_ge_f rfl q1 ?_
      refine am_Ex.seg 3 12 [.ref 57, .int a1, .int a2, .int a3] [.int a3, .ref 67] μ (fun _ => rfl) ?_
      obtain ⟨q2, h⟩ := am_bif h
      refine am_Ex.iald (v := (μ 67 ((a3).toNatClampNeg))) rfl rfl q2 rfl ?_
      refine am_Ex.seg 1 14 [.ref 57, .int a1, .int a2, .int a3] [.int a1, .int (μ 67 ((a3).toNatClampNeg))] μ (fun _ => rfl) ?_
      rcases am_ite h with ⟨q3, h⟩ | ⟨q3, h⟩
      · refine am_Ex.icmp_ne_t rfl q3 ?_
        refine am_Ex.seg 1 22 [.ref 57, .int a1, .int a2, .int (a3 + 1)] [] μ (fun _ => rfl) ?_
        refine am_Ex.goto rfl ?_
        exact hk2 h
      · refine am_Ex.icmp_ne_f rfl (Decidable.not_not.mp q3) ?_
        refine am_Ex.seg 1 18 [.ref 57, .int a1, .int a2, .int a3] [.int 1] μ (fun _ => rfl) ?_
        cases h
        exact am_Ex.zret rfl rfl (by decide)
set_option maxRecDepth 20000 in
theorem e_fTrace_isStep (d : Nat) : ∀ {a1 : Int32} {a2 : Int32} {μ : am_Mu} {out : Int32 × am_Mu}, fTrace_isStep a1 a2 μ = some out → am_Ex none (d + 0) 83 0 [.ref 57, .int a1, .int a2, .null] [] am_SH μ (some (.int out.1), am_SH, out.2) := by
  intro a1 a2 μ out h
  unfold fTrace_isStep at h
  refine am_Ex.seg 2 2 [.ref 57, .int a1, .int a2, .int 0] [] μ (fun _ => rfl) ?_
  exact e_fTrace_isStep_2 d am_F h
def fTrace_walkBack_109 (k36 : Int32 → Int32 → Int32 → Int32 → am_Mu → Option (Int32 × am_Mu)) (a3 : Int32) (a4 : Int32) (a6 : Int32) (s0 : Int32) (μ : am_Mu) : Option (Int32 × am_Mu) := k36 a3 a4 s0 (a6 + 1) μ
def fTrace_walkBack_89 (k36 : Int32 → Int32 → Int32 → Int32 → am_Mu → Option (Int32 × am_Mu)) (a3 : Int32) (a4 : Int32) (a6 : Int32) (μ : am_Mu) : Option (Int32 × am_Mu) := fTrace_walkBack_109 k36 a3 a4 a6 (-1) μ
def fTrace_walkBack_36 : Nat → Int32 → Int32 → Int32 → Int32 → am_Mu → Option (Int32 × am_Mu)
  | 0, _, _, _, _, _ => none
  | n + 1, a3, a4, a5, a6, μ => (if 20 ≤ a6 then some (a4, μ) else (if a5 = (-1) then some (a4, μ) else ((fTrace_isStep a5 a4 μ).bind fun q3 => (if ¬ q3.1 = 0 then some (a4, q3.2) else (bif am_inb a4 20 then (if a5 = a3 then fTrace_walkBack_89 (fTrace_walkBack_36 n) a3 (a4 + 1) a6 (am_up q3.2 67 ((a4).toNatClampNeg) a5) else (bif am_inb a5 20 then (if ¬ (q3.2 66 ((a5).toNatClampNeg)) = (-1) then ((fLedger_otherThing (q3.2 66 ((a5).toNatClampNeg)) a5 (am_up q3.2 67 ((a4).toNatClampNeg) a5)).bind fun q9 => fTrace_walkBack_109 (fTrace_walkBack_36 n) a3 (a4 + 1) a6 q9.1 q9.2) else fTrace_walkBack_89 (fTrace_walkBack_36 n) a3 (a4 + 1) a6 (am_up q3.2 67 ((a4).toNatClampNeg) a5)) else none)) else none)))))
def fTrace_walkBack_27 (a2 : Int32) (a3 : Int32) (μ : am_Mu) : Option (Int32 × am_Mu) := fTrace_walkBack_36 am_F a3 0 a2 0 μ
def fTrace_walkBack (a1 : Int32) (a2 : Int32) (μ : am_Mu) : Option (Int32 × am_Mu) := (bif am_inb a1 10 then (if a2 = (μ 22 ((a1).toNatClampNeg)) then fTrace_walkBack_27 a2 (μ 22 ((a1).toNatClampNeg)) μ else (bif am_inb a2 20 then (if ¬ (μ 66 ((a2).toNatClampNeg)) = (-1) then fTrace_walkBack_27 a2 (μ 22 ((a1).toNatClampNeg)) μ else some (0, μ)) else none)) else none)
set_option maxRecDepth 20000 in
theorem e_fTrace_walkBack_109 (d : Nat) {k36 : Int32 → Int32 → Int32 → Int32 → am_Mu → Option (Int32 × am_Mu)} (hk36 : ∀ {a3 : Int32} {a4 : Int32} {a5 : Int32} {a6 : Int32} {w1 w2 : Value} {μ : am_Mu} {out : Int32 × am_Mu}, k36 a3 a4 a5 a6 μ = some out → am_Ex none (d + 1) 82 36 [.ref 57, w1, w2, .int a3, .int a4, .int a5, .int a6] [] am_SH μ (some (.int out.1), am_SH, out.2)) : ∀ {a3 : Int32} {a4 : Int32} {a6 : Int32} {s0 : Int32} {w1 w2 w5 : Value} {μ : am_Mu} {out : Int32 × am_Mu}, fTrace_walkBack_109 k36 a3 a4 a6 s0 μ = some out → am_Ex none (d + 1) 82 109 [.ref 57, w1, w2, .int a3, .int a4, w5, .int a6] [.int s0] am_SH μ (some (.int out.1), am_SH, out.2) := by
  intro a3 a4 a6 s0 w1 w2 w5 μ out h
  unfold fTrace_walkBack_109 at h
  refine am_Ex.seg 2 114 [.ref 57, w1, w2, .int a3, .int a4, .int s0, .int (a6 + 1)] [] μ (fun _ => rfl) ?_
  refine am_Ex.goto rfl ?_
  exact hk36 h
set_option maxRecDepth 20000 in
theorem e_fTrace_walkBack_89 (d : Nat) {k36 : Int32 → Int32 → Int32 → Int32 → am_Mu → Option (Int32 × am_Mu)} (hk36 : ∀ {a3 : Int32} {a4 : Int32} {a5 : Int32} {a6 : Int32} {w1 w2 : Value} {μ : am_Mu} {out : Int32 × am_Mu}, k36 a3 a4 a5 a6 μ = some out → am_Ex none (d + 1) 82 36 [.ref 57, w1, w2, .int a3, .int a4, .int a5, .int a6] [] am_SH μ (some (.int out.1), am_SH, out.2)) : ∀ {a3 : Int32} {a4 : Int32} {a6 : Int32} {w1 w2 w5 : Value} {μ : am_Mu} {out : Int32 × am_Mu}, fTrace_walkBack_89 k36 a3 a4 a6 μ = some out → am_Ex none (d + 1) 82 89 [.ref 57, w1, w2, .int a3, .int a4, w5, .int a6] [] am_SH μ (some (.int out.1), am_SH, out.2) := by
  intro a3 a4 a6 w1 w2 w5 μ out h
  unfold fTrace_walkBack_89 at h
  refine am_Ex.seg 1 90 [.ref 57, w1, w2, .int a3, .int a4, w5, .int a6] [.int (-1)] μ (fun _ => rfl) ?_
  refine am_Ex.goto rfl ?_
  exact e_fTrace_walkBack_109 d hk36 h
set_option maxRecDepth 20000 in
theorem e_fTrace_walkBack_36 (d : Nat) : ∀ n : Nat, ∀ {a3 : Int32} {a4 : Int32} {a5 : Int32} {a6 : Int32} {w1 w2 : Value} {μ : am_Mu} {out : Int32 × am_Mu}, fTrace_walkBack_36 n a3 a4 a5 a6 μ = some out → am_Ex none (d + 1) 82 36 [.ref 57, w1, w2, .int a3, .int a4, .int a5, .int a6] [] am_SH μ (some (.int out.1), am_SH, out.2) := by
  intro n
  induction n with
  | zero => intros; contradiction
  | succ n ih =>
    have hk36 : ∀ {a3 : Int32} {a4 : Int32} {a5 : Int32} {a6 : Int32} {w1 w2 : Value} {μ : am_Mu} {out : Int32 × am_Mu}, (fTrace_walkBack_36 n) a3 a4 a5 a6 μ = some out → am_Ex none (d + 1) 82 36 [.ref 57, w1, w2, .int a3, .int a4, .int a5, .int a6] [] am_SH μ (some (.int out.1), am_SH, out.2) := ih
    intro a3 a4 a5 a6 w1 w2 μ out h
    unfold fTrace_walkBack_36 at h
    refine am_Ex.seg 2 40 [.ref 57, w1, w2, .int a3, .int a4, .int a5, .int a6] [.int 20, .int a6] μ (fun _ => rfl) ?_
    rcases am_ite h with ⟨q1, h⟩ | ⟨q1, h⟩
    · refine am_Ex.icmp_ge_t rfl q1 ?_
      refine am_Ex.seg 1 119 [.ref 57, w1, w2, .int a3, .int a4, .int a5, .int a6] [.int a4] μ (fun _ => rfl) ?_
      cases h
      exact am_Ex.iret rfl rfl
    · refine am_Ex.icmp_ge_f rfl q1 ?_
      refine am_Ex.seg 2 46 [.ref 57, w1, w2, .int a3, .int a4, .int a5, .int a6] [.int (-1), .int a5] μ (fun _ => rfl) ?_
      rcases am_ite h with ⟨q2, h⟩ | ⟨q2, h⟩
      · refine am_Ex.icmp_eq_t rfl q2 ?_
        refine am_Ex.seg 1 119 [.ref 57, w1, w2, .int a3, .int a4, .int a5, .int a6] [.int a4] μ (fun _ => rfl) ?_
        cases h
        exact am_Ex.iret rfl rfl
      · refine am_Ex.icmp_eq_f rfl q2 ?_
        refine am_Ex.seg 3 54 [.ref 57, w1, w2, .int a3, .int a4, .int a5, .int a6] [.int a4, .int a5, .ref 57] μ (fun _ => rfl) ?_
        obtain ⟨q3, h_q3, h⟩ := am_bind h
        refine am_Ex.ivk (na := 3) (b := 57) (As' := [.int a5, .int a4]) rfl rfl rfl rfl rfl rfl rfl rfl rfl (e_fTrace_isStep (d + 0) h_q3) ?_
        refine am_Ex.same 57 [.ref 57, w1, w2, .int a3, .int a4, .int a5, .int a6] [.int q3.1] q3.2 rfl ?_
        rcases am_ite h with ⟨q4, h⟩ | ⟨q4, h⟩
        · refine am_Ex.if_ne_t rfl q4 ?_
          refine am_Ex.seg 1 119 [.ref 57, w1, w2, .int a3, .int a4, .int a5, .int a6] [.int a4] q3.2 (fun _ => rfl) ?_
          cases h
          exact am_Ex.iret rfl rfl
        · refine am_Ex.if_ne_f rfl (Decidable.not_not.mp q4) ?_
          refine am_Ex.seg 4 68 [.ref 57, w1, w2, .int a3, .int a4, .int a5, .int a6] [.int a5, .int a4, .ref 67] q3.2 (fun _ => rfl) ?_
          obtain ⟨q5, h⟩ := am_bif h
          refine am_Ex.iast (v2 := a5) (i2 := (a4).toNatClampNeg) rfl rfl q5 rfl rfl ?_
          refine am_Ex.seg 3 75 [.ref 57, w1, w2, .int a3, .int (a4 + 1), .int a5, .int a6] [.int a3, .int a5] (am_up q3.2 67 ((a4).toNatClampNeg) a5) (fun _ => rfl) ?_
          rcases am_ite h with ⟨q6, h⟩ | ⟨q6, h⟩
          · refine am_Ex.icmp_eq_t rfl q6 ?_
            exact e_fTrace_walkBack_89 d hk36 h
          · refine am_Ex.icmp_eq_f rfl q6 ?_
            refine am_Ex.seg 3 84 [.ref 57, w1, w2, .int a3, .int (a4 + 1), .int a5, .int a6] [.int a5, .ref 66] (am_up q3.2 67 ((a4).toNatClampNeg) a5) (fun _ => rfl) ?_
            obtain ⟨q7, h⟩ := am_bif h
            refine am_Ex.iald (v := (q3.2 66 ((a5).toNatClampNeg))) rfl rfl q7 ((am_up_k (by decide)).trans rfl) ?_
            refine am_Ex.seg 1 86 [.ref 57, w1, w2, .int a3, .int (a4 + 1), .int a5, .int a6] [.int (-1), .int (q3.2 66 ((a5).toNatClampNeg))] (am_up q3.2 67 ((a4).toNatClampNeg) a5) (fun _ => rfl) ?_
            rcases am_ite h with ⟨q8, h⟩ | ⟨q8, h⟩
            · refine am_Ex.icmp_ne_t rfl q8 ?_
              refine am_Ex.seg 5 103 [.ref 57, w1, w2, .int a3, .int (a4 + 1), .int a5, .int a6] [.int a5, .ref 66, .ref 13] (am_up q3.2 67 ((a4).toNatClampNeg) a5) (fun _ => rfl) ?_
              refine am_Ex.iald (v := (q3.2 66 ((a5).toNatClampNeg))) rfl rfl q7 ((am_up_k (by decide)).trans rfl) ?_
              refine am_Ex.seg 1 106 [.ref 57, w1, w2, .int a3, .int (a4 + 1), .int a5, .int a6] [.int a5, .int (q3.2 66 ((a5).toNatClampNeg)), .ref 13] (am_up q3.2 67 ((a4).toNatClampNeg) a5) (fun _ => rfl) ?_
              obtain ⟨q9, h_q9, h⟩ := am_bind h
              refine am_Ex.ivk (na := 3) (b := 13) (As' := [.int (q3.2 66 ((a5).toNatClampNeg)), .int a5]) rfl rfl rfl rfl rfl rfl rfl rfl rfl (e_fLedger_otherThing (d + 0) h_q9) ?_
              refine am_Ex.same 109 [.ref 57, w1, w2, .int a3, .int (a4 + 1), .int a5, .int a6] [.int q9.1] q9.2 rfl ?_
              exact e_fTrace_walkBack_109 d hk36 h
            · refine am_Ex.icmp_ne_f rfl (Decidable.not_not.mp q8) ?_
              exact e_fTrace_walkBack_89 d hk36 h
set_option maxRecDepth 20000 in
theorem e_fTrace_walkBack_27 (d : Nat) : ∀ {a2 : Int32} {a3 : Int32} {w1 w4 w5 w6 : Value} {μ : am_Mu} {out : Int32 × am_Mu}, fTrace_walkBack_27 a2 a3 μ = some out → am_Ex none (d + 1) 82 27 [.ref 57, w1, .int a2, .int a3, w4, w5, w6] [] am_SH μ (some (.int out.1), am_SH, out.2) := by
  intro a2 a3 w1 w4 w5 w6 μ out h
  unfold fTrace_walkBack_27 at h
  refine am_Ex.seg 6 36 [.ref 57, w1, .int a2, .int a3, .int 0, .int a2, .int 0] [] μ (fun _ => rfl) ?_
  exact e_fTrace_walkBack_36 d am_F h
set_option maxRecDepth 20000 in
theorem e_fTrace_walkBack (d : Nat) : ∀ {a1 : Int32} {a2 : Int32} {μ : am_Mu} {out : Int32 × am_Mu}, fTrace_walkBack a1 a2 μ = some out → am_Ex none (d + 1) 82 0 [.ref 57, .int a1, .int a2, .null, .null, .null, .null] [] am_SH μ (some (.int out.1), am_SH, out.2) := by
  intro a1 a2 μ out h
  unfold fTrace_walkBack at h
  refine am_Ex.seg 4 8 [.ref 57, .int a1, .int a2, .null, .null, .null, .null] [.int a1, .ref 22] μ (fun _ => rfl) ?_
  obtain ⟨q1, h⟩ := am_bif h
  refine am_Ex.iald (v := (μ 22 ((a1).toNatClampNeg))) rfl rfl q1 rfl ?_
  refine am_Ex.seg 3 12 [.ref 57, .int a1, .int a2, .int (μ 22 ((a1).toNatClampNeg)), .null, .null, .null] [.int (μ 22 ((a1).toNatClampNeg)), .int a2] μ (fun _ => rfl) ?_
  rcases am_ite h with ⟨q2, h⟩ | ⟨q2, h⟩
  · refine am_Ex.icmp_eq_t rfl q2 ?_
    exact e_fTrace_walkBack_27 d h
  · refine am_Ex.icmp_eq_f rfl q2 ?_
    refine am_Ex.seg 3 20 [.ref 57, .int a1, .int a2, .int (μ 22 ((a1).toNatClampNeg)), .null, .null, .null] [.int a2, .ref 66] μ (fun _ => rfl) ?_
    obtain ⟨q3, h⟩ := am_bif h
    refine am_Ex.iald (v := (μ 66 ((a2).toNatClampNeg))) rfl rfl q3 rfl ?_
    refine am_Ex.seg 1 22 [.ref 57, .int a1, .int a2, .int (μ 22 ((a1).toNatClampNeg)), .null, .null, .null] [.int (-1), .int (μ 66 ((a2).toNatClampNeg))] μ (fun _ => rfl) ?_
    rcases am_ite h with ⟨q4, h⟩ | ⟨q4, h⟩
    · refine am_Ex.icmp_ne_t rfl q4 ?_
      exact e_fTrace_walkBack_27 d h
    · refine am_Ex.icmp_ne_f rfl (Decidable.not_not.mp q4) ?_
      refine am_Ex.seg 1 26 [.ref 57, .int a1, .int a2, .int (μ 22 ((a1).toNatClampNeg)), .null, .null, .null] [.int 0] μ (fun _ => rfl) ?_
      cases h
      exact am_Ex.iret rfl rfl
def fTrace_cleansings_3 : Nat → Int32 → Int32 → Int32 → Int32 → am_Mu → Option (Int32 × am_Mu)
  | 0, _, _, _, _, _ => none
  | n + 1, a1, a2, a3, a4, μ => (if 5 < a4 then some ((-1), μ) else ((fTrace_otherwise a2 μ).bind fun q2 => (if ¬ q2.1 = 0 then ((fJudge_cleanse 58 a1 a2 a3 q2.2).bind fun q4 => (fTrace_cleansings_3 n) a1 a2 a3 (a4 + 1) q4) else some (a4, q2.2))))
def fTrace_cleansings (a1 : Int32) (a2 : Int32) (a3 : Int32) (μ : am_Mu) : Option (Int32 × am_Mu) := fTrace_cleansings_3 am_F a1 a2 a3 0 μ
set_option maxRecDepth 20000 in
theorem e_fTrace_cleansings_3 (d : Nat) : ∀ n : Nat, ∀ {a1 : Int32} {a2 : Int32} {a3 : Int32} {a4 : Int32} {μ : am_Mu} {out : Int32 × am_Mu}, fTrace_cleansings_3 n a1 a2 a3 a4 μ = some out → am_Ex none (d + 5) 84 3 [.ref 57, .int a1, .int a2, .int a3, .int a4] [] am_SH μ (some (.int out.1), am_SH, out.2) := by
  intro n
  induction n with
  | zero => intros; contradiction
  | succ n ih =>
    have hk3 : ∀ {a1 : Int32} {a2 : Int32} {a3 : Int32} {a4 : Int32} {μ : am_Mu} {out : Int32 × am_Mu}, (fTrace_cleansings_3 n) a1 a2 a3 a4 μ = some out → am_Ex none (d + 5) 84 3 [.ref 57, .int a1, .int a2, .int a3, .int a4] [] am_SH μ (some (.int out.1), am_SH, out.2) := ih
    intro a1 a2 a3 a4 μ out h
    unfold fTrace_cleansings_3 at h
    refine am_Ex.seg 2 6 [.ref 57, .int a1, .int a2, .int a3, .int a4] [.int 5, .int a4] μ (fun _ => rfl) ?_
    rcases am_ite h with ⟨q1, h⟩ | ⟨q1, h⟩
    · refine am_Ex.icmp_gt_t rfl q1 ?_
      refine am_Ex.seg 1 41 [.ref 57, .int a1, .int a2, .int a3, .int a4] [.int (-1)] μ (fun _ => rfl) ?_
      cases h
      exact am_Ex.iret rfl rfl
    · refine am_Ex.icmp_gt_f rfl q1 ?_
      refine am_Ex.seg 2 11 [.ref 57, .int a1, .int a2, .int a3, .int a4] [.int a2, .ref 57] μ (fun _ => rfl) ?_
      obtain ⟨q2, h_q2, h⟩ := am_bind h
      refine am_Ex.ivk (na := 2) (b := 57) (As' := [.int a2]) rfl rfl rfl rfl rfl rfl rfl rfl rfl (e_fTrace_otherwise (d + 2) h_q2) ?_
      refine am_Ex.same 14 [.ref 57, .int a1, .int a2, .int a3, .int a4] [.int q2.1] q2.2 rfl ?_
      rcases am_ite h with ⟨q3, h⟩ | ⟨q3, h⟩
      · refine am_Ex.if_ne_t rfl q3 ?_
        refine am_Ex.seg 7 31 [.ref 57, .int a1, .int a2, .int a3, .int a4] [.int a3, .int a2, .int a1, .ref 58, .ref 27] q2.2 (fun _ => rfl) ?_
        obtain ⟨q4, h_q4, h⟩ := am_bind h
        refine am_Ex.ivk (na := 5) (b := 27) (As' := [.ref 58, .int a1, .int a2, .int a3]) rfl rfl rfl rfl rfl rfl rfl rfl rfl (e_fJudge_cleanse (d + 0) h_q4) ?_
        refine am_Ex.same 34 [.ref 57, .int a1, .int a2, .int a3, .int a4] [] q4 rfl ?_
        refine am_Ex.seg 1 37 [.ref 57, .int a1, .int a2, .int a3, .int (a4 + 1)] [] q4 (fun _ => rfl) ?_
        refine am_Ex.goto rfl ?_
        exact hk3 h
      · refine am_Ex.if_ne_f rfl (Decidable.not_not.mp q3) ?_
        refine am_Ex.seg 1 19 [.ref 57, .int a1, .int a2, .int a3, .int a4] [.int a4] q2.2 (fun _ => rfl) ?_
        cases h
        exact am_Ex.iret rfl rfl
set_option maxRecDepth 20000 in
theorem e_fTrace_cleansings (d : Nat) : ∀ {a1 : Int32} {a2 : Int32} {a3 : Int32} {μ : am_Mu} {out : Int32 × am_Mu}, fTrace_cleansings a1 a2 a3 μ = some out → am_Ex none (d + 5) 84 0 [.ref 57, .int a1, .int a2, .int a3, .null] [] am_SH μ (some (.int out.1), am_SH, out.2) := by
  intro a1 a2 a3 μ out h
  unfold fTrace_cleansings at h
  refine am_Ex.seg 2 3 [.ref 57, .int a1, .int a2, .int a3, .int 0] [] μ (fun _ => rfl) ?_
  exact e_fTrace_cleansings_3 d am_F h
def fVisitors_add (a1 : Int32) (a2 : Int32) (μ : am_Mu) : Option (Int32 × am_Mu) := (if 6 ≤ (μ 97 4) then some ((-1), μ) else ((fB_isIn a1 2 μ).bind fun q2 => (if q2.1 = 0 then some ((-1), q2.2) else (if a2 < 1 then some ((-1), q2.2) else (if a2 ≤ 9 then (bif am_inb (q2.2 97 4) 6 then some ((((q2.2 97 4) + 1) - 1), (am_up (am_up (am_up q2.2 98 (((q2.2 97 4)).toNatClampNeg) a1) 99 (((q2.2 97 4)).toNatClampNeg) a2) 97 4 ((q2.2 97 4) + 1))) else none) else some ((-1), q2.2))))))
set_option maxRecDepth 20000 in
theorem e_fVisitors_add (d : Nat) : ∀ {a1 : Int32} {a2 : Int32} {μ : am_Mu} {out : Int32 × am_Mu}, fVisitors_add a1 a2 μ = some out → am_Ex none (d + 1) 86 0 [.ref 97, .int a1, .int a2] [] am_SH μ (some (.int out.1), am_SH, out.2) := by
  intro a1 a2 μ out h
  unfold fVisitors_add at h
  refine am_Ex.seg 3 6 [.ref 97, .int a1, .int a2] [.int 6, .int (μ 97 4)] μ (fun _ => rfl) ?_
  rcases am_ite h with ⟨q1, h⟩ | ⟨q1, h⟩
  · refine am_Ex.icmp_ge_t rfl q1 ?_
    refine am_Ex.seg 1 29 [.ref 97, .int a1, .int a2] [.int (-1)] μ (fun _ => rfl) ?_
    cases h
    exact am_Ex.iret rfl rfl
  · refine am_Ex.icmp_ge_f rfl q1 ?_
    refine am_Ex.seg 2 11 [.ref 97, .int a1, .int a2] [.int 2, .int a1] μ (fun _ => rfl) ?_
    obtain ⟨q2, h_q2, h⟩ := am_bind h
    refine am_Ex.isk (na := 2) rfl (As := [.int a1, .int 2]) rfl rfl rfl rfl rfl rfl (e_fB_isIn (d + 0) h_q2) ?_
    refine am_Ex.same 14 [.ref 97, .int a1, .int a2] [.int q2.1] q2.2 rfl ?_
    rcases am_ite h with ⟨q3, h⟩ | ⟨q3, h⟩
    · refine am_Ex.if_eq_t rfl q3 ?_
      refine am_Ex.seg 1 29 [.ref 97, .int a1, .int a2] [.int (-1)] q2.2 (fun _ => rfl) ?_
      cases h
      exact am_Ex.iret rfl rfl
    · refine am_Ex.if_eq_f rfl q3 ?_
      refine am_Ex.seg 2 19 [.ref 97, .int a1, .int a2] [.int 1, .int a2] q2.2 (fun _ => rfl) ?_
      rcases am_ite h with ⟨q4, h⟩ | ⟨q4, h⟩
      · refine am_Ex.icmp_lt_t rfl q4 ?_
        refine am_Ex.seg 1 29 [.ref 97, .int a1, .int a2] [.int (-1)] q2.2 (fun _ => rfl) ?_
        cases h
        exact am_Ex.iret rfl rfl
      · refine am_Ex.icmp_lt_f rfl q4 ?_
        refine am_Ex.seg 2 25 [.ref 97, .int a1, .int a2] [.int 9, .int a2] q2.2 (fun _ => rfl) ?_
        rcases am_ite h with ⟨q5, h⟩ | ⟨q5, h⟩
        · refine am_Ex.icmp_le_t rfl q5 ?_
          refine am_Ex.seg 5 39 [.ref 97, .int a1, .int a2] [.int a1, .int (q2.2 97 4), .ref 98] q2.2 (fun _ => rfl) ?_
          obtain ⟨q6, h⟩ := am_bif h
          refine am_Ex.iast (v2 := a1) (i2 := ((q2.2 97 4)).toNatClampNeg) rfl rfl q6 rfl rfl ?_
          refine am_Ex.seg 5 49 [.ref 97, .int a1, .int a2] [.int a2, .int (q2.2 97 4), .ref 99] (am_up q2.2 98 (((q2.2 97 4)).toNatClampNeg) a1) (fun _ => rfl) ?_
          refine am_Ex.iast (v2 := a2) (i2 := ((q2.2 97 4)).toNatClampNeg) rfl rfl q6 rfl rfl ?_
          refine am_Ex.seg 10 66 [.ref 97, .int a1, .int a2] [.int (((q2.2 97 4) + 1) - 1)] (am_up (am_up (am_up q2.2 98 (((q2.2 97 4)).toNatClampNeg) a1) 99 (((q2.2 97 4)).toNatClampNeg) a2) 97 4 ((q2.2 97 4) + 1)) (fun _ => rfl) ?_
          cases h
          exact am_Ex.iret rfl rfl
        · refine am_Ex.icmp_le_f rfl q5 ?_
          refine am_Ex.seg 1 29 [.ref 97, .int a1, .int a2] [.int (-1)] q2.2 (fun _ => rfl) ?_
          cases h
          exact am_Ex.iret rfl rfl
def fVisitors_hear_37 (a2 : Int32) (a3 : Int32) (a4 : Int32) (s1 : Int32) (s2 : Int32) (μ : am_Mu) : Option (am_Mu) := (bif am_inb s1 160 then (if a3 = 0 then (bif am_inb a2 160 then some (am_up (am_up μ 100 ((s1).toNatClampNeg) s2) 101 ((a2).toNatClampNeg) ((μ 101 ((a2).toNatClampNeg)) ||| a4)) else none) else (bif am_inb a2 160 then some (am_up (am_up μ 100 ((s1).toNatClampNeg) s2) 101 ((a2).toNatClampNeg) ((μ 101 ((a2).toNatClampNeg)) &&& (a4 ^^^ (-1)))) else none)) else none)
def fVisitors_hear (a1 : Int32) (a2 : Int32) (a3 : Int32) (μ : am_Mu) : Option (am_Mu) := (if a3 = 0 then (bif am_inb a2 160 then fVisitors_hear_37 a2 a3 ((1 : Int32) <<< (a1 &&& 31)) a2 ((μ 100 ((a2).toNatClampNeg)) &&& (((1 : Int32) <<< (a1 &&& 31)) ^^^ (-1))) μ else none) else (bif am_inb a2 160 then fVisitors_hear_37 a2 a3 ((1 : Int32) <<< (a1 &&& 31)) a2 ((μ 100 ((a2).toNatClampNeg)) ||| ((1 : Int32) <<< (a1 &&& 31))) μ else none))
set_option maxRecDepth 20000 in
theorem e_fVisitors_hear_37 (d : Nat) : ∀ {a2 : Int32} {a3 : Int32} {a4 : Int32} {s1 : Int32} {s2 : Int32} {w1 : Value} {μ : am_Mu} {out : am_Mu}, fVisitors_hear_37 a2 a3 a4 s1 s2 μ = some out → am_Ex none (d + 0) 87 37 [.ref 97, w1, .int a2, .int a3, .int a4] [.int s2, .int s1, .ref 100] am_SH μ (none, am_SH, out) := by
  intro a2 a3 a4 s1 s2 w1 μ out h
  unfold fVisitors_hear_37 at h
  obtain ⟨q1, h⟩ := am_bif h
  refine am_Ex.iast (v2 := s2) (i2 := (s1).toNatClampNeg) rfl rfl q1 rfl rfl ?_
  refine am_Ex.seg 4 44 [.ref 97, w1, .int a2, .int a3, .int a4] [.int a3, .int a2, .ref 101] (am_up μ 100 ((s1).toNatClampNeg) s2) (fun _ => rfl) ?_
  rcases am_ite h with ⟨q2, h⟩ | ⟨q2, h⟩
  · refine am_Ex.if_eq_t rfl q2 ?_
    refine am_Ex.seg 3 66 [.ref 97, w1, .int a2, .int a3, .int a4] [.int a2, .ref 101, .int a2, .ref 101] (am_up μ 100 ((s1).toNatClampNeg) s2) (fun _ => rfl) ?_
    obtain ⟨q3, h⟩ := am_bif h
    refine am_Ex.iald (v := (μ 101 ((a2).toNatClampNeg))) rfl rfl q3 ((am_up_k (by decide)).trans rfl) ?_
    refine am_Ex.seg 2 70 [.ref 97, w1, .int a2, .int a3, .int a4] [.int ((μ 101 ((a2).toNatClampNeg)) ||| a4), .int a2, .ref 101] (am_up μ 100 ((s1).toNatClampNeg) s2) (fun _ => rfl) ?_
    refine am_Ex.iast (v2 := ((μ 101 ((a2).toNatClampNeg)) ||| a4)) (i2 := (a2).toNatClampNeg) rfl rfl q3 rfl rfl ?_
    cases h
    exact am_Ex.vret rfl rfl
  · refine am_Ex.if_eq_f rfl q2 ?_
    refine am_Ex.seg 3 52 [.ref 97, w1, .int a2, .int a3, .int a4] [.int a2, .ref 101, .int a2, .ref 101] (am_up μ 100 ((s1).toNatClampNeg) s2) (fun _ => rfl) ?_
    obtain ⟨q4, h⟩ := am_bif h
    refine am_Ex.iald (v := (μ 101 ((a2).toNatClampNeg))) rfl rfl q4 ((am_up_k (by decide)).trans rfl) ?_
    refine am_Ex.seg 4 58 [.ref 97, w1, .int a2, .int a3, .int a4] [.int ((μ 101 ((a2).toNatClampNeg)) &&& (a4 ^^^ (-1))), .int a2, .ref 101] (am_up μ 100 ((s1).toNatClampNeg) s2) (fun _ => rfl) ?_
    refine am_Ex.goto rfl ?_
    refine am_Ex.iast (v2 := ((μ 101 ((a2).toNatClampNeg)) &&& (a4 ^^^ (-1)))) (i2 := (a2).toNatClampNeg) rfl rfl q4 rfl rfl ?_
    cases h
    exact am_Ex.vret rfl rfl
set_option maxRecDepth 20000 in
theorem e_fVisitors_hear (d : Nat) : ∀ {a1 : Int32} {a2 : Int32} {a3 : Int32} {μ : am_Mu} {out : am_Mu}, fVisitors_hear a1 a2 a3 μ = some out → am_Ex none (d + 0) 87 0 [.ref 97, .int a1, .int a2, .int a3, .null] [] am_SH μ (none, am_SH, out) := by
  intro a1 a2 a3 μ out h
  unfold fVisitors_hear at h
  refine am_Ex.seg 8 11 [.ref 97, .int a1, .int a2, .int a3, .int ((1 : Int32) <<< (a1 &&& 31))] [.int a3, .int a2, .ref 100] μ (fun _ => rfl) ?_
  rcases am_ite h with ⟨q1, h⟩ | ⟨q1, h⟩
  · refine am_Ex.if_eq_t rfl q1 ?_
    refine am_Ex.seg 3 31 [.ref 97, .int a1, .int a2, .int a3, .int ((1 : Int32) <<< (a1 &&& 31))] [.int a2, .ref 100, .int a2, .ref 100] μ (fun _ => rfl) ?_
    obtain ⟨q2, h⟩ := am_bif h
    refine am_Ex.iald (v := (μ 100 ((a2).toNatClampNeg))) rfl rfl q2 rfl ?_
    refine am_Ex.seg 4 37 [.ref 97, .int a1, .int a2, .int a3, .int ((1 : Int32) <<< (a1 &&& 31))] [.int ((μ 100 ((a2).toNatClampNeg)) &&& (((1 : Int32) <<< (a1 &&& 31)) ^^^ (-1))), .int a2, .ref 100] μ (fun _ => rfl) ?_
    exact e_fVisitors_hear_37 d h
  · refine am_Ex.if_eq_f rfl q1 ?_
    refine am_Ex.seg 3 19 [.ref 97, .int a1, .int a2, .int a3, .int ((1 : Int32) <<< (a1 &&& 31))] [.int a2, .ref 100, .int a2, .ref 100] μ (fun _ => rfl) ?_
    obtain ⟨q3, h⟩ := am_bif h
    refine am_Ex.iald (v := (μ 100 ((a2).toNatClampNeg))) rfl rfl q3 rfl ?_
    refine am_Ex.seg 2 23 [.ref 97, .int a1, .int a2, .int a3, .int ((1 : Int32) <<< (a1 &&& 31))] [.int ((μ 100 ((a2).toNatClampNeg)) ||| ((1 : Int32) <<< (a1 &&& 31))), .int a2, .ref 100] μ (fun _ => rfl) ?_
    refine am_Ex.goto rfl ?_
    exact e_fVisitors_hear_37 d h
def fVisitors_weightOf_4 : Nat → Int32 → Int32 → Int32 → am_Mu → Option (Int32 × am_Mu)
  | 0, _, _, _, _ => none
  | n + 1, a1, a2, a3, μ => (if (μ 97 4) ≤ a3 then some (a2, μ) else (bif am_inb a3 6 then (fVisitors_weightOf_4 n) a1 (a2 + (((a1 >>> (a3 &&& 31)) &&& 1) * (μ 99 ((a3).toNatClampNeg)))) (a3 + 1) μ else none))
def fVisitors_weightOf (a1 : Int32) (μ : am_Mu) : Option (Int32 × am_Mu) := fVisitors_weightOf_4 am_F a1 0 0 μ
set_option maxRecDepth 20000 in
theorem e_fVisitors_weightOf_4 (d : Nat) : ∀ n : Nat, ∀ {a1 : Int32} {a2 : Int32} {a3 : Int32} {μ : am_Mu} {out : Int32 × am_Mu}, fVisitors_weightOf_4 n a1 a2 a3 μ = some out → am_Ex none (d + 0) 89 4 [.ref 97, .int a1, .int a2, .int a3] [] am_SH μ (some (.int out.1), am_SH, out.2) := by
  intro n
  induction n with
  | zero => intros; contradiction
  | succ n ih =>
    have hk4 : ∀ {a1 : Int32} {a2 : Int32} {a3 : Int32} {μ : am_Mu} {out : Int32 × am_Mu}, (fVisitors_weightOf_4 n) a1 a2 a3 μ = some out → am_Ex none (d + 0) 89 4 [.ref 97, .int a1, .int a2, .int a3] [] am_SH μ (some (.int out.1), am_SH, out.2) := ih
    intro a1 a2 a3 μ out h
    unfold fVisitors_weightOf_4 at h
    refine am_Ex.seg 3 9 [.ref 97, .int a1, .int a2, .int a3] [.int (μ 97 4), .int a3] μ (fun _ => rfl) ?_
    rcases am_ite h with ⟨q1, h⟩ | ⟨q1, h⟩
    · refine am_Ex.icmp_ge_t rfl q1 ?_
      refine am_Ex.seg 1 34 [.ref 97, .int a1, .int a2, .int a3] [.int a2] μ (fun _ => rfl) ?_
      cases h
      exact am_Ex.iret rfl rfl
    · refine am_Ex.icmp_ge_f rfl q1 ?_
      refine am_Ex.seg 9 23 [.ref 97, .int a1, .int a2, .int a3] [.int a3, .ref 99, .int ((a1 >>> (a3 &&& 31)) &&& 1), .int a2] μ (fun _ => rfl) ?_
      obtain ⟨q2, h⟩ := am_bif h
      refine am_Ex.iald (v := (μ 99 ((a3).toNatClampNeg))) rfl rfl q2 rfl ?_
      refine am_Ex.seg 4 30 [.ref 97, .int a1, .int (a2 + (((a1 >>> (a3 &&& 31)) &&& 1) * (μ 99 ((a3).toNatClampNeg)))), .int (a3 + 1)] [] μ (fun _ => rfl) ?_
      refine am_Ex.goto rfl ?_
      exact hk4 h
set_option maxRecDepth 20000 in
theorem e_fVisitors_weightOf (d : Nat) : ∀ {a1 : Int32} {μ : am_Mu} {out : Int32 × am_Mu}, fVisitors_weightOf a1 μ = some out → am_Ex none (d + 0) 89 0 [.ref 97, .int a1, .null, .null] [] am_SH μ (some (.int out.1), am_SH, out.2) := by
  intro a1 μ out h
  unfold fVisitors_weightOf at h
  refine am_Ex.seg 4 4 [.ref 97, .int a1, .int 0, .int 0] [] μ (fun _ => rfl) ?_
  exact e_fVisitors_weightOf_4 d am_F h
def fVisitors_belief (a1 : Int32) (μ : am_Mu) : Option (Int32 × am_Mu) := (bif am_inb a1 160 then ((fVisitors_weightOf (μ 100 ((a1).toNatClampNeg)) μ).bind fun q2 => ((fVisitors_weightOf (q2.2 101 ((a1).toNatClampNeg)) q2.2).bind fun q3 => (if q2.1 ≤ ((2 : Int32) * q3.1) then (if q3.1 ≤ ((2 : Int32) * q2.1) then some ((-1), q3.2) else some (0, q3.2)) else some (1, q3.2)))) else none)
set_option maxRecDepth 20000 in
theorem e_fVisitors_belief (d : Nat) : ∀ {a1 : Int32} {μ : am_Mu} {out : Int32 × am_Mu}, fVisitors_belief a1 μ = some out → am_Ex none (d + 1) 88 0 [.ref 97, .int a1, .null, .null] [] am_SH μ (some (.int out.1), am_SH, out.2) := by
  intro a1 μ out h
  unfold fVisitors_belief at h
  refine am_Ex.seg 4 6 [.ref 97, .int a1, .null, .null] [.int a1, .ref 100, .ref 97] μ (fun _ => rfl) ?_
  obtain ⟨q1, h⟩ := am_bif h
  refine am_Ex.iald (v := (μ 100 ((a1).toNatClampNeg))) rfl rfl q1 rfl ?_
  obtain ⟨q2, h_q2, h⟩ := am_bind h
  refine am_Ex.ivk (na := 2) (b := 97) (As' := [.int (μ 100 ((a1).toNatClampNeg))]) rfl rfl rfl rfl rfl rfl rfl rfl rfl (e_fVisitors_weightOf (d + 0) h_q2) ?_
  refine am_Ex.same 10 [.ref 97, .int a1, .null, .null] [.int q2.1] q2.2 rfl ?_
  refine am_Ex.seg 5 17 [.ref 97, .int a1, .int q2.1, .null] [.int a1, .ref 101, .ref 97] q2.2 (fun _ => rfl) ?_
  refine am_Ex.iald (v := (q2.2 101 ((a1).toNatClampNeg))) rfl rfl q1 rfl ?_
  obtain ⟨q3, h_q3, h⟩ := am_bind h
  refine am_Ex.ivk (na := 2) (b := 97) (As' := [.int (q2.2 101 ((a1).toNatClampNeg))]) rfl rfl rfl rfl rfl rfl rfl rfl rfl (e_fVisitors_weightOf (d + 0) h_q3) ?_
  refine am_Ex.same 21 [.ref 97, .int a1, .int q2.1, .null] [.int q3.1] q3.2 rfl ?_
  refine am_Ex.seg 5 26 [.ref 97, .int a1, .int q2.1, .int q3.1] [.int ((2 : Int32) * q3.1), .int q2.1] q3.2 (fun _ => rfl) ?_
  rcases am_ite h with ⟨q4, h⟩ | ⟨q4, h⟩
  · refine am_Ex.icmp_le_t rfl q4 ?_
    refine am_Ex.seg 4 35 [.ref 97, .int a1, .int q2.1, .int q3.1] [.int ((2 : Int32) * q2.1), .int q3.1] q3.2 (fun _ => rfl) ?_
    rcases am_ite h with ⟨q5, h⟩ | ⟨q5, h⟩
    · refine am_Ex.icmp_le_t rfl q5 ?_
      refine am_Ex.seg 1 43 [.ref 97, .int a1, .int q2.1, .int q3.1] [.int (-1)] q3.2 (fun _ => rfl) ?_
      cases h
      exact am_Ex.iret rfl rfl
    · refine am_Ex.icmp_le_f rfl q5 ?_
      refine am_Ex.seg 1 39 [.ref 97, .int a1, .int q2.1, .int q3.1] [.int 0] q3.2 (fun _ => rfl) ?_
      refine am_Ex.goto rfl ?_
      cases h
      exact am_Ex.iret rfl rfl
  · refine am_Ex.icmp_le_f rfl q4 ?_
    refine am_Ex.seg 1 30 [.ref 97, .int a1, .int q2.1, .int q3.1] [.int 1] q3.2 (fun _ => rfl) ?_
    cases h
    exact am_Ex.iret rfl rfl
def fVisits_reseed (a1 : Int32) (a2 : Int32) (μ : am_Mu) : Option (Int32 × am_Mu) := (if a1 < 0 then some (0, μ) else (if a2 < 1 then some (0, μ) else (if a2 ≤ 99 then some (1, (am_up (am_up μ 102 8 a1) 102 9 a2)) else some (0, μ))))
set_option maxRecDepth 20000 in
theorem e_fVisits_reseed (d : Nat) : ∀ {a1 : Int32} {a2 : Int32} {μ : am_Mu} {out : Int32 × am_Mu}, fVisits_reseed a1 a2 μ = some out → am_Ex none (d + 0) 91 0 [.ref 102, .int a1, .int a2] [] am_SH μ (some (.int out.1), am_SH, out.2) := by
  intro a1 a2 μ out h
  unfold fVisits_reseed at h
  refine am_Ex.seg 1 1 [.ref 102, .int a1, .int a2] [.int a1] μ (fun _ => rfl) ?_
  rcases am_ite h with ⟨q1, h⟩ | ⟨q1, h⟩
  · refine am_Ex.if_lt_t rfl q1 ?_
    refine am_Ex.seg 1 16 [.ref 102, .int a1, .int a2] [.int 0] μ (fun _ => rfl) ?_
    cases h
    exact am_Ex.zret rfl rfl (by decide)
  · refine am_Ex.if_lt_f rfl q1 ?_
    refine am_Ex.seg 2 6 [.ref 102, .int a1, .int a2] [.int 1, .int a2] μ (fun _ => rfl) ?_
    rcases am_ite h with ⟨q2, h⟩ | ⟨q2, h⟩
    · refine am_Ex.icmp_lt_t rfl q2 ?_
      refine am_Ex.seg 1 16 [.ref 102, .int a1, .int a2] [.int 0] μ (fun _ => rfl) ?_
      cases h
      exact am_Ex.zret rfl rfl (by decide)
    · refine am_Ex.icmp_lt_f rfl q2 ?_
      refine am_Ex.seg 2 12 [.ref 102, .int a1, .int a2] [.int 99, .int a2] μ (fun _ => rfl) ?_
      rcases am_ite h with ⟨q3, h⟩ | ⟨q3, h⟩
      · refine am_Ex.icmp_le_t rfl q3 ?_
        refine am_Ex.seg 7 28 [.ref 102, .int a1, .int a2] [.int 1] (am_up (am_up μ 102 8 a1) 102 9 a2) (fun _ => rfl) ?_
        cases h
        exact am_Ex.zret rfl rfl (by decide)
      · refine am_Ex.icmp_le_f rfl q3 ?_
        refine am_Ex.seg 1 16 [.ref 102, .int a1, .int a2] [.int 0] μ (fun _ => rfl) ?_
        cases h
        exact am_Ex.zret rfl rfl (by decide)
def fVisits_fillChoices_159 (k5 : Int32 → Int32 → Int32 → Int32 → am_Mu → Option (Int32 × am_Mu)) (a1 : Int32) (a2 : Int32) (a3 : Int32) (a4 : Int32) (μ : am_Mu) : Option (Int32 × am_Mu) := k5 a1 a2 a3 (a4 + 1) μ
def fVisits_fillChoices_153 (k5 : Int32 → Int32 → Int32 → Int32 → am_Mu → Option (Int32 × am_Mu)) (k89 : Int32 → Int32 → Int32 → Int32 → Int32 → am_Mu → Option (Int32 × am_Mu)) (a1 : Int32) (a2 : Int32) (a3 : Int32) (a4 : Int32) (a7 : Int32) (μ : am_Mu) : Option (Int32 × am_Mu) := k89 a1 a2 a3 a4 (a7 + 1) μ
def fVisits_fillChoices_89 : Nat → (Int32 → Int32 → Int32 → Int32 → am_Mu → Option (Int32 × am_Mu)) → Int32 → Int32 → Int32 → Int32 → Int32 → am_Mu → Option (Int32 × am_Mu)
  | 0, _, _, _, _, _, _, _ => none
  | n + 1, k5, a1, a2, a3, a4, a7, μ => (if (μ 97 4) ≤ a7 then fVisits_fillChoices_159 k5 a1 a2 a3 a4 μ else (bif am_inb a7 6 then (bif am_inb a4 8 then (if ¬ (μ 98 ((a7).toNatClampNeg)) = (μ 77 ((a4).toNatClampNeg)) then fVisits_fillChoices_153 k5 (fVisits_fillChoices_89 n k5) a1 a2 a3 a4 a7 μ else (if (μ 105 ((a4).toNatClampNeg)) = a7 then fVisits_fillChoices_153 k5 (fVisits_fillChoices_89 n k5) a1 a2 a3 a4 a7 μ else (bif am_inb a3 48 then fVisits_fillChoices_153 k5 (fVisits_fillChoices_89 n k5) a1 a2 (a3 + 1) a4 a7 (am_up μ 107 ((a3).toNatClampNeg) ((a4 * 10) + a7)) else none))) else none) else none))
def fVisits_fillChoices_86 (k5 : Int32 → Int32 → Int32 → Int32 → am_Mu → Option (Int32 × am_Mu)) (a1 : Int32) (a2 : Int32) (a3 : Int32) (a4 : Int32) (μ : am_Mu) : Option (Int32 × am_Mu) := fVisits_fillChoices_89 am_F k5 a1 a2 a3 a4 0 μ
def fVisits_fillChoices_67 (k5 : Int32 → Int32 → Int32 → Int32 → am_Mu → Option (Int32 × am_Mu)) (a1 : Int32) (a2 : Int32) (a3 : Int32) (a4 : Int32) (a5 : Int32) (s0 : Int32) (μ : am_Mu) : Option (Int32 × am_Mu) := (if ¬ a5 = 0 then fVisits_fillChoices_159 k5 a1 a2 a3 a4 μ else (if a2 = 0 then fVisits_fillChoices_86 k5 a1 a2 a3 a4 μ else (if ¬ s0 = 0 then fVisits_fillChoices_86 k5 a1 a2 a3 a4 μ else fVisits_fillChoices_159 k5 a1 a2 a3 a4 μ)))
def fVisits_fillChoices_44 (k5 : Int32 → Int32 → Int32 → Int32 → am_Mu → Option (Int32 × am_Mu)) (a1 : Int32) (a2 : Int32) (a3 : Int32) (a4 : Int32) (s0 : Int32) (μ : am_Mu) : Option (Int32 × am_Mu) := (bif am_inb a4 8 then (if (a1 - (μ 106 ((a4).toNatClampNeg))) ≤ (μ 102 9) then fVisits_fillChoices_67 k5 a1 a2 a3 a4 s0 0 μ else fVisits_fillChoices_67 k5 a1 a2 a3 a4 s0 1 μ) else none)
def fVisits_fillChoices_43 (k5 : Int32 → Int32 → Int32 → Int32 → am_Mu → Option (Int32 × am_Mu)) (a1 : Int32) (a2 : Int32) (a3 : Int32) (a4 : Int32) (μ : am_Mu) : Option (Int32 × am_Mu) := fVisits_fillChoices_44 k5 a1 a2 a3 a4 0 μ
def fVisits_fillChoices_5 : Nat → Int32 → Int32 → Int32 → Int32 → am_Mu → Option (Int32 × am_Mu)
  | 0, _, _, _, _, _ => none
  | n + 1, a1, a2, a3, a4, μ => (if (μ 76 8) ≤ a4 then some (a3, μ) else (bif am_inb a4 8 then (if (μ 105 ((a4).toNatClampNeg)) = (-1) then fVisits_fillChoices_43 (fVisits_fillChoices_5 n) a1 a2 a3 a4 μ else (if ¬ (μ 106 ((a4).toNatClampNeg)) = a1 then fVisits_fillChoices_43 (fVisits_fillChoices_5 n) a1 a2 a3 a4 μ else fVisits_fillChoices_44 (fVisits_fillChoices_5 n) a1 a2 a3 a4 1 μ)) else none))
def fVisits_fillChoices (a1 : Int32) (a2 : Int32) (μ : am_Mu) : Option (Int32 × am_Mu) := fVisits_fillChoices_5 am_F a1 a2 0 0 μ
set_option maxRecDepth 20000 in
theorem e_fVisits_fillChoices_159 (d : Nat) {k5 : Int32 → Int32 → Int32 → Int32 → am_Mu → Option (Int32 × am_Mu)} (hk5 : ∀ {a1 : Int32} {a2 : Int32} {a3 : Int32} {a4 : Int32} {w5 w6 w7 : Value} {μ : am_Mu} {out : Int32 × am_Mu}, k5 a1 a2 a3 a4 μ = some out → am_Ex none (d + 0) 93 5 [.ref 102, .int a1, .int a2, .int a3, .int a4, w5, w6, w7] [] am_SH μ (some (.int out.1), am_SH, out.2)) : ∀ {a1 : Int32} {a2 : Int32} {a3 : Int32} {a4 : Int32} {w5 w6 w7 : Value} {μ : am_Mu} {out : Int32 × am_Mu}, fVisits_fillChoices_159 k5 a1 a2 a3 a4 μ = some out → am_Ex none (d + 0) 93 159 [.ref 102, .int a1, .int a2, .int a3, .int a4, w5, w6, w7] [] am_SH μ (some (.int out.1), am_SH, out.2) := by
  intro a1 a2 a3 a4 w5 w6 w7 μ out h
  unfold fVisits_fillChoices_159 at h
  refine am_Ex.seg 1 162 [.ref 102, .int a1, .int a2, .int a3, .int (a4 + 1), w5, w6, w7] [] μ (fun _ => rfl) ?_
  refine am_Ex.goto rfl ?_
  exact hk5 h
set_option maxRecDepth 20000 in
theorem e_fVisits_fillChoices_153 (d : Nat) {k5 : Int32 → Int32 → Int32 → Int32 → am_Mu → Option (Int32 × am_Mu)} {k89 : Int32 → Int32 → Int32 → Int32 → Int32 → am_Mu → Option (Int32 × am_Mu)} (hk5 : ∀ {a1 : Int32} {a2 : Int32} {a3 : Int32} {a4 : Int32} {w5 w6 w7 : Value} {μ : am_Mu} {out : Int32 × am_Mu}, k5 a1 a2 a3 a4 μ = some out → am_Ex none (d + 0) 93 5 [.ref 102, .int a1, .int a2, .int a3, .int a4, w5, w6, w7] [] am_SH μ (some (.int out.1), am_SH, out.2)) (hk89 : ∀ {a1 : Int32} {a2 : Int32} {a3 : Int32} {a4 : Int32} {a7 : Int32} {w5 w6 : Value} {μ : am_Mu} {out : Int32 × am_Mu}, k89 a1 a2 a3 a4 a7 μ = some out → am_Ex none (d + 0) 93 89 [.ref 102, .int a1, .int a2, .int a3, .int a4, w5, w6, .int a7] [] am_SH μ (some (.int out.1), am_SH, out.2)) : ∀ {a1 : Int32} {a2 : Int32} {a3 : Int32} {a4 : Int32} {a7 : Int32} {w5 w6 : Value} {μ : am_Mu} {out : Int32 × am_Mu}, fVisits_fillChoices_153 k5 k89 a1 a2 a3 a4 a7 μ = some out → am_Ex none (d + 0) 93 153 [.ref 102, .int a1, .int a2, .int a3, .int a4, w5, w6, .int a7] [] am_SH μ (some (.int out.1), am_SH, out.2) := by
  intro a1 a2 a3 a4 a7 w5 w6 μ out h
  unfold fVisits_fillChoices_153 at h
  refine am_Ex.seg 1 156 [.ref 102, .int a1, .int a2, .int a3, .int a4, w5, w6, .int (a7 + 1)] [] μ (fun _ => rfl) ?_
  refine am_Ex.goto rfl ?_
  exact hk89 h
set_option maxRecDepth 20000 in
theorem e_fVisits_fillChoices_89 (d : Nat) {k5 : Int32 → Int32 → Int32 → Int32 → am_Mu → Option (Int32 × am_Mu)} (hk5 : ∀ {a1 : Int32} {a2 : Int32} {a3 : Int32} {a4 : Int32} {w5 w6 w7 : Value} {μ : am_Mu} {out : Int32 × am_Mu}, k5 a1 a2 a3 a4 μ = some out → am_Ex none (d + 0) 93 5 [.ref 102, .int a1, .int a2, .int a3, .int a4, w5, w6, w7] [] am_SH μ (some (.int out.1), am_SH, out.2)) : ∀ n : Nat, ∀ {a1 : Int32} {a2 : Int32} {a3 : Int32} {a4 : Int32} {a7 : Int32} {w5 w6 : Value} {μ : am_Mu} {out : Int32 × am_Mu}, fVisits_fillChoices_89 n k5 a1 a2 a3 a4 a7 μ = some out → am_Ex none (d + 0) 93 89 [.ref 102, .int a1, .int a2, .int a3, .int a4, w5, w6, .int a7] [] am_SH μ (some (.int out.1), am_SH, out.2) := by
  intro n
  induction n with
  | zero => intros; contradiction
  | succ n ih =>
    have hk89 : ∀ {a1 : Int32} {a2 : Int32} {a3 : Int32} {a4 : Int32} {a7 : Int32} {w5 w6 : Value} {μ : am_Mu} {out : Int32 × am_Mu}, (fVisits_fillChoices_89 n k5) a1 a2 a3 a4 a7 μ = some out → am_Ex none (d + 0) 93 89 [.ref 102, .int a1, .int a2, .int a3, .int a4, w5, w6, .int a7] [] am_SH μ (some (.int out.1), am_SH, out.2) := ih
    intro a1 a2 a3 a4 a7 w5 w6 μ out h
    unfold fVisits_fillChoices_89 at h
    refine am_Ex.seg 4 98 [.ref 102, .int a1, .int a2, .int a3, .int a4, w5, w6, .int a7] [.int (μ 97 4), .int a7] μ (fun _ => rfl) ?_
    rcases am_ite h with ⟨q1, h⟩ | ⟨q1, h⟩
    · refine am_Ex.icmp_ge_t rfl q1 ?_
      exact e_fVisits_fillChoices_159 d hk5 h
    · refine am_Ex.icmp_ge_f rfl q1 ?_
      refine am_Ex.seg 4 110 [.ref 102, .int a1, .int a2, .int a3, .int a4, w5, w6, .int a7] [.int a7, .ref 98] μ (fun _ => rfl) ?_
      obtain ⟨q2, h⟩ := am_bif h
      refine am_Ex.iald (v := (μ 98 ((a7).toNatClampNeg))) rfl rfl q2 rfl ?_
      refine am_Ex.seg 4 120 [.ref 102, .int a1, .int a2, .int a3, .int a4, w5, w6, .int a7] [.int a4, .ref 77, .int (μ 98 ((a7).toNatClampNeg))] μ (fun _ => rfl) ?_
      obtain ⟨q3, h⟩ := am_bif h
      refine am_Ex.iald (v := (μ 77 ((a4).toNatClampNeg))) rfl rfl q3 rfl ?_
      rcases am_ite h with ⟨q4, h⟩ | ⟨q4, h⟩
      · refine am_Ex.icmp_ne_t rfl q4 ?_
        exact e_fVisits_fillChoices_153 d hk5 hk89 h
      · refine am_Ex.icmp_ne_f rfl (Decidable.not_not.mp q4) ?_
        refine am_Ex.seg 3 130 [.ref 102, .int a1, .int a2, .int a3, .int a4, w5, w6, .int a7] [.int a4, .ref 105] μ (fun _ => rfl) ?_
        refine am_Ex.iald (v := (μ 105 ((a4).toNatClampNeg))) rfl rfl q3 rfl ?_
        refine am_Ex.seg 1 133 [.ref 102, .int a1, .int a2, .int a3, .int a4, w5, w6, .int a7] [.int a7, .int (μ 105 ((a4).toNatClampNeg))] μ (fun _ => rfl) ?_
        rcases am_ite h with ⟨q5, h⟩ | ⟨q5, h⟩
        · refine am_Ex.icmp_eq_t rfl q5 ?_
          exact e_fVisits_fillChoices_153 d hk5 hk89 h
        · refine am_Ex.icmp_eq_f rfl q5 ?_
          refine am_Ex.seg 8 149 [.ref 102, .int a1, .int a2, .int a3, .int a4, w5, w6, .int a7] [.int ((a4 * 10) + a7), .int a3, .ref 107] μ (fun _ => rfl) ?_
          obtain ⟨q6, h⟩ := am_bif h
          refine am_Ex.iast (v2 := ((a4 * 10) + a7)) (i2 := (a3).toNatClampNeg) rfl rfl q6 rfl rfl ?_
          refine am_Ex.seg 1 153 [.ref 102, .int a1, .int a2, .int (a3 + 1), .int a4, w5, w6, .int a7] [] (am_up μ 107 ((a3).toNatClampNeg) ((a4 * 10) + a7)) (fun _ => rfl) ?_
          exact e_fVisits_fillChoices_153 d hk5 hk89 h
set_option maxRecDepth 20000 in
theorem e_fVisits_fillChoices_86 (d : Nat) {k5 : Int32 → Int32 → Int32 → Int32 → am_Mu → Option (Int32 × am_Mu)} (hk5 : ∀ {a1 : Int32} {a2 : Int32} {a3 : Int32} {a4 : Int32} {w5 w6 w7 : Value} {μ : am_Mu} {out : Int32 × am_Mu}, k5 a1 a2 a3 a4 μ = some out → am_Ex none (d + 0) 93 5 [.ref 102, .int a1, .int a2, .int a3, .int a4, w5, w6, w7] [] am_SH μ (some (.int out.1), am_SH, out.2)) : ∀ {a1 : Int32} {a2 : Int32} {a3 : Int32} {a4 : Int32} {w5 w6 w7 : Value} {μ : am_Mu} {out : Int32 × am_Mu}, fVisits_fillChoices_86 k5 a1 a2 a3 a4 μ = some out → am_Ex none (d + 0) 93 86 [.ref 102, .int a1, .int a2, .int a3, .int a4, w5, w6, w7] [] am_SH μ (some (.int out.1), am_SH, out.2) := by
  intro a1 a2 a3 a4 w5 w6 w7 μ out h
  unfold fVisits_fillChoices_86 at h
  refine am_Ex.seg 2 89 [.ref 102, .int a1, .int a2, .int a3, .int a4, w5, w6, .int 0] [] μ (fun _ => rfl) ?_
  exact e_fVisits_fillChoices_89 d hk5 am_F h
set_option maxRecDepth 20000 in
theorem e_fVisits_fillChoices_67 (d : Nat) {k5 : Int32 → Int32 → Int32 → Int32 → am_Mu → Option (Int32 × am_Mu)} (hk5 : ∀ {a1 : Int32} {a2 : Int32} {a3 : Int32} {a4 : Int32} {w5 w6 w7 : Value} {μ : am_Mu} {out : Int32 × am_Mu}, k5 a1 a2 a3 a4 μ = some out → am_Ex none (d + 0) 93 5 [.ref 102, .int a1, .int a2, .int a3, .int a4, w5, w6, w7] [] am_SH μ (some (.int out.1), am_SH, out.2)) : ∀ {a1 : Int32} {a2 : Int32} {a3 : Int32} {a4 : Int32} {a5 : Int32} {s0 : Int32} {w6 w7 : Value} {μ : am_Mu} {out : Int32 × am_Mu}, fVisits_fillChoices_67 k5 a1 a2 a3 a4 a5 s0 μ = some out → am_Ex none (d + 0) 93 67 [.ref 102, .int a1, .int a2, .int a3, .int a4, .int a5, w6, w7] [.int s0] am_SH μ (some (.int out.1), am_SH, out.2) := by
  intro a1 a2 a3 a4 a5 s0 w6 w7 μ out h
  unfold fVisits_fillChoices_67 at h
  refine am_Ex.seg 2 71 [.ref 102, .int a1, .int a2, .int a3, .int a4, .int a5, .int s0, w7] [.int a5] μ (fun _ => rfl) ?_
  rcases am_ite h with ⟨q1, h⟩ | ⟨q1, h⟩
  · refine am_Ex.if_ne_t rfl q1 ?_
    exact e_fVisits_fillChoices_159 d hk5 h
  · refine am_Ex.if_ne_f rfl (Decidable.not_not.mp q1) ?_
    refine am_Ex.seg 1 75 [.ref 102, .int a1, .int a2, .int a3, .int a4, .int a5, .int s0, w7] [.int a2] μ (fun _ => rfl) ?_
    rcases am_ite h with ⟨q2, h⟩ | ⟨q2, h⟩
    · refine am_Ex.if_eq_t rfl q2 ?_
      exact e_fVisits_fillChoices_86 d hk5 h
    · refine am_Ex.if_eq_f rfl q2 ?_
      refine am_Ex.seg 1 80 [.ref 102, .int a1, .int a2, .int a3, .int a4, .int a5, .int s0, w7] [.int s0] μ (fun _ => rfl) ?_
      rcases am_ite h with ⟨q3, h⟩ | ⟨q3, h⟩
      · refine am_Ex.if_ne_t rfl q3 ?_
        exact e_fVisits_fillChoices_86 d hk5 h
      · refine am_Ex.if_ne_f rfl (Decidable.not_not.mp q3) ?_
        refine am_Ex.goto rfl ?_
        exact e_fVisits_fillChoices_159 d hk5 h
set_option maxRecDepth 20000 in
theorem e_fVisits_fillChoices_44 (d : Nat) {k5 : Int32 → Int32 → Int32 → Int32 → am_Mu → Option (Int32 × am_Mu)} (hk5 : ∀ {a1 : Int32} {a2 : Int32} {a3 : Int32} {a4 : Int32} {w5 w6 w7 : Value} {μ : am_Mu} {out : Int32 × am_Mu}, k5 a1 a2 a3 a4 μ = some out → am_Ex none (d + 0) 93 5 [.ref 102, .int a1, .int a2, .int a3, .int a4, w5, w6, w7] [] am_SH μ (some (.int out.1), am_SH, out.2)) : ∀ {a1 : Int32} {a2 : Int32} {a3 : Int32} {a4 : Int32} {s0 : Int32} {w5 w6 w7 : Value} {μ : am_Mu} {out : Int32 × am_Mu}, fVisits_fillChoices_44 k5 a1 a2 a3 a4 s0 μ = some out → am_Ex none (d + 0) 93 44 [.ref 102, .int a1, .int a2, .int a3, .int a4, w5, w6, w7] [.int s0] am_SH μ (some (.int out.1), am_SH, out.2) := by
  intro a1 a2 a3 a4 s0 w5 w6 w7 μ out h
  unfold fVisits_fillChoices_44 at h
  refine am_Ex.seg 5 53 [.ref 102, .int a1, .int a2, .int a3, .int a4, .int s0, w6, w7] [.int a4, .ref 106, .int a1] μ (fun _ => rfl) ?_
  obtain ⟨q1, h⟩ := am_bif h
  refine am_Ex.iald (v := (μ 106 ((a4).toNatClampNeg))) rfl rfl q1 rfl ?_
  refine am_Ex.seg 3 59 [.ref 102, .int a1, .int a2, .int a3, .int a4, .int s0, w6, w7] [.int (μ 102 9), .int (a1 - (μ 106 ((a4).toNatClampNeg)))] μ (fun _ => rfl) ?_
  rcases am_ite h with ⟨q2, h⟩ | ⟨q2, h⟩
  · refine am_Ex.icmp_le_t rfl q2 ?_
    refine am_Ex.seg 1 67 [.ref 102, .int a1, .int a2, .int a3, .int a4, .int s0, w6, w7] [.int 0] μ (fun _ => rfl) ?_
    exact e_fVisits_fillChoices_67 d hk5 h
  · refine am_Ex.icmp_le_f rfl q2 ?_
    refine am_Ex.seg 1 63 [.ref 102, .int a1, .int a2, .int a3, .int a4, .int s0, w6, w7] [.int 1] μ (fun _ => rfl) ?_
    refine am_Ex.goto rfl ?_
    exact e_fVisits_fillChoices_67 d hk5 h
set_option maxRecDepth 20000 in
theorem e_fVisits_fillChoices_43 (d : Nat) {k5 : Int32 → Int32 → Int32 → Int32 → am_Mu → Option (Int32 × am_Mu)} (hk5 : ∀ {a1 : Int32} {a2 : Int32} {a3 : Int32} {a4 : Int32} {w5 w6 w7 : Value} {μ : am_Mu} {out : Int32 × am_Mu}, k5 a1 a2 a3 a4 μ = some out → am_Ex none (d + 0) 93 5 [.ref 102, .int a1, .int a2, .int a3, .int a4, w5, w6, w7] [] am_SH μ (some (.int out.1), am_SH, out.2)) : ∀ {a1 : Int32} {a2 : Int32} {a3 : Int32} {a4 : Int32} {w5 w6 w7 : Value} {μ : am_Mu} {out : Int32 × am_Mu}, fVisits_fillChoices_43 k5 a1 a2 a3 a4 μ = some out → am_Ex none (d + 0) 93 43 [.ref 102, .int a1, .int a2, .int a3, .int a4, w5, w6, w7] [] am_SH μ (some (.int out.1), am_SH, out.2) := by
  intro a1 a2 a3 a4 w5 w6 w7 μ out h
  unfold fVisits_fillChoices_43 at h
  refine am_Ex.seg 1 44 [.ref 102, .int a1, .int a2, .int a3, .int a4, w5, w6, w7] [.int 0] μ (fun _ => rfl) ?_
  exact e_fVisits_fillChoices_44 d hk5 h
set_option maxRecDepth 20000 in
theorem e_fVisits_fillChoices_5 (d : Nat) : ∀ n : Nat, ∀ {a1 : Int32} {a2 : Int32} {a3 : Int32} {a4 : Int32} {w5 w6 w7 : Value} {μ : am_Mu} {out : Int32 × am_Mu}, fVisits_fillChoices_5 n a1 a2 a3 a4 μ = some out → am_Ex none (d + 0) 93 5 [.ref 102, .int a1, .int a2, .int a3, .int a4, w5, w6, w7] [] am_SH μ (some (.int out.1), am_SH, out.2) := by
  intro n
  induction n with
  | zero => intros; contradiction
  | succ n ih =>
    have hk5 : ∀ {a1 : Int32} {a2 : Int32} {a3 : Int32} {a4 : Int32} {w5 w6 w7 : Value} {μ : am_Mu} {out : Int32 × am_Mu}, (fVisits_fillChoices_5 n) a1 a2 a3 a4 μ = some out → am_Ex none (d + 0) 93 5 [.ref 102, .int a1, .int a2, .int a3, .int a4, w5, w6, w7] [] am_SH μ (some (.int out.1), am_SH, out.2) := ih
    intro a1 a2 a3 a4 w5 w6 w7 μ out h
    unfold fVisits_fillChoices_5 at h
    refine am_Ex.seg 4 14 [.ref 102, .int a1, .int a2, .int a3, .int a4, w5, w6, w7] [.int (μ 76 8), .int a4] μ (fun _ => rfl) ?_
    rcases am_ite h with ⟨q1, h⟩ | ⟨q1, h⟩
    · refine am_Ex.icmp_ge_t rfl q1 ?_
      refine am_Ex.seg 1 166 [.ref 102, .int a1, .int a2, .int a3, .int a4, w5, w6, w7] [.int a3] μ (fun _ => rfl) ?_
      cases h
      exact am_Ex.iret rfl rfl
    · refine am_Ex.icmp_ge_f rfl q1 ?_
      refine am_Ex.seg 3 23 [.ref 102, .int a1, .int a2, .int a3, .int a4, w5, w6, w7] [.int a4, .ref 105] μ (fun _ => rfl) ?_
      obtain ⟨q2, h⟩ := am_bif h
      refine am_Ex.iald (v := (μ 105 ((a4).toNatClampNeg))) rfl rfl q2 rfl ?_
      refine am_Ex.seg 1 25 [.ref 102, .int a1, .int a2, .int a3, .int a4, w5, w6, w7] [.int (-1), .int (μ 105 ((a4).toNatClampNeg))] μ (fun _ => rfl) ?_
      rcases am_ite h with ⟨q3, h⟩ | ⟨q3, h⟩
      · refine am_Ex.icmp_eq_t rfl q3 ?_
        exact e_fVisits_fillChoices_43 d hk5 h
      · refine am_Ex.icmp_eq_f rfl q3 ?_
        refine am_Ex.seg 3 34 [.ref 102, .int a1, .int a2, .int a3, .int a4, w5, w6, w7] [.int a4, .ref 106] μ (fun _ => rfl) ?_
        refine am_Ex.iald (v := (μ 106 ((a4).toNatClampNeg))) rfl rfl q2 rfl ?_
        refine am_Ex.seg 1 36 [.ref 102, .int a1, .int a2, .int a3, .int a4, w5, w6, w7] [.int a1, .int (μ 106 ((a4).toNatClampNeg))] μ (fun _ => rfl) ?_
        rcases am_ite h with ⟨q4, h⟩ | ⟨q4, h⟩
        · refine am_Ex.icmp_ne_t rfl q4 ?_
          exact e_fVisits_fillChoices_43 d hk5 h
        · refine am_Ex.icmp_ne_f rfl (Decidable.not_not.mp q4) ?_
          refine am_Ex.seg 1 40 [.ref 102, .int a1, .int a2, .int a3, .int a4, w5, w6, w7] [.int 1] μ (fun _ => rfl) ?_
          refine am_Ex.goto rfl ?_
          exact e_fVisits_fillChoices_44 d hk5 h
set_option maxRecDepth 20000 in
theorem e_fVisits_fillChoices (d : Nat) : ∀ {a1 : Int32} {a2 : Int32} {μ : am_Mu} {out : Int32 × am_Mu}, fVisits_fillChoices a1 a2 μ = some out → am_Ex none (d + 0) 93 0 [.ref 102, .int a1, .int a2, .null, .null, .null, .null, .null] [] am_SH μ (some (.int out.1), am_SH, out.2) := by
  intro a1 a2 μ out h
  unfold fVisits_fillChoices at h
  refine am_Ex.seg 4 5 [.ref 102, .int a1, .int a2, .int 0, .int 0, .null, .null, .null] [] μ (fun _ => rfl) ?_
  exact e_fVisits_fillChoices_5 d am_F h
def fVisits_fillRow (a1 : Int32) (μ : am_Mu) : Option (Int32 × am_Mu) := ((fVisits_fillChoices a1 1 μ).bind fun q1 => (if q1.1 ≤ 0 then ((fVisits_fillChoices a1 0 q1.2).bind fun q3 => some (q3.1, q3.2)) else some (q1.1, q1.2)))
set_option maxRecDepth 20000 in
theorem e_fVisits_fillRow (d : Nat) : ∀ {a1 : Int32} {μ : am_Mu} {out : Int32 × am_Mu}, fVisits_fillRow a1 μ = some out → am_Ex none (d + 1) 92 0 [.ref 102, .int a1, .null] [] am_SH μ (some (.int out.1), am_SH, out.2) := by
  intro a1 μ out h
  unfold fVisits_fillRow at h
  refine am_Ex.seg 3 3 [.ref 102, .int a1, .null] [.int 1, .int a1, .ref 102] μ (fun _ => rfl) ?_
  obtain ⟨q1, h_q1, h⟩ := am_bind h
  refine am_Ex.ivk (na := 3) (b := 102) (As' := [.int a1, .int 1]) rfl rfl rfl rfl rfl rfl rfl rfl rfl (e_fVisits_fillChoices (d + 0) h_q1) ?_
  refine am_Ex.same 6 [.ref 102, .int a1, .null] [.int q1.1] q1.2 rfl ?_
  refine am_Ex.seg 2 8 [.ref 102, .int a1, .int q1.1] [.int q1.1] q1.2 (fun _ => rfl) ?_
  rcases am_ite h with ⟨q2, h⟩ | ⟨q2, h⟩
  · refine am_Ex.if_le_t rfl q2 ?_
    refine am_Ex.seg 3 18 [.ref 102, .int a1, .int q1.1] [.int 0, .int a1, .ref 102] q1.2 (fun _ => rfl) ?_
    obtain ⟨q3, h_q3, h⟩ := am_bind h
    refine am_Ex.ivk (na := 3) (b := 102) (As' := [.int a1, .int 0]) rfl rfl rfl rfl rfl rfl rfl rfl rfl (e_fVisits_fillChoices (d + 0) h_q3) ?_
    refine am_Ex.same 21 [.ref 102, .int a1, .int q1.1] [.int q3.1] q3.2 rfl ?_
    cases h
    exact am_Ex.iret rfl rfl
  · refine am_Ex.if_le_f rfl q2 ?_
    refine am_Ex.seg 1 12 [.ref 102, .int a1, .int q1.1] [.int q1.1] q1.2 (fun _ => rfl) ?_
    refine am_Ex.goto rfl ?_
    cases h
    exact am_Ex.iret rfl rfl
def fVisits_drawOne (a1 : Int32) (μ : am_Mu) : Option (Int32 × am_Mu) := (if (μ 102 7) < 400 then ((fVisits_fillRow a1 μ).bind fun q2 => (if 1 ≤ q2.1 then (if q2.1 = 0 then none else (bif am_inb ((((((((((q2.2 102 8)).toInt64) * 1103515245) + 12345) - ((((((q2.2 102 8)).toInt64) * 1103515245) + 12345) / 2147483648) * 2147483648)).toInt32) / 65536) - ((((((((((q2.2 102 8)).toInt64) * 1103515245) + 12345) - ((((((q2.2 102 8)).toInt64) * 1103515245) + 12345) / 2147483648) * 2147483648)).toInt32) / 65536) / q2.1) * q2.1) 48 then (bif am_inb (q2.2 102 7) 400 then (bif am_inb ((q2.2 107 ((((((((((((q2.2 102 8)).toInt64) * 1103515245) + 12345) - ((((((q2.2 102 8)).toInt64) * 1103515245) + 12345) / 2147483648) * 2147483648)).toInt32) / 65536) - ((((((((((q2.2 102 8)).toInt64) * 1103515245) + 12345) - ((((((q2.2 102 8)).toInt64) * 1103515245) + 12345) / 2147483648) * 2147483648)).toInt32) / 65536) / q2.1) * q2.1)).toNatClampNeg)) / 10) 8 then some ((q2.2 107 ((((((((((((q2.2 102 8)).toInt64) * 1103515245) + 12345) - ((((((q2.2 102 8)).toInt64) * 1103515245) + 12345) / 2147483648) * 2147483648)).toInt32) / 65536) - ((((((((((q2.2 102 8)).toInt64) * 1103515245) + 12345) - ((((((q2.2 102 8)).toInt64) * 1103515245) + 12345) / 2147483648) * 2147483648)).toInt32) / 65536) / q2.1) * q2.1)).toNatClampNeg)), (am_up (am_up (am_up (am_up (am_up (am_up q2.2 102 8 ((((((((q2.2 102 8)).toInt64) * 1103515245) + 12345) - ((((((q2.2 102 8)).toInt64) * 1103515245) + 12345) / 2147483648) * 2147483648)).toInt32)) 103 (((q2.2 102 7)).toNatClampNeg) (q2.2 107 ((((((((((((q2.2 102 8)).toInt64) * 1103515245) + 12345) - ((((((q2.2 102 8)).toInt64) * 1103515245) + 12345) / 2147483648) * 2147483648)).toInt32) / 65536) - ((((((((((q2.2 102 8)).toInt64) * 1103515245) + 12345) - ((((((q2.2 102 8)).toInt64) * 1103515245) + 12345) / 2147483648) * 2147483648)).toInt32) / 65536) / q2.1) * q2.1)).toNatClampNeg))) 104 (((q2.2 102 7)).toNatClampNeg) a1) 105 ((((q2.2 107 ((((((((((((q2.2 102 8)).toInt64) * 1103515245) + 12345) - ((((((q2.2 102 8)).toInt64) * 1103515245) + 12345) / 2147483648) * 2147483648)).toInt32) / 65536) - ((((((((((q2.2 102 8)).toInt64) * 1103515245) + 12345) - ((((((q2.2 102 8)).toInt64) * 1103515245) + 12345) / 2147483648) * 2147483648)).toInt32) / 65536) / q2.1) * q2.1)).toNatClampNeg)) / 10)).toNatClampNeg) ((q2.2 107 ((((((((((((q2.2 102 8)).toInt64) * 1103515245) + 12345) - ((((((q2.2 102 8)).toInt64) * 1103515245) + 12345) / 2147483648) * 2147483648)).toInt32) / 65536) - ((((((((((q2.2 102 8)).toInt64) * 1103515245) + 12345) - ((((((q2.2 102 8)).toInt64) * 1103515245) + 12345) / 2147483648) * 2147483648)).toInt32) / 65536) / q2.1) * q2.1)).toNatClampNeg)) - ((q2.2 107 ((((((((((((q2.2 102 8)).toInt64) * 1103515245) + 12345) - ((((((q2.2 102 8)).toInt64) * 1103515245) + 12345) / 2147483648) * 2147483648)).toInt32) / 65536) - ((((((((((q2.2 102 8)).toInt64) * 1103515245) + 12345) - ((((((q2.2 102 8)).toInt64) * 1103515245) + 12345) / 2147483648) * 2147483648)).toInt32) / 65536) / q2.1) * q2.1)).toNatClampNeg)) / 10) * 10)) 106 ((((q2.2 107 ((((((((((((q2.2 102 8)).toInt64) * 1103515245) + 12345) - ((((((q2.2 102 8)).toInt64) * 1103515245) + 12345) / 2147483648) * 2147483648)).toInt32) / 65536) - ((((((((((q2.2 102 8)).toInt64) * 1103515245) + 12345) - ((((((q2.2 102 8)).toInt64) * 1103515245) + 12345) / 2147483648) * 2147483648)).toInt32) / 65536) / q2.1) * q2.1)).toNatClampNeg)) / 10)).toNatClampNeg) a1) 102 7 ((q2.2 102 7) + 1))) else none) else none) else none)) else some ((-1), q2.2))) else some ((-1), μ))
set_option maxRecDepth 20000 in
theorem e_fVisits_drawOne (d : Nat) : ∀ {a1 : Int32} {μ : am_Mu} {out : Int32 × am_Mu}, fVisits_drawOne a1 μ = some out → am_Ex none (d + 2) 94 0 [.ref 102, .int a1, .null, .null] [] am_SH μ (some (.int out.1), am_SH, out.2) := by
  intro a1 μ out h
  unfold fVisits_drawOne at h
  refine am_Ex.seg 3 7 [.ref 102, .int a1, .null, .null] [.int 400, .int (μ 102 7)] μ (fun _ => rfl) ?_
  rcases am_ite h with ⟨q1, h⟩ | ⟨q1, h⟩
  · refine am_Ex.icmp_lt_t rfl q1 ?_
    refine am_Ex.seg 2 14 [.ref 102, .int a1, .null, .null] [.int a1, .ref 102] μ (fun _ => rfl) ?_
    obtain ⟨q2, h_q2, h⟩ := am_bind h
    refine am_Ex.ivk (na := 2) (b := 102) (As' := [.int a1]) rfl rfl rfl rfl rfl rfl rfl rfl rfl (e_fVisits_fillRow (d + 0) h_q2) ?_
    refine am_Ex.same 17 [.ref 102, .int a1, .null, .null] [.int q2.1] q2.2 rfl ?_
    refine am_Ex.seg 3 20 [.ref 102, .int a1, .int q2.1, .null] [.int 1, .int q2.1] q2.2 (fun _ => rfl) ?_
    rcases am_ite h with ⟨q3, h⟩ | ⟨q3, h⟩
    · refine am_Ex.icmp_ge_t rfl q3 ?_
      refine am_Ex.seg 9 42 [.ref 102, .int a1, .int q2.1, .null] [.long 2147483648, .long (((((q2.2 102 8)).toInt64) * 1103515245) + 12345), .ref 102] q2.2 (fun _ => rfl) ?_
      refine am_Ex.lrem rfl (by decide) ?_
      refine am_Ex.seg 7 57 [.ref 102, .int a1, .int q2.1, .null] [.int 65536, .int ((((((((q2.2 102 8)).toInt64) * 1103515245) + 12345) - ((((((q2.2 102 8)).toInt64) * 1103515245) + 12345) / 2147483648) * 2147483648)).toInt32), .ref 107] (am_up q2.2 102 8 ((((((((q2.2 102 8)).toInt64) * 1103515245) + 12345) - ((((((q2.2 102 8)).toInt64) * 1103515245) + 12345) / 2147483648) * 2147483648)).toInt32)) (fun _ => rfl) ?_
      refine am_Ex.idiv rfl (by decide) ?_
      refine am_Ex.seg 1 59 [.ref 102, .int a1, .int q2.1, .null] [.int q2.1, .int (((((((((q2.2 102 8)).toInt64) * 1103515245) + 12345) - ((((((q2.2 102 8)).toInt64) * 1103515245) + 12345) / 2147483648) * 2147483648)).toInt32) / 65536), .ref 107] (am_up q2.2 102 8 ((((((((q2.2 102 8)).toInt64) * 1103515245) + 12345) - ((((((q2.2 102 8)).toInt64) * 1103515245) + 12345) / 2147483648) * 2147483648)).toInt32)) (fun _ => rfl) ?_
      obtain ⟨q4, h⟩ := am_ifn h
      refine am_Ex.irem rfl q4 ?_
      obtain ⟨q5, h⟩ := am_bif h
      refine am_Ex.iald (v := (q2.2 107 ((((((((((((q2.2 102 8)).toInt64) * 1103515245) + 12345) - ((((((q2.2 102 8)).toInt64) * 1103515245) + 12345) / 2147483648) * 2147483648)).toInt32) / 65536) - ((((((((((q2.2 102 8)).toInt64) * 1103515245) + 12345) - ((((((q2.2 102 8)).toInt64) * 1103515245) + 12345) / 2147483648) * 2147483648)).toInt32) / 65536) / q2.1) * q2.1)).toNatClampNeg))) rfl rfl q5 ((am_up_k (by decide)).trans rfl) ?_
      refine am_Ex.seg 6 71 [.ref 102, .int a1, .int q2.1, .int (q2.2 107 ((((((((((((q2.2 102 8)).toInt64) * 1103515245) + 12345) - ((((((q2.2 102 8)).toInt64) * 1103515245) + 12345) / 2147483648) * 2147483648)).toInt32) / 65536) - ((((((((((q2.2 102 8)).toInt64) * 1103515245) + 12345) - ((((((q2.2 102 8)).toInt64) * 1103515245) + 12345) / 2147483648) * 2147483648)).toInt32) / 65536) / q2.1) * q2.1)).toNatClampNeg))] [.int (q2.2 107 ((((((((((((q2.2 102 8)).toInt64) * 1103515245) + 12345) - ((((((q2.2 102 8)).toInt64) * 1103515245) + 12345) / 2147483648) * 2147483648)).toInt32) / 65536) - ((((((((((q2.2 102 8)).toInt64) * 1103515245) + 12345) - ((((((q2.2 102 8)).toInt64) * 1103515245) + 12345) / 2147483648) * 2147483648)).toInt32) / 65536) / q2.1) * q2.1)).toNatClampNeg)), .int (q2.2 102 7), .ref 103] (am_up q2.2 102 8 ((((((((q2.2 102 8)).toInt64) * 1103515245) + 12345) - ((((((q2.2 102 8)).toInt64) * 1103515245) + 12345) / 2147483648) * 2147483648)).toInt32)) (fun _ => rfl) ?_
      obtain ⟨q6, h⟩ := am_bif h
      refine am_Ex.iast (v2 := (q2.2 107 ((((((((((((q2.2 102 8)).toInt64) * 1103515245) + 12345) - ((((((q2.2 102 8)).toInt64) * 1103515245) + 12345) / 2147483648) * 2147483648)).toInt32) / 65536) - ((((((((((q2.2 102 8)).toInt64) * 1103515245) + 12345) - ((((((q2.2 102 8)).toInt64) * 1103515245) + 12345) / 2147483648) * 2147483648)).toInt32) / 65536) / q2.1) * q2.1)).toNatClampNeg))) (i2 := ((q2.2 102 7)).toNatClampNeg) rfl rfl q6 rfl rfl ?_
      refine am_Ex.seg 5 81 [.ref 102, .int a1, .int q2.1, .int (q2.2 107 ((((((((((((q2.2 102 8)).toInt64) * 1103515245) + 12345) - ((((((q2.2 102 8)).toInt64) * 1103515245) + 12345) / 2147483648) * 2147483648)).toInt32) / 65536) - ((((((((((q2.2 102 8)).toInt64) * 1103515245) + 12345) - ((((((q2.2 102 8)).toInt64) * 1103515245) + 12345) / 2147483648) * 2147483648)).toInt32) / 65536) / q2.1) * q2.1)).toNatClampNeg))] [.int a1, .int (q2.2 102 7), .ref 104] (am_up (am_up q2.2 102 8 ((((((((q2.2 102 8)).toInt64) * 1103515245) + 12345) - ((((((q2.2 102 8)).toInt64) * 1103515245) + 12345) / 2147483648) * 2147483648)).toInt32)) 103 (((q2.2 102 7)).toNatClampNeg) (q2.2 107 ((((((((((((q2.2 102 8)).toInt64) * 1103515245) + 12345) - ((((((q2.2 102 8)).toInt64) * 1103515245) + 12345) / 2147483648) * 2147483648)).toInt32) / 65536) - ((((((((((q2.2 102 8)).toInt64) * 1103515245) + 12345) - ((((((q2.2 102 8)).toInt64) * 1103515245) + 12345) / 2147483648) * 2147483648)).toInt32) / 65536) / q2.1) * q2.1)).toNatClampNeg))) (fun _ => rfl) ?_
      refine am_Ex.iast (v2 := a1) (i2 := ((q2.2 102 7)).toNatClampNeg) rfl rfl q6 rfl rfl ?_
      refine am_Ex.seg 4 89 [.ref 102, .int a1, .int q2.1, .int (q2.2 107 ((((((((((((q2.2 102 8)).toInt64) * 1103515245) + 12345) - ((((((q2.2 102 8)).toInt64) * 1103515245) + 12345) / 2147483648) * 2147483648)).toInt32) / 65536) - ((((((((((q2.2 102 8)).toInt64) * 1103515245) + 12345) - ((((((q2.2 102 8)).toInt64) * 1103515245) + 12345) / 2147483648) * 2147483648)).toInt32) / 65536) / q2.1) * q2.1)).toNatClampNeg))] [.int 10, .int (q2.2 107 ((((((((((((q2.2 102 8)).toInt64) * 1103515245) + 12345) - ((((((q2.2 102 8)).toInt64) * 1103515245) + 12345) / 2147483648) * 2147483648)).toInt32) / 65536) - ((((((((((q2.2 102 8)).toInt64) * 1103515245) + 12345) - ((((((q2.2 102 8)).toInt64) * 1103515245) + 12345) / 2147483648) * 2147483648)).toInt32) / 65536) / q2.1) * q2.1)).toNatClampNeg)), .ref 105] (am_up (am_up (am_up q2.2 102 8 ((((((((q2.2 102 8)).toInt64) * 1103515245) + 12345) - ((((((q2.2 102 8)).toInt64) * 1103515245) + 12345) / 2147483648) * 2147483648)).toInt32)) 103 (((q2.2 102 7)).toNatClampNeg) (q2.2 107 ((((((((((((q2.2 102 8)).toInt64) * 1103515245) + 12345) - ((((((q2.2 102 8)).toInt64) * 1103515245) + 12345) / 2147483648) * 2147483648)).toInt32) / 65536) - ((((((((((q2.2 102 8)).toInt64) * 1103515245) + 12345) - ((((((q2.2 102 8)).toInt64) * 1103515245) + 12345) / 2147483648) * 2147483648)).toInt32) / 65536) / q2.1) * q2.1)).toNatClampNeg))) 104 (((q2.2 102 7)).toNatClampNeg) a1) (fun _ => rfl) ?_
      refine am_Ex.idiv rfl (by decide) ?_
      refine am_Ex.seg 2 93 [.ref 102, .int a1, .int q2.1, .int (q2.2 107 ((((((((((((q2.2 102 8)).toInt64) * 1103515245) + 12345) - ((((((q2.2 102 8)).toInt64) * 1103515245) + 12345) / 2147483648) * 2147483648)).toInt32) / 65536) - ((((((((((q2.2 102 8)).toInt64) * 1103515245) + 12345) - ((((((q2.2 102 8)).toInt64) * 1103515245) + 12345) / 2147483648) * 2147483648)).toInt32) / 65536) / q2.1) * q2.1)).toNatClampNeg))] [.int 10, .int (q2.2 107 ((((((((((((q2.2 102 8)).toInt64) * 1103515245) + 12345) - ((((((q2.2 102 8)).toInt64) * 1103515245) + 12345) / 2147483648) * 2147483648)).toInt32) / 65536) - ((((((((((q2.2 102 8)).toInt64) * 1103515245) + 12345) - ((((((q2.2 102 8)).toInt64) * 1103515245) + 12345) / 2147483648) * 2147483648)).toInt32) / 65536) / q2.1) * q2.1)).toNatClampNeg)), .int ((q2.2 107 ((((((((((((q2.2 102 8)).toInt64) * 1103515245) + 12345) - ((((((q2.2 102 8)).toInt64) * 1103515245) + 12345) / 2147483648) * 2147483648)).toInt32) / 65536) - ((((((((((q2.2 102 8)).toInt64) * 1103515245) + 12345) - ((((((q2.2 102 8)).toInt64) * 1103515245) + 12345) / 2147483648) * 2147483648)).toInt32) / 65536) / q2.1) * q2.1)).toNatClampNeg)) / 10), .ref 105] (am_up (am_up (am_up q2.2 102 8 ((((((((q2.2 102 8)).toInt64) * 1103515245) + 12345) - ((((((q2.2 102 8)).toInt64) * 1103515245) + 12345) / 2147483648) * 2147483648)).toInt32)) 103 (((q2.2 102 7)).toNatClampNeg) (q2.2 107 ((((((((((((q2.2 102 8)).toInt64) * 1103515245) + 12345) - ((((((q2.2 102 8)).toInt64) * 1103515245) + 12345) / 2147483648) * 2147483648)).toInt32) / 65536) - ((((((((((q2.2 102 8)).toInt64) * 1103515245) + 12345) - ((((((q2.2 102 8)).toInt64) * 1103515245) + 12345) / 2147483648) * 2147483648)).toInt32) / 65536) / q2.1) * q2.1)).toNatClampNeg))) 104 (((q2.2 102 7)).toNatClampNeg) a1) (fun _ => rfl) ?_
      refine am_Ex.irem rfl (by decide) ?_
      obtain ⟨q7, h⟩ := am_bif h
      refine am_Ex.iast (v2 := ((q2.2 107 ((((((((((((q2.2 102 8)).toInt64) * 1103515245) + 12345) - ((((((q2.2 102 8)).toInt64) * 1103515245) + 12345) / 2147483648) * 2147483648)).toInt32) / 65536) - ((((((((((q2.2 102 8)).toInt64) * 1103515245) + 12345) - ((((((q2.2 102 8)).toInt64) * 1103515245) + 12345) / 2147483648) * 2147483648)).toInt32) / 65536) / q2.1) * q2.1)).toNatClampNeg)) - ((q2.2 107 ((((((((((((q2.2 102 8)).toInt64) * 1103515245) + 12345) - ((((((q2.2 102 8)).toInt64) * 1103515245) + 12345) / 2147483648) * 2147483648)).toInt32) / 65536) - ((((((((((q2.2 102 8)).toInt64) * 1103515245) + 12345) - ((((((q2.2 102 8)).toInt64) * 1103515245) + 12345) / 2147483648) * 2147483648)).toInt32) / 65536) / q2.1) * q2.1)).toNatClampNeg)) / 10) * 10)) (i2 := (((q2.2 107 ((((((((((((q2.2 102 8)).toInt64) * 1103515245) + 12345) - ((((((q2.2 102 8)).toInt64) * 1103515245) + 12345) / 2147483648) * 2147483648)).toInt32) / 65536) - ((((((((((q2.2 102 8)).toInt64) * 1103515245) + 12345) - ((((((q2.2 102 8)).toInt64) * 1103515245) + 12345) / 2147483648) * 2147483648)).toInt32) / 65536) / q2.1) * q2.1)).toNatClampNeg)) / 10)).toNatClampNeg) rfl rfl q7 rfl rfl ?_
      refine am_Ex.seg 4 102 [.ref 102, .int a1, .int q2.1, .int (q2.2 107 ((((((((((((q2.2 102 8)).toInt64) * 1103515245) + 12345) - ((((((q2.2 102 8)).toInt64) * 1103515245) + 12345) / 2147483648) * 2147483648)).toInt32) / 65536) - ((((((((((q2.2 102 8)).toInt64) * 1103515245) + 12345) - ((((((q2.2 102 8)).toInt64) * 1103515245) + 12345) / 2147483648) * 2147483648)).toInt32) / 65536) / q2.1) * q2.1)).toNatClampNeg))] [.int 10, .int (q2.2 107 ((((((((((((q2.2 102 8)).toInt64) * 1103515245) + 12345) - ((((((q2.2 102 8)).toInt64) * 1103515245) + 12345) / 2147483648) * 2147483648)).toInt32) / 65536) - ((((((((((q2.2 102 8)).toInt64) * 1103515245) + 12345) - ((((((q2.2 102 8)).toInt64) * 1103515245) + 12345) / 2147483648) * 2147483648)).toInt32) / 65536) / q2.1) * q2.1)).toNatClampNeg)), .ref 106] (am_up (am_up (am_up (am_up q2.2 102 8 ((((((((q2.2 102 8)).toInt64) * 1103515245) + 12345) - ((((((q2.2 102 8)).toInt64) * 1103515245) + 12345) / 2147483648) * 2147483648)).toInt32)) 103 (((q2.2 102 7)).toNatClampNeg) (q2.2 107 ((((((((((((q2.2 102 8)).toInt64) * 1103515245) + 12345) - ((((((q2.2 102 8)).toInt64) * 1103515245) + 12345) / 2147483648) * 2147483648)).toInt32) / 65536) - ((((((((((q2.2 102 8)).toInt64) * 1103515245) + 12345) - ((((((q2.2 102 8)).toInt64) * 1103515245) + 12345) / 2147483648) * 2147483648)).toInt32) / 65536) / q2.1) * q2.1)).toNatClampNeg))) 104 (((q2.2 102 7)).toNatClampNeg) a1) 105 ((((q2.2 107 ((((((((((((q2.2 102 8)).toInt64) * 1103515245) + 12345) - ((((((q2.2 102 8)).toInt64) * 1103515245) + 12345) / 2147483648) * 2147483648)).toInt32) / 65536) - ((((((((((q2.2 102 8)).toInt64) * 1103515245) + 12345) - ((((((q2.2 102 8)).toInt64) * 1103515245) + 12345) / 2147483648) * 2147483648)).toInt32) / 65536) / q2.1) * q2.1)).toNatClampNeg)) / 10)).toNatClampNeg) ((q2.2 107 ((((((((((((q2.2 102 8)).toInt64) * 1103515245) + 12345) - ((((((q2.2 102 8)).toInt64) * 1103515245) + 12345) / 2147483648) * 2147483648)).toInt32) / 65536) - ((((((((((q2.2 102 8)).toInt64) * 1103515245) + 12345) - ((((((q2.2 102 8)).toInt64) * 1103515245) + 12345) / 2147483648) * 2147483648)).toInt32) / 65536) / q2.1) * q2.1)).toNatClampNeg)) - ((q2.2 107 ((((((((((((q2.2 102 8)).toInt64) * 1103515245) + 12345) - ((((((q2.2 102 8)).toInt64) * 1103515245) + 12345) / 2147483648) * 2147483648)).toInt32) / 65536) - ((((((((((q2.2 102 8)).toInt64) * 1103515245) + 12345) - ((((((q2.2 102 8)).toInt64) * 1103515245) + 12345) / 2147483648) * 2147483648)).toInt32) / 65536) / q2.1) * q2.1)).toNatClampNeg)) / 10) * 10)) (fun _ => rfl) ?_
      refine am_Ex.idiv rfl (by decide) ?_
      refine am_Ex.seg 1 104 [.ref 102, .int a1, .int q2.1, .int (q2.2 107 ((((((((((((q2.2 102 8)).toInt64) * 1103515245) + 12345) - ((((((q2.2 102 8)).toInt64) * 1103515245) + 12345) / 2147483648) * 2147483648)).toInt32) / 65536) - ((((((((((q2.2 102 8)).toInt64) * 1103515245) + 12345) - ((((((q2.2 102 8)).toInt64) * 1103515245) + 12345) / 2147483648) * 2147483648)).toInt32) / 65536) / q2.1) * q2.1)).toNatClampNeg))] [.int a1, .int ((q2.2 107 ((((((((((((q2.2 102 8)).toInt64) * 1103515245) + 12345) - ((((((q2.2 102 8)).toInt64) * 1103515245) + 12345) / 2147483648) * 2147483648)).toInt32) / 65536) - ((((((((((q2.2 102 8)).toInt64) * 1103515245) + 12345) - ((((((q2.2 102 8)).toInt64) * 1103515245) + 12345) / 2147483648) * 2147483648)).toInt32) / 65536) / q2.1) * q2.1)).toNatClampNeg)) / 10), .ref 106] (am_up (am_up (am_up (am_up q2.2 102 8 ((((((((q2.2 102 8)).toInt64) * 1103515245) + 12345) - ((((((q2.2 102 8)).toInt64) * 1103515245) + 12345) / 2147483648) * 2147483648)).toInt32)) 103 (((q2.2 102 7)).toNatClampNeg) (q2.2 107 ((((((((((((q2.2 102 8)).toInt64) * 1103515245) + 12345) - ((((((q2.2 102 8)).toInt64) * 1103515245) + 12345) / 2147483648) * 2147483648)).toInt32) / 65536) - ((((((((((q2.2 102 8)).toInt64) * 1103515245) + 12345) - ((((((q2.2 102 8)).toInt64) * 1103515245) + 12345) / 2147483648) * 2147483648)).toInt32) / 65536) / q2.1) * q2.1)).toNatClampNeg))) 104 (((q2.2 102 7)).toNatClampNeg) a1) 105 ((((q2.2 107 ((((((((((((q2.2 102 8)).toInt64) * 1103515245) + 12345) - ((((((q2.2 102 8)).toInt64) * 1103515245) + 12345) / 2147483648) * 2147483648)).toInt32) / 65536) - ((((((((((q2.2 102 8)).toInt64) * 1103515245) + 12345) - ((((((q2.2 102 8)).toInt64) * 1103515245) + 12345) / 2147483648) * 2147483648)).toInt32) / 65536) / q2.1) * q2.1)).toNatClampNeg)) / 10)).toNatClampNeg) ((q2.2 107 ((((((((((((q2.2 102 8)).toInt64) * 1103515245) + 12345) - ((((((q2.2 102 8)).toInt64) * 1103515245) + 12345) / 2147483648) * 2147483648)).toInt32) / 65536) - ((((((((((q2.2 102 8)).toInt64) * 1103515245) + 12345) - ((((((q2.2 102 8)).toInt64) * 1103515245) + 12345) / 2147483648) * 2147483648)).toInt32) / 65536) / q2.1) * q2.1)).toNatClampNeg)) - ((q2.2 107 ((((((((((((q2.2 102 8)).toInt64) * 1103515245) + 12345) - ((((((q2.2 102 8)).toInt64) * 1103515245) + 12345) / 2147483648) * 2147483648)).toInt32) / 65536) - ((((((((((q2.2 102 8)).toInt64) * 1103515245) + 12345) - ((((((q2.2 102 8)).toInt64) * 1103515245) + 12345) / 2147483648) * 2147483648)).toInt32) / 65536) / q2.1) * q2.1)).toNatClampNeg)) / 10) * 10)) (fun _ => rfl) ?_
      refine am_Ex.iast (v2 := a1) (i2 := (((q2.2 107 ((((((((((((q2.2 102 8)).toInt64) * 1103515245) + 12345) - ((((((q2.2 102 8)).toInt64) * 1103515245) + 12345) / 2147483648) * 2147483648)).toInt32) / 65536) - ((((((((((q2.2 102 8)).toInt64) * 1103515245) + 12345) - ((((((q2.2 102 8)).toInt64) * 1103515245) + 12345) / 2147483648) * 2147483648)).toInt32) / 65536) / q2.1) * q2.1)).toNatClampNeg)) / 10)).toNatClampNeg) rfl rfl q7 rfl rfl ?_
      refine am_Ex.seg 7 116 [.ref 102, .int a1, .int q2.1, .int (q2.2 107 ((((((((((((q2.2 102 8)).toInt64) * 1103515245) + 12345) - ((((((q2.2 102 8)).toInt64) * 1103515245) + 12345) / 2147483648) * 2147483648)).toInt32) / 65536) - ((((((((((q2.2 102 8)).toInt64) * 1103515245) + 12345) - ((((((q2.2 102 8)).toInt64) * 1103515245) + 12345) / 2147483648) * 2147483648)).toInt32) / 65536) / q2.1) * q2.1)).toNatClampNeg))] [.int (q2.2 107 ((((((((((((q2.2 102 8)).toInt64) * 1103515245) + 12345) - ((((((q2.2 102 8)).toInt64) * 1103515245) + 12345) / 2147483648) * 2147483648)).toInt32) / 65536) - ((((((((((q2.2 102 8)).toInt64) * 1103515245) + 12345) - ((((((q2.2 102 8)).toInt64) * 1103515245) + 12345) / 2147483648) * 2147483648)).toInt32) / 65536) / q2.1) * q2.1)).toNatClampNeg))] (am_up (am_up (am_up (am_up (am_up (am_up q2.2 102 8 ((((((((q2.2 102 8)).toInt64) * 1103515245) + 12345) - ((((((q2.2 102 8)).toInt64) * 1103515245) + 12345) / 2147483648) * 2147483648)).toInt32)) 103 (((q2.2 102 7)).toNatClampNeg) (q2.2 107 ((((((((((((q2.2 102 8)).toInt64) * 1103515245) + 12345) - ((((((q2.2 102 8)).toInt64) * 1103515245) + 12345) / 2147483648) * 2147483648)).toInt32) / 65536) - ((((((((((q2.2 102 8)).toInt64) * 1103515245) + 12345) - ((((((q2.2 102 8)).toInt64) * 1103515245) + 12345) / 2147483648) * 2147483648)).toInt32) / 65536) / q2.1) * q2.1)).toNatClampNeg))) 104 (((q2.2 102 7)).toNatClampNeg) a1) 105 ((((q2.2 107 ((((((((((((q2.2 102 8)).toInt64) * 1103515245) + 12345) - ((((((q2.2 102 8)).toInt64) * 1103515245) + 12345) / 2147483648) * 2147483648)).toInt32) / 65536) - ((((((((((q2.2 102 8)).toInt64) * 1103515245) + 12345) - ((((((q2.2 102 8)).toInt64) * 1103515245) + 12345) / 2147483648) * 2147483648)).toInt32) / 65536) / q2.1) * q2.1)).toNatClampNeg)) / 10)).toNatClampNeg) ((q2.2 107 ((((((((((((q2.2 102 8)).toInt64) * 1103515245) + 12345) - ((((((q2.2 102 8)).toInt64) * 1103515245) + 12345) / 2147483648) * 2147483648)).toInt32) / 65536) - ((((((((((q2.2 102 8)).toInt64) * 1103515245) + 12345) - ((((((q2.2 102 8)).toInt64) * 1103515245) + 12345) / 2147483648) * 2147483648)).toInt32) / 65536) / q2.1) * q2.1)).toNatClampNeg)) - ((q2.2 107 ((((((((((((q2.2 102 8)).toInt64) * 1103515245) + 12345) - ((((((q2.2 102 8)).toInt64) * 1103515245) + 12345) / 2147483648) * 2147483648)).toInt32) / 65536) - ((((((((((q2.2 102 8)).toInt64) * 1103515245) + 12345) - ((((((q2.2 102 8)).toInt64) * 1103515245) + 12345) / 2147483648) * 2147483648)).toInt32) / 65536) / q2.1) * q2.1)).toNatClampNeg)) / 10) * 10)) 106 ((((q2.2 107 ((((((((((((q2.2 102 8)).toInt64) * 1103515245) + 12345) - ((((((q2.2 102 8)).toInt64) * 1103515245) + 12345) / 2147483648) * 2147483648)).toInt32) / 65536) - ((((((((((q2.2 102 8)).toInt64) * 1103515245) + 12345) - ((((((q2.2 102 8)).toInt64) * 1103515245) + 12345) / 2147483648) * 2147483648)).toInt32) / 65536) / q2.1) * q2.1)).toNatClampNeg)) / 10)).toNatClampNeg) a1) 102 7 ((q2.2 102 7) + 1)) (fun _ => rfl) ?_
      cases h
      exact am_Ex.iret rfl rfl
    · refine am_Ex.icmp_ge_f rfl q3 ?_
      refine am_Ex.seg 1 24 [.ref 102, .int a1, .int q2.1, .null] [.int (-1)] q2.2 (fun _ => rfl) ?_
      cases h
      exact am_Ex.iret rfl rfl
  · refine am_Ex.icmp_lt_f rfl q1 ?_
    refine am_Ex.seg 1 11 [.ref 102, .int a1, .null, .null] [.int (-1)] μ (fun _ => rfl) ?_
    cases h
    exact am_Ex.iret rfl rfl
def fVisits_kitchenOf (a1 : Int32) (μ : am_Mu) : Option (Int32 × am_Mu) := (bif am_inb a1 400 then some (((μ 103 ((a1).toNatClampNeg)) / 10), μ) else none)
set_option maxRecDepth 20000 in
theorem e_fVisits_kitchenOf (d : Nat) : ∀ {a1 : Int32} {μ : am_Mu} {out : Int32 × am_Mu}, fVisits_kitchenOf a1 μ = some out → am_Ex none (d + 0) 95 0 [.ref 102, .int a1] [] am_SH μ (some (.int out.1), am_SH, out.2) := by
  intro a1 μ out h
  unfold fVisits_kitchenOf at h
  refine am_Ex.seg 3 5 [.ref 102, .int a1] [.int a1, .ref 103] μ (fun _ => rfl) ?_
  obtain ⟨q1, h⟩ := am_bif h
  refine am_Ex.iald (v := (μ 103 ((a1).toNatClampNeg))) rfl rfl q1 rfl ?_
  refine am_Ex.seg 1 8 [.ref 102, .int a1] [.int 10, .int (μ 103 ((a1).toNatClampNeg))] μ (fun _ => rfl) ?_
  refine am_Ex.idiv rfl (by decide) ?_
  cases h
  exact am_Ex.iret rfl rfl
def fVisits_visitorOf (a1 : Int32) (μ : am_Mu) : Option (Int32 × am_Mu) := (bif am_inb a1 400 then some (((μ 103 ((a1).toNatClampNeg)) - ((μ 103 ((a1).toNatClampNeg)) / 10) * 10), μ) else none)
set_option maxRecDepth 20000 in
theorem e_fVisits_visitorOf (d : Nat) : ∀ {a1 : Int32} {μ : am_Mu} {out : Int32 × am_Mu}, fVisits_visitorOf a1 μ = some out → am_Ex none (d + 0) 96 0 [.ref 102, .int a1] [] am_SH μ (some (.int out.1), am_SH, out.2) := by
  intro a1 μ out h
  unfold fVisits_visitorOf at h
  refine am_Ex.seg 3 5 [.ref 102, .int a1] [.int a1, .ref 103] μ (fun _ => rfl) ?_
  obtain ⟨q1, h⟩ := am_bif h
  refine am_Ex.iald (v := (μ 103 ((a1).toNatClampNeg))) rfl rfl q1 rfl ?_
  refine am_Ex.seg 1 8 [.ref 102, .int a1] [.int 10, .int (μ 103 ((a1).toNatClampNeg))] μ (fun _ => rfl) ?_
  refine am_Ex.irem rfl (by decide) ?_
  cases h
  exact am_Ex.iret rfl rfl
def fVisits_kitchensOn_46 (k5 : Int32 → Int32 → Int32 → Int32 → am_Mu → Option (Int32 × am_Mu)) (a1 : Int32) (a2 : Int32) (a3 : Int32) (a4 : Int32) (μ : am_Mu) : Option (Int32 × am_Mu) := k5 a1 a2 a3 (a4 + 1) μ
def fVisits_kitchensOn_5 : Nat → Int32 → Int32 → Int32 → Int32 → am_Mu → Option (Int32 × am_Mu)
  | 0, _, _, _, _, _ => none
  | n + 1, a1, a2, a3, a4, μ => (if (μ 102 7) ≤ a4 then some (a3, μ) else (bif am_inb a4 400 then (if ¬ (μ 104 ((a4).toNatClampNeg)) = a1 then fVisits_kitchensOn_46 (fVisits_kitchensOn_5 n) a1 a2 a3 a4 μ else ((fVisits_visitorOf a4 μ).bind fun q4 => (if ¬ q4.1 = a2 then fVisits_kitchensOn_46 (fVisits_kitchensOn_5 n) a1 a2 a3 a4 q4.2 else ((fVisits_kitchenOf a4 q4.2).bind fun q6 => fVisits_kitchensOn_46 (fVisits_kitchensOn_5 n) a1 a2 (a3 ||| ((1 : Int32) <<< (q6.1 &&& 31))) a4 q6.2)))) else none))
def fVisits_kitchensOn (a1 : Int32) (a2 : Int32) (μ : am_Mu) : Option (Int32 × am_Mu) := fVisits_kitchensOn_5 am_F a1 a2 0 0 μ
set_option maxRecDepth 20000 in
theorem e_fVisits_kitchensOn_46 (d : Nat) {k5 : Int32 → Int32 → Int32 → Int32 → am_Mu → Option (Int32 × am_Mu)} (hk5 : ∀ {a1 : Int32} {a2 : Int32} {a3 : Int32} {a4 : Int32} {μ : am_Mu} {out : Int32 × am_Mu}, k5 a1 a2 a3 a4 μ = some out → am_Ex none (d + 1) 97 5 [.ref 102, .int a1, .int a2, .int a3, .int a4] [] am_SH μ (some (.int out.1), am_SH, out.2)) : ∀ {a1 : Int32} {a2 : Int32} {a3 : Int32} {a4 : Int32} {μ : am_Mu} {out : Int32 × am_Mu}, fVisits_kitchensOn_46 k5 a1 a2 a3 a4 μ = some out → am_Ex none (d + 1) 97 46 [.ref 102, .int a1, .int a2, .int a3, .int a4] [] am_SH μ (some (.int out.1), am_SH, out.2) := by
  intro a1 a2 a3 a4 μ out h
  unfold fVisits_kitchensOn_46 at h
  refine am_Ex.seg 1 49 [.ref 102, .int a1, .int a2, .int a3, .int (a4 + 1)] [] μ (fun _ => rfl) ?_
  refine am_Ex.goto rfl ?_
  exact hk5 h
set_option maxRecDepth 20000 in
theorem e_fVisits_kitchensOn_5 (d : Nat) : ∀ n : Nat, ∀ {a1 : Int32} {a2 : Int32} {a3 : Int32} {a4 : Int32} {μ : am_Mu} {out : Int32 × am_Mu}, fVisits_kitchensOn_5 n a1 a2 a3 a4 μ = some out → am_Ex none (d + 1) 97 5 [.ref 102, .int a1, .int a2, .int a3, .int a4] [] am_SH μ (some (.int out.1), am_SH, out.2) := by
  intro n
  induction n with
  | zero => intros; contradiction
  | succ n ih =>
    have hk5 : ∀ {a1 : Int32} {a2 : Int32} {a3 : Int32} {a4 : Int32} {μ : am_Mu} {out : Int32 × am_Mu}, (fVisits_kitchensOn_5 n) a1 a2 a3 a4 μ = some out → am_Ex none (d + 1) 97 5 [.ref 102, .int a1, .int a2, .int a3, .int a4] [] am_SH μ (some (.int out.1), am_SH, out.2) := ih
    intro a1 a2 a3 a4 μ out h
    unfold fVisits_kitchensOn_5 at h
    refine am_Ex.seg 3 11 [.ref 102, .int a1, .int a2, .int a3, .int a4] [.int (μ 102 7), .int a4] μ (fun _ => rfl) ?_
    rcases am_ite h with ⟨q1, h⟩ | ⟨q1, h⟩
    · refine am_Ex.icmp_ge_t rfl q1 ?_
      refine am_Ex.seg 1 53 [.ref 102, .int a1, .int a2, .int a3, .int a4] [.int a3] μ (fun _ => rfl) ?_
      cases h
      exact am_Ex.iret rfl rfl
    · refine am_Ex.icmp_ge_f rfl q1 ?_
      refine am_Ex.seg 3 20 [.ref 102, .int a1, .int a2, .int a3, .int a4] [.int a4, .ref 104] μ (fun _ => rfl) ?_
      obtain ⟨q2, h⟩ := am_bif h
      refine am_Ex.iald (v := (μ 104 ((a4).toNatClampNeg))) rfl rfl q2 rfl ?_
      refine am_Ex.seg 1 22 [.ref 102, .int a1, .int a2, .int a3, .int a4] [.int a1, .int (μ 104 ((a4).toNatClampNeg))] μ (fun _ => rfl) ?_
      rcases am_ite h with ⟨q3, h⟩ | ⟨q3, h⟩
      · refine am_Ex.icmp_ne_t rfl q3 ?_
        exact e_fVisits_kitchensOn_46 d hk5 h
      · refine am_Ex.icmp_ne_f rfl (Decidable.not_not.mp q3) ?_
        refine am_Ex.seg 2 28 [.ref 102, .int a1, .int a2, .int a3, .int a4] [.int a4, .ref 102] μ (fun _ => rfl) ?_
        obtain ⟨q4, h_q4, h⟩ := am_bind h
        refine am_Ex.ivk (na := 2) (b := 102) (As' := [.int a4]) rfl rfl rfl rfl rfl rfl rfl rfl rfl (e_fVisits_visitorOf (d + 0) h_q4) ?_
        refine am_Ex.same 31 [.ref 102, .int a1, .int a2, .int a3, .int a4] [.int q4.1] q4.2 rfl ?_
        refine am_Ex.seg 1 32 [.ref 102, .int a1, .int a2, .int a3, .int a4] [.int a2, .int q4.1] q4.2 (fun _ => rfl) ?_
        rcases am_ite h with ⟨q5, h⟩ | ⟨q5, h⟩
        · refine am_Ex.icmp_ne_t rfl q5 ?_
          exact e_fVisits_kitchensOn_46 d hk5 h
        · refine am_Ex.icmp_ne_f rfl (Decidable.not_not.mp q5) ?_
          refine am_Ex.seg 4 40 [.ref 102, .int a1, .int a2, .int a3, .int a4] [.int a4, .ref 102, .int 1, .int a3] q4.2 (fun _ => rfl) ?_
          obtain ⟨q6, h_q6, h⟩ := am_bind h
          refine am_Ex.ivk (na := 2) (b := 102) (As' := [.int a4]) rfl rfl rfl rfl rfl rfl rfl rfl rfl (e_fVisits_kitchenOf (d + 0) h_q6) ?_
          refine am_Ex.same 43 [.ref 102, .int a1, .int a2, .int a3, .int a4] [.int q6.1, .int 1, .int a3] q6.2 rfl ?_
          refine am_Ex.seg 3 46 [.ref 102, .int a1, .int a2, .int (a3 ||| ((1 : Int32) <<< (q6.1 &&& 31))), .int a4] [] q6.2 (fun _ => rfl) ?_
          exact e_fVisits_kitchensOn_46 d hk5 h
set_option maxRecDepth 20000 in
theorem e_fVisits_kitchensOn (d : Nat) : ∀ {a1 : Int32} {a2 : Int32} {μ : am_Mu} {out : Int32 × am_Mu}, fVisits_kitchensOn a1 a2 μ = some out → am_Ex none (d + 1) 97 0 [.ref 102, .int a1, .int a2, .null, .null] [] am_SH μ (some (.int out.1), am_SH, out.2) := by
  intro a1 a2 μ out h
  unfold fVisits_kitchensOn at h
  refine am_Ex.seg 4 5 [.ref 102, .int a1, .int a2, .int 0, .int 0] [] μ (fun _ => rfl) ?_
  exact e_fVisits_kitchensOn_5 d am_F h
def fB_isMinute (a0 : Int32) (μ : am_Mu) : Option (Int32 × am_Mu) := ((fB_isIn a0 1440000 μ).bind fun q1 => (if q1.1 &&& 1 = q1.1 then some (q1.1, q1.2) else none))
set_option maxRecDepth 20000 in
theorem e_fB_isMinute (d : Nat) : ∀ {a0 : Int32} {μ : am_Mu} {out : Int32 × am_Mu}, fB_isMinute a0 μ = some out → am_Ex none (d + 1) 137 0 [.int a0] [] am_SH μ (some (.int out.1), am_SH, out.2) := by
  intro a0 μ out h
  unfold fB_isMinute at h
  refine am_Ex.seg 2 4 [.int a0] [.int 1440000, .int a0] μ (fun _ => rfl) ?_
  obtain ⟨q1, h_q1, h⟩ := am_bind h
  refine am_Ex.isk (na := 2) rfl (As := [.int a0, .int 1440000]) rfl rfl rfl rfl rfl rfl (e_fB_isIn (d + 0) h_q1) ?_
  refine am_Ex.same 7 [.int a0] [.int q1.1] q1.2 rfl ?_
  obtain ⟨q2, h⟩ := am_ifp h
  cases h
  exact am_Ex.zret rfl rfl q2
def fB_now (a1 : Int32) (μ : am_Mu) : Option (Int32 × am_Mu) := ((fB_isMinute a1 μ).bind fun q1 => (if q1.1 = 0 then some (0, q1.2) else (if (q1.2 0 11) ≤ a1 then some (1, (am_up q1.2 0 11 a1)) else some (0, q1.2))))
set_option maxRecDepth 20000 in
theorem e_fB_now (d : Nat) : ∀ {a1 : Int32} {μ : am_Mu} {out : Int32 × am_Mu}, fB_now a1 μ = some out → am_Ex none (d + 2) 99 0 [.ref 0, .int a1] [] am_SH μ (some (.int out.1), am_SH, out.2) := by
  intro a1 μ out h
  unfold fB_now at h
  refine am_Ex.seg 1 1 [.ref 0, .int a1] [.int a1] μ (fun _ => rfl) ?_
  obtain ⟨q1, h_q1, h⟩ := am_bind h
  refine am_Ex.isk (na := 1) rfl (As := [.int a1]) rfl rfl rfl rfl rfl rfl (e_fB_isMinute (d + 0) h_q1) ?_
  refine am_Ex.same 4 [.ref 0, .int a1] [.int q1.1] q1.2 rfl ?_
  rcases am_ite h with ⟨q2, h⟩ | ⟨q2, h⟩
  · refine am_Ex.if_eq_t rfl q2 ?_
    refine am_Ex.seg 1 16 [.ref 0, .int a1] [.int 0] q1.2 (fun _ => rfl) ?_
    cases h
    exact am_Ex.zret rfl rfl (by decide)
  · refine am_Ex.if_eq_f rfl q2 ?_
    refine am_Ex.seg 3 12 [.ref 0, .int a1] [.int (q1.2 0 11), .int a1] q1.2 (fun _ => rfl) ?_
    rcases am_ite h with ⟨q3, h⟩ | ⟨q3, h⟩
    · refine am_Ex.icmp_ge_t rfl q3 ?_
      refine am_Ex.seg 4 23 [.ref 0, .int a1] [.int 1] (am_up q1.2 0 11 a1) (fun _ => rfl) ?_
      cases h
      exact am_Ex.zret rfl rfl (by decide)
    · refine am_Ex.icmp_ge_f rfl q3 ?_
      refine am_Ex.seg 1 16 [.ref 0, .int a1] [.int 0] q1.2 (fun _ => rfl) ?_
      cases h
      exact am_Ex.zret rfl rfl (by decide)
def fB_feast (a1 : Int32) (a2 : Int32) (a3 : Int32) (μ : am_Mu) : Option (Int32 × am_Mu) := ((fFeasts_tell a1 a2 a3 μ).bind fun q1 => (if q1.1 &&& 1 = q1.1 then some (q1.1, q1.2) else none))
set_option maxRecDepth 20000 in
theorem e_fB_feast (d : Nat) : ∀ {a1 : Int32} {a2 : Int32} {a3 : Int32} {μ : am_Mu} {out : Int32 × am_Mu}, fB_feast a1 a2 a3 μ = some out → am_Ex none (d + 2) 100 0 [.ref 0, .int a1, .int a2, .int a3] [] am_SH μ (some (.int out.1), am_SH, out.2) := by
  intro a1 a2 a3 μ out h
  unfold fB_feast at h
  refine am_Ex.seg 5 7 [.ref 0, .int a1, .int a2, .int a3] [.int a3, .int a2, .int a1, .ref 1] μ (fun _ => rfl) ?_
  obtain ⟨q1, h_q1, h⟩ := am_bind h
  refine am_Ex.ivk (na := 4) (b := 1) (As' := [.int a1, .int a2, .int a3]) rfl rfl rfl rfl rfl rfl rfl rfl rfl (e_fFeasts_tell (d + 0) h_q1) ?_
  refine am_Ex.same 10 [.ref 0, .int a1, .int a2, .int a3] [.int q1.1] q1.2 rfl ?_
  obtain ⟨q2, h⟩ := am_ifp h
  cases h
  exact am_Ex.zret rfl rfl q2
def fB_isFeast (a1 : Int32) (μ : am_Mu) : Option (Int32 × am_Mu) := ((fB_isIn a1 1000 μ).bind fun q1 => (if ¬ q1.1 = 0 then ((fFeasts_has a1 q1.2).bind fun q3 => (if q3.1 = 0 then some (0, q3.2) else some (1, q3.2))) else some ((-1), q1.2)))
set_option maxRecDepth 20000 in
theorem e_fB_isFeast (d : Nat) : ∀ {a1 : Int32} {μ : am_Mu} {out : Int32 × am_Mu}, fB_isFeast a1 μ = some out → am_Ex none (d + 3) 101 0 [.ref 0, .int a1] [] am_SH μ (some (.int out.1), am_SH, out.2) := by
  intro a1 μ out h
  unfold fB_isFeast at h
  refine am_Ex.seg 2 4 [.ref 0, .int a1] [.int 1000, .int a1] μ (fun _ => rfl) ?_
  obtain ⟨q1, h_q1, h⟩ := am_bind h
  refine am_Ex.isk (na := 2) rfl (As := [.int a1, .int 1000]) rfl rfl rfl rfl rfl rfl (e_fB_isIn (d + 2) h_q1) ?_
  refine am_Ex.same 7 [.ref 0, .int a1] [.int q1.1] q1.2 rfl ?_
  rcases am_ite h with ⟨q2, h⟩ | ⟨q2, h⟩
  · refine am_Ex.if_ne_t rfl q2 ?_
    refine am_Ex.seg 3 17 [.ref 0, .int a1] [.int a1, .ref 1] q1.2 (fun _ => rfl) ?_
    obtain ⟨q3, h_q3, h⟩ := am_bind h
    refine am_Ex.ivk (na := 2) (b := 1) (As' := [.int a1]) rfl rfl rfl rfl rfl rfl rfl rfl rfl (e_fFeasts_has (d + 0) h_q3) ?_
    refine am_Ex.same 20 [.ref 0, .int a1] [.int q3.1] q3.2 rfl ?_
    rcases am_ite h with ⟨q4, h⟩ | ⟨q4, h⟩
    · refine am_Ex.if_eq_t rfl q4 ?_
      refine am_Ex.seg 1 28 [.ref 0, .int a1] [.int 0] q3.2 (fun _ => rfl) ?_
      cases h
      exact am_Ex.iret rfl rfl
    · refine am_Ex.if_eq_f rfl q4 ?_
      refine am_Ex.seg 1 24 [.ref 0, .int a1] [.int 1] q3.2 (fun _ => rfl) ?_
      refine am_Ex.goto rfl ?_
      cases h
      exact am_Ex.iret rfl rfl
  · refine am_Ex.if_ne_f rfl (Decidable.not_not.mp q2) ?_
    refine am_Ex.seg 1 11 [.ref 0, .int a1] [.int (-1)] q1.2 (fun _ => rfl) ?_
    cases h
    exact am_Ex.iret rfl rfl
