def fM_lies_14 (μ : am_Mu) : Option (Int32 × am_Mu) := some (0, μ)
def fM_lies (a0 : Int32) (a1 : Int32) (a2 : Int32) (μ : am_Mu) : Option (Int32 × am_Mu) := (if a0 < a1 then fM_lies_14 μ else (if a2 < a0 then fM_lies_14 μ else some (1, μ)))
set_option maxRecDepth 20000 in
theorem e_fM_lies_14 (d : Nat) : ∀ {w0 w1 w2 : Value} {μ : am_Mu} {out : Int32 × am_Mu}, fM_lies_14 μ = some out → am_Ex none (d + 0) 146 14 [w0, w1, w2] [] am_SH μ (some (.int out.1), am_SH, out.2) := by
  intro w0 w1 w2 μ out h
  unfold fM_lies_14 at h
  refine am_Ex.seg 1 15 [w0, w1, w2] [.int 0] μ (fun _ => rfl) ?_
  cases h
  exact am_Ex.zret rfl rfl (by decide)
set_option maxRecDepth 20000 in
theorem e_fM_lies (d : Nat) : ∀ {a0 : Int32} {a1 : Int32} {a2 : Int32} {μ : am_Mu} {out : Int32 × am_Mu}, fM_lies a0 a1 a2 μ = some out → am_Ex none (d + 0) 146 0 [.int a0, .int a1, .int a2] [] am_SH μ (some (.int out.1), am_SH, out.2) := by
  intro a0 a1 a2 μ out h
  unfold fM_lies at h
  refine am_Ex.seg 2 2 [.int a0, .int a1, .int a2] [.int a1, .int a0] μ (fun _ => rfl) ?_
  rcases am_ite h with ⟨q1, h⟩ | ⟨q1, h⟩
  · refine am_Ex.icmp_lt_t rfl q1 ?_
    exact e_fM_lies_14 d h
  · refine am_Ex.icmp_lt_f rfl q1 ?_
    refine am_Ex.seg 2 7 [.int a0, .int a1, .int a2] [.int a2, .int a0] μ (fun _ => rfl) ?_
    rcases am_ite h with ⟨q2, h⟩ | ⟨q2, h⟩
    · refine am_Ex.icmp_gt_t rfl q2 ?_
      exact e_fM_lies_14 d h
    · refine am_Ex.icmp_gt_f rfl q2 ?_
      refine am_Ex.seg 1 11 [.int a0, .int a1, .int a2] [.int 1] μ (fun _ => rfl) ?_
      refine am_Ex.goto rfl ?_
      cases h
      exact am_Ex.zret rfl rfl (by decide)
def fM_isSchool_9 (μ : am_Mu) : Option (Int32 × am_Mu) := some (1, μ)
def fM_isSchool (a0 : Int32) (μ : am_Mu) : Option (Int32 × am_Mu) := (if a0 = 0 then fM_isSchool_9 μ else (if ¬ a0 = 1 then some (0, μ) else fM_isSchool_9 μ))
set_option maxRecDepth 20000 in
theorem e_fM_isSchool_9 (d : Nat) : ∀ {w0 : Value} {μ : am_Mu} {out : Int32 × am_Mu}, fM_isSchool_9 μ = some out → am_Ex none (d + 0) 147 9 [w0] [] am_SH μ (some (.int out.1), am_SH, out.2) := by
  intro w0 μ out h
  unfold fM_isSchool_9 at h
  refine am_Ex.seg 1 10 [w0] [.int 1] μ (fun _ => rfl) ?_
  refine am_Ex.goto rfl ?_
  cases h
  exact am_Ex.zret rfl rfl (by decide)
set_option maxRecDepth 20000 in
theorem e_fM_isSchool (d : Nat) : ∀ {a0 : Int32} {μ : am_Mu} {out : Int32 × am_Mu}, fM_isSchool a0 μ = some out → am_Ex none (d + 0) 147 0 [.int a0] [] am_SH μ (some (.int out.1), am_SH, out.2) := by
  intro a0 μ out h
  unfold fM_isSchool at h
  refine am_Ex.seg 1 1 [.int a0] [.int a0] μ (fun _ => rfl) ?_
  rcases am_ite h with ⟨q1, h⟩ | ⟨q1, h⟩
  · refine am_Ex.if_eq_t rfl q1 ?_
    exact e_fM_isSchool_9 d h
  · refine am_Ex.if_eq_f rfl q1 ?_
    refine am_Ex.seg 2 6 [.int a0] [.int 1, .int a0] μ (fun _ => rfl) ?_
    rcases am_ite h with ⟨q2, h⟩ | ⟨q2, h⟩
    · refine am_Ex.icmp_ne_t rfl q2 ?_
      refine am_Ex.seg 1 14 [.int a0] [.int 0] μ (fun _ => rfl) ?_
      cases h
      exact am_Ex.zret rfl rfl (by decide)
    · refine am_Ex.icmp_ne_f rfl (Decidable.not_not.mp q2) ?_
      exact e_fM_isSchool_9 d h
def fM_has (a0 : Int32) (a1 : Int32) (μ : am_Mu) : Option (Int32 × am_Mu) := (if ¬ ((a0 >>> (a1 &&& 31)) &&& 1) = 1 then some (0, μ) else some (1, μ))
set_option maxRecDepth 20000 in
theorem e_fM_has (d : Nat) : ∀ {a0 : Int32} {a1 : Int32} {μ : am_Mu} {out : Int32 × am_Mu}, fM_has a0 a1 μ = some out → am_Ex none (d + 0) 148 0 [.int a0, .int a1] [] am_SH μ (some (.int out.1), am_SH, out.2) := by
  intro a0 a1 μ out h
  unfold fM_has at h
  refine am_Ex.seg 6 6 [.int a0, .int a1] [.int 1, .int ((a0 >>> (a1 &&& 31)) &&& 1)] μ (fun _ => rfl) ?_
  rcases am_ite h with ⟨q1, h⟩ | ⟨q1, h⟩
  · refine am_Ex.icmp_ne_t rfl q1 ?_
    refine am_Ex.seg 1 14 [.int a0, .int a1] [.int 0] μ (fun _ => rfl) ?_
    cases h
    exact am_Ex.zret rfl rfl (by decide)
  · refine am_Ex.icmp_ne_f rfl (Decidable.not_not.mp q1) ?_
    refine am_Ex.seg 1 10 [.int a0, .int a1] [.int 1] μ (fun _ => rfl) ?_
    refine am_Ex.goto rfl ?_
    cases h
    exact am_Ex.zret rfl rfl (by decide)
def fM_isThing (a1 : Int32) (μ : am_Mu) : Option (Int32 × am_Mu) := ((fM_lies a1 0 ((μ 108 4) - 1) μ).bind fun q1 => (if q1.1 &&& 1 = q1.1 then some (q1.1, q1.2) else none))
set_option maxRecDepth 20000 in
theorem e_fM_isThing (d : Nat) : ∀ {a1 : Int32} {μ : am_Mu} {out : Int32 × am_Mu}, fM_isThing a1 μ = some out → am_Ex none (d + 1) 149 0 [.ref 108, .int a1] [] am_SH μ (some (.int out.1), am_SH, out.2) := by
  intro a1 μ out h
  unfold fM_isThing at h
  refine am_Ex.seg 6 8 [.ref 108, .int a1] [.int ((μ 108 4) - 1), .int 0, .int a1] μ (fun _ => rfl) ?_
  obtain ⟨q1, h_q1, h⟩ := am_bind h
  refine am_Ex.isk (na := 3) rfl (As := [.int a1, .int 0, .int ((μ 108 4) - 1)]) rfl rfl rfl rfl rfl rfl (e_fM_lies (d + 0) h_q1) ?_
  refine am_Ex.same 11 [.ref 108, .int a1] [.int q1.1] q1.2 rfl ?_
  obtain ⟨q2, h⟩ := am_ifp h
  cases h
  exact am_Ex.zret rfl rfl q2
def fM_isMark (a0 : Int32) (μ : am_Mu) : Option (Int32 × am_Mu) := ((fM_lies a0 0 7 μ).bind fun q1 => (if q1.1 &&& 1 = q1.1 then some (q1.1, q1.2) else none))
set_option maxRecDepth 20000 in
theorem e_fM_isMark (d : Nat) : ∀ {a0 : Int32} {μ : am_Mu} {out : Int32 × am_Mu}, fM_isMark a0 μ = some out → am_Ex none (d + 1) 150 0 [.int a0] [] am_SH μ (some (.int out.1), am_SH, out.2) := by
  intro a0 μ out h
  unfold fM_isMark at h
  refine am_Ex.seg 3 4 [.int a0] [.int 7, .int 0, .int a0] μ (fun _ => rfl) ?_
  obtain ⟨q1, h_q1, h⟩ := am_bind h
  refine am_Ex.isk (na := 3) rfl (As := [.int a0, .int 0, .int 7]) rfl rfl rfl rfl rfl rfl (e_fM_lies (d + 0) h_q1) ?_
  refine am_Ex.same 7 [.int a0] [.int q1.1] q1.2 rfl ?_
  obtain ⟨q2, h⟩ := am_ifp h
  cases h
  exact am_Ex.zret rfl rfl q2
def fM_isMinute (a0 : Int32) (μ : am_Mu) : Option (Int32 × am_Mu) := ((fM_lies a0 0 1439999 μ).bind fun q1 => (if q1.1 &&& 1 = q1.1 then some (q1.1, q1.2) else none))
set_option maxRecDepth 20000 in
theorem e_fM_isMinute (d : Nat) : ∀ {a0 : Int32} {μ : am_Mu} {out : Int32 × am_Mu}, fM_isMinute a0 μ = some out → am_Ex none (d + 1) 151 0 [.int a0] [] am_SH μ (some (.int out.1), am_SH, out.2) := by
  intro a0 μ out h
  unfold fM_isMinute at h
  refine am_Ex.seg 3 4 [.int a0] [.int 1439999, .int 0, .int a0] μ (fun _ => rfl) ?_
  obtain ⟨q1, h_q1, h⟩ := am_bind h
  refine am_Ex.isk (na := 3) rfl (As := [.int a0, .int 0, .int 1439999]) rfl rfl rfl rfl rfl rfl (e_fM_lies (d + 0) h_q1) ?_
  refine am_Ex.same 7 [.int a0] [.int q1.1] q1.2 rfl ?_
  obtain ⟨q2, h⟩ := am_ifp h
  cases h
  exact am_Ex.zret rfl rfl q2
def fM_now (a1 : Int32) (μ : am_Mu) : Option (Int32 × am_Mu) := ((fM_lies a1 (μ 108 2) 1439999 μ).bind fun q1 => (if ¬ q1.1 = 0 then some (1, (am_up q1.2 108 2 a1)) else some (0, q1.2)))
set_option maxRecDepth 20000 in
theorem e_fM_now (d : Nat) : ∀ {a1 : Int32} {μ : am_Mu} {out : Int32 × am_Mu}, fM_now a1 μ = some out → am_Ex none (d + 1) 152 0 [.ref 108, .int a1] [] am_SH μ (some (.int out.1), am_SH, out.2) := by
  intro a1 μ out h
  unfold fM_now at h
  refine am_Ex.seg 4 7 [.ref 108, .int a1] [.int 1439999, .int (μ 108 2), .int a1] μ (fun _ => rfl) ?_
  obtain ⟨q1, h_q1, h⟩ := am_bind h
  refine am_Ex.isk (na := 3) rfl (As := [.int a1, .int (μ 108 2), .int 1439999]) rfl rfl rfl rfl rfl rfl (e_fM_lies (d + 0) h_q1) ?_
  refine am_Ex.same 10 [.ref 108, .int a1] [.int q1.1] q1.2 rfl ?_
  rcases am_ite h with ⟨q2, h⟩ | ⟨q2, h⟩
  · refine am_Ex.if_ne_t rfl q2 ?_
    refine am_Ex.seg 4 21 [.ref 108, .int a1] [.int 1] (am_up q1.2 108 2 a1) (fun _ => rfl) ?_
    cases h
    exact am_Ex.zret rfl rfl (by decide)
  · refine am_Ex.if_ne_f rfl (Decidable.not_not.mp q2) ?_
    refine am_Ex.seg 1 14 [.ref 108, .int a1] [.int 0] q1.2 (fun _ => rfl) ?_
    cases h
    exact am_Ex.zret rfl rfl (by decide)
def fM_begin (a0 : Int32) (μ : am_Mu) : Option (Int32 × am_Mu) := some (((a0 * 2953) / 100), μ)
set_option maxRecDepth 20000 in
theorem e_fM_begin (d : Nat) : ∀ {a0 : Int32} {μ : am_Mu} {out : Int32 × am_Mu}, fM_begin a0 μ = some out → am_Ex none (d + 0) 153 0 [.int a0] [] am_SH μ (some (.int out.1), am_SH, out.2) := by
  intro a0 μ out h
  unfold fM_begin at h
  refine am_Ex.seg 4 7 [.int a0] [.int 100, .int (a0 * 2953)] μ (fun _ => rfl) ?_
  refine am_Ex.idiv rfl (by decide) ?_
  cases h
  exact am_Ex.iret rfl rfl
def fM_monthOf_2 : Nat → Int32 → Int32 → am_Mu → Option (Int32 × am_Mu)
  | 0, _, _, _ => none
  | n + 1, a0, a1, μ => ((fM_begin (a1 + 1) μ).bind fun q1 => (if a0 < q1.1 then some (a1, q1.2) else (fM_monthOf_2 n) a0 (a1 + 1) q1.2))
def fM_monthOf (a0 : Int32) (μ : am_Mu) : Option (Int32 × am_Mu) := fM_monthOf_2 am_F a0 0 μ
set_option maxRecDepth 20000 in
theorem e_fM_monthOf_2 (d : Nat) : ∀ n : Nat, ∀ {a0 : Int32} {a1 : Int32} {μ : am_Mu} {out : Int32 × am_Mu}, fM_monthOf_2 n a0 a1 μ = some out → am_Ex none (d + 1) 154 2 [.int a0, .int a1] [] am_SH μ (some (.int out.1), am_SH, out.2) := by
  intro n
  induction n with
  | zero => intros; contradiction
  | succ n ih =>
    have hk2 : ∀ {a0 : Int32} {a1 : Int32} {μ : am_Mu} {out : Int32 × am_Mu}, (fM_monthOf_2 n) a0 a1 μ = some out → am_Ex none (d + 1) 154 2 [.int a0, .int a1] [] am_SH μ (some (.int out.1), am_SH, out.2) := ih
    intro a0 a1 μ out h
    unfold fM_monthOf_2 at h
    refine am_Ex.seg 3 5 [.int a0, .int a1] [.int (a1 + 1)] μ (fun _ => rfl) ?_
    obtain ⟨q1, h_q1, h⟩ := am_bind h
    refine am_Ex.isk (na := 1) rfl (As := [.int (a1 + 1)]) rfl rfl rfl rfl rfl rfl (e_fM_begin (d + 0) h_q1) ?_
    refine am_Ex.same 8 [.int a0, .int a1] [.int q1.1] q1.2 rfl ?_
    refine am_Ex.seg 1 9 [.int a0, .int a1] [.int a0, .int q1.1] q1.2 (fun _ => rfl) ?_
    rcases am_ite h with ⟨q2, h⟩ | ⟨q2, h⟩
    · refine am_Ex.icmp_gt_t rfl q2 ?_
      refine am_Ex.seg 1 19 [.int a0, .int a1] [.int a1] q1.2 (fun _ => rfl) ?_
      cases h
      exact am_Ex.iret rfl rfl
    · refine am_Ex.icmp_gt_f rfl q2 ?_
      refine am_Ex.seg 1 15 [.int a0, .int (a1 + 1)] [] q1.2 (fun _ => rfl) ?_
      refine am_Ex.goto rfl ?_
      exact hk2 h
set_option maxRecDepth 20000 in
theorem e_fM_monthOf (d : Nat) : ∀ {a0 : Int32} {μ : am_Mu} {out : Int32 × am_Mu}, fM_monthOf a0 μ = some out → am_Ex none (d + 1) 154 0 [.int a0, .null] [] am_SH μ (some (.int out.1), am_SH, out.2) := by
  intro a0 μ out h
  unfold fM_monthOf at h
  refine am_Ex.seg 2 2 [.int a0, .int 0] [] μ (fun _ => rfl) ?_
  exact e_fM_monthOf_2 d am_F h
def fM_feast (a1 : Int32) (a2 : Int32) (a3 : Int32) (μ : am_Mu) : Option (Int32 × am_Mu) := (if (μ 108 3) = 6 then some (0, μ) else ((fM_lies a1 0 11 μ).bind fun q2 => (if q2.1 = 0 then some (0, q2.2) else ((fM_lies a2 0 28 q2.2).bind fun q4 => (if q4.1 = 0 then some (0, q4.2) else ((fM_lies a3 1 10 q4.2).bind fun q6 => (if ¬ q6.1 = 0 then (bif am_inb (q6.2 108 3) 6 then some (1, (am_up (am_up (am_up (am_up q6.2 110 (((q6.2 108 3)).toNatClampNeg) a1) 111 (((q6.2 108 3)).toNatClampNeg) a2) 112 (((q6.2 108 3)).toNatClampNeg) a3) 108 3 ((q6.2 108 3) + 1))) else none) else some (0, q6.2))))))))
set_option maxRecDepth 20000 in
theorem e_fM_feast (d : Nat) : ∀ {a1 : Int32} {a2 : Int32} {a3 : Int32} {μ : am_Mu} {out : Int32 × am_Mu}, fM_feast a1 a2 a3 μ = some out → am_Ex none (d + 1) 155 0 [.ref 108, .int a1, .int a2, .int a3] [] am_SH μ (some (.int out.1), am_SH, out.2) := by
  intro a1 a2 a3 μ out h
  unfold fM_feast at h
  refine am_Ex.seg 3 6 [.ref 108, .int a1, .int a2, .int a3] [.int 6, .int (μ 108 3)] μ (fun _ => rfl) ?_
  rcases am_ite h with ⟨q1, h⟩ | ⟨q1, h⟩
  · refine am_Ex.icmp_eq_t rfl q1 ?_
    refine am_Ex.seg 1 40 [.ref 108, .int a1, .int a2, .int a3] [.int 0] μ (fun _ => rfl) ?_
    cases h
    exact am_Ex.zret rfl rfl (by decide)
  · refine am_Ex.icmp_eq_f rfl q1 ?_
    refine am_Ex.seg 3 13 [.ref 108, .int a1, .int a2, .int a3] [.int 11, .int 0, .int a1] μ (fun _ => rfl) ?_
    obtain ⟨q2, h_q2, h⟩ := am_bind h
    refine am_Ex.isk (na := 3) rfl (As := [.int a1, .int 0, .int 11]) rfl rfl rfl rfl rfl rfl (e_fM_lies (d + 0) h_q2) ?_
    refine am_Ex.same 16 [.ref 108, .int a1, .int a2, .int a3] [.int q2.1] q2.2 rfl ?_
    rcases am_ite h with ⟨q3, h⟩ | ⟨q3, h⟩
    · refine am_Ex.if_eq_t rfl q3 ?_
      refine am_Ex.seg 1 40 [.ref 108, .int a1, .int a2, .int a3] [.int 0] q2.2 (fun _ => rfl) ?_
      cases h
      exact am_Ex.zret rfl rfl (by decide)
    · refine am_Ex.if_eq_f rfl q3 ?_
      refine am_Ex.seg 3 23 [.ref 108, .int a1, .int a2, .int a3] [.int 28, .int 0, .int a2] q2.2 (fun _ => rfl) ?_
      obtain ⟨q4, h_q4, h⟩ := am_bind h
      refine am_Ex.isk (na := 3) rfl (As := [.int a2, .int 0, .int 28]) rfl rfl rfl rfl rfl rfl (e_fM_lies (d + 0) h_q4) ?_
      refine am_Ex.same 26 [.ref 108, .int a1, .int a2, .int a3] [.int q4.1] q4.2 rfl ?_
      rcases am_ite h with ⟨q5, h⟩ | ⟨q5, h⟩
      · refine am_Ex.if_eq_t rfl q5 ?_
        refine am_Ex.seg 1 40 [.ref 108, .int a1, .int a2, .int a3] [.int 0] q4.2 (fun _ => rfl) ?_
        cases h
        exact am_Ex.zret rfl rfl (by decide)
      · refine am_Ex.if_eq_f rfl q5 ?_
        refine am_Ex.seg 3 33 [.ref 108, .int a1, .int a2, .int a3] [.int 10, .int 1, .int a3] q4.2 (fun _ => rfl) ?_
        obtain ⟨q6, h_q6, h⟩ := am_bind h
        refine am_Ex.isk (na := 3) rfl (As := [.int a3, .int 1, .int 10]) rfl rfl rfl rfl rfl rfl (e_fM_lies (d + 0) h_q6) ?_
        refine am_Ex.same 36 [.ref 108, .int a1, .int a2, .int a3] [.int q6.1] q6.2 rfl ?_
        rcases am_ite h with ⟨q7, h⟩ | ⟨q7, h⟩
        · refine am_Ex.if_ne_t rfl q7 ?_
          refine am_Ex.seg 5 50 [.ref 108, .int a1, .int a2, .int a3] [.int a1, .int (q6.2 108 3), .ref 110] q6.2 (fun _ => rfl) ?_
          obtain ⟨q8, h⟩ := am_bif h
          refine am_Ex.iast (v2 := a1) (i2 := ((q6.2 108 3)).toNatClampNeg) rfl rfl q8 rfl rfl ?_
          refine am_Ex.seg 5 60 [.ref 108, .int a1, .int a2, .int a3] [.int a2, .int (q6.2 108 3), .ref 111] (am_up q6.2 110 (((q6.2 108 3)).toNatClampNeg) a1) (fun _ => rfl) ?_
          refine am_Ex.iast (v2 := a2) (i2 := ((q6.2 108 3)).toNatClampNeg) rfl rfl q8 rfl rfl ?_
          refine am_Ex.seg 5 70 [.ref 108, .int a1, .int a2, .int a3] [.int a3, .int (q6.2 108 3), .ref 112] (am_up (am_up q6.2 110 (((q6.2 108 3)).toNatClampNeg) a1) 111 (((q6.2 108 3)).toNatClampNeg) a2) (fun _ => rfl) ?_
          refine am_Ex.iast (v2 := a3) (i2 := ((q6.2 108 3)).toNatClampNeg) rfl rfl q8 rfl rfl ?_
          refine am_Ex.seg 7 82 [.ref 108, .int a1, .int a2, .int a3] [.int 1] (am_up (am_up (am_up (am_up q6.2 110 (((q6.2 108 3)).toNatClampNeg) a1) 111 (((q6.2 108 3)).toNatClampNeg) a2) 112 (((q6.2 108 3)).toNatClampNeg) a3) 108 3 ((q6.2 108 3) + 1)) (fun _ => rfl) ?_
          cases h
          exact am_Ex.zret rfl rfl (by decide)
        · refine am_Ex.if_ne_f rfl (Decidable.not_not.mp q7) ?_
          refine am_Ex.seg 1 40 [.ref 108, .int a1, .int a2, .int a3] [.int 0] q6.2 (fun _ => rfl) ?_
          cases h
          exact am_Ex.zret rfl rfl (by decide)
def fM_isFeastDay_87 (k7 : Int32 → Int32 → Int32 → am_Mu → Option (Int32 × am_Mu)) (a1 : Int32) (a2 : Int32) (a3 : Int32) (μ : am_Mu) : Option (Int32 × am_Mu) := k7 a1 a2 (a3 + 1) μ
def fM_isFeastDay_81 (k7 : Int32 → Int32 → Int32 → am_Mu → Option (Int32 × am_Mu)) (k18 : Int32 → Int32 → Int32 → Int32 → am_Mu → Option (Int32 × am_Mu)) (a1 : Int32) (a2 : Int32) (a3 : Int32) (a4 : Int32) (μ : am_Mu) : Option (Int32 × am_Mu) := k18 a1 a2 a3 (a4 + (-1)) μ
def fM_isFeastDay_18 : Nat → (Int32 → Int32 → Int32 → am_Mu → Option (Int32 × am_Mu)) → Int32 → Int32 → Int32 → Int32 → am_Mu → Option (Int32 × am_Mu)
  | 0, _, _, _, _, _, _ => none
  | n + 1, k7, a1, a2, a3, a4, μ => (if a4 < 0 then fM_isFeastDay_87 k7 a1 a2 a3 μ else (if a4 ≤ (a2 - 3) then fM_isFeastDay_87 k7 a1 a2 a3 μ else ((fM_begin a4 μ).bind fun q3 => (bif am_inb a3 6 then (if ¬ (a4 - (a4 / 12) * 12) = (q3.2 110 ((a3).toNatClampNeg)) then fM_isFeastDay_81 k7 (fM_isFeastDay_18 n k7) a1 a2 a3 a4 q3.2 else ((fM_lies a1 (q3.1 + (q3.2 111 ((a3).toNatClampNeg))) (((q3.1 + (q3.2 111 ((a3).toNatClampNeg))) + (q3.2 112 ((a3).toNatClampNeg))) - 1) q3.2).bind fun q6 => (if q6.1 = 0 then fM_isFeastDay_81 k7 (fM_isFeastDay_18 n k7) a1 a2 a3 a4 q6.2 else some (1, q6.2)))) else none))))
def fM_isFeastDay_7 : Nat → Int32 → Int32 → Int32 → am_Mu → Option (Int32 × am_Mu)
  | 0, _, _, _, _ => none
  | n + 1, a1, a2, a3, μ => (if (μ 108 3) ≤ a3 then some (0, μ) else fM_isFeastDay_18 am_F (fM_isFeastDay_7 n) a1 a2 a3 a2 μ)
def fM_isFeastDay (a1 : Int32) (μ : am_Mu) : Option (Int32 × am_Mu) := ((fM_monthOf a1 μ).bind fun q1 => fM_isFeastDay_7 am_F a1 q1.1 0 q1.2)
set_option maxRecDepth 20000 in
theorem e_fM_isFeastDay_87 (d : Nat) {k7 : Int32 → Int32 → Int32 → am_Mu → Option (Int32 × am_Mu)} (hk7 : ∀ {a1 : Int32} {a2 : Int32} {a3 : Int32} {w4 w5 : Value} {μ : am_Mu} {out : Int32 × am_Mu}, k7 a1 a2 a3 μ = some out → am_Ex none (d + 2) 156 7 [.ref 108, .int a1, .int a2, .int a3, w4, w5] [] am_SH μ (some (.int out.1), am_SH, out.2)) : ∀ {a1 : Int32} {a2 : Int32} {a3 : Int32} {w4 w5 : Value} {μ : am_Mu} {out : Int32 × am_Mu}, fM_isFeastDay_87 k7 a1 a2 a3 μ = some out → am_Ex none (d + 2) 156 87 [.ref 108, .int a1, .int a2, .int a3, w4, w5] [] am_SH μ (some (.int out.1), am_SH, out.2) := by
  intro a1 a2 a3 w4 w5 μ out h
  unfold fM_isFeastDay_87 at h
  refine am_Ex.seg 1 90 [.ref 108, .int a1, .int a2, .int (a3 + 1), w4, w5] [] μ (fun _ => rfl) ?_
  refine am_Ex.goto rfl ?_
  exact hk7 h
set_option maxRecDepth 20000 in
theorem e_fM_isFeastDay_81 (d : Nat) {k7 : Int32 → Int32 → Int32 → am_Mu → Option (Int32 × am_Mu)} {k18 : Int32 → Int32 → Int32 → Int32 → am_Mu → Option (Int32 × am_Mu)} (hk7 : ∀ {a1 : Int32} {a2 : Int32} {a3 : Int32} {w4 w5 : Value} {μ : am_Mu} {out : Int32 × am_Mu}, k7 a1 a2 a3 μ = some out → am_Ex none (d + 2) 156 7 [.ref 108, .int a1, .int a2, .int a3, w4, w5] [] am_SH μ (some (.int out.1), am_SH, out.2)) (hk18 : ∀ {a1 : Int32} {a2 : Int32} {a3 : Int32} {a4 : Int32} {w5 : Value} {μ : am_Mu} {out : Int32 × am_Mu}, k18 a1 a2 a3 a4 μ = some out → am_Ex none (d + 2) 156 18 [.ref 108, .int a1, .int a2, .int a3, .int a4, w5] [] am_SH μ (some (.int out.1), am_SH, out.2)) : ∀ {a1 : Int32} {a2 : Int32} {a3 : Int32} {a4 : Int32} {w5 : Value} {μ : am_Mu} {out : Int32 × am_Mu}, fM_isFeastDay_81 k7 k18 a1 a2 a3 a4 μ = some out → am_Ex none (d + 2) 156 81 [.ref 108, .int a1, .int a2, .int a3, .int a4, w5] [] am_SH μ (some (.int out.1), am_SH, out.2) := by
  intro a1 a2 a3 a4 w5 μ out h
  unfold fM_isFeastDay_81 at h
  refine am_Ex.seg 1 84 [.ref 108, .int a1, .int a2, .int a3, .int (a4 + (-1)), w5] [] μ (fun _ => rfl) ?_
  refine am_Ex.goto rfl ?_
  exact hk18 h
set_option maxRecDepth 20000 in
theorem e_fM_isFeastDay_18 (d : Nat) {k7 : Int32 → Int32 → Int32 → am_Mu → Option (Int32 × am_Mu)} (hk7 : ∀ {a1 : Int32} {a2 : Int32} {a3 : Int32} {w4 w5 : Value} {μ : am_Mu} {out : Int32 × am_Mu}, k7 a1 a2 a3 μ = some out → am_Ex none (d + 2) 156 7 [.ref 108, .int a1, .int a2, .int a3, w4, w5] [] am_SH μ (some (.int out.1), am_SH, out.2)) : ∀ n : Nat, ∀ {a1 : Int32} {a2 : Int32} {a3 : Int32} {a4 : Int32} {w5 : Value} {μ : am_Mu} {out : Int32 × am_Mu}, fM_isFeastDay_18 n k7 a1 a2 a3 a4 μ = some out → am_Ex none (d + 2) 156 18 [.ref 108, .int a1, .int a2, .int a3, .int a4, w5] [] am_SH μ (some (.int out.1), am_SH, out.2) := by
  intro n
  induction n with
  | zero => intros; contradiction
  | succ n ih =>
    have hk18 : ∀ {a1 : Int32} {a2 : Int32} {a3 : Int32} {a4 : Int32} {w5 : Value} {μ : am_Mu} {out : Int32 × am_Mu}, (fM_isFeastDay_18 n k7) a1 a2 a3 a4 μ = some out → am_Ex none (d + 2) 156 18 [.ref 108, .int a1, .int a2, .int a3, .int a4, w5] [] am_SH μ (some (.int out.1), am_SH, out.2) := ih
    intro a1 a2 a3 a4 w5 μ out h
    unfold fM_isFeastDay_18 at h
    refine am_Ex.seg 1 20 [.ref 108, .int a1, .int a2, .int a3, .int a4, w5] [.int a4] μ (fun _ => rfl) ?_
    rcases am_ite h with ⟨q1, h⟩ | ⟨q1, h⟩
    · refine am_Ex.if_lt_t rfl q1 ?_
      exact e_fM_isFeastDay_87 d hk7 h
    · refine am_Ex.if_lt_f rfl q1 ?_
      refine am_Ex.seg 4 28 [.ref 108, .int a1, .int a2, .int a3, .int a4, w5] [.int (a2 - 3), .int a4] μ (fun _ => rfl) ?_
      rcases am_ite h with ⟨q2, h⟩ | ⟨q2, h⟩
      · refine am_Ex.icmp_le_t rfl q2 ?_
        exact e_fM_isFeastDay_87 d hk7 h
      · refine am_Ex.icmp_le_f rfl q2 ?_
        refine am_Ex.seg 1 33 [.ref 108, .int a1, .int a2, .int a3, .int a4, w5] [.int a4] μ (fun _ => rfl) ?_
        obtain ⟨q3, h_q3, h⟩ := am_bind h
        refine am_Ex.isk (na := 1) rfl (As := [.int a4]) rfl rfl rfl rfl rfl rfl (e_fM_begin (d + 1) h_q3) ?_
        refine am_Ex.same 36 [.ref 108, .int a1, .int a2, .int a3, .int a4, w5] [.int q3.1] q3.2 rfl ?_
        refine am_Ex.seg 3 41 [.ref 108, .int a1, .int a2, .int a3, .int a4, w5] [.int a3, .ref 111, .int q3.1] q3.2 (fun _ => rfl) ?_
        obtain ⟨q4, h⟩ := am_bif h
        refine am_Ex.iald (v := (q3.2 111 ((a3).toNatClampNeg))) rfl rfl q4 rfl ?_
        refine am_Ex.seg 4 49 [.ref 108, .int a1, .int a2, .int a3, .int a4, .int (q3.1 + (q3.2 111 ((a3).toNatClampNeg)))] [.int 12, .int a4] q3.2 (fun _ => rfl) ?_
        refine am_Ex.irem rfl (by decide) ?_
        refine am_Ex.seg 3 55 [.ref 108, .int a1, .int a2, .int a3, .int a4, .int (q3.1 + (q3.2 111 ((a3).toNatClampNeg)))] [.int a3, .ref 110, .int (a4 - (a4 / 12) * 12)] q3.2 (fun _ => rfl) ?_
        refine am_Ex.iald (v := (q3.2 110 ((a3).toNatClampNeg))) rfl rfl q4 rfl ?_
        rcases am_ite h with ⟨q5, h⟩ | ⟨q5, h⟩
        · refine am_Ex.icmp_ne_t rfl q5 ?_
          exact e_fM_isFeastDay_81 d hk7 hk18 h
        · refine am_Ex.icmp_ne_f rfl (Decidable.not_not.mp q5) ?_
          refine am_Ex.seg 6 69 [.ref 108, .int a1, .int a2, .int a3, .int a4, .int (q3.1 + (q3.2 111 ((a3).toNatClampNeg)))] [.int a3, .ref 112, .int (q3.1 + (q3.2 111 ((a3).toNatClampNeg))), .int (q3.1 + (q3.2 111 ((a3).toNatClampNeg))), .int a1] q3.2 (fun _ => rfl) ?_
          refine am_Ex.iald (v := (q3.2 112 ((a3).toNatClampNeg))) rfl rfl q4 rfl ?_
          refine am_Ex.seg 3 73 [.ref 108, .int a1, .int a2, .int a3, .int a4, .int (q3.1 + (q3.2 111 ((a3).toNatClampNeg)))] [.int (((q3.1 + (q3.2 111 ((a3).toNatClampNeg))) + (q3.2 112 ((a3).toNatClampNeg))) - 1), .int (q3.1 + (q3.2 111 ((a3).toNatClampNeg))), .int a1] q3.2 (fun _ => rfl) ?_
          obtain ⟨q6, h_q6, h⟩ := am_bind h
          refine am_Ex.isk (na := 3) rfl (As := [.int a1, .int (q3.1 + (q3.2 111 ((a3).toNatClampNeg))), .int (((q3.1 + (q3.2 111 ((a3).toNatClampNeg))) + (q3.2 112 ((a3).toNatClampNeg))) - 1)]) rfl rfl rfl rfl rfl rfl (e_fM_lies (d + 1) h_q6) ?_
          refine am_Ex.same 76 [.ref 108, .int a1, .int a2, .int a3, .int a4, .int (q3.1 + (q3.2 111 ((a3).toNatClampNeg)))] [.int q6.1] q6.2 rfl ?_
          rcases am_ite h with ⟨q7, h⟩ | ⟨q7, h⟩
          · refine am_Ex.if_eq_t rfl q7 ?_
            exact e_fM_isFeastDay_81 d hk7 hk18 h
          · refine am_Ex.if_eq_f rfl q7 ?_
            refine am_Ex.seg 1 80 [.ref 108, .int a1, .int a2, .int a3, .int a4, .int (q3.1 + (q3.2 111 ((a3).toNatClampNeg)))] [.int 1] q6.2 (fun _ => rfl) ?_
            cases h
            exact am_Ex.zret rfl rfl (by decide)
set_option maxRecDepth 20000 in
theorem e_fM_isFeastDay_7 (d : Nat) : ∀ n : Nat, ∀ {a1 : Int32} {a2 : Int32} {a3 : Int32} {w4 w5 : Value} {μ : am_Mu} {out : Int32 × am_Mu}, fM_isFeastDay_7 n a1 a2 a3 μ = some out → am_Ex none (d + 2) 156 7 [.ref 108, .int a1, .int a2, .int a3, w4, w5] [] am_SH μ (some (.int out.1), am_SH, out.2) := by
  intro n
  induction n with
  | zero => intros; contradiction
  | succ n ih =>
    have hk7 : ∀ {a1 : Int32} {a2 : Int32} {a3 : Int32} {w4 w5 : Value} {μ : am_Mu} {out : Int32 × am_Mu}, (fM_isFeastDay_7 n) a1 a2 a3 μ = some out → am_Ex none (d + 2) 156 7 [.ref 108, .int a1, .int a2, .int a3, w4, w5] [] am_SH μ (some (.int out.1), am_SH, out.2) := ih
    intro a1 a2 a3 w4 w5 μ out h
    unfold fM_isFeastDay_7 at h
    refine am_Ex.seg 3 12 [.ref 108, .int a1, .int a2, .int a3, w4, w5] [.int (μ 108 3), .int a3] μ (fun _ => rfl) ?_
    rcases am_ite h with ⟨q1, h⟩ | ⟨q1, h⟩
    · refine am_Ex.icmp_ge_t rfl q1 ?_
      refine am_Ex.seg 1 94 [.ref 108, .int a1, .int a2, .int a3, w4, w5] [.int 0] μ (fun _ => rfl) ?_
      cases h
      exact am_Ex.zret rfl rfl (by decide)
    · refine am_Ex.icmp_ge_f rfl q1 ?_
      refine am_Ex.seg 2 18 [.ref 108, .int a1, .int a2, .int a3, .int a2, w5] [] μ (fun _ => rfl) ?_
      exact e_fM_isFeastDay_18 d hk7 am_F h
set_option maxRecDepth 20000 in
theorem e_fM_isFeastDay (d : Nat) : ∀ {a1 : Int32} {μ : am_Mu} {out : Int32 × am_Mu}, fM_isFeastDay a1 μ = some out → am_Ex none (d + 2) 156 0 [.ref 108, .int a1, .null, .null, .null, .null] [] am_SH μ (some (.int out.1), am_SH, out.2) := by
  intro a1 μ out h
  unfold fM_isFeastDay at h
  refine am_Ex.seg 1 1 [.ref 108, .int a1, .null, .null, .null, .null] [.int a1] μ (fun _ => rfl) ?_
  obtain ⟨q1, h_q1, h⟩ := am_bind h
  refine am_Ex.isk (na := 1) rfl (As := [.int a1]) rfl rfl rfl rfl rfl rfl (e_fM_monthOf (d + 0) h_q1) ?_
  refine am_Ex.same 4 [.ref 108, .int a1, .null, .null, .null, .null] [.int q1.1] q1.2 rfl ?_
  refine am_Ex.seg 3 7 [.ref 108, .int a1, .int q1.1, .int 0, .null, .null] [] q1.2 (fun _ => rfl) ?_
  exact e_fM_isFeastDay_7 d am_F h
def fM_isFeast (a1 : Int32) (μ : am_Mu) : Option (Int32 × am_Mu) := ((fM_lies a1 0 999 μ).bind fun q1 => (if ¬ q1.1 = 0 then ((fM_isFeastDay a1 q1.2).bind fun q3 => (if q3.1 = 0 then some (0, q3.2) else some (1, q3.2))) else some ((-1), q1.2)))
set_option maxRecDepth 20000 in
theorem e_fM_isFeast (d : Nat) : ∀ {a1 : Int32} {μ : am_Mu} {out : Int32 × am_Mu}, fM_isFeast a1 μ = some out → am_Ex none (d + 3) 157 0 [.ref 108, .int a1] [] am_SH μ (some (.int out.1), am_SH, out.2) := by
  intro a1 μ out h
  unfold fM_isFeast at h
  refine am_Ex.seg 3 5 [.ref 108, .int a1] [.int 999, .int 0, .int a1] μ (fun _ => rfl) ?_
  obtain ⟨q1, h_q1, h⟩ := am_bind h
  refine am_Ex.isk (na := 3) rfl (As := [.int a1, .int 0, .int 999]) rfl rfl rfl rfl rfl rfl (e_fM_lies (d + 2) h_q1) ?_
  refine am_Ex.same 8 [.ref 108, .int a1] [.int q1.1] q1.2 rfl ?_
  rcases am_ite h with ⟨q2, h⟩ | ⟨q2, h⟩
  · refine am_Ex.if_ne_t rfl q2 ?_
    refine am_Ex.seg 2 17 [.ref 108, .int a1] [.int a1, .ref 108] q1.2 (fun _ => rfl) ?_
    obtain ⟨q3, h_q3, h⟩ := am_bind h
    refine am_Ex.ivk (na := 2) (b := 108) (As' := [.int a1]) rfl rfl rfl rfl rfl rfl rfl rfl rfl (e_fM_isFeastDay (d + 0) h_q3) ?_
    refine am_Ex.same 20 [.ref 108, .int a1] [.int q3.1] q3.2 rfl ?_
    rcases am_ite h with ⟨q4, h⟩ | ⟨q4, h⟩
    · refine am_Ex.if_eq_t rfl q4 ?_
      refine am_Ex.seg 1 28 [.ref 108, .int a1] [.int 0] q3.2 (fun _ => rfl) ?_
      cases h
      exact am_Ex.iret rfl rfl
    · refine am_Ex.if_eq_f rfl q4 ?_
      refine am_Ex.seg 1 24 [.ref 108, .int a1] [.int 1] q3.2 (fun _ => rfl) ?_
      refine am_Ex.goto rfl ?_
      cases h
      exact am_Ex.iret rfl rfl
  · refine am_Ex.if_ne_f rfl (Decidable.not_not.mp q2) ?_
    refine am_Ex.seg 1 12 [.ref 108, .int a1] [.int (-1)] q1.2 (fun _ => rfl) ?_
    refine am_Ex.goto rfl ?_
    cases h
    exact am_Ex.iret rfl rfl
def fM_moon (a1 : Int32) (a2 : Int32) (μ : am_Mu) : Option (Int32 × am_Mu) := ((fM_lies a1 0 999 μ).bind fun q1 => (if ¬ q1.1 = 0 then ((fM_monthOf a1 q1.2).bind fun q3 => (if ¬ a2 = 0 then (if ¬ a2 = 1 then (if ¬ a2 = 2 then some ((-1), q3.2) else ((fM_begin q3.1 q3.2).bind fun q7 => some ((a1 - q7.1), q7.2))) else some ((q3.1 - (q3.1 / 12) * 12), q3.2)) else some (q3.1, q3.2))) else some ((-1), q1.2)))
set_option maxRecDepth 20000 in
theorem e_fM_moon (d : Nat) : ∀ {a1 : Int32} {a2 : Int32} {μ : am_Mu} {out : Int32 × am_Mu}, fM_moon a1 a2 μ = some out → am_Ex none (d + 2) 158 0 [.ref 108, .int a1, .int a2, .null] [] am_SH μ (some (.int out.1), am_SH, out.2) := by
  intro a1 a2 μ out h
  unfold fM_moon at h
  refine am_Ex.seg 3 5 [.ref 108, .int a1, .int a2, .null] [.int 999, .int 0, .int a1] μ (fun _ => rfl) ?_
  obtain ⟨q1, h_q1, h⟩ := am_bind h
  refine am_Ex.isk (na := 3) rfl (As := [.int a1, .int 0, .int 999]) rfl rfl rfl rfl rfl rfl (e_fM_lies (d + 1) h_q1) ?_
  refine am_Ex.same 8 [.ref 108, .int a1, .int a2, .null] [.int q1.1] q1.2 rfl ?_
  rcases am_ite h with ⟨q2, h⟩ | ⟨q2, h⟩
  · refine am_Ex.if_ne_t rfl q2 ?_
    refine am_Ex.seg 1 14 [.ref 108, .int a1, .int a2, .null] [.int a1] q1.2 (fun _ => rfl) ?_
    obtain ⟨q3, h_q3, h⟩ := am_bind h
    refine am_Ex.isk (na := 1) rfl (As := [.int a1]) rfl rfl rfl rfl rfl rfl (e_fM_monthOf (d + 0) h_q3) ?_
    refine am_Ex.same 17 [.ref 108, .int a1, .int a2, .null] [.int q3.1] q3.2 rfl ?_
    refine am_Ex.seg 2 19 [.ref 108, .int a1, .int a2, .int q3.1] [.int a2] q3.2 (fun _ => rfl) ?_
    rcases am_ite h with ⟨q4, h⟩ | ⟨q4, h⟩
    · refine am_Ex.if_ne_t rfl q4 ?_
      refine am_Ex.seg 2 28 [.ref 108, .int a1, .int a2, .int q3.1] [.int 1, .int a2] q3.2 (fun _ => rfl) ?_
      rcases am_ite h with ⟨q5, h⟩ | ⟨q5, h⟩
      · refine am_Ex.icmp_ne_t rfl q5 ?_
        refine am_Ex.seg 2 40 [.ref 108, .int a1, .int a2, .int q3.1] [.int 2, .int a2] q3.2 (fun _ => rfl) ?_
        rcases am_ite h with ⟨q6, h⟩ | ⟨q6, h⟩
        · refine am_Ex.icmp_ne_t rfl q6 ?_
          refine am_Ex.seg 1 53 [.ref 108, .int a1, .int a2, .int q3.1] [.int (-1)] q3.2 (fun _ => rfl) ?_
          cases h
          exact am_Ex.iret rfl rfl
        · refine am_Ex.icmp_ne_f rfl (Decidable.not_not.mp q6) ?_
          refine am_Ex.seg 2 45 [.ref 108, .int a1, .int a2, .int q3.1] [.int q3.1, .int a1] q3.2 (fun _ => rfl) ?_
          obtain ⟨q7, h_q7, h⟩ := am_bind h
          refine am_Ex.isk (na := 1) rfl (As := [.int q3.1]) rfl rfl rfl rfl rfl rfl (e_fM_begin (d + 1) h_q7) ?_
          refine am_Ex.same 48 [.ref 108, .int a1, .int a2, .int q3.1] [.int q7.1, .int a1] q7.2 rfl ?_
          refine am_Ex.seg 1 49 [.ref 108, .int a1, .int a2, .int q3.1] [.int (a1 - q7.1)] q7.2 (fun _ => rfl) ?_
          refine am_Ex.goto rfl ?_
          cases h
          exact am_Ex.iret rfl rfl
      · refine am_Ex.icmp_ne_f rfl (Decidable.not_not.mp q5) ?_
        refine am_Ex.seg 2 34 [.ref 108, .int a1, .int a2, .int q3.1] [.int 12, .int q3.1] q3.2 (fun _ => rfl) ?_
        refine am_Ex.irem rfl (by decide) ?_
        refine am_Ex.goto rfl ?_
        cases h
        exact am_Ex.iret rfl rfl
    · refine am_Ex.if_ne_f rfl (Decidable.not_not.mp q4) ?_
      refine am_Ex.seg 1 23 [.ref 108, .int a1, .int a2, .int q3.1] [.int q3.1] q3.2 (fun _ => rfl) ?_
      refine am_Ex.goto rfl ?_
      cases h
      exact am_Ex.iret rfl rfl
  · refine am_Ex.if_ne_f rfl (Decidable.not_not.mp q2) ?_
    refine am_Ex.seg 1 12 [.ref 108, .int a1, .int a2, .null] [.int (-1)] q1.2 (fun _ => rfl) ?_
    cases h
    exact am_Ex.iret rfl rfl
def fM_here (μ : am_Mu) : Option (Int32 × am_Mu) := (if (μ 108 28) ≤ (μ 108 27) then some (0, μ) else (bif am_inb (μ 108 27) 240 then some (((μ 109 (((μ 108 27)).toNatClampNeg)) &&& 255), μ) else none))
set_option maxRecDepth 20000 in
theorem e_fM_here (d : Nat) : ∀ {μ : am_Mu} {out : Int32 × am_Mu}, fM_here μ = some out → am_Ex none (d + 0) 159 0 [.ref 108] [] am_SH μ (some (.int out.1), am_SH, out.2) := by
  intro μ out h
  unfold fM_here at h
  refine am_Ex.seg 4 8 [.ref 108] [.int (μ 108 28), .int (μ 108 27)] μ (fun _ => rfl) ?_
  rcases am_ite h with ⟨q1, h⟩ | ⟨q1, h⟩
  · refine am_Ex.icmp_ge_t rfl q1 ?_
    refine am_Ex.seg 1 28 [.ref 108] [.int 0] μ (fun _ => rfl) ?_
    cases h
    exact am_Ex.iret rfl rfl
  · refine am_Ex.icmp_ge_f rfl q1 ?_
    refine am_Ex.seg 4 19 [.ref 108] [.int (μ 108 27), .ref 109] μ (fun _ => rfl) ?_
    obtain ⟨q2, h⟩ := am_bif h
    refine am_Ex.bald (v := (μ 109 (((μ 108 27)).toNatClampNeg))) rfl rfl q2 rfl ?_
    refine am_Ex.seg 2 24 [.ref 108] [.int ((μ 109 (((μ 108 27)).toNatClampNeg)) &&& 255)] μ (fun _ => rfl) ?_
    refine am_Ex.goto rfl ?_
    cases h
    exact am_Ex.iret rfl rfl
def fM_fails (a1 : Int32) (μ : am_Mu) : Option (am_Mu) := (if (μ 108 29) ≤ 0 then some (am_up μ 108 29 (((1000 : Int32) * a1) + (μ 108 27))) else some (am_up μ 108 29 (μ 108 29)))
set_option maxRecDepth 20000 in
theorem e_fM_fails (d : Nat) : ∀ {a1 : Int32} {μ : am_Mu} {out : am_Mu}, fM_fails a1 μ = some out → am_Ex none (d + 0) 160 0 [.ref 108, .int a1] [] am_SH μ (none, am_SH, out) := by
  intro a1 μ out h
  unfold fM_fails at h
  refine am_Ex.seg 3 5 [.ref 108, .int a1] [.int (μ 108 29), .ref 108] μ (fun _ => rfl) ?_
  rcases am_ite h with ⟨q1, h⟩ | ⟨q1, h⟩
  · refine am_Ex.if_le_t rfl q1 ?_
    refine am_Ex.seg 6 25 [.ref 108, .int a1] [.int (((1000 : Int32) * a1) + (μ 108 27)), .ref 108] μ (fun _ => rfl) ?_
    refine am_Ex.seg 1 28 [.ref 108, .int a1] [] (am_up μ 108 29 (((1000 : Int32) * a1) + (μ 108 27))) (fun _ => rfl) ?_
    cases h
    exact am_Ex.vret rfl rfl
  · refine am_Ex.if_le_f rfl q1 ?_
    refine am_Ex.seg 2 12 [.ref 108, .int a1] [.int (μ 108 29), .ref 108] μ (fun _ => rfl) ?_
    refine am_Ex.goto rfl ?_
    refine am_Ex.seg 1 28 [.ref 108, .int a1] [] (am_up μ 108 29 (μ 108 29)) (fun _ => rfl) ?_
    cases h
    exact am_Ex.vret rfl rfl
def fM_emit (a1 : Int32) (a2 : Int32) (a3 : Int32) (μ : am_Mu) : Option (am_Mu) := (if (μ 108 29) ≤ 0 then (bif am_inb (μ 108 31) 240 then some (am_up (am_up (am_up (am_up μ 128 (((μ 108 31)).toNatClampNeg) a1) 129 (((μ 108 31)).toNatClampNeg) a2) 130 (((μ 108 31)).toNatClampNeg) a3) 108 31 ((μ 108 31) + 1)) else none) else some μ)
set_option maxRecDepth 20000 in
theorem e_fM_emit (d : Nat) : ∀ {a1 : Int32} {a2 : Int32} {a3 : Int32} {μ : am_Mu} {out : am_Mu}, fM_emit a1 a2 a3 μ = some out → am_Ex none (d + 0) 161 0 [.ref 108, .int a1, .int a2, .int a3] [] am_SH μ (none, am_SH, out) := by
  intro a1 a2 a3 μ out h
  unfold fM_emit at h
  refine am_Ex.seg 2 4 [.ref 108, .int a1, .int a2, .int a3] [.int (μ 108 29)] μ (fun _ => rfl) ?_
  rcases am_ite h with ⟨q1, h⟩ | ⟨q1, h⟩
  · refine am_Ex.if_le_t rfl q1 ?_
    refine am_Ex.seg 5 17 [.ref 108, .int a1, .int a2, .int a3] [.int a1, .int (μ 108 31), .ref 128] μ (fun _ => rfl) ?_
    obtain ⟨q2, h⟩ := am_bif h
    refine am_Ex.iast (v2 := a1) (i2 := ((μ 108 31)).toNatClampNeg) rfl rfl q2 rfl rfl ?_
    refine am_Ex.seg 5 27 [.ref 108, .int a1, .int a2, .int a3] [.int a2, .int (μ 108 31), .ref 129] (am_up μ 128 (((μ 108 31)).toNatClampNeg) a1) (fun _ => rfl) ?_
    refine am_Ex.iast (v2 := a2) (i2 := ((μ 108 31)).toNatClampNeg) rfl rfl q2 rfl rfl ?_
    refine am_Ex.seg 5 37 [.ref 108, .int a1, .int a2, .int a3] [.int a3, .int (μ 108 31), .ref 130] (am_up (am_up μ 128 (((μ 108 31)).toNatClampNeg) a1) 129 (((μ 108 31)).toNatClampNeg) a2) (fun _ => rfl) ?_
    refine am_Ex.iast (v2 := a3) (i2 := ((μ 108 31)).toNatClampNeg) rfl rfl q2 rfl rfl ?_
    refine am_Ex.seg 6 48 [.ref 108, .int a1, .int a2, .int a3] [] (am_up (am_up (am_up (am_up μ 128 (((μ 108 31)).toNatClampNeg) a1) 129 (((μ 108 31)).toNatClampNeg) a2) 130 (((μ 108 31)).toNatClampNeg) a3) 108 31 ((μ 108 31) + 1)) (fun _ => rfl) ?_
    cases h
    exact am_Ex.vret rfl rfl
  · refine am_Ex.if_le_f rfl q1 ?_
    cases h
    exact am_Ex.vret rfl rfl
def fM_top (μ : am_Mu) : Option (Int32 × am_Mu) := (if (μ 108 34) ≤ 0 then some (0, μ) else (bif am_inb ((μ 108 34) - 1) 60 then some ((μ 131 ((((μ 108 34) - 1)).toNatClampNeg)), μ) else none))
set_option maxRecDepth 20000 in
theorem e_fM_top (d : Nat) : ∀ {μ : am_Mu} {out : Int32 × am_Mu}, fM_top μ = some out → am_Ex none (d + 0) 162 0 [.ref 108] [] am_SH μ (some (.int out.1), am_SH, out.2) := by
  intro μ out h
  unfold fM_top at h
  refine am_Ex.seg 2 4 [.ref 108] [.int (μ 108 34)] μ (fun _ => rfl) ?_
  rcases am_ite h with ⟨q1, h⟩ | ⟨q1, h⟩
  · refine am_Ex.if_le_t rfl q1 ?_
    refine am_Ex.seg 1 22 [.ref 108] [.int 0] μ (fun _ => rfl) ?_
    cases h
    exact am_Ex.iret rfl rfl
  · refine am_Ex.if_le_f rfl q1 ?_
    refine am_Ex.seg 6 17 [.ref 108] [.int ((μ 108 34) - 1), .ref 131] μ (fun _ => rfl) ?_
    obtain ⟨q2, h⟩ := am_bif h
    refine am_Ex.iald (v := (μ 131 ((((μ 108 34) - 1)).toNatClampNeg))) rfl rfl q2 rfl ?_
    refine am_Ex.goto rfl ?_
    cases h
    exact am_Ex.iret rfl rfl
def fM_puts (a1 : Int32) (μ : am_Mu) : Option (am_Mu) := (bif am_inb (μ 108 34) 60 then some (am_up (am_up μ 131 (((μ 108 34)).toNatClampNeg) a1) 108 34 ((μ 108 34) + 1)) else none)
set_option maxRecDepth 20000 in
theorem e_fM_puts (d : Nat) : ∀ {a1 : Int32} {μ : am_Mu} {out : am_Mu}, fM_puts a1 μ = some out → am_Ex none (d + 0) 163 0 [.ref 108, .int a1] [] am_SH μ (none, am_SH, out) := by
  intro a1 μ out h
  unfold fM_puts at h
  refine am_Ex.seg 5 9 [.ref 108, .int a1] [.int a1, .int (μ 108 34), .ref 131] μ (fun _ => rfl) ?_
  obtain ⟨q1, h⟩ := am_bif h
  refine am_Ex.iast (v2 := a1) (i2 := ((μ 108 34)).toNatClampNeg) rfl rfl q1 rfl rfl ?_
  refine am_Ex.seg 6 20 [.ref 108, .int a1] [] (am_up (am_up μ 131 (((μ 108 34)).toNatClampNeg) a1) 108 34 ((μ 108 34) + 1)) (fun _ => rfl) ?_
  cases h
  exact am_Ex.vret rfl rfl
def fM_ends_0 : Nat → am_Mu → Option (am_Mu)
  | 0, _ => none
  | n + 1, μ => ((fM_top μ).bind fun q1 => (if ¬ q1.1 = 33 then some q1.2 else ((fM_emit 2 0 (-1) (am_up (am_up q1.2 108 34 ((q1.2 108 34) - 1)) 108 33 ((q1.2 108 33) - 1))).bind fun q3 => (fM_ends_0 n) q3)))
def fM_ends (μ : am_Mu) : Option (am_Mu) := fM_ends_0 am_F μ
set_option maxRecDepth 20000 in
theorem e_fM_ends_0 (d : Nat) : ∀ n : Nat, ∀ {μ : am_Mu} {out : am_Mu}, fM_ends_0 n μ = some out → am_Ex none (d + 1) 164 0 [.ref 108] [] am_SH μ (none, am_SH, out) := by
  intro n
  induction n with
  | zero => intros; contradiction
  | succ n ih =>
    have hk0 : ∀ {μ : am_Mu} {out : am_Mu}, (fM_ends_0 n) μ = some out → am_Ex none (d + 1) 164 0 [.ref 108] [] am_SH μ (none, am_SH, out) := ih
    intro μ out h
    unfold fM_ends_0 at h
    refine am_Ex.seg 1 1 [.ref 108] [.ref 108] μ (fun _ => rfl) ?_
    obtain ⟨q1, h_q1, h⟩ := am_bind h
    refine am_Ex.ivk (na := 1) (b := 108) (As' := []) rfl rfl rfl rfl rfl rfl rfl rfl rfl (e_fM_top (d + 0) h_q1) ?_
    refine am_Ex.same 4 [.ref 108] [.int q1.1] q1.2 rfl ?_
    refine am_Ex.seg 1 6 [.ref 108] [.int 33, .int q1.1] q1.2 (fun _ => rfl) ?_
    rcases am_ite h with ⟨q2, h⟩ | ⟨q2, h⟩
    · refine am_Ex.icmp_ne_t rfl q2 ?_
      cases h
      exact am_Ex.vret rfl rfl
    · refine am_Ex.icmp_ne_f rfl (Decidable.not_not.mp q2) ?_
      refine am_Ex.seg 16 33 [.ref 108] [.int (-1), .int 0, .int 2, .ref 108] (am_up (am_up q1.2 108 34 ((q1.2 108 34) - 1)) 108 33 ((q1.2 108 33) - 1)) (fun _ => rfl) ?_
      obtain ⟨q3, h_q3, h⟩ := am_bind h
      refine am_Ex.ivk (na := 4) (b := 108) (As' := [.int 2, .int 0, .int (-1)]) rfl rfl rfl rfl rfl rfl rfl rfl rfl (e_fM_emit (d + 0) h_q3) ?_
      refine am_Ex.same 36 [.ref 108] [] q3 rfl ?_
      refine am_Ex.goto rfl ?_
      exact hk0 h
set_option maxRecDepth 20000 in
theorem e_fM_ends (d : Nat) : ∀ {μ : am_Mu} {out : am_Mu}, fM_ends μ = some out → am_Ex none (d + 1) 164 0 [.ref 108] [] am_SH μ (none, am_SH, out) := fun h => e_fM_ends_0 d am_F h
def fM_works_37 (k0 : Int32 → am_Mu → Option (am_Mu)) (a1 : Int32) (s1 : Int32) (μ : am_Mu) : Option (am_Mu) := ((fM_emit s1 0 (-1) μ).bind fun q1 => k0 a1 (am_up q1 108 34 ((q1 108 34) - 1)))
def fM_works_22 (k0 : Int32 → am_Mu → Option (am_Mu)) (a1 : Int32) (μ : am_Mu) : Option (am_Mu) := ((fM_top μ).bind fun q1 => (if ¬ q1.1 = 38 then fM_works_37 k0 a1 4 q1.2 else fM_works_37 k0 a1 3 q1.2))
def fM_works_0 : Nat → Int32 → am_Mu → Option (am_Mu)
  | 0, _, _ => none
  | n + 1, a1, μ => ((fM_top μ).bind fun q1 => (if q1.1 = 38 then fM_works_22 (fM_works_0 n) a1 q1.2 else (if a1 = 0 then some q1.2 else ((fM_top q1.2).bind fun q4 => (if ¬ q4.1 = 124 then some q4.2 else fM_works_22 (fM_works_0 n) a1 q4.2)))))
def fM_works (a1 : Int32) (μ : am_Mu) : Option (am_Mu) := fM_works_0 am_F a1 μ
set_option maxRecDepth 20000 in
theorem e_fM_works_37 (d : Nat) {k0 : Int32 → am_Mu → Option (am_Mu)} (hk0 : ∀ {a1 : Int32} {μ : am_Mu} {out : am_Mu}, k0 a1 μ = some out → am_Ex none (d + 1) 165 0 [.ref 108, .int a1] [] am_SH μ (none, am_SH, out)) : ∀ {a1 : Int32} {s1 : Int32} {μ : am_Mu} {out : am_Mu}, fM_works_37 k0 a1 s1 μ = some out → am_Ex none (d + 1) 165 37 [.ref 108, .int a1] [.int s1, .ref 108] am_SH μ (none, am_SH, out) := by
  intro a1 s1 μ out h
  unfold fM_works_37 at h
  refine am_Ex.seg 2 39 [.ref 108, .int a1] [.int (-1), .int 0, .int s1, .ref 108] μ (fun _ => rfl) ?_
  obtain ⟨q1, h_q1, h⟩ := am_bind h
  refine am_Ex.ivk (na := 4) (b := 108) (As' := [.int s1, .int 0, .int (-1)]) rfl rfl rfl rfl rfl rfl rfl rfl rfl (e_fM_emit (d + 0) h_q1) ?_
  refine am_Ex.same 42 [.ref 108, .int a1] [] q1 rfl ?_
  refine am_Ex.seg 6 52 [.ref 108, .int a1] [] (am_up q1 108 34 ((q1 108 34) - 1)) (fun _ => rfl) ?_
  refine am_Ex.goto rfl ?_
  exact hk0 h
set_option maxRecDepth 20000 in
theorem e_fM_works_22 (d : Nat) {k0 : Int32 → am_Mu → Option (am_Mu)} (hk0 : ∀ {a1 : Int32} {μ : am_Mu} {out : am_Mu}, k0 a1 μ = some out → am_Ex none (d + 1) 165 0 [.ref 108, .int a1] [] am_SH μ (none, am_SH, out)) : ∀ {a1 : Int32} {μ : am_Mu} {out : am_Mu}, fM_works_22 k0 a1 μ = some out → am_Ex none (d + 1) 165 22 [.ref 108, .int a1] [] am_SH μ (none, am_SH, out) := by
  intro a1 μ out h
  unfold fM_works_22 at h
  refine am_Ex.seg 2 24 [.ref 108, .int a1] [.ref 108, .ref 108] μ (fun _ => rfl) ?_
  obtain ⟨q1, h_q1, h⟩ := am_bind h
  refine am_Ex.ivk (na := 1) (b := 108) (As' := []) rfl rfl rfl rfl rfl rfl rfl rfl rfl (e_fM_top (d + 0) h_q1) ?_
  refine am_Ex.same 27 [.ref 108, .int a1] [.int q1.1, .ref 108] q1.2 rfl ?_
  refine am_Ex.seg 1 29 [.ref 108, .int a1] [.int 38, .int q1.1, .ref 108] q1.2 (fun _ => rfl) ?_
  rcases am_ite h with ⟨q2, h⟩ | ⟨q2, h⟩
  · refine am_Ex.icmp_ne_t rfl q2 ?_
    refine am_Ex.seg 1 37 [.ref 108, .int a1] [.int 4, .ref 108] q1.2 (fun _ => rfl) ?_
    exact e_fM_works_37 d hk0 h
  · refine am_Ex.icmp_ne_f rfl (Decidable.not_not.mp q2) ?_
    refine am_Ex.seg 1 33 [.ref 108, .int a1] [.int 3, .ref 108] q1.2 (fun _ => rfl) ?_
    refine am_Ex.goto rfl ?_
    exact e_fM_works_37 d hk0 h
set_option maxRecDepth 20000 in
theorem e_fM_works_0 (d : Nat) : ∀ n : Nat, ∀ {a1 : Int32} {μ : am_Mu} {out : am_Mu}, fM_works_0 n a1 μ = some out → am_Ex none (d + 1) 165 0 [.ref 108, .int a1] [] am_SH μ (none, am_SH, out) := by
  intro n
  induction n with
  | zero => intros; contradiction
  | succ n ih =>
    have hk0 : ∀ {a1 : Int32} {μ : am_Mu} {out : am_Mu}, (fM_works_0 n) a1 μ = some out → am_Ex none (d + 1) 165 0 [.ref 108, .int a1] [] am_SH μ (none, am_SH, out) := ih
    intro a1 μ out h
    unfold fM_works_0 at h
    refine am_Ex.seg 1 1 [.ref 108, .int a1] [.ref 108] μ (fun _ => rfl) ?_
    obtain ⟨q1, h_q1, h⟩ := am_bind h
    refine am_Ex.ivk (na := 1) (b := 108) (As' := []) rfl rfl rfl rfl rfl rfl rfl rfl rfl (e_fM_top (d + 0) h_q1) ?_
    refine am_Ex.same 4 [.ref 108, .int a1] [.int q1.1] q1.2 rfl ?_
    refine am_Ex.seg 1 6 [.ref 108, .int a1] [.int 38, .int q1.1] q1.2 (fun _ => rfl) ?_
    rcases am_ite h with ⟨q2, h⟩ | ⟨q2, h⟩
    · refine am_Ex.icmp_eq_t rfl q2 ?_
      exact e_fM_works_22 d hk0 h
    · refine am_Ex.icmp_eq_f rfl q2 ?_
      refine am_Ex.seg 1 10 [.ref 108, .int a1] [.int a1] q1.2 (fun _ => rfl) ?_
      rcases am_ite h with ⟨q3, h⟩ | ⟨q3, h⟩
      · refine am_Ex.if_eq_t rfl q3 ?_
        cases h
        exact am_Ex.vret rfl rfl
      · refine am_Ex.if_eq_f rfl q3 ?_
        refine am_Ex.seg 1 14 [.ref 108, .int a1] [.ref 108] q1.2 (fun _ => rfl) ?_
        obtain ⟨q4, h_q4, h⟩ := am_bind h
        refine am_Ex.ivk (na := 1) (b := 108) (As' := []) rfl rfl rfl rfl rfl rfl rfl rfl rfl (e_fM_top (d + 0) h_q4) ?_
        refine am_Ex.same 17 [.ref 108, .int a1] [.int q4.1] q4.2 rfl ?_
        refine am_Ex.seg 1 19 [.ref 108, .int a1] [.int 124, .int q4.1] q4.2 (fun _ => rfl) ?_
        rcases am_ite h with ⟨q5, h⟩ | ⟨q5, h⟩
        · refine am_Ex.icmp_ne_t rfl q5 ?_
          cases h
          exact am_Ex.vret rfl rfl
        · refine am_Ex.icmp_ne_f rfl (Decidable.not_not.mp q5) ?_
          exact e_fM_works_22 d hk0 h
set_option maxRecDepth 20000 in
theorem e_fM_works (d : Nat) : ∀ {a1 : Int32} {μ : am_Mu} {out : am_Mu}, fM_works a1 μ = some out → am_Ex none (d + 1) 165 0 [.ref 108, .int a1] [] am_SH μ (none, am_SH, out) := fun h => e_fM_works_0 d am_F h
def fM_isSide_12 (μ : am_Mu) : Option (Int32 × am_Mu) := some (1, μ)
def fM_isSide (a0 : Int32) (μ : am_Mu) : Option (Int32 × am_Mu) := (if a0 = 120 then fM_isSide_12 μ else (if ¬ a0 = 121 then some (0, μ) else fM_isSide_12 μ))
set_option maxRecDepth 20000 in
theorem e_fM_isSide_12 (d : Nat) : ∀ {w0 : Value} {μ : am_Mu} {out : Int32 × am_Mu}, fM_isSide_12 μ = some out → am_Ex none (d + 0) 166 12 [w0] [] am_SH μ (some (.int out.1), am_SH, out.2) := by
  intro w0 μ out h
  unfold fM_isSide_12 at h
  refine am_Ex.seg 1 13 [w0] [.int 1] μ (fun _ => rfl) ?_
  refine am_Ex.goto rfl ?_
  cases h
  exact am_Ex.zret rfl rfl (by decide)
set_option maxRecDepth 20000 in
theorem e_fM_isSide (d : Nat) : ∀ {a0 : Int32} {μ : am_Mu} {out : Int32 × am_Mu}, fM_isSide a0 μ = some out → am_Ex none (d + 0) 166 0 [.int a0] [] am_SH μ (some (.int out.1), am_SH, out.2) := by
  intro a0 μ out h
  unfold fM_isSide at h
  refine am_Ex.seg 2 3 [.int a0] [.int 120, .int a0] μ (fun _ => rfl) ?_
  rcases am_ite h with ⟨q1, h⟩ | ⟨q1, h⟩
  · refine am_Ex.icmp_eq_t rfl q1 ?_
    exact e_fM_isSide_12 d h
  · refine am_Ex.icmp_eq_f rfl q1 ?_
    refine am_Ex.seg 2 9 [.int a0] [.int 121, .int a0] μ (fun _ => rfl) ?_
    rcases am_ite h with ⟨q2, h⟩ | ⟨q2, h⟩
    · refine am_Ex.icmp_ne_t rfl q2 ?_
      refine am_Ex.seg 1 17 [.int a0] [.int 0] μ (fun _ => rfl) ?_
      cases h
      exact am_Ex.zret rfl rfl (by decide)
    · refine am_Ex.icmp_ne_f rfl (Decidable.not_not.mp q2) ?_
      exact e_fM_isSide_12 d h
def fM_sideMark_45 (a1 : Int32) (a2 : Int32) (μ : am_Mu) : Option (Int32 × am_Mu) := some ((((8 : Int32) * a1) + a2), (am_up μ 108 27 ((μ 108 27) + 1)))
def fM_sideMark_14 (s0 : Int32) (μ : am_Mu) : Option (Int32 × am_Mu) := ((fM_here (am_up μ 108 27 ((μ 108 27) + 1))).bind fun q1 => ((fM_isMark (q1.1 - 97) q1.2).bind fun q2 => (if ¬ q2.1 = 0 then fM_sideMark_45 s0 (q1.1 - 97) q2.2 else ((fM_fails 1 q2.2).bind fun q4 => fM_sideMark_45 s0 (q1.1 - 97) q4))))
def fM_sideMark (μ : am_Mu) : Option (Int32 × am_Mu) := ((fM_here μ).bind fun q1 => (if ¬ q1.1 = 121 then fM_sideMark_14 0 q1.2 else fM_sideMark_14 1 q1.2))
set_option maxRecDepth 20000 in
theorem e_fM_sideMark_45 (d : Nat) : ∀ {a1 : Int32} {a2 : Int32} {μ : am_Mu} {out : Int32 × am_Mu}, fM_sideMark_45 a1 a2 μ = some out → am_Ex none (d + 2) 167 45 [.ref 108, .int a1, .int a2] [] am_SH μ (some (.int out.1), am_SH, out.2) := by
  intro a1 a2 μ out h
  unfold fM_sideMark_45 at h
  refine am_Ex.seg 11 61 [.ref 108, .int a1, .int a2] [.int (((8 : Int32) * a1) + a2)] (am_up μ 108 27 ((μ 108 27) + 1)) (fun _ => rfl) ?_
  cases h
  exact am_Ex.iret rfl rfl
set_option maxRecDepth 20000 in
theorem e_fM_sideMark_14 (d : Nat) : ∀ {s0 : Int32} {w1 w2 : Value} {μ : am_Mu} {out : Int32 × am_Mu}, fM_sideMark_14 s0 μ = some out → am_Ex none (d + 2) 167 14 [.ref 108, w1, w2] [.int s0] am_SH μ (some (.int out.1), am_SH, out.2) := by
  intro s0 w1 w2 μ out h
  unfold fM_sideMark_14 at h
  refine am_Ex.seg 8 26 [.ref 108, .int s0, w2] [.ref 108] (am_up μ 108 27 ((μ 108 27) + 1)) (fun _ => rfl) ?_
  obtain ⟨q1, h_q1, h⟩ := am_bind h
  refine am_Ex.ivk (na := 1) (b := 108) (As' := []) rfl rfl rfl rfl rfl rfl rfl rfl rfl (e_fM_here (d + 1) h_q1) ?_
  refine am_Ex.same 29 [.ref 108, .int s0, w2] [.int q1.1] q1.2 rfl ?_
  refine am_Ex.seg 4 34 [.ref 108, .int s0, .int (q1.1 - 97)] [.int (q1.1 - 97)] q1.2 (fun _ => rfl) ?_
  obtain ⟨q2, h_q2, h⟩ := am_bind h
  refine am_Ex.isk (na := 1) rfl (As := [.int (q1.1 - 97)]) rfl rfl rfl rfl rfl rfl (e_fM_isMark (d + 0) h_q2) ?_
  refine am_Ex.same 37 [.ref 108, .int s0, .int (q1.1 - 97)] [.int q2.1] q2.2 rfl ?_
  rcases am_ite h with ⟨q3, h⟩ | ⟨q3, h⟩
  · refine am_Ex.if_ne_t rfl q3 ?_
    exact e_fM_sideMark_45 d h
  · refine am_Ex.if_ne_f rfl (Decidable.not_not.mp q3) ?_
    refine am_Ex.seg 2 42 [.ref 108, .int s0, .int (q1.1 - 97)] [.int 1, .ref 108] q2.2 (fun _ => rfl) ?_
    obtain ⟨q4, h_q4, h⟩ := am_bind h
    refine am_Ex.ivk (na := 2) (b := 108) (As' := [.int 1]) rfl rfl rfl rfl rfl rfl rfl rfl rfl (e_fM_fails (d + 1) h_q4) ?_
    refine am_Ex.same 45 [.ref 108, .int s0, .int (q1.1 - 97)] [] q4 rfl ?_
    exact e_fM_sideMark_45 d h
set_option maxRecDepth 20000 in
theorem e_fM_sideMark (d : Nat) : ∀ {μ : am_Mu} {out : Int32 × am_Mu}, fM_sideMark μ = some out → am_Ex none (d + 2) 167 0 [.ref 108, .null, .null] [] am_SH μ (some (.int out.1), am_SH, out.2) := by
  intro μ out h
  unfold fM_sideMark at h
  refine am_Ex.seg 1 1 [.ref 108, .null, .null] [.ref 108] μ (fun _ => rfl) ?_
  obtain ⟨q1, h_q1, h⟩ := am_bind h
  refine am_Ex.ivk (na := 1) (b := 108) (As' := []) rfl rfl rfl rfl rfl rfl rfl rfl rfl (e_fM_here (d + 1) h_q1) ?_
  refine am_Ex.same 4 [.ref 108, .null, .null] [.int q1.1] q1.2 rfl ?_
  refine am_Ex.seg 1 6 [.ref 108, .null, .null] [.int 121, .int q1.1] q1.2 (fun _ => rfl) ?_
  rcases am_ite h with ⟨q2, h⟩ | ⟨q2, h⟩
  · refine am_Ex.icmp_ne_t rfl q2 ?_
    refine am_Ex.seg 1 14 [.ref 108, .null, .null] [.int 0] q1.2 (fun _ => rfl) ?_
    exact e_fM_sideMark_14 d h
  · refine am_Ex.icmp_ne_f rfl (Decidable.not_not.mp q2) ?_
    refine am_Ex.seg 1 10 [.ref 108, .null, .null] [.int 1] q1.2 (fun _ => rfl) ?_
    refine am_Ex.goto rfl ?_
    exact e_fM_sideMark_14 d h
def fM_number_63 (k26 : Int32 → Int32 → am_Mu → Option (Int32 × am_Mu)) (a1 : Int32) (a2 : Int32) (μ : am_Mu) : Option (Int32 × am_Mu) := ((fM_here μ).bind fun q1 => k26 a1 ((((10 : Int32) * a2) + q1.1) - 48) (am_up q1.2 108 27 ((q1.2 108 27) + 1)))
def fM_number_26 : Nat → Int32 → Int32 → am_Mu → Option (Int32 × am_Mu)
  | 0, _, _, _ => none
  | n + 1, a1, a2, μ => (if ¬ (μ 108 29) = 0 then some (a2, μ) else ((fM_here μ).bind fun q2 => ((fM_lies q2.1 48 57 q2.2).bind fun q3 => (if q3.1 = 0 then some (a2, q3.2) else (if ¬ (q3.2 108 27) = (a1 + 6) then fM_number_63 (fM_number_26 n) a1 a2 q3.2 else ((fM_fails 2 q3.2).bind fun q6 => fM_number_63 (fM_number_26 n) a1 a2 q6))))))
def fM_number (μ : am_Mu) : Option (Int32 × am_Mu) := ((fM_here μ).bind fun q1 => ((fM_lies q1.1 48 57 q1.2).bind fun q2 => (if ¬ q2.1 = 0 then fM_number_26 am_F (μ 108 27) 0 q2.2 else ((fM_fails 1 q2.2).bind fun q4 => fM_number_26 am_F (μ 108 27) 0 q4))))
set_option maxRecDepth 20000 in
theorem e_fM_number_63 (d : Nat) {k26 : Int32 → Int32 → am_Mu → Option (Int32 × am_Mu)} (hk26 : ∀ {a1 : Int32} {a2 : Int32} {μ : am_Mu} {out : Int32 × am_Mu}, k26 a1 a2 μ = some out → am_Ex none (d + 1) 168 26 [.ref 108, .int a1, .int a2] [] am_SH μ (some (.int out.1), am_SH, out.2)) : ∀ {a1 : Int32} {a2 : Int32} {μ : am_Mu} {out : Int32 × am_Mu}, fM_number_63 k26 a1 a2 μ = some out → am_Ex none (d + 1) 168 63 [.ref 108, .int a1, .int a2] [] am_SH μ (some (.int out.1), am_SH, out.2) := by
  intro a1 a2 μ out h
  unfold fM_number_63 at h
  refine am_Ex.seg 4 68 [.ref 108, .int a1, .int a2] [.ref 108, .int ((10 : Int32) * a2)] μ (fun _ => rfl) ?_
  obtain ⟨q1, h_q1, h⟩ := am_bind h
  refine am_Ex.ivk (na := 1) (b := 108) (As' := []) rfl rfl rfl rfl rfl rfl rfl rfl rfl (e_fM_here (d + 0) h_q1) ?_
  refine am_Ex.same 71 [.ref 108, .int a1, .int a2] [.int q1.1, .int ((10 : Int32) * a2)] q1.2 rfl ?_
  refine am_Ex.seg 10 86 [.ref 108, .int a1, .int ((((10 : Int32) * a2) + q1.1) - 48)] [] (am_up q1.2 108 27 ((q1.2 108 27) + 1)) (fun _ => rfl) ?_
  refine am_Ex.goto rfl ?_
  exact hk26 h
set_option maxRecDepth 20000 in
theorem e_fM_number_26 (d : Nat) : ∀ n : Nat, ∀ {a1 : Int32} {a2 : Int32} {μ : am_Mu} {out : Int32 × am_Mu}, fM_number_26 n a1 a2 μ = some out → am_Ex none (d + 1) 168 26 [.ref 108, .int a1, .int a2] [] am_SH μ (some (.int out.1), am_SH, out.2) := by
  intro n
  induction n with
  | zero => intros; contradiction
  | succ n ih =>
    have hk26 : ∀ {a1 : Int32} {a2 : Int32} {μ : am_Mu} {out : Int32 × am_Mu}, (fM_number_26 n) a1 a2 μ = some out → am_Ex none (d + 1) 168 26 [.ref 108, .int a1, .int a2] [] am_SH μ (some (.int out.1), am_SH, out.2) := ih
    intro a1 a2 μ out h
    unfold fM_number_26 at h
    refine am_Ex.seg 2 30 [.ref 108, .int a1, .int a2] [.int (μ 108 29)] μ (fun _ => rfl) ?_
    rcases am_ite h with ⟨q1, h⟩ | ⟨q1, h⟩
    · refine am_Ex.if_ne_t rfl q1 ?_
      refine am_Ex.seg 1 90 [.ref 108, .int a1, .int a2] [.int a2] μ (fun _ => rfl) ?_
      cases h
      exact am_Ex.iret rfl rfl
    · refine am_Ex.if_ne_f rfl (Decidable.not_not.mp q1) ?_
      refine am_Ex.seg 1 34 [.ref 108, .int a1, .int a2] [.ref 108] μ (fun _ => rfl) ?_
      obtain ⟨q2, h_q2, h⟩ := am_bind h
      refine am_Ex.ivk (na := 1) (b := 108) (As' := []) rfl rfl rfl rfl rfl rfl rfl rfl rfl (e_fM_here (d + 0) h_q2) ?_
      refine am_Ex.same 37 [.ref 108, .int a1, .int a2] [.int q2.1] q2.2 rfl ?_
      refine am_Ex.seg 2 41 [.ref 108, .int a1, .int a2] [.int 57, .int 48, .int q2.1] q2.2 (fun _ => rfl) ?_
      obtain ⟨q3, h_q3, h⟩ := am_bind h
      refine am_Ex.isk (na := 3) rfl (As := [.int q2.1, .int 48, .int 57]) rfl rfl rfl rfl rfl rfl (e_fM_lies (d + 0) h_q3) ?_
      refine am_Ex.same 44 [.ref 108, .int a1, .int a2] [.int q3.1] q3.2 rfl ?_
      rcases am_ite h with ⟨q4, h⟩ | ⟨q4, h⟩
      · refine am_Ex.if_eq_t rfl q4 ?_
        refine am_Ex.seg 1 90 [.ref 108, .int a1, .int a2] [.int a2] q3.2 (fun _ => rfl) ?_
        cases h
        exact am_Ex.iret rfl rfl
      · refine am_Ex.if_eq_f rfl q4 ?_
        refine am_Ex.seg 5 55 [.ref 108, .int a1, .int a2] [.int (a1 + 6), .int (q3.2 108 27)] q3.2 (fun _ => rfl) ?_
        rcases am_ite h with ⟨q5, h⟩ | ⟨q5, h⟩
        · refine am_Ex.icmp_ne_t rfl q5 ?_
          exact e_fM_number_63 d hk26 h
        · refine am_Ex.icmp_ne_f rfl (Decidable.not_not.mp q5) ?_
          refine am_Ex.seg 2 60 [.ref 108, .int a1, .int a2] [.int 2, .ref 108] q3.2 (fun _ => rfl) ?_
          obtain ⟨q6, h_q6, h⟩ := am_bind h
          refine am_Ex.ivk (na := 2) (b := 108) (As' := [.int 2]) rfl rfl rfl rfl rfl rfl rfl rfl rfl (e_fM_fails (d + 0) h_q6) ?_
          refine am_Ex.same 63 [.ref 108, .int a1, .int a2] [] q6 rfl ?_
          exact e_fM_number_63 d hk26 h
set_option maxRecDepth 20000 in
theorem e_fM_number (d : Nat) : ∀ {μ : am_Mu} {out : Int32 × am_Mu}, fM_number μ = some out → am_Ex none (d + 1) 168 0 [.ref 108, .null, .null] [] am_SH μ (some (.int out.1), am_SH, out.2) := by
  intro μ out h
  unfold fM_number at h
  refine am_Ex.seg 6 8 [.ref 108, .int (μ 108 27), .int 0] [.ref 108] μ (fun _ => rfl) ?_
  obtain ⟨q1, h_q1, h⟩ := am_bind h
  refine am_Ex.ivk (na := 1) (b := 108) (As' := []) rfl rfl rfl rfl rfl rfl rfl rfl rfl (e_fM_here (d + 0) h_q1) ?_
  refine am_Ex.same 11 [.ref 108, .int (μ 108 27), .int 0] [.int q1.1] q1.2 rfl ?_
  refine am_Ex.seg 2 15 [.ref 108, .int (μ 108 27), .int 0] [.int 57, .int 48, .int q1.1] q1.2 (fun _ => rfl) ?_
  obtain ⟨q2, h_q2, h⟩ := am_bind h
  refine am_Ex.isk (na := 3) rfl (As := [.int q1.1, .int 48, .int 57]) rfl rfl rfl rfl rfl rfl (e_fM_lies (d + 0) h_q2) ?_
  refine am_Ex.same 18 [.ref 108, .int (μ 108 27), .int 0] [.int q2.1] q2.2 rfl ?_
  rcases am_ite h with ⟨q3, h⟩ | ⟨q3, h⟩
  · refine am_Ex.if_ne_t rfl q3 ?_
    exact e_fM_number_26 d am_F h
  · refine am_Ex.if_ne_f rfl (Decidable.not_not.mp q3) ?_
    refine am_Ex.seg 2 23 [.ref 108, .int (μ 108 27), .int 0] [.int 1, .ref 108] q2.2 (fun _ => rfl) ?_
    obtain ⟨q4, h_q4, h⟩ := am_bind h
    refine am_Ex.ivk (na := 2) (b := 108) (As' := [.int 1]) rfl rfl rfl rfl rfl rfl rfl rfl rfl (e_fM_fails (d + 0) h_q4) ?_
    refine am_Ex.same 26 [.ref 108, .int (μ 108 27), .int 0] [] q4 rfl ?_
    exact e_fM_number_26 d am_F h
def fM_piece_200 (a2 : Int32) (a3 : Int32) (μ : am_Mu) : Option (am_Mu) := ((fM_emit 0 a2 a3 μ).bind fun q1 => some q1)
def fM_piece_122 (a1 : Int32) (μ : am_Mu) : Option (am_Mu) := (if (μ 108 29) ≤ 0 then (if ¬ a1 = 0 then ((fM_sideMark (am_up μ 108 32 ((μ 108 32) + 1))).bind fun q3 => (if ¬ (q3.2 108 29) = 0 then fM_piece_200 q3.1 (-1) q3.2 else ((fM_here q3.2).bind fun q5 => (if ¬ q5.1 = 60 then fM_piece_200 q3.1 (-1) q5.2 else ((fM_number (am_up q5.2 108 27 ((q5.2 108 27) + 1))).bind fun q7 => fM_piece_200 q3.1 q7.1 q7.2))))) else ((fM_emit 1 0 (-1) (am_up (am_up μ 108 32 ((μ 108 32) + 1)) 108 27 ((μ 108 27) + 1))).bind fun q8 => some q8)) else some μ)
def fM_piece_107 (a1 : Int32) (μ : am_Mu) : Option (am_Mu) := (if ¬ (μ 108 32) = 80 then fM_piece_122 a1 μ else ((fM_fails 6 μ).bind fun q2 => fM_piece_122 a1 q2))
def fM_piece_70 (μ : am_Mu) : Option (am_Mu) := (if (μ 108 29) ≤ 0 then ((fM_here μ).bind fun q2 => ((fM_isSide q2.1 q2.2).bind fun q3 => (if ¬ q3.1 = 0 then fM_piece_107 q3.1 q3.2 else ((fM_here q3.2).bind fun q5 => (if q5.1 = 49 then fM_piece_107 q3.1 q5.2 else ((fM_fails 1 q5.2).bind fun q7 => fM_piece_122 q3.1 q7)))))) else some μ)
def fM_piece_39 (k0 : am_Mu → Option (am_Mu)) (μ : am_Mu) : Option (am_Mu) := ((fM_here μ).bind fun q1 => ((fM_puts q1.1 q1.2).bind fun q2 => k0 (am_up (am_up q2 108 33 ((q2 108 33) + 1)) 108 27 ((q2 108 27) + 1))))
def fM_piece_25 (k0 : am_Mu → Option (am_Mu)) (μ : am_Mu) : Option (am_Mu) := (if ¬ (μ 108 33) = 8 then fM_piece_39 k0 μ else ((fM_fails 5 μ).bind fun q2 => fM_piece_39 k0 q2))
def fM_piece_0 : Nat → am_Mu → Option (am_Mu)
  | 0, _ => none
  | n + 1, μ => (if ¬ (μ 108 29) = 0 then fM_piece_70 μ else ((fM_here μ).bind fun q2 => (if q2.1 = 33 then fM_piece_25 (fM_piece_0 n) q2.2 else ((fM_here q2.2).bind fun q4 => (if ¬ q4.1 = 40 then fM_piece_70 q4.2 else fM_piece_25 (fM_piece_0 n) q4.2)))))
def fM_piece (μ : am_Mu) : Option (am_Mu) := fM_piece_0 am_F μ
set_option maxRecDepth 20000 in
theorem e_fM_piece_200 (d : Nat) : ∀ {a2 : Int32} {a3 : Int32} {w1 : Value} {μ : am_Mu} {out : am_Mu}, fM_piece_200 a2 a3 μ = some out → am_Ex none (d + 3) 169 200 [.ref 108, w1, .int a2, .int a3] [] am_SH μ (none, am_SH, out) := by
  intro a2 a3 w1 μ out h
  unfold fM_piece_200 at h
  refine am_Ex.seg 4 204 [.ref 108, w1, .int a2, .int a3] [.int a3, .int a2, .int 0, .ref 108] μ (fun _ => rfl) ?_
  obtain ⟨q1, h_q1, h⟩ := am_bind h
  refine am_Ex.ivk (na := 4) (b := 108) (As' := [.int 0, .int a2, .int a3]) rfl rfl rfl rfl rfl rfl rfl rfl rfl (e_fM_emit (d + 2) h_q1) ?_
  refine am_Ex.same 207 [.ref 108, w1, .int a2, .int a3] [] q1 rfl ?_
  cases h
  exact am_Ex.vret rfl rfl
set_option maxRecDepth 20000 in
theorem e_fM_piece_122 (d : Nat) : ∀ {a1 : Int32} {w2 w3 : Value} {μ : am_Mu} {out : am_Mu}, fM_piece_122 a1 μ = some out → am_Ex none (d + 3) 169 122 [.ref 108, .int a1, w2, w3] [] am_SH μ (none, am_SH, out) := by
  intro a1 w2 w3 μ out h
  unfold fM_piece_122 at h
  refine am_Ex.seg 2 126 [.ref 108, .int a1, w2, w3] [.int (μ 108 29)] μ (fun _ => rfl) ?_
  rcases am_ite h with ⟨q1, h⟩ | ⟨q1, h⟩
  · refine am_Ex.if_le_t rfl q1 ?_
    refine am_Ex.seg 7 141 [.ref 108, .int a1, w2, w3] [.int a1] (am_up μ 108 32 ((μ 108 32) + 1)) (fun _ => rfl) ?_
    rcases am_ite h with ⟨q2, h⟩ | ⟨q2, h⟩
    · refine am_Ex.if_ne_t rfl q2 ?_
      refine am_Ex.seg 1 163 [.ref 108, .int a1, w2, w3] [.ref 108] (am_up μ 108 32 ((μ 108 32) + 1)) (fun _ => rfl) ?_
      obtain ⟨q3, h_q3, h⟩ := am_bind h
      refine am_Ex.ivk (na := 1) (b := 108) (As' := []) rfl rfl rfl rfl rfl rfl rfl rfl rfl (e_fM_sideMark (d + 0) h_q3) ?_
      refine am_Ex.same 166 [.ref 108, .int a1, w2, w3] [.int q3.1] q3.2 rfl ?_
      refine am_Ex.seg 5 173 [.ref 108, .int a1, .int q3.1, .int (-1)] [.int (q3.2 108 29)] q3.2 (fun _ => rfl) ?_
      rcases am_ite h with ⟨q4, h⟩ | ⟨q4, h⟩
      · refine am_Ex.if_ne_t rfl q4 ?_
        exact e_fM_piece_200 d h
      · refine am_Ex.if_ne_f rfl (Decidable.not_not.mp q4) ?_
        refine am_Ex.seg 1 177 [.ref 108, .int a1, .int q3.1, .int (-1)] [.ref 108] q3.2 (fun _ => rfl) ?_
        obtain ⟨q5, h_q5, h⟩ := am_bind h
        refine am_Ex.ivk (na := 1) (b := 108) (As' := []) rfl rfl rfl rfl rfl rfl rfl rfl rfl (e_fM_here (d + 2) h_q5) ?_
        refine am_Ex.same 180 [.ref 108, .int a1, .int q3.1, .int (-1)] [.int q5.1] q5.2 rfl ?_
        refine am_Ex.seg 1 182 [.ref 108, .int a1, .int q3.1, .int (-1)] [.int 60, .int q5.1] q5.2 (fun _ => rfl) ?_
        rcases am_ite h with ⟨q6, h⟩ | ⟨q6, h⟩
        · refine am_Ex.icmp_ne_t rfl q6 ?_
          exact e_fM_piece_200 d h
        · refine am_Ex.icmp_ne_f rfl (Decidable.not_not.mp q6) ?_
          refine am_Ex.seg 7 196 [.ref 108, .int a1, .int q3.1, .int (-1)] [.ref 108] (am_up q5.2 108 27 ((q5.2 108 27) + 1)) (fun _ => rfl) ?_
          obtain ⟨q7, h_q7, h⟩ := am_bind h
          refine am_Ex.ivk (na := 1) (b := 108) (As' := []) rfl rfl rfl rfl rfl rfl rfl rfl rfl (e_fM_number (d + 1) h_q7) ?_
          refine am_Ex.same 199 [.ref 108, .int a1, .int q3.1, .int (-1)] [.int q7.1] q7.2 rfl ?_
          refine am_Ex.seg 1 200 [.ref 108, .int a1, .int q3.1, .int q7.1] [] q7.2 (fun _ => rfl) ?_
          exact e_fM_piece_200 d h
    · refine am_Ex.if_ne_f rfl (Decidable.not_not.mp q2) ?_
      refine am_Ex.seg 10 158 [.ref 108, .int a1, w2, w3] [.int (-1), .int 0, .int 1, .ref 108] (am_up (am_up μ 108 32 ((μ 108 32) + 1)) 108 27 ((μ 108 27) + 1)) (fun _ => rfl) ?_
      obtain ⟨q8, h_q8, h⟩ := am_bind h
      refine am_Ex.ivk (na := 4) (b := 108) (As' := [.int 1, .int 0, .int (-1)]) rfl rfl rfl rfl rfl rfl rfl rfl rfl (e_fM_emit (d + 2) h_q8) ?_
      refine am_Ex.same 161 [.ref 108, .int a1, w2, w3] [] q8 rfl ?_
      cases h
      exact am_Ex.vret rfl rfl
  · refine am_Ex.if_le_f rfl q1 ?_
    cases h
    exact am_Ex.vret rfl rfl
set_option maxRecDepth 20000 in
theorem e_fM_piece_107 (d : Nat) : ∀ {a1 : Int32} {w2 w3 : Value} {μ : am_Mu} {out : am_Mu}, fM_piece_107 a1 μ = some out → am_Ex none (d + 3) 169 107 [.ref 108, .int a1, w2, w3] [] am_SH μ (none, am_SH, out) := by
  intro a1 w2 w3 μ out h
  unfold fM_piece_107 at h
  refine am_Ex.seg 3 113 [.ref 108, .int a1, w2, w3] [.int 80, .int (μ 108 32)] μ (fun _ => rfl) ?_
  rcases am_ite h with ⟨q1, h⟩ | ⟨q1, h⟩
  · refine am_Ex.icmp_ne_t rfl q1 ?_
    exact e_fM_piece_122 d h
  · refine am_Ex.icmp_ne_f rfl (Decidable.not_not.mp q1) ?_
    refine am_Ex.seg 2 119 [.ref 108, .int a1, w2, w3] [.int 6, .ref 108] μ (fun _ => rfl) ?_
    obtain ⟨q2, h_q2, h⟩ := am_bind h
    refine am_Ex.ivk (na := 2) (b := 108) (As' := [.int 6]) rfl rfl rfl rfl rfl rfl rfl rfl rfl (e_fM_fails (d + 2) h_q2) ?_
    refine am_Ex.same 122 [.ref 108, .int a1, w2, w3] [] q2 rfl ?_
    exact e_fM_piece_122 d h
set_option maxRecDepth 20000 in
theorem e_fM_piece_70 (d : Nat) : ∀ {w1 w2 w3 : Value} {μ : am_Mu} {out : am_Mu}, fM_piece_70 μ = some out → am_Ex none (d + 3) 169 70 [.ref 108, w1, w2, w3] [] am_SH μ (none, am_SH, out) := by
  intro w1 w2 w3 μ out h
  unfold fM_piece_70 at h
  refine am_Ex.seg 2 74 [.ref 108, w1, w2, w3] [.int (μ 108 29)] μ (fun _ => rfl) ?_
  rcases am_ite h with ⟨q1, h⟩ | ⟨q1, h⟩
  · refine am_Ex.if_le_t rfl q1 ?_
    refine am_Ex.seg 1 79 [.ref 108, w1, w2, w3] [.ref 108] μ (fun _ => rfl) ?_
    obtain ⟨q2, h_q2, h⟩ := am_bind h
    refine am_Ex.ivk (na := 1) (b := 108) (As' := []) rfl rfl rfl rfl rfl rfl rfl rfl rfl (e_fM_here (d + 2) h_q2) ?_
    refine am_Ex.same 82 [.ref 108, w1, w2, w3] [.int q2.1] q2.2 rfl ?_
    obtain ⟨q3, h_q3, h⟩ := am_bind h
    refine am_Ex.isk (na := 1) rfl (As := [.int q2.1]) rfl rfl rfl rfl rfl rfl (e_fM_isSide (d + 2) h_q3) ?_
    refine am_Ex.same 85 [.ref 108, w1, w2, w3] [.int q3.1] q3.2 rfl ?_
    refine am_Ex.seg 2 87 [.ref 108, .int q3.1, w2, w3] [.int q3.1] q3.2 (fun _ => rfl) ?_
    rcases am_ite h with ⟨q4, h⟩ | ⟨q4, h⟩
    · refine am_Ex.if_ne_t rfl q4 ?_
      exact e_fM_piece_107 d h
    · refine am_Ex.if_ne_f rfl (Decidable.not_not.mp q4) ?_
      refine am_Ex.seg 1 91 [.ref 108, .int q3.1, w2, w3] [.ref 108] q3.2 (fun _ => rfl) ?_
      obtain ⟨q5, h_q5, h⟩ := am_bind h
      refine am_Ex.ivk (na := 1) (b := 108) (As' := []) rfl rfl rfl rfl rfl rfl rfl rfl rfl (e_fM_here (d + 2) h_q5) ?_
      refine am_Ex.same 94 [.ref 108, .int q3.1, w2, w3] [.int q5.1] q5.2 rfl ?_
      refine am_Ex.seg 1 96 [.ref 108, .int q3.1, w2, w3] [.int 49, .int q5.1] q5.2 (fun _ => rfl) ?_
      rcases am_ite h with ⟨q6, h⟩ | ⟨q6, h⟩
      · refine am_Ex.icmp_eq_t rfl q6 ?_
        exact e_fM_piece_107 d h
      · refine am_Ex.icmp_eq_f rfl q6 ?_
        refine am_Ex.seg 2 101 [.ref 108, .int q3.1, w2, w3] [.int 1, .ref 108] q5.2 (fun _ => rfl) ?_
        obtain ⟨q7, h_q7, h⟩ := am_bind h
        refine am_Ex.ivk (na := 2) (b := 108) (As' := [.int 1]) rfl rfl rfl rfl rfl rfl rfl rfl rfl (e_fM_fails (d + 2) h_q7) ?_
        refine am_Ex.same 104 [.ref 108, .int q3.1, w2, w3] [] q7 rfl ?_
        refine am_Ex.goto rfl ?_
        exact e_fM_piece_122 d h
  · refine am_Ex.if_le_f rfl q1 ?_
    cases h
    exact am_Ex.vret rfl rfl
set_option maxRecDepth 20000 in
theorem e_fM_piece_39 (d : Nat) {k0 : am_Mu → Option (am_Mu)} (hk0 : ∀ {w1 w2 w3 : Value} {μ : am_Mu} {out : am_Mu}, k0 μ = some out → am_Ex none (d + 3) 169 0 [.ref 108, w1, w2, w3] [] am_SH μ (none, am_SH, out)) : ∀ {w1 w2 w3 : Value} {μ : am_Mu} {out : am_Mu}, fM_piece_39 k0 μ = some out → am_Ex none (d + 3) 169 39 [.ref 108, w1, w2, w3] [] am_SH μ (none, am_SH, out) := by
  intro w1 w2 w3 μ out h
  unfold fM_piece_39 at h
  refine am_Ex.seg 2 41 [.ref 108, w1, w2, w3] [.ref 108, .ref 108] μ (fun _ => rfl) ?_
  obtain ⟨q1, h_q1, h⟩ := am_bind h
  refine am_Ex.ivk (na := 1) (b := 108) (As' := []) rfl rfl rfl rfl rfl rfl rfl rfl rfl (e_fM_here (d + 2) h_q1) ?_
  refine am_Ex.same 44 [.ref 108, w1, w2, w3] [.int q1.1, .ref 108] q1.2 rfl ?_
  obtain ⟨q2, h_q2, h⟩ := am_bind h
  refine am_Ex.ivk (na := 2) (b := 108) (As' := [.int q1.1]) rfl rfl rfl rfl rfl rfl rfl rfl rfl (e_fM_puts (d + 2) h_q2) ?_
  refine am_Ex.same 47 [.ref 108, w1, w2, w3] [] q2 rfl ?_
  refine am_Ex.seg 12 67 [.ref 108, w1, w2, w3] [] (am_up (am_up q2 108 33 ((q2 108 33) + 1)) 108 27 ((q2 108 27) + 1)) (fun _ => rfl) ?_
  refine am_Ex.goto rfl ?_
  exact hk0 h
set_option maxRecDepth 20000 in
theorem e_fM_piece_25 (d : Nat) {k0 : am_Mu → Option (am_Mu)} (hk0 : ∀ {w1 w2 w3 : Value} {μ : am_Mu} {out : am_Mu}, k0 μ = some out → am_Ex none (d + 3) 169 0 [.ref 108, w1, w2, w3] [] am_SH μ (none, am_SH, out)) : ∀ {w1 w2 w3 : Value} {μ : am_Mu} {out : am_Mu}, fM_piece_25 k0 μ = some out → am_Ex none (d + 3) 169 25 [.ref 108, w1, w2, w3] [] am_SH μ (none, am_SH, out) := by
  intro w1 w2 w3 μ out h
  unfold fM_piece_25 at h
  refine am_Ex.seg 3 31 [.ref 108, w1, w2, w3] [.int 8, .int (μ 108 33)] μ (fun _ => rfl) ?_
  rcases am_ite h with ⟨q1, h⟩ | ⟨q1, h⟩
  · refine am_Ex.icmp_ne_t rfl q1 ?_
    exact e_fM_piece_39 d hk0 h
  · refine am_Ex.icmp_ne_f rfl (Decidable.not_not.mp q1) ?_
    refine am_Ex.seg 2 36 [.ref 108, w1, w2, w3] [.int 5, .ref 108] μ (fun _ => rfl) ?_
    obtain ⟨q2, h_q2, h⟩ := am_bind h
    refine am_Ex.ivk (na := 2) (b := 108) (As' := [.int 5]) rfl rfl rfl rfl rfl rfl rfl rfl rfl (e_fM_fails (d + 2) h_q2) ?_
    refine am_Ex.same 39 [.ref 108, w1, w2, w3] [] q2 rfl ?_
    exact e_fM_piece_39 d hk0 h
set_option maxRecDepth 20000 in
theorem e_fM_piece_0 (d : Nat) : ∀ n : Nat, ∀ {w1 w2 w3 : Value} {μ : am_Mu} {out : am_Mu}, fM_piece_0 n μ = some out → am_Ex none (d + 3) 169 0 [.ref 108, w1, w2, w3] [] am_SH μ (none, am_SH, out) := by
  intro n
  induction n with
  | zero => intros; contradiction
  | succ n ih =>
    have hk0 : ∀ {w1 w2 w3 : Value} {μ : am_Mu} {out : am_Mu}, (fM_piece_0 n) μ = some out → am_Ex none (d + 3) 169 0 [.ref 108, w1, w2, w3] [] am_SH μ (none, am_SH, out) := ih
    intro w1 w2 w3 μ out h
    unfold fM_piece_0 at h
    refine am_Ex.seg 2 4 [.ref 108, w1, w2, w3] [.int (μ 108 29)] μ (fun _ => rfl) ?_
    rcases am_ite h with ⟨q1, h⟩ | ⟨q1, h⟩
    · refine am_Ex.if_ne_t rfl q1 ?_
      exact e_fM_piece_70 d h
    · refine am_Ex.if_ne_f rfl (Decidable.not_not.mp q1) ?_
      refine am_Ex.seg 1 8 [.ref 108, w1, w2, w3] [.ref 108] μ (fun _ => rfl) ?_
      obtain ⟨q2, h_q2, h⟩ := am_bind h
      refine am_Ex.ivk (na := 1) (b := 108) (As' := []) rfl rfl rfl rfl rfl rfl rfl rfl rfl (e_fM_here (d + 2) h_q2) ?_
      refine am_Ex.same 11 [.ref 108, w1, w2, w3] [.int q2.1] q2.2 rfl ?_
      refine am_Ex.seg 1 13 [.ref 108, w1, w2, w3] [.int 33, .int q2.1] q2.2 (fun _ => rfl) ?_
      rcases am_ite h with ⟨q3, h⟩ | ⟨q3, h⟩
      · refine am_Ex.icmp_eq_t rfl q3 ?_
        exact e_fM_piece_25 d hk0 h
      · refine am_Ex.icmp_eq_f rfl q3 ?_
        refine am_Ex.seg 1 17 [.ref 108, w1, w2, w3] [.ref 108] q2.2 (fun _ => rfl) ?_
        obtain ⟨q4, h_q4, h⟩ := am_bind h
        refine am_Ex.ivk (na := 1) (b := 108) (As' := []) rfl rfl rfl rfl rfl rfl rfl rfl rfl (e_fM_here (d + 2) h_q4) ?_
        refine am_Ex.same 20 [.ref 108, w1, w2, w3] [.int q4.1] q4.2 rfl ?_
        refine am_Ex.seg 1 22 [.ref 108, w1, w2, w3] [.int 40, .int q4.1] q4.2 (fun _ => rfl) ?_
        rcases am_ite h with ⟨q5, h⟩ | ⟨q5, h⟩
        · refine am_Ex.icmp_ne_t rfl q5 ?_
          exact e_fM_piece_70 d h
        · refine am_Ex.icmp_ne_f rfl (Decidable.not_not.mp q5) ?_
          exact e_fM_piece_25 d hk0 h
set_option maxRecDepth 20000 in
theorem e_fM_piece (d : Nat) : ∀ {μ : am_Mu} {out : am_Mu}, fM_piece μ = some out → am_Ex none (d + 3) 169 0 [.ref 108, .null, .null, .null] [] am_SH μ (none, am_SH, out) := fun h => e_fM_piece_0 d am_F h
def fM_closes (μ : am_Mu) : Option (am_Mu) := ((fM_works 1 μ).bind fun q1 => ((fM_top q1).bind fun q2 => (if q2.1 = 40 then ((fM_ends (am_up (am_up (am_up q2.2 108 34 ((q2.2 108 34) - 1)) 108 33 ((q2.2 108 33) - 1)) 108 27 ((q2.2 108 27) + 1))).bind fun q4 => some q4) else ((fM_fails 1 q2.2).bind fun q5 => some q5))))
set_option maxRecDepth 20000 in
theorem e_fM_closes (d : Nat) : ∀ {μ : am_Mu} {out : am_Mu}, fM_closes μ = some out → am_Ex none (d + 2) 170 0 [.ref 108] [] am_SH μ (none, am_SH, out) := by
  intro μ out h
  unfold fM_closes at h
  refine am_Ex.seg 2 2 [.ref 108] [.int 1, .ref 108] μ (fun _ => rfl) ?_
  obtain ⟨q1, h_q1, h⟩ := am_bind h
  refine am_Ex.ivk (na := 2) (b := 108) (As' := [.int 1]) rfl rfl rfl rfl rfl rfl rfl rfl rfl (e_fM_works (d + 0) h_q1) ?_
  refine am_Ex.same 5 [.ref 108] [] q1 rfl ?_
  refine am_Ex.seg 1 6 [.ref 108] [.ref 108] q1 (fun _ => rfl) ?_
  obtain ⟨q2, h_q2, h⟩ := am_bind h
  refine am_Ex.ivk (na := 1) (b := 108) (As' := []) rfl rfl rfl rfl rfl rfl rfl rfl rfl (e_fM_top (d + 1) h_q2) ?_
  refine am_Ex.same 9 [.ref 108] [.int q2.1] q2.2 rfl ?_
  refine am_Ex.seg 1 11 [.ref 108] [.int 40, .int q2.1] q2.2 (fun _ => rfl) ?_
  rcases am_ite h with ⟨q3, h⟩ | ⟨q3, h⟩
  · refine am_Ex.icmp_eq_t rfl q3 ?_
    refine am_Ex.seg 19 51 [.ref 108] [.ref 108] (am_up (am_up (am_up q2.2 108 34 ((q2.2 108 34) - 1)) 108 33 ((q2.2 108 33) - 1)) 108 27 ((q2.2 108 27) + 1)) (fun _ => rfl) ?_
    obtain ⟨q4, h_q4, h⟩ := am_bind h
    refine am_Ex.ivk (na := 1) (b := 108) (As' := []) rfl rfl rfl rfl rfl rfl rfl rfl rfl (e_fM_ends (d + 0) h_q4) ?_
    refine am_Ex.same 54 [.ref 108] [] q4 rfl ?_
    cases h
    exact am_Ex.vret rfl rfl
  · refine am_Ex.icmp_eq_f rfl q3 ?_
    refine am_Ex.seg 2 16 [.ref 108] [.int 1, .ref 108] q2.2 (fun _ => rfl) ?_
    obtain ⟨q5, h_q5, h⟩ := am_bind h
    refine am_Ex.ivk (na := 2) (b := 108) (As' := [.int 1]) rfl rfl rfl rfl rfl rfl rfl rfl rfl (e_fM_fails (d + 1) h_q5) ?_
    refine am_Ex.same 19 [.ref 108] [] q5 rfl ?_
    cases h
    exact am_Ex.vret rfl rfl
def fM_condition_158 (μ : am_Mu) : Option (am_Mu) := some (am_up μ 108 27 ((μ 108 27) + 1))
def fM_condition_153 (μ : am_Mu) : Option (am_Mu) := ((fM_fails 1 μ).bind fun q1 => fM_condition_158 q1)
def fM_condition_124 (μ : am_Mu) : Option (am_Mu) := (if (μ 108 29) ≤ 0 then ((fM_works 1 μ).bind fun q2 => ((fM_here q2).bind fun q3 => (if ¬ q3.1 = 62 then fM_condition_153 q3.2 else (if (q3.2 108 34) ≤ 0 then fM_condition_158 q3.2 else fM_condition_153 q3.2)))) else some μ)
def fM_condition_103 (k12 : Int32 → am_Mu → Option (am_Mu)) (a1 : Int32) (a2 : Int32) (s1 : Int32) (μ : am_Mu) : Option (am_Mu) := ((fM_works s1 μ).bind fun q1 => ((fM_puts a2 q1).bind fun q2 => k12 a1 (am_up q2 108 27 ((q2 108 27) + 1))))
def fM_condition_76 (k12 : Int32 → am_Mu → Option (am_Mu)) (a2 : Int32) (s0 : Int32) (μ : am_Mu) : Option (am_Mu) := (if 0 < (μ 108 29) then k12 s0 μ else (if ¬ s0 = 0 then (if ¬ a2 = 124 then fM_condition_103 k12 s0 a2 0 μ else fM_condition_103 k12 s0 a2 1 μ) else k12 s0 μ))
def fM_condition_71 (k12 : Int32 → am_Mu → Option (am_Mu)) (a2 : Int32) (μ : am_Mu) : Option (am_Mu) := fM_condition_76 k12 a2 1 μ
def fM_condition_54 (k12 : Int32 → am_Mu → Option (am_Mu)) (μ : am_Mu) : Option (am_Mu) := ((fM_here μ).bind fun q1 => (if q1.1 = 38 then fM_condition_71 k12 q1.1 q1.2 else (if ¬ q1.1 = 124 then fM_condition_76 k12 q1.1 0 q1.2 else fM_condition_71 k12 q1.1 q1.2)))
def fM_condition_31 : Nat → (Int32 → am_Mu → Option (am_Mu)) → am_Mu → Option (am_Mu)
  | 0, _, _ => none
  | n + 1, k12, μ => (if ¬ (μ 108 29) = 0 then fM_condition_54 k12 μ else ((fM_here μ).bind fun q2 => (if ¬ q2.1 = 41 then fM_condition_54 k12 q2.2 else ((fM_closes q2.2).bind fun q4 => (fM_condition_31 n k12) q4))))
def fM_condition_12 : Nat → Int32 → am_Mu → Option (am_Mu)
  | 0, _, _ => none
  | n + 1, a1, μ => (if a1 = 0 then fM_condition_124 μ else (if ¬ (μ 108 29) = 0 then fM_condition_124 μ else ((fM_piece μ).bind fun q3 => ((fM_ends q3).bind fun q4 => fM_condition_31 am_F (fM_condition_12 n) q4))))
def fM_condition (μ : am_Mu) : Option (am_Mu) := fM_condition_12 am_F 1 (am_up (am_up μ 108 34 0) 108 33 0)
set_option maxRecDepth 20000 in
theorem e_fM_condition_158 (d : Nat) : ∀ {w1 w2 : Value} {μ : am_Mu} {out : am_Mu}, fM_condition_158 μ = some out → am_Ex none (d + 4) 171 158 [.ref 108, w1, w2] [] am_SH μ (none, am_SH, out) := by
  intro w1 w2 μ out h
  unfold fM_condition_158 at h
  refine am_Ex.seg 6 168 [.ref 108, w1, w2] [] (am_up μ 108 27 ((μ 108 27) + 1)) (fun _ => rfl) ?_
  cases h
  exact am_Ex.vret rfl rfl
set_option maxRecDepth 20000 in
theorem e_fM_condition_153 (d : Nat) : ∀ {w1 w2 : Value} {μ : am_Mu} {out : am_Mu}, fM_condition_153 μ = some out → am_Ex none (d + 4) 171 153 [.ref 108, w1, w2] [] am_SH μ (none, am_SH, out) := by
  intro w1 w2 μ out h
  unfold fM_condition_153 at h
  refine am_Ex.seg 2 155 [.ref 108, w1, w2] [.int 1, .ref 108] μ (fun _ => rfl) ?_
  obtain ⟨q1, h_q1, h⟩ := am_bind h
  refine am_Ex.ivk (na := 2) (b := 108) (As' := [.int 1]) rfl rfl rfl rfl rfl rfl rfl rfl rfl (e_fM_fails (d + 3) h_q1) ?_
  refine am_Ex.same 158 [.ref 108, w1, w2] [] q1 rfl ?_
  exact e_fM_condition_158 d h
set_option maxRecDepth 20000 in
theorem e_fM_condition_124 (d : Nat) : ∀ {w1 w2 : Value} {μ : am_Mu} {out : am_Mu}, fM_condition_124 μ = some out → am_Ex none (d + 4) 171 124 [.ref 108, w1, w2] [] am_SH μ (none, am_SH, out) := by
  intro w1 w2 μ out h
  unfold fM_condition_124 at h
  refine am_Ex.seg 2 128 [.ref 108, w1, w2] [.int (μ 108 29)] μ (fun _ => rfl) ?_
  rcases am_ite h with ⟨q1, h⟩ | ⟨q1, h⟩
  · refine am_Ex.if_le_t rfl q1 ?_
    refine am_Ex.seg 2 134 [.ref 108, w1, w2] [.int 1, .ref 108] μ (fun _ => rfl) ?_
    obtain ⟨q2, h_q2, h⟩ := am_bind h
    refine am_Ex.ivk (na := 2) (b := 108) (As' := [.int 1]) rfl rfl rfl rfl rfl rfl rfl rfl rfl (e_fM_works (d + 2) h_q2) ?_
    refine am_Ex.same 137 [.ref 108, w1, w2] [] q2 rfl ?_
    refine am_Ex.seg 1 138 [.ref 108, w1, w2] [.ref 108] q2 (fun _ => rfl) ?_
    obtain ⟨q3, h_q3, h⟩ := am_bind h
    refine am_Ex.ivk (na := 1) (b := 108) (As' := []) rfl rfl rfl rfl rfl rfl rfl rfl rfl (e_fM_here (d + 3) h_q3) ?_
    refine am_Ex.same 141 [.ref 108, w1, w2] [.int q3.1] q3.2 rfl ?_
    refine am_Ex.seg 1 143 [.ref 108, w1, w2] [.int 62, .int q3.1] q3.2 (fun _ => rfl) ?_
    rcases am_ite h with ⟨q4, h⟩ | ⟨q4, h⟩
    · refine am_Ex.icmp_ne_t rfl q4 ?_
      exact e_fM_condition_153 d h
    · refine am_Ex.icmp_ne_f rfl (Decidable.not_not.mp q4) ?_
      refine am_Ex.seg 2 150 [.ref 108, w1, w2] [.int (q3.2 108 34)] q3.2 (fun _ => rfl) ?_
      rcases am_ite h with ⟨q5, h⟩ | ⟨q5, h⟩
      · refine am_Ex.if_le_t rfl q5 ?_
        exact e_fM_condition_158 d h
      · refine am_Ex.if_le_f rfl q5 ?_
        exact e_fM_condition_153 d h
  · refine am_Ex.if_le_f rfl q1 ?_
    cases h
    exact am_Ex.vret rfl rfl
set_option maxRecDepth 20000 in
theorem e_fM_condition_103 (d : Nat) {k12 : Int32 → am_Mu → Option (am_Mu)} (hk12 : ∀ {a1 : Int32} {w2 : Value} {μ : am_Mu} {out : am_Mu}, k12 a1 μ = some out → am_Ex none (d + 4) 171 12 [.ref 108, .int a1, w2] [] am_SH μ (none, am_SH, out)) : ∀ {a1 : Int32} {a2 : Int32} {s1 : Int32} {μ : am_Mu} {out : am_Mu}, fM_condition_103 k12 a1 a2 s1 μ = some out → am_Ex none (d + 4) 171 103 [.ref 108, .int a1, .int a2] [.int s1, .ref 108] am_SH μ (none, am_SH, out) := by
  intro a1 a2 s1 μ out h
  unfold fM_condition_103 at h
  obtain ⟨q1, h_q1, h⟩ := am_bind h
  refine am_Ex.ivk (na := 2) (b := 108) (As' := [.int s1]) rfl rfl rfl rfl rfl rfl rfl rfl rfl (e_fM_works (d + 2) h_q1) ?_
  refine am_Ex.same 106 [.ref 108, .int a1, .int a2] [] q1 rfl ?_
  refine am_Ex.seg 2 108 [.ref 108, .int a1, .int a2] [.int a2, .ref 108] q1 (fun _ => rfl) ?_
  obtain ⟨q2, h_q2, h⟩ := am_bind h
  refine am_Ex.ivk (na := 2) (b := 108) (As' := [.int a2]) rfl rfl rfl rfl rfl rfl rfl rfl rfl (e_fM_puts (d + 3) h_q2) ?_
  refine am_Ex.same 111 [.ref 108, .int a1, .int a2] [] q2 rfl ?_
  refine am_Ex.seg 6 121 [.ref 108, .int a1, .int a2] [] (am_up q2 108 27 ((q2 108 27) + 1)) (fun _ => rfl) ?_
  refine am_Ex.goto rfl ?_
  exact hk12 h
set_option maxRecDepth 20000 in
theorem e_fM_condition_76 (d : Nat) {k12 : Int32 → am_Mu → Option (am_Mu)} (hk12 : ∀ {a1 : Int32} {w2 : Value} {μ : am_Mu} {out : am_Mu}, k12 a1 μ = some out → am_Ex none (d + 4) 171 12 [.ref 108, .int a1, w2] [] am_SH μ (none, am_SH, out)) : ∀ {a2 : Int32} {s0 : Int32} {w1 : Value} {μ : am_Mu} {out : am_Mu}, fM_condition_76 k12 a2 s0 μ = some out → am_Ex none (d + 4) 171 76 [.ref 108, w1, .int a2] [.int s0] am_SH μ (none, am_SH, out) := by
  intro a2 s0 w1 μ out h
  unfold fM_condition_76 at h
  refine am_Ex.seg 3 81 [.ref 108, .int s0, .int a2] [.int (μ 108 29)] μ (fun _ => rfl) ?_
  rcases am_ite h with ⟨q1, h⟩ | ⟨q1, h⟩
  · refine am_Ex.if_gt_t rfl q1 ?_
    exact hk12 h
  · refine am_Ex.if_gt_f rfl q1 ?_
    refine am_Ex.seg 1 85 [.ref 108, .int s0, .int a2] [.int s0] μ (fun _ => rfl) ?_
    rcases am_ite h with ⟨q2, h⟩ | ⟨q2, h⟩
    · refine am_Ex.if_ne_t rfl q2 ?_
      refine am_Ex.seg 3 95 [.ref 108, .int s0, .int a2] [.int 124, .int a2, .ref 108] μ (fun _ => rfl) ?_
      rcases am_ite h with ⟨q3, h⟩ | ⟨q3, h⟩
      · refine am_Ex.icmp_ne_t rfl q3 ?_
        refine am_Ex.seg 1 103 [.ref 108, .int s0, .int a2] [.int 0, .ref 108] μ (fun _ => rfl) ?_
        exact e_fM_condition_103 d hk12 h
      · refine am_Ex.icmp_ne_f rfl (Decidable.not_not.mp q3) ?_
        refine am_Ex.seg 1 99 [.ref 108, .int s0, .int a2] [.int 1, .ref 108] μ (fun _ => rfl) ?_
        refine am_Ex.goto rfl ?_
        exact e_fM_condition_103 d hk12 h
    · refine am_Ex.if_ne_f rfl (Decidable.not_not.mp q2) ?_
      refine am_Ex.goto rfl ?_
      exact hk12 h
set_option maxRecDepth 20000 in
theorem e_fM_condition_71 (d : Nat) {k12 : Int32 → am_Mu → Option (am_Mu)} (hk12 : ∀ {a1 : Int32} {w2 : Value} {μ : am_Mu} {out : am_Mu}, k12 a1 μ = some out → am_Ex none (d + 4) 171 12 [.ref 108, .int a1, w2] [] am_SH μ (none, am_SH, out)) : ∀ {a2 : Int32} {w1 : Value} {μ : am_Mu} {out : am_Mu}, fM_condition_71 k12 a2 μ = some out → am_Ex none (d + 4) 171 71 [.ref 108, w1, .int a2] [] am_SH μ (none, am_SH, out) := by
  intro a2 w1 μ out h
  unfold fM_condition_71 at h
  refine am_Ex.seg 1 72 [.ref 108, w1, .int a2] [.int 1] μ (fun _ => rfl) ?_
  refine am_Ex.goto rfl ?_
  exact e_fM_condition_76 d hk12 h
set_option maxRecDepth 20000 in
theorem e_fM_condition_54 (d : Nat) {k12 : Int32 → am_Mu → Option (am_Mu)} (hk12 : ∀ {a1 : Int32} {w2 : Value} {μ : am_Mu} {out : am_Mu}, k12 a1 μ = some out → am_Ex none (d + 4) 171 12 [.ref 108, .int a1, w2] [] am_SH μ (none, am_SH, out)) : ∀ {w1 w2 : Value} {μ : am_Mu} {out : am_Mu}, fM_condition_54 k12 μ = some out → am_Ex none (d + 4) 171 54 [.ref 108, w1, w2] [] am_SH μ (none, am_SH, out) := by
  intro w1 w2 μ out h
  unfold fM_condition_54 at h
  refine am_Ex.seg 1 55 [.ref 108, w1, w2] [.ref 108] μ (fun _ => rfl) ?_
  obtain ⟨q1, h_q1, h⟩ := am_bind h
  refine am_Ex.ivk (na := 1) (b := 108) (As' := []) rfl rfl rfl rfl rfl rfl rfl rfl rfl (e_fM_here (d + 3) h_q1) ?_
  refine am_Ex.same 58 [.ref 108, w1, w2] [.int q1.1] q1.2 rfl ?_
  refine am_Ex.seg 3 62 [.ref 108, w1, .int q1.1] [.int 38, .int q1.1] q1.2 (fun _ => rfl) ?_
  rcases am_ite h with ⟨q2, h⟩ | ⟨q2, h⟩
  · refine am_Ex.icmp_eq_t rfl q2 ?_
    exact e_fM_condition_71 d hk12 h
  · refine am_Ex.icmp_eq_f rfl q2 ?_
    refine am_Ex.seg 2 68 [.ref 108, w1, .int q1.1] [.int 124, .int q1.1] q1.2 (fun _ => rfl) ?_
    rcases am_ite h with ⟨q3, h⟩ | ⟨q3, h⟩
    · refine am_Ex.icmp_ne_t rfl q3 ?_
      refine am_Ex.seg 1 76 [.ref 108, w1, .int q1.1] [.int 0] q1.2 (fun _ => rfl) ?_
      exact e_fM_condition_76 d hk12 h
    · refine am_Ex.icmp_ne_f rfl (Decidable.not_not.mp q3) ?_
      exact e_fM_condition_71 d hk12 h
set_option maxRecDepth 20000 in
theorem e_fM_condition_31 (d : Nat) {k12 : Int32 → am_Mu → Option (am_Mu)} (hk12 : ∀ {a1 : Int32} {w2 : Value} {μ : am_Mu} {out : am_Mu}, k12 a1 μ = some out → am_Ex none (d + 4) 171 12 [.ref 108, .int a1, w2] [] am_SH μ (none, am_SH, out)) : ∀ n : Nat, ∀ {w1 w2 : Value} {μ : am_Mu} {out : am_Mu}, fM_condition_31 n k12 μ = some out → am_Ex none (d + 4) 171 31 [.ref 108, w1, w2] [] am_SH μ (none, am_SH, out) := by
  intro n
  induction n with
  | zero => intros; contradiction
  | succ n ih =>
    have hk31 : ∀ {w1 w2 : Value} {μ : am_Mu} {out : am_Mu}, (fM_condition_31 n k12) μ = some out → am_Ex none (d + 4) 171 31 [.ref 108, w1, w2] [] am_SH μ (none, am_SH, out) := ih
    intro w1 w2 μ out h
    unfold fM_condition_31 at h
    refine am_Ex.seg 2 35 [.ref 108, w1, w2] [.int (μ 108 29)] μ (fun _ => rfl) ?_
    rcases am_ite h with ⟨q1, h⟩ | ⟨q1, h⟩
    · refine am_Ex.if_ne_t rfl q1 ?_
      exact e_fM_condition_54 d hk12 h
    · refine am_Ex.if_ne_f rfl (Decidable.not_not.mp q1) ?_
      refine am_Ex.seg 1 39 [.ref 108, w1, w2] [.ref 108] μ (fun _ => rfl) ?_
      obtain ⟨q2, h_q2, h⟩ := am_bind h
      refine am_Ex.ivk (na := 1) (b := 108) (As' := []) rfl rfl rfl rfl rfl rfl rfl rfl rfl (e_fM_here (d + 3) h_q2) ?_
      refine am_Ex.same 42 [.ref 108, w1, w2] [.int q2.1] q2.2 rfl ?_
      refine am_Ex.seg 1 44 [.ref 108, w1, w2] [.int 41, .int q2.1] q2.2 (fun _ => rfl) ?_
      rcases am_ite h with ⟨q3, h⟩ | ⟨q3, h⟩
      · refine am_Ex.icmp_ne_t rfl q3 ?_
        exact e_fM_condition_54 d hk12 h
      · refine am_Ex.icmp_ne_f rfl (Decidable.not_not.mp q3) ?_
        refine am_Ex.seg 1 48 [.ref 108, w1, w2] [.ref 108] q2.2 (fun _ => rfl) ?_
        obtain ⟨q4, h_q4, h⟩ := am_bind h
        refine am_Ex.ivk (na := 1) (b := 108) (As' := []) rfl rfl rfl rfl rfl rfl rfl rfl rfl (e_fM_closes (d + 1) h_q4) ?_
        refine am_Ex.same 51 [.ref 108, w1, w2] [] q4 rfl ?_
        refine am_Ex.goto rfl ?_
        exact hk31 h
set_option maxRecDepth 20000 in
theorem e_fM_condition_12 (d : Nat) : ∀ n : Nat, ∀ {a1 : Int32} {w2 : Value} {μ : am_Mu} {out : am_Mu}, fM_condition_12 n a1 μ = some out → am_Ex none (d + 4) 171 12 [.ref 108, .int a1, w2] [] am_SH μ (none, am_SH, out) := by
  intro n
  induction n with
  | zero => intros; contradiction
  | succ n ih =>
    have hk12 : ∀ {a1 : Int32} {w2 : Value} {μ : am_Mu} {out : am_Mu}, (fM_condition_12 n) a1 μ = some out → am_Ex none (d + 4) 171 12 [.ref 108, .int a1, w2] [] am_SH μ (none, am_SH, out) := ih
    intro a1 w2 μ out h
    unfold fM_condition_12 at h
    refine am_Ex.seg 1 13 [.ref 108, .int a1, w2] [.int a1] μ (fun _ => rfl) ?_
    rcases am_ite h with ⟨q1, h⟩ | ⟨q1, h⟩
    · refine am_Ex.if_eq_t rfl q1 ?_
      exact e_fM_condition_124 d h
    · refine am_Ex.if_eq_f rfl q1 ?_
      refine am_Ex.seg 2 20 [.ref 108, .int a1, w2] [.int (μ 108 29)] μ (fun _ => rfl) ?_
      rcases am_ite h with ⟨q2, h⟩ | ⟨q2, h⟩
      · refine am_Ex.if_ne_t rfl q2 ?_
        exact e_fM_condition_124 d h
      · refine am_Ex.if_ne_f rfl (Decidable.not_not.mp q2) ?_
        refine am_Ex.seg 1 24 [.ref 108, .int a1, w2] [.ref 108] μ (fun _ => rfl) ?_
        obtain ⟨q3, h_q3, h⟩ := am_bind h
        refine am_Ex.ivk (na := 1) (b := 108) (As' := []) rfl rfl rfl rfl rfl rfl rfl rfl rfl (e_fM_piece (d + 0) h_q3) ?_
        refine am_Ex.same 27 [.ref 108, .int a1, w2] [] q3 rfl ?_
        refine am_Ex.seg 1 28 [.ref 108, .int a1, w2] [.ref 108] q3 (fun _ => rfl) ?_
        obtain ⟨q4, h_q4, h⟩ := am_bind h
        refine am_Ex.ivk (na := 1) (b := 108) (As' := []) rfl rfl rfl rfl rfl rfl rfl rfl rfl (e_fM_ends (d + 2) h_q4) ?_
        refine am_Ex.same 31 [.ref 108, .int a1, w2] [] q4 rfl ?_
        exact e_fM_condition_31 d hk12 am_F h
set_option maxRecDepth 20000 in
theorem e_fM_condition (d : Nat) : ∀ {μ : am_Mu} {out : am_Mu}, fM_condition μ = some out → am_Ex none (d + 4) 171 0 [.ref 108, .null, .null] [] am_SH μ (none, am_SH, out) := by
  intro μ out h
  unfold fM_condition at h
  refine am_Ex.seg 8 12 [.ref 108, .int 1, .null] [] (am_up (am_up μ 108 34 0) 108 33 0) (fun _ => rfl) ?_
  exact e_fM_condition_12 d am_F h
def fM_effects_226 (a1 : Int32) (μ : am_Mu) : Option (am_Mu) := (bif am_inb (μ 108 30) 24 then some (am_up μ 126 (((μ 108 30)).toNatClampNeg) a1) else none)
def fM_effects_219 (k4 : Int32 → Int32 → am_Mu → Option (am_Mu)) (a1 : Int32) (a2 : Int32) (s1 : Int32) (s2 : Int32) (μ : am_Mu) : Option (am_Mu) := k4 a1 a2 (am_up μ 108 27 (s1 + s2))
def fM_effects_204 (k4 : Int32 → Int32 → am_Mu → Option (am_Mu)) (a1 : Int32) (s0 : Int32) (μ : am_Mu) : Option (am_Mu) := (if s0 = 0 then fM_effects_219 k4 a1 s0 (μ 108 27) 0 μ else fM_effects_219 k4 a1 s0 (μ 108 27) 1 μ)
def fM_effects_177 (k4 : Int32 → Int32 → am_Mu → Option (am_Mu)) (a1 : Int32) (a3 : Int32) (a5 : Int32) (s1 : Int32) (s2 : Int32) (s3 : Int32) (μ : am_Mu) : Option (am_Mu) := (bif am_inb s1 96 then ((fM_here (am_up μ 127 ((s1).toNatClampNeg) (((s2 * s3) + ((8 : Int32) * a3)) + a5))).bind fun q2 => (if ¬ q2.1 = 44 then fM_effects_204 k4 (a1 + 1) 0 q2.2 else fM_effects_204 k4 (a1 + 1) 1 q2.2)) else none)
def fM_effects_133 (k4 : Int32 → Int32 → am_Mu → Option (am_Mu)) (a1 : Int32) (a3 : Int32) (a4 : Int32) (a5 : Int32) (μ : am_Mu) : Option (am_Mu) := (if (μ 108 29) ≤ 0 then (if ¬ a4 = 43 then fM_effects_177 k4 a1 a3 a5 (((4 : Int32) * (μ 108 30)) + a1) 16 0 (am_up μ 108 27 ((μ 108 27) + 1)) else fM_effects_177 k4 a1 a3 a5 (((4 : Int32) * (μ 108 30)) + a1) 16 1 (am_up μ 108 27 ((μ 108 27) + 1))) else some (am_up μ 108 27 ((μ 108 27) + 1)))
def fM_effects_101 (k4 : Int32 → Int32 → am_Mu → Option (am_Mu)) (a1 : Int32) (a3 : Int32) (a4 : Int32) (μ : am_Mu) : Option (am_Mu) := ((fM_here (am_up μ 108 27 ((μ 108 27) + 1))).bind fun q1 => ((fM_isMark (q1.1 - 97) q1.2).bind fun q2 => (if ¬ q2.1 = 0 then fM_effects_133 k4 a1 a3 a4 (q1.1 - 97) q2.2 else ((fM_fails 1 q2.2).bind fun q4 => fM_effects_133 k4 a1 a3 a4 (q1.1 - 97) q4))))
def fM_effects_65 (k4 : Int32 → Int32 → am_Mu → Option (am_Mu)) (a1 : Int32) (s0 : Int32) (μ : am_Mu) : Option (am_Mu) := ((fM_here (am_up μ 108 27 ((μ 108 27) + 1))).bind fun q1 => (if q1.1 = 43 then fM_effects_101 k4 a1 s0 q1.1 q1.2 else (if q1.1 = 45 then fM_effects_101 k4 a1 s0 q1.1 q1.2 else ((fM_fails 1 q1.2).bind fun q4 => fM_effects_101 k4 a1 s0 q1.1 q4))))
def fM_effects_43 (k4 : Int32 → Int32 → am_Mu → Option (am_Mu)) (a1 : Int32) (μ : am_Mu) : Option (am_Mu) := (if (μ 108 29) ≤ 0 then ((fM_here μ).bind fun q2 => (if ¬ q2.1 = 121 then fM_effects_65 k4 a1 0 q2.2 else fM_effects_65 k4 a1 1 q2.2)) else some μ)
def fM_effects_4 : Nat → Int32 → Int32 → am_Mu → Option (am_Mu)
  | 0, _, _, _ => none
  | n + 1, a1, a2, μ => (if a2 = 0 then fM_effects_226 a1 μ else (if ¬ (μ 108 29) = 0 then fM_effects_226 a1 μ else ((fM_here μ).bind fun q3 => ((fM_isSide q3.1 q3.2).bind fun q4 => (if ¬ q4.1 = 0 then (if ¬ a1 = 4 then fM_effects_43 (fM_effects_4 n) a1 q4.2 else ((fM_fails 3 q4.2).bind fun q7 => fM_effects_43 (fM_effects_4 n) a1 q7)) else ((fM_fails 1 q4.2).bind fun q8 => fM_effects_43 (fM_effects_4 n) a1 q8))))))
def fM_effects (μ : am_Mu) : Option (am_Mu) := fM_effects_4 am_F 0 1 μ
set_option maxRecDepth 20000 in
theorem e_fM_effects_226 (d : Nat) : ∀ {a1 : Int32} {w2 w3 w4 w5 : Value} {μ : am_Mu} {out : am_Mu}, fM_effects_226 a1 μ = some out → am_Ex none (d + 2) 172 226 [.ref 108, .int a1, w2, w3, w4, w5] [] am_SH μ (none, am_SH, out) := by
  intro a1 w2 w3 w4 w5 μ out h
  unfold fM_effects_226 at h
  refine am_Ex.seg 5 235 [.ref 108, .int a1, w2, w3, w4, w5] [.int a1, .int (μ 108 30), .ref 126] μ (fun _ => rfl) ?_
  obtain ⟨q1, h⟩ := am_bif h
  refine am_Ex.iast (v2 := a1) (i2 := ((μ 108 30)).toNatClampNeg) rfl rfl q1 rfl rfl ?_
  cases h
  exact am_Ex.vret rfl rfl
set_option maxRecDepth 20000 in
theorem e_fM_effects_219 (d : Nat) {k4 : Int32 → Int32 → am_Mu → Option (am_Mu)} (hk4 : ∀ {a1 : Int32} {a2 : Int32} {w3 w4 w5 : Value} {μ : am_Mu} {out : am_Mu}, k4 a1 a2 μ = some out → am_Ex none (d + 2) 172 4 [.ref 108, .int a1, .int a2, w3, w4, w5] [] am_SH μ (none, am_SH, out)) : ∀ {a1 : Int32} {a2 : Int32} {s1 : Int32} {s2 : Int32} {w3 w4 w5 : Value} {μ : am_Mu} {out : am_Mu}, fM_effects_219 k4 a1 a2 s1 s2 μ = some out → am_Ex none (d + 2) 172 219 [.ref 108, .int a1, .int a2, w3, w4, w5] [.int s2, .int s1, .ref 108] am_SH μ (none, am_SH, out) := by
  intro a1 a2 s1 s2 w3 w4 w5 μ out h
  unfold fM_effects_219 at h
  refine am_Ex.seg 2 223 [.ref 108, .int a1, .int a2, w3, w4, w5] [] (am_up μ 108 27 (s1 + s2)) (fun _ => rfl) ?_
  refine am_Ex.goto rfl ?_
  exact hk4 h
set_option maxRecDepth 20000 in
theorem e_fM_effects_204 (d : Nat) {k4 : Int32 → Int32 → am_Mu → Option (am_Mu)} (hk4 : ∀ {a1 : Int32} {a2 : Int32} {w3 w4 w5 : Value} {μ : am_Mu} {out : am_Mu}, k4 a1 a2 μ = some out → am_Ex none (d + 2) 172 4 [.ref 108, .int a1, .int a2, w3, w4, w5] [] am_SH μ (none, am_SH, out)) : ∀ {a1 : Int32} {s0 : Int32} {w2 w3 w4 w5 : Value} {μ : am_Mu} {out : am_Mu}, fM_effects_204 k4 a1 s0 μ = some out → am_Ex none (d + 2) 172 204 [.ref 108, .int a1, w2, w3, w4, w5] [.int s0] am_SH μ (none, am_SH, out) := by
  intro a1 s0 w2 w3 w4 w5 μ out h
  unfold fM_effects_204 at h
  refine am_Ex.seg 5 211 [.ref 108, .int a1, .int s0, w3, w4, w5] [.int s0, .int (μ 108 27), .ref 108] μ (fun _ => rfl) ?_
  rcases am_ite h with ⟨q1, h⟩ | ⟨q1, h⟩
  · refine am_Ex.if_eq_t rfl q1 ?_
    refine am_Ex.seg 1 219 [.ref 108, .int a1, .int s0, w3, w4, w5] [.int 0, .int (μ 108 27), .ref 108] μ (fun _ => rfl) ?_
    exact e_fM_effects_219 d hk4 h
  · refine am_Ex.if_eq_f rfl q1 ?_
    refine am_Ex.seg 1 215 [.ref 108, .int a1, .int s0, w3, w4, w5] [.int 1, .int (μ 108 27), .ref 108] μ (fun _ => rfl) ?_
    refine am_Ex.goto rfl ?_
    exact e_fM_effects_219 d hk4 h
set_option maxRecDepth 20000 in
theorem e_fM_effects_177 (d : Nat) {k4 : Int32 → Int32 → am_Mu → Option (am_Mu)} (hk4 : ∀ {a1 : Int32} {a2 : Int32} {w3 w4 w5 : Value} {μ : am_Mu} {out : am_Mu}, k4 a1 a2 μ = some out → am_Ex none (d + 2) 172 4 [.ref 108, .int a1, .int a2, w3, w4, w5] [] am_SH μ (none, am_SH, out)) : ∀ {a1 : Int32} {a3 : Int32} {a5 : Int32} {s1 : Int32} {s2 : Int32} {s3 : Int32} {w2 w4 : Value} {μ : am_Mu} {out : am_Mu}, fM_effects_177 k4 a1 a3 a5 s1 s2 s3 μ = some out → am_Ex none (d + 2) 172 177 [.ref 108, .int a1, w2, .int a3, w4, .int a5] [.int s3, .int s2, .int s1, .ref 127] am_SH μ (none, am_SH, out) := by
  intro a1 a3 a5 s1 s2 s3 w2 w4 μ out h
  unfold fM_effects_177 at h
  refine am_Ex.seg 7 186 [.ref 108, .int a1, w2, .int a3, w4, .int a5] [.int (((s2 * s3) + ((8 : Int32) * a3)) + a5), .int s1, .ref 127] μ (fun _ => rfl) ?_
  obtain ⟨q1, h⟩ := am_bif h
  refine am_Ex.iast (v2 := (((s2 * s3) + ((8 : Int32) * a3)) + a5)) (i2 := (s1).toNatClampNeg) rfl rfl q1 rfl rfl ?_
  refine am_Ex.seg 2 191 [.ref 108, .int (a1 + 1), w2, .int a3, w4, .int a5] [.ref 108] (am_up μ 127 ((s1).toNatClampNeg) (((s2 * s3) + ((8 : Int32) * a3)) + a5)) (fun _ => rfl) ?_
  obtain ⟨q2, h_q2, h⟩ := am_bind h
  refine am_Ex.ivk (na := 1) (b := 108) (As' := []) rfl rfl rfl rfl rfl rfl rfl rfl rfl (e_fM_here (d + 1) h_q2) ?_
  refine am_Ex.same 194 [.ref 108, .int (a1 + 1), w2, .int a3, w4, .int a5] [.int q2.1] q2.2 rfl ?_
  refine am_Ex.seg 1 196 [.ref 108, .int (a1 + 1), w2, .int a3, w4, .int a5] [.int 44, .int q2.1] q2.2 (fun _ => rfl) ?_
  rcases am_ite h with ⟨q3, h⟩ | ⟨q3, h⟩
  · refine am_Ex.icmp_ne_t rfl q3 ?_
    refine am_Ex.seg 1 204 [.ref 108, .int (a1 + 1), w2, .int a3, w4, .int a5] [.int 0] q2.2 (fun _ => rfl) ?_
    exact e_fM_effects_204 d hk4 h
  · refine am_Ex.icmp_ne_f rfl (Decidable.not_not.mp q3) ?_
    refine am_Ex.seg 1 200 [.ref 108, .int (a1 + 1), w2, .int a3, w4, .int a5] [.int 1] q2.2 (fun _ => rfl) ?_
    refine am_Ex.goto rfl ?_
    exact e_fM_effects_204 d hk4 h
set_option maxRecDepth 20000 in
theorem e_fM_effects_133 (d : Nat) {k4 : Int32 → Int32 → am_Mu → Option (am_Mu)} (hk4 : ∀ {a1 : Int32} {a2 : Int32} {w3 w4 w5 : Value} {μ : am_Mu} {out : am_Mu}, k4 a1 a2 μ = some out → am_Ex none (d + 2) 172 4 [.ref 108, .int a1, .int a2, w3, w4, w5] [] am_SH μ (none, am_SH, out)) : ∀ {a1 : Int32} {a3 : Int32} {a4 : Int32} {a5 : Int32} {w2 : Value} {μ : am_Mu} {out : am_Mu}, fM_effects_133 k4 a1 a3 a4 a5 μ = some out → am_Ex none (d + 2) 172 133 [.ref 108, .int a1, w2, .int a3, .int a4, .int a5] [] am_SH μ (none, am_SH, out) := by
  intro a1 a3 a4 a5 w2 μ out h
  unfold fM_effects_133 at h
  refine am_Ex.seg 8 147 [.ref 108, .int a1, w2, .int a3, .int a4, .int a5] [.int (μ 108 29)] (am_up μ 108 27 ((μ 108 27) + 1)) (fun _ => rfl) ?_
  rcases am_ite h with ⟨q1, h⟩ | ⟨q1, h⟩
  · refine am_Ex.if_le_t rfl q1 ?_
    refine am_Ex.seg 11 169 [.ref 108, .int a1, w2, .int a3, .int a4, .int a5] [.int 43, .int a4, .int 16, .int (((4 : Int32) * (μ 108 30)) + a1), .ref 127] (am_up μ 108 27 ((μ 108 27) + 1)) (fun _ => rfl) ?_
    rcases am_ite h with ⟨q2, h⟩ | ⟨q2, h⟩
    · refine am_Ex.icmp_ne_t rfl q2 ?_
      refine am_Ex.seg 1 177 [.ref 108, .int a1, w2, .int a3, .int a4, .int a5] [.int 0, .int 16, .int (((4 : Int32) * (μ 108 30)) + a1), .ref 127] (am_up μ 108 27 ((μ 108 27) + 1)) (fun _ => rfl) ?_
      exact e_fM_effects_177 d hk4 h
    · refine am_Ex.icmp_ne_f rfl (Decidable.not_not.mp q2) ?_
      refine am_Ex.seg 1 173 [.ref 108, .int a1, w2, .int a3, .int a4, .int a5] [.int 1, .int 16, .int (((4 : Int32) * (μ 108 30)) + a1), .ref 127] (am_up μ 108 27 ((μ 108 27) + 1)) (fun _ => rfl) ?_
      refine am_Ex.goto rfl ?_
      exact e_fM_effects_177 d hk4 h
  · refine am_Ex.if_le_f rfl q1 ?_
    cases h
    exact am_Ex.vret rfl rfl
set_option maxRecDepth 20000 in
theorem e_fM_effects_101 (d : Nat) {k4 : Int32 → Int32 → am_Mu → Option (am_Mu)} (hk4 : ∀ {a1 : Int32} {a2 : Int32} {w3 w4 w5 : Value} {μ : am_Mu} {out : am_Mu}, k4 a1 a2 μ = some out → am_Ex none (d + 2) 172 4 [.ref 108, .int a1, .int a2, w3, w4, w5] [] am_SH μ (none, am_SH, out)) : ∀ {a1 : Int32} {a3 : Int32} {a4 : Int32} {w2 w5 : Value} {μ : am_Mu} {out : am_Mu}, fM_effects_101 k4 a1 a3 a4 μ = some out → am_Ex none (d + 2) 172 101 [.ref 108, .int a1, w2, .int a3, .int a4, w5] [] am_SH μ (none, am_SH, out) := by
  intro a1 a3 a4 w2 w5 μ out h
  unfold fM_effects_101 at h
  refine am_Ex.seg 7 112 [.ref 108, .int a1, w2, .int a3, .int a4, w5] [.ref 108] (am_up μ 108 27 ((μ 108 27) + 1)) (fun _ => rfl) ?_
  obtain ⟨q1, h_q1, h⟩ := am_bind h
  refine am_Ex.ivk (na := 1) (b := 108) (As' := []) rfl rfl rfl rfl rfl rfl rfl rfl rfl (e_fM_here (d + 1) h_q1) ?_
  refine am_Ex.same 115 [.ref 108, .int a1, w2, .int a3, .int a4, w5] [.int q1.1] q1.2 rfl ?_
  refine am_Ex.seg 4 122 [.ref 108, .int a1, w2, .int a3, .int a4, .int (q1.1 - 97)] [.int (q1.1 - 97)] q1.2 (fun _ => rfl) ?_
  obtain ⟨q2, h_q2, h⟩ := am_bind h
  refine am_Ex.isk (na := 1) rfl (As := [.int (q1.1 - 97)]) rfl rfl rfl rfl rfl rfl (e_fM_isMark (d + 0) h_q2) ?_
  refine am_Ex.same 125 [.ref 108, .int a1, w2, .int a3, .int a4, .int (q1.1 - 97)] [.int q2.1] q2.2 rfl ?_
  rcases am_ite h with ⟨q3, h⟩ | ⟨q3, h⟩
  · refine am_Ex.if_ne_t rfl q3 ?_
    exact e_fM_effects_133 d hk4 h
  · refine am_Ex.if_ne_f rfl (Decidable.not_not.mp q3) ?_
    refine am_Ex.seg 2 130 [.ref 108, .int a1, w2, .int a3, .int a4, .int (q1.1 - 97)] [.int 1, .ref 108] q2.2 (fun _ => rfl) ?_
    obtain ⟨q4, h_q4, h⟩ := am_bind h
    refine am_Ex.ivk (na := 2) (b := 108) (As' := [.int 1]) rfl rfl rfl rfl rfl rfl rfl rfl rfl (e_fM_fails (d + 1) h_q4) ?_
    refine am_Ex.same 133 [.ref 108, .int a1, w2, .int a3, .int a4, .int (q1.1 - 97)] [] q4 rfl ?_
    exact e_fM_effects_133 d hk4 h
set_option maxRecDepth 20000 in
theorem e_fM_effects_65 (d : Nat) {k4 : Int32 → Int32 → am_Mu → Option (am_Mu)} (hk4 : ∀ {a1 : Int32} {a2 : Int32} {w3 w4 w5 : Value} {μ : am_Mu} {out : am_Mu}, k4 a1 a2 μ = some out → am_Ex none (d + 2) 172 4 [.ref 108, .int a1, .int a2, w3, w4, w5] [] am_SH μ (none, am_SH, out)) : ∀ {a1 : Int32} {s0 : Int32} {w2 w3 w4 w5 : Value} {μ : am_Mu} {out : am_Mu}, fM_effects_65 k4 a1 s0 μ = some out → am_Ex none (d + 2) 172 65 [.ref 108, .int a1, w2, w3, w4, w5] [.int s0] am_SH μ (none, am_SH, out) := by
  intro a1 s0 w2 w3 w4 w5 μ out h
  unfold fM_effects_65 at h
  refine am_Ex.seg 8 77 [.ref 108, .int a1, w2, .int s0, w4, w5] [.ref 108] (am_up μ 108 27 ((μ 108 27) + 1)) (fun _ => rfl) ?_
  obtain ⟨q1, h_q1, h⟩ := am_bind h
  refine am_Ex.ivk (na := 1) (b := 108) (As' := []) rfl rfl rfl rfl rfl rfl rfl rfl rfl (e_fM_here (d + 1) h_q1) ?_
  refine am_Ex.same 80 [.ref 108, .int a1, w2, .int s0, w4, w5] [.int q1.1] q1.2 rfl ?_
  refine am_Ex.seg 3 86 [.ref 108, .int a1, w2, .int s0, .int q1.1, w5] [.int 43, .int q1.1] q1.2 (fun _ => rfl) ?_
  rcases am_ite h with ⟨q2, h⟩ | ⟨q2, h⟩
  · refine am_Ex.icmp_eq_t rfl q2 ?_
    exact e_fM_effects_101 d hk4 h
  · refine am_Ex.icmp_eq_f rfl q2 ?_
    refine am_Ex.seg 2 93 [.ref 108, .int a1, w2, .int s0, .int q1.1, w5] [.int 45, .int q1.1] q1.2 (fun _ => rfl) ?_
    rcases am_ite h with ⟨q3, h⟩ | ⟨q3, h⟩
    · refine am_Ex.icmp_eq_t rfl q3 ?_
      exact e_fM_effects_101 d hk4 h
    · refine am_Ex.icmp_eq_f rfl q3 ?_
      refine am_Ex.seg 2 98 [.ref 108, .int a1, w2, .int s0, .int q1.1, w5] [.int 1, .ref 108] q1.2 (fun _ => rfl) ?_
      obtain ⟨q4, h_q4, h⟩ := am_bind h
      refine am_Ex.ivk (na := 2) (b := 108) (As' := [.int 1]) rfl rfl rfl rfl rfl rfl rfl rfl rfl (e_fM_fails (d + 1) h_q4) ?_
      refine am_Ex.same 101 [.ref 108, .int a1, w2, .int s0, .int q1.1, w5] [] q4 rfl ?_
      exact e_fM_effects_101 d hk4 h
set_option maxRecDepth 20000 in
theorem e_fM_effects_43 (d : Nat) {k4 : Int32 → Int32 → am_Mu → Option (am_Mu)} (hk4 : ∀ {a1 : Int32} {a2 : Int32} {w3 w4 w5 : Value} {μ : am_Mu} {out : am_Mu}, k4 a1 a2 μ = some out → am_Ex none (d + 2) 172 4 [.ref 108, .int a1, .int a2, w3, w4, w5] [] am_SH μ (none, am_SH, out)) : ∀ {a1 : Int32} {w2 w3 w4 w5 : Value} {μ : am_Mu} {out : am_Mu}, fM_effects_43 k4 a1 μ = some out → am_Ex none (d + 2) 172 43 [.ref 108, .int a1, w2, w3, w4, w5] [] am_SH μ (none, am_SH, out) := by
  intro a1 w2 w3 w4 w5 μ out h
  unfold fM_effects_43 at h
  refine am_Ex.seg 2 47 [.ref 108, .int a1, w2, w3, w4, w5] [.int (μ 108 29)] μ (fun _ => rfl) ?_
  rcases am_ite h with ⟨q1, h⟩ | ⟨q1, h⟩
  · refine am_Ex.if_le_t rfl q1 ?_
    refine am_Ex.seg 1 52 [.ref 108, .int a1, w2, w3, w4, w5] [.ref 108] μ (fun _ => rfl) ?_
    obtain ⟨q2, h_q2, h⟩ := am_bind h
    refine am_Ex.ivk (na := 1) (b := 108) (As' := []) rfl rfl rfl rfl rfl rfl rfl rfl rfl (e_fM_here (d + 1) h_q2) ?_
    refine am_Ex.same 55 [.ref 108, .int a1, w2, w3, w4, w5] [.int q2.1] q2.2 rfl ?_
    refine am_Ex.seg 1 57 [.ref 108, .int a1, w2, w3, w4, w5] [.int 121, .int q2.1] q2.2 (fun _ => rfl) ?_
    rcases am_ite h with ⟨q3, h⟩ | ⟨q3, h⟩
    · refine am_Ex.icmp_ne_t rfl q3 ?_
      refine am_Ex.seg 1 65 [.ref 108, .int a1, w2, w3, w4, w5] [.int 0] q2.2 (fun _ => rfl) ?_
      exact e_fM_effects_65 d hk4 h
    · refine am_Ex.icmp_ne_f rfl (Decidable.not_not.mp q3) ?_
      refine am_Ex.seg 1 61 [.ref 108, .int a1, w2, w3, w4, w5] [.int 1] q2.2 (fun _ => rfl) ?_
      refine am_Ex.goto rfl ?_
      exact e_fM_effects_65 d hk4 h
  · refine am_Ex.if_le_f rfl q1 ?_
    cases h
    exact am_Ex.vret rfl rfl
set_option maxRecDepth 20000 in
theorem e_fM_effects_4 (d : Nat) : ∀ n : Nat, ∀ {a1 : Int32} {a2 : Int32} {w3 w4 w5 : Value} {μ : am_Mu} {out : am_Mu}, fM_effects_4 n a1 a2 μ = some out → am_Ex none (d + 2) 172 4 [.ref 108, .int a1, .int a2, w3, w4, w5] [] am_SH μ (none, am_SH, out) := by
  intro n
  induction n with
  | zero => intros; contradiction
  | succ n ih =>
    have hk4 : ∀ {a1 : Int32} {a2 : Int32} {w3 w4 w5 : Value} {μ : am_Mu} {out : am_Mu}, (fM_effects_4 n) a1 a2 μ = some out → am_Ex none (d + 2) 172 4 [.ref 108, .int a1, .int a2, w3, w4, w5] [] am_SH μ (none, am_SH, out) := ih
    intro a1 a2 w3 w4 w5 μ out h
    unfold fM_effects_4 at h
    refine am_Ex.seg 1 5 [.ref 108, .int a1, .int a2, w3, w4, w5] [.int a2] μ (fun _ => rfl) ?_
    rcases am_ite h with ⟨q1, h⟩ | ⟨q1, h⟩
    · refine am_Ex.if_eq_t rfl q1 ?_
      exact e_fM_effects_226 d h
    · refine am_Ex.if_eq_f rfl q1 ?_
      refine am_Ex.seg 2 12 [.ref 108, .int a1, .int a2, w3, w4, w5] [.int (μ 108 29)] μ (fun _ => rfl) ?_
      rcases am_ite h with ⟨q2, h⟩ | ⟨q2, h⟩
      · refine am_Ex.if_ne_t rfl q2 ?_
        exact e_fM_effects_226 d h
      · refine am_Ex.if_ne_f rfl (Decidable.not_not.mp q2) ?_
        refine am_Ex.seg 1 16 [.ref 108, .int a1, .int a2, w3, w4, w5] [.ref 108] μ (fun _ => rfl) ?_
        obtain ⟨q3, h_q3, h⟩ := am_bind h
        refine am_Ex.ivk (na := 1) (b := 108) (As' := []) rfl rfl rfl rfl rfl rfl rfl rfl rfl (e_fM_here (d + 1) h_q3) ?_
        refine am_Ex.same 19 [.ref 108, .int a1, .int a2, w3, w4, w5] [.int q3.1] q3.2 rfl ?_
        obtain ⟨q4, h_q4, h⟩ := am_bind h
        refine am_Ex.isk (na := 1) rfl (As := [.int q3.1]) rfl rfl rfl rfl rfl rfl (e_fM_isSide (d + 1) h_q4) ?_
        refine am_Ex.same 22 [.ref 108, .int a1, .int a2, w3, w4, w5] [.int q4.1] q4.2 rfl ?_
        rcases am_ite h with ⟨q5, h⟩ | ⟨q5, h⟩
        · refine am_Ex.if_ne_t rfl q5 ?_
          refine am_Ex.seg 2 35 [.ref 108, .int a1, .int a2, w3, w4, w5] [.int 4, .int a1] q4.2 (fun _ => rfl) ?_
          rcases am_ite h with ⟨q6, h⟩ | ⟨q6, h⟩
          · refine am_Ex.icmp_ne_t rfl q6 ?_
            exact e_fM_effects_43 d hk4 h
          · refine am_Ex.icmp_ne_f rfl (Decidable.not_not.mp q6) ?_
            refine am_Ex.seg 2 40 [.ref 108, .int a1, .int a2, w3, w4, w5] [.int 3, .ref 108] q4.2 (fun _ => rfl) ?_
            obtain ⟨q7, h_q7, h⟩ := am_bind h
            refine am_Ex.ivk (na := 2) (b := 108) (As' := [.int 3]) rfl rfl rfl rfl rfl rfl rfl rfl rfl (e_fM_fails (d + 1) h_q7) ?_
            refine am_Ex.same 43 [.ref 108, .int a1, .int a2, w3, w4, w5] [] q7 rfl ?_
            exact e_fM_effects_43 d hk4 h
        · refine am_Ex.if_ne_f rfl (Decidable.not_not.mp q5) ?_
          refine am_Ex.seg 2 27 [.ref 108, .int a1, .int a2, w3, w4, w5] [.int 1, .ref 108] q4.2 (fun _ => rfl) ?_
          obtain ⟨q8, h_q8, h⟩ := am_bind h
          refine am_Ex.ivk (na := 2) (b := 108) (As' := [.int 1]) rfl rfl rfl rfl rfl rfl rfl rfl rfl (e_fM_fails (d + 1) h_q8) ?_
          refine am_Ex.same 30 [.ref 108, .int a1, .int a2, w3, w4, w5] [] q8 rfl ?_
          refine am_Ex.goto rfl ?_
          exact e_fM_effects_43 d hk4 h
set_option maxRecDepth 20000 in
theorem e_fM_effects (d : Nat) : ∀ {μ : am_Mu} {out : am_Mu}, fM_effects μ = some out → am_Ex none (d + 2) 172 0 [.ref 108, .null, .null, .null, .null, .null] [] am_SH μ (none, am_SH, out) := by
  intro μ out h
  unfold fM_effects at h
  refine am_Ex.seg 4 4 [.ref 108, .int 0, .int 1, .null, .null, .null] [] μ (fun _ => rfl) ?_
  exact e_fM_effects_4 d am_F h
def fM_kindOf (a0 : Int32) (μ : am_Mu) : Option (Int32 × am_Mu) := (if ¬ a0 = 116 then (if ¬ a0 = 107 then (if ¬ a0 = 99 then (if ¬ a0 = 108 then some ((-1), μ) else some (3, μ)) else some (2, μ)) else some (1, μ)) else some (0, μ))
set_option maxRecDepth 20000 in
theorem e_fM_kindOf (d : Nat) : ∀ {a0 : Int32} {μ : am_Mu} {out : Int32 × am_Mu}, fM_kindOf a0 μ = some out → am_Ex none (d + 0) 173 0 [.int a0] [] am_SH μ (some (.int out.1), am_SH, out.2) := by
  intro a0 μ out h
  unfold fM_kindOf at h
  refine am_Ex.seg 2 3 [.int a0] [.int 116, .int a0] μ (fun _ => rfl) ?_
  rcases am_ite h with ⟨q1, h⟩ | ⟨q1, h⟩
  · refine am_Ex.icmp_ne_t rfl q1 ?_
    refine am_Ex.seg 2 13 [.int a0] [.int 107, .int a0] μ (fun _ => rfl) ?_
    rcases am_ite h with ⟨q2, h⟩ | ⟨q2, h⟩
    · refine am_Ex.icmp_ne_t rfl q2 ?_
      refine am_Ex.seg 2 23 [.int a0] [.int 99, .int a0] μ (fun _ => rfl) ?_
      rcases am_ite h with ⟨q3, h⟩ | ⟨q3, h⟩
      · refine am_Ex.icmp_ne_t rfl q3 ?_
        refine am_Ex.seg 2 33 [.int a0] [.int 108, .int a0] μ (fun _ => rfl) ?_
        rcases am_ite h with ⟨q4, h⟩ | ⟨q4, h⟩
        · refine am_Ex.icmp_ne_t rfl q4 ?_
          refine am_Ex.seg 1 41 [.int a0] [.int (-1)] μ (fun _ => rfl) ?_
          cases h
          exact am_Ex.iret rfl rfl
        · refine am_Ex.icmp_ne_f rfl (Decidable.not_not.mp q4) ?_
          refine am_Ex.seg 1 37 [.int a0] [.int 3] μ (fun _ => rfl) ?_
          refine am_Ex.goto rfl ?_
          cases h
          exact am_Ex.iret rfl rfl
      · refine am_Ex.icmp_ne_f rfl (Decidable.not_not.mp q3) ?_
        refine am_Ex.seg 1 27 [.int a0] [.int 2] μ (fun _ => rfl) ?_
        refine am_Ex.goto rfl ?_
        cases h
        exact am_Ex.iret rfl rfl
    · refine am_Ex.icmp_ne_f rfl (Decidable.not_not.mp q2) ?_
      refine am_Ex.seg 1 17 [.int a0] [.int 1] μ (fun _ => rfl) ?_
      refine am_Ex.goto rfl ?_
      cases h
      exact am_Ex.iret rfl rfl
  · refine am_Ex.icmp_ne_f rfl (Decidable.not_not.mp q1) ?_
    refine am_Ex.seg 1 7 [.int a0] [.int 0] μ (fun _ => rfl) ?_
    refine am_Ex.goto rfl ?_
    cases h
    exact am_Ex.iret rfl rfl
def fM_rule_128 (μ : am_Mu) : Option (am_Mu) := some (am_up μ 108 30 ((μ 108 30) + 1))
def fM_rule_77 (μ : am_Mu) : Option (am_Mu) := (bif am_inb (μ 108 30) 24 then ((fM_condition (am_up (am_up μ 108 27 ((μ 108 27) + 1)) 124 (((μ 108 30)).toNatClampNeg) (μ 108 31))).bind fun q2 => (bif am_inb (q2 108 30) 24 then (if ¬ (q2 108 29) = 0 then fM_rule_128 (am_up q2 125 (((q2 108 30)).toNatClampNeg) (q2 108 31)) else ((fM_effects (am_up q2 125 (((q2 108 30)).toNatClampNeg) (q2 108 31))).bind fun q5 => fM_rule_128 q5)) else none)) else none)
def fM_rule_35 (a1 : Int32) (μ : am_Mu) : Option (am_Mu) := (if (μ 108 29) ≤ 0 then (bif am_inb (μ 108 30) 24 then ((fM_here (am_up (am_up μ 123 (((μ 108 30)).toNatClampNeg) a1) 108 27 ((μ 108 27) + 1))).bind fun q3 => (if q3.1 = 58 then fM_rule_77 q3.2 else ((fM_fails 1 q3.2).bind fun q5 => fM_rule_77 q5))) else none) else some μ)
def fM_rule (μ : am_Mu) : Option (am_Mu) := ((fM_here μ).bind fun q1 => ((fM_kindOf q1.1 q1.2).bind fun q2 => (if ¬ q2.1 = (-1) then (if ¬ (q2.2 108 30) = 24 then fM_rule_35 q2.1 q2.2 else ((fM_fails 4 q2.2).bind fun q5 => fM_rule_35 q2.1 q5)) else ((fM_fails 1 q2.2).bind fun q6 => fM_rule_35 q2.1 q6))))
set_option maxRecDepth 20000 in
theorem e_fM_rule_128 (d : Nat) : ∀ {w1 : Value} {μ : am_Mu} {out : am_Mu}, fM_rule_128 μ = some out → am_Ex none (d + 5) 174 128 [.ref 108, w1] [] am_SH μ (none, am_SH, out) := by
  intro w1 μ out h
  unfold fM_rule_128 at h
  refine am_Ex.seg 6 138 [.ref 108, w1] [] (am_up μ 108 30 ((μ 108 30) + 1)) (fun _ => rfl) ?_
  cases h
  exact am_Ex.vret rfl rfl
set_option maxRecDepth 20000 in
theorem e_fM_rule_77 (d : Nat) : ∀ {w1 : Value} {μ : am_Mu} {out : am_Mu}, fM_rule_77 μ = some out → am_Ex none (d + 5) 174 77 [.ref 108, w1] [] am_SH μ (none, am_SH, out) := by
  intro w1 μ out h
  unfold fM_rule_77 at h
  refine am_Ex.seg 12 99 [.ref 108, w1] [.int (μ 108 31), .int (μ 108 30), .ref 124] (am_up μ 108 27 ((μ 108 27) + 1)) (fun _ => rfl) ?_
  obtain ⟨q1, h⟩ := am_bif h
  refine am_Ex.iast (v2 := (μ 108 31)) (i2 := ((μ 108 30)).toNatClampNeg) rfl rfl q1 rfl rfl ?_
  refine am_Ex.seg 1 101 [.ref 108, w1] [.ref 108] (am_up (am_up μ 108 27 ((μ 108 27) + 1)) 124 (((μ 108 30)).toNatClampNeg) (μ 108 31)) (fun _ => rfl) ?_
  obtain ⟨q2, h_q2, h⟩ := am_bind h
  refine am_Ex.ivk (na := 1) (b := 108) (As' := []) rfl rfl rfl rfl rfl rfl rfl rfl rfl (e_fM_condition (d + 0) h_q2) ?_
  refine am_Ex.same 104 [.ref 108, w1] [] q2 rfl ?_
  refine am_Ex.seg 6 116 [.ref 108, w1] [.int (q2 108 31), .int (q2 108 30), .ref 125] q2 (fun _ => rfl) ?_
  obtain ⟨q3, h⟩ := am_bif h
  refine am_Ex.iast (v2 := (q2 108 31)) (i2 := ((q2 108 30)).toNatClampNeg) rfl rfl q3 rfl rfl ?_
  refine am_Ex.seg 2 121 [.ref 108, w1] [.int (q2 108 29)] (am_up q2 125 (((q2 108 30)).toNatClampNeg) (q2 108 31)) (fun _ => rfl) ?_
  rcases am_ite h with ⟨q4, h⟩ | ⟨q4, h⟩
  · refine am_Ex.if_ne_t rfl q4 ?_
    exact e_fM_rule_128 d h
  · refine am_Ex.if_ne_f rfl (Decidable.not_not.mp q4) ?_
    refine am_Ex.seg 1 125 [.ref 108, w1] [.ref 108] (am_up q2 125 (((q2 108 30)).toNatClampNeg) (q2 108 31)) (fun _ => rfl) ?_
    obtain ⟨q5, h_q5, h⟩ := am_bind h
    refine am_Ex.ivk (na := 1) (b := 108) (As' := []) rfl rfl rfl rfl rfl rfl rfl rfl rfl (e_fM_effects (d + 2) h_q5) ?_
    refine am_Ex.same 128 [.ref 108, w1] [] q5 rfl ?_
    exact e_fM_rule_128 d h
set_option maxRecDepth 20000 in
theorem e_fM_rule_35 (d : Nat) : ∀ {a1 : Int32} {μ : am_Mu} {out : am_Mu}, fM_rule_35 a1 μ = some out → am_Ex none (d + 5) 174 35 [.ref 108, .int a1] [] am_SH μ (none, am_SH, out) := by
  intro a1 μ out h
  unfold fM_rule_35 at h
  refine am_Ex.seg 2 39 [.ref 108, .int a1] [.int (μ 108 29)] μ (fun _ => rfl) ?_
  rcases am_ite h with ⟨q1, h⟩ | ⟨q1, h⟩
  · refine am_Ex.if_le_t rfl q1 ?_
    refine am_Ex.seg 5 52 [.ref 108, .int a1] [.int a1, .int (μ 108 30), .ref 123] μ (fun _ => rfl) ?_
    obtain ⟨q2, h⟩ := am_bif h
    refine am_Ex.iast (v2 := a1) (i2 := ((μ 108 30)).toNatClampNeg) rfl rfl q2 rfl rfl ?_
    refine am_Ex.seg 7 64 [.ref 108, .int a1] [.ref 108] (am_up (am_up μ 123 (((μ 108 30)).toNatClampNeg) a1) 108 27 ((μ 108 27) + 1)) (fun _ => rfl) ?_
    obtain ⟨q3, h_q3, h⟩ := am_bind h
    refine am_Ex.ivk (na := 1) (b := 108) (As' := []) rfl rfl rfl rfl rfl rfl rfl rfl rfl (e_fM_here (d + 4) h_q3) ?_
    refine am_Ex.same 67 [.ref 108, .int a1] [.int q3.1] q3.2 rfl ?_
    refine am_Ex.seg 1 69 [.ref 108, .int a1] [.int 58, .int q3.1] q3.2 (fun _ => rfl) ?_
    rcases am_ite h with ⟨q4, h⟩ | ⟨q4, h⟩
    · refine am_Ex.icmp_eq_t rfl q4 ?_
      exact e_fM_rule_77 d h
    · refine am_Ex.icmp_eq_f rfl q4 ?_
      refine am_Ex.seg 2 74 [.ref 108, .int a1] [.int 1, .ref 108] q3.2 (fun _ => rfl) ?_
      obtain ⟨q5, h_q5, h⟩ := am_bind h
      refine am_Ex.ivk (na := 2) (b := 108) (As' := [.int 1]) rfl rfl rfl rfl rfl rfl rfl rfl rfl (e_fM_fails (d + 4) h_q5) ?_
      refine am_Ex.same 77 [.ref 108, .int a1] [] q5 rfl ?_
      exact e_fM_rule_77 d h
  · refine am_Ex.if_le_f rfl q1 ?_
    cases h
    exact am_Ex.vret rfl rfl
set_option maxRecDepth 20000 in
theorem e_fM_rule (d : Nat) : ∀ {μ : am_Mu} {out : am_Mu}, fM_rule μ = some out → am_Ex none (d + 5) 174 0 [.ref 108, .null] [] am_SH μ (none, am_SH, out) := by
  intro μ out h
  unfold fM_rule at h
  refine am_Ex.seg 1 1 [.ref 108, .null] [.ref 108] μ (fun _ => rfl) ?_
  obtain ⟨q1, h_q1, h⟩ := am_bind h
  refine am_Ex.ivk (na := 1) (b := 108) (As' := []) rfl rfl rfl rfl rfl rfl rfl rfl rfl (e_fM_here (d + 4) h_q1) ?_
  refine am_Ex.same 4 [.ref 108, .null] [.int q1.1] q1.2 rfl ?_
  obtain ⟨q2, h_q2, h⟩ := am_bind h
  refine am_Ex.isk (na := 1) rfl (As := [.int q1.1]) rfl rfl rfl rfl rfl rfl (e_fM_kindOf (d + 4) h_q2) ?_
  refine am_Ex.same 7 [.ref 108, .null] [.int q2.1] q2.2 rfl ?_
  refine am_Ex.seg 3 10 [.ref 108, .int q2.1] [.int (-1), .int q2.1] q2.2 (fun _ => rfl) ?_
  rcases am_ite h with ⟨q3, h⟩ | ⟨q3, h⟩
  · refine am_Ex.icmp_ne_t rfl q3 ?_
    refine am_Ex.seg 3 27 [.ref 108, .int q2.1] [.int 24, .int (q2.2 108 30)] q2.2 (fun _ => rfl) ?_
    rcases am_ite h with ⟨q4, h⟩ | ⟨q4, h⟩
    · refine am_Ex.icmp_ne_t rfl q4 ?_
      exact e_fM_rule_35 d h
    · refine am_Ex.icmp_ne_f rfl (Decidable.not_not.mp q4) ?_
      refine am_Ex.seg 2 32 [.ref 108, .int q2.1] [.int 4, .ref 108] q2.2 (fun _ => rfl) ?_
      obtain ⟨q5, h_q5, h⟩ := am_bind h
      refine am_Ex.ivk (na := 2) (b := 108) (As' := [.int 4]) rfl rfl rfl rfl rfl rfl rfl rfl rfl (e_fM_fails (d + 4) h_q5) ?_
      refine am_Ex.same 35 [.ref 108, .int q2.1] [] q5 rfl ?_
      exact e_fM_rule_35 d h
  · refine am_Ex.icmp_ne_f rfl (Decidable.not_not.mp q3) ?_
    refine am_Ex.seg 2 15 [.ref 108, .int q2.1] [.int 1, .ref 108] q2.2 (fun _ => rfl) ?_
    obtain ⟨q6, h_q6, h⟩ := am_bind h
    refine am_Ex.ivk (na := 2) (b := 108) (As' := [.int 1]) rfl rfl rfl rfl rfl rfl rfl rfl rfl (e_fM_fails (d + 4) h_q6) ?_
    refine am_Ex.same 18 [.ref 108, .int q2.1] [] q6 rfl ?_
    refine am_Ex.goto rfl ?_
    exact e_fM_rule_35 d h
def fM_law_324 : Nat → Int32 → Int32 → am_Mu → Option (Int32 × am_Mu)
  | 0, _, _, _ => none
  | n + 1, a5, a6, μ => (if (μ 108 31) ≤ a6 then some (0, μ) else (bif am_inb a6 240 then (bif am_inb (((240 : Int32) * a5) + a6) 960 then (fM_law_324 n) a5 (a6 + 1) (am_up (am_up (am_up μ 120 (((((240 : Int32) * a5) + a6)).toNatClampNeg) (μ 128 ((a6).toNatClampNeg))) 121 (((((240 : Int32) * a5) + a6)).toNatClampNeg) (μ 129 ((a6).toNatClampNeg))) 122 (((((240 : Int32) * a5) + a6)).toNatClampNeg) (μ 130 ((a6).toNatClampNeg))) else none) else none))
def fM_law_321 (a5 : Int32) (μ : am_Mu) : Option (Int32 × am_Mu) := fM_law_324 am_F a5 0 μ
def fM_law_315 (k181 : Int32 → Int32 → am_Mu → Option (Int32 × am_Mu)) (a5 : Int32) (a6 : Int32) (μ : am_Mu) : Option (Int32 × am_Mu) := k181 a5 (a6 + 1) μ
def fM_law_273 : Nat → (Int32 → Int32 → am_Mu → Option (Int32 × am_Mu)) → Int32 → Int32 → Int32 → am_Mu → Option (Int32 × am_Mu)
  | 0, _, _, _, _, _ => none
  | n + 1, k181, a5, a6, a7, μ => (if 4 ≤ a7 then fM_law_315 k181 a5 a6 μ else (bif am_inb (((4 : Int32) * a6) + a7) 96 then (bif am_inb (((4 : Int32) * (((24 : Int32) * a5) + a6)) + a7) 384 then (fM_law_273 n k181) a5 a6 (a7 + 1) (am_up μ 119 (((((4 : Int32) * (((24 : Int32) * a5) + a6)) + a7)).toNatClampNeg) (μ 127 (((((4 : Int32) * a6) + a7)).toNatClampNeg))) else none) else none))
def fM_law_181 : Nat → Int32 → Int32 → am_Mu → Option (Int32 × am_Mu)
  | 0, _, _, _ => none
  | n + 1, a5, a6, μ => (if (μ 108 30) ≤ a6 then fM_law_321 a5 μ else (bif am_inb a6 24 then (bif am_inb (((24 : Int32) * a5) + a6) 96 then fM_law_273 am_F (fM_law_181 n) a5 a6 0 (am_up (am_up (am_up (am_up μ 115 (((((24 : Int32) * a5) + a6)).toNatClampNeg) (μ 123 ((a6).toNatClampNeg))) 116 (((((24 : Int32) * a5) + a6)).toNatClampNeg) (μ 124 ((a6).toNatClampNeg))) 117 (((((24 : Int32) * a5) + a6)).toNatClampNeg) (μ 125 ((a6).toNatClampNeg))) 118 (((((24 : Int32) * a5) + a6)).toNatClampNeg) (μ 126 ((a6).toNatClampNeg))) else none) else none))
def fM_law_164 (s0 : Int32) (s1 : Int32) (μ : am_Mu) : Option (Int32 × am_Mu) := (bif am_inb (s0 + s1) 4 then fM_law_181 am_F (s0 + s1) 0 (am_up μ 114 (((s0 + s1)).toNatClampNeg) (μ 108 30)) else none)
def fM_law_140 (a1 : Int32) (a2 : Int32) (μ : am_Mu) : Option (Int32 × am_Mu) := (if (μ 108 29) ≤ 0 then (if a2 = 0 then fM_law_164 ((2 : Int32) * a1) 0 μ else fM_law_164 ((2 : Int32) * a1) 1 μ) else some ((μ 108 29), μ))
def fM_law_127 (k67 : Int32 → Int32 → Int32 → am_Mu → Option (Int32 × am_Mu)) (a1 : Int32) (a2 : Int32) (a4 : Int32) (μ : am_Mu) : Option (Int32 × am_Mu) := k67 a1 a2 a4 (am_up μ 108 27 ((μ 108 27) + 1))
def fM_law_106 (k67 : Int32 → Int32 → Int32 → am_Mu → Option (Int32 × am_Mu)) (a1 : Int32) (a2 : Int32) (s0 : Int32) (μ : am_Mu) : Option (Int32 × am_Mu) := (if s0 = 0 then fM_law_127 k67 a1 a2 s0 μ else ((fM_here μ).bind fun q2 => (if q2.1 = 59 then fM_law_127 k67 a1 a2 s0 q2.2 else ((fM_fails 1 q2.2).bind fun q4 => fM_law_127 k67 a1 a2 s0 q4))))
def fM_law_105 (k67 : Int32 → Int32 → Int32 → am_Mu → Option (Int32 × am_Mu)) (a1 : Int32) (a2 : Int32) (μ : am_Mu) : Option (Int32 × am_Mu) := fM_law_106 k67 a1 a2 0 μ
def fM_law_67 : Nat → Int32 → Int32 → Int32 → am_Mu → Option (Int32 × am_Mu)
  | 0, _, _, _, _ => none
  | n + 1, a1, a2, a4, μ => (if a4 = 0 then fM_law_140 a1 a2 μ else (if ¬ (μ 108 29) = 0 then fM_law_140 a1 a2 μ else ((fM_rule μ).bind fun q3 => (if ¬ (q3 108 29) = 0 then fM_law_105 (fM_law_67 n) a1 a2 q3 else (if (q3 108 28) ≤ (q3 108 27) then fM_law_105 (fM_law_67 n) a1 a2 q3 else fM_law_106 (fM_law_67 n) a1 a2 1 q3)))))
def fM_law_65 (a1 : Int32) (a2 : Int32) (s0 : Int32) (μ : am_Mu) : Option (Int32 × am_Mu) := fM_law_67 am_F a1 a2 s0 μ
def fM_law (a1 : Int32) (a2 : Int32) (a3 : Int32) (μ : am_Mu) : Option (Int32 × am_Mu) := ((fM_isSchool a1 μ).bind fun q1 => (if q1.1 = 0 then some ((-1), q1.2) else (if a3 < 0 then some ((-1), q1.2) else (if a3 ≤ (q1.2 108 1) then (if a3 ≤ 0 then fM_law_65 a1 a2 0 (am_up (am_up (am_up (am_up (am_up (am_up (am_up q1.2 108 1 0) 108 27 0) 108 28 a3) 108 29 0) 108 30 0) 108 31 0) 108 32 0) else fM_law_65 a1 a2 1 (am_up (am_up (am_up (am_up (am_up (am_up (am_up q1.2 108 1 0) 108 27 0) 108 28 a3) 108 29 0) 108 30 0) 108 31 0) 108 32 0)) else some ((-1), q1.2)))))
set_option maxRecDepth 20000 in
theorem e_fM_law_324 (d : Nat) : ∀ n : Nat, ∀ {a5 : Int32} {a6 : Int32} {w1 w2 w3 w4 w7 : Value} {μ : am_Mu} {out : Int32 × am_Mu}, fM_law_324 n a5 a6 μ = some out → am_Ex none (d + 6) 175 324 [.ref 108, w1, w2, w3, w4, .int a5, .int a6, w7] [] am_SH μ (some (.int out.1), am_SH, out.2) := by
  intro n
  induction n with
  | zero => intros; contradiction
  | succ n ih =>
    have hk324 : ∀ {a5 : Int32} {a6 : Int32} {w1 w2 w3 w4 w7 : Value} {μ : am_Mu} {out : Int32 × am_Mu}, (fM_law_324 n) a5 a6 μ = some out → am_Ex none (d + 6) 175 324 [.ref 108, w1, w2, w3, w4, .int a5, .int a6, w7] [] am_SH μ (some (.int out.1), am_SH, out.2) := ih
    intro a5 a6 w1 w2 w3 w4 w7 μ out h
    unfold fM_law_324 at h
    refine am_Ex.seg 3 330 [.ref 108, w1, w2, w3, w4, .int a5, .int a6, w7] [.int (μ 108 31), .int a6] μ (fun _ => rfl) ?_
    rcases am_ite h with ⟨q1, h⟩ | ⟨q1, h⟩
    · refine am_Ex.icmp_ge_t rfl q1 ?_
      refine am_Ex.seg 1 403 [.ref 108, w1, w2, w3, w4, .int a5, .int a6, w7] [.int 0] μ (fun _ => rfl) ?_
      cases h
      exact am_Ex.iret rfl rfl
    · refine am_Ex.icmp_ge_f rfl q1 ?_
      refine am_Ex.seg 10 352 [.ref 108, w1, w2, w3, w4, .int a5, .int a6, w7] [.int a6, .ref 128, .int (((240 : Int32) * a5) + a6), .ref 120] μ (fun _ => rfl) ?_
      obtain ⟨q2, h⟩ := am_bif h
      refine am_Ex.iald (v := (μ 128 ((a6).toNatClampNeg))) rfl rfl q2 rfl ?_
      obtain ⟨q3, h⟩ := am_bif h
      refine am_Ex.iast (v2 := (μ 128 ((a6).toNatClampNeg))) (i2 := ((((240 : Int32) * a5) + a6)).toNatClampNeg) rfl rfl q3 rfl rfl ?_
      refine am_Ex.seg 10 373 [.ref 108, w1, w2, w3, w4, .int a5, .int a6, w7] [.int a6, .ref 129, .int (((240 : Int32) * a5) + a6), .ref 121] (am_up μ 120 (((((240 : Int32) * a5) + a6)).toNatClampNeg) (μ 128 ((a6).toNatClampNeg))) (fun _ => rfl) ?_
      refine am_Ex.iald (v := (μ 129 ((a6).toNatClampNeg))) rfl rfl q2 ((am_up_k (by decide)).trans rfl) ?_
      refine am_Ex.iast (v2 := (μ 129 ((a6).toNatClampNeg))) (i2 := ((((240 : Int32) * a5) + a6)).toNatClampNeg) rfl rfl q3 rfl rfl ?_
      refine am_Ex.seg 10 394 [.ref 108, w1, w2, w3, w4, .int a5, .int a6, w7] [.int a6, .ref 130, .int (((240 : Int32) * a5) + a6), .ref 122] (am_up (am_up μ 120 (((((240 : Int32) * a5) + a6)).toNatClampNeg) (μ 128 ((a6).toNatClampNeg))) 121 (((((240 : Int32) * a5) + a6)).toNatClampNeg) (μ 129 ((a6).toNatClampNeg))) (fun _ => rfl) ?_
      refine am_Ex.iald (v := (μ 130 ((a6).toNatClampNeg))) rfl rfl q2 ((am_up_k (by decide)).trans ((am_up_k (by decide)).trans rfl)) ?_
      refine am_Ex.iast (v2 := (μ 130 ((a6).toNatClampNeg))) (i2 := ((((240 : Int32) * a5) + a6)).toNatClampNeg) rfl rfl q3 rfl rfl ?_
      refine am_Ex.seg 1 399 [.ref 108, w1, w2, w3, w4, .int a5, .int (a6 + 1), w7] [] (am_up (am_up (am_up μ 120 (((((240 : Int32) * a5) + a6)).toNatClampNeg) (μ 128 ((a6).toNatClampNeg))) 121 (((((240 : Int32) * a5) + a6)).toNatClampNeg) (μ 129 ((a6).toNatClampNeg))) 122 (((((240 : Int32) * a5) + a6)).toNatClampNeg) (μ 130 ((a6).toNatClampNeg))) (fun _ => rfl) ?_
      refine am_Ex.goto rfl ?_
      exact hk324 h
set_option maxRecDepth 20000 in
theorem e_fM_law_321 (d : Nat) : ∀ {a5 : Int32} {w1 w2 w3 w4 w6 w7 : Value} {μ : am_Mu} {out : Int32 × am_Mu}, fM_law_321 a5 μ = some out → am_Ex none (d + 6) 175 321 [.ref 108, w1, w2, w3, w4, .int a5, w6, w7] [] am_SH μ (some (.int out.1), am_SH, out.2) := by
  intro a5 w1 w2 w3 w4 w6 w7 μ out h
  unfold fM_law_321 at h
  refine am_Ex.seg 2 324 [.ref 108, w1, w2, w3, w4, .int a5, .int 0, w7] [] μ (fun _ => rfl) ?_
  exact e_fM_law_324 d am_F h
set_option maxRecDepth 20000 in
theorem e_fM_law_315 (d : Nat) {k181 : Int32 → Int32 → am_Mu → Option (Int32 × am_Mu)} (hk181 : ∀ {a5 : Int32} {a6 : Int32} {w1 w2 w3 w4 w7 : Value} {μ : am_Mu} {out : Int32 × am_Mu}, k181 a5 a6 μ = some out → am_Ex none (d + 6) 175 181 [.ref 108, w1, w2, w3, w4, .int a5, .int a6, w7] [] am_SH μ (some (.int out.1), am_SH, out.2)) : ∀ {a5 : Int32} {a6 : Int32} {w1 w2 w3 w4 w7 : Value} {μ : am_Mu} {out : Int32 × am_Mu}, fM_law_315 k181 a5 a6 μ = some out → am_Ex none (d + 6) 175 315 [.ref 108, w1, w2, w3, w4, .int a5, .int a6, w7] [] am_SH μ (some (.int out.1), am_SH, out.2) := by
  intro a5 a6 w1 w2 w3 w4 w7 μ out h
  unfold fM_law_315 at h
  refine am_Ex.seg 1 318 [.ref 108, w1, w2, w3, w4, .int a5, .int (a6 + 1), w7] [] μ (fun _ => rfl) ?_
  refine am_Ex.goto rfl ?_
  exact hk181 h
set_option maxRecDepth 20000 in
theorem e_fM_law_273 (d : Nat) {k181 : Int32 → Int32 → am_Mu → Option (Int32 × am_Mu)} (hk181 : ∀ {a5 : Int32} {a6 : Int32} {w1 w2 w3 w4 w7 : Value} {μ : am_Mu} {out : Int32 × am_Mu}, k181 a5 a6 μ = some out → am_Ex none (d + 6) 175 181 [.ref 108, w1, w2, w3, w4, .int a5, .int a6, w7] [] am_SH μ (some (.int out.1), am_SH, out.2)) : ∀ n : Nat, ∀ {a5 : Int32} {a6 : Int32} {a7 : Int32} {w1 w2 w3 w4 : Value} {μ : am_Mu} {out : Int32 × am_Mu}, fM_law_273 n k181 a5 a6 a7 μ = some out → am_Ex none (d + 6) 175 273 [.ref 108, w1, w2, w3, w4, .int a5, .int a6, .int a7] [] am_SH μ (some (.int out.1), am_SH, out.2) := by
  intro n
  induction n with
  | zero => intros; contradiction
  | succ n ih =>
    have hk273 : ∀ {a5 : Int32} {a6 : Int32} {a7 : Int32} {w1 w2 w3 w4 : Value} {μ : am_Mu} {out : Int32 × am_Mu}, (fM_law_273 n k181) a5 a6 a7 μ = some out → am_Ex none (d + 6) 175 273 [.ref 108, w1, w2, w3, w4, .int a5, .int a6, .int a7] [] am_SH μ (some (.int out.1), am_SH, out.2) := ih
    intro a5 a6 a7 w1 w2 w3 w4 μ out h
    unfold fM_law_273 at h
    refine am_Ex.seg 2 276 [.ref 108, w1, w2, w3, w4, .int a5, .int a6, .int a7] [.int 4, .int a7] μ (fun _ => rfl) ?_
    rcases am_ite h with ⟨q1, h⟩ | ⟨q1, h⟩
    · refine am_Ex.icmp_ge_t rfl q1 ?_
      exact e_fM_law_315 d hk181 h
    · refine am_Ex.icmp_ge_f rfl q1 ?_
      refine am_Ex.seg 18 307 [.ref 108, w1, w2, w3, w4, .int a5, .int a6, .int a7] [.int (((4 : Int32) * a6) + a7), .ref 127, .int (((4 : Int32) * (((24 : Int32) * a5) + a6)) + a7), .ref 119] μ (fun _ => rfl) ?_
      obtain ⟨q2, h⟩ := am_bif h
      refine am_Ex.iald (v := (μ 127 (((((4 : Int32) * a6) + a7)).toNatClampNeg))) rfl rfl q2 rfl ?_
      obtain ⟨q3, h⟩ := am_bif h
      refine am_Ex.iast (v2 := (μ 127 (((((4 : Int32) * a6) + a7)).toNatClampNeg))) (i2 := ((((4 : Int32) * (((24 : Int32) * a5) + a6)) + a7)).toNatClampNeg) rfl rfl q3 rfl rfl ?_
      refine am_Ex.seg 1 312 [.ref 108, w1, w2, w3, w4, .int a5, .int a6, .int (a7 + 1)] [] (am_up μ 119 (((((4 : Int32) * (((24 : Int32) * a5) + a6)) + a7)).toNatClampNeg) (μ 127 (((((4 : Int32) * a6) + a7)).toNatClampNeg))) (fun _ => rfl) ?_
      refine am_Ex.goto rfl ?_
      exact hk273 h
set_option maxRecDepth 20000 in
theorem e_fM_law_181 (d : Nat) : ∀ n : Nat, ∀ {a5 : Int32} {a6 : Int32} {w1 w2 w3 w4 w7 : Value} {μ : am_Mu} {out : Int32 × am_Mu}, fM_law_181 n a5 a6 μ = some out → am_Ex none (d + 6) 175 181 [.ref 108, w1, w2, w3, w4, .int a5, .int a6, w7] [] am_SH μ (some (.int out.1), am_SH, out.2) := by
  intro n
  induction n with
  | zero => intros; contradiction
  | succ n ih =>
    have hk181 : ∀ {a5 : Int32} {a6 : Int32} {w1 w2 w3 w4 w7 : Value} {μ : am_Mu} {out : Int32 × am_Mu}, (fM_law_181 n) a5 a6 μ = some out → am_Ex none (d + 6) 175 181 [.ref 108, w1, w2, w3, w4, .int a5, .int a6, w7] [] am_SH μ (some (.int out.1), am_SH, out.2) := ih
    intro a5 a6 w1 w2 w3 w4 w7 μ out h
    unfold fM_law_181 at h
    refine am_Ex.seg 3 187 [.ref 108, w1, w2, w3, w4, .int a5, .int a6, w7] [.int (μ 108 30), .int a6] μ (fun _ => rfl) ?_
    rcases am_ite h with ⟨q1, h⟩ | ⟨q1, h⟩
    · refine am_Ex.icmp_ge_t rfl q1 ?_
      exact e_fM_law_321 d h
    · refine am_Ex.icmp_ge_f rfl q1 ?_
      refine am_Ex.seg 10 208 [.ref 108, w1, w2, w3, w4, .int a5, .int a6, w7] [.int a6, .ref 123, .int (((24 : Int32) * a5) + a6), .ref 115] μ (fun _ => rfl) ?_
      obtain ⟨q2, h⟩ := am_bif h
      refine am_Ex.iald (v := (μ 123 ((a6).toNatClampNeg))) rfl rfl q2 rfl ?_
      obtain ⟨q3, h⟩ := am_bif h
      refine am_Ex.iast (v2 := (μ 123 ((a6).toNatClampNeg))) (i2 := ((((24 : Int32) * a5) + a6)).toNatClampNeg) rfl rfl q3 rfl rfl ?_
      refine am_Ex.seg 10 228 [.ref 108, w1, w2, w3, w4, .int a5, .int a6, w7] [.int a6, .ref 124, .int (((24 : Int32) * a5) + a6), .ref 116] (am_up μ 115 (((((24 : Int32) * a5) + a6)).toNatClampNeg) (μ 123 ((a6).toNatClampNeg))) (fun _ => rfl) ?_
      refine am_Ex.iald (v := (μ 124 ((a6).toNatClampNeg))) rfl rfl q2 ((am_up_k (by decide)).trans rfl) ?_
      refine am_Ex.iast (v2 := (μ 124 ((a6).toNatClampNeg))) (i2 := ((((24 : Int32) * a5) + a6)).toNatClampNeg) rfl rfl q3 rfl rfl ?_
      refine am_Ex.seg 10 248 [.ref 108, w1, w2, w3, w4, .int a5, .int a6, w7] [.int a6, .ref 125, .int (((24 : Int32) * a5) + a6), .ref 117] (am_up (am_up μ 115 (((((24 : Int32) * a5) + a6)).toNatClampNeg) (μ 123 ((a6).toNatClampNeg))) 116 (((((24 : Int32) * a5) + a6)).toNatClampNeg) (μ 124 ((a6).toNatClampNeg))) (fun _ => rfl) ?_
      refine am_Ex.iald (v := (μ 125 ((a6).toNatClampNeg))) rfl rfl q2 ((am_up_k (by decide)).trans ((am_up_k (by decide)).trans rfl)) ?_
      refine am_Ex.iast (v2 := (μ 125 ((a6).toNatClampNeg))) (i2 := ((((24 : Int32) * a5) + a6)).toNatClampNeg) rfl rfl q3 rfl rfl ?_
      refine am_Ex.seg 10 268 [.ref 108, w1, w2, w3, w4, .int a5, .int a6, w7] [.int a6, .ref 126, .int (((24 : Int32) * a5) + a6), .ref 118] (am_up (am_up (am_up μ 115 (((((24 : Int32) * a5) + a6)).toNatClampNeg) (μ 123 ((a6).toNatClampNeg))) 116 (((((24 : Int32) * a5) + a6)).toNatClampNeg) (μ 124 ((a6).toNatClampNeg))) 117 (((((24 : Int32) * a5) + a6)).toNatClampNeg) (μ 125 ((a6).toNatClampNeg))) (fun _ => rfl) ?_
      refine am_Ex.iald (v := (μ 126 ((a6).toNatClampNeg))) rfl rfl q2 ((am_up_k (by decide)).trans ((am_up_k (by decide)).trans ((am_up_k (by decide)).trans rfl))) ?_
      refine am_Ex.iast (v2 := (μ 126 ((a6).toNatClampNeg))) (i2 := ((((24 : Int32) * a5) + a6)).toNatClampNeg) rfl rfl q3 rfl rfl ?_
      refine am_Ex.seg 2 273 [.ref 108, w1, w2, w3, w4, .int a5, .int a6, .int 0] [] (am_up (am_up (am_up (am_up μ 115 (((((24 : Int32) * a5) + a6)).toNatClampNeg) (μ 123 ((a6).toNatClampNeg))) 116 (((((24 : Int32) * a5) + a6)).toNatClampNeg) (μ 124 ((a6).toNatClampNeg))) 117 (((((24 : Int32) * a5) + a6)).toNatClampNeg) (μ 125 ((a6).toNatClampNeg))) 118 (((((24 : Int32) * a5) + a6)).toNatClampNeg) (μ 126 ((a6).toNatClampNeg))) (fun _ => rfl) ?_
      exact e_fM_law_273 d hk181 am_F h
set_option maxRecDepth 20000 in
theorem e_fM_law_164 (d : Nat) : ∀ {s0 : Int32} {s1 : Int32} {w1 w2 w3 w4 w5 w6 w7 : Value} {μ : am_Mu} {out : Int32 × am_Mu}, fM_law_164 s0 s1 μ = some out → am_Ex none (d + 6) 175 164 [.ref 108, w1, w2, w3, w4, w5, w6, w7] [.int s1, .int s0] am_SH μ (some (.int out.1), am_SH, out.2) := by
  intro s0 s1 w1 w2 w3 w4 w5 w6 w7 μ out h
  unfold fM_law_164 at h
  refine am_Ex.seg 7 177 [.ref 108, w1, w2, w3, w4, .int (s0 + s1), w6, w7] [.int (μ 108 30), .int (s0 + s1), .ref 114] μ (fun _ => rfl) ?_
  obtain ⟨q1, h⟩ := am_bif h
  refine am_Ex.iast (v2 := (μ 108 30)) (i2 := ((s0 + s1)).toNatClampNeg) rfl rfl q1 rfl rfl ?_
  refine am_Ex.seg 2 181 [.ref 108, w1, w2, w3, w4, .int (s0 + s1), .int 0, w7] [] (am_up μ 114 (((s0 + s1)).toNatClampNeg) (μ 108 30)) (fun _ => rfl) ?_
  exact e_fM_law_181 d am_F h
set_option maxRecDepth 20000 in
theorem e_fM_law_140 (d : Nat) : ∀ {a1 : Int32} {a2 : Int32} {w3 w4 w5 w6 w7 : Value} {μ : am_Mu} {out : Int32 × am_Mu}, fM_law_140 a1 a2 μ = some out → am_Ex none (d + 6) 175 140 [.ref 108, .int a1, .int a2, w3, w4, w5, w6, w7] [] am_SH μ (some (.int out.1), am_SH, out.2) := by
  intro a1 a2 w3 w4 w5 w6 w7 μ out h
  unfold fM_law_140 at h
  refine am_Ex.seg 2 144 [.ref 108, .int a1, .int a2, w3, w4, w5, w6, w7] [.int (μ 108 29)] μ (fun _ => rfl) ?_
  rcases am_ite h with ⟨q1, h⟩ | ⟨q1, h⟩
  · refine am_Ex.if_le_t rfl q1 ?_
    refine am_Ex.seg 4 156 [.ref 108, .int a1, .int a2, w3, w4, w5, w6, w7] [.int a2, .int ((2 : Int32) * a1)] μ (fun _ => rfl) ?_
    rcases am_ite h with ⟨q2, h⟩ | ⟨q2, h⟩
    · refine am_Ex.if_eq_t rfl q2 ?_
      refine am_Ex.seg 1 164 [.ref 108, .int a1, .int a2, w3, w4, w5, w6, w7] [.int 0, .int ((2 : Int32) * a1)] μ (fun _ => rfl) ?_
      exact e_fM_law_164 d h
    · refine am_Ex.if_eq_f rfl q2 ?_
      refine am_Ex.seg 1 160 [.ref 108, .int a1, .int a2, w3, w4, w5, w6, w7] [.int 1, .int ((2 : Int32) * a1)] μ (fun _ => rfl) ?_
      refine am_Ex.goto rfl ?_
      exact e_fM_law_164 d h
  · refine am_Ex.if_le_f rfl q1 ?_
    refine am_Ex.seg 2 151 [.ref 108, .int a1, .int a2, w3, w4, w5, w6, w7] [.int (μ 108 29)] μ (fun _ => rfl) ?_
    cases h
    exact am_Ex.iret rfl rfl
set_option maxRecDepth 20000 in
theorem e_fM_law_127 (d : Nat) {k67 : Int32 → Int32 → Int32 → am_Mu → Option (Int32 × am_Mu)} (hk67 : ∀ {a1 : Int32} {a2 : Int32} {a4 : Int32} {w3 w5 w6 w7 : Value} {μ : am_Mu} {out : Int32 × am_Mu}, k67 a1 a2 a4 μ = some out → am_Ex none (d + 6) 175 67 [.ref 108, .int a1, .int a2, w3, .int a4, w5, w6, w7] [] am_SH μ (some (.int out.1), am_SH, out.2)) : ∀ {a1 : Int32} {a2 : Int32} {a4 : Int32} {w3 w5 w6 w7 : Value} {μ : am_Mu} {out : Int32 × am_Mu}, fM_law_127 k67 a1 a2 a4 μ = some out → am_Ex none (d + 6) 175 127 [.ref 108, .int a1, .int a2, w3, .int a4, w5, w6, w7] [] am_SH μ (some (.int out.1), am_SH, out.2) := by
  intro a1 a2 a4 w3 w5 w6 w7 μ out h
  unfold fM_law_127 at h
  refine am_Ex.seg 6 137 [.ref 108, .int a1, .int a2, w3, .int a4, w5, w6, w7] [] (am_up μ 108 27 ((μ 108 27) + 1)) (fun _ => rfl) ?_
  refine am_Ex.goto rfl ?_
  exact hk67 h
set_option maxRecDepth 20000 in
theorem e_fM_law_106 (d : Nat) {k67 : Int32 → Int32 → Int32 → am_Mu → Option (Int32 × am_Mu)} (hk67 : ∀ {a1 : Int32} {a2 : Int32} {a4 : Int32} {w3 w5 w6 w7 : Value} {μ : am_Mu} {out : Int32 × am_Mu}, k67 a1 a2 a4 μ = some out → am_Ex none (d + 6) 175 67 [.ref 108, .int a1, .int a2, w3, .int a4, w5, w6, w7] [] am_SH μ (some (.int out.1), am_SH, out.2)) : ∀ {a1 : Int32} {a2 : Int32} {s0 : Int32} {w3 w4 w5 w6 w7 : Value} {μ : am_Mu} {out : Int32 × am_Mu}, fM_law_106 k67 a1 a2 s0 μ = some out → am_Ex none (d + 6) 175 106 [.ref 108, .int a1, .int a2, w3, w4, w5, w6, w7] [.int s0] am_SH μ (some (.int out.1), am_SH, out.2) := by
  intro a1 a2 s0 w3 w4 w5 w6 w7 μ out h
  unfold fM_law_106 at h
  refine am_Ex.seg 2 110 [.ref 108, .int a1, .int a2, w3, .int s0, w5, w6, w7] [.int s0] μ (fun _ => rfl) ?_
  rcases am_ite h with ⟨q1, h⟩ | ⟨q1, h⟩
  · refine am_Ex.if_eq_t rfl q1 ?_
    exact e_fM_law_127 d hk67 h
  · refine am_Ex.if_eq_f rfl q1 ?_
    refine am_Ex.seg 1 114 [.ref 108, .int a1, .int a2, w3, .int s0, w5, w6, w7] [.ref 108] μ (fun _ => rfl) ?_
    obtain ⟨q2, h_q2, h⟩ := am_bind h
    refine am_Ex.ivk (na := 1) (b := 108) (As' := []) rfl rfl rfl rfl rfl rfl rfl rfl rfl (e_fM_here (d + 5) h_q2) ?_
    refine am_Ex.same 117 [.ref 108, .int a1, .int a2, w3, .int s0, w5, w6, w7] [.int q2.1] q2.2 rfl ?_
    refine am_Ex.seg 1 119 [.ref 108, .int a1, .int a2, w3, .int s0, w5, w6, w7] [.int 59, .int q2.1] q2.2 (fun _ => rfl) ?_
    rcases am_ite h with ⟨q3, h⟩ | ⟨q3, h⟩
    · refine am_Ex.icmp_eq_t rfl q3 ?_
      exact e_fM_law_127 d hk67 h
    · refine am_Ex.icmp_eq_f rfl q3 ?_
      refine am_Ex.seg 2 124 [.ref 108, .int a1, .int a2, w3, .int s0, w5, w6, w7] [.int 1, .ref 108] q2.2 (fun _ => rfl) ?_
      obtain ⟨q4, h_q4, h⟩ := am_bind h
      refine am_Ex.ivk (na := 2) (b := 108) (As' := [.int 1]) rfl rfl rfl rfl rfl rfl rfl rfl rfl (e_fM_fails (d + 5) h_q4) ?_
      refine am_Ex.same 127 [.ref 108, .int a1, .int a2, w3, .int s0, w5, w6, w7] [] q4 rfl ?_
      exact e_fM_law_127 d hk67 h
set_option maxRecDepth 20000 in
theorem e_fM_law_105 (d : Nat) {k67 : Int32 → Int32 → Int32 → am_Mu → Option (Int32 × am_Mu)} (hk67 : ∀ {a1 : Int32} {a2 : Int32} {a4 : Int32} {w3 w5 w6 w7 : Value} {μ : am_Mu} {out : Int32 × am_Mu}, k67 a1 a2 a4 μ = some out → am_Ex none (d + 6) 175 67 [.ref 108, .int a1, .int a2, w3, .int a4, w5, w6, w7] [] am_SH μ (some (.int out.1), am_SH, out.2)) : ∀ {a1 : Int32} {a2 : Int32} {w3 w4 w5 w6 w7 : Value} {μ : am_Mu} {out : Int32 × am_Mu}, fM_law_105 k67 a1 a2 μ = some out → am_Ex none (d + 6) 175 105 [.ref 108, .int a1, .int a2, w3, w4, w5, w6, w7] [] am_SH μ (some (.int out.1), am_SH, out.2) := by
  intro a1 a2 w3 w4 w5 w6 w7 μ out h
  unfold fM_law_105 at h
  refine am_Ex.seg 1 106 [.ref 108, .int a1, .int a2, w3, w4, w5, w6, w7] [.int 0] μ (fun _ => rfl) ?_
  exact e_fM_law_106 d hk67 h
set_option maxRecDepth 20000 in
theorem e_fM_law_67 (d : Nat) : ∀ n : Nat, ∀ {a1 : Int32} {a2 : Int32} {a4 : Int32} {w3 w5 w6 w7 : Value} {μ : am_Mu} {out : Int32 × am_Mu}, fM_law_67 n a1 a2 a4 μ = some out → am_Ex none (d + 6) 175 67 [.ref 108, .int a1, .int a2, w3, .int a4, w5, w6, w7] [] am_SH μ (some (.int out.1), am_SH, out.2) := by
  intro n
  induction n with
  | zero => intros; contradiction
  | succ n ih =>
    have hk67 : ∀ {a1 : Int32} {a2 : Int32} {a4 : Int32} {w3 w5 w6 w7 : Value} {μ : am_Mu} {out : Int32 × am_Mu}, (fM_law_67 n) a1 a2 a4 μ = some out → am_Ex none (d + 6) 175 67 [.ref 108, .int a1, .int a2, w3, .int a4, w5, w6, w7] [] am_SH μ (some (.int out.1), am_SH, out.2) := ih
    intro a1 a2 a4 w3 w5 w6 w7 μ out h
    unfold fM_law_67 at h
    refine am_Ex.seg 1 69 [.ref 108, .int a1, .int a2, w3, .int a4, w5, w6, w7] [.int a4] μ (fun _ => rfl) ?_
    rcases am_ite h with ⟨q1, h⟩ | ⟨q1, h⟩
    · refine am_Ex.if_eq_t rfl q1 ?_
      exact e_fM_law_140 d h
    · refine am_Ex.if_eq_f rfl q1 ?_
      refine am_Ex.seg 2 76 [.ref 108, .int a1, .int a2, w3, .int a4, w5, w6, w7] [.int (μ 108 29)] μ (fun _ => rfl) ?_
      rcases am_ite h with ⟨q2, h⟩ | ⟨q2, h⟩
      · refine am_Ex.if_ne_t rfl q2 ?_
        exact e_fM_law_140 d h
      · refine am_Ex.if_ne_f rfl (Decidable.not_not.mp q2) ?_
        refine am_Ex.seg 1 80 [.ref 108, .int a1, .int a2, w3, .int a4, w5, w6, w7] [.ref 108] μ (fun _ => rfl) ?_
        obtain ⟨q3, h_q3, h⟩ := am_bind h
        refine am_Ex.ivk (na := 1) (b := 108) (As' := []) rfl rfl rfl rfl rfl rfl rfl rfl rfl (e_fM_rule (d + 0) h_q3) ?_
        refine am_Ex.same 83 [.ref 108, .int a1, .int a2, w3, .int a4, w5, w6, w7] [] q3 rfl ?_
        refine am_Ex.seg 2 87 [.ref 108, .int a1, .int a2, w3, .int a4, w5, w6, w7] [.int (q3 108 29)] q3 (fun _ => rfl) ?_
        rcases am_ite h with ⟨q4, h⟩ | ⟨q4, h⟩
        · refine am_Ex.if_ne_t rfl q4 ?_
          exact e_fM_law_105 d hk67 h
        · refine am_Ex.if_ne_f rfl (Decidable.not_not.mp q4) ?_
          refine am_Ex.seg 4 98 [.ref 108, .int a1, .int a2, w3, .int a4, w5, w6, w7] [.int (q3 108 28), .int (q3 108 27)] q3 (fun _ => rfl) ?_
          rcases am_ite h with ⟨q5, h⟩ | ⟨q5, h⟩
          · refine am_Ex.icmp_ge_t rfl q5 ?_
            exact e_fM_law_105 d hk67 h
          · refine am_Ex.icmp_ge_f rfl q5 ?_
            refine am_Ex.seg 1 102 [.ref 108, .int a1, .int a2, w3, .int a4, w5, w6, w7] [.int 1] q3 (fun _ => rfl) ?_
            refine am_Ex.goto rfl ?_
            exact e_fM_law_106 d hk67 h
set_option maxRecDepth 20000 in
theorem e_fM_law_65 (d : Nat) : ∀ {a1 : Int32} {a2 : Int32} {s0 : Int32} {w3 w4 w5 w6 w7 : Value} {μ : am_Mu} {out : Int32 × am_Mu}, fM_law_65 a1 a2 s0 μ = some out → am_Ex none (d + 6) 175 65 [.ref 108, .int a1, .int a2, w3, w4, w5, w6, w7] [.int s0] am_SH μ (some (.int out.1), am_SH, out.2) := by
  intro a1 a2 s0 w3 w4 w5 w6 w7 μ out h
  unfold fM_law_65 at h
  refine am_Ex.seg 1 67 [.ref 108, .int a1, .int a2, w3, .int s0, w5, w6, w7] [] μ (fun _ => rfl) ?_
  exact e_fM_law_67 d am_F h
set_option maxRecDepth 20000 in
theorem e_fM_law (d : Nat) : ∀ {a1 : Int32} {a2 : Int32} {a3 : Int32} {μ : am_Mu} {out : Int32 × am_Mu}, fM_law a1 a2 a3 μ = some out → am_Ex none (d + 6) 175 0 [.ref 108, .int a1, .int a2, .int a3, .null, .null, .null, .null] [] am_SH μ (some (.int out.1), am_SH, out.2) := by
  intro a1 a2 a3 μ out h
  unfold fM_law at h
  refine am_Ex.seg 1 1 [.ref 108, .int a1, .int a2, .int a3, .null, .null, .null, .null] [.int a1] μ (fun _ => rfl) ?_
  obtain ⟨q1, h_q1, h⟩ := am_bind h
  refine am_Ex.isk (na := 1) rfl (As := [.int a1]) rfl rfl rfl rfl rfl rfl (e_fM_isSchool (d + 5) h_q1) ?_
  refine am_Ex.same 4 [.ref 108, .int a1, .int a2, .int a3, .null, .null, .null, .null] [.int q1.1] q1.2 rfl ?_
  rcases am_ite h with ⟨q2, h⟩ | ⟨q2, h⟩
  · refine am_Ex.if_eq_t rfl q2 ?_
    refine am_Ex.seg 1 20 [.ref 108, .int a1, .int a2, .int a3, .null, .null, .null, .null] [.int (-1)] q1.2 (fun _ => rfl) ?_
    cases h
    exact am_Ex.iret rfl rfl
  · refine am_Ex.if_eq_f rfl q2 ?_
    refine am_Ex.seg 1 8 [.ref 108, .int a1, .int a2, .int a3, .null, .null, .null, .null] [.int a3] q1.2 (fun _ => rfl) ?_
    rcases am_ite h with ⟨q3, h⟩ | ⟨q3, h⟩
    · refine am_Ex.if_lt_t rfl q3 ?_
      refine am_Ex.seg 1 20 [.ref 108, .int a1, .int a2, .int a3, .null, .null, .null, .null] [.int (-1)] q1.2 (fun _ => rfl) ?_
      cases h
      exact am_Ex.iret rfl rfl
    · refine am_Ex.if_lt_f rfl q3 ?_
      refine am_Ex.seg 3 16 [.ref 108, .int a1, .int a2, .int a3, .null, .null, .null, .null] [.int (q1.2 108 1), .int a3] q1.2 (fun _ => rfl) ?_
      rcases am_ite h with ⟨q4, h⟩ | ⟨q4, h⟩
      · refine am_Ex.icmp_le_t rfl q4 ?_
        refine am_Ex.seg 22 57 [.ref 108, .int a1, .int a2, .int a3, .null, .null, .null, .null] [.int a3] (am_up (am_up (am_up (am_up (am_up (am_up (am_up q1.2 108 1 0) 108 27 0) 108 28 a3) 108 29 0) 108 30 0) 108 31 0) 108 32 0) (fun _ => rfl) ?_
        rcases am_ite h with ⟨q5, h⟩ | ⟨q5, h⟩
        · refine am_Ex.if_le_t rfl q5 ?_
          refine am_Ex.seg 1 65 [.ref 108, .int a1, .int a2, .int a3, .null, .null, .null, .null] [.int 0] (am_up (am_up (am_up (am_up (am_up (am_up (am_up q1.2 108 1 0) 108 27 0) 108 28 a3) 108 29 0) 108 30 0) 108 31 0) 108 32 0) (fun _ => rfl) ?_
          exact e_fM_law_65 d h
        · refine am_Ex.if_le_f rfl q5 ?_
          refine am_Ex.seg 1 61 [.ref 108, .int a1, .int a2, .int a3, .null, .null, .null, .null] [.int 1] (am_up (am_up (am_up (am_up (am_up (am_up (am_up q1.2 108 1 0) 108 27 0) 108 28 a3) 108 29 0) 108 30 0) 108 31 0) 108 32 0) (fun _ => rfl) ?_
          refine am_Ex.goto rfl ?_
          exact e_fM_law_65 d h
      · refine am_Ex.icmp_le_f rfl q4 ?_
        refine am_Ex.seg 1 20 [.ref 108, .int a1, .int a2, .int a3, .null, .null, .null, .null] [.int (-1)] q1.2 (fun _ => rfl) ?_
        cases h
        exact am_Ex.iret rfl rfl
def fM_rules_23 (s1 : Int32) (s2 : Int32) (μ : am_Mu) : Option (Int32 × am_Mu) := (bif am_inb (s1 + s2) 4 then some ((μ 114 (((s1 + s2)).toNatClampNeg)), μ) else none)
def fM_rules (a1 : Int32) (a2 : Int32) (μ : am_Mu) : Option (Int32 × am_Mu) := ((fM_isSchool a1 μ).bind fun q1 => (if q1.1 = 0 then some ((-1), q1.2) else (if a2 = 0 then fM_rules_23 ((2 : Int32) * a1) 0 q1.2 else fM_rules_23 ((2 : Int32) * a1) 1 q1.2)))
set_option maxRecDepth 20000 in
theorem e_fM_rules_23 (d : Nat) : ∀ {s1 : Int32} {s2 : Int32} {w0 w1 w2 : Value} {μ : am_Mu} {out : Int32 × am_Mu}, fM_rules_23 s1 s2 μ = some out → am_Ex none (d + 1) 176 23 [w0, w1, w2] [.int s2, .int s1, .ref 114] am_SH μ (some (.int out.1), am_SH, out.2) := by
  intro s1 s2 w0 w1 w2 μ out h
  unfold fM_rules_23 at h
  refine am_Ex.seg 1 24 [w0, w1, w2] [.int (s1 + s2), .ref 114] μ (fun _ => rfl) ?_
  obtain ⟨q1, h⟩ := am_bif h
  refine am_Ex.iald (v := (μ 114 (((s1 + s2)).toNatClampNeg))) rfl rfl q1 rfl ?_
  refine am_Ex.goto rfl ?_
  cases h
  exact am_Ex.iret rfl rfl
set_option maxRecDepth 20000 in
theorem e_fM_rules (d : Nat) : ∀ {a1 : Int32} {a2 : Int32} {μ : am_Mu} {out : Int32 × am_Mu}, fM_rules a1 a2 μ = some out → am_Ex none (d + 1) 176 0 [.ref 108, .int a1, .int a2] [] am_SH μ (some (.int out.1), am_SH, out.2) := by
  intro a1 a2 μ out h
  unfold fM_rules at h
  refine am_Ex.seg 1 1 [.ref 108, .int a1, .int a2] [.int a1] μ (fun _ => rfl) ?_
  obtain ⟨q1, h_q1, h⟩ := am_bind h
  refine am_Ex.isk (na := 1) rfl (As := [.int a1]) rfl rfl rfl rfl rfl rfl (e_fM_isSchool (d + 0) h_q1) ?_
  refine am_Ex.same 4 [.ref 108, .int a1, .int a2] [.int q1.1] q1.2 rfl ?_
  rcases am_ite h with ⟨q2, h⟩ | ⟨q2, h⟩
  · refine am_Ex.if_eq_t rfl q2 ?_
    refine am_Ex.seg 1 29 [.ref 108, .int a1, .int a2] [.int (-1)] q1.2 (fun _ => rfl) ?_
    cases h
    exact am_Ex.iret rfl rfl
  · refine am_Ex.if_eq_f rfl q2 ?_
    refine am_Ex.seg 6 15 [.ref 108, .int a1, .int a2] [.int a2, .int ((2 : Int32) * a1), .ref 114] q1.2 (fun _ => rfl) ?_
    rcases am_ite h with ⟨q3, h⟩ | ⟨q3, h⟩
    · refine am_Ex.if_eq_t rfl q3 ?_
      refine am_Ex.seg 1 23 [.ref 108, .int a1, .int a2] [.int 0, .int ((2 : Int32) * a1), .ref 114] q1.2 (fun _ => rfl) ?_
      exact e_fM_rules_23 d h
    · refine am_Ex.if_eq_f rfl q3 ?_
      refine am_Ex.seg 1 19 [.ref 108, .int a1, .int a2] [.int 1, .int ((2 : Int32) * a1), .ref 114] q1.2 (fun _ => rfl) ?_
      refine am_Ex.goto rfl ?_
      exact e_fM_rules_23 d h
def fM_push_3 : Nat → Int32 → Int32 → am_Mu → Option (am_Mu)
  | 0, _, _, _ => none
  | n + 1, a1, a2, μ => (if a2 < 0 then some μ else (bif am_inb (μ 108 1) 240 then (fM_push_3 n) a1 (a2 + (-8)) (am_up (am_up μ 109 (((μ 108 1)).toNatClampNeg) ((((a1 >>> (a2 &&& 31))).toInt8.toInt32).toInt8.toInt32)) 108 1 ((μ 108 1) + 1)) else none))
def fM_push (a1 : Int32) (μ : am_Mu) : Option (am_Mu) := fM_push_3 am_F a1 24 μ
set_option maxRecDepth 20000 in
theorem e_fM_push_3 (d : Nat) : ∀ n : Nat, ∀ {a1 : Int32} {a2 : Int32} {μ : am_Mu} {out : am_Mu}, fM_push_3 n a1 a2 μ = some out → am_Ex none (d + 0) 177 3 [.ref 108, .int a1, .int a2] [] am_SH μ (none, am_SH, out) := by
  intro n
  induction n with
  | zero => intros; contradiction
  | succ n ih =>
    have hk3 : ∀ {a1 : Int32} {a2 : Int32} {μ : am_Mu} {out : am_Mu}, (fM_push_3 n) a1 a2 μ = some out → am_Ex none (d + 0) 177 3 [.ref 108, .int a1, .int a2] [] am_SH μ (none, am_SH, out) := ih
    intro a1 a2 μ out h
    unfold fM_push_3 at h
    refine am_Ex.seg 1 4 [.ref 108, .int a1, .int a2] [.int a2] μ (fun _ => rfl) ?_
    rcases am_ite h with ⟨q1, h⟩ | ⟨q1, h⟩
    · refine am_Ex.if_lt_t rfl q1 ?_
      cases h
      exact am_Ex.vret rfl rfl
    · refine am_Ex.if_lt_f rfl q1 ?_
      refine am_Ex.seg 8 19 [.ref 108, .int a1, .int a2] [.int (((a1 >>> (a2 &&& 31))).toInt8.toInt32), .int (μ 108 1), .ref 109] μ (fun _ => rfl) ?_
      obtain ⟨q2, h⟩ := am_bif h
      refine am_Ex.bast (v2 := (((a1 >>> (a2 &&& 31))).toInt8.toInt32).toInt8.toInt32) (i2 := ((μ 108 1)).toNatClampNeg) rfl rfl q2 rfl rfl ?_
      refine am_Ex.seg 7 33 [.ref 108, .int a1, .int (a2 + (-8))] [] (am_up (am_up μ 109 (((μ 108 1)).toNatClampNeg) ((((a1 >>> (a2 &&& 31))).toInt8.toInt32).toInt8.toInt32)) 108 1 ((μ 108 1) + 1)) (fun _ => rfl) ?_
      refine am_Ex.goto rfl ?_
      exact hk3 h
set_option maxRecDepth 20000 in
theorem e_fM_push (d : Nat) : ∀ {a1 : Int32} {μ : am_Mu} {out : am_Mu}, fM_push a1 μ = some out → am_Ex none (d + 0) 177 0 [.ref 108, .int a1, .null] [] am_SH μ (none, am_SH, out) := by
  intro a1 μ out h
  unfold fM_push at h
  refine am_Ex.seg 2 3 [.ref 108, .int a1, .int 24] [] μ (fun _ => rfl) ?_
  exact e_fM_push_3 d am_F h
def fM_feed (a1 : Int32) (a2 : Int32) (a3 : Int32) (a4 : Int32) (a5 : Int32) (μ : am_Mu) : Option (Int32 × am_Mu) := (if ((μ 108 1) + 20) ≤ 240 then ((fM_push a1 μ).bind fun q2 => ((fM_push a2 q2).bind fun q3 => ((fM_push a3 q3).bind fun q4 => ((fM_push a4 q4).bind fun q5 => ((fM_push a5 q5).bind fun q6 => some ((q6 108 1), q6)))))) else some ((-1), μ))
set_option maxRecDepth 20000 in
theorem e_fM_feed (d : Nat) : ∀ {a1 : Int32} {a2 : Int32} {a3 : Int32} {a4 : Int32} {a5 : Int32} {μ : am_Mu} {out : Int32 × am_Mu}, fM_feed a1 a2 a3 a4 a5 μ = some out → am_Ex none (d + 1) 178 0 [.ref 108, .int a1, .int a2, .int a3, .int a4, .int a5] [] am_SH μ (some (.int out.1), am_SH, out.2) := by
  intro a1 a2 a3 a4 a5 μ out h
  unfold fM_feed at h
  refine am_Ex.seg 5 10 [.ref 108, .int a1, .int a2, .int a3, .int a4, .int a5] [.int 240, .int ((μ 108 1) + 20)] μ (fun _ => rfl) ?_
  rcases am_ite h with ⟨q1, h⟩ | ⟨q1, h⟩
  · refine am_Ex.icmp_le_t rfl q1 ?_
    refine am_Ex.seg 2 17 [.ref 108, .int a1, .int a2, .int a3, .int a4, .int a5] [.int a1, .ref 108] μ (fun _ => rfl) ?_
    obtain ⟨q2, h_q2, h⟩ := am_bind h
    refine am_Ex.ivk (na := 2) (b := 108) (As' := [.int a1]) rfl rfl rfl rfl rfl rfl rfl rfl rfl (e_fM_push (d + 0) h_q2) ?_
    refine am_Ex.same 20 [.ref 108, .int a1, .int a2, .int a3, .int a4, .int a5] [] q2 rfl ?_
    refine am_Ex.seg 2 22 [.ref 108, .int a1, .int a2, .int a3, .int a4, .int a5] [.int a2, .ref 108] q2 (fun _ => rfl) ?_
    obtain ⟨q3, h_q3, h⟩ := am_bind h
    refine am_Ex.ivk (na := 2) (b := 108) (As' := [.int a2]) rfl rfl rfl rfl rfl rfl rfl rfl rfl (e_fM_push (d + 0) h_q3) ?_
    refine am_Ex.same 25 [.ref 108, .int a1, .int a2, .int a3, .int a4, .int a5] [] q3 rfl ?_
    refine am_Ex.seg 2 27 [.ref 108, .int a1, .int a2, .int a3, .int a4, .int a5] [.int a3, .ref 108] q3 (fun _ => rfl) ?_
    obtain ⟨q4, h_q4, h⟩ := am_bind h
    refine am_Ex.ivk (na := 2) (b := 108) (As' := [.int a3]) rfl rfl rfl rfl rfl rfl rfl rfl rfl (e_fM_push (d + 0) h_q4) ?_
    refine am_Ex.same 30 [.ref 108, .int a1, .int a2, .int a3, .int a4, .int a5] [] q4 rfl ?_
    refine am_Ex.seg 2 33 [.ref 108, .int a1, .int a2, .int a3, .int a4, .int a5] [.int a4, .ref 108] q4 (fun _ => rfl) ?_
    obtain ⟨q5, h_q5, h⟩ := am_bind h
    refine am_Ex.ivk (na := 2) (b := 108) (As' := [.int a4]) rfl rfl rfl rfl rfl rfl rfl rfl rfl (e_fM_push (d + 0) h_q5) ?_
    refine am_Ex.same 36 [.ref 108, .int a1, .int a2, .int a3, .int a4, .int a5] [] q5 rfl ?_
    refine am_Ex.seg 2 39 [.ref 108, .int a1, .int a2, .int a3, .int a4, .int a5] [.int a5, .ref 108] q5 (fun _ => rfl) ?_
    obtain ⟨q6, h_q6, h⟩ := am_bind h
    refine am_Ex.ivk (na := 2) (b := 108) (As' := [.int a5]) rfl rfl rfl rfl rfl rfl rfl rfl rfl (e_fM_push (d + 0) h_q6) ?_
    refine am_Ex.same 42 [.ref 108, .int a1, .int a2, .int a3, .int a4, .int a5] [] q6 rfl ?_
    refine am_Ex.seg 2 46 [.ref 108, .int a1, .int a2, .int a3, .int a4, .int a5] [.int (q6 108 1)] q6 (fun _ => rfl) ?_
    cases h
    exact am_Ex.iret rfl rfl
  · refine am_Ex.icmp_le_f rfl q1 ?_
    refine am_Ex.seg 1 14 [.ref 108, .int a1, .int a2, .int a3, .int a4, .int a5] [.int (-1)] μ (fun _ => rfl) ?_
    cases h
    exact am_Ex.iret rfl rfl
def fM_thing (a1 : Int32) (μ : am_Mu) : Option (Int32 × am_Mu) := (if (μ 108 4) = 20 then some ((-1), μ) else ((fM_lies a1 0 255 μ).bind fun q2 => (if ¬ q2.1 = 0 then (bif am_inb (q2.2 108 4) 20 then some ((((q2.2 108 4) + 1) - 1), (am_up (am_up q2.2 113 (((q2.2 108 4)).toNatClampNeg) a1) 108 4 ((q2.2 108 4) + 1))) else none) else some ((-1), q2.2))))
set_option maxRecDepth 20000 in
theorem e_fM_thing (d : Nat) : ∀ {a1 : Int32} {μ : am_Mu} {out : Int32 × am_Mu}, fM_thing a1 μ = some out → am_Ex none (d + 1) 179 0 [.ref 108, .int a1] [] am_SH μ (some (.int out.1), am_SH, out.2) := by
  intro a1 μ out h
  unfold fM_thing at h
  refine am_Ex.seg 3 6 [.ref 108, .int a1] [.int 20, .int (μ 108 4)] μ (fun _ => rfl) ?_
  rcases am_ite h with ⟨q1, h⟩ | ⟨q1, h⟩
  · refine am_Ex.icmp_eq_t rfl q1 ?_
    refine am_Ex.seg 1 21 [.ref 108, .int a1] [.int (-1)] μ (fun _ => rfl) ?_
    cases h
    exact am_Ex.iret rfl rfl
  · refine am_Ex.icmp_eq_f rfl q1 ?_
    refine am_Ex.seg 3 14 [.ref 108, .int a1] [.int 255, .int 0, .int a1] μ (fun _ => rfl) ?_
    obtain ⟨q2, h_q2, h⟩ := am_bind h
    refine am_Ex.isk (na := 3) rfl (As := [.int a1, .int 0, .int 255]) rfl rfl rfl rfl rfl rfl (e_fM_lies (d + 0) h_q2) ?_
    refine am_Ex.same 17 [.ref 108, .int a1] [.int q2.1] q2.2 rfl ?_
    rcases am_ite h with ⟨q3, h⟩ | ⟨q3, h⟩
    · refine am_Ex.if_ne_t rfl q3 ?_
      refine am_Ex.seg 5 31 [.ref 108, .int a1] [.int a1, .int (q2.2 108 4), .ref 113] q2.2 (fun _ => rfl) ?_
      obtain ⟨q4, h⟩ := am_bif h
      refine am_Ex.iast (v2 := a1) (i2 := ((q2.2 108 4)).toNatClampNeg) rfl rfl q4 rfl rfl ?_
      refine am_Ex.seg 10 48 [.ref 108, .int a1] [.int (((q2.2 108 4) + 1) - 1)] (am_up (am_up q2.2 113 (((q2.2 108 4)).toNatClampNeg) a1) 108 4 ((q2.2 108 4) + 1)) (fun _ => rfl) ?_
      cases h
      exact am_Ex.iret rfl rfl
    · refine am_Ex.if_ne_f rfl (Decidable.not_not.mp q3) ?_
      refine am_Ex.seg 1 21 [.ref 108, .int a1] [.int (-1)] q2.2 (fun _ => rfl) ?_
      cases h
      exact am_Ex.iret rfl rfl
def fM_minuteOf (a1 : Int32) (μ : am_Mu) : Option (Int32 × am_Mu) := (if 1000 ≤ a1 then (bif am_inb (a1 - 1000) 10 then some ((μ 141 (((a1 - 1000)).toNatClampNeg)), μ) else none) else (bif am_inb a1 200 then some ((μ 135 ((a1).toNatClampNeg)), μ) else none))
set_option maxRecDepth 20000 in
theorem e_fM_minuteOf (d : Nat) : ∀ {a1 : Int32} {μ : am_Mu} {out : Int32 × am_Mu}, fM_minuteOf a1 μ = some out → am_Ex none (d + 0) 180 0 [.ref 108, .int a1] [] am_SH μ (some (.int out.1), am_SH, out.2) := by
  intro a1 μ out h
  unfold fM_minuteOf at h
  refine am_Ex.seg 2 4 [.ref 108, .int a1] [.int 1000, .int a1] μ (fun _ => rfl) ?_
  rcases am_ite h with ⟨q1, h⟩ | ⟨q1, h⟩
  · refine am_Ex.icmp_ge_t rfl q1 ?_
    refine am_Ex.seg 5 25 [.ref 108, .int a1] [.int (a1 - 1000), .ref 141] μ (fun _ => rfl) ?_
    obtain ⟨q2, h⟩ := am_bif h
    refine am_Ex.iald (v := (μ 141 (((a1 - 1000)).toNatClampNeg))) rfl rfl q2 rfl ?_
    cases h
    exact am_Ex.iret rfl rfl
  · refine am_Ex.icmp_ge_f rfl q1 ?_
    refine am_Ex.seg 3 12 [.ref 108, .int a1] [.int a1, .ref 135] μ (fun _ => rfl) ?_
    obtain ⟨q3, h⟩ := am_bif h
    refine am_Ex.iald (v := (μ 135 ((a1).toNatClampNeg))) rfl rfl q3 rfl ?_
    refine am_Ex.goto rfl ?_
    cases h
    exact am_Ex.iret rfl rfl
def fM_isAhead_56 (a1 : Int32) (a2 : Int32) (s0 : Int32) (s1 : Int32) (μ : am_Mu) : Option (Int32 × am_Mu) := (if s0 = s1 then (if a2 ≤ a1 then some (0, μ) else some (1, μ)) else (if a1 < 1000 then some (0, μ) else some (1, μ)))
def fM_isAhead_44 (a1 : Int32) (a2 : Int32) (s0 : Int32) (μ : am_Mu) : Option (Int32 × am_Mu) := (if a2 < 1000 then fM_isAhead_56 a1 a2 s0 0 μ else fM_isAhead_56 a1 a2 s0 1 μ)
def fM_isAhead (a1 : Int32) (a2 : Int32) (μ : am_Mu) : Option (Int32 × am_Mu) := ((fM_minuteOf a1 μ).bind fun q1 => ((fM_minuteOf a2 q1.2).bind fun q2 => (if q1.1 = q2.1 then (if a1 < 1000 then fM_isAhead_44 a1 a2 0 q2.2 else fM_isAhead_44 a1 a2 1 q2.2) else ((fM_minuteOf a1 q2.2).bind fun q5 => ((fM_minuteOf a2 q5.2).bind fun q6 => (if q6.1 ≤ q5.1 then some (0, q6.2) else some (1, q6.2)))))))
set_option maxRecDepth 20000 in
theorem e_fM_isAhead_56 (d : Nat) : ∀ {a1 : Int32} {a2 : Int32} {s0 : Int32} {s1 : Int32} {w0 : Value} {μ : am_Mu} {out : Int32 × am_Mu}, fM_isAhead_56 a1 a2 s0 s1 μ = some out → am_Ex none (d + 1) 181 56 [w0, .int a1, .int a2] [.int s1, .int s0] am_SH μ (some (.int out.1), am_SH, out.2) := by
  intro a1 a2 s0 s1 w0 μ out h
  unfold fM_isAhead_56 at h
  rcases am_ite h with ⟨q1, h⟩ | ⟨q1, h⟩
  · refine am_Ex.icmp_eq_t rfl q1 ?_
    refine am_Ex.seg 2 74 [w0, .int a1, .int a2] [.int a2, .int a1] μ (fun _ => rfl) ?_
    rcases am_ite h with ⟨q2, h⟩ | ⟨q2, h⟩
    · refine am_Ex.icmp_ge_t rfl q2 ?_
      refine am_Ex.seg 1 82 [w0, .int a1, .int a2] [.int 0] μ (fun _ => rfl) ?_
      cases h
      exact am_Ex.zret rfl rfl (by decide)
    · refine am_Ex.icmp_ge_f rfl q2 ?_
      refine am_Ex.seg 1 78 [w0, .int a1, .int a2] [.int 1] μ (fun _ => rfl) ?_
      refine am_Ex.goto rfl ?_
      cases h
      exact am_Ex.zret rfl rfl (by decide)
  · refine am_Ex.icmp_eq_f rfl q1 ?_
    refine am_Ex.seg 2 63 [w0, .int a1, .int a2] [.int 1000, .int a1] μ (fun _ => rfl) ?_
    rcases am_ite h with ⟨q3, h⟩ | ⟨q3, h⟩
    · refine am_Ex.icmp_lt_t rfl q3 ?_
      refine am_Ex.seg 1 71 [w0, .int a1, .int a2] [.int 0] μ (fun _ => rfl) ?_
      cases h
      exact am_Ex.zret rfl rfl (by decide)
    · refine am_Ex.icmp_lt_f rfl q3 ?_
      refine am_Ex.seg 1 67 [w0, .int a1, .int a2] [.int 1] μ (fun _ => rfl) ?_
      refine am_Ex.goto rfl ?_
      cases h
      exact am_Ex.zret rfl rfl (by decide)
set_option maxRecDepth 20000 in
theorem e_fM_isAhead_44 (d : Nat) : ∀ {a1 : Int32} {a2 : Int32} {s0 : Int32} {w0 : Value} {μ : am_Mu} {out : Int32 × am_Mu}, fM_isAhead_44 a1 a2 s0 μ = some out → am_Ex none (d + 1) 181 44 [w0, .int a1, .int a2] [.int s0] am_SH μ (some (.int out.1), am_SH, out.2) := by
  intro a1 a2 s0 w0 μ out h
  unfold fM_isAhead_44 at h
  refine am_Ex.seg 2 48 [w0, .int a1, .int a2] [.int 1000, .int a2, .int s0] μ (fun _ => rfl) ?_
  rcases am_ite h with ⟨q1, h⟩ | ⟨q1, h⟩
  · refine am_Ex.icmp_lt_t rfl q1 ?_
    refine am_Ex.seg 1 56 [w0, .int a1, .int a2] [.int 0, .int s0] μ (fun _ => rfl) ?_
    exact e_fM_isAhead_56 d h
  · refine am_Ex.icmp_lt_f rfl q1 ?_
    refine am_Ex.seg 1 52 [w0, .int a1, .int a2] [.int 1, .int s0] μ (fun _ => rfl) ?_
    refine am_Ex.goto rfl ?_
    exact e_fM_isAhead_56 d h
set_option maxRecDepth 20000 in
theorem e_fM_isAhead (d : Nat) : ∀ {a1 : Int32} {a2 : Int32} {μ : am_Mu} {out : Int32 × am_Mu}, fM_isAhead a1 a2 μ = some out → am_Ex none (d + 1) 181 0 [.ref 108, .int a1, .int a2] [] am_SH μ (some (.int out.1), am_SH, out.2) := by
  intro a1 a2 μ out h
  unfold fM_isAhead at h
  refine am_Ex.seg 2 2 [.ref 108, .int a1, .int a2] [.int a1, .ref 108] μ (fun _ => rfl) ?_
  obtain ⟨q1, h_q1, h⟩ := am_bind h
  refine am_Ex.ivk (na := 2) (b := 108) (As' := [.int a1]) rfl rfl rfl rfl rfl rfl rfl rfl rfl (e_fM_minuteOf (d + 0) h_q1) ?_
  refine am_Ex.same 5 [.ref 108, .int a1, .int a2] [.int q1.1] q1.2 rfl ?_
  refine am_Ex.seg 2 7 [.ref 108, .int a1, .int a2] [.int a2, .ref 108, .int q1.1] q1.2 (fun _ => rfl) ?_
  obtain ⟨q2, h_q2, h⟩ := am_bind h
  refine am_Ex.ivk (na := 2) (b := 108) (As' := [.int a2]) rfl rfl rfl rfl rfl rfl rfl rfl rfl (e_fM_minuteOf (d + 0) h_q2) ?_
  refine am_Ex.same 10 [.ref 108, .int a1, .int a2] [.int q2.1, .int q1.1] q2.2 rfl ?_
  rcases am_ite h with ⟨q3, h⟩ | ⟨q3, h⟩
  · refine am_Ex.icmp_eq_t rfl q3 ?_
    refine am_Ex.seg 2 36 [.ref 108, .int a1, .int a2] [.int 1000, .int a1] q2.2 (fun _ => rfl) ?_
    rcases am_ite h with ⟨q4, h⟩ | ⟨q4, h⟩
    · refine am_Ex.icmp_lt_t rfl q4 ?_
      refine am_Ex.seg 1 44 [.ref 108, .int a1, .int a2] [.int 0] q2.2 (fun _ => rfl) ?_
      exact e_fM_isAhead_44 d h
    · refine am_Ex.icmp_lt_f rfl q4 ?_
      refine am_Ex.seg 1 40 [.ref 108, .int a1, .int a2] [.int 1] q2.2 (fun _ => rfl) ?_
      refine am_Ex.goto rfl ?_
      exact e_fM_isAhead_44 d h
  · refine am_Ex.icmp_eq_f rfl q3 ?_
    refine am_Ex.seg 2 15 [.ref 108, .int a1, .int a2] [.int a1, .ref 108] q2.2 (fun _ => rfl) ?_
    obtain ⟨q5, h_q5, h⟩ := am_bind h
    refine am_Ex.ivk (na := 2) (b := 108) (As' := [.int a1]) rfl rfl rfl rfl rfl rfl rfl rfl rfl (e_fM_minuteOf (d + 0) h_q5) ?_
    refine am_Ex.same 18 [.ref 108, .int a1, .int a2] [.int q5.1] q5.2 rfl ?_
    refine am_Ex.seg 2 20 [.ref 108, .int a1, .int a2] [.int a2, .ref 108, .int q5.1] q5.2 (fun _ => rfl) ?_
    obtain ⟨q6, h_q6, h⟩ := am_bind h
    refine am_Ex.ivk (na := 2) (b := 108) (As' := [.int a2]) rfl rfl rfl rfl rfl rfl rfl rfl rfl (e_fM_minuteOf (d + 0) h_q6) ?_
    refine am_Ex.same 23 [.ref 108, .int a1, .int a2] [.int q6.1, .int q5.1] q6.2 rfl ?_
    rcases am_ite h with ⟨q7, h⟩ | ⟨q7, h⟩
    · refine am_Ex.icmp_ge_t rfl q7 ?_
      refine am_Ex.seg 1 31 [.ref 108, .int a1, .int a2] [.int 0] q6.2 (fun _ => rfl) ?_
      cases h
      exact am_Ex.zret rfl rfl (by decide)
    · refine am_Ex.icmp_ge_f rfl q7 ?_
      refine am_Ex.seg 1 27 [.ref 108, .int a1, .int a2] [.int 1] q6.2 (fun _ => rfl) ?_
      refine am_Ex.goto rfl ?_
      cases h
      exact am_Ex.zret rfl rfl (by decide)
def fM_comes_45 (a1 : Int32) (a2 : Int32) (μ : am_Mu) : Option (am_Mu) := (bif am_inb a2 210 then some (am_up (am_up μ 143 ((a2).toNatClampNeg) a1) 108 55 ((μ 108 55) + 1)) else none)
def fM_comes_5 : Nat → Int32 → Int32 → am_Mu → Option (am_Mu)
  | 0, _, _, _ => none
  | n + 1, a1, a2, μ => (if a2 ≤ 0 then fM_comes_45 a1 a2 μ else (bif am_inb (a2 - 1) 210 then ((fM_isAhead a1 (μ 143 (((a2 - 1)).toNatClampNeg)) μ).bind fun q3 => (if q3.1 = 0 then fM_comes_45 a1 a2 q3.2 else (bif am_inb a2 210 then (fM_comes_5 n) a1 (a2 + (-1)) (am_up q3.2 143 ((a2).toNatClampNeg) (q3.2 143 (((a2 - 1)).toNatClampNeg))) else none))) else none))
def fM_comes (a1 : Int32) (μ : am_Mu) : Option (am_Mu) := fM_comes_5 am_F a1 (μ 108 55) μ
set_option maxRecDepth 20000 in
theorem e_fM_comes_45 (d : Nat) : ∀ {a1 : Int32} {a2 : Int32} {μ : am_Mu} {out : am_Mu}, fM_comes_45 a1 a2 μ = some out → am_Ex none (d + 2) 182 45 [.ref 108, .int a1, .int a2] [] am_SH μ (none, am_SH, out) := by
  intro a1 a2 μ out h
  unfold fM_comes_45 at h
  refine am_Ex.seg 4 51 [.ref 108, .int a1, .int a2] [.int a1, .int a2, .ref 143] μ (fun _ => rfl) ?_
  obtain ⟨q1, h⟩ := am_bif h
  refine am_Ex.iast (v2 := a1) (i2 := (a2).toNatClampNeg) rfl rfl q1 rfl rfl ?_
  refine am_Ex.seg 6 62 [.ref 108, .int a1, .int a2] [] (am_up (am_up μ 143 ((a2).toNatClampNeg) a1) 108 55 ((μ 108 55) + 1)) (fun _ => rfl) ?_
  cases h
  exact am_Ex.vret rfl rfl
set_option maxRecDepth 20000 in
theorem e_fM_comes_5 (d : Nat) : ∀ n : Nat, ∀ {a1 : Int32} {a2 : Int32} {μ : am_Mu} {out : am_Mu}, fM_comes_5 n a1 a2 μ = some out → am_Ex none (d + 2) 182 5 [.ref 108, .int a1, .int a2] [] am_SH μ (none, am_SH, out) := by
  intro n
  induction n with
  | zero => intros; contradiction
  | succ n ih =>
    have hk5 : ∀ {a1 : Int32} {a2 : Int32} {μ : am_Mu} {out : am_Mu}, (fM_comes_5 n) a1 a2 μ = some out → am_Ex none (d + 2) 182 5 [.ref 108, .int a1, .int a2] [] am_SH μ (none, am_SH, out) := ih
    intro a1 a2 μ out h
    unfold fM_comes_5 at h
    refine am_Ex.seg 1 6 [.ref 108, .int a1, .int a2] [.int a2] μ (fun _ => rfl) ?_
    rcases am_ite h with ⟨q1, h⟩ | ⟨q1, h⟩
    · refine am_Ex.if_le_t rfl q1 ?_
      exact e_fM_comes_45 d h
    · refine am_Ex.if_le_f rfl q1 ?_
      refine am_Ex.seg 7 18 [.ref 108, .int a1, .int a2] [.int (a2 - 1), .ref 143, .int a1, .ref 108] μ (fun _ => rfl) ?_
      obtain ⟨q2, h⟩ := am_bif h
      refine am_Ex.iald (v := (μ 143 (((a2 - 1)).toNatClampNeg))) rfl rfl q2 rfl ?_
      obtain ⟨q3, h_q3, h⟩ := am_bind h
      refine am_Ex.ivk (na := 3) (b := 108) (As' := [.int a1, .int (μ 143 (((a2 - 1)).toNatClampNeg))]) rfl rfl rfl rfl rfl rfl rfl rfl rfl (e_fM_isAhead (d + 0) h_q3) ?_
      refine am_Ex.same 22 [.ref 108, .int a1, .int a2] [.int q3.1] q3.2 rfl ?_
      rcases am_ite h with ⟨q4, h⟩ | ⟨q4, h⟩
      · refine am_Ex.if_eq_t rfl q4 ?_
        exact e_fM_comes_45 d h
      · refine am_Ex.if_eq_f rfl q4 ?_
        refine am_Ex.seg 8 37 [.ref 108, .int a1, .int a2] [.int (a2 - 1), .ref 143, .int a2, .ref 143] q3.2 (fun _ => rfl) ?_
        refine am_Ex.iald (v := (q3.2 143 (((a2 - 1)).toNatClampNeg))) rfl rfl q2 rfl ?_
        obtain ⟨q5, h⟩ := am_bif h
        refine am_Ex.iast (v2 := (q3.2 143 (((a2 - 1)).toNatClampNeg))) (i2 := (a2).toNatClampNeg) rfl rfl q5 rfl rfl ?_
        refine am_Ex.seg 1 42 [.ref 108, .int a1, .int (a2 + (-1))] [] (am_up q3.2 143 ((a2).toNatClampNeg) (q3.2 143 (((a2 - 1)).toNatClampNeg))) (fun _ => rfl) ?_
        refine am_Ex.goto rfl ?_
        exact hk5 h
set_option maxRecDepth 20000 in
theorem e_fM_comes (d : Nat) : ∀ {a1 : Int32} {μ : am_Mu} {out : am_Mu}, fM_comes a1 μ = some out → am_Ex none (d + 2) 182 0 [.ref 108, .int a1, .null] [] am_SH μ (none, am_SH, out) := by
  intro a1 μ out h
  unfold fM_comes at h
  refine am_Ex.seg 3 5 [.ref 108, .int a1, .int (μ 108 55)] [] μ (fun _ => rfl) ?_
  exact e_fM_comes_5 d am_F h
def fM_act_70 (a1 : Int32) (a2 : Int32) (a3 : Int32) (a4 : Int32) (a5 : Int32) (μ : am_Mu) : Option (Int32 × am_Mu) := (bif am_inb (μ 108 5) 200 then ((fM_comes (((μ 108 5) + 1) - 1) (am_up (am_up (am_up (am_up (am_up (am_up (am_up (am_up μ 132 (((μ 108 5)).toNatClampNeg) a1) 133 (((μ 108 5)).toNatClampNeg) a2) 134 (((μ 108 5)).toNatClampNeg) a3) 135 (((μ 108 5)).toNatClampNeg) a4) 136 (((μ 108 5)).toNatClampNeg) (a5 &&& 1)) 137 (((μ 108 5)).toNatClampNeg) (μ 108 2)) 138 (((μ 108 5)).toNatClampNeg) (-1)) 108 5 ((μ 108 5) + 1))).bind fun q2 => some (((q2 108 5) - 1), q2)) else none)
def fM_act (a1 : Int32) (a2 : Int32) (a3 : Int32) (a4 : Int32) (a5 : Int32) (μ : am_Mu) : Option (Int32 × am_Mu) := (if (μ 108 5) = 200 then some ((-1), μ) else ((fM_lies a1 0 3 μ).bind fun q2 => (if q2.1 = 0 then some ((-1), q2.2) else ((fM_isThing a2 q2.2).bind fun q4 => (if q4.1 = 0 then some ((-1), q4.2) else ((fM_lies a4 0 (q4.2 108 2) q4.2).bind fun q6 => (if ¬ q6.1 = 0 then (if 2 ≤ a1 then (if a3 = (-1) then fM_act_70 a1 a2 a3 a4 a5 q6.2 else some ((-1), q6.2)) else ((fM_isThing a3 q6.2).bind fun q10 => (if q10.1 = 0 then some ((-1), q10.2) else (if ¬ a2 = a3 then fM_act_70 a1 a2 a3 a4 a5 q10.2 else some ((-1), q10.2))))) else some ((-1), q6.2))))))))
set_option maxRecDepth 20000 in
theorem e_fM_act_70 (d : Nat) : ∀ {a1 : Int32} {a2 : Int32} {a3 : Int32} {a4 : Int32} {a5 : Int32} {μ : am_Mu} {out : Int32 × am_Mu}, fM_act_70 a1 a2 a3 a4 a5 μ = some out → am_Ex none (d + 3) 183 70 [.ref 108, .int a1, .int a2, .int a3, .int a4, .int a5] [] am_SH μ (some (.int out.1), am_SH, out.2) := by
  intro a1 a2 a3 a4 a5 μ out h
  unfold fM_act_70 at h
  refine am_Ex.seg 5 79 [.ref 108, .int a1, .int a2, .int a3, .int a4, .int a5] [.int a1, .int (μ 108 5), .ref 132] μ (fun _ => rfl) ?_
  obtain ⟨q1, h⟩ := am_bif h
  refine am_Ex.iast (v2 := a1) (i2 := ((μ 108 5)).toNatClampNeg) rfl rfl q1 rfl rfl ?_
  refine am_Ex.seg 5 89 [.ref 108, .int a1, .int a2, .int a3, .int a4, .int a5] [.int a2, .int (μ 108 5), .ref 133] (am_up μ 132 (((μ 108 5)).toNatClampNeg) a1) (fun _ => rfl) ?_
  refine am_Ex.iast (v2 := a2) (i2 := ((μ 108 5)).toNatClampNeg) rfl rfl q1 rfl rfl ?_
  refine am_Ex.seg 5 99 [.ref 108, .int a1, .int a2, .int a3, .int a4, .int a5] [.int a3, .int (μ 108 5), .ref 134] (am_up (am_up μ 132 (((μ 108 5)).toNatClampNeg) a1) 133 (((μ 108 5)).toNatClampNeg) a2) (fun _ => rfl) ?_
  refine am_Ex.iast (v2 := a3) (i2 := ((μ 108 5)).toNatClampNeg) rfl rfl q1 rfl rfl ?_
  refine am_Ex.seg 5 110 [.ref 108, .int a1, .int a2, .int a3, .int a4, .int a5] [.int a4, .int (μ 108 5), .ref 135] (am_up (am_up (am_up μ 132 (((μ 108 5)).toNatClampNeg) a1) 133 (((μ 108 5)).toNatClampNeg) a2) 134 (((μ 108 5)).toNatClampNeg) a3) (fun _ => rfl) ?_
  refine am_Ex.iast (v2 := a4) (i2 := ((μ 108 5)).toNatClampNeg) rfl rfl q1 rfl rfl ?_
  refine am_Ex.seg 5 121 [.ref 108, .int a1, .int a2, .int a3, .int a4, .int a5] [.int a5, .int (μ 108 5), .ref 136] (am_up (am_up (am_up (am_up μ 132 (((μ 108 5)).toNatClampNeg) a1) 133 (((μ 108 5)).toNatClampNeg) a2) 134 (((μ 108 5)).toNatClampNeg) a3) 135 (((μ 108 5)).toNatClampNeg) a4) (fun _ => rfl) ?_
  refine am_Ex.zast (v2 := (a5 &&& 1)) (i2 := ((μ 108 5)).toNatClampNeg) rfl rfl q1 rfl rfl ?_
  refine am_Ex.seg 6 134 [.ref 108, .int a1, .int a2, .int a3, .int a4, .int a5] [.int (μ 108 2), .int (μ 108 5), .ref 137] (am_up (am_up (am_up (am_up (am_up μ 132 (((μ 108 5)).toNatClampNeg) a1) 133 (((μ 108 5)).toNatClampNeg) a2) 134 (((μ 108 5)).toNatClampNeg) a3) 135 (((μ 108 5)).toNatClampNeg) a4) 136 (((μ 108 5)).toNatClampNeg) (a5 &&& 1)) (fun _ => rfl) ?_
  refine am_Ex.iast (v2 := (μ 108 2)) (i2 := ((μ 108 5)).toNatClampNeg) rfl rfl q1 rfl rfl ?_
  refine am_Ex.seg 5 144 [.ref 108, .int a1, .int a2, .int a3, .int a4, .int a5] [.int (-1), .int (μ 108 5), .ref 138] (am_up (am_up (am_up (am_up (am_up (am_up μ 132 (((μ 108 5)).toNatClampNeg) a1) 133 (((μ 108 5)).toNatClampNeg) a2) 134 (((μ 108 5)).toNatClampNeg) a3) 135 (((μ 108 5)).toNatClampNeg) a4) 136 (((μ 108 5)).toNatClampNeg) (a5 &&& 1)) 137 (((μ 108 5)).toNatClampNeg) (μ 108 2)) (fun _ => rfl) ?_
  refine am_Ex.iast (v2 := (-1)) (i2 := ((μ 108 5)).toNatClampNeg) rfl rfl q1 rfl rfl ?_
  refine am_Ex.seg 11 162 [.ref 108, .int a1, .int a2, .int a3, .int a4, .int a5] [.int (((μ 108 5) + 1) - 1), .ref 108] (am_up (am_up (am_up (am_up (am_up (am_up (am_up (am_up μ 132 (((μ 108 5)).toNatClampNeg) a1) 133 (((μ 108 5)).toNatClampNeg) a2) 134 (((μ 108 5)).toNatClampNeg) a3) 135 (((μ 108 5)).toNatClampNeg) a4) 136 (((μ 108 5)).toNatClampNeg) (a5 &&& 1)) 137 (((μ 108 5)).toNatClampNeg) (μ 108 2)) 138 (((μ 108 5)).toNatClampNeg) (-1)) 108 5 ((μ 108 5) + 1)) (fun _ => rfl) ?_
  obtain ⟨q2, h_q2, h⟩ := am_bind h
  refine am_Ex.ivk (na := 2) (b := 108) (As' := [.int (((μ 108 5) + 1) - 1)]) rfl rfl rfl rfl rfl rfl rfl rfl rfl (e_fM_comes (d + 0) h_q2) ?_
  refine am_Ex.same 165 [.ref 108, .int a1, .int a2, .int a3, .int a4, .int a5] [] q2 rfl ?_
  refine am_Ex.seg 4 171 [.ref 108, .int a1, .int a2, .int a3, .int a4, .int a5] [.int ((q2 108 5) - 1)] q2 (fun _ => rfl) ?_
  cases h
  exact am_Ex.iret rfl rfl
set_option maxRecDepth 20000 in
theorem e_fM_act (d : Nat) : ∀ {a1 : Int32} {a2 : Int32} {a3 : Int32} {a4 : Int32} {a5 : Int32} {μ : am_Mu} {out : Int32 × am_Mu}, fM_act a1 a2 a3 a4 a5 μ = some out → am_Ex none (d + 3) 183 0 [.ref 108, .int a1, .int a2, .int a3, .int a4, .int a5] [] am_SH μ (some (.int out.1), am_SH, out.2) := by
  intro a1 a2 a3 a4 a5 μ out h
  unfold fM_act at h
  refine am_Ex.seg 3 7 [.ref 108, .int a1, .int a2, .int a3, .int a4, .int a5] [.int 200, .int (μ 108 5)] μ (fun _ => rfl) ?_
  rcases am_ite h with ⟨q1, h⟩ | ⟨q1, h⟩
  · refine am_Ex.icmp_eq_t rfl q1 ?_
    refine am_Ex.seg 1 41 [.ref 108, .int a1, .int a2, .int a3, .int a4, .int a5] [.int (-1)] μ (fun _ => rfl) ?_
    cases h
    exact am_Ex.iret rfl rfl
  · refine am_Ex.icmp_eq_f rfl q1 ?_
    refine am_Ex.seg 3 13 [.ref 108, .int a1, .int a2, .int a3, .int a4, .int a5] [.int 3, .int 0, .int a1] μ (fun _ => rfl) ?_
    obtain ⟨q2, h_q2, h⟩ := am_bind h
    refine am_Ex.isk (na := 3) rfl (As := [.int a1, .int 0, .int 3]) rfl rfl rfl rfl rfl rfl (e_fM_lies (d + 2) h_q2) ?_
    refine am_Ex.same 16 [.ref 108, .int a1, .int a2, .int a3, .int a4, .int a5] [.int q2.1] q2.2 rfl ?_
    rcases am_ite h with ⟨q3, h⟩ | ⟨q3, h⟩
    · refine am_Ex.if_eq_t rfl q3 ?_
      refine am_Ex.seg 1 41 [.ref 108, .int a1, .int a2, .int a3, .int a4, .int a5] [.int (-1)] q2.2 (fun _ => rfl) ?_
      cases h
      exact am_Ex.iret rfl rfl
    · refine am_Ex.if_eq_f rfl q3 ?_
      refine am_Ex.seg 2 21 [.ref 108, .int a1, .int a2, .int a3, .int a4, .int a5] [.int a2, .ref 108] q2.2 (fun _ => rfl) ?_
      obtain ⟨q4, h_q4, h⟩ := am_bind h
      refine am_Ex.ivk (na := 2) (b := 108) (As' := [.int a2]) rfl rfl rfl rfl rfl rfl rfl rfl rfl (e_fM_isThing (d + 1) h_q4) ?_
      refine am_Ex.same 24 [.ref 108, .int a1, .int a2, .int a3, .int a4, .int a5] [.int q4.1] q4.2 rfl ?_
      rcases am_ite h with ⟨q5, h⟩ | ⟨q5, h⟩
      · refine am_Ex.if_eq_t rfl q5 ?_
        refine am_Ex.seg 1 41 [.ref 108, .int a1, .int a2, .int a3, .int a4, .int a5] [.int (-1)] q4.2 (fun _ => rfl) ?_
        cases h
        exact am_Ex.iret rfl rfl
      · refine am_Ex.if_eq_f rfl q5 ?_
        refine am_Ex.seg 4 34 [.ref 108, .int a1, .int a2, .int a3, .int a4, .int a5] [.int (q4.2 108 2), .int 0, .int a4] q4.2 (fun _ => rfl) ?_
        obtain ⟨q6, h_q6, h⟩ := am_bind h
        refine am_Ex.isk (na := 3) rfl (As := [.int a4, .int 0, .int (q4.2 108 2)]) rfl rfl rfl rfl rfl rfl (e_fM_lies (d + 2) h_q6) ?_
        refine am_Ex.same 37 [.ref 108, .int a1, .int a2, .int a3, .int a4, .int a5] [.int q6.1] q6.2 rfl ?_
        rcases am_ite h with ⟨q7, h⟩ | ⟨q7, h⟩
        · refine am_Ex.if_ne_t rfl q7 ?_
          refine am_Ex.seg 2 44 [.ref 108, .int a1, .int a2, .int a3, .int a4, .int a5] [.int 2, .int a1] q6.2 (fun _ => rfl) ?_
          rcases am_ite h with ⟨q8, h⟩ | ⟨q8, h⟩
          · refine am_Ex.icmp_ge_t rfl q8 ?_
            refine am_Ex.seg 2 65 [.ref 108, .int a1, .int a2, .int a3, .int a4, .int a5] [.int (-1), .int a3] q6.2 (fun _ => rfl) ?_
            rcases am_ite h with ⟨q9, h⟩ | ⟨q9, h⟩
            · refine am_Ex.icmp_eq_t rfl q9 ?_
              exact e_fM_act_70 d h
            · refine am_Ex.icmp_eq_f rfl q9 ?_
              refine am_Ex.seg 1 69 [.ref 108, .int a1, .int a2, .int a3, .int a4, .int a5] [.int (-1)] q6.2 (fun _ => rfl) ?_
              cases h
              exact am_Ex.iret rfl rfl
          · refine am_Ex.icmp_ge_f rfl q8 ?_
            refine am_Ex.seg 2 49 [.ref 108, .int a1, .int a2, .int a3, .int a4, .int a5] [.int a3, .ref 108] q6.2 (fun _ => rfl) ?_
            obtain ⟨q10, h_q10, h⟩ := am_bind h
            refine am_Ex.ivk (na := 2) (b := 108) (As' := [.int a3]) rfl rfl rfl rfl rfl rfl rfl rfl rfl (e_fM_isThing (d + 1) h_q10) ?_
            refine am_Ex.same 52 [.ref 108, .int a1, .int a2, .int a3, .int a4, .int a5] [.int q10.1] q10.2 rfl ?_
            rcases am_ite h with ⟨q11, h⟩ | ⟨q11, h⟩
            · refine am_Ex.if_eq_t rfl q11 ?_
              refine am_Ex.seg 1 69 [.ref 108, .int a1, .int a2, .int a3, .int a4, .int a5] [.int (-1)] q10.2 (fun _ => rfl) ?_
              cases h
              exact am_Ex.iret rfl rfl
            · refine am_Ex.if_eq_f rfl q11 ?_
              refine am_Ex.seg 2 57 [.ref 108, .int a1, .int a2, .int a3, .int a4, .int a5] [.int a3, .int a2] q10.2 (fun _ => rfl) ?_
              rcases am_ite h with ⟨q12, h⟩ | ⟨q12, h⟩
              · refine am_Ex.icmp_ne_t rfl q12 ?_
                exact e_fM_act_70 d h
              · refine am_Ex.icmp_ne_f rfl (Decidable.not_not.mp q12) ?_
                refine am_Ex.goto rfl ?_
                refine am_Ex.seg 1 69 [.ref 108, .int a1, .int a2, .int a3, .int a4, .int a5] [.int (-1)] q10.2 (fun _ => rfl) ?_
                cases h
                exact am_Ex.iret rfl rfl
        · refine am_Ex.if_ne_f rfl (Decidable.not_not.mp q7) ?_
          refine am_Ex.seg 1 41 [.ref 108, .int a1, .int a2, .int a3, .int a4, .int a5] [.int (-1)] q6.2 (fun _ => rfl) ?_
          cases h
          exact am_Ex.iret rfl rfl
def fM_strike (a1 : Int32) (μ : am_Mu) : Option (Int32 × am_Mu) := ((fM_lies a1 0 ((μ 108 5) - 1) μ).bind fun q1 => (if q1.1 = 0 then some (0, q1.2) else (bif am_inb a1 200 then (if (q1.2 138 ((a1).toNatClampNeg)) = (-1) then some (1, (am_up q1.2 138 ((a1).toNatClampNeg) (q1.2 108 2))) else some (0, q1.2)) else none)))
set_option maxRecDepth 20000 in
theorem e_fM_strike (d : Nat) : ∀ {a1 : Int32} {μ : am_Mu} {out : Int32 × am_Mu}, fM_strike a1 μ = some out → am_Ex none (d + 1) 184 0 [.ref 108, .int a1] [] am_SH μ (some (.int out.1), am_SH, out.2) := by
  intro a1 μ out h
  unfold fM_strike at h
  refine am_Ex.seg 6 8 [.ref 108, .int a1] [.int ((μ 108 5) - 1), .int 0, .int a1] μ (fun _ => rfl) ?_
  obtain ⟨q1, h_q1, h⟩ := am_bind h
  refine am_Ex.isk (na := 3) rfl (As := [.int a1, .int 0, .int ((μ 108 5) - 1)]) rfl rfl rfl rfl rfl rfl (e_fM_lies (d + 0) h_q1) ?_
  refine am_Ex.same 11 [.ref 108, .int a1] [.int q1.1] q1.2 rfl ?_
  rcases am_ite h with ⟨q2, h⟩ | ⟨q2, h⟩
  · refine am_Ex.if_eq_t rfl q2 ?_
    refine am_Ex.seg 1 25 [.ref 108, .int a1] [.int 0] q1.2 (fun _ => rfl) ?_
    cases h
    exact am_Ex.zret rfl rfl (by decide)
  · refine am_Ex.if_eq_f rfl q2 ?_
    refine am_Ex.seg 3 19 [.ref 108, .int a1] [.int a1, .ref 138] q1.2 (fun _ => rfl) ?_
    obtain ⟨q3, h⟩ := am_bif h
    refine am_Ex.iald (v := (q1.2 138 ((a1).toNatClampNeg))) rfl rfl q3 rfl ?_
    refine am_Ex.seg 1 21 [.ref 108, .int a1] [.int (-1), .int (q1.2 138 ((a1).toNatClampNeg))] q1.2 (fun _ => rfl) ?_
    rcases am_ite h with ⟨q4, h⟩ | ⟨q4, h⟩
    · refine am_Ex.icmp_eq_t rfl q4 ?_
      refine am_Ex.seg 5 35 [.ref 108, .int a1] [.int (q1.2 108 2), .int a1, .ref 138] q1.2 (fun _ => rfl) ?_
      refine am_Ex.iast (v2 := (q1.2 108 2)) (i2 := (a1).toNatClampNeg) rfl rfl q3 rfl rfl ?_
      refine am_Ex.seg 1 37 [.ref 108, .int a1] [.int 1] (am_up q1.2 138 ((a1).toNatClampNeg) (q1.2 108 2)) (fun _ => rfl) ?_
      cases h
      exact am_Ex.zret rfl rfl (by decide)
    · refine am_Ex.icmp_eq_f rfl q4 ?_
      refine am_Ex.seg 1 25 [.ref 108, .int a1] [.int 0] q1.2 (fun _ => rfl) ?_
      cases h
      exact am_Ex.zret rfl rfl (by decide)
def fM_mistake (a1 : Int32) (a2 : Int32) (a3 : Int32) (μ : am_Mu) : Option (Int32 × am_Mu) := (if (μ 108 6) = 10 then some ((-1), μ) else ((fM_isThing a1 μ).bind fun q2 => (if q2.1 = 0 then some ((-1), q2.2) else ((fM_isMark a2 q2.2).bind fun q4 => (if q4.1 = 0 then some ((-1), q4.2) else ((fM_lies a3 0 (q4.2 108 2) q4.2).bind fun q6 => (if ¬ q6.1 = 0 then (bif am_inb (q6.2 108 6) 10 then ((fM_comes (((1000 : Int32) + ((q6.2 108 6) + 1)) - 1) (am_up (am_up (am_up (am_up (am_up q6.2 139 (((q6.2 108 6)).toNatClampNeg) a1) 140 (((q6.2 108 6)).toNatClampNeg) a2) 141 (((q6.2 108 6)).toNatClampNeg) a3) 142 (((q6.2 108 6)).toNatClampNeg) (q6.2 108 2)) 108 6 ((q6.2 108 6) + 1))).bind fun q9 => some (((q9 108 6) - 1), q9)) else none) else some ((-1), q6.2))))))))
set_option maxRecDepth 20000 in
theorem e_fM_mistake (d : Nat) : ∀ {a1 : Int32} {a2 : Int32} {a3 : Int32} {μ : am_Mu} {out : Int32 × am_Mu}, fM_mistake a1 a2 a3 μ = some out → am_Ex none (d + 3) 185 0 [.ref 108, .int a1, .int a2, .int a3] [] am_SH μ (some (.int out.1), am_SH, out.2) := by
  intro a1 a2 a3 μ out h
  unfold fM_mistake at h
  refine am_Ex.seg 3 6 [.ref 108, .int a1, .int a2, .int a3] [.int 10, .int (μ 108 6)] μ (fun _ => rfl) ?_
  rcases am_ite h with ⟨q1, h⟩ | ⟨q1, h⟩
  · refine am_Ex.icmp_eq_t rfl q1 ?_
    refine am_Ex.seg 1 37 [.ref 108, .int a1, .int a2, .int a3] [.int (-1)] μ (fun _ => rfl) ?_
    cases h
    exact am_Ex.iret rfl rfl
  · refine am_Ex.icmp_eq_f rfl q1 ?_
    refine am_Ex.seg 2 11 [.ref 108, .int a1, .int a2, .int a3] [.int a1, .ref 108] μ (fun _ => rfl) ?_
    obtain ⟨q2, h_q2, h⟩ := am_bind h
    refine am_Ex.ivk (na := 2) (b := 108) (As' := [.int a1]) rfl rfl rfl rfl rfl rfl rfl rfl rfl (e_fM_isThing (d + 1) h_q2) ?_
    refine am_Ex.same 14 [.ref 108, .int a1, .int a2, .int a3] [.int q2.1] q2.2 rfl ?_
    rcases am_ite h with ⟨q3, h⟩ | ⟨q3, h⟩
    · refine am_Ex.if_eq_t rfl q3 ?_
      refine am_Ex.seg 1 37 [.ref 108, .int a1, .int a2, .int a3] [.int (-1)] q2.2 (fun _ => rfl) ?_
      cases h
      exact am_Ex.iret rfl rfl
    · refine am_Ex.if_eq_f rfl q3 ?_
      refine am_Ex.seg 1 18 [.ref 108, .int a1, .int a2, .int a3] [.int a2] q2.2 (fun _ => rfl) ?_
      obtain ⟨q4, h_q4, h⟩ := am_bind h
      refine am_Ex.isk (na := 1) rfl (As := [.int a2]) rfl rfl rfl rfl rfl rfl (e_fM_isMark (d + 1) h_q4) ?_
      refine am_Ex.same 21 [.ref 108, .int a1, .int a2, .int a3] [.int q4.1] q4.2 rfl ?_
      rcases am_ite h with ⟨q5, h⟩ | ⟨q5, h⟩
      · refine am_Ex.if_eq_t rfl q5 ?_
        refine am_Ex.seg 1 37 [.ref 108, .int a1, .int a2, .int a3] [.int (-1)] q4.2 (fun _ => rfl) ?_
        cases h
        exact am_Ex.iret rfl rfl
      · refine am_Ex.if_eq_f rfl q5 ?_
        refine am_Ex.seg 4 30 [.ref 108, .int a1, .int a2, .int a3] [.int (q4.2 108 2), .int 0, .int a3] q4.2 (fun _ => rfl) ?_
        obtain ⟨q6, h_q6, h⟩ := am_bind h
        refine am_Ex.isk (na := 3) rfl (As := [.int a3, .int 0, .int (q4.2 108 2)]) rfl rfl rfl rfl rfl rfl (e_fM_lies (d + 2) h_q6) ?_
        refine am_Ex.same 33 [.ref 108, .int a1, .int a2, .int a3] [.int q6.1] q6.2 rfl ?_
        rcases am_ite h with ⟨q7, h⟩ | ⟨q7, h⟩
        · refine am_Ex.if_ne_t rfl q7 ?_
          refine am_Ex.seg 5 47 [.ref 108, .int a1, .int a2, .int a3] [.int a1, .int (q6.2 108 6), .ref 139] q6.2 (fun _ => rfl) ?_
          obtain ⟨q8, h⟩ := am_bif h
          refine am_Ex.iast (v2 := a1) (i2 := ((q6.2 108 6)).toNatClampNeg) rfl rfl q8 rfl rfl ?_
          refine am_Ex.seg 5 57 [.ref 108, .int a1, .int a2, .int a3] [.int a2, .int (q6.2 108 6), .ref 140] (am_up q6.2 139 (((q6.2 108 6)).toNatClampNeg) a1) (fun _ => rfl) ?_
          refine am_Ex.iast (v2 := a2) (i2 := ((q6.2 108 6)).toNatClampNeg) rfl rfl q8 rfl rfl ?_
          refine am_Ex.seg 5 67 [.ref 108, .int a1, .int a2, .int a3] [.int a3, .int (q6.2 108 6), .ref 141] (am_up (am_up q6.2 139 (((q6.2 108 6)).toNatClampNeg) a1) 140 (((q6.2 108 6)).toNatClampNeg) a2) (fun _ => rfl) ?_
          refine am_Ex.iast (v2 := a3) (i2 := ((q6.2 108 6)).toNatClampNeg) rfl rfl q8 rfl rfl ?_
          refine am_Ex.seg 6 80 [.ref 108, .int a1, .int a2, .int a3] [.int (q6.2 108 2), .int (q6.2 108 6), .ref 142] (am_up (am_up (am_up q6.2 139 (((q6.2 108 6)).toNatClampNeg) a1) 140 (((q6.2 108 6)).toNatClampNeg) a2) 141 (((q6.2 108 6)).toNatClampNeg) a3) (fun _ => rfl) ?_
          refine am_Ex.iast (v2 := (q6.2 108 2)) (i2 := ((q6.2 108 6)).toNatClampNeg) rfl rfl q8 rfl rfl ?_
          refine am_Ex.seg 13 102 [.ref 108, .int a1, .int a2, .int a3] [.int (((1000 : Int32) + ((q6.2 108 6) + 1)) - 1), .ref 108] (am_up (am_up (am_up (am_up (am_up q6.2 139 (((q6.2 108 6)).toNatClampNeg) a1) 140 (((q6.2 108 6)).toNatClampNeg) a2) 141 (((q6.2 108 6)).toNatClampNeg) a3) 142 (((q6.2 108 6)).toNatClampNeg) (q6.2 108 2)) 108 6 ((q6.2 108 6) + 1)) (fun _ => rfl) ?_
          obtain ⟨q9, h_q9, h⟩ := am_bind h
          refine am_Ex.ivk (na := 2) (b := 108) (As' := [.int (((1000 : Int32) + ((q6.2 108 6) + 1)) - 1)]) rfl rfl rfl rfl rfl rfl rfl rfl rfl (e_fM_comes (d + 0) h_q9) ?_
          refine am_Ex.same 105 [.ref 108, .int a1, .int a2, .int a3] [] q9 rfl ?_
          refine am_Ex.seg 4 111 [.ref 108, .int a1, .int a2, .int a3] [.int ((q9 108 6) - 1)] q9 (fun _ => rfl) ?_
          cases h
          exact am_Ex.iret rfl rfl
        · refine am_Ex.if_ne_f rfl (Decidable.not_not.mp q7) ?_
          refine am_Ex.seg 1 37 [.ref 108, .int a1, .int a2, .int a3] [.int (-1)] q6.2 (fun _ => rfl) ?_
          cases h
          exact am_Ex.iret rfl rfl
def fM_isKnown_61 (μ : am_Mu) : Option (Int32 × am_Mu) := some (0, μ)
def fM_isKnown_57 (μ : am_Mu) : Option (Int32 × am_Mu) := some (1, μ)
def fM_isKnown (a1 : Int32) (a2 : Int32) (μ : am_Mu) : Option (Int32 × am_Mu) := (if a1 < 1000 then (bif am_inb a1 200 then (if a2 < (μ 137 ((a1).toNatClampNeg)) then fM_isKnown_61 μ else (if (μ 138 ((a1).toNatClampNeg)) = (-1) then fM_isKnown_57 μ else (if (μ 138 ((a1).toNatClampNeg)) ≤ a2 then fM_isKnown_61 μ else fM_isKnown_57 μ))) else none) else (bif am_inb (a1 - 1000) 10 then (if a2 < (μ 142 (((a1 - 1000)).toNatClampNeg)) then some (0, μ) else some (1, μ)) else none))
set_option maxRecDepth 20000 in
theorem e_fM_isKnown_61 (d : Nat) : ∀ {w0 w1 w2 : Value} {μ : am_Mu} {out : Int32 × am_Mu}, fM_isKnown_61 μ = some out → am_Ex none (d + 0) 186 61 [w0, w1, w2] [] am_SH μ (some (.int out.1), am_SH, out.2) := by
  intro w0 w1 w2 μ out h
  unfold fM_isKnown_61 at h
  refine am_Ex.seg 1 62 [w0, w1, w2] [.int 0] μ (fun _ => rfl) ?_
  cases h
  exact am_Ex.zret rfl rfl (by decide)
set_option maxRecDepth 20000 in
theorem e_fM_isKnown_57 (d : Nat) : ∀ {w0 w1 w2 : Value} {μ : am_Mu} {out : Int32 × am_Mu}, fM_isKnown_57 μ = some out → am_Ex none (d + 0) 186 57 [w0, w1, w2] [] am_SH μ (some (.int out.1), am_SH, out.2) := by
  intro w0 w1 w2 μ out h
  unfold fM_isKnown_57 at h
  refine am_Ex.seg 1 58 [w0, w1, w2] [.int 1] μ (fun _ => rfl) ?_
  refine am_Ex.goto rfl ?_
  cases h
  exact am_Ex.zret rfl rfl (by decide)
set_option maxRecDepth 20000 in
theorem e_fM_isKnown (d : Nat) : ∀ {a1 : Int32} {a2 : Int32} {μ : am_Mu} {out : Int32 × am_Mu}, fM_isKnown a1 a2 μ = some out → am_Ex none (d + 0) 186 0 [.ref 108, .int a1, .int a2] [] am_SH μ (some (.int out.1), am_SH, out.2) := by
  intro a1 a2 μ out h
  unfold fM_isKnown at h
  refine am_Ex.seg 2 4 [.ref 108, .int a1, .int a2] [.int 1000, .int a1] μ (fun _ => rfl) ?_
  rcases am_ite h with ⟨q1, h⟩ | ⟨q1, h⟩
  · refine am_Ex.icmp_lt_t rfl q1 ?_
    refine am_Ex.seg 3 32 [.ref 108, .int a1, .int a2] [.int a1, .ref 137] μ (fun _ => rfl) ?_
    obtain ⟨q2, h⟩ := am_bif h
    refine am_Ex.iald (v := (μ 137 ((a1).toNatClampNeg))) rfl rfl q2 rfl ?_
    refine am_Ex.seg 1 34 [.ref 108, .int a1, .int a2] [.int a2, .int (μ 137 ((a1).toNatClampNeg))] μ (fun _ => rfl) ?_
    rcases am_ite h with ⟨q3, h⟩ | ⟨q3, h⟩
    · refine am_Ex.icmp_gt_t rfl q3 ?_
      exact e_fM_isKnown_61 d h
    · refine am_Ex.icmp_gt_f rfl q3 ?_
      refine am_Ex.seg 3 42 [.ref 108, .int a1, .int a2] [.int a1, .ref 138] μ (fun _ => rfl) ?_
      refine am_Ex.iald (v := (μ 138 ((a1).toNatClampNeg))) rfl rfl q2 rfl ?_
      refine am_Ex.seg 1 44 [.ref 108, .int a1, .int a2] [.int (-1), .int (μ 138 ((a1).toNatClampNeg))] μ (fun _ => rfl) ?_
      rcases am_ite h with ⟨q4, h⟩ | ⟨q4, h⟩
      · refine am_Ex.icmp_eq_t rfl q4 ?_
        exact e_fM_isKnown_57 d h
      · refine am_Ex.icmp_eq_f rfl q4 ?_
        refine am_Ex.seg 4 53 [.ref 108, .int a1, .int a2] [.int a1, .ref 138, .int a2] μ (fun _ => rfl) ?_
        refine am_Ex.iald (v := (μ 138 ((a1).toNatClampNeg))) rfl rfl q2 rfl ?_
        rcases am_ite h with ⟨q5, h⟩ | ⟨q5, h⟩
        · refine am_Ex.icmp_ge_t rfl q5 ?_
          exact e_fM_isKnown_61 d h
        · refine am_Ex.icmp_ge_f rfl q5 ?_
          exact e_fM_isKnown_57 d h
  · refine am_Ex.icmp_lt_f rfl q1 ?_
    refine am_Ex.seg 5 16 [.ref 108, .int a1, .int a2] [.int (a1 - 1000), .ref 142] μ (fun _ => rfl) ?_
    obtain ⟨q6, h⟩ := am_bif h
    refine am_Ex.iald (v := (μ 142 (((a1 - 1000)).toNatClampNeg))) rfl rfl q6 rfl ?_
    refine am_Ex.seg 1 18 [.ref 108, .int a1, .int a2] [.int a2, .int (μ 142 (((a1 - 1000)).toNatClampNeg))] μ (fun _ => rfl) ?_
    rcases am_ite h with ⟨q7, h⟩ | ⟨q7, h⟩
    · refine am_Ex.icmp_gt_t rfl q7 ?_
      refine am_Ex.seg 1 26 [.ref 108, .int a1, .int a2] [.int 0] μ (fun _ => rfl) ?_
      cases h
      exact am_Ex.zret rfl rfl (by decide)
    · refine am_Ex.icmp_gt_f rfl q7 ?_
      refine am_Ex.seg 1 22 [.ref 108, .int a1, .int a2] [.int 1] μ (fun _ => rfl) ?_
      refine am_Ex.goto rfl ?_
      cases h
      exact am_Ex.zret rfl rfl (by decide)
def fM_begins_79 (k2 : Int32 → Int32 → am_Mu → Option (am_Mu)) (a1 : Int32) (a2 : Int32) (μ : am_Mu) : Option (am_Mu) := k2 a1 (a2 + 1) μ
def fM_begins_56 (k2 : Int32 → Int32 → am_Mu → Option (am_Mu)) (k12 : Int32 → Int32 → Int32 → am_Mu → Option (am_Mu)) (a1 : Int32) (a2 : Int32) (a3 : Int32) (a4 : Int32) (s1 : Int32) (s2 : Int32) (μ : am_Mu) : Option (am_Mu) := (bif am_inb s1 320 then (bif am_inb a4 320 then k12 a1 a2 (a3 + 1) (am_up (am_up (am_up μ 144 ((s1).toNatClampNeg) s2) 145 ((a4).toNatClampNeg) 0) 146 ((a4).toNatClampNeg) 0) else none) else none)
def fM_begins_12 : Nat → (Int32 → Int32 → am_Mu → Option (am_Mu)) → Int32 → Int32 → Int32 → am_Mu → Option (am_Mu)
  | 0, _, _, _, _, _ => none
  | n + 1, k2, a1, a2, a3, μ => (if 8 ≤ a3 then fM_begins_79 k2 a1 a2 μ else (bif am_inb a2 20 then ((fM_has (μ 113 ((a2).toNatClampNeg)) a3 μ).bind fun q3 => (if q3.1 = 0 then fM_begins_56 k2 (fM_begins_12 n k2) a1 a2 a3 ((((160 : Int32) * a1) + ((8 : Int32) * a2)) + a3) ((((160 : Int32) * a1) + ((8 : Int32) * a2)) + a3) 0 q3.2 else fM_begins_56 k2 (fM_begins_12 n k2) a1 a2 a3 ((((160 : Int32) * a1) + ((8 : Int32) * a2)) + a3) ((((160 : Int32) * a1) + ((8 : Int32) * a2)) + a3) 2 q3.2)) else none))
def fM_begins_2 : Nat → Int32 → Int32 → am_Mu → Option (am_Mu)
  | 0, _, _, _ => none
  | n + 1, a1, a2, μ => (if (μ 108 4) ≤ a2 then some μ else fM_begins_12 am_F (fM_begins_2 n) a1 a2 0 μ)
def fM_begins (a1 : Int32) (μ : am_Mu) : Option (am_Mu) := fM_begins_2 am_F a1 0 μ
set_option maxRecDepth 20000 in
theorem e_fM_begins_79 (d : Nat) {k2 : Int32 → Int32 → am_Mu → Option (am_Mu)} (hk2 : ∀ {a1 : Int32} {a2 : Int32} {w3 w4 : Value} {μ : am_Mu} {out : am_Mu}, k2 a1 a2 μ = some out → am_Ex none (d + 1) 187 2 [.ref 108, .int a1, .int a2, w3, w4] [] am_SH μ (none, am_SH, out)) : ∀ {a1 : Int32} {a2 : Int32} {w3 w4 : Value} {μ : am_Mu} {out : am_Mu}, fM_begins_79 k2 a1 a2 μ = some out → am_Ex none (d + 1) 187 79 [.ref 108, .int a1, .int a2, w3, w4] [] am_SH μ (none, am_SH, out) := by
  intro a1 a2 w3 w4 μ out h
  unfold fM_begins_79 at h
  refine am_Ex.seg 1 82 [.ref 108, .int a1, .int (a2 + 1), w3, w4] [] μ (fun _ => rfl) ?_
  refine am_Ex.goto rfl ?_
  exact hk2 h
set_option maxRecDepth 20000 in
theorem e_fM_begins_56 (d : Nat) {k2 : Int32 → Int32 → am_Mu → Option (am_Mu)} {k12 : Int32 → Int32 → Int32 → am_Mu → Option (am_Mu)} (hk2 : ∀ {a1 : Int32} {a2 : Int32} {w3 w4 : Value} {μ : am_Mu} {out : am_Mu}, k2 a1 a2 μ = some out → am_Ex none (d + 1) 187 2 [.ref 108, .int a1, .int a2, w3, w4] [] am_SH μ (none, am_SH, out)) (hk12 : ∀ {a1 : Int32} {a2 : Int32} {a3 : Int32} {w4 : Value} {μ : am_Mu} {out : am_Mu}, k12 a1 a2 a3 μ = some out → am_Ex none (d + 1) 187 12 [.ref 108, .int a1, .int a2, .int a3, w4] [] am_SH μ (none, am_SH, out)) : ∀ {a1 : Int32} {a2 : Int32} {a3 : Int32} {a4 : Int32} {s1 : Int32} {s2 : Int32} {μ : am_Mu} {out : am_Mu}, fM_begins_56 k2 k12 a1 a2 a3 a4 s1 s2 μ = some out → am_Ex none (d + 1) 187 56 [.ref 108, .int a1, .int a2, .int a3, .int a4] [.int s2, .int s1, .ref 144] am_SH μ (none, am_SH, out) := by
  intro a1 a2 a3 a4 s1 s2 μ out h
  unfold fM_begins_56 at h
  obtain ⟨q1, h⟩ := am_bif h
  refine am_Ex.iast (v2 := s2) (i2 := (s1).toNatClampNeg) rfl rfl q1 rfl rfl ?_
  refine am_Ex.seg 4 64 [.ref 108, .int a1, .int a2, .int a3, .int a4] [.int 0, .int a4, .ref 145] (am_up μ 144 ((s1).toNatClampNeg) s2) (fun _ => rfl) ?_
  obtain ⟨q2, h⟩ := am_bif h
  refine am_Ex.iast (v2 := 0) (i2 := (a4).toNatClampNeg) rfl rfl q2 rfl rfl ?_
  refine am_Ex.seg 4 72 [.ref 108, .int a1, .int a2, .int a3, .int a4] [.int 0, .int a4, .ref 146] (am_up (am_up μ 144 ((s1).toNatClampNeg) s2) 145 ((a4).toNatClampNeg) 0) (fun _ => rfl) ?_
  refine am_Ex.iast (v2 := 0) (i2 := (a4).toNatClampNeg) rfl rfl q2 rfl rfl ?_
  refine am_Ex.seg 1 76 [.ref 108, .int a1, .int a2, .int (a3 + 1), .int a4] [] (am_up (am_up (am_up μ 144 ((s1).toNatClampNeg) s2) 145 ((a4).toNatClampNeg) 0) 146 ((a4).toNatClampNeg) 0) (fun _ => rfl) ?_
  refine am_Ex.goto rfl ?_
  exact hk12 h
set_option maxRecDepth 20000 in
theorem e_fM_begins_12 (d : Nat) {k2 : Int32 → Int32 → am_Mu → Option (am_Mu)} (hk2 : ∀ {a1 : Int32} {a2 : Int32} {w3 w4 : Value} {μ : am_Mu} {out : am_Mu}, k2 a1 a2 μ = some out → am_Ex none (d + 1) 187 2 [.ref 108, .int a1, .int a2, w3, w4] [] am_SH μ (none, am_SH, out)) : ∀ n : Nat, ∀ {a1 : Int32} {a2 : Int32} {a3 : Int32} {w4 : Value} {μ : am_Mu} {out : am_Mu}, fM_begins_12 n k2 a1 a2 a3 μ = some out → am_Ex none (d + 1) 187 12 [.ref 108, .int a1, .int a2, .int a3, w4] [] am_SH μ (none, am_SH, out) := by
  intro n
  induction n with
  | zero => intros; contradiction
  | succ n ih =>
    have hk12 : ∀ {a1 : Int32} {a2 : Int32} {a3 : Int32} {w4 : Value} {μ : am_Mu} {out : am_Mu}, (fM_begins_12 n k2) a1 a2 a3 μ = some out → am_Ex none (d + 1) 187 12 [.ref 108, .int a1, .int a2, .int a3, w4] [] am_SH μ (none, am_SH, out) := ih
    intro a1 a2 a3 w4 μ out h
    unfold fM_begins_12 at h
    refine am_Ex.seg 2 15 [.ref 108, .int a1, .int a2, .int a3, w4] [.int 8, .int a3] μ (fun _ => rfl) ?_
    rcases am_ite h with ⟨q1, h⟩ | ⟨q1, h⟩
    · refine am_Ex.icmp_ge_t rfl q1 ?_
      exact e_fM_begins_79 d hk2 h
    · refine am_Ex.icmp_ge_f rfl q1 ?_
      refine am_Ex.seg 16 43 [.ref 108, .int a1, .int a2, .int a3, .int ((((160 : Int32) * a1) + ((8 : Int32) * a2)) + a3)] [.int a2, .ref 113, .int ((((160 : Int32) * a1) + ((8 : Int32) * a2)) + a3), .ref 144] μ (fun _ => rfl) ?_
      obtain ⟨q2, h⟩ := am_bif h
      refine am_Ex.iald (v := (μ 113 ((a2).toNatClampNeg))) rfl rfl q2 rfl ?_
      refine am_Ex.seg 1 45 [.ref 108, .int a1, .int a2, .int a3, .int ((((160 : Int32) * a1) + ((8 : Int32) * a2)) + a3)] [.int a3, .int (μ 113 ((a2).toNatClampNeg)), .int ((((160 : Int32) * a1) + ((8 : Int32) * a2)) + a3), .ref 144] μ (fun _ => rfl) ?_
      obtain ⟨q3, h_q3, h⟩ := am_bind h
      refine am_Ex.isk (na := 2) rfl (As := [.int (μ 113 ((a2).toNatClampNeg)), .int a3]) rfl rfl rfl rfl rfl rfl (e_fM_has (d + 0) h_q3) ?_
      refine am_Ex.same 48 [.ref 108, .int a1, .int a2, .int a3, .int ((((160 : Int32) * a1) + ((8 : Int32) * a2)) + a3)] [.int q3.1, .int ((((160 : Int32) * a1) + ((8 : Int32) * a2)) + a3), .ref 144] q3.2 rfl ?_
      rcases am_ite h with ⟨q4, h⟩ | ⟨q4, h⟩
      · refine am_Ex.if_eq_t rfl q4 ?_
        refine am_Ex.seg 1 56 [.ref 108, .int a1, .int a2, .int a3, .int ((((160 : Int32) * a1) + ((8 : Int32) * a2)) + a3)] [.int 0, .int ((((160 : Int32) * a1) + ((8 : Int32) * a2)) + a3), .ref 144] q3.2 (fun _ => rfl) ?_
        exact e_fM_begins_56 d hk2 hk12 h
      · refine am_Ex.if_eq_f rfl q4 ?_
        refine am_Ex.seg 1 52 [.ref 108, .int a1, .int a2, .int a3, .int ((((160 : Int32) * a1) + ((8 : Int32) * a2)) + a3)] [.int 2, .int ((((160 : Int32) * a1) + ((8 : Int32) * a2)) + a3), .ref 144] q3.2 (fun _ => rfl) ?_
        refine am_Ex.goto rfl ?_
        exact e_fM_begins_56 d hk2 hk12 h
set_option maxRecDepth 20000 in
theorem e_fM_begins_2 (d : Nat) : ∀ n : Nat, ∀ {a1 : Int32} {a2 : Int32} {w3 w4 : Value} {μ : am_Mu} {out : am_Mu}, fM_begins_2 n a1 a2 μ = some out → am_Ex none (d + 1) 187 2 [.ref 108, .int a1, .int a2, w3, w4] [] am_SH μ (none, am_SH, out) := by
  intro n
  induction n with
  | zero => intros; contradiction
  | succ n ih =>
    have hk2 : ∀ {a1 : Int32} {a2 : Int32} {w3 w4 : Value} {μ : am_Mu} {out : am_Mu}, (fM_begins_2 n) a1 a2 μ = some out → am_Ex none (d + 1) 187 2 [.ref 108, .int a1, .int a2, w3, w4] [] am_SH μ (none, am_SH, out) := ih
    intro a1 a2 w3 w4 μ out h
    unfold fM_begins_2 at h
    refine am_Ex.seg 3 7 [.ref 108, .int a1, .int a2, w3, w4] [.int (μ 108 4), .int a2] μ (fun _ => rfl) ?_
    rcases am_ite h with ⟨q1, h⟩ | ⟨q1, h⟩
    · refine am_Ex.icmp_ge_t rfl q1 ?_
      cases h
      exact am_Ex.vret rfl rfl
    · refine am_Ex.icmp_ge_f rfl q1 ?_
      refine am_Ex.seg 2 12 [.ref 108, .int a1, .int a2, .int 0, w4] [] μ (fun _ => rfl) ?_
      exact e_fM_begins_12 d hk2 am_F h
set_option maxRecDepth 20000 in
theorem e_fM_begins (d : Nat) : ∀ {a1 : Int32} {μ : am_Mu} {out : am_Mu}, fM_begins a1 μ = some out → am_Ex none (d + 1) 187 0 [.ref 108, .int a1, .null, .null, .null] [] am_SH μ (none, am_SH, out) := by
  intro a1 μ out h
  unfold fM_begins at h
  refine am_Ex.seg 2 2 [.ref 108, .int a1, .int 0, .null, .null] [] μ (fun _ => rfl) ?_
  exact e_fM_begins_2 d am_F h
def fM_sets (a1 : Int32) (a2 : Int32) (a3 : Int32) (a4 : Int32) (μ : am_Mu) : Option (am_Mu) := (bif am_inb a1 320 then some (am_up (am_up (am_up μ 144 ((a1).toNatClampNeg) a2) 145 ((a1).toNatClampNeg) a3) 146 ((a1).toNatClampNeg) a4) else none)
set_option maxRecDepth 20000 in
theorem e_fM_sets (d : Nat) : ∀ {a1 : Int32} {a2 : Int32} {a3 : Int32} {a4 : Int32} {μ : am_Mu} {out : am_Mu}, fM_sets a1 a2 a3 a4 μ = some out → am_Ex none (d + 0) 188 0 [.ref 108, .int a1, .int a2, .int a3, .int a4] [] am_SH μ (none, am_SH, out) := by
  intro a1 a2 a3 a4 μ out h
  unfold fM_sets at h
  refine am_Ex.seg 4 6 [.ref 108, .int a1, .int a2, .int a3, .int a4] [.int a2, .int a1, .ref 144] μ (fun _ => rfl) ?_
  obtain ⟨q1, h⟩ := am_bif h
  refine am_Ex.iast (v2 := a2) (i2 := (a1).toNatClampNeg) rfl rfl q1 rfl rfl ?_
  refine am_Ex.seg 4 13 [.ref 108, .int a1, .int a2, .int a3, .int a4] [.int a3, .int a1, .ref 145] (am_up μ 144 ((a1).toNatClampNeg) a2) (fun _ => rfl) ?_
  refine am_Ex.iast (v2 := a3) (i2 := (a1).toNatClampNeg) rfl rfl q1 rfl rfl ?_
  refine am_Ex.seg 4 21 [.ref 108, .int a1, .int a2, .int a3, .int a4] [.int a4, .int a1, .ref 146] (am_up (am_up μ 144 ((a1).toNatClampNeg) a2) 145 ((a1).toNatClampNeg) a3) (fun _ => rfl) ?_
  refine am_Ex.iast (v2 := a4) (i2 := (a1).toNatClampNeg) rfl rfl q1 rfl rfl ?_
  cases h
  exact am_Ex.vret rfl rfl
def fM_joins_117 (a5 : Int32) (a6 : Int32) (s1 : Int32) (s2 : Int32) (μ : am_Mu) : Option (am_Mu) := ((fM_sets s1 s2 a5 a6 μ).bind fun q1 => some q1)
def fM_joins_116 (a5 : Int32) (a6 : Int32) (s1 : Int32) (μ : am_Mu) : Option (am_Mu) := fM_joins_117 a5 a6 s1 1 μ
def fM_joins_93 (a1 : Int32) (a2 : Int32) (a5 : Int32) (s0 : Int32) (μ : am_Mu) : Option (am_Mu) := (bif am_inb a1 320 then (if ¬ (μ 144 ((a1).toNatClampNeg)) = 2 then fM_joins_116 a5 s0 a1 μ else (if ¬ a2 = 2 then fM_joins_116 a5 s0 a1 μ else fM_joins_117 a5 s0 a1 2 μ)) else none)
def fM_joins_82 (a1 : Int32) (a2 : Int32) (a5 : Int32) (μ : am_Mu) : Option (am_Mu) := (bif am_inb a1 320 then fM_joins_93 a1 a2 a5 (μ 146 ((a1).toNatClampNeg)) μ else none)
def fM_joins_51 (a1 : Int32) (a2 : Int32) (a4 : Int32) (s0 : Int32) (μ : am_Mu) : Option (am_Mu) := (bif am_inb a1 320 then (if ¬ (μ 144 ((a1).toNatClampNeg)) = 0 then (if a2 = 0 then fM_joins_82 a1 a2 s0 μ else (if (μ 146 ((a1).toNatClampNeg)) ≤ a4 then fM_joins_93 a1 a2 s0 a4 μ else fM_joins_82 a1 a2 s0 μ)) else fM_joins_93 a1 a2 s0 a4 μ) else none)
def fM_joins_41 (a1 : Int32) (a2 : Int32) (a4 : Int32) (μ : am_Mu) : Option (am_Mu) := (bif am_inb a1 320 then fM_joins_51 a1 a2 a4 (μ 145 ((a1).toNatClampNeg)) μ else none)
def fM_joins_14 (a1 : Int32) (a2 : Int32) (a3 : Int32) (a4 : Int32) (μ : am_Mu) : Option (am_Mu) := (bif am_inb a1 320 then (if ¬ (μ 144 ((a1).toNatClampNeg)) = 0 then (if a2 = 0 then fM_joins_41 a1 a2 a4 μ else (if a3 ≤ (μ 145 ((a1).toNatClampNeg)) then fM_joins_51 a1 a2 a4 a3 μ else fM_joins_41 a1 a2 a4 μ)) else fM_joins_51 a1 a2 a4 a3 μ) else none)
def fM_joins (a1 : Int32) (a2 : Int32) (a3 : Int32) (a4 : Int32) (μ : am_Mu) : Option (am_Mu) := (bif am_inb a1 320 then (if ¬ (μ 144 ((a1).toNatClampNeg)) = 0 then fM_joins_14 a1 a2 a3 a4 μ else (if ¬ a2 = 0 then fM_joins_14 a1 a2 a3 a4 μ else some μ)) else none)
set_option maxRecDepth 20000 in
theorem e_fM_joins_117 (d : Nat) : ∀ {a5 : Int32} {a6 : Int32} {s1 : Int32} {s2 : Int32} {w0 w1 w2 w3 w4 : Value} {μ : am_Mu} {out : am_Mu}, fM_joins_117 a5 a6 s1 s2 μ = some out → am_Ex none (d + 1) 189 117 [w0, w1, w2, w3, w4, .int a5, .int a6] [.int s2, .int s1, .ref 108] am_SH μ (none, am_SH, out) := by
  intro a5 a6 s1 s2 w0 w1 w2 w3 w4 μ out h
  unfold fM_joins_117 at h
  refine am_Ex.seg 2 121 [w0, w1, w2, w3, w4, .int a5, .int a6] [.int a6, .int a5, .int s2, .int s1, .ref 108] μ (fun _ => rfl) ?_
  obtain ⟨q1, h_q1, h⟩ := am_bind h
  refine am_Ex.ivk (na := 5) (b := 108) (As' := [.int s1, .int s2, .int a5, .int a6]) rfl rfl rfl rfl rfl rfl rfl rfl rfl (e_fM_sets (d + 0) h_q1) ?_
  refine am_Ex.same 124 [w0, w1, w2, w3, w4, .int a5, .int a6] [] q1 rfl ?_
  cases h
  exact am_Ex.vret rfl rfl
set_option maxRecDepth 20000 in
theorem e_fM_joins_116 (d : Nat) : ∀ {a5 : Int32} {a6 : Int32} {s1 : Int32} {w0 w1 w2 w3 w4 : Value} {μ : am_Mu} {out : am_Mu}, fM_joins_116 a5 a6 s1 μ = some out → am_Ex none (d + 1) 189 116 [w0, w1, w2, w3, w4, .int a5, .int a6] [.int s1, .ref 108] am_SH μ (none, am_SH, out) := by
  intro a5 a6 s1 w0 w1 w2 w3 w4 μ out h
  unfold fM_joins_116 at h
  refine am_Ex.seg 1 117 [w0, w1, w2, w3, w4, .int a5, .int a6] [.int 1, .int s1, .ref 108] μ (fun _ => rfl) ?_
  exact e_fM_joins_117 d h
set_option maxRecDepth 20000 in
theorem e_fM_joins_93 (d : Nat) : ∀ {a1 : Int32} {a2 : Int32} {a5 : Int32} {s0 : Int32} {w3 w4 w6 : Value} {μ : am_Mu} {out : am_Mu}, fM_joins_93 a1 a2 a5 s0 μ = some out → am_Ex none (d + 1) 189 93 [.ref 108, .int a1, .int a2, w3, w4, .int a5, w6] [.int s0] am_SH μ (none, am_SH, out) := by
  intro a1 a2 a5 s0 w3 w4 w6 μ out h
  unfold fM_joins_93 at h
  refine am_Ex.seg 6 102 [.ref 108, .int a1, .int a2, w3, w4, .int a5, .int s0] [.int a1, .ref 144, .int a1, .ref 108] μ (fun _ => rfl) ?_
  obtain ⟨q1, h⟩ := am_bif h
  refine am_Ex.iald (v := (μ 144 ((a1).toNatClampNeg))) rfl rfl q1 rfl ?_
  refine am_Ex.seg 1 104 [.ref 108, .int a1, .int a2, w3, w4, .int a5, .int s0] [.int 2, .int (μ 144 ((a1).toNatClampNeg)), .int a1, .ref 108] μ (fun _ => rfl) ?_
  rcases am_ite h with ⟨q2, h⟩ | ⟨q2, h⟩
  · refine am_Ex.icmp_ne_t rfl q2 ?_
    exact e_fM_joins_116 d h
  · refine am_Ex.icmp_ne_f rfl (Decidable.not_not.mp q2) ?_
    refine am_Ex.seg 2 109 [.ref 108, .int a1, .int a2, w3, w4, .int a5, .int s0] [.int 2, .int a2, .int a1, .ref 108] μ (fun _ => rfl) ?_
    rcases am_ite h with ⟨q3, h⟩ | ⟨q3, h⟩
    · refine am_Ex.icmp_ne_t rfl q3 ?_
      exact e_fM_joins_116 d h
    · refine am_Ex.icmp_ne_f rfl (Decidable.not_not.mp q3) ?_
      refine am_Ex.seg 1 113 [.ref 108, .int a1, .int a2, w3, w4, .int a5, .int s0] [.int 2, .int a1, .ref 108] μ (fun _ => rfl) ?_
      refine am_Ex.goto rfl ?_
      exact e_fM_joins_117 d h
set_option maxRecDepth 20000 in
theorem e_fM_joins_82 (d : Nat) : ∀ {a1 : Int32} {a2 : Int32} {a5 : Int32} {w3 w4 w6 : Value} {μ : am_Mu} {out : am_Mu}, fM_joins_82 a1 a2 a5 μ = some out → am_Ex none (d + 1) 189 82 [.ref 108, .int a1, .int a2, w3, w4, .int a5, w6] [] am_SH μ (none, am_SH, out) := by
  intro a1 a2 a5 w3 w4 w6 μ out h
  unfold fM_joins_82 at h
  refine am_Ex.seg 3 87 [.ref 108, .int a1, .int a2, w3, w4, .int a5, w6] [.int a1, .ref 146] μ (fun _ => rfl) ?_
  obtain ⟨q1, h⟩ := am_bif h
  refine am_Ex.iald (v := (μ 146 ((a1).toNatClampNeg))) rfl rfl q1 rfl ?_
  refine am_Ex.goto rfl ?_
  exact e_fM_joins_93 d h
set_option maxRecDepth 20000 in
theorem e_fM_joins_51 (d : Nat) : ∀ {a1 : Int32} {a2 : Int32} {a4 : Int32} {s0 : Int32} {w3 w5 w6 : Value} {μ : am_Mu} {out : am_Mu}, fM_joins_51 a1 a2 a4 s0 μ = some out → am_Ex none (d + 1) 189 51 [.ref 108, .int a1, .int a2, w3, .int a4, w5, w6] [.int s0] am_SH μ (none, am_SH, out) := by
  intro a1 a2 a4 s0 w3 w5 w6 μ out h
  unfold fM_joins_51 at h
  refine am_Ex.seg 4 58 [.ref 108, .int a1, .int a2, w3, .int a4, .int s0, w6] [.int a1, .ref 144] μ (fun _ => rfl) ?_
  obtain ⟨q1, h⟩ := am_bif h
  refine am_Ex.iald (v := (μ 144 ((a1).toNatClampNeg))) rfl rfl q1 rfl ?_
  rcases am_ite h with ⟨q2, h⟩ | ⟨q2, h⟩
  · refine am_Ex.if_ne_t rfl q2 ?_
    refine am_Ex.seg 1 68 [.ref 108, .int a1, .int a2, w3, .int a4, .int s0, w6] [.int a2] μ (fun _ => rfl) ?_
    rcases am_ite h with ⟨q3, h⟩ | ⟨q3, h⟩
    · refine am_Ex.if_eq_t rfl q3 ?_
      exact e_fM_joins_82 d h
    · refine am_Ex.if_eq_f rfl q3 ?_
      refine am_Ex.seg 3 76 [.ref 108, .int a1, .int a2, w3, .int a4, .int s0, w6] [.int a1, .ref 146] μ (fun _ => rfl) ?_
      refine am_Ex.iald (v := (μ 146 ((a1).toNatClampNeg))) rfl rfl q1 rfl ?_
      refine am_Ex.seg 1 79 [.ref 108, .int a1, .int a2, w3, .int a4, .int s0, w6] [.int a4, .int (μ 146 ((a1).toNatClampNeg))] μ (fun _ => rfl) ?_
      rcases am_ite h with ⟨q4, h⟩ | ⟨q4, h⟩
      · refine am_Ex.icmp_le_t rfl q4 ?_
        refine am_Ex.seg 1 93 [.ref 108, .int a1, .int a2, w3, .int a4, .int s0, w6] [.int a4] μ (fun _ => rfl) ?_
        exact e_fM_joins_93 d h
      · refine am_Ex.icmp_le_f rfl q4 ?_
        exact e_fM_joins_82 d h
  · refine am_Ex.if_ne_f rfl (Decidable.not_not.mp q2) ?_
    refine am_Ex.seg 1 64 [.ref 108, .int a1, .int a2, w3, .int a4, .int s0, w6] [.int a4] μ (fun _ => rfl) ?_
    refine am_Ex.goto rfl ?_
    exact e_fM_joins_93 d h
set_option maxRecDepth 20000 in
theorem e_fM_joins_41 (d : Nat) : ∀ {a1 : Int32} {a2 : Int32} {a4 : Int32} {w3 w5 w6 : Value} {μ : am_Mu} {out : am_Mu}, fM_joins_41 a1 a2 a4 μ = some out → am_Ex none (d + 1) 189 41 [.ref 108, .int a1, .int a2, w3, .int a4, w5, w6] [] am_SH μ (none, am_SH, out) := by
  intro a1 a2 a4 w3 w5 w6 μ out h
  unfold fM_joins_41 at h
  refine am_Ex.seg 3 46 [.ref 108, .int a1, .int a2, w3, .int a4, w5, w6] [.int a1, .ref 145] μ (fun _ => rfl) ?_
  obtain ⟨q1, h⟩ := am_bif h
  refine am_Ex.iald (v := (μ 145 ((a1).toNatClampNeg))) rfl rfl q1 rfl ?_
  refine am_Ex.goto rfl ?_
  exact e_fM_joins_51 d h
set_option maxRecDepth 20000 in
theorem e_fM_joins_14 (d : Nat) : ∀ {a1 : Int32} {a2 : Int32} {a3 : Int32} {a4 : Int32} {w5 w6 : Value} {μ : am_Mu} {out : am_Mu}, fM_joins_14 a1 a2 a3 a4 μ = some out → am_Ex none (d + 1) 189 14 [.ref 108, .int a1, .int a2, .int a3, .int a4, w5, w6] [] am_SH μ (none, am_SH, out) := by
  intro a1 a2 a3 a4 w5 w6 μ out h
  unfold fM_joins_14 at h
  refine am_Ex.seg 3 19 [.ref 108, .int a1, .int a2, .int a3, .int a4, w5, w6] [.int a1, .ref 144] μ (fun _ => rfl) ?_
  obtain ⟨q1, h⟩ := am_bif h
  refine am_Ex.iald (v := (μ 144 ((a1).toNatClampNeg))) rfl rfl q1 rfl ?_
  rcases am_ite h with ⟨q2, h⟩ | ⟨q2, h⟩
  · refine am_Ex.if_ne_t rfl q2 ?_
    refine am_Ex.seg 1 28 [.ref 108, .int a1, .int a2, .int a3, .int a4, w5, w6] [.int a2] μ (fun _ => rfl) ?_
    rcases am_ite h with ⟨q3, h⟩ | ⟨q3, h⟩
    · refine am_Ex.if_eq_t rfl q3 ?_
      exact e_fM_joins_41 d h
    · refine am_Ex.if_eq_f rfl q3 ?_
      refine am_Ex.seg 3 36 [.ref 108, .int a1, .int a2, .int a3, .int a4, w5, w6] [.int a1, .ref 145] μ (fun _ => rfl) ?_
      refine am_Ex.iald (v := (μ 145 ((a1).toNatClampNeg))) rfl rfl q1 rfl ?_
      refine am_Ex.seg 1 38 [.ref 108, .int a1, .int a2, .int a3, .int a4, w5, w6] [.int a3, .int (μ 145 ((a1).toNatClampNeg))] μ (fun _ => rfl) ?_
      rcases am_ite h with ⟨q4, h⟩ | ⟨q4, h⟩
      · refine am_Ex.icmp_ge_t rfl q4 ?_
        refine am_Ex.seg 1 51 [.ref 108, .int a1, .int a2, .int a3, .int a4, w5, w6] [.int a3] μ (fun _ => rfl) ?_
        exact e_fM_joins_51 d h
      · refine am_Ex.icmp_ge_f rfl q4 ?_
        exact e_fM_joins_41 d h
  · refine am_Ex.if_ne_f rfl (Decidable.not_not.mp q2) ?_
    refine am_Ex.seg 1 24 [.ref 108, .int a1, .int a2, .int a3, .int a4, w5, w6] [.int a3] μ (fun _ => rfl) ?_
    refine am_Ex.goto rfl ?_
    exact e_fM_joins_51 d h
set_option maxRecDepth 20000 in
theorem e_fM_joins (d : Nat) : ∀ {a1 : Int32} {a2 : Int32} {a3 : Int32} {a4 : Int32} {μ : am_Mu} {out : am_Mu}, fM_joins a1 a2 a3 a4 μ = some out → am_Ex none (d + 1) 189 0 [.ref 108, .int a1, .int a2, .int a3, .int a4, .null, .null] [] am_SH μ (none, am_SH, out) := by
  intro a1 a2 a3 a4 μ out h
  unfold fM_joins at h
  refine am_Ex.seg 3 5 [.ref 108, .int a1, .int a2, .int a3, .int a4, .null, .null] [.int a1, .ref 144] μ (fun _ => rfl) ?_
  obtain ⟨q1, h⟩ := am_bif h
  refine am_Ex.iald (v := (μ 144 ((a1).toNatClampNeg))) rfl rfl q1 rfl ?_
  rcases am_ite h with ⟨q2, h⟩ | ⟨q2, h⟩
  · refine am_Ex.if_ne_t rfl q2 ?_
    exact e_fM_joins_14 d h
  · refine am_Ex.if_ne_f rfl (Decidable.not_not.mp q2) ?_
    refine am_Ex.seg 1 10 [.ref 108, .int a1, .int a2, .int a3, .int a4, .null, .null] [.int a2] μ (fun _ => rfl) ?_
    rcases am_ite h with ⟨q3, h⟩ | ⟨q3, h⟩
    · refine am_Ex.if_ne_t rfl q3 ?_
      exact e_fM_joins_14 d h
    · refine am_Ex.if_ne_f rfl (Decidable.not_not.mp q3) ?_
      cases h
      exact am_Ex.vret rfl rfl
def fM_asked (a1 : Int32) (a2 : Int32) (a3 : Int32) (μ : am_Mu) : Option (Int32 × am_Mu) := (bif am_inb a1 16 then (if a2 = (-1) then some ((μ 147 ((a1).toNatClampNeg)), μ) else (if ¬ (μ 147 ((a1).toNatClampNeg)) = 0 then (if a2 ≤ (a3 - (μ 148 ((a1).toNatClampNeg))) then (if a2 ≤ (a3 - (μ 149 ((a1).toNatClampNeg))) then some (0, μ) else some (1, μ)) else some ((μ 147 ((a1).toNatClampNeg)), μ)) else some ((μ 147 ((a1).toNatClampNeg)), μ))) else none)
set_option maxRecDepth 20000 in
theorem e_fM_asked (d : Nat) : ∀ {a1 : Int32} {a2 : Int32} {a3 : Int32} {μ : am_Mu} {out : Int32 × am_Mu}, fM_asked a1 a2 a3 μ = some out → am_Ex none (d + 0) 190 0 [.ref 108, .int a1, .int a2, .int a3, .null] [] am_SH μ (some (.int out.1), am_SH, out.2) := by
  intro a1 a2 a3 μ out h
  unfold fM_asked at h
  refine am_Ex.seg 3 5 [.ref 108, .int a1, .int a2, .int a3, .null] [.int a1, .ref 147] μ (fun _ => rfl) ?_
  obtain ⟨q1, h⟩ := am_bif h
  refine am_Ex.iald (v := (μ 147 ((a1).toNatClampNeg))) rfl rfl q1 rfl ?_
  refine am_Ex.seg 3 10 [.ref 108, .int a1, .int a2, .int a3, .int (μ 147 ((a1).toNatClampNeg))] [.int (-1), .int a2] μ (fun _ => rfl) ?_
  rcases am_ite h with ⟨q2, h⟩ | ⟨q2, h⟩
  · refine am_Ex.icmp_eq_t rfl q2 ?_
    refine am_Ex.seg 1 20 [.ref 108, .int a1, .int a2, .int a3, .int (μ 147 ((a1).toNatClampNeg))] [.int (μ 147 ((a1).toNatClampNeg))] μ (fun _ => rfl) ?_
    cases h
    exact am_Ex.iret rfl rfl
  · refine am_Ex.icmp_eq_f rfl q2 ?_
    refine am_Ex.seg 1 15 [.ref 108, .int a1, .int a2, .int a3, .int (μ 147 ((a1).toNatClampNeg))] [.int (μ 147 ((a1).toNatClampNeg))] μ (fun _ => rfl) ?_
    rcases am_ite h with ⟨q3, h⟩ | ⟨q3, h⟩
    · refine am_Ex.if_ne_t rfl q3 ?_
      refine am_Ex.seg 4 27 [.ref 108, .int a1, .int a2, .int a3, .int (μ 147 ((a1).toNatClampNeg))] [.int a1, .ref 148, .int a3] μ (fun _ => rfl) ?_
      refine am_Ex.iald (v := (μ 148 ((a1).toNatClampNeg))) rfl rfl q1 rfl ?_
      refine am_Ex.seg 2 30 [.ref 108, .int a1, .int a2, .int a3, .int (μ 147 ((a1).toNatClampNeg))] [.int a2, .int (a3 - (μ 148 ((a1).toNatClampNeg)))] μ (fun _ => rfl) ?_
      rcases am_ite h with ⟨q4, h⟩ | ⟨q4, h⟩
      · refine am_Ex.icmp_ge_t rfl q4 ?_
        refine am_Ex.seg 4 42 [.ref 108, .int a1, .int a2, .int a3, .int (μ 147 ((a1).toNatClampNeg))] [.int a1, .ref 149, .int a3] μ (fun _ => rfl) ?_
        refine am_Ex.iald (v := (μ 149 ((a1).toNatClampNeg))) rfl rfl q1 rfl ?_
        refine am_Ex.seg 2 45 [.ref 108, .int a1, .int a2, .int a3, .int (μ 147 ((a1).toNatClampNeg))] [.int a2, .int (a3 - (μ 149 ((a1).toNatClampNeg)))] μ (fun _ => rfl) ?_
        rcases am_ite h with ⟨q5, h⟩ | ⟨q5, h⟩
        · refine am_Ex.icmp_ge_t rfl q5 ?_
          refine am_Ex.seg 1 53 [.ref 108, .int a1, .int a2, .int a3, .int (μ 147 ((a1).toNatClampNeg))] [.int 0] μ (fun _ => rfl) ?_
          cases h
          exact am_Ex.iret rfl rfl
        · refine am_Ex.icmp_ge_f rfl q5 ?_
          refine am_Ex.seg 1 49 [.ref 108, .int a1, .int a2, .int a3, .int (μ 147 ((a1).toNatClampNeg))] [.int 1] μ (fun _ => rfl) ?_
          refine am_Ex.goto rfl ?_
          cases h
          exact am_Ex.iret rfl rfl
      · refine am_Ex.icmp_ge_f rfl q4 ?_
        refine am_Ex.seg 1 35 [.ref 108, .int a1, .int a2, .int a3, .int (μ 147 ((a1).toNatClampNeg))] [.int (μ 147 ((a1).toNatClampNeg))] μ (fun _ => rfl) ?_
        cases h
        exact am_Ex.iret rfl rfl
    · refine am_Ex.if_ne_f rfl (Decidable.not_not.mp q3) ?_
      refine am_Ex.seg 1 20 [.ref 108, .int a1, .int a2, .int a3, .int (μ 147 ((a1).toNatClampNeg))] [.int (μ 147 ((a1).toNatClampNeg))] μ (fun _ => rfl) ?_
      cases h
      exact am_Ex.iret rfl rfl
def fM_holds_252 (μ : am_Mu) : Option (Int32 × am_Mu) := some ((μ 150 0), μ)
def fM_holds_246 (k22 : Int32 → Int32 → Int32 → Int32 → Int32 → Int32 → am_Mu → Option (Int32 × am_Mu)) (a1 : Int32) (a2 : Int32) (a3 : Int32) (a4 : Int32) (a5 : Int32) (a6 : Int32) (μ : am_Mu) : Option (Int32 × am_Mu) := k22 a1 a2 a3 a4 a5 (a6 + 1) μ
def fM_holds_107 (k22 : Int32 → Int32 → Int32 → Int32 → Int32 → Int32 → am_Mu → Option (Int32 × am_Mu)) (a1 : Int32) (a2 : Int32) (a3 : Int32) (a4 : Int32) (a5 : Int32) (a6 : Int32) (s1 : Int32) (s3 : Int32) (μ : am_Mu) : Option (Int32 × am_Mu) := (bif am_inb a6 960 then ((fM_asked s3 (μ 122 ((a6).toNatClampNeg)) a4 μ).bind fun q2 => (bif am_inb s1 100 then fM_holds_246 k22 a1 a2 a3 a4 (a5 + 1) a6 (am_up q2.2 150 ((s1).toNatClampNeg) q2.1) else none)) else none)
def fM_holds_230 (k22 : Int32 → Int32 → Int32 → Int32 → Int32 → Int32 → am_Mu → Option (Int32 × am_Mu)) (a1 : Int32) (a2 : Int32) (a3 : Int32) (a4 : Int32) (a5 : Int32) (a6 : Int32) (μ : am_Mu) : Option (Int32 × am_Mu) := (bif am_inb a5 100 then (bif am_inb (a5 - 1) 100 then fM_holds_246 k22 a1 a2 a3 a4 a5 a6 (am_up μ 150 (((a5 - 1)).toNatClampNeg) (μ 150 ((a5).toNatClampNeg))) else none) else none)
def fM_holds_182 (k22 : Int32 → Int32 → Int32 → Int32 → Int32 → Int32 → am_Mu → Option (Int32 × am_Mu)) (a1 : Int32) (a2 : Int32) (a3 : Int32) (a4 : Int32) (a5 : Int32) (a6 : Int32) (s0 : Int32) (μ : am_Mu) : Option (Int32 × am_Mu) := (if s0 = 0 then (bif am_inb a5 100 then (bif am_inb (a5 - 1) 100 then (if (μ 150 ((a5).toNatClampNeg)) ≤ (μ 150 (((a5 - 1)).toNatClampNeg)) then fM_holds_246 k22 a1 a2 a3 a4 a5 a6 μ else fM_holds_230 k22 a1 a2 a3 a4 a5 a6 μ) else none) else none) else (bif am_inb a5 100 then (bif am_inb (a5 - 1) 100 then (if (μ 150 (((a5 - 1)).toNatClampNeg)) ≤ (μ 150 ((a5).toNatClampNeg)) then fM_holds_246 k22 a1 a2 a3 a4 a5 a6 μ else fM_holds_230 k22 a1 a2 a3 a4 a5 a6 μ) else none) else none))
def fM_holds_22 : Nat → Int32 → Int32 → Int32 → Int32 → Int32 → Int32 → am_Mu → Option (Int32 × am_Mu)
  | 0, _, _, _, _, _, _, _ => none
  | n + 1, a1, a2, a3, a4, a5, a6, μ => (bif am_inb (((24 : Int32) * a1) + a2) 96 then (if (((240 : Int32) * a1) + (μ 117 (((((24 : Int32) * a1) + a2)).toNatClampNeg))) ≤ a6 then fM_holds_252 μ else (bif am_inb a6 960 then (if (μ 120 ((a6).toNatClampNeg)) = 0 then (if a3 = 0 then fM_holds_107 (fM_holds_22 n) a1 a2 a3 a4 a5 a6 a5 (μ 121 ((a6).toNatClampNeg)) μ else fM_holds_107 (fM_holds_22 n) a1 a2 a3 a4 a5 a6 a5 ((μ 121 ((a6).toNatClampNeg)) ^^^ 8) μ) else (if (μ 120 ((a6).toNatClampNeg)) = 1 then (bif am_inb a5 100 then fM_holds_246 (fM_holds_22 n) a1 a2 a3 a4 (a5 + 1) a6 (am_up μ 150 ((a5).toNatClampNeg) 2) else none) else (if (μ 120 ((a6).toNatClampNeg)) = 2 then (bif am_inb (a5 - 1) 100 then fM_holds_246 (fM_holds_22 n) a1 a2 a3 a4 a5 a6 (am_up μ 150 (((a5 - 1)).toNatClampNeg) ((2 : Int32) - (μ 150 (((a5 - 1)).toNatClampNeg)))) else none) else (if ¬ (μ 120 ((a6).toNatClampNeg)) = 3 then fM_holds_182 (fM_holds_22 n) a1 a2 a3 a4 (a5 + (-1)) a6 0 μ else fM_holds_182 (fM_holds_22 n) a1 a2 a3 a4 (a5 + (-1)) a6 1 μ)))) else none)) else none)
def fM_holds (a1 : Int32) (a2 : Int32) (a3 : Int32) (a4 : Int32) (μ : am_Mu) : Option (Int32 × am_Mu) := (bif am_inb (((24 : Int32) * a1) + a2) 96 then fM_holds_22 am_F a1 a2 a3 a4 0 (((240 : Int32) * a1) + (μ 116 (((((24 : Int32) * a1) + a2)).toNatClampNeg))) μ else none)
set_option maxRecDepth 20000 in
theorem e_fM_holds_252 (d : Nat) : ∀ {w1 w2 w3 w4 w5 w6 w7 : Value} {μ : am_Mu} {out : Int32 × am_Mu}, fM_holds_252 μ = some out → am_Ex none (d + 1) 191 252 [.ref 108, w1, w2, w3, w4, w5, w6, w7] [] am_SH μ (some (.int out.1), am_SH, out.2) := by
  intro w1 w2 w3 w4 w5 w6 w7 μ out h
  unfold fM_holds_252 at h
  refine am_Ex.seg 3 257 [.ref 108, w1, w2, w3, w4, w5, w6, w7] [.int 0, .ref 150] μ (fun _ => rfl) ?_
  refine am_Ex.iald (v := (μ 150 0)) rfl rfl rfl rfl ?_
  cases h
  exact am_Ex.iret rfl rfl
set_option maxRecDepth 20000 in
theorem e_fM_holds_246 (d : Nat) {k22 : Int32 → Int32 → Int32 → Int32 → Int32 → Int32 → am_Mu → Option (Int32 × am_Mu)} (hk22 : ∀ {a1 : Int32} {a2 : Int32} {a3 : Int32} {a4 : Int32} {a5 : Int32} {a6 : Int32} {w7 : Value} {μ : am_Mu} {out : Int32 × am_Mu}, k22 a1 a2 a3 a4 a5 a6 μ = some out → am_Ex none (d + 1) 191 22 [.ref 108, .int a1, .int a2, .int a3, .int a4, .int a5, .int a6, w7] [] am_SH μ (some (.int out.1), am_SH, out.2)) : ∀ {a1 : Int32} {a2 : Int32} {a3 : Int32} {a4 : Int32} {a5 : Int32} {a6 : Int32} {w7 : Value} {μ : am_Mu} {out : Int32 × am_Mu}, fM_holds_246 k22 a1 a2 a3 a4 a5 a6 μ = some out → am_Ex none (d + 1) 191 246 [.ref 108, .int a1, .int a2, .int a3, .int a4, .int a5, .int a6, w7] [] am_SH μ (some (.int out.1), am_SH, out.2) := by
  intro a1 a2 a3 a4 a5 a6 w7 μ out h
  unfold fM_holds_246 at h
  refine am_Ex.seg 1 249 [.ref 108, .int a1, .int a2, .int a3, .int a4, .int a5, .int (a6 + 1), w7] [] μ (fun _ => rfl) ?_
  refine am_Ex.goto rfl ?_
  exact hk22 h
set_option maxRecDepth 20000 in
theorem e_fM_holds_107 (d : Nat) {k22 : Int32 → Int32 → Int32 → Int32 → Int32 → Int32 → am_Mu → Option (Int32 × am_Mu)} (hk22 : ∀ {a1 : Int32} {a2 : Int32} {a3 : Int32} {a4 : Int32} {a5 : Int32} {a6 : Int32} {w7 : Value} {μ : am_Mu} {out : Int32 × am_Mu}, k22 a1 a2 a3 a4 a5 a6 μ = some out → am_Ex none (d + 1) 191 22 [.ref 108, .int a1, .int a2, .int a3, .int a4, .int a5, .int a6, w7] [] am_SH μ (some (.int out.1), am_SH, out.2)) : ∀ {a1 : Int32} {a2 : Int32} {a3 : Int32} {a4 : Int32} {a5 : Int32} {a6 : Int32} {s1 : Int32} {s3 : Int32} {w7 : Value} {μ : am_Mu} {out : Int32 × am_Mu}, fM_holds_107 k22 a1 a2 a3 a4 a5 a6 s1 s3 μ = some out → am_Ex none (d + 1) 191 107 [.ref 108, .int a1, .int a2, .int a3, .int a4, .int a5, .int a6, w7] [.int s3, .ref 108, .int s1, .ref 150] am_SH μ (some (.int out.1), am_SH, out.2) := by
  intro a1 a2 a3 a4 a5 a6 s1 s3 w7 μ out h
  unfold fM_holds_107 at h
  refine am_Ex.seg 3 113 [.ref 108, .int a1, .int a2, .int a3, .int a4, .int a5, .int a6, w7] [.int a6, .ref 122, .int s3, .ref 108, .int s1, .ref 150] μ (fun _ => rfl) ?_
  obtain ⟨q1, h⟩ := am_bif h
  refine am_Ex.iald (v := (μ 122 ((a6).toNatClampNeg))) rfl rfl q1 rfl ?_
  refine am_Ex.seg 1 116 [.ref 108, .int a1, .int a2, .int a3, .int a4, .int a5, .int a6, w7] [.int a4, .int (μ 122 ((a6).toNatClampNeg)), .int s3, .ref 108, .int s1, .ref 150] μ (fun _ => rfl) ?_
  obtain ⟨q2, h_q2, h⟩ := am_bind h
  refine am_Ex.ivk (na := 4) (b := 108) (As' := [.int s3, .int (μ 122 ((a6).toNatClampNeg)), .int a4]) rfl rfl rfl rfl rfl rfl rfl rfl rfl (e_fM_asked (d + 0) h_q2) ?_
  refine am_Ex.same 119 [.ref 108, .int a1, .int a2, .int a3, .int a4, .int a5, .int a6, w7] [.int q2.1, .int s1, .ref 150] q2.2 rfl ?_
  obtain ⟨q3, h⟩ := am_bif h
  refine am_Ex.iast (v2 := q2.1) (i2 := (s1).toNatClampNeg) rfl rfl q3 rfl rfl ?_
  refine am_Ex.seg 1 123 [.ref 108, .int a1, .int a2, .int a3, .int a4, .int (a5 + 1), .int a6, w7] [] (am_up q2.2 150 ((s1).toNatClampNeg) q2.1) (fun _ => rfl) ?_
  refine am_Ex.goto rfl ?_
  exact e_fM_holds_246 d hk22 h
set_option maxRecDepth 20000 in
theorem e_fM_holds_230 (d : Nat) {k22 : Int32 → Int32 → Int32 → Int32 → Int32 → Int32 → am_Mu → Option (Int32 × am_Mu)} (hk22 : ∀ {a1 : Int32} {a2 : Int32} {a3 : Int32} {a4 : Int32} {a5 : Int32} {a6 : Int32} {w7 : Value} {μ : am_Mu} {out : Int32 × am_Mu}, k22 a1 a2 a3 a4 a5 a6 μ = some out → am_Ex none (d + 1) 191 22 [.ref 108, .int a1, .int a2, .int a3, .int a4, .int a5, .int a6, w7] [] am_SH μ (some (.int out.1), am_SH, out.2)) : ∀ {a1 : Int32} {a2 : Int32} {a3 : Int32} {a4 : Int32} {a5 : Int32} {a6 : Int32} {w7 : Value} {μ : am_Mu} {out : Int32 × am_Mu}, fM_holds_230 k22 a1 a2 a3 a4 a5 a6 μ = some out → am_Ex none (d + 1) 191 230 [.ref 108, .int a1, .int a2, .int a3, .int a4, .int a5, .int a6, w7] [] am_SH μ (some (.int out.1), am_SH, out.2) := by
  intro a1 a2 a3 a4 a5 a6 w7 μ out h
  unfold fM_holds_230 at h
  refine am_Ex.seg 8 244 [.ref 108, .int a1, .int a2, .int a3, .int a4, .int a5, .int a6, w7] [.int a5, .ref 150, .int (a5 - 1), .ref 150] μ (fun _ => rfl) ?_
  obtain ⟨q1, h⟩ := am_bif h
  refine am_Ex.iald (v := (μ 150 ((a5).toNatClampNeg))) rfl rfl q1 rfl ?_
  obtain ⟨q2, h⟩ := am_bif h
  refine am_Ex.iast (v2 := (μ 150 ((a5).toNatClampNeg))) (i2 := ((a5 - 1)).toNatClampNeg) rfl rfl q2 rfl rfl ?_
  exact e_fM_holds_246 d hk22 h
set_option maxRecDepth 20000 in
theorem e_fM_holds_182 (d : Nat) {k22 : Int32 → Int32 → Int32 → Int32 → Int32 → Int32 → am_Mu → Option (Int32 × am_Mu)} (hk22 : ∀ {a1 : Int32} {a2 : Int32} {a3 : Int32} {a4 : Int32} {a5 : Int32} {a6 : Int32} {w7 : Value} {μ : am_Mu} {out : Int32 × am_Mu}, k22 a1 a2 a3 a4 a5 a6 μ = some out → am_Ex none (d + 1) 191 22 [.ref 108, .int a1, .int a2, .int a3, .int a4, .int a5, .int a6, w7] [] am_SH μ (some (.int out.1), am_SH, out.2)) : ∀ {a1 : Int32} {a2 : Int32} {a3 : Int32} {a4 : Int32} {a5 : Int32} {a6 : Int32} {s0 : Int32} {w7 : Value} {μ : am_Mu} {out : Int32 × am_Mu}, fM_holds_182 k22 a1 a2 a3 a4 a5 a6 s0 μ = some out → am_Ex none (d + 1) 191 182 [.ref 108, .int a1, .int a2, .int a3, .int a4, .int a5, .int a6, w7] [.int s0] am_SH μ (some (.int out.1), am_SH, out.2) := by
  intro a1 a2 a3 a4 a5 a6 s0 w7 μ out h
  unfold fM_holds_182 at h
  refine am_Ex.seg 2 186 [.ref 108, .int a1, .int a2, .int a3, .int a4, .int a5, .int a6, .int s0] [.int s0] μ (fun _ => rfl) ?_
  rcases am_ite h with ⟨q1, h⟩ | ⟨q1, h⟩
  · refine am_Ex.if_eq_t rfl q1 ?_
    refine am_Ex.seg 3 217 [.ref 108, .int a1, .int a2, .int a3, .int a4, .int a5, .int a6, .int s0] [.int a5, .ref 150] μ (fun _ => rfl) ?_
    obtain ⟨q2, h⟩ := am_bif h
    refine am_Ex.iald (v := (μ 150 ((a5).toNatClampNeg))) rfl rfl q2 rfl ?_
    refine am_Ex.seg 5 226 [.ref 108, .int a1, .int a2, .int a3, .int a4, .int a5, .int a6, .int s0] [.int (a5 - 1), .ref 150, .int (μ 150 ((a5).toNatClampNeg))] μ (fun _ => rfl) ?_
    obtain ⟨q3, h⟩ := am_bif h
    refine am_Ex.iald (v := (μ 150 (((a5 - 1)).toNatClampNeg))) rfl rfl q3 rfl ?_
    rcases am_ite h with ⟨q4, h⟩ | ⟨q4, h⟩
    · refine am_Ex.icmp_le_t rfl q4 ?_
      exact e_fM_holds_246 d hk22 h
    · refine am_Ex.icmp_le_f rfl q4 ?_
      exact e_fM_holds_230 d hk22 h
  · refine am_Ex.if_eq_f rfl q1 ?_
    refine am_Ex.seg 3 195 [.ref 108, .int a1, .int a2, .int a3, .int a4, .int a5, .int a6, .int s0] [.int a5, .ref 150] μ (fun _ => rfl) ?_
    obtain ⟨q5, h⟩ := am_bif h
    refine am_Ex.iald (v := (μ 150 ((a5).toNatClampNeg))) rfl rfl q5 rfl ?_
    refine am_Ex.seg 5 204 [.ref 108, .int a1, .int a2, .int a3, .int a4, .int a5, .int a6, .int s0] [.int (a5 - 1), .ref 150, .int (μ 150 ((a5).toNatClampNeg))] μ (fun _ => rfl) ?_
    obtain ⟨q6, h⟩ := am_bif h
    refine am_Ex.iald (v := (μ 150 (((a5 - 1)).toNatClampNeg))) rfl rfl q6 rfl ?_
    rcases am_ite h with ⟨q7, h⟩ | ⟨q7, h⟩
    · refine am_Ex.icmp_ge_t rfl q7 ?_
      exact e_fM_holds_246 d hk22 h
    · refine am_Ex.icmp_ge_f rfl q7 ?_
      refine am_Ex.goto rfl ?_
      exact e_fM_holds_230 d hk22 h
set_option maxRecDepth 20000 in
theorem e_fM_holds_22 (d : Nat) : ∀ n : Nat, ∀ {a1 : Int32} {a2 : Int32} {a3 : Int32} {a4 : Int32} {a5 : Int32} {a6 : Int32} {w7 : Value} {μ : am_Mu} {out : Int32 × am_Mu}, fM_holds_22 n a1 a2 a3 a4 a5 a6 μ = some out → am_Ex none (d + 1) 191 22 [.ref 108, .int a1, .int a2, .int a3, .int a4, .int a5, .int a6, w7] [] am_SH μ (some (.int out.1), am_SH, out.2) := by
  intro n
  induction n with
  | zero => intros; contradiction
  | succ n ih =>
    have hk22 : ∀ {a1 : Int32} {a2 : Int32} {a3 : Int32} {a4 : Int32} {a5 : Int32} {a6 : Int32} {w7 : Value} {μ : am_Mu} {out : Int32 × am_Mu}, (fM_holds_22 n) a1 a2 a3 a4 a5 a6 μ = some out → am_Ex none (d + 1) 191 22 [.ref 108, .int a1, .int a2, .int a3, .int a4, .int a5, .int a6, w7] [] am_SH μ (some (.int out.1), am_SH, out.2) := ih
    intro a1 a2 a3 a4 a5 a6 w7 μ out h
    unfold fM_holds_22 at h
    refine am_Ex.seg 11 39 [.ref 108, .int a1, .int a2, .int a3, .int a4, .int a5, .int a6, w7] [.int (((24 : Int32) * a1) + a2), .ref 117, .int ((240 : Int32) * a1), .int a6] μ (fun _ => rfl) ?_
    obtain ⟨q1, h⟩ := am_bif h
    refine am_Ex.iald (v := (μ 117 (((((24 : Int32) * a1) + a2)).toNatClampNeg))) rfl rfl q1 rfl ?_
    refine am_Ex.seg 1 41 [.ref 108, .int a1, .int a2, .int a3, .int a4, .int a5, .int a6, w7] [.int (((240 : Int32) * a1) + (μ 117 (((((24 : Int32) * a1) + a2)).toNatClampNeg))), .int a6] μ (fun _ => rfl) ?_
    rcases am_ite h with ⟨q2, h⟩ | ⟨q2, h⟩
    · refine am_Ex.icmp_ge_t rfl q2 ?_
      exact e_fM_holds_252 d h
    · refine am_Ex.icmp_ge_f rfl q2 ?_
      refine am_Ex.seg 3 50 [.ref 108, .int a1, .int a2, .int a3, .int a4, .int a5, .int a6, w7] [.int a6, .ref 120] μ (fun _ => rfl) ?_
      obtain ⟨q3, h⟩ := am_bif h
      refine am_Ex.iald (v := (μ 120 ((a6).toNatClampNeg))) rfl rfl q3 rfl ?_
      rcases am_ite h with ⟨q4, h⟩ | ⟨q4, h⟩
      · refine am_Ex.tblIn 76 (v := 0) rfl q4 (by decide) rfl rfl ?_
        refine am_Ex.seg 5 84 [.ref 108, .int a1, .int a2, .int a3, .int a4, .int a5, .int a6, w7] [.int a3, .ref 108, .int a5, .ref 150] μ (fun _ => rfl) ?_
        rcases am_ite h with ⟨q5, h⟩ | ⟨q5, h⟩
        · refine am_Ex.if_eq_t rfl q5 ?_
          refine am_Ex.seg 3 106 [.ref 108, .int a1, .int a2, .int a3, .int a4, .int a5, .int a6, w7] [.int a6, .ref 121, .ref 108, .int a5, .ref 150] μ (fun _ => rfl) ?_
          refine am_Ex.iald (v := (μ 121 ((a6).toNatClampNeg))) rfl rfl q3 rfl ?_
          exact e_fM_holds_107 d hk22 h
        · refine am_Ex.if_eq_f rfl q5 ?_
          refine am_Ex.seg 3 93 [.ref 108, .int a1, .int a2, .int a3, .int a4, .int a5, .int a6, w7] [.int a6, .ref 121, .ref 108, .int a5, .ref 150] μ (fun _ => rfl) ?_
          refine am_Ex.iald (v := (μ 121 ((a6).toNatClampNeg))) rfl rfl q3 rfl ?_
          refine am_Ex.seg 2 97 [.ref 108, .int a1, .int a2, .int a3, .int a4, .int a5, .int a6, w7] [.int ((μ 121 ((a6).toNatClampNeg)) ^^^ 8), .ref 108, .int a5, .ref 150] μ (fun _ => rfl) ?_
          refine am_Ex.goto rfl ?_
          exact e_fM_holds_107 d hk22 h
      rcases am_ite h with ⟨q6, h⟩ | ⟨q6, h⟩
      · refine am_Ex.tblIn 126 (v := 1) rfl q6 (by decide) rfl rfl ?_
        refine am_Ex.seg 4 133 [.ref 108, .int a1, .int a2, .int a3, .int a4, .int a5, .int a6, w7] [.int 2, .int a5, .ref 150] μ (fun _ => rfl) ?_
        obtain ⟨q7, h⟩ := am_bif h
        refine am_Ex.iast (v2 := 2) (i2 := (a5).toNatClampNeg) rfl rfl q7 rfl rfl ?_
        refine am_Ex.seg 1 137 [.ref 108, .int a1, .int a2, .int a3, .int a4, .int (a5 + 1), .int a6, w7] [] (am_up μ 150 ((a5).toNatClampNeg) 2) (fun _ => rfl) ?_
        refine am_Ex.goto rfl ?_
        exact e_fM_holds_246 d hk22 h
      rcases am_ite h with ⟨q8, h⟩ | ⟨q8, h⟩
      · refine am_Ex.tblIn 140 (v := 2) rfl q8 (by decide) rfl rfl ?_
        refine am_Ex.seg 11 157 [.ref 108, .int a1, .int a2, .int a3, .int a4, .int a5, .int a6, w7] [.int (a5 - 1), .ref 150, .int 2, .int (a5 - 1), .ref 150] μ (fun _ => rfl) ?_
        obtain ⟨q9, h⟩ := am_bif h
        refine am_Ex.iald (v := (μ 150 (((a5 - 1)).toNatClampNeg))) rfl rfl q9 rfl ?_
        refine am_Ex.seg 1 159 [.ref 108, .int a1, .int a2, .int a3, .int a4, .int a5, .int a6, w7] [.int ((2 : Int32) - (μ 150 (((a5 - 1)).toNatClampNeg))), .int (a5 - 1), .ref 150] μ (fun _ => rfl) ?_
        refine am_Ex.iast (v2 := ((2 : Int32) - (μ 150 (((a5 - 1)).toNatClampNeg)))) (i2 := ((a5 - 1)).toNatClampNeg) rfl rfl q9 rfl rfl ?_
        refine am_Ex.goto rfl ?_
        exact e_fM_holds_246 d hk22 h
      refine am_Ex.tblOut 163 rfl (by have := lv_neT q4 (a := 0) rfl; have := lv_neT q6 (a := 1) rfl; have := lv_neT q8 (a := 2) rfl; omega) rfl ?_
      refine am_Ex.seg 4 172 [.ref 108, .int a1, .int a2, .int a3, .int a4, .int (a5 + (-1)), .int a6, w7] [.int a6, .ref 120] μ (fun _ => rfl) ?_
      refine am_Ex.iald (v := (μ 120 ((a6).toNatClampNeg))) rfl rfl q3 rfl ?_
      refine am_Ex.seg 1 174 [.ref 108, .int a1, .int a2, .int a3, .int a4, .int (a5 + (-1)), .int a6, w7] [.int 3, .int (μ 120 ((a6).toNatClampNeg))] μ (fun _ => rfl) ?_
      rcases am_ite h with ⟨q10, h⟩ | ⟨q10, h⟩
      · refine am_Ex.icmp_ne_t rfl q10 ?_
        refine am_Ex.seg 1 182 [.ref 108, .int a1, .int a2, .int a3, .int a4, .int (a5 + (-1)), .int a6, w7] [.int 0] μ (fun _ => rfl) ?_
        exact e_fM_holds_182 d hk22 h
      · refine am_Ex.icmp_ne_f rfl (Decidable.not_not.mp q10) ?_
        refine am_Ex.seg 1 178 [.ref 108, .int a1, .int a2, .int a3, .int a4, .int (a5 + (-1)), .int a6, w7] [.int 1] μ (fun _ => rfl) ?_
        refine am_Ex.goto rfl ?_
        exact e_fM_holds_182 d hk22 h
set_option maxRecDepth 20000 in
theorem e_fM_holds (d : Nat) : ∀ {a1 : Int32} {a2 : Int32} {a3 : Int32} {a4 : Int32} {μ : am_Mu} {out : Int32 × am_Mu}, fM_holds a1 a2 a3 a4 μ = some out → am_Ex none (d + 1) 191 0 [.ref 108, .int a1, .int a2, .int a3, .int a4, .null, .null, .null] [] am_SH μ (some (.int out.1), am_SH, out.2) := by
  intro a1 a2 a3 a4 μ out h
  unfold fM_holds at h
  refine am_Ex.seg 12 18 [.ref 108, .int a1, .int a2, .int a3, .int a4, .int 0, .null, .null] [.int (((24 : Int32) * a1) + a2), .ref 116, .int ((240 : Int32) * a1)] μ (fun _ => rfl) ?_
  obtain ⟨q1, h⟩ := am_bif h
  refine am_Ex.iald (v := (μ 116 (((((24 : Int32) * a1) + a2)).toNatClampNeg))) rfl rfl q1 rfl ?_
  refine am_Ex.seg 2 22 [.ref 108, .int a1, .int a2, .int a3, .int a4, .int 0, .int (((240 : Int32) * a1) + (μ 116 (((((24 : Int32) * a1) + a2)).toNatClampNeg))), .null] [] μ (fun _ => rfl) ?_
  exact e_fM_holds_22 d am_F h
