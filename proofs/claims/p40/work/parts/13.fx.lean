section
variable {tl : am_Sh}
def fFeasts_beginOf (a0 : Int32) (μ : am_Mu) : Option (Int32 × am_Mu) := some (((a0 * 2953) / 100), μ)
set_option maxRecDepth 20000 in
theorem e_fFeasts_beginOf (d : Nat) : ∀ {a0 : Int32} {μ : am_Mu} {out : Int32 × am_Mu}, fFeasts_beginOf a0 μ = some out → am_Ex none (d + 0) 1 0 [.int a0] [] (am_SX tl) μ (some (.int out.1), (am_SX tl), out.2) := by
  intro a0 μ out h
  unfold fFeasts_beginOf at h
  refine am_Ex.seg 4 7 [.int a0] [.int 100, .int (a0 * 2953)] μ (fun _ => rfl) ?_
  refine am_Ex.idiv rfl (by decide) ?_
  cases h
  exact am_Ex.iret rfl rfl
def fFeasts_monthOf_20 (k4 : Int32 → Int32 → Int32 → am_Mu → Option (Int32 × am_Mu)) (a0 : Int32) (a1 : Int32) (a2 : Int32) (μ : am_Mu) : Option (Int32 × am_Mu) := k4 a0 a1 (a2 + 1) μ
def fFeasts_monthOf_4 : Nat → Int32 → Int32 → Int32 → am_Mu → Option (Int32 × am_Mu)
  | 0, _, _, _, _ => none
  | n + 1, a0, a1, a2, μ => (if 34 ≤ a2 then some (a1, μ) else ((fFeasts_beginOf a2 μ).bind fun q2 => (if a0 < q2.1 then fFeasts_monthOf_20 (fFeasts_monthOf_4 n) a0 a1 a2 q2.2 else fFeasts_monthOf_20 (fFeasts_monthOf_4 n) a0 a2 a2 q2.2)))
def fFeasts_monthOf (a0 : Int32) (μ : am_Mu) : Option (Int32 × am_Mu) := fFeasts_monthOf_4 am_F a0 0 1 μ
set_option maxRecDepth 20000 in
theorem e_fFeasts_monthOf_20 (d : Nat) {k4 : Int32 → Int32 → Int32 → am_Mu → Option (Int32 × am_Mu)} (hk4 : ∀ {a0 : Int32} {a1 : Int32} {a2 : Int32} {μ : am_Mu} {out : Int32 × am_Mu}, k4 a0 a1 a2 μ = some out → am_Ex none (d + 1) 2 4 [.int a0, .int a1, .int a2] [] (am_SX tl) μ (some (.int out.1), (am_SX tl), out.2)) : ∀ {a0 : Int32} {a1 : Int32} {a2 : Int32} {μ : am_Mu} {out : Int32 × am_Mu}, fFeasts_monthOf_20 k4 a0 a1 a2 μ = some out → am_Ex none (d + 1) 2 20 [.int a0, .int a1, .int a2] [] (am_SX tl) μ (some (.int out.1), (am_SX tl), out.2) := by
  intro a0 a1 a2 μ out h
  unfold fFeasts_monthOf_20 at h
  refine am_Ex.seg 1 23 [.int a0, .int a1, .int (a2 + 1)] [] μ (fun _ => rfl) ?_
  refine am_Ex.goto rfl ?_
  exact hk4 h
set_option maxRecDepth 20000 in
theorem e_fFeasts_monthOf_4 (d : Nat) : ∀ n : Nat, ∀ {a0 : Int32} {a1 : Int32} {a2 : Int32} {μ : am_Mu} {out : Int32 × am_Mu}, fFeasts_monthOf_4 n a0 a1 a2 μ = some out → am_Ex none (d + 1) 2 4 [.int a0, .int a1, .int a2] [] (am_SX tl) μ (some (.int out.1), (am_SX tl), out.2) := by
  intro n
  induction n with
  | zero => intros; contradiction
  | succ n ih =>
    have hk4 : ∀ {a0 : Int32} {a1 : Int32} {a2 : Int32} {μ : am_Mu} {out : Int32 × am_Mu}, (fFeasts_monthOf_4 n) a0 a1 a2 μ = some out → am_Ex none (d + 1) 2 4 [.int a0, .int a1, .int a2] [] (am_SX tl) μ (some (.int out.1), (am_SX tl), out.2) := ih
    intro a0 a1 a2 μ out h
    unfold fFeasts_monthOf_4 at h
    refine am_Ex.seg 2 7 [.int a0, .int a1, .int a2] [.int 34, .int a2] μ (fun _ => rfl) ?_
    rcases am_ite h with ⟨q1, h⟩ | ⟨q1, h⟩
    · refine am_Ex.icmp_ge_t rfl q1 ?_
      refine am_Ex.seg 1 27 [.int a0, .int a1, .int a2] [.int a1] μ (fun _ => rfl) ?_
      cases h
      exact am_Ex.iret rfl rfl
    · refine am_Ex.icmp_ge_f rfl q1 ?_
      refine am_Ex.seg 1 11 [.int a0, .int a1, .int a2] [.int a2] μ (fun _ => rfl) ?_
      obtain ⟨q2, h_q2, h⟩ := am_bind h
      refine am_Ex.isk (na := 1) rfl (As := [.int a2]) rfl rfl rfl rfl rfl rfl (e_fFeasts_beginOf (d + 0) h_q2) ?_
      refine am_Ex.same 14 [.int a0, .int a1, .int a2] [.int q2.1] q2.2 rfl ?_
      refine am_Ex.seg 1 15 [.int a0, .int a1, .int a2] [.int a0, .int q2.1] q2.2 (fun _ => rfl) ?_
      rcases am_ite h with ⟨q3, h⟩ | ⟨q3, h⟩
      · refine am_Ex.icmp_gt_t rfl q3 ?_
        exact e_fFeasts_monthOf_20 d hk4 h
      · refine am_Ex.icmp_gt_f rfl q3 ?_
        refine am_Ex.seg 2 20 [.int a0, .int a2, .int a2] [] q2.2 (fun _ => rfl) ?_
        exact e_fFeasts_monthOf_20 d hk4 h
set_option maxRecDepth 20000 in
theorem e_fFeasts_monthOf (d : Nat) : ∀ {a0 : Int32} {μ : am_Mu} {out : Int32 × am_Mu}, fFeasts_monthOf a0 μ = some out → am_Ex none (d + 1) 2 0 [.int a0, .null, .null] [] (am_SX tl) μ (some (.int out.1), (am_SX tl), out.2) := by
  intro a0 μ out h
  unfold fFeasts_monthOf at h
  refine am_Ex.seg 4 4 [.int a0, .int 0, .int 1] [] μ (fun _ => rfl) ?_
  exact e_fFeasts_monthOf_4 d am_F h
def fFeasts_isKept_77 (k10 : Int32 → Int32 → Int32 → am_Mu → Option (Int32 × am_Mu)) (a1 : Int32) (a3 : Int32) (a4 : Int32) (μ : am_Mu) : Option (Int32 × am_Mu) := k10 a1 a3 (a4 + 1) μ
def fFeasts_isKept_38 (k10 : Int32 → Int32 → Int32 → am_Mu → Option (Int32 × am_Mu)) (a1 : Int32) (a3 : Int32) (a4 : Int32) (s0 : Int32) (μ : am_Mu) : Option (Int32 × am_Mu) := (if s0 = 0 then fFeasts_isKept_77 k10 a1 a3 a4 μ else (bif am_inb a4 6 then (if a3 < (μ 3 ((a4).toNatClampNeg)) then fFeasts_isKept_77 k10 a1 a3 a4 μ else (if ((μ 3 ((a4).toNatClampNeg)) + (μ 4 ((a4).toNatClampNeg))) ≤ a3 then fFeasts_isKept_77 k10 a1 a3 a4 μ else some (1, μ))) else none))
def fFeasts_isKept_10 : Nat → Int32 → Int32 → Int32 → am_Mu → Option (Int32 × am_Mu)
  | 0, _, _, _, _ => none
  | n + 1, a1, a3, a4, μ => (if (μ 1 3) ≤ a4 then some (0, μ) else (bif am_inb a4 6 then (if ¬ (μ 2 ((a4).toNatClampNeg)) = (a1 - (a1 / 12) * 12) then fFeasts_isKept_38 (fFeasts_isKept_10 n) a1 a3 a4 0 μ else fFeasts_isKept_38 (fFeasts_isKept_10 n) a1 a3 a4 1 μ) else none))
def fFeasts_isKept (a1 : Int32) (a2 : Int32) (μ : am_Mu) : Option (Int32 × am_Mu) := ((fFeasts_beginOf a1 μ).bind fun q1 => fFeasts_isKept_10 am_F a1 (a2 - q1.1) 0 q1.2)
set_option maxRecDepth 20000 in
theorem e_fFeasts_isKept_77 (d : Nat) {k10 : Int32 → Int32 → Int32 → am_Mu → Option (Int32 × am_Mu)} (hk10 : ∀ {a1 : Int32} {a3 : Int32} {a4 : Int32} {w2 w5 : Value} {μ : am_Mu} {out : Int32 × am_Mu}, k10 a1 a3 a4 μ = some out → am_Ex none (d + 1) 4 10 [.ref 1, .int a1, w2, .int a3, .int a4, w5] [] (am_SX tl) μ (some (.int out.1), (am_SX tl), out.2)) : ∀ {a1 : Int32} {a3 : Int32} {a4 : Int32} {w2 w5 : Value} {μ : am_Mu} {out : Int32 × am_Mu}, fFeasts_isKept_77 k10 a1 a3 a4 μ = some out → am_Ex none (d + 1) 4 77 [.ref 1, .int a1, w2, .int a3, .int a4, w5] [] (am_SX tl) μ (some (.int out.1), (am_SX tl), out.2) := by
  intro a1 a3 a4 w2 w5 μ out h
  unfold fFeasts_isKept_77 at h
  refine am_Ex.seg 1 80 [.ref 1, .int a1, w2, .int a3, .int (a4 + 1), w5] [] μ (fun _ => rfl) ?_
  refine am_Ex.goto rfl ?_
  exact hk10 h
set_option maxRecDepth 20000 in
theorem e_fFeasts_isKept_38 (d : Nat) {k10 : Int32 → Int32 → Int32 → am_Mu → Option (Int32 × am_Mu)} (hk10 : ∀ {a1 : Int32} {a3 : Int32} {a4 : Int32} {w2 w5 : Value} {μ : am_Mu} {out : Int32 × am_Mu}, k10 a1 a3 a4 μ = some out → am_Ex none (d + 1) 4 10 [.ref 1, .int a1, w2, .int a3, .int a4, w5] [] (am_SX tl) μ (some (.int out.1), (am_SX tl), out.2)) : ∀ {a1 : Int32} {a3 : Int32} {a4 : Int32} {s0 : Int32} {w2 w5 : Value} {μ : am_Mu} {out : Int32 × am_Mu}, fFeasts_isKept_38 k10 a1 a3 a4 s0 μ = some out → am_Ex none (d + 1) 4 38 [.ref 1, .int a1, w2, .int a3, .int a4, w5] [.int s0] (am_SX tl) μ (some (.int out.1), (am_SX tl), out.2) := by
  intro a1 a3 a4 s0 w2 w5 μ out h
  unfold fFeasts_isKept_38 at h
  refine am_Ex.seg 2 42 [.ref 1, .int a1, w2, .int a3, .int a4, .int s0] [.int s0] μ (fun _ => rfl) ?_
  rcases am_ite h with ⟨q1, h⟩ | ⟨q1, h⟩
  · refine am_Ex.if_eq_t rfl q1 ?_
    exact e_fFeasts_isKept_77 d hk10 h
  · refine am_Ex.if_eq_f rfl q1 ?_
    refine am_Ex.seg 4 52 [.ref 1, .int a1, w2, .int a3, .int a4, .int s0] [.int a4, .ref 3, .int a3] μ (fun _ => rfl) ?_
    obtain ⟨q2, h⟩ := am_bif h
    refine am_Ex.iald (v := (μ 3 ((a4).toNatClampNeg))) rfl rfl rfl q2 rfl ?_
    rcases am_ite h with ⟨q3, h⟩ | ⟨q3, h⟩
    · refine am_Ex.icmp_lt_t rfl q3 ?_
      exact e_fFeasts_isKept_77 d hk10 h
    · refine am_Ex.icmp_lt_f rfl q3 ?_
      refine am_Ex.seg 4 63 [.ref 1, .int a1, w2, .int a3, .int a4, .int s0] [.int a4, .ref 3, .int a3] μ (fun _ => rfl) ?_
      refine am_Ex.iald (v := (μ 3 ((a4).toNatClampNeg))) rfl rfl rfl q2 rfl ?_
      refine am_Ex.seg 3 70 [.ref 1, .int a1, w2, .int a3, .int a4, .int s0] [.int a4, .ref 4, .int (μ 3 ((a4).toNatClampNeg)), .int a3] μ (fun _ => rfl) ?_
      refine am_Ex.iald (v := (μ 4 ((a4).toNatClampNeg))) rfl rfl rfl q2 rfl ?_
      refine am_Ex.seg 1 72 [.ref 1, .int a1, w2, .int a3, .int a4, .int s0] [.int ((μ 3 ((a4).toNatClampNeg)) + (μ 4 ((a4).toNatClampNeg))), .int a3] μ (fun _ => rfl) ?_
      rcases am_ite h with ⟨q4, h⟩ | ⟨q4, h⟩
      · refine am_Ex.icmp_ge_t rfl q4 ?_
        exact e_fFeasts_isKept_77 d hk10 h
      · refine am_Ex.icmp_ge_f rfl q4 ?_
        refine am_Ex.seg 1 76 [.ref 1, .int a1, w2, .int a3, .int a4, .int s0] [.int 1] μ (fun _ => rfl) ?_
        cases h
        exact am_Ex.zret rfl rfl (by decide)
set_option maxRecDepth 20000 in
theorem e_fFeasts_isKept_10 (d : Nat) : ∀ n : Nat, ∀ {a1 : Int32} {a3 : Int32} {a4 : Int32} {w2 w5 : Value} {μ : am_Mu} {out : Int32 × am_Mu}, fFeasts_isKept_10 n a1 a3 a4 μ = some out → am_Ex none (d + 1) 4 10 [.ref 1, .int a1, w2, .int a3, .int a4, w5] [] (am_SX tl) μ (some (.int out.1), (am_SX tl), out.2) := by
  intro n
  induction n with
  | zero => intros; contradiction
  | succ n ih =>
    have hk10 : ∀ {a1 : Int32} {a3 : Int32} {a4 : Int32} {w2 w5 : Value} {μ : am_Mu} {out : Int32 × am_Mu}, (fFeasts_isKept_10 n) a1 a3 a4 μ = some out → am_Ex none (d + 1) 4 10 [.ref 1, .int a1, w2, .int a3, .int a4, w5] [] (am_SX tl) μ (some (.int out.1), (am_SX tl), out.2) := ih
    intro a1 a3 a4 w2 w5 μ out h
    unfold fFeasts_isKept_10 at h
    refine am_Ex.seg 3 16 [.ref 1, .int a1, w2, .int a3, .int a4, w5] [.int (μ 1 3), .int a4] μ (fun _ => rfl) ?_
    rcases am_ite h with ⟨q1, h⟩ | ⟨q1, h⟩
    · refine am_Ex.icmp_ge_t rfl q1 ?_
      refine am_Ex.seg 1 84 [.ref 1, .int a1, w2, .int a3, .int a4, w5] [.int 0] μ (fun _ => rfl) ?_
      cases h
      exact am_Ex.zret rfl rfl (by decide)
    · refine am_Ex.icmp_ge_f rfl q1 ?_
      refine am_Ex.seg 3 25 [.ref 1, .int a1, w2, .int a3, .int a4, w5] [.int a4, .ref 2] μ (fun _ => rfl) ?_
      obtain ⟨q2, h⟩ := am_bif h
      refine am_Ex.iald (v := (μ 2 ((a4).toNatClampNeg))) rfl rfl rfl q2 rfl ?_
      refine am_Ex.seg 2 29 [.ref 1, .int a1, w2, .int a3, .int a4, w5] [.int 12, .int a1, .int (μ 2 ((a4).toNatClampNeg))] μ (fun _ => rfl) ?_
      refine am_Ex.irem rfl (by decide) ?_
      rcases am_ite h with ⟨q3, h⟩ | ⟨q3, h⟩
      · refine am_Ex.icmp_ne_t rfl q3 ?_
        refine am_Ex.seg 1 38 [.ref 1, .int a1, w2, .int a3, .int a4, w5] [.int 0] μ (fun _ => rfl) ?_
        exact e_fFeasts_isKept_38 d hk10 h
      · refine am_Ex.icmp_ne_f rfl (Decidable.not_not.mp q3) ?_
        refine am_Ex.seg 1 34 [.ref 1, .int a1, w2, .int a3, .int a4, w5] [.int 1] μ (fun _ => rfl) ?_
        refine am_Ex.goto rfl ?_
        exact e_fFeasts_isKept_38 d hk10 h
set_option maxRecDepth 20000 in
theorem e_fFeasts_isKept (d : Nat) : ∀ {a1 : Int32} {a2 : Int32} {μ : am_Mu} {out : Int32 × am_Mu}, fFeasts_isKept a1 a2 μ = some out → am_Ex none (d + 1) 4 0 [.ref 1, .int a1, .int a2, .null, .null, .null] [] (am_SX tl) μ (some (.int out.1), (am_SX tl), out.2) := by
  intro a1 a2 μ out h
  unfold fFeasts_isKept at h
  refine am_Ex.seg 2 2 [.ref 1, .int a1, .int a2, .null, .null, .null] [.int a1, .int a2] μ (fun _ => rfl) ?_
  obtain ⟨q1, h_q1, h⟩ := am_bind h
  refine am_Ex.isk (na := 1) rfl (As := [.int a1]) rfl rfl rfl rfl rfl rfl (e_fFeasts_beginOf (d + 0) h_q1) ?_
  refine am_Ex.same 5 [.ref 1, .int a1, .int a2, .null, .null, .null] [.int q1.1, .int a2] q1.2 rfl ?_
  refine am_Ex.seg 4 10 [.ref 1, .int a1, .int a2, .int (a2 - q1.1), .int 0, .null] [] q1.2 (fun _ => rfl) ?_
  exact e_fFeasts_isKept_10 d am_F h
def fFeasts_has_29 (μ : am_Mu) : Option (Int32 × am_Mu) := some (1, μ)
def fFeasts_has_33 (μ : am_Mu) : Option (Int32 × am_Mu) := some (0, μ)
def fFeasts_has (a1 : Int32) (μ : am_Mu) : Option (Int32 × am_Mu) := ((fFeasts_monthOf a1 μ).bind fun q1 => ((fFeasts_isKept q1.1 a1 q1.2).bind fun q2 => (if ¬ q2.1 = 0 then fFeasts_has_29 q2.2 else (if q1.1 ≤ 0 then fFeasts_has_33 q2.2 else ((fFeasts_isKept (q1.1 - 1) a1 q2.2).bind fun q5 => (if q5.1 = 0 then fFeasts_has_33 q5.2 else fFeasts_has_29 q5.2))))))
set_option maxRecDepth 20000 in
theorem e_fFeasts_has_29 (d : Nat) : ∀ {w0 w1 w2 : Value} {μ : am_Mu} {out : Int32 × am_Mu}, fFeasts_has_29 μ = some out → am_Ex none (d + 2) 3 29 [w0, w1, w2] [] (am_SX tl) μ (some (.int out.1), (am_SX tl), out.2) := by
  intro w0 w1 w2 μ out h
  unfold fFeasts_has_29 at h
  refine am_Ex.seg 1 30 [w0, w1, w2] [.int 1] μ (fun _ => rfl) ?_
  refine am_Ex.goto rfl ?_
  cases h
  exact am_Ex.zret rfl rfl (by decide)
set_option maxRecDepth 20000 in
theorem e_fFeasts_has_33 (d : Nat) : ∀ {w0 w1 w2 : Value} {μ : am_Mu} {out : Int32 × am_Mu}, fFeasts_has_33 μ = some out → am_Ex none (d + 2) 3 33 [w0, w1, w2] [] (am_SX tl) μ (some (.int out.1), (am_SX tl), out.2) := by
  intro w0 w1 w2 μ out h
  unfold fFeasts_has_33 at h
  refine am_Ex.seg 1 34 [w0, w1, w2] [.int 0] μ (fun _ => rfl) ?_
  cases h
  exact am_Ex.zret rfl rfl (by decide)
set_option maxRecDepth 20000 in
theorem e_fFeasts_has (d : Nat) : ∀ {a1 : Int32} {μ : am_Mu} {out : Int32 × am_Mu}, fFeasts_has a1 μ = some out → am_Ex none (d + 2) 3 0 [.ref 1, .int a1, .null] [] (am_SX tl) μ (some (.int out.1), (am_SX tl), out.2) := by
  intro a1 μ out h
  unfold fFeasts_has at h
  refine am_Ex.seg 1 1 [.ref 1, .int a1, .null] [.int a1] μ (fun _ => rfl) ?_
  obtain ⟨q1, h_q1, h⟩ := am_bind h
  refine am_Ex.isk (na := 1) rfl (As := [.int a1]) rfl rfl rfl rfl rfl rfl (e_fFeasts_monthOf (d + 0) h_q1) ?_
  refine am_Ex.same 4 [.ref 1, .int a1, .null] [.int q1.1] q1.2 rfl ?_
  refine am_Ex.seg 4 8 [.ref 1, .int a1, .int q1.1] [.int a1, .int q1.1, .ref 1] q1.2 (fun _ => rfl) ?_
  obtain ⟨q2, h_q2, h⟩ := am_bind h
  refine am_Ex.ivk (na := 3) (b := 1) (As' := [.int q1.1, .int a1]) rfl rfl rfl rfl rfl rfl rfl rfl rfl (e_fFeasts_isKept (d + 0) h_q2) ?_
  refine am_Ex.same 11 [.ref 1, .int a1, .int q1.1] [.int q2.1] q2.2 rfl ?_
  rcases am_ite h with ⟨q3, h⟩ | ⟨q3, h⟩
  · refine am_Ex.if_ne_t rfl q3 ?_
    exact e_fFeasts_has_29 d h
  · refine am_Ex.if_ne_f rfl (Decidable.not_not.mp q3) ?_
    refine am_Ex.seg 1 15 [.ref 1, .int a1, .int q1.1] [.int q1.1] q2.2 (fun _ => rfl) ?_
    rcases am_ite h with ⟨q4, h⟩ | ⟨q4, h⟩
    · refine am_Ex.if_le_t rfl q4 ?_
      exact e_fFeasts_has_33 d h
    · refine am_Ex.if_le_f rfl q4 ?_
      refine am_Ex.seg 5 23 [.ref 1, .int a1, .int q1.1] [.int a1, .int (q1.1 - 1), .ref 1] q2.2 (fun _ => rfl) ?_
      obtain ⟨q5, h_q5, h⟩ := am_bind h
      refine am_Ex.ivk (na := 3) (b := 1) (As' := [.int (q1.1 - 1), .int a1]) rfl rfl rfl rfl rfl rfl rfl rfl rfl (e_fFeasts_isKept (d + 0) h_q5) ?_
      refine am_Ex.same 26 [.ref 1, .int a1, .int q1.1] [.int q5.1] q5.2 rfl ?_
      rcases am_ite h with ⟨q6, h⟩ | ⟨q6, h⟩
      · refine am_Ex.if_eq_t rfl q6 ?_
        exact e_fFeasts_has_33 d h
      · refine am_Ex.if_eq_f rfl q6 ?_
        exact e_fFeasts_has_29 d h
def fJudge_lawOf (a1 : Int32) (a2 : Int32) (μ : am_Mu) : Option (Nat × am_Mu) := (if ¬ a1 = 0 then (if a2 = 0 then some (34, μ) else some (46, μ)) else (if a2 = 0 then some (28, μ) else some (40, μ)))
set_option maxRecDepth 20000 in
theorem e_fJudge_lawOf (d : Nat) : ∀ {a1 : Int32} {a2 : Int32} {μ : am_Mu} {out : Nat × am_Mu}, fJudge_lawOf a1 a2 μ = some out → am_Ex none (d + 0) 6 0 [.ref 27, .int a1, .int a2] [] (am_SX tl) μ (some (.ref out.1), (am_SX tl), out.2) := by
  intro a1 a2 μ out h
  unfold fJudge_lawOf at h
  refine am_Ex.seg 1 1 [.ref 27, .int a1, .int a2] [.int a1] μ (fun _ => rfl) ?_
  rcases am_ite h with ⟨q1, h⟩ | ⟨q1, h⟩
  · refine am_Ex.if_ne_t rfl q1 ?_
    refine am_Ex.seg 1 21 [.ref 27, .int a1, .int a2] [.int a2] μ (fun _ => rfl) ?_
    rcases am_ite h with ⟨q2, h⟩ | ⟨q2, h⟩
    · refine am_Ex.if_eq_t rfl q2 ?_
      refine am_Ex.seg 2 35 [.ref 27, .int a1, .int a2] [.ref 34] μ (fun _ => rfl) ?_
      cases h
      exact am_Ex.aret rfl rfl
    · refine am_Ex.if_eq_f rfl q2 ?_
      refine am_Ex.seg 2 28 [.ref 27, .int a1, .int a2] [.ref 46] μ (fun _ => rfl) ?_
      refine am_Ex.goto rfl ?_
      cases h
      exact am_Ex.aret rfl rfl
  · refine am_Ex.if_ne_f rfl (Decidable.not_not.mp q1) ?_
    refine am_Ex.seg 1 5 [.ref 27, .int a1, .int a2] [.int a2] μ (fun _ => rfl) ?_
    rcases am_ite h with ⟨q3, h⟩ | ⟨q3, h⟩
    · refine am_Ex.if_eq_t rfl q3 ?_
      refine am_Ex.seg 2 19 [.ref 27, .int a1, .int a2] [.ref 28] μ (fun _ => rfl) ?_
      cases h
      exact am_Ex.aret rfl rfl
    · refine am_Ex.if_eq_f rfl q3 ?_
      refine am_Ex.seg 2 12 [.ref 27, .int a1, .int a2] [.ref 40] μ (fun _ => rfl) ?_
      refine am_Ex.goto rfl ?_
      cases h
      exact am_Ex.aret rfl rfl
def fJudge_lawAt_31 (a1 : Int32) (μ : am_Mu) : Option (Nat × am_Mu) := ((fJudge_lawOf a1 0 μ).bind fun q1 => some (q1.1, q1.2))
def fJudge_lawAt (a1 : Int32) (a2 : Int32) (μ : am_Mu) : Option (Nat × am_Mu) := ((fJudge_lawOf a1 1 μ).bind fun q1 => (bif am_isLaw q1.1 then (if (q1.2 q1.1 5) ≤ 0 then fJudge_lawAt_31 a1 q1.2 else ((fFeasts_has (a2 / 1440) q1.2).bind fun q3 => (if q3.1 = 0 then fJudge_lawAt_31 a1 q3.2 else some (q1.1, q3.2)))) else none))
set_option maxRecDepth 20000 in
theorem e_fJudge_lawAt_31 (d : Nat) : ∀ {a1 : Int32} {w2 w3 : Value} {μ : am_Mu} {out : Nat × am_Mu}, fJudge_lawAt_31 a1 μ = some out → am_Ex none (d + 3) 7 31 [.ref 27, .int a1, w2, w3] [] (am_SX tl) μ (some (.ref out.1), (am_SX tl), out.2) := by
  intro a1 w2 w3 μ out h
  unfold fJudge_lawAt_31 at h
  refine am_Ex.seg 3 34 [.ref 27, .int a1, w2, w3] [.int 0, .int a1, .ref 27] μ (fun _ => rfl) ?_
  obtain ⟨q1, h_q1, h⟩ := am_bind h
  refine am_Ex.ivk (na := 3) (b := 27) (As' := [.int a1, .int 0]) rfl rfl rfl rfl rfl rfl rfl rfl rfl (e_fJudge_lawOf (d + 2) h_q1) ?_
  refine am_Ex.same 37 [.ref 27, .int a1, w2, w3] [.ref q1.1] q1.2 rfl ?_
  cases h
  exact am_Ex.aret rfl rfl
set_option maxRecDepth 20000 in
theorem e_fJudge_lawAt (d : Nat) : ∀ {a1 : Int32} {a2 : Int32} {μ : am_Mu} {out : Nat × am_Mu}, fJudge_lawAt a1 a2 μ = some out → am_Ex none (d + 3) 7 0 [.ref 27, .int a1, .int a2, .null] [] (am_SX tl) μ (some (.ref out.1), (am_SX tl), out.2) := by
  intro a1 a2 μ out h
  unfold fJudge_lawAt at h
  refine am_Ex.seg 3 3 [.ref 27, .int a1, .int a2, .null] [.int 1, .int a1, .ref 27] μ (fun _ => rfl) ?_
  obtain ⟨q1, h_q1, h⟩ := am_bind h
  refine am_Ex.ivk (na := 3) (b := 27) (As' := [.int a1, .int 1]) rfl rfl rfl rfl rfl rfl rfl rfl rfl (e_fJudge_lawOf (d + 2) h_q1) ?_
  refine am_Ex.same 6 [.ref 27, .int a1, .int a2, .null] [.ref q1.1] q1.2 rfl ?_
  obtain ⟨g_q1_1, h⟩ := am_bif h
  refine am_Ex.seg 2 8 [.ref 27, .int a1, .int a2, .ref q1.1] [.ref q1.1] q1.2 (fun _ => rfl) ?_
  refine am_Ex.getint rfl (am_isLaw_0 g_q1_1) rfl rfl ?_
  rcases am_ite h with ⟨q2, h⟩ | ⟨q2, h⟩
  · refine am_Ex.if_le_t rfl q2 ?_
    exact e_fJudge_lawAt_31 d h
  · refine am_Ex.if_le_f rfl q2 ?_
    refine am_Ex.seg 4 22 [.ref 27, .int a1, .int a2, .ref q1.1] [.int 1440, .int a2, .ref 1] q1.2 (fun _ => rfl) ?_
    refine am_Ex.idiv rfl (by decide) ?_
    obtain ⟨q3, h_q3, h⟩ := am_bind h
    refine am_Ex.ivk (na := 2) (b := 1) (As' := [.int (a2 / 1440)]) rfl rfl rfl rfl rfl rfl rfl rfl rfl (e_fFeasts_has (d + 0) h_q3) ?_
    refine am_Ex.same 26 [.ref 27, .int a1, .int a2, .ref q1.1] [.int q3.1] q3.2 rfl ?_
    rcases am_ite h with ⟨q4, h⟩ | ⟨q4, h⟩
    · refine am_Ex.if_eq_t rfl q4 ?_
      exact e_fJudge_lawAt_31 d h
    · refine am_Ex.if_eq_f rfl q4 ?_
      refine am_Ex.seg 1 30 [.ref 27, .int a1, .int a2, .ref q1.1] [.ref q1.1] q3.2 (fun _ => rfl) ?_
      cases h
      exact am_Ex.aret rfl rfl
def fMarks_put (a0 : Nat) (a1 : Int32) (a2 : Int32) (a3 : Int32) (μ : am_Mu) : Option (am_Mu) := (bif am_isMarks a0 then (bif am_inb a1 160 then some (am_up (am_up (am_up μ (a0 + 1) ((a1).toNatClampNeg) a2) (a0 + 2) ((a1).toNatClampNeg) a3) (a0 + 3) ((a1).toNatClampNeg) a3) else none) else none)
set_option maxRecDepth 20000 in
theorem e_fMarks_put (d : Nat) : ∀ {a0 : Nat} {a1 : Int32} {a2 : Int32} {a3 : Int32} {μ : am_Mu} {out : am_Mu}, fMarks_put a0 a1 a2 a3 μ = some out → am_Ex none (d + 0) 58 0 [.ref a0, .int a1, .int a2, .int a3] [] (am_SX tl) μ (none, (am_SX tl), out) := by
  intro a0 a1 a2 a3 μ out h
  unfold fMarks_put at h
  obtain ⟨g_a0, h⟩ := am_bif h
  refine am_Ex.seg 1 1 [.ref a0, .int a1, .int a2, .int a3] [.ref a0] μ (fun _ => rfl) ?_
  refine am_Ex.getref rfl (am_isMarks_0 g_a0) rfl rfl ?_
  refine am_Ex.seg 2 6 [.ref a0, .int a1, .int a2, .int a3] [.int a2, .int a1, .ref (a0 + 1)] μ (fun _ => rfl) ?_
  obtain ⟨q1, h⟩ := am_bif h
  refine am_Ex.iast (v2 := a2) (i2 := (a1).toNatClampNeg) rfl (am_isMarks_1 g_a0) q1 rfl rfl ?_
  refine am_Ex.seg 1 8 [.ref a0, .int a1, .int a2, .int a3] [.ref a0] (am_up μ (a0 + 1) ((a1).toNatClampNeg) a2) (fun _ => rfl) ?_
  refine am_Ex.getref rfl (am_isMarks_0 g_a0) rfl rfl ?_
  refine am_Ex.seg 2 13 [.ref a0, .int a1, .int a2, .int a3] [.int a3, .int a1, .ref (a0 + 2)] (am_up μ (a0 + 1) ((a1).toNatClampNeg) a2) (fun _ => rfl) ?_
  refine am_Ex.iast (v2 := a3) (i2 := (a1).toNatClampNeg) rfl (am_isMarks_2 g_a0) q1 rfl rfl ?_
  refine am_Ex.seg 1 15 [.ref a0, .int a1, .int a2, .int a3] [.ref a0] (am_up (am_up μ (a0 + 1) ((a1).toNatClampNeg) a2) (a0 + 2) ((a1).toNatClampNeg) a3) (fun _ => rfl) ?_
  refine am_Ex.getref rfl (am_isMarks_0 g_a0) rfl rfl ?_
  refine am_Ex.seg 2 20 [.ref a0, .int a1, .int a2, .int a3] [.int a3, .int a1, .ref (a0 + 3)] (am_up (am_up μ (a0 + 1) ((a1).toNatClampNeg) a2) (a0 + 2) ((a1).toNatClampNeg) a3) (fun _ => rfl) ?_
  refine am_Ex.iast (v2 := a3) (i2 := (a1).toNatClampNeg) rfl (am_isMarks_3 g_a0) q1 rfl rfl ?_
  cases h
  exact am_Ex.vret rfl rfl
def fMarks_begin_2 : Nat → Nat → Int32 → am_Mu → Option (am_Mu)
  | 0, _, _, _ => none
  | n + 1, a0, a2, μ => (if ((μ 13 14) * 8) ≤ a2 then some μ else (bif am_inb (a2 / 8) 20 then (bif am_isMarks a0 then ((fMarks_put a0 a2 ((((μ 14 (((a2 / 8)).toNatClampNeg)) >>> ((a2 - (a2 / 8) * 8) &&& 31)) &&& 1) * 2) 0 μ).bind fun q3 => (fMarks_begin_2 n) a0 (a2 + 1) q3) else none) else none))
def fMarks_begin (a0 : Nat) (μ : am_Mu) : Option (am_Mu) := fMarks_begin_2 am_F a0 0 μ
set_option maxRecDepth 20000 in
theorem e_fMarks_begin_2 (d : Nat) : ∀ n : Nat, ∀ {a0 : Nat} {a2 : Int32} {w3 : Value} {μ : am_Mu} {out : am_Mu}, fMarks_begin_2 n a0 a2 μ = some out → am_Ex none (d + 1) 57 2 [.ref a0, .ref 13, .int a2, w3] [] (am_SX tl) μ (none, (am_SX tl), out) := by
  intro n
  induction n with
  | zero => intros; contradiction
  | succ n ih =>
    have hk2 : ∀ {a0 : Nat} {a2 : Int32} {w3 : Value} {μ : am_Mu} {out : am_Mu}, (fMarks_begin_2 n) a0 a2 μ = some out → am_Ex none (d + 1) 57 2 [.ref a0, .ref 13, .int a2, w3] [] (am_SX tl) μ (none, (am_SX tl), out) := ih
    intro a0 a2 w3 μ out h
    unfold fMarks_begin_2 at h
    refine am_Ex.seg 5 10 [.ref a0, .ref 13, .int a2, w3] [.int ((μ 13 14) * 8), .int a2] μ (fun _ => rfl) ?_
    rcases am_ite h with ⟨q1, h⟩ | ⟨q1, h⟩
    · refine am_Ex.icmp_ge_t rfl q1 ?_
      cases h
      exact am_Ex.vret rfl rfl
    · refine am_Ex.icmp_ge_f rfl q1 ?_
      refine am_Ex.seg 4 20 [.ref a0, .ref 13, .int a2, w3] [.int 8, .int a2, .ref 14] μ (fun _ => rfl) ?_
      refine am_Ex.idiv rfl (by decide) ?_
      obtain ⟨q2, h⟩ := am_bif h
      refine am_Ex.iald (v := (μ 14 (((a2 / 8)).toNatClampNeg))) rfl rfl rfl q2 rfl ?_
      refine am_Ex.seg 6 29 [.ref a0, .ref 13, .int a2, .int (μ 14 (((a2 / 8)).toNatClampNeg))] [.int 8, .int a2, .int (μ 14 (((a2 / 8)).toNatClampNeg)), .int a2, .ref a0] μ (fun _ => rfl) ?_
      refine am_Ex.irem rfl (by decide) ?_
      refine am_Ex.seg 6 36 [.ref a0, .ref 13, .int a2, .int (μ 14 (((a2 / 8)).toNatClampNeg))] [.int 0, .int ((((μ 14 (((a2 / 8)).toNatClampNeg)) >>> ((a2 - (a2 / 8) * 8) &&& 31)) &&& 1) * 2), .int a2, .ref a0] μ (fun _ => rfl) ?_
      obtain ⟨g_a0, h⟩ := am_bif h
      obtain ⟨q3, h_q3, h⟩ := am_bind h
      refine am_Ex.ivk (na := 4) (b := a0) (As' := [.int a2, .int ((((μ 14 (((a2 / 8)).toNatClampNeg)) >>> ((a2 - (a2 / 8) * 8) &&& 31)) &&& 1) * 2), .int 0]) rfl rfl rfl rfl rfl rfl rfl (am_isMarks_0 g_a0) rfl (e_fMarks_put (d + 0) h_q3) ?_
      refine am_Ex.same 39 [.ref a0, .ref 13, .int a2, .int (μ 14 (((a2 / 8)).toNatClampNeg))] [] q3 rfl ?_
      refine am_Ex.seg 1 42 [.ref a0, .ref 13, .int (a2 + 1), .int (μ 14 (((a2 / 8)).toNatClampNeg))] [] q3 (fun _ => rfl) ?_
      refine am_Ex.goto rfl ?_
      exact hk2 h
set_option maxRecDepth 20000 in
theorem e_fMarks_begin (d : Nat) : ∀ {a0 : Nat} {μ : am_Mu} {out : am_Mu}, fMarks_begin a0 μ = some out → am_Ex none (d + 1) 57 0 [.ref a0, .ref 13, .null, .null] [] (am_SX tl) μ (none, (am_SX tl), out) := by
  intro a0 μ out h
  unfold fMarks_begin at h
  refine am_Ex.seg 2 2 [.ref a0, .ref 13, .int 0, .null] [] μ (fun _ => rfl) ?_
  exact e_fMarks_begin_2 d am_F h
def fLedger_isMistake (a1 : Int32) (μ : am_Mu) : Option (Int32 × am_Mu) := (if 10 ≤ a1 then some (0, μ) else some (1, μ))
set_option maxRecDepth 20000 in
theorem e_fLedger_isMistake (d : Nat) : ∀ {a1 : Int32} {μ : am_Mu} {out : Int32 × am_Mu}, fLedger_isMistake a1 μ = some out → am_Ex none (d + 0) 51 0 [.ref 13, .int a1] [] (am_SX tl) μ (some (.int out.1), (am_SX tl), out.2) := by
  intro a1 μ out h
  unfold fLedger_isMistake at h
  refine am_Ex.seg 2 3 [.ref 13, .int a1] [.int 10, .int a1] μ (fun _ => rfl) ?_
  rcases am_ite h with ⟨q1, h⟩ | ⟨q1, h⟩
  · refine am_Ex.icmp_ge_t rfl q1 ?_
    refine am_Ex.seg 1 11 [.ref 13, .int a1] [.int 0] μ (fun _ => rfl) ?_
    cases h
    exact am_Ex.zret rfl rfl (by decide)
  · refine am_Ex.icmp_ge_f rfl q1 ?_
    refine am_Ex.seg 1 7 [.ref 13, .int a1] [.int 1] μ (fun _ => rfl) ?_
    refine am_Ex.goto rfl ?_
    cases h
    exact am_Ex.zret rfl rfl (by decide)
def fLedger_minuteOf (a1 : Int32) (μ : am_Mu) : Option (Int32 × am_Mu) := ((fLedger_isMistake a1 μ).bind fun q1 => (if q1.1 = 0 then (bif am_inb (a1 - 10) 200 then some ((q1.2 18 (((a1 - 10)).toNatClampNeg)), q1.2) else none) else (bif am_inb a1 10 then some ((q1.2 24 ((a1).toNatClampNeg)), q1.2) else none)))
set_option maxRecDepth 20000 in
theorem e_fLedger_minuteOf (d : Nat) : ∀ {a1 : Int32} {μ : am_Mu} {out : Int32 × am_Mu}, fLedger_minuteOf a1 μ = some out → am_Ex none (d + 1) 52 0 [.ref 13, .int a1] [] (am_SX tl) μ (some (.int out.1), (am_SX tl), out.2) := by
  intro a1 μ out h
  unfold fLedger_minuteOf at h
  refine am_Ex.seg 2 2 [.ref 13, .int a1] [.int a1, .ref 13] μ (fun _ => rfl) ?_
  obtain ⟨q1, h_q1, h⟩ := am_bind h
  refine am_Ex.ivk (na := 2) (b := 13) (As' := [.int a1]) rfl rfl rfl rfl rfl rfl rfl rfl rfl (e_fLedger_isMistake (d + 0) h_q1) ?_
  refine am_Ex.same 5 [.ref 13, .int a1] [.int q1.1] q1.2 rfl ?_
  rcases am_ite h with ⟨q2, h⟩ | ⟨q2, h⟩
  · refine am_Ex.if_eq_t rfl q2 ?_
    refine am_Ex.seg 5 25 [.ref 13, .int a1] [.int (a1 - 10), .ref 18] q1.2 (fun _ => rfl) ?_
    obtain ⟨q3, h⟩ := am_bif h
    refine am_Ex.iald (v := (q1.2 18 (((a1 - 10)).toNatClampNeg))) rfl rfl rfl q3 rfl ?_
    cases h
    exact am_Ex.iret rfl rfl
  · refine am_Ex.if_eq_f rfl q2 ?_
    refine am_Ex.seg 3 13 [.ref 13, .int a1] [.int a1, .ref 24] q1.2 (fun _ => rfl) ?_
    obtain ⟨q4, h⟩ := am_bif h
    refine am_Ex.iald (v := (q1.2 24 ((a1).toNatClampNeg))) rfl rfl rfl q4 rfl ?_
    refine am_Ex.goto rfl ?_
    cases h
    exact am_Ex.iret rfl rfl
def fLedger_isKnown_63 (μ : am_Mu) : Option (Int32 × am_Mu) := some (0, μ)
def fLedger_isKnown_59 (μ : am_Mu) : Option (Int32 × am_Mu) := some (1, μ)
def fLedger_isKnown (a1 : Int32) (a2 : Int32) (μ : am_Mu) : Option (Int32 × am_Mu) := ((fLedger_isMistake a1 μ).bind fun q1 => (if q1.1 = 0 then (bif am_inb (a1 - 10) 200 then (if a2 < (q1.2 20 (((a1 - 10)).toNatClampNeg)) then fLedger_isKnown_63 q1.2 else (if (q1.2 21 (((a1 - 10)).toNatClampNeg)) = (-1) then fLedger_isKnown_59 q1.2 else (if (q1.2 21 (((a1 - 10)).toNatClampNeg)) ≤ a2 then fLedger_isKnown_63 q1.2 else fLedger_isKnown_59 q1.2))) else none) else (bif am_inb a1 10 then (if a2 < (q1.2 25 ((a1).toNatClampNeg)) then some (0, q1.2) else some (1, q1.2)) else none)))
set_option maxRecDepth 20000 in
theorem e_fLedger_isKnown_63 (d : Nat) : ∀ {w0 w1 w2 w3 : Value} {μ : am_Mu} {out : Int32 × am_Mu}, fLedger_isKnown_63 μ = some out → am_Ex none (d + 1) 53 63 [w0, w1, w2, w3] [] (am_SX tl) μ (some (.int out.1), (am_SX tl), out.2) := by
  intro w0 w1 w2 w3 μ out h
  unfold fLedger_isKnown_63 at h
  refine am_Ex.seg 1 64 [w0, w1, w2, w3] [.int 0] μ (fun _ => rfl) ?_
  cases h
  exact am_Ex.zret rfl rfl (by decide)
set_option maxRecDepth 20000 in
theorem e_fLedger_isKnown_59 (d : Nat) : ∀ {w0 w1 w2 w3 : Value} {μ : am_Mu} {out : Int32 × am_Mu}, fLedger_isKnown_59 μ = some out → am_Ex none (d + 1) 53 59 [w0, w1, w2, w3] [] (am_SX tl) μ (some (.int out.1), (am_SX tl), out.2) := by
  intro w0 w1 w2 w3 μ out h
  unfold fLedger_isKnown_59 at h
  refine am_Ex.seg 1 60 [w0, w1, w2, w3] [.int 1] μ (fun _ => rfl) ?_
  refine am_Ex.goto rfl ?_
  cases h
  exact am_Ex.zret rfl rfl (by decide)
set_option maxRecDepth 20000 in
theorem e_fLedger_isKnown (d : Nat) : ∀ {a1 : Int32} {a2 : Int32} {μ : am_Mu} {out : Int32 × am_Mu}, fLedger_isKnown a1 a2 μ = some out → am_Ex none (d + 1) 53 0 [.ref 13, .int a1, .int a2, .null] [] (am_SX tl) μ (some (.int out.1), (am_SX tl), out.2) := by
  intro a1 a2 μ out h
  unfold fLedger_isKnown at h
  refine am_Ex.seg 2 2 [.ref 13, .int a1, .int a2, .null] [.int a1, .ref 13] μ (fun _ => rfl) ?_
  obtain ⟨q1, h_q1, h⟩ := am_bind h
  refine am_Ex.ivk (na := 2) (b := 13) (As' := [.int a1]) rfl rfl rfl rfl rfl rfl rfl rfl rfl (e_fLedger_isMistake (d + 0) h_q1) ?_
  refine am_Ex.same 5 [.ref 13, .int a1, .int a2, .null] [.int q1.1] q1.2 rfl ?_
  rcases am_ite h with ⟨q2, h⟩ | ⟨q2, h⟩
  · refine am_Ex.if_eq_t rfl q2 ?_
    refine am_Ex.seg 7 34 [.ref 13, .int a1, .int a2, .int (a1 - 10)] [.int (a1 - 10), .ref 20] q1.2 (fun _ => rfl) ?_
    obtain ⟨q3, h⟩ := am_bif h
    refine am_Ex.iald (v := (q1.2 20 (((a1 - 10)).toNatClampNeg))) rfl rfl rfl q3 rfl ?_
    refine am_Ex.seg 1 36 [.ref 13, .int a1, .int a2, .int (a1 - 10)] [.int a2, .int (q1.2 20 (((a1 - 10)).toNatClampNeg))] q1.2 (fun _ => rfl) ?_
    rcases am_ite h with ⟨q4, h⟩ | ⟨q4, h⟩
    · refine am_Ex.icmp_gt_t rfl q4 ?_
      exact e_fLedger_isKnown_63 d h
    · refine am_Ex.icmp_gt_f rfl q4 ?_
      refine am_Ex.seg 3 44 [.ref 13, .int a1, .int a2, .int (a1 - 10)] [.int (a1 - 10), .ref 21] q1.2 (fun _ => rfl) ?_
      refine am_Ex.iald (v := (q1.2 21 (((a1 - 10)).toNatClampNeg))) rfl rfl rfl q3 rfl ?_
      refine am_Ex.seg 1 46 [.ref 13, .int a1, .int a2, .int (a1 - 10)] [.int (-1), .int (q1.2 21 (((a1 - 10)).toNatClampNeg))] q1.2 (fun _ => rfl) ?_
      rcases am_ite h with ⟨q5, h⟩ | ⟨q5, h⟩
      · refine am_Ex.icmp_eq_t rfl q5 ?_
        exact e_fLedger_isKnown_59 d h
      · refine am_Ex.icmp_eq_f rfl q5 ?_
        refine am_Ex.seg 4 55 [.ref 13, .int a1, .int a2, .int (a1 - 10)] [.int (a1 - 10), .ref 21, .int a2] q1.2 (fun _ => rfl) ?_
        refine am_Ex.iald (v := (q1.2 21 (((a1 - 10)).toNatClampNeg))) rfl rfl rfl q3 rfl ?_
        rcases am_ite h with ⟨q6, h⟩ | ⟨q6, h⟩
        · refine am_Ex.icmp_ge_t rfl q6 ?_
          exact e_fLedger_isKnown_63 d h
        · refine am_Ex.icmp_ge_f rfl q6 ?_
          exact e_fLedger_isKnown_59 d h
  · refine am_Ex.if_eq_f rfl q2 ?_
    refine am_Ex.seg 3 13 [.ref 13, .int a1, .int a2, .null] [.int a1, .ref 25] q1.2 (fun _ => rfl) ?_
    obtain ⟨q7, h⟩ := am_bif h
    refine am_Ex.iald (v := (q1.2 25 ((a1).toNatClampNeg))) rfl rfl rfl q7 rfl ?_
    refine am_Ex.seg 1 15 [.ref 13, .int a1, .int a2, .null] [.int a2, .int (q1.2 25 ((a1).toNatClampNeg))] q1.2 (fun _ => rfl) ?_
    rcases am_ite h with ⟨q8, h⟩ | ⟨q8, h⟩
    · refine am_Ex.icmp_gt_t rfl q8 ?_
      refine am_Ex.seg 1 23 [.ref 13, .int a1, .int a2, .null] [.int 0] q1.2 (fun _ => rfl) ?_
      cases h
      exact am_Ex.zret rfl rfl (by decide)
    · refine am_Ex.icmp_gt_f rfl q8 ?_
      refine am_Ex.seg 1 19 [.ref 13, .int a1, .int a2, .null] [.int 1] q1.2 (fun _ => rfl) ?_
      refine am_Ex.goto rfl ?_
      cases h
      exact am_Ex.zret rfl rfl (by decide)
def fMarks_copyThing_5 : Nat → Nat → Nat → Int32 → Int32 → am_Mu → Option (am_Mu)
  | 0, _, _, _, _, _ => none
  | n + 1, a0, a1, a2, a3, μ => (if ((a2 * 8) + 8) ≤ a3 then some μ else (bif am_isMarks a0 then (bif am_isMarks a1 then (bif am_inb a3 160 then (fMarks_copyThing_5 n) a0 a1 a2 (a3 + 1) (am_up (am_up (am_up μ (a0 + 1) ((a3).toNatClampNeg) (μ (a1 + 1) ((a3).toNatClampNeg))) (a0 + 2) ((a3).toNatClampNeg) ((am_up μ (a0 + 1) ((a3).toNatClampNeg) (μ (a1 + 1) ((a3).toNatClampNeg))) (a1 + 2) ((a3).toNatClampNeg))) (a0 + 3) ((a3).toNatClampNeg) ((am_up (am_up μ (a0 + 1) ((a3).toNatClampNeg) (μ (a1 + 1) ((a3).toNatClampNeg))) (a0 + 2) ((a3).toNatClampNeg) ((am_up μ (a0 + 1) ((a3).toNatClampNeg) (μ (a1 + 1) ((a3).toNatClampNeg))) (a1 + 2) ((a3).toNatClampNeg))) (a1 + 3) ((a3).toNatClampNeg))) else none) else none) else none))
def fMarks_copyThing (a0 : Nat) (a1 : Nat) (a2 : Int32) (μ : am_Mu) : Option (am_Mu) := fMarks_copyThing_5 am_F a0 a1 a2 (a2 * 8) μ
set_option maxRecDepth 20000 in
theorem e_fMarks_copyThing_5 (d : Nat) : ∀ n : Nat, ∀ {a0 : Nat} {a1 : Nat} {a2 : Int32} {a3 : Int32} {μ : am_Mu} {out : am_Mu}, fMarks_copyThing_5 n a0 a1 a2 a3 μ = some out → am_Ex none (d + 0) 60 5 [.ref a0, .ref a1, .int a2, .int a3] [] (am_SX tl) μ (none, (am_SX tl), out) := by
  intro n
  induction n with
  | zero => intros; contradiction
  | succ n ih =>
    have hk5 : ∀ {a0 : Nat} {a1 : Nat} {a2 : Int32} {a3 : Int32} {μ : am_Mu} {out : am_Mu}, (fMarks_copyThing_5 n) a0 a1 a2 a3 μ = some out → am_Ex none (d + 0) 60 5 [.ref a0, .ref a1, .int a2, .int a3] [] (am_SX tl) μ (none, (am_SX tl), out) := ih
    intro a0 a1 a2 a3 μ out h
    unfold fMarks_copyThing_5 at h
    refine am_Ex.seg 6 13 [.ref a0, .ref a1, .int a2, .int a3] [.int ((a2 * 8) + 8), .int a3] μ (fun _ => rfl) ?_
    rcases am_ite h with ⟨q1, h⟩ | ⟨q1, h⟩
    · refine am_Ex.icmp_ge_t rfl q1 ?_
      cases h
      exact am_Ex.vret rfl rfl
    · refine am_Ex.icmp_ge_f rfl q1 ?_
      obtain ⟨g_a0, h⟩ := am_bif h
      refine am_Ex.seg 1 17 [.ref a0, .ref a1, .int a2, .int a3] [.ref a0] μ (fun _ => rfl) ?_
      refine am_Ex.getref rfl (am_isMarks_0 g_a0) rfl rfl ?_
      obtain ⟨g_a1, h⟩ := am_bif h
      refine am_Ex.seg 2 22 [.ref a0, .ref a1, .int a2, .int a3] [.ref a1, .int a3, .ref (a0 + 1)] μ (fun _ => rfl) ?_
      refine am_Ex.getref rfl (am_isMarks_0 g_a1) rfl rfl ?_
      refine am_Ex.seg 1 26 [.ref a0, .ref a1, .int a2, .int a3] [.int a3, .ref (a1 + 1), .int a3, .ref (a0 + 1)] μ (fun _ => rfl) ?_
      obtain ⟨q2, h⟩ := am_bif h
      refine am_Ex.iald (v := (μ (a1 + 1) ((a3).toNatClampNeg))) rfl (am_isMarks_1 g_a1) (am_isMarks_n1 g_a1) q2 rfl ?_
      refine am_Ex.iast (v2 := (μ (a1 + 1) ((a3).toNatClampNeg))) (i2 := (a3).toNatClampNeg) rfl (am_isMarks_1 g_a0) q2 rfl rfl ?_
      refine am_Ex.seg 1 29 [.ref a0, .ref a1, .int a2, .int a3] [.ref a0] (am_up μ (a0 + 1) ((a3).toNatClampNeg) (μ (a1 + 1) ((a3).toNatClampNeg))) (fun _ => rfl) ?_
      refine am_Ex.getref rfl (am_isMarks_0 g_a0) rfl rfl ?_
      refine am_Ex.seg 2 34 [.ref a0, .ref a1, .int a2, .int a3] [.ref a1, .int a3, .ref (a0 + 2)] (am_up μ (a0 + 1) ((a3).toNatClampNeg) (μ (a1 + 1) ((a3).toNatClampNeg))) (fun _ => rfl) ?_
      refine am_Ex.getref rfl (am_isMarks_0 g_a1) rfl rfl ?_
      refine am_Ex.seg 1 38 [.ref a0, .ref a1, .int a2, .int a3] [.int a3, .ref (a1 + 2), .int a3, .ref (a0 + 2)] (am_up μ (a0 + 1) ((a3).toNatClampNeg) (μ (a1 + 1) ((a3).toNatClampNeg))) (fun _ => rfl) ?_
      refine am_Ex.iald (v := ((am_up μ (a0 + 1) ((a3).toNatClampNeg) (μ (a1 + 1) ((a3).toNatClampNeg))) (a1 + 2) ((a3).toNatClampNeg))) rfl (am_isMarks_2 g_a1) (am_isMarks_n2 g_a1) q2 rfl ?_
      refine am_Ex.iast (v2 := ((am_up μ (a0 + 1) ((a3).toNatClampNeg) (μ (a1 + 1) ((a3).toNatClampNeg))) (a1 + 2) ((a3).toNatClampNeg))) (i2 := (a3).toNatClampNeg) rfl (am_isMarks_2 g_a0) q2 rfl rfl ?_
      refine am_Ex.seg 1 41 [.ref a0, .ref a1, .int a2, .int a3] [.ref a0] (am_up (am_up μ (a0 + 1) ((a3).toNatClampNeg) (μ (a1 + 1) ((a3).toNatClampNeg))) (a0 + 2) ((a3).toNatClampNeg) ((am_up μ (a0 + 1) ((a3).toNatClampNeg) (μ (a1 + 1) ((a3).toNatClampNeg))) (a1 + 2) ((a3).toNatClampNeg))) (fun _ => rfl) ?_
      refine am_Ex.getref rfl (am_isMarks_0 g_a0) rfl rfl ?_
      refine am_Ex.seg 2 46 [.ref a0, .ref a1, .int a2, .int a3] [.ref a1, .int a3, .ref (a0 + 3)] (am_up (am_up μ (a0 + 1) ((a3).toNatClampNeg) (μ (a1 + 1) ((a3).toNatClampNeg))) (a0 + 2) ((a3).toNatClampNeg) ((am_up μ (a0 + 1) ((a3).toNatClampNeg) (μ (a1 + 1) ((a3).toNatClampNeg))) (a1 + 2) ((a3).toNatClampNeg))) (fun _ => rfl) ?_
      refine am_Ex.getref rfl (am_isMarks_0 g_a1) rfl rfl ?_
      refine am_Ex.seg 1 50 [.ref a0, .ref a1, .int a2, .int a3] [.int a3, .ref (a1 + 3), .int a3, .ref (a0 + 3)] (am_up (am_up μ (a0 + 1) ((a3).toNatClampNeg) (μ (a1 + 1) ((a3).toNatClampNeg))) (a0 + 2) ((a3).toNatClampNeg) ((am_up μ (a0 + 1) ((a3).toNatClampNeg) (μ (a1 + 1) ((a3).toNatClampNeg))) (a1 + 2) ((a3).toNatClampNeg))) (fun _ => rfl) ?_
      refine am_Ex.iald (v := ((am_up (am_up μ (a0 + 1) ((a3).toNatClampNeg) (μ (a1 + 1) ((a3).toNatClampNeg))) (a0 + 2) ((a3).toNatClampNeg) ((am_up μ (a0 + 1) ((a3).toNatClampNeg) (μ (a1 + 1) ((a3).toNatClampNeg))) (a1 + 2) ((a3).toNatClampNeg))) (a1 + 3) ((a3).toNatClampNeg))) rfl (am_isMarks_3 g_a1) (am_isMarks_n3 g_a1) q2 rfl ?_
      refine am_Ex.iast (v2 := ((am_up (am_up μ (a0 + 1) ((a3).toNatClampNeg) (μ (a1 + 1) ((a3).toNatClampNeg))) (a0 + 2) ((a3).toNatClampNeg) ((am_up μ (a0 + 1) ((a3).toNatClampNeg) (μ (a1 + 1) ((a3).toNatClampNeg))) (a1 + 2) ((a3).toNatClampNeg))) (a1 + 3) ((a3).toNatClampNeg))) (i2 := (a3).toNatClampNeg) rfl (am_isMarks_3 g_a0) q2 rfl rfl ?_
      refine am_Ex.seg 1 55 [.ref a0, .ref a1, .int a2, .int (a3 + 1)] [] (am_up (am_up (am_up μ (a0 + 1) ((a3).toNatClampNeg) (μ (a1 + 1) ((a3).toNatClampNeg))) (a0 + 2) ((a3).toNatClampNeg) ((am_up μ (a0 + 1) ((a3).toNatClampNeg) (μ (a1 + 1) ((a3).toNatClampNeg))) (a1 + 2) ((a3).toNatClampNeg))) (a0 + 3) ((a3).toNatClampNeg) ((am_up (am_up μ (a0 + 1) ((a3).toNatClampNeg) (μ (a1 + 1) ((a3).toNatClampNeg))) (a0 + 2) ((a3).toNatClampNeg) ((am_up μ (a0 + 1) ((a3).toNatClampNeg) (μ (a1 + 1) ((a3).toNatClampNeg))) (a1 + 2) ((a3).toNatClampNeg))) (a1 + 3) ((a3).toNatClampNeg))) (fun _ => rfl) ?_
      refine am_Ex.goto rfl ?_
      exact hk5 h
set_option maxRecDepth 20000 in
theorem e_fMarks_copyThing (d : Nat) : ∀ {a0 : Nat} {a1 : Nat} {a2 : Int32} {μ : am_Mu} {out : am_Mu}, fMarks_copyThing a0 a1 a2 μ = some out → am_Ex none (d + 0) 60 0 [.ref a0, .ref a1, .int a2, .null] [] (am_SX tl) μ (none, (am_SX tl), out) := by
  intro a0 a1 a2 μ out h
  unfold fMarks_copyThing at h
  refine am_Ex.seg 4 5 [.ref a0, .ref a1, .int a2, .int (a2 * 8)] [] μ (fun _ => rfl) ?_
  exact e_fMarks_copyThing_5 d am_F h
def fLaw_stepsFrom (a0 : Nat) (a1 : Int32) (μ : am_Mu) : Option (Int32 × am_Mu) := (if a1 ≤ 0 then some (0, μ) else (bif am_isLaw a0 then (bif am_inb (a1 - 1) 24 then some ((μ (a0 + 2) (((a1 - 1)).toNatClampNeg)), μ) else none) else none))
set_option maxRecDepth 20000 in
theorem e_fLaw_stepsFrom (d : Nat) : ∀ {a0 : Nat} {a1 : Int32} {μ : am_Mu} {out : Int32 × am_Mu}, fLaw_stepsFrom a0 a1 μ = some out → am_Ex none (d + 0) 23 0 [.ref a0, .int a1] [] (am_SX tl) μ (some (.int out.1), (am_SX tl), out.2) := by
  intro a0 a1 μ out h
  unfold fLaw_stepsFrom at h
  refine am_Ex.seg 1 1 [.ref a0, .int a1] [.int a1] μ (fun _ => rfl) ?_
  rcases am_ite h with ⟨q1, h⟩ | ⟨q1, h⟩
  · refine am_Ex.if_le_t rfl q1 ?_
    refine am_Ex.seg 1 16 [.ref a0, .int a1] [.int 0] μ (fun _ => rfl) ?_
    cases h
    exact am_Ex.iret rfl rfl
  · refine am_Ex.if_le_f rfl q1 ?_
    obtain ⟨g_a0, h⟩ := am_bif h
    refine am_Ex.seg 1 5 [.ref a0, .int a1] [.ref a0] μ (fun _ => rfl) ?_
    refine am_Ex.getref rfl (am_isLaw_0 g_a0) rfl rfl ?_
    refine am_Ex.seg 3 11 [.ref a0, .int a1] [.int (a1 - 1), .ref (a0 + 2)] μ (fun _ => rfl) ?_
    obtain ⟨q2, h⟩ := am_bif h
    refine am_Ex.iald (v := (μ (a0 + 2) (((a1 - 1)).toNatClampNeg))) rfl (am_isLaw_2 g_a0) (am_isLaw_n2 g_a0) q2 rfl ?_
    refine am_Ex.goto rfl ?_
    cases h
    exact am_Ex.iret rfl rfl
def fJudge_askOperand_31 (a1 : Int32) (a4 : Int32) (a5 : Int32) (a6 : Int32) (s0 : Int32) (μ : am_Mu) : Option (Int32 × am_Mu) := (if ¬ s0 = (-1) then (bif am_inb ((s0 * 8) + (a6 &&& 7)) 160 then (if a5 = 4 then some ((μ 53 ((((s0 * 8) + (a6 &&& 7))).toNatClampNeg)), μ) else (if ¬ (μ 53 ((((s0 * 8) + (a6 &&& 7))).toNatClampNeg)) = 0 then (if (a4 - (μ 55 ((((s0 * 8) + (a6 &&& 7))).toNatClampNeg))) < (a1 >>> (7 &&& 31)) then (if (a1 >>> (7 &&& 31)) ≤ (a4 - (μ 54 ((((s0 * 8) + (a6 &&& 7))).toNatClampNeg))) then some (1, μ) else some ((μ 53 ((((s0 * 8) + (a6 &&& 7))).toNatClampNeg)), μ)) else some (0, μ)) else some ((μ 53 ((((s0 * 8) + (a6 &&& 7))).toNatClampNeg)), μ))) else none) else some (0, μ))
def fJudge_askOperand (a1 : Int32) (a2 : Int32) (a3 : Int32) (a4 : Int32) (μ : am_Mu) : Option (Int32 × am_Mu) := (if ¬ (a1 &&& 7) = 0 then (if ¬ ((a1 >>> (3 &&& 31)) &&& 8) = 0 then fJudge_askOperand_31 a1 a4 (a1 &&& 7) (a1 >>> (3 &&& 31)) a3 μ else fJudge_askOperand_31 a1 a4 (a1 &&& 7) (a1 >>> (3 &&& 31)) a2 μ) else some (2, μ))
set_option maxRecDepth 20000 in
theorem e_fJudge_askOperand_31 (d : Nat) : ∀ {a1 : Int32} {a4 : Int32} {a5 : Int32} {a6 : Int32} {s0 : Int32} {w2 w3 w7 w8 w9 w10 : Value} {μ : am_Mu} {out : Int32 × am_Mu}, fJudge_askOperand_31 a1 a4 a5 a6 s0 μ = some out → am_Ex none (d + 0) 15 31 [.ref 27, .int a1, w2, w3, .int a4, .int a5, .int a6, w7, w8, w9, w10] [.int s0] (am_SX tl) μ (some (.int out.1), (am_SX tl), out.2) := by
  intro a1 a4 a5 a6 s0 w2 w3 w7 w8 w9 w10 μ out h
  unfold fJudge_askOperand_31 at h
  refine am_Ex.seg 3 36 [.ref 27, .int a1, w2, w3, .int a4, .int a5, .int a6, .int s0, w8, w9, w10] [.int (-1), .int s0] μ (fun _ => rfl) ?_
  rcases am_ite h with ⟨q1, h⟩ | ⟨q1, h⟩
  · refine am_Ex.icmp_ne_t rfl q1 ?_
    refine am_Ex.seg 12 63 [.ref 27, .int a1, w2, w3, .int a4, .int a5, .int a6, .int s0, .int ((s0 * 8) + (a6 &&& 7)), w9, w10] [.int ((s0 * 8) + (a6 &&& 7)), .ref 53] μ (fun _ => rfl) ?_
    obtain ⟨q2, h⟩ := am_bif h
    refine am_Ex.iald (v := (μ 53 ((((s0 * 8) + (a6 &&& 7))).toNatClampNeg))) rfl rfl rfl q2 rfl ?_
    refine am_Ex.seg 3 69 [.ref 27, .int a1, w2, w3, .int a4, .int a5, .int a6, .int s0, .int ((s0 * 8) + (a6 &&& 7)), .int (μ 53 ((((s0 * 8) + (a6 &&& 7))).toNatClampNeg)), w10] [.int 4, .int a5] μ (fun _ => rfl) ?_
    rcases am_ite h with ⟨q3, h⟩ | ⟨q3, h⟩
    · refine am_Ex.icmp_eq_t rfl q3 ?_
      refine am_Ex.seg 1 79 [.ref 27, .int a1, w2, w3, .int a4, .int a5, .int a6, .int s0, .int ((s0 * 8) + (a6 &&& 7)), .int (μ 53 ((((s0 * 8) + (a6 &&& 7))).toNatClampNeg)), w10] [.int (μ 53 ((((s0 * 8) + (a6 &&& 7))).toNatClampNeg))] μ (fun _ => rfl) ?_
      cases h
      exact am_Ex.iret rfl rfl
    · refine am_Ex.icmp_eq_f rfl q3 ?_
      refine am_Ex.seg 1 74 [.ref 27, .int a1, w2, w3, .int a4, .int a5, .int a6, .int s0, .int ((s0 * 8) + (a6 &&& 7)), .int (μ 53 ((((s0 * 8) + (a6 &&& 7))).toNatClampNeg)), w10] [.int (μ 53 ((((s0 * 8) + (a6 &&& 7))).toNatClampNeg))] μ (fun _ => rfl) ?_
      rcases am_ite h with ⟨q4, h⟩ | ⟨q4, h⟩
      · refine am_Ex.if_ne_t rfl q4 ?_
        refine am_Ex.seg 9 97 [.ref 27, .int a1, w2, w3, .int a4, .int a5, .int a6, .int s0, .int ((s0 * 8) + (a6 &&& 7)), .int (μ 53 ((((s0 * 8) + (a6 &&& 7))).toNatClampNeg)), .int (a1 >>> (7 &&& 31))] [.int ((s0 * 8) + (a6 &&& 7)), .ref 55, .int a4] μ (fun _ => rfl) ?_
        refine am_Ex.iald (v := (μ 55 ((((s0 * 8) + (a6 &&& 7))).toNatClampNeg))) rfl rfl rfl q2 rfl ?_
        refine am_Ex.seg 2 101 [.ref 27, .int a1, w2, w3, .int a4, .int a5, .int a6, .int s0, .int ((s0 * 8) + (a6 &&& 7)), .int (μ 53 ((((s0 * 8) + (a6 &&& 7))).toNatClampNeg)), .int (a1 >>> (7 &&& 31))] [.int (a1 >>> (7 &&& 31)), .int (a4 - (μ 55 ((((s0 * 8) + (a6 &&& 7))).toNatClampNeg)))] μ (fun _ => rfl) ?_
        rcases am_ite h with ⟨q5, h⟩ | ⟨q5, h⟩
        · refine am_Ex.icmp_lt_t rfl q5 ?_
          refine am_Ex.seg 5 117 [.ref 27, .int a1, w2, w3, .int a4, .int a5, .int a6, .int s0, .int ((s0 * 8) + (a6 &&& 7)), .int (μ 53 ((((s0 * 8) + (a6 &&& 7))).toNatClampNeg)), .int (a1 >>> (7 &&& 31))] [.int ((s0 * 8) + (a6 &&& 7)), .ref 54, .int a4] μ (fun _ => rfl) ?_
          refine am_Ex.iald (v := (μ 54 ((((s0 * 8) + (a6 &&& 7))).toNatClampNeg))) rfl rfl rfl q2 rfl ?_
          refine am_Ex.seg 2 121 [.ref 27, .int a1, w2, w3, .int a4, .int a5, .int a6, .int s0, .int ((s0 * 8) + (a6 &&& 7)), .int (μ 53 ((((s0 * 8) + (a6 &&& 7))).toNatClampNeg)), .int (a1 >>> (7 &&& 31))] [.int (a1 >>> (7 &&& 31)), .int (a4 - (μ 54 ((((s0 * 8) + (a6 &&& 7))).toNatClampNeg)))] μ (fun _ => rfl) ?_
          rcases am_ite h with ⟨q6, h⟩ | ⟨q6, h⟩
          · refine am_Ex.icmp_ge_t rfl q6 ?_
            refine am_Ex.seg 1 130 [.ref 27, .int a1, w2, w3, .int a4, .int a5, .int a6, .int s0, .int ((s0 * 8) + (a6 &&& 7)), .int (μ 53 ((((s0 * 8) + (a6 &&& 7))).toNatClampNeg)), .int (a1 >>> (7 &&& 31))] [.int 1] μ (fun _ => rfl) ?_
            cases h
            exact am_Ex.iret rfl rfl
          · refine am_Ex.icmp_ge_f rfl q6 ?_
            refine am_Ex.seg 1 126 [.ref 27, .int a1, w2, w3, .int a4, .int a5, .int a6, .int s0, .int ((s0 * 8) + (a6 &&& 7)), .int (μ 53 ((((s0 * 8) + (a6 &&& 7))).toNatClampNeg)), .int (a1 >>> (7 &&& 31))] [.int (μ 53 ((((s0 * 8) + (a6 &&& 7))).toNatClampNeg))] μ (fun _ => rfl) ?_
            refine am_Ex.goto rfl ?_
            cases h
            exact am_Ex.iret rfl rfl
        · refine am_Ex.icmp_lt_f rfl q5 ?_
          refine am_Ex.seg 1 105 [.ref 27, .int a1, w2, w3, .int a4, .int a5, .int a6, .int s0, .int ((s0 * 8) + (a6 &&& 7)), .int (μ 53 ((((s0 * 8) + (a6 &&& 7))).toNatClampNeg)), .int (a1 >>> (7 &&& 31))] [.int 0] μ (fun _ => rfl) ?_
          cases h
          exact am_Ex.iret rfl rfl
      · refine am_Ex.if_ne_f rfl (Decidable.not_not.mp q4) ?_
        refine am_Ex.seg 1 79 [.ref 27, .int a1, w2, w3, .int a4, .int a5, .int a6, .int s0, .int ((s0 * 8) + (a6 &&& 7)), .int (μ 53 ((((s0 * 8) + (a6 &&& 7))).toNatClampNeg)), w10] [.int (μ 53 ((((s0 * 8) + (a6 &&& 7))).toNatClampNeg))] μ (fun _ => rfl) ?_
        cases h
        exact am_Ex.iret rfl rfl
  · refine am_Ex.icmp_ne_f rfl (Decidable.not_not.mp q1) ?_
    refine am_Ex.seg 1 40 [.ref 27, .int a1, w2, w3, .int a4, .int a5, .int a6, .int s0, w8, w9, w10] [.int 0] μ (fun _ => rfl) ?_
    cases h
    exact am_Ex.iret rfl rfl
set_option maxRecDepth 20000 in
theorem e_fJudge_askOperand (d : Nat) : ∀ {a1 : Int32} {a2 : Int32} {a3 : Int32} {a4 : Int32} {μ : am_Mu} {out : Int32 × am_Mu}, fJudge_askOperand a1 a2 a3 a4 μ = some out → am_Ex none (d + 0) 15 0 [.ref 27, .int a1, .int a2, .int a3, .int a4, .null, .null, .null, .null, .null, .null] [] (am_SX tl) μ (some (.int out.1), (am_SX tl), out.2) := by
  intro a1 a2 a3 a4 μ out h
  unfold fJudge_askOperand at h
  refine am_Ex.seg 5 8 [.ref 27, .int a1, .int a2, .int a3, .int a4, .int (a1 &&& 7), .null, .null, .null, .null, .null] [.int (a1 &&& 7)] μ (fun _ => rfl) ?_
  rcases am_ite h with ⟨q1, h⟩ | ⟨q1, h⟩
  · refine am_Ex.if_ne_t rfl q1 ?_
    refine am_Ex.seg 7 23 [.ref 27, .int a1, .int a2, .int a3, .int a4, .int (a1 &&& 7), .int (a1 >>> (3 &&& 31)), .null, .null, .null, .null] [.int ((a1 >>> (3 &&& 31)) &&& 8)] μ (fun _ => rfl) ?_
    rcases am_ite h with ⟨q2, h⟩ | ⟨q2, h⟩
    · refine am_Ex.if_ne_t rfl q2 ?_
      refine am_Ex.seg 1 31 [.ref 27, .int a1, .int a2, .int a3, .int a4, .int (a1 &&& 7), .int (a1 >>> (3 &&& 31)), .null, .null, .null, .null] [.int a3] μ (fun _ => rfl) ?_
      exact e_fJudge_askOperand_31 d h
    · refine am_Ex.if_ne_f rfl (Decidable.not_not.mp q2) ?_
      refine am_Ex.seg 1 27 [.ref 27, .int a1, .int a2, .int a3, .int a4, .int (a1 &&& 7), .int (a1 >>> (3 &&& 31)), .null, .null, .null, .null] [.int a2] μ (fun _ => rfl) ?_
      refine am_Ex.goto rfl ?_
      exact e_fJudge_askOperand_31 d h
  · refine am_Ex.if_ne_f rfl (Decidable.not_not.mp q1) ?_
    refine am_Ex.seg 1 12 [.ref 27, .int a1, .int a2, .int a3, .int a4, .int (a1 &&& 7), .null, .null, .null, .null, .null] [.int 2] μ (fun _ => rfl) ?_
    cases h
    exact am_Ex.iret rfl rfl
def fJudge_ask_188 (a6 : Int32) (μ : am_Mu) : Option (Int32 × am_Mu) := (if a6 ≤ 0 then some (0, μ) else some ((μ 56 0), μ))
def fJudge_ask_182 (k10 : Nat → Int32 → Int32 → Int32 → Int32 → Int32 → Int32 → am_Mu → Option (Int32 × am_Mu)) (a1 : Nat) (a2 : Int32) (a3 : Int32) (a4 : Int32) (a5 : Int32) (a6 : Int32) (a7 : Int32) (μ : am_Mu) : Option (Int32 × am_Mu) := k10 a1 a2 a3 a4 a5 a6 (a7 + 1) μ
def fJudge_ask_147 (k10 : Nat → Int32 → Int32 → Int32 → Int32 → Int32 → Int32 → am_Mu → Option (Int32 × am_Mu)) (a1 : Nat) (a2 : Int32) (a3 : Int32) (a4 : Int32) (a5 : Int32) (a6 : Int32) (a7 : Int32) (s1 : Int32) (s2 : Int32) (μ : am_Mu) : Option (Int32 × am_Mu) := (bif am_inb s1 80 then fJudge_ask_182 k10 a1 a2 a3 a4 a5 a6 a7 (am_up μ 56 ((s1).toNatClampNeg) s2) else none)
def fJudge_ask_83 (k10 : Nat → Int32 → Int32 → Int32 → Int32 → Int32 → Int32 → am_Mu → Option (Int32 × am_Mu)) (a1 : Nat) (a2 : Int32) (a3 : Int32) (a4 : Int32) (a5 : Int32) (a6 : Int32) (a7 : Int32) (a9 : Int32) (μ : am_Mu) : Option (Int32 × am_Mu) := (if a6 ≤ 1 then fJudge_ask_182 k10 a1 a2 a3 a4 a5 a6 a7 μ else (if ¬ a9 = 2 then (bif am_inb ((a6 + (-1)) - 1) 80 then (bif am_inb (a6 + (-1)) 80 then fJudge_ask_147 k10 a1 a2 a3 a4 a5 (a6 + (-1)) a7 ((a6 + (-1)) - 1) (if (μ 56 ((((a6 + (-1)) - 1)).toNatClampNeg)) < (μ 56 (((a6 + (-1))).toNatClampNeg)) then (μ 56 (((a6 + (-1))).toNatClampNeg)) else (μ 56 ((((a6 + (-1)) - 1)).toNatClampNeg))) μ else none) else none) else (bif am_inb ((a6 + (-1)) - 1) 80 then (bif am_inb (a6 + (-1)) 80 then fJudge_ask_147 k10 a1 a2 a3 a4 a5 (a6 + (-1)) a7 ((a6 + (-1)) - 1) (if (μ 56 (((a6 + (-1))).toNatClampNeg)) < (μ 56 ((((a6 + (-1)) - 1)).toNatClampNeg)) then (μ 56 (((a6 + (-1))).toNatClampNeg)) else (μ 56 ((((a6 + (-1)) - 1)).toNatClampNeg))) μ else none) else none)))
def fJudge_ask_10 : Nat → Nat → Int32 → Int32 → Int32 → Int32 → Int32 → Int32 → am_Mu → Option (Int32 × am_Mu)
  | 0, _, _, _, _, _, _, _, _ => none
  | n + 1, a1, a2, a3, a4, a5, a6, a7, μ => (bif am_isLaw a1 then (bif am_inb a2 24 then (if (μ (a1 + 2) ((a2).toNatClampNeg)) ≤ a7 then fJudge_ask_188 a6 μ else (bif am_inb a7 240 then (if ¬ ((μ (a1 + 4) ((a7).toNatClampNeg)) &&& 7) = 1 then (if ((μ (a1 + 4) ((a7).toNatClampNeg)) &&& 7) = 2 then fJudge_ask_83 (fJudge_ask_10 n) a1 a2 a3 a4 a5 a6 a7 ((μ (a1 + 4) ((a7).toNatClampNeg)) &&& 7) μ else (if ¬ ((μ (a1 + 4) ((a7).toNatClampNeg)) &&& 7) = 3 then (if 80 ≤ a6 then fJudge_ask_182 (fJudge_ask_10 n) a1 a2 a3 a4 a5 a6 a7 μ else ((fJudge_askOperand (μ (a1 + 4) ((a7).toNatClampNeg)) a3 a4 a5 μ).bind fun q8 => (bif am_inb a6 80 then fJudge_ask_182 (fJudge_ask_10 n) a1 a2 a3 a4 a5 (a6 + 1) a7 (am_up q8.2 56 ((a6).toNatClampNeg) q8.1) else none))) else fJudge_ask_83 (fJudge_ask_10 n) a1 a2 a3 a4 a5 a6 a7 ((μ (a1 + 4) ((a7).toNatClampNeg)) &&& 7) μ)) else (if a6 ≤ 0 then fJudge_ask_182 (fJudge_ask_10 n) a1 a2 a3 a4 a5 a6 a7 μ else (bif am_inb (a6 - 1) 80 then fJudge_ask_182 (fJudge_ask_10 n) a1 a2 a3 a4 a5 a6 a7 (am_up μ 56 (((a6 - 1)).toNatClampNeg) ((2 : Int32) - (μ 56 (((a6 - 1)).toNatClampNeg)))) else none))) else none)) else none) else none)
def fJudge_ask (a1 : Nat) (a2 : Int32) (a3 : Int32) (a4 : Int32) (a5 : Int32) (μ : am_Mu) : Option (Int32 × am_Mu) := (bif am_isLaw a1 then ((fLaw_stepsFrom a1 a2 μ).bind fun q1 => fJudge_ask_10 am_F a1 a2 a3 a4 a5 0 q1.1 q1.2) else none)
set_option maxRecDepth 20000 in
theorem e_fJudge_ask_188 (d : Nat) : ∀ {a6 : Int32} {w1 w2 w3 w4 w5 w7 w8 w9 : Value} {μ : am_Mu} {out : Int32 × am_Mu}, fJudge_ask_188 a6 μ = some out → am_Ex none (d + 1) 14 188 [.ref 27, w1, w2, w3, w4, w5, .int a6, w7, w8, w9] [] (am_SX tl) μ (some (.int out.1), (am_SX tl), out.2) := by
  intro a6 w1 w2 w3 w4 w5 w7 w8 w9 μ out h
  unfold fJudge_ask_188 at h
  refine am_Ex.seg 1 190 [.ref 27, w1, w2, w3, w4, w5, .int a6, w7, w8, w9] [.int a6] μ (fun _ => rfl) ?_
  rcases am_ite h with ⟨q1, h⟩ | ⟨q1, h⟩
  · refine am_Ex.if_le_t rfl q1 ?_
    refine am_Ex.seg 1 203 [.ref 27, w1, w2, w3, w4, w5, .int a6, w7, w8, w9] [.int 0] μ (fun _ => rfl) ?_
    cases h
    exact am_Ex.iret rfl rfl
  · refine am_Ex.if_le_f rfl q1 ?_
    refine am_Ex.seg 3 198 [.ref 27, w1, w2, w3, w4, w5, .int a6, w7, w8, w9] [.int 0, .ref 56] μ (fun _ => rfl) ?_
    refine am_Ex.iald (v := (μ 56 0)) rfl rfl rfl rfl rfl ?_
    refine am_Ex.goto rfl ?_
    cases h
    exact am_Ex.iret rfl rfl
set_option maxRecDepth 20000 in
theorem e_fJudge_ask_182 (d : Nat) {k10 : Nat → Int32 → Int32 → Int32 → Int32 → Int32 → Int32 → am_Mu → Option (Int32 × am_Mu)} (hk10 : ∀ {a1 : Nat} {a2 : Int32} {a3 : Int32} {a4 : Int32} {a5 : Int32} {a6 : Int32} {a7 : Int32} {w8 w9 : Value} {μ : am_Mu} {out : Int32 × am_Mu}, k10 a1 a2 a3 a4 a5 a6 a7 μ = some out → am_Ex none (d + 1) 14 10 [.ref 27, .ref a1, .int a2, .int a3, .int a4, .int a5, .int a6, .int a7, w8, w9] [] (am_SX tl) μ (some (.int out.1), (am_SX tl), out.2)) : ∀ {a1 : Nat} {a2 : Int32} {a3 : Int32} {a4 : Int32} {a5 : Int32} {a6 : Int32} {a7 : Int32} {w8 w9 : Value} {μ : am_Mu} {out : Int32 × am_Mu}, fJudge_ask_182 k10 a1 a2 a3 a4 a5 a6 a7 μ = some out → am_Ex none (d + 1) 14 182 [.ref 27, .ref a1, .int a2, .int a3, .int a4, .int a5, .int a6, .int a7, w8, w9] [] (am_SX tl) μ (some (.int out.1), (am_SX tl), out.2) := by
  intro a1 a2 a3 a4 a5 a6 a7 w8 w9 μ out h
  unfold fJudge_ask_182 at h
  refine am_Ex.seg 1 185 [.ref 27, .ref a1, .int a2, .int a3, .int a4, .int a5, .int a6, .int (a7 + 1), w8, w9] [] μ (fun _ => rfl) ?_
  refine am_Ex.goto rfl ?_
  exact hk10 h
set_option maxRecDepth 20000 in
theorem e_fJudge_ask_147 (d : Nat) {k10 : Nat → Int32 → Int32 → Int32 → Int32 → Int32 → Int32 → am_Mu → Option (Int32 × am_Mu)} (hk10 : ∀ {a1 : Nat} {a2 : Int32} {a3 : Int32} {a4 : Int32} {a5 : Int32} {a6 : Int32} {a7 : Int32} {w8 w9 : Value} {μ : am_Mu} {out : Int32 × am_Mu}, k10 a1 a2 a3 a4 a5 a6 a7 μ = some out → am_Ex none (d + 1) 14 10 [.ref 27, .ref a1, .int a2, .int a3, .int a4, .int a5, .int a6, .int a7, w8, w9] [] (am_SX tl) μ (some (.int out.1), (am_SX tl), out.2)) : ∀ {a1 : Nat} {a2 : Int32} {a3 : Int32} {a4 : Int32} {a5 : Int32} {a6 : Int32} {a7 : Int32} {s1 : Int32} {s2 : Int32} {w8 w9 : Value} {μ : am_Mu} {out : Int32 × am_Mu}, fJudge_ask_147 k10 a1 a2 a3 a4 a5 a6 a7 s1 s2 μ = some out → am_Ex none (d + 1) 14 147 [.ref 27, .ref a1, .int a2, .int a3, .int a4, .int a5, .int a6, .int a7, w8, w9] [.int s2, .int s1, .ref 56] (am_SX tl) μ (some (.int out.1), (am_SX tl), out.2) := by
  intro a1 a2 a3 a4 a5 a6 a7 s1 s2 w8 w9 μ out h
  unfold fJudge_ask_147 at h
  obtain ⟨q1, h⟩ := am_bif h
  refine am_Ex.iast (v2 := s2) (i2 := (s1).toNatClampNeg) rfl rfl q1 rfl rfl ?_
  refine am_Ex.goto rfl ?_
  exact e_fJudge_ask_182 d hk10 h
set_option maxRecDepth 20000 in
theorem e_fJudge_ask_83 (d : Nat) {k10 : Nat → Int32 → Int32 → Int32 → Int32 → Int32 → Int32 → am_Mu → Option (Int32 × am_Mu)} (hk10 : ∀ {a1 : Nat} {a2 : Int32} {a3 : Int32} {a4 : Int32} {a5 : Int32} {a6 : Int32} {a7 : Int32} {w8 w9 : Value} {μ : am_Mu} {out : Int32 × am_Mu}, k10 a1 a2 a3 a4 a5 a6 a7 μ = some out → am_Ex none (d + 1) 14 10 [.ref 27, .ref a1, .int a2, .int a3, .int a4, .int a5, .int a6, .int a7, w8, w9] [] (am_SX tl) μ (some (.int out.1), (am_SX tl), out.2)) : ∀ {a1 : Nat} {a2 : Int32} {a3 : Int32} {a4 : Int32} {a5 : Int32} {a6 : Int32} {a7 : Int32} {a9 : Int32} {w8 : Value} {μ : am_Mu} {out : Int32 × am_Mu}, fJudge_ask_83 k10 a1 a2 a3 a4 a5 a6 a7 a9 μ = some out → am_Ex none (d + 1) 14 83 [.ref 27, .ref a1, .int a2, .int a3, .int a4, .int a5, .int a6, .int a7, w8, .int a9] [] (am_SX tl) μ (some (.int out.1), (am_SX tl), out.2) := by
  intro a1 a2 a3 a4 a5 a6 a7 a9 w8 μ out h
  unfold fJudge_ask_83 at h
  refine am_Ex.seg 2 86 [.ref 27, .ref a1, .int a2, .int a3, .int a4, .int a5, .int a6, .int a7, w8, .int a9] [.int 1, .int a6] μ (fun _ => rfl) ?_
  rcases am_ite h with ⟨q1, h⟩ | ⟨q1, h⟩
  · refine am_Ex.icmp_le_t rfl q1 ?_
    exact e_fJudge_ask_182 d hk10 h
  · refine am_Ex.icmp_le_f rfl q1 ?_
    refine am_Ex.seg 8 103 [.ref 27, .ref a1, .int a2, .int a3, .int a4, .int a5, .int (a6 + (-1)), .int a7, w8, .int a9] [.int 2, .int a9, .int ((a6 + (-1)) - 1), .ref 56] μ (fun _ => rfl) ?_
    rcases am_ite h with ⟨q2, h⟩ | ⟨q2, h⟩
    · refine am_Ex.icmp_ne_t rfl q2 ?_
      refine am_Ex.seg 5 136 [.ref 27, .ref a1, .int a2, .int a3, .int a4, .int a5, .int (a6 + (-1)), .int a7, w8, .int a9] [.int ((a6 + (-1)) - 1), .ref 56, .int ((a6 + (-1)) - 1), .ref 56] μ (fun _ => rfl) ?_
      obtain ⟨q3, h⟩ := am_bif h
      refine am_Ex.iald (v := (μ 56 ((((a6 + (-1)) - 1)).toNatClampNeg))) rfl rfl rfl q3 rfl ?_
      refine am_Ex.seg 3 143 [.ref 27, .ref a1, .int a2, .int a3, .int a4, .int a5, .int (a6 + (-1)), .int a7, w8, .int a9] [.int (a6 + (-1)), .ref 56, .int (μ 56 ((((a6 + (-1)) - 1)).toNatClampNeg)), .int ((a6 + (-1)) - 1), .ref 56] μ (fun _ => rfl) ?_
      obtain ⟨q4, h⟩ := am_bif h
      refine am_Ex.iald (v := (μ 56 (((a6 + (-1))).toNatClampNeg))) rfl rfl rfl q4 rfl ?_
      refine am_Ex.max rfl rfl rfl ?_
      exact e_fJudge_ask_147 d hk10 h
    · refine am_Ex.icmp_ne_f rfl (Decidable.not_not.mp q2) ?_
      refine am_Ex.seg 5 114 [.ref 27, .ref a1, .int a2, .int a3, .int a4, .int a5, .int (a6 + (-1)), .int a7, w8, .int a9] [.int ((a6 + (-1)) - 1), .ref 56, .int ((a6 + (-1)) - 1), .ref 56] μ (fun _ => rfl) ?_
      obtain ⟨q5, h⟩ := am_bif h
      refine am_Ex.iald (v := (μ 56 ((((a6 + (-1)) - 1)).toNatClampNeg))) rfl rfl rfl q5 rfl ?_
      refine am_Ex.seg 3 121 [.ref 27, .ref a1, .int a2, .int a3, .int a4, .int a5, .int (a6 + (-1)), .int a7, w8, .int a9] [.int (a6 + (-1)), .ref 56, .int (μ 56 ((((a6 + (-1)) - 1)).toNatClampNeg)), .int ((a6 + (-1)) - 1), .ref 56] μ (fun _ => rfl) ?_
      obtain ⟨q6, h⟩ := am_bif h
      refine am_Ex.iald (v := (μ 56 (((a6 + (-1))).toNatClampNeg))) rfl rfl rfl q6 rfl ?_
      refine am_Ex.min rfl rfl rfl ?_
      refine am_Ex.goto rfl ?_
      exact e_fJudge_ask_147 d hk10 h
set_option maxRecDepth 20000 in
theorem e_fJudge_ask_10 (d : Nat) : ∀ n : Nat, ∀ {a1 : Nat} {a2 : Int32} {a3 : Int32} {a4 : Int32} {a5 : Int32} {a6 : Int32} {a7 : Int32} {w8 w9 : Value} {μ : am_Mu} {out : Int32 × am_Mu}, fJudge_ask_10 n a1 a2 a3 a4 a5 a6 a7 μ = some out → am_Ex none (d + 1) 14 10 [.ref 27, .ref a1, .int a2, .int a3, .int a4, .int a5, .int a6, .int a7, w8, w9] [] (am_SX tl) μ (some (.int out.1), (am_SX tl), out.2) := by
  intro n
  induction n with
  | zero => intros; contradiction
  | succ n ih =>
    have hk10 : ∀ {a1 : Nat} {a2 : Int32} {a3 : Int32} {a4 : Int32} {a5 : Int32} {a6 : Int32} {a7 : Int32} {w8 w9 : Value} {μ : am_Mu} {out : Int32 × am_Mu}, (fJudge_ask_10 n) a1 a2 a3 a4 a5 a6 a7 μ = some out → am_Ex none (d + 1) 14 10 [.ref 27, .ref a1, .int a2, .int a3, .int a4, .int a5, .int a6, .int a7, w8, w9] [] (am_SX tl) μ (some (.int out.1), (am_SX tl), out.2) := ih
    intro a1 a2 a3 a4 a5 a6 a7 w8 w9 μ out h
    unfold fJudge_ask_10 at h
    obtain ⟨g_a1, h⟩ := am_bif h
    refine am_Ex.seg 2 13 [.ref 27, .ref a1, .int a2, .int a3, .int a4, .int a5, .int a6, .int a7, w8, w9] [.ref a1, .int a7] μ (fun _ => rfl) ?_
    refine am_Ex.getref rfl (am_isLaw_0 g_a1) rfl rfl ?_
    refine am_Ex.seg 1 17 [.ref 27, .ref a1, .int a2, .int a3, .int a4, .int a5, .int a6, .int a7, w8, w9] [.int a2, .ref (a1 + 2), .int a7] μ (fun _ => rfl) ?_
    obtain ⟨q1, h⟩ := am_bif h
    refine am_Ex.iald (v := (μ (a1 + 2) ((a2).toNatClampNeg))) rfl (am_isLaw_2 g_a1) (am_isLaw_n2 g_a1) q1 rfl ?_
    rcases am_ite h with ⟨q2, h⟩ | ⟨q2, h⟩
    · refine am_Ex.icmp_ge_t rfl q2 ?_
      exact e_fJudge_ask_188 d h
    · refine am_Ex.icmp_ge_f rfl q2 ?_
      refine am_Ex.seg 1 22 [.ref 27, .ref a1, .int a2, .int a3, .int a4, .int a5, .int a6, .int a7, w8, w9] [.ref a1] μ (fun _ => rfl) ?_
      refine am_Ex.getref rfl (am_isLaw_0 g_a1) rfl rfl ?_
      refine am_Ex.seg 1 27 [.ref 27, .ref a1, .int a2, .int a3, .int a4, .int a5, .int a6, .int a7, w8, w9] [.int a7, .ref (a1 + 4)] μ (fun _ => rfl) ?_
      obtain ⟨q3, h⟩ := am_bif h
      refine am_Ex.iald (v := (μ (a1 + 4) ((a7).toNatClampNeg))) rfl (am_isLaw_4 g_a1) (am_isLaw_n4 g_a1) q3 rfl ?_
      refine am_Ex.seg 7 40 [.ref 27, .ref a1, .int a2, .int a3, .int a4, .int a5, .int a6, .int a7, .int (μ (a1 + 4) ((a7).toNatClampNeg)), .int ((μ (a1 + 4) ((a7).toNatClampNeg)) &&& 7)] [.int 1, .int ((μ (a1 + 4) ((a7).toNatClampNeg)) &&& 7)] μ (fun _ => rfl) ?_
      rcases am_ite h with ⟨q4, h⟩ | ⟨q4, h⟩
      · refine am_Ex.icmp_ne_t rfl q4 ?_
        refine am_Ex.seg 2 74 [.ref 27, .ref a1, .int a2, .int a3, .int a4, .int a5, .int a6, .int a7, .int (μ (a1 + 4) ((a7).toNatClampNeg)), .int ((μ (a1 + 4) ((a7).toNatClampNeg)) &&& 7)] [.int 2, .int ((μ (a1 + 4) ((a7).toNatClampNeg)) &&& 7)] μ (fun _ => rfl) ?_
        rcases am_ite h with ⟨q5, h⟩ | ⟨q5, h⟩
        · refine am_Ex.icmp_eq_t rfl q5 ?_
          exact e_fJudge_ask_83 d hk10 h
        · refine am_Ex.icmp_eq_f rfl q5 ?_
          refine am_Ex.seg 2 80 [.ref 27, .ref a1, .int a2, .int a3, .int a4, .int a5, .int a6, .int a7, .int (μ (a1 + 4) ((a7).toNatClampNeg)), .int ((μ (a1 + 4) ((a7).toNatClampNeg)) &&& 7)] [.int 3, .int ((μ (a1 + 4) ((a7).toNatClampNeg)) &&& 7)] μ (fun _ => rfl) ?_
          rcases am_ite h with ⟨q6, h⟩ | ⟨q6, h⟩
          · refine am_Ex.icmp_ne_t rfl q6 ?_
            refine am_Ex.seg 4 158 [.ref 27, .ref a1, .int a2, .int a3, .int a4, .int a5, .int a6, .int a7, .int (μ (a1 + 4) ((a7).toNatClampNeg)), .int ((μ (a1 + 4) ((a7).toNatClampNeg)) &&& 7)] [.int 80, .int a6] μ (fun _ => rfl) ?_
            rcases am_ite h with ⟨q7, h⟩ | ⟨q7, h⟩
            · refine am_Ex.icmp_ge_t rfl q7 ?_
              exact e_fJudge_ask_182 d hk10 h
            · refine am_Ex.icmp_ge_f rfl q7 ?_
              refine am_Ex.seg 8 175 [.ref 27, .ref a1, .int a2, .int a3, .int a4, .int a5, .int a6, .int a7, .int (μ (a1 + 4) ((a7).toNatClampNeg)), .int ((μ (a1 + 4) ((a7).toNatClampNeg)) &&& 7)] [.int a5, .int a4, .int a3, .int (μ (a1 + 4) ((a7).toNatClampNeg)), .ref 27, .int a6, .ref 56] μ (fun _ => rfl) ?_
              obtain ⟨q8, h_q8, h⟩ := am_bind h
              refine am_Ex.ivk (na := 5) (b := 27) (As' := [.int (μ (a1 + 4) ((a7).toNatClampNeg)), .int a3, .int a4, .int a5]) rfl rfl rfl rfl rfl rfl rfl rfl rfl (e_fJudge_askOperand (d + 0) h_q8) ?_
              refine am_Ex.same 178 [.ref 27, .ref a1, .int a2, .int a3, .int a4, .int a5, .int a6, .int a7, .int (μ (a1 + 4) ((a7).toNatClampNeg)), .int ((μ (a1 + 4) ((a7).toNatClampNeg)) &&& 7)] [.int q8.1, .int a6, .ref 56] q8.2 rfl ?_
              obtain ⟨q9, h⟩ := am_bif h
              refine am_Ex.iast (v2 := q8.1) (i2 := (a6).toNatClampNeg) rfl rfl q9 rfl rfl ?_
              refine am_Ex.seg 1 182 [.ref 27, .ref a1, .int a2, .int a3, .int a4, .int a5, .int (a6 + 1), .int a7, .int (μ (a1 + 4) ((a7).toNatClampNeg)), .int ((μ (a1 + 4) ((a7).toNatClampNeg)) &&& 7)] [] (am_up q8.2 56 ((a6).toNatClampNeg) q8.1) (fun _ => rfl) ?_
              exact e_fJudge_ask_182 d hk10 h
          · refine am_Ex.icmp_ne_f rfl (Decidable.not_not.mp q6) ?_
            exact e_fJudge_ask_83 d hk10 h
      · refine am_Ex.icmp_ne_f rfl (Decidable.not_not.mp q4) ?_
        refine am_Ex.seg 1 45 [.ref 27, .ref a1, .int a2, .int a3, .int a4, .int a5, .int a6, .int a7, .int (μ (a1 + 4) ((a7).toNatClampNeg)), .int ((μ (a1 + 4) ((a7).toNatClampNeg)) &&& 7)] [.int a6] μ (fun _ => rfl) ?_
        rcases am_ite h with ⟨q10, h⟩ | ⟨q10, h⟩
        · refine am_Ex.if_le_t rfl q10 ?_
          exact e_fJudge_ask_182 d hk10 h
        · refine am_Ex.if_le_f rfl q10 ?_
          refine am_Ex.seg 11 65 [.ref 27, .ref a1, .int a2, .int a3, .int a4, .int a5, .int a6, .int a7, .int (μ (a1 + 4) ((a7).toNatClampNeg)), .int ((μ (a1 + 4) ((a7).toNatClampNeg)) &&& 7)] [.int (a6 - 1), .ref 56, .int 2, .int (a6 - 1), .ref 56] μ (fun _ => rfl) ?_
          obtain ⟨q11, h⟩ := am_bif h
          refine am_Ex.iald (v := (μ 56 (((a6 - 1)).toNatClampNeg))) rfl rfl rfl q11 rfl ?_
          refine am_Ex.seg 1 67 [.ref 27, .ref a1, .int a2, .int a3, .int a4, .int a5, .int a6, .int a7, .int (μ (a1 + 4) ((a7).toNatClampNeg)), .int ((μ (a1 + 4) ((a7).toNatClampNeg)) &&& 7)] [.int ((2 : Int32) - (μ 56 (((a6 - 1)).toNatClampNeg))), .int (a6 - 1), .ref 56] μ (fun _ => rfl) ?_
          refine am_Ex.iast (v2 := ((2 : Int32) - (μ 56 (((a6 - 1)).toNatClampNeg)))) (i2 := ((a6 - 1)).toNatClampNeg) rfl rfl q11 rfl rfl ?_
          refine am_Ex.goto rfl ?_
          exact e_fJudge_ask_182 d hk10 h
set_option maxRecDepth 20000 in
theorem e_fJudge_ask (d : Nat) : ∀ {a1 : Nat} {a2 : Int32} {a3 : Int32} {a4 : Int32} {a5 : Int32} {μ : am_Mu} {out : Int32 × am_Mu}, fJudge_ask a1 a2 a3 a4 a5 μ = some out → am_Ex none (d + 1) 14 0 [.ref 27, .ref a1, .int a2, .int a3, .int a4, .int a5, .null, .null, .null, .null] [] (am_SX tl) μ (some (.int out.1), (am_SX tl), out.2) := by
  intro a1 a2 a3 a4 a5 μ out h
  unfold fJudge_ask at h
  refine am_Ex.seg 4 5 [.ref 27, .ref a1, .int a2, .int a3, .int a4, .int a5, .int 0, .null, .null, .null] [.int a2, .ref a1] μ (fun _ => rfl) ?_
  obtain ⟨g_a1, h⟩ := am_bif h
  obtain ⟨q1, h_q1, h⟩ := am_bind h
  refine am_Ex.ivk (na := 2) (b := a1) (As' := [.int a2]) rfl rfl rfl rfl rfl rfl rfl (am_isLaw_0 g_a1) rfl (e_fLaw_stepsFrom (d + 0) h_q1) ?_
  refine am_Ex.same 8 [.ref 27, .ref a1, .int a2, .int a3, .int a4, .int a5, .int 0, .null, .null, .null] [.int q1.1] q1.2 rfl ?_
  refine am_Ex.seg 1 10 [.ref 27, .ref a1, .int a2, .int a3, .int a4, .int a5, .int 0, .int q1.1, .null, .null] [] q1.2 (fun _ => rfl) ?_
  exact e_fJudge_ask_10 d am_F h
def fLaw_effectsFrom (a0 : Nat) (a1 : Int32) (μ : am_Mu) : Option (Int32 × am_Mu) := (if a1 ≤ 0 then some (0, μ) else (bif am_isLaw a0 then (bif am_inb (a1 - 1) 24 then some ((μ (a0 + 3) (((a1 - 1)).toNatClampNeg)), μ) else none) else none))
set_option maxRecDepth 20000 in
theorem e_fLaw_effectsFrom (d : Nat) : ∀ {a0 : Nat} {a1 : Int32} {μ : am_Mu} {out : Int32 × am_Mu}, fLaw_effectsFrom a0 a1 μ = some out → am_Ex none (d + 0) 24 0 [.ref a0, .int a1] [] (am_SX tl) μ (some (.int out.1), (am_SX tl), out.2) := by
  intro a0 a1 μ out h
  unfold fLaw_effectsFrom at h
  refine am_Ex.seg 1 1 [.ref a0, .int a1] [.int a1] μ (fun _ => rfl) ?_
  rcases am_ite h with ⟨q1, h⟩ | ⟨q1, h⟩
  · refine am_Ex.if_le_t rfl q1 ?_
    refine am_Ex.seg 1 16 [.ref a0, .int a1] [.int 0] μ (fun _ => rfl) ?_
    cases h
    exact am_Ex.iret rfl rfl
  · refine am_Ex.if_le_f rfl q1 ?_
    obtain ⟨g_a0, h⟩ := am_bif h
    refine am_Ex.seg 1 5 [.ref a0, .int a1] [.ref a0] μ (fun _ => rfl) ?_
    refine am_Ex.getref rfl (am_isLaw_0 g_a0) rfl rfl ?_
    refine am_Ex.seg 3 11 [.ref a0, .int a1] [.int (a1 - 1), .ref (a0 + 3)] μ (fun _ => rfl) ?_
    obtain ⟨q2, h⟩ := am_bif h
    refine am_Ex.iald (v := (μ (a0 + 3) (((a1 - 1)).toNatClampNeg))) rfl (am_isLaw_3 g_a0) (am_isLaw_n3 g_a0) q2 rfl ?_
    refine am_Ex.goto rfl ?_
    cases h
    exact am_Ex.iret rfl rfl
def fMarks_join_33 (a0 : Nat) (a1 : Int32) (a2 : Int32) (a3 : Int32) (a4 : Int32) (a5 : Int32) (μ : am_Mu) : Option (am_Mu) := (if a2 = 0 then some μ else (bif am_isMarks a0 then (if ¬ a5 = 0 then (bif am_inb a1 160 then (if ¬ a5 = 0 then some (am_up (am_up μ (a0 + 2) ((a1).toNatClampNeg) a3) (a0 + 3) ((a1).toNatClampNeg) a4) else (if a4 ≤ ((am_up μ (a0 + 2) ((a1).toNatClampNeg) a3) (a0 + 3) ((a1).toNatClampNeg)) then some (am_up (am_up μ (a0 + 2) ((a1).toNatClampNeg) a3) (a0 + 3) ((a1).toNatClampNeg) ((am_up μ (a0 + 2) ((a1).toNatClampNeg) a3) (a0 + 3) ((a1).toNatClampNeg))) else some (am_up (am_up μ (a0 + 2) ((a1).toNatClampNeg) a3) (a0 + 3) ((a1).toNatClampNeg) a4))) else none) else (bif am_inb a1 160 then (if (μ (a0 + 2) ((a1).toNatClampNeg)) ≤ a3 then (if ¬ a5 = 0 then some (am_up (am_up μ (a0 + 2) ((a1).toNatClampNeg) (μ (a0 + 2) ((a1).toNatClampNeg))) (a0 + 3) ((a1).toNatClampNeg) a4) else (if a4 ≤ ((am_up μ (a0 + 2) ((a1).toNatClampNeg) (μ (a0 + 2) ((a1).toNatClampNeg))) (a0 + 3) ((a1).toNatClampNeg)) then some (am_up (am_up μ (a0 + 2) ((a1).toNatClampNeg) (μ (a0 + 2) ((a1).toNatClampNeg))) (a0 + 3) ((a1).toNatClampNeg) ((am_up μ (a0 + 2) ((a1).toNatClampNeg) (μ (a0 + 2) ((a1).toNatClampNeg))) (a0 + 3) ((a1).toNatClampNeg))) else some (am_up (am_up μ (a0 + 2) ((a1).toNatClampNeg) (μ (a0 + 2) ((a1).toNatClampNeg))) (a0 + 3) ((a1).toNatClampNeg) a4))) else (if ¬ a5 = 0 then some (am_up (am_up μ (a0 + 2) ((a1).toNatClampNeg) a3) (a0 + 3) ((a1).toNatClampNeg) a4) else (if a4 ≤ ((am_up μ (a0 + 2) ((a1).toNatClampNeg) a3) (a0 + 3) ((a1).toNatClampNeg)) then some (am_up (am_up μ (a0 + 2) ((a1).toNatClampNeg) a3) (a0 + 3) ((a1).toNatClampNeg) ((am_up μ (a0 + 2) ((a1).toNatClampNeg) a3) (a0 + 3) ((a1).toNatClampNeg))) else some (am_up (am_up μ (a0 + 2) ((a1).toNatClampNeg) a3) (a0 + 3) ((a1).toNatClampNeg) a4)))) else none)) else none))
def fMarks_join_14 (a0 : Nat) (a1 : Int32) (a2 : Int32) (a3 : Int32) (a4 : Int32) (s0 : Int32) (μ : am_Mu) : Option (am_Mu) := (bif am_isMarks a0 then (bif am_inb a1 160 then (if (μ (a0 + 1) ((a1).toNatClampNeg)) = a2 then fMarks_join_33 a0 a1 a2 a3 a4 s0 μ else fMarks_join_33 a0 a1 a2 a3 a4 s0 (am_up μ (a0 + 1) ((a1).toNatClampNeg) 1)) else none) else none)
def fMarks_join (a0 : Nat) (a1 : Int32) (a2 : Int32) (a3 : Int32) (a4 : Int32) (μ : am_Mu) : Option (am_Mu) := (bif am_isMarks a0 then (bif am_inb a1 160 then (if ¬ (μ (a0 + 1) ((a1).toNatClampNeg)) = 0 then fMarks_join_14 a0 a1 a2 a3 a4 0 μ else fMarks_join_14 a0 a1 a2 a3 a4 1 μ) else none) else none)
set_option maxRecDepth 20000 in
theorem e_fMarks_join_33 (d : Nat) : ∀ {a0 : Nat} {a1 : Int32} {a2 : Int32} {a3 : Int32} {a4 : Int32} {a5 : Int32} {μ : am_Mu} {out : am_Mu}, fMarks_join_33 a0 a1 a2 a3 a4 a5 μ = some out → am_Ex none (d + 0) 59 33 [.ref a0, .int a1, .int a2, .int a3, .int a4, .int a5] [] (am_SX tl) μ (none, (am_SX tl), out) := by
  intro a0 a1 a2 a3 a4 a5 μ out h
  unfold fMarks_join_33 at h
  refine am_Ex.seg 1 34 [.ref a0, .int a1, .int a2, .int a3, .int a4, .int a5] [.int a2] μ (fun _ => rfl) ?_
  rcases am_ite h with ⟨q1, h⟩ | ⟨q1, h⟩
  · refine am_Ex.if_eq_t rfl q1 ?_
    cases h
    exact am_Ex.vret rfl rfl
  · refine am_Ex.if_eq_f rfl q1 ?_
    obtain ⟨g_a0, h⟩ := am_bif h
    refine am_Ex.seg 1 38 [.ref a0, .int a1, .int a2, .int a3, .int a4, .int a5] [.ref a0] μ (fun _ => rfl) ?_
    refine am_Ex.getref rfl (am_isMarks_0 g_a0) rfl rfl ?_
    refine am_Ex.seg 2 44 [.ref a0, .int a1, .int a2, .int a3, .int a4, .int a5] [.int a5, .int a1, .ref (a0 + 2)] μ (fun _ => rfl) ?_
    rcases am_ite h with ⟨q2, h⟩ | ⟨q2, h⟩
    · refine am_Ex.if_ne_t rfl q2 ?_
      refine am_Ex.seg 1 58 [.ref a0, .int a1, .int a2, .int a3, .int a4, .int a5] [.int a3, .int a1, .ref (a0 + 2)] μ (fun _ => rfl) ?_
      refine am_Ex.goto rfl ?_
      obtain ⟨q3, h⟩ := am_bif h
      refine am_Ex.iast (v2 := a3) (i2 := (a1).toNatClampNeg) rfl (am_isMarks_2 g_a0) q3 rfl rfl ?_
      refine am_Ex.seg 1 69 [.ref a0, .int a1, .int a2, .int a3, .int a4, .int a5] [.ref a0] (am_up μ (a0 + 2) ((a1).toNatClampNeg) a3) (fun _ => rfl) ?_
      refine am_Ex.getref rfl (am_isMarks_0 g_a0) rfl rfl ?_
      refine am_Ex.seg 2 75 [.ref a0, .int a1, .int a2, .int a3, .int a4, .int a5] [.int a5, .int a1, .ref (a0 + 3)] (am_up μ (a0 + 2) ((a1).toNatClampNeg) a3) (fun _ => rfl) ?_
      rcases am_ite h with ⟨q4, h⟩ | ⟨q4, h⟩
      · refine am_Ex.if_ne_t rfl q4 ?_
        refine am_Ex.seg 1 91 [.ref a0, .int a1, .int a2, .int a3, .int a4, .int a5] [.int a4, .int a1, .ref (a0 + 3)] (am_up μ (a0 + 2) ((a1).toNatClampNeg) a3) (fun _ => rfl) ?_
        refine am_Ex.goto rfl ?_
        refine am_Ex.iast (v2 := a4) (i2 := (a1).toNatClampNeg) rfl (am_isMarks_3 g_a0) q3 rfl rfl ?_
        cases h
        exact am_Ex.vret rfl rfl
      · refine am_Ex.if_ne_f rfl (Decidable.not_not.mp q4) ?_
        refine am_Ex.seg 2 81 [.ref a0, .int a1, .int a2, .int a3, .int a4, .int a5] [.ref a0, .int a4, .int a1, .ref (a0 + 3)] (am_up μ (a0 + 2) ((a1).toNatClampNeg) a3) (fun _ => rfl) ?_
        refine am_Ex.getref rfl (am_isMarks_0 g_a0) rfl rfl ?_
        refine am_Ex.seg 1 85 [.ref a0, .int a1, .int a2, .int a3, .int a4, .int a5] [.int a1, .ref (a0 + 3), .int a4, .int a1, .ref (a0 + 3)] (am_up μ (a0 + 2) ((a1).toNatClampNeg) a3) (fun _ => rfl) ?_
        refine am_Ex.iald (v := ((am_up μ (a0 + 2) ((a1).toNatClampNeg) a3) (a0 + 3) ((a1).toNatClampNeg))) rfl (am_isMarks_3 g_a0) (am_isMarks_n3 g_a0) q3 rfl ?_
        rcases am_ite h with ⟨q5, h⟩ | ⟨q5, h⟩
        · refine am_Ex.icmp_le_t rfl q5 ?_
          refine am_Ex.seg 1 95 [.ref a0, .int a1, .int a2, .int a3, .int a4, .int a5] [.ref a0, .int a1, .ref (a0 + 3)] (am_up μ (a0 + 2) ((a1).toNatClampNeg) a3) (fun _ => rfl) ?_
          refine am_Ex.getref rfl (am_isMarks_0 g_a0) rfl rfl ?_
          refine am_Ex.seg 1 99 [.ref a0, .int a1, .int a2, .int a3, .int a4, .int a5] [.int a1, .ref (a0 + 3), .int a1, .ref (a0 + 3)] (am_up μ (a0 + 2) ((a1).toNatClampNeg) a3) (fun _ => rfl) ?_
          refine am_Ex.iald (v := ((am_up μ (a0 + 2) ((a1).toNatClampNeg) a3) (a0 + 3) ((a1).toNatClampNeg))) rfl (am_isMarks_3 g_a0) (am_isMarks_n3 g_a0) q3 rfl ?_
          refine am_Ex.iast (v2 := ((am_up μ (a0 + 2) ((a1).toNatClampNeg) a3) (a0 + 3) ((a1).toNatClampNeg))) (i2 := (a1).toNatClampNeg) rfl (am_isMarks_3 g_a0) q3 rfl rfl ?_
          cases h
          exact am_Ex.vret rfl rfl
        · refine am_Ex.icmp_le_f rfl q5 ?_
          refine am_Ex.seg 1 91 [.ref a0, .int a1, .int a2, .int a3, .int a4, .int a5] [.int a4, .int a1, .ref (a0 + 3)] (am_up μ (a0 + 2) ((a1).toNatClampNeg) a3) (fun _ => rfl) ?_
          refine am_Ex.goto rfl ?_
          refine am_Ex.iast (v2 := a4) (i2 := (a1).toNatClampNeg) rfl (am_isMarks_3 g_a0) q3 rfl rfl ?_
          cases h
          exact am_Ex.vret rfl rfl
    · refine am_Ex.if_ne_f rfl (Decidable.not_not.mp q2) ?_
      refine am_Ex.seg 2 49 [.ref a0, .int a1, .int a2, .int a3, .int a4, .int a5] [.ref a0, .int a3, .int a1, .ref (a0 + 2)] μ (fun _ => rfl) ?_
      refine am_Ex.getref rfl (am_isMarks_0 g_a0) rfl rfl ?_
      refine am_Ex.seg 1 53 [.ref a0, .int a1, .int a2, .int a3, .int a4, .int a5] [.int a1, .ref (a0 + 2), .int a3, .int a1, .ref (a0 + 2)] μ (fun _ => rfl) ?_
      obtain ⟨q6, h⟩ := am_bif h
      refine am_Ex.iald (v := (μ (a0 + 2) ((a1).toNatClampNeg))) rfl (am_isMarks_2 g_a0) (am_isMarks_n2 g_a0) q6 rfl ?_
      rcases am_ite h with ⟨q7, h⟩ | ⟨q7, h⟩
      · refine am_Ex.icmp_ge_t rfl q7 ?_
        refine am_Ex.seg 1 62 [.ref a0, .int a1, .int a2, .int a3, .int a4, .int a5] [.ref a0, .int a1, .ref (a0 + 2)] μ (fun _ => rfl) ?_
        refine am_Ex.getref rfl (am_isMarks_0 g_a0) rfl rfl ?_
        refine am_Ex.seg 1 66 [.ref a0, .int a1, .int a2, .int a3, .int a4, .int a5] [.int a1, .ref (a0 + 2), .int a1, .ref (a0 + 2)] μ (fun _ => rfl) ?_
        refine am_Ex.iald (v := (μ (a0 + 2) ((a1).toNatClampNeg))) rfl (am_isMarks_2 g_a0) (am_isMarks_n2 g_a0) q6 rfl ?_
        refine am_Ex.iast (v2 := (μ (a0 + 2) ((a1).toNatClampNeg))) (i2 := (a1).toNatClampNeg) rfl (am_isMarks_2 g_a0) q6 rfl rfl ?_
        refine am_Ex.seg 1 69 [.ref a0, .int a1, .int a2, .int a3, .int a4, .int a5] [.ref a0] (am_up μ (a0 + 2) ((a1).toNatClampNeg) (μ (a0 + 2) ((a1).toNatClampNeg))) (fun _ => rfl) ?_
        refine am_Ex.getref rfl (am_isMarks_0 g_a0) rfl rfl ?_
        refine am_Ex.seg 2 75 [.ref a0, .int a1, .int a2, .int a3, .int a4, .int a5] [.int a5, .int a1, .ref (a0 + 3)] (am_up μ (a0 + 2) ((a1).toNatClampNeg) (μ (a0 + 2) ((a1).toNatClampNeg))) (fun _ => rfl) ?_
        rcases am_ite h with ⟨q8, h⟩ | ⟨q8, h⟩
        · refine am_Ex.if_ne_t rfl q8 ?_
          refine am_Ex.seg 1 91 [.ref a0, .int a1, .int a2, .int a3, .int a4, .int a5] [.int a4, .int a1, .ref (a0 + 3)] (am_up μ (a0 + 2) ((a1).toNatClampNeg) (μ (a0 + 2) ((a1).toNatClampNeg))) (fun _ => rfl) ?_
          refine am_Ex.goto rfl ?_
          refine am_Ex.iast (v2 := a4) (i2 := (a1).toNatClampNeg) rfl (am_isMarks_3 g_a0) q6 rfl rfl ?_
          cases h
          exact am_Ex.vret rfl rfl
        · refine am_Ex.if_ne_f rfl (Decidable.not_not.mp q8) ?_
          refine am_Ex.seg 2 81 [.ref a0, .int a1, .int a2, .int a3, .int a4, .int a5] [.ref a0, .int a4, .int a1, .ref (a0 + 3)] (am_up μ (a0 + 2) ((a1).toNatClampNeg) (μ (a0 + 2) ((a1).toNatClampNeg))) (fun _ => rfl) ?_
          refine am_Ex.getref rfl (am_isMarks_0 g_a0) rfl rfl ?_
          refine am_Ex.seg 1 85 [.ref a0, .int a1, .int a2, .int a3, .int a4, .int a5] [.int a1, .ref (a0 + 3), .int a4, .int a1, .ref (a0 + 3)] (am_up μ (a0 + 2) ((a1).toNatClampNeg) (μ (a0 + 2) ((a1).toNatClampNeg))) (fun _ => rfl) ?_
          refine am_Ex.iald (v := ((am_up μ (a0 + 2) ((a1).toNatClampNeg) (μ (a0 + 2) ((a1).toNatClampNeg))) (a0 + 3) ((a1).toNatClampNeg))) rfl (am_isMarks_3 g_a0) (am_isMarks_n3 g_a0) q6 rfl ?_
          rcases am_ite h with ⟨q9, h⟩ | ⟨q9, h⟩
          · refine am_Ex.icmp_le_t rfl q9 ?_
            refine am_Ex.seg 1 95 [.ref a0, .int a1, .int a2, .int a3, .int a4, .int a5] [.ref a0, .int a1, .ref (a0 + 3)] (am_up μ (a0 + 2) ((a1).toNatClampNeg) (μ (a0 + 2) ((a1).toNatClampNeg))) (fun _ => rfl) ?_
            refine am_Ex.getref rfl (am_isMarks_0 g_a0) rfl rfl ?_
            refine am_Ex.seg 1 99 [.ref a0, .int a1, .int a2, .int a3, .int a4, .int a5] [.int a1, .ref (a0 + 3), .int a1, .ref (a0 + 3)] (am_up μ (a0 + 2) ((a1).toNatClampNeg) (μ (a0 + 2) ((a1).toNatClampNeg))) (fun _ => rfl) ?_
            refine am_Ex.iald (v := ((am_up μ (a0 + 2) ((a1).toNatClampNeg) (μ (a0 + 2) ((a1).toNatClampNeg))) (a0 + 3) ((a1).toNatClampNeg))) rfl (am_isMarks_3 g_a0) (am_isMarks_n3 g_a0) q6 rfl ?_
            refine am_Ex.iast (v2 := ((am_up μ (a0 + 2) ((a1).toNatClampNeg) (μ (a0 + 2) ((a1).toNatClampNeg))) (a0 + 3) ((a1).toNatClampNeg))) (i2 := (a1).toNatClampNeg) rfl (am_isMarks_3 g_a0) q6 rfl rfl ?_
            cases h
            exact am_Ex.vret rfl rfl
          · refine am_Ex.icmp_le_f rfl q9 ?_
            refine am_Ex.seg 1 91 [.ref a0, .int a1, .int a2, .int a3, .int a4, .int a5] [.int a4, .int a1, .ref (a0 + 3)] (am_up μ (a0 + 2) ((a1).toNatClampNeg) (μ (a0 + 2) ((a1).toNatClampNeg))) (fun _ => rfl) ?_
            refine am_Ex.goto rfl ?_
            refine am_Ex.iast (v2 := a4) (i2 := (a1).toNatClampNeg) rfl (am_isMarks_3 g_a0) q6 rfl rfl ?_
            cases h
            exact am_Ex.vret rfl rfl
      · refine am_Ex.icmp_ge_f rfl q7 ?_
        refine am_Ex.seg 1 58 [.ref a0, .int a1, .int a2, .int a3, .int a4, .int a5] [.int a3, .int a1, .ref (a0 + 2)] μ (fun _ => rfl) ?_
        refine am_Ex.goto rfl ?_
        refine am_Ex.iast (v2 := a3) (i2 := (a1).toNatClampNeg) rfl (am_isMarks_2 g_a0) q6 rfl rfl ?_
        refine am_Ex.seg 1 69 [.ref a0, .int a1, .int a2, .int a3, .int a4, .int a5] [.ref a0] (am_up μ (a0 + 2) ((a1).toNatClampNeg) a3) (fun _ => rfl) ?_
        refine am_Ex.getref rfl (am_isMarks_0 g_a0) rfl rfl ?_
        refine am_Ex.seg 2 75 [.ref a0, .int a1, .int a2, .int a3, .int a4, .int a5] [.int a5, .int a1, .ref (a0 + 3)] (am_up μ (a0 + 2) ((a1).toNatClampNeg) a3) (fun _ => rfl) ?_
        rcases am_ite h with ⟨q10, h⟩ | ⟨q10, h⟩
        · refine am_Ex.if_ne_t rfl q10 ?_
          refine am_Ex.seg 1 91 [.ref a0, .int a1, .int a2, .int a3, .int a4, .int a5] [.int a4, .int a1, .ref (a0 + 3)] (am_up μ (a0 + 2) ((a1).toNatClampNeg) a3) (fun _ => rfl) ?_
          refine am_Ex.goto rfl ?_
          refine am_Ex.iast (v2 := a4) (i2 := (a1).toNatClampNeg) rfl (am_isMarks_3 g_a0) q6 rfl rfl ?_
          cases h
          exact am_Ex.vret rfl rfl
        · refine am_Ex.if_ne_f rfl (Decidable.not_not.mp q10) ?_
          refine am_Ex.seg 2 81 [.ref a0, .int a1, .int a2, .int a3, .int a4, .int a5] [.ref a0, .int a4, .int a1, .ref (a0 + 3)] (am_up μ (a0 + 2) ((a1).toNatClampNeg) a3) (fun _ => rfl) ?_
          refine am_Ex.getref rfl (am_isMarks_0 g_a0) rfl rfl ?_
          refine am_Ex.seg 1 85 [.ref a0, .int a1, .int a2, .int a3, .int a4, .int a5] [.int a1, .ref (a0 + 3), .int a4, .int a1, .ref (a0 + 3)] (am_up μ (a0 + 2) ((a1).toNatClampNeg) a3) (fun _ => rfl) ?_
          refine am_Ex.iald (v := ((am_up μ (a0 + 2) ((a1).toNatClampNeg) a3) (a0 + 3) ((a1).toNatClampNeg))) rfl (am_isMarks_3 g_a0) (am_isMarks_n3 g_a0) q6 rfl ?_
          rcases am_ite h with ⟨q11, h⟩ | ⟨q11, h⟩
          · refine am_Ex.icmp_le_t rfl q11 ?_
            refine am_Ex.seg 1 95 [.ref a0, .int a1, .int a2, .int a3, .int a4, .int a5] [.ref a0, .int a1, .ref (a0 + 3)] (am_up μ (a0 + 2) ((a1).toNatClampNeg) a3) (fun _ => rfl) ?_
            refine am_Ex.getref rfl (am_isMarks_0 g_a0) rfl rfl ?_
            refine am_Ex.seg 1 99 [.ref a0, .int a1, .int a2, .int a3, .int a4, .int a5] [.int a1, .ref (a0 + 3), .int a1, .ref (a0 + 3)] (am_up μ (a0 + 2) ((a1).toNatClampNeg) a3) (fun _ => rfl) ?_
            refine am_Ex.iald (v := ((am_up μ (a0 + 2) ((a1).toNatClampNeg) a3) (a0 + 3) ((a1).toNatClampNeg))) rfl (am_isMarks_3 g_a0) (am_isMarks_n3 g_a0) q6 rfl ?_
            refine am_Ex.iast (v2 := ((am_up μ (a0 + 2) ((a1).toNatClampNeg) a3) (a0 + 3) ((a1).toNatClampNeg))) (i2 := (a1).toNatClampNeg) rfl (am_isMarks_3 g_a0) q6 rfl rfl ?_
            cases h
            exact am_Ex.vret rfl rfl
          · refine am_Ex.icmp_le_f rfl q11 ?_
            refine am_Ex.seg 1 91 [.ref a0, .int a1, .int a2, .int a3, .int a4, .int a5] [.int a4, .int a1, .ref (a0 + 3)] (am_up μ (a0 + 2) ((a1).toNatClampNeg) a3) (fun _ => rfl) ?_
            refine am_Ex.goto rfl ?_
            refine am_Ex.iast (v2 := a4) (i2 := (a1).toNatClampNeg) rfl (am_isMarks_3 g_a0) q6 rfl rfl ?_
            cases h
            exact am_Ex.vret rfl rfl
set_option maxRecDepth 20000 in
theorem e_fMarks_join_14 (d : Nat) : ∀ {a0 : Nat} {a1 : Int32} {a2 : Int32} {a3 : Int32} {a4 : Int32} {s0 : Int32} {w5 : Value} {μ : am_Mu} {out : am_Mu}, fMarks_join_14 a0 a1 a2 a3 a4 s0 μ = some out → am_Ex none (d + 0) 59 14 [.ref a0, .int a1, .int a2, .int a3, .int a4, w5] [.int s0] (am_SX tl) μ (none, (am_SX tl), out) := by
  intro a0 a1 a2 a3 a4 s0 w5 μ out h
  unfold fMarks_join_14 at h
  obtain ⟨g_a0, h⟩ := am_bif h
  refine am_Ex.seg 2 17 [.ref a0, .int a1, .int a2, .int a3, .int a4, .int s0] [.ref a0] μ (fun _ => rfl) ?_
  refine am_Ex.getref rfl (am_isMarks_0 g_a0) rfl rfl ?_
  refine am_Ex.seg 1 21 [.ref a0, .int a1, .int a2, .int a3, .int a4, .int s0] [.int a1, .ref (a0 + 1)] μ (fun _ => rfl) ?_
  obtain ⟨q1, h⟩ := am_bif h
  refine am_Ex.iald (v := (μ (a0 + 1) ((a1).toNatClampNeg))) rfl (am_isMarks_1 g_a0) (am_isMarks_n1 g_a0) q1 rfl ?_
  refine am_Ex.seg 1 23 [.ref a0, .int a1, .int a2, .int a3, .int a4, .int s0] [.int a2, .int (μ (a0 + 1) ((a1).toNatClampNeg))] μ (fun _ => rfl) ?_
  rcases am_ite h with ⟨q2, h⟩ | ⟨q2, h⟩
  · refine am_Ex.icmp_eq_t rfl q2 ?_
    exact e_fMarks_join_33 d h
  · refine am_Ex.icmp_eq_f rfl q2 ?_
    refine am_Ex.seg 1 27 [.ref a0, .int a1, .int a2, .int a3, .int a4, .int s0] [.ref a0] μ (fun _ => rfl) ?_
    refine am_Ex.getref rfl (am_isMarks_0 g_a0) rfl rfl ?_
    refine am_Ex.seg 2 32 [.ref a0, .int a1, .int a2, .int a3, .int a4, .int s0] [.int 1, .int a1, .ref (a0 + 1)] μ (fun _ => rfl) ?_
    refine am_Ex.iast (v2 := 1) (i2 := (a1).toNatClampNeg) rfl (am_isMarks_1 g_a0) q1 rfl rfl ?_
    exact e_fMarks_join_33 d h
set_option maxRecDepth 20000 in
theorem e_fMarks_join (d : Nat) : ∀ {a0 : Nat} {a1 : Int32} {a2 : Int32} {a3 : Int32} {a4 : Int32} {μ : am_Mu} {out : am_Mu}, fMarks_join a0 a1 a2 a3 a4 μ = some out → am_Ex none (d + 0) 59 0 [.ref a0, .int a1, .int a2, .int a3, .int a4, .null] [] (am_SX tl) μ (none, (am_SX tl), out) := by
  intro a0 a1 a2 a3 a4 μ out h
  unfold fMarks_join at h
  obtain ⟨g_a0, h⟩ := am_bif h
  refine am_Ex.seg 1 1 [.ref a0, .int a1, .int a2, .int a3, .int a4, .null] [.ref a0] μ (fun _ => rfl) ?_
  refine am_Ex.getref rfl (am_isMarks_0 g_a0) rfl rfl ?_
  refine am_Ex.seg 1 5 [.ref a0, .int a1, .int a2, .int a3, .int a4, .null] [.int a1, .ref (a0 + 1)] μ (fun _ => rfl) ?_
  obtain ⟨q1, h⟩ := am_bif h
  refine am_Ex.iald (v := (μ (a0 + 1) ((a1).toNatClampNeg))) rfl (am_isMarks_1 g_a0) (am_isMarks_n1 g_a0) q1 rfl ?_
  rcases am_ite h with ⟨q2, h⟩ | ⟨q2, h⟩
  · refine am_Ex.if_ne_t rfl q2 ?_
    refine am_Ex.seg 1 14 [.ref a0, .int a1, .int a2, .int a3, .int a4, .null] [.int 0] μ (fun _ => rfl) ?_
    exact e_fMarks_join_14 d h
  · refine am_Ex.if_ne_f rfl (Decidable.not_not.mp q2) ?_
    refine am_Ex.seg 1 10 [.ref a0, .int a1, .int a2, .int a3, .int a4, .null] [.int 1] μ (fun _ => rfl) ?_
    refine am_Ex.goto rfl ?_
    exact e_fMarks_join_14 d h
def fJudge_applyEffects_111 (k7 : Nat → Nat → Int32 → Int32 → Int32 → Int32 → Int32 → Int32 → am_Mu → Option (am_Mu)) (a1 : Nat) (a2 : Nat) (a3 : Int32) (a4 : Int32) (a5 : Int32) (a6 : Int32) (a7 : Int32) (a8 : Int32) (μ : am_Mu) : Option (am_Mu) := k7 a1 a2 a3 a4 a5 a6 a7 (a8 + 1) μ
def fJudge_applyEffects_79 (k7 : Nat → Nat → Int32 → Int32 → Int32 → Int32 → Int32 → Int32 → am_Mu → Option (am_Mu)) (a1 : Nat) (a2 : Nat) (a3 : Int32) (a4 : Int32) (a5 : Int32) (a6 : Int32) (a7 : Int32) (a8 : Int32) (a11 : Int32) (s0 : Int32) (μ : am_Mu) : Option (am_Mu) := (if a7 = 0 then (bif am_isMarks a1 then ((fMarks_join a1 a11 s0 a6 a6 μ).bind fun q2 => fJudge_applyEffects_111 k7 a1 a2 a3 a4 a5 a6 a7 a8 q2) else none) else (bif am_isMarks a1 then ((fMarks_put a1 a11 s0 a6 μ).bind fun q3 => fJudge_applyEffects_111 k7 a1 a2 a3 a4 a5 a6 a7 a8 q3) else none))
def fJudge_applyEffects_42 (k7 : Nat → Nat → Int32 → Int32 → Int32 → Int32 → Int32 → Int32 → am_Mu → Option (am_Mu)) (a1 : Nat) (a2 : Nat) (a3 : Int32) (a4 : Int32) (a5 : Int32) (a6 : Int32) (a7 : Int32) (a8 : Int32) (a9 : Int32) (s0 : Int32) (μ : am_Mu) : Option (am_Mu) := (if ¬ s0 = (-1) then (if ¬ (a9 &&& 16) = 0 then fJudge_applyEffects_79 k7 a1 a2 a3 a4 a5 a6 a7 a8 ((s0 * 8) + (a9 &&& 7)) 2 μ else fJudge_applyEffects_79 k7 a1 a2 a3 a4 a5 a6 a7 a8 ((s0 * 8) + (a9 &&& 7)) 0 μ) else fJudge_applyEffects_111 k7 a1 a2 a3 a4 a5 a6 a7 a8 μ)
def fJudge_applyEffects_7 : Nat → Nat → Nat → Int32 → Int32 → Int32 → Int32 → Int32 → Int32 → am_Mu → Option (am_Mu)
  | 0, _, _, _, _, _, _, _, _, _ => none
  | n + 1, a1, a2, a3, a4, a5, a6, a7, a8, μ => (bif am_isLaw a2 then (bif am_inb a3 24 then (if (μ (a2 + 3) ((a3).toNatClampNeg)) ≤ a8 then some μ else (bif am_inb a8 96 then (if ¬ ((μ (a2 + 5) ((a8).toNatClampNeg)) &&& 8) = 0 then fJudge_applyEffects_42 (fJudge_applyEffects_7 n) a1 a2 a3 a4 a5 a6 a7 a8 (μ (a2 + 5) ((a8).toNatClampNeg)) a5 μ else fJudge_applyEffects_42 (fJudge_applyEffects_7 n) a1 a2 a3 a4 a5 a6 a7 a8 (μ (a2 + 5) ((a8).toNatClampNeg)) a4 μ) else none)) else none) else none)
def fJudge_applyEffects (a1 : Nat) (a2 : Nat) (a3 : Int32) (a4 : Int32) (a5 : Int32) (a6 : Int32) (a7 : Int32) (μ : am_Mu) : Option (am_Mu) := (bif am_isLaw a2 then ((fLaw_effectsFrom a2 a3 μ).bind fun q1 => fJudge_applyEffects_7 am_F a1 a2 a3 a4 a5 a6 a7 q1.1 q1.2) else none)
set_option maxRecDepth 20000 in
theorem e_fJudge_applyEffects_111 (d : Nat) {k7 : Nat → Nat → Int32 → Int32 → Int32 → Int32 → Int32 → Int32 → am_Mu → Option (am_Mu)} (hk7 : ∀ {a1 : Nat} {a2 : Nat} {a3 : Int32} {a4 : Int32} {a5 : Int32} {a6 : Int32} {a7 : Int32} {a8 : Int32} {w0 w9 w10 w11 w12 : Value} {μ : am_Mu} {out : am_Mu}, k7 a1 a2 a3 a4 a5 a6 a7 a8 μ = some out → am_Ex none (d + 1) 13 7 [w0, .ref a1, .ref a2, .int a3, .int a4, .int a5, .int a6, .int a7, .int a8, w9, w10, w11, w12] [] (am_SX tl) μ (none, (am_SX tl), out)) : ∀ {a1 : Nat} {a2 : Nat} {a3 : Int32} {a4 : Int32} {a5 : Int32} {a6 : Int32} {a7 : Int32} {a8 : Int32} {w0 w9 w10 w11 w12 : Value} {μ : am_Mu} {out : am_Mu}, fJudge_applyEffects_111 k7 a1 a2 a3 a4 a5 a6 a7 a8 μ = some out → am_Ex none (d + 1) 13 111 [w0, .ref a1, .ref a2, .int a3, .int a4, .int a5, .int a6, .int a7, .int a8, w9, w10, w11, w12] [] (am_SX tl) μ (none, (am_SX tl), out) := by
  intro a1 a2 a3 a4 a5 a6 a7 a8 w0 w9 w10 w11 w12 μ out h
  unfold fJudge_applyEffects_111 at h
  refine am_Ex.seg 1 114 [w0, .ref a1, .ref a2, .int a3, .int a4, .int a5, .int a6, .int a7, .int (a8 + 1), w9, w10, w11, w12] [] μ (fun _ => rfl) ?_
  refine am_Ex.goto rfl ?_
  exact hk7 h
set_option maxRecDepth 20000 in
theorem e_fJudge_applyEffects_79 (d : Nat) {k7 : Nat → Nat → Int32 → Int32 → Int32 → Int32 → Int32 → Int32 → am_Mu → Option (am_Mu)} (hk7 : ∀ {a1 : Nat} {a2 : Nat} {a3 : Int32} {a4 : Int32} {a5 : Int32} {a6 : Int32} {a7 : Int32} {a8 : Int32} {w0 w9 w10 w11 w12 : Value} {μ : am_Mu} {out : am_Mu}, k7 a1 a2 a3 a4 a5 a6 a7 a8 μ = some out → am_Ex none (d + 1) 13 7 [w0, .ref a1, .ref a2, .int a3, .int a4, .int a5, .int a6, .int a7, .int a8, w9, w10, w11, w12] [] (am_SX tl) μ (none, (am_SX tl), out)) : ∀ {a1 : Nat} {a2 : Nat} {a3 : Int32} {a4 : Int32} {a5 : Int32} {a6 : Int32} {a7 : Int32} {a8 : Int32} {a11 : Int32} {s0 : Int32} {w0 w9 w10 w12 : Value} {μ : am_Mu} {out : am_Mu}, fJudge_applyEffects_79 k7 a1 a2 a3 a4 a5 a6 a7 a8 a11 s0 μ = some out → am_Ex none (d + 1) 13 79 [w0, .ref a1, .ref a2, .int a3, .int a4, .int a5, .int a6, .int a7, .int a8, w9, w10, .int a11, w12] [.int s0] (am_SX tl) μ (none, (am_SX tl), out) := by
  intro a1 a2 a3 a4 a5 a6 a7 a8 a11 s0 w0 w9 w10 w12 μ out h
  unfold fJudge_applyEffects_79 at h
  refine am_Ex.seg 2 83 [w0, .ref a1, .ref a2, .int a3, .int a4, .int a5, .int a6, .int a7, .int a8, w9, w10, .int a11, .int s0] [.int a7] μ (fun _ => rfl) ?_
  rcases am_ite h with ⟨q1, h⟩ | ⟨q1, h⟩
  · refine am_Ex.if_eq_t rfl q1 ?_
    refine am_Ex.seg 5 108 [w0, .ref a1, .ref a2, .int a3, .int a4, .int a5, .int a6, .int a7, .int a8, w9, w10, .int a11, .int s0] [.int a6, .int a6, .int s0, .int a11, .ref a1] μ (fun _ => rfl) ?_
    obtain ⟨g_a1, h⟩ := am_bif h
    obtain ⟨q2, h_q2, h⟩ := am_bind h
    refine am_Ex.ivk (na := 5) (b := a1) (As' := [.int a11, .int s0, .int a6, .int a6]) rfl rfl rfl rfl rfl rfl rfl (am_isMarks_0 g_a1) rfl (e_fMarks_join (d + 0) h_q2) ?_
    refine am_Ex.same 111 [w0, .ref a1, .ref a2, .int a3, .int a4, .int a5, .int a6, .int a7, .int a8, w9, w10, .int a11, .int s0] [] q2 rfl ?_
    exact e_fJudge_applyEffects_111 d hk7 h
  · refine am_Ex.if_eq_f rfl q1 ?_
    refine am_Ex.seg 4 93 [w0, .ref a1, .ref a2, .int a3, .int a4, .int a5, .int a6, .int a7, .int a8, w9, w10, .int a11, .int s0] [.int a6, .int s0, .int a11, .ref a1] μ (fun _ => rfl) ?_
    obtain ⟨g_a1, h⟩ := am_bif h
    obtain ⟨q3, h_q3, h⟩ := am_bind h
    refine am_Ex.ivk (na := 4) (b := a1) (As' := [.int a11, .int s0, .int a6]) rfl rfl rfl rfl rfl rfl rfl (am_isMarks_0 g_a1) rfl (e_fMarks_put (d + 0) h_q3) ?_
    refine am_Ex.same 96 [w0, .ref a1, .ref a2, .int a3, .int a4, .int a5, .int a6, .int a7, .int a8, w9, w10, .int a11, .int s0] [] q3 rfl ?_
    refine am_Ex.goto rfl ?_
    exact e_fJudge_applyEffects_111 d hk7 h
set_option maxRecDepth 20000 in
theorem e_fJudge_applyEffects_42 (d : Nat) {k7 : Nat → Nat → Int32 → Int32 → Int32 → Int32 → Int32 → Int32 → am_Mu → Option (am_Mu)} (hk7 : ∀ {a1 : Nat} {a2 : Nat} {a3 : Int32} {a4 : Int32} {a5 : Int32} {a6 : Int32} {a7 : Int32} {a8 : Int32} {w0 w9 w10 w11 w12 : Value} {μ : am_Mu} {out : am_Mu}, k7 a1 a2 a3 a4 a5 a6 a7 a8 μ = some out → am_Ex none (d + 1) 13 7 [w0, .ref a1, .ref a2, .int a3, .int a4, .int a5, .int a6, .int a7, .int a8, w9, w10, w11, w12] [] (am_SX tl) μ (none, (am_SX tl), out)) : ∀ {a1 : Nat} {a2 : Nat} {a3 : Int32} {a4 : Int32} {a5 : Int32} {a6 : Int32} {a7 : Int32} {a8 : Int32} {a9 : Int32} {s0 : Int32} {w0 w10 w11 w12 : Value} {μ : am_Mu} {out : am_Mu}, fJudge_applyEffects_42 k7 a1 a2 a3 a4 a5 a6 a7 a8 a9 s0 μ = some out → am_Ex none (d + 1) 13 42 [w0, .ref a1, .ref a2, .int a3, .int a4, .int a5, .int a6, .int a7, .int a8, .int a9, w10, w11, w12] [.int s0] (am_SX tl) μ (none, (am_SX tl), out) := by
  intro a1 a2 a3 a4 a5 a6 a7 a8 a9 s0 w0 w10 w11 w12 μ out h
  unfold fJudge_applyEffects_42 at h
  refine am_Ex.seg 3 47 [w0, .ref a1, .ref a2, .int a3, .int a4, .int a5, .int a6, .int a7, .int a8, .int a9, .int s0, w11, w12] [.int (-1), .int s0] μ (fun _ => rfl) ?_
  rcases am_ite h with ⟨q1, h⟩ | ⟨q1, h⟩
  · refine am_Ex.icmp_ne_t rfl q1 ?_
    refine am_Ex.seg 11 71 [w0, .ref a1, .ref a2, .int a3, .int a4, .int a5, .int a6, .int a7, .int a8, .int a9, .int s0, .int ((s0 * 8) + (a9 &&& 7)), w12] [.int (a9 &&& 16)] μ (fun _ => rfl) ?_
    rcases am_ite h with ⟨q2, h⟩ | ⟨q2, h⟩
    · refine am_Ex.if_ne_t rfl q2 ?_
      refine am_Ex.seg 1 79 [w0, .ref a1, .ref a2, .int a3, .int a4, .int a5, .int a6, .int a7, .int a8, .int a9, .int s0, .int ((s0 * 8) + (a9 &&& 7)), w12] [.int 2] μ (fun _ => rfl) ?_
      exact e_fJudge_applyEffects_79 d hk7 h
    · refine am_Ex.if_ne_f rfl (Decidable.not_not.mp q2) ?_
      refine am_Ex.seg 1 75 [w0, .ref a1, .ref a2, .int a3, .int a4, .int a5, .int a6, .int a7, .int a8, .int a9, .int s0, .int ((s0 * 8) + (a9 &&& 7)), w12] [.int 0] μ (fun _ => rfl) ?_
      refine am_Ex.goto rfl ?_
      exact e_fJudge_applyEffects_79 d hk7 h
  · refine am_Ex.icmp_ne_f rfl (Decidable.not_not.mp q1) ?_
    refine am_Ex.goto rfl ?_
    exact e_fJudge_applyEffects_111 d hk7 h
set_option maxRecDepth 20000 in
theorem e_fJudge_applyEffects_7 (d : Nat) : ∀ n : Nat, ∀ {a1 : Nat} {a2 : Nat} {a3 : Int32} {a4 : Int32} {a5 : Int32} {a6 : Int32} {a7 : Int32} {a8 : Int32} {w0 w9 w10 w11 w12 : Value} {μ : am_Mu} {out : am_Mu}, fJudge_applyEffects_7 n a1 a2 a3 a4 a5 a6 a7 a8 μ = some out → am_Ex none (d + 1) 13 7 [w0, .ref a1, .ref a2, .int a3, .int a4, .int a5, .int a6, .int a7, .int a8, w9, w10, w11, w12] [] (am_SX tl) μ (none, (am_SX tl), out) := by
  intro n
  induction n with
  | zero => intros; contradiction
  | succ n ih =>
    have hk7 : ∀ {a1 : Nat} {a2 : Nat} {a3 : Int32} {a4 : Int32} {a5 : Int32} {a6 : Int32} {a7 : Int32} {a8 : Int32} {w0 w9 w10 w11 w12 : Value} {μ : am_Mu} {out : am_Mu}, (fJudge_applyEffects_7 n) a1 a2 a3 a4 a5 a6 a7 a8 μ = some out → am_Ex none (d + 1) 13 7 [w0, .ref a1, .ref a2, .int a3, .int a4, .int a5, .int a6, .int a7, .int a8, w9, w10, w11, w12] [] (am_SX tl) μ (none, (am_SX tl), out) := ih
    intro a1 a2 a3 a4 a5 a6 a7 a8 w0 w9 w10 w11 w12 μ out h
    unfold fJudge_applyEffects_7 at h
    obtain ⟨g_a2, h⟩ := am_bif h
    refine am_Ex.seg 2 10 [w0, .ref a1, .ref a2, .int a3, .int a4, .int a5, .int a6, .int a7, .int a8, w9, w10, w11, w12] [.ref a2, .int a8] μ (fun _ => rfl) ?_
    refine am_Ex.getref rfl (am_isLaw_0 g_a2) rfl rfl ?_
    refine am_Ex.seg 1 14 [w0, .ref a1, .ref a2, .int a3, .int a4, .int a5, .int a6, .int a7, .int a8, w9, w10, w11, w12] [.int a3, .ref (a2 + 3), .int a8] μ (fun _ => rfl) ?_
    obtain ⟨q1, h⟩ := am_bif h
    refine am_Ex.iald (v := (μ (a2 + 3) ((a3).toNatClampNeg))) rfl (am_isLaw_3 g_a2) (am_isLaw_n3 g_a2) q1 rfl ?_
    rcases am_ite h with ⟨q2, h⟩ | ⟨q2, h⟩
    · refine am_Ex.icmp_ge_t rfl q2 ?_
      cases h
      exact am_Ex.vret rfl rfl
    · refine am_Ex.icmp_ge_f rfl q2 ?_
      refine am_Ex.seg 1 19 [w0, .ref a1, .ref a2, .int a3, .int a4, .int a5, .int a6, .int a7, .int a8, w9, w10, w11, w12] [.ref a2] μ (fun _ => rfl) ?_
      refine am_Ex.getref rfl (am_isLaw_0 g_a2) rfl rfl ?_
      refine am_Ex.seg 1 24 [w0, .ref a1, .ref a2, .int a3, .int a4, .int a5, .int a6, .int a7, .int a8, w9, w10, w11, w12] [.int a8, .ref (a2 + 5)] μ (fun _ => rfl) ?_
      obtain ⟨q3, h⟩ := am_bif h
      refine am_Ex.iald (v := (μ (a2 + 5) ((a8).toNatClampNeg))) rfl (am_isLaw_5 g_a2) (am_isLaw_n5 g_a2) q3 rfl ?_
      refine am_Ex.seg 4 32 [w0, .ref a1, .ref a2, .int a3, .int a4, .int a5, .int a6, .int a7, .int a8, .int (μ (a2 + 5) ((a8).toNatClampNeg)), w10, w11, w12] [.int ((μ (a2 + 5) ((a8).toNatClampNeg)) &&& 8)] μ (fun _ => rfl) ?_
      rcases am_ite h with ⟨q4, h⟩ | ⟨q4, h⟩
      · refine am_Ex.if_ne_t rfl q4 ?_
        refine am_Ex.seg 1 42 [w0, .ref a1, .ref a2, .int a3, .int a4, .int a5, .int a6, .int a7, .int a8, .int (μ (a2 + 5) ((a8).toNatClampNeg)), w10, w11, w12] [.int a5] μ (fun _ => rfl) ?_
        exact e_fJudge_applyEffects_42 d hk7 h
      · refine am_Ex.if_ne_f rfl (Decidable.not_not.mp q4) ?_
        refine am_Ex.seg 1 37 [w0, .ref a1, .ref a2, .int a3, .int a4, .int a5, .int a6, .int a7, .int a8, .int (μ (a2 + 5) ((a8).toNatClampNeg)), w10, w11, w12] [.int a4] μ (fun _ => rfl) ?_
        refine am_Ex.goto rfl ?_
        exact e_fJudge_applyEffects_42 d hk7 h
set_option maxRecDepth 20000 in
theorem e_fJudge_applyEffects (d : Nat) : ∀ {a1 : Nat} {a2 : Nat} {a3 : Int32} {a4 : Int32} {a5 : Int32} {a6 : Int32} {a7 : Int32} {μ : am_Mu} {out : am_Mu}, fJudge_applyEffects a1 a2 a3 a4 a5 a6 a7 μ = some out → am_Ex none (d + 1) 13 0 [.ref 27, .ref a1, .ref a2, .int a3, .int a4, .int a5, .int a6, .int a7, .null, .null, .null, .null, .null] [] (am_SX tl) μ (none, (am_SX tl), out) := by
  intro a1 a2 a3 a4 a5 a6 a7 μ out h
  unfold fJudge_applyEffects at h
  refine am_Ex.seg 2 2 [.ref 27, .ref a1, .ref a2, .int a3, .int a4, .int a5, .int a6, .int a7, .null, .null, .null, .null, .null] [.int a3, .ref a2] μ (fun _ => rfl) ?_
  obtain ⟨g_a2, h⟩ := am_bif h
  obtain ⟨q1, h_q1, h⟩ := am_bind h
  refine am_Ex.ivk (na := 2) (b := a2) (As' := [.int a3]) rfl rfl rfl rfl rfl rfl rfl (am_isLaw_0 g_a2) rfl (e_fLaw_effectsFrom (d + 0) h_q1) ?_
  refine am_Ex.same 5 [.ref 27, .ref a1, .ref a2, .int a3, .int a4, .int a5, .int a6, .int a7, .null, .null, .null, .null, .null] [.int q1.1] q1.2 rfl ?_
  refine am_Ex.seg 1 7 [.ref 27, .ref a1, .ref a2, .int a3, .int a4, .int a5, .int a6, .int a7, .int q1.1, .null, .null, .null, .null] [] q1.2 (fun _ => rfl) ?_
  exact e_fJudge_applyEffects_7 d am_F h
def fJudge_applyRules_71 (k3 : Nat → Nat → Int32 → Int32 → Int32 → Int32 → Int32 → am_Mu → Option (am_Mu)) (a1 : Nat) (a2 : Nat) (a3 : Int32) (a4 : Int32) (a5 : Int32) (a6 : Int32) (a7 : Int32) (μ : am_Mu) : Option (am_Mu) := k3 a1 a2 a3 a4 a5 a6 (a7 + 1) μ
def fJudge_applyRules_68 (k3 : Nat → Nat → Int32 → Int32 → Int32 → Int32 → Int32 → am_Mu → Option (am_Mu)) (a1 : Nat) (a2 : Nat) (a3 : Int32) (a4 : Int32) (a5 : Int32) (a6 : Int32) (a7 : Int32) (s1 : Nat) (s2 : Nat) (s3 : Int32) (s4 : Int32) (s5 : Int32) (s6 : Int32) (s7 : Int32) (μ : am_Mu) : Option (am_Mu) := (bif am_isMarks s1 then (bif am_isLaw s2 then ((fJudge_applyEffects s1 s2 s3 s4 s5 s6 s7 μ).bind fun q1 => fJudge_applyRules_71 k3 a1 a2 a3 a4 a5 a6 a7 q1) else none) else none)
def fJudge_applyRules_3 : Nat → Nat → Nat → Int32 → Int32 → Int32 → Int32 → Int32 → am_Mu → Option (am_Mu)
  | 0, _, _, _, _, _, _, _, _ => none
  | n + 1, a1, a2, a3, a4, a5, a6, a7, μ => (bif am_isLaw a2 then (if (μ a2 5) ≤ a7 then some μ else (bif am_inb a7 24 then (if (μ (a2 + 1) ((a7).toNatClampNeg)) = a3 then ((fJudge_ask a2 a7 a4 a5 a6 μ).bind fun q4 => (if q4.1 ≤ 0 then fJudge_applyRules_71 (fJudge_applyRules_3 n) a1 a2 a3 a4 a5 a6 a7 q4.2 else (if ¬ q4.1 = 2 then fJudge_applyRules_68 (fJudge_applyRules_3 n) a1 a2 a3 a4 a5 a6 a7 a1 a2 a7 a4 a5 a6 0 q4.2 else fJudge_applyRules_68 (fJudge_applyRules_3 n) a1 a2 a3 a4 a5 a6 a7 a1 a2 a7 a4 a5 a6 1 q4.2))) else fJudge_applyRules_71 (fJudge_applyRules_3 n) a1 a2 a3 a4 a5 a6 a7 μ) else none)) else none)
def fJudge_applyRules (a1 : Nat) (a2 : Nat) (a3 : Int32) (a4 : Int32) (a5 : Int32) (a6 : Int32) (μ : am_Mu) : Option (am_Mu) := fJudge_applyRules_3 am_F a1 a2 a3 a4 a5 a6 0 μ
set_option maxRecDepth 20000 in
theorem e_fJudge_applyRules_71 (d : Nat) {k3 : Nat → Nat → Int32 → Int32 → Int32 → Int32 → Int32 → am_Mu → Option (am_Mu)} (hk3 : ∀ {a1 : Nat} {a2 : Nat} {a3 : Int32} {a4 : Int32} {a5 : Int32} {a6 : Int32} {a7 : Int32} {w8 : Value} {μ : am_Mu} {out : am_Mu}, k3 a1 a2 a3 a4 a5 a6 a7 μ = some out → am_Ex none (d + 2) 12 3 [.ref 27, .ref a1, .ref a2, .int a3, .int a4, .int a5, .int a6, .int a7, w8] [] (am_SX tl) μ (none, (am_SX tl), out)) : ∀ {a1 : Nat} {a2 : Nat} {a3 : Int32} {a4 : Int32} {a5 : Int32} {a6 : Int32} {a7 : Int32} {w8 : Value} {μ : am_Mu} {out : am_Mu}, fJudge_applyRules_71 k3 a1 a2 a3 a4 a5 a6 a7 μ = some out → am_Ex none (d + 2) 12 71 [.ref 27, .ref a1, .ref a2, .int a3, .int a4, .int a5, .int a6, .int a7, w8] [] (am_SX tl) μ (none, (am_SX tl), out) := by
  intro a1 a2 a3 a4 a5 a6 a7 w8 μ out h
  unfold fJudge_applyRules_71 at h
  refine am_Ex.seg 1 74 [.ref 27, .ref a1, .ref a2, .int a3, .int a4, .int a5, .int a6, .int (a7 + 1), w8] [] μ (fun _ => rfl) ?_
  refine am_Ex.goto rfl ?_
  exact hk3 h
set_option maxRecDepth 20000 in
theorem e_fJudge_applyRules_68 (d : Nat) {k3 : Nat → Nat → Int32 → Int32 → Int32 → Int32 → Int32 → am_Mu → Option (am_Mu)} (hk3 : ∀ {a1 : Nat} {a2 : Nat} {a3 : Int32} {a4 : Int32} {a5 : Int32} {a6 : Int32} {a7 : Int32} {w8 : Value} {μ : am_Mu} {out : am_Mu}, k3 a1 a2 a3 a4 a5 a6 a7 μ = some out → am_Ex none (d + 2) 12 3 [.ref 27, .ref a1, .ref a2, .int a3, .int a4, .int a5, .int a6, .int a7, w8] [] (am_SX tl) μ (none, (am_SX tl), out)) : ∀ {a1 : Nat} {a2 : Nat} {a3 : Int32} {a4 : Int32} {a5 : Int32} {a6 : Int32} {a7 : Int32} {s1 : Nat} {s2 : Nat} {s3 : Int32} {s4 : Int32} {s5 : Int32} {s6 : Int32} {s7 : Int32} {w8 : Value} {μ : am_Mu} {out : am_Mu}, fJudge_applyRules_68 k3 a1 a2 a3 a4 a5 a6 a7 s1 s2 s3 s4 s5 s6 s7 μ = some out → am_Ex none (d + 2) 12 68 [.ref 27, .ref a1, .ref a2, .int a3, .int a4, .int a5, .int a6, .int a7, w8] [.int s7, .int s6, .int s5, .int s4, .int s3, .ref s2, .ref s1, .ref 27] (am_SX tl) μ (none, (am_SX tl), out) := by
  intro a1 a2 a3 a4 a5 a6 a7 s1 s2 s3 s4 s5 s6 s7 w8 μ out h
  unfold fJudge_applyRules_68 at h
  obtain ⟨g_s1, h⟩ := am_bif h
  obtain ⟨g_s2, h⟩ := am_bif h
  obtain ⟨q1, h_q1, h⟩ := am_bind h
  refine am_Ex.ivk (na := 8) (b := 27) (As' := [.ref s1, .ref s2, .int s3, .int s4, .int s5, .int s6, .int s7]) rfl rfl rfl rfl rfl rfl rfl rfl rfl (e_fJudge_applyEffects (d + 0) h_q1) ?_
  refine am_Ex.same 71 [.ref 27, .ref a1, .ref a2, .int a3, .int a4, .int a5, .int a6, .int a7, w8] [] q1 rfl ?_
  exact e_fJudge_applyRules_71 d hk3 h
set_option maxRecDepth 20000 in
theorem e_fJudge_applyRules_3 (d : Nat) : ∀ n : Nat, ∀ {a1 : Nat} {a2 : Nat} {a3 : Int32} {a4 : Int32} {a5 : Int32} {a6 : Int32} {a7 : Int32} {w8 : Value} {μ : am_Mu} {out : am_Mu}, fJudge_applyRules_3 n a1 a2 a3 a4 a5 a6 a7 μ = some out → am_Ex none (d + 2) 12 3 [.ref 27, .ref a1, .ref a2, .int a3, .int a4, .int a5, .int a6, .int a7, w8] [] (am_SX tl) μ (none, (am_SX tl), out) := by
  intro n
  induction n with
  | zero => intros; contradiction
  | succ n ih =>
    have hk3 : ∀ {a1 : Nat} {a2 : Nat} {a3 : Int32} {a4 : Int32} {a5 : Int32} {a6 : Int32} {a7 : Int32} {w8 : Value} {μ : am_Mu} {out : am_Mu}, (fJudge_applyRules_3 n) a1 a2 a3 a4 a5 a6 a7 μ = some out → am_Ex none (d + 2) 12 3 [.ref 27, .ref a1, .ref a2, .int a3, .int a4, .int a5, .int a6, .int a7, w8] [] (am_SX tl) μ (none, (am_SX tl), out) := ih
    intro a1 a2 a3 a4 a5 a6 a7 w8 μ out h
    unfold fJudge_applyRules_3 at h
    obtain ⟨g_a2, h⟩ := am_bif h
    refine am_Ex.seg 2 6 [.ref 27, .ref a1, .ref a2, .int a3, .int a4, .int a5, .int a6, .int a7, w8] [.ref a2, .int a7] μ (fun _ => rfl) ?_
    refine am_Ex.getint rfl (am_isLaw_0 g_a2) rfl rfl ?_
    rcases am_ite h with ⟨q1, h⟩ | ⟨q1, h⟩
    · refine am_Ex.icmp_ge_t rfl q1 ?_
      cases h
      exact am_Ex.vret rfl rfl
    · refine am_Ex.icmp_ge_f rfl q1 ?_
      refine am_Ex.seg 1 13 [.ref 27, .ref a1, .ref a2, .int a3, .int a4, .int a5, .int a6, .int a7, w8] [.ref a2] μ (fun _ => rfl) ?_
      refine am_Ex.getref rfl (am_isLaw_0 g_a2) rfl rfl ?_
      refine am_Ex.seg 1 18 [.ref 27, .ref a1, .ref a2, .int a3, .int a4, .int a5, .int a6, .int a7, w8] [.int a7, .ref (a2 + 1)] μ (fun _ => rfl) ?_
      obtain ⟨q2, h⟩ := am_bif h
      refine am_Ex.iald (v := (μ (a2 + 1) ((a7).toNatClampNeg))) rfl (am_isLaw_1 g_a2) (am_isLaw_n1 g_a2) q2 rfl ?_
      refine am_Ex.seg 1 20 [.ref 27, .ref a1, .ref a2, .int a3, .int a4, .int a5, .int a6, .int a7, w8] [.int a3, .int (μ (a2 + 1) ((a7).toNatClampNeg))] μ (fun _ => rfl) ?_
      rcases am_ite h with ⟨q3, h⟩ | ⟨q3, h⟩
      · refine am_Ex.icmp_eq_t rfl q3 ?_
        refine am_Ex.seg 6 36 [.ref 27, .ref a1, .ref a2, .int a3, .int a4, .int a5, .int a6, .int a7, w8] [.int a6, .int a5, .int a4, .int a7, .ref a2, .ref 27] μ (fun _ => rfl) ?_
        obtain ⟨q4, h_q4, h⟩ := am_bind h
        refine am_Ex.ivk (na := 6) (b := 27) (As' := [.ref a2, .int a7, .int a4, .int a5, .int a6]) rfl rfl rfl rfl rfl rfl rfl rfl rfl (e_fJudge_ask (d + 0) h_q4) ?_
        refine am_Ex.same 39 [.ref 27, .ref a1, .ref a2, .int a3, .int a4, .int a5, .int a6, .int a7, w8] [.int q4.1] q4.2 rfl ?_
        refine am_Ex.seg 2 43 [.ref 27, .ref a1, .ref a2, .int a3, .int a4, .int a5, .int a6, .int a7, .int q4.1] [.int q4.1] q4.2 (fun _ => rfl) ?_
        rcases am_ite h with ⟨q5, h⟩ | ⟨q5, h⟩
        · refine am_Ex.if_le_t rfl q5 ?_
          exact e_fJudge_applyRules_71 d hk3 h
        · refine am_Ex.if_le_f rfl q5 ?_
          refine am_Ex.seg 9 60 [.ref 27, .ref a1, .ref a2, .int a3, .int a4, .int a5, .int a6, .int a7, .int q4.1] [.int 2, .int q4.1, .int a6, .int a5, .int a4, .int a7, .ref a2, .ref a1, .ref 27] q4.2 (fun _ => rfl) ?_
          rcases am_ite h with ⟨q6, h⟩ | ⟨q6, h⟩
          · refine am_Ex.icmp_ne_t rfl q6 ?_
            refine am_Ex.seg 1 68 [.ref 27, .ref a1, .ref a2, .int a3, .int a4, .int a5, .int a6, .int a7, .int q4.1] [.int 0, .int a6, .int a5, .int a4, .int a7, .ref a2, .ref a1, .ref 27] q4.2 (fun _ => rfl) ?_
            exact e_fJudge_applyRules_68 d hk3 h
          · refine am_Ex.icmp_ne_f rfl (Decidable.not_not.mp q6) ?_
            refine am_Ex.seg 1 64 [.ref 27, .ref a1, .ref a2, .int a3, .int a4, .int a5, .int a6, .int a7, .int q4.1] [.int 1, .int a6, .int a5, .int a4, .int a7, .ref a2, .ref a1, .ref 27] q4.2 (fun _ => rfl) ?_
            refine am_Ex.goto rfl ?_
            exact e_fJudge_applyRules_68 d hk3 h
      · refine am_Ex.icmp_eq_f rfl q3 ?_
        refine am_Ex.goto rfl ?_
        exact e_fJudge_applyRules_71 d hk3 h
set_option maxRecDepth 20000 in
theorem e_fJudge_applyRules (d : Nat) : ∀ {a1 : Nat} {a2 : Nat} {a3 : Int32} {a4 : Int32} {a5 : Int32} {a6 : Int32} {μ : am_Mu} {out : am_Mu}, fJudge_applyRules a1 a2 a3 a4 a5 a6 μ = some out → am_Ex none (d + 2) 12 0 [.ref 27, .ref a1, .ref a2, .int a3, .int a4, .int a5, .int a6, .null, .null] [] (am_SX tl) μ (none, (am_SX tl), out) := by
  intro a1 a2 a3 a4 a5 a6 μ out h
  unfold fJudge_applyRules at h
  refine am_Ex.seg 2 3 [.ref 27, .ref a1, .ref a2, .int a3, .int a4, .int a5, .int a6, .int 0, .null] [] μ (fun _ => rfl) ?_
  exact e_fJudge_applyRules_3 d am_F h
def fMarks_joinThing_5 : Nat → Nat → Nat → Int32 → Int32 → am_Mu → Option (am_Mu)
  | 0, _, _, _, _, _ => none
  | n + 1, a0, a1, a2, a3, μ => (if ((a2 * 8) + 8) ≤ a3 then some μ else (bif am_isMarks a1 then (bif am_inb a3 160 then (bif am_isMarks a0 then ((fMarks_join a0 a3 (μ (a1 + 1) ((a3).toNatClampNeg)) (μ (a1 + 2) ((a3).toNatClampNeg)) (μ (a1 + 3) ((a3).toNatClampNeg)) μ).bind fun q3 => (fMarks_joinThing_5 n) a0 a1 a2 (a3 + 1) q3) else none) else none) else none))
def fMarks_joinThing (a0 : Nat) (a1 : Nat) (a2 : Int32) (μ : am_Mu) : Option (am_Mu) := fMarks_joinThing_5 am_F a0 a1 a2 (a2 * 8) μ
set_option maxRecDepth 20000 in
theorem e_fMarks_joinThing_5 (d : Nat) : ∀ n : Nat, ∀ {a0 : Nat} {a1 : Nat} {a2 : Int32} {a3 : Int32} {μ : am_Mu} {out : am_Mu}, fMarks_joinThing_5 n a0 a1 a2 a3 μ = some out → am_Ex none (d + 1) 61 5 [.ref a0, .ref a1, .int a2, .int a3] [] (am_SX tl) μ (none, (am_SX tl), out) := by
  intro n
  induction n with
  | zero => intros; contradiction
  | succ n ih =>
    have hk5 : ∀ {a0 : Nat} {a1 : Nat} {a2 : Int32} {a3 : Int32} {μ : am_Mu} {out : am_Mu}, (fMarks_joinThing_5 n) a0 a1 a2 a3 μ = some out → am_Ex none (d + 1) 61 5 [.ref a0, .ref a1, .int a2, .int a3] [] (am_SX tl) μ (none, (am_SX tl), out) := ih
    intro a0 a1 a2 a3 μ out h
    unfold fMarks_joinThing_5 at h
    refine am_Ex.seg 6 13 [.ref a0, .ref a1, .int a2, .int a3] [.int ((a2 * 8) + 8), .int a3] μ (fun _ => rfl) ?_
    rcases am_ite h with ⟨q1, h⟩ | ⟨q1, h⟩
    · refine am_Ex.icmp_ge_t rfl q1 ?_
      cases h
      exact am_Ex.vret rfl rfl
    · refine am_Ex.icmp_ge_f rfl q1 ?_
      obtain ⟨g_a1, h⟩ := am_bif h
      refine am_Ex.seg 3 19 [.ref a0, .ref a1, .int a2, .int a3] [.ref a1, .int a3, .ref a0] μ (fun _ => rfl) ?_
      refine am_Ex.getref rfl (am_isMarks_0 g_a1) rfl rfl ?_
      refine am_Ex.seg 1 23 [.ref a0, .ref a1, .int a2, .int a3] [.int a3, .ref (a1 + 1), .int a3, .ref a0] μ (fun _ => rfl) ?_
      obtain ⟨q2, h⟩ := am_bif h
      refine am_Ex.iald (v := (μ (a1 + 1) ((a3).toNatClampNeg))) rfl (am_isMarks_1 g_a1) (am_isMarks_n1 g_a1) q2 rfl ?_
      refine am_Ex.seg 1 25 [.ref a0, .ref a1, .int a2, .int a3] [.ref a1, .int (μ (a1 + 1) ((a3).toNatClampNeg)), .int a3, .ref a0] μ (fun _ => rfl) ?_
      refine am_Ex.getref rfl (am_isMarks_0 g_a1) rfl rfl ?_
      refine am_Ex.seg 1 29 [.ref a0, .ref a1, .int a2, .int a3] [.int a3, .ref (a1 + 2), .int (μ (a1 + 1) ((a3).toNatClampNeg)), .int a3, .ref a0] μ (fun _ => rfl) ?_
      refine am_Ex.iald (v := (μ (a1 + 2) ((a3).toNatClampNeg))) rfl (am_isMarks_2 g_a1) (am_isMarks_n2 g_a1) q2 rfl ?_
      refine am_Ex.seg 1 31 [.ref a0, .ref a1, .int a2, .int a3] [.ref a1, .int (μ (a1 + 2) ((a3).toNatClampNeg)), .int (μ (a1 + 1) ((a3).toNatClampNeg)), .int a3, .ref a0] μ (fun _ => rfl) ?_
      refine am_Ex.getref rfl (am_isMarks_0 g_a1) rfl rfl ?_
      refine am_Ex.seg 1 35 [.ref a0, .ref a1, .int a2, .int a3] [.int a3, .ref (a1 + 3), .int (μ (a1 + 2) ((a3).toNatClampNeg)), .int (μ (a1 + 1) ((a3).toNatClampNeg)), .int a3, .ref a0] μ (fun _ => rfl) ?_
      refine am_Ex.iald (v := (μ (a1 + 3) ((a3).toNatClampNeg))) rfl (am_isMarks_3 g_a1) (am_isMarks_n3 g_a1) q2 rfl ?_
      obtain ⟨g_a0, h⟩ := am_bif h
      obtain ⟨q3, h_q3, h⟩ := am_bind h
      refine am_Ex.ivk (na := 5) (b := a0) (As' := [.int a3, .int (μ (a1 + 1) ((a3).toNatClampNeg)), .int (μ (a1 + 2) ((a3).toNatClampNeg)), .int (μ (a1 + 3) ((a3).toNatClampNeg))]) rfl rfl rfl rfl rfl rfl rfl (am_isMarks_0 g_a0) rfl (e_fMarks_join (d + 0) h_q3) ?_
      refine am_Ex.same 39 [.ref a0, .ref a1, .int a2, .int a3] [] q3 rfl ?_
      refine am_Ex.seg 1 42 [.ref a0, .ref a1, .int a2, .int (a3 + 1)] [] q3 (fun _ => rfl) ?_
      refine am_Ex.goto rfl ?_
      exact hk5 h
set_option maxRecDepth 20000 in
theorem e_fMarks_joinThing (d : Nat) : ∀ {a0 : Nat} {a1 : Nat} {a2 : Int32} {μ : am_Mu} {out : am_Mu}, fMarks_joinThing a0 a1 a2 μ = some out → am_Ex none (d + 1) 61 0 [.ref a0, .ref a1, .int a2, .null] [] (am_SX tl) μ (none, (am_SX tl), out) := by
  intro a0 a1 a2 μ out h
  unfold fMarks_joinThing at h
  refine am_Ex.seg 4 5 [.ref a0, .ref a1, .int a2, .int (a2 * 8)] [] μ (fun _ => rfl) ?_
  exact e_fMarks_joinThing_5 d am_F h
def fJudge_perform_69 (a1 : Nat) (a4 : Int32) (a5 : Int32) (a7 : Int32) (a8 : Int32) (μ : am_Mu) : Option (am_Mu) := (if ¬ a7 = 0 then some μ else (bif am_isMarks a1 then ((fMarks_joinThing a1 52 a4 μ).bind fun q2 => (if a8 = 0 then some q2 else ((fMarks_joinThing a1 52 a5 q2).bind fun q4 => some q4))) else none))
def fJudge_perform_38 (a1 : Nat) (a2 : Nat) (a3 : Int32) (a4 : Int32) (a5 : Int32) (a6 : Int32) (a7 : Int32) (a8 : Int32) (μ : am_Mu) : Option (am_Mu) := ((fJudge_applyRules a1 a2 a3 a4 a5 a6 μ).bind fun q1 => (if a8 = 0 then fJudge_perform_69 a1 a4 a5 a7 a8 q1 else ((fJudge_applyRules a1 a2 a3 a5 a4 a6 q1).bind fun q3 => fJudge_perform_69 a1 a4 a5 a7 a8 q3)))
def fJudge_perform_11 (a1 : Nat) (a2 : Nat) (a3 : Int32) (a4 : Int32) (a5 : Int32) (a6 : Int32) (a7 : Int32) (s0 : Int32) (μ : am_Mu) : Option (am_Mu) := ((fMarks_copyThing 52 a1 a4 μ).bind fun q1 => (if s0 = 0 then fJudge_perform_38 a1 a2 a3 a4 a5 a6 a7 s0 q1 else ((fMarks_copyThing 52 a1 a5 q1).bind fun q3 => fJudge_perform_38 a1 a2 a3 a4 a5 a6 a7 s0 q3)))
def fJudge_perform (a1 : Nat) (a2 : Nat) (a3 : Int32) (a4 : Int32) (a5 : Int32) (a6 : Int32) (a7 : Int32) (μ : am_Mu) : Option (am_Mu) := (if a5 = (-1) then fJudge_perform_11 a1 a2 a3 a4 a5 a6 a7 0 μ else fJudge_perform_11 a1 a2 a3 a4 a5 a6 a7 1 μ)
set_option maxRecDepth 20000 in
theorem e_fJudge_perform_69 (d : Nat) : ∀ {a1 : Nat} {a4 : Int32} {a5 : Int32} {a7 : Int32} {a8 : Int32} {w2 w3 w6 : Value} {μ : am_Mu} {out : am_Mu}, fJudge_perform_69 a1 a4 a5 a7 a8 μ = some out → am_Ex none (d + 3) 11 69 [.ref 27, .ref a1, w2, w3, .int a4, .int a5, w6, .int a7, .int a8] [] (am_SX tl) μ (none, (am_SX tl), out) := by
  intro a1 a4 a5 a7 a8 w2 w3 w6 μ out h
  unfold fJudge_perform_69 at h
  refine am_Ex.seg 1 71 [.ref 27, .ref a1, w2, w3, .int a4, .int a5, w6, .int a7, .int a8] [.int a7] μ (fun _ => rfl) ?_
  rcases am_ite h with ⟨q1, h⟩ | ⟨q1, h⟩
  · refine am_Ex.if_ne_t rfl q1 ?_
    cases h
    exact am_Ex.vret rfl rfl
  · refine am_Ex.if_ne_f rfl (Decidable.not_not.mp q1) ?_
    refine am_Ex.seg 4 81 [.ref 27, .ref a1, w2, w3, .int a4, .int a5, w6, .int a7, .int a8] [.int a4, .ref 52, .ref a1] μ (fun _ => rfl) ?_
    obtain ⟨g_a1, h⟩ := am_bif h
    obtain ⟨q2, h_q2, h⟩ := am_bind h
    refine am_Ex.ivk (na := 3) (b := a1) (As' := [.ref 52, .int a4]) rfl rfl rfl rfl rfl rfl rfl (am_isMarks_0 g_a1) rfl (e_fMarks_joinThing (d + 1) h_q2) ?_
    refine am_Ex.same 84 [.ref 27, .ref a1, w2, w3, .int a4, .int a5, w6, .int a7, .int a8] [] q2 rfl ?_
    refine am_Ex.seg 1 86 [.ref 27, .ref a1, w2, w3, .int a4, .int a5, w6, .int a7, .int a8] [.int a8] q2 (fun _ => rfl) ?_
    rcases am_ite h with ⟨q3, h⟩ | ⟨q3, h⟩
    · refine am_Ex.if_eq_t rfl q3 ?_
      cases h
      exact am_Ex.vret rfl rfl
    · refine am_Ex.if_eq_f rfl q3 ?_
      refine am_Ex.seg 4 96 [.ref 27, .ref a1, w2, w3, .int a4, .int a5, w6, .int a7, .int a8] [.int a5, .ref 52, .ref a1] q2 (fun _ => rfl) ?_
      obtain ⟨q4, h_q4, h⟩ := am_bind h
      refine am_Ex.ivk (na := 3) (b := a1) (As' := [.ref 52, .int a5]) rfl rfl rfl rfl rfl rfl rfl (am_isMarks_0 g_a1) rfl (e_fMarks_joinThing (d + 1) h_q4) ?_
      refine am_Ex.same 99 [.ref 27, .ref a1, w2, w3, .int a4, .int a5, w6, .int a7, .int a8] [] q4 rfl ?_
      cases h
      exact am_Ex.vret rfl rfl
set_option maxRecDepth 20000 in
theorem e_fJudge_perform_38 (d : Nat) : ∀ {a1 : Nat} {a2 : Nat} {a3 : Int32} {a4 : Int32} {a5 : Int32} {a6 : Int32} {a7 : Int32} {a8 : Int32} {μ : am_Mu} {out : am_Mu}, fJudge_perform_38 a1 a2 a3 a4 a5 a6 a7 a8 μ = some out → am_Ex none (d + 3) 11 38 [.ref 27, .ref a1, .ref a2, .int a3, .int a4, .int a5, .int a6, .int a7, .int a8] [] (am_SX tl) μ (none, (am_SX tl), out) := by
  intro a1 a2 a3 a4 a5 a6 a7 a8 μ out h
  unfold fJudge_perform_38 at h
  refine am_Ex.seg 7 48 [.ref 27, .ref a1, .ref a2, .int a3, .int a4, .int a5, .int a6, .int a7, .int a8] [.int a6, .int a5, .int a4, .int a3, .ref a2, .ref a1, .ref 27] μ (fun _ => rfl) ?_
  obtain ⟨q1, h_q1, h⟩ := am_bind h
  refine am_Ex.ivk (na := 7) (b := 27) (As' := [.ref a1, .ref a2, .int a3, .int a4, .int a5, .int a6]) rfl rfl rfl rfl rfl rfl rfl rfl rfl (e_fJudge_applyRules (d + 0) h_q1) ?_
  refine am_Ex.same 51 [.ref 27, .ref a1, .ref a2, .int a3, .int a4, .int a5, .int a6, .int a7, .int a8] [] q1 rfl ?_
  refine am_Ex.seg 1 53 [.ref 27, .ref a1, .ref a2, .int a3, .int a4, .int a5, .int a6, .int a7, .int a8] [.int a8] q1 (fun _ => rfl) ?_
  rcases am_ite h with ⟨q2, h⟩ | ⟨q2, h⟩
  · refine am_Ex.if_eq_t rfl q2 ?_
    exact e_fJudge_perform_69 d h
  · refine am_Ex.if_eq_f rfl q2 ?_
    refine am_Ex.seg 7 66 [.ref 27, .ref a1, .ref a2, .int a3, .int a4, .int a5, .int a6, .int a7, .int a8] [.int a6, .int a4, .int a5, .int a3, .ref a2, .ref a1, .ref 27] q1 (fun _ => rfl) ?_
    obtain ⟨q3, h_q3, h⟩ := am_bind h
    refine am_Ex.ivk (na := 7) (b := 27) (As' := [.ref a1, .ref a2, .int a3, .int a5, .int a4, .int a6]) rfl rfl rfl rfl rfl rfl rfl rfl rfl (e_fJudge_applyRules (d + 0) h_q3) ?_
    refine am_Ex.same 69 [.ref 27, .ref a1, .ref a2, .int a3, .int a4, .int a5, .int a6, .int a7, .int a8] [] q3 rfl ?_
    exact e_fJudge_perform_69 d h
set_option maxRecDepth 20000 in
theorem e_fJudge_perform_11 (d : Nat) : ∀ {a1 : Nat} {a2 : Nat} {a3 : Int32} {a4 : Int32} {a5 : Int32} {a6 : Int32} {a7 : Int32} {s0 : Int32} {w8 : Value} {μ : am_Mu} {out : am_Mu}, fJudge_perform_11 a1 a2 a3 a4 a5 a6 a7 s0 μ = some out → am_Ex none (d + 3) 11 11 [.ref 27, .ref a1, .ref a2, .int a3, .int a4, .int a5, .int a6, .int a7, w8] [.int s0] (am_SX tl) μ (none, (am_SX tl), out) := by
  intro a1 a2 a3 a4 a5 a6 a7 s0 w8 μ out h
  unfold fJudge_perform_11 at h
  refine am_Ex.seg 5 20 [.ref 27, .ref a1, .ref a2, .int a3, .int a4, .int a5, .int a6, .int a7, .int s0] [.int a4, .ref a1, .ref 52] μ (fun _ => rfl) ?_
  obtain ⟨q1, h_q1, h⟩ := am_bind h
  refine am_Ex.ivk (na := 3) (b := 52) (As' := [.ref a1, .int a4]) rfl rfl rfl rfl rfl rfl rfl rfl rfl (e_fMarks_copyThing (d + 2) h_q1) ?_
  refine am_Ex.same 23 [.ref 27, .ref a1, .ref a2, .int a3, .int a4, .int a5, .int a6, .int a7, .int s0] [] q1 rfl ?_
  refine am_Ex.seg 1 25 [.ref 27, .ref a1, .ref a2, .int a3, .int a4, .int a5, .int a6, .int a7, .int s0] [.int s0] q1 (fun _ => rfl) ?_
  rcases am_ite h with ⟨q2, h⟩ | ⟨q2, h⟩
  · refine am_Ex.if_eq_t rfl q2 ?_
    exact e_fJudge_perform_38 d h
  · refine am_Ex.if_eq_f rfl q2 ?_
    refine am_Ex.seg 4 35 [.ref 27, .ref a1, .ref a2, .int a3, .int a4, .int a5, .int a6, .int a7, .int s0] [.int a5, .ref a1, .ref 52] q1 (fun _ => rfl) ?_
    obtain ⟨q3, h_q3, h⟩ := am_bind h
    refine am_Ex.ivk (na := 3) (b := 52) (As' := [.ref a1, .int a5]) rfl rfl rfl rfl rfl rfl rfl rfl rfl (e_fMarks_copyThing (d + 2) h_q3) ?_
    refine am_Ex.same 38 [.ref 27, .ref a1, .ref a2, .int a3, .int a4, .int a5, .int a6, .int a7, .int s0] [] q3 rfl ?_
    exact e_fJudge_perform_38 d h
set_option maxRecDepth 20000 in
theorem e_fJudge_perform (d : Nat) : ∀ {a1 : Nat} {a2 : Nat} {a3 : Int32} {a4 : Int32} {a5 : Int32} {a6 : Int32} {a7 : Int32} {μ : am_Mu} {out : am_Mu}, fJudge_perform a1 a2 a3 a4 a5 a6 a7 μ = some out → am_Ex none (d + 3) 11 0 [.ref 27, .ref a1, .ref a2, .int a3, .int a4, .int a5, .int a6, .int a7, .null] [] (am_SX tl) μ (none, (am_SX tl), out) := by
  intro a1 a2 a3 a4 a5 a6 a7 μ out h
  unfold fJudge_perform at h
  refine am_Ex.seg 2 3 [.ref 27, .ref a1, .ref a2, .int a3, .int a4, .int a5, .int a6, .int a7, .null] [.int (-1), .int a5] μ (fun _ => rfl) ?_
  rcases am_ite h with ⟨q1, h⟩ | ⟨q1, h⟩
  · refine am_Ex.icmp_eq_t rfl q1 ?_
    refine am_Ex.seg 1 11 [.ref 27, .ref a1, .ref a2, .int a3, .int a4, .int a5, .int a6, .int a7, .null] [.int 0] μ (fun _ => rfl) ?_
    exact e_fJudge_perform_11 d h
  · refine am_Ex.icmp_eq_f rfl q1 ?_
    refine am_Ex.seg 1 7 [.ref 27, .ref a1, .ref a2, .int a3, .int a4, .int a5, .int a6, .int a7, .null] [.int 1] μ (fun _ => rfl) ?_
    refine am_Ex.goto rfl ?_
    exact e_fJudge_perform_11 d h
def fJudge_play (a1 : Nat) (a2 : Int32) (a3 : Int32) (μ : am_Mu) : Option (am_Mu) := ((fLedger_isMistake a3 μ).bind fun q1 => (if q1.1 = 0 then (bif am_inb (a3 - 10) 200 then ((fJudge_lawAt a2 (q1.2 18 (((a3 - 10)).toNatClampNeg)) q1.2).bind fun q4 => (bif am_isLaw q4.1 then ((fJudge_perform a1 q4.1 (q4.2 15 (((a3 - 10)).toNatClampNeg)) (q4.2 16 (((a3 - 10)).toNatClampNeg)) (q4.2 17 (((a3 - 10)).toNatClampNeg)) (q1.2 18 (((a3 - 10)).toNatClampNeg)) (q4.2 19 (((a3 - 10)).toNatClampNeg)) q4.2).bind fun q5 => some q5) else none)) else none) else (bif am_inb a3 10 then (bif am_isMarks a1 then ((fMarks_put a1 (((q1.2 22 ((a3).toNatClampNeg)) * 8) + (q1.2 23 ((a3).toNatClampNeg))) 2 (q1.2 24 ((a3).toNatClampNeg)) q1.2).bind fun q7 => some q7) else none) else none)))
set_option maxRecDepth 20000 in
theorem e_fJudge_play (d : Nat) : ∀ {a1 : Nat} {a2 : Int32} {a3 : Int32} {μ : am_Mu} {out : am_Mu}, fJudge_play a1 a2 a3 μ = some out → am_Ex none (d + 4) 9 0 [.ref 27, .ref a1, .int a2, .int a3, .null, .null] [] (am_SX tl) μ (none, (am_SX tl), out) := by
  intro a1 a2 a3 μ out h
  unfold fJudge_play at h
  refine am_Ex.seg 3 5 [.ref 27, .ref a1, .int a2, .int a3, .null, .null] [.int a3, .ref 13] μ (fun _ => rfl) ?_
  obtain ⟨q1, h_q1, h⟩ := am_bind h
  refine am_Ex.ivk (na := 2) (b := 13) (As' := [.int a3]) rfl rfl rfl rfl rfl rfl rfl rfl rfl (e_fLedger_isMistake (d + 3) h_q1) ?_
  refine am_Ex.same 8 [.ref 27, .ref a1, .int a2, .int a3, .null, .null] [.int q1.1] q1.2 rfl ?_
  rcases am_ite h with ⟨q2, h⟩ | ⟨q2, h⟩
  · refine am_Ex.if_eq_t rfl q2 ?_
    refine am_Ex.seg 8 67 [.ref 27, .ref a1, .int a2, .int a3, .int (a3 - 10), .null] [.int (a3 - 10), .ref 18] q1.2 (fun _ => rfl) ?_
    obtain ⟨q3, h⟩ := am_bif h
    refine am_Ex.iald (v := (q1.2 18 (((a3 - 10)).toNatClampNeg))) rfl rfl rfl q3 rfl ?_
    refine am_Ex.seg 6 76 [.ref 27, .ref a1, .int a2, .int a3, .int (a3 - 10), .int (q1.2 18 (((a3 - 10)).toNatClampNeg))] [.int (q1.2 18 (((a3 - 10)).toNatClampNeg)), .int a2, .ref 27, .ref a1, .ref 27] q1.2 (fun _ => rfl) ?_
    obtain ⟨q4, h_q4, h⟩ := am_bind h
    refine am_Ex.ivk (na := 3) (b := 27) (As' := [.int a2, .int (q1.2 18 (((a3 - 10)).toNatClampNeg))]) rfl rfl rfl rfl rfl rfl rfl rfl rfl (e_fJudge_lawAt (d + 0) h_q4) ?_
    refine am_Ex.same 79 [.ref 27, .ref a1, .int a2, .int a3, .int (a3 - 10), .int (q1.2 18 (((a3 - 10)).toNatClampNeg))] [.ref q4.1, .ref a1, .ref 27] q4.2 rfl ?_
    refine am_Ex.seg 4 88 [.ref 27, .ref a1, .int a2, .int a3, .int (a3 - 10), .int (q1.2 18 (((a3 - 10)).toNatClampNeg))] [.int (a3 - 10), .ref 15, .ref q4.1, .ref a1, .ref 27] q4.2 (fun _ => rfl) ?_
    refine am_Ex.iald (v := (q4.2 15 (((a3 - 10)).toNatClampNeg))) rfl rfl rfl q3 rfl ?_
    refine am_Ex.seg 4 98 [.ref 27, .ref a1, .int a2, .int a3, .int (a3 - 10), .int (q1.2 18 (((a3 - 10)).toNatClampNeg))] [.int (a3 - 10), .ref 16, .int (q4.2 15 (((a3 - 10)).toNatClampNeg)), .ref q4.1, .ref a1, .ref 27] q4.2 (fun _ => rfl) ?_
    refine am_Ex.iald (v := (q4.2 16 (((a3 - 10)).toNatClampNeg))) rfl rfl rfl q3 rfl ?_
    refine am_Ex.seg 4 108 [.ref 27, .ref a1, .int a2, .int a3, .int (a3 - 10), .int (q1.2 18 (((a3 - 10)).toNatClampNeg))] [.int (a3 - 10), .ref 17, .int (q4.2 16 (((a3 - 10)).toNatClampNeg)), .int (q4.2 15 (((a3 - 10)).toNatClampNeg)), .ref q4.1, .ref a1, .ref 27] q4.2 (fun _ => rfl) ?_
    refine am_Ex.iald (v := (q4.2 17 (((a3 - 10)).toNatClampNeg))) rfl rfl rfl q3 rfl ?_
    refine am_Ex.seg 5 120 [.ref 27, .ref a1, .int a2, .int a3, .int (a3 - 10), .int (q1.2 18 (((a3 - 10)).toNatClampNeg))] [.int (a3 - 10), .ref 19, .int (q1.2 18 (((a3 - 10)).toNatClampNeg)), .int (q4.2 17 (((a3 - 10)).toNatClampNeg)), .int (q4.2 16 (((a3 - 10)).toNatClampNeg)), .int (q4.2 15 (((a3 - 10)).toNatClampNeg)), .ref q4.1, .ref a1, .ref 27] q4.2 (fun _ => rfl) ?_
    refine am_Ex.zald (v := (q4.2 19 (((a3 - 10)).toNatClampNeg))) rfl rfl q3 rfl ?_
    obtain ⟨g_q4_1, h⟩ := am_bif h
    obtain ⟨q5, h_q5, h⟩ := am_bind h
    refine am_Ex.ivk (na := 8) (b := 27) (As' := [.ref a1, .ref q4.1, .int (q4.2 15 (((a3 - 10)).toNatClampNeg)), .int (q4.2 16 (((a3 - 10)).toNatClampNeg)), .int (q4.2 17 (((a3 - 10)).toNatClampNeg)), .int (q1.2 18 (((a3 - 10)).toNatClampNeg)), .int (q4.2 19 (((a3 - 10)).toNatClampNeg))]) rfl rfl rfl rfl rfl rfl rfl rfl rfl (e_fJudge_perform (d + 0) h_q5) ?_
    refine am_Ex.same 124 [.ref 27, .ref a1, .int a2, .int a3, .int (a3 - 10), .int (q1.2 18 (((a3 - 10)).toNatClampNeg))] [] q5 rfl ?_
    cases h
    exact am_Ex.vret rfl rfl
  · refine am_Ex.if_eq_f rfl q2 ?_
    refine am_Ex.seg 4 19 [.ref 27, .ref a1, .int a2, .int a3, .null, .null] [.int a3, .ref 22] q1.2 (fun _ => rfl) ?_
    obtain ⟨q6, h⟩ := am_bif h
    refine am_Ex.iald (v := (q1.2 22 ((a3).toNatClampNeg))) rfl rfl rfl q6 rfl ?_
    refine am_Ex.seg 6 31 [.ref 27, .ref a1, .int a2, .int a3, .null, .null] [.int a3, .ref 23, .int ((q1.2 22 ((a3).toNatClampNeg)) * 8)] q1.2 (fun _ => rfl) ?_
    refine am_Ex.iald (v := (q1.2 23 ((a3).toNatClampNeg))) rfl rfl rfl q6 rfl ?_
    refine am_Ex.seg 9 47 [.ref 27, .ref a1, .int a2, .int a3, .int (((q1.2 22 ((a3).toNatClampNeg)) * 8) + (q1.2 23 ((a3).toNatClampNeg))), .null] [.int a3, .ref 24, .int 2, .int (((q1.2 22 ((a3).toNatClampNeg)) * 8) + (q1.2 23 ((a3).toNatClampNeg))), .ref a1] q1.2 (fun _ => rfl) ?_
    refine am_Ex.iald (v := (q1.2 24 ((a3).toNatClampNeg))) rfl rfl rfl q6 rfl ?_
    obtain ⟨g_a1, h⟩ := am_bif h
    obtain ⟨q7, h_q7, h⟩ := am_bind h
    refine am_Ex.ivk (na := 4) (b := a1) (As' := [.int (((q1.2 22 ((a3).toNatClampNeg)) * 8) + (q1.2 23 ((a3).toNatClampNeg))), .int 2, .int (q1.2 24 ((a3).toNatClampNeg))]) rfl rfl rfl rfl rfl rfl rfl (am_isMarks_0 g_a1) rfl (e_fMarks_put (d + 3) h_q7) ?_
    refine am_Ex.same 51 [.ref 27, .ref a1, .int a2, .int a3, .int (((q1.2 22 ((a3).toNatClampNeg)) * 8) + (q1.2 23 ((a3).toNatClampNeg))), .null] [] q7 rfl ?_
    cases h
    exact am_Ex.vret rfl rfl
def fJudge_tellWhatIs_70 (k11 : Nat → Int32 → Int32 → Int32 → Int32 → am_Mu → Option (am_Mu)) (a1 : Nat) (a2 : Int32) (a3 : Int32) (a4 : Int32) (a5 : Int32) (μ : am_Mu) : Option (am_Mu) := k11 a1 a2 a3 a4 (a5 + 1) μ
def fJudge_tellWhatIs_11 : Nat → Nat → Int32 → Int32 → Int32 → Int32 → am_Mu → Option (am_Mu)
  | 0, _, _, _, _, _, _ => none
  | n + 1, a1, a2, a3, a4, a5, μ => (if (μ 13 13) ≤ a5 then some μ else (bif am_inb a5 210 then ((fLedger_minuteOf (μ 26 ((a5).toNatClampNeg)) μ).bind fun q3 => (if a3 < q3.1 then fJudge_tellWhatIs_70 (fJudge_tellWhatIs_11 n) a1 a2 a3 a4 a5 q3.2 else ((fLedger_isKnown (μ 26 ((a5).toNatClampNeg)) a4 q3.2).bind fun q5 => (if q5.1 = 0 then fJudge_tellWhatIs_70 (fJudge_tellWhatIs_11 n) a1 a2 a3 a4 a5 q5.2 else ((fJudge_play a1 a2 (μ 26 ((a5).toNatClampNeg)) q5.2).bind fun q7 => fJudge_tellWhatIs_70 (fJudge_tellWhatIs_11 n) a1 a2 a3 a4 a5 q7))))) else none))
def fJudge_tellWhatIs (a1 : Nat) (a2 : Int32) (a3 : Int32) (a4 : Int32) (μ : am_Mu) : Option (am_Mu) := (bif am_isMarks a1 then ((fMarks_begin a1 μ).bind fun q1 => fJudge_tellWhatIs_11 am_F a1 a2 a3 a4 0 q1) else none)
set_option maxRecDepth 20000 in
theorem e_fJudge_tellWhatIs_70 (d : Nat) {k11 : Nat → Int32 → Int32 → Int32 → Int32 → am_Mu → Option (am_Mu)} (hk11 : ∀ {a1 : Nat} {a2 : Int32} {a3 : Int32} {a4 : Int32} {a5 : Int32} {w6 : Value} {μ : am_Mu} {out : am_Mu}, k11 a1 a2 a3 a4 a5 μ = some out → am_Ex none (d + 5) 8 11 [.ref 27, .ref a1, .int a2, .int a3, .int a4, .int a5, w6] [] (am_SX tl) μ (none, (am_SX tl), out)) : ∀ {a1 : Nat} {a2 : Int32} {a3 : Int32} {a4 : Int32} {a5 : Int32} {w6 : Value} {μ : am_Mu} {out : am_Mu}, fJudge_tellWhatIs_70 k11 a1 a2 a3 a4 a5 μ = some out → am_Ex none (d + 5) 8 70 [.ref 27, .ref a1, .int a2, .int a3, .int a4, .int a5, w6] [] (am_SX tl) μ (none, (am_SX tl), out) := by
  intro a1 a2 a3 a4 a5 w6 μ out h
  unfold fJudge_tellWhatIs_70 at h
  refine am_Ex.seg 1 73 [.ref 27, .ref a1, .int a2, .int a3, .int a4, .int (a5 + 1), w6] [] μ (fun _ => rfl) ?_
  refine am_Ex.goto rfl ?_
  exact hk11 h
set_option maxRecDepth 20000 in
theorem e_fJudge_tellWhatIs_11 (d : Nat) : ∀ n : Nat, ∀ {a1 : Nat} {a2 : Int32} {a3 : Int32} {a4 : Int32} {a5 : Int32} {w6 : Value} {μ : am_Mu} {out : am_Mu}, fJudge_tellWhatIs_11 n a1 a2 a3 a4 a5 μ = some out → am_Ex none (d + 5) 8 11 [.ref 27, .ref a1, .int a2, .int a3, .int a4, .int a5, w6] [] (am_SX tl) μ (none, (am_SX tl), out) := by
  intro n
  induction n with
  | zero => intros; contradiction
  | succ n ih =>
    have hk11 : ∀ {a1 : Nat} {a2 : Int32} {a3 : Int32} {a4 : Int32} {a5 : Int32} {w6 : Value} {μ : am_Mu} {out : am_Mu}, (fJudge_tellWhatIs_11 n) a1 a2 a3 a4 a5 μ = some out → am_Ex none (d + 5) 8 11 [.ref 27, .ref a1, .int a2, .int a3, .int a4, .int a5, w6] [] (am_SX tl) μ (none, (am_SX tl), out) := ih
    intro a1 a2 a3 a4 a5 w6 μ out h
    unfold fJudge_tellWhatIs_11 at h
    refine am_Ex.seg 4 20 [.ref 27, .ref a1, .int a2, .int a3, .int a4, .int a5, w6] [.int (μ 13 13), .int a5] μ (fun _ => rfl) ?_
    rcases am_ite h with ⟨q1, h⟩ | ⟨q1, h⟩
    · refine am_Ex.icmp_ge_t rfl q1 ?_
      cases h
      exact am_Ex.vret rfl rfl
    · refine am_Ex.icmp_ge_f rfl q1 ?_
      refine am_Ex.seg 4 32 [.ref 27, .ref a1, .int a2, .int a3, .int a4, .int a5, w6] [.int a5, .ref 26] μ (fun _ => rfl) ?_
      obtain ⟨q2, h⟩ := am_bif h
      refine am_Ex.iald (v := (μ 26 ((a5).toNatClampNeg))) rfl rfl rfl q2 rfl ?_
      refine am_Ex.seg 4 41 [.ref 27, .ref a1, .int a2, .int a3, .int a4, .int a5, .int (μ 26 ((a5).toNatClampNeg))] [.int (μ 26 ((a5).toNatClampNeg)), .ref 13] μ (fun _ => rfl) ?_
      obtain ⟨q3, h_q3, h⟩ := am_bind h
      refine am_Ex.ivk (na := 2) (b := 13) (As' := [.int (μ 26 ((a5).toNatClampNeg))]) rfl rfl rfl rfl rfl rfl rfl rfl rfl (e_fLedger_minuteOf (d + 3) h_q3) ?_
      refine am_Ex.same 44 [.ref 27, .ref a1, .int a2, .int a3, .int a4, .int a5, .int (μ 26 ((a5).toNatClampNeg))] [.int q3.1] q3.2 rfl ?_
      refine am_Ex.seg 1 45 [.ref 27, .ref a1, .int a2, .int a3, .int a4, .int a5, .int (μ 26 ((a5).toNatClampNeg))] [.int a3, .int q3.1] q3.2 (fun _ => rfl) ?_
      rcases am_ite h with ⟨q4, h⟩ | ⟨q4, h⟩
      · refine am_Ex.icmp_gt_t rfl q4 ?_
        exact e_fJudge_tellWhatIs_70 d hk11 h
      · refine am_Ex.icmp_gt_f rfl q4 ?_
        refine am_Ex.seg 4 56 [.ref 27, .ref a1, .int a2, .int a3, .int a4, .int a5, .int (μ 26 ((a5).toNatClampNeg))] [.int a4, .int (μ 26 ((a5).toNatClampNeg)), .ref 13] q3.2 (fun _ => rfl) ?_
        obtain ⟨q5, h_q5, h⟩ := am_bind h
        refine am_Ex.ivk (na := 3) (b := 13) (As' := [.int (μ 26 ((a5).toNatClampNeg)), .int a4]) rfl rfl rfl rfl rfl rfl rfl rfl rfl (e_fLedger_isKnown (d + 3) h_q5) ?_
        refine am_Ex.same 59 [.ref 27, .ref a1, .int a2, .int a3, .int a4, .int a5, .int (μ 26 ((a5).toNatClampNeg))] [.int q5.1] q5.2 rfl ?_
        rcases am_ite h with ⟨q6, h⟩ | ⟨q6, h⟩
        · refine am_Ex.if_eq_t rfl q6 ?_
          exact e_fJudge_tellWhatIs_70 d hk11 h
        · refine am_Ex.if_eq_f rfl q6 ?_
          refine am_Ex.seg 4 67 [.ref 27, .ref a1, .int a2, .int a3, .int a4, .int a5, .int (μ 26 ((a5).toNatClampNeg))] [.int (μ 26 ((a5).toNatClampNeg)), .int a2, .ref a1, .ref 27] q5.2 (fun _ => rfl) ?_
          obtain ⟨q7, h_q7, h⟩ := am_bind h
          refine am_Ex.ivk (na := 4) (b := 27) (As' := [.ref a1, .int a2, .int (μ 26 ((a5).toNatClampNeg))]) rfl rfl rfl rfl rfl rfl rfl rfl rfl (e_fJudge_play (d + 0) h_q7) ?_
          refine am_Ex.same 70 [.ref 27, .ref a1, .int a2, .int a3, .int a4, .int a5, .int (μ 26 ((a5).toNatClampNeg))] [] q7 rfl ?_
          exact e_fJudge_tellWhatIs_70 d hk11 h
set_option maxRecDepth 20000 in
theorem e_fJudge_tellWhatIs (d : Nat) : ∀ {a1 : Nat} {a2 : Int32} {a3 : Int32} {a4 : Int32} {μ : am_Mu} {out : am_Mu}, fJudge_tellWhatIs a1 a2 a3 a4 μ = some out → am_Ex none (d + 5) 8 0 [.ref 27, .ref a1, .int a2, .int a3, .int a4, .null, .null] [] (am_SX tl) μ (none, (am_SX tl), out) := by
  intro a1 a2 a3 a4 μ out h
  unfold fJudge_tellWhatIs at h
  refine am_Ex.seg 3 5 [.ref 27, .ref a1, .int a2, .int a3, .int a4, .null, .null] [.ref 13, .ref a1] μ (fun _ => rfl) ?_
  obtain ⟨g_a1, h⟩ := am_bif h
  obtain ⟨q1, h_q1, h⟩ := am_bind h
  refine am_Ex.ivk (na := 2) (b := a1) (As' := [.ref 13]) rfl rfl rfl rfl rfl rfl rfl (am_isMarks_0 g_a1) rfl (e_fMarks_begin (d + 3) h_q1) ?_
  refine am_Ex.same 8 [.ref 27, .ref a1, .int a2, .int a3, .int a4, .null, .null] [] q1 rfl ?_
  refine am_Ex.seg 2 11 [.ref 27, .ref a1, .int a2, .int a3, .int a4, .int 0, .null] [] q1 (fun _ => rfl) ?_
  exact e_fJudge_tellWhatIs_11 d am_F h
def fJudge_cleanse (a1 : Nat) (a2 : Int32) (a3 : Int32) (a4 : Int32) (μ : am_Mu) : Option (am_Mu) := ((fJudge_lawAt a2 a4 μ).bind fun q1 => (bif am_isLaw q1.1 then ((fJudge_perform a1 q1.1 2 a3 (-1) a4 1 q1.2).bind fun q2 => some q2) else none))
set_option maxRecDepth 20000 in
theorem e_fJudge_cleanse (d : Nat) : ∀ {a1 : Nat} {a2 : Int32} {a3 : Int32} {a4 : Int32} {μ : am_Mu} {out : am_Mu}, fJudge_cleanse a1 a2 a3 a4 μ = some out → am_Ex none (d + 4) 10 0 [.ref 27, .ref a1, .int a2, .int a3, .int a4] [] (am_SX tl) μ (none, (am_SX tl), out) := by
  intro a1 a2 a3 a4 μ out h
  unfold fJudge_cleanse at h
  refine am_Ex.seg 5 6 [.ref 27, .ref a1, .int a2, .int a3, .int a4] [.int a4, .int a2, .ref 27, .ref a1, .ref 27] μ (fun _ => rfl) ?_
  obtain ⟨q1, h_q1, h⟩ := am_bind h
  refine am_Ex.ivk (na := 3) (b := 27) (As' := [.int a2, .int a4]) rfl rfl rfl rfl rfl rfl rfl rfl rfl (e_fJudge_lawAt (d + 0) h_q1) ?_
  refine am_Ex.same 9 [.ref 27, .ref a1, .int a2, .int a3, .int a4] [.ref q1.1, .ref a1, .ref 27] q1.2 rfl ?_
  refine am_Ex.seg 5 15 [.ref 27, .ref a1, .int a2, .int a3, .int a4] [.int 1, .int a4, .int (-1), .int a3, .int 2, .ref q1.1, .ref a1, .ref 27] q1.2 (fun _ => rfl) ?_
  obtain ⟨g_q1_1, h⟩ := am_bif h
  obtain ⟨q2, h_q2, h⟩ := am_bind h
  refine am_Ex.ivk (na := 8) (b := 27) (As' := [.ref a1, .ref q1.1, .int 2, .int a3, .int (-1), .int a4, .int 1]) rfl rfl rfl rfl rfl rfl rfl rfl rfl (e_fJudge_perform (d + 0) h_q2) ?_
  refine am_Ex.same 18 [.ref 27, .ref a1, .int a2, .int a3, .int a4] [] q2 rfl ?_
  cases h
  exact am_Ex.vret rfl rfl
def fB_isIn_13 (μ : am_Mu) : Option (Int32 × am_Mu) := some (0, μ)
def fB_isIn (a0 : Int32) (a1 : Int32) (μ : am_Mu) : Option (Int32 × am_Mu) := (if a0 < 0 then fB_isIn_13 μ else (if a1 ≤ a0 then fB_isIn_13 μ else some (1, μ)))
set_option maxRecDepth 20000 in
theorem e_fB_isIn_13 (d : Nat) : ∀ {w0 w1 : Value} {μ : am_Mu} {out : Int32 × am_Mu}, fB_isIn_13 μ = some out → am_Ex none (d + 0) 86 13 [w0, w1] [] (am_SX tl) μ (some (.int out.1), (am_SX tl), out.2) := by
  intro w0 w1 μ out h
  unfold fB_isIn_13 at h
  refine am_Ex.seg 1 14 [w0, w1] [.int 0] μ (fun _ => rfl) ?_
  cases h
  exact am_Ex.zret rfl rfl (by decide)
set_option maxRecDepth 20000 in
theorem e_fB_isIn (d : Nat) : ∀ {a0 : Int32} {a1 : Int32} {μ : am_Mu} {out : Int32 × am_Mu}, fB_isIn a0 a1 μ = some out → am_Ex none (d + 0) 86 0 [.int a0, .int a1] [] (am_SX tl) μ (some (.int out.1), (am_SX tl), out.2) := by
  intro a0 a1 μ out h
  unfold fB_isIn at h
  refine am_Ex.seg 1 1 [.int a0, .int a1] [.int a0] μ (fun _ => rfl) ?_
  rcases am_ite h with ⟨q1, h⟩ | ⟨q1, h⟩
  · refine am_Ex.if_lt_t rfl q1 ?_
    exact e_fB_isIn_13 d h
  · refine am_Ex.if_lt_f rfl q1 ?_
    refine am_Ex.seg 2 6 [.int a0, .int a1] [.int a1, .int a0] μ (fun _ => rfl) ?_
    rcases am_ite h with ⟨q2, h⟩ | ⟨q2, h⟩
    · refine am_Ex.icmp_ge_t rfl q2 ?_
      exact e_fB_isIn_13 d h
    · refine am_Ex.icmp_ge_f rfl q2 ?_
      refine am_Ex.seg 1 10 [.int a0, .int a1] [.int 1] μ (fun _ => rfl) ?_
      refine am_Ex.goto rfl ?_
      cases h
      exact am_Ex.zret rfl rfl (by decide)
def fLedger_addThing (a1 : Int32) (μ : am_Mu) : Option (Int32 × am_Mu) := (if 20 ≤ (μ 13 14) then some ((-1), μ) else ((fB_isIn a1 256 μ).bind fun q2 => (if ¬ q2.1 = 0 then (bif am_inb (q2.2 13 14) 20 then some ((((q2.2 13 14) + 1) - 1), (am_up (am_up q2.2 14 (((q2.2 13 14)).toNatClampNeg) a1) 13 14 ((q2.2 13 14) + 1))) else none) else some ((-1), q2.2))))
set_option maxRecDepth 20000 in
theorem e_fLedger_addThing (d : Nat) : ∀ {a1 : Int32} {μ : am_Mu} {out : Int32 × am_Mu}, fLedger_addThing a1 μ = some out → am_Ex none (d + 1) 45 0 [.ref 13, .int a1] [] (am_SX tl) μ (some (.int out.1), (am_SX tl), out.2) := by
  intro a1 μ out h
  unfold fLedger_addThing at h
  refine am_Ex.seg 3 6 [.ref 13, .int a1] [.int 20, .int (μ 13 14)] μ (fun _ => rfl) ?_
  rcases am_ite h with ⟨q1, h⟩ | ⟨q1, h⟩
  · refine am_Ex.icmp_ge_t rfl q1 ?_
    refine am_Ex.seg 1 20 [.ref 13, .int a1] [.int (-1)] μ (fun _ => rfl) ?_
    cases h
    exact am_Ex.iret rfl rfl
  · refine am_Ex.icmp_ge_f rfl q1 ?_
    refine am_Ex.seg 2 13 [.ref 13, .int a1] [.int 256, .int a1] μ (fun _ => rfl) ?_
    obtain ⟨q2, h_q2, h⟩ := am_bind h
    refine am_Ex.isk (na := 2) rfl (As := [.int a1, .int 256]) rfl rfl rfl rfl rfl rfl (e_fB_isIn (d + 0) h_q2) ?_
    refine am_Ex.same 16 [.ref 13, .int a1] [.int q2.1] q2.2 rfl ?_
    rcases am_ite h with ⟨q3, h⟩ | ⟨q3, h⟩
    · refine am_Ex.if_ne_t rfl q3 ?_
      refine am_Ex.seg 5 30 [.ref 13, .int a1] [.int a1, .int (q2.2 13 14), .ref 14] q2.2 (fun _ => rfl) ?_
      obtain ⟨q4, h⟩ := am_bif h
      refine am_Ex.iast (v2 := a1) (i2 := ((q2.2 13 14)).toNatClampNeg) rfl rfl q4 rfl rfl ?_
      refine am_Ex.seg 10 47 [.ref 13, .int a1] [.int (((q2.2 13 14) + 1) - 1)] (am_up (am_up q2.2 14 (((q2.2 13 14)).toNatClampNeg) a1) 13 14 ((q2.2 13 14) + 1)) (fun _ => rfl) ?_
      cases h
      exact am_Ex.iret rfl rfl
    · refine am_Ex.if_ne_f rfl (Decidable.not_not.mp q3) ?_
      refine am_Ex.seg 1 20 [.ref 13, .int a1] [.int (-1)] q2.2 (fun _ => rfl) ?_
      cases h
      exact am_Ex.iret rfl rfl
def fLedger_canBeSecond_52 (μ : am_Mu) : Option (Int32 × am_Mu) := some (0, μ)
def fLedger_canBeSecond (a1 : Int32) (a2 : Int32) (a3 : Int32) (μ : am_Mu) : Option (Int32 × am_Mu) := (if a1 = 0 then ((fB_isIn a3 (μ 13 14) μ).bind fun q2 => (if q2.1 = 0 then fLedger_canBeSecond_52 q2.2 else (if a2 = a3 then fLedger_canBeSecond_52 q2.2 else some (1, q2.2)))) else (if a1 = 1 then ((fB_isIn a3 (μ 13 14) μ).bind fun q6 => (if q6.1 = 0 then fLedger_canBeSecond_52 q6.2 else (if a2 = a3 then fLedger_canBeSecond_52 q6.2 else some (1, q6.2)))) else (if a1 = 2 then (if ¬ a3 = (-1) then some (0, μ) else some (1, μ)) else (if a1 = 3 then (if ¬ a3 = (-1) then some (0, μ) else some (1, μ)) else some (0, μ)))))
set_option maxRecDepth 20000 in
theorem e_fLedger_canBeSecond_52 (d : Nat) : ∀ {w0 w1 w2 w3 : Value} {μ : am_Mu} {out : Int32 × am_Mu}, fLedger_canBeSecond_52 μ = some out → am_Ex none (d + 1) 47 52 [w0, w1, w2, w3] [] (am_SX tl) μ (some (.int out.1), (am_SX tl), out.2) := by
  intro w0 w1 w2 w3 μ out h
  unfold fLedger_canBeSecond_52 at h
  refine am_Ex.seg 1 53 [w0, w1, w2, w3] [.int 0] μ (fun _ => rfl) ?_
  cases h
  exact am_Ex.zret rfl rfl (by decide)
set_option maxRecDepth 20000 in
theorem e_fLedger_canBeSecond (d : Nat) : ∀ {a1 : Int32} {a2 : Int32} {a3 : Int32} {μ : am_Mu} {out : Int32 × am_Mu}, fLedger_canBeSecond a1 a2 a3 μ = some out → am_Ex none (d + 1) 47 0 [.ref 13, .int a1, .int a2, .int a3] [] (am_SX tl) μ (some (.int out.1), (am_SX tl), out.2) := by
  intro a1 a2 a3 μ out h
  unfold fLedger_canBeSecond at h
  refine am_Ex.seg 1 1 [.ref 13, .int a1, .int a2, .int a3] [.int a1] μ (fun _ => rfl) ?_
  rcases am_ite h with ⟨q1, h⟩ | ⟨q1, h⟩
  · refine am_Ex.tblIn 32 (v := 0) rfl q1 (by decide) rfl rfl ?_
    refine am_Ex.seg 3 37 [.ref 13, .int a1, .int a2, .int a3] [.int (μ 13 14), .int a3] μ (fun _ => rfl) ?_
    obtain ⟨q2, h_q2, h⟩ := am_bind h
    refine am_Ex.isk (na := 2) rfl (As := [.int a3, .int (μ 13 14)]) rfl rfl rfl rfl rfl rfl (e_fB_isIn (d + 0) h_q2) ?_
    refine am_Ex.same 40 [.ref 13, .int a1, .int a2, .int a3] [.int q2.1] q2.2 rfl ?_
    rcases am_ite h with ⟨q3, h⟩ | ⟨q3, h⟩
    · refine am_Ex.if_eq_t rfl q3 ?_
      exact e_fLedger_canBeSecond_52 d h
    · refine am_Ex.if_eq_f rfl q3 ?_
      refine am_Ex.seg 2 45 [.ref 13, .int a1, .int a2, .int a3] [.int a3, .int a2] q2.2 (fun _ => rfl) ?_
      rcases am_ite h with ⟨q4, h⟩ | ⟨q4, h⟩
      · refine am_Ex.icmp_eq_t rfl q4 ?_
        exact e_fLedger_canBeSecond_52 d h
      · refine am_Ex.icmp_eq_f rfl q4 ?_
        refine am_Ex.seg 1 49 [.ref 13, .int a1, .int a2, .int a3] [.int 1] q2.2 (fun _ => rfl) ?_
        refine am_Ex.goto rfl ?_
        cases h
        exact am_Ex.zret rfl rfl (by decide)
  rcases am_ite h with ⟨q5, h⟩ | ⟨q5, h⟩
  · refine am_Ex.tblIn 32 (v := 1) rfl q5 (by decide) rfl rfl ?_
    refine am_Ex.seg 3 37 [.ref 13, .int a1, .int a2, .int a3] [.int (μ 13 14), .int a3] μ (fun _ => rfl) ?_
    obtain ⟨q6, h_q6, h⟩ := am_bind h
    refine am_Ex.isk (na := 2) rfl (As := [.int a3, .int (μ 13 14)]) rfl rfl rfl rfl rfl rfl (e_fB_isIn (d + 0) h_q6) ?_
    refine am_Ex.same 40 [.ref 13, .int a1, .int a2, .int a3] [.int q6.1] q6.2 rfl ?_
    rcases am_ite h with ⟨q7, h⟩ | ⟨q7, h⟩
    · refine am_Ex.if_eq_t rfl q7 ?_
      exact e_fLedger_canBeSecond_52 d h
    · refine am_Ex.if_eq_f rfl q7 ?_
      refine am_Ex.seg 2 45 [.ref 13, .int a1, .int a2, .int a3] [.int a3, .int a2] q6.2 (fun _ => rfl) ?_
      rcases am_ite h with ⟨q8, h⟩ | ⟨q8, h⟩
      · refine am_Ex.icmp_eq_t rfl q8 ?_
        exact e_fLedger_canBeSecond_52 d h
      · refine am_Ex.icmp_eq_f rfl q8 ?_
        refine am_Ex.seg 1 49 [.ref 13, .int a1, .int a2, .int a3] [.int 1] q6.2 (fun _ => rfl) ?_
        refine am_Ex.goto rfl ?_
        cases h
        exact am_Ex.zret rfl rfl (by decide)
  rcases am_ite h with ⟨q9, h⟩ | ⟨q9, h⟩
  · refine am_Ex.tblIn 54 (v := 2) rfl q9 (by decide) rfl rfl ?_
    refine am_Ex.seg 2 56 [.ref 13, .int a1, .int a2, .int a3] [.int (-1), .int a3] μ (fun _ => rfl) ?_
    rcases am_ite h with ⟨q10, h⟩ | ⟨q10, h⟩
    · refine am_Ex.icmp_ne_t rfl q10 ?_
      refine am_Ex.seg 1 64 [.ref 13, .int a1, .int a2, .int a3] [.int 0] μ (fun _ => rfl) ?_
      cases h
      exact am_Ex.zret rfl rfl (by decide)
    · refine am_Ex.icmp_ne_f rfl (Decidable.not_not.mp q10) ?_
      refine am_Ex.seg 1 60 [.ref 13, .int a1, .int a2, .int a3] [.int 1] μ (fun _ => rfl) ?_
      refine am_Ex.goto rfl ?_
      cases h
      exact am_Ex.zret rfl rfl (by decide)
  rcases am_ite h with ⟨q11, h⟩ | ⟨q11, h⟩
  · refine am_Ex.tblIn 54 (v := 3) rfl q11 (by decide) rfl rfl ?_
    refine am_Ex.seg 2 56 [.ref 13, .int a1, .int a2, .int a3] [.int (-1), .int a3] μ (fun _ => rfl) ?_
    rcases am_ite h with ⟨q12, h⟩ | ⟨q12, h⟩
    · refine am_Ex.icmp_ne_t rfl q12 ?_
      refine am_Ex.seg 1 64 [.ref 13, .int a1, .int a2, .int a3] [.int 0] μ (fun _ => rfl) ?_
      cases h
      exact am_Ex.zret rfl rfl (by decide)
    · refine am_Ex.icmp_ne_f rfl (Decidable.not_not.mp q12) ?_
      refine am_Ex.seg 1 60 [.ref 13, .int a1, .int a2, .int a3] [.int 1] μ (fun _ => rfl) ?_
      refine am_Ex.goto rfl ?_
      cases h
      exact am_Ex.zret rfl rfl (by decide)
  refine am_Ex.tblOut 65 rfl (by have := lv_neT q1 (a := 0) rfl; have := lv_neT q5 (a := 1) rfl; have := lv_neT q9 (a := 2) rfl; have := lv_neT q11 (a := 3) rfl; omega) rfl ?_
  refine am_Ex.seg 1 66 [.ref 13, .int a1, .int a2, .int a3] [.int 0] μ (fun _ => rfl) ?_
  cases h
  exact am_Ex.zret rfl rfl (by decide)
def fLedger_comesAhead_25 (μ : am_Mu) : Option (Int32 × am_Mu) := some (1, μ)
def fLedger_comesAhead_29 (μ : am_Mu) : Option (Int32 × am_Mu) := some (0, μ)
def fLedger_comesAhead (a1 : Int32) (a2 : Int32) (μ : am_Mu) : Option (Int32 × am_Mu) := ((fLedger_minuteOf a1 μ).bind fun q1 => ((fLedger_minuteOf a2 q1.2).bind fun q2 => (if (q1.1 - q2.1) < 0 then fLedger_comesAhead_25 q2.2 else (if ¬ (q1.1 - q2.1) = 0 then fLedger_comesAhead_29 q2.2 else (if a2 ≤ a1 then fLedger_comesAhead_29 q2.2 else fLedger_comesAhead_25 q2.2)))))
set_option maxRecDepth 20000 in
theorem e_fLedger_comesAhead_25 (d : Nat) : ∀ {w0 w1 w2 w3 : Value} {μ : am_Mu} {out : Int32 × am_Mu}, fLedger_comesAhead_25 μ = some out → am_Ex none (d + 2) 50 25 [w0, w1, w2, w3] [] (am_SX tl) μ (some (.int out.1), (am_SX tl), out.2) := by
  intro w0 w1 w2 w3 μ out h
  unfold fLedger_comesAhead_25 at h
  refine am_Ex.seg 1 26 [w0, w1, w2, w3] [.int 1] μ (fun _ => rfl) ?_
  refine am_Ex.goto rfl ?_
  cases h
  exact am_Ex.zret rfl rfl (by decide)
set_option maxRecDepth 20000 in
theorem e_fLedger_comesAhead_29 (d : Nat) : ∀ {w0 w1 w2 w3 : Value} {μ : am_Mu} {out : Int32 × am_Mu}, fLedger_comesAhead_29 μ = some out → am_Ex none (d + 2) 50 29 [w0, w1, w2, w3] [] (am_SX tl) μ (some (.int out.1), (am_SX tl), out.2) := by
  intro w0 w1 w2 w3 μ out h
  unfold fLedger_comesAhead_29 at h
  refine am_Ex.seg 1 30 [w0, w1, w2, w3] [.int 0] μ (fun _ => rfl) ?_
  cases h
  exact am_Ex.zret rfl rfl (by decide)
set_option maxRecDepth 20000 in
theorem e_fLedger_comesAhead (d : Nat) : ∀ {a1 : Int32} {a2 : Int32} {μ : am_Mu} {out : Int32 × am_Mu}, fLedger_comesAhead a1 a2 μ = some out → am_Ex none (d + 2) 50 0 [.ref 13, .int a1, .int a2, .null] [] (am_SX tl) μ (some (.int out.1), (am_SX tl), out.2) := by
  intro a1 a2 μ out h
  unfold fLedger_comesAhead at h
  refine am_Ex.seg 2 2 [.ref 13, .int a1, .int a2, .null] [.int a1, .ref 13] μ (fun _ => rfl) ?_
  obtain ⟨q1, h_q1, h⟩ := am_bind h
  refine am_Ex.ivk (na := 2) (b := 13) (As' := [.int a1]) rfl rfl rfl rfl rfl rfl rfl rfl rfl (e_fLedger_minuteOf (d + 0) h_q1) ?_
  refine am_Ex.same 5 [.ref 13, .int a1, .int a2, .null] [.int q1.1] q1.2 rfl ?_
  refine am_Ex.seg 2 7 [.ref 13, .int a1, .int a2, .null] [.int a2, .ref 13, .int q1.1] q1.2 (fun _ => rfl) ?_
  obtain ⟨q2, h_q2, h⟩ := am_bind h
  refine am_Ex.ivk (na := 2) (b := 13) (As' := [.int a2]) rfl rfl rfl rfl rfl rfl rfl rfl rfl (e_fLedger_minuteOf (d + 0) h_q2) ?_
  refine am_Ex.same 10 [.ref 13, .int a1, .int a2, .null] [.int q2.1, .int q1.1] q2.2 rfl ?_
  refine am_Ex.seg 3 13 [.ref 13, .int a1, .int a2, .int (q1.1 - q2.1)] [.int (q1.1 - q2.1)] q2.2 (fun _ => rfl) ?_
  rcases am_ite h with ⟨q3, h⟩ | ⟨q3, h⟩
  · refine am_Ex.if_lt_t rfl q3 ?_
    exact e_fLedger_comesAhead_25 d h
  · refine am_Ex.if_lt_f rfl q3 ?_
    refine am_Ex.seg 1 17 [.ref 13, .int a1, .int a2, .int (q1.1 - q2.1)] [.int (q1.1 - q2.1)] q2.2 (fun _ => rfl) ?_
    rcases am_ite h with ⟨q4, h⟩ | ⟨q4, h⟩
    · refine am_Ex.if_ne_t rfl q4 ?_
      exact e_fLedger_comesAhead_29 d h
    · refine am_Ex.if_ne_f rfl (Decidable.not_not.mp q4) ?_
      refine am_Ex.seg 2 22 [.ref 13, .int a1, .int a2, .int (q1.1 - q2.1)] [.int a2, .int a1] q2.2 (fun _ => rfl) ?_
      rcases am_ite h with ⟨q5, h⟩ | ⟨q5, h⟩
      · refine am_Ex.icmp_ge_t rfl q5 ?_
        exact e_fLedger_comesAhead_29 d h
      · refine am_Ex.icmp_ge_f rfl q5 ?_
        exact e_fLedger_comesAhead_25 d h
def fLedger_place_67 (a1 : Int32) (a2 : Int32) (μ : am_Mu) : Option (am_Mu) := (bif am_inb a2 210 then some (am_up (am_up μ 26 ((a2).toNatClampNeg) a1) 13 13 ((μ 13 13) + 1)) else none)
def fLedger_place_23 : Nat → Int32 → Int32 → Int32 → am_Mu → Option (am_Mu)
  | 0, _, _, _, _ => none
  | n + 1, a1, a2, a3, μ => (if a3 ≤ 0 then fLedger_place_67 a1 a2 μ else (bif am_inb (a3 - 1) 210 then ((fLedger_comesAhead a1 (μ 26 (((a3 - 1)).toNatClampNeg)) μ).bind fun q3 => (if q3.1 = 0 then fLedger_place_67 a1 a2 q3.2 else (bif am_inb a3 210 then (fLedger_place_23 n) a1 (a3 - 1) (a3 + (-1)) (am_up q3.2 26 ((a3).toNatClampNeg) (q3.2 26 (((a3 - 1)).toNatClampNeg))) else none))) else none))
def fLedger_place (a1 : Int32) (μ : am_Mu) : Option (am_Mu) := (if (μ 13 13) < 210 then fLedger_place_23 am_F a1 (μ 13 13) (μ 13 13) μ else some μ)
set_option maxRecDepth 20000 in
theorem e_fLedger_place_67 (d : Nat) : ∀ {a1 : Int32} {a2 : Int32} {w3 : Value} {μ : am_Mu} {out : am_Mu}, fLedger_place_67 a1 a2 μ = some out → am_Ex none (d + 3) 49 67 [.ref 13, .int a1, .int a2, w3] [] (am_SX tl) μ (none, (am_SX tl), out) := by
  intro a1 a2 w3 μ out h
  unfold fLedger_place_67 at h
  refine am_Ex.seg 4 73 [.ref 13, .int a1, .int a2, w3] [.int a1, .int a2, .ref 26] μ (fun _ => rfl) ?_
  obtain ⟨q1, h⟩ := am_bif h
  refine am_Ex.iast (v2 := a1) (i2 := (a2).toNatClampNeg) rfl rfl q1 rfl rfl ?_
  refine am_Ex.seg 6 84 [.ref 13, .int a1, .int a2, w3] [] (am_up (am_up μ 26 ((a2).toNatClampNeg) a1) 13 13 ((μ 13 13) + 1)) (fun _ => rfl) ?_
  cases h
  exact am_Ex.vret rfl rfl
set_option maxRecDepth 20000 in
theorem e_fLedger_place_23 (d : Nat) : ∀ n : Nat, ∀ {a1 : Int32} {a2 : Int32} {a3 : Int32} {μ : am_Mu} {out : am_Mu}, fLedger_place_23 n a1 a2 a3 μ = some out → am_Ex none (d + 3) 49 23 [.ref 13, .int a1, .int a2, .int a3] [] (am_SX tl) μ (none, (am_SX tl), out) := by
  intro n
  induction n with
  | zero => intros; contradiction
  | succ n ih =>
    have hk23 : ∀ {a1 : Int32} {a2 : Int32} {a3 : Int32} {μ : am_Mu} {out : am_Mu}, (fLedger_place_23 n) a1 a2 a3 μ = some out → am_Ex none (d + 3) 49 23 [.ref 13, .int a1, .int a2, .int a3] [] (am_SX tl) μ (none, (am_SX tl), out) := ih
    intro a1 a2 a3 μ out h
    unfold fLedger_place_23 at h
    refine am_Ex.seg 1 24 [.ref 13, .int a1, .int a2, .int a3] [.int a3] μ (fun _ => rfl) ?_
    rcases am_ite h with ⟨q1, h⟩ | ⟨q1, h⟩
    · refine am_Ex.if_le_t rfl q1 ?_
      exact e_fLedger_place_67 d h
    · refine am_Ex.if_le_f rfl q1 ?_
      refine am_Ex.seg 7 36 [.ref 13, .int a1, .int a2, .int a3] [.int (a3 - 1), .ref 26, .int a1, .ref 13] μ (fun _ => rfl) ?_
      obtain ⟨q2, h⟩ := am_bif h
      refine am_Ex.iald (v := (μ 26 (((a3 - 1)).toNatClampNeg))) rfl rfl rfl q2 rfl ?_
      obtain ⟨q3, h_q3, h⟩ := am_bind h
      refine am_Ex.ivk (na := 3) (b := 13) (As' := [.int a1, .int (μ 26 (((a3 - 1)).toNatClampNeg))]) rfl rfl rfl rfl rfl rfl rfl rfl rfl (e_fLedger_comesAhead (d + 0) h_q3) ?_
      refine am_Ex.same 40 [.ref 13, .int a1, .int a2, .int a3] [.int q3.1] q3.2 rfl ?_
      rcases am_ite h with ⟨q4, h⟩ | ⟨q4, h⟩
      · refine am_Ex.if_eq_t rfl q4 ?_
        exact e_fLedger_place_67 d h
      · refine am_Ex.if_eq_f rfl q4 ?_
        refine am_Ex.seg 8 55 [.ref 13, .int a1, .int a2, .int a3] [.int (a3 - 1), .ref 26, .int a3, .ref 26] q3.2 (fun _ => rfl) ?_
        refine am_Ex.iald (v := (q3.2 26 (((a3 - 1)).toNatClampNeg))) rfl rfl rfl q2 rfl ?_
        obtain ⟨q5, h⟩ := am_bif h
        refine am_Ex.iast (v2 := (q3.2 26 (((a3 - 1)).toNatClampNeg))) (i2 := (a3).toNatClampNeg) rfl rfl q5 rfl rfl ?_
        refine am_Ex.seg 5 64 [.ref 13, .int a1, .int (a3 - 1), .int (a3 + (-1))] [] (am_up q3.2 26 ((a3).toNatClampNeg) (q3.2 26 (((a3 - 1)).toNatClampNeg))) (fun _ => rfl) ?_
        refine am_Ex.goto rfl ?_
        exact hk23 h
set_option maxRecDepth 20000 in
theorem e_fLedger_place (d : Nat) : ∀ {a1 : Int32} {μ : am_Mu} {out : am_Mu}, fLedger_place a1 μ = some out → am_Ex none (d + 3) 49 0 [.ref 13, .int a1, .null, .null] [] (am_SX tl) μ (none, (am_SX tl), out) := by
  intro a1 μ out h
  unfold fLedger_place at h
  refine am_Ex.seg 5 9 [.ref 13, .int a1, .null, .null] [.int 210, .int (μ 13 13)] μ (fun _ => rfl) ?_
  rcases am_ite h with ⟨q1, h⟩ | ⟨q1, h⟩
  · refine am_Ex.icmp_lt_t rfl q1 ?_
    refine am_Ex.seg 6 23 [.ref 13, .int a1, .int (μ 13 13), .int (μ 13 13)] [] μ (fun _ => rfl) ?_
    exact e_fLedger_place_23 d am_F h
  · refine am_Ex.icmp_lt_f rfl q1 ?_
    cases h
    exact am_Ex.vret rfl rfl
end
