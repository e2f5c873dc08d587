def fM_seed (a1 : Int32) (a2 : Int32) (μ : am_Mu) : Option (Int32 × am_Mu) := (if a1 < 0 then some (0, μ) else ((fM_lies a2 1 99 μ).bind fun q2 => (if ¬ q2.1 = 0 then some (1, (am_up (am_up q2.2 108 12 a1) 108 13 a2)) else some (0, q2.2))))
set_option maxRecDepth 20000 in
theorem e_fM_seed (d : Nat) : ∀ {a1 : Int32} {a2 : Int32} {μ : am_Mu} {out : Int32 × am_Mu}, fM_seed a1 a2 μ = some out → am_Ex none (d + 1) 224 0 [.ref 108, .int a1, .int a2] [] am_SH μ (some (.int out.1), am_SH, out.2) := by
  intro a1 a2 μ out h
  unfold fM_seed at h
  refine am_Ex.seg 1 1 [.ref 108, .int a1, .int a2] [.int a1] μ (fun _ => rfl) ?_
  rcases am_ite h with ⟨q1, h⟩ | ⟨q1, h⟩
  · refine am_Ex.if_lt_t rfl q1 ?_
    refine am_Ex.seg 1 15 [.ref 108, .int a1, .int a2] [.int 0] μ (fun _ => rfl) ?_
    cases h
    exact am_Ex.zret rfl rfl (by decide)
  · refine am_Ex.if_lt_f rfl q1 ?_
    refine am_Ex.seg 3 8 [.ref 108, .int a1, .int a2] [.int 99, .int 1, .int a2] μ (fun _ => rfl) ?_
    obtain ⟨q2, h_q2, h⟩ := am_bind h
    refine am_Ex.isk (na := 3) rfl (As := [.int a2, .int 1, .int 99]) rfl rfl rfl rfl rfl rfl (e_fM_lies (d + 0) h_q2) ?_
    refine am_Ex.same 11 [.ref 108, .int a1, .int a2] [.int q2.1] q2.2 rfl ?_
    rcases am_ite h with ⟨q3, h⟩ | ⟨q3, h⟩
    · refine am_Ex.if_ne_t rfl q3 ?_
      refine am_Ex.seg 7 27 [.ref 108, .int a1, .int a2] [.int 1] (am_up (am_up q2.2 108 12 a1) 108 13 a2) (fun _ => rfl) ?_
      cases h
      exact am_Ex.zret rfl rfl (by decide)
    · refine am_Ex.if_ne_f rfl (Decidable.not_not.mp q3) ?_
      refine am_Ex.seg 1 15 [.ref 108, .int a1, .int a2] [.int 0] q2.2 (fun _ => rfl) ?_
      cases h
      exact am_Ex.zret rfl rfl (by decide)
def fM_latest_7 : Nat → Int32 → Int32 → am_Mu → Option (Int32 × am_Mu)
  | 0, _, _, _ => none
  | n + 1, a1, a2, μ => (if a2 < 0 then some (a2, μ) else (bif am_inb a2 400 then (if (μ 169 ((a2).toNatClampNeg)) = a1 then some (a2, μ) else (fM_latest_7 n) a1 (a2 + (-1)) μ) else none))
def fM_latest (a1 : Int32) (μ : am_Mu) : Option (Int32 × am_Mu) := fM_latest_7 am_F a1 ((μ 108 11) - 1) μ
set_option maxRecDepth 20000 in
theorem e_fM_latest_7 (d : Nat) : ∀ n : Nat, ∀ {a1 : Int32} {a2 : Int32} {μ : am_Mu} {out : Int32 × am_Mu}, fM_latest_7 n a1 a2 μ = some out → am_Ex none (d + 0) 225 7 [.ref 108, .int a1, .int a2] [] am_SH μ (some (.int out.1), am_SH, out.2) := by
  intro n
  induction n with
  | zero => intros; contradiction
  | succ n ih =>
    have hk7 : ∀ {a1 : Int32} {a2 : Int32} {μ : am_Mu} {out : Int32 × am_Mu}, (fM_latest_7 n) a1 a2 μ = some out → am_Ex none (d + 0) 225 7 [.ref 108, .int a1, .int a2] [] am_SH μ (some (.int out.1), am_SH, out.2) := ih
    intro a1 a2 μ out h
    unfold fM_latest_7 at h
    refine am_Ex.seg 1 8 [.ref 108, .int a1, .int a2] [.int a2] μ (fun _ => rfl) ?_
    rcases am_ite h with ⟨q1, h⟩ | ⟨q1, h⟩
    · refine am_Ex.if_lt_t rfl q1 ?_
      refine am_Ex.seg 1 28 [.ref 108, .int a1, .int a2] [.int a2] μ (fun _ => rfl) ?_
      cases h
      exact am_Ex.iret rfl rfl
    · refine am_Ex.if_lt_f rfl q1 ?_
      refine am_Ex.seg 3 16 [.ref 108, .int a1, .int a2] [.int a2, .ref 169] μ (fun _ => rfl) ?_
      obtain ⟨q2, h⟩ := am_bif h
      refine am_Ex.iald (v := (μ 169 ((a2).toNatClampNeg))) rfl rfl q2 rfl ?_
      refine am_Ex.seg 1 18 [.ref 108, .int a1, .int a2] [.int a1, .int (μ 169 ((a2).toNatClampNeg))] μ (fun _ => rfl) ?_
      rcases am_ite h with ⟨q3, h⟩ | ⟨q3, h⟩
      · refine am_Ex.icmp_eq_t rfl q3 ?_
        refine am_Ex.seg 1 28 [.ref 108, .int a1, .int a2] [.int a2] μ (fun _ => rfl) ?_
        cases h
        exact am_Ex.iret rfl rfl
      · refine am_Ex.icmp_eq_f rfl q3 ?_
        refine am_Ex.seg 1 24 [.ref 108, .int a1, .int (a2 + (-1))] [] μ (fun _ => rfl) ?_
        refine am_Ex.goto rfl ?_
        exact hk7 h
set_option maxRecDepth 20000 in
theorem e_fM_latest (d : Nat) : ∀ {a1 : Int32} {μ : am_Mu} {out : Int32 × am_Mu}, fM_latest a1 μ = some out → am_Ex none (d + 0) 225 0 [.ref 108, .int a1, .null] [] am_SH μ (some (.int out.1), am_SH, out.2) := by
  intro a1 μ out h
  unfold fM_latest at h
  refine am_Ex.seg 5 7 [.ref 108, .int a1, .int ((μ 108 11) - 1)] [] μ (fun _ => rfl) ?_
  exact e_fM_latest_7 d am_F h
def fM_isOverdue_29 (s0 : Int32) (s1 : Int32) (μ : am_Mu) : Option (Int32 × am_Mu) := (if (s0 - s1) ≤ (μ 108 13) then some (0, μ) else some (1, μ))
def fM_isOverdue (a1 : Int32) (μ : am_Mu) : Option (Int32 × am_Mu) := ((fM_latest a1 μ).bind fun q1 => (if ¬ q1.1 = (-1) then (bif am_inb q1.1 400 then fM_isOverdue_29 ((q1.2 108 2) / 1440) (q1.2 171 ((q1.1).toNatClampNeg)) q1.2 else none) else fM_isOverdue_29 ((q1.2 108 2) / 1440) 0 q1.2))
set_option maxRecDepth 20000 in
theorem e_fM_isOverdue_29 (d : Nat) : ∀ {s0 : Int32} {s1 : Int32} {w1 w2 : Value} {μ : am_Mu} {out : Int32 × am_Mu}, fM_isOverdue_29 s0 s1 μ = some out → am_Ex none (d + 1) 226 29 [.ref 108, w1, w2] [.int s1, .int s0] am_SH μ (some (.int out.1), am_SH, out.2) := by
  intro s0 s1 w1 w2 μ out h
  unfold fM_isOverdue_29 at h
  refine am_Ex.seg 3 34 [.ref 108, w1, w2] [.int (μ 108 13), .int (s0 - s1)] μ (fun _ => rfl) ?_
  rcases am_ite h with ⟨q1, h⟩ | ⟨q1, h⟩
  · refine am_Ex.icmp_le_t rfl q1 ?_
    refine am_Ex.seg 1 42 [.ref 108, w1, w2] [.int 0] μ (fun _ => rfl) ?_
    cases h
    exact am_Ex.zret rfl rfl (by decide)
  · refine am_Ex.icmp_le_f rfl q1 ?_
    refine am_Ex.seg 1 38 [.ref 108, w1, w2] [.int 1] μ (fun _ => rfl) ?_
    refine am_Ex.goto rfl ?_
    cases h
    exact am_Ex.zret rfl rfl (by decide)
set_option maxRecDepth 20000 in
theorem e_fM_isOverdue (d : Nat) : ∀ {a1 : Int32} {μ : am_Mu} {out : Int32 × am_Mu}, fM_isOverdue a1 μ = some out → am_Ex none (d + 1) 226 0 [.ref 108, .int a1, .null] [] am_SH μ (some (.int out.1), am_SH, out.2) := by
  intro a1 μ out h
  unfold fM_isOverdue at h
  refine am_Ex.seg 2 2 [.ref 108, .int a1, .null] [.int a1, .ref 108] μ (fun _ => rfl) ?_
  obtain ⟨q1, h_q1, h⟩ := am_bind h
  refine am_Ex.ivk (na := 2) (b := 108) (As' := [.int a1]) rfl rfl rfl rfl rfl rfl rfl rfl rfl (e_fM_latest (d + 0) h_q1) ?_
  refine am_Ex.same 5 [.ref 108, .int a1, .null] [.int q1.1] q1.2 rfl ?_
  refine am_Ex.seg 4 13 [.ref 108, .int a1, .int q1.1] [.int 1440, .int (q1.2 108 2)] q1.2 (fun _ => rfl) ?_
  refine am_Ex.idiv rfl (by decide) ?_
  refine am_Ex.seg 2 16 [.ref 108, .int a1, .int q1.1] [.int (-1), .int q1.1, .int ((q1.2 108 2) / 1440)] q1.2 (fun _ => rfl) ?_
  rcases am_ite h with ⟨q2, h⟩ | ⟨q2, h⟩
  · refine am_Ex.icmp_ne_t rfl q2 ?_
    refine am_Ex.seg 3 28 [.ref 108, .int a1, .int q1.1] [.int q1.1, .ref 171, .int ((q1.2 108 2) / 1440)] q1.2 (fun _ => rfl) ?_
    obtain ⟨q3, h⟩ := am_bif h
    refine am_Ex.iald (v := (q1.2 171 ((q1.1).toNatClampNeg))) rfl rfl q3 rfl ?_
    exact e_fM_isOverdue_29 d h
  · refine am_Ex.icmp_ne_f rfl (Decidable.not_not.mp q2) ?_
    refine am_Ex.seg 1 20 [.ref 108, .int a1, .int q1.1] [.int 0, .int ((q1.2 108 2) / 1440)] q1.2 (fun _ => rfl) ?_
    refine am_Ex.goto rfl ?_
    exact e_fM_isOverdue_29 d h
def fM_lists_137 (k7 : Int32 → Int32 → am_Mu → Option (am_Mu)) (a1 : Int32) (a2 : Int32) (μ : am_Mu) : Option (am_Mu) := k7 a1 (a2 + 1) μ
def fM_lists_131 (k7 : Int32 → Int32 → am_Mu → Option (am_Mu)) (k61 : Int32 → Int32 → Int32 → Int32 → am_Mu → Option (am_Mu)) (a1 : Int32) (a2 : Int32) (a3 : Int32) (a4 : Int32) (μ : am_Mu) : Option (am_Mu) := k61 a1 a2 a3 (a4 + 1) μ
def fM_lists_105 (k7 : Int32 → Int32 → am_Mu → Option (am_Mu)) (k61 : Int32 → Int32 → Int32 → Int32 → am_Mu → Option (am_Mu)) (a1 : Int32) (a2 : Int32) (a3 : Int32) (a4 : Int32) (μ : am_Mu) : Option (am_Mu) := (bif am_inb (μ 108 86) 48 then fM_lists_131 k7 k61 a1 a2 a3 a4 (am_up (am_up μ 172 (((μ 108 86)).toNatClampNeg) (((10 : Int32) * a2) + a4)) 108 86 ((μ 108 86) + 1)) else none)
def fM_lists_61 : Nat → (Int32 → Int32 → am_Mu → Option (am_Mu)) → Int32 → Int32 → Int32 → Int32 → am_Mu → Option (am_Mu)
  | 0, _, _, _, _, _, _ => none
  | n + 1, k7, a1, a2, a3, a4, μ => (if (μ 108 10) ≤ a4 then fM_lists_137 k7 a1 a2 μ else (bif am_inb a4 6 then (bif am_inb a2 8 then (if ¬ (μ 167 ((a4).toNatClampNeg)) = (μ 152 ((a2).toNatClampNeg)) then fM_lists_131 k7 (fM_lists_61 n k7) a1 a2 a3 a4 μ else (if a3 = (-1) then fM_lists_105 k7 (fM_lists_61 n k7) a1 a2 a3 a4 μ else (bif am_inb a3 400 then (if ¬ (μ 170 ((a3).toNatClampNeg)) = a4 then fM_lists_105 k7 (fM_lists_61 n k7) a1 a2 a3 a4 μ else fM_lists_131 k7 (fM_lists_61 n k7) a1 a2 a3 a4 μ) else none))) else none) else none))
def fM_lists_58 (k7 : Int32 → Int32 → am_Mu → Option (am_Mu)) (a1 : Int32) (a2 : Int32) (a3 : Int32) (μ : am_Mu) : Option (am_Mu) := fM_lists_61 am_F k7 a1 a2 a3 0 μ
def fM_lists_43 (k7 : Int32 → Int32 → am_Mu → Option (am_Mu)) (a1 : Int32) (a2 : Int32) (a3 : Int32) (μ : am_Mu) : Option (am_Mu) := (if a1 = 0 then fM_lists_58 k7 a1 a2 a3 μ else ((fM_isOverdue a2 μ).bind fun q2 => (if ¬ q2.1 = 0 then fM_lists_58 k7 a1 a2 a3 q2.2 else fM_lists_137 k7 a1 a2 q2.2)))
def fM_lists_7 : Nat → Int32 → Int32 → am_Mu → Option (am_Mu)
  | 0, _, _, _ => none
  | n + 1, a1, a2, μ => (if (μ 108 7) ≤ a2 then some μ else ((fM_latest a2 μ).bind fun q2 => (if q2.1 = (-1) then fM_lists_43 (fM_lists_7 n) a1 a2 q2.1 q2.2 else (bif am_inb q2.1 400 then (if (q2.2 171 ((q2.1).toNatClampNeg)) = ((q2.2 108 2) / 1440) then fM_lists_137 (fM_lists_7 n) a1 a2 q2.2 else fM_lists_43 (fM_lists_7 n) a1 a2 q2.1 q2.2) else none))))
def fM_lists (a1 : Int32) (μ : am_Mu) : Option (am_Mu) := fM_lists_7 am_F a1 0 (am_up μ 108 86 0)
set_option maxRecDepth 20000 in
theorem e_fM_lists_137 (d : Nat) {k7 : Int32 → Int32 → am_Mu → Option (am_Mu)} (hk7 : ∀ {a1 : Int32} {a2 : Int32} {w3 w4 : Value} {μ : am_Mu} {out : am_Mu}, k7 a1 a2 μ = some out → am_Ex none (d + 2) 227 7 [.ref 108, .int a1, .int a2, w3, w4] [] am_SH μ (none, am_SH, out)) : ∀ {a1 : Int32} {a2 : Int32} {w3 w4 : Value} {μ : am_Mu} {out : am_Mu}, fM_lists_137 k7 a1 a2 μ = some out → am_Ex none (d + 2) 227 137 [.ref 108, .int a1, .int a2, w3, w4] [] am_SH μ (none, am_SH, out) := by
  intro a1 a2 w3 w4 μ out h
  unfold fM_lists_137 at h
  refine am_Ex.seg 1 140 [.ref 108, .int a1, .int (a2 + 1), w3, w4] [] μ (fun _ => rfl) ?_
  refine am_Ex.goto rfl ?_
  exact hk7 h
set_option maxRecDepth 20000 in
theorem e_fM_lists_131 (d : Nat) {k7 : Int32 → Int32 → am_Mu → Option (am_Mu)} {k61 : Int32 → Int32 → Int32 → Int32 → am_Mu → Option (am_Mu)} (hk7 : ∀ {a1 : Int32} {a2 : Int32} {w3 w4 : Value} {μ : am_Mu} {out : am_Mu}, k7 a1 a2 μ = some out → am_Ex none (d + 2) 227 7 [.ref 108, .int a1, .int a2, w3, w4] [] am_SH μ (none, am_SH, out)) (hk61 : ∀ {a1 : Int32} {a2 : Int32} {a3 : Int32} {a4 : Int32} {μ : am_Mu} {out : am_Mu}, k61 a1 a2 a3 a4 μ = some out → am_Ex none (d + 2) 227 61 [.ref 108, .int a1, .int a2, .int a3, .int a4] [] am_SH μ (none, am_SH, out)) : ∀ {a1 : Int32} {a2 : Int32} {a3 : Int32} {a4 : Int32} {μ : am_Mu} {out : am_Mu}, fM_lists_131 k7 k61 a1 a2 a3 a4 μ = some out → am_Ex none (d + 2) 227 131 [.ref 108, .int a1, .int a2, .int a3, .int a4] [] am_SH μ (none, am_SH, out) := by
  intro a1 a2 a3 a4 μ out h
  unfold fM_lists_131 at h
  refine am_Ex.seg 1 134 [.ref 108, .int a1, .int a2, .int a3, .int (a4 + 1)] [] μ (fun _ => rfl) ?_
  refine am_Ex.goto rfl ?_
  exact hk61 h
set_option maxRecDepth 20000 in
theorem e_fM_lists_105 (d : Nat) {k7 : Int32 → Int32 → am_Mu → Option (am_Mu)} {k61 : Int32 → Int32 → Int32 → Int32 → am_Mu → Option (am_Mu)} (hk7 : ∀ {a1 : Int32} {a2 : Int32} {w3 w4 : Value} {μ : am_Mu} {out : am_Mu}, k7 a1 a2 μ = some out → am_Ex none (d + 2) 227 7 [.ref 108, .int a1, .int a2, w3, w4] [] am_SH μ (none, am_SH, out)) (hk61 : ∀ {a1 : Int32} {a2 : Int32} {a3 : Int32} {a4 : Int32} {μ : am_Mu} {out : am_Mu}, k61 a1 a2 a3 a4 μ = some out → am_Ex none (d + 2) 227 61 [.ref 108, .int a1, .int a2, .int a3, .int a4] [] am_SH μ (none, am_SH, out)) : ∀ {a1 : Int32} {a2 : Int32} {a3 : Int32} {a4 : Int32} {μ : am_Mu} {out : am_Mu}, fM_lists_105 k7 k61 a1 a2 a3 a4 μ = some out → am_Ex none (d + 2) 227 105 [.ref 108, .int a1, .int a2, .int a3, .int a4] [] am_SH μ (none, am_SH, out) := by
  intro a1 a2 a3 a4 μ out h
  unfold fM_lists_105 at h
  refine am_Ex.seg 9 120 [.ref 108, .int a1, .int a2, .int a3, .int a4] [.int (((10 : Int32) * a2) + a4), .int (μ 108 86), .ref 172] μ (fun _ => rfl) ?_
  obtain ⟨q1, h⟩ := am_bif h
  refine am_Ex.iast (v2 := (((10 : Int32) * a2) + a4)) (i2 := ((μ 108 86)).toNatClampNeg) rfl rfl q1 rfl rfl ?_
  refine am_Ex.seg 6 131 [.ref 108, .int a1, .int a2, .int a3, .int a4] [] (am_up (am_up μ 172 (((μ 108 86)).toNatClampNeg) (((10 : Int32) * a2) + a4)) 108 86 ((μ 108 86) + 1)) (fun _ => rfl) ?_
  exact e_fM_lists_131 d hk7 hk61 h
set_option maxRecDepth 20000 in
theorem e_fM_lists_61 (d : Nat) {k7 : Int32 → Int32 → am_Mu → Option (am_Mu)} (hk7 : ∀ {a1 : Int32} {a2 : Int32} {w3 w4 : Value} {μ : am_Mu} {out : am_Mu}, k7 a1 a2 μ = some out → am_Ex none (d + 2) 227 7 [.ref 108, .int a1, .int a2, w3, w4] [] am_SH μ (none, am_SH, out)) : ∀ n : Nat, ∀ {a1 : Int32} {a2 : Int32} {a3 : Int32} {a4 : Int32} {μ : am_Mu} {out : am_Mu}, fM_lists_61 n k7 a1 a2 a3 a4 μ = some out → am_Ex none (d + 2) 227 61 [.ref 108, .int a1, .int a2, .int a3, .int a4] [] am_SH μ (none, am_SH, out) := by
  intro n
  induction n with
  | zero => intros; contradiction
  | succ n ih =>
    have hk61 : ∀ {a1 : Int32} {a2 : Int32} {a3 : Int32} {a4 : Int32} {μ : am_Mu} {out : am_Mu}, (fM_lists_61 n k7) a1 a2 a3 a4 μ = some out → am_Ex none (d + 2) 227 61 [.ref 108, .int a1, .int a2, .int a3, .int a4] [] am_SH μ (none, am_SH, out) := ih
    intro a1 a2 a3 a4 μ out h
    unfold fM_lists_61 at h
    refine am_Ex.seg 3 67 [.ref 108, .int a1, .int a2, .int a3, .int a4] [.int (μ 108 10), .int a4] μ (fun _ => rfl) ?_
    rcases am_ite h with ⟨q1, h⟩ | ⟨q1, h⟩
    · refine am_Ex.icmp_ge_t rfl q1 ?_
      exact e_fM_lists_137 d hk7 h
    · refine am_Ex.icmp_ge_f rfl q1 ?_
      refine am_Ex.seg 3 76 [.ref 108, .int a1, .int a2, .int a3, .int a4] [.int a4, .ref 167] μ (fun _ => rfl) ?_
      obtain ⟨q2, h⟩ := am_bif h
      refine am_Ex.iald (v := (μ 167 ((a4).toNatClampNeg))) rfl rfl q2 rfl ?_
      refine am_Ex.seg 3 82 [.ref 108, .int a1, .int a2, .int a3, .int a4] [.int a2, .ref 152, .int (μ 167 ((a4).toNatClampNeg))] μ (fun _ => rfl) ?_
      obtain ⟨q3, h⟩ := am_bif h
      refine am_Ex.iald (v := (μ 152 ((a2).toNatClampNeg))) rfl rfl q3 rfl ?_
      rcases am_ite h with ⟨q4, h⟩ | ⟨q4, h⟩
      · refine am_Ex.icmp_ne_t rfl q4 ?_
        exact e_fM_lists_131 d hk7 hk61 h
      · refine am_Ex.icmp_ne_f rfl (Decidable.not_not.mp q4) ?_
        refine am_Ex.seg 2 88 [.ref 108, .int a1, .int a2, .int a3, .int a4] [.int (-1), .int a3] μ (fun _ => rfl) ?_
        rcases am_ite h with ⟨q5, h⟩ | ⟨q5, h⟩
        · refine am_Ex.icmp_eq_t rfl q5 ?_
          exact e_fM_lists_105 d hk7 hk61 h
        · refine am_Ex.icmp_eq_f rfl q5 ?_
          refine am_Ex.seg 3 96 [.ref 108, .int a1, .int a2, .int a3, .int a4] [.int a3, .ref 170] μ (fun _ => rfl) ?_
          obtain ⟨q6, h⟩ := am_bif h
          refine am_Ex.iald (v := (μ 170 ((a3).toNatClampNeg))) rfl rfl q6 rfl ?_
          refine am_Ex.seg 1 99 [.ref 108, .int a1, .int a2, .int a3, .int a4] [.int a4, .int (μ 170 ((a3).toNatClampNeg))] μ (fun _ => rfl) ?_
          rcases am_ite h with ⟨q7, h⟩ | ⟨q7, h⟩
          · refine am_Ex.icmp_ne_t rfl q7 ?_
            exact e_fM_lists_105 d hk7 hk61 h
          · refine am_Ex.icmp_ne_f rfl (Decidable.not_not.mp q7) ?_
            refine am_Ex.goto rfl ?_
            exact e_fM_lists_131 d hk7 hk61 h
set_option maxRecDepth 20000 in
theorem e_fM_lists_58 (d : Nat) {k7 : Int32 → Int32 → am_Mu → Option (am_Mu)} (hk7 : ∀ {a1 : Int32} {a2 : Int32} {w3 w4 : Value} {μ : am_Mu} {out : am_Mu}, k7 a1 a2 μ = some out → am_Ex none (d + 2) 227 7 [.ref 108, .int a1, .int a2, w3, w4] [] am_SH μ (none, am_SH, out)) : ∀ {a1 : Int32} {a2 : Int32} {a3 : Int32} {w4 : Value} {μ : am_Mu} {out : am_Mu}, fM_lists_58 k7 a1 a2 a3 μ = some out → am_Ex none (d + 2) 227 58 [.ref 108, .int a1, .int a2, .int a3, w4] [] am_SH μ (none, am_SH, out) := by
  intro a1 a2 a3 w4 μ out h
  unfold fM_lists_58 at h
  refine am_Ex.seg 2 61 [.ref 108, .int a1, .int a2, .int a3, .int 0] [] μ (fun _ => rfl) ?_
  exact e_fM_lists_61 d hk7 am_F h
set_option maxRecDepth 20000 in
theorem e_fM_lists_43 (d : Nat) {k7 : Int32 → Int32 → am_Mu → Option (am_Mu)} (hk7 : ∀ {a1 : Int32} {a2 : Int32} {w3 w4 : Value} {μ : am_Mu} {out : am_Mu}, k7 a1 a2 μ = some out → am_Ex none (d + 2) 227 7 [.ref 108, .int a1, .int a2, w3, w4] [] am_SH μ (none, am_SH, out)) : ∀ {a1 : Int32} {a2 : Int32} {a3 : Int32} {w4 : Value} {μ : am_Mu} {out : am_Mu}, fM_lists_43 k7 a1 a2 a3 μ = some out → am_Ex none (d + 2) 227 43 [.ref 108, .int a1, .int a2, .int a3, w4] [] am_SH μ (none, am_SH, out) := by
  intro a1 a2 a3 w4 μ out h
  unfold fM_lists_43 at h
  refine am_Ex.seg 1 44 [.ref 108, .int a1, .int a2, .int a3, w4] [.int a1] μ (fun _ => rfl) ?_
  rcases am_ite h with ⟨q1, h⟩ | ⟨q1, h⟩
  · refine am_Ex.if_eq_t rfl q1 ?_
    exact e_fM_lists_58 d hk7 h
  · refine am_Ex.if_eq_f rfl q1 ?_
    refine am_Ex.seg 2 49 [.ref 108, .int a1, .int a2, .int a3, w4] [.int a2, .ref 108] μ (fun _ => rfl) ?_
    obtain ⟨q2, h_q2, h⟩ := am_bind h
    refine am_Ex.ivk (na := 2) (b := 108) (As' := [.int a2]) rfl rfl rfl rfl rfl rfl rfl rfl rfl (e_fM_isOverdue (d + 0) h_q2) ?_
    refine am_Ex.same 52 [.ref 108, .int a1, .int a2, .int a3, w4] [.int q2.1] q2.2 rfl ?_
    rcases am_ite h with ⟨q3, h⟩ | ⟨q3, h⟩
    · refine am_Ex.if_ne_t rfl q3 ?_
      exact e_fM_lists_58 d hk7 h
    · refine am_Ex.if_ne_f rfl (Decidable.not_not.mp q3) ?_
      refine am_Ex.goto rfl ?_
      exact e_fM_lists_137 d hk7 h
set_option maxRecDepth 20000 in
theorem e_fM_lists_7 (d : Nat) : ∀ n : Nat, ∀ {a1 : Int32} {a2 : Int32} {w3 w4 : Value} {μ : am_Mu} {out : am_Mu}, fM_lists_7 n a1 a2 μ = some out → am_Ex none (d + 2) 227 7 [.ref 108, .int a1, .int a2, w3, w4] [] am_SH μ (none, am_SH, out) := by
  intro n
  induction n with
  | zero => intros; contradiction
  | succ n ih =>
    have hk7 : ∀ {a1 : Int32} {a2 : Int32} {w3 w4 : Value} {μ : am_Mu} {out : am_Mu}, (fM_lists_7 n) a1 a2 μ = some out → am_Ex none (d + 2) 227 7 [.ref 108, .int a1, .int a2, w3, w4] [] am_SH μ (none, am_SH, out) := ih
    intro a1 a2 w3 w4 μ out h
    unfold fM_lists_7 at h
    refine am_Ex.seg 3 12 [.ref 108, .int a1, .int a2, w3, w4] [.int (μ 108 7), .int a2] μ (fun _ => rfl) ?_
    rcases am_ite h with ⟨q1, h⟩ | ⟨q1, h⟩
    · refine am_Ex.icmp_ge_t rfl q1 ?_
      cases h
      exact am_Ex.vret rfl rfl
    · refine am_Ex.icmp_ge_f rfl q1 ?_
      refine am_Ex.seg 2 17 [.ref 108, .int a1, .int a2, w3, w4] [.int a2, .ref 108] μ (fun _ => rfl) ?_
      obtain ⟨q2, h_q2, h⟩ := am_bind h
      refine am_Ex.ivk (na := 2) (b := 108) (As' := [.int a2]) rfl rfl rfl rfl rfl rfl rfl rfl rfl (e_fM_latest (d + 1) h_q2) ?_
      refine am_Ex.same 20 [.ref 108, .int a1, .int a2, w3, w4] [.int q2.1] q2.2 rfl ?_
      refine am_Ex.seg 3 23 [.ref 108, .int a1, .int a2, .int q2.1, w4] [.int (-1), .int q2.1] q2.2 (fun _ => rfl) ?_
      rcases am_ite h with ⟨q3, h⟩ | ⟨q3, h⟩
      · refine am_Ex.icmp_eq_t rfl q3 ?_
        exact e_fM_lists_43 d hk7 h
      · refine am_Ex.icmp_eq_f rfl q3 ?_
        refine am_Ex.seg 3 31 [.ref 108, .int a1, .int a2, .int q2.1, w4] [.int q2.1, .ref 171] q2.2 (fun _ => rfl) ?_
        obtain ⟨q4, h⟩ := am_bif h
        refine am_Ex.iald (v := (q2.2 171 ((q2.1).toNatClampNeg))) rfl rfl q4 rfl ?_
        refine am_Ex.seg 3 39 [.ref 108, .int a1, .int a2, .int q2.1, w4] [.int 1440, .int (q2.2 108 2), .int (q2.2 171 ((q2.1).toNatClampNeg))] q2.2 (fun _ => rfl) ?_
        refine am_Ex.idiv rfl (by decide) ?_
        rcases am_ite h with ⟨q5, h⟩ | ⟨q5, h⟩
        · refine am_Ex.icmp_eq_t rfl q5 ?_
          exact e_fM_lists_137 d hk7 h
        · refine am_Ex.icmp_eq_f rfl q5 ?_
          exact e_fM_lists_43 d hk7 h
set_option maxRecDepth 20000 in
theorem e_fM_lists (d : Nat) : ∀ {a1 : Int32} {μ : am_Mu} {out : am_Mu}, fM_lists a1 μ = some out → am_Ex none (d + 2) 227 0 [.ref 108, .int a1, .null, .null, .null] [] am_SH μ (none, am_SH, out) := by
  intro a1 μ out h
  unfold fM_lists at h
  refine am_Ex.seg 5 7 [.ref 108, .int a1, .int 0, .null, .null] [] (am_up μ 108 86 0) (fun _ => rfl) ?_
  exact e_fM_lists_7 d am_F h
def fM_rows (μ : am_Mu) : Option (am_Mu) := ((fM_lists 1 μ).bind fun q1 => (if ¬ (q1 108 86) = 0 then some q1 else ((fM_lists 0 q1).bind fun q3 => some q3)))
set_option maxRecDepth 20000 in
theorem e_fM_rows (d : Nat) : ∀ {μ : am_Mu} {out : am_Mu}, fM_rows μ = some out → am_Ex none (d + 3) 228 0 [.ref 108] [] am_SH μ (none, am_SH, out) := by
  intro μ out h
  unfold fM_rows at h
  refine am_Ex.seg 2 2 [.ref 108] [.int 1, .ref 108] μ (fun _ => rfl) ?_
  obtain ⟨q1, h_q1, h⟩ := am_bind h
  refine am_Ex.ivk (na := 2) (b := 108) (As' := [.int 1]) rfl rfl rfl rfl rfl rfl rfl rfl rfl (e_fM_lists (d + 0) h_q1) ?_
  refine am_Ex.same 5 [.ref 108] [] q1 rfl ?_
  refine am_Ex.seg 2 9 [.ref 108] [.int (q1 108 86)] q1 (fun _ => rfl) ?_
  rcases am_ite h with ⟨q2, h⟩ | ⟨q2, h⟩
  · refine am_Ex.if_ne_t rfl q2 ?_
    cases h
    exact am_Ex.vret rfl rfl
  · refine am_Ex.if_ne_f rfl (Decidable.not_not.mp q2) ?_
    refine am_Ex.seg 2 14 [.ref 108] [.int 0, .ref 108] q1 (fun _ => rfl) ?_
    obtain ⟨q3, h_q3, h⟩ := am_bind h
    refine am_Ex.ivk (na := 2) (b := 108) (As' := [.int 0]) rfl rfl rfl rfl rfl rfl rfl rfl rfl (e_fM_lists (d + 0) h_q3) ?_
    refine am_Ex.same 17 [.ref 108] [] q3 rfl ?_
    cases h
    exact am_Ex.vret rfl rfl
def fM_row (μ : am_Mu) : Option (Int32 × am_Mu) := ((fM_rows μ).bind fun q1 => some ((q1 108 86), q1))
set_option maxRecDepth 20000 in
theorem e_fM_row (d : Nat) : ∀ {μ : am_Mu} {out : Int32 × am_Mu}, fM_row μ = some out → am_Ex none (d + 4) 229 0 [.ref 108] [] am_SH μ (some (.int out.1), am_SH, out.2) := by
  intro μ out h
  unfold fM_row at h
  refine am_Ex.seg 1 1 [.ref 108] [.ref 108] μ (fun _ => rfl) ?_
  obtain ⟨q1, h_q1, h⟩ := am_bind h
  refine am_Ex.ivk (na := 1) (b := 108) (As' := []) rfl rfl rfl rfl rfl rfl rfl rfl rfl (e_fM_rows (d + 0) h_q1) ?_
  refine am_Ex.same 4 [.ref 108] [] q1 rfl ?_
  refine am_Ex.seg 2 8 [.ref 108] [.int (q1 108 86)] q1 (fun _ => rfl) ?_
  cases h
  exact am_Ex.iret rfl rfl
def fM_draw (μ : am_Mu) : Option (Int32 × am_Mu) := (if ¬ (μ 108 11) = 400 then ((fM_rows μ).bind fun q2 => (if ¬ (q2 108 86) = 0 then (if (q2 108 86) = 0 then none else (bif am_inb ((((((((((q2 108 12)).toInt64) * 1103515245) + 12345) - ((((((q2 108 12)).toInt64) * 1103515245) + 12345) / 2147483648) * 2147483648)).toInt32) / 65536) - ((((((((((q2 108 12)).toInt64) * 1103515245) + 12345) - ((((((q2 108 12)).toInt64) * 1103515245) + 12345) / 2147483648) * 2147483648)).toInt32) / 65536) / (q2 108 86)) * (q2 108 86)) 48 then (bif am_inb (q2 108 11) 400 then some ((q2 172 ((((((((((((q2 108 12)).toInt64) * 1103515245) + 12345) - ((((((q2 108 12)).toInt64) * 1103515245) + 12345) / 2147483648) * 2147483648)).toInt32) / 65536) - ((((((((((q2 108 12)).toInt64) * 1103515245) + 12345) - ((((((q2 108 12)).toInt64) * 1103515245) + 12345) / 2147483648) * 2147483648)).toInt32) / 65536) / (q2 108 86)) * (q2 108 86))).toNatClampNeg)), (am_up (am_up (am_up (am_up (am_up q2 108 12 ((((((((q2 108 12)).toInt64) * 1103515245) + 12345) - ((((((q2 108 12)).toInt64) * 1103515245) + 12345) / 2147483648) * 2147483648)).toInt32)) 169 (((q2 108 11)).toNatClampNeg) ((q2 172 ((((((((((((q2 108 12)).toInt64) * 1103515245) + 12345) - ((((((q2 108 12)).toInt64) * 1103515245) + 12345) / 2147483648) * 2147483648)).toInt32) / 65536) - ((((((((((q2 108 12)).toInt64) * 1103515245) + 12345) - ((((((q2 108 12)).toInt64) * 1103515245) + 12345) / 2147483648) * 2147483648)).toInt32) / 65536) / (q2 108 86)) * (q2 108 86))).toNatClampNeg)) / 10)) 170 (((q2 108 11)).toNatClampNeg) ((q2 172 ((((((((((((q2 108 12)).toInt64) * 1103515245) + 12345) - ((((((q2 108 12)).toInt64) * 1103515245) + 12345) / 2147483648) * 2147483648)).toInt32) / 65536) - ((((((((((q2 108 12)).toInt64) * 1103515245) + 12345) - ((((((q2 108 12)).toInt64) * 1103515245) + 12345) / 2147483648) * 2147483648)).toInt32) / 65536) / (q2 108 86)) * (q2 108 86))).toNatClampNeg)) - ((q2 172 ((((((((((((q2 108 12)).toInt64) * 1103515245) + 12345) - ((((((q2 108 12)).toInt64) * 1103515245) + 12345) / 2147483648) * 2147483648)).toInt32) / 65536) - ((((((((((q2 108 12)).toInt64) * 1103515245) + 12345) - ((((((q2 108 12)).toInt64) * 1103515245) + 12345) / 2147483648) * 2147483648)).toInt32) / 65536) / (q2 108 86)) * (q2 108 86))).toNatClampNeg)) / 10) * 10)) 171 (((q2 108 11)).toNatClampNeg) ((q2 108 2) / 1440)) 108 11 ((q2 108 11) + 1))) else none) else none)) else some ((-1), q2))) else some ((-1), μ))
set_option maxRecDepth 20000 in
theorem e_fM_draw (d : Nat) : ∀ {μ : am_Mu} {out : Int32 × am_Mu}, fM_draw μ = some out → am_Ex none (d + 4) 230 0 [.ref 108, .null] [] am_SH μ (some (.int out.1), am_SH, out.2) := by
  intro μ out h
  unfold fM_draw at h
  refine am_Ex.seg 3 7 [.ref 108, .null] [.int 400, .int (μ 108 11)] μ (fun _ => rfl) ?_
  rcases am_ite h with ⟨q1, h⟩ | ⟨q1, h⟩
  · refine am_Ex.icmp_ne_t rfl q1 ?_
    refine am_Ex.seg 1 13 [.ref 108, .null] [.ref 108] μ (fun _ => rfl) ?_
    obtain ⟨q2, h_q2, h⟩ := am_bind h
    refine am_Ex.ivk (na := 1) (b := 108) (As' := []) rfl rfl rfl rfl rfl rfl rfl rfl rfl (e_fM_rows (d + 0) h_q2) ?_
    refine am_Ex.same 16 [.ref 108, .null] [] q2 rfl ?_
    refine am_Ex.seg 2 20 [.ref 108, .null] [.int (q2 108 86)] q2 (fun _ => rfl) ?_
    rcases am_ite h with ⟨q3, h⟩ | ⟨q3, h⟩
    · refine am_Ex.if_ne_t rfl q3 ?_
      refine am_Ex.seg 9 42 [.ref 108, .null] [.long 2147483648, .long (((((q2 108 12)).toInt64) * 1103515245) + 12345), .ref 108] q2 (fun _ => rfl) ?_
      refine am_Ex.lrem rfl (by decide) ?_
      refine am_Ex.seg 7 58 [.ref 108, .null] [.int 65536, .int ((((((((q2 108 12)).toInt64) * 1103515245) + 12345) - ((((((q2 108 12)).toInt64) * 1103515245) + 12345) / 2147483648) * 2147483648)).toInt32), .ref 172] (am_up q2 108 12 ((((((((q2 108 12)).toInt64) * 1103515245) + 12345) - ((((((q2 108 12)).toInt64) * 1103515245) + 12345) / 2147483648) * 2147483648)).toInt32)) (fun _ => rfl) ?_
      refine am_Ex.idiv rfl (by decide) ?_
      refine am_Ex.seg 2 63 [.ref 108, .null] [.int (q2 108 86), .int (((((((((q2 108 12)).toInt64) * 1103515245) + 12345) - ((((((q2 108 12)).toInt64) * 1103515245) + 12345) / 2147483648) * 2147483648)).toInt32) / 65536), .ref 172] (am_up q2 108 12 ((((((((q2 108 12)).toInt64) * 1103515245) + 12345) - ((((((q2 108 12)).toInt64) * 1103515245) + 12345) / 2147483648) * 2147483648)).toInt32)) (fun _ => rfl) ?_
      obtain ⟨q4, h⟩ := am_ifn h
      refine am_Ex.irem rfl q4 ?_
      obtain ⟨q5, h⟩ := am_bif h
      refine am_Ex.iald (v := (q2 172 ((((((((((((q2 108 12)).toInt64) * 1103515245) + 12345) - ((((((q2 108 12)).toInt64) * 1103515245) + 12345) / 2147483648) * 2147483648)).toInt32) / 65536) - ((((((((((q2 108 12)).toInt64) * 1103515245) + 12345) - ((((((q2 108 12)).toInt64) * 1103515245) + 12345) / 2147483648) * 2147483648)).toInt32) / 65536) / (q2 108 86)) * (q2 108 86))).toNatClampNeg))) rfl rfl q5 ((am_up_k (by decide)).trans rfl) ?_
      refine am_Ex.seg 7 77 [.ref 108, .int (q2 172 ((((((((((((q2 108 12)).toInt64) * 1103515245) + 12345) - ((((((q2 108 12)).toInt64) * 1103515245) + 12345) / 2147483648) * 2147483648)).toInt32) / 65536) - ((((((((((q2 108 12)).toInt64) * 1103515245) + 12345) - ((((((q2 108 12)).toInt64) * 1103515245) + 12345) / 2147483648) * 2147483648)).toInt32) / 65536) / (q2 108 86)) * (q2 108 86))).toNatClampNeg))] [.int 10, .int (q2 172 ((((((((((((q2 108 12)).toInt64) * 1103515245) + 12345) - ((((((q2 108 12)).toInt64) * 1103515245) + 12345) / 2147483648) * 2147483648)).toInt32) / 65536) - ((((((((((q2 108 12)).toInt64) * 1103515245) + 12345) - ((((((q2 108 12)).toInt64) * 1103515245) + 12345) / 2147483648) * 2147483648)).toInt32) / 65536) / (q2 108 86)) * (q2 108 86))).toNatClampNeg)), .int (q2 108 11), .ref 169] (am_up q2 108 12 ((((((((q2 108 12)).toInt64) * 1103515245) + 12345) - ((((((q2 108 12)).toInt64) * 1103515245) + 12345) / 2147483648) * 2147483648)).toInt32)) (fun _ => rfl) ?_
      refine am_Ex.idiv rfl (by decide) ?_
      obtain ⟨q6, h⟩ := am_bif h
      refine am_Ex.iast (v2 := ((q2 172 ((((((((((((q2 108 12)).toInt64) * 1103515245) + 12345) - ((((((q2 108 12)).toInt64) * 1103515245) + 12345) / 2147483648) * 2147483648)).toInt32) / 65536) - ((((((((((q2 108 12)).toInt64) * 1103515245) + 12345) - ((((((q2 108 12)).toInt64) * 1103515245) + 12345) / 2147483648) * 2147483648)).toInt32) / 65536) / (q2 108 86)) * (q2 108 86))).toNatClampNeg)) / 10)) (i2 := ((q2 108 11)).toNatClampNeg) rfl rfl q6 rfl rfl ?_
      refine am_Ex.seg 6 90 [.ref 108, .int (q2 172 ((((((((((((q2 108 12)).toInt64) * 1103515245) + 12345) - ((((((q2 108 12)).toInt64) * 1103515245) + 12345) / 2147483648) * 2147483648)).toInt32) / 65536) - ((((((((((q2 108 12)).toInt64) * 1103515245) + 12345) - ((((((q2 108 12)).toInt64) * 1103515245) + 12345) / 2147483648) * 2147483648)).toInt32) / 65536) / (q2 108 86)) * (q2 108 86))).toNatClampNeg))] [.int 10, .int (q2 172 ((((((((((((q2 108 12)).toInt64) * 1103515245) + 12345) - ((((((q2 108 12)).toInt64) * 1103515245) + 12345) / 2147483648) * 2147483648)).toInt32) / 65536) - ((((((((((q2 108 12)).toInt64) * 1103515245) + 12345) - ((((((q2 108 12)).toInt64) * 1103515245) + 12345) / 2147483648) * 2147483648)).toInt32) / 65536) / (q2 108 86)) * (q2 108 86))).toNatClampNeg)), .int (q2 108 11), .ref 170] (am_up (am_up q2 108 12 ((((((((q2 108 12)).toInt64) * 1103515245) + 12345) - ((((((q2 108 12)).toInt64) * 1103515245) + 12345) / 2147483648) * 2147483648)).toInt32)) 169 (((q2 108 11)).toNatClampNeg) ((q2 172 ((((((((((((q2 108 12)).toInt64) * 1103515245) + 12345) - ((((((q2 108 12)).toInt64) * 1103515245) + 12345) / 2147483648) * 2147483648)).toInt32) / 65536) - ((((((((((q2 108 12)).toInt64) * 1103515245) + 12345) - ((((((q2 108 12)).toInt64) * 1103515245) + 12345) / 2147483648) * 2147483648)).toInt32) / 65536) / (q2 108 86)) * (q2 108 86))).toNatClampNeg)) / 10)) (fun _ => rfl) ?_
      refine am_Ex.irem rfl (by decide) ?_
      refine am_Ex.iast (v2 := ((q2 172 ((((((((((((q2 108 12)).toInt64) * 1103515245) + 12345) - ((((((q2 108 12)).toInt64) * 1103515245) + 12345) / 2147483648) * 2147483648)).toInt32) / 65536) - ((((((((((q2 108 12)).toInt64) * 1103515245) + 12345) - ((((((q2 108 12)).toInt64) * 1103515245) + 12345) / 2147483648) * 2147483648)).toInt32) / 65536) / (q2 108 86)) * (q2 108 86))).toNatClampNeg)) - ((q2 172 ((((((((((((q2 108 12)).toInt64) * 1103515245) + 12345) - ((((((q2 108 12)).toInt64) * 1103515245) + 12345) / 2147483648) * 2147483648)).toInt32) / 65536) - ((((((((((q2 108 12)).toInt64) * 1103515245) + 12345) - ((((((q2 108 12)).toInt64) * 1103515245) + 12345) / 2147483648) * 2147483648)).toInt32) / 65536) / (q2 108 86)) * (q2 108 86))).toNatClampNeg)) / 10) * 10)) (i2 := ((q2 108 11)).toNatClampNeg) rfl rfl q6 rfl rfl ?_
      refine am_Ex.seg 7 107 [.ref 108, .int (q2 172 ((((((((((((q2 108 12)).toInt64) * 1103515245) + 12345) - ((((((q2 108 12)).toInt64) * 1103515245) + 12345) / 2147483648) * 2147483648)).toInt32) / 65536) - ((((((((((q2 108 12)).toInt64) * 1103515245) + 12345) - ((((((q2 108 12)).toInt64) * 1103515245) + 12345) / 2147483648) * 2147483648)).toInt32) / 65536) / (q2 108 86)) * (q2 108 86))).toNatClampNeg))] [.int 1440, .int (q2 108 2), .int (q2 108 11), .ref 171] (am_up (am_up (am_up q2 108 12 ((((((((q2 108 12)).toInt64) * 1103515245) + 12345) - ((((((q2 108 12)).toInt64) * 1103515245) + 12345) / 2147483648) * 2147483648)).toInt32)) 169 (((q2 108 11)).toNatClampNeg) ((q2 172 ((((((((((((q2 108 12)).toInt64) * 1103515245) + 12345) - ((((((q2 108 12)).toInt64) * 1103515245) + 12345) / 2147483648) * 2147483648)).toInt32) / 65536) - ((((((((((q2 108 12)).toInt64) * 1103515245) + 12345) - ((((((q2 108 12)).toInt64) * 1103515245) + 12345) / 2147483648) * 2147483648)).toInt32) / 65536) / (q2 108 86)) * (q2 108 86))).toNatClampNeg)) / 10)) 170 (((q2 108 11)).toNatClampNeg) ((q2 172 ((((((((((((q2 108 12)).toInt64) * 1103515245) + 12345) - ((((((q2 108 12)).toInt64) * 1103515245) + 12345) / 2147483648) * 2147483648)).toInt32) / 65536) - ((((((((((q2 108 12)).toInt64) * 1103515245) + 12345) - ((((((q2 108 12)).toInt64) * 1103515245) + 12345) / 2147483648) * 2147483648)).toInt32) / 65536) / (q2 108 86)) * (q2 108 86))).toNatClampNeg)) - ((q2 172 ((((((((((((q2 108 12)).toInt64) * 1103515245) + 12345) - ((((((q2 108 12)).toInt64) * 1103515245) + 12345) / 2147483648) * 2147483648)).toInt32) / 65536) - ((((((((((q2 108 12)).toInt64) * 1103515245) + 12345) - ((((((q2 108 12)).toInt64) * 1103515245) + 12345) / 2147483648) * 2147483648)).toInt32) / 65536) / (q2 108 86)) * (q2 108 86))).toNatClampNeg)) / 10) * 10)) (fun _ => rfl) ?_
      refine am_Ex.idiv rfl (by decide) ?_
      refine am_Ex.iast (v2 := ((q2 108 2) / 1440)) (i2 := ((q2 108 11)).toNatClampNeg) rfl rfl q6 rfl rfl ?_
      refine am_Ex.seg 7 120 [.ref 108, .int (q2 172 ((((((((((((q2 108 12)).toInt64) * 1103515245) + 12345) - ((((((q2 108 12)).toInt64) * 1103515245) + 12345) / 2147483648) * 2147483648)).toInt32) / 65536) - ((((((((((q2 108 12)).toInt64) * 1103515245) + 12345) - ((((((q2 108 12)).toInt64) * 1103515245) + 12345) / 2147483648) * 2147483648)).toInt32) / 65536) / (q2 108 86)) * (q2 108 86))).toNatClampNeg))] [.int (q2 172 ((((((((((((q2 108 12)).toInt64) * 1103515245) + 12345) - ((((((q2 108 12)).toInt64) * 1103515245) + 12345) / 2147483648) * 2147483648)).toInt32) / 65536) - ((((((((((q2 108 12)).toInt64) * 1103515245) + 12345) - ((((((q2 108 12)).toInt64) * 1103515245) + 12345) / 2147483648) * 2147483648)).toInt32) / 65536) / (q2 108 86)) * (q2 108 86))).toNatClampNeg))] (am_up (am_up (am_up (am_up (am_up q2 108 12 ((((((((q2 108 12)).toInt64) * 1103515245) + 12345) - ((((((q2 108 12)).toInt64) * 1103515245) + 12345) / 2147483648) * 2147483648)).toInt32)) 169 (((q2 108 11)).toNatClampNeg) ((q2 172 ((((((((((((q2 108 12)).toInt64) * 1103515245) + 12345) - ((((((q2 108 12)).toInt64) * 1103515245) + 12345) / 2147483648) * 2147483648)).toInt32) / 65536) - ((((((((((q2 108 12)).toInt64) * 1103515245) + 12345) - ((((((q2 108 12)).toInt64) * 1103515245) + 12345) / 2147483648) * 2147483648)).toInt32) / 65536) / (q2 108 86)) * (q2 108 86))).toNatClampNeg)) / 10)) 170 (((q2 108 11)).toNatClampNeg) ((q2 172 ((((((((((((q2 108 12)).toInt64) * 1103515245) + 12345) - ((((((q2 108 12)).toInt64) * 1103515245) + 12345) / 2147483648) * 2147483648)).toInt32) / 65536) - ((((((((((q2 108 12)).toInt64) * 1103515245) + 12345) - ((((((q2 108 12)).toInt64) * 1103515245) + 12345) / 2147483648) * 2147483648)).toInt32) / 65536) / (q2 108 86)) * (q2 108 86))).toNatClampNeg)) - ((q2 172 ((((((((((((q2 108 12)).toInt64) * 1103515245) + 12345) - ((((((q2 108 12)).toInt64) * 1103515245) + 12345) / 2147483648) * 2147483648)).toInt32) / 65536) - ((((((((((q2 108 12)).toInt64) * 1103515245) + 12345) - ((((((q2 108 12)).toInt64) * 1103515245) + 12345) / 2147483648) * 2147483648)).toInt32) / 65536) / (q2 108 86)) * (q2 108 86))).toNatClampNeg)) / 10) * 10)) 171 (((q2 108 11)).toNatClampNeg) ((q2 108 2) / 1440)) 108 11 ((q2 108 11) + 1)) (fun _ => rfl) ?_
      cases h
      exact am_Ex.iret rfl rfl
    · refine am_Ex.if_ne_f rfl (Decidable.not_not.mp q3) ?_
      refine am_Ex.seg 1 24 [.ref 108, .null] [.int (-1)] q2 (fun _ => rfl) ?_
      cases h
      exact am_Ex.iret rfl rfl
  · refine am_Ex.icmp_ne_f rfl (Decidable.not_not.mp q1) ?_
    refine am_Ex.seg 1 11 [.ref 108, .null] [.int (-1)] μ (fun _ => rfl) ?_
    cases h
    exact am_Ex.iret rfl rfl
def fM_visit (a1 : Int32) (a2 : Int32) (μ : am_Mu) : Option (Int32 × am_Mu) := ((fM_lies a1 0 ((μ 108 11) - 1) μ).bind fun q1 => (if ¬ q1.1 = 0 then (if ¬ a2 = 0 then (if ¬ a2 = 1 then (if ¬ a2 = 2 then some ((-1), q1.2) else (bif am_inb a1 400 then some ((q1.2 171 ((a1).toNatClampNeg)), q1.2) else none)) else (bif am_inb a1 400 then some ((q1.2 170 ((a1).toNatClampNeg)), q1.2) else none)) else (bif am_inb a1 400 then some ((q1.2 169 ((a1).toNatClampNeg)), q1.2) else none)) else some ((-1), q1.2)))
set_option maxRecDepth 20000 in
theorem e_fM_visit (d : Nat) : ∀ {a1 : Int32} {a2 : Int32} {μ : am_Mu} {out : Int32 × am_Mu}, fM_visit a1 a2 μ = some out → am_Ex none (d + 1) 231 0 [.ref 108, .int a1, .int a2] [] am_SH μ (some (.int out.1), am_SH, out.2) := by
  intro a1 a2 μ out h
  unfold fM_visit at h
  refine am_Ex.seg 6 8 [.ref 108, .int a1, .int a2] [.int ((μ 108 11) - 1), .int 0, .int a1] μ (fun _ => rfl) ?_
  obtain ⟨q1, h_q1, h⟩ := am_bind h
  refine am_Ex.isk (na := 3) rfl (As := [.int a1, .int 0, .int ((μ 108 11) - 1)]) rfl rfl rfl rfl rfl rfl (e_fM_lies (d + 0) h_q1) ?_
  refine am_Ex.same 11 [.ref 108, .int a1, .int a2] [.int q1.1] q1.2 rfl ?_
  rcases am_ite h with ⟨q2, h⟩ | ⟨q2, h⟩
  · refine am_Ex.if_ne_t rfl q2 ?_
    refine am_Ex.seg 1 17 [.ref 108, .int a1, .int a2] [.int a2] q1.2 (fun _ => rfl) ?_
    rcases am_ite h with ⟨q3, h⟩ | ⟨q3, h⟩
    · refine am_Ex.if_ne_t rfl q3 ?_
      refine am_Ex.seg 2 31 [.ref 108, .int a1, .int a2] [.int 1, .int a2] q1.2 (fun _ => rfl) ?_
      rcases am_ite h with ⟨q4, h⟩ | ⟨q4, h⟩
      · refine am_Ex.icmp_ne_t rfl q4 ?_
        refine am_Ex.seg 2 45 [.ref 108, .int a1, .int a2] [.int 2, .int a2] q1.2 (fun _ => rfl) ?_
        rcases am_ite h with ⟨q5, h⟩ | ⟨q5, h⟩
        · refine am_Ex.icmp_ne_t rfl q5 ?_
          refine am_Ex.seg 1 58 [.ref 108, .int a1, .int a2] [.int (-1)] q1.2 (fun _ => rfl) ?_
          cases h
          exact am_Ex.iret rfl rfl
        · refine am_Ex.icmp_ne_f rfl (Decidable.not_not.mp q5) ?_
          refine am_Ex.seg 3 53 [.ref 108, .int a1, .int a2] [.int a1, .ref 171] q1.2 (fun _ => rfl) ?_
          obtain ⟨q6, h⟩ := am_bif h
          refine am_Ex.iald (v := (q1.2 171 ((a1).toNatClampNeg))) rfl rfl q6 rfl ?_
          refine am_Ex.goto rfl ?_
          cases h
          exact am_Ex.iret rfl rfl
      · refine am_Ex.icmp_ne_f rfl (Decidable.not_not.mp q4) ?_
        refine am_Ex.seg 3 39 [.ref 108, .int a1, .int a2] [.int a1, .ref 170] q1.2 (fun _ => rfl) ?_
        obtain ⟨q7, h⟩ := am_bif h
        refine am_Ex.iald (v := (q1.2 170 ((a1).toNatClampNeg))) rfl rfl q7 rfl ?_
        refine am_Ex.goto rfl ?_
        cases h
        exact am_Ex.iret rfl rfl
    · refine am_Ex.if_ne_f rfl (Decidable.not_not.mp q3) ?_
      refine am_Ex.seg 3 25 [.ref 108, .int a1, .int a2] [.int a1, .ref 169] q1.2 (fun _ => rfl) ?_
      obtain ⟨q8, h⟩ := am_bif h
      refine am_Ex.iald (v := (q1.2 169 ((a1).toNatClampNeg))) rfl rfl q8 rfl ?_
      refine am_Ex.goto rfl ?_
      cases h
      exact am_Ex.iret rfl rfl
  · refine am_Ex.if_ne_f rfl (Decidable.not_not.mp q2) ?_
    refine am_Ex.seg 1 15 [.ref 108, .int a1, .int a2] [.int (-1)] q1.2 (fun _ => rfl) ?_
    cases h
    exact am_Ex.iret rfl rfl
def fM_way0 (a1 : Int32) (a2 : Int32) (μ : am_Mu) : Option (Int32 × am_Mu) := (bif am_inb a1 8 then (bif am_inb (μ 173 ((a1).toNatClampNeg)) 8 then (bif am_inb a2 8 then (bif am_inb (μ 173 ((a2).toNatClampNeg)) 8 then ((fM_most ((μ 154 (((μ 173 ((a1).toNatClampNeg))).toNatClampNeg)) - (μ 154 (((μ 173 ((a2).toNatClampNeg))).toNatClampNeg))) (-((μ 154 (((μ 173 ((a1).toNatClampNeg))).toNatClampNeg)) - (μ 154 (((μ 173 ((a2).toNatClampNeg))).toNatClampNeg)))) μ).bind fun q5 => ((fM_most ((μ 155 (((μ 173 ((a1).toNatClampNeg))).toNatClampNeg)) - (μ 155 (((μ 173 ((a2).toNatClampNeg))).toNatClampNeg))) (-((μ 155 (((μ 173 ((a1).toNatClampNeg))).toNatClampNeg)) - (μ 155 (((μ 173 ((a2).toNatClampNeg))).toNatClampNeg)))) q5.2).bind fun q6 => some ((q5.1 + q6.1), q6.2))) else none) else none) else none) else none)
set_option maxRecDepth 20000 in
theorem e_fM_way0 (d : Nat) : ∀ {a1 : Int32} {a2 : Int32} {μ : am_Mu} {out : Int32 × am_Mu}, fM_way0 a1 a2 μ = some out → am_Ex none (d + 1) 232 0 [.ref 108, .int a1, .int a2, .null, .null] [] am_SH μ (some (.int out.1), am_SH, out.2) := by
  intro a1 a2 μ out h
  unfold fM_way0 at h
  refine am_Ex.seg 5 9 [.ref 108, .int a1, .int a2, .null, .null] [.int a1, .ref 173, .ref 154] μ (fun _ => rfl) ?_
  obtain ⟨q1, h⟩ := am_bif h
  refine am_Ex.iald (v := (μ 173 ((a1).toNatClampNeg))) rfl rfl q1 rfl ?_
  obtain ⟨q2, h⟩ := am_bif h
  refine am_Ex.iald (v := (μ 154 (((μ 173 ((a1).toNatClampNeg))).toNatClampNeg))) rfl rfl q2 rfl ?_
  refine am_Ex.seg 5 20 [.ref 108, .int a1, .int a2, .null, .null] [.int a2, .ref 173, .ref 154, .int (μ 154 (((μ 173 ((a1).toNatClampNeg))).toNatClampNeg))] μ (fun _ => rfl) ?_
  obtain ⟨q3, h⟩ := am_bif h
  refine am_Ex.iald (v := (μ 173 ((a2).toNatClampNeg))) rfl rfl q3 rfl ?_
  obtain ⟨q4, h⟩ := am_bif h
  refine am_Ex.iald (v := (μ 154 (((μ 173 ((a2).toNatClampNeg))).toNatClampNeg))) rfl rfl q4 rfl ?_
  refine am_Ex.seg 7 33 [.ref 108, .int a1, .int a2, .int ((μ 154 (((μ 173 ((a1).toNatClampNeg))).toNatClampNeg)) - (μ 154 (((μ 173 ((a2).toNatClampNeg))).toNatClampNeg))), .null] [.int a1, .ref 173, .ref 155] μ (fun _ => rfl) ?_
  refine am_Ex.iald (v := (μ 173 ((a1).toNatClampNeg))) rfl rfl q1 rfl ?_
  refine am_Ex.iald (v := (μ 155 (((μ 173 ((a1).toNatClampNeg))).toNatClampNeg))) rfl rfl q2 rfl ?_
  refine am_Ex.seg 5 44 [.ref 108, .int a1, .int a2, .int ((μ 154 (((μ 173 ((a1).toNatClampNeg))).toNatClampNeg)) - (μ 154 (((μ 173 ((a2).toNatClampNeg))).toNatClampNeg))), .null] [.int a2, .ref 173, .ref 155, .int (μ 155 (((μ 173 ((a1).toNatClampNeg))).toNatClampNeg))] μ (fun _ => rfl) ?_
  refine am_Ex.iald (v := (μ 173 ((a2).toNatClampNeg))) rfl rfl q3 rfl ?_
  refine am_Ex.iald (v := (μ 155 (((μ 173 ((a2).toNatClampNeg))).toNatClampNeg))) rfl rfl q4 rfl ?_
  refine am_Ex.seg 5 52 [.ref 108, .int a1, .int a2, .int ((μ 154 (((μ 173 ((a1).toNatClampNeg))).toNatClampNeg)) - (μ 154 (((μ 173 ((a2).toNatClampNeg))).toNatClampNeg))), .int ((μ 155 (((μ 173 ((a1).toNatClampNeg))).toNatClampNeg)) - (μ 155 (((μ 173 ((a2).toNatClampNeg))).toNatClampNeg)))] [.int (-((μ 154 (((μ 173 ((a1).toNatClampNeg))).toNatClampNeg)) - (μ 154 (((μ 173 ((a2).toNatClampNeg))).toNatClampNeg)))), .int ((μ 154 (((μ 173 ((a1).toNatClampNeg))).toNatClampNeg)) - (μ 154 (((μ 173 ((a2).toNatClampNeg))).toNatClampNeg)))] μ (fun _ => rfl) ?_
  obtain ⟨q5, h_q5, h⟩ := am_bind h
  refine am_Ex.isk (na := 2) rfl (As := [.int ((μ 154 (((μ 173 ((a1).toNatClampNeg))).toNatClampNeg)) - (μ 154 (((μ 173 ((a2).toNatClampNeg))).toNatClampNeg))), .int (-((μ 154 (((μ 173 ((a1).toNatClampNeg))).toNatClampNeg)) - (μ 154 (((μ 173 ((a2).toNatClampNeg))).toNatClampNeg))))]) rfl rfl rfl rfl rfl rfl (e_fM_most (d + 0) h_q5) ?_
  refine am_Ex.same 55 [.ref 108, .int a1, .int a2, .int ((μ 154 (((μ 173 ((a1).toNatClampNeg))).toNatClampNeg)) - (μ 154 (((μ 173 ((a2).toNatClampNeg))).toNatClampNeg))), .int ((μ 155 (((μ 173 ((a1).toNatClampNeg))).toNatClampNeg)) - (μ 155 (((μ 173 ((a2).toNatClampNeg))).toNatClampNeg)))] [.int q5.1] q5.2 rfl ?_
  refine am_Ex.seg 3 60 [.ref 108, .int a1, .int a2, .int ((μ 154 (((μ 173 ((a1).toNatClampNeg))).toNatClampNeg)) - (μ 154 (((μ 173 ((a2).toNatClampNeg))).toNatClampNeg))), .int ((μ 155 (((μ 173 ((a1).toNatClampNeg))).toNatClampNeg)) - (μ 155 (((μ 173 ((a2).toNatClampNeg))).toNatClampNeg)))] [.int (-((μ 155 (((μ 173 ((a1).toNatClampNeg))).toNatClampNeg)) - (μ 155 (((μ 173 ((a2).toNatClampNeg))).toNatClampNeg)))), .int ((μ 155 (((μ 173 ((a1).toNatClampNeg))).toNatClampNeg)) - (μ 155 (((μ 173 ((a2).toNatClampNeg))).toNatClampNeg))), .int q5.1] q5.2 (fun _ => rfl) ?_
  obtain ⟨q6, h_q6, h⟩ := am_bind h
  refine am_Ex.isk (na := 2) rfl (As := [.int ((μ 155 (((μ 173 ((a1).toNatClampNeg))).toNatClampNeg)) - (μ 155 (((μ 173 ((a2).toNatClampNeg))).toNatClampNeg))), .int (-((μ 155 (((μ 173 ((a1).toNatClampNeg))).toNatClampNeg)) - (μ 155 (((μ 173 ((a2).toNatClampNeg))).toNatClampNeg))))]) rfl rfl rfl rfl rfl rfl (e_fM_most (d + 0) h_q6) ?_
  refine am_Ex.same 63 [.ref 108, .int a1, .int a2, .int ((μ 154 (((μ 173 ((a1).toNatClampNeg))).toNatClampNeg)) - (μ 154 (((μ 173 ((a2).toNatClampNeg))).toNatClampNeg))), .int ((μ 155 (((μ 173 ((a1).toNatClampNeg))).toNatClampNeg)) - (μ 155 (((μ 173 ((a2).toNatClampNeg))).toNatClampNeg)))] [.int q6.1, .int q5.1] q6.2 rfl ?_
  refine am_Ex.seg 1 64 [.ref 108, .int a1, .int a2, .int ((μ 154 (((μ 173 ((a1).toNatClampNeg))).toNatClampNeg)) - (μ 154 (((μ 173 ((a2).toNatClampNeg))).toNatClampNeg))), .int ((μ 155 (((μ 173 ((a1).toNatClampNeg))).toNatClampNeg)) - (μ 155 (((μ 173 ((a2).toNatClampNeg))).toNatClampNeg)))] [.int (q5.1 + q6.1)] q6.2 (fun _ => rfl) ?_
  cases h
  exact am_Ex.iret rfl rfl
def fM_tours_224 (k84 : Int32 → am_Mu → Option (am_Mu)) (a2 : Int32) (μ : am_Mu) : Option (am_Mu) := k84 (a2 + 1) μ
def fM_tours_205 (k84 : Int32 → am_Mu → Option (am_Mu)) (k96 : Int32 → Int32 → am_Mu → Option (am_Mu)) (a2 : Int32) (a3 : Int32) (a4 : Int32) (μ : am_Mu) : Option (am_Mu) := (bif am_inb (((8 : Int32) * a2) + a3) 2048 then k96 a2 (a3 + 1) (am_up μ 174 (((((8 : Int32) * a2) + a3)).toNatClampNeg) a4) else none)
def fM_tours_199 (k84 : Int32 → am_Mu → Option (am_Mu)) (k96 : Int32 → Int32 → am_Mu → Option (am_Mu)) (k122 : Int32 → Int32 → Int32 → Int32 → Int32 → Int32 → am_Mu → Option (am_Mu)) (a2 : Int32) (a3 : Int32) (a4 : Int32) (a5 : Int32) (a6 : Int32) (a7 : Int32) (μ : am_Mu) : Option (am_Mu) := k122 a2 a3 a4 a5 a6 (a7 + 1) μ
def fM_tours_194 (k84 : Int32 → am_Mu → Option (am_Mu)) (k96 : Int32 → Int32 → am_Mu → Option (am_Mu)) (k122 : Int32 → Int32 → Int32 → Int32 → Int32 → Int32 → am_Mu → Option (am_Mu)) (a2 : Int32) (a3 : Int32) (a5 : Int32) (a7 : Int32) (s0 : Int32) (μ : am_Mu) : Option (am_Mu) := fM_tours_199 k84 k96 k122 a2 a3 s0 a5 1 a7 μ
def fM_tours_187 (k84 : Int32 → am_Mu → Option (am_Mu)) (k96 : Int32 → Int32 → am_Mu → Option (am_Mu)) (k122 : Int32 → Int32 → Int32 → Int32 → Int32 → Int32 → am_Mu → Option (am_Mu)) (a2 : Int32) (a3 : Int32) (a5 : Int32) (a7 : Int32) (a8 : Int32) (μ : am_Mu) : Option (am_Mu) := fM_tours_194 k84 k96 k122 a2 a3 a5 a7 a8 μ
def fM_tours_122 : Nat → (Int32 → am_Mu → Option (am_Mu)) → (Int32 → Int32 → am_Mu → Option (am_Mu)) → Int32 → Int32 → Int32 → Int32 → Int32 → Int32 → am_Mu → Option (am_Mu)
  | 0, _, _, _, _, _, _, _, _, _ => none
  | n + 1, k84, k96, a2, a3, a4, a5, a6, a7, μ => (if (μ 108 88) ≤ a7 then fM_tours_205 k84 k96 a2 a3 a4 μ else ((fM_has a2 a3 μ).bind fun q2 => (if q2.1 = 0 then fM_tours_205 k84 k96 a2 a3 a4 q2.2 else ((fM_has a5 a7 q2.2).bind fun q4 => (if ¬ q4.1 = 0 then ((fM_way0 a3 a7 q4.2).bind fun q6 => (bif am_inb (((8 : Int32) * a5) + a7) 2048 then (if a6 = 0 then fM_tours_187 k84 k96 (fM_tours_122 n k84 k96) a2 a3 a5 a7 (q6.1 + (q6.2 174 (((((8 : Int32) * a5) + a7)).toNatClampNeg))) q6.2 else (if a4 ≤ (q6.1 + (q6.2 174 (((((8 : Int32) * a5) + a7)).toNatClampNeg))) then fM_tours_194 k84 k96 (fM_tours_122 n k84 k96) a2 a3 a5 a7 a4 q6.2 else fM_tours_187 k84 k96 (fM_tours_122 n k84 k96) a2 a3 a5 a7 (q6.1 + (q6.2 174 (((((8 : Int32) * a5) + a7)).toNatClampNeg))) q6.2)) else none)) else fM_tours_199 k84 k96 (fM_tours_122 n k84 k96) a2 a3 a4 a5 a6 a7 q4.2)))))
def fM_tours_96 : Nat → (Int32 → am_Mu → Option (am_Mu)) → Int32 → Int32 → am_Mu → Option (am_Mu)
  | 0, _, _, _, _ => none
  | n + 1, k84, a2, a3, μ => (if (μ 108 88) ≤ a3 then fM_tours_224 k84 a2 μ else fM_tours_122 am_F k84 (fM_tours_96 n k84) a2 a3 0 (a2 &&& (((1 : Int32) <<< (a3 &&& 31)) ^^^ (-1))) 0 0 μ)
def fM_tours_84 : Nat → Int32 → am_Mu → Option (am_Mu)
  | 0, _, _ => none
  | n + 1, a2, μ => (if ((1 : Int32) <<< ((μ 108 88) &&& 31)) ≤ a2 then some μ else fM_tours_96 am_F (fM_tours_84 n) a2 0 μ)
def fM_tours_82 (μ : am_Mu) : Option (am_Mu) := fM_tours_84 am_F 1 μ
def fM_tours_76 (k7 : Int32 → Int32 → am_Mu → Option (am_Mu)) (a1 : Int32) (a2 : Int32) (μ : am_Mu) : Option (am_Mu) := k7 a1 (a2 + 1) μ
def fM_tours_7 : Nat → Int32 → Int32 → am_Mu → Option (am_Mu)
  | 0, _, _, _ => none
  | n + 1, a1, a2, μ => (if (μ 108 7) ≤ a2 then fM_tours_82 μ else ((fM_latest a2 μ).bind fun q2 => (if q2.1 = (-1) then fM_tours_76 (fM_tours_7 n) a1 a2 q2.2 else (bif am_inb q2.1 400 then (if ¬ (q2.2 170 ((q2.1).toNatClampNeg)) = a1 then fM_tours_76 (fM_tours_7 n) a1 a2 q2.2 else (if (q2.2 171 ((q2.1).toNatClampNeg)) = ((q2.2 108 2) / 1440) then (bif am_inb (q2.2 108 88) 8 then fM_tours_76 (fM_tours_7 n) a1 a2 (am_up (am_up q2.2 173 (((q2.2 108 88)).toNatClampNeg) a2) 108 88 ((q2.2 108 88) + 1)) else none) else fM_tours_76 (fM_tours_7 n) a1 a2 q2.2)) else none))))
def fM_tours (a1 : Int32) (μ : am_Mu) : Option (am_Mu) := fM_tours_7 am_F a1 0 (am_up μ 108 88 0)
set_option maxRecDepth 20000 in
theorem e_fM_tours_224 (d : Nat) {k84 : Int32 → am_Mu → Option (am_Mu)} (hk84 : ∀ {a2 : Int32} {w1 w3 w4 w5 w6 w7 w8 : Value} {μ : am_Mu} {out : am_Mu}, k84 a2 μ = some out → am_Ex none (d + 2) 233 84 [.ref 108, w1, .int a2, w3, w4, w5, w6, w7, w8] [] am_SH μ (none, am_SH, out)) : ∀ {a2 : Int32} {w1 w3 w4 w5 w6 w7 w8 : Value} {μ : am_Mu} {out : am_Mu}, fM_tours_224 k84 a2 μ = some out → am_Ex none (d + 2) 233 224 [.ref 108, w1, .int a2, w3, w4, w5, w6, w7, w8] [] am_SH μ (none, am_SH, out) := by
  intro a2 w1 w3 w4 w5 w6 w7 w8 μ out h
  unfold fM_tours_224 at h
  refine am_Ex.seg 1 227 [.ref 108, w1, .int (a2 + 1), w3, w4, w5, w6, w7, w8] [] μ (fun _ => rfl) ?_
  refine am_Ex.goto rfl ?_
  exact hk84 h
set_option maxRecDepth 20000 in
theorem e_fM_tours_205 (d : Nat) {k84 : Int32 → am_Mu → Option (am_Mu)} {k96 : Int32 → Int32 → am_Mu → Option (am_Mu)} (hk84 : ∀ {a2 : Int32} {w1 w3 w4 w5 w6 w7 w8 : Value} {μ : am_Mu} {out : am_Mu}, k84 a2 μ = some out → am_Ex none (d + 2) 233 84 [.ref 108, w1, .int a2, w3, w4, w5, w6, w7, w8] [] am_SH μ (none, am_SH, out)) (hk96 : ∀ {a2 : Int32} {a3 : Int32} {w1 w4 w5 w6 w7 w8 : Value} {μ : am_Mu} {out : am_Mu}, k96 a2 a3 μ = some out → am_Ex none (d + 2) 233 96 [.ref 108, w1, .int a2, .int a3, w4, w5, w6, w7, w8] [] am_SH μ (none, am_SH, out)) : ∀ {a2 : Int32} {a3 : Int32} {a4 : Int32} {w1 w5 w6 w7 w8 : Value} {μ : am_Mu} {out : am_Mu}, fM_tours_205 k84 k96 a2 a3 a4 μ = some out → am_Ex none (d + 2) 233 205 [.ref 108, w1, .int a2, .int a3, .int a4, w5, w6, w7, w8] [] am_SH μ (none, am_SH, out) := by
  intro a2 a3 a4 w1 w5 w6 w7 w8 μ out h
  unfold fM_tours_205 at h
  refine am_Ex.seg 8 217 [.ref 108, w1, .int a2, .int a3, .int a4, w5, w6, w7, w8] [.int a4, .int (((8 : Int32) * a2) + a3), .ref 174] μ (fun _ => rfl) ?_
  obtain ⟨q1, h⟩ := am_bif h
  refine am_Ex.iast (v2 := a4) (i2 := ((((8 : Int32) * a2) + a3)).toNatClampNeg) rfl rfl q1 rfl rfl ?_
  refine am_Ex.seg 1 221 [.ref 108, w1, .int a2, .int (a3 + 1), .int a4, w5, w6, w7, w8] [] (am_up μ 174 (((((8 : Int32) * a2) + a3)).toNatClampNeg) a4) (fun _ => rfl) ?_
  refine am_Ex.goto rfl ?_
  exact hk96 h
set_option maxRecDepth 20000 in
theorem e_fM_tours_199 (d : Nat) {k84 : Int32 → am_Mu → Option (am_Mu)} {k96 : Int32 → Int32 → am_Mu → Option (am_Mu)} {k122 : Int32 → Int32 → Int32 → Int32 → Int32 → Int32 → am_Mu → Option (am_Mu)} (hk84 : ∀ {a2 : Int32} {w1 w3 w4 w5 w6 w7 w8 : Value} {μ : am_Mu} {out : am_Mu}, k84 a2 μ = some out → am_Ex none (d + 2) 233 84 [.ref 108, w1, .int a2, w3, w4, w5, w6, w7, w8] [] am_SH μ (none, am_SH, out)) (hk96 : ∀ {a2 : Int32} {a3 : Int32} {w1 w4 w5 w6 w7 w8 : Value} {μ : am_Mu} {out : am_Mu}, k96 a2 a3 μ = some out → am_Ex none (d + 2) 233 96 [.ref 108, w1, .int a2, .int a3, w4, w5, w6, w7, w8] [] am_SH μ (none, am_SH, out)) (hk122 : ∀ {a2 : Int32} {a3 : Int32} {a4 : Int32} {a5 : Int32} {a6 : Int32} {a7 : Int32} {w1 w8 : Value} {μ : am_Mu} {out : am_Mu}, k122 a2 a3 a4 a5 a6 a7 μ = some out → am_Ex none (d + 2) 233 122 [.ref 108, w1, .int a2, .int a3, .int a4, .int a5, .int a6, .int a7, w8] [] am_SH μ (none, am_SH, out)) : ∀ {a2 : Int32} {a3 : Int32} {a4 : Int32} {a5 : Int32} {a6 : Int32} {a7 : Int32} {w1 w8 : Value} {μ : am_Mu} {out : am_Mu}, fM_tours_199 k84 k96 k122 a2 a3 a4 a5 a6 a7 μ = some out → am_Ex none (d + 2) 233 199 [.ref 108, w1, .int a2, .int a3, .int a4, .int a5, .int a6, .int a7, w8] [] am_SH μ (none, am_SH, out) := by
  intro a2 a3 a4 a5 a6 a7 w1 w8 μ out h
  unfold fM_tours_199 at h
  refine am_Ex.seg 1 202 [.ref 108, w1, .int a2, .int a3, .int a4, .int a5, .int a6, .int (a7 + 1), w8] [] μ (fun _ => rfl) ?_
  refine am_Ex.goto rfl ?_
  exact hk122 h
set_option maxRecDepth 20000 in
theorem e_fM_tours_194 (d : Nat) {k84 : Int32 → am_Mu → Option (am_Mu)} {k96 : Int32 → Int32 → am_Mu → Option (am_Mu)} {k122 : Int32 → Int32 → Int32 → Int32 → Int32 → Int32 → am_Mu → Option (am_Mu)} (hk84 : ∀ {a2 : Int32} {w1 w3 w4 w5 w6 w7 w8 : Value} {μ : am_Mu} {out : am_Mu}, k84 a2 μ = some out → am_Ex none (d + 2) 233 84 [.ref 108, w1, .int a2, w3, w4, w5, w6, w7, w8] [] am_SH μ (none, am_SH, out)) (hk96 : ∀ {a2 : Int32} {a3 : Int32} {w1 w4 w5 w6 w7 w8 : Value} {μ : am_Mu} {out : am_Mu}, k96 a2 a3 μ = some out → am_Ex none (d + 2) 233 96 [.ref 108, w1, .int a2, .int a3, w4, w5, w6, w7, w8] [] am_SH μ (none, am_SH, out)) (hk122 : ∀ {a2 : Int32} {a3 : Int32} {a4 : Int32} {a5 : Int32} {a6 : Int32} {a7 : Int32} {w1 w8 : Value} {μ : am_Mu} {out : am_Mu}, k122 a2 a3 a4 a5 a6 a7 μ = some out → am_Ex none (d + 2) 233 122 [.ref 108, w1, .int a2, .int a3, .int a4, .int a5, .int a6, .int a7, w8] [] am_SH μ (none, am_SH, out)) : ∀ {a2 : Int32} {a3 : Int32} {a5 : Int32} {a7 : Int32} {s0 : Int32} {w1 w4 w6 w8 : Value} {μ : am_Mu} {out : am_Mu}, fM_tours_194 k84 k96 k122 a2 a3 a5 a7 s0 μ = some out → am_Ex none (d + 2) 233 194 [.ref 108, w1, .int a2, .int a3, w4, .int a5, w6, .int a7, w8] [.int s0] am_SH μ (none, am_SH, out) := by
  intro a2 a3 a5 a7 s0 w1 w4 w6 w8 μ out h
  unfold fM_tours_194 at h
  refine am_Ex.seg 3 199 [.ref 108, w1, .int a2, .int a3, .int s0, .int a5, .int 1, .int a7, w8] [] μ (fun _ => rfl) ?_
  exact e_fM_tours_199 d hk84 hk96 hk122 h
set_option maxRecDepth 20000 in
theorem e_fM_tours_187 (d : Nat) {k84 : Int32 → am_Mu → Option (am_Mu)} {k96 : Int32 → Int32 → am_Mu → Option (am_Mu)} {k122 : Int32 → Int32 → Int32 → Int32 → Int32 → Int32 → am_Mu → Option (am_Mu)} (hk84 : ∀ {a2 : Int32} {w1 w3 w4 w5 w6 w7 w8 : Value} {μ : am_Mu} {out : am_Mu}, k84 a2 μ = some out → am_Ex none (d + 2) 233 84 [.ref 108, w1, .int a2, w3, w4, w5, w6, w7, w8] [] am_SH μ (none, am_SH, out)) (hk96 : ∀ {a2 : Int32} {a3 : Int32} {w1 w4 w5 w6 w7 w8 : Value} {μ : am_Mu} {out : am_Mu}, k96 a2 a3 μ = some out → am_Ex none (d + 2) 233 96 [.ref 108, w1, .int a2, .int a3, w4, w5, w6, w7, w8] [] am_SH μ (none, am_SH, out)) (hk122 : ∀ {a2 : Int32} {a3 : Int32} {a4 : Int32} {a5 : Int32} {a6 : Int32} {a7 : Int32} {w1 w8 : Value} {μ : am_Mu} {out : am_Mu}, k122 a2 a3 a4 a5 a6 a7 μ = some out → am_Ex none (d + 2) 233 122 [.ref 108, w1, .int a2, .int a3, .int a4, .int a5, .int a6, .int a7, w8] [] am_SH μ (none, am_SH, out)) : ∀ {a2 : Int32} {a3 : Int32} {a5 : Int32} {a7 : Int32} {a8 : Int32} {w1 w4 w6 : Value} {μ : am_Mu} {out : am_Mu}, fM_tours_187 k84 k96 k122 a2 a3 a5 a7 a8 μ = some out → am_Ex none (d + 2) 233 187 [.ref 108, w1, .int a2, .int a3, w4, .int a5, w6, .int a7, .int a8] [] am_SH μ (none, am_SH, out) := by
  intro a2 a3 a5 a7 a8 w1 w4 w6 μ out h
  unfold fM_tours_187 at h
  refine am_Ex.seg 1 189 [.ref 108, w1, .int a2, .int a3, w4, .int a5, w6, .int a7, .int a8] [.int a8] μ (fun _ => rfl) ?_
  refine am_Ex.goto rfl ?_
  exact e_fM_tours_194 d hk84 hk96 hk122 h
set_option maxRecDepth 20000 in
theorem e_fM_tours_122 (d : Nat) {k84 : Int32 → am_Mu → Option (am_Mu)} {k96 : Int32 → Int32 → am_Mu → Option (am_Mu)} (hk84 : ∀ {a2 : Int32} {w1 w3 w4 w5 w6 w7 w8 : Value} {μ : am_Mu} {out : am_Mu}, k84 a2 μ = some out → am_Ex none (d + 2) 233 84 [.ref 108, w1, .int a2, w3, w4, w5, w6, w7, w8] [] am_SH μ (none, am_SH, out)) (hk96 : ∀ {a2 : Int32} {a3 : Int32} {w1 w4 w5 w6 w7 w8 : Value} {μ : am_Mu} {out : am_Mu}, k96 a2 a3 μ = some out → am_Ex none (d + 2) 233 96 [.ref 108, w1, .int a2, .int a3, w4, w5, w6, w7, w8] [] am_SH μ (none, am_SH, out)) : ∀ n : Nat, ∀ {a2 : Int32} {a3 : Int32} {a4 : Int32} {a5 : Int32} {a6 : Int32} {a7 : Int32} {w1 w8 : Value} {μ : am_Mu} {out : am_Mu}, fM_tours_122 n k84 k96 a2 a3 a4 a5 a6 a7 μ = some out → am_Ex none (d + 2) 233 122 [.ref 108, w1, .int a2, .int a3, .int a4, .int a5, .int a6, .int a7, w8] [] am_SH μ (none, am_SH, out) := by
  intro n
  induction n with
  | zero => intros; contradiction
  | succ n ih =>
    have hk122 : ∀ {a2 : Int32} {a3 : Int32} {a4 : Int32} {a5 : Int32} {a6 : Int32} {a7 : Int32} {w1 w8 : Value} {μ : am_Mu} {out : am_Mu}, (fM_tours_122 n k84 k96) a2 a3 a4 a5 a6 a7 μ = some out → am_Ex none (d + 2) 233 122 [.ref 108, w1, .int a2, .int a3, .int a4, .int a5, .int a6, .int a7, w8] [] am_SH μ (none, am_SH, out) := ih
    intro a2 a3 a4 a5 a6 a7 w1 w8 μ out h
    unfold fM_tours_122 at h
    refine am_Ex.seg 3 128 [.ref 108, w1, .int a2, .int a3, .int a4, .int a5, .int a6, .int a7, w8] [.int (μ 108 88), .int a7] μ (fun _ => rfl) ?_
    rcases am_ite h with ⟨q1, h⟩ | ⟨q1, h⟩
    · refine am_Ex.icmp_ge_t rfl q1 ?_
      exact e_fM_tours_205 d hk84 hk96 h
    · refine am_Ex.icmp_ge_f rfl q1 ?_
      refine am_Ex.seg 2 133 [.ref 108, w1, .int a2, .int a3, .int a4, .int a5, .int a6, .int a7, w8] [.int a3, .int a2] μ (fun _ => rfl) ?_
      obtain ⟨q2, h_q2, h⟩ := am_bind h
      refine am_Ex.isk (na := 2) rfl (As := [.int a2, .int a3]) rfl rfl rfl rfl rfl rfl (e_fM_has (d + 1) h_q2) ?_
      refine am_Ex.same 136 [.ref 108, w1, .int a2, .int a3, .int a4, .int a5, .int a6, .int a7, w8] [.int q2.1] q2.2 rfl ?_
      rcases am_ite h with ⟨q3, h⟩ | ⟨q3, h⟩
      · refine am_Ex.if_eq_t rfl q3 ?_
        exact e_fM_tours_205 d hk84 hk96 h
      · refine am_Ex.if_eq_f rfl q3 ?_
        refine am_Ex.seg 2 143 [.ref 108, w1, .int a2, .int a3, .int a4, .int a5, .int a6, .int a7, w8] [.int a7, .int a5] q2.2 (fun _ => rfl) ?_
        obtain ⟨q4, h_q4, h⟩ := am_bind h
        refine am_Ex.isk (na := 2) rfl (As := [.int a5, .int a7]) rfl rfl rfl rfl rfl rfl (e_fM_has (d + 1) h_q4) ?_
        refine am_Ex.same 146 [.ref 108, w1, .int a2, .int a3, .int a4, .int a5, .int a6, .int a7, w8] [.int q4.1] q4.2 rfl ?_
        rcases am_ite h with ⟨q5, h⟩ | ⟨q5, h⟩
        · refine am_Ex.if_ne_t rfl q5 ?_
          refine am_Ex.seg 3 156 [.ref 108, w1, .int a2, .int a3, .int a4, .int a5, .int a6, .int a7, w8] [.int a7, .int a3, .ref 108] q4.2 (fun _ => rfl) ?_
          obtain ⟨q6, h_q6, h⟩ := am_bind h
          refine am_Ex.ivk (na := 3) (b := 108) (As' := [.int a3, .int a7]) rfl rfl rfl rfl rfl rfl rfl rfl rfl (e_fM_way0 (d + 0) h_q6) ?_
          refine am_Ex.same 159 [.ref 108, w1, .int a2, .int a3, .int a4, .int a5, .int a6, .int a7, w8] [.int q6.1] q6.2 rfl ?_
          refine am_Ex.seg 7 171 [.ref 108, w1, .int a2, .int a3, .int a4, .int a5, .int a6, .int a7, w8] [.int (((8 : Int32) * a5) + a7), .ref 174, .int q6.1] q6.2 (fun _ => rfl) ?_
          obtain ⟨q7, h⟩ := am_bif h
          refine am_Ex.iald (v := (q6.2 174 (((((8 : Int32) * a5) + a7)).toNatClampNeg))) rfl rfl q7 rfl ?_
          refine am_Ex.seg 3 177 [.ref 108, w1, .int a2, .int a3, .int a4, .int a5, .int a6, .int a7, .int (q6.1 + (q6.2 174 (((((8 : Int32) * a5) + a7)).toNatClampNeg)))] [.int a6] q6.2 (fun _ => rfl) ?_
          rcases am_ite h with ⟨q8, h⟩ | ⟨q8, h⟩
          · refine am_Ex.if_eq_t rfl q8 ?_
            exact e_fM_tours_187 d hk84 hk96 hk122 h
          · refine am_Ex.if_eq_f rfl q8 ?_
            refine am_Ex.seg 2 184 [.ref 108, w1, .int a2, .int a3, .int a4, .int a5, .int a6, .int a7, .int (q6.1 + (q6.2 174 (((((8 : Int32) * a5) + a7)).toNatClampNeg)))] [.int a4, .int (q6.1 + (q6.2 174 (((((8 : Int32) * a5) + a7)).toNatClampNeg)))] q6.2 (fun _ => rfl) ?_
            rcases am_ite h with ⟨q9, h⟩ | ⟨q9, h⟩
            · refine am_Ex.icmp_ge_t rfl q9 ?_
              refine am_Ex.seg 1 194 [.ref 108, w1, .int a2, .int a3, .int a4, .int a5, .int a6, .int a7, .int (q6.1 + (q6.2 174 (((((8 : Int32) * a5) + a7)).toNatClampNeg)))] [.int a4] q6.2 (fun _ => rfl) ?_
              exact e_fM_tours_194 d hk84 hk96 hk122 h
            · refine am_Ex.icmp_ge_f rfl q9 ?_
              exact e_fM_tours_187 d hk84 hk96 hk122 h
        · refine am_Ex.if_ne_f rfl (Decidable.not_not.mp q5) ?_
          refine am_Ex.goto rfl ?_
          exact e_fM_tours_199 d hk84 hk96 hk122 h
set_option maxRecDepth 20000 in
theorem e_fM_tours_96 (d : Nat) {k84 : Int32 → am_Mu → Option (am_Mu)} (hk84 : ∀ {a2 : Int32} {w1 w3 w4 w5 w6 w7 w8 : Value} {μ : am_Mu} {out : am_Mu}, k84 a2 μ = some out → am_Ex none (d + 2) 233 84 [.ref 108, w1, .int a2, w3, w4, w5, w6, w7, w8] [] am_SH μ (none, am_SH, out)) : ∀ n : Nat, ∀ {a2 : Int32} {a3 : Int32} {w1 w4 w5 w6 w7 w8 : Value} {μ : am_Mu} {out : am_Mu}, fM_tours_96 n k84 a2 a3 μ = some out → am_Ex none (d + 2) 233 96 [.ref 108, w1, .int a2, .int a3, w4, w5, w6, w7, w8] [] am_SH μ (none, am_SH, out) := by
  intro n
  induction n with
  | zero => intros; contradiction
  | succ n ih =>
    have hk96 : ∀ {a2 : Int32} {a3 : Int32} {w1 w4 w5 w6 w7 w8 : Value} {μ : am_Mu} {out : am_Mu}, (fM_tours_96 n k84) a2 a3 μ = some out → am_Ex none (d + 2) 233 96 [.ref 108, w1, .int a2, .int a3, w4, w5, w6, w7, w8] [] am_SH μ (none, am_SH, out) := ih
    intro a2 a3 w1 w4 w5 w6 w7 w8 μ out h
    unfold fM_tours_96 at h
    refine am_Ex.seg 3 101 [.ref 108, w1, .int a2, .int a3, w4, w5, w6, w7, w8] [.int (μ 108 88), .int a3] μ (fun _ => rfl) ?_
    rcases am_ite h with ⟨q1, h⟩ | ⟨q1, h⟩
    · refine am_Ex.icmp_ge_t rfl q1 ?_
      exact e_fM_tours_224 d hk84 h
    · refine am_Ex.icmp_ge_f rfl q1 ?_
      refine am_Ex.seg 14 122 [.ref 108, w1, .int a2, .int a3, .int 0, .int (a2 &&& (((1 : Int32) <<< (a3 &&& 31)) ^^^ (-1))), .int 0, .int 0, w8] [] μ (fun _ => rfl) ?_
      exact e_fM_tours_122 d hk84 hk96 am_F h
set_option maxRecDepth 20000 in
theorem e_fM_tours_84 (d : Nat) : ∀ n : Nat, ∀ {a2 : Int32} {w1 w3 w4 w5 w6 w7 w8 : Value} {μ : am_Mu} {out : am_Mu}, fM_tours_84 n a2 μ = some out → am_Ex none (d + 2) 233 84 [.ref 108, w1, .int a2, w3, w4, w5, w6, w7, w8] [] am_SH μ (none, am_SH, out) := by
  intro n
  induction n with
  | zero => intros; contradiction
  | succ n ih =>
    have hk84 : ∀ {a2 : Int32} {w1 w3 w4 w5 w6 w7 w8 : Value} {μ : am_Mu} {out : am_Mu}, (fM_tours_84 n) a2 μ = some out → am_Ex none (d + 2) 233 84 [.ref 108, w1, .int a2, w3, w4, w5, w6, w7, w8] [] am_SH μ (none, am_SH, out) := ih
    intro a2 w1 w3 w4 w5 w6 w7 w8 μ out h
    unfold fM_tours_84 at h
    refine am_Ex.seg 5 91 [.ref 108, w1, .int a2, w3, w4, w5, w6, w7, w8] [.int ((1 : Int32) <<< ((μ 108 88) &&& 31)), .int a2] μ (fun _ => rfl) ?_
    rcases am_ite h with ⟨q1, h⟩ | ⟨q1, h⟩
    · refine am_Ex.icmp_ge_t rfl q1 ?_
      cases h
      exact am_Ex.vret rfl rfl
    · refine am_Ex.icmp_ge_f rfl q1 ?_
      refine am_Ex.seg 2 96 [.ref 108, w1, .int a2, .int 0, w4, w5, w6, w7, w8] [] μ (fun _ => rfl) ?_
      exact e_fM_tours_96 d hk84 am_F h
set_option maxRecDepth 20000 in
theorem e_fM_tours_82 (d : Nat) : ∀ {w1 w2 w3 w4 w5 w6 w7 w8 : Value} {μ : am_Mu} {out : am_Mu}, fM_tours_82 μ = some out → am_Ex none (d + 2) 233 82 [.ref 108, w1, w2, w3, w4, w5, w6, w7, w8] [] am_SH μ (none, am_SH, out) := by
  intro w1 w2 w3 w4 w5 w6 w7 w8 μ out h
  unfold fM_tours_82 at h
  refine am_Ex.seg 2 84 [.ref 108, w1, .int 1, w3, w4, w5, w6, w7, w8] [] μ (fun _ => rfl) ?_
  exact e_fM_tours_84 d am_F h
set_option maxRecDepth 20000 in
theorem e_fM_tours_76 (d : Nat) {k7 : Int32 → Int32 → am_Mu → Option (am_Mu)} (hk7 : ∀ {a1 : Int32} {a2 : Int32} {w3 w4 w5 w6 w7 w8 : Value} {μ : am_Mu} {out : am_Mu}, k7 a1 a2 μ = some out → am_Ex none (d + 2) 233 7 [.ref 108, .int a1, .int a2, w3, w4, w5, w6, w7, w8] [] am_SH μ (none, am_SH, out)) : ∀ {a1 : Int32} {a2 : Int32} {w3 w4 w5 w6 w7 w8 : Value} {μ : am_Mu} {out : am_Mu}, fM_tours_76 k7 a1 a2 μ = some out → am_Ex none (d + 2) 233 76 [.ref 108, .int a1, .int a2, w3, w4, w5, w6, w7, w8] [] am_SH μ (none, am_SH, out) := by
  intro a1 a2 w3 w4 w5 w6 w7 w8 μ out h
  unfold fM_tours_76 at h
  refine am_Ex.seg 1 79 [.ref 108, .int a1, .int (a2 + 1), w3, w4, w5, w6, w7, w8] [] μ (fun _ => rfl) ?_
  refine am_Ex.goto rfl ?_
  exact hk7 h
set_option maxRecDepth 20000 in
theorem e_fM_tours_7 (d : Nat) : ∀ n : Nat, ∀ {a1 : Int32} {a2 : Int32} {w3 w4 w5 w6 w7 w8 : Value} {μ : am_Mu} {out : am_Mu}, fM_tours_7 n a1 a2 μ = some out → am_Ex none (d + 2) 233 7 [.ref 108, .int a1, .int a2, w3, w4, w5, w6, w7, w8] [] am_SH μ (none, am_SH, out) := by
  intro n
  induction n with
  | zero => intros; contradiction
  | succ n ih =>
    have hk7 : ∀ {a1 : Int32} {a2 : Int32} {w3 w4 w5 w6 w7 w8 : Value} {μ : am_Mu} {out : am_Mu}, (fM_tours_7 n) a1 a2 μ = some out → am_Ex none (d + 2) 233 7 [.ref 108, .int a1, .int a2, w3, w4, w5, w6, w7, w8] [] am_SH μ (none, am_SH, out) := ih
    intro a1 a2 w3 w4 w5 w6 w7 w8 μ out h
    unfold fM_tours_7 at h
    refine am_Ex.seg 3 12 [.ref 108, .int a1, .int a2, w3, w4, w5, w6, w7, w8] [.int (μ 108 7), .int a2] μ (fun _ => rfl) ?_
    rcases am_ite h with ⟨q1, h⟩ | ⟨q1, h⟩
    · refine am_Ex.icmp_ge_t rfl q1 ?_
      exact e_fM_tours_82 d h
    · refine am_Ex.icmp_ge_f rfl q1 ?_
      refine am_Ex.seg 2 17 [.ref 108, .int a1, .int a2, w3, w4, w5, w6, w7, w8] [.int a2, .ref 108] μ (fun _ => rfl) ?_
      obtain ⟨q2, h_q2, h⟩ := am_bind h
      refine am_Ex.ivk (na := 2) (b := 108) (As' := [.int a2]) rfl rfl rfl rfl rfl rfl rfl rfl rfl (e_fM_latest (d + 1) h_q2) ?_
      refine am_Ex.same 20 [.ref 108, .int a1, .int a2, w3, w4, w5, w6, w7, w8] [.int q2.1] q2.2 rfl ?_
      refine am_Ex.seg 3 23 [.ref 108, .int a1, .int a2, .int q2.1, w4, w5, w6, w7, w8] [.int (-1), .int q2.1] q2.2 (fun _ => rfl) ?_
      rcases am_ite h with ⟨q3, h⟩ | ⟨q3, h⟩
      · refine am_Ex.icmp_eq_t rfl q3 ?_
        exact e_fM_tours_76 d hk7 h
      · refine am_Ex.icmp_eq_f rfl q3 ?_
        refine am_Ex.seg 3 31 [.ref 108, .int a1, .int a2, .int q2.1, w4, w5, w6, w7, w8] [.int q2.1, .ref 170] q2.2 (fun _ => rfl) ?_
        obtain ⟨q4, h⟩ := am_bif h
        refine am_Ex.iald (v := (q2.2 170 ((q2.1).toNatClampNeg))) rfl rfl q4 rfl ?_
        refine am_Ex.seg 1 33 [.ref 108, .int a1, .int a2, .int q2.1, w4, w5, w6, w7, w8] [.int a1, .int (q2.2 170 ((q2.1).toNatClampNeg))] q2.2 (fun _ => rfl) ?_
        rcases am_ite h with ⟨q5, h⟩ | ⟨q5, h⟩
        · refine am_Ex.icmp_ne_t rfl q5 ?_
          exact e_fM_tours_76 d hk7 h
        · refine am_Ex.icmp_ne_f rfl (Decidable.not_not.mp q5) ?_
          refine am_Ex.seg 3 41 [.ref 108, .int a1, .int a2, .int q2.1, w4, w5, w6, w7, w8] [.int q2.1, .ref 171] q2.2 (fun _ => rfl) ?_
          refine am_Ex.iald (v := (q2.2 171 ((q2.1).toNatClampNeg))) rfl rfl q4 rfl ?_
          refine am_Ex.seg 3 49 [.ref 108, .int a1, .int a2, .int q2.1, w4, w5, w6, w7, w8] [.int 1440, .int (q2.2 108 2), .int (q2.2 171 ((q2.1).toNatClampNeg))] q2.2 (fun _ => rfl) ?_
          refine am_Ex.idiv rfl (by decide) ?_
          rcases am_ite h with ⟨q6, h⟩ | ⟨q6, h⟩
          · refine am_Ex.icmp_eq_t rfl q6 ?_
            refine am_Ex.seg 5 65 [.ref 108, .int a1, .int a2, .int q2.1, w4, w5, w6, w7, w8] [.int a2, .int (q2.2 108 88), .ref 173] q2.2 (fun _ => rfl) ?_
            obtain ⟨q7, h⟩ := am_bif h
            refine am_Ex.iast (v2 := a2) (i2 := ((q2.2 108 88)).toNatClampNeg) rfl rfl q7 rfl rfl ?_
            refine am_Ex.seg 6 76 [.ref 108, .int a1, .int a2, .int q2.1, w4, w5, w6, w7, w8] [] (am_up (am_up q2.2 173 (((q2.2 108 88)).toNatClampNeg) a2) 108 88 ((q2.2 108 88) + 1)) (fun _ => rfl) ?_
            exact e_fM_tours_76 d hk7 h
          · refine am_Ex.icmp_eq_f rfl q6 ?_
            refine am_Ex.goto rfl ?_
            exact e_fM_tours_76 d hk7 h
set_option maxRecDepth 20000 in
theorem e_fM_tours (d : Nat) : ∀ {a1 : Int32} {μ : am_Mu} {out : am_Mu}, fM_tours a1 μ = some out → am_Ex none (d + 2) 233 0 [.ref 108, .int a1, .null, .null, .null, .null, .null, .null, .null] [] am_SH μ (none, am_SH, out) := by
  intro a1 μ out h
  unfold fM_tours at h
  refine am_Ex.seg 5 7 [.ref 108, .int a1, .int 0, .null, .null, .null, .null, .null, .null] [] (am_up μ 108 88 0) (fun _ => rfl) ?_
  exact e_fM_tours_7 d am_F h
def fM_beginsAt_57 (k3 : Int32 → Int32 → Int32 → Int32 → am_Mu → Option (Int32 × am_Mu)) (a1 : Int32) (a2 : Int32) (a3 : Int32) (a4 : Int32) (μ : am_Mu) : Option (Int32 × am_Mu) := k3 a1 a2 a3 (a4 + 1) μ
def fM_beginsAt_49 (k3 : Int32 → Int32 → Int32 → Int32 → am_Mu → Option (Int32 × am_Mu)) (a1 : Int32) (a2 : Int32) (a3 : Int32) (a4 : Int32) (s0 : Int32) (s1 : Int32) (μ : am_Mu) : Option (Int32 × am_Mu) := (if ¬ (s0 + s1) = a2 then fM_beginsAt_57 k3 a1 a2 a3 a4 μ else some (a4, μ))
def fM_beginsAt_3 : Nat → Int32 → Int32 → Int32 → Int32 → am_Mu → Option (Int32 × am_Mu)
  | 0, _, _, _, _, _ => none
  | n + 1, a1, a2, a3, a4, μ => (if (μ 108 88) ≤ a4 then some ((-1), μ) else ((fM_has a1 a4 μ).bind fun q2 => (if q2.1 = 0 then fM_beginsAt_57 (fM_beginsAt_3 n) a1 a2 a3 a4 q2.2 else (bif am_inb (((8 : Int32) * a1) + a4) 2048 then (if ¬ a3 = (-1) then ((fM_way0 a3 a4 q2.2).bind fun q6 => fM_beginsAt_49 (fM_beginsAt_3 n) a1 a2 a3 a4 (q2.2 174 (((((8 : Int32) * a1) + a4)).toNatClampNeg)) q6.1 q6.2) else fM_beginsAt_49 (fM_beginsAt_3 n) a1 a2 a3 a4 (q2.2 174 (((((8 : Int32) * a1) + a4)).toNatClampNeg)) 0 q2.2) else none))))
def fM_beginsAt (a1 : Int32) (a2 : Int32) (a3 : Int32) (μ : am_Mu) : Option (Int32 × am_Mu) := fM_beginsAt_3 am_F a1 a2 a3 0 μ
set_option maxRecDepth 20000 in
theorem e_fM_beginsAt_57 (d : Nat) {k3 : Int32 → Int32 → Int32 → Int32 → am_Mu → Option (Int32 × am_Mu)} (hk3 : ∀ {a1 : Int32} {a2 : Int32} {a3 : Int32} {a4 : Int32} {μ : am_Mu} {out : Int32 × am_Mu}, k3 a1 a2 a3 a4 μ = some out → am_Ex none (d + 2) 234 3 [.ref 108, .int a1, .int a2, .int a3, .int a4] [] am_SH μ (some (.int out.1), am_SH, out.2)) : ∀ {a1 : Int32} {a2 : Int32} {a3 : Int32} {a4 : Int32} {μ : am_Mu} {out : Int32 × am_Mu}, fM_beginsAt_57 k3 a1 a2 a3 a4 μ = some out → am_Ex none (d + 2) 234 57 [.ref 108, .int a1, .int a2, .int a3, .int a4] [] am_SH μ (some (.int out.1), am_SH, out.2) := by
  intro a1 a2 a3 a4 μ out h
  unfold fM_beginsAt_57 at h
  refine am_Ex.seg 1 60 [.ref 108, .int a1, .int a2, .int a3, .int (a4 + 1)] [] μ (fun _ => rfl) ?_
  refine am_Ex.goto rfl ?_
  exact hk3 h
set_option maxRecDepth 20000 in
theorem e_fM_beginsAt_49 (d : Nat) {k3 : Int32 → Int32 → Int32 → Int32 → am_Mu → Option (Int32 × am_Mu)} (hk3 : ∀ {a1 : Int32} {a2 : Int32} {a3 : Int32} {a4 : Int32} {μ : am_Mu} {out : Int32 × am_Mu}, k3 a1 a2 a3 a4 μ = some out → am_Ex none (d + 2) 234 3 [.ref 108, .int a1, .int a2, .int a3, .int a4] [] am_SH μ (some (.int out.1), am_SH, out.2)) : ∀ {a1 : Int32} {a2 : Int32} {a3 : Int32} {a4 : Int32} {s0 : Int32} {s1 : Int32} {μ : am_Mu} {out : Int32 × am_Mu}, fM_beginsAt_49 k3 a1 a2 a3 a4 s0 s1 μ = some out → am_Ex none (d + 2) 234 49 [.ref 108, .int a1, .int a2, .int a3, .int a4] [.int s1, .int s0] am_SH μ (some (.int out.1), am_SH, out.2) := by
  intro a1 a2 a3 a4 s0 s1 μ out h
  unfold fM_beginsAt_49 at h
  refine am_Ex.seg 2 51 [.ref 108, .int a1, .int a2, .int a3, .int a4] [.int a2, .int (s0 + s1)] μ (fun _ => rfl) ?_
  rcases am_ite h with ⟨q1, h⟩ | ⟨q1, h⟩
  · refine am_Ex.icmp_ne_t rfl q1 ?_
    exact e_fM_beginsAt_57 d hk3 h
  · refine am_Ex.icmp_ne_f rfl (Decidable.not_not.mp q1) ?_
    refine am_Ex.seg 1 56 [.ref 108, .int a1, .int a2, .int a3, .int a4] [.int a4] μ (fun _ => rfl) ?_
    cases h
    exact am_Ex.iret rfl rfl
set_option maxRecDepth 20000 in
theorem e_fM_beginsAt_3 (d : Nat) : ∀ n : Nat, ∀ {a1 : Int32} {a2 : Int32} {a3 : Int32} {a4 : Int32} {μ : am_Mu} {out : Int32 × am_Mu}, fM_beginsAt_3 n a1 a2 a3 a4 μ = some out → am_Ex none (d + 2) 234 3 [.ref 108, .int a1, .int a2, .int a3, .int a4] [] am_SH μ (some (.int out.1), am_SH, out.2) := by
  intro n
  induction n with
  | zero => intros; contradiction
  | succ n ih =>
    have hk3 : ∀ {a1 : Int32} {a2 : Int32} {a3 : Int32} {a4 : Int32} {μ : am_Mu} {out : Int32 × am_Mu}, (fM_beginsAt_3 n) a1 a2 a3 a4 μ = some out → am_Ex none (d + 2) 234 3 [.ref 108, .int a1, .int a2, .int a3, .int a4] [] am_SH μ (some (.int out.1), am_SH, out.2) := ih
    intro a1 a2 a3 a4 μ out h
    unfold fM_beginsAt_3 at h
    refine am_Ex.seg 3 9 [.ref 108, .int a1, .int a2, .int a3, .int a4] [.int (μ 108 88), .int a4] μ (fun _ => rfl) ?_
    rcases am_ite h with ⟨q1, h⟩ | ⟨q1, h⟩
    · refine am_Ex.icmp_ge_t rfl q1 ?_
      refine am_Ex.seg 1 64 [.ref 108, .int a1, .int a2, .int a3, .int a4] [.int (-1)] μ (fun _ => rfl) ?_
      cases h
      exact am_Ex.iret rfl rfl
    · refine am_Ex.icmp_ge_f rfl q1 ?_
      refine am_Ex.seg 2 15 [.ref 108, .int a1, .int a2, .int a3, .int a4] [.int a4, .int a1] μ (fun _ => rfl) ?_
      obtain ⟨q2, h_q2, h⟩ := am_bind h
      refine am_Ex.isk (na := 2) rfl (As := [.int a1, .int a4]) rfl rfl rfl rfl rfl rfl (e_fM_has (d + 1) h_q2) ?_
      refine am_Ex.same 18 [.ref 108, .int a1, .int a2, .int a3, .int a4] [.int q2.1] q2.2 rfl ?_
      rcases am_ite h with ⟨q3, h⟩ | ⟨q3, h⟩
      · refine am_Ex.if_eq_t rfl q3 ?_
        exact e_fM_beginsAt_57 d hk3 h
      · refine am_Ex.if_eq_f rfl q3 ?_
        refine am_Ex.seg 7 32 [.ref 108, .int a1, .int a2, .int a3, .int a4] [.int (((8 : Int32) * a1) + a4), .ref 174] q2.2 (fun _ => rfl) ?_
        obtain ⟨q4, h⟩ := am_bif h
        refine am_Ex.iald (v := (q2.2 174 (((((8 : Int32) * a1) + a4)).toNatClampNeg))) rfl rfl q4 rfl ?_
        refine am_Ex.seg 2 35 [.ref 108, .int a1, .int a2, .int a3, .int a4] [.int (-1), .int a3, .int (q2.2 174 (((((8 : Int32) * a1) + a4)).toNatClampNeg))] q2.2 (fun _ => rfl) ?_
        rcases am_ite h with ⟨q5, h⟩ | ⟨q5, h⟩
        · refine am_Ex.icmp_ne_t rfl q5 ?_
          refine am_Ex.seg 3 46 [.ref 108, .int a1, .int a2, .int a3, .int a4] [.int a4, .int a3, .ref 108, .int (q2.2 174 (((((8 : Int32) * a1) + a4)).toNatClampNeg))] q2.2 (fun _ => rfl) ?_
          obtain ⟨q6, h_q6, h⟩ := am_bind h
          refine am_Ex.ivk (na := 3) (b := 108) (As' := [.int a3, .int a4]) rfl rfl rfl rfl rfl rfl rfl rfl rfl (e_fM_way0 (d + 0) h_q6) ?_
          refine am_Ex.same 49 [.ref 108, .int a1, .int a2, .int a3, .int a4] [.int q6.1, .int (q2.2 174 (((((8 : Int32) * a1) + a4)).toNatClampNeg))] q6.2 rfl ?_
          exact e_fM_beginsAt_49 d hk3 h
        · refine am_Ex.icmp_ne_f rfl (Decidable.not_not.mp q5) ?_
          refine am_Ex.seg 1 39 [.ref 108, .int a1, .int a2, .int a3, .int a4] [.int 0, .int (q2.2 174 (((((8 : Int32) * a1) + a4)).toNatClampNeg))] q2.2 (fun _ => rfl) ?_
          refine am_Ex.goto rfl ?_
          exact e_fM_beginsAt_49 d hk3 h
set_option maxRecDepth 20000 in
theorem e_fM_beginsAt (d : Nat) : ∀ {a1 : Int32} {a2 : Int32} {a3 : Int32} {μ : am_Mu} {out : Int32 × am_Mu}, fM_beginsAt a1 a2 a3 μ = some out → am_Ex none (d + 2) 234 0 [.ref 108, .int a1, .int a2, .int a3, .null] [] am_SH μ (some (.int out.1), am_SH, out.2) := by
  intro a1 a2 a3 μ out h
  unfold fM_beginsAt at h
  refine am_Ex.seg 2 3 [.ref 108, .int a1, .int a2, .int a3, .int 0] [] μ (fun _ => rfl) ?_
  exact e_fM_beginsAt_3 d am_F h
def fM_length_21 : Nat → Int32 → Int32 → Int32 → am_Mu → Option (Int32 × am_Mu)
  | 0, _, _, _, _ => none
  | n + 1, a1, a2, a3, μ => (if (μ 108 88) ≤ a3 then some (a2, μ) else (bif am_inb (((8 : Int32) * a1) + a3) 2048 then ((fM_least a2 (μ 174 (((((8 : Int32) * a1) + a3)).toNatClampNeg)) μ).bind fun q3 => (fM_length_21 n) a1 q3.1 (a3 + 1) q3.2) else none))
def fM_length (μ : am_Mu) : Option (Int32 × am_Mu) := (bif am_inb ((8 : Int32) * (((1 : Int32) <<< ((μ 108 88) &&& 31)) - 1)) 2048 then fM_length_21 am_F (((1 : Int32) <<< ((μ 108 88) &&& 31)) - 1) (μ 174 ((((8 : Int32) * (((1 : Int32) <<< ((μ 108 88) &&& 31)) - 1))).toNatClampNeg)) 1 μ else none)
set_option maxRecDepth 20000 in
theorem e_fM_length_21 (d : Nat) : ∀ n : Nat, ∀ {a1 : Int32} {a2 : Int32} {a3 : Int32} {μ : am_Mu} {out : Int32 × am_Mu}, fM_length_21 n a1 a2 a3 μ = some out → am_Ex none (d + 1) 235 21 [.ref 108, .int a1, .int a2, .int a3] [] am_SH μ (some (.int out.1), am_SH, out.2) := by
  intro n
  induction n with
  | zero => intros; contradiction
  | succ n ih =>
    have hk21 : ∀ {a1 : Int32} {a2 : Int32} {a3 : Int32} {μ : am_Mu} {out : Int32 × am_Mu}, (fM_length_21 n) a1 a2 a3 μ = some out → am_Ex none (d + 1) 235 21 [.ref 108, .int a1, .int a2, .int a3] [] am_SH μ (some (.int out.1), am_SH, out.2) := ih
    intro a1 a2 a3 μ out h
    unfold fM_length_21 at h
    refine am_Ex.seg 3 26 [.ref 108, .int a1, .int a2, .int a3] [.int (μ 108 88), .int a3] μ (fun _ => rfl) ?_
    rcases am_ite h with ⟨q1, h⟩ | ⟨q1, h⟩
    · refine am_Ex.icmp_ge_t rfl q1 ?_
      refine am_Ex.seg 1 52 [.ref 108, .int a1, .int a2, .int a3] [.int a2] μ (fun _ => rfl) ?_
      cases h
      exact am_Ex.iret rfl rfl
    · refine am_Ex.icmp_ge_f rfl q1 ?_
      refine am_Ex.seg 8 40 [.ref 108, .int a1, .int a2, .int a3] [.int (((8 : Int32) * a1) + a3), .ref 174, .int a2] μ (fun _ => rfl) ?_
      obtain ⟨q2, h⟩ := am_bif h
      refine am_Ex.iald (v := (μ 174 (((((8 : Int32) * a1) + a3)).toNatClampNeg))) rfl rfl q2 rfl ?_
      obtain ⟨q3, h_q3, h⟩ := am_bind h
      refine am_Ex.isk (na := 2) rfl (As := [.int a2, .int (μ 174 (((((8 : Int32) * a1) + a3)).toNatClampNeg))]) rfl rfl rfl rfl rfl rfl (e_fM_least (d + 0) h_q3) ?_
      refine am_Ex.same 44 [.ref 108, .int a1, .int a2, .int a3] [.int q3.1] q3.2 rfl ?_
      refine am_Ex.seg 2 48 [.ref 108, .int a1, .int q3.1, .int (a3 + 1)] [] q3.2 (fun _ => rfl) ?_
      refine am_Ex.goto rfl ?_
      exact hk21 h
set_option maxRecDepth 20000 in
theorem e_fM_length (d : Nat) : ∀ {μ : am_Mu} {out : Int32 × am_Mu}, fM_length μ = some out → am_Ex none (d + 1) 235 0 [.ref 108, .null, .null, .null] [] am_SH μ (some (.int out.1), am_SH, out.2) := by
  intro μ out h
  unfold fM_length at h
  refine am_Ex.seg 12 17 [.ref 108, .int (((1 : Int32) <<< ((μ 108 88) &&& 31)) - 1), .null, .null] [.int ((8 : Int32) * (((1 : Int32) <<< ((μ 108 88) &&& 31)) - 1)), .ref 174] μ (fun _ => rfl) ?_
  obtain ⟨q1, h⟩ := am_bif h
  refine am_Ex.iald (v := (μ 174 ((((8 : Int32) * (((1 : Int32) <<< ((μ 108 88) &&& 31)) - 1))).toNatClampNeg))) rfl rfl q1 rfl ?_
  refine am_Ex.seg 3 21 [.ref 108, .int (((1 : Int32) <<< ((μ 108 88) &&& 31)) - 1), .int (μ 174 ((((8 : Int32) * (((1 : Int32) <<< ((μ 108 88) &&& 31)) - 1))).toNatClampNeg)), .int 1] [] μ (fun _ => rfl) ?_
  exact e_fM_length_21 d am_F h
def fM_tour (a1 : Int32) (μ : am_Mu) : Option (Int32 × am_Mu) := ((fM_lies a1 0 ((μ 108 10) - 1) μ).bind fun q1 => (if ¬ q1.1 = 0 then ((fM_tours a1 q1.2).bind fun q3 => (if ¬ (q3 108 88) = 0 then ((fM_length q3).bind fun q5 => some (q5.1, q5.2)) else some ((-1), q3))) else some ((-1), q1.2)))
set_option maxRecDepth 20000 in
theorem e_fM_tour (d : Nat) : ∀ {a1 : Int32} {μ : am_Mu} {out : Int32 × am_Mu}, fM_tour a1 μ = some out → am_Ex none (d + 3) 236 0 [.ref 108, .int a1] [] am_SH μ (some (.int out.1), am_SH, out.2) := by
  intro a1 μ out h
  unfold fM_tour at h
  refine am_Ex.seg 6 8 [.ref 108, .int a1] [.int ((μ 108 10) - 1), .int 0, .int a1] μ (fun _ => rfl) ?_
  obtain ⟨q1, h_q1, h⟩ := am_bind h
  refine am_Ex.isk (na := 3) rfl (As := [.int a1, .int 0, .int ((μ 108 10) - 1)]) rfl rfl rfl rfl rfl rfl (e_fM_lies (d + 2) h_q1) ?_
  refine am_Ex.same 11 [.ref 108, .int a1] [.int q1.1] q1.2 rfl ?_
  rcases am_ite h with ⟨q2, h⟩ | ⟨q2, h⟩
  · refine am_Ex.if_ne_t rfl q2 ?_
    refine am_Ex.seg 2 18 [.ref 108, .int a1] [.int a1, .ref 108] q1.2 (fun _ => rfl) ?_
    obtain ⟨q3, h_q3, h⟩ := am_bind h
    refine am_Ex.ivk (na := 2) (b := 108) (As' := [.int a1]) rfl rfl rfl rfl rfl rfl rfl rfl rfl (e_fM_tours (d + 0) h_q3) ?_
    refine am_Ex.same 21 [.ref 108, .int a1] [] q3 rfl ?_
    refine am_Ex.seg 2 25 [.ref 108, .int a1] [.int (q3 108 88)] q3 (fun _ => rfl) ?_
    rcases am_ite h with ⟨q4, h⟩ | ⟨q4, h⟩
    · refine am_Ex.if_ne_t rfl q4 ?_
      refine am_Ex.seg 1 33 [.ref 108, .int a1] [.ref 108] q3 (fun _ => rfl) ?_
      obtain ⟨q5, h_q5, h⟩ := am_bind h
      refine am_Ex.ivk (na := 1) (b := 108) (As' := []) rfl rfl rfl rfl rfl rfl rfl rfl rfl (e_fM_length (d + 1) h_q5) ?_
      refine am_Ex.same 36 [.ref 108, .int a1] [.int q5.1] q5.2 rfl ?_
      cases h
      exact am_Ex.iret rfl rfl
    · refine am_Ex.if_ne_f rfl (Decidable.not_not.mp q4) ?_
      refine am_Ex.seg 1 29 [.ref 108, .int a1] [.int (-1)] q3 (fun _ => rfl) ?_
      refine am_Ex.goto rfl ?_
      cases h
      exact am_Ex.iret rfl rfl
  · refine am_Ex.if_ne_f rfl (Decidable.not_not.mp q2) ?_
    refine am_Ex.seg 1 15 [.ref 108, .int a1] [.int (-1)] q1.2 (fun _ => rfl) ?_
    cases h
    exact am_Ex.iret rfl rfl
def fM_stop_105 (a4 : Int32) (μ : am_Mu) : Option (Int32 × am_Mu) := (bif am_inb a4 8 then some ((μ 173 ((a4).toNatClampNeg)), μ) else none)
def fM_stop_59 : Nat → Int32 → Int32 → Int32 → Int32 → am_Mu → Option (Int32 × am_Mu)
  | 0, _, _, _, _, _ => none
  | n + 1, a2, a3, a4, a5, μ => (if a2 ≤ a5 then fM_stop_105 a4 μ else (bif am_inb (((8 : Int32) * a3) + a4) 2048 then ((fM_beginsAt (a3 &&& (((1 : Int32) <<< (a4 &&& 31)) ^^^ (-1))) (μ 174 (((((8 : Int32) * a3) + a4)).toNatClampNeg)) a4 μ).bind fun q3 => (fM_stop_59 n) a2 (a3 &&& (((1 : Int32) <<< (a4 &&& 31)) ^^^ (-1))) q3.1 (a5 + 1) q3.2) else none))
def fM_stop (a1 : Int32) (a2 : Int32) (μ : am_Mu) : Option (Int32 × am_Mu) := ((fM_lies a1 0 ((μ 108 10) - 1) μ).bind fun q1 => (if q1.1 = 0 then some ((-1), q1.2) else (if 0 ≤ a2 then ((fM_tours a1 q1.2).bind fun q4 => (if a2 < (q4 108 88) then ((fM_length q4).bind fun q6 => ((fM_beginsAt (((1 : Int32) <<< ((q4 108 88) &&& 31)) - 1) q6.1 (-1) q6.2).bind fun q7 => fM_stop_59 am_F a2 (((1 : Int32) <<< ((q4 108 88) &&& 31)) - 1) q7.1 0 q7.2)) else some ((-1), q4))) else some ((-1), q1.2))))
set_option maxRecDepth 20000 in
theorem e_fM_stop_105 (d : Nat) : ∀ {a4 : Int32} {w1 w2 w3 w5 w6 : Value} {μ : am_Mu} {out : Int32 × am_Mu}, fM_stop_105 a4 μ = some out → am_Ex none (d + 3) 237 105 [.ref 108, w1, w2, w3, .int a4, w5, w6] [] am_SH μ (some (.int out.1), am_SH, out.2) := by
  intro a4 w1 w2 w3 w5 w6 μ out h
  unfold fM_stop_105 at h
  refine am_Ex.seg 3 111 [.ref 108, w1, w2, w3, .int a4, w5, w6] [.int a4, .ref 173] μ (fun _ => rfl) ?_
  obtain ⟨q1, h⟩ := am_bif h
  refine am_Ex.iald (v := (μ 173 ((a4).toNatClampNeg))) rfl rfl q1 rfl ?_
  cases h
  exact am_Ex.iret rfl rfl
set_option maxRecDepth 20000 in
theorem e_fM_stop_59 (d : Nat) : ∀ n : Nat, ∀ {a2 : Int32} {a3 : Int32} {a4 : Int32} {a5 : Int32} {w1 w6 : Value} {μ : am_Mu} {out : Int32 × am_Mu}, fM_stop_59 n a2 a3 a4 a5 μ = some out → am_Ex none (d + 3) 237 59 [.ref 108, w1, .int a2, .int a3, .int a4, .int a5, w6] [] am_SH μ (some (.int out.1), am_SH, out.2) := by
  intro n
  induction n with
  | zero => intros; contradiction
  | succ n ih =>
    have hk59 : ∀ {a2 : Int32} {a3 : Int32} {a4 : Int32} {a5 : Int32} {w1 w6 : Value} {μ : am_Mu} {out : Int32 × am_Mu}, (fM_stop_59 n) a2 a3 a4 a5 μ = some out → am_Ex none (d + 3) 237 59 [.ref 108, w1, .int a2, .int a3, .int a4, .int a5, w6] [] am_SH μ (some (.int out.1), am_SH, out.2) := ih
    intro a2 a3 a4 a5 w1 w6 μ out h
    unfold fM_stop_59 at h
    refine am_Ex.seg 2 62 [.ref 108, w1, .int a2, .int a3, .int a4, .int a5, w6] [.int a2, .int a5] μ (fun _ => rfl) ?_
    rcases am_ite h with ⟨q1, h⟩ | ⟨q1, h⟩
    · refine am_Ex.icmp_ge_t rfl q1 ?_
      exact e_fM_stop_105 d h
    · refine am_Ex.icmp_ge_f rfl q1 ?_
      refine am_Ex.seg 7 76 [.ref 108, w1, .int a2, .int a3, .int a4, .int a5, w6] [.int (((8 : Int32) * a3) + a4), .ref 174] μ (fun _ => rfl) ?_
      obtain ⟨q2, h⟩ := am_bif h
      refine am_Ex.iald (v := (μ 174 (((((8 : Int32) * a3) + a4)).toNatClampNeg))) rfl rfl q2 rfl ?_
      refine am_Ex.seg 13 94 [.ref 108, w1, .int a2, .int (a3 &&& (((1 : Int32) <<< (a4 &&& 31)) ^^^ (-1))), .int a4, .int a5, .int (μ 174 (((((8 : Int32) * a3) + a4)).toNatClampNeg))] [.int a4, .int (μ 174 (((((8 : Int32) * a3) + a4)).toNatClampNeg)), .int (a3 &&& (((1 : Int32) <<< (a4 &&& 31)) ^^^ (-1))), .ref 108] μ (fun _ => rfl) ?_
      obtain ⟨q3, h_q3, h⟩ := am_bind h
      refine am_Ex.ivk (na := 4) (b := 108) (As' := [.int (a3 &&& (((1 : Int32) <<< (a4 &&& 31)) ^^^ (-1))), .int (μ 174 (((((8 : Int32) * a3) + a4)).toNatClampNeg)), .int a4]) rfl rfl rfl rfl rfl rfl rfl rfl rfl (e_fM_beginsAt (d + 0) h_q3) ?_
      refine am_Ex.same 97 [.ref 108, w1, .int a2, .int (a3 &&& (((1 : Int32) <<< (a4 &&& 31)) ^^^ (-1))), .int a4, .int a5, .int (μ 174 (((((8 : Int32) * a3) + a4)).toNatClampNeg))] [.int q3.1] q3.2 rfl ?_
      refine am_Ex.seg 2 102 [.ref 108, w1, .int a2, .int (a3 &&& (((1 : Int32) <<< (a4 &&& 31)) ^^^ (-1))), .int q3.1, .int (a5 + 1), .int (μ 174 (((((8 : Int32) * a3) + a4)).toNatClampNeg))] [] q3.2 (fun _ => rfl) ?_
      refine am_Ex.goto rfl ?_
      exact hk59 h
set_option maxRecDepth 20000 in
theorem e_fM_stop (d : Nat) : ∀ {a1 : Int32} {a2 : Int32} {μ : am_Mu} {out : Int32 × am_Mu}, fM_stop a1 a2 μ = some out → am_Ex none (d + 3) 237 0 [.ref 108, .int a1, .int a2, .null, .null, .null, .null] [] am_SH μ (some (.int out.1), am_SH, out.2) := by
  intro a1 a2 μ out h
  unfold fM_stop at h
  refine am_Ex.seg 6 8 [.ref 108, .int a1, .int a2, .null, .null, .null, .null] [.int ((μ 108 10) - 1), .int 0, .int a1] μ (fun _ => rfl) ?_
  obtain ⟨q1, h_q1, h⟩ := am_bind h
  refine am_Ex.isk (na := 3) rfl (As := [.int a1, .int 0, .int ((μ 108 10) - 1)]) rfl rfl rfl rfl rfl rfl (e_fM_lies (d + 2) h_q1) ?_
  refine am_Ex.same 11 [.ref 108, .int a1, .int a2, .null, .null, .null, .null] [.int q1.1] q1.2 rfl ?_
  rcases am_ite h with ⟨q2, h⟩ | ⟨q2, h⟩
  · refine am_Ex.if_eq_t rfl q2 ?_
    refine am_Ex.seg 1 19 [.ref 108, .int a1, .int a2, .null, .null, .null, .null] [.int (-1)] q1.2 (fun _ => rfl) ?_
    cases h
    exact am_Ex.iret rfl rfl
  · refine am_Ex.if_eq_f rfl q2 ?_
    refine am_Ex.seg 1 15 [.ref 108, .int a1, .int a2, .null, .null, .null, .null] [.int a2] q1.2 (fun _ => rfl) ?_
    rcases am_ite h with ⟨q3, h⟩ | ⟨q3, h⟩
    · refine am_Ex.if_ge_t rfl q3 ?_
      refine am_Ex.seg 2 22 [.ref 108, .int a1, .int a2, .null, .null, .null, .null] [.int a1, .ref 108] q1.2 (fun _ => rfl) ?_
      obtain ⟨q4, h_q4, h⟩ := am_bind h
      refine am_Ex.ivk (na := 2) (b := 108) (As' := [.int a1]) rfl rfl rfl rfl rfl rfl rfl rfl rfl (e_fM_tours (d + 0) h_q4) ?_
      refine am_Ex.same 25 [.ref 108, .int a1, .int a2, .null, .null, .null, .null] [] q4 rfl ?_
      refine am_Ex.seg 3 30 [.ref 108, .int a1, .int a2, .null, .null, .null, .null] [.int (q4 108 88), .int a2] q4 (fun _ => rfl) ?_
      rcases am_ite h with ⟨q5, h⟩ | ⟨q5, h⟩
      · refine am_Ex.icmp_lt_t rfl q5 ?_
        refine am_Ex.seg 10 47 [.ref 108, .int a1, .int a2, .int (((1 : Int32) <<< ((q4 108 88) &&& 31)) - 1), .null, .null, .null] [.ref 108, .int (((1 : Int32) <<< ((q4 108 88) &&& 31)) - 1), .ref 108] q4 (fun _ => rfl) ?_
        obtain ⟨q6, h_q6, h⟩ := am_bind h
        refine am_Ex.ivk (na := 1) (b := 108) (As' := []) rfl rfl rfl rfl rfl rfl rfl rfl rfl (e_fM_length (d + 1) h_q6) ?_
        refine am_Ex.same 50 [.ref 108, .int a1, .int a2, .int (((1 : Int32) <<< ((q4 108 88) &&& 31)) - 1), .null, .null, .null] [.int q6.1, .int (((1 : Int32) <<< ((q4 108 88) &&& 31)) - 1), .ref 108] q6.2 rfl ?_
        refine am_Ex.seg 1 51 [.ref 108, .int a1, .int a2, .int (((1 : Int32) <<< ((q4 108 88) &&& 31)) - 1), .null, .null, .null] [.int (-1), .int q6.1, .int (((1 : Int32) <<< ((q4 108 88) &&& 31)) - 1), .ref 108] q6.2 (fun _ => rfl) ?_
        obtain ⟨q7, h_q7, h⟩ := am_bind h
        refine am_Ex.ivk (na := 4) (b := 108) (As' := [.int (((1 : Int32) <<< ((q4 108 88) &&& 31)) - 1), .int q6.1, .int (-1)]) rfl rfl rfl rfl rfl rfl rfl rfl rfl (e_fM_beginsAt (d + 0) h_q7) ?_
        refine am_Ex.same 54 [.ref 108, .int a1, .int a2, .int (((1 : Int32) <<< ((q4 108 88) &&& 31)) - 1), .null, .null, .null] [.int q7.1] q7.2 rfl ?_
        refine am_Ex.seg 3 59 [.ref 108, .int a1, .int a2, .int (((1 : Int32) <<< ((q4 108 88) &&& 31)) - 1), .int q7.1, .int 0, .null] [] q7.2 (fun _ => rfl) ?_
        exact e_fM_stop_59 d am_F h
      · refine am_Ex.icmp_lt_f rfl q5 ?_
        refine am_Ex.seg 1 34 [.ref 108, .int a1, .int a2, .null, .null, .null, .null] [.int (-1)] q4 (fun _ => rfl) ?_
        cases h
        exact am_Ex.iret rfl rfl
    · refine am_Ex.if_ge_f rfl q3 ?_
      refine am_Ex.seg 1 19 [.ref 108, .int a1, .int a2, .null, .null, .null, .null] [.int (-1)] q1.2 (fun _ => rfl) ?_
      cases h
      exact am_Ex.iret rfl rfl
def fM_word (a1 : Int32) (a2 : Int32) (a3 : Int32) (a4 : Int32) (μ : am_Mu) : Option (Int32 × am_Mu) := ((fM_lies a1 0 ((μ 108 10) - 1) μ).bind fun q1 => (if q1.1 = 0 then some (0, q1.2) else ((fM_isThing a2 q1.2).bind fun q3 => (if q3.1 = 0 then some (0, q3.2) else ((fM_isMark a3 q3.2).bind fun q5 => (if ¬ q5.1 = 0 then (if a4 = 0 then (bif am_inb ((((160 : Int32) * a1) + ((8 : Int32) * a2)) + a3) 960 then some (1, (am_up q5.2 175 ((((((160 : Int32) * a1) + ((8 : Int32) * a2)) + a3)).toNatClampNeg) 2)) else none) else (bif am_inb ((((160 : Int32) * a1) + ((8 : Int32) * a2)) + a3) 960 then some (1, (am_up q5.2 175 ((((((160 : Int32) * a1) + ((8 : Int32) * a2)) + a3)).toNatClampNeg) 1)) else none)) else some (0, q5.2)))))))
set_option maxRecDepth 20000 in
theorem e_fM_word (d : Nat) : ∀ {a1 : Int32} {a2 : Int32} {a3 : Int32} {a4 : Int32} {μ : am_Mu} {out : Int32 × am_Mu}, fM_word a1 a2 a3 a4 μ = some out → am_Ex none (d + 2) 238 0 [.ref 108, .int a1, .int a2, .int a3, .int a4] [] am_SH μ (some (.int out.1), am_SH, out.2) := by
  intro a1 a2 a3 a4 μ out h
  unfold fM_word at h
  refine am_Ex.seg 6 8 [.ref 108, .int a1, .int a2, .int a3, .int a4] [.int ((μ 108 10) - 1), .int 0, .int a1] μ (fun _ => rfl) ?_
  obtain ⟨q1, h_q1, h⟩ := am_bind h
  refine am_Ex.isk (na := 3) rfl (As := [.int a1, .int 0, .int ((μ 108 10) - 1)]) rfl rfl rfl rfl rfl rfl (e_fM_lies (d + 1) h_q1) ?_
  refine am_Ex.same 11 [.ref 108, .int a1, .int a2, .int a3, .int a4] [.int q1.1] q1.2 rfl ?_
  rcases am_ite h with ⟨q2, h⟩ | ⟨q2, h⟩
  · refine am_Ex.if_eq_t rfl q2 ?_
    refine am_Ex.seg 1 30 [.ref 108, .int a1, .int a2, .int a3, .int a4] [.int 0] q1.2 (fun _ => rfl) ?_
    cases h
    exact am_Ex.zret rfl rfl (by decide)
  · refine am_Ex.if_eq_f rfl q2 ?_
    refine am_Ex.seg 2 16 [.ref 108, .int a1, .int a2, .int a3, .int a4] [.int a2, .ref 108] q1.2 (fun _ => rfl) ?_
    obtain ⟨q3, h_q3, h⟩ := am_bind h
    refine am_Ex.ivk (na := 2) (b := 108) (As' := [.int a2]) rfl rfl rfl rfl rfl rfl rfl rfl rfl (e_fM_isThing (d + 0) h_q3) ?_
    refine am_Ex.same 19 [.ref 108, .int a1, .int a2, .int a3, .int a4] [.int q3.1] q3.2 rfl ?_
    rcases am_ite h with ⟨q4, h⟩ | ⟨q4, h⟩
    · refine am_Ex.if_eq_t rfl q4 ?_
      refine am_Ex.seg 1 30 [.ref 108, .int a1, .int a2, .int a3, .int a4] [.int 0] q3.2 (fun _ => rfl) ?_
      cases h
      exact am_Ex.zret rfl rfl (by decide)
    · refine am_Ex.if_eq_f rfl q4 ?_
      refine am_Ex.seg 1 23 [.ref 108, .int a1, .int a2, .int a3, .int a4] [.int a3] q3.2 (fun _ => rfl) ?_
      obtain ⟨q5, h_q5, h⟩ := am_bind h
      refine am_Ex.isk (na := 1) rfl (As := [.int a3]) rfl rfl rfl rfl rfl rfl (e_fM_isMark (d + 0) h_q5) ?_
      refine am_Ex.same 26 [.ref 108, .int a1, .int a2, .int a3, .int a4] [.int q5.1] q5.2 rfl ?_
      rcases am_ite h with ⟨q6, h⟩ | ⟨q6, h⟩
      · refine am_Ex.if_ne_t rfl q6 ?_
        refine am_Ex.seg 12 49 [.ref 108, .int a1, .int a2, .int a3, .int a4] [.int a4, .int ((((160 : Int32) * a1) + ((8 : Int32) * a2)) + a3), .ref 175] q5.2 (fun _ => rfl) ?_
        rcases am_ite h with ⟨q7, h⟩ | ⟨q7, h⟩
        · refine am_Ex.if_eq_t rfl q7 ?_
          refine am_Ex.seg 1 57 [.ref 108, .int a1, .int a2, .int a3, .int a4] [.int 2, .int ((((160 : Int32) * a1) + ((8 : Int32) * a2)) + a3), .ref 175] q5.2 (fun _ => rfl) ?_
          obtain ⟨q8, h⟩ := am_bif h
          refine am_Ex.iast (v2 := 2) (i2 := (((((160 : Int32) * a1) + ((8 : Int32) * a2)) + a3)).toNatClampNeg) rfl rfl q8 rfl rfl ?_
          refine am_Ex.seg 1 59 [.ref 108, .int a1, .int a2, .int a3, .int a4] [.int 1] (am_up q5.2 175 ((((((160 : Int32) * a1) + ((8 : Int32) * a2)) + a3)).toNatClampNeg) 2) (fun _ => rfl) ?_
          cases h
          exact am_Ex.zret rfl rfl (by decide)
        · refine am_Ex.if_eq_f rfl q7 ?_
          refine am_Ex.seg 1 53 [.ref 108, .int a1, .int a2, .int a3, .int a4] [.int 1, .int ((((160 : Int32) * a1) + ((8 : Int32) * a2)) + a3), .ref 175] q5.2 (fun _ => rfl) ?_
          refine am_Ex.goto rfl ?_
          obtain ⟨q9, h⟩ := am_bif h
          refine am_Ex.iast (v2 := 1) (i2 := (((((160 : Int32) * a1) + ((8 : Int32) * a2)) + a3)).toNatClampNeg) rfl rfl q9 rfl rfl ?_
          refine am_Ex.seg 1 59 [.ref 108, .int a1, .int a2, .int a3, .int a4] [.int 1] (am_up q5.2 175 ((((((160 : Int32) * a1) + ((8 : Int32) * a2)) + a3)).toNatClampNeg) 1) (fun _ => rfl) ?_
          cases h
          exact am_Ex.zret rfl rfl (by decide)
      · refine am_Ex.if_ne_f rfl (Decidable.not_not.mp q6) ?_
        refine am_Ex.seg 1 30 [.ref 108, .int a1, .int a2, .int a3, .int a4] [.int 0] q5.2 (fun _ => rfl) ?_
        cases h
        exact am_Ex.zret rfl rfl (by decide)
def fM_believed_102 (a3 : Int32) (a4 : Int32) (μ : am_Mu) : Option (Int32 × am_Mu) := (if a3 ≤ ((2 : Int32) * a4) then (if a4 ≤ ((2 : Int32) * a3) then some ((-1), μ) else some (0, μ)) else some (1, μ))
def fM_believed_93 (k25 : Int32 → Int32 → Int32 → Int32 → Int32 → am_Mu → Option (Int32 × am_Mu)) (a1 : Int32) (a2 : Int32) (a3 : Int32) (a5 : Int32) (s0 : Int32) (s1 : Int32) (μ : am_Mu) : Option (Int32 × am_Mu) := k25 a1 a2 a3 (s0 + s1) (a5 + 1) μ
def fM_believed_72 (k25 : Int32 → Int32 → Int32 → Int32 → Int32 → am_Mu → Option (Int32 × am_Mu)) (a1 : Int32) (a2 : Int32) (a4 : Int32) (a5 : Int32) (a6 : Int32) (s0 : Int32) (s1 : Int32) (μ : am_Mu) : Option (Int32 × am_Mu) := (if ¬ a6 = 2 then fM_believed_93 k25 a1 a2 (s0 + s1) a5 a4 0 μ else (bif am_inb a5 6 then fM_believed_93 k25 a1 a2 (s0 + s1) a5 a4 (μ 168 ((a5).toNatClampNeg)) μ else none))
def fM_believed_25 : Nat → Int32 → Int32 → Int32 → Int32 → Int32 → am_Mu → Option (Int32 × am_Mu)
  | 0, _, _, _, _, _, _ => none
  | n + 1, a1, a2, a3, a4, a5, μ => (if (μ 108 10) ≤ a5 then fM_believed_102 a3 a4 μ else (bif am_inb ((((160 : Int32) * a5) + ((8 : Int32) * a1)) + a2) 960 then (if ¬ (μ 175 ((((((160 : Int32) * a5) + ((8 : Int32) * a1)) + a2)).toNatClampNeg)) = 1 then fM_believed_72 (fM_believed_25 n) a1 a2 a4 a5 (μ 175 ((((((160 : Int32) * a5) + ((8 : Int32) * a1)) + a2)).toNatClampNeg)) a3 0 μ else (bif am_inb a5 6 then fM_believed_72 (fM_believed_25 n) a1 a2 a4 a5 (μ 175 ((((((160 : Int32) * a5) + ((8 : Int32) * a1)) + a2)).toNatClampNeg)) a3 (μ 168 ((a5).toNatClampNeg)) μ else none)) else none))
def fM_believed (a1 : Int32) (a2 : Int32) (μ : am_Mu) : Option (Int32 × am_Mu) := ((fM_isThing a1 μ).bind fun q1 => (if q1.1 = 0 then some ((-1), q1.2) else ((fM_isMark a2 q1.2).bind fun q3 => (if ¬ q3.1 = 0 then fM_believed_25 am_F a1 a2 0 0 0 q3.2 else some ((-1), q3.2)))))
set_option maxRecDepth 20000 in
theorem e_fM_believed_102 (d : Nat) : ∀ {a3 : Int32} {a4 : Int32} {w0 w1 w2 w5 w6 : Value} {μ : am_Mu} {out : Int32 × am_Mu}, fM_believed_102 a3 a4 μ = some out → am_Ex none (d + 2) 239 102 [w0, w1, w2, .int a3, .int a4, w5, w6] [] am_SH μ (some (.int out.1), am_SH, out.2) := by
  intro a3 a4 w0 w1 w2 w5 w6 μ out h
  unfold fM_believed_102 at h
  refine am_Ex.seg 4 107 [w0, w1, w2, .int a3, .int a4, w5, w6] [.int ((2 : Int32) * a4), .int a3] μ (fun _ => rfl) ?_
  rcases am_ite h with ⟨q1, h⟩ | ⟨q1, h⟩
  · refine am_Ex.icmp_le_t rfl q1 ?_
    refine am_Ex.seg 4 119 [w0, w1, w2, .int a3, .int a4, w5, w6] [.int ((2 : Int32) * a3), .int a4] μ (fun _ => rfl) ?_
    rcases am_ite h with ⟨q2, h⟩ | ⟨q2, h⟩
    · refine am_Ex.icmp_le_t rfl q2 ?_
      refine am_Ex.seg 1 127 [w0, w1, w2, .int a3, .int a4, w5, w6] [.int (-1)] μ (fun _ => rfl) ?_
      cases h
      exact am_Ex.iret rfl rfl
    · refine am_Ex.icmp_le_f rfl q2 ?_
      refine am_Ex.seg 1 123 [w0, w1, w2, .int a3, .int a4, w5, w6] [.int 0] μ (fun _ => rfl) ?_
      refine am_Ex.goto rfl ?_
      cases h
      exact am_Ex.iret rfl rfl
  · refine am_Ex.icmp_le_f rfl q1 ?_
    refine am_Ex.seg 1 111 [w0, w1, w2, .int a3, .int a4, w5, w6] [.int 1] μ (fun _ => rfl) ?_
    refine am_Ex.goto rfl ?_
    cases h
    exact am_Ex.iret rfl rfl
set_option maxRecDepth 20000 in
theorem e_fM_believed_93 (d : Nat) {k25 : Int32 → Int32 → Int32 → Int32 → Int32 → am_Mu → Option (Int32 × am_Mu)} (hk25 : ∀ {a1 : Int32} {a2 : Int32} {a3 : Int32} {a4 : Int32} {a5 : Int32} {w6 : Value} {μ : am_Mu} {out : Int32 × am_Mu}, k25 a1 a2 a3 a4 a5 μ = some out → am_Ex none (d + 2) 239 25 [.ref 108, .int a1, .int a2, .int a3, .int a4, .int a5, w6] [] am_SH μ (some (.int out.1), am_SH, out.2)) : ∀ {a1 : Int32} {a2 : Int32} {a3 : Int32} {a5 : Int32} {s0 : Int32} {s1 : Int32} {w4 w6 : Value} {μ : am_Mu} {out : Int32 × am_Mu}, fM_believed_93 k25 a1 a2 a3 a5 s0 s1 μ = some out → am_Ex none (d + 2) 239 93 [.ref 108, .int a1, .int a2, .int a3, w4, .int a5, w6] [.int s1, .int s0] am_SH μ (some (.int out.1), am_SH, out.2) := by
  intro a1 a2 a3 a5 s0 s1 w4 w6 μ out h
  unfold fM_believed_93 at h
  refine am_Ex.seg 3 99 [.ref 108, .int a1, .int a2, .int a3, .int (s0 + s1), .int (a5 + 1), w6] [] μ (fun _ => rfl) ?_
  refine am_Ex.goto rfl ?_
  exact hk25 h
set_option maxRecDepth 20000 in
theorem e_fM_believed_72 (d : Nat) {k25 : Int32 → Int32 → Int32 → Int32 → Int32 → am_Mu → Option (Int32 × am_Mu)} (hk25 : ∀ {a1 : Int32} {a2 : Int32} {a3 : Int32} {a4 : Int32} {a5 : Int32} {w6 : Value} {μ : am_Mu} {out : Int32 × am_Mu}, k25 a1 a2 a3 a4 a5 μ = some out → am_Ex none (d + 2) 239 25 [.ref 108, .int a1, .int a2, .int a3, .int a4, .int a5, w6] [] am_SH μ (some (.int out.1), am_SH, out.2)) : ∀ {a1 : Int32} {a2 : Int32} {a4 : Int32} {a5 : Int32} {a6 : Int32} {s0 : Int32} {s1 : Int32} {w3 : Value} {μ : am_Mu} {out : Int32 × am_Mu}, fM_believed_72 k25 a1 a2 a4 a5 a6 s0 s1 μ = some out → am_Ex none (d + 2) 239 72 [.ref 108, .int a1, .int a2, w3, .int a4, .int a5, .int a6] [.int s1, .int s0] am_SH μ (some (.int out.1), am_SH, out.2) := by
  intro a1 a2 a4 a5 a6 s0 s1 w3 μ out h
  unfold fM_believed_72 at h
  refine am_Ex.seg 5 79 [.ref 108, .int a1, .int a2, .int (s0 + s1), .int a4, .int a5, .int a6] [.int 2, .int a6, .int a4] μ (fun _ => rfl) ?_
  rcases am_ite h with ⟨q1, h⟩ | ⟨q1, h⟩
  · refine am_Ex.icmp_ne_t rfl q1 ?_
    refine am_Ex.seg 1 93 [.ref 108, .int a1, .int a2, .int (s0 + s1), .int a4, .int a5, .int a6] [.int 0, .int a4] μ (fun _ => rfl) ?_
    exact e_fM_believed_93 d hk25 h
  · refine am_Ex.icmp_ne_f rfl (Decidable.not_not.mp q1) ?_
    refine am_Ex.seg 3 88 [.ref 108, .int a1, .int a2, .int (s0 + s1), .int a4, .int a5, .int a6] [.int a5, .ref 168, .int a4] μ (fun _ => rfl) ?_
    obtain ⟨q2, h⟩ := am_bif h
    refine am_Ex.iald (v := (μ 168 ((a5).toNatClampNeg))) rfl rfl q2 rfl ?_
    refine am_Ex.goto rfl ?_
    exact e_fM_believed_93 d hk25 h
set_option maxRecDepth 20000 in
theorem e_fM_believed_25 (d : Nat) : ∀ n : Nat, ∀ {a1 : Int32} {a2 : Int32} {a3 : Int32} {a4 : Int32} {a5 : Int32} {w6 : Value} {μ : am_Mu} {out : Int32 × am_Mu}, fM_believed_25 n a1 a2 a3 a4 a5 μ = some out → am_Ex none (d + 2) 239 25 [.ref 108, .int a1, .int a2, .int a3, .int a4, .int a5, w6] [] am_SH μ (some (.int out.1), am_SH, out.2) := by
  intro n
  induction n with
  | zero => intros; contradiction
  | succ n ih =>
    have hk25 : ∀ {a1 : Int32} {a2 : Int32} {a3 : Int32} {a4 : Int32} {a5 : Int32} {w6 : Value} {μ : am_Mu} {out : Int32 × am_Mu}, (fM_believed_25 n) a1 a2 a3 a4 a5 μ = some out → am_Ex none (d + 2) 239 25 [.ref 108, .int a1, .int a2, .int a3, .int a4, .int a5, w6] [] am_SH μ (some (.int out.1), am_SH, out.2) := ih
    intro a1 a2 a3 a4 a5 w6 μ out h
    unfold fM_believed_25 at h
    refine am_Ex.seg 3 31 [.ref 108, .int a1, .int a2, .int a3, .int a4, .int a5, w6] [.int (μ 108 10), .int a5] μ (fun _ => rfl) ?_
    rcases am_ite h with ⟨q1, h⟩ | ⟨q1, h⟩
    · refine am_Ex.icmp_ge_t rfl q1 ?_
      exact e_fM_believed_102 d h
    · refine am_Ex.icmp_ge_f rfl q1 ?_
      refine am_Ex.seg 11 51 [.ref 108, .int a1, .int a2, .int a3, .int a4, .int a5, w6] [.int ((((160 : Int32) * a5) + ((8 : Int32) * a1)) + a2), .ref 175] μ (fun _ => rfl) ?_
      obtain ⟨q2, h⟩ := am_bif h
      refine am_Ex.iald (v := (μ 175 ((((((160 : Int32) * a5) + ((8 : Int32) * a1)) + a2)).toNatClampNeg))) rfl rfl q2 rfl ?_
      refine am_Ex.seg 4 58 [.ref 108, .int a1, .int a2, .int a3, .int a4, .int a5, .int (μ 175 ((((((160 : Int32) * a5) + ((8 : Int32) * a1)) + a2)).toNatClampNeg))] [.int 1, .int (μ 175 ((((((160 : Int32) * a5) + ((8 : Int32) * a1)) + a2)).toNatClampNeg)), .int a3] μ (fun _ => rfl) ?_
      rcases am_ite h with ⟨q3, h⟩ | ⟨q3, h⟩
      · refine am_Ex.icmp_ne_t rfl q3 ?_
        refine am_Ex.seg 1 72 [.ref 108, .int a1, .int a2, .int a3, .int a4, .int a5, .int (μ 175 ((((((160 : Int32) * a5) + ((8 : Int32) * a1)) + a2)).toNatClampNeg))] [.int 0, .int a3] μ (fun _ => rfl) ?_
        exact e_fM_believed_72 d hk25 h
      · refine am_Ex.icmp_ne_f rfl (Decidable.not_not.mp q3) ?_
        refine am_Ex.seg 3 67 [.ref 108, .int a1, .int a2, .int a3, .int a4, .int a5, .int (μ 175 ((((((160 : Int32) * a5) + ((8 : Int32) * a1)) + a2)).toNatClampNeg))] [.int a5, .ref 168, .int a3] μ (fun _ => rfl) ?_
        obtain ⟨q4, h⟩ := am_bif h
        refine am_Ex.iald (v := (μ 168 ((a5).toNatClampNeg))) rfl rfl q4 rfl ?_
        refine am_Ex.goto rfl ?_
        exact e_fM_believed_72 d hk25 h
set_option maxRecDepth 20000 in
theorem e_fM_believed (d : Nat) : ∀ {a1 : Int32} {a2 : Int32} {μ : am_Mu} {out : Int32 × am_Mu}, fM_believed a1 a2 μ = some out → am_Ex none (d + 2) 239 0 [.ref 108, .int a1, .int a2, .null, .null, .null, .null] [] am_SH μ (some (.int out.1), am_SH, out.2) := by
  intro a1 a2 μ out h
  unfold fM_believed at h
  refine am_Ex.seg 2 2 [.ref 108, .int a1, .int a2, .null, .null, .null, .null] [.int a1, .ref 108] μ (fun _ => rfl) ?_
  obtain ⟨q1, h_q1, h⟩ := am_bind h
  refine am_Ex.ivk (na := 2) (b := 108) (As' := [.int a1]) rfl rfl rfl rfl rfl rfl rfl rfl rfl (e_fM_isThing (d + 0) h_q1) ?_
  refine am_Ex.same 5 [.ref 108, .int a1, .int a2, .null, .null, .null, .null] [.int q1.1] q1.2 rfl ?_
  rcases am_ite h with ⟨q2, h⟩ | ⟨q2, h⟩
  · refine am_Ex.if_eq_t rfl q2 ?_
    refine am_Ex.seg 1 16 [.ref 108, .int a1, .int a2, .null, .null, .null, .null] [.int (-1)] q1.2 (fun _ => rfl) ?_
    cases h
    exact am_Ex.iret rfl rfl
  · refine am_Ex.if_eq_f rfl q2 ?_
    refine am_Ex.seg 1 9 [.ref 108, .int a1, .int a2, .null, .null, .null, .null] [.int a2] q1.2 (fun _ => rfl) ?_
    obtain ⟨q3, h_q3, h⟩ := am_bind h
    refine am_Ex.isk (na := 1) rfl (As := [.int a2]) rfl rfl rfl rfl rfl rfl (e_fM_isMark (d + 0) h_q3) ?_
    refine am_Ex.same 12 [.ref 108, .int a1, .int a2, .null, .null, .null, .null] [.int q3.1] q3.2 rfl ?_
    rcases am_ite h with ⟨q4, h⟩ | ⟨q4, h⟩
    · refine am_Ex.if_ne_t rfl q4 ?_
      refine am_Ex.seg 6 25 [.ref 108, .int a1, .int a2, .int 0, .int 0, .int 0, .null] [] q3.2 (fun _ => rfl) ?_
      exact e_fM_believed_25 d am_F h
    · refine am_Ex.if_ne_f rfl (Decidable.not_not.mp q4) ?_
      refine am_Ex.seg 1 16 [.ref 108, .int a1, .int a2, .null, .null, .null, .null] [.int (-1)] q3.2 (fun _ => rfl) ?_
      cases h
      exact am_Ex.iret rfl rfl
def fM_look (a1 : Int32) (a2 : Int32) (μ : am_Mu) : Option (Int32 × am_Mu) := ((fM_lies a1 0 ((μ 108 5) - 1) μ).bind fun q1 => (if ¬ q1.1 = 0 then (if a2 = 0 then (bif am_inb a1 200 then some ((q1.2 132 ((a1).toNatClampNeg)), q1.2) else none) else (if a2 = 1 then (bif am_inb a1 200 then some ((q1.2 133 ((a1).toNatClampNeg)), q1.2) else none) else (if a2 = 2 then (bif am_inb a1 200 then some ((q1.2 134 ((a1).toNatClampNeg)), q1.2) else none) else (if a2 = 3 then (bif am_inb a1 200 then some ((q1.2 135 ((a1).toNatClampNeg)), q1.2) else none) else (if a2 = 4 then (bif am_inb a1 200 then (if (q1.2 136 ((a1).toNatClampNeg)) = 0 then some (0, q1.2) else some (1, q1.2)) else none) else (if a2 = 5 then (bif am_inb a1 200 then some ((q1.2 137 ((a1).toNatClampNeg)), q1.2) else none) else (if a2 = 6 then (bif am_inb a1 200 then some ((q1.2 138 ((a1).toNatClampNeg)), q1.2) else none) else some ((-1), q1.2)))))))) else some ((-1), q1.2)))
set_option maxRecDepth 20000 in
theorem e_fM_look (d : Nat) : ∀ {a1 : Int32} {a2 : Int32} {μ : am_Mu} {out : Int32 × am_Mu}, fM_look a1 a2 μ = some out → am_Ex none (d + 1) 240 0 [.ref 108, .int a1, .int a2] [] am_SH μ (some (.int out.1), am_SH, out.2) := by
  intro a1 a2 μ out h
  unfold fM_look at h
  refine am_Ex.seg 6 8 [.ref 108, .int a1, .int a2] [.int ((μ 108 5) - 1), .int 0, .int a1] μ (fun _ => rfl) ?_
  obtain ⟨q1, h_q1, h⟩ := am_bind h
  refine am_Ex.isk (na := 3) rfl (As := [.int a1, .int 0, .int ((μ 108 5) - 1)]) rfl rfl rfl rfl rfl rfl (e_fM_lies (d + 0) h_q1) ?_
  refine am_Ex.same 11 [.ref 108, .int a1, .int a2] [.int q1.1] q1.2 rfl ?_
  rcases am_ite h with ⟨q2, h⟩ | ⟨q2, h⟩
  · refine am_Ex.if_ne_t rfl q2 ?_
    refine am_Ex.seg 1 17 [.ref 108, .int a1, .int a2] [.int a2] q1.2 (fun _ => rfl) ?_
    rcases am_ite h with ⟨q3, h⟩ | ⟨q3, h⟩
    · refine am_Ex.tblIn 60 (v := 0) rfl q3 (by decide) rfl rfl ?_
      refine am_Ex.seg 3 65 [.ref 108, .int a1, .int a2] [.int a1, .ref 132] q1.2 (fun _ => rfl) ?_
      obtain ⟨q4, h⟩ := am_bif h
      refine am_Ex.iald (v := (q1.2 132 ((a1).toNatClampNeg))) rfl rfl q4 rfl ?_
      cases h
      exact am_Ex.iret rfl rfl
    rcases am_ite h with ⟨q5, h⟩ | ⟨q5, h⟩
    · refine am_Ex.tblIn 67 (v := 1) rfl q5 (by decide) rfl rfl ?_
      refine am_Ex.seg 3 72 [.ref 108, .int a1, .int a2] [.int a1, .ref 133] q1.2 (fun _ => rfl) ?_
      obtain ⟨q6, h⟩ := am_bif h
      refine am_Ex.iald (v := (q1.2 133 ((a1).toNatClampNeg))) rfl rfl q6 rfl ?_
      cases h
      exact am_Ex.iret rfl rfl
    rcases am_ite h with ⟨q7, h⟩ | ⟨q7, h⟩
    · refine am_Ex.tblIn 74 (v := 2) rfl q7 (by decide) rfl rfl ?_
      refine am_Ex.seg 3 79 [.ref 108, .int a1, .int a2] [.int a1, .ref 134] q1.2 (fun _ => rfl) ?_
      obtain ⟨q8, h⟩ := am_bif h
      refine am_Ex.iald (v := (q1.2 134 ((a1).toNatClampNeg))) rfl rfl q8 rfl ?_
      cases h
      exact am_Ex.iret rfl rfl
    rcases am_ite h with ⟨q9, h⟩ | ⟨q9, h⟩
    · refine am_Ex.tblIn 81 (v := 3) rfl q9 (by decide) rfl rfl ?_
      refine am_Ex.seg 3 86 [.ref 108, .int a1, .int a2] [.int a1, .ref 135] q1.2 (fun _ => rfl) ?_
      obtain ⟨q10, h⟩ := am_bif h
      refine am_Ex.iald (v := (q1.2 135 ((a1).toNatClampNeg))) rfl rfl q10 rfl ?_
      cases h
      exact am_Ex.iret rfl rfl
    rcases am_ite h with ⟨q11, h⟩ | ⟨q11, h⟩
    · refine am_Ex.tblIn 88 (v := 4) rfl q11 (by decide) rfl rfl ?_
      refine am_Ex.seg 3 93 [.ref 108, .int a1, .int a2] [.int a1, .ref 136] q1.2 (fun _ => rfl) ?_
      obtain ⟨q12, h⟩ := am_bif h
      refine am_Ex.zald (v := (q1.2 136 ((a1).toNatClampNeg))) rfl rfl q12 rfl ?_
      rcases am_ite h with ⟨q13, h⟩ | ⟨q13, h⟩
      · refine am_Ex.if_eq_t rfl q13 ?_
        refine am_Ex.seg 1 102 [.ref 108, .int a1, .int a2] [.int 0] q1.2 (fun _ => rfl) ?_
        cases h
        exact am_Ex.iret rfl rfl
      · refine am_Ex.if_eq_f rfl q13 ?_
        refine am_Ex.seg 1 98 [.ref 108, .int a1, .int a2] [.int 1] q1.2 (fun _ => rfl) ?_
        refine am_Ex.goto rfl ?_
        cases h
        exact am_Ex.iret rfl rfl
    rcases am_ite h with ⟨q14, h⟩ | ⟨q14, h⟩
    · refine am_Ex.tblIn 103 (v := 5) rfl q14 (by decide) rfl rfl ?_
      refine am_Ex.seg 3 108 [.ref 108, .int a1, .int a2] [.int a1, .ref 137] q1.2 (fun _ => rfl) ?_
      obtain ⟨q15, h⟩ := am_bif h
      refine am_Ex.iald (v := (q1.2 137 ((a1).toNatClampNeg))) rfl rfl q15 rfl ?_
      cases h
      exact am_Ex.iret rfl rfl
    rcases am_ite h with ⟨q16, h⟩ | ⟨q16, h⟩
    · refine am_Ex.tblIn 110 (v := 6) rfl q16 (by decide) rfl rfl ?_
      refine am_Ex.seg 3 115 [.ref 108, .int a1, .int a2] [.int a1, .ref 138] q1.2 (fun _ => rfl) ?_
      obtain ⟨q17, h⟩ := am_bif h
      refine am_Ex.iald (v := (q1.2 138 ((a1).toNatClampNeg))) rfl rfl q17 rfl ?_
      cases h
      exact am_Ex.iret rfl rfl
    refine am_Ex.tblOut 117 rfl (by have := lv_neT q3 (a := 0) rfl; have := lv_neT q5 (a := 1) rfl; have := lv_neT q7 (a := 2) rfl; have := lv_neT q9 (a := 3) rfl; have := lv_neT q11 (a := 4) rfl; have := lv_neT q14 (a := 5) rfl; have := lv_neT q16 (a := 6) rfl; omega) rfl ?_
    refine am_Ex.seg 1 118 [.ref 108, .int a1, .int a2] [.int (-1)] q1.2 (fun _ => rfl) ?_
    cases h
    exact am_Ex.iret rfl rfl
  · refine am_Ex.if_ne_f rfl (Decidable.not_not.mp q2) ?_
    refine am_Ex.seg 1 15 [.ref 108, .int a1, .int a2] [.int (-1)] q1.2 (fun _ => rfl) ?_
    cases h
    exact am_Ex.iret rfl rfl
def fM_quarrels_70 (k34 : Int32 → Int32 → am_Mu → Option (Int32 × am_Mu)) (a2 : Int32) (s0 : Int32) (s1 : Int32) (μ : am_Mu) : Option (Int32 × am_Mu) := k34 (s0 + s1) (a2 + 1) μ
def fM_quarrels_34 : Nat → Int32 → Int32 → am_Mu → Option (Int32 × am_Mu)
  | 0, _, _, _ => none
  | n + 1, a1, a2, μ => (if ((8 : Int32) * (μ 108 4)) ≤ a2 then some (a1, μ) else (bif am_inb a2 320 then (bif am_inb ((160 : Int32) + a2) 320 then (if ¬ (μ 144 ((a2).toNatClampNeg)) = (μ 144 ((((160 : Int32) + a2)).toNatClampNeg)) then fM_quarrels_70 (fM_quarrels_34 n) a2 a1 1 μ else fM_quarrels_70 (fM_quarrels_34 n) a2 a1 0 μ) else none) else none))
def fM_quarrels (μ : am_Mu) : Option (Int32 × am_Mu) := ((fM_goes 0 0 (μ 108 2) (μ 108 2) (-1) μ).bind fun q1 => ((fM_goes 1 1 (q1 108 2) (q1 108 2) (-1) q1).bind fun q2 => fM_quarrels_34 am_F 0 0 q2))
set_option maxRecDepth 20000 in
theorem e_fM_quarrels_70 (d : Nat) {k34 : Int32 → Int32 → am_Mu → Option (Int32 × am_Mu)} (hk34 : ∀ {a1 : Int32} {a2 : Int32} {μ : am_Mu} {out : Int32 × am_Mu}, k34 a1 a2 μ = some out → am_Ex none (d + 7) 241 34 [.ref 108, .int a1, .int a2] [] am_SH μ (some (.int out.1), am_SH, out.2)) : ∀ {a2 : Int32} {s0 : Int32} {s1 : Int32} {w1 : Value} {μ : am_Mu} {out : Int32 × am_Mu}, fM_quarrels_70 k34 a2 s0 s1 μ = some out → am_Ex none (d + 7) 241 70 [.ref 108, w1, .int a2] [.int s1, .int s0] am_SH μ (some (.int out.1), am_SH, out.2) := by
  intro a2 s0 s1 w1 μ out h
  unfold fM_quarrels_70 at h
  refine am_Ex.seg 3 75 [.ref 108, .int (s0 + s1), .int (a2 + 1)] [] μ (fun _ => rfl) ?_
  refine am_Ex.goto rfl ?_
  exact hk34 h
set_option maxRecDepth 20000 in
theorem e_fM_quarrels_34 (d : Nat) : ∀ n : Nat, ∀ {a1 : Int32} {a2 : Int32} {μ : am_Mu} {out : Int32 × am_Mu}, fM_quarrels_34 n a1 a2 μ = some out → am_Ex none (d + 7) 241 34 [.ref 108, .int a1, .int a2] [] am_SH μ (some (.int out.1), am_SH, out.2) := by
  intro n
  induction n with
  | zero => intros; contradiction
  | succ n ih =>
    have hk34 : ∀ {a1 : Int32} {a2 : Int32} {μ : am_Mu} {out : Int32 × am_Mu}, (fM_quarrels_34 n) a1 a2 μ = some out → am_Ex none (d + 7) 241 34 [.ref 108, .int a1, .int a2] [] am_SH μ (some (.int out.1), am_SH, out.2) := ih
    intro a1 a2 μ out h
    unfold fM_quarrels_34 at h
    refine am_Ex.seg 5 42 [.ref 108, .int a1, .int a2] [.int ((8 : Int32) * (μ 108 4)), .int a2] μ (fun _ => rfl) ?_
    rcases am_ite h with ⟨q1, h⟩ | ⟨q1, h⟩
    · refine am_Ex.icmp_ge_t rfl q1 ?_
      refine am_Ex.seg 1 79 [.ref 108, .int a1, .int a2] [.int a1] μ (fun _ => rfl) ?_
      cases h
      exact am_Ex.iret rfl rfl
    · refine am_Ex.icmp_ge_f rfl q1 ?_
      refine am_Ex.seg 4 51 [.ref 108, .int a1, .int a2] [.int a2, .ref 144, .int a1] μ (fun _ => rfl) ?_
      obtain ⟨q2, h⟩ := am_bif h
      refine am_Ex.iald (v := (μ 144 ((a2).toNatClampNeg))) rfl rfl q2 rfl ?_
      refine am_Ex.seg 5 61 [.ref 108, .int a1, .int a2] [.int ((160 : Int32) + a2), .ref 144, .int (μ 144 ((a2).toNatClampNeg)), .int a1] μ (fun _ => rfl) ?_
      obtain ⟨q3, h⟩ := am_bif h
      refine am_Ex.iald (v := (μ 144 ((((160 : Int32) + a2)).toNatClampNeg))) rfl rfl q3 rfl ?_
      rcases am_ite h with ⟨q4, h⟩ | ⟨q4, h⟩
      · refine am_Ex.icmp_ne_t rfl q4 ?_
        refine am_Ex.seg 1 70 [.ref 108, .int a1, .int a2] [.int 1, .int a1] μ (fun _ => rfl) ?_
        exact e_fM_quarrels_70 d hk34 h
      · refine am_Ex.icmp_ne_f rfl (Decidable.not_not.mp q4) ?_
        refine am_Ex.seg 1 66 [.ref 108, .int a1, .int a2] [.int 0, .int a1] μ (fun _ => rfl) ?_
        refine am_Ex.goto rfl ?_
        exact e_fM_quarrels_70 d hk34 h
set_option maxRecDepth 20000 in
theorem e_fM_quarrels (d : Nat) : ∀ {μ : am_Mu} {out : Int32 × am_Mu}, fM_quarrels μ = some out → am_Ex none (d + 7) 241 0 [.ref 108, .null, .null] [] am_SH μ (some (.int out.1), am_SH, out.2) := by
  intro μ out h
  unfold fM_quarrels at h
  refine am_Ex.seg 10 14 [.ref 108, .int 0, .null] [.int (-1), .int (μ 108 2), .int (μ 108 2), .int 0, .int 0, .ref 108] μ (fun _ => rfl) ?_
  obtain ⟨q1, h_q1, h⟩ := am_bind h
  refine am_Ex.ivk (na := 6) (b := 108) (As' := [.int 0, .int 0, .int (μ 108 2), .int (μ 108 2), .int (-1)]) rfl rfl rfl rfl rfl rfl rfl rfl rfl (e_fM_goes (d + 0) h_q1) ?_
  refine am_Ex.same 17 [.ref 108, .int 0, .null] [] q1 rfl ?_
  refine am_Ex.seg 8 29 [.ref 108, .int 0, .null] [.int (-1), .int (q1 108 2), .int (q1 108 2), .int 1, .int 1, .ref 108] q1 (fun _ => rfl) ?_
  obtain ⟨q2, h_q2, h⟩ := am_bind h
  refine am_Ex.ivk (na := 6) (b := 108) (As' := [.int 1, .int 1, .int (q1 108 2), .int (q1 108 2), .int (-1)]) rfl rfl rfl rfl rfl rfl rfl rfl rfl (e_fM_goes (d + 0) h_q2) ?_
  refine am_Ex.same 32 [.ref 108, .int 0, .null] [] q2 rfl ?_
  refine am_Ex.seg 2 34 [.ref 108, .int 0, .int 0] [] q2 (fun _ => rfl) ?_
  exact e_fM_quarrels_34 d am_F h
def fM_count (a1 : Int32) (μ : am_Mu) : Option (Int32 × am_Mu) := (if a1 = 0 then some ((μ 108 2), μ) else (if a1 = 1 then some ((μ 108 3), μ) else (if a1 = 2 then some ((μ 108 4), μ) else (if a1 = 3 then some ((μ 108 5), μ) else (if a1 = 4 then some ((μ 108 6), μ) else (if a1 = 5 then some ((μ 108 7), μ) else (if a1 = 6 then some ((μ 108 8), μ) else (if a1 = 7 then some ((μ 108 9), μ) else (if a1 = 8 then some ((μ 108 10), μ) else (if a1 = 9 then some ((μ 108 11), μ) else (if a1 = 10 then some ((μ 108 12), μ) else (if a1 = 11 then some ((μ 108 13), μ) else (if a1 = 12 then some ((μ 108 1), μ) else (if a1 = 13 then ((fM_quarrels μ).bind fun q15 => some (q15.1, q15.2)) else some ((-1), μ)))))))))))))))
set_option maxRecDepth 20000 in
theorem e_fM_count (d : Nat) : ∀ {a1 : Int32} {μ : am_Mu} {out : Int32 × am_Mu}, fM_count a1 μ = some out → am_Ex none (d + 8) 242 0 [.ref 108, .int a1] [] am_SH μ (some (.int out.1), am_SH, out.2) := by
  intro a1 μ out h
  unfold fM_count at h
  refine am_Ex.seg 1 1 [.ref 108, .int a1] [.int a1] μ (fun _ => rfl) ?_
  rcases am_ite h with ⟨q1, h⟩ | ⟨q1, h⟩
  · refine am_Ex.tblIn 72 (v := 0) rfl q1 (by decide) rfl rfl ?_
    refine am_Ex.seg 2 76 [.ref 108, .int a1] [.int (μ 108 2)] μ (fun _ => rfl) ?_
    cases h
    exact am_Ex.iret rfl rfl
  rcases am_ite h with ⟨q2, h⟩ | ⟨q2, h⟩
  · refine am_Ex.tblIn 77 (v := 1) rfl q2 (by decide) rfl rfl ?_
    refine am_Ex.seg 2 81 [.ref 108, .int a1] [.int (μ 108 3)] μ (fun _ => rfl) ?_
    cases h
    exact am_Ex.iret rfl rfl
  rcases am_ite h with ⟨q3, h⟩ | ⟨q3, h⟩
  · refine am_Ex.tblIn 82 (v := 2) rfl q3 (by decide) rfl rfl ?_
    refine am_Ex.seg 2 86 [.ref 108, .int a1] [.int (μ 108 4)] μ (fun _ => rfl) ?_
    cases h
    exact am_Ex.iret rfl rfl
  rcases am_ite h with ⟨q4, h⟩ | ⟨q4, h⟩
  · refine am_Ex.tblIn 87 (v := 3) rfl q4 (by decide) rfl rfl ?_
    refine am_Ex.seg 2 91 [.ref 108, .int a1] [.int (μ 108 5)] μ (fun _ => rfl) ?_
    cases h
    exact am_Ex.iret rfl rfl
  rcases am_ite h with ⟨q5, h⟩ | ⟨q5, h⟩
  · refine am_Ex.tblIn 92 (v := 4) rfl q5 (by decide) rfl rfl ?_
    refine am_Ex.seg 2 96 [.ref 108, .int a1] [.int (μ 108 6)] μ (fun _ => rfl) ?_
    cases h
    exact am_Ex.iret rfl rfl
  rcases am_ite h with ⟨q6, h⟩ | ⟨q6, h⟩
  · refine am_Ex.tblIn 97 (v := 5) rfl q6 (by decide) rfl rfl ?_
    refine am_Ex.seg 2 101 [.ref 108, .int a1] [.int (μ 108 7)] μ (fun _ => rfl) ?_
    cases h
    exact am_Ex.iret rfl rfl
  rcases am_ite h with ⟨q7, h⟩ | ⟨q7, h⟩
  · refine am_Ex.tblIn 102 (v := 6) rfl q7 (by decide) rfl rfl ?_
    refine am_Ex.seg 2 106 [.ref 108, .int a1] [.int (μ 108 8)] μ (fun _ => rfl) ?_
    cases h
    exact am_Ex.iret rfl rfl
  rcases am_ite h with ⟨q8, h⟩ | ⟨q8, h⟩
  · refine am_Ex.tblIn 107 (v := 7) rfl q8 (by decide) rfl rfl ?_
    refine am_Ex.seg 2 111 [.ref 108, .int a1] [.int (μ 108 9)] μ (fun _ => rfl) ?_
    cases h
    exact am_Ex.iret rfl rfl
  rcases am_ite h with ⟨q9, h⟩ | ⟨q9, h⟩
  · refine am_Ex.tblIn 112 (v := 8) rfl q9 (by decide) rfl rfl ?_
    refine am_Ex.seg 2 116 [.ref 108, .int a1] [.int (μ 108 10)] μ (fun _ => rfl) ?_
    cases h
    exact am_Ex.iret rfl rfl
  rcases am_ite h with ⟨q10, h⟩ | ⟨q10, h⟩
  · refine am_Ex.tblIn 117 (v := 9) rfl q10 (by decide) rfl rfl ?_
    refine am_Ex.seg 2 121 [.ref 108, .int a1] [.int (μ 108 11)] μ (fun _ => rfl) ?_
    cases h
    exact am_Ex.iret rfl rfl
  rcases am_ite h with ⟨q11, h⟩ | ⟨q11, h⟩
  · refine am_Ex.tblIn 122 (v := 10) rfl q11 (by decide) rfl rfl ?_
    refine am_Ex.seg 2 126 [.ref 108, .int a1] [.int (μ 108 12)] μ (fun _ => rfl) ?_
    cases h
    exact am_Ex.iret rfl rfl
  rcases am_ite h with ⟨q12, h⟩ | ⟨q12, h⟩
  · refine am_Ex.tblIn 127 (v := 11) rfl q12 (by decide) rfl rfl ?_
    refine am_Ex.seg 2 131 [.ref 108, .int a1] [.int (μ 108 13)] μ (fun _ => rfl) ?_
    cases h
    exact am_Ex.iret rfl rfl
  rcases am_ite h with ⟨q13, h⟩ | ⟨q13, h⟩
  · refine am_Ex.tblIn 132 (v := 12) rfl q13 (by decide) rfl rfl ?_
    refine am_Ex.seg 2 136 [.ref 108, .int a1] [.int (μ 108 1)] μ (fun _ => rfl) ?_
    cases h
    exact am_Ex.iret rfl rfl
  rcases am_ite h with ⟨q14, h⟩ | ⟨q14, h⟩
  · refine am_Ex.tblIn 137 (v := 13) rfl q14 (by decide) rfl rfl ?_
    refine am_Ex.seg 1 138 [.ref 108, .int a1] [.ref 108] μ (fun _ => rfl) ?_
    obtain ⟨q15, h_q15, h⟩ := am_bind h
    refine am_Ex.ivk (na := 1) (b := 108) (As' := []) rfl rfl rfl rfl rfl rfl rfl rfl rfl (e_fM_quarrels (d + 0) h_q15) ?_
    refine am_Ex.same 141 [.ref 108, .int a1] [.int q15.1] q15.2 rfl ?_
    cases h
    exact am_Ex.iret rfl rfl
  refine am_Ex.tblOut 142 rfl (by have := lv_neT q1 (a := 0) rfl; have := lv_neT q2 (a := 1) rfl; have := lv_neT q3 (a := 2) rfl; have := lv_neT q4 (a := 3) rfl; have := lv_neT q5 (a := 4) rfl; have := lv_neT q6 (a := 5) rfl; have := lv_neT q7 (a := 6) rfl; have := lv_neT q8 (a := 7) rfl; have := lv_neT q9 (a := 8) rfl; have := lv_neT q10 (a := 9) rfl; have := lv_neT q11 (a := 10) rfl; have := lv_neT q12 (a := 11) rfl; have := lv_neT q13 (a := 12) rfl; have := lv_neT q14 (a := 13) rfl; omega) rfl ?_
  refine am_Ex.seg 1 143 [.ref 108, .int a1] [.int (-1)] μ (fun _ => rfl) ?_
  cases h
  exact am_Ex.iret rfl rfl
