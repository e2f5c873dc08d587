section
variable {tl : am_Sh}
def fL_pick (a0 : Int32) (a1 : Int32) (μ : am_Mu) : Option (Int32 × am_Mu) := (if a1 = 0 then none else some (((a0 &&& 65535) - ((a0 &&& 65535) / a1) * a1), μ))
set_option maxRecDepth 20000 in
theorem e_fL_pick (d : Nat) : ∀ {a0 : Int32} {a1 : Int32} {μ : am_Mu} {out : Int32 × am_Mu}, fL_pick a0 a1 μ = some out → am_Ex none (d + 0) 92 0 [.int a0, .int a1] [] (am_SX tl) μ (some (.int out.1), (am_SX tl), out.2) := by
  intro a0 a1 μ out h
  unfold fL_pick at h
  refine am_Ex.seg 4 5 [.int a0, .int a1] [.int a1, .int (a0 &&& 65535)] μ (fun _ => rfl) ?_
  obtain ⟨q1, h⟩ := am_ifn h
  refine am_Ex.irem rfl q1 ?_
  cases h
  exact am_Ex.iret rfl rfl
def fL_goesW_59 (a1 : Int32) (a5 : Int32) (a6 : Int32) (μ : am_Mu) : Option (am_Mu) := (if ¬ (a5 &&& 1) = 1 then some μ else (bif am_inb a1 6 then some (am_up μ 115 ((a1).toNatClampNeg) ((μ 115 ((a1).toNatClampNeg)) ||| a6)) else none))
def fL_goesW_41 (a1 : Int32) (a2 : Int32) (a4 : Int32) (a5 : Int32) (s0 : Int32) (μ : am_Mu) : Option (am_Mu) := (if ¬ (a4 &&& 1) = 1 then fL_goesW_59 a1 a5 s0 μ else (bif am_inb a2 6 then fL_goesW_59 a1 a5 s0 (am_up μ 115 ((a2).toNatClampNeg) ((μ 115 ((a2).toNatClampNeg)) ||| s0)) else none))
def fL_goesW_16 (a0 : Int32) (a1 : Int32) (a2 : Int32) (a4 : Int32) (s0 : Int32) (μ : am_Mu) : Option (am_Mu) := (if ¬ a0 = 2 then (if ¬ a0 = 0 then fL_goesW_41 a1 a2 a4 s0 3 μ else fL_goesW_41 a1 a2 a4 s0 1 μ) else (bif am_inb a1 6 then some (am_up μ 115 ((a1).toNatClampNeg) ((μ 115 ((a1).toNatClampNeg)) &&& (-2))) else none))
def fL_goesW (a0 : Int32) (a1 : Int32) (a2 : Int32) (μ : am_Mu) : Option (am_Mu) := (bif am_inb a1 6 then (if 0 ≤ a2 then (bif am_inb a2 6 then fL_goesW_16 a0 a1 a2 (μ 115 ((a1).toNatClampNeg)) (μ 115 ((a2).toNatClampNeg)) μ else none) else fL_goesW_16 a0 a1 a2 (μ 115 ((a1).toNatClampNeg)) 0 μ) else none)
set_option maxRecDepth 20000 in
theorem e_fL_goesW_59 (d : Nat) : ∀ {a1 : Int32} {a5 : Int32} {a6 : Int32} {w0 w2 w4 : Value} {μ : am_Mu} {out : am_Mu}, fL_goesW_59 a1 a5 a6 μ = some out → am_Ex none (d + 0) 94 59 [w0, .int a1, w2, .ref 115, w4, .int a5, .int a6] [] (am_SX (am_TL.take 12)) μ (none, (am_SX (am_TL.take 12)), out) := by
  intro a1 a5 a6 w0 w2 w4 μ out h
  unfold fL_goesW_59 at h
  refine am_Ex.seg 4 64 [w0, .int a1, w2, .ref 115, w4, .int a5, .int a6] [.int 1, .int (a5 &&& 1)] μ (fun _ => rfl) ?_
  rcases am_ite h with ⟨q1, h⟩ | ⟨q1, h⟩
  · refine am_Ex.icmp_ne_t rfl q1 ?_
    cases h
    exact am_Ex.vret rfl rfl
  · refine am_Ex.icmp_ne_f rfl (Decidable.not_not.mp q1) ?_
    refine am_Ex.seg 3 70 [w0, .int a1, w2, .ref 115, w4, .int a5, .int a6] [.int a1, .ref 115, .int a1, .ref 115] μ (fun _ => rfl) ?_
    obtain ⟨q2, h⟩ := am_bif h
    refine am_Ex.iald (v := (μ 115 ((a1).toNatClampNeg))) rfl rfl rfl q2 rfl ?_
    refine am_Ex.seg 2 74 [w0, .int a1, w2, .ref 115, w4, .int a5, .int a6] [.int ((μ 115 ((a1).toNatClampNeg)) ||| a6), .int a1, .ref 115] μ (fun _ => rfl) ?_
    refine am_Ex.iast (v2 := ((μ 115 ((a1).toNatClampNeg)) ||| a6)) (i2 := (a1).toNatClampNeg) rfl rfl q2 rfl rfl ?_
    cases h
    exact am_Ex.vret rfl rfl
set_option maxRecDepth 20000 in
theorem e_fL_goesW_41 (d : Nat) : ∀ {a1 : Int32} {a2 : Int32} {a4 : Int32} {a5 : Int32} {s0 : Int32} {w0 w6 : Value} {μ : am_Mu} {out : am_Mu}, fL_goesW_41 a1 a2 a4 a5 s0 μ = some out → am_Ex none (d + 0) 94 41 [w0, .int a1, .int a2, .ref 115, .int a4, .int a5, w6] [.int s0] (am_SX (am_TL.take 12)) μ (none, (am_SX (am_TL.take 12)), out) := by
  intro a1 a2 a4 a5 s0 w0 w6 μ out h
  unfold fL_goesW_41 at h
  refine am_Ex.seg 5 48 [w0, .int a1, .int a2, .ref 115, .int a4, .int a5, .int s0] [.int 1, .int (a4 &&& 1)] μ (fun _ => rfl) ?_
  rcases am_ite h with ⟨q1, h⟩ | ⟨q1, h⟩
  · refine am_Ex.icmp_ne_t rfl q1 ?_
    exact e_fL_goesW_59 d h
  · refine am_Ex.icmp_ne_f rfl (Decidable.not_not.mp q1) ?_
    refine am_Ex.seg 3 54 [w0, .int a1, .int a2, .ref 115, .int a4, .int a5, .int s0] [.int a2, .ref 115, .int a2, .ref 115] μ (fun _ => rfl) ?_
    obtain ⟨q2, h⟩ := am_bif h
    refine am_Ex.iald (v := (μ 115 ((a2).toNatClampNeg))) rfl rfl rfl q2 rfl ?_
    refine am_Ex.seg 2 58 [w0, .int a1, .int a2, .ref 115, .int a4, .int a5, .int s0] [.int ((μ 115 ((a2).toNatClampNeg)) ||| s0), .int a2, .ref 115] μ (fun _ => rfl) ?_
    refine am_Ex.iast (v2 := ((μ 115 ((a2).toNatClampNeg)) ||| s0)) (i2 := (a2).toNatClampNeg) rfl rfl q2 rfl rfl ?_
    exact e_fL_goesW_59 d h
set_option maxRecDepth 20000 in
theorem e_fL_goesW_16 (d : Nat) : ∀ {a0 : Int32} {a1 : Int32} {a2 : Int32} {a4 : Int32} {s0 : Int32} {w5 w6 : Value} {μ : am_Mu} {out : am_Mu}, fL_goesW_16 a0 a1 a2 a4 s0 μ = some out → am_Ex none (d + 0) 94 16 [.int a0, .int a1, .int a2, .ref 115, .int a4, w5, w6] [.int s0] (am_SX (am_TL.take 12)) μ (none, (am_SX (am_TL.take 12)), out) := by
  intro a0 a1 a2 a4 s0 w5 w6 μ out h
  unfold fL_goesW_16 at h
  refine am_Ex.seg 3 20 [.int a0, .int a1, .int a2, .ref 115, .int a4, .int s0, w6] [.int 2, .int a0] μ (fun _ => rfl) ?_
  rcases am_ite h with ⟨q1, h⟩ | ⟨q1, h⟩
  · refine am_Ex.icmp_ne_t rfl q1 ?_
    refine am_Ex.seg 1 33 [.int a0, .int a1, .int a2, .ref 115, .int a4, .int s0, w6] [.int a0] μ (fun _ => rfl) ?_
    rcases am_ite h with ⟨q2, h⟩ | ⟨q2, h⟩
    · refine am_Ex.if_ne_t rfl q2 ?_
      refine am_Ex.seg 1 41 [.int a0, .int a1, .int a2, .ref 115, .int a4, .int s0, w6] [.int 3] μ (fun _ => rfl) ?_
      exact e_fL_goesW_41 d h
    · refine am_Ex.if_ne_f rfl (Decidable.not_not.mp q2) ?_
      refine am_Ex.seg 1 37 [.int a0, .int a1, .int a2, .ref 115, .int a4, .int s0, w6] [.int 1] μ (fun _ => rfl) ?_
      refine am_Ex.goto rfl ?_
      exact e_fL_goesW_41 d h
  · refine am_Ex.icmp_ne_f rfl (Decidable.not_not.mp q1) ?_
    refine am_Ex.seg 3 26 [.int a0, .int a1, .int a2, .ref 115, .int a4, .int s0, w6] [.int a1, .ref 115, .int a1, .ref 115] μ (fun _ => rfl) ?_
    obtain ⟨q3, h⟩ := am_bif h
    refine am_Ex.iald (v := (μ 115 ((a1).toNatClampNeg))) rfl rfl rfl q3 rfl ?_
    refine am_Ex.seg 2 30 [.int a0, .int a1, .int a2, .ref 115, .int a4, .int s0, w6] [.int ((μ 115 ((a1).toNatClampNeg)) &&& (-2)), .int a1, .ref 115] μ (fun _ => rfl) ?_
    refine am_Ex.iast (v2 := ((μ 115 ((a1).toNatClampNeg)) &&& (-2))) (i2 := (a1).toNatClampNeg) rfl rfl q3 rfl rfl ?_
    cases h
    exact am_Ex.vret rfl rfl
set_option maxRecDepth 20000 in
theorem e_fL_goesW (d : Nat) : ∀ {a0 : Int32} {a1 : Int32} {a2 : Int32} {μ : am_Mu} {out : am_Mu}, fL_goesW a0 a1 a2 μ = some out → am_Ex none (d + 0) 94 0 [.int a0, .int a1, .int a2, .ref 115, .null, .null, .null] [] (am_SX (am_TL.take 12)) μ (none, (am_SX (am_TL.take 12)), out) := by
  intro a0 a1 a2 μ out h
  unfold fL_goesW at h
  refine am_Ex.seg 2 2 [.int a0, .int a1, .int a2, .ref 115, .null, .null, .null] [.int a1, .ref 115] μ (fun _ => rfl) ?_
  obtain ⟨q1, h⟩ := am_bif h
  refine am_Ex.iald (v := (μ 115 ((a1).toNatClampNeg))) rfl rfl rfl q1 rfl ?_
  refine am_Ex.seg 2 6 [.int a0, .int a1, .int a2, .ref 115, .int (μ 115 ((a1).toNatClampNeg)), .null, .null] [.int a2] μ (fun _ => rfl) ?_
  rcases am_ite h with ⟨q2, h⟩ | ⟨q2, h⟩
  · refine am_Ex.if_ge_t rfl q2 ?_
    refine am_Ex.seg 2 15 [.int a0, .int a1, .int a2, .ref 115, .int (μ 115 ((a1).toNatClampNeg)), .null, .null] [.int a2, .ref 115] μ (fun _ => rfl) ?_
    obtain ⟨q3, h⟩ := am_bif h
    refine am_Ex.iald (v := (μ 115 ((a2).toNatClampNeg))) rfl rfl rfl q3 rfl ?_
    exact e_fL_goesW_16 d h
  · refine am_Ex.if_ge_f rfl q2 ?_
    refine am_Ex.seg 1 10 [.int a0, .int a1, .int a2, .ref 115, .int (μ 115 ((a1).toNatClampNeg)), .null, .null] [.int 0] μ (fun _ => rfl) ?_
    refine am_Ex.goto rfl ?_
    exact e_fL_goesW_16 d h
def fL_goesL_59 (a1 : Int32) (a5 : Int32) (a6 : Int32) (μ : am_Mu) : Option (am_Mu) := (if ¬ (a5 &&& 1) = 1 then some μ else (bif am_inb a1 6 then some (am_up μ 116 ((a1).toNatClampNeg) ((μ 116 ((a1).toNatClampNeg)) ||| a6)) else none))
def fL_goesL_41 (a1 : Int32) (a2 : Int32) (a4 : Int32) (a5 : Int32) (s0 : Int32) (μ : am_Mu) : Option (am_Mu) := (if ¬ (a4 &&& 1) = 1 then fL_goesL_59 a1 a5 s0 μ else (bif am_inb a2 6 then fL_goesL_59 a1 a5 s0 (am_up μ 116 ((a2).toNatClampNeg) ((μ 116 ((a2).toNatClampNeg)) ||| s0)) else none))
def fL_goesL_16 (a0 : Int32) (a1 : Int32) (a2 : Int32) (a4 : Int32) (s0 : Int32) (μ : am_Mu) : Option (am_Mu) := (if ¬ a0 = 2 then (if ¬ a0 = 0 then fL_goesL_41 a1 a2 a4 s0 3 μ else fL_goesL_41 a1 a2 a4 s0 1 μ) else (bif am_inb a1 6 then some (am_up μ 116 ((a1).toNatClampNeg) ((μ 116 ((a1).toNatClampNeg)) &&& (-2))) else none))
def fL_goesL (a0 : Int32) (a1 : Int32) (a2 : Int32) (μ : am_Mu) : Option (am_Mu) := (bif am_inb a1 6 then (if 0 ≤ a2 then (bif am_inb a2 6 then fL_goesL_16 a0 a1 a2 (μ 116 ((a1).toNatClampNeg)) (μ 116 ((a2).toNatClampNeg)) μ else none) else fL_goesL_16 a0 a1 a2 (μ 116 ((a1).toNatClampNeg)) 0 μ) else none)
set_option maxRecDepth 20000 in
theorem e_fL_goesL_59 (d : Nat) : ∀ {a1 : Int32} {a5 : Int32} {a6 : Int32} {w0 w2 w4 : Value} {μ : am_Mu} {out : am_Mu}, fL_goesL_59 a1 a5 a6 μ = some out → am_Ex none (d + 0) 94 59 [w0, .int a1, w2, .ref 116, w4, .int a5, .int a6] [] (am_SX (am_TL.take 12)) μ (none, (am_SX (am_TL.take 12)), out) := by
  intro a1 a5 a6 w0 w2 w4 μ out h
  unfold fL_goesL_59 at h
  refine am_Ex.seg 4 64 [w0, .int a1, w2, .ref 116, w4, .int a5, .int a6] [.int 1, .int (a5 &&& 1)] μ (fun _ => rfl) ?_
  rcases am_ite h with ⟨q1, h⟩ | ⟨q1, h⟩
  · refine am_Ex.icmp_ne_t rfl q1 ?_
    cases h
    exact am_Ex.vret rfl rfl
  · refine am_Ex.icmp_ne_f rfl (Decidable.not_not.mp q1) ?_
    refine am_Ex.seg 3 70 [w0, .int a1, w2, .ref 116, w4, .int a5, .int a6] [.int a1, .ref 116, .int a1, .ref 116] μ (fun _ => rfl) ?_
    obtain ⟨q2, h⟩ := am_bif h
    refine am_Ex.iald (v := (μ 116 ((a1).toNatClampNeg))) rfl rfl rfl q2 rfl ?_
    refine am_Ex.seg 2 74 [w0, .int a1, w2, .ref 116, w4, .int a5, .int a6] [.int ((μ 116 ((a1).toNatClampNeg)) ||| a6), .int a1, .ref 116] μ (fun _ => rfl) ?_
    refine am_Ex.iast (v2 := ((μ 116 ((a1).toNatClampNeg)) ||| a6)) (i2 := (a1).toNatClampNeg) rfl rfl q2 rfl rfl ?_
    cases h
    exact am_Ex.vret rfl rfl
set_option maxRecDepth 20000 in
theorem e_fL_goesL_41 (d : Nat) : ∀ {a1 : Int32} {a2 : Int32} {a4 : Int32} {a5 : Int32} {s0 : Int32} {w0 w6 : Value} {μ : am_Mu} {out : am_Mu}, fL_goesL_41 a1 a2 a4 a5 s0 μ = some out → am_Ex none (d + 0) 94 41 [w0, .int a1, .int a2, .ref 116, .int a4, .int a5, w6] [.int s0] (am_SX (am_TL.take 12)) μ (none, (am_SX (am_TL.take 12)), out) := by
  intro a1 a2 a4 a5 s0 w0 w6 μ out h
  unfold fL_goesL_41 at h
  refine am_Ex.seg 5 48 [w0, .int a1, .int a2, .ref 116, .int a4, .int a5, .int s0] [.int 1, .int (a4 &&& 1)] μ (fun _ => rfl) ?_
  rcases am_ite h with ⟨q1, h⟩ | ⟨q1, h⟩
  · refine am_Ex.icmp_ne_t rfl q1 ?_
    exact e_fL_goesL_59 d h
  · refine am_Ex.icmp_ne_f rfl (Decidable.not_not.mp q1) ?_
    refine am_Ex.seg 3 54 [w0, .int a1, .int a2, .ref 116, .int a4, .int a5, .int s0] [.int a2, .ref 116, .int a2, .ref 116] μ (fun _ => rfl) ?_
    obtain ⟨q2, h⟩ := am_bif h
    refine am_Ex.iald (v := (μ 116 ((a2).toNatClampNeg))) rfl rfl rfl q2 rfl ?_
    refine am_Ex.seg 2 58 [w0, .int a1, .int a2, .ref 116, .int a4, .int a5, .int s0] [.int ((μ 116 ((a2).toNatClampNeg)) ||| s0), .int a2, .ref 116] μ (fun _ => rfl) ?_
    refine am_Ex.iast (v2 := ((μ 116 ((a2).toNatClampNeg)) ||| s0)) (i2 := (a2).toNatClampNeg) rfl rfl q2 rfl rfl ?_
    exact e_fL_goesL_59 d h
set_option maxRecDepth 20000 in
theorem e_fL_goesL_16 (d : Nat) : ∀ {a0 : Int32} {a1 : Int32} {a2 : Int32} {a4 : Int32} {s0 : Int32} {w5 w6 : Value} {μ : am_Mu} {out : am_Mu}, fL_goesL_16 a0 a1 a2 a4 s0 μ = some out → am_Ex none (d + 0) 94 16 [.int a0, .int a1, .int a2, .ref 116, .int a4, w5, w6] [.int s0] (am_SX (am_TL.take 12)) μ (none, (am_SX (am_TL.take 12)), out) := by
  intro a0 a1 a2 a4 s0 w5 w6 μ out h
  unfold fL_goesL_16 at h
  refine am_Ex.seg 3 20 [.int a0, .int a1, .int a2, .ref 116, .int a4, .int s0, w6] [.int 2, .int a0] μ (fun _ => rfl) ?_
  rcases am_ite h with ⟨q1, h⟩ | ⟨q1, h⟩
  · refine am_Ex.icmp_ne_t rfl q1 ?_
    refine am_Ex.seg 1 33 [.int a0, .int a1, .int a2, .ref 116, .int a4, .int s0, w6] [.int a0] μ (fun _ => rfl) ?_
    rcases am_ite h with ⟨q2, h⟩ | ⟨q2, h⟩
    · refine am_Ex.if_ne_t rfl q2 ?_
      refine am_Ex.seg 1 41 [.int a0, .int a1, .int a2, .ref 116, .int a4, .int s0, w6] [.int 3] μ (fun _ => rfl) ?_
      exact e_fL_goesL_41 d h
    · refine am_Ex.if_ne_f rfl (Decidable.not_not.mp q2) ?_
      refine am_Ex.seg 1 37 [.int a0, .int a1, .int a2, .ref 116, .int a4, .int s0, w6] [.int 1] μ (fun _ => rfl) ?_
      refine am_Ex.goto rfl ?_
      exact e_fL_goesL_41 d h
  · refine am_Ex.icmp_ne_f rfl (Decidable.not_not.mp q1) ?_
    refine am_Ex.seg 3 26 [.int a0, .int a1, .int a2, .ref 116, .int a4, .int s0, w6] [.int a1, .ref 116, .int a1, .ref 116] μ (fun _ => rfl) ?_
    obtain ⟨q3, h⟩ := am_bif h
    refine am_Ex.iald (v := (μ 116 ((a1).toNatClampNeg))) rfl rfl rfl q3 rfl ?_
    refine am_Ex.seg 2 30 [.int a0, .int a1, .int a2, .ref 116, .int a4, .int s0, w6] [.int ((μ 116 ((a1).toNatClampNeg)) &&& (-2)), .int a1, .ref 116] μ (fun _ => rfl) ?_
    refine am_Ex.iast (v2 := ((μ 116 ((a1).toNatClampNeg)) &&& (-2))) (i2 := (a1).toNatClampNeg) rfl rfl q3 rfl rfl ?_
    cases h
    exact am_Ex.vret rfl rfl
set_option maxRecDepth 20000 in
theorem e_fL_goesL (d : Nat) : ∀ {a0 : Int32} {a1 : Int32} {a2 : Int32} {μ : am_Mu} {out : am_Mu}, fL_goesL a0 a1 a2 μ = some out → am_Ex none (d + 0) 94 0 [.int a0, .int a1, .int a2, .ref 116, .null, .null, .null] [] (am_SX (am_TL.take 12)) μ (none, (am_SX (am_TL.take 12)), out) := by
  intro a0 a1 a2 μ out h
  unfold fL_goesL at h
  refine am_Ex.seg 2 2 [.int a0, .int a1, .int a2, .ref 116, .null, .null, .null] [.int a1, .ref 116] μ (fun _ => rfl) ?_
  obtain ⟨q1, h⟩ := am_bif h
  refine am_Ex.iald (v := (μ 116 ((a1).toNatClampNeg))) rfl rfl rfl q1 rfl ?_
  refine am_Ex.seg 2 6 [.int a0, .int a1, .int a2, .ref 116, .int (μ 116 ((a1).toNatClampNeg)), .null, .null] [.int a2] μ (fun _ => rfl) ?_
  rcases am_ite h with ⟨q2, h⟩ | ⟨q2, h⟩
  · refine am_Ex.if_ge_t rfl q2 ?_
    refine am_Ex.seg 2 15 [.int a0, .int a1, .int a2, .ref 116, .int (μ 116 ((a1).toNatClampNeg)), .null, .null] [.int a2, .ref 116] μ (fun _ => rfl) ?_
    obtain ⟨q3, h⟩ := am_bif h
    refine am_Ex.iald (v := (μ 116 ((a2).toNatClampNeg))) rfl rfl rfl q3 rfl ?_
    exact e_fL_goesL_16 d h
  · refine am_Ex.if_ge_f rfl q2 ?_
    refine am_Ex.seg 1 10 [.int a0, .int a1, .int a2, .ref 116, .int (μ 116 ((a1).toNatClampNeg)), .null, .null] [.int 0] μ (fun _ => rfl) ?_
    refine am_Ex.goto rfl ?_
    exact e_fL_goesL_16 d h
def fL_cell (sL : Nat) (sX : Nat → Int32) (a1 : Int32) (μ : am_Mu) : Option (Int32 × am_Mu) := (if (Int32.ofNat sL) ≤ a1 then some (0, μ) else (bif am_inb a1 sL then some ((sX (a1).toNatClampNeg), μ) else none))
set_option maxRecDepth 20000 in
set_option maxHeartbeats 1000000 in
theorem e_fL_cell {sL : Nat} {sX : Nat → Int32} (d : Nat) : ∀ {a1 : Int32} {μ : am_Mu} {out : Int32 × am_Mu}, fL_cell sL sX a1 μ = some out → am_Ex (some (some (sL, sX))) (d + 0) 91 0 [.ref am_SCR, .int a1] [] (am_SX tl) μ (some (.int out.1), (am_SX tl), out.2) := by
  intro a1 μ out h
  unfold fL_cell at h
  refine am_Ex.seg 2 2 [.ref am_SCR, .int a1] [.ref am_SCR, .int a1] μ (fun _ => rfl) ?_
  refine am_Ex.slen rfl ?_
  rcases am_ite h with ⟨q1, h⟩ | ⟨q1, h⟩
  · refine am_Ex.icmp_ge_t rfl q1 ?_
    refine am_Ex.seg 1 13 [.ref am_SCR, .int a1] [.int 0] μ (fun _ => rfl) ?_
    cases h
    exact am_Ex.iret rfl rfl
  · refine am_Ex.icmp_ge_f rfl q1 ?_
    refine am_Ex.seg 2 8 [.ref am_SCR, .int a1] [.int a1, .ref am_SCR] μ (fun _ => rfl) ?_
    obtain ⟨q2, h⟩ := am_bif h
    refine am_Ex.sld rfl q2 ?_
    refine am_Ex.goto rfl ?_
    cases h
    exact am_Ex.iret rfl rfl
end
