def fM_does_169 (k3 : Int32 → Int32 → Int32 → Int32 → Int32 → Int32 → Int32 → Int32 → am_Mu → Option (am_Mu)) (a1 : Int32) (a2 : Int32) (a3 : Int32) (a4 : Int32) (a5 : Int32) (a6 : Int32) (a7 : Int32) (a8 : Int32) (μ : am_Mu) : Option (am_Mu) := k3 a1 a2 a3 a4 a5 a6 a7 (a8 + 1) μ
def fM_does_166 (k3 : Int32 → Int32 → Int32 → Int32 → Int32 → Int32 → Int32 → Int32 → am_Mu → Option (am_Mu)) (a1 : Int32) (a2 : Int32) (a3 : Int32) (a4 : Int32) (a5 : Int32) (a6 : Int32) (a7 : Int32) (a8 : Int32) (s1 : Int32) (s2 : Int32) (s3 : Int32) (s4 : Int32) (μ : am_Mu) : Option (am_Mu) := ((fM_sets s1 s2 s3 s4 μ).bind fun q1 => fM_does_169 k3 a1 a2 a3 a4 a5 a6 a7 a8 q1)
def fM_does_155 (k3 : Int32 → Int32 → Int32 → Int32 → Int32 → Int32 → Int32 → Int32 → am_Mu → Option (am_Mu)) (a1 : Int32) (a2 : Int32) (a3 : Int32) (a4 : Int32) (a5 : Int32) (a6 : Int32) (a7 : Int32) (a8 : Int32) (a12 : Int32) (s1 : Int32) (s2 : Int32) (s3 : Int32) (μ : am_Mu) : Option (am_Mu) := (if a12 = 0 then fM_does_166 k3 a1 a2 a3 a4 a5 a6 a7 a8 s1 s2 s3 0 μ else fM_does_166 k3 a1 a2 a3 a4 a5 a6 a7 a8 s1 s2 s3 a7 μ)
def fM_does_144 (k3 : Int32 → Int32 → Int32 → Int32 → Int32 → Int32 → Int32 → Int32 → am_Mu → Option (am_Mu)) (a1 : Int32) (a2 : Int32) (a3 : Int32) (a4 : Int32) (a5 : Int32) (a6 : Int32) (a7 : Int32) (a8 : Int32) (a12 : Int32) (s1 : Int32) (s2 : Int32) (μ : am_Mu) : Option (am_Mu) := (if a12 = 0 then fM_does_155 k3 a1 a2 a3 a4 a5 a6 a7 a8 a12 s1 s2 0 μ else fM_does_155 k3 a1 a2 a3 a4 a5 a6 a7 a8 a12 s1 s2 a7 μ)
def fM_does_121 (k3 : Int32 → Int32 → Int32 → Int32 → Int32 → Int32 → Int32 → Int32 → am_Mu → Option (am_Mu)) (a1 : Int32) (a2 : Int32) (a3 : Int32) (a4 : Int32) (a5 : Int32) (a6 : Int32) (a7 : Int32) (a8 : Int32) (s1 : Int32) (s2 : Int32) (μ : am_Mu) : Option (am_Mu) := ((fM_joins s1 s2 a7 a7 μ).bind fun q1 => fM_does_169 k3 a1 a2 a3 a4 a5 a6 a7 a8 q1)
def fM_does_101 (k3 : Int32 → Int32 → Int32 → Int32 → Int32 → Int32 → Int32 → Int32 → am_Mu → Option (am_Mu)) (a1 : Int32) (a2 : Int32) (a3 : Int32) (a4 : Int32) (a5 : Int32) (a6 : Int32) (a7 : Int32) (a8 : Int32) (a11 : Int32) (s0 : Int32) (μ : am_Mu) : Option (am_Mu) := (if ¬ a3 = 1 then (if s0 = 0 then fM_does_144 k3 a1 a2 a3 a4 a5 a6 a7 a8 s0 a11 0 μ else fM_does_144 k3 a1 a2 a3 a4 a5 a6 a7 a8 s0 a11 2 μ) else (if s0 = 0 then fM_does_121 k3 a1 a2 a3 a4 a5 a6 a7 a8 a11 0 μ else fM_does_121 k3 a1 a2 a3 a4 a5 a6 a7 a8 a11 2 μ))
def fM_does_58 (k3 : Int32 → Int32 → Int32 → Int32 → Int32 → Int32 → Int32 → Int32 → am_Mu → Option (am_Mu)) (a1 : Int32) (a2 : Int32) (a3 : Int32) (a4 : Int32) (a5 : Int32) (a6 : Int32) (a7 : Int32) (a8 : Int32) (a9 : Int32) (s0 : Int32) (μ : am_Mu) : Option (am_Mu) := (if ¬ s0 = (-1) then (if a9 < 16 then fM_does_101 k3 a1 a2 a3 a4 a5 a6 a7 a8 ((((160 : Int32) * a4) + ((8 : Int32) * s0)) + (a9 - (a9 / 8) * 8)) 0 μ else fM_does_101 k3 a1 a2 a3 a4 a5 a6 a7 a8 ((((160 : Int32) * a4) + ((8 : Int32) * s0)) + (a9 - (a9 / 8) * 8)) 1 μ) else fM_does_169 k3 a1 a2 a3 a4 a5 a6 a7 a8 μ)
def fM_does_3 : Nat → Int32 → Int32 → Int32 → Int32 → Int32 → Int32 → Int32 → Int32 → am_Mu → Option (am_Mu)
  | 0, _, _, _, _, _, _, _, _, _ => none
  | n + 1, a1, a2, a3, a4, a5, a6, a7, a8, μ => (bif am_inb (((24 : Int32) * a1) + a2) 96 then (if (μ 118 (((((24 : Int32) * a1) + a2)).toNatClampNeg)) ≤ a8 then some μ else (if a3 ≤ 0 then some μ else (bif am_inb (((4 : Int32) * (((24 : Int32) * a1) + a2)) + a8) 384 then (if ¬ (((μ 119 (((((4 : Int32) * (((24 : Int32) * a1) + a2)) + a8)).toNatClampNeg)) / 8) - (((μ 119 (((((4 : Int32) * (((24 : Int32) * a1) + a2)) + a8)).toNatClampNeg)) / 8) / 2) * 2) = 0 then fM_does_58 (fM_does_3 n) a1 a2 a3 a4 a5 a6 a7 a8 (μ 119 (((((4 : Int32) * (((24 : Int32) * a1) + a2)) + a8)).toNatClampNeg)) a6 μ else fM_does_58 (fM_does_3 n) a1 a2 a3 a4 a5 a6 a7 a8 (μ 119 (((((4 : Int32) * (((24 : Int32) * a1) + a2)) + a8)).toNatClampNeg)) a5 μ) else none))) else none)
def fM_does (a1 : Int32) (a2 : Int32) (a3 : Int32) (a4 : Int32) (a5 : Int32) (a6 : Int32) (a7 : Int32) (μ : am_Mu) : Option (am_Mu) := fM_does_3 am_F a1 a2 a3 a4 a5 a6 a7 0 μ
set_option maxRecDepth 20000 in
theorem e_fM_does_169 (d : Nat) {k3 : Int32 → Int32 → Int32 → Int32 → Int32 → Int32 → Int32 → Int32 → am_Mu → Option (am_Mu)} (hk3 : ∀ {a1 : Int32} {a2 : Int32} {a3 : Int32} {a4 : Int32} {a5 : Int32} {a6 : Int32} {a7 : Int32} {a8 : Int32} {w9 w10 w11 w12 : Value} {μ : am_Mu} {out : am_Mu}, k3 a1 a2 a3 a4 a5 a6 a7 a8 μ = some out → am_Ex none (d + 2) 192 3 [.ref 108, .int a1, .int a2, .int a3, .int a4, .int a5, .int a6, .int a7, .int a8, w9, w10, w11, w12] [] am_SH μ (none, am_SH, out)) : ∀ {a1 : Int32} {a2 : Int32} {a3 : Int32} {a4 : Int32} {a5 : Int32} {a6 : Int32} {a7 : Int32} {a8 : Int32} {w9 w10 w11 w12 : Value} {μ : am_Mu} {out : am_Mu}, fM_does_169 k3 a1 a2 a3 a4 a5 a6 a7 a8 μ = some out → am_Ex none (d + 2) 192 169 [.ref 108, .int a1, .int a2, .int a3, .int a4, .int a5, .int a6, .int a7, .int a8, w9, w10, w11, w12] [] am_SH μ (none, am_SH, out) := by
  intro a1 a2 a3 a4 a5 a6 a7 a8 w9 w10 w11 w12 μ out h
  unfold fM_does_169 at h
  refine am_Ex.seg 1 172 [.ref 108, .int a1, .int a2, .int a3, .int a4, .int a5, .int a6, .int a7, .int (a8 + 1), w9, w10, w11, w12] [] μ (fun _ => rfl) ?_
  refine am_Ex.goto rfl ?_
  exact hk3 h
set_option maxRecDepth 20000 in
theorem e_fM_does_166 (d : Nat) {k3 : Int32 → Int32 → Int32 → Int32 → Int32 → Int32 → Int32 → Int32 → am_Mu → Option (am_Mu)} (hk3 : ∀ {a1 : Int32} {a2 : Int32} {a3 : Int32} {a4 : Int32} {a5 : Int32} {a6 : Int32} {a7 : Int32} {a8 : Int32} {w9 w10 w11 w12 : Value} {μ : am_Mu} {out : am_Mu}, k3 a1 a2 a3 a4 a5 a6 a7 a8 μ = some out → am_Ex none (d + 2) 192 3 [.ref 108, .int a1, .int a2, .int a3, .int a4, .int a5, .int a6, .int a7, .int a8, w9, w10, w11, w12] [] am_SH μ (none, am_SH, out)) : ∀ {a1 : Int32} {a2 : Int32} {a3 : Int32} {a4 : Int32} {a5 : Int32} {a6 : Int32} {a7 : Int32} {a8 : Int32} {s1 : Int32} {s2 : Int32} {s3 : Int32} {s4 : Int32} {w9 w10 w11 w12 : Value} {μ : am_Mu} {out : am_Mu}, fM_does_166 k3 a1 a2 a3 a4 a5 a6 a7 a8 s1 s2 s3 s4 μ = some out → am_Ex none (d + 2) 192 166 [.ref 108, .int a1, .int a2, .int a3, .int a4, .int a5, .int a6, .int a7, .int a8, w9, w10, w11, w12] [.int s4, .int s3, .int s2, .int s1, .ref 108] am_SH μ (none, am_SH, out) := by
  intro a1 a2 a3 a4 a5 a6 a7 a8 s1 s2 s3 s4 w9 w10 w11 w12 μ out h
  unfold fM_does_166 at h
  obtain ⟨q1, h_q1, h⟩ := am_bind h
  refine am_Ex.ivk (na := 5) (b := 108) (As' := [.int s1, .int s2, .int s3, .int s4]) rfl rfl rfl rfl rfl rfl rfl rfl rfl (e_fM_sets (d + 1) h_q1) ?_
  refine am_Ex.same 169 [.ref 108, .int a1, .int a2, .int a3, .int a4, .int a5, .int a6, .int a7, .int a8, w9, w10, w11, w12] [] q1 rfl ?_
  exact e_fM_does_169 d hk3 h
set_option maxRecDepth 20000 in
theorem e_fM_does_155 (d : Nat) {k3 : Int32 → Int32 → Int32 → Int32 → Int32 → Int32 → Int32 → Int32 → am_Mu → Option (am_Mu)} (hk3 : ∀ {a1 : Int32} {a2 : Int32} {a3 : Int32} {a4 : Int32} {a5 : Int32} {a6 : Int32} {a7 : Int32} {a8 : Int32} {w9 w10 w11 w12 : Value} {μ : am_Mu} {out : am_Mu}, k3 a1 a2 a3 a4 a5 a6 a7 a8 μ = some out → am_Ex none (d + 2) 192 3 [.ref 108, .int a1, .int a2, .int a3, .int a4, .int a5, .int a6, .int a7, .int a8, w9, w10, w11, w12] [] am_SH μ (none, am_SH, out)) : ∀ {a1 : Int32} {a2 : Int32} {a3 : Int32} {a4 : Int32} {a5 : Int32} {a6 : Int32} {a7 : Int32} {a8 : Int32} {a12 : Int32} {s1 : Int32} {s2 : Int32} {s3 : Int32} {w9 w10 w11 : Value} {μ : am_Mu} {out : am_Mu}, fM_does_155 k3 a1 a2 a3 a4 a5 a6 a7 a8 a12 s1 s2 s3 μ = some out → am_Ex none (d + 2) 192 155 [.ref 108, .int a1, .int a2, .int a3, .int a4, .int a5, .int a6, .int a7, .int a8, w9, w10, w11, .int a12] [.int s3, .int s2, .int s1, .ref 108] am_SH μ (none, am_SH, out) := by
  intro a1 a2 a3 a4 a5 a6 a7 a8 a12 s1 s2 s3 w9 w10 w11 μ out h
  unfold fM_does_155 at h
  refine am_Ex.seg 1 157 [.ref 108, .int a1, .int a2, .int a3, .int a4, .int a5, .int a6, .int a7, .int a8, w9, w10, w11, .int a12] [.int a12, .int s3, .int s2, .int s1, .ref 108] μ (fun _ => rfl) ?_
  rcases am_ite h with ⟨q1, h⟩ | ⟨q1, h⟩
  · refine am_Ex.if_eq_t rfl q1 ?_
    refine am_Ex.seg 1 166 [.ref 108, .int a1, .int a2, .int a3, .int a4, .int a5, .int a6, .int a7, .int a8, w9, w10, w11, .int a12] [.int 0, .int s3, .int s2, .int s1, .ref 108] μ (fun _ => rfl) ?_
    exact e_fM_does_166 d hk3 h
  · refine am_Ex.if_eq_f rfl q1 ?_
    refine am_Ex.seg 1 162 [.ref 108, .int a1, .int a2, .int a3, .int a4, .int a5, .int a6, .int a7, .int a8, w9, w10, w11, .int a12] [.int a7, .int s3, .int s2, .int s1, .ref 108] μ (fun _ => rfl) ?_
    refine am_Ex.goto rfl ?_
    exact e_fM_does_166 d hk3 h
set_option maxRecDepth 20000 in
theorem e_fM_does_144 (d : Nat) {k3 : Int32 → Int32 → Int32 → Int32 → Int32 → Int32 → Int32 → Int32 → am_Mu → Option (am_Mu)} (hk3 : ∀ {a1 : Int32} {a2 : Int32} {a3 : Int32} {a4 : Int32} {a5 : Int32} {a6 : Int32} {a7 : Int32} {a8 : Int32} {w9 w10 w11 w12 : Value} {μ : am_Mu} {out : am_Mu}, k3 a1 a2 a3 a4 a5 a6 a7 a8 μ = some out → am_Ex none (d + 2) 192 3 [.ref 108, .int a1, .int a2, .int a3, .int a4, .int a5, .int a6, .int a7, .int a8, w9, w10, w11, w12] [] am_SH μ (none, am_SH, out)) : ∀ {a1 : Int32} {a2 : Int32} {a3 : Int32} {a4 : Int32} {a5 : Int32} {a6 : Int32} {a7 : Int32} {a8 : Int32} {a12 : Int32} {s1 : Int32} {s2 : Int32} {w9 w10 w11 : Value} {μ : am_Mu} {out : am_Mu}, fM_does_144 k3 a1 a2 a3 a4 a5 a6 a7 a8 a12 s1 s2 μ = some out → am_Ex none (d + 2) 192 144 [.ref 108, .int a1, .int a2, .int a3, .int a4, .int a5, .int a6, .int a7, .int a8, w9, w10, w11, .int a12] [.int s2, .int s1, .ref 108] am_SH μ (none, am_SH, out) := by
  intro a1 a2 a3 a4 a5 a6 a7 a8 a12 s1 s2 w9 w10 w11 μ out h
  unfold fM_does_144 at h
  refine am_Ex.seg 1 146 [.ref 108, .int a1, .int a2, .int a3, .int a4, .int a5, .int a6, .int a7, .int a8, w9, w10, w11, .int a12] [.int a12, .int s2, .int s1, .ref 108] μ (fun _ => rfl) ?_
  rcases am_ite h with ⟨q1, h⟩ | ⟨q1, h⟩
  · refine am_Ex.if_eq_t rfl q1 ?_
    refine am_Ex.seg 1 155 [.ref 108, .int a1, .int a2, .int a3, .int a4, .int a5, .int a6, .int a7, .int a8, w9, w10, w11, .int a12] [.int 0, .int s2, .int s1, .ref 108] μ (fun _ => rfl) ?_
    exact e_fM_does_155 d hk3 h
  · refine am_Ex.if_eq_f rfl q1 ?_
    refine am_Ex.seg 1 151 [.ref 108, .int a1, .int a2, .int a3, .int a4, .int a5, .int a6, .int a7, .int a8, w9, w10, w11, .int a12] [.int a7, .int s2, .int s1, .ref 108] μ (fun _ => rfl) ?_
    refine am_Ex.goto rfl ?_
    exact e_fM_does_155 d hk3 h
set_option maxRecDepth 20000 in
theorem e_fM_does_121 (d : Nat) {k3 : Int32 → Int32 → Int32 → Int32 → Int32 → Int32 → Int32 → Int32 → am_Mu → Option (am_Mu)} (hk3 : ∀ {a1 : Int32} {a2 : Int32} {a3 : Int32} {a4 : Int32} {a5 : Int32} {a6 : Int32} {a7 : Int32} {a8 : Int32} {w9 w10 w11 w12 : Value} {μ : am_Mu} {out : am_Mu}, k3 a1 a2 a3 a4 a5 a6 a7 a8 μ = some out → am_Ex none (d + 2) 192 3 [.ref 108, .int a1, .int a2, .int a3, .int a4, .int a5, .int a6, .int a7, .int a8, w9, w10, w11, w12] [] am_SH μ (none, am_SH, out)) : ∀ {a1 : Int32} {a2 : Int32} {a3 : Int32} {a4 : Int32} {a5 : Int32} {a6 : Int32} {a7 : Int32} {a8 : Int32} {s1 : Int32} {s2 : Int32} {w9 w10 w11 w12 : Value} {μ : am_Mu} {out : am_Mu}, fM_does_121 k3 a1 a2 a3 a4 a5 a6 a7 a8 s1 s2 μ = some out → am_Ex none (d + 2) 192 121 [.ref 108, .int a1, .int a2, .int a3, .int a4, .int a5, .int a6, .int a7, .int a8, w9, w10, w11, w12] [.int s2, .int s1, .ref 108] am_SH μ (none, am_SH, out) := by
  intro a1 a2 a3 a4 a5 a6 a7 a8 s1 s2 w9 w10 w11 w12 μ out h
  unfold fM_does_121 at h
  refine am_Ex.seg 2 125 [.ref 108, .int a1, .int a2, .int a3, .int a4, .int a5, .int a6, .int a7, .int a8, w9, w10, w11, w12] [.int a7, .int a7, .int s2, .int s1, .ref 108] μ (fun _ => rfl) ?_
  obtain ⟨q1, h_q1, h⟩ := am_bind h
  refine am_Ex.ivk (na := 5) (b := 108) (As' := [.int s1, .int s2, .int a7, .int a7]) rfl rfl rfl rfl rfl rfl rfl rfl rfl (e_fM_joins (d + 0) h_q1) ?_
  refine am_Ex.same 128 [.ref 108, .int a1, .int a2, .int a3, .int a4, .int a5, .int a6, .int a7, .int a8, w9, w10, w11, w12] [] q1 rfl ?_
  refine am_Ex.goto rfl ?_
  exact e_fM_does_169 d hk3 h
set_option maxRecDepth 20000 in
theorem e_fM_does_101 (d : Nat) {k3 : Int32 → Int32 → Int32 → Int32 → Int32 → Int32 → Int32 → Int32 → am_Mu → Option (am_Mu)} (hk3 : ∀ {a1 : Int32} {a2 : Int32} {a3 : Int32} {a4 : Int32} {a5 : Int32} {a6 : Int32} {a7 : Int32} {a8 : Int32} {w9 w10 w11 w12 : Value} {μ : am_Mu} {out : am_Mu}, k3 a1 a2 a3 a4 a5 a6 a7 a8 μ = some out → am_Ex none (d + 2) 192 3 [.ref 108, .int a1, .int a2, .int a3, .int a4, .int a5, .int a6, .int a7, .int a8, w9, w10, w11, w12] [] am_SH μ (none, am_SH, out)) : ∀ {a1 : Int32} {a2 : Int32} {a3 : Int32} {a4 : Int32} {a5 : Int32} {a6 : Int32} {a7 : Int32} {a8 : Int32} {a11 : Int32} {s0 : Int32} {w9 w10 w12 : Value} {μ : am_Mu} {out : am_Mu}, fM_does_101 k3 a1 a2 a3 a4 a5 a6 a7 a8 a11 s0 μ = some out → am_Ex none (d + 2) 192 101 [.ref 108, .int a1, .int a2, .int a3, .int a4, .int a5, .int a6, .int a7, .int a8, w9, w10, .int a11, w12] [.int s0] am_SH μ (none, am_SH, out) := by
  intro a1 a2 a3 a4 a5 a6 a7 a8 a11 s0 w9 w10 w12 μ out h
  unfold fM_does_101 at h
  refine am_Ex.seg 3 105 [.ref 108, .int a1, .int a2, .int a3, .int a4, .int a5, .int a6, .int a7, .int a8, w9, w10, .int a11, .int s0] [.int 1, .int a3] μ (fun _ => rfl) ?_
  rcases am_ite h with ⟨q1, h⟩ | ⟨q1, h⟩
  · refine am_Ex.icmp_ne_t rfl q1 ?_
    refine am_Ex.seg 3 136 [.ref 108, .int a1, .int a2, .int a3, .int a4, .int a5, .int a6, .int a7, .int a8, w9, w10, .int a11, .int s0] [.int s0, .int a11, .ref 108] μ (fun _ => rfl) ?_
    rcases am_ite h with ⟨q2, h⟩ | ⟨q2, h⟩
    · refine am_Ex.if_eq_t rfl q2 ?_
      refine am_Ex.seg 1 144 [.ref 108, .int a1, .int a2, .int a3, .int a4, .int a5, .int a6, .int a7, .int a8, w9, w10, .int a11, .int s0] [.int 0, .int a11, .ref 108] μ (fun _ => rfl) ?_
      exact e_fM_does_144 d hk3 h
    · refine am_Ex.if_eq_f rfl q2 ?_
      refine am_Ex.seg 1 140 [.ref 108, .int a1, .int a2, .int a3, .int a4, .int a5, .int a6, .int a7, .int a8, w9, w10, .int a11, .int s0] [.int 2, .int a11, .ref 108] μ (fun _ => rfl) ?_
      refine am_Ex.goto rfl ?_
      exact e_fM_does_144 d hk3 h
  · refine am_Ex.icmp_ne_f rfl (Decidable.not_not.mp q1) ?_
    refine am_Ex.seg 3 113 [.ref 108, .int a1, .int a2, .int a3, .int a4, .int a5, .int a6, .int a7, .int a8, w9, w10, .int a11, .int s0] [.int s0, .int a11, .ref 108] μ (fun _ => rfl) ?_
    rcases am_ite h with ⟨q3, h⟩ | ⟨q3, h⟩
    · refine am_Ex.if_eq_t rfl q3 ?_
      refine am_Ex.seg 1 121 [.ref 108, .int a1, .int a2, .int a3, .int a4, .int a5, .int a6, .int a7, .int a8, w9, w10, .int a11, .int s0] [.int 0, .int a11, .ref 108] μ (fun _ => rfl) ?_
      exact e_fM_does_121 d hk3 h
    · refine am_Ex.if_eq_f rfl q3 ?_
      refine am_Ex.seg 1 117 [.ref 108, .int a1, .int a2, .int a3, .int a4, .int a5, .int a6, .int a7, .int a8, w9, w10, .int a11, .int s0] [.int 2, .int a11, .ref 108] μ (fun _ => rfl) ?_
      refine am_Ex.goto rfl ?_
      exact e_fM_does_121 d hk3 h
set_option maxRecDepth 20000 in
theorem e_fM_does_58 (d : Nat) {k3 : Int32 → Int32 → Int32 → Int32 → Int32 → Int32 → Int32 → Int32 → am_Mu → Option (am_Mu)} (hk3 : ∀ {a1 : Int32} {a2 : Int32} {a3 : Int32} {a4 : Int32} {a5 : Int32} {a6 : Int32} {a7 : Int32} {a8 : Int32} {w9 w10 w11 w12 : Value} {μ : am_Mu} {out : am_Mu}, k3 a1 a2 a3 a4 a5 a6 a7 a8 μ = some out → am_Ex none (d + 2) 192 3 [.ref 108, .int a1, .int a2, .int a3, .int a4, .int a5, .int a6, .int a7, .int a8, w9, w10, w11, w12] [] am_SH μ (none, am_SH, out)) : ∀ {a1 : Int32} {a2 : Int32} {a3 : Int32} {a4 : Int32} {a5 : Int32} {a6 : Int32} {a7 : Int32} {a8 : Int32} {a9 : Int32} {s0 : Int32} {w10 w11 w12 : Value} {μ : am_Mu} {out : am_Mu}, fM_does_58 k3 a1 a2 a3 a4 a5 a6 a7 a8 a9 s0 μ = some out → am_Ex none (d + 2) 192 58 [.ref 108, .int a1, .int a2, .int a3, .int a4, .int a5, .int a6, .int a7, .int a8, .int a9, w10, w11, w12] [.int s0] am_SH μ (none, am_SH, out) := by
  intro a1 a2 a3 a4 a5 a6 a7 a8 a9 s0 w10 w11 w12 μ out h
  unfold fM_does_58 at h
  refine am_Ex.seg 3 63 [.ref 108, .int a1, .int a2, .int a3, .int a4, .int a5, .int a6, .int a7, .int a8, .int a9, .int s0, w11, w12] [.int (-1), .int s0] μ (fun _ => rfl) ?_
  rcases am_ite h with ⟨q1, h⟩ | ⟨q1, h⟩
  · refine am_Ex.icmp_ne_t rfl q1 ?_
    refine am_Ex.seg 9 85 [.ref 108, .int a1, .int a2, .int a3, .int a4, .int a5, .int a6, .int a7, .int a8, .int a9, .int s0, w11, w12] [.int 8, .int a9, .int (((160 : Int32) * a4) + ((8 : Int32) * s0))] μ (fun _ => rfl) ?_
    refine am_Ex.irem rfl (by decide) ?_
    refine am_Ex.seg 4 93 [.ref 108, .int a1, .int a2, .int a3, .int a4, .int a5, .int a6, .int a7, .int a8, .int a9, .int s0, .int ((((160 : Int32) * a4) + ((8 : Int32) * s0)) + (a9 - (a9 / 8) * 8)), w12] [.int 16, .int a9] μ (fun _ => rfl) ?_
    rcases am_ite h with ⟨q2, h⟩ | ⟨q2, h⟩
    · refine am_Ex.icmp_lt_t rfl q2 ?_
      refine am_Ex.seg 1 101 [.ref 108, .int a1, .int a2, .int a3, .int a4, .int a5, .int a6, .int a7, .int a8, .int a9, .int s0, .int ((((160 : Int32) * a4) + ((8 : Int32) * s0)) + (a9 - (a9 / 8) * 8)), w12] [.int 0] μ (fun _ => rfl) ?_
      exact e_fM_does_101 d hk3 h
    · refine am_Ex.icmp_lt_f rfl q2 ?_
      refine am_Ex.seg 1 97 [.ref 108, .int a1, .int a2, .int a3, .int a4, .int a5, .int a6, .int a7, .int a8, .int a9, .int s0, .int ((((160 : Int32) * a4) + ((8 : Int32) * s0)) + (a9 - (a9 / 8) * 8)), w12] [.int 1] μ (fun _ => rfl) ?_
      refine am_Ex.goto rfl ?_
      exact e_fM_does_101 d hk3 h
  · refine am_Ex.icmp_ne_f rfl (Decidable.not_not.mp q1) ?_
    refine am_Ex.goto rfl ?_
    exact e_fM_does_169 d hk3 h
set_option maxRecDepth 20000 in
theorem e_fM_does_3 (d : Nat) : ∀ n : Nat, ∀ {a1 : Int32} {a2 : Int32} {a3 : Int32} {a4 : Int32} {a5 : Int32} {a6 : Int32} {a7 : Int32} {a8 : Int32} {w9 w10 w11 w12 : Value} {μ : am_Mu} {out : am_Mu}, fM_does_3 n a1 a2 a3 a4 a5 a6 a7 a8 μ = some out → am_Ex none (d + 2) 192 3 [.ref 108, .int a1, .int a2, .int a3, .int a4, .int a5, .int a6, .int a7, .int a8, w9, w10, w11, w12] [] am_SH μ (none, am_SH, out) := by
  intro n
  induction n with
  | zero => intros; contradiction
  | succ n ih =>
    have hk3 : ∀ {a1 : Int32} {a2 : Int32} {a3 : Int32} {a4 : Int32} {a5 : Int32} {a6 : Int32} {a7 : Int32} {a8 : Int32} {w9 w10 w11 w12 : Value} {μ : am_Mu} {out : am_Mu}, (fM_does_3 n) a1 a2 a3 a4 a5 a6 a7 a8 μ = some out → am_Ex none (d + 2) 192 3 [.ref 108, .int a1, .int a2, .int a3, .int a4, .int a5, .int a6, .int a7, .int a8, w9, w10, w11, w12] [] am_SH μ (none, am_SH, out) := ih
    intro a1 a2 a3 a4 a5 a6 a7 a8 w9 w10 w11 w12 μ out h
    unfold fM_does_3 at h
    refine am_Ex.seg 8 15 [.ref 108, .int a1, .int a2, .int a3, .int a4, .int a5, .int a6, .int a7, .int a8, w9, w10, w11, w12] [.int (((24 : Int32) * a1) + a2), .ref 118, .int a8] μ (fun _ => rfl) ?_
    obtain ⟨q1, h⟩ := am_bif h
    refine am_Ex.iald (v := (μ 118 (((((24 : Int32) * a1) + a2)).toNatClampNeg))) rfl rfl q1 rfl ?_
    rcases am_ite h with ⟨q2, h⟩ | ⟨q2, h⟩
    · refine am_Ex.icmp_ge_t rfl q2 ?_
      cases h
      exact am_Ex.vret rfl rfl
    · refine am_Ex.icmp_ge_f rfl q2 ?_
      refine am_Ex.seg 1 20 [.ref 108, .int a1, .int a2, .int a3, .int a4, .int a5, .int a6, .int a7, .int a8, w9, w10, w11, w12] [.int a3] μ (fun _ => rfl) ?_
      rcases am_ite h with ⟨q3, h⟩ | ⟨q3, h⟩
      · refine am_Ex.if_le_t rfl q3 ?_
        cases h
        exact am_Ex.vret rfl rfl
      · refine am_Ex.if_le_f rfl q3 ?_
        refine am_Ex.seg 11 38 [.ref 108, .int a1, .int a2, .int a3, .int a4, .int a5, .int a6, .int a7, .int a8, w9, w10, w11, w12] [.int (((4 : Int32) * (((24 : Int32) * a1) + a2)) + a8), .ref 119] μ (fun _ => rfl) ?_
        obtain ⟨q4, h⟩ := am_bif h
        refine am_Ex.iald (v := (μ 119 (((((4 : Int32) * (((24 : Int32) * a1) + a2)) + a8)).toNatClampNeg))) rfl rfl q4 rfl ?_
        refine am_Ex.seg 3 45 [.ref 108, .int a1, .int a2, .int a3, .int a4, .int a5, .int a6, .int a7, .int a8, .int (μ 119 (((((4 : Int32) * (((24 : Int32) * a1) + a2)) + a8)).toNatClampNeg)), w10, w11, w12] [.int 8, .int (μ 119 (((((4 : Int32) * (((24 : Int32) * a1) + a2)) + a8)).toNatClampNeg))] μ (fun _ => rfl) ?_
        refine am_Ex.idiv rfl (by decide) ?_
        refine am_Ex.seg 1 47 [.ref 108, .int a1, .int a2, .int a3, .int a4, .int a5, .int a6, .int a7, .int a8, .int (μ 119 (((((4 : Int32) * (((24 : Int32) * a1) + a2)) + a8)).toNatClampNeg)), w10, w11, w12] [.int 2, .int ((μ 119 (((((4 : Int32) * (((24 : Int32) * a1) + a2)) + a8)).toNatClampNeg)) / 8)] μ (fun _ => rfl) ?_
        refine am_Ex.irem rfl (by decide) ?_
        rcases am_ite h with ⟨q5, h⟩ | ⟨q5, h⟩
        · refine am_Ex.if_ne_t rfl q5 ?_
          refine am_Ex.seg 1 58 [.ref 108, .int a1, .int a2, .int a3, .int a4, .int a5, .int a6, .int a7, .int a8, .int (μ 119 (((((4 : Int32) * (((24 : Int32) * a1) + a2)) + a8)).toNatClampNeg)), w10, w11, w12] [.int a6] μ (fun _ => rfl) ?_
          exact e_fM_does_58 d hk3 h
        · refine am_Ex.if_ne_f rfl (Decidable.not_not.mp q5) ?_
          refine am_Ex.seg 1 53 [.ref 108, .int a1, .int a2, .int a3, .int a4, .int a5, .int a6, .int a7, .int a8, .int (μ 119 (((((4 : Int32) * (((24 : Int32) * a1) + a2)) + a8)).toNatClampNeg)), w10, w11, w12] [.int a5] μ (fun _ => rfl) ?_
          refine am_Ex.goto rfl ?_
          exact e_fM_does_58 d hk3 h
set_option maxRecDepth 20000 in
theorem e_fM_does (d : Nat) : ∀ {a1 : Int32} {a2 : Int32} {a3 : Int32} {a4 : Int32} {a5 : Int32} {a6 : Int32} {a7 : Int32} {μ : am_Mu} {out : am_Mu}, fM_does a1 a2 a3 a4 a5 a6 a7 μ = some out → am_Ex none (d + 2) 192 0 [.ref 108, .int a1, .int a2, .int a3, .int a4, .int a5, .int a6, .int a7, .null, .null, .null, .null, .null] [] am_SH μ (none, am_SH, out) := by
  intro a1 a2 a3 a4 a5 a6 a7 μ out h
  unfold fM_does at h
  refine am_Ex.seg 2 3 [.ref 108, .int a1, .int a2, .int a3, .int a4, .int a5, .int a6, .int a7, .int 0, .null, .null, .null, .null] [] μ (fun _ => rfl) ?_
  exact e_fM_does_3 d am_F h
def fM_keeps_124 (k3 : Int32 → Int32 → Int32 → Int32 → am_Mu → Option (am_Mu)) (a1 : Int32) (a2 : Int32) (a3 : Int32) (a4 : Int32) (s1 : Int32) (s2 : Int32) (μ : am_Mu) : Option (am_Mu) := (bif am_inb s1 16 then k3 a1 a2 a3 (a4 + 1) (am_up μ 149 ((s1).toNatClampNeg) s2) else none)
def fM_keeps_100 (k3 : Int32 → Int32 → Int32 → Int32 → am_Mu → Option (am_Mu)) (a1 : Int32) (a2 : Int32) (a3 : Int32) (a4 : Int32) (a5 : Int32) (a6 : Int32) (s1 : Int32) (s2 : Int32) (μ : am_Mu) : Option (am_Mu) := (bif am_inb s1 16 then (if ¬ a5 = (-1) then (bif am_inb a6 320 then fM_keeps_124 k3 a1 a2 a3 a4 a4 (μ 146 ((a6).toNatClampNeg)) (am_up μ 148 ((s1).toNatClampNeg) s2) else none) else fM_keeps_124 k3 a1 a2 a3 a4 a4 0 (am_up μ 148 ((s1).toNatClampNeg) s2)) else none)
def fM_keeps_76 (k3 : Int32 → Int32 → Int32 → Int32 → am_Mu → Option (am_Mu)) (a1 : Int32) (a2 : Int32) (a3 : Int32) (a4 : Int32) (a5 : Int32) (a6 : Int32) (s1 : Int32) (s2 : Int32) (μ : am_Mu) : Option (am_Mu) := (bif am_inb s1 16 then (if ¬ a5 = (-1) then (bif am_inb a6 320 then fM_keeps_100 k3 a1 a2 a3 a4 a5 a6 a4 (μ 145 ((a6).toNatClampNeg)) (am_up μ 147 ((s1).toNatClampNeg) s2) else none) else fM_keeps_100 k3 a1 a2 a3 a4 a5 a6 a4 0 (am_up μ 147 ((s1).toNatClampNeg) s2)) else none)
def fM_keeps_51 (k3 : Int32 → Int32 → Int32 → Int32 → am_Mu → Option (am_Mu)) (a1 : Int32) (a2 : Int32) (a3 : Int32) (a4 : Int32) (a5 : Int32) (s0 : Int32) (μ : am_Mu) : Option (am_Mu) := (if ¬ a5 = (-1) then (bif am_inb s0 320 then fM_keeps_76 k3 a1 a2 a3 a4 a5 s0 a4 (μ 144 ((s0).toNatClampNeg)) μ else none) else fM_keeps_76 k3 a1 a2 a3 a4 a5 s0 a4 0 μ)
def fM_keeps_22 (k3 : Int32 → Int32 → Int32 → Int32 → am_Mu → Option (am_Mu)) (a1 : Int32) (a2 : Int32) (a3 : Int32) (a4 : Int32) (s0 : Int32) (μ : am_Mu) : Option (am_Mu) := (if ¬ s0 = (-1) then fM_keeps_51 k3 a1 a2 a3 a4 s0 ((((160 : Int32) * a1) + ((8 : Int32) * s0)) + (a4 - (a4 / 8) * 8)) μ else fM_keeps_51 k3 a1 a2 a3 a4 s0 0 μ)
def fM_keeps_3 : Nat → Int32 → Int32 → Int32 → Int32 → am_Mu → Option (am_Mu)
  | 0, _, _, _, _, _ => none
  | n + 1, a1, a2, a3, a4, μ => (if 16 ≤ a4 then some μ else (if 8 ≤ a4 then fM_keeps_22 (fM_keeps_3 n) a1 a2 a3 a4 a3 μ else fM_keeps_22 (fM_keeps_3 n) a1 a2 a3 a4 a2 μ))
def fM_keeps (a1 : Int32) (a2 : Int32) (a3 : Int32) (μ : am_Mu) : Option (am_Mu) := fM_keeps_3 am_F a1 a2 a3 0 μ
set_option maxRecDepth 20000 in
theorem e_fM_keeps_124 (d : Nat) {k3 : Int32 → Int32 → Int32 → Int32 → am_Mu → Option (am_Mu)} (hk3 : ∀ {a1 : Int32} {a2 : Int32} {a3 : Int32} {a4 : Int32} {w5 w6 : Value} {μ : am_Mu} {out : am_Mu}, k3 a1 a2 a3 a4 μ = some out → am_Ex none (d + 0) 193 3 [.ref 108, .int a1, .int a2, .int a3, .int a4, w5, w6] [] am_SH μ (none, am_SH, out)) : ∀ {a1 : Int32} {a2 : Int32} {a3 : Int32} {a4 : Int32} {s1 : Int32} {s2 : Int32} {w5 w6 : Value} {μ : am_Mu} {out : am_Mu}, fM_keeps_124 k3 a1 a2 a3 a4 s1 s2 μ = some out → am_Ex none (d + 0) 193 124 [.ref 108, .int a1, .int a2, .int a3, .int a4, w5, w6] [.int s2, .int s1, .ref 149] am_SH μ (none, am_SH, out) := by
  intro a1 a2 a3 a4 s1 s2 w5 w6 μ out h
  unfold fM_keeps_124 at h
  obtain ⟨q1, h⟩ := am_bif h
  refine am_Ex.iast (v2 := s2) (i2 := (s1).toNatClampNeg) rfl rfl q1 rfl rfl ?_
  refine am_Ex.seg 1 128 [.ref 108, .int a1, .int a2, .int a3, .int (a4 + 1), w5, w6] [] (am_up μ 149 ((s1).toNatClampNeg) s2) (fun _ => rfl) ?_
  refine am_Ex.goto rfl ?_
  exact hk3 h
set_option maxRecDepth 20000 in
theorem e_fM_keeps_100 (d : Nat) {k3 : Int32 → Int32 → Int32 → Int32 → am_Mu → Option (am_Mu)} (hk3 : ∀ {a1 : Int32} {a2 : Int32} {a3 : Int32} {a4 : Int32} {w5 w6 : Value} {μ : am_Mu} {out : am_Mu}, k3 a1 a2 a3 a4 μ = some out → am_Ex none (d + 0) 193 3 [.ref 108, .int a1, .int a2, .int a3, .int a4, w5, w6] [] am_SH μ (none, am_SH, out)) : ∀ {a1 : Int32} {a2 : Int32} {a3 : Int32} {a4 : Int32} {a5 : Int32} {a6 : Int32} {s1 : Int32} {s2 : Int32} {μ : am_Mu} {out : am_Mu}, fM_keeps_100 k3 a1 a2 a3 a4 a5 a6 s1 s2 μ = some out → am_Ex none (d + 0) 193 100 [.ref 108, .int a1, .int a2, .int a3, .int a4, .int a5, .int a6] [.int s2, .int s1, .ref 148] am_SH μ (none, am_SH, out) := by
  intro a1 a2 a3 a4 a5 a6 s1 s2 μ out h
  unfold fM_keeps_100 at h
  obtain ⟨q1, h⟩ := am_bif h
  refine am_Ex.iast (v2 := s2) (i2 := (s1).toNatClampNeg) rfl rfl q1 rfl rfl ?_
  refine am_Ex.seg 5 110 [.ref 108, .int a1, .int a2, .int a3, .int a4, .int a5, .int a6] [.int (-1), .int a5, .int a4, .ref 149] (am_up μ 148 ((s1).toNatClampNeg) s2) (fun _ => rfl) ?_
  rcases am_ite h with ⟨q2, h⟩ | ⟨q2, h⟩
  · refine am_Ex.icmp_ne_t rfl q2 ?_
    refine am_Ex.seg 3 123 [.ref 108, .int a1, .int a2, .int a3, .int a4, .int a5, .int a6] [.int a6, .ref 146, .int a4, .ref 149] (am_up μ 148 ((s1).toNatClampNeg) s2) (fun _ => rfl) ?_
    obtain ⟨q3, h⟩ := am_bif h
    refine am_Ex.iald (v := (μ 146 ((a6).toNatClampNeg))) rfl rfl q3 ((am_up_k (by decide)).trans rfl) ?_
    exact e_fM_keeps_124 d hk3 h
  · refine am_Ex.icmp_ne_f rfl (Decidable.not_not.mp q2) ?_
    refine am_Ex.seg 1 114 [.ref 108, .int a1, .int a2, .int a3, .int a4, .int a5, .int a6] [.int 0, .int a4, .ref 149] (am_up μ 148 ((s1).toNatClampNeg) s2) (fun _ => rfl) ?_
    refine am_Ex.goto rfl ?_
    exact e_fM_keeps_124 d hk3 h
set_option maxRecDepth 20000 in
theorem e_fM_keeps_76 (d : Nat) {k3 : Int32 → Int32 → Int32 → Int32 → am_Mu → Option (am_Mu)} (hk3 : ∀ {a1 : Int32} {a2 : Int32} {a3 : Int32} {a4 : Int32} {w5 w6 : Value} {μ : am_Mu} {out : am_Mu}, k3 a1 a2 a3 a4 μ = some out → am_Ex none (d + 0) 193 3 [.ref 108, .int a1, .int a2, .int a3, .int a4, w5, w6] [] am_SH μ (none, am_SH, out)) : ∀ {a1 : Int32} {a2 : Int32} {a3 : Int32} {a4 : Int32} {a5 : Int32} {a6 : Int32} {s1 : Int32} {s2 : Int32} {μ : am_Mu} {out : am_Mu}, fM_keeps_76 k3 a1 a2 a3 a4 a5 a6 s1 s2 μ = some out → am_Ex none (d + 0) 193 76 [.ref 108, .int a1, .int a2, .int a3, .int a4, .int a5, .int a6] [.int s2, .int s1, .ref 147] am_SH μ (none, am_SH, out) := by
  intro a1 a2 a3 a4 a5 a6 s1 s2 μ out h
  unfold fM_keeps_76 at h
  obtain ⟨q1, h⟩ := am_bif h
  refine am_Ex.iast (v2 := s2) (i2 := (s1).toNatClampNeg) rfl rfl q1 rfl rfl ?_
  refine am_Ex.seg 5 86 [.ref 108, .int a1, .int a2, .int a3, .int a4, .int a5, .int a6] [.int (-1), .int a5, .int a4, .ref 148] (am_up μ 147 ((s1).toNatClampNeg) s2) (fun _ => rfl) ?_
  rcases am_ite h with ⟨q2, h⟩ | ⟨q2, h⟩
  · refine am_Ex.icmp_ne_t rfl q2 ?_
    refine am_Ex.seg 3 99 [.ref 108, .int a1, .int a2, .int a3, .int a4, .int a5, .int a6] [.int a6, .ref 145, .int a4, .ref 148] (am_up μ 147 ((s1).toNatClampNeg) s2) (fun _ => rfl) ?_
    obtain ⟨q3, h⟩ := am_bif h
    refine am_Ex.iald (v := (μ 145 ((a6).toNatClampNeg))) rfl rfl q3 ((am_up_k (by decide)).trans rfl) ?_
    exact e_fM_keeps_100 d hk3 h
  · refine am_Ex.icmp_ne_f rfl (Decidable.not_not.mp q2) ?_
    refine am_Ex.seg 1 90 [.ref 108, .int a1, .int a2, .int a3, .int a4, .int a5, .int a6] [.int 0, .int a4, .ref 148] (am_up μ 147 ((s1).toNatClampNeg) s2) (fun _ => rfl) ?_
    refine am_Ex.goto rfl ?_
    exact e_fM_keeps_100 d hk3 h
set_option maxRecDepth 20000 in
theorem e_fM_keeps_51 (d : Nat) {k3 : Int32 → Int32 → Int32 → Int32 → am_Mu → Option (am_Mu)} (hk3 : ∀ {a1 : Int32} {a2 : Int32} {a3 : Int32} {a4 : Int32} {w5 w6 : Value} {μ : am_Mu} {out : am_Mu}, k3 a1 a2 a3 a4 μ = some out → am_Ex none (d + 0) 193 3 [.ref 108, .int a1, .int a2, .int a3, .int a4, w5, w6] [] am_SH μ (none, am_SH, out)) : ∀ {a1 : Int32} {a2 : Int32} {a3 : Int32} {a4 : Int32} {a5 : Int32} {s0 : Int32} {w6 : Value} {μ : am_Mu} {out : am_Mu}, fM_keeps_51 k3 a1 a2 a3 a4 a5 s0 μ = some out → am_Ex none (d + 0) 193 51 [.ref 108, .int a1, .int a2, .int a3, .int a4, .int a5, w6] [.int s0] am_SH μ (none, am_SH, out) := by
  intro a1 a2 a3 a4 a5 s0 w6 μ out h
  unfold fM_keeps_51 at h
  refine am_Ex.seg 6 62 [.ref 108, .int a1, .int a2, .int a3, .int a4, .int a5, .int s0] [.int (-1), .int a5, .int a4, .ref 147] μ (fun _ => rfl) ?_
  rcases am_ite h with ⟨q1, h⟩ | ⟨q1, h⟩
  · refine am_Ex.icmp_ne_t rfl q1 ?_
    refine am_Ex.seg 3 75 [.ref 108, .int a1, .int a2, .int a3, .int a4, .int a5, .int s0] [.int s0, .ref 144, .int a4, .ref 147] μ (fun _ => rfl) ?_
    obtain ⟨q2, h⟩ := am_bif h
    refine am_Ex.iald (v := (μ 144 ((s0).toNatClampNeg))) rfl rfl q2 rfl ?_
    exact e_fM_keeps_76 d hk3 h
  · refine am_Ex.icmp_ne_f rfl (Decidable.not_not.mp q1) ?_
    refine am_Ex.seg 1 66 [.ref 108, .int a1, .int a2, .int a3, .int a4, .int a5, .int s0] [.int 0, .int a4, .ref 147] μ (fun _ => rfl) ?_
    refine am_Ex.goto rfl ?_
    exact e_fM_keeps_76 d hk3 h
set_option maxRecDepth 20000 in
theorem e_fM_keeps_22 (d : Nat) {k3 : Int32 → Int32 → Int32 → Int32 → am_Mu → Option (am_Mu)} (hk3 : ∀ {a1 : Int32} {a2 : Int32} {a3 : Int32} {a4 : Int32} {w5 w6 : Value} {μ : am_Mu} {out : am_Mu}, k3 a1 a2 a3 a4 μ = some out → am_Ex none (d + 0) 193 3 [.ref 108, .int a1, .int a2, .int a3, .int a4, w5, w6] [] am_SH μ (none, am_SH, out)) : ∀ {a1 : Int32} {a2 : Int32} {a3 : Int32} {a4 : Int32} {s0 : Int32} {w5 w6 : Value} {μ : am_Mu} {out : am_Mu}, fM_keeps_22 k3 a1 a2 a3 a4 s0 μ = some out → am_Ex none (d + 0) 193 22 [.ref 108, .int a1, .int a2, .int a3, .int a4, w5, w6] [.int s0] am_SH μ (none, am_SH, out) := by
  intro a1 a2 a3 a4 s0 w5 w6 μ out h
  unfold fM_keeps_22 at h
  refine am_Ex.seg 3 27 [.ref 108, .int a1, .int a2, .int a3, .int a4, .int s0, w6] [.int (-1), .int s0] μ (fun _ => rfl) ?_
  rcases am_ite h with ⟨q1, h⟩ | ⟨q1, h⟩
  · refine am_Ex.icmp_ne_t rfl q1 ?_
    refine am_Ex.seg 9 49 [.ref 108, .int a1, .int a2, .int a3, .int a4, .int s0, w6] [.int 8, .int a4, .int (((160 : Int32) * a1) + ((8 : Int32) * s0))] μ (fun _ => rfl) ?_
    refine am_Ex.irem rfl (by decide) ?_
    refine am_Ex.seg 1 51 [.ref 108, .int a1, .int a2, .int a3, .int a4, .int s0, w6] [.int ((((160 : Int32) * a1) + ((8 : Int32) * s0)) + (a4 - (a4 / 8) * 8))] μ (fun _ => rfl) ?_
    exact e_fM_keeps_51 d hk3 h
  · refine am_Ex.icmp_ne_f rfl (Decidable.not_not.mp q1) ?_
    refine am_Ex.seg 1 31 [.ref 108, .int a1, .int a2, .int a3, .int a4, .int s0, w6] [.int 0] μ (fun _ => rfl) ?_
    refine am_Ex.goto rfl ?_
    exact e_fM_keeps_51 d hk3 h
set_option maxRecDepth 20000 in
theorem e_fM_keeps_3 (d : Nat) : ∀ n : Nat, ∀ {a1 : Int32} {a2 : Int32} {a3 : Int32} {a4 : Int32} {w5 w6 : Value} {μ : am_Mu} {out : am_Mu}, fM_keeps_3 n a1 a2 a3 a4 μ = some out → am_Ex none (d + 0) 193 3 [.ref 108, .int a1, .int a2, .int a3, .int a4, w5, w6] [] am_SH μ (none, am_SH, out) := by
  intro n
  induction n with
  | zero => intros; contradiction
  | succ n ih =>
    have hk3 : ∀ {a1 : Int32} {a2 : Int32} {a3 : Int32} {a4 : Int32} {w5 w6 : Value} {μ : am_Mu} {out : am_Mu}, (fM_keeps_3 n) a1 a2 a3 a4 μ = some out → am_Ex none (d + 0) 193 3 [.ref 108, .int a1, .int a2, .int a3, .int a4, w5, w6] [] am_SH μ (none, am_SH, out) := ih
    intro a1 a2 a3 a4 w5 w6 μ out h
    unfold fM_keeps_3 at h
    refine am_Ex.seg 2 7 [.ref 108, .int a1, .int a2, .int a3, .int a4, w5, w6] [.int 16, .int a4] μ (fun _ => rfl) ?_
    rcases am_ite h with ⟨q1, h⟩ | ⟨q1, h⟩
    · refine am_Ex.icmp_ge_t rfl q1 ?_
      cases h
      exact am_Ex.vret rfl rfl
    · refine am_Ex.icmp_ge_f rfl q1 ?_
      refine am_Ex.seg 2 14 [.ref 108, .int a1, .int a2, .int a3, .int a4, w5, w6] [.int 8, .int a4] μ (fun _ => rfl) ?_
      rcases am_ite h with ⟨q2, h⟩ | ⟨q2, h⟩
      · refine am_Ex.icmp_ge_t rfl q2 ?_
        refine am_Ex.seg 1 22 [.ref 108, .int a1, .int a2, .int a3, .int a4, w5, w6] [.int a3] μ (fun _ => rfl) ?_
        exact e_fM_keeps_22 d hk3 h
      · refine am_Ex.icmp_ge_f rfl q2 ?_
        refine am_Ex.seg 1 18 [.ref 108, .int a1, .int a2, .int a3, .int a4, w5, w6] [.int a2] μ (fun _ => rfl) ?_
        refine am_Ex.goto rfl ?_
        exact e_fM_keeps_22 d hk3 h
set_option maxRecDepth 20000 in
theorem e_fM_keeps (d : Nat) : ∀ {a1 : Int32} {a2 : Int32} {a3 : Int32} {μ : am_Mu} {out : am_Mu}, fM_keeps a1 a2 a3 μ = some out → am_Ex none (d + 0) 193 0 [.ref 108, .int a1, .int a2, .int a3, .null, .null, .null] [] am_SH μ (none, am_SH, out) := by
  intro a1 a2 a3 μ out h
  unfold fM_keeps at h
  refine am_Ex.seg 2 3 [.ref 108, .int a1, .int a2, .int a3, .int 0, .null, .null] [] μ (fun _ => rfl) ?_
  exact e_fM_keeps_3 d am_F h
def fM_lawOf_32 (s0 : Int32) (μ : am_Mu) : Option (Int32 × am_Mu) := some ((s0 + 0), μ)
def fM_lawOf (a1 : Int32) (a2 : Int32) (μ : am_Mu) : Option (Int32 × am_Mu) := (bif am_inb (((2 : Int32) * a1) + 1) 4 then (if (μ 114 (((((2 : Int32) * a1) + 1)).toNatClampNeg)) ≤ 0 then fM_lawOf_32 ((2 : Int32) * a1) μ else ((fM_isFeastDay (a2 / 1440) μ).bind fun q3 => (if q3.1 = 0 then fM_lawOf_32 ((2 : Int32) * a1) q3.2 else some ((((2 : Int32) * a1) + 1), q3.2)))) else none)
set_option maxRecDepth 20000 in
theorem e_fM_lawOf_32 (d : Nat) : ∀ {s0 : Int32} {w0 w1 w2 : Value} {μ : am_Mu} {out : Int32 × am_Mu}, fM_lawOf_32 s0 μ = some out → am_Ex none (d + 3) 194 32 [w0, w1, w2] [.int s0] am_SH μ (some (.int out.1), am_SH, out.2) := by
  intro s0 w0 w1 w2 μ out h
  unfold fM_lawOf_32 at h
  refine am_Ex.seg 1 33 [w0, w1, w2] [.int 0, .int s0] μ (fun _ => rfl) ?_
  refine am_Ex.seg 1 34 [w0, w1, w2] [.int (s0 + 0)] μ (fun _ => rfl) ?_
  cases h
  exact am_Ex.iret rfl rfl
set_option maxRecDepth 20000 in
theorem e_fM_lawOf (d : Nat) : ∀ {a1 : Int32} {a2 : Int32} {μ : am_Mu} {out : Int32 × am_Mu}, fM_lawOf a1 a2 μ = some out → am_Ex none (d + 3) 194 0 [.ref 108, .int a1, .int a2] [] am_SH μ (some (.int out.1), am_SH, out.2) := by
  intro a1 a2 μ out h
  unfold fM_lawOf at h
  refine am_Ex.seg 10 12 [.ref 108, .int a1, .int a2] [.int (((2 : Int32) * a1) + 1), .ref 114, .int ((2 : Int32) * a1)] μ (fun _ => rfl) ?_
  obtain ⟨q1, h⟩ := am_bif h
  refine am_Ex.iald (v := (μ 114 (((((2 : Int32) * a1) + 1)).toNatClampNeg))) rfl rfl q1 rfl ?_
  rcases am_ite h with ⟨q2, h⟩ | ⟨q2, h⟩
  · refine am_Ex.if_le_t rfl q2 ?_
    exact e_fM_lawOf_32 d h
  · refine am_Ex.if_le_f rfl q2 ?_
    refine am_Ex.seg 3 21 [.ref 108, .int a1, .int a2] [.int 1440, .int a2, .ref 108, .int ((2 : Int32) * a1)] μ (fun _ => rfl) ?_
    refine am_Ex.idiv rfl (by decide) ?_
    obtain ⟨q3, h_q3, h⟩ := am_bind h
    refine am_Ex.ivk (na := 2) (b := 108) (As' := [.int (a2 / 1440)]) rfl rfl rfl rfl rfl rfl rfl rfl rfl (e_fM_isFeastDay (d + 0) h_q3) ?_
    refine am_Ex.same 25 [.ref 108, .int a1, .int a2] [.int q3.1, .int ((2 : Int32) * a1)] q3.2 rfl ?_
    rcases am_ite h with ⟨q4, h⟩ | ⟨q4, h⟩
    · refine am_Ex.if_eq_t rfl q4 ?_
      exact e_fM_lawOf_32 d h
    · refine am_Ex.if_eq_f rfl q4 ?_
      refine am_Ex.seg 1 29 [.ref 108, .int a1, .int a2] [.int 1, .int ((2 : Int32) * a1)] q3.2 (fun _ => rfl) ?_
      refine am_Ex.goto rfl ?_
      refine am_Ex.seg 1 34 [.ref 108, .int a1, .int a2] [.int (((2 : Int32) * a1) + 1)] q3.2 (fun _ => rfl) ?_
      cases h
      exact am_Ex.iret rfl rfl
def fM_acts_224 (k148 : Int32 → Int32 → Int32 → Int32 → Int32 → am_Mu → Option (am_Mu)) (a2 : Int32) (a4 : Int32) (a5 : Int32) (a7 : Int32) (a9 : Int32) (μ : am_Mu) : Option (am_Mu) := k148 a2 a4 a5 a7 (a9 + 1) μ
def fM_acts_174 (k148 : Int32 → Int32 → Int32 → Int32 → Int32 → am_Mu → Option (am_Mu)) (a2 : Int32) (a4 : Int32) (a5 : Int32) (a7 : Int32) (a9 : Int32) (s0 : Int32) (μ : am_Mu) : Option (am_Mu) := (if s0 = (-1) then fM_acts_224 k148 a2 a4 a5 a7 a9 μ else (bif am_inb a9 16 then ((fM_joins ((((160 : Int32) * a2) + ((8 : Int32) * s0)) + (a9 - (a9 / 8) * 8)) (μ 147 ((a9).toNatClampNeg)) (μ 148 ((a9).toNatClampNeg)) (μ 149 ((a9).toNatClampNeg)) μ).bind fun q3 => fM_acts_224 k148 a2 a4 a5 a7 a9 q3) else none))
def fM_acts_148 : Nat → Int32 → Int32 → Int32 → Int32 → Int32 → am_Mu → Option (am_Mu)
  | 0, _, _, _, _, _, _ => none
  | n + 1, a2, a4, a5, a7, a9, μ => (if 16 ≤ a9 then some μ else (if ¬ a7 = 0 then some μ else (if 8 ≤ a9 then fM_acts_174 (fM_acts_148 n) a2 a4 a5 a7 a9 a5 μ else fM_acts_174 (fM_acts_148 n) a2 a4 a5 a7 a9 a4 μ)))
def fM_acts_145 (a2 : Int32) (a4 : Int32) (a5 : Int32) (a7 : Int32) (μ : am_Mu) : Option (am_Mu) := fM_acts_148 am_F a2 a4 a5 a7 0 μ
def fM_acts_139 (k21 : Int32 → Int32 → Int32 → Int32 → Int32 → Int32 → Int32 → Int32 → am_Mu → Option (am_Mu)) (a2 : Int32) (a3 : Int32) (a4 : Int32) (a5 : Int32) (a6 : Int32) (a7 : Int32) (a8 : Int32) (a9 : Int32) (μ : am_Mu) : Option (am_Mu) := k21 a2 a3 a4 a5 a6 a7 a8 (a9 + 1) μ
def fM_acts_133 (k21 : Int32 → Int32 → Int32 → Int32 → Int32 → Int32 → Int32 → Int32 → am_Mu → Option (am_Mu)) (k43 : Int32 → Int32 → Int32 → Int32 → Int32 → Int32 → Int32 → Int32 → Int32 → Int32 → am_Mu → Option (am_Mu)) (a2 : Int32) (a3 : Int32) (a4 : Int32) (a5 : Int32) (a6 : Int32) (a7 : Int32) (a8 : Int32) (a9 : Int32) (a10 : Int32) (a11 : Int32) (μ : am_Mu) : Option (am_Mu) := k43 a2 a3 a4 a5 a6 a7 a8 a9 a10 (a11 + 1) μ
def fM_acts_128 (k21 : Int32 → Int32 → Int32 → Int32 → Int32 → Int32 → Int32 → Int32 → am_Mu → Option (am_Mu)) (k43 : Int32 → Int32 → Int32 → Int32 → Int32 → Int32 → Int32 → Int32 → Int32 → Int32 → am_Mu → Option (am_Mu)) (a2 : Int32) (a3 : Int32) (a4 : Int32) (a5 : Int32) (a6 : Int32) (a7 : Int32) (a8 : Int32) (a9 : Int32) (a10 : Int32) (a11 : Int32) (s1 : Int32) (s2 : Int32) (s3 : Int32) (s4 : Int32) (s5 : Int32) (s6 : Int32) (μ : am_Mu) : Option (am_Mu) := ((fM_does s1 s2 s3 s4 s5 s6 a6 μ).bind fun q1 => fM_acts_133 k21 k43 a2 a3 a4 a5 a6 a7 a8 a9 a10 a11 q1)
def fM_acts_116 (k21 : Int32 → Int32 → Int32 → Int32 → Int32 → Int32 → Int32 → Int32 → am_Mu → Option (am_Mu)) (k43 : Int32 → Int32 → Int32 → Int32 → Int32 → Int32 → Int32 → Int32 → Int32 → Int32 → am_Mu → Option (am_Mu)) (a2 : Int32) (a3 : Int32) (a4 : Int32) (a5 : Int32) (a6 : Int32) (a7 : Int32) (a8 : Int32) (a9 : Int32) (a10 : Int32) (a11 : Int32) (s1 : Int32) (s2 : Int32) (s3 : Int32) (s4 : Int32) (s5 : Int32) (μ : am_Mu) : Option (am_Mu) := (if a10 = 0 then fM_acts_128 k21 k43 a2 a3 a4 a5 a6 a7 a8 a9 a10 a11 s1 s2 s3 s4 s5 a5 μ else fM_acts_128 k21 k43 a2 a3 a4 a5 a6 a7 a8 a9 a10 a11 s1 s2 s3 s4 s5 a4 μ)
def fM_acts_66 (k21 : Int32 → Int32 → Int32 → Int32 → Int32 → Int32 → Int32 → Int32 → am_Mu → Option (am_Mu)) (k43 : Int32 → Int32 → Int32 → Int32 → Int32 → Int32 → Int32 → Int32 → Int32 → Int32 → am_Mu → Option (am_Mu)) (a2 : Int32) (a3 : Int32) (a4 : Int32) (a5 : Int32) (a6 : Int32) (a7 : Int32) (a8 : Int32) (a9 : Int32) (a10 : Int32) (a11 : Int32) (μ : am_Mu) : Option (am_Mu) := (bif am_inb (((24 : Int32) * a8) + a11) 96 then (if (μ 115 (((((24 : Int32) * a8) + a11)).toNatClampNeg)) = a3 then ((fM_holds a8 a11 a10 a6 μ).bind fun q3 => (if a10 = 0 then fM_acts_116 k21 k43 a2 a3 a4 a5 a6 a7 a8 a9 a10 a11 a8 a11 q3.1 a2 a4 q3.2 else fM_acts_116 k21 k43 a2 a3 a4 a5 a6 a7 a8 a9 a10 a11 a8 a11 q3.1 a2 a5 q3.2)) else fM_acts_133 k21 k43 a2 a3 a4 a5 a6 a7 a8 a9 a10 a11 μ) else none)
def fM_acts_43 : Nat → (Int32 → Int32 → Int32 → Int32 → Int32 → Int32 → Int32 → Int32 → am_Mu → Option (am_Mu)) → Int32 → Int32 → Int32 → Int32 → Int32 → Int32 → Int32 → Int32 → Int32 → Int32 → am_Mu → Option (am_Mu)
  | 0, _, _, _, _, _, _, _, _, _, _, _, _ => none
  | n + 1, k21, a2, a3, a4, a5, a6, a7, a8, a9, a10, a11, μ => (bif am_inb a8 4 then (if (μ 114 ((a8).toNatClampNeg)) ≤ a11 then fM_acts_139 k21 a2 a3 a4 a5 a6 a7 a8 a9 μ else (if a10 = 0 then fM_acts_66 k21 (fM_acts_43 n k21) a2 a3 a4 a5 a6 a7 a8 a9 a10 a11 μ else (if a5 = (-1) then fM_acts_139 k21 a2 a3 a4 a5 a6 a7 a8 a9 μ else fM_acts_66 k21 (fM_acts_43 n k21) a2 a3 a4 a5 a6 a7 a8 a9 a10 a11 μ))) else none)
def fM_acts_38 (k21 : Int32 → Int32 → Int32 → Int32 → Int32 → Int32 → Int32 → Int32 → am_Mu → Option (am_Mu)) (a2 : Int32) (a3 : Int32) (a4 : Int32) (a5 : Int32) (a6 : Int32) (a7 : Int32) (a8 : Int32) (a9 : Int32) (s0 : Int32) (μ : am_Mu) : Option (am_Mu) := fM_acts_43 am_F k21 a2 a3 a4 a5 a6 a7 a8 a9 s0 0 μ
def fM_acts_21 : Nat → Int32 → Int32 → Int32 → Int32 → Int32 → Int32 → Int32 → Int32 → am_Mu → Option (am_Mu)
  | 0, _, _, _, _, _, _, _, _, _ => none
  | n + 1, a2, a3, a4, a5, a6, a7, a8, a9, μ => (if 2 ≤ a9 then fM_acts_145 a2 a4 a5 a7 μ else (if ¬ a9 = 1 then fM_acts_38 (fM_acts_21 n) a2 a3 a4 a5 a6 a7 a8 a9 0 μ else fM_acts_38 (fM_acts_21 n) a2 a3 a4 a5 a6 a7 a8 a9 1 μ))
def fM_acts (a1 : Int32) (a2 : Int32) (a3 : Int32) (a4 : Int32) (a5 : Int32) (a6 : Int32) (a7 : Int32) (μ : am_Mu) : Option (am_Mu) := ((fM_keeps a2 a4 a5 μ).bind fun q1 => ((fM_lawOf a1 a6 q1).bind fun q2 => fM_acts_21 am_F a2 a3 a4 a5 a6 a7 q2.1 0 q2.2))
set_option maxRecDepth 20000 in
theorem e_fM_acts_224 (d : Nat) {k148 : Int32 → Int32 → Int32 → Int32 → Int32 → am_Mu → Option (am_Mu)} (hk148 : ∀ {a2 : Int32} {a4 : Int32} {a5 : Int32} {a7 : Int32} {a9 : Int32} {w1 w3 w6 w8 w10 w11 : Value} {μ : am_Mu} {out : am_Mu}, k148 a2 a4 a5 a7 a9 μ = some out → am_Ex none (d + 4) 195 148 [.ref 108, w1, .int a2, w3, .int a4, .int a5, w6, .int a7, w8, .int a9, w10, w11] [] am_SH μ (none, am_SH, out)) : ∀ {a2 : Int32} {a4 : Int32} {a5 : Int32} {a7 : Int32} {a9 : Int32} {w1 w3 w6 w8 w10 w11 : Value} {μ : am_Mu} {out : am_Mu}, fM_acts_224 k148 a2 a4 a5 a7 a9 μ = some out → am_Ex none (d + 4) 195 224 [.ref 108, w1, .int a2, w3, .int a4, .int a5, w6, .int a7, w8, .int a9, w10, w11] [] am_SH μ (none, am_SH, out) := by
  intro a2 a4 a5 a7 a9 w1 w3 w6 w8 w10 w11 μ out h
  unfold fM_acts_224 at h
  refine am_Ex.seg 1 227 [.ref 108, w1, .int a2, w3, .int a4, .int a5, w6, .int a7, w8, .int (a9 + 1), w10, w11] [] μ (fun _ => rfl) ?_
  refine am_Ex.goto rfl ?_
  exact hk148 h
set_option maxRecDepth 20000 in
theorem e_fM_acts_174 (d : Nat) {k148 : Int32 → Int32 → Int32 → Int32 → Int32 → am_Mu → Option (am_Mu)} (hk148 : ∀ {a2 : Int32} {a4 : Int32} {a5 : Int32} {a7 : Int32} {a9 : Int32} {w1 w3 w6 w8 w10 w11 : Value} {μ : am_Mu} {out : am_Mu}, k148 a2 a4 a5 a7 a9 μ = some out → am_Ex none (d + 4) 195 148 [.ref 108, w1, .int a2, w3, .int a4, .int a5, w6, .int a7, w8, .int a9, w10, w11] [] am_SH μ (none, am_SH, out)) : ∀ {a2 : Int32} {a4 : Int32} {a5 : Int32} {a7 : Int32} {a9 : Int32} {s0 : Int32} {w1 w3 w6 w8 w10 w11 : Value} {μ : am_Mu} {out : am_Mu}, fM_acts_174 k148 a2 a4 a5 a7 a9 s0 μ = some out → am_Ex none (d + 4) 195 174 [.ref 108, w1, .int a2, w3, .int a4, .int a5, w6, .int a7, w8, .int a9, w10, w11] [.int s0] am_SH μ (none, am_SH, out) := by
  intro a2 a4 a5 a7 a9 s0 w1 w3 w6 w8 w10 w11 μ out h
  unfold fM_acts_174 at h
  refine am_Ex.seg 3 179 [.ref 108, w1, .int a2, w3, .int a4, .int a5, w6, .int a7, w8, .int a9, .int s0, w11] [.int (-1), .int s0] μ (fun _ => rfl) ?_
  rcases am_ite h with ⟨q1, h⟩ | ⟨q1, h⟩
  · refine am_Ex.icmp_eq_t rfl q1 ?_
    exact e_fM_acts_224 d hk148 h
  · refine am_Ex.icmp_eq_f rfl q1 ?_
    refine am_Ex.seg 10 198 [.ref 108, w1, .int a2, w3, .int a4, .int a5, w6, .int a7, w8, .int a9, .int s0, w11] [.int 8, .int a9, .int (((160 : Int32) * a2) + ((8 : Int32) * s0)), .ref 108] μ (fun _ => rfl) ?_
    refine am_Ex.irem rfl (by decide) ?_
    refine am_Ex.seg 4 206 [.ref 108, w1, .int a2, w3, .int a4, .int a5, w6, .int a7, w8, .int a9, .int s0, w11] [.int a9, .ref 147, .int ((((160 : Int32) * a2) + ((8 : Int32) * s0)) + (a9 - (a9 / 8) * 8)), .ref 108] μ (fun _ => rfl) ?_
    obtain ⟨q2, h⟩ := am_bif h
    refine am_Ex.iald (v := (μ 147 ((a9).toNatClampNeg))) rfl rfl q2 rfl ?_
    refine am_Ex.seg 3 213 [.ref 108, w1, .int a2, w3, .int a4, .int a5, w6, .int a7, w8, .int a9, .int s0, w11] [.int a9, .ref 148, .int (μ 147 ((a9).toNatClampNeg)), .int ((((160 : Int32) * a2) + ((8 : Int32) * s0)) + (a9 - (a9 / 8) * 8)), .ref 108] μ (fun _ => rfl) ?_
    refine am_Ex.iald (v := (μ 148 ((a9).toNatClampNeg))) rfl rfl q2 rfl ?_
    refine am_Ex.seg 3 220 [.ref 108, w1, .int a2, w3, .int a4, .int a5, w6, .int a7, w8, .int a9, .int s0, w11] [.int a9, .ref 149, .int (μ 148 ((a9).toNatClampNeg)), .int (μ 147 ((a9).toNatClampNeg)), .int ((((160 : Int32) * a2) + ((8 : Int32) * s0)) + (a9 - (a9 / 8) * 8)), .ref 108] μ (fun _ => rfl) ?_
    refine am_Ex.iald (v := (μ 149 ((a9).toNatClampNeg))) rfl rfl q2 rfl ?_
    obtain ⟨q3, h_q3, h⟩ := am_bind h
    refine am_Ex.ivk (na := 5) (b := 108) (As' := [.int ((((160 : Int32) * a2) + ((8 : Int32) * s0)) + (a9 - (a9 / 8) * 8)), .int (μ 147 ((a9).toNatClampNeg)), .int (μ 148 ((a9).toNatClampNeg)), .int (μ 149 ((a9).toNatClampNeg))]) rfl rfl rfl rfl rfl rfl rfl rfl rfl (e_fM_joins (d + 2) h_q3) ?_
    refine am_Ex.same 224 [.ref 108, w1, .int a2, w3, .int a4, .int a5, w6, .int a7, w8, .int a9, .int s0, w11] [] q3 rfl ?_
    exact e_fM_acts_224 d hk148 h
set_option maxRecDepth 20000 in
theorem e_fM_acts_148 (d : Nat) : ∀ n : Nat, ∀ {a2 : Int32} {a4 : Int32} {a5 : Int32} {a7 : Int32} {a9 : Int32} {w1 w3 w6 w8 w10 w11 : Value} {μ : am_Mu} {out : am_Mu}, fM_acts_148 n a2 a4 a5 a7 a9 μ = some out → am_Ex none (d + 4) 195 148 [.ref 108, w1, .int a2, w3, .int a4, .int a5, w6, .int a7, w8, .int a9, w10, w11] [] am_SH μ (none, am_SH, out) := by
  intro n
  induction n with
  | zero => intros; contradiction
  | succ n ih =>
    have hk148 : ∀ {a2 : Int32} {a4 : Int32} {a5 : Int32} {a7 : Int32} {a9 : Int32} {w1 w3 w6 w8 w10 w11 : Value} {μ : am_Mu} {out : am_Mu}, (fM_acts_148 n) a2 a4 a5 a7 a9 μ = some out → am_Ex none (d + 4) 195 148 [.ref 108, w1, .int a2, w3, .int a4, .int a5, w6, .int a7, w8, .int a9, w10, w11] [] am_SH μ (none, am_SH, out) := ih
    intro a2 a4 a5 a7 a9 w1 w3 w6 w8 w10 w11 μ out h
    unfold fM_acts_148 at h
    refine am_Ex.seg 2 152 [.ref 108, w1, .int a2, w3, .int a4, .int a5, w6, .int a7, w8, .int a9, w10, w11] [.int 16, .int a9] μ (fun _ => rfl) ?_
    rcases am_ite h with ⟨q1, h⟩ | ⟨q1, h⟩
    · refine am_Ex.icmp_ge_t rfl q1 ?_
      cases h
      exact am_Ex.vret rfl rfl
    · refine am_Ex.icmp_ge_f rfl q1 ?_
      refine am_Ex.seg 1 157 [.ref 108, w1, .int a2, w3, .int a4, .int a5, w6, .int a7, w8, .int a9, w10, w11] [.int a7] μ (fun _ => rfl) ?_
      rcases am_ite h with ⟨q2, h⟩ | ⟨q2, h⟩
      · refine am_Ex.if_ne_t rfl q2 ?_
        cases h
        exact am_Ex.vret rfl rfl
      · refine am_Ex.if_ne_f rfl (Decidable.not_not.mp q2) ?_
        refine am_Ex.seg 2 164 [.ref 108, w1, .int a2, w3, .int a4, .int a5, w6, .int a7, w8, .int a9, w10, w11] [.int 8, .int a9] μ (fun _ => rfl) ?_
        rcases am_ite h with ⟨q3, h⟩ | ⟨q3, h⟩
        · refine am_Ex.icmp_ge_t rfl q3 ?_
          refine am_Ex.seg 1 174 [.ref 108, w1, .int a2, w3, .int a4, .int a5, w6, .int a7, w8, .int a9, w10, w11] [.int a5] μ (fun _ => rfl) ?_
          exact e_fM_acts_174 d hk148 h
        · refine am_Ex.icmp_ge_f rfl q3 ?_
          refine am_Ex.seg 1 169 [.ref 108, w1, .int a2, w3, .int a4, .int a5, w6, .int a7, w8, .int a9, w10, w11] [.int a4] μ (fun _ => rfl) ?_
          refine am_Ex.goto rfl ?_
          exact e_fM_acts_174 d hk148 h
set_option maxRecDepth 20000 in
theorem e_fM_acts_145 (d : Nat) : ∀ {a2 : Int32} {a4 : Int32} {a5 : Int32} {a7 : Int32} {w1 w3 w6 w8 w9 w10 w11 : Value} {μ : am_Mu} {out : am_Mu}, fM_acts_145 a2 a4 a5 a7 μ = some out → am_Ex none (d + 4) 195 145 [.ref 108, w1, .int a2, w3, .int a4, .int a5, w6, .int a7, w8, w9, w10, w11] [] am_SH μ (none, am_SH, out) := by
  intro a2 a4 a5 a7 w1 w3 w6 w8 w9 w10 w11 μ out h
  unfold fM_acts_145 at h
  refine am_Ex.seg 2 148 [.ref 108, w1, .int a2, w3, .int a4, .int a5, w6, .int a7, w8, .int 0, w10, w11] [] μ (fun _ => rfl) ?_
  exact e_fM_acts_148 d am_F h
set_option maxRecDepth 20000 in
theorem e_fM_acts_139 (d : Nat) {k21 : Int32 → Int32 → Int32 → Int32 → Int32 → Int32 → Int32 → Int32 → am_Mu → Option (am_Mu)} (hk21 : ∀ {a2 : Int32} {a3 : Int32} {a4 : Int32} {a5 : Int32} {a6 : Int32} {a7 : Int32} {a8 : Int32} {a9 : Int32} {w1 w10 w11 : Value} {μ : am_Mu} {out : am_Mu}, k21 a2 a3 a4 a5 a6 a7 a8 a9 μ = some out → am_Ex none (d + 4) 195 21 [.ref 108, w1, .int a2, .int a3, .int a4, .int a5, .int a6, .int a7, .int a8, .int a9, w10, w11] [] am_SH μ (none, am_SH, out)) : ∀ {a2 : Int32} {a3 : Int32} {a4 : Int32} {a5 : Int32} {a6 : Int32} {a7 : Int32} {a8 : Int32} {a9 : Int32} {w1 w10 w11 : Value} {μ : am_Mu} {out : am_Mu}, fM_acts_139 k21 a2 a3 a4 a5 a6 a7 a8 a9 μ = some out → am_Ex none (d + 4) 195 139 [.ref 108, w1, .int a2, .int a3, .int a4, .int a5, .int a6, .int a7, .int a8, .int a9, w10, w11] [] am_SH μ (none, am_SH, out) := by
  intro a2 a3 a4 a5 a6 a7 a8 a9 w1 w10 w11 μ out h
  unfold fM_acts_139 at h
  refine am_Ex.seg 1 142 [.ref 108, w1, .int a2, .int a3, .int a4, .int a5, .int a6, .int a7, .int a8, .int (a9 + 1), w10, w11] [] μ (fun _ => rfl) ?_
  refine am_Ex.goto rfl ?_
  exact hk21 h
set_option maxRecDepth 20000 in
theorem e_fM_acts_133 (d : Nat) {k21 : Int32 → Int32 → Int32 → Int32 → Int32 → Int32 → Int32 → Int32 → am_Mu → Option (am_Mu)} {k43 : Int32 → Int32 → Int32 → Int32 → Int32 → Int32 → Int32 → Int32 → Int32 → Int32 → am_Mu → Option (am_Mu)} (hk21 : ∀ {a2 : Int32} {a3 : Int32} {a4 : Int32} {a5 : Int32} {a6 : Int32} {a7 : Int32} {a8 : Int32} {a9 : Int32} {w1 w10 w11 : Value} {μ : am_Mu} {out : am_Mu}, k21 a2 a3 a4 a5 a6 a7 a8 a9 μ = some out → am_Ex none (d + 4) 195 21 [.ref 108, w1, .int a2, .int a3, .int a4, .int a5, .int a6, .int a7, .int a8, .int a9, w10, w11] [] am_SH μ (none, am_SH, out)) (hk43 : ∀ {a2 : Int32} {a3 : Int32} {a4 : Int32} {a5 : Int32} {a6 : Int32} {a7 : Int32} {a8 : Int32} {a9 : Int32} {a10 : Int32} {a11 : Int32} {w1 : Value} {μ : am_Mu} {out : am_Mu}, k43 a2 a3 a4 a5 a6 a7 a8 a9 a10 a11 μ = some out → am_Ex none (d + 4) 195 43 [.ref 108, w1, .int a2, .int a3, .int a4, .int a5, .int a6, .int a7, .int a8, .int a9, .int a10, .int a11] [] am_SH μ (none, am_SH, out)) : ∀ {a2 : Int32} {a3 : Int32} {a4 : Int32} {a5 : Int32} {a6 : Int32} {a7 : Int32} {a8 : Int32} {a9 : Int32} {a10 : Int32} {a11 : Int32} {w1 : Value} {μ : am_Mu} {out : am_Mu}, fM_acts_133 k21 k43 a2 a3 a4 a5 a6 a7 a8 a9 a10 a11 μ = some out → am_Ex none (d + 4) 195 133 [.ref 108, w1, .int a2, .int a3, .int a4, .int a5, .int a6, .int a7, .int a8, .int a9, .int a10, .int a11] [] am_SH μ (none, am_SH, out) := by
  intro a2 a3 a4 a5 a6 a7 a8 a9 a10 a11 w1 μ out h
  unfold fM_acts_133 at h
  refine am_Ex.seg 1 136 [.ref 108, w1, .int a2, .int a3, .int a4, .int a5, .int a6, .int a7, .int a8, .int a9, .int a10, .int (a11 + 1)] [] μ (fun _ => rfl) ?_
  refine am_Ex.goto rfl ?_
  exact hk43 h
set_option maxRecDepth 20000 in
theorem e_fM_acts_128 (d : Nat) {k21 : Int32 → Int32 → Int32 → Int32 → Int32 → Int32 → Int32 → Int32 → am_Mu → Option (am_Mu)} {k43 : Int32 → Int32 → Int32 → Int32 → Int32 → Int32 → Int32 → Int32 → Int32 → Int32 → am_Mu → Option (am_Mu)} (hk21 : ∀ {a2 : Int32} {a3 : Int32} {a4 : Int32} {a5 : Int32} {a6 : Int32} {a7 : Int32} {a8 : Int32} {a9 : Int32} {w1 w10 w11 : Value} {μ : am_Mu} {out : am_Mu}, k21 a2 a3 a4 a5 a6 a7 a8 a9 μ = some out → am_Ex none (d + 4) 195 21 [.ref 108, w1, .int a2, .int a3, .int a4, .int a5, .int a6, .int a7, .int a8, .int a9, w10, w11] [] am_SH μ (none, am_SH, out)) (hk43 : ∀ {a2 : Int32} {a3 : Int32} {a4 : Int32} {a5 : Int32} {a6 : Int32} {a7 : Int32} {a8 : Int32} {a9 : Int32} {a10 : Int32} {a11 : Int32} {w1 : Value} {μ : am_Mu} {out : am_Mu}, k43 a2 a3 a4 a5 a6 a7 a8 a9 a10 a11 μ = some out → am_Ex none (d + 4) 195 43 [.ref 108, w1, .int a2, .int a3, .int a4, .int a5, .int a6, .int a7, .int a8, .int a9, .int a10, .int a11] [] am_SH μ (none, am_SH, out)) : ∀ {a2 : Int32} {a3 : Int32} {a4 : Int32} {a5 : Int32} {a6 : Int32} {a7 : Int32} {a8 : Int32} {a9 : Int32} {a10 : Int32} {a11 : Int32} {s1 : Int32} {s2 : Int32} {s3 : Int32} {s4 : Int32} {s5 : Int32} {s6 : Int32} {w1 : Value} {μ : am_Mu} {out : am_Mu}, fM_acts_128 k21 k43 a2 a3 a4 a5 a6 a7 a8 a9 a10 a11 s1 s2 s3 s4 s5 s6 μ = some out → am_Ex none (d + 4) 195 128 [.ref 108, w1, .int a2, .int a3, .int a4, .int a5, .int a6, .int a7, .int a8, .int a9, .int a10, .int a11] [.int s6, .int s5, .int s4, .int s3, .int s2, .int s1, .ref 108] am_SH μ (none, am_SH, out) := by
  intro a2 a3 a4 a5 a6 a7 a8 a9 a10 a11 s1 s2 s3 s4 s5 s6 w1 μ out h
  unfold fM_acts_128 at h
  refine am_Ex.seg 1 130 [.ref 108, w1, .int a2, .int a3, .int a4, .int a5, .int a6, .int a7, .int a8, .int a9, .int a10, .int a11] [.int a6, .int s6, .int s5, .int s4, .int s3, .int s2, .int s1, .ref 108] μ (fun _ => rfl) ?_
  obtain ⟨q1, h_q1, h⟩ := am_bind h
  refine am_Ex.ivk (na := 8) (b := 108) (As' := [.int s1, .int s2, .int s3, .int s4, .int s5, .int s6, .int a6]) rfl rfl rfl rfl rfl rfl rfl rfl rfl (e_fM_does (d + 1) h_q1) ?_
  refine am_Ex.same 133 [.ref 108, w1, .int a2, .int a3, .int a4, .int a5, .int a6, .int a7, .int a8, .int a9, .int a10, .int a11] [] q1 rfl ?_
  exact e_fM_acts_133 d hk21 hk43 h
set_option maxRecDepth 20000 in
theorem e_fM_acts_116 (d : Nat) {k21 : Int32 → Int32 → Int32 → Int32 → Int32 → Int32 → Int32 → Int32 → am_Mu → Option (am_Mu)} {k43 : Int32 → Int32 → Int32 → Int32 → Int32 → Int32 → Int32 → Int32 → Int32 → Int32 → am_Mu → Option (am_Mu)} (hk21 : ∀ {a2 : Int32} {a3 : Int32} {a4 : Int32} {a5 : Int32} {a6 : Int32} {a7 : Int32} {a8 : Int32} {a9 : Int32} {w1 w10 w11 : Value} {μ : am_Mu} {out : am_Mu}, k21 a2 a3 a4 a5 a6 a7 a8 a9 μ = some out → am_Ex none (d + 4) 195 21 [.ref 108, w1, .int a2, .int a3, .int a4, .int a5, .int a6, .int a7, .int a8, .int a9, w10, w11] [] am_SH μ (none, am_SH, out)) (hk43 : ∀ {a2 : Int32} {a3 : Int32} {a4 : Int32} {a5 : Int32} {a6 : Int32} {a7 : Int32} {a8 : Int32} {a9 : Int32} {a10 : Int32} {a11 : Int32} {w1 : Value} {μ : am_Mu} {out : am_Mu}, k43 a2 a3 a4 a5 a6 a7 a8 a9 a10 a11 μ = some out → am_Ex none (d + 4) 195 43 [.ref 108, w1, .int a2, .int a3, .int a4, .int a5, .int a6, .int a7, .int a8, .int a9, .int a10, .int a11] [] am_SH μ (none, am_SH, out)) : ∀ {a2 : Int32} {a3 : Int32} {a4 : Int32} {a5 : Int32} {a6 : Int32} {a7 : Int32} {a8 : Int32} {a9 : Int32} {a10 : Int32} {a11 : Int32} {s1 : Int32} {s2 : Int32} {s3 : Int32} {s4 : Int32} {s5 : Int32} {w1 : Value} {μ : am_Mu} {out : am_Mu}, fM_acts_116 k21 k43 a2 a3 a4 a5 a6 a7 a8 a9 a10 a11 s1 s2 s3 s4 s5 μ = some out → am_Ex none (d + 4) 195 116 [.ref 108, w1, .int a2, .int a3, .int a4, .int a5, .int a6, .int a7, .int a8, .int a9, .int a10, .int a11] [.int s5, .int s4, .int s3, .int s2, .int s1, .ref 108] am_SH μ (none, am_SH, out) := by
  intro a2 a3 a4 a5 a6 a7 a8 a9 a10 a11 s1 s2 s3 s4 s5 w1 μ out h
  unfold fM_acts_116 at h
  refine am_Ex.seg 1 118 [.ref 108, w1, .int a2, .int a3, .int a4, .int a5, .int a6, .int a7, .int a8, .int a9, .int a10, .int a11] [.int a10, .int s5, .int s4, .int s3, .int s2, .int s1, .ref 108] μ (fun _ => rfl) ?_
  rcases am_ite h with ⟨q1, h⟩ | ⟨q1, h⟩
  · refine am_Ex.if_eq_t rfl q1 ?_
    refine am_Ex.seg 1 128 [.ref 108, w1, .int a2, .int a3, .int a4, .int a5, .int a6, .int a7, .int a8, .int a9, .int a10, .int a11] [.int a5, .int s5, .int s4, .int s3, .int s2, .int s1, .ref 108] μ (fun _ => rfl) ?_
    exact e_fM_acts_128 d hk21 hk43 h
  · refine am_Ex.if_eq_f rfl q1 ?_
    refine am_Ex.seg 1 123 [.ref 108, w1, .int a2, .int a3, .int a4, .int a5, .int a6, .int a7, .int a8, .int a9, .int a10, .int a11] [.int a4, .int s5, .int s4, .int s3, .int s2, .int s1, .ref 108] μ (fun _ => rfl) ?_
    refine am_Ex.goto rfl ?_
    exact e_fM_acts_128 d hk21 hk43 h
set_option maxRecDepth 20000 in
theorem e_fM_acts_66 (d : Nat) {k21 : Int32 → Int32 → Int32 → Int32 → Int32 → Int32 → Int32 → Int32 → am_Mu → Option (am_Mu)} {k43 : Int32 → Int32 → Int32 → Int32 → Int32 → Int32 → Int32 → Int32 → Int32 → Int32 → am_Mu → Option (am_Mu)} (hk21 : ∀ {a2 : Int32} {a3 : Int32} {a4 : Int32} {a5 : Int32} {a6 : Int32} {a7 : Int32} {a8 : Int32} {a9 : Int32} {w1 w10 w11 : Value} {μ : am_Mu} {out : am_Mu}, k21 a2 a3 a4 a5 a6 a7 a8 a9 μ = some out → am_Ex none (d + 4) 195 21 [.ref 108, w1, .int a2, .int a3, .int a4, .int a5, .int a6, .int a7, .int a8, .int a9, w10, w11] [] am_SH μ (none, am_SH, out)) (hk43 : ∀ {a2 : Int32} {a3 : Int32} {a4 : Int32} {a5 : Int32} {a6 : Int32} {a7 : Int32} {a8 : Int32} {a9 : Int32} {a10 : Int32} {a11 : Int32} {w1 : Value} {μ : am_Mu} {out : am_Mu}, k43 a2 a3 a4 a5 a6 a7 a8 a9 a10 a11 μ = some out → am_Ex none (d + 4) 195 43 [.ref 108, w1, .int a2, .int a3, .int a4, .int a5, .int a6, .int a7, .int a8, .int a9, .int a10, .int a11] [] am_SH μ (none, am_SH, out)) : ∀ {a2 : Int32} {a3 : Int32} {a4 : Int32} {a5 : Int32} {a6 : Int32} {a7 : Int32} {a8 : Int32} {a9 : Int32} {a10 : Int32} {a11 : Int32} {w1 : Value} {μ : am_Mu} {out : am_Mu}, fM_acts_66 k21 k43 a2 a3 a4 a5 a6 a7 a8 a9 a10 a11 μ = some out → am_Ex none (d + 4) 195 66 [.ref 108, w1, .int a2, .int a3, .int a4, .int a5, .int a6, .int a7, .int a8, .int a9, .int a10, .int a11] [] am_SH μ (none, am_SH, out) := by
  intro a2 a3 a4 a5 a6 a7 a8 a9 a10 a11 w1 μ out h
  unfold fM_acts_66 at h
  refine am_Ex.seg 7 78 [.ref 108, w1, .int a2, .int a3, .int a4, .int a5, .int a6, .int a7, .int a8, .int a9, .int a10, .int a11] [.int (((24 : Int32) * a8) + a11), .ref 115] μ (fun _ => rfl) ?_
  obtain ⟨q1, h⟩ := am_bif h
  refine am_Ex.iald (v := (μ 115 (((((24 : Int32) * a8) + a11)).toNatClampNeg))) rfl rfl q1 rfl ?_
  refine am_Ex.seg 1 80 [.ref 108, w1, .int a2, .int a3, .int a4, .int a5, .int a6, .int a7, .int a8, .int a9, .int a10, .int a11] [.int a3, .int (μ 115 (((((24 : Int32) * a8) + a11)).toNatClampNeg))] μ (fun _ => rfl) ?_
  rcases am_ite h with ⟨q2, h⟩ | ⟨q2, h⟩
  · refine am_Ex.icmp_eq_t rfl q2 ?_
    refine am_Ex.seg 8 100 [.ref 108, w1, .int a2, .int a3, .int a4, .int a5, .int a6, .int a7, .int a8, .int a9, .int a10, .int a11] [.int a6, .int a10, .int a11, .int a8, .ref 108, .int a11, .int a8, .ref 108] μ (fun _ => rfl) ?_
    obtain ⟨q3, h_q3, h⟩ := am_bind h
    refine am_Ex.ivk (na := 5) (b := 108) (As' := [.int a8, .int a11, .int a10, .int a6]) rfl rfl rfl rfl rfl rfl rfl rfl rfl (e_fM_holds (d + 2) h_q3) ?_
    refine am_Ex.same 103 [.ref 108, w1, .int a2, .int a3, .int a4, .int a5, .int a6, .int a7, .int a8, .int a9, .int a10, .int a11] [.int q3.1, .int a11, .int a8, .ref 108] q3.2 rfl ?_
    refine am_Ex.seg 2 106 [.ref 108, w1, .int a2, .int a3, .int a4, .int a5, .int a6, .int a7, .int a8, .int a9, .int a10, .int a11] [.int a10, .int a2, .int q3.1, .int a11, .int a8, .ref 108] q3.2 (fun _ => rfl) ?_
    rcases am_ite h with ⟨q4, h⟩ | ⟨q4, h⟩
    · refine am_Ex.if_eq_t rfl q4 ?_
      refine am_Ex.seg 1 116 [.ref 108, w1, .int a2, .int a3, .int a4, .int a5, .int a6, .int a7, .int a8, .int a9, .int a10, .int a11] [.int a4, .int a2, .int q3.1, .int a11, .int a8, .ref 108] q3.2 (fun _ => rfl) ?_
      exact e_fM_acts_116 d hk21 hk43 h
    · refine am_Ex.if_eq_f rfl q4 ?_
      refine am_Ex.seg 1 111 [.ref 108, w1, .int a2, .int a3, .int a4, .int a5, .int a6, .int a7, .int a8, .int a9, .int a10, .int a11] [.int a5, .int a2, .int q3.1, .int a11, .int a8, .ref 108] q3.2 (fun _ => rfl) ?_
      refine am_Ex.goto rfl ?_
      exact e_fM_acts_116 d hk21 hk43 h
  · refine am_Ex.icmp_eq_f rfl q2 ?_
    refine am_Ex.goto rfl ?_
    exact e_fM_acts_133 d hk21 hk43 h
set_option maxRecDepth 20000 in
theorem e_fM_acts_43 (d : Nat) {k21 : Int32 → Int32 → Int32 → Int32 → Int32 → Int32 → Int32 → Int32 → am_Mu → Option (am_Mu)} (hk21 : ∀ {a2 : Int32} {a3 : Int32} {a4 : Int32} {a5 : Int32} {a6 : Int32} {a7 : Int32} {a8 : Int32} {a9 : Int32} {w1 w10 w11 : Value} {μ : am_Mu} {out : am_Mu}, k21 a2 a3 a4 a5 a6 a7 a8 a9 μ = some out → am_Ex none (d + 4) 195 21 [.ref 108, w1, .int a2, .int a3, .int a4, .int a5, .int a6, .int a7, .int a8, .int a9, w10, w11] [] am_SH μ (none, am_SH, out)) : ∀ n : Nat, ∀ {a2 : Int32} {a3 : Int32} {a4 : Int32} {a5 : Int32} {a6 : Int32} {a7 : Int32} {a8 : Int32} {a9 : Int32} {a10 : Int32} {a11 : Int32} {w1 : Value} {μ : am_Mu} {out : am_Mu}, fM_acts_43 n k21 a2 a3 a4 a5 a6 a7 a8 a9 a10 a11 μ = some out → am_Ex none (d + 4) 195 43 [.ref 108, w1, .int a2, .int a3, .int a4, .int a5, .int a6, .int a7, .int a8, .int a9, .int a10, .int a11] [] am_SH μ (none, am_SH, out) := by
  intro n
  induction n with
  | zero => intros; contradiction
  | succ n ih =>
    have hk43 : ∀ {a2 : Int32} {a3 : Int32} {a4 : Int32} {a5 : Int32} {a6 : Int32} {a7 : Int32} {a8 : Int32} {a9 : Int32} {a10 : Int32} {a11 : Int32} {w1 : Value} {μ : am_Mu} {out : am_Mu}, (fM_acts_43 n k21) a2 a3 a4 a5 a6 a7 a8 a9 a10 a11 μ = some out → am_Ex none (d + 4) 195 43 [.ref 108, w1, .int a2, .int a3, .int a4, .int a5, .int a6, .int a7, .int a8, .int a9, .int a10, .int a11] [] am_SH μ (none, am_SH, out) := ih
    intro a2 a3 a4 a5 a6 a7 a8 a9 a10 a11 w1 μ out h
    unfold fM_acts_43 at h
    refine am_Ex.seg 4 51 [.ref 108, w1, .int a2, .int a3, .int a4, .int a5, .int a6, .int a7, .int a8, .int a9, .int a10, .int a11] [.int a8, .ref 114, .int a11] μ (fun _ => rfl) ?_
    obtain ⟨q1, h⟩ := am_bif h
    refine am_Ex.iald (v := (μ 114 ((a8).toNatClampNeg))) rfl rfl q1 rfl ?_
    rcases am_ite h with ⟨q2, h⟩ | ⟨q2, h⟩
    · refine am_Ex.icmp_ge_t rfl q2 ?_
      exact e_fM_acts_139 d hk21 h
    · refine am_Ex.icmp_ge_f rfl q2 ?_
      refine am_Ex.seg 1 57 [.ref 108, w1, .int a2, .int a3, .int a4, .int a5, .int a6, .int a7, .int a8, .int a9, .int a10, .int a11] [.int a10] μ (fun _ => rfl) ?_
      rcases am_ite h with ⟨q3, h⟩ | ⟨q3, h⟩
      · refine am_Ex.if_eq_t rfl q3 ?_
        exact e_fM_acts_66 d hk21 hk43 h
      · refine am_Ex.if_eq_f rfl q3 ?_
        refine am_Ex.seg 2 63 [.ref 108, w1, .int a2, .int a3, .int a4, .int a5, .int a6, .int a7, .int a8, .int a9, .int a10, .int a11] [.int (-1), .int a5] μ (fun _ => rfl) ?_
        rcases am_ite h with ⟨q4, h⟩ | ⟨q4, h⟩
        · refine am_Ex.icmp_eq_t rfl q4 ?_
          exact e_fM_acts_139 d hk21 h
        · refine am_Ex.icmp_eq_f rfl q4 ?_
          exact e_fM_acts_66 d hk21 hk43 h
set_option maxRecDepth 20000 in
theorem e_fM_acts_38 (d : Nat) {k21 : Int32 → Int32 → Int32 → Int32 → Int32 → Int32 → Int32 → Int32 → am_Mu → Option (am_Mu)} (hk21 : ∀ {a2 : Int32} {a3 : Int32} {a4 : Int32} {a5 : Int32} {a6 : Int32} {a7 : Int32} {a8 : Int32} {a9 : Int32} {w1 w10 w11 : Value} {μ : am_Mu} {out : am_Mu}, k21 a2 a3 a4 a5 a6 a7 a8 a9 μ = some out → am_Ex none (d + 4) 195 21 [.ref 108, w1, .int a2, .int a3, .int a4, .int a5, .int a6, .int a7, .int a8, .int a9, w10, w11] [] am_SH μ (none, am_SH, out)) : ∀ {a2 : Int32} {a3 : Int32} {a4 : Int32} {a5 : Int32} {a6 : Int32} {a7 : Int32} {a8 : Int32} {a9 : Int32} {s0 : Int32} {w1 w10 w11 : Value} {μ : am_Mu} {out : am_Mu}, fM_acts_38 k21 a2 a3 a4 a5 a6 a7 a8 a9 s0 μ = some out → am_Ex none (d + 4) 195 38 [.ref 108, w1, .int a2, .int a3, .int a4, .int a5, .int a6, .int a7, .int a8, .int a9, w10, w11] [.int s0] am_SH μ (none, am_SH, out) := by
  intro a2 a3 a4 a5 a6 a7 a8 a9 s0 w1 w10 w11 μ out h
  unfold fM_acts_38 at h
  refine am_Ex.seg 3 43 [.ref 108, w1, .int a2, .int a3, .int a4, .int a5, .int a6, .int a7, .int a8, .int a9, .int s0, .int 0] [] μ (fun _ => rfl) ?_
  exact e_fM_acts_43 d hk21 am_F h
set_option maxRecDepth 20000 in
theorem e_fM_acts_21 (d : Nat) : ∀ n : Nat, ∀ {a2 : Int32} {a3 : Int32} {a4 : Int32} {a5 : Int32} {a6 : Int32} {a7 : Int32} {a8 : Int32} {a9 : Int32} {w1 w10 w11 : Value} {μ : am_Mu} {out : am_Mu}, fM_acts_21 n a2 a3 a4 a5 a6 a7 a8 a9 μ = some out → am_Ex none (d + 4) 195 21 [.ref 108, w1, .int a2, .int a3, .int a4, .int a5, .int a6, .int a7, .int a8, .int a9, w10, w11] [] am_SH μ (none, am_SH, out) := by
  intro n
  induction n with
  | zero => intros; contradiction
  | succ n ih =>
    have hk21 : ∀ {a2 : Int32} {a3 : Int32} {a4 : Int32} {a5 : Int32} {a6 : Int32} {a7 : Int32} {a8 : Int32} {a9 : Int32} {w1 w10 w11 : Value} {μ : am_Mu} {out : am_Mu}, (fM_acts_21 n) a2 a3 a4 a5 a6 a7 a8 a9 μ = some out → am_Ex none (d + 4) 195 21 [.ref 108, w1, .int a2, .int a3, .int a4, .int a5, .int a6, .int a7, .int a8, .int a9, w10, w11] [] am_SH μ (none, am_SH, out) := ih
    intro a2 a3 a4 a5 a6 a7 a8 a9 w1 w10 w11 μ out h
    unfold fM_acts_21 at h
    refine am_Ex.seg 2 24 [.ref 108, w1, .int a2, .int a3, .int a4, .int a5, .int a6, .int a7, .int a8, .int a9, w10, w11] [.int 2, .int a9] μ (fun _ => rfl) ?_
    rcases am_ite h with ⟨q1, h⟩ | ⟨q1, h⟩
    · refine am_Ex.icmp_ge_t rfl q1 ?_
      exact e_fM_acts_145 d h
    · refine am_Ex.icmp_ge_f rfl q1 ?_
      refine am_Ex.seg 2 30 [.ref 108, w1, .int a2, .int a3, .int a4, .int a5, .int a6, .int a7, .int a8, .int a9, w10, w11] [.int 1, .int a9] μ (fun _ => rfl) ?_
      rcases am_ite h with ⟨q2, h⟩ | ⟨q2, h⟩
      · refine am_Ex.icmp_ne_t rfl q2 ?_
        refine am_Ex.seg 1 38 [.ref 108, w1, .int a2, .int a3, .int a4, .int a5, .int a6, .int a7, .int a8, .int a9, w10, w11] [.int 0] μ (fun _ => rfl) ?_
        exact e_fM_acts_38 d hk21 h
      · refine am_Ex.icmp_ne_f rfl (Decidable.not_not.mp q2) ?_
        refine am_Ex.seg 1 34 [.ref 108, w1, .int a2, .int a3, .int a4, .int a5, .int a6, .int a7, .int a8, .int a9, w10, w11] [.int 1] μ (fun _ => rfl) ?_
        refine am_Ex.goto rfl ?_
        exact e_fM_acts_38 d hk21 h
set_option maxRecDepth 20000 in
theorem e_fM_acts (d : Nat) : ∀ {a1 : Int32} {a2 : Int32} {a3 : Int32} {a4 : Int32} {a5 : Int32} {a6 : Int32} {a7 : Int32} {μ : am_Mu} {out : am_Mu}, fM_acts a1 a2 a3 a4 a5 a6 a7 μ = some out → am_Ex none (d + 4) 195 0 [.ref 108, .int a1, .int a2, .int a3, .int a4, .int a5, .int a6, .int a7, .null, .null, .null, .null] [] am_SH μ (none, am_SH, out) := by
  intro a1 a2 a3 a4 a5 a6 a7 μ out h
  unfold fM_acts at h
  refine am_Ex.seg 4 6 [.ref 108, .int a1, .int a2, .int a3, .int a4, .int a5, .int a6, .int a7, .null, .null, .null, .null] [.int a5, .int a4, .int a2, .ref 108] μ (fun _ => rfl) ?_
  obtain ⟨q1, h_q1, h⟩ := am_bind h
  refine am_Ex.ivk (na := 4) (b := 108) (As' := [.int a2, .int a4, .int a5]) rfl rfl rfl rfl rfl rfl rfl rfl rfl (e_fM_keeps (d + 3) h_q1) ?_
  refine am_Ex.same 9 [.ref 108, .int a1, .int a2, .int a3, .int a4, .int a5, .int a6, .int a7, .null, .null, .null, .null] [] q1 rfl ?_
  refine am_Ex.seg 3 13 [.ref 108, .int a1, .int a2, .int a3, .int a4, .int a5, .int a6, .int a7, .null, .null, .null, .null] [.int a6, .int a1, .ref 108] q1 (fun _ => rfl) ?_
  obtain ⟨q2, h_q2, h⟩ := am_bind h
  refine am_Ex.ivk (na := 3) (b := 108) (As' := [.int a1, .int a6]) rfl rfl rfl rfl rfl rfl rfl rfl rfl (e_fM_lawOf (d + 0) h_q2) ?_
  refine am_Ex.same 16 [.ref 108, .int a1, .int a2, .int a3, .int a4, .int a5, .int a6, .int a7, .null, .null, .null, .null] [.int q2.1] q2.2 rfl ?_
  refine am_Ex.seg 3 21 [.ref 108, .int a1, .int a2, .int a3, .int a4, .int a5, .int a6, .int a7, .int q2.1, .int 0, .null, .null] [] q2.2 (fun _ => rfl) ?_
  exact e_fM_acts_21 d am_F h
def fM_happens (a1 : Int32) (a2 : Int32) (a3 : Int32) (a4 : Int32) (μ : am_Mu) : Option (am_Mu) := (if 1000 ≤ a3 then (if a3 = a4 then some μ else (bif am_inb (a3 - 1000) 10 then ((fM_sets ((((160 : Int32) * a2) + ((8 : Int32) * (μ 139 (((a3 - 1000)).toNatClampNeg)))) + (μ 140 (((a3 - 1000)).toNatClampNeg))) 2 (μ 141 (((a3 - 1000)).toNatClampNeg)) (μ 141 (((a3 - 1000)).toNatClampNeg)) μ).bind fun q4 => some q4) else none)) else (bif am_inb a3 200 then ((fM_acts a1 a2 (μ 132 ((a3).toNatClampNeg)) (μ 133 ((a3).toNatClampNeg)) (μ 134 ((a3).toNatClampNeg)) (μ 135 ((a3).toNatClampNeg)) (μ 136 ((a3).toNatClampNeg)) μ).bind fun q6 => some q6) else none))
set_option maxRecDepth 20000 in
theorem e_fM_happens (d : Nat) : ∀ {a1 : Int32} {a2 : Int32} {a3 : Int32} {a4 : Int32} {μ : am_Mu} {out : am_Mu}, fM_happens a1 a2 a3 a4 μ = some out → am_Ex none (d + 5) 196 0 [.ref 108, .int a1, .int a2, .int a3, .int a4, .null] [] am_SH μ (none, am_SH, out) := by
  intro a1 a2 a3 a4 μ out h
  unfold fM_happens at h
  refine am_Ex.seg 2 4 [.ref 108, .int a1, .int a2, .int a3, .int a4, .null] [.int 1000, .int a3] μ (fun _ => rfl) ?_
  rcases am_ite h with ⟨q1, h⟩ | ⟨q1, h⟩
  · refine am_Ex.icmp_ge_t rfl q1 ?_
    refine am_Ex.seg 2 49 [.ref 108, .int a1, .int a2, .int a3, .int a4, .null] [.int a4, .int a3] μ (fun _ => rfl) ?_
    rcases am_ite h with ⟨q2, h⟩ | ⟨q2, h⟩
    · refine am_Ex.icmp_eq_t rfl q2 ?_
      cases h
      exact am_Ex.vret rfl rfl
    · refine am_Ex.icmp_eq_f rfl q2 ?_
      refine am_Ex.seg 5 61 [.ref 108, .int a1, .int a2, .int a3, .int a4, .null] [.int (a3 - 1000), .ref 141] μ (fun _ => rfl) ?_
      obtain ⟨q3, h⟩ := am_bif h
      refine am_Ex.iald (v := (μ 141 (((a3 - 1000)).toNatClampNeg))) rfl rfl q3 rfl ?_
      refine am_Ex.seg 11 81 [.ref 108, .int a1, .int a2, .int a3, .int a4, .int (μ 141 (((a3 - 1000)).toNatClampNeg))] [.int (a3 - 1000), .ref 139, .int 8, .int ((160 : Int32) * a2), .ref 108] μ (fun _ => rfl) ?_
      refine am_Ex.iald (v := (μ 139 (((a3 - 1000)).toNatClampNeg))) rfl rfl q3 rfl ?_
      refine am_Ex.seg 7 93 [.ref 108, .int a1, .int a2, .int a3, .int a4, .int (μ 141 (((a3 - 1000)).toNatClampNeg))] [.int (a3 - 1000), .ref 140, .int (((160 : Int32) * a2) + ((8 : Int32) * (μ 139 (((a3 - 1000)).toNatClampNeg)))), .ref 108] μ (fun _ => rfl) ?_
      refine am_Ex.iald (v := (μ 140 (((a3 - 1000)).toNatClampNeg))) rfl rfl q3 rfl ?_
      refine am_Ex.seg 4 100 [.ref 108, .int a1, .int a2, .int a3, .int a4, .int (μ 141 (((a3 - 1000)).toNatClampNeg))] [.int (μ 141 (((a3 - 1000)).toNatClampNeg)), .int (μ 141 (((a3 - 1000)).toNatClampNeg)), .int 2, .int ((((160 : Int32) * a2) + ((8 : Int32) * (μ 139 (((a3 - 1000)).toNatClampNeg)))) + (μ 140 (((a3 - 1000)).toNatClampNeg))), .ref 108] μ (fun _ => rfl) ?_
      obtain ⟨q4, h_q4, h⟩ := am_bind h
      refine am_Ex.ivk (na := 5) (b := 108) (As' := [.int ((((160 : Int32) * a2) + ((8 : Int32) * (μ 139 (((a3 - 1000)).toNatClampNeg)))) + (μ 140 (((a3 - 1000)).toNatClampNeg))), .int 2, .int (μ 141 (((a3 - 1000)).toNatClampNeg)), .int (μ 141 (((a3 - 1000)).toNatClampNeg))]) rfl rfl rfl rfl rfl rfl rfl rfl rfl (e_fM_sets (d + 4) h_q4) ?_
      refine am_Ex.same 103 [.ref 108, .int a1, .int a2, .int a3, .int a4, .int (μ 141 (((a3 - 1000)).toNatClampNeg))] [] q4 rfl ?_
      cases h
      exact am_Ex.vret rfl rfl
  · refine am_Ex.icmp_ge_f rfl q1 ?_
    refine am_Ex.seg 6 15 [.ref 108, .int a1, .int a2, .int a3, .int a4, .null] [.int a3, .ref 132, .int a2, .int a1, .ref 108] μ (fun _ => rfl) ?_
    obtain ⟨q5, h⟩ := am_bif h
    refine am_Ex.iald (v := (μ 132 ((a3).toNatClampNeg))) rfl rfl q5 rfl ?_
    refine am_Ex.seg 3 21 [.ref 108, .int a1, .int a2, .int a3, .int a4, .null] [.int a3, .ref 133, .int (μ 132 ((a3).toNatClampNeg)), .int a2, .int a1, .ref 108] μ (fun _ => rfl) ?_
    refine am_Ex.iald (v := (μ 133 ((a3).toNatClampNeg))) rfl rfl q5 rfl ?_
    refine am_Ex.seg 3 27 [.ref 108, .int a1, .int a2, .int a3, .int a4, .null] [.int a3, .ref 134, .int (μ 133 ((a3).toNatClampNeg)), .int (μ 132 ((a3).toNatClampNeg)), .int a2, .int a1, .ref 108] μ (fun _ => rfl) ?_
    refine am_Ex.iald (v := (μ 134 ((a3).toNatClampNeg))) rfl rfl q5 rfl ?_
    refine am_Ex.seg 3 33 [.ref 108, .int a1, .int a2, .int a3, .int a4, .null] [.int a3, .ref 135, .int (μ 134 ((a3).toNatClampNeg)), .int (μ 133 ((a3).toNatClampNeg)), .int (μ 132 ((a3).toNatClampNeg)), .int a2, .int a1, .ref 108] μ (fun _ => rfl) ?_
    refine am_Ex.iald (v := (μ 135 ((a3).toNatClampNeg))) rfl rfl q5 rfl ?_
    refine am_Ex.seg 3 39 [.ref 108, .int a1, .int a2, .int a3, .int a4, .null] [.int a3, .ref 136, .int (μ 135 ((a3).toNatClampNeg)), .int (μ 134 ((a3).toNatClampNeg)), .int (μ 133 ((a3).toNatClampNeg)), .int (μ 132 ((a3).toNatClampNeg)), .int a2, .int a1, .ref 108] μ (fun _ => rfl) ?_
    refine am_Ex.zald (v := (μ 136 ((a3).toNatClampNeg))) rfl rfl q5 rfl ?_
    obtain ⟨q6, h_q6, h⟩ := am_bind h
    refine am_Ex.ivk (na := 8) (b := 108) (As' := [.int a1, .int a2, .int (μ 132 ((a3).toNatClampNeg)), .int (μ 133 ((a3).toNatClampNeg)), .int (μ 134 ((a3).toNatClampNeg)), .int (μ 135 ((a3).toNatClampNeg)), .int (μ 136 ((a3).toNatClampNeg))]) rfl rfl rfl rfl rfl rfl rfl rfl rfl (e_fM_acts (d + 0) h_q6) ?_
    refine am_Ex.same 43 [.ref 108, .int a1, .int a2, .int a3, .int a4, .null] [] q6 rfl ?_
    refine am_Ex.goto rfl ?_
    cases h
    exact am_Ex.vret rfl rfl
def fM_goes_63 (k8 : Int32 → Int32 → Int32 → Int32 → Int32 → Int32 → am_Mu → Option (am_Mu)) (a1 : Int32) (a2 : Int32) (a3 : Int32) (a4 : Int32) (a5 : Int32) (a6 : Int32) (μ : am_Mu) : Option (am_Mu) := k8 a1 a2 a3 a4 a5 (a6 + 1) μ
def fM_goes_8 : Nat → Int32 → Int32 → Int32 → Int32 → Int32 → Int32 → am_Mu → Option (am_Mu)
  | 0, _, _, _, _, _, _, _ => none
  | n + 1, a1, a2, a3, a4, a5, a6, μ => (if (μ 108 55) ≤ a6 then some μ else (bif am_inb a6 210 then ((fM_minuteOf (μ 143 ((a6).toNatClampNeg)) μ).bind fun q3 => (if a3 < q3.1 then some q3.2 else ((fM_isKnown (q3.2 143 ((a6).toNatClampNeg)) a4 q3.2).bind fun q5 => (if q5.1 = 0 then fM_goes_63 (fM_goes_8 n) a1 a2 a3 a4 a5 a6 q5.2 else ((fM_happens a1 a2 (q5.2 143 ((a6).toNatClampNeg)) a5 q5.2).bind fun q7 => fM_goes_63 (fM_goes_8 n) a1 a2 a3 a4 a5 a6 q7))))) else none))
def fM_goes (a1 : Int32) (a2 : Int32) (a3 : Int32) (a4 : Int32) (a5 : Int32) (μ : am_Mu) : Option (am_Mu) := ((fM_begins a2 μ).bind fun q1 => fM_goes_8 am_F a1 a2 a3 a4 a5 0 q1)
set_option maxRecDepth 20000 in
theorem e_fM_goes_63 (d : Nat) {k8 : Int32 → Int32 → Int32 → Int32 → Int32 → Int32 → am_Mu → Option (am_Mu)} (hk8 : ∀ {a1 : Int32} {a2 : Int32} {a3 : Int32} {a4 : Int32} {a5 : Int32} {a6 : Int32} {μ : am_Mu} {out : am_Mu}, k8 a1 a2 a3 a4 a5 a6 μ = some out → am_Ex none (d + 6) 197 8 [.ref 108, .int a1, .int a2, .int a3, .int a4, .int a5, .int a6] [] am_SH μ (none, am_SH, out)) : ∀ {a1 : Int32} {a2 : Int32} {a3 : Int32} {a4 : Int32} {a5 : Int32} {a6 : Int32} {μ : am_Mu} {out : am_Mu}, fM_goes_63 k8 a1 a2 a3 a4 a5 a6 μ = some out → am_Ex none (d + 6) 197 63 [.ref 108, .int a1, .int a2, .int a3, .int a4, .int a5, .int a6] [] am_SH μ (none, am_SH, out) := by
  intro a1 a2 a3 a4 a5 a6 μ out h
  unfold fM_goes_63 at h
  refine am_Ex.seg 1 66 [.ref 108, .int a1, .int a2, .int a3, .int a4, .int a5, .int (a6 + 1)] [] μ (fun _ => rfl) ?_
  refine am_Ex.goto rfl ?_
  exact hk8 h
set_option maxRecDepth 20000 in
theorem e_fM_goes_8 (d : Nat) : ∀ n : Nat, ∀ {a1 : Int32} {a2 : Int32} {a3 : Int32} {a4 : Int32} {a5 : Int32} {a6 : Int32} {μ : am_Mu} {out : am_Mu}, fM_goes_8 n a1 a2 a3 a4 a5 a6 μ = some out → am_Ex none (d + 6) 197 8 [.ref 108, .int a1, .int a2, .int a3, .int a4, .int a5, .int a6] [] am_SH μ (none, am_SH, out) := by
  intro n
  induction n with
  | zero => intros; contradiction
  | succ n ih =>
    have hk8 : ∀ {a1 : Int32} {a2 : Int32} {a3 : Int32} {a4 : Int32} {a5 : Int32} {a6 : Int32} {μ : am_Mu} {out : am_Mu}, (fM_goes_8 n) a1 a2 a3 a4 a5 a6 μ = some out → am_Ex none (d + 6) 197 8 [.ref 108, .int a1, .int a2, .int a3, .int a4, .int a5, .int a6] [] am_SH μ (none, am_SH, out) := ih
    intro a1 a2 a3 a4 a5 a6 μ out h
    unfold fM_goes_8 at h
    refine am_Ex.seg 3 14 [.ref 108, .int a1, .int a2, .int a3, .int a4, .int a5, .int a6] [.int (μ 108 55), .int a6] μ (fun _ => rfl) ?_
    rcases am_ite h with ⟨q1, h⟩ | ⟨q1, h⟩
    · refine am_Ex.icmp_ge_t rfl q1 ?_
      cases h
      exact am_Ex.vret rfl rfl
    · refine am_Ex.icmp_ge_f rfl q1 ?_
      refine am_Ex.seg 4 24 [.ref 108, .int a1, .int a2, .int a3, .int a4, .int a5, .int a6] [.int a6, .ref 143, .ref 108] μ (fun _ => rfl) ?_
      obtain ⟨q2, h⟩ := am_bif h
      refine am_Ex.iald (v := (μ 143 ((a6).toNatClampNeg))) rfl rfl q2 rfl ?_
      obtain ⟨q3, h_q3, h⟩ := am_bind h
      refine am_Ex.ivk (na := 2) (b := 108) (As' := [.int (μ 143 ((a6).toNatClampNeg))]) rfl rfl rfl rfl rfl rfl rfl rfl rfl (e_fM_minuteOf (d + 5) h_q3) ?_
      refine am_Ex.same 28 [.ref 108, .int a1, .int a2, .int a3, .int a4, .int a5, .int a6] [.int q3.1] q3.2 rfl ?_
      refine am_Ex.seg 1 29 [.ref 108, .int a1, .int a2, .int a3, .int a4, .int a5, .int a6] [.int a3, .int q3.1] q3.2 (fun _ => rfl) ?_
      rcases am_ite h with ⟨q4, h⟩ | ⟨q4, h⟩
      · refine am_Ex.icmp_gt_t rfl q4 ?_
        cases h
        exact am_Ex.vret rfl rfl
      · refine am_Ex.icmp_gt_f rfl q4 ?_
        refine am_Ex.seg 4 39 [.ref 108, .int a1, .int a2, .int a3, .int a4, .int a5, .int a6] [.int a6, .ref 143, .ref 108] q3.2 (fun _ => rfl) ?_
        refine am_Ex.iald (v := (q3.2 143 ((a6).toNatClampNeg))) rfl rfl q2 rfl ?_
        refine am_Ex.seg 1 42 [.ref 108, .int a1, .int a2, .int a3, .int a4, .int a5, .int a6] [.int a4, .int (q3.2 143 ((a6).toNatClampNeg)), .ref 108] q3.2 (fun _ => rfl) ?_
        obtain ⟨q5, h_q5, h⟩ := am_bind h
        refine am_Ex.ivk (na := 3) (b := 108) (As' := [.int (q3.2 143 ((a6).toNatClampNeg)), .int a4]) rfl rfl rfl rfl rfl rfl rfl rfl rfl (e_fM_isKnown (d + 5) h_q5) ?_
        refine am_Ex.same 45 [.ref 108, .int a1, .int a2, .int a3, .int a4, .int a5, .int a6] [.int q5.1] q5.2 rfl ?_
        rcases am_ite h with ⟨q6, h⟩ | ⟨q6, h⟩
        · refine am_Ex.if_eq_t rfl q6 ?_
          exact e_fM_goes_63 d hk8 h
        · refine am_Ex.if_eq_f rfl q6 ?_
          refine am_Ex.seg 6 57 [.ref 108, .int a1, .int a2, .int a3, .int a4, .int a5, .int a6] [.int a6, .ref 143, .int a2, .int a1, .ref 108] q5.2 (fun _ => rfl) ?_
          refine am_Ex.iald (v := (q5.2 143 ((a6).toNatClampNeg))) rfl rfl q2 rfl ?_
          refine am_Ex.seg 1 60 [.ref 108, .int a1, .int a2, .int a3, .int a4, .int a5, .int a6] [.int a5, .int (q5.2 143 ((a6).toNatClampNeg)), .int a2, .int a1, .ref 108] q5.2 (fun _ => rfl) ?_
          obtain ⟨q7, h_q7, h⟩ := am_bind h
          refine am_Ex.ivk (na := 5) (b := 108) (As' := [.int a1, .int a2, .int (q5.2 143 ((a6).toNatClampNeg)), .int a5]) rfl rfl rfl rfl rfl rfl rfl rfl rfl (e_fM_happens (d + 0) h_q7) ?_
          refine am_Ex.same 63 [.ref 108, .int a1, .int a2, .int a3, .int a4, .int a5, .int a6] [] q7 rfl ?_
          exact e_fM_goes_63 d hk8 h
set_option maxRecDepth 20000 in
theorem e_fM_goes (d : Nat) : ∀ {a1 : Int32} {a2 : Int32} {a3 : Int32} {a4 : Int32} {a5 : Int32} {μ : am_Mu} {out : am_Mu}, fM_goes a1 a2 a3 a4 a5 μ = some out → am_Ex none (d + 6) 197 0 [.ref 108, .int a1, .int a2, .int a3, .int a4, .int a5, .null] [] am_SH μ (none, am_SH, out) := by
  intro a1 a2 a3 a4 a5 μ out h
  unfold fM_goes at h
  refine am_Ex.seg 2 2 [.ref 108, .int a1, .int a2, .int a3, .int a4, .int a5, .null] [.int a2, .ref 108] μ (fun _ => rfl) ?_
  obtain ⟨q1, h_q1, h⟩ := am_bind h
  refine am_Ex.ivk (na := 2) (b := 108) (As' := [.int a2]) rfl rfl rfl rfl rfl rfl rfl rfl rfl (e_fM_begins (d + 4) h_q1) ?_
  refine am_Ex.same 5 [.ref 108, .int a1, .int a2, .int a3, .int a4, .int a5, .null] [] q1 rfl ?_
  refine am_Ex.seg 2 8 [.ref 108, .int a1, .int a2, .int a3, .int a4, .int a5, .int 0] [] q1 (fun _ => rfl) ?_
  exact e_fM_goes_8 d am_F h
def fM_mark (a1 : Int32) (a2 : Int32) (a3 : Int32) (a4 : Int32) (a5 : Int32) (μ : am_Mu) : Option (Int32 × am_Mu) := ((fM_isSchool a1 μ).bind fun q1 => (if q1.1 = 0 then some ((-1), q1.2) else ((fM_isThing a2 q1.2).bind fun q3 => (if q3.1 = 0 then some ((-1), q3.2) else ((fM_isMark a3 q3.2).bind fun q5 => (if q5.1 = 0 then some ((-1), q5.2) else ((fM_isMinute a4 q5.2).bind fun q7 => (if q7.1 = 0 then some ((-1), q7.2) else ((fM_isMinute a5 q7.2).bind fun q9 => (if ¬ q9.1 = 0 then ((fM_goes a1 0 a4 a5 (-1) q9.2).bind fun q11 => (bif am_inb (((8 : Int32) * a2) + a3) 320 then some ((q11 144 (((((8 : Int32) * a2) + a3)).toNatClampNeg)), q11) else none)) else some ((-1), q9.2)))))))))))
set_option maxRecDepth 20000 in
theorem e_fM_mark (d : Nat) : ∀ {a1 : Int32} {a2 : Int32} {a3 : Int32} {a4 : Int32} {a5 : Int32} {μ : am_Mu} {out : Int32 × am_Mu}, fM_mark a1 a2 a3 a4 a5 μ = some out → am_Ex none (d + 7) 198 0 [.ref 108, .int a1, .int a2, .int a3, .int a4, .int a5] [] am_SH μ (some (.int out.1), am_SH, out.2) := by
  intro a1 a2 a3 a4 a5 μ out h
  unfold fM_mark at h
  refine am_Ex.seg 1 1 [.ref 108, .int a1, .int a2, .int a3, .int a4, .int a5] [.int a1] μ (fun _ => rfl) ?_
  obtain ⟨q1, h_q1, h⟩ := am_bind h
  refine am_Ex.isk (na := 1) rfl (As := [.int a1]) rfl rfl rfl rfl rfl rfl (e_fM_isSchool (d + 6) h_q1) ?_
  refine am_Ex.same 4 [.ref 108, .int a1, .int a2, .int a3, .int a4, .int a5] [.int q1.1] q1.2 rfl ?_
  rcases am_ite h with ⟨q2, h⟩ | ⟨q2, h⟩
  · refine am_Ex.if_eq_t rfl q2 ?_
    refine am_Ex.seg 1 39 [.ref 108, .int a1, .int a2, .int a3, .int a4, .int a5] [.int (-1)] q1.2 (fun _ => rfl) ?_
    cases h
    exact am_Ex.iret rfl rfl
  · refine am_Ex.if_eq_f rfl q2 ?_
    refine am_Ex.seg 2 9 [.ref 108, .int a1, .int a2, .int a3, .int a4, .int a5] [.int a2, .ref 108] q1.2 (fun _ => rfl) ?_
    obtain ⟨q3, h_q3, h⟩ := am_bind h
    refine am_Ex.ivk (na := 2) (b := 108) (As' := [.int a2]) rfl rfl rfl rfl rfl rfl rfl rfl rfl (e_fM_isThing (d + 5) h_q3) ?_
    refine am_Ex.same 12 [.ref 108, .int a1, .int a2, .int a3, .int a4, .int a5] [.int q3.1] q3.2 rfl ?_
    rcases am_ite h with ⟨q4, h⟩ | ⟨q4, h⟩
    · refine am_Ex.if_eq_t rfl q4 ?_
      refine am_Ex.seg 1 39 [.ref 108, .int a1, .int a2, .int a3, .int a4, .int a5] [.int (-1)] q3.2 (fun _ => rfl) ?_
      cases h
      exact am_Ex.iret rfl rfl
    · refine am_Ex.if_eq_f rfl q4 ?_
      refine am_Ex.seg 1 16 [.ref 108, .int a1, .int a2, .int a3, .int a4, .int a5] [.int a3] q3.2 (fun _ => rfl) ?_
      obtain ⟨q5, h_q5, h⟩ := am_bind h
      refine am_Ex.isk (na := 1) rfl (As := [.int a3]) rfl rfl rfl rfl rfl rfl (e_fM_isMark (d + 5) h_q5) ?_
      refine am_Ex.same 19 [.ref 108, .int a1, .int a2, .int a3, .int a4, .int a5] [.int q5.1] q5.2 rfl ?_
      rcases am_ite h with ⟨q6, h⟩ | ⟨q6, h⟩
      · refine am_Ex.if_eq_t rfl q6 ?_
        refine am_Ex.seg 1 39 [.ref 108, .int a1, .int a2, .int a3, .int a4, .int a5] [.int (-1)] q5.2 (fun _ => rfl) ?_
        cases h
        exact am_Ex.iret rfl rfl
      · refine am_Ex.if_eq_f rfl q6 ?_
        refine am_Ex.seg 1 24 [.ref 108, .int a1, .int a2, .int a3, .int a4, .int a5] [.int a4] q5.2 (fun _ => rfl) ?_
        obtain ⟨q7, h_q7, h⟩ := am_bind h
        refine am_Ex.isk (na := 1) rfl (As := [.int a4]) rfl rfl rfl rfl rfl rfl (e_fM_isMinute (d + 5) h_q7) ?_
        refine am_Ex.same 27 [.ref 108, .int a1, .int a2, .int a3, .int a4, .int a5] [.int q7.1] q7.2 rfl ?_
        rcases am_ite h with ⟨q8, h⟩ | ⟨q8, h⟩
        · refine am_Ex.if_eq_t rfl q8 ?_
          refine am_Ex.seg 1 39 [.ref 108, .int a1, .int a2, .int a3, .int a4, .int a5] [.int (-1)] q7.2 (fun _ => rfl) ?_
          cases h
          exact am_Ex.iret rfl rfl
        · refine am_Ex.if_eq_f rfl q8 ?_
          refine am_Ex.seg 1 32 [.ref 108, .int a1, .int a2, .int a3, .int a4, .int a5] [.int a5] q7.2 (fun _ => rfl) ?_
          obtain ⟨q9, h_q9, h⟩ := am_bind h
          refine am_Ex.isk (na := 1) rfl (As := [.int a5]) rfl rfl rfl rfl rfl rfl (e_fM_isMinute (d + 5) h_q9) ?_
          refine am_Ex.same 35 [.ref 108, .int a1, .int a2, .int a3, .int a4, .int a5] [.int q9.1] q9.2 rfl ?_
          rcases am_ite h with ⟨q10, h⟩ | ⟨q10, h⟩
          · refine am_Ex.if_ne_t rfl q10 ?_
            refine am_Ex.seg 6 48 [.ref 108, .int a1, .int a2, .int a3, .int a4, .int a5] [.int (-1), .int a5, .int a4, .int 0, .int a1, .ref 108] q9.2 (fun _ => rfl) ?_
            obtain ⟨q11, h_q11, h⟩ := am_bind h
            refine am_Ex.ivk (na := 6) (b := 108) (As' := [.int a1, .int 0, .int a4, .int a5, .int (-1)]) rfl rfl rfl rfl rfl rfl rfl rfl rfl (e_fM_goes (d + 0) h_q11) ?_
            refine am_Ex.same 51 [.ref 108, .int a1, .int a2, .int a3, .int a4, .int a5] [] q11 rfl ?_
            refine am_Ex.seg 7 61 [.ref 108, .int a1, .int a2, .int a3, .int a4, .int a5] [.int (((8 : Int32) * a2) + a3), .ref 144] q11 (fun _ => rfl) ?_
            obtain ⟨q12, h⟩ := am_bif h
            refine am_Ex.iald (v := (q11 144 (((((8 : Int32) * a2) + a3)).toNatClampNeg))) rfl rfl q12 rfl ?_
            cases h
            exact am_Ex.iret rfl rfl
          · refine am_Ex.if_ne_f rfl (Decidable.not_not.mp q10) ?_
            refine am_Ex.seg 1 39 [.ref 108, .int a1, .int a2, .int a3, .int a4, .int a5] [.int (-1)] q9.2 (fun _ => rfl) ?_
            cases h
            exact am_Ex.iret rfl rfl
def fM_since (a1 : Int32) (a2 : Int32) (a3 : Int32) (a4 : Int32) (a5 : Int32) (a6 : Int32) (μ : am_Mu) : Option (Int32 × am_Mu) := ((fM_lies a6 0 1 μ).bind fun q1 => (if q1.1 = 0 then some ((-1), q1.2) else ((fM_mark a1 a2 a3 a4 a5 q1.2).bind fun q3 => (if 1 ≤ q3.1 then (if ¬ a6 = 0 then (bif am_inb (((8 : Int32) * a2) + a3) 320 then some ((q3.2 146 (((((8 : Int32) * a2) + a3)).toNatClampNeg)), q3.2) else none) else (bif am_inb (((8 : Int32) * a2) + a3) 320 then some ((q3.2 145 (((((8 : Int32) * a2) + a3)).toNatClampNeg)), q3.2) else none)) else some ((-1), q3.2)))))
set_option maxRecDepth 20000 in
theorem e_fM_since (d : Nat) : ∀ {a1 : Int32} {a2 : Int32} {a3 : Int32} {a4 : Int32} {a5 : Int32} {a6 : Int32} {μ : am_Mu} {out : Int32 × am_Mu}, fM_since a1 a2 a3 a4 a5 a6 μ = some out → am_Ex none (d + 8) 199 0 [.ref 108, .int a1, .int a2, .int a3, .int a4, .int a5, .int a6] [] am_SH μ (some (.int out.1), am_SH, out.2) := by
  intro a1 a2 a3 a4 a5 a6 μ out h
  unfold fM_since at h
  refine am_Ex.seg 3 4 [.ref 108, .int a1, .int a2, .int a3, .int a4, .int a5, .int a6] [.int 1, .int 0, .int a6] μ (fun _ => rfl) ?_
  obtain ⟨q1, h_q1, h⟩ := am_bind h
  refine am_Ex.isk (na := 3) rfl (As := [.int a6, .int 0, .int 1]) rfl rfl rfl rfl rfl rfl (e_fM_lies (d + 7) h_q1) ?_
  refine am_Ex.same 7 [.ref 108, .int a1, .int a2, .int a3, .int a4, .int a5, .int a6] [.int q1.1] q1.2 rfl ?_
  rcases am_ite h with ⟨q2, h⟩ | ⟨q2, h⟩
  · refine am_Ex.if_eq_t rfl q2 ?_
    refine am_Ex.seg 1 26 [.ref 108, .int a1, .int a2, .int a3, .int a4, .int a5, .int a6] [.int (-1)] q1.2 (fun _ => rfl) ?_
    cases h
    exact am_Ex.iret rfl rfl
  · refine am_Ex.if_eq_f rfl q2 ?_
    refine am_Ex.seg 6 18 [.ref 108, .int a1, .int a2, .int a3, .int a4, .int a5, .int a6] [.int a5, .int a4, .int a3, .int a2, .int a1, .ref 108] q1.2 (fun _ => rfl) ?_
    obtain ⟨q3, h_q3, h⟩ := am_bind h
    refine am_Ex.ivk (na := 6) (b := 108) (As' := [.int a1, .int a2, .int a3, .int a4, .int a5]) rfl rfl rfl rfl rfl rfl rfl rfl rfl (e_fM_mark (d + 0) h_q3) ?_
    refine am_Ex.same 21 [.ref 108, .int a1, .int a2, .int a3, .int a4, .int a5, .int a6] [.int q3.1] q3.2 rfl ?_
    refine am_Ex.seg 1 22 [.ref 108, .int a1, .int a2, .int a3, .int a4, .int a5, .int a6] [.int 1, .int q3.1] q3.2 (fun _ => rfl) ?_
    rcases am_ite h with ⟨q4, h⟩ | ⟨q4, h⟩
    · refine am_Ex.icmp_ge_t rfl q4 ?_
      refine am_Ex.seg 1 29 [.ref 108, .int a1, .int a2, .int a3, .int a4, .int a5, .int a6] [.int a6] q3.2 (fun _ => rfl) ?_
      rcases am_ite h with ⟨q5, h⟩ | ⟨q5, h⟩
      · refine am_Ex.if_ne_t rfl q5 ?_
        refine am_Ex.seg 7 56 [.ref 108, .int a1, .int a2, .int a3, .int a4, .int a5, .int a6] [.int (((8 : Int32) * a2) + a3), .ref 146] q3.2 (fun _ => rfl) ?_
        obtain ⟨q6, h⟩ := am_bif h
        refine am_Ex.iald (v := (q3.2 146 (((((8 : Int32) * a2) + a3)).toNatClampNeg))) rfl rfl q6 rfl ?_
        cases h
        exact am_Ex.iret rfl rfl
      · refine am_Ex.if_ne_f rfl (Decidable.not_not.mp q5) ?_
        refine am_Ex.seg 7 42 [.ref 108, .int a1, .int a2, .int a3, .int a4, .int a5, .int a6] [.int (((8 : Int32) * a2) + a3), .ref 145] q3.2 (fun _ => rfl) ?_
        obtain ⟨q7, h⟩ := am_bif h
        refine am_Ex.iald (v := (q3.2 145 (((((8 : Int32) * a2) + a3)).toNatClampNeg))) rfl rfl q7 rfl ?_
        refine am_Ex.goto rfl ?_
        cases h
        exact am_Ex.iret rfl rfl
    · refine am_Ex.icmp_ge_f rfl q4 ?_
      refine am_Ex.seg 1 26 [.ref 108, .int a1, .int a2, .int a3, .int a4, .int a5, .int a6] [.int (-1)] q3.2 (fun _ => rfl) ?_
      cases h
      exact am_Ex.iret rfl rfl
def fM_quarrelAt_77 (k34 : Int32 → Int32 → Int32 → am_Mu → Option (Int32 × am_Mu)) (a1 : Int32) (a2 : Int32) (a3 : Int32) (μ : am_Mu) : Option (Int32 × am_Mu) := k34 a1 a2 (a3 + 1) μ
def fM_quarrelAt_34 : Nat → Int32 → Int32 → Int32 → am_Mu → Option (Int32 × am_Mu)
  | 0, _, _, _, _ => none
  | n + 1, a1, a2, a3, μ => (if ((8 : Int32) * (μ 108 4)) ≤ a3 then some ((-1), μ) else (bif am_inb a3 320 then (bif am_inb ((160 : Int32) + a3) 320 then (if ¬ (μ 144 ((a3).toNatClampNeg)) = (μ 144 ((((160 : Int32) + a3)).toNatClampNeg)) then (if ¬ a2 = a1 then fM_quarrelAt_77 (fM_quarrelAt_34 n) a1 (a2 + 1) a3 μ else some (a3, μ)) else fM_quarrelAt_77 (fM_quarrelAt_34 n) a1 a2 a3 μ) else none) else none))
def fM_quarrelAt (a1 : Int32) (μ : am_Mu) : Option (Int32 × am_Mu) := ((fM_goes 0 0 (μ 108 2) (μ 108 2) (-1) μ).bind fun q1 => ((fM_goes 1 1 (q1 108 2) (q1 108 2) (-1) q1).bind fun q2 => fM_quarrelAt_34 am_F a1 0 0 q2))
set_option maxRecDepth 20000 in
theorem e_fM_quarrelAt_77 (d : Nat) {k34 : Int32 → Int32 → Int32 → am_Mu → Option (Int32 × am_Mu)} (hk34 : ∀ {a1 : Int32} {a2 : Int32} {a3 : Int32} {μ : am_Mu} {out : Int32 × am_Mu}, k34 a1 a2 a3 μ = some out → am_Ex none (d + 7) 200 34 [.ref 108, .int a1, .int a2, .int a3] [] am_SH μ (some (.int out.1), am_SH, out.2)) : ∀ {a1 : Int32} {a2 : Int32} {a3 : Int32} {μ : am_Mu} {out : Int32 × am_Mu}, fM_quarrelAt_77 k34 a1 a2 a3 μ = some out → am_Ex none (d + 7) 200 77 [.ref 108, .int a1, .int a2, .int a3] [] am_SH μ (some (.int out.1), am_SH, out.2) := by
  intro a1 a2 a3 μ out h
  unfold fM_quarrelAt_77 at h
  refine am_Ex.seg 1 80 [.ref 108, .int a1, .int a2, .int (a3 + 1)] [] μ (fun _ => rfl) ?_
  refine am_Ex.goto rfl ?_
  exact hk34 h
set_option maxRecDepth 20000 in
theorem e_fM_quarrelAt_34 (d : Nat) : ∀ n : Nat, ∀ {a1 : Int32} {a2 : Int32} {a3 : Int32} {μ : am_Mu} {out : Int32 × am_Mu}, fM_quarrelAt_34 n a1 a2 a3 μ = some out → am_Ex none (d + 7) 200 34 [.ref 108, .int a1, .int a2, .int a3] [] am_SH μ (some (.int out.1), am_SH, out.2) := by
  intro n
  induction n with
  | zero => intros; contradiction
  | succ n ih =>
    have hk34 : ∀ {a1 : Int32} {a2 : Int32} {a3 : Int32} {μ : am_Mu} {out : Int32 × am_Mu}, (fM_quarrelAt_34 n) a1 a2 a3 μ = some out → am_Ex none (d + 7) 200 34 [.ref 108, .int a1, .int a2, .int a3] [] am_SH μ (some (.int out.1), am_SH, out.2) := ih
    intro a1 a2 a3 μ out h
    unfold fM_quarrelAt_34 at h
    refine am_Ex.seg 5 42 [.ref 108, .int a1, .int a2, .int a3] [.int ((8 : Int32) * (μ 108 4)), .int a3] μ (fun _ => rfl) ?_
    rcases am_ite h with ⟨q1, h⟩ | ⟨q1, h⟩
    · refine am_Ex.icmp_ge_t rfl q1 ?_
      refine am_Ex.seg 1 84 [.ref 108, .int a1, .int a2, .int a3] [.int (-1)] μ (fun _ => rfl) ?_
      cases h
      exact am_Ex.iret rfl rfl
    · refine am_Ex.icmp_ge_f rfl q1 ?_
      refine am_Ex.seg 3 50 [.ref 108, .int a1, .int a2, .int a3] [.int a3, .ref 144] μ (fun _ => rfl) ?_
      obtain ⟨q2, h⟩ := am_bif h
      refine am_Ex.iald (v := (μ 144 ((a3).toNatClampNeg))) rfl rfl q2 rfl ?_
      refine am_Ex.seg 5 60 [.ref 108, .int a1, .int a2, .int a3] [.int ((160 : Int32) + a3), .ref 144, .int (μ 144 ((a3).toNatClampNeg))] μ (fun _ => rfl) ?_
      obtain ⟨q3, h⟩ := am_bif h
      refine am_Ex.iald (v := (μ 144 ((((160 : Int32) + a3)).toNatClampNeg))) rfl rfl q3 rfl ?_
      rcases am_ite h with ⟨q4, h⟩ | ⟨q4, h⟩
      · refine am_Ex.icmp_ne_t rfl q4 ?_
        refine am_Ex.seg 2 69 [.ref 108, .int a1, .int a2, .int a3] [.int a1, .int a2] μ (fun _ => rfl) ?_
        rcases am_ite h with ⟨q5, h⟩ | ⟨q5, h⟩
        · refine am_Ex.icmp_ne_t rfl q5 ?_
          refine am_Ex.seg 1 77 [.ref 108, .int a1, .int (a2 + 1), .int a3] [] μ (fun _ => rfl) ?_
          exact e_fM_quarrelAt_77 d hk34 h
        · refine am_Ex.icmp_ne_f rfl (Decidable.not_not.mp q5) ?_
          refine am_Ex.seg 1 73 [.ref 108, .int a1, .int a2, .int a3] [.int a3] μ (fun _ => rfl) ?_
          cases h
          exact am_Ex.iret rfl rfl
      · refine am_Ex.icmp_ne_f rfl (Decidable.not_not.mp q4) ?_
        refine am_Ex.goto rfl ?_
        exact e_fM_quarrelAt_77 d hk34 h
set_option maxRecDepth 20000 in
theorem e_fM_quarrelAt (d : Nat) : ∀ {a1 : Int32} {μ : am_Mu} {out : Int32 × am_Mu}, fM_quarrelAt a1 μ = some out → am_Ex none (d + 7) 200 0 [.ref 108, .int a1, .null, .null] [] am_SH μ (some (.int out.1), am_SH, out.2) := by
  intro a1 μ out h
  unfold fM_quarrelAt at h
  refine am_Ex.seg 8 12 [.ref 108, .int a1, .null, .null] [.int (-1), .int (μ 108 2), .int (μ 108 2), .int 0, .int 0, .ref 108] μ (fun _ => rfl) ?_
  obtain ⟨q1, h_q1, h⟩ := am_bind h
  refine am_Ex.ivk (na := 6) (b := 108) (As' := [.int 0, .int 0, .int (μ 108 2), .int (μ 108 2), .int (-1)]) rfl rfl rfl rfl rfl rfl rfl rfl rfl (e_fM_goes (d + 0) h_q1) ?_
  refine am_Ex.same 15 [.ref 108, .int a1, .null, .null] [] q1 rfl ?_
  refine am_Ex.seg 8 27 [.ref 108, .int a1, .null, .null] [.int (-1), .int (q1 108 2), .int (q1 108 2), .int 1, .int 1, .ref 108] q1 (fun _ => rfl) ?_
  obtain ⟨q2, h_q2, h⟩ := am_bind h
  refine am_Ex.ivk (na := 6) (b := 108) (As' := [.int 1, .int 1, .int (q1 108 2), .int (q1 108 2), .int (-1)]) rfl rfl rfl rfl rfl rfl rfl rfl rfl (e_fM_goes (d + 0) h_q2) ?_
  refine am_Ex.same 30 [.ref 108, .int a1, .null, .null] [] q2 rfl ?_
  refine am_Ex.seg 4 34 [.ref 108, .int a1, .int 0, .int 0] [] q2 (fun _ => rfl) ?_
  exact e_fM_quarrelAt_34 d am_F h
def fM_quarrel (a1 : Int32) (a2 : Int32) (μ : am_Mu) : Option (Int32 × am_Mu) := (if a1 < 0 then some ((-1), μ) else ((fM_lies a2 0 3 μ).bind fun q2 => (if ¬ q2.1 = 0 then ((fM_quarrelAt a1 q2.2).bind fun q4 => (if ¬ q4.1 = (-1) then (if ¬ a2 = 0 then (if ¬ a2 = 1 then (if ¬ a2 = 2 then (bif am_inb ((160 : Int32) + q4.1) 320 then some ((q4.2 144 ((((160 : Int32) + q4.1)).toNatClampNeg)), q4.2) else none) else (bif am_inb q4.1 320 then some ((q4.2 144 ((q4.1).toNatClampNeg)), q4.2) else none)) else some ((q4.1 - (q4.1 / 8) * 8), q4.2)) else some ((q4.1 / 8), q4.2)) else some ((-1), q4.2))) else some ((-1), q2.2))))
set_option maxRecDepth 20000 in
theorem e_fM_quarrel (d : Nat) : ∀ {a1 : Int32} {a2 : Int32} {μ : am_Mu} {out : Int32 × am_Mu}, fM_quarrel a1 a2 μ = some out → am_Ex none (d + 8) 201 0 [.ref 108, .int a1, .int a2, .null] [] am_SH μ (some (.int out.1), am_SH, out.2) := by
  intro a1 a2 μ out h
  unfold fM_quarrel at h
  refine am_Ex.seg 1 1 [.ref 108, .int a1, .int a2, .null] [.int a1] μ (fun _ => rfl) ?_
  rcases am_ite h with ⟨q1, h⟩ | ⟨q1, h⟩
  · refine am_Ex.if_lt_t rfl q1 ?_
    refine am_Ex.seg 1 14 [.ref 108, .int a1, .int a2, .null] [.int (-1)] μ (fun _ => rfl) ?_
    cases h
    exact am_Ex.iret rfl rfl
  · refine am_Ex.if_lt_f rfl q1 ?_
    refine am_Ex.seg 3 7 [.ref 108, .int a1, .int a2, .null] [.int 3, .int 0, .int a2] μ (fun _ => rfl) ?_
    obtain ⟨q2, h_q2, h⟩ := am_bind h
    refine am_Ex.isk (na := 3) rfl (As := [.int a2, .int 0, .int 3]) rfl rfl rfl rfl rfl rfl (e_fM_lies (d + 7) h_q2) ?_
    refine am_Ex.same 10 [.ref 108, .int a1, .int a2, .null] [.int q2.1] q2.2 rfl ?_
    rcases am_ite h with ⟨q3, h⟩ | ⟨q3, h⟩
    · refine am_Ex.if_ne_t rfl q3 ?_
      refine am_Ex.seg 2 17 [.ref 108, .int a1, .int a2, .null] [.int a1, .ref 108] q2.2 (fun _ => rfl) ?_
      obtain ⟨q4, h_q4, h⟩ := am_bind h
      refine am_Ex.ivk (na := 2) (b := 108) (As' := [.int a1]) rfl rfl rfl rfl rfl rfl rfl rfl rfl (e_fM_quarrelAt (d + 0) h_q4) ?_
      refine am_Ex.same 20 [.ref 108, .int a1, .int a2, .null] [.int q4.1] q4.2 rfl ?_
      refine am_Ex.seg 3 23 [.ref 108, .int a1, .int a2, .int q4.1] [.int (-1), .int q4.1] q4.2 (fun _ => rfl) ?_
      rcases am_ite h with ⟨q5, h⟩ | ⟨q5, h⟩
      · refine am_Ex.icmp_ne_t rfl q5 ?_
        refine am_Ex.seg 1 29 [.ref 108, .int a1, .int a2, .int q4.1] [.int a2] q4.2 (fun _ => rfl) ?_
        rcases am_ite h with ⟨q6, h⟩ | ⟨q6, h⟩
        · refine am_Ex.if_ne_t rfl q6 ?_
          refine am_Ex.seg 2 41 [.ref 108, .int a1, .int a2, .int q4.1] [.int 1, .int a2] q4.2 (fun _ => rfl) ?_
          rcases am_ite h with ⟨q7, h⟩ | ⟨q7, h⟩
          · refine am_Ex.icmp_ne_t rfl q7 ?_
            refine am_Ex.seg 2 53 [.ref 108, .int a1, .int a2, .int q4.1] [.int 2, .int a2] q4.2 (fun _ => rfl) ?_
            rcases am_ite h with ⟨q8, h⟩ | ⟨q8, h⟩
            · refine am_Ex.icmp_ne_t rfl q8 ?_
              refine am_Ex.seg 5 74 [.ref 108, .int a1, .int a2, .int q4.1] [.int ((160 : Int32) + q4.1), .ref 144] q4.2 (fun _ => rfl) ?_
              obtain ⟨q9, h⟩ := am_bif h
              refine am_Ex.iald (v := (q4.2 144 ((((160 : Int32) + q4.1)).toNatClampNeg))) rfl rfl q9 rfl ?_
              cases h
              exact am_Ex.iret rfl rfl
            · refine am_Ex.icmp_ne_f rfl (Decidable.not_not.mp q8) ?_
              refine am_Ex.seg 3 61 [.ref 108, .int a1, .int a2, .int q4.1] [.int q4.1, .ref 144] q4.2 (fun _ => rfl) ?_
              obtain ⟨q10, h⟩ := am_bif h
              refine am_Ex.iald (v := (q4.2 144 ((q4.1).toNatClampNeg))) rfl rfl q10 rfl ?_
              refine am_Ex.goto rfl ?_
              cases h
              exact am_Ex.iret rfl rfl
          · refine am_Ex.icmp_ne_f rfl (Decidable.not_not.mp q7) ?_
            refine am_Ex.seg 2 47 [.ref 108, .int a1, .int a2, .int q4.1] [.int 8, .int q4.1] q4.2 (fun _ => rfl) ?_
            refine am_Ex.irem rfl (by decide) ?_
            refine am_Ex.goto rfl ?_
            cases h
            exact am_Ex.iret rfl rfl
        · refine am_Ex.if_ne_f rfl (Decidable.not_not.mp q6) ?_
          refine am_Ex.seg 2 35 [.ref 108, .int a1, .int a2, .int q4.1] [.int 8, .int q4.1] q4.2 (fun _ => rfl) ?_
          refine am_Ex.idiv rfl (by decide) ?_
          refine am_Ex.goto rfl ?_
          cases h
          exact am_Ex.iret rfl rfl
      · refine am_Ex.icmp_ne_f rfl (Decidable.not_not.mp q5) ?_
        refine am_Ex.seg 1 27 [.ref 108, .int a1, .int a2, .int q4.1] [.int (-1)] q4.2 (fun _ => rfl) ?_
        cases h
        exact am_Ex.iret rfl rfl
    · refine am_Ex.if_ne_f rfl (Decidable.not_not.mp q3) ?_
      refine am_Ex.seg 1 14 [.ref 108, .int a1, .int a2, .null] [.int (-1)] q2.2 (fun _ => rfl) ?_
      cases h
      exact am_Ex.iret rfl rfl
def fM_isMistake (a1 : Int32) (μ : am_Mu) : Option (Int32 × am_Mu) := ((fM_lies a1 0 ((μ 108 6) - 1) μ).bind fun q1 => (if q1.1 &&& 1 = q1.1 then some (q1.1, q1.2) else none))
set_option maxRecDepth 20000 in
theorem e_fM_isMistake (d : Nat) : ∀ {a1 : Int32} {μ : am_Mu} {out : Int32 × am_Mu}, fM_isMistake a1 μ = some out → am_Ex none (d + 1) 202 0 [.ref 108, .int a1] [] am_SH μ (some (.int out.1), am_SH, out.2) := by
  intro a1 μ out h
  unfold fM_isMistake at h
  refine am_Ex.seg 6 8 [.ref 108, .int a1] [.int ((μ 108 6) - 1), .int 0, .int a1] μ (fun _ => rfl) ?_
  obtain ⟨q1, h_q1, h⟩ := am_bind h
  refine am_Ex.isk (na := 3) rfl (As := [.int a1, .int 0, .int ((μ 108 6) - 1)]) rfl rfl rfl rfl rfl rfl (e_fM_lies (d + 0) h_q1) ?_
  refine am_Ex.same 11 [.ref 108, .int a1] [.int q1.1] q1.2 rfl ?_
  obtain ⟨q2, h⟩ := am_ifp h
  cases h
  exact am_Ex.zret rfl rfl q2
def fM_otherwise_85 (k4 : Int32 → Int32 → Int32 → am_Mu → Option (Int32 × am_Mu)) (a1 : Int32) (a3 : Int32) (s0 : Int32) (μ : am_Mu) : Option (Int32 × am_Mu) := k4 a1 s0 (a3 + 1) μ
def fM_otherwise_71 (k4 : Int32 → Int32 → Int32 → am_Mu → Option (Int32 × am_Mu)) (a1 : Int32) (a2 : Int32) (a3 : Int32) (s0 : Int32) (μ : am_Mu) : Option (Int32 × am_Mu) := (if s0 ≤ a2 then fM_otherwise_85 k4 a1 a3 a2 μ else fM_otherwise_85 k4 a1 a3 s0 μ)
def fM_otherwise_70 (k4 : Int32 → Int32 → Int32 → am_Mu → Option (Int32 × am_Mu)) (a1 : Int32) (a2 : Int32) (a3 : Int32) (μ : am_Mu) : Option (Int32 × am_Mu) := fM_otherwise_71 k4 a1 a2 a3 1 μ
def fM_otherwise_4 : Nat → Int32 → Int32 → Int32 → am_Mu → Option (Int32 × am_Mu)
  | 0, _, _, _, _ => none
  | n + 1, a1, a2, a3, μ => (if 8 ≤ a3 then some (a2, μ) else (bif am_inb (((8 : Int32) * a1) + a3) 320 then (bif am_inb (((160 : Int32) + ((8 : Int32) * a1)) + a3) 320 then (if ¬ (μ 144 (((((8 : Int32) * a1) + a3)).toNatClampNeg)) = (μ 144 (((((160 : Int32) + ((8 : Int32) * a1)) + a3)).toNatClampNeg)) then (if ¬ ((μ 144 (((((8 : Int32) * a1) + a3)).toNatClampNeg)) + (μ 144 (((((160 : Int32) + ((8 : Int32) * a1)) + a3)).toNatClampNeg))) = 2 then fM_otherwise_70 (fM_otherwise_4 n) a1 a2 a3 μ else (if (μ 144 (((((8 : Int32) * a1) + a3)).toNatClampNeg)) = 1 then fM_otherwise_70 (fM_otherwise_4 n) a1 a2 a3 μ else fM_otherwise_71 (fM_otherwise_4 n) a1 a2 a3 2 μ)) else fM_otherwise_71 (fM_otherwise_4 n) a1 a2 a3 0 μ) else none) else none))
def fM_otherwise (a1 : Int32) (μ : am_Mu) : Option (Int32 × am_Mu) := fM_otherwise_4 am_F a1 0 0 μ
set_option maxRecDepth 20000 in
theorem e_fM_otherwise_85 (d : Nat) {k4 : Int32 → Int32 → Int32 → am_Mu → Option (Int32 × am_Mu)} (hk4 : ∀ {a1 : Int32} {a2 : Int32} {a3 : Int32} {w4 w5 w6 : Value} {μ : am_Mu} {out : Int32 × am_Mu}, k4 a1 a2 a3 μ = some out → am_Ex none (d + 0) 203 4 [.ref 108, .int a1, .int a2, .int a3, w4, w5, w6] [] am_SH μ (some (.int out.1), am_SH, out.2)) : ∀ {a1 : Int32} {a3 : Int32} {s0 : Int32} {w2 w4 w5 w6 : Value} {μ : am_Mu} {out : Int32 × am_Mu}, fM_otherwise_85 k4 a1 a3 s0 μ = some out → am_Ex none (d + 0) 203 85 [.ref 108, .int a1, w2, .int a3, w4, w5, w6] [.int s0] am_SH μ (some (.int out.1), am_SH, out.2) := by
  intro a1 a3 s0 w2 w4 w5 w6 μ out h
  unfold fM_otherwise_85 at h
  refine am_Ex.seg 2 89 [.ref 108, .int a1, .int s0, .int (a3 + 1), w4, w5, w6] [] μ (fun _ => rfl) ?_
  refine am_Ex.goto rfl ?_
  exact hk4 h
set_option maxRecDepth 20000 in
theorem e_fM_otherwise_71 (d : Nat) {k4 : Int32 → Int32 → Int32 → am_Mu → Option (Int32 × am_Mu)} (hk4 : ∀ {a1 : Int32} {a2 : Int32} {a3 : Int32} {w4 w5 w6 : Value} {μ : am_Mu} {out : Int32 × am_Mu}, k4 a1 a2 a3 μ = some out → am_Ex none (d + 0) 203 4 [.ref 108, .int a1, .int a2, .int a3, w4, w5, w6] [] am_SH μ (some (.int out.1), am_SH, out.2)) : ∀ {a1 : Int32} {a2 : Int32} {a3 : Int32} {s0 : Int32} {w4 w5 w6 : Value} {μ : am_Mu} {out : Int32 × am_Mu}, fM_otherwise_71 k4 a1 a2 a3 s0 μ = some out → am_Ex none (d + 0) 203 71 [.ref 108, .int a1, .int a2, .int a3, w4, w5, w6] [.int s0] am_SH μ (some (.int out.1), am_SH, out.2) := by
  intro a1 a2 a3 s0 w4 w5 w6 μ out h
  unfold fM_otherwise_71 at h
  refine am_Ex.seg 3 76 [.ref 108, .int a1, .int a2, .int a3, w4, w5, .int s0] [.int a2, .int s0] μ (fun _ => rfl) ?_
  rcases am_ite h with ⟨q1, h⟩ | ⟨q1, h⟩
  · refine am_Ex.icmp_le_t rfl q1 ?_
    refine am_Ex.seg 1 85 [.ref 108, .int a1, .int a2, .int a3, w4, w5, .int s0] [.int a2] μ (fun _ => rfl) ?_
    exact e_fM_otherwise_85 d hk4 h
  · refine am_Ex.icmp_le_f rfl q1 ?_
    refine am_Ex.seg 1 81 [.ref 108, .int a1, .int a2, .int a3, w4, w5, .int s0] [.int s0] μ (fun _ => rfl) ?_
    refine am_Ex.goto rfl ?_
    exact e_fM_otherwise_85 d hk4 h
set_option maxRecDepth 20000 in
theorem e_fM_otherwise_70 (d : Nat) {k4 : Int32 → Int32 → Int32 → am_Mu → Option (Int32 × am_Mu)} (hk4 : ∀ {a1 : Int32} {a2 : Int32} {a3 : Int32} {w4 w5 w6 : Value} {μ : am_Mu} {out : Int32 × am_Mu}, k4 a1 a2 a3 μ = some out → am_Ex none (d + 0) 203 4 [.ref 108, .int a1, .int a2, .int a3, w4, w5, w6] [] am_SH μ (some (.int out.1), am_SH, out.2)) : ∀ {a1 : Int32} {a2 : Int32} {a3 : Int32} {w4 w5 w6 : Value} {μ : am_Mu} {out : Int32 × am_Mu}, fM_otherwise_70 k4 a1 a2 a3 μ = some out → am_Ex none (d + 0) 203 70 [.ref 108, .int a1, .int a2, .int a3, w4, w5, w6] [] am_SH μ (some (.int out.1), am_SH, out.2) := by
  intro a1 a2 a3 w4 w5 w6 μ out h
  unfold fM_otherwise_70 at h
  refine am_Ex.seg 1 71 [.ref 108, .int a1, .int a2, .int a3, w4, w5, w6] [.int 1] μ (fun _ => rfl) ?_
  exact e_fM_otherwise_71 d hk4 h
set_option maxRecDepth 20000 in
theorem e_fM_otherwise_4 (d : Nat) : ∀ n : Nat, ∀ {a1 : Int32} {a2 : Int32} {a3 : Int32} {w4 w5 w6 : Value} {μ : am_Mu} {out : Int32 × am_Mu}, fM_otherwise_4 n a1 a2 a3 μ = some out → am_Ex none (d + 0) 203 4 [.ref 108, .int a1, .int a2, .int a3, w4, w5, w6] [] am_SH μ (some (.int out.1), am_SH, out.2) := by
  intro n
  induction n with
  | zero => intros; contradiction
  | succ n ih =>
    have hk4 : ∀ {a1 : Int32} {a2 : Int32} {a3 : Int32} {w4 w5 w6 : Value} {μ : am_Mu} {out : Int32 × am_Mu}, (fM_otherwise_4 n) a1 a2 a3 μ = some out → am_Ex none (d + 0) 203 4 [.ref 108, .int a1, .int a2, .int a3, w4, w5, w6] [] am_SH μ (some (.int out.1), am_SH, out.2) := ih
    intro a1 a2 a3 w4 w5 w6 μ out h
    unfold fM_otherwise_4 at h
    refine am_Ex.seg 2 7 [.ref 108, .int a1, .int a2, .int a3, w4, w5, w6] [.int 8, .int a3] μ (fun _ => rfl) ?_
    rcases am_ite h with ⟨q1, h⟩ | ⟨q1, h⟩
    · refine am_Ex.icmp_ge_t rfl q1 ?_
      refine am_Ex.seg 1 93 [.ref 108, .int a1, .int a2, .int a3, w4, w5, w6] [.int a2] μ (fun _ => rfl) ?_
      cases h
      exact am_Ex.iret rfl rfl
    · refine am_Ex.icmp_ge_f rfl q1 ?_
      refine am_Ex.seg 7 20 [.ref 108, .int a1, .int a2, .int a3, w4, w5, w6] [.int (((8 : Int32) * a1) + a3), .ref 144] μ (fun _ => rfl) ?_
      obtain ⟨q2, h⟩ := am_bif h
      refine am_Ex.iald (v := (μ 144 (((((8 : Int32) * a1) + a3)).toNatClampNeg))) rfl rfl q2 rfl ?_
      refine am_Ex.seg 10 37 [.ref 108, .int a1, .int a2, .int a3, .int (μ 144 (((((8 : Int32) * a1) + a3)).toNatClampNeg)), w5, w6] [.int (((160 : Int32) + ((8 : Int32) * a1)) + a3), .ref 144] μ (fun _ => rfl) ?_
      obtain ⟨q3, h⟩ := am_bif h
      refine am_Ex.iald (v := (μ 144 (((((160 : Int32) + ((8 : Int32) * a1)) + a3)).toNatClampNeg))) rfl rfl q3 rfl ?_
      refine am_Ex.seg 3 44 [.ref 108, .int a1, .int a2, .int a3, .int (μ 144 (((((8 : Int32) * a1) + a3)).toNatClampNeg)), .int (μ 144 (((((160 : Int32) + ((8 : Int32) * a1)) + a3)).toNatClampNeg)), w6] [.int (μ 144 (((((160 : Int32) + ((8 : Int32) * a1)) + a3)).toNatClampNeg)), .int (μ 144 (((((8 : Int32) * a1) + a3)).toNatClampNeg))] μ (fun _ => rfl) ?_
      rcases am_ite h with ⟨q4, h⟩ | ⟨q4, h⟩
      · refine am_Ex.icmp_ne_t rfl q4 ?_
        refine am_Ex.seg 4 57 [.ref 108, .int a1, .int a2, .int a3, .int (μ 144 (((((8 : Int32) * a1) + a3)).toNatClampNeg)), .int (μ 144 (((((160 : Int32) + ((8 : Int32) * a1)) + a3)).toNatClampNeg)), w6] [.int 2, .int ((μ 144 (((((8 : Int32) * a1) + a3)).toNatClampNeg)) + (μ 144 (((((160 : Int32) + ((8 : Int32) * a1)) + a3)).toNatClampNeg)))] μ (fun _ => rfl) ?_
        rcases am_ite h with ⟨q5, h⟩ | ⟨q5, h⟩
        · refine am_Ex.icmp_ne_t rfl q5 ?_
          exact e_fM_otherwise_70 d hk4 h
        · refine am_Ex.icmp_ne_f rfl (Decidable.not_not.mp q5) ?_
          refine am_Ex.seg 2 63 [.ref 108, .int a1, .int a2, .int a3, .int (μ 144 (((((8 : Int32) * a1) + a3)).toNatClampNeg)), .int (μ 144 (((((160 : Int32) + ((8 : Int32) * a1)) + a3)).toNatClampNeg)), w6] [.int 1, .int (μ 144 (((((8 : Int32) * a1) + a3)).toNatClampNeg))] μ (fun _ => rfl) ?_
          rcases am_ite h with ⟨q6, h⟩ | ⟨q6, h⟩
          · refine am_Ex.icmp_eq_t rfl q6 ?_
            exact e_fM_otherwise_70 d hk4 h
          · refine am_Ex.icmp_eq_f rfl q6 ?_
            refine am_Ex.seg 1 67 [.ref 108, .int a1, .int a2, .int a3, .int (μ 144 (((((8 : Int32) * a1) + a3)).toNatClampNeg)), .int (μ 144 (((((160 : Int32) + ((8 : Int32) * a1)) + a3)).toNatClampNeg)), w6] [.int 2] μ (fun _ => rfl) ?_
            refine am_Ex.goto rfl ?_
            exact e_fM_otherwise_71 d hk4 h
      · refine am_Ex.icmp_ne_f rfl (Decidable.not_not.mp q4) ?_
        refine am_Ex.seg 1 48 [.ref 108, .int a1, .int a2, .int a3, .int (μ 144 (((((8 : Int32) * a1) + a3)).toNatClampNeg)), .int (μ 144 (((((160 : Int32) + ((8 : Int32) * a1)) + a3)).toNatClampNeg)), w6] [.int 0] μ (fun _ => rfl) ?_
        refine am_Ex.goto rfl ?_
        exact e_fM_otherwise_71 d hk4 h
set_option maxRecDepth 20000 in
theorem e_fM_otherwise (d : Nat) : ∀ {a1 : Int32} {μ : am_Mu} {out : Int32 × am_Mu}, fM_otherwise a1 μ = some out → am_Ex none (d + 0) 203 0 [.ref 108, .int a1, .null, .null, .null, .null, .null] [] am_SH μ (some (.int out.1), am_SH, out.2) := by
  intro a1 μ out h
  unfold fM_otherwise at h
  refine am_Ex.seg 4 4 [.ref 108, .int a1, .int 0, .int 0, .null, .null, .null] [] μ (fun _ => rfl) ?_
  exact e_fM_otherwise_4 d am_F h
def fM_leads (a1 : Int32) (a2 : Int32) (a3 : Int32) (a4 : Int32) (μ : am_Mu) : Option (Int32 × am_Mu) := ((fM_isMistake a1 μ).bind fun q1 => (if q1.1 = 0 then some ((-1), q1.2) else ((fM_isSchool a2 q1.2).bind fun q3 => (if q3.1 = 0 then some ((-1), q3.2) else ((fM_isThing a3 q3.2).bind fun q5 => (if q5.1 = 0 then some ((-1), q5.2) else ((fM_isMinute a4 q5.2).bind fun q7 => (if ¬ q7.1 = 0 then ((fM_goes a2 0 a4 (q7.2 108 2) (-1) q7.2).bind fun q9 => ((fM_goes a2 1 a4 (q9 108 2) ((1000 : Int32) + a1) q9).bind fun q10 => ((fM_otherwise a3 q10).bind fun q11 => some (q11.1, q11.2)))) else some ((-1), q7.2)))))))))
set_option maxRecDepth 20000 in
theorem e_fM_leads (d : Nat) : ∀ {a1 : Int32} {a2 : Int32} {a3 : Int32} {a4 : Int32} {μ : am_Mu} {out : Int32 × am_Mu}, fM_leads a1 a2 a3 a4 μ = some out → am_Ex none (d + 7) 204 0 [.ref 108, .int a1, .int a2, .int a3, .int a4] [] am_SH μ (some (.int out.1), am_SH, out.2) := by
  intro a1 a2 a3 a4 μ out h
  unfold fM_leads at h
  refine am_Ex.seg 2 2 [.ref 108, .int a1, .int a2, .int a3, .int a4] [.int a1, .ref 108] μ (fun _ => rfl) ?_
  obtain ⟨q1, h_q1, h⟩ := am_bind h
  refine am_Ex.ivk (na := 2) (b := 108) (As' := [.int a1]) rfl rfl rfl rfl rfl rfl rfl rfl rfl (e_fM_isMistake (d + 5) h_q1) ?_
  refine am_Ex.same 5 [.ref 108, .int a1, .int a2, .int a3, .int a4] [.int q1.1] q1.2 rfl ?_
  rcases am_ite h with ⟨q2, h⟩ | ⟨q2, h⟩
  · refine am_Ex.if_eq_t rfl q2 ?_
    refine am_Ex.seg 1 32 [.ref 108, .int a1, .int a2, .int a3, .int a4] [.int (-1)] q1.2 (fun _ => rfl) ?_
    cases h
    exact am_Ex.iret rfl rfl
  · refine am_Ex.if_eq_f rfl q2 ?_
    refine am_Ex.seg 1 9 [.ref 108, .int a1, .int a2, .int a3, .int a4] [.int a2] q1.2 (fun _ => rfl) ?_
    obtain ⟨q3, h_q3, h⟩ := am_bind h
    refine am_Ex.isk (na := 1) rfl (As := [.int a2]) rfl rfl rfl rfl rfl rfl (e_fM_isSchool (d + 6) h_q3) ?_
    refine am_Ex.same 12 [.ref 108, .int a1, .int a2, .int a3, .int a4] [.int q3.1] q3.2 rfl ?_
    rcases am_ite h with ⟨q4, h⟩ | ⟨q4, h⟩
    · refine am_Ex.if_eq_t rfl q4 ?_
      refine am_Ex.seg 1 32 [.ref 108, .int a1, .int a2, .int a3, .int a4] [.int (-1)] q3.2 (fun _ => rfl) ?_
      cases h
      exact am_Ex.iret rfl rfl
    · refine am_Ex.if_eq_f rfl q4 ?_
      refine am_Ex.seg 2 17 [.ref 108, .int a1, .int a2, .int a3, .int a4] [.int a3, .ref 108] q3.2 (fun _ => rfl) ?_
      obtain ⟨q5, h_q5, h⟩ := am_bind h
      refine am_Ex.ivk (na := 2) (b := 108) (As' := [.int a3]) rfl rfl rfl rfl rfl rfl rfl rfl rfl (e_fM_isThing (d + 5) h_q5) ?_
      refine am_Ex.same 20 [.ref 108, .int a1, .int a2, .int a3, .int a4] [.int q5.1] q5.2 rfl ?_
      rcases am_ite h with ⟨q6, h⟩ | ⟨q6, h⟩
      · refine am_Ex.if_eq_t rfl q6 ?_
        refine am_Ex.seg 1 32 [.ref 108, .int a1, .int a2, .int a3, .int a4] [.int (-1)] q5.2 (fun _ => rfl) ?_
        cases h
        exact am_Ex.iret rfl rfl
      · refine am_Ex.if_eq_f rfl q6 ?_
        refine am_Ex.seg 1 25 [.ref 108, .int a1, .int a2, .int a3, .int a4] [.int a4] q5.2 (fun _ => rfl) ?_
        obtain ⟨q7, h_q7, h⟩ := am_bind h
        refine am_Ex.isk (na := 1) rfl (As := [.int a4]) rfl rfl rfl rfl rfl rfl (e_fM_isMinute (d + 5) h_q7) ?_
        refine am_Ex.same 28 [.ref 108, .int a1, .int a2, .int a3, .int a4] [.int q7.1] q7.2 rfl ?_
        rcases am_ite h with ⟨q8, h⟩ | ⟨q8, h⟩
        · refine am_Ex.if_ne_t rfl q8 ?_
          refine am_Ex.seg 7 43 [.ref 108, .int a1, .int a2, .int a3, .int a4] [.int (-1), .int (q7.2 108 2), .int a4, .int 0, .int a2, .ref 108] q7.2 (fun _ => rfl) ?_
          obtain ⟨q9, h_q9, h⟩ := am_bind h
          refine am_Ex.ivk (na := 6) (b := 108) (As' := [.int a2, .int 0, .int a4, .int (q7.2 108 2), .int (-1)]) rfl rfl rfl rfl rfl rfl rfl rfl rfl (e_fM_goes (d + 0) h_q9) ?_
          refine am_Ex.same 46 [.ref 108, .int a1, .int a2, .int a3, .int a4] [] q9 rfl ?_
          refine am_Ex.seg 9 60 [.ref 108, .int a1, .int a2, .int a3, .int a4] [.int ((1000 : Int32) + a1), .int (q9 108 2), .int a4, .int 1, .int a2, .ref 108] q9 (fun _ => rfl) ?_
          obtain ⟨q10, h_q10, h⟩ := am_bind h
          refine am_Ex.ivk (na := 6) (b := 108) (As' := [.int a2, .int 1, .int a4, .int (q9 108 2), .int ((1000 : Int32) + a1)]) rfl rfl rfl rfl rfl rfl rfl rfl rfl (e_fM_goes (d + 0) h_q10) ?_
          refine am_Ex.same 63 [.ref 108, .int a1, .int a2, .int a3, .int a4] [] q10 rfl ?_
          refine am_Ex.seg 2 65 [.ref 108, .int a1, .int a2, .int a3, .int a4] [.int a3, .ref 108] q10 (fun _ => rfl) ?_
          obtain ⟨q11, h_q11, h⟩ := am_bind h
          refine am_Ex.ivk (na := 2) (b := 108) (As' := [.int a3]) rfl rfl rfl rfl rfl rfl rfl rfl rfl (e_fM_otherwise (d + 6) h_q11) ?_
          refine am_Ex.same 68 [.ref 108, .int a1, .int a2, .int a3, .int a4] [.int q11.1] q11.2 rfl ?_
          cases h
          exact am_Ex.iret rfl rfl
        · refine am_Ex.if_ne_f rfl (Decidable.not_not.mp q8) ?_
          refine am_Ex.seg 1 32 [.ref 108, .int a1, .int a2, .int a3, .int a4] [.int (-1)] q7.2 (fun _ => rfl) ?_
          cases h
          exact am_Ex.iret rfl rfl
def fM_reaches_172 (k35 : Int32 → Int32 → Int32 → am_Mu → Option (am_Mu)) (a1 : Int32) (a2 : Int32) (a3 : Int32) (μ : am_Mu) : Option (am_Mu) := k35 a1 a2 (a3 + 1) μ
def fM_reaches_166 (k35 : Int32 → Int32 → Int32 → am_Mu → Option (am_Mu)) (k109 : Int32 → Int32 → Int32 → Int32 → Int32 → am_Mu → Option (am_Mu)) (a1 : Int32) (a2 : Int32) (a3 : Int32) (a4 : Int32) (a5 : Int32) (μ : am_Mu) : Option (am_Mu) := k109 a1 a2 a3 a4 (a5 + 1) μ
def fM_reaches_109 : Nat → (Int32 → Int32 → Int32 → am_Mu → Option (am_Mu)) → Int32 → Int32 → Int32 → Int32 → Int32 → am_Mu → Option (am_Mu)
  | 0, _, _, _, _, _, _, _ => none
  | n + 1, k35, a1, a2, a3, a4, a5, μ => (if (μ 108 4) ≤ a5 then fM_reaches_172 k35 a1 a2 a3 μ else (if 1000 ≤ a4 then fM_reaches_172 k35 a1 a2 a3 μ else (bif am_inb a5 20 then (if ¬ (μ 151 ((a5).toNatClampNeg)) = (-1) then fM_reaches_166 k35 (fM_reaches_109 n k35) a1 a2 a3 a4 a5 μ else (bif am_inb a1 10 then (if a5 = (μ 139 ((a1).toNatClampNeg)) then fM_reaches_166 k35 (fM_reaches_109 n k35) a1 a2 a3 a4 a5 μ else ((fM_otherwise a5 μ).bind fun q7 => (if q7.1 ≤ 0 then fM_reaches_166 k35 (fM_reaches_109 n k35) a1 a2 a3 a4 a5 q7.2 else fM_reaches_166 k35 (fM_reaches_109 n k35) a1 a2 a3 a4 a5 (am_up q7.2 151 ((a5).toNatClampNeg) a4)))) else none)) else none)))
def fM_reaches_35 : Nat → Int32 → Int32 → Int32 → am_Mu → Option (am_Mu)
  | 0, _, _, _, _ => none
  | n + 1, a1, a2, a3, μ => (if (μ 108 55) ≤ a3 then some μ else (bif am_inb a3 210 then ((fM_minuteOf (μ 143 ((a3).toNatClampNeg)) μ).bind fun q3 => (if (q3.2 108 2) < q3.1 then some q3.2 else ((fM_isKnown (q3.2 143 ((a3).toNatClampNeg)) (q3.2 108 2) q3.2).bind fun q5 => (if ¬ q5.1 = 0 then ((fM_happens a2 0 (q3.2 143 ((a3).toNatClampNeg)) (-1) q5.2).bind fun q7 => ((fM_happens a2 1 (q3.2 143 ((a3).toNatClampNeg)) ((1000 : Int32) + a1) q7).bind fun q8 => fM_reaches_109 am_F (fM_reaches_35 n) a1 a2 a3 (q3.2 143 ((a3).toNatClampNeg)) 0 q8)) else fM_reaches_172 (fM_reaches_35 n) a1 a2 a3 q5.2)))) else none))
def fM_reaches_33 (a1 : Int32) (a2 : Int32) (μ : am_Mu) : Option (am_Mu) := fM_reaches_35 am_F a1 a2 0 μ
def fM_reaches_12 : Nat → Int32 → Int32 → Int32 → am_Mu → Option (am_Mu)
  | 0, _, _, _, _ => none
  | n + 1, a1, a2, a3, μ => (if (μ 108 4) ≤ a3 then fM_reaches_33 a1 a2 μ else (bif am_inb a3 20 then (fM_reaches_12 n) a1 a2 (a3 + 1) (am_up μ 151 ((a3).toNatClampNeg) (-1)) else none))
def fM_reaches (a1 : Int32) (a2 : Int32) (μ : am_Mu) : Option (am_Mu) := ((fM_begins 0 μ).bind fun q1 => ((fM_begins 1 q1).bind fun q2 => fM_reaches_12 am_F a1 a2 0 q2))
set_option maxRecDepth 20000 in
theorem e_fM_reaches_172 (d : Nat) {k35 : Int32 → Int32 → Int32 → am_Mu → Option (am_Mu)} (hk35 : ∀ {a1 : Int32} {a2 : Int32} {a3 : Int32} {w4 w5 : Value} {μ : am_Mu} {out : am_Mu}, k35 a1 a2 a3 μ = some out → am_Ex none (d + 6) 205 35 [.ref 108, .int a1, .int a2, .int a3, w4, w5] [] am_SH μ (none, am_SH, out)) : ∀ {a1 : Int32} {a2 : Int32} {a3 : Int32} {w4 w5 : Value} {μ : am_Mu} {out : am_Mu}, fM_reaches_172 k35 a1 a2 a3 μ = some out → am_Ex none (d + 6) 205 172 [.ref 108, .int a1, .int a2, .int a3, w4, w5] [] am_SH μ (none, am_SH, out) := by
  intro a1 a2 a3 w4 w5 μ out h
  unfold fM_reaches_172 at h
  refine am_Ex.seg 1 175 [.ref 108, .int a1, .int a2, .int (a3 + 1), w4, w5] [] μ (fun _ => rfl) ?_
  refine am_Ex.goto rfl ?_
  exact hk35 h
set_option maxRecDepth 20000 in
theorem e_fM_reaches_166 (d : Nat) {k35 : Int32 → Int32 → Int32 → am_Mu → Option (am_Mu)} {k109 : Int32 → Int32 → Int32 → Int32 → Int32 → am_Mu → Option (am_Mu)} (hk35 : ∀ {a1 : Int32} {a2 : Int32} {a3 : Int32} {w4 w5 : Value} {μ : am_Mu} {out : am_Mu}, k35 a1 a2 a3 μ = some out → am_Ex none (d + 6) 205 35 [.ref 108, .int a1, .int a2, .int a3, w4, w5] [] am_SH μ (none, am_SH, out)) (hk109 : ∀ {a1 : Int32} {a2 : Int32} {a3 : Int32} {a4 : Int32} {a5 : Int32} {μ : am_Mu} {out : am_Mu}, k109 a1 a2 a3 a4 a5 μ = some out → am_Ex none (d + 6) 205 109 [.ref 108, .int a1, .int a2, .int a3, .int a4, .int a5] [] am_SH μ (none, am_SH, out)) : ∀ {a1 : Int32} {a2 : Int32} {a3 : Int32} {a4 : Int32} {a5 : Int32} {μ : am_Mu} {out : am_Mu}, fM_reaches_166 k35 k109 a1 a2 a3 a4 a5 μ = some out → am_Ex none (d + 6) 205 166 [.ref 108, .int a1, .int a2, .int a3, .int a4, .int a5] [] am_SH μ (none, am_SH, out) := by
  intro a1 a2 a3 a4 a5 μ out h
  unfold fM_reaches_166 at h
  refine am_Ex.seg 1 169 [.ref 108, .int a1, .int a2, .int a3, .int a4, .int (a5 + 1)] [] μ (fun _ => rfl) ?_
  refine am_Ex.goto rfl ?_
  exact hk109 h
set_option maxRecDepth 20000 in
theorem e_fM_reaches_109 (d : Nat) {k35 : Int32 → Int32 → Int32 → am_Mu → Option (am_Mu)} (hk35 : ∀ {a1 : Int32} {a2 : Int32} {a3 : Int32} {w4 w5 : Value} {μ : am_Mu} {out : am_Mu}, k35 a1 a2 a3 μ = some out → am_Ex none (d + 6) 205 35 [.ref 108, .int a1, .int a2, .int a3, w4, w5] [] am_SH μ (none, am_SH, out)) : ∀ n : Nat, ∀ {a1 : Int32} {a2 : Int32} {a3 : Int32} {a4 : Int32} {a5 : Int32} {μ : am_Mu} {out : am_Mu}, fM_reaches_109 n k35 a1 a2 a3 a4 a5 μ = some out → am_Ex none (d + 6) 205 109 [.ref 108, .int a1, .int a2, .int a3, .int a4, .int a5] [] am_SH μ (none, am_SH, out) := by
  intro n
  induction n with
  | zero => intros; contradiction
  | succ n ih =>
    have hk109 : ∀ {a1 : Int32} {a2 : Int32} {a3 : Int32} {a4 : Int32} {a5 : Int32} {μ : am_Mu} {out : am_Mu}, (fM_reaches_109 n k35) a1 a2 a3 a4 a5 μ = some out → am_Ex none (d + 6) 205 109 [.ref 108, .int a1, .int a2, .int a3, .int a4, .int a5] [] am_SH μ (none, am_SH, out) := ih
    intro a1 a2 a3 a4 a5 μ out h
    unfold fM_reaches_109 at h
    refine am_Ex.seg 3 115 [.ref 108, .int a1, .int a2, .int a3, .int a4, .int a5] [.int (μ 108 4), .int a5] μ (fun _ => rfl) ?_
    rcases am_ite h with ⟨q1, h⟩ | ⟨q1, h⟩
    · refine am_Ex.icmp_ge_t rfl q1 ?_
      exact e_fM_reaches_172 d hk35 h
    · refine am_Ex.icmp_ge_f rfl q1 ?_
      refine am_Ex.seg 2 123 [.ref 108, .int a1, .int a2, .int a3, .int a4, .int a5] [.int 1000, .int a4] μ (fun _ => rfl) ?_
      rcases am_ite h with ⟨q2, h⟩ | ⟨q2, h⟩
      · refine am_Ex.icmp_ge_t rfl q2 ?_
        exact e_fM_reaches_172 d hk35 h
      · refine am_Ex.icmp_ge_f rfl q2 ?_
        refine am_Ex.seg 3 132 [.ref 108, .int a1, .int a2, .int a3, .int a4, .int a5] [.int a5, .ref 151] μ (fun _ => rfl) ?_
        obtain ⟨q3, h⟩ := am_bif h
        refine am_Ex.iald (v := (μ 151 ((a5).toNatClampNeg))) rfl rfl q3 rfl ?_
        refine am_Ex.seg 1 134 [.ref 108, .int a1, .int a2, .int a3, .int a4, .int a5] [.int (-1), .int (μ 151 ((a5).toNatClampNeg))] μ (fun _ => rfl) ?_
        rcases am_ite h with ⟨q4, h⟩ | ⟨q4, h⟩
        · refine am_Ex.icmp_ne_t rfl q4 ?_
          exact e_fM_reaches_166 d hk35 hk109 h
        · refine am_Ex.icmp_ne_f rfl (Decidable.not_not.mp q4) ?_
          refine am_Ex.seg 4 144 [.ref 108, .int a1, .int a2, .int a3, .int a4, .int a5] [.int a1, .ref 139, .int a5] μ (fun _ => rfl) ?_
          obtain ⟨q5, h⟩ := am_bif h
          refine am_Ex.iald (v := (μ 139 ((a1).toNatClampNeg))) rfl rfl q5 rfl ?_
          rcases am_ite h with ⟨q6, h⟩ | ⟨q6, h⟩
          · refine am_Ex.icmp_eq_t rfl q6 ?_
            exact e_fM_reaches_166 d hk35 hk109 h
          · refine am_Ex.icmp_eq_f rfl q6 ?_
            refine am_Ex.seg 2 151 [.ref 108, .int a1, .int a2, .int a3, .int a4, .int a5] [.int a5, .ref 108] μ (fun _ => rfl) ?_
            obtain ⟨q7, h_q7, h⟩ := am_bind h
            refine am_Ex.ivk (na := 2) (b := 108) (As' := [.int a5]) rfl rfl rfl rfl rfl rfl rfl rfl rfl (e_fM_otherwise (d + 5) h_q7) ?_
            refine am_Ex.same 154 [.ref 108, .int a1, .int a2, .int a3, .int a4, .int a5] [.int q7.1] q7.2 rfl ?_
            rcases am_ite h with ⟨q8, h⟩ | ⟨q8, h⟩
            · refine am_Ex.if_le_t rfl q8 ?_
              exact e_fM_reaches_166 d hk35 hk109 h
            · refine am_Ex.if_le_f rfl q8 ?_
              refine am_Ex.seg 4 165 [.ref 108, .int a1, .int a2, .int a3, .int a4, .int a5] [.int a4, .int a5, .ref 151] q7.2 (fun _ => rfl) ?_
              refine am_Ex.iast (v2 := a4) (i2 := (a5).toNatClampNeg) rfl rfl q3 rfl rfl ?_
              exact e_fM_reaches_166 d hk35 hk109 h
set_option maxRecDepth 20000 in
theorem e_fM_reaches_35 (d : Nat) : ∀ n : Nat, ∀ {a1 : Int32} {a2 : Int32} {a3 : Int32} {w4 w5 : Value} {μ : am_Mu} {out : am_Mu}, fM_reaches_35 n a1 a2 a3 μ = some out → am_Ex none (d + 6) 205 35 [.ref 108, .int a1, .int a2, .int a3, w4, w5] [] am_SH μ (none, am_SH, out) := by
  intro n
  induction n with
  | zero => intros; contradiction
  | succ n ih =>
    have hk35 : ∀ {a1 : Int32} {a2 : Int32} {a3 : Int32} {w4 w5 : Value} {μ : am_Mu} {out : am_Mu}, (fM_reaches_35 n) a1 a2 a3 μ = some out → am_Ex none (d + 6) 205 35 [.ref 108, .int a1, .int a2, .int a3, w4, w5] [] am_SH μ (none, am_SH, out) := ih
    intro a1 a2 a3 w4 w5 μ out h
    unfold fM_reaches_35 at h
    refine am_Ex.seg 3 40 [.ref 108, .int a1, .int a2, .int a3, w4, w5] [.int (μ 108 55), .int a3] μ (fun _ => rfl) ?_
    rcases am_ite h with ⟨q1, h⟩ | ⟨q1, h⟩
    · refine am_Ex.icmp_ge_t rfl q1 ?_
      cases h
      exact am_Ex.vret rfl rfl
    · refine am_Ex.icmp_ge_f rfl q1 ?_
      refine am_Ex.seg 4 49 [.ref 108, .int a1, .int a2, .int a3, w4, w5] [.int a3, .ref 143, .ref 108] μ (fun _ => rfl) ?_
      obtain ⟨q2, h⟩ := am_bif h
      refine am_Ex.iald (v := (μ 143 ((a3).toNatClampNeg))) rfl rfl q2 rfl ?_
      obtain ⟨q3, h_q3, h⟩ := am_bind h
      refine am_Ex.ivk (na := 2) (b := 108) (As' := [.int (μ 143 ((a3).toNatClampNeg))]) rfl rfl rfl rfl rfl rfl rfl rfl rfl (e_fM_minuteOf (d + 5) h_q3) ?_
      refine am_Ex.same 53 [.ref 108, .int a1, .int a2, .int a3, w4, w5] [.int q3.1] q3.2 rfl ?_
      refine am_Ex.seg 2 57 [.ref 108, .int a1, .int a2, .int a3, w4, w5] [.int (q3.2 108 2), .int q3.1] q3.2 (fun _ => rfl) ?_
      rcases am_ite h with ⟨q4, h⟩ | ⟨q4, h⟩
      · refine am_Ex.icmp_gt_t rfl q4 ?_
        cases h
        exact am_Ex.vret rfl rfl
      · refine am_Ex.icmp_gt_f rfl q4 ?_
        refine am_Ex.seg 3 65 [.ref 108, .int a1, .int a2, .int a3, w4, w5] [.int a3, .ref 143] q3.2 (fun _ => rfl) ?_
        refine am_Ex.iald (v := (q3.2 143 ((a3).toNatClampNeg))) rfl rfl q2 rfl ?_
        refine am_Ex.seg 5 75 [.ref 108, .int a1, .int a2, .int a3, .int (q3.2 143 ((a3).toNatClampNeg)), w5] [.int (q3.2 108 2), .int (q3.2 143 ((a3).toNatClampNeg)), .ref 108] q3.2 (fun _ => rfl) ?_
        obtain ⟨q5, h_q5, h⟩ := am_bind h
        refine am_Ex.ivk (na := 3) (b := 108) (As' := [.int (q3.2 143 ((a3).toNatClampNeg)), .int (q3.2 108 2)]) rfl rfl rfl rfl rfl rfl rfl rfl rfl (e_fM_isKnown (d + 5) h_q5) ?_
        refine am_Ex.same 78 [.ref 108, .int a1, .int a2, .int a3, .int (q3.2 143 ((a3).toNatClampNeg)), w5] [.int q5.1] q5.2 rfl ?_
        rcases am_ite h with ⟨q6, h⟩ | ⟨q6, h⟩
        · refine am_Ex.if_ne_t rfl q6 ?_
          refine am_Ex.seg 5 90 [.ref 108, .int a1, .int a2, .int a3, .int (q3.2 143 ((a3).toNatClampNeg)), w5] [.int (-1), .int (q3.2 143 ((a3).toNatClampNeg)), .int 0, .int a2, .ref 108] q5.2 (fun _ => rfl) ?_
          obtain ⟨q7, h_q7, h⟩ := am_bind h
          refine am_Ex.ivk (na := 5) (b := 108) (As' := [.int a2, .int 0, .int (q3.2 143 ((a3).toNatClampNeg)), .int (-1)]) rfl rfl rfl rfl rfl rfl rfl rfl rfl (e_fM_happens (d + 0) h_q7) ?_
          refine am_Ex.same 93 [.ref 108, .int a1, .int a2, .int a3, .int (q3.2 143 ((a3).toNatClampNeg)), w5] [] q7 rfl ?_
          refine am_Ex.seg 7 103 [.ref 108, .int a1, .int a2, .int a3, .int (q3.2 143 ((a3).toNatClampNeg)), w5] [.int ((1000 : Int32) + a1), .int (q3.2 143 ((a3).toNatClampNeg)), .int 1, .int a2, .ref 108] q7 (fun _ => rfl) ?_
          obtain ⟨q8, h_q8, h⟩ := am_bind h
          refine am_Ex.ivk (na := 5) (b := 108) (As' := [.int a2, .int 1, .int (q3.2 143 ((a3).toNatClampNeg)), .int ((1000 : Int32) + a1)]) rfl rfl rfl rfl rfl rfl rfl rfl rfl (e_fM_happens (d + 0) h_q8) ?_
          refine am_Ex.same 106 [.ref 108, .int a1, .int a2, .int a3, .int (q3.2 143 ((a3).toNatClampNeg)), w5] [] q8 rfl ?_
          refine am_Ex.seg 2 109 [.ref 108, .int a1, .int a2, .int a3, .int (q3.2 143 ((a3).toNatClampNeg)), .int 0] [] q8 (fun _ => rfl) ?_
          exact e_fM_reaches_109 d hk35 am_F h
        · refine am_Ex.if_ne_f rfl (Decidable.not_not.mp q6) ?_
          refine am_Ex.goto rfl ?_
          exact e_fM_reaches_172 d hk35 h
set_option maxRecDepth 20000 in
theorem e_fM_reaches_33 (d : Nat) : ∀ {a1 : Int32} {a2 : Int32} {w3 w4 w5 : Value} {μ : am_Mu} {out : am_Mu}, fM_reaches_33 a1 a2 μ = some out → am_Ex none (d + 6) 205 33 [.ref 108, .int a1, .int a2, w3, w4, w5] [] am_SH μ (none, am_SH, out) := by
  intro a1 a2 w3 w4 w5 μ out h
  unfold fM_reaches_33 at h
  refine am_Ex.seg 2 35 [.ref 108, .int a1, .int a2, .int 0, w4, w5] [] μ (fun _ => rfl) ?_
  exact e_fM_reaches_35 d am_F h
set_option maxRecDepth 20000 in
theorem e_fM_reaches_12 (d : Nat) : ∀ n : Nat, ∀ {a1 : Int32} {a2 : Int32} {a3 : Int32} {w4 w5 : Value} {μ : am_Mu} {out : am_Mu}, fM_reaches_12 n a1 a2 a3 μ = some out → am_Ex none (d + 6) 205 12 [.ref 108, .int a1, .int a2, .int a3, w4, w5] [] am_SH μ (none, am_SH, out) := by
  intro n
  induction n with
  | zero => intros; contradiction
  | succ n ih =>
    have hk12 : ∀ {a1 : Int32} {a2 : Int32} {a3 : Int32} {w4 w5 : Value} {μ : am_Mu} {out : am_Mu}, (fM_reaches_12 n) a1 a2 a3 μ = some out → am_Ex none (d + 6) 205 12 [.ref 108, .int a1, .int a2, .int a3, w4, w5] [] am_SH μ (none, am_SH, out) := ih
    intro a1 a2 a3 w4 w5 μ out h
    unfold fM_reaches_12 at h
    refine am_Ex.seg 3 17 [.ref 108, .int a1, .int a2, .int a3, w4, w5] [.int (μ 108 4), .int a3] μ (fun _ => rfl) ?_
    rcases am_ite h with ⟨q1, h⟩ | ⟨q1, h⟩
    · refine am_Ex.icmp_ge_t rfl q1 ?_
      exact e_fM_reaches_33 d h
    · refine am_Ex.icmp_ge_f rfl q1 ?_
      refine am_Ex.seg 4 26 [.ref 108, .int a1, .int a2, .int a3, w4, w5] [.int (-1), .int a3, .ref 151] μ (fun _ => rfl) ?_
      obtain ⟨q2, h⟩ := am_bif h
      refine am_Ex.iast (v2 := (-1)) (i2 := (a3).toNatClampNeg) rfl rfl q2 rfl rfl ?_
      refine am_Ex.seg 1 30 [.ref 108, .int a1, .int a2, .int (a3 + 1), w4, w5] [] (am_up μ 151 ((a3).toNatClampNeg) (-1)) (fun _ => rfl) ?_
      refine am_Ex.goto rfl ?_
      exact hk12 h
set_option maxRecDepth 20000 in
theorem e_fM_reaches (d : Nat) : ∀ {a1 : Int32} {a2 : Int32} {μ : am_Mu} {out : am_Mu}, fM_reaches a1 a2 μ = some out → am_Ex none (d + 6) 205 0 [.ref 108, .int a1, .int a2, .null, .null, .null] [] am_SH μ (none, am_SH, out) := by
  intro a1 a2 μ out h
  unfold fM_reaches at h
  refine am_Ex.seg 2 2 [.ref 108, .int a1, .int a2, .null, .null, .null] [.int 0, .ref 108] μ (fun _ => rfl) ?_
  obtain ⟨q1, h_q1, h⟩ := am_bind h
  refine am_Ex.ivk (na := 2) (b := 108) (As' := [.int 0]) rfl rfl rfl rfl rfl rfl rfl rfl rfl (e_fM_begins (d + 4) h_q1) ?_
  refine am_Ex.same 5 [.ref 108, .int a1, .int a2, .null, .null, .null] [] q1 rfl ?_
  refine am_Ex.seg 2 7 [.ref 108, .int a1, .int a2, .null, .null, .null] [.int 1, .ref 108] q1 (fun _ => rfl) ?_
  obtain ⟨q2, h_q2, h⟩ := am_bind h
  refine am_Ex.ivk (na := 2) (b := 108) (As' := [.int 1]) rfl rfl rfl rfl rfl rfl rfl rfl rfl (e_fM_begins (d + 4) h_q2) ?_
  refine am_Ex.same 10 [.ref 108, .int a1, .int a2, .null, .null, .null] [] q2 rfl ?_
  refine am_Ex.seg 2 12 [.ref 108, .int a1, .int a2, .int 0, .null, .null] [] q2 (fun _ => rfl) ?_
  exact e_fM_reaches_12 d am_F h
def fM_reached (a1 : Int32) (a2 : Int32) (a3 : Int32) (μ : am_Mu) : Option (Int32 × am_Mu) := ((fM_isMistake a1 μ).bind fun q1 => (if q1.1 = 0 then some ((-1), q1.2) else ((fM_isSchool a2 q1.2).bind fun q3 => (if q3.1 = 0 then some ((-1), q3.2) else ((fM_isThing a3 q3.2).bind fun q5 => (if ¬ q5.1 = 0 then ((fM_reaches a1 a2 q5.2).bind fun q7 => (bif am_inb a3 20 then some ((q7 151 ((a3).toNatClampNeg)), q7) else none)) else some ((-1), q5.2)))))))
set_option maxRecDepth 20000 in
theorem e_fM_reached (d : Nat) : ∀ {a1 : Int32} {a2 : Int32} {a3 : Int32} {μ : am_Mu} {out : Int32 × am_Mu}, fM_reached a1 a2 a3 μ = some out → am_Ex none (d + 7) 206 0 [.ref 108, .int a1, .int a2, .int a3] [] am_SH μ (some (.int out.1), am_SH, out.2) := by
  intro a1 a2 a3 μ out h
  unfold fM_reached at h
  refine am_Ex.seg 2 2 [.ref 108, .int a1, .int a2, .int a3] [.int a1, .ref 108] μ (fun _ => rfl) ?_
  obtain ⟨q1, h_q1, h⟩ := am_bind h
  refine am_Ex.ivk (na := 2) (b := 108) (As' := [.int a1]) rfl rfl rfl rfl rfl rfl rfl rfl rfl (e_fM_isMistake (d + 5) h_q1) ?_
  refine am_Ex.same 5 [.ref 108, .int a1, .int a2, .int a3] [.int q1.1] q1.2 rfl ?_
  rcases am_ite h with ⟨q2, h⟩ | ⟨q2, h⟩
  · refine am_Ex.if_eq_t rfl q2 ?_
    refine am_Ex.seg 1 24 [.ref 108, .int a1, .int a2, .int a3] [.int (-1)] q1.2 (fun _ => rfl) ?_
    cases h
    exact am_Ex.iret rfl rfl
  · refine am_Ex.if_eq_f rfl q2 ?_
    refine am_Ex.seg 1 9 [.ref 108, .int a1, .int a2, .int a3] [.int a2] q1.2 (fun _ => rfl) ?_
    obtain ⟨q3, h_q3, h⟩ := am_bind h
    refine am_Ex.isk (na := 1) rfl (As := [.int a2]) rfl rfl rfl rfl rfl rfl (e_fM_isSchool (d + 6) h_q3) ?_
    refine am_Ex.same 12 [.ref 108, .int a1, .int a2, .int a3] [.int q3.1] q3.2 rfl ?_
    rcases am_ite h with ⟨q4, h⟩ | ⟨q4, h⟩
    · refine am_Ex.if_eq_t rfl q4 ?_
      refine am_Ex.seg 1 24 [.ref 108, .int a1, .int a2, .int a3] [.int (-1)] q3.2 (fun _ => rfl) ?_
      cases h
      exact am_Ex.iret rfl rfl
    · refine am_Ex.if_eq_f rfl q4 ?_
      refine am_Ex.seg 2 17 [.ref 108, .int a1, .int a2, .int a3] [.int a3, .ref 108] q3.2 (fun _ => rfl) ?_
      obtain ⟨q5, h_q5, h⟩ := am_bind h
      refine am_Ex.ivk (na := 2) (b := 108) (As' := [.int a3]) rfl rfl rfl rfl rfl rfl rfl rfl rfl (e_fM_isThing (d + 5) h_q5) ?_
      refine am_Ex.same 20 [.ref 108, .int a1, .int a2, .int a3] [.int q5.1] q5.2 rfl ?_
      rcases am_ite h with ⟨q6, h⟩ | ⟨q6, h⟩
      · refine am_Ex.if_ne_t rfl q6 ?_
        refine am_Ex.seg 3 28 [.ref 108, .int a1, .int a2, .int a3] [.int a2, .int a1, .ref 108] q5.2 (fun _ => rfl) ?_
        obtain ⟨q7, h_q7, h⟩ := am_bind h
        refine am_Ex.ivk (na := 3) (b := 108) (As' := [.int a1, .int a2]) rfl rfl rfl rfl rfl rfl rfl rfl rfl (e_fM_reaches (d + 0) h_q7) ?_
        refine am_Ex.same 31 [.ref 108, .int a1, .int a2, .int a3] [] q7 rfl ?_
        refine am_Ex.seg 3 36 [.ref 108, .int a1, .int a2, .int a3] [.int a3, .ref 151] q7 (fun _ => rfl) ?_
        obtain ⟨q8, h⟩ := am_bif h
        refine am_Ex.iald (v := (q7 151 ((a3).toNatClampNeg))) rfl rfl q8 rfl ?_
        cases h
        exact am_Ex.iret rfl rfl
      · refine am_Ex.if_ne_f rfl (Decidable.not_not.mp q6) ?_
        refine am_Ex.seg 1 24 [.ref 108, .int a1, .int a2, .int a3] [.int (-1)] q5.2 (fun _ => rfl) ?_
        cases h
        exact am_Ex.iret rfl rfl
def fM_way_144 (k69 : Int32 → Int32 → Int32 → Int32 → Int32 → am_Mu → Option (Int32 × am_Mu)) (a1 : Int32) (a4 : Int32) (a6 : Int32) (a7 : Int32) (s0 : Int32) (μ : am_Mu) : Option (Int32 × am_Mu) := (if s0 = (-1) then some ((-1), μ) else ((fM_has a6 s0 μ).bind fun q2 => (if q2.1 = 0 then k69 a1 a4 s0 (a6 ||| ((1 : Int32) <<< (s0 &&& 31))) (a7 + 1) q2.2 else some ((-1), q2.2))))
def fM_way_69 : Nat → Int32 → Int32 → Int32 → Int32 → Int32 → am_Mu → Option (Int32 × am_Mu)
  | 0, _, _, _, _, _, _ => none
  | n + 1, a1, a4, a5, a6, a7, μ => (if a4 ≤ a7 then some (a5, μ) else (bif am_inb a1 10 then (if a5 = (μ 139 ((a1).toNatClampNeg)) then some ((-1), μ) else (bif am_inb a5 20 then (if ¬ (μ 151 ((a5).toNatClampNeg)) = (-1) then (bif am_inb (μ 151 ((a5).toNatClampNeg)) 200 then (if ¬ (μ 133 (((μ 151 ((a5).toNatClampNeg))).toNatClampNeg)) = a5 then fM_way_144 (fM_way_69 n) a1 a4 a6 a7 (μ 133 (((μ 151 ((a5).toNatClampNeg))).toNatClampNeg)) μ else fM_way_144 (fM_way_69 n) a1 a4 a6 a7 (μ 134 (((μ 151 ((a5).toNatClampNeg))).toNatClampNeg)) μ) else none) else some ((-1), μ)) else none)) else none))
def fM_way_58 (a1 : Int32) (a3 : Int32) (a4 : Int32) (μ : am_Mu) : Option (Int32 × am_Mu) := fM_way_69 am_F a1 a4 a3 ((1 : Int32) <<< (a3 &&& 31)) 0 μ
def fM_way (a1 : Int32) (a2 : Int32) (a3 : Int32) (a4 : Int32) (μ : am_Mu) : Option (Int32 × am_Mu) := ((fM_isMistake a1 μ).bind fun q1 => (if q1.1 = 0 then some ((-1), q1.2) else ((fM_isSchool a2 q1.2).bind fun q3 => (if q3.1 = 0 then some ((-1), q3.2) else ((fM_isThing a3 q3.2).bind fun q5 => (if q5.1 = 0 then some ((-1), q5.2) else (if 0 ≤ a4 then ((fM_reaches a1 a2 q5.2).bind fun q8 => (bif am_inb a1 10 then (if a3 = (q8 139 ((a1).toNatClampNeg)) then fM_way_58 a1 a3 a4 q8 else (bif am_inb a3 20 then (if ¬ (q8 151 ((a3).toNatClampNeg)) = (-1) then fM_way_58 a1 a3 a4 q8 else some ((-1), q8)) else none)) else none)) else some ((-1), q5.2))))))))
set_option maxRecDepth 20000 in
theorem e_fM_way_144 (d : Nat) {k69 : Int32 → Int32 → Int32 → Int32 → Int32 → am_Mu → Option (Int32 × am_Mu)} (hk69 : ∀ {a1 : Int32} {a4 : Int32} {a5 : Int32} {a6 : Int32} {a7 : Int32} {w2 w3 w8 : Value} {μ : am_Mu} {out : Int32 × am_Mu}, k69 a1 a4 a5 a6 a7 μ = some out → am_Ex none (d + 7) 207 69 [.ref 108, .int a1, w2, w3, .int a4, .int a5, .int a6, .int a7, w8] [] am_SH μ (some (.int out.1), am_SH, out.2)) : ∀ {a1 : Int32} {a4 : Int32} {a6 : Int32} {a7 : Int32} {s0 : Int32} {w2 w3 w5 w8 : Value} {μ : am_Mu} {out : Int32 × am_Mu}, fM_way_144 k69 a1 a4 a6 a7 s0 μ = some out → am_Ex none (d + 7) 207 144 [.ref 108, .int a1, w2, w3, .int a4, w5, .int a6, .int a7, w8] [.int s0] am_SH μ (some (.int out.1), am_SH, out.2) := by
  intro a1 a4 a6 a7 s0 w2 w3 w5 w8 μ out h
  unfold fM_way_144 at h
  refine am_Ex.seg 3 149 [.ref 108, .int a1, w2, w3, .int a4, w5, .int a6, .int a7, .int s0] [.int (-1), .int s0] μ (fun _ => rfl) ?_
  rcases am_ite h with ⟨q1, h⟩ | ⟨q1, h⟩
  · refine am_Ex.icmp_eq_t rfl q1 ?_
    refine am_Ex.seg 1 163 [.ref 108, .int a1, w2, w3, .int a4, w5, .int a6, .int a7, .int s0] [.int (-1)] μ (fun _ => rfl) ?_
    cases h
    exact am_Ex.iret rfl rfl
  · refine am_Ex.icmp_eq_f rfl q1 ?_
    refine am_Ex.seg 2 156 [.ref 108, .int a1, w2, w3, .int a4, w5, .int a6, .int a7, .int s0] [.int s0, .int a6] μ (fun _ => rfl) ?_
    obtain ⟨q2, h_q2, h⟩ := am_bind h
    refine am_Ex.isk (na := 2) rfl (As := [.int a6, .int s0]) rfl rfl rfl rfl rfl rfl (e_fM_has (d + 6) h_q2) ?_
    refine am_Ex.same 159 [.ref 108, .int a1, w2, w3, .int a4, w5, .int a6, .int a7, .int s0] [.int q2.1] q2.2 rfl ?_
    rcases am_ite h with ⟨q3, h⟩ | ⟨q3, h⟩
    · refine am_Ex.if_eq_t rfl q3 ?_
      refine am_Ex.seg 9 180 [.ref 108, .int a1, w2, w3, .int a4, .int s0, .int (a6 ||| ((1 : Int32) <<< (s0 &&& 31))), .int (a7 + 1), .int s0] [] q2.2 (fun _ => rfl) ?_
      refine am_Ex.goto rfl ?_
      exact hk69 h
    · refine am_Ex.if_eq_f rfl q3 ?_
      refine am_Ex.seg 1 163 [.ref 108, .int a1, w2, w3, .int a4, w5, .int a6, .int a7, .int s0] [.int (-1)] q2.2 (fun _ => rfl) ?_
      cases h
      exact am_Ex.iret rfl rfl
set_option maxRecDepth 20000 in
theorem e_fM_way_69 (d : Nat) : ∀ n : Nat, ∀ {a1 : Int32} {a4 : Int32} {a5 : Int32} {a6 : Int32} {a7 : Int32} {w2 w3 w8 : Value} {μ : am_Mu} {out : Int32 × am_Mu}, fM_way_69 n a1 a4 a5 a6 a7 μ = some out → am_Ex none (d + 7) 207 69 [.ref 108, .int a1, w2, w3, .int a4, .int a5, .int a6, .int a7, w8] [] am_SH μ (some (.int out.1), am_SH, out.2) := by
  intro n
  induction n with
  | zero => intros; contradiction
  | succ n ih =>
    have hk69 : ∀ {a1 : Int32} {a4 : Int32} {a5 : Int32} {a6 : Int32} {a7 : Int32} {w2 w3 w8 : Value} {μ : am_Mu} {out : Int32 × am_Mu}, (fM_way_69 n) a1 a4 a5 a6 a7 μ = some out → am_Ex none (d + 7) 207 69 [.ref 108, .int a1, w2, w3, .int a4, .int a5, .int a6, .int a7, w8] [] am_SH μ (some (.int out.1), am_SH, out.2) := ih
    intro a1 a4 a5 a6 a7 w2 w3 w8 μ out h
    unfold fM_way_69 at h
    refine am_Ex.seg 2 73 [.ref 108, .int a1, w2, w3, .int a4, .int a5, .int a6, .int a7, w8] [.int a4, .int a7] μ (fun _ => rfl) ?_
    rcases am_ite h with ⟨q1, h⟩ | ⟨q1, h⟩
    · refine am_Ex.icmp_ge_t rfl q1 ?_
      refine am_Ex.seg 1 185 [.ref 108, .int a1, w2, w3, .int a4, .int a5, .int a6, .int a7, w8] [.int a5] μ (fun _ => rfl) ?_
      cases h
      exact am_Ex.iret rfl rfl
    · refine am_Ex.icmp_ge_f rfl q1 ?_
      refine am_Ex.seg 4 83 [.ref 108, .int a1, w2, w3, .int a4, .int a5, .int a6, .int a7, w8] [.int a1, .ref 139, .int a5] μ (fun _ => rfl) ?_
      obtain ⟨q2, h⟩ := am_bif h
      refine am_Ex.iald (v := (μ 139 ((a1).toNatClampNeg))) rfl rfl q2 rfl ?_
      rcases am_ite h with ⟨q3, h⟩ | ⟨q3, h⟩
      · refine am_Ex.icmp_eq_t rfl q3 ?_
        refine am_Ex.seg 1 99 [.ref 108, .int a1, w2, w3, .int a4, .int a5, .int a6, .int a7, w8] [.int (-1)] μ (fun _ => rfl) ?_
        cases h
        exact am_Ex.iret rfl rfl
      · refine am_Ex.icmp_eq_f rfl q3 ?_
        refine am_Ex.seg 3 93 [.ref 108, .int a1, w2, w3, .int a4, .int a5, .int a6, .int a7, w8] [.int a5, .ref 151] μ (fun _ => rfl) ?_
        obtain ⟨q4, h⟩ := am_bif h
        refine am_Ex.iald (v := (μ 151 ((a5).toNatClampNeg))) rfl rfl q4 rfl ?_
        refine am_Ex.seg 1 95 [.ref 108, .int a1, w2, w3, .int a4, .int a5, .int a6, .int a7, w8] [.int (-1), .int (μ 151 ((a5).toNatClampNeg))] μ (fun _ => rfl) ?_
        rcases am_ite h with ⟨q5, h⟩ | ⟨q5, h⟩
        · refine am_Ex.icmp_ne_t rfl q5 ?_
          refine am_Ex.seg 5 110 [.ref 108, .int a1, w2, w3, .int a4, .int a5, .int a6, .int a7, w8] [.int a5, .ref 151, .ref 133] μ (fun _ => rfl) ?_
          refine am_Ex.iald (v := (μ 151 ((a5).toNatClampNeg))) rfl rfl q4 rfl ?_
          obtain ⟨q6, h⟩ := am_bif h
          refine am_Ex.iald (v := (μ 133 (((μ 151 ((a5).toNatClampNeg))).toNatClampNeg))) rfl rfl q6 rfl ?_
          refine am_Ex.seg 1 114 [.ref 108, .int a1, w2, w3, .int a4, .int a5, .int a6, .int a7, w8] [.int a5, .int (μ 133 (((μ 151 ((a5).toNatClampNeg))).toNatClampNeg))] μ (fun _ => rfl) ?_
          rcases am_ite h with ⟨q7, h⟩ | ⟨q7, h⟩
          · refine am_Ex.icmp_ne_t rfl q7 ?_
            refine am_Ex.seg 5 142 [.ref 108, .int a1, w2, w3, .int a4, .int a5, .int a6, .int a7, w8] [.int a5, .ref 151, .ref 133] μ (fun _ => rfl) ?_
            refine am_Ex.iald (v := (μ 151 ((a5).toNatClampNeg))) rfl rfl q4 rfl ?_
            refine am_Ex.iald (v := (μ 133 (((μ 151 ((a5).toNatClampNeg))).toNatClampNeg))) rfl rfl q6 rfl ?_
            exact e_fM_way_144 d hk69 h
          · refine am_Ex.icmp_ne_f rfl (Decidable.not_not.mp q7) ?_
            refine am_Ex.seg 5 127 [.ref 108, .int a1, w2, w3, .int a4, .int a5, .int a6, .int a7, w8] [.int a5, .ref 151, .ref 134] μ (fun _ => rfl) ?_
            refine am_Ex.iald (v := (μ 151 ((a5).toNatClampNeg))) rfl rfl q4 rfl ?_
            refine am_Ex.iald (v := (μ 134 (((μ 151 ((a5).toNatClampNeg))).toNatClampNeg))) rfl rfl q6 rfl ?_
            refine am_Ex.goto rfl ?_
            exact e_fM_way_144 d hk69 h
        · refine am_Ex.icmp_ne_f rfl (Decidable.not_not.mp q5) ?_
          refine am_Ex.seg 1 99 [.ref 108, .int a1, w2, w3, .int a4, .int a5, .int a6, .int a7, w8] [.int (-1)] μ (fun _ => rfl) ?_
          cases h
          exact am_Ex.iret rfl rfl
set_option maxRecDepth 20000 in
theorem e_fM_way_58 (d : Nat) : ∀ {a1 : Int32} {a3 : Int32} {a4 : Int32} {w2 w5 w6 w7 w8 : Value} {μ : am_Mu} {out : Int32 × am_Mu}, fM_way_58 a1 a3 a4 μ = some out → am_Ex none (d + 7) 207 58 [.ref 108, .int a1, w2, .int a3, .int a4, w5, w6, w7, w8] [] am_SH μ (some (.int out.1), am_SH, out.2) := by
  intro a1 a3 a4 w2 w5 w6 w7 w8 μ out h
  unfold fM_way_58 at h
  refine am_Ex.seg 8 69 [.ref 108, .int a1, w2, .int a3, .int a4, .int a3, .int ((1 : Int32) <<< (a3 &&& 31)), .int 0, w8] [] μ (fun _ => rfl) ?_
  exact e_fM_way_69 d am_F h
set_option maxRecDepth 20000 in
theorem e_fM_way (d : Nat) : ∀ {a1 : Int32} {a2 : Int32} {a3 : Int32} {a4 : Int32} {μ : am_Mu} {out : Int32 × am_Mu}, fM_way a1 a2 a3 a4 μ = some out → am_Ex none (d + 7) 207 0 [.ref 108, .int a1, .int a2, .int a3, .int a4, .null, .null, .null, .null] [] am_SH μ (some (.int out.1), am_SH, out.2) := by
  intro a1 a2 a3 a4 μ out h
  unfold fM_way at h
  refine am_Ex.seg 2 2 [.ref 108, .int a1, .int a2, .int a3, .int a4, .null, .null, .null, .null] [.int a1, .ref 108] μ (fun _ => rfl) ?_
  obtain ⟨q1, h_q1, h⟩ := am_bind h
  refine am_Ex.ivk (na := 2) (b := 108) (As' := [.int a1]) rfl rfl rfl rfl rfl rfl rfl rfl rfl (e_fM_isMistake (d + 5) h_q1) ?_
  refine am_Ex.same 5 [.ref 108, .int a1, .int a2, .int a3, .int a4, .null, .null, .null, .null] [.int q1.1] q1.2 rfl ?_
  rcases am_ite h with ⟨q2, h⟩ | ⟨q2, h⟩
  · refine am_Ex.if_eq_t rfl q2 ?_
    refine am_Ex.seg 1 29 [.ref 108, .int a1, .int a2, .int a3, .int a4, .null, .null, .null, .null] [.int (-1)] q1.2 (fun _ => rfl) ?_
    cases h
    exact am_Ex.iret rfl rfl
  · refine am_Ex.if_eq_f rfl q2 ?_
    refine am_Ex.seg 1 9 [.ref 108, .int a1, .int a2, .int a3, .int a4, .null, .null, .null, .null] [.int a2] q1.2 (fun _ => rfl) ?_
    obtain ⟨q3, h_q3, h⟩ := am_bind h
    refine am_Ex.isk (na := 1) rfl (As := [.int a2]) rfl rfl rfl rfl rfl rfl (e_fM_isSchool (d + 6) h_q3) ?_
    refine am_Ex.same 12 [.ref 108, .int a1, .int a2, .int a3, .int a4, .null, .null, .null, .null] [.int q3.1] q3.2 rfl ?_
    rcases am_ite h with ⟨q4, h⟩ | ⟨q4, h⟩
    · refine am_Ex.if_eq_t rfl q4 ?_
      refine am_Ex.seg 1 29 [.ref 108, .int a1, .int a2, .int a3, .int a4, .null, .null, .null, .null] [.int (-1)] q3.2 (fun _ => rfl) ?_
      cases h
      exact am_Ex.iret rfl rfl
    · refine am_Ex.if_eq_f rfl q4 ?_
      refine am_Ex.seg 2 17 [.ref 108, .int a1, .int a2, .int a3, .int a4, .null, .null, .null, .null] [.int a3, .ref 108] q3.2 (fun _ => rfl) ?_
      obtain ⟨q5, h_q5, h⟩ := am_bind h
      refine am_Ex.ivk (na := 2) (b := 108) (As' := [.int a3]) rfl rfl rfl rfl rfl rfl rfl rfl rfl (e_fM_isThing (d + 5) h_q5) ?_
      refine am_Ex.same 20 [.ref 108, .int a1, .int a2, .int a3, .int a4, .null, .null, .null, .null] [.int q5.1] q5.2 rfl ?_
      rcases am_ite h with ⟨q6, h⟩ | ⟨q6, h⟩
      · refine am_Ex.if_eq_t rfl q6 ?_
        refine am_Ex.seg 1 29 [.ref 108, .int a1, .int a2, .int a3, .int a4, .null, .null, .null, .null] [.int (-1)] q5.2 (fun _ => rfl) ?_
        cases h
        exact am_Ex.iret rfl rfl
      · refine am_Ex.if_eq_f rfl q6 ?_
        refine am_Ex.seg 1 25 [.ref 108, .int a1, .int a2, .int a3, .int a4, .null, .null, .null, .null] [.int a4] q5.2 (fun _ => rfl) ?_
        rcases am_ite h with ⟨q7, h⟩ | ⟨q7, h⟩
        · refine am_Ex.if_ge_t rfl q7 ?_
          refine am_Ex.seg 3 33 [.ref 108, .int a1, .int a2, .int a3, .int a4, .null, .null, .null, .null] [.int a2, .int a1, .ref 108] q5.2 (fun _ => rfl) ?_
          obtain ⟨q8, h_q8, h⟩ := am_bind h
          refine am_Ex.ivk (na := 3) (b := 108) (As' := [.int a1, .int a2]) rfl rfl rfl rfl rfl rfl rfl rfl rfl (e_fM_reaches (d + 0) h_q8) ?_
          refine am_Ex.same 36 [.ref 108, .int a1, .int a2, .int a3, .int a4, .null, .null, .null, .null] [] q8 rfl ?_
          refine am_Ex.seg 4 42 [.ref 108, .int a1, .int a2, .int a3, .int a4, .null, .null, .null, .null] [.int a1, .ref 139, .int a3] q8 (fun _ => rfl) ?_
          obtain ⟨q9, h⟩ := am_bif h
          refine am_Ex.iald (v := (q8 139 ((a1).toNatClampNeg))) rfl rfl q9 rfl ?_
          rcases am_ite h with ⟨q10, h⟩ | ⟨q10, h⟩
          · refine am_Ex.icmp_eq_t rfl q10 ?_
            exact e_fM_way_58 d h
          · refine am_Ex.icmp_eq_f rfl q10 ?_
            refine am_Ex.seg 3 51 [.ref 108, .int a1, .int a2, .int a3, .int a4, .null, .null, .null, .null] [.int a3, .ref 151] q8 (fun _ => rfl) ?_
            obtain ⟨q11, h⟩ := am_bif h
            refine am_Ex.iald (v := (q8 151 ((a3).toNatClampNeg))) rfl rfl q11 rfl ?_
            refine am_Ex.seg 1 53 [.ref 108, .int a1, .int a2, .int a3, .int a4, .null, .null, .null, .null] [.int (-1), .int (q8 151 ((a3).toNatClampNeg))] q8 (fun _ => rfl) ?_
            rcases am_ite h with ⟨q12, h⟩ | ⟨q12, h⟩
            · refine am_Ex.icmp_ne_t rfl q12 ?_
              exact e_fM_way_58 d h
            · refine am_Ex.icmp_ne_f rfl (Decidable.not_not.mp q12) ?_
              refine am_Ex.seg 1 57 [.ref 108, .int a1, .int a2, .int a3, .int a4, .null, .null, .null, .null] [.int (-1)] q8 (fun _ => rfl) ?_
              cases h
              exact am_Ex.iret rfl rfl
        · refine am_Ex.if_ge_f rfl q7 ?_
          refine am_Ex.seg 1 29 [.ref 108, .int a1, .int a2, .int a3, .int a4, .null, .null, .null, .null] [.int (-1)] q5.2 (fun _ => rfl) ?_
          cases h
          exact am_Ex.iret rfl rfl
def fM_mend_62 : Nat → Int32 → Int32 → Int32 → am_Mu → Option (Int32 × am_Mu)
  | 0, _, _, _, _ => none
  | n + 1, a2, a3, a4, μ => (if 6 ≤ a4 then some ((-1), μ) else ((fM_otherwise a3 μ).bind fun q2 => (if ¬ q2.1 = 0 then ((fM_acts a2 0 2 a3 (-1) (q2.2 108 2) 1 q2.2).bind fun q4 => (fM_mend_62 n) a2 a3 (a4 + 1) q4) else some (a4, q2.2))))
def fM_mend (a1 : Int32) (a2 : Int32) (a3 : Int32) (μ : am_Mu) : Option (Int32 × am_Mu) := ((fM_isMistake a1 μ).bind fun q1 => (if q1.1 = 0 then some ((-1), q1.2) else ((fM_isSchool a2 q1.2).bind fun q3 => (if q3.1 = 0 then some ((-1), q3.2) else ((fM_isThing a3 q3.2).bind fun q5 => (if ¬ q5.1 = 0 then ((fM_goes a2 0 (q5.2 108 2) (q5.2 108 2) (-1) q5.2).bind fun q7 => ((fM_goes a2 1 (q7 108 2) (q7 108 2) ((1000 : Int32) + a1) q7).bind fun q8 => fM_mend_62 am_F a2 a3 0 q8)) else some ((-1), q5.2)))))))
set_option maxRecDepth 20000 in
theorem e_fM_mend_62 (d : Nat) : ∀ n : Nat, ∀ {a2 : Int32} {a3 : Int32} {a4 : Int32} {w1 : Value} {μ : am_Mu} {out : Int32 × am_Mu}, fM_mend_62 n a2 a3 a4 μ = some out → am_Ex none (d + 7) 208 62 [.ref 108, w1, .int a2, .int a3, .int a4] [] am_SH μ (some (.int out.1), am_SH, out.2) := by
  intro n
  induction n with
  | zero => intros; contradiction
  | succ n ih =>
    have hk62 : ∀ {a2 : Int32} {a3 : Int32} {a4 : Int32} {w1 : Value} {μ : am_Mu} {out : Int32 × am_Mu}, (fM_mend_62 n) a2 a3 a4 μ = some out → am_Ex none (d + 7) 208 62 [.ref 108, w1, .int a2, .int a3, .int a4] [] am_SH μ (some (.int out.1), am_SH, out.2) := ih
    intro a2 a3 a4 w1 μ out h
    unfold fM_mend_62 at h
    refine am_Ex.seg 2 66 [.ref 108, w1, .int a2, .int a3, .int a4] [.int 6, .int a4] μ (fun _ => rfl) ?_
    rcases am_ite h with ⟨q1, h⟩ | ⟨q1, h⟩
    · refine am_Ex.icmp_ge_t rfl q1 ?_
      refine am_Ex.seg 1 101 [.ref 108, w1, .int a2, .int a3, .int a4] [.int (-1)] μ (fun _ => rfl) ?_
      cases h
      exact am_Ex.iret rfl rfl
    · refine am_Ex.icmp_ge_f rfl q1 ?_
      refine am_Ex.seg 2 71 [.ref 108, w1, .int a2, .int a3, .int a4] [.int a3, .ref 108] μ (fun _ => rfl) ?_
      obtain ⟨q2, h_q2, h⟩ := am_bind h
      refine am_Ex.ivk (na := 2) (b := 108) (As' := [.int a3]) rfl rfl rfl rfl rfl rfl rfl rfl rfl (e_fM_otherwise (d + 6) h_q2) ?_
      refine am_Ex.same 74 [.ref 108, w1, .int a2, .int a3, .int a4] [.int q2.1] q2.2 rfl ?_
      rcases am_ite h with ⟨q3, h⟩ | ⟨q3, h⟩
      · refine am_Ex.if_ne_t rfl q3 ?_
        refine am_Ex.seg 9 91 [.ref 108, w1, .int a2, .int a3, .int a4] [.int 1, .int (q2.2 108 2), .int (-1), .int a3, .int 2, .int 0, .int a2, .ref 108] q2.2 (fun _ => rfl) ?_
        obtain ⟨q4, h_q4, h⟩ := am_bind h
        refine am_Ex.ivk (na := 8) (b := 108) (As' := [.int a2, .int 0, .int 2, .int a3, .int (-1), .int (q2.2 108 2), .int 1]) rfl rfl rfl rfl rfl rfl rfl rfl rfl (e_fM_acts (d + 2) h_q4) ?_
        refine am_Ex.same 94 [.ref 108, w1, .int a2, .int a3, .int a4] [] q4 rfl ?_
        refine am_Ex.seg 1 97 [.ref 108, w1, .int a2, .int a3, .int (a4 + 1)] [] q4 (fun _ => rfl) ?_
        refine am_Ex.goto rfl ?_
        exact hk62 h
      · refine am_Ex.if_ne_f rfl (Decidable.not_not.mp q3) ?_
        refine am_Ex.seg 1 79 [.ref 108, w1, .int a2, .int a3, .int a4] [.int a4] q2.2 (fun _ => rfl) ?_
        cases h
        exact am_Ex.iret rfl rfl
set_option maxRecDepth 20000 in
theorem e_fM_mend (d : Nat) : ∀ {a1 : Int32} {a2 : Int32} {a3 : Int32} {μ : am_Mu} {out : Int32 × am_Mu}, fM_mend a1 a2 a3 μ = some out → am_Ex none (d + 7) 208 0 [.ref 108, .int a1, .int a2, .int a3, .null] [] am_SH μ (some (.int out.1), am_SH, out.2) := by
  intro a1 a2 a3 μ out h
  unfold fM_mend at h
  refine am_Ex.seg 2 2 [.ref 108, .int a1, .int a2, .int a3, .null] [.int a1, .ref 108] μ (fun _ => rfl) ?_
  obtain ⟨q1, h_q1, h⟩ := am_bind h
  refine am_Ex.ivk (na := 2) (b := 108) (As' := [.int a1]) rfl rfl rfl rfl rfl rfl rfl rfl rfl (e_fM_isMistake (d + 5) h_q1) ?_
  refine am_Ex.same 5 [.ref 108, .int a1, .int a2, .int a3, .null] [.int q1.1] q1.2 rfl ?_
  rcases am_ite h with ⟨q2, h⟩ | ⟨q2, h⟩
  · refine am_Ex.if_eq_t rfl q2 ?_
    refine am_Ex.seg 1 24 [.ref 108, .int a1, .int a2, .int a3, .null] [.int (-1)] q1.2 (fun _ => rfl) ?_
    cases h
    exact am_Ex.iret rfl rfl
  · refine am_Ex.if_eq_f rfl q2 ?_
    refine am_Ex.seg 1 9 [.ref 108, .int a1, .int a2, .int a3, .null] [.int a2] q1.2 (fun _ => rfl) ?_
    obtain ⟨q3, h_q3, h⟩ := am_bind h
    refine am_Ex.isk (na := 1) rfl (As := [.int a2]) rfl rfl rfl rfl rfl rfl (e_fM_isSchool (d + 6) h_q3) ?_
    refine am_Ex.same 12 [.ref 108, .int a1, .int a2, .int a3, .null] [.int q3.1] q3.2 rfl ?_
    rcases am_ite h with ⟨q4, h⟩ | ⟨q4, h⟩
    · refine am_Ex.if_eq_t rfl q4 ?_
      refine am_Ex.seg 1 24 [.ref 108, .int a1, .int a2, .int a3, .null] [.int (-1)] q3.2 (fun _ => rfl) ?_
      cases h
      exact am_Ex.iret rfl rfl
    · refine am_Ex.if_eq_f rfl q4 ?_
      refine am_Ex.seg 2 17 [.ref 108, .int a1, .int a2, .int a3, .null] [.int a3, .ref 108] q3.2 (fun _ => rfl) ?_
      obtain ⟨q5, h_q5, h⟩ := am_bind h
      refine am_Ex.ivk (na := 2) (b := 108) (As' := [.int a3]) rfl rfl rfl rfl rfl rfl rfl rfl rfl (e_fM_isThing (d + 5) h_q5) ?_
      refine am_Ex.same 20 [.ref 108, .int a1, .int a2, .int a3, .null] [.int q5.1] q5.2 rfl ?_
      rcases am_ite h with ⟨q6, h⟩ | ⟨q6, h⟩
      · refine am_Ex.if_ne_t rfl q6 ?_
        refine am_Ex.seg 8 37 [.ref 108, .int a1, .int a2, .int a3, .null] [.int (-1), .int (q5.2 108 2), .int (q5.2 108 2), .int 0, .int a2, .ref 108] q5.2 (fun _ => rfl) ?_
        obtain ⟨q7, h_q7, h⟩ := am_bind h
        refine am_Ex.ivk (na := 6) (b := 108) (As' := [.int a2, .int 0, .int (q5.2 108 2), .int (q5.2 108 2), .int (-1)]) rfl rfl rfl rfl rfl rfl rfl rfl rfl (e_fM_goes (d + 0) h_q7) ?_
        refine am_Ex.same 40 [.ref 108, .int a1, .int a2, .int a3, .null] [] q7 rfl ?_
        refine am_Ex.seg 10 56 [.ref 108, .int a1, .int a2, .int a3, .null] [.int ((1000 : Int32) + a1), .int (q7 108 2), .int (q7 108 2), .int 1, .int a2, .ref 108] q7 (fun _ => rfl) ?_
        obtain ⟨q8, h_q8, h⟩ := am_bind h
        refine am_Ex.ivk (na := 6) (b := 108) (As' := [.int a2, .int 1, .int (q7 108 2), .int (q7 108 2), .int ((1000 : Int32) + a1)]) rfl rfl rfl rfl rfl rfl rfl rfl rfl (e_fM_goes (d + 0) h_q8) ?_
        refine am_Ex.same 59 [.ref 108, .int a1, .int a2, .int a3, .null] [] q8 rfl ?_
        refine am_Ex.seg 2 62 [.ref 108, .int a1, .int a2, .int a3, .int 0] [] q8 (fun _ => rfl) ?_
        exact e_fM_mend_62 d am_F h
      · refine am_Ex.if_ne_f rfl (Decidable.not_not.mp q6) ?_
        refine am_Ex.seg 1 24 [.ref 108, .int a1, .int a2, .int a3, .null] [.int (-1)] q5.2 (fun _ => rfl) ?_
        cases h
        exact am_Ex.iret rfl rfl
def fM_isKitchen (a1 : Int32) (μ : am_Mu) : Option (Int32 × am_Mu) := ((fM_lies a1 0 ((μ 108 7) - 1) μ).bind fun q1 => (if q1.1 &&& 1 = q1.1 then some (q1.1, q1.2) else none))
set_option maxRecDepth 20000 in
theorem e_fM_isKitchen (d : Nat) : ∀ {a1 : Int32} {μ : am_Mu} {out : Int32 × am_Mu}, fM_isKitchen a1 μ = some out → am_Ex none (d + 1) 209 0 [.ref 108, .int a1] [] am_SH μ (some (.int out.1), am_SH, out.2) := by
  intro a1 μ out h
  unfold fM_isKitchen at h
  refine am_Ex.seg 6 8 [.ref 108, .int a1] [.int ((μ 108 7) - 1), .int 0, .int a1] μ (fun _ => rfl) ?_
  obtain ⟨q1, h_q1, h⟩ := am_bind h
  refine am_Ex.isk (na := 3) rfl (As := [.int a1, .int 0, .int ((μ 108 7) - 1)]) rfl rfl rfl rfl rfl rfl (e_fM_lies (d + 0) h_q1) ?_
  refine am_Ex.same 11 [.ref 108, .int a1] [.int q1.1] q1.2 rfl ?_
  obtain ⟨q2, h⟩ := am_ifp h
  cases h
  exact am_Ex.zret rfl rfl q2
def fM_isLot (a1 : Int32) (μ : am_Mu) : Option (Int32 × am_Mu) := ((fM_lies a1 0 ((μ 108 8) - 1) μ).bind fun q1 => (if q1.1 &&& 1 = q1.1 then some (q1.1, q1.2) else none))
set_option maxRecDepth 20000 in
theorem e_fM_isLot (d : Nat) : ∀ {a1 : Int32} {μ : am_Mu} {out : Int32 × am_Mu}, fM_isLot a1 μ = some out → am_Ex none (d + 1) 210 0 [.ref 108, .int a1] [] am_SH μ (some (.int out.1), am_SH, out.2) := by
  intro a1 μ out h
  unfold fM_isLot at h
  refine am_Ex.seg 6 8 [.ref 108, .int a1] [.int ((μ 108 8) - 1), .int 0, .int a1] μ (fun _ => rfl) ?_
  obtain ⟨q1, h_q1, h⟩ := am_bind h
  refine am_Ex.isk (na := 3) rfl (As := [.int a1, .int 0, .int ((μ 108 8) - 1)]) rfl rfl rfl rfl rfl rfl (e_fM_lies (d + 0) h_q1) ?_
  refine am_Ex.same 11 [.ref 108, .int a1] [.int q1.1] q1.2 rfl ?_
  obtain ⟨q2, h⟩ := am_ifp h
  cases h
  exact am_Ex.zret rfl rfl q2
def fM_kitchen (a1 : Int32) (a2 : Int32) (a3 : Int32) (a4 : Int32) (μ : am_Mu) : Option (Int32 × am_Mu) := (if (μ 108 7) = 8 then some ((-1), μ) else ((fM_isSchool a1 μ).bind fun q2 => (if q2.1 = 0 then some ((-1), q2.2) else ((fM_lies a2 0 7 q2.2).bind fun q4 => (if q4.1 = 0 then some ((-1), q4.2) else ((fM_lies a3 0 99 q4.2).bind fun q6 => (if q6.1 = 0 then some ((-1), q6.2) else ((fM_lies a4 0 99 q6.2).bind fun q8 => (if ¬ q8.1 = 0 then (bif am_inb (q8.2 108 7) 8 then some ((((q8.2 108 7) + 1) - 1), (am_up (am_up (am_up (am_up (am_up q8.2 152 (((q8.2 108 7)).toNatClampNeg) a1) 153 (((q8.2 108 7)).toNatClampNeg) a2) 154 (((q8.2 108 7)).toNatClampNeg) a3) 155 (((q8.2 108 7)).toNatClampNeg) a4) 108 7 ((q8.2 108 7) + 1))) else none) else some ((-1), q8.2))))))))))
set_option maxRecDepth 20000 in
theorem e_fM_kitchen (d : Nat) : ∀ {a1 : Int32} {a2 : Int32} {a3 : Int32} {a4 : Int32} {μ : am_Mu} {out : Int32 × am_Mu}, fM_kitchen a1 a2 a3 a4 μ = some out → am_Ex none (d + 1) 211 0 [.ref 108, .int a1, .int a2, .int a3, .int a4] [] am_SH μ (some (.int out.1), am_SH, out.2) := by
  intro a1 a2 a3 a4 μ out h
  unfold fM_kitchen at h
  refine am_Ex.seg 3 6 [.ref 108, .int a1, .int a2, .int a3, .int a4] [.int 8, .int (μ 108 7)] μ (fun _ => rfl) ?_
  rcases am_ite h with ⟨q1, h⟩ | ⟨q1, h⟩
  · refine am_Ex.icmp_eq_t rfl q1 ?_
    refine am_Ex.seg 1 48 [.ref 108, .int a1, .int a2, .int a3, .int a4] [.int (-1)] μ (fun _ => rfl) ?_
    cases h
    exact am_Ex.iret rfl rfl
  · refine am_Ex.icmp_eq_f rfl q1 ?_
    refine am_Ex.seg 1 10 [.ref 108, .int a1, .int a2, .int a3, .int a4] [.int a1] μ (fun _ => rfl) ?_
    obtain ⟨q2, h_q2, h⟩ := am_bind h
    refine am_Ex.isk (na := 1) rfl (As := [.int a1]) rfl rfl rfl rfl rfl rfl (e_fM_isSchool (d + 0) h_q2) ?_
    refine am_Ex.same 13 [.ref 108, .int a1, .int a2, .int a3, .int a4] [.int q2.1] q2.2 rfl ?_
    rcases am_ite h with ⟨q3, h⟩ | ⟨q3, h⟩
    · refine am_Ex.if_eq_t rfl q3 ?_
      refine am_Ex.seg 1 48 [.ref 108, .int a1, .int a2, .int a3, .int a4] [.int (-1)] q2.2 (fun _ => rfl) ?_
      cases h
      exact am_Ex.iret rfl rfl
    · refine am_Ex.if_eq_f rfl q3 ?_
      refine am_Ex.seg 3 20 [.ref 108, .int a1, .int a2, .int a3, .int a4] [.int 7, .int 0, .int a2] q2.2 (fun _ => rfl) ?_
      obtain ⟨q4, h_q4, h⟩ := am_bind h
      refine am_Ex.isk (na := 3) rfl (As := [.int a2, .int 0, .int 7]) rfl rfl rfl rfl rfl rfl (e_fM_lies (d + 0) h_q4) ?_
      refine am_Ex.same 23 [.ref 108, .int a1, .int a2, .int a3, .int a4] [.int q4.1] q4.2 rfl ?_
      rcases am_ite h with ⟨q5, h⟩ | ⟨q5, h⟩
      · refine am_Ex.if_eq_t rfl q5 ?_
        refine am_Ex.seg 1 48 [.ref 108, .int a1, .int a2, .int a3, .int a4] [.int (-1)] q4.2 (fun _ => rfl) ?_
        cases h
        exact am_Ex.iret rfl rfl
      · refine am_Ex.if_eq_f rfl q5 ?_
        refine am_Ex.seg 3 30 [.ref 108, .int a1, .int a2, .int a3, .int a4] [.int 99, .int 0, .int a3] q4.2 (fun _ => rfl) ?_
        obtain ⟨q6, h_q6, h⟩ := am_bind h
        refine am_Ex.isk (na := 3) rfl (As := [.int a3, .int 0, .int 99]) rfl rfl rfl rfl rfl rfl (e_fM_lies (d + 0) h_q6) ?_
        refine am_Ex.same 33 [.ref 108, .int a1, .int a2, .int a3, .int a4] [.int q6.1] q6.2 rfl ?_
        rcases am_ite h with ⟨q7, h⟩ | ⟨q7, h⟩
        · refine am_Ex.if_eq_t rfl q7 ?_
          refine am_Ex.seg 1 48 [.ref 108, .int a1, .int a2, .int a3, .int a4] [.int (-1)] q6.2 (fun _ => rfl) ?_
          cases h
          exact am_Ex.iret rfl rfl
        · refine am_Ex.if_eq_f rfl q7 ?_
          refine am_Ex.seg 3 41 [.ref 108, .int a1, .int a2, .int a3, .int a4] [.int 99, .int 0, .int a4] q6.2 (fun _ => rfl) ?_
          obtain ⟨q8, h_q8, h⟩ := am_bind h
          refine am_Ex.isk (na := 3) rfl (As := [.int a4, .int 0, .int 99]) rfl rfl rfl rfl rfl rfl (e_fM_lies (d + 0) h_q8) ?_
          refine am_Ex.same 44 [.ref 108, .int a1, .int a2, .int a3, .int a4] [.int q8.1] q8.2 rfl ?_
          rcases am_ite h with ⟨q9, h⟩ | ⟨q9, h⟩
          · refine am_Ex.if_ne_t rfl q9 ?_
            refine am_Ex.seg 5 58 [.ref 108, .int a1, .int a2, .int a3, .int a4] [.int a1, .int (q8.2 108 7), .ref 152] q8.2 (fun _ => rfl) ?_
            obtain ⟨q10, h⟩ := am_bif h
            refine am_Ex.iast (v2 := a1) (i2 := ((q8.2 108 7)).toNatClampNeg) rfl rfl q10 rfl rfl ?_
            refine am_Ex.seg 5 68 [.ref 108, .int a1, .int a2, .int a3, .int a4] [.int a2, .int (q8.2 108 7), .ref 153] (am_up q8.2 152 (((q8.2 108 7)).toNatClampNeg) a1) (fun _ => rfl) ?_
            refine am_Ex.iast (v2 := a2) (i2 := ((q8.2 108 7)).toNatClampNeg) rfl rfl q10 rfl rfl ?_
            refine am_Ex.seg 5 78 [.ref 108, .int a1, .int a2, .int a3, .int a4] [.int a3, .int (q8.2 108 7), .ref 154] (am_up (am_up q8.2 152 (((q8.2 108 7)).toNatClampNeg) a1) 153 (((q8.2 108 7)).toNatClampNeg) a2) (fun _ => rfl) ?_
            refine am_Ex.iast (v2 := a3) (i2 := ((q8.2 108 7)).toNatClampNeg) rfl rfl q10 rfl rfl ?_
            refine am_Ex.seg 5 89 [.ref 108, .int a1, .int a2, .int a3, .int a4] [.int a4, .int (q8.2 108 7), .ref 155] (am_up (am_up (am_up q8.2 152 (((q8.2 108 7)).toNatClampNeg) a1) 153 (((q8.2 108 7)).toNatClampNeg) a2) 154 (((q8.2 108 7)).toNatClampNeg) a3) (fun _ => rfl) ?_
            refine am_Ex.iast (v2 := a4) (i2 := ((q8.2 108 7)).toNatClampNeg) rfl rfl q10 rfl rfl ?_
            refine am_Ex.seg 10 106 [.ref 108, .int a1, .int a2, .int a3, .int a4] [.int (((q8.2 108 7) + 1) - 1)] (am_up (am_up (am_up (am_up (am_up q8.2 152 (((q8.2 108 7)).toNatClampNeg) a1) 153 (((q8.2 108 7)).toNatClampNeg) a2) 154 (((q8.2 108 7)).toNatClampNeg) a3) 155 (((q8.2 108 7)).toNatClampNeg) a4) 108 7 ((q8.2 108 7) + 1)) (fun _ => rfl) ?_
            cases h
            exact am_Ex.iret rfl rfl
          · refine am_Ex.if_ne_f rfl (Decidable.not_not.mp q9) ?_
            refine am_Ex.seg 1 48 [.ref 108, .int a1, .int a2, .int a3, .int a4] [.int (-1)] q8.2 (fun _ => rfl) ?_
            cases h
            exact am_Ex.iret rfl rfl
def fM_oversee (a1 : Int32) (a2 : Int32) (μ : am_Mu) : Option (Int32 × am_Mu) := ((fM_isKitchen a1 μ).bind fun q1 => (if q1.1 = 0 then some (0, q1.2) else ((fM_lies a2 0 7 q1.2).bind fun q3 => (if ¬ q3.1 = 0 then (bif am_inb a1 8 then some (1, (am_up q3.2 153 ((a1).toNatClampNeg) a2)) else none) else some (0, q3.2)))))
set_option maxRecDepth 20000 in
theorem e_fM_oversee (d : Nat) : ∀ {a1 : Int32} {a2 : Int32} {μ : am_Mu} {out : Int32 × am_Mu}, fM_oversee a1 a2 μ = some out → am_Ex none (d + 2) 212 0 [.ref 108, .int a1, .int a2] [] am_SH μ (some (.int out.1), am_SH, out.2) := by
  intro a1 a2 μ out h
  unfold fM_oversee at h
  refine am_Ex.seg 2 2 [.ref 108, .int a1, .int a2] [.int a1, .ref 108] μ (fun _ => rfl) ?_
  obtain ⟨q1, h_q1, h⟩ := am_bind h
  refine am_Ex.ivk (na := 2) (b := 108) (As' := [.int a1]) rfl rfl rfl rfl rfl rfl rfl rfl rfl (e_fM_isKitchen (d + 0) h_q1) ?_
  refine am_Ex.same 5 [.ref 108, .int a1, .int a2] [.int q1.1] q1.2 rfl ?_
  rcases am_ite h with ⟨q2, h⟩ | ⟨q2, h⟩
  · refine am_Ex.if_eq_t rfl q2 ?_
    refine am_Ex.seg 1 19 [.ref 108, .int a1, .int a2] [.int 0] q1.2 (fun _ => rfl) ?_
    cases h
    exact am_Ex.zret rfl rfl (by decide)
  · refine am_Ex.if_eq_f rfl q2 ?_
    refine am_Ex.seg 3 12 [.ref 108, .int a1, .int a2] [.int 7, .int 0, .int a2] q1.2 (fun _ => rfl) ?_
    obtain ⟨q3, h_q3, h⟩ := am_bind h
    refine am_Ex.isk (na := 3) rfl (As := [.int a2, .int 0, .int 7]) rfl rfl rfl rfl rfl rfl (e_fM_lies (d + 1) h_q3) ?_
    refine am_Ex.same 15 [.ref 108, .int a1, .int a2] [.int q3.1] q3.2 rfl ?_
    rcases am_ite h with ⟨q4, h⟩ | ⟨q4, h⟩
    · refine am_Ex.if_ne_t rfl q4 ?_
      refine am_Ex.seg 4 26 [.ref 108, .int a1, .int a2] [.int a2, .int a1, .ref 153] q3.2 (fun _ => rfl) ?_
      obtain ⟨q5, h⟩ := am_bif h
      refine am_Ex.iast (v2 := a2) (i2 := (a1).toNatClampNeg) rfl rfl q5 rfl rfl ?_
      refine am_Ex.seg 1 28 [.ref 108, .int a1, .int a2] [.int 1] (am_up q3.2 153 ((a1).toNatClampNeg) a2) (fun _ => rfl) ?_
      cases h
      exact am_Ex.zret rfl rfl (by decide)
    · refine am_Ex.if_ne_f rfl (Decidable.not_not.mp q4) ?_
      refine am_Ex.seg 1 19 [.ref 108, .int a1, .int a2] [.int 0] q3.2 (fun _ => rfl) ?_
      cases h
      exact am_Ex.zret rfl rfl (by decide)
def fM_trust (a1 : Int32) (a2 : Int32) (a3 : Int32) (μ : am_Mu) : Option (Int32 × am_Mu) := ((fM_isSchool a1 μ).bind fun q1 => (if q1.1 = 0 then some (0, q1.2) else ((fM_lies a2 0 7 q1.2).bind fun q3 => (if q3.1 = 0 then some (0, q3.2) else (bif am_inb (((8 : Int32) * a1) + a2) 16 then (if ¬ (q3.2 156 (((((8 : Int32) * a1) + a2)).toNatClampNeg)) = a3 then some (1, (am_up q3.2 156 (((((8 : Int32) * a1) + a2)).toNatClampNeg) (a3 &&& 1))) else some (0, q3.2)) else none)))))
set_option maxRecDepth 20000 in
theorem e_fM_trust (d : Nat) : ∀ {a1 : Int32} {a2 : Int32} {a3 : Int32} {μ : am_Mu} {out : Int32 × am_Mu}, fM_trust a1 a2 a3 μ = some out → am_Ex none (d + 1) 213 0 [.ref 108, .int a1, .int a2, .int a3] [] am_SH μ (some (.int out.1), am_SH, out.2) := by
  intro a1 a2 a3 μ out h
  unfold fM_trust at h
  refine am_Ex.seg 1 1 [.ref 108, .int a1, .int a2, .int a3] [.int a1] μ (fun _ => rfl) ?_
  obtain ⟨q1, h_q1, h⟩ := am_bind h
  refine am_Ex.isk (na := 1) rfl (As := [.int a1]) rfl rfl rfl rfl rfl rfl (e_fM_isSchool (d + 0) h_q1) ?_
  refine am_Ex.same 4 [.ref 108, .int a1, .int a2, .int a3] [.int q1.1] q1.2 rfl ?_
  rcases am_ite h with ⟨q2, h⟩ | ⟨q2, h⟩
  · refine am_Ex.if_eq_t rfl q2 ?_
    refine am_Ex.seg 1 33 [.ref 108, .int a1, .int a2, .int a3] [.int 0] q1.2 (fun _ => rfl) ?_
    cases h
    exact am_Ex.zret rfl rfl (by decide)
  · refine am_Ex.if_eq_f rfl q2 ?_
    refine am_Ex.seg 3 11 [.ref 108, .int a1, .int a2, .int a3] [.int 7, .int 0, .int a2] q1.2 (fun _ => rfl) ?_
    obtain ⟨q3, h_q3, h⟩ := am_bind h
    refine am_Ex.isk (na := 3) rfl (As := [.int a2, .int 0, .int 7]) rfl rfl rfl rfl rfl rfl (e_fM_lies (d + 0) h_q3) ?_
    refine am_Ex.same 14 [.ref 108, .int a1, .int a2, .int a3] [.int q3.1] q3.2 rfl ?_
    rcases am_ite h with ⟨q4, h⟩ | ⟨q4, h⟩
    · refine am_Ex.if_eq_t rfl q4 ?_
      refine am_Ex.seg 1 33 [.ref 108, .int a1, .int a2, .int a3] [.int 0] q3.2 (fun _ => rfl) ?_
      cases h
      exact am_Ex.zret rfl rfl (by decide)
    · refine am_Ex.if_eq_f rfl q4 ?_
      refine am_Ex.seg 7 27 [.ref 108, .int a1, .int a2, .int a3] [.int (((8 : Int32) * a1) + a2), .ref 156] q3.2 (fun _ => rfl) ?_
      obtain ⟨q5, h⟩ := am_bif h
      refine am_Ex.zald (v := (q3.2 156 (((((8 : Int32) * a1) + a2)).toNatClampNeg))) rfl rfl q5 rfl ?_
      refine am_Ex.seg 1 29 [.ref 108, .int a1, .int a2, .int a3] [.int a3, .int (q3.2 156 (((((8 : Int32) * a1) + a2)).toNatClampNeg))] q3.2 (fun _ => rfl) ?_
      rcases am_ite h with ⟨q6, h⟩ | ⟨q6, h⟩
      · refine am_Ex.icmp_ne_t rfl q6 ?_
        refine am_Ex.seg 8 45 [.ref 108, .int a1, .int a2, .int a3] [.int a3, .int (((8 : Int32) * a1) + a2), .ref 156] q3.2 (fun _ => rfl) ?_
        refine am_Ex.zast (v2 := (a3 &&& 1)) (i2 := ((((8 : Int32) * a1) + a2)).toNatClampNeg) rfl rfl q5 rfl rfl ?_
        refine am_Ex.seg 1 47 [.ref 108, .int a1, .int a2, .int a3] [.int 1] (am_up q3.2 156 (((((8 : Int32) * a1) + a2)).toNatClampNeg) (a3 &&& 1)) (fun _ => rfl) ?_
        cases h
        exact am_Ex.zret rfl rfl (by decide)
      · refine am_Ex.icmp_ne_f rfl (Decidable.not_not.mp q6) ?_
        refine am_Ex.seg 1 33 [.ref 108, .int a1, .int a2, .int a3] [.int 0] q3.2 (fun _ => rfl) ?_
        cases h
        exact am_Ex.zret rfl rfl (by decide)
def fM_lot (a1 : Int32) (a2 : Int32) (μ : am_Mu) : Option (Int32 × am_Mu) := (if (μ 108 8) = 10 then some ((-1), μ) else ((fM_isKitchen a1 μ).bind fun q2 => (if q2.1 = 0 then some ((-1), q2.2) else ((fM_lies a2 1 100000 q2.2).bind fun q4 => (if ¬ q4.1 = 0 then (bif am_inb (q4.2 108 8) 10 then some ((((q4.2 108 8) + 1) - 1), (am_up (am_up (am_up q4.2 157 (((q4.2 108 8)).toNatClampNeg) a1) 158 (((q4.2 108 8)).toNatClampNeg) a2) 108 8 ((q4.2 108 8) + 1))) else none) else some ((-1), q4.2))))))
set_option maxRecDepth 20000 in
theorem e_fM_lot (d : Nat) : ∀ {a1 : Int32} {a2 : Int32} {μ : am_Mu} {out : Int32 × am_Mu}, fM_lot a1 a2 μ = some out → am_Ex none (d + 2) 214 0 [.ref 108, .int a1, .int a2] [] am_SH μ (some (.int out.1), am_SH, out.2) := by
  intro a1 a2 μ out h
  unfold fM_lot at h
  refine am_Ex.seg 3 6 [.ref 108, .int a1, .int a2] [.int 10, .int (μ 108 8)] μ (fun _ => rfl) ?_
  rcases am_ite h with ⟨q1, h⟩ | ⟨q1, h⟩
  · refine am_Ex.icmp_eq_t rfl q1 ?_
    refine am_Ex.seg 1 29 [.ref 108, .int a1, .int a2] [.int (-1)] μ (fun _ => rfl) ?_
    cases h
    exact am_Ex.iret rfl rfl
  · refine am_Ex.icmp_eq_f rfl q1 ?_
    refine am_Ex.seg 2 11 [.ref 108, .int a1, .int a2] [.int a1, .ref 108] μ (fun _ => rfl) ?_
    obtain ⟨q2, h_q2, h⟩ := am_bind h
    refine am_Ex.ivk (na := 2) (b := 108) (As' := [.int a1]) rfl rfl rfl rfl rfl rfl rfl rfl rfl (e_fM_isKitchen (d + 0) h_q2) ?_
    refine am_Ex.same 14 [.ref 108, .int a1, .int a2] [.int q2.1] q2.2 rfl ?_
    rcases am_ite h with ⟨q3, h⟩ | ⟨q3, h⟩
    · refine am_Ex.if_eq_t rfl q3 ?_
      refine am_Ex.seg 1 29 [.ref 108, .int a1, .int a2] [.int (-1)] q2.2 (fun _ => rfl) ?_
      cases h
      exact am_Ex.iret rfl rfl
    · refine am_Ex.if_eq_f rfl q3 ?_
      refine am_Ex.seg 3 22 [.ref 108, .int a1, .int a2] [.int 100000, .int 1, .int a2] q2.2 (fun _ => rfl) ?_
      obtain ⟨q4, h_q4, h⟩ := am_bind h
      refine am_Ex.isk (na := 3) rfl (As := [.int a2, .int 1, .int 100000]) rfl rfl rfl rfl rfl rfl (e_fM_lies (d + 1) h_q4) ?_
      refine am_Ex.same 25 [.ref 108, .int a1, .int a2] [.int q4.1] q4.2 rfl ?_
      rcases am_ite h with ⟨q5, h⟩ | ⟨q5, h⟩
      · refine am_Ex.if_ne_t rfl q5 ?_
        refine am_Ex.seg 5 39 [.ref 108, .int a1, .int a2] [.int a1, .int (q4.2 108 8), .ref 157] q4.2 (fun _ => rfl) ?_
        obtain ⟨q6, h⟩ := am_bif h
        refine am_Ex.iast (v2 := a1) (i2 := ((q4.2 108 8)).toNatClampNeg) rfl rfl q6 rfl rfl ?_
        refine am_Ex.seg 5 49 [.ref 108, .int a1, .int a2] [.int a2, .int (q4.2 108 8), .ref 158] (am_up q4.2 157 (((q4.2 108 8)).toNatClampNeg) a1) (fun _ => rfl) ?_
        refine am_Ex.iast (v2 := a2) (i2 := ((q4.2 108 8)).toNatClampNeg) rfl rfl q6 rfl rfl ?_
        refine am_Ex.seg 10 66 [.ref 108, .int a1, .int a2] [.int (((q4.2 108 8) + 1) - 1)] (am_up (am_up (am_up q4.2 157 (((q4.2 108 8)).toNatClampNeg) a1) 158 (((q4.2 108 8)).toNatClampNeg) a2) 108 8 ((q4.2 108 8) + 1)) (fun _ => rfl) ?_
        cases h
        exact am_Ex.iret rfl rfl
      · refine am_Ex.if_ne_f rfl (Decidable.not_not.mp q5) ?_
        refine am_Ex.seg 1 29 [.ref 108, .int a1, .int a2] [.int (-1)] q4.2 (fun _ => rfl) ?_
        cases h
        exact am_Ex.iret rfl rfl
def fM_least (a0 : Int32) (a1 : Int32) (μ : am_Mu) : Option (Int32 × am_Mu) := (if a1 ≤ a0 then some (a1, μ) else some (a0, μ))
set_option maxRecDepth 20000 in
theorem e_fM_least (d : Nat) : ∀ {a0 : Int32} {a1 : Int32} {μ : am_Mu} {out : Int32 × am_Mu}, fM_least a0 a1 μ = some out → am_Ex none (d + 0) 215 0 [.int a0, .int a1] [] am_SH μ (some (.int out.1), am_SH, out.2) := by
  intro a0 a1 μ out h
  unfold fM_least at h
  refine am_Ex.seg 2 2 [.int a0, .int a1] [.int a1, .int a0] μ (fun _ => rfl) ?_
  rcases am_ite h with ⟨q1, h⟩ | ⟨q1, h⟩
  · refine am_Ex.icmp_ge_t rfl q1 ?_
    refine am_Ex.seg 1 10 [.int a0, .int a1] [.int a1] μ (fun _ => rfl) ?_
    cases h
    exact am_Ex.iret rfl rfl
  · refine am_Ex.icmp_ge_f rfl q1 ?_
    refine am_Ex.seg 1 6 [.int a0, .int a1] [.int a0] μ (fun _ => rfl) ?_
    refine am_Ex.goto rfl ?_
    cases h
    exact am_Ex.iret rfl rfl
def fM_most (a0 : Int32) (a1 : Int32) (μ : am_Mu) : Option (Int32 × am_Mu) := (if a0 ≤ a1 then some (a1, μ) else some (a0, μ))
set_option maxRecDepth 20000 in
theorem e_fM_most (d : Nat) : ∀ {a0 : Int32} {a1 : Int32} {μ : am_Mu} {out : Int32 × am_Mu}, fM_most a0 a1 μ = some out → am_Ex none (d + 0) 216 0 [.int a0, .int a1] [] am_SH μ (some (.int out.1), am_SH, out.2) := by
  intro a0 a1 μ out h
  unfold fM_most at h
  refine am_Ex.seg 2 2 [.int a0, .int a1] [.int a1, .int a0] μ (fun _ => rfl) ?_
  rcases am_ite h with ⟨q1, h⟩ | ⟨q1, h⟩
  · refine am_Ex.icmp_le_t rfl q1 ?_
    refine am_Ex.seg 1 10 [.int a0, .int a1] [.int a1] μ (fun _ => rfl) ?_
    cases h
    exact am_Ex.iret rfl rfl
  · refine am_Ex.icmp_le_f rfl q1 ?_
    refine am_Ex.seg 1 6 [.int a0, .int a1] [.int a0] μ (fun _ => rfl) ?_
    refine am_Ex.goto rfl ?_
    cases h
    exact am_Ex.iret rfl rfl
def fM_passes_134 (a2 : Int32) (s1 : Int32) (s2 : Int32) (s3 : Int32) (μ : am_Mu) : Option (am_Mu) := (bif am_inb s1 8 then some (am_up (am_up μ 166 ((s1).toNatClampNeg) (s2 + s3)) 108 80 ((μ 108 80) ||| ((1 : Int32) <<< (a2 &&& 31)))) else none)
def fM_passes_114 (a2 : Int32) (a4 : Int32) (a6 : Int32) (s1 : Int32) (s2 : Int32) (s3 : Int32) (μ : am_Mu) : Option (am_Mu) := (bif am_inb s1 8 then (bif am_inb a2 8 then (if a4 = 0 then fM_passes_134 a2 a2 (μ 166 ((a2).toNatClampNeg)) 0 (am_up μ 165 ((s1).toNatClampNeg) (s2 + s3)) else fM_passes_134 a2 a2 (μ 166 ((a2).toNatClampNeg)) a6 (am_up μ 165 ((s1).toNatClampNeg) (s2 + s3))) else none) else none)
def fM_passes (a1 : Int32) (a2 : Int32) (a3 : Int32) (a4 : Int32) (μ : am_Mu) : Option (am_Mu) := (bif am_inb a1 8 then ((fM_most 0 (a3 - ((μ 164 ((a1).toNatClampNeg)) - (μ 165 ((a1).toNatClampNeg)))) μ).bind fun q2 => ((fM_least a3 (q2.2 166 ((a1).toNatClampNeg)) q2.2).bind fun q3 => ((fM_most 0 ((q3.2 165 ((a1).toNatClampNeg)) - a3) q3.2).bind fun q4 => ((fM_least (q4.2 166 ((a1).toNatClampNeg)) ((q3.2 164 ((a1).toNatClampNeg)) - a3) (am_up q4.2 165 ((a1).toNatClampNeg) q4.1)).bind fun q5 => (bif am_inb a2 8 then (if a4 = 0 then fM_passes_114 a2 a4 q3.1 a2 (q5.2 165 ((a2).toNatClampNeg)) 0 (am_up (am_up (am_up q5.2 166 ((a1).toNatClampNeg) q5.1) 164 ((a1).toNatClampNeg) ((q3.2 164 ((a1).toNatClampNeg)) - a3)) 164 ((a2).toNatClampNeg) (((am_up (am_up q5.2 166 ((a1).toNatClampNeg) q5.1) 164 ((a1).toNatClampNeg) ((q3.2 164 ((a1).toNatClampNeg)) - a3)) 164 ((a2).toNatClampNeg)) + a3)) else fM_passes_114 a2 a4 q3.1 a2 (q5.2 165 ((a2).toNatClampNeg)) q2.1 (am_up (am_up (am_up q5.2 166 ((a1).toNatClampNeg) q5.1) 164 ((a1).toNatClampNeg) ((q3.2 164 ((a1).toNatClampNeg)) - a3)) 164 ((a2).toNatClampNeg) (((am_up (am_up q5.2 166 ((a1).toNatClampNeg) q5.1) 164 ((a1).toNatClampNeg) ((q3.2 164 ((a1).toNatClampNeg)) - a3)) 164 ((a2).toNatClampNeg)) + a3))) else none))))) else none)
set_option maxRecDepth 20000 in
theorem e_fM_passes_134 (d : Nat) : ∀ {a2 : Int32} {s1 : Int32} {s2 : Int32} {s3 : Int32} {w1 w3 w4 w5 w6 w7 : Value} {μ : am_Mu} {out : am_Mu}, fM_passes_134 a2 s1 s2 s3 μ = some out → am_Ex none (d + 1) 218 134 [.ref 108, w1, .int a2, w3, w4, w5, w6, w7] [.int s3, .int s2, .int s1, .ref 166] am_SH μ (none, am_SH, out) := by
  intro a2 s1 s2 s3 w1 w3 w4 w5 w6 w7 μ out h
  unfold fM_passes_134 at h
  refine am_Ex.seg 1 135 [.ref 108, w1, .int a2, w3, w4, w5, w6, w7] [.int (s2 + s3), .int s1, .ref 166] μ (fun _ => rfl) ?_
  obtain ⟨q1, h⟩ := am_bif h
  refine am_Ex.iast (v2 := (s2 + s3)) (i2 := (s1).toNatClampNeg) rfl rfl q1 rfl rfl ?_
  refine am_Ex.seg 8 148 [.ref 108, w1, .int a2, w3, w4, w5, w6, w7] [] (am_up (am_up μ 166 ((s1).toNatClampNeg) (s2 + s3)) 108 80 ((μ 108 80) ||| ((1 : Int32) <<< (a2 &&& 31)))) (fun _ => rfl) ?_
  cases h
  exact am_Ex.vret rfl rfl
set_option maxRecDepth 20000 in
theorem e_fM_passes_114 (d : Nat) : ∀ {a2 : Int32} {a4 : Int32} {a6 : Int32} {s1 : Int32} {s2 : Int32} {s3 : Int32} {w1 w3 w5 w7 : Value} {μ : am_Mu} {out : am_Mu}, fM_passes_114 a2 a4 a6 s1 s2 s3 μ = some out → am_Ex none (d + 1) 218 114 [.ref 108, w1, .int a2, w3, .int a4, w5, .int a6, w7] [.int s3, .int s2, .int s1, .ref 165] am_SH μ (none, am_SH, out) := by
  intro a2 a4 a6 s1 s2 s3 w1 w3 w5 w7 μ out h
  unfold fM_passes_114 at h
  refine am_Ex.seg 1 115 [.ref 108, w1, .int a2, w3, .int a4, w5, .int a6, w7] [.int (s2 + s3), .int s1, .ref 165] μ (fun _ => rfl) ?_
  obtain ⟨q1, h⟩ := am_bif h
  refine am_Ex.iast (v2 := (s2 + s3)) (i2 := (s1).toNatClampNeg) rfl rfl q1 rfl rfl ?_
  refine am_Ex.seg 4 122 [.ref 108, w1, .int a2, w3, .int a4, w5, .int a6, w7] [.int a2, .ref 166, .int a2, .ref 166] (am_up μ 165 ((s1).toNatClampNeg) (s2 + s3)) (fun _ => rfl) ?_
  obtain ⟨q2, h⟩ := am_bif h
  refine am_Ex.iald (v := (μ 166 ((a2).toNatClampNeg))) rfl rfl q2 ((am_up_k (by decide)).trans rfl) ?_
  refine am_Ex.seg 1 125 [.ref 108, w1, .int a2, w3, .int a4, w5, .int a6, w7] [.int a4, .int (μ 166 ((a2).toNatClampNeg)), .int a2, .ref 166] (am_up μ 165 ((s1).toNatClampNeg) (s2 + s3)) (fun _ => rfl) ?_
  rcases am_ite h with ⟨q3, h⟩ | ⟨q3, h⟩
  · refine am_Ex.if_eq_t rfl q3 ?_
    refine am_Ex.seg 1 134 [.ref 108, w1, .int a2, w3, .int a4, w5, .int a6, w7] [.int 0, .int (μ 166 ((a2).toNatClampNeg)), .int a2, .ref 166] (am_up μ 165 ((s1).toNatClampNeg) (s2 + s3)) (fun _ => rfl) ?_
    exact e_fM_passes_134 d h
  · refine am_Ex.if_eq_f rfl q3 ?_
    refine am_Ex.seg 1 130 [.ref 108, w1, .int a2, w3, .int a4, w5, .int a6, w7] [.int a6, .int (μ 166 ((a2).toNatClampNeg)), .int a2, .ref 166] (am_up μ 165 ((s1).toNatClampNeg) (s2 + s3)) (fun _ => rfl) ?_
    refine am_Ex.goto rfl ?_
    exact e_fM_passes_134 d h
set_option maxRecDepth 20000 in
theorem e_fM_passes (d : Nat) : ∀ {a1 : Int32} {a2 : Int32} {a3 : Int32} {a4 : Int32} {μ : am_Mu} {out : am_Mu}, fM_passes a1 a2 a3 a4 μ = some out → am_Ex none (d + 1) 218 0 [.ref 108, .int a1, .int a2, .int a3, .int a4, .null, .null, .null] [] am_SH μ (none, am_SH, out) := by
  intro a1 a2 a3 a4 μ out h
  unfold fM_passes at h
  refine am_Ex.seg 5 7 [.ref 108, .int a1, .int a2, .int a3, .int a4, .null, .null, .null] [.int a1, .ref 164, .int a3, .int 0] μ (fun _ => rfl) ?_
  obtain ⟨q1, h⟩ := am_bif h
  refine am_Ex.iald (v := (μ 164 ((a1).toNatClampNeg))) rfl rfl q1 rfl ?_
  refine am_Ex.seg 3 13 [.ref 108, .int a1, .int a2, .int a3, .int a4, .null, .null, .null] [.int a1, .ref 165, .int (μ 164 ((a1).toNatClampNeg)), .int a3, .int 0] μ (fun _ => rfl) ?_
  refine am_Ex.iald (v := (μ 165 ((a1).toNatClampNeg))) rfl rfl q1 rfl ?_
  refine am_Ex.seg 2 16 [.ref 108, .int a1, .int a2, .int a3, .int a4, .null, .null, .null] [.int (a3 - ((μ 164 ((a1).toNatClampNeg)) - (μ 165 ((a1).toNatClampNeg)))), .int 0] μ (fun _ => rfl) ?_
  obtain ⟨q2, h_q2, h⟩ := am_bind h
  refine am_Ex.isk (na := 2) rfl (As := [.int 0, .int (a3 - ((μ 164 ((a1).toNatClampNeg)) - (μ 165 ((a1).toNatClampNeg))))]) rfl rfl rfl rfl rfl rfl (e_fM_most (d + 0) h_q2) ?_
  refine am_Ex.same 19 [.ref 108, .int a1, .int a2, .int a3, .int a4, .null, .null, .null] [.int q2.1] q2.2 rfl ?_
  refine am_Ex.seg 5 27 [.ref 108, .int a1, .int a2, .int a3, .int a4, .int q2.1, .null, .null] [.int a1, .ref 166, .int a3] q2.2 (fun _ => rfl) ?_
  refine am_Ex.iald (v := (q2.2 166 ((a1).toNatClampNeg))) rfl rfl q1 rfl ?_
  obtain ⟨q3, h_q3, h⟩ := am_bind h
  refine am_Ex.isk (na := 2) rfl (As := [.int a3, .int (q2.2 166 ((a1).toNatClampNeg))]) rfl rfl rfl rfl rfl rfl (e_fM_least (d + 0) h_q3) ?_
  refine am_Ex.same 31 [.ref 108, .int a1, .int a2, .int a3, .int a4, .int q2.1, .null, .null] [.int q3.1] q3.2 rfl ?_
  refine am_Ex.seg 4 38 [.ref 108, .int a1, .int a2, .int a3, .int a4, .int q2.1, .int q3.1, .null] [.int a1, .ref 164] q3.2 (fun _ => rfl) ?_
  refine am_Ex.iald (v := (q3.2 164 ((a1).toNatClampNeg))) rfl rfl q1 rfl ?_
  refine am_Ex.seg 10 54 [.ref 108, .int a1, .int a2, .int a3, .int a4, .int q2.1, .int q3.1, .int ((q3.2 164 ((a1).toNatClampNeg)) - a3)] [.int a1, .ref 165, .int 0, .int a1, .ref 165] q3.2 (fun _ => rfl) ?_
  refine am_Ex.iald (v := (q3.2 165 ((a1).toNatClampNeg))) rfl rfl q1 rfl ?_
  refine am_Ex.seg 2 57 [.ref 108, .int a1, .int a2, .int a3, .int a4, .int q2.1, .int q3.1, .int ((q3.2 164 ((a1).toNatClampNeg)) - a3)] [.int ((q3.2 165 ((a1).toNatClampNeg)) - a3), .int 0, .int a1, .ref 165] q3.2 (fun _ => rfl) ?_
  obtain ⟨q4, h_q4, h⟩ := am_bind h
  refine am_Ex.isk (na := 2) rfl (As := [.int 0, .int ((q3.2 165 ((a1).toNatClampNeg)) - a3)]) rfl rfl rfl rfl rfl rfl (e_fM_most (d + 0) h_q4) ?_
  refine am_Ex.same 60 [.ref 108, .int a1, .int a2, .int a3, .int a4, .int q2.1, .int q3.1, .int ((q3.2 164 ((a1).toNatClampNeg)) - a3)] [.int q4.1, .int a1, .ref 165] q4.2 rfl ?_
  refine am_Ex.iast (v2 := q4.1) (i2 := (a1).toNatClampNeg) rfl rfl q1 rfl rfl ?_
  refine am_Ex.seg 6 71 [.ref 108, .int a1, .int a2, .int a3, .int a4, .int q2.1, .int q3.1, .int ((q3.2 164 ((a1).toNatClampNeg)) - a3)] [.int a1, .ref 166, .int a1, .ref 166] (am_up q4.2 165 ((a1).toNatClampNeg) q4.1) (fun _ => rfl) ?_
  refine am_Ex.iald (v := (q4.2 166 ((a1).toNatClampNeg))) rfl rfl q1 ((am_up_k (by decide)).trans rfl) ?_
  refine am_Ex.seg 1 74 [.ref 108, .int a1, .int a2, .int a3, .int a4, .int q2.1, .int q3.1, .int ((q3.2 164 ((a1).toNatClampNeg)) - a3)] [.int ((q3.2 164 ((a1).toNatClampNeg)) - a3), .int (q4.2 166 ((a1).toNatClampNeg)), .int a1, .ref 166] (am_up q4.2 165 ((a1).toNatClampNeg) q4.1) (fun _ => rfl) ?_
  obtain ⟨q5, h_q5, h⟩ := am_bind h
  refine am_Ex.isk (na := 2) rfl (As := [.int (q4.2 166 ((a1).toNatClampNeg)), .int ((q3.2 164 ((a1).toNatClampNeg)) - a3)]) rfl rfl rfl rfl rfl rfl (e_fM_least (d + 0) h_q5) ?_
  refine am_Ex.same 77 [.ref 108, .int a1, .int a2, .int a3, .int a4, .int q2.1, .int q3.1, .int ((q3.2 164 ((a1).toNatClampNeg)) - a3)] [.int q5.1, .int a1, .ref 166] q5.2 rfl ?_
  refine am_Ex.iast (v2 := q5.1) (i2 := (a1).toNatClampNeg) rfl rfl q1 rfl rfl ?_
  refine am_Ex.seg 4 85 [.ref 108, .int a1, .int a2, .int a3, .int a4, .int q2.1, .int q3.1, .int ((q3.2 164 ((a1).toNatClampNeg)) - a3)] [.int ((q3.2 164 ((a1).toNatClampNeg)) - a3), .int a1, .ref 164] (am_up q5.2 166 ((a1).toNatClampNeg) q5.1) (fun _ => rfl) ?_
  refine am_Ex.iast (v2 := ((q3.2 164 ((a1).toNatClampNeg)) - a3)) (i2 := (a1).toNatClampNeg) rfl rfl q1 rfl rfl ?_
  refine am_Ex.seg 4 92 [.ref 108, .int a1, .int a2, .int a3, .int a4, .int q2.1, .int q3.1, .int ((q3.2 164 ((a1).toNatClampNeg)) - a3)] [.int a2, .ref 164, .int a2, .ref 164] (am_up (am_up q5.2 166 ((a1).toNatClampNeg) q5.1) 164 ((a1).toNatClampNeg) ((q3.2 164 ((a1).toNatClampNeg)) - a3)) (fun _ => rfl) ?_
  obtain ⟨q6, h⟩ := am_bif h
  refine am_Ex.iald (v := ((am_up (am_up q5.2 166 ((a1).toNatClampNeg) q5.1) 164 ((a1).toNatClampNeg) ((q3.2 164 ((a1).toNatClampNeg)) - a3)) 164 ((a2).toNatClampNeg))) rfl rfl q6 rfl ?_
  refine am_Ex.seg 2 95 [.ref 108, .int a1, .int a2, .int a3, .int a4, .int q2.1, .int q3.1, .int ((q3.2 164 ((a1).toNatClampNeg)) - a3)] [.int (((am_up (am_up q5.2 166 ((a1).toNatClampNeg) q5.1) 164 ((a1).toNatClampNeg) ((q3.2 164 ((a1).toNatClampNeg)) - a3)) 164 ((a2).toNatClampNeg)) + a3), .int a2, .ref 164] (am_up (am_up q5.2 166 ((a1).toNatClampNeg) q5.1) 164 ((a1).toNatClampNeg) ((q3.2 164 ((a1).toNatClampNeg)) - a3)) (fun _ => rfl) ?_
  refine am_Ex.iast (v2 := (((am_up (am_up q5.2 166 ((a1).toNatClampNeg) q5.1) 164 ((a1).toNatClampNeg) ((q3.2 164 ((a1).toNatClampNeg)) - a3)) 164 ((a2).toNatClampNeg)) + a3)) (i2 := (a2).toNatClampNeg) rfl rfl q6 rfl rfl ?_
  refine am_Ex.seg 4 102 [.ref 108, .int a1, .int a2, .int a3, .int a4, .int q2.1, .int q3.1, .int ((q3.2 164 ((a1).toNatClampNeg)) - a3)] [.int a2, .ref 165, .int a2, .ref 165] (am_up (am_up (am_up q5.2 166 ((a1).toNatClampNeg) q5.1) 164 ((a1).toNatClampNeg) ((q3.2 164 ((a1).toNatClampNeg)) - a3)) 164 ((a2).toNatClampNeg) (((am_up (am_up q5.2 166 ((a1).toNatClampNeg) q5.1) 164 ((a1).toNatClampNeg) ((q3.2 164 ((a1).toNatClampNeg)) - a3)) 164 ((a2).toNatClampNeg)) + a3)) (fun _ => rfl) ?_
  refine am_Ex.iald (v := (q5.2 165 ((a2).toNatClampNeg))) rfl rfl q6 ((am_up_k (by decide)).trans ((am_up_k (by decide)).trans ((am_up_k (by decide)).trans rfl))) ?_
  refine am_Ex.seg 1 105 [.ref 108, .int a1, .int a2, .int a3, .int a4, .int q2.1, .int q3.1, .int ((q3.2 164 ((a1).toNatClampNeg)) - a3)] [.int a4, .int (q5.2 165 ((a2).toNatClampNeg)), .int a2, .ref 165] (am_up (am_up (am_up q5.2 166 ((a1).toNatClampNeg) q5.1) 164 ((a1).toNatClampNeg) ((q3.2 164 ((a1).toNatClampNeg)) - a3)) 164 ((a2).toNatClampNeg) (((am_up (am_up q5.2 166 ((a1).toNatClampNeg) q5.1) 164 ((a1).toNatClampNeg) ((q3.2 164 ((a1).toNatClampNeg)) - a3)) 164 ((a2).toNatClampNeg)) + a3)) (fun _ => rfl) ?_
  rcases am_ite h with ⟨q7, h⟩ | ⟨q7, h⟩
  · refine am_Ex.if_eq_t rfl q7 ?_
    refine am_Ex.seg 1 114 [.ref 108, .int a1, .int a2, .int a3, .int a4, .int q2.1, .int q3.1, .int ((q3.2 164 ((a1).toNatClampNeg)) - a3)] [.int 0, .int (q5.2 165 ((a2).toNatClampNeg)), .int a2, .ref 165] (am_up (am_up (am_up q5.2 166 ((a1).toNatClampNeg) q5.1) 164 ((a1).toNatClampNeg) ((q3.2 164 ((a1).toNatClampNeg)) - a3)) 164 ((a2).toNatClampNeg) (((am_up (am_up q5.2 166 ((a1).toNatClampNeg) q5.1) 164 ((a1).toNatClampNeg) ((q3.2 164 ((a1).toNatClampNeg)) - a3)) 164 ((a2).toNatClampNeg)) + a3)) (fun _ => rfl) ?_
    exact e_fM_passes_114 d h
  · refine am_Ex.if_eq_f rfl q7 ?_
    refine am_Ex.seg 1 110 [.ref 108, .int a1, .int a2, .int a3, .int a4, .int q2.1, .int q3.1, .int ((q3.2 164 ((a1).toNatClampNeg)) - a3)] [.int q2.1, .int (q5.2 165 ((a2).toNatClampNeg)), .int a2, .ref 165] (am_up (am_up (am_up q5.2 166 ((a1).toNatClampNeg) q5.1) 164 ((a1).toNatClampNeg) ((q3.2 164 ((a1).toNatClampNeg)) - a3)) 164 ((a2).toNatClampNeg) (((am_up (am_up q5.2 166 ((a1).toNatClampNeg) q5.1) 164 ((a1).toNatClampNeg) ((q3.2 164 ((a1).toNatClampNeg)) - a3)) 164 ((a2).toNatClampNeg)) + a3)) (fun _ => rfl) ?_
    refine am_Ex.goto rfl ?_
    exact e_fM_passes_114 d h
def fM_follows_200 (k115 : Int32 → Int32 → Int32 → am_Mu → Option (am_Mu)) (a1 : Int32) (a2 : Int32) (a5 : Int32) (μ : am_Mu) : Option (am_Mu) := k115 a1 a2 (a5 + 1) μ
def fM_follows_197 (k115 : Int32 → Int32 → Int32 → am_Mu → Option (am_Mu)) (a1 : Int32) (a2 : Int32) (a5 : Int32) (s1 : Int32) (s2 : Int32) (s3 : Int32) (s4 : Int32) (μ : am_Mu) : Option (am_Mu) := ((fM_passes s1 s2 s3 s4 μ).bind fun q1 => fM_follows_200 k115 a1 a2 a5 q1)
def fM_follows_196 (k115 : Int32 → Int32 → Int32 → am_Mu → Option (am_Mu)) (a1 : Int32) (a2 : Int32) (a5 : Int32) (s1 : Int32) (s2 : Int32) (s3 : Int32) (μ : am_Mu) : Option (am_Mu) := fM_follows_197 k115 a1 a2 a5 s1 s2 s3 0 μ
def fM_follows_115 : Nat → Int32 → Int32 → Int32 → am_Mu → Option (am_Mu)
  | 0, _, _, _, _ => none
  | n + 1, a1, a2, a5, μ => (if (μ 108 9) ≤ a5 then some μ else (bif am_inb a5 100 then (if ¬ (μ 159 ((a5).toNatClampNeg)) = a1 then fM_follows_200 (fM_follows_115 n) a1 a2 a5 μ else (if (μ 163 ((a5).toNatClampNeg)) = 0 then fM_follows_196 (fM_follows_115 n) a1 a2 a5 (μ 160 ((a5).toNatClampNeg)) (μ 161 ((a5).toNatClampNeg)) (μ 162 ((a5).toNatClampNeg)) μ else (bif am_inb (μ 160 ((a5).toNatClampNeg)) 8 then (bif am_inb (((8 : Int32) * a2) + (μ 153 (((μ 160 ((a5).toNatClampNeg))).toNatClampNeg))) 16 then (if (μ 156 (((((8 : Int32) * a2) + (μ 153 (((μ 160 ((a5).toNatClampNeg))).toNatClampNeg)))).toNatClampNeg)) = 0 then fM_follows_196 (fM_follows_115 n) a1 a2 a5 (μ 160 ((a5).toNatClampNeg)) (μ 161 ((a5).toNatClampNeg)) (μ 162 ((a5).toNatClampNeg)) μ else fM_follows_197 (fM_follows_115 n) a1 a2 a5 (μ 160 ((a5).toNatClampNeg)) (μ 161 ((a5).toNatClampNeg)) (μ 162 ((a5).toNatClampNeg)) 1 μ) else none) else none))) else none))
def fM_follows_92 (a1 : Int32) (a2 : Int32) (a3 : Int32) (s1 : Int32) (s2 : Int32) (μ : am_Mu) : Option (am_Mu) := (bif am_inb s1 8 then (bif am_inb a3 8 then fM_follows_115 am_F a1 a2 0 (am_up (am_up (am_up μ 165 ((s1).toNatClampNeg) s2) 166 ((a3).toNatClampNeg) ((am_up μ 165 ((s1).toNatClampNeg) s2) 165 ((a3).toNatClampNeg))) 108 80 ((1 : Int32) <<< (a3 &&& 31))) else none) else none)
def fM_follows_35 (a1 : Int32) (a2 : Int32) (μ : am_Mu) : Option (am_Mu) := (bif am_inb a1 10 then (bif am_inb (μ 157 ((a1).toNatClampNeg)) 8 then (bif am_inb (((8 : Int32) * a2) + (μ 153 (((μ 157 ((a1).toNatClampNeg))).toNatClampNeg))) 16 then (if (μ 156 (((((8 : Int32) * a2) + (μ 153 (((μ 157 ((a1).toNatClampNeg))).toNatClampNeg)))).toNatClampNeg)) = 0 then fM_follows_92 a1 a2 (μ 157 ((a1).toNatClampNeg)) (μ 157 ((a1).toNatClampNeg)) 0 (am_up μ 164 (((μ 157 ((a1).toNatClampNeg))).toNatClampNeg) (μ 158 ((a1).toNatClampNeg))) else fM_follows_92 a1 a2 (μ 157 ((a1).toNatClampNeg)) (μ 157 ((a1).toNatClampNeg)) (μ 158 ((a1).toNatClampNeg)) (am_up μ 164 (((μ 157 ((a1).toNatClampNeg))).toNatClampNeg) (μ 158 ((a1).toNatClampNeg)))) else none) else none) else none)
def fM_follows_2 : Nat → Int32 → Int32 → Int32 → am_Mu → Option (am_Mu)
  | 0, _, _, _, _ => none
  | n + 1, a1, a2, a3, μ => (if 8 ≤ a3 then fM_follows_35 a1 a2 μ else (bif am_inb a3 8 then (fM_follows_2 n) a1 a2 (a3 + 1) (am_up (am_up (am_up μ 164 ((a3).toNatClampNeg) 0) 165 ((a3).toNatClampNeg) 0) 166 ((a3).toNatClampNeg) 0) else none))
def fM_follows (a1 : Int32) (a2 : Int32) (μ : am_Mu) : Option (am_Mu) := fM_follows_2 am_F a1 a2 0 μ
set_option maxRecDepth 20000 in
theorem e_fM_follows_200 (d : Nat) {k115 : Int32 → Int32 → Int32 → am_Mu → Option (am_Mu)} (hk115 : ∀ {a1 : Int32} {a2 : Int32} {a5 : Int32} {w3 w4 : Value} {μ : am_Mu} {out : am_Mu}, k115 a1 a2 a5 μ = some out → am_Ex none (d + 2) 217 115 [.ref 108, .int a1, .int a2, w3, w4, .int a5] [] am_SH μ (none, am_SH, out)) : ∀ {a1 : Int32} {a2 : Int32} {a5 : Int32} {w3 w4 : Value} {μ : am_Mu} {out : am_Mu}, fM_follows_200 k115 a1 a2 a5 μ = some out → am_Ex none (d + 2) 217 200 [.ref 108, .int a1, .int a2, w3, w4, .int a5] [] am_SH μ (none, am_SH, out) := by
  intro a1 a2 a5 w3 w4 μ out h
  unfold fM_follows_200 at h
  refine am_Ex.seg 1 203 [.ref 108, .int a1, .int a2, w3, w4, .int (a5 + 1)] [] μ (fun _ => rfl) ?_
  refine am_Ex.goto rfl ?_
  exact hk115 h
set_option maxRecDepth 20000 in
theorem e_fM_follows_197 (d : Nat) {k115 : Int32 → Int32 → Int32 → am_Mu → Option (am_Mu)} (hk115 : ∀ {a1 : Int32} {a2 : Int32} {a5 : Int32} {w3 w4 : Value} {μ : am_Mu} {out : am_Mu}, k115 a1 a2 a5 μ = some out → am_Ex none (d + 2) 217 115 [.ref 108, .int a1, .int a2, w3, w4, .int a5] [] am_SH μ (none, am_SH, out)) : ∀ {a1 : Int32} {a2 : Int32} {a5 : Int32} {s1 : Int32} {s2 : Int32} {s3 : Int32} {s4 : Int32} {w3 w4 : Value} {μ : am_Mu} {out : am_Mu}, fM_follows_197 k115 a1 a2 a5 s1 s2 s3 s4 μ = some out → am_Ex none (d + 2) 217 197 [.ref 108, .int a1, .int a2, w3, w4, .int a5] [.int s4, .int s3, .int s2, .int s1, .ref 108] am_SH μ (none, am_SH, out) := by
  intro a1 a2 a5 s1 s2 s3 s4 w3 w4 μ out h
  unfold fM_follows_197 at h
  obtain ⟨q1, h_q1, h⟩ := am_bind h
  refine am_Ex.ivk (na := 5) (b := 108) (As' := [.int s1, .int s2, .int s3, .int s4]) rfl rfl rfl rfl rfl rfl rfl rfl rfl (e_fM_passes (d + 0) h_q1) ?_
  refine am_Ex.same 200 [.ref 108, .int a1, .int a2, w3, w4, .int a5] [] q1 rfl ?_
  exact e_fM_follows_200 d hk115 h
set_option maxRecDepth 20000 in
theorem e_fM_follows_196 (d : Nat) {k115 : Int32 → Int32 → Int32 → am_Mu → Option (am_Mu)} (hk115 : ∀ {a1 : Int32} {a2 : Int32} {a5 : Int32} {w3 w4 : Value} {μ : am_Mu} {out : am_Mu}, k115 a1 a2 a5 μ = some out → am_Ex none (d + 2) 217 115 [.ref 108, .int a1, .int a2, w3, w4, .int a5] [] am_SH μ (none, am_SH, out)) : ∀ {a1 : Int32} {a2 : Int32} {a5 : Int32} {s1 : Int32} {s2 : Int32} {s3 : Int32} {w3 w4 : Value} {μ : am_Mu} {out : am_Mu}, fM_follows_196 k115 a1 a2 a5 s1 s2 s3 μ = some out → am_Ex none (d + 2) 217 196 [.ref 108, .int a1, .int a2, w3, w4, .int a5] [.int s3, .int s2, .int s1, .ref 108] am_SH μ (none, am_SH, out) := by
  intro a1 a2 a5 s1 s2 s3 w3 w4 μ out h
  unfold fM_follows_196 at h
  refine am_Ex.seg 1 197 [.ref 108, .int a1, .int a2, w3, w4, .int a5] [.int 0, .int s3, .int s2, .int s1, .ref 108] μ (fun _ => rfl) ?_
  exact e_fM_follows_197 d hk115 h
set_option maxRecDepth 20000 in
theorem e_fM_follows_115 (d : Nat) : ∀ n : Nat, ∀ {a1 : Int32} {a2 : Int32} {a5 : Int32} {w3 w4 : Value} {μ : am_Mu} {out : am_Mu}, fM_follows_115 n a1 a2 a5 μ = some out → am_Ex none (d + 2) 217 115 [.ref 108, .int a1, .int a2, w3, w4, .int a5] [] am_SH μ (none, am_SH, out) := by
  intro n
  induction n with
  | zero => intros; contradiction
  | succ n ih =>
    have hk115 : ∀ {a1 : Int32} {a2 : Int32} {a5 : Int32} {w3 w4 : Value} {μ : am_Mu} {out : am_Mu}, (fM_follows_115 n) a1 a2 a5 μ = some out → am_Ex none (d + 2) 217 115 [.ref 108, .int a1, .int a2, w3, w4, .int a5] [] am_SH μ (none, am_SH, out) := ih
    intro a1 a2 a5 w3 w4 μ out h
    unfold fM_follows_115 at h
    refine am_Ex.seg 3 121 [.ref 108, .int a1, .int a2, w3, w4, .int a5] [.int (μ 108 9), .int a5] μ (fun _ => rfl) ?_
    rcases am_ite h with ⟨q1, h⟩ | ⟨q1, h⟩
    · refine am_Ex.icmp_ge_t rfl q1 ?_
      cases h
      exact am_Ex.vret rfl rfl
    · refine am_Ex.icmp_ge_f rfl q1 ?_
      refine am_Ex.seg 3 130 [.ref 108, .int a1, .int a2, w3, w4, .int a5] [.int a5, .ref 159] μ (fun _ => rfl) ?_
      obtain ⟨q2, h⟩ := am_bif h
      refine am_Ex.iald (v := (μ 159 ((a5).toNatClampNeg))) rfl rfl q2 rfl ?_
      refine am_Ex.seg 1 132 [.ref 108, .int a1, .int a2, w3, w4, .int a5] [.int a1, .int (μ 159 ((a5).toNatClampNeg))] μ (fun _ => rfl) ?_
      rcases am_ite h with ⟨q3, h⟩ | ⟨q3, h⟩
      · refine am_Ex.icmp_ne_t rfl q3 ?_
        exact e_fM_follows_200 d hk115 h
      · refine am_Ex.icmp_ne_f rfl (Decidable.not_not.mp q3) ?_
        refine am_Ex.seg 4 142 [.ref 108, .int a1, .int a2, w3, w4, .int a5] [.int a5, .ref 160, .ref 108] μ (fun _ => rfl) ?_
        refine am_Ex.iald (v := (μ 160 ((a5).toNatClampNeg))) rfl rfl q2 rfl ?_
        refine am_Ex.seg 3 149 [.ref 108, .int a1, .int a2, w3, w4, .int a5] [.int a5, .ref 161, .int (μ 160 ((a5).toNatClampNeg)), .ref 108] μ (fun _ => rfl) ?_
        refine am_Ex.iald (v := (μ 161 ((a5).toNatClampNeg))) rfl rfl q2 rfl ?_
        refine am_Ex.seg 3 156 [.ref 108, .int a1, .int a2, w3, w4, .int a5] [.int a5, .ref 162, .int (μ 161 ((a5).toNatClampNeg)), .int (μ 160 ((a5).toNatClampNeg)), .ref 108] μ (fun _ => rfl) ?_
        refine am_Ex.iald (v := (μ 162 ((a5).toNatClampNeg))) rfl rfl q2 rfl ?_
        refine am_Ex.seg 3 163 [.ref 108, .int a1, .int a2, w3, w4, .int a5] [.int a5, .ref 163, .int (μ 162 ((a5).toNatClampNeg)), .int (μ 161 ((a5).toNatClampNeg)), .int (μ 160 ((a5).toNatClampNeg)), .ref 108] μ (fun _ => rfl) ?_
        refine am_Ex.zald (v := (μ 163 ((a5).toNatClampNeg))) rfl rfl q2 rfl ?_
        rcases am_ite h with ⟨q4, h⟩ | ⟨q4, h⟩
        · refine am_Ex.if_eq_t rfl q4 ?_
          exact e_fM_follows_196 d hk115 h
        · refine am_Ex.if_eq_f rfl q4 ?_
          refine am_Ex.seg 10 185 [.ref 108, .int a1, .int a2, w3, w4, .int a5] [.int a5, .ref 160, .ref 153, .int ((8 : Int32) * a2), .ref 156, .int (μ 162 ((a5).toNatClampNeg)), .int (μ 161 ((a5).toNatClampNeg)), .int (μ 160 ((a5).toNatClampNeg)), .ref 108] μ (fun _ => rfl) ?_
          refine am_Ex.iald (v := (μ 160 ((a5).toNatClampNeg))) rfl rfl q2 rfl ?_
          obtain ⟨q5, h⟩ := am_bif h
          refine am_Ex.iald (v := (μ 153 (((μ 160 ((a5).toNatClampNeg))).toNatClampNeg))) rfl rfl q5 rfl ?_
          refine am_Ex.seg 1 188 [.ref 108, .int a1, .int a2, w3, w4, .int a5] [.int (((8 : Int32) * a2) + (μ 153 (((μ 160 ((a5).toNatClampNeg))).toNatClampNeg))), .ref 156, .int (μ 162 ((a5).toNatClampNeg)), .int (μ 161 ((a5).toNatClampNeg)), .int (μ 160 ((a5).toNatClampNeg)), .ref 108] μ (fun _ => rfl) ?_
          obtain ⟨q6, h⟩ := am_bif h
          refine am_Ex.zald (v := (μ 156 (((((8 : Int32) * a2) + (μ 153 (((μ 160 ((a5).toNatClampNeg))).toNatClampNeg)))).toNatClampNeg))) rfl rfl q6 rfl ?_
          rcases am_ite h with ⟨q7, h⟩ | ⟨q7, h⟩
          · refine am_Ex.if_eq_t rfl q7 ?_
            exact e_fM_follows_196 d hk115 h
          · refine am_Ex.if_eq_f rfl q7 ?_
            refine am_Ex.seg 1 193 [.ref 108, .int a1, .int a2, w3, w4, .int a5] [.int 1, .int (μ 162 ((a5).toNatClampNeg)), .int (μ 161 ((a5).toNatClampNeg)), .int (μ 160 ((a5).toNatClampNeg)), .ref 108] μ (fun _ => rfl) ?_
            refine am_Ex.goto rfl ?_
            exact e_fM_follows_197 d hk115 h
set_option maxRecDepth 20000 in
theorem e_fM_follows_92 (d : Nat) : ∀ {a1 : Int32} {a2 : Int32} {a3 : Int32} {s1 : Int32} {s2 : Int32} {w4 w5 : Value} {μ : am_Mu} {out : am_Mu}, fM_follows_92 a1 a2 a3 s1 s2 μ = some out → am_Ex none (d + 2) 217 92 [.ref 108, .int a1, .int a2, .int a3, w4, w5] [.int s2, .int s1, .ref 165] am_SH μ (none, am_SH, out) := by
  intro a1 a2 a3 s1 s2 w4 w5 μ out h
  unfold fM_follows_92 at h
  obtain ⟨q1, h⟩ := am_bif h
  refine am_Ex.iast (v2 := s2) (i2 := (s1).toNatClampNeg) rfl rfl q1 rfl rfl ?_
  refine am_Ex.seg 6 103 [.ref 108, .int a1, .int a2, .int a3, w4, w5] [.int a3, .ref 165, .int a3, .ref 166] (am_up μ 165 ((s1).toNatClampNeg) s2) (fun _ => rfl) ?_
  obtain ⟨q2, h⟩ := am_bif h
  refine am_Ex.iald (v := ((am_up μ 165 ((s1).toNatClampNeg) s2) 165 ((a3).toNatClampNeg))) rfl rfl q2 rfl ?_
  refine am_Ex.iast (v2 := ((am_up μ 165 ((s1).toNatClampNeg) s2) 165 ((a3).toNatClampNeg))) (i2 := (a3).toNatClampNeg) rfl rfl q2 rfl rfl ?_
  refine am_Ex.seg 7 115 [.ref 108, .int a1, .int a2, .int a3, w4, .int 0] [] (am_up (am_up (am_up μ 165 ((s1).toNatClampNeg) s2) 166 ((a3).toNatClampNeg) ((am_up μ 165 ((s1).toNatClampNeg) s2) 165 ((a3).toNatClampNeg))) 108 80 ((1 : Int32) <<< (a3 &&& 31))) (fun _ => rfl) ?_
  exact e_fM_follows_115 d am_F h
set_option maxRecDepth 20000 in
theorem e_fM_follows_35 (d : Nat) : ∀ {a1 : Int32} {a2 : Int32} {w3 w4 w5 : Value} {μ : am_Mu} {out : am_Mu}, fM_follows_35 a1 a2 μ = some out → am_Ex none (d + 2) 217 35 [.ref 108, .int a1, .int a2, w3, w4, w5] [] am_SH μ (none, am_SH, out) := by
  intro a1 a2 w3 w4 w5 μ out h
  unfold fM_follows_35 at h
  refine am_Ex.seg 3 40 [.ref 108, .int a1, .int a2, w3, w4, w5] [.int a1, .ref 157] μ (fun _ => rfl) ?_
  obtain ⟨q1, h⟩ := am_bif h
  refine am_Ex.iald (v := (μ 157 ((a1).toNatClampNeg))) rfl rfl q1 rfl ?_
  refine am_Ex.seg 7 52 [.ref 108, .int a1, .int a2, .int (μ 157 ((a1).toNatClampNeg)), w4, w5] [.int a1, .ref 158, .int (μ 157 ((a1).toNatClampNeg)), .ref 164] μ (fun _ => rfl) ?_
  refine am_Ex.iald (v := (μ 158 ((a1).toNatClampNeg))) rfl rfl q1 rfl ?_
  obtain ⟨q2, h⟩ := am_bif h
  refine am_Ex.iast (v2 := (μ 158 ((a1).toNatClampNeg))) (i2 := ((μ 157 ((a1).toNatClampNeg))).toNatClampNeg) rfl rfl q2 rfl rfl ?_
  refine am_Ex.seg 8 67 [.ref 108, .int a1, .int a2, .int (μ 157 ((a1).toNatClampNeg)), w4, w5] [.int (μ 157 ((a1).toNatClampNeg)), .ref 153, .int ((8 : Int32) * a2), .ref 156] (am_up μ 164 (((μ 157 ((a1).toNatClampNeg))).toNatClampNeg) (μ 158 ((a1).toNatClampNeg))) (fun _ => rfl) ?_
  refine am_Ex.iald (v := (μ 153 (((μ 157 ((a1).toNatClampNeg))).toNatClampNeg))) rfl rfl q2 ((am_up_k (by decide)).trans rfl) ?_
  refine am_Ex.seg 1 69 [.ref 108, .int a1, .int a2, .int (μ 157 ((a1).toNatClampNeg)), w4, w5] [.int (((8 : Int32) * a2) + (μ 153 (((μ 157 ((a1).toNatClampNeg))).toNatClampNeg))), .ref 156] (am_up μ 164 (((μ 157 ((a1).toNatClampNeg))).toNatClampNeg) (μ 158 ((a1).toNatClampNeg))) (fun _ => rfl) ?_
  obtain ⟨q3, h⟩ := am_bif h
  refine am_Ex.zald (v := (μ 156 (((((8 : Int32) * a2) + (μ 153 (((μ 157 ((a1).toNatClampNeg))).toNatClampNeg)))).toNatClampNeg))) rfl rfl q3 ((am_up_k (by decide)).trans rfl) ?_
  refine am_Ex.seg 5 79 [.ref 108, .int a1, .int a2, .int (μ 157 ((a1).toNatClampNeg)), .int (μ 156 (((((8 : Int32) * a2) + (μ 153 (((μ 157 ((a1).toNatClampNeg))).toNatClampNeg)))).toNatClampNeg)), w5] [.int (μ 156 (((((8 : Int32) * a2) + (μ 153 (((μ 157 ((a1).toNatClampNeg))).toNatClampNeg)))).toNatClampNeg)), .int (μ 157 ((a1).toNatClampNeg)), .ref 165] (am_up μ 164 (((μ 157 ((a1).toNatClampNeg))).toNatClampNeg) (μ 158 ((a1).toNatClampNeg))) (fun _ => rfl) ?_
  rcases am_ite h with ⟨q4, h⟩ | ⟨q4, h⟩
  · refine am_Ex.if_eq_t rfl q4 ?_
    refine am_Ex.seg 1 92 [.ref 108, .int a1, .int a2, .int (μ 157 ((a1).toNatClampNeg)), .int (μ 156 (((((8 : Int32) * a2) + (μ 153 (((μ 157 ((a1).toNatClampNeg))).toNatClampNeg)))).toNatClampNeg)), w5] [.int 0, .int (μ 157 ((a1).toNatClampNeg)), .ref 165] (am_up μ 164 (((μ 157 ((a1).toNatClampNeg))).toNatClampNeg) (μ 158 ((a1).toNatClampNeg))) (fun _ => rfl) ?_
    exact e_fM_follows_92 d h
  · refine am_Ex.if_eq_f rfl q4 ?_
    refine am_Ex.seg 3 87 [.ref 108, .int a1, .int a2, .int (μ 157 ((a1).toNatClampNeg)), .int (μ 156 (((((8 : Int32) * a2) + (μ 153 (((μ 157 ((a1).toNatClampNeg))).toNatClampNeg)))).toNatClampNeg)), w5] [.int a1, .ref 158, .int (μ 157 ((a1).toNatClampNeg)), .ref 165] (am_up μ 164 (((μ 157 ((a1).toNatClampNeg))).toNatClampNeg) (μ 158 ((a1).toNatClampNeg))) (fun _ => rfl) ?_
    refine am_Ex.iald (v := (μ 158 ((a1).toNatClampNeg))) rfl rfl q1 ((am_up_k (by decide)).trans rfl) ?_
    refine am_Ex.goto rfl ?_
    exact e_fM_follows_92 d h
set_option maxRecDepth 20000 in
theorem e_fM_follows_2 (d : Nat) : ∀ n : Nat, ∀ {a1 : Int32} {a2 : Int32} {a3 : Int32} {w4 w5 : Value} {μ : am_Mu} {out : am_Mu}, fM_follows_2 n a1 a2 a3 μ = some out → am_Ex none (d + 2) 217 2 [.ref 108, .int a1, .int a2, .int a3, w4, w5] [] am_SH μ (none, am_SH, out) := by
  intro n
  induction n with
  | zero => intros; contradiction
  | succ n ih =>
    have hk2 : ∀ {a1 : Int32} {a2 : Int32} {a3 : Int32} {w4 w5 : Value} {μ : am_Mu} {out : am_Mu}, (fM_follows_2 n) a1 a2 a3 μ = some out → am_Ex none (d + 2) 217 2 [.ref 108, .int a1, .int a2, .int a3, w4, w5] [] am_SH μ (none, am_SH, out) := ih
    intro a1 a2 a3 w4 w5 μ out h
    unfold fM_follows_2 at h
    refine am_Ex.seg 2 5 [.ref 108, .int a1, .int a2, .int a3, w4, w5] [.int 8, .int a3] μ (fun _ => rfl) ?_
    rcases am_ite h with ⟨q1, h⟩ | ⟨q1, h⟩
    · refine am_Ex.icmp_ge_t rfl q1 ?_
      exact e_fM_follows_35 d h
    · refine am_Ex.icmp_ge_f rfl q1 ?_
      refine am_Ex.seg 4 14 [.ref 108, .int a1, .int a2, .int a3, w4, w5] [.int 0, .int a3, .ref 164] μ (fun _ => rfl) ?_
      obtain ⟨q2, h⟩ := am_bif h
      refine am_Ex.iast (v2 := 0) (i2 := (a3).toNatClampNeg) rfl rfl q2 rfl rfl ?_
      refine am_Ex.seg 4 21 [.ref 108, .int a1, .int a2, .int a3, w4, w5] [.int 0, .int a3, .ref 165] (am_up μ 164 ((a3).toNatClampNeg) 0) (fun _ => rfl) ?_
      refine am_Ex.iast (v2 := 0) (i2 := (a3).toNatClampNeg) rfl rfl q2 rfl rfl ?_
      refine am_Ex.seg 4 28 [.ref 108, .int a1, .int a2, .int a3, w4, w5] [.int 0, .int a3, .ref 166] (am_up (am_up μ 164 ((a3).toNatClampNeg) 0) 165 ((a3).toNatClampNeg) 0) (fun _ => rfl) ?_
      refine am_Ex.iast (v2 := 0) (i2 := (a3).toNatClampNeg) rfl rfl q2 rfl rfl ?_
      refine am_Ex.seg 1 32 [.ref 108, .int a1, .int a2, .int (a3 + 1), w4, w5] [] (am_up (am_up (am_up μ 164 ((a3).toNatClampNeg) 0) 165 ((a3).toNatClampNeg) 0) 166 ((a3).toNatClampNeg) 0) (fun _ => rfl) ?_
      refine am_Ex.goto rfl ?_
      exact hk2 h
set_option maxRecDepth 20000 in
theorem e_fM_follows (d : Nat) : ∀ {a1 : Int32} {a2 : Int32} {μ : am_Mu} {out : am_Mu}, fM_follows a1 a2 μ = some out → am_Ex none (d + 2) 217 0 [.ref 108, .int a1, .int a2, .null, .null, .null] [] am_SH μ (none, am_SH, out) := by
  intro a1 a2 μ out h
  unfold fM_follows at h
  refine am_Ex.seg 2 2 [.ref 108, .int a1, .int a2, .int 0, .null, .null] [] μ (fun _ => rfl) ?_
  exact e_fM_follows_2 d am_F h
def fM_pass (a1 : Int32) (a2 : Int32) (a3 : Int32) (a4 : Int32) (a5 : Int32) (μ : am_Mu) : Option (Int32 × am_Mu) := (if (μ 108 9) = 100 then some (0, μ) else ((fM_isLot a1 μ).bind fun q2 => (if q2.1 = 0 then some (0, q2.2) else ((fM_isKitchen a2 q2.2).bind fun q4 => (if q4.1 = 0 then some (0, q4.2) else ((fM_isKitchen a3 q4.2).bind fun q6 => (if q6.1 = 0 then some (0, q6.2) else (if a2 = a3 then some (0, q6.2) else (if 1 ≤ a4 then ((fM_follows a1 0 q6.2).bind fun q10 => (bif am_inb a2 8 then (if a4 ≤ (q10 164 ((a2).toNatClampNeg)) then (bif am_inb (q10 108 9) 100 then some (1, (am_up (am_up (am_up (am_up (am_up (am_up q10 159 (((q10 108 9)).toNatClampNeg) a1) 160 (((q10 108 9)).toNatClampNeg) a2) 161 (((q10 108 9)).toNatClampNeg) a3) 162 (((q10 108 9)).toNatClampNeg) a4) 163 (((q10 108 9)).toNatClampNeg) (a5 &&& 1)) 108 9 ((q10 108 9) + 1))) else none) else some (0, q10)) else none)) else some (0, q6.2))))))))))
set_option maxRecDepth 20000 in
theorem e_fM_pass (d : Nat) : ∀ {a1 : Int32} {a2 : Int32} {a3 : Int32} {a4 : Int32} {a5 : Int32} {μ : am_Mu} {out : Int32 × am_Mu}, fM_pass a1 a2 a3 a4 a5 μ = some out → am_Ex none (d + 3) 219 0 [.ref 108, .int a1, .int a2, .int a3, .int a4, .int a5] [] am_SH μ (some (.int out.1), am_SH, out.2) := by
  intro a1 a2 a3 a4 a5 μ out h
  unfold fM_pass at h
  refine am_Ex.seg 3 6 [.ref 108, .int a1, .int a2, .int a3, .int a4, .int a5] [.int 100, .int (μ 108 9)] μ (fun _ => rfl) ?_
  rcases am_ite h with ⟨q1, h⟩ | ⟨q1, h⟩
  · refine am_Ex.icmp_eq_t rfl q1 ?_
    refine am_Ex.seg 1 45 [.ref 108, .int a1, .int a2, .int a3, .int a4, .int a5] [.int 0] μ (fun _ => rfl) ?_
    cases h
    exact am_Ex.zret rfl rfl (by decide)
  · refine am_Ex.icmp_eq_f rfl q1 ?_
    refine am_Ex.seg 2 11 [.ref 108, .int a1, .int a2, .int a3, .int a4, .int a5] [.int a1, .ref 108] μ (fun _ => rfl) ?_
    obtain ⟨q2, h_q2, h⟩ := am_bind h
    refine am_Ex.ivk (na := 2) (b := 108) (As' := [.int a1]) rfl rfl rfl rfl rfl rfl rfl rfl rfl (e_fM_isLot (d + 1) h_q2) ?_
    refine am_Ex.same 14 [.ref 108, .int a1, .int a2, .int a3, .int a4, .int a5] [.int q2.1] q2.2 rfl ?_
    rcases am_ite h with ⟨q3, h⟩ | ⟨q3, h⟩
    · refine am_Ex.if_eq_t rfl q3 ?_
      refine am_Ex.seg 1 45 [.ref 108, .int a1, .int a2, .int a3, .int a4, .int a5] [.int 0] q2.2 (fun _ => rfl) ?_
      cases h
      exact am_Ex.zret rfl rfl (by decide)
    · refine am_Ex.if_eq_f rfl q3 ?_
      refine am_Ex.seg 2 19 [.ref 108, .int a1, .int a2, .int a3, .int a4, .int a5] [.int a2, .ref 108] q2.2 (fun _ => rfl) ?_
      obtain ⟨q4, h_q4, h⟩ := am_bind h
      refine am_Ex.ivk (na := 2) (b := 108) (As' := [.int a2]) rfl rfl rfl rfl rfl rfl rfl rfl rfl (e_fM_isKitchen (d + 1) h_q4) ?_
      refine am_Ex.same 22 [.ref 108, .int a1, .int a2, .int a3, .int a4, .int a5] [.int q4.1] q4.2 rfl ?_
      rcases am_ite h with ⟨q5, h⟩ | ⟨q5, h⟩
      · refine am_Ex.if_eq_t rfl q5 ?_
        refine am_Ex.seg 1 45 [.ref 108, .int a1, .int a2, .int a3, .int a4, .int a5] [.int 0] q4.2 (fun _ => rfl) ?_
        cases h
        exact am_Ex.zret rfl rfl (by decide)
      · refine am_Ex.if_eq_f rfl q5 ?_
        refine am_Ex.seg 2 27 [.ref 108, .int a1, .int a2, .int a3, .int a4, .int a5] [.int a3, .ref 108] q4.2 (fun _ => rfl) ?_
        obtain ⟨q6, h_q6, h⟩ := am_bind h
        refine am_Ex.ivk (na := 2) (b := 108) (As' := [.int a3]) rfl rfl rfl rfl rfl rfl rfl rfl rfl (e_fM_isKitchen (d + 1) h_q6) ?_
        refine am_Ex.same 30 [.ref 108, .int a1, .int a2, .int a3, .int a4, .int a5] [.int q6.1] q6.2 rfl ?_
        rcases am_ite h with ⟨q7, h⟩ | ⟨q7, h⟩
        · refine am_Ex.if_eq_t rfl q7 ?_
          refine am_Ex.seg 1 45 [.ref 108, .int a1, .int a2, .int a3, .int a4, .int a5] [.int 0] q6.2 (fun _ => rfl) ?_
          cases h
          exact am_Ex.zret rfl rfl (by decide)
        · refine am_Ex.if_eq_f rfl q7 ?_
          refine am_Ex.seg 2 35 [.ref 108, .int a1, .int a2, .int a3, .int a4, .int a5] [.int a3, .int a2] q6.2 (fun _ => rfl) ?_
          rcases am_ite h with ⟨q8, h⟩ | ⟨q8, h⟩
          · refine am_Ex.icmp_eq_t rfl q8 ?_
            refine am_Ex.seg 1 45 [.ref 108, .int a1, .int a2, .int a3, .int a4, .int a5] [.int 0] q6.2 (fun _ => rfl) ?_
            cases h
            exact am_Ex.zret rfl rfl (by decide)
          · refine am_Ex.icmp_eq_f rfl q8 ?_
            refine am_Ex.seg 2 41 [.ref 108, .int a1, .int a2, .int a3, .int a4, .int a5] [.int 1, .int a4] q6.2 (fun _ => rfl) ?_
            rcases am_ite h with ⟨q9, h⟩ | ⟨q9, h⟩
            · refine am_Ex.icmp_ge_t rfl q9 ?_
              refine am_Ex.seg 3 49 [.ref 108, .int a1, .int a2, .int a3, .int a4, .int a5] [.int 0, .int a1, .ref 108] q6.2 (fun _ => rfl) ?_
              obtain ⟨q10, h_q10, h⟩ := am_bind h
              refine am_Ex.ivk (na := 3) (b := 108) (As' := [.int a1, .int 0]) rfl rfl rfl rfl rfl rfl rfl rfl rfl (e_fM_follows (d + 0) h_q10) ?_
              refine am_Ex.same 52 [.ref 108, .int a1, .int a2, .int a3, .int a4, .int a5] [] q10 rfl ?_
              refine am_Ex.seg 3 57 [.ref 108, .int a1, .int a2, .int a3, .int a4, .int a5] [.int a2, .ref 164] q10 (fun _ => rfl) ?_
              obtain ⟨q11, h⟩ := am_bif h
              refine am_Ex.iald (v := (q10 164 ((a2).toNatClampNeg))) rfl rfl q11 rfl ?_
              refine am_Ex.seg 1 60 [.ref 108, .int a1, .int a2, .int a3, .int a4, .int a5] [.int a4, .int (q10 164 ((a2).toNatClampNeg))] q10 (fun _ => rfl) ?_
              rcases am_ite h with ⟨q12, h⟩ | ⟨q12, h⟩
              · refine am_Ex.icmp_ge_t rfl q12 ?_
                refine am_Ex.seg 5 74 [.ref 108, .int a1, .int a2, .int a3, .int a4, .int a5] [.int a1, .int (q10 108 9), .ref 159] q10 (fun _ => rfl) ?_
                obtain ⟨q13, h⟩ := am_bif h
                refine am_Ex.iast (v2 := a1) (i2 := ((q10 108 9)).toNatClampNeg) rfl rfl q13 rfl rfl ?_
                refine am_Ex.seg 5 84 [.ref 108, .int a1, .int a2, .int a3, .int a4, .int a5] [.int a2, .int (q10 108 9), .ref 160] (am_up q10 159 (((q10 108 9)).toNatClampNeg) a1) (fun _ => rfl) ?_
                refine am_Ex.iast (v2 := a2) (i2 := ((q10 108 9)).toNatClampNeg) rfl rfl q13 rfl rfl ?_
                refine am_Ex.seg 5 94 [.ref 108, .int a1, .int a2, .int a3, .int a4, .int a5] [.int a3, .int (q10 108 9), .ref 161] (am_up (am_up q10 159 (((q10 108 9)).toNatClampNeg) a1) 160 (((q10 108 9)).toNatClampNeg) a2) (fun _ => rfl) ?_
                refine am_Ex.iast (v2 := a3) (i2 := ((q10 108 9)).toNatClampNeg) rfl rfl q13 rfl rfl ?_
                refine am_Ex.seg 5 105 [.ref 108, .int a1, .int a2, .int a3, .int a4, .int a5] [.int a4, .int (q10 108 9), .ref 162] (am_up (am_up (am_up q10 159 (((q10 108 9)).toNatClampNeg) a1) 160 (((q10 108 9)).toNatClampNeg) a2) 161 (((q10 108 9)).toNatClampNeg) a3) (fun _ => rfl) ?_
                refine am_Ex.iast (v2 := a4) (i2 := ((q10 108 9)).toNatClampNeg) rfl rfl q13 rfl rfl ?_
                refine am_Ex.seg 5 116 [.ref 108, .int a1, .int a2, .int a3, .int a4, .int a5] [.int a5, .int (q10 108 9), .ref 163] (am_up (am_up (am_up (am_up q10 159 (((q10 108 9)).toNatClampNeg) a1) 160 (((q10 108 9)).toNatClampNeg) a2) 161 (((q10 108 9)).toNatClampNeg) a3) 162 (((q10 108 9)).toNatClampNeg) a4) (fun _ => rfl) ?_
                refine am_Ex.zast (v2 := (a5 &&& 1)) (i2 := ((q10 108 9)).toNatClampNeg) rfl rfl q13 rfl rfl ?_
                refine am_Ex.seg 7 128 [.ref 108, .int a1, .int a2, .int a3, .int a4, .int a5] [.int 1] (am_up (am_up (am_up (am_up (am_up (am_up q10 159 (((q10 108 9)).toNatClampNeg) a1) 160 (((q10 108 9)).toNatClampNeg) a2) 161 (((q10 108 9)).toNatClampNeg) a3) 162 (((q10 108 9)).toNatClampNeg) a4) 163 (((q10 108 9)).toNatClampNeg) (a5 &&& 1)) 108 9 ((q10 108 9) + 1)) (fun _ => rfl) ?_
                cases h
                exact am_Ex.zret rfl rfl (by decide)
              · refine am_Ex.icmp_ge_f rfl q12 ?_
                refine am_Ex.seg 1 64 [.ref 108, .int a1, .int a2, .int a3, .int a4, .int a5] [.int 0] q10 (fun _ => rfl) ?_
                cases h
                exact am_Ex.zret rfl rfl (by decide)
            · refine am_Ex.icmp_ge_f rfl q9 ?_
              refine am_Ex.seg 1 45 [.ref 108, .int a1, .int a2, .int a3, .int a4, .int a5] [.int 0] q6.2 (fun _ => rfl) ?_
              cases h
              exact am_Ex.zret rfl rfl (by decide)
def fM_units (a1 : Int32) (a2 : Int32) (μ : am_Mu) : Option (Int32 × am_Mu) := ((fM_isLot a1 μ).bind fun q1 => (if q1.1 = 0 then some ((-1), q1.2) else ((fM_isKitchen a2 q1.2).bind fun q3 => (if ¬ q3.1 = 0 then ((fM_follows a1 0 q3.2).bind fun q5 => (bif am_inb a2 8 then some ((q5 164 ((a2).toNatClampNeg)), q5) else none)) else some ((-1), q3.2)))))
set_option maxRecDepth 20000 in
theorem e_fM_units (d : Nat) : ∀ {a1 : Int32} {a2 : Int32} {μ : am_Mu} {out : Int32 × am_Mu}, fM_units a1 a2 μ = some out → am_Ex none (d + 3) 220 0 [.ref 108, .int a1, .int a2] [] am_SH μ (some (.int out.1), am_SH, out.2) := by
  intro a1 a2 μ out h
  unfold fM_units at h
  refine am_Ex.seg 2 2 [.ref 108, .int a1, .int a2] [.int a1, .ref 108] μ (fun _ => rfl) ?_
  obtain ⟨q1, h_q1, h⟩ := am_bind h
  refine am_Ex.ivk (na := 2) (b := 108) (As' := [.int a1]) rfl rfl rfl rfl rfl rfl rfl rfl rfl (e_fM_isLot (d + 1) h_q1) ?_
  refine am_Ex.same 5 [.ref 108, .int a1, .int a2] [.int q1.1] q1.2 rfl ?_
  rcases am_ite h with ⟨q2, h⟩ | ⟨q2, h⟩
  · refine am_Ex.if_eq_t rfl q2 ?_
    refine am_Ex.seg 1 17 [.ref 108, .int a1, .int a2] [.int (-1)] q1.2 (fun _ => rfl) ?_
    cases h
    exact am_Ex.iret rfl rfl
  · refine am_Ex.if_eq_f rfl q2 ?_
    refine am_Ex.seg 2 10 [.ref 108, .int a1, .int a2] [.int a2, .ref 108] q1.2 (fun _ => rfl) ?_
    obtain ⟨q3, h_q3, h⟩ := am_bind h
    refine am_Ex.ivk (na := 2) (b := 108) (As' := [.int a2]) rfl rfl rfl rfl rfl rfl rfl rfl rfl (e_fM_isKitchen (d + 1) h_q3) ?_
    refine am_Ex.same 13 [.ref 108, .int a1, .int a2] [.int q3.1] q3.2 rfl ?_
    rcases am_ite h with ⟨q4, h⟩ | ⟨q4, h⟩
    · refine am_Ex.if_ne_t rfl q4 ?_
      refine am_Ex.seg 3 21 [.ref 108, .int a1, .int a2] [.int 0, .int a1, .ref 108] q3.2 (fun _ => rfl) ?_
      obtain ⟨q5, h_q5, h⟩ := am_bind h
      refine am_Ex.ivk (na := 3) (b := 108) (As' := [.int a1, .int 0]) rfl rfl rfl rfl rfl rfl rfl rfl rfl (e_fM_follows (d + 0) h_q5) ?_
      refine am_Ex.same 24 [.ref 108, .int a1, .int a2] [] q5 rfl ?_
      refine am_Ex.seg 3 29 [.ref 108, .int a1, .int a2] [.int a2, .ref 164] q5 (fun _ => rfl) ?_
      obtain ⟨q6, h⟩ := am_bif h
      refine am_Ex.iald (v := (q5 164 ((a2).toNatClampNeg))) rfl rfl q6 rfl ?_
      cases h
      exact am_Ex.iret rfl rfl
    · refine am_Ex.if_ne_f rfl (Decidable.not_not.mp q4) ?_
      refine am_Ex.seg 1 17 [.ref 108, .int a1, .int a2] [.int (-1)] q3.2 (fun _ => rfl) ?_
      cases h
      exact am_Ex.iret rfl rfl
def fM_good (a1 : Int32) (a2 : Int32) (a3 : Int32) (a4 : Int32) (μ : am_Mu) : Option (Int32 × am_Mu) := ((fM_isSchool a1 μ).bind fun q1 => (if q1.1 = 0 then some ((-1), q1.2) else ((fM_isLot a2 q1.2).bind fun q3 => (if q3.1 = 0 then some ((-1), q3.2) else ((fM_isKitchen a3 q3.2).bind fun q5 => (if q5.1 = 0 then some ((-1), q5.2) else ((fM_lies a4 0 1 q5.2).bind fun q7 => (if ¬ q7.1 = 0 then ((fM_follows a2 a1 q7.2).bind fun q9 => (if ¬ a4 = 0 then (bif am_inb a3 8 then some ((q9 166 ((a3).toNatClampNeg)), q9) else none) else (bif am_inb a3 8 then some ((q9 165 ((a3).toNatClampNeg)), q9) else none))) else some ((-1), q7.2)))))))))
set_option maxRecDepth 20000 in
theorem e_fM_good (d : Nat) : ∀ {a1 : Int32} {a2 : Int32} {a3 : Int32} {a4 : Int32} {μ : am_Mu} {out : Int32 × am_Mu}, fM_good a1 a2 a3 a4 μ = some out → am_Ex none (d + 3) 221 0 [.ref 108, .int a1, .int a2, .int a3, .int a4] [] am_SH μ (some (.int out.1), am_SH, out.2) := by
  intro a1 a2 a3 a4 μ out h
  unfold fM_good at h
  refine am_Ex.seg 1 1 [.ref 108, .int a1, .int a2, .int a3, .int a4] [.int a1] μ (fun _ => rfl) ?_
  obtain ⟨q1, h_q1, h⟩ := am_bind h
  refine am_Ex.isk (na := 1) rfl (As := [.int a1]) rfl rfl rfl rfl rfl rfl (e_fM_isSchool (d + 2) h_q1) ?_
  refine am_Ex.same 4 [.ref 108, .int a1, .int a2, .int a3, .int a4] [.int q1.1] q1.2 rfl ?_
  rcases am_ite h with ⟨q2, h⟩ | ⟨q2, h⟩
  · refine am_Ex.if_eq_t rfl q2 ?_
    refine am_Ex.seg 1 34 [.ref 108, .int a1, .int a2, .int a3, .int a4] [.int (-1)] q1.2 (fun _ => rfl) ?_
    cases h
    exact am_Ex.iret rfl rfl
  · refine am_Ex.if_eq_f rfl q2 ?_
    refine am_Ex.seg 2 9 [.ref 108, .int a1, .int a2, .int a3, .int a4] [.int a2, .ref 108] q1.2 (fun _ => rfl) ?_
    obtain ⟨q3, h_q3, h⟩ := am_bind h
    refine am_Ex.ivk (na := 2) (b := 108) (As' := [.int a2]) rfl rfl rfl rfl rfl rfl rfl rfl rfl (e_fM_isLot (d + 1) h_q3) ?_
    refine am_Ex.same 12 [.ref 108, .int a1, .int a2, .int a3, .int a4] [.int q3.1] q3.2 rfl ?_
    rcases am_ite h with ⟨q4, h⟩ | ⟨q4, h⟩
    · refine am_Ex.if_eq_t rfl q4 ?_
      refine am_Ex.seg 1 34 [.ref 108, .int a1, .int a2, .int a3, .int a4] [.int (-1)] q3.2 (fun _ => rfl) ?_
      cases h
      exact am_Ex.iret rfl rfl
    · refine am_Ex.if_eq_f rfl q4 ?_
      refine am_Ex.seg 2 17 [.ref 108, .int a1, .int a2, .int a3, .int a4] [.int a3, .ref 108] q3.2 (fun _ => rfl) ?_
      obtain ⟨q5, h_q5, h⟩ := am_bind h
      refine am_Ex.ivk (na := 2) (b := 108) (As' := [.int a3]) rfl rfl rfl rfl rfl rfl rfl rfl rfl (e_fM_isKitchen (d + 1) h_q5) ?_
      refine am_Ex.same 20 [.ref 108, .int a1, .int a2, .int a3, .int a4] [.int q5.1] q5.2 rfl ?_
      rcases am_ite h with ⟨q6, h⟩ | ⟨q6, h⟩
      · refine am_Ex.if_eq_t rfl q6 ?_
        refine am_Ex.seg 1 34 [.ref 108, .int a1, .int a2, .int a3, .int a4] [.int (-1)] q5.2 (fun _ => rfl) ?_
        cases h
        exact am_Ex.iret rfl rfl
      · refine am_Ex.if_eq_f rfl q6 ?_
        refine am_Ex.seg 3 27 [.ref 108, .int a1, .int a2, .int a3, .int a4] [.int 1, .int 0, .int a4] q5.2 (fun _ => rfl) ?_
        obtain ⟨q7, h_q7, h⟩ := am_bind h
        refine am_Ex.isk (na := 3) rfl (As := [.int a4, .int 0, .int 1]) rfl rfl rfl rfl rfl rfl (e_fM_lies (d + 2) h_q7) ?_
        refine am_Ex.same 30 [.ref 108, .int a1, .int a2, .int a3, .int a4] [.int q7.1] q7.2 rfl ?_
        rcases am_ite h with ⟨q8, h⟩ | ⟨q8, h⟩
        · refine am_Ex.if_ne_t rfl q8 ?_
          refine am_Ex.seg 3 38 [.ref 108, .int a1, .int a2, .int a3, .int a4] [.int a1, .int a2, .ref 108] q7.2 (fun _ => rfl) ?_
          obtain ⟨q9, h_q9, h⟩ := am_bind h
          refine am_Ex.ivk (na := 3) (b := 108) (As' := [.int a2, .int a1]) rfl rfl rfl rfl rfl rfl rfl rfl rfl (e_fM_follows (d + 0) h_q9) ?_
          refine am_Ex.same 41 [.ref 108, .int a1, .int a2, .int a3, .int a4] [] q9 rfl ?_
          refine am_Ex.seg 1 43 [.ref 108, .int a1, .int a2, .int a3, .int a4] [.int a4] q9 (fun _ => rfl) ?_
          rcases am_ite h with ⟨q10, h⟩ | ⟨q10, h⟩
          · refine am_Ex.if_ne_t rfl q10 ?_
            refine am_Ex.seg 3 60 [.ref 108, .int a1, .int a2, .int a3, .int a4] [.int a3, .ref 166] q9 (fun _ => rfl) ?_
            obtain ⟨q11, h⟩ := am_bif h
            refine am_Ex.iald (v := (q9 166 ((a3).toNatClampNeg))) rfl rfl q11 rfl ?_
            cases h
            exact am_Ex.iret rfl rfl
          · refine am_Ex.if_ne_f rfl (Decidable.not_not.mp q10) ?_
            refine am_Ex.seg 3 51 [.ref 108, .int a1, .int a2, .int a3, .int a4] [.int a3, .ref 165] q9 (fun _ => rfl) ?_
            obtain ⟨q12, h⟩ := am_bif h
            refine am_Ex.iald (v := (q9 165 ((a3).toNatClampNeg))) rfl rfl q12 rfl ?_
            refine am_Ex.goto rfl ?_
            cases h
            exact am_Ex.iret rfl rfl
        · refine am_Ex.if_ne_f rfl (Decidable.not_not.mp q8) ?_
          refine am_Ex.seg 1 34 [.ref 108, .int a1, .int a2, .int a3, .int a4] [.int (-1)] q7.2 (fun _ => rfl) ?_
          cases h
          exact am_Ex.iret rfl rfl
def fM_recall (a1 : Int32) (μ : am_Mu) : Option (Int32 × am_Mu) := ((fM_isLot a1 μ).bind fun q1 => (if ¬ q1.1 = 0 then ((fM_follows a1 0 q1.2).bind fun q3 => some ((q3 108 80), q3)) else some ((-1), q1.2)))
set_option maxRecDepth 20000 in
theorem e_fM_recall (d : Nat) : ∀ {a1 : Int32} {μ : am_Mu} {out : Int32 × am_Mu}, fM_recall a1 μ = some out → am_Ex none (d + 3) 222 0 [.ref 108, .int a1] [] am_SH μ (some (.int out.1), am_SH, out.2) := by
  intro a1 μ out h
  unfold fM_recall at h
  refine am_Ex.seg 2 2 [.ref 108, .int a1] [.int a1, .ref 108] μ (fun _ => rfl) ?_
  obtain ⟨q1, h_q1, h⟩ := am_bind h
  refine am_Ex.ivk (na := 2) (b := 108) (As' := [.int a1]) rfl rfl rfl rfl rfl rfl rfl rfl rfl (e_fM_isLot (d + 1) h_q1) ?_
  refine am_Ex.same 5 [.ref 108, .int a1] [.int q1.1] q1.2 rfl ?_
  rcases am_ite h with ⟨q2, h⟩ | ⟨q2, h⟩
  · refine am_Ex.if_ne_t rfl q2 ?_
    refine am_Ex.seg 3 13 [.ref 108, .int a1] [.int 0, .int a1, .ref 108] q1.2 (fun _ => rfl) ?_
    obtain ⟨q3, h_q3, h⟩ := am_bind h
    refine am_Ex.ivk (na := 3) (b := 108) (As' := [.int a1, .int 0]) rfl rfl rfl rfl rfl rfl rfl rfl rfl (e_fM_follows (d + 0) h_q3) ?_
    refine am_Ex.same 16 [.ref 108, .int a1] [] q3 rfl ?_
    refine am_Ex.seg 2 20 [.ref 108, .int a1] [.int (q3 108 80)] q3 (fun _ => rfl) ?_
    cases h
    exact am_Ex.iret rfl rfl
  · refine am_Ex.if_ne_f rfl (Decidable.not_not.mp q2) ?_
    refine am_Ex.seg 1 9 [.ref 108, .int a1] [.int (-1)] q1.2 (fun _ => rfl) ?_
    cases h
    exact am_Ex.iret rfl rfl
def fM_visitor (a1 : Int32) (a2 : Int32) (μ : am_Mu) : Option (Int32 × am_Mu) := (if (μ 108 10) = 6 then some ((-1), μ) else ((fM_isSchool a1 μ).bind fun q2 => (if q2.1 = 0 then some ((-1), q2.2) else ((fM_lies a2 1 9 q2.2).bind fun q4 => (if ¬ q4.1 = 0 then (bif am_inb (q4.2 108 10) 6 then some ((((q4.2 108 10) + 1) - 1), (am_up (am_up (am_up q4.2 167 (((q4.2 108 10)).toNatClampNeg) a1) 168 (((q4.2 108 10)).toNatClampNeg) a2) 108 10 ((q4.2 108 10) + 1))) else none) else some ((-1), q4.2))))))
set_option maxRecDepth 20000 in
theorem e_fM_visitor (d : Nat) : ∀ {a1 : Int32} {a2 : Int32} {μ : am_Mu} {out : Int32 × am_Mu}, fM_visitor a1 a2 μ = some out → am_Ex none (d + 1) 223 0 [.ref 108, .int a1, .int a2] [] am_SH μ (some (.int out.1), am_SH, out.2) := by
  intro a1 a2 μ out h
  unfold fM_visitor at h
  refine am_Ex.seg 3 6 [.ref 108, .int a1, .int a2] [.int 6, .int (μ 108 10)] μ (fun _ => rfl) ?_
  rcases am_ite h with ⟨q1, h⟩ | ⟨q1, h⟩
  · refine am_Ex.icmp_eq_t rfl q1 ?_
    refine am_Ex.seg 1 27 [.ref 108, .int a1, .int a2] [.int (-1)] μ (fun _ => rfl) ?_
    cases h
    exact am_Ex.iret rfl rfl
  · refine am_Ex.icmp_eq_f rfl q1 ?_
    refine am_Ex.seg 1 10 [.ref 108, .int a1, .int a2] [.int a1] μ (fun _ => rfl) ?_
    obtain ⟨q2, h_q2, h⟩ := am_bind h
    refine am_Ex.isk (na := 1) rfl (As := [.int a1]) rfl rfl rfl rfl rfl rfl (e_fM_isSchool (d + 0) h_q2) ?_
    refine am_Ex.same 13 [.ref 108, .int a1, .int a2] [.int q2.1] q2.2 rfl ?_
    rcases am_ite h with ⟨q3, h⟩ | ⟨q3, h⟩
    · refine am_Ex.if_eq_t rfl q3 ?_
      refine am_Ex.seg 1 27 [.ref 108, .int a1, .int a2] [.int (-1)] q2.2 (fun _ => rfl) ?_
      cases h
      exact am_Ex.iret rfl rfl
    · refine am_Ex.if_eq_f rfl q3 ?_
      refine am_Ex.seg 3 20 [.ref 108, .int a1, .int a2] [.int 9, .int 1, .int a2] q2.2 (fun _ => rfl) ?_
      obtain ⟨q4, h_q4, h⟩ := am_bind h
      refine am_Ex.isk (na := 3) rfl (As := [.int a2, .int 1, .int 9]) rfl rfl rfl rfl rfl rfl (e_fM_lies (d + 0) h_q4) ?_
      refine am_Ex.same 23 [.ref 108, .int a1, .int a2] [.int q4.1] q4.2 rfl ?_
      rcases am_ite h with ⟨q5, h⟩ | ⟨q5, h⟩
      · refine am_Ex.if_ne_t rfl q5 ?_
        refine am_Ex.seg 5 37 [.ref 108, .int a1, .int a2] [.int a1, .int (q4.2 108 10), .ref 167] q4.2 (fun _ => rfl) ?_
        obtain ⟨q6, h⟩ := am_bif h
        refine am_Ex.iast (v2 := a1) (i2 := ((q4.2 108 10)).toNatClampNeg) rfl rfl q6 rfl rfl ?_
        refine am_Ex.seg 5 47 [.ref 108, .int a1, .int a2] [.int a2, .int (q4.2 108 10), .ref 168] (am_up q4.2 167 (((q4.2 108 10)).toNatClampNeg) a1) (fun _ => rfl) ?_
        refine am_Ex.iast (v2 := a2) (i2 := ((q4.2 108 10)).toNatClampNeg) rfl rfl q6 rfl rfl ?_
        refine am_Ex.seg 10 64 [.ref 108, .int a1, .int a2] [.int (((q4.2 108 10) + 1) - 1)] (am_up (am_up (am_up q4.2 167 (((q4.2 108 10)).toNatClampNeg) a1) 168 (((q4.2 108 10)).toNatClampNeg) a2) 108 10 ((q4.2 108 10) + 1)) (fun _ => rfl) ?_
        cases h
        exact am_Ex.iret rfl rfl
      · refine am_Ex.if_ne_f rfl (Decidable.not_not.mp q5) ?_
        refine am_Ex.seg 1 27 [.ref 108, .int a1, .int a2] [.int (-1)] q4.2 (fun _ => rfl) ?_
        cases h
        exact am_Ex.iret rfl rfl
