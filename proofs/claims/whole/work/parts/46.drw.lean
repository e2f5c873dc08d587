/-! E: row, draw -/
theorem L_ofNat {n : Nat} (h : n < 2 ^ 63) : (Int64.ofNat n).toInt = n := Int64.toInt_ofNat_of_lt h
theorem seed_l {n : Nat} (h : n < 2 ^ 31) : (nI n).toInt64 = Int64.ofNat n := by
  rw [← Int64.toInt_inj, Int32.toInt_toInt64, nI_toInt h, L_ofNat (by omega)]
theorem L_div {a b : Nat} (ha : a < 2 ^ 63) (hb : b < 2 ^ 63) : Int64.ofNat a / Int64.ofNat b = Int64.ofNat (a / b) := by
  have hab : a / b ≤ a := Nat.div_le_self a b
  rw [← Int64.toInt_inj, Int64.toInt_div, L_ofNat ha, L_ofNat hb, L_ofNat (show a / b < 2 ^ 63 by omega), Int.tdiv_eq_ediv_of_nonneg (by omega)]
  have e : ((a : Int) / (b : Int)) = ((a / b : Nat) : Int) := by simp
  rw [e]
  generalize a / b = q at hab ⊢
  refine Int.bmod_eq_of_le ?_ ?_ <;> omega
def sdN (n : Nat) : Nat := (n * 1103515245 + 12345) % 2147483648
def sdX (s : Int32) : Int32 := ((s.toInt64 * 1103515245 + 12345) - ((s.toInt64 * 1103515245 + 12345) / 2147483648) * 2147483648).toInt32
theorem L_sub {a b : Nat} (h : b ≤ a) : Int64.ofNat a - Int64.ofNat b = Int64.ofNat (a - b) := by
  have : Int64.ofNat a = Int64.ofNat (a - b) + Int64.ofNat b := by rw [← Int64.ofNat_add, Nat.sub_add_cancel h]
  rw [this]
  grind
theorem sd_eq {n : Nat} (h : n < 2 ^ 31) : sdX (nI n) = nI (sdN n) := by
  unfold sdX
  rw [seed_l h]
  have e1 : Int64.ofNat n * 1103515245 + 12345 = Int64.ofNat (n * 1103515245 + 12345) := by
    rw [Int64.ofNat_add, Int64.ofNat_mul]
    rfl
  have hb : n * 1103515245 + 12345 < 2 ^ 63 := by omega
  rw [e1]
  show ((Int64.ofNat (n * 1103515245 + 12345)) - Int64.ofNat (n * 1103515245 + 12345) / Int64.ofNat 2147483648 * Int64.ofNat 2147483648).toInt32 = _
  rw [L_div hb (by omega), ← Int64.ofNat_mul, L_sub (Nat.div_mul_le_self _ _)]
  have e2 : n * 1103515245 + 12345 - (n * 1103515245 + 12345) / 2147483648 * 2147483648 = sdN n := by
    unfold sdN
    omega
  rw [e2]
  have h3 : sdN n < 2 ^ 31 := by unfold sdN; omega
  rw [← Int32.toInt_inj, Int64.toInt_toInt32, L_ofNat (by omega), nI_toInt h3]
  refine Int.bmod_eq_of_le ?_ ?_ <;> omega
theorem sdN_lt (n : Nat) : sdN n < 2 ^ 31 := by unfold sdN; omega
theorem chV_mem {μ : am_Mu} {k : Nat} {x : Int32} : ∀ n, x ∈ chV μ k n → ∃ v, v < n ∧ x = nI (10 * k + v) ∧ chC μ k v := by
  intro n
  induction n with
  | zero => intro h; exact absurd h (by unfold chV; simp)
  | succ n ih =>
    intro h
    unfold chV at h
    split at h
    · rename_i hc
      rcases List.mem_append.mp h with h | h
      · obtain ⟨v, h1, h2⟩ := ih h
        exact ⟨v, by omega, h2⟩
      · exact ⟨n, by omega, List.mem_singleton.mp h, hc⟩
    · obtain ⟨v, h1, h2⟩ := ih h
      exact ⟨v, by omega, h2⟩
theorem chK_mem {μ : am_Mu} {D ov : Int32} {nV : Nat} {x : Int32} : ∀ n, x ∈ chK μ D ov nV n → ∃ k, k < n ∧ chO μ D ov k ∧ ∃ v, v < nV ∧ x = nI (10 * k + v) ∧ chC μ k v := by
  intro n
  induction n with
  | zero => intro h; exact absurd h (by unfold chK; simp)
  | succ n ih =>
    intro h
    unfold chK at h
    split at h
    · rename_i hc
      rcases List.mem_append.mp h with h | h
      · obtain ⟨v, h1, h2⟩ := ih h
        exact ⟨v, by omega, h2⟩
      · exact ⟨n, by omega, hc, chV_mem _ h⟩
    · obtain ⟨v, h1, h2⟩ := ih h
      exact ⟨v, by omega, h2⟩
theorem chR_mem {μ : am_Mu} {D : Int32} {nV nK : Nat} {x : Int32} (h : x ∈ chR μ D nV nK) : ∃ k, k < nK ∧ ¬ (¬ μ 105 k = -1 ∧ μ 106 k = D) ∧ ∃ v, v < nV ∧ x = nI (10 * k + v) := by
  unfold chR at h
  split at h
  · obtain ⟨k, h1, h2, v, h3, h4, -⟩ := chK_mem _ h
    exact ⟨k, h1, h2.1, v, h3, h4⟩
  · obtain ⟨k, h1, h2, v, h3, h4, -⟩ := chK_mem _ h
    exact ⟨k, h1, h2.1, v, h3, h4⟩
theorem chR_len {μ : am_Mu} {D : Int32} {nV nK : Nat} (hV : nV ≤ 6) (hK : nK ≤ 8) : (chR μ D nV nK).length ≤ 48 := by
  have h1 := chK_len μ D 1 hV nK
  have h2 := chK_len μ D 0 hV nK
  unfold chR
  split <;> omega
theorem mv_of {ν μ : am_Mu} (h : FrR 107 ν μ) : MV ν μ := by
  refine ⟨⟨?_, ?_, ?_, ?_, ?_, ?_⟩, h 152 (by decide), h 167 (by decide), h 169 (by decide), h 170 (by decide), h 171 (by decide)⟩ <;> rw [h 108 (by decide)]
theorem op_row (μ : am_Mu) : Op fB_row fM_row (fun μ => G0 μ ∧ G5 μ ∧ G7 μ ∧ G8 μ) G8 μ := by
  rintro ⟨⟨-, -, t3⟩, g5, g7, g8⟩
  obtain ⟨u1, u2, -⟩ := id g5
  obtain ⟨v1, v2, -⟩ := id g7
  have hK8 : (μ 76 8).toNatClampNeg ≤ 8 := nt_le (b := 8) u1 u2
  have hV6 : (μ 97 4).toNatClampNeg ≤ 6 := nt_le (b := 6) v1 v2
  obtain ⟨X, x1, x2, x3⟩ := x_row (μ := μ) (nI_nt v1).symm hV6 (nI_nt u1).symm hK8 (D := μ 0 11 / 1440)
  obtain ⟨M, m1, m2, m3, m4⟩ := m_rows (β := X) g5 g7 g8 (mv_of x2) (D := μ 0 11 / 1440) (by rw [t3]) (nI_nt v1).symm hV6 (nI_nt u1).symm hK8
  have e1 : fB_row μ = some (nI (chR μ (μ 0 11 / 1440) (μ 97 4).toNatClampNeg (μ 76 8).toNatClampNeg).length, X) := by
    unfold fB_row fB_today
    rw [Option.bind_some]
    dsimp only
    rw [x1, Option.bind_some]
  have e2 : fM_row X = some (nI (chR μ (μ 0 11 / 1440) (μ 97 4).toNatClampNeg (μ 76 8).toNatClampNeg).length, M) := by
    unfold fM_row
    rw [m1, Option.bind_some, m4]
  exact ⟨_, X, M, e1, e2, G8.fr2 (w_fB_row e1) (w_fM_row e2) rfl rfl g8⟩
