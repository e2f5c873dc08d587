/-! E: the functions alone. A library. -/
def b2i (p : Prop) [Decidable p] : Int32 := if p then 1 else 0
theorem b2i_z {p : Prop} [Decidable p] : b2i p = 0 ↔ ¬ p := by unfold b2i; split <;> simp_all
theorem b2i_o {p : Prop} [Decidable p] : b2i p = 1 ↔ p := by unfold b2i; split <;> simp_all
theorem b2i_a {p : Prop} [Decidable p] : b2i p &&& 1 = b2i p := by unfold b2i; split <;> decide
theorem b2i_t {p : Prop} [Decidable p] (h : p) : b2i p = 1 := if_pos h
theorem b2i_f {p : Prop} [Decidable p] (h : ¬ p) : b2i p = 0 := if_neg h
theorem nt_toInt (a : Int32) : a.toNatClampNeg = a.toInt.toNat := rfl
theorem nt_int {a : Int32} (h : 0 ≤ a) : (a.toNatClampNeg : Int) = a.toInt := by
  have := Int32.le_iff_toInt_le.mp h
  rw [nt_toInt]
  have h0 : (0 : Int32).toInt = 0 := rfl
  omega
theorem nt_lt {a b : Int32} (h0 : 0 ≤ a) (h : a < b) : a.toNatClampNeg < b.toNatClampNeg := by
  have h1 := Int32.lt_iff_toInt_lt.mp h
  have h2 := nt_int h0
  have h3 := nt_int (show 0 ≤ b by grind)
  omega
theorem nt_le {a b : Int32} (h0 : 0 ≤ a) (h : a ≤ b) : a.toNatClampNeg ≤ b.toNatClampNeg := by
  have h1 := Int32.le_iff_toInt_le.mp h
  have h2 := nt_int h0
  have h3 := nt_int (show 0 ≤ b by grind)
  omega
theorem nt_inj {a b : Int32} (h0 : 0 ≤ a) (h1 : 0 ≤ b) (h : a.toNatClampNeg = b.toNatClampNeg) : a = b := by
  have h2 := nt_int h0
  have h3 := nt_int h1
  exact Int32.toInt_inj.mp (by omega)
theorem nt_nI {n : Nat} (h : n < 2 ^ 31) : (nI n).toNatClampNeg = n := nI_clamp h
theorem nI_nt {a : Int32} (h : 0 ≤ a) : nI a.toNatClampNeg = a := by
  refine nt_inj (nI_pos' ?_) h ?_
  · have := nt_int h
    have := Int32.toInt_lt a
    omega
  · refine nI_clamp ?_
    have := nt_int h
    have := Int32.toInt_lt a
    omega
theorem nt_b {a : Int32} : a.toNatClampNeg < 2 ^ 31 := by
  have := Int32.toInt_lt a
  rw [nt_toInt]
  omega
theorem nI_plus (a b : Nat) : nI a + nI b = nI (a + b) := by
  unfold nI
  rw [← Int32.ofNat_add]
theorem nI_mul (a b : Nat) : nI a * nI b = nI (a * b) := by
  unfold nI
  rw [← Int32.ofNat_mul]
theorem nI_sub {a b : Nat} (h : b ≤ a) : nI a - nI b = nI (a - b) := by
  have : nI a = nI (a - b) + nI b := by rw [nI_plus, Nat.sub_add_cancel h]
  rw [this]
  grind
theorem nI_lt_iff {a b : Nat} (ha : a < 2 ^ 31) (hb : b < 2 ^ 31) : nI a < nI b ↔ a < b := by
  rw [Int32.lt_iff_toInt_lt, nI_toInt ha, nI_toInt hb]
  omega
theorem nI_le_iff {a b : Nat} (ha : a < 2 ^ 31) (hb : b < 2 ^ 31) : nI a ≤ nI b ↔ a ≤ b := by
  rw [Int32.le_iff_toInt_le, nI_toInt ha, nI_toInt hb]
  omega
theorem nI_inj {a b : Nat} (ha : a < 2 ^ 31) (hb : b < 2 ^ 31) : nI a = nI b ↔ a = b := by
  rw [← Int32.toInt_inj, nI_toInt ha, nI_toInt hb]
  omega
theorem nt_add {a b : Int32} (ha : 0 ≤ a) (hb : 0 ≤ b) (h : a.toNatClampNeg + b.toNatClampNeg < 2 ^ 31) : (a + b).toNatClampNeg = a.toNatClampNeg + b.toNatClampNeg := by
  rw [← nI_nt ha, ← nI_nt hb, nI_plus, nI_clamp h, nI_clamp nt_b, nI_clamp nt_b]
theorem nt_mul {a b : Int32} (ha : 0 ≤ a) (hb : 0 ≤ b) (h : a.toNatClampNeg * b.toNatClampNeg < 2 ^ 31) : (a * b).toNatClampNeg = a.toNatClampNeg * b.toNatClampNeg := by
  rw [← nI_nt ha, ← nI_nt hb, nI_mul, nI_clamp h, nI_clamp nt_b, nI_clamp nt_b]
theorem nt_succ {a : Int32} (ha : 0 ≤ a) (h : a < 2147483647) : (a + 1).toNatClampNeg = a.toNatClampNeg + 1 := by
  have h1 : (1 : Int32).toNatClampNeg = 1 := rfl
  have h2 : a.toNatClampNeg < 2147483647 := nt_lt ha h
  rw [nt_add ha (by decide) (by rw [h1]; omega), h1]
theorem inb_iff {a : Int32} {n : Nat} (hn : n < 2 ^ 31) : am_inb a n = true ↔ (0 ≤ a ∧ a < nI n) := by
  constructor
  · intro h
    have h1 := am_inb_in h
    have h2 : 0 ≤ a := Int32.not_lt.mp (fun q => h1 (Or.inl q))
    refine ⟨h2, ?_⟩
    have h3 : a.toNatClampNeg < n := Nat.not_le.mp (fun q => h1 (Or.inr q))
    rw [← nI_nt h2, nI_lt_iff nt_b hn]
    exact h3
  · rintro ⟨h1, h2⟩
    unfold am_inb
    have h3 : a.toNatClampNeg < n := by
      rw [← nI_nt h1, nI_lt_iff nt_b hn] at h2
      exact h2
    have h4 : ¬ a < 0 := Int32.not_lt.mpr h1
    have h5 : Nat.ble n a.toNatClampNeg = false := by
      cases hq : Nat.ble n a.toNatClampNeg with
      | false => rfl
      | true => exact absurd (Nat.le_of_ble_eq_true hq) (by omega)
    simp [h4, h5]
/-- a test of an index, as a condition -/
theorem inb_if {α : Type} {a : Int32} {n : Nat} {x y : α} (hn : n < 2147483648) : (bif am_inb a n then x else y) = if 0 ≤ a ∧ a < Int32.ofNat n then x else y := by
  by_cases h : 0 ≤ a ∧ a < Int32.ofNat n
  · rw [if_pos h, (inb_iff hn).mpr h, cond_true]
  · rw [if_neg h]
    cases hq : am_inb a n with
    | false => rfl
    | true => exact absurd ((inb_iff hn).mp hq) h
theorem inb_t {a : Int32} {n : Nat} (h0 : 0 ≤ a) (h : a.toNatClampNeg < n) : am_inb a n = true := by
  have h4 : ¬ a < 0 := Int32.not_lt.mpr h0
  have h5 : Nat.ble n a.toNatClampNeg = false := by
    cases hq : Nat.ble n a.toNatClampNeg with
    | false => rfl
    | true => exact absurd (Nat.le_of_ble_eq_true hq) (by omega)
  unfold am_inb
  simp [h4, h5]
theorem inb_n {k n : Nat} (h : k < n) (hn : n < 2 ^ 31) : am_inb (nI k) n = true := inb_t (nI_pos' (by omega)) (by rw [nI_clamp (by omega)]; exact h)
theorem up_eq {μ : am_Mu} {k i : Nat} {x : Int32} : am_up μ k i x k i = x := if_pos ⟨rfl, rfl⟩
theorem up_ne {μ : am_Mu} {k i a b : Nat} {x : Int32} (h : ¬ (a = k ∧ b = i)) : am_up μ k i x a b = μ a b := if_neg h
theorem up_ne2 {μ : am_Mu} {k i b : Nat} {x : Int32} (h : ¬ b = i) : am_up μ k i x k b = μ k b := if_neg (fun q => h q.2)
theorem up_row {μ : am_Mu} {k i a : Nat} {x : Int32} (h : ¬ a = k) : am_up μ k i x a = μ a := am_up_ne h
theorem up_at {μ : am_Mu} {k i b : Nat} {x : Int32} : am_up μ k i x k b = if b = i then x else μ k b := by
  by_cases h : b = i
  · subst h; rw [if_pos rfl, up_eq]
  · rw [if_neg h, up_ne2 h]
/-! small functions, as conditions -/
theorem l_isIn (a n : Int32) (μ : am_Mu) : fB_isIn a n μ = some (b2i (0 ≤ a ∧ a < n), μ) := by
  unfold fB_isIn fB_isIn_13 b2i
  grind
theorem l_lies (a lo hi : Int32) (μ : am_Mu) : fM_lies a lo hi μ = some (b2i (lo ≤ a ∧ a ≤ hi), μ) := by
  unfold fM_lies fM_lies_14 b2i
  grind
theorem l_isSchool (a : Int32) (μ : am_Mu) : fM_isSchool a μ = some (b2i (0 ≤ a ∧ a < 2), μ) := by
  unfold fM_isSchool fM_isSchool_9 b2i
  grind
theorem l_isMinuteB (a : Int32) (μ : am_Mu) : fB_isMinute a μ = some (b2i (0 ≤ a ∧ a < 1440000), μ) := by
  unfold fB_isMinute
  rw [l_isIn, Option.bind_some, if_pos b2i_a]
theorem l_isMinuteM (a : Int32) (μ : am_Mu) : fM_isMinute a μ = some (b2i (0 ≤ a ∧ a ≤ 1439999), μ) := by
  unfold fM_isMinute
  rw [l_lies, Option.bind_some, if_pos b2i_a]
theorem l_isMark (a : Int32) (μ : am_Mu) : fM_isMark a μ = some (b2i (0 ≤ a ∧ a ≤ 7), μ) := by
  unfold fM_isMark
  rw [l_lies, Option.bind_some, if_pos b2i_a]
theorem l_isThing (a : Int32) (μ : am_Mu) : fM_isThing a μ = some (b2i (0 ≤ a ∧ a ≤ μ 108 4 - 1), μ) := by
  unfold fM_isThing
  rw [l_lies, Option.bind_some, if_pos b2i_a]
theorem l_isMistake (a : Int32) (μ : am_Mu) : fM_isMistake a μ = some (b2i (0 ≤ a ∧ a ≤ μ 108 6 - 1), μ) := by
  unfold fM_isMistake
  rw [l_lies, Option.bind_some, if_pos b2i_a]
theorem l_isKitchen (a : Int32) (μ : am_Mu) : fM_isKitchen a μ = some (b2i (0 ≤ a ∧ a ≤ μ 108 7 - 1), μ) := by
  unfold fM_isKitchen
  rw [l_lies, Option.bind_some, if_pos b2i_a]
theorem l_isLot (a : Int32) (μ : am_Mu) : fM_isLot a μ = some (b2i (0 ≤ a ∧ a ≤ μ 108 8 - 1), μ) := by
  unfold fM_isLot
  rw [l_lies, Option.bind_some, if_pos b2i_a]
theorem l_isTold (a : Int32) (μ : am_Mu) : fB_isTold a μ = some (b2i (0 ≤ a ∧ a < 1440000 ∧ a ≤ μ 0 11), μ) := by
  unfold fB_isTold
  rw [l_isMinuteB, Option.bind_some]
  unfold fB_isTold_19 b2i
  grind
