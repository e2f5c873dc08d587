/-! E: THE INVARIANT, by groups (0 now; 1 feasts; 2 tape; 4 things, acts, mistakes; 5 kitchens; 6 lots; 7 visitors; 8 visits; 9 words) -/
theorem nbt {a b : Nat} (h : a = b) : Nat.beq a b = true := by subst h; exact Nat.beq_refl a
/-- two memories are alike on a list of places -/
def am_ag (l : List (Nat × Nat)) (μ μ' : am_Mu) : Prop := (∀ b ∈ l, b.2 = 999 → μ' b.1 = μ b.1) ∧ ∀ b ∈ l, ¬ b.2 = 999 → μ' b.1 b.2 = μ b.1 b.2
def am_dis (l f : List (Nat × Nat)) : Bool := l.all (fun a => f.all (fun b => !(Nat.beq a.1 b.1 && (Nat.beq a.2 999 || (Nat.beq b.2 999 || Nat.beq a.2 b.2)))))
theorem am_dis_wl {l f : List (Nat × Nat)} (h : am_dis l f = true) {b : Nat × Nat} (hb : b ∈ f) : (b.2 = 999 → ∀ j, am_wl l b.1 j = false) ∧ (¬ b.2 = 999 → am_wl l b.1 b.2 = false) := by
  have key : ∀ j, (b.2 = 999 ∨ b.2 = j) → am_wl l b.1 j = false := by
    intro j hj
    cases hq : am_wl l b.1 j with
    | false => rfl
    | true =>
      unfold am_wl at hq
      obtain ⟨x, hx, hx2⟩ := List.any_eq_true.mp hq
      have h1 := List.all_eq_true.mp (List.all_eq_true.mp h x hx) b hb
      simp only [Bool.and_eq_true, Bool.or_eq_true, Nat.beq_eq, Bool.not_eq_true', Bool.and_eq_false_iff, Bool.or_eq_false_iff] at hx2 h1
      obtain ⟨e1, e2⟩ := hx2
      rcases h1 with h1 | ⟨h1, h2, h3⟩
      · rw [nbt e1] at h1; cases h1
      · rcases e2 with e2 | e2
        · rw [nbt e2] at h1; cases h1
        · rcases hj with hj | hj
          · rw [nbt hj] at h2; cases h2
          · rw [nbt (e2.trans hj.symm)] at h3; cases h3
  exact ⟨fun h9 j => key j (Or.inl h9), fun _ => key b.2 (Or.inr rfl)⟩
theorem am_fr.ag {l f : List (Nat × Nat)} {μ μ' : am_Mu} (h : am_fr l μ μ') (hd : am_dis l f = true) : am_ag f μ μ' :=
  ⟨fun b hb h9 => funext (fun j => h b.1 j ((am_dis_wl hd hb).1 h9 j)), fun b hb h9 => h b.1 b.2 ((am_dis_wl hd hb).2 h9)⟩
theorem am_ag.trans {f : List (Nat × Nat)} {μ ν ρ : am_Mu} (h1 : am_ag f μ ν) (h2 : am_ag f ν ρ) : am_ag f μ ρ := ⟨fun b hb h9 => (h2.1 b hb h9).trans (h1.1 b hb h9), fun b hb h9 => (h2.2 b hb h9).trans (h1.2 b hb h9)⟩
/-- the minute of an event, by the class's numbers (mistakes first, acts from 10 on) -/
def evMin (μ : am_Mu) (e : Int32) : Int32 := if e < 10 then μ 24 e.toNatClampNeg else μ 18 (e - 10).toNatClampNeg
/-- the class's number of an event and the reference's -/
def EvRel (μ : am_Mu) (e f : Int32) : Prop := (0 ≤ e ∧ e < μ 13 16 ∧ f = 1000 + e) ∨ (10 ≤ e ∧ e < 10 + μ 13 15 ∧ f = e - 10)
/-- units of lot l in each kitchen behind the first n passes (the class's rows) -/
def ltThere (μ : am_Mu) (l : Nat) : Nat → Nat → Int32
  | 0 => fun k => if k = (μ 85 l).toNatClampNeg then μ 86 l else 0
  | n + 1 => fun k => if μ 89 n = nI l then (if k = (μ 91 n).toNatClampNeg then ltThere μ l n k + μ 92 n else if k = (μ 90 n).toNatClampNeg then ltThere μ l n k - μ 92 n else ltThere μ l n k) else ltThere μ l n k
def ltEver (μ : am_Mu) (l : Nat) : Nat → Int32
  | 0 => (1 : Int32) <<< (μ 85 l &&& 31)
  | n + 1 => if μ 89 n = nI l then ltEver μ l n ||| ((1 : Int32) <<< (μ 91 n &&& 31)) else ltEver μ l n

theorem ltThere_cong {μ ν : am_Mu} {l : Nat} (h : ν 85 = μ 85 ∧ ν 86 = μ 86 ∧ ν 89 = μ 89 ∧ ν 90 = μ 90 ∧ ν 91 = μ 91 ∧ ν 92 = μ 92) : ∀ n, ltThere ν l n = ltThere μ l n := by
  obtain ⟨h1, h2, h3, h4, h5, h6⟩ := h
  intro n
  induction n with
  | zero => funext k; simp only [ltThere, h1, h2]
  | succ n ih => funext k; simp only [ltThere, h3, h4, h5, h6, ih]
theorem ltEver_cong {μ ν : am_Mu} {l : Nat} (h : ν 85 = μ 85 ∧ ν 89 = μ 89 ∧ ν 91 = μ 91) : ∀ n, ltEver ν l n = ltEver μ l n := by
  obtain ⟨h1, h2, h3⟩ := h
  intro n
  induction n with
  | zero => simp only [ltEver, h1]
  | succ n ih => simp only [ltEver, h2, h3, ih]
theorem evMin_cong {μ ν : am_Mu} (h : ν 24 = μ 24 ∧ ν 18 = μ 18) (e : Int32) : evMin ν e = evMin μ e := by simp only [evMin, h.1, h.2]
theorem EvRel_cong {μ ν : am_Mu} (h : ν 13 16 = μ 13 16 ∧ ν 13 15 = μ 13 15) (e f : Int32) : EvRel ν e f = EvRel μ e f := by simp only [EvRel, h.1, h.2]
def G0 (μ : am_Mu) : Prop := 0 ≤ μ 0 11 ∧ μ 0 11 < 1440000 ∧ μ 108 2 = μ 0 11
def foot0 : List (Nat × Nat) := [(0, 11), (108, 2)]
theorem G0.fr {μ μ' : am_Mu} (h : am_ag foot0 μ μ') (g : G0 μ) : G0 μ' := by
  have e0 : μ' 0 11 = μ 0 11 := h.2 (0, 11) (by decide) (by decide)
  have e1 : μ' 108 2 = μ 108 2 := h.2 (108, 2) (by decide) (by decide)
  simp only [G0, e0, e1]
  exact g
theorem G0.fr1 {l : List (Nat × Nat)} {μ μ1 : am_Mu} (h : am_fr l μ μ1) (d : am_dis l foot0 = true) (g : G0 μ) : G0 μ1 := G0.fr (h.ag d) g
theorem G0.fr2 {l l2 : List (Nat × Nat)} {μ μ1 μ2 : am_Mu} (h : am_fr l μ μ1) (h2 : am_fr l2 μ1 μ2) (d : am_dis l foot0 = true) (d2 : am_dis l2 foot0 = true) (g : G0 μ) : G0 μ2 := G0.fr ((h.ag d).trans (h2.ag d2)) g
def G1 (μ : am_Mu) : Prop := 0 ≤ μ 1 3 ∧ μ 1 3 ≤ 6 ∧ μ 108 3 = μ 1 3 ∧ ∀ j, j < (μ 1 3).toNatClampNeg → μ 110 j = μ 2 j ∧ μ 111 j = μ 3 j ∧ μ 112 j = μ 4 j ∧ 0 ≤ μ 2 j ∧ μ 2 j < 12 ∧ 0 ≤ μ 3 j ∧ μ 3 j ≤ 28 ∧ 1 ≤ μ 4 j ∧ μ 4 j ≤ 10
def foot1 : List (Nat × Nat) := [(1, 3), (2, 999), (3, 999), (4, 999), (108, 3), (110, 999), (111, 999), (112, 999)]
theorem G1.fr {μ μ' : am_Mu} (h : am_ag foot1 μ μ') (g : G1 μ) : G1 μ' := by
  have e0 : μ' 1 3 = μ 1 3 := h.2 (1, 3) (by decide) (by decide)
  have e1 : μ' 2 = μ 2 := h.1 (2, 999) (by decide) rfl
  have e2 : μ' 3 = μ 3 := h.1 (3, 999) (by decide) rfl
  have e3 : μ' 4 = μ 4 := h.1 (4, 999) (by decide) rfl
  have e4 : μ' 108 3 = μ 108 3 := h.2 (108, 3) (by decide) (by decide)
  have e5 : μ' 110 = μ 110 := h.1 (110, 999) (by decide) rfl
  have e6 : μ' 111 = μ 111 := h.1 (111, 999) (by decide) rfl
  have e7 : μ' 112 = μ 112 := h.1 (112, 999) (by decide) rfl
  simp only [G1, e0, e1, e2, e3, e4, e5, e6, e7]
  exact g
theorem G1.fr1 {l : List (Nat × Nat)} {μ μ1 : am_Mu} (h : am_fr l μ μ1) (d : am_dis l foot1 = true) (g : G1 μ) : G1 μ1 := G1.fr (h.ag d) g
theorem G1.fr2 {l l2 : List (Nat × Nat)} {μ μ1 μ2 : am_Mu} (h : am_fr l μ μ1) (h2 : am_fr l2 μ1 μ2) (d : am_dis l foot1 = true) (d2 : am_dis l2 foot1 = true) (g : G1 μ) : G1 μ2 := G1.fr ((h.ag d).trans (h2.ag d2)) g
def G2 (μ : am_Mu) : Prop := 0 ≤ μ 5 2 ∧ μ 5 2 ≤ 240 ∧ μ 108 1 = μ 5 2 ∧ ∀ j, j < (μ 5 2).toNatClampNeg → 0 ≤ μ 6 j ∧ μ 6 j < 256 ∧ μ 109 j &&& 255 = μ 6 j
def foot2 : List (Nat × Nat) := [(5, 2), (6, 999), (108, 1), (109, 999)]
theorem G2.fr {μ μ' : am_Mu} (h : am_ag foot2 μ μ') (g : G2 μ) : G2 μ' := by
  have e0 : μ' 5 2 = μ 5 2 := h.2 (5, 2) (by decide) (by decide)
  have e1 : μ' 6 = μ 6 := h.1 (6, 999) (by decide) rfl
  have e2 : μ' 108 1 = μ 108 1 := h.2 (108, 1) (by decide) (by decide)
  have e3 : μ' 109 = μ 109 := h.1 (109, 999) (by decide) rfl
  simp only [G2, e0, e1, e2, e3]
  exact g
theorem G2.fr1 {l : List (Nat × Nat)} {μ μ1 : am_Mu} (h : am_fr l μ μ1) (d : am_dis l foot2 = true) (g : G2 μ) : G2 μ1 := G2.fr (h.ag d) g
theorem G2.fr2 {l l2 : List (Nat × Nat)} {μ μ1 μ2 : am_Mu} (h : am_fr l μ μ1) (h2 : am_fr l2 μ1 μ2) (d : am_dis l foot2 = true) (d2 : am_dis l2 foot2 = true) (g : G2 μ) : G2 μ2 := G2.fr ((h.ag d).trans (h2.ag d2)) g
def G4 (μ : am_Mu) : Prop := (0 ≤ μ 13 14 ∧ μ 13 14 ≤ 20 ∧ μ 108 4 = μ 13 14 ∧ ∀ j, j < (μ 13 14).toNatClampNeg → μ 113 j = μ 14 j ∧ 0 ≤ μ 14 j ∧ μ 14 j < 256) ∧ (0 ≤ μ 13 15 ∧ μ 13 15 ≤ 200 ∧ μ 108 5 = μ 13 15 ∧ ∀ j, j < (μ 13 15).toNatClampNeg → (μ 132 j = μ 15 j ∧ 0 ≤ μ 15 j ∧ μ 15 j < 4) ∧ (μ 133 j = μ 16 j ∧ 0 ≤ μ 16 j ∧ μ 16 j < μ 13 14) ∧ (μ 134 j = μ 17 j ∧ ((μ 15 j < 2 ∧ 0 ≤ μ 17 j ∧ μ 17 j < μ 13 14 ∧ ¬ μ 16 j = μ 17 j) ∨ (2 ≤ μ 15 j ∧ μ 17 j = -1))) ∧ (μ 135 j = μ 18 j ∧ 0 ≤ μ 18 j ∧ μ 18 j < 1440000) ∧ (μ 136 j = μ 19 j ∧ (μ 19 j = 0 ∨ μ 19 j = 1)) ∧ μ 137 j = μ 20 j ∧ μ 138 j = μ 21 j) ∧ (0 ≤ μ 13 16 ∧ μ 13 16 ≤ 10 ∧ μ 108 6 = μ 13 16 ∧ ∀ j, j < (μ 13 16).toNatClampNeg → (μ 139 j = μ 22 j ∧ 0 ≤ μ 22 j ∧ μ 22 j < μ 13 14) ∧ (μ 140 j = μ 23 j ∧ 0 ≤ μ 23 j ∧ μ 23 j < 8) ∧ (μ 141 j = μ 24 j ∧ 0 ≤ μ 24 j ∧ μ 24 j < 1440000) ∧ μ 142 j = μ 25 j) ∧ (μ 13 13 = μ 13 15 + μ 13 16 ∧ μ 108 55 = μ 13 13 ∧ (∀ k, k < (μ 13 13).toNatClampNeg → EvRel μ (μ 26 k) (μ 143 k)) ∧ ∀ k l, k < l → l < (μ 13 13).toNatClampNeg → evMin μ (μ 26 k) ≤ evMin μ (μ 26 l))
def foot4 : List (Nat × Nat) := [(13, 13), (13, 14), (13, 15), (13, 16), (14, 999), (15, 999), (16, 999), (17, 999), (18, 999), (19, 999), (20, 999), (21, 999), (22, 999), (23, 999), (24, 999), (25, 999), (26, 999), (108, 4), (108, 5), (108, 6), (108, 55), (113, 999), (132, 999), (133, 999), (134, 999), (135, 999), (136, 999), (137, 999), (138, 999), (139, 999), (140, 999), (141, 999), (142, 999), (143, 999)]
theorem G4.fr {μ μ' : am_Mu} (h : am_ag foot4 μ μ') (g : G4 μ) : G4 μ' := by
  have e0 : μ' 13 13 = μ 13 13 := h.2 (13, 13) (by decide) (by decide)
  have e1 : μ' 13 14 = μ 13 14 := h.2 (13, 14) (by decide) (by decide)
  have e2 : μ' 13 15 = μ 13 15 := h.2 (13, 15) (by decide) (by decide)
  have e3 : μ' 13 16 = μ 13 16 := h.2 (13, 16) (by decide) (by decide)
  have e4 : μ' 14 = μ 14 := h.1 (14, 999) (by decide) rfl
  have e5 : μ' 15 = μ 15 := h.1 (15, 999) (by decide) rfl
  have e6 : μ' 16 = μ 16 := h.1 (16, 999) (by decide) rfl
  have e7 : μ' 17 = μ 17 := h.1 (17, 999) (by decide) rfl
  have e8 : μ' 18 = μ 18 := h.1 (18, 999) (by decide) rfl
  have e9 : μ' 19 = μ 19 := h.1 (19, 999) (by decide) rfl
  have e10 : μ' 20 = μ 20 := h.1 (20, 999) (by decide) rfl
  have e11 : μ' 21 = μ 21 := h.1 (21, 999) (by decide) rfl
  have e12 : μ' 22 = μ 22 := h.1 (22, 999) (by decide) rfl
  have e13 : μ' 23 = μ 23 := h.1 (23, 999) (by decide) rfl
  have e14 : μ' 24 = μ 24 := h.1 (24, 999) (by decide) rfl
  have e15 : μ' 25 = μ 25 := h.1 (25, 999) (by decide) rfl
  have e16 : μ' 26 = μ 26 := h.1 (26, 999) (by decide) rfl
  have e17 : μ' 108 4 = μ 108 4 := h.2 (108, 4) (by decide) (by decide)
  have e18 : μ' 108 5 = μ 108 5 := h.2 (108, 5) (by decide) (by decide)
  have e19 : μ' 108 6 = μ 108 6 := h.2 (108, 6) (by decide) (by decide)
  have e20 : μ' 108 55 = μ 108 55 := h.2 (108, 55) (by decide) (by decide)
  have e21 : μ' 113 = μ 113 := h.1 (113, 999) (by decide) rfl
  have e22 : μ' 132 = μ 132 := h.1 (132, 999) (by decide) rfl
  have e23 : μ' 133 = μ 133 := h.1 (133, 999) (by decide) rfl
  have e24 : μ' 134 = μ 134 := h.1 (134, 999) (by decide) rfl
  have e25 : μ' 135 = μ 135 := h.1 (135, 999) (by decide) rfl
  have e26 : μ' 136 = μ 136 := h.1 (136, 999) (by decide) rfl
  have e27 : μ' 137 = μ 137 := h.1 (137, 999) (by decide) rfl
  have e28 : μ' 138 = μ 138 := h.1 (138, 999) (by decide) rfl
  have e29 : μ' 139 = μ 139 := h.1 (139, 999) (by decide) rfl
  have e30 : μ' 140 = μ 140 := h.1 (140, 999) (by decide) rfl
  have e31 : μ' 141 = μ 141 := h.1 (141, 999) (by decide) rfl
  have e32 : μ' 142 = μ 142 := h.1 (142, 999) (by decide) rfl
  have e33 : μ' 143 = μ 143 := h.1 (143, 999) (by decide) rfl
  have f1 : ∀ e, evMin μ' e = evMin μ e := evMin_cong ⟨e14, e8⟩
  have f2 : ∀ e f, EvRel μ' e f = EvRel μ e f := EvRel_cong ⟨e3, e2⟩
  simp only [G4, e0, e1, e2, e3, e4, e5, e6, e7, e8, e9, e10, e11, e12, e13, e14, e15, e16, e17, e18, e19, e20, e21, e22, e23, e24, e25, e26, e27, e28, e29, e30, e31, e32, e33, f1, f2]
  exact g
theorem G4.fr1 {l : List (Nat × Nat)} {μ μ1 : am_Mu} (h : am_fr l μ μ1) (d : am_dis l foot4 = true) (g : G4 μ) : G4 μ1 := G4.fr (h.ag d) g
theorem G4.fr2 {l l2 : List (Nat × Nat)} {μ μ1 μ2 : am_Mu} (h : am_fr l μ μ1) (h2 : am_fr l2 μ1 μ2) (d : am_dis l foot4 = true) (d2 : am_dis l2 foot4 = true) (g : G4 μ) : G4 μ2 := G4.fr ((h.ag d).trans (h2.ag d2)) g
def G5 (μ : am_Mu) : Prop := 0 ≤ μ 76 8 ∧ μ 76 8 ≤ 8 ∧ μ 108 7 = μ 76 8 ∧ (∀ j, j < 8 → (μ 152 j = μ 77 j ∧ 0 ≤ μ 77 j ∧ μ 77 j < 2) ∧ (μ 153 j = μ 78 j ∧ 0 ≤ μ 78 j ∧ μ 78 j < 8) ∧ (μ 154 j = μ 79 j ∧ 0 ≤ μ 79 j ∧ μ 79 j < 100) ∧ (μ 155 j = μ 80 j ∧ 0 ≤ μ 80 j ∧ μ 80 j < 100)) ∧ ∀ j, j < 16 → μ 156 j = μ 81 j ∧ (μ 81 j = 0 ∨ μ 81 j = 1)
def foot5 : List (Nat × Nat) := [(76, 8), (77, 999), (78, 999), (79, 999), (80, 999), (81, 999), (108, 7), (152, 999), (153, 999), (154, 999), (155, 999), (156, 999)]
theorem G5.fr {μ μ' : am_Mu} (h : am_ag foot5 μ μ') (g : G5 μ) : G5 μ' := by
  have e0 : μ' 76 8 = μ 76 8 := h.2 (76, 8) (by decide) (by decide)
  have e1 : μ' 77 = μ 77 := h.1 (77, 999) (by decide) rfl
  have e2 : μ' 78 = μ 78 := h.1 (78, 999) (by decide) rfl
  have e3 : μ' 79 = μ 79 := h.1 (79, 999) (by decide) rfl
  have e4 : μ' 80 = μ 80 := h.1 (80, 999) (by decide) rfl
  have e5 : μ' 81 = μ 81 := h.1 (81, 999) (by decide) rfl
  have e6 : μ' 108 7 = μ 108 7 := h.2 (108, 7) (by decide) (by decide)
  have e7 : μ' 152 = μ 152 := h.1 (152, 999) (by decide) rfl
  have e8 : μ' 153 = μ 153 := h.1 (153, 999) (by decide) rfl
  have e9 : μ' 154 = μ 154 := h.1 (154, 999) (by decide) rfl
  have e10 : μ' 155 = μ 155 := h.1 (155, 999) (by decide) rfl
  have e11 : μ' 156 = μ 156 := h.1 (156, 999) (by decide) rfl
  simp only [G5, e0, e1, e2, e3, e4, e5, e6, e7, e8, e9, e10, e11]
  exact g
theorem G5.fr1 {l : List (Nat × Nat)} {μ μ1 : am_Mu} (h : am_fr l μ μ1) (d : am_dis l foot5 = true) (g : G5 μ) : G5 μ1 := G5.fr (h.ag d) g
theorem G5.fr2 {l l2 : List (Nat × Nat)} {μ μ1 μ2 : am_Mu} (h : am_fr l μ μ1) (h2 : am_fr l2 μ1 μ2) (d : am_dis l foot5 = true) (d2 : am_dis l2 foot5 = true) (g : G5 μ) : G5 μ2 := G5.fr ((h.ag d).trans (h2.ag d2)) g
def G6 (μ : am_Mu) : Prop := (0 ≤ μ 84 13 ∧ μ 84 13 ≤ 10 ∧ μ 108 8 = μ 84 13 ∧ (∀ j, j < (μ 84 13).toNatClampNeg → (μ 157 j = μ 85 j ∧ 0 ≤ μ 85 j ∧ μ 85 j < 8) ∧ μ 158 j = μ 86 j)) ∧ (0 ≤ μ 84 14 ∧ μ 84 14 ≤ 100 ∧ μ 108 9 = μ 84 14 ∧ (∀ j, j < (μ 84 14).toNatClampNeg → (μ 159 j = μ 89 j ∧ 0 ≤ μ 89 j ∧ μ 89 j < μ 84 13) ∧ (μ 160 j = μ 90 j ∧ 0 ≤ μ 90 j ∧ μ 90 j < 8) ∧ (μ 161 j = μ 91 j ∧ 0 ≤ μ 91 j ∧ μ 91 j < 8 ∧ ¬ μ 90 j = μ 91 j) ∧ μ 162 j = μ 92 j ∧ (μ 163 j = μ 93 j ∧ (μ 93 j = 0 ∨ μ 93 j = 1)))) ∧ (∀ l, l < (μ 84 13).toNatClampNeg → ∀ k, k < 8 → μ 88 (8 * l + k) = ltThere μ l (μ 84 14).toNatClampNeg k) ∧ (∀ l, l < (μ 84 13).toNatClampNeg → μ 87 l = ltEver μ l (μ 84 14).toNatClampNeg) ∧ (∀ l, (μ 84 13).toNatClampNeg ≤ l → l < 10 → ∀ k, k < 8 → μ 88 (8 * l + k) = 0)
def foot6 : List (Nat × Nat) := [(84, 13), (84, 14), (85, 999), (86, 999), (87, 999), (88, 999), (89, 999), (90, 999), (91, 999), (92, 999), (93, 999), (108, 8), (108, 9), (157, 999), (158, 999), (159, 999), (160, 999), (161, 999), (162, 999), (163, 999)]
theorem G6.fr {μ μ' : am_Mu} (h : am_ag foot6 μ μ') (g : G6 μ) : G6 μ' := by
  have e0 : μ' 84 13 = μ 84 13 := h.2 (84, 13) (by decide) (by decide)
  have e1 : μ' 84 14 = μ 84 14 := h.2 (84, 14) (by decide) (by decide)
  have e2 : μ' 85 = μ 85 := h.1 (85, 999) (by decide) rfl
  have e3 : μ' 86 = μ 86 := h.1 (86, 999) (by decide) rfl
  have e4 : μ' 87 = μ 87 := h.1 (87, 999) (by decide) rfl
  have e5 : μ' 88 = μ 88 := h.1 (88, 999) (by decide) rfl
  have e6 : μ' 89 = μ 89 := h.1 (89, 999) (by decide) rfl
  have e7 : μ' 90 = μ 90 := h.1 (90, 999) (by decide) rfl
  have e8 : μ' 91 = μ 91 := h.1 (91, 999) (by decide) rfl
  have e9 : μ' 92 = μ 92 := h.1 (92, 999) (by decide) rfl
  have e10 : μ' 93 = μ 93 := h.1 (93, 999) (by decide) rfl
  have e11 : μ' 108 8 = μ 108 8 := h.2 (108, 8) (by decide) (by decide)
  have e12 : μ' 108 9 = μ 108 9 := h.2 (108, 9) (by decide) (by decide)
  have e13 : μ' 157 = μ 157 := h.1 (157, 999) (by decide) rfl
  have e14 : μ' 158 = μ 158 := h.1 (158, 999) (by decide) rfl
  have e15 : μ' 159 = μ 159 := h.1 (159, 999) (by decide) rfl
  have e16 : μ' 160 = μ 160 := h.1 (160, 999) (by decide) rfl
  have e17 : μ' 161 = μ 161 := h.1 (161, 999) (by decide) rfl
  have e18 : μ' 162 = μ 162 := h.1 (162, 999) (by decide) rfl
  have e19 : μ' 163 = μ 163 := h.1 (163, 999) (by decide) rfl
  have f1 : ∀ l n, ltThere μ' l n = ltThere μ l n := fun l n => ltThere_cong ⟨e2, e3, e6, e7, e8, e9⟩ n
  have f2 : ∀ l n, ltEver μ' l n = ltEver μ l n := fun l n => ltEver_cong ⟨e2, e6, e8⟩ n
  simp only [G6, e0, e1, e2, e3, e4, e5, e6, e7, e8, e9, e10, e11, e12, e13, e14, e15, e16, e17, e18, e19, f1, f2]
  exact g
theorem G6.fr1 {l : List (Nat × Nat)} {μ μ1 : am_Mu} (h : am_fr l μ μ1) (d : am_dis l foot6 = true) (g : G6 μ) : G6 μ1 := G6.fr (h.ag d) g
theorem G6.fr2 {l l2 : List (Nat × Nat)} {μ μ1 μ2 : am_Mu} (h : am_fr l μ μ1) (h2 : am_fr l2 μ1 μ2) (d : am_dis l foot6 = true) (d2 : am_dis l2 foot6 = true) (g : G6 μ) : G6 μ2 := G6.fr ((h.ag d).trans (h2.ag d2)) g
def G7 (μ : am_Mu) : Prop := (0 ≤ μ 97 4 ∧ μ 97 4 ≤ 6 ∧ μ 108 10 = μ 97 4 ∧ ∀ j, j < (μ 97 4).toNatClampNeg → (μ 167 j = μ 98 j ∧ 0 ≤ μ 98 j ∧ μ 98 j < 2) ∧ μ 168 j = μ 99 j)
def foot7 : List (Nat × Nat) := [(97, 4), (98, 999), (99, 999), (108, 10), (167, 999), (168, 999)]
theorem G7.fr {μ μ' : am_Mu} (h : am_ag foot7 μ μ') (g : G7 μ) : G7 μ' := by
  have e0 : μ' 97 4 = μ 97 4 := h.2 (97, 4) (by decide) (by decide)
  have e1 : μ' 98 = μ 98 := h.1 (98, 999) (by decide) rfl
  have e2 : μ' 99 = μ 99 := h.1 (99, 999) (by decide) rfl
  have e3 : μ' 108 10 = μ 108 10 := h.2 (108, 10) (by decide) (by decide)
  have e4 : μ' 167 = μ 167 := h.1 (167, 999) (by decide) rfl
  have e5 : μ' 168 = μ 168 := h.1 (168, 999) (by decide) rfl
  simp only [G7, e0, e1, e2, e3, e4, e5]
  exact g
theorem G7.fr1 {l : List (Nat × Nat)} {μ μ1 : am_Mu} (h : am_fr l μ μ1) (d : am_dis l foot7 = true) (g : G7 μ) : G7 μ1 := G7.fr (h.ag d) g
theorem G7.fr2 {l l2 : List (Nat × Nat)} {μ μ1 μ2 : am_Mu} (h : am_fr l μ μ1) (h2 : am_fr l2 μ1 μ2) (d : am_dis l foot7 = true) (d2 : am_dis l2 foot7 = true) (g : G7 μ) : G7 μ2 := G7.fr ((h.ag d).trans (h2.ag d2)) g
def G9 (μ : am_Mu) : Prop := ∀ c, c < 160 → (∃ b, b < 64 ∧ μ 100 c = nI b ∧ ∀ p, p < 6 → (b / 2 ^ p % 2 = 1 ↔ μ 175 (160 * p + c) = 1)) ∧ (∃ b, b < 64 ∧ μ 101 c = nI b ∧ ∀ p, p < 6 → (b / 2 ^ p % 2 = 1 ↔ μ 175 (160 * p + c) = 2))
def foot9 : List (Nat × Nat) := [(100, 999), (101, 999), (175, 999)]
theorem G9.fr {μ μ' : am_Mu} (h : am_ag foot9 μ μ') (g : G9 μ) : G9 μ' := by
  have e0 : μ' 100 = μ 100 := h.1 (100, 999) (by decide) rfl
  have e1 : μ' 101 = μ 101 := h.1 (101, 999) (by decide) rfl
  have e2 : μ' 175 = μ 175 := h.1 (175, 999) (by decide) rfl
  simp only [G9, e0, e1, e2]
  exact g
theorem G9.fr1 {l : List (Nat × Nat)} {μ μ1 : am_Mu} (h : am_fr l μ μ1) (d : am_dis l foot9 = true) (g : G9 μ) : G9 μ1 := G9.fr (h.ag d) g
theorem G9.fr2 {l l2 : List (Nat × Nat)} {μ μ1 μ2 : am_Mu} (h : am_fr l μ μ1) (h2 : am_fr l2 μ1 μ2) (d : am_dis l foot9 = true) (d2 : am_dis l2 foot9 = true) (g : G9 μ) : G9 μ2 := G9.fr ((h.ag d).trans (h2.ag d2)) g
def G8 (μ : am_Mu) : Prop := (0 ≤ μ 102 7 ∧ μ 102 7 ≤ 400 ∧ μ 108 11 = μ 102 7 ∧ 0 ≤ μ 102 8 ∧ μ 108 12 = μ 102 8 ∧ 1 ≤ μ 102 9 ∧ μ 102 9 ≤ 99 ∧ μ 108 13 = μ 102 9) ∧ (∀ i, i < (μ 102 7).toNatClampNeg → (0 ≤ μ 169 i ∧ μ 169 i < 8) ∧ (0 ≤ μ 170 i ∧ μ 170 i < 6) ∧ μ 103 i = μ 169 i * 10 + μ 170 i ∧ μ 104 i = μ 171 i ∧ 0 ≤ μ 171 i ∧ μ 171 i ≤ μ 0 11 / 1440) ∧ (∀ i i', i < i' → i' < (μ 102 7).toNatClampNeg → μ 171 i ≤ μ 171 i' ∧ (μ 169 i = μ 169 i' → μ 171 i < μ 171 i')) ∧ (∀ k, k < 8 → (μ 105 k = -1 ∧ μ 106 k = 0 ∧ ∀ i, i < (μ 102 7).toNatClampNeg → ¬ μ 169 i = nI k) ∨ ∃ i, i < (μ 102 7).toNatClampNeg ∧ μ 169 i = nI k ∧ μ 105 k = μ 170 i ∧ μ 106 k = μ 171 i ∧ ∀ i', i < i' → i' < (μ 102 7).toNatClampNeg → ¬ μ 169 i' = nI k)
def foot8 : List (Nat × Nat) := [(0, 11), (102, 7), (102, 8), (102, 9), (103, 999), (104, 999), (105, 999), (106, 999), (108, 11), (108, 12), (108, 13), (169, 999), (170, 999), (171, 999)]
theorem G8.fr {μ μ' : am_Mu} (h : am_ag foot8 μ μ') (g : G8 μ) : G8 μ' := by
  have e0 : μ' 0 11 = μ 0 11 := h.2 (0, 11) (by decide) (by decide)
  have e1 : μ' 102 7 = μ 102 7 := h.2 (102, 7) (by decide) (by decide)
  have e2 : μ' 102 8 = μ 102 8 := h.2 (102, 8) (by decide) (by decide)
  have e3 : μ' 102 9 = μ 102 9 := h.2 (102, 9) (by decide) (by decide)
  have e4 : μ' 103 = μ 103 := h.1 (103, 999) (by decide) rfl
  have e5 : μ' 104 = μ 104 := h.1 (104, 999) (by decide) rfl
  have e6 : μ' 105 = μ 105 := h.1 (105, 999) (by decide) rfl
  have e7 : μ' 106 = μ 106 := h.1 (106, 999) (by decide) rfl
  have e8 : μ' 108 11 = μ 108 11 := h.2 (108, 11) (by decide) (by decide)
  have e9 : μ' 108 12 = μ 108 12 := h.2 (108, 12) (by decide) (by decide)
  have e10 : μ' 108 13 = μ 108 13 := h.2 (108, 13) (by decide) (by decide)
  have e11 : μ' 169 = μ 169 := h.1 (169, 999) (by decide) rfl
  have e12 : μ' 170 = μ 170 := h.1 (170, 999) (by decide) rfl
  have e13 : μ' 171 = μ 171 := h.1 (171, 999) (by decide) rfl
  simp only [G8, e0, e1, e2, e3, e4, e5, e6, e7, e8, e9, e10, e11, e12, e13]
  exact g
theorem G8.fr1 {l : List (Nat × Nat)} {μ μ1 : am_Mu} (h : am_fr l μ μ1) (d : am_dis l foot8 = true) (g : G8 μ) : G8 μ1 := G8.fr (h.ag d) g
theorem G8.fr2 {l l2 : List (Nat × Nat)} {μ μ1 μ2 : am_Mu} (h : am_fr l μ μ1) (h2 : am_fr l2 μ1 μ2) (d : am_dis l foot8 = true) (d2 : am_dis l2 foot8 = true) (g : G8 μ) : G8 μ2 := G8.fr ((h.ag d).trans (h2.ag d2)) g
