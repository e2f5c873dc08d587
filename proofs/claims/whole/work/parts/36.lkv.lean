/-! E: look, visit, feed -/
theorem op_look (a b : Int32) (μ : am_Mu) : Op (fB_look a b) (fM_look a b) G4 G4 μ := by
  intro hG
  have hG' := hG
  obtain ⟨⟨h1, h2, h3, h4⟩, ⟨a1, a2, a3, a4⟩, -⟩ := hG
  by_cases hv : 0 ≤ a ∧ a < μ 13 15
  · have hi := nt_lt hv.1 hv.2
    obtain ⟨⟨e0, -⟩, ⟨e1, -⟩, ⟨e2, -⟩, ⟨e3, -⟩, ⟨e4, -⟩, e5, e6⟩ := a4 _ hi
    have c1 : fB_isIn a (μ 13 15) μ = some (1, μ) := by rw [l_isIn, b2i_t hv]
    have c2 : fM_lies a 0 (μ 108 5 - 1) μ = some (1, μ) := by rw [l_lies, b2i_t (by rw [a3]; grind)]
    have c3 : am_inb a 200 = true := inb_t hv.1 (by have := nt_le (b := 200) a1 a2; have : (200 : Int32).toNatClampNeg = 200 := rfl; omega)
    refine ⟨if b = 0 then μ 15 a.toNatClampNeg else if b = 1 then μ 16 a.toNatClampNeg else if b = 2 then μ 17 a.toNatClampNeg else if b = 3 then μ 18 a.toNatClampNeg else if b = 4 then (if μ 19 a.toNatClampNeg = 0 then 0 else 1) else if b = 5 then μ 20 a.toNatClampNeg else if b = 6 then μ 21 a.toNatClampNeg else -1, μ, μ, ?_, ?_, hG'⟩
    · simp only [fB_look, c1, Option.bind_some, c3, cond_true]
      grind
    · simp only [fM_look, c2, Option.bind_some, c3, cond_true, e0, e1, e2, e3, e4, e5, e6]
      grind
  · have c1 : fB_isIn a (μ 13 15) μ = some (0, μ) := by rw [l_isIn, b2i_f hv]
    have c2 : fM_lies a 0 (μ 108 5 - 1) μ = some (0, μ) := by rw [l_lies, b2i_f (by rw [a3]; grind)]
    exact ⟨-1, μ, μ, by simp only [fB_look, c1, Option.bind_some]; grind, by simp only [fM_look, c2, Option.bind_some]; grind, hG'⟩
/-- a two, taken apart -/
theorem two_div {k v : Int32} (h1 : 0 ≤ k) (h2 : k < 8) (h3 : 0 ≤ v) (h4 : v < 6) : (k * 10 + v) / 10 = k ∧ (k * 10 + v) - (k * 10 + v) / 10 * 10 = v := by
  have e1 := nI_nt h1
  have e2 := nI_nt h3
  have b1 : k.toNatClampNeg < 8 := nt_lt (b := 8) h1 h2
  have b2 : v.toNatClampNeg < 6 := nt_lt (b := 6) h3 h4
  rw [← e1, ← e2]
  generalize k.toNatClampNeg = x at b1 ⊢
  generalize v.toNatClampNeg = y at b2 ⊢
  have e3 : nI x * 10 + nI y = nI (x * 10 + y) := by show nI x * nI 10 + nI y = _; rw [nI_mul, nI_plus]
  rw [e3]
  constructor
  · show nI (x * 10 + y) / nI 10 = _
    rw [nI_div (by omega) (by omega)]
    congr 1
    omega
  · show nI (x * 10 + y) - nI (x * 10 + y) / nI 10 * nI 10 = _
    rw [nI_mod (by omega) (by omega)]
    congr 1
    omega
theorem op_visit (a b : Int32) (μ : am_Mu) : Op (fB_visit a b) (fM_visit a b) G8 G8 μ := by
  intro hG
  have hG' := hG
  obtain ⟨⟨h1, h2, h3, h4⟩, g2, -⟩ := hG
  by_cases hv : 0 ≤ a ∧ a < μ 102 7
  · have hi := nt_lt hv.1 hv.2
    obtain ⟨⟨k1, k2⟩, ⟨v1, v2⟩, e3, e4, -⟩ := g2 _ hi
    have c1 : fB_isIn a (μ 102 7) μ = some (1, μ) := by rw [l_isIn, b2i_t hv]
    have c2 : fM_lies a 0 (μ 108 11 - 1) μ = some (1, μ) := by rw [l_lies, b2i_t (by rw [h3]; grind)]
    have c3 : am_inb a 400 = true := inb_t hv.1 (by have := nt_le (b := 400) h1 h2; have : (400 : Int32).toNatClampNeg = 400 := rfl; omega)
    obtain ⟨d1, d2⟩ := two_div k1 k2 v1 v2
    refine ⟨if b = 0 then μ 169 a.toNatClampNeg else if b = 1 then μ 170 a.toNatClampNeg else if b = 2 then μ 171 a.toNatClampNeg else -1, μ, μ, ?_, ?_, hG'⟩
    · simp only [fB_visit, c1, Option.bind_some, c3, cond_true, fVisits_kitchenOf, fVisits_visitorOf, e3, e4, d1, d2]
      grind
    · simp only [fM_visit, c2, Option.bind_some, c3, cond_true]
      grind
  · have c1 : fB_isIn a (μ 102 7) μ = some (0, μ) := by rw [l_isIn, b2i_f hv]
    have c2 : fM_lies a 0 (μ 108 11 - 1) μ = some (0, μ) := by rw [l_lies, b2i_f (by rw [h3]; grind)]
    exact ⟨-1, μ, μ, by simp only [fB_visit, c1, Option.bind_some]; grind, by simp only [fM_visit, c2, Option.bind_some]; grind, hG'⟩
/-! feed -/
def byX (a : Int32) (s : Int32) : Int32 := am_ushr a s &&& 255
def byM (a : Int32) (s : Int32) : Int32 := ((a >>> (s &&& 31)).toInt8.toInt32).toInt8.toInt32
theorem b255F : ∀ i : Fin 32, (255#32)[i.val] = decide (i.val < 8) := by decide
theorem b255 {i : Nat} (hi : i < 32) : (255#32)[i] = decide (i < 8) := b255F ⟨i, hi⟩
theorem and255 (x : Int32) : 0 ≤ x &&& 255 ∧ x &&& 255 < 256 := by
  have h : (x &&& 255).toBitVec.toNat < 256 := by
    simp
    exact Nat.lt_of_le_of_lt Nat.and_le_right (by decide)
  have h2 : (x &&& 255).toInt = (x &&& 255).toBitVec.toNat := by
    rw [← Int32.toInt_toBitVec, BitVec.toInt_eq_toNat_of_lt (by omega)]
  rw [Int32.le_iff_toInt_le, Int32.lt_iff_toInt_lt, h2]
  have e0 : (0 : Int32).toInt = 0 := rfl
  have e2 : (256 : Int32).toInt = 256 := rfl
  omega
theorem by_rel (a : Int32) (s : Int32) (h : s = 0 ∨ s = 8 ∨ s = 16 ∨ s = 24) : 0 ≤ byX a s ∧ byX a s < 256 ∧ byM a s &&& 255 = byX a s := by
  refine ⟨(and255 _).1, (and255 _).2, ?_⟩
  unfold byX byM am_ushr
  apply Int32.toBitVec_inj.mp
  rcases h with rfl | rfl | rfl | rfl <;>
  · simp
    ext i hi
    simp [BitVec.getElem_signExtend, BitVec.getElem_sshiftRight]
    rw [b255 hi]
    by_cases h8 : i < 8
    · simp [h8, hi]
      try rw [dif_pos (by omega), BitVec.getLsbD_eq_getElem (by omega)]
    · simp [h8]
def X_put1 (a s : Int32) (μ : am_Mu) : am_Mu := am_up (am_up μ 6 (μ 5 2).toNatClampNeg (byX a s)) 5 2 (μ 5 2 + 1)
def M_put1 (a s : Int32) (μ : am_Mu) : am_Mu := am_up (am_up μ 109 (μ 108 1).toNatClampNeg (byM a s)) 108 1 (μ 108 1 + 1)
theorem x_put1 {n : Nat} {a s : Int32} {μ : am_Mu} (hs : 0 ≤ s) (h1 : 0 ≤ μ 5 2) (h2 : μ 5 2 < 240) : fLawReader_put_3 (n + 1) a s μ = fLawReader_put_3 n a (s + -8) (X_put1 a s μ) := by
  have c3 : am_inb (μ 5 2) 240 = true := inb_t h1 (nt_lt (b := 240) h1 h2)
  rw [fLawReader_put_3, if_neg (by grind), if_neg (by grind), c3, cond_true]
  rfl
theorem x_put0 {n : Nat} {a s : Int32} {μ : am_Mu} (hs : s < 0) : fLawReader_put_3 (n + 1) a s μ = some μ := by rw [fLawReader_put_3, if_pos hs]
theorem m_put1 {n : Nat} {a s : Int32} {μ : am_Mu} (hs : 0 ≤ s) (h1 : 0 ≤ μ 108 1) (h2 : μ 108 1 < 240) : fM_push_3 (n + 1) a s μ = fM_push_3 n a (s + -8) (M_put1 a s μ) := by
  have c3 : am_inb (μ 108 1) 240 = true := inb_t h1 (nt_lt (b := 240) h1 h2)
  rw [fM_push_3, if_neg (by grind), c3, cond_true]
  rfl
theorem m_put0 {n : Nat} {a s : Int32} {μ : am_Mu} (hs : s < 0) : fM_push_3 (n + 1) a s μ = some μ := by rw [fM_push_3, if_pos hs]
def X_put (a : Int32) (μ : am_Mu) : am_Mu := X_put1 a 0 (X_put1 a 8 (X_put1 a 16 (X_put1 a 24 μ)))
def M_put (a : Int32) (μ : am_Mu) : am_Mu := M_put1 a 0 (M_put1 a 8 (M_put1 a 16 (M_put1 a 24 μ)))
theorem X_put1_c (a s : Int32) (μ : am_Mu) : X_put1 a s μ 5 2 = μ 5 2 + 1 := by simp [X_put1, upa]
theorem M_put1_c (a s : Int32) (μ : am_Mu) : M_put1 a s μ 108 1 = μ 108 1 + 1 := by simp [M_put1, upa]
theorem x_put {a : Int32} {μ : am_Mu} (h1 : 0 ≤ μ 5 2) (h2 : μ 5 2 + 4 ≤ 240) (h3 : μ 5 2 ≤ 240) : fLawReader_put a μ = some (X_put a μ) := by
  have hF : am_F = 99995 + 1 + 1 + 1 + 1 + 1 := rfl
  unfold fLawReader_put
  rw [hF, x_put1 (by decide) (by grind) (by grind), show (24 : Int32) + -8 = 16 by decide,
    x_put1 (by decide) (by rw [X_put1_c]; grind) (by rw [X_put1_c]; grind), show (16 : Int32) + -8 = 8 by decide,
    x_put1 (by decide) (by rw [X_put1_c, X_put1_c]; grind) (by rw [X_put1_c, X_put1_c]; grind), show (8 : Int32) + -8 = 0 by decide,
    x_put1 (by decide) (by rw [X_put1_c, X_put1_c, X_put1_c]; grind) (by rw [X_put1_c, X_put1_c, X_put1_c]; grind), x_put0 (by decide)]
  rfl
theorem m_put {a : Int32} {μ : am_Mu} (h1 : 0 ≤ μ 108 1) (h2 : μ 108 1 + 4 ≤ 240) (h3 : μ 108 1 ≤ 240) : fM_push a μ = some (M_put a μ) := by
  have hF : am_F = 99995 + 1 + 1 + 1 + 1 + 1 := rfl
  unfold fM_push
  rw [hF, m_put1 (by decide) (by grind) (by grind), show (24 : Int32) + -8 = 16 by decide,
    m_put1 (by decide) (by rw [M_put1_c]; grind) (by rw [M_put1_c]; grind), show (16 : Int32) + -8 = 8 by decide,
    m_put1 (by decide) (by rw [M_put1_c, M_put1_c]; grind) (by rw [M_put1_c, M_put1_c]; grind), show (8 : Int32) + -8 = 0 by decide,
    m_put1 (by decide) (by rw [M_put1_c, M_put1_c, M_put1_c]; grind) (by rw [M_put1_c, M_put1_c, M_put1_c]; grind), m_put0 (by decide)]
  rfl
/-- one byte on both tapes -/
theorem g2_put1 {a s : Int32} (hs : s = 0 ∨ s = 8 ∨ s = 16 ∨ s = 24) {μ ν : am_Mu} (h1 : 0 ≤ μ 5 2) (h2 : μ 5 2 < 240) (h3 : ν 108 1 = μ 5 2) (h4 : ∀ j, j < (μ 5 2).toNatClampNeg → 0 ≤ μ 6 j ∧ μ 6 j < 256 ∧ ν 109 j &&& 255 = μ 6 j) :
    0 ≤ X_put1 a s μ 5 2 ∧ X_put1 a s μ 5 2 ≤ 240 ∧ M_put1 a s ν 108 1 = X_put1 a s μ 5 2 ∧ ∀ j, j < (X_put1 a s μ 5 2).toNatClampNeg → 0 ≤ X_put1 a s μ 6 j ∧ X_put1 a s μ 6 j < 256 ∧ M_put1 a s ν 109 j &&& 255 = X_put1 a s μ 6 j := by
  rw [X_put1_c, M_put1_c, h3]
  refine ⟨by grind, by grind, rfl, ?_⟩
  rw [nt_succ h1 (by grind)]
  intro j hj
  by_cases hjj : j = (μ 5 2).toNatClampNeg
  · subst hjj
    have := by_rel a s hs
    simpa [X_put1, M_put1, upa, h3] using this
  · have := h4 j (by omega)
    simpa [X_put1, M_put1, upa, h3, hjj] using this
/-- both tapes, a word on each -/
def T2 (μ ν : am_Mu) : Prop := 0 ≤ μ 5 2 ∧ μ 5 2 ≤ 240 ∧ ν 108 1 = μ 5 2 ∧ ∀ j, j < (μ 5 2).toNatClampNeg → 0 ≤ μ 6 j ∧ μ 6 j < 256 ∧ ν 109 j &&& 255 = μ 6 j
theorem T2_1 {a s : Int32} (hs : s = 0 ∨ s = 8 ∨ s = 16 ∨ s = 24) {μ ν : am_Mu} (h : T2 μ ν) (h2 : μ 5 2 < 240) : T2 (X_put1 a s μ) (M_put1 a s ν) := g2_put1 hs h.1 h2 h.2.2.1 h.2.2.2
theorem T2_put {a : Int32} {μ ν : am_Mu} (h : T2 μ ν) (h2 : μ 5 2 + 4 ≤ 240) : T2 (X_put a μ) (M_put a ν) ∧ X_put a μ 5 2 = μ 5 2 + 4 := by
  have h1 := h.1
  have h3 := h.2.1
  refine ⟨?_, ?_⟩
  · unfold X_put M_put
    refine T2_1 (by simp) (T2_1 (by simp) (T2_1 (by simp) (T2_1 (by simp) h ?_) ?_) ?_) ?_
    · grind
    · rw [X_put1_c]; grind
    · rw [X_put1_c, X_put1_c]; grind
    · rw [X_put1_c, X_put1_c, X_put1_c]; grind
  · unfold X_put
    rw [X_put1_c, X_put1_c, X_put1_c, X_put1_c]
    grind
def X_feed (a b c d e : Int32) (μ : am_Mu) : am_Mu := X_put e (X_put d (X_put c (X_put b (X_put a μ))))
def M_feed (a b c d e : Int32) (μ : am_Mu) : am_Mu := M_put e (M_put d (M_put c (M_put b (M_put a μ))))
theorem M_put1_fr (a s : Int32) (μ : am_Mu) (k : Nat) (hk : ¬ k = 109) (hk2 : ¬ k = 108) : M_put1 a s μ k = μ k := by
  unfold M_put1
  rw [am_up_ne hk2, am_up_ne hk]
theorem X_put1_fr (a s : Int32) (μ : am_Mu) (k : Nat) (hk : ¬ k = 5) (hk2 : ¬ k = 6) : X_put1 a s μ k = μ k := by
  unfold X_put1
  rw [am_up_ne hk, am_up_ne hk2]
theorem X_feed_fr (a b c d e : Int32) (μ : am_Mu) (k : Nat) (hk : ¬ k = 5) (hk2 : ¬ k = 6) : X_feed a b c d e μ k = μ k := by
  simp only [X_feed, X_put, X_put1_fr _ _ _ k hk hk2]
theorem M_feed_fr (a b c d e : Int32) (μ : am_Mu) (k : Nat) (hk : ¬ k = 109) (hk2 : ¬ k = 108) : M_feed a b c d e μ k = μ k := by
  simp only [M_feed, M_put, M_put1_fr _ _ _ k hk hk2]
theorem T2_cong {μ μ' ν ν' : am_Mu} (h : T2 μ ν) (h1 : μ' 5 = μ 5) (h2 : μ' 6 = μ 6) (h3 : ν' 108 = ν 108) (h4 : ν' 109 = ν 109) : T2 μ' ν' := by
  unfold T2
  rw [h1, h2, h3, h4]
  exact h
theorem op_feed (a b c d e : Int32) (μ : am_Mu) : Op (fB_feed a b c d e) (fM_feed a b c d e) G2 G2 μ := by
  intro hG
  have hT : T2 μ μ := hG
  by_cases hv : μ 5 2 + 20 ≤ 240
  · have h1 := hG.1
    have h2 := hG.2.1
    -- the class's side
    have t1 := T2_put (a := a) hT (by grind)
    have t2 := T2_put (a := b) t1.1 (by rw [t1.2]; grind)
    have t3 := T2_put (a := c) t2.1 (by rw [t2.2, t1.2]; grind)
    have t4 := T2_put (a := d) t3.1 (by rw [t3.2, t2.2, t1.2]; grind)
    have t5 := T2_put (a := e) t4.1 (by rw [t4.2, t3.2, t2.2, t1.2]; grind)
    have ex : fB_feed a b c d e μ = some (X_feed a b c d e μ 5 2, X_feed a b c d e μ) := by
      simp only [fB_feed, fLawReader_append]
      rw [if_pos hv, x_put h1 (by grind) h2, Option.bind_some, x_put t1.1.1 (by rw [t1.2]; grind) t1.1.2.1, Option.bind_some, x_put t2.1.1 (by rw [t2.2, t1.2]; grind) t2.1.2.1, Option.bind_some, x_put t3.1.1 (by rw [t3.2, t2.2, t1.2]; grind) t3.1.2.1, Option.bind_some, x_put t4.1.1 (by rw [t4.2, t3.2, t2.2, t1.2]; grind) t4.1.2.1, Option.bind_some, Option.bind_some]
      rfl
    -- the reference's side, over the class's memory
    have hT' : T2 μ (X_feed a b c d e μ) := T2_cong hT rfl rfl (X_feed_fr _ _ _ _ _ _ 108 (by decide) (by decide)) (X_feed_fr _ _ _ _ _ _ 109 (by decide) (by decide))
    have s1 := T2_put (a := a) hT' (by grind)
    have s2 := T2_put (a := b) s1.1 (by rw [s1.2]; grind)
    have s3 := T2_put (a := c) s2.1 (by rw [s2.2, s1.2]; grind)
    have s4 := T2_put (a := d) s3.1 (by rw [s3.2, s2.2, s1.2]; grind)
    have s5 := T2_put (a := e) s4.1 (by rw [s4.2, s3.2, s2.2, s1.2]; grind)
    have hc : X_feed a b c d e μ 108 1 = μ 5 2 := by rw [X_feed_fr _ _ _ _ _ _ 108 (by decide) (by decide)]; exact hG.2.2.1
    have em : fM_feed a b c d e (X_feed a b c d e μ) = some (M_feed a b c d e (X_feed a b c d e μ) 108 1, M_feed a b c d e (X_feed a b c d e μ)) := by
      simp only [fM_feed]
      rw [if_pos (by rw [hc]; exact hv), m_put (by rw [hc]; exact h1) (by rw [hc]; grind) (by rw [hc]; exact h2), Option.bind_some,
        m_put (by rw [s1.1.2.2.1, s1.2]; grind) (by rw [s1.1.2.2.1, s1.2]; grind) (by rw [s1.1.2.2.1, s1.2]; grind), Option.bind_some,
        m_put (by rw [s2.1.2.2.1, s2.2, s1.2]; grind) (by rw [s2.1.2.2.1, s2.2, s1.2]; grind) (by rw [s2.1.2.2.1, s2.2, s1.2]; grind), Option.bind_some,
        m_put (by rw [s3.1.2.2.1, s3.2, s2.2, s1.2]; grind) (by rw [s3.1.2.2.1, s3.2, s2.2, s1.2]; grind) (by rw [s3.1.2.2.1, s3.2, s2.2, s1.2]; grind), Option.bind_some,
        m_put (by rw [s4.1.2.2.1, s4.2, s3.2, s2.2, s1.2]; grind) (by rw [s4.1.2.2.1, s4.2, s3.2, s2.2, s1.2]; grind) (by rw [s4.1.2.2.1, s4.2, s3.2, s2.2, s1.2]; grind), Option.bind_some]
      rfl
    have hfin : T2 (X_feed a b c d e μ) (M_feed a b c d e (X_feed a b c d e μ)) := s5.1
    refine ⟨X_feed a b c d e μ 5 2, X_feed a b c d e μ, M_feed a b c d e (X_feed a b c d e μ), ex, ?_, ?_⟩
    · rw [em, hfin.2.2.1]
    · exact T2_cong hfin (M_feed_fr _ _ _ _ _ _ 5 (by decide) (by decide)) (M_feed_fr _ _ _ _ _ _ 6 (by decide) (by decide)) rfl rfl
  · exact ⟨-1, μ, μ, by simp only [fB_feed, fLawReader_append]; rw [if_neg hv, Option.bind_some], by simp only [fM_feed]; rw [if_neg (by rw [hG.2.2.1]; exact hv)], hG⟩
