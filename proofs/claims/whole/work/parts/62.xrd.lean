/-! E: the class reads as the functions of a text say -/
def CS (T : Nat → Int32) (e : Nat) (μ : am_Mu) (s : PS) : Prop := μ 5 3 = nI e ∧ μ 5 4 = nI s.1 ∧ μ 5 5 = 0 ∧ μ 5 6 = nI s.2.1 ∧ μ 7 6 = nI s.2.2.length ∧ RowIs (μ 11) s.2.2 ∧ ∀ j, j < e → μ 6 j = T j
def CF (μ : am_Mu) (x : Nat × Nat) : Prop := μ 5 5 = nI x.1 ∧ ¬ μ 5 5 = 0 ∧ μ 5 4 = nI x.2 ∧ 0 ≤ μ 7 6 ∧ μ 7 6 ≤ 240
def RR (T : Nat → Int32) (e : Nat) (r : PR) (μ : am_Mu) : Prop := match r with
  | .ok s => CS T e μ s
  | .error x => CF μ x
def Fit (e : Nat) (s : PS) : Prop := s.1 ≤ e ∧ s.2.2.length ≤ s.1 ∧ s.2.1 ≤ 80
def RZ (T : Nat → Int32) (e : Nat) (F : am_Mu → Option am_Mu) (f : PS → PR) : Prop := ∀ μ s, CS T e μ s → Fit e s → ∃ μ', F μ = some μ' ∧ RR T e (f s) μ'
def PFF (F : am_Mu → Option am_Mu) : Prop := ∀ μ x, CF μ x → ∃ μ', F μ = some μ' ∧ CF μ' x
theorem x_sign {T : Nat → Int32} {e : Nat} (he : e ≤ 240) {μ : am_Mu} {s : PS} (h : CS T e μ s) (hp : s.1 ≤ 1000) : fLawReader_sign μ = some (sgT T e s.1, μ) := by
  obtain ⟨h1, h2, h3, h4, h5, h6, h7⟩ := h
  unfold fLawReader_sign fLawReader_sign_49 sgT
  rw [if_neg (by rw [h3]; decide), h2, h1, if_neg (Int32.not_lt.mpr (nI_pos' (by omega)))]
  by_cases hpe : s.1 < e
  · rw [if_neg (by rw [nI_le_iff (by omega) (by omega)]; omega), if_neg (by show ¬ nI 240 ≤ _; rw [nI_le_iff (by omega) (by omega)]; omega), inb_n (by omega) (by omega), cond_true, nI_clamp (by omega), if_pos hpe, h7 _ hpe]
  · rw [if_pos ((nI_le_iff (by omega) (by omega)).mpr (by omega)), if_neg hpe]
theorem x_signF {μ : am_Mu} {x : Nat × Nat} (h : CF μ x) : fLawReader_sign μ = some (-1, μ) := by
  unfold fLawReader_sign fLawReader_sign_49
  rw [if_pos h.2.1]
theorem x_goes {T : Nat → Int32} {e : Nat} (he : e ≤ 240) {μ : am_Mu} {s : PS} (h : CS T e μ s) (hp : s.1 ≤ 1000) (c : Int32) : fLawReader_goesOn c μ = some (b2i (sgT T e s.1 = c), μ) := by
  unfold fLawReader_goesOn
  rw [x_sign he h hp, Option.bind_some]
  dsimp only
  by_cases hc : sgT T e s.1 = c
  · rw [if_neg (by simpa using hc), b2i_t hc]
  · rw [if_pos hc, b2i_f hc]
theorem x_goesF {μ : am_Mu} {x : Nat × Nat} (h : CF μ x) {c : Int32} (hc : ¬ c = -1) : fLawReader_goesOn c μ = some (0, μ) := by
  unfold fLawReader_goesOn
  rw [x_signF h, Option.bind_some]
  dsimp only
  rw [if_pos (fun h => hc h.symm)]
theorem x_fail {T : Nat → Int32} {e : Nat} {μ : am_Mu} {s : PS} (h : CS T e μ s) (hl : s.2.2.length ≤ 240) (f : Nat) (hf : 0 < f ∧ f < 7) : ∃ μ', fLawReader_fail (nI f) μ = some μ' ∧ CF μ' (f, s.1) := by
  obtain ⟨h1, h2, h3, h4, h5, h6, h7⟩ := h
  refine ⟨am_up μ 5 5 (nI f), ?_, ?_⟩
  · unfold fLawReader_fail
    rw [if_neg (by rw [h3]; decide)]
  · refine ⟨by simp [upa], ?_, by simp [upa, h2], ?_, ?_⟩
    · simp only [upa]
      rw [if_pos ⟨trivial, trivial⟩, show (0 : Int32) = nI 0 from rfl, nI_inj (by omega) (by omega)]
      omega
    · simp only [upa]
      rw [if_neg (by decide), h5]
      exact nI_pos' (by omega)
    · simp only [upa]
      rw [if_neg (by decide), h5]
      exact (nI_le_iff (b := 240) (by omega) (by omega)).mpr hl
theorem x_failF {μ : am_Mu} {x : Nat × Nat} (h : CF μ x) (f : Int32) : fLawReader_fail f μ = some μ := by
  unfold fLawReader_fail
  rw [if_pos h.2.1]
theorem x_step {T : Nat → Int32} {e : Nat} {μ : am_Mu} {s : PS} (h : CS T e μ s) (hl : s.2.2.length < 240) (a b c : Int32) : ∃ μ', fLaw_addStep 7 a b c μ = some μ' ∧ CS T e μ' (s.1, s.2.1, s.2.2 ++ [stC a b c]) := by
  obtain ⟨h1, h2, h3, h4, h5, h6, h7⟩ := h
  refine ⟨am_up (am_up μ 11 s.2.2.length (stC a b c)) 7 6 (nI (s.2.2.length + 1)), ?_, ?_⟩
  · unfold fLaw_addStep
    rw [show am_isLaw 7 = true from rfl, cond_true, h5, if_neg (by show ¬ nI 240 ≤ _; rw [nI_le_iff (by omega) (by omega)]; omega), inb_n hl (by omega), cond_true, nI_clamp (by omega), up_row (by decide), h5, show nI s.2.2.length + 1 = nI (s.2.2.length + 1) from nI_plus _ 1]
    rfl
  · refine ⟨by simp [upa, h1], by simp [upa, h2], by simp [upa, h3], by simp [upa, h4], ?_, ?_, fun j hj => by simp [upa, h7 j hj]⟩
    · show _ = nI (s.2.2 ++ [stC a b c]).length
      rw [up_eq, List.length_append, List.length_singleton]
    · refine RowIs.app h6 ?_
      intro j
      rw [up_row (by decide), up_at]
theorem x_stepF {μ : am_Mu} {x : Nat × Nat} (h : CF μ x) (a b c : Int32) : ∃ μ', fLaw_addStep 7 a b c μ = some μ' ∧ CF μ' x := by
  obtain ⟨h1, h2, h3, h4, h5⟩ := h
  by_cases hc : (240 : Int32) ≤ μ 7 6
  · refine ⟨μ, ?_, h1, h2, h3, h4, h5⟩
    unfold fLaw_addStep
    rw [show am_isLaw 7 = true from rfl, cond_true, if_pos hc]
  · have hlt : μ 7 6 < 240 := Int32.not_le.mp hc
    refine ⟨am_up (am_up μ 11 (μ 7 6).toNatClampNeg (stC a b c)) 7 6 (μ 7 6 + 1), ?_, ?_⟩
    · unfold fLaw_addStep
      rw [show am_isLaw 7 = true from rfl, cond_true, if_neg hc, inb_t (n := 240) h4 (nt_lt (b := 240) h4 hlt), cond_true, up_row (a := 7) (by decide)]
      rfl
    · refine ⟨by simp [upa, h1], by simpa [upa] using h2, by simp [upa, h3], ?_, ?_⟩
      · rw [up_eq]; grind
      · rw [up_eq]; grind
theorem CS.next {T : Nat → Int32} {e : Nat} {μ : am_Mu} {s : PS} (h : CS T e μ s) : CS T e (am_up μ 5 4 (μ 5 4 + 1)) (s.1 + 1, s.2.1, s.2.2) := by
  obtain ⟨h1, h2, h3, h4, h5, h6, h7⟩ := h
  refine ⟨by simp [upa, h1], ?_, by simp [upa, h3], by simp [upa, h4], by simp [upa, h5], fun j hj => by simpa [upa] using h6 j hj, fun j hj => by simp [upa, h7 j hj]⟩
  show am_up μ 5 4 (μ 5 4 + 1) 5 4 = nI (s.1 + 1)
  rw [up_eq, h2]
  exact nI_plus _ 1
theorem x_mark {T : Nat → Int32} {e : Nat} (he : e ≤ 240) {μ : am_Mu} {s : PS} (h : CS T e μ s) (hp : s.1 ≤ 1000) (hl : s.2.2.length ≤ 240) : if mkT T e s.1 then ∃ μ', fLawReader_readMark μ = some (sgT T e s.1 - 97, μ') ∧ CS T e μ' (s.1 + 1, s.2.1, s.2.2) else ∃ μ', fLawReader_readMark μ = some (0, μ') ∧ CF μ' (1, s.1) := by
  unfold fLawReader_readMark
  rw [x_sign he h hp, Option.bind_some]
  dsimp only
  rw [l_isIn, Option.bind_some]
  by_cases hm : mkT T e s.1
  · rw [if_pos hm, b2i_t hm]
    exact ⟨_, rfl, h.next⟩
  · rw [if_neg hm, b2i_f hm]
    obtain ⟨μ', h1, h2⟩ := x_fail h hl 1 (by omega)
    refine ⟨μ', ?_, h2⟩
    dsimp only
    rw [if_neg (by decide), show (1 : Int32) = nI 1 from rfl, h1, Option.bind_some]
theorem x_markF {μ : am_Mu} {x : Nat × Nat} (h : CF μ x) : fLawReader_readMark μ = some (0, μ) := by
  unfold fLawReader_readMark
  rw [x_signF h, Option.bind_some]
  dsimp only
  rw [l_isIn, Option.bind_some, b2i_f (by decide)]
  dsimp only
  rw [if_neg (by decide), x_failF h, Option.bind_some]
def RRn (T : Nat → Int32) (e : Nat) (s : PS) (r : Except (Nat × Nat) (Int32 × Nat)) (q : Option (Int32 × am_Mu)) : Prop := match r with
  | .ok w => ∃ μ', q = some (w.1, μ') ∧ CS T e μ' (w.2, s.2.1, s.2.2)
  | .error x => ∃ v μ', q = some (v, μ') ∧ CF μ' x
theorem x_num {T : Nat → Int32} {e : Nat} (he : e ≤ 240) : ∀ q n μ (v : Int32) (s : PS), q ≤ 6 → q < n → CS T e μ s → s.1 ≤ e → s.2.2.length ≤ 240 → RRn T e s (sp_num T e q v s.1) (fLawReader_readNumber_4 n v (nI (6 - q)) μ) := by
  intro q
  induction q with
  | zero =>
    intro n μ v s hq hn h hp hl
    obtain ⟨n, rfl⟩ : ∃ k, n = k + 1 := ⟨n - 1, by omega⟩
    rw [fLawReader_readNumber_4, if_neg (by decide), x_sign he h (by omega), Option.bind_some]
    dsimp only
    rw [l_isIn, Option.bind_some]
    by_cases hd : dgT T e s.1
    · unfold sp_num
      rw [if_pos hd, b2i_t hd]
      dsimp only
      rw [if_pos (by decide), if_neg (by decide)]
      unfold fLawReader_readNumber_44
      obtain ⟨μ', h1, h2⟩ := x_fail h hl 2 (by omega)
      refine ⟨v, μ', ?_, h2⟩
      rw [show (2 : Int32) = nI 2 from rfl, h1, Option.bind_some]
    · unfold sp_num
      rw [if_neg hd, b2i_f hd]
      dsimp only
      rw [if_neg (by decide)]
      unfold fLawReader_readNumber_27
      rw [if_pos (by decide)]
      exact ⟨μ, rfl, h⟩
  | succ q ih =>
    intro n μ v s hq hn h hp hl
    obtain ⟨n, rfl⟩ : ∃ k, n = k + 1 := ⟨n - 1, by omega⟩
    rw [fLawReader_readNumber_4, if_neg (by show ¬ nI 6 < _; rw [nI_lt_iff (by omega) (by omega)]; omega), x_sign he h (by omega), Option.bind_some]
    dsimp only
    rw [l_isIn, Option.bind_some]
    by_cases hd : dgT T e s.1
    · unfold sp_num
      rw [if_pos hd, b2i_t hd]
      dsimp only
      rw [if_pos (by decide), if_pos (by show ¬ _ = nI 6; rw [nI_inj (by omega) (by omega)]; omega), show nI (6 - (q + 1)) + 1 = nI (6 - q) by rw [show (6 - q) = (6 - (q + 1)) + 1 by omega]; exact nI_plus _ 1]
      have := dg_lt hd
      exact ih n _ (v * 10 + (sgT T e s.1 - 48)) (s.1 + 1, s.2.1, s.2.2) (by omega) (by omega) h.next (by show s.1 + 1 ≤ e; omega) hl
    · unfold sp_num
      rw [if_neg hd, b2i_f hd]
      dsimp only
      rw [if_neg (show ¬ ¬ (0 : Int32) = 0 by decide)]
      unfold fLawReader_readNumber_27
      by_cases h5 : q = 5
      · rw [if_pos h5, h5, if_neg (by decide)]
        obtain ⟨μ', h1, h2⟩ := x_fail h hl 1 (by omega)
        refine ⟨v, μ', ?_, h2⟩
        rw [show (1 : Int32) = nI 1 from rfl, h1, Option.bind_some]
      · rw [if_neg h5, if_pos (by show ¬ _ = nI 0; rw [nI_inj (by omega) (by omega)]; omega)]
        exact ⟨μ, rfl, h⟩
theorem x_op69F {μ : am_Mu} {x : Nat × Nat} (h : CF μ x) (a b : Int32) : ∃ μ', fLawReader_readOperand_69 a b μ = some μ' ∧ CF μ' x := by
  obtain ⟨μ', h1, h2⟩ := x_stepF h 4 (a + b) 0
  refine ⟨μ', ?_, h2⟩
  unfold fLawReader_readOperand_69
  rw [x_goesF h (by decide), Option.bind_some]
  dsimp only
  rw [if_pos rfl, h1, Option.bind_some]
theorem x_op {T : Nat → Int32} {e : Nat} (he : e ≤ 240) {μ : am_Mu} {s : PS} (h : CS T e μ s) (hf : Fit e s) (hp : s.1 < e) : ∃ μ', fLawReader_readOperand (sgT T e s.1) μ = some μ' ∧ RR T e (sp_op T e s) μ' := by
  obtain ⟨f1, f2, f3⟩ := hf
  have hk := h.2.2.2.1
  unfold fLawReader_readOperand sp_op
  by_cases h80 : s.2.1 < 80
  · rw [if_pos h80, hk, if_pos (show nI s.2.1 < 80 from (nI_lt_iff (b := 80) (by omega) (by omega)).mpr h80)]
    have hN : CS T e (am_up (am_up μ 5 6 (nI s.2.1 + 1)) 5 4 (μ 5 4 + 1)) (s.1 + 1, s.2.1 + 1, s.2.2) := by
      obtain ⟨h1, h2, h3, h4, h5, h6, h7⟩ := h
      refine ⟨by simp [upa, h1], ?_, by simp [upa, h3], ?_, by simp [upa, h5], fun j hj => by simpa [upa] using h6 j hj, fun j hj => by simp [upa, h7 j hj]⟩
      · rw [up_eq, h2]
        exact nI_plus _ 1
      · rw [up_ne (by decide), up_eq]
        exact nI_plus _ 1
    generalize am_up (am_up μ 5 6 (nI s.2.1 + 1)) 5 4 (μ 5 4 + 1) = ν at hN
    by_cases h49 : sgT T e s.1 = 49
    · rw [if_pos h49, if_neg (by simpa using h49)]
      obtain ⟨μ', g1, g2⟩ := x_step hN (by show s.2.2.length < 240; omega) 0 0 0
      refine ⟨μ', ?_, g2⟩
      rw [g1, Option.bind_some]
    · rw [if_neg h49, if_pos h49]
      have hm := x_mark he hN (by show s.1 + 1 ≤ 1000; omega) (by show s.2.2.length ≤ 240; omega)
      by_cases hmk : mkT T e (s.1 + 1)
      · rw [if_pos hmk] at hm ⊢
        obtain ⟨ν', m1, m2⟩ := hm
        rw [m1, Option.bind_some]
        dsimp only
        have key : ∃ μ', fLawReader_readOperand_69 (sgT T e (s.1 + 1) - 97) (if sgT T e s.1 = 121 then 8 else 0) ν' = some μ' ∧ RR T e (if sgT T e (s.1 + 2) = 60 then (match sp_num T e 6 0 (s.1 + 3) with
        | .error x => .error x
        | .ok w => .ok (w.2, s.2.1 + 1, s.2.2 ++ [stC 5 (sp_opl T e s.1) w.1])) else .ok (s.1 + 2, s.2.1 + 1, s.2.2 ++ [stC 4 (sp_opl T e s.1) 0])) μ' := by
          have hmk' := mk_lt hmk
          unfold fLawReader_readOperand_69
          rw [x_goes he m2 (by show s.1 + 1 + 1 ≤ 1000; omega), Option.bind_some]
          dsimp only
          by_cases h60 : sgT T e (s.1 + 2) = 60
          · rw [if_pos h60, b2i_t h60, if_neg (by decide)]
            have hs2 := sg_lt h60 (by decide)
            have hnum := x_num he 6 am_F _ 0 (s.1 + 1 + 1 + 1, s.2.1 + 1, s.2.2) (by omega) (by unfold am_F; omega) m2.next (by show s.1 + 1 + 1 + 1 ≤ e; omega) (by show s.2.2.length ≤ 240; omega)
            change RRn T e _ (sp_num T e 6 0 (s.1 + 3)) (fLawReader_readNumber (am_up ν' 5 4 (ν' 5 4 + 1))) at hnum
            cases hq : sp_num T e 6 0 (s.1 + 3) with
            | error x =>
              rw [hq] at hnum
              obtain ⟨v, μ2, n1, n2⟩ := hnum
              obtain ⟨μ3, o1, o2⟩ := x_stepF n2 5 ((sgT T e (s.1 + 1) - 97) + (if sgT T e s.1 = 121 then 8 else 0)) v
              refine ⟨μ3, ?_, o2⟩
              rw [n1, Option.bind_some]
              dsimp only
              rw [o1, Option.bind_some]
            | ok w =>
              rw [hq] at hnum
              obtain ⟨μ2, n1, n2⟩ := hnum
              obtain ⟨μ3, o1, o2⟩ := x_step n2 (by show s.2.2.length < 240; omega) 5 ((sgT T e (s.1 + 1) - 97) + (if sgT T e s.1 = 121 then 8 else 0)) w.1
              refine ⟨μ3, ?_, o2⟩
              rw [n1, Option.bind_some]
              dsimp only
              rw [o1, Option.bind_some]
          · rw [if_neg h60, b2i_f h60, if_pos rfl]
            obtain ⟨μ3, o1, o2⟩ := x_step m2 (by show s.2.2.length < 240; omega) 4 ((sgT T e (s.1 + 1) - 97) + (if sgT T e s.1 = 121 then 8 else 0)) 0
            refine ⟨μ3, ?_, o2⟩
            rw [o1, Option.bind_some]
        by_cases h121 : sgT T e s.1 = 121
        · rw [if_neg (by simpa using h121)]
          rw [if_pos h121] at key
          exact key
        · rw [if_pos h121]
          rw [if_neg h121] at key
          exact key
      · rw [if_neg hmk] at hm ⊢
        obtain ⟨ν', m1, m2⟩ := hm
        rw [m1, Option.bind_some]
        dsimp only
        by_cases h121 : sgT T e s.1 = 121
        · rw [if_neg (by simpa using h121)]
          exact x_op69F m2 _ _
        · rw [if_pos h121]
          exact x_op69F m2 _ _
  · rw [if_neg h80, hk, if_neg (by show ¬ _ < nI 80; rw [nI_lt_iff (by omega) (by omega)]; exact h80)]
    obtain ⟨μ', g1, g2⟩ := x_fail h (by omega) 6 (by omega)
    refine ⟨μ', ?_, g2⟩
    rw [show (6 : Int32) = nI 6 from rfl, g1, Option.bind_some]
theorem x_loopPF {kp : Int32 → am_Mu → Option am_Mu} {a1 a2 : Int32} {n : Nat} {μ : am_Mu} {x : Nat × Nat} (h : CF μ x) : fLawReader_readPart_7 (n + 1) kp a1 a2 μ = some μ := by
  rw [fLawReader_readPart_7]
  by_cases h2 : (240 : Int32) ≤ a2
  · rw [if_pos h2]
  · rw [if_neg h2, x_goesF h (by decide), Option.bind_some]
    dsimp only
    rw [if_pos rfl]
theorem x_loopP {T : Nat → Int32} {e : Nat} (he : e ≤ 240) {kp : Int32 → am_Mu → Option am_Mu} {f : PS → PR} {a1 : Int32} (hr : RZ T e (kp a1) f) (ho : FOK e f) : ∀ m n μ s, m < n → m ≤ 240 → CS T e μ s → Fit e s → ∃ μ', fLawReader_readPart_7 n kp a1 (nI (240 - m)) μ = some μ' ∧ RR T e (sp_loop T e 38 (stC 2 0 0) f m s) μ' := by
  intro m
  induction m with
  | zero =>
    intro n μ s hn hm h hf
    obtain ⟨n, rfl⟩ : ∃ k, n = k + 1 := ⟨n - 1, by omega⟩
    refine ⟨μ, ?_, h⟩
    rw [fLawReader_readPart_7, if_pos (by decide)]
  | succ m ih =>
    intro n μ s hn hm h hf
    obtain ⟨n, rfl⟩ : ∃ k, n = k + 1 := ⟨n - 1, by omega⟩
    obtain ⟨f1, f2, f3⟩ := hf
    unfold sp_loop
    rw [fLawReader_readPart_7, if_neg (by show ¬ nI 240 ≤ _; rw [nI_le_iff (by omega) (by omega)]; omega), x_goes he h (by omega), Option.bind_some]
    dsimp only
    by_cases hc : sgT T e s.1 = 38
    · rw [if_pos hc, b2i_t hc, if_neg (by decide)]
      have hlt := sg_lt hc (by decide)
      obtain ⟨μ1, r1, r2⟩ := hr _ _ h.next ⟨by show s.1 + 1 ≤ e; omega, by show s.2.2.length ≤ s.1 + 1; omega, f3⟩
      rw [r1, Option.bind_some]
      cases hq : f (s.1 + 1, s.2.1, s.2.2) with
      | error x =>
        rw [hq] at r2
        obtain ⟨μ2, o1, o2⟩ := x_stepF r2 2 0 0
        rw [o1, Option.bind_some]
        obtain ⟨n, rfl⟩ : ∃ k, n = k + 1 := ⟨n - 1, by omega⟩
        exact ⟨μ2, x_loopPF o2, o2⟩
      | ok r =>
        rw [hq] at r2
        obtain ⟨⟨p1, p2, p3, p4, -⟩, -⟩ := ho (s.1 + 1, s.2.1, s.2.2) r f3 hq
        have p3' : r.2.2.length + (s.1 + 1) ≤ r.1 + s.2.2.length := p3
        obtain ⟨μ2, o1, o2⟩ := x_step r2 (by omega) 2 0 0
        rw [o1, Option.bind_some, show nI (240 - (m + 1)) + 1 = nI (240 - m) by rw [show (240 - m) = (240 - (m + 1)) + 1 by omega]; exact nI_plus _ 1]
        refine ih n μ2 (r.1, r.2.1, r.2.2 ++ [stC 2 0 0]) (by omega) (by omega) o2 ⟨p2, ?_, p4⟩
        show (r.2.2 ++ [stC 2 0 0]).length ≤ r.1
        rw [List.length_append, List.length_singleton]
        omega
    · rw [if_neg hc, b2i_f hc, if_pos rfl]
      exact ⟨μ, rfl, h⟩
theorem x_loopCF {kp : Int32 → am_Mu → Option am_Mu} {a1 a2 : Int32} {n : Nat} {μ : am_Mu} {x : Nat × Nat} (h : CF μ x) : fLawReader_readCondition_7 (n + 1) kp a1 a2 μ = some μ := by
  rw [fLawReader_readCondition_7]
  by_cases h2 : (240 : Int32) ≤ a2
  · rw [if_pos h2]
  · rw [if_neg h2, x_goesF h (by decide), Option.bind_some]
    dsimp only
    rw [if_pos rfl]
theorem x_loopC {T : Nat → Int32} {e : Nat} (he : e ≤ 240) {kp : Int32 → am_Mu → Option am_Mu} {f : PS → PR} {a1 : Int32} (hr : RZ T e (kp a1) f) (ho : FOK e f) : ∀ m n μ s, m < n → m ≤ 240 → CS T e μ s → Fit e s → ∃ μ', fLawReader_readCondition_7 n kp a1 (nI (240 - m)) μ = some μ' ∧ RR T e (sp_loop T e 124 (stC 3 0 0) f m s) μ' := by
  intro m
  induction m with
  | zero =>
    intro n μ s hn hm h hf
    obtain ⟨n, rfl⟩ : ∃ k, n = k + 1 := ⟨n - 1, by omega⟩
    refine ⟨μ, ?_, h⟩
    rw [fLawReader_readCondition_7, if_pos (by decide)]
  | succ m ih =>
    intro n μ s hn hm h hf
    obtain ⟨n, rfl⟩ : ∃ k, n = k + 1 := ⟨n - 1, by omega⟩
    obtain ⟨f1, f2, f3⟩ := hf
    unfold sp_loop
    rw [fLawReader_readCondition_7, if_neg (by show ¬ nI 240 ≤ _; rw [nI_le_iff (by omega) (by omega)]; omega), x_goes he h (by omega), Option.bind_some]
    dsimp only
    by_cases hc : sgT T e s.1 = 124
    · rw [if_pos hc, b2i_t hc, if_neg (by decide)]
      have hlt := sg_lt hc (by decide)
      obtain ⟨μ1, r1, r2⟩ := hr _ _ h.next ⟨by show s.1 + 1 ≤ e; omega, by show s.2.2.length ≤ s.1 + 1; omega, f3⟩
      rw [r1, Option.bind_some]
      cases hq : f (s.1 + 1, s.2.1, s.2.2) with
      | error x =>
        rw [hq] at r2
        obtain ⟨μ2, o1, o2⟩ := x_stepF r2 3 0 0
        rw [o1, Option.bind_some]
        obtain ⟨n, rfl⟩ : ∃ k, n = k + 1 := ⟨n - 1, by omega⟩
        exact ⟨μ2, x_loopCF o2, o2⟩
      | ok r =>
        rw [hq] at r2
        obtain ⟨⟨p1, p2, p3, p4, -⟩, -⟩ := ho (s.1 + 1, s.2.1, s.2.2) r f3 hq
        have p3' : r.2.2.length + (s.1 + 1) ≤ r.1 + s.2.2.length := p3
        obtain ⟨μ2, o1, o2⟩ := x_step r2 (by omega) 3 0 0
        rw [o1, Option.bind_some, show nI (240 - (m + 1)) + 1 = nI (240 - m) by rw [show (240 - m) = (240 - (m + 1)) + 1 by omega]; exact nI_plus _ 1]
        refine ih n μ2 (r.1, r.2.1, r.2.2 ++ [stC 3 0 0]) (by omega) (by omega) o2 ⟨p2, ?_, p4⟩
        show (r.2.2 ++ [stC 3 0 0]).length ≤ r.1
        rw [List.length_append, List.length_singleton]
        omega
    · rw [if_neg hc, b2i_f hc, if_pos rfl]
      exact ⟨μ, rfl, h⟩
theorem Fit.of {e i j : Nat} {s s' : PS} (h : POK e i j s s') (f : Fit e s) : Fit e s' := by
  obtain ⟨h1, h2, h3, h4, -⟩ := h
  obtain ⟨f1, f2, f3⟩ := f
  exact ⟨h2, by omega, h4⟩
theorem x_part {T : Nat → Int32} {e : Nat} (he : e ≤ 240) {kp : Int32 → am_Mu → Option am_Mu} {f : PS → PR} {a1 : Int32} (hr : RZ T e (kp a1) f) (ho : FOK e f) : RZ T e (fLawReader_readPart kp a1) (sp_part T e f) := by
  intro μ s h hf
  unfold fLawReader_readPart sp_part PR_bind
  obtain ⟨μ1, r1, r2⟩ := hr μ s h hf
  rw [r1, Option.bind_some]
  cases hq : f s with
  | error x =>
    rw [hq] at r2
    exact ⟨μ1, x_loopPF (n := 99999) r2, r2⟩
  | ok r =>
    rw [hq] at r2
    exact x_loopP he hr ho 240 am_F μ1 r (by unfold am_F; omega) (by omega) r2 (Fit.of (ho s r hf.2.2 hq).1 hf)
theorem x_partF {kp : Int32 → am_Mu → Option am_Mu} {a1 : Int32} (hr : PFF (kp a1)) : PFF (fLawReader_readPart kp a1) := by
  intro μ x h
  obtain ⟨μ1, r1, r2⟩ := hr μ x h
  refine ⟨μ1, ?_, r2⟩
  unfold fLawReader_readPart
  rw [r1, Option.bind_some]
  exact x_loopPF (n := 99999) r2
theorem x_condf {T : Nat → Int32} {e : Nat} (he : e ≤ 240) {kp : Int32 → am_Mu → Option am_Mu} {f : PS → PR} {a1 : Int32} (hr : RZ T e (kp a1) f) (ho : FOK e f) : RZ T e (fLawReader_readCondition (fLawReader_readPart kp) a1) (sp_condf T e f) := by
  intro μ s h hf
  unfold fLawReader_readCondition sp_condf PR_bind
  obtain ⟨μ1, r1, r2⟩ := x_part he hr ho μ s h hf
  rw [r1, Option.bind_some]
  cases hq : sp_part T e f s with
  | error x =>
    rw [hq] at r2
    exact ⟨μ1, x_loopCF (n := 99999) r2, r2⟩
  | ok r =>
    rw [hq] at r2
    exact x_loopC he (x_part he hr ho) (fun s s' hk h => (part_ok he ho s s' hk h).1) 240 am_F μ1 r (by unfold am_F; omega) (by omega) r2 (Fit.of (part_ok he ho s r hf.2.2 hq).1.1 hf)
theorem x_condfF {kp : Int32 → am_Mu → Option am_Mu} {a1 : Int32} (hr : PFF (kp a1)) : PFF (fLawReader_readCondition (fLawReader_readPart kp) a1) := by
  intro μ x h
  obtain ⟨μ1, r1, r2⟩ := x_partF hr μ x h
  refine ⟨μ1, ?_, r2⟩
  unfold fLawReader_readCondition
  rw [r1, Option.bind_some]
  exact x_loopCF (n := 99999) r2
theorem x_expect {T : Nat → Int32} {e : Nat} (he : e ≤ 240) {μ : am_Mu} {s : PS} (h : CS T e μ s) (hp : s.1 ≤ 1000) (hl : s.2.2.length ≤ 240) (c : Int32) : ∃ μ', fLawReader_expect c μ = some μ' ∧ RR T e (sp_expect T e c s) μ' := by
  unfold fLawReader_expect sp_expect
  rw [x_goes he h hp, Option.bind_some]
  dsimp only
  by_cases hc : sgT T e s.1 = c
  · rw [if_pos hc, b2i_t hc, if_neg (by decide)]
    exact ⟨_, rfl, h.next⟩
  · rw [if_neg hc, b2i_f hc, if_pos rfl]
    obtain ⟨μ', g1, g2⟩ := x_fail h hl 1 (by omega)
    refine ⟨μ', ?_, g2⟩
    rw [show (1 : Int32) = nI 1 from rfl, g1, Option.bind_some]
theorem x_expectF {μ : am_Mu} {x : Nat × Nat} (h : CF μ x) {c : Int32} (hc : ¬ c = -1) : fLawReader_expect c μ = some μ := by
  unfold fLawReader_expect
  rw [x_goesF h hc, Option.bind_some]
  dsimp only
  rw [if_pos rfl, x_failF h, Option.bind_some]
/-- the steps NOT behind a piece -/
theorem x_nots {T : Nat → Int32} {e : Nat} {kc : Int32 → am_Mu → Option am_Mu} (b : Nat) (hb : b ≤ 8) : ∀ j n μ s, j ≤ b → j < n → CS T e μ s → s.2.2.length + j ≤ 240 → ∃ μ', fLawReader_readPiece_144 n kc (nI b) (nI (b - j)) μ = some μ' ∧ CS T e μ' (s.1, s.2.1, s.2.2 ++ List.replicate j (stC 1 0 0)) := by
  intro j
  induction j with
  | zero =>
    intro n μ s hj hn h hl
    obtain ⟨n, rfl⟩ : ∃ k, n = k + 1 := ⟨n - 1, by omega⟩
    refine ⟨μ, ?_, by simpa using h⟩
    rw [fLawReader_readPiece_144, if_pos ((nI_le_iff (by omega) (by omega)).mpr (by omega))]
  | succ j ih =>
    intro n μ s hj hn h hl
    obtain ⟨n, rfl⟩ : ∃ k, n = k + 1 := ⟨n - 1, by omega⟩
    obtain ⟨μ1, o1, o2⟩ := x_step h (by omega) 1 0 0
    obtain ⟨μ2, p1, p2⟩ := ih n μ1 (s.1, s.2.1, s.2.2 ++ [stC 1 0 0]) (by omega) (by omega) o2 (by show (s.2.2 ++ [stC 1 0 0]).length + j ≤ 240; rw [List.length_append, List.length_singleton]; omega)
    refine ⟨μ2, ?_, ?_⟩
    · rw [fLawReader_readPiece_144, if_neg (by rw [nI_le_iff (by omega) (by omega)]; omega), o1, Option.bind_some, show nI (b - (j + 1)) + 1 = nI (b - j) by rw [show b - j = (b - (j + 1)) + 1 by omega]; exact nI_plus _ 1]
      exact p1
    · have e1 : s.2.2 ++ List.replicate (j + 1) (stC 1 0 0) = (s.2.2 ++ [stC 1 0 0]) ++ List.replicate j (stC 1 0 0) := by
        rw [List.replicate_succ, List.append_assoc]
        rfl
      rw [e1]
      exact p2
theorem x_notsF {kc : Int32 → am_Mu → Option am_Mu} (b : Nat) (hb : b ≤ 17) : ∀ j n μ x, j ≤ b → j < n → CF μ x → ∃ μ', fLawReader_readPiece_144 n kc (nI b) (nI (b - j)) μ = some μ' ∧ CF μ' x := by
  intro j
  induction j with
  | zero =>
    intro n μ x hj hn h
    obtain ⟨n, rfl⟩ : ∃ k, n = k + 1 := ⟨n - 1, by omega⟩
    refine ⟨μ, ?_, h⟩
    rw [fLawReader_readPiece_144, if_pos ((nI_le_iff (by omega) (by omega)).mpr (by omega))]
  | succ j ih =>
    intro n μ x hj hn h
    obtain ⟨n, rfl⟩ : ∃ k, n = k + 1 := ⟨n - 1, by omega⟩
    obtain ⟨μ1, o1, o2⟩ := x_stepF h 1 0 0
    obtain ⟨μ2, p1, p2⟩ := ih n μ1 x (by omega) (by omega) o2
    refine ⟨μ2, ?_, p2⟩
    rw [fLawReader_readPiece_144, if_neg (by rw [nI_le_iff (by omega) (by omega)]; omega), o1, Option.bind_some, show nI (b - (j + 1)) + 1 = nI (b - j) by rw [show b - j = (b - (j + 1)) + 1 by omega]; exact nI_plus _ 1]
    exact p1
theorem x_pieceG {kc : Int32 → am_Mu → Option am_Mu} {μ : am_Mu} {x : Nat × Nat} (h : CF μ x) {o b : Nat} (hb : b ≤ 8) (ho : o ≤ b) : ∃ μ', fLawReader_readPiece_46 kc (nI o) (nI b) μ = some μ' ∧ CF μ' x := by
  obtain ⟨μ1, o1, o2⟩ := x_notsF (kc := kc) b (by omega) (b - o) am_F μ x (by omega) (by unfold am_F; omega) h
  rw [show b - (b - o) = o by omega] at o1
  refine ⟨μ1, ?_, o2⟩
  unfold fLawReader_readPiece_46
  rw [x_signF h, Option.bind_some]
  dsimp only
  rw [if_neg (by decide), if_neg (by decide), if_neg (by decide), if_neg (by decide), x_failF h, Option.bind_some]
  unfold fLawReader_readPiece_142
  exact o1
theorem x_pieceF (n o : Nat) (ho : o ≤ 8) : PFF (fLR_piece (n + 1) (nI o)) := by
  intro μ x h
  obtain ⟨μ1, o1, o2⟩ := x_pieceG (kc := fLawReader_readCondition (fLawReader_readPart (fLR_piece n))) h (o := o) ho (Nat.le_refl o)
  refine ⟨μ1, ?_, o2⟩
  rw [fLR_piece]
  unfold fLawReader_readPiece
  rw [show am_F = 99999 + 1 from rfl, fLawReader_readPiece_4, if_neg (by decide), x_goesF h (by decide), Option.bind_some]
  dsimp only
  rw [if_pos rfl]
  exact o1
/-- what is read, and j steps NOT behind it -/
def sp_nots (j : Nat) (r : PR) : PR := match r with
  | .error x => .error x
  | .ok r => .ok (r.1, r.2.1, r.2.2 ++ List.replicate j (stC 1 0 0))
theorem sp_nots_s (j : Nat) (r : PR) : sp_nots j (PR_bind r (fun r => .ok (r.1, r.2.1, r.2.2 ++ [stC 1 0 0]))) = sp_nots (j + 1) r := by
  cases r with
  | error x => rfl
  | ok r =>
    show Except.ok (r.1, r.2.1, (r.2.2 ++ [stC 1 0 0]) ++ List.replicate j (stC 1 0 0)) = Except.ok (r.1, r.2.1, r.2.2 ++ List.replicate (j + 1) (stC 1 0 0))
    rw [List.replicate_succ, List.append_assoc]
    rfl
theorem x_may {o : Nat} (h8 : o ≤ 8) (μ : am_Mu) : fLawReader_mayOpen (nI o) μ = if o < 8 then some (1, μ) else ((fLawReader_fail 5 μ).bind fun q2 => some (0, q2)) := by
  unfold fLawReader_mayOpen
  by_cases ho : o < 8
  · rw [if_pos ho, if_pos (show nI o < 8 from (nI_lt_iff (b := 8) (by omega) (by omega)).mpr ho)]
  · rw [if_neg ho, if_neg (by show ¬ _ < nI 8; rw [nI_lt_iff (by omega) (by omega)]; exact ho)]
/-- behind the piece itself: the steps NOT -/
theorem x_tailN {T : Nat → Int32} {e : Nat} (he : e ≤ 240) {kc : Int32 → am_Mu → Option am_Mu} {o b : Nat} (hb : b ≤ 8) (ho : o ≤ b) {r : PR} {μ : am_Mu} (h : RR T e r μ) (hl : ∀ s, r = .ok s → s.2.2.length + (b - o) ≤ 240) : ∃ μ', fLawReader_readPiece_142 kc (nI o) (nI b) μ = some μ' ∧ RR T e (sp_nots (b - o) r) μ' := by
  unfold fLawReader_readPiece_142
  cases r with
  | error x =>
    obtain ⟨μ1, o1, o2⟩ := x_notsF (kc := kc) b (by omega) (b - o) am_F μ x (by omega) (by unfold am_F; omega) h
    rw [show b - (b - o) = o by omega] at o1
    exact ⟨μ1, o1, o2⟩
  | ok s =>
    obtain ⟨μ1, o1, o2⟩ := x_nots (kc := kc) b hb (b - o) am_F μ s (by omega) (by unfold am_F; omega) h (hl s rfl)
    rw [show b - (b - o) = o by omega] at o1
    exact ⟨μ1, o1, o2⟩
theorem x_piece46 {T : Nat → Int32} {e : Nat} (he : e ≤ 240) {kp : Int32 → am_Mu → Option am_Mu} {O o m : Nat} (h8 : o ≤ 8) (hO : O ≤ o) (h9 : m + o = 8) {μ : am_Mu} {s : PS} (h : CS T e μ s) (f1 : s.1 ≤ e) (f2 : s.2.2.length + (o - O) ≤ s.1) (f3 : s.2.1 ≤ 80) (h33 : ¬ sgT T e s.1 = 33) (ih : o < 8 → RZ T e (kp (nI (o + 1))) (sp_piece T e m (o + 1))) : ∃ μ', fLawReader_readPiece_46 (fLawReader_readCondition (fLawReader_readPart kp)) (nI O) (nI o) μ = some μ' ∧ RR T e (sp_nots (o - O) (sp_piece T e (m + 1) o s)) μ' := by
  have hf : Fit e s := ⟨f1, by omega, f3⟩
  have lenK : ∀ r, sp_piece T e (m + 1) o s = .ok r → r.2.2.length + (o - O) ≤ 240 := by
    intro r hr
    obtain ⟨⟨p1, p2, p3, -, -⟩, -⟩ := piece_ok he (m + 1) o s r f3 hr
    omega
  unfold fLawReader_readPiece_46
  rw [x_sign he h (by omega), Option.bind_some]
  dsimp only
  by_cases h40 : sgT T e s.1 = 40
  · have hlt := sg_lt h40 (by decide)
    rw [if_pos h40, x_may h8]
    by_cases ho : o < 8
    · rw [if_pos ho, Option.bind_some]
      dsimp only
      rw [if_neg (by decide), show nI o + 1 = nI (o + 1) from nI_plus o 1]
      obtain ⟨μ1, r1, r2⟩ := x_condf he (ih ho) (piece_ok he m (o + 1)) _ _ h.next ⟨by show s.1 + 1 ≤ e; omega, by show s.2.2.length ≤ s.1 + 1; omega, f3⟩
      rw [r1, Option.bind_some]
      have sp : sp_piece T e (m + 1) o s = PR_bind (sp_condf T e (sp_piece T e m (o + 1)) (s.1 + 1, s.2.1, s.2.2)) (sp_expect T e 41) := by
        rw [sp_piece, if_neg h33, if_pos h40, if_pos ho]
      cases hq : sp_condf T e (sp_piece T e m (o + 1)) (s.1 + 1, s.2.1, s.2.2) with
      | error x =>
        rw [hq] at r2 sp
        rw [x_expectF r2 (by decide), Option.bind_some, sp]
        exact x_tailN he h8 hO (r := .error x) r2 (fun s hs => by cases hs)
      | ok r =>
        rw [hq] at r2 sp
        obtain ⟨⟨⟨p1, p2, p3, p4, -⟩, -⟩, -⟩ := condf_ok he (piece_ok he m (o + 1)) (s.1 + 1, s.2.1, s.2.2) r f3 hq
        have p3' : r.2.2.length + (s.1 + 1) ≤ r.1 + s.2.2.length := p3
        obtain ⟨μ2, o1, o2⟩ := x_expect he r2 (by omega) (by omega) 41
        rw [o1, Option.bind_some]
        rw [sp] at lenK ⊢
        exact x_tailN he h8 hO o2 lenK
    · obtain ⟨μ5, k1, k2⟩ := x_fail h (by omega) 5 (by omega)
      change fLawReader_fail 5 μ = some μ5 at k1
      rw [if_neg ho, k1, Option.bind_some, Option.bind_some]
      dsimp only
      rw [if_pos rfl]
      have sp : sp_piece T e (m + 1) o s = .error (5, s.1) := by
        rw [sp_piece, if_neg h33, if_pos h40, if_neg ho]
      rw [sp]
      exact x_tailN he h8 hO (r := .error (5, s.1)) k2 (fun s hs => by cases hs)
  · rw [if_neg h40]
    have op : ∀ (hs : sgT T e s.1 = 49 ∨ sgT T e s.1 = 120 ∨ sgT T e s.1 = 121), ∃ μ', ((fLawReader_sign μ).bind fun q8 => ((fLawReader_readOperand q8.1 q8.2).bind fun q9 => fLawReader_readPiece_142 (fLawReader_readCondition (fLawReader_readPart kp)) (nI O) (nI o) q9)) = some μ' ∧ RR T e (sp_nots (o - O) (sp_piece T e (m + 1) o s)) μ' := by
      intro hs
      have hp : s.1 < e := by
        rcases hs with h | h | h
        · exact sg_lt h (by decide)
        · exact sg_lt h (by decide)
        · exact sg_lt h (by decide)
      have sp : sp_piece T e (m + 1) o s = sp_op T e s := by
        rw [sp_piece, if_neg h33, if_neg h40, if_pos hs]
      obtain ⟨μ', q1, q2⟩ := x_op he h hf hp
      rw [x_sign he h (by omega), Option.bind_some]
      dsimp only
      rw [q1, Option.bind_some]
      rw [sp] at lenK ⊢
      exact x_tailN he h8 hO q2 lenK
    by_cases h49 : sgT T e s.1 = 49
    · rw [if_pos h49]
      exact op (Or.inl h49)
    · rw [if_neg h49]
      by_cases h120 : sgT T e s.1 = 120
      · rw [if_pos h120]
        exact op (Or.inr (Or.inl h120))
      · rw [if_neg h120]
        by_cases h121 : sgT T e s.1 = 121
        · rw [if_pos h121]
          exact op (Or.inr (Or.inr h121))
        · rw [if_neg h121]
          obtain ⟨μ', g1, g2⟩ := x_fail h (by omega) 1 (by omega)
          change fLawReader_fail 1 μ = some μ' at g1
          rw [g1, Option.bind_some]
          have sp : sp_piece T e (m + 1) o s = .error (1, s.1) := by
            rw [sp_piece, if_neg h33, if_neg h40, if_neg (by rintro (h | h | h) <;> contradiction)]
          rw [sp]
          exact x_tailN he h8 hO (r := .error (1, s.1)) g2 (fun s hs => by cases hs)
theorem x_piece {T : Nat → Int32} {e : Nat} (he : e ≤ 240) : ∀ n m o, o ≤ 8 → m + o = 9 → m ≤ n → RZ T e (fLR_piece n (nI o)) (sp_piece T e m o) := by
  intro n
  induction n with
  | zero => intro m o h1 h2 h3; omega
  | succ n ih =>
    intro M O H8 H9 HM
    have key : ∀ m o q μ s, o ≤ 8 → O ≤ o → m + o = 8 → m < q → CS T e μ s → s.1 ≤ e → s.2.2.length + (o - O) ≤ s.1 → s.2.1 ≤ 80 → ∃ μ', fLawReader_readPiece_4 q (fLawReader_readCondition (fLawReader_readPart (fLR_piece n))) (nI O) (nI o) (nI (o - O)) μ = some μ' ∧ RR T e (sp_nots (o - O) (sp_piece T e (m + 1) o s)) μ' := by
      intro m
      induction m with
      | zero =>
        intro o q μ s h8 hO h9 hq h f1 f2 f3
        have ho : o = 8 := by omega
        obtain ⟨q, rfl⟩ : ∃ k, q = k + 1 := ⟨q - 1, by omega⟩
        rw [fLawReader_readPiece_4, if_neg (by show ¬ nI 8 < _; rw [nI_lt_iff (by omega) (by omega)]; omega), x_goes he h (by omega), Option.bind_some]
        dsimp only
        obtain ⟨μ5, k1, k2⟩ := x_fail h (by omega) 5 (by omega)
        change fLawReader_fail 5 μ = some μ5 at k1
        by_cases h33 : sgT T e s.1 = 33
        · rw [b2i_t h33, if_neg (by decide), x_may h8, if_neg (by omega), k1, Option.bind_some, Option.bind_some]
          dsimp only
          rw [if_pos rfl]
          obtain ⟨μ6, l1, l2⟩ := x_pieceG (kc := fLawReader_readCondition (fLawReader_readPart (fLR_piece n))) k2 (o := O) h8 hO
          refine ⟨μ6, l1, ?_⟩
          unfold sp_piece
          rw [if_pos h33, if_neg (by omega)]
          exact l2
        · rw [b2i_f h33, if_pos rfl]
          exact x_piece46 he h8 hO h9 h f1 f2 f3 h33 (fun h => absurd h (by omega))
      | succ m ihm =>
        intro o q μ s h8 hO h9 hq h f1 f2 f3
        obtain ⟨q, rfl⟩ : ∃ k, q = k + 1 := ⟨q - 1, by omega⟩
        rw [fLawReader_readPiece_4, if_neg (by show ¬ nI 8 < _; rw [nI_lt_iff (by omega) (by omega)]; omega), x_goes he h (by omega), Option.bind_some]
        dsimp only
        by_cases h33 : sgT T e s.1 = 33
        · have hlt := sg_lt h33 (by decide)
          rw [b2i_t h33, if_neg (by decide), x_may h8, if_pos (by omega), Option.bind_some]
          dsimp only
          rw [if_neg (by decide), show nI o + 1 = nI (o + 1) from nI_plus o 1, show nI (o - O) + 1 = nI ((o + 1) - O) by rw [show (o + 1) - O = (o - O) + 1 by omega]; exact nI_plus _ 1]
          obtain ⟨μ1, r1, r2⟩ := ihm (o + 1) q _ _ (by omega) (by omega) (by omega) (by omega) h.next (by show s.1 + 1 ≤ e; omega) (by show s.2.2.length + (o + 1 - O) ≤ s.1 + 1; omega) f3
          refine ⟨μ1, r1, ?_⟩
          rw [show o + 1 - O = (o - O) + 1 by omega, ← sp_nots_s] at r2
          unfold sp_piece
          rw [if_pos h33, if_pos (by omega)]
          exact r2
        · rw [b2i_f h33, if_pos rfl]
          exact x_piece46 he h8 hO h9 h f1 f2 f3 h33 (fun hlt => ih (m + 1) (o + 1) (by omega) (by omega) (by omega))
    intro μ s h hf
    obtain ⟨f1, f2, f3⟩ := id hf
    obtain ⟨M, rfl⟩ : ∃ k, M = k + 1 := ⟨M - 1, by omega⟩
    obtain ⟨μ1, r1, r2⟩ := key M O am_F μ s H8 (Nat.le_refl O) (by omega) (by unfold am_F; omega) h f1 (by omega) f3
    refine ⟨μ1, ?_, ?_⟩
    · rw [fLR_piece]
      unfold fLawReader_readPiece
      rw [Nat.sub_self] at r1
      exact r1
    · rw [Nat.sub_self] at r2
      cases hq : sp_piece T e (M + 1) O s with
      | error x =>
        rw [hq] at r2
        exact r2
      | ok r =>
        rw [hq] at r2
        have e1 : sp_nots 0 (Except.ok r) = Except.ok r := by
          show Except.ok (r.1, r.2.1, r.2.2 ++ []) = _
          rw [List.append_nil]
        rw [e1] at r2
        exact r2
/-- a condition -/
def sp_cond (T : Nat → Int32) (e : Nat) : PS → PR := sp_condf T e (sp_piece T e 9 0)
theorem cond_ok {T : Nat → Int32} {e : Nat} (he : e ≤ 240) : ∀ s s', s.2.1 ≤ 80 → sp_cond T e s = .ok s' → (POK e 0 1 s s' ∧ s.1 < s'.1) ∧ ¬ sgT T e s'.1 = 124 ∧ ¬ sgT T e s'.1 = 38 := condf_ok he (piece_ok he 9 0)
theorem x_cond {T : Nat → Int32} {e : Nat} (he : e ≤ 240) : RZ T e (fLR_cond 9 0) (sp_cond T e) := x_condf he (x_piece he 9 9 0 (by omega) (by omega) (by omega)) (piece_ok he 9 0)
theorem x_condF : PFF (fLR_cond 9 0) := x_condfF (x_pieceF 8 0 (by omega))
