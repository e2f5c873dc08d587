/-! E: law and rules -/
theorem tape_ok {T : Nat → Int32} {e : Nat} (he : e ≤ 240) {rs : List LR} (h : sp_tape T e = .ok rs) : LG rs := by
  unfold sp_tape at h
  split at h
  · cases h
    exact ⟨(fun r h => by cases h), by simp, by simp [flS], by simp [flE]⟩
  · obtain ⟨a, b, c, d⟩ := law_ok he 25 0 0 [] rs ⟨by omega, by simp [flS], by omega, by simp [flE]⟩ (fun r h => by cases h) (by simp) h
    exact ⟨a, c, b, d⟩
theorem CpF.lm {l l' : Nat} (hl : l' < 4) (hne : ¬ l' = l) {ν ν0 : am_Mu} (h : CpF l ν ν0) {rs : List LR} (g : LM l' ν0 rs) (hg : LG rs) : LM l' ν rs := by
  obtain ⟨h1, h2, h3, h4, h5⟩ := h
  exact g.cong hg (h2 l' hne) (fun a i q1 q2 q3 q4 => h3 a i q1 q2 (by omega)) (fun i q1 q2 => h4 i (by omega)) (fun a i q1 q2 q3 q4 => h5 a i q1 q2 (by omega))
/-- where the law of a school lies -/
def lwN (s : Nat) (b : Int32) : Nat := 2 * s + (if b = 0 then 0 else 1)
theorem x_lawOf {s : Nat} (hs : s < 2) (b : Int32) (μ : am_Mu) : fJudge_lawOf (nI s) b μ = some (LPl (lwN s b), μ) := by
  unfold fJudge_lawOf lwN
  have h01 : s = 0 ∨ s = 1 := by omega
  by_cases hb : b = 0
  · rw [if_pos hb, if_pos hb, if_pos hb]
    rcases h01 with rfl | rfl <;> rfl
  · rw [if_neg hb, if_neg hb, if_neg hb]
    rcases h01 with rfl | rfl <;> rfl
theorem LPl_is {l : Nat} (hl : l < 4) : (LPl l = 28 ∨ LPl l = 34 ∨ LPl l = 40 ∨ LPl l = 46) ∧ am_isLaw (LPl l) = true := by
  have : l = 0 ∨ l = 1 ∨ l = 2 ∨ l = 3 := by omega
  rcases this with rfl | rfl | rfl | rfl <;> decide
theorem m_law_ex {T : Nat → Int32} {e : Nat} (he : e ≤ 240) {s : Nat} (hs : s < 2) (b : Int32) {X : am_Mu} (h1 : nI e ≤ X 108 1) (hT : ∀ j, j < e → X 109 j &&& 255 = T j) : match sp_tape T e with
    | .ok rs => ∃ ν, fM_law (nI s) b (nI e) X = some (0, ν) ∧ LM (lwN s b) ν rs ∧ (∀ l' rs', l' < 4 → ¬ l' = lwN s b → LM l' X rs' → LG rs' → LM l' ν rs') ∧ ν 108 1 = 0
    | .error x => ∃ ν, fM_law (nI s) b (nI e) X = some (nI (1000 * x.1 + x.2), ν) ∧ ER x ∧ (∀ a, 114 ≤ a → a ≤ 122 → ν a = X a) ∧ ν 108 1 = 0 := by
  have hl : lwN s b < 4 := by unfold lwN; split <;> omega
  have st : fM_law (nI s) b (nI e) X = fM_law_67 am_F (nI s) b (if e = 0 then 0 else 1) (am_up (am_up (am_up (am_up (am_up (am_up (am_up X 108 1 0) 108 27 0) 108 28 (nI e)) 108 29 0) 108 30 0) 108 31 0) 108 32 0) := by
    unfold fM_law fM_law_65
    rw [l_isSchool, Option.bind_some, b2i_t ⟨nI_pos' (by omega), (nI_lt_iff (b := 2) (by omega) (by omega)).mpr hs⟩]
    dsimp only
    rw [if_neg (by decide), if_neg (Int32.not_lt.mpr (nI_pos' (by omega))), if_pos h1]
    by_cases h0 : e = 0
    · rw [if_pos h0, if_pos (by rw [h0]; decide)]
    · rw [if_neg h0, if_neg (by show ¬ _ ≤ nI 0; rw [nI_le_iff (by omega) (by omega)]; omega)]
  rw [st]
  generalize hβ : am_up (am_up (am_up (am_up (am_up (am_up (am_up X 108 1 0) 108 27 0) 108 28 (nI e)) 108 29 0) 108 30 0) 108 31 0) 108 32 0 = β
  have bo : ∀ a, ¬ a = 108 → β a = X a := by intro a ha; rw [← hβ, up_row ha, up_row ha, up_row ha, up_row ha, up_row ha, up_row ha, up_row ha]
  have b1 : β 108 1 = 0 := by rw [← hβ]; simp [upa]
  have b29 : β 108 29 = 0 := by rw [← hβ]; simp [upa]
  have b30 : β 108 30 = 0 := by rw [← hβ]; simp [upa]
  have b31 : β 108 31 = 0 := by rw [← hβ]; simp [upa]
  have hML : ML β [] := ⟨b30, fun r hr => absurd hr (by simp)⟩
  have fin : ∀ (ν1 : am_Mu) rs, MX ν1 rs → LG rs → (∀ a, 114 ≤ a → a ≤ 122 → ν1 a = X a) → ν1 108 1 = 0 → ∃ ν, fM_law_140 (nI s) b ν1 = some (0, ν) ∧ LM (lwN s b) ν rs ∧ (∀ l' rs', l' < 4 → ¬ l' = lwN s b → LM l' X rs' → LG rs' → LM l' ν rs') ∧ ν 108 1 = 0 := by
    intro ν1 rs hM hg hX h01
    have h2s : (2 : Int32) * nI s = nI (2 * s) := nI_mul 2 s
    have e140 : fM_law_140 (nI s) b ν1 = fM_law_164 (nI (2 * s)) (if b = 0 then 0 else 1) ν1 := by
      unfold fM_law_140
      rw [if_pos (by rw [hM.1]; decide), h2s]
      by_cases hb : b = 0
      · rw [if_pos hb, if_pos hb]
      · rw [if_neg hb, if_neg hb]
    obtain ⟨ν, c1, c2, c3⟩ := m_copy (l := lwN s b) hl hg.2.1 hg.2.2.1 hg.1 hM (s0 := nI (2 * s)) (s1 := if b = 0 then 0 else 1) (by
      unfold lwN
      by_cases hb : b = 0
      · rw [if_pos hb, if_pos hb]; exact nI_plus _ 0
      · rw [if_neg hb, if_neg hb]; exact nI_plus _ 1)
    refine ⟨ν, by rw [e140, c1], c2, ?_, by rw [c3.1 108 (by omega), h01]⟩
    intro l' rs' hl' hne hm hgs
    refine CpF.lm hl' hne c3 ?_ hgs
    refine hm.cong hgs (by rw [hX 114 (by omega) (by omega)]) (fun a i q1 q2 _ _ => by rw [hX a (by omega) (by omega)]) (fun i _ _ => by rw [hX 119 (by omega) (by omega)]) (fun a i q1 q2 _ _ => by rw [hX a (by omega) (by omega)])
  by_cases h0 : e = 0
  · have es : sp_tape T e = .ok [] := by unfold sp_tape; rw [if_pos h0]
    rw [es, if_pos h0]
    dsimp only
    rw [show am_F = 99999 + 1 from rfl, fM_law_67, if_pos rfl]
    exact fin β [] ⟨b29, by rw [b31]; rfl, fun i hi => absurd hi (by simp [flS]), hML⟩ (tape_ok he es) (fun a _ _ => bo a (by omega)) b1
  · rw [if_neg h0]
    have hR : RS1 T e β 0 0 (flS []) := ⟨by rw [← hβ]; simp [upa]; rfl, by rw [← hβ]; simp [upa], b29, by rw [b31]; rfl, by rw [← hβ]; simp [upa]; rfl, fun i hi => absurd hi (by simp [flS]), fun j hj => by rw [bo 109 (by decide)]; exact hT j hj⟩
    have hw := m_law67 he (show 1 ≤ e by omega) (a1 := nI s) (a2 := b) 25 am_F 0 0 [] β rfl (by simp) (by unfold am_F; omega) hR hML ⟨by omega, by simp [flS], by omega, by simp [flE]⟩ (fun r h => by cases h)
    have es : sp_tape T e = sp_law T e 25 0 0 [] := by unfold sp_tape; rw [if_neg h0]
    have hok := fun rs => tape_ok (T := T) he (rs := rs)
    rw [es] at hok ⊢
    cases hq : sp_law T e 25 0 0 [] with
    | error x =>
      rw [hq] at hw
      dsimp only at hw ⊢
      obtain ⟨ν, w1, w2, w3⟩ := hw
      refine ⟨ν, w1, w2, ?_, by rw [w3 108 1 rfl, b1]⟩
      intro a q1 q2
      have : a = 114 ∨ a = 115 ∨ a = 116 ∨ a = 117 ∨ a = 118 ∨ a = 119 ∨ a = 120 ∨ a = 121 ∨ a = 122 := by omega
      rw [← bo a (by omega)]
      funext j
      rcases this with rfl | rfl | rfl | rfl | rfl | rfl | rfl | rfl | rfl <;> exact w3 _ j rfl
    | ok rs =>
      rw [hq] at hw
      dsimp only at hw ⊢
      obtain ⟨ν, w1, w2, w3⟩ := hw
      rw [w1]
      refine fin ν rs w2 (hok rs hq) ?_ (by rw [w3 108 1 rfl, b1])
      intro a q1 q2
      have : a = 114 ∨ a = 115 ∨ a = 116 ∨ a = 117 ∨ a = 118 ∨ a = 119 ∨ a = 120 ∨ a = 121 ∨ a = 122 := by omega
      rw [← bo a (by omega)]
      funext j
      rcases this with rfl | rfl | rfl | rfl | rfl | rfl | rfl | rfl | rfl <;> exact w3 _ j rfl
theorem op_law (a b c : Int32) (μ : am_Mu) : Op (fB_law a b c) (fM_law a b c) (fun μ => G2 μ ∧ G3 μ) (fun μ => G2 μ ∧ G3 μ) μ := by
  rintro ⟨⟨t1, t2, t3, t4⟩, g3⟩
  by_cases hs : 0 ≤ a ∧ a < 2
  · by_cases hc : 0 ≤ c ∧ c ≤ μ 5 2
    · obtain ⟨s, rfl, hs2⟩ : ∃ s, a = nI s ∧ s < 2 := ⟨a.toNatClampNeg, (nI_nt hs.1).symm, nt_lt (b := 2) hs.1 hs.2⟩
      have hb52 : (μ 5 2).toNatClampNeg ≤ 240 := nt_le (b := 240) t1 t2
      have hce := nt_le hc.1 hc.2
      obtain ⟨e, rfl, he, hel⟩ : ∃ e, c = nI e ∧ e ≤ 240 ∧ e ≤ (μ 5 2).toNatClampNeg := ⟨c.toNatClampNeg, (nI_nt hc.1).symm, by omega, hce⟩
      have hl : lwN s b < 4 := by unfold lwN; split <;> omega
      obtain ⟨hLP, hLaw⟩ := LPl_is hl
      have xt := x_tape he (T := μ 6) (μ := μ) (fun _ _ => rfl)
      have st : fB_law (nI s) b (nI e) μ = ((fLawReader_readTape (nI e) μ).bind fun q5 => (if ¬ q5.1 = 0 then some (q5.1, q5.2) else ((fLaw_become (LPl (lwN s b)) 7 q5.2).bind fun q8 => some (q5.1, q8)))) := by
        unfold fB_law
        rw [l_isIn, Option.bind_some, b2i_t hs]
        dsimp only
        rw [if_neg (by decide), if_neg (Int32.not_lt.mpr hc.1), if_pos hc.2]
        congr 1
        funext q5
        rw [x_lawOf hs2, Option.bind_some]
        dsimp only
        rw [hLaw, cond_true]
      have toX : ∀ r X, fB_law (nI s) b (nI e) μ = some (r, X) → (nI e ≤ X 108 1 ∧ ∀ j, j < e → X 109 j &&& 255 = μ 6 j) ∧ (∀ l rs, l < 4 → LM l μ rs → LG rs → LM l X rs) := by
        intro r X h
        have fr : am_fr _ μ X := w_fB_law h
        refine ⟨⟨by rw [fr 108 1 rfl, t3]; exact hc.2, fun j hj => by rw [fr 109 j rfl]; exact (t4 j (by omega)).2.2⟩, ?_⟩
        intro l rs hl' hm hg
        refine hm.cong hg (fr 114 l rfl) ?_ (fun i _ _ => fr 119 i rfl) ?_
        · intro a i q1 q2 _ _
          have : a = 115 ∨ a = 116 ∨ a = 117 ∨ a = 118 := by omega
          rcases this with rfl | rfl | rfl | rfl <;> exact fr _ i rfl
        · intro a i q1 q2 _ _
          have : a = 120 ∨ a = 121 ∨ a = 122 := by omega
          rcases this with rfl | rfl | rfl <;> exact fr _ i rfl
      have toLX : ∀ l rs (X ν : am_Mu), l < 4 → LX (LPl l) X rs → fM_law (nI s) b (nI e) X = some (0, ν) ∨ (∃ r, fM_law (nI s) b (nI e) X = some (r, ν)) → LX (LPl l) ν rs := by
        intro l rs X ν hl' hx hor
        have : ∃ r, fM_law (nI s) b (nI e) X = some (r, ν) := by
          rcases hor with h | h
          · exact ⟨0, h⟩
          · exact h
        obtain ⟨r, h⟩ := this
        have fr : am_fr _ X ν := w_fM_law h
        have : l = 0 ∨ l = 1 ∨ l = 2 ∨ l = 3 := by omega
        rcases this with rfl | rfl | rfl | rfl
        · exact hx.cong (fr 28 5 rfl) (fun j => fr 29 j rfl) (fun j => fr 30 j rfl) (fun j => fr 31 j rfl) (fun j => fr 32 j rfl) (fun j => fr 33 j rfl)
        · exact hx.cong (fr 40 5 rfl) (fun j => fr 41 j rfl) (fun j => fr 42 j rfl) (fun j => fr 43 j rfl) (fun j => fr 44 j rfl) (fun j => fr 45 j rfl)
        · exact hx.cong (fr 34 5 rfl) (fun j => fr 35 j rfl) (fun j => fr 36 j rfl) (fun j => fr 37 j rfl) (fun j => fr 38 j rfl) (fun j => fr 39 j rfl)
        · exact hx.cong (fr 46 5 rfl) (fun j => fr 47 j rfl) (fun j => fr 48 j rfl) (fun j => fr 49 j rfl) (fun j => fr 50 j rfl) (fun j => fr 51 j rfl)
      have g2of : ∀ ν : am_Mu, ν 5 2 = 0 → ν 108 1 = 0 → G2 ν := by
        intro ν h1 h2
        refine ⟨by rw [h1]; decide, by rw [h1]; decide, by rw [h1, h2], ?_⟩
        intro j hj
        rw [h1] at hj
        have h00 : (0 : Int32).toNatClampNeg = 0 := rfl
        omega
      have hok := fun rs => tape_ok (T := μ 6) he (rs := rs)
      cases hq : sp_tape (μ 6) e with
      | error x =>
        rw [hq] at xt
        dsimp only at xt
        obtain ⟨μ1, x1, x2⟩ := xt
        have fr1 : am_fr _ μ μ1 := w_fLawReader_readTape x1
        have hT1 : (nI e ≤ μ1 108 1 ∧ ∀ j, j < e → μ1 109 j &&& 255 = μ 6 j) := ⟨by rw [fr1 108 1 rfl, t3]; exact hc.2, fun j hj => by rw [fr1 109 j rfl]; exact (t4 j (by omega)).2.2⟩
        have hm := m_law_ex he hs2 b hT1.1 hT1.2
        rw [hq] at hm
        dsimp only at hm
        obtain ⟨ν, m1, m2, m3, m4⟩ := hm
        have hne : ¬ nI (1000 * x.1 + x.2) = 0 := by
          obtain ⟨k1, k2, k3⟩ := m2
          rw [show (0 : Int32) = nI 0 from rfl, nI_inj (by omega) (by omega)]
          omega
        have e1 : fB_law (nI s) b (nI e) μ = some (nI (1000 * x.1 + x.2), μ1) := by
          rw [st, x1, Option.bind_some]
          dsimp only
          rw [if_pos hne]
        refine ⟨nI (1000 * x.1 + x.2), μ1, ν, e1, m1, ?_, ?_⟩
        · have e52 : ν 5 2 = μ1 5 2 := (w_fM_law m1) 5 2 rfl
          exact g2of ν (by rw [e52]; exact x2) m4
        · intro l hl'
          obtain ⟨rs, q1, q2, q3⟩ := g3 l hl'
          refine ⟨rs, toLX l rs μ1 ν hl' ?_ (Or.inr ⟨_, m1⟩), ?_, q3⟩
          · have : l = 0 ∨ l = 1 ∨ l = 2 ∨ l = 3 := by omega
            rcases this with rfl | rfl | rfl | rfl
            · exact q1.cong (fr1 28 5 rfl) (fun j => fr1 29 j rfl) (fun j => fr1 30 j rfl) (fun j => fr1 31 j rfl) (fun j => fr1 32 j rfl) (fun j => fr1 33 j rfl)
            · exact q1.cong (fr1 40 5 rfl) (fun j => fr1 41 j rfl) (fun j => fr1 42 j rfl) (fun j => fr1 43 j rfl) (fun j => fr1 44 j rfl) (fun j => fr1 45 j rfl)
            · exact q1.cong (fr1 34 5 rfl) (fun j => fr1 35 j rfl) (fun j => fr1 36 j rfl) (fun j => fr1 37 j rfl) (fun j => fr1 38 j rfl) (fun j => fr1 39 j rfl)
            · exact q1.cong (fr1 46 5 rfl) (fun j => fr1 47 j rfl) (fun j => fr1 48 j rfl) (fun j => fr1 49 j rfl) (fun j => fr1 50 j rfl) (fun j => fr1 51 j rfl)
          · have := (toX _ _ e1).2 l rs hl' q2 q3
            exact this.cong q3 (by rw [m3 114 (by omega) (by omega)]) (fun a i q1 q2 _ _ => by rw [m3 a (by omega) (by omega)]) (fun i _ _ => by rw [m3 119 (by omega) (by omega)]) (fun a i q1 q2 _ _ => by rw [m3 a (by omega) (by omega)])
      | ok rs =>
        have hg := hok rs hq
        rw [hq] at xt
        dsimp only at xt
        obtain ⟨μ1, x1, x2, x3⟩ := xt
        obtain ⟨μ2, y1, y2⟩ := LX_become hLP x2 hg
        have e1 : fB_law (nI s) b (nI e) μ = some (0, μ2) := by
          rw [st, x1, Option.bind_some]
          dsimp only
          rw [if_neg (by decide), y1, Option.bind_some]
        obtain ⟨⟨k1, k2⟩, k3⟩ := toX _ _ e1
        have hm := m_law_ex he hs2 b k1 k2
        rw [hq] at hm
        dsimp only at hm
        obtain ⟨ν, m1, m2, m3, m4⟩ := hm
        have fr1 : am_fr _ μ μ1 := w_fLawReader_readTape x1
        have frb := w_fLaw_become y1
        refine ⟨0, μ2, ν, e1, m1, ?_, ?_⟩
        · refine g2of ν ?_ m4
          have e52 : ν 5 2 = μ2 5 2 := (w_fM_law m1) 5 2 rfl
          rw [e52]
          have : μ2 5 2 = μ1 5 2 := by
            rcases hLP with h | h | h | h <;> rw [h] at frb <;> exact frb 5 2 rfl
          rw [this, x3]
        · intro l hl'
          by_cases hle : l = lwN s b
          · rw [hle]
            exact ⟨rs, toLX (lwN s b) rs μ2 ν hl y2 (Or.inl m1), m2, hg⟩
          · obtain ⟨rs', q1, q2, q3⟩ := g3 l hl'
            refine ⟨rs', toLX l rs' μ2 ν hl' ?_ (Or.inl m1), m3 l rs' hl' hle (k3 l rs' hl' q2 q3) q3, q3⟩
            have q1' : LX (LPl l) μ1 rs' := by
              have : l = 0 ∨ l = 1 ∨ l = 2 ∨ l = 3 := by omega
              rcases this with rfl | rfl | rfl | rfl
              · exact q1.cong (fr1 28 5 rfl) (fun j => fr1 29 j rfl) (fun j => fr1 30 j rfl) (fun j => fr1 31 j rfl) (fun j => fr1 32 j rfl) (fun j => fr1 33 j rfl)
              · exact q1.cong (fr1 40 5 rfl) (fun j => fr1 41 j rfl) (fun j => fr1 42 j rfl) (fun j => fr1 43 j rfl) (fun j => fr1 44 j rfl) (fun j => fr1 45 j rfl)
              · exact q1.cong (fr1 34 5 rfl) (fun j => fr1 35 j rfl) (fun j => fr1 36 j rfl) (fun j => fr1 37 j rfl) (fun j => fr1 38 j rfl) (fun j => fr1 39 j rfl)
              · exact q1.cong (fr1 46 5 rfl) (fun j => fr1 47 j rfl) (fun j => fr1 48 j rfl) (fun j => fr1 49 j rfl) (fun j => fr1 50 j rfl) (fun j => fr1 51 j rfl)
            generalize lwN s b = m at hl hle frb
            have hm4 : m = 0 ∨ m = 1 ∨ m = 2 ∨ m = 3 := by omega
            have hl4 : l = 0 ∨ l = 1 ∨ l = 2 ∨ l = 3 := by omega
            rcases hm4 with rfl | rfl | rfl | rfl <;> rcases hl4 with rfl | rfl | rfl | rfl <;> first
              | exact absurd rfl hle
              | exact q1'.cong (frb _ 5 rfl) (fun j => frb _ j rfl) (fun j => frb _ j rfl) (fun j => frb _ j rfl) (fun j => frb _ j rfl) (fun j => frb _ j rfl)
    · refine ⟨-1, μ, μ, ?_, ?_, ⟨t1, t2, t3, t4⟩, g3⟩
      · unfold fB_law
        rw [l_isIn, Option.bind_some, b2i_t hs]
        dsimp only
        rw [if_neg (by decide)]
        by_cases h0 : c < 0
        · rw [if_pos h0]
        · rw [if_neg h0, if_neg (fun h => hc ⟨Int32.not_lt.mp h0, h⟩)]
      · unfold fM_law
        rw [l_isSchool, Option.bind_some, b2i_t hs]
        dsimp only
        rw [if_neg (by decide)]
        by_cases h0 : c < 0
        · rw [if_pos h0]
        · rw [if_neg h0, if_neg (fun h => hc ⟨Int32.not_lt.mp h0, by rw [← t3]; exact h⟩)]
  · refine ⟨-1, μ, μ, ?_, ?_, ⟨t1, t2, t3, t4⟩, g3⟩
    · unfold fB_law
      rw [l_isIn, Option.bind_some, b2i_f hs]
      rfl
    · unfold fM_law
      rw [l_isSchool, Option.bind_some, b2i_f hs]
      rfl
theorem op_rules (a b : Int32) (μ : am_Mu) : Op (fB_rules a b) (fM_rules a b) G3 G3 μ := by
  intro g3
  by_cases hs : 0 ≤ a ∧ a < 2
  · obtain ⟨s, rfl, hs2⟩ : ∃ s, a = nI s ∧ s < 2 := ⟨a.toNatClampNeg, (nI_nt hs.1).symm, nt_lt (b := 2) hs.1 hs.2⟩
    have hl : lwN s b < 4 := by unfold lwN; split <;> omega
    obtain ⟨hLP, hLaw⟩ := LPl_is hl
    obtain ⟨rs, q1, q2, q3⟩ := g3 _ hl
    refine ⟨nI rs.length, μ, μ, ?_, ?_, g3⟩
    · unfold fB_rules
      rw [l_isIn, Option.bind_some, b2i_t hs]
      dsimp only
      rw [if_pos (by decide), x_lawOf hs2, Option.bind_some]
      dsimp only
      rw [hLaw, cond_true, q1.1]
    · have h2s : (2 : Int32) * nI s = nI (2 * s) := nI_mul 2 s
      unfold fM_rules fM_rules_23
      rw [l_isSchool, Option.bind_some, b2i_t hs]
      dsimp only
      rw [if_neg (by decide), h2s]
      have e1 : ∀ d : Int32, nI (2 * s) + d = nI (lwN s b) → (bif am_inb (nI (2 * s) + d) 4 then some ((μ 114 (nI (2 * s) + d).toNatClampNeg), μ) else none) = some (nI rs.length, μ) := by
        intro d hd
        rw [hd, inb_n hl (by omega), cond_true, nI_clamp (by omega), q2.1]
      by_cases hb : b = 0
      · rw [if_pos hb]
        exact e1 0 (by unfold lwN; rw [if_pos hb]; exact nI_plus _ 0)
      · rw [if_neg hb]
        exact e1 1 (by unfold lwN; rw [if_neg hb]; exact nI_plus _ 1)
  · refine ⟨-1, μ, μ, ?_, ?_, g3⟩
    · unfold fB_rules
      rw [l_isIn, Option.bind_some, b2i_f hs]
      rfl
    · unfold fM_rules
      rw [l_isSchool, Option.bind_some, b2i_f hs]
      rfl
