/-! E: the class reads a rule, a law -/
def LC (μ : am_Mu) (rs : List LR) : Prop := μ 7 5 = nI rs.length ∧ (∀ r, r < rs.length → μ 8 r = (rs.getD r dR).1 ∧ μ 9 r = nI (flS (rs.take (r + 1))).length ∧ μ 10 r = nI (flE (rs.take (r + 1))).length) ∧ μ 7 7 = nI (flE rs).length ∧ RowIs (μ 12) (flE rs)
theorem LC.fr {μ μ' : am_Mu} {rs : List LR} (h : LC μ rs) (e5 : μ' 7 5 = μ 7 5) (e7 : μ' 7 7 = μ 7 7) (e8 : ∀ j, μ' 8 j = μ 8 j) (e9 : ∀ j, μ' 9 j = μ 9 j) (e10 : ∀ j, μ' 10 j = μ 10 j) (e12 : ∀ j, μ' 12 j = μ 12 j) : LC μ' rs := by
  obtain ⟨h1, h2, h3, h4⟩ := h
  refine ⟨by rw [e5, h1], ?_, by rw [e7, h3], fun j hj => by rw [e12, h4 j hj]⟩
  intro r hr
  rw [e8, e9, e10]
  exact h2 r hr
theorem x_kind {T : Nat → Int32} {e p : Nat} (μ : am_Mu) : fLawReader_kindOf (sgT T e p) μ = some (kdT T e p, μ) := by
  unfold fLawReader_kindOf kdT
  by_cases h1 : sgT T e p = 99
  · rw [if_pos h1, if_pos h1]
  · rw [if_neg h1, if_neg h1]
    by_cases h2 : sgT T e p = 107
    · rw [if_pos h2, if_pos h2]
    · rw [if_neg h2, if_neg h2]
      by_cases h3 : sgT T e p = 108
      · rw [if_pos h3, if_pos h3]
      · rw [if_neg h3, if_neg h3]
        by_cases h4 : sgT T e p = 116
        · rw [if_pos h4, if_pos h4]
        · rw [if_neg h4, if_neg h4]
def rdTl (kd : Int32) (μ : am_Mu) : Option am_Mu := (fLawReader_expect 58 μ).bind fun q4 => ((fLR_cond 9 0 q4).bind fun q5 => ((fLawReader_expect 62 q5).bind fun q6 => ((fLawReader_readEffects q6).bind fun q7 => fLaw_addRule 7 kd q7)))
def rdRule (a : Int32) (μ : am_Mu) : Option am_Mu := (fLawReader_readKind a μ).bind fun q3 => rdTl q3.1 q3.2
theorem tape_34 (n : Nat) (a1 a2 : Int32) (μ : am_Mu) : fLawReader_readTape_34 (n + 1) a1 a2 μ = (if 24 < a2 then fLawReader_readTape_112 μ else (if a1 ≤ 0 then fLawReader_readTape_112 μ else ((rdRule a2 μ).bind fun q8 => (if ¬ (q8 5 5) = 0 then fLawReader_readTape_112 q8 else (if (q8 5 4) < (q8 5 3) then ((fLawReader_expect 59 q8).bind fun q11 => (fLawReader_readTape_34 n) a1 (a2 + 1) q11) else fLawReader_readTape_97 q8))))) := by
  rw [fLawReader_readTape_34]
  unfold rdRule rdTl
  simp only [Option.bind_assoc]
theorem rd_52 {a : Int32} {μ out : am_Mu} (h : rdRule a μ = some out) : out 5 2 = μ 5 2 := by
  unfold rdRule rdTl at h
  obtain ⟨q1, h1, h⟩ := Option.bind_eq_some_iff.mp h
  obtain ⟨q2, h2, h⟩ := Option.bind_eq_some_iff.mp h
  obtain ⟨q3, h3, h⟩ := Option.bind_eq_some_iff.mp h
  obtain ⟨q4, h4, h⟩ := Option.bind_eq_some_iff.mp h
  obtain ⟨q5, h5, h⟩ := Option.bind_eq_some_iff.mp h
  have f1 := w_fLawReader_readKind h1
  have f2 := w_fLawReader_expect h2
  have f3 := w_fLR_cond h3
  have f4 := w_fLawReader_expect h4
  have f5 := w_fLawReader_readEffects h5
  have f6 := w_fLaw_addRule h
  rw [f6 5 2 rfl, f5 5 2 rfl, f4 5 2 rfl, f3 5 2 rfl, f2 5 2 rfl, f1 5 2 rfl]
/-- what is left of a rule, behind a fault -/
theorem x_tailF {μ : am_Mu} {x : Nat × Nat} (h : CFr μ x) (kd : Int32) : ∃ μ', ((fLawReader_expect 62 μ).bind fun q7 => ((fLawReader_readEffects q7).bind fun q8 => fLaw_addRule 7 kd q8)) = some μ' ∧ CF μ' x := by
  obtain ⟨μ1, a1, a2⟩ := x_addRF h kd
  refine ⟨μ1, ?_, a2⟩
  unfold fLawReader_readEffects
  rw [x_expectF h.1 (by decide), Option.bind_some, show am_F = 99999 + 1 from rfl, x_effsF h, Option.bind_some, a1]
theorem x_tlF {μ : am_Mu} {x : Nat × Nat} (h : CFr μ x) (kd : Int32) : ∃ μ', rdTl kd μ = some μ' ∧ CF μ' x := by
  obtain ⟨μ2, y1, y2⟩ := x_condF μ _ h.1
  have fr2 := w_fLR_cond y1
  unfold rdTl
  rw [x_expectF h.1 (by decide), Option.bind_some, y1, Option.bind_some]
  refine x_tailF ⟨y2, ?_⟩ kd
  rw [fr2 7 7 rfl, fr2 7 5 rfl]
  exact h.2
theorem x_ruleF {μ : am_Mu} {x : Nat × Nat} (h : CFr μ x) (a : Int32) : ∃ μ', rdRule a μ = some μ' ∧ CF μ' x := by
  unfold rdRule fLawReader_readKind
  rw [x_signF h.1, Option.bind_some]
  dsimp only
  rw [show fLawReader_kindOf (-1) μ = some (-1, μ) from rfl, Option.bind_some]
  dsimp only
  rw [if_neg (by decide), x_failF h.1, Option.bind_some, Option.bind_some]
  exact x_tlF h _
theorem take_app1 {A : Type} {L : List A} {x : A} {r : Nat} (h : r < L.length) : (L ++ [x]).take (r + 1) = L.take (r + 1) := List.take_append_of_le_length (by omega)
theorem x_rule {T : Nat → Int32} {e : Nat} (he : e ≤ 240) {p k : Nat} {rs : List LR} {μ : am_Mu} (h : CS T e μ (p, k, flS rs)) (hl : LC μ rs) (hf : RFit e p k rs) (h24 : rs.length ≤ 24) : match sp_rule T e p k rs with
    | .ok w => ∃ μ', rdRule (nI rs.length) μ = some μ' ∧ CS T e μ' (w.1, w.2.1, flS (rs ++ [w.2.2])) ∧ LC μ' (rs ++ [w.2.2])
    | .error x => ∃ μ', rdRule (nI rs.length) μ = some μ' ∧ CF μ' x := by
  obtain ⟨f1, f2, f3, f4⟩ := hf
  have hs := x_sign he h (show p ≤ 1000 by omega)
  have hlen : (flS rs).length ≤ 240 := by omega
  have one : rdRule (nI rs.length) μ = if kdT T e p = -1 then ((fLawReader_fail 1 μ).bind fun q11 => rdTl (-1) q11) else if rs.length < 24 then rdTl (kdT T e p) (am_up μ 5 4 (μ 5 4 + 1)) else ((fLawReader_fail 4 μ).bind fun q10 => rdTl (kdT T e p) q10) := by
    unfold rdRule fLawReader_readKind
    rw [hs, Option.bind_some]
    dsimp only
    rw [x_kind, Option.bind_some]
    dsimp only
    by_cases hk : kdT T e p = -1
    · rw [if_neg (by simpa using hk), if_pos hk, hk, Option.bind_assoc]
      rfl
    · rw [if_pos hk, if_neg hk]
      by_cases hn : rs.length < 24
      · rw [if_pos hn, if_pos (show nI rs.length < 24 from (nI_lt_iff (b := 24) (by omega) (by omega)).mpr hn)]
        rfl
      · rw [if_neg hn, if_neg (by show ¬ _ < nI 24; rw [nI_lt_iff (by omega) (by omega)]; exact hn), Option.bind_assoc]
        rfl
  have toR : ∀ (ν : am_Mu) x, CF ν x → ν 7 7 = nI (flE rs).length → ν 7 5 = nI rs.length → CFr ν x := by
    intro ν x g1 g2 g3
    refine ⟨g1, ?_, ?_, ?_, ?_⟩
    · rw [g2]; exact nI_pos' (by omega)
    · rw [g2]; exact (nI_le_iff (b := 96) (by omega) (by omega)).mpr (by omega)
    · rw [g3]; exact nI_pos' (by omega)
    · rw [g3]; exact (nI_le_iff (b := 24) (by omega) (by omega)).mpr (by omega)
  unfold sp_rule
  rw [one]
  by_cases hk : kdT T e p = -1
  · rw [if_pos hk, if_pos hk]
    dsimp only
    obtain ⟨μ1, g1, g2⟩ := x_fail h hlen 1 (by omega)
    change fLawReader_fail 1 _ = some μ1 at g1
    have fr1 := w_fLawReader_fail g1
    rw [g1, Option.bind_some]
    exact x_tlF (toR μ1 _ g2 (by rw [fr1 7 7 rfl]; exact hl.2.2.1) (by rw [fr1 7 5 rfl]; exact hl.1)) _
  · rw [if_neg hk, if_neg hk]
    have hpe := (kd_nI hk).2
    by_cases hn : rs.length < 24
    · rw [if_pos hn, if_pos hn]
      have hN : CS T e (am_up μ 5 4 (μ 5 4 + 1)) (p + 1, k, flS rs) := h.next
      obtain ⟨μ1, x1, x2⟩ := x_expect he hN (show p + 1 ≤ 1000 by omega) hlen 58
      have fr1 := w_fLawReader_expect x1
      have q77 : μ1 7 7 = nI (flE rs).length := by rw [fr1 7 7 rfl, up_ne (by decide)]; exact hl.2.2.1
      have q75 : μ1 7 5 = nI rs.length := by rw [fr1 7 5 rfl, up_ne (by decide)]; exact hl.1
      unfold rdTl
      rw [x1, Option.bind_some]
      by_cases h58 : sgT T e (p + 1) = 58
      · rw [if_pos h58]
        have hpe1 := sg_lt h58 (by decide)
        unfold sp_expect at x2
        rw [if_pos h58] at x2
        have x2' : CS T e μ1 (p + 2, k, flS rs) := x2
        obtain ⟨μ2, y1, y2⟩ := x_cond he μ1 _ x2' ⟨show p + 2 ≤ e by omega, show (flS rs).length ≤ p + 2 by omega, f3⟩
        have fr2 := w_fLR_cond y1
        rw [y1, Option.bind_some]
        unfold PR_bind
        cases hc : sp_cond T e (p + 2, k, flS rs) with
        | error x =>
          rw [hc] at y2
          dsimp only
          exact x_tailF (toR μ2 x y2 (by rw [fr2 7 7 rfl, q77]) (by rw [fr2 7 5 rfl, q75])) _
        | ok r =>
          rw [hc] at y2
          dsimp only
          obtain ⟨⟨⟨c1, c2, c3, c4, sg, c5, c6, c7, c8⟩, c9⟩, -⟩ := cond_ok he (p + 2, k, flS rs) r f3 hc
          have c3' : r.2.2.length + (p + 2) ≤ r.1 + (flS rs).length := c3
          have c5' : r.2.2 = flS rs ++ sg := c5
          obtain ⟨μ3, z1, z2⟩ := x_expect he y2 (by omega) (by omega) 62
          have fr3 := w_fLawReader_expect z1
          have p77 : μ3 7 7 = nI (flE rs).length := by rw [fr3 7 7 rfl, fr2 7 7 rfl, q77]
          have p75 : μ3 7 5 = nI rs.length := by rw [fr3 7 5 rfl, fr2 7 5 rfl, q75]
          rw [z1, Option.bind_some]
          by_cases h62 : sgT T e r.1 = 62
          · have hl62 := sg_lt h62 (by decide)
            unfold sp_expect at z2 ⊢
            rw [if_pos h62] at z2 ⊢
            dsimp only
            have z2' : CS T e μ3 (r.1 + 1, r.2.1, r.2.2) := z2
            have L3 : LC μ3 rs := hl.fr (by rw [p75, hl.1]) (by rw [p77, hl.2.2.1]) (fun j => by rw [fr3 8 j rfl, fr2 8 j rfl, fr1 8 j rfl, up_row (by decide)]) (fun j => by rw [fr3 9 j rfl, fr2 9 j rfl, fr1 9 j rfl, up_row (by decide)]) (fun j => by rw [fr3 10 j rfl, fr2 10 j rfl, fr1 10 j rfl, up_row (by decide)]) (fun j => by rw [fr3 12 j rfl, fr2 12 j rfl, fr1 12 j rfl, up_row (by decide)])
            have heff := x_effs he (k := r.2.1) (out := r.2.2) (by omega) 4 am_F (r.1 + 1) (flE rs) μ3 (by omega) (by unfold am_F; omega) z2' (by omega) p77 L3.2.2.2 (by omega) (by rw [p75]; exact ⟨nI_pos' (by omega), (nI_le_iff (b := 24) (by omega) (by omega)).mpr (by omega)⟩)
            have er : fLawReader_readEffects μ3 = fLawReader_readEffects_2 am_F (nI (4 - 4)) μ3 := rfl
            cases hq : sp_eff T e 4 (r.1 + 1) (flE rs) with
            | error x =>
              rw [hq] at heff
              dsimp only at heff ⊢
              obtain ⟨μ4, u1, u2⟩ := heff
              rw [er, u1, Option.bind_some]
              obtain ⟨μ5, v1, v2⟩ := x_addRF u2 (kdT T e p)
              exact ⟨μ5, v1, v2⟩
            | ok w =>
              rw [hq] at heff
              dsimp only at heff ⊢
              obtain ⟨μ4, u1, u2, u3, u4⟩ := heff
              obtain ⟨-, -, g, e3, e4, -⟩ := eff_ok 4 (r.1 + 1) (flE rs) w hq
              rw [er, u1, Option.bind_some]
              have fr4 : am_fr [(12, 999), (5, 4), (5, 5), (7, 7)] μ3 μ4 := w_fLawReader_readEffects (er.trans u1)
              have d1 : r.2.2.drop (flS rs).length = sg := by rw [c5']; exact drop_app
              have d2 : w.2.drop (flE rs).length = g := by rw [e3]; exact drop_app
              rw [d1, d2]
              have t75 : μ4 7 5 = nI rs.length := by rw [fr4 7 5 rfl, p75]
              have t76 : μ4 7 6 = nI r.2.2.length := u2.2.2.2.2.1
              have eadd : fLaw_addRule 7 (kdT T e p) μ4 = some (am_up (am_up (am_up (am_up μ4 8 rs.length (kdT T e p)) 9 rs.length (nI r.2.2.length)) 10 rs.length (nI w.2.length)) 7 5 (nI (rs.length + 1))) := by
                unfold fLaw_addRule
                rw [show am_isLaw 7 = true from rfl, cond_true, t75, if_neg (by show ¬ nI 24 ≤ _; rw [nI_le_iff (by omega) (by omega)]; omega), inb_n hn (by omega), cond_true, nI_clamp (by omega)]
                rw [show (am_up μ4 (7 + 1) rs.length (kdT T e p)) 7 5 = μ4 7 5 from rfl, t75, inb_n hn (by omega), cond_true, nI_clamp (by omega)]
                rw [show (am_up μ4 (7 + 1) rs.length (kdT T e p)) 7 6 = μ4 7 6 from rfl, t76]
                rw [show (am_up (am_up μ4 (7 + 1) rs.length (kdT T e p)) (7 + 2) rs.length (nI r.2.2.length)) 7 5 = μ4 7 5 from rfl, t75, inb_n hn (by omega), cond_true, nI_clamp (by omega)]
                rw [show (am_up (am_up μ4 (7 + 1) rs.length (kdT T e p)) (7 + 2) rs.length (nI r.2.2.length)) 7 7 = μ4 7 7 from rfl, u3]
                rw [show (am_up (am_up (am_up μ4 (7 + 1) rs.length (kdT T e p)) (7 + 2) rs.length (nI r.2.2.length)) (7 + 3) rs.length (nI w.2.length)) 7 5 = μ4 7 5 from rfl, t75, show nI rs.length + 1 = nI (rs.length + 1) from nI_plus _ 1]
              refine ⟨_, eadd, ?_, ?_, ?_, ?_, ?_⟩
              · have eS : flS (rs ++ [(kdT T e p, sg, g)]) = r.2.2 := by
                  rw [flS_app, c5']
                  show flS rs ++ (sg ++ []) = _
                  rw [List.append_nil]
                rw [eS]
                obtain ⟨s1, s2, s3, s4, s5, s6, s7⟩ := u2
                exact ⟨by simp [upa, s1], by simp [upa, s2], by simp [upa, s3], by simp [upa, s4], by simp [upa, s5], fun j hj => by simpa [upa] using s6 j hj, fun j hj => by simp [upa, s7 j hj]⟩
              · rw [up_eq, List.length_append, List.length_singleton]
              · have eS : flS (rs ++ [(kdT T e p, sg, g)]) = r.2.2 := by
                  rw [flS_app, c5']
                  show flS rs ++ (sg ++ []) = _
                  rw [List.append_nil]
                have eE : flE (rs ++ [(kdT T e p, sg, g)]) = w.2 := by
                  rw [flE_app, e3]
                  show flE rs ++ (g ++ []) = _
                  rw [List.append_nil]
                intro j hj
                rw [List.length_append, List.length_singleton] at hj
                have r8 : am_up (am_up (am_up (am_up μ4 8 rs.length (kdT T e p)) 9 rs.length (nI r.2.2.length)) 10 rs.length (nI w.2.length)) 7 5 (nI (rs.length + 1)) 8 j = if j = rs.length then kdT T e p else μ4 8 j := by
                  rw [up_row (by decide), up_row (by decide), up_row (by decide), up_at]
                have r9 : am_up (am_up (am_up (am_up μ4 8 rs.length (kdT T e p)) 9 rs.length (nI r.2.2.length)) 10 rs.length (nI w.2.length)) 7 5 (nI (rs.length + 1)) 9 j = if j = rs.length then nI r.2.2.length else μ4 9 j := by
                  rw [up_row (by decide), up_row (by decide), up_at, up_row (by decide)]
                have r10 : am_up (am_up (am_up (am_up μ4 8 rs.length (kdT T e p)) 9 rs.length (nI r.2.2.length)) 10 rs.length (nI w.2.length)) 7 5 (nI (rs.length + 1)) 10 j = if j = rs.length then nI w.2.length else μ4 10 j := by
                  rw [up_row (by decide), up_at, up_row (by decide), up_row (by decide)]
                rw [r8, r9, r10]
                by_cases hjl : j = rs.length
                · rw [if_pos hjl, if_pos hjl, if_pos hjl, hjl]
                  have et : (rs ++ [(kdT T e p, sg, g)]).take (rs.length + 1) = rs ++ [(kdT T e p, sg, g)] := List.take_of_length_le (by simp)
                  rw [et, eS, eE]
                  refine ⟨?_, rfl, rfl⟩
                  simp [List.getD_eq_getElem?_getD]
                · rw [if_neg hjl, if_neg hjl, if_neg hjl, take_app1 (by omega), fr4 8 j rfl, fr4 9 j rfl, fr4 10 j rfl]
                  have := L3.2.1 j (by omega)
                  rw [this.1, this.2.1, this.2.2]
                  refine ⟨?_, rfl, rfl⟩
                  simp only [List.getD_eq_getElem?_getD, List.getElem?_append_left (show j < rs.length by omega)]
              · have eE : flE (rs ++ [(kdT T e p, sg, g)]) = w.2 := by
                  rw [flE_app, e3]
                  show flE rs ++ (g ++ []) = _
                  rw [List.append_nil]
                rw [eE]
                simp [upa, u3]
              · have eE : flE (rs ++ [(kdT T e p, sg, g)]) = w.2 := by
                  rw [flE_app, e3]
                  show flE rs ++ (g ++ []) = _
                  rw [List.append_nil]
                rw [eE]
                intro j hj
                simpa [upa] using u4 j hj
          · unfold sp_expect at z2 ⊢
            rw [if_neg h62] at z2 ⊢
            dsimp only
            have fx := toR μ3 _ z2 p77 p75
            obtain ⟨μ5, a1, a2⟩ := x_addRF fx (kdT T e p)
            refine ⟨μ5, ?_, a2⟩
            unfold fLawReader_readEffects
            rw [show am_F = 99999 + 1 from rfl, x_effsF fx, Option.bind_some, a1]
      · rw [if_neg h58]
        dsimp only
        unfold sp_expect at x2
        rw [if_neg h58] at x2
        obtain ⟨μ2, y1, y2⟩ := x_condF μ1 _ x2
        have fr2 := w_fLR_cond y1
        rw [y1, Option.bind_some]
        exact x_tailF (toR μ2 _ y2 (by rw [fr2 7 7 rfl, q77]) (by rw [fr2 7 5 rfl, q75])) _
    · rw [if_neg hn, if_neg hn]
      dsimp only
      obtain ⟨μ1, g1, g2⟩ := x_fail h hlen 4 (by omega)
      change fLawReader_fail 4 _ = some μ1 at g1
      have fr1 := w_fLawReader_fail g1
      rw [g1, Option.bind_some]
      exact x_tlF (toR μ1 _ g2 (by rw [fr1 7 7 rfl]; exact hl.2.2.1) (by rw [fr1 7 5 rfl]; exact hl.1)) _
def LX0 (μ : am_Mu) (rs : List LR) : Prop := LC μ rs ∧ μ 7 6 = nI (flS rs).length ∧ RowIs (μ 11) (flS rs)
theorem x_112F {μ : am_Mu} {x : Nat × Nat} (h : CF μ x) : fLawReader_readTape_112 μ = some (nI (1000 * x.1 + x.2), μ) := by
  unfold fLawReader_readTape_112
  rw [if_pos h.2.1, h.1, h.2.2.1, show (1000 : Int32) * nI x.1 + nI x.2 = nI (1000 * x.1 + x.2) by show nI 1000 * _ + _ = _; rw [nI_mul, nI_plus]]
theorem x_law {T : Nat → Int32} {e : Nat} (he : e ≤ 240) (he1 : 1 ≤ e) : ∀ q n p k rs μ, q + rs.length = 25 → rs.length ≤ 24 → q < n → CS T e μ (p, k, flS rs) → LC μ rs → RFit e p k rs → match sp_law T e q p k rs with
    | .ok rs' => ∃ μ', fLawReader_readTape_34 n (nI e) (nI rs.length) μ = some (0, μ') ∧ LX0 μ' rs' ∧ μ' 5 2 = μ 5 2
    | .error x => ∃ μ', fLawReader_readTape_34 n (nI e) (nI rs.length) μ = some (nI (1000 * x.1 + x.2), μ') ∧ μ' 5 2 = μ 5 2 := by
  intro q
  induction q with
  | zero => intro n p k rs μ h1 h2; omega
  | succ q ih =>
    intro n p k rs μ hq h24 hn h hl hf
    obtain ⟨n, rfl⟩ : ∃ k, n = k + 1 := ⟨n - 1, by omega⟩
    have hr := x_rule he h hl hf h24
    unfold sp_law
    have startF : ∀ μ1, rdRule (nI rs.length) μ = some μ1 → ¬ μ1 5 5 = 0 → fLawReader_readTape_34 (n + 1) (nI e) (nI rs.length) μ = fLawReader_readTape_112 μ1 := by
      intro μ1 h1 h2
      rw [tape_34, if_neg (by show ¬ nI 24 < _; rw [nI_lt_iff (by omega) (by omega)]; omega), if_neg (by show ¬ _ ≤ nI 0; rw [nI_le_iff (by omega) (by omega)]; omega), h1, Option.bind_some, if_pos h2]
    have start : ∀ μ1, rdRule (nI rs.length) μ = some μ1 → μ1 5 5 = 0 → fLawReader_readTape_34 (n + 1) (nI e) (nI rs.length) μ = (if (μ1 5 4) < (μ1 5 3) then ((fLawReader_expect 59 μ1).bind fun q6 => (fLawReader_readTape_34 n) (nI e) (nI rs.length + 1) q6) else fLawReader_readTape_97 μ1) := by
      intro μ1 h1 h2
      rw [tape_34, if_neg (by show ¬ nI 24 < _; rw [nI_lt_iff (by omega) (by omega)]; omega), if_neg (by show ¬ _ ≤ nI 0; rw [nI_le_iff (by omega) (by omega)]; omega), h1, Option.bind_some, if_neg (by rw [h2]; decide)]
    cases hs : sp_rule T e p k rs with
    | error x =>
      rw [hs] at hr
      dsimp only at hr ⊢
      obtain ⟨μ1, r1, r2⟩ := hr
      refine ⟨μ1, ?_, rd_52 r1⟩
      rw [startF μ1 r1 r2.2.1, x_112F r2]
    | ok w =>
      rw [hs] at hr
      dsimp only at hr ⊢
      obtain ⟨μ1, r1, r2, r3⟩ := hr
      obtain ⟨-, g2, g3, g4⟩ := rule_ok he hf hs
      have q52 : μ1 5 2 = μ 5 2 := rd_52 r1
      have g1 := g2.1
      have hlen := g2.2.1
      have st := start μ1 r1 r2.2.2.1
      rw [r2.1, r2.2.1] at st
      rw [st]
      by_cases hw : w.1 < e
      · rw [if_pos hw, if_pos (show nI w.1 < nI e from (nI_lt_iff (by omega) (by omega)).mpr hw)]
        obtain ⟨μ2, x1, x2⟩ := x_expect he r2 (show w.1 ≤ 1000 by omega) (show (flS (rs ++ [w.2.2])).length ≤ 240 by omega) 59
        have fr := w_fLawReader_expect x1
        rw [x1, Option.bind_some]
        unfold sp_expect at x2
        by_cases h59 : sgT T e w.1 = 59
        · rw [if_pos h59] at x2
          rw [if_pos h59, show nI rs.length + 1 = nI (rs ++ [w.2.2]).length by rw [List.length_append, List.length_singleton]; exact nI_plus _ 1]
          have q52' : μ2 5 2 = μ 5 2 := by rw [fr 5 2 rfl, q52]
          rw [← q52']
          refine ih n (w.1 + 1) w.2.1 (rs ++ [w.2.2]) μ2 ?_ ?_ (by omega) x2 (r3.fr (fr 7 5 rfl) (fr 7 7 rfl) (fun j => fr 8 j rfl) (fun j => fr 9 j rfl) (fun j => fr 10 j rfl) (fun j => fr 12 j rfl)) ⟨by omega, by omega, g2.2.2.1, g2.2.2.2⟩
          · rw [List.length_append, List.length_singleton]; omega
          · rw [List.length_append, List.length_singleton]; omega
        · rw [if_neg h59] at x2
          rw [if_neg h59]
          dsimp only
          have x2' : CF μ2 (1, w.1) := x2
          obtain ⟨n, rfl⟩ : ∃ k, n = k + 1 := ⟨n - 1, by omega⟩
          by_cases hb : (24 : Int32) < nI rs.length + 1
          · refine ⟨μ2, ?_, by rw [fr 5 2 rfl, q52]⟩
            rw [tape_34, if_pos hb, x_112F x2']
          · have gl : (rs ++ [w.2.2]).length ≤ 24 := by rw [List.length_append, List.length_singleton]; omega
            have ge : (flE (rs ++ [w.2.2])).length ≤ 96 := by have := g2.2.2.2; omega
            have cr : CFr μ2 (1, w.1) := by
              refine ⟨x2', ?_, ?_, ?_, ?_⟩
              · rw [fr 7 7 rfl, r3.2.2.1]; exact nI_pos' (by omega)
              · rw [fr 7 7 rfl, r3.2.2.1]; exact (nI_le_iff (b := 96) (by omega) (by omega)).mpr (by omega)
              · rw [fr 7 5 rfl, r3.1]; exact nI_pos' (by omega)
              · rw [fr 7 5 rfl, r3.1]; exact (nI_le_iff (b := 24) (by omega) (by omega)).mpr (by omega)
            obtain ⟨μ3, z1, z2⟩ := x_ruleF cr (nI rs.length + 1)
            refine ⟨μ3, ?_, by rw [rd_52 z1, fr 5 2 rfl, q52]⟩
            rw [tape_34, if_neg hb, if_neg (by show ¬ _ ≤ nI 0; rw [nI_le_iff (by omega) (by omega)]; omega), z1, Option.bind_some, if_pos z2.2.1, x_112F z2]
      · rw [if_neg hw, if_neg (show ¬ nI w.1 < nI e by rw [nI_lt_iff (by omega) (by omega)]; exact hw)]
        unfold fLawReader_readTape_97 fLawReader_readTape_112
        rw [if_neg (by rw [r2.2.2.1]; decide)]
        exact ⟨μ1, rfl, ⟨r3, r2.2.2.2.2.1, r2.2.2.2.2.2.1⟩, q52⟩
def sp_tape (T : Nat → Int32) (e : Nat) : Except (Nat × Nat) (List LR) := if e = 0 then .ok [] else sp_law T e 25 0 0 []
theorem x_tape {T : Nat → Int32} {e : Nat} (he : e ≤ 240) {μ : am_Mu} (hT : ∀ j, j < e → μ 6 j = T j) : match sp_tape T e with
    | .ok rs => ∃ μ', fLawReader_readTape (nI e) μ = some (0, μ') ∧ LX0 μ' rs ∧ μ' 5 2 = 0
    | .error x => ∃ μ', fLawReader_readTape (nI e) μ = some (nI (1000 * x.1 + x.2), μ') ∧ μ' 5 2 = 0 := by
  unfold sp_tape fLawReader_readTape fLaw_empty
  rw [show am_isLaw 7 = true from rfl, cond_true, Option.bind_some]
  generalize hξ : am_up (am_up (am_up (am_up (am_up (am_up (am_up (am_up μ 7 5 0) 7 6 0) 7 7 0) 5 3 (nI e)) 5 4 0) 5 5 0) 5 6 0) 5 2 0 = ξ
  have a75 : ξ 7 5 = 0 := by rw [← hξ]; simp [upa]
  have a76 : ξ 7 6 = 0 := by rw [← hξ]; simp [upa]
  have a77 : ξ 7 7 = 0 := by rw [← hξ]; simp [upa]
  have a55 : ξ 5 5 = 0 := by rw [← hξ]; simp [upa]
  have a52 : ξ 5 2 = 0 := by rw [← hξ]; simp [upa]
  have hL : LC ξ [] := ⟨by rw [a75]; rfl, fun r hr => absurd hr (by simp), by rw [a77]; rfl, fun j hj => absurd hj (by simp [flE])⟩
  by_cases h0 : e = 0
  · rw [if_pos h0]
    dsimp only
    refine ⟨ξ, ?_, ⟨hL, by rw [a76]; rfl, fun j hj => absurd hj (by simp [flS])⟩, a52⟩
    rw [show am_F = 99999 + 1 from rfl, fLawReader_readTape_34, if_neg (by decide), if_pos (by rw [h0]; decide)]
    unfold fLawReader_readTape_112
    rw [if_neg (by rw [a55]; decide)]
  · rw [if_neg h0]
    have hCS : CS T e ξ (0, 0, flS []) := by
      refine ⟨by rw [← hξ]; simp [upa], by rw [← hξ]; simp [upa]; rfl, a55, by rw [← hξ]; simp [upa]; rfl, by rw [a76]; rfl, fun j hj => absurd hj (by simp [flS]), ?_⟩
      intro j hj
      rw [← hξ, ← hT j hj]
      simp [upa]
    have hx := x_law he (by omega) 25 am_F 0 0 [] ξ rfl (by simp) (by unfold am_F; omega) hCS hL ⟨by omega, by simp [flS], by omega, by simp [flE]⟩
    rw [a52] at hx
    exact hx
