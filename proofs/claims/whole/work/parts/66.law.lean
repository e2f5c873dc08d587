/-! E: rules and laws, as functions of a text; the class reads so -/
abbrev LR : Type := Int32 × List Int32 × List Int32
def dR : LR := (0, [], [])
def flS : List LR → List Int32
  | [] => []
  | r :: rs => r.2.1 ++ flS rs
def flE : List LR → List Int32
  | [] => []
  | r :: rs => r.2.2 ++ flE rs
theorem flS_app : ∀ a b, flS (a ++ b) = flS a ++ flS b := by
  intro a b
  induction a with
  | nil => rfl
  | cons r rs ih => rw [List.cons_append, flS, ih, flS, List.append_assoc]
theorem flE_app : ∀ a b, flE (a ++ b) = flE a ++ flE b := by
  intro a b
  induction a with
  | nil => rfl
  | cons r rs ih => rw [List.cons_append, flE, ih, flE, List.append_assoc]
abbrev sdT (T : Nat → Int32) (e p : Nat) : Prop := sgT T e p = 120 ∨ sgT T e p = 121
abbrev pmT (T : Nat → Int32) (e p : Nat) : Prop := sgT T e p = 43 ∨ sgT T e p = 45
def efC (T : Nat → Int32) (e p : Nat) : Int32 := 16 * (if sgT T e (p + 1) = 43 then 1 else 0) + 8 * (if sgT T e p = 121 then 1 else 0) + (sgT T e (p + 2) - 97)
def sp_eff (T : Nat → Int32) (e : Nat) : Nat → Nat → List Int32 → Except (Nat × Nat) (Nat × List Int32)
  | 0, p, _ => if sdT T e p then .error (3, p) else .error (1, p)
  | q + 1, p, acc =>
    if sdT T e p then
      (if pmT T e (p + 1) then
        (if mkT T e (p + 2) then
          (if sgT T e (p + 3) = 44 then sp_eff T e q (p + 4) (acc ++ [efC T e p]) else .ok (p + 3, acc ++ [efC T e p]))
        else .error (1, p + 2))
      else .error (1, p + 1))
    else .error (1, p)
def kdT (T : Nat → Int32) (e p : Nat) : Int32 := if sgT T e p = 99 then 2 else if sgT T e p = 107 then 1 else if sgT T e p = 108 then 3 else if sgT T e p = 116 then 0 else -1
def sp_rule (T : Nat → Int32) (e p k : Nat) (rs : List LR) : Except (Nat × Nat) (Nat × Nat × LR) :=
  if kdT T e p = -1 then .error (1, p)
  else if rs.length < 24 then
    (if sgT T e (p + 1) = 58 then
      (match PR_bind (sp_cond T e (p + 2, k, flS rs)) (sp_expect T e 62) with
      | .error x => .error x
      | .ok s => match sp_eff T e 4 s.1 (flE rs) with
        | .error x => .error x
        | .ok w => .ok (w.1, s.2.1, (kdT T e p, s.2.2.drop (flS rs).length, w.2.drop (flE rs).length)))
    else .error (1, p + 1))
  else .error (4, p)
def sp_law (T : Nat → Int32) (e : Nat) : Nat → Nat → Nat → List LR → Except (Nat × Nat) (List LR)
  | 0, p, _, _ => .error (4, p)
  | q + 1, p, k, rs => match sp_rule T e p k rs with
    | .error x => .error x
    | .ok w => if w.1 < e then (if sgT T e w.1 = 59 then sp_law T e q (w.1 + 1) w.2.1 (rs ++ [w.2.2]) else .error (1, w.1)) else .ok (rs ++ [w.2.2])
/-- what effects there are -/
theorem ef_nI {T : Nat → Int32} {e p : Nat} (h : mkT T e (p + 2)) : ∃ b, b < 32 ∧ efC T e p = nI b := by
  unfold efC
  unfold mkT at h
  generalize sgT T e (p + 2) - 97 = x at h ⊢
  have hx : x.toNatClampNeg < 8 := nt_lt (b := 8) h.1 h.2
  have key : ∀ a b : Nat, a < 2 → b < 2 → ∃ c, c < 32 ∧ (16 : Int32) * nI a + 8 * nI b + x = nI c := by
    intro a b ha hb
    refine ⟨16 * a + 8 * b + x.toNatClampNeg, by omega, ?_⟩
    rw [← nI_plus, ← nI_plus, nI_nt h.1, ← nI_mul, ← nI_mul]
    rfl
  split <;> split
  · exact key 1 1 (by omega) (by omega)
  · exact key 1 0 (by omega) (by omega)
  · exact key 0 1 (by omega) (by omega)
  · exact key 0 0 (by omega) (by omega)
theorem eff_ok {T : Nat → Int32} {e : Nat} : ∀ q p acc w, sp_eff T e q p acc = .ok w → p < w.1 ∧ w.1 ≤ e ∧ ∃ g, w.2 = acc ++ g ∧ g.length ≤ q ∧ ∀ c, c ∈ g → ∃ b, b < 32 ∧ c = nI b := by
  intro q
  induction q with
  | zero =>
    intro p acc w h
    unfold sp_eff at h
    split at h <;> cases h
  | succ q ih =>
    intro p acc w h
    unfold sp_eff at h
    split at h
    · split at h
      · split at h
        · rename_i hm
          have h2 := mk_lt hm
          obtain ⟨b, b1, b2⟩ := ef_nI hm
          split at h
          · obtain ⟨i1, i2, g, i3, i4, i5⟩ := ih _ _ _ h
            refine ⟨by omega, i2, efC T e p :: g, by rw [i3, List.append_assoc]; rfl, by rw [List.length_cons]; omega, ?_⟩
            intro c hc
            rcases List.mem_cons.mp hc with hc | hc
            · exact ⟨b, b1, by rw [hc, b2]⟩
            · exact i5 c hc
          · cases h
            refine ⟨by show p < p + 3; omega, by show p + 3 ≤ e; omega, [efC T e p], rfl, by simp, ?_⟩
            intro c hc
            exact ⟨b, b1, by rw [List.mem_singleton.mp hc, b2]⟩
        · cases h
      · cases h
    · cases h
/-- what a rule is -/
def RG (r : LR) : Prop := (∃ b, b < 4 ∧ r.1 = nI b) ∧ dpS r.2.1 0 = some 1 ∧ opS r.2.1 ≤ 80 ∧ (∀ c, c ∈ r.2.1 → StG c) ∧ r.2.2.length ≤ 4 ∧ ∀ c, c ∈ r.2.2 → ∃ b, b < 32 ∧ c = nI b
theorem kd_nI {T : Nat → Int32} {e p : Nat} (h : ¬ kdT T e p = -1) : (∃ b, b < 4 ∧ kdT T e p = nI b) ∧ p < e := by
  by_cases h1 : sgT T e p = 99
  · exact ⟨⟨2, by omega, by unfold kdT; rw [if_pos h1]; rfl⟩, sg_lt h1 (by decide)⟩
  · by_cases h2 : sgT T e p = 107
    · exact ⟨⟨1, by omega, by unfold kdT; rw [if_neg h1, if_pos h2]; rfl⟩, sg_lt h2 (by decide)⟩
    · by_cases h3 : sgT T e p = 108
      · exact ⟨⟨3, by omega, by unfold kdT; rw [if_neg h1, if_neg h2, if_pos h3]; rfl⟩, sg_lt h3 (by decide)⟩
      · by_cases h4 : sgT T e p = 116
        · exact ⟨⟨0, by omega, by unfold kdT; rw [if_neg h1, if_neg h2, if_neg h3, if_pos h4]; rfl⟩, sg_lt h4 (by decide)⟩
        · refine absurd ?_ h
          unfold kdT
          rw [if_neg h1, if_neg h2, if_neg h3, if_neg h4]
/-- where a reading of a rule stands -/
def RFit (e p k : Nat) (rs : List LR) : Prop := p ≤ e ∧ (flS rs).length ≤ p ∧ k ≤ 80 ∧ (flE rs).length ≤ 4 * rs.length
theorem drop_app {A B : List Int32} : (A ++ B).drop A.length = B := by simp
theorem rule_ok {T : Nat → Int32} {e : Nat} (he : e ≤ 240) {p k : Nat} {rs : List LR} (hf : RFit e p k rs) {w : Nat × Nat × LR} (h : sp_rule T e p k rs = .ok w) : RG w.2.2 ∧ RFit e w.1 w.2.1 (rs ++ [w.2.2]) ∧ rs.length < 24 ∧ p < w.1 := by
  obtain ⟨f1, f2, f3, f4⟩ := hf
  unfold sp_rule at h
  split at h
  · cases h
  · rename_i hkd
    obtain ⟨⟨b, b1, b2⟩, hp⟩ := kd_nI hkd
    split at h
    · rename_i h24
      split at h
      · rename_i h58
        have hp1 := sg_lt h58 (by decide)
        split at h
        · cases h
        · rename_i s hs
          split at h
          · cases h
          · rename_i w' hw
            obtain ⟨e1, e2, g, e3, e4, e5⟩ := eff_ok 4 s.1 (flE rs) w' hw
            unfold PR_bind at hs
            cases hc : sp_cond T e (p + 2, k, flS rs) with
            | error x =>
              rw [hc] at hs
              cases hs
            | ok r =>
              rw [hc] at hs
              dsimp only at hs
              obtain ⟨⟨⟨c1, c2, c3, c4, sg, c5, c6, c7, c8⟩, c9⟩, -⟩ := cond_ok he (p + 2, k, flS rs) r f3 hc
              have c3' : r.2.2.length + (p + 2) ≤ r.1 + (flS rs).length := c3
              have c5' : r.2.2 = flS rs ++ sg := c5
              have c7' : r.2.1 = k + opS sg := c7
              unfold sp_expect at hs
              split at hs
              · rename_i h62
                have hl := sg_lt h62 (by decide)
                cases hs
                cases h
                have d1 : r.2.2.drop (flS rs).length = sg := by rw [c5']; exact drop_app
                have d2 : w'.2.drop (flE rs).length = g := by rw [e3]; exact drop_app
                dsimp only at e1 e2 d1 ⊢
                rw [d1, d2]
                refine ⟨⟨⟨b, b1, b2⟩, by have := c6 0; simpa using this, by show opS sg ≤ 80; omega, c8, e4, e5⟩, ⟨e2, ?_, c4, ?_⟩, h24, ?_⟩
                · rw [flS_app]
                  show (flS rs ++ (sg ++ [])).length ≤ w'.1
                  rw [List.append_nil, ← c5']
                  omega
                · rw [flE_app, List.length_append, List.length_append]
                  show (flE rs).length + (g ++ []).length ≤ _
                  rw [List.append_nil, List.length_singleton]
                  omega
                · have c1' : p + 2 ≤ r.1 := c1
                  omega
              · cases hs
      · cases h
    · cases h
/-! the class -/
def CFr (μ : am_Mu) (x : Nat × Nat) : Prop := CF μ x ∧ 0 ≤ μ 7 7 ∧ μ 7 7 ≤ 96 ∧ 0 ≤ μ 7 5 ∧ μ 7 5 ≤ 24
theorem CFr.fr {μ μ' : am_Mu} {x : Nat × Nat} (h : CFr μ x) (h2 : CF μ' x) (e7 : μ' 7 7 = μ 7 7) (e5 : μ' 7 5 = μ 7 5) : CFr μ' x := by
  obtain ⟨-, h3, h4, h5, h6⟩ := h
  exact ⟨h2, by rw [e7]; exact h3, by rw [e7]; exact h4, by rw [e5]; exact h5, by rw [e5]; exact h6⟩
theorem x_addEF {μ : am_Mu} {x : Nat × Nat} (h : CFr μ x) (c : Int32) : ∃ μ', fLaw_addEffect 7 c μ = some μ' ∧ CFr μ' x := by
  obtain ⟨⟨h1, h2, h3, h4, h5⟩, h6, h7, h8, h9⟩ := h
  unfold fLaw_addEffect
  rw [show am_isLaw 7 = true from rfl, cond_true]
  by_cases hc : (96 : Int32) ≤ μ 7 7
  · rw [if_pos hc]
    exact ⟨μ, rfl, ⟨h1, h2, h3, h4, h5⟩, h6, h7, h8, h9⟩
  · have hlt : μ 7 7 < 96 := Int32.not_le.mp hc
    rw [if_neg hc, inb_t (n := 96) h6 (nt_lt (b := 96) h6 hlt), cond_true]
    refine ⟨_, rfl, ⟨by simp [upa, h1], by simpa [upa] using h2, by simp [upa, h3], by simpa [upa] using h4, by simpa [upa] using h5⟩, ?_, ?_, by simpa [upa] using h8, by simpa [upa] using h9⟩
    · simp [upa]; grind
    · simp [upa]; grind
theorem x_addRF {μ : am_Mu} {x : Nat × Nat} (h : CFr μ x) (c : Int32) : ∃ μ', fLaw_addRule 7 c μ = some μ' ∧ CF μ' x := by
  obtain ⟨⟨h1, h2, h3, h4, h5⟩, h6, h7, h8, h9⟩ := h
  unfold fLaw_addRule
  rw [show am_isLaw 7 = true from rfl, cond_true]
  by_cases hc : (24 : Int32) ≤ μ 7 5
  · rw [if_pos hc]
    exact ⟨μ, rfl, h1, h2, h3, h4, h5⟩
  · have hlt : μ 7 5 < 24 := Int32.not_le.mp hc
    have hin := inb_t (n := 24) h8 (nt_lt (b := 24) h8 hlt)
    rw [if_neg hc, hin, cond_true]
    rw [show (am_up μ (7 + 1) (μ 7 5).toNatClampNeg c) 7 5 = μ 7 5 from rfl, hin, cond_true]
    rw [show (am_up (am_up μ (7 + 1) (μ 7 5).toNatClampNeg c) (7 + 2) (μ 7 5).toNatClampNeg (am_up μ (7 + 1) (μ 7 5).toNatClampNeg c 7 6)) 7 5 = μ 7 5 from rfl, hin, cond_true]
    exact ⟨_, rfl, by simp [upa, h1], by simpa [upa] using h2, by simp [upa, h3], by simpa [upa] using h4, by simpa [upa] using h5⟩
theorem x_effF {μ : am_Mu} {x : Nat × Nat} (h : CFr μ x) (a : Int32) : fLawReader_readEffect a μ = some μ := by
  unfold fLawReader_readEffect
  rw [x_signF h.1, Option.bind_some]
  dsimp only
  rw [if_neg (by decide), if_neg (by decide), x_failF h.1, Option.bind_some]
theorem x_effsF {μ : am_Mu} {x : Nat × Nat} (h : CFr μ x) (n : Nat) (a : Int32) : fLawReader_readEffects_2 (n + 1) a μ = some μ := by
  rw [fLawReader_readEffects_2]
  by_cases ha : (4 : Int32) < a
  · rw [if_pos ha]
  · rw [if_neg ha, x_effF h, Option.bind_some, x_goesF h.1 (by decide), Option.bind_some]
    dsimp only
    rw [if_neg (by decide)]
theorem efF : ∀ m : Fin 8, (((nI m.val ||| 0) ||| 0 : Int32) = 16 * 0 + 8 * 0 + nI m.val) ∧ (((nI m.val ||| 8) ||| 0 : Int32) = 16 * 0 + 8 * 1 + nI m.val) ∧ (((nI m.val ||| 0) ||| 16 : Int32) = 16 * 1 + 8 * 0 + nI m.val) ∧ (((nI m.val ||| 8) ||| 16 : Int32) = 16 * 1 + 8 * 1 + nI m.val) := by decide +kernel
theorem x_effs {T : Nat → Int32} {e : Nat} (he : e ≤ 240) {k : Nat} {out : List Int32} (hl : out.length ≤ 240) : ∀ q n p acc (μ : am_Mu), q ≤ 4 → q < n → CS T e μ (p, k, out) → p ≤ e → μ 7 7 = nI acc.length → RowIs (μ 12) acc → acc.length + q ≤ 96 → 0 ≤ μ 7 5 ∧ μ 7 5 ≤ 24 → match sp_eff T e q p acc with
    | .ok w => ∃ μ', fLawReader_readEffects_2 n (nI (4 - q)) μ = some μ' ∧ CS T e μ' (w.1, k, out) ∧ μ' 7 7 = nI w.2.length ∧ RowIs (μ' 12) w.2
    | .error x => ∃ μ', fLawReader_readEffects_2 n (nI (4 - q)) μ = some μ' ∧ CFr μ' x := by
  intro q
  induction q with
  | zero =>
    intro n p acc μ hq hn h hp h77 h12 hacc h75
    obtain ⟨n, rfl⟩ : ∃ k, n = k + 1 := ⟨n - 1, by omega⟩
    have key : ∀ (f : Nat), 0 < f ∧ f < 7 → fLawReader_readEffect (nI (4 - 0)) μ = ((fLawReader_fail (nI f) μ).bind fun q6 => some q6) → ∃ μ', fLawReader_readEffects_2 (n + 1) (nI (4 - 0)) μ = some μ' ∧ CFr μ' (f, p) := by
      intro f hf hfe
      obtain ⟨μ1, f1, f2⟩ := x_fail h hl f hf
      have fr := w_fLawReader_fail f1
      have c7 : CFr μ1 (f, p) := ⟨f2, by rw [fr 7 7 rfl, h77]; exact nI_pos' (by omega), by rw [fr 7 7 rfl, h77]; exact (nI_le_iff (b := 96) (by omega) (by omega)).mpr (by omega), by rw [fr 7 5 rfl]; exact h75.1, by rw [fr 7 5 rfl]; exact h75.2⟩
      refine ⟨μ1, ?_, c7⟩
      rw [fLawReader_readEffects_2, if_neg (by decide), hfe, f1, Option.bind_some, Option.bind_some, x_goesF f2 (by decide), Option.bind_some]
      dsimp only
      rw [if_neg (by decide)]
    have hs := x_sign he h (show p ≤ 1000 by omega)
    unfold sp_eff
    by_cases h120 : sgT T e p = 120
    · rw [if_pos (Or.inl h120)]
      refine key 3 (by omega) ?_
      unfold fLawReader_readEffect fLawReader_readEffect_23
      rw [hs, Option.bind_some]
      dsimp only
      rw [if_pos h120, if_neg (by decide)]
      rfl
    · by_cases h121 : sgT T e p = 121
      · rw [if_pos (Or.inr h121)]
        refine key 3 (by omega) ?_
        unfold fLawReader_readEffect fLawReader_readEffect_23
        rw [hs, Option.bind_some]
        dsimp only
        rw [if_neg h120, if_pos h121, if_neg (by decide)]
        rfl
      · rw [if_neg (by rintro (h | h) <;> contradiction)]
        refine key 1 (by omega) ?_
        unfold fLawReader_readEffect
        rw [hs, Option.bind_some]
        dsimp only
        rw [if_neg h120, if_neg h121]
        rfl
  | succ q ih =>
    intro n p acc μ hq hn h hp h77 h12 hacc h75
    obtain ⟨n, rfl⟩ : ∃ k, n = k + 1 := ⟨n - 1, by omega⟩
    have h4 : ¬ (4 : Int32) < nI (4 - (q + 1)) := by
      show ¬ nI 4 < _
      rw [nI_lt_iff (by omega) (by omega)]
      omega
    have bad : ∀ (μ0 μ1 : am_Mu) x, fLawReader_readEffect (nI (4 - (q + 1))) μ = some μ1 → CF μ1 x → μ1 7 7 = nI acc.length ∨ μ1 7 7 = nI (acc.length + 1) → μ1 7 5 = μ 7 5 → ∃ μ', fLawReader_readEffects_2 (n + 1) (nI (4 - (q + 1))) μ = some μ' ∧ CFr μ' x := by
      intro μ0 μ1 x g1 g2 g3 g4
      have c7 : CFr μ1 x := by
        refine ⟨g2, ?_, ?_, by rw [g4]; exact h75.1, by rw [g4]; exact h75.2⟩
        · rcases g3 with g | g <;> rw [g] <;> exact nI_pos' (by omega)
        · rcases g3 with g | g <;> rw [g] <;> exact (nI_le_iff (b := 96) (by omega) (by omega)).mpr (by omega)
      refine ⟨μ1, ?_, c7⟩
      rw [fLawReader_readEffects_2, if_neg h4, g1, Option.bind_some, x_goesF g2 (by decide), Option.bind_some]
      dsimp only
      rw [if_neg (by decide)]
    have hs := x_sign he h (show p ≤ 1000 by omega)
    unfold sp_eff
    by_cases hsd : sdT T e p
    · rw [if_pos hsd]
      have hpe : p < e := by rcases hsd with h | h <;> exact sg_lt h (by decide)
      have e1 : fLawReader_readEffect (nI (4 - (q + 1))) μ = fLawReader_readEffect_23 (nI (4 - (q + 1))) (sgT T e p) μ := by
        unfold fLawReader_readEffect
        rw [hs, Option.bind_some]
        dsimp only
        by_cases h120 : sgT T e p = 120
        · rw [if_pos h120]
        · rw [if_neg h120, if_pos (by rcases hsd with h | h; exact absurd h h120; exact h)]
      have hN : CS T e (am_up μ 5 4 (μ 5 4 + 1)) (p + 1, k, out) := h.next
      have hs1 := x_sign he hN (show p + 1 ≤ 1000 by omega)
      have e2 : fLawReader_readEffect_23 (nI (4 - (q + 1))) (sgT T e p) μ = if pmT T e (p + 1) then fLawReader_readEffect_67 (sgT T e p) (sgT T e (p + 1)) (am_up μ 5 4 (μ 5 4 + 1)) else ((fLawReader_fail 1 (am_up μ 5 4 (μ 5 4 + 1))).bind fun q5 => some q5) := by
        unfold fLawReader_readEffect_23
        rw [if_pos (show nI (4 - (q + 1)) < 4 from (nI_lt_iff (b := 4) (by omega) (by omega)).mpr (by omega)), hs1, Option.bind_some]
        dsimp only
        by_cases h43 : sgT T e (p + 1) = 43
        · rw [if_pos h43, if_pos (Or.inl h43)]
        · rw [if_neg h43]
          by_cases h45 : sgT T e (p + 1) = 45
          · rw [if_pos h45, if_pos (Or.inr h45)]
          · rw [if_neg h45, if_neg (by rintro (h | h) <;> contradiction)]
      by_cases hpm : pmT T e (p + 1)
      · rw [if_pos hpm]
        rw [if_pos hpm] at e2
        have hpe1 : p + 1 < e := by rcases hpm with h | h <;> exact sg_lt h (by decide)
        have hN2 : CS T e (am_up (am_up μ 5 4 (μ 5 4 + 1)) 5 4 (am_up μ 5 4 (μ 5 4 + 1) 5 4 + 1)) (p + 2, k, out) := hN.next
        have hmk := x_mark he hN2 (show p + 2 ≤ 1000 by omega) hl
        change (if mkT T e (p + 2) then _ else _) at hmk
        -- an effect is added, in one form
        have form : ∀ (m : Int32) (ν : am_Mu), (if ¬ sgT T e p = 121 then fLawReader_readEffect_101 (sgT T e (p + 1)) m 0 ν else fLawReader_readEffect_101 (sgT T e (p + 1)) m 8 ν) = fLaw_addEffect 7 ((m ||| (if sgT T e p = 121 then 8 else 0)) ||| (if sgT T e (p + 1) = 43 then 16 else 0)) ν := by
          intro m ν
          have bs : ∀ x : Option am_Mu, (x.bind fun q => some q) = x := fun x => by cases x <;> rfl
          unfold fLawReader_readEffect_101 fLawReader_readEffect_114
          by_cases h121 : sgT T e p = 121
          · rw [if_neg (by simpa using h121), if_pos h121]
            by_cases h43 : sgT T e (p + 1) = 43
            · rw [if_neg (by simpa using h43), if_pos h43, bs]
            · rw [if_pos h43, if_neg h43, bs]
          · rw [if_pos h121, if_neg h121]
            by_cases h43 : sgT T e (p + 1) = 43
            · rw [if_neg (by simpa using h43), if_pos h43, bs]
            · rw [if_pos h43, if_neg h43, bs]
        by_cases hm : mkT T e (p + 2)
        · rw [if_pos hm] at hmk ⊢
          obtain ⟨μ1, m1, m2⟩ := hmk
          have hpe2 := mk_lt hm
          have frm : am_fr [(5, 4), (5, 5)] _ μ1 := w_fLawReader_readMark m1
          have a77 : μ1 7 7 = nI acc.length := by
            rw [frm 7 7 rfl]
            simpa [upa] using h77
          have a75 : μ1 7 5 = μ 7 5 := by
            rw [frm 7 5 rfl]
            simp [upa]
          have a12 : RowIs (μ1 12) acc := by
            intro j hj
            rw [frm 12 j rfl]
            simpa [upa] using h12 j hj
          have ecode : ((sgT T e (p + 2) - 97) ||| (if sgT T e p = 121 then 8 else 0)) ||| (if sgT T e (p + 1) = 43 then 16 else 0) = efC T e p := by
            unfold efC
            have hx := nt_lt (b := 8) hm.1 hm.2
            have e8 : (sgT T e (p + 2) - 97) = nI (sgT T e (p + 2) - 97).toNatClampNeg := (nI_nt hm.1).symm
            obtain ⟨f1, f2, f3, f4⟩ := efF ⟨_, hx⟩
            dsimp only at f1 f2 f3 f4
            rw [← e8] at f1 f2 f3 f4
            by_cases h121 : sgT T e p = 121
            · by_cases h43 : sgT T e (p + 1) = 43
              · rw [if_pos h121, if_pos h43, if_pos h121, if_pos h43]; exact f4
              · rw [if_pos h121, if_neg h43, if_pos h121, if_neg h43]; exact f2
            · by_cases h43 : sgT T e (p + 1) = 43
              · rw [if_neg h121, if_pos h43, if_neg h121, if_pos h43]; exact f3
              · rw [if_neg h121, if_neg h43, if_neg h121, if_neg h43]; exact f1
          have e3 : fLawReader_readEffect (nI (4 - (q + 1))) μ = some (am_up (am_up μ1 12 acc.length (efC T e p)) 7 7 (nI (acc.length + 1))) := by
            rw [e1, e2]
            unfold fLawReader_readEffect_67
            rw [m1, Option.bind_some]
            dsimp only
            rw [form]
            change fLaw_addEffect 7 (((sgT T e (p + 2) - 97) ||| (if sgT T e p = 121 then 8 else 0)) ||| (if sgT T e (p + 1) = 43 then 16 else 0)) μ1 = _
            rw [ecode]
            unfold fLaw_addEffect
            rw [show am_isLaw 7 = true from rfl, cond_true, a77, if_neg (by show ¬ nI 96 ≤ _; rw [nI_le_iff (by omega) (by omega)]; omega), inb_n (by omega) (by omega), cond_true, nI_clamp (by omega), show (am_up μ1 (7 + 5) acc.length (efC T e p)) 7 7 = μ1 7 7 from rfl, a77, show nI acc.length + 1 = nI (acc.length + 1) from nI_plus _ 1]
          generalize hξ : am_up (am_up μ1 12 acc.length (efC T e p)) 7 7 (nI (acc.length + 1)) = ξ at e3
          have x77 : ξ 7 7 = nI (acc ++ [efC T e p]).length := by rw [← hξ, up_eq, List.length_append, List.length_singleton]
          have x75 : ξ 7 5 = μ 7 5 := by rw [← hξ, ← a75]; simp [upa]
          have x12 : RowIs (ξ 12) (acc ++ [efC T e p]) := by
            refine RowIs.app a12 ?_
            intro j
            rw [← hξ, up_row (by decide), up_at]
          have xCS : CS T e ξ (p + 3, k, out) := by
            obtain ⟨c1, c2, c3, c4, c5, c6, c7⟩ := m2
            rw [← hξ]
            exact ⟨by simp [upa, c1], by simp [upa, c2], by simp [upa, c3], by simp [upa, c4], by simp [upa, c5], fun j hj => by simpa [upa] using c6 j hj, fun j hj => by simp [upa, c7 j hj]⟩
          by_cases h44 : sgT T e (p + 3) = 44
          · rw [if_pos h44]
            have hpe3 := sg_lt h44 (by decide)
            rw [fLawReader_readEffects_2, if_neg h4, e3, Option.bind_some, x_goes he xCS (show p + 3 ≤ 1000 by omega), Option.bind_some, b2i_t h44]
            dsimp only
            rw [if_pos (by decide), show nI (4 - (q + 1)) + 1 = nI (4 - q) by rw [show (4 - q) = (4 - (q + 1)) + 1 by omega]; exact nI_plus _ 1]
            exact ih n (p + 4) (acc ++ [efC T e p]) _ (by omega) (by omega) xCS.next (by omega) (by rw [up_ne (by decide)]; exact x77) (fun j hj => by rw [up_row (by decide)]; exact x12 j hj) (by rw [List.length_append, List.length_singleton]; omega) (by rw [up_ne (by decide), x75]; exact h75)
          · rw [if_neg h44]
            dsimp only
            refine ⟨ξ, ?_, xCS, x77, x12⟩
            rw [fLawReader_readEffects_2, if_neg h4, e3, Option.bind_some, x_goes he xCS (show p + 3 ≤ 1000 by omega), Option.bind_some, b2i_f h44]
            dsimp only
            rw [if_neg (by decide)]
        · rw [if_neg hm] at hmk ⊢
          dsimp only
          obtain ⟨μ1, m1, m2⟩ := hmk
          have frm : am_fr [(5, 4), (5, 5)] _ μ1 := w_fLawReader_readMark m1
          have a77 : μ1 7 7 = nI acc.length := by
            rw [frm 7 7 rfl]
            simpa [upa] using h77
          have a75 : μ1 7 5 = μ 7 5 := by
            rw [frm 7 5 rfl]
            simp [upa]
          have c7 : CFr μ1 (1, p + 2) := ⟨m2, by rw [a77]; exact nI_pos' (by omega), by rw [a77]; exact (nI_le_iff (b := 96) (by omega) (by omega)).mpr (by omega), by rw [a75]; exact h75.1, by rw [a75]; exact h75.2⟩
          obtain ⟨μ2, k1, k2⟩ := x_addEF c7 ((0 ||| (if sgT T e p = 121 then 8 else 0)) ||| (if sgT T e (p + 1) = 43 then 16 else 0))
          have e3 : fLawReader_readEffect (nI (4 - (q + 1))) μ = some μ2 := by
            rw [e1, e2]
            unfold fLawReader_readEffect_67
            rw [m1, Option.bind_some]
            dsimp only
            rw [form, k1]
          refine ⟨μ2, ?_, k2⟩
          rw [fLawReader_readEffects_2, if_neg h4, e3, Option.bind_some, x_goesF k2.1 (by decide), Option.bind_some]
          dsimp only
          rw [if_neg (by decide)]
      · rw [if_neg hpm]
        rw [if_neg hpm] at e2
        dsimp only
        obtain ⟨μ1, f1, f2⟩ := x_fail hN hl 1 (by omega)
        have fr := w_fLawReader_fail f1
        change fLawReader_fail 1 _ = some μ1 at f1
        exact bad μ μ1 (1, p + 1) (by rw [e1, e2, f1, Option.bind_some]) f2 (Or.inl (by rw [fr 7 7 rfl]; simpa [upa] using h77)) (by rw [fr 7 5 rfl]; simp [upa])
    · rw [if_neg hsd]
      dsimp only
      obtain ⟨μ1, f1, f2⟩ := x_fail h hl 1 (by omega)
      have fr := w_fLawReader_fail f1
      change fLawReader_fail 1 _ = some μ1 at f1
      refine bad μ μ1 (1, p) ?_ f2 (Or.inl (by rw [fr 7 7 rfl]; exact h77)) (by rw [fr 7 5 rfl])
      unfold fLawReader_readEffect
      rw [hs, Option.bind_some]
      dsimp only
      rw [if_neg (fun h => hsd (Or.inl h)), if_neg (fun h => hsd (Or.inr h)), f1, Option.bind_some]
