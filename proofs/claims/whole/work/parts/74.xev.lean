/-! E: the class asks conditions and does effects -/
theorem shr3 {n : Nat} (h : n < 2 ^ 31) : nI n >>> ((3 : Int32) &&& 31) = nI (n / 8) := by
  rw [show ((3 : Int32) &&& 31) = 3 by decide]
  unfold nI
  apply Int32.toBitVec_inj.mp
  rw [Int32.toBitVec_shiftRight, show (3 : Int32).toBitVec.smod 32 = 3#32 by decide, show (Int32.ofNat n).toBitVec.sshiftRight' 3#32 = (Int32.ofNat n).toBitVec.sshiftRight 3 from rfl, BitVec.sshiftRight_eq_of_msb_false]
  · apply BitVec.eq_of_toNat_eq
    simp [Nat.shiftRight_eq_div_pow]
    omega
  · rw [BitVec.msb_eq_false_iff_two_mul_lt]
    simp
    omega
theorem shr7 {n : Nat} (h : n < 2 ^ 31) : nI n >>> ((7 : Int32) &&& 31) = nI (n / 128) := by
  rw [show ((7 : Int32) &&& 31) = 7 by decide]
  unfold nI
  apply Int32.toBitVec_inj.mp
  rw [Int32.toBitVec_shiftRight, show (7 : Int32).toBitVec.smod 32 = 7#32 by decide, show (Int32.ofNat n).toBitVec.sshiftRight' 7#32 = (Int32.ofNat n).toBitVec.sshiftRight 7 from rfl, BitVec.sshiftRight_eq_of_msb_false]
  · apply BitVec.eq_of_toNat_eq
    simp [Nat.shiftRight_eq_div_pow]
    omega
  · rw [BitVec.msb_eq_false_iff_two_mul_lt]
    simp
    omega
theorem and8F : ∀ m : Fin 16, m.val &&& 8 = 8 * (m.val / 8 % 2) := by decide +kernel
theorem nat_and8 (n : Nat) : n &&& 8 = 8 * (n / 8 % 2) := by
  have h1 : (n &&& 8) % 2 ^ 4 = (n % 2 ^ 4) &&& (8 % 2 ^ 4) := Nat.and_mod_two_pow
  have h2 : n &&& 8 ≤ 8 := Nat.and_le_right
  have h3 := and8F ⟨n % 16, Nat.mod_lt _ (by decide)⟩
  dsimp only at h3
  have h4 : (8 : Nat) % 2 ^ 4 = 8 := rfl
  rw [h4] at h1
  have h5 : (2 : Nat) ^ 4 = 16 := rfl
  rw [h5] at h1
  rw [h3] at h1
  omega
theorem nat_and7 (n : Nat) : n &&& 7 = n % 8 := Nat.and_two_pow_sub_one_eq_mod n 3
theorem and8_z {n : Nat} (h : n < 2 ^ 31) : (nI n &&& 8 = 0) ↔ n / 8 % 2 = 0 := by
  have e1 : nI n &&& 8 = nI (8 * (n / 8 % 2)) := by
    show nI n &&& nI 8 = _
    rw [nI_and, nat_and8]
  rw [e1, show (0 : Int32) = nI 0 from rfl, nI_inj (by omega) (by omega)]
  omega
theorem and7_e (n : Nat) : nI n &&& 7 = nI (n % 8) := by
  show nI n &&& nI 7 = _
  rw [nI_and, nat_and7]
def yI (y : Option Nat) : Int32 := match y with
  | none => -1
  | some t => nI t
theorem yI_n {t : Nat} (h : t < 20) : ¬ nI t = -1 := by
  intro e
  have h0 := nI_pos' (n := t) (by omega)
  rw [e] at h0
  exact absurd h0 (by decide)
/-- the operand of a step -/
theorem x_opnd {W : Wd} {x : Nat} {y : Option Nat} (hx : x < 20) (hy : ∀ t, y = some t → t < 20) {m c : Int32} {X : am_Mu} (hA : AW (fun k => k / 8 = x ∨ some (k / 8) = y) X W) (hc : c = stC 0 0 0 ∨ (∃ b, b < 16 ∧ c = stC 4 (nI b) 0) ∨ ∃ b v, b < 16 ∧ v < 1000000 ∧ c = stC 5 (nI b) (nI v)) : fJudge_askOperand c (nI x) (yI y) m X = some (opv (ahA W x y) m c, X) := by
  rcases hc with rfl | hc
  · unfold fJudge_askOperand opv
    rw [if_neg (by decide), if_pos (by decide)]
  · have both : ∃ a b v : Nat, (a = 4 ∧ v = 0 ∨ a = 5) ∧ b < 16 ∧ v < 1000000 ∧ c = nI (a + 8 * b + 128 * v) := by
      rcases hc with ⟨b, h1, h2⟩ | ⟨b, v, h1, h2, h3⟩
      · exact ⟨4, b, 0, Or.inl ⟨rfl, rfl⟩, h1, by omega, by rw [h2]; exact st_nat (a := 4) (v := 0) (by omega) h1⟩
      · exact ⟨5, b, v, Or.inr rfl, h1, h2, by rw [h3]; exact st_nat (a := 5) (by omega) h1⟩
    obtain ⟨a, b, v, ha, hb, hv, rfl⟩ := both
    clear hc
    have ha2 : a = 4 ∨ a = 5 := by
      rcases ha with ⟨h, -⟩ | h
      · exact Or.inl h
      · exact Or.inr h
    have e7 : nI (a + 8 * b + 128 * v) &&& 7 = nI a := by
      rw [and7_e]
      congr 1
      omega
    have e3 : nI (a + 8 * b + 128 * v) >>> ((3 : Int32) &&& 31) = nI (b + 16 * v) := by
      rw [shr3 (by omega)]
      congr 1
      omega
    have e77 : nI (a + 8 * b + 128 * v) >>> ((7 : Int32) &&& 31) = nI v := by
      rw [shr7 (by omega)]
      congr 1
      omega
    have ent : (nI (a + 8 * b + 128 * v)).toNatClampNeg = a + 8 * b + 128 * v := nI_clamp (by omega)
    have na0 : ¬ nI a = 0 := by rcases ha2 with rfl | rfl <;> decide
    have z8 : (nI (b + 16 * v) &&& 8 = 0) ↔ b < 8 := by
      rw [and8_z (by omega)]
      omega
    have z7 : nI (b + 16 * v) &&& 7 = nI (b % 8) := by
      rw [and7_e]
      congr 1
      omega
    unfold opv
    rw [e7, ent, if_neg na0, show (a + 8 * b + 128 * v) / 8 % 16 = b by omega, show (a + 8 * b + 128 * v) / 128 = v by omega]
    -- one thing, of x's side or of y's
    have one : ∀ t, t < 20 → (∀ k, k / 8 = t → X 53 k = (W k).1 ∧ (¬ (W k).1 = 0 → X 54 k = (W k).2.1 ∧ X 55 k = (W k).2.2)) → fJudge_askOperand_31 (nI (a + 8 * b + 128 * v)) m (nI a) (nI (b + 16 * v)) (nI t) X = some ((if nI a = 4 then (W (8 * t + b % 8)).1 else lat (W (8 * t + b % 8)) m (nI v)), X) := by
      intro t ht hX
      have ep : nI t * 8 + nI (b % 8) = nI (8 * t + b % 8) := by
        show nI t * nI 8 + _ = _
        rw [nI_mul, nI_plus, Nat.mul_comm]
      obtain ⟨w1, w2⟩ := hX (8 * t + b % 8) (by omega)
      unfold fJudge_askOperand_31
      rw [if_pos (yI_n ht), z7, ep, e77, inb_n (show 8 * t + b % 8 < 160 by omega) (by omega), nI_clamp (show 8 * t + b % 8 < 2 ^ 31 by omega), w1]
      by_cases h4 : nI a = 4
      · rw [if_pos h4, if_pos h4, cond_true]
      · rw [if_neg h4, if_neg h4, cond_true]
        unfold lat
        by_cases h0 : (W (8 * t + b % 8)).1 = 0
        · rw [if_neg (by simpa using h0), if_pos h0, h0]
        · obtain ⟨w3, w4⟩ := w2 h0
          rw [if_pos h0, if_neg h0, w3, w4]
          by_cases hl : m - (W (8 * t + b % 8)).2.2 < nI v
          · rw [if_pos hl, if_pos hl]
            by_cases he : m - (W (8 * t + b % 8)).2.1 < nI v
            · rw [if_neg (Int32.not_le.mpr he), if_pos he]
            · rw [if_pos (Int32.not_lt.mp he), if_neg he]
          · rw [if_neg hl, if_neg hl]
    unfold fJudge_askOperand
    rw [e7, e3, if_pos na0]
    unfold ahA
    by_cases hb8 : b < 8
    · rw [if_neg (by rw [z8]; simpa using hb8), one x hx (fun k hk => hA k (Or.inl hk)), if_pos hb8, show b % 8 = b by omega]
    · rw [if_pos (by rw [z8]; exact hb8), if_neg hb8]
      cases hy' : y with
      | none =>
        unfold fJudge_askOperand_31 yI
        dsimp only
        rw [if_neg (by decide)]
        unfold z3 lat
        dsimp only
        rw [if_pos rfl]
        split <;> rfl
      | some t =>
        unfold yI
        dsimp only
        rw [one t (hy t hy') (fun k hk => hA k (Or.inr (by rw [hy', hk]))), show b - 8 = b % 8 by omega]
/-! the rows of a rule -/
theorem flS_take {rs : List LR} {r : Nat} (h : r < rs.length) : flS (rs.take (r + 1)) = flS (rs.take r) ++ (rs.getD r dR).2.1 ∧ flS rs = flS (rs.take (r + 1)) ++ flS (rs.drop (r + 1)) ∧ flE (rs.take (r + 1)) = flE (rs.take r) ++ (rs.getD r dR).2.2 ∧ flE rs = flE (rs.take (r + 1)) ++ flE (rs.drop (r + 1)) := by
  have e1 : rs.take (r + 1) = rs.take r ++ [rs.getD r dR] := by
    rw [List.take_succ]
    simp [List.getD_eq_getElem?_getD, List.getElem?_eq_getElem h]
  have e2 : rs = rs.take (r + 1) ++ rs.drop (r + 1) := (List.take_append_drop _ _).symm
  have c1 : flS [rs.getD r dR] = (rs.getD r dR).2.1 := by show _ ++ [] = _; rw [List.append_nil]
  have c2 : flE [rs.getD r dR] = (rs.getD r dR).2.2 := by show _ ++ [] = _; rw [List.append_nil]
  refine ⟨by rw [e1, flS_app, c1], by rw [← flS_app, ← e2], by rw [e1, flE_app, c2], by rw [← flE_app, ← e2]⟩
theorem getD_mid {A B C : List Int32} {i : Nat} (h : i < B.length) : ((A ++ B) ++ C).getD (A.length + i) 0 = B.getD i 0 := by
  simp only [List.getD_eq_getElem?_getD]
  rw [List.getElem?_append_left (by rw [List.length_append]; omega), List.getElem?_append_right (by omega), show A.length + i - A.length = i by omega]
theorem evS_not {A : Wd} {m c x : Int32} {l r : List Int32} (h : c &&& 7 = 1) : evS A m (c :: l) (x :: r) = evS A m l ((2 - x) :: r) := by
  rw [evS.eq_def]
  dsimp only
  rw [if_pos h]
theorem evS_and {A : Wd} {m c x y : Int32} {l r : List Int32} (h : c &&& 7 = 2) : evS A m (c :: l) (x :: y :: r) = evS A m l ((if x < y then x else y) :: r) := by
  rw [evS.eq_def]
  dsimp only
  rw [if_neg (by rw [h]; decide), if_pos h]
theorem evS_or {A : Wd} {m c x y : Int32} {l r : List Int32} (h : c &&& 7 = 3) : evS A m (c :: l) (x :: y :: r) = evS A m l ((if y < x then x else y) :: r) := by
  rw [evS.eq_def]
  dsimp only
  rw [if_neg (by rw [h]; decide), if_neg (by rw [h]; decide), if_pos h]
theorem evS_op {A : Wd} {m c : Int32} {l st : List Int32} (h1 : ¬ c &&& 7 = 1) (h2 : ¬ c &&& 7 = 2) (h3 : ¬ c &&& 7 = 3) : evS A m (c :: l) st = evS A m l (opv A m c :: st) := by
  rw [evS.eq_def]
  dsimp only
  rw [if_neg h1, if_neg h2, if_neg h3]
theorem isL_of {L : Nat} (h : L = 28 ∨ L = 34 ∨ L = 40 ∨ L = 46) : am_isLaw L = true ∧ 28 ≤ L ∧ L ≤ 46 := by rcases h with rfl | rfl | rfl | rfl <;> decide
theorem x_ask {L : Nat} (hL : L = 28 ∨ L = 34 ∨ L = 40 ∨ L = 46) {W : Wd} {x : Nat} {y : Option Nat} (hx : x < 20) (hy : ∀ t, y = some t → t < 20) {m : Int32} {rs : List LR} (hg : LG rs) {r : Nat} (hr : r < rs.length) {X0 : am_Mu} (hX : LX L X0 rs) (hA : AW (fun k => k / 8 = x ∨ some (k / 8) = y) X0 W) : ∀ rest pre st n (X : am_Mu), (rs.getD r dR).2.1 = pre ++ rest → dpS rest st.length = some 1 → st.length + opS rest ≤ 80 → rest.length < n → RowIs (X 56) st.reverse → (∀ a, ¬ a = 56 → X a = X0 a) → ∃ X', fJudge_ask_10 n L (nI r) (nI x) (yI y) m (nI st.length) (nI ((flS (rs.take r)).length + pre.length)) X = some ((evS (ahA W x y) m rest st).headD 0, X') ∧ ∀ a, ¬ a = 56 → X' a = X0 a := by
  obtain ⟨hl1, hl2, hl3⟩ := isL_of hL
  obtain ⟨t1, t2, -, -⟩ := flS_take hr
  obtain ⟨g1, g2, g3, g4⟩ := hg
  have hRG := g1 _ (getD_mem (d := dR) hr)
  have hend : X0 (L + 2) r = nI ((flS (rs.take r)).length + (rs.getD r dR).2.1.length) := by
    rw [(hX.2.1 r hr).2.1, t1, List.length_append]
  have hsegl : (flS (rs.take r)).length + (rs.getD r dR).2.1.length ≤ 240 := by
    have : (flS rs).length = (flS (rs.take r)).length + (rs.getD r dR).2.1.length + (flS (rs.drop (r + 1))).length := by
      rw [t2, t1, List.length_append, List.length_append]
    omega
  have hrow : ∀ i, i < (rs.getD r dR).2.1.length → (flS (rs.take r)).length + i < 240 ∧ X0 (L + 4) ((flS (rs.take r)).length + i) = (rs.getD r dR).2.1.getD i 0 := by
    intro i hi
    have hlen : (flS (rs.take r)).length + i < (flS rs).length := by
      rw [t2, t1, List.length_append, List.length_append]
      omega
    refine ⟨by omega, ?_⟩
    rw [hX.2.2.1 _ hlen, t2, t1, getD_mid hi]
  intro rest
  induction rest with
  | nil =>
    intro pre st n X hseg hdp hop hn hst hfr
    obtain ⟨n, rfl⟩ : ∃ k, n = k + 1 := ⟨n - 1, by omega⟩
    rw [List.append_nil] at hseg
    have hlen : st.length = 1 := by
      unfold dpS at hdp
      exact Option.some.inj hdp
    rw [fJudge_ask_10, hl1, cond_true, inb_n (by omega) (by omega), cond_true, nI_clamp (by omega), hfr (L + 2) (by omega), hend, hseg, if_pos (Int32.le_refl _)]
    unfold fJudge_ask_188 evS
    rw [hlen, if_neg (by decide)]
    refine ⟨X, ?_, hfr⟩
    match st, hlen with
    | [v], _ =>
      have := hst 0 (by simp)
      rw [this]
      rfl
  | cons c l ih =>
    intro pre st n X hseg hdp hop hn hst hfr
    obtain ⟨n, rfl⟩ : ∃ k, n = k + 1 := ⟨n - 1, by omega⟩
    rw [List.length_cons] at hn
    have hpl : pre.length < (rs.getD r dR).2.1.length := by rw [hseg, List.length_append, List.length_cons]; omega
    have hcode : (rs.getD r dR).2.1.getD pre.length 0 = c := by
      rw [hseg]
      simp [List.getD_eq_getElem?_getD]
    obtain ⟨r1, r2⟩ := hrow _ hpl
    rw [hcode] at r2
    have hcG := hRG.2.2.2.1 c (by rw [hseg]; simp)
    have hsl : st.length ≤ 80 := by omega
    have nxt : ∀ (st' : List Int32) (X' : am_Mu), dpS l st'.length = some 1 → st'.length + opS l ≤ 80 → RowIs (X' 56) st'.reverse → (∀ a, ¬ a = 56 → X' a = X0 a) → evS (ahA W x y) m l st' = evS (ahA W x y) m (c :: l) st → ∃ X'', fJudge_ask_182 (fJudge_ask_10 n) L (nI r) (nI x) (yI y) m (nI st'.length) (nI ((flS (rs.take r)).length + pre.length)) X' = some ((evS (ahA W x y) m (c :: l) st).headD 0, X'') ∧ ∀ a, ¬ a = 56 → X'' a = X0 a := by
      intro st' X' h1 h2 h3 h4 h5
      unfold fJudge_ask_182
      rw [show nI ((flS (rs.take r)).length + pre.length) + 1 = nI ((flS (rs.take r)).length + (pre ++ [c]).length) by rw [List.length_append, List.length_singleton, ← Nat.add_assoc]; exact nI_plus _ 1, ← h5]
      exact ih (pre ++ [c]) st' n X' (by rw [hseg, List.append_assoc]; rfl) h1 h2 (by omega) h3 h4
    rw [fJudge_ask_10, hl1, cond_true, inb_n (show r < 24 by omega) (by omega), cond_true, nI_clamp (show r < 2 ^ 31 by omega), hfr (L + 2) (by omega), hend, if_neg (by rw [nI_le_iff (by omega) (by omega)]; omega), inb_n r1 (by omega), cond_true, nI_clamp (show (flS (rs.take r)).length + pre.length < 2 ^ 31 by omega), hfr (L + 4) (by omega), r2]
    -- two values become one
    have pair : ∀ (v : Int32) (a9 : Int32), (c &&& 7 = a9) → (a9 = 2 ∨ a9 = 3) → ∃ X'', fJudge_ask_83 (fJudge_ask_10 n) L (nI r) (nI x) (yI y) m (nI st.length) (nI ((flS (rs.take r)).length + pre.length)) a9 X = some ((evS (ahA W x y) m (c :: l) st).headD 0, X'') ∧ ∀ a, ¬ a = 56 → X'' a = X0 a := by
      intro _ a9 h7 h23
      have h71 : ¬ c &&& 7 = 1 := by rw [h7]; rcases h23 with h | h <;> rw [h] <;> decide
      have hdp' : 2 ≤ st.length ∧ dpS l (st.length - 1) = some 1 := by
        unfold dpS at hdp
        rw [if_neg h71, if_pos (by rw [h7]; exact h23)] at hdp
        split at hdp
        · exact ⟨by assumption, hdp⟩
        · cases hdp
      have hop' : opS (c :: l) = opS l := by
        show (if c &&& 7 = 1 ∨ c &&& 7 = 2 ∨ c &&& 7 = 3 then opS l else opS l + 1) = _
        rw [if_pos (by rw [h7]; exact Or.inr h23)]
      match st, hdp', hst with
      | p :: q :: s, hdp', hst =>
        have hl2' : (p :: q :: s).length = s.length + 2 := rfl
        have e0 : X 56 (s.length + 1) = p := by
          rw [hst (s.length + 1) (by simp)]
          simp [List.getD_eq_getElem?_getD]
        have e1 : X 56 s.length = q := by
          rw [hst s.length (by simp)]
          simp [List.getD_eq_getElem?_getD, List.getElem?_append_left, List.getElem?_append_right]
        have i1 : nI (s.length + 2) + (-1) = nI (s.length + 1) := by
          have : nI (s.length + 2) = nI (s.length + 1) + 1 := (nI_plus (s.length + 1) 1).symm
          rw [this]
          grind
        have i2 : nI (s.length + 1) - 1 = nI s.length := nI_sub (a := s.length + 1) (b := 1) (by omega)
        have fin : ∀ (v : Int32), evS (ahA W x y) m l (v :: s) = evS (ahA W x y) m (c :: l) (p :: q :: s) → ∃ X'', fJudge_ask_147 (fJudge_ask_10 n) L (nI r) (nI x) (yI y) m (nI (s.length + 1)) (nI ((flS (rs.take r)).length + pre.length)) (nI s.length) v X = some ((evS (ahA W x y) m (c :: l) (p :: q :: s)).headD 0, X'') ∧ ∀ a, ¬ a = 56 → X'' a = X0 a := by
          intro v hv
          unfold fJudge_ask_147
          rw [inb_n (by omega) (by omega), cond_true, nI_clamp (by omega)]
          refine nxt (v :: s) _ (by rw [List.length_cons]; exact hdp'.2) (by rw [List.length_cons]; omega) ?_ (fun a ha => by rw [up_row ha, hfr a ha]) hv
          rw [List.reverse_cons]
          refine RowIs.app (r := X 56) ?_ ?_
          · rw [List.reverse_cons, List.reverse_cons] at hst
            exact hst.left.left
          · intro j
            rw [up_at, List.length_reverse]
        unfold fJudge_ask_83
        rw [hl2', if_neg (by show ¬ _ ≤ nI 1; rw [nI_le_iff (by omega) (by omega)]; omega), i1, i2, inb_n (show s.length < 80 by omega) (by omega), inb_n (show s.length + 1 < 80 by omega) (by omega), cond_true, cond_true, nI_clamp (show s.length < 2 ^ 31 by omega), nI_clamp (show s.length + 1 < 2 ^ 31 by omega), e0, e1]
        rcases h23 with h | h
        · rw [if_neg (by rw [h]; decide), cond_true, cond_true]
          refine fin _ ?_
          exact (evS_and (by rw [h7, h])).symm
        · rw [if_pos (by rw [h]; decide)]
          refine fin _ ?_
          exact (evS_or (by rw [h7, h])).symm
    have opd : (c = stC 0 0 0 ∨ (∃ b, b < 16 ∧ c = stC 4 (nI b) 0) ∨ ∃ b v, b < 16 ∧ v < 1000000 ∧ c = stC 5 (nI b) (nI v)) → ∃ X'', (if ¬ c &&& 7 = 1 then (if c &&& 7 = 2 then fJudge_ask_83 (fJudge_ask_10 n) L (nI r) (nI x) (yI y) m (nI st.length) (nI ((flS (rs.take r)).length + pre.length)) (c &&& 7) X else (if ¬ c &&& 7 = 3 then (if 80 ≤ nI st.length then fJudge_ask_182 (fJudge_ask_10 n) L (nI r) (nI x) (yI y) m (nI st.length) (nI ((flS (rs.take r)).length + pre.length)) X else ((fJudge_askOperand c (nI x) (yI y) m X).bind fun q8 => (bif am_inb (nI st.length) 80 then fJudge_ask_182 (fJudge_ask_10 n) L (nI r) (nI x) (yI y) m (nI st.length + 1) (nI ((flS (rs.take r)).length + pre.length)) (am_up q8.2 56 ((nI st.length).toNatClampNeg) q8.1) else none))) else fJudge_ask_83 (fJudge_ask_10 n) L (nI r) (nI x) (yI y) m (nI st.length) (nI ((flS (rs.take r)).length + pre.length)) (c &&& 7) X)) else (if nI st.length ≤ 0 then fJudge_ask_182 (fJudge_ask_10 n) L (nI r) (nI x) (yI y) m (nI st.length) (nI ((flS (rs.take r)).length + pre.length)) X else (bif am_inb (nI st.length - 1) 80 then fJudge_ask_182 (fJudge_ask_10 n) L (nI r) (nI x) (yI y) m (nI st.length) (nI ((flS (rs.take r)).length + pre.length)) (am_up X 56 (((nI st.length - 1)).toNatClampNeg) ((2 : Int32) - (X 56 (((nI st.length - 1)).toNatClampNeg)))) else none))) = some ((evS (ahA W x y) m (c :: l) st).headD 0, X'') ∧ ∀ a, ¬ a = 56 → X'' a = X0 a := by
      intro hc
      have k7 : ¬ c &&& 7 = 1 ∧ ¬ c &&& 7 = 2 ∧ ¬ c &&& 7 = 3 := by
        rcases hc with rfl | ⟨b, hb, rfl⟩ | ⟨b, v, hb, hv, rfl⟩
        · decide
        · have := st7 (a := 4) (b := b) (v := 0) (by omega) hb
          rw [show stC 4 (nI b) 0 = stC (nI 4) (nI b) (nI 0) from rfl, this]
          decide
        · have := st7 (a := 5) (b := b) (v := v) (by omega) hb
          rw [show stC 5 (nI b) (nI v) = stC (nI 5) (nI b) (nI v) from rfl, this]
          decide
      obtain ⟨k1, k2, k3⟩ := k7
      have hdp' : dpS l (st.length + 1) = some 1 := by
        unfold dpS at hdp
        rw [if_neg k1, if_neg (by rintro (h | h) <;> contradiction)] at hdp
        exact hdp
      have hop' : opS (c :: l) = opS l + 1 := by
        show (if c &&& 7 = 1 ∨ c &&& 7 = 2 ∨ c &&& 7 = 3 then opS l else opS l + 1) = _
        rw [if_neg (by rintro (h | h | h) <;> contradiction)]
      have hA' : AW (fun k => k / 8 = x ∨ some (k / 8) = y) X W := by
        intro k hk
        rw [hfr 53 (by decide), hfr 54 (by decide), hfr 55 (by decide)]
        exact hA k hk
      rw [if_pos k1, if_neg k2, if_pos k3, if_neg (by show ¬ nI 80 ≤ _; rw [nI_le_iff (by omega) (by omega)]; omega), x_opnd hx hy hA' hc, Option.bind_some, inb_n (by omega) (by omega), cond_true, nI_clamp (by omega), show nI st.length + 1 = nI (opv (ahA W x y) m c :: st).length from nI_plus _ 1]
      dsimp only
      refine nxt (opv (ahA W x y) m c :: st) _ (by rw [List.length_cons]; exact hdp') (by rw [List.length_cons]; omega) ?_ (fun a ha => by rw [up_row ha, hfr a ha]) ?_
      · rw [List.reverse_cons]
        refine RowIs.app hst ?_
        intro j
        rw [up_at, List.length_reverse]
      · exact (evS_op k1 k2 k3).symm
    rcases hcG with h | h | h | h | h | h
    · exact opd (Or.inl h)
    · have k1 : c &&& 7 = 1 := by rw [h]; decide
      have hdp' : 1 ≤ st.length ∧ dpS l st.length = some 1 := by
        unfold dpS at hdp
        rw [if_pos k1] at hdp
        split at hdp
        · exact ⟨by assumption, hdp⟩
        · cases hdp
      have hop' : opS (c :: l) = opS l := by
        show (if c &&& 7 = 1 ∨ c &&& 7 = 2 ∨ c &&& 7 = 3 then opS l else opS l + 1) = _
        rw [if_pos (Or.inl k1)]
      match st, hdp', hst with
      | p :: s, hdp', hst =>
        have hl2' : (p :: s).length = s.length + 1 := rfl
        have e0 : X 56 s.length = p := by
          rw [hst s.length (by simp)]
          simp [List.getD_eq_getElem?_getD]
        have i2 : nI (s.length + 1) - 1 = nI s.length := nI_sub (a := s.length + 1) (b := 1) (by omega)
        rw [hl2', if_neg (by simpa using k1), if_neg (by show ¬ _ ≤ nI 0; rw [nI_le_iff (by omega) (by omega)]; omega), i2, inb_n (show s.length < 80 by omega) (by omega), cond_true, nI_clamp (show s.length < 2 ^ 31 by omega), e0]
        have := nxt ((2 - p) :: s) (am_up X 56 s.length (2 - p)) (by rw [List.length_cons]; exact hdp'.2) (by rw [List.length_cons]; omega) (by
          rw [List.reverse_cons]
          refine RowIs.app (r := X 56) ?_ ?_
          · rw [List.reverse_cons] at hst
            exact hst.left
          · intro j
            rw [up_at, List.length_reverse]) (fun a ha => by rw [up_row ha, hfr a ha]) (evS_not k1).symm
        exact this
    · have k7 : c &&& 7 = 2 := by rw [h]; decide
      rw [if_pos (by rw [k7]; decide), if_pos k7]
      exact pair 0 (c &&& 7) rfl (Or.inl k7)
    · have k7 : c &&& 7 = 3 := by rw [h]; decide
      rw [if_pos (by rw [k7]; decide), if_neg (by rw [k7]; decide), if_neg (by rw [k7]; decide)]
      exact pair 0 (c &&& 7) rfl (Or.inr k7)
    · exact opd (Or.inr (Or.inl h))
    · exact opd (Or.inr (Or.inr h))
