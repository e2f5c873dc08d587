/-! E: THE READING OF A LAW, as functions of a text T of e bytes -/
abbrev PS : Type := Nat × Nat × List Int32
abbrev PR : Type := Except (Nat × Nat) (Nat × Nat × List Int32)
def PR_bind (r : PR) (f : PS → PR) : PR := match r with
  | .error x => .error x
  | .ok s => f s
def sgT (T : Nat → Int32) (e p : Nat) : Int32 := if p < e then T p else -1
abbrev dgT (T : Nat → Int32) (e p : Nat) : Prop := 0 ≤ sgT T e p - 48 ∧ sgT T e p - 48 < 10
abbrev mkT (T : Nat → Int32) (e p : Nat) : Prop := 0 ≤ sgT T e p - 97 ∧ sgT T e p - 97 < 8
def stC (a b c : Int32) : Int32 := (a ||| (b <<< (3 &&& 31))) ||| (c <<< (7 &&& 31))
def sp_num (T : Nat → Int32) (e : Nat) : Nat → Int32 → Nat → Except (Nat × Nat) (Int32 × Nat)
  | 0, v, p => if dgT T e p then .error (2, p) else .ok (v, p)
  | q + 1, v, p => if dgT T e p then sp_num T e q (v * 10 + (sgT T e p - 48)) (p + 1) else if q = 5 then .error (1, p) else .ok (v, p)
def sp_opl (T : Nat → Int32) (e : Nat) (p : Nat) : Int32 := (sgT T e (p + 1) - 97) + (if sgT T e p = 121 then 8 else 0)
def sp_op (T : Nat → Int32) (e : Nat) (s : PS) : PR :=
  if s.2.1 < 80 then
    (if sgT T e s.1 = 49 then .ok (s.1 + 1, s.2.1 + 1, s.2.2 ++ [stC 0 0 0])
    else if mkT T e (s.1 + 1) then
      (if sgT T e (s.1 + 2) = 60 then
        (match sp_num T e 6 0 (s.1 + 3) with
        | .error x => .error x
        | .ok w => .ok (w.2, s.2.1 + 1, s.2.2 ++ [stC 5 (sp_opl T e s.1) w.1]))
      else .ok (s.1 + 2, s.2.1 + 1, s.2.2 ++ [stC 4 (sp_opl T e s.1) 0]))
    else .error (1, s.1 + 1))
  else .error (6, s.1)
def sp_loop (T : Nat → Int32) (e : Nat) (c code : Int32) (f : PS → PR) : Nat → PS → PR
  | 0, s => .ok s
  | n + 1, s => if sgT T e s.1 = c then PR_bind (f (s.1 + 1, s.2.1, s.2.2)) (fun r => sp_loop T e c code f n (r.1, r.2.1, r.2.2 ++ [code])) else .ok s
def sp_part (T : Nat → Int32) (e : Nat) (f : PS → PR) (s : PS) : PR := PR_bind (f s) (sp_loop T e 38 (stC 2 0 0) f 240)
def sp_condf (T : Nat → Int32) (e : Nat) (f : PS → PR) (s : PS) : PR := PR_bind (sp_part T e f s) (sp_loop T e 124 (stC 3 0 0) (sp_part T e f) 240)
def sp_expect (T : Nat → Int32) (e : Nat) (c : Int32) (r : PS) : PR := if sgT T e r.1 = c then .ok (r.1 + 1, r.2.1, r.2.2) else .error (1, r.1)
def sp_piece (T : Nat → Int32) (e : Nat) : Nat → Nat → PS → PR
  | 0, _, s => .error (1, s.1)
  | n + 1, o, s =>
    if sgT T e s.1 = 33 then (if o < 8 then PR_bind (sp_piece T e n (o + 1) (s.1 + 1, s.2.1, s.2.2)) (fun r => .ok (r.1, r.2.1, r.2.2 ++ [stC 1 0 0])) else .error (5, s.1))
    else if sgT T e s.1 = 40 then (if o < 8 then PR_bind (sp_condf T e (sp_piece T e n (o + 1)) (s.1 + 1, s.2.1, s.2.2)) (sp_expect T e 41) else .error (5, s.1))
    else if sgT T e s.1 = 49 ∨ sgT T e s.1 = 120 ∨ sgT T e s.1 = 121 then sp_op T e s
    else .error (1, s.1)
/-- the depth of the stack behind a row of steps -/
def dpS : List Int32 → Nat → Option Nat
  | [], d => some d
  | c :: l, d => if c &&& 7 = 1 then (if 1 ≤ d then dpS l d else none) else if c &&& 7 = 2 ∨ c &&& 7 = 3 then (if 2 ≤ d then dpS l (d - 1) else none) else dpS l (d + 1)
def opS : List Int32 → Nat
  | [] => 0
  | c :: l => if c &&& 7 = 1 ∨ c &&& 7 = 2 ∨ c &&& 7 = 3 then opS l else opS l + 1
theorem dpS_app : ∀ a b d, dpS (a ++ b) d = (dpS a d).bind (dpS b) := by
  intro a b
  induction a with
  | nil => intro d; rfl
  | cons c l ih =>
    intro d
    simp only [List.cons_append, dpS]
    split
    · split
      · exact ih d
      · rfl
    · split
      · split
        · exact ih (d - 1)
        · rfl
      · exact ih (d + 1)
theorem opS_app : ∀ a b, opS (a ++ b) = opS a + opS b := by
  intro a b
  induction a with
  | nil => simp [opS]
  | cons c l ih =>
    simp only [List.cons_append, opS, ih]
    split <;> omega
/-- the steps that there are -/
def StG (c : Int32) : Prop := c = stC 0 0 0 ∨ c = stC 1 0 0 ∨ c = stC 2 0 0 ∨ c = stC 3 0 0 ∨ (∃ b, b < 16 ∧ c = stC 4 (nI b) 0) ∨ ∃ b v, b < 16 ∧ v < 1000000 ∧ c = stC 5 (nI b) (nI v)
/-- what a reading lays behind: j more on the stack than i -/
def POK (e i j : Nat) (s s' : PS) : Prop := s.1 ≤ s'.1 ∧ s'.1 ≤ e ∧ s'.2.2.length + s.1 ≤ s'.1 + s.2.2.length ∧ s'.2.1 ≤ 80 ∧ ∃ g, s'.2.2 = s.2.2 ++ g ∧ (∀ d, dpS g (d + i) = some (d + j)) ∧ s'.2.1 = s.2.1 + opS g ∧ ∀ c, c ∈ g → StG c
theorem POK.trans {e i j k : Nat} {a b c : PS} (h : POK e i j a b) (q : POK e j k b c) : POK e i k a c := by
  obtain ⟨h1, h2, h3, h4, g, h5, h6, h7, h8⟩ := h
  obtain ⟨q1, q2, q3, q4, r, q5, q6, q7, q8⟩ := q
  refine ⟨by omega, q2, by omega, q4, g ++ r, by rw [q5, h5, List.append_assoc], ?_, by rw [q7, h7, opS_app]; omega, ?_⟩
  · intro d
    rw [dpS_app, h6, Option.bind_some, q6]
  · intro x hx
    rcases List.mem_append.mp hx with h | h
    · exact h8 x h
    · exact q8 x h
theorem POK.refl {e : Nat} {s : PS} (h : s.1 ≤ e) (hk : s.2.1 ≤ 80) : POK e 1 1 s s := ⟨Nat.le_refl _, h, by omega, hk, [], by simp, fun d => rfl, rfl, fun c h => by cases h⟩
/-- one step more, and a byte for it -/
theorem POK.add {e i : Nat} {s a s' : PS} {c : Int32} {j j' : Nat} (hs : s.1 < a.1) (ha1 : a.2.1 = s.2.1) (ha2 : a.2.2 = s.2.2) (h : POK e i j a s') (hc : StG c) (hj : ∀ d, dpS [c] (d + j) = some (d + j')) (ho : opS [c] = 0) : POK e i j' s (s'.1, s'.2.1, s'.2.2 ++ [c]) := by
  obtain ⟨h1, h2, h3, h4, g, h5, h6, h7, h8⟩ := h
  refine ⟨?_, h2, ?_, h4, g ++ [c], ?_, ?_, ?_, ?_⟩
  · show s.1 ≤ s'.1
    omega
  · show (s'.2.2 ++ [c]).length + s.1 ≤ s'.1 + s.2.2.length
    rw [List.length_append, List.length_singleton]
    rw [ha2] at h3
    omega
  · show s'.2.2 ++ [c] = s.2.2 ++ (g ++ [c])
    rw [h5, ha2, List.append_assoc]
  · intro d
    rw [dpS_app, h6, Option.bind_some, hj]
  · show s'.2.1 = _
    rw [h7, ha1, opS_app, ho]
    rfl
  · intro x hx
    rcases List.mem_append.mp hx with h | h
    · exact h8 x h
    · rw [List.mem_singleton.mp h]
      exact hc
theorem sg_lt {T : Nat → Int32} {e p : Nat} {c : Int32} (h : sgT T e p = c) (hc : ¬ c = -1) : p < e := by
  unfold sgT at h
  split at h
  · assumption
  · exact absurd h.symm hc
theorem mk_lt {T : Nat → Int32} {e p : Nat} (h : mkT T e p) : p < e := by
  by_cases hp : p < e
  · exact hp
  · unfold mkT sgT at h
    rw [if_neg hp] at h
    exact absurd h (by decide)
theorem dg_lt {T : Nat → Int32} {e p : Nat} (h : dgT T e p) : p < e := by
  by_cases hp : p < e
  · exact hp
  · unfold dgT sgT at h
    rw [if_neg hp] at h
    exact absurd h (by decide)
theorem dg_nI {x : Int32} (h : 0 ≤ x - 48 ∧ x - 48 < 10) : ∃ m, m < 10 ∧ x - 48 = nI m := ⟨(x - 48).toNatClampNeg, nt_lt (b := 10) h.1 h.2, (nI_nt h.1).symm⟩
theorem num_ok {T : Nat → Int32} {e : Nat} : ∀ q n p w p', q ≤ 6 → n < 10 ^ (6 - q) → sp_num T e q (nI n) p = .ok (w, p') → ∃ m, w = nI m ∧ m < 1000000 ∧ p ≤ p' ∧ (p ≤ e → p' ≤ e) := by
  intro q
  induction q with
  | zero =>
    intro n p w p' hq hn h
    unfold sp_num at h
    split at h
    · cases h
    · cases h
      exact ⟨n, rfl, hn, Nat.le_refl _, id⟩
  | succ q ih =>
    intro n p w p' hq hn h
    unfold sp_num at h
    split at h
    · rename_i hd
      obtain ⟨m, m1, m2⟩ := dg_nI hd
      have e1 : nI n * 10 + (sgT T e p - 48) = nI (n * 10 + m) := by
        rw [m2]
        show nI n * nI 10 + nI m = _
        rw [nI_mul, nI_plus]
      rw [e1] at h
      have hlt : n * 10 + m < 10 ^ (6 - q) := by
        have : 10 ^ (6 - q) = 10 ^ (6 - (q + 1)) * 10 := by
          rw [← Nat.pow_succ]
          congr 1
          omega
        omega
      obtain ⟨m', h1, h2, h3, h4⟩ := ih (n * 10 + m) (p + 1) w p' (by omega) hlt h
      have := dg_lt hd
      exact ⟨m', h1, h2, by omega, fun _ => h4 (by omega)⟩
    · split at h
      · cases h
      · cases h
        refine ⟨n, rfl, ?_, Nat.le_refl _, id⟩
        exact Nat.lt_of_lt_of_le hn (Nat.pow_le_pow_right (n := 10) (i := 6 - (q + 1)) (j := 6) (by decide) (by omega))
theorem opl_nI {T : Nat → Int32} {e p : Nat} (h : mkT T e (p + 1)) : ∃ b, b < 16 ∧ sp_opl T e p = nI b := by
  unfold sp_opl
  unfold mkT at h
  generalize sgT T e (p + 1) - 97 = x at h ⊢
  have hx : x.toNatClampNeg < 8 := nt_lt (b := 8) h.1 h.2
  split
  · refine ⟨x.toNatClampNeg + 8, by omega, ?_⟩
    rw [← nI_plus, nI_nt h.1]
    rfl
  · refine ⟨x.toNatClampNeg, by omega, ?_⟩
    rw [nI_nt h.1]
    grind
/-! the bits of a step -/
theorem nI_or (a b : Nat) : nI a ||| nI b = nI (a ||| b) := by
  unfold nI
  rw [← Int32.toBitVec_inj]
  simp
theorem shl3 (b : Nat) : nI b <<< ((3 : Int32) &&& 31) = nI (8 * b) := by
  rw [show ((3 : Int32) &&& 31) = 3 by decide]
  unfold nI
  apply Int32.toBitVec_inj.mp
  rw [Int32.toBitVec_shiftLeft, show (3 : Int32).toBitVec.smod 32 = 3#32 by decide]
  apply BitVec.eq_of_toNat_eq
  simp [Nat.shiftLeft_eq, Nat.mul_comm]
theorem shl7 (b : Nat) : nI b <<< ((7 : Int32) &&& 31) = nI (128 * b) := by
  rw [show ((7 : Int32) &&& 31) = 7 by decide]
  unfold nI
  apply Int32.toBitVec_inj.mp
  rw [Int32.toBitVec_shiftLeft, show (7 : Int32).toBitVec.smod 32 = 7#32 by decide]
  apply BitVec.eq_of_toNat_eq
  simp [Nat.shiftLeft_eq, Nat.mul_comm]
theorem st_nat {a b v : Nat} (ha : a < 8) (hb : b < 16) : stC (nI a) (nI b) (nI v) = nI (a + 8 * b + 128 * v) := by
  unfold stC
  rw [shl3, shl7, nI_or, nI_or]
  congr 1
  have h1 : 8 * b + a = 8 * b ||| a := Nat.two_pow_add_eq_or_of_lt (i := 3) ha b
  have h2 : 128 * v + (8 * b + a) = 128 * v ||| (8 * b + a) := Nat.two_pow_add_eq_or_of_lt (i := 7) (by omega) v
  rw [Nat.or_comm a, ← h1, Nat.or_comm, ← h2]
  omega
theorem st7 {a b v : Nat} (ha : a < 8) (hb : b < 16) : stC (nI a) (nI b) (nI v) &&& 7 = nI a := by
  rw [st_nat ha hb]
  show nI _ &&& nI 7 = _
  rw [nI_and]
  congr 1
  have : (a + 8 * b + 128 * v) &&& 7 = (a + 8 * b + 128 * v) % 8 := Nat.and_two_pow_sub_one_eq_mod _ 3
  rw [this]
  omega
theorem st_dp {a b v : Nat} (ha : a = 0 ∨ a = 4 ∨ a = 5) (hb : b < 16) : (∀ d, dpS [stC (nI a) (nI b) (nI v)] (d + 0) = some (d + 1)) ∧ opS [stC (nI a) (nI b) (nI v)] = 1 := by
  have h7 := st7 (a := a) (b := b) (v := v) (by omega) hb
  have h1 : ¬ nI a = 1 ∧ ¬ (nI a = 2 ∨ nI a = 3) ∧ ¬ (nI a = 1 ∨ nI a = 2 ∨ nI a = 3) := by rcases ha with rfl | rfl | rfl <;> decide
  refine ⟨fun d => ?_, ?_⟩
  · simp only [dpS, h7]
    rw [if_neg h1.1, if_neg h1.2.1]
  · simp only [opS, h7]
    rw [if_neg h1.2.2]
theorem st_dp1 : (∀ d, dpS [stC 1 0 0] (d + 1) = some (d + 1)) ∧ opS [stC 1 0 0] = 0 := by
  refine ⟨fun d => ?_, by decide⟩
  have h7 : stC 1 0 0 &&& 7 = 1 := by decide
  simp [dpS, h7]
theorem st_dp2 : (∀ d, dpS [stC 2 0 0] (d + 2) = some (d + 1)) ∧ opS [stC 2 0 0] = 0 := by
  refine ⟨fun d => ?_, by decide⟩
  have h7 : stC 2 0 0 &&& 7 = 2 := by decide
  simp [dpS, h7]
theorem st_dp3 : (∀ d, dpS [stC 3 0 0] (d + 2) = some (d + 1)) ∧ opS [stC 3 0 0] = 0 := by
  refine ⟨fun d => ?_, by decide⟩
  have h7 : stC 3 0 0 &&& 7 = 3 := by decide
  simp [dpS, h7]
theorem op_ok {T : Nat → Int32} {e : Nat} {s s' : PS} (hp : s.1 < e) (h : sp_op T e s = .ok s') : POK e 0 1 s s' ∧ s.1 < s'.1 := by
  have fin : ∀ (p' a b v : Nat), (a = 0 ∨ a = 4 ∨ a = 5) → b < 16 → StG (stC (nI a) (nI b) (nI v)) → s.2.1 < 80 → s.1 < p' → p' ≤ e → POK e 0 1 s (p', s.2.1 + 1, s.2.2 ++ [stC (nI a) (nI b) (nI v)]) ∧ s.1 < p' := by
    intro p' a b v ha hb hg hk hp' hpe
    obtain ⟨d1, d2⟩ := st_dp (v := v) ha hb
    refine ⟨⟨Nat.le_of_lt hp', hpe, ?_, hk, [stC (nI a) (nI b) (nI v)], rfl, d1, by rw [d2], fun x hx => by rw [List.mem_singleton.mp hx]; exact hg⟩, hp'⟩
    show (s.2.2 ++ [stC (nI a) (nI b) (nI v)]).length + s.1 ≤ p' + s.2.2.length
    rw [List.length_append, List.length_singleton]
    omega
  unfold sp_op at h
  split at h
  · rename_i hk
    split at h
    · cases h
      exact fin _ 0 0 0 (Or.inl rfl) (by omega) (Or.inl rfl) hk (by omega) (by omega)
    · split at h
      · rename_i hm
        have h1 := mk_lt hm
        obtain ⟨b, b1, b2⟩ := opl_nI hm
        split at h
        · rename_i h60
          have h2 := sg_lt h60 (by decide)
          split at h
          · cases h
          · rename_i w hw
            obtain ⟨v, p'⟩ := w
            obtain ⟨m, m1, m2, m3, m4⟩ := num_ok 6 0 (s.1 + 3) v p' (by omega) (by decide) hw
            rw [b2] at h
            dsimp only at h
            rw [m1] at h
            cases h
            exact fin p' 5 b m (Or.inr (Or.inr rfl)) b1 (Or.inr (Or.inr (Or.inr (Or.inr (Or.inr ⟨b, m, b1, m2, rfl⟩))))) hk (by omega) (m4 (by omega))
        · rw [b2] at h
          cases h
          exact fin _ 4 b 0 (Or.inr (Or.inl rfl)) b1 (Or.inr (Or.inr (Or.inr (Or.inr (Or.inl ⟨b, b1, rfl⟩))))) hk (by omega) (by omega)
      · cases h
  · cases h
/-- a function that reads something that lays one value -/
def FOK (e : Nat) (f : PS → PR) : Prop := ∀ s s', s.2.1 ≤ 80 → f s = .ok s' → POK e 0 1 s s' ∧ s.1 < s'.1
theorem loop_ok {T : Nat → Int32} {e : Nat} {c code : Int32} (hc : ¬ c = -1) (hG : StG code) (hcode : (∀ d, dpS [code] (d + 2) = some (d + 1)) ∧ opS [code] = 0) {f : PS → PR} (hf : FOK e f) : ∀ n s s', s.1 ≤ e → s.2.1 ≤ 80 → sp_loop T e c code f n s = .ok s' → POK e 1 1 s s' ∧ (e < s.1 + n → ¬ sgT T e s'.1 = c) := by
  intro n
  induction n with
  | zero =>
    intro s s' hs hk h
    unfold sp_loop at h
    cases h
    exact ⟨POK.refl hs hk, fun h => by omega⟩
  | succ n ih =>
    intro s s' hs hk h
    unfold sp_loop at h
    split at h
    · rename_i hsg
      have hlt := sg_lt hsg hc
      unfold PR_bind at h
      cases hq : f (s.1 + 1, s.2.1, s.2.2) with
      | error x =>
        rw [hq] at h
        cases h
      | ok r =>
        rw [hq] at h
        dsimp only at h
        obtain ⟨h1, h2⟩ := hf (s.1 + 1, s.2.1, s.2.2) r hk hq
        have h1' : POK e 1 2 (s.1 + 1, s.2.1, s.2.2) r := by
          obtain ⟨a1, a2, a3, a4, g, a5, a6, a7, a8⟩ := h1
          exact ⟨a1, a2, a3, a4, g, a5, fun d => by have := a6 (d + 1); simpa using this, a7, a8⟩
        have h3 := POK.add (s := s) (a := (s.1 + 1, s.2.1, s.2.2)) (j' := 1) (Nat.lt_succ_self _) rfl rfl h1' hG hcode.1 hcode.2
        have h2' : s.1 + 1 < r.1 := h2
        obtain ⟨h4, h5⟩ := ih (r.1, r.2.1, r.2.2 ++ [code]) s' h1.2.1 h1.2.2.2.1 h
        refine ⟨h3.trans h4, fun hn => h5 ?_⟩
        show e < r.1 + n
        omega
    · cases h
      rename_i hsg
      exact ⟨POK.refl hs hk, fun _ => hsg⟩
theorem loop_38 {T : Nat → Int32} {e : Nat} {c code : Int32} {f : PS → PR} (hf : FOK e f) (h38 : ∀ s s', s.2.1 ≤ 80 → f s = .ok s' → ¬ sgT T e s'.1 = 38) : ∀ n s s', s.2.1 ≤ 80 → ¬ sgT T e s.1 = 38 → sp_loop T e c code f n s = .ok s' → ¬ sgT T e s'.1 = 38 := by
  intro n
  induction n with
  | zero =>
    intro s s' hk h0 h
    unfold sp_loop at h
    cases h
    exact h0
  | succ n ih =>
    intro s s' hk h0 h
    unfold sp_loop at h
    split at h
    · unfold PR_bind at h
      cases hq : f (s.1 + 1, s.2.1, s.2.2) with
      | error x =>
        rw [hq] at h
        cases h
      | ok r =>
        rw [hq] at h
        dsimp only at h
        exact ih (r.1, r.2.1, r.2.2 ++ [code]) s' (hf (s.1 + 1, s.2.1, s.2.2) r hk hq).1.2.2.2.1 (h38 (s.1 + 1, s.2.1, s.2.2) r hk hq) h
    · cases h
      exact h0
theorem part_ok {T : Nat → Int32} {e : Nat} (he : e ≤ 240) {f : PS → PR} (hf : FOK e f) : ∀ s s', s.2.1 ≤ 80 → sp_part T e f s = .ok s' → (POK e 0 1 s s' ∧ s.1 < s'.1) ∧ ¬ sgT T e s'.1 = 38 := by
  intro s s' hk h
  unfold sp_part PR_bind at h
  cases hq : f s with
  | error x =>
    rw [hq] at h
    cases h
  | ok r =>
    rw [hq] at h
    dsimp only at h
    obtain ⟨h1, h2⟩ := hf s r hk hq
    obtain ⟨h3, h4⟩ := loop_ok (T := T) (by decide) (Or.inr (Or.inr (Or.inl rfl))) st_dp2 hf 240 r s' h1.2.1 h1.2.2.2.1 h
    have := h3.1
    exact ⟨⟨h1.trans h3, by omega⟩, h4 (by omega)⟩
theorem condf_ok {T : Nat → Int32} {e : Nat} (he : e ≤ 240) {f : PS → PR} (hf : FOK e f) : ∀ s s', s.2.1 ≤ 80 → sp_condf T e f s = .ok s' → (POK e 0 1 s s' ∧ s.1 < s'.1) ∧ ¬ sgT T e s'.1 = 124 ∧ ¬ sgT T e s'.1 = 38 := by
  intro s s' hk h
  unfold sp_condf PR_bind at h
  cases hq : sp_part T e f s with
  | error x =>
    rw [hq] at h
    cases h
  | ok r =>
    rw [hq] at h
    dsimp only at h
    obtain ⟨⟨h1, h2⟩, h38⟩ := part_ok he hf s r hk hq
    have hF : FOK e (sp_part T e f) := fun s s' hk h => (part_ok he hf s s' hk h).1
    obtain ⟨h3, h4⟩ := loop_ok (T := T) (by decide) (Or.inr (Or.inr (Or.inr (Or.inl rfl)))) st_dp3 hF 240 r s' h1.2.1 h1.2.2.2.1 h
    have := h3.1
    exact ⟨⟨h1.trans h3, by omega⟩, h4 (by omega), loop_38 hF (fun s s' hk h => (part_ok he hf s s' hk h).2) 240 r s' h1.2.2.2.1 h38 h⟩
theorem piece_ok {T : Nat → Int32} {e : Nat} (he : e ≤ 240) : ∀ n o, FOK e (sp_piece T e n o) := by
  intro n
  induction n with
  | zero =>
    intro o s s' hk h
    unfold sp_piece at h
    cases h
  | succ n ih =>
    intro o s s' hk h
    unfold sp_piece at h
    split at h
    · split at h
      · unfold PR_bind at h
        cases hq : sp_piece T e n (o + 1) (s.1 + 1, s.2.1, s.2.2) with
        | error x =>
          rw [hq] at h
          cases h
        | ok r =>
          rw [hq] at h
          dsimp only at h
          obtain ⟨h1, h2⟩ := ih (o + 1) (s.1 + 1, s.2.1, s.2.2) r hk hq
          have h2' : s.1 + 1 < r.1 := h2
          cases h
          exact ⟨POK.add (s := s) (a := (s.1 + 1, s.2.1, s.2.2)) (Nat.lt_succ_self _) rfl rfl h1 (Or.inr (Or.inl rfl)) st_dp1.1 st_dp1.2, by show s.1 < r.1; omega⟩
      · cases h
    · split at h
      · split at h
        · unfold PR_bind at h
          cases hq : sp_condf T e (sp_piece T e n (o + 1)) (s.1 + 1, s.2.1, s.2.2) with
          | error x =>
            rw [hq] at h
            cases h
          | ok r =>
            rw [hq] at h
            dsimp only at h
            obtain ⟨⟨⟨a1, a2, a3, a4, g, a5, a6, a7, a8⟩, h2⟩, -⟩ := condf_ok he (ih (o + 1)) (s.1 + 1, s.2.1, s.2.2) r hk hq
            have h2' : s.1 + 1 < r.1 := h2
            unfold sp_expect at h
            split at h
            · rename_i h41
              have hl := sg_lt h41 (by decide)
              cases h
              have a3' : r.2.2.length + (s.1 + 1) ≤ r.1 + s.2.2.length := a3
              refine ⟨⟨?_, ?_, ?_, a4, g, a5, a6, a7, a8⟩, ?_⟩
              · show s.1 ≤ r.1 + 1
                omega
              · show r.1 + 1 ≤ e
                omega
              · show r.2.2.length + s.1 ≤ r.1 + 1 + s.2.2.length
                omega
              · show s.1 < r.1 + 1
                omega
            · cases h
        · cases h
      · split at h
        · rename_i hsg
          have hp : s.1 < e := by
            rcases hsg with h | h | h
            · exact sg_lt h (by decide)
            · exact sg_lt h (by decide)
            · exact sg_lt h (by decide)
          exact op_ok hp h
        · cases h
