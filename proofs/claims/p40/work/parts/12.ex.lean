/-! THE SHAPE behind the two constructors (places: wip/whole/sim.py) -/
def am_SB : am_Sh := [(14, 12, [3, 7, 15, 29, 59, 70, 74, 78, 86, 99, 104, 0]), (3, 4, [4, 5, 6, 0]), (0, 6, []), (0, 6, []), (0, 6, []), (7, 7, [8, 9, 0, 0, 0, 0, 0]), (0, 240, []), (6, 8, [10, 11, 12, 13, 14, 0, 0, 0]), (0, 24, []), (0, 24, []), (0, 24, []), (0, 240, []), (0, 96, []), (8, 17, [16, 17, 18, 19, 20, 21, 22, 23, 24, 25, 26, 27, 28, 0, 0, 0, 0]), (0, 20, []), (0, 200, []), (0, 200, []), (0, 200, []), (0, 200, []), (1, 200, []), (0, 200, []), (0, 200, []), (0, 10, []), (0, 10, []), (0, 10, []), (0, 10, []), (0, 210, []), (4, 8, [30, 36, 42, 48, 15, 3, 54, 58]), (6, 8, [31, 32, 33, 34, 35, 0, 0, 0]), (0, 24, []), (0, 24, []), (0, 24, []), (0, 240, []), (0, 96, []), (6, 8, [37, 38, 39, 40, 41, 0, 0, 0]), (0, 24, []), (0, 24, []), (0, 24, []), (0, 240, []), (0, 96, []), (6, 8, [43, 44, 45, 46, 47, 0, 0, 0]), (0, 24, []), (0, 24, []), (0, 24, []), (0, 240, []), (0, 96, []), (6, 8, [49, 50, 51, 52, 53, 0, 0, 0]), (0, 24, []), (0, 24, []), (0, 24, []), (0, 240, []), (0, 96, []), (10, 3, [55, 56, 57]), (0, 160, []), (0, 160, []), (0, 160, []), (0, 80, []), (11, 6, [15, 29, 60, 64, 68, 69]), (10, 3, [61, 62, 63]), (0, 160, []), (0, 160, []), (0, 160, []), (10, 3, [65, 66, 67]), (0, 160, []), (0, 160, []), (0, 160, []), (0, 20, []), (0, 20, []), (10, 3, [71, 72, 73]), (0, 160, []), (0, 160, []), (0, 160, []), (10, 3, [75, 76, 77]), (0, 160, []), (0, 160, []), (0, 160, []), (5, 9, [79, 80, 81, 82, 83, 84, 85, 0, 0]), (0, 8, []), (0, 8, []), (0, 8, []), (0, 8, []), (1, 16, []), (0, 2048, []), (0, 8, []), (9, 15, [78, 87, 88, 89, 90, 91, 92, 93, 94, 95, 96, 97, 98, 0, 0]), (0, 10, []), (0, 10, []), (0, 10, []), (0, 80, []), (0, 100, []), (0, 100, []), (0, 100, []), (0, 100, []), (1, 100, []), (0, 8, []), (0, 8, []), (0, 8, []), (12, 5, [100, 101, 102, 103, 0]), (0, 6, []), (0, 6, []), (0, 160, []), (0, 160, []), (13, 10, [78, 99, 105, 106, 107, 108, 109, 0, 0, 0]), (0, 400, []), (0, 400, []), (0, 8, []), (0, 8, []), (0, 48, [])]
abbrev am_SX (tl : am_Sh) : am_Sh := am_SB ++ tl
/-- the cells of the law itself -/
def am_TL : am_Sh := [(0, 5, []), (0, 5, []), (0, 16, []), (0, 16, []), (0, 16, []), (0, 18, []), (0, 2, []), (0, 6, []), (0, 6, []), (0, 6, []), (0, 6, []), (0, 6, [])]
def am_F : Nat := 100000
def am_ushr (x y : Int32) : Int32 := (x.toUInt32 >>> (y.toUInt32 &&& Int32.toUInt32 31)).toInt32
def am_isLaw (k : Nat) : Bool := Nat.beq k 7 || Nat.beq k 28 || Nat.beq k 34 || Nat.beq k 40 || Nat.beq k 46
theorem am_isLaw_cases {k : Nat} (h : am_isLaw k = true) : k = 7 ∨ k = 28 ∨ k = 34 ∨ k = 40 ∨ k = 46 := by
  simp only [am_isLaw, Bool.or_eq_true, Nat.beq_eq] at h
  omega
theorem am_isLaw_0 {tl : am_Sh} {k : Nat} (h : am_isLaw k = true) : (am_SX tl)[k]? = some (6, 8, [k + 3, k + 4, k + 5, k + 6, k + 7, 0, 0, 0]) := by
  rcases am_isLaw_cases h with rfl | rfl | rfl | rfl | rfl <;> rfl
theorem am_isLaw_n1 {k : Nat} (h : am_isLaw k = true) : Nat.beq (k + 1) am_SCR = false := by
  rcases am_isLaw_cases h with rfl | rfl | rfl | rfl | rfl <;> rfl
theorem am_isLaw_1 {tl : am_Sh} {k : Nat} (h : am_isLaw k = true) : (am_SX tl)[k + 1]? = some (0, 24, []) := by
  rcases am_isLaw_cases h with rfl | rfl | rfl | rfl | rfl <;> rfl
theorem am_isLaw_n2 {k : Nat} (h : am_isLaw k = true) : Nat.beq (k + 2) am_SCR = false := by
  rcases am_isLaw_cases h with rfl | rfl | rfl | rfl | rfl <;> rfl
theorem am_isLaw_2 {tl : am_Sh} {k : Nat} (h : am_isLaw k = true) : (am_SX tl)[k + 2]? = some (0, 24, []) := by
  rcases am_isLaw_cases h with rfl | rfl | rfl | rfl | rfl <;> rfl
theorem am_isLaw_n3 {k : Nat} (h : am_isLaw k = true) : Nat.beq (k + 3) am_SCR = false := by
  rcases am_isLaw_cases h with rfl | rfl | rfl | rfl | rfl <;> rfl
theorem am_isLaw_3 {tl : am_Sh} {k : Nat} (h : am_isLaw k = true) : (am_SX tl)[k + 3]? = some (0, 24, []) := by
  rcases am_isLaw_cases h with rfl | rfl | rfl | rfl | rfl <;> rfl
theorem am_isLaw_n4 {k : Nat} (h : am_isLaw k = true) : Nat.beq (k + 4) am_SCR = false := by
  rcases am_isLaw_cases h with rfl | rfl | rfl | rfl | rfl <;> rfl
theorem am_isLaw_4 {tl : am_Sh} {k : Nat} (h : am_isLaw k = true) : (am_SX tl)[k + 4]? = some (0, 240, []) := by
  rcases am_isLaw_cases h with rfl | rfl | rfl | rfl | rfl <;> rfl
theorem am_isLaw_n5 {k : Nat} (h : am_isLaw k = true) : Nat.beq (k + 5) am_SCR = false := by
  rcases am_isLaw_cases h with rfl | rfl | rfl | rfl | rfl <;> rfl
theorem am_isLaw_5 {tl : am_Sh} {k : Nat} (h : am_isLaw k = true) : (am_SX tl)[k + 5]? = some (0, 96, []) := by
  rcases am_isLaw_cases h with rfl | rfl | rfl | rfl | rfl <;> rfl
def am_isMarks (k : Nat) : Bool := Nat.beq k 52 || Nat.beq k 58 || Nat.beq k 62 || Nat.beq k 68 || Nat.beq k 72
theorem am_isMarks_cases {k : Nat} (h : am_isMarks k = true) : k = 52 ∨ k = 58 ∨ k = 62 ∨ k = 68 ∨ k = 72 := by
  simp only [am_isMarks, Bool.or_eq_true, Nat.beq_eq] at h
  omega
theorem am_isMarks_0 {tl : am_Sh} {k : Nat} (h : am_isMarks k = true) : (am_SX tl)[k]? = some (10, 3, [k + 3, k + 4, k + 5]) := by
  rcases am_isMarks_cases h with rfl | rfl | rfl | rfl | rfl <;> rfl
theorem am_isMarks_n1 {k : Nat} (h : am_isMarks k = true) : Nat.beq (k + 1) am_SCR = false := by
  rcases am_isMarks_cases h with rfl | rfl | rfl | rfl | rfl <;> rfl
theorem am_isMarks_1 {tl : am_Sh} {k : Nat} (h : am_isMarks k = true) : (am_SX tl)[k + 1]? = some (0, 160, []) := by
  rcases am_isMarks_cases h with rfl | rfl | rfl | rfl | rfl <;> rfl
theorem am_isMarks_n2 {k : Nat} (h : am_isMarks k = true) : Nat.beq (k + 2) am_SCR = false := by
  rcases am_isMarks_cases h with rfl | rfl | rfl | rfl | rfl <;> rfl
theorem am_isMarks_2 {tl : am_Sh} {k : Nat} (h : am_isMarks k = true) : (am_SX tl)[k + 2]? = some (0, 160, []) := by
  rcases am_isMarks_cases h with rfl | rfl | rfl | rfl | rfl <;> rfl
theorem am_isMarks_n3 {k : Nat} (h : am_isMarks k = true) : Nat.beq (k + 3) am_SCR = false := by
  rcases am_isMarks_cases h with rfl | rfl | rfl | rfl | rfl <;> rfl
theorem am_isMarks_3 {tl : am_Sh} {k : Nat} (h : am_isMarks k = true) : (am_SX tl)[k + 3]? = some (0, 160, []) := by
  rcases am_isMarks_cases h with rfl | rfl | rfl | rfl | rfl <;> rfl
theorem am_up_k {μ : am_Mu} {k i a b : Nat} {x : Int32} (h : ¬ a = k) : am_up μ k i x a b = μ a b := if_neg (fun q => h q.1)
theorem am_row_k {μ : am_Mu} {k a b : Nat} {f : Nat → Int32} (h : ¬ a = k) : am_row μ k f a b = μ a b := by rw [am_row_ne h]
/-! EX: the abstract machine comes to an end with so and so -/
def am_Ex (scr : am_Scr) (d m pc : Nat) (L S : List Value) (sh : am_Sh) (μ : am_Mu) (out : am_Out) : Prop := ∃ n, am_exec n scr d m pc L S sh μ = some out
theorem am_bind {α β : Type} {x : Option α} {f : α → Option β} {y : β} (h : x.bind f = some y) : ∃ q, x = some q ∧ f q = some y := by
  cases x with
  | none => cases h
  | some q => exact ⟨q, rfl, h⟩
theorem am_ite {α : Type} {p : Prop} [Decidable p] {a b : Option α} {y : α} (h : (if p then a else b) = some y) : (p ∧ a = some y) ∨ (¬ p ∧ b = some y) := by
  by_cases hp : p
  · rw [if_pos hp] at h; exact Or.inl ⟨hp, h⟩
  · rw [if_neg hp] at h; exact Or.inr ⟨hp, h⟩
theorem am_ifn {α : Type} {p : Prop} [Decidable p] {b : Option α} {y : α} (h : (if p then none else b) = some y) : ¬ p ∧ b = some y := by
  rcases am_ite h with ⟨-, h⟩ | h
  · cases h
  · exact h
theorem am_ifp {α : Type} {p : Prop} [Decidable p] {a : Option α} {y : α} (h : (if p then a else none) = some y) : p ∧ a = some y := by
  rcases am_ite h with h | ⟨-, h⟩
  · exact h
  · cases h
theorem am_bifm {α : Type} {b : Bool} {x y x' y' : Option α} {z : α} (h : (bif b then x else y) = some z) (h1 : x = some z → x' = some z) (h2 : y = some z → y' = some z) : (bif b then x' else y') = some z := by
  cases b
  · exact h2 h
  · exact h1 h
/-- a step asks its continuations alone -/
theorem am_call_mono {K0 K0' K K' : am_K} (h0 : ∀ d m pc L S sh μ out, K0 d m pc L S sh μ = some out → K0' d m pc L S sh μ = some out) (h1 : ∀ d m pc L S sh μ out, K d m pc L S sh μ = some out → K' d m pc L S sh μ = some out) {d m pc j : Nat} {L S : List Value} {sh : am_Sh} {μ : am_Mu} {out : am_Out} (h : am_call K0 K d m pc j L S sh μ = some out) : am_call K0' K' d m pc j L S sh μ = some out := by
  unfold am_call at h ⊢
  dsimp only at h ⊢
  obtain ⟨hb, h⟩ := am_bif h
  rw [hb, cond_true]
  split at h
  · next hz =>
    split at h
    · next hr =>
      rw [h0 _ _ _ _ _ _ _ _ hr]
      obtain ⟨hg, h⟩ := am_bif h
      dsimp only
      rw [hg, cond_true]
      exact h1 _ _ _ _ _ _ _ _ h
    · cases h
  · cases h
set_option maxHeartbeats 2000000 in
theorem am_step_mono {scr : am_Scr} {K0 K0' K K' : am_K} (h0 : ∀ d m pc L S sh μ out, K0 d m pc L S sh μ = some out → K0' d m pc L S sh μ = some out) (h1 : ∀ d m pc L S sh μ out, K d m pc L S sh μ = some out → K' d m pc L S sh μ = some out) {d m pc : Nat} {L S : List Value} {sh : am_Sh} {μ : am_Mu} {out : am_Out} (h : am_step scr K0 K d m pc L S sh μ = some out) : am_step scr K0' K' d m pc L S sh μ = some out := by
  unfold am_step at h ⊢
  split at h
  · next i j hf =>
    cases i <;> (first
      | exact h1 _ _ _ _ _ _ _ _ h
      | exact am_call_mono h0 h1 h
      | (simp only [am_op] at h ⊢; done)
      | (simp only [am_op, am_static, am_spec, am_virt] at h ⊢
         repeat' (first
           | exact h1 _ _ _ _ _ _ _ _ h
           | exact am_call_mono h0 h1 h
           | exact am_call_mono h1 h1 h
           | exact h
           | contradiction
           | (split at h)
           | (refine am_bifm h (fun h => ?_) (fun h => ?_))
           | simp only [*])))
  · cases h
/-! who knows more does the same -/
set_option maxHeartbeats 2000000 in
theorem am_step_scr (scr : am_Scr) {K0 K0' K K' : am_K} (h0 : ∀ d m pc L S sh μ out, K0 d m pc L S sh μ = some out → K0' d m pc L S sh μ = some out) (h1 : ∀ d m pc L S sh μ out, K d m pc L S sh μ = some out → K' d m pc L S sh μ = some out) {d m pc : Nat} {L S : List Value} {sh : am_Sh} {μ : am_Mu} {out : am_Out} (h : am_step none K0 K d m pc L S sh μ = some out) : am_step scr K0' K' d m pc L S sh μ = some out := by
  unfold am_step at h ⊢
  split at h
  · next i j hf =>
    cases i <;> (first
      | exact h1 _ _ _ _ _ _ _ _ h
      | exact am_call_mono h0 h1 h
      | (simp only [am_op] at h ⊢; done)
      | (simp only [am_op, am_static, am_spec, am_virt] at h ⊢
         repeat' (first
           | exact h1 _ _ _ _ _ _ _ _ h
           | exact am_call_mono h0 h1 h
           | exact am_call_mono h1 h1 h
           | exact h
           | contradiction
           | (split at h)
           | (refine am_bifm h (fun h => ?_) (fun h => ?_))
           | simp only [*])))
  · cases h
/-- the callee's run and the rest's, by one number -/
theorem am_exec_mono : ∀ (n : Nat) (scr : am_Scr) (d m pc : Nat) (L S : List Value) (sh : am_Sh) (μ : am_Mu) (out : am_Out), am_exec n scr d m pc L S sh μ = some out → am_exec (n + 1) scr d m pc L S sh μ = some out := by
  intro n
  induction n with
  | zero => intro scr d m pc L S sh μ out h; cases h
  | succ n ih =>
    intro scr d m pc L S sh μ out h
    exact am_step_mono (fun d m pc L S sh μ out => ih (am_sub scr) d m pc L S sh μ out) (fun d m pc L S sh μ out => ih scr d m pc L S sh μ out) h
theorem am_exec_scr : ∀ (n : Nat) (scr : am_Scr) (d m pc : Nat) (L S : List Value) (sh : am_Sh) (μ : am_Mu) (out : am_Out), am_exec n none d m pc L S sh μ = some out → am_exec n scr d m pc L S sh μ = some out := by
  intro n
  induction n with
  | zero => intro scr d m pc L S sh μ out h; cases h
  | succ n ih =>
    intro scr d m pc L S sh μ out h
    exact am_step_scr scr (fun d m pc L S sh μ out => ih (am_sub scr) d m pc L S sh μ out) (fun d m pc L S sh μ out => ih scr d m pc L S sh μ out) h
theorem am_exec_le {n n' : Nat} {scr : am_Scr} {d m pc : Nat} {L S : List Value} {sh : am_Sh} {μ : am_Mu} {out : am_Out} (hn : n ≤ n') (h : am_exec n scr d m pc L S sh μ = some out) : am_exec n' scr d m pc L S sh μ = some out := by
  induction hn with
  | refl => exact h
  | step _ ih => exact am_exec_mono _ _ _ _ _ _ _ _ _ _ ih
section
variable {scr : am_Scr} {d m pc : Nat} {L S : List Value} {sh : am_Sh} {μ : am_Mu} {out : am_Out} {i : Instr} {j : Nat}
theorem am_Ex.step {pc' : Nat} {L' S' : List Value} {μ' : am_Mu} (h : ∀ K0 K : am_K, am_step scr K0 K d m pc L S sh μ = K d m pc' L' S' sh μ') (k : am_Ex scr d m pc' L' S' sh μ' out) : am_Ex scr d m pc L S sh μ out := by
  obtain ⟨n, hn⟩ := k
  exact ⟨n + 1, (h _ _).trans hn⟩
/-- so many steps without a call -/
def am_goN (scr : am_Scr) (n : Nat) : Nat → am_K
  | 0 => am_exec n scr
  | j + 1 => fun d m pc L S sh μ => am_step scr (am_exec (n + j) (am_sub scr)) (am_goN scr n j) d m pc L S sh μ
theorem am_goN_eq (n : Nat) : ∀ j : Nat, am_goN scr n j = am_exec (n + j) scr
  | 0 => rfl
  | j + 1 => by
    show (fun d m pc L S sh μ => am_step scr (am_exec (n + j) (am_sub scr)) (am_goN scr n j) d m pc L S sh μ) = _
    rw [am_goN_eq n j]
    rfl
theorem am_Ex.seg (j pc' : Nat) (L' S' : List Value) (μ' : am_Mu) (h : ∀ (n : Nat), am_goN scr n j d m pc L S sh μ = am_exec n scr d m pc' L' S' sh μ') (k : am_Ex scr d m pc' L' S' sh μ' out) : am_Ex scr d m pc L S sh μ out := by
  obtain ⟨n, hn⟩ := k
  refine ⟨n + j, ?_⟩
  rw [← am_goN_eq, h n]
  exact hn
theorem am_Ex.same (pc' : Nat) (L' S' : List Value) (μ' : am_Mu) (h : (pc, L, S, μ) = (pc', L', S', μ')) (k : am_Ex scr d m pc' L' S' sh μ' out) : am_Ex scr d m pc L S sh μ out := by
  cases h
  exact k
theorem am_Ex.op {pc' : Nat} {L' S' : List Value} {μ' : am_Mu} (hf : am_fet m pc = some (i, j)) (h : ∀ K0 K : am_K, am_op scr K0 K d m pc i j L S sh μ = K d m pc' L' S' sh μ') (k : am_Ex scr d m pc' L' S' sh μ' out) : am_Ex scr d m pc L S sh μ out :=
  am_Ex.step (fun K0 K => by unfold am_step; rw [hf]; exact h K0 K) k
theorem am_Ex.goto {off : Int} (hf : am_fet m pc = some (.goto off, j)) (k : am_Ex scr d m j L S sh μ out) : am_Ex scr d m pc L S sh μ out := am_Ex.op hf (fun _ _ => rfl) k
theorem am_Ex.if_eq_t {off : Int} {x : Int32} (hf : am_fet m pc = some (.ifCond .eq off, j)) (hc : x = 0) (k : am_Ex scr d m j L S sh μ out) : am_Ex scr d m pc L (.int x :: S) sh μ out := am_Ex.op hf (fun _ _ => if_pos hc) k
theorem am_Ex.if_eq_f {off : Int} {x : Int32} (hf : am_fet m pc = some (.ifCond .eq off, j)) (hc : ¬ x = 0) (k : am_Ex scr d m (pc + 3) L S sh μ out) : am_Ex scr d m pc L (.int x :: S) sh μ out := am_Ex.op hf (fun _ _ => if_neg hc) k
theorem am_Ex.icmp_eq_t {off : Int} {x y : Int32} (hf : am_fet m pc = some (.if_icmp .eq off, j)) (hc : x = y) (k : am_Ex scr d m j L S sh μ out) : am_Ex scr d m pc L (.int y :: .int x :: S) sh μ out := am_Ex.op hf (fun _ _ => if_pos hc) k
theorem am_Ex.icmp_eq_f {off : Int} {x y : Int32} (hf : am_fet m pc = some (.if_icmp .eq off, j)) (hc : ¬ x = y) (k : am_Ex scr d m (pc + 3) L S sh μ out) : am_Ex scr d m pc L (.int y :: .int x :: S) sh μ out := am_Ex.op hf (fun _ _ => if_neg hc) k
theorem am_Ex.if_ne_t {off : Int} {x : Int32} (hf : am_fet m pc = some (.ifCond .ne off, j)) (hc : ¬ x = 0) (k : am_Ex scr d m j L S sh μ out) : am_Ex scr d m pc L (.int x :: S) sh μ out := am_Ex.op hf (fun _ _ => if_pos hc) k
theorem am_Ex.if_ne_f {off : Int} {x : Int32} (hf : am_fet m pc = some (.ifCond .ne off, j)) (hc : x = 0) (k : am_Ex scr d m (pc + 3) L S sh μ out) : am_Ex scr d m pc L (.int x :: S) sh μ out := am_Ex.op hf (fun _ _ => if_neg (fun q => q hc)) k
theorem am_Ex.icmp_ne_t {off : Int} {x y : Int32} (hf : am_fet m pc = some (.if_icmp .ne off, j)) (hc : ¬ x = y) (k : am_Ex scr d m j L S sh μ out) : am_Ex scr d m pc L (.int y :: .int x :: S) sh μ out := am_Ex.op hf (fun _ _ => if_pos hc) k
theorem am_Ex.icmp_ne_f {off : Int} {x y : Int32} (hf : am_fet m pc = some (.if_icmp .ne off, j)) (hc : x = y) (k : am_Ex scr d m (pc + 3) L S sh μ out) : am_Ex scr d m pc L (.int y :: .int x :: S) sh μ out := am_Ex.op hf (fun _ _ => if_neg (fun q => q hc)) k
theorem am_Ex.if_lt_t {off : Int} {x : Int32} (hf : am_fet m pc = some (.ifCond .lt off, j)) (hc : x < 0) (k : am_Ex scr d m j L S sh μ out) : am_Ex scr d m pc L (.int x :: S) sh μ out := am_Ex.op hf (fun _ _ => if_pos hc) k
theorem am_Ex.if_lt_f {off : Int} {x : Int32} (hf : am_fet m pc = some (.ifCond .lt off, j)) (hc : ¬ x < 0) (k : am_Ex scr d m (pc + 3) L S sh μ out) : am_Ex scr d m pc L (.int x :: S) sh μ out := am_Ex.op hf (fun _ _ => if_neg hc) k
theorem am_Ex.icmp_lt_t {off : Int} {x y : Int32} (hf : am_fet m pc = some (.if_icmp .lt off, j)) (hc : x < y) (k : am_Ex scr d m j L S sh μ out) : am_Ex scr d m pc L (.int y :: .int x :: S) sh μ out := am_Ex.op hf (fun _ _ => if_pos hc) k
theorem am_Ex.icmp_lt_f {off : Int} {x y : Int32} (hf : am_fet m pc = some (.if_icmp .lt off, j)) (hc : ¬ x < y) (k : am_Ex scr d m (pc + 3) L S sh μ out) : am_Ex scr d m pc L (.int y :: .int x :: S) sh μ out := am_Ex.op hf (fun _ _ => if_neg hc) k
theorem am_Ex.if_ge_t {off : Int} {x : Int32} (hf : am_fet m pc = some (.ifCond .ge off, j)) (hc : 0 ≤ x) (k : am_Ex scr d m j L S sh μ out) : am_Ex scr d m pc L (.int x :: S) sh μ out := am_Ex.op hf (fun _ _ => if_pos hc) k
theorem am_Ex.if_ge_f {off : Int} {x : Int32} (hf : am_fet m pc = some (.ifCond .ge off, j)) (hc : ¬ 0 ≤ x) (k : am_Ex scr d m (pc + 3) L S sh μ out) : am_Ex scr d m pc L (.int x :: S) sh μ out := am_Ex.op hf (fun _ _ => if_neg hc) k
theorem am_Ex.icmp_ge_t {off : Int} {x y : Int32} (hf : am_fet m pc = some (.if_icmp .ge off, j)) (hc : y ≤ x) (k : am_Ex scr d m j L S sh μ out) : am_Ex scr d m pc L (.int y :: .int x :: S) sh μ out := am_Ex.op hf (fun _ _ => if_pos hc) k
theorem am_Ex.icmp_ge_f {off : Int} {x y : Int32} (hf : am_fet m pc = some (.if_icmp .ge off, j)) (hc : ¬ y ≤ x) (k : am_Ex scr d m (pc + 3) L S sh μ out) : am_Ex scr d m pc L (.int y :: .int x :: S) sh μ out := am_Ex.op hf (fun _ _ => if_neg hc) k
theorem am_Ex.if_gt_t {off : Int} {x : Int32} (hf : am_fet m pc = some (.ifCond .gt off, j)) (hc : 0 < x) (k : am_Ex scr d m j L S sh μ out) : am_Ex scr d m pc L (.int x :: S) sh μ out := am_Ex.op hf (fun _ _ => if_pos hc) k
theorem am_Ex.if_gt_f {off : Int} {x : Int32} (hf : am_fet m pc = some (.ifCond .gt off, j)) (hc : ¬ 0 < x) (k : am_Ex scr d m (pc + 3) L S sh μ out) : am_Ex scr d m pc L (.int x :: S) sh μ out := am_Ex.op hf (fun _ _ => if_neg hc) k
theorem am_Ex.icmp_gt_t {off : Int} {x y : Int32} (hf : am_fet m pc = some (.if_icmp .gt off, j)) (hc : y < x) (k : am_Ex scr d m j L S sh μ out) : am_Ex scr d m pc L (.int y :: .int x :: S) sh μ out := am_Ex.op hf (fun _ _ => if_pos hc) k
theorem am_Ex.icmp_gt_f {off : Int} {x y : Int32} (hf : am_fet m pc = some (.if_icmp .gt off, j)) (hc : ¬ y < x) (k : am_Ex scr d m (pc + 3) L S sh μ out) : am_Ex scr d m pc L (.int y :: .int x :: S) sh μ out := am_Ex.op hf (fun _ _ => if_neg hc) k
theorem am_Ex.if_le_t {off : Int} {x : Int32} (hf : am_fet m pc = some (.ifCond .le off, j)) (hc : x ≤ 0) (k : am_Ex scr d m j L S sh μ out) : am_Ex scr d m pc L (.int x :: S) sh μ out := am_Ex.op hf (fun _ _ => if_pos hc) k
theorem am_Ex.if_le_f {off : Int} {x : Int32} (hf : am_fet m pc = some (.ifCond .le off, j)) (hc : ¬ x ≤ 0) (k : am_Ex scr d m (pc + 3) L S sh μ out) : am_Ex scr d m pc L (.int x :: S) sh μ out := am_Ex.op hf (fun _ _ => if_neg hc) k
theorem am_Ex.icmp_le_t {off : Int} {x y : Int32} (hf : am_fet m pc = some (.if_icmp .le off, j)) (hc : x ≤ y) (k : am_Ex scr d m j L S sh μ out) : am_Ex scr d m pc L (.int y :: .int x :: S) sh μ out := am_Ex.op hf (fun _ _ => if_pos hc) k
theorem am_Ex.icmp_le_f {off : Int} {x y : Int32} (hf : am_fet m pc = some (.if_icmp .le off, j)) (hc : ¬ x ≤ y) (k : am_Ex scr d m (pc + 3) L S sh μ out) : am_Ex scr d m pc L (.int y :: .int x :: S) sh μ out := am_Ex.op hf (fun _ _ => if_neg hc) k
theorem am_Ex.idiv {x y : Int32} (hf : am_fet m pc = some (.idiv, j)) (hy : ¬ y = 0) (k : am_Ex scr d m (pc + 1) L (.int (x / y) :: S) sh μ out) : am_Ex scr d m pc L (.int y :: .int x :: S) sh μ out := am_Ex.op hf (fun _ _ => if_neg hy) k
theorem am_Ex.irem {x y : Int32} (hf : am_fet m pc = some (.irem, j)) (hy : ¬ y = 0) (k : am_Ex scr d m (pc + 1) L (.int (x - x / y * y) :: S) sh μ out) : am_Ex scr d m pc L (.int y :: .int x :: S) sh μ out := am_Ex.op hf (fun _ _ => if_neg hy) k
theorem am_Ex.lrem {x y : Int64} (hf : am_fet m pc = some (.lrem, j)) (hy : ¬ y = 0) (k : am_Ex scr d m (pc + 1) L (.long (x - x / y * y) :: S) sh μ out) : am_Ex scr d m pc L (.long y :: .long x :: S) sh μ out := am_Ex.op hf (fun _ _ => if_neg hy) k
theorem am_Ex.getint {a kd n v : Nat} {fs : List Nat} (hf : am_fet m pc = some (.getfield v, j)) (ha : sh[a]? = some (kd, n, fs)) (hk : Nat.beq kd (j / 100 + 3) = true) (hs : fs[j % 100]? = some 0) (k : am_Ex scr d m (pc + 3) L (.int (μ a (j % 100)) :: S) sh μ out) : am_Ex scr d m pc L (.ref a :: S) sh μ out :=
  am_Ex.op hf (fun K0 K => by simp only [am_op, ha, hk, cond_true, hs]) k
theorem am_Ex.getref {a kd n v b : Nat} {fs : List Nat} (hf : am_fet m pc = some (.getfield v, j)) (ha : sh[a]? = some (kd, n, fs)) (hk : Nat.beq kd (j / 100 + 3) = true) (hs : fs[j % 100]? = some (b + 2)) (k : am_Ex scr d m (pc + 3) L (.ref b :: S) sh μ out) : am_Ex scr d m pc L (.ref a :: S) sh μ out :=
  am_Ex.op hf (fun K0 K => by simp only [am_op, ha, hk, cond_true, hs]) k
theorem am_Ex.putint {a kd n v : Nat} {x : Int32} {fs : List Nat} (hf : am_fet m pc = some (.putfield v, j)) (ha : sh[a]? = some (kd, n, fs)) (hk : Nat.beq kd (j / 100 + 3) = true) (hs : fs[j % 100]? = some 0) (k : am_Ex scr d m (pc + 3) L S sh (am_up μ a (j % 100) x) out) : am_Ex scr d m pc L (.int x :: .ref a :: S) sh μ out :=
  am_Ex.op hf (fun K0 K => by simp only [am_op, ha, hk, cond_true, hs]) k
theorem am_nscr {sh : am_Sh} {a : Nat} {e : Nat × Nat × List Nat} (hl : Nat.ble sh.length am_SCR = true) (ha : sh[a]? = some e) : Nat.beq a am_SCR = false := by
  have h1 := (List.getElem?_eq_some_iff.mp ha).1
  have h2 := Nat.le_of_ble_eq_true hl
  cases hq : Nat.beq a am_SCR with
  | false => rfl
  | true =>
    have := Nat.eq_of_beq_eq_true hq
    omega
theorem am_Ex.iald {a n : Nat} {x v : Int32} {fs : List Nat} (hf : am_fet m pc = some (.iaload, j)) (ha : sh[a]? = some (0, n, fs)) (hs : Nat.beq a am_SCR = false) (hx : am_inb x n = true) (hv : μ a x.toNatClampNeg = v) (k : am_Ex scr d m (pc + 1) L (.int v :: S) sh μ out) : am_Ex scr d m pc L (.int x :: .ref a :: S) sh μ out := by
  subst hv
  exact am_Ex.op hf (fun K0 K => by simp only [am_op, hs, cond_false, ha, hx, cond_true]) k
theorem am_Ex.zald {a n : Nat} {x v : Int32} {fs : List Nat} (hf : am_fet m pc = some (.baload, j)) (ha : sh[a]? = some (1, n, fs)) (hx : am_inb x n = true) (hv : μ a x.toNatClampNeg = v) (k : am_Ex scr d m (pc + 1) L (.int v :: S) sh μ out) : am_Ex scr d m pc L (.int x :: .ref a :: S) sh μ out := by
  subst hv
  exact am_Ex.op hf (fun K0 K => by simp only [am_op, ha, hx, cond_true]) k
theorem am_Ex.bald {a n : Nat} {x v : Int32} {fs : List Nat} (hf : am_fet m pc = some (.baload, j)) (ha : sh[a]? = some (2, n, fs)) (hx : am_inb x n = true) (hv : μ a x.toNatClampNeg = v) (k : am_Ex scr d m (pc + 1) L (.int v :: S) sh μ out) : am_Ex scr d m pc L (.int x :: .ref a :: S) sh μ out := by
  subst hv
  exact am_Ex.op hf (fun K0 K => by simp only [am_op, ha, hx, cond_true]) k
theorem am_Ex.iast {a n i2 : Nat} {x v v2 : Int32} {fs : List Nat} (hf : am_fet m pc = some (.iastore, j)) (ha : sh[a]? = some (0, n, fs)) (hx : am_inb x n = true) (hi : x.toNatClampNeg = i2) (hv : v = v2) (k : am_Ex scr d m (pc + 1) L S sh (am_up μ a i2 v2) out) : am_Ex scr d m pc L (.int v :: .int x :: .ref a :: S) sh μ out := by
  subst hv; subst hi
  exact am_Ex.op hf (fun K0 K => by simp only [am_op, ha, hx, cond_true]) k
theorem am_Ex.zast {a n i2 : Nat} {x v v2 : Int32} {fs : List Nat} (hf : am_fet m pc = some (.bastore, j)) (ha : sh[a]? = some (1, n, fs)) (hx : am_inb x n = true) (hi : x.toNatClampNeg = i2) (hv : v &&& 1 = v2) (k : am_Ex scr d m (pc + 1) L S sh (am_up μ a i2 v2) out) : am_Ex scr d m pc L (.int v :: .int x :: .ref a :: S) sh μ out := by
  subst hv; subst hi
  exact am_Ex.op hf (fun K0 K => by simp only [am_op, ha, hx, cond_true]) k
theorem am_Ex.bast {a n i2 : Nat} {x v v2 : Int32} {fs : List Nat} (hf : am_fet m pc = some (.bastore, j)) (ha : sh[a]? = some (2, n, fs)) (hx : am_inb x n = true) (hi : x.toNatClampNeg = i2) (hv : v.toInt8.toInt32 = v2) (k : am_Ex scr d m (pc + 1) L S sh (am_up μ a i2 v2) out) : am_Ex scr d m pc L (.int v :: .int x :: .ref a :: S) sh μ out := by
  subst hv; subst hi
  exact am_Ex.op hf (fun K0 K => by simp only [am_op, ha, hx, cond_true]) k
theorem am_Ex.alen {a n : Nat} {v : Int32} {fs : List Nat} (hf : am_fet m pc = some (.arraylength, j)) (ha : sh[a]? = some (0, n, fs)) (hs : Nat.beq a am_SCR = false) (hv : Int32.ofNat n = v) (k : am_Ex scr d m (pc + 1) L (.int v :: S) sh μ out) : am_Ex scr d m pc L (.ref a :: S) sh μ out := by
  subst hv
  exact am_Ex.op hf (fun K0 K => by simp only [am_op, hs, cond_false, ha]) k
theorem am_Ex.sld {n : Nat} {f : Nat → Int32} {x : Int32} (hf : am_fet m pc = some (.iaload, j)) (hx : am_inb x n = true) (k : am_Ex (some (some (n, f))) d m (pc + 1) L (.int (f x.toNatClampNeg) :: S) sh μ out) : am_Ex (some (some (n, f))) d m pc L (.int x :: .ref am_SCR :: S) sh μ out :=
  am_Ex.op hf (fun K0 K => by simp only [am_op, show Nat.beq am_SCR am_SCR = true from rfl, hx, cond_true]) k
theorem am_Ex.slen {n : Nat} {f : Nat → Int32} (hf : am_fet m pc = some (.arraylength, j)) (k : am_Ex (some (some (n, f))) d m (pc + 1) L (.int (Int32.ofNat n) :: S) sh μ out) : am_Ex (some (some (n, f))) d m pc L (.ref am_SCR :: S) sh μ out :=
  am_Ex.op hf (fun K0 K => by simp only [am_op, show Nat.beq am_SCR am_SCR = true from rfl, cond_true]) k
theorem am_Ex.max {v : Nat} {x y : Int32} (hf : am_fet m pc = some (.invokestatic v, 1001)) (h1 : S.all am_ir = true) (h2 : Nat.ble S.length 8 = true) (k : am_Ex scr (d + 1) m (pc + 3) L (.int (if x < y then y else x) :: S) sh μ out) : am_Ex scr (d + 1) m pc L (.int y :: .int x :: S) sh μ out :=
  am_Ex.op hf (fun K0 K => by simp only [am_op, show Nat.beq 1001 am_jc = false from rfl, cond_false, am_static, h1, h2, Bool.and_self, cond_true]) k
theorem am_Ex.min {v : Nat} {x y : Int32} (hf : am_fet m pc = some (.invokestatic v, 1002)) (h1 : S.all am_ir = true) (h2 : Nat.ble S.length 8 = true) (k : am_Ex scr (d + 1) m (pc + 3) L (.int (if y < x then y else x) :: S) sh μ out) : am_Ex scr (d + 1) m pc L (.int y :: .int x :: S) sh μ out :=
  am_Ex.op hf (fun K0 K => by simp only [am_op, show Nat.beq 1002 am_jc = false from rfl, cond_false, am_static, h1, h2, Bool.and_self, cond_true]) k
theorem am_Ex.abs {v : Nat} {x : Int32} (hf : am_fet m pc = some (.invokestatic v, 1003)) (h1 : S.all am_ir = true) (h2 : Nat.ble S.length 8 = true) (k : am_Ex scr (d + 1) m (pc + 3) L (.int (if 0 ≤ x then x else 0 - x) :: S) sh μ out) : am_Ex scr (d + 1) m pc L (.int x :: S) sh μ out :=
  am_Ex.op hf (fun K0 K => by simp only [am_op, show Nat.beq 1003 am_jc = false from rfl, cond_false, am_static, h1, h2, Bool.and_self, cond_true]) k
theorem am_Ex.copy {v a b n0 n1 : Nat} {n dp sp : Int32} {fa fb : List Nat} (hf : am_fet m pc = some (.invokestatic v, 1004)) (ha : sh[a]? = some (0, n0, fa)) (hb : sh[b]? = some (0, n1, fb)) (hc : (!(decide (sp < 0)) && (!(decide (dp < 0)) && (!(decide (n < 0)) && (Nat.ble (sp.toNatClampNeg + n.toNatClampNeg) n0 && Nat.ble (dp.toNatClampNeg + n.toNatClampNeg) n1)))) = true) (k : am_Ex scr (d + 1) m (pc + 3) L [] sh (am_row μ b (va_cpy (μ a) (μ b) sp.toNatClampNeg dp.toNatClampNeg n.toNatClampNeg)) out) : am_Ex scr (d + 1) m pc L [.int n, .int dp, .ref b, .int sp, .ref a] sh μ out :=
  am_Ex.op hf (fun K0 K => by simp only [am_op, show Nat.beq 1004 am_jc = false from rfl, cond_false, am_static, ha, hb, hc, cond_true]) k
theorem am_Ex.tblIn (tgt : Nat) {v x : Int32} {dflt lo hi off : Int} {offs : Array Int} (hf : am_fet m pc = some (.tableswitch dflt lo hi offs, j)) (hx : x = v) (hr : ¬ (v.toInt < lo ∨ hi < v.toInt)) (ho : offs[(v.toInt - lo).toNat]? = some off) (ht : am_pcOf pc off = tgt) (k : am_Ex scr d m tgt L S sh μ out) : am_Ex scr d m pc L (.int x :: S) sh μ out := by
  subst hx; subst ht
  exact am_Ex.op hf (fun K0 K => by simp only [am_op, if_neg hr, ho]) k
theorem am_Ex.tblOut (tgt : Nat) {x : Int32} {dflt lo hi : Int} {offs : Array Int} (hf : am_fet m pc = some (.tableswitch dflt lo hi offs, j)) (hr : x.toInt < lo ∨ hi < x.toInt) (ht : am_pcOf pc dflt = tgt) (k : am_Ex scr d m tgt L S sh μ out) : am_Ex scr d m pc L (.int x :: S) sh μ out := by
  subst ht
  exact am_Ex.op hf (fun K0 K => by simp only [am_op, if_pos hr]) k
theorem am_Ex.lku (tgt : Nat) {x : Int32} {dflt : Int} {ps : Array (Int × Int)} {psl : List (Int × Int)} (hf : am_fet m pc = some (.lookupswitch dflt ps, j)) (hl : ps.toList = psl) (hp : (ps.toList.zip (ps.toList.drop 1)).all (fun (a, next) => a.1 < next.1) = true) (ht : am_pcOf pc (Op.lookupswitch.offset psl dflt x.toInt) = tgt) (k : am_Ex scr d m tgt L S sh μ out) : am_Ex scr d m pc L (.int x :: S) sh μ out := by
  subst hl; subst ht
  exact am_Ex.op hf (fun K0 K => by simp only [am_op, hp, cond_true]) k
theorem am_Ex.iret {x : Int32} (hf : am_fet m pc = some (.ireturn, j)) (ht : am_rt m = some .int) : am_Ex scr d m pc L [.int x] sh μ (some (.int x), sh, μ) :=
  ⟨1, by show am_step _ _ _ _ _ _ _ _ _ _ = _; unfold am_step; rw [hf]; simp only [am_op, ht]⟩
theorem am_Ex.zret {x : Int32} (hf : am_fet m pc = some (.ireturn, j)) (ht : am_rt m = some .boolean) (hx : x &&& 1 = x) : am_Ex scr d m pc L [.int x] sh μ (some (.int x), sh, μ) :=
  ⟨1, by show am_step _ _ _ _ _ _ _ _ _ _ = _; unfold am_step; rw [hf]; simp only [am_op, ht, if_pos hx]⟩
theorem am_Ex.aret {a : Nat} {C : String} (hf : am_fet m pc = some (.areturn, j)) (ht : am_rt m = some (.object C)) : am_Ex scr d m pc L [.ref a] sh μ (some (.ref a), sh, μ) :=
  ⟨1, by show am_step _ _ _ _ _ _ _ _ _ _ = _; unfold am_step; rw [hf]; simp only [am_op, ht]⟩
theorem am_Ex.vret (hf : am_fet m pc = some (.return_, j)) (ht : am_rt m = none) : am_Ex scr d m pc L [] sh μ (none, sh, μ) :=
  ⟨1, by show am_step _ _ _ _ _ _ _ _ _ _ = _; unfold am_step; rw [hf]; simp only [am_op, ht]⟩
/-- a call -/
theorem am_Ex.call {na : Nat} {As rest L0 : List Value} {r : Option Value} {μ1 : am_Mu} (hop : ∀ K0 K : am_K, am_op scr K0 K (d + 1) m pc i j L S sh μ = am_call K0 K (d + 1) m pc j L S sh μ) (hf : am_fet m pc = some (i, j)) (hna : (bif am_st j then am_na j else am_na j + 1) = na) (hA : (S.take na).reverse = As) (hR : S.drop na = rest) (hck : (Nat.ble na S.length && As.all am_ir && rest.all am_ir && Nat.ble rest.length 8 && Nat.ble na (am_nl j)) = true) (hL : As ++ List.replicate (am_nl j - na) Value.null = L0)
    (hrc : (bif am_st j then some 0 else match As with
      | .ref b :: _ => (match sh[b]? with
        | some e => bif Nat.beq e.1 (am_ow j + 3) then some 0 else none
        | none => none)
      | _ => none) = some 0) (hc : am_Ex none d j 0 L0 [] sh μ (r, sh, μ1)) (k : am_Ex scr (d + 1) m (pc + 3) L (r.toList ++ rest) sh μ1 out) : am_Ex scr (d + 1) m pc L S sh μ out := by
  obtain ⟨n1, h1⟩ := hc
  obtain ⟨n2, h2⟩ := k
  refine ⟨n1 + n2 + 1, ?_⟩
  show am_step scr (am_exec (n1 + n2) (am_sub scr)) (am_exec (n1 + n2) scr) (d + 1) m pc L S sh μ = some out
  unfold am_step
  rw [hf]
  show am_op _ _ _ _ _ _ _ _ _ _ _ _ = _
  rw [hop]
  have h1 := am_exec_scr _ (am_sub scr) _ _ _ _ _ _ _ _ (am_exec_le (Nat.le_add_right n1 n2) h1)
  have h2 := am_exec_le (Nat.le_add_left n2 n1) h2
  unfold am_call
  dsimp only
  rw [hna, hA, hR, hck, cond_true]
  generalize hX : (bif am_st j then (some 0 : Option Nat) else _) = X
  have hX2 : X = some 0 := hX.symm.trans hrc
  subst hX2
  dsimp only
  rw [hL, h1]
  dsimp only
  rw [show (Nat.beq sh.length sh.length) = true from Nat.beq_refl _, Bool.true_or, cond_true]
  exact h2
theorem am_virt_call {K0 K : am_K} (hj : Nat.ble j 999 = true) : am_virt scr K0 K d m pc j L S sh μ = am_call K0 K d m pc j L S sh μ := by
  have h := Nat.le_of_ble_eq_true hj
  unfold am_virt
  split <;> first | rfl | omega
theorem am_Ex.ivk {v na b kd n9 : Nat} {As' rest L0 : List Value} {fs9 : List Nat} {r : Option Value} {μ1 : am_Mu} (hf : am_fet m pc = some (.invokevirtual v, j)) (hna : (bif am_st j then am_na j else am_na j + 1) = na) (hA : (S.take na).reverse = .ref b :: As') (hR : S.drop na = rest) (hck : (Nat.ble na S.length && (Value.ref b :: As').all am_ir && rest.all am_ir && Nat.ble rest.length 8 && Nat.ble na (am_nl j)) = true) (hL : (.ref b :: As') ++ List.replicate (am_nl j - na) Value.null = L0) (hst : (am_st j || !(Nat.ble j 999)) = false) (hb : sh[b]? = some (kd, n9, fs9)) (hkd : Nat.beq kd (am_ow j + 3) = true) (hc : am_Ex none d j 0 L0 [] sh μ (r, sh, μ1)) (k : am_Ex scr (d + 1) m (pc + 3) L (r.toList ++ rest) sh μ1 out) : am_Ex scr (d + 1) m pc L S sh μ out :=
  by
  simp only [Bool.or_eq_false_iff, Bool.not_eq_false'] at hst
  exact am_Ex.call (i := .invokevirtual v) (fun K0 K => (am_virt_call hst.2 : am_virt scr K0 K (d + 1) m pc j L S sh μ = _)) hf hna hA hR hck hL (by simp only [hst.1, cond_false, hb, hkd, cond_true]) hc k
theorem am_static_call {K0 K : am_K} (hj : Nat.ble j 999 = true) : am_static K0 K d m pc j L S sh μ = am_call K0 K d m pc j L S sh μ := by
  have h := Nat.le_of_ble_eq_true hj
  unfold am_static
  split <;> first | rfl | omega
theorem am_Ex.isk {v na : Nat} {As rest L0 : List Value} {r : Option Value} {μ1 : am_Mu} (hf : am_fet m pc = some (.invokestatic v, j)) (hna : (bif am_st j then am_na j else am_na j + 1) = na) (hA : (S.take na).reverse = As) (hR : S.drop na = rest) (hck : (Nat.ble na S.length && As.all am_ir && rest.all am_ir && Nat.ble rest.length 8 && Nat.ble na (am_nl j)) = true) (hL : As ++ List.replicate (am_nl j - na) Value.null = L0) (hst : (am_st j && (Nat.ble j 999 && !(Nat.beq j am_jc))) = true) (hc : am_Ex none d j 0 L0 [] sh μ (r, sh, μ1)) (k : am_Ex scr (d + 1) m (pc + 3) L (r.toList ++ rest) sh μ1 out) : am_Ex scr (d + 1) m pc L S sh μ out := by
  simp only [Bool.and_eq_true, Bool.not_eq_true'] at hst
  exact am_Ex.call (i := .invokestatic v) (fun K0 K => by
    show (bif Nat.beq j am_jc then _ else am_static K0 K (d + 1) m pc j L S sh μ) = _
    rw [hst.2.2, cond_false]
    exact am_static_call hst.2.1) hf hna hA hR hck hL (by rw [hst.1, cond_true]) hc k
/-- the one call that takes the script along -/
theorem am_Ex.iskc {v na : Nat} {As rest L0 : List Value} {r : Option Value} {μ1 : am_Mu} (hf : am_fet m pc = some (.invokestatic v, j)) (hna : (bif am_st j then am_na j else am_na j + 1) = na) (hA : (S.take na).reverse = As) (hR : S.drop na = rest) (hck : (Nat.ble na S.length && As.all am_ir && rest.all am_ir && Nat.ble rest.length 8 && Nat.ble na (am_nl j)) = true) (hL : As ++ List.replicate (am_nl j - na) Value.null = L0) (hst : (am_st j && Nat.beq j am_jc) = true) (hc : am_Ex scr d j 0 L0 [] sh μ (r, sh, μ1)) (k : am_Ex scr (d + 1) m (pc + 3) L (r.toList ++ rest) sh μ1 out) : am_Ex scr (d + 1) m pc L S sh μ out := by
  rw [Bool.and_eq_true] at hst
  obtain ⟨n1, h1⟩ := hc
  obtain ⟨n2, h2⟩ := k
  refine ⟨n1 + n2 + 1, ?_⟩
  show am_step scr (am_exec (n1 + n2) (am_sub scr)) (am_exec (n1 + n2) scr) (d + 1) m pc L S sh μ = some out
  unfold am_step
  rw [hf]
  show (bif Nat.beq j am_jc then am_call (am_exec (n1 + n2) scr) (am_exec (n1 + n2) scr) (d + 1) m pc j L S sh μ else _) = _
  rw [hst.2, cond_true]
  have h1 := am_exec_le (Nat.le_add_right n1 n2) h1
  have h2 := am_exec_le (Nat.le_add_left n2 n1) h2
  unfold am_call
  dsimp only
  rw [hna, hA, hR, hck, cond_true, hst.1, cond_true]
  dsimp only
  rw [hL, h1]
  dsimp only
  rw [show (Nat.beq sh.length sh.length) = true from Nat.beq_refl _, Bool.true_or, cond_true]
  exact h2
theorem am_Ex.newa {t : ArrayType} {kd n : Nat} {x : Int32} {L1 : List Value} {sh1 : am_Sh} (hf : am_fet m pc = some (.newarray t, j)) (hk : am_kd t = some kd) (hx : (!(decide (x < 0)) && (Nat.ble x.toNatClampNeg 100000 && am_fre sh [] S)) = true) (hn : sh.length = n) (hL : am_msk n L = L1) (h1 : sh ++ [(kd, x.toNatClampNeg, [])] = sh1) (k : am_Ex scr d m (pc + 2) L1 (.ref n :: S) sh1 (am_row μ n (fun _ => 0)) out) : am_Ex scr d m pc L (.int x :: S) sh μ out := by
  subst hn; subst hL; subst h1
  obtain ⟨q, hq⟩ := k
  refine ⟨q + 1, ?_⟩
  show am_step scr (am_exec q (am_sub scr)) (am_exec q scr) d m pc L (.int x :: S) sh μ = some out
  unfold am_step
  rw [hf]
  show am_op _ _ _ _ _ _ _ _ _ _ _ _ = _
  simp only [am_op, hk, hx, cond_true]
  exact hq
end

