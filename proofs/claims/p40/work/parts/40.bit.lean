/-! E: MARKS AS BITS -/
def bv (v j : Nat) : Int32 := if j = 0 then (if v % 2 = 1 then 2 else 0) else if j = 1 then (if 2 ≤ v then 2 else 0) else 0
def set1 (v : Nat) : Nat := if v % 2 = 1 then v else v + 1
def clr1 (v : Nat) : Nat := if v % 2 = 1 then v - 1 else v
def orM (K v : Nat) : Nat := if K = 0 then set1 v else 3
def updN (w : Nat → Nat) (b v : Nat) : Nat → Nat := fun s => if s = b then v else w s
def goB (K a : Nat) (b : Option Nat) (w : Nat → Nat) : Nat → Nat := match b with
  | none => updN w a (clr1 (w a))
  | some b => if w b % 2 = 1 then updN (if w a % 2 = 1 then updN w b (orM K (w b)) else w) a (orM K (w a)) else (if w a % 2 = 1 then updN w b (orM K (w b)) else w)
def Rel (n : Nat) (W : Wd) (w : Nat → Nat) : Prop := ∀ t, t < n → w t < 4 ∧ ∀ j, j < 8 → (W (8 * t + j)).1 = bv (w t) j
theorem bv_set : ∀ v : Fin 4, set1 v.val < 4 ∧ ∀ j : Fin 8, bv (set1 v.val) j.val = if j.val = 0 then 2 else bv v.val j.val := by decide +kernel
theorem bv_clr : ∀ v : Fin 4, clr1 v.val < 4 ∧ ∀ j : Fin 8, bv (clr1 v.val) j.val = if j.val = 0 then 0 else bv v.val j.val := by decide +kernel
theorem bv_or3 : ∀ v : Fin 4, ∀ j : Fin 8, bv 3 j.val = if j.val = 1 then 2 else bv (set1 v.val) j.val := by decide +kernel
theorem bv_lt {v : Nat} (h : v < 4) : bv v 0 = if v % 2 = 1 then 2 else 0 := rfl
theorem set1_lt {v : Nat} (h : v < 4) : set1 v < 4 := (bv_set ⟨v, h⟩).1
theorem orM_lt {K v : Nat} (h : v < 4) : orM K v < 4 := by
  unfold orM
  split
  · exact set1_lt h
  · omega
theorem rel_up {n b i v : Nat} {W : Wd} {w : Nat → Nat} {x m m' : Int32} (h : Rel n W w) (hi : i < 8) (hv : v < 4) (hb : ∀ j, j < 8 → bv v j = if j = i then x else bv (w b) j) : Rel n (wup W (8 * b + i) (x, m, m')) (updN w b v) := by
  intro t ht
  unfold updN
  by_cases htb : t = b
  · subst htb
    rw [if_pos rfl]
    refine ⟨hv, fun j hj => ?_⟩
    rw [hb j hj]
    unfold wup
    by_cases hji : j = i
    · rw [if_pos (by omega), if_pos hji]
    · rw [if_neg (by omega), if_neg hji]
      exact (h t ht).2 j hj
  · rw [if_neg htb]
    refine ⟨(h t ht).1, fun j hj => ?_⟩
    unfold wup
    rw [if_neg (by omega)]
    exact (h t ht).2 j hj
theorem rel_set {n b : Nat} {W : Wd} {w : Nat → Nat} {m m' : Int32} (h : Rel n W w) (hb : b < n) : Rel n (wup W (8 * b) (2, m, m')) (updN w b (set1 (w b))) := by
  have hl := (h b hb).1
  exact rel_up (i := 0) h (by omega) (set1_lt hl) (fun j hj => (bv_set ⟨w b, hl⟩).2 ⟨j, hj⟩)
theorem rel_clr {n b : Nat} {W : Wd} {w : Nat → Nat} {m m' : Int32} (h : Rel n W w) (hb : b < n) : Rel n (wup W (8 * b) (0, m, m')) (updN w b (clr1 (w b))) := by
  have hl := (h b hb).1
  exact rel_up (i := 0) h (by omega) (bv_clr ⟨w b, hl⟩).1 (fun j hj => (bv_clr ⟨w b, hl⟩).2 ⟨j, hj⟩)
theorem updN_updN (w : Nat → Nat) (b v u : Nat) : updN (updN w b v) b u = updN w b u := by
  funext s
  unfold updN
  split <;> rfl
theorem rel_or3 {n b : Nat} {W : Wd} {w : Nat → Nat} {m m' : Int32} (h : Rel n W w) (hb : b < n) : Rel n (wup (wup W (8 * b) (2, m, m')) (8 * b + 1) (2, m, m')) (updN w b 3) := by
  have hl := (h b hb).1
  have h1 := rel_set (m := m) (m' := m') h hb
  have h2 := rel_up (i := 1) (v := 3) (b := b) (x := 2) (m := m) (m' := m') h1 (by omega) (by omega) (fun j hj => by
    rw [show updN w b (set1 (w b)) b = set1 (w b) from if_pos rfl]
    exact bv_or3 ⟨w b, hl⟩ ⟨j, hj⟩)
  rw [updN_updN] at h2
  exact h2
/-! the three rules -/
theorem ev_has (A : Wd) (m : Int32) : evV A m [stC 4 0 0] = (A 0).1 := by
  have h7 : stC 4 0 0 &&& 7 = 4 := by decide
  have hn : (stC 4 0 0).toNatClampNeg = 4 := by decide
  unfold evV evS
  simp [h7, evS, opv, hn]
theorem ev_so (A : Wd) (m : Int32) : evV A m [stC 0 0 0] = 2 := by
  have h7 : stC 0 0 0 &&& 7 = 0 := by decide
  unfold evV evS
  simp [h7, evS, opv]
theorem ef_24 {x y : Nat} {m v : Int32} {W : Wd} (hv : ¬ v = 1) : ef1 x (some y) m v 24 W = wup W (8 * y) (2, m, m) := by
  unfold ef1 efT efV
  rw [show (24 : Int32).toNatClampNeg = 24 from rfl, if_neg (by omega)]
  dsimp only
  rw [if_neg hv, if_pos (by omega)]
  rfl
theorem ef_25 {x y : Nat} {m v : Int32} {W : Wd} (hv : ¬ v = 1) : ef1 x (some y) m v 25 W = wup W (8 * y + 1) (2, m, m) := by
  unfold ef1 efT efV
  rw [show (25 : Int32).toNatClampNeg = 25 from rfl, if_neg (by omega)]
  dsimp only
  rw [if_neg hv, if_pos (by omega)]
theorem ef_0 {x : Nat} {y : Option Nat} {m v : Int32} {W : Wd} (hv : ¬ v = 1) : ef1 x y m v 0 W = wup W (8 * x) (0, m, m) := by
  unfold ef1 efT efV
  rw [show (0 : Int32).toNatClampNeg = 0 from rfl, if_pos (by omega)]
  dsimp only
  rw [if_neg hv, if_neg (by omega)]
  rfl
theorem ru_0 {A W : Wd} {x y : Nat} {m : Int32} {p : Prop} [Decidable p] (hA : (A 0).1 = if p then 2 else 0) : ruS A 0 x (some y) m rs40 W = if p then wup W (8 * y) (2, m, m) else W := by
  unfold rs40
  rw [ruS, ruS, ruS, ruS]
  dsimp only
  rw [ev_has, hA]
  by_cases hp : p
  · rw [if_pos hp, if_neg (fun z => absurd z.1 (by decide)), if_neg (fun z => absurd z.1 (by decide)), if_pos ⟨rfl, by decide⟩, if_pos hp]
    show ef1 x (some y) m 2 24 W = _
    exact ef_24 (by decide)
  · rw [if_neg hp, if_neg (fun z => absurd z.1 (by decide)), if_neg (fun z => absurd z.1 (by decide)), if_neg (fun z => z.2 rfl), if_neg hp]
theorem ru_1 {A W : Wd} {x y : Nat} {m : Int32} {p : Prop} [Decidable p] (hA : (A 0).1 = if p then 2 else 0) : ruS A 1 x (some y) m rs40 W = if p then wup (wup W (8 * y) (2, m, m)) (8 * y + 1) (2, m, m) else W := by
  unfold rs40
  rw [ruS, ruS, ruS, ruS]
  dsimp only
  rw [ev_has, hA]
  by_cases hp : p
  · rw [if_pos hp, if_neg (fun z => absurd z.1 (by decide)), if_pos ⟨rfl, by decide⟩, if_neg (fun z => absurd z.1 (by decide)), if_pos hp]
    show ef1 x (some y) m 2 25 (ef1 x (some y) m 2 24 W) = _
    rw [ef_24 (by decide), ef_25 (by decide)]
  · rw [if_neg hp, if_neg (fun z => absurd z.1 (by decide)), if_neg (fun z => z.2 rfl), if_neg (fun z => absurd z.1 (by decide)), if_neg hp]
theorem ru_2 {A W : Wd} {x : Nat} {m : Int32} : ruS A 2 x none m rs40 W = wup W (8 * x) (0, m, m) := by
  unfold rs40
  rw [ruS, ruS, ruS, ruS]
  dsimp only
  rw [ev_so, if_pos ⟨rfl, by decide⟩, if_neg (fun z => absurd z.1 (by decide)), if_neg (fun z => absurd z.1 (by decide))]
  show ef1 x none m 2 0 W = _
  exact ef_0 (by decide)
theorem acS_sure {rs : List LR} {kd : Int32} {a : Nat} {b : Option Nat} {m : Int32} {W : Wd} : acS rs kd a b m 1 W = acR rs kd a b m W := by
  unfold acS
  rw [if_neg (by decide)]
/-- an act, in bits -/
theorem rel_act {n K a : Nat} {b : Option Nat} {m : Int32} {W : Wd} {w : Nat → Nat} (h : Rel n W w) (ha : a < n) (hd : (K < 2 ∧ ∃ b', b = some b' ∧ b' < n ∧ ¬ a = b') ∨ (K = 2 ∧ b = none)) : Rel n (acS rs40 (nI K) a b m 1 W) (goB K a b w) := by
  rw [acS_sure]
  rcases hd with ⟨hK, b', rfl, hb, hne⟩ | ⟨rfl, rfl⟩
  · have hwa : ∀ Z, (ahA W a Z 0).1 = if w a % 2 = 1 then 2 else 0 := fun Z => (h a ha).2 0 (by omega)
    have hwb : ∀ Z, (ahA W b' Z 0).1 = if w b' % 2 = 1 then 2 else 0 := fun Z => (h b' hb).2 0 (by omega)
    have e1 : ∀ v, updN w b' v a = w a := fun v => if_neg hne
    have hK2 : K = 0 ∨ K = 1 := by omega
    unfold acR goB
    dsimp only
    rcases hK2 with rfl | rfl
    · rw [show nI 0 = (0 : Int32) from rfl, ru_0 (hwa _), ru_0 (hwb _)]
      have s1 : Rel n (if w a % 2 = 1 then wup W (8 * b') (2, m, m) else W) (if w a % 2 = 1 then updN w b' (orM 0 (w b')) else w) := by
        split
        · exact rel_set h hb
        · exact h
      split
      · have := rel_set (m := m) (m' := m) s1 ha
        have e2 : (if w a % 2 = 1 then updN w b' (orM 0 (w b')) else w) a = w a := by
          split
          · exact e1 _
          · rfl
        rw [e2] at this
        exact this
      · exact s1
    · rw [show nI 1 = (1 : Int32) from rfl, ru_1 (hwa _), ru_1 (hwb _)]
      have s1 : Rel n (if w a % 2 = 1 then wup (wup W (8 * b') (2, m, m)) (8 * b' + 1) (2, m, m) else W) (if w a % 2 = 1 then updN w b' (orM 1 (w b')) else w) := by
        split
        · exact rel_or3 h hb
        · exact h
      split
      · exact rel_or3 s1 ha
      · exact s1
  · unfold acR goB
    dsimp only
    rw [show nI 2 = (2 : Int32) from rfl, ru_2]
    exact rel_clr h ha
/-! two worlds -/
def odq (f g : Nat → Int32) : Nat → Nat → Int32 → Int32
  | 0, _, r => r
  | q + 1, k, r => odq f g q (k + 1) (if r < dff (f k) (g k) then dff (f k) (g k) else r)
theorem odq_v : ∀ a b : Fin 4, odq (bv a.val) (bv b.val) 8 0 0 = if a.val = b.val then 0 else 2 := by decide +kernel
theorem odv_q {n t : Nat} {A B : Wd} {a b : Nat → Nat} (hA : Rel n A a) (hB : Rel n B b) (ht : t < n) : ∀ q j r, j + q = 8 → odv A B q (8 * t + j) r = odq (bv (a t)) (bv (b t)) q j r := by
  intro q
  induction q with
  | zero => intro j r h; rfl
  | succ q ih =>
    intro j r h
    rw [odv, odq, (hA t ht).2 j (by omega), (hB t ht).2 j (by omega)]
    exact ih (j + 1) _ (by omega)
theorem odv_bits {n t : Nat} {A B : Wd} {a b : Nat → Nat} (hA : Rel n A a) (hB : Rel n B b) (ht : t < n) : odv A B 8 (8 * t) 0 = if a t = b t then 0 else 2 := by
  have h := odv_q hA hB ht 8 0 0 rfl
  rw [Nat.add_zero] at h
  rw [h]
  exact odq_v ⟨a t, (hA t ht).1⟩ ⟨b t, (hB t ht).1⟩
theorem clr_clr : ∀ v : Fin 4, clr1 (clr1 v.val) = clr1 v.val := by decide +kernel
/-- cleansing, in bits -/
theorem mn_none {n t : Nat} {B : Wd} {b : Nat → Nat} {m : Int32} (hB : Rel n B b) (ht : t < n) : ∀ q i A a, Rel n A a → clr1 (a t) = a t → ¬ a t = b t → mnV rs40 t m B q i A = -1 := by
  intro q
  induction q with
  | zero => intro i A a hA h1 h2; rfl
  | succ q ih =>
    intro i A a hA h1 h2
    rw [mnV, odv_bits hA hB ht, if_neg h2, if_neg (by decide)]
    have hs := rel_act (K := 2) (m := m) hA ht (Or.inr ⟨rfl, rfl⟩)
    have e : goB 2 t none a t = clr1 (a t) := if_pos rfl
    refine ih (i + 1) _ _ hs ?_ ?_
    · rw [e, h1, h1]
    · rw [e, h1]; exact h2
theorem mn_bits {n t : Nat} {A B : Wd} {a b : Nat → Nat} {m : Int32} (hA : Rel n A a) (hB : Rel n B b) (ht : t < n) : mnV rs40 t m B 6 0 A = if a t = b t then 0 else if clr1 (a t) = b t then 1 else -1 := by
  rw [mnV, odv_bits hA hB ht]
  by_cases h1 : a t = b t
  · rw [if_pos h1, if_pos rfl, if_pos h1]
    rfl
  · have hs := rel_act (K := 2) (m := m) hA ht (Or.inr ⟨rfl, rfl⟩)
    have e : goB 2 t none a t = clr1 (a t) := if_pos rfl
    rw [if_neg h1, if_neg (by decide), if_neg h1]
    by_cases h2 : clr1 (a t) = b t
    · have h9 : acS rs40 2 t none m 1 A = acS rs40 (nI 2) t none m 1 A := rfl
      rw [if_pos h2, h9, mnV, odv_bits hs hB ht, e, if_pos h2, if_pos rfl]
      rfl
    · rw [if_neg h2]
      exact mn_none hB ht 5 1 _ _ hs (by rw [e]; exact clr_clr ⟨a t, (hA t ht).1⟩) (by rw [e]; exact h2)
