/-! E: WORLDS, as functions: what is on each place (8 times the thing and the mark) -/
abbrev TR : Type := Int32 × Int32 × Int32
abbrev Wd : Type := Nat → Int32 × Int32 × Int32
def z3 : TR := (0, 0, 0)
def jn (x y : TR) : TR := if y.1 = 0 then (if x.1 = 0 then x else (1, x.2.1, x.2.2)) else if x.1 = 0 then (1, y.2.1, y.2.2) else ((if x.1 = 2 ∧ y.1 = 2 then 2 else 1), (if y.2.1 < x.2.1 then y.2.1 else x.2.1), (if x.2.2 < y.2.2 then y.2.2 else x.2.2))
def wup (W : Wd) (k : Nat) (t : TR) : Wd := fun j => if j = k then t else W j
def V3 (v : Int32) : Prop := v = 0 ∨ v = 1 ∨ v = 2
def TG (t : TR) : Prop := V3 t.1 ∧ (¬ t.1 = 0 → 0 ≤ t.2.1 ∧ t.2.1 ≤ t.2.2 ∧ t.2.2 < 1440000)
def WG (K : Nat) (W : Wd) : Prop := ∀ k, k < K → TG (W k)
theorem z3_g : TG z3 := ⟨Or.inl rfl, fun h => absurd rfl h⟩
theorem jn_g {x y : TR} (hx : TG x) (hy : TG y) : TG (jn x y) := by
  obtain ⟨x1, x2⟩ := hx
  obtain ⟨y1, y2⟩ := hy
  unfold jn
  by_cases h1 : y.1 = 0
  · rw [if_pos h1]
    by_cases h2 : x.1 = 0
    · rw [if_pos h2]
      exact ⟨x1, x2⟩
    · rw [if_neg h2]
      exact ⟨Or.inr (Or.inl rfl), fun _ => x2 h2⟩
  · rw [if_neg h1]
    by_cases h2 : x.1 = 0
    · rw [if_pos h2]
      exact ⟨Or.inr (Or.inl rfl), fun _ => y2 h1⟩
    · rw [if_neg h2]
      obtain ⟨a1, a2, a3⟩ := x2 h2
      obtain ⟨b1, b2, b3⟩ := y2 h1
      refine ⟨?_, fun _ => ?_⟩
      · dsimp only
        split
        · exact Or.inr (Or.inr rfl)
        · exact Or.inr (Or.inl rfl)
      · dsimp only
        generalize x.2.1 = p1 at a1 a2 ⊢
        generalize x.2.2 = p2 at a2 a3 ⊢
        generalize y.2.1 = q1 at b1 b2 ⊢
        generalize y.2.2 = q2 at b2 b3 ⊢
        refine ⟨?_, ?_, ?_⟩
        · split <;> assumption
        · split <;> split <;> grind
        · split <;> assumption
theorem wup_g {K k : Nat} {W : Wd} {t : TR} (h : WG K W) (ht : TG t) : WG K (wup W k t) := by
  intro j hj
  unfold wup
  split
  · exact ht
  · exact h j hj
theorem wup_eq {W : Wd} {k : Nat} {t : TR} : wup W k t k = t := if_pos rfl
theorem wup_ne {W : Wd} {k j : Nat} {t : TR} (h : ¬ j = k) : wup W k t j = W j := if_neg h
/-- a mark by how long ago -/
def lat (t : TR) (m n : Int32) : Int32 := if t.1 = 0 then 0 else if m - t.2.2 < n then (if m - t.2.1 < n then t.1 else 1) else 0
theorem lat_v {t : TR} (h : TG t) (m n : Int32) : V3 (lat t m n) := by
  unfold lat
  split
  · exact Or.inl rfl
  · split
    · split
      · exact h.1
      · exact Or.inr (Or.inl rfl)
    · exact Or.inl rfl
def opv (A : Wd) (m c : Int32) : Int32 := if c &&& 7 = 0 then 2 else if c &&& 7 = 4 then (A (c.toNatClampNeg / 8 % 16)).1 else lat (A (c.toNatClampNeg / 8 % 16)) m (nI (c.toNatClampNeg / 128))
def evS (A : Wd) (m : Int32) : List Int32 → List Int32 → List Int32
  | [], st => st
  | c :: l, st =>
    if c &&& 7 = 1 then (match st with
      | [] => evS A m l []
      | x :: r => evS A m l ((2 - x) :: r))
    else if c &&& 7 = 2 then (match st with
      | x :: y :: r => evS A m l ((if x < y then x else y) :: r)
      | s => evS A m l s)
    else if c &&& 7 = 3 then (match st with
      | x :: y :: r => evS A m l ((if y < x then x else y) :: r)
      | s => evS A m l s)
    else evS A m l (opv A m c :: st)
def evV (A : Wd) (m : Int32) (l : List Int32) : Int32 := (evS A m l []).headD 0
theorem opv_v {A : Wd} (h : WG 16 A) (m c : Int32) : V3 (opv A m c) := by
  unfold opv
  have hb : c.toNatClampNeg / 8 % 16 < 16 := Nat.mod_lt _ (by decide)
  split
  · exact Or.inr (Or.inr rfl)
  · split
    · exact (h _ hb).1
    · exact lat_v (h _ hb) _ _
theorem evS_v {A : Wd} (h : WG 16 A) (m : Int32) : ∀ l st, (∀ x, x ∈ st → V3 x) → ∀ x, x ∈ evS A m l st → V3 x := by
  intro l
  induction l with
  | nil => exact fun st hs => hs
  | cons c l ih =>
    intro st hs
    unfold evS
    split
    · cases st with
      | nil => exact ih [] hs
      | cons x r =>
        refine ih _ ?_
        intro y hy
        rcases List.mem_cons.mp hy with hy | hy
        · rw [hy]
          rcases hs x List.mem_cons_self with h | h | h <;> rw [h]
          · exact Or.inr (Or.inr rfl)
          · exact Or.inr (Or.inl rfl)
          · exact Or.inl rfl
        · exact hs y (List.mem_cons_of_mem _ hy)
    · split
      · match st, hs with
        | [], hs => exact ih _ hs
        | [x], hs => exact ih _ hs
        | x :: y :: r, hs =>
          refine ih _ ?_
          intro z hz
          rcases List.mem_cons.mp hz with hz | hz
          · rw [hz]
            split
            · exact hs x List.mem_cons_self
            · exact hs y (List.mem_cons_of_mem _ List.mem_cons_self)
          · exact hs z (List.mem_cons_of_mem _ (List.mem_cons_of_mem _ hz))
      · split
        · match st, hs with
          | [], hs => exact ih _ hs
          | [x], hs => exact ih _ hs
          | x :: y :: r, hs =>
            refine ih _ ?_
            intro z hz
            rcases List.mem_cons.mp hz with hz | hz
            · rw [hz]
              split
              · exact hs x List.mem_cons_self
              · exact hs y (List.mem_cons_of_mem _ List.mem_cons_self)
            · exact hs z (List.mem_cons_of_mem _ (List.mem_cons_of_mem _ hz))
        · refine ih _ ?_
          intro z hz
          rcases List.mem_cons.mp hz with hz | hz
          · rw [hz]
            exact opv_v h m c
          · exact hs z hz
theorem evV_v {A : Wd} (h : WG 16 A) (m : Int32) (l : List Int32) : V3 (evV A m l) := by
  have := evS_v h m l [] (fun x h => by cases h)
  unfold evV
  cases hq : evS A m l [] with
  | nil => exact Or.inl rfl
  | cons x r =>
    rw [hq] at this
    exact this x List.mem_cons_self
/-- the two things of an act, as a condition asks of them -/
def ahA (W : Wd) (x : Nat) (y : Option Nat) : Wd := fun b => if b < 8 then W (8 * x + b) else match y with
  | none => z3
  | some y => W (8 * y + (b - 8))
def efT (x : Nat) (y : Option Nat) (c : Int32) : Option Nat := if c.toNatClampNeg / 8 % 2 = 0 then some x else y
def efV (c : Int32) : Int32 := if 16 ≤ c.toNatClampNeg then 2 else 0
def ef1 (x : Nat) (y : Option Nat) (m v c : Int32) (W : Wd) : Wd := match efT x y c with
  | none => W
  | some t => wup W (8 * t + c.toNatClampNeg % 8) (if v = 1 then jn (W (8 * t + c.toNatClampNeg % 8)) (efV c, m, m) else (efV c, m, m))
def efS (x : Nat) (y : Option Nat) (m v : Int32) : List Int32 → Wd → Wd
  | [], W => W
  | c :: l, W => efS x y m v l (ef1 x y m v c W)
def ruS (A : Wd) (kd : Int32) (x : Nat) (y : Option Nat) (m : Int32) : List LR → Wd → Wd
  | [], W => W
  | r :: l, W => ruS A kd x y m l (if r.1 = kd ∧ ¬ evV A m r.2.1 = 0 then efS x y m (evV A m r.2.1) r.2.2 W else W)
def acR (rs : List LR) (kd : Int32) (a : Nat) (b : Option Nat) (m : Int32) (W : Wd) : Wd := match b with
  | none => ruS (ahA W a none) kd a none m rs W
  | some b => ruS (ahA W b (some a)) kd b (some a) m rs (ruS (ahA W a (some b)) kd a (some b) m rs W)
def acS (rs : List LR) (kd : Int32) (a : Nat) (b : Option Nat) (m sure : Int32) (W : Wd) : Wd := if sure = 0 then fun k => if k / 8 = a ∨ some (k / 8) = b then jn (acR rs kd a b m W k) (W k) else acR rs kd a b m W k else acR rs kd a b m W
theorem efV_g {c m : Int32} (h0 : 0 ≤ m) (h1 : m < 1440000) : TG (efV c, m, m) := by
  refine ⟨?_, fun _ => ⟨h0, Int32.le_refl _, h1⟩⟩
  unfold efV
  dsimp only
  split
  · exact Or.inr (Or.inr rfl)
  · exact Or.inl rfl
theorem efS_g {K x : Nat} {y : Option Nat} {m v : Int32} (h0 : 0 ≤ m) (h1 : m < 1440000) (hx : 8 * x + 8 ≤ K) (hy : ∀ t, y = some t → 8 * t + 8 ≤ K) : ∀ l W, WG K W → WG K (efS x y m v l W) := by
  intro l
  induction l with
  | nil => exact fun W h => h
  | cons c l ih =>
    intro W h
    refine ih _ ?_
    unfold ef1
    cases hq : efT x y c with
    | none => exact h
    | some t =>
      dsimp only
      have ht : 8 * t + 8 ≤ K := by
        unfold efT at hq
        split at hq
        · cases hq; exact hx
        · exact hy t hq
      refine wup_g h ?_
      split
      · exact jn_g (h _ (by omega)) (efV_g h0 h1)
      · exact efV_g h0 h1
theorem ruS_g {K x : Nat} {y : Option Nat} {m kd : Int32} {A : Wd} (h0 : 0 ≤ m) (h1 : m < 1440000) (hx : 8 * x + 8 ≤ K) (hy : ∀ t, y = some t → 8 * t + 8 ≤ K) : ∀ l W, WG K W → WG K (ruS A kd x y m l W) := by
  intro l
  induction l with
  | nil => exact fun W h => h
  | cons r l ih =>
    intro W h
    refine ih _ ?_
    split
    · exact efS_g h0 h1 hx hy _ W h
    · exact h
theorem ahA_g {K x : Nat} {y : Option Nat} {W : Wd} (h : WG K W) (hx : 8 * x + 8 ≤ K) (hy : ∀ t, y = some t → 8 * t + 8 ≤ K) : WG 16 (ahA W x y) := by
  intro b hb
  unfold ahA
  split
  · exact h _ (by omega)
  · cases y with
    | none => exact z3_g
    | some t => exact h _ (by have := hy t rfl; omega)
theorem acR_g {K a : Nat} {b : Option Nat} {m kd : Int32} {rs : List LR} {W : Wd} (h0 : 0 ≤ m) (h1 : m < 1440000) (ha : 8 * a + 8 ≤ K) (hb : ∀ t, b = some t → 8 * t + 8 ≤ K) (h : WG K W) : WG K (acR rs kd a b m W) := by
  unfold acR
  cases b with
  | none => exact ruS_g h0 h1 ha (fun t h => by cases h) _ _ h
  | some b =>
    have hbb := hb b rfl
    exact ruS_g h0 h1 hbb (fun t h => by cases h; exact ha) _ _ (ruS_g h0 h1 ha (fun t h => by cases h; exact hbb) _ _ h)
theorem acS_g {K a : Nat} {b : Option Nat} {m kd sure : Int32} {rs : List LR} {W : Wd} (h0 : 0 ≤ m) (h1 : m < 1440000) (ha : 8 * a + 8 ≤ K) (hb : ∀ t, b = some t → 8 * t + 8 ≤ K) (h : WG K W) : WG K (acS rs kd a b m sure W) := by
  unfold acS
  have hR := acR_g (rs := rs) (kd := kd) h0 h1 ha hb h
  split
  · intro k hk
    dsimp only
    split
    · exact jn_g (hR k hk) (h k hk)
    · exact hR k hk
  · exact hR
/-! an act leaves other things alone -/
theorem efS_o {x : Nat} {y : Option Nat} {m v : Int32} {k : Nat} (hx : ¬ k / 8 = x) (hy : ¬ some (k / 8) = y) : ∀ l W, efS x y m v l W k = W k := by
  intro l
  induction l with
  | nil => exact fun W => rfl
  | cons c l ih =>
    intro W
    rw [efS, ih]
    unfold ef1
    cases hq : efT x y c with
    | none => rfl
    | some t =>
      dsimp only
      refine wup_ne ?_
      intro hk
      have : k / 8 = t := by omega
      unfold efT at hq
      split at hq
      · cases hq; exact hx this
      · rw [← this] at hq
        exact hy hq.symm
theorem ruS_o {A : Wd} {kd : Int32} {x : Nat} {y : Option Nat} {m : Int32} {k : Nat} (hx : ¬ k / 8 = x) (hy : ¬ some (k / 8) = y) : ∀ l W, ruS A kd x y m l W k = W k := by
  intro l
  induction l with
  | nil => exact fun W => rfl
  | cons r l ih =>
    intro W
    rw [ruS, ih]
    split
    · exact efS_o hx hy _ _
    · rfl
theorem acS_o {rs : List LR} {kd : Int32} {a : Nat} {b : Option Nat} {m sure : Int32} {W : Wd} {k : Nat} (ha : ¬ k / 8 = a) (hb : ¬ some (k / 8) = b) : acS rs kd a b m sure W k = W k := by
  have hR : acR rs kd a b m W k = W k := by
    unfold acR
    cases b with
    | none => exact ruS_o ha hb _ _
    | some b =>
      dsimp only
      rw [ruS_o (fun h => hb (by rw [h])) (fun h => ha (Option.some.inj h)), ruS_o ha hb]
  unfold acS
  split
  · dsimp only
    rw [if_neg (by rintro (h | h) <;> contradiction), hR]
  · exact hR
