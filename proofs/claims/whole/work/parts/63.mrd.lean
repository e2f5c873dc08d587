/-! E: the reference reads with a stack: its states -/
def StR (c a b l : Int32) : Prop := (c = stC 0 0 0 ∧ a = 1) ∨ (c = stC 1 0 0 ∧ a = 2) ∨ (c = stC 2 0 0 ∧ a = 3) ∨ (c = stC 3 0 0 ∧ a = 4) ∨ (∃ m, m < 16 ∧ c = stC 4 (nI m) 0 ∧ a = 0 ∧ b = nI m ∧ l = -1) ∨ ∃ m v, m < 16 ∧ v < 1000000 ∧ c = stC 5 (nI m) (nI v) ∧ a = 0 ∧ b = nI m ∧ l = nI v
def cO : List Int32 → Nat
  | [] => 0
  | c :: σ => (if c = 33 ∨ c = 40 then 1 else 0) + cO σ
def CodeIs (ν : am_Mu) (out : List Int32) : Prop := ∀ i, i < out.length → StR (out.getD i 0) (ν 128 i) (ν 129 i) (ν 130 i)
def RS0 (T : Nat → Int32) (e : Nat) (ν : am_Mu) (p k o : Nat) (σ out : List Int32) : Prop := ν 108 27 = nI p ∧ ν 108 28 = nI e ∧ ν 108 29 = 0 ∧ ν 108 31 = nI out.length ∧ ν 108 32 = nI k ∧ ν 108 33 = nI o ∧ ν 108 34 = nI σ.length ∧ RowIs (ν 131) σ.reverse ∧ CodeIs ν out ∧ ∀ j, j < e → ν 109 j &&& 255 = T j
def RSp (e p k : Nat) (σ out : List Int32) : Prop := p ≤ e ∧ out.length + σ.length ≤ p ∧ k ≤ 80 ∧ σ.length ≤ 40
def RS (T : Nat → Int32) (e : Nat) (ν : am_Mu) (p k : Nat) (σ out : List Int32) : Prop := RS0 T e ν p k (cO σ) σ out ∧ RSp e p k σ out
def hrT (T : Nat → Int32) (e p : Nat) : Int32 := if p < e then T p else 0
theorem hr_eq {T : Nat → Int32} {e p : Nat} {c : Int32} (h0 : ¬ c = 0) (h1 : ¬ c = -1) : hrT T e p = c ↔ sgT T e p = c := by
  unfold hrT sgT
  by_cases hp : p < e
  · rw [if_pos hp, if_pos hp]
  · rw [if_neg hp, if_neg hp]
    exact ⟨fun h => absurd h.symm h0, fun h => absurd h.symm h1⟩
theorem hr_in {T : Nat → Int32} {e p : Nat} {a b : Int32} (h0 : ¬ (a ≤ 0 ∧ (0 : Int32) ≤ b)) (h1 : ¬ (a ≤ -1 ∧ (-1 : Int32) ≤ b)) : (a ≤ hrT T e p ∧ hrT T e p ≤ b) ↔ (a ≤ sgT T e p ∧ sgT T e p ≤ b) := by
  unfold hrT sgT
  by_cases hp : p < e
  · rw [if_pos hp, if_pos hp]
  · rw [if_neg hp, if_neg hp]
    exact ⟨fun h => absurd h h0, fun h => absurd h h1⟩
theorem hr_sg {T : Nat → Int32} {e p : Nat} (h : p < e) : hrT T e p = sgT T e p := by
  unfold hrT sgT
  rw [if_pos h, if_pos h]
theorem m_here {T : Nat → Int32} {e : Nat} (he : e ≤ 240) {ν : am_Mu} {p k o : Nat} {σ out : List Int32} (h : RS0 T e ν p k o σ out) (hp : p ≤ 1000) : fM_here ν = some (hrT T e p, ν) := by
  obtain ⟨h1, h2, h3, h4, h5, h6, h7, h8, h9, h10⟩ := h
  unfold fM_here hrT
  rw [h1, h2]
  by_cases hpe : p < e
  · rw [if_neg (by rw [nI_le_iff (by omega) (by omega)]; omega), inb_n (by omega) (by omega), cond_true, nI_clamp (by omega), if_pos hpe, h10 _ hpe]
  · rw [if_pos ((nI_le_iff (by omega) (by omega)).mpr (by omega)), if_neg hpe]
/-- behind a fault -/
def FS (e : Nat) (ν : am_Mu) (x : Nat × Nat) : Prop := ν 108 29 = nI (1000 * x.1 + x.2) ∧ 0 < x.1 ∧ x.1 < 7 ∧ x.2 ≤ 240 ∧ (∃ q, ν 108 27 = nI q ∧ q ≤ 500) ∧ ν 108 28 = nI e ∧ ∃ d, ν 108 34 = nI d ∧ d ≤ 41
theorem FS.pos {e : Nat} {ν : am_Mu} {x : Nat × Nat} (h : FS e ν x) : 0 < ν 108 29 := by
  obtain ⟨h1, h2, h3, h4, -⟩ := h
  rw [h1]
  exact (nI_lt_iff (a := 0) (by omega) (by omega)).mpr (by omega)
theorem m_hereF {e : Nat} (he : e ≤ 240) {ν : am_Mu} {x : Nat × Nat} (h : FS e ν x) : ∃ c, fM_here ν = some (c, ν) := by
  obtain ⟨h1, h2, h3, h4, ⟨q, h5, h6⟩, h7, h8⟩ := h
  unfold fM_here
  rw [h5, h7]
  by_cases hpe : q < e
  · rw [if_neg (by rw [nI_le_iff (by omega) (by omega)]; omega), inb_n (by omega) (by omega), cond_true]
    exact ⟨_, rfl⟩
  · rw [if_pos ((nI_le_iff (by omega) (by omega)).mpr (by omega))]
    exact ⟨_, rfl⟩
theorem m_fails {T : Nat → Int32} {e : Nat} (he : e ≤ 240) {ν : am_Mu} {p k o : Nat} {σ out : List Int32} (h : RS0 T e ν p k o σ out) (hp : p ≤ 240) (hs : σ.length ≤ 41) (f : Nat) (hf : 0 < f ∧ f < 7) : ∃ ν', fM_fails (nI f) ν = some ν' ∧ FS e ν' (f, p) ∧ ν' = am_up ν 108 29 (nI (1000 * f + p)) := by
  obtain ⟨h1, h2, h3, h4, h5, h6, h7, h8, h9, h10⟩ := h
  refine ⟨am_up ν 108 29 (nI (1000 * f + p)), ?_, ⟨up_eq, hf.1, hf.2, hp, ⟨p, by simp [upa, h1], by omega⟩, by simp [upa, h2], σ.length, by simp [upa, h7], hs⟩, rfl⟩
  unfold fM_fails
  rw [h3, if_pos (by decide), h1, show (1000 : Int32) * nI f + nI p = nI (1000 * f + p) by show nI 1000 * nI f + nI p = _; rw [nI_mul, nI_plus]]
theorem m_failsF {e : Nat} {ν : am_Mu} {x : Nat × Nat} (h : FS e ν x) (f : Int32) : ∃ ν', fM_fails f ν = some ν' ∧ FS e ν' x := by
  refine ⟨am_up ν 108 29 (ν 108 29), ?_, ?_⟩
  · unfold fM_fails
    rw [if_neg (Int32.not_le.mpr h.pos)]
  · obtain ⟨h1, h2, h3, h4, ⟨q, h5, h6⟩, h7, d, h8, h9⟩ := h
    exact ⟨by rw [up_eq]; exact h1, h2, h3, h4, ⟨q, by simp [upa, h5], h6⟩, by simp [upa, h7], d, by simp [upa, h8], h9⟩
theorem m_emitF {e : Nat} {ν : am_Mu} {x : Nat × Nat} (h : FS e ν x) (a b c : Int32) : fM_emit a b c ν = some ν := by
  unfold fM_emit
  rw [if_neg (Int32.not_le.mpr h.pos)]
theorem m_topF {e : Nat} {ν : am_Mu} {x : Nat × Nat} (h : FS e ν x) : ∃ c, fM_top ν = some (c, ν) ∧ (c = 33 → ∃ d, ν 108 34 = nI (d + 1)) := by
  obtain ⟨h1, h2, h3, h4, ⟨q, h5, h6⟩, h7, d, h8, h9⟩ := h
  unfold fM_top
  rw [h8]
  cases d with
  | zero => exact ⟨0, by rw [if_pos (by decide)], fun h => by cases h⟩
  | succ d =>
    rw [if_neg (by show ¬ nI (d + 1) ≤ nI 0; rw [nI_le_iff (by omega) (by omega)]; omega), show nI (d + 1) - 1 = nI d from nI_sub (a := d + 1) (b := 1) (by omega), inb_n (by omega) (by omega), cond_true]
    exact ⟨_, rfl, fun _ => ⟨d, rfl⟩⟩
theorem d_ends {e : Nat} {x : Nat × Nat} : ∀ d n (ν : am_Mu), FS e ν x → ν 108 34 = nI d → d ≤ 41 → d < n → ∃ ν', fM_ends_0 n ν = some ν' ∧ FS e ν' x := by
  intro d
  induction d with
  | zero =>
    intro n ν h hd _ hn
    obtain ⟨n, rfl⟩ : ∃ k, n = k + 1 := ⟨n - 1, by omega⟩
    obtain ⟨c, c1, c2⟩ := m_topF h
    rw [fM_ends_0, c1, Option.bind_some]
    dsimp only
    rw [if_pos (by
      intro hc
      obtain ⟨d, hd'⟩ := c2 hc
      obtain ⟨h1, h2, h3, h4, ⟨q, h5, h6⟩, h7, d2, h8, h9⟩ := h
      rw [h8, nI_inj (by omega) (by omega)] at hd
      unfold fM_top at c1
      rw [h8, hd, if_pos (by decide)] at c1
      rw [Option.some.injEq, Prod.mk.injEq] at c1
      rw [← c1.1] at hc
      exact absurd hc (by decide))]
    exact ⟨ν, rfl, h⟩
  | succ d ih =>
    intro n ν h hd hd4 hn
    obtain ⟨n, rfl⟩ : ∃ k, n = k + 1 := ⟨n - 1, by omega⟩
    obtain ⟨c, c1, -⟩ := m_topF h
    rw [fM_ends_0, c1, Option.bind_some]
    dsimp only
    by_cases hc : c = 33
    · rw [if_neg (by simpa using hc)]
      have hF : FS e (am_up (am_up ν 108 34 (ν 108 34 - 1)) 108 33 (ν 108 33 - 1)) x := by
        obtain ⟨h1, h2, h3, h4, ⟨q, h5, h6⟩, h7, d2, h8, h9⟩ := h
        exact ⟨by simp [upa, h1], h2, h3, h4, ⟨q, by simp [upa, h5], h6⟩, by simp [upa, h7], d, by
          simp [upa, hd]
          exact nI_sub (a := d + 1) (b := 1) (by omega), by omega⟩
      have e34 : am_up (am_up ν 108 34 (ν 108 34 - 1)) 108 33 (ν 108 33 - 1) 108 34 = nI d := by
        simp [upa, hd]
        exact nI_sub (a := d + 1) (b := 1) (by omega)
      rw [m_emitF hF, Option.bind_some]
      exact ih n _ hF e34 (by omega) (by omega)
    · rw [if_pos hc]
      exact ⟨ν, rfl, h⟩
theorem d_31 {e : Nat} (he : e ≤ 240) {x : Nat × Nat} {ν : am_Mu} (h : FS e ν x) (n m : Nat) : fM_condition_31 (n + 1) (fM_condition_12 (m + 1)) ν = some ν := by
  have hp := h.pos
  have hne : ¬ ν 108 29 = 0 := by grind
  have h124 : fM_condition_124 ν = some ν := by
    unfold fM_condition_124
    rw [if_neg (Int32.not_le.mpr hp)]
  have h12 : ∀ a, fM_condition_12 (m + 1) a ν = some ν := by
    intro a
    rw [fM_condition_12]
    by_cases ha : a = 0
    · rw [if_pos ha, h124]
    · rw [if_neg ha, if_pos hne, h124]
  have h76 : ∀ c a, fM_condition_76 (fM_condition_12 (m + 1)) c a ν = some ν := by
    intro c a
    unfold fM_condition_76
    rw [if_pos hp, h12]
  obtain ⟨c, hc⟩ := m_hereF he h
  rw [fM_condition_31, if_pos hne]
  unfold fM_condition_54 fM_condition_71
  rw [hc, Option.bind_some]
  dsimp only
  rw [h76, h76]
  grind
theorem drain {e : Nat} (he : e ≤ 240) {x : Nat × Nat} {ν : am_Mu} (h : FS e ν x) (k n m : Nat) (hk : 41 < k) : ∃ ν'', (fM_ends_0 k ν).bind (fun q4 => fM_condition_31 (n + 1) (fM_condition_12 (m + 1)) q4) = some ν'' ∧ ν'' 108 29 = nI (1000 * x.1 + x.2) := by
  obtain ⟨d, d1, d2⟩ := h.2.2.2.2.2.2
  obtain ⟨ν', e1, e2⟩ := d_ends d k ν h d1 d2 (by omega)
  exact ⟨ν', by rw [e1, Option.bind_some, d_31 he e2], e2.1⟩
/-! the stack -/
theorem m_top {T : Nat → Int32} {e : Nat} {ν : am_Mu} {p k o : Nat} {σ out : List Int32} (h : RS0 T e ν p k o σ out) (hs : σ.length ≤ 41) : fM_top ν = some (σ.headD 0, ν) := by
  obtain ⟨h1, h2, h3, h4, h5, h6, h7, h8, h9, h10⟩ := h
  unfold fM_top
  rw [h7]
  cases σ with
  | nil => rw [if_pos (by decide)]; rfl
  | cons c σ =>
    rw [List.length_cons] at hs ⊢
    have e1 : ν 131 σ.length = c := by
      rw [h8 σ.length (by simp)]
      simp [List.getD_eq_getElem?_getD]
    rw [if_neg (by show ¬ nI (σ.length + 1) ≤ nI 0; rw [nI_le_iff (by omega) (by omega)]; omega), show nI (σ.length + 1) - 1 = nI σ.length from nI_sub (a := σ.length + 1) (b := 1) (by omega), inb_n (by omega) (by omega), cond_true, nI_clamp (by omega), e1]
    rfl
theorem RowIs.left {r : Nat → Int32} {L M : List Int32} (h : RowIs r (L ++ M)) : RowIs r L := by
  intro j hj
  rw [h j (by rw [List.length_append]; omega)]
  simp only [List.getD_eq_getElem?_getD, List.getElem?_append_left hj]
theorem m_emit0 {T : Nat → Int32} {e : Nat} {ν : am_Mu} {p k o : Nat} {σ out : List Int32} (h : RS0 T e ν p k o σ out) (hl : out.length < 240) {code a b c : Int32} (hr : StR code a b c) : ∃ ν', fM_emit a b c ν = some ν' ∧ RS0 T e ν' p k o σ (out ++ [code]) := by
  obtain ⟨h1, h2, h3, h4, h5, h6, h7, h8, h9, h10⟩ := h
  refine ⟨am_up (am_up (am_up (am_up ν 128 out.length a) 129 out.length b) 130 out.length c) 108 31 (nI (out.length + 1)), ?_, ?_⟩
  · unfold fM_emit
    rw [h3, if_pos (by decide), h4, inb_n hl (by omega), cond_true, nI_clamp (by omega), show nI out.length + 1 = nI (out.length + 1) from nI_plus _ 1]
  · refine ⟨by simp [upa, h1], by simp [upa, h2], by simp [upa, h3], ?_, by simp [upa, h5], by simp [upa, h6], by simp [upa, h7], fun j hj => by simpa [upa] using h8 j hj, ?_, fun j hj => by simpa [upa] using h10 j hj⟩
    · rw [up_eq, List.length_append, List.length_singleton]
    · intro i hi
      rw [List.length_append, List.length_singleton] at hi
      by_cases hie : i = out.length
      · subst hie
        simpa [upa, List.getD_eq_getElem?_getD] using hr
      · have := h9 i (by omega)
        simpa [upa, hie, List.getD_eq_getElem?_getD, List.getElem?_append_left (show i < out.length by omega)] using this
theorem m_pop0 {T : Nat → Int32} {e : Nat} {ν : am_Mu} {p k o : Nat} {c : Int32} {σ out : List Int32} (h : RS0 T e ν p k o (c :: σ) out) : RS0 T e (am_up ν 108 34 (ν 108 34 - 1)) p k o σ out := by
  obtain ⟨h1, h2, h3, h4, h5, h6, h7, h8, h9, h10⟩ := h
  refine ⟨by simp [upa, h1], by simp [upa, h2], by simp [upa, h3], by simp [upa, h4], by simp [upa, h5], by simp [upa, h6], ?_, ?_, fun i hi => by simpa [upa] using h9 i hi, fun j hj => by simpa [upa] using h10 j hj⟩
  · rw [up_eq, h7, List.length_cons]
    exact nI_sub (a := σ.length + 1) (b := 1) (by omega)
  · rw [List.reverse_cons] at h8
    intro j hj
    have := h8.left j hj
    simpa [upa] using this
theorem m_open0 {T : Nat → Int32} {e : Nat} {ν : am_Mu} {p k o o' : Nat} {σ out : List Int32} (h : RS0 T e ν p k o σ out) {y : Int32} (hy : y = nI o') : RS0 T e (am_up ν 108 33 y) p k o' σ out := by
  obtain ⟨h1, h2, h3, h4, h5, h6, h7, h8, h9, h10⟩ := h
  exact ⟨by simp [upa, h1], by simp [upa, h2], by simp [upa, h3], by simp [upa, h4], by simp [upa, h5], by simp [upa, hy], by simp [upa, h7], fun j hj => by simpa [upa] using h8 j hj, fun i hi => by simpa [upa] using h9 i hi, fun j hj => by simpa [upa] using h10 j hj⟩
theorem m_place0 {T : Nat → Int32} {e : Nat} {ν : am_Mu} {p k o : Nat} {σ out : List Int32} (h : RS0 T e ν p k o σ out) : RS0 T e (am_up ν 108 27 (ν 108 27 + 1)) (p + 1) k o σ out := by
  obtain ⟨h1, h2, h3, h4, h5, h6, h7, h8, h9, h10⟩ := h
  exact ⟨by rw [up_eq, h1]; exact nI_plus _ 1, by simp [upa, h2], by simp [upa, h3], by simp [upa, h4], by simp [upa, h5], by simp [upa, h6], by simp [upa, h7], fun j hj => by simpa [upa] using h8 j hj, fun i hi => by simpa [upa] using h9 i hi, fun j hj => by simpa [upa] using h10 j hj⟩
theorem m_place1 {T : Nat → Int32} {e : Nat} {ν : am_Mu} {p k o : Nat} {σ out : List Int32} (h : RS0 T e ν p k o σ out) {y : Int32} (hy : y = nI (p + 1)) : RS0 T e (am_up ν 108 27 y) (p + 1) k o σ out := by
  have := m_place0 h
  rw [h.1, show nI p + 1 = nI (p + 1) from nI_plus _ 1, ← hy] at this
  exact this
theorem m_sign0 {T : Nat → Int32} {e : Nat} {ν : am_Mu} {p k o : Nat} {σ out : List Int32} (h : RS0 T e ν p k o σ out) : RS0 T e (am_up ν 108 32 (ν 108 32 + 1)) p (k + 1) o σ out := by
  obtain ⟨h1, h2, h3, h4, h5, h6, h7, h8, h9, h10⟩ := h
  exact ⟨by simp [upa, h1], by simp [upa, h2], by simp [upa, h3], by simp [upa, h4], by rw [up_eq, h5]; exact nI_plus _ 1, by simp [upa, h6], by simp [upa, h7], fun j hj => by simpa [upa] using h8 j hj, fun i hi => by simpa [upa] using h9 i hi, fun j hj => by simpa [upa] using h10 j hj⟩
theorem m_puts0 {T : Nat → Int32} {e : Nat} {ν : am_Mu} {p k o : Nat} {σ out : List Int32} (h : RS0 T e ν p k o σ out) (hs : σ.length ≤ 41) (c : Int32) : ∃ ν', fM_puts c ν = some ν' ∧ RS0 T e ν' p k o (c :: σ) out := by
  obtain ⟨h1, h2, h3, h4, h5, h6, h7, h8, h9, h10⟩ := h
  refine ⟨am_up (am_up ν 131 σ.length c) 108 34 (nI (σ.length + 1)), ?_, ?_⟩
  · unfold fM_puts
    rw [h7, inb_n (by omega) (by omega), cond_true, nI_clamp (by omega), show nI σ.length + 1 = nI (σ.length + 1) from nI_plus _ 1]
  · refine ⟨by simp [upa, h1], by simp [upa, h2], by simp [upa, h3], by simp [upa, h4], by simp [upa, h5], by simp [upa, h6], by rw [up_eq]; rfl, ?_, fun i hi => by simpa [upa] using h9 i hi, fun j hj => by simpa [upa] using h10 j hj⟩
    rw [List.reverse_cons]
    refine RowIs.app h8 ?_
    intro j
    rw [up_row (by decide), up_at, List.length_reverse]
/-- what works off the signs that bind as close -/
def wk (a : Int32) : List Int32 → List Int32 → List Int32 × List Int32
  | [], out => ([], out)
  | c :: σ, out => if c = 38 then wk a σ (out ++ [stC 2 0 0]) else if a = 0 then (c :: σ, out) else if c = 124 then wk a σ (out ++ [stC 3 0 0]) else (c :: σ, out)
theorem RSp.pop {e p k : Nat} {c d : Int32} {σ out : List Int32} (h : RSp e p k (c :: σ) out) : RSp e p k σ (out ++ [d]) := by
  obtain ⟨h1, h2, h3, h4⟩ := h
  rw [List.length_cons] at h2 h4
  refine ⟨h1, ?_, h3, by omega⟩
  rw [List.length_append, List.length_singleton]
  omega
theorem m_works {T : Nat → Int32} {e : Nat} (he : e ≤ 240) {p k o : Nat} {a : Int32} : ∀ σ out n ν, RS0 T e ν p k o σ out → RSp e p k σ out → σ.length < n → ∃ ν', fM_works_0 n a ν = some ν' ∧ RS0 T e ν' p k o (wk a σ out).1 (wk a σ out).2 ∧ RSp e p k (wk a σ out).1 (wk a σ out).2 := by
  intro σ
  induction σ with
  | nil =>
    intro out n ν h hp hn
    obtain ⟨n, rfl⟩ : ∃ k, n = k + 1 := ⟨n - 1, by omega⟩
    refine ⟨ν, ?_, h, hp⟩
    have ht : fM_top ν = some (0, ν) := m_top h (by simp)
    rw [fM_works_0, ht, Option.bind_some]
    dsimp only
    rw [if_neg (by decide)]
    by_cases ha : a = 0
    · rw [if_pos ha]
    · rw [if_neg ha, ht, Option.bind_some]
      dsimp only
      rw [if_pos (by decide)]
  | cons c σ ih =>
    intro out n ν h hp hn
    obtain ⟨n, rfl⟩ : ∃ k, n = k + 1 := ⟨n - 1, by omega⟩
    rw [List.length_cons] at hn
    have hp2 := hp.2.2.2
    have hp1 := hp.2.1
    have hp0 := hp.1
    rw [List.length_cons] at hp2 hp1
    have ht : fM_top ν = some (c, ν) := m_top h (by rw [List.length_cons]; omega)
    have step : ∀ (s code : Int32), StR code s 0 (-1) → (∃ ν', fM_works_37 (fM_works_0 n) a s ν = some ν' ∧ RS0 T e ν' p k o (wk a σ (out ++ [code])).1 (wk a σ (out ++ [code])).2 ∧ RSp e p k (wk a σ (out ++ [code])).1 (wk a σ (out ++ [code])).2) := by
      intro s code hr
      obtain ⟨ν1, e1, e2⟩ := m_emit0 h (by omega) hr
      unfold fM_works_37
      rw [e1, Option.bind_some]
      exact ih (out ++ [code]) n _ (m_pop0 e2) hp.pop (by omega)
    rw [fM_works_0, ht, Option.bind_some]
    dsimp only
    unfold wk
    by_cases hc : c = 38
    · rw [if_pos hc, if_pos hc]
      unfold fM_works_22
      rw [ht, Option.bind_some]
      dsimp only
      rw [if_neg (by simpa using hc)]
      exact step 3 (stC 2 0 0) (Or.inr (Or.inr (Or.inl ⟨rfl, rfl⟩)))
    · rw [if_neg hc, if_neg hc]
      by_cases ha : a = 0
      · rw [if_pos ha, if_pos ha]
        exact ⟨ν, rfl, h, hp⟩
      · rw [if_neg ha, if_neg ha, ht, Option.bind_some]
        dsimp only
        by_cases hc2 : c = 124
        · rw [if_neg (by simpa using hc2), if_pos hc2]
          unfold fM_works_22
          rw [ht, Option.bind_some]
          dsimp only
          rw [if_pos hc]
          exact step 4 (stC 3 0 0) (Or.inr (Or.inr (Or.inr (Or.inl ⟨rfl, rfl⟩))))
        · rw [if_pos hc2, if_neg hc2]
          exact ⟨ν, rfl, h, hp⟩
theorem wk_cO {a : Int32} : ∀ σ out, cO (wk a σ out).1 = cO σ ∧ (wk a σ out).1.length ≤ σ.length := by
  intro σ
  induction σ with
  | nil => exact fun _ => ⟨rfl, Nat.le_refl _⟩
  | cons c σ ih =>
    intro out
    unfold wk
    by_cases hc : c = 38
    · rw [if_pos hc]
      have := ih (out ++ [stC 2 0 0])
      refine ⟨?_, by rw [List.length_cons]; omega⟩
      rw [this.1, hc]
      simp [cO]
    · rw [if_neg hc]
      by_cases ha : a = 0
      · rw [if_pos ha]
        exact ⟨rfl, Nat.le_refl _⟩
      · rw [if_neg ha]
        by_cases hc2 : c = 124
        · rw [if_pos hc2]
          have := ih (out ++ [stC 3 0 0])
          refine ⟨?_, by rw [List.length_cons]; omega⟩
          rw [this.1, hc2]
          simp [cO]
        · rw [if_neg hc2]
          exact ⟨rfl, Nat.le_refl _⟩
theorem m_worksR {T : Nat → Int32} {e : Nat} (he : e ≤ 240) {p k : Nat} {a : Int32} {σ out : List Int32} {ν : am_Mu} (h : RS T e ν p k σ out) : ∃ ν', fM_works a ν = some ν' ∧ RS T e ν' p k (wk a σ out).1 (wk a σ out).2 := by
  obtain ⟨ν', h1, h2, h3⟩ := m_works he σ out am_F ν h.1 h.2 (by have := h.2.2.2.2; unfold am_F; omega)
  refine ⟨ν', h1, ?_, h3⟩
  rw [(wk_cO σ out).1]
  exact h2
