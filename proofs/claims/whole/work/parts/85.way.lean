/-! E: the way back -/
def othT (μ : am_Mu) (a : Int32) (t : Nat) : Int32 := if ¬ μ 16 a.toNatClampNeg = nI t then μ 16 a.toNatClampNeg else μ 17 a.toNatClampNeg
def wnx (μ : am_Mu) (R : Nat → Int32) (i t : Nat) : Int32 := if nI t = μ 22 i then -1 else if R t = -1 then -1 else othT μ (R t) t
def wback (nx : Nat → Int32) : Nat → List Nat → Int32 → List Nat
  | 0, _, _ => []
  | q + 1, vis, a => if a = -1 then [] else if a.toNatClampNeg ∈ vis then [] else a.toNatClampNeg :: wback nx q (a.toNatClampNeg :: vis) (nx a.toNatClampNeg)
theorem wback_none {nx : Nat → Int32} {vis : List Nat} : ∀ q, wback nx q vis (-1) = [] := by
  intro q
  cases q with
  | zero => rfl
  | succ q => rw [wback, if_pos rfl]
theorem wback_seen {nx : Nat → Int32} {vis : List Nat} {a : Int32} (h : a.toNatClampNeg ∈ vis) : ∀ q, wback nx q vis a = [] := by
  intro q
  cases q with
  | zero => rfl
  | succ q =>
    rw [wback]
    by_cases ha : a = -1
    · rw [if_pos ha]
    · rw [if_neg ha, if_pos h]
theorem wback_len {nx : Nat → Int32} : ∀ q vis a, (wback nx q vis a).length ≤ q := by
  intro q
  induction q with
  | zero => exact fun _ _ => Nat.le_refl _
  | succ q ih =>
    intro vis a
    rw [wback]
    split
    · exact Nat.zero_le _
    · split
      · exact Nat.zero_le _
      · rw [List.length_cons]
        have := ih (a.toNatClampNeg :: vis) (nx a.toNatClampNeg)
        omega
theorem nd_len : ∀ (N : Nat) (l : List Nat), l.Nodup → (∀ x, x ∈ l → x < N) → l.length ≤ N := by
  intro N
  induction N with
  | zero =>
    intro l _ h
    cases l with
    | nil => exact Nat.le_refl _
    | cons a l => exact absurd (h a List.mem_cons_self) (by omega)
  | succ N ih =>
    intro l hl h
    have h1 := ih (l.erase N) (hl.erase N) (by
      intro x hx
      have hm := (hl.mem_erase_iff).mp hx
      have := h x hm.2
      have := hm.1
      omega)
    have h2 := List.length_erase (a := N) (l := l)
    split at h2 <;> omega
theorem shrk {n k : Nat} (h : n < 2 ^ 31) (hk : k < 31) : nI n >>> (nI k &&& 31) = nI (n / 2 ^ k) := by
  have hs : ∀ k : Fin 31, (nI k.val &&& 31).toBitVec.smod 32 = BitVec.ofNat 32 k.val := by decide +kernel
  have hk2 := hs ⟨k, hk⟩
  dsimp only at hk2
  apply Int32.toBitVec_inj.mp
  rw [Int32.toBitVec_shiftRight, hk2, show (nI n).toBitVec.sshiftRight' (BitVec.ofNat 32 k) = (nI n).toBitVec.sshiftRight k by
    show (nI n).toBitVec.sshiftRight (BitVec.ofNat 32 k).toNat = _
    rw [BitVec.toNat_ofNat, Nat.mod_eq_of_lt (by omega)], BitVec.sshiftRight_eq_of_msb_false]
  · apply BitVec.eq_of_toNat_eq
    unfold nI
    have : n / 2 ^ k ≤ n := Nat.div_le_self _ _
    simp [Nat.shiftRight_eq_div_pow]
    rw [Nat.mod_eq_of_lt (by omega), Nat.mod_eq_of_lt (by omega)]
  · unfold nI
    rw [BitVec.msb_eq_false_iff_two_mul_lt]
    simp
    omega
theorem m_hasbit {S k : Nat} (hS : S < 2 ^ 31) (hk : k < 31) (μ : am_Mu) : fM_has (nI S) (nI k) μ = some (b2i (S.testBit k = true), μ) := by
  unfold fM_has
  rw [shrk hS hk, show (1 : Int32) = nI 1 from rfl, nI_and, Nat.and_one_is_mod]
  have hb : S / 2 ^ k % 2 < 2 := Nat.mod_lt _ (by decide)
  have hd : S.testBit k = decide (S / 2 ^ k % 2 = 1) := Nat.testBit_eq_decide_div_mod_eq
  by_cases h : S / 2 ^ k % 2 = 1
  · rw [h, if_neg (by simp), b2i_t (by rw [hd]; simpa using h)]
    rfl
  · rw [show S / 2 ^ k % 2 = 0 by omega, if_pos (by decide), b2i_f (by rw [hd]; simpa using h)]
theorem shl1 : ∀ k : Fin 20, (1 : Int32) <<< (nI k.val &&& 31) = nI (2 ^ k.val) := by decide +kernel
theorem x_isStep {t k : Nat} (hk : k ≤ 20) {X : am_Mu} {vis : List Nat} (h : t ∈ vis ↔ ∃ j, j < k ∧ X 67 j = nI t) : fTrace_isStep (nI t) (nI k) X = some (b2i (t ∈ vis), X) := by
  have key : ∀ q j n, j + q = k → q < n → (∀ l, l < j → ¬ X 67 l = nI t) → fTrace_isStep_2 n (nI t) (nI k) (nI j) X = some (b2i (t ∈ vis), X) := by
    intro q
    induction q with
    | zero =>
      intro j n hj hn hl
      obtain ⟨n, rfl⟩ : ∃ k, n = k + 1 := ⟨n - 1, by omega⟩
      rw [fTrace_isStep_2, if_pos (by rw [nI_le_iff (by omega) (by omega)]; omega), b2i_f]
      intro hm
      obtain ⟨l, h1, h2⟩ := h.mp hm
      exact hl l (by omega) h2
    | succ q ih =>
      intro j n hj hn hl
      obtain ⟨n, rfl⟩ : ∃ k, n = k + 1 := ⟨n - 1, by omega⟩
      rw [fTrace_isStep_2, if_neg (by rw [nI_le_iff (by omega) (by omega)]; omega), inb_n (by omega) (by omega), cond_true, nI_clamp (by omega)]
      by_cases hx : X 67 j = nI t
      · rw [if_neg (by simpa using hx), b2i_t (h.mpr ⟨j, by omega, hx⟩)]
      · rw [if_pos hx, show nI j + 1 = nI (j + 1) from nI_plus _ 1]
        refine ih (j + 1) n (by omega) (by omega) ?_
        intro l hlj
        by_cases hlj2 : l = j
        · rw [hlj2]; exact hx
        · exact hl l (by omega)
  exact key k 0 am_F (by omega) (by unfold am_F; omega) (fun l hl => absurd hl (by omega))
/-- what the next one may be -/
def WN (N : Nat) (a : Int32) : Prop := a = -1 ∨ ∃ t, t < N ∧ a = nI t
theorem rcR_act {μ : am_Mu} (g4 : G4 μ) {P : Nat → Wd → Wd} {v t : Int32} {i : Nat} : ∀ k, k ≤ nEv μ → ∀ th, rcR μ P v t i k th = -1 ∨ (0 ≤ rcR μ P v t i k th ∧ rcR μ P v t i k th < μ 13 15) := by
  intro k
  induction k with
  | zero => exact fun _ _ => Or.inl rfl
  | succ k ih =>
    intro hk th
    rw [rcR]
    dsimp only
    split
    · rename_i h
      refine Or.inr ?_
      rcases ev_rel g4 (show k < nEv μ by omega) with ⟨x1, x2, x3⟩ | ⟨x1, x2, x3⟩
      · exact absurd (Int32.not_lt.mp h.2.1) (evi4 x1 x2 g4.2.2.1.2.1)
      · exact evi3 x1 x2 g4.2.1.1 g4.2.1.2.1
    · exact ih (by omega) th
theorem oth_wn {μ : am_Mu} (g4 : G4 μ) {a : Int32} (h0 : 0 ≤ a) (h1 : a < μ 13 15) (t : Nat) : WN (nTh μ) (othT μ a t) := by
  obtain ⟨-, ⟨-, p2, p3⟩, ⟨-, p5⟩, -⟩ := g4.2.1.2.2.2 _ (nt_lt h0 h1)
  unfold othT
  by_cases h : μ 16 a.toNatClampNeg = nI t
  · rw [if_neg (by simpa using h)]
    rcases p5 with ⟨-, q1, q2, -⟩ | ⟨-, q⟩
    · exact Or.inr ⟨_, nt_lt q1 q2, (nI_nt q1).symm⟩
    · exact Or.inl q
  · rw [if_pos h]
    exact Or.inr ⟨_, nt_lt p2 p3, (nI_nt p2).symm⟩
theorem wnx_wn {μ : am_Mu} (g4 : G4 μ) {R : Nat → Int32} (hR : ∀ th, R th = -1 ∨ (0 ≤ R th ∧ R th < μ 13 15)) (i t : Nat) : WN (nTh μ) (wnx μ R i t) := by
  unfold wnx
  split
  · exact Or.inl rfl
  · split
    · exact Or.inl rfl
    · rename_i h
      rcases hR t with h2 | ⟨h2, h3⟩
      · exact absurd h2 h
      · exact oth_wn g4 h2 h3 t
theorem x_wb {μ : am_Mu} (g4 : G4 μ) {R : Nat → Int32} (hR : ∀ th, R th = -1 ∨ (0 ≤ R th ∧ R th < μ 13 15)) {i : Nat} : ∀ q vis a n (X : am_Mu), vis.length + q = 20 → q < n → WN (nTh μ) a → SB X μ → (∀ th, th < nTh μ → X 66 th = R th) → (∀ t, t < 20 → (t ∈ vis ↔ ∃ j, j < vis.length ∧ X 67 j = nI t)) → ∃ X', fTrace_walkBack_36 n (μ 22 i) (nI vis.length) a (nI vis.length) X = some (nI (vis.length + (wback (wnx μ R i) q vis a).length), X') ∧ (∀ r, ¬ r = 67 → X' r = X r) ∧ (∀ j, j < vis.length → X' 67 j = X 67 j) ∧ ∀ j, j < (wback (wnx μ R i) q vis a).length → X' 67 (vis.length + j) = nI ((wback (wnx μ R i) q vis a).getD j 0) := by
  have t20 : nTh μ ≤ 20 := nt_le (b := 20) g4.1.1 g4.1.2.1
  have a200 : (μ 13 15).toNatClampNeg ≤ 200 := nt_le (b := 200) g4.2.1.1 g4.2.1.2.1
  intro q
  induction q with
  | zero =>
    intro vis a n X hv hn ha hX h66 hS
    obtain ⟨n, rfl⟩ : ∃ k, n = k + 1 := ⟨n - 1, by omega⟩
    refine ⟨X, ?_, fun _ _ => rfl, fun _ _ => rfl, fun j hj => absurd hj (Nat.not_lt_zero _)⟩
    rw [fTrace_walkBack_36, if_pos (show (20 : Int32) ≤ nI vis.length from (nI_le_iff (a := 20) (b := vis.length) (by omega) (by omega)).mpr (by omega))]
    rfl
  | succ q ih =>
    intro vis a n X hv hn ha hX h66 hS
    obtain ⟨n, rfl⟩ : ∃ k, n = k + 1 := ⟨n - 1, by omega⟩
    rw [fTrace_walkBack_36, if_neg (by show ¬ nI 20 ≤ _; rw [nI_le_iff (by omega) (by omega)]; omega)]
    by_cases ha1 : a = -1
    · rw [if_pos ha1]
      subst ha1
      rw [wback_none]
      exact ⟨X, rfl, fun _ _ => rfl, fun _ _ => rfl, fun j hj => absurd hj (Nat.not_lt_zero _)⟩
    · rw [if_neg ha1]
      obtain ⟨t, ht, rfl⟩ : ∃ t, t < nTh μ ∧ a = nI t := by
        rcases ha with h | h
        · exact absurd h ha1
        · exact h
      have hc : (nI t).toNatClampNeg = t := nI_clamp (by omega)
      rw [x_isStep (by omega) (hS t (by omega)), Option.bind_some]
      dsimp only
      by_cases hm : t ∈ vis
      · rw [b2i_t hm, if_pos (by decide), wback_seen (by rw [hc]; exact hm)]
        exact ⟨X, rfl, fun _ _ => rfl, fun _ _ => rfl, fun j hj => absurd hj (Nat.not_lt_zero _)⟩
      · have ew : wback (wnx μ R i) (q + 1) vis (nI t) = t :: wback (wnx μ R i) q (t :: vis) (wnx μ R i t) := by
          rw [wback, if_neg ha1, hc, if_neg hm]
        rw [b2i_f hm, if_neg (by decide), ew, inb_n (by omega) (by omega), cond_true, nI_clamp (show vis.length < 2 ^ 31 by omega), show nI vis.length + 1 = nI (vis.length + 1) from nI_plus _ 1]
        have nxt : ∃ X', fTrace_walkBack_36 n (μ 22 i) (nI (vis.length + 1)) (wnx μ R i t) (nI (vis.length + 1)) (am_up X 67 vis.length (nI t)) = some (nI (vis.length + (t :: wback (wnx μ R i) q (t :: vis) (wnx μ R i t)).length), X') ∧ (∀ r, ¬ r = 67 → X' r = X r) ∧ (∀ j, j < vis.length → X' 67 j = X 67 j) ∧ ∀ j, j < (t :: wback (wnx μ R i) q (t :: vis) (wnx μ R i t)).length → X' 67 (vis.length + j) = nI ((t :: wback (wnx μ R i) q (t :: vis) (wnx μ R i t)).getD j 0) := by
          obtain ⟨X', i1, i2, i3, i4⟩ := ih (t :: vis) (wnx μ R i t) n (am_up X 67 vis.length (nI t)) (by rw [List.length_cons]; omega) (by omega) (wnx_wn g4 hR i t) (hX.up (by omega)) (fun th hth => by rw [up_row (by omega)]; exact h66 th hth) (by
            intro t' ht'
            rw [List.mem_cons, hS t' ht', List.length_cons]
            constructor
            · rintro (h | ⟨j, h1, h2⟩)
              · exact ⟨vis.length, by omega, by rw [up_eq, h]⟩
              · exact ⟨j, by omega, by rw [up_at, if_neg (by omega)]; exact h2⟩
            · rintro ⟨j, h1, h2⟩
              rw [up_at] at h2
              by_cases hj : j = vis.length
              · rw [if_pos hj] at h2
                exact Or.inl ((nI_inj (by omega) (by omega)).mp h2).symm
              · rw [if_neg hj] at h2
                exact Or.inr ⟨j, by omega, h2⟩)
          rw [List.length_cons] at i1 i3 i4
          refine ⟨X', ?_, ?_, ?_, ?_⟩
          · rw [i1, List.length_cons]
            congr 3
            omega
          · intro r hr
            rw [i2 r hr, up_row hr]
          · intro j hj
            rw [i3 j (by omega), up_at, if_neg (by omega)]
          · intro j hj
            cases j with
            | zero =>
              rw [Nat.add_zero, i3 _ (by omega), up_eq]
              rfl
            | succ j =>
              rw [List.length_cons] at hj
              rw [List.getD_cons_succ, ← i4 j (by omega)]
              congr 1
              omega
        by_cases ho : nI t = μ 22 i
        · rw [if_pos ho]
          unfold fTrace_walkBack_89 fTrace_walkBack_109
          have : wnx μ R i t = -1 := by unfold wnx; rw [if_pos ho]
          rw [show nI vis.length + 1 = nI (vis.length + 1) from nI_plus _ 1]
          rw [this] at nxt ⊢
          exact nxt
        · rw [if_neg ho, inb_n (by omega) (by omega), cond_true, hc]
          by_cases hr : R t = -1
          · rw [if_neg (by rw [h66 t ht]; simpa using hr)]
            unfold fTrace_walkBack_89 fTrace_walkBack_109
            have : wnx μ R i t = -1 := by unfold wnx; rw [if_neg ho, if_pos hr]
            rw [show nI vis.length + 1 = nI (vis.length + 1) from nI_plus _ 1]
            rw [this] at nxt ⊢
            exact nxt
          · obtain ⟨r0, r1⟩ : 0 ≤ R t ∧ R t < μ 13 15 := (hR t).resolve_left hr
            have hlt := nt_lt r0 r1
            have eo : fLedger_otherThing (R t) (nI t) (am_up X 67 vis.length (nI t)) = some (othT μ (R t) t, am_up X 67 vis.length (nI t)) := by
              unfold fLedger_otherThing othT
              rw [inb_t r0 (by omega), cond_true, up_row (by omega), up_row (by omega), hX 16 (by omega), hX 17 (by omega)]
              split <;> rfl
            rw [if_pos (by rw [h66 t ht]; exact hr), h66 t ht, eo, Option.bind_some]
            unfold fTrace_walkBack_109
            have : wnx μ R i t = othT μ (R t) t := by unfold wnx; rw [if_neg ho, if_neg hr]
            rw [show nI vis.length + 1 = nI (vis.length + 1) from nI_plus _ 1]
            rw [this] at nxt ⊢
            exact nxt
theorem m_wy {μ : am_Mu} (g4 : G4 μ) {R : Nat → Int32} (hR : ∀ th, R th = -1 ∨ (0 ≤ R th ∧ R th < μ 13 15)) {i : Nat} (hi : i < (μ 13 16).toNatClampNeg) {m : Nat} (hm : m < 2 ^ 31) {Y : am_Mu} (hY : SB Y μ) (h151 : ∀ th, th < nTh μ → Y 151 th = R th) : ∀ q vis t n S, vis.length + q = 20 → q < n → t < nTh μ → (t :: vis).Nodup → (∀ x, x ∈ vis → x < 20) → S < 2 ^ 20 → (∀ x, x < 20 → (S.testBit x = true ↔ x ∈ t :: vis)) → vis.length ≤ m → fM_way_69 n (nI i) (nI m) (nI t) (nI S) (nI vis.length) Y = some (if m - vis.length < (wback (wnx μ R i) q vis (nI t)).length then nI ((wback (wnx μ R i) q vis (nI t)).getD (m - vis.length) 0) else -1, Y) := by
  have t20 : nTh μ ≤ 20 := nt_le (b := 20) g4.1.1 g4.1.2.1
  have m10 : (μ 13 16).toNatClampNeg ≤ 10 := nt_le (b := 10) g4.2.2.1.1 g4.2.2.1.2.1
  have a200 : (μ 13 15).toNatClampNeg ≤ 200 := nt_le (b := 200) g4.2.1.1 g4.2.1.2.1
  have e139 := (g4.2.2.1.2.2.2 i hi).1.1
  intro q
  induction q with
  | zero =>
    intro vis t n S hv hn ht hnd hlt
    have := nd_len 20 (t :: vis) hnd (by
      intro x hx
      rcases List.mem_cons.mp hx with h | h
      · omega
      · exact hlt x h)
    rw [List.length_cons] at this
    omega
  | succ q ih =>
    intro vis t n S hv hn ht hnd hlt hS hbit hvm
    obtain ⟨n, rfl⟩ : ∃ k, n = k + 1 := ⟨n - 1, by omega⟩
    have hc : (nI t).toNatClampNeg = t := nI_clamp (by omega)
    have hne : ¬ nI t = -1 := by
      intro z
      have := nI_pos' (n := t) (by omega)
      rw [z] at this
      exact absurd this (by decide)
    have hnm : t ∉ vis := (List.nodup_cons.mp hnd).1
    have ew : wback (wnx μ R i) (q + 1) vis (nI t) = t :: wback (wnx μ R i) q (t :: vis) (wnx μ R i t) := by
      rw [wback, if_neg hne, hc, if_neg hnm]
    rw [ew, fM_way_69]
    by_cases hmv : m = vis.length
    · rw [if_pos ((nI_le_iff hm (by omega)).mpr (by omega)), show m - vis.length = 0 by omega, if_pos (by rw [List.length_cons]; omega)]
      rfl
    · obtain ⟨j, hj⟩ : ∃ j, m - vis.length = j + 1 := ⟨m - vis.length - 1, by omega⟩
      rw [if_neg (by rw [nI_le_iff hm (by omega)]; omega), inb_n (by omega) (by omega), cond_true, nI_clamp (show i < 2 ^ 31 by omega), hY 139 (by omega), e139, hj, List.length_cons, List.getD_cons_succ]
      have stop : wnx μ R i t = -1 → some ((-1 : Int32), Y) = some (if j + 1 < (wback (wnx μ R i) q (t :: vis) (wnx μ R i t)).length + 1 then nI ((wback (wnx μ R i) q (t :: vis) (wnx μ R i t)).getD j 0) else -1, Y) := by
        intro h
        rw [h, wback_none, if_neg (by simp)]
      by_cases ho : nI t = μ 22 i
      · rw [if_pos ho]
        exact stop (by unfold wnx; rw [if_pos ho])
      · rw [if_neg ho, inb_n (by omega) (by omega), cond_true, hc, h151 t ht]
        by_cases hr : R t = -1
        · rw [if_neg (by simpa using hr)]
          exact stop (by unfold wnx; rw [if_neg ho, if_pos hr])
        · obtain ⟨r0, r1⟩ : 0 ≤ R t ∧ R t < μ 13 15 := (hR t).resolve_left hr
          have hltR := nt_lt r0 r1
          obtain ⟨-, ⟨p1, -, -⟩, ⟨p4, -⟩, -⟩ := g4.2.1.2.2.2 _ hltR
          have ewn : wnx μ R i t = othT μ (R t) t := by unfold wnx; rw [if_neg ho, if_neg hr]
          have hwn := oth_wn g4 r0 r1 t
          have go : fM_way_144 (fM_way_69 n) (nI i) (nI m) (nI S) (nI vis.length) (othT μ (R t) t) Y = some (if j + 1 < (wback (wnx μ R i) q (t :: vis) (wnx μ R i t)).length + 1 then nI ((wback (wnx μ R i) q (t :: vis) (wnx μ R i t)).getD j 0) else -1, Y) := by
            unfold fM_way_144
            by_cases hz : othT μ (R t) t = -1
            · rw [if_pos hz]
              exact stop (by rw [ewn, hz])
            · rw [if_neg hz]
              obtain ⟨t', ht', et'⟩ : ∃ t', t' < nTh μ ∧ othT μ (R t) t = nI t' := hwn.resolve_left hz
              rw [ewn, et', m_hasbit (by omega) (by omega), Option.bind_some]
              dsimp only
              by_cases hin : t' ∈ t :: vis
              · rw [b2i_t ((hbit t' (by omega)).mpr hin), if_neg (by decide), wback_seen (by rw [nI_clamp (by omega)]; exact hin), if_neg (by simp)]
              · rw [b2i_f (fun z => hin ((hbit t' (by omega)).mp z)), if_pos rfl, shl1 ⟨t', by omega⟩, nI_or, show nI vis.length + 1 = nI (vis.length + 1) from nI_plus _ 1]
                have h2 := ih (t :: vis) t' n (S ||| 2 ^ t') (by rw [List.length_cons]; omega) (by omega) ht' (List.nodup_cons.mpr ⟨hin, hnd⟩) (by
                  intro x hx
                  rcases List.mem_cons.mp hx with h | h
                  · omega
                  · exact hlt x h) (Nat.or_lt_two_pow hS (Nat.pow_lt_pow_right (by omega) (by omega))) (by
                  intro x hx
                  rw [Nat.testBit_or, Bool.or_eq_true, hbit x hx, Nat.testBit_two_pow, List.mem_cons (a := x) (b := t')]
                  constructor
                  · rintro (h | h)
                    · exact Or.inr h
                    · exact Or.inl (by simpa using h : t' = x).symm
                  · rintro (h | h)
                    · exact Or.inr (by simp [h])
                    · exact Or.inl h) (by rw [List.length_cons]; omega)
                rw [List.length_cons] at h2
                dsimp only
                rw [h2, show m - (vis.length + 1) = j by omega]
                congr 2
                by_cases hl : j < (wback (wnx μ R i) q (t :: vis) (nI t')).length
                · rw [if_pos hl, if_pos (by omega)]
                · rw [if_neg hl, if_neg (by omega)]
          rw [if_pos hr, inb_t r0 (by omega), cond_true, hY 133 (by omega), hY 134 (by omega), p1, p4]
          by_cases h16 : μ 16 (R t).toNatClampNeg = nI t
          · rw [if_neg (by simpa using h16)]
            have : othT μ (R t) t = μ 17 (R t).toNatClampNeg := by unfold othT; rw [if_neg (by simpa using h16)]
            rw [← this]
            exact go
          · rw [if_pos h16]
            have : othT μ (R t) t = μ 16 (R t).toNatClampNeg := by unfold othT; rw [if_pos h16]
            rw [← this]
            exact go
theorem op_way (a b c d : Int32) (μ : am_Mu) : Op (fB_way a b c d) (fM_way a b c d) (fun μ => G0 μ ∧ G1 μ ∧ G3 μ ∧ G4 μ) (fun _ => True) μ := by
  rintro ⟨g0, g1, g3, g4⟩
  have t20 : nTh μ ≤ 20 := nt_le (b := 20) g4.1.1 g4.1.2.1
  have m10 : (μ 13 16).toNatClampNeg ≤ 10 := nt_le (b := 10) g4.2.2.1.1 g4.2.2.1.2.1
  have h6 := g4.2.2.1.2.2.1
  have h4 := g4.1.2.2.1
  have eM : ∀ X : am_Mu, X 108 6 = μ 13 16 → X 108 4 = μ 13 14 → fM_way a b c d X = if (0 ≤ a ∧ a < μ 13 16) ∧ (0 ≤ b ∧ b < 2) ∧ 0 ≤ c ∧ c < μ 13 14 then (if 0 ≤ d then ((fM_reaches a b X).bind fun q8 => (bif am_inb a 10 then (if c = (q8 139 ((a).toNatClampNeg)) then fM_way_58 a c d q8 else (bif am_inb c 20 then (if ¬ (q8 151 ((c).toNatClampNeg)) = (-1) then fM_way_58 a c d q8 else some ((-1), q8)) else none)) else none)) else some ((-1), X)) else some (-1, X) := by
    intro X x6 x4
    unfold fM_way
    exact m_can g4 x6 x4 a b c (Z := fun X => (if 0 ≤ d then ((fM_reaches a b X).bind fun q8 => (bif am_inb a 10 then (if c = (q8 139 ((a).toNatClampNeg)) then fM_way_58 a c d q8 else (bif am_inb c 20 then (if ¬ (q8 151 ((c).toNatClampNeg)) = (-1) then fM_way_58 a c d q8 else some ((-1), q8)) else none)) else none)) else some ((-1), X)))
  by_cases hv : (0 ≤ a ∧ a < μ 13 16) ∧ (0 ≤ b ∧ b < 2) ∧ 0 ≤ c ∧ c < μ 13 14
  · obtain ⟨i, rfl, hi⟩ : ∃ i, a = nI i ∧ i < (μ 13 16).toNatClampNeg := ⟨a.toNatClampNeg, (nI_nt hv.1.1).symm, nt_lt hv.1.1 hv.1.2⟩
    obtain ⟨s, rfl, hs⟩ : ∃ s, b = nI s ∧ s < 2 := ⟨b.toNatClampNeg, (nI_nt hv.2.1.1).symm, nt_lt (b := 2) hv.2.1.1 hv.2.1.2⟩
    obtain ⟨th, rfl, hth⟩ : ∃ th, c = nI th ∧ th < nTh μ := ⟨c.toNatClampNeg, (nI_nt hv.2.2.1).symm, nt_lt hv.2.2.1 hv.2.2.2⟩
    obtain ⟨P, hP, hPm⟩ := play_all2 g1 g3 g4 hs
    by_cases hd0 : 0 ≤ d
    · obtain ⟨m, rfl, hm⟩ : ∃ m, d = nI m ∧ m < 2 ^ 31 := ⟨d.toNatClampNeg, (nI_nt hd0).symm, nt_b⟩
      have hRact := rcR_act g4 (P := P) (v := μ 0 11) (t := μ 0 11) (i := i) (nEv μ) (Nat.le_refl _)
      have e139 := (g4.2.2.1.2.2.2 i hi).1.1
      -- the reference, from any memory that the class may leave
      have ref : ∀ X : am_Mu, SB X μ → ∃ Y, fM_way (nI i) (nI s) (nI th) (nI m) X = some (if nI th = μ 22 i ∨ ¬ rcR μ P (μ 0 11) (μ 0 11) i (nEv μ) th = -1 then (if m < (wback (wnx μ (rcR μ P (μ 0 11) (μ 0 11) i (nEv μ)) i) 20 [] (nI th)).length then nI ((wback (wnx μ (rcR μ P (μ 0 11) (μ 0 11) i (nEv μ)) i) 20 [] (nI th)).getD m 0) else -1) else -1, Y) := by
        intro X hX
        obtain ⟨Y, y1, y2, y3⟩ := m_reaches g0 g4 hP hi hX
        have w58 : fM_way_58 (nI i) (nI th) (nI m) Y = some (if m < (wback (wnx μ (rcR μ P (μ 0 11) (μ 0 11) i (nEv μ)) i) 20 [] (nI th)).length then nI ((wback (wnx μ (rcR μ P (μ 0 11) (μ 0 11) i (nEv μ)) i) 20 [] (nI th)).getD m 0) else -1, Y) := by
          unfold fM_way_58
          rw [shl1 ⟨th, by omega⟩]
          exact m_wy g4 hRact hi hm y2 y3 20 [] th am_F (2 ^ th) rfl (by unfold am_F; omega) hth (List.nodup_cons.mpr ⟨List.not_mem_nil, List.nodup_nil⟩) (fun x hx => absurd hx List.not_mem_nil) (Nat.pow_lt_pow_right (by omega) (by omega)) (by
            intro x hx
            rw [Nat.testBit_two_pow, List.mem_singleton]
            simp [eq_comm]) (Nat.zero_le _)
        refine ⟨Y, ?_⟩
        rw [eM X (by rw [hX 108 (by omega), h6]) (by rw [hX 108 (by omega), h4]), if_pos hv, if_pos hd0, y1, Option.bind_some, inb_n (by omega) (by omega), cond_true, nI_clamp (show i < 2 ^ 31 by omega), y2 139 (by omega), e139]
        by_cases ho : nI th = μ 22 i
        · rw [if_pos ho, if_pos (Or.inl ho), w58]
        · rw [if_neg ho, inb_n (by omega) (by omega), cond_true, nI_clamp (by omega), y3 th hth]
          by_cases hr : rcR μ P (μ 0 11) (μ 0 11) i (nEv μ) th = -1
          · rw [if_neg (by simpa using hr), if_neg (fun z => z.elim ho (fun y => y hr))]
          · rw [if_pos hr, if_pos (Or.inr hr), w58]
      by_cases hd : m < 20
      · obtain ⟨X, x1, x2, -, -, x5⟩ := x_follow g1 g3 g4 hP hPm (show i < 10 by omega) (μ 0 11) (μ 0 11)
        have hcl : ∃ L X', fTrace_walkBack (nI i) (nI th) X = some (nI L, X') ∧ SB X' μ ∧ L ≤ 20 ∧ ((if nI th = μ 22 i ∨ ¬ rcR μ P (μ 0 11) (μ 0 11) i (nEv μ) th = -1 then (if m < (wback (wnx μ (rcR μ P (μ 0 11) (μ 0 11) i (nEv μ)) i) 20 [] (nI th)).length then nI ((wback (wnx μ (rcR μ P (μ 0 11) (μ 0 11) i (nEv μ)) i) 20 [] (nI th)).getD m 0) else -1) else -1) = if L ≤ m then -1 else X' 67 m) := by
          obtain ⟨X', i1, i2, i3, i4⟩ := x_wb g4 hRact (i := i) 20 [] (nI th) am_F X rfl (by unfold am_F; omega) (Or.inr ⟨th, hth, rfl⟩) x2 x5 (by
            intro t ht
            constructor
            · intro h; exact absurd h List.not_mem_nil
            · rintro ⟨j, h, -⟩; exact absurd h (Nat.not_lt_zero _))
          have i1 : fTrace_walkBack_27 (nI th) (μ 22 i) X = some (nI (0 + (wback (wnx μ (rcR μ P (μ 0 11) (μ 0 11) i (nEv μ)) i) 20 [] (nI th)).length), X') := i1
          have hwl := wback_len (nx := wnx μ (rcR μ P (μ 0 11) (μ 0 11) i (nEv μ)) i) 20 [] (nI th)
          have fin : (if m < (wback (wnx μ (rcR μ P (μ 0 11) (μ 0 11) i (nEv μ)) i) 20 [] (nI th)).length then nI ((wback (wnx μ (rcR μ P (μ 0 11) (μ 0 11) i (nEv μ)) i) 20 [] (nI th)).getD m 0) else -1) = if (wback (wnx μ (rcR μ P (μ 0 11) (μ 0 11) i (nEv μ)) i) 20 [] (nI th)).length ≤ m then -1 else X' 67 m := by
            by_cases hml : m < (wback (wnx μ (rcR μ P (μ 0 11) (μ 0 11) i (nEv μ)) i) 20 [] (nI th)).length
            · have h5 := i4 m hml
              rw [List.length_nil, Nat.zero_add] at h5
              rw [if_pos hml, if_neg (by omega), h5]
            · rw [if_neg hml, if_pos (by omega)]
          have hX' : SB X' μ := fun r hr => by rw [i2 r (by omega)]; exact x2 r hr
          unfold fTrace_walkBack
          rw [inb_n (by omega) (by omega), cond_true, nI_clamp (show i < 2 ^ 31 by omega), x2 22 (by omega), i1, Nat.zero_add]
          by_cases ho : nI th = μ 22 i
          · rw [if_pos ho, if_pos (Or.inl ho)]
            exact ⟨_, X', rfl, hX', hwl, fin⟩
          · rw [if_neg ho, inb_n (by omega) (by omega), cond_true, nI_clamp (by omega), x5 th hth]
            by_cases hr : rcR μ P (μ 0 11) (μ 0 11) i (nEv μ) th = -1
            · rw [if_neg (by simpa using hr), if_neg (fun z => z.elim ho (fun y => y hr))]
              exact ⟨0, X, rfl, x2, by omega, by rw [if_pos (Nat.zero_le _)]⟩
            · rw [if_pos hr, if_pos (Or.inr hr)]
              exact ⟨_, X', rfl, hX', hwl, fin⟩
        obtain ⟨L, X', w1, w2, w3, w4⟩ := hcl
        obtain ⟨Y, y1⟩ := ref X' w2
        refine ⟨_, X', Y, ?_, y1, trivial⟩
        unfold fB_way
        rw [l_canTrace, Option.bind_some, b2i_t hv]
        dsimp only
        rw [if_neg (by decide), l_isIn, Option.bind_some, b2i_t (show 0 ≤ nI m ∧ nI m < 20 from ⟨hd0, (nI_lt_iff (b := 20) (by omega) (by omega)).mpr hd⟩)]
        dsimp only
        rw [if_pos (by decide), x1, Option.bind_some, w1, Option.bind_some, w4]
        dsimp only
        by_cases hLm : L ≤ m
        · rw [if_pos ((nI_le_iff (by omega) (by omega)).mpr hLm), if_pos hLm]
        · rw [if_neg (by rw [nI_le_iff (by omega) (by omega)]; exact hLm), if_neg hLm, inb_n (by omega) (by omega), cond_true, nI_clamp (by omega)]
      · obtain ⟨Y, y1⟩ := ref μ (fun _ _ => rfl)
        have hwl := wback_len (nx := wnx μ (rcR μ P (μ 0 11) (μ 0 11) i (nEv μ)) i) 20 [] (nI th)
        rw [if_neg (show ¬ m < (wback (wnx μ (rcR μ P (μ 0 11) (μ 0 11) i (nEv μ)) i) 20 [] (nI th)).length by omega), ite_self] at y1
        refine ⟨_, μ, Y, ?_, y1, trivial⟩
        unfold fB_way
        rw [l_canTrace, Option.bind_some, b2i_t hv]
        dsimp only
        rw [if_neg (by decide), l_isIn, Option.bind_some, b2i_f (show ¬ (0 ≤ nI m ∧ nI m < 20) from fun z => hd ((nI_lt_iff (b := 20) (by omega) (by omega)).mp z.2))]
        rfl
    · refine ⟨-1, μ, μ, ?_, ?_, trivial⟩
      · unfold fB_way
        rw [l_canTrace, Option.bind_some, b2i_t hv]
        dsimp only
        rw [if_neg (by decide), l_isIn, Option.bind_some, b2i_f (fun z => hd0 z.1)]
        rfl
      · rw [eM μ h6 h4, if_pos hv, if_neg hd0]
  · refine ⟨-1, μ, μ, ?_, ?_, trivial⟩
    · unfold fB_way
      rw [l_canTrace, Option.bind_some, b2i_f hv]
      rfl
    · rw [eM μ h6 h4, if_neg hv]
