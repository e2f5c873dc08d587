/-! E: the tour, the class -/
theorem s8A : ∀ a : Fin 256, nI a.val &&& 255 = nI a.val := by decide +kernel
theorem s8B : ∀ b : Fin 256, (255 : Int32) &&& (nI b.val ^^^ (-1)) = nI (255 - b.val) := by decide +kernel
theorem s8E : ∀ b : Fin 256, ∀ p : Fin 8, (255 - b.val) / 2 ^ p.val % 2 = 1 ↔ ¬ b.val / 2 ^ p.val % 2 = 1 := by decide +kernel
theorem nI_and (a b : Nat) : nI a &&& nI b = nI (a &&& b) := by
  unfold nI
  rw [← Int32.toBitVec_inj]
  simp
theorem sub8 {a b : Nat} (ha : a < 256) (hb : b < 256) : (nI a &&& (nI b ^^^ (-1)) = 0) ↔ ∀ p, p < 8 → hasB a p → hasB b p := by
  have e1 : nI a &&& (nI b ^^^ (-1)) = nI (a &&& (255 - b)) := by
    rw [← nI_and, ← s8B ⟨b, hb⟩, ← Int32.and_assoc, s8A ⟨a, ha⟩]
  have hx : a &&& (255 - b) ≤ a := Nat.and_le_left
  rw [e1, show (0 : Int32) = nI 0 from rfl, nI_inj (by omega) (by omega)]
  have hb' : ∀ x p, hasB x p ↔ x.testBit p = true := by
    intro x p
    rw [Nat.testBit_eq_decide_div_mod_eq]
    simp
  constructor
  · intro h p hp h1
    have h2 : (a &&& (255 - b)).testBit p = false := by rw [h]; exact Nat.zero_testBit p
    rw [Nat.testBit_and, (hb' a p).mp h1, Bool.true_and] at h2
    have h3 := s8E ⟨b, hb⟩ ⟨p, hp⟩
    by_cases h4 : hasB b p
    · exact h4
    · have h5 := (hb' (255 - b) p).mp (h3.mpr h4)
      rw [h2] at h5
      exact absurd h5 (by decide)
  · intro h
    refine Nat.eq_of_testBit_eq ?_
    intro p
    rw [Nat.zero_testBit, Nat.testBit_and]
    by_cases hp : p < 8
    · cases hq : a.testBit p with
      | false => rfl
      | true =>
        have h1 := h p hp ((hb' a p).mpr hq)
        have h3 := s8E ⟨b, hb⟩ ⟨p, hp⟩
        cases hr : (255 - b).testBit p with
        | false => rfl
        | true => exact absurd h1 (h3.mp ((hb' _ p).mpr hr))
    · rw [Nat.testBit_lt_two_pow (Nat.lt_of_lt_of_le ha (Nat.pow_le_pow_right (n := 2) (i := 8) (by decide) (by omega))), Bool.false_and]
theorem near_congr {w v : Nat → Int32} {S n : Nat} (h : ∀ j, j < n → hasB S j → w j = v j) : nearB w S n = nearB v S n := by
  refine near_u (near_p w S n) ?_
  have p := near_p v S n
  cases hq : nearB v S n with
  | none =>
    rw [hq] at p
    exact p
  | some b =>
    rw [hq] at p
    obtain ⟨p1, p2, p3, p4⟩ := p
    refine ⟨p1, p2, ?_, ?_⟩
    · intro j hj hs
      rw [h j hj hs, h b p1 p2]
      exact p3 j hj hs
    · intro j hj hs
      rw [h j (by omega) hs, h b p1 p2]
      exact p4 j hj hs
theorem waV_fuel {d : Nat → Nat → Int32} : ∀ f g S k, S < 256 → k < 8 → hasB S k → cardB S ≤ f + 1 → cardB S ≤ g + 1 → waV d (f + 1) S k = waV d (g + 1) S k := by
  intro f
  induction f with
  | zero =>
    intro g S k hS hk h hf hg
    obtain ⟨c1, c2⟩ := card8 hS hk h
    have hz := (card0 (show clrB S k < 256 by omega)).mp (by omega)
    have hn : ∀ w, nearB w (clrB S k) 8 = none := by
      intro w
      have p := near_p w (clrB S k) 8
      cases hq : nearB w (clrB S k) 8 with
      | none => rfl
      | some b =>
        rw [hq] at p
        exact absurd p.2.1 (hz b p.1)
    rw [waV, waV, hn, hn]
  | succ f ih =>
    intro g S k hS hk h hf hg
    obtain ⟨c1, c2⟩ := card8 hS hk h
    cases g with
    | zero =>
      have hz := (card0 (show clrB S k < 256 by omega)).mp (by omega)
      have hn : ∀ w, nearB w (clrB S k) 8 = none := by
        intro w
        have p := near_p w (clrB S k) 8
        cases hq : nearB w (clrB S k) 8 with
        | none => rfl
        | some b =>
          rw [hq] at p
          exact absurd p.2.1 (hz b p.1)
      rw [waV, waV, hn, hn]
    | succ g =>
      have e : ∀ j, j < 8 → hasB (clrB S k) j → waV d (f + 1) (clrB S k) j = waV d (g + 1) (clrB S k) j := fun j hj hs => ih g (clrB S k) j (by omega) hj hs (by omega) (by omega)
      rw [waV, waV, near_congr (v := fun j => d k j + waV d (g + 1) (clrB S k) j) (fun j hj hs => by rw [e j hj hs])]
      have p := near_p (fun j => d k j + waV d (g + 1) (clrB S k) j) (clrB S k) 8
      cases hq : nearB (fun j => d k j + waV d (g + 1) (clrB S k) j) (clrB S k) 8 with
      | none => rfl
      | some b =>
        rw [hq] at p
        dsimp only
        rw [e b p.1 p.2.1]
def wW (d : Nat → Nat → Int32) (S k : Nat) : Int32 := waV d 8 S k
theorem wW_eq {d : Nat → Nat → Int32} {S k : Nat} (hS : S < 256) (hk : k < 8) (h : hasB S k) : wW d S k = match nearB (fun j => d k j + wW d (clrB S k) j) (clrB S k) 8 with
    | none => 0
    | some b => d k b + wW d (clrB S k) b := by
  have hc : cardB S ≤ 8 := by unfold cardB; omega
  unfold wW
  rw [waV_fuel 7 8 S k hS hk h (by omega) (by omega), waV]
  cases nearB (fun j => d k j + waV d 8 (clrB S k) j) (clrB S k) 8 <;> rfl
def dK (μ : am_Mu) (a b : Nat) : Int32 := (if 0 ≤ μ 79 a - μ 79 b then μ 79 a - μ 79 b else 0 - (μ 79 a - μ 79 b)) + (if 0 ≤ μ 80 a - μ 80 b then μ 80 a - μ 80 b else 0 - (μ 80 a - μ 80 b))
def pv (p : Option Nat) : Int32 := match p with
  | none => -1
  | some k => nI k
def dP (μ : am_Mu) (p : Option Nat) (j : Nat) : Int32 := match p with
  | none => 0
  | some k => dK μ k j
theorem pv_ne {k : Nat} (h : k < 8) : ¬ nI k = -1 := by
  intro e
  have := nI_pos' (n := k) (by omega)
  rw [e] at this
  exact absurd this (by decide)
theorem l_via {μ : am_Mu} {p : Option Nat} (hp : ∀ k, p = some k → k < 8) {j S : Nat} (hj : j < 8) (hS : S < 256) : fKitchens_lengthVia (pv p) (nI j) (nI S) μ = some (dP μ p j + μ 82 (8 * S + j), μ) := by
  have e : nI S * 8 + nI j = nI (8 * S + j) := by
    show nI S * nI 8 + nI j = _
    rw [nI_mul, nI_plus, Nat.mul_comm]
  unfold fKitchens_lengthVia fKitchens_lengthVia_15
  rw [e, inb_n (by omega) (by omega), cond_true, nI_clamp (show 8 * S + j < 2 ^ 31 by omega)]
  cases p with
  | none => rfl
  | some k =>
    have hk := hp k rfl
    rw [pv, if_pos (pv_ne hk)]
    unfold fKitchens_distance
    rw [inb_n hk (by omega), inb_n hj (by omega), cond_true, cond_true, nI_clamp (show k < 2 ^ 31 by omega), nI_clamp (show j < 2 ^ 31 by omega), Option.bind_some]
    dsimp only
    rw [cond_true]
    rfl
theorem x_near {μ : am_Mu} {p : Option Nat} (hp : ∀ k, p = some k → k < 8) {S : Nat} (hS : S < 256) : fKitchens_nearest (pv p) (nI S) μ = some (pv (nearB (fun j => dP μ p j + μ 82 (8 * S + j)) S 8), μ) := by
  have key : ∀ q k n, k + q = 8 → q < n → fKitchens_nearest_5 n (pv p) (nI S) (pv (nearB (fun j => dP μ p j + μ 82 (8 * S + j)) S k)) (nI k) μ = some (pv (nearB (fun j => dP μ p j + μ 82 (8 * S + j)) S 8), μ) := by
    intro q
    induction q with
    | zero =>
      intro k n h1 h2
      obtain ⟨n, rfl⟩ : ∃ k, n = k + 1 := ⟨n - 1, by omega⟩
      have e : k = 8 := by omega
      subst e
      rw [fKitchens_nearest_5, if_pos (by decide)]
    | succ q ih =>
      intro k n h1 h2
      obtain ⟨n, rfl⟩ : ∃ k, n = k + 1 := ⟨n - 1, by omega⟩
      have hk : k < 8 := by omega
      have hlt : ¬ (8 : Int32) ≤ nI k := by
        have := (nI_lt_iff (a := k) (b := 8) (by omega) (by omega)).mpr (by omega)
        exact Int32.not_le.mpr this
      have ih' := ih (k + 1) n (by omega) (by omega)
      have ek : nI k + 1 = nI (k + 1) := nI_plus k 1
      have np := near_p (fun j => dP μ p j + μ 82 (8 * S + j)) S k
      rw [fKitchens_nearest_5, if_neg hlt, has8 hS hk]
      by_cases hs : hasB S k
      · rw [if_pos hs, if_neg (by decide)]
        unfold fKitchens_nearest_27 fKitchens_nearest_57 fKitchens_nearest_60
        rw [if_neg (by decide), ek]
        cases hq : nearB (fun j => dP μ p j + μ 82 (8 * S + j)) S k with
        | none =>
          rw [nearB, hq] at ih'
          dsimp only at ih'
          rw [if_pos hs] at ih'
          rw [pv, if_pos rfl]
          exact ih'
        | some b =>
          rw [hq] at np
          have hb : b < 8 := by have := np.1; omega
          rw [nearB, hq] at ih'
          dsimp only at ih'
          rw [show pv (some b) = nI b from rfl, if_neg (pv_ne hb), l_via hp hk hS, Option.bind_some]
          dsimp only
          rw [l_via hp hb hS, Option.bind_some]
          dsimp only
          by_cases c : dP μ p b + μ 82 (8 * S + b) ≤ dP μ p k + μ 82 (8 * S + k)
          · rw [if_pos c]
            rw [if_neg (fun h => absurd h.2 (Int32.not_lt.mpr c))] at ih'
            exact ih'
          · rw [if_neg c]
            rw [if_pos ⟨hs, Int32.not_le.mp c⟩] at ih'
            exact ih'
      · rw [if_neg hs, if_pos (by decide)]
        unfold fKitchens_nearest_27 fKitchens_nearest_60
        rw [if_pos rfl, ek]
        have e : nearB (fun j => dP μ p j + μ 82 (8 * S + j)) S (k + 1) = nearB (fun j => dP μ p j + μ 82 (8 * S + j)) S k := by
          rw [nearB]
          cases nearB (fun j => dP μ p j + μ 82 (8 * S + j)) S k with
          | none => exact if_neg hs
          | some b => exact if_neg (fun h => hs h.1)
        rw [e] at ih'
        exact ih'
  unfold fKitchens_nearest
  exact key 8 0 am_F rfl (by unfold am_F; omega)
