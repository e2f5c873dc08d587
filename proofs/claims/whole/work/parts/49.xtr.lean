/-! E: the tour, the class: measured sets and the walk -/
abbrev subB (S F : Nat) : Prop := ∀ p, p < 8 → hasB S p → hasB F p
def MsrP (d : Nat → Nat → Int32) (ν : am_Mu) (F S : Nat) : Prop := ∀ T, T < S → subB T F → ∀ k, k < 8 → hasB T k → ν 82 (8 * T + k) = wW d T k
theorem dP_fr {ν μ : am_Mu} (h79 : ν 79 = μ 79) (h80 : ν 80 = μ 80) (p : Option Nat) (j : Nat) : dP ν p j = dP μ p j := by
  cases p with
  | none => rfl
  | some k => simp only [dP, dK, h79, h80]
theorem x_measure {μ : am_Mu} {F S : Nat} (hS : S < 256) (hsub : subB S F) : ∀ q k n (ν : am_Mu), k + q = 8 → q < n → FrR 82 ν μ → MsrP (dK μ) ν F S → (∀ j, j < k → hasB S j → ν 82 (8 * S + j) = wW (dK μ) S j) → ∃ ν', fKitchens_measure_2 n (nI S) (nI k) ν = some ν' ∧ FrR 82 ν' μ ∧ MsrP (dK μ) ν' F (S + 1) := by
  intro q
  induction q with
  | zero =>
    intro k n ν h1 h2 h3 h4 h5
    obtain ⟨n, rfl⟩ : ∃ k, n = k + 1 := ⟨n - 1, by omega⟩
    have e : k = 8 := by omega
    subst e
    refine ⟨ν, ?_, h3, ?_⟩
    · rw [fKitchens_measure_2, if_pos (by decide)]
    · intro T hT hs k hk hb
      by_cases hTS : T = S
      · subst hTS
        exact h5 k hk hb
      · exact h4 T (by omega) hs k hk hb
  | succ q ih =>
    intro k n ν h1 h2 h3 h4 h5
    obtain ⟨n, rfl⟩ : ∃ k, n = k + 1 := ⟨n - 1, by omega⟩
    have hk : k < 8 := by omega
    have hlt : ¬ (8 : Int32) ≤ nI k := by
      have := (nI_lt_iff (a := k) (b := 8) (by omega) (by omega)).mpr (by omega)
      exact Int32.not_le.mpr this
    have ek : nI k + 1 = nI (k + 1) := nI_plus k 1
    obtain ⟨c1, c2, c3⟩ := clr8 hS hk
    rw [fKitchens_measure_2, if_neg hlt, has8 hS hk]
    by_cases hs : hasB S k
    · rw [if_pos hs, if_neg (by decide), c1]
      have hlc := (card8 hS hk hs).2
      have hcs : subB (clrB S k) F := fun p hp hb => hsub p hp ((c3 p hp).mp hb).2
      have hpk : ∀ k', some k = some k' → k' < 8 := by
        intro k' h
        cases h
        exact hk
      have xn := x_near (μ := ν) hpk (S := clrB S k) (by omega)
      rw [show pv (some k) = nI k from rfl] at xn
      have en : nearB (fun j => dP ν (some k) j + ν 82 (8 * clrB S k + j)) (clrB S k) 8 = nearB (fun j => dK μ k j + wW (dK μ) (clrB S k) j) (clrB S k) 8 := by
        refine near_congr ?_
        intro j hj hb
        rw [dP_fr (h3 79 (by decide)) (h3 80 (by decide)), h4 (clrB S k) hlc hcs j hj hb]
        rfl
      rw [xn, Option.bind_some, en]
      dsimp only
      have we := wW_eq (d := dK μ) hS hk hs
      have np := near_p (fun j => dK μ k j + wW (dK μ) (clrB S k) j) (clrB S k) 8
      have eix : nI S * 8 + nI k = nI (8 * S + k) := by
        show nI S * nI 8 + nI k = _
        rw [nI_mul, nI_plus, Nat.mul_comm]
      have fin : ∀ v, v = wW (dK μ) S k → ∃ ν', fKitchens_measure_61 (fKitchens_measure_2 n) (nI S) (nI k) (nI (8 * S + k)) v ν = some ν' ∧ FrR 82 ν' μ ∧ MsrP (dK μ) ν' F (S + 1) := by
        intro v hv
        unfold fKitchens_measure_61 fKitchens_measure_62
        rw [inb_n (by omega) (by omega), cond_true, nI_clamp (show 8 * S + k < 2 ^ 31 by omega), ek]
        refine ih (k + 1) n _ (by omega) (by omega) h3.up ?_ ?_
        · intro T hT hs k' hk' hb
          simp only [upa]
          rw [if_neg (by omega)]
          exact h4 T hT hs k' hk' hb
        · intro j hj hb
          simp only [upa]
          by_cases hjk : j = k
          · subst hjk
            rw [if_pos ⟨trivial, rfl⟩]
            exact hv
          · rw [if_neg (by omega)]
            exact h5 j (by omega) hb
      cases hq : nearB (fun j => dK μ k j + wW (dK μ) (clrB S k) j) (clrB S k) 8 with
      | none =>
        rw [hq] at we
        rw [show pv none = -1 from rfl, if_neg (by decide), eix]
        exact fin 0 we.symm
      | some b =>
        rw [hq] at we np
        have hb8 := np.1
        have lv := l_via (μ := ν) hpk hb8 (S := clrB S k) (by omega)
        rw [show pv (some k) = nI k from rfl] at lv
        rw [show pv (some b) = nI b from rfl, if_pos (pv_ne hb8), lv, Option.bind_some]
        dsimp only
        rw [eix]
        refine fin _ ?_
        rw [we, dP_fr (h3 79 (by decide)) (h3 80 (by decide)), h4 (clrB S k) hlc hcs b hb8 np.2.1]
        rfl
    · rw [if_neg hs, if_pos (by decide)]
      unfold fKitchens_measure_62
      rw [ek]
      refine ih (k + 1) n ν (by omega) (by omega) h3 h4 ?_
      intro j hj hb
      by_cases hjk : j = k
      · subst hjk
        exact absurd hb hs
      · exact h5 j (by omega) hb
theorem x_plan {μ : am_Mu} {F : Nat} (hF : F < 256) : ∀ q S n (ν : am_Mu), S + q = F + 1 → 1 ≤ S → q < n → FrR 82 ν μ → MsrP (dK μ) ν F S → ∃ ν', fKitchens_planTour_21 n (nI F) (nI S) ν = fKitchens_planTour_45 (nI F) ν' ∧ FrR 82 ν' μ ∧ MsrP (dK μ) ν' F (F + 1) := by
  intro q
  induction q with
  | zero =>
    intro S n ν h1 h0 h2 h3 h4
    obtain ⟨n, rfl⟩ : ∃ k, n = k + 1 := ⟨n - 1, by omega⟩
    have e : S = F + 1 := by omega
    subst e
    refine ⟨ν, ?_, h3, h4⟩
    rw [fKitchens_planTour_21, if_pos ((nI_lt_iff (by omega) (by omega)).mpr (by omega))]
  | succ q ih =>
    intro S n ν h1 h0 h2 h3 h4
    obtain ⟨n, rfl⟩ : ∃ k, n = k + 1 := ⟨n - 1, by omega⟩
    have hlt : ¬ nI F < nI S := by
      rw [nI_lt_iff (by omega) (by omega)]
      omega
    have ek : nI S + 1 = nI (S + 1) := nI_plus S 1
    have hs8 := sub8 (a := S) (b := F) (by omega) hF
    rw [fKitchens_planTour_21, if_neg hlt]
    by_cases hs : subB S F
    · rw [if_neg (by rw [hs8.mpr hs]; decide)]
      obtain ⟨ν', m1, m2, m3⟩ := x_measure (μ := μ) (F := F) (S := S) (by omega) hs 8 0 am_F ν (by omega) (by unfold am_F; omega) h3 h4 (fun j hj => absurd hj (by omega))
      unfold fKitchens_measure fKitchens_planTour_39
      rw [show (0 : Int32) = nI 0 from rfl, m1, Option.bind_some, ek]
      exact ih (S + 1) n ν' (by omega) (by omega) (by omega) m2 m3
    · rw [if_pos (fun h => hs (hs8.mp h))]
      unfold fKitchens_planTour_39
      rw [ek]
      refine ih (S + 1) n ν (by omega) (by omega) (by omega) h3 ?_
      intro T hT hsT k hk hb
      by_cases hTS : T = S
      · subst hTS
        exact absurd hsT hs
      · exact h4 T (by omega) hsT k hk hb
/-- the walk from k through S -/
def wlk (d : Nat → Nat → Int32) : Nat → Nat → Option Nat → List Nat
  | 0, _, _ => []
  | _ + 1, _, none => []
  | f + 1, S, some k => k :: wlk d f (clrB S k) (nearB (fun j => d k j + wW d (clrB S k) j) (clrB S k) 8)
def FrW (ν μ : am_Mu) : Prop := (∀ a, ¬ a = 83 → ¬ a = 76 → ν a = μ a) ∧ ∀ j, ¬ j = 7 → ν 76 j = μ 76 j
theorem FrW.up {ν μ : am_Mu} {i : Nat} {x y : Int32} (h : FrW ν μ) : FrW (am_up (am_up ν 83 i x) 76 7 y) μ := by
  refine ⟨?_, ?_⟩
  · intro a h1 h2
    rw [← h.1 a h1 h2]
    funext j
    simp only [upa]
    grind
  · intro j hj
    rw [← h.2 j hj]
    simp only [upa]
    grind
theorem x_walk {μ : am_Mu} {d : Nat → Nat → Int32} (hd : ∀ k j, dK μ k j = d k j) {F : Nat} (hF : F < 256) (hM : MsrP d μ F (F + 1)) (hle : ∀ S, S < 256 → subB S F → S ≤ F) {a4 : Int32} : ∀ q n (ν : am_Mu) (pre : List Nat) S (p : Option Nat), pre.length + q = 8 → q < n → S < 256 → subB S F → (∀ k, p = some k → k < 8 ∧ hasB S k) → FrW ν μ → RowIs (ν 83) (pre.map nI) → ν 76 7 = nI pre.length → ∃ ν', fKitchens_walkTour_21 n (nI S) (pv p) a4 (nI pre.length) ν = some (a4, ν') ∧ FrW ν' μ ∧ RowIs (ν' 83) ((pre ++ wlk d q S p).map nI) ∧ ν' 76 7 = nI (pre ++ wlk d q S p).length := by
  intro q
  induction q with
  | zero =>
    intro n ν pre S p h1 h2 hS hs hp h3 h4 h5
    obtain ⟨n, rfl⟩ : ∃ k, n = k + 1 := ⟨n - 1, by omega⟩
    refine ⟨ν, ?_, h3, ?_, ?_⟩
    · rw [fKitchens_walkTour_21, show pre.length = 8 by omega, if_pos (by decide)]
    · rw [wlk, List.append_nil]
      exact h4
    · rw [wlk, List.append_nil]
      exact h5
  | succ q ih =>
    intro n ν pre S p h1 h2 hS hs hp h3 h4 h5
    obtain ⟨n, rfl⟩ : ∃ k, n = k + 1 := ⟨n - 1, by omega⟩
    have hlt : ¬ (8 : Int32) ≤ nI pre.length := by
      have := (nI_lt_iff (a := pre.length) (b := 8) (by omega) (by omega)).mpr (by omega)
      exact Int32.not_le.mpr this
    rw [fKitchens_walkTour_21, if_neg hlt]
    cases p with
    | none =>
      refine ⟨ν, ?_, h3, ?_, ?_⟩
      · rw [show pv none = -1 from rfl, if_pos rfl]
      · rw [wlk, List.append_nil]
        exact h4
      · rw [wlk, List.append_nil]
        exact h5
    | some k =>
      obtain ⟨hk, hb⟩ := hp k rfl
      obtain ⟨c1, c2, c3⟩ := clr8 hS hk
      have hpk : ∀ k', some k = some k' → k' < 8 := by
        intro k' h
        cases h
        exact hk
      have hcs : subB (clrB S k) F := fun p hp hb => hs p hp ((c3 p hp).mp hb).2
      have hcl : clrB S k < 256 := by omega
      rw [show pv (some k) = nI k from rfl, if_neg (pv_ne hk), inb_n (by omega) (by omega), cond_true, c1, nI_clamp (show pre.length < 2 ^ 31 by omega), show nI pre.length + 1 = nI (pre.length + 1) from nI_plus _ 1]
      have h3' := h3.up (i := pre.length) (x := nI k) (y := nI (pre.length + 1))
      have h4' : RowIs (am_up (am_up ν 83 pre.length (nI k)) 76 7 (nI (pre.length + 1)) 83) ((pre ++ [k]).map nI) := by
        rw [List.map_append]
        refine h4.app ?_
        intro j
        rw [List.length_map]
        simp only [upa]
        grind
      have h5' : am_up (am_up ν 83 pre.length (nI k)) 76 7 (nI (pre.length + 1)) 76 7 = nI (pre ++ [k]).length := by
        rw [List.length_append]
        simp [upa]
      generalize am_up (am_up ν 83 pre.length (nI k)) 76 7 (nI (pre.length + 1)) = ξ at h3' h4' h5'
      have xn := x_near (μ := ξ) hpk (S := clrB S k) hcl
      rw [show pv (some k) = nI k from rfl] at xn
      have en : nearB (fun j => dP ξ (some k) j + ξ 82 (8 * clrB S k + j)) (clrB S k) 8 = nearB (fun j => d k j + wW d (clrB S k) j) (clrB S k) 8 := by
        refine near_congr ?_
        intro j hj hb
        rw [dP_fr (h3'.1 79 (by decide) (by decide)) (h3'.1 80 (by decide) (by decide)), h3'.1 82 (by decide) (by decide), hM (clrB S k) (by have := hle _ hcl hcs; omega) hcs j hj hb, ← hd]
        rfl
      rw [xn, Option.bind_some, en]
      dsimp only
      have e : pre ++ wlk d (q + 1) S (some k) = (pre ++ [k]) ++ wlk d q (clrB S k) (nearB (fun j => d k j + wW d (clrB S k) j) (clrB S k) 8) := by
        rw [wlk, List.append_assoc]
        rfl
      rw [e]
      have el : pre.length + 1 = (pre ++ [k]).length := by rw [List.length_append]; rfl
      rw [el]
      refine ih n ξ (pre ++ [k]) (clrB S k) _ (by omega) (by omega) hcl hcs ?_ h3' h4' h5'
      intro k' hk'
      have np := near_p (fun j => d k j + wW d (clrB S k) j) (clrB S k) 8
      rw [hk'] at np
      exact ⟨np.1, np.2.1⟩
