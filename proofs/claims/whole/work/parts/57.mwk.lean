/-! E: the tour, the reference: the walk -/
theorem m_walk {ks : Nat → Nat} {n : Nat} (hn : n ≤ 8) {ν μ : am_Mu} (h173 : ∀ i, i < n → ν 173 i = nI (ks i)) (hk : ∀ i, i < n → ks i < 8) (e154 : ∀ k, k < 8 → ν 154 k = μ 79 k) (e155 : ∀ k, k < 8 → ν 155 k = μ 80 k) (e88 : ν 108 88 = nI n) (hM : MstP (fun i j => dK μ (ks i) (ks j)) ν (2 ^ n)) {a2 : Nat} (ha2 : a2 < 8) : ∀ t s T i g f, s + t = a2 → t < f → T < 2 ^ n → i < n → hasB T i → t + 1 ≤ cardB T → t + 1 ≤ g → fM_stop_59 f (nI a2) (nI T) (nI i) (nI s) ν = fM_stop_105 (nI ((wlk (fun i j => dK μ (ks i) (ks j)) g T (some i)).getD t 0)) ν := by
  have hT2 := p2_le hn
  intro t
  induction t with
  | zero =>
    intro s T i g f h1 h2 hT hi hb hc hg
    obtain ⟨f, rfl⟩ : ∃ k, f = k + 1 := ⟨f - 1, by omega⟩
    obtain ⟨g, rfl⟩ : ∃ k, g = k + 1 := ⟨g - 1, by omega⟩
    have e : s = a2 := by omega
    rw [fM_stop_59, e, if_pos (Int32.le_refl _), wlk]
    rfl
  | succ t ih =>
    intro s T i g f h1 h2 hT hi hb hc hg
    obtain ⟨f, rfl⟩ : ∃ k, f = k + 1 := ⟨f - 1, by omega⟩
    obtain ⟨g, rfl⟩ : ∃ k, g = k + 1 := ⟨g - 1, by omega⟩
    have hlt : ¬ nI a2 ≤ nI s := by
      rw [nI_le_iff (by omega) (by omega)]
      omega
    obtain ⟨c1, c2, c3⟩ := clr8 (b := T) (v := i) (by omega) (by omega)
    obtain ⟨k1, k2⟩ := card8 (b := T) (k := i) (by omega) (by omega) hb
    have eix : (8 : Int32) * nI T + nI i = nI (8 * T + i) := by
      show nI 8 * _ + nI i = _
      rw [nI_mul, nI_plus]
    have we := wW_eq (d := fun i j => dK μ (ks i) (ks j)) (S := T) (k := i) (by omega) (by omega) hb
    have np := near_p (fun j => dK μ (ks i) (ks j) + wW (fun i j => dK μ (ks i) (ks j)) (clrB T i) j) (clrB T i) 8
    rw [fM_stop_59, if_neg hlt, eix, inb_n (by omega) (by omega), cond_true, nI_clamp (show 8 * T + i < 2 ^ 31 by omega), c1, hM T hT i (by omega) hb]
    cases hq : nearB (fun j => dK μ (ks i) (ks j) + wW (fun i j => dK μ (ks i) (ks j)) (clrB T i) j) (clrB T i) 8 with
    | none =>
      rw [hq] at np
      have := (card0 (show clrB T i < 256 by omega)).mpr np
      omega
    | some b =>
      rw [hq] at np we
      obtain ⟨p1, p2, p3, p4⟩ := np
      have hbn : b < n := mem_lt hT ((c3 b p1).mp p2).2
      have mb := m_begins hn e88 (w := fun j => dK μ (ks i) (ks j) + wW (fun i j => dK μ (ks i) (ks j)) (clrB T i) j) (T := clrB T i) (by omega) (p := some i) (by
        intro k hk
        cases hk
        omega) (len := wW (fun i j => dK μ (ks i) (ks j)) T i) (by
        intro j hj hs
        refine ⟨(fun h => absurd h (by simp)), ?_⟩
        intro k hk'
        cases hk'
        refine ⟨_, l_way0 hn h173 hk e154 e155 hi hj, ?_⟩
        rw [hM (clrB T i) (by omega) j (by omega) hs]
        exact Int32.add_comm _ _) hbn p2 we.symm (by
        intro j hj hs h
        have := p4 j hj hs
        dsimp only at this h we
        rw [h, we] at this
        exact Int32.lt_irrefl this)
      rw [show pv (some i) = nI i from rfl] at mb
      rw [mb, Option.bind_some]
      dsimp only
      rw [show nI s + 1 = nI (s + 1) from nI_plus s 1, ih (s + 1) (clrB T i) b g f (by omega) (by omega) (by omega) hbn p2 (by omega) (by omega), wlk, hq]
      rfl
