/-! E: the tour, the reference: the length -/
theorem m_length {n : Nat} (hn : n ≤ 8) (hn1 : 1 ≤ n) {ν : am_Mu} (e88 : ν 108 88 = nI n) : fM_length ν = some (nvl (fun j => ν 174 (8 * (2 ^ n - 1) + j)) (nearB (fun j => ν 174 (8 * (2 ^ n - 1) + j)) (2 ^ n - 1) n), ν) := by
  have hT2 := p2_le hn
  have hpos : 0 < 2 ^ n := Nat.pow_pos (by decide)
  have least : ∀ a b μ, fM_least a b μ = some (if b ≤ a then b else a, μ) := by
    intro a b μ
    unfold fM_least
    split <;> rfl
  have eF : nI (2 ^ n) - 1 = nI (2 ^ n - 1) := by
    have : nI (2 ^ n) = nI (2 ^ n - 1) + nI 1 := by rw [nI_plus, Nat.sub_add_cancel hpos]
    rw [this]
    show nI (2 ^ n - 1) + 1 - 1 = _
    grind
  have key : ∀ q j f, j + q = n → 1 ≤ j → q < f → fM_length_21 f (nI (2 ^ n - 1)) (nvl (fun j => ν 174 (8 * (2 ^ n - 1) + j)) (nearB (fun j => ν 174 (8 * (2 ^ n - 1) + j)) (2 ^ n - 1) j)) (nI j) ν = some (nvl (fun j => ν 174 (8 * (2 ^ n - 1) + j)) (nearB (fun j => ν 174 (8 * (2 ^ n - 1) + j)) (2 ^ n - 1) n), ν) := by
    intro q
    induction q with
    | zero =>
      intro j f h1 h0 h2
      obtain ⟨f, rfl⟩ : ∃ k, f = k + 1 := ⟨f - 1, by omega⟩
      have e : j = n := by omega
      rw [fM_length_21, e88, e, if_pos (Int32.le_refl _)]
    | succ q ih =>
      intro j f h1 h0 h2
      obtain ⟨f, rfl⟩ : ∃ k, f = k + 1 := ⟨f - 1, by omega⟩
      have hlt : ¬ nI n ≤ nI j := by
        rw [nI_le_iff (by omega) (by omega)]
        omega
      have ej : nI j + 1 = nI (j + 1) := nI_plus j 1
      have eix : (8 : Int32) * nI (2 ^ n - 1) + nI j = nI (8 * (2 ^ n - 1) + j) := by
        show nI 8 * _ + nI j = _
        rw [nI_mul, nI_plus]
      have ih' := ih (j + 1) f (by omega) (by omega) (by omega)
      have hs := (full8 hn (show j < 8 by omega)).mpr (by omega)
      rw [fM_length_21, e88, if_neg hlt, eix, inb_n (by omega) (by omega), cond_true, nI_clamp (show 8 * (2 ^ n - 1) + j < 2 ^ 31 by omega), least, Option.bind_some, ej]
      dsimp only
      have np := near_p (fun j => ν 174 (8 * (2 ^ n - 1) + j)) (2 ^ n - 1) j
      rw [nearB] at ih'
      cases hq : nearB (fun j => ν 174 (8 * (2 ^ n - 1) + j)) (2 ^ n - 1) j with
      | none =>
        rw [hq] at np
        exact absurd ((full8 hn (show 0 < 8 by omega)).mpr (by omega)) (np 0 (by omega))
      | some b =>
        rw [hq] at ih'
        dsimp only at ih'
        by_cases c : ν 174 (8 * (2 ^ n - 1) + j) < ν 174 (8 * (2 ^ n - 1) + b)
        · rw [if_pos ⟨hs, c⟩] at ih'
          rw [if_pos (show _ ≤ nvl (fun j => ν 174 (8 * (2 ^ n - 1) + j)) (some b) from Int32.le_of_lt c)]
          exact ih'
        · rw [if_neg (fun h => c h.2)] at ih'
          have e : (if ν 174 (8 * (2 ^ n - 1) + j) ≤ nvl (fun j => ν 174 (8 * (2 ^ n - 1) + j)) (some b) then ν 174 (8 * (2 ^ n - 1) + j) else nvl (fun j => ν 174 (8 * (2 ^ n - 1) + j)) (some b)) = nvl (fun j => ν 174 (8 * (2 ^ n - 1) + j)) (some b) := by
            show (if ν 174 (8 * (2 ^ n - 1) + j) ≤ ν 174 (8 * (2 ^ n - 1) + b) then ν 174 (8 * (2 ^ n - 1) + j) else ν 174 (8 * (2 ^ n - 1) + b)) = ν 174 (8 * (2 ^ n - 1) + b)
            grind
          rw [e]
          exact ih'
  have k1 := key (n - 1) 1 am_F (by omega) (by omega) (by unfold am_F; omega)
  have hs0 := (full8 hn (show 0 < 8 by omega)).mpr (show 0 < n by omega)
  have n1 : nearB (fun j => ν 174 (8 * (2 ^ n - 1) + j)) (2 ^ n - 1) 1 = some 0 := by
    rw [nearB, nearB]
    exact if_pos hs0
  rw [n1] at k1
  have e8 : (8 : Int32) * nI (2 ^ n - 1) = nI (8 * (2 ^ n - 1)) := nI_mul 8 _
  unfold fM_length
  rw [e88, sh9 hn, eF, e8, inb_n (by omega) (by omega), cond_true, nI_clamp (show 8 * (2 ^ n - 1) < 2 ^ 31 by omega)]
  exact k1
