/-! E: THE LAW GOES THROUGH ALL THAT HAPPENED, minute by minute -/
def Cur (M wm c : Nat → Nat) (p x : Nat) : Prop := p ≤ 16 ∧ (∀ k, k < p → kyC M wm (c k) < x) ∧ ∀ k, p ≤ k → k < 16 → x ≤ kyC M wm (c k)
theorem cur_hit {M wm c : Nat → Nat} {x0 : Nat → Int32} (ho : OrdC 14 2 M wm c x0) {p x e : Nat} (h : Cur M wm c p x) (he : okC 14 2 e) (hx : kyC M wm e = x) : p < 16 ∧ c p = e ∧ Cur M wm c (p + 1) (x + 1) := by
  obtain ⟨h1, h2, h3⟩ := h
  obtain ⟨o1, o2, o3⟩ := ho
  obtain ⟨j, j1, j2⟩ := o3 e he
  have hj1 : p ≤ j := by
    rcases Nat.lt_or_ge j p with q | q
    · have := h2 j q
      rw [j2] at this
      omega
    · exact q
  have hj2 : j = p := by
    rcases Nat.lt_or_ge p j with q | q
    · have a1 := o2 p j q j1
      have a2 := h3 p (Nat.le_refl _) (by omega)
      rw [j2] at a1
      omega
    · omega
  subst hj2
  refine ⟨j1, j2, by omega, ?_, ?_⟩
  · intro k hk
    by_cases hkj : k = j
    · rw [hkj, j2]; omega
    · have := h2 k (by omega); omega
  · intro k hk1 hk2
    have := o2 j k (by omega) hk2
    rw [j2] at this
    omega
theorem cur_skip {M wm c : Nat → Nat} {x0 : Nat → Int32} (ho : OrdC 14 2 M wm c x0) {p x y : Nat} (h : Cur M wm c p x) (hxy : x ≤ y) (hn : ∀ e, okC 14 2 e → ¬ (x ≤ kyC M wm e ∧ kyC M wm e < y)) : Cur M wm c p y := by
  obtain ⟨h1, h2, h3⟩ := h
  refine ⟨h1, fun k hk => by have := h2 k hk; omega, fun k hk1 hk2 => ?_⟩
  have a1 := h3 k hk1 hk2
  have a2 := hn _ (ho.1 k hk2).2
  omega
theorem or1_b : ∀ v : Fin 4, (nI v.val ||| (1 : Int32)) = nI (set1 v.val) := by decide +kernel
theorem or3_b : ∀ v : Fin 4, (nI v.val ||| (3 : Int32)) = nI 3 := by decide +kernel
theorem and2_b : ∀ v : Fin 4, (nI v.val &&& (-2 : Int32)) = nI (clr1 v.val) := by decide +kernel
theorem odd_b : ∀ v : Fin 4, (nI v.val &&& 1 = 1) ↔ v.val % 2 = 1 := by decide +kernel
/-- goes, on a row of bits -/
def Row (n a : Nat) (w : Nat → Nat) (μ : am_Mu) : Prop := ∀ t, t < n → μ a t = nI (w t)
theorem row_up {n a b v : Nat} {w : Nat → Nat} {μ : am_Mu} (h : Row n a w μ) {x : Int32} (hx : x = nI v) : Row n a (updN w b v) (am_up μ a b x) := by
  intro t ht
  rw [up_at]
  unfold updN
  by_cases h1 : t = b
  · rw [if_pos h1, if_pos h1, hx]
  · rw [if_neg h1, if_neg h1]; exact h t ht
theorem goW {n K a : Nat} {b : Option Nat} {w : Nat → Nat} {μ : am_Mu} (hn : n ≤ 6) (hw : ∀ t, t < n → w t < 4) (h : Row n 115 w μ) (ha : a < n) (hd : (K < 2 ∧ ∃ b', b = some b' ∧ b' < n ∧ ¬ a = b') ∨ (K = 2 ∧ b = none)) : ∃ μ', fL_goesW (nI K) (nI a) (yI b) μ = some μ' ∧ (∀ r, ¬ r = 115 → μ' r = μ r) ∧ Row n 115 (goB K a b w) μ' := by
  have la := hw a ha
  rcases hd with ⟨hK, b', rfl, hb, hne⟩ | ⟨rfl, rfl⟩
  · have lb := hw b' hb
    have yb : yI (some b') = nI b' := rfl
    have more : ∀ (v : Fin 4), (nI v.val ||| (if K = 0 then (1 : Int32) else 3)) = nI (orM K v.val) := by
      intro v
      unfold orM
      by_cases hk : K = 0
      · rw [if_pos hk, if_pos hk]; exact or1_b v
      · rw [if_neg hk, if_neg hk]; exact or3_b v
    have e59 : ∀ (ν : am_Mu) (w' : Nat → Nat), Row n 115 w' ν → w' a = w a → fL_goesW_59 (nI a) (nI (w b')) (if K = 0 then 1 else 3) ν = some (if w b' % 2 = 1 then am_up ν 115 a (nI (orM K (w a))) else ν) := by
      intro ν w' hr hwa
      unfold fL_goesW_59
      by_cases hq : w b' % 2 = 1
      · rw [if_neg (by rw [(odd_b ⟨w b', lb⟩).mpr hq]; exact fun z => z rfl), inb_n (by omega) (by omega), cond_true, nI_clamp (by omega), hr a ha, hwa, more ⟨w a, la⟩, if_pos hq]
      · rw [if_pos (fun z => hq ((odd_b ⟨w b', lb⟩).mp z)), if_neg hq]
    have e41 : fL_goesW_41 (nI a) (nI b') (nI (w a)) (nI (w b')) (if K = 0 then 1 else 3) μ = some (if w b' % 2 = 1 then am_up (if w a % 2 = 1 then am_up μ 115 b' (nI (orM K (w b'))) else μ) 115 a (nI (orM K (w a))) else (if w a % 2 = 1 then am_up μ 115 b' (nI (orM K (w b'))) else μ)) := by
      unfold fL_goesW_41
      by_cases hq : w a % 2 = 1
      · rw [if_neg (by rw [(odd_b ⟨w a, la⟩).mpr hq]; exact fun z => z rfl), inb_n (by omega) (by omega), cond_true, nI_clamp (by omega), h b' hb, more ⟨w b', lb⟩]
        rw [e59 _ _ (row_up h rfl) (if_neg hne), if_pos hq]
      · rw [if_pos (fun z => hq ((odd_b ⟨w a, la⟩).mp z)), e59 _ _ h rfl, if_neg hq]
    have e16 : fL_goesW_16 (nI K) (nI a) (nI b') (nI (w a)) (nI (w b')) μ = fL_goesW_41 (nI a) (nI b') (nI (w a)) (nI (w b')) (if K = 0 then 1 else 3) μ := by
      unfold fL_goesW_16
      have k2 : ¬ nI K = 2 := fun z => by have := (nI_inj (b := 2) (by omega) (by omega)).mp z; omega
      rw [if_pos k2]
      by_cases hk : K = 0
      · rw [if_neg (by rw [hk]; exact fun z => z rfl), if_pos hk]
      · have k0 : ¬ nI K = 0 := fun z => hk ((nI_inj (b := 0) (by omega) (by omega)).mp z)
        rw [if_pos k0, if_neg hk]
    refine ⟨(if w b' % 2 = 1 then am_up (if w a % 2 = 1 then am_up μ 115 b' (nI (orM K (w b'))) else μ) 115 a (nI (orM K (w a))) else (if w a % 2 = 1 then am_up μ 115 b' (nI (orM K (w b'))) else μ)), ?_, ?_, ?_⟩
    · unfold fL_goesW
      rw [yb, inb_n (by omega) (by omega), cond_true, if_pos (nI_pos' (by omega)), inb_n (show b' < 6 by omega) (by omega), cond_true, nI_clamp (show a < 2 ^ 31 by omega), nI_clamp (show b' < 2 ^ 31 by omega), h a ha, h b' hb, e16, e41]
    · intro r hr
      split
      · rw [up_row hr]
        split
        · rw [up_row hr]
        · rfl
      · split
        · rw [up_row hr]
        · rfl
    · unfold goB
      dsimp only
      have s1 : Row n 115 (if w a % 2 = 1 then updN w b' (orM K (w b')) else w) (if w a % 2 = 1 then am_up μ 115 b' (nI (orM K (w b'))) else μ) := by
        split
        · exact row_up h rfl
        · exact h
      split
      · exact row_up s1 rfl
      · exact s1
  · refine ⟨am_up μ 115 a (nI (clr1 (w a))), ?_, fun r hr => up_row hr, ?_⟩
    · unfold fL_goesW fL_goesW_16
      rw [inb_n (show a < 6 by omega) (by omega), cond_true, show yI none = (-1 : Int32) from rfl, if_neg (show ¬ (0 : Int32) ≤ -1 by decide), if_neg (show ¬ ¬ nI 2 = 2 from fun z => z rfl), cond_true, nI_clamp (by omega), h a ha, and2_b ⟨w a, la⟩]
    · exact row_up h rfl
theorem goL {n K a : Nat} {b : Option Nat} {w : Nat → Nat} {μ : am_Mu} (hn : n ≤ 6) (hw : ∀ t, t < n → w t < 4) (h : Row n 116 w μ) (ha : a < n) (hd : (K < 2 ∧ ∃ b', b = some b' ∧ b' < n ∧ ¬ a = b') ∨ (K = 2 ∧ b = none)) : ∃ μ', fL_goesL (nI K) (nI a) (yI b) μ = some μ' ∧ (∀ r, ¬ r = 116 → μ' r = μ r) ∧ Row n 116 (goB K a b w) μ' := by
  have la := hw a ha
  rcases hd with ⟨hK, b', rfl, hb, hne⟩ | ⟨rfl, rfl⟩
  · have lb := hw b' hb
    have yb : yI (some b') = nI b' := rfl
    have more : ∀ (v : Fin 4), (nI v.val ||| (if K = 0 then (1 : Int32) else 3)) = nI (orM K v.val) := by
      intro v
      unfold orM
      by_cases hk : K = 0
      · rw [if_pos hk, if_pos hk]; exact or1_b v
      · rw [if_neg hk, if_neg hk]; exact or3_b v
    have e59 : ∀ (ν : am_Mu) (w' : Nat → Nat), Row n 116 w' ν → w' a = w a → fL_goesL_59 (nI a) (nI (w b')) (if K = 0 then 1 else 3) ν = some (if w b' % 2 = 1 then am_up ν 116 a (nI (orM K (w a))) else ν) := by
      intro ν w' hr hwa
      unfold fL_goesL_59
      by_cases hq : w b' % 2 = 1
      · rw [if_neg (by rw [(odd_b ⟨w b', lb⟩).mpr hq]; exact fun z => z rfl), inb_n (by omega) (by omega), cond_true, nI_clamp (by omega), hr a ha, hwa, more ⟨w a, la⟩, if_pos hq]
      · rw [if_pos (fun z => hq ((odd_b ⟨w b', lb⟩).mp z)), if_neg hq]
    have e41 : fL_goesL_41 (nI a) (nI b') (nI (w a)) (nI (w b')) (if K = 0 then 1 else 3) μ = some (if w b' % 2 = 1 then am_up (if w a % 2 = 1 then am_up μ 116 b' (nI (orM K (w b'))) else μ) 116 a (nI (orM K (w a))) else (if w a % 2 = 1 then am_up μ 116 b' (nI (orM K (w b'))) else μ)) := by
      unfold fL_goesL_41
      by_cases hq : w a % 2 = 1
      · rw [if_neg (by rw [(odd_b ⟨w a, la⟩).mpr hq]; exact fun z => z rfl), inb_n (by omega) (by omega), cond_true, nI_clamp (by omega), h b' hb, more ⟨w b', lb⟩]
        rw [e59 _ _ (row_up h rfl) (if_neg hne), if_pos hq]
      · rw [if_pos (fun z => hq ((odd_b ⟨w a, la⟩).mp z)), e59 _ _ h rfl, if_neg hq]
    have e16 : fL_goesL_16 (nI K) (nI a) (nI b') (nI (w a)) (nI (w b')) μ = fL_goesL_41 (nI a) (nI b') (nI (w a)) (nI (w b')) (if K = 0 then 1 else 3) μ := by
      unfold fL_goesL_16
      have k2 : ¬ nI K = 2 := fun z => by have := (nI_inj (b := 2) (by omega) (by omega)).mp z; omega
      rw [if_pos k2]
      by_cases hk : K = 0
      · rw [if_neg (by rw [hk]; exact fun z => z rfl), if_pos hk]
      · have k0 : ¬ nI K = 0 := fun z => hk ((nI_inj (b := 0) (by omega) (by omega)).mp z)
        rw [if_pos k0, if_neg hk]
    refine ⟨(if w b' % 2 = 1 then am_up (if w a % 2 = 1 then am_up μ 116 b' (nI (orM K (w b'))) else μ) 116 a (nI (orM K (w a))) else (if w a % 2 = 1 then am_up μ 116 b' (nI (orM K (w b'))) else μ)), ?_, ?_, ?_⟩
    · unfold fL_goesL
      rw [yb, inb_n (by omega) (by omega), cond_true, if_pos (nI_pos' (by omega)), inb_n (show b' < 6 by omega) (by omega), cond_true, nI_clamp (show a < 2 ^ 31 by omega), nI_clamp (show b' < 2 ^ 31 by omega), h a ha, h b' hb, e16, e41]
    · intro r hr
      split
      · rw [up_row hr]
        split
        · rw [up_row hr]
        · rfl
      · split
        · rw [up_row hr]
        · rfl
    · unfold goB
      dsimp only
      have s1 : Row n 116 (if w a % 2 = 1 then updN w b' (orM K (w b')) else w) (if w a % 2 = 1 then am_up μ 116 b' (nI (orM K (w b'))) else μ) := by
        split
        · exact row_up h rfl
        · exact h
      split
      · exact row_up s1 rfl
      · exact s1
  · refine ⟨am_up μ 116 a (nI (clr1 (w a))), ?_, fun r hr => up_row hr, ?_⟩
    · unfold fL_goesL fL_goesL_16
      rw [inb_n (show a < 6 by omega) (by omega), cond_true, show yI none = (-1 : Int32) from rfl, if_neg (show ¬ (0 : Int32) ≤ -1 by decide), if_neg (show ¬ ¬ nI 2 = 2 from fun z => z rfl), cond_true, nI_clamp (by omega), h a ha, and2_b ⟨w a, la⟩]
    · exact row_up h rfl
