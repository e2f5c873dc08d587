/-! E: lots -/
def lfMx (x : Int32) : Int32 := if 0 < x then x else 0
def lfMn (a b : Int32) : Int32 := if a < b then a else b
def lfA (A : Nat → Int32) (f t : Nat) (u : Int32) : Nat → Int32 := fun k => if k = t then A t + u else if k = f then A f - u else A k
def lfLo (A lo : Nat → Int32) (f t : Nat) (u w : Int32) : Nat → Int32 := fun k => if k = f then lfMx (lo f - u) else if k = t then lo t + (if w = 0 then 0 else lfMx (u - (A f - lo f))) else lo k
def lfHi (A hi : Nat → Int32) (f t : Nat) (u w : Int32) : Nat → Int32 := fun k => if k = f then lfMn (A f - u) (hi f) else if k = t then hi t + (if w = 0 then 0 else lfMn (hi f) u) else hi k
def Rows3 (b : Nat) (ν : am_Mu) (A lo hi : Nat → Int32) : Prop := ∀ k, k < 8 → ν b k = A k ∧ ν (b + 1) k = lo k ∧ ν (b + 2) k = hi k
def FrX (ν μ : am_Mu) : Prop := ∀ a, ¬ a = 94 → ¬ a = 95 → ¬ a = 96 → ν a = μ a
def FrM (ν μ : am_Mu) : Prop := (∀ a, ¬ a = 164 → ¬ a = 165 → ¬ a = 166 → ¬ a = 108 → ν a = μ a) ∧ ∀ j, ¬ j = 80 → ν 108 j = μ 108 j
theorem FrX.trans {a b c : am_Mu} (h1 : FrX a b) (h2 : FrX b c) : FrX a c := fun x h3 h4 h5 => (h1 x h3 h4 h5).trans (h2 x h3 h4 h5)
theorem FrM.trans {a b c : am_Mu} (h1 : FrM a b) (h2 : FrM b c) : FrM a c := ⟨fun x h3 h4 h5 h6 => (h1.1 x h3 h4 h5 h6).trans (h2.1 x h3 h4 h5 h6), fun j h => (h1.2 j h).trans (h2.2 j h)⟩
theorem x_pg87 {f t : Nat} (hf : f < 8) (ht : t < 8) (hne : ¬ f = t) {u : Int32} {ν : am_Mu} {A lo hi : Nat → Int32} (hr : Rows3 94 ν A lo hi) : ∃ ν', fLots_passGood_87 (nI f) (nI t) u ν = some ν' ∧ FrX ν' ν ∧ Rows3 94 ν' (lfA A f t u) (lfLo A lo f t u 0) (lfHi A hi f t u 0) := by
  unfold fLots_passGood_87
  rw [inb_n hf (by omega), inb_n ht (by omega), cond_true, cond_true, nI_clamp (by omega), nI_clamp (by omega)]
  refine ⟨_, rfl, ?_, ?_⟩
  · intro a h1 h2 h3
    funext j
    simp only [upa]
    grind
  · intro k hk
    obtain ⟨r1, r2, r3⟩ := hr k hk
    obtain ⟨f1, f2, f3⟩ := hr f hf
    obtain ⟨t1, t2, t3⟩ := hr t ht
    simp only [Nat.reduceAdd] at r2 r3 f2 f3 t2 t3
    simp only [upa, lfA, lfLo, lfHi, lfMx, lfMn]
    grind
theorem x_pg {p f t : Nat} (hp : p < 100) (hf : f < 8) (ht : t < 8) (hne : ¬ f = t) {w u b : Int32} {ν : am_Mu} {A lo hi : Nat → Int32} (e1 : ν 90 p = nI f) (e2 : ν 91 p = nI t) (e3 : ν 92 p = u) (e4 : ν 93 p = b) (hr : Rows3 94 ν A lo hi) : ∃ ν', fLots_passGood (nI p) w ν = some ν' ∧ FrX ν' ν ∧ Rows3 94 ν' (lfA A f t u) (lfLo A lo f t u (if b = 0 then 0 else w)) (lfHi A hi f t u (if b = 0 then 0 else w)) := by
  unfold fLots_passGood
  rw [inb_n hp (by omega), cond_true, nI_clamp (by omega), e1, e2, e3, e4]
  by_cases hb : b = 0
  · rw [if_pos hb, if_pos hb]
    exact x_pg87 hf ht hne hr
  · rw [if_neg hb, if_neg hb]
    by_cases hw : w = 0
    · subst hw
      rw [if_pos rfl]
      exact x_pg87 hf ht hne hr
    · rw [if_neg hw, inb_n hf (by omega), inb_n ht (by omega), cond_true, cond_true, nI_clamp (show f < 2 ^ 31 by omega), nI_clamp (show t < 2 ^ 31 by omega)]
      obtain ⟨f1, f2, f3⟩ := hr f hf
      obtain ⟨t1, t2, t3⟩ := hr t ht
      simp only [Nat.reduceAdd] at f2 f3 t2 t3
      obtain ⟨ν', g1, g2, g3⟩ := x_pg87 (u := u) (ν := am_up (am_up ν 95 t (ν 95 t + lfMx (u - (ν 94 f - ν 95 f)))) 96 t (ν 96 t + lfMn (ν 96 f) u)) (A := A) (lo := fun k => if k = t then lo t + lfMx (u - (A f - lo f)) else lo k) (hi := fun k => if k = t then hi t + lfMn (hi f) u else hi k) hf ht hne (by
        intro k hk
        obtain ⟨r1, r2, r3⟩ := hr k hk
        simp only [Nat.reduceAdd] at r2 r3
        simp only [upa]
        grind)
      refine ⟨ν', ?_, ?_, ?_⟩
      · rw [← g1]
        congr 1
      · refine g2.trans ?_
        intro a h1 h2 h3
        funext j
        simp only [upa]
        grind
      · intro k hk
        obtain ⟨r1, r2, r3⟩ := g3 k hk
        rw [r1, r2, r3]
        simp only [lfA, lfLo, lfHi]
        grind
theorem m_pg {f t : Nat} (hf : f < 8) (ht : t < 8) (hne : ¬ f = t) {u w : Int32} {ν : am_Mu} {A lo hi : Nat → Int32} (hr : Rows3 164 ν A lo hi) : ∃ ν', fM_passes (nI f) (nI t) u w ν = some ν' ∧ FrM ν' ν ∧ Rows3 164 ν' (lfA A f t u) (lfLo A lo f t u w) (lfHi A hi f t u w) ∧ ν' 108 80 = ν 108 80 ||| ((1 : Int32) <<< (nI t &&& 31)) := by
  have most : ∀ a b μ, fM_most a b μ = some (if a ≤ b then b else a, μ) := by
    intro a b μ
    unfold fM_most
    split <;> rfl
  have least : ∀ a b μ, fM_least a b μ = some (if b ≤ a then b else a, μ) := by
    intro a b μ
    unfold fM_least
    split <;> rfl
  unfold fM_passes
  simp only [inb_n hf (show 8 < 2 ^ 31 by omega), inb_n ht (show 8 < 2 ^ 31 by omega), cond_true, nI_clamp (show f < 2 ^ 31 by omega), nI_clamp (show t < 2 ^ 31 by omega), most, least, Option.bind_some, fM_passes_114, fM_passes_134]
  obtain ⟨f1, f2, f3⟩ := hr f hf
  obtain ⟨t1, t2, t3⟩ := hr t ht
  simp only [Nat.reduceAdd] at f2 f3 t2 t3
  by_cases hw : w = 0
  · simp only [if_pos hw]
    refine ⟨_, rfl, ⟨?_, ?_⟩, ?_, ?_⟩
    · intro a h1 h2 h3 h4
      funext j
      simp only [upa]
      grind
    · intro j hj
      simp only [upa]
      grind
    · intro k hk
      obtain ⟨r1, r2, r3⟩ := hr k hk
      simp only [Nat.reduceAdd] at r2 r3
      simp only [upa, lfA, lfLo, lfHi, lfMx, lfMn]
      grind
    · simp only [upa]
      grind
  · simp only [if_neg hw]
    refine ⟨_, rfl, ⟨?_, ?_⟩, ?_, ?_⟩
    · intro a h1 h2 h3 h4
      funext j
      simp only [upa]
      grind
    · intro j hj
      simp only [upa]
      grind
    · intro k hk
      obtain ⟨r1, r2, r3⟩ := hr k hk
      simp only [Nat.reduceAdd] at r2 r3
      simp only [upa, lfA, lfLo, lfHi, lfMx, lfMn]
      grind
    · simp only [upa]
      grind
/-! whom a school trusts; the loops over the passes -/
def trw (μ : am_Mu) (s k : Nat) : Int32 := μ 81 (8 * s + (μ 78 k).toNatClampNeg)
def lfG (μ : am_Mu) (l s : Nat) : Nat → (Nat → Int32) × (Nat → Int32)
  | 0 => (fun k => if k = (μ 85 l).toNatClampNeg then (if trw μ s (μ 85 l).toNatClampNeg = 0 then 0 else μ 86 l) else 0, fun k => if k = (μ 85 l).toNatClampNeg then (if trw μ s (μ 85 l).toNatClampNeg = 0 then 0 else μ 86 l) else 0)
  | n + 1 => if μ 89 n = nI l then (lfLo (ltThere μ l n) (lfG μ l s n).1 (μ 90 n).toNatClampNeg (μ 91 n).toNatClampNeg (μ 92 n) (if μ 93 n = 0 then 0 else trw μ s (μ 90 n).toNatClampNeg), lfHi (ltThere μ l n) (lfG μ l s n).2 (μ 90 n).toNatClampNeg (μ 91 n).toNatClampNeg (μ 92 n) (if μ 93 n = 0 then 0 else trw μ s (μ 90 n).toNatClampNeg)) else lfG μ l s n
theorem tr_ix {μ : am_Mu} (g5 : G5 μ) {s k : Nat} (hs : s < 2) (hk : k < 8) : nI s * 8 + μ 78 k = nI (8 * s + (μ 78 k).toNatClampNeg) ∧ 8 * s + (μ 78 k).toNatClampNeg < 16 ∧ μ 153 k = μ 78 k ∧ μ 156 (8 * s + (μ 78 k).toNatClampNeg) = trw μ s k ∧ (trw μ s k = 0 ∨ trw μ s k = 1) := by
  obtain ⟨-, -, -, h4, h5⟩ := g5
  obtain ⟨-, ⟨e1, e2, e3⟩, -⟩ := h4 k hk
  have b : (μ 78 k).toNatClampNeg < 8 := nt_lt (b := 8) e2 e3
  have hix : 8 * s + (μ 78 k).toNatClampNeg < 16 := by omega
  refine ⟨?_, hix, e1, (h5 _ hix).1, (h5 _ hix).2⟩
  show nI s * nI 8 + _ = _
  rw [nI_mul, ← nI_plus, nI_nt e2, Nat.mul_comm]
theorem l_isTr {μ ν : am_Mu} (g5 : G5 μ) (e78 : ν 78 = μ 78) (e81 : ν 81 = μ 81) {s k : Nat} (hs : s < 2) (hk : k < 8) : fKitchens_isTrusted (nI s) (nI k) ν = some (trw μ s k, ν) := by
  obtain ⟨h1, h2, h3, h4, h5⟩ := tr_ix g5 hs hk
  unfold fKitchens_isTrusted
  rw [inb_n hk (by omega), cond_true, nI_clamp (show k < 2 ^ 31 by omega), e78, e81, h1, inb_n h2 (by omega), cond_true, nI_clamp (by omega)]
  show (if trw μ s k &&& 1 = trw μ s k then some (trw μ s k, ν) else none) = _
  rw [if_pos (and1_01 _ h5)]
theorem ltA {μ : am_Mu} {l n : Nat} (h : μ 89 n = nI l) : ltThere μ l (n + 1) = lfA (ltThere μ l n) (μ 90 n).toNatClampNeg (μ 91 n).toNatClampNeg (μ 92 n) := by
  funext k
  simp only [ltThere, lfA, if_pos h]
  grind
theorem x_loop {μ : am_Mu} (g5 : G5 μ) (g6 : G6 μ) {l s : Nat} (hs : s < 2) : ∀ q p n (ν : am_Mu), p + q = (μ 84 14).toNatClampNeg → q < n → FrX ν μ → Rows3 94 ν (ltThere μ l p) (lfG μ l s p).1 (lfG μ l s p).2 → ∃ ν', fLots_seeGood_93 n (nI s) (nI l) (nI p) ν = some ν' ∧ FrX ν' μ ∧ Rows3 94 ν' (ltThere μ l (μ 84 14).toNatClampNeg) (lfG μ l s (μ 84 14).toNatClampNeg).1 (lfG μ l s (μ 84 14).toNatClampNeg).2 := by
  obtain ⟨-, ⟨n1, n2, -, hp⟩, -⟩ := g6
  have n3 : (μ 84 14).toNatClampNeg ≤ 100 := nt_le (b := 100) n1 n2
  intro q
  induction q with
  | zero =>
    intro p n ν h1 h2 h3 h4
    obtain ⟨n, rfl⟩ : ∃ k, n = k + 1 := ⟨n - 1, by omega⟩
    refine ⟨ν, ?_, h3, ?_⟩
    · have e : p = (μ 84 14).toNatClampNeg := by omega
      rw [fLots_seeGood_93, h3 84 (by decide) (by decide) (by decide), e, nI_nt n1, if_pos (Int32.le_refl _)]
    · rw [← h1]
      exact h4
  | succ q ih =>
    intro p n ν h1 h2 h3 h4
    obtain ⟨n, rfl⟩ : ∃ k, n = k + 1 := ⟨n - 1, by omega⟩
    obtain ⟨⟨-, p1, p2⟩, ⟨-, f1, f2⟩, ⟨-, t1, t2, ne⟩, -, -⟩ := hp p (by omega)
    have hlt : ¬ μ 84 14 ≤ nI p := by
      have := (nI_lt_iff (a := p) (b := (μ 84 14).toNatClampNeg) (by omega) (by omega)).mpr (by omega)
      rw [nI_nt n1] at this
      exact Int32.not_le.mpr this
    have enx : nI p + 1 = nI (p + 1) := nI_plus p 1
    rw [fLots_seeGood_93, h3 84 (by decide) (by decide) (by decide), if_neg hlt, inb_n (by omega) (by omega), cond_true, nI_clamp (show p < 2 ^ 31 by omega), h3 89 (by decide) (by decide) (by decide), h3 90 (by decide) (by decide) (by decide)]
    by_cases hl : μ 89 p = nI l
    · rw [if_neg (by simpa using hl)]
      have bf : (μ 90 p).toNatClampNeg < 8 := nt_lt (b := 8) f1 f2
      have bt : (μ 91 p).toNatClampNeg < 8 := nt_lt (b := 8) t1 t2
      have hne : ¬ (μ 90 p).toNatClampNeg = (μ 91 p).toNatClampNeg := fun h => ne (nt_inj f1 t1 h)
      have ht := l_isTr g5 (h3 78 (by decide) (by decide) (by decide)) (h3 81 (by decide) (by decide) (by decide)) hs bf
      rw [nI_nt f1] at ht
      rw [ht, Option.bind_some]
      dsimp only
      obtain ⟨ν', w1, w2, w3⟩ := x_pg (p := p) (w := trw μ s (μ 90 p).toNatClampNeg) (by omega) bf bt hne (by rw [h3 90 (by decide) (by decide) (by decide), nI_nt f1]) (by rw [h3 91 (by decide) (by decide) (by decide), nI_nt t1]) (show ν 92 p = μ 92 p by rw [h3 92 (by decide) (by decide) (by decide)]) (show ν 93 p = μ 93 p by rw [h3 93 (by decide) (by decide) (by decide)]) h4
      rw [w1, Option.bind_some]
      unfold fLots_seeGood_134
      rw [enx]
      refine ih (p + 1) n ν' (by omega) (by omega) (w2.trans h3) ?_
      rw [ltA hl, lfG, if_pos hl]
      exact w3
    · rw [if_pos hl]
      unfold fLots_seeGood_134
      rw [enx]
      refine ih (p + 1) n ν (by omega) (by omega) h3 ?_
      have e1 : ltThere μ l (p + 1) = ltThere μ l p := by
        funext k
        simp only [ltThere, if_neg hl]
      rw [e1, lfG, if_neg hl]
      exact h4
/-- the reference's rows of two memories are alike -/
def MB (β μ : am_Mu) : Prop := β 108 9 = μ 108 9 ∧ β 153 = μ 153 ∧ β 156 = μ 156 ∧ β 157 = μ 157 ∧ β 158 = μ 158 ∧ β 159 = μ 159 ∧ β 160 = μ 160 ∧ β 161 = μ 161 ∧ β 162 = μ 162 ∧ β 163 = μ 163
theorem m_loop {μ β : am_Mu} (hb : MB β μ) (g5 : G5 μ) (g6 : G6 μ) {l s : Nat} (hs : s < 2) : ∀ q p n (ν : am_Mu), p + q = (μ 84 14).toNatClampNeg → q < n → FrM ν β → Rows3 164 ν (ltThere μ l p) (lfG μ l s p).1 (lfG μ l s p).2 → ν 108 80 = ltEver μ l p → ∃ ν', fM_follows_115 n (nI l) (nI s) (nI p) ν = some ν' ∧ FrM ν' β ∧ Rows3 164 ν' (ltThere μ l (μ 84 14).toNatClampNeg) (lfG μ l s (μ 84 14).toNatClampNeg).1 (lfG μ l s (μ 84 14).toNatClampNeg).2 ∧ ν' 108 80 = ltEver μ l (μ 84 14).toNatClampNeg := by
  obtain ⟨-, ⟨n1, n2, n0, hp⟩, -⟩ := g6
  obtain ⟨b9, b153, b156, b157, b158, b159, b160, b161, b162, b163⟩ := hb
  have n3 : (μ 84 14).toNatClampNeg ≤ 100 := nt_le (b := 100) n1 n2
  intro q
  induction q with
  | zero =>
    intro p n ν h1 h2 h3 h4 h5
    obtain ⟨n, rfl⟩ : ∃ k, n = k + 1 := ⟨n - 1, by omega⟩
    refine ⟨ν, ?_, h3, ?_, ?_⟩
    · have e : p = (μ 84 14).toNatClampNeg := by omega
      rw [fM_follows_115, h3.2 9 (by decide), b9, n0, e, nI_nt n1, if_pos (Int32.le_refl _)]
    · rw [← h1]
      exact h4
    · rw [← h1]
      exact h5
  | succ q ih =>
    intro p n ν h1 h2 h3 h4 h5
    obtain ⟨n, rfl⟩ : ∃ k, n = k + 1 := ⟨n - 1, by omega⟩
    obtain ⟨⟨q1, p1, p2⟩, ⟨q2, f1, f2⟩, ⟨q3, t1, t2, ne⟩, q4, q5, -⟩ := hp p (by omega)
    have hlt : ¬ μ 84 14 ≤ nI p := by
      have := (nI_lt_iff (a := p) (b := (μ 84 14).toNatClampNeg) (by omega) (by omega)).mpr (by omega)
      rw [nI_nt n1] at this
      exact Int32.not_le.mpr this
    have enx : nI p + 1 = nI (p + 1) := nI_plus p 1
    rw [fM_follows_115, h3.2 9 (by decide), b9, n0, if_neg hlt, inb_n (by omega) (by omega), cond_true, nI_clamp (show p < 2 ^ 31 by omega), h3.1 159 (by decide) (by decide) (by decide) (by decide), h3.1 160 (by decide) (by decide) (by decide) (by decide), h3.1 161 (by decide) (by decide) (by decide) (by decide), h3.1 162 (by decide) (by decide) (by decide) (by decide), h3.1 163 (by decide) (by decide) (by decide) (by decide), h3.1 153 (by decide) (by decide) (by decide) (by decide), h3.1 156 (by decide) (by decide) (by decide) (by decide), b159, b160, b161, b162, b163, b153, b156, q1, q2, q3, q4, q5]
    by_cases hl : μ 89 p = nI l
    · rw [if_neg (by simpa using hl)]
      have bf : (μ 90 p).toNatClampNeg < 8 := nt_lt (b := 8) f1 f2
      have bt : (μ 91 p).toNatClampNeg < 8 := nt_lt (b := 8) t1 t2
      have hne : ¬ (μ 90 p).toNatClampNeg = (μ 91 p).toNatClampNeg := fun h => ne (nt_inj f1 t1 h)
      obtain ⟨i1, i2, i3, i4, i5⟩ := tr_ix g5 hs bf
      have key : ∀ w, (w = if μ 93 p = 0 then 0 else trw μ s (μ 90 p).toNatClampNeg) → ∃ ν', fM_follows_197 (fM_follows_115 n) (nI l) (nI s) (nI p) (μ 90 p) (μ 91 p) (μ 92 p) w ν = some ν' ∧ FrM ν' β ∧ Rows3 164 ν' (ltThere μ l (μ 84 14).toNatClampNeg) (lfG μ l s (μ 84 14).toNatClampNeg).1 (lfG μ l s (μ 84 14).toNatClampNeg).2 ∧ ν' 108 80 = ltEver μ l (μ 84 14).toNatClampNeg := by
        intro w hw
        obtain ⟨ν', w1, w2, w3, w4⟩ := m_pg (u := μ 92 p) (w := w) bf bt hne h4
        rw [nI_nt f1, nI_nt t1] at w1
        rw [nI_nt t1] at w4
        unfold fM_follows_197 fM_follows_200
        rw [w1, Option.bind_some, enx]
        refine ih (p + 1) n ν' (by omega) (by omega) (w2.trans h3) ?_ ?_
        · rw [ltA hl, lfG, if_pos hl, ← hw]
          exact w3
        · rw [w4, h5]
          simp only [ltEver, if_pos hl]
      by_cases h93 : μ 93 p = 0
      · rw [if_pos h93]
        unfold fM_follows_196
        exact key 0 (by rw [if_pos h93])
      · rw [if_neg h93, inb_t f1 bf, cond_true, i3, show (8 : Int32) * nI s = nI s * 8 from Int32.mul_comm _ _, i1, inb_n i2 (by omega), cond_true, nI_clamp (show 8 * s + (μ 78 (μ 90 p).toNatClampNeg).toNatClampNeg < 2 ^ 31 by omega), i4]
        by_cases htr : trw μ s (μ 90 p).toNatClampNeg = 0
        · rw [if_pos htr]
          unfold fM_follows_196
          exact key 0 (by rw [if_neg h93, htr])
        · rw [if_neg htr]
          exact key 1 (by rw [if_neg h93]; grind)
    · rw [if_pos hl]
      unfold fM_follows_200
      rw [enx]
      refine ih (p + 1) n ν (by omega) (by omega) h3 ?_ ?_
      · have e1 : ltThere μ l (p + 1) = ltThere μ l p := by
          funext k
          simp only [ltThere, if_neg hl]
        rw [e1, lfG, if_neg hl]
        exact h4
      · rw [h5]
        simp only [ltEver, if_neg hl]
/-! the rows cleared, the start -/
theorem x_zero {μ : am_Mu} {l s : Int32} : ∀ q k n (ν : am_Mu), k + q = 8 → q < n → FrX ν μ → (∀ j, j < k → ν 94 j = 0 ∧ ν 95 j = 0 ∧ ν 96 j = 0) → ∃ ν', fLots_seeGood_2 n s l (nI k) ν = fLots_seeGood_35 s l ν' ∧ FrX ν' μ ∧ Rows3 94 ν' (fun _ => 0) (fun _ => 0) (fun _ => 0) := by
  intro q
  induction q with
  | zero =>
    intro k n ν h1 h2 h3 h4
    obtain ⟨n, rfl⟩ : ∃ k, n = k + 1 := ⟨n - 1, by omega⟩
    have e : k = 8 := by omega
    subst e
    refine ⟨ν, ?_, h3, fun j hj => h4 j hj⟩
    rw [fLots_seeGood_2, if_pos (by decide)]
  | succ q ih =>
    intro k n ν h1 h2 h3 h4
    obtain ⟨n, rfl⟩ : ∃ k, n = k + 1 := ⟨n - 1, by omega⟩
    have hlt : ¬ (8 : Int32) ≤ nI k := by
      have := (nI_lt_iff (a := k) (b := 8) (by omega) (by omega)).mpr (by omega)
      exact Int32.not_le.mpr this
    rw [fLots_seeGood_2, if_neg hlt, inb_n (by omega) (by omega), cond_true, nI_clamp (show k < 2 ^ 31 by omega), show nI k + 1 = nI (k + 1) from nI_plus k 1]
    refine ih (k + 1) n _ (by omega) (by omega) ?_ ?_
    · refine FrX.trans ?_ h3
      intro a h1 h2 h3
      funext j
      simp only [upa]
      grind
    · intro j hj
      have := fun h => h4 j h
      simp only [upa]
      grind
theorem m_zero {μ : am_Mu} {l s : Int32} : ∀ q k n (ν : am_Mu), k + q = 8 → q < n → FrM ν μ → (∀ j, j < k → ν 164 j = 0 ∧ ν 165 j = 0 ∧ ν 166 j = 0) → ∃ ν', fM_follows_2 n l s (nI k) ν = fM_follows_35 l s ν' ∧ FrM ν' μ ∧ Rows3 164 ν' (fun _ => 0) (fun _ => 0) (fun _ => 0) := by
  intro q
  induction q with
  | zero =>
    intro k n ν h1 h2 h3 h4
    obtain ⟨n, rfl⟩ : ∃ k, n = k + 1 := ⟨n - 1, by omega⟩
    have e : k = 8 := by omega
    subst e
    refine ⟨ν, ?_, h3, fun j hj => h4 j hj⟩
    rw [fM_follows_2, if_pos (by decide)]
  | succ q ih =>
    intro k n ν h1 h2 h3 h4
    obtain ⟨n, rfl⟩ : ∃ k, n = k + 1 := ⟨n - 1, by omega⟩
    have hlt : ¬ (8 : Int32) ≤ nI k := by
      have := (nI_lt_iff (a := k) (b := 8) (by omega) (by omega)).mpr (by omega)
      exact Int32.not_le.mpr this
    rw [fM_follows_2, if_neg hlt, inb_n (by omega) (by omega), cond_true, nI_clamp (show k < 2 ^ 31 by omega), show nI k + 1 = nI (k + 1) from nI_plus k 1]
    refine ih (k + 1) n _ (by omega) (by omega) ?_ ?_
    · refine FrM.trans ⟨?_, ?_⟩ h3
      · intro a h1 h2 h3 h4
        funext j
        simp only [upa]
        grind
      · intro j hj
        simp only [upa]
        grind
    · intro j hj
      have := fun h => h4 j h
      simp only [upa]
      grind
theorem x_seeGood {μ : am_Mu} (g5 : G5 μ) (g6 : G6 μ) {l s : Nat} (hs : s < 2) (hl : l < (μ 84 13).toNatClampNeg) : ∃ ν', fLots_seeGood (nI s) (nI l) μ = some ν' ∧ FrX ν' μ ∧ Rows3 94 ν' (ltThere μ l (μ 84 14).toNatClampNeg) (lfG μ l s (μ 84 14).toNatClampNeg).1 (lfG μ l s (μ 84 14).toNatClampNeg).2 := by
  have g6' := g6
  obtain ⟨⟨n1, n2, -, hlt⟩, ⟨m1, m2, -⟩, -⟩ := g6
  have n3 : (μ 84 13).toNatClampNeg ≤ 10 := nt_le (b := 10) n1 n2
  have m3 : (μ 84 14).toNatClampNeg ≤ 100 := nt_le (b := 100) m1 m2
  obtain ⟨⟨-, k1, k2⟩, -⟩ := hlt l hl
  have bk : (μ 85 l).toNatClampNeg < 8 := nt_lt (b := 8) k1 k2
  obtain ⟨ν, e1, e2, e3⟩ := x_zero (μ := μ) (l := nI l) (s := nI s) 8 0 am_F μ rfl (by decide) (fun _ _ _ _ => rfl) (fun j hj => absurd hj (by omega))
  unfold fLots_seeGood
  show ∃ ν', fLots_seeGood_2 am_F (nI s) (nI l) (nI 0) μ = some ν' ∧ _
  rw [e1]
  unfold fLots_seeGood_35
  rw [inb_n (show l < 10 by omega) (by omega), cond_true, nI_clamp (show l < 2 ^ 31 by omega), e2 85 (by decide) (by decide) (by decide), e2 86 (by decide) (by decide) (by decide), inb_t k1 bk, cond_true]
  have fr1 : FrX (am_up ν 94 (μ 85 l).toNatClampNeg (μ 86 l)) μ := by
    refine FrX.trans ?_ e2
    intro a h1 h2 h3
    funext j
    simp only [upa]
    grind
  have ht := l_isTr g5 (fr1 78 (by decide) (by decide) (by decide)) (fr1 81 (by decide) (by decide) (by decide)) hs bk
  rw [nI_nt k1] at ht
  rw [ht, Option.bind_some]
  dsimp only
  unfold fLots_seeGood_90
  rw [fr1 86 (by decide) (by decide) (by decide)]
  by_cases h0 : trw μ s (μ 85 l).toNatClampNeg = 0
  · rw [if_pos h0]
    refine x_loop g5 g6' hs (μ 84 14).toNatClampNeg 0 am_F _ (by omega) (by unfold am_F; omega) fr1 ?_
    intro k hk
    obtain ⟨r1, r2, r3⟩ := e3 k hk
    simp only [Nat.reduceAdd] at r2 r3
    simp only [upa, ltThere, lfG]
    grind
  · rw [if_neg h0]
    refine x_loop g5 g6' hs (μ 84 14).toNatClampNeg 0 am_F _ (by omega) (by unfold am_F; omega) (FrX.trans ?_ fr1) ?_
    · intro a h1 h2 h3
      funext j
      simp only [upa]
      grind
    · intro k hk
      obtain ⟨r1, r2, r3⟩ := e3 k hk
      simp only [Nat.reduceAdd] at r2 r3
      simp only [upa, ltThere, lfG]
      grind
theorem m_followsB {μ β : am_Mu} (hb : MB β μ) (g5 : G5 μ) (g6 : G6 μ) {l s : Nat} (hs : s < 2) (hl : l < (μ 84 13).toNatClampNeg) : ∃ ν', fM_follows (nI l) (nI s) β = some ν' ∧ FrM ν' β ∧ Rows3 164 ν' (ltThere μ l (μ 84 14).toNatClampNeg) (lfG μ l s (μ 84 14).toNatClampNeg).1 (lfG μ l s (μ 84 14).toNatClampNeg).2 ∧ ν' 108 80 = ltEver μ l (μ 84 14).toNatClampNeg := by
  have g6' := g6
  have hb' := hb
  obtain ⟨b9, b153, b156, b157, b158, b159, b160, b161, b162, b163⟩ := hb
  obtain ⟨⟨n1, n2, -, hlt⟩, ⟨m1, m2, -⟩, -⟩ := g6
  have n3 : (μ 84 13).toNatClampNeg ≤ 10 := nt_le (b := 10) n1 n2
  have m3 : (μ 84 14).toNatClampNeg ≤ 100 := nt_le (b := 100) m1 m2
  obtain ⟨⟨q1, k1, k2⟩, q2⟩ := hlt l hl
  have bk : (μ 85 l).toNatClampNeg < 8 := nt_lt (b := 8) k1 k2
  obtain ⟨ν, e1, e2, e3⟩ := m_zero (μ := β) (l := nI l) (s := nI s) 8 0 am_F β rfl (by decide) ⟨fun _ _ _ _ _ => rfl, fun _ _ => rfl⟩ (fun j hj => absurd hj (by omega))
  obtain ⟨i1, i2, i3, i4, i5⟩ := tr_ix g5 hs bk
  unfold fM_follows
  show ∃ ν', fM_follows_2 am_F (nI l) (nI s) (nI 0) β = some ν' ∧ _
  rw [e1]
  unfold fM_follows_35
  rw [inb_n (show l < 10 by omega) (by omega), cond_true, nI_clamp (show l < 2 ^ 31 by omega), e2.1 157 (by decide) (by decide) (by decide) (by decide), e2.1 158 (by decide) (by decide) (by decide) (by decide), e2.1 153 (by decide) (by decide) (by decide) (by decide), e2.1 156 (by decide) (by decide) (by decide) (by decide), b157, b158, b153, b156, q1, q2, inb_t k1 bk, cond_true, i3, show (8 : Int32) * nI s = nI s * 8 from Int32.mul_comm _ _, i1, inb_n i2 (by omega), cond_true, nI_clamp (show 8 * s + (μ 78 (μ 85 l).toNatClampNeg).toNatClampNeg < 2 ^ 31 by omega), i4]
  have key : ∀ w, w = (if trw μ s (μ 85 l).toNatClampNeg = 0 then 0 else μ 86 l) → ∃ ν', fM_follows_92 (nI l) (nI s) (μ 85 l) (μ 85 l) w (am_up ν 164 (μ 85 l).toNatClampNeg (μ 86 l)) = some ν' ∧ FrM ν' β ∧ Rows3 164 ν' (ltThere μ l (μ 84 14).toNatClampNeg) (lfG μ l s (μ 84 14).toNatClampNeg).1 (lfG μ l s (μ 84 14).toNatClampNeg).2 ∧ ν' 108 80 = ltEver μ l (μ 84 14).toNatClampNeg := by
    intro w hw
    unfold fM_follows_92
    rw [inb_t k1 bk, cond_true, cond_true]
    refine m_loop hb' g5 g6' hs (μ 84 14).toNatClampNeg 0 am_F _ (by omega) (by unfold am_F; omega) (FrM.trans ⟨?_, ?_⟩ e2) ?_ ?_
    · intro a h1 h2 h3 h4
      funext j
      simp only [upa]
      grind
    · intro j hj
      simp only [upa]
      grind
    · intro k hk
      obtain ⟨r1, r2, r3⟩ := e3 k hk
      simp only [Nat.reduceAdd] at r2 r3
      simp only [upa, ltThere, lfG]
      grind
    · simp only [upa, ltEver]
      grind
  by_cases h0 : trw μ s (μ 85 l).toNatClampNeg = 0
  · rw [if_pos h0]
    exact key 0 (by rw [if_pos h0])
  · rw [if_neg h0]
    exact key _ (by rw [if_neg h0])
theorem m_follows {μ : am_Mu} (g5 : G5 μ) (g6 : G6 μ) {l s : Nat} (hs : s < 2) (hl : l < (μ 84 13).toNatClampNeg) : ∃ ν', fM_follows (nI l) (nI s) μ = some ν' ∧ FrM ν' μ ∧ Rows3 164 ν' (ltThere μ l (μ 84 14).toNatClampNeg) (lfG μ l s (μ 84 14).toNatClampNeg).1 (lfG μ l s (μ 84 14).toNatClampNeg).2 ∧ ν' 108 80 = ltEver μ l (μ 84 14).toNatClampNeg := m_followsB ⟨rfl, rfl, rfl, rfl, rfl, rfl, rfl, rfl, rfl, rfl⟩ g5 g6 hs hl
