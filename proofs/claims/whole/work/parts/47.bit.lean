/-! E: sets of kitchens as bits, the nearest of a set -/
abbrev hasB (S k : Nat) : Prop := S / 2 ^ k % 2 = 1
def clrB (S k : Nat) : Nat := S &&& (255 - 2 ^ k)
def cardB (S : Nat) : Nat := S % 2 + S / 2 % 2 + S / 4 % 2 + S / 8 % 2 + S / 16 % 2 + S / 32 % 2 + S / 64 % 2 + S / 128 % 2
theorem or8F : ∀ b : Fin 256, ∀ v : Fin 8, nI b.val ||| ((1 : Int32) <<< (nI v.val &&& 31)) = nI (b.val ||| 2 ^ v.val) ∧ b.val ||| 2 ^ v.val < 256 ∧ ∀ p : Fin 8, ((b.val ||| 2 ^ v.val) / 2 ^ p.val % 2 = 1 ↔ p.val = v.val ∨ b.val / 2 ^ p.val % 2 = 1) := by decide +kernel
theorem clr8F : ∀ b : Fin 256, ∀ v : Fin 8, nI b.val &&& (((1 : Int32) <<< (nI v.val &&& 31)) ^^^ (-1)) = nI (b.val &&& (255 - 2 ^ v.val)) ∧ b.val &&& (255 - 2 ^ v.val) ≤ b.val ∧ ∀ p : Fin 8, ((b.val &&& (255 - 2 ^ v.val)) / 2 ^ p.val % 2 = 1 ↔ ¬ p.val = v.val ∧ b.val / 2 ^ p.val % 2 = 1) := by decide +kernel
theorem has8F : ∀ b : Fin 256, ∀ k : Fin 8, (nI b.val >>> (nI k.val &&& 31)) &&& 1 = if b.val / 2 ^ k.val % 2 = 1 then 1 else 0 := by decide +kernel
theorem card8F : ∀ b : Fin 256, ∀ v : Fin 8, b.val / 2 ^ v.val % 2 = 1 → cardB (b.val &&& (255 - 2 ^ v.val)) + 1 = cardB b.val ∧ b.val &&& (255 - 2 ^ v.val) < b.val := by decide +kernel
theorem card0F : ∀ b : Fin 256, (cardB b.val = 0 ↔ ∀ v : Fin 8, ¬ b.val / 2 ^ v.val % 2 = 1) := by decide +kernel
theorem or8 {b v : Nat} (hb : b < 256) (hv : v < 8) : nI b ||| ((1 : Int32) <<< (nI v &&& 31)) = nI (b ||| 2 ^ v) ∧ b ||| 2 ^ v < 256 ∧ ∀ p, p < 8 → (hasB (b ||| 2 ^ v) p ↔ p = v ∨ hasB b p) := by
  obtain ⟨h1, h2, h3⟩ := or8F ⟨b, hb⟩ ⟨v, hv⟩
  exact ⟨h1, h2, fun p hp => h3 ⟨p, hp⟩⟩
theorem clr8 {b v : Nat} (hb : b < 256) (hv : v < 8) : nI b &&& (((1 : Int32) <<< (nI v &&& 31)) ^^^ (-1)) = nI (clrB b v) ∧ clrB b v ≤ b ∧ ∀ p, p < 8 → (hasB (clrB b v) p ↔ ¬ p = v ∧ hasB b p) := by
  obtain ⟨h1, h2, h3⟩ := clr8F ⟨b, hb⟩ ⟨v, hv⟩
  exact ⟨h1, h2, fun p hp => h3 ⟨p, hp⟩⟩
theorem has8 {b k : Nat} (hb : b < 256) (hk : k < 8) : (nI b >>> (nI k &&& 31)) &&& 1 = if hasB b k then 1 else 0 := has8F ⟨b, hb⟩ ⟨k, hk⟩
theorem card8 {b k : Nat} (hb : b < 256) (hk : k < 8) (h : hasB b k) : cardB (clrB b k) + 1 = cardB b ∧ clrB b k < b := card8F ⟨b, hb⟩ ⟨k, hk⟩ h
theorem card0 {b : Nat} (hb : b < 256) : cardB b = 0 ↔ ∀ v, v < 8 → ¬ hasB b v := by
  have h := card0F ⟨b, hb⟩
  constructor
  · intro h1 v hv
    exact h.mp h1 ⟨v, hv⟩
  · intro h1
    exact h.mpr (fun v => h1 v.val v.isLt)
/-- the first of the least among the members below n -/
def nearB (w : Nat → Int32) (S : Nat) : Nat → Option Nat
  | 0 => none
  | n + 1 => match nearB w S n with
    | none => if hasB S n then some n else none
    | some b => if hasB S n ∧ w n < w b then some n else some b
def NearP (w : Nat → Int32) (S n : Nat) : Option Nat → Prop
  | none => ∀ j, j < n → ¬ hasB S j
  | some b => b < n ∧ hasB S b ∧ (∀ j, j < n → hasB S j → w b ≤ w j) ∧ ∀ j, j < b → hasB S j → w b < w j
theorem near_p (w : Nat → Int32) (S : Nat) : ∀ n, NearP w S n (nearB w S n) := by
  intro n
  induction n with
  | zero => exact fun j hj => absurd hj (by omega)
  | succ n ih =>
    unfold nearB
    cases hq : nearB w S n with
    | none =>
      rw [hq] at ih
      dsimp only
      by_cases h : hasB S n
      · rw [if_pos h]
        refine ⟨by omega, h, ?_, fun j hj hs => absurd hs (ih j hj)⟩
        intro j hj hs
        by_cases hjn : j = n
        · rw [hjn]
          exact Int32.le_refl _
        · exact absurd hs (ih j (by omega))
      · rw [if_neg h]
        intro j hj hs
        by_cases hjn : j = n
        · rw [hjn] at hs
          exact h hs
        · exact ih j (by omega) hs
    | some b =>
      rw [hq] at ih
      obtain ⟨i1, i2, i3, i4⟩ := ih
      dsimp only
      by_cases h : hasB S n ∧ w n < w b
      · rw [if_pos h]
        refine ⟨by omega, h.1, ?_, ?_⟩
        · intro j hj hs
          by_cases hjn : j = n
          · rw [hjn]
            exact Int32.le_refl _
          · have := i3 j (by omega) hs
            grind
        · intro j hj hs
          have := i3 j (by omega) hs
          grind
      · rw [if_neg h]
        refine ⟨by omega, i2, ?_, i4⟩
        intro j hj hs
        by_cases hjn : j = n
        · rw [hjn] at hs ⊢
          grind
        · exact i3 j (by omega) hs
theorem near_u {w : Nat → Int32} {S n : Nat} {a b : Option Nat} (h : NearP w S n a) (k : NearP w S n b) : a = b := by
  cases a with
  | none =>
    cases b with
    | none => rfl
    | some b => exact absurd k.2.1 (h b k.1)
  | some a =>
    cases b with
    | none => exact absurd h.2.1 (k a h.1)
    | some b =>
      obtain ⟨h1, h2, h3, h4⟩ := h
      obtain ⟨k1, k2, k3, k4⟩ := k
      congr 1
      rcases Nat.lt_trichotomy a b with c | c | c
      · have := k4 a c h2
        have := h3 b k1 k2
        grind
      · exact c
      · have := h4 b c k2
        have := k3 a h1 h2
        grind
/-- shortest way behind k through the rest of S -/
def waV (d : Nat → Nat → Int32) : Nat → Nat → Nat → Int32
  | 0, _, _ => 0
  | f + 1, S, k => match nearB (fun j => d k j + waV d f (clrB S k) j) (clrB S k) 8 with
    | none => 0
    | some b => d k b + waV d f (clrB S k) b
/-- two sets are one set under the map ks -/
def SetR (ks : Nat → Nat) (n S T : Nat) : Prop := (∀ k, k < 8 → hasB S k → ∃ i, i < n ∧ ks i = k ∧ hasB T i) ∧ (∀ i, i < n → hasB T i → hasB S (ks i)) ∧ ∀ i, i < 8 → hasB T i → i < n
theorem SetR.near {ks : Nat → Nat} {n S T : Nat} (hn : n ≤ 8) (hk : ∀ i, i < n → ks i < 8) (hm : ∀ i j, i < j → j < n → ks i < ks j) (h : SetR ks n S T) {w v : Nat → Int32} (e : ∀ i, i < n → hasB T i → v i = w (ks i)) : nearB w S 8 = (nearB v T 8).map ks := by
  obtain ⟨h1, h2, h3⟩ := h
  have p := near_p v T 8
  refine near_u (near_p w S 8) ?_
  cases hq : nearB v T 8 with
  | none =>
    rw [hq] at p
    intro k hk8 hs
    obtain ⟨i, i1, i2, i3⟩ := h1 k hk8 hs
    exact p i (by omega) i3
  | some b =>
    rw [hq] at p
    obtain ⟨p1, p2, p3, p4⟩ := p
    have hbn := h3 b p1 p2
    refine ⟨hk b hbn, h2 b hbn p2, ?_, ?_⟩
    · intro j hj hs
      obtain ⟨i, i1, i2, i3⟩ := h1 j hj hs
      rw [← i2, ← e i i1 i3, ← e b hbn p2]
      exact p3 i (by omega) i3
    · intro j hj hs
      obtain ⟨i, i1, i2, i3⟩ := h1 j (by have := hk b hbn; omega) hs
      have hib : i < b := by
        rcases Nat.lt_trichotomy i b with c | c | c
        · exact c
        · rw [c] at i2; omega
        · have := hm b i c i1; omega
      rw [← i2, ← e i i1 i3, ← e b hbn p2]
      exact p4 i hib i3
theorem SetR.clr {ks : Nat → Nat} {n S T : Nat} (hn : n ≤ 8) (hS : S < 256) (hT : T < 256) (hk : ∀ i, i < n → ks i < 8) (hm : ∀ i j, i < j → j < n → ks i < ks j) (h : SetR ks n S T) {b : Nat} (hb : b < n) : SetR ks n (clrB S (ks b)) (clrB T b) := by
  obtain ⟨h1, h2, h3⟩ := h
  obtain ⟨-, -, c1⟩ := clr8 hS (hk b hb)
  obtain ⟨-, -, c2⟩ := clr8 hT (show b < 8 by omega)
  refine ⟨?_, ?_, ?_⟩
  · intro k hk8 hs
    obtain ⟨q1, q2⟩ := (c1 k hk8).mp hs
    obtain ⟨i, i1, i2, i3⟩ := h1 k hk8 q2
    refine ⟨i, i1, i2, (c2 i (by omega)).mpr ⟨?_, i3⟩⟩
    intro h
    rw [h] at i2
    exact q1 i2.symm
  · intro i hi hs
    obtain ⟨q1, q2⟩ := (c2 i (by omega)).mp hs
    refine (c1 _ (hk i hi)).mpr ⟨?_, h2 i hi q2⟩
    intro h
    rcases Nat.lt_trichotomy i b with c | c | c
    · have := hm i b c hb; omega
    · exact q1 c
    · have := hm b i c hi; omega
  · intro i hi hs
    exact h3 i hi ((c2 i hi).mp hs).2
theorem waV_map {ks : Nat → Nat} {n : Nat} (hn : n ≤ 8) (hk : ∀ i, i < n → ks i < 8) (hm : ∀ i j, i < j → j < n → ks i < ks j) {d dm : Nat → Nat → Int32} (hd : ∀ i j, i < n → j < n → dm i j = d (ks i) (ks j)) : ∀ f S T i, S < 256 → T < 256 → SetR ks n S T → i < n → waV dm f T i = waV d f S (ks i) := by
  intro f
  induction f with
  | zero => exact fun _ _ _ _ _ _ _ => rfl
  | succ f ih =>
    intro S T i hS hT h hi
    have hc := h.clr hn hS hT hk hm hi
    have lS : clrB S (ks i) < 256 := by have := (clr8 hS (hk i hi)).2.1; omega
    have lT : clrB T i < 256 := by have := (clr8 hT (show i < 8 by omega)).2.1; omega
    have e : ∀ j, j < n → dm i j + waV dm f (clrB T i) j = d (ks i) (ks j) + waV d f (clrB S (ks i)) (ks j) := by
      intro j hj
      rw [hd i j hi hj, ih _ _ j lS lT hc hj]
    have hne := hc.near hn hk hm (w := fun j => d (ks i) j + waV d f (clrB S (ks i)) j) (v := fun j => dm i j + waV dm f (clrB T i) j) (fun j hj _ => e j hj)
    have p := near_p (fun j => dm i j + waV dm f (clrB T i) j) (clrB T i) 8
    unfold waV
    rw [hne]
    cases hq : nearB (fun j => dm i j + waV dm f (clrB T i) j) (clrB T i) 8 with
    | none => rfl
    | some b =>
      rw [hq] at p
      exact e b (hc.2.2 b p.1 p.2.1)
