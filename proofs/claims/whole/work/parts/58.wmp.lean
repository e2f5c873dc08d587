/-! E: the walks of both are one walk -/
theorem wlk_map {ks : Nat → Nat} {n : Nat} (hn : n ≤ 8) (hk : ∀ i, i < n → ks i < 8) (hm : ∀ i j, i < j → j < n → ks i < ks j) {d dm : Nat → Nat → Int32} (hd : ∀ i j, i < n → j < n → dm i j = d (ks i) (ks j)) : ∀ g S T p, S < 256 → T < 256 → SetR ks n S T → (∀ i, p = some i → i < n) → wlk d g S (p.map ks) = (wlk dm g T p).map ks := by
  intro g
  induction g with
  | zero => exact fun _ _ _ _ _ _ _ => rfl
  | succ g ih =>
    intro S T p hS hT h hp
    cases p with
    | none => rfl
    | some i =>
      have hi := hp i rfl
      have hc := h.clr hn hS hT hk hm hi
      have lS : clrB S (ks i) < 256 := by have := (clr8 hS (hk i hi)).2.1; omega
      have lT : clrB T i < 256 := by have := (clr8 hT (show i < 8 by omega)).2.1; omega
      have ne := hc.near hn hk hm (w := fun j => d (ks i) j + wW d (clrB S (ks i)) j) (v := fun j => dm i j + wW dm (clrB T i) j) (fun j hj _ => by
        have := waV_map hn hk hm hd 8 _ _ j lS lT hc hj
        unfold wW
        rw [hd i j hi hj, this])
      have np := near_p (fun j => dm i j + wW dm (clrB T i) j) (clrB T i) 8
      rw [show (some i).map ks = some (ks i) from rfl, wlk, wlk, ne, List.map_cons, ih _ _ _ lS lT hc ?_]
      intro b hb
      rw [hb] at np
      exact hc.2.2 b np.1 np.2.1
theorem wlk_len {d : Nat → Nat → Int32} : ∀ g T i, T < 256 → i < 8 → hasB T i → cardB T ≤ g → (wlk d g T (some i)).length = cardB T := by
  intro g
  induction g with
  | zero =>
    intro T i hT hi hb hc
    have := (card8 hT hi hb).1
    omega
  | succ g ih =>
    intro T i hT hi hb hc
    obtain ⟨k1, k2⟩ := card8 hT hi hb
    have np := near_p (fun j => d i j + wW d (clrB T i) j) (clrB T i) 8
    rw [wlk, List.length_cons]
    cases hq : nearB (fun j => d i j + wW d (clrB T i) j) (clrB T i) 8 with
    | none =>
      rw [hq] at np
      have h0 := (card0 (show clrB T i < 256 by omega)).mpr np
      have e : wlk d g (clrB T i) none = [] := by cases g <;> rfl
      rw [e]
      show 0 + 1 = _
      omega
    | some b =>
      rw [hq] at np
      rw [ih (clrB T i) b (by omega) np.1 np.2.1 (by omega)]
      omega
