/-! E: the class does an act -/
theorem LX.of_fr {L : Nat} (hL : L = 28 ∨ L = 34 ∨ L = 40 ∨ L = 46) {X X' : am_Mu} {rs : List LR} (h : LX L X rs) (hf : ∀ a, a ≤ 52 → X' a = X a) : LX L X' rs := by
  obtain ⟨-, h1, h2⟩ := isL_of hL
  exact h.cong (by rw [hf L (by omega)]) (fun j => by rw [hf _ (by omega)]) (fun j => by rw [hf _ (by omega)]) (fun j => by rw [hf _ (by omega)]) (fun j => by rw [hf _ (by omega)]) (fun j => by rw [hf _ (by omega)])
theorem x_askV {L : Nat} (hL : L = 28 ∨ L = 34 ∨ L = 40 ∨ L = 46) {W : Wd} {x : Nat} {y : Option Nat} (hx : x < 20) (hy : ∀ t, y = some t → t < 20) {m : Int32} {rs : List LR} (hg : LG rs) {r : Nat} (hr : r < rs.length) {X : am_Mu} (hX : LX L X rs) (hA : AW (fun k => k / 8 = x ∨ some (k / 8) = y) X W) : ∃ X', fJudge_ask L (nI r) (nI x) (yI y) m X = some (evV (ahA W x y) m (rs.getD r dR).2.1, X') ∧ ∀ a, ¬ a = 56 → X' a = X a := by
  obtain ⟨hl1, hl2, hl3⟩ := isL_of hL
  obtain ⟨g1, g2, g3, g4⟩ := hg
  have hRG := g1 _ (getD_mem (d := dR) hr)
  have hsf : fLaw_stepsFrom L (nI r) X = some (nI (flS (rs.take r)).length, X) := by
    unfold fLaw_stepsFrom
    cases r with
    | zero => rw [if_pos (by decide)]; rfl
    | succ r =>
      rw [if_neg (by show ¬ _ ≤ nI 0; rw [nI_le_iff (by omega) (by omega)]; omega), hl1, cond_true, show nI (r + 1) - 1 = nI r from nI_sub (a := r + 1) (b := 1) (by omega), inb_n (by omega) (by omega), cond_true, nI_clamp (by omega), (hX.2.1 r (by omega)).2.1]
  have hseg : (rs.getD r dR).2.1.length ≤ 240 := by
    obtain ⟨t1, t2, -, -⟩ := flS_take hr
    rw [t2, t1, List.length_append, List.length_append] at g3
    omega
  obtain ⟨X', e1, e2⟩ := x_ask hL hx hy (m := m) ⟨g1, g2, g3, g4⟩ hr hX hA (rs.getD r dR).2.1 [] [] am_F X rfl hRG.2.1 (by rw [List.length_nil]; have := hRG.2.2.1; omega) (by unfold am_F; omega) (fun j hj => absurd hj (by simp)) (fun _ _ => rfl)
  refine ⟨X', ?_, e2⟩
  unfold fJudge_ask
  rw [hl1, cond_true, hsf, Option.bind_some]
  exact e1
theorem eff32 : ∀ b : Fin 32, ((nI b.val &&& 8 = 0) ↔ b.val / 8 % 2 = 0) ∧ (nI b.val &&& 7 = nI (b.val % 8)) ∧ ((nI b.val &&& 16 = 0) ↔ ¬ 16 ≤ b.val) := by decide +kernel
theorem x_effL {K M L : Nat} (hM : isM M) (hL : L = 28 ∨ L = 34 ∨ L = 40 ∨ L = 46) (hK : K ≤ 160) {x : Nat} {y : Option Nat} (hx : 8 * x + 8 ≤ K) (hy : ∀ t, y = some t → 8 * t + 8 ≤ K) {m : Int32} (hm0 : 0 ≤ m) (hm1 : m < 1440000) {v sv : Int32} (hv : (v = 1 ∧ sv = 0) ∨ (v = 2 ∧ sv = 1)) {rs : List LR} (hg : LG rs) {r : Nat} (hr : r < rs.length) : ∀ rest pre W n (X : am_Mu), (rs.getD r dR).2.2 = pre ++ rest → rest.length < n → LX L X rs → XW K M X W → WG K W → ∃ X', fJudge_applyEffects_7 n M L (nI r) (nI x) (yI y) m sv (nI ((flE (rs.take r)).length + pre.length)) X = some X' ∧ XW K M X' (efS x y m v rest W) ∧ FrO M X' X := by
  obtain ⟨hl1, hl2, hl3⟩ := isL_of hL
  have lo := hM.lo
  obtain ⟨-, -, t3, t4⟩ := flS_take hr
  obtain ⟨g1, g2, g3, g4⟩ := hg
  have hRG := g1 _ (getD_mem (d := dR) hr)
  have hsegl : (flE (rs.take r)).length + (rs.getD r dR).2.2.length ≤ 96 := by
    have : (flE rs).length = (flE (rs.take r)).length + (rs.getD r dR).2.2.length + (flE (rs.drop (r + 1))).length := by
      rw [t4, t3, List.length_append, List.length_append]
    omega
  intro rest
  induction rest with
  | nil =>
    intro pre W n X hseg hn hX h hgW
    obtain ⟨n, rfl⟩ : ∃ k, n = k + 1 := ⟨n - 1, by omega⟩
    rw [List.append_nil] at hseg
    refine ⟨X, ?_, h, FrO.rf⟩
    rw [fJudge_applyEffects_7, hl1, cond_true, inb_n (by omega) (by omega), cond_true, nI_clamp (by omega), (hX.2.1 r hr).2.2, t3, List.length_append, hseg, if_pos (Int32.le_refl _)]
  | cons c l ih =>
    intro pre W n X hseg hn hX h hgW
    obtain ⟨n, rfl⟩ : ∃ k, n = k + 1 := ⟨n - 1, by omega⟩
    rw [List.length_cons] at hn
    have hpl : pre.length < (rs.getD r dR).2.2.length := by rw [hseg, List.length_append, List.length_cons]; omega
    have hlen : (flE (rs.take r)).length + pre.length < (flE rs).length := by
      rw [t4, t3, List.length_append, List.length_append]
      omega
    have hcode : X (L + 5) ((flE (rs.take r)).length + pre.length) = c := by
      rw [hX.2.2.2 _ hlen, t4, t3, getD_mid hpl, hseg]
      simp [List.getD_eq_getElem?_getD]
    obtain ⟨b, b1, b2⟩ := hRG.2.2.2.2.2 c (by rw [hseg]; simp)
    obtain ⟨k8, k7, k16⟩ := eff32 ⟨b, b1⟩
    dsimp only at k8 k7 k16
    rw [← b2] at k8 k7 k16
    have hbn : c.toNatClampNeg = b := by rw [b2, nI_clamp (by omega)]
    have nxt : ∀ (X1 : am_Mu) (W1 : Wd), XW K M X1 W1 → WG K W1 → FrO M X1 X → efS x y m v l W1 = efS x y m v (c :: l) W → ∃ X', fJudge_applyEffects_111 (fJudge_applyEffects_7 n) M L (nI r) (nI x) (yI y) m sv (nI ((flE (rs.take r)).length + pre.length)) X1 = some X' ∧ XW K M X' (efS x y m v (c :: l) W) ∧ FrO M X' X := by
      intro X1 W1 q1 q2 q3 q4
      unfold fJudge_applyEffects_111
      rw [show nI ((flE (rs.take r)).length + pre.length) + 1 = nI ((flE (rs.take r)).length + (pre ++ [c]).length) by rw [List.length_append, List.length_singleton, ← Nat.add_assoc]; exact nI_plus _ 1, ← q4]
      obtain ⟨X', i1, i2, i3⟩ := ih (pre ++ [c]) W1 n X1 (by rw [hseg, List.append_assoc]; rfl) (by omega) (hX.of_fr hL (fun a ha => q3 a (by omega) (by omega) (by omega))) q1 q2
      exact ⟨X', i1, i2, i3.trans q3⟩
    have one : ∀ t, 8 * t + 8 ≤ K → efT x y c = some t → ∃ X', fJudge_applyEffects_42 (fJudge_applyEffects_7 n) M L (nI r) (nI x) (yI y) m sv (nI ((flE (rs.take r)).length + pre.length)) c (nI t) X = some X' ∧ XW K M X' (efS x y m v (c :: l) W) ∧ FrO M X' X := by
      intro t ht het
      have eplace : nI t * 8 + (c &&& 7) = nI (8 * t + b % 8) := by
        rw [k7]
        show nI t * nI 8 + _ = _
        rw [nI_mul, nI_plus, Nat.mul_comm]
      have hk : 8 * t + b % 8 < K := by omega
      have e79 : ∀ z : Int32, z = efV c → ∃ X', fJudge_applyEffects_79 (fJudge_applyEffects_7 n) M L (nI r) (nI x) (yI y) m sv (nI ((flE (rs.take r)).length + pre.length)) (nI (8 * t + b % 8)) z X = some X' ∧ XW K M X' (efS x y m v (c :: l) W) ∧ FrO M X' X := by
        intro z hz
        have hzg : TG (z, m, m) := by rw [hz]; exact efV_g hm0 hm1
        unfold fJudge_applyEffects_79
        rw [hM.m, cond_true, cond_true]
        rcases hv with ⟨hv1, hv2⟩ | ⟨hv1, hv2⟩
        · rw [if_pos hv2]
          obtain ⟨X1, j1, j2, j3⟩ := x_wjoin hM hK hk h (hgW _ hk).1 (t := (z, m, m)) hzg.1 (p := m) (q := m) (fun _ => ⟨rfl, rfl⟩)
          rw [j1, Option.bind_some]
          refine nxt X1 _ j2 (wup_g hgW (jn_g (hgW _ hk) hzg)) j3 ?_
          rw [efS, ef1, het]
          dsimp only
          rw [if_pos hv1, hbn, hz]
        · rw [if_neg (by rw [hv2]; decide), x_wput hM (by omega), Option.bind_some]
          refine nxt _ (wup W (8 * t + b % 8) (z, m, m)) h.up3 (wup_g hgW hzg) FrO.up3 ?_
          rw [efS, ef1, het]
          dsimp only
          rw [if_neg (by rw [hv1]; decide), hbn, hz]
      unfold fJudge_applyEffects_42
      rw [if_pos (yI_n (by omega)), eplace]
      by_cases h16 : 16 ≤ b
      · rw [if_pos (by rw [k16]; exact fun h => h h16)]
        exact e79 2 (by unfold efV; rw [hbn, if_pos h16])
      · rw [if_neg (by rw [k16]; exact fun q => q h16)]
        exact e79 0 (by unfold efV; rw [hbn, if_neg h16])
    rw [fJudge_applyEffects_7, hl1, cond_true, inb_n (show r < 24 by omega) (by omega), cond_true, nI_clamp (show r < 2 ^ 31 by omega), (hX.2.1 r hr).2.2, t3, List.length_append, if_neg (by rw [nI_le_iff (by omega) (by omega)]; omega), inb_n (by omega) (by omega), cond_true, nI_clamp (by omega), hcode]
    by_cases h8 : b / 8 % 2 = 0
    · rw [if_neg (by rw [k8]; simpa using h8)]
      exact one x hx (by unfold efT; rw [hbn, if_pos h8])
    · rw [if_pos (by rw [k8]; exact h8)]
      cases hy' : y with
      | some t =>
        rw [hy'] at one
        exact one t (hy t hy') (by unfold efT; rw [hbn, if_neg h8])
      | none =>
        rw [hy'] at nxt
        unfold fJudge_applyEffects_42
        rw [if_neg (show ¬ ¬ yI none = -1 from fun h => h rfl)]
        refine nxt X W h hgW FrO.rf ?_
        rw [efS, ef1]
        unfold efT
        rw [hbn, if_neg h8]
theorem x_eff {K M L : Nat} (hM : isM M) (hL : L = 28 ∨ L = 34 ∨ L = 40 ∨ L = 46) (hK : K ≤ 160) {x : Nat} {y : Option Nat} (hx : 8 * x + 8 ≤ K) (hy : ∀ t, y = some t → 8 * t + 8 ≤ K) {m : Int32} (hm0 : 0 ≤ m) (hm1 : m < 1440000) {v sv : Int32} (hv : (v = 1 ∧ sv = 0) ∨ (v = 2 ∧ sv = 1)) {rs : List LR} (hg : LG rs) {r : Nat} (hr : r < rs.length) {X : am_Mu} {W : Wd} (hX : LX L X rs) (h : XW K M X W) (hgW : WG K W) : ∃ X', fJudge_applyEffects M L (nI r) (nI x) (yI y) m sv X = some X' ∧ XW K M X' (efS x y m v (rs.getD r dR).2.2 W) ∧ FrO M X' X := by
  obtain ⟨hl1, hl2, hl3⟩ := isL_of hL
  have g2 := hg.2.1
  have h4 := (hg.1 _ (getD_mem (d := dR) hr)).2.2.2.2.1
  have hsf : fLaw_effectsFrom L (nI r) X = some (nI (flE (rs.take r)).length, X) := by
    unfold fLaw_effectsFrom
    cases r with
    | zero => rw [if_pos (by decide)]; rfl
    | succ r =>
      rw [if_neg (by show ¬ _ ≤ nI 0; rw [nI_le_iff (by omega) (by omega)]; omega), hl1, cond_true, show nI (r + 1) - 1 = nI r from nI_sub (a := r + 1) (b := 1) (by omega), inb_n (by omega) (by omega), cond_true, nI_clamp (by omega), (hX.2.1 r (by omega)).2.2]
  unfold fJudge_applyEffects
  rw [hl1, cond_true, hsf, Option.bind_some]
  exact x_effL hM hL hK hx hy hm0 hm1 hv hg hr _ [] W am_F X rfl (by unfold am_F; omega) hX h hgW
theorem x_rules {K M L : Nat} (hM : isM M) (hL : L = 28 ∨ L = 34 ∨ L = 40 ∨ L = 46) (hK : K ≤ 160) {x : Nat} {y : Option Nat} (hx : 8 * x + 8 ≤ K) (hy : ∀ t, y = some t → 8 * t + 8 ≤ K) {m kd : Int32} (hm0 : 0 ≤ m) (hm1 : m < 1440000) {rs : List LR} (hg : LG rs) {W0 : Wd} (hg0 : WG K W0) : ∀ rest pre W n (X : am_Mu), rs = pre ++ rest → rest.length < n → LX L X rs → AW (fun k => k / 8 = x ∨ some (k / 8) = y) X W0 → XW K M X W → WG K W → ∃ X', fJudge_applyRules_3 n M L kd (nI x) (yI y) m (nI pre.length) X = some X' ∧ XW K M X' (ruS (ahA W0 x y) kd x y m rest W) ∧ ∀ a, ¬ a = M + 1 → ¬ a = M + 2 → ¬ a = M + 3 → ¬ a = 56 → X' a = X a := by
  obtain ⟨hl1, hl2, hl3⟩ := isL_of hL
  have lo := hM.lo
  intro rest
  induction rest with
  | nil =>
    intro pre W n X hrs hn hX hA h hgW
    obtain ⟨n, rfl⟩ : ∃ k, n = k + 1 := ⟨n - 1, by omega⟩
    rw [List.append_nil] at hrs
    refine ⟨X, ?_, h, fun _ _ _ _ _ => rfl⟩
    rw [fJudge_applyRules_3, hl1, cond_true, hX.1, hrs, if_pos (Int32.le_refl _)]
  | cons r l ih =>
    intro pre W n X hrs hn hX hA h hgW
    obtain ⟨n, rfl⟩ : ∃ k, n = k + 1 := ⟨n - 1, by omega⟩
    rw [List.length_cons] at hn
    have hpl : pre.length < rs.length := by rw [hrs, List.length_append, List.length_cons]; omega
    have hget : rs.getD pre.length dR = r := by rw [hrs]; simp [List.getD_eq_getElem?_getD]
    have g2 := hg.2.1
    have nxt : ∀ (X1 : am_Mu) (W1 : Wd), XW K M X1 W1 → WG K W1 → (∀ a, ¬ a = M + 1 → ¬ a = M + 2 → ¬ a = M + 3 → ¬ a = 56 → X1 a = X a) → ruS (ahA W0 x y) kd x y m l W1 = ruS (ahA W0 x y) kd x y m (r :: l) W → ∃ X', fJudge_applyRules_71 (fJudge_applyRules_3 n) M L kd (nI x) (yI y) m (nI pre.length) X1 = some X' ∧ XW K M X' (ruS (ahA W0 x y) kd x y m (r :: l) W) ∧ ∀ a, ¬ a = M + 1 → ¬ a = M + 2 → ¬ a = M + 3 → ¬ a = 56 → X' a = X a := by
      intro X1 W1 q1 q2 q3 q4
      unfold fJudge_applyRules_71
      rw [show nI pre.length + 1 = nI (pre ++ [r]).length by rw [List.length_append, List.length_singleton]; exact nI_plus _ 1, ← q4]
      obtain ⟨X', i1, i2, i3⟩ := ih (pre ++ [r]) W1 n X1 (by rw [hrs, List.append_assoc]; rfl) (by omega) (hX.of_fr hL (fun a ha => q3 a (by omega) (by omega) (by omega) (by omega))) (by
        intro k hk
        rw [q3 53 (by omega) (by omega) (by omega) (by omega), q3 54 (by omega) (by omega) (by omega) (by omega), q3 55 (by omega) (by omega) (by omega) (by omega)]
        exact hA k hk) q1 q2
      exact ⟨X', i1, i2, fun a b1 b2 b3 b4 => (i3 a b1 b2 b3 b4).trans (q3 a b1 b2 b3 b4)⟩
    rw [fJudge_applyRules_3, hl1, cond_true, hX.1, if_neg (by rw [nI_le_iff (by omega) (by omega)]; omega), inb_n (by omega) (by omega), cond_true, nI_clamp (by omega), (hX.2.1 _ hpl).1, hget]
    by_cases hkd : r.1 = kd
    · rw [if_pos hkd]
      obtain ⟨X1, a1, a2⟩ := x_askV hL (x := x) (y := y) (by omega) (fun t ht => by have := hy t ht; omega) (m := m) hg hpl hX hA
      rw [hget] at a1
      have hv := evV_v (ahA_g hg0 hx hy) m r.2.1
      rw [a1, Option.bind_some]
      dsimp only
      have hX1 : LX L X1 rs := hX.of_fr hL (fun a ha => a2 a (by omega))
      have h1 : XW K M X1 W := h.cong (a2 _ (by omega)) (a2 _ (by omega)) (a2 _ (by omega))
      have e1 : ¬ evV (ahA W0 x y) m r.2.1 = 0 → ∀ sv, (evV (ahA W0 x y) m r.2.1 = 1 ∧ sv = 0) ∨ (evV (ahA W0 x y) m r.2.1 = 2 ∧ sv = 1) → ∃ X', fJudge_applyRules_68 (fJudge_applyRules_3 n) M L kd (nI x) (yI y) m (nI pre.length) M L (nI pre.length) (nI x) (yI y) m sv X1 = some X' ∧ XW K M X' (ruS (ahA W0 x y) kd x y m (r :: l) W) ∧ ∀ a, ¬ a = M + 1 → ¬ a = M + 2 → ¬ a = M + 3 → ¬ a = 56 → X' a = X a := by
        intro hne sv hsv
        obtain ⟨X2, b1, b2, b3⟩ := x_eff hM hL hK hx hy hm0 hm1 hsv hg hpl hX1 h1 hgW
        rw [hget] at b2
        unfold fJudge_applyRules_68
        rw [hM.m, cond_true, hl1, cond_true, b1, Option.bind_some]
        refine nxt X2 _ b2 (efS_g hm0 hm1 hx hy _ W hgW) (fun a q1 q2 q3 q4 => (b3 a q1 q2 q3).trans (a2 a q4)) ?_
        rw [ruS, if_pos ⟨hkd, hne⟩]
      rcases hv with hv | hv | hv
      · rw [if_pos (by rw [hv]; decide)]
        refine nxt X1 W h1 hgW (fun a q1 q2 q3 q4 => a2 a q4) ?_
        rw [ruS, if_neg (fun q => q.2 hv)]
      · rw [if_neg (by rw [hv]; decide), if_pos (by rw [hv]; decide)]
        exact e1 (by rw [hv]; decide) 0 (Or.inl ⟨hv, rfl⟩)
      · rw [if_neg (by rw [hv]; decide), if_neg (by rw [hv]; decide)]
        exact e1 (by rw [hv]; decide) 1 (Or.inr ⟨hv, rfl⟩)
    · rw [if_neg hkd]
      refine nxt X W h hgW (fun _ _ _ _ _ => rfl) ?_
      rw [ruS, if_neg (fun q => hkd q.1)]
theorem XW.ext {K M : Nat} {X : am_Mu} {W W' : Wd} (h : XW K M X W) (he : ∀ k, k < K → W' k = W k) : XW K M X W' := by
  intro k hk
  rw [he k hk]
  exact h k hk
/-- an act -/
theorem x_perform {K M L : Nat} (hM : isM M) (hL : L = 28 ∨ L = 34 ∨ L = 40 ∨ L = 46) (hK : K ≤ 160) {a : Nat} {b : Option Nat} (ha : 8 * a + 8 ≤ K) (hb : ∀ t, b = some t → 8 * t + 8 ≤ K ∧ ¬ a = t) {m kd sure : Int32} (hm0 : 0 ≤ m) (hm1 : m < 1440000) {rs : List LR} (hg : LG rs) {X : am_Mu} {W : Wd} (hX : LX L X rs) (h : XW K M X W) (hgW : WG K W) : ∃ X', fJudge_perform M L kd (nI a) (yI b) m sure X = some X' ∧ XW K M X' (acS rs kd a b m sure W) ∧ FrMk M X' X := by
  have lo := hM.lo
  have l24 := hg.2.1
  have e8 : ∀ t, nI t * 8 = nI (8 * t) := by
    intro t
    show nI t * nI 8 = _
    rw [nI_mul, Nat.mul_comm]
  obtain ⟨X1, c1, c2, c3⟩ := x_copyT hM (show a < 20 by omega) ha h (P := fun _ => False) (fun k hk => hk.elim)
  have hX1 : LX L X1 rs := hX.of_fr hL (fun r hr => c3 r (by omega) (by omega) (by omega))
  have h1 : XW K M X1 W := h.cong (c3 _ (by omega) (by omega) (by omega)) (c3 _ (by omega) (by omega) (by omega)) (c3 _ (by omega) (by omega) (by omega))
  cases b with
  | none =>
    obtain ⟨X2, d1, d2, d3⟩ := x_rules hM hL hK ha (y := none) (fun t h => by cases h) hm0 hm1 (kd := kd) hg hgW rs [] W am_F X1 rfl (by unfold am_F; omega) hX1 (fun k hk => c2 k (Or.inl (by rcases hk with hk | hk; exact hk; cases hk))) h1 hgW
    have e1 : fJudge_perform M L kd (nI a) (yI none) m sure X = fJudge_perform_69 M (nI a) (yI none) sure 0 X2 := by
      unfold fJudge_perform fJudge_perform_11 fJudge_perform_38 fJudge_applyRules
      rw [if_pos (show yI none = -1 from rfl), c1, Option.bind_some, if_pos rfl]
      change fJudge_applyRules_3 am_F M L kd (nI a) (yI none) m 0 X1 = some X2 at d1
      rw [d1, Option.bind_some, if_pos rfl]
    have hf : FrMk M X2 X := fun r q1 q2 q3 q4 q5 q6 q7 => (d3 r q1 q2 q3 q7).trans (c3 r q4 q5 q6)
    rw [e1]
    unfold fJudge_perform_69
    by_cases hs : sure = 0
    · rw [if_neg (by simpa using hs), hM.m, cond_true]
      obtain ⟨X3, j1, j2, j3⟩ := x_joinT hM (show a < 20 by omega) hK ha hgW 8 (8 * a) am_F X2 _ (by omega) (by omega) (by unfold am_F; omega) d2 (acR_g (b := none) hm0 hm1 ha (fun t h => by cases h) hgW) (by
        intro k hk
        rw [d3 53 (by omega) (by omega) (by omega) (by omega), d3 54 (by omega) (by omega) (by omega) (by omega), d3 55 (by omega) (by omega) (by omega) (by omega)]
        exact c2 k (Or.inl hk))
      have j1' : fMarks_joinThing M 52 (nI a) X2 = some X3 := by
        unfold fMarks_joinThing
        rw [e8]
        exact j1
      rw [j1', Option.bind_some, if_pos rfl]
      refine ⟨X3, rfl, j2.ext ?_, j3.toM.trans hf⟩
      intro k hk
      unfold acS
      rw [if_pos hs]
      by_cases hka : k / 8 = a
      · rw [if_pos (Or.inl hka), if_pos (by omega)]
        rfl
      · rw [if_neg (by rintro (h | h); exact hka h; cases h), if_neg (by omega)]
        rfl
    · rw [if_pos hs]
      refine ⟨X2, rfl, d2.ext ?_, hf⟩
      intro k hk
      unfold acS
      rw [if_neg hs]
      rfl
  | some b =>
    obtain ⟨hbK, hab⟩ := hb b rfl
    obtain ⟨X2, c4, c5, c6⟩ := x_copyT hM (show b < 20 by omega) hbK h1 c2
    have hX2 : LX L X2 rs := hX1.of_fr hL (fun r hr => c6 r (by omega) (by omega) (by omega))
    have h2 : XW K M X2 W := h1.cong (c6 _ (by omega) (by omega) (by omega)) (c6 _ (by omega) (by omega) (by omega)) (c6 _ (by omega) (by omega) (by omega))
    obtain ⟨X3, d1, d2, d3⟩ := x_rules hM hL hK ha (y := some b) (fun t h => by cases h; exact hbK) hm0 hm1 (kd := kd) hg hgW rs [] W am_F X2 rfl (by unfold am_F; omega) hX2 (fun k hk => c5 k (by
      rcases hk with hk | hk
      · exact Or.inr (Or.inl hk)
      · exact Or.inl (Option.some.inj hk))) h2 hgW
    have g3 := ruS_g (A := ahA W a (some b)) (kd := kd) hm0 hm1 ha (y := some b) (fun t h => by cases h; exact hbK) rs W hgW
    have hX3 : LX L X3 rs := hX2.of_fr hL (fun r hr => d3 r (by omega) (by omega) (by omega) (by omega))
    have a53 : ∀ r, r = 53 ∨ r = 54 ∨ r = 55 → X3 r = X2 r := fun r hr => d3 r (by omega) (by omega) (by omega) (by omega)
    obtain ⟨X4, f1, f2, f3⟩ := x_rules hM hL hK hbK (y := some a) (fun t h => by cases h; exact ha) hm0 hm1 (kd := kd) hg hgW rs [] _ am_F X3 rfl (by unfold am_F; omega) hX3 (fun k hk => by
      rw [a53 53 (by omega), a53 54 (by omega), a53 55 (by omega)]
      exact c5 k (by
        rcases hk with hk | hk
        · exact Or.inl hk
        · exact Or.inr (Or.inl (Option.some.inj hk)))) d2 g3
    have g4 := ruS_g (A := ahA W b (some a)) (kd := kd) hm0 hm1 hbK (y := some a) (fun t h => by cases h; exact ha) rs _ g3
    have e1 : fJudge_perform M L kd (nI a) (yI (some b)) m sure X = fJudge_perform_69 M (nI a) (yI (some b)) sure 1 X4 := by
      unfold fJudge_perform fJudge_perform_11 fJudge_perform_38 fJudge_applyRules
      rw [if_neg (show ¬ yI (some b) = -1 from yI_n (by omega)), c1, Option.bind_some, if_neg (by decide)]
      change fMarks_copyThing 52 M (yI (some b)) X1 = some X2 at c4
      rw [c4, Option.bind_some]
      change fJudge_applyRules_3 am_F M L kd (nI a) (yI (some b)) m 0 X2 = some X3 at d1
      rw [d1, Option.bind_some, if_neg (by decide)]
      change fJudge_applyRules_3 am_F M L kd (yI (some b)) (nI a) m 0 X3 = some X4 at f1
      rw [f1, Option.bind_some]
    have b53 : ∀ r, r = 53 ∨ r = 54 ∨ r = 55 → X4 r = X2 r := fun r hr => (f3 r (by omega) (by omega) (by omega) (by omega)).trans (a53 r hr)
    have hf : FrMk M X4 X := fun r q1 q2 q3 q4 q5 q6 q7 => (f3 r q1 q2 q3 q7).trans ((d3 r q1 q2 q3 q7).trans ((c6 r q4 q5 q6).trans (c3 r q4 q5 q6)))
    rw [e1]
    unfold fJudge_perform_69
    by_cases hs : sure = 0
    · rw [if_neg (by simpa using hs), hM.m, cond_true]
      obtain ⟨X5, j1, j2, j3⟩ := x_joinT hM (show a < 20 by omega) hK ha hgW 8 (8 * a) am_F X4 _ (by omega) (by omega) (by unfold am_F; omega) f2 g4 (by
        intro k hk
        rw [b53 53 (by omega), b53 54 (by omega), b53 55 (by omega)]
        exact c5 k (Or.inr (Or.inl hk)))
      have j1' : fMarks_joinThing M 52 (nI a) X4 = some X5 := by
        unfold fMarks_joinThing
        rw [e8]
        exact j1
      have g5 : WG K (fun k => if 8 * a ≤ k ∧ k < 8 * a + 8 then jn (ruS (ahA W b (some a)) kd b (some a) m rs (ruS (ahA W a (some b)) kd a (some b) m rs W) k) (W k) else ruS (ahA W b (some a)) kd b (some a) m rs (ruS (ahA W a (some b)) kd a (some b) m rs W) k) := by
        intro k hk
        dsimp only
        split
        · exact jn_g (g4 k hk) (hgW k hk)
        · exact g4 k hk
      obtain ⟨X6, k1, k2, k3⟩ := x_joinT hM (show b < 20 by omega) hK hbK hgW 8 (8 * b) am_F X5 _ (by omega) (by omega) (by unfold am_F; omega) j2 g5 (by
        intro k hk
        rw [j3 53 (by omega) (by omega) (by omega), j3 54 (by omega) (by omega) (by omega), j3 55 (by omega) (by omega) (by omega), b53 53 (by omega), b53 54 (by omega), b53 55 (by omega)]
        exact c5 k (Or.inl hk))
      have k1' : fMarks_joinThing M 52 (yI (some b)) X5 = some X6 := by
        unfold fMarks_joinThing
        show fMarks_joinThing_5 am_F M 52 (nI b) (nI b * 8) X5 = some X6
        rw [e8]
        exact k1
      rw [j1', Option.bind_some, if_neg (by decide), k1', Option.bind_some]
      refine ⟨X6, rfl, k2.ext ?_, k3.toM.trans (j3.toM.trans hf)⟩
      intro k hk
      unfold acS
      rw [if_pos hs]
      by_cases hka : k / 8 = a
      · rw [if_pos (Or.inl hka), if_neg (by omega), if_pos (by omega)]
        rfl
      · by_cases hkb : k / 8 = b
        · rw [if_pos (Or.inr (by rw [hkb])), if_pos (by omega), if_neg (by omega)]
          rfl
        · rw [if_neg (by rintro (h | h); exact hka h; exact hkb (Option.some.inj h)), if_neg (by omega), if_neg (by omega)]
          rfl
    · rw [if_pos hs]
      refine ⟨X4, rfl, f2.ext ?_, hf⟩
      intro k hk
      unfold acS
      rw [if_neg hs]
      rfl
