/-! E: of the class alone (as in whole) -/
theorem x_effL {K M L : Nat} (hM : isM M) (hL : L = 28 ∨ L = 34 ∨ L = 40 ∨ L = 46) (hK : K ≤ 160) {x : Nat} {y : Option Nat} (hx : 8 * x + 8 ≤ K) (hy : ∀ t, y = some t → 8 * t + 8 ≤ K) {m : Int32} (hm0 : 0 ≤ m) (hm1 : m < 1440000) {v sv : Int32} (hv : (v = 1 ∧ sv = 0) ∨ (v = 2 ∧ sv = 1)) {rs : List LR} (hg : LG rs) {r : Nat} (hr : r < rs.length) : ∀ rest pre W n (X : am_Mu), (rs.getD r dR).2.2 = pre ++ rest → rest.length < n → LX L X rs → XW K M X W → WG K W → ∃ X', fJudge_applyEffects_7 n M L (nI r) (nI x) (yI y) m sv (nI ((flE (rs.take r)).length + pre.length)) X = some X' ∧ XW K M X' (efS x y m v rest W) ∧ FrO M X' X := by
  obtain ⟨hl1, hl2, hl3⟩ := isL_of hL
  have lo := hM.lo
  obtain ⟨-, -, t3, t4⟩ := flS_take hr
  obtain ⟨g1, g2, g3, g4⟩ := hg
  have hRG := g1 _ (getD_mem (d := dR) hr)
  have hsegl : (flE (rs.take r)).length + (rs.getD r dR).2.2.length ≤ 96 := by
    have : (flE rs).length = (flE (rs.take r)).length + (rs.getD r dR).2.2.length + (flE (rs.drop (r + 1))).length := by
      rw [t4, t3, List.length_append, List.length_append]
    omega
  intro rest
  induction rest with
  | nil =>
    intro pre W n X hseg hn hX h hgW
    obtain ⟨n, rfl⟩ : ∃ k, n = k + 1 := ⟨n - 1, by omega⟩
    rw [List.append_nil] at hseg
    refine ⟨X, ?_, h, FrO.rf⟩
    rw [fJudge_applyEffects_7, hl1, cond_true, inb_n (by omega) (by omega), cond_true, nI_clamp (by omega), (hX.2.1 r hr).2.2, t3, List.length_append, hseg, if_pos (Int32.le_refl _)]
  | cons c l ih =>
    intro pre W n X hseg hn hX h hgW
    obtain ⟨n, rfl⟩ : ∃ k, n = k + 1 := ⟨n - 1, by omega⟩
    rw [List.length_cons] at hn
    have hpl : pre.length < (rs.getD r dR).2.2.length := by rw [hseg, List.length_append, List.length_cons]; omega
    have hlen : (flE (rs.take r)).length + pre.length < (flE rs).length := by
      rw [t4, t3, List.length_append, List.length_append]
      omega
    have hcode : X (L + 5) ((flE (rs.take r)).length + pre.length) = c := by
      rw [hX.2.2.2 _ hlen, t4, t3, getD_mid hpl, hseg]
      simp [List.getD_eq_getElem?_getD]
    obtain ⟨b, b1, b2⟩ := hRG.2.2.2.2.2 c (by rw [hseg]; simp)
    obtain ⟨k8, k7, k16⟩ := eff32 ⟨b, b1⟩
    dsimp only at k8 k7 k16
    rw [← b2] at k8 k7 k16
    have hbn : c.toNatClampNeg = b := by rw [b2, nI_clamp (by omega)]
    have nxt : ∀ (X1 : am_Mu) (W1 : Wd), XW K M X1 W1 → WG K W1 → FrO M X1 X → efS x y m v l W1 = efS x y m v (c :: l) W → ∃ X', fJudge_applyEffects_111 (fJudge_applyEffects_7 n) M L (nI r) (nI x) (yI y) m sv (nI ((flE (rs.take r)).length + pre.length)) X1 = some X' ∧ XW K M X' (efS x y m v (c :: l) W) ∧ FrO M X' X := by
      intro X1 W1 q1 q2 q3 q4
      unfold fJudge_applyEffects_111
      rw [show nI ((flE (rs.take r)).length + pre.length) + 1 = nI ((flE (rs.take r)).length + (pre ++ [c]).length) by rw [List.length_append, List.length_singleton, ← Nat.add_assoc]; exact nI_plus _ 1, ← q4]
      obtain ⟨X', i1, i2, i3⟩ := ih (pre ++ [c]) W1 n X1 (by rw [hseg, List.append_assoc]; rfl) (by omega) (hX.of_fr hL (fun a ha => q3 a (by omega) (by omega) (by omega))) q1 q2
      exact ⟨X', i1, i2, i3.trans q3⟩
    have one : ∀ t, 8 * t + 8 ≤ K → efT x y c = some t → ∃ X', fJudge_applyEffects_42 (fJudge_applyEffects_7 n) M L (nI r) (nI x) (yI y) m sv (nI ((flE (rs.take r)).length + pre.length)) c (nI t) X = some X' ∧ XW K M X' (efS x y m v (c :: l) W) ∧ FrO M X' X := by
      intro t ht het
      have eplace : nI t * 8 + (c &&& 7) = nI (8 * t + b % 8) := by
        rw [k7]
        show nI t * nI 8 + _ = _
        rw [nI_mul, nI_plus, Nat.mul_comm]
      have hk : 8 * t + b % 8 < K := by omega
      have e79 : ∀ z : Int32, z = efV c → ∃ X', fJudge_applyEffects_79 (fJudge_applyEffects_7 n) M L (nI r) (nI x) (yI y) m sv (nI ((flE (rs.take r)).length + pre.length)) (nI (8 * t + b % 8)) z X = some X' ∧ XW K M X' (efS x y m v (c :: l) W) ∧ FrO M X' X := by
        intro z hz
        have hzg : TG (z, m, m) := by rw [hz]; exact efV_g hm0 hm1
        unfold fJudge_applyEffects_79
        rw [hM.m, cond_true, cond_true]
        rcases hv with ⟨hv1, hv2⟩ | ⟨hv1, hv2⟩
        · rw [if_pos hv2]
          obtain ⟨X1, j1, j2, j3⟩ := x_wjoin hM hK hk h (hgW _ hk).1 (t := (z, m, m)) hzg.1 (p := m) (q := m) (fun _ => ⟨rfl, rfl⟩)
          rw [j1, Option.bind_some]
          refine nxt X1 _ j2 (wup_g hgW (jn_g (hgW _ hk) hzg)) j3 ?_
          rw [efS, ef1, het]
          dsimp only
          rw [if_pos hv1, hbn, hz]
        · rw [if_neg (by rw [hv2]; decide), x_wput hM (by omega), Option.bind_some]
          refine nxt _ (wup W (8 * t + b % 8) (z, m, m)) h.up3 (wup_g hgW hzg) FrO.up3 ?_
          rw [efS, ef1, het]
          dsimp only
          rw [if_neg (by rw [hv1]; decide), hbn, hz]
      unfold fJudge_applyEffects_42
      rw [if_pos (yI_n (by omega)), eplace]
      by_cases h16 : 16 ≤ b
      · rw [if_pos (by rw [k16]; exact fun h => h h16)]
        exact e79 2 (by unfold efV; rw [hbn, if_pos h16])
      · rw [if_neg (by rw [k16]; exact fun q => q h16)]
        exact e79 0 (by unfold efV; rw [hbn, if_neg h16])
    rw [fJudge_applyEffects_7, hl1, cond_true, inb_n (show r < 24 by omega) (by omega), cond_true, nI_clamp (show r < 2 ^ 31 by omega), (hX.2.1 r hr).2.2, t3, List.length_append, if_neg (by rw [nI_le_iff (by omega) (by omega)]; omega), inb_n (by omega) (by omega), cond_true, nI_clamp (by omega), hcode]
    by_cases h8 : b / 8 % 2 = 0
    · rw [if_neg (by rw [k8]; simpa using h8)]
      exact one x hx (by unfold efT; rw [hbn, if_pos h8])
    · rw [if_pos (by rw [k8]; exact h8)]
      cases hy' : y with
      | some t =>
        rw [hy'] at one
        exact one t (hy t hy') (by unfold efT; rw [hbn, if_neg h8])
      | none =>
        rw [hy'] at nxt
        unfold fJudge_applyEffects_42
        rw [if_neg (show ¬ ¬ yI none = -1 from fun h => h rfl)]
        refine nxt X W h hgW FrO.rf ?_
        rw [efS, ef1]
        unfold efT
        rw [hbn, if_neg h8]
theorem x_eff {K M L : Nat} (hM : isM M) (hL : L = 28 ∨ L = 34 ∨ L = 40 ∨ L = 46) (hK : K ≤ 160) {x : Nat} {y : Option Nat} (hx : 8 * x + 8 ≤ K) (hy : ∀ t, y = some t → 8 * t + 8 ≤ K) {m : Int32} (hm0 : 0 ≤ m) (hm1 : m < 1440000) {v sv : Int32} (hv : (v = 1 ∧ sv = 0) ∨ (v = 2 ∧ sv = 1)) {rs : List LR} (hg : LG rs) {r : Nat} (hr : r < rs.length) {X : am_Mu} {W : Wd} (hX : LX L X rs) (h : XW K M X W) (hgW : WG K W) : ∃ X', fJudge_applyEffects M L (nI r) (nI x) (yI y) m sv X = some X' ∧ XW K M X' (efS x y m v (rs.getD r dR).2.2 W) ∧ FrO M X' X := by
  obtain ⟨hl1, hl2, hl3⟩ := isL_of hL
  have g2 := hg.2.1
  have h4 := (hg.1 _ (getD_mem (d := dR) hr)).2.2.2.2.1
  have hsf : fLaw_effectsFrom L (nI r) X = some (nI (flE (rs.take r)).length, X) := by
    unfold fLaw_effectsFrom
    cases r with
    | zero => rw [if_pos (by decide)]; rfl
    | succ r =>
      rw [if_neg (by show ¬ _ ≤ nI 0; rw [nI_le_iff (by omega) (by omega)]; omega), hl1, cond_true, show nI (r + 1) - 1 = nI r from nI_sub (a := r + 1) (b := 1) (by omega), inb_n (by omega) (by omega), cond_true, nI_clamp (by omega), (hX.2.1 r (by omega)).2.2]
  unfold fJudge_applyEffects
  rw [hl1, cond_true, hsf, Option.bind_some]
  exact x_effL hM hL hK hx hy hm0 hm1 hv hg hr _ [] W am_F X rfl (by unfold am_F; omega) hX h hgW
theorem x_rules {K M L : Nat} (hM : isM M) (hL : L = 28 ∨ L = 34 ∨ L = 40 ∨ L = 46) (hK : K ≤ 160) {x : Nat} {y : Option Nat} (hx : 8 * x + 8 ≤ K) (hy : ∀ t, y = some t → 8 * t + 8 ≤ K) {m kd : Int32} (hm0 : 0 ≤ m) (hm1 : m < 1440000) {rs : List LR} (hg : LG rs) {W0 : Wd} (hg0 : WG K W0) : ∀ rest pre W n (X : am_Mu), rs = pre ++ rest → rest.length < n → LX L X rs → AW (fun k => k / 8 = x ∨ some (k / 8) = y) X W0 → XW K M X W → WG K W → ∃ X', fJudge_applyRules_3 n M L kd (nI x) (yI y) m (nI pre.length) X = some X' ∧ XW K M X' (ruS (ahA W0 x y) kd x y m rest W) ∧ ∀ a, ¬ a = M + 1 → ¬ a = M + 2 → ¬ a = M + 3 → ¬ a = 56 → X' a = X a := by
  obtain ⟨hl1, hl2, hl3⟩ := isL_of hL
  have lo := hM.lo
  intro rest
  induction rest with
  | nil =>
    intro pre W n X hrs hn hX hA h hgW
    obtain ⟨n, rfl⟩ : ∃ k, n = k + 1 := ⟨n - 1, by omega⟩
    rw [List.append_nil] at hrs
    refine ⟨X, ?_, h, fun _ _ _ _ _ => rfl⟩
    rw [fJudge_applyRules_3, hl1, cond_true, hX.1, hrs, if_pos (Int32.le_refl _)]
  | cons r l ih =>
    intro pre W n X hrs hn hX hA h hgW
    obtain ⟨n, rfl⟩ : ∃ k, n = k + 1 := ⟨n - 1, by omega⟩
    rw [List.length_cons] at hn
    have hpl : pre.length < rs.length := by rw [hrs, List.length_append, List.length_cons]; omega
    have hget : rs.getD pre.length dR = r := by rw [hrs]; simp [List.getD_eq_getElem?_getD]
    have g2 := hg.2.1
    have nxt : ∀ (X1 : am_Mu) (W1 : Wd), XW K M X1 W1 → WG K W1 → (∀ a, ¬ a = M + 1 → ¬ a = M + 2 → ¬ a = M + 3 → ¬ a = 56 → X1 a = X a) → ruS (ahA W0 x y) kd x y m l W1 = ruS (ahA W0 x y) kd x y m (r :: l) W → ∃ X', fJudge_applyRules_71 (fJudge_applyRules_3 n) M L kd (nI x) (yI y) m (nI pre.length) X1 = some X' ∧ XW K M X' (ruS (ahA W0 x y) kd x y m (r :: l) W) ∧ ∀ a, ¬ a = M + 1 → ¬ a = M + 2 → ¬ a = M + 3 → ¬ a = 56 → X' a = X a := by
      intro X1 W1 q1 q2 q3 q4
      unfold fJudge_applyRules_71
      rw [show nI pre.length + 1 = nI (pre ++ [r]).length by rw [List.length_append, List.length_singleton]; exact nI_plus _ 1, ← q4]
      obtain ⟨X', i1, i2, i3⟩ := ih (pre ++ [r]) W1 n X1 (by rw [hrs, List.append_assoc]; rfl) (by omega) (hX.of_fr hL (fun a ha => q3 a (by omega) (by omega) (by omega) (by omega))) (by
        intro k hk
        rw [q3 53 (by omega) (by omega) (by omega) (by omega), q3 54 (by omega) (by omega) (by omega) (by omega), q3 55 (by omega) (by omega) (by omega) (by omega)]
        exact hA k hk) q1 q2
      exact ⟨X', i1, i2, fun a b1 b2 b3 b4 => (i3 a b1 b2 b3 b4).trans (q3 a b1 b2 b3 b4)⟩
    rw [fJudge_applyRules_3, hl1, cond_true, hX.1, if_neg (by rw [nI_le_iff (by omega) (by omega)]; omega), inb_n (by omega) (by omega), cond_true, nI_clamp (by omega), (hX.2.1 _ hpl).1, hget]
    by_cases hkd : r.1 = kd
    · rw [if_pos hkd]
      obtain ⟨X1, a1, a2⟩ := x_askV hL (x := x) (y := y) (by omega) (fun t ht => by have := hy t ht; omega) (m := m) hg hpl hX hA
      rw [hget] at a1
      have hv := evV_v (ahA_g hg0 hx hy) m r.2.1
      rw [a1, Option.bind_some]
      dsimp only
      have hX1 : LX L X1 rs := hX.of_fr hL (fun a ha => a2 a (by omega))
      have h1 : XW K M X1 W := h.cong (a2 _ (by omega)) (a2 _ (by omega)) (a2 _ (by omega))
      have e1 : ¬ evV (ahA W0 x y) m r.2.1 = 0 → ∀ sv, (evV (ahA W0 x y) m r.2.1 = 1 ∧ sv = 0) ∨ (evV (ahA W0 x y) m r.2.1 = 2 ∧ sv = 1) → ∃ X', fJudge_applyRules_68 (fJudge_applyRules_3 n) M L kd (nI x) (yI y) m (nI pre.length) M L (nI pre.length) (nI x) (yI y) m sv X1 = some X' ∧ XW K M X' (ruS (ahA W0 x y) kd x y m (r :: l) W) ∧ ∀ a, ¬ a = M + 1 → ¬ a = M + 2 → ¬ a = M + 3 → ¬ a = 56 → X' a = X a := by
        intro hne sv hsv
        obtain ⟨X2, b1, b2, b3⟩ := x_eff hM hL hK hx hy hm0 hm1 hsv hg hpl hX1 h1 hgW
        rw [hget] at b2
        unfold fJudge_applyRules_68
        rw [hM.m, cond_true, hl1, cond_true, b1, Option.bind_some]
        refine nxt X2 _ b2 (efS_g hm0 hm1 hx hy _ W hgW) (fun a q1 q2 q3 q4 => (b3 a q1 q2 q3).trans (a2 a q4)) ?_
        rw [ruS, if_pos ⟨hkd, hne⟩]
      rcases hv with hv | hv | hv
      · rw [if_pos (by rw [hv]; decide)]
        refine nxt X1 W h1 hgW (fun a q1 q2 q3 q4 => a2 a q4) ?_
        rw [ruS, if_neg (fun q => q.2 hv)]
      · rw [if_neg (by rw [hv]; decide), if_pos (by rw [hv]; decide)]
        exact e1 (by rw [hv]; decide) 0 (Or.inl ⟨hv, rfl⟩)
      · rw [if_neg (by rw [hv]; decide), if_neg (by rw [hv]; decide)]
        exact e1 (by rw [hv]; decide) 1 (Or.inr ⟨hv, rfl⟩)
    · rw [if_neg hkd]
      refine nxt X W h hgW (fun _ _ _ _ _ => rfl) ?_
      rw [ruS, if_neg (fun q => hkd q.1)]
theorem XW.ext {K M : Nat} {X : am_Mu} {W W' : Wd} (h : XW K M X W) (he : ∀ k, k < K → W' k = W k) : XW K M X W' := by
  intro k hk
  rw [he k hk]
  exact h k hk
/-- an act -/
theorem x_perform {K M L : Nat} (hM : isM M) (hL : L = 28 ∨ L = 34 ∨ L = 40 ∨ L = 46) (hK : K ≤ 160) {a : Nat} {b : Option Nat} (ha : 8 * a + 8 ≤ K) (hb : ∀ t, b = some t → 8 * t + 8 ≤ K ∧ ¬ a = t) {m kd sure : Int32} (hm0 : 0 ≤ m) (hm1 : m < 1440000) {rs : List LR} (hg : LG rs) {X : am_Mu} {W : Wd} (hX : LX L X rs) (h : XW K M X W) (hgW : WG K W) : ∃ X', fJudge_perform M L kd (nI a) (yI b) m sure X = some X' ∧ XW K M X' (acS rs kd a b m sure W) ∧ FrMk M X' X := by
  have lo := hM.lo
  have l24 := hg.2.1
  have e8 : ∀ t, nI t * 8 = nI (8 * t) := by
    intro t
    show nI t * nI 8 = _
    rw [nI_mul, Nat.mul_comm]
  obtain ⟨X1, c1, c2, c3⟩ := x_copyT hM (show a < 20 by omega) ha h (P := fun _ => False) (fun k hk => hk.elim)
  have hX1 : LX L X1 rs := hX.of_fr hL (fun r hr => c3 r (by omega) (by omega) (by omega))
  have h1 : XW K M X1 W := h.cong (c3 _ (by omega) (by omega) (by omega)) (c3 _ (by omega) (by omega) (by omega)) (c3 _ (by omega) (by omega) (by omega))
  cases b with
  | none =>
    obtain ⟨X2, d1, d2, d3⟩ := x_rules hM hL hK ha (y := none) (fun t h => by cases h) hm0 hm1 (kd := kd) hg hgW rs [] W am_F X1 rfl (by unfold am_F; omega) hX1 (fun k hk => c2 k (Or.inl (by rcases hk with hk | hk; exact hk; cases hk))) h1 hgW
    have e1 : fJudge_perform M L kd (nI a) (yI none) m sure X = fJudge_perform_69 M (nI a) (yI none) sure 0 X2 := by
      unfold fJudge_perform fJudge_perform_11 fJudge_perform_38 fJudge_applyRules
      rw [if_pos (show yI none = -1 from rfl), c1, Option.bind_some, if_pos rfl]
      change fJudge_applyRules_3 am_F M L kd (nI a) (yI none) m 0 X1 = some X2 at d1
      rw [d1, Option.bind_some, if_pos rfl]
    have hf : FrMk M X2 X := fun r q1 q2 q3 q4 q5 q6 q7 => (d3 r q1 q2 q3 q7).trans (c3 r q4 q5 q6)
    rw [e1]
    unfold fJudge_perform_69
    by_cases hs : sure = 0
    · rw [if_neg (by simpa using hs), hM.m, cond_true]
      obtain ⟨X3, j1, j2, j3⟩ := x_joinT hM (show a < 20 by omega) hK ha hgW 8 (8 * a) am_F X2 _ (by omega) (by omega) (by unfold am_F; omega) d2 (acR_g (b := none) hm0 hm1 ha (fun t h => by cases h) hgW) (by
        intro k hk
        rw [d3 53 (by omega) (by omega) (by omega) (by omega), d3 54 (by omega) (by omega) (by omega) (by omega), d3 55 (by omega) (by omega) (by omega) (by omega)]
        exact c2 k (Or.inl hk))
      have j1' : fMarks_joinThing M 52 (nI a) X2 = some X3 := by
        unfold fMarks_joinThing
        rw [e8]
        exact j1
      rw [j1', Option.bind_some, if_pos rfl]
      refine ⟨X3, rfl, j2.ext ?_, j3.toM.trans hf⟩
      intro k hk
      unfold acS
      rw [if_pos hs]
      by_cases hka : k / 8 = a
      · rw [if_pos (Or.inl hka), if_pos (by omega)]
        rfl
      · rw [if_neg (by rintro (h | h); exact hka h; cases h), if_neg (by omega)]
        rfl
    · rw [if_pos hs]
      refine ⟨X2, rfl, d2.ext ?_, hf⟩
      intro k hk
      unfold acS
      rw [if_neg hs]
      rfl
  | some b =>
    obtain ⟨hbK, hab⟩ := hb b rfl
    obtain ⟨X2, c4, c5, c6⟩ := x_copyT hM (show b < 20 by omega) hbK h1 c2
    have hX2 : LX L X2 rs := hX1.of_fr hL (fun r hr => c6 r (by omega) (by omega) (by omega))
    have h2 : XW K M X2 W := h1.cong (c6 _ (by omega) (by omega) (by omega)) (c6 _ (by omega) (by omega) (by omega)) (c6 _ (by omega) (by omega) (by omega))
    obtain ⟨X3, d1, d2, d3⟩ := x_rules hM hL hK ha (y := some b) (fun t h => by cases h; exact hbK) hm0 hm1 (kd := kd) hg hgW rs [] W am_F X2 rfl (by unfold am_F; omega) hX2 (fun k hk => c5 k (by
      rcases hk with hk | hk
      · exact Or.inr (Or.inl hk)
      · exact Or.inl (Option.some.inj hk))) h2 hgW
    have g3 := ruS_g (A := ahA W a (some b)) (kd := kd) hm0 hm1 ha (y := some b) (fun t h => by cases h; exact hbK) rs W hgW
    have hX3 : LX L X3 rs := hX2.of_fr hL (fun r hr => d3 r (by omega) (by omega) (by omega) (by omega))
    have a53 : ∀ r, r = 53 ∨ r = 54 ∨ r = 55 → X3 r = X2 r := fun r hr => d3 r (by omega) (by omega) (by omega) (by omega)
    obtain ⟨X4, f1, f2, f3⟩ := x_rules hM hL hK hbK (y := some a) (fun t h => by cases h; exact ha) hm0 hm1 (kd := kd) hg hgW rs [] _ am_F X3 rfl (by unfold am_F; omega) hX3 (fun k hk => by
      rw [a53 53 (by omega), a53 54 (by omega), a53 55 (by omega)]
      exact c5 k (by
        rcases hk with hk | hk
        · exact Or.inl hk
        · exact Or.inr (Or.inl (Option.some.inj hk)))) d2 g3
    have g4 := ruS_g (A := ahA W b (some a)) (kd := kd) hm0 hm1 hbK (y := some a) (fun t h => by cases h; exact ha) rs _ g3
    have e1 : fJudge_perform M L kd (nI a) (yI (some b)) m sure X = fJudge_perform_69 M (nI a) (yI (some b)) sure 1 X4 := by
      unfold fJudge_perform fJudge_perform_11 fJudge_perform_38 fJudge_applyRules
      rw [if_neg (show ¬ yI (some b) = -1 from yI_n (by omega)), c1, Option.bind_some, if_neg (by decide)]
      change fMarks_copyThing 52 M (yI (some b)) X1 = some X2 at c4
      rw [c4, Option.bind_some]
      change fJudge_applyRules_3 am_F M L kd (nI a) (yI (some b)) m 0 X2 = some X3 at d1
      rw [d1, Option.bind_some, if_neg (by decide)]
      change fJudge_applyRules_3 am_F M L kd (yI (some b)) (nI a) m 0 X3 = some X4 at f1
      rw [f1, Option.bind_some]
    have b53 : ∀ r, r = 53 ∨ r = 54 ∨ r = 55 → X4 r = X2 r := fun r hr => (f3 r (by omega) (by omega) (by omega) (by omega)).trans (a53 r hr)
    have hf : FrMk M X4 X := fun r q1 q2 q3 q4 q5 q6 q7 => (f3 r q1 q2 q3 q7).trans ((d3 r q1 q2 q3 q7).trans ((c6 r q4 q5 q6).trans (c3 r q4 q5 q6)))
    rw [e1]
    unfold fJudge_perform_69
    by_cases hs : sure = 0
    · rw [if_neg (by simpa using hs), hM.m, cond_true]
      obtain ⟨X5, j1, j2, j3⟩ := x_joinT hM (show a < 20 by omega) hK ha hgW 8 (8 * a) am_F X4 _ (by omega) (by omega) (by unfold am_F; omega) f2 g4 (by
        intro k hk
        rw [b53 53 (by omega), b53 54 (by omega), b53 55 (by omega)]
        exact c5 k (Or.inr (Or.inl hk)))
      have j1' : fMarks_joinThing M 52 (nI a) X4 = some X5 := by
        unfold fMarks_joinThing
        rw [e8]
        exact j1
      have g5 : WG K (fun k => if 8 * a ≤ k ∧ k < 8 * a + 8 then jn (ruS (ahA W b (some a)) kd b (some a) m rs (ruS (ahA W a (some b)) kd a (some b) m rs W) k) (W k) else ruS (ahA W b (some a)) kd b (some a) m rs (ruS (ahA W a (some b)) kd a (some b) m rs W) k) := by
        intro k hk
        dsimp only
        split
        · exact jn_g (g4 k hk) (hgW k hk)
        · exact g4 k hk
      obtain ⟨X6, k1, k2, k3⟩ := x_joinT hM (show b < 20 by omega) hK hbK hgW 8 (8 * b) am_F X5 _ (by omega) (by omega) (by unfold am_F; omega) j2 g5 (by
        intro k hk
        rw [j3 53 (by omega) (by omega) (by omega), j3 54 (by omega) (by omega) (by omega), j3 55 (by omega) (by omega) (by omega), b53 53 (by omega), b53 54 (by omega), b53 55 (by omega)]
        exact c5 k (Or.inl hk))
      have k1' : fMarks_joinThing M 52 (yI (some b)) X5 = some X6 := by
        unfold fMarks_joinThing
        show fMarks_joinThing_5 am_F M 52 (nI b) (nI b * 8) X5 = some X6
        rw [e8]
        exact k1
      rw [j1', Option.bind_some, if_neg (by decide), k1', Option.bind_some]
      refine ⟨X6, rfl, k2.ext ?_, k3.toM.trans (j3.toM.trans hf)⟩
      intro k hk
      unfold acS
      rw [if_pos hs]
      by_cases hka : k / 8 = a
      · rw [if_pos (Or.inl hka), if_neg (by omega), if_pos (by omega)]
        rfl
      · by_cases hkb : k / 8 = b
        · rw [if_pos (Or.inr (by rw [hkb])), if_pos (by omega), if_neg (by omega)]
          rfl
        · rw [if_neg (by rintro (h | h); exact hka h; exact hkb (Option.some.inj h)), if_neg (by omega), if_neg (by omega)]
          rfl
    · rw [if_pos hs]
      refine ⟨X4, rfl, f2.ext ?_, hf⟩
      intro k hk
      unfold acS
      rw [if_neg hs]
      rfl

/-- what the asking of marks may write -/
def SB (X μ : am_Mu) : Prop := ∀ a, a < 53 ∨ (75 < a ∧ a < 144) ∨ 151 < a → X a = μ a
theorem SB.rf {μ : am_Mu} : SB μ μ := fun _ _ => rfl
theorem l_canAsk (a b c d e : Int32) (μ : am_Mu) : fB_canAsk a b c d e μ = some (b2i ((0 ≤ a ∧ a < 2) ∧ (0 ≤ b ∧ b < μ 13 14) ∧ (0 ≤ c ∧ c < 8) ∧ (0 ≤ d ∧ d < 1440000) ∧ 0 ≤ e ∧ e < 1440000), μ) := by
  unfold fB_canAsk fB_canAsk_51
  rw [l_isIn, Option.bind_some]
  dsimp only
  by_cases h1 : 0 ≤ a ∧ a < 2
  · rw [b2i_t h1, if_neg (by decide), l_isIn, Option.bind_some]
    dsimp only
    by_cases h2 : 0 ≤ b ∧ b < μ 13 14
    · rw [b2i_t h2, if_neg (by decide), l_isIn, Option.bind_some]
      dsimp only
      by_cases h3 : 0 ≤ c ∧ c < 8
      · rw [b2i_t h3, if_neg (by decide), l_isMinuteB, Option.bind_some]
        dsimp only
        by_cases h4 : 0 ≤ d ∧ d < 1440000
        · rw [b2i_t h4, if_neg (by decide), l_isMinuteB, Option.bind_some]
          dsimp only
          by_cases h5 : 0 ≤ e ∧ e < 1440000
          · rw [b2i_t h5, if_neg (by decide), b2i_t ⟨h1, h2, h3, h4, h5⟩]
          · rw [b2i_f h5, if_pos rfl, b2i_f (fun h => h5 h.2.2.2.2)]
        · rw [b2i_f h4, if_pos rfl, b2i_f (fun h => h4 h.2.2.2.1)]
      · rw [b2i_f h3, if_pos rfl, b2i_f (fun h => h3 h.2.2.1)]
    · rw [b2i_f h2, if_pos rfl, b2i_f (fun h => h2 h.2.1)]
  · rw [b2i_f h1, if_pos rfl, b2i_f (fun h => h1 h.1)]
def dff (a b : Int32) : Int32 := if a = b then 0 else if a + b = 2 ∧ ¬ a = 1 then 2 else 1
def odv (A B : Wd) : Nat → Nat → Int32 → Int32
  | 0, _, r => r
  | q + 1, k, r => odv A B q (k + 1) (if r < dff (A k).1 (B k).1 then dff (A k).1 (B k).1 else r)
theorem dff_x {a b : Int32} (ha : V3 a) (hb : V3 b) : (if 0 ≤ a - b then a - b else 0 - (a - b)) = dff a b := by
  rcases ha with rfl | rfl | rfl <;> rcases hb with rfl | rfl | rfl <;> decide
theorem x_unl {K M N t : Nat} (hM : isM M) (hN : isM N) (hK : K ≤ 160) (ht : 8 * t + 8 ≤ K) {X : am_Mu} {A B : Wd} (hA : XW K M X A) (hB : XW K N X B) (gA : WG K A) (gB : WG K B) : ∀ q k r n, k + q = 8 * t + 8 → q < n → fMarks_unlike_8 n M N (nI t) r (nI k) X = some (odv A B q k r, X) := by
  have e8 : nI t * 8 + 8 = nI (8 * t + 8) := by
    show nI t * nI 8 + nI 8 = _
    rw [nI_mul, nI_plus, Nat.mul_comm]
  intro q
  induction q with
  | zero =>
    intro k r n hk hn
    obtain ⟨n, rfl⟩ : ∃ k, n = k + 1 := ⟨n - 1, by omega⟩
    rw [fMarks_unlike_8, if_pos (by rw [e8]; exact (nI_le_iff (by omega) (by omega)).mpr (by omega))]
    rfl
  | succ q ih =>
    intro k r n hk hn
    obtain ⟨n, rfl⟩ : ∃ k, n = k + 1 := ⟨n - 1, by omega⟩
    rw [fMarks_unlike_8, if_neg (by rw [e8, nI_le_iff (by omega) (by omega)]; omega), hM.m, cond_true, inb_n (by omega) (by omega), cond_true, hN.m, cond_true, nI_clamp (by omega), (hA k (by omega)).1, (hB k (by omega)).1, dff_x (gA k (by omega)).1 (gB k (by omega)).1, show nI k + 1 = nI (k + 1) from nI_plus _ 1, ih (k + 1) _ n (by omega) (by omega)]
    rfl
theorem x_oth {K t : Nat} (hK : K ≤ 160) (ht : 8 * t + 8 ≤ K) {X : am_Mu} {A B : Wd} (hA : XW K 58 X A) (hB : XW K 62 X B) (gA : WG K A) (gB : WG K B) : fTrace_otherwise (nI t) X = some (odv A B 8 (8 * t) 0, X) := by
  have e8 : nI t * 8 = nI (8 * t) := by
    show nI t * nI 8 = _
    rw [nI_mul, Nat.mul_comm]
  have h := x_unl (M := 58) (N := 62) (by unfold isM; omega) (by unfold isM; omega) hK ht hA hB gA gB 8 (8 * t) 0 am_F (by omega) (by unfold am_F; omega)
  unfold fTrace_otherwise fMarks_unlike
  rw [e8, h, Option.bind_some]
theorem dff_p (a b : Int32) : 0 ≤ dff a b ∧ (dff a b = 0 ↔ a = b) := by
  unfold dff
  by_cases h : a = b
  · rw [if_pos h]
    exact ⟨by decide, by simp [h]⟩
  · rw [if_neg h]
    split
    · exact ⟨by decide, by simp [h]⟩
    · exact ⟨by decide, by simp [h]⟩
theorem odv_le (A B : Wd) : ∀ q k r, r ≤ odv A B q k r := by
  intro q
  induction q with
  | zero => exact fun k r => Int32.le_refl _
  | succ q ih =>
    intro k r
    unfold odv
    have := ih (k + 1) (if r < dff (A k).1 (B k).1 then dff (A k).1 (B k).1 else r)
    refine Int32.le_trans ?_ this
    split
    · rename_i h
      exact Int32.le_of_lt h
    · exact Int32.le_refl _
theorem odv_z (A B : Wd) : ∀ q k, (∀ j, k ≤ j → j < k + q → (A j).1 = (B j).1) → odv A B q k 0 = 0 := by
  intro q
  induction q with
  | zero => exact fun k _ => rfl
  | succ q ih =>
    intro k h
    unfold odv
    rw [(dff_p _ _).2.mpr (h k (Nat.le_refl _) (by omega)), if_neg (by decide)]
    exact ih (k + 1) (fun j h1 h2 => h j (by omega) (by omega))
theorem odv_n (A B : Wd) : ∀ q k, ¬ 0 < odv A B q k 0 → ∀ j, k ≤ j → j < k + q → (A j).1 = (B j).1 := by
  intro q
  induction q with
  | zero => intro k h j h1 h2; omega
  | succ q ih =>
    intro k h j h1 h2
    unfold odv at h
    by_cases hd : (A k).1 = (B k).1
    · rw [(dff_p _ _).2.mpr hd, if_neg (by decide)] at h
      by_cases hjk : j = k
      · rw [hjk]; exact hd
      · exact ih (k + 1) h j (by omega) (by omega)
    · exfalso
      obtain ⟨p1, p2⟩ := dff_p (A k).1 (B k).1
      have hpos : 0 < dff (A k).1 (B k).1 := by
        have : ¬ dff (A k).1 (B k).1 = 0 := fun q => hd (p2.mp q)
        grind
      rw [if_pos hpos] at h
      have := odv_le A B q (k + 1) (dff (A k).1 (B k).1)
      grind
theorem odv_cong {A B A' B' : Wd} : ∀ q k r, (∀ j, k ≤ j → j < k + q → A' j = A j ∧ B' j = B j) → odv A' B' q k r = odv A B q k r := by
  intro q
  induction q with
  | zero => exact fun _ _ _ => rfl
  | succ q ih =>
    intro k r h
    unfold odv
    rw [(h k (Nat.le_refl _) (by omega)).1, (h k (Nat.le_refl _) (by omega)).2, ih (k + 1) _ (fun j h1 h2 => h j (by omega) (by omega))]
theorem evi3 {e n : Int32} (h1 : 10 ≤ e) (h2 : e < 10 + n) (h0 : 0 ≤ n) (h3 : n ≤ 200) : 0 ≤ e - 10 ∧ e - 10 < n := by
  have he0 : 0 ≤ e := Int32.le_trans (show (0 : Int32) ≤ 10 by decide) h1
  have hn : n.toNatClampNeg ≤ 200 := nt_le (b := 200) h0 h3
  rw [← nI_nt he0] at h1 h2 ⊢
  rw [← nI_nt h0] at h2 ⊢
  have a1 := (nI_le_iff (a := 10) (by omega) nt_b).mp h1
  have e1 : (10 : Int32) + nI n.toNatClampNeg = nI (10 + n.toNatClampNeg) := nI_plus 10 _
  rw [e1, nI_lt_iff nt_b (by omega)] at h2
  have e2 : nI e.toNatClampNeg - 10 = nI (e.toNatClampNeg - 10) := nI_sub (b := 10) a1
  rw [e2]
  exact ⟨nI_pos' (by omega), (nI_lt_iff (by omega) (by omega)).mpr (by omega)⟩
theorem evi4 {e n : Int32} (h1 : 0 ≤ e) (h2 : e < n) (h3 : n ≤ 10) : ¬ (10 : Int32) ≤ e := by grind
theorem x_note {K th : Nat} (hK : K ≤ 160) (hth : 8 * th + 8 ≤ K) {X : am_Mu} {A B : Wd} (hA : XW K 58 X A) (hB : XW K 62 X B) (gA : WG K A) (gB : WG K B) (act org : Int32) : ∃ X', fTrace_noteThing (nI th) act org X = some X' ∧ (∀ a, ¬ a = 66 → X' a = X a) ∧ ∀ j, X' 66 j = if j = th ∧ X 66 th = -1 ∧ ¬ nI th = org ∧ 0 < odv A B 8 (8 * th) 0 then act else X 66 j := by
  unfold fTrace_noteThing
  by_cases h1 : nI th = org
  · rw [if_pos h1]
    exact ⟨X, rfl, fun _ _ => rfl, fun j => by rw [if_neg (fun q => q.2.2.1 h1)]⟩
  · rw [if_neg h1, inb_n (by omega) (by omega), cond_true, nI_clamp (by omega)]
    by_cases h2 : X 66 th = -1
    · rw [if_neg (by simpa using h2), x_oth hK hth hA hB gA gB, Option.bind_some]
      dsimp only
      by_cases h3 : odv A B 8 (8 * th) 0 ≤ 0
      · rw [if_pos h3]
        exact ⟨X, rfl, fun _ _ => rfl, fun j => by rw [if_neg (fun q => absurd q.2.2.2 (Int32.not_lt.mpr h3))]⟩
      · rw [if_neg h3]
        refine ⟨_, rfl, fun a ha => up_row ha, fun j => ?_⟩
        rw [up_at]
        by_cases hj : j = th
        · rw [if_pos hj, if_pos ⟨hj, h2, h1, Int32.not_le.mp h3⟩]
        · rw [if_neg hj, if_neg (fun q => hj q.1)]
    · rw [if_pos h2]
      exact ⟨X, rfl, fun _ _ => rfl, fun j => by rw [if_neg (fun q => h2 q.2.1)]⟩
theorem l_canTrace (a b c : Int32) (μ : am_Mu) : fB_canTrace a b c μ = some (b2i ((0 ≤ a ∧ a < μ 13 16) ∧ (0 ≤ b ∧ b < 2) ∧ 0 ≤ c ∧ c < μ 13 14), μ) := by
  unfold fB_canTrace fB_canTrace_40
  rw [l_isIn, Option.bind_some]
  dsimp only
  by_cases h1 : 0 ≤ a ∧ a < μ 13 16
  · rw [b2i_t h1, if_neg (by decide), l_isIn, Option.bind_some]
    dsimp only
    by_cases h2 : 0 ≤ b ∧ b < 2
    · rw [b2i_t h2, if_neg (by decide), l_isIn, Option.bind_some]
      dsimp only
      by_cases h3 : 0 ≤ c ∧ c < μ 13 14
      · rw [b2i_t h3, if_neg (by decide), b2i_t ⟨h1, h2, h3⟩]
      · rw [b2i_f h3, if_pos rfl, b2i_f (fun h => h3 h.2.2)]
    · rw [b2i_f h2, if_pos rfl, b2i_f (fun h => h2 h.2.1)]
  · rw [b2i_f h1, if_pos rfl, b2i_f (fun h => h1 h.1)]
def othT (μ : am_Mu) (a : Int32) (t : Nat) : Int32 := if ¬ μ 16 a.toNatClampNeg = nI t then μ 16 a.toNatClampNeg else μ 17 a.toNatClampNeg
def wnx (μ : am_Mu) (R : Nat → Int32) (i t : Nat) : Int32 := if nI t = μ 22 i then -1 else if R t = -1 then -1 else othT μ (R t) t
def wback (nx : Nat → Int32) : Nat → List Nat → Int32 → List Nat
  | 0, _, _ => []
  | q + 1, vis, a => if a = -1 then [] else if a.toNatClampNeg ∈ vis then [] else a.toNatClampNeg :: wback nx q (a.toNatClampNeg :: vis) (nx a.toNatClampNeg)
theorem wback_none {nx : Nat → Int32} {vis : List Nat} : ∀ q, wback nx q vis (-1) = [] := by
  intro q
  cases q with
  | zero => rfl
  | succ q => rw [wback, if_pos rfl]
theorem wback_seen {nx : Nat → Int32} {vis : List Nat} {a : Int32} (h : a.toNatClampNeg ∈ vis) : ∀ q, wback nx q vis a = [] := by
  intro q
  cases q with
  | zero => rfl
  | succ q =>
    rw [wback]
    by_cases ha : a = -1
    · rw [if_pos ha]
    · rw [if_neg ha, if_pos h]
theorem wback_len {nx : Nat → Int32} : ∀ q vis a, (wback nx q vis a).length ≤ q := by
  intro q
  induction q with
  | zero => exact fun _ _ => Nat.le_refl _
  | succ q ih =>
    intro vis a
    rw [wback]
    split
    · exact Nat.zero_le _
    · split
      · exact Nat.zero_le _
      · rw [List.length_cons]
        have := ih (a.toNatClampNeg :: vis) (nx a.toNatClampNeg)
        omega
theorem nd_len : ∀ (N : Nat) (l : List Nat), l.Nodup → (∀ x, x ∈ l → x < N) → l.length ≤ N := by
  intro N
  induction N with
  | zero =>
    intro l _ h
    cases l with
    | nil => exact Nat.le_refl _
    | cons a l => exact absurd (h a List.mem_cons_self) (by omega)
  | succ N ih =>
    intro l hl h
    have h1 := ih (l.erase N) (hl.erase N) (by
      intro x hx
      have hm := (hl.mem_erase_iff).mp hx
      have := h x hm.2
      have := hm.1
      omega)
    have h2 := List.length_erase (a := N) (l := l)
    split at h2 <;> omega
theorem x_isStep {t k : Nat} (hk : k ≤ 20) {X : am_Mu} {vis : List Nat} (h : t ∈ vis ↔ ∃ j, j < k ∧ X 67 j = nI t) : fTrace_isStep (nI t) (nI k) X = some (b2i (t ∈ vis), X) := by
  have key : ∀ q j n, j + q = k → q < n → (∀ l, l < j → ¬ X 67 l = nI t) → fTrace_isStep_2 n (nI t) (nI k) (nI j) X = some (b2i (t ∈ vis), X) := by
    intro q
    induction q with
    | zero =>
      intro j n hj hn hl
      obtain ⟨n, rfl⟩ : ∃ k, n = k + 1 := ⟨n - 1, by omega⟩
      rw [fTrace_isStep_2, if_pos (by rw [nI_le_iff (by omega) (by omega)]; omega), b2i_f]
      intro hm
      obtain ⟨l, h1, h2⟩ := h.mp hm
      exact hl l (by omega) h2
    | succ q ih =>
      intro j n hj hn hl
      obtain ⟨n, rfl⟩ : ∃ k, n = k + 1 := ⟨n - 1, by omega⟩
      rw [fTrace_isStep_2, if_neg (by rw [nI_le_iff (by omega) (by omega)]; omega), inb_n (by omega) (by omega), cond_true, nI_clamp (by omega)]
      by_cases hx : X 67 j = nI t
      · rw [if_neg (by simpa using hx), b2i_t (h.mpr ⟨j, by omega, hx⟩)]
      · rw [if_pos hx, show nI j + 1 = nI (j + 1) from nI_plus _ 1]
        refine ih (j + 1) n (by omega) (by omega) ?_
        intro l hlj
        by_cases hlj2 : l = j
        · rw [hlj2]; exact hx
        · exact hl l (by omega)
  exact key k 0 am_F (by omega) (by unfold am_F; omega) (fun l hl => absurd hl (by omega))
/-- what the next one may be -/
def WN (N : Nat) (a : Int32) : Prop := a = -1 ∨ ∃ t, t < N ∧ a = nI t
