/-! E: the reference does an act -/
theorem ef32M : ∀ b : Fin 32, ((nI b.val / 8 - nI b.val / 8 / 2 * 2 = 0) ↔ b.val / 8 % 2 = 0) ∧ (nI b.val - nI b.val / 8 * 8 = nI (b.val % 8)) ∧ (nI b.val < 16 ↔ ¬ 16 ≤ b.val) := by decide +kernel
theorem m_does {K w l : Nat} (hw : w < 2) (hl : l < 4) (hK : K ≤ 160) {x : Nat} {y : Option Nat} (hx : 8 * x + 8 ≤ K) (hy : ∀ t, y = some t → 8 * t + 8 ≤ K) {m : Int32} (hm0 : 0 ≤ m) (hm1 : m < 1440000) {v : Int32} (hv : v = 1 ∨ v = 2) {rs : List LR} (hg : LG rs) {r : Nat} (hr : r < rs.length) : ∀ rest pre W n (Y : am_Mu), (rs.getD r dR).2.2 = pre ++ rest → rest.length < n → LM l Y rs → MW K w Y W → WG K W → ∃ Y', fM_does_3 n (nI l) (nI r) v (nI w) (nI x) (yI y) m (nI pre.length) Y = some Y' ∧ MW K w Y' (efS x y m v rest W) ∧ FrNO w Y' Y := by
  obtain ⟨g1, g2, g3, g4⟩ := hg
  have hRG := g1 _ (getD_mem (d := dR) hr)
  have h4 := hRG.2.2.2.2.1
  have e24 : (24 : Int32) * nI l + nI r = nI (24 * l + r) := by
    show nI 24 * nI l + nI r = _
    rw [nI_mul, nI_plus]
  have LMfr : ∀ Y Y' : am_Mu, LM l Y rs → FrNO w Y' Y → LM l Y' rs := by
    intro Y Y' h hf
    exact h.cong ⟨g1, g2, g3, g4⟩ (by rw [hf.1 114 (by omega)]) (fun a i q1 q2 _ _ => by rw [hf.1 a (by omega)]) (fun i _ _ => by rw [hf.1 119 (by omega)]) (fun a i q1 q2 _ _ => by rw [hf.1 a (by omega)])
  intro rest
  induction rest with
  | nil =>
    intro pre W n Y hseg hn hY h hgW
    obtain ⟨n, rfl⟩ : ∃ k, n = k + 1 := ⟨n - 1, by omega⟩
    rw [List.append_nil] at hseg
    refine ⟨Y, ?_, h, FrNO.rf⟩
    rw [fM_does_3, e24, inb_n (by omega) (by omega), cond_true, nI_clamp (by omega), (hY.2.1 r hr).2.2.2.1, hseg, if_pos (Int32.le_refl _)]
  | cons c k ih =>
    intro pre W n Y hseg hn hY h hgW
    obtain ⟨n, rfl⟩ : ∃ k, n = k + 1 := ⟨n - 1, by omega⟩
    rw [List.length_cons] at hn
    have hpl : pre.length < (rs.getD r dR).2.2.length := by rw [hseg, List.length_append, List.length_cons]; omega
    obtain ⟨b, b1, b2⟩ := hRG.2.2.2.2.2 c (by rw [hseg]; simp)
    obtain ⟨k8, k7, k16⟩ := ef32M ⟨b, b1⟩
    dsimp only at k8 k7 k16
    have hcode : Y 119 (96 * l + 4 * r + pre.length) = nI b := by
      rw [(hY.2.1 r hr).2.2.2.2 _ hpl, ← b2, hseg]
      simp [List.getD_eq_getElem?_getD]
    have e4 : (4 : Int32) * nI (24 * l + r) + nI pre.length = nI (96 * l + 4 * r + pre.length) := by
      show nI 4 * _ + _ = _
      rw [nI_mul, nI_plus]
      congr 1
      omega
    have hbn : c.toNatClampNeg = b := by rw [b2, nI_clamp (by omega)]
    have nxt : ∀ (Y1 : am_Mu) (W1 : Wd), MW K w Y1 W1 → WG K W1 → FrNO w Y1 Y → efS x y m v k W1 = efS x y m v (c :: k) W → ∃ Y', fM_does_169 (fM_does_3 n) (nI l) (nI r) v (nI w) (nI x) (yI y) m (nI pre.length) Y1 = some Y' ∧ MW K w Y' (efS x y m v (c :: k) W) ∧ FrNO w Y' Y := by
      intro Y1 W1 q1 q2 q3 q4
      unfold fM_does_169
      rw [show nI pre.length + 1 = nI (pre ++ [c]).length by rw [List.length_append, List.length_singleton]; exact nI_plus _ 1, ← q4]
      obtain ⟨Y', i1, i2, i3⟩ := ih (pre ++ [c]) W1 n Y1 (by rw [hseg, List.append_assoc]; rfl) (by omega) (LMfr _ _ hY q3) q1 q2
      exact ⟨Y', i1, i2, i3.trans q3⟩
    have one : ∀ t, 8 * t + 8 ≤ K → efT x y c = some t → ∃ Y', fM_does_58 (fM_does_3 n) (nI l) (nI r) v (nI w) (nI x) (yI y) m (nI pre.length) (nI b) (nI t) Y = some Y' ∧ MW K w Y' (efS x y m v (c :: k) W) ∧ FrNO w Y' Y := by
      intro t ht het
      have hk : 8 * t + b % 8 < K := by omega
      have epl : ((160 : Int32) * nI w + (8 : Int32) * nI t) + nI (b % 8) = nI (160 * w + (8 * t + b % 8)) := by
        show (nI 160 * nI w + nI 8 * nI t) + _ = _
        rw [nI_mul, nI_mul, nI_plus, nI_plus, Nat.add_assoc]
      have hzg : TG (efV c, m, m) := efV_g hm0 hm1
      have ejn : v = 1 → ∀ z : Int32, z = efV c → ∃ Y', fM_does_121 (fM_does_3 n) (nI l) (nI r) v (nI w) (nI x) (yI y) m (nI pre.length) (nI (160 * w + (8 * t + b % 8))) z Y = some Y' ∧ MW K w Y' (efS x y m v (c :: k) W) ∧ FrNO w Y' Y := by
        intro hv1 z hz
        unfold fM_does_121
        obtain ⟨Y1, j1, j2, j3⟩ := m_wjoins hw hK hk h (hgW _ hk).1 (t := (efV c, m, m)) hzg.1 (p := m) (q := m) (fun _ => ⟨rfl, rfl⟩)
        change fM_joins (nI (160 * w + (8 * t + b % 8))) (efV c) m m Y = some Y1 at j1
        rw [hz, j1, Option.bind_some]
        refine nxt Y1 _ j2 (wup_g hgW (jn_g (hgW _ hk) hzg)) j3 ?_
        rw [efS, ef1, het]
        dsimp only
        rw [if_pos hv1, hbn]
      have est : ¬ v = 1 → ∀ z p : Int32, z = efV c → (¬ efV c = 0 → p = m) → ∃ Y', fM_does_166 (fM_does_3 n) (nI l) (nI r) v (nI w) (nI x) (yI y) m (nI pre.length) (nI (160 * w + (8 * t + b % 8))) z p p Y = some Y' ∧ MW K w Y' (efS x y m v (c :: k) W) ∧ FrNO w Y' Y := by
        intro hv1 z p hz hp
        unfold fM_does_166
        rw [m_wsets hw (by omega), Option.bind_some]
        refine nxt _ (wup W (8 * t + b % 8) (efV c, m, m)) (h.up3 hz (fun q => ⟨hp q, hp q⟩)) (wup_g hgW hzg) (FrNO.up3 (by omega)) ?_
        rw [efS, ef1, het]
        dsimp only
        rw [if_neg hv1, hbn]
      unfold fM_does_58
      rw [if_pos (yI_n (by omega)), k7, epl]
      by_cases h16 : 16 ≤ b
      · rw [if_neg (by rw [k16]; exact fun q => q h16)]
        have hV : efV c = 2 := by unfold efV; rw [hbn, if_pos h16]
        unfold fM_does_101
        by_cases hv1 : v = 1
        · rw [if_neg (by simpa using hv1), if_neg (by decide)]
          exact ejn hv1 2 hV.symm
        · rw [if_pos hv1, if_neg (by decide)]
          unfold fM_does_144
          rw [if_neg (by decide)]
          unfold fM_does_155
          rw [if_neg (by decide)]
          exact est hv1 2 m hV.symm (fun _ => rfl)
      · rw [if_pos (by rw [k16]; exact h16)]
        have hV : efV c = 0 := by unfold efV; rw [hbn, if_neg h16]
        unfold fM_does_101
        by_cases hv1 : v = 1
        · rw [if_neg (by simpa using hv1), if_pos rfl]
          exact ejn hv1 0 hV.symm
        · rw [if_pos hv1, if_pos rfl]
          unfold fM_does_144
          rw [if_pos rfl]
          unfold fM_does_155
          rw [if_pos rfl]
          exact est hv1 0 0 hV.symm (fun q => absurd hV q)
    rw [fM_does_3, e24, inb_n (by omega) (by omega), cond_true, nI_clamp (show 24 * l + r < 2 ^ 31 by omega), (hY.2.1 r hr).2.2.2.1, if_neg (by rw [nI_le_iff (by omega) (by omega)]; omega), if_neg (by rcases hv with h | h <;> rw [h] <;> decide), e4, inb_n (by omega) (by omega), cond_true, nI_clamp (show 96 * l + 4 * r + pre.length < 2 ^ 31 by omega), hcode]
    by_cases h8 : b / 8 % 2 = 0
    · rw [if_neg (by rw [k8]; simpa using h8)]
      exact one x hx (by unfold efT; rw [hbn, if_pos h8])
    · rw [if_pos (by rw [k8]; exact h8)]
      cases hy' : y with
      | some t =>
        rw [hy'] at one
        exact one t (hy t hy') (by unfold efT; rw [hbn, if_neg h8])
      | none =>
        rw [hy'] at nxt
        unfold fM_does_58
        rw [if_neg (show ¬ ¬ yI none = -1 from fun h => h rfl)]
        refine nxt Y W h hgW FrNO.rf ?_
        rw [efS, ef1]
        unfold efT
        rw [hbn, if_neg h8]
/-- all rules, of one turn -/
theorem m_wrules {K w l : Nat} (hw : w < 2) (hl : l < 4) (hK : K ≤ 160) {a : Nat} {b : Option Nat} (ha : 8 * a + 8 ≤ K) (hb : ∀ t, b = some t → 8 * t + 8 ≤ K) {m kd sure : Int32} (hm0 : 0 ≤ m) (hm1 : m < 1440000) {rs : List LR} (hg : LG rs) {B : Wd} (hBg : WG 16 B) {sw tn : Int32} {x : Nat} {y : Option Nat} (hxy : (sw = 0 ∧ x = a ∧ y = b) ∨ (sw = 1 ∧ b = some x ∧ y = some a)) {k21 : Int32 → Int32 → Int32 → Int32 → Int32 → Int32 → Int32 → Int32 → am_Mu → Option am_Mu} : ∀ rest pre W n (Y : am_Mu), rs = pre ++ rest → rest.length < n → LM l Y rs → WasI Y B → MW K w Y W → WG K W → ∃ Y', fM_acts_43 n k21 (nI w) kd (nI a) (yI b) m sure (nI l) tn sw (nI pre.length) Y = k21 (nI w) kd (nI a) (yI b) m sure (nI l) (tn + 1) Y' ∧ MW K w Y' (ruS (sxB sw B) kd x y m rest W) ∧ (∀ r, ¬ (144 ≤ r ∧ r ≤ 146) → ¬ r = 150 → Y' r = Y r) ∧ ∀ r i, 144 ≤ r → r ≤ 146 → ¬ (160 * w ≤ i ∧ i < 160 * w + 160) → Y' r i = Y r i := by
  have hxK : 8 * x + 8 ≤ K := by
    rcases hxy with ⟨-, h, -⟩ | ⟨-, h, -⟩
    · rw [h]; exact ha
    · exact hb x h
  have hyK : ∀ t, y = some t → 8 * t + 8 ≤ K := by
    intro t ht
    rcases hxy with ⟨-, -, h⟩ | ⟨-, -, h⟩
    · rw [h] at ht; exact hb t ht
    · rw [h] at ht; cases ht; exact ha
  have hsb : WG 16 (sxB sw B) := fun c hc => hBg _ (sxN_lt sw hc)
  obtain ⟨g1, g2, g3, g4⟩ := hg
  have LMfr : ∀ Y Y' : am_Mu, LM l Y rs → (∀ r, 114 ≤ r → r ≤ 122 → Y' r = Y r) → LM l Y' rs := by
    intro Y Y' h hf
    exact h.cong ⟨g1, g2, g3, g4⟩ (by rw [hf 114 (by omega) (by omega)]) (fun a i q1 q2 _ _ => by rw [hf a (by omega) (by omega)]) (fun i _ _ => by rw [hf 119 (by omega) (by omega)]) (fun a i q1 q2 _ _ => by rw [hf a (by omega) (by omega)])
  have hin4 : am_inb (nI l) 4 = true := inb_n hl (by omega)
  have hnl : (nI l).toNatClampNeg = l := nI_clamp (by omega)
  intro rest
  induction rest with
  | nil =>
    intro pre W n Y hrs hn hY hB h hgW
    obtain ⟨n, rfl⟩ : ∃ k, n = k + 1 := ⟨n - 1, by omega⟩
    rw [List.append_nil] at hrs
    refine ⟨Y, ?_, h, fun _ _ _ => rfl, fun _ _ _ _ _ => rfl⟩
    rw [fM_acts_43, hin4, cond_true, hnl, hY.1, hrs, if_pos (Int32.le_refl _)]
    rfl
  | cons r k ih =>
    intro pre W n Y hrs hn hY hB h hgW
    obtain ⟨n, rfl⟩ : ∃ k, n = k + 1 := ⟨n - 1, by omega⟩
    rw [List.length_cons] at hn
    have hpl : pre.length < rs.length := by rw [hrs, List.length_append, List.length_cons]; omega
    have hget : rs.getD pre.length dR = r := by rw [hrs]; simp [List.getD_eq_getElem?_getD]
    have e24 : (24 : Int32) * nI l + nI pre.length = nI (24 * l + pre.length) := by
      show nI 24 * nI l + _ = _
      rw [nI_mul, nI_plus]
    have nxt : ∀ (Y1 : am_Mu) (W1 : Wd), MW K w Y1 W1 → WG K W1 → (∀ r, ¬ (144 ≤ r ∧ r ≤ 146) → ¬ r = 150 → Y1 r = Y r) → (∀ r i, 144 ≤ r → r ≤ 146 → ¬ (160 * w ≤ i ∧ i < 160 * w + 160) → Y1 r i = Y r i) → ruS (sxB sw B) kd x y m k W1 = ruS (sxB sw B) kd x y m (r :: k) W → ∃ Y', fM_acts_133 k21 (fM_acts_43 n k21) (nI w) kd (nI a) (yI b) m sure (nI l) tn sw (nI pre.length) Y1 = k21 (nI w) kd (nI a) (yI b) m sure (nI l) (tn + 1) Y' ∧ MW K w Y' (ruS (sxB sw B) kd x y m (r :: k) W) ∧ (∀ r, ¬ (144 ≤ r ∧ r ≤ 146) → ¬ r = 150 → Y' r = Y r) ∧ ∀ r i, 144 ≤ r → r ≤ 146 → ¬ (160 * w ≤ i ∧ i < 160 * w + 160) → Y' r i = Y r i := by
      intro Y1 W1 q1 q2 q3 q3' q4
      unfold fM_acts_133
      rw [show nI pre.length + 1 = nI (pre ++ [r]).length by rw [List.length_append, List.length_singleton]; exact nI_plus _ 1, ← q4]
      obtain ⟨Y', i1, i2, i3, i4⟩ := ih (pre ++ [r]) W1 n Y1 (by rw [hrs, List.append_assoc]; rfl) (by omega) (LMfr _ _ hY (fun r p1 p2 => q3 r (by omega) (by omega))) (by
        intro c hc
        rw [q3 147 (by omega) (by omega), q3 148 (by omega) (by omega), q3 149 (by omega) (by omega)]
        exact hB c hc) q1 q2
      exact ⟨Y', i1, i2, fun r p1 p2 => (i3 r p1 p2).trans (q3 r p1 p2), fun r i p1 p2 p3 => (i4 r i p1 p2 p3).trans (q3' r i p1 p2 p3)⟩
    have hgo : fM_acts_43 (n + 1) k21 (nI w) kd (nI a) (yI b) m sure (nI l) tn sw (nI pre.length) Y = fM_acts_66 k21 (fM_acts_43 n k21) (nI w) kd (nI a) (yI b) m sure (nI l) tn sw (nI pre.length) Y := by
      rw [fM_acts_43, hin4, cond_true, hnl, hY.1, if_neg (by rw [nI_le_iff (by omega) (by omega)]; omega)]
      rcases hxy with ⟨hs, -, -⟩ | ⟨hs, hbx, -⟩
      · rw [if_pos hs]
      · rw [if_neg (by rw [hs]; decide), if_neg (by rw [hbx]; exact yI_n (by omega))]
    rw [hgo]
    unfold fM_acts_66
    rw [e24, inb_n (by omega) (by omega), cond_true, nI_clamp (by omega), (hY.2.1 _ hpl).1, hget]
    by_cases hkd : r.1 = kd
    · rw [if_pos hkd]
      obtain ⟨Y1, a1, a2⟩ := m_wholdsV hl ⟨g1, g2, g3, g4⟩ hpl hY hB hBg (sw := sw) hm0 hm1
      rw [hget] at a1
      have hv := evV_v hsb m r.2.1
      rw [a1, Option.bind_some]
      dsimp only
      have e128 : (if sw = 0 then fM_acts_116 k21 (fM_acts_43 n k21) (nI w) kd (nI a) (yI b) m sure (nI l) tn sw (nI pre.length) (nI l) (nI pre.length) (evV (sxB sw B) m r.2.1) (nI w) (nI a) Y1 else fM_acts_116 k21 (fM_acts_43 n k21) (nI w) kd (nI a) (yI b) m sure (nI l) tn sw (nI pre.length) (nI l) (nI pre.length) (evV (sxB sw B) m r.2.1) (nI w) (yI b) Y1) = fM_acts_128 k21 (fM_acts_43 n k21) (nI w) kd (nI a) (yI b) m sure (nI l) tn sw (nI pre.length) (nI l) (nI pre.length) (evV (sxB sw B) m r.2.1) (nI w) (nI x) (yI y) Y1 := by
        unfold fM_acts_116
        rcases hxy with ⟨hs, hxa, hyb⟩ | ⟨hs, hbx, hya⟩
        · rw [if_pos hs, if_pos hs, hxa, hyb]
        · rw [if_neg (by rw [hs]; decide), if_neg (by rw [hs]; decide), hbx, hya]
          rfl
      rw [e128]
      unfold fM_acts_128
      have hY1 : LM l Y1 rs := LMfr _ _ hY (fun r p1 p2 => a2 r (by omega))
      have h1 : MW K w Y1 W := h.cong (a2 _ (by decide)) (a2 _ (by decide)) (a2 _ (by decide))
      by_cases hz : evV (sxB sw B) m r.2.1 = 0
      · have hdz : fM_does (nI l) (nI pre.length) (evV (sxB sw B) m r.2.1) (nI w) (nI x) (yI y) m Y1 = some Y1 := by
          unfold fM_does
          rw [show am_F = 99999 + 1 from rfl, fM_does_3, e24, inb_n (by omega) (by omega), cond_true, hz, if_pos (show (0 : Int32) ≤ 0 by decide)]
          split <;> rfl
        rw [hdz, Option.bind_some]
        refine nxt Y1 W h1 hgW (fun r p1 p2 => a2 r p2) (fun r i p1 p2 p3 => by rw [a2 r (by omega)]) ?_
        rw [ruS, if_neg (fun q => q.2 hz)]
      · have hv12 : evV (sxB sw B) m r.2.1 = 1 ∨ evV (sxB sw B) m r.2.1 = 2 := by
          rcases hv with h | h
          · exact absurd h hz
          · exact h
        obtain ⟨Y2, b1, b2, b3⟩ := m_does hw hl hK hxK hyK hm0 hm1 hv12 ⟨g1, g2, g3, g4⟩ hpl (rs.getD pre.length dR).2.2 [] W am_F Y1 rfl (by have := (g1 _ (getD_mem (d := dR) hpl)).2.2.2.2.1; unfold am_F; omega) hY1 h1 hgW
        rw [hget] at b2
        have hdz : fM_does (nI l) (nI pre.length) (evV (sxB sw B) m r.2.1) (nI w) (nI x) (yI y) m Y1 = some Y2 := b1
        rw [hdz, Option.bind_some]
        refine nxt Y2 _ b2 (efS_g hm0 hm1 hxK hyK _ W hgW) (fun r p1 p2 => (b3.1 r p1).trans (a2 r p2)) (fun r i p1 p2 p3 => by rw [b3.2 r i p1 p2 p3, a2 r (by omega)]) ?_
        rw [ruS, if_pos ⟨hkd, hz⟩]
    · rw [if_neg hkd]
      refine nxt Y W h hgW (fun _ _ _ => rfl) (fun _ _ _ _ _ => rfl) ?_
      rw [ruS, if_neg (fun q => hkd q.1)]
/-- at last, what was ahead is joined -/
theorem m_wlast {K w : Nat} (hw : w < 2) (hK : K ≤ 160) {a : Nat} {b : Option Nat} (ha : 8 * a + 8 ≤ K) (hb : ∀ t, b = some t → 8 * t + 8 ≤ K ∧ ¬ a = t) {W0 : Wd} (hg0 : WG K W0) : ∀ q c n (Y : am_Mu) (W : Wd), c + q = 16 → q < n → MW K w Y W → WG K W → WasI Y (ahA W0 a b) → ∃ Y', fM_acts_148 n (nI w) (nI a) (yI b) 0 (nI c) Y = some Y' ∧ MW K w Y' (fun k => if (k / 8 = a ∧ c ≤ k % 8) ∨ (some (k / 8) = b ∧ c ≤ 8 + k % 8) then jn (W k) (W0 k) else W k) ∧ FrNO w Y' Y := by
  intro q
  induction q with
  | zero =>
    intro c n Y W hc hn h hg hB
    obtain ⟨n, rfl⟩ : ∃ k, n = k + 1 := ⟨n - 1, by omega⟩
    have : c = 16 := by omega
    subst this
    refine ⟨Y, ?_, h.ext ?_, FrNO.rf⟩
    · rw [fM_acts_148, if_pos (by decide)]
    · intro k hk
      rw [if_neg (by omega)]
  | succ q ih =>
    intro c n Y W hc hn h hg hB
    obtain ⟨n, rfl⟩ : ∃ k, n = k + 1 := ⟨n - 1, by omega⟩
    have hin : am_inb (nI c) 16 = true := inb_n (by omega) (by omega)
    have hnc : (nI c).toNatClampNeg = c := nI_clamp (by omega)
    obtain ⟨w1, w2⟩ := hB c (by omega)
    rw [fM_acts_148, if_neg (by show ¬ nI 16 ≤ _; rw [nI_le_iff (by omega) (by omega)]; omega), if_neg (by decide)]
    have one : ∀ t, 8 * t + 8 ≤ K → ahA W0 a b c = W0 (8 * t + c % 8) → (∀ k, ((k / 8 = a ∧ c ≤ k % 8) ∨ (some (k / 8) = b ∧ c ≤ 8 + k % 8)) ↔ (k = 8 * t + c % 8 ∨ ((k / 8 = a ∧ c + 1 ≤ k % 8) ∨ (some (k / 8) = b ∧ c + 1 ≤ 8 + k % 8)))) → ¬ ((8 * t + c % 8) / 8 = a ∧ c + 1 ≤ (8 * t + c % 8) % 8 ∨ some ((8 * t + c % 8) / 8) = b ∧ c + 1 ≤ 8 + (8 * t + c % 8) % 8) → ∃ Y', fM_acts_174 (fM_acts_148 n) (nI w) (nI a) (yI b) 0 (nI c) (nI t) Y = some Y' ∧ MW K w Y' (fun k => if (k / 8 = a ∧ c ≤ k % 8) ∨ (some (k / 8) = b ∧ c ≤ 8 + k % 8) then jn (W k) (W0 k) else W k) ∧ FrNO w Y' Y := by
      intro t ht he hset hnot
      have hk : 8 * t + c % 8 < K := by omega
      have epl : ((160 : Int32) * nI w + (8 : Int32) * nI t) + (nI c - nI c / 8 * 8) = nI (160 * w + (8 * t + c % 8)) := by
        rw [nI_m8 (by omega)]
        show (nI 160 * nI w + nI 8 * nI t) + _ = _
        rw [nI_mul, nI_mul, nI_plus, nI_plus, Nat.add_assoc]
      obtain ⟨Y1, j1, j2, j3⟩ := m_wjoins hw hK hk h (hg _ hk).1 (t := W0 (8 * t + c % 8)) (hg0 _ hk).1 (p := Y 148 c) (q := Y 149 c) (by rw [← he]; exact w2)
      unfold fM_acts_174 fM_acts_224
      rw [if_neg (yI_n (by omega)), hin, cond_true, hnc, epl, w1, he, j1, Option.bind_some, show nI c + 1 = nI (c + 1) from nI_plus _ 1]
      obtain ⟨Y', i1, i2, i3⟩ := ih (c + 1) n Y1 _ (by omega) (by omega) j2 (wup_g hg (jn_g (hg _ hk) (hg0 _ hk))) (by
        intro c' hc'
        rw [j3.1 147 (by omega), j3.1 148 (by omega), j3.1 149 (by omega)]
        exact hB c' hc')
      refine ⟨Y', i1, i2.ext ?_, i3.trans j3⟩
      intro k hk'
      by_cases hkt : k = 8 * t + c % 8
      · subst hkt
        rw [if_pos ((hset _).mpr (Or.inl rfl)), if_neg hnot, wup_eq]
      · rw [wup_ne hkt]
        by_cases hr : (k / 8 = a ∧ c + 1 ≤ k % 8) ∨ (some (k / 8) = b ∧ c + 1 ≤ 8 + k % 8)
        · rw [if_pos ((hset k).mpr (Or.inr hr)), if_pos hr]
        · rw [if_neg (fun q => by rcases (hset k).mp q with q | q; exact hkt q; exact hr q), if_neg hr]
    by_cases hc8 : c < 8
    · rw [if_neg (by show ¬ nI 8 ≤ _; rw [nI_le_iff (by omega) (by omega)]; omega)]
      refine one a ha ?_ ?_ ?_
      · unfold ahA
        rw [if_pos hc8, show c % 8 = c by omega]
      · intro k
        cases b with
        | none => simp; omega
        | some t =>
          have := (hb t rfl).2
          simp
          omega
      · cases b with
        | none => simp; omega
        | some t =>
          have := (hb t rfl).2
          simp
          omega
    · rw [if_pos (show (8 : Int32) ≤ nI c from (nI_le_iff (a := 8) (by omega) (by omega)).mpr (by omega))]
      cases b with
      | some t =>
        obtain ⟨hbK, hab⟩ := hb t rfl
        refine one t hbK ?_ ?_ ?_
        · unfold ahA
          rw [if_neg hc8, show c - 8 = c % 8 by omega]
        · intro k
          simp
          omega
        · simp
          omega
      | none =>
        unfold fM_acts_174 fM_acts_224
        rw [if_pos (show yI none = -1 from rfl), show nI c + 1 = nI (c + 1) from nI_plus _ 1]
        obtain ⟨Y', i1, i2, i3⟩ := ih (c + 1) n Y W (by omega) (by omega) h hg hB
        refine ⟨Y', i1, i2.ext ?_, i3⟩
        intro k hk'
        rw [if_neg (by simp; omega), if_neg (by simp; omega)]
