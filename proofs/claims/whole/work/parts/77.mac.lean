/-! E: the reference asks conditions and does effects -/
theorem lat_eq {t : TR} (ht : TG t) {m n : Int32} (h0 : 0 ≤ m) (h1 : m < 1440000) (hne : ¬ t.1 = 0) : lat t m n = if n ≤ m - t.2.1 then (if n ≤ m - t.2.2 then 0 else 1) else t.1 := by
  obtain ⟨a1, a2, a3⟩ := ht.2 hne
  unfold lat
  rw [if_neg hne]
  generalize t.2.1 = p at *
  generalize t.2.2 = q at *
  generalize t.1 = v at *
  by_cases hp : m - p < n
  · have hq : m - q < n := by grind
    rw [if_pos hq, if_pos hp, if_neg (Int32.not_le.mpr hp)]
  · rw [if_pos (Int32.not_lt.mp hp)]
    by_cases hq : m - q < n
    · rw [if_pos hq, if_neg hp, if_neg (Int32.not_le.mpr hq)]
    · rw [if_neg hq, if_pos (Int32.not_lt.mp hq)]
theorem m_asked {Y : am_Mu} {B : Wd} (h : WasI Y B) {c : Nat} (hc : c < 16) (hg : TG (B c)) {m : Int32} (h0 : 0 ≤ m) (h1 : m < 1440000) : fM_asked (nI c) (-1) m Y = some ((B c).1, Y) ∧ ∀ v, v < 1000000 → fM_asked (nI c) (nI v) m Y = some (lat (B c) m (nI v), Y) := by
  obtain ⟨b1, b2⟩ := h c hc
  have hin : am_inb (nI c) 16 = true := inb_n hc (by omega)
  have hnc : (nI c).toNatClampNeg = c := nI_clamp (by omega)
  refine ⟨?_, fun v hv => ?_⟩
  · unfold fM_asked
    rw [hin, cond_true, if_pos rfl, hnc, b1]
  · unfold fM_asked
    rw [hin, cond_true, if_neg (by
      intro e
      have h0 := nI_pos' (n := v) (by omega)
      rw [e] at h0
      exact absurd h0 (by decide)), hnc, b1]
    by_cases hz : (B c).1 = 0
    · rw [if_neg (by simpa using hz)]
      unfold lat
      rw [if_pos hz, hz]
    · obtain ⟨b3, b4⟩ := b2 hz
      rw [if_pos hz, b3, b4, lat_eq hg h0 h1 hz]
      by_cases q1 : nI v ≤ m - (B c).2.1
      · rw [if_pos q1, if_pos q1]
        by_cases q2 : nI v ≤ m - (B c).2.2
        · rw [if_pos q2, if_pos q2]
        · rw [if_neg q2, if_neg q2]
      · rw [if_neg q1, if_neg q1]
def sxN (sw : Int32) (c : Nat) : Nat := if sw = 0 then c else if c < 8 then c + 8 else c - 8
def sxB (sw : Int32) (B : Wd) : Wd := fun c => B (sxN sw c)
theorem xor8F : ∀ b : Fin 16, nI b.val ^^^ 8 = nI (if b.val < 8 then b.val + 8 else b.val - 8) := by decide +kernel
theorem sxN_lt (sw : Int32) {c : Nat} (h : c < 16) : sxN sw c < 16 := by 
  unfold sxN
  split
  · omega
  · split <;> omega
theorem m_wholds {l : Nat} (hl : l < 4) {rs : List LR} (hg : LG rs) {r : Nat} (hr : r < rs.length) {Y0 : am_Mu} (hm : LM l Y0 rs) {B : Wd} (hB : WasI Y0 B) (hBg : WG 16 B) {sw m : Int32} (h0 : 0 ≤ m) (h1 : m < 1440000) : ∀ rest pre st n (Y : am_Mu), (rs.getD r dR).2.1 = pre ++ rest → dpS rest st.length = some 1 → st.length + opS rest ≤ 80 → rest.length < n → RowIs (Y 150) st.reverse → (∀ a, ¬ a = 150 → Y a = Y0 a) → ∃ Y', fM_holds_22 n (nI l) (nI r) sw m (nI st.length) (nI (240 * l + ((flS (rs.take r)).length + pre.length))) Y = some ((evS (sxB sw B) m rest st).headD 0, Y') ∧ ∀ a, ¬ a = 150 → Y' a = Y0 a := by
  obtain ⟨t1, t2, -, -⟩ := flS_take hr
  obtain ⟨g1, g2, g3, g4⟩ := hg
  have hRG := g1 _ (getD_mem (d := dR) hr)
  have hsegl : (flS (rs.take r)).length + (rs.getD r dR).2.1.length ≤ 240 := by
    have : (flS rs).length = (flS (rs.take r)).length + (rs.getD r dR).2.1.length + (flS (rs.drop (r + 1))).length := by
      rw [t2, t1, List.length_append, List.length_append]
    omega
  have hto : Y0 117 (24 * l + r) = nI ((flS (rs.take r)).length + (rs.getD r dR).2.1.length) := by
    rw [(hm.2.1 r hr).2.2.1, t1, List.length_append]
  have e24 : (24 : Int32) * nI l + nI r = nI (24 * l + r) := by
    show nI 24 * nI l + nI r = _
    rw [nI_mul, nI_plus]
  have e240 : ∀ x, (240 : Int32) * nI l + nI x = nI (240 * l + x) := by
    intro x
    show nI 240 * nI l + nI x = _
    rw [nI_mul, nI_plus]
  have hrow : ∀ i, i < (rs.getD r dR).2.1.length → StR ((rs.getD r dR).2.1.getD i 0) (Y0 120 (240 * l + ((flS (rs.take r)).length + i))) (Y0 121 (240 * l + ((flS (rs.take r)).length + i))) (Y0 122 (240 * l + ((flS (rs.take r)).length + i))) := by
    intro i hi
    have hlen : (flS (rs.take r)).length + i < (flS rs).length := by
      rw [t2, t1, List.length_append, List.length_append]
      omega
    have := hm.2.2 _ hlen
    rw [t2, t1, getD_mid hi] at this
    exact this
  intro rest
  induction rest with
  | nil =>
    intro pre st n Y hseg hdp hop hn hst hfr
    obtain ⟨n, rfl⟩ : ∃ k, n = k + 1 := ⟨n - 1, by omega⟩
    rw [List.append_nil] at hseg
    have hlen : st.length = 1 := by
      unfold dpS at hdp
      exact Option.some.inj hdp
    rw [fM_holds_22, e24, inb_n (by omega) (by omega), cond_true, nI_clamp (by omega), hfr 117 (by decide), hto, e240, hseg, if_pos (Int32.le_refl _)]
    unfold fM_holds_252 evS
    refine ⟨Y, ?_, hfr⟩
    match st, hlen with
    | [v], _ =>
      have := hst 0 (by simp)
      rw [this]
      rfl
  | cons c k ih =>
    intro pre st n Y hseg hdp hop hn hst hfr
    obtain ⟨n, rfl⟩ : ∃ k, n = k + 1 := ⟨n - 1, by omega⟩
    rw [List.length_cons] at hn
    have hpl : pre.length < (rs.getD r dR).2.1.length := by rw [hseg, List.length_append, List.length_cons]; omega
    have hcode : (rs.getD r dR).2.1.getD pre.length 0 = c := by
      rw [hseg]
      simp [List.getD_eq_getElem?_getD]
    have hSt := hrow _ hpl
    rw [hcode, ← hfr 120 (by decide), ← hfr 121 (by decide), ← hfr 122 (by decide)] at hSt
    have hsl : st.length ≤ 80 := by omega
    have hi960 : am_inb (nI (240 * l + ((flS (rs.take r)).length + pre.length))) 960 = true := inb_n (by omega) (by omega)
    have hn960 : (nI (240 * l + ((flS (rs.take r)).length + pre.length))).toNatClampNeg = 240 * l + ((flS (rs.take r)).length + pre.length) := nI_clamp (by omega)
    have nxt : ∀ (st' : List Int32) (Y' : am_Mu), dpS k st'.length = some 1 → st'.length + opS k ≤ 80 → RowIs (Y' 150) st'.reverse → (∀ a, ¬ a = 150 → Y' a = Y0 a) → evS (sxB sw B) m k st' = evS (sxB sw B) m (c :: k) st → ∃ Y'', fM_holds_246 (fM_holds_22 n) (nI l) (nI r) sw m (nI st'.length) (nI (240 * l + ((flS (rs.take r)).length + pre.length))) Y' = some ((evS (sxB sw B) m (c :: k) st).headD 0, Y'') ∧ ∀ a, ¬ a = 150 → Y'' a = Y0 a := by
      intro st' Y' h1 h2 h3 h4 h5
      unfold fM_holds_246
      rw [show nI (240 * l + ((flS (rs.take r)).length + pre.length)) + 1 = nI (240 * l + ((flS (rs.take r)).length + (pre ++ [c]).length)) by rw [List.length_append, List.length_singleton, ← Nat.add_assoc, ← Nat.add_assoc]; exact nI_plus _ 1, ← h5]
      exact ih (pre ++ [c]) st' n Y' (by rw [hseg, List.append_assoc]; rfl) h1 h2 (by omega) h3 h4
    -- a value is laid on the stack
    have lay : ∀ v : Int32, ¬ c &&& 7 = 1 → ¬ c &&& 7 = 2 → ¬ c &&& 7 = 3 → v = opv (sxB sw B) m c → ∃ Y'', fM_holds_246 (fM_holds_22 n) (nI l) (nI r) sw m (nI st.length + 1) (nI (240 * l + ((flS (rs.take r)).length + pre.length))) (am_up Y 150 st.length v) = some ((evS (sxB sw B) m (c :: k) st).headD 0, Y'') ∧ ∀ a, ¬ a = 150 → Y'' a = Y0 a := by
      intro v k1 k2 k3 hv
      have hdp' : dpS k (st.length + 1) = some 1 := by
        unfold dpS at hdp
        rw [if_neg k1, if_neg (by rintro (h | h) <;> contradiction)] at hdp
        exact hdp
      have hop' : opS (c :: k) = opS k + 1 := by
        show (if c &&& 7 = 1 ∨ c &&& 7 = 2 ∨ c &&& 7 = 3 then opS k else opS k + 1) = _
        rw [if_neg (by rintro (h | h | h) <;> contradiction)]
      rw [show nI st.length + 1 = nI (v :: st).length from nI_plus _ 1]
      refine nxt (v :: st) _ (by rw [List.length_cons]; exact hdp') (by rw [List.length_cons]; omega) ?_ (fun a ha => by rw [up_row ha, hfr a ha]) (by rw [hv]; exact (evS_op k1 k2 k3).symm)
      rw [List.reverse_cons]
      refine RowIs.app hst ?_
      intro j
      rw [up_at, List.length_reverse]
    have hopl : opS (c :: k) ≤ opS k + 1 := by
      show (if c &&& 7 = 1 ∨ c &&& 7 = 2 ∨ c &&& 7 = 3 then opS k else opS k + 1) ≤ _
      split <;> omega
    rw [fM_holds_22, e24, inb_n (by omega) (by omega), cond_true, nI_clamp (show 24 * l + r < 2 ^ 31 by omega), hfr 117 (by decide), hto, e240, if_neg (by rw [nI_le_iff (by omega) (by omega)]; omega), hi960, cond_true, hn960]
    have mark : ∀ b : Nat, b < 16 → ∀ lm : Int32, Y 122 (240 * l + ((flS (rs.take r)).length + pre.length)) = lm → (∀ c', c' < 16 → fM_asked (nI c') lm m Y = some (opv (fun _ => B c') m c, Y)) → opv (fun _ => B (sxN sw b)) m c = opv (sxB sw B) m c → ¬ c &&& 7 = 1 → ¬ c &&& 7 = 2 → ¬ c &&& 7 = 3 → st.length < 80 → ∃ Y'', (if sw = 0 then fM_holds_107 (fM_holds_22 n) (nI l) (nI r) sw m (nI st.length) (nI (240 * l + ((flS (rs.take r)).length + pre.length))) (nI st.length) (nI b) Y else fM_holds_107 (fM_holds_22 n) (nI l) (nI r) sw m (nI st.length) (nI (240 * l + ((flS (rs.take r)).length + pre.length))) (nI st.length) (nI b ^^^ 8) Y) = some ((evS (sxB sw B) m (c :: k) st).headD 0, Y'') ∧ ∀ a, ¬ a = 150 → Y'' a = Y0 a := by
      intro b hb lm hlm hask hop2 k1 k2 k3 hl80
      have go : ∀ c', c' < 16 → c' = sxN sw b → ∃ Y'', fM_holds_107 (fM_holds_22 n) (nI l) (nI r) sw m (nI st.length) (nI (240 * l + ((flS (rs.take r)).length + pre.length))) (nI st.length) (nI c') Y = some ((evS (sxB sw B) m (c :: k) st).headD 0, Y'') ∧ ∀ a, ¬ a = 150 → Y'' a = Y0 a := by
        intro c' hc' hcc
        unfold fM_holds_107
        rw [hi960, cond_true, hn960, hlm, hask c' hc', Option.bind_some, inb_n (by omega) (by omega), cond_true, nI_clamp (by omega)]
        exact lay _ k1 k2 k3 (by rw [hcc]; exact hop2)
      by_cases hs : sw = 0
      · rw [if_pos hs]
        exact go b hb (by unfold sxN; rw [if_pos hs])
      · rw [if_neg hs, xor8F ⟨b, hb⟩]
        dsimp only
        exact go _ (by split <;> omega) (by unfold sxN; rw [if_neg hs])
    have pair : ∀ s0 : Int32, (s0 = 1 ∧ c &&& 7 = 2) ∨ (s0 = 0 ∧ c &&& 7 = 3) → ∃ Y'', fM_holds_182 (fM_holds_22 n) (nI l) (nI r) sw m (nI st.length + (-1)) (nI (240 * l + ((flS (rs.take r)).length + pre.length))) s0 Y = some ((evS (sxB sw B) m (c :: k) st).headD 0, Y'') ∧ ∀ a, ¬ a = 150 → Y'' a = Y0 a := by
      intro s0 hs0
      have h23 : c &&& 7 = 2 ∨ c &&& 7 = 3 := by
        rcases hs0 with h | h
        · exact Or.inl h.2
        · exact Or.inr h.2
      have h71 : ¬ c &&& 7 = 1 := by rcases h23 with h | h <;> rw [h] <;> decide
      have hdp' : 2 ≤ st.length ∧ dpS k (st.length - 1) = some 1 := by
        unfold dpS at hdp
        rw [if_neg h71, if_pos h23] at hdp
        split at hdp
        · exact ⟨by assumption, hdp⟩
        · cases hdp
      have hop' : opS (c :: k) = opS k := by
        show (if c &&& 7 = 1 ∨ c &&& 7 = 2 ∨ c &&& 7 = 3 then opS k else opS k + 1) = _
        rw [if_pos (Or.inr h23)]
      match st, hdp', hst with
      | p :: q :: s, hdp', hst =>
        have hl2' : (p :: q :: s).length = s.length + 2 := rfl
        have e0 : Y 150 (s.length + 1) = p := by
          rw [hst (s.length + 1) (by simp)]
          simp [List.getD_eq_getElem?_getD]
        have e1 : Y 150 s.length = q := by
          rw [hst s.length (by simp)]
          simp [List.getD_eq_getElem?_getD, List.getElem?_append_left, List.getElem?_append_right]
        have i1 : nI (s.length + 2) + (-1) = nI (s.length + 1) := by
          have : nI (s.length + 2) = nI (s.length + 1) + 1 := (nI_plus (s.length + 1) 1).symm
          rw [this]
          grind
        have i2 : nI (s.length + 1) - 1 = nI s.length := nI_sub (a := s.length + 1) (b := 1) (by omega)
        have hin1 : am_inb (nI (s.length + 1)) 100 = true := inb_n (by omega) (by omega)
        have hin0 : am_inb (nI s.length) 100 = true := inb_n (by omega) (by omega)
        have c1 : (nI (s.length + 1)).toNatClampNeg = s.length + 1 := nI_clamp (by omega)
        have c0 : (nI s.length).toNatClampNeg = s.length := nI_clamp (by omega)
        rw [List.reverse_cons, List.reverse_cons] at hst
        have keep : evS (sxB sw B) m k (q :: s) = evS (sxB sw B) m (c :: k) (p :: q :: s) → ∃ Y'', fM_holds_246 (fM_holds_22 n) (nI l) (nI r) sw m (nI (s.length + 1)) (nI (240 * l + ((flS (rs.take r)).length + pre.length))) Y = some ((evS (sxB sw B) m (c :: k) (p :: q :: s)).headD 0, Y'') ∧ ∀ a, ¬ a = 150 → Y'' a = Y0 a := by
          intro hv
          exact nxt (q :: s) Y (by rw [List.length_cons]; exact hdp'.2) (by rw [List.length_cons]; omega) (by rw [List.reverse_cons]; exact hst.left) hfr hv
        have move : evS (sxB sw B) m k (p :: s) = evS (sxB sw B) m (c :: k) (p :: q :: s) → ∃ Y'', fM_holds_230 (fM_holds_22 n) (nI l) (nI r) sw m (nI (s.length + 1)) (nI (240 * l + ((flS (rs.take r)).length + pre.length))) Y = some ((evS (sxB sw B) m (c :: k) (p :: q :: s)).headD 0, Y'') ∧ ∀ a, ¬ a = 150 → Y'' a = Y0 a := by
          intro hv
          unfold fM_holds_230
          rw [hin1, cond_true, i2, hin0, cond_true, c0, c1, e0]
          refine nxt (p :: s) _ (by rw [List.length_cons]; exact hdp'.2) (by rw [List.length_cons]; omega) ?_ (fun a ha => by rw [up_row ha, hfr a ha]) hv
          rw [List.reverse_cons]
          refine RowIs.app (r := Y 150) hst.left.left ?_
          intro j
          rw [up_at, List.length_reverse]
        unfold fM_holds_182
        rw [hl2', i1, hin1, cond_true, i2, hin0, cond_true, c0, c1, e0, e1, cond_true, cond_true]
        rcases hs0 with ⟨hs, h7⟩ | ⟨hs, h7⟩
        · rw [if_neg (by rw [hs]; decide)]
          by_cases hpq : q ≤ p
          · rw [if_pos hpq]
            refine keep ?_
            rw [evS_and h7, if_neg (Int32.not_lt.mpr hpq)]
          · rw [if_neg hpq]
            refine move ?_
            rw [evS_and h7, if_pos (Int32.not_le.mp hpq)]
        · rw [if_pos hs]
          by_cases hpq : p ≤ q
          · rw [if_pos hpq]
            refine keep ?_
            rw [evS_or h7, if_neg (Int32.not_lt.mpr hpq)]
          · rw [if_neg hpq]
            refine move ?_
            rw [evS_or h7, if_pos (Int32.not_le.mp hpq)]
    have hl80 : ¬ c &&& 7 = 1 → ¬ c &&& 7 = 2 → ¬ c &&& 7 = 3 → st.length < 80 := by
      intro k1 k2 k3
      have hop' : opS (c :: k) = opS k + 1 := by
        show (if c &&& 7 = 1 ∨ c &&& 7 = 2 ∨ c &&& 7 = 3 then opS k else opS k + 1) = _
        rw [if_neg (by rintro (h | h | h) <;> contradiction)]
      omega
    rcases hSt with ⟨h, ha⟩ | ⟨h, ha⟩ | ⟨h, ha⟩ | ⟨h, ha⟩ | ⟨b, hb, h, ha, hbm, hlm⟩ | ⟨b, v, hb, hv, h, ha, hbm, hlm⟩
    · -- 1
      have k0 : c &&& 7 = 0 := by rw [h]; decide
      have k1 : ¬ c &&& 7 = 1 := by rw [k0]; decide
      have k2 : ¬ c &&& 7 = 2 := by rw [k0]; decide
      have k3 : ¬ c &&& 7 = 3 := by rw [k0]; decide
      have := hl80 k1 k2 k3
      rw [if_neg (by rw [ha]; decide), if_pos ha, inb_n (by omega) (by omega), cond_true, nI_clamp (by omega)]
      exact lay 2 k1 k2 k3 (by unfold opv; rw [if_pos k0])
    · -- not
      have k1 : c &&& 7 = 1 := by rw [h]; decide
      rw [if_neg (by rw [ha]; decide), if_neg (by rw [ha]; decide), if_pos ha]
      have hdp' : 1 ≤ st.length ∧ dpS k st.length = some 1 := by
        unfold dpS at hdp
        rw [if_pos k1] at hdp
        split at hdp
        · exact ⟨by assumption, hdp⟩
        · cases hdp
      have hop' : opS (c :: k) = opS k := by
        show (if c &&& 7 = 1 ∨ c &&& 7 = 2 ∨ c &&& 7 = 3 then opS k else opS k + 1) = _
        rw [if_pos (Or.inl k1)]
      obtain ⟨p, s, rfl⟩ : ∃ p s, st = p :: s := by
        cases st with
        | nil => exact absurd hdp'.1 (by decide)
        | cons p s => exact ⟨p, s, rfl⟩
      have hl2' : (p :: s).length = s.length + 1 := rfl
      have e0 : Y 150 s.length = p := by
        rw [hst s.length (by simp)]
        simp [List.getD_eq_getElem?_getD]
      have i2 : nI (s.length + 1) - 1 = nI s.length := nI_sub (a := s.length + 1) (b := 1) (by omega)
      have hR : RowIs (am_up Y 150 s.length (2 - p) 150) ((2 - p) :: s).reverse := by
        rw [List.reverse_cons]
        refine RowIs.app (r := Y 150) ?_ ?_
        · rw [List.reverse_cons] at hst
          exact hst.left
        · intro j
          rw [up_at, List.length_reverse]
      have hN := nxt ((2 - p) :: s) (am_up Y 150 s.length (2 - p)) (by rw [List.length_cons]; exact hdp'.2) (by rw [List.length_cons]; omega) hR (fun a ha => by rw [up_row ha, hfr a ha]) (evS_not k1).symm
      rw [hl2', i2, inb_n (show s.length < 100 by omega) (by omega), cond_true, nI_clamp (show s.length < 2 ^ 31 by omega), e0]
      exact hN
    · have k7 : c &&& 7 = 2 := by rw [h]; decide
      rw [if_neg (by rw [ha]; decide), if_neg (by rw [ha]; decide), if_neg (by rw [ha]; decide), if_neg (by rw [ha]; decide)]
      exact pair 1 (Or.inl ⟨rfl, k7⟩)
    · have k7 : c &&& 7 = 3 := by rw [h]; decide
      rw [if_neg (by rw [ha]; decide), if_neg (by rw [ha]; decide), if_neg (by rw [ha]; decide), if_pos (by rw [ha]; decide)]
      exact pair 0 (Or.inr ⟨rfl, k7⟩)
    · have hst7 := st7 (a := 4) (b := b) (v := 0) (by omega) hb
      have hstn := st_nat (a := 4) (b := b) (v := 0) (by omega) hb
      have ec : c = stC (nI 4) (nI b) (nI 0) := h
      have k7 : c &&& 7 = 4 := by rw [ec, hst7]; rfl
      have hcn : c.toNatClampNeg = 4 + 8 * b := by
        rw [ec, hstn, nI_clamp (by omega)]
        omega
      have hov : ∀ A : Wd, opv A m c = (A b).1 := by
        intro A
        unfold opv
        rw [if_neg (by rw [k7]; decide), if_pos k7, hcn, show (4 + 8 * b) / 8 % 16 = b by omega]
      rw [if_pos ha, hbm]
      refine mark b hb (-1) hlm (fun c' hc' => ?_) (by rw [hov, hov]; rfl) (by rw [k7]; decide) (by rw [k7]; decide) (by rw [k7]; decide) (hl80 (by rw [k7]; decide) (by rw [k7]; decide) (by rw [k7]; decide))
      rw [hov]
      exact (m_asked (B := B) (by intro c hc; rw [hfr 147 (by decide), hfr 148 (by decide), hfr 149 (by decide)]; exact hB c hc) hc' (hBg c' hc') h0 h1).1
    · have hst7 := st7 (a := 5) (b := b) (v := v) (by omega) hb
      have hstn := st_nat (a := 5) (b := b) (v := v) (by omega) hb
      have ec : c = stC (nI 5) (nI b) (nI v) := h
      have k7 : c &&& 7 = 5 := by rw [ec, hst7]; rfl
      have hcn : c.toNatClampNeg = 5 + 8 * b + 128 * v := by rw [ec, hstn, nI_clamp (by omega)]
      have hov : ∀ A : Wd, opv A m c = lat (A b) m (nI v) := by
        intro A
        unfold opv
        rw [if_neg (by rw [k7]; decide), if_neg (by rw [k7]; decide), hcn, show (5 + 8 * b + 128 * v) / 8 % 16 = b by omega, show (5 + 8 * b + 128 * v) / 128 = v by omega]
      rw [if_pos ha, hbm]
      refine mark b hb (nI v) hlm (fun c' hc' => ?_) (by rw [hov, hov]; rfl) (by rw [k7]; decide) (by rw [k7]; decide) (by rw [k7]; decide) (hl80 (by rw [k7]; decide) (by rw [k7]; decide) (by rw [k7]; decide))
      rw [hov]
      exact (m_asked (B := B) (by intro c hc; rw [hfr 147 (by decide), hfr 148 (by decide), hfr 149 (by decide)]; exact hB c hc) hc' (hBg c' hc') h0 h1).2 v hv
theorem m_wholdsV {l : Nat} (hl : l < 4) {rs : List LR} (hg : LG rs) {r : Nat} (hr : r < rs.length) {Y : am_Mu} (hm : LM l Y rs) {B : Wd} (hB : WasI Y B) (hBg : WG 16 B) {sw m : Int32} (h0 : 0 ≤ m) (h1 : m < 1440000) : ∃ Y', fM_holds (nI l) (nI r) sw m Y = some (evV (sxB sw B) m (rs.getD r dR).2.1, Y') ∧ ∀ a, ¬ a = 150 → Y' a = Y a := by
  have hRG := hg.1 _ (getD_mem (d := dR) hr)
  have g2 := hg.2.1
  have hseg : (rs.getD r dR).2.1.length ≤ 240 := by
    obtain ⟨t1, t2, -, -⟩ := flS_take hr
    have g3 := hg.2.2.1
    rw [t2, t1, List.length_append, List.length_append] at g3
    omega
  have e24 : (24 : Int32) * nI l + nI r = nI (24 * l + r) := by
    show nI 24 * nI l + nI r = _
    rw [nI_mul, nI_plus]
  obtain ⟨Y', e1, e2⟩ := m_wholds hl hg hr hm hB hBg (sw := sw) h0 h1 (rs.getD r dR).2.1 [] [] am_F Y rfl hRG.2.1 (by rw [List.length_nil]; have := hRG.2.2.1; omega) (by unfold am_F; omega) (fun j hj => absurd hj (by simp)) (fun _ _ => rfl)
  refine ⟨Y', ?_, e2⟩
  unfold fM_holds
  rw [e24, inb_n (by omega) (by omega), cond_true, nI_clamp (by omega), (hm.2.1 r hr).2.1, show (240 : Int32) * nI l + nI (flS (rs.take r)).length = nI (240 * l + ((flS (rs.take r)).length + ([] : List Int32).length)) by show nI 240 * nI l + _ = _; rw [nI_mul, nI_plus]; rfl]
  exact e1
