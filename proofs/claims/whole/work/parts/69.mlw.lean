/-! E: the reference reads a law and lays it down -/
theorem getD_mem {A : Type} {L : List A} {d : A} {j : Nat} (h : j < L.length) : L.getD j d ∈ L := by
  simp only [List.getD_eq_getElem?_getD, List.getElem?_eq_getElem h, Option.getD_some]
  exact List.getElem_mem _
theorem law_ok {T : Nat → Int32} {e : Nat} (he : e ≤ 240) : ∀ q p k rs rs', RFit e p k rs → (∀ r, r ∈ rs → RG r) → rs.length ≤ 24 → sp_law T e q p k rs = .ok rs' → (∀ r, r ∈ rs' → RG r) ∧ (flS rs').length ≤ 240 ∧ rs'.length ≤ 24 ∧ (flE rs').length ≤ 96 := by
  intro q
  induction q with
  | zero =>
    intro p k rs rs' hf hg h24 h
    unfold sp_law at h
    cases h
  | succ q ih =>
    intro p k rs rs' hf hg h24 h
    unfold sp_law at h
    cases hq : sp_rule T e p k rs with
    | error x =>
      rw [hq] at h
      cases h
    | ok w =>
      rw [hq] at h
      dsimp only at h
      obtain ⟨g1, g2, g3, g4⟩ := rule_ok he hf hq
      have hg' : ∀ r, r ∈ rs ++ [w.2.2] → RG r := by
        intro r hr
        rcases List.mem_append.mp hr with h | h
        · exact hg r h
        · rw [List.mem_singleton.mp h]
          exact g1
      have hl : (rs ++ [w.2.2]).length = rs.length + 1 := by rw [List.length_append, List.length_singleton]
      split at h
      · rename_i hlt
        split at h
        · exact ih (w.1 + 1) w.2.1 _ rs' ⟨by omega, by have := g2.2.1; omega, g2.2.2.1, g2.2.2.2⟩ hg' (by omega) h
        · cases h
      · cases h
        have := g2.1
        have := g2.2.1
        have := g2.2.2.2
        exact ⟨hg', by omega, by omega, by omega⟩
def MX (ν : am_Mu) (rs : List LR) : Prop := ν 108 29 = 0 ∧ ν 108 31 = nI (flS rs).length ∧ CodeIs ν (flS rs) ∧ ML ν rs
theorem m_law67 {T : Nat → Int32} {e : Nat} (he : e ≤ 240) (he1 : 1 ≤ e) {a1 a2 : Int32} : ∀ q n p k rs (ν : am_Mu), q + rs.length = 25 → rs.length ≤ 24 → q + 1 < n → RS1 T e ν p k (flS rs) → ML ν rs → RFit e p k rs → (∀ r, r ∈ rs → RG r) → match sp_law T e q p k rs with
    | .ok rs' => ∃ ν', fM_law_67 n a1 a2 1 ν = fM_law_140 a1 a2 ν' ∧ MX ν' rs' ∧ am_fr [(108, 27), (108, 29), (108, 30), (108, 31), (108, 32), (108, 33), (108, 34), (123, 999), (124, 999), (125, 999), (126, 999), (127, 999), (128, 999), (129, 999), (130, 999), (131, 999)] ν ν'
    | .error x => ∃ ν', fM_law_67 n a1 a2 1 ν = some (nI (1000 * x.1 + x.2), ν') ∧ ER x ∧ am_fr [(108, 27), (108, 29), (108, 30), (108, 31), (108, 32), (108, 33), (108, 34), (123, 999), (124, 999), (125, 999), (126, 999), (127, 999), (128, 999), (129, 999), (130, 999), (131, 999)] ν ν' := by
  intro q
  induction q with
  | zero => intro n p k rs ν h1 h2; omega
  | succ q ih =>
    intro n p k rs ν hq h24 hn h hl hf hg
    obtain ⟨n, rfl⟩ : ∃ k, n = k + 1 := ⟨n - 1, by omega⟩
    obtain ⟨n, rfl⟩ : ∃ k, n = k + 1 := ⟨n - 1, by omega⟩
    have hr := m_rule he h hl hf h24 (fun j hj => (hg _ (getD_mem hj)).2.2.2.2.1)
    have startF : ∀ (ν1 : am_Mu) x, fM_rule ν = some ν1 → FX ν1 x → ∃ ν', fM_law_67 (n + 1 + 1) a1 a2 1 ν = some (nI (1000 * x.1 + x.2), ν') ∧ ν' = am_up ν1 108 27 (ν1 108 27 + 1) := by
      intro ν1 x h1 h2
      have hp := h2.pos
      refine ⟨_, ?_, rfl⟩
      rw [fM_law_67, if_neg (by decide), if_neg (by rw [h.2.2.1]; decide), h1, Option.bind_some, if_pos (by grind)]
      unfold fM_law_105 fM_law_106 fM_law_127
      rw [if_pos rfl, fM_law_67, if_pos rfl]
      unfold fM_law_140
      rw [if_neg (by rw [up_ne (by decide)]; exact Int32.not_le.mpr hp), up_ne (by decide), h2.1]
    unfold sp_law
    cases hs : sp_rule T e p k rs with
    | error x =>
      rw [hs] at hr
      dsimp only at hr ⊢
      obtain ⟨ν1, r1, r2, r3⟩ := hr
      obtain ⟨ν', s1, s2⟩ := startF ν1 x r1 ⟨r2, r3⟩
      refine ⟨ν', s1, r3, ?_⟩
      rw [s2]
      exact am_fr.up (w_fM_rule r1) rfl
    | ok w =>
      rw [hs] at hr
      dsimp only at hr ⊢
      obtain ⟨ν1, o', r1, r2, r3⟩ := hr
      obtain ⟨g1, g2, g3, g4⟩ := rule_ok he hf hs
      have fr := w_fM_rule r1
      have start : fM_law_67 (n + 1 + 1) a1 a2 1 ν = (if nI e ≤ nI w.1 then fM_law_105 (fM_law_67 (n + 1)) a1 a2 ν1 else fM_law_106 (fM_law_67 (n + 1)) a1 a2 1 ν1) := by
        rw [fM_law_67, if_neg (by decide), if_neg (by rw [h.2.2.1]; decide), r1, Option.bind_some, if_neg (by rw [r2.2.2.1]; decide)]
        by_cases hc : nI e ≤ nI w.1
        · rw [if_pos hc, if_pos (by rw [r2.1, r2.2.1]; exact hc)]
        · rw [if_neg hc, if_neg (by rw [r2.1, r2.2.1]; exact hc)]
      rw [start]
      have hwe := g2.1
      have next : RS1 T e (am_up ν1 108 27 (ν1 108 27 + 1)) (w.1 + 1) w.2.1 (flS (rs ++ [w.2.2])) := (m_place0 r2).to1
      have nextL : ML (am_up ν1 108 27 (ν1 108 27 + 1)) (rs ++ [w.2.2]) := by
        refine ⟨by rw [up_ne (by decide)]; exact r3.1, ?_⟩
        intro r hr
        rw [up_row (by decide), up_row (by decide), up_row (by decide), up_row (by decide), up_row (by decide)]
        exact r3.2 r hr
      by_cases hw : w.1 < e
      · rw [if_pos hw, if_neg (show ¬ nI e ≤ nI w.1 by rw [nI_le_iff (by omega) (by omega)]; omega)]
        unfold fM_law_106
        rw [if_neg (show ¬ (1 : Int32) = 0 by decide), m_here he r2 (by omega), Option.bind_some]
        dsimp only
        by_cases h59 : sgT T e w.1 = 59
        · rw [if_pos h59, if_pos (by rw [m_is 59 (by decide) (by decide)]; exact h59)]
          unfold fM_law_127
          have hlen : (rs ++ [w.2.2]).length = rs.length + 1 := by rw [List.length_append, List.length_singleton]
          have := ih (n + 1) (w.1 + 1) w.2.1 (rs ++ [w.2.2]) _ (by omega) (by omega) (by omega) next nextL ⟨by omega, by have := g2.2.1; omega, g2.2.2.1, g2.2.2.2⟩ (by
            intro r hr
            rcases List.mem_append.mp hr with h | h
            · exact hg r h
            · rw [List.mem_singleton.mp h]
              exact g1)
          have fr2 := am_fr.up (k := 108) (i := 27) (x := ν1 108 27 + 1) fr rfl
          cases hq2 : sp_law T e q (w.1 + 1) w.2.1 (rs ++ [w.2.2]) with
          | error x =>
            rw [hq2] at this
            obtain ⟨ν', i1, i2, i3⟩ := this
            exact ⟨ν', i1, i2, fr2.trans i3⟩
          | ok rs' =>
            rw [hq2] at this
            obtain ⟨ν', i1, i2, i3⟩ := this
            exact ⟨ν', i1, i2, fr2.trans i3⟩
        · rw [if_neg h59, if_neg (by rw [m_is 59 (by decide) (by decide)]; exact h59)]
          dsimp only
          obtain ⟨ν2, f1, f2, f3⟩ := m_fails1 r2.to1 (by omega) 1 (by omega)
          change fM_fails 1 ν1 = some ν2 at f1
          have hp := f2.pos
          rw [f1, Option.bind_some]
          unfold fM_law_127
          rw [fM_law_67, if_neg (by decide), if_pos (by rw [up_ne (by decide)]; grind)]
          unfold fM_law_140
          rw [if_neg (by rw [up_ne (by decide)]; exact Int32.not_le.mpr hp), up_ne (by decide), f2.1]
          refine ⟨_, rfl, f2.2, ?_⟩
          rw [f3]
          exact am_fr.up (am_fr.up fr rfl) rfl
      · rw [if_neg hw, if_pos ((nI_le_iff (by omega) (by omega)).mpr (by omega))]
        dsimp only
        unfold fM_law_105 fM_law_106 fM_law_127
        rw [if_pos rfl, fM_law_67, if_pos rfl]
        exact ⟨_, rfl, ⟨next.2.2.1, next.2.2.2.1, next.2.2.2.2.2.1, nextL⟩, am_fr.up fr rfl⟩
/-! the copy -/
def LM (l : Nat) (ν : am_Mu) (rs : List LR) : Prop := ν 114 l = nI rs.length ∧ (∀ r, r < rs.length → ν 115 (24 * l + r) = (rs.getD r dR).1 ∧ ν 116 (24 * l + r) = nI (flS (rs.take r)).length ∧ ν 117 (24 * l + r) = nI (flS (rs.take (r + 1))).length ∧ ν 118 (24 * l + r) = nI (rs.getD r dR).2.2.length ∧ ∀ j, j < (rs.getD r dR).2.2.length → ν 119 (96 * l + 4 * r + j) = (rs.getD r dR).2.2.getD j 0) ∧ ∀ i, i < (flS rs).length → StR ((flS rs).getD i 0) (ν 120 (240 * l + i)) (ν 121 (240 * l + i)) (ν 122 (240 * l + i))
def CpF (l : Nat) (ν ν0 : am_Mu) : Prop := (∀ a, ¬ (114 ≤ a ∧ a ≤ 122) → ν a = ν0 a) ∧ (∀ i, ¬ i = l → ν 114 i = ν0 114 i) ∧ (∀ a i, 115 ≤ a → a ≤ 118 → ¬ (24 * l ≤ i ∧ i < 24 * l + 24) → ν a i = ν0 a i) ∧ (∀ i, ¬ (96 * l ≤ i ∧ i < 96 * l + 96) → ν 119 i = ν0 119 i) ∧ ∀ a i, 120 ≤ a → a ≤ 122 → ¬ (240 * l ≤ i ∧ i < 240 * l + 240) → ν a i = ν0 a i
theorem CpF.up {l : Nat} {ν ν0 : am_Mu} (h : CpF l ν ν0) {k i : Nat} {x : Int32} (hk : (k = 114 ∧ i = l) ∨ (115 ≤ k ∧ k ≤ 118 ∧ 24 * l ≤ i ∧ i < 24 * l + 24) ∨ (k = 119 ∧ 96 * l ≤ i ∧ i < 96 * l + 96) ∨ (120 ≤ k ∧ k ≤ 122 ∧ 240 * l ≤ i ∧ i < 240 * l + 240)) : CpF l (am_up ν k i x) ν0 := by
  obtain ⟨h1, h2, h3, h4, h5⟩ := h
  refine ⟨fun a ha => by rw [up_row (by omega)]; exact h1 a ha, fun j hj => by rw [up_ne (by omega)]; exact h2 j hj, fun a j ha hb hj => by rw [up_ne (by omega)]; exact h3 a j ha hb hj, fun j hj => by rw [up_ne (by omega)]; exact h4 j hj, fun a j ha hb hj => by rw [up_ne (by omega)]; exact h5 a j ha hb hj⟩
def CpR (l : Nat) (ν ν0 : am_Mu) (R : Nat) : Prop := ∀ r, r < R → ν 115 (24 * l + r) = ν0 123 r ∧ ν 116 (24 * l + r) = ν0 124 r ∧ ν 117 (24 * l + r) = ν0 125 r ∧ ν 118 (24 * l + r) = ν0 126 r ∧ ∀ j, j < 4 → ν 119 (96 * l + 4 * r + j) = ν0 127 (4 * r + j)
def CpC (l : Nat) (ν ν0 : am_Mu) (C : Nat) : Prop := ∀ c, c < C → ν 120 (240 * l + c) = ν0 128 c ∧ ν 121 (240 * l + c) = ν0 129 c ∧ ν 122 (240 * l + c) = ν0 130 c
theorem m_cp273 {l r : Nat} (hl : l < 4) (hr : r < 24) {k181 : Int32 → Int32 → am_Mu → Option (Int32 × am_Mu)} {ν0 : am_Mu} : ∀ q j n (ν : am_Mu), j + q = 4 → q < n → CpF l ν ν0 → (∀ i, i < j → ν 119 (96 * l + 4 * r + i) = ν0 127 (4 * r + i)) → ∃ ν', fM_law_273 n k181 (nI l) (nI r) (nI j) ν = k181 (nI l) (nI (r + 1)) ν' ∧ CpF l ν' ν0 ∧ (∀ i, i < 4 → ν' 119 (96 * l + 4 * r + i) = ν0 127 (4 * r + i)) ∧ (∀ a, ¬ a = 119 → ν' a = ν a) ∧ ∀ i, ¬ (96 * l + 4 * r ≤ i ∧ i < 96 * l + 4 * r + 4) → ν' 119 i = ν 119 i := by
  intro q
  induction q with
  | zero =>
    intro j n ν hj hn hF hC
    obtain ⟨n, rfl⟩ : ∃ k, n = k + 1 := ⟨n - 1, by omega⟩
    have : j = 4 := by omega
    subst this
    refine ⟨ν, ?_, hF, hC, fun _ _ => rfl, fun _ _ => rfl⟩
    rw [fM_law_273, if_pos (by decide)]
    unfold fM_law_315
    rw [show nI r + 1 = nI (r + 1) from nI_plus _ 1]
  | succ q ih =>
    intro j n ν hj hn hF hC
    obtain ⟨n, rfl⟩ : ∃ k, n = k + 1 := ⟨n - 1, by omega⟩
    have e1 : (4 : Int32) * nI r + nI j = nI (4 * r + j) := by
      show nI 4 * nI r + nI j = _
      rw [nI_mul, nI_plus]
    have e2 : (4 : Int32) * ((24 : Int32) * nI l + nI r) + nI j = nI (96 * l + 4 * r + j) := by
      show nI 4 * (nI 24 * nI l + nI r) + nI j = _
      rw [nI_mul, nI_plus, nI_mul, nI_plus]
      congr 1
      omega
    rw [fM_law_273, if_neg (by show ¬ nI 4 ≤ _; rw [nI_le_iff (by omega) (by omega)]; omega), e1, e2, inb_n (by omega) (by omega), cond_true, inb_n (by omega) (by omega), cond_true, nI_clamp (by omega), nI_clamp (by omega), show nI j + 1 = nI (j + 1) from nI_plus _ 1]
    have hF' := hF.up (k := 119) (i := 96 * l + 4 * r + j) (x := ν 127 (4 * r + j)) (by omega)
    obtain ⟨ν', i1, i2, i3, i4, i5⟩ := ih (j + 1) n _ (by omega) (by omega) hF' (by
      intro i hi
      rw [up_at]
      by_cases hij : i = j
      · rw [if_pos (by omega), hij, hF.1 127 (by omega)]
      · rw [if_neg (by omega)]
        exact hC i (by omega))
    refine ⟨ν', i1, i2, i3, fun a ha => by rw [i4 a ha, up_row ha], fun i hi => by rw [i5 i hi, up_ne2 (by omega)]⟩
theorem m_cp324 {l C : Nat} (hl : l < 4) (hC : C ≤ 240) {ν0 : am_Mu} (h31 : ν0 108 31 = nI C) : ∀ q c n (ν : am_Mu), c + q = C → q < n → CpF l ν ν0 → CpC l ν ν0 c → ∃ ν', fM_law_324 n (nI l) (nI c) ν = some (0, ν') ∧ CpF l ν' ν0 ∧ CpC l ν' ν0 C ∧ ∀ a, a < 120 → ν' a = ν a := by
  intro q
  induction q with
  | zero =>
    intro c n ν hc hn hF hCc
    obtain ⟨n, rfl⟩ : ∃ k, n = k + 1 := ⟨n - 1, by omega⟩
    have : c = C := by omega
    subst this
    refine ⟨ν, ?_, hF, hCc, fun _ _ => rfl⟩
    rw [fM_law_324, if_pos (by rw [hF.1 108 (by omega), h31]; exact Int32.le_refl _)]
  | succ q ih =>
    intro c n ν hc hn hF hCc
    obtain ⟨n, rfl⟩ : ∃ k, n = k + 1 := ⟨n - 1, by omega⟩
    have e1 : (240 : Int32) * nI l + nI c = nI (240 * l + c) := by
      show nI 240 * nI l + nI c = _
      rw [nI_mul, nI_plus]
    rw [fM_law_324, if_neg (by rw [hF.1 108 (by omega), h31, nI_le_iff (by omega) (by omega)]; omega), e1, inb_n (by omega) (by omega), cond_true, inb_n (by omega) (by omega), cond_true, nI_clamp (by omega), nI_clamp (by omega), show nI c + 1 = nI (c + 1) from nI_plus _ 1]
    have hF' := ((hF.up (k := 120) (i := 240 * l + c) (x := ν 128 c) (by omega)).up (k := 121) (i := 240 * l + c) (x := ν 129 c) (by omega)).up (k := 122) (i := 240 * l + c) (x := ν 130 c) (by omega)
    obtain ⟨ν', i1, i2, i3, i4⟩ := ih (c + 1) n _ (by omega) (by omega) hF' (by
      intro i hi
      by_cases hij : i = c
      · subst hij
        refine ⟨?_, ?_, ?_⟩
        · rw [up_row (by decide), up_row (by decide), up_eq, hF.1 128 (by omega)]
        · rw [up_row (by decide), up_eq, hF.1 129 (by omega)]
        · rw [up_eq, hF.1 130 (by omega)]
      · have := hCc i (by omega)
        rw [up_row (a := 120) (by decide), up_row (a := 120) (by decide), up_ne2 (by omega), up_row (a := 121) (by decide), up_ne2 (by omega), up_row (a := 121) (by decide), up_ne2 (by omega), up_row (a := 122) (by decide), up_row (a := 122) (by decide)]
        exact this)
    refine ⟨ν', i1, i2, i3, fun a ha => by rw [i4 a ha, up_row (by omega), up_row (by omega), up_row (by omega)]⟩
theorem m_cp181 {l R C : Nat} (hl : l < 4) (hR : R ≤ 24) (hC : C ≤ 240) {ν0 : am_Mu} (h30 : ν0 108 30 = nI R) (h31 : ν0 108 31 = nI C) : ∀ q r n (ν : am_Mu), r + q = R → q < n → CpF l ν ν0 → CpR l ν ν0 r → ∃ ν', fM_law_181 n (nI l) (nI r) ν = some (0, ν') ∧ CpF l ν' ν0 ∧ CpR l ν' ν0 R ∧ CpC l ν' ν0 C ∧ ν' 114 = ν 114 := by
  intro q
  induction q with
  | zero =>
    intro r n ν hr hn hF hRr
    obtain ⟨n, rfl⟩ : ∃ k, n = k + 1 := ⟨n - 1, by omega⟩
    have : r = R := by omega
    subst this
    obtain ⟨ν', i1, i2, i3, i4⟩ := m_cp324 hl hC h31 C 0 am_F ν (by omega) (by unfold am_F; omega) hF (fun c hc => by omega)
    refine ⟨ν', ?_, i2, ?_, i3, i4 114 (by omega)⟩
    · rw [fM_law_181, if_pos (by rw [hF.1 108 (by omega), h30]; exact Int32.le_refl _)]
      exact i1
    · intro j hj
      rw [i4 115 (by omega), i4 116 (by omega), i4 117 (by omega), i4 118 (by omega), i4 119 (by omega)]
      exact hRr j hj
  | succ q ih =>
    intro r n ν hr hn hF hRr
    obtain ⟨n, rfl⟩ : ∃ k, n = k + 1 := ⟨n - 1, by omega⟩
    have e1 : (24 : Int32) * nI l + nI r = nI (24 * l + r) := by
      show nI 24 * nI l + nI r = _
      rw [nI_mul, nI_plus]
    rw [fM_law_181, if_neg (by rw [hF.1 108 (by omega), h30, nI_le_iff (by omega) (by omega)]; omega), e1, inb_n (by omega) (by omega), cond_true, inb_n (by omega) (by omega), cond_true, nI_clamp (by omega), nI_clamp (by omega)]
    have hF' := (((hF.up (k := 115) (i := 24 * l + r) (x := ν 123 r) (by omega)).up (k := 116) (i := 24 * l + r) (x := ν 124 r) (by omega)).up (k := 117) (i := 24 * l + r) (x := ν 125 r) (by omega)).up (k := 118) (i := 24 * l + r) (x := ν 126 r) (by omega)
    obtain ⟨ν1, s1, s2, s3, s4, s5⟩ := m_cp273 hl (show r < 24 by omega) (k181 := fM_law_181 n) 4 0 am_F _ (by omega) (by unfold am_F; omega) hF' (fun i hi => by omega)
    have hR' : CpR l ν1 ν0 (r + 1) := by
      intro j hj
      rw [s4 115 (by omega), s4 116 (by omega), s4 117 (by omega), s4 118 (by omega)]
      by_cases hjr : j = r
      · subst hjr
        refine ⟨?_, ?_, ?_, ?_, s3⟩
        · rw [up_row (by decide), up_row (by decide), up_row (by decide), up_eq, hF.1 123 (by omega)]
        · rw [up_row (by decide), up_row (by decide), up_eq, hF.1 124 (by omega)]
        · rw [up_row (by decide), up_eq, hF.1 125 (by omega)]
        · rw [up_eq, hF.1 126 (by omega)]
      · obtain ⟨m1, m2, m3, m4, m5⟩ := hRr j (by omega)
        refine ⟨?_, ?_, ?_, ?_, ?_⟩
        · rw [up_row (by decide), up_row (by decide), up_row (by decide), up_ne2 (by omega), m1]
        · rw [up_row (by decide), up_row (by decide), up_ne2 (by omega), up_row (by decide), m2]
        · rw [up_row (by decide), up_ne2 (by omega), up_row (by decide), up_row (by decide), m3]
        · rw [up_ne2 (by omega), up_row (by decide), up_row (by decide), up_row (by decide), m4]
        · intro i hi
          rw [s5 _ (by omega), up_row (by decide), up_row (by decide), up_row (by decide), up_row (by decide), m5 i hi]
    obtain ⟨ν', i1, i2, i3, i4, i5⟩ := ih (r + 1) n ν1 (by omega) (by omega) s2 hR'
    refine ⟨ν', ?_, i2, i3, i4, ?_⟩
    · rw [show (0 : Int32) = nI 0 from rfl, s1]
      exact i1
    · rw [i5, s4 114 (by omega), up_row (by decide), up_row (by decide), up_row (by decide), up_row (by decide)]
theorem m_copy {l : Nat} (hl : l < 4) {rs : List LR} (hR : rs.length ≤ 24) (hC : (flS rs).length ≤ 240) (hg : ∀ r, r ∈ rs → RG r) {ν : am_Mu} (h : MX ν rs) {s0 s1 : Int32} (hs : s0 + s1 = nI l) : ∃ ν', fM_law_164 s0 s1 ν = some (0, ν') ∧ LM l ν' rs ∧ CpF l ν' ν := by
  obtain ⟨h29, h31, hc, h30, hm⟩ := h
  have hF : CpF l (am_up ν 114 l (ν 108 30)) ν := CpF.up ⟨fun _ _ => rfl, fun _ _ => rfl, fun _ _ _ _ _ => rfl, fun _ _ => rfl, fun _ _ _ _ _ => rfl⟩ (Or.inl ⟨rfl, rfl⟩)
  obtain ⟨ν', i1, i2, i3, i4, i5⟩ := m_cp181 hl hR hC h30 h31 rs.length 0 am_F _ (by omega) (by unfold am_F; omega) hF (fun r hr => by omega)
  refine ⟨ν', ?_, ⟨?_, ?_, ?_⟩, i2⟩
  · unfold fM_law_164
    rw [hs, inb_n hl (by omega), cond_true, nI_clamp (by omega)]
    exact i1
  · rw [i5, up_eq, h30]
  · intro r hr
    obtain ⟨a1, a2, a3, a4, a5⟩ := i3 r hr
    obtain ⟨b1, b2, b3, b4, b5⟩ := hm r hr
    refine ⟨by rw [a1, b1], by rw [a2, b2], by rw [a3, b3], by rw [a4, b4], ?_⟩
    intro j hj
    have := (hg _ (getD_mem (d := dR) hr)).2.2.2.2.1
    rw [a5 j (by omega), b5 j hj]
  · intro i hi
    obtain ⟨a1, a2, a3⟩ := i4 i hi
    rw [a1, a2, a3]
    exact hc i hi
