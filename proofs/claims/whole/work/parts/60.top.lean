/-! E: tour and stop -/
theorem fullT : ∀ n : Fin 9, cardB (2 ^ n.val - 1) = n.val := by decide +kernel
theorem getD_map2 {ks : Nat → Nat} {W : List Nat} {j : Nat} (h : j < W.length) : ((W.map ks).map nI).getD j 0 = nI (ks (W.getD j 0)) := by
  simp only [List.getD_eq_getElem?_getD, List.getElem?_map, List.getElem?_eq_getElem h, Option.map_some, Option.getD_some]
theorem wlk_mem {d : Nat → Nat → Int32} {n : Nat} : ∀ {T : Nat}, T < 256 → (∀ i, i < 8 → hasB T i → i < n) → ∀ g i, i < 8 → hasB T i → ∀ {x}, x ∈ wlk d g T (some i) → x < n := by
  intro T hT hm g
  induction g generalizing T with
  | zero => intro i _ _ x hx; cases hx
  | succ g ih =>
    intro i hi hb x hx
    have np := near_p (fun j => d i j + wW d (clrB T i) j) (clrB T i) 8
    have c := clr8 hT hi
    rw [wlk] at hx
    rcases List.mem_cons.mp hx with h | h
    · rw [h]
      exact hm i hi hb
    · cases hq : nearB (fun j => d i j + wW d (clrB T i) j) (clrB T i) 8 with
      | none =>
        rw [hq] at h
        cases g <;> cases h
      | some b =>
        rw [hq] at h np
        exact ih (T := clrB T i) (by omega) (fun j hj hs => hm j hj ((c.2.2 j hj).mp hs).2) b np.1 np.2.1 h
theorem tour_both {μ : am_Mu} (g0 : G0 μ) (g5 : G5 μ) (g8 : G8 μ) (g10 : G10 μ) {a : Int32} (ha : 0 ≤ a) : ∃ (n : Nat) (ks : Nat → Nat) (W : List Nat) (q len : Int32) (μ1 ν : am_Mu), n ≤ 8 ∧ fVisits_kitchensOn (μ 0 11 / 1440) a μ = some (q, μ) ∧ fKitchens_planTour q μ = some (if n = 0 then -1 else len, μ1) ∧ μ1 76 7 = nI n ∧ μ1 97 = μ 97 ∧ μ1 108 = μ 108 ∧ (∀ j, j < n → μ1 83 j = nI (ks (W.getD j 0))) ∧ fM_tours a μ1 = some ν ∧ ν 108 88 = nI n ∧ (1 ≤ n → fM_length ν = some (len, ν) ∧ ∃ b, fM_beginsAt (nI (2 ^ n - 1)) len (-1) ν = some (nI b, ν) ∧ ∀ k, k < n → fM_stop_59 am_F (nI k) (nI (2 ^ n - 1)) (nI b) 0 ν = some (nI (ks (W.getD k 0)), ν)) := by
  obtain ⟨t1, t2, t3⟩ := id g0
  obtain ⟨u1, u2, -⟩ := id g5
  have hK8 : (μ 76 8).toNatClampNeg ≤ 8 := nt_le (b := 8) u1 u2
  obtain ⟨m, m1, m2, m3⟩ := x_mask g8 ha
  have hs := tour_set g10 (D := μ 0 11 / 1440) ha (nI_nt u1).symm hK8 m3
  have hDm : μ 108 2 / 1440 = μ 0 11 / 1440 := by rw [t3]
  have mt := fun (β : am_Mu) (mv : MV β μ) (e154 : β 154 = μ 154) (e155 : β 155 = μ 155) => m_tours g5 g8 mv e154 e155 hDm ha (nI_nt u1).symm hK8
  have lL := tdL_len μ (μ 0 11 / 1440) a (μ 76 8).toNatClampNeg
  have hinc := tdL_inc (μ := μ) (D := μ 0 11 / 1440) (a := a) (μ 76 8).toNatClampNeg
  have hmem : ∀ i, i < (tdL μ (μ 0 11 / 1440) a (μ 76 8).toNatClampNeg).length → ksL (tdL μ (μ 0 11 / 1440) a (μ 76 8).toNatClampNeg) i < 8 := by
    intro i hi
    have := ((tdL_mem _).mp (ksL_mem hi)).1
    omega
  generalize hL : tdL μ (μ 0 11 / 1440) a (μ 76 8).toNatClampNeg = L at *
  generalize hn : L.length = n at *
  have hn8 : n ≤ 8 := by omega
  have hT2 := p2_le hn8
  have hpos : 0 < 2 ^ n := Nat.pow_pos (by decide)
  have hks : ∀ i, i < n → ksL L i < 8 := hmem
  have him : ∀ i j, i < j → j < n → ksL L i < ksL L j := fun i j h1 h2 => ksL_inc hinc h1 (by omega)
  have hfull : ∀ i, i < 8 → (hasB (2 ^ n - 1) i ↔ i < n) := fun i hi => full8 hn8 hi
  have mvT : ∀ β, FrT β μ → MV β μ := by
    intro β h
    exact ⟨⟨by rw [h.1 108 (by decide) (by decide) (by decide)], by rw [h.1 108 (by decide) (by decide) (by decide)], by rw [h.1 108 (by decide) (by decide) (by decide)], by rw [h.1 108 (by decide) (by decide) (by decide)], by rw [h.1 108 (by decide) (by decide) (by decide)], by rw [h.1 108 (by decide) (by decide) (by decide)]⟩, h.1 152 (by decide) (by decide) (by decide), h.1 167 (by decide) (by decide) (by decide), h.1 169 (by decide) (by decide) (by decide), h.1 170 (by decide) (by decide) (by decide), h.1 171 (by decide) (by decide) (by decide)⟩
  by_cases hm0 : m = 0
  · have n0 : n = 0 := by
      rcases Nat.eq_zero_or_pos n with h | h
      · exact h
      · have := hs.2.1 0 h ((hfull 0 (by omega)).mpr h)
        rw [hm0] at this
        exact absurd this (by rw [hasB, Nat.zero_div]; decide)
    have fr : FrT (am_up μ 76 7 0) μ := ⟨fun a _ _ h => up_row h, fun j h => up_ne2 h⟩
    obtain ⟨ν, w1, w2, -⟩ := mt (am_up μ 76 7 0) (mvT _ fr) (fr.1 154 (by decide) (by decide) (by decide)) (fr.1 155 (by decide) (by decide) (by decide))
    refine ⟨n, ksL L, [], nI m, 0, am_up μ 76 7 0, ν, hn8, m2, ?_, ?_, fr.1 97 (by decide) (by decide) (by decide), fr.1 108 (by decide) (by decide) (by decide), fun j hj => by omega, w1, w2, fun h => by omega⟩
    · rw [hm0, x_tour0, if_pos n0]
    · rw [up_eq, n0]; rfl
  · obtain ⟨b, μ1, b1, b2, b3, b4, b5⟩ := x_tour (μ := μ) (F := m) (by omega) m1
    obtain ⟨ν, w1, w2, w3, w4, w5, w6⟩ := mt μ1 (mvT _ b3) (b3.1 154 (by decide) (by decide) (by decide)) (b3.1 155 (by decide) (by decide) (by decide))
    have nb := near_p (fun j => wW (dK μ) m j) m 8
    rw [b1] at nb
    have hn1 : 1 ≤ n := by
      obtain ⟨i, i1, -⟩ := hs.1 b nb.1 nb.2.1
      omega
    have hd : ∀ i j, i < n → j < n → (fun i j => dK μ (ksL L i) (ksL L j)) i j = dK μ (ksL L i) (ksL L j) := fun _ _ _ _ => rfl
    have hlt : 2 ^ n - 1 < 256 := by omega
    have ew : ∀ i, i < n → wW (fun i j => dK μ (ksL L i) (ksL L j)) (2 ^ n - 1) i = wW (dK μ) m (ksL L i) := by
      intro i hi
      exact waV_map hn8 hks him hd 8 m (2 ^ n - 1) i m1 hlt hs hi
    have en := hs.near hn8 hks him (w := fun j => wW (dK μ) m j) (v := fun j => wW (fun i j => dK μ (ksL L i) (ksL L j)) (2 ^ n - 1) j) (fun i hi _ => ew i hi)
    have nt := near_p (fun j => wW (fun i j => dK μ (ksL L i) (ksL L j)) (2 ^ n - 1) j) (2 ^ n - 1) 8
    cases ht : nearB (fun j => wW (fun i j => dK μ (ksL L i) (ksL L j)) (2 ^ n - 1) j) (2 ^ n - 1) 8 with
    | none =>
      rw [ht, b1] at en
      cases en
    | some t =>
      rw [ht, b1] at en
      rw [ht] at nt
      obtain ⟨nt1, nt2, nt3, nt4⟩ := nt
      have ebt : b = ksL L t := Option.some.inj en
      have htn : t < n := (hfull t nt1).mp nt2
      have hc : cardB (2 ^ n - 1) = n := fullT ⟨n, by omega⟩
      have wl := wlk_len (d := fun i j => dK μ (ksL L i) (ksL L j)) 8 (2 ^ n - 1) t hlt nt1 nt2 (by omega)
      have wm := wlk_map hn8 hks him hd 8 m (2 ^ n - 1) (some t) m1 hlt hs (fun i h => by cases h; exact htn)
      rw [show (some t).map (ksL L) = some b by rw [ebt]; rfl] at wm
      rw [wm] at b4 b5
      generalize hW : wlk (fun i j => dK μ (ksL L i) (ksL L j)) 8 (2 ^ n - 1) (some t) = W at *
      have elen : fM_length ν = some (wW (dK μ) m b, ν) := by
        have h1 := m_length hn8 hn1 w2
        have e1 : nearB (fun j => ν 174 (8 * (2 ^ n - 1) + j)) (2 ^ n - 1) n = some t := by
          rw [near_congr (v := fun j => wW (fun i j => dK μ (ksL L i) (ksL L j)) (2 ^ n - 1) j) (fun j hj hb => w6 (2 ^ n - 1) (by omega) j (by omega) hb)]
          rw [← near_ext (m := 8) hn8 (fun i hi hb => (hfull i hi).mp hb)]
          exact ht
        rw [e1] at h1
        rw [h1]
        refine congrArg (fun z => some (z, ν)) ?_
        show ν 174 (8 * (2 ^ n - 1) + t) = _
        rw [w6 (2 ^ n - 1) (by omega) t nt1 nt2, ew t htn, ebt]
      refine ⟨n, ksL L, W, nI m, wW (dK μ) m b, μ1, ν, hn8, m2, ?_, ?_, b3.1 97 (by decide) (by decide) (by decide), b3.1 108 (by decide) (by decide) (by decide), ?_, w1, w2, fun _ => ⟨elen, t, ?_, ?_⟩⟩
      · rw [b2, if_neg (by omega)]
      · rw [b5, List.length_map, wl, hc]
      · intro j hj
        rw [b4 j (by rw [List.length_map, List.length_map, wl, hc]; exact hj)]
        exact getD_map2 (by rw [wl, hc]; exact hj)
      · have := m_begins hn8 w2 (w := fun j => wW (fun i j => dK μ (ksL L i) (ksL L j)) (2 ^ n - 1) j) (T := 2 ^ n - 1) (by omega) (p := none) (fun k h => by cases h) (len := wW (dK μ) m b) (fun j hj hb => ⟨fun _ => w6 (2 ^ n - 1) (by omega) j (by omega) hb, fun k h => by cases h⟩) htn nt2 (by rw [ew t htn, ebt]) (by
          intro j hj hb hx
          have h4 := nt4 j hj hb
          dsimp only at hx h4
          rw [hx, ew t htn, ebt] at h4
          exact Int32.lt_irrefl h4)
        exact this
      · intro k hk
        have h1 := m_walk (ks := ksL L) hn8 (ν := ν) (μ := μ) w3 hks w4 w5 w2 w6 (a2 := k) (by omega) k 0 (2 ^ n - 1) t 8 am_F (by omega) (by unfold am_F; omega) (by omega) htn nt2 (by omega) (by omega)
        rw [hW] at h1
        change fM_stop_59 am_F (nI k) (nI (2 ^ n - 1)) (nI t) 0 ν = _ at h1
        rw [h1]
        have hkW : W.getD k 0 < n := by
          have hm : W.getD k 0 ∈ W := by
            simp only [List.getD_eq_getElem?_getD, List.getElem?_eq_getElem (show k < W.length by omega), Option.getD_some]
            exact List.getElem_mem _
          have hm3 : ∀ x, x ∈ W → x ∈ wlk (fun i j => dK μ (ksL L i) (ksL L j)) 8 (2 ^ n - 1) (some t) := by
            intro x hx
            rw [hW]
            exact hx
          exact wlk_mem hlt (fun i hi hb => (hfull i hi).mp hb) 8 t nt1 nt2 (hm3 _ hm)
        unfold fM_stop_105
        rw [inb_n (by omega) (by omega), cond_true, nI_clamp (by omega), w3 _ hkW]
theorem op_tour (a : Int32) (μ : am_Mu) : Op (fB_tour a) (fM_tour a) (fun μ => G0 μ ∧ G5 μ ∧ G7 μ ∧ G8 μ ∧ G10 μ) (fun _ => True) μ := by
  rintro ⟨g0, g5, g7, g8, g10⟩
  obtain ⟨v1, v2, v3, -⟩ := id g7
  by_cases hv : 0 ≤ a ∧ a < μ 97 4
  · obtain ⟨n, ks, W, q, len, μ1, ν, p1, p2, p3, p4, p5, p6, p7, p8, p9, p10⟩ := tour_both g0 g5 g8 g10 hv.1
    refine ⟨if n = 0 then -1 else len, μ1, ν, ?_, ?_, trivial⟩
    · unfold fB_tour fB_today
      rw [l_isIn, Option.bind_some, b2i_t hv]
      dsimp only
      rw [if_pos (by decide), Option.bind_some]
      dsimp only
      rw [p2, Option.bind_some]
      dsimp only
      rw [p3, Option.bind_some]
    · unfold fM_tour
      rw [l_lies, Option.bind_some, b2i_t (by rw [p6, v3]; grind)]
      dsimp only
      rw [if_pos (by decide), p8, Option.bind_some, p9]
      by_cases h0 : n = 0
      · rw [if_pos h0, h0]
        rfl
      · rw [if_neg h0, if_pos (by rw [show (0 : Int32) = nI 0 from rfl, nI_inj (by omega) (by omega)]; exact h0), (p10 (by omega)).1, Option.bind_some]
  · refine ⟨-1, μ, μ, ?_, ?_, trivial⟩
    · unfold fB_tour
      rw [l_isIn, Option.bind_some, b2i_f hv]
      rfl
    · unfold fM_tour
      rw [l_lies, Option.bind_some, b2i_f (by rw [v3]; grind)]
      rfl
theorem op_stop (a c : Int32) (μ : am_Mu) : Op (fB_stop a c) (fM_stop a c) (fun μ => G0 μ ∧ G5 μ ∧ G7 μ ∧ G8 μ ∧ G10 μ) (fun _ => True) μ := by
  rintro ⟨g0, g5, g7, g8, g10⟩
  obtain ⟨v1, v2, v3, -⟩ := id g7
  by_cases hv : 0 ≤ a ∧ a < μ 97 4
  · by_cases hc0 : 0 ≤ c
    · obtain ⟨n, ks, W, q, len, μ1, ν, p1, p2, p3, p4, p5, p6, p7, p8, p9, p10⟩ := tour_both g0 g5 g8 g10 hv.1
      obtain ⟨k, rfl, hk31⟩ : ∃ k, c = nI k ∧ k < 2 ^ 31 := ⟨c.toNatClampNeg, (nI_nt hc0).symm, nt_b⟩
      have eM : fM_stop a (nI k) = fM_stop a (nI k) := rfl
      have two : ∀ β : am_Mu, β 108 = μ 108 → fM_tours a β = some ν → fM_stop a (nI k) β = some (if k < n then nI (ks (W.getD k 0)) else -1, ν) := by
        intro β hβ ht
        unfold fM_stop
        rw [l_lies, Option.bind_some, b2i_t (by rw [hβ, v3]; grind)]
        dsimp only
        rw [if_neg (by decide), if_pos hc0, ht, Option.bind_some, p9]
        by_cases hkn : k < n
        · obtain ⟨q1, b, q2, q3⟩ := p10 (by omega)
          have e1 : nI (2 ^ n) - 1 = nI (2 ^ n - 1) := nI_sub (b := 1) (Nat.pow_pos (by decide))
          rw [if_pos hkn, if_pos ((nI_lt_iff (by omega) (by omega)).mpr hkn), q1, Option.bind_some]
          dsimp only
          rw [sh9 p1, e1, q2, Option.bind_some]
          dsimp only
          rw [q3 k hkn]
        · rw [if_neg hkn, if_neg (by rw [nI_lt_iff (by omega) (by omega)]; exact hkn)]
      by_cases h8 : nI k < 8
      · have hk8 : k < 8 := (nI_lt_iff (b := 8) (by omega) (by omega)).mp h8
        refine ⟨if k < n then nI (ks (W.getD k 0)) else -1, μ1, ν, ?_, two μ1 p6 p8, trivial⟩
        unfold fB_stop fB_today
        rw [l_isIn, Option.bind_some, b2i_t hv]
        dsimp only
        rw [if_neg (by decide), l_isIn, Option.bind_some, b2i_t ⟨hc0, h8⟩]
        dsimp only
        rw [if_pos (by decide), Option.bind_some]
        dsimp only
        rw [p2, Option.bind_some]
        dsimp only
        rw [p3, Option.bind_some]
        dsimp only
        rw [inb_n hk8 (by omega), cond_true, nI_clamp (by omega)]
        by_cases hkn : k < n
        · rw [if_pos hkn, if_neg (by rw [p4, nI_le_iff (by omega) (by omega)]; omega), p7 k hkn]
        · rw [if_neg hkn, if_pos (by rw [p4]; exact (nI_le_iff (by omega) (by omega)).mpr (by omega))]
      · have hk8 : ¬ k < 8 := fun h => h8 ((nI_lt_iff (b := 8) (by omega) (by omega)).mpr h)
        obtain ⟨ν0, r1, r2, -⟩ := m_tours g5 g8 (β := μ) ⟨⟨rfl, rfl, rfl, rfl, rfl, rfl⟩, rfl, rfl, rfl, rfl, rfl⟩ rfl rfl (D := μ 0 11 / 1440) (by rw [g0.2.2]) hv.1 (nI_nt g5.1).symm (nt_le (b := 8) g5.1 g5.2.1)
        have lL := tdL_len μ (μ 0 11 / 1440) a (μ 76 8).toNatClampNeg
        have l8 : (μ 76 8).toNatClampNeg ≤ 8 := nt_le (b := 8) g5.1 g5.2.1
        refine ⟨-1, μ, ν0, ?_, ?_, trivial⟩
        · unfold fB_stop
          rw [l_isIn, Option.bind_some, b2i_t hv]
          dsimp only
          rw [if_neg (by decide), l_isIn, Option.bind_some, b2i_f (fun h => h8 h.2)]
          rfl
        · unfold fM_stop
          rw [l_lies, Option.bind_some, b2i_t (by rw [v3]; grind)]
          dsimp only
          rw [if_neg (by decide), if_pos hc0, r1, Option.bind_some, r2, if_neg (by rw [nI_lt_iff (by omega) (by omega)]; omega)]
    · refine ⟨-1, μ, μ, ?_, ?_, trivial⟩
      · unfold fB_stop
        rw [l_isIn, Option.bind_some, b2i_t hv]
        dsimp only
        rw [if_neg (by decide), l_isIn, Option.bind_some, b2i_f (fun h => hc0 h.1)]
        rfl
      · unfold fM_stop
        rw [l_lies, Option.bind_some, b2i_t (by rw [v3]; grind)]
        dsimp only
        rw [if_neg (by decide), if_neg hc0]
  · refine ⟨-1, μ, μ, ?_, ?_, trivial⟩
    · unfold fB_stop
      rw [l_isIn, Option.bind_some, b2i_f hv]
      rfl
    · unfold fM_stop
      rw [l_lies, Option.bind_some, b2i_f (by rw [v3]; grind)]
      rfl
