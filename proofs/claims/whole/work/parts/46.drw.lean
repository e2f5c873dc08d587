/-! E: row, draw -/
theorem L_ofNat {n : Nat} (h : n < 2 ^ 63) : (Int64.ofNat n).toInt = n := Int64.toInt_ofNat_of_lt h
theorem seed_l {n : Nat} (h : n < 2 ^ 31) : (nI n).toInt64 = Int64.ofNat n := by
  rw [← Int64.toInt_inj, Int32.toInt_toInt64, nI_toInt h, L_ofNat (by omega)]
theorem L_div {a b : Nat} (ha : a < 2 ^ 63) (hb : b < 2 ^ 63) : Int64.ofNat a / Int64.ofNat b = Int64.ofNat (a / b) := by
  have hab : a / b ≤ a := Nat.div_le_self a b
  rw [← Int64.toInt_inj, Int64.toInt_div, L_ofNat ha, L_ofNat hb, L_ofNat (show a / b < 2 ^ 63 by omega), Int.tdiv_eq_ediv_of_nonneg (by omega)]
  have e : ((a : Int) / (b : Int)) = ((a / b : Nat) : Int) := by simp
  rw [e]
  generalize a / b = q at hab ⊢
  refine Int.bmod_eq_of_le ?_ ?_ <;> omega
def sdN (n : Nat) : Nat := (n * 1103515245 + 12345) % 2147483648
def sdX (s : Int32) : Int32 := ((s.toInt64 * 1103515245 + 12345) - ((s.toInt64 * 1103515245 + 12345) / 2147483648) * 2147483648).toInt32
theorem L_sub {a b : Nat} (h : b ≤ a) : Int64.ofNat a - Int64.ofNat b = Int64.ofNat (a - b) := by
  have : Int64.ofNat a = Int64.ofNat (a - b) + Int64.ofNat b := by rw [← Int64.ofNat_add, Nat.sub_add_cancel h]
  rw [this]
  grind
theorem sd_eq {n : Nat} (h : n < 2 ^ 31) : sdX (nI n) = nI (sdN n) := by
  unfold sdX
  rw [seed_l h]
  have e1 : Int64.ofNat n * 1103515245 + 12345 = Int64.ofNat (n * 1103515245 + 12345) := by
    rw [Int64.ofNat_add, Int64.ofNat_mul]
    rfl
  have hb : n * 1103515245 + 12345 < 2 ^ 63 := by omega
  rw [e1]
  show ((Int64.ofNat (n * 1103515245 + 12345)) - Int64.ofNat (n * 1103515245 + 12345) / Int64.ofNat 2147483648 * Int64.ofNat 2147483648).toInt32 = _
  rw [L_div hb (by omega), ← Int64.ofNat_mul, L_sub (Nat.div_mul_le_self _ _)]
  have e2 : n * 1103515245 + 12345 - (n * 1103515245 + 12345) / 2147483648 * 2147483648 = sdN n := by
    unfold sdN
    omega
  rw [e2]
  have h3 : sdN n < 2 ^ 31 := by unfold sdN; omega
  rw [← Int32.toInt_inj, Int64.toInt_toInt32, L_ofNat (by omega), nI_toInt h3]
  refine Int.bmod_eq_of_le ?_ ?_ <;> omega
theorem sdN_lt (n : Nat) : sdN n < 2 ^ 31 := by unfold sdN; omega
theorem chV_mem {μ : am_Mu} {k : Nat} {x : Int32} : ∀ n, x ∈ chV μ k n → ∃ v, v < n ∧ x = nI (10 * k + v) ∧ chC μ k v := by
  intro n
  induction n with
  | zero => intro h; exact absurd h (by unfold chV; simp)
  | succ n ih =>
    intro h
    unfold chV at h
    split at h
    · rename_i hc
      rcases List.mem_append.mp h with h | h
      · obtain ⟨v, h1, h2⟩ := ih h
        exact ⟨v, by omega, h2⟩
      · exact ⟨n, by omega, List.mem_singleton.mp h, hc⟩
    · obtain ⟨v, h1, h2⟩ := ih h
      exact ⟨v, by omega, h2⟩
theorem chK_mem {μ : am_Mu} {D ov : Int32} {nV : Nat} {x : Int32} : ∀ n, x ∈ chK μ D ov nV n → ∃ k, k < n ∧ chO μ D ov k ∧ ∃ v, v < nV ∧ x = nI (10 * k + v) ∧ chC μ k v := by
  intro n
  induction n with
  | zero => intro h; exact absurd h (by unfold chK; simp)
  | succ n ih =>
    intro h
    unfold chK at h
    split at h
    · rename_i hc
      rcases List.mem_append.mp h with h | h
      · obtain ⟨v, h1, h2⟩ := ih h
        exact ⟨v, by omega, h2⟩
      · exact ⟨n, by omega, hc, chV_mem _ h⟩
    · obtain ⟨v, h1, h2⟩ := ih h
      exact ⟨v, by omega, h2⟩
theorem chR_mem {μ : am_Mu} {D : Int32} {nV nK : Nat} {x : Int32} (h : x ∈ chR μ D nV nK) : ∃ k, k < nK ∧ ¬ (¬ μ 105 k = -1 ∧ μ 106 k = D) ∧ ∃ v, v < nV ∧ x = nI (10 * k + v) := by
  unfold chR at h
  split at h
  · obtain ⟨k, h1, h2, v, h3, h4, -⟩ := chK_mem _ h
    exact ⟨k, h1, h2.1, v, h3, h4⟩
  · obtain ⟨k, h1, h2, v, h3, h4, -⟩ := chK_mem _ h
    exact ⟨k, h1, h2.1, v, h3, h4⟩
theorem chR_len {μ : am_Mu} {D : Int32} {nV nK : Nat} (hV : nV ≤ 6) (hK : nK ≤ 8) : (chR μ D nV nK).length ≤ 48 := by
  have h1 := chK_len μ D 1 hV nK
  have h2 := chK_len μ D 0 hV nK
  unfold chR
  split <;> omega
theorem mv_of {ν μ : am_Mu} (h : FrR 107 ν μ) : MV ν μ := by
  refine ⟨⟨?_, ?_, ?_, ?_, ?_, ?_⟩, h 152 (by decide), h 167 (by decide), h 169 (by decide), h 170 (by decide), h 171 (by decide)⟩ <;> rw [h 108 (by decide)]
theorem op_row (μ : am_Mu) : Op fB_row fM_row (fun μ => G0 μ ∧ G5 μ ∧ G7 μ ∧ G8 μ) G8 μ := by
  rintro ⟨⟨-, -, t3⟩, g5, g7, g8⟩
  obtain ⟨u1, u2, -⟩ := id g5
  obtain ⟨v1, v2, -⟩ := id g7
  have hK8 : (μ 76 8).toNatClampNeg ≤ 8 := nt_le (b := 8) u1 u2
  have hV6 : (μ 97 4).toNatClampNeg ≤ 6 := nt_le (b := 6) v1 v2
  obtain ⟨X, x1, x2, x3⟩ := x_row (μ := μ) (nI_nt v1).symm hV6 (nI_nt u1).symm hK8 (D := μ 0 11 / 1440)
  obtain ⟨M, m1, m2, m3, m4⟩ := m_rows (β := X) g5 g7 g8 (mv_of x2) (D := μ 0 11 / 1440) (by rw [t3]) (nI_nt v1).symm hV6 (nI_nt u1).symm hK8
  have e1 : fB_row μ = some (nI (chR μ (μ 0 11 / 1440) (μ 97 4).toNatClampNeg (μ 76 8).toNatClampNeg).length, X) := by
    unfold fB_row fB_today
    rw [Option.bind_some]
    dsimp only
    rw [x1, Option.bind_some]
  have e2 : fM_row X = some (nI (chR μ (μ 0 11 / 1440) (μ 97 4).toNatClampNeg (μ 76 8).toNatClampNeg).length, M) := by
    unfold fM_row
    rw [m1, Option.bind_some, m4]
  exact ⟨_, X, M, e1, e2, G8.fr2 (w_fB_row e1) (w_fM_row e2) rfl rfl g8⟩
/-! draw -/
def pkX (s c : Int32) : Int32 := s / 65536 - s / 65536 / c * c
theorem pick_eq {s c : Nat} (hs : s < 2 ^ 31) (hc : 0 < c) (hc2 : c ≤ 48) : pkX (nI s) (nI c) = nI (s / 65536 % c) := by
  unfold pkX
  have h1 : s / 65536 ≤ s := Nat.div_le_self _ _
  rw [show nI s / 65536 = nI (s / 65536) from nI_div (b := 65536) hs (by omega)]
  exact nI_mod (by omega) (by omega)
theorem xdraw (D : Int32) (μ : am_Mu) : fVisits_drawOne D μ = if μ 102 7 < 400 then ((fVisits_fillRow D μ).bind fun q2 => if 1 ≤ q2.1 then (if q2.1 = 0 then none else bif am_inb (pkX (sdX (q2.2 102 8)) q2.1) 48 then bif am_inb (q2.2 102 7) 400 then bif am_inb (q2.2 107 (pkX (sdX (q2.2 102 8)) q2.1).toNatClampNeg / 10) 8 then some (q2.2 107 (pkX (sdX (q2.2 102 8)) q2.1).toNatClampNeg, am_up (am_up (am_up (am_up (am_up (am_up q2.2 102 8 (sdX (q2.2 102 8))) 103 (q2.2 102 7).toNatClampNeg (q2.2 107 (pkX (sdX (q2.2 102 8)) q2.1).toNatClampNeg)) 104 (q2.2 102 7).toNatClampNeg D) 105 (q2.2 107 (pkX (sdX (q2.2 102 8)) q2.1).toNatClampNeg / 10).toNatClampNeg (q2.2 107 (pkX (sdX (q2.2 102 8)) q2.1).toNatClampNeg - q2.2 107 (pkX (sdX (q2.2 102 8)) q2.1).toNatClampNeg / 10 * 10)) 106 (q2.2 107 (pkX (sdX (q2.2 102 8)) q2.1).toNatClampNeg / 10).toNatClampNeg D) 102 7 (q2.2 102 7 + 1)) else none else none else none) else some (-1, q2.2)) else some (-1, μ) := rfl
theorem mdraw (μ : am_Mu) : fM_draw μ = if ¬ μ 108 11 = 400 then ((fM_rows μ).bind fun q2 => if ¬ q2 108 86 = 0 then (if q2 108 86 = 0 then none else bif am_inb (pkX (sdX (q2 108 12)) (q2 108 86)) 48 then bif am_inb (q2 108 11) 400 then some (q2 172 (pkX (sdX (q2 108 12)) (q2 108 86)).toNatClampNeg, am_up (am_up (am_up (am_up (am_up q2 108 12 (sdX (q2 108 12))) 169 (q2 108 11).toNatClampNeg (q2 172 (pkX (sdX (q2 108 12)) (q2 108 86)).toNatClampNeg / 10)) 170 (q2 108 11).toNatClampNeg (q2 172 (pkX (sdX (q2 108 12)) (q2 108 86)).toNatClampNeg - q2 172 (pkX (sdX (q2 108 12)) (q2 108 86)).toNatClampNeg / 10 * 10)) 171 (q2 108 11).toNatClampNeg (q2 108 2 / 1440)) 108 11 (q2 108 11 + 1)) else none else none) else some (-1, q2)) else some (-1, μ) := rfl
theorem op_draw (μ : am_Mu) : Op fB_draw fM_draw (fun μ => G0 μ ∧ G5 μ ∧ G7 μ ∧ G8 μ) (fun ρ => G8 ρ ∧ ∀ j, (μ 76 8).toNatClampNeg ≤ j → ρ 105 j = μ 105 j) μ := by
  rintro ⟨⟨t1, t2, t3⟩, g5, g7, g8⟩
  obtain ⟨u1, u2, -⟩ := id g5
  obtain ⟨v1, v2, -⟩ := id g7
  obtain ⟨⟨n1, n2, n3, s1, s2, p1, p2, p3⟩, o1, o2, o3⟩ := id g8
  have hK8 : (μ 76 8).toNatClampNeg ≤ 8 := nt_le (b := 8) u1 u2
  have hV6 : (μ 97 4).toNatClampNeg ≤ 6 := nt_le (b := 6) v1 v2
  have hN : (μ 102 7).toNatClampNeg ≤ 400 := nt_le (b := 400) n1 n2
  have e1 : fB_draw μ = ((fVisits_drawOne (μ 0 11 / 1440) μ).bind fun q2 => some (q2.1, q2.2)) := by
    unfold fB_draw fB_today
    rw [Option.bind_some]
  generalize hD : μ 0 11 / 1440 = D at e1
  have hDm : μ 108 2 / 1440 = D := by rw [t3]; exact hD
  by_cases hc : μ 102 7 < 400
  · have hN4 : (μ 102 7).toNatClampNeg < 400 := nt_lt (b := 400) n1 hc
    obtain ⟨X, x1, x2, x3⟩ := x_row (μ := μ) (nI_nt v1).symm hV6 (nI_nt u1).symm hK8 (D := D)
    have lR := chR_len (μ := μ) (D := D) hV6 hK8
    rw [xdraw, if_pos hc, x1, Option.bind_some] at e1
    dsimp only at e1
    rw [x2 102 (by decide)] at e1
    by_cases hL : chR μ D (μ 97 4).toNatClampNeg (μ 76 8).toNatClampNeg = []
    · rw [hL, if_neg (by decide), Option.bind_some] at e1
      obtain ⟨M, m1, m2, m3, m4⟩ := m_rows (β := X) g5 g7 g8 (mv_of x2) hDm (nI_nt v1).symm hV6 (nI_nt u1).symm hK8
      have e2 : fM_draw X = some (-1, M) := by
        rw [mdraw, if_pos (by rw [x2 108 (by decide), n3]; grind), m1, Option.bind_some, m4, hL]
        rfl
      refine ⟨-1, X, M, e1, e2, ?_, fun j _ => by rw [m2.1 105 (by decide) (by decide), x2 105 (by decide)]⟩
      exact (G8.fr2 (l := [(107, 999)]) (l2 := [(108, 86), (172, 999)]) (by
        intro k j hkj
        refine congrFun (x2 k ?_) j
        intro h
        subst h
        revert hkj
        simp [am_wl]) (by
        intro k j hkj
        by_cases h108 : k = 108
        · subst h108
          refine m2.2 j ?_
          intro h
          subst h
          revert hkj
          simp [am_wl]
        · refine congrFun (m2.1 k ?_ h108) j
          intro h
          subst h
          revert hkj
          simp [am_wl]) rfl rfl g8)
    · have hpos := List.length_pos_iff.mpr hL
      generalize hLL : chR μ D (μ 97 4).toNatClampNeg (μ 76 8).toNatClampNeg = L at *
      generalize hcc : L.length = c at *
      have es : μ 102 8 = nI (μ 102 8).toNatClampNeg := (nI_nt s1).symm
      have esd : sdX (μ 102 8) = nI (sdN (μ 102 8).toNatClampNeg) := by rw [es, sd_eq nt_b, nI_clamp nt_b]
      have hsd := sdN_lt (μ 102 8).toNatClampNeg
      generalize sdN (μ 102 8).toNatClampNeg = sd at esd hsd
      have epk : pkX (nI sd) (nI c) = nI (sd / 65536 % c)   := pick_eq hsd hpos lR
      have hpk : sd / 65536 % c < c := Nat.mod_lt _ hpos
      generalize sd / 65536 % c = pk at epk hpk
      have cc1 : (1 : Int32) ≤ nI c := (nI_le_iff (a := 1) (by omega) (by omega)).mpr (by omega)
      have cc0 : ¬ nI c = 0 := by grind
      have epx : X 107 pk = L.getD pk 0 := x3 pk (by omega)
      have hmem : L.getD pk 0 ∈ chR μ D (μ 97 4).toNatClampNeg (μ 76 8).toNatClampNeg := by
        rw [hLL]
        simp only [List.getD_eq_getElem?_getD, List.getElem?_eq_getElem (show pk < L.length by omega), Option.getD_some]
        exact List.getElem_mem _
      obtain ⟨k, k1, k2, v, k3, k4⟩ := chR_mem hmem
      generalize L.getD pk 0 = two at epx k4 hmem
      have tk : two / 10 = nI k := by
        rw [k4, show nI (10 * k + v) / 10 = nI ((10 * k + v) / 10) from nI_div (b := 10) (by omega) (by omega)]
        congr 1
        omega
      have tv : two - two / 10 * 10 = nI v := by
        rw [k4, show nI (10 * k + v) - nI (10 * k + v) / 10 * 10 = nI ((10 * k + v) % 10) from nI_mod (b := 10) (by omega) (by omega)]
        congr 1
        omega
      have tv2 : two - nI k * 10 = nI v := by rw [← tk]; exact tv
      have ck : (nI k).toNatClampNeg = k := nI_clamp (by omega)
      rw [if_pos cc1, if_neg cc0, esd, epk, inb_n (by omega) (by omega), cond_true, nI_clamp (show pk < 2 ^ 31 by omega), epx, tk, tv2, ck, inb_t (n := 400) n1 hN4, cond_true, inb_n (by omega) (by omega), cond_true, Option.bind_some] at e1
      dsimp only at e1
      generalize hXX : am_up (am_up (am_up (am_up (am_up (am_up X 102 8 (nI sd)) 103 (μ 102 7).toNatClampNeg two) 104 (μ 102 7).toNatClampNeg D) 105 k (nI v)) 106 k D) 102 7 (μ 102 7 + 1) = ξ at e1
      have xo : ∀ r, ¬ r = 102 → ¬ r = 103 → ¬ r = 104 → ¬ r = 105 → ¬ r = 106 → ¬ r = 107 → ξ r = μ r := by
        intro r _ _ _ _ _ h107
        rw [← x2 r h107, ← hXX]
        funext j
        simp only [upa]
        grind
      have mvx : MV ξ μ := ⟨⟨by rw [xo 108] <;> decide, by rw [xo 108] <;> decide, by rw [xo 108] <;> decide, by rw [xo 108] <;> decide, by rw [xo 108] <;> decide, by rw [xo 108] <;> decide⟩, xo 152 (by decide) (by decide) (by decide) (by decide) (by decide) (by decide), xo 167 (by decide) (by decide) (by decide) (by decide) (by decide) (by decide), xo 169 (by decide) (by decide) (by decide) (by decide) (by decide) (by decide), xo 170 (by decide) (by decide) (by decide) (by decide) (by decide) (by decide), xo 171 (by decide) (by decide) (by decide) (by decide) (by decide) (by decide)⟩
      obtain ⟨M, m1, m2, m3, m4⟩ := m_rows (β := ξ) g5 g7 g8 mvx hDm (nI_nt v1).symm hV6 (nI_nt u1).symm hK8
      have mvM := m2.mv mvx
      obtain ⟨⟨q2, q7, q10, q11, q12, q13⟩, -, -, q169, q170, q171⟩ := mvM
      rw [hLL] at m3
      rw [hLL, hcc] at m4
      have epm : M 172 pk = two := by
        rw [m3 pk (by omega)]
        have := x3 pk (by omega)
        rw [← this]
        exact epx
      have e2 : fM_draw ξ = some (two, am_up (am_up (am_up (am_up (am_up M 108 12 (nI sd)) 169 (μ 102 7).toNatClampNeg (nI k)) 170 (μ 102 7).toNatClampNeg (nI v)) 171 (μ 102 7).toNatClampNeg D) 108 11 (μ 102 7 + 1)) := by
        rw [mdraw, if_pos (by rw [mvx.1.2.2.2.1, n3]; grind), m1, Option.bind_some, m4, if_pos cc0, if_neg cc0, q12, s2, esd, epk, inb_n (by omega) (by omega), cond_true, nI_clamp (show pk < 2 ^ 31 by omega), epm, tk, tv2, q11, n3, inb_t (n := 400) n1 hN4, cond_true, q2, hDm]
      refine ⟨two, ξ, _, e1, e2, ?_⟩
      generalize hρ : am_up (am_up (am_up (am_up (am_up M 108 12 (nI sd)) 169 (μ 102 7).toNatClampNeg (nI k)) 170 (μ 102 7).toNatClampNeg (nI v)) 171 (μ 102 7).toNatClampNeg D) 108 11 (μ 102 7 + 1) = ρ
      have hs := nt_succ n1 (show μ 102 7 < 2147483647 by grind)
      have b7 : ρ 102 7 = μ 102 7 + 1 := by rw [← hρ]; simp [upa, m2.1 102, ← hXX]
      have b8 : ρ 102 8 = nI sd := by rw [← hρ]; simp [upa, m2.1 102, ← hXX]
      have b9 : ρ 102 9 = μ 102 9 := by rw [← hρ]; simp [upa, m2.1 102, ← hXX, x2 102]
      have b11 : ρ 108 11 = μ 102 7 + 1 := by rw [← hρ]; simp [upa]
      have b12 : ρ 108 12 = nI sd := by rw [← hρ]; simp [upa]
      have b13 : ρ 108 13 = μ 108 13 := by rw [← hρ]; simp [upa, q13]
      have b0 : ρ 0 11 = μ 0 11 := by rw [← hρ]; simp [upa, m2.1 0, xo 0]
      have r103 : ∀ j, ρ 103 j = if j = (μ 102 7).toNatClampNeg then two else μ 103 j := by intro j; rw [← hρ]; simp [upa, m2.1 103, ← hXX, x2 103]
      have r104 : ∀ j, ρ 104 j = if j = (μ 102 7).toNatClampNeg then D else μ 104 j := by intro j; rw [← hρ]; simp [upa, m2.1 104, ← hXX, x2 104]
      have r105 : ∀ j, ρ 105 j = if j = k then nI v else μ 105 j := by intro j; rw [← hρ]; simp [upa, m2.1 105, ← hXX, x2 105]
      have r106 : ∀ j, ρ 106 j = if j = k then D else μ 106 j := by intro j; rw [← hρ]; simp [upa, m2.1 106, ← hXX, x2 106]
      have r169 : ∀ j, ρ 169 j = if j = (μ 102 7).toNatClampNeg then nI k else μ 169 j := by intro j; rw [← hρ]; simp [upa, q169]
      have r170 : ∀ j, ρ 170 j = if j = (μ 102 7).toNatClampNeg then nI v else μ 170 j := by intro j; rw [← hρ]; simp [upa, q170]
      have r171 : ∀ j, ρ 171 j = if j = (μ 102 7).toNatClampNeg then D else μ 171 j := by intro j; rw [← hρ]; simp [upa, q171]
      have pk0 : 0 ≤ nI k := nI_pos' (by omega)
      have pv0 : 0 ≤ nI v := nI_pos' (by omega)
      have lk8 : nI k < 8 := (nI_lt_iff (b := 8) (by omega) (by omega)).mpr (by omega)
      have lv6 : nI v < 6 := (nI_lt_iff (b := 6) (by omega) (by omega)).mpr (by omega)
      have D0 : 0 ≤ D := by
        rw [← hD, ← nI_nt t1, show nI (μ 0 11).toNatClampNeg / 1440 = nI ((μ 0 11).toNatClampNeg / 1440) from nI_div (b := 1440) nt_b (by omega)]
        have := Nat.div_le_self (μ 0 11).toNatClampNeg 1440
        have := nt_b (a := μ 0 11)
        exact nI_pos' (by omega)
      have two2 : two = nI k * 10 + nI v := by
        rw [k4]
        show _ = nI k * nI 10 + nI v
        rw [nI_mul, nI_plus, Nat.mul_comm]
      -- no visit of this kitchen today
      have before : ∀ i, i < (μ 102 7).toNatClampNeg → μ 169 i = nI k → μ 171 i < D := by
        intro i hi hik
        have leD : ∀ i, i < (μ 102 7).toNatClampNeg → μ 171 i ≤ D := fun i hi => by
          have := (o1 i hi).2.2.2.2.2
          rw [← hD]
          exact this
        rcases o3 k (by omega) with ⟨-, -, z3⟩ | ⟨i0, z1, z2, z3, z4, z5⟩
        · exact absurd hik (z3 i hi)
        · have hne : ¬ μ 105 k = -1 := by
            rw [z3]
            intro h
            have := (o1 i0 z1).2.1.1
            rw [h] at this
            exact absurd this (by decide)
          have hnD : ¬ μ 106 k = D := fun h => k2 ⟨hne, h⟩
          rw [z4] at hnD
          have hlt : μ 171 i0 < D := by
            have := leD i0 z1
            grind
          rcases Nat.lt_trichotomy i i0 with h | h | h
          · have := (o2 i i0 h z1).1
            grind
          · rw [h]
            exact hlt
          · exact absurd hik (z5 i h hi)
      refine ⟨?_, fun j hj => by rw [r105, if_neg (by omega)]⟩
      refine ⟨⟨by rw [b7]; grind, by rw [b7]; grind, by rw [b11, b7], by rw [b8]; exact nI_pos' hsd, by rw [b12, b8], by rw [b9]; exact p1, by rw [b9]; exact p2, by rw [b13, b9]; exact p3⟩, ?_, ?_, ?_⟩
      · intro i hi
        rw [b7, hs] at hi
        rw [r169, r170, r103, r104, r171, b0]
        by_cases hin : i = (μ 102 7).toNatClampNeg
        · simp only [if_pos hin]
          exact ⟨⟨pk0, lk8⟩, ⟨pv0, lv6⟩, two2, trivial, D0, by rw [hD]; exact Int32.le_refl _⟩
        · simp only [if_neg hin]
          exact o1 i (by omega)
      · intro i i' hii hi
        rw [b7, hs] at hi
        rw [r171, r171, r169, r169]
        by_cases hin : i' = (μ 102 7).toNatClampNeg
        · rw [if_pos hin, if_neg (by omega), if_pos hin, if_neg (by omega)]
          have h1 := (o1 i (by omega)).2.2.2.2.2
          rw [hD] at h1
          exact ⟨h1, fun h => before i (by omega) h⟩
        · rw [if_neg hin, if_neg (show ¬ i = (μ 102 7).toNatClampNeg by omega), if_neg hin, if_neg (show ¬ i = (μ 102 7).toNatClampNeg by omega)]
          exact o2 i i' hii (by omega)
      · intro k' hk'
        rw [b7, hs, r105, r106]
        by_cases hkk : k' = k
        · subst hkk
          right
          refine ⟨(μ 102 7).toNatClampNeg, by omega, by rw [r169, if_pos rfl], by rw [if_pos rfl, r170, if_pos rfl], by rw [if_pos rfl, r171, if_pos rfl], fun i' h1 h2 => absurd h1 (by omega)⟩
        · rw [if_neg hkk, if_neg hkk]
          have hnk : ¬ nI k = nI k' := by
            rw [nI_inj (by omega) (by omega)]
            omega
          rcases o3 k' hk' with ⟨z1, z2, z3⟩ | ⟨i0, z1, z2, z3, z4, z5⟩
          · refine Or.inl ⟨z1, z2, ?_⟩
            intro i hi
            rw [r169]
            by_cases hin : i = (μ 102 7).toNatClampNeg
            · rw [if_pos hin]
              exact hnk
            · rw [if_neg hin]
              exact z3 i (by omega)
          · refine Or.inr ⟨i0, by omega, by rw [r169, if_neg (by omega)]; exact z2, by rw [r170, if_neg (by omega)]; exact z3, by rw [r171, if_neg (by omega)]; exact z4, ?_⟩
            intro i h1 h2
            rw [r169]
            by_cases hin : i = (μ 102 7).toNatClampNeg
            · rw [if_pos hin]
              exact hnk
            · rw [if_neg hin]
              exact z5 i h1 (by omega)
  · rw [xdraw, if_neg hc, Option.bind_some] at e1
    have h400 : μ 102 7 = 400 := by grind
    have e2 : fM_draw μ = some (-1, μ) := by
      rw [mdraw, if_neg (by rw [n3]; simpa using h400)]
    exact ⟨-1, μ, μ, e1, e2, g8, fun _ _ => rfl⟩
