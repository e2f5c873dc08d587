/-! E: THE WHOLE OF p40 -/
set_option maxRecDepth 1000000 in
theorem am_m5_ok : am_m5 0 11 = 9000 ∧ am_m5 40 5 = 0 ∧ am_m5 46 5 = 0 ∧ am_m5 13 13 = 0 ∧ am_m5 13 14 = 0 ∧ am_m5 13 15 = 0 ∧ am_m5 13 16 = 0 ∧ (am_m5 28 5 = nI rs40.length ∧ (∀ r, r < rs40.length → am_m5 29 r = (rs40.getD r dR).1 ∧ am_m5 30 r = nI (flS (rs40.take (r + 1))).length ∧ am_m5 31 r = nI (flE (rs40.take (r + 1))).length) ∧ (∀ r, r < (flS rs40).length → am_m5 32 r = (flS rs40).getD r 0) ∧ (∀ r, r < (flE rs40).length → am_m5 33 r = (flE rs40).getD r 0)) ∧ am_m5 34 5 = 0 := by decide +kernel
theorem n_law {sL : Nat} {sX : Nat → Int32} : am_n sL sX = nI (dN sL sX) := by
  obtain ⟨j, j1, j2⟩ := and_lt (cvL sL sX 0)
  unfold am_n
  rw [show (if (Int32.ofNat sL) ≤ 0 then 0 else sX 0) = cvL sL sX 0 from rfl, j2]
  unfold dN pkN
  rw [j2, nI_clamp (by omega), show nI j - nI j / 5 * 5 = nI (j % 5) from nI_mod (b := 5) (by omega) (by omega)]
  exact nI_plus 2 _
theorem bas_0 : Bas 0 am_m5 := by
  obtain ⟨h1, h2, h3, h4, h5, h6, h7, h8, h9⟩ := am_m5_ok
  exact ⟨h1, ⟨h2, h3, h8, ⟨h9, fun r hr => absurd hr (Nat.not_lt_zero _), fun r hr => absurd hr (Nat.not_lt_zero _), fun r hr => absurd hr (Nat.not_lt_zero _)⟩⟩, h5, fun t ht => absurd ht (Nat.not_lt_zero _)⟩
theorem e_law {sL : Nat} {sX : Nat → Int32} (hL : sL ≤ 260) : ∃ μ', fL_law_60 sL sX am_F (am_n sL sX) 1 0 am_m5 = some (1, μ') := by
  obtain ⟨n1, n2⟩ := dN_b sL sX
  have hD : Dat (dN sL sX) (dK sL sX) (dA sL sX) (dB sL sX) (dM sL sX) (dwr sL sX) (dwm sL sX) := ⟨n1, n2, dat_a sL sX, dat_m sL sX⟩
  obtain ⟨-, -, -, h4, -, h6, h7, -, -⟩ := am_m5_ok
  obtain ⟨μ1, x1, x2, x3, x4⟩ := l_things (sL := sL) (sX := sX) (dN sL sX) 0 am_F am_m5 (by omega) (by unfold am_F; omega) bas_0
  have hc1 : CS' sL sX 0 0 μ1 := ⟨x2, ⟨by rw [x4 15 (by omega), h6]; rfl, fun j hj => absurd hj (Nat.not_lt_zero _)⟩, ⟨by rw [x4 16 (by omega), h7]; rfl, fun j hj => absurd hj (Nat.not_lt_zero _)⟩, by rw [x4 13 (by omega), h4]; rfl, fun _ => 0, fun p hp => absurd hp (by omega), fun p p' _ hp => absurd hp (by omega), fun e he => absurd he (by unfold okC; omega)⟩
  generalize hν : am_row (am_row (am_row (am_row μ1 110 (fun _ => 0)) 111 (fun _ => 0)) 112 (fun _ => 0)) 113 (fun _ => 0) = ν
  have hc2 : CS' sL sX 0 0 ν := hc1.cong (fun a ha => by rw [← hν, am_row_ne (by omega), am_row_ne (by omega), am_row_ne (by omega), am_row_ne (by omega)])
  obtain ⟨μ2, y1, y2, y3⟩ := l_acts (sL := sL) (sX := sX) hL 14 0 am_F ν (by omega) (by unfold am_F; omega) hc2 (fun j hj => absurd hj (Nat.not_lt_zero _))
  generalize hξ : am_row μ2 114 (fun _ => 0) = ξ
  have hc3 : CS' sL sX 14 0 ξ := y2.cong (fun a ha => by rw [← hξ, am_row_ne (by omega)])
  have hA3 : LA' sL sX 14 ξ := by
    intro j hj
    rw [← hξ, am_row_ne (by omega), am_row_ne (by omega), am_row_ne (by omega), am_row_ne (by omega)]
    exact y3 j hj
  obtain ⟨μ3, z1, z2, z3, z4⟩ := l_miss (sL := sL) (sX := sX) hL 2 0 am_F ξ (by omega) (by unfold am_F; omega) hc3 hA3 (fun j hj => absurd hj (Nat.not_lt_zero _))
  obtain ⟨c, hC⟩ := cs_of z2
  have hU : dU sL sX < 60 := by
    have := pkN_lt (v := cvL sL sX 17) (N := 45) (by omega)
    unfold dU
    omega
  obtain ⟨μ4, u1, u2, u3, u4⟩ := l_385 (sL := sL) (sX := sX) hL hD (μ := μ3) ⟨hC, z3, z4⟩
  obtain ⟨μ', w1⟩ := l_694 (sL := sL) (sX := sX) (μ := μ4) hD ⟨u2, u3, u4⟩ hU (dN sL sX) 0 am_F μ4 (by omega) (by unfold am_F; omega) (fun _ _ => rfl)
  refine ⟨μ', ?_⟩
  rw [n_law, show (0 : Int32) = nI 0 from rfl, x1]
  unfold fL_law_92
  rw [hν, show (0 : Int32) = nI 0 from rfl, y1]
  unfold fL_law_289
  rw [hξ]
  exact z1.trans (u1.trans w1)
