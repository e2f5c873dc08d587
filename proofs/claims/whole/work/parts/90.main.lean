/-! E: THE WHOLE -/
theorem e_law {sL : Nat} {sX : Nat → Int32} (hL : sL ≤ 3584) : ∃ μ', fL_law_18 sL sX am_F 0 am_m2 = some (1, μ') := lp_all hL sL am_F 0 am_m2 (by omega) (by unfold am_F; omega) (by omega) (inv_ini (am_InitB_of am_m2_ok) iniK_ok)
set_option maxRecDepth 1000000 in
theorem am_fin2 {sL : Nat} {sX : Nat → Int32} (h : ∃ μ', fL_law_18 sL sX am_F 0 am_m2 = some (1, μ')) : am_Run sL sX := by
  obtain ⟨μ', hμ⟩ := h
  have hx1 : am_exec 5000 none 100 98 0 (.ref 0 :: List.replicate 0 .null) [] am_s1 (am_push (fun _ _ => 0) 0) = some (none, am_SH.take 108, am_m1) := am_map_some (z := fun _ _ => 0) am_x1_ok
  have hx2 : am_exec 5000 none 100 145 0 (.ref 108 :: List.replicate 0 .null) [] am_s3 (am_push am_m1 108) = some (none, am_SH, am_m2) := am_map_some (z := fun _ _ => 0) am_x2_ok
  have he : am_Ex (some (sL, sX)) (100 + 1) am_law 0 [.ref am_SCR, .null, .null, .null] [] [] (fun _ _ => 0) (some (.int 1), am_SH, μ') := by
    refine am_Ex.new (n := 0) (sh1 := am_s1) rfl rfl rfl rfl rfl ?_
    refine am_Ex.step (pc' := 4) (L' := [.ref am_SCR, .null, .null, .null]) (S' := [.ref 0, .ref 0]) (fun _ _ => rfl) ?_
    refine am_Ex.init (b := 0) rfl rfl rfl rfl rfl rfl rfl hx1 rfl ?_
    refine am_Ex.step (pc' := 8) (L' := [.ref am_SCR, .ref 0, .null, .null]) (S' := []) (fun _ _ => rfl) ?_
    refine am_Ex.new (n := 108) (sh1 := am_s3) rfl rfl (by decide +kernel) (by decide +kernel) rfl ?_
    refine am_Ex.step (pc' := 12) (L' := [.ref am_SCR, .ref 0, .null, .null]) (S' := [.ref 108, .ref 108]) (fun _ _ => rfl) ?_
    refine am_Ex.init (b := 108) rfl rfl rfl rfl rfl rfl (by decide +kernel) hx2 (by decide +kernel) ?_
    refine am_Ex.seg 3 18 [.ref am_SCR, .ref 0, .ref 108, .int 0] [] am_m2 (fun _ => rfl) ?_
    exact e_fL_law_18 (d := 64) am_F hμ
  obtain ⟨n, hn⟩ := he
  exact ⟨n, 101, am_SH, μ', by decide, hn, by decide +kernel, by decide +kernel⟩
