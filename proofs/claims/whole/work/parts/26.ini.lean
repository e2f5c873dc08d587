/-! THE CONSTRUCTORS, RUN; the claim out of the functions -/
/-- what the memory holds behind the constructors -/
def am_Init (μ : am_Mu) : Prop := (∀ j, j < 12 → μ 0 j = 0) ∧ (∀ j, j < 4 → μ 1 j = 0) ∧ (∀ j, j < 7 → μ 5 j = 0) ∧ (∀ j, j < 8 → μ 7 j = 0) ∧ (∀ j, j < 17 → μ 13 j = 0) ∧ (∀ j, j < 8 → μ 27 j = 0) ∧ (∀ j, j < 8 → μ 28 j = 0) ∧ (∀ j, j < 8 → μ 34 j = 0) ∧ (∀ j, j < 8 → μ 40 j = 0) ∧ (∀ j, j < 8 → μ 46 j = 0) ∧ (∀ j, j < 3 → μ 52 j = 0) ∧ (∀ j, j < 6 → μ 57 j = 0) ∧ (∀ j, j < 3 → μ 58 j = 0) ∧ (∀ j, j < 3 → μ 62 j = 0) ∧ (∀ j, j < 3 → μ 68 j = 0) ∧ (∀ j, j < 3 → μ 72 j = 0) ∧ (∀ j, j < 9 → μ 76 j = 0) ∧ (∀ j, j < 15 → μ 84 j = 0) ∧ (∀ j, j < 5 → μ 97 j = 0) ∧ (∀ j, j < 10 → μ 102 j = (if j = 8 then 1 else if j = 9 then 7 else 0)) ∧ (∀ j, j < 92 → μ 108 j = (if j = 12 then 1 else if j = 13 then 7 else 0)) ∧ (∀ j, j < 16 → μ 81 j = 0) ∧ (∀ j, j < 16 → μ 156 j = 0) ∧ (∀ j, j < 80 → μ 88 j = 0) ∧ (∀ j, j < 160 → μ 100 j = 0) ∧ (∀ j, j < 160 → μ 101 j = 0) ∧ (∀ j, j < 960 → μ 175 j = 0) ∧ (∀ j, j < 8 → μ 106 j = 0) ∧ (∀ j, j < 8 → μ 105 j = (-1)) ∧ (∀ j, j < 4 → μ 114 j = 0)
def am_InitB (μ : am_Mu) : Bool := (List.range 12).all (fun j => decide (μ 0 j = 0)) && (List.range 4).all (fun j => decide (μ 1 j = 0)) && (List.range 7).all (fun j => decide (μ 5 j = 0)) && (List.range 8).all (fun j => decide (μ 7 j = 0)) && (List.range 17).all (fun j => decide (μ 13 j = 0)) && (List.range 8).all (fun j => decide (μ 27 j = 0)) && (List.range 8).all (fun j => decide (μ 28 j = 0)) && (List.range 8).all (fun j => decide (μ 34 j = 0)) && (List.range 8).all (fun j => decide (μ 40 j = 0)) && (List.range 8).all (fun j => decide (μ 46 j = 0)) && (List.range 3).all (fun j => decide (μ 52 j = 0)) && (List.range 6).all (fun j => decide (μ 57 j = 0)) && (List.range 3).all (fun j => decide (μ 58 j = 0)) && (List.range 3).all (fun j => decide (μ 62 j = 0)) && (List.range 3).all (fun j => decide (μ 68 j = 0)) && (List.range 3).all (fun j => decide (μ 72 j = 0)) && (List.range 9).all (fun j => decide (μ 76 j = 0)) && (List.range 15).all (fun j => decide (μ 84 j = 0)) && (List.range 5).all (fun j => decide (μ 97 j = 0)) && (List.range 10).all (fun j => decide (μ 102 j = (if j = 8 then 1 else if j = 9 then 7 else 0))) && (List.range 92).all (fun j => decide (μ 108 j = (if j = 12 then 1 else if j = 13 then 7 else 0))) && (List.range 16).all (fun j => decide (μ 81 j = 0)) && (List.range 16).all (fun j => decide (μ 156 j = 0)) && (List.range 80).all (fun j => decide (μ 88 j = 0)) && (List.range 160).all (fun j => decide (μ 100 j = 0)) && (List.range 160).all (fun j => decide (μ 101 j = 0)) && (List.range 960).all (fun j => decide (μ 175 j = 0)) && (List.range 8).all (fun j => decide (μ 106 j = 0)) && (List.range 8).all (fun j => decide (μ 105 j = (-1))) && (List.range 4).all (fun j => decide (μ 114 j = 0))
theorem am_InitB_of {μ : am_Mu} (h : am_InitB μ = true) : am_Init μ := by
  simp only [am_InitB, Bool.and_eq_true, List.all_eq_true, List.mem_range, decide_eq_true_eq] at h
  simp only [am_Init]
  obtain ⟨⟨⟨⟨⟨⟨⟨⟨⟨⟨⟨⟨⟨⟨⟨⟨⟨⟨⟨⟨⟨⟨⟨⟨⟨⟨⟨⟨⟨h0, h1⟩, h2⟩, h3⟩, h4⟩, h5⟩, h6⟩, h7⟩, h8⟩, h9⟩, h10⟩, h11⟩, h12⟩, h13⟩, h14⟩, h15⟩, h16⟩, h17⟩, h18⟩, h19⟩, h20⟩, h21⟩, h22⟩, h23⟩, h24⟩, h25⟩, h26⟩, h27⟩, h28⟩, h29⟩ := h
  exact ⟨h0, h1, h2, h3, h4, h5, h6, h7, h8, h9, h10, h11, h12, h13, h14, h15, h16, h17, h18, h19, h20, h21, h22, h23, h24, h25, h26, h27, h28, h29⟩
theorem am_map_some {x : Option am_Out} {r : Option Value} {sh : am_Sh} {z : am_Mu} (h : x.map (fun o => (o.1, o.2.1)) = some (r, sh)) : x = some (r, sh, (x.map (fun o => o.2.2)).getD z) := by
  cases x with
  | none => cases h
  | some o =>
    obtain ⟨a, b, c⟩ := o
    simp only [Option.map_some, Option.some.injEq, Prod.mk.injEq] at h
    obtain ⟨rfl, rfl⟩ := h
    rfl
def am_s1 : am_Sh := [(14, 12, am_fresh.getD 11 [])]
def am_x1 : Option am_Out := am_exec 5000 none 100 98 0 (.ref 0 :: List.replicate 0 .null) [] am_s1 (am_push (fun _ _ => 0) 0)
def am_m1 : am_Mu := (am_x1.map (fun o => o.2.2)).getD (fun _ _ => 0)
def am_s3 : am_Sh := am_SH.take 108 ++ [(15, 92, am_fresh.getD 12 [])]
def am_x2 : Option am_Out := am_exec 5000 none 100 145 0 (.ref 108 :: List.replicate 0 .null) [] am_s3 (am_push am_m1 108)
def am_m2 : am_Mu := (am_x2.map (fun o => o.2.2)).getD (fun _ _ => 0)
set_option maxRecDepth 1000000 in
theorem am_x1_ok : am_x1.map (fun o => (o.1, o.2.1)) = some (none, am_SH.take 108) := by decide +kernel
set_option maxRecDepth 1000000 in
theorem am_x2_ok : am_x2.map (fun o => (o.1, o.2.1)) = some (none, am_SH) := by decide +kernel
set_option maxRecDepth 1000000 in
theorem am_m2_ok : am_InitB am_m2 = true := by decide +kernel
section
variable {scr : am_Scr} {d m pc : Nat} {L S : List Value} {sh : am_Sh} {μ : am_Mu} {out : am_Out} {i : Instr} {j : Nat}
theorem am_Ex.new {v : Nat} {fs : List Nat} {sh1 : am_Sh} {n : Nat} (hf : am_fet m pc = some (.new v, j)) (hfs : am_fresh[j]? = some fs) (hg : am_fre sh L S = true) (hn : sh.length = n) (h1 : sh ++ [(j + 3, fs.length, fs)] = sh1) (k : am_Ex scr d m (pc + 3) L (.ref n :: S) sh1 (am_push μ n) out) : am_Ex scr d m pc L S sh μ out := by
  subst hn; subst h1
  obtain ⟨q, hq⟩ := k
  refine ⟨q + 1, ?_⟩
  show am_step scr (am_exec q none) (am_exec q scr) d m pc L S sh μ = some out
  unfold am_step
  rw [hf]
  show am_op _ _ _ _ _ _ _ _ _ _ _ _ = _
  simp only [am_op, hfs, hg, cond_true]
  exact hq
theorem am_Ex.init {v b n1 : Nat} {rest L0 : List Value} {sh1 : am_Sh} {μ1 : am_Mu} (hf : am_fet m pc = some (.invokespecial v, j)) (hj : Nat.ble j 999 = true) (hna : (bif am_st j then am_na j else am_na j + 1) = 1) (hS : S = .ref b :: rest) (hck : (Nat.ble 1 S.length && [Value.ref b].all am_ir && rest.all am_ir && Nat.ble rest.length 8 && Nat.ble 1 (am_nl j)) = true) (hL : [Value.ref b] ++ List.replicate (am_nl j - 1) Value.null = L0)
    (hrc : (bif am_st j then some 0 else (match sh[b]? with
        | some e => bif Nat.beq e.1 (am_ow j + 3) then some 0 else none
        | none => none)) = some 0) (hc : am_exec n1 none d j 0 L0 [] sh μ = some (none, sh1, μ1)) (hg : am_fre sh L rest = true) (k : am_Ex scr (d + 1) m (pc + 3) L rest sh1 μ1 out) : am_Ex scr (d + 1) m pc L S sh μ out := by
  subst hS
  obtain ⟨n2, h2⟩ := k
  refine ⟨n1 + n2 + 1, ?_⟩
  show am_step scr (am_exec (n1 + n2) none) (am_exec (n1 + n2) scr) (d + 1) m pc L (.ref b :: rest) sh μ = some out
  unfold am_step
  rw [hf]
  show am_op _ _ _ _ _ _ _ _ _ _ _ _ = _
  rw [show am_op scr (am_exec (n1 + n2) none) (am_exec (n1 + n2) scr) (d + 1) m pc (.invokespecial v) j L (.ref b :: rest) sh μ = am_spec (am_exec (n1 + n2) none) (am_exec (n1 + n2) scr) (d + 1) m pc j L (.ref b :: rest) sh μ from rfl]
  have hsp : am_spec (am_exec (n1 + n2) none) (am_exec (n1 + n2) scr) (d + 1) m pc j L (.ref b :: rest) sh μ = am_call (am_exec (n1 + n2) none) (am_exec (n1 + n2) scr) (d + 1) m pc j L (.ref b :: rest) sh μ := by
    have h := Nat.le_of_ble_eq_true hj
    unfold am_spec
    split <;> first | rfl | omega
  rw [hsp]
  have h1 := am_exec_le (Nat.le_add_right n1 n2) hc
  have h2 := am_exec_le (Nat.le_add_left n2 n1) h2
  unfold am_call
  dsimp only
  rw [hna]
  have e1 : ((Value.ref b :: rest).take 1).reverse = [.ref b] := rfl
  have e2 : (Value.ref b :: rest).drop 1 = rest := rfl
  rw [e1, e2, hck, cond_true]
  generalize hX : (bif am_st j then (some 0 : Option Nat) else _) = X
  have hX2 : X = some 0 := hX.symm.trans hrc
  subst hX2
  dsimp only
  rw [hL, h1]
  dsimp only
  rw [hg, Bool.or_true, cond_true]
  exact h2
end
set_option maxRecDepth 1000000 in
theorem am_fin {sL : Nat} {sX : Nat → Int32} (h : ∀ μ, am_Init μ → ∃ μ', fL_law_18 sL sX am_F 0 μ = some (1, μ')) : am_Run sL sX := by
  obtain ⟨μ', hμ⟩ := h am_m2 (am_InitB_of am_m2_ok)
  have hx1 : am_exec 5000 none 100 98 0 (.ref 0 :: List.replicate 0 .null) [] am_s1 (am_push (fun _ _ => 0) 0) = some (none, am_SH.take 108, am_m1) := am_map_some (z := fun _ _ => 0) am_x1_ok
  have hx2 : am_exec 5000 none 100 145 0 (.ref 108 :: List.replicate 0 .null) [] am_s3 (am_push am_m1 108) = some (none, am_SH, am_m2) := am_map_some (z := fun _ _ => 0) am_x2_ok
  have he : am_Ex (some (sL, sX)) (100 + 1) am_law 0 [.ref am_SCR, .null, .null, .null] [] [] (fun _ _ => 0) (some (.int 1), am_SH, μ') := by
    refine am_Ex.new (n := 0) (sh1 := am_s1) rfl rfl rfl rfl rfl ?_
    refine am_Ex.step (pc' := 4) (L' := [.ref am_SCR, .null, .null, .null]) (S' := [.ref 0, .ref 0]) (fun _ _ => rfl) ?_
    refine am_Ex.init (b := 0) rfl rfl rfl rfl rfl rfl rfl hx1 rfl ?_
    refine am_Ex.step (pc' := 8) (L' := [.ref am_SCR, .ref 0, .null, .null]) (S' := []) (fun _ _ => rfl) ?_
    refine am_Ex.new (n := 108) (sh1 := am_s3) rfl rfl (by decide +kernel) (by decide +kernel) rfl ?_
    refine am_Ex.step (pc' := 12) (L' := [.ref am_SCR, .ref 0, .null, .null]) (S' := [.ref 108, .ref 108]) (fun _ _ => rfl) ?_
    refine am_Ex.init (b := 108) rfl rfl rfl rfl rfl rfl (by decide +kernel) hx2 (by decide +kernel) ?_
    refine am_Ex.seg 3 18 [.ref am_SCR, .ref 0, .ref 108, .int 0] [] am_m2 (fun _ => rfl) ?_
    exact e_fL_law_18 (d := 64) am_F hμ
  obtain ⟨n, hn⟩ := he
  exact ⟨n, 101, am_SH, μ', by decide, hn, by decide +kernel, by decide +kernel⟩
