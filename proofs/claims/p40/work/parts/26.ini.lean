/-! THE LAW'S BEGINNING, RUN; the claim out of the functions -/
theorem am_map_some {x : Option am_Out} {r : Option Value} {sh : am_Sh} {z : am_Mu} (h : x.map (fun o => (o.1, o.2.1)) = some (r, sh)) : x = some (r, sh, (x.map (fun o => o.2.2)).getD z) := by
  cases x with
  | none => cases h
  | some o =>
    obtain ⟨a, b, c⟩ := o
    simp only [Option.map_some, Option.some.injEq, Prod.mk.injEq] at h
    obtain ⟨rfl, rfl⟩ := h
    rfl
def am_s1 : am_Sh := [(14, 12, am_fresh.getD 11 [])]
def am_x1 : Option am_Out := am_exec 5000 none 100 73 0 (.ref 0 :: List.replicate 0 .null) [] am_s1 (am_push (fun _ _ => 0) 0)
def am_m1 : am_Mu := (am_x1.map (fun o => o.2.2)).getD (fun _ _ => 0)
def am_x3 : Option am_Out := am_exec 20000 (some none) 100 93 0 [.ref 0, .int 0, .int 0, .ref am_STR, .null, .null, .null] [] am_SB am_m1
def am_m3 : am_Mu := (am_x3.map (fun o => o.2.2)).getD (fun _ _ => 0)
def am_x4 : Option am_Out := am_exec 200 (some none) 100 77 0 [.ref 0, .int 0, .int 0] [] (am_SX (am_TL.take 2)) am_m3
def am_m4 : am_Mu := (am_x4.map (fun o => o.2.2)).getD (fun _ _ => 0)
def am_x5 : Option am_Out := am_exec 200 (some none) 100 74 0 [.ref 0, .int 9000] [] (am_SX (am_TL.take 2)) am_m4
def am_m5 : am_Mu := (am_x5.map (fun o => o.2.2)).getD (fun _ _ => 0)
set_option maxRecDepth 1000000 in
theorem am_x1_ok : am_x1.map (fun o => (o.1, o.2.1)) = some (none, am_SB) := by decide +kernel
set_option maxRecDepth 1000000 in
theorem am_x3_ok : am_x3.map (fun o => (o.1, o.2.1)) = some (some (.int 0), am_SX (am_TL.take 2)) := by decide +kernel
set_option maxRecDepth 1000000 in
theorem am_x4_ok : am_x4.map (fun o => (o.1, o.2.1)) = some (some (.int 3), am_SX (am_TL.take 2)) := by decide +kernel
set_option maxRecDepth 1000000 in
theorem am_x5_ok : am_x5.map (fun o => (o.1, o.2.1)) = some (some (.int 1), am_SX (am_TL.take 2)) := by decide +kernel
section
variable {scr : am_Scr} {d m pc : Nat} {L S : List Value} {sh : am_Sh} {μ : am_Mu} {out : am_Out} {i : Instr} {j : Nat}
theorem am_Ex.new {v : Nat} {fs : List Nat} {sh1 : am_Sh} {n : Nat} (hf : am_fet m pc = some (.new v, j)) (hfs : am_fresh[j]? = some fs) (hg : am_fre sh L S = true) (hn : sh.length = n) (h1 : sh ++ [(j + 3, fs.length, fs)] = sh1) (k : am_Ex scr d m (pc + 3) L (.ref n :: S) sh1 (am_push μ n) out) : am_Ex scr d m pc L S sh μ out := by
  subst hn; subst h1
  obtain ⟨q, hq⟩ := k
  refine ⟨q + 1, ?_⟩
  show am_step scr (am_exec q (am_sub scr)) (am_exec q scr) d m pc L S sh μ = some out
  unfold am_step
  rw [hf]
  show am_op _ _ _ _ _ _ _ _ _ _ _ _ = _
  simp only [am_op, hfs, hg, cond_true]
  exact hq
/-- a call that may make cells, run by its number of steps -/
theorem am_Ex.cala {na n1 : Nat} {As rest L0 : List Value} {r : Option Value} {sh1 : am_Sh} {μ1 : am_Mu} (hop : ∀ K0 K : am_K, am_op scr K0 K (d + 1) m pc i j L S sh μ = am_call K0 K (d + 1) m pc j L S sh μ) (hf : am_fet m pc = some (i, j)) (hna : (bif am_st j then am_na j else am_na j + 1) = na) (hA : (S.take na).reverse = As) (hR : S.drop na = rest) (hck : (Nat.ble na S.length && As.all am_ir && rest.all am_ir && Nat.ble rest.length 8 && Nat.ble na (am_nl j)) = true) (hL : As ++ List.replicate (am_nl j - na) Value.null = L0)
    (hrc : (bif am_st j then some 0 else match As with
      | .ref b :: _ => (match sh[b]? with
        | some e => bif Nat.beq e.1 (am_ow j + 3) then some 0 else none
        | none => none)
      | _ => none) = some 0) (hc : am_exec n1 (am_sub scr) d j 0 L0 [] sh μ = some (r, sh1, μ1)) (hg : am_fre sh L rest = true) (k : am_Ex scr (d + 1) m (pc + 3) L (r.toList ++ rest) sh1 μ1 out) : am_Ex scr (d + 1) m pc L S sh μ out := by
  obtain ⟨n2, h2⟩ := k
  refine ⟨n1 + n2 + 1, ?_⟩
  show am_step scr (am_exec (n1 + n2) (am_sub scr)) (am_exec (n1 + n2) scr) (d + 1) m pc L S sh μ = some out
  unfold am_step
  rw [hf]
  show am_op _ _ _ _ _ _ _ _ _ _ _ _ = _
  rw [hop]
  have h1 := am_exec_le (Nat.le_add_right n1 n2) hc
  have h2 := am_exec_le (Nat.le_add_left n2 n1) h2
  unfold am_call
  dsimp only
  rw [hna, hA, hR, hck, cond_true]
  generalize hX : (bif am_st j then (some 0 : Option Nat) else _) = X
  have hX2 : X = some 0 := hX.symm.trans hrc
  subst hX2
  dsimp only
  rw [hL, h1]
  dsimp only
  rw [hg, Bool.or_true, cond_true]
  exact h2
end
def am_n (sL : Nat) (sX : Nat → Int32) : Int32 := 2 + (((if (Int32.ofNat sL) ≤ 0 then 0 else sX 0) &&& 65535) - (((if (Int32.ofNat sL) ≤ 0 then 0 else sX 0) &&& 65535) / 5) * 5)
set_option maxRecDepth 1000000 in
theorem am_pre {sL : Nat} {sX : Nat → Int32} {cv nv : Int32} {m1 m3 m4 m5 μ' : am_Mu}
    (hx1 : am_exec 5000 (some none) 100 73 0 (.ref 0 :: List.replicate 0 .null) [] am_s1 (am_push (fun _ _ => 0) 0) = some (none, am_SB, m1))
    (hx3 : am_exec 20000 (some none) 100 93 0 [.ref 0, .int 0, .int 0, .ref am_STR, .null, .null, .null] [] am_SB m1 = some (some (.int 0), am_SX (am_TL.take 2), m3))
    (hx4 : am_exec 200 (some none) 100 77 0 [.ref 0, .int 0, .int 0] [] (am_SX (am_TL.take 2)) m3 = some (some (.int 3), am_SX (am_TL.take 2), m4))
    (hx5 : am_exec 200 (some none) 100 74 0 [.ref 0, .int 9000] [] (am_SX (am_TL.take 2)) m4 = some (some (.int 1), am_SX (am_TL.take 2), m5))
    (hcell : fL_cell sL sX 0 m1 = some (cv, m1)) (hpick : fL_pick cv 5 m1 = some ((cv &&& 65535) - ((cv &&& 65535) / 5) * 5, m1)) (hn : nv = 2 + ((cv &&& 65535) - ((cv &&& 65535) / 5) * 5)) (hμ : fL_law_60 sL sX am_F nv 1 0 m5 = some (1, μ')) : am_Ex (some (some (sL, sX))) (100 + 1) am_law 0 (.ref am_SCR :: List.replicate 21 .null) [] [] (fun _ _ => 0) (some (.int 1), am_SX (am_TL.take 12), μ') := by
    refine am_Ex.new (n := 0) (sh1 := am_s1) rfl rfl rfl rfl rfl ?_
    refine am_Ex.step (pc' := 4) (L' := .ref am_SCR :: List.replicate 21 .null) (S' := [.ref 0, .ref 0]) (fun _ _ => rfl) ?_
    refine am_Ex.cala (na := 1) (As := [.ref 0]) (rest := [.ref 0]) (fun _ _ => rfl) rfl rfl rfl rfl rfl rfl rfl hx1 rfl ?_
    refine am_Ex.seg 4 11 (.ref am_SCR :: .ref 0 :: List.replicate 20 .null) [.int 0, .ref am_SCR, .int 2] m1 (fun _ => rfl) ?_
    refine am_Ex.iskc (na := 2) rfl (As := [.ref am_SCR, .int 0]) (rest := [.int 2]) rfl rfl rfl rfl rfl rfl (e_fL_cell (d := 100) hcell) ?_
    refine am_Ex.same 14 (.ref am_SCR :: .ref 0 :: List.replicate 20 .null) [.int cv, .int 2] m1 rfl ?_
    refine am_Ex.seg 1 15 (.ref am_SCR :: .ref 0 :: List.replicate 20 .null) [.int 5, .int cv, .int 2] m1 (fun _ => rfl) ?_
    refine am_Ex.isk (na := 2) rfl (As := [.int cv, .int 5]) (rest := [.int 2]) rfl rfl rfl rfl rfl rfl (e_fL_pick (d := 100) hpick) ?_
    refine am_Ex.same 18 (.ref am_SCR :: .ref 0 :: List.replicate 20 .null) [.int ((cv &&& 65535) - ((cv &&& 65535) / 5) * 5), .int 2] m1 rfl ?_
    refine am_Ex.seg 6 25 (.ref am_SCR :: .ref 0 :: .int nv :: List.replicate 19 .null) [.ref am_STR, .int 0, .int 0, .ref 0] m1 (fun _ => by rw [hn]; rfl) ?_
    refine am_Ex.cala (na := 4) (As := [.ref 0, .int 0, .int 0, .ref am_STR]) (rest := []) (fun _ _ => rfl) rfl rfl rfl rfl rfl rfl rfl hx3 rfl ?_
    refine am_Ex.if_ne_f rfl rfl ?_
    refine am_Ex.seg 3 34 (.ref am_SCR :: .ref 0 :: .int nv :: List.replicate 19 .null) [.int 0, .int 0, .ref 0] m3 (fun _ => rfl) ?_
    refine am_Ex.cala (na := 3) (As := [.ref 0, .int 0, .int 0]) (rest := []) (fun _ _ => rfl) rfl rfl rfl rfl rfl rfl rfl hx4 rfl ?_
    refine am_Ex.seg 1 38 (.ref am_SCR :: .ref 0 :: .int nv :: List.replicate 19 .null) [.int 3, .int 3] m4 (fun _ => rfl) ?_
    refine am_Ex.icmp_ne_f rfl rfl ?_
    refine am_Ex.seg 2 45 (.ref am_SCR :: .ref 0 :: .int nv :: List.replicate 19 .null) [.int 9000, .ref 0] m4 (fun _ => rfl) ?_
    refine am_Ex.cala (na := 2) (As := [.ref 0, .int 9000]) (rest := []) (fun _ _ => rfl) rfl rfl rfl rfl rfl rfl rfl hx5 rfl ?_
    refine am_Ex.if_eq_f rfl (by decide) ?_
    refine am_Ex.seg 5 60 (.ref am_SCR :: .ref 0 :: .int nv :: .int 1 :: .int 0 :: List.replicate 17 .null) [] m5 (fun _ => rfl) ?_
    exact e_fL_law_60 (d := 94) am_F hμ
set_option maxRecDepth 1000000 in
theorem am_fin {sL : Nat} {sX : Nat → Int32} (hL : sL ≤ 260) (h : ∃ μ', fL_law_60 sL sX am_F (am_n sL sX) 1 0 am_m5 = some (1, μ')) : am_Run sL sX := by
  obtain ⟨μ', hμ⟩ := h
  have hx1 : am_exec 5000 (some none) 100 73 0 (.ref 0 :: List.replicate 0 .null) [] am_s1 (am_push (fun _ _ => 0) 0) = some (none, am_SB, am_m1) := am_exec_scr _ _ _ _ _ _ _ _ _ _ (am_map_some (z := fun _ _ => 0) am_x1_ok)
  have hx3 : am_exec 20000 (some none) 100 93 0 [.ref 0, .int 0, .int 0, .ref am_STR, .null, .null, .null] [] am_SB am_m1 = some (some (.int 0), am_SX (am_TL.take 2), am_m3) := am_map_some (z := fun _ _ => 0) am_x3_ok
  have hx4 : am_exec 200 (some none) 100 77 0 [.ref 0, .int 0, .int 0] [] (am_SX (am_TL.take 2)) am_m3 = some (some (.int 3), am_SX (am_TL.take 2), am_m4) := am_map_some (z := fun _ _ => 0) am_x4_ok
  have hx5 : am_exec 200 (some none) 100 74 0 [.ref 0, .int 9000] [] (am_SX (am_TL.take 2)) am_m4 = some (some (.int 1), am_SX (am_TL.take 2), am_m5) := am_map_some (z := fun _ _ => 0) am_x5_ok
  have hcell : fL_cell sL sX 0 am_m1 = some ((if (Int32.ofNat sL) ≤ 0 then 0 else sX 0), am_m1) := by
    unfold fL_cell
    by_cases h0 : Int32.ofNat sL ≤ 0
    · rw [if_pos h0, if_pos h0]
    · have hs : ¬ sL = 0 := fun e => h0 (by subst e; decide)
      have : am_inb 0 sL = true := by
        cases sL with
        | zero => exact absurd rfl hs
        | succ n => rfl
      rw [if_neg h0, if_neg h0, this, cond_true]
      rfl
  generalize hcv : (if (Int32.ofNat sL) ≤ 0 then (0 : Int32) else sX 0) = cv at hcell
  have hn : am_n sL sX = 2 + ((cv &&& 65535) - ((cv &&& 65535) / 5) * 5) := by
    unfold am_n
    rw [hcv]
  generalize hnv : am_n sL sX = nv at hμ hn
  have hpick : fL_pick cv 5 am_m1 = some ((cv &&& 65535) - ((cv &&& 65535) / 5) * 5, am_m1) := rfl
  have he := am_pre hx1 hx3 hx4 hx5 hcell hpick hn hμ
  obtain ⟨n, hn⟩ := he
  exact ⟨n, 101, am_SX (am_TL.take 12), μ', by decide, hn, by decide +kernel, by decide +kernel⟩
