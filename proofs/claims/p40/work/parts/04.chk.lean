theorem am_gd_some {n pc : Nat} {x : Option (Instr × Nat)} {y : Instr × Nat} (h : am_gd n pc x = some y) : pc < n := by
  rcases Nat.lt_or_ge pc n with q | q
  · exact q
  · rw [am_gd, Nat.ble_eq_true_of_le q] at h; cases h
def am_ln (i : Instr) (n : Nat) : Bool := match i with
  | .iconst _ | .iload_n _ | .aload_n _ | .istore_n _ | .astore_n _ | .iadd | .isub | .imul | .iand | .ior | .ixor | .ishl | .ishr | .iushr | .idiv | .irem | .ineg | .i2b | .i2l | .l2i | .ladd | .lmul | .lrem | .dup | .pop | .dup2 | .iaload | .baload | .iastore | .bastore | .arraylength | .ireturn | .areturn | .return_ => Nat.beq n 1
  | .bipush _ | .ldc _ | .iload _ | .aload _ | .istore _ | .astore _ | .newarray _ => Nat.beq n 2
  | .sipush _ | .ldc_w _ | .ldc2_w _ | .iinc _ _ | .goto _ | .ifCond _ _ | .if_icmp _ _ | .getfield _ | .putfield _ | .new _ | .invokevirtual _ | .invokestatic _ | .invokespecial _ => Nat.beq n 3
  | .tableswitch _ _ _ _ | .lookupswitch _ _ => true
  | _ => false
def am_any (l : List (Nat × Nat × Nat × Nat)) (o k j : Nat) : Bool := l.any (fun t => Nat.beq t.2.1 k && (Nat.beq t.1 o && Nat.beq t.2.2.1 j))
def am_putOK (m j : Nat) : Bool := match am_cl[j / 100]? with
  | some c => !(c.2.1 (j % 100)).2.2.2 || ((am_yq m).name == "<init>" && (c.2.1 (j % 100)).1 == am_RC (am_ow m))
  | none => false
def am_aux (m pc : Nat) (i : Instr) (j : Nat) : Bool := match i with
  | .goto off => decide ((pc : Int) + off = (j : Int))
  | .ifCond _ off => decide ((pc : Int) + off = (j : Int))
  | .if_icmp _ off => decide ((pc : Int) + off = (j : Int))
  | .getfield k => am_any am_lF (am_ow m) k j || am_any am_lN (am_ow m) k j
  | .putfield k => am_any am_lF (am_ow m) k j && am_putOK m j
  | .invokevirtual k => (am_any am_lM (am_ow m) k j || am_any am_lMN (am_ow m) k j) && ((Nat.blt j am_law && (!am_st j && !((am_yq j).name == "<init>"))) || ((Nat.beq j 1005 || Nat.beq j 1006) && am_RC (am_ow m) == "SealBookLaw"))
  | .invokestatic k => (am_any am_lM (am_ow m) k j || am_any am_lMN (am_ow m) k j) && ((Nat.blt j am_law && am_st j) || (Nat.ble 1001 j && Nat.ble j 1004))
  | .invokespecial k => (am_any am_lM (am_ow m) k j || am_any am_lMN (am_ow m) k j) && ((Nat.blt j am_law && (!am_st j && (am_yq j).name == "<init>")) || Nat.beq j 1000)
  | .ldc k => bif Nat.beq j am_STR then (Nat.beq k 39 && am_RC (am_ow m) == "SealBookLaw") else am_any am_lK (am_ow m) k j
  | .ldc_w k => am_any am_lK (am_ow m) k j
  | .ldc2_w k => am_any am_lKL (am_ow m) k j
  | .new k => am_any am_lC (am_ow m) k j
  | .tableswitch dflt _ _ offs => decide (0 ≤ (pc : Int) + dflt) && offs.toList.all (fun off => decide (0 ≤ (pc : Int) + off))
  | .lookupswitch dflt ps => decide (0 ≤ (pc : Int) + dflt) && ps.toList.all (fun q => decide (0 ≤ (pc : Int) + q.2))
  | _ => true
def am_okR (m pc : Nat) (i : Instr) (j : Nat) : Bool := match decode (am_cod m) pc with
  | .ok (i', n) => decide (i' = i) && (am_ln i n && am_aux m pc i j)
  | .error _ => false
def am_okA (m pc : Nat) : Bool := match am_fet m pc with
  | some (i, j) => am_okR m pc i j
  | none => true
def am_okP (m : Nat) : Prop := ∀ pc i j, am_fet m pc = some (i, j) → am_okR m pc i j = true
theorem am_okOf {m : Nat} (n : Nat) (h1 : ∀ pc i j, am_fet m pc = some (i, j) → pc < n) (h2 : (List.range n).all (am_okA m) = true) : am_okP m := by
  intro pc i j h
  have h3 := List.all_eq_true.mp h2 pc (List.mem_range.mpr (h1 pc i j h))
  simpa only [am_okA, h] using h3
theorem am_okOf2 {m : Nat} (n : Nat) (h1 : ∀ pc i j, am_fet m pc = some (i, j) → pc < n) (h2 : ∀ pc, pc < n → am_okA m pc = true) : am_okP m := by
  intro pc i j h
  have h3 := h2 pc (h1 pc i j h)
  simpa only [am_okA, h] using h3
theorem am_okRange {m a b : Nat} (h : (List.range (b - a)).all (fun k => am_okA m (a + k)) = true) (pc : Nat) (h1 : a ≤ pc) (h2 : pc < b) : am_okA m pc = true := by
  have h3 := List.all_eq_true.mp h (pc - a) (List.mem_range.mpr (by omega))
  rwa [show a + (pc - a) = pc by omega] at h3

theorem am_k0 : ∀ pc i j, am_fet 0 pc = some (i, j) → am_okR 0 pc i j = true := am_okOf 29 (fun pc i j h => am_gd_some (show am_f0 pc = some (i, j) from h)) (by decide +kernel)
theorem am_k1 : ∀ pc i j, am_fet 1 pc = some (i, j) → am_okR 1 pc i j = true := am_okOf 9 (fun pc i j h => am_gd_some (show am_f1 pc = some (i, j) from h)) (by decide +kernel)
theorem am_k2 : ∀ pc i j, am_fet 2 pc = some (i, j) → am_okR 2 pc i j = true := am_okOf 28 (fun pc i j h => am_gd_some (show am_f2 pc = some (i, j) from h)) (by decide +kernel)
theorem am_k3 : ∀ pc i j, am_fet 3 pc = some (i, j) → am_okR 3 pc i j = true := am_okOf 35 (fun pc i j h => am_gd_some (show am_f3 pc = some (i, j) from h)) (by decide +kernel)
theorem am_k4 : ∀ pc i j, am_fet 4 pc = some (i, j) → am_okR 4 pc i j = true := am_okOf 85 (fun pc i j h => am_gd_some (show am_f4 pc = some (i, j) from h)) (by decide +kernel)
theorem am_k5 : ∀ pc i j, am_fet 5 pc = some (i, j) → am_okR 5 pc i j = true := am_okOf 78 (fun pc i j h => am_gd_some (show am_f5 pc = some (i, j) from h)) (by decide +kernel)
theorem am_k6 : ∀ pc i j, am_fet 6 pc = some (i, j) → am_okR 6 pc i j = true := am_okOf 36 (fun pc i j h => am_gd_some (show am_f6 pc = some (i, j) from h)) (by decide +kernel)
theorem am_k7 : ∀ pc i j, am_fet 7 pc = some (i, j) → am_okR 7 pc i j = true := am_okOf 38 (fun pc i j h => am_gd_some (show am_f7 pc = some (i, j) from h)) (by decide +kernel)
theorem am_k8 : ∀ pc i j, am_fet 8 pc = some (i, j) → am_okR 8 pc i j = true := am_okOf 77 (fun pc i j h => am_gd_some (show am_f8 pc = some (i, j) from h)) (by decide +kernel)
theorem am_k9 : ∀ pc i j, am_fet 9 pc = some (i, j) → am_okR 9 pc i j = true := am_okOf 125 (fun pc i j h => am_gd_some (show am_f9 pc = some (i, j) from h)) (by decide +kernel)
theorem am_k10 : ∀ pc i j, am_fet 10 pc = some (i, j) → am_okR 10 pc i j = true := am_okOf 19 (fun pc i j h => am_gd_some (show am_f10 pc = some (i, j) from h)) (by decide +kernel)
theorem am_k11 : ∀ pc i j, am_fet 11 pc = some (i, j) → am_okR 11 pc i j = true := am_okOf 100 (fun pc i j h => am_gd_some (show am_f11 pc = some (i, j) from h)) (by decide +kernel)
theorem am_k12 : ∀ pc i j, am_fet 12 pc = some (i, j) → am_okR 12 pc i j = true := am_okOf 78 (fun pc i j h => am_gd_some (show am_f12 pc = some (i, j) from h)) (by decide +kernel)
theorem am_k13 : ∀ pc i j, am_fet 13 pc = some (i, j) → am_okR 13 pc i j = true := am_okOf 118 (fun pc i j h => am_gd_some (show am_f13 pc = some (i, j) from h)) (by decide +kernel)
theorem am_k14 : ∀ pc i j, am_fet 14 pc = some (i, j) → am_okR 14 pc i j = true := am_okOf 204 (fun pc i j h => am_gd_some (show am_f14 pc = some (i, j) from h)) (by decide +kernel)
theorem am_k15 : ∀ pc i j, am_fet 15 pc = some (i, j) → am_okR 15 pc i j = true := am_okOf 131 (fun pc i j h => am_gd_some (show am_f15 pc = some (i, j) from h)) (by decide +kernel)
theorem am_k16 : ∀ pc i j, am_fet 16 pc = some (i, j) → am_okR 16 pc i j = true := am_okOf 62 (fun pc i j h => am_gd_some (show am_f16 pc = some (i, j) from h)) (by decide +kernel)
theorem am_k17 : ∀ pc i j, am_fet 17 pc = some (i, j) → am_okR 17 pc i j = true := am_okOf 46 (fun pc i j h => am_gd_some (show am_f17 pc = some (i, j) from h)) (by decide +kernel)
theorem am_k18 : ∀ pc i j, am_fet 18 pc = some (i, j) → am_okR 18 pc i j = true := am_okOf 16 (fun pc i j h => am_gd_some (show am_f18 pc = some (i, j) from h)) (by decide +kernel)
theorem am_k19 : ∀ pc i j, am_fet 19 pc = some (i, j) → am_okR 19 pc i j = true := am_okOf 115 (fun pc i j h => am_gd_some (show am_f19 pc = some (i, j) from h)) (by decide +kernel)
theorem am_k20 : ∀ pc i j, am_fet 20 pc = some (i, j) → am_okR 20 pc i j = true := am_okOf 42 (fun pc i j h => am_gd_some (show am_f20 pc = some (i, j) from h)) (by decide +kernel)
theorem am_k21 : ∀ pc i j, am_fet 21 pc = some (i, j) → am_okR 21 pc i j = true := am_okOf 33 (fun pc i j h => am_gd_some (show am_f21 pc = some (i, j) from h)) (by decide +kernel)
theorem am_k22 : ∀ pc i j, am_fet 22 pc = some (i, j) → am_okR 22 pc i j = true := am_okOf 56 (fun pc i j h => am_gd_some (show am_f22 pc = some (i, j) from h)) (by decide +kernel)
theorem am_k23 : ∀ pc i j, am_fet 23 pc = some (i, j) → am_okR 23 pc i j = true := am_okOf 17 (fun pc i j h => am_gd_some (show am_f23 pc = some (i, j) from h)) (by decide +kernel)
theorem am_k24 : ∀ pc i j, am_fet 24 pc = some (i, j) → am_okR 24 pc i j = true := am_okOf 17 (fun pc i j h => am_gd_some (show am_f24 pc = some (i, j) from h)) (by decide +kernel)
theorem am_k25 : ∀ pc i j, am_fet 25 pc = some (i, j) → am_okR 25 pc i j = true := am_okOf 25 (fun pc i j h => am_gd_some (show am_f25 pc = some (i, j) from h)) (by decide +kernel)
theorem am_k26 : ∀ pc i j, am_fet 26 pc = some (i, j) → am_okR 26 pc i j = true := am_okOf 49 (fun pc i j h => am_gd_some (show am_f26 pc = some (i, j) from h)) (by decide +kernel)
theorem am_k27 : ∀ pc i j, am_fet 27 pc = some (i, j) → am_okR 27 pc i j = true := am_okOf 52 (fun pc i j h => am_gd_some (show am_f27 pc = some (i, j) from h)) (by decide +kernel)
theorem am_k28 : ∀ pc i j, am_fet 28 pc = some (i, j) → am_okR 28 pc i j = true := am_okOf 137 (fun pc i j h => am_gd_some (show am_f28 pc = some (i, j) from h)) (by decide +kernel)
theorem am_k29 : ∀ pc i j, am_fet 29 pc = some (i, j) → am_okR 29 pc i j = true := am_okOf 47 (fun pc i j h => am_gd_some (show am_f29 pc = some (i, j) from h)) (by decide +kernel)
theorem am_k30 : ∀ pc i j, am_fet 30 pc = some (i, j) → am_okR 30 pc i j = true := am_okOf 55 (fun pc i j h => am_gd_some (show am_f30 pc = some (i, j) from h)) (by decide +kernel)
theorem am_k31 : ∀ pc i j, am_fet 31 pc = some (i, j) → am_okR 31 pc i j = true := am_okOf 55 (fun pc i j h => am_gd_some (show am_f31 pc = some (i, j) from h)) (by decide +kernel)
theorem am_k32 : ∀ pc i j, am_fet 32 pc = some (i, j) → am_okR 32 pc i j = true := am_okOf 166 (fun pc i j h => am_gd_some (show am_f32 pc = some (i, j) from h)) (by decide +kernel)
theorem am_k33 : ∀ pc i j, am_fet 33 pc = some (i, j) → am_okR 33 pc i j = true := am_okOf 15 (fun pc i j h => am_gd_some (show am_f33 pc = some (i, j) from h)) (by decide +kernel)
theorem am_k34 : ∀ pc i j, am_fet 34 pc = some (i, j) → am_okR 34 pc i j = true := am_okOf 117 (fun pc i j h => am_gd_some (show am_f34 pc = some (i, j) from h)) (by decide +kernel)
theorem am_k35 : ∀ pc i j, am_fet 35 pc = some (i, j) → am_okR 35 pc i j = true := am_okOf 36 (fun pc i j h => am_gd_some (show am_f35 pc = some (i, j) from h)) (by decide +kernel)
theorem am_k36 : ∀ pc i j, am_fet 36 pc = some (i, j) → am_okR 36 pc i j = true := am_okOf 76 (fun pc i j h => am_gd_some (show am_f36 pc = some (i, j) from h)) (by decide +kernel)
theorem am_k37 : ∀ pc i j, am_fet 37 pc = some (i, j) → am_okR 37 pc i j = true := am_okOf 39 (fun pc i j h => am_gd_some (show am_f37 pc = some (i, j) from h)) (by decide +kernel)
theorem am_k38 : ∀ pc i j, am_fet 38 pc = some (i, j) → am_okR 38 pc i j = true := am_okOf 119 (fun pc i j h => am_gd_some (show am_f38 pc = some (i, j) from h)) (by decide +kernel)
theorem am_k39 : ∀ pc i j, am_fet 39 pc = some (i, j) → am_okR 39 pc i j = true := am_okOf 54 (fun pc i j h => am_gd_some (show am_f39 pc = some (i, j) from h)) (by decide +kernel)
theorem am_k40 : ∀ pc i j, am_fet 40 pc = some (i, j) → am_okR 40 pc i j = true := am_okOf 51 (fun pc i j h => am_gd_some (show am_f40 pc = some (i, j) from h)) (by decide +kernel)
theorem am_k41 : ∀ pc i j, am_fet 41 pc = some (i, j) → am_okR 41 pc i j = true := am_okOf 14 (fun pc i j h => am_gd_some (show am_f41 pc = some (i, j) from h)) (by decide +kernel)
theorem am_k42 : ∀ pc i j, am_fet 42 pc = some (i, j) → am_okR 42 pc i j = true := am_okOf 27 (fun pc i j h => am_gd_some (show am_f42 pc = some (i, j) from h)) (by decide +kernel)
theorem am_k43 : ∀ pc i j, am_fet 43 pc = some (i, j) → am_okR 43 pc i j = true := am_okOf 13 (fun pc i j h => am_gd_some (show am_f43 pc = some (i, j) from h)) (by decide +kernel)
theorem am_k44 : ∀ pc i j, am_fet 44 pc = some (i, j) → am_okR 44 pc i j = true := am_okOf 117 (fun pc i j h => am_gd_some (show am_f44 pc = some (i, j) from h)) (by decide +kernel)
theorem am_k45 : ∀ pc i j, am_fet 45 pc = some (i, j) → am_okR 45 pc i j = true := am_okOf 48 (fun pc i j h => am_gd_some (show am_f45 pc = some (i, j) from h)) (by decide +kernel)
theorem am_k46 : ∀ pc i j, am_fet 46 pc = some (i, j) → am_okR 46 pc i j = true := am_okOf 134 (fun pc i j h => am_gd_some (show am_f46 pc = some (i, j) from h)) (by decide +kernel)
theorem am_k47 : ∀ pc i j, am_fet 47 pc = some (i, j) → am_okR 47 pc i j = true := am_okOf 67 (fun pc i j h => am_gd_some (show am_f47 pc = some (i, j) from h)) (by decide +kernel)
theorem am_k48 : ∀ pc i j, am_fet 48 pc = some (i, j) → am_okR 48 pc i j = true := am_okOf 97 (fun pc i j h => am_gd_some (show am_f48 pc = some (i, j) from h)) (by decide +kernel)
theorem am_k49 : ∀ pc i j, am_fet 49 pc = some (i, j) → am_okR 49 pc i j = true := am_okOf 85 (fun pc i j h => am_gd_some (show am_f49 pc = some (i, j) from h)) (by decide +kernel)
theorem am_k50 : ∀ pc i j, am_fet 50 pc = some (i, j) → am_okR 50 pc i j = true := am_okOf 31 (fun pc i j h => am_gd_some (show am_f50 pc = some (i, j) from h)) (by decide +kernel)
theorem am_k51 : ∀ pc i j, am_fet 51 pc = some (i, j) → am_okR 51 pc i j = true := am_okOf 12 (fun pc i j h => am_gd_some (show am_f51 pc = some (i, j) from h)) (by decide +kernel)
theorem am_k52 : ∀ pc i j, am_fet 52 pc = some (i, j) → am_okR 52 pc i j = true := am_okOf 27 (fun pc i j h => am_gd_some (show am_f52 pc = some (i, j) from h)) (by decide +kernel)
theorem am_k53 : ∀ pc i j, am_fet 53 pc = some (i, j) → am_okR 53 pc i j = true := am_okOf 65 (fun pc i j h => am_gd_some (show am_f53 pc = some (i, j) from h)) (by decide +kernel)
theorem am_k54 : ∀ pc i j, am_fet 54 pc = some (i, j) → am_okR 54 pc i j = true := am_okOf 26 (fun pc i j h => am_gd_some (show am_f54 pc = some (i, j) from h)) (by decide +kernel)
theorem am_k55 : ∀ pc i j, am_fet 55 pc = some (i, j) → am_okR 55 pc i j = true := am_okOf 106 (fun pc i j h => am_gd_some (show am_f55 pc = some (i, j) from h)) (by decide +kernel)
theorem am_k56 : ∀ pc i j, am_fet 56 pc = some (i, j) → am_okR 56 pc i j = true := am_okOf 32 (fun pc i j h => am_gd_some (show am_f56 pc = some (i, j) from h)) (by decide +kernel)
theorem am_k57 : ∀ pc i j, am_fet 57 pc = some (i, j) → am_okR 57 pc i j = true := am_okOf 46 (fun pc i j h => am_gd_some (show am_f57 pc = some (i, j) from h)) (by decide +kernel)
theorem am_k58 : ∀ pc i j, am_fet 58 pc = some (i, j) → am_okR 58 pc i j = true := am_okOf 22 (fun pc i j h => am_gd_some (show am_f58 pc = some (i, j) from h)) (by decide +kernel)
theorem am_k59 : ∀ pc i j, am_fet 59 pc = some (i, j) → am_okR 59 pc i j = true := am_okOf 102 (fun pc i j h => am_gd_some (show am_f59 pc = some (i, j) from h)) (by decide +kernel)
theorem am_k60 : ∀ pc i j, am_fet 60 pc = some (i, j) → am_okR 60 pc i j = true := am_okOf 59 (fun pc i j h => am_gd_some (show am_f60 pc = some (i, j) from h)) (by decide +kernel)
theorem am_k61 : ∀ pc i j, am_fet 61 pc = some (i, j) → am_okR 61 pc i j = true := am_okOf 46 (fun pc i j h => am_gd_some (show am_f61 pc = some (i, j) from h)) (by decide +kernel)
theorem am_k62 : ∀ pc i j, am_fet 62 pc = some (i, j) → am_okR 62 pc i j = true := am_okOf 51 (fun pc i j h => am_gd_some (show am_f62 pc = some (i, j) from h)) (by decide +kernel)
theorem am_k63 : ∀ pc i j, am_fet 63 pc = some (i, j) → am_okR 63 pc i j = true := am_okOf 53 (fun pc i j h => am_gd_some (show am_f63 pc = some (i, j) from h)) (by decide +kernel)
theorem am_k64 : ∀ pc i j, am_fet 64 pc = some (i, j) → am_okR 64 pc i j = true := am_okOf 179 (fun pc i j h => am_gd_some (show am_f64 pc = some (i, j) from h)) (by decide +kernel)
theorem am_k65 : ∀ pc i j, am_fet 65 pc = some (i, j) → am_okR 65 pc i j = true := am_okOf 44 (fun pc i j h => am_gd_some (show am_f65 pc = some (i, j) from h)) (by decide +kernel)
theorem am_k66 : ∀ pc i j, am_fet 66 pc = some (i, j) → am_okR 66 pc i j = true := am_okOf 31 (fun pc i j h => am_gd_some (show am_f66 pc = some (i, j) from h)) (by decide +kernel)
theorem am_k67 : ∀ pc i j, am_fet 67 pc = some (i, j) → am_okR 67 pc i j = true := am_okOf 13 (fun pc i j h => am_gd_some (show am_f67 pc = some (i, j) from h)) (by decide +kernel)
theorem am_k68 : ∀ pc i j, am_fet 68 pc = some (i, j) → am_okR 68 pc i j = true := am_okOf 120 (fun pc i j h => am_gd_some (show am_f68 pc = some (i, j) from h)) (by decide +kernel)
theorem am_k69 : ∀ pc i j, am_fet 69 pc = some (i, j) → am_okR 69 pc i j = true := am_okOf 27 (fun pc i j h => am_gd_some (show am_f69 pc = some (i, j) from h)) (by decide +kernel)
theorem am_k70 : ∀ pc i j, am_fet 70 pc = some (i, j) → am_okR 70 pc i j = true := am_okOf 42 (fun pc i j h => am_gd_some (show am_f70 pc = some (i, j) from h)) (by decide +kernel)
theorem am_k71 : ∀ pc i j, am_fet 71 pc = some (i, j) → am_okR 71 pc i j = true := am_okOf 39 (fun pc i j h => am_gd_some (show am_f71 pc = some (i, j) from h)) (by decide +kernel)
theorem am_k72 : ∀ pc i j, am_fet 72 pc = some (i, j) → am_okR 72 pc i j = true := am_okOf 89 (fun pc i j h => am_gd_some (show am_f72 pc = some (i, j) from h)) (by decide +kernel)
theorem am_k73 : ∀ pc i j, am_fet 73 pc = some (i, j) → am_okR 73 pc i j = true := am_okOf 159 (fun pc i j h => am_gd_some (show am_f73 pc = some (i, j) from h)) (by decide +kernel)
theorem am_k74 : ∀ pc i j, am_fet 74 pc = some (i, j) → am_okR 74 pc i j = true := am_okOf 24 (fun pc i j h => am_gd_some (show am_f74 pc = some (i, j) from h)) (by decide +kernel)
theorem am_k75 : ∀ pc i j, am_fet 75 pc = some (i, j) → am_okR 75 pc i j = true := am_okOf 15 (fun pc i j h => am_gd_some (show am_f75 pc = some (i, j) from h)) (by decide +kernel)
theorem am_k76 : ∀ pc i j, am_fet 76 pc = some (i, j) → am_okR 76 pc i j = true := am_okOf 62 (fun pc i j h => am_gd_some (show am_f76 pc = some (i, j) from h)) (by decide +kernel)
theorem am_k77 : ∀ pc i j, am_fet 77 pc = some (i, j) → am_okR 77 pc i j = true := am_okOf 23 (fun pc i j h => am_gd_some (show am_f77 pc = some (i, j) from h)) (by decide +kernel)
theorem am_k78 : ∀ pc i j, am_fet 78 pc = some (i, j) → am_okR 78 pc i j = true := am_okOf 9 (fun pc i j h => am_gd_some (show am_f78 pc = some (i, j) from h)) (by decide +kernel)
theorem am_k79 : ∀ pc i j, am_fet 79 pc = some (i, j) → am_okR 79 pc i j = true := am_okOf 30 (fun pc i j h => am_gd_some (show am_f79 pc = some (i, j) from h)) (by decide +kernel)
theorem am_k80 : ∀ pc i j, am_fet 80 pc = some (i, j) → am_okR 80 pc i j = true := am_okOf 25 (fun pc i j h => am_gd_some (show am_f80 pc = some (i, j) from h)) (by decide +kernel)
theorem am_k81 : ∀ pc i j, am_fet 81 pc = some (i, j) → am_okR 81 pc i j = true := am_okOf 47 (fun pc i j h => am_gd_some (show am_f81 pc = some (i, j) from h)) (by decide +kernel)
theorem am_k82 : ∀ pc i j, am_fet 82 pc = some (i, j) → am_okR 82 pc i j = true := am_okOf 44 (fun pc i j h => am_gd_some (show am_f82 pc = some (i, j) from h)) (by decide +kernel)
theorem am_k83 : ∀ pc i j, am_fet 83 pc = some (i, j) → am_okR 83 pc i j = true := am_okOf 39 (fun pc i j h => am_gd_some (show am_f83 pc = some (i, j) from h)) (by decide +kernel)
theorem am_k84 : ∀ pc i j, am_fet 84 pc = some (i, j) → am_okR 84 pc i j = true := am_okOf 72 (fun pc i j h => am_gd_some (show am_f84 pc = some (i, j) from h)) (by decide +kernel)
theorem am_k85 : ∀ pc i j, am_fet 85 pc = some (i, j) → am_okR 85 pc i j = true := am_okOf 43 (fun pc i j h => am_gd_some (show am_f85 pc = some (i, j) from h)) (by decide +kernel)
theorem am_k86 : ∀ pc i j, am_fet 86 pc = some (i, j) → am_okR 86 pc i j = true := am_okOf 15 (fun pc i j h => am_gd_some (show am_f86 pc = some (i, j) from h)) (by decide +kernel)
theorem am_k87 : ∀ pc i j, am_fet 87 pc = some (i, j) → am_okR 87 pc i j = true := am_okOf 8 (fun pc i j h => am_gd_some (show am_f87 pc = some (i, j) from h)) (by decide +kernel)
theorem am_k88 : ∀ pc i j, am_fet 88 pc = some (i, j) → am_okR 88 pc i j = true := am_okOf 21 (fun pc i j h => am_gd_some (show am_f88 pc = some (i, j) from h)) (by decide +kernel)
theorem am_k89 : ∀ pc i j, am_fet 89 pc = some (i, j) → am_okR 89 pc i j = true := am_okOf 53 (fun pc i j h => am_gd_some (show am_f89 pc = some (i, j) from h)) (by decide +kernel)
theorem am_k90 : ∀ pc i j, am_fet 90 pc = some (i, j) → am_okR 90 pc i j = true := am_okOf 42 (fun pc i j h => am_gd_some (show am_f90 pc = some (i, j) from h)) (by decide +kernel)
theorem am_k91 : ∀ pc i j, am_fet 91 pc = some (i, j) → am_okR 91 pc i j = true := am_okOf 14 (fun pc i j h => am_gd_some (show am_f91 pc = some (i, j) from h)) (by decide +kernel)
theorem am_k92 : ∀ pc i j, am_fet 92 pc = some (i, j) → am_okR 92 pc i j = true := am_okOf 7 (fun pc i j h => am_gd_some (show am_f92 pc = some (i, j) from h)) (by decide +kernel)
theorem am_k93 : ∀ pc i j, am_fet 93 pc = some (i, j) → am_okR 93 pc i j = true := am_okOf 120 (fun pc i j h => am_gd_some (show am_f93 pc = some (i, j) from h)) (by decide +kernel)
theorem am_k94 : ∀ pc i j, am_fet 94 pc = some (i, j) → am_okR 94 pc i j = true := am_okOf 76 (fun pc i j h => am_gd_some (show am_f94 pc = some (i, j) from h)) (by decide +kernel)
theorem am_q95_0 : ∀ pc, 0 ≤ pc → pc < 50 → am_okA 95 pc = true := am_okRange (by decide +kernel)
theorem am_q95_1 : ∀ pc, 50 ≤ pc → pc < 100 → am_okA 95 pc = true := am_okRange (by decide +kernel)
theorem am_q95_2 : ∀ pc, 100 ≤ pc → pc < 150 → am_okA 95 pc = true := am_okRange (by decide +kernel)
theorem am_q95_3 : ∀ pc, 150 ≤ pc → pc < 200 → am_okA 95 pc = true := am_okRange (by decide +kernel)
theorem am_q95_4 : ∀ pc, 200 ≤ pc → pc < 250 → am_okA 95 pc = true := am_okRange (by decide +kernel)
theorem am_q95_5 : ∀ pc, 250 ≤ pc → pc < 300 → am_okA 95 pc = true := am_okRange (by decide +kernel)
theorem am_q95_6 : ∀ pc, 300 ≤ pc → pc < 350 → am_okA 95 pc = true := am_okRange (by decide +kernel)
theorem am_q95_7 : ∀ pc, 350 ≤ pc → pc < 400 → am_okA 95 pc = true := am_okRange (by decide +kernel)
theorem am_q95_8 : ∀ pc, 400 ≤ pc → pc < 450 → am_okA 95 pc = true := am_okRange (by decide +kernel)
theorem am_q95_9 : ∀ pc, 450 ≤ pc → pc < 500 → am_okA 95 pc = true := am_okRange (by decide +kernel)
theorem am_q95_10 : ∀ pc, 500 ≤ pc → pc < 550 → am_okA 95 pc = true := am_okRange (by decide +kernel)
theorem am_q95_11 : ∀ pc, 550 ≤ pc → pc < 600 → am_okA 95 pc = true := am_okRange (by decide +kernel)
theorem am_q95_12 : ∀ pc, 600 ≤ pc → pc < 650 → am_okA 95 pc = true := am_okRange (by decide +kernel)
theorem am_q95_13 : ∀ pc, 650 ≤ pc → pc < 700 → am_okA 95 pc = true := am_okRange (by decide +kernel)
theorem am_q95_14 : ∀ pc, 700 ≤ pc → pc < 750 → am_okA 95 pc = true := am_okRange (by decide +kernel)
theorem am_q95_15 : ∀ pc, 750 ≤ pc → pc < 800 → am_okA 95 pc = true := am_okRange (by decide +kernel)
theorem am_q95_16 : ∀ pc, 800 ≤ pc → pc < 850 → am_okA 95 pc = true := am_okRange (by decide +kernel)
theorem am_q95_17 : ∀ pc, 850 ≤ pc → pc < 900 → am_okA 95 pc = true := am_okRange (by decide +kernel)
theorem am_q95_18 : ∀ pc, 900 ≤ pc → pc < 950 → am_okA 95 pc = true := am_okRange (by decide +kernel)
theorem am_q95_19 : ∀ pc, 950 ≤ pc → pc < 1000 → am_okA 95 pc = true := am_okRange (by decide +kernel)
theorem am_q95_20 : ∀ pc, 1000 ≤ pc → pc < 1050 → am_okA 95 pc = true := am_okRange (by decide +kernel)
theorem am_q95_21 : ∀ pc, 1050 ≤ pc → pc < 1100 → am_okA 95 pc = true := am_okRange (by decide +kernel)
theorem am_q95_22 : ∀ pc, 1100 ≤ pc → pc < 1150 → am_okA 95 pc = true := am_okRange (by decide +kernel)
theorem am_q95_23 : ∀ pc, 1150 ≤ pc → pc < 1200 → am_okA 95 pc = true := am_okRange (by decide +kernel)
theorem am_q95_24 : ∀ pc, 1200 ≤ pc → pc < 1250 → am_okA 95 pc = true := am_okRange (by decide +kernel)
theorem am_q95_25 : ∀ pc, 1250 ≤ pc → pc < 1273 → am_okA 95 pc = true := am_okRange (by decide +kernel)
theorem am_q95 (pc : Nat) (h : pc < 1273) : am_okA 95 pc = true := by
  rcases Nat.lt_or_ge pc 50 with q0 | q0
  · exact am_q95_0 pc (by omega) q0
  rcases Nat.lt_or_ge pc 100 with q1 | q1
  · exact am_q95_1 pc (by omega) q1
  rcases Nat.lt_or_ge pc 150 with q2 | q2
  · exact am_q95_2 pc (by omega) q2
  rcases Nat.lt_or_ge pc 200 with q3 | q3
  · exact am_q95_3 pc (by omega) q3
  rcases Nat.lt_or_ge pc 250 with q4 | q4
  · exact am_q95_4 pc (by omega) q4
  rcases Nat.lt_or_ge pc 300 with q5 | q5
  · exact am_q95_5 pc (by omega) q5
  rcases Nat.lt_or_ge pc 350 with q6 | q6
  · exact am_q95_6 pc (by omega) q6
  rcases Nat.lt_or_ge pc 400 with q7 | q7
  · exact am_q95_7 pc (by omega) q7
  rcases Nat.lt_or_ge pc 450 with q8 | q8
  · exact am_q95_8 pc (by omega) q8
  rcases Nat.lt_or_ge pc 500 with q9 | q9
  · exact am_q95_9 pc (by omega) q9
  rcases Nat.lt_or_ge pc 550 with q10 | q10
  · exact am_q95_10 pc (by omega) q10
  rcases Nat.lt_or_ge pc 600 with q11 | q11
  · exact am_q95_11 pc (by omega) q11
  rcases Nat.lt_or_ge pc 650 with q12 | q12
  · exact am_q95_12 pc (by omega) q12
  rcases Nat.lt_or_ge pc 700 with q13 | q13
  · exact am_q95_13 pc (by omega) q13
  rcases Nat.lt_or_ge pc 750 with q14 | q14
  · exact am_q95_14 pc (by omega) q14
  rcases Nat.lt_or_ge pc 800 with q15 | q15
  · exact am_q95_15 pc (by omega) q15
  rcases Nat.lt_or_ge pc 850 with q16 | q16
  · exact am_q95_16 pc (by omega) q16
  rcases Nat.lt_or_ge pc 900 with q17 | q17
  · exact am_q95_17 pc (by omega) q17
  rcases Nat.lt_or_ge pc 950 with q18 | q18
  · exact am_q95_18 pc (by omega) q18
  rcases Nat.lt_or_ge pc 1000 with q19 | q19
  · exact am_q95_19 pc (by omega) q19
  rcases Nat.lt_or_ge pc 1050 with q20 | q20
  · exact am_q95_20 pc (by omega) q20
  rcases Nat.lt_or_ge pc 1100 with q21 | q21
  · exact am_q95_21 pc (by omega) q21
  rcases Nat.lt_or_ge pc 1150 with q22 | q22
  · exact am_q95_22 pc (by omega) q22
  rcases Nat.lt_or_ge pc 1200 with q23 | q23
  · exact am_q95_23 pc (by omega) q23
  rcases Nat.lt_or_ge pc 1250 with q24 | q24
  · exact am_q95_24 pc (by omega) q24
  exact am_q95_25 pc (by omega) h
theorem am_k95 : ∀ pc i j, am_fet 95 pc = some (i, j) → am_okR 95 pc i j = true := am_okOf2 1273 (fun pc i j h => am_gd_some (show am_f95 pc = some (i, j) from h)) am_q95
theorem am_kg0 (m : Nat) (h1 : 0 ≤ m) (h2 : m < 8) : am_okP m := by
  rcases (show m = 0 ∨ m = 1 ∨ m = 2 ∨ m = 3 ∨ m = 4 ∨ m = 5 ∨ m = 6 ∨ m = 7 by omega) with rfl | rfl | rfl | rfl | rfl | rfl | rfl | rfl
  · exact am_k0
  · exact am_k1
  · exact am_k2
  · exact am_k3
  · exact am_k4
  · exact am_k5
  · exact am_k6
  · exact am_k7
theorem am_kg1 (m : Nat) (h1 : 8 ≤ m) (h2 : m < 16) : am_okP m := by
  rcases (show m = 8 ∨ m = 9 ∨ m = 10 ∨ m = 11 ∨ m = 12 ∨ m = 13 ∨ m = 14 ∨ m = 15 by omega) with rfl | rfl | rfl | rfl | rfl | rfl | rfl | rfl
  · exact am_k8
  · exact am_k9
  · exact am_k10
  · exact am_k11
  · exact am_k12
  · exact am_k13
  · exact am_k14
  · exact am_k15
theorem am_kg2 (m : Nat) (h1 : 16 ≤ m) (h2 : m < 24) : am_okP m := by
  rcases (show m = 16 ∨ m = 17 ∨ m = 18 ∨ m = 19 ∨ m = 20 ∨ m = 21 ∨ m = 22 ∨ m = 23 by omega) with rfl | rfl | rfl | rfl | rfl | rfl | rfl | rfl
  · exact am_k16
  · exact am_k17
  · exact am_k18
  · exact am_k19
  · exact am_k20
  · exact am_k21
  · exact am_k22
  · exact am_k23
theorem am_kg3 (m : Nat) (h1 : 24 ≤ m) (h2 : m < 32) : am_okP m := by
  rcases (show m = 24 ∨ m = 25 ∨ m = 26 ∨ m = 27 ∨ m = 28 ∨ m = 29 ∨ m = 30 ∨ m = 31 by omega) with rfl | rfl | rfl | rfl | rfl | rfl | rfl | rfl
  · exact am_k24
  · exact am_k25
  · exact am_k26
  · exact am_k27
  · exact am_k28
  · exact am_k29
  · exact am_k30
  · exact am_k31
theorem am_kg4 (m : Nat) (h1 : 32 ≤ m) (h2 : m < 40) : am_okP m := by
  rcases (show m = 32 ∨ m = 33 ∨ m = 34 ∨ m = 35 ∨ m = 36 ∨ m = 37 ∨ m = 38 ∨ m = 39 by omega) with rfl | rfl | rfl | rfl | rfl | rfl | rfl | rfl
  · exact am_k32
  · exact am_k33
  · exact am_k34
  · exact am_k35
  · exact am_k36
  · exact am_k37
  · exact am_k38
  · exact am_k39
theorem am_kg5 (m : Nat) (h1 : 40 ≤ m) (h2 : m < 48) : am_okP m := by
  rcases (show m = 40 ∨ m = 41 ∨ m = 42 ∨ m = 43 ∨ m = 44 ∨ m = 45 ∨ m = 46 ∨ m = 47 by omega) with rfl | rfl | rfl | rfl | rfl | rfl | rfl | rfl
  · exact am_k40
  · exact am_k41
  · exact am_k42
  · exact am_k43
  · exact am_k44
  · exact am_k45
  · exact am_k46
  · exact am_k47
theorem am_kg6 (m : Nat) (h1 : 48 ≤ m) (h2 : m < 56) : am_okP m := by
  rcases (show m = 48 ∨ m = 49 ∨ m = 50 ∨ m = 51 ∨ m = 52 ∨ m = 53 ∨ m = 54 ∨ m = 55 by omega) with rfl | rfl | rfl | rfl | rfl | rfl | rfl | rfl
  · exact am_k48
  · exact am_k49
  · exact am_k50
  · exact am_k51
  · exact am_k52
  · exact am_k53
  · exact am_k54
  · exact am_k55
theorem am_kg7 (m : Nat) (h1 : 56 ≤ m) (h2 : m < 64) : am_okP m := by
  rcases (show m = 56 ∨ m = 57 ∨ m = 58 ∨ m = 59 ∨ m = 60 ∨ m = 61 ∨ m = 62 ∨ m = 63 by omega) with rfl | rfl | rfl | rfl | rfl | rfl | rfl | rfl
  · exact am_k56
  · exact am_k57
  · exact am_k58
  · exact am_k59
  · exact am_k60
  · exact am_k61
  · exact am_k62
  · exact am_k63
theorem am_kg8 (m : Nat) (h1 : 64 ≤ m) (h2 : m < 72) : am_okP m := by
  rcases (show m = 64 ∨ m = 65 ∨ m = 66 ∨ m = 67 ∨ m = 68 ∨ m = 69 ∨ m = 70 ∨ m = 71 by omega) with rfl | rfl | rfl | rfl | rfl | rfl | rfl | rfl
  · exact am_k64
  · exact am_k65
  · exact am_k66
  · exact am_k67
  · exact am_k68
  · exact am_k69
  · exact am_k70
  · exact am_k71
theorem am_kg9 (m : Nat) (h1 : 72 ≤ m) (h2 : m < 80) : am_okP m := by
  rcases (show m = 72 ∨ m = 73 ∨ m = 74 ∨ m = 75 ∨ m = 76 ∨ m = 77 ∨ m = 78 ∨ m = 79 by omega) with rfl | rfl | rfl | rfl | rfl | rfl | rfl | rfl
  · exact am_k72
  · exact am_k73
  · exact am_k74
  · exact am_k75
  · exact am_k76
  · exact am_k77
  · exact am_k78
  · exact am_k79
theorem am_kg10 (m : Nat) (h1 : 80 ≤ m) (h2 : m < 88) : am_okP m := by
  rcases (show m = 80 ∨ m = 81 ∨ m = 82 ∨ m = 83 ∨ m = 84 ∨ m = 85 ∨ m = 86 ∨ m = 87 by omega) with rfl | rfl | rfl | rfl | rfl | rfl | rfl | rfl
  · exact am_k80
  · exact am_k81
  · exact am_k82
  · exact am_k83
  · exact am_k84
  · exact am_k85
  · exact am_k86
  · exact am_k87
theorem am_kg11 (m : Nat) (h1 : 88 ≤ m) (h2 : m < 96) : am_okP m := by
  rcases (show m = 88 ∨ m = 89 ∨ m = 90 ∨ m = 91 ∨ m = 92 ∨ m = 93 ∨ m = 94 ∨ m = 95 by omega) with rfl | rfl | rfl | rfl | rfl | rfl | rfl | rfl
  · exact am_k88
  · exact am_k89
  · exact am_k90
  · exact am_k91
  · exact am_k92
  · exact am_k93
  · exact am_k94
  · exact am_k95
theorem am_okAll (m pc : Nat) (i : Instr) (j : Nat) (h : am_fet m pc = some (i, j)) : am_okR m pc i j = true := by
  have hm : m < 96 := by
    rcases Nat.lt_or_ge m 96 with q | q
    · exact q
    · rw [am_fet, Nat.ble_eq_true_of_le q] at h; cases h
  rcases Nat.lt_or_ge m 8 with q0 | q0
  · exact am_kg0 m (by omega) q0 pc i j h
  rcases Nat.lt_or_ge m 16 with q1 | q1
  · exact am_kg1 m (by omega) q1 pc i j h
  rcases Nat.lt_or_ge m 24 with q2 | q2
  · exact am_kg2 m (by omega) q2 pc i j h
  rcases Nat.lt_or_ge m 32 with q3 | q3
  · exact am_kg3 m (by omega) q3 pc i j h
  rcases Nat.lt_or_ge m 40 with q4 | q4
  · exact am_kg4 m (by omega) q4 pc i j h
  rcases Nat.lt_or_ge m 48 with q5 | q5
  · exact am_kg5 m (by omega) q5 pc i j h
  rcases Nat.lt_or_ge m 56 with q6 | q6
  · exact am_kg6 m (by omega) q6 pc i j h
  rcases Nat.lt_or_ge m 64 with q7 | q7
  · exact am_kg7 m (by omega) q7 pc i j h
  rcases Nat.lt_or_ge m 72 with q8 | q8
  · exact am_kg8 m (by omega) q8 pc i j h
  rcases Nat.lt_or_ge m 80 with q9 | q9
  · exact am_kg9 m (by omega) q9 pc i j h
  rcases Nat.lt_or_ge m 88 with q10 | q10
  · exact am_kg10 m (by omega) q10 pc i j h
  exact am_kg11 m (by omega) hm pc i j h
