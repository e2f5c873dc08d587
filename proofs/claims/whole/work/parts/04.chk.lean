theorem am_gd_some {n pc : Nat} {x : Option (Instr × Nat)} {y : Instr × Nat} (h : am_gd n pc x = some y) : pc < n := by
  rcases Nat.lt_or_ge pc n with q | q
  · exact q
  · rw [am_gd, Nat.ble_eq_true_of_le q] at h; cases h
def am_ln (i : Instr) (n : Nat) : Bool := match i with
  | .iconst _ | .iload_n _ | .aload_n _ | .istore_n _ | .astore_n _ | .iadd | .isub | .imul | .iand | .ior | .ixor | .ishl | .ishr | .iushr | .idiv | .irem | .ineg | .i2b | .i2l | .l2i | .ladd | .lmul | .lrem | .dup | .pop | .dup2 | .iaload | .baload | .iastore | .bastore | .arraylength | .ireturn | .areturn | .return_ => Nat.beq n 1
  | .bipush _ | .ldc _ | .iload _ | .aload _ | .istore _ | .astore _ | .newarray _ => Nat.beq n 2
  | .sipush _ | .ldc_w _ | .ldc2_w _ | .iinc _ _ | .goto _ | .ifCond _ _ | .if_icmp _ _ | .getfield _ | .putfield _ | .new _ | .invokevirtual _ | .invokestatic _ | .invokespecial _ => Nat.beq n 3
  | .tableswitch _ _ _ _ | .lookupswitch _ _ => true
  | _ => false
def am_any (l : List (Nat × Nat × Nat × Nat)) (o k j : Nat) : Bool := l.any (fun t => Nat.beq t.2.1 k && (Nat.beq t.1 o && Nat.beq t.2.2.1 j))
def am_putOK (m j : Nat) : Bool := match am_cl[j / 100]? with
  | some c => !(c.2.1 (j % 100)).2.2.2 || ((am_yq m).name == "<init>" && (c.2.1 (j % 100)).1 == am_RC (am_ow m))
  | none => false
def am_aux (m pc : Nat) (i : Instr) (j : Nat) : Bool := match i with
  | .goto off => decide ((pc : Int) + off = (j : Int))
  | .ifCond _ off => decide ((pc : Int) + off = (j : Int))
  | .if_icmp _ off => decide ((pc : Int) + off = (j : Int))
  | .getfield k => am_any am_lF (am_ow m) k j || am_any am_lN (am_ow m) k j
  | .putfield k => am_any am_lF (am_ow m) k j && am_putOK m j
  | .invokevirtual k => (am_any am_lM (am_ow m) k j || am_any am_lMN (am_ow m) k j) && (Nat.blt j am_law && (!am_st j && !((am_yq j).name == "<init>")))
  | .invokestatic k => (am_any am_lM (am_ow m) k j || am_any am_lMN (am_ow m) k j) && ((Nat.blt j am_law && am_st j) || (Nat.ble 1001 j && Nat.ble j 1004))
  | .invokespecial k => (am_any am_lM (am_ow m) k j || am_any am_lMN (am_ow m) k j) && ((Nat.blt j am_law && (!am_st j && (am_yq j).name == "<init>")) || Nat.beq j 1000)
  | .ldc k => am_any am_lK (am_ow m) k j
  | .ldc_w k => am_any am_lK (am_ow m) k j
  | .ldc2_w k => am_any am_lKL (am_ow m) k j
  | .new k => am_any am_lC (am_ow m) k j
  | .tableswitch dflt _ _ offs => decide (0 ≤ (pc : Int) + dflt) && offs.toList.all (fun off => decide (0 ≤ (pc : Int) + off))
  | .lookupswitch dflt ps => decide (0 ≤ (pc : Int) + dflt) && ps.toList.all (fun q => decide (0 ≤ (pc : Int) + q.2))
  | _ => true
def am_okR (m pc : Nat) (i : Instr) (j : Nat) : Bool := match decode (am_cod m) pc with
  | .ok (i', n) => decide (i' = i) && (am_ln i n && am_aux m pc i j)
  | .error _ => false
def am_okA (m pc : Nat) : Bool := match am_fet m pc with
  | some (i, j) => am_okR m pc i j
  | none => true
def am_okP (m : Nat) : Prop := ∀ pc i j, am_fet m pc = some (i, j) → am_okR m pc i j = true
theorem am_okOf {m : Nat} (n : Nat) (h1 : ∀ pc i j, am_fet m pc = some (i, j) → pc < n) (h2 : (List.range n).all (am_okA m) = true) : am_okP m := by
  intro pc i j h
  have h3 := List.all_eq_true.mp h2 pc (List.mem_range.mpr (h1 pc i j h))
  simpa only [am_okA, h] using h3
theorem am_okOf2 {m : Nat} (n : Nat) (h1 : ∀ pc i j, am_fet m pc = some (i, j) → pc < n) (h2 : ∀ pc, pc < n → am_okA m pc = true) : am_okP m := by
  intro pc i j h
  have h3 := h2 pc (h1 pc i j h)
  simpa only [am_okA, h] using h3
theorem am_okRange {m a b : Nat} (h : (List.range (b - a)).all (fun k => am_okA m (a + k)) = true) (pc : Nat) (h1 : a ≤ pc) (h2 : pc < b) : am_okA m pc = true := by
  have h3 := List.all_eq_true.mp h (pc - a) (List.mem_range.mpr (by omega))
  rwa [show a + (pc - a) = pc by omega] at h3

theorem am_k0 : ∀ pc i j, am_fet 0 pc = some (i, j) → am_okR 0 pc i j = true := am_okOf 29 (fun pc i j h => am_gd_some (show am_f0 pc = some (i, j) from h)) (by decide +kernel)
theorem am_k1 : ∀ pc i j, am_fet 1 pc = some (i, j) → am_okR 1 pc i j = true := am_okOf 9 (fun pc i j h => am_gd_some (show am_f1 pc = some (i, j) from h)) (by decide +kernel)
theorem am_k2 : ∀ pc i j, am_fet 2 pc = some (i, j) → am_okR 2 pc i j = true := am_okOf 28 (fun pc i j h => am_gd_some (show am_f2 pc = some (i, j) from h)) (by decide +kernel)
theorem am_k3 : ∀ pc i j, am_fet 3 pc = some (i, j) → am_okR 3 pc i j = true := am_okOf 85 (fun pc i j h => am_gd_some (show am_f3 pc = some (i, j) from h)) (by decide +kernel)
theorem am_k4 : ∀ pc i j, am_fet 4 pc = some (i, j) → am_okR 4 pc i j = true := am_okOf 35 (fun pc i j h => am_gd_some (show am_f4 pc = some (i, j) from h)) (by decide +kernel)
theorem am_k5 : ∀ pc i j, am_fet 5 pc = some (i, j) → am_okR 5 pc i j = true := am_okOf 85 (fun pc i j h => am_gd_some (show am_f5 pc = some (i, j) from h)) (by decide +kernel)
theorem am_k6 : ∀ pc i j, am_fet 6 pc = some (i, j) → am_okR 6 pc i j = true := am_okOf 78 (fun pc i j h => am_gd_some (show am_f6 pc = some (i, j) from h)) (by decide +kernel)
theorem am_k7 : ∀ pc i j, am_fet 7 pc = some (i, j) → am_okR 7 pc i j = true := am_okOf 36 (fun pc i j h => am_gd_some (show am_f7 pc = some (i, j) from h)) (by decide +kernel)
theorem am_k8 : ∀ pc i j, am_fet 8 pc = some (i, j) → am_okR 8 pc i j = true := am_okOf 38 (fun pc i j h => am_gd_some (show am_f8 pc = some (i, j) from h)) (by decide +kernel)
theorem am_k9 : ∀ pc i j, am_fet 9 pc = some (i, j) → am_okR 9 pc i j = true := am_okOf 77 (fun pc i j h => am_gd_some (show am_f9 pc = some (i, j) from h)) (by decide +kernel)
theorem am_k10 : ∀ pc i j, am_fet 10 pc = some (i, j) → am_okR 10 pc i j = true := am_okOf 125 (fun pc i j h => am_gd_some (show am_f10 pc = some (i, j) from h)) (by decide +kernel)
theorem am_k11 : ∀ pc i j, am_fet 11 pc = some (i, j) → am_okR 11 pc i j = true := am_okOf 19 (fun pc i j h => am_gd_some (show am_f11 pc = some (i, j) from h)) (by decide +kernel)
theorem am_k12 : ∀ pc i j, am_fet 12 pc = some (i, j) → am_okR 12 pc i j = true := am_okOf 100 (fun pc i j h => am_gd_some (show am_f12 pc = some (i, j) from h)) (by decide +kernel)
theorem am_k13 : ∀ pc i j, am_fet 13 pc = some (i, j) → am_okR 13 pc i j = true := am_okOf 78 (fun pc i j h => am_gd_some (show am_f13 pc = some (i, j) from h)) (by decide +kernel)
theorem am_k14 : ∀ pc i j, am_fet 14 pc = some (i, j) → am_okR 14 pc i j = true := am_okOf 118 (fun pc i j h => am_gd_some (show am_f14 pc = some (i, j) from h)) (by decide +kernel)
theorem am_k15 : ∀ pc i j, am_fet 15 pc = some (i, j) → am_okR 15 pc i j = true := am_okOf 204 (fun pc i j h => am_gd_some (show am_f15 pc = some (i, j) from h)) (by decide +kernel)
theorem am_k16 : ∀ pc i j, am_fet 16 pc = some (i, j) → am_okR 16 pc i j = true := am_okOf 131 (fun pc i j h => am_gd_some (show am_f16 pc = some (i, j) from h)) (by decide +kernel)
theorem am_k17 : ∀ pc i j, am_fet 17 pc = some (i, j) → am_okR 17 pc i j = true := am_okOf 62 (fun pc i j h => am_gd_some (show am_f17 pc = some (i, j) from h)) (by decide +kernel)
theorem am_k18 : ∀ pc i j, am_fet 18 pc = some (i, j) → am_okR 18 pc i j = true := am_okOf 107 (fun pc i j h => am_gd_some (show am_f18 pc = some (i, j) from h)) (by decide +kernel)
theorem am_k19 : ∀ pc i j, am_fet 19 pc = some (i, j) → am_okR 19 pc i j = true := am_okOf 17 (fun pc i j h => am_gd_some (show am_f19 pc = some (i, j) from h)) (by decide +kernel)
theorem am_k20 : ∀ pc i j, am_fet 20 pc = some (i, j) → am_okR 20 pc i j = true := am_okOf 34 (fun pc i j h => am_gd_some (show am_f20 pc = some (i, j) from h)) (by decide +kernel)
theorem am_k21 : ∀ pc i j, am_fet 21 pc = some (i, j) → am_okR 21 pc i j = true := am_okOf 51 (fun pc i j h => am_gd_some (show am_f21 pc = some (i, j) from h)) (by decide +kernel)
theorem am_k22 : ∀ pc i j, am_fet 22 pc = some (i, j) → am_okR 22 pc i j = true := am_okOf 69 (fun pc i j h => am_gd_some (show am_f22 pc = some (i, j) from h)) (by decide +kernel)
theorem am_k23 : ∀ pc i j, am_fet 23 pc = some (i, j) → am_okR 23 pc i j = true := am_okOf 68 (fun pc i j h => am_gd_some (show am_f23 pc = some (i, j) from h)) (by decide +kernel)
theorem am_k24 : ∀ pc i j, am_fet 24 pc = some (i, j) → am_okR 24 pc i j = true := am_okOf 32 (fun pc i j h => am_gd_some (show am_f24 pc = some (i, j) from h)) (by decide +kernel)
theorem am_k25 : ∀ pc i j, am_fet 25 pc = some (i, j) → am_okR 25 pc i j = true := am_okOf 73 (fun pc i j h => am_gd_some (show am_f25 pc = some (i, j) from h)) (by decide +kernel)
theorem am_k26 : ∀ pc i j, am_fet 26 pc = some (i, j) → am_okR 26 pc i j = true := am_okOf 46 (fun pc i j h => am_gd_some (show am_f26 pc = some (i, j) from h)) (by decide +kernel)
theorem am_k27 : ∀ pc i j, am_fet 27 pc = some (i, j) → am_okR 27 pc i j = true := am_okOf 16 (fun pc i j h => am_gd_some (show am_f27 pc = some (i, j) from h)) (by decide +kernel)
theorem am_k28 : ∀ pc i j, am_fet 28 pc = some (i, j) → am_okR 28 pc i j = true := am_okOf 115 (fun pc i j h => am_gd_some (show am_f28 pc = some (i, j) from h)) (by decide +kernel)
theorem am_k29 : ∀ pc i j, am_fet 29 pc = some (i, j) → am_okR 29 pc i j = true := am_okOf 42 (fun pc i j h => am_gd_some (show am_f29 pc = some (i, j) from h)) (by decide +kernel)
theorem am_k30 : ∀ pc i j, am_fet 30 pc = some (i, j) → am_okR 30 pc i j = true := am_okOf 33 (fun pc i j h => am_gd_some (show am_f30 pc = some (i, j) from h)) (by decide +kernel)
theorem am_k31 : ∀ pc i j, am_fet 31 pc = some (i, j) → am_okR 31 pc i j = true := am_okOf 56 (fun pc i j h => am_gd_some (show am_f31 pc = some (i, j) from h)) (by decide +kernel)
theorem am_k32 : ∀ pc i j, am_fet 32 pc = some (i, j) → am_okR 32 pc i j = true := am_okOf 17 (fun pc i j h => am_gd_some (show am_f32 pc = some (i, j) from h)) (by decide +kernel)
theorem am_k33 : ∀ pc i j, am_fet 33 pc = some (i, j) → am_okR 33 pc i j = true := am_okOf 17 (fun pc i j h => am_gd_some (show am_f33 pc = some (i, j) from h)) (by decide +kernel)
theorem am_k34 : ∀ pc i j, am_fet 34 pc = some (i, j) → am_okR 34 pc i j = true := am_okOf 25 (fun pc i j h => am_gd_some (show am_f34 pc = some (i, j) from h)) (by decide +kernel)
theorem am_k35 : ∀ pc i j, am_fet 35 pc = some (i, j) → am_okR 35 pc i j = true := am_okOf 49 (fun pc i j h => am_gd_some (show am_f35 pc = some (i, j) from h)) (by decide +kernel)
theorem am_k36 : ∀ pc i j, am_fet 36 pc = some (i, j) → am_okR 36 pc i j = true := am_okOf 52 (fun pc i j h => am_gd_some (show am_f36 pc = some (i, j) from h)) (by decide +kernel)
theorem am_k37 : ∀ pc i j, am_fet 37 pc = some (i, j) → am_okR 37 pc i j = true := am_okOf 137 (fun pc i j h => am_gd_some (show am_f37 pc = some (i, j) from h)) (by decide +kernel)
theorem am_k38 : ∀ pc i j, am_fet 38 pc = some (i, j) → am_okR 38 pc i j = true := am_okOf 47 (fun pc i j h => am_gd_some (show am_f38 pc = some (i, j) from h)) (by decide +kernel)
theorem am_k39 : ∀ pc i j, am_fet 39 pc = some (i, j) → am_okR 39 pc i j = true := am_okOf 55 (fun pc i j h => am_gd_some (show am_f39 pc = some (i, j) from h)) (by decide +kernel)
theorem am_k40 : ∀ pc i j, am_fet 40 pc = some (i, j) → am_okR 40 pc i j = true := am_okOf 55 (fun pc i j h => am_gd_some (show am_f40 pc = some (i, j) from h)) (by decide +kernel)
theorem am_k41 : ∀ pc i j, am_fet 41 pc = some (i, j) → am_okR 41 pc i j = true := am_okOf 166 (fun pc i j h => am_gd_some (show am_f41 pc = some (i, j) from h)) (by decide +kernel)
theorem am_k42 : ∀ pc i j, am_fet 42 pc = some (i, j) → am_okR 42 pc i j = true := am_okOf 15 (fun pc i j h => am_gd_some (show am_f42 pc = some (i, j) from h)) (by decide +kernel)
theorem am_k43 : ∀ pc i j, am_fet 43 pc = some (i, j) → am_okR 43 pc i j = true := am_okOf 117 (fun pc i j h => am_gd_some (show am_f43 pc = some (i, j) from h)) (by decide +kernel)
theorem am_k44 : ∀ pc i j, am_fet 44 pc = some (i, j) → am_okR 44 pc i j = true := am_okOf 36 (fun pc i j h => am_gd_some (show am_f44 pc = some (i, j) from h)) (by decide +kernel)
theorem am_k45 : ∀ pc i j, am_fet 45 pc = some (i, j) → am_okR 45 pc i j = true := am_okOf 76 (fun pc i j h => am_gd_some (show am_f45 pc = some (i, j) from h)) (by decide +kernel)
theorem am_k46 : ∀ pc i j, am_fet 46 pc = some (i, j) → am_okR 46 pc i j = true := am_okOf 39 (fun pc i j h => am_gd_some (show am_f46 pc = some (i, j) from h)) (by decide +kernel)
theorem am_k47 : ∀ pc i j, am_fet 47 pc = some (i, j) → am_okR 47 pc i j = true := am_okOf 119 (fun pc i j h => am_gd_some (show am_f47 pc = some (i, j) from h)) (by decide +kernel)
theorem am_k48 : ∀ pc i j, am_fet 48 pc = some (i, j) → am_okR 48 pc i j = true := am_okOf 54 (fun pc i j h => am_gd_some (show am_f48 pc = some (i, j) from h)) (by decide +kernel)
theorem am_k49 : ∀ pc i j, am_fet 49 pc = some (i, j) → am_okR 49 pc i j = true := am_okOf 51 (fun pc i j h => am_gd_some (show am_f49 pc = some (i, j) from h)) (by decide +kernel)
theorem am_k50 : ∀ pc i j, am_fet 50 pc = some (i, j) → am_okR 50 pc i j = true := am_okOf 14 (fun pc i j h => am_gd_some (show am_f50 pc = some (i, j) from h)) (by decide +kernel)
theorem am_k51 : ∀ pc i j, am_fet 51 pc = some (i, j) → am_okR 51 pc i j = true := am_okOf 27 (fun pc i j h => am_gd_some (show am_f51 pc = some (i, j) from h)) (by decide +kernel)
theorem am_k52 : ∀ pc i j, am_fet 52 pc = some (i, j) → am_okR 52 pc i j = true := am_okOf 13 (fun pc i j h => am_gd_some (show am_f52 pc = some (i, j) from h)) (by decide +kernel)
theorem am_k53 : ∀ pc i j, am_fet 53 pc = some (i, j) → am_okR 53 pc i j = true := am_okOf 117 (fun pc i j h => am_gd_some (show am_f53 pc = some (i, j) from h)) (by decide +kernel)
theorem am_k54 : ∀ pc i j, am_fet 54 pc = some (i, j) → am_okR 54 pc i j = true := am_okOf 48 (fun pc i j h => am_gd_some (show am_f54 pc = some (i, j) from h)) (by decide +kernel)
theorem am_k55 : ∀ pc i j, am_fet 55 pc = some (i, j) → am_okR 55 pc i j = true := am_okOf 134 (fun pc i j h => am_gd_some (show am_f55 pc = some (i, j) from h)) (by decide +kernel)
theorem am_k56 : ∀ pc i j, am_fet 56 pc = some (i, j) → am_okR 56 pc i j = true := am_okOf 67 (fun pc i j h => am_gd_some (show am_f56 pc = some (i, j) from h)) (by decide +kernel)
theorem am_k57 : ∀ pc i j, am_fet 57 pc = some (i, j) → am_okR 57 pc i j = true := am_okOf 32 (fun pc i j h => am_gd_some (show am_f57 pc = some (i, j) from h)) (by decide +kernel)
theorem am_k58 : ∀ pc i j, am_fet 58 pc = some (i, j) → am_okR 58 pc i j = true := am_okOf 97 (fun pc i j h => am_gd_some (show am_f58 pc = some (i, j) from h)) (by decide +kernel)
theorem am_k59 : ∀ pc i j, am_fet 59 pc = some (i, j) → am_okR 59 pc i j = true := am_okOf 85 (fun pc i j h => am_gd_some (show am_f59 pc = some (i, j) from h)) (by decide +kernel)
theorem am_k60 : ∀ pc i j, am_fet 60 pc = some (i, j) → am_okR 60 pc i j = true := am_okOf 31 (fun pc i j h => am_gd_some (show am_f60 pc = some (i, j) from h)) (by decide +kernel)
theorem am_k61 : ∀ pc i j, am_fet 61 pc = some (i, j) → am_okR 61 pc i j = true := am_okOf 12 (fun pc i j h => am_gd_some (show am_f61 pc = some (i, j) from h)) (by decide +kernel)
theorem am_k62 : ∀ pc i j, am_fet 62 pc = some (i, j) → am_okR 62 pc i j = true := am_okOf 27 (fun pc i j h => am_gd_some (show am_f62 pc = some (i, j) from h)) (by decide +kernel)
theorem am_k63 : ∀ pc i j, am_fet 63 pc = some (i, j) → am_okR 63 pc i j = true := am_okOf 65 (fun pc i j h => am_gd_some (show am_f63 pc = some (i, j) from h)) (by decide +kernel)
theorem am_k64 : ∀ pc i j, am_fet 64 pc = some (i, j) → am_okR 64 pc i j = true := am_okOf 26 (fun pc i j h => am_gd_some (show am_f64 pc = some (i, j) from h)) (by decide +kernel)
theorem am_k65 : ∀ pc i j, am_fet 65 pc = some (i, j) → am_okR 65 pc i j = true := am_okOf 106 (fun pc i j h => am_gd_some (show am_f65 pc = some (i, j) from h)) (by decide +kernel)
theorem am_k66 : ∀ pc i j, am_fet 66 pc = some (i, j) → am_okR 66 pc i j = true := am_okOf 100 (fun pc i j h => am_gd_some (show am_f66 pc = some (i, j) from h)) (by decide +kernel)
theorem am_k67 : ∀ pc i j, am_fet 67 pc = some (i, j) → am_okR 67 pc i j = true := am_okOf 187 (fun pc i j h => am_gd_some (show am_f67 pc = some (i, j) from h)) (by decide +kernel)
theorem am_k68 : ∀ pc i j, am_fet 68 pc = some (i, j) → am_okR 68 pc i j = true := am_okOf 141 (fun pc i j h => am_gd_some (show am_f68 pc = some (i, j) from h)) (by decide +kernel)
theorem am_k69 : ∀ pc i j, am_fet 69 pc = some (i, j) → am_okR 69 pc i j = true := am_okOf 151 (fun pc i j h => am_gd_some (show am_f69 pc = some (i, j) from h)) (by decide +kernel)
theorem am_k70 : ∀ pc i j, am_fet 70 pc = some (i, j) → am_okR 70 pc i j = true := am_okOf 32 (fun pc i j h => am_gd_some (show am_f70 pc = some (i, j) from h)) (by decide +kernel)
theorem am_k71 : ∀ pc i j, am_fet 71 pc = some (i, j) → am_okR 71 pc i j = true := am_okOf 46 (fun pc i j h => am_gd_some (show am_f71 pc = some (i, j) from h)) (by decide +kernel)
theorem am_k72 : ∀ pc i j, am_fet 72 pc = some (i, j) → am_okR 72 pc i j = true := am_okOf 22 (fun pc i j h => am_gd_some (show am_f72 pc = some (i, j) from h)) (by decide +kernel)
theorem am_k73 : ∀ pc i j, am_fet 73 pc = some (i, j) → am_okR 73 pc i j = true := am_okOf 102 (fun pc i j h => am_gd_some (show am_f73 pc = some (i, j) from h)) (by decide +kernel)
theorem am_k74 : ∀ pc i j, am_fet 74 pc = some (i, j) → am_okR 74 pc i j = true := am_okOf 59 (fun pc i j h => am_gd_some (show am_f74 pc = some (i, j) from h)) (by decide +kernel)
theorem am_k75 : ∀ pc i j, am_fet 75 pc = some (i, j) → am_okR 75 pc i j = true := am_okOf 46 (fun pc i j h => am_gd_some (show am_f75 pc = some (i, j) from h)) (by decide +kernel)
theorem am_k76 : ∀ pc i j, am_fet 76 pc = some (i, j) → am_okR 76 pc i j = true := am_okOf 51 (fun pc i j h => am_gd_some (show am_f76 pc = some (i, j) from h)) (by decide +kernel)
theorem am_k77 : ∀ pc i j, am_fet 77 pc = some (i, j) → am_okR 77 pc i j = true := am_okOf 53 (fun pc i j h => am_gd_some (show am_f77 pc = some (i, j) from h)) (by decide +kernel)
theorem am_k78 : ∀ pc i j, am_fet 78 pc = some (i, j) → am_okR 78 pc i j = true := am_okOf 179 (fun pc i j h => am_gd_some (show am_f78 pc = some (i, j) from h)) (by decide +kernel)
theorem am_k79 : ∀ pc i j, am_fet 79 pc = some (i, j) → am_okR 79 pc i j = true := am_okOf 44 (fun pc i j h => am_gd_some (show am_f79 pc = some (i, j) from h)) (by decide +kernel)
theorem am_k80 : ∀ pc i j, am_fet 80 pc = some (i, j) → am_okR 80 pc i j = true := am_okOf 31 (fun pc i j h => am_gd_some (show am_f80 pc = some (i, j) from h)) (by decide +kernel)
theorem am_k81 : ∀ pc i j, am_fet 81 pc = some (i, j) → am_okR 81 pc i j = true := am_okOf 13 (fun pc i j h => am_gd_some (show am_f81 pc = some (i, j) from h)) (by decide +kernel)
theorem am_k82 : ∀ pc i j, am_fet 82 pc = some (i, j) → am_okR 82 pc i j = true := am_okOf 120 (fun pc i j h => am_gd_some (show am_f82 pc = some (i, j) from h)) (by decide +kernel)
theorem am_k83 : ∀ pc i j, am_fet 83 pc = some (i, j) → am_okR 83 pc i j = true := am_okOf 27 (fun pc i j h => am_gd_some (show am_f83 pc = some (i, j) from h)) (by decide +kernel)
theorem am_k84 : ∀ pc i j, am_fet 84 pc = some (i, j) → am_okR 84 pc i j = true := am_okOf 42 (fun pc i j h => am_gd_some (show am_f84 pc = some (i, j) from h)) (by decide +kernel)
theorem am_k85 : ∀ pc i j, am_fet 85 pc = some (i, j) → am_okR 85 pc i j = true := am_okOf 39 (fun pc i j h => am_gd_some (show am_f85 pc = some (i, j) from h)) (by decide +kernel)
theorem am_k86 : ∀ pc i j, am_fet 86 pc = some (i, j) → am_okR 86 pc i j = true := am_okOf 67 (fun pc i j h => am_gd_some (show am_f86 pc = some (i, j) from h)) (by decide +kernel)
theorem am_k87 : ∀ pc i j, am_fet 87 pc = some (i, j) → am_okR 87 pc i j = true := am_okOf 72 (fun pc i j h => am_gd_some (show am_f87 pc = some (i, j) from h)) (by decide +kernel)
theorem am_k88 : ∀ pc i j, am_fet 88 pc = some (i, j) → am_okR 88 pc i j = true := am_okOf 44 (fun pc i j h => am_gd_some (show am_f88 pc = some (i, j) from h)) (by decide +kernel)
theorem am_k89 : ∀ pc i j, am_fet 89 pc = some (i, j) → am_okR 89 pc i j = true := am_okOf 35 (fun pc i j h => am_gd_some (show am_f89 pc = some (i, j) from h)) (by decide +kernel)
theorem am_k90 : ∀ pc i j, am_fet 90 pc = some (i, j) → am_okR 90 pc i j = true := am_okOf 89 (fun pc i j h => am_gd_some (show am_f90 pc = some (i, j) from h)) (by decide +kernel)
theorem am_k91 : ∀ pc i j, am_fet 91 pc = some (i, j) → am_okR 91 pc i j = true := am_okOf 29 (fun pc i j h => am_gd_some (show am_f91 pc = some (i, j) from h)) (by decide +kernel)
theorem am_k92 : ∀ pc i j, am_fet 92 pc = some (i, j) → am_okR 92 pc i j = true := am_okOf 22 (fun pc i j h => am_gd_some (show am_f92 pc = some (i, j) from h)) (by decide +kernel)
theorem am_k93 : ∀ pc i j, am_fet 93 pc = some (i, j) → am_okR 93 pc i j = true := am_okOf 167 (fun pc i j h => am_gd_some (show am_f93 pc = some (i, j) from h)) (by decide +kernel)
theorem am_k94 : ∀ pc i j, am_fet 94 pc = some (i, j) → am_okR 94 pc i j = true := am_okOf 117 (fun pc i j h => am_gd_some (show am_f94 pc = some (i, j) from h)) (by decide +kernel)
theorem am_k95 : ∀ pc i j, am_fet 95 pc = some (i, j) → am_okR 95 pc i j = true := am_okOf 10 (fun pc i j h => am_gd_some (show am_f95 pc = some (i, j) from h)) (by decide +kernel)
theorem am_k96 : ∀ pc i j, am_fet 96 pc = some (i, j) → am_okR 96 pc i j = true := am_okOf 10 (fun pc i j h => am_gd_some (show am_f96 pc = some (i, j) from h)) (by decide +kernel)
theorem am_k97 : ∀ pc i j, am_fet 97 pc = some (i, j) → am_okR 97 pc i j = true := am_okOf 54 (fun pc i j h => am_gd_some (show am_f97 pc = some (i, j) from h)) (by decide +kernel)
theorem am_k98 : ∀ pc i j, am_fet 98 pc = some (i, j) → am_okR 98 pc i j = true := am_okOf 159 (fun pc i j h => am_gd_some (show am_f98 pc = some (i, j) from h)) (by decide +kernel)
theorem am_k99 : ∀ pc i j, am_fet 99 pc = some (i, j) → am_okR 99 pc i j = true := am_okOf 24 (fun pc i j h => am_gd_some (show am_f99 pc = some (i, j) from h)) (by decide +kernel)
theorem am_k100 : ∀ pc i j, am_fet 100 pc = some (i, j) → am_okR 100 pc i j = true := am_okOf 11 (fun pc i j h => am_gd_some (show am_f100 pc = some (i, j) from h)) (by decide +kernel)
theorem am_k101 : ∀ pc i j, am_fet 101 pc = some (i, j) → am_okR 101 pc i j = true := am_okOf 29 (fun pc i j h => am_gd_some (show am_f101 pc = some (i, j) from h)) (by decide +kernel)
theorem am_k102 : ∀ pc i j, am_fet 102 pc = some (i, j) → am_okR 102 pc i j = true := am_okOf 60 (fun pc i j h => am_gd_some (show am_f102 pc = some (i, j) from h)) (by decide +kernel)
theorem am_k103 : ∀ pc i j, am_fet 103 pc = some (i, j) → am_okR 103 pc i j = true := am_okOf 15 (fun pc i j h => am_gd_some (show am_f103 pc = some (i, j) from h)) (by decide +kernel)
theorem am_k104 : ∀ pc i j, am_fet 104 pc = some (i, j) → am_okR 104 pc i j = true := am_okOf 62 (fun pc i j h => am_gd_some (show am_f104 pc = some (i, j) from h)) (by decide +kernel)
theorem am_k105 : ∀ pc i j, am_fet 105 pc = some (i, j) → am_okR 105 pc i j = true := am_okOf 23 (fun pc i j h => am_gd_some (show am_f105 pc = some (i, j) from h)) (by decide +kernel)
theorem am_k106 : ∀ pc i j, am_fet 106 pc = some (i, j) → am_okR 106 pc i j = true := am_okOf 9 (fun pc i j h => am_gd_some (show am_f106 pc = some (i, j) from h)) (by decide +kernel)
theorem am_k107 : ∀ pc i j, am_fet 107 pc = some (i, j) → am_okR 107 pc i j = true := am_okOf 30 (fun pc i j h => am_gd_some (show am_f107 pc = some (i, j) from h)) (by decide +kernel)
theorem am_k108 : ∀ pc i j, am_fet 108 pc = some (i, j) → am_okR 108 pc i j = true := am_okOf 13 (fun pc i j h => am_gd_some (show am_f108 pc = some (i, j) from h)) (by decide +kernel)
theorem am_k109 : ∀ pc i j, am_fet 109 pc = some (i, j) → am_okR 109 pc i j = true := am_okOf 25 (fun pc i j h => am_gd_some (show am_f109 pc = some (i, j) from h)) (by decide +kernel)
theorem am_k110 : ∀ pc i j, am_fet 110 pc = some (i, j) → am_okR 110 pc i j = true := am_okOf 47 (fun pc i j h => am_gd_some (show am_f110 pc = some (i, j) from h)) (by decide +kernel)
theorem am_k111 : ∀ pc i j, am_fet 111 pc = some (i, j) → am_okR 111 pc i j = true := am_okOf 93 (fun pc i j h => am_gd_some (show am_f111 pc = some (i, j) from h)) (by decide +kernel)
theorem am_k112 : ∀ pc i j, am_fet 112 pc = some (i, j) → am_okR 112 pc i j = true := am_okOf 90 (fun pc i j h => am_gd_some (show am_f112 pc = some (i, j) from h)) (by decide +kernel)
theorem am_k113 : ∀ pc i j, am_fet 113 pc = some (i, j) → am_okR 113 pc i j = true := am_okOf 44 (fun pc i j h => am_gd_some (show am_f113 pc = some (i, j) from h)) (by decide +kernel)
theorem am_k114 : ∀ pc i j, am_fet 114 pc = some (i, j) → am_okR 114 pc i j = true := am_okOf 39 (fun pc i j h => am_gd_some (show am_f114 pc = some (i, j) from h)) (by decide +kernel)
theorem am_k115 : ∀ pc i j, am_fet 115 pc = some (i, j) → am_okR 115 pc i j = true := am_okOf 72 (fun pc i j h => am_gd_some (show am_f115 pc = some (i, j) from h)) (by decide +kernel)
theorem am_k116 : ∀ pc i j, am_fet 116 pc = some (i, j) → am_okR 116 pc i j = true := am_okOf 43 (fun pc i j h => am_gd_some (show am_f116 pc = some (i, j) from h)) (by decide +kernel)
theorem am_k117 : ∀ pc i j, am_fet 117 pc = some (i, j) → am_okR 117 pc i j = true := am_okOf 13 (fun pc i j h => am_gd_some (show am_f117 pc = some (i, j) from h)) (by decide +kernel)
theorem am_k118 : ∀ pc i j, am_fet 118 pc = some (i, j) → am_okR 118 pc i j = true := am_okOf 37 (fun pc i j h => am_gd_some (show am_f118 pc = some (i, j) from h)) (by decide +kernel)
theorem am_k119 : ∀ pc i j, am_fet 119 pc = some (i, j) → am_okR 119 pc i j = true := am_okOf 56 (fun pc i j h => am_gd_some (show am_f119 pc = some (i, j) from h)) (by decide +kernel)
theorem am_k120 : ∀ pc i j, am_fet 120 pc = some (i, j) → am_okR 120 pc i j = true := am_okOf 10 (fun pc i j h => am_gd_some (show am_f120 pc = some (i, j) from h)) (by decide +kernel)
theorem am_k121 : ∀ pc i j, am_fet 121 pc = some (i, j) → am_okR 121 pc i j = true := am_okOf 15 (fun pc i j h => am_gd_some (show am_f121 pc = some (i, j) from h)) (by decide +kernel)
theorem am_k122 : ∀ pc i j, am_fet 122 pc = some (i, j) → am_okR 122 pc i j = true := am_okOf 45 (fun pc i j h => am_gd_some (show am_f122 pc = some (i, j) from h)) (by decide +kernel)
theorem am_k123 : ∀ pc i j, am_fet 123 pc = some (i, j) → am_okR 123 pc i j = true := am_okOf 85 (fun pc i j h => am_gd_some (show am_f123 pc = some (i, j) from h)) (by decide +kernel)
theorem am_k124 : ∀ pc i j, am_fet 124 pc = some (i, j) → am_okR 124 pc i j = true := am_okOf 26 (fun pc i j h => am_gd_some (show am_f124 pc = some (i, j) from h)) (by decide +kernel)
theorem am_k125 : ∀ pc i j, am_fet 125 pc = some (i, j) → am_okR 125 pc i j = true := am_okOf 10 (fun pc i j h => am_gd_some (show am_f125 pc = some (i, j) from h)) (by decide +kernel)
theorem am_k126 : ∀ pc i j, am_fet 126 pc = some (i, j) → am_okR 126 pc i j = true := am_okOf 10 (fun pc i j h => am_gd_some (show am_f126 pc = some (i, j) from h)) (by decide +kernel)
theorem am_k127 : ∀ pc i j, am_fet 127 pc = some (i, j) → am_okR 127 pc i j = true := am_okOf 12 (fun pc i j h => am_gd_some (show am_f127 pc = some (i, j) from h)) (by decide +kernel)
theorem am_k128 : ∀ pc i j, am_fet 128 pc = some (i, j) → am_okR 128 pc i j = true := am_okOf 12 (fun pc i j h => am_gd_some (show am_f128 pc = some (i, j) from h)) (by decide +kernel)
theorem am_k129 : ∀ pc i j, am_fet 129 pc = some (i, j) → am_okR 129 pc i j = true := am_okOf 74 (fun pc i j h => am_gd_some (show am_f129 pc = some (i, j) from h)) (by decide +kernel)
theorem am_k130 : ∀ pc i j, am_fet 130 pc = some (i, j) → am_okR 130 pc i j = true := am_okOf 36 (fun pc i j h => am_gd_some (show am_f130 pc = some (i, j) from h)) (by decide +kernel)
theorem am_k131 : ∀ pc i j, am_fet 131 pc = some (i, j) → am_okR 131 pc i j = true := am_okOf 70 (fun pc i j h => am_gd_some (show am_f131 pc = some (i, j) from h)) (by decide +kernel)
theorem am_k132 : ∀ pc i j, am_fet 132 pc = some (i, j) → am_okR 132 pc i j = true := am_okOf 57 (fun pc i j h => am_gd_some (show am_f132 pc = some (i, j) from h)) (by decide +kernel)
theorem am_k133 : ∀ pc i j, am_fet 133 pc = some (i, j) → am_okR 133 pc i j = true := am_okOf 39 (fun pc i j h => am_gd_some (show am_f133 pc = some (i, j) from h)) (by decide +kernel)
theorem am_k134 : ∀ pc i j, am_fet 134 pc = some (i, j) → am_okR 134 pc i j = true := am_okOf 140 (fun pc i j h => am_gd_some (show am_f134 pc = some (i, j) from h)) (by decide +kernel)
theorem am_k135 : ∀ pc i j, am_fet 135 pc = some (i, j) → am_okR 135 pc i j = true := am_okOf 184 (fun pc i j h => am_gd_some (show am_f135 pc = some (i, j) from h)) (by decide +kernel)
theorem am_k136 : ∀ pc i j, am_fet 136 pc = some (i, j) → am_okR 136 pc i j = true := am_okOf 15 (fun pc i j h => am_gd_some (show am_f136 pc = some (i, j) from h)) (by decide +kernel)
theorem am_k137 : ∀ pc i j, am_fet 137 pc = some (i, j) → am_okR 137 pc i j = true := am_okOf 8 (fun pc i j h => am_gd_some (show am_f137 pc = some (i, j) from h)) (by decide +kernel)
theorem am_k138 : ∀ pc i j, am_fet 138 pc = some (i, j) → am_okR 138 pc i j = true := am_okOf 21 (fun pc i j h => am_gd_some (show am_f138 pc = some (i, j) from h)) (by decide +kernel)
theorem am_k139 : ∀ pc i j, am_fet 139 pc = some (i, j) → am_okR 139 pc i j = true := am_okOf 9 (fun pc i j h => am_gd_some (show am_f139 pc = some (i, j) from h)) (by decide +kernel)
theorem am_k140 : ∀ pc i j, am_fet 140 pc = some (i, j) → am_okR 140 pc i j = true := am_okOf 53 (fun pc i j h => am_gd_some (show am_f140 pc = some (i, j) from h)) (by decide +kernel)
theorem am_k141 : ∀ pc i j, am_fet 141 pc = some (i, j) → am_okR 141 pc i j = true := am_okOf 42 (fun pc i j h => am_gd_some (show am_f141 pc = some (i, j) from h)) (by decide +kernel)
theorem am_k142 : ∀ pc i j, am_fet 142 pc = some (i, j) → am_okR 142 pc i j = true := am_okOf 41 (fun pc i j h => am_gd_some (show am_f142 pc = some (i, j) from h)) (by decide +kernel)
theorem am_k143 : ∀ pc i j, am_fet 143 pc = some (i, j) → am_okR 143 pc i j = true := am_okOf 56 (fun pc i j h => am_gd_some (show am_f143 pc = some (i, j) from h)) (by decide +kernel)
theorem am_k144 : ∀ pc i j, am_fet 144 pc = some (i, j) → am_okR 144 pc i j = true := am_okOf 50 (fun pc i j h => am_gd_some (show am_f144 pc = some (i, j) from h)) (by decide +kernel)
theorem am_k145 : ∀ pc i j, am_fet 145 pc = some (i, j) → am_okR 145 pc i j = true := am_okOf 575 (fun pc i j h => am_gd_some (show am_f145 pc = some (i, j) from h)) (by decide +kernel)
theorem am_k146 : ∀ pc i j, am_fet 146 pc = some (i, j) → am_okR 146 pc i j = true := am_okOf 16 (fun pc i j h => am_gd_some (show am_f146 pc = some (i, j) from h)) (by decide +kernel)
theorem am_k147 : ∀ pc i j, am_fet 147 pc = some (i, j) → am_okR 147 pc i j = true := am_okOf 15 (fun pc i j h => am_gd_some (show am_f147 pc = some (i, j) from h)) (by decide +kernel)
theorem am_k148 : ∀ pc i j, am_fet 148 pc = some (i, j) → am_okR 148 pc i j = true := am_okOf 15 (fun pc i j h => am_gd_some (show am_f148 pc = some (i, j) from h)) (by decide +kernel)
theorem am_k149 : ∀ pc i j, am_fet 149 pc = some (i, j) → am_okR 149 pc i j = true := am_okOf 12 (fun pc i j h => am_gd_some (show am_f149 pc = some (i, j) from h)) (by decide +kernel)
theorem am_k150 : ∀ pc i j, am_fet 150 pc = some (i, j) → am_okR 150 pc i j = true := am_okOf 8 (fun pc i j h => am_gd_some (show am_f150 pc = some (i, j) from h)) (by decide +kernel)
theorem am_k151 : ∀ pc i j, am_fet 151 pc = some (i, j) → am_okR 151 pc i j = true := am_okOf 8 (fun pc i j h => am_gd_some (show am_f151 pc = some (i, j) from h)) (by decide +kernel)
theorem am_k152 : ∀ pc i j, am_fet 152 pc = some (i, j) → am_okR 152 pc i j = true := am_okOf 22 (fun pc i j h => am_gd_some (show am_f152 pc = some (i, j) from h)) (by decide +kernel)
theorem am_k153 : ∀ pc i j, am_fet 153 pc = some (i, j) → am_okR 153 pc i j = true := am_okOf 9 (fun pc i j h => am_gd_some (show am_f153 pc = some (i, j) from h)) (by decide +kernel)
theorem am_k154 : ∀ pc i j, am_fet 154 pc = some (i, j) → am_okR 154 pc i j = true := am_okOf 20 (fun pc i j h => am_gd_some (show am_f154 pc = some (i, j) from h)) (by decide +kernel)
theorem am_k155 : ∀ pc i j, am_fet 155 pc = some (i, j) → am_okR 155 pc i j = true := am_okOf 83 (fun pc i j h => am_gd_some (show am_f155 pc = some (i, j) from h)) (by decide +kernel)
theorem am_k156 : ∀ pc i j, am_fet 156 pc = some (i, j) → am_okR 156 pc i j = true := am_okOf 95 (fun pc i j h => am_gd_some (show am_f156 pc = some (i, j) from h)) (by decide +kernel)
theorem am_k157 : ∀ pc i j, am_fet 157 pc = some (i, j) → am_okR 157 pc i j = true := am_okOf 29 (fun pc i j h => am_gd_some (show am_f157 pc = some (i, j) from h)) (by decide +kernel)
theorem am_k158 : ∀ pc i j, am_fet 158 pc = some (i, j) → am_okR 158 pc i j = true := am_okOf 54 (fun pc i j h => am_gd_some (show am_f158 pc = some (i, j) from h)) (by decide +kernel)
theorem am_k159 : ∀ pc i j, am_fet 159 pc = some (i, j) → am_okR 159 pc i j = true := am_okOf 29 (fun pc i j h => am_gd_some (show am_f159 pc = some (i, j) from h)) (by decide +kernel)
theorem am_k160 : ∀ pc i j, am_fet 160 pc = some (i, j) → am_okR 160 pc i j = true := am_okOf 29 (fun pc i j h => am_gd_some (show am_f160 pc = some (i, j) from h)) (by decide +kernel)
theorem am_k161 : ∀ pc i j, am_fet 161 pc = some (i, j) → am_okR 161 pc i j = true := am_okOf 49 (fun pc i j h => am_gd_some (show am_f161 pc = some (i, j) from h)) (by decide +kernel)
theorem am_k162 : ∀ pc i j, am_fet 162 pc = some (i, j) → am_okR 162 pc i j = true := am_okOf 23 (fun pc i j h => am_gd_some (show am_f162 pc = some (i, j) from h)) (by decide +kernel)
theorem am_k163 : ∀ pc i j, am_fet 163 pc = some (i, j) → am_okR 163 pc i j = true := am_okOf 21 (fun pc i j h => am_gd_some (show am_f163 pc = some (i, j) from h)) (by decide +kernel)
theorem am_k164 : ∀ pc i j, am_fet 164 pc = some (i, j) → am_okR 164 pc i j = true := am_okOf 40 (fun pc i j h => am_gd_some (show am_f164 pc = some (i, j) from h)) (by decide +kernel)
theorem am_k165 : ∀ pc i j, am_fet 165 pc = some (i, j) → am_okR 165 pc i j = true := am_okOf 56 (fun pc i j h => am_gd_some (show am_f165 pc = some (i, j) from h)) (by decide +kernel)
theorem am_k166 : ∀ pc i j, am_fet 166 pc = some (i, j) → am_okR 166 pc i j = true := am_okOf 18 (fun pc i j h => am_gd_some (show am_f166 pc = some (i, j) from h)) (by decide +kernel)
theorem am_k167 : ∀ pc i j, am_fet 167 pc = some (i, j) → am_okR 167 pc i j = true := am_okOf 62 (fun pc i j h => am_gd_some (show am_f167 pc = some (i, j) from h)) (by decide +kernel)
theorem am_k168 : ∀ pc i j, am_fet 168 pc = some (i, j) → am_okR 168 pc i j = true := am_okOf 91 (fun pc i j h => am_gd_some (show am_f168 pc = some (i, j) from h)) (by decide +kernel)
theorem am_k169 : ∀ pc i j, am_fet 169 pc = some (i, j) → am_okR 169 pc i j = true := am_okOf 208 (fun pc i j h => am_gd_some (show am_f169 pc = some (i, j) from h)) (by decide +kernel)
theorem am_k170 : ∀ pc i j, am_fet 170 pc = some (i, j) → am_okR 170 pc i j = true := am_okOf 55 (fun pc i j h => am_gd_some (show am_f170 pc = some (i, j) from h)) (by decide +kernel)
theorem am_k171 : ∀ pc i j, am_fet 171 pc = some (i, j) → am_okR 171 pc i j = true := am_okOf 169 (fun pc i j h => am_gd_some (show am_f171 pc = some (i, j) from h)) (by decide +kernel)
theorem am_k172 : ∀ pc i j, am_fet 172 pc = some (i, j) → am_okR 172 pc i j = true := am_okOf 237 (fun pc i j h => am_gd_some (show am_f172 pc = some (i, j) from h)) (by decide +kernel)
theorem am_k173 : ∀ pc i j, am_fet 173 pc = some (i, j) → am_okR 173 pc i j = true := am_okOf 42 (fun pc i j h => am_gd_some (show am_f173 pc = some (i, j) from h)) (by decide +kernel)
theorem am_k174 : ∀ pc i j, am_fet 174 pc = some (i, j) → am_okR 174 pc i j = true := am_okOf 139 (fun pc i j h => am_gd_some (show am_f174 pc = some (i, j) from h)) (by decide +kernel)
theorem am_k175 : ∀ pc i j, am_fet 175 pc = some (i, j) → am_okR 175 pc i j = true := am_okOf 404 (fun pc i j h => am_gd_some (show am_f175 pc = some (i, j) from h)) (by decide +kernel)
theorem am_k176 : ∀ pc i j, am_fet 176 pc = some (i, j) → am_okR 176 pc i j = true := am_okOf 30 (fun pc i j h => am_gd_some (show am_f176 pc = some (i, j) from h)) (by decide +kernel)
theorem am_k177 : ∀ pc i j, am_fet 177 pc = some (i, j) → am_okR 177 pc i j = true := am_okOf 37 (fun pc i j h => am_gd_some (show am_f177 pc = some (i, j) from h)) (by decide +kernel)
theorem am_k178 : ∀ pc i j, am_fet 178 pc = some (i, j) → am_okR 178 pc i j = true := am_okOf 47 (fun pc i j h => am_gd_some (show am_f178 pc = some (i, j) from h)) (by decide +kernel)
theorem am_k179 : ∀ pc i j, am_fet 179 pc = some (i, j) → am_okR 179 pc i j = true := am_okOf 49 (fun pc i j h => am_gd_some (show am_f179 pc = some (i, j) from h)) (by decide +kernel)
theorem am_k180 : ∀ pc i j, am_fet 180 pc = some (i, j) → am_okR 180 pc i j = true := am_okOf 27 (fun pc i j h => am_gd_some (show am_f180 pc = some (i, j) from h)) (by decide +kernel)
theorem am_k181 : ∀ pc i j, am_fet 181 pc = some (i, j) → am_okR 181 pc i j = true := am_okOf 83 (fun pc i j h => am_gd_some (show am_f181 pc = some (i, j) from h)) (by decide +kernel)
theorem am_k182 : ∀ pc i j, am_fet 182 pc = some (i, j) → am_okR 182 pc i j = true := am_okOf 63 (fun pc i j h => am_gd_some (show am_f182 pc = some (i, j) from h)) (by decide +kernel)
theorem am_k183 : ∀ pc i j, am_fet 183 pc = some (i, j) → am_okR 183 pc i j = true := am_okOf 172 (fun pc i j h => am_gd_some (show am_f183 pc = some (i, j) from h)) (by decide +kernel)
theorem am_k184 : ∀ pc i j, am_fet 184 pc = some (i, j) → am_okR 184 pc i j = true := am_okOf 38 (fun pc i j h => am_gd_some (show am_f184 pc = some (i, j) from h)) (by decide +kernel)
theorem am_k185 : ∀ pc i j, am_fet 185 pc = some (i, j) → am_okR 185 pc i j = true := am_okOf 112 (fun pc i j h => am_gd_some (show am_f185 pc = some (i, j) from h)) (by decide +kernel)
theorem am_k186 : ∀ pc i j, am_fet 186 pc = some (i, j) → am_okR 186 pc i j = true := am_okOf 63 (fun pc i j h => am_gd_some (show am_f186 pc = some (i, j) from h)) (by decide +kernel)
theorem am_k187 : ∀ pc i j, am_fet 187 pc = some (i, j) → am_okR 187 pc i j = true := am_okOf 86 (fun pc i j h => am_gd_some (show am_f187 pc = some (i, j) from h)) (by decide +kernel)
theorem am_k188 : ∀ pc i j, am_fet 188 pc = some (i, j) → am_okR 188 pc i j = true := am_okOf 23 (fun pc i j h => am_gd_some (show am_f188 pc = some (i, j) from h)) (by decide +kernel)
theorem am_k189 : ∀ pc i j, am_fet 189 pc = some (i, j) → am_okR 189 pc i j = true := am_okOf 125 (fun pc i j h => am_gd_some (show am_f189 pc = some (i, j) from h)) (by decide +kernel)
theorem am_k190 : ∀ pc i j, am_fet 190 pc = some (i, j) → am_okR 190 pc i j = true := am_okOf 54 (fun pc i j h => am_gd_some (show am_f190 pc = some (i, j) from h)) (by decide +kernel)
theorem am_k191 : ∀ pc i j, am_fet 191 pc = some (i, j) → am_okR 191 pc i j = true := am_okOf 259 (fun pc i j h => am_gd_some (show am_f191 pc = some (i, j) from h)) (by decide +kernel)
theorem am_k192 : ∀ pc i j, am_fet 192 pc = some (i, j) → am_okR 192 pc i j = true := am_okOf 176 (fun pc i j h => am_gd_some (show am_f192 pc = some (i, j) from h)) (by decide +kernel)
theorem am_k193 : ∀ pc i j, am_fet 193 pc = some (i, j) → am_okR 193 pc i j = true := am_okOf 132 (fun pc i j h => am_gd_some (show am_f193 pc = some (i, j) from h)) (by decide +kernel)
theorem am_k194 : ∀ pc i j, am_fet 194 pc = some (i, j) → am_okR 194 pc i j = true := am_okOf 35 (fun pc i j h => am_gd_some (show am_f194 pc = some (i, j) from h)) (by decide +kernel)
theorem am_k195 : ∀ pc i j, am_fet 195 pc = some (i, j) → am_okR 195 pc i j = true := am_okOf 231 (fun pc i j h => am_gd_some (show am_f195 pc = some (i, j) from h)) (by decide +kernel)
theorem am_k196 : ∀ pc i j, am_fet 196 pc = some (i, j) → am_okR 196 pc i j = true := am_okOf 104 (fun pc i j h => am_gd_some (show am_f196 pc = some (i, j) from h)) (by decide +kernel)
theorem am_k197 : ∀ pc i j, am_fet 197 pc = some (i, j) → am_okR 197 pc i j = true := am_okOf 70 (fun pc i j h => am_gd_some (show am_f197 pc = some (i, j) from h)) (by decide +kernel)
theorem am_k198 : ∀ pc i j, am_fet 198 pc = some (i, j) → am_okR 198 pc i j = true := am_okOf 63 (fun pc i j h => am_gd_some (show am_f198 pc = some (i, j) from h)) (by decide +kernel)
theorem am_k199 : ∀ pc i j, am_fet 199 pc = some (i, j) → am_okR 199 pc i j = true := am_okOf 58 (fun pc i j h => am_gd_some (show am_f199 pc = some (i, j) from h)) (by decide +kernel)
theorem am_k200 : ∀ pc i j, am_fet 200 pc = some (i, j) → am_okR 200 pc i j = true := am_okOf 85 (fun pc i j h => am_gd_some (show am_f200 pc = some (i, j) from h)) (by decide +kernel)
theorem am_k201 : ∀ pc i j, am_fet 201 pc = some (i, j) → am_okR 201 pc i j = true := am_okOf 76 (fun pc i j h => am_gd_some (show am_f201 pc = some (i, j) from h)) (by decide +kernel)
theorem am_k202 : ∀ pc i j, am_fet 202 pc = some (i, j) → am_okR 202 pc i j = true := am_okOf 12 (fun pc i j h => am_gd_some (show am_f202 pc = some (i, j) from h)) (by decide +kernel)
theorem am_k203 : ∀ pc i j, am_fet 203 pc = some (i, j) → am_okR 203 pc i j = true := am_okOf 94 (fun pc i j h => am_gd_some (show am_f203 pc = some (i, j) from h)) (by decide +kernel)
theorem am_k204 : ∀ pc i j, am_fet 204 pc = some (i, j) → am_okR 204 pc i j = true := am_okOf 69 (fun pc i j h => am_gd_some (show am_f204 pc = some (i, j) from h)) (by decide +kernel)
theorem am_k205 : ∀ pc i j, am_fet 205 pc = some (i, j) → am_okR 205 pc i j = true := am_okOf 179 (fun pc i j h => am_gd_some (show am_f205 pc = some (i, j) from h)) (by decide +kernel)
theorem am_k206 : ∀ pc i j, am_fet 206 pc = some (i, j) → am_okR 206 pc i j = true := am_okOf 38 (fun pc i j h => am_gd_some (show am_f206 pc = some (i, j) from h)) (by decide +kernel)
theorem am_k207 : ∀ pc i j, am_fet 207 pc = some (i, j) → am_okR 207 pc i j = true := am_okOf 186 (fun pc i j h => am_gd_some (show am_f207 pc = some (i, j) from h)) (by decide +kernel)
theorem am_k208 : ∀ pc i j, am_fet 208 pc = some (i, j) → am_okR 208 pc i j = true := am_okOf 102 (fun pc i j h => am_gd_some (show am_f208 pc = some (i, j) from h)) (by decide +kernel)
theorem am_k209 : ∀ pc i j, am_fet 209 pc = some (i, j) → am_okR 209 pc i j = true := am_okOf 12 (fun pc i j h => am_gd_some (show am_f209 pc = some (i, j) from h)) (by decide +kernel)
theorem am_k210 : ∀ pc i j, am_fet 210 pc = some (i, j) → am_okR 210 pc i j = true := am_okOf 12 (fun pc i j h => am_gd_some (show am_f210 pc = some (i, j) from h)) (by decide +kernel)
theorem am_k211 : ∀ pc i j, am_fet 211 pc = some (i, j) → am_okR 211 pc i j = true := am_okOf 107 (fun pc i j h => am_gd_some (show am_f211 pc = some (i, j) from h)) (by decide +kernel)
theorem am_k212 : ∀ pc i j, am_fet 212 pc = some (i, j) → am_okR 212 pc i j = true := am_okOf 29 (fun pc i j h => am_gd_some (show am_f212 pc = some (i, j) from h)) (by decide +kernel)
theorem am_k213 : ∀ pc i j, am_fet 213 pc = some (i, j) → am_okR 213 pc i j = true := am_okOf 48 (fun pc i j h => am_gd_some (show am_f213 pc = some (i, j) from h)) (by decide +kernel)
theorem am_k214 : ∀ pc i j, am_fet 214 pc = some (i, j) → am_okR 214 pc i j = true := am_okOf 67 (fun pc i j h => am_gd_some (show am_f214 pc = some (i, j) from h)) (by decide +kernel)
theorem am_k215 : ∀ pc i j, am_fet 215 pc = some (i, j) → am_okR 215 pc i j = true := am_okOf 11 (fun pc i j h => am_gd_some (show am_f215 pc = some (i, j) from h)) (by decide +kernel)
theorem am_k216 : ∀ pc i j, am_fet 216 pc = some (i, j) → am_okR 216 pc i j = true := am_okOf 11 (fun pc i j h => am_gd_some (show am_f216 pc = some (i, j) from h)) (by decide +kernel)
theorem am_k217 : ∀ pc i j, am_fet 217 pc = some (i, j) → am_okR 217 pc i j = true := am_okOf 207 (fun pc i j h => am_gd_some (show am_f217 pc = some (i, j) from h)) (by decide +kernel)
theorem am_k218 : ∀ pc i j, am_fet 218 pc = some (i, j) → am_okR 218 pc i j = true := am_okOf 149 (fun pc i j h => am_gd_some (show am_f218 pc = some (i, j) from h)) (by decide +kernel)
theorem am_k219 : ∀ pc i j, am_fet 219 pc = some (i, j) → am_okR 219 pc i j = true := am_okOf 129 (fun pc i j h => am_gd_some (show am_f219 pc = some (i, j) from h)) (by decide +kernel)
theorem am_k220 : ∀ pc i j, am_fet 220 pc = some (i, j) → am_okR 220 pc i j = true := am_okOf 31 (fun pc i j h => am_gd_some (show am_f220 pc = some (i, j) from h)) (by decide +kernel)
theorem am_k221 : ∀ pc i j, am_fet 221 pc = some (i, j) → am_okR 221 pc i j = true := am_okOf 62 (fun pc i j h => am_gd_some (show am_f221 pc = some (i, j) from h)) (by decide +kernel)
theorem am_k222 : ∀ pc i j, am_fet 222 pc = some (i, j) → am_okR 222 pc i j = true := am_okOf 21 (fun pc i j h => am_gd_some (show am_f222 pc = some (i, j) from h)) (by decide +kernel)
theorem am_k223 : ∀ pc i j, am_fet 223 pc = some (i, j) → am_okR 223 pc i j = true := am_okOf 65 (fun pc i j h => am_gd_some (show am_f223 pc = some (i, j) from h)) (by decide +kernel)
theorem am_k224 : ∀ pc i j, am_fet 224 pc = some (i, j) → am_okR 224 pc i j = true := am_okOf 28 (fun pc i j h => am_gd_some (show am_f224 pc = some (i, j) from h)) (by decide +kernel)
theorem am_k225 : ∀ pc i j, am_fet 225 pc = some (i, j) → am_okR 225 pc i j = true := am_okOf 29 (fun pc i j h => am_gd_some (show am_f225 pc = some (i, j) from h)) (by decide +kernel)
theorem am_k226 : ∀ pc i j, am_fet 226 pc = some (i, j) → am_okR 226 pc i j = true := am_okOf 43 (fun pc i j h => am_gd_some (show am_f226 pc = some (i, j) from h)) (by decide +kernel)
theorem am_k227 : ∀ pc i j, am_fet 227 pc = some (i, j) → am_okR 227 pc i j = true := am_okOf 144 (fun pc i j h => am_gd_some (show am_f227 pc = some (i, j) from h)) (by decide +kernel)
theorem am_k228 : ∀ pc i j, am_fet 228 pc = some (i, j) → am_okR 228 pc i j = true := am_okOf 18 (fun pc i j h => am_gd_some (show am_f228 pc = some (i, j) from h)) (by decide +kernel)
theorem am_k229 : ∀ pc i j, am_fet 229 pc = some (i, j) → am_okR 229 pc i j = true := am_okOf 9 (fun pc i j h => am_gd_some (show am_f229 pc = some (i, j) from h)) (by decide +kernel)
theorem am_k230 : ∀ pc i j, am_fet 230 pc = some (i, j) → am_okR 230 pc i j = true := am_okOf 121 (fun pc i j h => am_gd_some (show am_f230 pc = some (i, j) from h)) (by decide +kernel)
theorem am_k231 : ∀ pc i j, am_fet 231 pc = some (i, j) → am_okR 231 pc i j = true := am_okOf 59 (fun pc i j h => am_gd_some (show am_f231 pc = some (i, j) from h)) (by decide +kernel)
theorem am_k232 : ∀ pc i j, am_fet 232 pc = some (i, j) → am_okR 232 pc i j = true := am_okOf 65 (fun pc i j h => am_gd_some (show am_f232 pc = some (i, j) from h)) (by decide +kernel)
theorem am_k233 : ∀ pc i j, am_fet 233 pc = some (i, j) → am_okR 233 pc i j = true := am_okOf 231 (fun pc i j h => am_gd_some (show am_f233 pc = some (i, j) from h)) (by decide +kernel)
theorem am_k234 : ∀ pc i j, am_fet 234 pc = some (i, j) → am_okR 234 pc i j = true := am_okOf 65 (fun pc i j h => am_gd_some (show am_f234 pc = some (i, j) from h)) (by decide +kernel)
theorem am_k235 : ∀ pc i j, am_fet 235 pc = some (i, j) → am_okR 235 pc i j = true := am_okOf 53 (fun pc i j h => am_gd_some (show am_f235 pc = some (i, j) from h)) (by decide +kernel)
theorem am_k236 : ∀ pc i j, am_fet 236 pc = some (i, j) → am_okR 236 pc i j = true := am_okOf 37 (fun pc i j h => am_gd_some (show am_f236 pc = some (i, j) from h)) (by decide +kernel)
theorem am_k237 : ∀ pc i j, am_fet 237 pc = some (i, j) → am_okR 237 pc i j = true := am_okOf 113 (fun pc i j h => am_gd_some (show am_f237 pc = some (i, j) from h)) (by decide +kernel)
theorem am_k238 : ∀ pc i j, am_fet 238 pc = some (i, j) → am_okR 238 pc i j = true := am_okOf 60 (fun pc i j h => am_gd_some (show am_f238 pc = some (i, j) from h)) (by decide +kernel)
theorem am_k239 : ∀ pc i j, am_fet 239 pc = some (i, j) → am_okR 239 pc i j = true := am_okOf 128 (fun pc i j h => am_gd_some (show am_f239 pc = some (i, j) from h)) (by decide +kernel)
theorem am_k240 : ∀ pc i j, am_fet 240 pc = some (i, j) → am_okR 240 pc i j = true := am_okOf 119 (fun pc i j h => am_gd_some (show am_f240 pc = some (i, j) from h)) (by decide +kernel)
theorem am_k241 : ∀ pc i j, am_fet 241 pc = some (i, j) → am_okR 241 pc i j = true := am_okOf 80 (fun pc i j h => am_gd_some (show am_f241 pc = some (i, j) from h)) (by decide +kernel)
theorem am_k242 : ∀ pc i j, am_fet 242 pc = some (i, j) → am_okR 242 pc i j = true := am_okOf 144 (fun pc i j h => am_gd_some (show am_f242 pc = some (i, j) from h)) (by decide +kernel)
theorem am_q243_0 : ∀ pc, 0 ≤ pc → pc < 50 → am_okA 243 pc = true := am_okRange (by decide +kernel)
theorem am_q243_1 : ∀ pc, 50 ≤ pc → pc < 100 → am_okA 243 pc = true := am_okRange (by decide +kernel)
theorem am_q243_2 : ∀ pc, 100 ≤ pc → pc < 150 → am_okA 243 pc = true := am_okRange (by decide +kernel)
theorem am_q243_3 : ∀ pc, 150 ≤ pc → pc < 200 → am_okA 243 pc = true := am_okRange (by decide +kernel)
theorem am_q243_4 : ∀ pc, 200 ≤ pc → pc < 250 → am_okA 243 pc = true := am_okRange (by decide +kernel)
theorem am_q243_5 : ∀ pc, 250 ≤ pc → pc < 300 → am_okA 243 pc = true := am_okRange (by decide +kernel)
theorem am_q243_6 : ∀ pc, 300 ≤ pc → pc < 350 → am_okA 243 pc = true := am_okRange (by decide +kernel)
theorem am_q243_7 : ∀ pc, 350 ≤ pc → pc < 400 → am_okA 243 pc = true := am_okRange (by decide +kernel)
theorem am_q243_8 : ∀ pc, 400 ≤ pc → pc < 450 → am_okA 243 pc = true := am_okRange (by decide +kernel)
theorem am_q243_9 : ∀ pc, 450 ≤ pc → pc < 500 → am_okA 243 pc = true := am_okRange (by decide +kernel)
theorem am_q243_10 : ∀ pc, 500 ≤ pc → pc < 550 → am_okA 243 pc = true := am_okRange (by decide +kernel)
theorem am_q243_11 : ∀ pc, 550 ≤ pc → pc < 600 → am_okA 243 pc = true := am_okRange (by decide +kernel)
theorem am_q243_12 : ∀ pc, 600 ≤ pc → pc < 650 → am_okA 243 pc = true := am_okRange (by decide +kernel)
theorem am_q243_13 : ∀ pc, 650 ≤ pc → pc < 700 → am_okA 243 pc = true := am_okRange (by decide +kernel)
theorem am_q243_14 : ∀ pc, 700 ≤ pc → pc < 750 → am_okA 243 pc = true := am_okRange (by decide +kernel)
theorem am_q243_15 : ∀ pc, 750 ≤ pc → pc < 800 → am_okA 243 pc = true := am_okRange (by decide +kernel)
theorem am_q243_16 : ∀ pc, 800 ≤ pc → pc < 850 → am_okA 243 pc = true := am_okRange (by decide +kernel)
theorem am_q243_17 : ∀ pc, 850 ≤ pc → pc < 900 → am_okA 243 pc = true := am_okRange (by decide +kernel)
theorem am_q243_18 : ∀ pc, 900 ≤ pc → pc < 950 → am_okA 243 pc = true := am_okRange (by decide +kernel)
theorem am_q243_19 : ∀ pc, 950 ≤ pc → pc < 1000 → am_okA 243 pc = true := am_okRange (by decide +kernel)
theorem am_q243_20 : ∀ pc, 1000 ≤ pc → pc < 1050 → am_okA 243 pc = true := am_okRange (by decide +kernel)
theorem am_q243_21 : ∀ pc, 1050 ≤ pc → pc < 1100 → am_okA 243 pc = true := am_okRange (by decide +kernel)
theorem am_q243_22 : ∀ pc, 1100 ≤ pc → pc < 1150 → am_okA 243 pc = true := am_okRange (by decide +kernel)
theorem am_q243_23 : ∀ pc, 1150 ≤ pc → pc < 1200 → am_okA 243 pc = true := am_okRange (by decide +kernel)
theorem am_q243_24 : ∀ pc, 1200 ≤ pc → pc < 1250 → am_okA 243 pc = true := am_okRange (by decide +kernel)
theorem am_q243_25 : ∀ pc, 1250 ≤ pc → pc < 1300 → am_okA 243 pc = true := am_okRange (by decide +kernel)
theorem am_q243_26 : ∀ pc, 1300 ≤ pc → pc < 1350 → am_okA 243 pc = true := am_okRange (by decide +kernel)
theorem am_q243_27 : ∀ pc, 1350 ≤ pc → pc < 1400 → am_okA 243 pc = true := am_okRange (by decide +kernel)
theorem am_q243_28 : ∀ pc, 1400 ≤ pc → pc < 1450 → am_okA 243 pc = true := am_okRange (by decide +kernel)
theorem am_q243_29 : ∀ pc, 1450 ≤ pc → pc < 1500 → am_okA 243 pc = true := am_okRange (by decide +kernel)
theorem am_q243_30 : ∀ pc, 1500 ≤ pc → pc < 1550 → am_okA 243 pc = true := am_okRange (by decide +kernel)
theorem am_q243_31 : ∀ pc, 1550 ≤ pc → pc < 1600 → am_okA 243 pc = true := am_okRange (by decide +kernel)
theorem am_q243_32 : ∀ pc, 1600 ≤ pc → pc < 1650 → am_okA 243 pc = true := am_okRange (by decide +kernel)
theorem am_q243_33 : ∀ pc, 1650 ≤ pc → pc < 1700 → am_okA 243 pc = true := am_okRange (by decide +kernel)
theorem am_q243_34 : ∀ pc, 1700 ≤ pc → pc < 1733 → am_okA 243 pc = true := am_okRange (by decide +kernel)
theorem am_q243 (pc : Nat) (h : pc < 1733) : am_okA 243 pc = true := by
  rcases Nat.lt_or_ge pc 50 with q0 | q0
  · exact am_q243_0 pc (by omega) q0
  rcases Nat.lt_or_ge pc 100 with q1 | q1
  · exact am_q243_1 pc (by omega) q1
  rcases Nat.lt_or_ge pc 150 with q2 | q2
  · exact am_q243_2 pc (by omega) q2
  rcases Nat.lt_or_ge pc 200 with q3 | q3
  · exact am_q243_3 pc (by omega) q3
  rcases Nat.lt_or_ge pc 250 with q4 | q4
  · exact am_q243_4 pc (by omega) q4
  rcases Nat.lt_or_ge pc 300 with q5 | q5
  · exact am_q243_5 pc (by omega) q5
  rcases Nat.lt_or_ge pc 350 with q6 | q6
  · exact am_q243_6 pc (by omega) q6
  rcases Nat.lt_or_ge pc 400 with q7 | q7
  · exact am_q243_7 pc (by omega) q7
  rcases Nat.lt_or_ge pc 450 with q8 | q8
  · exact am_q243_8 pc (by omega) q8
  rcases Nat.lt_or_ge pc 500 with q9 | q9
  · exact am_q243_9 pc (by omega) q9
  rcases Nat.lt_or_ge pc 550 with q10 | q10
  · exact am_q243_10 pc (by omega) q10
  rcases Nat.lt_or_ge pc 600 with q11 | q11
  · exact am_q243_11 pc (by omega) q11
  rcases Nat.lt_or_ge pc 650 with q12 | q12
  · exact am_q243_12 pc (by omega) q12
  rcases Nat.lt_or_ge pc 700 with q13 | q13
  · exact am_q243_13 pc (by omega) q13
  rcases Nat.lt_or_ge pc 750 with q14 | q14
  · exact am_q243_14 pc (by omega) q14
  rcases Nat.lt_or_ge pc 800 with q15 | q15
  · exact am_q243_15 pc (by omega) q15
  rcases Nat.lt_or_ge pc 850 with q16 | q16
  · exact am_q243_16 pc (by omega) q16
  rcases Nat.lt_or_ge pc 900 with q17 | q17
  · exact am_q243_17 pc (by omega) q17
  rcases Nat.lt_or_ge pc 950 with q18 | q18
  · exact am_q243_18 pc (by omega) q18
  rcases Nat.lt_or_ge pc 1000 with q19 | q19
  · exact am_q243_19 pc (by omega) q19
  rcases Nat.lt_or_ge pc 1050 with q20 | q20
  · exact am_q243_20 pc (by omega) q20
  rcases Nat.lt_or_ge pc 1100 with q21 | q21
  · exact am_q243_21 pc (by omega) q21
  rcases Nat.lt_or_ge pc 1150 with q22 | q22
  · exact am_q243_22 pc (by omega) q22
  rcases Nat.lt_or_ge pc 1200 with q23 | q23
  · exact am_q243_23 pc (by omega) q23
  rcases Nat.lt_or_ge pc 1250 with q24 | q24
  · exact am_q243_24 pc (by omega) q24
  rcases Nat.lt_or_ge pc 1300 with q25 | q25
  · exact am_q243_25 pc (by omega) q25
  rcases Nat.lt_or_ge pc 1350 with q26 | q26
  · exact am_q243_26 pc (by omega) q26
  rcases Nat.lt_or_ge pc 1400 with q27 | q27
  · exact am_q243_27 pc (by omega) q27
  rcases Nat.lt_or_ge pc 1450 with q28 | q28
  · exact am_q243_28 pc (by omega) q28
  rcases Nat.lt_or_ge pc 1500 with q29 | q29
  · exact am_q243_29 pc (by omega) q29
  rcases Nat.lt_or_ge pc 1550 with q30 | q30
  · exact am_q243_30 pc (by omega) q30
  rcases Nat.lt_or_ge pc 1600 with q31 | q31
  · exact am_q243_31 pc (by omega) q31
  rcases Nat.lt_or_ge pc 1650 with q32 | q32
  · exact am_q243_32 pc (by omega) q32
  rcases Nat.lt_or_ge pc 1700 with q33 | q33
  · exact am_q243_33 pc (by omega) q33
  exact am_q243_34 pc (by omega) h
theorem am_k243 : ∀ pc i j, am_fet 243 pc = some (i, j) → am_okR 243 pc i j = true := am_okOf2 1733 (fun pc i j h => am_gd_some (show am_f243 pc = some (i, j) from h)) am_q243
theorem am_kg0 (m : Nat) (h1 : 0 ≤ m) (h2 : m < 8) : am_okP m := by
  rcases (show m = 0 ∨ m = 1 ∨ m = 2 ∨ m = 3 ∨ m = 4 ∨ m = 5 ∨ m = 6 ∨ m = 7 by omega) with rfl | rfl | rfl | rfl | rfl | rfl | rfl | rfl
  · exact am_k0
  · exact am_k1
  · exact am_k2
  · exact am_k3
  · exact am_k4
  · exact am_k5
  · exact am_k6
  · exact am_k7
theorem am_kg1 (m : Nat) (h1 : 8 ≤ m) (h2 : m < 16) : am_okP m := by
  rcases (show m = 8 ∨ m = 9 ∨ m = 10 ∨ m = 11 ∨ m = 12 ∨ m = 13 ∨ m = 14 ∨ m = 15 by omega) with rfl | rfl | rfl | rfl | rfl | rfl | rfl | rfl
  · exact am_k8
  · exact am_k9
  · exact am_k10
  · exact am_k11
  · exact am_k12
  · exact am_k13
  · exact am_k14
  · exact am_k15
theorem am_kg2 (m : Nat) (h1 : 16 ≤ m) (h2 : m < 24) : am_okP m := by
  rcases (show m = 16 ∨ m = 17 ∨ m = 18 ∨ m = 19 ∨ m = 20 ∨ m = 21 ∨ m = 22 ∨ m = 23 by omega) with rfl | rfl | rfl | rfl | rfl | rfl | rfl | rfl
  · exact am_k16
  · exact am_k17
  · exact am_k18
  · exact am_k19
  · exact am_k20
  · exact am_k21
  · exact am_k22
  · exact am_k23
theorem am_kg3 (m : Nat) (h1 : 24 ≤ m) (h2 : m < 32) : am_okP m := by
  rcases (show m = 24 ∨ m = 25 ∨ m = 26 ∨ m = 27 ∨ m = 28 ∨ m = 29 ∨ m = 30 ∨ m = 31 by omega) with rfl | rfl | rfl | rfl | rfl | rfl | rfl | rfl
  · exact am_k24
  · exact am_k25
  · exact am_k26
  · exact am_k27
  · exact am_k28
  · exact am_k29
  · exact am_k30
  · exact am_k31
theorem am_kg4 (m : Nat) (h1 : 32 ≤ m) (h2 : m < 40) : am_okP m := by
  rcases (show m = 32 ∨ m = 33 ∨ m = 34 ∨ m = 35 ∨ m = 36 ∨ m = 37 ∨ m = 38 ∨ m = 39 by omega) with rfl | rfl | rfl | rfl | rfl | rfl | rfl | rfl
  · exact am_k32
  · exact am_k33
  · exact am_k34
  · exact am_k35
  · exact am_k36
  · exact am_k37
  · exact am_k38
  · exact am_k39
theorem am_kg5 (m : Nat) (h1 : 40 ≤ m) (h2 : m < 48) : am_okP m := by
  rcases (show m = 40 ∨ m = 41 ∨ m = 42 ∨ m = 43 ∨ m = 44 ∨ m = 45 ∨ m = 46 ∨ m = 47 by omega) with rfl | rfl | rfl | rfl | rfl | rfl | rfl | rfl
  · exact am_k40
  · exact am_k41
  · exact am_k42
  · exact am_k43
  · exact am_k44
  · exact am_k45
  · exact am_k46
  · exact am_k47
theorem am_kg6 (m : Nat) (h1 : 48 ≤ m) (h2 : m < 56) : am_okP m := by
  rcases (show m = 48 ∨ m = 49 ∨ m = 50 ∨ m = 51 ∨ m = 52 ∨ m = 53 ∨ m = 54 ∨ m = 55 by omega) with rfl | rfl | rfl | rfl | rfl | rfl | rfl | rfl
  · exact am_k48
  · exact am_k49
  · exact am_k50
  · exact am_k51
  · exact am_k52
  · exact am_k53
  · exact am_k54
  · exact am_k55
theorem am_kg7 (m : Nat) (h1 : 56 ≤ m) (h2 : m < 64) : am_okP m := by
  rcases (show m = 56 ∨ m = 57 ∨ m = 58 ∨ m = 59 ∨ m = 60 ∨ m = 61 ∨ m = 62 ∨ m = 63 by omega) with rfl | rfl | rfl | rfl | rfl | rfl | rfl | rfl
  · exact am_k56
  · exact am_k57
  · exact am_k58
  · exact am_k59
  · exact am_k60
  · exact am_k61
  · exact am_k62
  · exact am_k63
theorem am_kg8 (m : Nat) (h1 : 64 ≤ m) (h2 : m < 72) : am_okP m := by
  rcases (show m = 64 ∨ m = 65 ∨ m = 66 ∨ m = 67 ∨ m = 68 ∨ m = 69 ∨ m = 70 ∨ m = 71 by omega) with rfl | rfl | rfl | rfl | rfl | rfl | rfl | rfl
  · exact am_k64
  · exact am_k65
  · exact am_k66
  · exact am_k67
  · exact am_k68
  · exact am_k69
  · exact am_k70
  · exact am_k71
theorem am_kg9 (m : Nat) (h1 : 72 ≤ m) (h2 : m < 80) : am_okP m := by
  rcases (show m = 72 ∨ m = 73 ∨ m = 74 ∨ m = 75 ∨ m = 76 ∨ m = 77 ∨ m = 78 ∨ m = 79 by omega) with rfl | rfl | rfl | rfl | rfl | rfl | rfl | rfl
  · exact am_k72
  · exact am_k73
  · exact am_k74
  · exact am_k75
  · exact am_k76
  · exact am_k77
  · exact am_k78
  · exact am_k79
theorem am_kg10 (m : Nat) (h1 : 80 ≤ m) (h2 : m < 88) : am_okP m := by
  rcases (show m = 80 ∨ m = 81 ∨ m = 82 ∨ m = 83 ∨ m = 84 ∨ m = 85 ∨ m = 86 ∨ m = 87 by omega) with rfl | rfl | rfl | rfl | rfl | rfl | rfl | rfl
  · exact am_k80
  · exact am_k81
  · exact am_k82
  · exact am_k83
  · exact am_k84
  · exact am_k85
  · exact am_k86
  · exact am_k87
theorem am_kg11 (m : Nat) (h1 : 88 ≤ m) (h2 : m < 96) : am_okP m := by
  rcases (show m = 88 ∨ m = 89 ∨ m = 90 ∨ m = 91 ∨ m = 92 ∨ m = 93 ∨ m = 94 ∨ m = 95 by omega) with rfl | rfl | rfl | rfl | rfl | rfl | rfl | rfl
  · exact am_k88
  · exact am_k89
  · exact am_k90
  · exact am_k91
  · exact am_k92
  · exact am_k93
  · exact am_k94
  · exact am_k95
theorem am_kg12 (m : Nat) (h1 : 96 ≤ m) (h2 : m < 104) : am_okP m := by
  rcases (show m = 96 ∨ m = 97 ∨ m = 98 ∨ m = 99 ∨ m = 100 ∨ m = 101 ∨ m = 102 ∨ m = 103 by omega) with rfl | rfl | rfl | rfl | rfl | rfl | rfl | rfl
  · exact am_k96
  · exact am_k97
  · exact am_k98
  · exact am_k99
  · exact am_k100
  · exact am_k101
  · exact am_k102
  · exact am_k103
theorem am_kg13 (m : Nat) (h1 : 104 ≤ m) (h2 : m < 112) : am_okP m := by
  rcases (show m = 104 ∨ m = 105 ∨ m = 106 ∨ m = 107 ∨ m = 108 ∨ m = 109 ∨ m = 110 ∨ m = 111 by omega) with rfl | rfl | rfl | rfl | rfl | rfl | rfl | rfl
  · exact am_k104
  · exact am_k105
  · exact am_k106
  · exact am_k107
  · exact am_k108
  · exact am_k109
  · exact am_k110
  · exact am_k111
theorem am_kg14 (m : Nat) (h1 : 112 ≤ m) (h2 : m < 120) : am_okP m := by
  rcases (show m = 112 ∨ m = 113 ∨ m = 114 ∨ m = 115 ∨ m = 116 ∨ m = 117 ∨ m = 118 ∨ m = 119 by omega) with rfl | rfl | rfl | rfl | rfl | rfl | rfl | rfl
  · exact am_k112
  · exact am_k113
  · exact am_k114
  · exact am_k115
  · exact am_k116
  · exact am_k117
  · exact am_k118
  · exact am_k119
theorem am_kg15 (m : Nat) (h1 : 120 ≤ m) (h2 : m < 128) : am_okP m := by
  rcases (show m = 120 ∨ m = 121 ∨ m = 122 ∨ m = 123 ∨ m = 124 ∨ m = 125 ∨ m = 126 ∨ m = 127 by omega) with rfl | rfl | rfl | rfl | rfl | rfl | rfl | rfl
  · exact am_k120
  · exact am_k121
  · exact am_k122
  · exact am_k123
  · exact am_k124
  · exact am_k125
  · exact am_k126
  · exact am_k127
theorem am_kg16 (m : Nat) (h1 : 128 ≤ m) (h2 : m < 136) : am_okP m := by
  rcases (show m = 128 ∨ m = 129 ∨ m = 130 ∨ m = 131 ∨ m = 132 ∨ m = 133 ∨ m = 134 ∨ m = 135 by omega) with rfl | rfl | rfl | rfl | rfl | rfl | rfl | rfl
  · exact am_k128
  · exact am_k129
  · exact am_k130
  · exact am_k131
  · exact am_k132
  · exact am_k133
  · exact am_k134
  · exact am_k135
theorem am_kg17 (m : Nat) (h1 : 136 ≤ m) (h2 : m < 144) : am_okP m := by
  rcases (show m = 136 ∨ m = 137 ∨ m = 138 ∨ m = 139 ∨ m = 140 ∨ m = 141 ∨ m = 142 ∨ m = 143 by omega) with rfl | rfl | rfl | rfl | rfl | rfl | rfl | rfl
  · exact am_k136
  · exact am_k137
  · exact am_k138
  · exact am_k139
  · exact am_k140
  · exact am_k141
  · exact am_k142
  · exact am_k143
theorem am_kg18 (m : Nat) (h1 : 144 ≤ m) (h2 : m < 152) : am_okP m := by
  rcases (show m = 144 ∨ m = 145 ∨ m = 146 ∨ m = 147 ∨ m = 148 ∨ m = 149 ∨ m = 150 ∨ m = 151 by omega) with rfl | rfl | rfl | rfl | rfl | rfl | rfl | rfl
  · exact am_k144
  · exact am_k145
  · exact am_k146
  · exact am_k147
  · exact am_k148
  · exact am_k149
  · exact am_k150
  · exact am_k151
theorem am_kg19 (m : Nat) (h1 : 152 ≤ m) (h2 : m < 160) : am_okP m := by
  rcases (show m = 152 ∨ m = 153 ∨ m = 154 ∨ m = 155 ∨ m = 156 ∨ m = 157 ∨ m = 158 ∨ m = 159 by omega) with rfl | rfl | rfl | rfl | rfl | rfl | rfl | rfl
  · exact am_k152
  · exact am_k153
  · exact am_k154
  · exact am_k155
  · exact am_k156
  · exact am_k157
  · exact am_k158
  · exact am_k159
theorem am_kg20 (m : Nat) (h1 : 160 ≤ m) (h2 : m < 168) : am_okP m := by
  rcases (show m = 160 ∨ m = 161 ∨ m = 162 ∨ m = 163 ∨ m = 164 ∨ m = 165 ∨ m = 166 ∨ m = 167 by omega) with rfl | rfl | rfl | rfl | rfl | rfl | rfl | rfl
  · exact am_k160
  · exact am_k161
  · exact am_k162
  · exact am_k163
  · exact am_k164
  · exact am_k165
  · exact am_k166
  · exact am_k167
theorem am_kg21 (m : Nat) (h1 : 168 ≤ m) (h2 : m < 176) : am_okP m := by
  rcases (show m = 168 ∨ m = 169 ∨ m = 170 ∨ m = 171 ∨ m = 172 ∨ m = 173 ∨ m = 174 ∨ m = 175 by omega) with rfl | rfl | rfl | rfl | rfl | rfl | rfl | rfl
  · exact am_k168
  · exact am_k169
  · exact am_k170
  · exact am_k171
  · exact am_k172
  · exact am_k173
  · exact am_k174
  · exact am_k175
theorem am_kg22 (m : Nat) (h1 : 176 ≤ m) (h2 : m < 184) : am_okP m := by
  rcases (show m = 176 ∨ m = 177 ∨ m = 178 ∨ m = 179 ∨ m = 180 ∨ m = 181 ∨ m = 182 ∨ m = 183 by omega) with rfl | rfl | rfl | rfl | rfl | rfl | rfl | rfl
  · exact am_k176
  · exact am_k177
  · exact am_k178
  · exact am_k179
  · exact am_k180
  · exact am_k181
  · exact am_k182
  · exact am_k183
theorem am_kg23 (m : Nat) (h1 : 184 ≤ m) (h2 : m < 192) : am_okP m := by
  rcases (show m = 184 ∨ m = 185 ∨ m = 186 ∨ m = 187 ∨ m = 188 ∨ m = 189 ∨ m = 190 ∨ m = 191 by omega) with rfl | rfl | rfl | rfl | rfl | rfl | rfl | rfl
  · exact am_k184
  · exact am_k185
  · exact am_k186
  · exact am_k187
  · exact am_k188
  · exact am_k189
  · exact am_k190
  · exact am_k191
theorem am_kg24 (m : Nat) (h1 : 192 ≤ m) (h2 : m < 200) : am_okP m := by
  rcases (show m = 192 ∨ m = 193 ∨ m = 194 ∨ m = 195 ∨ m = 196 ∨ m = 197 ∨ m = 198 ∨ m = 199 by omega) with rfl | rfl | rfl | rfl | rfl | rfl | rfl | rfl
  · exact am_k192
  · exact am_k193
  · exact am_k194
  · exact am_k195
  · exact am_k196
  · exact am_k197
  · exact am_k198
  · exact am_k199
theorem am_kg25 (m : Nat) (h1 : 200 ≤ m) (h2 : m < 208) : am_okP m := by
  rcases (show m = 200 ∨ m = 201 ∨ m = 202 ∨ m = 203 ∨ m = 204 ∨ m = 205 ∨ m = 206 ∨ m = 207 by omega) with rfl | rfl | rfl | rfl | rfl | rfl | rfl | rfl
  · exact am_k200
  · exact am_k201
  · exact am_k202
  · exact am_k203
  · exact am_k204
  · exact am_k205
  · exact am_k206
  · exact am_k207
theorem am_kg26 (m : Nat) (h1 : 208 ≤ m) (h2 : m < 216) : am_okP m := by
  rcases (show m = 208 ∨ m = 209 ∨ m = 210 ∨ m = 211 ∨ m = 212 ∨ m = 213 ∨ m = 214 ∨ m = 215 by omega) with rfl | rfl | rfl | rfl | rfl | rfl | rfl | rfl
  · exact am_k208
  · exact am_k209
  · exact am_k210
  · exact am_k211
  · exact am_k212
  · exact am_k213
  · exact am_k214
  · exact am_k215
theorem am_kg27 (m : Nat) (h1 : 216 ≤ m) (h2 : m < 224) : am_okP m := by
  rcases (show m = 216 ∨ m = 217 ∨ m = 218 ∨ m = 219 ∨ m = 220 ∨ m = 221 ∨ m = 222 ∨ m = 223 by omega) with rfl | rfl | rfl | rfl | rfl | rfl | rfl | rfl
  · exact am_k216
  · exact am_k217
  · exact am_k218
  · exact am_k219
  · exact am_k220
  · exact am_k221
  · exact am_k222
  · exact am_k223
theorem am_kg28 (m : Nat) (h1 : 224 ≤ m) (h2 : m < 232) : am_okP m := by
  rcases (show m = 224 ∨ m = 225 ∨ m = 226 ∨ m = 227 ∨ m = 228 ∨ m = 229 ∨ m = 230 ∨ m = 231 by omega) with rfl | rfl | rfl | rfl | rfl | rfl | rfl | rfl
  · exact am_k224
  · exact am_k225
  · exact am_k226
  · exact am_k227
  · exact am_k228
  · exact am_k229
  · exact am_k230
  · exact am_k231
theorem am_kg29 (m : Nat) (h1 : 232 ≤ m) (h2 : m < 240) : am_okP m := by
  rcases (show m = 232 ∨ m = 233 ∨ m = 234 ∨ m = 235 ∨ m = 236 ∨ m = 237 ∨ m = 238 ∨ m = 239 by omega) with rfl | rfl | rfl | rfl | rfl | rfl | rfl | rfl
  · exact am_k232
  · exact am_k233
  · exact am_k234
  · exact am_k235
  · exact am_k236
  · exact am_k237
  · exact am_k238
  · exact am_k239
theorem am_kg30 (m : Nat) (h1 : 240 ≤ m) (h2 : m < 244) : am_okP m := by
  rcases (show m = 240 ∨ m = 241 ∨ m = 242 ∨ m = 243 by omega) with rfl | rfl | rfl | rfl
  · exact am_k240
  · exact am_k241
  · exact am_k242
  · exact am_k243
theorem am_okAll (m pc : Nat) (i : Instr) (j : Nat) (h : am_fet m pc = some (i, j)) : am_okR m pc i j = true := by
  have hm : m < 244 := by
    rcases Nat.lt_or_ge m 244 with q | q
    · exact q
    · rw [am_fet, Nat.ble_eq_true_of_le q] at h; cases h
  rcases Nat.lt_or_ge m 8 with q0 | q0
  · exact am_kg0 m (by omega) q0 pc i j h
  rcases Nat.lt_or_ge m 16 with q1 | q1
  · exact am_kg1 m (by omega) q1 pc i j h
  rcases Nat.lt_or_ge m 24 with q2 | q2
  · exact am_kg2 m (by omega) q2 pc i j h
  rcases Nat.lt_or_ge m 32 with q3 | q3
  · exact am_kg3 m (by omega) q3 pc i j h
  rcases Nat.lt_or_ge m 40 with q4 | q4
  · exact am_kg4 m (by omega) q4 pc i j h
  rcases Nat.lt_or_ge m 48 with q5 | q5
  · exact am_kg5 m (by omega) q5 pc i j h
  rcases Nat.lt_or_ge m 56 with q6 | q6
  · exact am_kg6 m (by omega) q6 pc i j h
  rcases Nat.lt_or_ge m 64 with q7 | q7
  · exact am_kg7 m (by omega) q7 pc i j h
  rcases Nat.lt_or_ge m 72 with q8 | q8
  · exact am_kg8 m (by omega) q8 pc i j h
  rcases Nat.lt_or_ge m 80 with q9 | q9
  · exact am_kg9 m (by omega) q9 pc i j h
  rcases Nat.lt_or_ge m 88 with q10 | q10
  · exact am_kg10 m (by omega) q10 pc i j h
  rcases Nat.lt_or_ge m 96 with q11 | q11
  · exact am_kg11 m (by omega) q11 pc i j h
  rcases Nat.lt_or_ge m 104 with q12 | q12
  · exact am_kg12 m (by omega) q12 pc i j h
  rcases Nat.lt_or_ge m 112 with q13 | q13
  · exact am_kg13 m (by omega) q13 pc i j h
  rcases Nat.lt_or_ge m 120 with q14 | q14
  · exact am_kg14 m (by omega) q14 pc i j h
  rcases Nat.lt_or_ge m 128 with q15 | q15
  · exact am_kg15 m (by omega) q15 pc i j h
  rcases Nat.lt_or_ge m 136 with q16 | q16
  · exact am_kg16 m (by omega) q16 pc i j h
  rcases Nat.lt_or_ge m 144 with q17 | q17
  · exact am_kg17 m (by omega) q17 pc i j h
  rcases Nat.lt_or_ge m 152 with q18 | q18
  · exact am_kg18 m (by omega) q18 pc i j h
  rcases Nat.lt_or_ge m 160 with q19 | q19
  · exact am_kg19 m (by omega) q19 pc i j h
  rcases Nat.lt_or_ge m 168 with q20 | q20
  · exact am_kg20 m (by omega) q20 pc i j h
  rcases Nat.lt_or_ge m 176 with q21 | q21
  · exact am_kg21 m (by omega) q21 pc i j h
  rcases Nat.lt_or_ge m 184 with q22 | q22
  · exact am_kg22 m (by omega) q22 pc i j h
  rcases Nat.lt_or_ge m 192 with q23 | q23
  · exact am_kg23 m (by omega) q23 pc i j h
  rcases Nat.lt_or_ge m 200 with q24 | q24
  · exact am_kg24 m (by omega) q24 pc i j h
  rcases Nat.lt_or_ge m 208 with q25 | q25
  · exact am_kg25 m (by omega) q25 pc i j h
  rcases Nat.lt_or_ge m 216 with q26 | q26
  · exact am_kg26 m (by omega) q26 pc i j h
  rcases Nat.lt_or_ge m 224 with q27 | q27
  · exact am_kg27 m (by omega) q27 pc i j h
  rcases Nat.lt_or_ge m 232 with q28 | q28
  · exact am_kg28 m (by omega) q28 pc i j h
  rcases Nat.lt_or_ge m 240 with q29 | q29
  · exact am_kg29 m (by omega) q29 pc i j h
  exact am_kg30 m (by omega) hm pc i j h
