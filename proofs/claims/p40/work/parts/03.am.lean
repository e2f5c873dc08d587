/-! THE ABSTRACT MACHINE: a reference is a PLACE (the number of a cell in the order in which cells were made); memory: place, slot, number; shape: kind (0 int, 1 boolean, 2 byte array, 3 + c an object of class c), length, reference slots (0 a number, 1 null, a + 2 the place a). -/
abbrev am_Sh : Type := List (Nat × Nat × List Nat)
abbrev am_Mu : Type := Nat → Nat → Int32
/-- what a method knows of the cells that were there before: nothing; the text; the text and the script -/
abbrev am_Scr : Type := Option (Option (Nat × (Nat → Int32)))
def am_sub : am_Scr → am_Scr
  | none => none
  | some _ => some none
abbrev am_Out : Type := Option Value × am_Sh × am_Mu
abbrev am_K : Type := Nat → Nat → Nat → List Value → List Value → am_Sh → am_Mu → Option am_Out
def am_up (μ : am_Mu) (k i : Nat) (x : Int32) : am_Mu := fun a b => if a = k ∧ b = i then x else μ a b
def am_row (μ : am_Mu) (k : Nat) (f : Nat → Int32) : am_Mu := fun a => if a = k then f else μ a
def am_M0 : Nat × String × String × Nat × Nat × Bool × Option FieldType := (0, "", "", 0, 0, false, none)
def am_ow (m : Nat) : Nat := (am_M.getD m am_M0).1
def am_yq (m : Nat) : MethodName := ⟨am_RC (am_M.getD m am_M0).1, (am_M.getD m am_M0).2.1, (am_M.getD m am_M0).2.2.1⟩
def am_nl (m : Nat) : Nat := (am_M.getD m am_M0).2.2.2.1
def am_na (m : Nat) : Nat := (am_M.getD m am_M0).2.2.2.2.1
def am_st (m : Nat) : Bool := (am_M.getD m am_M0).2.2.2.2.2.1
def am_rt (m : Nat) : Option FieldType := (am_M.getD m am_M0).2.2.2.2.2.2
def am_at (p : Nat) : Option Cond := bif Nat.blt p 1000 then (k2_sels lw_privs)[p]? else
  bif Nat.blt p 2000 then tables_1_1[p - 1000]? else
  bif Nat.blt p 3000 then tables_1_2[p - 2000]? else
  bif Nat.blt p 4000 then tables_1_3[p - 3000]? else
  bif Nat.blt p 5000 then tables_1_4[p - 4000]? else
  none
theorem am_cond {b : Bool} {x y : Option Cond} {w : Cond} (h : (bif b then x else y) = some w) : x = some w ∨ y = some w := by
  cases b
  · exact Or.inr h
  · exact Or.inl h
theorem am_at_mem {p : Nat} {w : Cond} (h : am_at p = some w) : w ∈ lw_tbl := by
  have hl : ∀ (l : List Cond) (k : Nat), l[k]? = some w → w ∈ l := fun l k e => List.mem_of_getElem? e
  unfold lw_tbl tables_1
  simp only [List.mem_append]
  unfold am_at at h
  rcases am_cond h with h | h
  · exact Or.inl (hl _ _ h)
  rcases am_cond h with h | h
  · exact Or.inr (Or.inl (hl _ _ h))
  rcases am_cond h with h | h
  · exact Or.inr (Or.inr (Or.inl (hl _ _ h)))
  rcases am_cond h with h | h
  · exact Or.inr (Or.inr (Or.inr (Or.inl (hl _ _ h))))
  rcases am_cond h with h | h
  · exact Or.inr (Or.inr (Or.inr (Or.inr (hl _ _ h))))
  cases h
def am_codeAt : Option Cond → ByteArray
  | some (.code _ b _ _) => b
  | _ => code
def am_cod (m : Nat) : ByteArray := am_codeAt (am_at (am_MP.getD m (0, 0, 0)).1)
/-- the words that any method may take along -/
def am_tbl : List Cond := lw_tbl.filter goodWord
def am_in (k : Nat) (w : Cond) : Bool := decide (am_at k = some w) && goodWord w
def am_inN (k : Nat) (w : Cond) : Bool := decide (am_at k = some w)
theorem am_in_mem {k : Nat} {w : Cond} (h : am_in k w = true) : w ∈ am_tbl := by
  simp only [am_in, Bool.and_eq_true, decide_eq_true_eq] at h
  exact List.mem_filter.mpr ⟨am_at_mem h.1, h.2⟩
def am_inC (k : Nat) (y : MethodName) (n : Nat) (r : Option FieldType) : Bool := match am_at k with
  | some (.code y' _ n' r') => decide (y' = y) && (Nat.beq n' n && decide (r' = r))
  | _ => false
theorem am_inC_mem {k : Nat} {y : MethodName} {n : Nat} {r : Option FieldType} (h : am_inC k y n r = true) : Cond.code y (am_codeAt (am_at k)) n r ∈ am_tbl := by
  unfold am_inC at h
  split at h
  · next y' b n' r' e =>
    simp only [Bool.and_eq_true, decide_eq_true_eq, Nat.beq_eq] at h
    obtain ⟨rfl, rfl, rfl⟩ := h
    rw [e]
    exact List.mem_filter.mpr ⟨am_at_mem e, rfl⟩
  · cases h
def am_SCR : Nat := 100000
/-- the text, its bytes -/
def am_STR : Nat := 100001
def am_STV : Nat := 100002
def am_txt : List Int32 := [116, 58, 120, 97, 62, 121, 43, 97, 59, 107, 58, 120, 97, 62, 121, 43, 97, 44, 121, 43, 98, 59, 99, 58, 49, 62, 120, 45, 97]
def am_jc : Nat := 91
def am_inb (i : Int32) (n : Nat) : Bool := !(decide (i < 0) || Nat.ble n i.toNatClampNeg)
/-- a number or a reference -/
def am_ir : Value → Bool
  | .int _ => true
  | .ref _ => true
  | _ => false
/-- no reference to a cell that isn't there yet -/
def am_vk (n : Nat) : Value → Bool
  | .ref a => Nat.blt a n || (Nat.beq a am_SCR || Nat.beq a am_STR)
  | _ => true
def am_ek (n : Nat) (e : Nat × Nat × List Nat) : Bool := e.2.2.all (fun c => Nat.blt c (n + 2))
def am_fre (sh : am_Sh) (L S : List Value) : Bool := Nat.blt sh.length am_SCR && (L.all (am_vk sh.length) && (S.all (am_vk sh.length) && sh.all (am_ek sh.length)))
/-- a place that isn't there yet is forgotten -/
def am_mk (n : Nat) (v : Value) : Value := bif am_vk n v then v else .null
def am_msk (n : Nat) (L : List Value) : List Value := L.map (am_mk n)
def am_push (μ : am_Mu) (n : Nat) : am_Mu := fun a => if a = n then fun _ => 0 else μ a
def am_kd : ArrayType → Option Nat
  | .int => some 0
  | .boolean => some 1
  | .byte => some 2
  | _ => none
def am_nar (kd : Nat) (x : Int32) : Int32 := match kd with
  | 1 => x &&& 1
  | 2 => x.toInt8.toInt32
  | _ => x
/-- a call of the claim's own method j: arguments off the stack, the callee from its first instruction, then on -/
def am_call (K0 K : am_K) (d m pc j : Nat) (L S : List Value) (sh : am_Sh) (μ : am_Mu) : Option am_Out :=
  let na := bif am_st j then am_na j else am_na j + 1
  let As := (S.take na).reverse
  let rest := S.drop na
  bif Nat.ble na S.length && As.all am_ir && rest.all am_ir && Nat.ble rest.length 8 && Nat.ble na (am_nl j) then
    match (bif am_st j then some 0 else match As with
      | .ref b :: _ => (match sh[b]? with
        | some e => bif Nat.beq e.1 (am_ow j + 3) then some 0 else none
        | none => none)
      | _ => none), d with
    | some _, d' + 1 => (match K0 d' j 0 (As ++ List.replicate (am_nl j - na) .null) [] sh μ with
      | some (r, sh', μ') => bif Nat.beq sh'.length sh.length || am_fre sh L rest then K (d' + 1) m (pc + 3) L (r.toList ++ rest) sh' μ' else none
      | none => none)
    | _, _ => none
  else none
def am_static (K0 K : am_K) (d m pc j : Nat) (L S : List Value) (sh : am_Sh) (μ : am_Mu) : Option am_Out :=
  match j with
  | 1001 => (match S, d with
    | .int y :: .int x :: S', _ + 1 => bif S'.all am_ir && Nat.ble S'.length 8 then K d m (pc + 3) L (.int (if x < y then y else x) :: S') sh μ else none
    | _, _ => none)
  | 1002 => (match S, d with
    | .int y :: .int x :: S', _ + 1 => bif S'.all am_ir && Nat.ble S'.length 8 then K d m (pc + 3) L (.int (if y < x then y else x) :: S') sh μ else none
    | _, _ => none)
  | 1003 => (match S, d with
    | .int x :: S', _ + 1 => bif S'.all am_ir && Nat.ble S'.length 8 then K d m (pc + 3) L (.int (if 0 ≤ x then x else 0 - x) :: S') sh μ else none
    | _, _ => none)
  | 1004 => (match S, d with
    | [.int n, .int dp, .ref b, .int sp, .ref a], _ + 1 => (match sh[a]?, sh[b]? with
      | some (0, n0, _), some (0, n1, _) => bif !(decide (sp < 0)) && (!(decide (dp < 0)) && (!(decide (n < 0)) && (Nat.ble (sp.toNatClampNeg + n.toNatClampNeg) n0 && Nat.ble (dp.toNatClampNeg + n.toNatClampNeg) n1))) then K d m (pc + 3) L [] sh (am_row μ b (va_cpy (μ a) (μ b) sp.toNatClampNeg dp.toNatClampNeg n.toNatClampNeg)) else none
      | _, _ => none)
    | _, _ => none)
  | j => am_call K0 K d m pc j L S sh μ
def am_spec (K0 K : am_K) (d m pc j : Nat) (L S : List Value) (sh : am_Sh) (μ : am_Mu) : Option am_Out :=
  match j with
  | 1000 => (match S, d with
    | .ref _ :: S', _ + 1 => bif S'.all am_ir && Nat.ble S'.length 8 then K d m (pc + 3) L S' sh μ else none
    | _, _ => none)
  | j => am_call K0 K d m pc j L S sh μ
def am_virt (scr : am_Scr) (K0 K : am_K) (d m pc j : Nat) (L S : List Value) (sh : am_Sh) (μ : am_Mu) : Option am_Out :=
  match j with
  | 1005 => (match S, d, scr with
    | .ref a :: S', _ + 5, some _ => bif Nat.beq a am_STR && (S'.all am_ir && Nat.ble S'.length 8) then K d m (pc + 3) L (.int 29 :: S') sh μ else none
    | _, _, _ => none)
  | 1006 => (match S, d, scr with
    | .int k :: .ref a :: S', _ + 5, some _ => bif Nat.beq a am_STR && (am_inb k 29 && (S'.all am_ir && Nat.ble S'.length 8)) then K d m (pc + 3) L (.int (am_txt.getD k.toNatClampNeg 0) :: S') sh μ else none
    | _, _, _ => none)
  | j => am_call K0 K d m pc j L S sh μ
def am_pcOf (pc : Nat) (off : Int) : Nat := ((pc : Int) + off).toNat
def am_op (scr : am_Scr) (K0 K : am_K) (d m pc : Nat) (i : Instr) (j : Nat) (L S : List Value) (sh : am_Sh) (μ : am_Mu) : Option am_Out :=
  match i with
  | .iconst v => K d m (pc + 1) L (.int (Int32.ofInt v) :: S) sh μ
  | .bipush v => K d m (pc + 2) L (.int (Int8.ofInt v).toInt32 :: S) sh μ
  | .sipush v => K d m (pc + 3) L (.int (Int16.ofInt v).toInt32 :: S) sh μ
  | .ldc _ => bif Nat.beq j am_STR then (match scr with
      | some _ => K d m (pc + 2) L (.ref am_STR :: S) sh μ
      | none => none)
    else K d m (pc + 2) L (.int (Int32.ofNat j) :: S) sh μ
  | .ldc_w _ => K d m (pc + 3) L (.int (Int32.ofNat j) :: S) sh μ
  | .ldc2_w _ => K d m (pc + 3) L (.long (Int64.ofNat j) :: S) sh μ
  | .iload_n k => (match L[k.val]? with
    | some (.int x) => K d m (pc + 1) L (.int x :: S) sh μ
    | _ => none)
  | .iload k => (match L[k]? with
    | some (.int x) => K d m (pc + 2) L (.int x :: S) sh μ
    | _ => none)
  | .aload_n k => (match L[k.val]? with
    | some (.ref x) => K d m (pc + 1) L (.ref x :: S) sh μ
    | _ => none)
  | .aload k => (match L[k]? with
    | some (.ref x) => K d m (pc + 2) L (.ref x :: S) sh μ
    | _ => none)
  | .istore_n k => (match S with
    | .int x :: S' => bif Nat.blt k.val L.length then K d m (pc + 1) (L.set k.val (.int x)) S' sh μ else none
    | _ => none)
  | .istore k => (match S with
    | .int x :: S' => bif Nat.blt k L.length then K d m (pc + 2) (L.set k (.int x)) S' sh μ else none
    | _ => none)
  | .astore_n k => (match S with
    | .ref x :: S' => bif Nat.blt k.val L.length then K d m (pc + 1) (L.set k.val (.ref x)) S' sh μ else none
    | _ => none)
  | .astore k => (match S with
    | .ref x :: S' => bif Nat.blt k L.length then K d m (pc + 2) (L.set k (.ref x)) S' sh μ else none
    | _ => none)
  | .iinc k v => (match L[k]? with
    | some (.int x) => K d m (pc + 3) (L.set k (.int (x + Int32.ofInt v))) S sh μ
    | _ => none)
  | .iadd => (match S with
    | .int y :: .int x :: S' => K d m (pc + 1) L (.int (x + y) :: S') sh μ
    | _ => none)
  | .isub => (match S with
    | .int y :: .int x :: S' => K d m (pc + 1) L (.int (x - y) :: S') sh μ
    | _ => none)
  | .imul => (match S with
    | .int y :: .int x :: S' => K d m (pc + 1) L (.int (x * y) :: S') sh μ
    | _ => none)
  | .iand => (match S with
    | .int y :: .int x :: S' => K d m (pc + 1) L (.int (x &&& y) :: S') sh μ
    | _ => none)
  | .ior => (match S with
    | .int y :: .int x :: S' => K d m (pc + 1) L (.int (x ||| y) :: S') sh μ
    | _ => none)
  | .ixor => (match S with
    | .int y :: .int x :: S' => K d m (pc + 1) L (.int (x ^^^ y) :: S') sh μ
    | _ => none)
  | .ishl => (match S with
    | .int y :: .int x :: S' => K d m (pc + 1) L (.int (x <<< (y &&& 31)) :: S') sh μ
    | _ => none)
  | .ishr => (match S with
    | .int y :: .int x :: S' => K d m (pc + 1) L (.int (x >>> (y &&& 31)) :: S') sh μ
    | _ => none)
  | .iushr => (match S with
    | .int y :: .int x :: S' => K d m (pc + 1) L (.int (x.toUInt32 >>> (y.toUInt32 &&& Int32.toUInt32 31)).toInt32 :: S') sh μ
    | _ => none)
  | .idiv => (match S with
    | .int y :: .int x :: S' => if y = 0 then none else K d m (pc + 1) L (.int (x / y) :: S') sh μ
    | _ => none)
  | .irem => (match S with
    | .int y :: .int x :: S' => if y = 0 then none else K d m (pc + 1) L (.int (x - x / y * y) :: S') sh μ
    | _ => none)
  | .ineg => (match S with
    | .int x :: S' => K d m (pc + 1) L (.int (-x) :: S') sh μ
    | _ => none)
  | .i2b => (match S with
    | .int x :: S' => K d m (pc + 1) L (.int x.toInt8.toInt32 :: S') sh μ
    | _ => none)
  | .i2l => (match S with
    | .int x :: S' => K d m (pc + 1) L (.long x.toInt64 :: S') sh μ
    | _ => none)
  | .l2i => (match S with
    | .long x :: S' => K d m (pc + 1) L (.int x.toInt32 :: S') sh μ
    | _ => none)
  | .ladd => (match S with
    | .long y :: .long x :: S' => K d m (pc + 1) L (.long (x + y) :: S') sh μ
    | _ => none)
  | .lmul => (match S with
    | .long y :: .long x :: S' => K d m (pc + 1) L (.long (x * y) :: S') sh μ
    | _ => none)
  | .lrem => (match S with
    | .long y :: .long x :: S' => if y = 0 then none else K d m (pc + 1) L (.long (x - x / y * y) :: S') sh μ
    | _ => none)
  | .dup => (match S with
    | v :: S' => bif am_ir v then K d m (pc + 1) L (v :: v :: S') sh μ else none
    | _ => none)
  | .pop => (match S with
    | v :: S' => bif am_ir v then K d m (pc + 1) L S' sh μ else none
    | _ => none)
  | .dup2 => (match S with
    | v :: w :: S' => bif am_ir v && am_ir w then K d m (pc + 1) L (v :: w :: v :: w :: S') sh μ else none
    | _ => none)
  | .goto _ => K d m j L S sh μ
  | .ifCond .eq _ => (match S with
    | .int x :: S' => if x = 0 then K d m j L S' sh μ else K d m (pc + 3) L S' sh μ
    | _ => none)
  | .ifCond .ne _ => (match S with
    | .int x :: S' => if ¬ x = 0 then K d m j L S' sh μ else K d m (pc + 3) L S' sh μ
    | _ => none)
  | .ifCond .lt _ => (match S with
    | .int x :: S' => if x < 0 then K d m j L S' sh μ else K d m (pc + 3) L S' sh μ
    | _ => none)
  | .ifCond .ge _ => (match S with
    | .int x :: S' => if 0 ≤ x then K d m j L S' sh μ else K d m (pc + 3) L S' sh μ
    | _ => none)
  | .ifCond .gt _ => (match S with
    | .int x :: S' => if 0 < x then K d m j L S' sh μ else K d m (pc + 3) L S' sh μ
    | _ => none)
  | .ifCond .le _ => (match S with
    | .int x :: S' => if x ≤ 0 then K d m j L S' sh μ else K d m (pc + 3) L S' sh μ
    | _ => none)
  | .if_icmp .eq _ => (match S with
    | .int y :: .int x :: S' => if x = y then K d m j L S' sh μ else K d m (pc + 3) L S' sh μ
    | _ => none)
  | .if_icmp .ne _ => (match S with
    | .int y :: .int x :: S' => if ¬ x = y then K d m j L S' sh μ else K d m (pc + 3) L S' sh μ
    | _ => none)
  | .if_icmp .lt _ => (match S with
    | .int y :: .int x :: S' => if x < y then K d m j L S' sh μ else K d m (pc + 3) L S' sh μ
    | _ => none)
  | .if_icmp .ge _ => (match S with
    | .int y :: .int x :: S' => if y ≤ x then K d m j L S' sh μ else K d m (pc + 3) L S' sh μ
    | _ => none)
  | .if_icmp .gt _ => (match S with
    | .int y :: .int x :: S' => if y < x then K d m j L S' sh μ else K d m (pc + 3) L S' sh μ
    | _ => none)
  | .if_icmp .le _ => (match S with
    | .int y :: .int x :: S' => if x ≤ y then K d m j L S' sh μ else K d m (pc + 3) L S' sh μ
    | _ => none)
  | .tableswitch dflt lo hi offs => (match S with
    | .int x :: S' => if x.toInt < lo ∨ hi < x.toInt then K d m (am_pcOf pc dflt) L S' sh μ else (match offs[(x.toInt - lo).toNat]? with
      | some off => K d m (am_pcOf pc off) L S' sh μ
      | none => none)
    | _ => none)
  | .lookupswitch dflt ps => (match S with
    | .int x :: S' => bif (ps.toList.zip (ps.toList.drop 1)).all (fun (a, next) => a.1 < next.1) then K d m (am_pcOf pc (Op.lookupswitch.offset ps.toList dflt x.toInt)) L S' sh μ else none
    | _ => none)
  | .getfield _ => (match S with
    | .ref a :: S' => (match sh[a]? with
      | some (kd, _, fs) => bif Nat.beq kd (j / 100 + 3) then (match fs[j % 100]? with
          | some 0 => K d m (pc + 3) L (.int (μ a (j % 100)) :: S') sh μ
          | some 1 => K d m (pc + 3) L (.null :: S') sh μ
          | some (b + 2) => K d m (pc + 3) L (.ref b :: S') sh μ
          | none => none) else none
      | none => none)
    | _ => none)
  | .putfield _ => (match S with
    | .int x :: .ref a :: S' => (match sh[a]? with
      | some (kd, _, fs) => bif Nat.beq kd (j / 100 + 3) then (match fs[j % 100]? with
          | some 0 => K d m (pc + 3) L S' sh (am_up μ a (j % 100) x)
          | _ => none) else none
      | none => none)
    | .ref b :: .ref a :: S' => (match sh[a]? with
      | some (kd, nn, fs) => bif Nat.beq kd (j / 100 + 3) then (match fs[j % 100]? with
          | some (_ + 1) => K d m (pc + 3) L S' (sh.set a (kd, nn, fs.set (j % 100) (b + 2))) μ
          | _ => none) else none
      | none => none)
    | _ => none)
  | .iaload => (match S with
    | .int x :: .ref a :: S' => bif Nat.beq a am_SCR then (match scr with
        | some (some (n, f)) => bif am_inb x n then K d m (pc + 1) L (.int (f x.toNatClampNeg) :: S') sh μ else none
        | _ => none)
      else (match sh[a]? with
        | some (0, n, _) => bif am_inb x n then K d m (pc + 1) L (.int (μ a x.toNatClampNeg) :: S') sh μ else none
        | _ => none)
    | _ => none)
  | .baload => (match S with
    | .int x :: .ref a :: S' => (match sh[a]? with
        | some (1, n, _) => bif am_inb x n then K d m (pc + 1) L (.int (μ a x.toNatClampNeg) :: S') sh μ else none
        | some (2, n, _) => bif am_inb x n then K d m (pc + 1) L (.int (μ a x.toNatClampNeg) :: S') sh μ else none
        | _ => none)
    | _ => none)
  | .iastore => (match S with
    | .int v :: .int x :: .ref a :: S' => (match sh[a]? with
        | some (0, n, _) => bif am_inb x n then K d m (pc + 1) L S' sh (am_up μ a x.toNatClampNeg v) else none
        | _ => none)
    | _ => none)
  | .bastore => (match S with
    | .int v :: .int x :: .ref a :: S' => (match sh[a]? with
        | some (1, n, _) => bif am_inb x n then K d m (pc + 1) L S' sh (am_up μ a x.toNatClampNeg (v &&& 1)) else none
        | some (2, n, _) => bif am_inb x n then K d m (pc + 1) L S' sh (am_up μ a x.toNatClampNeg v.toInt8.toInt32) else none
        | _ => none)
    | _ => none)
  | .arraylength => (match S with
    | .ref a :: S' => bif Nat.beq a am_SCR then (match scr with
        | some (some (n, _)) => K d m (pc + 1) L (.int (Int32.ofNat n) :: S') sh μ
        | _ => none)
      else (match sh[a]? with
        | some (0, n, _) => K d m (pc + 1) L (.int (Int32.ofNat n) :: S') sh μ
        | _ => none)
    | _ => none)
  | .newarray t => (match S, am_kd t with
    | .int n :: S', some kd => bif !(decide (n < 0)) && (Nat.ble n.toNatClampNeg 100000 && am_fre sh [] S') then K d m (pc + 2) (am_msk sh.length L) (.ref sh.length :: S') (sh ++ [(kd, n.toNatClampNeg, [])]) (am_push μ sh.length) else none
    | _, _ => none)
  | .new _ => (match am_fresh[j]? with
    | some fs => bif am_fre sh L S then K d m (pc + 3) L (.ref sh.length :: S) (sh ++ [(j + 3, fs.length, fs)]) (am_push μ sh.length) else none
    | none => none)
  | .invokevirtual _ => am_virt scr K0 K d m pc j L S sh μ
  | .invokestatic _ => bif Nat.beq j am_jc then am_call K K d m pc j L S sh μ else am_static K0 K d m pc j L S sh μ
  | .invokespecial _ => am_spec K0 K d m pc j L S sh μ
  | .ireturn => (match S with
    | [.int x] => (match am_rt m with
      | some .int => some (some (.int x), sh, μ)
      | some .boolean => if x &&& 1 = x then some (some (.int x), sh, μ) else none
      | _ => none)
    | _ => none)
  | .areturn => (match S with
    | [.ref a] => (match am_rt m with
      | some (.object _) => some (some (.ref a), sh, μ)
      | _ => none)
    | _ => none)
  | .return_ => (match S with
    | [] => (match am_rt m with
      | none => some (none, sh, μ)
      | _ => none)
    | _ => none)
  | _ => none
def am_step (scr : am_Scr) (K0 K : am_K) (d m pc : Nat) (L S : List Value) (sh : am_Sh) (μ : am_Mu) : Option am_Out :=
  match am_fet m pc with
  | some (i, j) => am_op scr K0 K d m pc i j L S sh μ
  | none => none
def am_exec : Nat → am_Scr → am_K
  | 0 => fun _ _ _ _ _ _ _ _ => none
  | n + 1 => fun scr d m pc L S sh μ => am_step scr (am_exec n (am_sub scr)) (am_exec n scr) d m pc L S sh μ
/-! what the tables say, checked by number -/
def am_fldC (nest : Bool) (t : Nat × Nat × Nat × Nat) : Cond := match am_cl[t.2.2.1 / 100]? with
  | some c => bif nest then .fieldLinkNest (am_RC t.1) t.2.1 (c.2.1 (t.2.2.1 % 100)).1 (c.2.1 (t.2.2.1 % 100)).2.1 (c.2.1 (t.2.2.1 % 100)).2.2.1 "SealBook" else .fieldLink (am_RC t.1) t.2.1 (c.2.1 (t.2.2.1 % 100)).1 (c.2.1 (t.2.2.1 % 100)).2.1 (c.2.1 (t.2.2.1 % 100)).2.2.1
  | none => .isInt .result
def am_yqM (j : Nat) : MethodName := match j with
  | 1000 => objectInit
  | 1001 => Lib.Math.max.name
  | 1002 => Lib.Math.min.name
  | 1003 => Lib.Math.abs.name
  | 1004 => arraycopyName
  | 1005 => ⟨"java/lang/String", "length", "()I"⟩
  | 1006 => ⟨"java/lang/String", "charAt", "(I)C"⟩
  | j => am_yq j
def am_metC (nest : Bool) (t : Nat × Nat × Nat × Nat) : Cond := bif nest then .methodLinkNest (am_RC t.1) t.2.1 (am_yqM t.2.2.1) "SealBook" else .methodLink (am_RC t.1) t.2.1 (am_yqM t.2.2.1)
def am_clsC (t : Nat × Nat × Nat × Nat) : Cond := .classLink (am_RC t.1) t.2.1 (am_RC t.2.2.1)
def am_atN (l : List (Nat × Nat × Nat × Nat)) (f : Nat × Nat × Nat × Nat → Cond) : Bool := l.all (fun t => am_inN t.2.2.2 (f t))
def am_atL (l : List (Nat × Nat × Nat × Nat)) (f : Nat × Nat × Nat × Nat → Cond) : Bool := l.all (fun t => am_in t.2.2.2 (f t))
set_option maxRecDepth 100000 in
theorem am_lF_ok : am_atL am_lF (am_fldC false) = true := by decide +kernel
set_option maxRecDepth 100000 in
theorem am_lN_ok : am_atN am_lN (am_fldC true) = true := by decide +kernel
set_option maxRecDepth 100000 in
theorem am_lM_ok : am_atL am_lM (am_metC false) = true := by decide +kernel
set_option maxRecDepth 100000 in
theorem am_lMN_ok : am_atN am_lMN (am_metC true) = true := by decide +kernel
set_option maxRecDepth 100000 in
theorem am_lK_ok : am_atL am_lK (fun t => .constant (am_RC t.1) t.2.1 (Int32.ofNat t.2.2.1)) = true := by decide +kernel
set_option maxRecDepth 100000 in
theorem am_lKL_ok : am_atL am_lKL (fun t => .constantLong (am_RC t.1) t.2.1 (Int64.ofNat t.2.2.1)) = true := by decide +kernel
set_option maxRecDepth 100000 in
theorem am_lC_ok : am_atL am_lC am_clsC = true := by decide +kernel
def am_words (j : Nat) : List Cond := .code (am_yq j) (am_cod j) (am_nl j) (am_rt j) :: am_tbl
def am_okM (j : Nat) : Bool := plainName (am_yq j).cls && (am_inC (am_MP.getD j (0, 0, 0)).1 (am_yq j) (am_nl j) (am_rt j) && (am_in (am_MP.getD j (0, 0, 0)).2.1 (bif am_st j then .static (am_yq j) else .instanceMethod (am_yq j)) && ((bif am_st j || (am_yq j).name == "<init>" then true else am_in (am_MP.getD j (0, 0, 0)).2.2 (.selects (am_yq j).cls (am_yq j) (am_yq j))) && (am_in (am_pini.getD (am_ow j) 0) (.initialized (am_yq j).cls) && (!((am_yq j).cls == "java/lang/invoke/MethodHandle") && (!((am_yq j).cls == "java/lang/invoke/VarHandle") && (decide ((parseMethodDescriptor (am_yq j).desc).map (fun d => d.parameters.length) = some (am_na j)) && (!((am_yq j).name == "<init>") || decide (am_rt j = none)))))))))
def am_okMr (a b : Nat) : Bool := (List.range (b - a)).all (fun k => am_okM (a + k))
set_option maxRecDepth 100000 in
theorem am_okM_0 : am_okMr 0 30 = true := by decide +kernel
set_option maxRecDepth 100000 in
theorem am_okM_30 : am_okMr 30 60 = true := by decide +kernel
set_option maxRecDepth 100000 in
theorem am_okM_60 : am_okMr 60 90 = true := by decide +kernel
set_option maxRecDepth 100000 in
theorem am_okM_90 : am_okMr 90 95 = true := by decide +kernel
theorem am_okM_of {a b : Nat} (h : am_okMr a b = true) {j : Nat} (h1 : a ≤ j) (h2 : j < b) : am_okM j = true := by
  have h3 := List.all_eq_true.mp h (j - a) (List.mem_range.mpr (by omega))
  rwa [show a + (j - a) = j by omega] at h3
theorem am_okM_all (j : Nat) (h : j < am_law) : am_okM j = true := by
  have h : j < 95 := h
  rcases Nat.lt_or_ge j 30 with q0 | q0
  · exact am_okM_of am_okM_0 (by omega) q0
  rcases Nat.lt_or_ge j 60 with q30 | q30
  · exact am_okM_of am_okM_30 (by omega) q30
  rcases Nat.lt_or_ge j 90 with q60 | q60
  · exact am_okM_of am_okM_60 (by omega) q60
  exact am_okM_of am_okM_90 (by omega) h
def am_okC (k : Nat) (c : vw_C) : Bool := (List.range c.2.2).all (fun a => am_in ((am_lay.getD k []).getD a 0) (u_lay c.1 c.2.1 a)) && ((List.range c.2.2).all (fun a => (List.range c.2.2).all (fun b => Nat.beq a b || !((c.2.1 a).2.1 == (c.2.1 b).2.1)) && ((parseFieldDescriptor (c.2.1 a).2.2.1).isSome && decide (defaultValue ((parseFieldDescriptor (c.2.1 a).2.2.1).getD .int) = (match (am_fresh.getD k []).getD a 0 with | 0 => .int 0 | _ => .null)))) && (Nat.beq (am_fresh.getD k []).length c.2.2 && (am_in (am_pins.getD k 0) (.instantiable c.1 c.2.2) && (am_in (am_pini.getD k 0) (.initialized c.1) && (decide (am_RC k = c.1) && (am_fresh.getD k []).all (fun x => Nat.ble x 1))))))
set_option maxRecDepth 100000 in
theorem am_okC_all : (List.range am_cl.length).all (fun k => am_okC k (am_cl.getD k ("", fun _ => ("", "", "", false), 0))) = true := by decide +kernel
set_option maxRecDepth 100000 in
theorem am_math : (am_in 3116 (Cond.static Lib.Math.max.name) && (am_in 3113 (Cond.static Lib.Math.min.name) && (am_in 3173 (Cond.static Lib.Math.abs.name) && (am_in 1018 (Cond.initialized "java/lang/Math") && (am_in 4129 (Cond.native arraycopyName) && (am_in 4128 (Cond.static arraycopyName) && (am_in 1017 (Cond.initialized "java/lang/System") && (am_in 1025 (Cond.instanceMethod objectInit) && (am_in 1046 (Cond.arrayClass .int) && (am_in 1193 (Cond.arrayClass .boolean) && am_in 4134 (Cond.arrayClass .byte))))))))))) = true := by decide +kernel
theorem am_mathC : Cond.code Lib.Math.max.name Lib.Math.max.code 2 (some .int) ∈ am_tbl ∧ Cond.code Lib.Math.min.name Lib.Math.min.code 2 (some .int) ∈ am_tbl ∧ Cond.code Lib.Math.abs.name Lib.Math.abs.code 1 (some .int) ∈ am_tbl ∧ Cond.code objectInit ⟨#[0xb1]⟩ 1 none ∈ am_tbl := ⟨am_in_mem (k := 3117) (by decide +kernel), am_in_mem (k := 3114) (by decide +kernel), am_in_mem (k := 3174) (by decide +kernel), am_in_mem (k := 1026) (by decide +kernel)⟩

/-! the text's own methods: their words -/
def jy_LEN : MethodName := ⟨"java/lang/String", "length", "()I"⟩
abbrev jc_LEN : ByteArray := prog_16_method_54_code
theorem jw_LEN : Cond.code jy_LEN jc_LEN 1 (Option.some FieldType.int) ∈ am_tbl := am_in_mem (k := 3222) (by decide +kernel)
theorem jk_LEN : Cond.instanceMethod jy_LEN ∈ am_tbl := am_in_mem (k := 3220) (by decide +kernel)
theorem js_LEN : Cond.selects "java/lang/String" jy_LEN jy_LEN ∈ am_tbl := am_in_mem (k := 3221) (by decide +kernel)
def jy_COD : MethodName := ⟨"java/lang/String", "coder", "()B"⟩
abbrev jc_COD : ByteArray := prog_16_method_152_code
theorem jw_COD : Cond.code jy_COD jc_COD 1 (Option.some FieldType.byte) ∈ am_tbl := am_in_mem (k := 3226) (by decide +kernel)
theorem jk_COD : Cond.instanceMethod jy_COD ∈ am_tbl := am_in_mem (k := 3224) (by decide +kernel)
theorem js_COD : Cond.selects "java/lang/String" jy_COD jy_COD ∈ am_tbl := am_in_mem (k := 3225) (by decide +kernel)
def jy_LAT : MethodName := ⟨"java/lang/String", "isLatin1", "()Z"⟩
abbrev jc_LAT : ByteArray := prog_16_method_154_code
theorem jw_LAT : Cond.code jy_LAT jc_LAT 1 (Option.some FieldType.boolean) ∈ am_tbl := am_in_mem (k := 3236) (by decide +kernel)
theorem jk_LAT : Cond.instanceMethod jy_LAT ∈ am_tbl := am_in_mem (k := 3234) (by decide +kernel)
theorem js_LAT : Cond.selects "java/lang/String" jy_LAT jy_LAT ∈ am_tbl := am_in_mem (k := 3235) (by decide +kernel)
def jy_CHA : MethodName := ⟨"java/lang/String", "charAt", "(I)C"⟩
abbrev jc_CHA : ByteArray := prog_16_method_56_code
theorem jw_CHA : Cond.code jy_CHA jc_CHA 2 (Option.some FieldType.char) ∈ am_tbl := am_in_mem (k := 3232) (by decide +kernel)
theorem jk_CHA : Cond.instanceMethod jy_CHA ∈ am_tbl := am_in_mem (k := 3230) (by decide +kernel)
theorem js_CHA : Cond.selects "java/lang/String" jy_CHA jy_CHA ∈ am_tbl := am_in_mem (k := 3231) (by decide +kernel)
def jy_LCH : MethodName := ⟨"java/lang/StringLatin1", "charAt", "([BI)C"⟩
abbrev jc_LCH : ByteArray := prog_17_method_2_code
theorem jw_LCH : Cond.code jy_LCH jc_LCH 2 (Option.some FieldType.char) ∈ am_tbl := am_in_mem (k := 3239) (by decide +kernel)
theorem jk_LCH : Cond.static jy_LCH ∈ am_tbl := am_in_mem (k := 3238) (by decide +kernel)
def jy_SCI : MethodName := ⟨"java/lang/String", "checkIndex", "(II)V"⟩
abbrev jc_SCI : ByteArray := prog_16_method_155_code
theorem jw_SCI : Cond.code jy_SCI jc_SCI 2 (Option.none : Option FieldType) ∈ am_tbl := am_in_mem (k := 4002) (by decide +kernel)
theorem jk_SCI : Cond.static jy_SCI ∈ am_tbl := am_in_mem (k := 4001) (by decide +kernel)
def jy_PCI : MethodName := ⟨"jdk/internal/util/Preconditions", "checkIndex", "(IILjava/util/function/BiFunction;)I"⟩
abbrev jc_PCI : ByteArray := prog_20_method_11_code
theorem jw_PCI : Cond.code jy_PCI jc_PCI 3 (Option.some FieldType.int) ∈ am_tbl := am_in_mem (k := 4007) (by decide +kernel)
theorem jk_PCI : Cond.static jy_PCI ∈ am_tbl := am_in_mem (k := 4006) (by decide +kernel)
theorem ji_S : Cond.initialized "java/lang/String" ∈ am_tbl := am_in_mem (k := 1013) (by decide +kernel)
theorem ji_L : Cond.initialized "java/lang/StringLatin1" ∈ am_tbl := am_in_mem (k := 1014) (by decide +kernel)
theorem ji_P : Cond.initialized "jdk/internal/util/Preconditions" ∈ am_tbl := am_in_mem (k := 1015) (by decide +kernel)
theorem jl_LEN : Cond.methodLink "SealBookLaw" 8 jy_LEN ∈ am_tbl := am_in_mem (k := 3219) (by decide +kernel)
theorem jl_COD : Cond.methodLink "java/lang/String" 335 jy_COD ∈ am_tbl := am_in_mem (k := 3223) (by decide +kernel)
theorem jf_com : Cond.fieldLink "java/lang/String" 38 "java/lang/String" "COMPACT_STRINGS" "Z" ∈ am_tbl := am_in_mem (k := 3227) (by decide +kernel)
theorem jz_com : Cond.laysStatic "java/lang/String" "COMPACT_STRINGS" "Z" ∈ lw_tbl := am_at_mem (p := 3228) (by decide +kernel)
theorem jl_CHA : Cond.methodLink "SealBookLaw" 14 jy_CHA ∈ am_tbl := am_in_mem (k := 3229) (by decide +kernel)
theorem jl_LAT : Cond.methodLink "java/lang/String" 492 jy_LAT ∈ am_tbl := am_in_mem (k := 3233) (by decide +kernel)
theorem jl_LCH : Cond.methodLink "java/lang/String" 495 jy_LCH ∈ am_tbl := am_in_mem (k := 3237) (by decide +kernel)
theorem jl_SCI : Cond.methodLink "java/lang/StringLatin1" 9 jy_SCI ∈ am_tbl := am_in_mem (k := 4000) (by decide +kernel)
theorem jf_sio : Cond.fieldLink "java/lang/String" 1053 "jdk/internal/util/Preconditions" "SIOOBE_FORMATTER" "Ljava/util/function/BiFunction;" ∈ am_tbl := am_in_mem (k := 4003) (by decide +kernel)
theorem jz_sio : Cond.laysStatic "jdk/internal/util/Preconditions" "SIOOBE_FORMATTER" "Ljava/util/function/BiFunction;" ∈ lw_tbl := am_at_mem (p := 4004) (by decide +kernel)
theorem jl_PCI : Cond.methodLink "java/lang/String" 1059 jy_PCI ∈ am_tbl := am_in_mem (k := 4005) (by decide +kernel)
theorem jr_txt : Cond.stringRef "SealBookLaw" 39 "t:xa>y+a;k:xa>y+a,y+b;c:1>x-a" ∈ lw_tbl := am_at_mem (p := 4133) (by decide +kernel)
theorem jf_val : Cond.fieldLink "java/lang/String" 9 "java/lang/String" "value" "[B" ∈ am_tbl := am_in_mem (k := 4135) (by decide +kernel)
theorem jf_cod : Cond.fieldLink "java/lang/String" 15 "java/lang/String" "coder" "B" ∈ am_tbl := am_in_mem (k := 4136) (by decide +kernel)
