/-! THE TEXT'S OWN METHODS: length and charAt, walked -/
def jx_Q (sz : Nat) (r : Option Value) : Array Value → State → Outcome → State → Prop := fun _ st oc t => oc = .returned r ∧ va_F (fun q => sz ≤ q) st t
def jx_P (q qv sz : Nat) (U : State) : Prop := U.heap.size = sz ∧ am_Tx q qv (fun a => sz ≤ a) U U.heap
theorem jx_blind {q qv sz : Nat} {av : List Value} : FrameBlind (va_Pc av (jx_P q qv sz)) := by
  intro a U g mk h
  obtain ⟨q0, q1, q2⟩ := h
  exact ⟨q0, q1, q2.same (u := U) (U := U.calling g mk a) rfl⟩
def jx_R (cc : ByteArray) (ret : Option FieldType) (pc : Nat) (r : Option Value) : Prop := match r with
  | none => decode cc pc = .ok (.return_, 1) ∧ ret = none
  | some (.int x) => decode cc pc = .ok (.ireturn, 1) ∧ ∃ ty, ret = some ty ∧ narrow ty (.int x) = .int x
  | _ => False
def jx_room (d : Nat) : Room := { frames := d, cells := 0, slots := 0, locals := 40 * d }
def jx_ws (y : MethodName) (cc : ByteArray) (nL : Nat) (ret : Option FieldType) : List Cond := .code y cc nL ret :: am_tbl
abbrev jx_Met (l : Launch) (y : MethodName) (cc : ByteArray) (nL : Nat) (ret : Option FieldType) (d : Nat) (As : List Value) (q qv sz : Nat) (r : Option Value) : Prop := Met l y (jx_ws y cc nL ret) (jx_room d) (va_Pc As (jx_P q qv sz)) (jx_Q sz r) 0 0 (fun a => sz ≤ a)
def jx_Lk (As : List Value) (ls : Array Slot) (nL : Nat) : Prop := As.all (fun v => decide (v.category = 1)) = true ∧ lv_has ls nL (lv_args 0 As)
theorem jx_Lk.get {As : List Value} {ls : Array Slot} {nL i : Nat} {v : Value} (h : jx_Lk As ls nL) (hi : As[i]? = some v) : ls[i]? = some (.val v) := by
  have h1 := am_lvargs h.1 0 i v hi
  rw [Nat.zero_add] at h1
  exact h.2.2.2 (i, v) h1
theorem jx_of {y : MethodName} {cc : ByteArray} {nL : Nat} {ret : Option FieldType} (hp : plainName y.cls = true) (As : List Value) (hAs : As.all (fun v => decide (v.category = 1)) = true) (hn : As.length ≤ nL) {d q qv sz : Nat} {r : Option Value} (l : Launch)
    (hb : ∀ (p : Program) (e : Env) (R : Room) (s : State) (m : MethodId) (below : List Frame) (meth : Method) (c : Code) (Q : State → Prop) (ls : Array Slot), CallFix p m c cc nL s As.toArray am_tbl y.cls → am_Tx q qv (fun a => s.heap.size ≤ a) s s.heap → jx_Lk As ls nL → d ≤ R.frames → 40 * d ≤ R.locals →
      (∀ (H' : Heap) (locs' : List Loc) (ls' : Array Slot) (pc' : Nat), va_S (fun a => s.heap.size ≤ a) s.heap H' locs' → jx_R cc ret pc' r → W p l e R s m As.toArray below meth c H' locs' 0 0 Q (F0 m pc' ls' r.toList)) → W p l e R s m As.toArray below meth c s.heap [] 0 0 Q (F0 m 0 ls [])) : jx_Met l y cc nL ret d As q qv sz r := by
  refine Met.ofW (cc := cc) (maxL := nL) (ret := ret) hp rfl ?_
  intro p e s m args below meth c s₁ B hml hv
  obtain ⟨rfl, hsz, hT⟩ := hv
  have hts := atoms_spec (ws := jx_ws y cc nL ret) B.pre
  have hown : s.vm.findClass y.cls = some m.cls := findClass_of_methodNamed B.named
  have hr := B.returns
  rw [lg_entry_eq]
  subst hsz
  have hl := lv_entry As (n := nL) (by rw [am_lgsl hAs]; exact hn)
  refine hb p e _ s m below meth c _ _ ⟨B.exec, B.bytes, hml, hown, fun w hw => hts w (List.mem_cons_of_mem _ hw)⟩ hT ⟨hAs, hl⟩ (Nat.le_refl _) (Nat.le_refl _) ?_
  intro H' locs' ls' pc' hS' hR
  have hq : ∀ t : State, t.heap = H' → s.WarmedH t.vm → jx_Q s.heap.size r As.toArray s (.returned r) t := fun t ht hw => ⟨rfl, hS'.F ht⟩
  match r, hR with
  | none, hR =>
    rw [hR.2] at hr
    exact W.vret B.exec B.bytes hr hq hS'.2.2 hR.1
  | some (.int x), hR =>
    obtain ⟨hd, ty, h1, h2⟩ := hR
    rw [h1] at hr
    exact W.zret B.exec B.bytes hr h2 hq hS'.2.2 hd
section
variable {p : Program} {l : Launch} {e : Env} {R : Room} {s : State} {m : MethodId} {args : Array Value} {below : List Frame} {meth : Method} {c : Code} {H : Heap} {locs : List Loc} {cells slots : Nat} {Q : State → Prop}
theorem jx_callk {pc : Nat} {ls : Array Slot} {rest st0 : List Value} {a : Array Value} {A0 : Nat → Prop} {H0 : Heap} {r : Option Value} (hr : va_Run p l e R s m args below meth c H locs cells slots 0 0 (F0 m pc ls st0) rest (jx_Q H.size r a) (fun q => H.size ≤ q)) (hS : va_S A0 H0 H locs) (hA : ∀ q, H0.size ≤ q → A0 q)
    (kk : ∀ (H1 : Heap) (locs1 : List Loc), (∀ q, q < H.size → H1[q]? = H[q]?) → va_S A0 H0 H1 locs1 → W p l e R s m args below meth c H1 locs1 cells slots Q (F0 m (pc + 3) ls (r.toList ++ rest))) : W p l e R s m args below meth c H locs cells slots Q (F0 m pc ls st0) := by
  intro T hT X
  obtain ⟨v, st₀, t, T', L, h0, X', hL, e1, e2, ⟨hv, hz, hk⟩, st⟩ := hr T hT X
  have hv2 : v = r := by injection hv
  subst hv2
  rw [h0] at hz hk
  obtain ⟨t2, a1, b1⟩ := kk T'.heap (locs ++ L) (fun q hq => by rw [e1]; exact hk q hq (Nat.not_le.mpr hq))
    ⟨Nat.le_trans hS.1 (by rw [e1]; exact hz), fun q h1 h2 => by rw [e1, hk q (Nat.lt_of_lt_of_le h1 hS.1) (fun z => absurd z (Nat.not_le.mpr (Nat.lt_of_lt_of_le h1 hS.1)))]; exact hS.2.1 q h1 h2, fun q hq => by
      rcases List.mem_append.mp hq with h | h
      · exact hS.2.2 q h
      · exact hA _ (Nat.le_trans hS.1 (hL q h))⟩ T' rfl X'
  exact ⟨t2, st t2 a1, b1⟩
theorem jx_good {y : MethodName} {cc : ByteArray} {nL : Nat} {ret : Option FieldType} (hw : Cond.code y cc nL ret ∈ am_tbl) : GoodIn am_tbl (jx_ws y cc nL ret) := by
  have hall : ∀ w ∈ jx_ws y cc nL ret, w ∈ am_tbl := by
    intro w hw2
    rcases List.mem_cons.mp hw2 with rfl | h
    · exact hw
    · exact h
  exact fun w hw => ⟨hall w hw, good_of_word (List.mem_filter.mp (hall w hw)).2⟩
/-- what the tables say of a method of the library -/
def jx_T (y : MethodName) (cc : ByteArray) (nL : Nat) (ret : Option FieldType) (n : Nat) : Prop := Cond.code y cc nL ret ∈ am_tbl ∧ Cond.initialized y.cls ∈ am_tbl ∧ (y.cls ≠ "java/lang/invoke/MethodHandle" ∧ y.cls ≠ "java/lang/invoke/VarHandle" ∧ (parseMethodDescriptor y.desc).map (fun d => d.parameters.length) = some n)
theorem jx_pc {q qv : Nat} {A0 : Nat → Prop} {H0 : Heap} {As : List Value} (hT : am_Tx q qv A0 s H0) (hS : va_S A0 H0 H locs) (hA : ∀ a, H0.size ≤ a → A0 a) : ∀ U : State, U.heap = H → s.WarmedH U.vm → va_Pc As (jx_P q qv H.size) As.toArray U := by
  intro U hU hW
  have h1 := am_Tx.kept (H1 := H) (fun a h1 h2 => hS.2.1 a h1 h2) hT
  have h2 : am_Tx q qv (fun a => H.size ≤ a) s H := h1.narrow (fun a h => hA a (Nat.le_trans hS.1 h))
  exact ⟨rfl, by rw [hU], by rw [hU]; exact h2.warm hW⟩
theorem jx_V {cc own : _} {nL : Nat} (hF : CallFix p m c cc nL s args am_tbl own) {y : MethodName} {bytes : ByteArray} {maxL n d k pc q qv : Nat} {ret : Option FieldType} {r : Option Value} {As rest : List Value} {ls : Array Slot} {A0 : Nat → Prop} {H0 : Heap} (hM : jx_Met l y bytes maxL ret d (.ref q :: As) q qv H.size r) (hy : jx_T y bytes maxL ret n) (hc : y.cls = "java/lang/String") (hin : Cond.instanceMethod y ∈ am_tbl) (hse : Cond.selects y.cls y y ∈ am_tbl) (hli : Cond.methodLink own k y ∈ am_tbl)
    (hT : am_Tx q qv A0 s H0) (hS : va_S A0 H0 H locs) (hA : ∀ a, H0.size ≤ a → A0 a) (hn : As.length = n) (hls : ls.size = nL) (hrest : (rest.map fun v => v.category).sum ≤ 8) (hd : decode cc pc = .ok (.invokevirtual k, 3)) (hR : d + 1 ≤ R.frames ∧ 8 + (maxL + 11) + 40 * d ≤ R.locals) (hr : cells ≤ R.cells ∧ slots ≤ R.slots)
    (kk : ∀ (H1 : Heap) (locs1 : List Loc), (∀ q, q < H.size → H1[q]? = H[q]?) → va_S A0 H0 H1 locs1 → W p l e R s m args below meth c H1 locs1 cells slots Q (F0 m (pc + 3) ls (r.toList ++ rest))) : W p l e R s m args below meth c H locs cells slots Q (F0 m pc ls (As.reverse ++ .ref q :: rest)) := by
  have hts := hF.2.2.2.2
  have hG := jx_good hy.1
  have hcw : CallW R s args own y.cls k y bytes maxL ret (jx_ws y bytes maxL ret) (jx_room d) 0 0 n := ⟨callB_of n hts hG rfl rfl rfl (hts _ hy.2.1) (hts _ hli) hy.2.2 hR, hts _ hin, hts _ hse⟩
  have hrec : ∃ cellB : Cell, H[q]? = some cellB ∧ cellB.vm.isStatics = false ∧ s.vm.findClass y.cls = some cellB.cls := by
    obtain ⟨cell, h1, h2, h3, -⟩ := hT.1.kept hS.2.1
    exact ⟨cell, h1, h2, by rw [hc]; exact h3⟩
  exact jx_callk (va_runV hF hM hcw ⟨jx_blind, hrec, jx_pc hT hS hA⟩ rfl hn hls rfl (lv_room hrest) hd hr) hS hA kk
theorem jx_S {cc own : _} {nL : Nat} (hF : CallFix p m c cc nL s args am_tbl own) {y : MethodName} {bytes : ByteArray} {maxL n d k pc q qv : Nat} {ret : Option FieldType} {r : Option Value} {As rest : List Value} {ls : Array Slot} {A0 : Nat → Prop} {H0 : Heap} (hM : jx_Met l y bytes maxL ret d As q qv H.size r) (hy : jx_T y bytes maxL ret n) (hst : Cond.static y ∈ am_tbl) (hli : Cond.methodLink own k y ∈ am_tbl)
    (hT : am_Tx q qv A0 s H0) (hS : va_S A0 H0 H locs) (hA : ∀ a, H0.size ≤ a → A0 a) (hn : As.length = n) (hls : ls.size = nL) (hrest : (rest.map fun v => v.category).sum ≤ 8) (hd : decode cc pc = .ok (.invokestatic k, 3)) (hR : d + 1 ≤ R.frames ∧ 8 + (maxL + 11) + 40 * d ≤ R.locals) (hr : cells ≤ R.cells ∧ slots ≤ R.slots)
    (kk : ∀ (H1 : Heap) (locs1 : List Loc), (∀ q, q < H.size → H1[q]? = H[q]?) → va_S A0 H0 H1 locs1 → W p l e R s m args below meth c H1 locs1 cells slots Q (F0 m (pc + 3) ls (r.toList ++ rest))) : W p l e R s m args below meth c H locs cells slots Q (F0 m pc ls (As.reverse ++ rest)) := by
  have hts := hF.2.2.2.2
  have hG := jx_good hy.1
  exact jx_callk (va_runS hF hM ⟨callB_of n hts hG rfl rfl rfl (hts _ hy.2.1) (hts _ hli) hy.2.2 hR, hts _ hst⟩ ⟨jx_blind, jx_pc hT hS hA⟩ rfl hn hls rfl (lv_room hrest) hd hr) hS hA kk
end
theorem jt_COD : jx_T jy_COD jc_COD 1 (some .byte) 0 := ⟨jw_COD, ji_S, by decide, by decide, by decide +kernel⟩
theorem jt_LAT : jx_T jy_LAT jc_LAT 1 (some .boolean) 0 := ⟨jw_LAT, ji_S, by decide, by decide, by decide +kernel⟩
theorem jt_LEN : jx_T jy_LEN jc_LEN 1 (some .int) 0 := ⟨jw_LEN, ji_S, by decide, by decide, by decide +kernel⟩
theorem jt_CHA : jx_T jy_CHA jc_CHA 2 (some .char) 1 := ⟨jw_CHA, ji_S, by decide, by decide, by decide +kernel⟩
theorem jt_LCH : jx_T jy_LCH jc_LCH 2 (some .char) 2 := ⟨jw_LCH, ji_L, by decide, by decide, by decide +kernel⟩
theorem jt_SCI : jx_T jy_SCI jc_SCI 2 none 2 := ⟨jw_SCI, ji_S, by decide, by decide, by decide +kernel⟩
theorem jt_PCI : jx_T jy_PCI jc_PCI 3 (some .int) 3 := ⟨jw_PCI, ji_P, by decide, by decide, by decide +kernel⟩
theorem jx_COD (l : Launch) (q qv sz : Nat) : jx_Met l jy_COD jc_COD 1 (some .byte) 0 [.ref q] q qv sz (some (.int 0)) := by
  refine jx_of (by decide +kernel) [.ref q] rfl (Nat.le_of_ble_eq_true rfl) l (fun p e R s m below meth c Q ls hF hT hl hR1 hR2 kk => ?_)
  obtain ⟨hx, hb, hml, hown, hts⟩ := id hF
  obtain ⟨t1, t2, t3, t4, t5, t6, t7⟩ := id hT
  refine va_gets hx hb t5 va_S.rf hown (hts _ jf_com) (fun _ h => h) (by decide +kernel) ?_
  refine lv_if_eq hx hb (tgt := 13) (off := 10) (by decide +kernel) (by decide) (fun h => absurd h (by decide)) (fun _ => ?_)
  refine lv_aload_n hx hb (show decode jc_COD 6 = .ok (.aload_n 0, 1) by decide +kernel) rfl (hl.get (i := 0) (v := .ref q) rfl) ?_
  refine vk_getf hx hb t2 va_S.rf hown (hts _ jf_cod) (fun _ h => h) (by decide +kernel) ?_
  refine lv_goto hx hb (tgt := 14) (off := 4) (by decide +kernel) (by decide) ?_
  exact kk _ _ _ 14 va_S.rf ⟨by decide +kernel, .byte, rfl, rfl⟩
theorem jx_LAT (l : Launch) (q qv sz : Nat) : jx_Met l jy_LAT jc_LAT 1 (some .boolean) 0 [.ref q] q qv sz (some (.int 1)) := by
  refine jx_of (by decide +kernel) [.ref q] rfl (Nat.le_of_ble_eq_true rfl) l (fun p e R s m below meth c Q ls hF hT hl hR1 hR2 kk => ?_)
  obtain ⟨hx, hb, hml, hown, hts⟩ := id hF
  obtain ⟨t1, t2, t3, t4, t5, t6, t7⟩ := id hT
  refine va_gets hx hb t5 va_S.rf hown (hts _ jf_com) (fun _ h => h) (by decide +kernel) ?_
  refine lv_if_eq hx hb (tgt := 17) (off := 14) (by decide +kernel) (by decide) (fun h => absurd h (by decide)) (fun _ => ?_)
  refine lv_aload_n hx hb (show decode jc_LAT 6 = .ok (.aload_n 0, 1) by decide +kernel) rfl (hl.get (i := 0) (v := .ref q) rfl) ?_
  refine vk_getf hx hb t2 va_S.rf hown (hts _ jf_cod) (fun _ h => h) (by decide +kernel) ?_
  refine lv_if_ne hx hb (tgt := 17) (off := 7) (by decide +kernel) (by decide) (fun h => absurd h (by decide)) (fun _ => ?_)
  refine lv_iconst (v := 1) hx hb (show decode jc_LAT 13 = .ok (.iconst 1, 1) by decide +kernel) rfl ?_
  refine lv_goto hx hb (tgt := 18) (off := 4) (by decide +kernel) (by decide) ?_
  exact kk _ _ _ 18 va_S.rf ⟨by decide +kernel, .boolean, rfl, rfl⟩
theorem jx_LEN (l : Launch) (q qv sz : Nat) : jx_Met l jy_LEN jc_LEN 1 (some .int) 1 [.ref q] q qv sz (some (.int 29)) := by
  refine jx_of (by decide +kernel) [.ref q] rfl (Nat.le_of_ble_eq_true rfl) l (fun p e R s m below meth c Q ls hF hT hl hR1 hR2 kk => ?_)
  obtain ⟨hx, hb, hml, hown, hts⟩ := id hF
  obtain ⟨t1, t2, t3, t4, t5, t6, t7⟩ := id hT
  refine lv_aload_n hx hb (show decode jc_LEN 0 = .ok (.aload_n 0, 1) by decide +kernel) rfl (hl.get (i := 0) (v := .ref q) rfl) ?_
  refine vk_getf hx hb t3 va_S.rf hown (hts _ jf_val) (fun _ h => h) (by decide +kernel) ?_
  refine va_tlen hx hb t4 va_S.rf (v := 29) rfl (by decide +kernel) ?_
  refine lv_aload_n hx hb (show decode jc_LEN 5 = .ok (.aload_n 0, 1) by decide +kernel) rfl (hl.get (i := 0) (v := .ref q) rfl) ?_
  refine jx_V hF (As := []) (jx_COD l q qv s.heap.size) jt_COD rfl jk_COD js_COD jl_COD hT va_S.rf (fun _ h => h) rfl hl.2.1 (by show 1 + 0 ≤ 8; omega) (by decide +kernel) ⟨hR1, by omega⟩ ⟨Nat.zero_le _, Nat.zero_le _⟩ (fun H1 locs1 hk hS1 => ?_)
  refine lv_ishr hx hb (by decide +kernel) ?_
  exact kk _ _ _ 10 hS1 ⟨by decide +kernel, .int, rfl, rfl⟩
theorem jx_PCI (l : Launch) (q qv sz : Nat) {f : Value} (hf : f.category = 1) {k n : Int32} (h0 : ¬ k < 0) (h1 : k < n) : jx_Met l jy_PCI jc_PCI 3 (some .int) 0 [.int k, .int n, f] q qv sz (some (.int k)) := by
  refine jx_of (by decide +kernel) [.int k, .int n, f] (by rw [List.all_cons, List.all_cons, List.all_cons, hf]; rfl) (Nat.le_of_ble_eq_true rfl) l (fun p e R s m below meth c Q ls hF hT hl hR1 hR2 kk => ?_)
  obtain ⟨hx, hb, hml, hown, hts⟩ := id hF
  refine lv_iload_n hx hb (show decode jc_PCI 0 = .ok (.iload_n 0, 1) by decide +kernel) rfl (hl.get (i := 0) (v := .int k) rfl) ?_
  refine lv_if_lt hx hb (tgt := 9) (off := 8) (by decide +kernel) (by decide) (fun h => absurd h h0) (fun _ => ?_)
  refine lv_iload_n hx hb (show decode jc_PCI 4 = .ok (.iload_n 0, 1) by decide +kernel) rfl (hl.get (i := 0) (v := .int k) rfl) ?_
  refine lv_iload_n hx hb (show decode jc_PCI 5 = .ok (.iload_n 1, 1) by decide +kernel) rfl (hl.get (i := 1) (v := .int n) rfl) ?_
  refine lv_icmp_lt hx hb (tgt := 16) (off := 10) (by decide +kernel) (by decide) (fun _ => ?_) (fun h => absurd h1 h)
  refine lv_iload_n hx hb (show decode jc_PCI 16 = .ok (.iload_n 0, 1) by decide +kernel) rfl (hl.get (i := 0) (v := .int k) rfl) ?_
  exact kk _ _ _ 17 va_S.rf ⟨by decide +kernel, .int, rfl, rfl⟩
theorem jx_SCI (l : Launch) (q qv sz : Nat) {k n : Int32} (h0 : ¬ k < 0) (h1 : k < n) : jx_Met l jy_SCI jc_SCI 2 none 1 [.int k, .int n] q qv sz none := by
  refine jx_of (by decide +kernel) [.int k, .int n] rfl (Nat.le_of_ble_eq_true rfl) l (fun p e R s m below meth c Q ls hF hT hl hR1 hR2 kk => ?_)
  obtain ⟨hx, hb, hml, hown, hts⟩ := id hF
  obtain ⟨t1, t2, t3, t4, t5, ⟨f, hf, t6⟩, t7⟩ := id hT
  refine lv_iload_n hx hb (show decode jc_SCI 0 = .ok (.iload_n 0, 1) by decide +kernel) rfl (hl.get (i := 0) (v := .int k) rfl) ?_
  refine lv_iload_n hx hb (show decode jc_SCI 1 = .ok (.iload_n 1, 1) by decide +kernel) rfl (hl.get (i := 1) (v := .int n) rfl) ?_
  refine va_gets hx hb t6 va_S.rf hown (hts _ jf_sio) (fun _ h => h) (by decide +kernel) ?_
  refine jx_S hF (As := [.int k, .int n, f]) (rest := []) (jx_PCI l q qv s.heap.size hf h0 h1) jt_PCI jk_PCI jl_PCI hT va_S.rf (fun _ h => h) rfl hl.2.1 (by decide) (by decide +kernel) ⟨hR1, by omega⟩ ⟨Nat.zero_le _, Nat.zero_le _⟩ (fun H1 locs1 hk hS1 => ?_)
  refine lv_pop hx hb (by decide +kernel) rfl ?_
  exact kk _ _ _ 9 hS1 ⟨by decide +kernel, rfl⟩
def jx_chOK : Bool := (List.range 29).all (fun k => decide ((((am_txt.getD k 0) &&& 255).toUInt32 % 65536).toInt32 = am_txt.getD k 0) && decide (narrow .char (.int (am_txt.getD k 0)) = .int (am_txt.getD k 0)))
theorem jx_ch {k : Nat} (hk : k < 29) : (((am_txt.getD k 0) &&& 255).toUInt32 % 65536).toInt32 = am_txt.getD k 0 ∧ narrow .char (.int (am_txt.getD k 0)) = .int (am_txt.getD k 0) := by
  have h : jx_chOK = true := by decide +kernel
  have h2 := List.all_eq_true.mp h k (List.mem_range.mpr hk)
  simpa only [Bool.and_eq_true, decide_eq_true_eq] using h2
theorem jx_kin {k : Int32} (hk : am_inb k 29 = true) : ¬ k < 0 ∧ k < 29 ∧ k.toNatClampNeg < 29 ∧ vp_in k 29 := by
  have h1 := am_inb_in hk
  have h0 : ¬ k < 0 := fun q => h1 (Or.inl q)
  have h2 : k.toNatClampNeg < 29 := Nat.not_le.mp (fun q => h1 (Or.inr q))
  refine ⟨h0, ?_, h2, h1⟩
  rw [Int32.lt_iff_toInt_lt]
  have h3 : (0 : Int) ≤ k.toInt := by
    have := Int32.not_lt.mp h0
    simpa using Int32.le_iff_toInt_le.mp this
  have h4 : k.toInt = ((k.toNatClampNeg : Nat) : Int) := by
    show k.toInt = ((k.toInt.toNat : Nat) : Int)
    omega
  rw [h4, show (29 : Int32).toInt = 29 from rfl]
  omega
theorem jx_LCH (l : Launch) (q qv sz : Nat) {k : Int32} (hk : am_inb k 29 = true) : jx_Met l jy_LCH jc_LCH 2 (some .char) 2 [.ref qv, .int k] q qv sz (some (.int (am_txt.getD k.toNatClampNeg 0))) := by
  obtain ⟨h0, h1, h2, h3⟩ := jx_kin hk
  obtain ⟨c1, c2⟩ := jx_ch h2
  refine jx_of (by decide +kernel) [.ref qv, .int k] rfl (Nat.le_of_ble_eq_true rfl) l (fun p e R s m below meth c Q ls hF hT hl hR1 hR2 kk => ?_)
  obtain ⟨hx, hb, hml, hown, hts⟩ := id hF
  obtain ⟨t1, t2, t3, t4, t5, t6, t7⟩ := id hT
  refine lv_iload_n hx hb (show decode jc_LCH 0 = .ok (.iload_n 1, 1) by decide +kernel) rfl (hl.get (i := 1) (v := .int k) rfl) ?_
  refine lv_aload_n hx hb (show decode jc_LCH 1 = .ok (.aload_n 0, 1) by decide +kernel) rfl (hl.get (i := 0) (v := .ref qv) rfl) ?_
  refine va_tlen hx hb t4 va_S.rf (v := 29) rfl (by decide +kernel) ?_
  refine jx_S hF (As := [.int k, .int 29]) (rest := []) (jx_SCI l q qv s.heap.size h0 h1) jt_SCI jk_SCI jl_SCI hT va_S.rf (fun _ h => h) rfl hl.2.1 (by decide) (by decide +kernel) ⟨hR1, by omega⟩ ⟨Nat.zero_le _, Nat.zero_le _⟩ (fun H1 locs1 hk9 hS1 => ?_)
  refine lv_aload_n hx hb (show decode jc_LCH 6 = .ok (.aload_n 0, 1) by decide +kernel) rfl (hl.get (i := 0) (v := .ref qv) rfl) ?_
  refine lv_iload_n hx hb (show decode jc_LCH 7 = .ok (.iload_n 1, 1) by decide +kernel) rfl (hl.get (i := 1) (v := .int k) rfl) ?_
  refine va_tb hx hb t4 hS1 h3 rfl (by decide +kernel) ?_
  refine lv_sipush hx hb (show decode jc_LCH 9 = .ok (.sipush 255, 3) by decide +kernel) rfl ?_
  refine lv_iand hx hb (by decide +kernel) ?_
  refine lv_i2c hx hb (by decide +kernel) c1 ?_
  exact kk _ _ _ 14 hS1 ⟨by decide +kernel, .char, rfl, c2⟩
theorem jx_CHA (l : Launch) (q qv sz : Nat) {k : Int32} (hk : am_inb k 29 = true) : jx_Met l jy_CHA jc_CHA 2 (some .char) 3 [.ref q, .int k] q qv sz (some (.int (am_txt.getD k.toNatClampNeg 0))) := by
  obtain ⟨h0, h1, h2, h3⟩ := jx_kin hk
  obtain ⟨c1, c2⟩ := jx_ch h2
  refine jx_of (by decide +kernel) [.ref q, .int k] rfl (Nat.le_of_ble_eq_true rfl) l (fun p e R s m below meth c Q ls hF hT hl hR1 hR2 kk => ?_)
  obtain ⟨hx, hb, hml, hown, hts⟩ := id hF
  obtain ⟨t1, t2, t3, t4, t5, t6, t7⟩ := id hT
  refine lv_aload_n hx hb (show decode jc_CHA 0 = .ok (.aload_n 0, 1) by decide +kernel) rfl (hl.get (i := 0) (v := .ref q) rfl) ?_
  refine jx_V hF (As := []) (rest := []) (jx_LAT l q qv s.heap.size) jt_LAT rfl jk_LAT js_LAT jl_LAT hT va_S.rf (fun _ h => h) rfl hl.2.1 (by decide) (by decide +kernel) ⟨by omega, by omega⟩ ⟨Nat.zero_le _, Nat.zero_le _⟩ (fun H1 locs1 hk1 hS1 => ?_)
  refine lv_if_eq hx hb (tgt := 16) (off := 12) (by decide +kernel) (by decide) (fun h => absurd h (by decide)) (fun _ => ?_)
  refine lv_aload_n hx hb (show decode jc_CHA 7 = .ok (.aload_n 0, 1) by decide +kernel) rfl (hl.get (i := 0) (v := .ref q) rfl) ?_
  refine vk_getf hx hb t3 hS1 hown (hts _ jf_val) (fun _ h => h) (by decide +kernel) ?_
  refine lv_iload_n hx hb (show decode jc_CHA 11 = .ok (.iload_n 1, 1) by decide +kernel) rfl (hl.get (i := 1) (v := .int k) rfl) ?_
  refine jx_S hF (As := [.ref qv, .int k]) (rest := []) (jx_LCH l q qv H1.size hk) jt_LCH jk_LCH jl_LCH hT hS1 (fun _ h => h) rfl hl.2.1 (by decide) (by decide +kernel) ⟨hR1, by omega⟩ ⟨Nat.zero_le _, Nat.zero_le _⟩ (fun H2 locs2 hk2 hS2 => ?_)
  exact kk _ _ _ 15 hS2 ⟨by decide +kernel, .char, rfl, c2⟩
section
variable {scr : am_Scr} {d mm pc : Nat} {L S : List Value} {sh : am_Sh} {μ : am_Mu} {out : am_Out} {j : Nat}
theorem jx_Wd {dC : Nat → ClassId} {dI : Nat → Nat → Nat} {ad : Nat → Nat} {cA : Nat → ClassId} {A : Nat → Prop} {s : State} {H H1 : Heap} (h : am_Wd dC dI ad cA A sh μ s H) (hq : ∀ q, q < H.size → H1[q]? = H[q]?) : am_Wd dC dI ad cA A sh μ s H1 := by
  refine ⟨h.1.kept (fun k q hk => ?_), h.2⟩
  obtain ⟨h1, h2⟩ := am_ws_of hk
  rw [h2]
  exact hq _ (h.lt h1).1
theorem am_s_len {v : Nat} {z : Option (Nat × (Nat → Int32))} (hf : am_fet mm pc = some (.invokevirtual v, 1005)) (hs : scr = some z) (hir : S.all am_ir = true) (hlen : S.length ≤ 8) (h : am_Sd scr (d + 5) mm (pc + 3) L (.int 29 :: S) sh μ out) : am_Sd scr (d + 5) mm pc L (.ref am_STR :: S) sh μ out := by
  obtain ⟨hd, hax⟩ := am_dec1 hf 3 (fun k h => Nat.eq_of_beq_eq_true h)
  simp only [am_aux, Bool.and_eq_true, Bool.or_eq_true] at hax
  refine ⟨h.1, h.2.1, ?_⟩
  intro p l e R s m args below meth c H locs cells slots Q ls dC dI ad cA A H0 hC hW hS hA hsc hl hc1 hc2 kr
  obtain ⟨hx, hb, hml, hown, hts, hns, hfr, hlo, hin⟩ := id hC
  have a1 := h.1
  have a2 := h.2.1
  subst hs
  have hT := hsc.tx
  refine jx_V (⟨hx, hb, hml, hown, hts⟩ : CallFix p m c (am_cod mm) (am_nl mm) s args am_tbl (am_RC (am_ow mm))) (As := []) (jx_LEN l (ad am_STR) (ad am_STV) H.size) jt_LEN rfl jk_LEN js_LEN (am_callLib (by decide) hax.1) hT hS hA rfl hl.2.1 (by rw [am_catS ad hir]; exact hlen) hd ⟨by omega, by omega⟩ ⟨by omega, by omega⟩ (fun H1 locs1 hk hS1 => ?_)
  exact h.2.2 p l e R s m args below meth c H1 locs1 cells slots Q ls dC dI ad cA A H0 hC (jx_Wd hW hk) hS1 hA hsc hl hc1 hc2 kr
theorem am_s_cha {v : Nat} {k : Int32} {z : Option (Nat × (Nat → Int32))} (hf : am_fet mm pc = some (.invokevirtual v, 1006)) (hs : scr = some z) (hk9 : am_inb k 29 = true) (hir : S.all am_ir = true) (hlen : S.length ≤ 8) (h : am_Sd scr (d + 5) mm (pc + 3) L (.int (am_txt.getD k.toNatClampNeg 0) :: S) sh μ out) : am_Sd scr (d + 5) mm pc L (.int k :: .ref am_STR :: S) sh μ out := by
  obtain ⟨hd, hax⟩ := am_dec1 hf 3 (fun k h => Nat.eq_of_beq_eq_true h)
  simp only [am_aux, Bool.and_eq_true, Bool.or_eq_true] at hax
  refine ⟨h.1, h.2.1, ?_⟩
  intro p l e R s m args below meth c H locs cells slots Q ls dC dI ad cA A H0 hC hW hS hA hsc hl hc1 hc2 kr
  obtain ⟨hx, hb, hml, hown, hts, hns, hfr, hlo, hin⟩ := id hC
  have a1 := h.1
  have a2 := h.2.1
  subst hs
  have hT := hsc.tx
  refine jx_V (⟨hx, hb, hml, hown, hts⟩ : CallFix p m c (am_cod mm) (am_nl mm) s args am_tbl (am_RC (am_ow mm))) (As := [.int k]) (jx_CHA l (ad am_STR) (ad am_STV) H.size hk9) jt_CHA rfl jk_CHA js_CHA (am_callLib (by decide) hax.1) hT hS hA rfl hl.2.1 (by rw [am_catS ad hir]; exact hlen) hd ⟨by omega, by omega⟩ ⟨by omega, by omega⟩ (fun H1 locs1 hk hS1 => ?_)
  exact h.2.2 p l e R s m args below meth c H1 locs1 cells slots Q ls dC dI ad cA A H0 hC (jx_Wd hW hk) hS1 hA hsc hl hc1 hc2 kr
end
