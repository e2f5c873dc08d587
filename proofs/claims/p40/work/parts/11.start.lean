/-! FROM THE ABSTRACT MACHINE TO THE CLAIM -/
def R_law : String := "SealBookLaw"
def lw_Q (_ : Array Value) (s : State) (o : Outcome) (t : State) : Prop := o = .returned (some (.int 1)) ∧ Framed s o t [] 600000 7302249
def lw_Z (below : List Frame) (a : Array Value) (s : State) : State → Prop := fun t => ∃ o, t.status = .running ∧ Ended t below o ∧ lw_Q a s o t
/-- the law's own end, with 1 on the stack, nothing written that was there before, its room as the claim has it -/
theorem lw_ret {p : Program} {l : Launch} {e : Env} {s : State} {m : MethodId} {below : List Frame} {meth : Method} {c : Code} {b : Nat} (hx : p.tables.exec = Jvm.exec) (hb : c.code = code) (hr : meth.sig.returnType = ret) (hlocks : meth.locks = false) {pc : Nat} {H : Heap} {ls : Array Slot} (hdg : decode code pc = .ok (.ireturn, 1)) : W p l e room_1 s m #[Value.ref b] below meth c H [] 600000 7302249 (lw_Z below #[Value.ref b] s) (F0 m pc ls [.int 1]) := by
  intro T hT X
  obtain ⟨fs, hret, hrun, hended, hW, hframe⟩ := X.leave (v := some (.int 1)) (hlocks := hlocks) (fun h => by rw [hr] at h; cases h)
  have hmeth' : T.vm.method? m = some meth := X.method'
  refine ⟨T.setFrames fs, ?_, .returned (some (.int 1)), hrun, hended, rfl, ⟨_, rfl⟩, hW, hframe⟩
  jvm_step X.here [X.here.top, hx, hb, hdg, hmeth', hr, ret, narrow_b1]
  (try refine ⟨rfl, ?_⟩); (try refine ⟨rfl, ?_⟩)
  first | (intro acts; rw [hret _ acts rfl rfl rfl]) | rw [hret _ _ rfl rfl rfl]
  exact Steps.refl _
/-- what holds at the law's entry: the machine, the code, the tables' words (any of lw_tbl by 'hts w (by decide +kernel)'), the script of L ints xs at the cell b, what the Statement gives of the start (any of its parts by flat_of_before) -/
def lw_At (p : Program) (s : State) (m : MethodId) (meth : Method) (c : Code) (b L : Nat) (xs : Nat → Int32) : Prop :=
  p.tables.exec = Jvm.exec ∧ c.code = code ∧ meth.sig.returnType = ret ∧ c.maxLocals = 22 ∧ s.vm.findClass R_law = some m.cls ∧ (∀ w ∈ lw_tbl, w.before #[Value.ref b] s = true) ∧ va_X b L xs s s.heap ∧ b < s.heap.size ∧ meth.locks = false ∧ (Jvm.Cond.and given_1 narrow_1).before #[Value.ref b] s = true
/-- the run of the law in the abstract machine, over a script -/
def am_Run (L : Nat) (xs : Nat → Int32) : Prop := ∃ (n d : Nat) (sh : am_Sh) (μ : am_Mu), d ≤ 2000 ∧ am_exec n (some (some (L, xs))) d am_law 0 (.ref am_SCR :: List.replicate 21 .null) [] [] (fun _ _ => 0) = some (some (.int 1), sh, μ) ∧ sh.length ≤ 600000 ∧ am_sl sh ≤ 7302249
theorem jx_isRef {args : Array Value} {s : State} {t : Term} (h : (Cond.isRef t).before args s = true) : ∃ f : Value, f.category = 1 ∧ t.eval args s none [] s = some f := by
  simp only [Cond.before, Cond.holds, Cond.value] at h
  cases hv : t.eval args s none [] s with
  | none => rw [hv] at h; simp at h
  | some w =>
    rw [hv] at h
    refine ⟨w, ?_, rfl⟩
    cases w <;> first | rfl | simp at h
theorem am_codL : am_cod am_law = code := by
  have h : am_at (am_MP.getD am_law (0, 0, 0)).1 = (k2_sels lw_privs)[0]? := rfl
  unfold am_cod
  rw [h]
  rfl
theorem am_start {p : Program} {e : Env} {s : State} {m : MethodId} {below : List Frame} {meth : Method} {c : Code} (l : Launch) {b L : Nat} {xs : Nat → Int32} (hex : am_Run L xs) (C0 : lw_At p s m meth c b L xs) : W p l e room_1 s m #[Value.ref b] below meth c s.heap [] 0 0 (lw_Z below #[Value.ref b] s) (entryFrame m ([Value.ref b] : List Value).toArray 22) := by
  obtain ⟨hx, hb, hr, hml, hown, hts, hX, hbl, hlocks, hgv⟩ := C0
  obtain ⟨n, d, sh, μ, hd, hrun, hc1, hc2⟩ := hex
  have hA : ∀ q : Nat, s.heap.size ≤ q → (fun q : Nat => s.heap.size ≤ q) q := fun _ h => h
  have hbA : ¬ (fun q : Nat => s.heap.size ≤ q) b := Nat.not_le.mpr hbl
  have htb : ∀ w ∈ am_tbl, w.before #[Value.ref b] s = true := fun w hw => hts w (List.mem_filter.mp hw).1
  have hns : am_Nst s := by
    refine ⟨fun t ht => ?_, fun t ht => ?_⟩
    · have h1 := List.all_eq_true.mp am_lN_ok t ht
      simp only [am_inN, decide_eq_true_eq] at h1
      have h2 := List.all_eq_true.mp am_lN_cl t ht
      refine va_Nw.of ?_ (hts _ (am_at_mem h1))
      unfold am_fldC
      cases hc : am_cl[t.2.2.1 / 100]? with
      | none => rw [hc] at h2; cases h2
      | some c => rfl
    · have h1 := List.all_eq_true.mp am_lMN_ok t ht
      simp only [am_inN, decide_eq_true_eq] at h1
      exact va_Nw.of rfl (hts _ (am_at_mem h1))
  have hKn : ∀ k : Nat, ∃ ci : ClassId × (Nat → Nat), ∀ q, am_cl[k]? = some q → u_Kn s q.1 q.2.1 q.2.2 ci.1 ci.2 := by
    intro k
    cases hk : am_cl[k]? with
    | none => exact ⟨(0, fun _ => 0), fun q h => by cases h⟩
    | some q =>
      obtain ⟨f1, f2, f3, f4, f5, f6, f7, f8⟩ := am_clsF hk
      obtain ⟨c0, iS0, hKn0⟩ := u_known (n := q.2.2) htb f1 (htb _ f5)
      exact ⟨(c0, iS0), fun q' h => by cases h; exact hKn0⟩
  obtain ⟨fd, hfd⟩ := Classical.axiomOfChoice hKn
  have hs := am_snd n _ _ _ _ _ _ _ _ _ hrun
  rw [lg_entry_eq]
  have gv := flat_of_before _ hgv
  have hA0 : ∀ a : Nat, a < s.heap.size → ¬ (fun q : Nat => s.heap.size ≤ q) a := fun a h => Nat.not_le.mpr h
  obtain ⟨adK, adV, hVS, hTM⟩ := vk_Sof (args := #[Value.ref b]) (s := s) (N := 1) (tm := fun _ => Jvm.Term.string "SealBookLaw" (39 : Nat)) (len := [29]) (byt := [am_txt]) (A := fun q => s.heap.size ≤ q)
    (fun i hi => by have : i = 0 := by omega
                    subst this; decide) (fun i hi => gv _ (by decide +kernel)) (fun i hi => gv _ (by decide +kernel)) (fun i hi => gv _ (by decide +kernel))
    (fun i hi => by have : i = 0 := by omega
                    subst this; exact gv _ (by decide +kernel))
    (fun i hi j hj => by
      have : i = 0 := by omega
      subst this
      have hj : j < 29 := hj
      have hal : ∀ j, j < 29 → (Jvm.Cond.eq (.elem (.field (Jvm.Term.string "SealBookLaw" (39 : Nat)) "java/lang/String" "value" "[B") (.int (Int32.ofNat j))) (.int (am_txt.getD j 0))) ∈ flatC (Jvm.Cond.and given_1 narrow_1) := by decide +kernel
      exact gv _ (hal j hj))
    (fun i j hi hj hne => absurd (show i = j by omega) hne) hA0
  have hVT := hVS.1 0 (by decide)
  have hcom : va_Z "java/lang/String" "COMPACT_STRINGS" "Z" (.int 1) (fun q => s.heap.size ≤ q) s s.heap := va_Zof (hts _ jz_com) (htb _ ji_S) (va_eqi (gv _ (by decide +kernel))) hA0
  have hsio : ∃ f : Value, f.category = 1 ∧ va_Z "jdk/internal/util/Preconditions" "SIOOBE_FORMATTER" "Ljava/util/function/BiFunction;" f (fun q => s.heap.size ≤ q) s s.heap := by
    have h9 : (Jvm.Cond.isRef (Jvm.Term.static "jdk/internal/util/Preconditions" "SIOOBE_FORMATTER" "Ljava/util/function/BiFunction;")).before #[Value.ref b] s = true := gv _ (by decide +kernel)
    obtain ⟨f, hc, hf⟩ := jx_isRef h9
    exact ⟨f, hc, va_Zof (hts _ jz_sio) (htb _ ji_P) hf hA0⟩
  have hTx : am_Tx (adK 0) (adV 0) (fun q => s.heap.size ≤ q) s s.heap := ⟨hVT.1, hVT.2.1, hVT.2.2.1, hVT.2.2.2, hcom, hsio, vk_R.of (hts _ jr_txt) (hTM 0 (by decide))⟩
  have hl := am_entry (ad := fun k => if k = am_STR then adK 0 else if k = am_STV then adV 0 else b) (As := [.ref am_SCR]) (nL := 22) rfl (by decide)
  refine hs.2.2 p l e room_1 s m #[Value.ref b] below meth c s.heap [] 0 0 _ _ (fun k => (fd k).1) (fun k => (fd k).2) (fun k => if k = am_STR then adK 0 else if k = am_STV then adV 0 else b) (fun _ => 0) (fun q => s.heap.size ≤ q) s.heap ⟨hx, by rw [am_codL]; exact hb, hml, hown, htb, hns, Nat.le_trans hd (by decide), Nat.le_trans (Nat.mul_le_mul_left 40 hd) (by decide), fun h => absurd h (by decide)⟩ ⟨fun k q h => by simp [am_ws] at h, ⟨fun i j p q h => by simp [am_ws] at h, fun k q h => by simp [am_ws] at h⟩, ⟨fun k q h => hfd k q h, fun k q h => by simp at h⟩, fun k e h => by simp at h, fun a ci n fs h => by simp at h⟩ va_S.rf hA ⟨hTx, hX, hbl, hbA⟩ hl (by show 0 + sh.length ≤ 600000 + 0; omega) (by show 0 + am_sl sh ≤ 7302249 + 0; omega) ?_
  intro pc' ad' cA' H' locs' ls' hE hW hS hR
  refine va_forget (fun q hq => hS.2.2 q hq) ?_
  refine W.widen (k := 600000) (n := 7302249) (by show 0 + (sh.length - 0) ≤ _; omega) (by show 0 + (am_sl sh - 0) ≤ _; omega) ?_
  have hd9 := hR.1
  rw [am_codL] at hd9
  exact lw_ret hx hb hr hlocks hd9
