/-! CALLS -/
theorem am_lN_cl : am_lN.all (fun t => (am_cl[t.2.2.1 / 100]?).isSome) = true := by decide +kernel
theorem am_Nst.calling {U : State} (h : am_Nst U) (g : JFrame) (mk : MethodId) (a : Array Value) : am_Nst (U.calling g mk a) := by
  refine ⟨fun t ht => ?_, fun t ht => ?_⟩
  · have h1 := h.1 t ht
    refine va_Nw.same ?_ (show U.vm = (U.calling g mk a).vm from rfl) h1
    have h2 := List.all_eq_true.mp am_lN_cl t ht
    unfold am_fldC
    cases hc : am_cl[t.2.2.1 / 100]? with
    | none => rw [hc] at h2; cases h2
    | some c => rfl
  · exact va_Nw.same rfl (show U.vm = (U.calling g mk a).vm from rfl) (h.2 t ht)
theorem am_Nst.warm {s U : State} (hW : s.WarmedH U.vm) (h : am_Nst s) : am_Nst U := by
  refine ⟨fun t ht => ?_, fun t ht => ?_⟩
  · have h1 := h.1 t ht
    have h2 := List.all_eq_true.mp am_lN_cl t ht
    unfold am_fldC at h1 ⊢
    cases hc : am_cl[t.2.2.1 / 100]? with
    | none => rw [hc] at h2; cases h2
    | some c =>
      rw [hc] at h1
      exact va_Nw.warmF hW h1
  · exact va_Nw.warmM hW (h.2 t ht)
theorem am_Ar.moved {cA : Nat → ClassId} {sh : am_Sh} {u U : State} (hvm : u.vm.Alike U.vm) (h : am_Ar cA sh u) : am_Ar cA sh U := fun k e hk h3 => ⟨arrOfT_moved hvm (h k e hk h3).1, (h k e hk h3).2.moved hvm⟩
theorem am_Wd.moved {dC : Nat → ClassId} {dI : Nat → Nat → Nat} {ad : Nat → Nat} {cA : Nat → ClassId} {A : Nat → Prop} {sh : am_Sh} {μ : am_Mu} {u U : State} {H : Heap} (hvm : u.vm.Alike U.vm) (h : am_Wd dC dI ad cA A sh μ u H) : am_Wd dC dI ad cA A sh μ U H := ⟨h.1, h.2.1, va_K.moved hvm h.2.2.1, h.2.2.2.1.moved hvm, h.2.2.2.2⟩
theorem am_Wd.weaken {dC : Nat → ClassId} {dI : Nat → Nat → Nat} {ad : Nat → Nat} {cA : Nat → ClassId} {A A' : Nat → Prop} {sh : am_Sh} {μ : am_Mu} {U : State} {H : Heap} (h : am_Wd dC dI ad cA A sh μ U H) (hA : ∀ k, k < sh.length → A (ad k) → A' (ad k)) : am_Wd dC dI ad cA A' sh μ U H := by
  refine ⟨h.1, ⟨h.2.1.1, fun k q hq => ?_⟩, h.2.2⟩
  obtain ⟨h1, h2⟩ := am_ws_of hq
  have h3 := h.2.1.2 k q hq
  rw [h2] at h3 ⊢
  exact hA k h1 h3
def am_A (ad : Nat → Nat) (sh : am_Sh) (sz : Nat) : Nat → Prop := fun q => (∃ k, k < sh.length ∧ q = ad k) ∨ sz ≤ q
def am_Q (dC : Nat → ClassId) (dI : Nat → Nat → Nat) (ad : Nat → Nat) (A : Nat → Prop) (sh : am_Sh) (out : am_Out) : Array Value → State → Outcome → State → Prop := fun _ st oc t =>
  (∃ (ad' : Nat → Nat) (cA' : Nat → ClassId), am_Ext ad ad' sh out.2.1 ∧ oc = .returned (out.1.map (am_cv ad')) ∧ am_Wd dC dI ad' cA' A out.2.1 out.2.2 t t.heap) ∧ va_F A st t
theorem am_lgsl {vs : List Value} (h : vs.all (fun v => decide (v.category = 1)) = true) : (lg_sl vs).length = vs.length := by
  induction vs with
  | nil => rfl
  | cons v t ih =>
    simp only [List.all_cons, Bool.and_eq_true, decide_eq_true_eq] at h
    show (List.flatMap _ (v :: t)).length = _
    rw [List.flatMap_cons, List.length_append, if_neg (by omega)]
    have := ih h.2
    unfold lg_sl at this
    rw [this]
    simp
    omega
theorem am_lvargs {vs : List Value} (h : vs.all (fun v => decide (v.category = 1)) = true) : ∀ (k i : Nat) (v : Value), vs[i]? = some v → (k + i, v) ∈ lv_args k vs := by
  induction vs with
  | nil => intro k i v hi; simp at hi
  | cons w t ih =>
    intro k i v hi
    simp only [List.all_cons, Bool.and_eq_true, decide_eq_true_eq] at h
    cases i with
    | zero => cases hi; exact List.mem_cons_self
    | succ i =>
      refine List.mem_cons_of_mem _ ?_
      have := ih h.2 (k + 1) i v hi
      rw [show k + (i + 1) = k + 1 + i by omega]
      rw [if_neg (by omega)]
      exact this
theorem am_cat_map {As : List Value} (ad : Nat → Nat) (h : As.all am_ir = true) : (As.map (am_cv ad)).all (fun v => decide (v.category = 1)) = true := by
  rw [List.all_eq_true] at h ⊢
  intro v hv
  obtain ⟨w, hw, rfl⟩ := List.mem_map.mp hv
  exact decide_eq_true (am_cat1 (h w hw))
theorem am_entry {ad : Nat → Nat} {As : List Value} {nL : Nat} (hAs : As.all am_ir = true) (hn : As.length ≤ nL) : am_Lok ad (As ++ List.replicate (nL - As.length) .null) ((lg_sl (As.map (am_cv ad)) ++ List.replicate (nL - (lg_sl (As.map (am_cv ad))).length) Slot.unset).toArray) nL := by
  have hc := am_cat_map ad hAs
  have hlen : (lg_sl (As.map (am_cv ad))).length = As.length := by rw [am_lgsl hc, List.length_map]
  have hl := lv_entry (As.map (am_cv ad)) (n := nL) (by rw [hlen]; exact hn)
  refine ⟨by simp; omega, hl.1, hl.2.1, fun q hq => ?_⟩
  obtain ⟨v, h1, h2, h3⟩ := am_lv_mem.mp hq
  obtain ⟨i, w⟩ := q
  dsimp only at h1 h3
  subst h3
  refine hl.2.2 (i, am_cv ad v) ?_
  have hi : i < As.length := by
    rcases Nat.lt_or_ge i As.length with g | g
    · exact g
    · rw [List.getElem?_append_right g] at h1
      have := List.mem_of_getElem? h1
      rw [List.eq_of_mem_replicate this] at h2
      cases h2
  rw [List.getElem?_append_left hi] at h1
  have := am_lvargs hc 0 i (am_cv ad v) (by rw [List.getElem?_map, h1]; rfl)
  rwa [Nat.zero_add] at this
/-- what the tables say of a method -/
theorem am_mth {j : Nat} (hj : j < am_law) : plainName (am_yq j).cls = true ∧ Cond.code (am_yq j) (am_cod j) (am_nl j) (am_rt j) ∈ am_tbl ∧ (if am_st j = true then Cond.static (am_yq j) ∈ am_tbl else Cond.instanceMethod (am_yq j) ∈ am_tbl) ∧ (am_st j = false → (am_yq j).name ≠ "<init>" → Cond.selects (am_yq j).cls (am_yq j) (am_yq j) ∈ am_tbl) ∧ Cond.initialized (am_yq j).cls ∈ am_tbl ∧ ((am_yq j).cls ≠ "java/lang/invoke/MethodHandle" ∧ (am_yq j).cls ≠ "java/lang/invoke/VarHandle" ∧ (parseMethodDescriptor (am_yq j).desc).map (fun d => d.parameters.length) = some (am_na j)) ∧ ((am_yq j).name = "<init>" → am_rt j = none) := by
  have h := am_okM_all j hj
  simp only [am_okM, Bool.and_eq_true, decide_eq_true_eq, Bool.not_eq_true', beq_eq_false_iff_ne, Bool.or_eq_true] at h
  obtain ⟨h1, h2, h3, h4, h5, h6, h7, h8, h9⟩ := h
  refine ⟨h1, am_inC_mem h2, ?_, fun e1 e2 => ?_, am_in_mem h5, ⟨h6, h7, h8⟩, fun e => ?_⟩
  · cases hs : am_st j <;> rw [hs] at h3 <;> simpa using am_in_mem h3
  · rw [e1, show ((am_yq j).name == "<init>") = false from beq_eq_false_iff_ne.mpr e2] at h4
    exact am_in_mem h4
  · rcases h9 with q | q
    · exact absurd e q
    · exact q
theorem am_goodW {j : Nat} (hj : j < am_law) : GoodIn am_tbl (am_words j) := by
  have hall : ∀ w ∈ am_words j, w ∈ am_tbl := by
    intro w hw
    rcases List.mem_cons.mp hw with rfl | hw
    · exact (am_mth hj).2.1
    · exact hw
  exact fun w hw => ⟨hall w hw, good_of_word (List.mem_filter.mp (hall w hw)).2⟩
/-- the contract of a method at one memory -/
theorem am_met {scr0 : am_Scr} {d j : Nat} {As : List Value} {sh : am_Sh} {μ : am_Mu} {out : am_Out} (hj : j < am_law) (hAs : As.all am_ir = true) (hn : As.length ≤ am_nl j) (h : am_Sd scr0 d j 0 (As ++ List.replicate (am_nl j - As.length) .null) [] sh μ out)
    (l : Launch) (dC : Nat → ClassId) (dI : Nat → Nat → Nat) (ad : Nat → Nat) (cA : Nat → ClassId) (sz : Nat) :
    Met l (am_yq j) (am_words j) ({ frames := d, cells := out.2.1.length - sh.length, slots := am_sl out.2.1 - am_sl sh, locals := 40 * d })
      (va_Pc (As.map (am_cv ad)) (fun U => U.heap.size = sz ∧ am_Wd dC dI ad cA (fun _ => True) sh μ U U.heap ∧ am_Nst U ∧ am_Sc scr0 ad (am_A ad sh sz) U U.heap)) (am_Q dC dI ad (am_A ad sh sz) sh out) (out.2.1.length - sh.length) (am_sl out.2.1 - am_sl sh) (am_A ad sh sz) := by
  obtain ⟨m1, m2, m3, m4, m5, m6, m7⟩ := am_mth hj
  refine Met.ofW (cc := am_cod j) (maxL := am_nl j) (ret := am_rt j) m1 rfl ?_
  intro p e s m args below meth c s₁ B hml hv
  obtain ⟨rfl, hsz, hW, hN, hSc⟩ := hv
  have hts := atoms_spec (ws := am_words j) B.pre
  have hown : s.vm.findClass (am_RC (am_ow j)) = some m.cls := findClass_of_methodNamed B.named
  have hlocks := B.notSynchronized
  have hr := B.returns
  rw [lg_entry_eq]
  have hb : c.code = am_cod j := B.bytes
  subst hsz
  have hA : ∀ q : Nat, s.heap.size ≤ q → am_A ad sh s.heap.size q := fun q h => Or.inr h
  have hW1 : am_Wd dC dI ad cA (am_A ad sh s.heap.size) sh μ s s.heap := hW.weaken (fun k hk _ => Or.inl ⟨k, hk, rfl⟩)
  have a1 := h.1
  have a2 := h.2.1
  refine h.2.2 p l e _ s m (As.map (am_cv ad)).toArray below meth c s.heap [] 0 0 _ _ dC dI ad cA (am_A ad sh s.heap.size) s.heap ⟨B.exec, hb, hml, hown, fun w hw => hts w (List.mem_cons_of_mem _ hw), hN, Nat.le_refl _, Nat.le_refl _, fun hi => by rw [← hi]; exact (name_of_methodNamed B.named B.method).1⟩ hW1 va_S.rf hA hSc (am_entry hAs hn) (by show 0 + _ ≤ (out.2.1.length - sh.length) + _; omega) (by show 0 + _ ≤ (am_sl out.2.1 - am_sl sh) + _; omega) ?_
  intro pc' ad' cA' H' locs' ls' hE hW' hS' hR
  rw [Nat.zero_add, Nat.zero_add]
  have hq : ∀ t : State, t.heap = H' → s.WarmedH t.vm → am_Q dC dI ad (am_A ad sh s.heap.size) sh out (As.map (am_cv ad)).toArray s (.returned (out.1.map (am_cv ad'))) t := by
    intro t ht hw
    exact ⟨⟨ad', cA', hE, rfl, by rw [ht]; exact hW'.moved hw.alike⟩, hS'.F ht⟩
  obtain ⟨r, sh', μ'⟩ := out
  dsimp only at hq hR hS' a1 a2 ⊢
  match r, hR with
  | none, hR =>
    rw [hR.2] at hr
    exact W.vret B.exec hb hr hq hS'.2.2 hR.1
  | some (.int x), hR =>
    obtain ⟨hd, hR | ⟨hR, hx⟩⟩ := hR
    · rw [hR] at hr
      exact W.iret B.exec hb hr hq hS'.2.2 hd
    · rw [hR] at hr
      exact W.zret B.exec hb hr (show Value.int (x &&& 1) = .int x by rw [hx]) hq hS'.2.2 hd
  | some (.ref a), hR =>
    obtain ⟨hd, C, hR⟩ := hR
    rw [hR] at hr
    exact W.aret B.exec hb hr (Or.inl ⟨C, rfl⟩) (Or.inr ⟨_, rfl⟩) hq hS'.2.2 hd
section
variable {p : Program} {l : Launch} {e : Env} {R : Room} {s : State} {m : MethodId} {args : Array Value} {below : List Frame} {meth : Method} {c : Code} {H : Heap} {locs : List Loc} {cells slots : Nat} {Q : State → Prop}
theorem am_callk {pc : Nat} {ls : Array Slot} {rest st0 : List Value} {a : Array Value} {A0 A1 : Nat → Prop} {H0 : Heap} {mc ms : Nat} {dC : Nat → ClassId} {dI : Nat → Nat → Nat} {ad : Nat → Nat} {sh : am_Sh} {out : am_Out} (hr : va_Run p l e R s m args below meth c H locs cells slots mc ms (F0 m pc ls st0) rest (am_Q dC dI ad A1 sh out a) A1) (hS : va_S A0 H0 H locs) (hA : ∀ q, A1 q → A0 q)
    (kk : ∀ (ad' : Nat → Nat) (cA' : Nat → ClassId) (H1 : Heap) (locs1 : List Loc), am_Ext ad ad' sh out.2.1 → am_Wd dC dI ad' cA' A0 out.2.1 out.2.2 s H1 → va_S A0 H0 H1 locs1 → W p l e R s m args below meth c H1 locs1 (cells + mc) (slots + ms) Q (F0 m (pc + 3) ls ((out.1.map (am_cv ad')).toList ++ rest))) : W p l e R s m args below meth c H locs cells slots Q (F0 m pc ls st0) := by
  intro T hT X
  obtain ⟨v, st₀, t, T', L, h0, X', hL, e1, e2, ⟨⟨ad', cA', hE, hv, hWd⟩, hz, hk⟩, st⟩ := hr T hT X
  have hv2 : v = out.1.map (am_cv ad') := by injection hv
  subst hv2
  rw [h0] at hz hk
  have hal : s.vm.Alike t.vm := by rw [← e2]; exact X'.warmed.alike
  obtain ⟨t2, a1, b1⟩ := kk ad' cA' T'.heap (locs ++ L) hE (by rw [e1]; exact (hWd.moved hal.symm).weaken (fun k _ h => hA _ h))
    ⟨Nat.le_trans hS.1 (by rw [e1]; exact hz), fun q h1 h2 => by rw [e1, hk q (Nat.lt_of_lt_of_le h1 hS.1) (fun z => h2 (hA q z))]; exact hS.2.1 q h1 h2, fun q hq => by
      rcases List.mem_append.mp hq with h | h
      · exact hS.2.2 q h
      · exact hA _ (hL q h)⟩ T' rfl X'
  exact ⟨t2, st t2 a1, b1⟩
end
section
variable {scr : am_Scr} {d mm pc : Nat} {L : List Value} {sh : am_Sh} {μ : am_Mu} {out out1 : am_Out} {j : Nat} {As rest : List Value}
/-- behind a call -/
theorem am_s_after (hsl : sh.length ≤ out1.2.1.length) (hss : am_sl sh ≤ am_sl out1.2.1) (hg : out1.2.1.length = sh.length ∨ am_fre sh L rest = true)
    (hs : ∀ (p : Program) (l : Launch) (e : Env) (R : Room) (s : State) (m : MethodId) (args : Array Value) (below : List Frame) (meth : Method) (c : Code) (H : Heap) (locs : List Loc) (cells slots : Nat) (Q : State → Prop) (ls : Array Slot) (dC : Nat → ClassId) (dI : Nat → Nat → Nat) (ad : Nat → Nat) (cA : Nat → ClassId) (A : Nat → Prop) (H0 : Heap),
      am_Cx p R s m args meth c mm (d + 1) → am_Wd dC dI ad cA A sh μ s H → (∀ q, am_A ad sh H.size q → A q) → va_S A H0 H locs → am_Lok ad L ls (am_nl mm) → am_Sc scr ad A s H0 → cells + (out1.2.1.length - sh.length) ≤ R.cells → slots + (am_sl out1.2.1 - am_sl sh) ≤ R.slots →
      (∀ (ad' : Nat → Nat) (cA' : Nat → ClassId) (H1 : Heap) (locs1 : List Loc), am_Ext ad ad' sh out1.2.1 → am_Wd dC dI ad' cA' A out1.2.1 out1.2.2 s H1 → va_S A H0 H1 locs1 → W p l e R s m args below meth c H1 locs1 (cells + (out1.2.1.length - sh.length)) (slots + (am_sl out1.2.1 - am_sl sh)) Q (F0 m (pc + 3) ls ((out1.1.map (am_cv ad')).toList ++ rest.map (am_cv ad)))) →
      W p l e R s m args below meth c H locs cells slots Q (F0 m pc ls ((As.reverse ++ rest).map (am_cv ad))))
    (h : am_Sd scr (d + 1) mm (pc + 3) L (out1.1.toList ++ rest) out1.2.1 out1.2.2 out) : am_Sd scr (d + 1) mm pc L (As.reverse ++ rest) sh μ out := by
  have a1 := h.1
  have a2 := h.2.1
  refine ⟨by omega, by omega, ?_⟩
  intro p l e R s m args below meth c H locs cells slots Q ls dC dI ad cA A H0 hC hW hS hA hsc hl hc1 hc2 kr
  refine hs p l e R s m args below meth c H locs cells slots Q ls dC dI ad cA A H0 hC hW ?_ hS hl hsc (by omega) (by omega) (fun ad' cA' H1 locs1 hE hW1 hS1 => ?_)
  · rintro q (⟨k, hk, rfl⟩ | hq)
    · exact (hW.lt hk).2
    · exact hA q (Nat.le_trans hS.1 hq)
  · have hmap : L.map (am_cv ad') = L.map (am_cv ad) ∧ rest.map (am_cv ad') = rest.map (am_cv ad) := by
      rcases hg with hg | hg
      · rw [hE.2.2 hg]; exact ⟨rfl, rfl⟩
      · simp only [am_fre, Bool.and_eq_true] at hg
        have key : ∀ M : List Value, M.all (am_vk sh.length) = true → M.map (am_cv ad') = M.map (am_cv ad) := by
          intro M hM
          refine List.map_congr_left (fun v hv => ?_)
          have h1 := List.all_eq_true.mp hM v hv
          cases v <;> try rfl
          next a =>
            simp only [am_vk, Bool.or_eq_true, Nat.blt_eq, Nat.beq_eq] at h1
            show Value.ref _ = Value.ref _
            congr 1
            rcases h1 with h1 | rfl | rfl
            · exact hE.1 a h1
            · exact hE.2.1.1
            · exact hE.2.1.2.1
        exact ⟨key L hg.2.1, key rest hg.2.2.1⟩
    have hst : (out1.1.map (am_cv ad')).toList ++ rest.map (am_cv ad) = (out1.1.toList ++ rest).map (am_cv ad') := by
      rw [List.map_append, hmap.2]
      cases out1.1 <;> rfl
    rw [hst]
    refine h.2.2 p l e R s m args below meth c H1 locs1 _ _ Q ls dC dI ad' cA' A H0 hC hW1 hS1 hA (hsc.cong hE.2.1) ⟨hl.1, by rw [am_lv_cong hmap.1]; exact hl.2⟩ (by omega) (by omega) (fun pc2 ad2 cA2 H2 locs2 ls2 q1 q2 q3 q4 => ?_)
    have := kr pc2 ad2 cA2 H2 locs2 ls2 ⟨fun k hk => (q1.1 k (by omega)).trans (hE.1 k hk), ⟨q1.2.1.1.trans hE.2.1.1, q1.2.1.2.1.trans hE.2.1.2.1, q1.2.1.2.2.trans hE.2.1.2.2⟩, fun hq => (q1.2.2 (by omega)).trans (hE.2.2 (by omega))⟩ q2 q3 q4
    rw [show cells + (out1.2.1.length - sh.length) + (out.2.1.length - out1.2.1.length) = cells + (out.2.1.length - sh.length) by omega, show slots + (am_sl out1.2.1 - am_sl sh) + (am_sl out.2.1 - am_sl out1.2.1) = slots + (am_sl out.2.1 - am_sl sh) by omega]
    exact this
theorem am_blind {scr0 : am_Scr} {B : Nat → Prop} {dC : Nat → ClassId} {dI : Nat → Nat → Nat} {ad : Nat → Nat} {cA : Nat → ClassId} {sz : Nat} {av : List Value} : FrameBlind (va_Pc av (fun U => U.heap.size = sz ∧ am_Wd dC dI ad cA (fun _ => True) sh μ U U.heap ∧ am_Nst U ∧ am_Sc scr0 ad B U U.heap)) := by
  intro a U g mk q
  obtain ⟨q0, q1, q2, q3, q4⟩ := q
  exact ⟨q0, q1, q2.moved (u := U) (U := U.calling g mk a) (Vm.Alike.refl U.vm), q3.calling g mk a, q4.same (s := U) (U := U.calling g mk a) rfl⟩
theorem am_nlMax : (am_M.take am_law).all (fun t => Nat.ble t.2.2.2.1 13) = true := by decide +kernel
theorem am_nl13 {j : Nat} (hj : j < am_law) : am_nl j ≤ 13 := by
  unfold am_nl
  rw [List.getD_eq_getElem?_getD]
  cases h : am_M[j]? with
  | none => decide
  | some t =>
    have h2 : (am_M.take am_law)[j]? = some t := by rw [List.getElem?_take_of_lt hj]; exact h
    have := List.all_eq_true.mp am_nlMax t (List.mem_of_getElem? h2)
    exact Nat.le_of_ble_eq_true this
theorem am_yqM_of (hj : j < am_law) : am_yqM j = am_yq j := by
  have h : ∀ k, 1000 ≤ k → ¬ j = k := fun k hk q => by
    have : am_law ≤ 1000 := by decide
    omega
  unfold am_yqM
  split <;> first | (exfalso; exact absurd rfl (h _ (by decide))) | rfl
theorem am_s_call {scr0 : am_Scr} (hs0 : scr0 = none ∨ scr0 = am_sub scr ∨ scr0 = scr) {k : Nat} {i : Instr} (hf : am_fet mm pc = some (i, j)) (hj : j < am_law) (hAs : As.all am_ir = true) (hrest : rest.all am_ir = true) (hlen : rest.length ≤ 8) (hn : As.length ≤ am_nl j)
    (hcal : am_Sd scr0 d j 0 (As ++ List.replicate (am_nl j - As.length) .null) [] sh μ out1) (hg : out1.2.1.length = sh.length ∨ am_fre sh L rest = true)
    (hi : (i = .invokevirtual k ∧ am_st j = false ∧ (am_yq j).name ≠ "<init>" ∧ ∃ b As' n fs, As = .ref b :: As' ∧ As'.length = am_na j ∧ sh[b]? = some (am_ow j + 3, n, fs)) ∨ (i = .invokestatic k ∧ am_st j = true ∧ As.length = am_na j) ∨ (i = .invokespecial k ∧ am_st j = false ∧ (am_yq j).name = "<init>" ∧ ∃ b As', As = .ref b :: As' ∧ As'.length = am_na j))
    (h : am_Sd scr (d + 1) mm (pc + 3) L (out1.1.toList ++ rest) out1.2.1 out1.2.2 out) : am_Sd scr (d + 1) mm pc L (As.reverse ++ rest) sh μ out := by
  have hd0 := am_dec hf
  obtain ⟨m1, m2, m3, m4, m5, m6, m7⟩ := am_mth hj
  refine am_s_after hcal.1 hcal.2.1 hg (fun p l e R s m args below meth c H locs cells slots Q ls dC dI ad cA A H0 hC hW hAA hS hl hsc hr1 hr2 kk => ?_) h
  obtain ⟨hx, hb, hml, hown, hts, hns, hfr, hlo, hin⟩ := hC
  have hsc0 : am_Sc scr0 ad (am_A ad sh H.size) s H := by
    have h9 : am_Sc scr0 ad A s H0 := by
      rcases hs0 with rfl | rfl | rfl
      · trivial
      · exact hsc.sub
      · exact hsc
    exact h9.at hS hAA
  have hM := am_met hj hAs hn hcal l dC dI ad cA H.size
  have hR : d + 1 ≤ R.frames ∧ 8 + (am_nl j + 11) + 40 * d ≤ R.locals := by
    have := am_nl13 hj
    exact ⟨hfr, by omega⟩
  have hG := am_goodW hj
  have hro := lv_room (m := m) (pc := pc) (ls := ls) (rest := (As.reverse ++ rest).map (am_cv ad)) (st := rest.map (am_cv ad)) (by rw [am_catS ad hrest]; exact hlen)
  have hPc : ∀ U : State, U.heap = H → s.WarmedH U.vm → va_Pc (As.map (am_cv ad)) (fun U => U.heap.size = H.size ∧ am_Wd dC dI ad cA (fun _ => True) sh μ U U.heap ∧ am_Nst U ∧ am_Sc scr0 ad (am_A ad sh H.size) U U.heap) (As.map (am_cv ad)).toArray U := by
    intro U hU hWa
    exact ⟨rfl, by rw [hU], by rw [hU]; exact (hW.moved hWa.alike).weaken (fun _ _ _ => trivial), hns.warm hWa, by rw [hU]; exact hsc0.warm hWa⟩
  have hst : (As.reverse ++ rest).map (am_cv ad) = (As.map (am_cv ad)).reverse ++ rest.map (am_cv ad) := by rw [List.map_append, List.map_reverse]
  have hls : ls.size = am_nl mm := hl.2.1
  have hS9 : CallFix p m c (am_cod mm) (am_nl mm) s args am_tbl (am_RC (am_ow mm)) := ⟨hx, hb, hml, hown, hts⟩
  rcases hi with ⟨rfl, hst0, hnm, b, As', n, fs, rfl, hal, hbs⟩ | ⟨rfl, hst0, hal⟩ | ⟨rfl, hst0, hnm, b, As', rfl, hal⟩
  · obtain ⟨nn, hd, hln, hax⟩ := hd0
    have : nn = 3 := Nat.eq_of_beq_eq_true hln
    subst this
    simp only [am_aux, Bool.and_eq_true, Bool.or_eq_true] at hax
    rw [hst0, if_neg (by simp)] at m3
    have hrec : ∃ cellB : Cell, H[ad b]? = some cellB ∧ cellB.vm.isStatics = false ∧ s.vm.findClass (am_yq j).cls = some cellB.cls := by
      obtain ⟨q, hq⟩ := hW.obj hbs
      have hwg := am_ws_get (ad := ad) (cA := cA) (μ := μ) hbs
      rw [am_cellO (ci := am_ow j) rfl] at hwg
      obtain ⟨cell, r1, r2, r3⟩ := va_recv hW.2.2.1 hW.1 hq hwg
      refine ⟨cell, r1, r2, ?_⟩
      have := (am_clsF hq).2.2.2.2.2.2.1
      rw [← this] at r3
      exact r3
    have hst2 : (F0 m pc ls (((Value.ref b :: As').reverse ++ rest).map (am_cv ad))).stack = (As'.map (am_cv ad)).reverse ++ .ref (ad b) :: rest.map (am_cv ad) := by
      show ((Value.ref b :: As').reverse ++ rest).map (am_cv ad) = _
      rw [hst]; simp [am_cv]
    rcases am_callLink hax.1 with hlk | hlk
    · rw [am_yqM_of hj] at hlk
      have hcw : CallW R s args (am_RC (am_ow mm)) (am_yq j).cls k (am_yq j) (am_cod j) (am_nl j) (am_rt j) (am_words j) ({ frames := d, cells := out1.2.1.length - sh.length, slots := am_sl out1.2.1 - am_sl sh, locals := 40 * d }) (out1.2.1.length - sh.length) (am_sl out1.2.1 - am_sl sh) (am_na j) := ⟨callB_of (am_na j) hts hG rfl rfl rfl (hts _ m5) (hts _ hlk) m6 hR, hts _ m3, hts _ (m4 hst0 hnm)⟩
      exact am_callk (va_runV hS9 hM hcw ⟨am_blind, hrec, hPc⟩ rfl (by rw [List.length_map]; exact hal) hls hst2 hro hd ⟨hr1, hr2⟩) hS hAA (fun ad' cA' H1 locs1 => kk ad' cA' H1 locs1)
    · rw [am_yqM_of hj] at hlk
      exact am_callk (va_runVN hS9 hM ⟨va_cnB (am_na j) hts hG rfl rfl rfl (hlk s hns) (hts _ m5) m6 hR, hts _ m3, hts _ (m4 hst0 hnm)⟩ ⟨am_blind, hrec, hPc⟩ rfl (by rw [List.length_map]; exact hal) hls hst2 hro hd ⟨hr1, hr2⟩) hS hAA (fun ad' cA' H1 locs1 => kk ad' cA' H1 locs1)
  · obtain ⟨nn, hd, hln, hax⟩ := hd0
    have : nn = 3 := Nat.eq_of_beq_eq_true hln
    subst this
    simp only [am_aux, Bool.and_eq_true] at hax
    have hax1 := hax.1
    rw [Bool.or_eq_true] at hax1
    rw [hst0, if_pos rfl] at m3
    rcases am_callLink hax1 with hlk | hlk
    · rw [am_yqM_of hj] at hlk
      exact am_callk (va_runS hS9 hM ⟨callB_of (am_na j) hts hG rfl rfl rfl (hts _ m5) (hts _ hlk) m6 hR, hts _ m3⟩ ⟨am_blind, hPc⟩ rfl (by rw [List.length_map]; exact hal) hls hst hro hd ⟨hr1, hr2⟩) hS hAA (fun ad' cA' H1 locs1 => kk ad' cA' H1 locs1)
    · rw [am_yqM_of hj] at hlk
      exact am_callk (va_runSN hS9 hM ⟨va_cnB (am_na j) hts hG rfl rfl rfl (hlk s hns) (hts _ m5) m6 hR, hts _ m3, trivial⟩ ⟨am_blind, hPc⟩ rfl (by rw [List.length_map]; exact hal) hls hst hro hd ⟨hr1, hr2⟩) hS hAA (fun ad' cA' H1 locs1 => kk ad' cA' H1 locs1)
  · obtain ⟨nn, hd, hln, hax⟩ := hd0
    have : nn = 3 := Nat.eq_of_beq_eq_true hln
    subst this
    simp only [am_aux, Bool.and_eq_true] at hax
    have hax1 := hax.1
    rw [Bool.or_eq_true] at hax1
    rw [hst0, if_neg (by simp)] at m3
    have m7 := m7 hnm
    have hst2 : (F0 m pc ls (((Value.ref b :: As').reverse ++ rest).map (am_cv ad))).stack = (As'.map (am_cv ad)).reverse ++ .ref (ad b) :: rest.map (am_cv ad) := by
      show ((Value.ref b :: As').reverse ++ rest).map (am_cv ad) = _
      rw [hst]; simp [am_cv]
    have hw9 : am_words j = Cond.code (am_yq j) (am_cod j) (am_nl j) none :: am_tbl := by rw [← m7]; rfl
    rcases am_callLink hax1 with hlk | hlk
    · rw [am_yqM_of hj] at hlk
      exact am_callk (va_runI hS9 hM ⟨callB_of (am_na j) hts hG hw9 rfl rfl (hts _ m5) (hts _ hlk) m6 hR, hnm, hts _ m3⟩ ⟨am_blind, hPc⟩ rfl (by rw [List.length_map]; exact hal) hls hst2 hro hd ⟨hr1, hr2⟩) hS hAA (fun ad' cA' H1 locs1 => kk ad' cA' H1 locs1)
    · rw [am_yqM_of hj] at hlk
      exact am_callk (va_runIN hS9 hM ⟨va_cnB (am_na j) hts hG hw9 rfl rfl (hlk s hns) (hts _ m5) m6 hR, hnm, hts _ m3⟩ ⟨am_blind, hPc⟩ rfl (by rw [List.length_map]; exact hal) hls hst2 hro hd ⟨hr1, hr2⟩) hS hAA (fun ad' cA' H1 locs1 => kk ad' cA' H1 locs1)
end
