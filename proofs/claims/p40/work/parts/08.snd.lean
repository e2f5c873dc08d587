section
variable {scr : am_Scr} {d mm pc : Nat} {L S : List Value} {sh : am_Sh} {μ : am_Mu} {out : am_Out} {i : Instr} {j : Nat}
theorem am_mathW : Cond.static Lib.Math.max.name ∈ am_tbl ∧ Cond.static Lib.Math.min.name ∈ am_tbl ∧ Cond.static Lib.Math.abs.name ∈ am_tbl ∧ Cond.initialized "java/lang/Math" ∈ am_tbl ∧ Cond.native arraycopyName ∈ am_tbl ∧ Cond.static arraycopyName ∈ am_tbl ∧ Cond.initialized "java/lang/System" ∈ am_tbl ∧ Cond.instanceMethod objectInit ∈ am_tbl ∧ Cond.arrayClass .int ∈ am_tbl ∧ Cond.arrayClass .boolean ∈ am_tbl ∧ Cond.arrayClass .byte ∈ am_tbl := by
  have h := am_math
  simp only [Bool.and_eq_true] at h
  obtain ⟨h1, h2, h3, h4, h5, h6, h7, h8, h9, h10, h11⟩ := h
  exact ⟨am_in_mem h1, am_in_mem h2, am_in_mem h3, am_in_mem h4, am_in_mem h5, am_in_mem h6, am_in_mem h7, am_in_mem h8, am_in_mem h9, am_in_mem h10, am_in_mem h11⟩
theorem am_catS {S : List Value} (ad : Nat → Nat) (h : S.all am_ir = true) : ((S.map (am_cv ad)).map fun v => v.category).sum = S.length := by
  induction S with
  | nil => rfl
  | cons v t ih =>
    simp only [List.all_cons, Bool.and_eq_true] at h
    simp only [List.map_cons, List.sum_cons, List.length_cons, ih h.2, am_cat1 h.1]
    omega
/-- which link a call has -/
theorem am_callLink {k : Nat} (hax : am_any am_lM (am_ow mm) k j = true ∨ am_any am_lMN (am_ow mm) k j = true) : Cond.methodLink (am_RC (am_ow mm)) k (am_yqM j) ∈ am_tbl ∨ ∀ U, am_Nst U → va_Nw (.methodLinkNest (am_RC (am_ow mm)) k (am_yqM j) "SealBook") U := by
  rcases hax with hax | hax
  · obtain ⟨t, t1, t2, t3, t4⟩ := am_any_mem hax
    have h5 := am_atL_mem am_lM_ok t1
    simp only [am_metC, t2, t3, t4, cond_false] at h5
    exact Or.inl h5
  · obtain ⟨t, t1, t2, t3, t4⟩ := am_any_mem hax
    refine Or.inr (fun U hU => ?_)
    have h5 := hU.2 t t1
    simp only [am_metC, t2, t3, t4, cond_true] at h5
    exact h5
/-- no nest link leads to a method of the library -/
theorem am_noNest : am_lMN.all (fun t => Nat.blt t.2.2.1 am_law) = true := by decide +kernel
theorem am_callLib {k : Nat} (hj : am_law ≤ j) (hax : am_any am_lM (am_ow mm) k j = true ∨ am_any am_lMN (am_ow mm) k j = true) : Cond.methodLink (am_RC (am_ow mm)) k (am_yqM j) ∈ am_tbl := by
  rcases hax with hax | hax
  · obtain ⟨t, t1, t2, t3, t4⟩ := am_any_mem hax
    have h5 := am_atL_mem am_lM_ok t1
    simp only [am_metC, t2, t3, t4, cond_false] at h5
    exact h5
  · obtain ⟨t, t1, t2, t3, t4⟩ := am_any_mem hax
    have h5 := List.all_eq_true.mp am_noNest t t1
    simp only [Nat.blt_eq, t4] at h5
    omega
theorem am_s_obj {v a : Nat} (hf : am_fet mm pc = some (.invokespecial v, 1000)) (hir : S.all am_ir = true) (hlen : S.length ≤ 8) (h : am_Sd scr (d + 1) mm (pc + 3) L S sh μ out) : am_Sd scr (d + 1) mm pc L (.ref a :: S) sh μ out := by
  obtain ⟨hd, hax⟩ := am_dec1 hf 3 (fun k h => Nat.eq_of_beq_eq_true h)
  simp only [am_aux, Bool.and_eq_true, Bool.or_eq_true] at hax
  refine am_Sd.frame (fun p l e R s m args below meth c H locs cells slots Q ls dC dI ad cA A H0 hC hW hS hsc hl hr1 hr2 kk => ?_) h
  obtain ⟨hx, hb, hml, hown, hts, hns, hfr, hlo, hin⟩ := hC
  exact W.objInit hx hb hown (hts _ (am_callLib (by decide) hax.1)) (hts _ am_mathW.2.2.2.2.2.2.2.1) (hts _ am_mathC.2.2.2) rfl (by rw [hml]; exact hl.2.1) rfl hd (by omega) (by rw [am_catS ad hir]; show 2 * 0 + _ + 12 ≤ _; omega) (kk ls hl)
theorem am_s_max {v : Nat} {x y : Int32} (hf : am_fet mm pc = some (.invokestatic v, 1001)) (hir : S.all am_ir = true) (hlen : S.length ≤ 8) (h : am_Sd scr (d + 1) mm (pc + 3) L (.int (if x < y then y else x) :: S) sh μ out) : am_Sd scr (d + 1) mm pc L (.int y :: .int x :: S) sh μ out := by
  obtain ⟨hd, hax⟩ := am_dec1 hf 3 (fun k h => Nat.eq_of_beq_eq_true h)
  simp only [am_aux, Bool.and_eq_true, Bool.or_eq_true] at hax
  refine am_Sd.frame (fun p l e R s m args below meth c H locs cells slots Q ls dC dI ad cA A H0 hC hW hS hsc hl hr1 hr2 kk => ?_) h
  obtain ⟨hx, hb, hml, hown, hts, hns, hfr, hlo, hin⟩ := hC
  exact va_mmax hx hb (by rw [hml]; exact hl.2.1.symm) hown (hts _ (am_callLib (by decide) hax.1)) (hts _ am_mathW.1) (hts _ am_mathW.2.2.2.1) (hts _ am_mathC.1) (by omega) (by rw [am_catS ad hir]; omega) hr1 hr2 hd (kk ls hl)
theorem am_s_min {v : Nat} {x y : Int32} (hf : am_fet mm pc = some (.invokestatic v, 1002)) (hir : S.all am_ir = true) (hlen : S.length ≤ 8) (h : am_Sd scr (d + 1) mm (pc + 3) L (.int (if y < x then y else x) :: S) sh μ out) : am_Sd scr (d + 1) mm pc L (.int y :: .int x :: S) sh μ out := by
  obtain ⟨hd, hax⟩ := am_dec1 hf 3 (fun k h => Nat.eq_of_beq_eq_true h)
  simp only [am_aux, Bool.and_eq_true, Bool.or_eq_true] at hax
  refine am_Sd.frame (fun p l e R s m args below meth c H locs cells slots Q ls dC dI ad cA A H0 hC hW hS hsc hl hr1 hr2 kk => ?_) h
  obtain ⟨hx, hb, hml, hown, hts, hns, hfr, hlo, hin⟩ := hC
  exact va_mmin hx hb (by rw [hml]; exact hl.2.1.symm) hown (hts _ (am_callLib (by decide) hax.1)) (hts _ am_mathW.2.1) (hts _ am_mathW.2.2.2.1) (hts _ am_mathC.2.1) (by omega) (by rw [am_catS ad hir]; omega) hr1 hr2 hd (kk ls hl)
theorem am_s_abs {v : Nat} {x : Int32} (hf : am_fet mm pc = some (.invokestatic v, 1003)) (hir : S.all am_ir = true) (hlen : S.length ≤ 8) (h : am_Sd scr (d + 1) mm (pc + 3) L (.int (if 0 ≤ x then x else 0 - x) :: S) sh μ out) : am_Sd scr (d + 1) mm pc L (.int x :: S) sh μ out := by
  obtain ⟨hd, hax⟩ := am_dec1 hf 3 (fun k h => Nat.eq_of_beq_eq_true h)
  simp only [am_aux, Bool.and_eq_true, Bool.or_eq_true] at hax
  refine am_Sd.frame (fun p l e R s m args below meth c H locs cells slots Q ls dC dI ad cA A H0 hC hW hS hsc hl hr1 hr2 kk => ?_) h
  obtain ⟨hx, hb, hml, hown, hts, hns, hfr, hlo, hin⟩ := hC
  exact va_mabs hx hb (by rw [hml]; exact hl.2.1.symm) hown (hts _ (am_callLib (by decide) hax.1)) (hts _ am_mathW.2.2.1) (hts _ am_mathW.2.2.2.1) (hts _ am_mathC.2.2.1) (by omega) (by rw [am_catS ad hir]; omega) hr1 hr2 hd (kk ls hl)
theorem am_s_copy {v a b n0 n1 : Nat} {n sp dp : Int32} {fa fb : List Nat} (hf : am_fet mm pc = some (.invokestatic v, 1004)) (ha : sh[a]? = some (0, n0, fa)) (hb1 : sh[b]? = some (0, n1, fb)) (h1 : ¬ sp < 0) (h2 : ¬ dp < 0) (h3 : ¬ n < 0) (h4 : sp.toNatClampNeg + n.toNatClampNeg ≤ n0) (h5 : dp.toNatClampNeg + n.toNatClampNeg ≤ n1)
    (h : am_Sd scr (d + 1) mm (pc + 3) L [] sh (am_row μ b (va_cpy (μ a) (μ b) sp.toNatClampNeg dp.toNatClampNeg n.toNatClampNeg)) out) : am_Sd scr (d + 1) mm pc L [.int n, .int dp, .ref b, .int sp, .ref a] sh μ out := by
  obtain ⟨hd, hax⟩ := am_dec1 hf 3 (fun k h => Nat.eq_of_beq_eq_true h)
  simp only [am_aux, Bool.and_eq_true, Bool.or_eq_true] at hax
  refine am_Sd.write (S' := []) rfl rfl (fun p l e R s m args below meth c H locs cells slots Q ls dC dI ad cA A H0 hC hW hS hl kk => ?_) h
  obtain ⟨hx, hb, hml, hown, hts, hns, hfr, hlo, hin⟩ := hC
  have hK : va_K (dC, dI) am_cl [(cA a, .int), (cA b, .int)] s := by
    refine ⟨hW.2.2.1.1, fun i q hq => ?_⟩
    match i, hq with
    | 0, hq => cases hq; exact hW.2.2.2.1 a _ ha (show 0 < 3 by decide)
    | 1, hq => cases hq; exact hW.2.2.2.1 b _ hb1 (show 0 < 3 by decide)
    | i + 2, hq => simp at hq
  refine va_copyi (ty := .int) hx hb (by rw [hml]; exact hl.2.1.symm) hown (hts _ (am_callLib (by decide) hax.1)) (hts _ am_mathW.2.2.2.2.1) (hts _ am_mathW.2.2.2.2.2.1) (hts _ am_mathW.2.2.2.2.2.2.1) hK hW.1 hW.2.1 hS a b 0 1 (am_ws_get ha) (am_ws_get hb1) rfl rfl rfl h1 h2 h3 h4 h5 (fun _ _ => rfl) (by omega) (by
    have : nativeFrameWords "java/lang/System" "arraycopy" 5 + 11 ≤ 40 := by decide +kernel
    show 0 + _ ≤ _
    omega) hd (fun H1 locs1 q1 q2 q3 => ?_)
  have hset : (am_ws ad cA sh μ).set b (ad b, .inl (cA b, n1, .inl (va_cpy (μ a) (μ b) sp.toNatClampNeg dp.toNatClampNeg n.toNatClampNeg))) = am_ws ad cA sh (am_row μ b (va_cpy (μ a) (μ b) sp.toNatClampNeg dp.toNatClampNeg n.toNatClampNeg)) :=
    am_ws_set rfl hb1 (by rw [am_cellA (show 0 < 3 by decide), am_row_eq]) (fun i hi => ⟨rfl, am_row_ne hi⟩)
  rw [hset] at q1 q2
  exact kk H1 locs1 ⟨q1, q2, hW.2.2⟩ q3
/-! new cells -/
theorem am_fre_vk {n : Nat} {L : List Value} (h : L.all (am_vk n) = true) {ad : Nat → Nat} {q : Nat} (hn : n < am_SCR) : L.map (am_cv (fun k => if k = n then q else ad k)) = L.map (am_cv ad) := by
  refine List.map_congr_left (fun v hv => ?_)
  have h1 := List.all_eq_true.mp h v hv
  cases v <;> try rfl
  next a =>
    simp only [am_vk, Bool.or_eq_true, Nat.blt_eq, Nat.beq_eq] at h1
    show Value.ref _ = Value.ref _
    congr 1
    exact if_neg (by
      rintro rfl
      have : am_STR = am_SCR + 1 := rfl
      rcases h1 with h1 | h1 | h1 <;> omega)
theorem am_lv_cong {ad ad' : Nat → Nat} {L : List Value} (h : L.map (am_cv ad') = L.map (am_cv ad)) : am_lv ad' L = am_lv ad L := by
  unfold am_lv
  congr 1
  funext i
  have hi := congrArg (fun l => l[i]?) h
  simp only [List.getElem?_map] at hi
  unfold am_lvF
  cases hL : L[i]? with
  | none => rfl
  | some v =>
    rw [hL] at hi
    have := Option.some.inj hi
    cases v <;> first | rfl | (simp only [am_cv, Value.ref.injEq] at this; simp only [this])
theorem am_ws_push {ad : Nat → Nat} {cA : Nat → ClassId} {q : Nat} {c : ClassId} {e : Nat × Nat × List Nat} (hs : sh.all (am_ek sh.length) = true) : am_ws (fun k => if k = sh.length then q else ad k) (fun k => if k = sh.length then c else cA k) (sh ++ [e]) (am_push μ sh.length) = am_ws ad cA sh μ ++ [(q, am_cell (fun k => if k = sh.length then q else ad k) (fun k => if k = sh.length then c else cA k) e sh.length (fun _ => 0))] := by
  apply List.ext_getElem?
  intro i
  rcases Nat.lt_or_ge i sh.length with h | h
  · obtain ⟨x, hx⟩ : ∃ x, sh[i]? = some x := ⟨_, List.getElem?_eq_getElem h⟩
    rw [am_ws_get (by rw [List.getElem?_append_left h]; exact hx), List.getElem?_append_left (by rw [am_ws_len]; exact h), am_ws_get hx]
    have hne : ¬ i = sh.length := by omega
    have hek := List.all_eq_true.mp hs x (List.mem_of_getElem? hx)
    simp only [am_ek, List.all_eq_true, Nat.blt_eq] at hek
    have hμ : am_push μ sh.length i = μ i := by simp [am_push, hne]
    rw [hμ, if_neg hne]
    congr 2
    obtain ⟨kd, n, fs⟩ := x
    match kd with
    | 0 => simp [am_cell, hne]
    | 1 => simp [am_cell, hne]
    | 2 => simp [am_cell, hne]
    | c9 + 3 =>
      show Sum.inr (c9, _) = Sum.inr (c9, _)
      congr 2
      refine List.map_congr_left (fun k hk => ?_)
      have hk1 := List.mem_range.mp hk
      have h9 := hek (fs.getD k 0) (by rw [List.getD_eq_getElem?_getD, List.getElem?_eq_getElem hk1]; exact List.getElem_mem hk1)
      match hc : fs.getD k 0 with
      | 0 => rfl
      | 1 => rfl
      | b + 2 =>
        rw [hc] at h9
        show Value.ref _ = Value.ref _
        congr 1
        exact if_neg (by omega)
  · rcases Nat.lt_or_ge sh.length i with h2 | h2
    · rw [List.getElem?_eq_none (by rw [am_ws_len]; simp; omega), List.getElem?_eq_none (by simp [am_ws_len]; omega)]
    · have : i = sh.length := by omega
      subst this
      rw [am_ws_get (e := e) (by simp), List.getElem?_append_right (by rw [am_ws_len]; omega)]
      simp [am_ws_len, am_push]
/-- a step that makes one cell -/
theorem am_Sd.fresh {pc' : Nat} {S' : List Value} {e : Nat × Nat × List Nat} (hg : am_fre sh L S' = true) (hwf : ∀ ci n fs, e = (ci + 3, n, fs) → fs.length = (am_fresh.getD ci []).length ∧ ∀ (k c : Nat), fs[k]? = some c → (c = 0 ↔ (am_fresh.getD ci []).getD k 9 = 0))
    (hs : ∀ (p : Program) (l : Launch) (en : Env) (R : Room) (s : State) (m : MethodId) (args : Array Value) (below : List Frame) (meth : Method) (c : Code) (H : Heap) (locs : List Loc) (cells slots : Nat) (Q : State → Prop) (ls : Array Slot) (dC : Nat → ClassId) (dI : Nat → Nat → Nat) (ad : Nat → Nat) (cA : Nat → ClassId) (A : Nat → Prop) (H0 : Heap),
      am_Cx p R s m args meth c mm d → am_Wd dC dI ad cA A sh μ s H → va_S A H0 H locs → (∀ q, H0.size ≤ q → A q) → am_Lok ad L ls (am_nl mm) → cells + 1 ≤ R.cells → slots + e.2.1 ≤ R.slots →
      (∀ (q : Nat) (cc : ClassId) (H1 : Heap), va_P (dC, dI) am_cl (am_ws ad cA sh μ ++ [(q, am_cell (fun k => if k = sh.length then q else ad k) (fun k => if k = sh.length then cc else cA k) e sh.length (fun _ => 0))]) H1 → va_D A (am_ws ad cA sh μ ++ [(q, am_cell (fun k => if k = sh.length then q else ad k) (fun k => if k = sh.length then cc else cA k) e sh.length (fun _ => 0))]) → va_S A H0 H1 locs → (e.1 < 3 → ArrOfT s cc (am_ty e.1) ∧ va_RA s cc (am_ty e.1)) → W p l en R s m args below meth c H1 locs (cells + 1) (slots + e.2.1) Q (F0 m pc' ls (.ref q :: S'.map (am_cv ad)))) →
      W p l en R s m args below meth c H locs cells slots Q (F0 m pc ls (S.map (am_cv ad))))
    (h : am_Sd scr d mm pc' L (.ref sh.length :: S') (sh ++ [e]) (am_push μ sh.length) out) : am_Sd scr d mm pc L S sh μ out := by
  have a1 := h.1
  have a2 := h.2.1
  rw [List.length_append, List.length_singleton] at a1
  rw [am_sl_app] at a2
  simp only [am_fre, Bool.and_eq_true, Nat.blt_eq] at hg
  obtain ⟨g1, g2, g3, g4⟩ := hg
  refine ⟨by omega, by omega, ?_⟩
  intro p l en R s m args below meth c H locs cells slots Q ls dC dI ad cA A H0 hC hW hS hA hsc hl hc1 hc2 kr
  refine hs p l en R s m args below meth c H locs cells slots Q ls dC dI ad cA A H0 hC hW hS hA hl (by omega) (by omega) (fun q cc H1 hP1 hD1 hS1 hAr1 => ?_)
  rw [← am_ws_push g4] at hP1 hD1
  have hS' := am_fre_vk g3 (ad := ad) (q := q) g1
  have hL' := am_fre_vk g2 (ad := ad) (q := q) g1
  have hscr : am_E3 ad (fun k => if k = sh.length then q else ad k) := ⟨if_neg (by omega), if_neg (by have : am_STR = am_SCR + 1 := rfl; omega), if_neg (by have : am_STV = am_SCR + 2 := rfl; omega)⟩
  have hst : (Value.ref sh.length :: S').map (am_cv (fun k => if k = sh.length then q else ad k)) = .ref q :: S'.map (am_cv ad) := by
    rw [List.map_cons, hS']
    simp [am_cv]
  rw [← hst]
  refine h.2.2 p l en R s m args below meth c H1 locs (cells + 1) (slots + e.2.1) Q ls dC dI _ _ A H0 hC ⟨hP1, hD1, hW.2.2.1, ?_, ?_⟩ hS1 hA (hsc.cong hscr) ⟨hl.1, by rw [am_lv_cong hL']; exact hl.2⟩ (by rw [List.length_append, List.length_singleton]; omega) (by rw [am_sl_app]; omega) (fun pc2 ad2 cA2 H2 locs2 ls2 q1 q2 q3 q4 => ?_)
  · intro i e9 hi h3
    rcases Nat.lt_or_ge i sh.length with hlt | hge
    · rw [List.getElem?_append_left hlt] at hi
      dsimp only
      rw [if_neg (show ¬ i = sh.length by omega)]
      exact hW.2.2.2.1 i e9 hi h3
    · rw [List.getElem?_append_right hge] at hi
      have hz : i - sh.length = 0 := by
        have := (List.getElem?_eq_some_iff.mp hi).1
        simp at this; omega
      rw [hz] at hi
      cases hi
      have : i = sh.length := by omega
      dsimp only
      rw [if_pos this]
      exact hAr1 h3
  · intro i ci n fs hi
    rcases Nat.lt_or_ge i sh.length with hlt | hge
    · rw [List.getElem?_append_left hlt] at hi
      exact hW.2.2.2.2 i ci n fs hi
    · rw [List.getElem?_append_right hge] at hi
      have hz : i - sh.length = 0 := by
        have := (List.getElem?_eq_some_iff.mp hi).1
        simp at this; omega
      rw [hz] at hi
      exact hwf ci n fs (Option.some.inj hi)
  · have := kr pc2 ad2 cA2 H2 locs2 ls2 ⟨fun k hk => ?_, ?_, fun hq => absurd hq (by omega)⟩ q2 q3 q4
    · rw [List.length_append, List.length_singleton, am_sl_app]
      rw [show cells + 1 + (out.2.1.length - (sh.length + 1)) = cells + (out.2.1.length - sh.length) by omega, show slots + e.2.1 + (am_sl out.2.1 - (am_sl sh + e.2.1)) = slots + (am_sl out.2.1 - am_sl sh) by omega]
      exact this
    · have := q1.1 k (by rw [List.length_append]; omega)
      rw [this]
      exact if_neg (by omega)
    · exact ⟨q1.2.1.1.trans hscr.1, q1.2.1.2.1.trans hscr.2.1, q1.2.1.2.2.trans hscr.2.2⟩
theorem am_s_newa0 {t : ArrayType} {n : Int32} {kd : Nat} (hf : am_fet mm pc = some (.newarray t, j)) (hk : am_kd t = some kd) (h1 : ¬ n < 0) (h2 : n.toNatClampNeg ≤ 100000) (hg : am_fre sh L S = true) (h : am_Sd scr d mm (pc + 2) L (.ref sh.length :: S) (sh ++ [(kd, n.toNatClampNeg, [])]) (am_push μ sh.length) out) : am_Sd scr d mm pc L (.int n :: S) sh μ out := by
  obtain ⟨hd, hax⟩ := am_dec1 hf 2 (fun k h => Nat.eq_of_beq_eq_true h)
  have hkd : kd < 3 ∧ newarray.typeOf t = am_ty kd ∧ Cond.arrayClass (newarray.typeOf t) ∈ am_tbl ∧ defaultValue (am_ty kd) = .int 0 ∧ componentBytes (am_ty kd) ≤ 4 := by
    cases t <;> simp only [am_kd, Option.some.injEq, reduceCtorEq] at hk <;> subst hk
    · exact ⟨by decide, rfl, am_mathW.2.2.2.2.2.2.2.2.2.1, rfl, by decide⟩
    · exact ⟨by decide, rfl, am_mathW.2.2.2.2.2.2.2.2.2.2, rfl, by decide⟩
    · exact ⟨by decide, rfl, am_mathW.2.2.2.2.2.2.2.2.1, rfl, by decide⟩
  obtain ⟨k1, k2, k3, k4, k5⟩ := hkd
  refine am_Sd.fresh (S' := S) (e := (kd, n.toNatClampNeg, [])) hg (fun ci n9 fs he => absurd k1 (by have := congrArg (fun z => z.1) he; dsimp only at this; omega)) (fun p l en R s m args below meth c H locs cells slots Q ls dC dI ad cA A H0 hC hW hS hA hl hr1 hr2 kk => ?_) h
  obtain ⟨hx, hb, hml, hown, hts, hns, hfr, hlo, hin⟩ := hC
  refine va_newa (a0 := (n.toNatClampNeg, .inl (fun _ => 0))) hx hb (hts _ k3) k2 hW.2.2.1 hW.1 hW.2.1 hS hA (fun cc => by rw [k4]; rfl) h1 rfl (Nat.le_trans (Nat.mul_le_mul h2 k5) (by decide)) hr1 hr2 hd (fun q cc H1 qK qP qD qS => ?_)
  have hcell : am_cell (fun k => if k = sh.length then q else ad k) (fun k => if k = sh.length then cc else cA k) (kd, n.toNatClampNeg, []) sh.length (fun _ => 0) = .inl (cc, n.toNatClampNeg, .inl (fun _ => 0)) := by
    rw [am_cellA k1]; simp
  refine kk q cc H1 (by rw [hcell]; exact qP) (by rw [hcell]; exact qD) qS (fun _ => qK.2 0 (cc, am_ty kd) (by simp))
theorem am_msk_fre {sh : am_Sh} {L S : List Value} (h : am_fre sh [] S = true) : am_fre sh (am_msk sh.length L) S = true := by
  simp only [am_fre, Bool.and_eq_true, List.all_nil, true_and] at h ⊢
  refine ⟨h.1, ?_, h.2⟩
  rw [List.all_eq_true]
  intro v hv
  obtain ⟨w, hw, rfl⟩ := List.mem_map.mp hv
  unfold am_mk
  cases hq : am_vk sh.length w with
  | true => exact hq
  | false => rfl
theorem am_Sd.msk {n : Nat} (h : am_Sd scr d mm pc (am_msk n L) S sh μ out) : am_Sd scr d mm pc L S sh μ out := by
  refine ⟨h.1, h.2.1, ?_⟩
  intro p l e R s m args below meth c H locs cells slots Q ls dC dI ad cA A H0 hC hW hS hA hsc hl hc1 hc2 kr
  refine h.2.2 p l e R s m args below meth c H locs cells slots Q ls dC dI ad cA A H0 hC hW hS hA hsc ⟨by rw [am_msk, List.length_map]; exact hl.1, hl.2.1, hl.2.2.1, fun q hq => ?_⟩ hc1 hc2 kr
  obtain ⟨v, h1, h2, h3⟩ := am_lv_mem.mp hq
  refine hl.2.2.2 q (am_lv_mem.mpr ⟨v, ?_, h2, h3⟩)
  rw [am_msk, List.getElem?_map] at h1
  cases hx : L[q.1]? with
  | none => rw [hx] at h1; cases h1
  | some w =>
    rw [hx] at h1
    have h1 : am_mk n w = v := Option.some.inj h1
    unfold am_mk at h1
    cases hq : am_vk n w with
    | true => rw [hq, cond_true] at h1; rw [h1]
    | false => rw [hq, cond_false] at h1; rw [← h1] at h2; cases h2
theorem am_s_newa {t : ArrayType} {n : Int32} {kd : Nat} (hf : am_fet mm pc = some (.newarray t, j)) (hk : am_kd t = some kd) (h1 : ¬ n < 0) (h2 : n.toNatClampNeg ≤ 100000) (hg : am_fre sh [] S = true) (h : am_Sd scr d mm (pc + 2) (am_msk sh.length L) (.ref sh.length :: S) (sh ++ [(kd, n.toNatClampNeg, [])]) (am_push μ sh.length) out) : am_Sd scr d mm pc L (.int n :: S) sh μ out := am_Sd.msk (am_s_newa0 hf hk h1 h2 (am_msk_fre hg) h)
theorem am_s_new {v : Nat} {fs : List Nat} (hf : am_fet mm pc = some (.new v, j)) (hfs : am_fresh[j]? = some fs) (hg : am_fre sh L S = true) (h : am_Sd scr d mm (pc + 3) L (.ref sh.length :: S) (sh ++ [(j + 3, fs.length, fs)]) (am_push μ sh.length) out) : am_Sd scr d mm pc L S sh μ out := by
  obtain ⟨hd, hax⟩ := am_dec1 hf 3 (fun k h => Nat.eq_of_beq_eq_true h)
  obtain ⟨t, t1, t2, t3, t4⟩ := am_any_mem hax
  have hlink := am_atL_mem am_lC_ok t1
  simp only [am_clsC, t2, t3, t4] at hlink
  obtain ⟨k, hk⟩ : ∃ k, am_cl[j]? = some k := by
    have hj : j < am_fresh.length := (List.getElem?_eq_some_iff.mp hfs).1
    exact ⟨_, List.getElem?_eq_getElem (show j < am_cl.length from hj)⟩
  obtain ⟨f1, f2, f3, f4, f5, f6, f7, f8⟩ := am_clsF hk
  have hgd : am_fresh.getD j [] = fs := by rw [List.getD_eq_getElem?_getD, hfs]; rfl
  rw [hgd] at f3 f4 f8
  refine am_Sd.fresh (S' := S) (e := (j + 3, fs.length, fs)) hg (fun ci n9 fs9 he => ?_) (fun p l en R s m args below meth c H locs cells slots Q ls dC dI ad cA A H0 hC hW hS hA hl hr1 hr2 kk => ?_) h
  · simp only [Prod.mk.injEq] at he
    obtain ⟨e1, -, rfl⟩ := he
    have : j = ci := by omega
    subst this
    rw [hgd]
    refine ⟨rfl, fun k9 c9 h9 => ?_⟩
    rw [List.getD_eq_getElem?_getD, h9]; rfl
  · obtain ⟨hx, hb, hml, hown, hts, hns, hfr, hlo, hin⟩ := hC
    rw [f7] at hlink
    refine va_new (fs := am_flds ad fs (fun _ => 0)) hx hb hts f1 (fun a => (parseFieldDescriptor (k.2.1 a).2.2.1).getD .int) (fun a ha => (f3 a ha).1) hown (hts _ hlink) (hts _ f5) (hts _ f6) hW.2.2.1 hW.1 hW.2.1 hS hA hk (fun a ha => ?_) hr1 (by rw [← f4]; exact hr2) hd (fun q H1 qP qD qS => ?_)
    · rw [(f3 a ha).2]
      have hal : a < fs.length := by rw [f4]; exact ha
      obtain ⟨x, hx9⟩ : ∃ x, fs[a]? = some x := ⟨_, List.getElem?_eq_getElem hal⟩
      have hx1 := f8 x (List.mem_of_getElem? hx9)
      simp only [vp_V, List.getD_eq_getElem?_getD, am_flds_get hx9, hx9, Option.getD_some]
      match x, hx1 with
      | 0, _ => rfl
      | 1, _ => rfl
    · have hcell : am_cell (fun k => if k = sh.length then q else ad k) (fun k => if k = sh.length then 0 else cA k) (j + 3, fs.length, fs) sh.length (fun _ => 0) = .inr (j, am_flds ad fs (fun _ => 0)) := by
        rw [am_cellO (ci := j) rfl]
        congr 2
        refine List.map_congr_left (fun a ha => ?_)
        have hal := List.mem_range.mp ha
        obtain ⟨x, hx9⟩ : ∃ x, fs[a]? = some x := ⟨_, List.getElem?_eq_getElem hal⟩
        have hx1 := f8 x (List.mem_of_getElem? hx9)
        simp only [List.getD_eq_getElem?_getD, hx9, Option.getD_some]
        match x, hx1 with
        | 0, _ => rfl
        | 1, _ => rfl
      have := kk q 0 H1 (by rw [hcell]; exact qP) (by rw [hcell]; exact qD) qS (fun h9 => absurd h9 (by show ¬ j + 3 < 3; omega))
      rw [← f4]
      exact this
end
