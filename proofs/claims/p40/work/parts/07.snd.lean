section
variable {scr : am_Scr} {d mm pc : Nat} {L S : List Value} {sh : am_Sh} {μ : am_Mu} {out : am_Out} {i : Instr} {j : Nat}
theorem am_inb_in {x : Int32} {n : Nat} (h : am_inb x n = true) : vp_in x n := by
  unfold am_inb at h
  simp only [Bool.not_eq_true', Bool.or_eq_false_iff, decide_eq_false_iff_not] at h
  rintro (q | q)
  · exact h.1 q
  · rw [Nat.ble_eq_true_of_le q] at h; exact absurd h.2 (by simp)
theorem am_s_tblOut {dflt lo hi : Int} {offs : Array Int} {x : Int32} (hf : am_fet mm pc = some (.tableswitch dflt lo hi offs, j)) (hc : x.toInt < lo ∨ hi < x.toInt) (h : am_Sd scr d mm (am_pcOf pc dflt) L S sh μ out) : am_Sd scr d mm pc L (.int x :: S) sh μ out := by
  obtain ⟨n, hd, -, hax⟩ := am_dec hf
  simp only [am_aux, Bool.and_eq_true, decide_eq_true_eq] at hax
  refine am_Sd.frame (fun p l e R s m args below meth c H locs cells slots Q ls dC dI ad cA A H0 hC hW hS hsc hl hr1 hr2 kk => ?_) h
  obtain ⟨hx, hb, hml, hown, hts, hns, hfr, hlo, hin⟩ := hC
  exact lv_tableOut hx hb hd hc (Int.toNat_of_nonneg hax.1).symm (kk ls hl)
theorem am_s_tblIn {dflt lo hi off : Int} {offs : Array Int} {x : Int32} (hf : am_fet mm pc = some (.tableswitch dflt lo hi offs, j)) (hc : ¬ (x.toInt < lo ∨ hi < x.toInt)) (ho : offs[(x.toInt - lo).toNat]? = some off) (h : am_Sd scr d mm (am_pcOf pc off) L S sh μ out) : am_Sd scr d mm pc L (.int x :: S) sh μ out := by
  obtain ⟨n, hd, -, hax⟩ := am_dec hf
  simp only [am_aux, Bool.and_eq_true, decide_eq_true_eq] at hax
  have h1 : 0 ≤ (pc : Int) + off := by
    have := List.all_eq_true.mp hax.2 off (Array.mem_toList_iff.mpr (Array.mem_of_getElem? ho))
    exact of_decide_eq_true this
  refine am_Sd.frame (fun p l e R s m args below meth c H locs cells slots Q ls dC dI ad cA A H0 hC hW hS hsc hl hr1 hr2 kk => ?_) h
  obtain ⟨hx, hb, hml, hown, hts, hns, hfr, hlo, hin⟩ := hC
  exact lv_tableIn hx hb hd (fun q => hc (Or.inl q)) (fun q => hc (Or.inr q)) ho (Int.toNat_of_nonneg h1).symm (kk ls hl)
theorem am_lkOff {P : Int → Prop} (dflt : Int) (x : Int) (hd : P dflt) : ∀ ps : List (Int × Int), (∀ q ∈ ps, P q.2) → P (Op.lookupswitch.offset ps dflt x)
  | [], _ => by simpa [Op.lookupswitch.offset] using hd
  | q :: ps, h => by
    rw [Op.lookupswitch.offset_cons]
    split
    · exact h q List.mem_cons_self
    · exact am_lkOff dflt x hd ps (fun r hr => h r (List.mem_cons_of_mem _ hr))
theorem am_s_lookup {dflt : Int} {ps : Array (Int × Int)} {x : Int32} (hf : am_fet mm pc = some (.lookupswitch dflt ps, j)) (hp : (ps.toList.zip (ps.toList.drop 1)).all (fun (a, next) => a.1 < next.1) = true) (h : am_Sd scr d mm (am_pcOf pc (Op.lookupswitch.offset ps.toList dflt x.toInt)) L S sh μ out) : am_Sd scr d mm pc L (.int x :: S) sh μ out := by
  obtain ⟨n, hd, -, hax⟩ := am_dec hf
  simp only [am_aux, Bool.and_eq_true, decide_eq_true_eq] at hax
  have h1 : 0 ≤ (pc : Int) + Op.lookupswitch.offset ps.toList dflt x.toInt := am_lkOff (P := fun o => 0 ≤ (pc : Int) + o) dflt x.toInt hax.1 ps.toList (fun q hq => of_decide_eq_true (List.all_eq_true.mp hax.2 q hq))
  refine am_Sd.frame (fun p l e R s m args below meth c H locs cells slots Q ls dC dI ad cA A H0 hC hW hS hsc hl hr1 hr2 kk => ?_) h
  obtain ⟨hx, hb, hml, hown, hts, hns, hfr, hlo, hin⟩ := hC
  exact lv_lookup hx hb hd hp rfl (Int.toNat_of_nonneg h1).symm (kk ls hl)
theorem am_okCl (k : Nat) (c : vw_C) (h : am_cl[k]? = some c) : am_okC k c = true := by
  have hk : k < am_cl.length := (List.getElem?_eq_some_iff.mp h).1
  have h1 := List.all_eq_true.mp am_okC_all k (List.mem_range.mpr hk)
  simpa only [List.getD_eq_getElem?_getD, h, Option.getD_some] using h1
theorem am_clsF {k : Nat} {c : vw_C} (h : am_cl[k]? = some c) : (∀ w ∈ u_ws c.1 c.2.1 c.2.2, w ∈ am_tbl) ∧ (∀ a, a < c.2.2 → ∀ b, b < c.2.2 → a ≠ b → (c.2.1 a).2.1 ≠ (c.2.1 b).2.1) ∧ (∀ a, a < c.2.2 → parseFieldDescriptor (c.2.1 a).2.2.1 = some ((parseFieldDescriptor (c.2.1 a).2.2.1).getD .int) ∧ defaultValue ((parseFieldDescriptor (c.2.1 a).2.2.1).getD .int) = (match (am_fresh.getD k []).getD a 0 with | 0 => .int 0 | _ => .null)) ∧ (am_fresh.getD k []).length = c.2.2 ∧ Cond.instantiable c.1 c.2.2 ∈ am_tbl ∧ Cond.initialized c.1 ∈ am_tbl ∧ am_RC k = c.1 ∧ ∀ x ∈ am_fresh.getD k [], x ≤ 1 := by
  have h1 := am_okCl k c h
  simp only [am_okC, Bool.and_eq_true, List.all_eq_true, List.mem_range, Nat.beq_eq, decide_eq_true_eq, Bool.or_eq_true, Bool.not_eq_true', beq_eq_false_iff_ne, Nat.ble_eq] at h1
  obtain ⟨h1, h2, h3, h4, h5, h6, h7⟩ := h1
  refine ⟨fun w hw => ?_, fun a ha b hb hab => ?_, fun a ha => ⟨?_, (h2 a ha).2.2⟩, h3, am_in_mem h4, am_in_mem h5, h6, h7⟩
  · obtain ⟨a, ha, rfl⟩ := List.mem_map.mp hw
    exact am_in_mem (h1 a (List.mem_range.mp ha))
  · rcases (h2 a ha).1 b hb with q | q
    · exact absurd q hab
    · exact q
  · have := (h2 a ha).2.1
    cases hq : parseFieldDescriptor (c.2.1 a).2.2.1 with
    | none => rw [hq] at this; cases this
    | some t => rfl
theorem am_cellO {ad : Nat → Nat} {cA : Nat → ClassId} {e : Nat × Nat × List Nat} {k ci : Nat} {f : Nat → Int32} (h : e.1 = ci + 3) : am_cell ad cA e k f = .inr (ci, am_flds ad e.2.2 f) := by
  obtain ⟨kd, n, fs⟩ := e
  dsimp only at h
  subst h
  rfl
theorem am_cellA {ad : Nat → Nat} {cA : Nat → ClassId} {e : Nat × Nat × List Nat} {k : Nat} {f : Nat → Int32} (h : e.1 < 3) : am_cell ad cA e k f = .inl (cA k, e.2.1, .inl f) := by
  obtain ⟨kd, n, fs⟩ := e
  dsimp only at h
  match kd, h with
  | 0, _ => rfl
  | 1, _ => rfl
  | 2, _ => rfl
/-- an object of the world: its class, and how many slots -/
theorem am_Wd.obj {dC : Nat → ClassId} {dI : Nat → Nat → Nat} {ad : Nat → Nat} {cA : Nat → ClassId} {A : Nat → Prop} {U : State} {H : Heap} (h : am_Wd dC dI ad cA A sh μ U H) {a ci n : Nat} {fs : List Nat} (ha : sh[a]? = some (ci + 3, n, fs)) : ∃ c, am_cl[ci]? = some c := by
  have h1 := am_ws_get (ad := ad) (cA := cA) (μ := μ) ha
  rw [am_cellO (ci := ci) rfl] at h1
  obtain ⟨r, h2, -⟩ := h.1 a _ h1
  exact ⟨r, h2⟩
/-- at most so many slots: a word of the link says that the slot is there -/
theorem am_s_getfield {v a c n : Nat} {fs : List Nat} (hf : am_fet mm pc = some (.getfield v, j)) (ha : sh[a]? = some (j / 100 + 3, n, fs)) (hfs : fs[j % 100]? = some c)
    (h : ∀ w, (∀ ad : Nat → Nat, am_cv ad w = am_fv ad c (μ a (j % 100))) → am_Sd scr d mm (pc + 3) L (w :: S) sh μ out) : am_Sd scr d mm pc L (.ref a :: S) sh μ out := by
  obtain ⟨hd, hax⟩ := am_dec1 hf 3 (fun k h => Nat.eq_of_beq_eq_true h)
  obtain ⟨w, hw⟩ : ∃ w : Value, ∀ ad : Nat → Nat, am_cv ad w = am_fv ad c (μ a (j % 100)) := by
    match c with
    | 0 => exact ⟨.int (μ a (j % 100)), fun _ => rfl⟩
    | 1 => exact ⟨.null, fun _ => rfl⟩
    | b + 2 => exact ⟨.ref b, fun _ => rfl⟩
  refine am_Sd.frame (fun p l e R s m args below meth c H locs cells slots Q ls dC dI ad cA A H0 hC hW hS hsc hl hr1 hr2 kk => ?_) (h w hw)
  obtain ⟨hx, hb, hml, hown, hts, hns, hfr, hlo, hin⟩ := hC
  obtain ⟨k, hk⟩ := hW.obj ha
  obtain ⟨f1, f2, f3, f4, f5, f6, f7, f8⟩ := am_clsF hk
  have hwg := am_ws_get (ad := ad) (cA := cA) (μ := μ) ha
  rw [am_cellO (ci := j / 100) rfl] at hwg
  have hlen := (hW.2.2.2.2 a (j / 100) n fs ha).1
  have hlt : j % 100 < k.2.2 := by rw [← f4, ← hlen]; exact (List.getElem?_eq_some_iff.mp hfs).1
  have hv : (am_flds ad fs (μ a))[j % 100]? = some (am_cv ad w) := by rw [am_flds_get hfs, hw ad]
  have hkk := kk ls hl
  simp only [am_aux, Bool.or_eq_true] at hax
  rcases hax with hax | hax
  · obtain ⟨t, t1, t2, t3, t4⟩ := am_any_mem hax
    have hlink := hts _ (am_atL_mem am_lF_ok t1)
    simp only [am_fldC, t2, t3, t4, hk, cond_false] at hlink
    exact va_get hx hb hts f1 hown hW.2.2.1 hW.1 a hwg hk (j % 100) hlt hlink (fun _ h9 => h9) hv hd hkk
  · obtain ⟨t, t1, t2, t3, t4⟩ := am_any_mem hax
    have hlink := va_Nw.use (A := args) (by simp only [am_fldC, t2, t3, t4, hk, cond_true]; rfl) (hns.1 t t1)
    simp only [am_fldC, t2, t3, t4, hk, cond_true] at hlink
    exact va_getN hx hb hts f1 hown hW.2.2.1 hW.1 a hwg hk (j % 100) hlt hlink (fun _ h9 => h9) hv hd hkk
theorem am_pty {ci k : Nat} {c : vw_C} (hc : am_cl[ci]? = some c) (hk : k < c.2.2) : ∃ ty, parseFieldDescriptor (c.2.1 k).2.2.1 = some ty ∧ (((am_fresh.getD ci []).getD k 9 = 0 ∧ ty = .int) ∨ (¬ (am_fresh.getD ci []).getD k 9 = 0 ∧ ((∃ C, ty = .object C) ∨ ∃ t, ty = .array t))) := by
  have key : ∀ ci, ci < am_cl.length → (match am_cl[ci]? with
      | none => true
      | some c => (List.range c.2.2).all (fun k => match parseFieldDescriptor (c.2.1 k).2.2.1 with
        | some .int => Nat.beq ((am_fresh.getD ci []).getD k 9) 0
        | some (.object _) => !(Nat.beq ((am_fresh.getD ci []).getD k 9) 0)
        | some (.array _) => !(Nat.beq ((am_fresh.getD ci []).getD k 9) 0)
        | _ => false)) = true := by
    intro ci hci
    exact List.all_eq_true.mp (by decide +kernel : (List.range am_cl.length).all (fun ci => (match am_cl[ci]? with
      | none => true
      | some c => (List.range c.2.2).all (fun k => match parseFieldDescriptor (c.2.1 k).2.2.1 with
        | some .int => Nat.beq ((am_fresh.getD ci []).getD k 9) 0
        | some (.object _) => !(Nat.beq ((am_fresh.getD ci []).getD k 9) 0)
        | some (.array _) => !(Nat.beq ((am_fresh.getD ci []).getD k 9) 0)
        | _ => false))) = true) ci (List.mem_range.mpr hci)
  have h1 := key ci (List.getElem?_eq_some_iff.mp hc).1
  rw [hc] at h1
  have h2 := List.all_eq_true.mp h1 k (List.mem_range.mpr hk)
  split at h2
  · next e => exact ⟨_, e, Or.inl ⟨Nat.eq_of_beq_eq_true h2, rfl⟩⟩
  · next C e =>
    refine ⟨_, e, Or.inr ⟨fun q => ?_, Or.inl ⟨C, rfl⟩⟩⟩
    rw [q] at h2; cases h2
  · next C e =>
    refine ⟨_, e, Or.inr ⟨fun q => ?_, Or.inr ⟨C, rfl⟩⟩⟩
    rw [q] at h2; cases h2
  · cases h2
/-- a slot is written -/
theorem am_s_put {v a c n : Nat} {fs fs' : List Nat} {w : Value} {μ' : am_Mu} (hf : am_fet mm pc = some (.putfield v, j)) (ha : sh[a]? = some (j / 100 + 3, n, fs)) (hfs : fs[j % 100]? = some c)
    (hw : (∃ x, w = .int x ∧ c = 0 ∧ fs' = fs ∧ μ' = am_up μ a (j % 100) x) ∨ (∃ b, w = .ref b ∧ ¬ c = 0 ∧ fs' = fs.set (j % 100) (b + 2) ∧ μ' = μ))
    (h : am_Sd scr d mm (pc + 3) L S (sh.set a (j / 100 + 3, n, fs')) μ' out) : am_Sd scr d mm pc L (w :: .ref a :: S) sh μ out := by
  obtain ⟨hd, hax⟩ := am_dec1 hf 3 (fun k h => Nat.eq_of_beq_eq_true h)
  simp only [am_aux, Bool.and_eq_true] at hax
  obtain ⟨hax, hpo⟩ := hax
  have hal : a < sh.length := (List.getElem?_eq_some_iff.mp ha).1
  refine am_Sd.write (by simp) (am_sl_set (e' := (j / 100 + 3, n, fs')) ha rfl) (fun p l e R s m args below meth c0 H locs cells slots Q ls dC dI ad cA A H0 hC hW hS hl kk => ?_) h
  obtain ⟨hx, hb, hml, hown, hts, hns, hfr, hlo, hin⟩ := hC
  obtain ⟨k, hk⟩ := hW.obj ha
  obtain ⟨f1, f2, f3, f4, f5, f6, f7, f8⟩ := am_clsF hk
  have hwg := am_ws_get (ad := ad) (cA := cA) (μ := μ) ha
  rw [am_cellO (ci := j / 100) rfl] at hwg
  obtain ⟨hlen, hwf⟩ := hW.2.2.2.2 a (j / 100) n fs ha
  have hjl : j % 100 < fs.length := (List.getElem?_eq_some_iff.mp hfs).1
  have hlt : j % 100 < k.2.2 := by rw [← f4, ← hlen]; exact hjl
  obtain ⟨ty, hty, hty2⟩ := am_pty hk hlt
  have h0 := hwf (j % 100) c hfs
  obtain ⟨t, t1, t2, t3, t4⟩ := am_any_mem hax
  have hlink := hts _ (am_atL_mem am_lF_ok t1)
  simp only [am_fldC, t2, t3, t4, hk, cond_false] at hlink
  have hnf : narrow ty (am_cv ad w) = am_cv ad w ∧ fits ty (am_cv ad w) = true := by
    rcases hw with ⟨x, rfl, hc0, -, -⟩ | ⟨b, rfl, hc0, -, -⟩
    · rcases hty2 with ⟨q, rfl⟩ | ⟨q, -⟩
      · exact ⟨rfl, rfl⟩
      · exact absurd (h0.mp hc0) q
    · rcases hty2 with ⟨q, rfl⟩ | ⟨q, ⟨C, rfl⟩ | ⟨C, rfl⟩⟩
      · exact absurd (h0.mpr q) hc0
      · exact ⟨rfl, rfl⟩
      · exact ⟨rfl, rfl⟩
  have hset : (am_ws ad cA sh μ).set a (ad a, .inr (j / 100, (am_flds ad fs (μ a)).set (j % 100) (am_cv ad w))) = am_ws ad cA (sh.set a (j / 100 + 3, n, fs')) μ' := by
    refine am_ws_set (by simp) (List.getElem?_set_self hal) ?_ (fun i hi => ⟨List.getElem?_set_ne (fun q => hi q.symm), ?_⟩)
    · rw [am_cellO (ci := j / 100) rfl]
      rcases hw with ⟨x, rfl, rfl, rfl, rfl⟩ | ⟨b, rfl, -, rfl, rfl⟩
      · exact congrArg (fun z => (Sum.inr (j / 100, z) : va_E)) (am_flds_put hfs)
      · exact congrArg (fun z => (Sum.inr (j / 100, z) : va_E)) (am_flds_putr hfs)
    · rcases hw with ⟨x, rfl, rfl, rfl, rfl⟩ | ⟨b, rfl, -, rfl, rfl⟩
      · exact am_up_ne hi
      · rfl
  have hAr : am_Ar cA (sh.set a (j / 100 + 3, n, fs')) s := by
    intro i e9 hi hi3
    by_cases hia : a = i
    · subst hia
      rw [List.getElem?_set_self hal] at hi
      cases hi
      exact absurd hi3 (by omega)
    · rw [List.getElem?_set_ne hia] at hi
      exact hW.2.2.2.1 i e9 hi hi3
  have hWf : am_Wf (sh.set a (j / 100 + 3, n, fs')) := by
    intro i ci n9 fs9 hi
    by_cases hia : a = i
    · subst hia
      rw [List.getElem?_set_self hal] at hi
      have e1 : j / 100 = ci ∧ n = n9 ∧ fs' = fs9 := by
        have := Option.some.inj hi
        simp only [Prod.mk.injEq] at this
        exact ⟨by omega, this.2.1, this.2.2⟩
      obtain ⟨rfl, rfl, rfl⟩ := e1
      rcases hw with ⟨x, -, -, rfl, -⟩ | ⟨b, -, hc0, rfl, -⟩
      · exact ⟨hlen, hwf⟩
      · refine ⟨by rw [List.length_set]; exact hlen, fun k9 c9 hk9 => ?_⟩
        by_cases hkk : j % 100 = k9
        · subst hkk
          rw [List.getElem?_set_self hjl] at hk9
          cases hk9
          exact ⟨fun q => absurd q (by omega), fun q => absurd (h0.mpr q) hc0⟩
        · rw [List.getElem?_set_ne hkk] at hk9
          exact hwf k9 c9 hk9
    · rw [List.getElem?_set_ne hia] at hi
      exact hW.2.2.2.2 i ci n9 fs9 hi
  have kk2 : ∀ (H1 : Heap) (locs1 : List Loc), va_P (dC, dI) am_cl ((am_ws ad cA sh μ).set a (ad a, .inr (j / 100, (am_flds ad fs (μ a)).set (j % 100) (am_cv ad w)))) H1 → va_D A ((am_ws ad cA sh μ).set a (ad a, .inr (j / 100, (am_flds ad fs (μ a)).set (j % 100) (am_cv ad w)))) → va_S A H0 H1 locs1 → W p l e R s m args below meth c0 H1 locs1 cells slots Q (F0 m (pc + 3) ls (S.map (am_cv ad))) := by
    intro H1 locs1 q1 q2 q3
    rw [hset] at q1 q2
    exact kk H1 locs1 ⟨q1, q2, hW.2.2.1, hAr, hWf⟩ q3
  cases hfin : (k.2.1 (j % 100)).2.2.2 with
  | false => exact va_put hx hb hts f1 (fun a => (parseFieldDescriptor (k.2.1 a).2.2.1).getD .int) (fun a ha => (f3 a ha).1) f2 hown hW.2.2.1 hW.1 hW.2.1 hS a hwg hk (j % 100) hlt hlink (fun _ h9 => h9) hfin hty hnf.1 hnf.2 (by rw [am_flds_len]; exact hjl) hd kk2
  | true =>
    simp only [am_putOK, hk, hfin, Bool.not_true, Bool.false_or, Bool.and_eq_true, beq_iff_eq] at hpo
    exact va_putF hx hb hts f1 (fun a => (parseFieldDescriptor (k.2.1 a).2.2.1).getD .int) (fun a ha => (f3 a ha).1) f2 hown hW.2.2.1 hW.1 hW.2.1 hS a hwg hk (j % 100) hlt hlink (fun _ h9 => h9) hfin (hin hpo.1) hpo.2 hty hnf.1 hnf.2 (by rw [am_flds_len]; exact hjl) hd kk2
theorem am_s_iald {x : Int32} {a n : Nat} {fs : List Nat} (hf : am_fet mm pc = some (.iaload, j)) (ha : sh[a]? = some (0, n, fs)) (hx : am_inb x n = true) (h : am_Sd scr d mm (pc + 1) L (.int (μ a x.toNatClampNeg) :: S) sh μ out) : am_Sd scr d mm pc L (.int x :: .ref a :: S) sh μ out := by
  obtain ⟨hd, hax⟩ := am_dec1 hf 1 (fun k h => Nat.eq_of_beq_eq_true h)
  refine am_Sd.frame (fun p l e R s m args below meth c H locs cells slots Q ls dC dI ad cA A H0 hC hW hS hsc hl hr1 hr2 kk => ?_) h
  obtain ⟨hex, hb, hml, hown, hts, hns, hfr, hlo, hin⟩ := hC
  exact va_iald hex hb (hW.K ha (show 0 < 3 by decide)) hW.1 a 0 (am_ws_get ha) rfl (am_inb_in hx) hd (kk ls hl)
theorem am_s_zald {x : Int32} {a n : Nat} {fs : List Nat} (hf : am_fet mm pc = some (.baload, j)) (ha : sh[a]? = some (1, n, fs)) (hx : am_inb x n = true) (h : am_Sd scr d mm (pc + 1) L (.int (μ a x.toNatClampNeg) :: S) sh μ out) : am_Sd scr d mm pc L (.int x :: .ref a :: S) sh μ out := by
  obtain ⟨hd, hax⟩ := am_dec1 hf 1 (fun k h => Nat.eq_of_beq_eq_true h)
  refine am_Sd.frame (fun p l e R s m args below meth c H locs cells slots Q ls dC dI ad cA A H0 hC hW hS hsc hl hr1 hr2 kk => ?_) h
  obtain ⟨hex, hb, hml, hown, hts, hns, hfr, hlo, hin⟩ := hC
  exact va_zald hex hb (hW.K ha (show 1 < 3 by decide)) hW.1 a 0 (am_ws_get ha) rfl (am_inb_in hx) hd (kk ls hl)
theorem am_s_bald {x : Int32} {a n : Nat} {fs : List Nat} (hf : am_fet mm pc = some (.baload, j)) (ha : sh[a]? = some (2, n, fs)) (hx : am_inb x n = true) (h : am_Sd scr d mm (pc + 1) L (.int (μ a x.toNatClampNeg) :: S) sh μ out) : am_Sd scr d mm pc L (.int x :: .ref a :: S) sh μ out := by
  obtain ⟨hd, hax⟩ := am_dec1 hf 1 (fun k h => Nat.eq_of_beq_eq_true h)
  refine am_Sd.frame (fun p l e R s m args below meth c H locs cells slots Q ls dC dI ad cA A H0 hC hW hS hsc hl hr1 hr2 kk => ?_) h
  obtain ⟨hex, hb, hml, hown, hts, hns, hfr, hlo, hin⟩ := hC
  exact va_bald hex hb (hW.K ha (show 2 < 3 by decide)) hW.1 a 0 (am_ws_get ha) rfl (am_inb_in hx) hd (kk ls hl)
theorem am_s_sld {x : Int32} {n : Nat} {f : Nat → Int32} (hf : am_fet mm pc = some (.iaload, j)) (hx : am_inb x n = true) (hs : scr = some (some (n, f))) (h : am_Sd scr d mm (pc + 1) L (.int (f x.toNatClampNeg) :: S) sh μ out) : am_Sd scr d mm pc L (.int x :: .ref am_SCR :: S) sh μ out := by
  obtain ⟨hd, hax⟩ := am_dec1 hf 1 (fun k h => Nat.eq_of_beq_eq_true h)
  refine am_Sd.frame (fun p l e R s m args below meth c H locs cells slots Q ls dC dI ad cA A H0 hC hW hS hsc hl hr1 hr2 kk => ?_) h
  obtain ⟨hex, hb, hml, hown, hts, hns, hfr, hlo, hin⟩ := hC
  subst hs
  exact va_sld hex hb hsc.2.1 hsc.2.2.1 hsc.2.2.2 hS (am_inb_in hx) hd (kk ls hl)
theorem am_s_slen {n : Nat} {f : Nat → Int32} (hf : am_fet mm pc = some (.arraylength, j)) (hs : scr = some (some (n, f))) (h : am_Sd scr d mm (pc + 1) L (.int (Int32.ofNat n) :: S) sh μ out) : am_Sd scr d mm pc L (.ref am_SCR :: S) sh μ out := by
  obtain ⟨hd, hax⟩ := am_dec1 hf 1 (fun k h => Nat.eq_of_beq_eq_true h)
  refine am_Sd.frame (fun p l e R s m args below meth c H locs cells slots Q ls dC dI ad cA A H0 hC hW hS hsc hl hr1 hr2 kk => ?_) h
  obtain ⟨hex, hb, hml, hown, hts, hns, hfr, hlo, hin⟩ := hC
  subst hs
  exact va_slen hex hb hsc.2.1 hsc.2.2.1 hsc.2.2.2 hS hd (kk ls hl)
theorem am_s_alen {a n : Nat} {fs : List Nat} (hf : am_fet mm pc = some (.arraylength, j)) (ha : sh[a]? = some (0, n, fs)) (h : am_Sd scr d mm (pc + 1) L (.int (Int32.ofNat n) :: S) sh μ out) : am_Sd scr d mm pc L (.ref a :: S) sh μ out := by
  obtain ⟨hd, hax⟩ := am_dec1 hf 1 (fun k h => Nat.eq_of_beq_eq_true h)
  refine am_Sd.frame (fun p l e R s m args below meth c H locs cells slots Q ls dC dI ad cA A H0 hC hW hS hsc hl hr1 hr2 kk => ?_) h
  obtain ⟨hex, hb, hml, hown, hts, hns, hfr, hlo, hin⟩ := hC
  exact va_alen hex hb (hW.K ha (show 0 < 3 by decide)) hW.1 a 0 (am_ws_get ha) rfl rfl hd (kk ls hl)
/-- an array's world behind a store -/
theorem am_ws_arr {ad : Nat → Nat} {cA : Nat → ClassId} {a x kd n : Nat} {fs : List Nat} {v : Int32} (ha : sh[a]? = some (kd, n, fs)) (hk : kd < 3) : (am_ws ad cA sh μ).set a (ad a, .inl (cA a, n, .inl (upd (μ a) x v))) = am_ws ad cA sh (am_up μ a x v) :=
  am_ws_set rfl ha (by rw [am_cellA hk, am_up_eq]) (fun i hi => ⟨rfl, am_up_ne hi⟩)
theorem am_s_iast {x v : Int32} {a n : Nat} {fs : List Nat} (hf : am_fet mm pc = some (.iastore, j)) (ha : sh[a]? = some (0, n, fs)) (hx : am_inb x n = true) (h : am_Sd scr d mm (pc + 1) L S sh (am_up μ a x.toNatClampNeg v) out) : am_Sd scr d mm pc L (.int v :: .int x :: .ref a :: S) sh μ out := by
  obtain ⟨hd, hax⟩ := am_dec1 hf 1 (fun k h => Nat.eq_of_beq_eq_true h)
  refine am_Sd.write rfl rfl (fun p l e R s m args below meth c H locs cells slots Q ls dC dI ad cA A H0 hC hW hS hl kk => ?_) h
  obtain ⟨hex, hb, hml, hown, hts, hns, hfr, hlo, hin⟩ := hC
  refine va_iast hex hb (hW.K ha (show 0 < 3 by decide)) hW.1 hW.2.1 hS a 0 (am_ws_get ha) rfl (am_inb_in hx) hd (fun H1 locs1 q1 q2 q3 => ?_)
  rw [am_ws_arr ha (by decide)] at q1 q2
  exact kk H1 locs1 ⟨q1, q2, hW.2.2⟩ q3
theorem am_s_zast {x v : Int32} {a n : Nat} {fs : List Nat} (hf : am_fet mm pc = some (.bastore, j)) (ha : sh[a]? = some (1, n, fs)) (hx : am_inb x n = true) (h : am_Sd scr d mm (pc + 1) L S sh (am_up μ a x.toNatClampNeg (v &&& 1)) out) : am_Sd scr d mm pc L (.int v :: .int x :: .ref a :: S) sh μ out := by
  obtain ⟨hd, hax⟩ := am_dec1 hf 1 (fun k h => Nat.eq_of_beq_eq_true h)
  refine am_Sd.write rfl rfl (fun p l e R s m args below meth c H locs cells slots Q ls dC dI ad cA A H0 hC hW hS hl kk => ?_) h
  obtain ⟨hex, hb, hml, hown, hts, hns, hfr, hlo, hin⟩ := hC
  refine va_zast hex hb (hW.K ha (show 1 < 3 by decide)) hW.1 hW.2.1 hS a 0 (am_ws_get ha) rfl (am_inb_in hx) hd (fun H1 locs1 q1 q2 q3 => ?_)
  rw [show vp_nar .boolean v = v &&& 1 from rfl, am_ws_arr ha (by decide)] at q1 q2
  exact kk H1 locs1 ⟨q1, q2, hW.2.2⟩ q3
theorem am_s_bast {x v : Int32} {a n : Nat} {fs : List Nat} (hf : am_fet mm pc = some (.bastore, j)) (ha : sh[a]? = some (2, n, fs)) (hx : am_inb x n = true) (h : am_Sd scr d mm (pc + 1) L S sh (am_up μ a x.toNatClampNeg v.toInt8.toInt32) out) : am_Sd scr d mm pc L (.int v :: .int x :: .ref a :: S) sh μ out := by
  obtain ⟨hd, hax⟩ := am_dec1 hf 1 (fun k h => Nat.eq_of_beq_eq_true h)
  refine am_Sd.write rfl rfl (fun p l e R s m args below meth c H locs cells slots Q ls dC dI ad cA A H0 hC hW hS hl kk => ?_) h
  obtain ⟨hex, hb, hml, hown, hts, hns, hfr, hlo, hin⟩ := hC
  refine va_bast hex hb (hW.K ha (show 2 < 3 by decide)) hW.1 hW.2.1 hS a 0 (am_ws_get ha) rfl (am_inb_in hx) hd (fun H1 locs1 q1 q2 q3 => ?_)
  rw [show vp_nar .byte v = v.toInt8.toInt32 from rfl, am_ws_arr ha (by decide)] at q1 q2
  exact kk H1 locs1 ⟨q1, q2, hW.2.2⟩ q3
end
