/-! SOUNDNESS: what the abstract machine does, the machine does -/
def am_Nst (U : State) : Prop := (∀ t ∈ am_lN, va_Nw (am_fldC true t) U) ∧ ∀ t ∈ am_lMN, va_Nw (am_metC true t) U
def am_Cx (p : Program) (R : Room) (s : State) (m : MethodId) (args : Array Value) (meth : Method) (c : Code) (mm d : Nat) : Prop :=
  p.tables.exec = Jvm.exec ∧ c.code = am_cod mm ∧ c.maxLocals = am_nl mm ∧ s.vm.findClass (am_RC (am_ow mm)) = some m.cls ∧ (∀ w ∈ am_tbl, w.before args s = true) ∧ am_Nst s ∧ d ≤ R.frames ∧ 40 * d ≤ R.locals ∧ ((am_yq mm).name = "<init>" → meth.name = "<init>")
/-- the text, as it lies among the cells that were there before -/
def am_Tx (q qv : Nat) (A : Nat → Prop) (s : State) (H : Heap) : Prop := va_O "java/lang/String" q A s H ∧ va_OF "java/lang/String" "coder" "B" (.int 0) q A s H ∧ va_OF "java/lang/String" "value" "[B" (.ref qv) q A s H ∧ va_T .byte qv 29 (fun j => .int (am_txt.getD j 0)) A s H ∧ va_Z "java/lang/String" "COMPACT_STRINGS" "Z" (.int 1) A s H ∧ (∃ f : Value, f.category = 1 ∧ va_Z "jdk/internal/util/Preconditions" "SIOOBE_FORMATTER" "Ljava/util/function/BiFunction;" f A s H) ∧ vk_R "SealBookLaw" 39 "t:xa>y+a;k:xa>y+a,y+b;c:1>x-a" q s
theorem am_Tx.same {q qv : Nat} {A : Nat → Prop} {u U : State} {H : Heap} (hv : U.vm = u.vm) (h : am_Tx q qv A u H) : am_Tx q qv A U H := by
  have hvm : u.vm.Alike U.vm := by rw [hv]; exact Vm.Alike.refl _
  obtain ⟨h1, h2, h3, h4, h5, ⟨f, hf, h6⟩, h7⟩ := h
  exact ⟨h1.moved hvm, h2.moved hvm, h3.moved hvm, h4.moved hvm, h5.moved hvm, ⟨f, hf, h6.moved hvm⟩, h7.same hv⟩
theorem am_Tx.warm {q qv : Nat} {A : Nat → Prop} {s U : State} {H : Heap} (hW : s.WarmedH U.vm) (h : am_Tx q qv A s H) : am_Tx q qv A U H := by
  have hvm := hW.alike
  obtain ⟨h1, h2, h3, h4, h5, ⟨f, hf, h6⟩, h7⟩ := h
  exact ⟨h1.moved hvm, h2.moved hvm, h3.moved hvm, h4.moved hvm, h5.moved hvm, ⟨f, hf, h6.moved hvm⟩, h7.warm hW⟩
theorem am_Tx.kept {q qv : Nat} {A : Nat → Prop} {s : State} {H H1 : Heap} (hq : ∀ a : Nat, a < H.size → ¬ A a → H1[a]? = H[a]?) (h : am_Tx q qv A s H) : am_Tx q qv A s H1 := by
  obtain ⟨h1, h2, h3, h4, h5, ⟨f, hf, h6⟩, h7⟩ := h
  exact ⟨h1.kept hq, h2.kept hq, h3.kept hq, h4.kept hq, h5.kept hq, ⟨f, hf, h6.kept hq⟩, h7⟩
theorem am_Tx.narrow {q qv : Nat} {A B : Nat → Prop} {s : State} {H : Heap} (hAB : ∀ a, B a → A a) (h : am_Tx q qv A s H) : am_Tx q qv B s H := by
  obtain ⟨h1, h2, h3, h4, h5, ⟨f, hf, h6⟩, h7⟩ := h
  exact ⟨h1.narrow hAB, h2.narrow hAB, h3.narrow hAB, h4.narrow hAB, h5.narrow hAB, ⟨f, hf, h6.narrow hAB⟩, h7⟩
def am_Sc (scr : am_Scr) (ad : Nat → Nat) (A : Nat → Prop) (s : State) (H0 : Heap) : Prop := match scr with
  | none => True
  | some none => am_Tx (ad am_STR) (ad am_STV) A s H0
  | some (some (L, xs)) => am_Tx (ad am_STR) (ad am_STV) A s H0 ∧ va_X (ad am_SCR) L xs s H0 ∧ ad am_SCR < H0.size ∧ ¬ A (ad am_SCR)
theorem am_Sc.sub {scr : am_Scr} {ad : Nat → Nat} {A : Nat → Prop} {s : State} {H0 : Heap} (h : am_Sc scr ad A s H0) : am_Sc (am_sub scr) ad A s H0 := by
  match scr, h with
  | none, _ => trivial
  | some none, h => exact h
  | some (some (L, xs)), h => exact h.1
theorem am_Sc.tx {z : Option (Nat × (Nat → Int32))} {ad : Nat → Nat} {A : Nat → Prop} {s : State} {H0 : Heap} (h : am_Sc (some z) ad A s H0) : am_Tx (ad am_STR) (ad am_STV) A s H0 := by
  match z, h with
  | none, h => exact h
  | some (L, xs), h => exact h.1
def am_E3 (ad ad' : Nat → Nat) : Prop := ad' am_SCR = ad am_SCR ∧ ad' am_STR = ad am_STR ∧ ad' am_STV = ad am_STV
theorem am_Sc.cong {scr : am_Scr} {ad ad' : Nat → Nat} {A : Nat → Prop} {s : State} {H0 : Heap} (e : am_E3 ad ad') (h : am_Sc scr ad A s H0) : am_Sc scr ad' A s H0 := by
  match scr, h with
  | none, _ => trivial
  | some none, h =>
    show am_Tx (ad' am_STR) (ad' am_STV) A s H0
    rw [e.2.1, e.2.2]
    exact h
  | some (some (L, xs)), h =>
    show am_Tx (ad' am_STR) (ad' am_STV) A s H0 ∧ va_X (ad' am_SCR) L xs s H0 ∧ ad' am_SCR < H0.size ∧ ¬ A (ad' am_SCR)
    rw [e.1, e.2.1, e.2.2]
    exact h
/-- at a callee's entry -/
theorem am_Sc.at {scr : am_Scr} {ad : Nat → Nat} {A B : Nat → Prop} {s : State} {H0 H : Heap} {locs : List Loc} (h : am_Sc scr ad A s H0) (hS : va_S A H0 H locs) (hAB : ∀ q, B q → A q) : am_Sc scr ad B s H := by
  have hk : ∀ a : Nat, a < H0.size → ¬ A a → H[a]? = H0[a]? := fun a h1 h2 => hS.2.1 a h1 h2
  match scr, h with
  | none, _ => trivial
  | some none, h => exact (am_Tx.kept hk h).narrow hAB
  | some (some (L, xs)), h => exact ⟨(am_Tx.kept hk h.1).narrow hAB, h.2.1.kept (hk _ h.2.2.1 h.2.2.2), Nat.lt_of_lt_of_le h.2.2.1 hS.1, fun q => h.2.2.2 (hAB _ q)⟩
theorem am_Sc.warm {scr : am_Scr} {ad : Nat → Nat} {A : Nat → Prop} {s U : State} {H : Heap} (hW : s.WarmedH U.vm) (h : am_Sc scr ad A s H) : am_Sc scr ad A U H := by
  match scr, h with
  | none, _ => trivial
  | some none, h => exact am_Tx.warm hW h
  | some (some (L, xs)), h => exact ⟨h.1.warm hW, h.2.1.moved hW.alike, h.2.2⟩
theorem am_Sc.same {scr : am_Scr} {ad : Nat → Nat} {A : Nat → Prop} {s U : State} {H : Heap} (hv : U.vm = s.vm) (h : am_Sc scr ad A s H) : am_Sc scr ad A U H := by
  match scr, h with
  | none, _ => trivial
  | some none, h => exact am_Tx.same hv h
  | some (some (L, xs)), h => exact ⟨h.1.same hv, h.2.1.moved (by rw [hv]; exact Vm.Alike.refl _), h.2.2⟩
def am_Ext (ad ad' : Nat → Nat) (sh sh' : am_Sh) : Prop := (∀ k, k < sh.length → ad' k = ad k) ∧ am_E3 ad ad' ∧ (sh'.length = sh.length → ad' = ad)
def am_Rt (mm pc : Nat) (r : Option Value) : Prop := match r with
  | none => decode (am_cod mm) pc = .ok (.return_, 1) ∧ am_rt mm = none
  | some (.int x) => decode (am_cod mm) pc = .ok (.ireturn, 1) ∧ (am_rt mm = some .int ∨ (am_rt mm = some .boolean ∧ x &&& 1 = x))
  | some (.ref _) => decode (am_cod mm) pc = .ok (.areturn, 1) ∧ ∃ C, am_rt mm = some (.object C)
  | _ => False
def am_Sd (scr : am_Scr) (d mm pc : Nat) (L S : List Value) (sh : am_Sh) (μ : am_Mu) (out : am_Out) : Prop :=
  sh.length ≤ out.2.1.length ∧ am_sl sh ≤ am_sl out.2.1 ∧
  ∀ (p : Program) (l : Launch) (e : Env) (R : Room) (s : State) (m : MethodId) (args : Array Value) (below : List Frame) (meth : Method) (c : Code) (H : Heap) (locs : List Loc) (cells slots : Nat) (Q : State → Prop) (ls : Array Slot) (dC : Nat → ClassId) (dI : Nat → Nat → Nat) (ad : Nat → Nat) (cA : Nat → ClassId) (A : Nat → Prop) (H0 : Heap),
    am_Cx p R s m args meth c mm d → am_Wd dC dI ad cA A sh μ s H → va_S A H0 H locs → (∀ q, H0.size ≤ q → A q) → am_Sc scr ad A s H0 → am_Lok ad L ls (am_nl mm) → cells + out.2.1.length ≤ R.cells + sh.length → slots + am_sl out.2.1 ≤ R.slots + am_sl sh →
    (∀ (pc' : Nat) (ad' : Nat → Nat) (cA' : Nat → ClassId) (H' : Heap) (locs' : List Loc) (ls' : Array Slot), am_Ext ad ad' sh out.2.1 → am_Wd dC dI ad' cA' A out.2.1 out.2.2 s H' → va_S A H0 H' locs' → am_Rt mm pc' out.1 → W p l e R s m args below meth c H' locs' (cells + (out.2.1.length - sh.length)) (slots + (am_sl out.2.1 - am_sl sh)) Q (F0 m pc' ls' (out.1.map (am_cv ad')).toList)) →
    W p l e R s m args below meth c H locs cells slots Q (F0 m pc ls (S.map (am_cv ad)))
/-- a step that writes no cell -/
theorem am_Sd.frame {scr : am_Scr} {d mm pc pc' : Nat} {L S L' S' : List Value} {sh : am_Sh} {μ : am_Mu} {out : am_Out}
    (hs : ∀ (p : Program) (l : Launch) (e : Env) (R : Room) (s : State) (m : MethodId) (args : Array Value) (below : List Frame) (meth : Method) (c : Code) (H : Heap) (locs : List Loc) (cells slots : Nat) (Q : State → Prop) (ls : Array Slot) (dC : Nat → ClassId) (dI : Nat → Nat → Nat) (ad : Nat → Nat) (cA : Nat → ClassId) (A : Nat → Prop) (H0 : Heap),
      am_Cx p R s m args meth c mm d → am_Wd dC dI ad cA A sh μ s H → va_S A H0 H locs → am_Sc scr ad A s H0 → am_Lok ad L ls (am_nl mm) → cells ≤ R.cells → slots ≤ R.slots →
      (∀ ls' : Array Slot, am_Lok ad L' ls' (am_nl mm) → W p l e R s m args below meth c H locs cells slots Q (F0 m pc' ls' (S'.map (am_cv ad)))) →
      W p l e R s m args below meth c H locs cells slots Q (F0 m pc ls (S.map (am_cv ad))))
    (h : am_Sd scr d mm pc' L' S' sh μ out) : am_Sd scr d mm pc L S sh μ out := by
  refine ⟨h.1, h.2.1, ?_⟩
  intro p l e R s m args below meth c H locs cells slots Q ls dC dI ad cA A H0 hC hW hS hA hsc hl hc1 hc2 kr
  have a1 := h.1
  have a2 := h.2.1
  exact hs p l e R s m args below meth c H locs cells slots Q ls dC dI ad cA A H0 hC hW hS hsc hl (by omega) (by omega) (fun ls' hl' => h.2.2 p l e R s m args below meth c H locs cells slots Q ls' dC dI ad cA A H0 hC hW hS hA hsc hl' hc1 hc2 kr)
/-- a step that writes one cell -/
theorem am_Sd.write {scr : am_Scr} {d mm pc pc' : Nat} {L S S' : List Value} {sh sh' : am_Sh} {μ μ' : am_Mu} {out : am_Out} (hlen : sh'.length = sh.length) (hsl : am_sl sh' = am_sl sh)
    (hs : ∀ (p : Program) (l : Launch) (e : Env) (R : Room) (s : State) (m : MethodId) (args : Array Value) (below : List Frame) (meth : Method) (c : Code) (H : Heap) (locs : List Loc) (cells slots : Nat) (Q : State → Prop) (ls : Array Slot) (dC : Nat → ClassId) (dI : Nat → Nat → Nat) (ad : Nat → Nat) (cA : Nat → ClassId) (A : Nat → Prop) (H0 : Heap),
      am_Cx p R s m args meth c mm d → am_Wd dC dI ad cA A sh μ s H → va_S A H0 H locs → am_Lok ad L ls (am_nl mm) →
      (∀ (H1 : Heap) (locs1 : List Loc), am_Wd dC dI ad cA A sh' μ' s H1 → va_S A H0 H1 locs1 → W p l e R s m args below meth c H1 locs1 cells slots Q (F0 m pc' ls (S'.map (am_cv ad)))) →
      W p l e R s m args below meth c H locs cells slots Q (F0 m pc ls (S.map (am_cv ad))))
    (h : am_Sd scr d mm pc' L S' sh' μ' out) : am_Sd scr d mm pc L S sh μ out := by
  refine ⟨by rw [← hlen]; exact h.1, by rw [← hsl]; exact h.2.1, ?_⟩
  intro p l e R s m args below meth c H locs cells slots Q ls dC dI ad cA A H0 hC hW hS hA hsc hl hc1 hc2 kr
  refine hs p l e R s m args below meth c H locs cells slots Q ls dC dI ad cA A H0 hC hW hS hl (fun H1 locs1 hW1 hS1 => ?_)
  refine h.2.2 p l e R s m args below meth c H1 locs1 cells slots Q ls dC dI ad cA A H0 hC hW1 hS1 hA hsc hl (by rw [hlen]; exact hc1) (by rw [hsl]; exact hc2) (fun pc2 ad2 cA2 H2 locs2 ls2 g1 g2 g3 g4 => ?_)
  have := kr pc2 ad2 cA2 H2 locs2 ls2 ⟨fun k hk => g1.1 k (by rw [hlen]; exact hk), g1.2.1, fun q => g1.2.2 (by rw [hlen]; exact q)⟩ g2 g3 g4
  rw [hlen, hsl]
  exact this
theorem am_any_mem {l : List (Nat × Nat × Nat × Nat)} {o k j : Nat} (h : am_any l o k j = true) : ∃ t ∈ l, t.1 = o ∧ t.2.1 = k ∧ t.2.2.1 = j := by
  unfold am_any at h
  obtain ⟨t, h1, h2⟩ := List.any_eq_true.mp h
  simp only [Bool.and_eq_true, Nat.beq_eq] at h2
  exact ⟨t, h1, h2.2.1, h2.1, h2.2.2⟩
theorem am_atL_mem {l : List (Nat × Nat × Nat × Nat)} {f : Nat × Nat × Nat × Nat → Cond} (h : am_atL l f = true) {t : Nat × Nat × Nat × Nat} (ht : t ∈ l) : f t ∈ am_tbl := am_in_mem (List.all_eq_true.mp h t ht)
section
variable {scr : am_Scr} {d mm pc : Nat} {L S : List Value} {sh : am_Sh} {μ : am_Mu} {out : am_Out} {i : Instr} {j : Nat}
theorem am_dec (h : am_fet mm pc = some (i, j)) : ∃ n, decode (am_cod mm) pc = .ok (i, n) ∧ am_ln i n = true ∧ am_aux mm pc i j = true := by
  have h1 := am_okAll mm pc i j h
  unfold am_okR at h1
  split at h1
  · next i' n e =>
    simp only [Bool.and_eq_true, decide_eq_true_eq] at h1
    obtain ⟨rfl, h2, h3⟩ := h1
    exact ⟨n, e, h2, h3⟩
  · cases h1
theorem am_dec1 (h : am_fet mm pc = some (i, j)) (n : Nat) (hn : ∀ k, am_ln i k = true → k = n) : decode (am_cod mm) pc = .ok (i, n) ∧ am_aux mm pc i j = true := by
  obtain ⟨k, h1, h2, h3⟩ := am_dec h
  rw [hn k h2] at h1
  exact ⟨h1, h3⟩
theorem am_kon {v : Nat} (h : am_any am_lK (am_ow mm) v j = true) : Cond.constant (am_RC (am_ow mm)) v (Int32.ofNat j) ∈ am_tbl := by
  obtain ⟨t, h1, h2, h3, h4⟩ := am_any_mem h
  have h5 := am_atL_mem am_lK_ok h1
  simpa only [h2, h3, h4] using h5
theorem am_konL {v : Nat} (h : am_any am_lKL (am_ow mm) v j = true) : Cond.constantLong (am_RC (am_ow mm)) v (Int64.ofNat j) ∈ am_tbl := by
  obtain ⟨t, h1, h2, h3, h4⟩ := am_any_mem h
  have h5 := am_atL_mem am_lKL_ok h1
  simpa only [h2, h3, h4] using h5
theorem am_s_iconst {v : Int} (hf : am_fet mm pc = some (.iconst v, j)) (h : am_Sd scr d mm (pc + 1) L (.int (Int32.ofInt v) :: S) sh μ out) : am_Sd scr d mm pc L (S) sh μ out := by
  obtain ⟨hd, hax⟩ := am_dec1 hf 1 (fun k h => Nat.eq_of_beq_eq_true h)
  refine am_Sd.frame (fun p l e R s m args below meth c H locs cells slots Q ls dC dI ad cA A H0 hC hW hS hsc hl hr1 hr2 kk => ?_) h
  obtain ⟨hx, hb, hml, hown, hts, hns, hfr, hlo, hin⟩ := hC
  exact lv_iconst (v := Int32.ofInt v) hx hb hd rfl (kk ls hl)
theorem am_s_bipush {v : Int} (hf : am_fet mm pc = some (.bipush v, j)) (h : am_Sd scr d mm (pc + 2) L (.int (Int8.ofInt v).toInt32 :: S) sh μ out) : am_Sd scr d mm pc L (S) sh μ out := by
  obtain ⟨hd, hax⟩ := am_dec1 hf 2 (fun k h => Nat.eq_of_beq_eq_true h)
  refine am_Sd.frame (fun p l e R s m args below meth c H locs cells slots Q ls dC dI ad cA A H0 hC hW hS hsc hl hr1 hr2 kk => ?_) h
  obtain ⟨hx, hb, hml, hown, hts, hns, hfr, hlo, hin⟩ := hC
  exact lv_bipush hx hb hd rfl (kk ls hl)
theorem am_s_sipush {v : Int} (hf : am_fet mm pc = some (.sipush v, j)) (h : am_Sd scr d mm (pc + 3) L (.int (Int16.ofInt v).toInt32 :: S) sh μ out) : am_Sd scr d mm pc L (S) sh μ out := by
  obtain ⟨hd, hax⟩ := am_dec1 hf 3 (fun k h => Nat.eq_of_beq_eq_true h)
  refine am_Sd.frame (fun p l e R s m args below meth c H locs cells slots Q ls dC dI ad cA A H0 hC hW hS hsc hl hr1 hr2 kk => ?_) h
  obtain ⟨hx, hb, hml, hown, hts, hns, hfr, hlo, hin⟩ := hC
  exact lv_sipush hx hb hd rfl (kk ls hl)
theorem am_s_ldcs {v : Nat} {z : Option (Nat × (Nat → Int32))} (hf : am_fet mm pc = some (.ldc v, j)) (hj : Nat.beq j am_STR = true) (hs : scr = some z) (h : am_Sd scr d mm (pc + 2) L (.ref am_STR :: S) sh μ out) : am_Sd scr d mm pc L (S) sh μ out := by
  obtain ⟨hd, hax⟩ := am_dec1 hf 2 (fun k h => Nat.eq_of_beq_eq_true h)
  simp only [am_aux, hj, cond_true, Bool.and_eq_true, Nat.beq_eq, beq_iff_eq] at hax
  obtain ⟨rfl, hR⟩ := hax
  refine am_Sd.frame (fun p l e R s m args below meth c H locs cells slots Q ls dC dI ad cA A H0 hC hW hS hsc hl hr1 hr2 kk => ?_) h
  obtain ⟨hx, hb, hml, hown, hts, hns, hfr, hlo, hin⟩ := hC
  subst hs
  obtain ⟨h1, h2, h3, h4, h5, h6, h7⟩ := hsc.tx
  rw [hR] at hown
  exact va_ldcS hx hb hown h7 hd (kk ls hl)
theorem am_s_ldc {v : Nat} (hf : am_fet mm pc = some (.ldc v, j)) (hj : Nat.beq j am_STR = false) (h : am_Sd scr d mm (pc + 2) L (.int (Int32.ofNat j) :: S) sh μ out) : am_Sd scr d mm pc L (S) sh μ out := by
  obtain ⟨hd, hax⟩ := am_dec1 hf 2 (fun k h => Nat.eq_of_beq_eq_true h)
  simp only [am_aux, hj, cond_false] at hax
  refine am_Sd.frame (fun p l e R s m args below meth c H locs cells slots Q ls dC dI ad cA A H0 hC hW hS hsc hl hr1 hr2 kk => ?_) h
  obtain ⟨hx, hb, hml, hown, hts, hns, hfr, hlo, hin⟩ := hC
  exact lv_ldc hx hb hown (hts _ (am_kon hax)) hd (kk ls hl)
theorem am_s_ldc_w {v : Nat} (hf : am_fet mm pc = some (.ldc_w v, j)) (h : am_Sd scr d mm (pc + 3) L (.int (Int32.ofNat j) :: S) sh μ out) : am_Sd scr d mm pc L (S) sh μ out := by
  obtain ⟨hd, hax⟩ := am_dec1 hf 3 (fun k h => Nat.eq_of_beq_eq_true h)
  refine am_Sd.frame (fun p l e R s m args below meth c H locs cells slots Q ls dC dI ad cA A H0 hC hW hS hsc hl hr1 hr2 kk => ?_) h
  obtain ⟨hx, hb, hml, hown, hts, hns, hfr, hlo, hin⟩ := hC
  exact lv_ldcw hx hb hown (hts _ (am_kon hax)) hd (kk ls hl)
theorem am_s_ldc2_w {v : Nat} (hf : am_fet mm pc = some (.ldc2_w v, j)) (h : am_Sd scr d mm (pc + 3) L (.long (Int64.ofNat j) :: S) sh μ out) : am_Sd scr d mm pc L (S) sh μ out := by
  obtain ⟨hd, hax⟩ := am_dec1 hf 3 (fun k h => Nat.eq_of_beq_eq_true h)
  refine am_Sd.frame (fun p l e R s m args below meth c H locs cells slots Q ls dC dI ad cA A H0 hC hW hS hsc hl hr1 hr2 kk => ?_) h
  obtain ⟨hx, hb, hml, hown, hts, hns, hfr, hlo, hin⟩ := hC
  exact lv_ldc2 hx hb hown (hts _ (am_konL hax)) hd (kk ls hl)
theorem am_s_iload_n {k : Fin 4} {x : Int32} (hf : am_fet mm pc = some (.iload_n k, j)) (hk : L[k.val]? = some (.int x)) (h : am_Sd scr d mm (pc + 1) L (.int x :: S) sh μ out) : am_Sd scr d mm pc L (S) sh μ out := by
  obtain ⟨hd, hax⟩ := am_dec1 hf 1 (fun k h => Nat.eq_of_beq_eq_true h)
  refine am_Sd.frame (fun p l e R s m args below meth c H locs cells slots Q ls dC dI ad cA A H0 hC hW hS hsc hl hr1 hr2 kk => ?_) h
  obtain ⟨hx, hb, hml, hown, hts, hns, hfr, hlo, hin⟩ := hC
  exact lv_iload_n hx hb hd rfl (hl.get hk rfl) (kk ls hl)
theorem am_s_iload {k : Nat} {x : Int32} (hf : am_fet mm pc = some (.iload k, j)) (hk : L[k]? = some (.int x)) (h : am_Sd scr d mm (pc + 2) L (.int x :: S) sh μ out) : am_Sd scr d mm pc L (S) sh μ out := by
  obtain ⟨hd, hax⟩ := am_dec1 hf 2 (fun k h => Nat.eq_of_beq_eq_true h)
  refine am_Sd.frame (fun p l e R s m args below meth c H locs cells slots Q ls dC dI ad cA A H0 hC hW hS hsc hl hr1 hr2 kk => ?_) h
  obtain ⟨hx, hb, hml, hown, hts, hns, hfr, hlo, hin⟩ := hC
  exact lv_iload hx hb hd (hl.get hk rfl) (kk ls hl)
theorem am_s_aload_n {k : Fin 4} {x : Nat} (hf : am_fet mm pc = some (.aload_n k, j)) (hk : L[k.val]? = some (.ref x)) (h : am_Sd scr d mm (pc + 1) L (.ref x :: S) sh μ out) : am_Sd scr d mm pc L (S) sh μ out := by
  obtain ⟨hd, hax⟩ := am_dec1 hf 1 (fun k h => Nat.eq_of_beq_eq_true h)
  refine am_Sd.frame (fun p l e R s m args below meth c H locs cells slots Q ls dC dI ad cA A H0 hC hW hS hsc hl hr1 hr2 kk => ?_) h
  obtain ⟨hx, hb, hml, hown, hts, hns, hfr, hlo, hin⟩ := hC
  exact lv_aload_n hx hb hd rfl (hl.get hk rfl) (kk ls hl)
theorem am_s_aload {k : Nat} {x : Nat} (hf : am_fet mm pc = some (.aload k, j)) (hk : L[k]? = some (.ref x)) (h : am_Sd scr d mm (pc + 2) L (.ref x :: S) sh μ out) : am_Sd scr d mm pc L (S) sh μ out := by
  obtain ⟨hd, hax⟩ := am_dec1 hf 2 (fun k h => Nat.eq_of_beq_eq_true h)
  refine am_Sd.frame (fun p l e R s m args below meth c H locs cells slots Q ls dC dI ad cA A H0 hC hW hS hsc hl hr1 hr2 kk => ?_) h
  obtain ⟨hx, hb, hml, hown, hts, hns, hfr, hlo, hin⟩ := hC
  exact lv_aload hx hb hd (hl.get hk rfl) (kk ls hl)
theorem am_s_istore_n {k : Fin 4} {x : Int32} (hf : am_fet mm pc = some (.istore_n k, j)) (hk : k.val < L.length) (h : am_Sd scr d mm (pc + 1) (L.set k.val (.int x)) (S) sh μ out) : am_Sd scr d mm pc L (.int x :: S) sh μ out := by
  obtain ⟨hd, hax⟩ := am_dec1 hf 1 (fun k h => Nat.eq_of_beq_eq_true h)
  refine am_Sd.frame (fun p l e R s m args below meth c H locs cells slots Q ls dC dI ad cA A H0 hC hW hS hsc hl hr1 hr2 kk => ?_) h
  obtain ⟨hx, hb, hml, hown, hts, hns, hfr, hlo, hin⟩ := hC
  exact lv_istore_n hx hb hd rfl hl.2 (by rw [← hl.1]; exact hk) rfl (fun ls9 hl9 => kk ls9 (hl.set (v := .int x) rfl hl9))
theorem am_s_istore {k : Nat} {x : Int32} (hf : am_fet mm pc = some (.istore k, j)) (hk : k < L.length) (h : am_Sd scr d mm (pc + 2) (L.set k (.int x)) (S) sh μ out) : am_Sd scr d mm pc L (.int x :: S) sh μ out := by
  obtain ⟨hd, hax⟩ := am_dec1 hf 2 (fun k h => Nat.eq_of_beq_eq_true h)
  refine am_Sd.frame (fun p l e R s m args below meth c H locs cells slots Q ls dC dI ad cA A H0 hC hW hS hsc hl hr1 hr2 kk => ?_) h
  obtain ⟨hx, hb, hml, hown, hts, hns, hfr, hlo, hin⟩ := hC
  exact lv_istore hx hb hd hl.2 (by rw [← hl.1]; exact hk) rfl (fun ls9 hl9 => kk ls9 (hl.set (v := .int x) rfl hl9))
theorem am_s_astore_n {k : Fin 4} {x : Nat} (hf : am_fet mm pc = some (.astore_n k, j)) (hk : k.val < L.length) (h : am_Sd scr d mm (pc + 1) (L.set k.val (.ref x)) (S) sh μ out) : am_Sd scr d mm pc L (.ref x :: S) sh μ out := by
  obtain ⟨hd, hax⟩ := am_dec1 hf 1 (fun k h => Nat.eq_of_beq_eq_true h)
  refine am_Sd.frame (fun p l e R s m args below meth c H locs cells slots Q ls dC dI ad cA A H0 hC hW hS hsc hl hr1 hr2 kk => ?_) h
  obtain ⟨hx, hb, hml, hown, hts, hns, hfr, hlo, hin⟩ := hC
  exact lv_astore_n hx hb hd rfl hl.2 (by rw [← hl.1]; exact hk) rfl (fun ls9 hl9 => kk ls9 (hl.set (v := .ref x) rfl hl9))
theorem am_s_astore {k : Nat} {x : Nat} (hf : am_fet mm pc = some (.astore k, j)) (hk : k < L.length) (h : am_Sd scr d mm (pc + 2) (L.set k (.ref x)) (S) sh μ out) : am_Sd scr d mm pc L (.ref x :: S) sh μ out := by
  obtain ⟨hd, hax⟩ := am_dec1 hf 2 (fun k h => Nat.eq_of_beq_eq_true h)
  refine am_Sd.frame (fun p l e R s m args below meth c H locs cells slots Q ls dC dI ad cA A H0 hC hW hS hsc hl hr1 hr2 kk => ?_) h
  obtain ⟨hx, hb, hml, hown, hts, hns, hfr, hlo, hin⟩ := hC
  exact lv_astore hx hb hd hl.2 (by rw [← hl.1]; exact hk) rfl (fun ls9 hl9 => kk ls9 (hl.set (v := .ref x) rfl hl9))
theorem am_s_iinc {k : Nat} {v : Int} {x : Int32} (hf : am_fet mm pc = some (.iinc k v, j)) (hk : L[k]? = some (.int x)) (h : am_Sd scr d mm (pc + 3) (L.set k (.int (x + Int32.ofInt v))) (S) sh μ out) : am_Sd scr d mm pc L (S) sh μ out := by
  obtain ⟨hd, hax⟩ := am_dec1 hf 3 (fun k h => Nat.eq_of_beq_eq_true h)
  refine am_Sd.frame (fun p l e R s m args below meth c H locs cells slots Q ls dC dI ad cA A H0 hC hW hS hsc hl hr1 hr2 kk => ?_) h
  obtain ⟨hx, hb, hml, hown, hts, hns, hfr, hlo, hin⟩ := hC
  obtain ⟨q, hq⟩ := List.getElem?_of_mem (am_lv_mem.mpr ⟨_, hk, rfl, rfl⟩ : (k, Value.int x) ∈ am_lv ad L)
  exact lv_iinc hx hb hd hl.2 hq rfl (by rw [← hl.1]; exact (List.getElem?_eq_some_iff.mp hk).1) rfl (fun ls9 hl9 => kk ls9 (hl.set (v := .int (x + Int32.ofInt v)) rfl hl9))
theorem am_s_iadd {x y : Int32} (hf : am_fet mm pc = some (.iadd, j)) (h : am_Sd scr d mm (pc + 1) L (.int (x + y) :: S) sh μ out) : am_Sd scr d mm pc L (.int y :: .int x :: S) sh μ out := by
  obtain ⟨hd, hax⟩ := am_dec1 hf 1 (fun k h => Nat.eq_of_beq_eq_true h)
  refine am_Sd.frame (fun p l e R s m args below meth c H locs cells slots Q ls dC dI ad cA A H0 hC hW hS hsc hl hr1 hr2 kk => ?_) h
  obtain ⟨hx, hb, hml, hown, hts, hns, hfr, hlo, hin⟩ := hC
  exact lv_iadd hx hb hd (kk ls hl)
theorem am_s_isub {x y : Int32} (hf : am_fet mm pc = some (.isub, j)) (h : am_Sd scr d mm (pc + 1) L (.int (x - y) :: S) sh μ out) : am_Sd scr d mm pc L (.int y :: .int x :: S) sh μ out := by
  obtain ⟨hd, hax⟩ := am_dec1 hf 1 (fun k h => Nat.eq_of_beq_eq_true h)
  refine am_Sd.frame (fun p l e R s m args below meth c H locs cells slots Q ls dC dI ad cA A H0 hC hW hS hsc hl hr1 hr2 kk => ?_) h
  obtain ⟨hx, hb, hml, hown, hts, hns, hfr, hlo, hin⟩ := hC
  exact lv_isub hx hb hd (kk ls hl)
theorem am_s_imul {x y : Int32} (hf : am_fet mm pc = some (.imul, j)) (h : am_Sd scr d mm (pc + 1) L (.int (x * y) :: S) sh μ out) : am_Sd scr d mm pc L (.int y :: .int x :: S) sh μ out := by
  obtain ⟨hd, hax⟩ := am_dec1 hf 1 (fun k h => Nat.eq_of_beq_eq_true h)
  refine am_Sd.frame (fun p l e R s m args below meth c H locs cells slots Q ls dC dI ad cA A H0 hC hW hS hsc hl hr1 hr2 kk => ?_) h
  obtain ⟨hx, hb, hml, hown, hts, hns, hfr, hlo, hin⟩ := hC
  exact lv_imul hx hb hd (kk ls hl)
theorem am_s_iand {x y : Int32} (hf : am_fet mm pc = some (.iand, j)) (h : am_Sd scr d mm (pc + 1) L (.int (x &&& y) :: S) sh μ out) : am_Sd scr d mm pc L (.int y :: .int x :: S) sh μ out := by
  obtain ⟨hd, hax⟩ := am_dec1 hf 1 (fun k h => Nat.eq_of_beq_eq_true h)
  refine am_Sd.frame (fun p l e R s m args below meth c H locs cells slots Q ls dC dI ad cA A H0 hC hW hS hsc hl hr1 hr2 kk => ?_) h
  obtain ⟨hx, hb, hml, hown, hts, hns, hfr, hlo, hin⟩ := hC
  exact lv_iand hx hb hd (kk ls hl)
theorem am_s_ior {x y : Int32} (hf : am_fet mm pc = some (.ior, j)) (h : am_Sd scr d mm (pc + 1) L (.int (x ||| y) :: S) sh μ out) : am_Sd scr d mm pc L (.int y :: .int x :: S) sh μ out := by
  obtain ⟨hd, hax⟩ := am_dec1 hf 1 (fun k h => Nat.eq_of_beq_eq_true h)
  refine am_Sd.frame (fun p l e R s m args below meth c H locs cells slots Q ls dC dI ad cA A H0 hC hW hS hsc hl hr1 hr2 kk => ?_) h
  obtain ⟨hx, hb, hml, hown, hts, hns, hfr, hlo, hin⟩ := hC
  exact lv_ior hx hb hd (kk ls hl)
theorem am_s_ixor {x y : Int32} (hf : am_fet mm pc = some (.ixor, j)) (h : am_Sd scr d mm (pc + 1) L (.int (x ^^^ y) :: S) sh μ out) : am_Sd scr d mm pc L (.int y :: .int x :: S) sh μ out := by
  obtain ⟨hd, hax⟩ := am_dec1 hf 1 (fun k h => Nat.eq_of_beq_eq_true h)
  refine am_Sd.frame (fun p l e R s m args below meth c H locs cells slots Q ls dC dI ad cA A H0 hC hW hS hsc hl hr1 hr2 kk => ?_) h
  obtain ⟨hx, hb, hml, hown, hts, hns, hfr, hlo, hin⟩ := hC
  exact lv_ixor hx hb hd (kk ls hl)
theorem am_s_ishl {x y : Int32} (hf : am_fet mm pc = some (.ishl, j)) (h : am_Sd scr d mm (pc + 1) L (.int (x <<< (y &&& 31)) :: S) sh μ out) : am_Sd scr d mm pc L (.int y :: .int x :: S) sh μ out := by
  obtain ⟨hd, hax⟩ := am_dec1 hf 1 (fun k h => Nat.eq_of_beq_eq_true h)
  refine am_Sd.frame (fun p l e R s m args below meth c H locs cells slots Q ls dC dI ad cA A H0 hC hW hS hsc hl hr1 hr2 kk => ?_) h
  obtain ⟨hx, hb, hml, hown, hts, hns, hfr, hlo, hin⟩ := hC
  exact lv_ishl hx hb hd (kk ls hl)
theorem am_s_ishr {x y : Int32} (hf : am_fet mm pc = some (.ishr, j)) (h : am_Sd scr d mm (pc + 1) L (.int (x >>> (y &&& 31)) :: S) sh μ out) : am_Sd scr d mm pc L (.int y :: .int x :: S) sh μ out := by
  obtain ⟨hd, hax⟩ := am_dec1 hf 1 (fun k h => Nat.eq_of_beq_eq_true h)
  refine am_Sd.frame (fun p l e R s m args below meth c H locs cells slots Q ls dC dI ad cA A H0 hC hW hS hsc hl hr1 hr2 kk => ?_) h
  obtain ⟨hx, hb, hml, hown, hts, hns, hfr, hlo, hin⟩ := hC
  exact lv_ishr hx hb hd (kk ls hl)
theorem am_s_iushr {x y : Int32} (hf : am_fet mm pc = some (.iushr, j)) (h : am_Sd scr d mm (pc + 1) L (.int (x.toUInt32 >>> (y.toUInt32 &&& Int32.toUInt32 31)).toInt32 :: S) sh μ out) : am_Sd scr d mm pc L (.int y :: .int x :: S) sh μ out := by
  obtain ⟨hd, hax⟩ := am_dec1 hf 1 (fun k h => Nat.eq_of_beq_eq_true h)
  refine am_Sd.frame (fun p l e R s m args below meth c H locs cells slots Q ls dC dI ad cA A H0 hC hW hS hsc hl hr1 hr2 kk => ?_) h
  obtain ⟨hx, hb, hml, hown, hts, hns, hfr, hlo, hin⟩ := hC
  exact lv_iushr hx hb hd rfl (kk ls hl)
theorem am_s_idiv {x y : Int32} (hf : am_fet mm pc = some (.idiv, j)) (hne : ¬ y = 0) (h : am_Sd scr d mm (pc + 1) L (.int (x / y) :: S) sh μ out) : am_Sd scr d mm pc L (.int y :: .int x :: S) sh μ out := by
  obtain ⟨hd, hax⟩ := am_dec1 hf 1 (fun k h => Nat.eq_of_beq_eq_true h)
  refine am_Sd.frame (fun p l e R s m args below meth c H locs cells slots Q ls dC dI ad cA A H0 hC hW hS hsc hl hr1 hr2 kk => ?_) h
  obtain ⟨hx, hb, hml, hown, hts, hns, hfr, hlo, hin⟩ := hC
  exact lv_idiv hx hb hd hne (kk ls hl)
theorem am_s_irem {x y : Int32} (hf : am_fet mm pc = some (.irem, j)) (hne : ¬ y = 0) (h : am_Sd scr d mm (pc + 1) L (.int (x - x / y * y) :: S) sh μ out) : am_Sd scr d mm pc L (.int y :: .int x :: S) sh μ out := by
  obtain ⟨hd, hax⟩ := am_dec1 hf 1 (fun k h => Nat.eq_of_beq_eq_true h)
  refine am_Sd.frame (fun p l e R s m args below meth c H locs cells slots Q ls dC dI ad cA A H0 hC hW hS hsc hl hr1 hr2 kk => ?_) h
  obtain ⟨hx, hb, hml, hown, hts, hns, hfr, hlo, hin⟩ := hC
  exact lv_irem hx hb hd hne (kk ls hl)
theorem am_s_lrem {x y : Int64} (hf : am_fet mm pc = some (.lrem, j)) (hne : ¬ y = 0) (h : am_Sd scr d mm (pc + 1) L (.long (x - x / y * y) :: S) sh μ out) : am_Sd scr d mm pc L (.long y :: .long x :: S) sh μ out := by
  obtain ⟨hd, hax⟩ := am_dec1 hf 1 (fun k h => Nat.eq_of_beq_eq_true h)
  refine am_Sd.frame (fun p l e R s m args below meth c H locs cells slots Q ls dC dI ad cA A H0 hC hW hS hsc hl hr1 hr2 kk => ?_) h
  obtain ⟨hx, hb, hml, hown, hts, hns, hfr, hlo, hin⟩ := hC
  exact lv_lrem hx hb hd hne (kk ls hl)
theorem am_s_ladd {x y : Int64} (hf : am_fet mm pc = some (.ladd, j)) (h : am_Sd scr d mm (pc + 1) L (.long (x + y) :: S) sh μ out) : am_Sd scr d mm pc L (.long y :: .long x :: S) sh μ out := by
  obtain ⟨hd, hax⟩ := am_dec1 hf 1 (fun k h => Nat.eq_of_beq_eq_true h)
  refine am_Sd.frame (fun p l e R s m args below meth c H locs cells slots Q ls dC dI ad cA A H0 hC hW hS hsc hl hr1 hr2 kk => ?_) h
  obtain ⟨hx, hb, hml, hown, hts, hns, hfr, hlo, hin⟩ := hC
  exact lv_ladd hx hb hd (kk ls hl)
theorem am_s_lmul {x y : Int64} (hf : am_fet mm pc = some (.lmul, j)) (h : am_Sd scr d mm (pc + 1) L (.long (x * y) :: S) sh μ out) : am_Sd scr d mm pc L (.long y :: .long x :: S) sh μ out := by
  obtain ⟨hd, hax⟩ := am_dec1 hf 1 (fun k h => Nat.eq_of_beq_eq_true h)
  refine am_Sd.frame (fun p l e R s m args below meth c H locs cells slots Q ls dC dI ad cA A H0 hC hW hS hsc hl hr1 hr2 kk => ?_) h
  obtain ⟨hx, hb, hml, hown, hts, hns, hfr, hlo, hin⟩ := hC
  exact lv_lmul hx hb hd (kk ls hl)
theorem am_s_ineg {x : Int32} (hf : am_fet mm pc = some (.ineg, j)) (h : am_Sd scr d mm (pc + 1) L (.int (-x) :: S) sh μ out) : am_Sd scr d mm pc L (.int x :: S) sh μ out := by
  obtain ⟨hd, hax⟩ := am_dec1 hf 1 (fun k h => Nat.eq_of_beq_eq_true h)
  refine am_Sd.frame (fun p l e R s m args below meth c H locs cells slots Q ls dC dI ad cA A H0 hC hW hS hsc hl hr1 hr2 kk => ?_) h
  obtain ⟨hx, hb, hml, hown, hts, hns, hfr, hlo, hin⟩ := hC
  exact lv_ineg hx hb hd (kk ls hl)
theorem am_s_i2b {x : Int32} (hf : am_fet mm pc = some (.i2b, j)) (h : am_Sd scr d mm (pc + 1) L (.int x.toInt8.toInt32 :: S) sh μ out) : am_Sd scr d mm pc L (.int x :: S) sh μ out := by
  obtain ⟨hd, hax⟩ := am_dec1 hf 1 (fun k h => Nat.eq_of_beq_eq_true h)
  refine am_Sd.frame (fun p l e R s m args below meth c H locs cells slots Q ls dC dI ad cA A H0 hC hW hS hsc hl hr1 hr2 kk => ?_) h
  obtain ⟨hx, hb, hml, hown, hts, hns, hfr, hlo, hin⟩ := hC
  exact lv_i2b hx hb hd rfl (kk ls hl)
theorem am_s_i2l {x : Int32} (hf : am_fet mm pc = some (.i2l, j)) (h : am_Sd scr d mm (pc + 1) L (.long x.toInt64 :: S) sh μ out) : am_Sd scr d mm pc L (.int x :: S) sh μ out := by
  obtain ⟨hd, hax⟩ := am_dec1 hf 1 (fun k h => Nat.eq_of_beq_eq_true h)
  refine am_Sd.frame (fun p l e R s m args below meth c H locs cells slots Q ls dC dI ad cA A H0 hC hW hS hsc hl hr1 hr2 kk => ?_) h
  obtain ⟨hx, hb, hml, hown, hts, hns, hfr, hlo, hin⟩ := hC
  exact lv_i2l hx hb hd rfl (kk ls hl)
theorem am_s_l2i {x : Int64} (hf : am_fet mm pc = some (.l2i, j)) (h : am_Sd scr d mm (pc + 1) L (.int x.toInt32 :: S) sh μ out) : am_Sd scr d mm pc L (.long x :: S) sh μ out := by
  obtain ⟨hd, hax⟩ := am_dec1 hf 1 (fun k h => Nat.eq_of_beq_eq_true h)
  refine am_Sd.frame (fun p l e R s m args below meth c H locs cells slots Q ls dC dI ad cA A H0 hC hW hS hsc hl hr1 hr2 kk => ?_) h
  obtain ⟨hx, hb, hml, hown, hts, hns, hfr, hlo, hin⟩ := hC
  exact lv_l2i hx hb hd rfl (kk ls hl)
theorem am_s_dup {v : Value} (hf : am_fet mm pc = some (.dup, j)) (hv : am_ir v = true) (h : am_Sd scr d mm (pc + 1) L (v :: v :: S) sh μ out) : am_Sd scr d mm pc L (v :: S) sh μ out := by
  obtain ⟨hd, hax⟩ := am_dec1 hf 1 (fun k h => Nat.eq_of_beq_eq_true h)
  refine am_Sd.frame (fun p l e R s m args below meth c H locs cells slots Q ls dC dI ad cA A H0 hC hW hS hsc hl hr1 hr2 kk => ?_) h
  obtain ⟨hx, hb, hml, hown, hts, hns, hfr, hlo, hin⟩ := hC
  exact lv_dup hx hb hd (am_cat1 hv) (kk ls hl)
theorem am_s_pop {v : Value} (hf : am_fet mm pc = some (.pop, j)) (hv : am_ir v = true) (h : am_Sd scr d mm (pc + 1) L (S) sh μ out) : am_Sd scr d mm pc L (v :: S) sh μ out := by
  obtain ⟨hd, hax⟩ := am_dec1 hf 1 (fun k h => Nat.eq_of_beq_eq_true h)
  refine am_Sd.frame (fun p l e R s m args below meth c H locs cells slots Q ls dC dI ad cA A H0 hC hW hS hsc hl hr1 hr2 kk => ?_) h
  obtain ⟨hx, hb, hml, hown, hts, hns, hfr, hlo, hin⟩ := hC
  exact lv_pop hx hb hd (am_cat1 hv) (kk ls hl)
theorem am_s_dup2 {v w : Value} (hf : am_fet mm pc = some (.dup2, j)) (hv : am_ir v = true) (hw : am_ir w = true) (h : am_Sd scr d mm (pc + 1) L (v :: w :: v :: w :: S) sh μ out) : am_Sd scr d mm pc L (v :: w :: S) sh μ out := by
  obtain ⟨hd, hax⟩ := am_dec1 hf 1 (fun k h => Nat.eq_of_beq_eq_true h)
  refine am_Sd.frame (fun p l e R s m args below meth c H locs cells slots Q ls dC dI ad cA A H0 hC hW hS hsc hl hr1 hr2 kk => ?_) h
  obtain ⟨hx, hb, hml, hown, hts, hns, hfr, hlo, hin⟩ := hC
  exact lv_dup2_11 hx hb hd (am_cat1 hv) (am_cat1 hw) (kk ls hl)
theorem am_s_goto {off : Int} (hf : am_fet mm pc = some (.goto off, j)) (h : am_Sd scr d mm j L S sh μ out) : am_Sd scr d mm pc L S sh μ out := by
  obtain ⟨hd, hax⟩ := am_dec1 hf 3 (fun k h => Nat.eq_of_beq_eq_true h)
  refine am_Sd.frame (fun p l e R s m args below meth c H locs cells slots Q ls dC dI ad cA A H0 hC hW hS hsc hl hr1 hr2 kk => ?_) h
  obtain ⟨hx, hb, hml, hown, hts, hns, hfr, hlo, hin⟩ := hC
  exact lv_goto hx hb hd (of_decide_eq_true hax) (kk ls hl)
theorem am_s_if_eq_t {off : Int} {x : Int32} (hf : am_fet mm pc = some (.ifCond .eq off, j)) (hc : x = 0) (h : am_Sd scr d mm (j) L S sh μ out) : am_Sd scr d mm pc L (.int x :: S) sh μ out := by
  obtain ⟨hd, hax⟩ := am_dec1 hf 3 (fun k h => Nat.eq_of_beq_eq_true h)
  refine am_Sd.frame (fun p l e R s m args below meth c H locs cells slots Q ls dC dI ad cA A H0 hC hW hS hsc hl hr1 hr2 kk => ?_) h
  obtain ⟨hx, hb, hml, hown, hts, hns, hfr, hlo, hin⟩ := hC
  exact lv_if_eq hx hb hd (of_decide_eq_true hax) (fun _ => kk ls hl) (fun q => absurd hc q)
theorem am_s_if_eq_f {off : Int} {x : Int32} (hf : am_fet mm pc = some (.ifCond .eq off, j)) (hc : ¬ x = 0) (h : am_Sd scr d mm (pc + 3) L S sh μ out) : am_Sd scr d mm pc L (.int x :: S) sh μ out := by
  obtain ⟨hd, hax⟩ := am_dec1 hf 3 (fun k h => Nat.eq_of_beq_eq_true h)
  refine am_Sd.frame (fun p l e R s m args below meth c H locs cells slots Q ls dC dI ad cA A H0 hC hW hS hsc hl hr1 hr2 kk => ?_) h
  obtain ⟨hx, hb, hml, hown, hts, hns, hfr, hlo, hin⟩ := hC
  exact lv_if_eq hx hb hd (of_decide_eq_true hax) (fun q => absurd q hc) (fun _ => kk ls hl)
theorem am_s_icmp_eq_t {off : Int} {x y : Int32} (hf : am_fet mm pc = some (.if_icmp .eq off, j)) (hc : x = y) (h : am_Sd scr d mm (j) L S sh μ out) : am_Sd scr d mm pc L (.int y :: .int x :: S) sh μ out := by
  obtain ⟨hd, hax⟩ := am_dec1 hf 3 (fun k h => Nat.eq_of_beq_eq_true h)
  refine am_Sd.frame (fun p l e R s m args below meth c H locs cells slots Q ls dC dI ad cA A H0 hC hW hS hsc hl hr1 hr2 kk => ?_) h
  obtain ⟨hx, hb, hml, hown, hts, hns, hfr, hlo, hin⟩ := hC
  exact lv_icmp_eq hx hb hd (of_decide_eq_true hax) (fun _ => kk ls hl) (fun q => absurd hc q)
theorem am_s_icmp_eq_f {off : Int} {x y : Int32} (hf : am_fet mm pc = some (.if_icmp .eq off, j)) (hc : ¬ x = y) (h : am_Sd scr d mm (pc + 3) L S sh μ out) : am_Sd scr d mm pc L (.int y :: .int x :: S) sh μ out := by
  obtain ⟨hd, hax⟩ := am_dec1 hf 3 (fun k h => Nat.eq_of_beq_eq_true h)
  refine am_Sd.frame (fun p l e R s m args below meth c H locs cells slots Q ls dC dI ad cA A H0 hC hW hS hsc hl hr1 hr2 kk => ?_) h
  obtain ⟨hx, hb, hml, hown, hts, hns, hfr, hlo, hin⟩ := hC
  exact lv_icmp_eq hx hb hd (of_decide_eq_true hax) (fun q => absurd q hc) (fun _ => kk ls hl)
theorem am_s_if_ne_t {off : Int} {x : Int32} (hf : am_fet mm pc = some (.ifCond .ne off, j)) (hc : ¬ x = 0) (h : am_Sd scr d mm (j) L S sh μ out) : am_Sd scr d mm pc L (.int x :: S) sh μ out := by
  obtain ⟨hd, hax⟩ := am_dec1 hf 3 (fun k h => Nat.eq_of_beq_eq_true h)
  refine am_Sd.frame (fun p l e R s m args below meth c H locs cells slots Q ls dC dI ad cA A H0 hC hW hS hsc hl hr1 hr2 kk => ?_) h
  obtain ⟨hx, hb, hml, hown, hts, hns, hfr, hlo, hin⟩ := hC
  exact lv_if_ne hx hb hd (of_decide_eq_true hax) (fun _ => kk ls hl) (fun q => absurd q hc)
theorem am_s_if_ne_f {off : Int} {x : Int32} (hf : am_fet mm pc = some (.ifCond .ne off, j)) (hc : x = 0) (h : am_Sd scr d mm (pc + 3) L S sh μ out) : am_Sd scr d mm pc L (.int x :: S) sh μ out := by
  obtain ⟨hd, hax⟩ := am_dec1 hf 3 (fun k h => Nat.eq_of_beq_eq_true h)
  refine am_Sd.frame (fun p l e R s m args below meth c H locs cells slots Q ls dC dI ad cA A H0 hC hW hS hsc hl hr1 hr2 kk => ?_) h
  obtain ⟨hx, hb, hml, hown, hts, hns, hfr, hlo, hin⟩ := hC
  exact lv_if_ne hx hb hd (of_decide_eq_true hax) (fun q => absurd hc q) (fun _ => kk ls hl)
theorem am_s_icmp_ne_t {off : Int} {x y : Int32} (hf : am_fet mm pc = some (.if_icmp .ne off, j)) (hc : ¬ x = y) (h : am_Sd scr d mm (j) L S sh μ out) : am_Sd scr d mm pc L (.int y :: .int x :: S) sh μ out := by
  obtain ⟨hd, hax⟩ := am_dec1 hf 3 (fun k h => Nat.eq_of_beq_eq_true h)
  refine am_Sd.frame (fun p l e R s m args below meth c H locs cells slots Q ls dC dI ad cA A H0 hC hW hS hsc hl hr1 hr2 kk => ?_) h
  obtain ⟨hx, hb, hml, hown, hts, hns, hfr, hlo, hin⟩ := hC
  exact lv_icmp_ne hx hb hd (of_decide_eq_true hax) (fun _ => kk ls hl) (fun q => absurd q hc)
theorem am_s_icmp_ne_f {off : Int} {x y : Int32} (hf : am_fet mm pc = some (.if_icmp .ne off, j)) (hc : x = y) (h : am_Sd scr d mm (pc + 3) L S sh μ out) : am_Sd scr d mm pc L (.int y :: .int x :: S) sh μ out := by
  obtain ⟨hd, hax⟩ := am_dec1 hf 3 (fun k h => Nat.eq_of_beq_eq_true h)
  refine am_Sd.frame (fun p l e R s m args below meth c H locs cells slots Q ls dC dI ad cA A H0 hC hW hS hsc hl hr1 hr2 kk => ?_) h
  obtain ⟨hx, hb, hml, hown, hts, hns, hfr, hlo, hin⟩ := hC
  exact lv_icmp_ne hx hb hd (of_decide_eq_true hax) (fun q => absurd hc q) (fun _ => kk ls hl)
theorem am_s_if_lt_t {off : Int} {x : Int32} (hf : am_fet mm pc = some (.ifCond .lt off, j)) (hc : x < 0) (h : am_Sd scr d mm (j) L S sh μ out) : am_Sd scr d mm pc L (.int x :: S) sh μ out := by
  obtain ⟨hd, hax⟩ := am_dec1 hf 3 (fun k h => Nat.eq_of_beq_eq_true h)
  refine am_Sd.frame (fun p l e R s m args below meth c H locs cells slots Q ls dC dI ad cA A H0 hC hW hS hsc hl hr1 hr2 kk => ?_) h
  obtain ⟨hx, hb, hml, hown, hts, hns, hfr, hlo, hin⟩ := hC
  exact lv_if_lt hx hb hd (of_decide_eq_true hax) (fun _ => kk ls hl) (fun q => absurd hc q)
theorem am_s_if_lt_f {off : Int} {x : Int32} (hf : am_fet mm pc = some (.ifCond .lt off, j)) (hc : ¬ x < 0) (h : am_Sd scr d mm (pc + 3) L S sh μ out) : am_Sd scr d mm pc L (.int x :: S) sh μ out := by
  obtain ⟨hd, hax⟩ := am_dec1 hf 3 (fun k h => Nat.eq_of_beq_eq_true h)
  refine am_Sd.frame (fun p l e R s m args below meth c H locs cells slots Q ls dC dI ad cA A H0 hC hW hS hsc hl hr1 hr2 kk => ?_) h
  obtain ⟨hx, hb, hml, hown, hts, hns, hfr, hlo, hin⟩ := hC
  exact lv_if_lt hx hb hd (of_decide_eq_true hax) (fun q => absurd q hc) (fun _ => kk ls hl)
theorem am_s_icmp_lt_t {off : Int} {x y : Int32} (hf : am_fet mm pc = some (.if_icmp .lt off, j)) (hc : x < y) (h : am_Sd scr d mm (j) L S sh μ out) : am_Sd scr d mm pc L (.int y :: .int x :: S) sh μ out := by
  obtain ⟨hd, hax⟩ := am_dec1 hf 3 (fun k h => Nat.eq_of_beq_eq_true h)
  refine am_Sd.frame (fun p l e R s m args below meth c H locs cells slots Q ls dC dI ad cA A H0 hC hW hS hsc hl hr1 hr2 kk => ?_) h
  obtain ⟨hx, hb, hml, hown, hts, hns, hfr, hlo, hin⟩ := hC
  exact lv_icmp_lt hx hb hd (of_decide_eq_true hax) (fun _ => kk ls hl) (fun q => absurd hc q)
theorem am_s_icmp_lt_f {off : Int} {x y : Int32} (hf : am_fet mm pc = some (.if_icmp .lt off, j)) (hc : ¬ x < y) (h : am_Sd scr d mm (pc + 3) L S sh μ out) : am_Sd scr d mm pc L (.int y :: .int x :: S) sh μ out := by
  obtain ⟨hd, hax⟩ := am_dec1 hf 3 (fun k h => Nat.eq_of_beq_eq_true h)
  refine am_Sd.frame (fun p l e R s m args below meth c H locs cells slots Q ls dC dI ad cA A H0 hC hW hS hsc hl hr1 hr2 kk => ?_) h
  obtain ⟨hx, hb, hml, hown, hts, hns, hfr, hlo, hin⟩ := hC
  exact lv_icmp_lt hx hb hd (of_decide_eq_true hax) (fun q => absurd q hc) (fun _ => kk ls hl)
theorem am_s_if_ge_t {off : Int} {x : Int32} (hf : am_fet mm pc = some (.ifCond .ge off, j)) (hc : 0 ≤ x) (h : am_Sd scr d mm (j) L S sh μ out) : am_Sd scr d mm pc L (.int x :: S) sh μ out := by
  obtain ⟨hd, hax⟩ := am_dec1 hf 3 (fun k h => Nat.eq_of_beq_eq_true h)
  refine am_Sd.frame (fun p l e R s m args below meth c H locs cells slots Q ls dC dI ad cA A H0 hC hW hS hsc hl hr1 hr2 kk => ?_) h
  obtain ⟨hx, hb, hml, hown, hts, hns, hfr, hlo, hin⟩ := hC
  exact lv_if_ge hx hb hd (of_decide_eq_true hax) (fun _ => kk ls hl) (fun q => absurd hc q)
theorem am_s_if_ge_f {off : Int} {x : Int32} (hf : am_fet mm pc = some (.ifCond .ge off, j)) (hc : ¬ 0 ≤ x) (h : am_Sd scr d mm (pc + 3) L S sh μ out) : am_Sd scr d mm pc L (.int x :: S) sh μ out := by
  obtain ⟨hd, hax⟩ := am_dec1 hf 3 (fun k h => Nat.eq_of_beq_eq_true h)
  refine am_Sd.frame (fun p l e R s m args below meth c H locs cells slots Q ls dC dI ad cA A H0 hC hW hS hsc hl hr1 hr2 kk => ?_) h
  obtain ⟨hx, hb, hml, hown, hts, hns, hfr, hlo, hin⟩ := hC
  exact lv_if_ge hx hb hd (of_decide_eq_true hax) (fun q => absurd q hc) (fun _ => kk ls hl)
theorem am_s_icmp_ge_t {off : Int} {x y : Int32} (hf : am_fet mm pc = some (.if_icmp .ge off, j)) (hc : y ≤ x) (h : am_Sd scr d mm (j) L S sh μ out) : am_Sd scr d mm pc L (.int y :: .int x :: S) sh μ out := by
  obtain ⟨hd, hax⟩ := am_dec1 hf 3 (fun k h => Nat.eq_of_beq_eq_true h)
  refine am_Sd.frame (fun p l e R s m args below meth c H locs cells slots Q ls dC dI ad cA A H0 hC hW hS hsc hl hr1 hr2 kk => ?_) h
  obtain ⟨hx, hb, hml, hown, hts, hns, hfr, hlo, hin⟩ := hC
  exact lv_icmp_ge hx hb hd (of_decide_eq_true hax) (fun _ => kk ls hl) (fun q => absurd hc q)
theorem am_s_icmp_ge_f {off : Int} {x y : Int32} (hf : am_fet mm pc = some (.if_icmp .ge off, j)) (hc : ¬ y ≤ x) (h : am_Sd scr d mm (pc + 3) L S sh μ out) : am_Sd scr d mm pc L (.int y :: .int x :: S) sh μ out := by
  obtain ⟨hd, hax⟩ := am_dec1 hf 3 (fun k h => Nat.eq_of_beq_eq_true h)
  refine am_Sd.frame (fun p l e R s m args below meth c H locs cells slots Q ls dC dI ad cA A H0 hC hW hS hsc hl hr1 hr2 kk => ?_) h
  obtain ⟨hx, hb, hml, hown, hts, hns, hfr, hlo, hin⟩ := hC
  exact lv_icmp_ge hx hb hd (of_decide_eq_true hax) (fun q => absurd q hc) (fun _ => kk ls hl)
theorem am_s_if_gt_t {off : Int} {x : Int32} (hf : am_fet mm pc = some (.ifCond .gt off, j)) (hc : 0 < x) (h : am_Sd scr d mm (j) L S sh μ out) : am_Sd scr d mm pc L (.int x :: S) sh μ out := by
  obtain ⟨hd, hax⟩ := am_dec1 hf 3 (fun k h => Nat.eq_of_beq_eq_true h)
  refine am_Sd.frame (fun p l e R s m args below meth c H locs cells slots Q ls dC dI ad cA A H0 hC hW hS hsc hl hr1 hr2 kk => ?_) h
  obtain ⟨hx, hb, hml, hown, hts, hns, hfr, hlo, hin⟩ := hC
  exact lv_if_gt hx hb hd (of_decide_eq_true hax) (fun _ => kk ls hl) (fun q => absurd hc q)
theorem am_s_if_gt_f {off : Int} {x : Int32} (hf : am_fet mm pc = some (.ifCond .gt off, j)) (hc : ¬ 0 < x) (h : am_Sd scr d mm (pc + 3) L S sh μ out) : am_Sd scr d mm pc L (.int x :: S) sh μ out := by
  obtain ⟨hd, hax⟩ := am_dec1 hf 3 (fun k h => Nat.eq_of_beq_eq_true h)
  refine am_Sd.frame (fun p l e R s m args below meth c H locs cells slots Q ls dC dI ad cA A H0 hC hW hS hsc hl hr1 hr2 kk => ?_) h
  obtain ⟨hx, hb, hml, hown, hts, hns, hfr, hlo, hin⟩ := hC
  exact lv_if_gt hx hb hd (of_decide_eq_true hax) (fun q => absurd q hc) (fun _ => kk ls hl)
theorem am_s_icmp_gt_t {off : Int} {x y : Int32} (hf : am_fet mm pc = some (.if_icmp .gt off, j)) (hc : y < x) (h : am_Sd scr d mm (j) L S sh μ out) : am_Sd scr d mm pc L (.int y :: .int x :: S) sh μ out := by
  obtain ⟨hd, hax⟩ := am_dec1 hf 3 (fun k h => Nat.eq_of_beq_eq_true h)
  refine am_Sd.frame (fun p l e R s m args below meth c H locs cells slots Q ls dC dI ad cA A H0 hC hW hS hsc hl hr1 hr2 kk => ?_) h
  obtain ⟨hx, hb, hml, hown, hts, hns, hfr, hlo, hin⟩ := hC
  exact lv_icmp_gt hx hb hd (of_decide_eq_true hax) (fun _ => kk ls hl) (fun q => absurd hc q)
theorem am_s_icmp_gt_f {off : Int} {x y : Int32} (hf : am_fet mm pc = some (.if_icmp .gt off, j)) (hc : ¬ y < x) (h : am_Sd scr d mm (pc + 3) L S sh μ out) : am_Sd scr d mm pc L (.int y :: .int x :: S) sh μ out := by
  obtain ⟨hd, hax⟩ := am_dec1 hf 3 (fun k h => Nat.eq_of_beq_eq_true h)
  refine am_Sd.frame (fun p l e R s m args below meth c H locs cells slots Q ls dC dI ad cA A H0 hC hW hS hsc hl hr1 hr2 kk => ?_) h
  obtain ⟨hx, hb, hml, hown, hts, hns, hfr, hlo, hin⟩ := hC
  exact lv_icmp_gt hx hb hd (of_decide_eq_true hax) (fun q => absurd q hc) (fun _ => kk ls hl)
theorem am_s_if_le_t {off : Int} {x : Int32} (hf : am_fet mm pc = some (.ifCond .le off, j)) (hc : x ≤ 0) (h : am_Sd scr d mm (j) L S sh μ out) : am_Sd scr d mm pc L (.int x :: S) sh μ out := by
  obtain ⟨hd, hax⟩ := am_dec1 hf 3 (fun k h => Nat.eq_of_beq_eq_true h)
  refine am_Sd.frame (fun p l e R s m args below meth c H locs cells slots Q ls dC dI ad cA A H0 hC hW hS hsc hl hr1 hr2 kk => ?_) h
  obtain ⟨hx, hb, hml, hown, hts, hns, hfr, hlo, hin⟩ := hC
  exact lv_if_le hx hb hd (of_decide_eq_true hax) (fun _ => kk ls hl) (fun q => absurd hc q)
theorem am_s_if_le_f {off : Int} {x : Int32} (hf : am_fet mm pc = some (.ifCond .le off, j)) (hc : ¬ x ≤ 0) (h : am_Sd scr d mm (pc + 3) L S sh μ out) : am_Sd scr d mm pc L (.int x :: S) sh μ out := by
  obtain ⟨hd, hax⟩ := am_dec1 hf 3 (fun k h => Nat.eq_of_beq_eq_true h)
  refine am_Sd.frame (fun p l e R s m args below meth c H locs cells slots Q ls dC dI ad cA A H0 hC hW hS hsc hl hr1 hr2 kk => ?_) h
  obtain ⟨hx, hb, hml, hown, hts, hns, hfr, hlo, hin⟩ := hC
  exact lv_if_le hx hb hd (of_decide_eq_true hax) (fun q => absurd q hc) (fun _ => kk ls hl)
theorem am_s_icmp_le_t {off : Int} {x y : Int32} (hf : am_fet mm pc = some (.if_icmp .le off, j)) (hc : x ≤ y) (h : am_Sd scr d mm (j) L S sh μ out) : am_Sd scr d mm pc L (.int y :: .int x :: S) sh μ out := by
  obtain ⟨hd, hax⟩ := am_dec1 hf 3 (fun k h => Nat.eq_of_beq_eq_true h)
  refine am_Sd.frame (fun p l e R s m args below meth c H locs cells slots Q ls dC dI ad cA A H0 hC hW hS hsc hl hr1 hr2 kk => ?_) h
  obtain ⟨hx, hb, hml, hown, hts, hns, hfr, hlo, hin⟩ := hC
  exact lv_icmp_le hx hb hd (of_decide_eq_true hax) (fun _ => kk ls hl) (fun q => absurd hc q)
theorem am_s_icmp_le_f {off : Int} {x y : Int32} (hf : am_fet mm pc = some (.if_icmp .le off, j)) (hc : ¬ x ≤ y) (h : am_Sd scr d mm (pc + 3) L S sh μ out) : am_Sd scr d mm pc L (.int y :: .int x :: S) sh μ out := by
  obtain ⟨hd, hax⟩ := am_dec1 hf 3 (fun k h => Nat.eq_of_beq_eq_true h)
  refine am_Sd.frame (fun p l e R s m args below meth c H locs cells slots Q ls dC dI ad cA A H0 hC hW hS hsc hl hr1 hr2 kk => ?_) h
  obtain ⟨hx, hb, hml, hown, hts, hns, hfr, hlo, hin⟩ := hC
  exact lv_icmp_le hx hb hd (of_decide_eq_true hax) (fun q => absurd q hc) (fun _ => kk ls hl)
end
