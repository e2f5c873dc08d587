/-! WORLDS: the abstract machine's memory as cells of the heap -/
def am_cv (ad : Nat → Nat) : Value → Value
  | .ref a => .ref (ad a)
  | v => v
def am_fv (ad : Nat → Nat) (c : Nat) (x : Int32) : Value := match c with
  | 0 => .int x
  | 1 => .null
  | b + 2 => .ref (ad b)
def am_flds (ad : Nat → Nat) (fs : List Nat) (f : Nat → Int32) : List Value := (List.range fs.length).map (fun j => am_fv ad (fs.getD j 0) (f j))
def am_cell (ad : Nat → Nat) (cA : Nat → ClassId) (e : Nat × Nat × List Nat) (k : Nat) (f : Nat → Int32) : va_E := match e.1 with
  | 0 => .inl (cA k, e.2.1, .inl f)
  | 1 => .inl (cA k, e.2.1, .inl f)
  | 2 => .inl (cA k, e.2.1, .inl f)
  | c + 3 => .inr (c, am_flds ad e.2.2 f)
def am_ws (ad : Nat → Nat) (cA : Nat → ClassId) (sh : am_Sh) (μ : am_Mu) : va_W := (List.range sh.length).map (fun k => (ad k, am_cell ad cA (sh.getD k (0, 0, [])) k (μ k)))
def am_ty (kd : Nat) : FieldType := match kd with
  | 0 => .int
  | 1 => .boolean
  | _ => .byte
def am_Ar (cA : Nat → ClassId) (sh : am_Sh) (U : State) : Prop := ∀ (k : Nat) (e : Nat × Nat × List Nat), sh[k]? = some e → e.1 < 3 → ArrOfT U (cA k) (am_ty e.1) ∧ va_RA U (cA k) (am_ty e.1)
/-- an object's slots are as its class has them -/
def am_Wf (sh : am_Sh) : Prop := ∀ (a ci n : Nat) (fs : List Nat), sh[a]? = some (ci + 3, n, fs) → fs.length = (am_fresh.getD ci []).length ∧ ∀ (k c : Nat), fs[k]? = some c → (c = 0 ↔ (am_fresh.getD ci []).getD k 9 = 0)
def am_Wd (dC : Nat → ClassId) (dI : Nat → Nat → Nat) (ad : Nat → Nat) (cA : Nat → ClassId) (A : Nat → Prop) (sh : am_Sh) (μ : am_Mu) (U : State) (H : Heap) : Prop :=
  va_P (dC, dI) am_cl (am_ws ad cA sh μ) H ∧ va_D A (am_ws ad cA sh μ) ∧ va_K (dC, dI) am_cl [] U ∧ am_Ar cA sh U ∧ am_Wf sh
theorem am_ws_len (ad : Nat → Nat) (cA : Nat → ClassId) (sh : am_Sh) (μ : am_Mu) : (am_ws ad cA sh μ).length = sh.length := by simp [am_ws]
theorem am_ws_get {ad : Nat → Nat} {cA : Nat → ClassId} {sh : am_Sh} {μ : am_Mu} {k : Nat} {e : Nat × Nat × List Nat} (h : sh[k]? = some e) : (am_ws ad cA sh μ)[k]? = some (ad k, am_cell ad cA e k (μ k)) := by
  have hk : k < sh.length := (List.getElem?_eq_some_iff.mp h).1
  simp only [am_ws, List.getElem?_map, List.getElem?_range hk, Option.map_some, List.getD_eq_getElem?_getD, h, Option.getD_some]
theorem am_ws_of {ad : Nat → Nat} {cA : Nat → ClassId} {sh : am_Sh} {μ : am_Mu} {k : Nat} {q : Nat × va_E} (h : (am_ws ad cA sh μ)[k]? = some q) : k < sh.length ∧ q.1 = ad k := by
  have hk : k < sh.length := by
    have := (List.getElem?_eq_some_iff.mp h).1
    rwa [am_ws_len] at this
  obtain ⟨e, he⟩ : ∃ e, sh[k]? = some e := ⟨_, List.getElem?_eq_getElem hk⟩
  rw [am_ws_get he] at h
  exact ⟨hk, by rw [← Option.some.inj h]⟩
theorem am_flds_get {ad : Nat → Nat} {fs : List Nat} {f : Nat → Int32} {j c : Nat} (h : fs[j]? = some c) : (am_flds ad fs f)[j]? = some (am_fv ad c (f j)) := by
  have hj : j < fs.length := (List.getElem?_eq_some_iff.mp h).1
  simp only [am_flds, List.getElem?_map, List.getElem?_range hj, Option.map_some, List.getD_eq_getElem?_getD, h, Option.getD_some]
theorem am_flds_len (ad : Nat → Nat) (fs : List Nat) (f : Nat → Int32) : (am_flds ad fs f).length = fs.length := by simp [am_flds]
theorem am_flds_none {ad : Nat → Nat} {fs : List Nat} {f : Nat → Int32} {j : Nat} (h : fs[j]? = none) : (am_flds ad fs f)[j]? = none := by
  rw [List.getElem?_eq_none_iff] at h ⊢
  rw [am_flds_len]; exact h
/-- a number is written into a slot -/
theorem am_flds_put {ad : Nat → Nat} {fs : List Nat} {μ : am_Mu} {a j : Nat} {x : Int32} (h : fs[j]? = some 0) : (am_flds ad fs (μ a)).set j (.int x) = am_flds ad fs (am_up μ a j x a) := by
  apply List.ext_getElem?
  intro i
  rw [List.getElem?_set, am_flds_len]
  by_cases hij : j = i
  · subst hij
    have hj : j < fs.length := (List.getElem?_eq_some_iff.mp h).1
    rw [if_pos rfl, if_pos hj, am_flds_get h]
    simp [am_up, am_fv]
  · rw [if_neg hij]
    cases hc : fs[i]? with
    | none => rw [am_flds_none hc, am_flds_none hc]
    | some c =>
      rw [am_flds_get hc, am_flds_get hc]
      have : am_up μ a j x a i = μ a i := by simp [am_up, Ne.symm hij]
      rw [this]
/-- a reference is written into a slot -/
theorem am_flds_putr {ad : Nat → Nat} {fs : List Nat} {f : Nat → Int32} {j b c : Nat} (h : fs[j]? = some c) : (am_flds ad fs f).set j (.ref (ad b)) = am_flds ad (fs.set j (b + 2)) f := by
  apply List.ext_getElem?
  intro i
  have hj : j < fs.length := (List.getElem?_eq_some_iff.mp h).1
  rw [List.getElem?_set, am_flds_len]
  by_cases hij : j = i
  · subst hij
    rw [if_pos rfl, if_pos hj, am_flds_get (c := b + 2) (by rw [List.getElem?_set_self hj])]
    rfl
  · rw [if_neg hij]
    cases hc : fs[i]? with
    | none => rw [am_flds_none hc, am_flds_none (by rw [List.getElem?_set_ne hij]; exact hc)]
    | some c => rw [am_flds_get hc, am_flds_get (by rw [List.getElem?_set_ne hij]; exact hc)]
theorem am_up_ne {μ : am_Mu} {a j k : Nat} {x : Int32} (h : ¬ k = a) : am_up μ a j x k = μ k := by
  funext i; simp [am_up, h]
theorem am_up_eq {μ : am_Mu} {a j : Nat} {x : Int32} : am_up μ a j x a = upd (μ a) j x := by
  funext i; simp [am_up, upd]
theorem am_row_ne {μ : am_Mu} {a k : Nat} {f : Nat → Int32} (h : ¬ k = a) : am_row μ a f k = μ k := by simp [am_row, h]
theorem am_row_eq {μ : am_Mu} {a : Nat} {f : Nat → Int32} : am_row μ a f a = f := by simp [am_row]
/-- one cell is written -/
theorem am_ws_set {ad : Nat → Nat} {cA : Nat → ClassId} {sh sh' : am_Sh} {μ μ' : am_Mu} {a : Nat} {e' : Nat × Nat × List Nat} {E : va_E} (hl : sh'.length = sh.length) (ha : sh'[a]? = some e') (hE : E = am_cell ad cA e' a (μ' a)) (hr : ∀ k, ¬ k = a → sh'[k]? = sh[k]? ∧ μ' k = μ k) : (am_ws ad cA sh μ).set a (ad a, E) = am_ws ad cA sh' μ' := by
  apply List.ext_getElem?
  intro i
  rw [List.getElem?_set, am_ws_len]
  by_cases hij : a = i
  · subst hij
    have hj : a < sh.length := by rw [← hl]; exact (List.getElem?_eq_some_iff.mp ha).1
    rw [if_pos rfl, if_pos hj, am_ws_get ha, hE]
  · rw [if_neg hij]
    obtain ⟨h1, h2⟩ := hr i (fun h => hij h.symm)
    cases hc : sh[i]? with
    | none =>
      have n1 : ∀ {s : am_Sh} {ν : am_Mu}, s[i]? = none → (am_ws ad cA s ν)[i]? = none := by
        intro s ν h
        rw [List.getElem?_eq_none_iff] at h ⊢
        rw [am_ws_len]; exact h
      rw [n1 hc, n1 (h1.trans hc)]
    | some c => rw [am_ws_get hc, am_ws_get (h1.trans hc), h2]
theorem am_sl_aux (l : List Nat) : ∀ k : Nat, l[k]?.getD 0 ≤ l.sum := by
  induction l with
  | nil => intro k; simp
  | cons x t ih =>
    intro k
    cases k with
    | zero => simp
    | succ k => have := ih k; simp only [List.getElem?_cons_succ, List.sum_cons]; omega
/-- slots of all cells -/
def am_sl (sh : am_Sh) : Nat := (sh.map fun e => e.2.1).sum
theorem am_sl_app (sh : am_Sh) (e : Nat × Nat × List Nat) : am_sl (sh ++ [e]) = am_sl sh + e.2.1 := by simp [am_sl]
theorem am_sl_set {sh : am_Sh} {a : Nat} {e e' : Nat × Nat × List Nat} (h : sh[a]? = some e) (hn : e'.2.1 = e.2.1) : am_sl (sh.set a e') = am_sl sh := by
  unfold am_sl
  congr 1
  apply List.ext_getElem?
  intro i
  rw [List.getElem?_map, List.getElem?_map, List.getElem?_set]
  by_cases hij : a = i
  · subst hij
    have hj : a < sh.length := (List.getElem?_eq_some_iff.mp h).1
    rw [if_pos rfl, if_pos hj, h]
    simp [hn]
  · rw [if_neg hij]
theorem am_Wd.K {dC : Nat → ClassId} {dI : Nat → Nat → Nat} {ad : Nat → Nat} {cA : Nat → ClassId} {A : Nat → Prop} {sh : am_Sh} {μ : am_Mu} {U : State} {H : Heap} (h : am_Wd dC dI ad cA A sh μ U H) {k : Nat} {e : Nat × Nat × List Nat} (hk : sh[k]? = some e) (hl : e.1 < 3) : va_K (dC, dI) am_cl [(cA k, am_ty e.1)] U := by
  refine ⟨h.2.2.1.1, fun i q hq => ?_⟩
  cases i with
  | zero => cases hq; exact h.2.2.2.1 k e hk hl
  | succ i => simp at hq
theorem am_Wd.lt {dC : Nat → ClassId} {dI : Nat → Nat → Nat} {ad : Nat → Nat} {cA : Nat → ClassId} {A : Nat → Prop} {sh : am_Sh} {μ : am_Mu} {U : State} {H : Heap} (h : am_Wd dC dI ad cA A sh μ U H) {k : Nat} (hk : k < sh.length) : ad k < H.size ∧ A (ad k) := by
  obtain ⟨e, he⟩ : ∃ e, sh[k]? = some e := ⟨_, List.getElem?_eq_getElem hk⟩
  have h1 := am_ws_get (ad := ad) (cA := cA) (μ := μ) he
  exact ⟨(h.1 k _ h1).lt, h.2.1.2 k _ h1⟩
/-! locals -/
def am_lvF (ad : Nat → Nat) (L : List Value) (i : Nat) : Option (Nat × Value) := match L[i]? with
  | some (.int x) => some (i, .int x)
  | some (.ref a) => some (i, .ref (ad a))
  | _ => none
def am_lv (ad : Nat → Nat) (L : List Value) : List (Nat × Value) := (List.range L.length).filterMap (am_lvF ad L)
def am_Lok (ad : Nat → Nat) (L : List Value) (ls : Array Slot) (nL : Nat) : Prop := L.length = nL ∧ lv_has ls nL (am_lv ad L)
theorem am_lv_mem {ad : Nat → Nat} {L : List Value} {q : Nat × Value} : q ∈ am_lv ad L ↔ ∃ v, L[q.1]? = some v ∧ am_ir v = true ∧ q.2 = am_cv ad v := by
  unfold am_lv
  rw [List.mem_filterMap]
  constructor
  · rintro ⟨i, -, h⟩
    unfold am_lvF at h
    split at h
    · next x e => cases h; exact ⟨_, e, rfl, rfl⟩
    · next a e => cases h; exact ⟨_, e, rfl, rfl⟩
    · cases h
  · rintro ⟨v, h1, h2, h3⟩
    refine ⟨q.1, List.mem_range.mpr (List.getElem?_eq_some_iff.mp h1).1, ?_⟩
    unfold am_lvF
    rw [h1]
    obtain ⟨i, w⟩ := q
    cases v <;> first | (simp [am_ir] at h2; done) | (dsimp only at h3; subst h3; rfl)
theorem am_Lok.get {ad : Nat → Nat} {L : List Value} {ls : Array Slot} {nL i : Nat} {v : Value} (h : am_Lok ad L ls nL) (hi : L[i]? = some v) (hv : am_ir v = true) : ls[i]? = some (.val (am_cv ad v)) := h.2.2.2 (i, am_cv ad v) (am_lv_mem.mpr ⟨v, hi, hv, rfl⟩)
theorem am_cat1 {ad : Nat → Nat} {v : Value} (h : am_ir v = true) : (am_cv ad v).category = 1 := by
  cases v <;> first | (simp [am_ir] at h; done) | rfl
theorem am_Lok.set {ad : Nat → Nat} {L : List Value} {ls ls' : Array Slot} {nL i : Nat} {v : Value} (h : am_Lok ad L ls nL) (hv : am_ir v = true) (h' : lv_has ls' nL ((i, am_cv ad v) :: (am_lv ad L).filter (fun q => !(q.1 == i) && !(q.1 + 1 == i && q.2.category == 2)))) : am_Lok ad (L.set i v) ls' nL := by
  refine ⟨by rw [List.length_set]; exact h.1, h'.1, h'.2.1, fun q hq => ?_⟩
  obtain ⟨w, h1, h2, h3⟩ := am_lv_mem.mp hq
  obtain ⟨j, z⟩ := q
  dsimp only at h1 h3 ⊢
  subst h3
  by_cases hj : i = j
  · subst hj
    have hl : i < L.length := by
      have := (List.getElem?_eq_some_iff.mp h1).1
      rwa [List.length_set] at this
    rw [List.getElem?_set_self hl] at h1
    cases h1
    exact h'.2.2 (i, am_cv ad v) List.mem_cons_self
  · rw [List.getElem?_set_ne hj] at h1
    refine h'.2.2 (j, am_cv ad w) (List.mem_cons_of_mem _ (List.mem_filter.mpr ⟨am_lv_mem.mpr ⟨w, h1, h2, rfl⟩, ?_⟩))
    have hc := am_cat1 (ad := ad) h2
    simp [Ne.symm hj, hc]
