/-! THE ABSTRACT MACHINE IS SOUND -/
theorem am_bif {α : Type} {b : Bool} {x : Option α} {y : α} (h : (bif b then x else none) = some y) : b = true ∧ x = some y := by
  cases b
  · cases h
  · exact ⟨rfl, h⟩
theorem am_s_ret {scr : am_Scr} {d mm pc : Nat} {L : List Value} {sh : am_Sh} {μ : am_Mu} {r : Option Value} (hR : am_Rt mm pc r) : am_Sd scr d mm pc L r.toList sh μ (r, sh, μ) := by
  refine ⟨Nat.le_refl _, Nat.le_refl _, ?_⟩
  intro p l e R s m args below meth c H locs cells slots Q ls dC dI ad cA A H0 hC hW hS hA hsc hl hc1 hc2 kr
  have := kr pc ad cA H locs ls ⟨fun _ _ => rfl, ⟨rfl, rfl, rfl⟩, fun _ => rfl⟩ hW hS hR
  dsimp only at this
  rw [Nat.sub_self, Nat.add_zero, Nat.sub_self, Nat.add_zero] at this
  have e1 : r.toList.map (am_cv ad) = (r.map (am_cv ad)).toList := by cases r <;> rfl
  rw [e1]
  exact this
section
variable {scr : am_Scr} {K0 K : am_K} {d m pc : Nat} {i : Instr} {j : Nat} {L S : List Value} {sh : am_Sh} {μ : am_Mu} {out : am_Out}
theorem am_callS {scr0 : am_Scr} (hs0 : scr0 = none ∨ scr0 = am_sub scr ∨ scr0 = scr) (h0 : ∀ d m pc L S sh μ out, K0 d m pc L S sh μ = some out → am_Sd scr0 d m pc L S sh μ out) (hK : ∀ d m pc L S sh μ out, K d m pc L S sh μ = some out → am_Sd scr d m pc L S sh μ out) {k : Nat} (hf : am_fet m pc = some (i, j)) (hj : j < am_law)
    (hi : (i = .invokevirtual k ∧ am_st j = false ∧ (am_yq j).name ≠ "<init>") ∨ (i = .invokestatic k ∧ am_st j = true) ∨ (i = .invokespecial k ∧ am_st j = false ∧ (am_yq j).name = "<init>"))
    (h : am_call K0 K d m pc j L S sh μ = some out) : am_Sd scr d m pc L S sh μ out := by
  unfold am_call at h
  dsimp only at h
  obtain ⟨hb, h⟩ := am_bif h
  simp only [Bool.and_eq_true, Nat.ble_eq] at hb
  obtain ⟨⟨⟨⟨b1, b2⟩, b3⟩, b4⟩, b5⟩ := hb
  generalize hna : (bif am_st j then am_na j else am_na j + 1) = na at h b1 b2 b3 b4 b5
  generalize hAs : (S.take na).reverse = As at h b2
  generalize hre : S.drop na = rest at h b3 b4
  have hS : S = As.reverse ++ rest := by rw [← hAs, ← hre, List.reverse_reverse, List.take_append_drop]
  have hlen : As.length = na := by rw [← hAs, List.length_reverse, List.length_take]; omega
  generalize hX : (bif am_st j then some 0 else match As with
      | .ref b :: _ => (match sh[b]? with
        | some e => bif Nat.beq e.1 (am_ow j + 3) then some 0 else none
        | none => none)
      | _ => none) = X at h
  cases X with
  | none => cases h
  | some z =>
  cases d with
  | zero => cases h
  | succ d' =>
  dsimp only at h
  cases hr : K0 d' j 0 (As ++ List.replicate (am_nl j - na) .null) [] sh μ with
  | none => rw [hr] at h; cases h
  | some o9 =>
  obtain ⟨r, sh', μ'⟩ := o9
  rw [hr] at h
  dsimp only at h
  obtain ⟨hg, h2⟩ := am_bif h
  have hc := h0 _ _ _ _ _ _ _ _ hr
  rw [Bool.or_eq_true] at hg
  rw [← hlen] at hc
  rw [hS]
  refine am_s_call hs0 (k := k) (out1 := (r, sh', μ')) hf hj b2 b3 b4 (by rw [hlen]; exact b5) hc (hg.imp Nat.eq_of_beq_eq_true id) ?_ (hK _ _ _ _ _ _ _ _ h2)
  rcases hi with ⟨e1, e2, e3⟩ | ⟨e1, e2⟩ | ⟨e1, e2, e3⟩
  · rw [e2, cond_false] at hna
    rw [e2, cond_false] at hX
    refine Or.inl ⟨e1, e2, e3, ?_⟩
    match As, hX with
    | .ref b :: As', hX =>
      dsimp only at hX
      cases hq : sh[b]? with
      | none => rw [hq] at hX; cases hX
      | some e9 =>
        rw [hq] at hX
        dsimp only at hX
        obtain ⟨q1, -⟩ := am_bif hX
        obtain ⟨kd, n, fs⟩ := e9
        have q2 := Nat.eq_of_beq_eq_true q1
        dsimp only at q2
        subst q2
        refine ⟨b, As', n, fs, rfl, ?_, hq⟩
        simp only [List.length_cons] at hlen
        omega
  · rw [e2, cond_true] at hna
    exact Or.inr (Or.inl ⟨e1, e2, by omega⟩)
  · rw [e2, cond_false] at hna
    rw [e2, cond_false] at hX
    refine Or.inr (Or.inr ⟨e1, e2, e3, ?_⟩)
    match As, hX with
    | .ref b :: As', hX =>
      refine ⟨b, As', rfl, ?_⟩
      simp only [List.length_cons] at hlen
      omega
set_option maxHeartbeats 4000000 in
theorem am_opS (h0 : ∀ d m pc L S sh μ out, K0 d m pc L S sh μ = some out → am_Sd (am_sub scr) d m pc L S sh μ out) (hK : ∀ d m pc L S sh μ out, K d m pc L S sh μ = some out → am_Sd scr d m pc L S sh μ out) (hf : am_fet m pc = some (i, j)) (h : am_op scr K0 K d m pc i j L S sh μ = some out) : am_Sd scr d m pc L S sh μ out := by
  cases i with
  | iconst v => exact am_s_iconst hf (hK _ _ _ _ _ _ _ _ h)
  | bipush v => exact am_s_bipush hf (hK _ _ _ _ _ _ _ _ h)
  | sipush v => exact am_s_sipush hf (hK _ _ _ _ _ _ _ _ h)
  | ldc v =>
    simp only [am_op] at h
    cases hq : Nat.beq j am_STR with
    | true =>
      rw [hq, cond_true] at h
      split at h
      · exact am_s_ldcs hf hq rfl (hK _ _ _ _ _ _ _ _ h)
      · cases h
    | false =>
      rw [hq, cond_false] at h
      exact am_s_ldc hf hq (hK _ _ _ _ _ _ _ _ h)
  | ldc_w v => exact am_s_ldc_w hf (hK _ _ _ _ _ _ _ _ h)
  | ldc2_w v => exact am_s_ldc2_w hf (hK _ _ _ _ _ _ _ _ h)
  | iload_n k =>
    simp only [am_op] at h
    split at h
    · next e => exact am_s_iload_n hf e (hK _ _ _ _ _ _ _ _ h)
    · cases h
  | iload k =>
    simp only [am_op] at h
    split at h
    · next e => exact am_s_iload hf e (hK _ _ _ _ _ _ _ _ h)
    · cases h
  | aload_n k =>
    simp only [am_op] at h
    split at h
    · next e => exact am_s_aload_n hf e (hK _ _ _ _ _ _ _ _ h)
    · cases h
  | aload k =>
    simp only [am_op] at h
    split at h
    · next e => exact am_s_aload hf e (hK _ _ _ _ _ _ _ _ h)
    · cases h
  | iinc k v =>
    simp only [am_op] at h
    split at h
    · next e => exact am_s_iinc hf e (hK _ _ _ _ _ _ _ _ h)
    · cases h
  | istore_n k =>
    simp only [am_op] at h
    split at h
    · obtain ⟨hb, h⟩ := am_bif h
      exact am_s_istore_n hf (by simpa using hb) (hK _ _ _ _ _ _ _ _ h)
    · cases h
  | istore k =>
    simp only [am_op] at h
    split at h
    · obtain ⟨hb, h⟩ := am_bif h
      exact am_s_istore hf (by simpa using hb) (hK _ _ _ _ _ _ _ _ h)
    · cases h
  | astore_n k =>
    simp only [am_op] at h
    split at h
    · obtain ⟨hb, h⟩ := am_bif h
      exact am_s_astore_n hf (by simpa using hb) (hK _ _ _ _ _ _ _ _ h)
    · cases h
  | astore k =>
    simp only [am_op] at h
    split at h
    · obtain ⟨hb, h⟩ := am_bif h
      exact am_s_astore hf (by simpa using hb) (hK _ _ _ _ _ _ _ _ h)
    · cases h
  | iadd =>
    simp only [am_op] at h
    split at h
    · exact am_s_iadd hf (hK _ _ _ _ _ _ _ _ h)
    · cases h
  | isub =>
    simp only [am_op] at h
    split at h
    · exact am_s_isub hf (hK _ _ _ _ _ _ _ _ h)
    · cases h
  | imul =>
    simp only [am_op] at h
    split at h
    · exact am_s_imul hf (hK _ _ _ _ _ _ _ _ h)
    · cases h
  | iand =>
    simp only [am_op] at h
    split at h
    · exact am_s_iand hf (hK _ _ _ _ _ _ _ _ h)
    · cases h
  | ior =>
    simp only [am_op] at h
    split at h
    · exact am_s_ior hf (hK _ _ _ _ _ _ _ _ h)
    · cases h
  | ixor =>
    simp only [am_op] at h
    split at h
    · exact am_s_ixor hf (hK _ _ _ _ _ _ _ _ h)
    · cases h
  | ishl =>
    simp only [am_op] at h
    split at h
    · exact am_s_ishl hf (hK _ _ _ _ _ _ _ _ h)
    · cases h
  | ishr =>
    simp only [am_op] at h
    split at h
    · exact am_s_ishr hf (hK _ _ _ _ _ _ _ _ h)
    · cases h
  | iushr =>
    simp only [am_op] at h
    split at h
    · exact am_s_iushr hf (hK _ _ _ _ _ _ _ _ h)
    · cases h
  | ineg =>
    simp only [am_op] at h
    split at h
    · exact am_s_ineg hf (hK _ _ _ _ _ _ _ _ h)
    · cases h
  | i2b =>
    simp only [am_op] at h
    split at h
    · exact am_s_i2b hf (hK _ _ _ _ _ _ _ _ h)
    · cases h
  | i2l =>
    simp only [am_op] at h
    split at h
    · exact am_s_i2l hf (hK _ _ _ _ _ _ _ _ h)
    · cases h
  | l2i =>
    simp only [am_op] at h
    split at h
    · exact am_s_l2i hf (hK _ _ _ _ _ _ _ _ h)
    · cases h
  | ladd =>
    simp only [am_op] at h
    split at h
    · exact am_s_ladd hf (hK _ _ _ _ _ _ _ _ h)
    · cases h
  | lmul =>
    simp only [am_op] at h
    split at h
    · exact am_s_lmul hf (hK _ _ _ _ _ _ _ _ h)
    · cases h
  | idiv =>
    simp only [am_op] at h
    split at h
    · split at h
      · cases h
      · next hne => exact am_s_idiv hf hne (hK _ _ _ _ _ _ _ _ h)
    · cases h
  | irem =>
    simp only [am_op] at h
    split at h
    · split at h
      · cases h
      · next hne => exact am_s_irem hf hne (hK _ _ _ _ _ _ _ _ h)
    · cases h
  | lrem =>
    simp only [am_op] at h
    split at h
    · split at h
      · cases h
      · next hne => exact am_s_lrem hf hne (hK _ _ _ _ _ _ _ _ h)
    · cases h
  | dup =>
    simp only [am_op] at h
    split at h
    · obtain ⟨hb, h⟩ := am_bif h
      exact am_s_dup hf hb (hK _ _ _ _ _ _ _ _ h)
    · cases h
  | pop =>
    simp only [am_op] at h
    split at h
    · obtain ⟨hb, h⟩ := am_bif h
      exact am_s_pop hf hb (hK _ _ _ _ _ _ _ _ h)
    · cases h
  | dup2 =>
    simp only [am_op] at h
    split at h
    · obtain ⟨hb, h⟩ := am_bif h
      rw [Bool.and_eq_true] at hb
      exact am_s_dup2 hf hb.1 hb.2 (hK _ _ _ _ _ _ _ _ h)
    · cases h
  | goto off => exact am_s_goto hf (hK _ _ _ _ _ _ _ _ h)
  | ifCond c off =>
    cases c with
    | eq =>
      simp only [am_op] at h
      split at h
      · split at h
        · next hc => exact am_s_if_eq_t hf hc (hK _ _ _ _ _ _ _ _ h)
        · next hc => exact am_s_if_eq_f hf hc (hK _ _ _ _ _ _ _ _ h)
      · cases h
    | ne =>
      simp only [am_op] at h
      split at h
      · split at h
        · next hc => exact am_s_if_ne_t hf hc (hK _ _ _ _ _ _ _ _ h)
        · next hc => exact am_s_if_ne_f hf (Decidable.not_not.mp hc) (hK _ _ _ _ _ _ _ _ h)
      · cases h
    | lt =>
      simp only [am_op] at h
      split at h
      · split at h
        · next hc => exact am_s_if_lt_t hf hc (hK _ _ _ _ _ _ _ _ h)
        · next hc => exact am_s_if_lt_f hf hc (hK _ _ _ _ _ _ _ _ h)
      · cases h
    | ge =>
      simp only [am_op] at h
      split at h
      · split at h
        · next hc => exact am_s_if_ge_t hf hc (hK _ _ _ _ _ _ _ _ h)
        · next hc => exact am_s_if_ge_f hf hc (hK _ _ _ _ _ _ _ _ h)
      · cases h
    | gt =>
      simp only [am_op] at h
      split at h
      · split at h
        · next hc => exact am_s_if_gt_t hf hc (hK _ _ _ _ _ _ _ _ h)
        · next hc => exact am_s_if_gt_f hf hc (hK _ _ _ _ _ _ _ _ h)
      · cases h
    | le =>
      simp only [am_op] at h
      split at h
      · split at h
        · next hc => exact am_s_if_le_t hf hc (hK _ _ _ _ _ _ _ _ h)
        · next hc => exact am_s_if_le_f hf hc (hK _ _ _ _ _ _ _ _ h)
      · cases h
  | if_icmp c off =>
    cases c with
    | eq =>
      simp only [am_op] at h
      split at h
      · split at h
        · next hc => exact am_s_icmp_eq_t hf hc (hK _ _ _ _ _ _ _ _ h)
        · next hc => exact am_s_icmp_eq_f hf hc (hK _ _ _ _ _ _ _ _ h)
      · cases h
    | ne =>
      simp only [am_op] at h
      split at h
      · split at h
        · next hc => exact am_s_icmp_ne_t hf hc (hK _ _ _ _ _ _ _ _ h)
        · next hc => exact am_s_icmp_ne_f hf (Decidable.not_not.mp hc) (hK _ _ _ _ _ _ _ _ h)
      · cases h
    | lt =>
      simp only [am_op] at h
      split at h
      · split at h
        · next hc => exact am_s_icmp_lt_t hf hc (hK _ _ _ _ _ _ _ _ h)
        · next hc => exact am_s_icmp_lt_f hf hc (hK _ _ _ _ _ _ _ _ h)
      · cases h
    | ge =>
      simp only [am_op] at h
      split at h
      · split at h
        · next hc => exact am_s_icmp_ge_t hf hc (hK _ _ _ _ _ _ _ _ h)
        · next hc => exact am_s_icmp_ge_f hf hc (hK _ _ _ _ _ _ _ _ h)
      · cases h
    | gt =>
      simp only [am_op] at h
      split at h
      · split at h
        · next hc => exact am_s_icmp_gt_t hf hc (hK _ _ _ _ _ _ _ _ h)
        · next hc => exact am_s_icmp_gt_f hf hc (hK _ _ _ _ _ _ _ _ h)
      · cases h
    | le =>
      simp only [am_op] at h
      split at h
      · split at h
        · next hc => exact am_s_icmp_le_t hf hc (hK _ _ _ _ _ _ _ _ h)
        · next hc => exact am_s_icmp_le_f hf hc (hK _ _ _ _ _ _ _ _ h)
      · cases h
  | tableswitch dflt lo hi offs =>
    simp only [am_op] at h
    split at h
    · split at h
      · next hc => exact am_s_tblOut hf hc (hK _ _ _ _ _ _ _ _ h)
      · next hc =>
        split at h
        · next off ho => exact am_s_tblIn hf hc ho (hK _ _ _ _ _ _ _ _ h)
        · cases h
    · cases h
  | lookupswitch dflt ps =>
    simp only [am_op] at h
    split at h
    · obtain ⟨hb, h⟩ := am_bif h
      exact am_s_lookup hf hb (hK _ _ _ _ _ _ _ _ h)
    · cases h
  | getfield v =>
    simp only [am_op] at h
    split at h
    · split at h
      · next kd n fs ha =>
        obtain ⟨hb, h2⟩ := am_bif h
        clear h
        have h := h2
        clear h2
        have hkd := Nat.eq_of_beq_eq_true hb
        subst hkd
        split at h
        · next hc => exact am_s_getfield hf ha hc (fun w hw => by
            have e := hw id
            cases w <;> simp only [am_cv, am_fv, id, Value.int.injEq, reduceCtorEq] at e
            subst e
            exact (hK _ _ _ _ _ _ _ _ h))
        · next hc => exact am_s_getfield hf ha hc (fun w hw => by
            have e := hw id
            cases w <;> simp only [am_cv, am_fv, id, reduceCtorEq] at e
            exact (hK _ _ _ _ _ _ _ _ h))
        · next b hc => exact am_s_getfield hf ha hc (fun w hw => by
            have e := hw id
            cases w <;> simp only [am_cv, am_fv, id, Value.ref.injEq, reduceCtorEq] at e
            subst e
            exact (hK _ _ _ _ _ _ _ _ h))
        · cases h
      · cases h
    · cases h
  | putfield v =>
    simp only [am_op] at h
    split at h
    · next x a S2 =>
      split at h
      · next kd n fs ha =>
        obtain ⟨hb, h2⟩ := am_bif h
        clear h
        have h := h2
        clear h2
        have hkd := Nat.eq_of_beq_eq_true hb
        subst hkd
        split at h
        · next hc =>
          refine am_s_put (μ' := am_up μ a (j % 100) x) (fs' := fs) hf ha hc (Or.inl ⟨x, rfl, rfl, rfl, rfl⟩) ?_
          have hset : sh.set a (j / 100 + 3, n, fs) = sh := by
            apply List.ext_getElem?
            intro q
            rw [List.getElem?_set]
            split
            · next e => subst e; rw [if_pos (List.getElem?_eq_some_iff.mp ha).1, ha]
            · rfl
          rw [hset]
          exact (hK _ _ _ _ _ _ _ _ h)
        · cases h
      · cases h
    · next b a S2 =>
      split at h
      · next kd n fs ha =>
        obtain ⟨hb, h2⟩ := am_bif h
        clear h
        have h := h2
        clear h2
        have hkd := Nat.eq_of_beq_eq_true hb
        subst hkd
        split at h
        · next c9 hc => exact am_s_put (μ' := μ) (fs' := fs.set (j % 100) (b + 2)) hf ha hc (Or.inr ⟨b, rfl, by omega, rfl, rfl⟩) (hK _ _ _ _ _ _ _ _ h)
        · cases h
      · cases h
    · cases h
  | iaload =>
    simp only [am_op] at h
    split at h
    · next x a S2 =>
      cases hq : Nat.beq a am_SCR with
      | true =>
        rw [hq, cond_true] at h
        have := Nat.eq_of_beq_eq_true hq
        subst this
        split at h
        · obtain ⟨hb, h⟩ := am_bif h
          exact am_s_sld hf hb rfl (hK _ _ _ _ _ _ _ _ h)
        · cases h
      | false =>
        rw [hq, cond_false] at h
        split at h
        · next ha =>
          obtain ⟨hb, h⟩ := am_bif h
          exact am_s_iald hf ha hb (hK _ _ _ _ _ _ _ _ h)
        · cases h
    · cases h
  | baload =>
    simp only [am_op] at h
    split at h
    · split at h
      · next ha =>
        obtain ⟨hb, h⟩ := am_bif h
        exact am_s_zald hf ha hb (hK _ _ _ _ _ _ _ _ h)
      · next ha =>
        obtain ⟨hb, h⟩ := am_bif h
        exact am_s_bald hf ha hb (hK _ _ _ _ _ _ _ _ h)
      · cases h
    · cases h
  | bastore =>
    simp only [am_op] at h
    split at h
    · split at h
      · next ha =>
        obtain ⟨hb, h⟩ := am_bif h
        exact am_s_zast hf ha hb (hK _ _ _ _ _ _ _ _ h)
      · next ha =>
        obtain ⟨hb, h⟩ := am_bif h
        exact am_s_bast hf ha hb (hK _ _ _ _ _ _ _ _ h)
      · cases h
    · cases h
  | iastore =>
    simp only [am_op] at h
    split at h
    · split at h
      · next ha =>
        obtain ⟨hb, h⟩ := am_bif h
        exact am_s_iast hf ha hb (hK _ _ _ _ _ _ _ _ h)
      · cases h
    · cases h
  | arraylength =>
    simp only [am_op] at h
    split at h
    · next a S2 =>
      cases hq : Nat.beq a am_SCR with
      | true =>
        rw [hq, cond_true] at h
        have := Nat.eq_of_beq_eq_true hq
        subst this
        split at h
        · exact am_s_slen hf rfl (hK _ _ _ _ _ _ _ _ h)
        · cases h
      | false =>
        rw [hq, cond_false] at h
        split at h
        · next ha => exact am_s_alen hf ha (hK _ _ _ _ _ _ _ _ h)
        · cases h
    · cases h
  | newarray t =>
    simp only [am_op] at h
    split at h
    · next n S2 kd hk =>
      obtain ⟨hb, h⟩ := am_bif h
      simp only [Bool.and_eq_true, Bool.not_eq_true', decide_eq_false_iff_not, Nat.ble_eq] at hb
      exact am_s_newa hf hk hb.1 hb.2.1 hb.2.2 (hK _ _ _ _ _ _ _ _ h)
    · cases h
  | new v =>
    simp only [am_op] at h
    split at h
    · next fs hfs =>
      obtain ⟨hb, h⟩ := am_bif h
      exact am_s_new hf hfs hb (hK _ _ _ _ _ _ _ _ h)
    · cases h
  | invokevirtual v =>
    simp only [am_op] at h
    obtain ⟨n, -, -, hax⟩ := am_dec hf
    simp only [am_aux, Bool.and_eq_true, Bool.or_eq_true, Nat.blt_eq, Nat.beq_eq, Bool.not_eq_true', beq_eq_false_iff_ne] at hax
    unfold am_virt at h
    split at h
    · split at h
      · next a S2 d2 z =>
        obtain ⟨hb, h9⟩ := am_bif h
        simp only [Bool.and_eq_true, Nat.beq_eq, Nat.ble_eq] at hb
        obtain ⟨rfl, hb1, hb2⟩ := hb
        exact am_s_len hf rfl hb1 hb2 (hK _ _ _ _ _ _ _ _ h9)
      · cases h
    · split at h
      · next k9 a S2 d2 z =>
        obtain ⟨hb, h9⟩ := am_bif h
        simp only [Bool.and_eq_true, Nat.beq_eq, Nat.ble_eq] at hb
        obtain ⟨rfl, hb0, hb1, hb2⟩ := hb
        exact am_s_cha hf rfl hb0 hb1 hb2 (hK _ _ _ _ _ _ _ _ h9)
      · cases h
    · next n1 n2 =>
      have hj : j < am_law ∧ am_st j = false ∧ ¬ (am_yq j).name = "<init>" := by
        rcases hax.2 with q | q
        · exact q
        · exfalso
          rcases q.1 with z | z
          · exact n1 z
          · exact n2 z
      exact am_callS (Or.inr (Or.inl rfl)) h0 hK hf hj.1 (Or.inl ⟨rfl, hj.2.1, hj.2.2⟩) h
  | invokestatic v =>
    simp only [am_op] at h
    obtain ⟨n, -, -, hax⟩ := am_dec hf
    simp only [am_aux, Bool.and_eq_true, Bool.or_eq_true, Nat.blt_eq, Nat.ble_eq] at hax
    cases hq : Nat.beq j am_jc with
    | true =>
      rw [hq, cond_true] at h
      have hj : j < am_law ∧ am_st j = true := by
        have e := Nat.eq_of_beq_eq_true hq
        subst e
        exact ⟨by decide, rfl⟩
      exact am_callS (Or.inr (Or.inr rfl)) hK hK hf hj.1 (Or.inr (Or.inl ⟨rfl, hj.2⟩)) h
    | false =>
    rw [hq, cond_false] at h
    unfold am_static at h
    split at h
    · split at h
      · obtain ⟨hb, h⟩ := am_bif h
        rw [Bool.and_eq_true] at hb
        exact am_s_max hf hb.1 (Nat.le_of_ble_eq_true hb.2) (hK _ _ _ _ _ _ _ _ h)
      · cases h
    · split at h
      · obtain ⟨hb, h⟩ := am_bif h
        rw [Bool.and_eq_true] at hb
        exact am_s_min hf hb.1 (Nat.le_of_ble_eq_true hb.2) (hK _ _ _ _ _ _ _ _ h)
      · cases h
    · split at h
      · obtain ⟨hb, h⟩ := am_bif h
        rw [Bool.and_eq_true] at hb
        exact am_s_abs hf hb.1 (Nat.le_of_ble_eq_true hb.2) (hK _ _ _ _ _ _ _ _ h)
      · cases h
    · split at h
      · split at h
        · next ha hb1 =>
          obtain ⟨hb, h⟩ := am_bif h
          simp only [Bool.and_eq_true, Bool.not_eq_true', decide_eq_false_iff_not, Nat.ble_eq] at hb
          exact am_s_copy hf ha hb1 hb.1 hb.2.1 hb.2.2.1 hb.2.2.2.1 hb.2.2.2.2 (hK _ _ _ _ _ _ _ _ h)
        · cases h
      · cases h
    · next n1 n2 n3 n4 =>
      have hj : j < am_law ∧ am_st j = true := by
        rcases hax.2 with q | q
        · exact q
        · exfalso
          have hz : j = 1001 ∨ j = 1002 ∨ j = 1003 ∨ j = 1004 := by omega
          rcases hz with z | z | z | z
          · exact n1 z
          · exact n2 z
          · exact n3 z
          · exact n4 z
      exact am_callS (Or.inr (Or.inl rfl)) h0 hK hf hj.1 (Or.inr (Or.inl ⟨rfl, hj.2⟩)) h
  | invokespecial v =>
    simp only [am_op] at h
    obtain ⟨n, -, -, hax⟩ := am_dec hf
    simp only [am_aux, Bool.and_eq_true, Bool.or_eq_true, Nat.blt_eq, Nat.beq_eq, Bool.not_eq_true', beq_iff_eq] at hax
    unfold am_spec at h
    split at h
    · split at h
      · obtain ⟨hb, h⟩ := am_bif h
        rw [Bool.and_eq_true] at hb
        exact am_s_obj hf hb.1 (Nat.le_of_ble_eq_true hb.2) (hK _ _ _ _ _ _ _ _ h)
      · cases h
    · next n1 =>
      have hj : j < am_law ∧ am_st j = false ∧ (am_yq j).name = "<init>" := by
        rcases hax.2 with q | q
        · exact q
        · exact absurd q n1
      exact am_callS (Or.inr (Or.inl rfl)) h0 hK hf hj.1 (Or.inr (Or.inr ⟨rfl, hj.2⟩)) h
  | ireturn =>
    simp only [am_op] at h
    obtain ⟨hd, -⟩ := am_dec1 hf 1 (fun k h => Nat.eq_of_beq_eq_true h)
    split at h
    · next x =>
      split at h
      · next e => cases h; exact am_s_ret (r := some (.int x)) ⟨hd, Or.inl e⟩
      · next e =>
        split at h
        · next hx => cases h; exact am_s_ret (r := some (.int x)) ⟨hd, Or.inr ⟨e, hx⟩⟩
        · cases h
      · cases h
    · cases h
  | areturn =>
    simp only [am_op] at h
    obtain ⟨hd, -⟩ := am_dec1 hf 1 (fun k h => Nat.eq_of_beq_eq_true h)
    split at h
    · next a =>
      split at h
      · next C e => cases h; exact am_s_ret (r := some (.ref a)) ⟨hd, C, e⟩
      · cases h
    · cases h
  | return_ =>
    simp only [am_op] at h
    obtain ⟨hd, -⟩ := am_dec1 hf 1 (fun k h => Nat.eq_of_beq_eq_true h)
    split at h
    · split at h
      · next e => cases h; exact am_s_ret (r := none) ⟨hd, e⟩
      · cases h
    · cases h
  | _ => simp [am_op] at h
end
theorem am_snd : ∀ (n : Nat) (scr : am_Scr) (d m pc : Nat) (L S : List Value) (sh : am_Sh) (μ : am_Mu) (out : am_Out), am_exec n scr d m pc L S sh μ = some out → am_Sd scr d m pc L S sh μ out := by
  intro n
  induction n with
  | zero => intro scr d m pc L S sh μ out h; cases h
  | succ n ih =>
    intro scr d m pc L S sh μ out h
    have h : am_step scr (am_exec n (am_sub scr)) (am_exec n scr) d m pc L S sh μ = some out := h
    unfold am_step at h
    split at h
    · next i j hf => exact am_opS (ih (am_sub scr)) (ih scr) hf h
    · cases h
