/-! E: the law's questions, thing by thing -/
theorem b_or : ∀ s : Fin 64, ∀ x : Fin 6, (nI s.val ||| ((1 : Int32) <<< (nI x.val &&& 31))) = nI (s.val ||| 2 ^ x.val) ∧ (s.val ||| 2 ^ x.val) < 64 ∧ ∀ j : Fin 6, (s.val ||| 2 ^ x.val).testBit j.val = (s.val.testBit j.val || decide (j.val = x.val)) := by decide +kernel
theorem b_tst : ∀ s : Fin 64, ∀ x : Fin 6, (¬ ((nI s.val >>> (nI x.val &&& 31)) &&& 1) = 0) ↔ s.val.testBit x.val = true := by decide +kernel
theorem b_mrk : ∀ v : Fin 4, ∀ j : Fin 2, bv v.val j.val = if ¬ ((nI v.val >>> (nI j.val &&& 31)) &&& 1) = 1 then 0 else 2 := by decide +kernel
section
variable {sL : Nat} {sX : Nat → Int32} {n U : Nat} {K A : Nat → Nat} {B : Nat → Option Nat} {M wr wm c : Nat → Nat} {μ : am_Mu}
def LEnd (n : Nat) (K A : Nat → Nat) (B : Nat → Option Nat) (M wr wm c : Nat → Nat) (U : Nat) (μ : am_Mu) : Prop := LBase n K A B M wr wm c μ ∧ LRow n K A B wr c 16 μ ∧ Snp n K A B M wr wm c U μ
theorem rcM_act (hD : Dat n K A B M wr wm) (h : Cs n K A B M wr wm c μ) : ∀ th, rcM μ th = -1 ∨ (0 ≤ rcM μ th ∧ rcM μ th < μ 13 15) := by
  obtain ⟨e1, e2, e3, e4⟩ := cs_nth hD h
  exact rcR_act (cs_g4 hD h) (P := Pv μ 0) (v := 9000) (t := 9000) (i := 0) 16 (by omega)
theorem l_1016 (hD : Dat n K A B M wr wm) (he : LEnd n K A B M wr wm c U μ) {x : Nat} (hx : x < n) {X : am_Mu} (hX : SB X μ) (kk : Int32 → Int32 → Int32 → Int32 → am_Mu → Option (Int32 × am_Mu)) (k9 : Int32 → Int32 → Int32 → Int32 → Int32 → Int32 → Int32 → Int32 → am_Mu → Option (Int32 × am_Mu)) (a15 s k : Int32) : fL_law_1016 sL sX kk k9 (nI n) (nI U) a15 (nI x) s k 1 X = fL_law_1081 sL sX kk k9 (nI n) 1 (nI U) a15 (s ||| ((1 : Int32) <<< (nI x &&& 31))) (k + 1) (wnx μ (rcM μ) 0 x) X := by
  have n6 := hD.2.1
  have d0 := (hD.2.2.2 0).1
  obtain ⟨⟨h, hA, hM⟩, hR, hS⟩ := he
  have hw : μ 22 0 = nI (wr 0) := (h.2.2.1.2 0 (by omega)).1
  have hw2 : μ 114 0 = nI (wr 0) := (hM 0 (by omega)).1
  have hr : rcM μ x = rcB K A B wr c 16 x := rc_bits hD h 16 (Nat.le_refl _) x hx
  have h117 : μ 117 x = rcB K A B wr c 16 x := hR.2.2 x hx
  unfold fL_law_1016 wnx
  rw [hX 114 (by omega), hw2, hw, hr]
  by_cases hx0 : x = wr 0
  · rw [if_neg (fun z => z (by rw [hx0])), if_pos (by rw [hx0])]
    unfold fL_law_1047
    rw [if_neg (by decide)]
  · rw [if_pos (fun z => hx0 ((nI_inj (by omega) (by omega)).mp z)), if_neg (fun z => hx0 ((nI_inj (by omega) (by omega)).mp z)), inb_n (by omega) (by omega), cond_true, nI_clamp (show x < 2 ^ 31 by omega), hX 117 (by omega), h117]
    obtain ⟨z1, z2⟩ := rc_0 hD h (show 16 ≤ 16 by omega) x
    unfold fL_law_1047
    by_cases hq : rcB K A B wr c 16 x = -1
    · rw [if_pos hq, if_neg (by rw [hq]; decide)]
    · obtain ⟨a, a1, a2⟩ := z2 hq
      obtain ⟨b1, b2, b3, b4⟩ := hA a a1
      obtain ⟨q1, q2, q3, -⟩ := h.2.1.2 a a1
      rw [if_neg hq, if_pos (z1.mpr hq), a2, inb_n (by omega) (by omega), cond_true, nI_clamp (by omega), hX 111 (by omega), hX 112 (by omega), b2, b3]
      unfold othT
      rw [nI_clamp (by omega), q2, q3]
      by_cases hax : nI (A a) = nI x
      · rw [if_neg (fun z => z hax), if_neg (fun z => z hax)]
      · rw [if_pos hax, if_pos hax]
theorem l_987 (hD : Dat n K A B M wr wm) (he : LEnd n K A B M wr wm c U μ) {t : Nat} (ht : t < n) (hok : t = wr 0 ∨ ¬ rcB K A B wr c 16 t = -1) (kk : Int32 → Int32 → Int32 → Int32 → am_Mu → Option (Int32 × am_Mu)) : ∀ q vis x s f X, vis.length + q = 20 → q < f → SB X μ → vis.Nodup → (∀ v, v ∈ vis → v < n) → x < n → ¬ x ∈ vis → s < 64 → (∀ j, j < 6 → (s.testBit j = true ↔ j ∈ vis)) → (wayL μ (rcM μ) 0 t).length = vis.length + (wback (wnx μ (rcM μ) 0) q vis (nI x)).length → (∀ j, (wayL μ (rcM μ) 0 t).getD (vis.length + j) 0 = (wback (wnx μ (rcM μ) 0) q vis (nI x)).getD j 0) → ∃ X', fL_law_987 sL sX f kk (nI n) 1 (nI U) (nI t) (nI x) (nI s) (nI vis.length) 1 X = fL_law_1135 sL sX kk (nI n) (nI U) (nI t) 1 X' ∧ SB X' μ := by
  have n6 := hD.2.1
  have h := he.1.1
  obtain ⟨e1, e2, e3, e4⟩ := cs_nth hD h
  intro q
  induction q with
  | zero =>
    intro vis x s f X hv hf hX hnd hvn hxn hxv hs hb hl hg
    have := nd_len n (x :: vis) (List.nodup_cons.mpr ⟨hxv, hnd⟩) (by
      intro y hy
      rcases List.mem_cons.mp hy with z | z
      · rw [z]; exact hxn
      · exact hvn y z)
    rw [List.length_cons] at this
    omega
  | succ q ih =>
    intro vis x s f X hv hf hX hnd hvn hxn hxv hs hb hl hg
    obtain ⟨f, rfl⟩ : ∃ k, f = k + 1 := ⟨f - 1, by omega⟩
    have hnd2 : (x :: vis).Nodup := List.nodup_cons.mpr ⟨hxv, hnd⟩
    have hvn2 : ∀ v, v ∈ x :: vis → v < n := by
      intro y hy
      rcases List.mem_cons.mp hy with z | z
      · rw [z]; exact hxn
      · exact hvn y z
    have hlen := nd_len n (x :: vis) hnd2 hvn2
    rw [List.length_cons] at hlen
    have ew : wback (wnx μ (rcM μ) 0) (q + 1) vis (nI x) = x :: wback (wnx μ (rcM μ) 0) q (x :: vis) (wnx μ (rcM μ) 0 x) := by
      rw [wback, if_neg (yI_n (by omega)), nI_clamp (by omega), if_neg hxv]
    rw [ew, List.length_cons] at hl
    rw [ew] at hg
    have hg0 := hg 0
    rw [Nat.add_zero, List.getD_cons_zero] at hg0
    obtain ⟨X1, x1, x2⟩ := q_way hD h hX ht (m := vis.length) (by omega)
    rw [if_pos hok, if_pos (by omega), hg0] at x1
    rw [fL_law_987, if_neg (by decide), if_neg (by decide), x1, Option.bind_some]
    dsimp only
    rw [if_neg (fun z => z rfl), l_1016 hD he hxn x2]
    obtain ⟨o1, o2, o3⟩ := b_or ⟨s, hs⟩ ⟨x, by omega⟩
    dsimp only at o1 o2 o3
    rw [o1, show nI vis.length + 1 = nI (vis.length + 1) from nI_plus _ 1]
    have hfin : wback (wnx μ (rcM μ) 0) q (x :: vis) (wnx μ (rcM μ) 0 x) = [] → ∃ X', fL_law_987 sL sX f kk (nI n) 1 (nI U) (nI t) (wnx μ (rcM μ) 0 x) (nI (s ||| 2 ^ x)) (nI (vis.length + 1)) 0 X1 = fL_law_1135 sL sX kk (nI n) (nI U) (nI t) 1 X' ∧ SB X' μ := by
      intro hnil
      rw [hnil, List.length_nil, Nat.zero_add] at hl
      obtain ⟨f, rfl⟩ : ∃ k, f = k + 1 := ⟨f - 1, by omega⟩
      obtain ⟨X2, y1, y2⟩ := q_way hD h x2 ht (m := vis.length + 1) (by omega)
      rw [if_pos hok, if_neg (by omega)] at y1
      refine ⟨X2, ?_, y2⟩
      rw [fL_law_987, if_pos rfl]
      unfold fL_law_1112
      rw [if_neg (by decide), y1, Option.bind_some]
      dsimp only
      rw [if_neg (fun z => z rfl)]
    unfold fL_law_1081
    rcases wnx_wn (cs_g4 hD h) (rcM_act hD h) 0 x with hy | ⟨y, hy1, hy2⟩
    · rw [if_pos (by rw [hy]; decide)]
      unfold fL_law_1102 fL_law_1103
      exact hfin (by rw [hy]; exact wback_none q)
    · rw [e1] at hy1
      rw [if_neg (by rw [hy2]; show ¬ nI y < nI 0; rw [nI_lt_iff (by omega) (by omega)]; omega)]
      have hbs : ∀ j, j < 6 → ((s ||| 2 ^ x).testBit j = true ↔ j ∈ x :: vis) := by
        intro j hj
        have := o3 ⟨j, hj⟩
        dsimp only at this
        rw [this, Bool.or_eq_true, hb j hj, decide_eq_true_eq, List.mem_cons]
        exact Or.comm
      have htb := b_tst ⟨s ||| 2 ^ x, o2⟩ ⟨y, by omega⟩
      dsimp only at htb
      rw [hbs y (by omega)] at htb
      by_cases hyv : y ∈ x :: vis
      · rw [if_pos (by rw [hy2]; exact htb.mpr hyv)]
        unfold fL_law_1102 fL_law_1103
        exact hfin (by rw [hy2]; exact wback_seen (by rw [nI_clamp (by omega)]; exact hyv) q)
      · rw [if_neg (by rw [hy2]; exact fun z => hyv (htb.mp z))]
        unfold fL_law_1103
        rw [hy2]
        rw [hy2] at hl hg
        refine ih (x :: vis) y (s ||| 2 ^ x) f X1 (by rw [List.length_cons]; omega) (by omega) x2 hnd2 hvn2 hy1 hyv o2 hbs (by rw [List.length_cons]; omega) ?_
        intro j
        have := hg (j + 1)
        rw [List.getD_cons_succ] at this
        rw [List.length_cons, ← this]
        congr 1
        omega
theorem l_953 (hD : Dat n K A B M wr wm) (he : LEnd n K A B M wr wm c U μ) {t : Nat} (ht : t < n) (kk : Int32 → Int32 → Int32 → Int32 → am_Mu → Option (Int32 × am_Mu)) {X : am_Mu} (hX : SB X μ) : ∃ X', fL_law_953 sL sX kk (nI n) 1 (nI U) (nI t) X = fL_law_1135 sL sX kk (nI n) (nI U) (nI t) 1 X' ∧ SB X' μ := by
  have n6 := hD.2.1
  have d0 := (hD.2.2.2 0).1
  have h := he.1.1
  have hw2 : μ 114 0 = nI (wr 0) := (he.1.2.2 0 (by omega)).1
  have h117 : μ 117 t = rcB K A B wr c 16 t := he.2.1.2.2 t ht
  have go := fun hok => l_987 (sL := sL) (sX := sX) hD he ht hok kk 20 [] t 0 am_F X rfl (by unfold am_F; omega) hX List.nodup_nil (fun v hv => absurd hv List.not_mem_nil) ht List.not_mem_nil (by omega) (fun j _ => ⟨fun z => absurd z (by rw [Nat.zero_testBit]; decide), fun z => absurd z List.not_mem_nil⟩) (by rw [List.length_nil, Nat.zero_add]; rfl) (fun j => by rw [List.length_nil, Nat.zero_add]; rfl)
  unfold fL_law_953
  rw [hX 114 (by omega), hw2]
  by_cases ht0 : t = wr 0
  · rw [if_pos (by rw [ht0])]
    exact go (Or.inl ht0)
  · rw [if_neg (fun z => ht0 ((nI_inj (by omega) (by omega)).mp z)), inb_n (by omega) (by omega), cond_true, nI_clamp (show t < 2 ^ 31 by omega), hX 117 (by omega), h117]
    obtain ⟨z1, z2⟩ := rc_0 hD h (show 16 ≤ 16 by omega) t
    by_cases hq : rcB K A B wr c 16 t = -1
    · rw [if_pos (by rw [hq]; decide)]
      obtain ⟨X2, y1, y2⟩ := q_way hD h hX ht (m := 0) (by omega)
      rw [if_neg (fun z => z.elim ht0 (fun y => y hq))] at y1
      refine ⟨X2, ?_, y2⟩
      show fL_law_987 sL sX (99999 + 1) kk (nI n) 1 (nI U) (nI t) (nI t) 0 0 0 X = _
      rw [fL_law_987, if_pos rfl]
      unfold fL_law_1112
      rw [if_neg (by decide), show (0 : Int32) = nI 0 from rfl, show fB_way (nI 0) (nI 0) (nI t) (nI 0) X = _ from y1, Option.bind_some]
      dsimp only
      rw [if_neg (fun z => z rfl)]
    · obtain ⟨a, a1, a2⟩ := z2 hq
      rw [if_neg (by rw [a2]; show ¬ nI a < nI 0; rw [nI_lt_iff (by omega) (by omega)]; omega)]
      exact go (Or.inr hq)
/-- the marks of a thing -/
theorem l_829 (hD : Dat n K A B M wr wm) (he : LEnd n K A B M wr wm c U μ) (hU : U < 60) {t : Nat} (ht : t < n) (kk : Int32 → Int32 → Int32 → Int32 → am_Mu → Option (Int32 × am_Mu)) : ∀ q j f X, j + q = 3 → q < f → SB X μ → ∃ X', fL_law_829 sL sX f kk (nI n) 1 (nI U) (nI t) (nI j) X = fL_law_953 sL sX kk (nI n) 1 (nI U) (nI t) X' ∧ SB X' μ := by
  have n6 := hD.2.1
  have h := he.1.1
  intro q
  induction q with
  | zero =>
    intro j f X hj hf hX
    obtain ⟨f, rfl⟩ : ∃ k, f = k + 1 := ⟨f - 1, by omega⟩
    have : j = 3 := by omega
    subst this
    exact ⟨X, by rw [fL_law_829, if_pos (by decide)], hX⟩
  | succ q ih =>
    intro j f X hj hf hX
    obtain ⟨f, rfl⟩ : ∃ k, f = k + 1 := ⟨f - 1, by omega⟩
    have w9 := (snp_all hD h (show 60 ≤ 9000 by omega)).1
    have r118 : μ 118 t = nI (wiB 0 K A B M wr wm c U t) := he.2.2.1 t ht
    have r115 : μ 115 t = nI (wiB 0 K A B M wr wm c 9000 t) := by rw [w9]; exact he.2.1.1 t ht
    have lU : wiB 0 K A B M wr wm c U t < 4 := (rel_wi hD h 0 (v := U) (by omega) t ht).1
    have l9 : wiB 0 K A B M wr wm c 9000 t < 4 := (rel_wi hD h 0 (v := 9000) (by omega) t ht).1
    obtain ⟨X1, x1, x2⟩ := q_mark hD h hX (t := t) (j := j) (v := U) ht (by omega) (by omega)
    obtain ⟨X2, y1, y2⟩ := q_mark hD h x2 (t := t) (j := j) (v := 9000) ht (by omega) (by omega)
    obtain ⟨X3, z1, z2⟩ := q_mark9 hD h y2 (t := t) (j := j) (v := U) ht (by omega) (by omega)
    have y1 : fB_mark 0 (nI t) (nI j) 9000 9000 X1 = some (bv (wiB 0 K A B M wr wm c 9000 t) j, X2) := y1
    generalize wiB 0 K A B M wr wm c U t = vU at *
    generalize wiB 0 K A B M wr wm c 9000 t = v9 at *
    obtain ⟨X', u1, u2⟩ := ih (j + 1) f X3 (by omega) (by omega) z2
    refine ⟨X', ?_, u2⟩
    rw [← u1]
    have s3 : ∀ v, fL_law_921 sL sX kk (fL_law_829 sL sX f kk) (nI n) (nI U) (nI t) (nI j) v v X2 = fL_law_829 sL sX f kk (nI n) 1 (nI U) (nI t) (nI (j + 1)) X3 := by
      intro v
      unfold fL_law_921
      rw [if_neg (fun z => z rfl), z1, Option.bind_some]
      dsimp only
      rw [if_neg (fun z => z rfl)]
      unfold fL_law_946
      rw [show nI j + 1 = nI (j + 1) from nI_plus _ 1]
    have s2 : ∀ v, fL_law_878 sL sX kk (fL_law_829 sL sX f kk) (nI n) (nI U) (nI t) (nI j) v v X1 = fL_law_829 sL sX f kk (nI n) 1 (nI U) (nI t) (nI (j + 1)) X3 := by
      intro v
      unfold fL_law_878
      rw [if_neg (fun z => z rfl), y1, Option.bind_some]
      dsimp only
      by_cases hj2 : 2 ≤ j
      · rw [if_pos (show (2 : Int32) ≤ nI j from (nI_le_iff (a := 2) (by omega) (by omega)).mpr hj2)]
        have : bv v9 j = 0 := by unfold bv; rw [if_neg (by omega), if_neg (by omega)]
        rw [this]
        exact s3 0
      · rw [if_neg (by show ¬ nI 2 ≤ _; rw [nI_le_iff (by omega) (by omega)]; exact hj2), inb_n (by omega) (by omega), cond_true, nI_clamp (show t < 2 ^ 31 by omega)]
        have ex : X2 115 t = nI v9 := by rw [y2 115 (by omega)]; exact r115
        have hb := b_mrk ⟨v9, l9⟩ ⟨j, by omega⟩
        dsimp only at hb
        by_cases hp : ((nI v9 >>> (nI j &&& 31)) &&& 1) = 1
        · rw [if_neg (fun z => z hp)] at hb
          rw [if_neg (show ¬ ¬ (X2 115 t >>> (nI j &&& 31)) &&& 1 = 1 from fun z => z (by rw [ex]; exact hp)), hb]
          exact s3 2
        · rw [if_pos hp] at hb
          rw [if_pos (show ¬ (X2 115 t >>> (nI j &&& 31)) &&& 1 = 1 from fun z => hp (by rw [ex] at z; exact z)), hb]
          exact s3 0
    rw [fL_law_829, if_neg (by show ¬ nI 3 ≤ _; rw [nI_le_iff (by omega) (by omega)]; omega), if_neg (by decide), x1, Option.bind_some]
    dsimp only
    by_cases hj2 : 2 ≤ j
    · rw [if_pos (show (2 : Int32) ≤ nI j from (nI_le_iff (a := 2) (by omega) (by omega)).mpr hj2)]
      have : bv vU j = 0 := by unfold bv; rw [if_neg (by omega), if_neg (by omega)]
      rw [this]
      exact s2 0
    · rw [if_neg (by show ¬ nI 2 ≤ _; rw [nI_le_iff (by omega) (by omega)]; exact hj2), inb_n (by omega) (by omega), cond_true, nI_clamp (show t < 2 ^ 31 by omega)]
      have ex : X1 118 t = nI vU := by rw [x2 118 (by omega)]; exact r118
      have hb := b_mrk ⟨vU, lU⟩ ⟨j, by omega⟩
      dsimp only at hb
      by_cases hp : ((nI vU >>> (nI j &&& 31)) &&& 1) = 1
      · rw [if_neg (fun z => z hp)] at hb
        rw [if_neg (show ¬ ¬ (X1 118 t >>> (nI j &&& 31)) &&& 1 = 1 from fun z => z (by rw [ex]; exact hp)), hb]
        exact s2 2
      · rw [if_pos hp] at hb
        rw [if_pos (show ¬ (X1 118 t >>> (nI j &&& 31)) &&& 1 = 1 from fun z => hp (by rw [ex] at z; exact z)), hb]
        exact s2 0
end
