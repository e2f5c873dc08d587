/-! E: an act, a mistake: both sides -/
/-- what the asking of marks may write -/
def SB (X μ : am_Mu) : Prop := ∀ a, a < 53 ∨ (75 < a ∧ a < 144) ∨ 151 < a → X a = μ a
theorem SB.rf {μ : am_Mu} : SB μ μ := fun _ _ => rfl
theorem SB.ofM {M : Nat} (hM : isM M) {X' X μ : am_Mu} (h : SB X μ) (hf : FrMk M X' X) : SB X' μ := by
  intro a ha
  have lo := hM.lo
  rw [hf a (by omega) (by omega) (by omega) (by omega) (by omega) (by omega) (by omega)]
  exact h a ha
theorem SB.ofN {w : Nat} {X' X μ : am_Mu} (h : SB X μ) (hf : FrN w X' X) : SB X' μ := by
  intro a ha
  rw [hf.1 a (by omega)]
  exact h a ha
theorem SB.g1 {X μ : am_Mu} (h : SB X μ) (g : G1 μ) : G1 X := by
  refine G1.fr ⟨?_, ?_⟩ g
  · intro b hb _
    exact h b.1 (by
      have : b.1 = 1 ∨ b.1 = 2 ∨ b.1 = 3 ∨ b.1 = 4 ∨ b.1 = 108 ∨ b.1 = 110 ∨ b.1 = 111 ∨ b.1 = 112 := by
        revert hb
        simp [foot1]
        rintro (rfl | rfl | rfl | rfl | rfl | rfl | rfl | rfl) <;> simp
      omega)
  · intro b hb _
    rw [h b.1 (by
      have : b.1 = 1 ∨ b.1 = 2 ∨ b.1 = 3 ∨ b.1 = 4 ∨ b.1 = 108 ∨ b.1 = 110 ∨ b.1 = 111 ∨ b.1 = 112 := by
        revert hb
        simp [foot1]
        rintro (rfl | rfl | rfl | rfl | rfl | rfl | rfl | rfl) <;> simp
      omega)]
theorem SB.lx {l : Nat} (hl : l < 4) {X μ : am_Mu} (h : SB X μ) {rs : List LR} (g : LX (LPl l) μ rs) : LX (LPl l) X rs := g.of_fr (LPl_is hl).1 (fun a ha => h a (by omega))
theorem SB.lm {l : Nat} {X μ : am_Mu} (h : SB X μ) {rs : List LR} (g : LM l μ rs) (hg : LG rs) : LM l X rs := g.cong hg (by rw [h 114 (by omega)]) (fun a i _ _ _ _ => by rw [h a (by omega)]) (fun i _ _ => by rw [h 119 (by omega)]) (fun a i _ _ _ _ => by rw [h a (by omega)])
/-- a feast is a feast in all of these memories -/
theorem feast_all {μ : am_Mu} (g1 : G1 μ) (d : Nat) (hd : d < 1000) : ∃ r : Int32, (r = 0 ∨ r = 1) ∧ ∀ X, SB X μ → fFeasts_has (nI d) X = some (r, X) ∧ fM_isFeastDay (nI d) X = some (r, X) := by
  obtain ⟨r, hr, h1, h2⟩ := feast_both d hd μ g1
  refine ⟨r, hr, ?_⟩
  intro X hX
  obtain ⟨r', hr', k1, k2⟩ := feast_both d hd X (hX.g1 g1)
  have gX := hX.g1 g1
  obtain ⟨mo, m1, m2, m3, m4⟩ := mo_both d hd
  have hF : (μ 1 3).toNatClampNeg < am_F := by
    have := nt_le (b := 6) g1.1 g1.2.1
    have : (6 : Int32).toNatClampNeg = 6 := rfl
    unfold am_F; omega
  have e13 : X 1 3 = μ 1 3 := by rw [hX 1 (by omega)]
  have hFX : (X 1 3).toNatClampNeg < am_F := by rw [e13]; exact hF
  have kk : ∀ f, keptD X d mo f ↔ keptD μ d mo f := by
    intro f
    unfold keptD kept
    rw [hX 2 (by omega), hX 3 (by omega), hX 4 (by omega)]
  have q1 := m_outer d mo hd m1 m2 μ g1 _ am_F 0 hF (by omega)
  have q2 := m_outer d mo hd m1 m2 X gX _ am_F 0 hFX (by omega)
  have s1 : fM_isFeastDay (nI d) μ = fM_isFeastDay_7 am_F (nI d) (nI mo) (nI 0) μ := by
    unfold fM_isFeastDay
    rw [(m4 μ).2, Option.bind_some]
    rfl
  have s2 : fM_isFeastDay (nI d) X = fM_isFeastDay_7 am_F (nI d) (nI mo) (nI 0) X := by
    unfold fM_isFeastDay
    rw [(m4 X).2, Option.bind_some]
    rfl
  have same : r = r' := by
    rw [h2] at s1
    rw [k2] at s2
    rcases q1 with ⟨⟨f, f1, f2, f3⟩, q1⟩ | ⟨f1, q1⟩
    · rcases q2 with ⟨-, q2⟩ | ⟨n2, -⟩
      · rw [q1] at s1
        rw [q2] at s2
        rw [Option.some.injEq, Prod.mk.injEq] at s1 s2
        rw [s1.1, s2.1]
      · exact absurd ((kk f).mpr f3) (n2 f f1 (by rw [e13]; exact f2))
    · rcases q2 with ⟨⟨f, n1, n2, n3⟩, -⟩ | ⟨-, q2⟩
      · exact absurd ((kk f).mp n3) (f1 f n1 (by rw [← e13]; exact n2))
      · rw [q1] at s1
        rw [q2] at s2
        rw [Option.some.injEq, Prod.mk.injEq] at s1 s2
        rw [s1.1, s2.1]
  rw [same]
  exact ⟨k1, k2⟩
/-- the law of a school on a day -/
theorem law_both {μ : am_Mu} (g1 : G1 μ) (g3 : G3 μ) {s : Nat} (hs : s < 2) {m : Int32} (h0 : 0 ≤ m) (h1 : m < 1440000) : ∃ l rs, l < 4 ∧ LX (LPl l) μ rs ∧ LM l μ rs ∧ LG rs ∧ ∀ X, SB X μ → fJudge_lawAt (nI s) m X = some (LPl l, X) ∧ fM_lawOf (nI s) m X = some (nI l, X) := by
  obtain ⟨r, hr, hf⟩ := feast_all g1 (m.toNatClampNeg / 1440) (by
    have := nt_lt (b := 1440000) h0 h1
    have e : (1440000 : Int32).toNatClampNeg = 1440000 := rfl
    omega)
  have hday : m / 1440 = nI (m.toNatClampNeg / 1440) := by
    rw [← nI_nt h0, nI_clamp nt_b]
    exact nI_div (b := 1440) nt_b (by omega)
  rw [← hday] at hf
  have hl1 : lwN s 1 < 4 := by unfold lwN; split <;> omega
  have hl0 : lwN s 0 < 4 := by unfold lwN; split <;> omega
  obtain ⟨rs1, a1, a2, a3⟩ := g3 _ hl1
  obtain ⟨rs0, b1, b2, b3⟩ := g3 _ hl0
  have e1 : (2 : Int32) * nI s + 1 = nI (lwN s 1) := by
    show nI 2 * nI s + nI 1 = _
    rw [nI_mul, nI_plus]
    rfl
  have e0 : (2 : Int32) * nI s + 0 = nI (lwN s 0) := by
    show nI 2 * nI s + nI 0 = _
    rw [nI_mul, nI_plus]
    rfl
  have hlen := a3.2.1
  have cls : ∀ X, SB X μ → fJudge_lawAt (nI s) m X = (if nI rs1.length ≤ 0 then some (LPl (lwN s 0), X) else (if r = 0 then some (LPl (lwN s 0), X) else some (LPl (lwN s 1), X))) := by
    intro X hX
    have h31 : fJudge_lawAt_31 (nI s) X = some (LPl (lwN s 0), X) := by
      unfold fJudge_lawAt_31
      rw [x_lawOf hs, Option.bind_some]
    unfold fJudge_lawAt
    rw [x_lawOf hs, Option.bind_some]
    dsimp only
    rw [(LPl_is hl1).2, cond_true, (hf X hX).1, Option.bind_some]
    dsimp only
    rw [h31]
    by_cases hc : nI rs1.length ≤ 0
    · rw [if_pos hc, if_pos (by rw [(hX.lx hl1 a1).1]; exact hc)]
    · rw [if_neg hc, if_neg (by rw [(hX.lx hl1 a1).1]; exact hc)]
  have ref : ∀ X, SB X μ → fM_lawOf (nI s) m X = (if nI rs1.length ≤ 0 then some (nI (lwN s 0), X) else (if r = 0 then some (nI (lwN s 0), X) else some (nI (lwN s 1), X))) := by
    intro X hX
    have h32 : fM_lawOf_32 ((2 : Int32) * nI s) X = some (nI (lwN s 0), X) := by
      unfold fM_lawOf_32
      rw [e0]
    unfold fM_lawOf
    rw [e1, inb_n hl1 (by omega), cond_true, nI_clamp (by omega), (hX.lm a2 a3).1, (hf X hX).2, Option.bind_some]
    dsimp only
    rw [h32]
  by_cases hc : nI rs1.length ≤ 0
  · exact ⟨_, rs0, hl0, b1, b2, b3, fun X hX => ⟨by rw [cls X hX, if_pos hc], by rw [ref X hX, if_pos hc]⟩⟩
  · by_cases hr0 : r = 0
    · exact ⟨_, rs0, hl0, b1, b2, b3, fun X hX => ⟨by rw [cls X hX, if_neg hc, if_pos hr0], by rw [ref X hX, if_neg hc, if_pos hr0]⟩⟩
    · exact ⟨_, rs1, hl1, a1, a2, a3, fun X hX => ⟨by rw [cls X hX, if_neg hc, if_neg hr0], by rw [ref X hX, if_neg hc, if_neg hr0]⟩⟩
/-- the reference's act -/
theorem m_wacts {K w l s : Nat} (hw : w < 2) (hl : l < 4) (hK : K ≤ 160) {a : Nat} {b : Option Nat} (ha : 8 * a + 8 ≤ K) (hb : ∀ t, b = some t → 8 * t + 8 ≤ K ∧ ¬ a = t) {m kd sure : Int32} (hm0 : 0 ≤ m) (hm1 : m < 1440000) {rs : List LR} (hg : LG rs) {μ Y : am_Mu} {W : Wd} (hY : SB Y μ) (hlm : LM l μ rs) (hlaw : ∀ X, SB X μ → fM_lawOf (nI s) m X = some (nI l, X)) (h : MW K w Y W) (hgW : WG K W) : ∃ Y', fM_acts (nI s) (nI w) kd (nI a) (yI b) m sure Y = some Y' ∧ MW K w Y' (acS rs kd a b m sure W) ∧ FrN w Y' Y := by
  have hb' : ∀ t, b = some t → 8 * t + 8 ≤ K := fun t ht => (hb t ht).1
  have l24 := hg.2.1
  obtain ⟨Y1, k1, k2, k3⟩ := m_keeps hw hK ha hb' (W := W) 16 0 am_F Y (by omega) (by unfold am_F; omega) h (fun i hi => by omega)
  have hN1 : FrN w Y1 Y := ⟨fun r hr => k3 r (by omega) (by omega) (by omega), fun r i q1 q2 _ => by rw [k3 r (by omega) (by omega) (by omega)]⟩
  have hY1 : SB Y1 μ := hY.ofN hN1
  have hBg : WG 16 (ahA W a b) := ahA_g hgW ha hb'
  have h1 : MW K w Y1 W := h.cong (k3 _ (by omega) (by omega) (by omega)) (k3 _ (by omega) (by omega) (by omega)) (k3 _ (by omega) (by omega) (by omega))
  -- the first turn
  obtain ⟨Y2, d1, d2, d3, d4⟩ := m_wrules hw hl hK ha hb' (kd := kd) (sure := sure) hm0 hm1 hg hBg (sw := 0) (tn := 0) (x := a) (y := b) (Or.inl ⟨rfl, rfl, rfl⟩) (k21 := fM_acts_21 99999) rs [] W am_F Y1 rfl (by unfold am_F; omega) (hY1.lm hlm hg) k2 h1 hgW
  have hN2 : FrN w Y2 Y1 := ⟨fun r hr => d3 r (by omega) (by omega), d4⟩
  have hY2 : SB Y2 μ := hY1.ofN hN2
  have hB2 : WasI Y2 (ahA W a b) := by
    intro c hc
    rw [d3 147 (by omega) (by omega), d3 148 (by omega) (by omega), d3 149 (by omega) (by omega)]
    exact k2 c hc
  have e0 : sxB 0 (ahA W a b) = ahA W a b := by
    funext c
    unfold sxB sxN
    rw [if_pos rfl]
  rw [e0] at d2
  have g2 := ruS_g (A := ahA W a b) (kd := kd) hm0 hm1 ha hb' rs W hgW
  have st1 : fM_acts (nI s) (nI w) kd (nI a) (yI b) m sure Y = fM_acts_21 99999 (nI w) kd (nI a) (yI b) m sure (nI l) 1 Y2 := by
    unfold fM_acts
    have : fM_keeps (nI w) (nI a) (yI b) Y = some Y1 := k1
    rw [this, Option.bind_some, hlaw Y1 hY1, Option.bind_some]
    dsimp only
    rw [show am_F = 99999 + 1 from rfl, fM_acts_21, if_neg (by decide), if_pos (by decide)]
    unfold fM_acts_38
    exact d1
  -- the last joins
  have last : ∀ Y3 : am_Mu, WasI Y3 (ahA W a b) → MW K w Y3 (acR rs kd a b m W) → ∃ Y', fM_acts_145 (nI w) (nI a) (yI b) sure Y3 = some Y' ∧ MW K w Y' (acS rs kd a b m sure W) ∧ FrNO w Y' Y3 := by
    intro Y3 hB3 h3
    have g3 := acR_g (rs := rs) (kd := kd) hm0 hm1 ha hb' hgW
    unfold fM_acts_145
    by_cases hs : sure = 0
    · rw [hs]
      obtain ⟨Y4, i1, i2, i3⟩ := m_wlast hw hK ha hb hgW 16 0 am_F Y3 _ (by omega) (by unfold am_F; omega) h3 g3 hB3
      refine ⟨Y4, i1, i2.ext ?_, i3⟩
      intro k hk
      unfold acS
      rw [if_pos rfl]
      by_cases hc : k / 8 = a ∨ some (k / 8) = b
      · rw [if_pos hc, if_pos (by
          rcases hc with h | h
          · exact Or.inl ⟨h, Nat.zero_le _⟩
          · exact Or.inr ⟨h, Nat.zero_le _⟩)]
      · rw [if_neg hc, if_neg (by
          rintro (⟨h, -⟩ | ⟨h, -⟩)
          · exact hc (Or.inl h)
          · exact hc (Or.inr h))]
    · refine ⟨Y3, ?_, h3.ext ?_, FrNO.rf⟩
      · rw [show am_F = 99999 + 1 from rfl, fM_acts_148, if_neg (by decide), if_pos hs]
      · intro k hk
        unfold acS
        rw [if_neg hs]
  rw [st1, show (99999 : Nat) = 99998 + 1 from rfl, fM_acts_21, if_neg (by decide), if_neg (by decide)]
  unfold fM_acts_38
  cases b with
  | none =>
    have st2 : fM_acts_43 am_F (fM_acts_21 99998) (nI w) kd (nI a) (yI none) m sure (nI l) 1 1 0 Y2 = fM_acts_21 99998 (nI w) kd (nI a) (yI none) m sure (nI l) 2 Y2 := by
      rw [show am_F = 99999 + 1 from rfl, fM_acts_43, inb_n hl (by omega), cond_true, if_neg (show ¬ (1 : Int32) = 0 by decide), if_pos (show yI none = -1 from rfl)]
      unfold fM_acts_139
      split <;> rfl
    rw [st2, show (99998 : Nat) = 99997 + 1 from rfl, fM_acts_21, if_pos (by decide)]
    obtain ⟨Y', i1, i2, i3⟩ := last Y2 hB2 d2
    exact ⟨Y', i1, i2, i3.toN.trans (hN2.trans hN1)⟩
  | some t =>
    obtain ⟨htK, hat⟩ := hb t rfl
    obtain ⟨Y3, f1, f2, f3, f4⟩ := m_wrules hw hl hK ha hb' (kd := kd) (sure := sure) hm0 hm1 hg hBg (sw := 1) (tn := 1) (x := t) (y := some a) (Or.inr ⟨rfl, rfl, rfl⟩) (k21 := fM_acts_21 99998) rs [] _ am_F Y2 rfl (by unfold am_F; omega) (hY2.lm hlm hg) hB2 d2 g2
    have hN3 : FrN w Y3 Y2 := ⟨fun r hr => f3 r (by omega) (by omega), f4⟩
    have hB3 : WasI Y3 (ahA W a (some t)) := by
      intro c hc
      rw [f3 147 (by omega) (by omega), f3 148 (by omega) (by omega), f3 149 (by omega) (by omega)]
      exact hB2 c hc
    -- the swapped marks
    have hsame : ∀ L (W' : Wd), (∀ r, r ∈ L → RG r) → ruS (sxB 1 (ahA W a (some t))) kd t (some a) m L W' = ruS (ahA W t (some a)) kd t (some a) m L W' := by
      have eA : ∀ c, c < 16 → sxB 1 (ahA W a (some t)) c = ahA W t (some a) c := by
        intro c hc
        have hsx : sxN 1 c = if c < 8 then c + 8 else c - 8 := by
          unfold sxN
          rw [if_neg (show ¬ (1 : Int32) = 0 by decide)]
        unfold sxB
        rw [hsx]
        unfold ahA
        by_cases h8 : c < 8
        · rw [if_pos h8, if_pos h8, if_neg (show ¬ c + 8 < 8 by omega)]
          dsimp only
          rw [show c + 8 - 8 = c by omega]
        · rw [if_neg h8, if_neg h8, if_pos (show c - 8 < 8 by omega)]
      have eO : ∀ c, opv (sxB 1 (ahA W a (some t))) m c = opv (ahA W t (some a)) m c := by
        intro c
        unfold opv
        rw [eA _ (Nat.mod_lt _ (by decide))]
      have eS : ∀ l st, evS (sxB 1 (ahA W a (some t))) m l st = evS (ahA W t (some a)) m l st := by
        intro l
        induction l with
        | nil => exact fun _ => rfl
        | cons c l ih =>
          intro st
          rw [evS.eq_def, evS.eq_def (ahA W t (some a))]
          dsimp only
          rw [eO c]
          split
          · split <;> exact ih _
          · split
            · split <;> exact ih _
            · split
              · split <;> exact ih _
              · exact ih _
      intro L
      induction L with
      | nil => exact fun _ _ => rfl
      | cons r L ih =>
        intro W' hr
        have eV : evV (sxB 1 (ahA W a (some t))) m r.2.1 = evV (ahA W t (some a)) m r.2.1 := by
          unfold evV
          rw [eS]
        rw [ruS, ruS, eV, ih _ (fun r hr' => hr r (List.mem_cons_of_mem _ hr'))]
    rw [hsame _ _ hg.1] at f2
    change fM_acts_43 am_F (fM_acts_21 99998) (nI w) kd (nI a) (yI (some t)) m sure (nI l) 1 1 0 Y2 = fM_acts_21 99998 (nI w) kd (nI a) (yI (some t)) m sure (nI l) 2 Y3 at f1
    rw [f1, show (99998 : Nat) = 99997 + 1 from rfl, fM_acts_21, if_pos (by decide)]
    obtain ⟨Y', i1, i2, i3⟩ := last Y3 hB3 f2
    exact ⟨Y', i1, i2, i3.toN.trans (hN3.trans (hN2.trans hN1))⟩
