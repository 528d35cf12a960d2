/-! ===== pure mathematics 6: settle and asks ===== -/
theorem un_c (kd as : Int32) : F_X11_isUnder kd as = some (bB (un kd as)) := by
  unfold F_X11_isUnder F_X11_isUnder_j19 F_X11_isUnder_j29 F_X11_isUnder_j33 F_X11_isUnder_j34 un
  rw [bB_d]
  by_cases h0 : as = 0
  · simp [h0]
  · by_cases h1 : as = kd
    · subst h1; simp
    · have h1' : ¬ kd = as := fun h => h1 h.symm
      by_cases h2 : as = 2
      · subst h2
        by_cases h3 : kd = 3
        · subst h3; simp
        · simp [h1', h1, h3]
      · by_cases h4 : as = 4
        · subst h4
          by_cases h5 : kd = 5
          · subst h5; simp
          · simp [h1', h1, h5]
        · simp [h0, h1, h1', h2, h4]
theorem un_r (kd as : Int32) : F_X12_isUnder kd as = some (bB (un kd as)) := by
  unfold F_X12_isUnder F_X12_isUnder_j19 F_X12_isUnder_j29 F_X12_isUnder_j33 F_X12_isUnder_j34 un
  rw [bB_d]
  by_cases h0 : as = 0
  · simp [h0]
  · by_cases h1 : kd = as
    · subst h1; simp
    · by_cases h2 : as = 2
      · subst h2
        by_cases h3 : kd = 3
        · subst h3; simp
        · simp [h1, h3]
      · by_cases h4 : as = 4
        · subst h4
          by_cases h5 : kd = 5
          · subst h5; simp
          · simp [h1, h5]
        · simp [h0, h1, h2, h4]
theorem c_fact {t : xT} {p k : Nat} {s : Nat → Int32} (h : BkC t p k s) (c : Int32) : F_X2_factOf t c p (s 3) = some (fct s k c) := by
  obtain ⟨hK, h0, h1, h2, h3, h4⟩ := h
  have hb : isBk (tK t p) := by rw [hK]; exact kK_bk _
  unfold F_X2_factOf fct
  rw [if_pos hb, if_pos hb, if_pos hb, if_pos hb, h1, h2, h3, h4]
  by_cases h5 : c = -5
  · rw [if_pos h5, if_pos h5]
  rw [if_neg h5, if_neg h5]
  by_cases h4 : c = -4
  · rw [if_pos h4, if_pos h4]
  rw [if_neg h4, if_neg h4]
  by_cases h3 : c = -3
  · rw [if_pos h3, if_pos h3]
  rw [if_neg h3, if_neg h3]
  by_cases h2 : c = -2
  · rw [if_pos h2, if_pos h2]
  rw [if_neg h2, if_neg h2]
  by_cases h1 : c = -1
  · rw [if_pos h1, if_pos h1]
  rw [if_neg h1, if_neg h1]
theorem bB_0 (b : Bool) : (bB b = 0) = (b = false) := by cases b <;> simp [bB]
theorem xF_big {n : Nat} (h : n < 1000000) : n < xFuel := h
theorem c_clause {t : xT} {a L p k : Nat} {s : Nat → Int32} {ls : yLS} {fs cs : Nat → Nat} (hL : LwO t a L) (h0 : tI t L 0 = s 4) (hn : nC s ≤ 8) (hs : s 4 = nI (nC s)) (hW : LwK (fun j => tI t (L + j)) ls s (nC s) fs cs) (hB : BkC t p k s) : ∀ m i n, i + m = nC s → m < n → F_X2_clauseFor_l2 n t L p (s 3) (nI i) = some (match clF ls s k m i with | none => -1 | some j => nI j)
  | 0, i, 0, _, hm => absurd hm (Nat.not_lt_zero _)
  | 0, i, n + 1, hi, _ => by
    unfold F_X2_clauseFor_l2 F_X2_clauseFor_j61
    rw [if_pos hL.1, h0, hs, if_pos (nI_le (by omega) (by omega))]; rfl
  | m + 1, i, 0, _, hm => absurd hm (Nat.not_lt_zero _)
  | m + 1, i, n + 1, hi, hm => by
    have hb : isBk (tK t p) := by rw [hB.1]; exact kK_bk _
    have h1 := hL.2.1 1 (by decide) (by decide)
    have h4 := hL.2.1 4 (by decide) (by decide)
    have h5 := hL.2.1 5 (by decide) (by decide)
    obtain ⟨⟨w1, w2, w3, w4, w5, w6⟩, _, _, f1, f2, c1, c2, hst, hcd, hok⟩ := hW.2.2 i (by omega)
    have ecl : (nI i).toNatClampNeg = i := n_cl (by omega)
    have ih := c_clause hL h0 hn hs hW hB m (i + 1) n (by omega) (by omega)
    conv => lhs; unfold F_X2_clauseFor_l2
    have e8 : ¬ (8 : Int32) ≤ nI i := nI_ge (a := i) (b := 8) (by omega) (by decide)
    have v1 : tI t (L + 1) (nI i).toNatClampNeg = s (71 + 4 * i) := by rw [ecl]; exact w1
    have v4 : tI t (L + 4) (nI i).toNatClampNeg = nI (fs i) := by rw [ecl]; exact w4
    have v5 : tI t (L + 5) (nI i).toNatClampNeg = nI (fs (i + 1)) := by rw [ecl]; exact w5
    have hh : F_X2_holds t L (nI (fs i)) (nI (fs (i + 1))) p (s 3) = some (bB (hold ls s k i)) := by
      unfold F_X2_holds
      exact c_holds (fct s k) hL f2 (c_fact hB) (ls i) [] 1 (fs i) xFuel (by rcases hok with h | h; exact Or.inr ⟨h, rfl⟩; exact Or.inl h) hst f1.symm (xF_big (by omega)) Hb_1
    rw [if_pos hL.1, h0, hs, if_neg (nI_ge (by omega) (by omega)), if_neg e8, if_pos hb, h1.1, Option.bind_some, if_pos h1.2.1, h1.2.2, if_pos (n_xIn (by omega) (by decide)), v1, hB.2.1, un_c, Option.bind_some]
    simp only [F_X2_clauseFor_j55, xlet, nI_1, ih, bB_0]
    conv => rhs; unfold clF
    by_cases c : un (s (5 + 4 * k)) (s (71 + 4 * i)) = false
    · rw [if_pos c, if_neg (by rw [c]; intro h; cases h.1)]
    · rw [if_neg c, h4.1, Option.bind_some, if_pos h4.2.1, h4.2.2, if_pos (n_xIn (by omega) (by decide)), h5.1, Option.bind_some, if_pos h5.2.1, h5.2.2, if_pos (n_xIn (by omega) (by decide)), v4, v5, hh, Option.bind_some]
      by_cases d : hold ls s k i = false
      · rw [if_pos ((bB_0 _).mpr d), if_neg (by rw [d]; intro h; cases h.2)]
      · rw [if_neg (fun h => d ((bB_0 _).mp h)), if_pos ⟨by simpa using c, by simpa using d⟩]
theorem clF_lt (ls : yLS) (s : Nat → Int32) (k : Nat) : ∀ m i j, clF ls s k m i = some j → i ≤ j ∧ j < i + m
  | 0, i, j, h => by cases h
  | m + 1, i, j, h => by
    unfold clF at h
    by_cases c : un (s (5 + 4 * k)) (s (71 + 4 * i)) = true ∧ hold ls s k i = true
    · rw [if_pos c] at h; cases h; omega
    · rw [if_neg c] at h; have := clF_lt ls s k m (i + 1) j h; omega
theorem c_isCl {n j : Nat} (hn : n ≤ 8) (h : j < n) : F_X2_isClause (nI j) (nI n) = some 1 := by
  unfold F_X2_isClause F_X2_isClause_j20
  rw [if_neg (nI_pos (by omega)), if_neg (nI_ge h (by omega)), if_neg (show ¬ (8 : Int32) ≤ nI j from nI_ge (a := j) (b := 8) (by omega) (by decide))]; rfl
theorem c_deed {t : xT} {a L k : Nat} {s : Nat → Int32} {ls : yLS} {fs cs : Nat → Nat} (hL : LwO t a L) (h0 : tI t L 0 = s 4) (hn : nC s ≤ 8) (hs : s 4 = nI (nC s)) (hW : LwK (fun j => tI t (L + j)) ls s (nC s) fs cs) : F_X2_deedOf t L (match clS ls s k with | none => -1 | some j => nI j) = some (ddS ls s k) ∧ F_X2_dearerBy t L (match clS ls s k with | none => -1 | some j => nI j) = some (mmS ls s k) := by
  unfold F_X2_deedOf F_X2_dearerBy ddS mmS F_X2_deedOf_j21 F_X2_dearerBy_j21
  rw [if_pos hL.1, if_pos hL.1, h0, hs]
  cases hc : clS ls s k with
  | none =>
    show (F_X2_isClause (-1) _).bind _ = _ ∧ (F_X2_isClause (-1) _).bind _ = _
    have : F_X2_isClause (-1) (nI (nC s)) = some 0 := rfl
    rw [this]; exact ⟨rfl, rfl⟩
  | some j =>
    have hj := clF_lt ls s k _ _ j hc
    have h2 := hL.2.1 2 (by decide) (by decide)
    have h3 := hL.2.1 3 (by decide) (by decide)
    have ecl : (nI j).toNatClampNeg = j := n_cl (by omega)
    obtain ⟨⟨w1, w2, w3, -⟩, -⟩ := hW.2.2 j (by omega)
    have v2 : tI t (L + 2) (nI j).toNatClampNeg = s (72 + 4 * j) := by rw [ecl]; exact w2
    have v3 : tI t (L + 3) (nI j).toNatClampNeg = s (73 + 4 * j) := by rw [ecl]; exact w3
    show (F_X2_isClause (nI j) _).bind _ = _ ∧ (F_X2_isClause (nI j) _).bind _ = _
    rw [c_isCl hn (by omega), Option.bind_some, Option.bind_some, if_neg (by decide), if_neg (by decide), h2.1, h3.1, Option.bind_some, Option.bind_some, if_pos h2.2.1, if_pos h3.2.1, h2.2.2, h3.2.2, if_pos (n_xIn (by omega) (by decide)), if_pos (n_xIn (by omega) (by decide))]
    show some (tI t (L + 2) (nI j).toNatClampNeg) = _ ∧ some (tI t (L + 3) (nI j).toNatClampNeg) = _
    rw [v2, v3]; exact ⟨rfl, rfl⟩
theorem LwK.congr {T T' : Nat → Nat → Int32} {ls : yLS} {s : Nat → Int32} {n : Nat} {fs cs : Nat → Nat} (h : LwK T ls s n fs cs) (e : ∀ j, 1 ≤ j → j ≤ 8 → T' j = T j) : LwK T' ls s n fs cs := by
  unfold LwK at h ⊢
  rw [e 1 (by decide) (by decide), e 2 (by decide) (by decide), e 3 (by decide) (by decide), e 4 (by decide) (by decide), e 5 (by decide) (by decide), e 6 (by decide) (by decide), e 7 (by decide) (by decide), e 8 (by decide) (by decide)]
  exact h
/-- settled: only the three now-fields of one bridge change -/
def Std (t t' : xT) (p : Nat) (x y z : Int32) : Prop := (∀ q, q ≠ p → Sm t t' q) ∧ t'.1 = t.1 ∧ tK t' p = tK t p ∧ tN t' p = tN t p ∧ tP t' p = tP t p ∧ (∀ j, j ≤ 4 → tI t' p j = tI t p j) ∧ tI t' p 5 = x ∧ tI t' p 6 = y ∧ tI t' p 7 = z
theorem upd2 (g : Nat → Int32) (i j : Nat) (v : Int32) : upd g j v i = if i = j then v else g i := rfl
theorem c_settle {t : xT} {a L p k : Nat} {s : Nat → Int32} {ls : yLS} {r : Nat} (hLw : LawC t a r L ls s) (hI : Iv s) (hB : BkC t p k s) (hpL : p ≠ L) : ∃ t', F_X0_settle t p L (s 3) = some t' ∧ Std t t' p (tmS ls s k) (tlS ls s k) (opS ls s k) := by
  obtain ⟨-, hL, h0, fs, cs, hW⟩ := hLw
  obtain ⟨-, -, -, ⟨hn, hs⟩, -⟩ := hI
  have hb : isBk (tK t p) := by rw [hB.1]; exact kK_bk _
  have hcl : F_X2_clauseFor t L p (s 3) = some (match clS ls s k with | none => -1 | some j => nI j) := c_clause hL h0 hn hs hW hB (nC s) 0 xFuel (by omega) (xF_big (by omega))
  have hde := c_deed (k := k) hL h0 hn hs hW
  unfold F_X0_settle
  rw [if_pos hL.1, hcl, Option.bind_some, hde.1, Option.bind_some]
  have j26 : ∀ z, (z = 0 ∨ z = 1) → ∃ t', F_X0_settle_j26 t p L (s 3) (match clS ls s k with | none => -1 | some j => nI j) (ddS ls s k) p z = some t' ∧ Std t t' p (tmS ls s k) (tlS ls s k) z := by
    intro z hz
    unfold F_X0_settle_j26
    rw [if_pos hb, if_pos hz]
    have b1 : isBk (tK (tSI t p 7 z) p) := hb
    have i1 : tI (tSI t p 7 z) p 2 = s (5 + 4 * k + 1) := by rw [tI_SI, upd_n _ _ (by decide)]; exact hB.2.2.2.1
    have j49 : ∀ x, x = s (5 + 4 * k + 1) + (if ddS ls s k = 2 then 1 else 0) → ∃ t', F_X0_settle_j49 (tSI t p 7 z) p L (s 3) (match clS ls s k with | none => -1 | some j => nI j) (ddS ls s k) p x = some t' ∧ Std t t' p (tmS ls s k) (tlS ls s k) z := by
      intro x hx
      unfold F_X0_settle_j49
      rw [if_pos b1]
      have b2 : isBk (tK (tSI (tSI t p 7 z) p 5 x) p) := hb
      have l2 : tK (tSI (tSI t p 7 z) p 5 x) L = 2 := hL.1
      have d2 : F_X2_dearerBy (tSI (tSI t p 7 z) p 5 x) L (match clS ls s k with | none => -1 | some j => nI j) = some (mmS ls s k) := by
        refine (c_deed (t := tSI (tSI t p 7 z) p 5 x) (a := a) (fs := fs) (cs := cs) ⟨hL.1, hL.2.1, hL.2.2.1, hL.2.2.2⟩ ?_ hn hs ?_).2
        · rw [tI_SIn _ _ _ _ (fun h => hpL h.symm), tI_SIn _ _ _ _ (fun h => hpL h.symm)]; exact h0
        · have e : ∀ j, 1 ≤ j → j ≤ 8 → tI (tSI (tSI t p 7 z) p 5 x) (L + j) = tI t (L + j) := by
            intro j j1 j2
            have hne : L + j ≠ p := by
              intro h
              have hk : tK t (L + j) = 20 := by
                by_cases c : j ≤ 5
                · exact (hL.2.1 j j1 c).2.1
                · exact (hL.2.2.1 j (by omega) j2).2.1
              rw [h] at hk
              rw [hk] at hb
              revert hb; decide
            rw [tI_SIn _ _ _ _ hne, tI_SIn _ _ _ _ hne]
          exact hW.congr e
      have i2 : tI (tSI (tSI t p 7 z) p 5 x) p 3 = s (5 + 4 * k + 2) := by rw [tI_SI, upd_n _ _ (by decide), tI_SI, upd_n _ _ (by decide)]; exact hB.2.2.2.2.1
      have j72 : ∀ y, y = tbS ls s k → ∃ t', F_X0_settle_j72 (tSI (tSI t p 7 z) p 5 x) p (s 3) p y = some t' ∧ Std t t' p (tmS ls s k) (tlS ls s k) z := by
        intro y hy
        unfold F_X0_settle_j72
        rw [if_pos b2]
        have b3 : isBk (tK (tSI (tSI (tSI t p 7 z) p 5 x) p 6 y) p) := hb
        have i3 : tI (tSI (tSI (tSI t p 7 z) p 5 x) p 6 y) p 4 = s (5 + 4 * k + 3) := by rw [tI_SI, upd_n _ _ (by decide), tI_SI, upd_n _ _ (by decide), tI_SI, upd_n _ _ (by decide)]; exact hB.2.2.2.2.2
        have gen : ∀ X Y, X = tmS ls s k → Y = tlS ls s k → ∀ t', (∀ q, q ≠ p → Sm t t' q) → t'.1 = t.1 → tK t' p = tK t p → tN t' p = tN t p → tP t' p = tP t p → tI t' p = upd (upd (upd (tI t p) 7 z) 5 X) 6 Y → Std t t' p (tmS ls s k) (tlS ls s k) z := by
          intro X Y hX hY t' g1 g2 g3 g4 g5 g6
          refine ⟨g1, g2, g3, g4, g5, fun j hj => ?_, ?_, ?_, ?_⟩
          · rw [g6, upd_n _ _ (by omega), upd_n _ _ (by omega), upd_n _ _ (by omega)]
          · rw [g6, upd_n _ _ (by decide), upd_s]; exact hX
          · rw [g6, upd_s]; exact hY
          · rw [g6, upd_n _ _ (by decide), upd_n _ _ (by decide), upd_s]
        have sm3 : ∀ q, q ≠ p → Sm t (tSI (tSI (tSI t p 7 z) p 5 x) p 6 y) q := fun q hq => ((Sm.SI 7 z hq).tr (Sm.SI 5 x hq)).tr (Sm.SI 6 y hq)
        have ti3 : tI (tSI (tSI (tSI t p 7 z) p 5 x) p 6 y) p = upd (upd (upd (tI t p) 7 z) 5 x) 6 y := by rw [tI_SI, tI_SI, tI_SI]
        have kk : tK (tSI (tSI (tSI t p 7 z) p 5 x) p 6 y) p = kK (s (5 + 4 * k)) := hB.1
        show ∃ t', (if isBk (tK (tSI (tSI (tSI t p 7 z) p 5 x) p 6 y) p) then _ else none) = some t' ∧ _
        rw [if_pos b3, i3]
        by_cases cf : s 3 = s (5 + 4 * k + 3)
        · rw [if_pos cf]
          unfold F_V_feasts F_X0_feasts F_X4_feasts F_X5_feasts F_X0_settle_j87
          rw [kk]
          by_cases k3 : s (5 + 4 * k) = 3
          · refine ⟨_, by simp [k3, kK, xlet]; rfl, ?_⟩
            refine gen (x + 1) y ?_ ?_ _ (fun q hq => (sm3 q hq).tr (Sm.SI _ _ hq)) rfl rfl rfl rfl ?_
            · unfold tmS; rw [if_pos (show s (5 + 4 * k) = 3 ∧ s 3 = s (5 + 4 * k + 3) from ⟨k3, cf⟩), hx]
            · unfold tlS; rw [if_neg (by intro h; rw [k3] at h; exact absurd h.1 (by decide))]; exact hy
            · rw [tI_SI, ti3, upd_n _ _ (by decide), upd_s]
              funext j
              simp only [upd2]
              by_cases e5 : j = 5
              · subst e5; simp
              · simp [e5]
          · by_cases k5 : s (5 + 4 * k) = 5
            · refine ⟨_, by simp [k5, kK, xlet]; rfl, ?_⟩
              refine gen x (y / 2) ?_ ?_ _ (fun q hq => (sm3 q hq).tr (Sm.SI _ _ hq)) rfl rfl rfl rfl ?_
              · unfold tmS; rw [if_neg (show ¬ (s (5 + 4 * k) = 3 ∧ s 3 = s (5 + 4 * k + 3)) from fun h => k3 h.1), hx]; simp
              · unfold tlS; rw [if_pos ⟨k5, cf⟩, hy]
              · rw [tI_SI, ti3, upd_s]
                funext j
                simp only [upd2]
                by_cases e6 : j = 6
                · subst e6; simp
                · simp [e6]
            · refine ⟨tSI (tSI (tSI t p 7 z) p 5 x) p 6 y, ?_, gen x y ?_ ?_ _ sm3 rfl rfl rfl rfl ti3⟩
              · unfold kK
                by_cases k2 : s (5 + 4 * k) = 2
                · simp [k2]
                · by_cases k4 : s (5 + 4 * k) = 4
                  · simp [k4]
                  · simp [k2, k3, k4, k5]
              · unfold tmS; rw [if_neg (show ¬ (s (5 + 4 * k) = 3 ∧ s 3 = s (5 + 4 * k + 3)) from fun h => k3 h.1), hx]; simp
              · unfold tlS; rw [if_neg (fun h => k5 h.1)]; exact hy
        · rw [if_neg cf]
          refine ⟨_, rfl, gen x y ?_ ?_ _ sm3 rfl rfl rfl rfl ti3⟩
          · unfold tmS; rw [if_neg (show ¬ (s (5 + 4 * k) = 3 ∧ s 3 = s (5 + 4 * k + 3)) from fun h => cf h.2), hx]; simp
          · unfold tlS; rw [if_neg (fun h => cf h.2)]; exact hy
      show ∃ t', (if ddS ls s k = 0 then _ else _) = some t' ∧ _
      by_cases c0 : ddS ls s k = 0
      · rw [if_pos c0]; exact j72 0 (by unfold tbS; rw [if_pos c0])
      · rw [if_neg c0, if_pos b2, if_pos l2, d2, Option.bind_some, i2]
        exact j72 _ (by unfold tbS; rw [if_neg c0])
    show ∃ t', (if ddS ls s k = 2 then _ else _) = some t' ∧ _
    rw [if_pos b1, if_pos b1, i1]
    by_cases c2 : ddS ls s k = 2
    · rw [if_pos c2]; exact j49 _ (by rw [if_pos c2])
    · rw [if_neg c2]; exact j49 _ (by rw [if_neg c2]; simp)
  by_cases c3 : ddS ls s k = 3
  · rw [if_pos c3]
    have e : opS ls s k = 0 := by unfold opS; rw [if_pos c3]
    rw [e]; exact j26 0 (Or.inl rfl)
  · rw [if_neg c3]
    have e : opS ls s k = 1 := by unfold opS; rw [if_neg c3]
    rw [e]; exact j26 1 (Or.inr rfl)
