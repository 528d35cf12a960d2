/-! ===== pure mathematics 12: bridgeOf, personOf, many, row, trace, item, taken ===== -/
theorem n_inN (m : Nat) (hm : m < 2147483648) {x : Int32} (h : x < 0 ∨ nI m ≤ x) : F_X12_in x.toInt64 0 ((nI m - 1).toInt64) = some 0 := by
  rw [n_in32 x 0 (nI m - 1) rfl (by rw [Int32.toInt_toInt64]), bI_f]
  intro ⟨h1, h2⟩
  have e : (nI m - 1).toInt = (m : Int) - 1 := by
    have := nI_toInt (n := m) (by omega)
    rw [fb_subI (by rw [this]; show _ ≤ (m : Int) - 1; omega) (by rw [this]; show (m : Int) - 1 < _; omega), this]; rfl
  rw [fa_le, e] at h2
  rcases h with h | h
  · rw [fa_lt] at h; rw [fa_le] at h1; omega
  · rw [fa_le, nI_toInt (by omega)] at h; omega
theorem n_inY {m k : Nat} (hm : m < 2147483648) (h : k < m) : F_X12_in (nI k).toInt64 0 ((nI m - 1).toInt64) = some 1 := by
  rw [n_in32 (nI k) 0 (nI m - 1) rfl (by rw [Int32.toInt_toInt64]), bI_t]
  have e : (nI m - 1).toInt = (m : Int) - 1 := by
    have := nI_toInt (n := m) (by omega)
    rw [fb_subI (by rw [this]; show _ ≤ (m : Int) - 1; omega) (by rw [this]; show (m : Int) - 1 < _; omega), this]; rfl
  refine ⟨nI_pos' (by omega), ?_⟩
  rw [fa_le, e, nI_toInt (by omega)]
  omega
theorem ne_of_toInt {x y : Int32} (h : x.toInt ≠ y.toInt) : ¬ x = y := fun e => h (congrArg _ e)
theorem st_bridgeOf : sT_bridgeOf RR := by
  intro t a u z0 z1 hR
  obtain ⟨B, ls, hk, hp, hk1, hS, hI, hRd, hL, hBg, hSt⟩ := hR.rd
  rcases d_br hS hI hRd hBg z0 with ⟨b1, b2⟩ | ⟨k, hk9, k9, rfl, b1, b2, hBk, hbk⟩
  · exact ⟨-1, u, by simp [F_X11_bridgeOf, hk, hp, hk1, b1, xopt], by simp [F_X12_bridgeOf, F_X12_bridgeOf_j20, b2], hR⟩
  rcases d_in z1 0 6 (A := 0) (B := 6) rfl rfl with ⟨-, n2, n3⟩ | ⟨-, n2, n3, n4⟩
  · have e : ∀ w : Int32, 0 ≤ w.toInt → w.toInt ≤ 6 → ¬ z1 = w := fun w h1 h2 => ne_of_toInt (by intro h; change z1.toInt < 0 ∨ 6 < z1.toInt at n3; omega)
    exact ⟨-1, u, by simp only [F_X11_bridgeOf, hk, hp, hk1, b1, xopt, if_true, Option.bind_some, if_neg (e 0 (by decide) (by decide)), if_neg (e 1 (by decide) (by decide)), if_neg (e 2 (by decide) (by decide)), if_neg (e 3 (by decide) (by decide)), if_neg (e 4 (by decide) (by decide)), if_neg (e 5 (by decide) (by decide)), if_neg (e 6 (by decide) (by decide))], by simp [F_X12_bridgeOf, F_X12_bridgeOf_j20, b2, n2], hR⟩
  obtain ⟨N, hN, rfl⟩ := nI_of2 (x := z1) (M := 6) (n := 6) rfl (by rw [fa_lt]; exact Int.not_lt.mpr n3) (by rw [fa_le]; exact n4)
  obtain ⟨g, ha⟩ := r_asks (ls := ls) (u := u) rfl hI hL k9
  obtain ⟨g0, g1, g2, g3, g4, g5⟩ := hBk
  obtain ⟨s5, s6, s7⟩ := hSt k hk9
  have its : ∀ w, w < 4 → F_X12_its (sc u g (tmS ls (u.2.1 0) k) (tlS ls (u.2.1 0) k) (opS ls (u.2.1 0) k)) (nI k) (nI w) = some (u.2.1 0 (5 + 4 * k + w)) := fun w hw => n_its _ (by omega)
  have fin : ∀ v, F_X11_bridgeOf t a (nI k) (nI N) = some v → F_X12_bridgeOf u (nI k) (nI N) = some (v, sc u g (tmS ls (u.2.1 0) k) (tlS ls (u.2.1 0) k) (opS ls (u.2.1 0) k)) → ∃ v u', F_X11_bridgeOf t a (nI k) (nI N) = some v ∧ F_X12_bridgeOf u (nI k) (nI N) = some (v, u') ∧ RR t a u' := fun v h1 h2 => ⟨v, _, h1, h2, hR.scr rfl⟩
  have cls : ∀ v, (if nI N = 0 then some (tI t (B k) 0) else if nI N = 1 then some (tI t (B k) 2) else if nI N = 2 then some (tI t (B k) 3) else if nI N = 3 then some (tI t (B k) 4) else if nI N = 4 then some (tI t (B k) 5) else if nI N = 5 then some (tI t (B k) 6) else if nI N = 6 then (if tI t (B k) 7 = 0 then some 0 else some 1) else some (-1)) = some v → F_X11_bridgeOf t a (nI k) (nI N) = some v := by
    intro v hv
    simp only [F_X11_bridgeOf, F_X11_bridgeOf_j102, hk, hp, hk1, b1, xopt, if_true, Option.bind_some, if_pos hbk]
    exact hv
  have rfr : ∀ v, (if (4 : Int32) ≤ nI N then if nI N = 4 then some (tmS ls (u.2.1 0) k) else if nI N = 5 then some (tlS ls (u.2.1 0) k) else if opS ls (u.2.1 0) k = 0 then some 0 else some 1 else F_X12_its (sc u g (tmS ls (u.2.1 0) k) (tlS ls (u.2.1 0) k) (opS ls (u.2.1 0) k)) (nI k) (nI N)) = some v → F_X12_bridgeOf u (nI k) (nI N) = some (v, sc u g (tmS ls (u.2.1 0) k) (tlS ls (u.2.1 0) k) (opS ls (u.2.1 0) k)) := by
    intro v hv
    simp only [F_X12_bridgeOf, F_X12_bridgeOf_j77, b2, n2, Option.bind_some, n10, if_false, ha, sc_5]
    by_cases c4 : (4 : Int32) ≤ nI N
    · rw [if_pos c4] at hv ⊢
      by_cases c : nI N = 4
      · rw [if_pos c] at hv ⊢; cases hv; rfl
      · rw [if_neg c] at hv ⊢
        by_cases c : nI N = 5
        · rw [if_pos c] at hv ⊢; cases hv; rfl
        · rw [if_neg c] at hv ⊢
          by_cases c : opS ls (u.2.1 0) k = 0
          · rw [if_pos c] at hv ⊢; cases hv; rfl
          · rw [if_neg c] at hv ⊢; cases hv; rfl
    · rw [if_neg c4] at hv ⊢
      rw [hv]; rfl
  rcases (show N = 0 ∨ N = 1 ∨ N = 2 ∨ N = 3 ∨ N = 4 ∨ N = 5 ∨ N = 6 by omega) with h | h | h | h | h | h | h <;> subst h
  · exact fin (u.2.1 0 (5 + 4 * k)) (cls _ (by rw [if_pos (by decide), g1])) (rfr _ (by rw [if_neg (by decide), its 0 (by decide)]; rfl))
  · exact fin (u.2.1 0 (5 + 4 * k + 1)) (cls _ (by rw [if_neg (by decide), if_pos (by decide), g3])) (rfr _ (by rw [if_neg (by decide), its 1 (by decide)]))
  · exact fin (u.2.1 0 (5 + 4 * k + 2)) (cls _ (by rw [if_neg (by decide), if_neg (by decide), if_pos (by decide), g4])) (rfr _ (by rw [if_neg (by decide), its 2 (by decide)]))
  · exact fin (u.2.1 0 (5 + 4 * k + 3)) (cls _ (by rw [if_neg (by decide), if_neg (by decide), if_neg (by decide), if_pos (by decide), g5])) (rfr _ (by rw [if_neg (by decide), its 3 (by decide)]))
  · exact fin (tmS ls (u.2.1 0) k) (cls _ (by rw [if_neg (by decide), if_neg (by decide), if_neg (by decide), if_neg (by decide), if_pos (by decide), s5])) (rfr _ (by rw [if_pos (by decide), if_pos (by decide)]))
  · exact fin (tlS ls (u.2.1 0) k) (cls _ (by rw [if_neg (by decide), if_neg (by decide), if_neg (by decide), if_neg (by decide), if_neg (by decide), if_pos (by decide), s6])) (rfr _ (by rw [if_pos (by decide), if_neg (by decide), if_pos (by decide)]))
  · refine fin (if opS ls (u.2.1 0) k = 0 then 0 else 1) (cls _ ?_) (rfr _ ?_)
    · rw [if_neg (by decide), if_neg (by decide), if_neg (by decide), if_neg (by decide), if_neg (by decide), if_neg (by decide), if_pos (by decide), s7]
      by_cases c : opS ls (u.2.1 0) k = 0
      · rw [if_pos c, if_pos c]
      · rw [if_neg c, if_neg c]
    · rw [if_pos (by decide), if_neg (by decide), if_neg (by decide)]
      by_cases c : opS ls (u.2.1 0) k = 0
      · rw [if_pos c, if_pos c]
      · rw [if_neg c, if_neg c]
theorem st_personOf : sT_personOf RR := by
  intro t a u z0 z1 hR
  obtain ⟨B, ls, hk, hp, hk1, hS, hI, hRd, hL, hBg, hSt⟩ := hR.rd
  obtain ⟨q4, q5, q6, -, -, o4, o5, o6, -⟩ := pe_f hS
  rcases d_pe hS hI hRd z0 with ⟨b1, b2⟩ | ⟨k, -, hk6, rfl, b1, b2⟩
  · exact ⟨-1, by simp [F_X11_personOf, hk, hp, hk1, b1], by simp [F_X12_personOf, F_X12_personOf_j29, F_X12_personOf_j30, b2], hR⟩
  obtain ⟨v4, v5, v6⟩ := pe_v hRd hk6
  obtain ⟨t0, t1, t2⟩ := told3 u hk6
  have ix : xIn (nI k) 6 := n_xIn hk6 (by decide)
  rcases d_in z1 0 2 (A := 0) (B := 2) rfl rfl with ⟨-, n2, n3⟩ | ⟨-, n2, n3, n4⟩
  · have e : ∀ w : Int32, 0 ≤ w.toInt → w.toInt ≤ 2 → ¬ z1 = w := fun w h1 h2 => ne_of_toInt (by intro h; change z1.toInt < 0 ∨ 2 < z1.toInt at n3; omega)
    exact ⟨-1, by simp only [F_X11_personOf, hk, hp, hk1, b1, if_true, n10, if_false, Option.bind_some, if_neg (e 0 (by decide) (by decide)), if_neg (e 1 (by decide) (by decide)), if_neg (e 2 (by decide) (by decide))], by simp [F_X12_personOf, F_X12_personOf_j29, F_X12_personOf_j30, b2, n2], hR⟩
  obtain ⟨N, hN, rfl⟩ := nI_of2 (x := z1) (M := 2) (n := 2) rfl (by rw [fa_lt]; exact Int.not_lt.mpr n3) (by rw [fa_le]; exact n4)
  have ref : F_X12_personOf u (nI k) (nI N) = F_X12_told u (nI k) (nI N) := by
    simp only [F_X12_personOf, F_X12_personOf_j30, b2, n2, Option.bind_some, n10, if_false]
    cases F_X12_told u (nI k) (nI N) <;> rfl
  rcases (show N = 0 ∨ N = 1 ∨ N = 2 by omega) with h | h | h <;> subst h
  · exact ⟨u.2.1 0 (41 + 3 * k), by simp only [F_X11_personOf, hk, hp, hk1, b1, if_true, n10, if_false, Option.bind_some, if_pos (show nI 0 = (0 : Int32) by decide), q4, o4.1, o4.2, if_pos ix, v4], by rw [ref]; exact t0, hR⟩
  · exact ⟨u.2.1 0 (41 + 3 * k + 1), by simp only [F_X11_personOf, hk, hp, hk1, b1, if_true, n10, if_false, Option.bind_some, if_neg (show ¬ nI 1 = 0 by decide), if_pos (show nI 1 = (1 : Int32) by decide), q5, o5.1, o5.2, if_pos ix, v5], by rw [ref]; exact t1, hR⟩
  · exact ⟨u.2.1 0 (41 + 3 * k + 2), by simp only [F_X11_personOf, hk, hp, hk1, b1, if_true, n10, if_false, Option.bind_some, if_neg (show ¬ nI 2 = 0 by decide), if_neg (show ¬ nI 2 = 1 by decide), if_pos (show nI 2 = (2 : Int32) by decide), q6, o6.1, o6.2, if_pos ix, v6], by rw [ref]; exact t2, hR⟩
theorem r_traced {t : xT} {a : Nat} {u : xS} (h : TrC t a u) : F_X12_traced u = some (u.1 32) := by
  obtain ⟨-, -, m, hm, e⟩ := h
  unfold F_X12_traced F_X12_traced_j18
  rw [e]
  by_cases c : m = 30
  · subst c; rw [if_pos (by decide)]; rfl
  · rw [if_neg (show ¬ (30 : Int32) ≤ nI m from nI_ge (a := m) (b := 30) (by omega) (by decide))]
theorem RR.more {t : xT} {a : Nat} {u : xS} (h : RR t a u) : SkC t a ∧ TpC t a u ∧ RwC t a u ∧ ShC t a u ∧ SfC t a u ∧ TrC t a u ∧ ∃ L ls, LawC t a (a + 1) L ls (u.2.1 0) := by
  obtain ⟨B, B', L, L', ls, ls', hS, ⟨hI, hRd, hLw, hBg, hSt⟩, -, -, h1, h2, h3, h4, h5⟩ := h
  exact ⟨hS, h1, h2, h3, h4, h5, L, ls, hLw⟩
theorem st_many : sT_many RR := by
  intro t a u z0 hR
  obtain ⟨B, ls, hk, hp, hk1, hS, hI, hRd, hL, hBg, hSt⟩ := hR.rd
  obtain ⟨-, hTp, hRw, -, -, hTr, L, ls2, hLw⟩ := hR.more
  have h10 : tP t a 10 = some (a + 38) := hS.2.2.2.2.2.2.2.2.1
  have k38 : tK t (a + 38) = 10 := hS.2.2.2.2.2.2.2.2.2.2.2.2.2.2.2.2.2.2.2.1.1
  have rt := r_traced hTr
  unfold F_X11_many F_X12_many
  by_cases c0 : z0 = 0
  · rw [if_pos c0, if_pos c0]; exact ⟨u.2.1 0 0, by simp only [hk, hp, hk1, if_true, Option.bind_some, hRd.1], by rw [if_pos (by decide)]; rfl, hR⟩
  rw [if_neg c0, if_neg c0]
  by_cases c1 : z0 = 1
  · rw [if_pos c1, if_pos c1]; exact ⟨u.2.1 0 1, by simp only [hk, hp, hk1, if_true, Option.bind_some, hRd.2.2.1], by rw [if_pos (by decide)]; rfl, hR⟩
  rw [if_neg c1, if_neg c1]
  by_cases c2 : z0 = 2
  · rw [if_pos c2, if_pos c2]; exact ⟨u.2.1 0 4, by simp only [hk, hp, hk1, if_true, Option.bind_some, hLw.1, hLw.2.1.1, hLw.2.2.1], by rw [if_pos (by decide)]; rfl, hR⟩
  rw [if_neg c2, if_neg c2]
  by_cases c3 : z0 = 3
  · rw [if_pos c3, if_pos c3]; exact ⟨u.2.1 0 2, by simp only [hk, hp, hk1, if_true, Option.bind_some, hRd.2.2.2.1], by rw [if_pos (by decide)]; rfl, hR⟩
  rw [if_neg c3, if_neg c3]
  by_cases c4 : z0 = 4
  · rw [if_pos c4, if_pos c4]; exact ⟨u.1 16, by simp only [hk, if_true, hRw.2.1], rfl, hR⟩
  rw [if_neg c4, if_neg c4]
  by_cases c5 : z0 = 5
  · rw [if_pos c5, if_pos c5]; exact ⟨u.1 18, by simp only [hk, if_true, hTp.2.1], rfl, hR⟩
  rw [if_neg c5, if_neg c5]
  by_cases c6 : z0 = 6
  · rw [if_pos c6, if_pos c6]; exact ⟨u.1 32, by simp only [hk, if_true, h10, k38, Option.bind_some, hTr.2.1], by rw [rt]; rfl, hR⟩
  rw [if_neg c6, if_neg c6]
  exact ⟨-1, rfl, rfl, hR⟩
theorem st_trace : sT_trace RR := by
  intro t a u z0 hR
  obtain ⟨hS, -, -, -, -, hTr, -⟩ := hR.more
  have hk : tK t a = 11 := hS.1
  have h10 : tP t a 10 = some (a + 38) := hS.2.2.2.2.2.2.2.2.1
  obtain ⟨k38, p38⟩ := hS.2.2.2.2.2.2.2.2.2.2.2.2.2.2.2.2.2.2.2.1
  obtain ⟨k39, n39⟩ := hS.2.2.2.2.2.2.2.2.2.2.2.2.2.2.2.2.2.2.2.2.1
  have rt := r_traced hTr
  obtain ⟨hv, e1, m, hm, e⟩ := hTr
  rw [e] at e1 rt
  rcases pk_ix z0 (n := m) (by omega) with c | c | ⟨k, hkm, rfl⟩
  · exact ⟨-3, by simp only [F_X11_trace, hk, h10, k38, if_true, Option.bind_some, F_X10_bodyAt, F_X10_bodyAt_j30, F_X10_bodyAt_j32, if_pos c], by simp only [F_X12_trace, rt, Option.bind_some, n_inN m (by omega) (Or.inl c), if_true, F_X12_trace_j27], hR⟩
  · refine ⟨-3, ?_, by simp only [F_X12_trace, rt, Option.bind_some, n_inN m (by omega) (Or.inr c), if_true, F_X12_trace_j27], hR⟩
    by_cases d : z0 < 0
    · simp only [F_X11_trace, hk, h10, k38, if_true, Option.bind_some, F_X10_bodyAt, F_X10_bodyAt_j30, F_X10_bodyAt_j32, if_pos d]
    · simp only [F_X11_trace, hk, h10, k38, if_true, Option.bind_some, F_X10_bodyAt, F_X10_bodyAt_j30, F_X10_bodyAt_j32, if_neg d, e1, if_pos c]
  · have ecl : (nI k).toNatClampNeg = k := n_cl (by omega)
    have ix : xIn (nI k) 30 := n_xIn (by omega) (by decide)
    have w : tI t (a + 39) (nI k).toNatClampNeg = u.2.1 31 (nI k).toNatClampNeg := by rw [ecl]; exact hv k (by omega)
    refine ⟨u.2.1 31 (nI k).toNatClampNeg, ?_, ?_, hR⟩
    · simp only [F_X11_trace, hk, h10, k38, if_true, Option.bind_some, F_X10_bodyAt, F_X10_bodyAt_j32, if_neg (nI_pos (show k < 2 ^ 31 by omega)), e1, if_neg (nI_ge hkm (show m < 2 ^ 31 by omega)), p38, k39, n39, if_neg (nI_ge (show k < 30 by omega) (show 30 < 2 ^ 31 by decide)), if_pos ix, w]
    · simp only [F_X12_trace, rt, Option.bind_some, n_inY (show m < 2147483648 by omega) hkm, n10, if_false, F_X12_trace_j27, if_pos ix]
