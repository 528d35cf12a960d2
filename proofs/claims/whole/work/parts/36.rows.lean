/-! ===== pure mathematics 15: the tape and the rows ===== -/
theorem mS_1 (u : xS) (j : Nat) (v : Int32) : (mS u j v).1 j = v := mS_s u j v
theorem c_entry {t : xT} {q n j : Nat} (hk : tK t q = 20) (hn : tN t q = n) (hj : j < n) (h31 : n < 2147483648) : F_X11_entryOf t q (nI j) = some (tI t q j) := by
  have e : (nI j).toNatClampNeg = j := n_cl (by omega)
  simp only [F_X11_entryOf, F_X11_entryOf_j17, if_neg (nI_pos (show j < 2 ^ 31 by omega)), hk, hn, if_true, if_neg (nI_ge hj (show n < 2 ^ 31 by omega)), if_pos (n_xIn hj h31), e]
theorem RR.wrow {t : xT} {a : Nat} {u : xS} (h : RR t a u) {j : Nat} (v : Int32) : RR (tSI t (a + 34) j v) a (mA u 15 j v) := by
  obtain ⟨hS, hTp, hRw, hSh, hSf, hTr, -⟩ := h.more
  have hl := hS.lt
  have o : Ol t (tSI t (a + 34) j v) (fun q => q = a + 34) (fun _ => False) := Ol.SI _ _ _ rfl
  have ea : tI (tSI t (a + 34) j v) a = tI t a := tI_SIn _ _ _ _ (by omega)
  refine h.own o (fun q hq => by omega) (fun _ h => h.elim) (by rw [ea]) rfl rfl rfl (hTp.ol o hl (by rw [ea]) (by omega) rfl rfl) ?_ (hSh.ol o hl id (fun r hr => by have := hr.1; exact ⟨by omega, by omega, id⟩) rfl rfl rfl) (hSf.ol o hl (by omega) id (fun r hr => by have := hr.1; exact ⟨by omega, id⟩) rfl rfl rfl) (hTr.ol o hl (by omega) (by omega) rfl rfl)
  obtain ⟨g1, g2, g3⟩ := hRw
  refine ⟨fun i hi => ?_, by rw [ea]; exact g2, g3⟩
  rw [tI_SI]
  show upd _ _ _ _ = upd (u.2.1 15) j v i
  rw [upd2, upd2, g1 i hi]
theorem RR.wrc {t : xT} {a : Nat} {u : xS} (h : RR t a u) {m : Nat} (hm : m ≤ 20) : RR (tSI t a 6 (nI m)) a (mS u 16 (nI m)) := by
  obtain ⟨hS, hTp, hRw, hSh, hSf, hTr, -⟩ := h.more
  have hl := hS.lt
  have o : Ol t (tSI t a 6 (nI m)) (fun q => q = a) (fun _ => False) := Ol.SI _ _ _ rfl
  have ea : ∀ i, i ≠ 6 → tI (tSI t a 6 (nI m)) a i = tI t a i := fun i hi => by rw [tI_SI, upd_n _ _ hi]
  refine h.own o (fun q hq => by omega) (fun _ h => h.elim) (ea 2 (by decide)) rfl rfl rfl (hTp.ol o hl (ea 4 (by decide)) (by omega) rfl rfl) ?_ (hSh.ol o hl id (fun r hr => by have := hr.1; exact ⟨by omega, by omega, id⟩) rfl rfl rfl) (hSf.ol o hl (by omega) id (fun r hr => by have := hr.1; exact ⟨by omega, id⟩) rfl rfl rfl) (hTr.ol o hl (by omega) (by omega) rfl rfl)
  obtain ⟨g1, g2, g3⟩ := hRw
  refine ⟨?_, by rw [tI_SI, upd_s, mS_1], m, hm, mS_1 _ _ _⟩
  rw [tI_SIn _ _ _ _ (by omega)]; exact g1
theorem RR.wtp {t : xT} {a : Nat} {u : xS} (h : RR t a u) {j : Nat} (v : Int32) : RR (tSI t (a + 33) j v) a (mA u 17 j v) := by
  obtain ⟨hS, hTp, hRw, hSh, hSf, hTr, -⟩ := h.more
  have hl := hS.lt
  have o : Ol t (tSI t (a + 33) j v) (fun q => q = a + 33) (fun _ => False) := Ol.SI _ _ _ rfl
  have ea : tI (tSI t (a + 33) j v) a = tI t a := tI_SIn _ _ _ _ (by omega)
  refine h.own o (fun q hq => by omega) (fun _ h => h.elim) (by rw [ea]) rfl rfl rfl ?_ (hRw.ol o hl (by rw [ea]) (by omega) rfl rfl) (hSh.ol o hl id (fun r hr => by have := hr.1; exact ⟨by omega, by omega, id⟩) rfl rfl rfl) (hSf.ol o hl (by omega) id (fun r hr => by have := hr.1; exact ⟨by omega, id⟩) rfl rfl rfl) (hTr.ol o hl (by omega) (by omega) rfl rfl)
  obtain ⟨g1, g2, g3⟩ := hTp
  refine ⟨fun i hi => ?_, by rw [ea]; exact g2, g3⟩
  rw [tI_SI]
  show upd _ _ _ _ = upd (u.2.1 17) j v i
  rw [upd2, upd2, g1 i hi]
theorem RR.wtc {t : xT} {a : Nat} {u : xS} (h : RR t a u) {m : Nat} (hm : m ≤ 200) : RR (tSI t a 4 (nI m)) a (mS u 18 (nI m)) := by
  obtain ⟨hS, hTp, hRw, hSh, hSf, hTr, -⟩ := h.more
  have hl := hS.lt
  have o : Ol t (tSI t a 4 (nI m)) (fun q => q = a) (fun _ => False) := Ol.SI _ _ _ rfl
  have ea : ∀ i, i ≠ 4 → tI (tSI t a 4 (nI m)) a i = tI t a i := fun i hi => by rw [tI_SI, upd_n _ _ hi]
  refine h.own o (fun q hq => by omega) (fun _ h => h.elim) (ea 2 (by decide)) rfl rfl rfl ?_ (hRw.ol o hl (ea 6 (by decide)) (by omega) rfl rfl) (hSh.ol o hl id (fun r hr => by have := hr.1; exact ⟨by omega, by omega, id⟩) rfl rfl rfl) (hSf.ol o hl (by omega) id (fun r hr => by have := hr.1; exact ⟨by omega, id⟩) rfl rfl rfl) (hTr.ol o hl (by omega) (by omega) rfl rfl)
  obtain ⟨g1, g2, g3⟩ := hTp
  refine ⟨?_, by rw [tI_SI, upd_s, mS_1], m, hm, mS_1 _ _ _⟩
  rw [tI_SIn _ _ _ _ (by omega)]; exact g1
theorem d_row {t : xT} {a : Nat} {u : xS} (hS : SkC t a) (hRw : RwC t a u) (z0 z1 : Int32) : (F_X11_isRowPart t a z0 z1 = some 0 ∧ F_X12_isRow u z0 z1 = some 0) ∨ ∃ i w, i < 20 ∧ w < 3 ∧ z0 = nI i ∧ z1 = nI w ∧ F_X11_isRowPart t a z0 z1 = some 1 ∧ F_X12_isRow u z0 z1 = some 1 := by
  have hk : tK t a = 11 := hS.1
  obtain ⟨-, e6, m, hm, e⟩ := hRw
  rw [e] at e6
  rcases pk_ix z0 (n := m) (by omega) with c | c | ⟨i, hi, rfl⟩
  · exact Or.inl ⟨by simp only [F_X11_isRowPart, F_X11_isRowPart_j25, F_X11_isRowPart_j26, if_pos c, true_or, if_true], by simp only [F_X12_isRow, F_X12_isRow_j32, F_X12_isRow_j33, e, n_inN m (by omega) (Or.inl c), Option.bind_some, if_true, true_or]⟩
  · refine Or.inl ⟨?_, by simp only [F_X12_isRow, F_X12_isRow_j32, F_X12_isRow_j33, e, n_inN m (by omega) (Or.inr c), Option.bind_some, if_true, true_or]⟩
    by_cases d : z0 < 0
    · simp only [F_X11_isRowPart, F_X11_isRowPart_j25, F_X11_isRowPart_j26, if_pos d, true_or, if_true]
    · simp only [F_X11_isRowPart, F_X11_isRowPart_j25, F_X11_isRowPart_j26, if_neg d, hk, e6, if_pos c, true_or, if_true]
  · have p1 : ¬ nI i < 0 := nI_pos (by omega)
    have p2 : ¬ nI m ≤ nI i := nI_ge hi (by omega)
    rcases d_in z1 0 2 (A := 0) (B := 2) rfl rfl with ⟨r1, r2, -⟩ | ⟨r1, r2, r3, r4⟩
    · exact Or.inl ⟨by simp only [F_X11_isRowPart, F_X11_isRowPart_j25, F_X11_isRowPart_j26, if_neg p1, hk, e6, if_neg p2, r1, Option.bind_some, true_or, if_true], by simp only [F_X12_isRow, F_X12_isRow_j32, F_X12_isRow_j33, e, n_inY (show m < 2147483648 by omega) hi, r2, Option.bind_some, n10, if_false, if_true, true_or]⟩
    · obtain ⟨N, hN, rfl⟩ := nI_of2 (x := z1) (M := 2) (n := 2) rfl (by rw [fa_lt]; exact Int.not_lt.mpr r3) (by rw [fa_le]; exact r4)
      exact Or.inr ⟨i, N, by omega, by omega, rfl, rfl, by simp only [F_X11_isRowPart, F_X11_isRowPart_j26, if_neg p1, hk, e6, if_neg p2, r1, Option.bind_some, n10, if_false, or_true, if_true], by simp only [F_X12_isRow, F_X12_isRow_j33, e, n_inY (show m < 2147483648 by omega) hi, r2, Option.bind_some, n10, if_false, if_true, or_true]⟩
theorem c_rowPart {t : xT} {a : Nat} (hS : SkC t a) {i w : Nat} (hi : i < 20) (hw : w < 3) : F_X11_rowPart t a (nI i) (nI w) = some (tI t (a + 34) (3 * i + w)) := by
  have p5 : tP t a 5 = some (a + 34) := hS.2.2.2.2.1
  have o : ArO t (a + 34) 60 := hS.2.2.2.2.2.2.2.2.2.2.2.2.2.2.2.1
  have e : nI i * (3 : Int32) + nI w = nI (3 * i + w) := by show nI i * nI 3 + nI w = _; rw [pk_mul, nI_add, Nat.mul_comm]
  simp only [F_X11_rowPart, hS.1, if_true, p5, Option.bind_some, e, c_entry o.1 o.2 (show 3 * i + w < 60 by omega) (by decide)]
theorem c_setRow {t : xT} {a : Nat} (hS : SkC t a) {i w : Nat} (hi : i < 20) (hw : w < 3) (v : Int32) : F_X11_setRowPart t a (nI i) (nI w) v = some (tSI t (a + 34) (3 * i + w) v) := by
  have p5 : tP t a 5 = some (a + 34) := hS.2.2.2.2.1
  have o : ArO t (a + 34) 60 := hS.2.2.2.2.2.2.2.2.2.2.2.2.2.2.2.1
  have e : nI i * (3 : Int32) + nI w = nI (3 * i + w) := by show nI i * nI 3 + nI w = _; rw [pk_mul, nI_add, Nat.mul_comm]
  have ec : (nI (3 * i + w)).toNatClampNeg = 3 * i + w := n_cl (by omega)
  simp only [F_X11_setRowPart, F_X11_setRowPart_j30, xlet, e, hS.1, if_true, p5, Option.bind_some, if_neg (nI_pos (show 3 * i + w < 2 ^ 31 by omega)), o.1, o.2, if_neg (nI_ge (show 3 * i + w < 60 by omega) (show 60 < 2 ^ 31 by decide)), if_pos (n_xIn (show 3 * i + w < 60 by omega) (show 60 < 2147483648 by decide)), ec]
theorem r_ix3 (i w : Nat) : (3 : Int32) * nI i + nI w = nI (3 * i + w) := by show nI 3 * nI i + nI w = _; rw [pk_mul, nI_add]
theorem st_row : sT_row RR := by
  intro t a u z0 z1 hR
  obtain ⟨hS, -, hRw, -⟩ := hR.more
  rcases d_row hS hRw z0 z1 with ⟨b1, b2⟩ | ⟨i, w, hi, hw, rfl, rfl, b1, b2⟩
  · exact ⟨-9, by simp only [F_X11_row, F_X11_row_j20, hS.1, if_true, b1, Option.bind_some], by simp only [F_X12_row, F_X12_row_j24, b2, Option.bind_some, if_true], hR⟩
  · have ec : (nI (3 * i + w)).toNatClampNeg = 3 * i + w := n_cl (by omega)
    refine ⟨tI t (a + 34) (3 * i + w), by simp only [F_X11_row, F_X11_row_j20, hS.1, if_true, b1, Option.bind_some, n10, if_false, c_rowPart hS hi hw], ?_, hR⟩
    simp only [F_X12_row, F_X12_row_j24, b2, Option.bind_some, n10, if_false, r_ix3, if_pos (n_xIn (show 3 * i + w < 60 by omega) (show 60 < 2147483648 by decide)), ec, hRw.1 (3 * i + w) (by omega)]
theorem st_alterRow : sT_alterRow RR := by
  intro t a u z0 z1 z2 hR
  obtain ⟨hS, -, hRw, -⟩ := hR.more
  rcases d_row hS hRw z0 z1 with ⟨b1, b2⟩ | ⟨i, w, hi, hw, rfl, rfl, b1, b2⟩
  · exact ⟨-9, t, u, by simp only [F_X11_alterRow, hS.1, if_true, b1, Option.bind_some], by simp only [F_X12_alterRow, b2, Option.bind_some, if_true], hR⟩
  · have ec : (nI (3 * i + w)).toNatClampNeg = 3 * i + w := n_cl (by omega)
    refine ⟨tI t (a + 34) (3 * i + w), _, _, by simp only [F_X11_alterRow, hS.1, if_true, b1, Option.bind_some, n10, if_false, c_rowPart hS hi hw, c_setRow hS hi hw], ?_, hR.wrow (j := 3 * i + w) z2⟩
    simp only [F_X12_alterRow, b2, Option.bind_some, n10, if_false, r_ix3, if_pos (n_xIn (show 3 * i + w < 60 by omega) (show 60 < 2147483648 by decide)), ec, hRw.1 (3 * i + w) (by omega), xlet]
theorem lp_prove {t0 : xT} {a p k N : Nat} {s : Nat → Int32} {ls : yLS} (hI : Iv s) (hL : LwS ls s) (hk : k < nB s) (hl : a + 43 ≤ p) (hl2 : p < t0.1) (hB : BkC t0 p k s) (hS5 : tI t0 p 5 = tmS ls s k ∧ tI t0 p 6 = tlS ls s k ∧ tI t0 p 7 = opS ls s k) (hN : N ≤ 20) : ∀ m i n t u x, i + m = N → m < n → RR t a u → u.2.1 0 = s → u.1 16 = nI i → Ol t0 t (fun q => q = a ∨ q = a + 34) (fun _ => False) → ∃ v t' u', F_X11_prove_l45 n t a (nI N) p x (nI i) = some (v, t') ∧ F_X12_prove_l48 n u (nI k) (nI N) x (gS ls s k x) = some (v, u') ∧ RR t' a u'
  | _, _, 0, _, _, _, _, h, _, _, _, _ => absurd h (Nat.not_lt_zero _)
  | 0, i, n + 1, t, u, x, hi, _, hR, hu, h16, o => by
    have hi : i = N := by omega
    subst hi
    obtain ⟨hS, -, hRw, -⟩ := hR.more
    have g : nI i ≤ nI i := nI_le (by omega) (by omega)
    refine ⟨nI i, t, u, ?_, ?_, hR⟩
    · unfold F_X11_prove_l45 F_X11_prove_j115
      rw [if_pos g, if_pos hS.1, hRw.2.1, h16]
    · unfold F_X12_prove_l48 F_X12_prove_j135
      rw [h16, if_pos g]
  | m + 1, i, n + 1, t, u, x, hi, hm, hR, hu, h16, o => by
    obtain ⟨hS, -, hRw, -⟩ := hR.more
    have g1 : ¬ nI N ≤ nI i := nI_ge (by omega) (by omega)
    have hB' := hB.ol o hl2 (by omega)
    have hb : isBk (tK t p) := by rw [hB'.1]; exact kK_bk _
    have hS' : tI t p 5 = tmS ls s k ∧ tI t p 6 = tlS ls s k ∧ tI t p 7 = opS ls s k := by rw [o.2.2.1 p hl2 (by omega)]; exact hS5
    have hm' := tm_rng (ls := ls) hI hk
    have hl' := tl_rng hI hL hk
    unfold Ri at hm' hl'
    have hc : F_X0_becomes t p x = some (gS ls s k x) := c_b hB'.1 hS'.1 hS'.2.1 hS'.2.2 (by omega) (by omega) hl'.1 (by omega)
    unfold F_X11_prove_l45 F_X12_prove_l48
    rw [if_neg g1, if_pos hb, hc, Option.bind_some, h16, if_neg g1]
    by_cases c : gS ls s k x < 0
    · have c' : ¬ 0 ≤ gS ls s k x := by rw [fa_lt] at c; rw [fa_le]; omega
      refine ⟨nI i, t, u, ?_, ?_, hR⟩
      · unfold F_X11_prove_j115
        rw [if_neg c', if_pos hS.1, hRw.2.1, h16]
      · unfold F_X12_prove_j135
        rw [if_pos c, h16]
    · have c' : 0 ≤ gS ls s k x := by rw [fa_lt] at c; rw [fa_le]; omega
      rw [if_pos c', if_neg c, if_pos hS.1]
      have R1 := hR.wrc (m := i + 1) (by omega)
      have S1 := R1.more.1
      have R2 := R1.wrow (j := 3 * i + 0) (nI (i + 1))
      have S2 := R2.more.1
      have R3 := R2.wrow (j := 3 * i + 1) x
      have S3 := R3.more.1
      have R4 := R3.wrow (j := 3 * i + 2) (gS ls s k x)
      have e1 := c_setRow S1 (i := i) (w := 0) (by omega) (by decide) (nI (i + 1))
      have e2 := c_setRow S2 (i := i) (w := 1) (by omega) (by decide) x
      have e3 := c_setRow S3 (i := i) (w := 2) (by omega) (by decide) (gS ls s k x)
      change F_X11_setRowPart _ a (nI i) 0 _ = _ at e1
      change F_X11_setRowPart _ a (nI i) 1 _ = _ at e2
      change F_X11_setRowPart _ a (nI i) 2 _ = _ at e3
      have o4 : Ol t (tSI (tSI (tSI (tSI t a 6 (nI (i + 1))) (a + 34) (3 * i + 0) (nI (i + 1))) (a + 34) (3 * i + 1) x) (a + 34) (3 * i + 2) (gS ls s k x)) (fun q => q = a ∨ q = a + 34) (fun _ => False) :=
        (((Ol.SI _ _ _ (Or.inl rfl)).tr (Ol.SI _ _ _ (Or.inr rfl))).tr (Ol.SI _ _ _ (Or.inr rfl))).tr (Ol.SI _ _ _ (Or.inr rfl))
      obtain ⟨u1, a1, f1, f2⟩ := r_b (u := mA (mA (mA (mS u 16 (nI (i + 1))) 15 (3 * i + 0) (nI (i + 1))) 15 (3 * i + 1) x) 15 (3 * i + 2) (gS ls s k x)) (gS ls s k x) hu hI hL hk
      have h16' : u1.1 16 = nI (i + 1) := by
        have := (Cr_e f1).2.2.2.2.2.2.2.2.2.2.2.2.1
        rw [this]; rfl
      obtain ⟨v, t', u', h1, h2, h3⟩ := lp_prove hI hL hk hl hl2 hB hS5 hN m (i + 1) n _ u1 (gS ls s k x) (by omega) (by omega) (R4.scr f1) f2 h16' (o.tr o4)
      refine ⟨v, t', u', ?_, ?_, h3⟩
      · simp only [xlet, nI_1]
        rw [e1, Option.bind_some, if_pos S2.1, e2, Option.bind_some, if_pos S3.1, e3, Option.bind_some]
        exact h1
      · have j0 : (3 : Int32) * nI i = nI (3 * i) := by show nI 3 * nI i = _; rw [pk_mul]
        have j1 : nI (3 * i) + (1 : Int32) = nI (3 * i + 1) := nI_1 _
        have j2 : nI (3 * i) + (2 : Int32) = nI (3 * i + 2) := nI_add _ 2
        have d0 : (nI (3 * i)).toNatClampNeg = 3 * i := n_cl (by omega)
        have d1 : (nI (3 * i + 1)).toNatClampNeg = 3 * i + 1 := n_cl (by omega)
        have d2 : (nI (3 * i + 2)).toNatClampNeg = 3 * i + 2 := n_cl (by omega)
        have k0 : xIn (nI (3 * i)) 60 := n_xIn (by omega) (by decide)
        have k1 : xIn (nI (3 * i + 1)) 60 := n_xIn (by omega) (by decide)
        have k2 : xIn (nI (3 * i + 2)) 60 := n_xIn (by omega) (by decide)
        have m1 : ∀ j v, (mA u 15 j v).1 16 = nI i := fun _ _ => h16
        have m2 : ∀ j v j' v', (mA (mA u 15 j v) 15 j' v').1 16 = nI i := fun _ _ _ _ => h16
        have m3 : ∀ j v j' v' j'' v'', (mA (mA (mA u 15 j v) 15 j' v') 15 j'' v'').1 16 = nI i := fun _ _ _ _ _ _ => h16
        simp only [xlet, j0, if_pos k0, d0, m1, m2, m3, j1, if_pos k1, d1, j2, if_pos k2, d2, nI_1]
        show (F_X12_becomes (mA (mA (mA (mS u 16 (nI (i + 1))) 15 (3 * i + 0) (nI (i + 1))) 15 (3 * i + 1) x) 15 (3 * i + 2) (gS ls s k x)) (nI k) (gS ls s k x).toInt64).bind _ = _
        rw [a1, Option.bind_some]
        exact h2
theorem st_prove : sT_prove RR := by
  intro t a u z0 z1 z2 hR
  obtain ⟨B, ls, hk, hp, hk1, hS, hI, hRd, hL, hBg, hSt⟩ := hR.rd
  rcases d_br hS hI hRd hBg z0 with ⟨b1, b2⟩ | ⟨k, hk9, k9, rfl, b1, b2, hBk, hbk⟩
  · exact ⟨-1, t, u, by simp only [F_X11_prove, F_X11_prove_j32, hk, hp, hk1, b1, xopt, if_true, Option.bind_some], by simp only [F_X12_prove, F_X12_prove_j28, b2, if_true, Option.bind_some], hR⟩
  rcases d_purse z1 with ⟨p1, p2⟩ | ⟨p1, p2, p3, p4⟩
  · exact ⟨-1, t, u, by simp only [F_X11_prove, F_X11_prove_j32, hk, hp, hk1, b1, xopt, p1, if_true, Option.bind_some], by simp only [F_X12_prove, F_X12_prove_j28, b2, p2, if_true, Option.bind_some, n10, if_false], hR⟩
  rcases d_in z2 1 20 (A := 1) (B := 20) rfl rfl with ⟨n1, n2, -⟩ | ⟨n1, n2, n3, n4⟩
  · exact ⟨-1, t, u, by simp only [F_X11_prove, F_X11_prove_j32, hk, hp, hk1, b1, xopt, p1, n1, if_true, Option.bind_some, n10, if_false], by simp only [F_X12_prove, F_X12_prove_j28, b2, p2, n2, if_true, Option.bind_some, n10, if_false], hR⟩
  obtain ⟨N, hN, rfl⟩ := nI_of2 (x := z2) (M := 20) (n := 20) rfl (by rw [fa_lt]; change (1 : Int) ≤ _ at n3; show ¬ _ < (0 : Int); omega) (by rw [fa_le]; exact n4)
  have R1 := hR.wrc (m := 0) (by decide)
  obtain ⟨u1, a1, f1, f2⟩ := r_b (u := mS u 16 (nI 0)) z1 rfl hI hL hk9
  have h16' : u1.1 16 = nI 0 := by
    have := (Cr_e f1).2.2.2.2.2.2.2.2.2.2.2.2.1
    rw [this]; exact mS_1 _ _ _
  obtain ⟨bg1, bg2, bg3, bg4⟩ := hBg k hk9
  have hlt := hS.lt
  obtain ⟨v, t', u', h1, h2, h3⟩ := lp_prove hI hL hk9 bg2 bg3 bg4 (hSt k hk9) hN N 0 xFuel _ u1 z1 (by omega) (xF_big (by omega)) (R1.scr f1) f2 h16' (Ol.SI t (X := fun q => q = a ∨ q = a + 34) 6 (nI 0) (Or.inl rfl))
  refine ⟨v, t', u', ?_, ?_, h3⟩
  · simp only [F_X11_prove, hk, hp, hk1, b1, xopt, p1, n1, if_true, Option.bind_some, n10, if_false, xlet]
    exact h1
  · simp only [F_X12_prove, b2, p2, n2, Option.bind_some, n10, if_false, xlet]
    show (F_X12_becomes (mS u 16 (nI 0)) (nI k) z1.toInt64).bind _ = _
    rw [a1, Option.bind_some]
    exact h2
theorem lp_judge {t : xT} {a p k : Nat} {s : Nat → Int32} {ls : yLS} {M : Nat} (hS : SkC t a) (hI : Iv s) (hL : LwS ls s) (hk : k < nB s) (hb : isBk (tK t p)) (hc : ∀ x, F_X0_becomes t p x = some (gS ls s k x)) (hM : M ≤ 20) (h6 : tI t a 6 = nI M) : ∀ m i n u, i + m = M → m < n → u.2.1 0 = s → u.1 16 = nI M → (∀ i, i < 60 → tI t (a + 34) i = u.2.1 15 i) → ∃ v u', F_X11_judge_l17 n t a p (nI i) = some v ∧ F_X12_judge_l12 n u (nI k) (nI i) = some (v, u') ∧ Cr u' = Cr u
  | _, _, 0, _, _, h, _, _, _ => absurd h (Nat.not_lt_zero _)
  | 0, i, n + 1, u, hi, _, hu, h16, hv => by
    have hi : i = M := by omega
    subst hi
    have g : nI i ≤ nI i := nI_le (by omega) (by omega)
    refine ⟨0, u, ?_, ?_, rfl⟩
    · unfold F_X11_judge_l17; rw [if_pos hS.1, h6, if_pos g]
    · unfold F_X12_judge_l12; rw [h16, if_pos g]
  | m + 1, i, n + 1, u, hi, hm, hu, h16, hv => by
    have g1 : ¬ nI M ≤ nI i := nI_ge (by omega) (by omega)
    have e0 := c_rowPart hS (i := i) (w := 0) (by omega) (by decide)
    have e1 := c_rowPart hS (i := i) (w := 1) (by omega) (by decide)
    have e2 := c_rowPart hS (i := i) (w := 2) (by omega) (by decide)
    change F_X11_rowPart t a (nI i) 0 = _ at e0
    change F_X11_rowPart t a (nI i) 1 = _ at e1
    change F_X11_rowPart t a (nI i) 2 = _ at e2
    rw [hv _ (by omega)] at e0 e1 e2
    have j0 : (3 : Int32) * nI i = nI (3 * i) := by show nI 3 * nI i = _; rw [pk_mul]
    have j1 : nI (3 * i) + (1 : Int32) = nI (3 * i + 1) := nI_1 _
    have j2 : nI (3 * i) + (2 : Int32) = nI (3 * i + 2) := nI_add _ 2
    have d0 : (nI (3 * i)).toNatClampNeg = 3 * i := n_cl (by omega)
    have d1 : (nI (3 * i + 1)).toNatClampNeg = 3 * i + 1 := n_cl (by omega)
    have d2 : (nI (3 * i + 2)).toNatClampNeg = 3 * i + 2 := n_cl (by omega)
    have k0 : xIn (nI (3 * i)) 60 := n_xIn (by omega) (by decide)
    have k1 : xIn (nI (3 * i + 1)) 60 := n_xIn (by omega) (by decide)
    have k2 : xIn (nI (3 * i + 2)) 60 := n_xIn (by omega) (by decide)
    generalize hX : u.2.1 15 (3 * i + 1) = X at *
    obtain ⟨u1, a1, f1, g1'⟩ := r_b X hu hI hL hk
    obtain ⟨u2, a2, f2, g2'⟩ := r_b X g1' hI hL hk
    have c1 := Cr_e f1
    have c2 := Cr_e (f2.trans f1)
    have v1 : u1.2.1 15 = u.2.1 15 := c1.2.2.1
    have v2 : u2.2.1 15 = u.2.1 15 := c2.2.2.1
    obtain ⟨v, u', h1, h2, h3⟩ := lp_judge hS hI hL hk hb hc hM h6 m (i + 1) n u2 (by omega) (by omega) g2' (c2.2.2.2.2.2.2.2.2.2.2.2.2.1.trans h16) (by rw [v2]; exact hv)
    -- the fate of a row
    have W : ∀ f : Int32, (f = 0 ∨ f = 1) → (u.2.1 15 (3 * i) = nI (i + 1) → True) → ∃ v u', (F_X11_isRightRow_j35 t a (nI i) p X f).bind (fun r3 => if r3 = 0 then some (nI i + (1 : Int32)) else xlet (nI i + (1 : Int32)) (fun x7 => F_X11_judge_l17 n t a p x7)) = some v ∧ (if (u.2.1 15 (3 * i)) = nI (i + 1) then F_X12_judge_j79 (F_X12_judge_l12 n) u (nI k) (nI i) X f else F_X12_judge_j78 (F_X12_judge_l12 n) u (nI k) (nI i) X) = some (v, u') ∧ Cr u' = Cr u := by
      intro f hf _
      have bad : ∀ w, Cr w = Cr u → F_X11_isRightRow_j35 t a (nI i) p X f = some 0 → (if (u.2.1 15 (3 * i)) = nI (i + 1) then F_X12_judge_j79 (F_X12_judge_l12 n) u (nI k) (nI i) X f else F_X12_judge_j78 (F_X12_judge_l12 n) u (nI k) (nI i) X) = some (nI i + (1 : Int32), w) → ∃ v u', (F_X11_isRightRow_j35 t a (nI i) p X f).bind (fun r3 => if r3 = 0 then some (nI i + (1 : Int32)) else xlet (nI i + (1 : Int32)) (fun x7 => F_X11_judge_l17 n t a p x7)) = some v ∧ (if (u.2.1 15 (3 * i)) = nI (i + 1) then F_X12_judge_j79 (F_X12_judge_l12 n) u (nI k) (nI i) X f else F_X12_judge_j78 (F_X12_judge_l12 n) u (nI k) (nI i) X) = some (v, u') ∧ Cr u' = Cr u := by
        intro w hw q1 q2
        exact ⟨nI i + 1, w, by rw [q1, Option.bind_some, if_pos rfl], q2, hw⟩
      by_cases q0 : u.2.1 15 (3 * i + 0) = nI i + (1 : Int32)
      · have q0' : u.2.1 15 (3 * i) = nI (i + 1) := by rw [← nI_1]; exact q0
        by_cases qf : f = 0
        · refine bad u rfl ?_ ?_
          · simp only [F_X11_isRightRow_j35, F_X11_isRightRow_j81, F_X11_isRightRow_j82, if_pos hb, hc, Option.bind_some, if_pos hS.1, e0, if_pos q0, if_pos qf, true_or, if_true]
          · rw [if_pos q0']; unfold F_X12_judge_j79 F_X12_judge_j116; rw [if_pos qf]
        by_cases qn : gS ls s k X < 0
        · refine bad u1 f1 ?_ ?_
          · simp only [F_X11_isRightRow_j35, F_X11_isRightRow_j81, F_X11_isRightRow_j82, if_pos hb, hc, Option.bind_some, if_pos hS.1, e0, if_pos q0, if_neg qf, if_pos qn, true_or, if_true]
          · rw [if_pos q0']; unfold F_X12_judge_j79 F_X12_judge_j116; rw [if_neg qf, a1, Option.bind_some, if_pos qn]
        by_cases qe : gS ls s k X = u.2.1 15 (3 * i + 2)
        · refine ⟨v, u', ?_, ?_, h3.trans (f2.trans f1)⟩
          · have : F_X11_isRightRow_j35 t a (nI i) p X f = some 1 := by
              simp only [F_X11_isRightRow_j35, F_X11_isRightRow_j81, F_X11_isRightRow_j82, if_pos hb, hc, Option.bind_some, if_pos hS.1, e0, if_pos q0, if_neg qf, if_neg qn, e2, if_pos qe, or_true, if_true]
            rw [this, Option.bind_some, if_neg (by decide)]
            show F_X11_judge_l17 n t a p (nI i + 1) = _
            rw [nI_1]; exact h1
          · rw [if_pos q0']
            unfold F_X12_judge_j79
            rw [if_neg qf, a1, Option.bind_some, if_neg qn]
            show (F_X12_becomes u1 (nI k) X.toInt64).bind _ = _
            rw [a2, Option.bind_some, j0, j2, if_pos k2, d2, v2, if_pos qe]
            show F_X12_judge_l12 n u2 (nI k) (nI i + 1) = _
            rw [nI_1]; exact h2
        · refine bad u2 (f2.trans f1) ?_ ?_
          · simp only [F_X11_isRightRow_j35, F_X11_isRightRow_j81, F_X11_isRightRow_j82, if_pos hb, hc, Option.bind_some, if_pos hS.1, e0, if_pos q0, if_neg qf, if_neg qn, e2, if_neg qe, true_or, if_true]
          · rw [if_pos q0']
            unfold F_X12_judge_j79 F_X12_judge_j116
            rw [if_neg qf, a1, Option.bind_some, if_neg qn]
            show (F_X12_becomes u1 (nI k) X.toInt64).bind _ = _
            rw [a2, Option.bind_some, j0, j2, if_pos k2, d2, v2, if_neg qe]
      · have q0' : ¬ u.2.1 15 (3 * i) = nI (i + 1) := by rw [← nI_1]; exact q0
        refine bad u rfl ?_ ?_
        · simp only [F_X11_isRightRow_j35, F_X11_isRightRow_j81, F_X11_isRightRow_j82, if_pos hb, hc, Option.bind_some, if_pos hS.1, e0, if_neg q0, true_or, if_true]
        · rw [if_neg q0']; unfold F_X12_judge_j78 F_X12_judge_j79 F_X12_judge_j116; rw [if_pos rfl]
    conv => enter [1, v, 1, u', 1]; lhs; unfold F_X11_judge_l17 F_X11_isRightRow
    conv => enter [1, v, 1, u', 2, 1]; lhs; unfold F_X12_judge_l12
    simp only [if_pos hS.1, h6, h16, if_neg g1, e1, Option.bind_some, j0, j1, if_pos k1, d1, hX, xlet, if_pos k0, d0, nI_1]
    by_cases z : i = 0
    · have z' : nI i = 0 := by rw [z]; rfl
      simp only [if_pos z']
      rcases d_purse X with ⟨p1, p2⟩ | ⟨p1, p2, p3, p4⟩
      · have := W 0 (Or.inl rfl) (fun _ => trivial)
        simp only [p1, p2, Option.bind_some, if_true]
        simpa only [xlet, nI_1, F_X12_judge_j78] using this
      · have := W 1 (Or.inr rfl) (fun _ => trivial)
        simp only [p1, p2, Option.bind_some, n10, if_false]
        simpa only [xlet, nI_1, F_X12_judge_j78, F_X12_judge_j74] using this
    · have z' : ¬ nI i = 0 := nI_ne0 (by omega) (by omega)
      have ei : nI i - (1 : Int32) = nI (i - 1) := by
        have := nI_pred (i - 1)
        rw [show i - 1 + 1 = i by omega] at this; exact this
      have e3 := c_rowPart hS (i := i - 1) (w := 2) (by omega) (by decide)
      change F_X11_rowPart t a (nI (i - 1)) 2 = _ at e3
      rw [hv _ (by omega)] at e3
      have j3 : nI (3 * i) - (1 : Int32) = nI (3 * (i - 1) + 2) := by
        have := nI_pred (3 * (i - 1) + 2)
        rw [show 3 * (i - 1) + 2 + 1 = 3 * i by omega] at this; exact this
      have k3 : xIn (nI (3 * (i - 1) + 2)) 60 := n_xIn (by omega) (by decide)
      have d3 : (nI (3 * (i - 1) + 2)).toNatClampNeg = 3 * (i - 1) + 2 := n_cl (by omega)
      simp only [if_neg z', ei, e3, Option.bind_some, j3, if_pos k3, d3]
      by_cases y : X = u.2.1 15 (3 * (i - 1) + 2)
      · have := W 1 (Or.inr rfl) (fun _ => trivial)
        simp only [if_pos y]
        simpa only [xlet, nI_1, F_X12_judge_j78, F_X12_judge_j74] using this
      · have := W 0 (Or.inl rfl) (fun _ => trivial)
        simp only [if_neg y]
        simpa only [xlet, nI_1, F_X12_judge_j78] using this
theorem st_judge : sT_judge RR := by
  intro t a u z0 hR
  obtain ⟨B, ls, hk, hp, hk1, hS, hI, hRd, hL, hBg, hSt⟩ := hR.rd
  obtain ⟨-, -, ⟨hv, e6, M, hM, e16⟩, -⟩ := hR.more
  rcases d_br hS hI hRd hBg z0 with ⟨b1, b2⟩ | ⟨k, hk9, k9, rfl, b1, b2, hBk, hbk⟩
  · exact ⟨-1, u, by simp only [F_X11_judge, hk, hp, hk1, b1, xopt, if_true, Option.bind_some], by simp only [F_X12_judge, b2, if_true, Option.bind_some], hR⟩
  obtain ⟨v, u', h1, h2, h3⟩ := lp_judge hS hI hL hk9 hbk (fun x => c_bS (x := x) hI hL hBk hSt hk9) hM (e6.trans e16) M 0 xFuel u (by omega) (xF_big (by omega)) rfl e16 hv
  exact ⟨v, u', by simp only [F_X11_judge, hk, hp, hk1, b1, xopt, if_true, Option.bind_some]; exact h1, by simp only [F_X12_judge, b2, Option.bind_some, n10, if_false]; exact h2, hR.scr h3⟩
/-! the tape -/
theorem n_byte (x : Int64) {i : Nat} (hi : i < 8) : (((x.toUInt64 >>> (((8 : Int32) * nI i).toInt64.toUInt64 &&& Int64.toUInt64 63)).toInt64).toInt32) &&& (255 : Int32) = ((x >>> (((8 : Int32) * nI i).toInt64 &&& 63)) &&& (255 : Int64)).toInt32 := by
  have gen : ∀ s : Nat, s ≤ 56 → (BitVec.signExtend 32 (x.toBitVec >>> s)) &&& 255#32 = BitVec.signExtend 32 ((x.toBitVec.sshiftRight s) &&& 255#64) := by
    intro s hs
    apply BitVec.eq_of_getLsbD_eq
    intro j hj
    have b1 : ∀ j, j < 32 → (255#32).getLsbD j = decide (j < 8) := by decide
    have b2 : ∀ j, j < 64 → (255#64).getLsbD j = decide (j < 8) := by decide
    rw [BitVec.getLsbD_and, BitVec.getLsbD_signExtend, BitVec.getLsbD_signExtend, BitVec.getLsbD_and, BitVec.getLsbD_ushiftRight, BitVec.getLsbD_sshiftRight, b1 j hj, b2 j (by omega)]
    by_cases c : j < 8
    · simp [hj, c, show j < 64 by omega, show s + j < 64 by omega]
    · simp [c]
      intro _ h; omega
  apply Int32.toBitVec_inj.1
  rcases (show i = 0 ∨ i = 1 ∨ i = 2 ∨ i = 3 ∨ i = 4 ∨ i = 5 ∨ i = 6 ∨ i = 7 by omega) with h | h | h | h | h | h | h | h <;> subst h
  · exact gen 0 (by decide)
  · exact gen 8 (by decide)
  · exact gen 16 (by decide)
  · exact gen 24 (by decide)
  · exact gen 32 (by decide)
  · exact gen 40 (by decide)
  · exact gen 48 (by decide)
  · exact gen 56 (by decide)
theorem lp_feed {a N : Nat} {x : Int64} (hN : N ≤ 8) : ∀ m i n t u M, i + m = N → m < n → RR t a u → u.1 18 = nI M → M + m ≤ 200 → ∃ v t' u', F_X11_feed_l31 n t a x (nI N) (nI i) = some (v, t') ∧ F_X12_feed_l32 n u x (nI N) (nI i) = some (v, u') ∧ RR t' a u'
  | _, _, 0, _, _, _, _, h, _, _, _ => absurd h (Nat.not_lt_zero _)
  | 0, i, n + 1, t, u, M, hi, _, hR, h18, hM => by
    have hi : i = N := by omega
    subst hi
    obtain ⟨hS, hTp, -⟩ := hR.more
    have g : nI i ≤ nI i := nI_le (by omega) (by omega)
    refine ⟨u.1 18, t, u, ?_, ?_, hR⟩
    · unfold F_X11_feed_l31 F_X11_feed_j86; rw [if_pos g, if_pos hS.1, hTp.2.1]
    · unfold F_X12_feed_l32; rw [if_pos g]
  | m + 1, i, n + 1, t, u, M, hi, hm, hR, h18, hM => by
    obtain ⟨hS, hTp, -⟩ := hR.more
    have g1 : ¬ nI N ≤ nI i := nI_ge (by omega) (by omega)
    have e4 : tI t a 4 = nI M := hTp.2.1.trans h18
    have p3 : tP t a 3 = some (a + 33) := hS.2.2.2.1
    have o33 : ArO t (a + 33) 200 := hS.2.2.2.2.2.2.2.2.2.2.2.2.2.2.1
    have ix : xIn (nI M) 200 := n_xIn (by omega) (by decide)
    have ec : (nI M).toNatClampNeg = M := n_cl (by omega)
    have hb := n_byte x (i := i) (by omega)
    generalize hV : ((x >>> (((8 : Int32) * nI i).toInt64 &&& 63)) &&& (255 : Int64)).toInt32 = V at hb
    have R2 := (hR.wtp (j := M) V).wtc (m := M + 1) (by omega)
    obtain ⟨v, t', u', h1, h2, h3⟩ := lp_feed (x := x) hN m (i + 1) n _ _ (M + 1) (by omega) (by omega) R2 (mS_1 _ _ _) (by omega)
    refine ⟨v, t', u', ?_, ?_, h3⟩
    · have g4 : tI (tSI t (a + 33) M V) a 4 = nI M := by rw [tI_SIn _ _ _ _ (by omega)]; exact e4
      unfold F_X11_feed_l31
      simp only [if_neg g1, if_pos hS.1, p3, Option.bind_some, o33.1, o33.2, if_true, e4, if_neg (nI_ge (show M < 200 by omega) (show 200 < 2 ^ 31 by decide)), if_pos ix, ec, hb, xlet, g4, nI_1]
      exact h1
    · unfold F_X12_feed_l32
      simp only [if_neg g1, h18, if_pos ix, ec, hV, xlet]
      have : (mA u 17 M V).1 18 = nI M := h18
      simp only [this, nI_1]
      exact h2
theorem st_feed : sT_feed RR := by
  intro t a u z0 z1 hR
  obtain ⟨hS, ⟨-, e4, M, hM, e18⟩, -⟩ := hR.more
  rw [e18] at e4
  rcases d_in z1 1 8 (A := 1) (B := 8) rfl rfl with ⟨-, n2, n3⟩ | ⟨-, n2, n3, n4⟩
  · refine ⟨-1, t, u, ?_, by simp only [F_X12_feed, n2, Option.bind_some, if_true], hR⟩
    have n3 : z1.toInt < 1 ∨ 8 < z1.toInt := n3
    by_cases c : z1 < 1
    · simp only [F_X11_feed, F_X11_feed_j11, if_pos c]
    · have c' : ¬ z1 ≤ (8 : Int32) := by rw [fa_lt] at c; rw [fa_le]; change ¬ z1.toInt < 1 at c; show ¬ z1.toInt ≤ 8; omega
      simp only [F_X11_feed, F_X11_feed_j11, if_neg c, if_neg c']
  have n3 : 1 ≤ z1.toInt := n3
  have n4 : z1.toInt ≤ 8 := n4
  obtain ⟨N, hN, rfl⟩ := nI_of2 (x := z1) (M := 8) (n := 8) rfl (by rw [fa_lt]; show ¬ _ < (0 : Int); omega) (by rw [fa_le]; exact n4)
  have l1 : ¬ nI N < 1 := by rw [fa_lt]; show ¬ (nI N).toInt < 1; omega
  have l2 : nI N ≤ (8 : Int32) := by rw [fa_le]; exact n4
  by_cases c : M + N ≤ 200
  · have c' : nI M + nI N ≤ (200 : Int32) := by rw [nI_add]; exact nI_le (a := M + N) (b := 200) c (by decide)
    obtain ⟨v, t', u', h1, h2, h3⟩ := lp_feed (x := z0) hN N 0 xFuel t u M (by omega) (xF_big (by omega)) hR e18 c
    exact ⟨v, t', u', by simp only [F_X11_feed, if_neg l1, if_pos l2, hS.1, if_true, e4, if_pos c']; exact h1, by simp only [F_X12_feed, n2, Option.bind_some, n10, if_false, e18, if_pos c']; exact h2, h3⟩
  · have c' : ¬ nI M + nI N ≤ (200 : Int32) := by rw [nI_add]; exact nI_ge (a := 200) (b := M + N) (by omega) (by omega)
    exact ⟨-2, t, u, by simp only [F_X11_feed, if_neg l1, if_pos l2, hS.1, if_true, e4, if_neg c'], by simp only [F_X12_feed, n2, Option.bind_some, n10, if_false, e18, if_neg c'], hR⟩
