/-! ===== pure mathematics 17: shelves, walks ===== -/
theorem c_isIn3 {j : Nat} (hj : j < 4) : F_X11_isIn (nI j) 0 3 = some 1 := by
  rw [n_isIn, bI_t]; exact ⟨nI_pos' (by omega), nI_le (a := j) (b := 3) (by omega) (by decide)⟩
theorem RR.shelf {t : xT} {a : Nat} {u : xS} (h : RR t a u) {j : Nat} {v : Int32} {w : Option Nat} {x28 x29 x30 : Int32} (hn : SfO (tSP (tSI t (a + 36) j v) (a + 37) j w) a (mA (mA (mA u 28 j x28) 29 j x29) 30 j x30) j) : RR (tSP (tSI t (a + 36) j v) (a + 37) j w) a (mA (mA (mA u 28 j x28) 29 j x29) 30 j x30) := by
  obtain ⟨hS, hTp, hRw, hSh, hSf, hTr, -⟩ := h.more
  have hl := hS.lt
  have o : Ol t (tSP (tSI t (a + 36) j v) (a + 37) j w) (fun q => q = a + 36) (fun q => q = a + 37) := Ol.tr (Ol.SI _ _ _ rfl) (Ol.SP _ _ _ rfl)
  have ea : tI (tSP (tSI t (a + 36) j v) (a + 37) j w) a = tI t a := o.2.2.1 a (by omega) (by omega)
  refine h.own o (fun q hq => by omega) (fun q hq => by omega) (by rw [ea]) rfl rfl rfl (hTp.ol o hl (by rw [ea]) (by omega) rfl rfl) (hRw.ol o hl (by rw [ea]) (by omega) rfl rfl) (hSh.ol o hl (by omega) (fun r hr => by have := hr.1; exact ⟨by omega, by omega, by omega⟩) rfl rfl rfl) (fun i hi => ?_) (hTr.ol o hl (by omega) (by omega) rfl rfl)
  by_cases c : i = j
  · subst c; exact hn
  · refine (hSf i hi).ol o ?_ ?_ (fun r hr => by have := hr.1; exact ⟨by omega, by omega⟩) ?_ ?_ ?_
    · rw [tI_SP, tI_SI, upd_n _ _ c]
    · rw [tP_SP, va_up_ne _ _ c]; rfl
    · show upd (u.2.1 28) j x28 i = _; exact upd_n _ _ c
    · show upd (u.2.1 29) j x29 i = _; exact upd_n _ _ c
    · show upd (u.2.1 30) j x30 i = _; exact upd_n _ _ c
theorem st_shelf : sT_shelf RR := by
  intro t a u z0 z1 z2 hR
  obtain ⟨B, ls, hk, hp, hk1, hS, hI, hRd, hL, hBg, hSt⟩ := hR.rd
  obtain ⟨-, -, -, hSh, -⟩ := hR.more
  have hl := hS.lt
  obtain ⟨p7, k35, n35, p8, o36, p9, k37, n37⟩ := sk_sh hS
  rcases d_one z0 with ⟨b1, b2⟩ | ⟨j, hj, rfl, b1, b2⟩
  · exact ⟨-1, t, u, by simp only [F_X11_shelf, F_X11_shelf_j18, b1, Option.bind_some, if_true], by simp only [F_X12_shelf, F_X12_shelf_j43, b2, Option.bind_some, if_true], hR⟩
  rcases d_in z1 0 2 (A := 0) (B := 2) rfl rfl with ⟨s1, s2, -⟩ | ⟨s1, s2, s3, s4⟩
  · exact ⟨-1, t, u, by simp only [F_X11_shelf, F_X11_shelf_j18, b1, s1, Option.bind_some, if_true, n10, if_false], by simp only [F_X12_shelf, F_X12_shelf_j43, b2, s2, Option.bind_some, if_true, n10, if_false], hR⟩
  have ij : xIn (nI j) 4 := n_xIn hj (by decide)
  have ej : (nI j).toNatClampNeg = j := n_cl (by omega)
  obtain ⟨N, hN, rfl⟩ := nI_of2 (x := z1) (M := 2) (n := 2) rfl (by rw [fa_lt]; exact Int.not_lt.mpr s3) (by rw [fa_le]; exact s4)
  have m28 : ∀ x, (mA u 28 j x).2.1 25 = u.2.1 25 ∧ (mA u 28 j x).2.1 26 = u.2.1 26 := fun _ => ⟨rfl, rfl⟩
  have m29 : ∀ x y, (mA (mA u 28 j x) 29 j y).2.1 25 = u.2.1 25 := fun _ _ => rfl
  have g28 : ∀ x y z, (mA (mA (mA u 28 j x) 29 j y) 30 j z).2.1 28 j = x := fun x y z => upd_s (u.2.1 28) j x
  have g29 : ∀ x y z, (mA (mA (mA u 28 j x) 29 j y) 30 j z).2.1 29 j = y := fun x y z => upd_s (u.2.1 29) j y
  have g30 : ∀ x y z, (mA (mA (mA u 28 j x) 29 j y) 30 j z).2.1 30 j = z := fun x y z => upd_s (u.2.1 30) j z
  have cI : ∀ v w, tI (tSP (tSI t (a + 36) j v) (a + 37) j w) (a + 36) j = v := fun v w => by rw [tI_SP, tI_SI, upd_s]
  have cP : ∀ v w, tP (tSP (tSI t (a + 36) j v) (a + 37) j w) (a + 37) j = w := fun v w => by rw [tP_SP, va_up_self]
  rcases (show N = 0 ∨ N = 1 ∨ N = 2 by omega) with h | h | h <;> subst h
  · have e0 : nI 0 = (0 : Int32) := rfl
    rcases d_br hS hI hRd hBg z2 with ⟨c1, c2⟩ | ⟨k, hk9, k9, rfl, c1, c2, hBk, hbk⟩
    · exact ⟨-1, t, u, by simp only [F_X11_shelf, b1, s1, Option.bind_some, n10, if_false, if_pos e0, hk, hp, hk1, if_true, c1, xopt], by simp only [F_X12_shelf, F_X12_shelf_j43, b2, s2, Option.bind_some, n10, if_false, if_pos e0, c2, if_true], hR⟩
    · have ne : ¬ nI 0 = (1 : Int32) := by decide
      refine ⟨1, _, _, ?_, ?_, hR.shelf (j := j) (v := nI k) (w := none) (x28 := 1) (x29 := nI k) (x30 := 0) (Or.inl ⟨g28 _ _ _, by rw [cI, g29], cP _ _⟩)⟩
      · simp only [F_X11_shelf, F_X11_shelf_j37, F_X11_shelf_j53, F_X11_shelf_j67, F_X11_shelf_j88, b1, s1, Option.bind_some, n10, if_false, if_pos e0, hk, hp, hk1, if_true, c1, xopt, if_neg ne, p8, o36.1, o36.2, if_pos ij, ej, xlet, tK_SI, tP_SI, tN_SI, p9, k37, n37]
      · simp only [F_X12_shelf, F_X12_shelf_j31, F_X12_shelf_j45, F_X12_shelf_j77, F_X12_shelf_j106, F_X12_shelf_j127, b2, s2, Option.bind_some, n10, if_false, if_pos e0, c2, if_neg ne, if_pos ij, ej, xlet]
  · have ne0 : ¬ nI 1 = (0 : Int32) := by decide
    have e1 : nI 1 = (1 : Int32) := rfl
    rcases d_one z2 with ⟨c1, c2⟩ | ⟨i, hi, rfl, c1, c2⟩
    · exact ⟨-1, t, u, by simp only [F_X11_shelf, F_X11_shelf_j37, b1, s1, Option.bind_some, n10, if_false, if_neg ne0, if_pos e1, c1, if_true], by simp only [F_X12_shelf, F_X12_shelf_j31, F_X12_shelf_j43, b2, s2, Option.bind_some, n10, if_false, if_neg ne0, if_pos e1, c2, if_true], hR⟩
    have ii : xIn (nI i) 4 := n_xIn hi (by decide)
    have ei : (nI i).toNatClampNeg = i := n_cl (by omega)
    rcases hSh.1 i hi with ⟨q1, q2⟩ | ⟨r, q1, hr, q3, q4, q5, q6, q7⟩
    · refine ⟨1, _, _, ?_, ?_, hR.shelf (j := j) (v := -1) (w := none) (x28 := 0) (x29 := u.2.1 26 i) (x30 := u.2.1 25 i) (Or.inr (Or.inl ⟨g28 _ _ _, cI _ _, cP _ _⟩))⟩
      · simp only [F_X11_shelf, F_X11_shelf_j37, F_X11_shelf_j53, F_X11_shelf_j67, F_X11_shelf_j88, b1, s1, Option.bind_some, n10, if_false, if_neg ne0, if_pos e1, c1, hk, if_true, p8, o36.1, o36.2, if_pos ij, ej, xlet, tK_SI, tP_SI, tN_SI, p9, k37, n37, p7, k35, n35, if_pos ii, ei, q1, xopt]
      · simp only [F_X12_shelf, F_X12_shelf_j31, F_X12_shelf_j45, F_X12_shelf_j76, F_X12_shelf_j77, F_X12_shelf_j106, F_X12_shelf_j127, b2, s2, Option.bind_some, n10, if_false, if_neg ne0, if_pos e1, c2, if_pos ij, ej, if_pos ii, ei, m28, m29, xlet, if_pos (show u.2.1 25 i < 0 by rw [q2]; decide)]
    · have nn : ¬ u.2.1 25 i < 0 := by rw [fa_lt]; have := q4.1; show ¬ _ < (0 : Int); omega
      have rn : r ≠ a + 36 ∧ r ≠ a + 37 ∧ r + 1 ≠ a + 36 ∧ r + 1 ≠ a + 37 := by have := hr.1; omega
      have o : Ol t (tSP (tSI t (a + 36) j (-1)) (a + 37) j (some r)) (fun q => q = a + 36) (fun q => q = a + 37) := Ol.tr (Ol.SI _ _ _ rfl) (Ol.SP _ _ _ rfl)
      refine ⟨1, _, _, ?_, ?_, hR.shelf (j := j) (v := -1) (w := some r) (x28 := 2) (x29 := u.2.1 26 i) (x30 := u.2.1 25 i) (Or.inr (Or.inr ⟨g28 _ _ _, cI _ _, r, cP _ _, hr.ol o (by omega), ?_, ?_, ?_⟩))⟩
      · simp only [F_X11_shelf, F_X11_shelf_j37, F_X11_shelf_j53, F_X11_shelf_j67, F_X11_shelf_j88, b1, s1, Option.bind_some, n10, if_false, if_neg ne0, if_pos e1, c1, hk, if_true, p8, o36.1, o36.2, if_pos ij, ej, xlet, tK_SI, tP_SI, tN_SI, p9, k37, n37, p7, k35, n35, if_pos ii, ei, q1, xopt, hr.2.2.1]
      · simp only [F_X12_shelf, F_X12_shelf_j31, F_X12_shelf_j45, F_X12_shelf_j76, F_X12_shelf_j77, F_X12_shelf_j106, F_X12_shelf_j127, b2, s2, Option.bind_some, n10, if_false, if_neg ne0, if_pos e1, c2, if_pos ij, ej, if_pos ii, ei, m28, m29, xlet, if_neg nn]
      · rw [g30, o.2.2.1 r (by have := hr.2.1; omega) (by omega)]; exact q3
      · rw [g30]; exact q4
      · rw [g29]; exact q6
  · have ne0 : ¬ nI 2 = (0 : Int32) := by decide
    have ne1 : ¬ nI 2 = (1 : Int32) := by decide
    refine ⟨1, _, _, ?_, ?_, hR.shelf (j := j) (v := -1) (w := none) (x28 := 0) (x29 := 0) (x30 := 0) (Or.inr (Or.inl ⟨g28 _ _ _, cI _ _, cP _ _⟩))⟩
    · simp only [F_X11_shelf, F_X11_shelf_j37, F_X11_shelf_j53, F_X11_shelf_j67, F_X11_shelf_j88, b1, s1, Option.bind_some, n10, if_false, if_neg ne0, if_neg ne1, hk, if_true, p8, o36.1, o36.2, if_pos ij, ej, xlet, tK_SI, tP_SI, tN_SI, p9, k37, n37, xopt]
    · simp only [F_X12_shelf, F_X12_shelf_j31, F_X12_shelf_j45, F_X12_shelf_j76, F_X12_shelf_j77, F_X12_shelf_j106, F_X12_shelf_j127, b2, s2, Option.bind_some, n10, if_false, if_neg ne0, if_neg ne1, if_pos ij, ej, xlet]
theorem bB_1 (b : Bool) : bB b = 0 ∨ bB b = 1 := by cases b <;> simp [bB]
theorem st_taken : sT_taken RR := by
  intro t a u z0 z1 hR
  obtain ⟨B, ls, hk, hp, hk1, hS, hI, hRd, hL, hBg, hSt⟩ := hR.rd
  obtain ⟨-, -, -, hSh, hSf, -⟩ := hR.more
  obtain ⟨p7, k35, n35, p8, o36, p9, k37, n37⟩ := sk_sh hS
  have D1 := d_in z1 0 5 (A := 0) (B := 5) rfl rfl
  have D2 := d_in z1 10 14 (A := 10) (B := 14) rfl rfl
  rcases d_one z0 with ⟨b1, b2⟩ | ⟨j, hj, rfl, b1, b2⟩
  · refine ⟨-1, ?_, by simp only [F_X12_taken, F_X12_taken_j33, b2, Option.bind_some, if_true], hR⟩
    rcases D1 with ⟨e1, -⟩ | ⟨e1, -⟩ <;> rcases D2 with ⟨e2, -⟩ | ⟨e2, -⟩ <;> simp only [F_X11_taken, F_X11_taken_j35, e1, e2, b1, Option.bind_some, if_true]
  have ij : xIn (nI j) 4 := n_xIn hj (by decide)
  have ej : (nI j).toNatClampNeg = j := n_cl (by omega)
  have one : F_X12_isOne (nI j) = some 1 := b2
  -- behind the first tests
  have body : ∀ f g : Int32, ((f = 0 ∧ g = 1 ∧ 10 ≤ z1.toInt ∧ z1.toInt ≤ 14) ∨ (f = 1 ∧ g = 0 ∧ 0 ≤ z1.toInt ∧ z1.toInt ≤ 5)) → ∃ v, F_X11_taken_j37 t a (nI j) z1 f g = some v ∧ F_X12_taken_j35 u (nI j) z1 = some v := by
    intro f g hfg
    rcases hSf j hj with ⟨s1, s2, s3⟩ | ⟨s1, s2, s3⟩ | ⟨s1, s2, r, s3, hr, s5, s6, s7⟩
    · rcases d_br hS hI hRd hBg (u.2.1 29 j) with ⟨c1, c2⟩ | ⟨k, hk9, k9, ek, c1, c2, hBk, hbk⟩
      · refine ⟨-11, ?_, ?_⟩
        · simp only [F_X11_taken_j37, hk, if_true, hp, Option.bind_some, p8, o36.1, o36.2, if_pos ij, ej, hk1, s2, c1, xopt, p9, k37, n37, s3]
        · simp only [F_X12_taken_j35, F_X12_onShelf, F_X12_onShelf_j39, F_X12_onShelf_j40, one, Option.bind_some, n10, if_false, if_pos ij, ej, s1, if_true, c2, if_neg (show ¬ (0 : Int32) ≤ -1 by decide), if_neg (show ¬ (2 : Int32) ≤ 1 by decide)]
      · have k0 : (0 : Int32) ≤ nI k := nI_pos' (by omega)
        have kn : ¬ nI k < 0 := nI_pos (by omega)
        have its : F_X12_its u (nI k) 0 = some (u.2.1 0 (5 + 4 * k)) := n_its u (w := 0) (by omega)
        have ref : ∀ v, F_X12_taken_j58 u (nI j) z1 (nI k) = some v → F_X12_taken_j35 u (nI j) z1 = some v := by
          intro v hv
          simp only [F_X12_taken_j35, F_X12_onShelf, F_X12_onShelf_j39, F_X12_onShelf_j40, one, Option.bind_some, n10, if_false, if_pos ij, ej, s1, if_true, c2]
          rw [ek, if_pos k0]; exact hv
        have cls : ∀ v, (if f = 0 then F_X11_taken_j81 t a else (F_X11_isUnder (tI t (B k) 0) z1).bind (fun r26 => if r26 = 0 then F_X11_taken_j81 t a else F_X11_taken_j83 t a (tI t (B k) 1))) = some v → F_X11_taken_j37 t a (nI j) z1 f g = some v := by
          intro v hv
          simp only [F_X11_taken_j37, hk, if_true, hp, Option.bind_some, p8, o36.1, o36.2, if_pos ij, ej, hk1, s2, c1, xopt, if_pos hbk]
          exact hv
        rcases hfg with ⟨rfl, rfl, l1, l2⟩ | ⟨rfl, rfl, l1, l2⟩
        · have g6 : (6 : Int32) ≤ z1 := by rw [fa_le]; show (6 : Int) ≤ _; omega
          refine ⟨-13, cls _ (by rw [if_pos rfl]; rfl), ref _ ?_⟩
          simp only [F_X12_taken_j58, F_X12_taken_j85, F_X12_taken_j107, F_X12_taken_j125, if_neg kn, if_pos g6, if_true]
        · have g6 : ¬ (6 : Int32) ≤ z1 := by rw [fa_le]; show ¬ (6 : Int) ≤ _; omega
          rcases bB_1 (un (u.2.1 0 (5 + 4 * k)) z1) with ub | ub
          · refine ⟨-13, cls _ ?_, ref _ ?_⟩
            · rw [if_neg (by decide), hBk.2.1, un_c, Option.bind_some, if_pos ub]; rfl
            · simp only [F_X12_taken_j58, F_X12_taken_j85, F_X12_taken_j107, F_X12_taken_j125, if_neg kn, if_neg g6, its, Option.bind_some, un_r, ub, if_true]
          · refine ⟨nI k, cls _ ?_, ref _ ?_⟩
            · rw [if_neg (by decide), hBk.2.1, un_c, Option.bind_some, if_neg (by rw [ub]; decide), hBk.2.2.1]; rfl
            · simp only [F_X12_taken_j58, F_X12_taken_j107, F_X12_taken_j125, if_neg kn, if_neg g6, its, Option.bind_some, un_r, ub, n10, if_false, if_pos ij, ej, ek]
    · have c1 : F_X7_bridgeAt t (a + 1) (-1) = some none := by unfold F_X7_bridgeAt F_X7_bridgeAt_j30 F_X7_bridgeAt_j31; rw [if_pos (by decide)]; rfl
      refine ⟨-11, ?_, ?_⟩
      · simp only [F_X11_taken_j37, hk, if_true, hp, Option.bind_some, p8, o36.1, o36.2, if_pos ij, ej, hk1, s2, c1, xopt, p9, k37, n37, s3]
      · simp only [F_X12_taken_j35, F_X12_onShelf, F_X12_onShelf_j39, F_X12_onShelf_j40, one, Option.bind_some, n10, if_false, if_pos ij, ej, s1, if_neg (show ¬ (0 : Int32) = 1 by decide), if_neg (show ¬ (0 : Int32) ≤ -1 by decide), if_neg (show ¬ (2 : Int32) ≤ 0 by decide)]
    · have c1 : F_X7_bridgeAt t (a + 1) (-1) = some none := by unfold F_X7_bridgeAt F_X7_bridgeAt_j30 F_X7_bridgeAt_j31; rw [if_pos (by decide)]; rfl
      have ref : ∀ v, F_X12_taken_j58 u (nI j) z1 (-1) = some v → F_X12_taken_j35 u (nI j) z1 = some v := by
        intro v hv
        simp only [F_X12_taken_j35, F_X12_onShelf, F_X12_onShelf_j39, F_X12_onShelf_j40, one, Option.bind_some, n10, if_false, if_pos ij, ej, s1, if_neg (show ¬ (2 : Int32) = 1 by decide), if_neg (show ¬ (0 : Int32) ≤ -1 by decide), if_pos (show (2 : Int32) ≤ 2 by decide)]
        exact hv
      have cls : ∀ v, (if g = 0 then F_X11_taken_j122 t a else if (tI t r 0) = (z1 - (10 : Int32)) then (F_X8_size t r).bind (fun r22 => F_X11_taken_j124 t a r22) else F_X11_taken_j122 t a) = some v → F_X11_taken_j37 t a (nI j) z1 f g = some v := by
        intro v hv
        simp only [F_X11_taken_j37, hk, if_true, hp, Option.bind_some, p8, o36.1, o36.2, if_pos ij, ej, hk1, s2, c1, xopt, p9, k37, n37, s3, hr.2.2.1]
        exact hv
      by_cases e : z1 - (10 : Int32) = u.2.1 30 j
      · have l10 : ¬ (g = 0) := by
          rcases hfg with ⟨-, hg, -, -⟩ | ⟨-, hg, l1, l2⟩
          · rw [hg]; decide
          · exfalso
            have h2 := congrArg Int32.toInt e
            rw [fb_subI] at h2 <;> (try (show _; omega))
            · have h3 := s6.1
              change z1.toInt - 10 = _ at h2
              omega
            · show _ ≤ z1.toInt - 10; omega
            · show z1.toInt - 10 < _; omega
        refine ⟨nI (tN t (r + 1)), cls _ ?_, ref _ ?_⟩
        · rw [if_neg l10, if_pos (s5.trans e.symm)]
          simp only [F_X8_size, F_X11_taken_j124, hr.2.2.1, hr.2.2.2.1, hr.2.2.2.2, if_true, Option.bind_some]
        · simp only [F_X12_taken_j58, F_X12_taken_j107, F_X12_taken_j125, if_pos (show (-1 : Int32) < 0 by decide), if_pos ij, ej, if_pos e, n10, if_false, s7]
      · refine ⟨-13, cls _ ?_, ref _ ?_⟩
        · by_cases hg : g = 0
          · rw [if_pos hg]; rfl
          · rw [if_neg hg, if_neg (fun h => e (h.symm.trans s5))]; rfl
        · simp only [F_X12_taken_j58, F_X12_taken_j107, F_X12_taken_j125, if_pos (show (-1 : Int32) < 0 by decide), if_pos ij, ej, if_neg e, if_true]
  rcases D1 with ⟨e1, e2, e3⟩ | ⟨e1, e2, e3, e4⟩
  · rcases D2 with ⟨g1, g2, -⟩ | ⟨g1, g2, g3, g4⟩
    · exact ⟨-1, by simp only [F_X11_taken, F_X11_taken_j35, e1, g1, b1, Option.bind_some, n10, if_false, if_true], by simp only [F_X12_taken, F_X12_taken_j33, b2, e2, g2, Option.bind_some, n10, if_false, if_true], hR⟩
    · obtain ⟨v, h1, h2⟩ := body 0 1 (Or.inl ⟨rfl, rfl, g3, g4⟩)
      exact ⟨v, by simp only [F_X11_taken, e1, g1, b1, Option.bind_some, n10, if_false, if_true]; exact h1, by simp only [F_X12_taken, b2, e2, g2, Option.bind_some, n10, if_false, if_true]; exact h2, hR⟩
  · have e3 : 0 ≤ z1.toInt := e3
    have e4 : z1.toInt ≤ 5 := e4
    rcases D2 with ⟨g1, g2, -⟩ | ⟨g1, g2, g3, g4⟩
    · obtain ⟨v, h1, h2⟩ := body 1 0 (Or.inr ⟨rfl, rfl, e3, e4⟩)
      exact ⟨v, by simp only [F_X11_taken, e1, g1, b1, Option.bind_some, n10, if_false]; exact h1, by simp only [F_X12_taken, b2, e2, Option.bind_some, n10, if_false]; exact h2, hR⟩
    · have g3 : 10 ≤ z1.toInt := g3
      exfalso; omega
/-! walks -/
theorem n_wrap {x k : Int32} (hk0 : 0 ≤ k.toInt) (hk : k.toInt ≤ 20) {N : Nat} (hN : N ≤ 40) : F_X12_in (x.toInt64 + k.toInt64) 0 ((nI N - 1).toInt64) = F_X12_in (x + k).toInt64 0 ((nI N - 1).toInt64) := by
  have hx := fb_rng x
  have s1 : (x.toInt64 + k.toInt64).toInt = x.toInt + k.toInt := by
    rw [fb_addL] <;> rw [Int32.toInt_toInt64, Int32.toInt_toInt64] <;> omega
  rw [n_in, n_in]
  congr 1
  by_cases c : x.toInt + k.toInt < 2147483648
  · have s2 : (x + k).toInt64.toInt = x.toInt + k.toInt := by rw [Int32.toInt_toInt64, fb_addI] <;> omega
    have : (x.toInt64 + k.toInt64) = (x + k).toInt64 := by rw [fa_eq64, s1, s2]
    rw [this]
  · have e : (nI N - 1).toInt64.toInt ≤ 40 := by
      rw [Int32.toInt_toInt64]
      have := nI_toInt (n := N) (by omega)
      rw [fb_subI (by rw [this]; show _ ≤ (N : Int) - 1; omega) (by rw [this]; show (N : Int) - 1 < _; omega), this]; show (N : Int) - 1 ≤ 40; omega
    have s3 : (x + k).toInt = x.toInt + k.toInt - 4294967296 := by
      rw [Int32.toInt_add]
      have : (x.toInt + k.toInt).bmod (2 ^ 32) = (x.toInt + k.toInt - 4294967296).bmod (2 ^ 32) := by
        rw [show x.toInt + k.toInt - 4294967296 = x.toInt + k.toInt + (-1) * ((2 ^ 32 : Nat) : Int) by omega, Int.add_mul_bmod_self_right]
      rw [this, fb_bmod] <;> omega
    rw [bI_f, bI_f]
    · rw [fa_le64, fa_le64, Int32.toInt_toInt64, s3]; intro h; have := h.1; change (0 : Int) ≤ _ at this; omega
    · rw [fa_le64, fa_le64, s1]; intro h; have := h.2; omega
theorem lp_walks {t0 : xT} {a j r M : Nat} {p x : Int32} {y26 y27 : Nat → Int32} (hj : j < 4) (hr : RoO t0 a r) (h35 : tP t0 (a + 35) j = some r) (hM : M ≤ 20) (hN : tN t0 (r + 1) ≤ 40) (h26 : y26 j = nI (tN t0 (r + 1))) (h27 : ∀ i, i < tN t0 (r + 1) → tI t0 (r + 1) i = y27 (40 * j + i)) : ∀ m i n t u w, i + m = M → m < n → RR t a u → u.2.1 26 = y26 → u.2.1 27 = y27 → Ol t0 t (fun q => a + 12 ≤ q ∧ q ≤ a + 14) (fun _ => False) → ∃ v t' u', F_X11_walks_l66 n t a p x (nI M) r w (nI i) = some (v, t') ∧ F_X12_walks_l52 n u p (nI j) x (nI M) w (nI i) = some (v, u') ∧ RR t' a u'
  | _, _, 0, _, _, _, _, h, _, _, _, _ => absurd h (Nat.not_lt_zero _)
  | 0, i, n + 1, t, u, w, hi, _, hR, e26, e27, o => by
    have hi : i = M := by omega
    subst hi
    have g : nI i ≤ nI i := nI_le (by omega) (by omega)
    exact ⟨w, t, u, by unfold F_X11_walks_l66; rw [if_pos g], by unfold F_X12_walks_l52; rw [if_pos g], hR⟩
  | m + 1, i, n + 1, t, u, w, hi, hm, hR, e26, e27, o => by
    have g1 : ¬ nI M ≤ nI i := nI_ge (by omega) (by omega)
    have ij : xIn (nI j) 4 := n_xIn hj (by decide)
    have ej : (nI j).toNatClampNeg = j := n_cl (by omega)
    have r1 := hr.2.1
    have r43 := hr.1
    have hr' : RoO t a r := hr.ol o id
    have nN : tN t (r + 1) = tN t0 (r + 1) := (o.2.1 (r + 1) r1).2
    have hiI : (nI i).toInt = i := nI_toInt (by omega)
    have hw := n_wrap (x := x) (k := nI i) (by omega) (by omega) hN
    have hS := hR.more.1
    rcases d_has hr' nN hN (x + nI i) with ⟨i1, i2⟩ | ⟨q, hq, eq, i1, i2⟩
    · refine ⟨-12, t, u, ?_, ?_, hR⟩
      · unfold F_X11_walks_l66
        rw [if_neg g1, if_pos hr'.2.2.1, i1]; rfl
      · unfold F_X12_walks_l52
        rw [if_neg g1, if_pos ij, ej, e26, h26, hw, i2]; rfl
    · have ib := i1
      rw [eq] at ib
      have get := c_get hr' nN hN hq ib
      have val : tI t (r + 1) q = y27 (40 * j + q) := by rw [o.2.2.1 (r + 1) r1 (by omega)]; exact h27 q hq
      obtain ⟨v, t', u', h1, h2, h3, h4, h5⟩ := st_crossX t a u p (y27 (40 * j + q)) hR
      have h5 : u'.2.1 25 = u.2.1 25 ∧ u'.2.1 26 = u.2.1 26 ∧ u'.2.1 27 = u.2.1 27 ∧ u'.2.1 0 0 = u.2.1 0 0 ∧ u'.2.1 0 1 = u.2.1 0 1 := by simpa only [Cl, Prod.mk.injEq] using h5
      have ix : ((40 : Int32) * nI j + x) + nI i = nI (40 * j + q) := by rw [Int32.add_assoc, eq, r_ix40]
      have eix : (nI (40 * j + q)).toNatClampNeg = 40 * j + q := n_cl (by omega)
      have xix : xIn (nI (40 * j + q)) 160 := n_xIn (by omega) (by decide)
      by_cases c : v < 0
      · obtain ⟨v2, t2, u2, k1, k2, k3⟩ := lp_walks hj hr h35 hM hN h26 h27 m (i + 1) n t' u' w (by omega) (by omega) h3 (h5.2.1.trans e26) (h5.2.2.1.trans e27) (o.tr h4)
        refine ⟨v2, t2, u2, ?_, ?_, k3⟩
        · unfold F_X11_walks_l66
          rw [if_neg g1, if_pos hr'.2.2.1, i1, Option.bind_some, if_neg (by decide), eq, get, Option.bind_some, if_pos hS.1, val, h1, Option.bind_some, if_pos c]
          show F_X11_walks_l66 n t' a p x (nI M) r w (nI i + 1) = _
          rw [nI_1]; exact k1
        · unfold F_X12_walks_l52
          rw [if_neg g1, if_pos ij, ej, e26, h26, hw, i2, Option.bind_some, if_neg (by decide), ix, if_pos xix, eix, e27, h2, Option.bind_some, if_pos c]
          show F_X12_walks_l52 n u' p (nI j) x (nI M) (w + 0) (nI i + 1) = _
          rw [nI_1, Int32.add_zero]; exact k2
      · obtain ⟨v2, t2, u2, k1, k2, k3⟩ := lp_walks hj hr h35 hM hN h26 h27 m (i + 1) n t' u' (w + 1) (by omega) (by omega) h3 (h5.2.1.trans e26) (h5.2.2.1.trans e27) (o.tr h4)
        refine ⟨v2, t2, u2, ?_, ?_, k3⟩
        · unfold F_X11_walks_l66
          rw [if_neg g1, if_pos hr'.2.2.1, i1, Option.bind_some, if_neg (by decide), eq, get, Option.bind_some, if_pos hS.1, val, h1, Option.bind_some, if_neg c]
          show F_X11_walks_l66 n t' a p x (nI M) r (w + 1) (nI i + 1) = _
          rw [nI_1]; exact k1
        · unfold F_X12_walks_l52
          rw [if_neg g1, if_pos ij, ej, e26, h26, hw, i2, Option.bind_some, if_neg (by decide), ix, if_pos xix, eix, e27, h2, Option.bind_some, if_neg c]
          show F_X12_walks_l52 n u' p (nI j) x (nI M) (w + 1) (nI i + 1) = _
          rw [nI_1]; exact k2
theorem st_walks : sT_walks RR := by
  intro t a u z0 z1 z2 z3 hR
  obtain ⟨B, ls, hk, hp, hk1, hS, hI, hRd, hL, hBg, hSt⟩ := hR.rd
  obtain ⟨-, -, -, hSh, -⟩ := hR.more
  obtain ⟨p7, k35, n35, -⟩ := sk_sh hS
  rcases d_pe hS hI hRd z0 with ⟨c1, c2⟩ | ⟨n, hn, hn6, e0, c1, c2⟩
  · exact ⟨-1, t, u, by simp only [F_X11_walks, F_X11_walks_j31, hk, hp, hk1, c1, Option.bind_some, if_true], by simp only [F_X12_walks, F_X12_walks_j28, c2, Option.bind_some, if_true], hR⟩
  rcases d_one z1 with ⟨b1, b2⟩ | ⟨j, hj, rfl, b1, b2⟩
  · exact ⟨-1, t, u, by simp only [F_X11_walks, F_X11_walks_j31, hk, hp, hk1, c1, b1, Option.bind_some, if_true, n10, if_false], by simp only [F_X12_walks, F_X12_walks_j28, c2, b2, Option.bind_some, if_true, n10, if_false], hR⟩
  rcases d_in z3 0 20 (A := 0) (B := 20) rfl rfl with ⟨m1, m2, -⟩ | ⟨m1, m2, m3, m4⟩
  · exact ⟨-1, t, u, by simp only [F_X11_walks, F_X11_walks_j31, hk, hp, hk1, c1, b1, m1, Option.bind_some, if_true, n10, if_false], by simp only [F_X12_walks, F_X12_walks_j28, c2, b2, m2, Option.bind_some, if_true, n10, if_false], hR⟩
  obtain ⟨M, hM, rfl⟩ := nI_of2 (x := z3) (M := 20) (n := 20) rfl (by rw [fa_lt]; exact Int.not_lt.mpr m3) (by rw [fa_le]; exact m4)
  have ij : xIn (nI j) 4 := n_xIn hj (by decide)
  have ej : (nI j).toNatClampNeg = j := n_cl (by omega)
  rcases hSh.1 j hj with ⟨q1, q2⟩ | ⟨r, q1, hr, q3, q4, q5, q6, q7⟩
  · refine ⟨-11, t, u, by simp only [F_X11_walks, hk, hp, hk1, c1, b1, m1, Option.bind_some, if_true, n10, if_false, p7, k35, n35, if_pos ij, ej, q1, xopt], ?_, hR⟩
    simp only [F_X12_walks, F_X12_wrong, F_X12_wrong_j30, c2, b2, m2, Option.bind_some, n10, if_false, if_pos ij, ej, q2, if_neg (show ¬ (0 : Int32) ≤ -1 by decide), if_neg (show ¬ (-11 : Int32) = 0 by decide)]
  have h0 : (0 : Int32) ≤ u.2.1 25 j := by rw [fa_le]; exact q4.1
  by_cases e : u.2.1 25 j = 0
  · obtain ⟨v, t', u', h1, h2, h3⟩ := lp_walks (p := z0) (x := z2) hj hr q1 hM q5 q6 q7 M 0 xFuel t u 0 (by omega) (xF_big (by omega)) hR rfl rfl (Ol.rf _ _ _)
    exact ⟨v, t', u', by simp only [F_X11_walks, hk, hp, hk1, c1, b1, m1, Option.bind_some, if_true, n10, if_false, p7, k35, n35, if_pos ij, ej, q1, xopt, hr.2.2.1, if_pos (q3.trans e)]; exact h1, by simp only [F_X12_walks, F_X12_wrong, F_X12_wrong_j30, c2, b2, m2, Option.bind_some, n10, if_false, if_pos ij, ej, if_pos h0, if_pos e, if_true]; exact h2, h3⟩
  · refine ⟨-13, t, u, by simp only [F_X11_walks, hk, hp, hk1, c1, b1, m1, Option.bind_some, if_true, n10, if_false, p7, k35, n35, if_pos ij, ej, q1, xopt, hr.2.2.1, if_neg (fun h => e (q3.symm.trans h))], ?_, hR⟩
    simp only [F_X12_walks, F_X12_wrong, F_X12_wrong_j30, c2, b2, m2, Option.bind_some, n10, if_false, if_pos ij, ej, if_pos h0, if_neg e, if_neg (show ¬ (-13 : Int32) = 0 by decide)]
