/-! ===== pure mathematics 16: sheets and shelves ===== -/
theorem d_one (z : Int32) : (F_X11_isIn z 0 3 = some 0 ∧ F_X12_isOne z = some 0) ∨ ∃ j, j < 4 ∧ z = nI j ∧ F_X11_isIn z 0 3 = some 1 ∧ F_X12_isOne z = some 1 := by
  rcases d_in z 0 3 (A := 0) (B := 3) rfl rfl with ⟨h1, h2, -⟩ | ⟨h1, h2, h3, h4⟩
  · left; refine ⟨h1, ?_⟩; unfold F_X12_isOne; rw [h2]; rfl
  · right
    obtain ⟨N, hN, rfl⟩ := nI_of2 (x := z) (M := 3) (n := 3) rfl (by rw [fa_lt]; exact Int.not_lt.mpr h3) (by rw [fa_le]; exact h4)
    refine ⟨N, by omega, rfl, h1, ?_⟩
    unfold F_X12_isOne; rw [h2]; rfl
theorem d_has {t : xT} {a r N : Nat} (h : RoO t a r) (hn : tN t (r + 1) = N) (h4 : N ≤ 40) (z : Int32) : (F_X8_has t r z = some 0 ∧ F_X12_in z.toInt64 0 ((nI N - 1).toInt64) = some 0) ∨ ∃ i, i < N ∧ z = nI i ∧ F_X8_has t r z = some 1 ∧ F_X12_in z.toInt64 0 ((nI N - 1).toInt64) = some 1 := by
  obtain ⟨-, -, k8, p1, k20⟩ := h
  rcases pk_ix z (n := N) (by omega) with c | c | ⟨i, hi, rfl⟩
  · exact Or.inl ⟨by simp only [F_X8_has, F_X8_has_j17, F_X8_has_j18, if_pos c, true_or, if_true], n_inN N (by omega) (Or.inl c)⟩
  · refine Or.inl ⟨?_, n_inN N (by omega) (Or.inr c)⟩
    by_cases d : z < 0
    · simp only [F_X8_has, F_X8_has_j17, F_X8_has_j18, if_pos d, true_or, if_true]
    · simp only [F_X8_has, F_X8_has_j17, F_X8_has_j18, if_neg d, k8, p1, k20, hn, Option.bind_some, if_pos c, true_or, if_true]
  · exact Or.inr ⟨i, hi, rfl, by simp only [F_X8_has, F_X8_has_j18, if_neg (nI_pos (show i < 2 ^ 31 by omega)), k8, p1, k20, hn, Option.bind_some, if_neg (nI_ge hi (show N < 2 ^ 31 by omega)), or_true, if_true], n_inY (by omega) hi⟩
theorem c_get {t : xT} {a r N i : Nat} (h : RoO t a r) (hn : tN t (r + 1) = N) (h4 : N ≤ 40) (hi : i < N) (hh : F_X8_has t r (nI i) = some 1) : F_X8_get t r (nI i) = some (tI t (r + 1) i) := by
  obtain ⟨-, -, k8, p1, k20⟩ := h
  have e : (nI i).toNatClampNeg = i := n_cl (by omega)
  simp only [F_X8_get, F_X8_get_j19, k8, hh, p1, k20, hn, Option.bind_some, n10, if_false, if_true, if_pos (n_xIn hi (show N < 2147483648 by omega)), e]
theorem n_nar {t : xT} {r : Nat} (k8 : tK t r = 8) (hs : Ri (tI t r 0) 0 4) (v : Int32) : ∃ w, F_X8_narrowed t r v = some w ∧ F_X12_narrowed (tI t r 0) v = some w := by
  unfold F_X8_narrowed F_X12_narrowed F_X8_narrowed_j55 F_X8_narrowed_j56 F_X12_narrowed_j37 xlet
  rw [if_pos k8]
  by_cases c0 : tI t r 0 = 0
  · simp only [if_pos c0]; exact ⟨_, rfl, rfl⟩
  simp only [if_neg c0]
  by_cases c1 : tI t r 0 = 1
  · simp only [if_pos c1]; exact ⟨_, rfl, rfl⟩
  simp only [if_neg c1]
  by_cases c4 : tI t r 0 = 4
  · have c2 : ¬ tI t r 0 = 2 := by rw [c4]; decide
    have c3 : ¬ tI t r 0 = 3 := by rw [c4]; decide
    simp only [if_pos c4, if_neg c2, if_neg c3]
    by_cases cv : v = 0
    · simp only [if_pos cv]; exact ⟨_, rfl, rfl⟩
    · simp only [if_neg cv]; exact ⟨_, rfl, rfl⟩
  · simp only [if_neg c4]
    by_cases c2 : tI t r 0 = 2
    · simp only [if_pos c2]; exact ⟨_, rfl, rfl⟩
    simp only [if_neg c2]
    by_cases c3 : tI t r 0 = 3
    · simp only [if_pos c3]; exact ⟨_, rfl, rfl⟩
    simp only [if_neg c3]; exact ⟨_, rfl, rfl⟩
theorem r_ix40 (j i : Nat) : (40 : Int32) * nI j + nI i = nI (40 * j + i) := by show nI 40 * nI j + nI i = _; rw [pk_mul, nI_add]
/-- what a walk over sheets needs of the skeleton -/
theorem sk_sh {t : xT} {a : Nat} (hS : SkC t a) : tP t a 7 = some (a + 35) ∧ tK t (a + 35) = 23 ∧ tN t (a + 35) = 4 ∧ tP t a 8 = some (a + 36) ∧ ArO t (a + 36) 4 ∧ tP t a 9 = some (a + 37) ∧ tK t (a + 37) = 23 ∧ tN t (a + 37) = 4 := by
  obtain ⟨k0, p0, p1, p3, p5, p7, p8, p9, p10, p11, p12, p13, r1, r17, o33, o34, o35, o36, o37, -⟩ := hS
  exact ⟨p7, o35.1, o35.2, p8, o36, p9, o37.1, o37.2⟩
theorem st_item : sT_item RR := by
  intro t a u z0 z1 z2 hR
  obtain ⟨hS, -, -, hSh, -⟩ := hR.more
  obtain ⟨p7, k35, n35, -⟩ := sk_sh hS
  rcases d_one z0 with ⟨b1, b2⟩ | ⟨j, hj, rfl, b1, b2⟩
  · exact ⟨-1, by simp only [F_X11_item, F_X11_item_j18, b1, Option.bind_some, if_true], by simp only [F_X12_item, F_X12_item_j19, b2, Option.bind_some, if_true], hR⟩
  rcases d_in z1 0 4 (A := 0) (B := 4) rfl rfl with ⟨s1, s2, -⟩ | ⟨s1, s2, s3, s4⟩
  · exact ⟨-1, by simp only [F_X11_item, F_X11_item_j18, b1, s1, Option.bind_some, if_true, n10, if_false], by simp only [F_X12_item, F_X12_item_j19, b2, s2, Option.bind_some, if_true, n10, if_false], hR⟩
  have ij : xIn (nI j) 4 := n_xIn hj (by decide)
  have ej : (nI j).toNatClampNeg = j := n_cl (by omega)
  rcases hSh.1 j hj with ⟨q1, q2⟩ | ⟨r, q1, hr, q3, q4, q5, q6, q7⟩
  · refine ⟨-11, by simp only [F_X11_item, b1, s1, Option.bind_some, n10, if_false, hS.1, if_true, p7, k35, n35, if_pos ij, ej, q1, xopt], ?_, hR⟩
    simp only [F_X12_item, F_X12_item_j73, F_X12_wrong, F_X12_wrong_j30, b2, s2, Option.bind_some, n10, if_false, if_pos ij, ej, q2, if_neg (show ¬ (0 : Int32) ≤ -1 by decide), if_neg (show ¬ (-11 : Int32) = 0 by decide)]
  · have h0 : (0 : Int32) ≤ u.2.1 25 j := by rw [fa_le]; exact q4.1
    by_cases e : u.2.1 25 j = z1
    · have e' : tI t r 0 = z1 := q3.trans e
      rcases d_has hr rfl q5 z2 with ⟨i1, i2⟩ | ⟨i, hi, rfl, i1, i2⟩
      · refine ⟨-12, by simp only [F_X11_item, F_X11_item_j68, b1, s1, Option.bind_some, n10, if_false, hS.1, if_true, p7, k35, n35, if_pos ij, ej, q1, xopt, hr.2.2.1, if_pos e', i1], ?_, hR⟩
        simp only [F_X12_item, F_X12_item_j73, F_X12_wrong, F_X12_wrong_j30, b2, s2, Option.bind_some, n10, if_false, if_pos ij, ej, if_pos h0, if_pos e, if_true, q6, i2]
      · have ei : (nI (40 * j + i)).toNatClampNeg = 40 * j + i := n_cl (by omega)
        refine ⟨tI t (r + 1) i, by simp only [F_X11_item, F_X11_item_j68, b1, s1, Option.bind_some, n10, if_false, hS.1, if_true, p7, k35, n35, if_pos ij, ej, q1, xopt, hr.2.2.1, if_pos e', i1, c_get hr rfl q5 hi i1], ?_, hR⟩
        simp only [F_X12_item, F_X12_item_j73, F_X12_wrong, F_X12_wrong_j30, b2, s2, Option.bind_some, n10, if_false, if_pos ij, ej, if_pos h0, if_pos e, if_true, q6, i2, r_ix40, if_pos (n_xIn (show 40 * j + i < 160 by omega) (show 160 < 2147483648 by decide)), ei, q7 i hi]
    · have e' : ¬ tI t r 0 = z1 := fun h => e (q3.symm.trans h)
      refine ⟨-13, by simp only [F_X11_item, F_X11_item_j68, b1, s1, Option.bind_some, n10, if_false, hS.1, if_true, p7, k35, n35, if_pos ij, ej, q1, xopt, hr.2.2.1, if_neg e'], ?_, hR⟩
      simp only [F_X12_item, F_X12_item_j73, F_X12_wrong, F_X12_wrong_j30, b2, s2, Option.bind_some, n10, if_false, if_pos ij, ej, if_pos h0, if_neg e, if_neg (show ¬ (-13 : Int32) = 0 by decide)]
theorem RR.wsh {t : xT} {a : Nat} {u : xS} (h : RR t a u) {j r i : Nat} (hj : j < 4) (hp : tP t (a + 35) j = some r) (hr : RoO t a r) (hi : i < tN t (r + 1)) (h4 : tN t (r + 1) ≤ 40) (v : Int32) : RR (tSI t (r + 1) i v) a (mA u 27 (40 * j + i) v) := by
  have hh := h.more
  obtain ⟨B, B', L, L', ls, ls', hS, hN, hk, hK, hTp, hRw, hSh, hSf, hTr⟩ := h
  have hl := hS.lt
  have r43 := hr.1
  have o : Ol t (tSI t (r + 1) i v) (fun q => q = r + 1) (fun _ => False) := Ol.SI _ _ _ rfl
  have lw : ∀ L, LwO t a L → ∀ q, (q = L ∨ (L + 1 ≤ q ∧ q ≤ L + 8)) → ¬ q = r + 1 := by
    intro L hL q hq e
    rcases hq with hq | ⟨g1, g2⟩
    · have := hL.1; rw [← hq, e, hr.2.2.2.2] at this; exact absurd this (by decide)
    · rcases hL.kind (q := r) (by omega) (by omega) with k | k <;> rw [hr.2.2.1] at k <;> exact absurd k (by decide)
  have nb : ∀ q, isBk (tK t q) → ¬ q = r + 1 := by
    intro q hq e; rw [e, hr.2.2.2.2] at hq; revert hq; decide
  have ea : tI (tSI t (r + 1) i v) a = tI t a := tI_SIn _ _ _ _ (by omega)
  refine ⟨B, B', L, L', ls, ls', hS.ol o id id id id, ?_, ?_, ?_, hTp.ol o hl (by rw [ea]) (by omega) rfl rfl, hRw.ol o hl (by rw [ea]) (by omega) rfl rfl, ?_, hSf.ol o hl (by omega) id (fun r' h' => ⟨fun e => ?_, id⟩) rfl rfl rfl, hTr.ol o hl (by omega) (by omega) rfl rfl⟩
  · exact hN.ol o hl (fun q q1 q2 => by omega) (fun _ _ _ => id) (fun q q1 q2 q3 => by
      rcases q3 with q3 | q3 | q3
      · exact lw L hN.2.2.1.2.1 q (Or.inl q3)
      · exact nb q q3
      · exact lw L hN.2.2.1.2.1 q (Or.inr q3)) (fun _ => id)
  · rw [ea]; exact hk
  · intro g
    have K := hK g
    exact K.ol o hl (fun q q1 q2 => by omega) (fun q q1 q2 => by omega) (fun _ _ _ => id) (fun _ _ _ => id) (fun q q1 q2 q3 => by
      rcases q3 with q3 | q3 | q3
      · exact lw L' K.2.2.1.2.1 q (Or.inl q3)
      · exact nb q q3.1
      · exact lw L' K.2.2.1.2.1 q (Or.inr q3)) (fun _ => id)
  · refine ⟨fun j' hj' => ?_, hSh.2⟩
    by_cases c : j' = j
    · subst c
      rcases hSh.1 j' hj' with ⟨q1, -⟩ | ⟨r', q1, hr', q3, q4, q5, q6, q7⟩
      · rw [hp] at q1; cases q1
      · have : r' = r := by rw [hp] at q1; cases q1; rfl
        subst this
        refine Or.inr ⟨r', q1, hr'.ol o id, ?_, q4, q5, q6, fun i' hi' => ?_⟩
        · rw [tI_SIn _ _ _ _ (by omega)]; exact q3
        · rw [tI_SI]
          show upd _ _ _ _ = upd (u.2.1 27) _ _ _
          rw [upd2, upd2]
          by_cases ci : i' = i
          · rw [if_pos ci, if_pos (by omega)]
          · rw [if_neg ci, if_neg (by omega)]; exact q7 i' hi'
    · refine (hSh.1 j' hj').ol o rfl (fun r' h1 h2 => ⟨fun e => ?_, fun e => ?_, id⟩) rfl rfl (fun i' hi' => ?_)
      · have := h2.2.2.1; rw [e, hr.2.2.2.2] at this; exact absurd this (by decide)
      · have e' : r' = r := by omega
        exact hSh.2 j j' r hj hj' (fun e => c e.symm) hp (by rw [h1, e'])
      · show upd (u.2.1 27) _ _ _ = _
        exact upd_n _ _ (by omega)
  · have := h'.2.2.1; rw [e, hr.2.2.2.2] at this; exact absurd this (by decide)
theorem st_write : sT_write RR := by
  intro t a u z0 z1 z2 hR
  obtain ⟨hS, -, -, hSh, -⟩ := hR.more
  obtain ⟨p7, k35, n35, -⟩ := sk_sh hS
  rcases d_one z0 with ⟨b1, b2⟩ | ⟨j, hj, rfl, b1, b2⟩
  · exact ⟨-1, t, u, by simp only [F_X11_write, b1, Option.bind_some, if_true], by simp only [F_X12_write, b2, Option.bind_some, if_true], hR⟩
  have ij : xIn (nI j) 4 := n_xIn hj (by decide)
  have ej : (nI j).toNatClampNeg = j := n_cl (by omega)
  rcases hSh.1 j hj with ⟨q1, q2⟩ | ⟨r, q1, hr, q3, q4, q5, q6, q7⟩
  · exact ⟨-11, t, u, by simp only [F_X11_write, b1, Option.bind_some, n10, if_false, hS.1, if_true, p7, k35, n35, if_pos ij, ej, q1, xopt], by simp only [F_X12_write, b2, Option.bind_some, n10, if_false, if_pos ij, ej, q2, if_neg (show ¬ (0 : Int32) ≤ -1 by decide)], hR⟩
  · have h0 : (0 : Int32) ≤ u.2.1 25 j := by rw [fa_le]; exact q4.1
    rcases d_has hr rfl q5 z1 with ⟨i1, i2⟩ | ⟨i, hi, rfl, i1, i2⟩
    · exact ⟨-12, t, u, by simp only [F_X11_write, b1, Option.bind_some, n10, if_false, hS.1, if_true, p7, k35, n35, if_pos ij, ej, q1, xopt, hr.2.2.1, i1], by simp only [F_X12_write, b2, Option.bind_some, n10, if_false, if_pos ij, ej, if_pos h0, q6, i2, if_true], hR⟩
    · obtain ⟨w, w1, w2⟩ := n_nar hr.2.2.1 (by rw [q3]; exact q4) z2
      rw [q3] at w2
      have ei : (nI (40 * j + i)).toNatClampNeg = 40 * j + i := n_cl (by omega)
      have ei' : (nI i).toNatClampNeg = i := n_cl (by omega)
      have ii : xIn (nI i) (tN t (r + 1)) := n_xIn hi (by omega)
      have st : F_X8_set t r (nI i) z2 = some (tSI t (r + 1) i w) := by
        simp only [F_X8_set, F_X8_set_j19, hr.2.2.1, if_true, i1, Option.bind_some, n10, if_false, hr.2.2.2.1, w1, hr.2.2.2.2, if_pos ii, ei', xlet]
      exact ⟨1, _, _, by simp only [F_X11_write, b1, Option.bind_some, n10, if_false, hS.1, if_true, p7, k35, n35, if_pos ij, ej, q1, xopt, hr.2.2.1, i1, st], by simp only [F_X12_write, b2, Option.bind_some, n10, if_false, if_pos ij, ej, if_pos h0, q6, i2, w2, r_ix40, if_pos (n_xIn (show 40 * j + i < 160 by omega) (show 160 < 2147483648 by decide)), ei, xlet], hR.wsh hj q1 hr hi q5 w⟩
/-! sheet -/
theorem r_zero {j : Nat} (hj : j < 4) : ∀ m i n u, i + m = 40 → m < n → ∃ u', F_X12_sheet_l69 n u (nI j) (nI i) = some (1, u') ∧ u'.1 = u.1 ∧ (∀ k, k ≠ 27 → u'.2.1 k = u.2.1 k) ∧ ∀ q, u'.2.1 27 q = if 40 * j + i ≤ q ∧ q < 40 * j + 40 then 0 else u.2.1 27 q
  | _, _, 0, _, _, h => absurd h (Nat.not_lt_zero _)
  | 0, i, n + 1, u, hi, _ => by
    have hi : i = 40 := by omega
    subst hi
    exact ⟨u, by unfold F_X12_sheet_l69; rw [if_pos (by decide)], rfl, fun _ _ => rfl, fun q => by rw [if_neg (by omega)]⟩
  | m + 1, i, n + 1, u, hi, hm => by
    have ei : (nI (40 * j + i)).toNatClampNeg = 40 * j + i := n_cl (by omega)
    obtain ⟨u', h1, h2, h3, h4⟩ := r_zero hj m (i + 1) n (mA u 27 (40 * j + i) 0) (by omega) (by omega)
    have c27 : ∀ q, (mA u 27 (40 * j + i) 0).2.1 27 q = if q = 40 * j + i then 0 else u.2.1 27 q := fun q => rfl
    refine ⟨u', ?_, h2, fun k hk => ?_, fun q => ?_⟩
    · unfold F_X12_sheet_l69
      rw [if_neg (show ¬ (40 : Int32) ≤ nI i from nI_ge (a := i) (b := 40) (by omega) (by decide)), r_ix40, if_pos (n_xIn (show 40 * j + i < 160 by omega) (by decide)), ei]
      show F_X12_sheet_l69 n (mA u 27 (40 * j + i) 0) (nI j) (nI i + 1) = _
      rw [nI_1]; exact h1
    · rw [h3 k hk]; show (if k = 27 then _ else _) = _; rw [if_neg hk]
    · rw [h4 q, c27 q]
      by_cases c : q = 40 * j + i
      · rw [if_neg (by omega), if_pos c, if_pos (by omega)]
      · by_cases d : 40 * j + (i + 1) ≤ q ∧ q < 40 * j + 40
        · rw [if_pos d, if_pos (by omega)]
        · rw [if_neg d, if_neg c, if_neg (by omega)]
/-- the reference's sheet, once the numbers are good -/
theorem r_sheet {u : xS} {j : Nat} (hj : j < 4) (so z : Int32) : ∃ u', F_X12_sheet_j44 u (nI j) so z = some (1, u') ∧ u'.1 = u.1 ∧ (∀ k, k ≠ 25 → k ≠ 26 → k ≠ 27 → u'.2.1 k = u.2.1 k) ∧ u'.2.1 25 = upd (u.2.1 25) j so ∧ u'.2.1 26 = upd (u.2.1 26) j (if 0 ≤ so then z else 0) ∧ (∀ q, q < 40 * j ∨ 40 * j + 40 ≤ q → u'.2.1 27 q = u.2.1 27 q) ∧ ∀ q, 40 * j ≤ q → q < 40 * j + 40 → u'.2.1 27 q = 0 := by
  have ij : xIn (nI j) 4 := n_xIn hj (by decide)
  have ej : (nI j).toNatClampNeg = j := n_cl (by omega)
  have gen : ∀ w, ∃ u', F_X12_sheet_j65 (mA u 25 j so) (nI j) (nI j) w = some (1, u') ∧ u'.1 = u.1 ∧ (∀ k, k ≠ 25 → k ≠ 26 → k ≠ 27 → u'.2.1 k = u.2.1 k) ∧ u'.2.1 25 = upd (u.2.1 25) j so ∧ u'.2.1 26 = upd (u.2.1 26) j w ∧ (∀ q, q < 40 * j ∨ 40 * j + 40 ≤ q → u'.2.1 27 q = u.2.1 27 q) ∧ ∀ q, 40 * j ≤ q → q < 40 * j + 40 → u'.2.1 27 q = 0 := by
    intro w
    obtain ⟨u', h1, h2, h3, h4⟩ := r_zero hj 40 0 xFuel (mA (mA u 25 j so) 26 j w) (by omega) (xF_big (by omega))
    refine ⟨u', ?_, h2, fun k k1 k2 k3 => ?_, ?_, ?_, fun q hq => ?_, fun q q1 q2 => by rw [h4 q, if_pos (by omega)]⟩
    · simp only [F_X12_sheet_j65, if_pos ij, ej, xlet]; exact h1
    · rw [h3 k k3]; show (if k = 26 then _ else if k = 25 then _ else _) = _; rw [if_neg k2, if_neg k1]
    · rw [h3 25 (by decide)]; rfl
    · rw [h3 26 (by decide)]; rfl
    · rw [h4 q, if_neg (by omega)]; rfl
  by_cases c : 0 ≤ so
  · obtain ⟨u', h⟩ := gen z
    refine ⟨u', ?_, ?_⟩
    · simp only [F_X12_sheet_j44, if_pos ij, ej, xlet, if_pos c]; exact h.1
    · rw [if_pos c]; exact h.2
  · obtain ⟨u', h⟩ := gen 0
    refine ⟨u', ?_, ?_⟩
    · simp only [F_X12_sheet_j44, if_pos ij, ej, xlet, if_neg c]; exact h.1
    · rw [if_neg c]; exact h.2
theorem RR.sheet {t t' : xT} {a : Nat} {u u' : xS} (h : RR t a u) {j : Nat} (hj : j < 4) (o : Ol t t' (fun _ => False) (fun q => q = a + 35)) {w : Option Nat} (hP : tP t' (a + 35) = va_up (tP t (a + 35)) j w) (hw : ∀ r, w = some r → t.1 ≤ r) (hn : ShO t' a u' j) (e1 : u'.1 = u.1) (e2 : ∀ k, k ≠ 25 → k ≠ 26 → k ≠ 27 → u'.2.1 k = u.2.1 k) (e25 : ∀ i, i ≠ j → u'.2.1 25 i = u.2.1 25 i) (e26 : ∀ i, i ≠ j → u'.2.1 26 i = u.2.1 26 i) (e27 : ∀ q, q < 40 * j ∨ 40 * j + 40 ≤ q → u'.2.1 27 q = u.2.1 27 q) : RR t' a u' := by
  obtain ⟨hS, hTp, hRw, hSh, hSf, hTr, -⟩ := h.more
  have hl := hS.lt
  have ea : tI t' a = tI t a := o.2.2.1 a (by omega) id
  have hPn : ∀ i, i ≠ j → tP t' (a + 35) i = tP t (a + 35) i := fun i hi => by rw [hP, va_up_ne _ _ hi]
  have hPs : tP t' (a + 35) j = w := by rw [hP, va_up_self]
  refine h.own o (fun _ h => h.elim) (fun q hq => by omega) (by rw [ea]) (e2 0 (by decide) (by decide) (by decide)) (e2 1 (by decide) (by decide) (by decide)) (by rw [e1]) (hTp.ol o hl (by rw [ea]) id (e2 17 (by decide) (by decide) (by decide)) (by rw [e1])) (hRw.ol o hl (by rw [ea]) id (e2 15 (by decide) (by decide) (by decide)) (by rw [e1])) ⟨fun i hi => ?_, fun i k r hi hk hne h1 => ?_⟩ (hSf.ol o hl id (by omega) (fun r hr => ⟨id, by have := hr.1; omega⟩) (e2 28 (by decide) (by decide) (by decide)) (e2 29 (by decide) (by decide) (by decide)) (e2 30 (by decide) (by decide) (by decide))) (hTr.ol o hl id id (e2 31 (by decide) (by decide) (by decide)) (by rw [e1]))
  · by_cases c : i = j
    · subst c; exact hn
    · exact (hSh.1 i hi).ol o (hPn i c) (fun r _ hr => ⟨id, id, by have := hr.1; omega⟩) (e25 i c) (e26 i c) (fun q hq => e27 _ (by omega))
  · have old : ∀ i r, i < 4 → tP t (a + 35) i = some r → r < t.1 := by
      intro i r hi hr
      rcases hSh.1 i hi with ⟨g, -⟩ | ⟨r', g, hr', -⟩
      · rw [hr] at g; cases g
      · rw [hr] at g; cases g; have := hr'.2.1; omega
    by_cases c : i = j
    · subst c
      rw [hPs] at h1
      rw [hPn k (fun e => hne e.symm)]
      intro h2
      have := hw r h1
      have := old k r hk h2
      omega
    · rw [hPn i c] at h1
      by_cases d : k = j
      · subst d
        rw [hPs]; intro h2
        have := hw r h2
        have := old i r hi h1
        omega
      · rw [hPn k d]; exact hSh.2 i k r hi hk hne h1
theorem st_sheet : sT_sheet RR := by
  intro t a u z0 z1 z2 hR
  obtain ⟨hS, -, -, hSh, -⟩ := hR.more
  have hl := hS.lt
  obtain ⟨p7, k35, n35, -⟩ := sk_sh hS
  rcases d_one z0 with ⟨b1, b2⟩ | ⟨j, hj, rfl, b1, b2⟩
  · exact ⟨-1, t, u, by simp only [F_X11_sheet, F_X11_sheet_j18, b1, Option.bind_some, if_true], by simp only [F_X12_sheet, F_X12_sheet_j31, b2, Option.bind_some, if_true], hR⟩
  rcases d_in z1 (-1) 4 (A := -1) (B := 4) rfl rfl with ⟨s1, s2, -⟩ | ⟨s1, s2, s3, s4⟩
  · exact ⟨-1, t, u, by simp only [F_X11_sheet, F_X11_sheet_j18, b1, s1, Option.bind_some, if_true, n10, if_false], by simp only [F_X12_sheet, F_X12_sheet_j31, b2, s2, Option.bind_some, if_true, n10, if_false], hR⟩
  have ij : xIn (nI j) 4 := n_xIn hj (by decide)
  have ej : (nI j).toNatClampNeg = j := n_cl (by omega)
  change (-1 : Int) ≤ z1.toInt at s3
  change z1.toInt ≤ (4 : Int) at s4
  by_cases c : z1 = -1
  · subst c
    have g : ∃ u', F_X12_sheet_j44 u (nI j) (-1) z2 = some (1, u') ∧ u'.1 = u.1 ∧ (∀ k, k ≠ 25 → k ≠ 26 → k ≠ 27 → u'.2.1 k = u.2.1 k) ∧ u'.2.1 25 = upd (u.2.1 25) j (-1) ∧ u'.2.1 26 = upd (u.2.1 26) j 0 ∧ (∀ q, q < 40 * j ∨ 40 * j + 40 ≤ q → u'.2.1 27 q = u.2.1 27 q) := by
      obtain ⟨u', h1, h2, h3, h4, h5, h6, -⟩ := r_sheet (u := u) hj (-1) z2
      rw [if_neg (by decide)] at h5
      exact ⟨u', h1, h2, h3, h4, h5, h6⟩
    obtain ⟨u', h1, h2, h3, h4, h5, h6⟩ := g
    refine ⟨1, tSP t (a + 35) j none, u', by simp only [F_X11_sheet, b1, s1, Option.bind_some, n10, if_false, if_true, hS.1, p7, k35, n35, if_pos ij, ej, xlet], ?_, ?_⟩
    · simp only [F_X12_sheet, F_X12_sheet_j33, b2, s2, Option.bind_some, n10, if_false, if_pos (show (-1 : Int32) < 0 by decide)]; exact h1
    · refine hR.sheet hj (w := none) (Ol.SP _ _ _ rfl) (tP_SP _ _ _ _) (fun r h => by cases h) (Or.inl ⟨by rw [tP_SP, va_up_self], by rw [h4, upd_s]⟩) h2 h3 (fun i hi => by rw [h4, upd_n _ _ hi]) (fun i hi => by rw [h5, upd_n _ _ hi]) h6
  have z0' : 0 ≤ z1.toInt := by
    have : z1.toInt ≠ -1 := fun e => c (Int32.toInt_inj.1 e)
    omega
  have zl : ¬ z1 < 0 := by rw [fa_lt]; show ¬ z1.toInt < 0; omega
  have zp : (0 : Int32) ≤ z1 := by rw [fa_le]; exact z0'
  by_cases c40 : z2 ≤ 40
  · by_cases c0 : 0 ≤ z2
    · obtain ⟨N, hN, rfl⟩ := nI_of2 (x := z2) (M := 40) (n := 40) rfl (by rw [fa_lt]; rw [fa_le] at c0; omega) c40
      obtain ⟨u', h1, h2, h3, h4, h5, h6, h7⟩ := r_sheet (u := u) hj z1 (nI N)
      rw [if_pos zp] at h5
      have q40 : ¬ (40 : Int32) < nI N := nI_nlt (a := 40) (b := N) (by omega) (by decide)
      have eN : (nI N).toNatClampNeg = N := n_cl (by omega)
      have mx : (if (0 : Int32) < nI N then nI N else 0) = nI N := by
        by_cases d : N = 0
        · subst d; rfl
        · rw [if_pos (show (0 : Int32) < nI N from nI_lt (a := 0) (b := N) (by omega) (by omega))]
      have e18 : tK (tNew (tSI (tNew t 8 0) t.1 0 z1) 20 N) t.1 = 8 := by
        rw [tK_Nn _ _ _ (show t.1 ≠ (tSI (tNew t 8 0) t.1 0 z1).1 from Nat.ne_of_lt (Nat.lt_succ_self _)), tK_SI, tK_N]
      refine ⟨1, tSP (tSP (tNew (tSI (tNew t 8 0) t.1 0 z1) 20 N) t.1 1 (some (t.1 + 1))) (a + 35) j (some t.1), u', ?_, ?_, ?_⟩
      · have e35 : tK (tSP (tNew (tSI (tNew t 8 0) t.1 0 z1) 20 N) t.1 1 (some (t.1 + 1))) (a + 35) = 23 := by
          rw [tK_SP, tK_Nn _ _ _ (show a + 35 ≠ (tSI (tNew t 8 0) t.1 0 z1).1 from by show a + 35 ≠ t.1 + 1; omega), tK_SI, tK_Nn _ _ _ (by omega)]; exact k35
        have f35 : tN (tSP (tNew (tSI (tNew t 8 0) t.1 0 z1) 20 N) t.1 1 (some (t.1 + 1))) (a + 35) = 4 := by
          rw [tN_SP, tN_Nn _ _ _ (show a + 35 ≠ (tSI (tNew t 8 0) t.1 0 z1).1 from by show a + 35 ≠ t.1 + 1; omega), tN_SI, tN_Nn _ _ _ (by omega)]; exact n35
        have e8 : tK (tNew t 8 0) t.1 = 8 := tK_N _ _ _
        have init : F_X8_init (tNew t 8 0) t.1 z1 (nI N) = some (tSP (tNew (tSI (tNew t 8 0) t.1 0 z1) 20 N) t.1 1 (some (t.1 + 1))) := by
          simp only [F_X8_init, e8, if_true, xlet, if_neg q40, mx, eN, if_pos (show ¬ nI N < 0 ∧ N ≤ 40 from ⟨nI_pos (by omega), hN⟩), e18]; rfl
        have e8' : tK (tSP (tNew (tSI (tNew t 8 0) t.1 0 z1) 20 N) t.1 1 (some (t.1 + 1))) t.1 = 8 := e18
        simp only [F_X11_sheet, b1, s1, Option.bind_some, n10, if_false, if_neg c, if_pos c40, if_pos c0, hS.1, if_true, p7, xlet, init, e35, f35, e8', if_pos ij, ej]
      · simp only [F_X12_sheet, F_X12_sheet_j33, b2, s2, Option.bind_some, n10, if_false, if_neg zl, if_pos c40, if_pos c0]; exact h1
      · have n1 : t.1 ≠ a + 35 := by omega
        have n2 : t.1 + 1 ≠ a + 35 := by omega
        have o : Ol t (tSP (tSP (tNew (tSI (tNew t 8 0) t.1 0 z1) 20 N) t.1 1 (some (t.1 + 1))) (a + 35) j (some t.1)) (fun _ => False) (fun q => q = a + 35) :=
          ((((Ol.N t 8 0).tr2 (Ol.SI (X := fun q => q = t.1) (Y := fun _ => False) _ _ _ rfl) (fun q q1 q2 => by omega) (fun _ _ h => h.elim)).tr (Ol.N _ 20 N)).tr2 (Ol.SP (X := fun _ => False) (Y := fun q => q = t.1) _ _ _ rfl) (fun _ _ h => h.elim) (fun q q1 q2 => by omega)).tr (Ol.SP _ _ _ rfl)
        refine hR.sheet hj (w := some t.1) o ?_ (fun r h => by cases h; exact Nat.le_refl _) (Or.inr ⟨t.1, ?_, ⟨hl, ?_, e18, ?_, ?_⟩, ?_, ?_, ?_, ?_, ?_⟩) h2 h3 (fun i hi => by rw [h4, upd_n _ _ hi]) (fun i hi => by rw [h5, upd_n _ _ hi]) h6
        · rw [tP_SP, tP_SPn _ _ _ _ (Ne.symm n1), tP_Nn _ _ _ (show a + 35 ≠ (tSI (tNew t 8 0) t.1 0 z1).1 from by show a + 35 ≠ t.1 + 1; omega), tP_SI, tP_Nn _ _ _ (by omega)]
        · rw [tP_SP, va_up_self]
        · show t.1 + 1 < t.1 + 1 + 1; omega
        · rw [tP_SPn _ _ _ _ n1, tP_SP, va_up_self]
        · show tK (tNew (tSI (tNew t 8 0) t.1 0 z1) 20 N) ((tSI (tNew t 8 0) t.1 0 z1).1) = 20
          rw [tK_N]
        · rw [h4, upd_s, tI_SP, tI_SP, tI_Nn _ _ _ (show t.1 ≠ (tSI (tNew t 8 0) t.1 0 z1).1 from Nat.ne_of_lt (Nat.lt_succ_self _)), tI_SI, upd_s]
        · rw [h4, upd_s]; exact ⟨z0', s4⟩
        · show tN (tNew (tSI (tNew t 8 0) t.1 0 z1) 20 N) ((tSI (tNew t 8 0) t.1 0 z1).1) ≤ 40
          rw [tN_N]; exact hN
        · rw [h5, upd_s]
          show _ = nI (tN (tNew (tSI (tNew t 8 0) t.1 0 z1) 20 N) ((tSI (tNew t 8 0) t.1 0 z1).1))
          rw [tN_N]
        · intro i hi
          have hi : i < tN (tNew (tSI (tNew t 8 0) t.1 0 z1) 20 N) ((tSI (tNew t 8 0) t.1 0 z1).1) := hi
          rw [tN_N] at hi
          rw [h7 _ (by omega) (by omega)]
          show tI (tNew (tSI (tNew t 8 0) t.1 0 z1) 20 N) ((tSI (tNew t 8 0) t.1 0 z1).1) i = 0
          rw [tI_N]
    · exact ⟨-14, t, u, by simp only [F_X11_sheet, b1, s1, Option.bind_some, n10, if_false, if_neg c, if_pos c40, if_neg c0], by simp only [F_X12_sheet, F_X12_sheet_j33, b2, s2, Option.bind_some, n10, if_false, if_neg zl, if_pos c40, if_neg c0], hR⟩
  · exact ⟨-1, t, u, by simp only [F_X11_sheet, b1, s1, Option.bind_some, n10, if_false, if_neg c, if_neg c40], by simp only [F_X12_sheet, F_X12_sheet_j31, b2, s2, Option.bind_some, n10, if_false, if_neg zl, if_neg c40], hR⟩
