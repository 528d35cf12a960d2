/-! ===== pure mathematics 10: rate, swap, bridgeOf, ever, same, few, meet and the plain readers ===== -/
theorem r_b {u : xS} {k : Nat} {s : Nat → Int32} {ls : yLS} (x : Int32) (hu : u.2.1 0 = s) (hI : Iv s) (hL : LwS ls s) (hk : k < nB s) : ∃ u', F_X12_becomes u (nI k) x.toInt64 = some (gS ls s k x, u') ∧ Cr u' = Cr u ∧ u'.2.1 0 = s := by
  obtain ⟨g, h⟩ := r_b32 (x := x) hu hI hL hk
  exact ⟨_, h, rfl, hu⟩
theorem gS_rng (ls : yLS) (s : Nat → Int32) (k : Nat) (x : Int32) : -1 ≤ (gS ls s k x).toInt ∧ (gS ls s k x).toInt ≤ 1000000000 := gB_rng _ _ _ _ _
theorem n_sum {x y : Int32} (h1 : -2147483648 ≤ x.toInt + y.toInt) (h2 : x.toInt + y.toInt < 2147483648) : (x + y).toInt64.toInt = x.toInt + y.toInt := by
  rw [Int32.toInt_toInt64, fb_addI h1 h2]
theorem n_ge0L (x : Int32) : ((0 : Int64) ≤ x.toInt64) = (0 ≤ x) := by
  rw [fa_le64, Int32.toInt_toInt64, fa_le]; rfl
theorem n_ne0L {x : Int32} (h : 1 ≤ x.toInt) : ¬ x.toInt64 = 0 := by
  intro e
  have := congrArg Int64.toInt e
  rw [Int32.toInt_toInt64] at this
  have : x.toInt = 0 := this
  omega
theorem st_rate : sT_rate RR := by
  intro t a u z0 z1 z2 hR
  obtain ⟨B, ls, hk, hp, hk1, hS, hI, hRd, hL, hBg, hSt⟩ := hR.rd
  rcases d_br hS hI hRd hBg z0 with ⟨b1, b2⟩ | ⟨k, hk9, k9, rfl, b1, b2, hBk, hbk⟩
  · exact ⟨-1, u, by simp [F_X11_rate, F_X11_rate_j35, hk, hp, hk1, b1, xopt], by simp [F_X12_rate, F_X12_rate_j32, b2], hR⟩
  rcases d_in z1 0 99999 (A := 0) (B := 99999) rfl rfl with ⟨p1, p2, -⟩ | ⟨p1, p2, p3, p4⟩
  · exact ⟨-1, u, by simp [F_X11_rate, F_X11_rate_j35, hk, hp, hk1, b1, xopt, p1], by simp [F_X12_rate, F_X12_rate_j32, b2, p2], hR⟩
  rcases d_in z2 1 99999 (A := 1) (B := 99999) rfl rfl with ⟨n1, n2, -⟩ | ⟨n1, n2, n3, n4⟩
  · exact ⟨-1, u, by simp [F_X11_rate, F_X11_rate_j35, hk, hp, hk1, b1, xopt, p1, n1], by simp [F_X12_rate, F_X12_rate_j32, b2, p2, n2], hR⟩
  have n3 : 1 ≤ z2.toInt := n3
  have hc := fun x => c_bS (x := x) hI hL hBk hSt hk9
  obtain ⟨u1, a1, e1, f1⟩ := r_b z1 rfl hI hL hk9
  obtain ⟨u2, a2, e2, f2⟩ := r_b (z1 + z2) f1 hI hL hk9
  by_cases c : 0 ≤ gS ls (u.2.1 0) k z1
  · refine ⟨((((((gS ls (u.2.1 0) k (z1 + z2)).toInt64 - (gS ls (u.2.1 0) k z1).toInt64) - z2.toInt64) * (100 : Int64)) / z2.toInt64).toInt32) + (1000 : Int32), u2, ?_, ?_, hR.scr (e2.trans e1)⟩
    · simp only [F_X11_rate, F_X11_rate_j35, hk, hp, hk1, b1, xopt, p1, n1, hc, Option.bind_some, if_true, n10, if_false, if_pos hbk, lg_cmp_ge, n_ge0L, if_pos c, if_pos (n_ne0L n3)]
    · simp only [F_X12_rate, F_X12_rate_j32, b2, p2, n2, a1, a2, Option.bind_some, n10, if_false, if_pos c, if_pos (n_ne0L n3), xlet]
  · refine ⟨-3, u1, ?_, ?_, hR.scr e1⟩
    · simp only [F_X11_rate, F_X11_rate_j35, hk, hp, hk1, b1, xopt, p1, n1, hc, Option.bind_some, if_true, n10, if_false, if_pos hbk, lg_cmp_ge, n_ge0L, if_neg c]
    · simp only [F_X12_rate, F_X12_rate_j32, b2, p2, n2, a1, Option.bind_some, n10, if_false, if_neg c]
theorem gS_neg {ls : yLS} {s : Nat → Int32} {k : Nat} {x : Int32} (h : ¬ 0 ≤ x) : gS ls s k x = -1 := by
  have h : ¬ 0 ≤ x.toInt := by rw [fa_le] at h; exact h
  unfold gS gB gI zb
  rw [if_pos (Or.inr (by omega))]; rfl
theorem r_both {u : xS} {j k : Nat} {s : Nat → Int32} {ls : yLS} (x : Int32) (hu : u.2.1 0 = s) (hI : Iv s) (hL : LwS ls s) (hj : j < nB s) (hk : k < nB s) : ∃ u', F_X12_both u (nI j) (nI k) x = some (gS ls s k (gS ls s j x), u') ∧ Cr u' = Cr u ∧ u'.2.1 0 = s := by
  obtain ⟨u1, a1, e1, f1⟩ := r_b x hu hI hL hj
  obtain ⟨u2, a2, e2, f2⟩ := r_b (gS ls s j x) f1 hI hL hk
  by_cases c : 0 ≤ gS ls s j x
  · exact ⟨u2, by simp only [F_X12_both, F_X12_both_j26, a1, a2, Option.bind_some, if_pos c], e2.trans e1, f2⟩
  · exact ⟨u1, by simp only [F_X12_both, F_X12_both_j26, a1, Option.bind_some, if_neg c, gS_neg c], e1, f1⟩
theorem n_inj {j k : Nat} (hj : j < 9) (hk : k < 9) : (nI j = nI k) = (j = k) := propext (nI_eq (by omega) (by omega))
theorem st_swap : sT_swap RR := by
  intro t a u z0 z1 z2 hR
  obtain ⟨B, ls, hk, hp, hk1, hS, hI, hRd, hL, hBg, hSt⟩ := hR.rd
  rcases d_br hS hI hRd hBg z0 with ⟨b1, b2⟩ | ⟨j, hj9, j9, rfl, b1, b2, hBj, hbj⟩
  · rcases d_br hS hI hRd hBg z1 with ⟨c1, c2⟩ | ⟨k, hk9, k9, rfl, c1, c2, hBk, hbk⟩
    · exact ⟨-1, u, by simp [F_X11_swap, F_X11_swap_j42, hk, hp, hk1, b1, c1, xopt], by simp [F_X12_swap, F_X12_swap_j29, b2], hR⟩
    · exact ⟨-1, u, by simp [F_X11_swap, F_X11_swap_j42, hk, hp, hk1, b1, c1, xopt], by simp [F_X12_swap, F_X12_swap_j29, b2], hR⟩
  rcases d_br hS hI hRd hBg z1 with ⟨c1, c2⟩ | ⟨k, hk9, k9, rfl, c1, c2, hBk, hbk⟩
  · exact ⟨-1, u, by simp [F_X11_swap, F_X11_swap_j42, hk, hp, hk1, b1, c1, xopt], by simp [F_X12_swap, F_X12_swap_j29, b2, c2], hR⟩
  by_cases e : nI j = nI k
  · exact ⟨-1, u, by simp only [F_X11_swap, F_X11_swap_j42, hk, hp, hk1, b1, c1, xopt, if_true, Option.bind_some, if_pos e], by simp only [F_X12_swap, F_X12_swap_j29, b2, c2, Option.bind_some, n10, if_false, if_pos e], hR⟩
  rcases d_purse z2 with ⟨p1, p2⟩ | ⟨p1, p2, p3, p4⟩
  · exact ⟨-1, u, by simp only [F_X11_swap, F_X11_swap_j42, hk, hp, hk1, b1, c1, xopt, if_true, Option.bind_some, if_neg e, p1], by simp only [F_X12_swap, F_X12_swap_j29, b2, c2, Option.bind_some, n10, if_false, if_neg e, p2, if_true], hR⟩
  have hcj := fun x => c_bS (x := x) hI hL hBj hSt hj9
  have hck := fun x => c_bS (x := x) hI hL hBk hSt hk9
  obtain ⟨u1, a1, e1, f1⟩ := r_both z2 rfl hI hL hj9 hk9
  obtain ⟨u2, a2, e2, f2⟩ := r_both z2 f1 hI hL hk9 hj9
  refine ⟨if gS ls (u.2.1 0) k (gS ls (u.2.1 0) j z2) = gS ls (u.2.1 0) j (gS ls (u.2.1 0) k z2) then 0 else if gS ls (u.2.1 0) k (gS ls (u.2.1 0) j z2) ≤ gS ls (u.2.1 0) j (gS ls (u.2.1 0) k z2) then 2 else 1, u2, ?_, ?_, hR.scr (e2.trans e1)⟩
  · simp only [F_X11_swap, F_X11_swap_j42, F_X11_swap_j91, hk, hp, hk1, b1, c1, xopt, if_true, Option.bind_some, if_neg e, p1, n10, if_false, if_pos hbj, if_pos hbk, hcj, hck]
    split
    · rfl
    · split <;> rfl
  · simp only [F_X12_swap, F_X12_swap_j29, F_X12_swap_j72, b2, c2, Option.bind_some, n10, if_false, if_neg e, p2, a1, a2]
    generalize gS ls (u.2.1 0) k (gS ls (u.2.1 0) j z2) = v
    generalize gS ls (u.2.1 0) j (gS ls (u.2.1 0) k z2) = w
    by_cases g1 : v ≤ w
    · rw [if_pos g1]
      by_cases g2 : w ≤ v
      · have : v = w := by rw [fa_eq]; rw [fa_le] at g1 g2; omega
        rw [if_pos g2, if_pos this]
      · have : ¬ v = w := fun h => g2 (by rw [h, fa_le]; omega)
        rw [if_neg g2, if_neg this, if_pos g1]
    · have : ¬ v = w := fun h => g1 (by rw [h, fa_le]; omega)
      rw [if_neg g1, if_neg this, if_neg g1]
theorem lp_ever {t : xT} {a p k : Nat} {s : Nat → Int32} {ls : yLS} (hI : Iv s) (hL : LwS ls s) (hk : k < nB s) (hb : isBk (tK t p)) (hc : ∀ x, F_X0_becomes t p x = some (gS ls s k x)) : ∀ m i n u, i + m = 10000 → m < n → u.2.1 0 = s → ∃ v u', F_X11_ever_l17 n t a p (nI i) = some v ∧ F_X12_ever_l12 n u (nI k) (nI i) = some (v, u') ∧ Cr u' = Cr u
  | _, _, 0, _, _, h, _ => absurd h (Nat.not_lt_zero _)
  | 0, i, n + 1, u, hi, _, hu => by
    have hi : i = 10000 := by omega
    subst hi
    refine ⟨-3, u, ?_, ?_, rfl⟩
    · unfold F_X11_ever_l17; rw [if_pos (by decide)]
    · unfold F_X12_ever_l12 F_X12_ever_j36 F_X12_ever_j49; rw [if_pos (by decide), if_neg (by decide)]
  | m + 1, i, n + 1, u, hi, hm, hu => by
    obtain ⟨u1, a1, e1, f1⟩ := r_b (nI i) hu hI hL hk
    have g1 : ¬ (9999 : Int32) < nI i := nI_nlt (a := 9999) (b := i) (by omega) (by decide)
    have g2 : ¬ (10000 : Int32) ≤ nI i := nI_ge (a := i) (b := 10000) (by omega) (by decide)
    have g3 : nI i ≤ (9999 : Int32) := nI_le (a := i) (b := 9999) (by omega) (by decide)
    unfold F_X11_ever_l17 F_X12_ever_l12 F_X12_ever_j36 F_X12_ever_j49
    rw [if_neg g1, if_neg g2, if_pos hb, hc, a1, Option.bind_some, Option.bind_some]
    by_cases c : gS ls s k (nI i) < nI i
    · have c' : ¬ nI i ≤ gS ls s k (nI i) := by rw [fa_lt] at c; rw [fa_le]; omega
      obtain ⟨v, u', h1, h2, h3⟩ := lp_ever hI hL hk hb hc m (i + 1) n u1 (by omega) (by omega) f1
      refine ⟨v, u', ?_, ?_, h3.trans e1⟩
      · rw [if_pos c]; show F_X11_ever_l17 n t a p (nI i + 1) = _; rw [nI_1]; exact h1
      · show (if nI i ≤ gS ls s k (nI i) then _ else _) = _
        rw [if_neg c']; show F_X12_ever_l12 n u1 (nI k) (nI i + 1) = _; rw [nI_1]; exact h2
    · have c' : nI i ≤ gS ls s k (nI i) := by rw [fa_lt] at c; rw [fa_le]; omega
      refine ⟨nI i, u1, by rw [if_neg c], ?_, e1⟩
      show (if nI i ≤ gS ls s k (nI i) then _ else _) = _
      rw [if_pos c', if_pos g3]
theorem st_ever : sT_ever RR := by
  intro t a u z0 hR
  obtain ⟨B, ls, hk, hp, hk1, hS, hI, hRd, hL, hBg, hSt⟩ := hR.rd
  rcases d_br hS hI hRd hBg z0 with ⟨b1, b2⟩ | ⟨k, hk9, k9, rfl, b1, b2, hBk, hbk⟩
  · exact ⟨-1, u, by simp [F_X11_ever, hk, hp, hk1, b1, xopt], by simp [F_X12_ever, b2], hR⟩
  obtain ⟨v, u', h1, h2, h3⟩ := lp_ever (a := a) hI hL hk9 hbk (fun x => c_bS (x := x) hI hL hBk hSt hk9) 10000 0 xFuel u (by omega) (xF_big (by omega)) rfl
  exact ⟨v, u', by simp only [F_X11_ever, hk, hp, hk1, b1, xopt, if_true, Option.bind_some]; exact h1, by simp only [F_X12_ever, b2, Option.bind_some, n10, if_false]; exact h2, hR.scr h3⟩
theorem lp_same {t : xT} {a p k : Nat} {s : Nat → Int32} {ls : yLS} (hI : Iv s) (hL : LwS ls s) (hk : k < nB s) (hb : isBk (tK t p)) (hc : ∀ x, F_X0_becomes t p x = some (gS ls s k x)) : ∀ m i n u, i + m = 10000 → m < n → u.2.1 0 = s → ∃ v u', F_X11_same_l17 n t a p (nI i) = some v ∧ F_X12_same_l12 n u (nI k) (nI i) = some (v, u') ∧ Cr u' = Cr u
  | _, _, 0, _, _, h, _ => absurd h (Nat.not_lt_zero _)
  | 0, i, n + 1, u, hi, _, hu => by
    have hi : i = 10000 := by omega
    subst hi
    refine ⟨-3, u, ?_, ?_, rfl⟩
    · unfold F_X11_same_l17; rw [if_pos (by decide)]
    · unfold F_X12_same_l12 F_X12_same_j36 F_X12_same_j49; rw [if_pos (by decide), if_neg (by decide)]
  | m + 1, i, n + 1, u, hi, hm, hu => by
    obtain ⟨u1, a1, e1, f1⟩ := r_b (nI i) hu hI hL hk
    have g1 : ¬ (9999 : Int32) < nI i := nI_nlt (a := 9999) (b := i) (by omega) (by decide)
    have g2 : ¬ (10000 : Int32) ≤ nI i := nI_ge (a := i) (b := 10000) (by omega) (by decide)
    have g3 : nI i ≤ (9999 : Int32) := nI_le (a := i) (b := 9999) (by omega) (by decide)
    unfold F_X11_same_l17 F_X12_same_l12 F_X12_same_j36 F_X12_same_j49
    rw [if_neg g1, if_neg g2, if_pos hb, hc, a1, Option.bind_some, Option.bind_some]
    show ∃ v u', (if gS ls s k (nI i) = nI i then _ else _) = some v ∧ (if gS ls s k (nI i) = nI i then _ else _) = some (v, u') ∧ _
    by_cases c : gS ls s k (nI i) = nI i
    · exact ⟨nI i, u1, by rw [if_pos c], by rw [if_pos c, if_pos g3], e1⟩
    · obtain ⟨v, u', h1, h2, h3⟩ := lp_same hI hL hk hb hc m (i + 1) n u1 (by omega) (by omega) f1
      refine ⟨v, u', ?_, ?_, h3.trans e1⟩
      · rw [if_neg c]; show F_X11_same_l17 n t a p (nI i + 1) = _; rw [nI_1]; exact h1
      · rw [if_neg c]; show F_X12_same_l12 n u1 (nI k) (nI i + 1) = _; rw [nI_1]; exact h2
theorem st_same : sT_same RR := by
  intro t a u z0 hR
  obtain ⟨B, ls, hk, hp, hk1, hS, hI, hRd, hL, hBg, hSt⟩ := hR.rd
  rcases d_br hS hI hRd hBg z0 with ⟨b1, b2⟩ | ⟨k, hk9, k9, rfl, b1, b2, hBk, hbk⟩
  · exact ⟨-1, u, by simp [F_X11_same, hk, hp, hk1, b1, xopt], by simp [F_X12_same, b2], hR⟩
  obtain ⟨v, u', h1, h2, h3⟩ := lp_same (a := a) hI hL hk9 hbk (fun x => c_bS (x := x) hI hL hBk hSt hk9) 10000 0 xFuel u (by omega) (xF_big (by omega)) rfl
  exact ⟨v, u', by simp only [F_X11_same, hk, hp, hk1, b1, xopt, if_true, Option.bind_some]; exact h1, by simp only [F_X12_same, b2, Option.bind_some, n10, if_false]; exact h2, hR.scr h3⟩
theorem lp_few {t : xT} {a p k : Nat} {goal : Int32} {s : Nat → Int32} {ls : yLS} (hI : Iv s) (hL : LwS ls s) (hk : k < nB s) (hb : isBk (tK t p)) (hc : ∀ x, F_X0_becomes t p x = some (gS ls s k x)) : ∀ m i n u x, i + m = 61 → m < n → u.2.1 0 = s → ∃ v u', F_X11_few_l37 n t a goal p x (nI i) = some v ∧ F_X12_few_l32 n u (nI k) goal (nI i) x = some (v, u') ∧ Cr u' = Cr u
  | _, _, 0, _, _, _, h, _ => absurd h (Nat.not_lt_zero _)
  | 0, i, n + 1, u, x, hi, _, hu => by
    have hi : i = 61 := by omega
    subst hi
    refine ⟨-3, u, ?_, ?_, rfl⟩
    · unfold F_X11_few_l37 F_X11_few_j73; rw [if_pos (by decide)]
    · unfold F_X12_few_l32 F_X12_few_j66 F_X12_few_j78 F_X12_few_j85; rw [if_pos (by decide), if_pos (by decide)]
  | m + 1, i, n + 1, u, x, hi, hm, hu => by
    have g1 : ¬ (60 : Int32) < nI i := nI_nlt (a := 60) (b := i) (by omega) (by decide)
    have g2 : ¬ (61 : Int32) ≤ nI i := nI_ge (a := i) (b := 61) (by omega) (by decide)
    unfold F_X11_few_l37 F_X12_few_l32 F_X12_few_j66 F_X12_few_j78 F_X12_few_j85 F_X11_few_j73
    rw [if_neg g1, if_neg g2]
    by_cases c0 : x < 0
    · have c0' : ¬ 0 ≤ x := by rw [fa_lt] at c0; rw [fa_le]; omega
      exact ⟨-3, u, by rw [if_pos c0], by rw [if_pos c0, if_neg g1, if_neg c0'], rfl⟩
    · have c0' : 0 ≤ x := by rw [fa_lt] at c0; rw [fa_le]; omega
      rw [if_neg c0, if_neg c0]
      by_cases c : x < goal
      · have c' : ¬ goal ≤ x := by rw [fa_lt] at c; rw [fa_le]; omega
        obtain ⟨u1, a1, e1, f1⟩ := r_b x hu hI hL hk
        obtain ⟨v, u', h1, h2, h3⟩ := lp_few hI hL hk hb hc m (i + 1) n u1 (gS ls s k x) (by omega) (by omega) f1
        refine ⟨v, u', ?_, ?_, h3.trans e1⟩
        · rw [if_pos c, if_pos hb, hc]; show F_X11_few_l37 n t a goal p (gS ls s k x) (nI i + 1) = _; rw [nI_1]; exact h1
        · rw [if_neg c', a1]; show F_X12_few_l32 n u1 (nI k) goal (nI i + 1) (gS ls s k x) = _; rw [nI_1]; exact h2
      · have c' : goal ≤ x := by rw [fa_lt] at c; rw [fa_le]; omega
        exact ⟨nI i, u, by rw [if_neg c], by rw [if_pos c', if_neg g1, if_pos c0'], rfl⟩
theorem st_few : sT_few RR := by
  intro t a u z0 z1 z2 hR
  obtain ⟨B, ls, hk, hp, hk1, hS, hI, hRd, hL, hBg, hSt⟩ := hR.rd
  rcases d_br hS hI hRd hBg z0 with ⟨b1, b2⟩ | ⟨k, hk9, k9, rfl, b1, b2, hBk, hbk⟩
  · exact ⟨-1, u, by simp [F_X11_few, F_X11_few_j29, hk, hp, hk1, b1, xopt], by simp [F_X12_few, F_X12_few_j24, b2], hR⟩
  rcases d_purse z1 with ⟨p1, p2⟩ | ⟨p1, p2, p3, p4⟩
  · exact ⟨-1, u, by simp [F_X11_few, F_X11_few_j29, hk, hp, hk1, b1, xopt, p1], by simp [F_X12_few, F_X12_few_j24, b2, p2], hR⟩
  rcases d_purse z2 with ⟨n1, n2⟩ | ⟨n1, n2, n3, n4⟩
  · exact ⟨-1, u, by simp [F_X11_few, F_X11_few_j29, hk, hp, hk1, b1, xopt, p1, n1], by simp [F_X12_few, F_X12_few_j24, b2, p2, n2], hR⟩
  obtain ⟨v, u', h1, h2, h3⟩ := lp_few (a := a) (goal := z2) hI hL hk9 hbk (fun x => c_bS (x := x) hI hL hBk hSt hk9) 61 0 xFuel u z1 (by omega) (xF_big (by omega)) rfl
  exact ⟨v, u', by simp only [F_X11_few, hk, hp, hk1, b1, xopt, p1, n1, if_true, n10, if_false, Option.bind_some]; exact h1, by simp only [F_X12_few, b2, p2, n2, Option.bind_some, n10, if_false]; exact h2, hR.scr h3⟩
