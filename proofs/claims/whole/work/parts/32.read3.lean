/-! ===== pure mathematics 11: meet and the plain readers ===== -/
theorem pe_f {t : xT} {a : Nat} (hS : SkC t a) : tP t (a + 1) 4 = some (a + 12) ∧ tP t (a + 1) 5 = some (a + 13) ∧ tP t (a + 1) 6 = some (a + 14) ∧ tP t (a + 1) 8 = some (a + 15) ∧ tP t (a + 1) 9 = some (a + 16) ∧ ArO t (a + 12) 6 ∧ ArO t (a + 13) 6 ∧ ArO t (a + 14) 6 ∧ ArO t (a + 15) 6 ∧ ArO t (a + 16) 6 := by
  have h : Rd0 t (a + 1) := hS.2.2.2.2.2.2.2.2.2.2.2.2.1
  exact ⟨h.2.2.1, h.2.2.2.1, h.2.2.2.2.1, h.2.2.2.2.2.1, h.2.2.2.2.2.2.1, h.2.2.2.2.2.2.2.2⟩
theorem pe_v {t : xT} {a k : Nat} {s : Nat → Int32} (h : RdC t (a + 1) s) (hk : k < 6) : tI t (a + 12) (nI k).toNatClampNeg = s (41 + 3 * k) ∧ tI t (a + 13) (nI k).toNatClampNeg = s (41 + 3 * k + 1) ∧ tI t (a + 14) (nI k).toNatClampNeg = s (41 + 3 * k + 2) := by
  have e : (nI k).toNatClampNeg = k := n_cl (by omega)
  rw [e]; exact h.2.2.2.2.1 k hk
theorem told3 (u : xS) {k : Nat} (hk : k < 6) : F_X12_told u (nI k) 0 = some (u.2.1 0 (41 + 3 * k)) ∧ F_X12_told u (nI k) 1 = some (u.2.1 0 (41 + 3 * k + 1)) ∧ F_X12_told u (nI k) 2 = some (u.2.1 0 (41 + 3 * k + 2)) := ⟨n_told u (w := 0) (by omega), n_told u (w := 1) (by omega), n_told u (w := 2) (by omega)⟩
theorem lp_meet {t : xT} {a p q j k : Nat} {w : Int32} {s : Nat → Int32} {ls : yLS} (hI : Iv s) (hL : LwS ls s) (hj : j < nB s) (hk : k < nB s) (hbp : isBk (tK t p)) (hbq : isBk (tK t q)) (hcp : ∀ x, F_X0_becomes t p x = some (gS ls s j x)) (hcq : ∀ x, F_X0_becomes t q x = some (gS ls s k x)) : ∀ m i n u x y, i + m = 61 → m < n → u.2.1 0 = s → ∃ v u', F_X11_meet_l99 n t a p q x y w (nI i) = some v ∧ F_X12_meet_l73 n u (nI j) (nI k) x y w (nI i) = some (v, u') ∧ Cr u' = Cr u
  | _, _, 0, _, _, _, _, h, _ => absurd h (Nat.not_lt_zero _)
  | 0, i, n + 1, u, x, y, hi, _, hu => by
    have hi : i = 61 := by omega
    subst hi
    refine ⟨-3, u, ?_, ?_, rfl⟩
    · unfold F_X11_meet_l99 F_X11_meet_j165; rw [if_pos (by decide)]
    · unfold F_X12_meet_l73 F_X12_meet_j139 F_X12_meet_j156 F_X12_meet_j163; rw [if_pos (by decide), if_pos (by decide)]
  | m + 1, i, n + 1, u, x, y, hi, hm, hu => by
    have g1 : ¬ (60 : Int32) < nI i := nI_nlt (a := 60) (b := i) (by omega) (by decide)
    have g2 : ¬ (61 : Int32) ≤ nI i := nI_ge (a := i) (b := 61) (by omega) (by decide)
    obtain ⟨u1, a1, e1, f1⟩ := r_b x hu hI hL hj
    obtain ⟨u2, a2, e2, f2⟩ := r_b y f1 hI hL hk
    obtain ⟨v, u', h1, h2, h3⟩ := lp_meet (w := w) hI hL hj hk hbp hbq hcp hcq m (i + 1) n u2 (gS ls s j x) (gS ls s k y) (by omega) (by omega) f2
    have gol : F_X11_meet_j141 (F_X11_meet_l99 n) t a p q x y w (nI i) = some v := by
      unfold F_X11_meet_j141
      rw [if_pos hbp, hcp, Option.bind_some, if_pos hbq, hcq, Option.bind_some, nI_1]; exact h1
    have gor : F_X12_meet_j112 (F_X12_meet_l73 n) u (nI j) (nI k) x y w (nI i) = some (v, u') := by
      unfold F_X12_meet_j112
      rw [a1, Option.bind_some, a2, Option.bind_some, nI_1]; exact h2
    conv => enter [1, v, 1, u', 1]; lhs; unfold F_X11_meet_l99
    conv => enter [1, v, 1, u', 2, 1]; lhs; unfold F_X12_meet_l73
    unfold F_X12_meet_j139 F_X12_meet_j156 F_X12_meet_j163 F_X11_meet_j165 F_X11_meet_j138
    rw [if_neg g1, if_neg g1, if_neg g2]
    by_cases cx : x < 0
    · exact ⟨-3, u, by rw [if_pos cx], by rw [if_pos cx, if_pos cx], rfl⟩
    rw [if_neg cx, if_neg cx, if_neg cx]
    by_cases cy : y < 0
    · have cy' : ¬ 0 ≤ y := by rw [fa_lt] at cy; rw [fa_le]; omega
      exact ⟨-3, u, by rw [if_pos cy], by rw [if_pos cy, if_neg cy'], rfl⟩
    have cy' : 0 ≤ y := by rw [fa_lt] at cy; rw [fa_le]; omega
    rw [if_neg cy, if_neg cy, if_pos cy']
    by_cases cw : w = 0
    · rw [if_pos cw, if_pos cw]
      by_cases c : y < x
      · have c' : ¬ x ≤ y := by rw [fa_lt] at c; rw [fa_le]; omega
        exact ⟨v, u', by rw [if_pos c]; exact gol, by rw [if_neg c']; exact gor, h3.trans (e2.trans e1)⟩
      · have c' : x ≤ y := by rw [fa_lt] at c; rw [fa_le]; omega
        exact ⟨nI i, u, by rw [if_neg c], by rw [if_pos c'], rfl⟩
    · rw [if_neg cw, if_neg cw]
      by_cases c : x < y
      · have c' : ¬ y ≤ x := by rw [fa_lt] at c; rw [fa_le]; omega
        exact ⟨v, u', by rw [if_pos c]; exact gol, by rw [if_neg c']; exact gor, h3.trans (e2.trans e1)⟩
      · have c' : y ≤ x := by rw [fa_lt] at c; rw [fa_le]; omega
        exact ⟨nI i, u, by rw [if_neg c], by rw [if_pos c'], rfl⟩
theorem st_meet : sT_meet RR := by
  intro t a u z0 z1 z2 z3 hR
  obtain ⟨B, ls, hk, hp, hk1, hS, hI, hRd, hL, hBg, hSt⟩ := hR.rd
  obtain ⟨q4, -, -, -, -, o4, -⟩ := pe_f hS
  have A := d_br hS hI hRd hBg z2
  have A' := d_br hS hI hRd hBg z3
  have P := d_pe hS hI hRd z0
  have P' := d_pe hS hI hRd z1
  have bad : ((F_X7_bridgeAt t (a + 1) z2 = some none ∧ F_X12_isBridge u z2 = some 0) ∨ (F_X7_bridgeAt t (a + 1) z3 = some none ∧ F_X12_isBridge u z3 = some 0) ∨ (F_X7_isPerson t (a + 1) z0 = some 0 ∧ F_X12_isPerson u z0 = some 0) ∨ (F_X7_isPerson t (a + 1) z1 = some 0 ∧ F_X12_isPerson u z1 = some 0) ∨ z0 = z1) → ∃ v u', F_X11_meet t a z0 z1 z2 z3 = some v ∧ F_X12_meet u z0 z1 z2 z3 = some (v, u') ∧ RR t a u' := by
    intro hbad
    have A1 : (∃ x, F_X7_bridgeAt t (a + 1) z2 = some (some x)) ∧ F_X12_isBridge u z2 = some 1 ∨ F_X7_bridgeAt t (a + 1) z2 = some none ∧ F_X12_isBridge u z2 = some 0 := by
      rcases A with h | ⟨k, -, -, -, h1, h2, -⟩; exact Or.inr h; exact Or.inl ⟨⟨_, h1⟩, h2⟩
    have A2 : (∃ x, F_X7_bridgeAt t (a + 1) z3 = some (some x)) ∧ F_X12_isBridge u z3 = some 1 ∨ F_X7_bridgeAt t (a + 1) z3 = some none ∧ F_X12_isBridge u z3 = some 0 := by
      rcases A' with h | ⟨k, -, -, -, h1, h2, -⟩; exact Or.inr h; exact Or.inl ⟨⟨_, h1⟩, h2⟩
    have P1 : F_X7_isPerson t (a + 1) z0 = some 1 ∧ F_X12_isPerson u z0 = some 1 ∨ F_X7_isPerson t (a + 1) z0 = some 0 ∧ F_X12_isPerson u z0 = some 0 := by
      rcases P with h | ⟨k, -, -, -, h1, h2⟩; exact Or.inr h; exact Or.inl ⟨h1, h2⟩
    have P2 : F_X7_isPerson t (a + 1) z1 = some 1 ∧ F_X12_isPerson u z1 = some 1 ∨ F_X7_isPerson t (a + 1) z1 = some 0 ∧ F_X12_isPerson u z1 = some 0 := by
      rcases P' with h | ⟨k, -, -, -, h1, h2⟩; exact Or.inr h; exact Or.inl ⟨h1, h2⟩
    refine ⟨-1, u, ?_, ?_, hR⟩
    · rcases A1 with ⟨⟨x, a1⟩, a2⟩ | ⟨a1, a2⟩ <;> rcases A2 with ⟨⟨y, c1⟩, c2⟩ | ⟨c1, c2⟩ <;> rcases P1 with ⟨p1, p2⟩ | ⟨p1, p2⟩ <;> rcases P2 with ⟨r1, r2⟩ | ⟨r1, r2⟩ <;> simp [a1, c1, p1, r1] at hbad <;> simp [F_X11_meet, F_X11_meet_j58, hk, hp, hk1, a1, c1, p1, r1, xopt, hbad]
    · rcases A1 with ⟨⟨x, a1⟩, a2⟩ | ⟨a1, a2⟩ <;> rcases A2 with ⟨⟨y, c1⟩, c2⟩ | ⟨c1, c2⟩ <;> rcases P1 with ⟨p1, p2⟩ | ⟨p1, p2⟩ <;> rcases P2 with ⟨r1, r2⟩ | ⟨r1, r2⟩ <;> simp [a2, c2, p2, r2] at hbad <;> simp [F_X12_meet, F_X12_meet_j38, a2, c2, p2, r2, hbad]
  rcases A with h | ⟨j, hj9, j9, rfl, a1, a2, hBj, hbj⟩
  · exact bad (Or.inl h)
  rcases A' with h | ⟨k, hk9, k9, rfl, c1, c2, hBk, hbk⟩
  · exact bad (Or.inr (Or.inl h))
  rcases P with h | ⟨x, -, hx, rfl, p1, p2⟩
  · exact bad (Or.inr (Or.inr (Or.inl h)))
  rcases P' with h | ⟨y, -, hy, rfl, r1, r2⟩
  · exact bad (Or.inr (Or.inr (Or.inr (Or.inl h))))
  by_cases e : nI x = nI y
  · exact bad (Or.inr (Or.inr (Or.inr (Or.inr e))))
  have vx := (pe_v hRd hx).1
  have vy := (pe_v hRd hy).1
  have t1 := (told3 u hx).1
  have t2 := (told3 u hy).1
  have go := fun w => lp_meet (t := t) (a := a) (w := w) hI hL hj9 hk9 hbj hbk (fun x => c_bS (x := x) hI hL hBj hSt hj9) (fun x => c_bS (x := x) hI hL hBk hSt hk9) 61 0 xFuel u (u.2.1 0 (41 + 3 * x)) (u.2.1 0 (41 + 3 * y)) (by omega) (xF_big (by omega)) rfl
  have ix : xIn (nI x) 6 := n_xIn hx (by decide)
  have iy : xIn (nI y) 6 := n_xIn hy (by decide)
  by_cases c : u.2.1 0 (41 + 3 * y) < u.2.1 0 (41 + 3 * x)
  · obtain ⟨v, u', h1, h2, h3⟩ := go 0
    exact ⟨v, u', by simp only [F_X11_meet, F_X11_meet_j94, hk, hp, hk1, a1, c1, p1, r1, xopt, if_true, n10, if_false, Option.bind_some, if_neg e, q4, o4.1, o4.2, if_pos ix, if_pos iy, vx, vy, xlet, if_pos c]; exact h1, by simp only [F_X12_meet, F_X12_meet_j68, a2, c2, p2, r2, Option.bind_some, n10, if_false, if_neg e, t1, t2, if_pos c]; exact h2, hR.scr h3⟩
  · obtain ⟨v, u', h1, h2, h3⟩ := go 1
    exact ⟨v, u', by simp only [F_X11_meet, F_X11_meet_j94, hk, hp, hk1, a1, c1, p1, r1, xopt, if_true, n10, if_false, Option.bind_some, if_neg e, q4, o4.1, o4.2, if_pos ix, if_pos iy, vx, vy, xlet, if_neg c]; exact h1, by simp only [F_X12_meet, F_X12_meet_j68, a2, c2, p2, r2, Option.bind_some, n10, if_false, if_neg e, t1, t2, if_neg c]; exact h2, hR.scr h3⟩
