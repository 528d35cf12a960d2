/-! ===== pure mathematics 9: methods that only read ===== -/
theorem n10 : ((1 : Int32) = 0) = False := by decide
theorem d_in (x a b : Int32) {A B : Int64} (hA : A.toInt = a.toInt) (hB : B.toInt = b.toInt) : (F_X11_isIn x a b = some 0 ∧ F_X12_in x.toInt64 A B = some 0 ∧ (x.toInt < a.toInt ∨ b.toInt < x.toInt)) ∨ (F_X11_isIn x a b = some 1 ∧ F_X12_in x.toInt64 A B = some 1 ∧ a.toInt ≤ x.toInt ∧ x.toInt ≤ b.toInt) := by
  rw [n_isIn, n_in32 x a b hA hB]
  by_cases h : a ≤ x ∧ x ≤ b
  · rw [bI_t h, fa_le, fa_le] at *; exact Or.inr ⟨rfl, rfl, h.1, h.2⟩
  · rw [bI_f h, fa_le, fa_le] at *; exact Or.inl ⟨rfl, rfl, by omega⟩
theorem d_purse (x : Int32) : (F_X11_isPurse x = some 0 ∧ F_X12_isPurse x.toInt64 = some 0) ∨ (F_X11_isPurse x = some 1 ∧ F_X12_isPurse x.toInt64 = some 1 ∧ 0 ≤ x.toInt ∧ x.toInt ≤ 1000000000) := by
  rcases d_in x 0 1000000000 (A := 0) (B := 1000000000) rfl rfl with ⟨h1, h2, h3⟩ | ⟨h1, h2, h3, h4⟩
  · left; unfold F_X11_isPurse F_X12_isPurse; rw [h1, h2]; exact ⟨rfl, rfl⟩
  · right; unfold F_X11_isPurse F_X12_isPurse; rw [h1, h2]; exact ⟨rfl, rfl, h3, h4⟩
theorem ba_no {t : xT} {r n : Nat} {b : Int32} (h : Rd0 t r) (h1 : tI t r 1 = nI n) (hc : b < 0 ∨ nI n ≤ b) : F_X7_bridgeAt t r b = some none := by
  unfold F_X7_bridgeAt F_X7_bridgeAt_j30 F_X7_bridgeAt_j31
  rcases hc with c | c
  · rw [if_pos c]; rfl
  · by_cases d : b < 0
    · rw [if_pos d]; rfl
    · rw [if_neg d, if_pos h.1, h1, if_pos c]; rfl
theorem ba_yes {t : xT} {r n k p : Nat} (h : Rd0 t r) (h1 : tI t r 1 = nI n) (hn : n ≤ 9) (hk : k < n) (hp : tP t (r + 1) k = some p) : F_X7_bridgeAt t r (nI k) = some (some p) := by
  obtain ⟨g1, g2, -, -, -, -, -, g3, -⟩ := h
  have ecl : (nI k).toNatClampNeg = k := n_cl (by omega)
  have hp' : tP t (r + 1) (nI k).toNatClampNeg = some p := by rw [ecl]; exact hp
  unfold F_X7_bridgeAt F_X7_bridgeAt_j31
  rw [if_neg (nI_pos (by omega)), if_pos g1, h1, if_neg (nI_ge hk (by omega)), g2, Option.bind_some, if_pos g3.1, g3.2, if_neg (nI_ge (show k < 9 by omega) (by decide)), Option.bind_some, if_pos g3.1, g3.2, if_pos (n_xIn (show k < 9 by omega) (by decide)), hp']
  rfl
theorem ip_no {t : xT} {r n : Nat} {b : Int32} (h : Rd0 t r) (h1 : tI t r 7 = nI n) (hc : b < 0 ∨ nI n ≤ b) : F_X7_isPerson t r b = some 0 := by
  unfold F_X7_isPerson F_X7_isPerson_j22 F_X7_isPerson_j23
  rcases hc with c | c
  · rw [if_pos c]; rfl
  · by_cases d : b < 0
    · rw [if_pos d]; rfl
    · rw [if_neg d, if_pos h.1, h1, if_pos c]; rfl
theorem ip_yes {t : xT} {r n k : Nat} (h : Rd0 t r) (h1 : tI t r 7 = nI n) (hn : n ≤ 6) (hk : k < n) : F_X7_isPerson t r (nI k) = some 1 := by
  unfold F_X7_isPerson F_X7_isPerson_j23
  rw [if_neg (nI_pos (by omega)), if_pos h.1, h1, if_neg (nI_ge hk (by omega)), if_neg (show ¬ (6 : Int32) ≤ nI k from nI_ge (a := k) (b := 6) (by omega) (by decide))]
  rfl
theorem d_br {t : xT} {a : Nat} {u : xS} {B : Nat → Nat} (hS : SkC t a) (hI : Iv (u.2.1 0)) (hR : RdC t (a + 1) (u.2.1 0)) (hB : BgC t a (a + 1) B (u.2.1 0)) (b : Int32) : (F_X7_bridgeAt t (a + 1) b = some none ∧ F_X12_isBridge u b = some 0) ∨ ∃ k, k < nB (u.2.1 0) ∧ k < 9 ∧ b = nI k ∧ F_X7_bridgeAt t (a + 1) b = some (some (B k)) ∧ F_X12_isBridge u b = some 1 ∧ BkC t (B k) k (u.2.1 0) ∧ isBk (tK t (B k)) := by
  have hRd : Rd0 t (a + 1) := hS.2.2.2.2.2.2.2.2.2.2.2.2.1
  obtain ⟨h9, hs⟩ := hI.1
  have h1 : tI t (a + 1) 1 = nI (nB (u.2.1 0)) := hR.1.trans hs
  have no : (b < 0 ∨ nI (nB (u.2.1 0)) ≤ b) → (F_X7_bridgeAt t (a + 1) b = some none ∧ F_X12_isBridge u b = some 0) := fun c => ⟨ba_no hRd h1 c, n_isBridge_no u (by omega) hs c⟩
  rcases pk_ix b (n := nB (u.2.1 0)) (by omega) with c | c | ⟨k, hk, rfl⟩
  · exact Or.inl (no (Or.inl c))
  · exact Or.inl (no (Or.inr c))
  · obtain ⟨p1, -, -, p2⟩ := hB k hk
    exact Or.inr ⟨k, hk, by omega, rfl, ba_yes hRd h1 h9 hk p1, n_isBridge u (by omega) hs hk, p2, by rw [p2.1]; exact kK_bk _⟩
theorem d_pe {t : xT} {a : Nat} {u : xS} (hS : SkC t a) (hI : Iv (u.2.1 0)) (hR : RdC t (a + 1) (u.2.1 0)) (b : Int32) : (F_X7_isPerson t (a + 1) b = some 0 ∧ F_X12_isPerson u b = some 0) ∨ ∃ k, k < nP (u.2.1 0) ∧ k < 6 ∧ b = nI k ∧ F_X7_isPerson t (a + 1) b = some 1 ∧ F_X12_isPerson u b = some 1 := by
  have hRd : Rd0 t (a + 1) := hS.2.2.2.2.2.2.2.2.2.2.2.2.1
  obtain ⟨h9, hs⟩ := hI.2.1
  have h1 : tI t (a + 1) 7 = nI (nP (u.2.1 0)) := hR.2.2.1.trans hs
  have no : (b < 0 ∨ nI (nP (u.2.1 0)) ≤ b) → (F_X7_isPerson t (a + 1) b = some 0 ∧ F_X12_isPerson u b = some 0) := fun c => ⟨ip_no hRd h1 c, n_isPerson_no u (by omega) hs c⟩
  rcases pk_ix b (n := nP (u.2.1 0)) (by omega) with c | c | ⟨k, hk, rfl⟩
  · exact Or.inl (no (Or.inl c))
  · exact Or.inl (no (Or.inr c))
  · exact Or.inr ⟨k, hk, by omega, rfl, ip_yes hRd h1 h9 hk, n_isPerson u (by omega) hs hk⟩
/-- what a reading walk needs -/
theorem RR.rd {t : xT} {a : Nat} {u : xS} (h : RR t a u) : ∃ B ls, tK t a = 11 ∧ tP t a 0 = some (a + 1) ∧ tK t (a + 1) = 7 ∧ SkC t a ∧ Iv (u.2.1 0) ∧ RdC t (a + 1) (u.2.1 0) ∧ LwS ls (u.2.1 0) ∧ BgC t a (a + 1) B (u.2.1 0) ∧ StC t B ls (u.2.1 0) := by
  obtain ⟨B, B', L, L', ls, ls', hS, ⟨hI, hRd, hLw, hBg, hSt⟩, -⟩ := h
  exact ⟨B, ls, hS.1, hS.2.1, hS.2.2.2.2.2.2.2.2.2.2.2.2.1.1, hS, hI, hRd, hLw.S, hBg, hSt⟩
theorem n_none (v : Int32) : F_X12_noneOf v = some (if 0 ≤ v then v else -3) := by
  unfold F_X12_noneOf F_X12_noneOf_j10
  by_cases h : 0 ≤ v
  · rw [if_pos h, if_pos h]
  · rw [if_neg h, if_neg h]
theorem st_after : sT_after RR := by
  intro t a u z0 z1 z2 hR
  obtain ⟨B, ls, hk, hp, hk1, hS, hI, hRd, hL, hBg, hSt⟩ := hR.rd
  rcases d_br hS hI hRd hBg z0 with ⟨b1, b2⟩ | ⟨k, hk9, k9, rfl, b1, b2, hBk, hbk⟩
  · exact ⟨-1, u, by simp [F_X11_after, F_X11_after_j32, hk, hp, hk1, b1, xopt], by simp [F_X12_after, F_X12_after_j41, F_X12_after_j42, b2], hR⟩
  rcases d_purse z1 with ⟨p1, p2⟩ | ⟨p1, p2, p3, p4⟩
  · exact ⟨-1, u, by simp [F_X11_after, F_X11_after_j32, hk, hp, hk1, b1, xopt, p1], by simp [F_X12_after, F_X12_after_j41, F_X12_after_j42, b2, p2], hR⟩
  rcases d_in z2 0 60 (A := 0) (B := 60) rfl rfl with ⟨n1, n2, -⟩ | ⟨n1, n2, n3, n4⟩
  · exact ⟨-1, u, by simp [F_X11_after, F_X11_after_j32, hk, hp, hk1, b1, xopt, p1, n1], by simp [F_X12_after, F_X12_after_j41, F_X12_after_j42, b2, p2, n2], hR⟩
  obtain ⟨N, hN, rfl⟩ := nI_of2 (x := z2) (M := 60) (n := 60) rfl (by rw [fa_lt]; exact Int.not_lt.mpr n3) (by rw [fa_le]; exact n4)
  obtain ⟨g, ha⟩ := r_aM (N := N) (v := z1) rfl hI hL hk9 (by omega) (by rw [fa_lt]; show ¬ z1.toInt < 0; omega)
  have hc := c_bA (N := N) hbk (fun x => c_bS hI hL hBk hSt hk9) (by omega) z1
  refine ⟨if 0 ≤ itB (gS ls (u.2.1 0) k) N z1 then itB (gS ls (u.2.1 0) k) N z1 else -3, _, ?_, ?_, hR.scr (u' := sc u g (tmS ls (u.2.1 0) k) (tlS ls (u.2.1 0) k) (opS ls (u.2.1 0) k)) rfl⟩
  · simp only [F_X11_after, F_X11_after_j55, hk, hp, hk1, b1, xopt, p1, n1, hc, Option.bind_some, if_true, n10, if_false]
    split <;> rfl
  · simp only [F_X12_after, F_X12_after_j42, b2, p2, n2, ha, n_none, Option.bind_some, n10, if_false]
