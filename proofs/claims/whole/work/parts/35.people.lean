/-! ===== pure mathematics 14: people and tales ===== -/
theorem cl0 : (0 : Int32).toNatClampNeg = 0 := rfl
theorem cl1 : (1 : Int32).toNatClampNeg = 1 := rfl
theorem cl2 : (2 : Int32).toNatClampNeg = 2 := rfl
theorem cl3 : (3 : Int32).toNatClampNeg = 3 := rfl
theorem xi0 : xIn (0 : Int32) 303 := by decide
theorem xi1 : xIn (1 : Int32) 303 := by decide
theorem xi2 : xIn (2 : Int32) 303 := by decide
theorem xi3 : xIn (3 : Int32) 303 := by decide
theorem mAz (u : xS) (i : Nat) (v : Int32) : (mA u 0 i v).2.1 0 = upd (u.2.1 0) i v := rfl
theorem where3 {k : Nat} : F_X12_where (nI k) 0 = some (nI (41 + 3 * k)) ∧ F_X12_where (nI k) 1 = some (nI (41 + 3 * k + 1)) ∧ F_X12_where (nI k) 2 = some (nI (41 + 3 * k + 2)) := ⟨n_where k 0, n_where k 1, n_where k 2⟩
theorem Sg.updE (s : Nat → Int32) {i : Nat} (v : Int32) (hi : i = 1 ∨ i = 2 ∨ (41 ≤ i ∧ i < 71)) : Sg s (upd s i v) :=
  ⟨upd_n _ _ (by omega), upd_n _ _ (by omega), upd_n _ _ (by omega), fun j _ _ => upd_n _ _ (by omega), fun j _ => upd_n _ _ (by omega)⟩
theorem nB_u (s : Nat → Int32) {i : Nat} (v : Int32) (h : i ≠ 0) : nB (upd s i v) = nB s := by unfold nB; rw [upd_n _ _ (Ne.symm h)]
theorem nP_u (s : Nat → Int32) {i : Nat} (v : Int32) (h : i ≠ 1) : nP (upd s i v) = nP s := by unfold nP; rw [upd_n _ _ (Ne.symm h)]
theorem nT_u (s : Nat → Int32) {i : Nat} (v : Int32) (h : i ≠ 2) : nT (upd s i v) = nT s := by unfold nT; rw [upd_n _ _ (Ne.symm h)]
theorem nC_u (s : Nat → Int32) {i : Nat} (v : Int32) (h : i ≠ 4) : nC (upd s i v) = nC s := by unfold nC; rw [upd_n _ _ (Ne.symm h)]
theorem nP_1 (s : Nat → Int32) {m : Nat} (h : m < 2147483648) : nP (upd s 1 (nI m)) = m := by unfold nP; rw [upd_s, n_cl h]
theorem nT_1 (s : Nat → Int32) {m : Nat} (h : m < 2147483648) : nT (upd s 2 (nI m)) = m := by unfold nT; rw [upd_s, n_cl h]
theorem Iv.u (s : Nat → Int32) {i : Nat} {v : Int32} (h : Iv s) (h1 : 41 ≤ i) (h2 : i < 71) (hv : ∀ p, p < 6 → i = 41 + 3 * p → Ri v 0 1000000000) : Iv (upd s i v) := by
  obtain ⟨⟨a1, a2⟩, ⟨b1, b2⟩, ⟨c1, c2⟩, ⟨d1, d2⟩, e, f, g⟩ := h
  unfold Iv
  rw [nB_u _ _ (by omega), nP_u _ _ (by omega), nT_u _ _ (by omega), nC_u _ _ (by omega), upd_n _ _ (by omega), upd_n _ _ (by omega), upd_n _ _ (by omega), upd_n _ _ (by omega), upd_n _ _ (by omega)]
  refine ⟨⟨a1, a2⟩, ⟨b1, b2⟩, ⟨c1, c2⟩, ⟨d1, d2⟩, e, fun k hk => ?_, fun p hp => ?_⟩
  · rw [upd_n _ _ (by omega), upd_n _ _ (by omega), upd_n _ _ (by omega), upd_n _ _ (by omega)]; exact f k hk
  · by_cases c : 41 + 3 * p = i
    · rw [c, upd_s]; exact hv p (by omega) c.symm
    · rw [upd_n _ _ c]; exact g p hp
theorem Iv.nPE {s : Nat → Int32} {n : Nat} (h : Iv s) (hn : nP s = n) (h6 : n < 6) (hr : Ri (s (41 + 3 * n)) 0 1000000000) : Iv (upd s 1 (nI (n + 1))) := by
  obtain ⟨⟨a1, a2⟩, ⟨b1, b2⟩, ⟨c1, c2⟩, ⟨d1, d2⟩, e, f, g⟩ := h
  unfold Iv
  rw [nB_u _ _ (by omega), nP_1 _ (by omega), nT_u _ _ (by omega), nC_u _ _ (by omega), upd_n _ _ (by omega), upd_s, upd_n _ _ (by omega), upd_n _ _ (by omega), upd_n _ _ (by omega)]
  refine ⟨⟨a1, a2⟩, ⟨by omega, rfl⟩, ⟨c1, c2⟩, ⟨d1, d2⟩, e, fun k hk => ?_, fun p hp => ?_⟩
  · rw [upd_n _ _ (by omega), upd_n _ _ (by omega), upd_n _ _ (by omega), upd_n _ _ (by omega)]; exact f k hk
  · rw [upd_n _ _ (by omega)]
    by_cases c : p = n
    · subst c; exact hr
    · exact g p (by omega)
theorem Iv.nTE {s : Nat → Int32} {m : Nat} (h : Iv s) (hm : m ≤ 6) : Iv (upd s 2 (nI m)) := by
  obtain ⟨⟨a1, a2⟩, ⟨b1, b2⟩, ⟨c1, c2⟩, ⟨d1, d2⟩, e, f, g⟩ := h
  unfold Iv
  rw [nB_u _ _ (by omega), nP_u _ _ (by omega), nT_1 _ (by omega), nC_u _ _ (by omega), upd_n _ _ (by omega), upd_n _ _ (by omega), upd_s, upd_n _ _ (by omega), upd_n _ _ (by omega)]
  refine ⟨⟨a1, a2⟩, ⟨b1, b2⟩, ⟨hm, rfl⟩, ⟨d1, d2⟩, e, fun k hk => ?_, fun p hp => ?_⟩
  · rw [upd_n _ _ (by omega), upd_n _ _ (by omega), upd_n _ _ (by omega), upd_n _ _ (by omega)]; exact f k hk
  · rw [upd_n _ _ (by omega)]; exact g p hp
theorem RdC.w {t : xT} {r : Nat} {s : Nat → Int32} (h : RdC t r s) {x p i : Nat} (v : Int32) (hc : (x = r ∧ ((p = 1 ∧ i = 0) ∨ (p = 2 ∧ i = 3) ∨ (p = 7 ∧ i = 1) ∨ (p = 10 ∧ i = 2))) ∨ (p < 6 ∧ ((x = r + 11 ∧ i = 41 + 3 * p) ∨ (x = r + 12 ∧ i = 41 + 3 * p + 1) ∨ (x = r + 13 ∧ i = 41 + 3 * p + 2) ∨ (x = r + 14 ∧ i = 59 + 2 * p) ∨ (x = r + 15 ∧ i = 59 + 2 * p + 1)))) : RdC (tSI t x p v) r (upd s i v) := by
  obtain ⟨h1, h2, h3, h4, h5, h6⟩ := h
  have e : ∀ y q k, tI t y q = s k → ((y = x ∧ q = p) ↔ k = i) → tI (tSI t x p v) y q = upd s i v k := by
    intro y q k h0 hh
    by_cases c : k = i
    · obtain ⟨e1, e2⟩ := hh.2 c
      rw [e1, e2, c, tI_SI, upd_s, upd_s]
    · rw [upd_n _ _ c]
      by_cases cy : y = x
      · rw [cy, tI_SI, upd_n _ _ (fun cq => c (hh.1 ⟨cy, cq⟩)), ← cy]; exact h0
      · rw [tI_SIn _ _ _ _ cy]; exact h0
  refine ⟨e _ _ _ h1 (by omega), e _ _ _ h2 (by omega), e _ _ _ h3 (by omega), e _ _ _ h4 (by omega), fun q hq => ?_, fun j hj => ?_⟩
  · obtain ⟨g1, g2, g3⟩ := h5 q hq
    exact ⟨e _ _ _ g1 (by omega), e _ _ _ g2 (by omega), e _ _ _ g3 (by omega)⟩
  · obtain ⟨g1, g2⟩ := h6 j hj
    exact ⟨e _ _ _ g1 (by omega), e _ _ _ g2 (by omega)⟩
theorem RR.wP {t : xT} {a : Nat} {u : xS} (h : RR t a u) {x p i : Nat} {v : Int32} (hc : p < 6 ∧ ((x = a + 12 ∧ i = 41 + 3 * p) ∨ (x = a + 13 ∧ i = 41 + 3 * p + 1) ∨ (x = a + 14 ∧ i = 41 + 3 * p + 2) ∨ (x = a + 15 ∧ i = 59 + 2 * p) ∨ (x = a + 16 ∧ i = 59 + 2 * p + 1))) (hv : x = a + 12 → Ri v 0 1000000000) : RR (tSI t x p v) a (mA u 0 i v) := by
  obtain ⟨B, ls, hk, hp0, hk1, hS, hI, hRd, hL, hBg, hSt⟩ := h.rd
  refine h.road (X := fun q => q = x) (Ol.SI _ _ _ rfl) (fun q hq => by omega) ?_ ?_ ?_ rfl
  · rw [mAz]; exact Sg.updE _ _ (by omega)
  · rw [mAz]; exact hI.u _ (by omega) (by omega) (fun p' hp' e => hv (by omega))
  · rw [mAz]
    obtain ⟨hp6, hc⟩ := hc
    refine hRd.w _ (Or.inr ⟨hp6, ?_⟩)
    rcases hc with ⟨c1, c2⟩ | ⟨c1, c2⟩ | ⟨c1, c2⟩ | ⟨c1, c2⟩ | ⟨c1, c2⟩
    · exact Or.inl ⟨by omega, c2⟩
    · exact Or.inr (Or.inl ⟨by omega, c2⟩)
    · exact Or.inr (Or.inr (Or.inl ⟨by omega, c2⟩))
    · exact Or.inr (Or.inr (Or.inr (Or.inl ⟨by omega, c2⟩)))
    · exact Or.inr (Or.inr (Or.inr (Or.inr ⟨by omega, c2⟩)))
theorem RR.w7 {t : xT} {a : Nat} {u : xS} (h : RR t a u) {n : Nat} (hn : nP (u.2.1 0) = n) (h6 : n < 6) (hr : Ri (u.2.1 0 (41 + 3 * n)) 0 1000000000) : RR (tSI t (a + 1) 7 (nI (n + 1))) a (mA u 0 1 (nI (n + 1))) := by
  obtain ⟨B, ls, hk, hp0, hk1, hS, hI, hRd, hL, hBg, hSt⟩ := h.rd
  refine h.road (X := fun q => q = a + 1) (Ol.SI _ _ _ rfl) (fun q hq => by omega) ?_ ?_ ?_ rfl
  · rw [mAz]; exact Sg.updE _ _ (by omega)
  · rw [mAz]; exact hI.nPE hn h6 hr
  · rw [mAz]; exact hRd.w _ (by omega)
theorem RR.w10 {t : xT} {a : Nat} {u : xS} (h : RR t a u) {m : Nat} (hm : m ≤ 6) : RR (tSI t (a + 1) 10 (nI m)) a (mA u 0 2 (nI m)) := by
  obtain ⟨B, ls, hk, hp0, hk1, hS, hI, hRd, hL, hBg, hSt⟩ := h.rd
  refine h.road (X := fun q => q = a + 1) (Ol.SI _ _ _ rfl) (fun q hq => by omega) ?_ ?_ ?_ rfl
  · rw [mAz]; exact Sg.updE _ _ (by omega)
  · rw [mAz]; exact hI.nTE hm
  · rw [mAz]; exact hRd.w _ (by omega)
theorem st_person : sT_person RR := by
  intro t a u z0 hR
  obtain ⟨B, ls, hk, hp, hk1, hS, hI, hRd, hL, hBg, hSt⟩ := hR.rd
  rcases d_purse z0 with ⟨p1, p2⟩ | ⟨p1, p2, p3, p4⟩
  · exact ⟨-1, t, u, by simp only [F_X11_person, p1, Option.bind_some, if_true], by simp only [F_X12_person, p2, Option.bind_some, if_true], hR⟩
  obtain ⟨h6, hs⟩ := hI.2.1
  have e7 := hRd.2.2.1
  generalize hn : nP (u.2.1 0) = n at h6 hs
  rw [hs] at e7
  by_cases c : n = 6
  · subst c
    exact ⟨-2, t, u, by simp only [F_X11_person, p1, Option.bind_some, n10, if_false, hk, hp, hk1, if_true, F_X7_welcome, e7, if_neg (show ¬ nI 6 < (6 : Int32) by decide)], by simp only [F_X12_person, p2, Option.bind_some, n10, if_false, if_pos xi1, cl1, hs, if_pos (show nI 6 = (6 : Int32) from rfl)], hR⟩
  have c6 : nI n < (6 : Int32) := nI_lt (a := n) (b := 6) (by omega) (by decide)
  have c6' : ¬ nI n = (6 : Int32) := fun e => c ((nI_eq (a := n) (b := 6) (by omega) (by decide)).1 e)
  obtain ⟨q4, q5, q6, -, -, o4, o5, o6, -⟩ := pe_f hS
  have ix : xIn (nI n) 6 := n_xIn (by omega) (by decide)
  have ec : (nI n).toNatClampNeg = n := n_cl (by omega)
  obtain ⟨w0, w1, w2⟩ := where3 (k := n)
  have i0 : xIn (nI (41 + 3 * n)) 303 := n_xIn (by omega) (by decide)
  have i1 : xIn (nI (41 + 3 * n + 1)) 303 := n_xIn (by omega) (by decide)
  have i2 : xIn (nI (41 + 3 * n + 2)) 303 := n_xIn (by omega) (by decide)
  have d0 : (nI (41 + 3 * n)).toNatClampNeg = 41 + 3 * n := n_cl (by omega)
  have d1 : (nI (41 + 3 * n + 1)).toNatClampNeg = 41 + 3 * n + 1 := n_cl (by omega)
  have d2 : (nI (41 + 3 * n + 2)).toNatClampNeg = 41 + 3 * n + 2 := n_cl (by omega)
  have r3 := ((hR.wP (x := a + 12) (p := n) (i := 41 + 3 * n) (v := z0) (by omega) (fun _ => ⟨p3, p4⟩)).wP (x := a + 13) (p := n) (i := 41 + 3 * n + 1) (v := 0) (by omega) (fun h => by omega)).wP (x := a + 14) (p := n) (i := 41 + 3 * n + 2) (v := -9) (by omega) (fun h => by omega)
  have r4 := r3.w7 (n := n) (by rw [mAz, nP_u _ _ (by omega), mAz, nP_u _ _ (by omega), mAz, nP_u _ _ (by omega)]; exact hn) (by omega) (by rw [mAz, upd_n _ _ (by omega), mAz, upd_n _ _ (by omega), mAz, upd_s]; exact ⟨p3, p4⟩)
  refine ⟨nI n, _, _, ?_, ?_, r4⟩
  · have g7 : tI (tSI (tSI (tSI t (a + 12) n z0) (a + 13) n 0) (a + 14) n (-9)) (a + 1) 7 = nI n := by rw [tI_SIn _ _ _ _ (by omega), tI_SIn _ _ _ _ (by omega), tI_SIn _ _ _ _ (by omega)]; exact e7
    simp only [F_X11_person, p1, Option.bind_some, n10, if_false, hk, hp, hk1, if_true, F_X7_welcome, e7, if_pos c6, xlet, q4, q5, q6, o4.1, o4.2, o5.1, o5.2, o6.1, o6.2, if_pos ix, ec, tK_SI, tN_SI, tP_SI, g7, nI_1]
  · have g7 : (mA (mA (mA u 0 (41 + 3 * n) z0) 0 (41 + 3 * n + 1) 0) 0 (41 + 3 * n + 2) (-9)).2.1 0 1 = nI n := by rw [mAz, upd_n _ _ (by omega), mAz, upd_n _ _ (by omega), mAz, upd_n _ _ (by omega)]; exact hs
    simp only [F_X12_person, p2, Option.bind_some, n10, if_false, if_pos xi1, cl1, hs, if_neg c6', xlet, w0, w1, w2, if_pos i0, if_pos i1, if_pos i2, d0, d1, d2, g7, nI_1]
theorem st_purse : sT_purse RR := by
  intro t a u z0 z1 hR
  obtain ⟨B, ls, hk, hp, hk1, hS, hI, hRd, hL, hBg, hSt⟩ := hR.rd
  rcases d_pe hS hI hRd z0 with ⟨b1, b2⟩ | ⟨n, hn, hn6, rfl, b1, b2⟩
  · exact ⟨-1, t, u, by simp only [F_X11_purse, F_X11_purse_j18, hk, hp, hk1, b1, Option.bind_some, if_true], by simp only [F_X12_purse, F_X12_purse_j16, b2, Option.bind_some, if_true], hR⟩
  rcases d_purse z1 with ⟨p1, p2⟩ | ⟨p1, p2, p3, p4⟩
  · exact ⟨-1, t, u, by simp only [F_X11_purse, F_X11_purse_j18, hk, hp, hk1, b1, Option.bind_some, if_true, n10, if_false, p1], by simp only [F_X12_purse, F_X12_purse_j16, b2, Option.bind_some, if_true, n10, if_false, p2], hR⟩
  obtain ⟨q4, q5, q6, -, -, o4, o5, o6, -⟩ := pe_f hS
  have ix : xIn (nI n) 6 := n_xIn (by omega) (by decide)
  have ec : (nI n).toNatClampNeg = n := n_cl (by omega)
  have w0 := (where3 (k := n)).1
  have i0 : xIn (nI (41 + 3 * n)) 303 := n_xIn (by omega) (by decide)
  have d0 : (nI (41 + 3 * n)).toNatClampNeg = 41 + 3 * n := n_cl (by omega)
  have t0 := (told3 u hn6).1
  have v0 : tI t (a + 12) n = u.2.1 0 (41 + 3 * n) := (hRd.2.2.2.2.1 n hn6).1
  refine ⟨u.2.1 0 (41 + 3 * n), _, _, ?_, ?_, hR.wP (x := a + 12) (p := n) (i := 41 + 3 * n) (v := z1) (by omega) (fun _ => ⟨p3, p4⟩)⟩
  · simp only [F_X11_purse, hk, hp, hk1, b1, Option.bind_some, if_true, n10, if_false, p1, q4, o4.1, o4.2, if_pos ix, ec, xlet, v0]
  · simp only [F_X12_purse, b2, Option.bind_some, n10, if_false, p2, t0, w0, if_pos i0, d0, xlet]
theorem c_arrive {t : xT} {a p n : Nat} (hS : SkC t a) (h7 : tI t (a + 1) 7 = nI n) (hn : n ≤ 6) (hp : p < n) (v x : Int32) : F_X7_arrive t (a + 1) (nI p) v x = some (tSI (tSI (tSI t (a + 12) p v) (a + 13) p (tI t (a + 13) p + 1)) (a + 14) p x) := by
  have hRd : Rd0 t (a + 1) := hS.2.2.2.2.2.2.2.2.2.2.2.2.1
  have ip := ip_yes hRd h7 hn hp
  obtain ⟨q4, q5, q6, -, -, o4, o5, o6, -⟩ := pe_f hS
  have ix : xIn (nI p) 6 := n_xIn (by omega) (by decide)
  have ec : (nI p).toNatClampNeg = p := n_cl (by omega)
  have g : tI (tSI t (a + 12) p v) (a + 13) p = tI t (a + 13) p := by rw [tI_SIn _ _ _ _ (by omega)]
  simp only [F_X7_arrive, F_X7_arrive_j32, hRd.1, if_true, ip, Option.bind_some, n10, if_false, q4, o4.1, o4.2, if_pos ix, ec, xlet, tK_SI, tN_SI, tP_SI, q5, o5.1, o5.2, q6, o6.1, o6.2, g]
theorem r_crossed (u : xS) {p : Nat} (hp : p < 6) (x v : Int32) : F_X12_crossed u (nI p) x v = some (mA (mA (mA u 0 (41 + 3 * p) v) 0 (41 + 3 * p + 1) (u.2.1 0 (41 + 3 * p + 1) + 1)) 0 (41 + 3 * p + 2) x) := by
  obtain ⟨w0, w1, w2⟩ := where3 (k := p)
  have i0 : xIn (nI (41 + 3 * p)) 303 := n_xIn (by omega) (by decide)
  have i1 : xIn (nI (41 + 3 * p + 1)) 303 := n_xIn (by omega) (by decide)
  have i2 : xIn (nI (41 + 3 * p + 2)) 303 := n_xIn (by omega) (by decide)
  have d0 : (nI (41 + 3 * p)).toNatClampNeg = 41 + 3 * p := n_cl (by omega)
  have d1 : (nI (41 + 3 * p + 1)).toNatClampNeg = 41 + 3 * p + 1 := n_cl (by omega)
  have d2 : (nI (41 + 3 * p + 2)).toNatClampNeg = 41 + 3 * p + 2 := n_cl (by omega)
  have g : (mA u 0 (41 + 3 * p) v).2.1 0 (41 + 3 * p + 1) = u.2.1 0 (41 + 3 * p + 1) := by rw [mAz, upd_n _ _ (by omega)]
  simp only [F_X12_crossed, w0, w1, w2, Option.bind_some, if_pos i0, if_pos i1, if_pos i2, d0, d1, d2, xlet, g]
theorem RR.arr {t : xT} {a : Nat} {u : xS} (h : RR t a u) {p : Nat} (hp : p < 6) {v : Int32} (hv : Ri v 0 1000000000) (x : Int32) : RR (tSI (tSI (tSI t (a + 12) p v) (a + 13) p (tI t (a + 13) p + 1)) (a + 14) p x) a (mA (mA (mA u 0 (41 + 3 * p) v) 0 (41 + 3 * p + 1) (u.2.1 0 (41 + 3 * p + 1) + 1)) 0 (41 + 3 * p + 2) x) := by
  obtain ⟨B, ls, hk, hp0, hk1, hS, hI, hRd, hL, hBg, hSt⟩ := h.rd
  have e : tI t (a + 13) p = u.2.1 0 (41 + 3 * p + 1) := (hRd.2.2.2.2.1 p hp).2.1
  rw [e]
  exact ((h.wP (x := a + 12) (p := p) (i := 41 + 3 * p) (v := v) (by omega) (fun _ => hv)).wP (x := a + 13) (p := p) (i := 41 + 3 * p + 1) (by omega) (fun h => by omega)).wP (x := a + 14) (p := p) (i := 41 + 3 * p + 2) (by omega) (fun h => by omega)
theorem Ol.arr (t : xT) (a p : Nat) (v w x : Int32) : Ol t (tSI (tSI (tSI t (a + 12) p v) (a + 13) p w) (a + 14) p x) (fun q => a + 12 ≤ q ∧ q ≤ a + 14) (fun _ => False) :=
  ((Ol.SI _ _ _ (by omega)).tr (Ol.SI _ _ _ (by omega))).tr (Ol.SI _ _ _ (by omega))
theorem gS_Ri {ls : yLS} {s : Nat → Int32} {k : Nat} {x : Int32} (h : 0 ≤ gS ls s k x) : Ri (gS ls s k x) 0 1000000000 := by
  rw [fa_le] at h
  exact ⟨h, (gS_rng ls s k x).2⟩
/-- what a crossing leaves besides -/
def Cl (u : xS) : (Nat → Int32) × (Nat → Int32) × (Nat → Int32) × Int32 × Int32 := (u.2.1 25, u.2.1 26, u.2.1 27, u.2.1 0 0, u.2.1 0 1)
theorem st_crossX (t : xT) (a : Nat) (u : xS) (z0 z1 : Int32) (hR : RR t a u) : ∃ v t' u', F_X11_cross t a z0 z1 = some (v, t') ∧ F_X12_cross u z0 z1 = some (v, u') ∧ RR t' a u' ∧ Ol t t' (fun q => a + 12 ≤ q ∧ q ≤ a + 14) (fun _ => False) ∧ Cl u' = Cl u := by
  obtain ⟨B, ls, hk, hp, hk1, hS, hI, hRd, hL, hBg, hSt⟩ := hR.rd
  rcases d_br hS hI hRd hBg z1 with ⟨b1, b2⟩ | ⟨k, hk9, k9, rfl, b1, b2, hBk, hbk⟩
  · rcases d_pe hS hI hRd z0 with ⟨c1, c2⟩ | ⟨n, hn, hn6, rfl, c1, c2⟩
    · exact ⟨-1, t, u, by simp only [F_X11_cross, F_X11_cross_j24, hk, hp, hk1, b1, c1, xopt, Option.bind_some, if_true], by simp only [F_X12_cross, F_X12_cross_j16, c2, Option.bind_some, if_true], hR, Ol.rf _ _ _, rfl⟩
    · exact ⟨-1, t, u, by simp only [F_X11_cross, F_X11_cross_j24, hk, hp, hk1, b1, c1, xopt, Option.bind_some, if_true, n10, if_false], by simp only [F_X12_cross, F_X12_cross_j16, c2, b2, Option.bind_some, if_true, n10, if_false], hR, Ol.rf _ _ _, rfl⟩
  rcases d_pe hS hI hRd z0 with ⟨c1, c2⟩ | ⟨n, hn, hn6, rfl, c1, c2⟩
  · exact ⟨-1, t, u, by simp only [F_X11_cross, F_X11_cross_j24, hk, hp, hk1, b1, c1, xopt, Option.bind_some, if_true], by simp only [F_X12_cross, F_X12_cross_j16, c2, Option.bind_some, if_true], hR, Ol.rf _ _ _, rfl⟩
  obtain ⟨h6, hs⟩ := hI.2.1
  have e7 := hRd.2.2.1.trans hs
  obtain ⟨q4, q5, q6, -, -, o4, o5, o6, -⟩ := pe_f hS
  have ix : xIn (nI n) 6 := n_xIn (by omega) (by decide)
  have ec : (nI n).toNatClampNeg = n := n_cl (by omega)
  have t0 := (told3 u hn6).1
  have v0 : tI t (a + 12) n = u.2.1 0 (41 + 3 * n) := (hRd.2.2.2.2.1 n hn6).1
  have hc := fun x => c_bS (x := x) hI hL hBk hSt hk9
  obtain ⟨u1, a1, e1, f1⟩ := r_b (u.2.1 0 (41 + 3 * n)) rfl hI hL hk9
  obtain ⟨-, -, -, -, m25, m26, m27, -⟩ := Cr_e e1
  by_cases c : 0 ≤ gS ls (u.2.1 0) k (u.2.1 0 (41 + 3 * n))
  · have ar := c_arrive hS e7 h6 hn (gS ls (u.2.1 0) k (u.2.1 0 (41 + 3 * n))) (nI k)
    have cr := r_crossed u1 hn6 (nI k) (gS ls (u.2.1 0) k (u.2.1 0 (41 + 3 * n)))
    refine ⟨gS ls (u.2.1 0) k (u.2.1 0 (41 + 3 * n)), _, _, ?_, ?_, (hR.scr e1).arr hn6 (gS_Ri c) (nI k), Ol.arr _ _ _ _ _ _, ?_⟩
    · simp only [F_X11_cross, hk, hp, hk1, b1, c1, xopt, Option.bind_some, if_true, n10, if_false, q4, o4.1, o4.2, if_pos ix, ec, if_pos hbk, v0, hc, if_pos c, ar]
    · simp only [F_X12_cross, c2, b2, Option.bind_some, n10, if_false, t0, a1, if_pos c, cr]
    · unfold Cl
      rw [mAz, mAz, mAz, upd_n _ _ (by omega), upd_n _ _ (by omega), upd_n _ _ (by omega), upd_n _ _ (by omega), upd_n _ _ (by omega), upd_n _ _ (by omega), f1, ← m25, ← m26, ← m27]
      rfl
  · refine ⟨-4, t, u1, ?_, ?_, hR.scr e1, Ol.rf _ _ _, ?_⟩
    · simp only [F_X11_cross, hk, hp, hk1, b1, c1, xopt, Option.bind_some, if_true, n10, if_false, q4, o4.1, o4.2, if_pos ix, ec, if_pos hbk, v0, hc, if_neg c]
    · simp only [F_X12_cross, c2, b2, Option.bind_some, n10, if_false, t0, a1, if_neg c]
    · unfold Cl; rw [f1, m25, m26, m27]
theorem st_cross : sT_cross RR := by
  intro t a u z0 z1 hR
  obtain ⟨v, t', u', h1, h2, h3, -⟩ := st_crossX t a u z0 z1 hR
  exact ⟨v, t', u', h1, h2, h3⟩
theorem gI_rng (kd tm tl op : Int32) (p : Int) : -1 ≤ (gI kd tm tl op p).toInt ∧ (gI kd tm tl op p).toInt ≤ 1000000000 := by
  unfold gI
  have h := zb_rng kd tm.toInt tl.toInt op p
  rw [fb_ofI (by omega) (by omega)]; exact h
theorem n_div3 {b f B : Int} (h1 : 0 ≤ b) (h2 : 0 ≤ f) (h3 : f ≤ B) (h4 : 0 < B) : 0 ≤ b * f / B ∧ b * f / B ≤ b := by
  refine ⟨Int.ediv_nonneg (Int.mul_nonneg h1 h2) (Int.le_of_lt h4), ?_⟩
  have : b * f ≤ b * B := Int.mul_le_mul_of_nonneg_left h3 h1
  calc b * f / B ≤ b * B / B := Int.ediv_le_ediv h4 this
    _ = b := Int.mul_ediv_cancel _ (by omega)
theorem st_pool : sT_pool RR := by
  intro t a u z0 z1 z2 hR
  obtain ⟨B, ls, hk, hp, hk1, hS, hI, hRd, hL, hBg, hSt⟩ := hR.rd
  obtain ⟨q4, q5, q6, -, -, o4, o5, o6, -⟩ := pe_f hS
  have A := d_br hS hI hRd hBg z2
  have P := d_pe hS hI hRd z0
  have P' := d_pe hS hI hRd z1
  have bad : (F_X7_bridgeAt t (a + 1) z2 = some none ∧ F_X12_isBridge u z2 = some 0) ∨ (F_X7_isPerson t (a + 1) z0 = some 0 ∧ F_X12_isPerson u z0 = some 0) ∨ (F_X7_isPerson t (a + 1) z1 = some 0 ∧ F_X12_isPerson u z1 = some 0) ∨ z0 = z1 → ∃ (v : Int32) (t' : xT) (u' : xS), F_X11_pool t a z0 z1 z2 = some (v, t') ∧ F_X12_pool u z0 z1 z2 = some (v, u') ∧ RR t' a u' := by
    intro hbad
    have A1 : ((∃ x, F_X7_bridgeAt t (a + 1) z2 = some (some x)) ∧ F_X12_isBridge u z2 = some 1) ∨ (F_X7_bridgeAt t (a + 1) z2 = some none ∧ F_X12_isBridge u z2 = some 0) := by
      rcases A with h | ⟨k, -, -, -, b1, b2, -⟩
      · exact Or.inr h
      · exact Or.inl ⟨⟨_, b1⟩, b2⟩
    have P1 : (F_X7_isPerson t (a + 1) z0 = some 1 ∧ F_X12_isPerson u z0 = some 1) ∨ (F_X7_isPerson t (a + 1) z0 = some 0 ∧ F_X12_isPerson u z0 = some 0) := by
      rcases P with h | ⟨k, -, -, -, b1, b2⟩
      · exact Or.inr h
      · exact Or.inl ⟨b1, b2⟩
    have P2 : (F_X7_isPerson t (a + 1) z1 = some 1 ∧ F_X12_isPerson u z1 = some 1) ∨ (F_X7_isPerson t (a + 1) z1 = some 0 ∧ F_X12_isPerson u z1 = some 0) := by
      rcases P' with h | ⟨k, -, -, -, b1, b2⟩
      · exact Or.inr h
      · exact Or.inl ⟨b1, b2⟩
    refine ⟨-1, t, u, ?_, ?_, hR⟩
    · rcases A1 with ⟨⟨x, a1⟩, a2⟩ | ⟨a1, a2⟩ <;> rcases P1 with ⟨p1, p2⟩ | ⟨p1, p2⟩ <;> rcases P2 with ⟨r1, r2⟩ | ⟨r1, r2⟩ <;> simp [a1, p1, r1] at hbad <;> simp [F_X11_pool, F_X11_pool_j42, hk, hp, hk1, a1, p1, r1, xopt, hbad]
    · rcases A1 with ⟨⟨x, a1⟩, a2⟩ | ⟨a1, a2⟩ <;> rcases P1 with ⟨p1, p2⟩ | ⟨p1, p2⟩ <;> rcases P2 with ⟨r1, r2⟩ | ⟨r1, r2⟩ <;> simp [a2, p2, r2] at hbad <;> simp [F_X12_pool, F_X12_pool_j29, a2, p2, r2, hbad]
  rcases A with h | ⟨k, hk9, k9, rfl, a1, a2, hBk, hbk⟩
  · exact bad (Or.inl h)
  rcases P with h | ⟨x, hx0, hx, rfl, p1, p2⟩
  · exact bad (Or.inr (Or.inl h))
  rcases P' with h | ⟨y, hy0, hy, rfl, r1, r2⟩
  · exact bad (Or.inr (Or.inr (Or.inl h)))
  by_cases e : nI x = nI y
  · exact bad (Or.inr (Or.inr (Or.inr e)))
  have t1 := (told3 u hx).1
  have t2 := (told3 u hy).1
  have ix : xIn (nI x) 6 := n_xIn hx (by decide)
  have iy : xIn (nI y) 6 := n_xIn hy (by decide)
  have ex : (nI x).toNatClampNeg = x := n_cl (by omega)
  have ey : (nI y).toNatClampNeg = y := n_cl (by omega)
  have vx : tI t (a + 12) x = u.2.1 0 (41 + 3 * x) := (hRd.2.2.2.2.1 x hx).1
  have vy : tI t (a + 12) y = u.2.1 0 (41 + 3 * y) := (hRd.2.2.2.2.1 y hy).1
  have rx := hI.2.2.2.2.2.2 x hx0
  have ry := hI.2.2.2.2.2.2 y hy0
  obtain ⟨h6, hs⟩ := hI.2.1
  have e7 := hRd.2.2.1.trans hs
  generalize hX : u.2.1 0 (41 + 3 * x) = X at *
  generalize hY : u.2.1 0 (41 + 3 * y) = Y at *
  have sum : (X.toInt64 + Y.toInt64).toInt = X.toInt + Y.toInt := by
    rw [fb_addL] <;> rw [Int32.toInt_toInt64, Int32.toInt_toInt64] <;> unfold Ri at rx ry <;> omega
  have clsG : ∀ r, (if 0 < lg_cmp (X.toInt64 + Y.toInt64) 1000000000 then F_X11_pool_j87 t a else if 0 < lg_cmp (X.toInt64 + Y.toInt64) 0 then (F_X0_becomes t (B k) (X.toInt64 + Y.toInt64).toInt32).bind (fun r58 => if 0 ≤ r58 then if ¬ (X.toInt64 + Y.toInt64) = 0 then (F_X7_arrive t (a + 1) (nI x) ((r58.toInt64 * X.toInt64) / (X.toInt64 + Y.toInt64)).toInt32 (nI k)).bind (fun r66 => if tK r66 a = 11 then (tP r66 a 0).bind (fun q69 => if tK r66 q69 = 7 then (F_X7_arrive r66 q69 (nI y) (r58 - ((r58.toInt64 * X.toInt64) / (X.toInt64 + Y.toInt64)).toInt32) (nI k)).bind (fun r72 => some (((r58.toInt64 * X.toInt64) / (X.toInt64 + Y.toInt64)).toInt32, r72)) else none) else none) else none else some ((-4 : Int32), t)) else F_X11_pool_j87 t a) = some r → F_X11_pool t a (nI x) (nI y) (nI k) = some r := by
    intro r hr
    simp only [F_X11_pool, hk, hp, hk1, a1, xopt, Option.bind_some, if_true, n10, if_false, p1, r1, if_neg e, q4, o4.1, o4.2, if_pos ix, if_pos iy, ex, ey, vx, vy, xlet, if_pos hbk]
    exact hr
  have refG : ∀ r, ((F_X12_in (X.toInt64 + Y.toInt64) (1 : Int64) (1000000000 : Int64)).bind (fun r28 => if r28 = 0 then F_X12_pool_j71 u (nI x) (nI y) (nI k) (X.toInt64 + Y.toInt64) (-1 : Int32) else (F_X12_becomes u (nI k) (X.toInt64 + Y.toInt64)).bind (fun r32 => F_X12_pool_j71 r32.2 (nI x) (nI y) (nI k) (X.toInt64 + Y.toInt64) r32.1))) = some r → F_X12_pool u (nI x) (nI y) (nI k) = some r := by
    intro r hr
    simp only [F_X12_pool, p2, r2, a2, Option.bind_some, n10, if_false, if_neg e, t1, t2, xlet]
    exact hr
  unfold Ri at rx ry
  by_cases c : 1 ≤ X.toInt + Y.toInt ∧ X.toInt + Y.toInt ≤ 1000000000
  · have c1 : ¬ 0 < lg_cmp (X.toInt64 + Y.toInt64) 1000000000 := by rw [lg_cmp_gt, fa_lt64, sum]; show ¬ (1000000000 : Int) < _; omega
    have c2 : 0 < lg_cmp (X.toInt64 + Y.toInt64) 0 := by rw [lg_cmp_gt, fa_lt64, sum]; show (0 : Int) < _; omega
    have c3 : F_X12_in (X.toInt64 + Y.toInt64) (1 : Int64) (1000000000 : Int64) = some 1 := by
      rw [n_in, bI_t]; rw [fa_le64, fa_le64, sum]; exact c
    have c4 : ¬ (X.toInt64 + Y.toInt64) = 0 := by rw [fa_eq64, sum]; show ¬ _ = (0 : Int); omega
    have c5 : (X.toInt64 + Y.toInt64).toInt32.toInt = X.toInt + Y.toInt := by rw [n_toI] <;> rw [sum] <;> omega
    obtain ⟨g, hb⟩ := r_bec (P := X.toInt64 + Y.toInt64) rfl hI hL hk9 (by rw [sum]; omega) (by rw [sum]; omega)
    have hc := c_bS (x := (X.toInt64 + Y.toInt64).toInt32) hI hL hBk hSt hk9
    have eg : gS ls (u.2.1 0) k (X.toInt64 + Y.toInt64).toInt32 = gI (u.2.1 0 (5 + 4 * k)) (tmS ls (u.2.1 0) k) (tlS ls (u.2.1 0) k) (opS ls (u.2.1 0) k) (X.toInt64 + Y.toInt64).toInt := by
      unfold gS gB; rw [c5, sum]
    rw [← eg] at hb
    generalize hW : gS ls (u.2.1 0) k (X.toInt64 + Y.toInt64).toInt32 = W at *
    have wr : -1 ≤ W.toInt ∧ W.toInt ≤ 1000000000 := by rw [← hW]; exact gS_rng _ _ _ _
    have hu1 := hR.scr (u' := sc u g (tmS ls (u.2.1 0) k) (tlS ls (u.2.1 0) k) (opS ls (u.2.1 0) k)) rfl
    generalize hU : sc u g (tmS ls (u.2.1 0) k) (tlS ls (u.2.1 0) k) (opS ls (u.2.1 0) k) = u1 at *
    have fu : u1.2.1 0 = u.2.1 0 := by rw [← hU]; rfl
    by_cases cw : 0 ≤ W
    · have cw0 : 0 ≤ W.toInt := by rw [fa_le] at cw; exact cw
      have pm : (W.toInt64 * X.toInt64).toInt = W.toInt * X.toInt := by
        have m1 : 0 ≤ W.toInt * X.toInt := Int.mul_nonneg cw0 rx.1
        have m2 : W.toInt * X.toInt ≤ 1000000000 * 1000000000 := Int.mul_le_mul wr.2 rx.2 rx.1 (by decide)
        rw [fb_mulL] <;> rw [Int32.toInt_toInt64, Int32.toInt_toInt64] <;> omega
      have pd : ((W.toInt64 * X.toInt64) / (X.toInt64 + Y.toInt64)).toInt = W.toInt * X.toInt / (X.toInt + Y.toInt) := by
        rw [n_div (by rw [pm]; exact Int.mul_nonneg cw0 rx.1) (by rw [sum]; omega), pm, sum]
      have rng := n_div3 (b := W.toInt) (f := X.toInt) (B := X.toInt + Y.toInt) cw0 rx.1 (by omega) (by omega)
      have pt : ((W.toInt64 * X.toInt64) / (X.toInt64 + Y.toInt64)).toInt32.toInt = W.toInt * X.toInt / (X.toInt + Y.toInt) := by
        rw [n_toI] <;> rw [pd] <;> omega
      generalize hV : ((W.toInt64 * X.toInt64) / (X.toInt64 + Y.toInt64)).toInt32 = V at *
      have vr : Ri V 0 1000000000 := by unfold Ri; rw [pt]; omega
      have wv : Ri (W - V) 0 1000000000 := by unfold Ri; rw [fb_subI] <;> rw [pt] <;> omega
      have R1 := hu1.arr hx vr (nI k)
      have ar1 := c_arrive hS e7 h6 hx0 V (nI k)
      have cr1 := r_crossed u1 hx (nI k) V
      generalize hT : tSI (tSI (tSI t (a + 12) x V) (a + 13) x (tI t (a + 13) x + 1)) (a + 14) x (nI k) = t1' at *
      generalize hUU : mA (mA (mA u1 0 (41 + 3 * x) V) 0 (41 + 3 * x + 1) (u1.2.1 0 (41 + 3 * x + 1) + 1)) 0 (41 + 3 * x + 2) (nI k) = u2 at *
      have R2 := R1.arr hy wv (nI k)
      obtain ⟨B', ls', hk', hp', hk1', hS', hI', hRd', -⟩ := R1.rd
      have np : nP (u2.2.1 0) = nP (u.2.1 0) := by
        rw [← hUU, mAz, nP_u _ _ (by omega), mAz, nP_u _ _ (by omega), mAz, nP_u _ _ (by omega), fu]
      have ar2 := c_arrive hS' (hRd'.2.2.1.trans hI'.2.1.2) hI'.2.1.1 (by rw [np]; exact hy0) (W - V) (nI k)
      have cr2 := r_crossed u2 hy (nI k) (W - V)
      refine ⟨V, _, _, clsG _ ?_, refG _ ?_, R2⟩
      · rw [if_neg c1, if_pos c2, hc, Option.bind_some, if_pos cw, if_pos c4, hV, ar1, Option.bind_some, if_pos hk', hp', Option.bind_some, if_pos hk1', ar2]; rfl
      · rw [c3, Option.bind_some, if_neg (by decide), hb, Option.bind_some]
        show F_X12_pool_j71 u1 (nI x) (nI y) (nI k) (X.toInt64 + Y.toInt64) W = _
        have t1' := (told3 u1 hx).1
        rw [fu, hX] at t1'
        unfold F_X12_pool_j71 xlet
        rw [if_pos cw, t1', Option.bind_some, if_pos c4, hV]
        show (F_X12_crossed u1 (nI x) (nI k) V).bind _ = _
        rw [cr1, Option.bind_some, cr2]; rfl
    · refine ⟨-4, t, u1, clsG _ ?_, refG _ ?_, hu1⟩
      · rw [if_neg c1, if_pos c2, hc, Option.bind_some, if_neg cw]
      · rw [c3, Option.bind_some, if_neg (by decide), hb, Option.bind_some]
        unfold F_X12_pool_j71
        rw [if_neg cw]
  · have c3 : F_X12_in (X.toInt64 + Y.toInt64) (1 : Int64) (1000000000 : Int64) = some 0 := by
      rw [n_in, bI_f]; rw [fa_le64, fa_le64, sum]; exact c
    refine ⟨-4, t, u, clsG _ ?_, refG _ ?_, hR⟩
    · by_cases d : X.toInt + Y.toInt ≤ 0
      · have c1 : ¬ 0 < lg_cmp (X.toInt64 + Y.toInt64) 1000000000 := by rw [lg_cmp_gt, fa_lt64, sum]; show ¬ (1000000000 : Int) < _; omega
        have c2 : ¬ 0 < lg_cmp (X.toInt64 + Y.toInt64) 0 := by rw [lg_cmp_gt, fa_lt64, sum]; show ¬ (0 : Int) < _; omega
        rw [if_neg c1, if_neg c2]; rfl
      · have c1 : 0 < lg_cmp (X.toInt64 + Y.toInt64) 1000000000 := by rw [lg_cmp_gt, fa_lt64, sum]; show (1000000000 : Int) < _; omega
        rw [if_pos c1]; rfl
    · rw [c3, Option.bind_some, if_pos rfl]
      unfold F_X12_pool_j71
      rw [if_neg (by decide)]
theorem st_gives : sT_gives RR := by
  intro t a u z0 z1 z2 hR
  obtain ⟨B, ls, hk, hp, hk1, hS, hI, hRd, hL, hBg, hSt⟩ := hR.rd
  obtain ⟨q4, q5, q6, -, -, o4, o5, o6, -⟩ := pe_f hS
  rcases d_pe hS hI hRd z0 with ⟨p1, p2⟩ | ⟨x, hx0, hx, rfl, p1, p2⟩
  · exact ⟨-1, t, u, by simp only [F_X11_gives, F_X11_gives_j38, hk, hp, hk1, p1, Option.bind_some, if_true], by simp only [F_X12_gives, F_X12_gives_j33, p2, Option.bind_some, if_true], hR⟩
  rcases d_pe hS hI hRd z1 with ⟨r1, r2⟩ | ⟨y, hy0, hy, rfl, r1, r2⟩
  · exact ⟨-1, t, u, by simp only [F_X11_gives, F_X11_gives_j38, hk, hp, hk1, p1, Option.bind_some, if_true, n10, if_false, r1], by simp only [F_X12_gives, F_X12_gives_j33, p2, Option.bind_some, if_true, n10, if_false, r2], hR⟩
  by_cases e : nI x = nI y
  · exact ⟨-1, t, u, by simp only [F_X11_gives, F_X11_gives_j38, hk, hp, hk1, p1, Option.bind_some, if_true, n10, if_false, r1, if_pos e], by simp only [F_X12_gives, F_X12_gives_j33, p2, Option.bind_some, n10, if_false, r2, if_pos e], hR⟩
  have hxy : x ≠ y := fun h => e (by rw [h])
  rcases d_in z2 1 1000000000 (A := 1) (B := 1000000000) rfl rfl with ⟨-, n2, n3⟩ | ⟨-, n2, n3, n4⟩
  · refine ⟨-1, t, u, ?_, by simp only [F_X12_gives, F_X12_gives_j33, p2, Option.bind_some, if_true, n10, if_false, r2, if_neg e, n2], hR⟩
    have n3 : z2.toInt < 1 ∨ 1000000000 < z2.toInt := n3
    by_cases c : z2 < 1
    · simp only [F_X11_gives, F_X11_gives_j38, hk, hp, hk1, p1, Option.bind_some, if_true, n10, if_false, r1, if_neg e, if_pos c]
    · have c' : ¬ z2 ≤ (1000000000 : Int32) := by rw [fa_lt] at c; rw [fa_le]; change ¬ z2.toInt < 1 at c; show ¬ z2.toInt ≤ 1000000000; omega
      simp only [F_X11_gives, F_X11_gives_j38, hk, hp, hk1, p1, Option.bind_some, if_true, n10, if_false, r1, if_neg e, if_neg c, if_neg c']
  have n3 : 1 ≤ z2.toInt := n3
  have n4 : z2.toInt ≤ 1000000000 := n4
  have l1 : ¬ z2 < 1 := by rw [fa_lt]; show ¬ z2.toInt < 1; omega
  have l2 : z2 ≤ (1000000000 : Int32) := by rw [fa_le]; exact n4
  have t1 := (told3 u hx).1
  have t2 := (told3 u hy).1
  have ix : xIn (nI x) 6 := n_xIn hx (by decide)
  have iy : xIn (nI y) 6 := n_xIn hy (by decide)
  have ex : (nI x).toNatClampNeg = x := n_cl (by omega)
  have ey : (nI y).toNatClampNeg = y := n_cl (by omega)
  have vx : tI t (a + 12) x = u.2.1 0 (41 + 3 * x) := (hRd.2.2.2.2.1 x hx).1
  have vy : tI t (a + 12) y = u.2.1 0 (41 + 3 * y) := (hRd.2.2.2.2.1 y hy).1
  have rx := hI.2.2.2.2.2.2 x hx0
  have ry := hI.2.2.2.2.2.2 y hy0
  unfold Ri at rx ry
  have wx := (where3 (k := x)).1
  have wy := (where3 (k := y)).1
  have jx : xIn (nI (41 + 3 * x)) 303 := n_xIn (by omega) (by decide)
  have jy : xIn (nI (41 + 3 * y)) 303 := n_xIn (by omega) (by decide)
  have dx : (nI (41 + 3 * x)).toNatClampNeg = 41 + 3 * x := n_cl (by omega)
  have dy : (nI (41 + 3 * y)).toNatClampNeg = 41 + 3 * y := n_cl (by omega)
  generalize hX : u.2.1 0 (41 + 3 * x) = X at *
  generalize hY : u.2.1 0 (41 + 3 * y) = Y at *
  have sum : (Y.toInt64 + z2.toInt64).toInt = Y.toInt + z2.toInt := by
    rw [fb_addL] <;> rw [Int32.toInt_toInt64, Int32.toInt_toInt64] <;> omega
  by_cases c : X < z2
  · exact ⟨-4, t, u, by simp only [F_X11_gives, F_X11_gives_j77, hk, hp, hk1, p1, Option.bind_some, if_true, n10, if_false, r1, if_neg e, if_neg l1, if_pos l2, q4, o4.1, o4.2, if_pos ix, if_pos iy, ex, ey, vx, vy, xlet, if_pos c], by simp only [F_X12_gives, F_X12_gives_j61, p2, Option.bind_some, n10, if_false, r2, if_neg e, n2, t1, if_pos c], hR⟩
  by_cases d : Y.toInt + z2.toInt ≤ 1000000000
  · have d1 : lg_cmp (Y.toInt64 + z2.toInt64) 1000000000 ≤ 0 := by rw [lg_cmp_le, fa_le64, sum]; exact d
    have d2 : F_X12_isPurse (Y.toInt64 + z2.toInt64) = some 1 := by
      unfold F_X12_isPurse; rw [n_in, bI_t]
      · rfl
      · rw [fa_le64, fa_le64, sum]; exact ⟨by show (0 : Int) ≤ _; omega, d⟩
    have d3 : (Y.toInt64 + z2.toInt64).toInt32 = Y + z2 := by
      apply Int32.toInt_inj.1
      rw [n_toI, sum, fb_addI] <;> (try rw [sum]) <;> omega
    have cX : z2.toInt ≤ X.toInt := by rw [fa_lt] at c; omega
    have r3 := (hR.wP (x := a + 12) (p := x) (i := 41 + 3 * x) (v := X - z2) (by omega) (fun _ => by unfold Ri; rw [fb_subI] <;> omega)).wP (x := a + 12) (p := y) (i := 41 + 3 * y) (v := Y + z2) (by omega) (fun _ => by unfold Ri; rw [fb_addI] <;> omega)
    refine ⟨Y + z2, _, _, ?_, ?_, r3⟩
    · simp only [F_X11_gives, hk, hp, hk1, p1, Option.bind_some, if_true, n10, if_false, r1, if_neg e, if_neg l1, if_pos l2, q4, o4.1, o4.2, if_pos ix, if_pos iy, ex, ey, vx, vy, xlet, if_neg c, if_pos d1, tK_SI, tN_SI, tP_SI, d3]
    · have g1 : (mA u 0 (41 + 3 * x) (X - z2)).2.1 0 (41 + 3 * y) = Y := by rw [mAz, upd_n _ _ (by omega)]; exact hY
      have g2 : F_X12_told (mA (mA u 0 (41 + 3 * x) (X - z2)) 0 (41 + 3 * y) (Y + z2)) (nI y) 0 = some (Y + z2) := by rw [(told3 _ hy).1, mAz, upd_s]
      simp only [F_X12_gives, p2, Option.bind_some, n10, if_false, r2, if_neg e, n2, t1, if_neg c, t2, d2, wx, wy, if_pos jx, if_pos jy, dx, dy, hX, xlet, g1, g2]
  · have d1 : ¬ lg_cmp (Y.toInt64 + z2.toInt64) 1000000000 ≤ 0 := by rw [lg_cmp_le, fa_le64, sum]; exact d
    have d2 : F_X12_isPurse (Y.toInt64 + z2.toInt64) = some 0 := by
      unfold F_X12_isPurse; rw [n_in, bI_f]
      · rfl
      · rw [fa_le64, fa_le64, sum]; intro h; exact d h.2
    exact ⟨-4, t, u, by simp only [F_X11_gives, F_X11_gives_j77, hk, hp, hk1, p1, Option.bind_some, if_true, n10, if_false, r1, if_neg e, if_neg l1, if_pos l2, q4, o4.1, o4.2, if_pos ix, if_pos iy, ex, ey, vx, vy, xlet, if_neg c, if_neg d1], by simp only [F_X12_gives, F_X12_gives_j61, p2, Option.bind_some, n10, if_false, r2, if_neg e, n2, t1, if_neg c, t2, d2, if_true], hR⟩
theorem st_forget : sT_forget RR := by
  intro t a u hR
  obtain ⟨B, ls, hk, hp, hk1, hS, hI, hRd, hL, hBg, hSt⟩ := hR.rd
  refine ⟨u.2.1 0 2, tSI t (a + 1) 10 (nI 0), mA u 0 2 (nI 0), ?_, ?_, hR.w10 (by decide)⟩
  · simp only [F_X11_forget, hk, hp, hk1, Option.bind_some, if_true, xlet, hRd.2.2.2.1]; rfl
  · simp only [F_X12_forget, if_pos xi2, cl2, xlet]; rfl
theorem st_tale : sT_tale RR := by
  intro t a u z0 z1 hR
  obtain ⟨B, ls, hk, hp, hk1, hS, hI, hRd, hL, hBg, hSt⟩ := hR.rd
  rcases d_in z0 0 99999 (A := 0) (B := 99999) rfl rfl with ⟨p1, p2, -⟩ | ⟨p1, p2, -, -⟩
  · exact ⟨-1, t, u, by simp only [F_X11_tale, F_X11_tale_j20, p1, Option.bind_some, if_true], by simp only [F_X12_tale, F_X12_tale_j24, p2, Option.bind_some, if_true], hR⟩
  rcases d_in z1 0 99999 (A := 0) (B := 99999) rfl rfl with ⟨r1, r2, -⟩ | ⟨r1, r2, -, -⟩
  · exact ⟨-1, t, u, by simp only [F_X11_tale, F_X11_tale_j20, p1, r1, Option.bind_some, if_true, n10, if_false], by simp only [F_X12_tale, F_X12_tale_j24, p2, r2, Option.bind_some, if_true, n10, if_false], hR⟩
  obtain ⟨h6, hs⟩ := hI.2.2.1
  have e10 := hRd.2.2.2.1
  generalize hn : nT (u.2.1 0) = n at h6 hs
  rw [hs] at e10
  by_cases c : n = 6
  · subst c
    exact ⟨-2, t, u, by simp only [F_X11_tale, p1, r1, Option.bind_some, n10, if_false, hk, hp, hk1, if_true, F_X7_hear, e10, if_neg (show ¬ nI 6 < (6 : Int32) by decide)], by simp only [F_X12_tale, p2, r2, Option.bind_some, n10, if_false, if_pos xi2, cl2, hs, if_pos (show nI 6 = (6 : Int32) from rfl)], hR⟩
  have c6 : nI n < (6 : Int32) := nI_lt (a := n) (b := 6) (by omega) (by decide)
  have c6' : ¬ nI n = (6 : Int32) := fun e => c ((nI_eq (a := n) (b := 6) (by omega) (by decide)).1 e)
  obtain ⟨-, -, -, q8, q9, -, -, -, o8, o9⟩ := pe_f hS
  have ix : xIn (nI n) 6 := n_xIn (by omega) (by decide)
  have ec : (nI n).toNatClampNeg = n := n_cl (by omega)
  have w0 : (59 : Int32) + (2 : Int32) * nI n = nI (59 + 2 * n) := by show nI 59 + nI 2 * nI n = _; rw [pk_mul, nI_add]
  have i0 : xIn (nI (59 + 2 * n)) 303 := n_xIn (by omega) (by decide)
  have i1 : xIn (nI (59 + 2 * n + 1)) 303 := n_xIn (by omega) (by decide)
  have d0 : (nI (59 + 2 * n)).toNatClampNeg = 59 + 2 * n := n_cl (by omega)
  have d1 : (nI (59 + 2 * n + 1)).toNatClampNeg = 59 + 2 * n + 1 := n_cl (by omega)
  have r3 := ((hR.wP (x := a + 15) (p := n) (i := 59 + 2 * n) (v := z0) (by omega) (fun _ => by omega)).wP (x := a + 16) (p := n) (i := 59 + 2 * n + 1) (v := z1) (by omega) (fun h => by omega)).w10 (m := n + 1) (by omega)
  refine ⟨nI n, _, _, ?_, ?_, r3⟩
  · have g : tI (tSI (tSI t (a + 15) n z0) (a + 16) n z1) (a + 1) 10 = nI n := by rw [tI_SIn _ _ _ _ (by omega), tI_SIn _ _ _ _ (by omega)]; exact e10
    simp only [F_X11_tale, p1, r1, Option.bind_some, n10, if_false, hk, hp, hk1, if_true, F_X7_hear, e10, if_pos c6, xlet, q8, q9, o8.1, o8.2, o9.1, o9.2, if_pos ix, ec, tK_SI, tN_SI, tP_SI, g, nI_1]
  · have g1 : (mA u 0 (59 + 2 * n) z0).2.1 0 2 = nI n := by rw [mAz, upd_n _ _ (by omega)]; exact hs
    have g2 : (mA (mA u 0 (59 + 2 * n) z0) 0 (59 + 2 * n + 1) z1).2.1 0 2 = nI n := by rw [mAz, upd_n _ _ (by omega)]; exact g1
    have g3 : (mA (mA (mA u 0 (59 + 2 * n) z0) 0 (59 + 2 * n + 1) z1) 0 2 (nI (n + 1))).2.1 0 2 = nI (n + 1) := by rw [mAz, upd_s]
    simp only [F_X12_tale, p2, r2, Option.bind_some, n10, if_false, if_pos xi2, cl2, hs, if_neg c6', xlet, w0, nI_1, if_pos i0, if_pos i1, d0, d1, g1, g2, g3, nI_pred]
