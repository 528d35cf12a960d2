/-! ===== pure mathematics 23: the devil ===== -/
theorem upd_same (g : Nat → Int32) (i : Nat) : upd g i (g i) = g := by
  funext j
  rw [upd2]
  by_cases c : j = i
  · rw [if_pos c, c]
  · rw [if_neg c]
theorem upd_upd (g : Nat → Int32) (i : Nat) (v w : Int32) : upd (upd g i v) i w = upd g i w := by
  funext j
  rw [upd2, upd2, upd2]
  by_cases c : j = i
  · rw [if_pos c, if_pos c]
  · rw [if_neg c, if_neg c, if_neg c]
theorem lp_devil {t0 : xT} {a p k N : Nat} {s : Nat → Int32} {ls : yLS} {L : Nat} {purse : Int32} (hS : SkC t0 a) (hI : Iv s) (hL : LawC t0 a (a + 1) L ls s) (hd : tI t0 (a + 1) 2 = s 3) (hk : k < nB s) (hN : N < 1000) (hp : Pu purse) (hpp : t0.1 ≤ p) : ∀ m n t u w, m ≤ 1000 → m + 1 < n → Ol t0 t (fun _ => False) (fun _ => False) → p < t.1 → (tK t p = kK (s (5 + 4 * k)) ∧ tI t p 0 = s (5 + 4 * k) ∧ tI t p 1 = nI k ∧ tI t p 2 = s (5 + 4 * k + 1) ∧ tI t p 4 = s (5 + 4 * k + 3)) → u.2.1 0 = upd s (5 + 4 * k + 2) w → ∃ v t' u', F_X11_devil_l49 n t a purse (nI N) (some p) (nI m - 1) = some (v, t') ∧ F_X12_devil_l50 n u (nI k) purse (nI N) (s (5 + 4 * k + 2)) (-1) (nI m - 1) = some (v, u') ∧ Ol t0 t' (fun _ => False) (fun _ => False) ∧ u'.2.1 0 = s ∧ Cr u' = Cr (u.1, fun j => if j = 0 then u'.2.1 0 else u.2.1 j, u.2.2) := by
  have k9 : k < 9 := by have := hI.1.1; omega
  have hl := hS.lt
  have at2 : F_X12_at (nI k) 2 = some (nI (5 + 4 * k + 2)) := n_at k 2
  have i0 : xIn (nI (5 + 4 * k + 2)) 303 := n_xIn (by omega) (by decide)
  have d0 : (nI (5 + 4 * k + 2)).toNatClampNeg = 5 + 4 * k + 2 := n_cl (by omega)
  have j97 : ∀ u w y5, u.2.1 0 = upd s (5 + 4 * k + 2) w → ∃ u', F_X12_devil_j97 u (nI k) (s (5 + 4 * k + 2)) y5 = some (if 0 ≤ y5 then y5 else -3, u') ∧ u'.2.1 0 = s ∧ Cr u' = Cr (u.1, fun j => if j = 0 then u'.2.1 0 else u.2.1 j, u.2.2) := by
    intro u w y5 hu
    refine ⟨mA u 0 (5 + 4 * k + 2) (s (5 + 4 * k + 2)), ?_, ?_, rfl⟩
    · simp only [F_X12_devil_j97, at2, Option.bind_some, if_pos i0, d0, xlet, n_none]
    · rw [mAz, hu, upd_upd, upd_same]
  intro m
  induction m with
  | zero =>
    intro n t u w hm1 hm o hpt hbk hu
    cases n with
    | zero => omega
    | succ n =>
      obtain ⟨u', g1, g2, g3⟩ := j97 u w (-1) hu
      have neg : nI 0 - (1 : Int32) < 0 := by decide
      refine ⟨-3, t, u', ?_, ?_, o, g2, g3⟩
      · unfold F_X11_devil_l49
        simp only [xopt, if_pos neg]
      · unfold F_X12_devil_l50
        rw [if_pos neg, g1, if_neg (by decide)]
  | succ m ih =>
    intro n t u w hm1 hm o hpt hbk hu
    cases n with
    | zero => omega
    | succ n =>
      have em : nI (m + 1) - (1 : Int32) = nI m := nI_pred m
      have nn : ¬ nI m < 0 := nI_pos (by omega)
      have en : nI m + (-1 : Int32) = nI m - 1 := (Int32.sub_eq_add_neg _ _).symm
      have iv : Iv (upd s (5 + 4 * k + 2) (nI m)) := hI.br (w := 2) k9 (by decide) ⟨fun h => by omega, fun h => by omega, fun _ => by unfold Ri; rw [nI_toInt (by omega)]; omega, fun h => by omega⟩
      have nBe : nB (upd s (5 + 4 * k + 2) (nI m)) = nB s := nB_u _ _ (by omega)
      have lq : Lq s (upd s (5 + 4 * k + 2) (nI m)) := ⟨upd_n _ _ (by omega), fun j hj => upd_n _ _ (by omega)⟩
      have o1 : Ol t0 (tSI t p 3 (nI m)) (fun _ => False) (fun _ => False) := o.tr2 (Ol.SI (X := fun q => q = p) (Y := fun _ => False) _ _ _ rfl) (fun q q1 q2 => by omega) (fun _ _ h => h)
      have hS1 := hS.ol o1 id id id id
      have hL1 : LawC (tSI t p 3 (nI m)) a (a + 1) L ls (upd s (5 + 4 * k + 2) (nI m)) := lq.lawE (hL.ol3 o1 (by rw [o1.2.2.2 (a + 1) (by omega) id]) id (fun _ _ _ => id))
      have hbk' := hbk
      obtain ⟨b0, b1, b2, b3, b4⟩ := hbk
      have bk1 : BkC (tSI t p 3 (nI m)) p k (upd s (5 + 4 * k + 2) (nI m)) := by
        unfold BkC
        rw [tI_SI]
        have e0 : upd s (5 + 4 * k + 2) (nI m) (5 + 4 * k) = s (5 + 4 * k) := upd_n _ _ (by omega)
        rw [e0, upd_n _ _ (show 5 + 4 * k + 1 ≠ 5 + 4 * k + 2 by omega), upd_s, upd_n _ _ (show 5 + 4 * k + 3 ≠ 5 + 4 * k + 2 by omega), upd_n _ _ (show 0 ≠ 3 by decide), upd_n _ _ (show 1 ≠ 3 by decide), upd_n _ _ (show 2 ≠ 3 by decide), upd_s, upd_n _ _ (show 4 ≠ 3 by decide)]
        exact ⟨b0, b1, b2, b3, rfl, b4⟩
      have hLat := hL.2.1.at
      obtain ⟨t2, c1, c2⟩ := c_settle hL1 iv bk1 (show p ≠ L by omega)
      have s3 : upd s (5 + 4 * k + 2) (nI m) 3 = s 3 := upd_n _ _ (by omega)
      rw [s3] at c1
      have o2 : Ol t0 t2 (fun _ => False) (fun _ => False) := o1.tr2 c2.ol (fun q q1 q2 => by omega) (fun _ _ h => h)
      have hm' := tm_rng (ls := ls) iv (k := k) (by rw [nBe]; exact hk)
      have hLS := hL1.S
      have hl' := tl_rng iv hLS (k := k) (by rw [nBe]; exact hk)
      unfold Ri at hm' hl'
      have bk2 := c2.bk bk1
      have hb2 : isBk (tK t2 p) := by rw [bk2.1]; exact kK_bk _
      have bec : ∀ x, F_X0_becomes t2 p x = some (gS ls (upd s (5 + 4 * k + 2) (nI m)) k x) := fun x => c_b bk2.1 c2.2.2.2.2.2.2.1 c2.2.2.2.2.2.2.2.1 c2.2.2.2.2.2.2.2.2 (by omega) (by omega) hl'.1 (by omega)
      have bA := c_bA hb2 bec hN purse
      have hu1 : (mA u 0 (5 + 4 * k + 2) (nI m)).2.1 0 = upd s (5 + 4 * k + 2) (nI m) := by rw [mAz, hu, upd_upd]
      obtain ⟨g, ha⟩ := r_aM (N := N) (v := purse) hu1 iv hLS (k := k) (by rw [nBe]; exact hk) hN (by rw [lt0]; have := hp.1; omega)
      have hbk2 : tK t2 p = kK (s (5 + 4 * k)) ∧ tI t2 p 0 = s (5 + 4 * k) ∧ tI t2 p 1 = nI k ∧ tI t2 p 2 = s (5 + 4 * k + 1) ∧ tI t2 p 4 = s (5 + 4 * k + 3) := by
        obtain ⟨q0, q1, q2, q3, q4, q5⟩ := bk2
        have e0 : upd s (5 + 4 * k + 2) (nI m) (5 + 4 * k) = s (5 + 4 * k) := upd_n _ _ (by omega)
        rw [e0] at q0 q1
        rw [upd_n _ _ (by omega)] at q3 q5
        exact ⟨q0, q1, q2, q3, q5⟩
      have hpt2 : p < t2.1 := by have : t2.1 = t.1 := c2.2.1; omega
      have k1 : tK (tSI t p 3 (nI m)) (a + 1) = 7 := hS1.2.2.2.2.2.2.2.2.2.2.2.2.1.1
      have d1 : tI (tSI t p 3 (nI m)) (a + 1) 2 = s 3 := by rw [o1.2.2.1 (a + 1) (by omega) id]; exact hd
      have hbt : isBk (tK t p) := by rw [b0]; exact kK_bk _
      have hbt1 : isBk (tK (tSI t p 3 (nI m)) p) := hbt
      generalize hV : itB (gS ls (upd s (5 + 4 * k + 2) (nI m)) k) N purse = V at *
      have cls : ∀ r, (if V < purse then F_X11_devil_l49 n t2 a purse (nI N) (some p) (nI m - 1) else some (nI m, t2)) = some r → F_X11_devil_l49 (n + 1) t a purse (nI N) (some p) (nI (m + 1) - 1) = some r := by
        intro r hr
        rw [em]
        unfold F_X11_devil_l49
        show (if nI m < 0 then _ else if isBk (tK t p) then (if tK (tSI t p 3 (nI m)) a = 11 then _ else _) else _) = _
        rw [if_neg nn, if_pos hbt, if_pos hS1.1, hS1.2.1, Option.bind_some, if_pos k1, hL1.1, Option.bind_some, Option.bind_some, if_pos k1, d1, c1, Option.bind_some, bA, Option.bind_some]
        show (if V < purse then F_X11_devil_l49 n t2 a purse (nI N) (some p) (nI m + -1) else _) = _
        rw [en]; exact hr
      have rfe : ∀ r, (if V < purse then F_X12_devil_l50 n (sc (mA u 0 (5 + 4 * k + 2) (nI m)) g (tmS ls (upd s (5 + 4 * k + 2) (nI m)) k) (tlS ls (upd s (5 + 4 * k + 2) (nI m)) k) (opS ls (upd s (5 + 4 * k + 2) (nI m)) k)) (nI k) purse (nI N) (s (5 + 4 * k + 2)) (-1) (nI m - 1) else F_X12_devil_l50 n (sc (mA u 0 (5 + 4 * k + 2) (nI m)) g (tmS ls (upd s (5 + 4 * k + 2) (nI m)) k) (tlS ls (upd s (5 + 4 * k + 2) (nI m)) k) (opS ls (upd s (5 + 4 * k + 2) (nI m)) k)) (nI k) purse (nI N) (s (5 + 4 * k + 2)) (nI m) (nI m - 1)) = some r → F_X12_devil_l50 (n + 1) u (nI k) purse (nI N) (s (5 + 4 * k + 2)) (-1) (nI (m + 1) - 1) = some r := by
        intro r hr
        rw [em]
        unfold F_X12_devil_l50 F_X12_devil_j89
        simp only [xlet]
        rw [if_neg nn, if_neg (by decide), at2, Option.bind_some, if_pos i0, d0, ha, Option.bind_some]
        show (if V < purse then F_X12_devil_l50 n _ (nI k) purse (nI N) _ (-1) (nI m + -1) else F_X12_devil_l50 n _ (nI k) purse (nI N) _ (nI m) (nI m + -1)) = _
        rw [en]; exact hr
      by_cases c : V < purse
      · obtain ⟨v, t', u', h1, h2, h3, h4, h5⟩ := ih n t2 (sc (mA u 0 (5 + 4 * k + 2) (nI m)) g (tmS ls (upd s (5 + 4 * k + 2) (nI m)) k) (tlS ls (upd s (5 + 4 * k + 2) (nI m)) k) (opS ls (upd s (5 + 4 * k + 2) (nI m)) k)) (nI m) (by omega) (by omega) o2 hpt2 hbk2 hu1
        exact ⟨v, t', u', cls _ (by rw [if_pos c]; exact h1), rfe _ (by rw [if_pos c]; exact h2), h3, h4, h5⟩
      · cases n with
        | zero => omega
        | succ n =>
          obtain ⟨u', g1, g2, g3⟩ := j97 (sc (mA u 0 (5 + 4 * k + 2) (nI m)) g (tmS ls (upd s (5 + 4 * k + 2) (nI m)) k) (tlS ls (upd s (5 + 4 * k + 2) (nI m)) k) (opS ls (upd s (5 + 4 * k + 2) (nI m)) k)) (nI m) (nI m) hu1
          refine ⟨nI m, t2, u', cls _ (by rw [if_neg c]), rfe _ ?_, o2, g2, g3⟩
          rw [if_neg c]
          unfold F_X12_devil_l50
          rw [if_pos (nI_pos' (by omega))] at g1
          by_cases d : nI m - 1 < 0
          · rw [if_pos d]; exact g1
          · rw [if_neg d, if_pos (nI_pos' (by omega))]; exact g1
theorem st_devil : sT_devil RR := by
  intro t a u z0 z1 z2 hR
  obtain ⟨B, ls, hk, hp, hk1, hS, hI, hRd, hL, hBg, hSt⟩ := hR.rd
  obtain ⟨-, -, -, -, -, -, L, ls2, hLw⟩ := hR.more
  have hl := hS.lt
  rcases d_br hS hI hRd hBg z0 with ⟨b1, b2⟩ | ⟨k, hk9, k9, rfl, b1, b2, hBk, hbk⟩
  · exact ⟨-1, t, u, by simp only [F_X11_devil, F_X11_devil_j35, hk, hp, hk1, b1, xopt, if_true, Option.bind_some], by simp only [F_X12_devil, F_X12_devil_j32, b2, if_true, Option.bind_some], hR⟩
  rcases d_in z1 0 99999 (A := 0) (B := 99999) rfl rfl with ⟨p1, p2, -⟩ | ⟨p1, p2, p3, p4⟩
  · exact ⟨-1, t, u, by simp only [F_X11_devil, F_X11_devil_j35, hk, hp, hk1, b1, xopt, p1, if_true, Option.bind_some], by simp only [F_X12_devil, F_X12_devil_j32, b2, p2, if_true, Option.bind_some, n10, if_false], hR⟩
  rcases d_in z2 1 20 (A := 1) (B := 20) rfl rfl with ⟨n1, n2, -⟩ | ⟨n1, n2, n3, n4⟩
  · exact ⟨-1, t, u, by simp only [F_X11_devil, F_X11_devil_j35, hk, hp, hk1, b1, xopt, p1, n1, if_true, Option.bind_some, n10, if_false], by simp only [F_X12_devil, F_X12_devil_j32, b2, p2, n2, if_true, Option.bind_some, n10, if_false], hR⟩
  obtain ⟨N, hN, rfl⟩ := nI_of2 (x := z2) (M := 20) (n := 20) rfl (by rw [fa_lt]; change (1 : Int) ≤ _ at n3; show ¬ _ < (0 : Int); omega) (by rw [fa_le]; exact n4)
  obtain ⟨g0, g1, g2, g3, g4, g5⟩ := hBk
  have tw : F_X0_twin t (B k) = some (some t.1, md t (u.2.1 0 (5 + 4 * k)) (nI k) (tI t (B k) 2) (tI t (B k) 3) (tI t (B k) 4)) := by
    unfold F_X0_twin
    rw [if_pos hbk, g1, g2, c_made (kd5 hI hk9), Option.bind_some]; rfl
  have o1 := md_ol t (u.2.1 0 (5 + 4 * k)) (nI k) (tI t (B k) 2) (tI t (B k) 3) (tI t (B k) 4)
  obtain ⟨q0, q1, q2, q3, q4⟩ := md_I t (u.2.1 0 (5 + 4 * k)) (nI k) (tI t (B k) 2) (tI t (B k) 3) (tI t (B k) 4)
  have p4 : z1.toInt ≤ 99999 := p4
  obtain ⟨v, t', u', h1, h2, h3, h4, h5⟩ := lp_devil (p := t.1) (k := k) (N := N) (purse := z1) hS hI hLw hRd.2.1 hk9 (by omega) ⟨p3, by omega⟩ (Nat.le_refl _) 1000 xFuel (md t (u.2.1 0 (5 + 4 * k)) (nI k) (tI t (B k) 2) (tI t (B k) 3) (tI t (B k) 4)) u (u.2.1 0 (5 + 4 * k + 2)) (Nat.le_refl _) (xF_big (by omega)) o1 (by rw [md_1]; omega) ⟨md_K _ _ _ _ _ _, q0, q1, q2.trans g3, q4.trans g5⟩ (upd_same _ _).symm
  have e999 : nI 1000 - (1 : Int32) = 999 := nI_pred 999
  rw [e999] at h1 h2
  have e0 : Cr (u.1, fun j => if j = 0 then u.2.1 0 else u.2.1 j, u.2.2) = Cr u := rfl
  refine ⟨v, t', u', ?_, ?_, (hR.scratch (h3.w (fun _ _ h => h.elim) (fun _ _ h => h))).scr (h5.trans (by rw [h4]; exact e0))⟩
  · simp only [F_X11_devil, hk, hp, hk1, b1, xopt, p1, n1, if_true, Option.bind_some, n10, if_false, if_pos hbk, tw]
    generalize xFuel = W at h1 ⊢
    exact h1
  · have it2 : F_X12_its u (nI k) 2 = some (u.2.1 0 (5 + 4 * k + 2)) := n_its u (w := 2) (by omega)
    unfold F_X12_devil
    rw [b2, Option.bind_some, if_neg (show ¬ (1 : Int32) = 0 by decide), p2, Option.bind_some, if_neg (show ¬ (1 : Int32) = 0 by decide), n2, Option.bind_some, if_neg (show ¬ (1 : Int32) = 0 by decide), it2, Option.bind_some]
    exact h2
