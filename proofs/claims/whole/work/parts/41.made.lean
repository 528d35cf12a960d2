/-! ===== pure mathematics 20: bridges are made, the day ===== -/
/-- a bridge as it is told, in a new object -/
def md (t : xT) (kd n tm tl ft : Int32) : xT := tSI (tSI (tSI (tSI (tSI (tNew t (kK kd) 0) t.1 0 kd) t.1 1 n) t.1 2 tm) t.1 3 tl) t.1 4 ft
theorem md_ol (t : xT) (kd n tm tl ft : Int32) : Ol t (md t kd n tm tl ft) (fun _ => False) (fun _ => False) := by
  unfold md
  exact (((((Ol.N t _ 0).tr2 (Ol.SI (X := fun q => q = t.1) (Y := fun _ => False) _ _ _ rfl) (fun q q1 q2 => by omega) (fun _ _ h => h.elim)).tr2 (Ol.SI (X := fun q => q = t.1) (Y := fun _ => False) _ _ _ rfl) (fun q q1 q2 => by omega) (fun _ _ h => h.elim)).tr2 (Ol.SI (X := fun q => q = t.1) (Y := fun _ => False) _ _ _ rfl) (fun q q1 q2 => by omega) (fun _ _ h => h.elim)).tr2 (Ol.SI (X := fun q => q = t.1) (Y := fun _ => False) _ _ _ rfl) (fun q q1 q2 => by omega) (fun _ _ h => h.elim)).tr2 (Ol.SI (X := fun q => q = t.1) (Y := fun _ => False) _ _ _ rfl) (fun q q1 q2 => by omega) (fun _ _ h => h.elim)
theorem md_1 (t : xT) (kd n tm tl ft : Int32) : (md t kd n tm tl ft).1 = t.1 + 1 := rfl
theorem md_K (t : xT) (kd n tm tl ft : Int32) : tK (md t kd n tm tl ft) t.1 = kK kd := tK_N t (kK kd) 0
theorem md_I (t : xT) (kd n tm tl ft : Int32) : tI (md t kd n tm tl ft) t.1 0 = kd ∧ tI (md t kd n tm tl ft) t.1 1 = n ∧ tI (md t kd n tm tl ft) t.1 2 = tm ∧ tI (md t kd n tm tl ft) t.1 3 = tl ∧ tI (md t kd n tm tl ft) t.1 4 = ft := by
  unfold md
  rw [tI_SI, tI_SI, tI_SI, tI_SI, tI_SI]
  simp only [upd2]
  refine ⟨?_, ?_, ?_, ?_, ?_⟩ <;> simp
theorem md_bk (t : xT) {k : Nat} {s : Nat → Int32} {kd tm tl ft : Int32} (h0 : s (5 + 4 * k) = kd) (h1 : s (5 + 4 * k + 1) = tm) (h2 : s (5 + 4 * k + 2) = tl) (h3 : s (5 + 4 * k + 3) = ft) : BkC (md t kd (nI k) tm tl ft) t.1 k s := by
  obtain ⟨g0, g1, g2, g3, g4⟩ := md_I t kd (nI k) tm tl ft
  unfold BkC
  rw [h0, h1, h2, h3]
  exact ⟨md_K _ _ _ _ _ _, g0, g1, g2, g3, g4⟩
theorem c_made {t : xT} {kd n tm tl ft : Int32} (h : kd = 1 ∨ kd = 2 ∨ kd = 3 ∨ kd = 4 ∨ kd = 5) : F_X11_made t kd n tm tl ft = some (some t.1, md t kd n tm tl ft) := by
  have init : ∀ k, isBk k → F_X0_init (tNew t k 0) t.1 kd n tm tl ft = some (tSI (tSI (tSI (tSI (tSI (tNew t k 0) t.1 0 kd) t.1 1 n) t.1 2 tm) t.1 3 tl) t.1 4 ft) := by
    intro k hk
    have hb : isBk (tK (tNew t k 0) t.1) := by rw [tK_N]; exact hk
    unfold F_X0_init
    simp only [xlet]
    rw [if_pos hb]
  unfold md
  rcases h with h | h | h | h | h <;> subst h
  · have i := init 6 (by decide)
    simp only [F_X11_made, F_X6_init, xlet, i, Option.bind_some, show ¬ (1 : Int32) = 2 by decide, show ¬ (1 : Int32) = 3 by decide, show ¬ (1 : Int32) = 4 by decide, show ¬ (1 : Int32) = 5 by decide, if_false, show kK 1 = 6 by decide]
  · have i := init 9 (by decide)
    simp only [F_X11_made, F_X9_init, xlet, i, Option.bind_some, if_true, show kK 2 = 9 by decide]
  · have i := init 5 (by decide)
    simp only [F_X11_made, F_X5_init, F_X9_init, xlet, i, Option.bind_some, show ¬ (3 : Int32) = 2 by decide, if_false, if_true, show kK 3 = 5 by decide]
  · have i := init 1 (by decide)
    simp only [F_X11_made, F_X1_init, xlet, i, Option.bind_some, show ¬ (4 : Int32) = 2 by decide, show ¬ (4 : Int32) = 3 by decide, if_false, if_true, show kK 4 = 1 by decide]
  · have i := init 4 (by decide)
    simp only [F_X11_made, F_X4_init, F_X1_init, xlet, i, Option.bind_some, show ¬ (5 : Int32) = 2 by decide, show ¬ (5 : Int32) = 3 by decide, show ¬ (5 : Int32) = 4 by decide, if_false, if_true, show kK 5 = 4 by decide]
theorem kd_of {x : Int32} (h : Ri x 1 5) : x = 1 ∨ x = 2 ∨ x = 3 ∨ x = 4 ∨ x = 5 := by
  unfold Ri at h
  have e : ∀ y : Int32, x = y ↔ x.toInt = y.toInt := fun y => fa_eq _ _
  rw [e, e, e, e, e]
  show _ = (1 : Int) ∨ _ = (2 : Int) ∨ _ = (3 : Int) ∨ _ = (4 : Int) ∨ _ = (5 : Int)
  omega
/-- replace on a road at r: the slot is set, the bridge settled -/
theorem c_replace {t : xT} {r b p L : Nat} {d : Int32} (h : Rd0 t r) (hb : b < 9) (hp : isBk (tK t p)) (hL : tP t r 3 = some L) (hd : tI t r 2 = d) {t' : xT} (hs : F_X0_settle (tSP t (r + 1) b (some p)) p L d = some t') : F_X7_replace t r (nI b) p = some t' := by
  obtain ⟨g1, g2, -, -, -, -, -, g3, -⟩ := h
  have ec : (nI b).toNatClampNeg = b := n_cl (by omega)
  have ix : xIn (nI b) 9 := n_xIn hb (by decide)
  have eL : tP (tSP t (r + 1) b (some p)) r 3 = some L := by rw [tP_SPn _ _ _ _ (by omega)]; exact hL
  have ed : tI (tSP t (r + 1) b (some p)) r 2 = d := hd
  unfold F_X7_replace F_X7_replace_j32
  simp only [xlet]
  rw [if_neg (nI_pos (by omega)), if_pos g1, g2, Option.bind_some, if_pos g3.1, g3.2, if_neg (show ¬ nI 9 ≤ nI b from nI_ge (by omega) (by decide)), Option.bind_some, if_pos g3.1, if_pos hp, g3.2, if_pos ix, ec, eL, Option.bind_some, ed, hs]
  rfl
/-- one slot of the road gets a new bridge, settled -/
theorem RR.put {t : xT} {a b : Nat} {u u' : xS} {B B' : Nat → Nat} {L L' : Nat} {ls ls' : yLS} {t1 : xT} {p : Nat} (hS : SkC t a) (hN : NwC t a B L ls (u.2.1 0)) (hkp : tI t a 2 = u.1 3) (hK : u.1 3 ≠ 0 → KpC t a B B' L' ls' (u.2.1 0) (u.2.1 1)) (hTp : TpC t a u) (hRw : RwC t a u) (hSh : ShC t a u) (hSf : SfC t a u) (hTr : TrC t a u) (hb : b < 9) (o1 : Ol t t1 (fun q => q = a + 1) (fun _ => False)) (hp : t.1 ≤ p) (hp2 : p < t1.1) (e3 : (u'.2.1 0) 3 = (u.2.1 0) 3) (e4 : Lq (u.2.1 0) (u'.2.1 0)) (hI' : Iv (u'.2.1 0)) (hBk : BkC t1 p b (u'.2.1 0)) (hR' : RdC t1 (a + 1) (u'.2.1 0)) (ho : ∀ j, j < nB (u'.2.1 0) → j ≠ b → j < nB (u.2.1 0) ∧ Sk (u.2.1 0) (u'.2.1 0) j) (e : Cr u' = Cr (u.1, fun j => if j = 0 then u'.2.1 0 else u.2.1 j, u.2.2)) : ∃ t', F_X7_replace t1 (a + 1) (nI b) p = some t' ∧ RR t' a u' ∧ Ol t t' (fun q => q = a + 1) (fun q => q = a + 2) := by
  have hl := hS.lt
  obtain ⟨hI, hR, hLw, hBg, hSt⟩ := hN
  have hS1 := hS.ol o1 id id id id
  have hbk : isBk (tK t1 p) := by rw [hBk.1]; exact kK_bk _
  have hLat := hLw.2.1.at
  have hLx := hLw.2.1.2.2.2.2
  have hLn : ∀ q, L ≤ q → q ≤ L + 8 → q ≠ a + 1 := fun q q1 q2 => by omega
  have hL1 : LawC t1 a (a + 1) L ls (u'.2.1 0) := e4.lawE (hLw.ol3 o1 (by rw [o1.2.2.2 (a + 1) (by omega) id]) id hLn)
  have o2 : Ol t1 (tSP t1 (a + 2) b (some p)) (fun _ => False) (fun q => q = a + 2) := Ol.SP _ _ _ rfl
  have hL2 : LawC (tSP t1 (a + 2) b (some p)) a (a + 1) L ls (u'.2.1 0) := hL1.ol3 o2 (by rw [tP_SPn _ _ _ _ (by omega)]) (by omega) (fun _ _ _ => id)
  have o12 := o1.1
  obtain ⟨t', h1, h2⟩ := c_settle (s := u'.2.1 0) hL2 hI' (hBk.ol o2 hp2 id) (show p ≠ L by omega)
  rw [e3] at h1
  have rd1 : Rd0 t1 (a + 1) := hS1.2.2.2.2.2.2.2.2.2.2.2.2.1
  have o3 : Ol t t' (fun q => q = a + 1) (fun q => q = a + 2) := ((o1.w (fun _ _ h => h) (fun _ _ h => h.elim)).tr2 o2 (fun _ _ h => h.elim) (fun _ _ h => h)).tr2 h2.ol (fun q q1 q2 => by omega) (fun _ _ h => h.elim)
  have pslot : tP t' (a + 1 + 1) = va_up (tP t (a + 2)) b (some p) := by
    rw [(h2.1 (a + 1 + 1) (by omega)).2.2.2, tP_SP, o1.2.2.2 (a + 2) (by omega) id]
  refine ⟨t', c_replace rd1 hb hbk hL1.1 (by rw [hR'.2.1, e3]) h1, RR.nowE (B := B) (B' := B') (B2 := fun j => if j = b then p else B j) (L' := L') (L2 := L) (ls' := ls') (ls2 := ls) hS hkp hTp hRw hSh hSf hTr hBg o3 (fun q _ hq => Or.inl hq) (fun q _ hq => Or.inr hq) (fun j _ => by rw [o3.2.2.2 (a + 1) (by omega) (by omega)]) ⟨hI', ?_, ?_, ?_, ?_⟩ hK (fun g j k' hj hk' => ?_) e, o3⟩
  · exact (hR'.ol o2 (by omega) (fun _ _ => id)).ol h2.ol (by have := o2.1; omega) (fun q hq => by omega)
  · exact hL2.ol3 h2.ol (by rw [(h2.1 (a + 1) (by omega)).2.2.2]) id (fun q q1 q2 => by omega)
  · intro j hj
    show tP t' (a + 1 + 1) j = some (if j = b then p else B j) ∧ a + 43 ≤ (if j = b then p else B j) ∧ (if j = b then p else B j) < t'.1 ∧ BkC t' (if j = b then p else B j) j _
    have et : t'.1 = t1.1 := h2.2.1
    by_cases c : j = b
    · subst c
      rw [if_pos rfl, pslot, va_up_self]
      exact ⟨rfl, by omega, by omega, h2.bk (hBk.ol o2 hp2 id)⟩
    · obtain ⟨hj', sk⟩ := ho j hj c
      obtain ⟨g1, g2, g3, g4⟩ := hBg j hj'
      rw [if_neg c, pslot, va_up_ne _ _ c]
      exact ⟨g1, g2, by omega, sk.bkE (g4.ol o3 g3 (by omega))⟩
  · intro j hj
    show tI t' (if j = b then p else B j) 5 = _ ∧ tI t' (if j = b then p else B j) 6 = _ ∧ tI t' (if j = b then p else B j) 7 = _
    by_cases c : j = b
    · subst c
      rw [if_pos rfl]; exact h2.2.2.2.2.2.2
    · obtain ⟨hj', sk⟩ := ho j hj c
      obtain ⟨w1, w2, w3⟩ := sk.nowE (ls := ls)
      have g := hBg j hj'
      rw [if_neg c, w1, w2, w3, o3.2.2.1 (B j) g.2.2.1 (by have := g.2.1; omega)]
      exact hSt j hj'
  · show (if j = b then p else B j) ≠ B' k'
    have := (hK g).2.2.2.1 k' hk'
    by_cases c : j = b
    · rw [if_pos c]; omega
    · rw [if_neg c]; exact (hK g).2.2.2.2 j k' (ho j hj c).1 hk'
theorem st_mend : sT_mend RR := by
  intro t a u z0 z1 hR0
  have hR := hR0
  obtain ⟨B, B', L, L', ls, ls', hS, hN, hkp, hK, hTp, hRw, hSh, hSf, hTr⟩ := hR0
  have hN' := hN
  obtain ⟨hI, hRd, hLw, hBg, hSt⟩ := hN
  have hl := hS.lt
  have hk : tK t a = 11 := hS.1
  have hp : tP t a 0 = some (a + 1) := hS.2.1
  have hk1 : tK t (a + 1) = 7 := hS.2.2.2.2.2.2.2.2.2.2.2.2.1.1
  rcases d_br hS hI hRd hBg z0 with ⟨b1, b2⟩ | ⟨k, hk9, k9, rfl, b1, b2, hBk, hbk⟩
  · exact ⟨-1, t, u, by simp only [F_X11_mend, F_X11_mend_j20, hk, hp, hk1, b1, xopt, if_true, Option.bind_some], by simp only [F_X12_mend, F_X12_mend_j20, b2, Option.bind_some, if_true], hR⟩
  rcases d_in z1 1 5 (A := 1) (B := 5) rfl rfl with ⟨n1, n2, -⟩ | ⟨n1, n2, n3, n4⟩
  · have bu : F_X11_isBuilt z1 = some 0 := by unfold F_X11_isBuilt; rw [n1]; rfl
    exact ⟨-1, t, u, by simp only [F_X11_mend, F_X11_mend_j20, hk, hp, hk1, b1, xopt, if_true, Option.bind_some, bu], by simp only [F_X12_mend, F_X12_mend_j20, b2, n2, Option.bind_some, if_true, n10, if_false], hR⟩
  have bu : F_X11_isBuilt z1 = some 1 := by unfold F_X11_isBuilt; rw [n1]; rfl
  have kd := kd_of (x := z1) ⟨n3, n4⟩
  obtain ⟨g0, g1, g2, g3, g4, g5⟩ := hBk
  have pB := (hBg k hk9).2
  have e0 : (mA u 0 (5 + 4 * k) z1).2.1 0 = upd (u.2.1 0) (5 + 4 * k) z1 := rfl
  have o1 := md_ol t z1 (nI k) (tI t (B k) 2) (tI t (B k) 3) (tI t (B k) 4)
  have hI' : Iv (upd (u.2.1 0) (5 + 4 * k) z1) := hI.br (w := 0) k9 (by decide) ⟨fun _ => ⟨n3, n4⟩, fun h => by omega, fun h => by omega, fun h => by omega⟩
  have en : nB (upd (u.2.1 0) (5 + 4 * k) z1) = nB (u.2.1 0) := nB_u _ _ (by omega)
  obtain ⟨t', h1, h2, h3⟩ := RR.put (u' := mA u 0 (5 + 4 * k) z1) (b := k) (p := t.1) hS hN' hkp hK hTp hRw hSh hSf hTr k9 (o1.w (fun _ _ h => h.elim) (fun _ _ h => h)) (Nat.le_refl _) (by rw [md_1]; omega) (by rw [e0, upd_n _ _ (by omega)]) (by rw [e0]; exact ⟨upd_n _ _ (by omega), fun j hj => upd_n _ _ (by omega)⟩) (by rw [e0]; exact hI') (by rw [e0]; exact md_bk t (upd_s _ _ _) (by rw [upd_n _ _ (by omega), g3]) (by rw [upd_n _ _ (by omega), g4]) (by rw [upd_n _ _ (by omega), g5])) (by
      rw [e0]
      have r := hRd.ol o1 (by omega) (fun _ _ => id)
      unfold RdC at r ⊢
      rw [upd_n _ _ (by omega), upd_n _ _ (by omega), upd_n _ _ (by omega), upd_n _ _ (by omega)]
      refine ⟨r.1, r.2.1, r.2.2.1, r.2.2.2.1, fun p hp => ?_, fun j hj => ?_⟩
      · rw [upd_n _ _ (by omega), upd_n _ _ (by omega), upd_n _ _ (by omega)]; exact r.2.2.2.2.1 p hp
      · rw [upd_n _ _ (by omega), upd_n _ _ (by omega)]; exact r.2.2.2.2.2 j hj) (fun j hj hjk => by
      rw [e0, en] at hj
      rw [e0]
      exact ⟨hj, Sk.upd9 (w := 0) _ _ k9 (by have := hI.1.1; omega) (by decide) hjk⟩) rfl
  have kB : isBk (tK t' (B k)) := by rw [(h3.2.1 (B k) pB.2.1).1]; exact hbk
  have eB : tI t' (B k) 0 = u.2.1 0 (5 + 4 * k) := by rw [h3.2.2.1 (B k) pB.2.1 (by omega)]; exact g1
  have km : tK (md t z1 (nI k) (tI t (B k) 2) (tI t (B k) 3) (tI t (B k) 4)) (a + 1) = 7 := by rw [(o1.2.1 (a + 1) (by omega)).1]; exact hk1
  refine ⟨u.2.1 0 (5 + 4 * k), t', _, ?_, ?_, h2⟩
  · simp only [F_X11_mend, hk, hp, hk1, b1, xopt, if_true, Option.bind_some, bu, n10, if_false, if_pos hbk, c_made kd, km, h1, if_pos kB, eB]
  · have at0 : F_X12_at (nI k) 0 = some (nI (5 + 4 * k)) := n_at k 0
    have it0 : F_X12_its u (nI k) 0 = some (u.2.1 0 (5 + 4 * k)) := n_its u (w := 0) (by omega)
    have i0 : xIn (nI (5 + 4 * k)) 303 := n_xIn (by omega) (by decide)
    have d0 : (nI (5 + 4 * k)).toNatClampNeg = 5 + 4 * k := n_cl (by omega)
    simp only [F_X12_mend, b2, n2, Option.bind_some, n10, if_false, it0, at0, if_pos i0, d0, xlet]
theorem nB_0 (s : Nat → Int32) {m : Nat} (h : m < 2147483648) : nB (upd s 0 (nI m)) = m := by unfold nB; rw [upd_s, n_cl h]
theorem st_bridge : sT_bridge RR := by
  intro t a u z0 z1 z2 z3 hR0
  have hR := hR0
  obtain ⟨B, B', L, L', ls, ls', hS, hN, hkp, hK, hTp, hRw, hSh, hSf, hTr⟩ := hR0
  have hN' := hN
  obtain ⟨hI, hRd, hLw, hBg, hSt⟩ := hN
  have hl := hS.lt
  have hk : tK t a = 11 := hS.1
  have hp : tP t a 0 = some (a + 1) := hS.2.1
  have hk1 : tK t (a + 1) = 7 := hS.2.2.2.2.2.2.2.2.2.2.2.2.1.1
  rcases d_in z0 1 5 (A := 1) (B := 5) rfl rfl with ⟨n1, n2, -⟩ | ⟨n1, n2, n3, n4⟩
  · have bu : F_X11_isBuilt z0 = some 0 := by unfold F_X11_isBuilt; rw [n1]; rfl
    exact ⟨-1, t, u, by simp only [F_X11_bridge, F_X11_bridge_j29, bu, if_true, Option.bind_some], by simp only [F_X12_bridge, F_X12_bridge_j37, n2, Option.bind_some, if_true], hR⟩
  have bu : F_X11_isBuilt z0 = some 1 := by unfold F_X11_isBuilt; rw [n1]; rfl
  have kd := kd_of (x := z0) ⟨n3, n4⟩
  by_cases t1 : (1 : Int32) ≤ z1 ∧ z1 ≤ 9
  rotate_left
  · exact ⟨-1, t, u, by simp only [F_X11_bridge, F_X11_bridge_j29, bu, n_isTimes, bI_f t1, if_true, Option.bind_some, n10, if_false], by simp only [F_X12_bridge, F_X12_bridge_j37, n2, n_isPart1, bI_f t1, Option.bind_some, if_true, n10, if_false], hR⟩
  by_cases t2 : (0 : Int32) ≤ z2 ∧ z2 ≤ 999
  rotate_left
  · exact ⟨-1, t, u, by simp only [F_X11_bridge, F_X11_bridge_j29, bu, n_isTimes, bI_t t1, n_isToll, bI_f t2, if_true, Option.bind_some, n10, if_false], by simp only [F_X12_bridge, F_X12_bridge_j37, n2, n_isPart1, bI_t t1, n_isPart2, bI_f t2, Option.bind_some, if_true, n10, if_false], hR⟩
  by_cases t3 : (0 : Int32) ≤ z3 ∧ z3 ≤ 6
  rotate_left
  · exact ⟨-1, t, u, by simp only [F_X11_bridge, F_X11_bridge_j29, bu, n_isTimes, bI_t t1, n_isToll, bI_t t2, n_isDay, bI_f t3, if_true, Option.bind_some, n10, if_false], by simp only [F_X12_bridge, F_X12_bridge_j37, n2, n_isPart1, bI_t t1, n_isPart2, bI_t t2, n_isPart3, bI_f t3, Option.bind_some, if_true, n10, if_false], hR⟩
  obtain ⟨h9, hs⟩ := hI.1
  have e1 := hRd.1
  obtain ⟨n, hn⟩ : ∃ n, nB (u.2.1 0) = n := ⟨_, rfl⟩
  rw [hn] at h9 hs
  rw [hs] at e1
  have rd := hS.2.2.2.2.2.2.2.2.2.2.2.2.1
  have r1 : tP t (a + 1) 0 = some (a + 2) := rd.2.1
  have k22 : tK t (a + 2) = 22 ∧ tN t (a + 2) = 9 := rd.2.2.2.2.2.2.2.1
  by_cases c : n = 9
  · subst c
    exact ⟨-2, t, u, by simp only [F_X11_bridge, bu, n_isTimes, bI_t t1, n_isToll, bI_t t2, n_isDay, bI_t t3, Option.bind_some, n10, if_false, hk, hp, hk1, if_true, F_X7_build, r1, k22.1, k22.2, e1, if_neg (show ¬ nI 9 < nI 9 by decide)], by simp only [F_X12_bridge, n2, n_isPart1, bI_t t1, n_isPart2, bI_t t2, n_isPart3, bI_t t3, Option.bind_some, n10, if_false, if_pos xi0, cl0, hs, if_pos (show nI 9 = (9 : Int32) from rfl)], hR⟩
  have c9 : nI n < nI 9 := nI_lt (by omega) (by decide)
  have c9' : ¬ nI n = (9 : Int32) := fun e => c ((nI_eq (a := n) (b := 9) (by omega) (by decide)).1 e)
  -- the states
  have iv1 := hI.br (k := n) (w := 0) (v := z0) (by omega) (by decide) ⟨fun _ => ⟨n3, n4⟩, fun h => by omega, fun h => by omega, fun h => by omega⟩
  have rt1 : Ri z1 1 9 := by rw [fa_le, fa_le] at t1; exact t1
  have rt2 : Ri z2 0 999 := by rw [fa_le, fa_le] at t2; exact t2
  have rt3 : Ri z3 0 6 := by rw [fa_le, fa_le] at t3; exact t3
  generalize hU : mA (mA (mA (mA (mA u 0 (5 + 4 * n) z0) 0 (5 + 4 * n + 1) z1) 0 (5 + 4 * n + 2) z2) 0 (5 + 4 * n + 3) z3) 0 0 (nI (n + 1)) = u'
  have eS : u'.2.1 0 = upd (upd (upd (upd (upd (u.2.1 0) (5 + 4 * n) z0) (5 + 4 * n + 1) z1) (5 + 4 * n + 2) z2) (5 + 4 * n + 3) z3) 0 (nI (n + 1)) := by rw [← hU]; rfl
  have eC : Cr u' = Cr (u.1, fun j => if j = 0 then u'.2.1 0 else u.2.1 j, u.2.2) := by rw [← hU]; rfl
  have far : ∀ j, j ≠ 0 → (j < 5 + 4 * n ∨ 5 + 4 * n + 4 ≤ j) → u'.2.1 0 j = u.2.1 0 j := fun j h0 h1 => by
    rw [eS, upd_n _ _ h0, upd_n _ _ (by omega), upd_n _ _ (by omega), upd_n _ _ (by omega), upd_n _ _ (by omega)]
  have s0 : u'.2.1 0 0 = nI (n + 1) := by rw [eS, upd_s]
  have b0 : u'.2.1 0 (5 + 4 * n) = z0 := by rw [eS, upd_n _ _ (by omega), upd_n _ _ (by omega), upd_n _ _ (by omega), upd_n _ _ (by omega), upd_s]
  have b1 : u'.2.1 0 (5 + 4 * n + 1) = z1 := by rw [eS, upd_n _ _ (by omega), upd_n _ _ (by omega), upd_n _ _ (by omega), upd_s]
  have b2 : u'.2.1 0 (5 + 4 * n + 2) = z2 := by rw [eS, upd_n _ _ (by omega), upd_n _ _ (by omega), upd_s]
  have b3 : u'.2.1 0 (5 + 4 * n + 3) = z3 := by rw [eS, upd_n _ _ (by omega), upd_s]
  have en : nB (u'.2.1 0) = n + 1 := by unfold nB; rw [s0, n_cl (by omega)]
  have hI' : Iv (u'.2.1 0) := by
    obtain ⟨-, q1, q2, q3, q4, q5, q6⟩ := hI
    have f1 := far 1 (by decide) (by omega)
    have f2 := far 2 (by decide) (by omega)
    have f3 := far 3 (by decide) (by omega)
    have f4 := far 4 (by decide) (by omega)
    have p1 : nP (u'.2.1 0) = nP (u.2.1 0) := by unfold nP; rw [f1]
    have p2 : nT (u'.2.1 0) = nT (u.2.1 0) := by unfold nT; rw [f2]
    have p4 : nC (u'.2.1 0) = nC (u.2.1 0) := by unfold nC; rw [f4]
    unfold Iv
    rw [en, p1, p2, p4, s0, f1, f2, f3, f4]
    refine ⟨⟨by omega, rfl⟩, q1, q2, q3, q4, fun j hj => ?_, fun p hp => ?_⟩
    · by_cases cj : j = n
      · rw [cj, b0, b1, b2, b3]; exact ⟨⟨n3, n4⟩, rt1, rt2, rt3⟩
      · rw [far _ (by omega) (by omega), far _ (by omega) (by omega), far _ (by omega) (by omega), far _ (by omega) (by omega)]
        exact q5 j (by omega)
    · rw [far _ (by omega) (by omega)]; exact q6 p hp
  have oA : Ol t (tSI t (a + 1) 1 (nI (n + 1))) (fun q => q = a + 1) (fun _ => False) := Ol.SI _ _ _ rfl
  have oB := md_ol (tSI t (a + 1) 1 (nI (n + 1))) z0 (nI n) z1 z2 z3
  have o1 : Ol t (md (tSI t (a + 1) 1 (nI (n + 1))) z0 (nI n) z1 z2 z3) (fun q => q = a + 1) (fun _ => False) := oA.tr2 oB (fun _ _ h => h.elim) (fun _ _ h => h)
  have hRd1 : RdC (md (tSI t (a + 1) 1 (nI (n + 1))) z0 (nI n) z1 z2 z3) (a + 1) (u'.2.1 0) := by
    have r := (hRd.w (x := a + 1) (p := 1) (i := 0) (nI (n + 1)) (by omega)).ol oB (by show a + 1 + 15 < t.1; omega) (fun _ _ => id)
    unfold RdC at r ⊢
    have up : ∀ j, (j < 5 + 4 * n ∨ 5 + 4 * n + 4 ≤ j) → u'.2.1 0 j = upd (u.2.1 0) 0 (nI (n + 1)) j := fun j hj => by
      by_cases c0 : j = 0
      · subst c0; rw [s0, upd_s]
      · rw [far j c0 hj, upd_n _ _ c0]
    rw [up 0 (by omega), up 1 (by omega), up 2 (by omega), up 3 (by omega)]
    refine ⟨r.1, r.2.1, r.2.2.1, r.2.2.2.1, fun p hp => ?_, fun j hj => ?_⟩
    · rw [up _ (by omega), up _ (by omega), up _ (by omega)]; exact r.2.2.2.2.1 p hp
    · rw [up _ (by omega), up _ (by omega)]; exact r.2.2.2.2.2 j hj
  obtain ⟨t', h1, h2, h3⟩ := RR.put (u' := u') (b := n) (p := t.1) hS hN' hkp hK hTp hRw hSh hSf hTr (by omega) o1 (Nat.le_refl _) (by rw [md_1]; show t.1 < t.1 + 1; omega) (far 3 (by decide) (by omega)) ⟨far 4 (by decide) (by omega), fun j hj => far j (by omega) (by omega)⟩ hI' (md_bk (tSI t (a + 1) 1 (nI (n + 1))) b0 b1 b2 b3) hRd1 (fun j hj hjk => by
    rw [en] at hj
    exact ⟨by omega, far 3 (by decide) (by omega), far 4 (by decide) (by omega), fun w hw => far _ (by omega) (by omega), fun x hx => far x (by omega) (by omega)⟩) eC
  refine ⟨nI n, t', u', ?_, ?_, h2⟩
  · have km : tK (md (tSI t (a + 1) 1 (nI (n + 1))) z0 (nI n) z1 z2 z3) (a + 1) = 7 := by rw [(o1.2.1 (a + 1) (by omega)).1]; exact hk1
    have mk := c_made (t := tSI t (a + 1) 1 (nI (n + 1))) (n := nI n) (tm := z1) (tl := z2) (ft := z3) kd
    have e11 : (tSI t (a + 1) 1 (nI (n + 1))).1 = t.1 := rfl
    rw [e11] at mk
    simp only [F_X11_bridge, bu, n_isTimes, bI_t t1, n_isToll, bI_t t2, n_isDay, bI_t t3, Option.bind_some, n10, if_false, hk, hp, hk1, if_true, F_X7_build, r1, k22.1, k22.2, e1, if_pos c9, xlet, nI_1, mk, xopt, km, h1]
  · have a0 : F_X12_at (nI n) 0 = some (nI (5 + 4 * n)) := n_at n 0
    have a1 : F_X12_at (nI n) 1 = some (nI (5 + 4 * n + 1)) := n_at n 1
    have a2 : F_X12_at (nI n) 2 = some (nI (5 + 4 * n + 2)) := n_at n 2
    have a3 : F_X12_at (nI n) 3 = some (nI (5 + 4 * n + 3)) := n_at n 3
    have i0 : xIn (nI (5 + 4 * n)) 303 := n_xIn (by omega) (by decide)
    have i1 : xIn (nI (5 + 4 * n + 1)) 303 := n_xIn (by omega) (by decide)
    have i2 : xIn (nI (5 + 4 * n + 2)) 303 := n_xIn (by omega) (by decide)
    have i3 : xIn (nI (5 + 4 * n + 3)) 303 := n_xIn (by omega) (by decide)
    have d0 : (nI (5 + 4 * n)).toNatClampNeg = 5 + 4 * n := n_cl (by omega)
    have d1 : (nI (5 + 4 * n + 1)).toNatClampNeg = 5 + 4 * n + 1 := n_cl (by omega)
    have d2 : (nI (5 + 4 * n + 2)).toNatClampNeg = 5 + 4 * n + 2 := n_cl (by omega)
    have d3 : (nI (5 + 4 * n + 3)).toNatClampNeg = 5 + 4 * n + 3 := n_cl (by omega)
    have g : (mA (mA (mA (mA u 0 (5 + 4 * n) z0) 0 (5 + 4 * n + 1) z1) 0 (5 + 4 * n + 2) z2) 0 (5 + 4 * n + 3) z3).2.1 0 0 = nI n := by
      rw [mAz, upd_n _ _ (by omega), mAz, upd_n _ _ (by omega), mAz, upd_n _ _ (by omega), mAz, upd_n _ _ (by omega)]; exact hs
    simp only [F_X12_bridge, n2, n_isPart1, bI_t t1, n_isPart2, bI_t t2, n_isPart3, bI_t t3, Option.bind_some, n10, if_false, if_pos xi0, cl0, hs, if_neg c9', xlet, a0, a1, a2, a3, if_pos i0, if_pos i1, if_pos i2, if_pos i3, d0, d1, d2, d3, g, nI_1, hU]
/-! the whole road is settled -/
theorem lp_settle {t0 : xT} {a N L : Nat} {B : Nat → Nat} {ls : yLS} {s : Nat → Int32} (hS : SkC t0 a) (hI : Iv s) (hn : nB s = N) (hR1 : tI t0 (a + 1) 1 = nI N ∧ tI t0 (a + 1) 2 = s 3) (hL : LawC t0 a (a + 1) L ls s) (hB : BgC t0 a (a + 1) B s) : ∀ m i n t, i + m = N → m < n → Ol t0 t (fun q => ∃ k, k < N ∧ q = B k) (fun _ => False) → (∀ k, k < N → BkC t (B k) k s) → (∀ k, k < i → tI t (B k) 5 = tmS ls s k ∧ tI t (B k) 6 = tlS ls s k ∧ tI t (B k) 7 = opS ls s k) → ∃ t', F_X7_settle_l2 n t (a + 1) (nI i) = some t' ∧ Ol t0 t' (fun q => ∃ k, k < N ∧ q = B k) (fun _ => False) ∧ (∀ k, k < N → BkC t' (B k) k s) ∧ (∀ k, k < N → tI t' (B k) 5 = tmS ls s k ∧ tI t' (B k) 6 = tlS ls s k ∧ tI t' (B k) 7 = opS ls s k) := by
  have h9 := hI.1.1
  rw [hn] at h9
  have hl := hS.lt
  intro m
  induction m with
  | zero =>
    intro i n t hi hm o hBk hSt
    cases n with
    | zero => omega
    | succ n =>
      have hi : i = N := by omega
      subst hi
      have hS1 := hS.ol o id id id id
      have nx : ¬ ∃ k, k < i ∧ a + 1 = B k := fun ⟨k, hk, e⟩ => by have := (hB k (by omega)).2.1; omega
      refine ⟨t, ?_, o, hBk, hSt⟩
      unfold F_X7_settle_l2
      rw [if_pos hS1.2.2.2.2.2.2.2.2.2.2.2.2.1.1, o.2.2.1 (a + 1) (by omega) nx, hR1.1, if_pos (nI_le (Nat.le_refl _) (by omega))]
  | succ m ih =>
    intro i n t hi hm o hBk hSt
    cases n with
    | zero => omega
    | succ n =>
      have hS1 := hS.ol o id id id id
      have nx : ∀ q, q < a + 43 → ¬ ∃ k, k < N ∧ q = B k := fun q hq ⟨k, hk, e⟩ => by have := (hB k (by omega)).2.1; omega
      have hi' : i < N := by omega
      have bi := hBk i hi'
      have hb : isBk (tK t (B i)) := by rw [bi.1]; exact kK_bk _
      have e1 : tI t (a + 1) 1 = nI N := by rw [o.2.2.1 (a + 1) (by omega) (nx _ (by omega))]; exact hR1.1
      have e2 : tI t (a + 1) 2 = s 3 := by rw [o.2.2.1 (a + 1) (by omega) (nx _ (by omega))]; exact hR1.2
      have lawn : ∀ q, L ≤ q → q ≤ L + 8 → ¬ ∃ k, k < N ∧ q = B k := fun q q1 q2 ⟨k, hk, e⟩ => hL.2.1.nb (q := B k) (by rw [(hB k (by omega)).2.2.2.1]; exact kK_bk _) q q1 q2 e
      have hL1 : LawC t a (a + 1) L ls s := hL.ol3 o (by rw [o.2.2.2 (a + 1) (by omega) id]) id lawn
      obtain ⟨t1, g1, g2⟩ := c_settle hL1 hI bi (fun e => hL1.2.1.nb hb L (Nat.le_refl _) (by omega) e.symm)
      have o1 : Ol t0 t1 (fun q => ∃ k, k < N ∧ q = B k) (fun _ => False) := o.tr2 g2.ol (fun q _ hq => ⟨i, hi', hq⟩) (fun _ _ h => h)
      have inj : ∀ j, j < N → j ≠ i → ¬ B j = B i := by
        intro j hj hjk hh
        have w1 := (hB j (by omega)).2.2.2.2.2.1
        have w2 := (hB i (by omega)).2.2.2.2.2.1
        rw [hh] at w1
        exact hjk ((nI_eq (by omega) (by omega)).1 (w1.symm.trans w2))
      obtain ⟨t', h1, h2, h3, h4⟩ := ih (i + 1) n t1 (by omega) (by omega) o1 (fun k hk => by
        by_cases c : k = i
        · subst c; exact g2.bk bi
        · exact (hBk k hk).ol g2.ol (Nat.lt_of_lt_of_le (hB k (by omega)).2.2.1 o.1) (inj k hk c)) (fun k hk => by
        by_cases c : k = i
        · subst c; exact g2.2.2.2.2.2.2
        · rw [(g2.1 (B k) (inj k (by omega) c)).2.2.1]; exact hSt k (by omega))
      refine ⟨t', ?_, h2, h3, h4⟩
      have by1 := ba_yes hS1.2.2.2.2.2.2.2.2.2.2.2.2.1 e1 h9 hi' (show tP t (a + 1 + 1) i = some (B i) by rw [o.2.2.2 (a + 1 + 1) (by omega) id]; exact (hB i (by omega)).1)
      unfold F_X7_settle_l2 F_X7_settle_j32
      simp only [xlet]
      rw [if_pos hS1.2.2.2.2.2.2.2.2.2.2.2.2.1.1, e1, if_neg (nI_ge hi' (by omega)), by1, Option.bind_some]
      show (tP t (a + 1) 3).bind _ = _
      rw [hL1.1, Option.bind_some, if_pos hb, e2, g1, Option.bind_some, nI_1]
      exact h1
theorem c_settleAll {t : xT} {a L : Nat} {B : Nat → Nat} {ls : yLS} {s : Nat → Int32} (hS : SkC t a) (hI : Iv s) (hR1 : tI t (a + 1) 1 = s 0 ∧ tI t (a + 1) 2 = s 3) (hL : LawC t a (a + 1) L ls s) (hB : BgC t a (a + 1) B s) : ∃ t', F_X7_settle t (a + 1) = some t' ∧ Ol t t' (fun q => ∃ k, k < nB s ∧ q = B k) (fun _ => False) ∧ BgC t' a (a + 1) B s ∧ StC t' B ls s := by
  have hl := hS.lt
  obtain ⟨t', h1, h2, h3, h4⟩ := lp_settle hS hI rfl ⟨hR1.1.trans hI.1.2, hR1.2⟩ hL hB (nB s) 0 xFuel t (by omega) (xF_big (by have := hI.1.1; omega)) (Ol.rf _ _ _) (fun k hk => (hB k hk).2.2.2) (fun k hk => by omega)
  exact ⟨t', h1, h2, fun k hk => ⟨by rw [h2.2.2.2 (a + 1 + 1) (by omega) id]; exact (hB k hk).1, (hB k hk).2.1, Nat.lt_of_lt_of_le (hB k hk).2.2.1 h2.1, h3 k hk⟩, h4⟩
theorem st_day : sT_day RR := by
  intro t a u z0 hR0
  have hR := hR0
  obtain ⟨B, B', L, L', ls, ls', hS, hN, hkp, hK, hTp, hRw, hSh, hSf, hTr⟩ := hR0
  obtain ⟨hI, hRd, hLw, hBg, hSt⟩ := hN
  have hl := hS.lt
  have hk : tK t a = 11 := hS.1
  have hp : tP t a 0 = some (a + 1) := hS.2.1
  have hk1 : tK t (a + 1) = 7 := hS.2.2.2.2.2.2.2.2.2.2.2.2.1.1
  rcases d_in z0 0 6 (A := 0) (B := 6) rfl rfl with ⟨n1, n2, -⟩ | ⟨n1, n2, n3, n4⟩
  · have bu : F_X11_isDay z0 = some 0 := by unfold F_X11_isDay; rw [n1]; rfl
    exact ⟨-1, t, u, by simp only [F_X11_day, bu, if_true, Option.bind_some], by simp only [F_X12_day, n2, Option.bind_some, if_true], hR⟩
  have bu : F_X11_isDay z0 = some 1 := by unfold F_X11_isDay; rw [n1]; rfl
  have oA : Ol t (tSI t (a + 1) 2 z0) (fun q => q = a + 1) (fun _ => False) := Ol.SI _ _ _ rfl
  have hLx := hLw.2.1.at
  have hLy := hLw.2.1.2.2.2.2
  have en : nB (upd (u.2.1 0) 3 z0) = nB (u.2.1 0) := nB_u _ _ (by decide)
  have hI' : Iv (upd (u.2.1 0) 3 z0) := by
    obtain ⟨q0, q1, q2, q3, q4, q5, q6⟩ := hI
    unfold Iv
    rw [en, nP_u _ _ (by decide), nT_u _ _ (by decide), nC_u _ _ (by decide), upd_n _ _ (by decide), upd_n _ _ (by decide), upd_n _ _ (by decide), upd_s, upd_n _ _ (by decide)]
    refine ⟨q0, q1, q2, q3, ⟨n3, n4⟩, fun k hk => ?_, fun p hp => ?_⟩
    · rw [upd_n _ _ (by omega), upd_n _ _ (by omega), upd_n _ _ (by omega), upd_n _ _ (by omega)]; exact q5 k hk
    · rw [upd_n _ _ (by omega)]; exact q6 p hp
  have lq : Lq (u.2.1 0) (upd (u.2.1 0) 3 z0) := ⟨upd_n _ _ (by decide), fun j hj => upd_n _ _ (by omega)⟩
  have hB1 : BgC (tSI t (a + 1) 2 z0) a (a + 1) B (upd (u.2.1 0) 3 z0) := by
    intro k hk
    rw [en] at hk
    obtain ⟨g1, g2, g3, g4⟩ := (hBg.ol oA (by omega) id (fun k hk => by have := (hBg k hk).2.1; omega)) k hk
    refine ⟨g1, g2, g3, ?_⟩
    unfold BkC at g4 ⊢
    rw [upd_n _ _ (by omega), upd_n _ _ (by omega), upd_n _ _ (by omega), upd_n _ _ (by omega)]; exact g4
  have hL1 : LawC (tSI t (a + 1) 2 z0) a (a + 1) L ls (upd (u.2.1 0) 3 z0) := lq.lawE (hLw.ol3 oA rfl id (fun q q1 q2 => by omega))
  have hR1 := hRd.w (x := a + 1) (p := 2) (i := 3) z0 (by omega)
  have hS1 := hS.ol oA id id id id
  obtain ⟨t', h1, h2, h3, h4⟩ := c_settleAll hS1 hI' ⟨hR1.1, hR1.2.1⟩ hL1 hB1
  rw [en] at h2
  have o3 : Ol t t' (fun q => q = a + 1 ∨ ∃ k, k < nB (u.2.1 0) ∧ q = B k) (fun _ => False) := (oA.w (fun _ _ h => Or.inl h) (fun _ _ h => h)).tr2 h2 (fun _ _ h => Or.inr h) (fun _ _ h => h)
  have e0 : (mA u 0 3 z0).2.1 0 = upd (u.2.1 0) 3 z0 := rfl
  refine ⟨u.2.1 0 3, t', mA u 0 3 z0, ?_, ?_, ?_⟩
  · simp only [F_X11_day, bu, Option.bind_some, n10, if_false, hk, hp, hk1, if_true, xlet, tK_SI, tP_SI, hRd.2.1, h1]
  · simp only [F_X12_day, n2, Option.bind_some, n10, if_false, if_pos xi3, cl3, xlet]
  · refine RR.nowE (B := B) (B' := B') (B2 := B) (L' := L') (L2 := L) (ls' := ls') (ls2 := ls) hS hkp hTp hRw hSh hSf hTr hBg o3 (fun q _ hq => by
      rcases hq with hq | hq
      · exact Or.inl hq
      · exact Or.inr (Or.inr hq)) (fun q _ h => h.elim) (fun j _ => by rw [o3.2.2.2 (a + 1) (by omega) id]) ?_ hK (fun g j k' hj hk' => (hK g).2.2.2.2 j k' (by rw [e0, en] at hj; exact hj) hk') rfl
    rw [e0]
    have nx : ∀ q, q < a + 43 → ¬ ∃ k, k < nB (u.2.1 0) ∧ q = B k := fun q hq ⟨k, hk, e⟩ => by have := (hBg k hk).2.1; omega
    refine ⟨hI', hR1.ol h2 (by show a + 1 + 15 < t.1; omega) (fun q hq => nx q (by omega)), hL1.ol3 h2 (by rw [h2.2.2.2 (a + 1) (by show a + 1 < t.1; omega) id]) id (fun q q1 q2 ⟨k, hk, e⟩ => ?_), h3, h4⟩
    exact hLw.2.1.nb (q := B k) (by rw [(hBg k hk).2.2.2.1]; exact kK_bk _) q q1 q2 e
