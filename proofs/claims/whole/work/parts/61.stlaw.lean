/-! ===== pure mathematics 40: law ===== -/
theorem st_law : sT_law RR := by
  intro t a u hR0
  obtain ⟨hS0, hTp0, -⟩ := hR0.more
  have hl0 := hS0.lt
  obtain ⟨tp1, tp2, n, hn, tp3⟩ := hTp0
  obtain ⟨k0, p0, -, p3, -, -, -, -, -, -, -, -, rd, -, A33, -⟩ := hS0
  have hR4 : RR (tSI t a 4 0) a (mS u 18 0) := hR0.wtc (m := 0) (Nat.zero_le _)
  obtain ⟨B, B', L, L', ls, ls', hS, hN, hkp, hK, hTp, hRw, hSh, hSf, hTr⟩ := hR4
  obtain ⟨hI, hRd, hLw, hBg, hSt⟩ := hN
  have i4 : xIn (4 : Int32) 303 := by decide
  have c4 : (4 : Int32).toNatClampNeg = 4 := rfl
  obtain ⟨t3, r1, r2, r3, r4, r5, r6, r7, r8, r9, r10, r11, r12⟩ := c_reader (t := t) (q := a + 33) (x := tI t a 4) (by omega)
  have l33 := r3 (a + 33) (by omega)
  have hTsC : TsC (tSI t3 a 4 0) t.1 (a + 33) (u.2.1 17) n := ⟨r4, r6, l33.1.trans A33.1, l33.2.1.trans A33.2, fun i hi => by
    rw [tI_SIn _ _ _ _ (by omega), l33.2.2.1]; exact tp1 i hi, by rw [tI_SIn _ _ _ _ (by omega), r7, tp2, tp3], hn, by omega⟩
  obtain ⟨u1, q1, q2, q3, q4, q5, -⟩ := puts_l 303 0 xFuel u (by omega) (xF_big (by omega))
  obtain ⟨u17, e17⟩ : ∃ x, x = mS (mS (mS (mS (mA u1 0 4 0) 23 0) 22 0) 20 0) 24 0 := ⟨_, rfl⟩
  have m17 : ∀ j, j ≠ 20 → j ≠ 22 → j ≠ 23 → j ≠ 24 → u17.1 j = u.1 j := fun j a b c d => by
    rw [e17, mS_n _ _ d, mS_n _ _ a, mS_n _ _ b, mS_n _ _ c]
    exact congrFun q2 j
  have m20 : u17.1 20 = 0 := by rw [e17, mS_n _ _ (by decide), mS_1]
  have m22 : u17.1 22 = 0 := by rw [e17, mS_n _ _ (by decide), mS_n _ _ (by decide), mS_1]
  have m23 : u17.1 23 = 0 := by rw [e17, mS_n _ _ (by decide), mS_n _ _ (by decide), mS_n _ _ (by decide), mS_1]
  have m24 : u17.1 24 = 0 := by rw [e17, mS_1]
  have mk : ∀ k, k ≠ 0 → k ≠ 2 → u17.2.1 k = u.2.1 k := fun k a b => by
    rw [e17]; exact (mA_0 u1 4 0 a).trans (q3 k b)
  have mk2 : ∀ j, j < 303 → u17.2.1 2 j = u.2.1 0 j := fun j hj => by
    rw [e17]
    show (mA u1 0 4 0).2.1 2 j = _
    rw [mA_0 _ _ _ (by decide)]; exact q5 j (Nat.zero_le _) hj
  have mk0 : ∀ i, i ≠ 4 → u17.2.1 0 i = u.2.1 0 i := fun i hi => by
    rw [e17]
    show (mA u1 0 4 0).2.1 0 i = _
    rw [mA_s, upd_n _ _ hi, q3 0 (by decide)]
  have mk4 : u17.2.1 0 4 = 0 := by
    rw [e17]
    show (mA u1 0 4 0).2.1 0 4 = _
    rw [mA_s, upd_s]
  have hTsR : TsR u17 (u.2.1 17) n := ⟨(m17 18 (by decide) (by decide) (by decide) (by decide)).trans tp3, mk 17 (by decide) (by decide)⟩
  obtain ⟨t44, u18, st, en, w1, w2, -, w3, w4, w5⟩ := tk hTsC hTsR (en := 0) (show tI (tSI t3 a 4 0) t.1 6 = 0 by rw [tI_SIn _ _ _ _ (by omega)]; exact r8) m20 (Nat.zero_le _)
  have hL41 : LwO (tSI t3 a 4 0) a (t.1 + 1) := by
    refine ⟨r9, fun j j1 j2 => ?_, fun j j1 j2 => ?_, ?_, Or.inr (Or.inr (by omega))⟩
    · have := r10 j j1 (by omega); rw [if_pos j2] at this; exact this
    · have := r10 j (by omega) j2; rw [if_neg (by omega)] at this; exact this
    · show t.1 + 1 + 9 ≤ t3.1; omega
  have n1 : t.1 + 1 ≠ t.1 := by omega
  have n1a : t.1 + 1 ≠ a := by omega
  have hSc : Sc t44 u18 t.1 (a + 33) a (u.2.1 17) n st en 0 (fun _ => []) (fun _ => 0) (fun _ => 0) := by
    refine ⟨w3, hL41.ck (f0 := 0) w4.ck, ?_, (w5.2 24 (by decide) (by decide)).trans m24, ⟨rfl, rfl, fun i hi => absurd hi (Nat.not_lt_zero _)⟩, ?_, ?_, Nat.zero_le _, ?_, (w5.2 23 (by decide) (by decide)).trans m23, Nat.zero_le _, Nat.zero_le _, (w5.2 22 (by decide) (by decide)).trans m22, by omega⟩
    · rw [show tP t44 t.1 = tP (tSI t3 a 4 0) t.1 from congrFun w4.2.2.2.1 t.1]; exact r5
    · rw [w4.2.2.2.2.1 _ n1, tI_SIn _ _ _ _ n1a]; exact r11
    · rw [w5.1]; exact mk4
    · rw [w4.2.2.2.2.1 _ n1, tI_SIn _ _ _ _ n1a]; exact r12
  have nat : a ≠ t.1 := by omega
  have hc : F_X11_law t a = F_X11_law_l27 xFuel t44 a t.1 (nI 0) := by
    unfold F_X11_law
    simp only [xlet]
    rw [if_pos ((tK_Nn t 3 0 nat).trans k0), tP_Nn t 3 0 nat, p3, Option.bind_some, tI_Nn t 3 0 nat, r1, Option.bind_some, if_pos ((r3 a (by omega)).1.trans k0), if_pos (show tK (tSI t3 a 4 0) t.1 = 3 from r4), w1, Option.bind_some]
    rfl
  have hr : F_X12_law u = F_X12_law_l35 xFuel u18 := by
    unfold F_X12_law F_X12_puts
    rw [show F_X12_puts_l2 xFuel u 0 = some u1 from q1, Option.bind_some, if_pos i4]
    simp only [xlet, c4]
    rw [← e17, w2, Option.bind_some]
  -- what stays
  have low : ∀ t5, Cb t.1 t44 t5 → ∀ p, p < t.1 → tK t5 p = tK t p ∧ tN t5 p = tN t p ∧ tI t5 p = tI (tSI t a 4 0) p ∧ tP t5 p = tP t p := fun t5 hC p hp => by
    obtain ⟨g1, g2, g3, g4⟩ := r3 p hp
    have np : p ≠ t.1 := by omega
    refine ⟨(congrFun hC.2.1 p).trans ((congrFun w4.2.1 p).trans g1), (congrFun hC.2.2.1 p).trans ((congrFun w4.2.2.1 p).trans g2), ?_, (congrFun hC.2.2.2.1 p).trans ((congrFun w4.2.2.2.1 p).trans g4)⟩
    rw [hC.2.2.2.2 p hp, w4.2.2.2.2.1 p np]
    by_cases e : p = a
    · subst e; rw [tI_SI, tI_SI, g3]
    · rw [tI_SIn _ _ _ _ e, tI_SIn _ _ _ _ e, g3]
  have top : ∀ t5, Cb t.1 t44 t5 → t5.1 = t.1 + 10 := fun t5 hC => hC.1.trans (w4.1.trans r2)
  have ol : ∀ t5, Cb t.1 t44 t5 → Ol (tSI t a 4 0) t5 (fun _ => False) (fun _ => False) := fun t5 hC => by
    have := top t5 hC
    refine ⟨?_, fun p hp => ⟨(low t5 hC p hp).1, (low t5 hC p hp).2.1⟩, fun p hp _ => (low t5 hC p hp).2.2.1, fun p hp _ => (low t5 hC p hp).2.2.2⟩
    show t.1 ≤ t5.1
    omega
  have rb1 : ∀ u5, Rb u18 u5 → ∀ j, j < 19 ∨ 24 < j → u5.1 j = u.1 j := fun u5 h j hj => by
    rw [h.2.2.2 j hj, w5.2 j (by omega) (by omega)]; exact m17 j (by omega) (by omega) (by omega) (by omega)
  have rbk : ∀ u5, Rb u18 u5 → ∀ k, k ≠ 0 → k ≠ 2 → u5.2.1 k = u.2.1 k := fun u5 h k a b => by
    rw [h.1 k a, w5.1]; exact mk k a b
  have hlB := hS.lt
  have hLx := hLw.2.1.at
  have hLy := hLw.2.1.2.2.2.2
  rcases law_l 9 0 xFuel xFuel t44 u18 st en _ _ _ (by omega) (xF_big (by omega)) (xF_big (by omega)) hSc (Cb.rf _ _) (Rb.rf _) with ⟨t5, u5, st5, en5, k, ls5, fs, cs, x1, x2, x3, x4, x5⟩ | ⟨t5, u5, st5, x1, x2, x3, x4, x5, x6⟩
  · -- the law is read
    have o5 := ol t5 x4
    have t5t := top t5 x4
    obtain ⟨y1, y2, y3, y4, y5, y6, y7, y8, -⟩ := x3
    let t8 := tSP t5 (a + 1) 3 (some (t.1 + 1))
    have o58 : Ol t5 t8 (fun _ => False) (fun q => q = a + 1) := Ol.SP t5 3 _ rfl
    have o8 : Ol (tSI t a 4 0) t8 (fun _ => False) (fun q => q = a + 1) := (o5.w (fun _ _ h => h) (fun _ _ h => h.elim)).tr o58
    have pA : ∀ q, q ≠ a + 1 → tP t8 q = tP t5 q := fun q hq => tP_SPn _ _ _ _ hq
    have hS8 : SkC t8 a := by
      refine hS.ol3 o8 ?_ ?_ (fun j hj => ?_) (fun j _ => ?_)
      · rw [pA a (by omega)]; exact (low t5 x4 a (by omega)).2.2.2
      · rw [pA _ (by omega)]; exact (low t5 x4 (a + 38) (by omega)).2.2.2
      · rw [show tP t8 (a + 1) = va_up (tP t5 (a + 1)) 3 (some (t.1 + 1)) from tP_SP _ _ _ _, va_up_ne _ _ hj, (low t5 x4 (a + 1) (by omega)).2.2.2]; rfl
      · rw [pA _ (by omega), (low t5 x4 (a + 17) (by omega)).2.2.2]; rfl
    -- the state
    have sE : ∀ i, i < 71 → i ≠ 4 → u5.2.1 0 i = u.2.1 0 i := fun i a b => by
      rw [x5.2.2.1 i a b, w5.1]; exact mk0 i b
    have nb : nB (u5.2.1 0) = nB (u.2.1 0) := by unfold nB; rw [sE 0 (by decide) (by decide)]
    have np : nP (u5.2.1 0) = nP (u.2.1 0) := by unfold nP; rw [sE 1 (by decide) (by decide)]
    have nt : nT (u5.2.1 0) = nT (u.2.1 0) := by unfold nT; rw [sE 2 (by decide) (by decide)]
    have nc : nC (u5.2.1 0) = k := by unfold nC; rw [y7]; exact n_cl (by omega)
    obtain ⟨I0, I1, I2, I3, I4, I5, I6⟩ := hI
    have hI' : Iv (u5.2.1 0) := by
      unfold Iv
      rw [nb, np, nt, nc, sE 0 (by decide) (by decide), sE 1 (by decide) (by decide), sE 2 (by decide) (by decide), sE 3 (by decide) (by decide)]
      refine ⟨I0, I1, I2, ⟨y8, y7⟩, I4, fun j hj => ?_, fun p hp => ?_⟩
      · have j9 : j < 9 := Nat.lt_of_lt_of_le hj I0.1
        rw [sE _ (by omega) (by omega), sE _ (by omega) (by omega), sE _ (by omega) (by omega), sE _ (by omega) (by omega)]
        exact I5 j hj
      · have p6 : p < 6 := Nat.lt_of_lt_of_le hp I1.1
        rw [sE _ (by omega) (by omega)]
        exact I6 p hp
    have rdS : ∀ tt, RdC tt (a + 1) (u.2.1 0) → RdC tt (a + 1) (u5.2.1 0) := fun tt h => by
      obtain ⟨g1, g2, g3, g4, g5, g6⟩ := h
      unfold RdC
      rw [sE 0 (by decide) (by decide), sE 1 (by decide) (by decide), sE 2 (by decide) (by decide), sE 3 (by decide) (by decide)]
      refine ⟨g1, g2, g3, g4, fun p hp => ?_, fun j hj => ?_⟩
      · rw [sE _ (by omega) (by omega), sE _ (by omega) (by omega), sE _ (by omega) (by omega)]; exact g5 p hp
      · rw [sE _ (by omega) (by omega), sE _ (by omega) (by omega)]; exact g6 j hj
    have hR8 : RdC t8 (a + 1) (u5.2.1 0) := rdS t8 (hRd.ol o8 (show a + 1 + 15 < t.1 by omega) (fun _ _ h => h))
    have hB8 : BgC t8 a (a + 1) B (u5.2.1 0) := by
      have h1 := hBg.ol o8 (show a + 1 + 1 < t.1 by omega) (by omega) (fun _ _ h => h)
      intro j hj
      rw [nb] at hj
      have j9 : j < 9 := Nat.lt_of_lt_of_le hj I0.1
      obtain ⟨g1, g2, g3, g4⟩ := h1 j hj
      refine ⟨g1, g2, g3, ?_⟩
      unfold BkC at g4 ⊢
      rw [sE _ (by omega) (by omega), sE _ (by omega) (by omega), sE _ (by omega) (by omega), sE _ (by omega) (by omega)]
      exact g4
    have hL8 : LawC t8 a (a + 1) (t.1 + 1) ls5 (u5.2.1 0) := by
      refine ⟨?_, y2.ol o58 (by omega), ?_, fs, cs, ?_⟩
      · rw [show tP t8 (a + 1) = va_up (tP t5 (a + 1)) 3 (some (t.1 + 1)) from tP_SP _ _ _ _, va_up_self]
      · rw [y7]; exact y6
      · rw [nc]; exact y5
    obtain ⟨t15, z1, z2, z3, z4⟩ := c_settleAll hS8 hI' ⟨hR8.1, hR8.2.1⟩ hL8 hB8
    have t8t : t8.1 = t.1 + 10 := t5t
    have pS : ∀ q, q < t8.1 → tP t15 q = tP t8 q := fun q hq => z2.2.2.2 q hq id
    have bb : ∀ k, k < nB (u5.2.1 0) → a + 43 ≤ B k ∧ B k < t.1 := fun k hk => by
      rw [nb] at hk
      exact ⟨(hBg k hk).2.1, (hBg k hk).2.2.1⟩
    have hN' : NwC t15 a B (t.1 + 1) ls5 (u5.2.1 0) := by
      refine ⟨hI', hR8.ol z2 (by omega) ?_, hL8.ol3 z2 (by rw [pS _ (by omega)]) id ?_, z3, z4⟩
      · rintro q hq ⟨k, hk, rfl⟩
        have := (bb k hk).1
        omega
      · rintro q h1 h2 ⟨k, hk, rfl⟩
        have := (bb k hk).2
        omega
    have o15 : Ol (tSI t a 4 0) t15 (fun q => ∃ k, k < nB (u5.2.1 0) ∧ q = B k) (fun q => q = a + 1) := (o8.w (fun _ _ h => h.elim) (fun _ _ h => h)).tr (z2.w (fun _ _ h => h) (fun _ _ h => h.elim))
    have p15 : tP t15 (a + 1) = va_up (tP t5 (a + 1)) 3 (some (t.1 + 1)) := (pS _ (by omega)).trans (tP_SP _ _ _ _)
    have k15 : ∀ q, q < t.1 → tK t15 q = tK t q := fun q hq => (z2.2.1 q (by omega)).1.trans (low t5 x4 q hq).1
    have a15 : tP t15 a 0 = some (a + 1) := by
      rw [pS a (by omega), pA a (by omega), (low t5 x4 a (by omega)).2.2.2]; exact p0
    have ka1 : tK t (a + 1) = 7 := rd.1
    have hcl : F_X11_law_j61 t5 a t.1 = some (u5.2.1 0 4, t15) := by
      unfold F_X11_law_j61
      simp only [xlet]
      rw [if_pos ((low t5 x4 a (by omega)).1.trans k0), (low t5 x4 a (by omega)).2.2.2, p0, Option.bind_some, if_pos y1.1.1, y3, Option.bind_some, if_pos ((low t5 x4 (a + 1) (by omega)).1.trans ka1)]
      show (tP t8 a 0).bind _ = _
      rw [pA a (by omega), (low t5 x4 a (by omega)).2.2.2, p0, Option.bind_some]
      show (if tK t8 (a + 1) = 7 then (F_X7_settle t8 (a + 1)).bind _ else none) = _
      rw [if_pos (show tK t8 (a + 1) = 7 from (low t5 x4 (a + 1) (by omega)).1.trans ka1), z1, Option.bind_some, if_pos ((k15 a (by omega)).trans k0), a15, Option.bind_some, if_pos ((k15 _ (by omega)).trans ka1), p15, va_up_self, Option.bind_some, if_pos hN'.2.2.1.2.1.1, hN'.2.2.1.2.2.1]
    refine ⟨u5.2.1 0 4, t15, mS u5 18 0, ?_, ?_, ?_⟩
    · exact hc.trans (x1.trans hcl)
    · exact hr.trans x2
    · refine RR.nowE (u' := mS u5 18 0) (B2 := B) (L2 := t.1 + 1) (ls2 := ls5) hS hkp hTp hRw hSh hSf hTr hBg o15 (fun q hq hx => ?_) (fun q hq hy => Or.inl hy) (fun j hj => ?_) hN' hK (fun h j k hj hk => ?_) ?_
      · obtain ⟨k, hk, e⟩ := hx
        rw [nb] at hk
        exact Or.inr (Or.inr ⟨k, hk, e⟩)
      · rw [p15, va_up_ne _ _ hj, (low t5 x4 (a + 1) (by omega)).2.2.2]; rfl
      · have hj : j < nB (u5.2.1 0) := hj
        rw [nb] at hj
        exact (hK h).2.2.2.2 j k hj hk
      · unfold Cr
        have a3 := rb1 u5 x5 3 (by omega)
        have a16 := rb1 u5 x5 16 (by omega)
        have a32 := rb1 u5 x5 32 (by omega)
        rw [mS_n u5 _ (show 3 ≠ 18 by decide), mS_n u5 _ (show 16 ≠ 18 by decide), mS_n u5 _ (show 32 ≠ 18 by decide), mS_1, a3, a16, a32]
        show (u5.2.1 0, u5.2.1 1, u5.2.1 15, u5.2.1 17, u5.2.1 25, u5.2.1 26, u5.2.1 27, u5.2.1 28, u5.2.1 29, u5.2.1 30, u5.2.1 31, _) = _
        rw [rbk u5 x5 1 (by decide) (by decide), rbk u5 x5 15 (by decide) (by decide), rbk u5 x5 17 (by decide) (by decide), rbk u5 x5 25 (by decide) (by decide), rbk u5 x5 26 (by decide) (by decide), rbk u5 x5 27 (by decide) (by decide), rbk u5 x5 28 (by decide) (by decide), rbk u5 x5 29 (by decide) (by decide), rbk u5 x5 30 (by decide) (by decide), rbk u5 x5 31 (by decide) (by decide)]
        rfl
  · -- a fault
    have o5 := ol t5 x5
    have t5t := top t5 x5
    obtain ⟨u6, b1, b2, b3, b4, b5, -⟩ := back_l 303 0 xFuel (mS u5 18 0) (by omega) (xF_big (by omega))
    have e3 : E3 (u.2.1 0) (u6.2.1 0) := fun j hj => by
      rw [b5 j (Nat.zero_le _) hj]
      show u5.2.1 2 j = _
      rw [x6.1 2 (by decide), w5.1]; exact mk2 j hj
    have hcl : F_X12_law_j60 u5 = some ((-100 : Int32) - nI st5, u6) := by
      have f24 : ¬ (mS u5 18 0).1 24 = 0 := by rw [mS_n _ _ (by decide)]; exact x3
      unfold F_X12_law_j60 F_X12_putsBack
      simp only [xlet]
      rw [if_neg f24, show F_X12_putsBack_l2 xFuel (mS u5 18 0) 0 = some u6 from b1, Option.bind_some, b2, mS_n _ _ (by decide), x4]
    have hn8 : nC (u.2.1 0) ≤ 8 := hI.2.2.2.1.1
    have hn9 : nB (u.2.1 0) ≤ 9 := hI.1.1
    have fl : ∀ (P : Nat → Prop) q, P q → ¬ (fun _ : Nat => False) q := fun _ _ _ h => h
    refine ⟨(-100 : Int32) - nI st5, t5, u6, hc.trans x1, hr.trans (x2.trans hcl), ?_⟩
    refine RR.nowE (u' := u6) (B2 := B) (L2 := L) (ls2 := ls) hS hkp hTp hRw hSh hSf hTr hBg o5 (fun q hq hx => hx.elim) (fun q hq hy => hy.elim) (fun j hj => ?_) ⟨e3.iv hI, e3.rd (hRd.ol o5 (show a + 1 + 15 < t.1 by omega) (fun _ _ h => h)), e3.law hn8 (hLw.ol3 o5 ?_ id (fun _ _ _ h => h)), e3.bg hn9 (hBg.ol o5 (show a + 1 + 1 < t.1 by omega) id (fun _ _ h => h)), e3.st hn8 hn9 (hSt.ol o5 (fun k hk => (hBg k hk).2.2.1) (fun _ _ h => h))⟩ hK (fun h j k hj hk => ?_) ?_
    · rw [(low t5 x5 (a + 1) (by omega)).2.2.2]; rfl
    · rw [(low t5 x5 (a + 1) (by omega)).2.2.2]; rfl
    · rw [e3.n.1] at hj
      exact (hK h).2.2.2.2 j k hj hk
    · unfold Cr
      have a3 : u6.1 3 = u.1 3 := by rw [b2, mS_n _ _ (by decide)]; exact rb1 u5 x6 3 (by omega)
      have a16 : u6.1 16 = u.1 16 := by rw [b2, mS_n _ _ (by decide)]; exact rb1 u5 x6 16 (by omega)
      have a18 : u6.1 18 = 0 := by rw [b2, mS_1]
      have a32 : u6.1 32 = u.1 32 := by rw [b2, mS_n _ _ (by decide)]; exact rb1 u5 x6 32 (by omega)
      have g : ∀ k, k ≠ 0 → k ≠ 2 → u6.2.1 k = u.2.1 k := fun k c d => (b3 k c).trans (rbk u5 x6 k c d)
      rw [a3, a16, a18, a32, g 1 (by decide) (by decide), g 15 (by decide) (by decide), g 17 (by decide) (by decide), g 25 (by decide) (by decide), g 26 (by decide) (by decide), g 27 (by decide) (by decide), g 28 (by decide) (by decide), g 29 (by decide) (by decide), g 30 (by decide) (by decide), g 31 (by decide) (by decide)]
      rfl
