/-! ===== pure mathematics 36: conditions ===== -/
theorem name_len {t : xT} {u : xS} {N q n st en j : Nat} {T : Nat → Int32} (h : Tk t u N q T n st en) (hj : j < 19) (e : F_X3_isName t N j = some (1, t)) : en = st + sN j ∧ st < n := by
  obtain ⟨hC, hR, ⟨k1, k2, k3, k4, k5⟩, h5, h6, h2, h19, h20⟩ := h
  have hn : n ≤ 200 := hC.2.2.2.2.2.2.1
  have hw := (wB j hj).2.2.2
  have sub : nI en - nI st = nI (en - st) := by
    have : nI en = nI (en - st) + nI st := by rw [nI_add, Nat.sub_add_cancel (by omega)]
    rw [this, Int32.add_sub_cancel]
  have no : ¬ ((0 : Int32), t) = (1, t) := fun x => absurd (congrArg Prod.fst x) (show ¬ (0 : Int32) = 1 by decide)
  unfold F_X3_isName F_X3_isName_j24 at e
  rw [if_pos hC.1, h2, if_pos hj, h5, h6, sub] at e
  by_cases c : so T n st = 1
  · have := k4 (by rw [c]; decide)
    rw [if_pos c] at e
    by_cases d : nI (en - st) = nI (sN j)
    · have := (nI_eq (by omega) (by omega)).1 d
      exact ⟨by omega, by omega⟩
    · rw [if_neg d] at e; exact absurd (Option.some.inj e) no
  · rw [if_neg c] at e; exact absurd (Option.some.inj e) no
theorem Ph.up {h h' : Nat} {l : List yX} (p : Ph h l) (e : h ≤ h') : Ph h' l := fun d rest hd hr => p d rest (by omega) hr
theorem Ph.no {h : Nat} {l : List yX} (p : Ph h l) (e : 1 ≤ h) : Ph h (l ++ [(3, 0, 0)]) := fun d rest hd hr => by
  rw [List.append_assoc]
  exact p d _ hd ⟨by omega, Or.inl ⟨rfl, by omega, hr⟩⟩
theorem Ph.op {h : Nat} {l l' : List yX} {x : Int32} (p : Ph (h + 1) l) (p' : Ph h l') (e : 1 ≤ h) (hx : x = 4 ∨ x = 5) : Ph (h + 1) (l ++ (l' ++ [(x, 0, 0)])) := fun d rest hd hr => by
  rw [List.append_assoc, List.append_assoc]
  refine p d _ hd (p' (d + 1) _ (by omega) ⟨by omega, Or.inr (Or.inl ⟨hx, by omega, ?_⟩)⟩)
  exact hr
/-- the class's step with the reference's code -/
theorem Si.op {t : xT} {u : xS} {N q a n st en f0 c0 o : Nat} {T : Nat → Int32} {cur : List yX} (h : Si t u N q a T n st en f0 c0 o cur) {x code : Int32} (hx : enc (x, 0, 0) = [code]) (hb : 2 * (f0 + cur.length + 1) ≤ st) (hb' : c0 + (encL cur).length + 1 ≤ st) : ∃ t' u', F_X2_addStep t (N + 1) x 0 0 = some t' ∧ F_X12_writes u code = some u' ∧ Si t' u' N q a T n st en f0 c0 o (cur ++ [(x, 0, 0)]) ∧ Ck N f0 t t' ∧ Rf c0 u u' := by
  obtain ⟨s1, s2, s3, s4, s5, s6, s7, s8, s9⟩ := h
  have hn : n ≤ 200 := s1.1.2.2.2.2.2.2.1
  have h1 := s1.2.2.1.1
  have h2 := s1.2.2.1.2.1
  obtain ⟨u', f1, f2, f3⟩ := wr s4 s5.2 (by omega) code
  obtain ⟨t', m1, m2, m3⟩ := Si.step (x := x) (y := 0) (z := 0) (f3.tk s1) s2 s3 ((f3.2 24 (by decide)).trans s4) s5.1 (by rw [hx]; exact f2) hb (by rw [hx]; exact hb') ((f3.2 22 (by decide)).trans s8) s9
  exact ⟨t', u', m1, f1, m2, m3, f3.1⟩
def krF (kr : xS → Option xS) : Prop := ∀ u, u.1 24 ≠ 0 → kr u = some u
def krO (kc : xT → Nat → Int32 → Option (Int32 × xT)) (kr : xS → Option xS) (N q a : Nat) (T : Nat → Int32) (n f0 c0 o hh : Nat) : Prop := ∀ t u st en cur, Si t u N q a T n st en f0 c0 o cur → Out (kc t N (nI o)) (kr u) t u N q a T n st f0 c0 o cur hh
def oneT (kr : xS → Option xS) (u : xS) (y1 : Int32) : Option xS := if (u.1 24) = 0 then (F_X12_byteAt u (u.1 19)).bind (fun r24 => if r24 = (40 : Int32) then if (3 : Int32) ≤ (u.1 22) then F_X12_one_j65 kr u y1 (0 : Int32) else F_X12_one_j65 kr u y1 (1 : Int32) else F_X12_one_j124 kr u y1) else F_X12_one_j124 kr u y1
theorem refu {tt : xT} {uu : xS} {N q n s e : Nat} {T : Nat → Int32} (hh : Tk tt uu N q T n s e) : F_X3_refuse tt N = some (0, tSI tt N 1 (nI s)) := by
  unfold F_X3_refuse
  simp only [xlet]
  rw [if_pos hh.1.1, hh.2.2.2.1]
/-- ONE without its "not" -/
theorem one_in {kc : xT → Nat → Int32 → Option (Int32 × xT)} {kr : xS → Option xS} {t : xT} {u : xS} {N q a n st en f0 c0 o hh : Nat} {T : Nat → Int32} {cur : List yX} (ho : o ≤ 3) (hF : krF kr) (hO : o < 3 → krO kc kr N q a T n f0 c0 (o + 1) hh) (h1 : 1 ≤ hh) (h : Si t u N q a T n st en f0 c0 o cur) : (∃ t' u' st' en' add, (∀ y, F_X3_readOne_j40 kc t N (nI o) y = F_X3_readOne_j69 kc t' N y) ∧ (∀ y, oneT kr u y = F_X12_one_j128 kr u' y) ∧ Si t' u' N q a T n st' en' f0 c0 o (cur ++ add) ∧ Ck N f0 t t' ∧ Rf c0 u u' ∧ st + 1 ≤ st' ∧ st + 2 * add.length ≤ st' ∧ st + (encL add).length ≤ st' ∧ Ph hh add) ∨
  (∃ t' u' st' en', (∀ y, F_X3_readOne_j40 kc t N (nI o) y = some (0, t')) ∧ (∀ y, oneT kr u y = some u') ∧ Fp u' T n st' en' ∧ tI t' N 1 = nI st' ∧ Ck N f0 t t' ∧ Rf c0 u u') := by
  have s1 := h.1
  have s4 := h.2.2.2.1
  have s8 := h.2.2.2.2.2.2.2.1
  have hn : n ≤ 200 := s1.1.2.2.2.2.2.2.1
  have hk := s1.1.1
  have kst := s1.2.2.1.1
  have ken := s1.2.2.1.2.1
  obtain ⟨xx, x1, x2⟩ := byte s1 40 (by decide) (by decide)
  by_cases c : xx = 40
  · -- "("
    have lt : st < en := s1.2.2.1.2.2.2.1 (fun e => by
      have := (so_0 T n st).1 e
      have eL := byN s1.2.1 hn (show st ≤ 200 by omega) s1.2.2.2.2.2.2.1
      rw [x1] at eL
      have eL := Option.some.inj eL
      unfold LB at eL
      rw [if_pos this, c] at eL
      exact absurd eL (by decide))
    have jC : ∀ y, F_X3_readOne_j40 kc t N (nI o) y = (F_X3_readWithin kc t N (nI o)).bind (fun r17 => if r17.1 = 0 then F_X3_readOne_j67 kc r17.2 N else F_X3_readOne_j69 kc r17.2 N y) := fun y => by
      unfold F_X3_readOne_j40
      rw [if_pos hk, x2, Option.bind_some, bI_t c, if_neg i32_n10]
    have jR : ∀ y, oneT kr u y = if (3 : Int32) ≤ nI o then F_X12_one_j65 kr u y 0 else F_X12_one_j65 kr u y 1 := fun y => by
      unfold oneT
      rw [if_pos s4, x1, Option.bind_some, if_pos c, s8]
    by_cases o3 : o = 3
    · -- too deep
      right
      have b1 : ¬ nI o < 3 := by rw [o3]; decide
      have b2 : (3 : Int32) ≤ nI o := by rw [o3]; decide
      let u1 := mS u 24 1
      let u2 := mS u1 22 (u1.1 22 + 1)
      let u3 := mS u2 22 (u2.1 22 - 1)
      have F1 : Fk u u1 := Fk.S24 u
      have F2 : Fk u u2 := F1.tr (Fk.S F1.2.1 _ (by omega))
      have F3 : Fk u u3 := F2.tr (Fk.S F2.2.1 _ (by omega))
      have tk3 : Tk t u3 N q T n st en := s1.u (by rw [F3.1]) (fun j hj => F3.2.2 j (by omega) (by omega) (by omega))
      have fp3 := tk3.fp F3.2.1
      refine ⟨tSI t N 1 (nI st), mS u3 24 1, st, en, fun y => ?_, fun y => ?_, fp3.k (Fk.S24 u3), by rw [tI_SI, upd_s], (Rk.SI N t _ (by omega)).ck, (F3.tr (Fk.S24 u3)).f⟩
      · rw [jC]
        unfold F_X3_readWithin F_X3_readOne_j67
        rw [if_neg b1, if_pos hk, refu s1, Option.bind_some, Option.bind_some, if_pos rfl]
      · rw [jR, if_pos b2]
        unfold F_X12_one_j65
        simp only [xlet]
        rw [need_0, Option.bind_some]
        show (kr u2).bind _ = _
        rw [hF u2 F2.2.1, Option.bind_some]
        show (if u3.1 24 = 0 then _ else F_X12_one_j117 kr u3 y) = _
        rw [if_neg F3.2.1]
        unfold F_X12_one_j117
        exact f_j118 fp3 y 0
    · have b1 : nI o < 3 := nI_lt (b := 3) (by omega) (by decide)
      have b2 : ¬ (3 : Int32) ≤ nI o := nI_ge (b := 3) (by omega) (by decide)
      obtain ⟨t1, u1, st1, en1, n1, n2, n3, n4, n5, n6⟩ := h.next
      have r24 := n4.2.2.2.1
      have r22 := n4.2.2.2.2.2.2.2.1
      have hk1 := n4.1.1.1
      have Si1 : Si t1 (mS u1 22 (nI (o + 1))) N q a T n st1 en1 f0 c0 (o + 1) cur := by
        obtain ⟨z1, z2, z3, z4, z5, z6, z7, z8, z9⟩ := n4
        exact ⟨z1.u rfl (fun j hj => mS_n _ _ (by omega)), z2, z3, (mS_n _ _ (by decide)).trans z4, ⟨z5.1, z5.2.u rfl (mS_n _ _ (by decide))⟩, z6, z7, mS_1 _ _ _, z9⟩
      have R1 : Rf c0 u (mS u1 22 (nI (o + 1))) := n6.f.tr (Rf.S c0 u1 _ (by omega) (by omega))
      have jR' : ∀ y, oneT kr u y = (kr (mS u1 22 (nI (o + 1)))).bind (fun r11 => xlet (mS r11 22 ((r11.1 22) - (1 : Int32))) (fun u13 => if (u13.1 24) = 0 then (F_X12_byteAt u13 (u13.1 19)).bind (fun r15 => if r15 = (41 : Int32) then F_X12_one_j118 kr u13 y (1 : Int32) else F_X12_one_j117 kr u13 y) else F_X12_one_j117 kr u13 y)) := fun y => by
        rw [jR, if_neg b2]
        unfold F_X12_one_j65
        rw [need_1 s4, n2, Option.bind_some]
        unfold xlet
        rw [r22, nI_1]
      have jC' : ∀ y, F_X3_readOne_j40 kc t N (nI o) y = ((kc t1 N (nI (o + 1))).bind (fun r6 => if r6.1 = 0 then some ((0 : Int32), r6.2) else if tK r6.2 N = 3 then (F_X3_isByte r6.2 N (41 : Int32)).bind (fun r11 => if r11 = 0 then (F_X3_refuse r6.2 N).bind (fun r17 => some (r17.1, r17.2)) else (F_X3_next r6.2 N).bind (fun r15 => some ((1 : Int32), r15))) else none)).bind (fun r17 => if r17.1 = 0 then F_X3_readOne_j67 kc r17.2 N else F_X3_readOne_j69 kc r17.2 N y) := fun y => by
        rw [jC]
        unfold F_X3_readWithin
        rw [if_pos b1, if_pos hk, n1, Option.bind_some, if_pos hk1, nI_1]
      rcases hO (by omega) t1 _ st1 en1 cur Si1 with ⟨t2, u2, st2, en2, add, q1, q2, q3, q4, q5, q6, q7, q8, q9⟩ | ⟨t2, u2, st2, en2, q1, q2, q3, q4, q5, q6⟩
      · have Si2 : Si t2 (mS u2 22 (nI o)) N q a T n st2 en2 f0 c0 o (cur ++ add) := by
          obtain ⟨z1, z2, z3, z4, z5, z6, z7, z8, z9⟩ := q3
          exact ⟨z1.u rfl (fun j hj => mS_n _ _ (by omega)), z2, z3, (mS_n _ _ (by decide)).trans z4, ⟨z5.1, z5.2.u rfl (mS_n _ _ (by decide))⟩, z6, z7, mS_1 _ _ _, z9⟩
        have R2 : Rf c0 u (mS u2 22 (nI o)) := R1.tr (q5.tr (Rf.S c0 u2 _ (by omega) (by omega)))
        have C2 : Ck N f0 t t2 := n5.ck.tr q4
        have e22 : u2.1 22 - 1 = nI o := by rw [q3.2.2.2.2.2.2.2.1, nI_pred]
        have hk2 := q3.1.1.1
        have kst2 := Si2.1.2.2.1.1
        have a24 := Si2.2.2.2.1
        obtain ⟨yy, y1, y2⟩ := byte Si2.1 41 (by decide) (by decide)
        have jR2 : ∀ y, oneT kr u y = if yy = 41 then F_X12_one_j118 kr (mS u2 22 (nI o)) y 1 else F_X12_one_j117 kr (mS u2 22 (nI o)) y := fun y => by
          rw [jR', q2, Option.bind_some]
          simp only [xlet]
          rw [e22, if_pos a24, y1, Option.bind_some]
        by_cases d : yy = 41
        · left
          obtain ⟨t3, u3, st3, en3, m1, m2, m3, m4, m5, m6⟩ := Si2.next
          refine ⟨t3, u3, st3, en3, add, fun y => ?_, fun y => ?_, m4, C2.tr m5.ck, R2.tr m6.f, by omega, by omega, by omega, q9⟩
          · rw [jC', q1, Option.bind_some, if_neg i32_n10, if_pos hk2, y2, Option.bind_some, bI_t d, if_neg i32_n10, m1, Option.bind_some, Option.bind_some, if_neg i32_n10]
          · rw [jR2, if_pos d]
            unfold F_X12_one_j118
            rw [need_1 a24, m2, Option.bind_some]
        · right
          have FF := Fk.S24 (mS u2 22 (nI o))
          have tk3 : Tk t2 (mS (mS u2 22 (nI o)) 24 1) N q T n st2 en2 := Si2.1.u rfl (fun j hj => mS_n _ _ (by omega))
          have fp3 := tk3.fp FF.2.1
          refine ⟨tSI t2 N 1 (nI st2), mS (mS u2 22 (nI o)) 24 1, st2, en2, fun y => ?_, fun y => ?_, fp3, by rw [tI_SI, upd_s], C2.tr (Rk.SI N t2 _ (by omega)).ck, R2.tr FF.f⟩
          · rw [jC', q1, Option.bind_some, if_neg i32_n10, if_pos hk2, y2, Option.bind_some, bI_f d, if_pos rfl, refu Si2.1, Option.bind_some, Option.bind_some, if_pos rfl]
            rfl
          · rw [jR2, if_neg d]
            unfold F_X12_one_j117 F_X12_one_j118
            rw [need_0, Option.bind_some]
            exact f_j128 FF.2.1 y
      · right
        have F3 : Fk u2 (mS u2 22 (u2.1 22 - 1)) := Fk.S q3.1 _ (by omega)
        have fp3 := q3.k F3
        refine ⟨t2, mS (mS u2 22 (u2.1 22 - 1)) 24 1, st2, en2, fun y => ?_, fun y => ?_, fp3.k (Fk.S24 _), q4, n5.ck.tr q5, R1.tr (q6.tr (F3.tr (Fk.S24 _)).f)⟩
        · rw [jC', q1, Option.bind_some, if_pos rfl, Option.bind_some, if_pos rfl]
          rfl
        · rw [jR', q2, Option.bind_some]
          simp only [xlet]
          rw [if_neg F3.2.1]
          unfold F_X12_one_j117
          exact f_j118 fp3 y 0
  · -- a comparison
    have jC : ∀ y, F_X3_readOne_j40 kc t N (nI o) y = (F_X3_readComparison t N).bind (fun r13 => if r13.1 = 0 then F_X3_readOne_j67 kc r13.2 N else F_X3_readOne_j69 kc r13.2 N y) := fun y => by
      unfold F_X3_readOne_j40
      rw [if_pos hk, x2, Option.bind_some, bI_f c, if_pos rfl]
    have jR : ∀ y, oneT kr u y = (F_X12_comparison u).bind (fun r4 => F_X12_one_j128 kr r4 y) := fun y => by
      unfold oneT F_X12_one_j124
      rw [if_pos s4, x1, Option.bind_some, if_neg c]
    rcases comparison h with ⟨t2, u2, st2, en2, add, q1, q2, q3, q4, q5, q6, q7, q8, q9⟩ | ⟨t2, u2, st2, en2, q1, q2, q3, q4, q5, q6⟩
    · left
      refine ⟨t2, u2, st2, en2, add, fun y => ?_, fun y => ?_, q3, q4, q5, q6, q7, q8, q9.up h1⟩
      · rw [jC, q1, Option.bind_some, if_neg i32_n10]
      · rw [jR, q2, Option.bind_some]
    · right
      refine ⟨t2, u2, st2, en2, fun y => ?_, fun y => ?_, q3, q4, q5, q6⟩
      · rw [jC, q1, Option.bind_some, if_pos rfl]; rfl
      · rw [jR, q2, Option.bind_some]; exact f_j128 q3.1 y
theorem one_l {kc : xT → Nat → Int32 → Option (Int32 × xT)} {kr : xS → Option xS} {N q a n f0 c0 o hh : Nat} {T : Nat → Int32} {cur : List yX} (ho : o ≤ 3) (hF : krF kr) (hO : o < 3 → krO kc kr N q a T n f0 c0 (o + 1) hh) (h1 : 1 ≤ hh) {t0 : xT} {u0 : xS} {st0 : Nat} (hst : 2 * (f0 + cur.length) ≤ st0 ∧ c0 + (encL cur).length ≤ st0) : ∀ m i k k' t u st en (b : Bool), st + m = n → m < k → m < k' → i ≤ st → st0 ≤ st → (b = true → st0 + 3 ≤ st) → Si t u N q a T n st en f0 c0 o cur → Ck N f0 t0 t → Rf c0 u0 u → Out (F_X3_readOne_l4 kc k t N (nI o) (if b then 1 else 0) (nI i)) (F_X12_one_l2 kr k' u (if b then 1 else 0)) t0 u0 N q a T n st0 f0 c0 o cur hh
  | _, _, 0, _, _, _, _, _, _, _, h, _, _, _, _, _, _, _ => absurd h (Nat.not_lt_zero _)
  | _, _, _, 0, _, _, _, _, _, _, _, h, _, _, _, _, _, _ => absurd h (Nat.not_lt_zero _)
  | m, i, k + 1, k' + 1, t, u, st, en, b, hm, hk, hk', hi, hs, hb, h, hC, hR => by
    have s1 := h.1
    have hn : n ≤ 200 := s1.1.2.2.2.2.2.2.1
    have hkk := s1.1.1
    have kst := s1.2.2.1.1
    have ken := s1.2.2.1.2.1
    have s4 := h.2.2.2.1
    obtain ⟨w, w1, w2, w3⟩ := word s1 s4
    have e7 := w3 7 (by decide)
    rw [hN_7] at e7
    by_cases c : w = 14836
    · -- "not"
      have eN : F_X3_isName t N 7 = some (1, t) := by rw [e7, bI_t c]
      obtain ⟨l1, l2⟩ := name_len s1 (by decide) eN
      have l1 : en = st + 3 := l1
      obtain ⟨t1, u1, st1, en1, n1, n2, n3, n4, n5, n6⟩ := h.next
      have h1n := n4.1.2.2.1.1
      have h2n := n4.1.2.2.1.2.1
      have ih := one_l (hh := hh) ho hF hO h1 hst (n - st1) (i + 1) k k' t1 u1 st1 en1 (!b) (by omega) (by omega) (by omega) (by omega) (by omega) (fun _ => by omega) n4 (hC.tr n5.ck) (hR.tr n6.f)
      have ec : F_X3_readOne_l4 kc (k + 1) t N (nI o) (if b then 1 else 0) (nI i) = F_X3_readOne_l4 kc k t1 N (nI o) (if (!b) then 1 else 0) (nI (i + 1)) := by
        conv => lhs; unfold F_X3_readOne_l4
        rw [if_neg (show ¬ (200 : Int32) ≤ nI i from nI_ge (b := 200) (by omega) (by decide)), if_pos hkk, eN, Option.bind_some, if_neg i32_n10]
        have j : ∀ z, F_X3_readOne_j29 kc (F_X3_readOne_l4 kc k) t N (nI o) (nI i) z = F_X3_readOne_l4 kc k t1 N (nI o) z (nI (i + 1)) := fun z => by
          unfold F_X3_readOne_j29
          simp only [xlet]
          rw [if_pos hkk, n1, Option.bind_some, nI_1]
        show (if (if b then (1 : Int32) else 0) = 0 then F_X3_readOne_j29 kc (F_X3_readOne_l4 kc k) t N (nI o) (nI i) 1 else F_X3_readOne_j29 kc (F_X3_readOne_l4 kc k) t N (nI o) (nI i) 0) = _
        rw [j, j]
        cases b with
        | false => rfl
        | true => rfl
      have er : F_X12_one_l2 kr (k' + 1) u (if b then 1 else 0) = F_X12_one_l2 kr k' u1 (if (!b) then 1 else 0) := by
        conv => lhs; unfold F_X12_one_l2
        rw [w1, Option.bind_some, if_pos ((lg_cmp_eq _ _).2 c)]
        unfold F_X12_one_j22
        rw [need_1 s4, n2, Option.bind_some]
        cases b with
        | false => rfl
        | true => rfl
      rw [ec, er]
      exact ih
    · have ec : F_X3_readOne_l4 kc (k + 1) t N (nI o) (if b then 1 else 0) (nI i) = F_X3_readOne_j40 kc t N (nI o) (if b then 1 else 0) := by
        conv => lhs; unfold F_X3_readOne_l4
        by_cases d : (200 : Int32) ≤ nI i
        · rw [if_pos d]
        · rw [if_neg d, if_pos hkk, e7, bI_f c, Option.bind_some, if_pos rfl]
      have er : F_X12_one_l2 kr (k' + 1) u (if b then 1 else 0) = oneT kr u (if b then 1 else 0) := by
        conv => lhs; unfold F_X12_one_l2
        rw [w1, Option.bind_some, if_neg (fun e => c ((lg_cmp_eq _ _).1 e))]
        rfl
      rw [ec, er]
      rcases one_in ho hF hO h1 h with ⟨t2, u2, st2, en2, add, q1, q2, q3, q4, q5, q6, q7, q8, q9⟩ | ⟨t2, u2, st2, en2, q1, q2, q3, q4, q5, q6⟩
      · rw [q1, q2]
        have q24 := q3.2.2.2.1
        have hk2 := q3.1.1.1
        cases b with
        | false =>
          refine Or.inl ⟨t2, u2, st2, en2, add, rfl, rfl, q3, hC.tr q4, hR.tr q5, by omega, by omega, by omega, q9⟩
        | true =>
          have hb := hb rfl
          have ll : (cur ++ add).length = cur.length + add.length := List.length_append
          have ee : (encL (cur ++ add)).length = (encL cur).length + (encL add).length := by rw [encL_app, List.length_append]
          obtain ⟨t3, u3, g1, g2, g3, g4, g5⟩ := q3.op (x := 3) (code := -20) rfl (by omega) (by omega)
          rw [List.append_assoc] at g3
          refine Or.inl ⟨t3, u3, st2, en2, add ++ [(3, 0, 0)], ?_, ?_, g3, hC.tr (q4.tr g4), hR.tr (q5.tr g5), by omega, ?_, ?_, q9.no h1⟩
          · show F_X3_readOne_j69 kc t2 N 1 = _
            unfold F_X3_readOne_j69 F_X3_readOne_j83
            rw [if_neg i32_n10, if_pos hk2, q3.2.2.1, Option.bind_some, if_pos q3.2.1.1, g1, Option.bind_some]
          · show F_X12_one_j128 kr u2 1 = _
            unfold F_X12_one_j128 F_X12_one_j138
            rw [if_neg i32_n10, g2, Option.bind_some]
          · rw [List.length_append]; show st0 + 2 * (add.length + 1) ≤ st2; omega
          · rw [encL_app, List.length_append]; show st0 + ((encL add).length + 1) ≤ st2; omega
      · rw [q1, q2]
        exact Or.inr ⟨t2, u2, st2, en2, rfl, rfl, q3, q4, hC.tr q5, hR.tr q6⟩
theorem one {kc : xT → Nat → Int32 → Option (Int32 × xT)} {kr : xS → Option xS} {N q a n f0 c0 o hh : Nat} {T : Nat → Int32} (ho : o ≤ 3) (hF : krF kr) (hO : o < 3 → krO kc kr N q a T n f0 c0 (o + 1) hh) (h1 : 1 ≤ hh) : krO (F_X3_readOne kc) (F_X12_one kr) N q a T n f0 c0 o hh := fun t u st en cur h => by
  have hn : n ≤ 200 := h.1.1.2.2.2.2.2.2.1
  have k1 := h.1.2.2.1.1
  have k2 := h.1.2.2.1.2.1
  exact one_l ho hF hO h1 ⟨h.2.2.2.2.2.1, h.2.2.2.2.2.2.1⟩ (n - st) 0 xFuel xFuel t u st en false (by omega) (xF_big (by omega)) (xF_big (by omega)) (Nat.zero_le _) (Nat.le_refl _) (fun e => by cases e) h (Ck.rf _ _ _) (Rf.rf _ _)
theorem all_l {kc : xT → Nat → Int32 → Option (Int32 × xT)} {kr : xS → Option xS} {N q a n f0 c0 o hh : Nat} {T : Nat → Int32} {cur : List yX} (hO : krO (F_X3_readOne kc) (F_X12_one kr) N q a T n f0 c0 o hh) (h1 : 1 ≤ hh) {t0 : xT} {u0 : xS} {st0 : Nat} : ∀ m i k k' t u st en add, st + m = n → m < k → m < k' → i ≤ st → Si t u N q a T n st en f0 c0 o (cur ++ add) → Ck N f0 t0 t → Rf c0 u0 u → st0 + 1 ≤ st → st0 + 2 * add.length ≤ st → st0 + (encL add).length ≤ st → Ph (hh + 1) add → Out (F_X3_readAllOf_l12 kc k t N (nI o) (nI i)) (F_X12_all_l4 kr k' u) t0 u0 N q a T n st0 f0 c0 o cur (hh + 1)
  | _, _, 0, _, _, _, _, _, _, _, h, _, _, _, _, _, _, _, _, _ => absurd h (Nat.not_lt_zero _)
  | _, _, _, 0, _, _, _, _, _, _, _, h, _, _, _, _, _, _, _, _ => absurd h (Nat.not_lt_zero _)
  | m, i, k + 1, k' + 1, t, u, st, en, add, hm, hk, hk', hi, h, hC, hR, b1, b2, b3, hP => by
    have s1 := h.1
    have hn : n ≤ 200 := s1.1.2.2.2.2.2.2.1
    have hkk := s1.1.1
    have kst := s1.2.2.1.1
    have ken := s1.2.2.1.2.1
    have s4 := h.2.2.2.1
    obtain ⟨w, w1, w2, w3⟩ := word s1 s4
    have e7 := w3 13 (by decide)
    rw [hN_13] at e7
    by_cases c : w = 1476
    · have eN : F_X3_isName t N 13 = some (1, t) := by rw [e7, bI_t c]
      obtain ⟨l1, l2⟩ := name_len s1 (by decide) eN
      have l1 : en = st + 3 := l1
      obtain ⟨t1, u1, st1, en1, n1, n2, n3, n4, n5, n6⟩ := h.next
      have h1n := n4.1.2.2.1.1
      have h2n := n4.1.2.2.1.2.1
      have hk1 := n4.1.1.1
      have ec : F_X3_readAllOf_l12 kc (k + 1) t N (nI o) (nI i) = (F_X3_readOne kc t1 N (nI o)).bind (fun r11 => if r11.1 = 0 then some ((0 : Int32), r11.2) else if tK r11.2 N = 3 then (tP r11.2 N 0).bind (fun q16 => if tK r11.2 q16 = 2 then (F_X2_addStep r11.2 q16 (4 : Int32) (0 : Int32) (0 : Int32)).bind (fun r19 => F_X3_readAllOf_l12 kc k r19 N (nI o) (nI (i + 1))) else none) else none) := by
        conv => lhs; unfold F_X3_readAllOf_l12
        rw [if_neg (show ¬ (200 : Int32) ≤ nI i from nI_ge (b := 200) (by omega) (by decide)), if_pos hkk, eN, Option.bind_some, if_neg i32_n10, if_pos hkk, n1, Option.bind_some, if_pos hk1]
        unfold xlet
        rw [nI_1]
      have er : F_X12_all_l4 kr (k' + 1) u = (F_X12_one kr u1).bind (fun r6 => (F_X12_writes r6 (-21 : Int32)).bind (fun r8 => F_X12_all_l4 kr k' r8)) := by
        conv => lhs; unfold F_X12_all_l4
        rw [w1, Option.bind_some, if_pos ((lg_cmp_eq _ _).2 c), need_1 s4, n2, Option.bind_some]
      rw [ec, er]
      rcases hO t1 u1 st1 en1 _ n4 with ⟨t2, u2, st2, en2, add2, q1, q2, q3, q4, q5, q6, q7, q8, q9⟩ | ⟨t2, u2, st2, en2, q1, q2, q3, q4, q5, q6⟩
      · have hk2 := q3.1.1.1
        have h3n := q3.1.2.2.1.1
        have h4n := q3.1.2.2.1.2.1
        have z6 := h.2.2.2.2.2.1
        have z7 := h.2.2.2.2.2.2.1
        have ll : ((cur ++ add) ++ add2).length = (cur ++ add).length + add2.length := List.length_append
        have ee : (encL ((cur ++ add) ++ add2)).length = (encL (cur ++ add)).length + (encL add2).length := by rw [encL_app, List.length_append]
        obtain ⟨t3, u3, g1, g2, g3, g4, g5⟩ := q3.op (x := 4) (code := -21) rfl (by omega) (by omega)
        have q2 : F_X12_one kr u1 = some u2 := q2
        rw [q1, q2, Option.bind_some, Option.bind_some, if_neg i32_n10, if_pos hk2, q3.2.2.1, Option.bind_some, if_pos q3.2.1.1, g1, Option.bind_some, g2, Option.bind_some]
        have ea : ((cur ++ add) ++ add2) ++ [((4 : Int32), (0 : Int32), (0 : Int32))] = cur ++ (add ++ (add2 ++ [(4, 0, 0)])) := by rw [List.append_assoc, List.append_assoc]
        rw [ea] at g3
        refine all_l hO h1 (n - st2) (i + 1) k k' t3 u3 st2 en2 _ (by omega) (by omega) (by omega) (by omega) g3 (hC.tr (n5.ck.tr (q4.tr g4))) (hR.tr (n6.f.tr (q5.tr g5))) (by omega) ?_ ?_ (hP.op q9 h1 (Or.inl rfl))
        · rw [List.length_append, List.length_append]; show st0 + 2 * (add.length + (add2.length + 1)) ≤ st2; omega
        · rw [encL_app, encL_app, List.length_append, List.length_append]; show st0 + ((encL add).length + ((encL add2).length + 1)) ≤ st2; omega
      · obtain ⟨k2, rfl⟩ : ∃ k2, k' = k2 + 1 := ⟨k' - 1, by omega⟩
        rw [q1, q2, Option.bind_some, Option.bind_some, if_pos rfl, write_f q3.1, Option.bind_some, f_all_l q3]
        exact Or.inr ⟨t2, u2, st2, en2, rfl, rfl, q3, q4, hC.tr (n5.ck.tr q5), hR.tr (n6.f.tr q6)⟩
    · have ec : F_X3_readAllOf_l12 kc (k + 1) t N (nI o) (nI i) = some (1, t) := by
        conv => lhs; unfold F_X3_readAllOf_l12 F_X3_readAllOf_j58
        by_cases d : (200 : Int32) ≤ nI i
        · rw [if_pos d]
        · rw [if_neg d, if_pos hkk, e7, bI_f c, Option.bind_some, if_pos rfl]
      have er : F_X12_all_l4 kr (k' + 1) u = some u := by
        conv => lhs; unfold F_X12_all_l4
        rw [w1, Option.bind_some, if_neg (fun e => c ((lg_cmp_eq _ _).1 e))]
      rw [ec, er]
      exact Or.inl ⟨t, u, st, en, add, rfl, rfl, h, hC, hR, b1, b2, b3, hP⟩
theorem all {kc : xT → Nat → Int32 → Option (Int32 × xT)} {kr : xS → Option xS} {N q a n f0 c0 o hh : Nat} {T : Nat → Int32} (hO : krO (F_X3_readOne kc) (F_X12_one kr) N q a T n f0 c0 o hh) (h1 : 1 ≤ hh) : krO (F_X3_readAllOf kc) (F_X12_all kr) N q a T n f0 c0 o (hh + 1) := fun t u st en cur h => by
  have hk := h.1.1.1
  have hn : n ≤ 200 := h.1.1.2.2.2.2.2.2.1
  have s4 := h.2.2.2.1
  have ec : F_X3_readAllOf kc t N (nI o) = (F_X3_readOne kc t N (nI o)).bind (fun r23 => if r23.1 = 0 then some ((0 : Int32), r23.2) else F_X3_readAllOf_l12 kc xFuel r23.2 N (nI o) 0) := by
    unfold F_X3_readAllOf
    rw [if_pos hk]
  have er : F_X12_all kr u = (F_X12_one kr u).bind (fun r10 => F_X12_all_l4 kr xFuel r10) := by
    rfl
  rw [ec, er]
  rcases hO t u st en cur h with ⟨t2, u2, st2, en2, add, q1, q2, q3, q4, q5, q6, q7, q8, q9⟩ | ⟨t2, u2, st2, en2, q1, q2, q3, q4, q5, q6⟩
  · have h3n := q3.1.2.2.1.1
    have h4n := q3.1.2.2.1.2.1
    rw [q1, q2, Option.bind_some, Option.bind_some, if_neg i32_n10]
    exact all_l hO h1 (n - st2) 0 xFuel xFuel t2 u2 st2 en2 add (by omega) (xF_big (by omega)) (xF_big (by omega)) (Nat.zero_le _) q3 q4 q5 q6 q7 q8 (q9.up (by omega))
  · rw [q1, q2, Option.bind_some, Option.bind_some, if_pos rfl, show xFuel = 999999 + 1 from rfl, f_all_l q3]
    exact Or.inr ⟨t2, u2, st2, en2, rfl, rfl, q3, q4, q5, q6⟩
theorem any_l {kc : xT → Nat → Int32 → Option (Int32 × xT)} {kr : xS → Option xS} {N q a n f0 c0 o hh : Nat} {T : Nat → Int32} {cur : List yX} (hO : krO (F_X3_readAllOf kc) (F_X12_all kr) N q a T n f0 c0 o hh) (h1 : 1 ≤ hh) {t0 : xT} {u0 : xS} {st0 : Nat} : ∀ m i k k' t u st en add, st + m = n → m < k → m < k' → i ≤ st → Si t u N q a T n st en f0 c0 o (cur ++ add) → Ck N f0 t0 t → Rf c0 u0 u → st0 + 1 ≤ st → st0 + 2 * add.length ≤ st → st0 + (encL add).length ≤ st → Ph (hh + 1) add → Out (F_X3_readAnyOf_l12 kc k t N (nI o) (nI i)) (F_X12_condition_l12 kr k' u) t0 u0 N q a T n st0 f0 c0 o cur (hh + 1)
  | _, _, 0, _, _, _, _, _, _, _, h, _, _, _, _, _, _, _, _, _ => absurd h (Nat.not_lt_zero _)
  | _, _, _, 0, _, _, _, _, _, _, _, h, _, _, _, _, _, _, _, _ => absurd h (Nat.not_lt_zero _)
  | m, i, k + 1, k' + 1, t, u, st, en, add, hm, hk, hk', hi, h, hC, hR, b1, b2, b3, hP => by
    have s1 := h.1
    have hn : n ≤ 200 := s1.1.2.2.2.2.2.2.1
    have hkk := s1.1.1
    have kst := s1.2.2.1.1
    have ken := s1.2.2.1.2.1
    have s4 := h.2.2.2.1
    obtain ⟨w, w1, w2, w3⟩ := word s1 s4
    have e7 := w3 14 (by decide)
    rw [hN_14] at e7
    by_cases c : w = 498
    · have eN : F_X3_isName t N 14 = some (1, t) := by rw [e7, bI_t c]
      obtain ⟨l1, l2⟩ := name_len s1 (by decide) eN
      have l1 : en = st + 2 := l1
      obtain ⟨t1, u1, st1, en1, n1, n2, n3, n4, n5, n6⟩ := h.next
      have h1n := n4.1.2.2.1.1
      have h2n := n4.1.2.2.1.2.1
      have hk1 := n4.1.1.1
      have ec : F_X3_readAnyOf_l12 kc (k + 1) t N (nI o) (nI i) = (F_X3_readAllOf kc t1 N (nI o)).bind (fun r11 => if r11.1 = 0 then some ((0 : Int32), r11.2) else if tK r11.2 N = 3 then (tP r11.2 N 0).bind (fun q16 => if tK r11.2 q16 = 2 then (F_X2_addStep r11.2 q16 (5 : Int32) (0 : Int32) (0 : Int32)).bind (fun r19 => F_X3_readAnyOf_l12 kc k r19 N (nI o) (nI (i + 1))) else none) else none) := by
        conv => lhs; unfold F_X3_readAnyOf_l12
        rw [if_neg (show ¬ (200 : Int32) ≤ nI i from nI_ge (b := 200) (by omega) (by decide)), if_pos hkk, eN, Option.bind_some, if_neg i32_n10, if_pos hkk, n1, Option.bind_some, if_pos hk1]
        unfold xlet
        rw [nI_1]
      have er : F_X12_condition_l12 kr (k' + 1) u = (F_X12_all kr u1).bind (fun r6 => (F_X12_writes r6 (-22 : Int32)).bind (fun r8 => F_X12_condition_l12 kr k' r8)) := by
        conv => lhs; unfold F_X12_condition_l12
        rw [w1, Option.bind_some, if_pos ((lg_cmp_eq _ _).2 c), need_1 s4, n2, Option.bind_some]
      rw [ec, er]
      rcases hO t1 u1 st1 en1 _ n4 with ⟨t2, u2, st2, en2, add2, q1, q2, q3, q4, q5, q6, q7, q8, q9⟩ | ⟨t2, u2, st2, en2, q1, q2, q3, q4, q5, q6⟩
      · have hk2 := q3.1.1.1
        have h3n := q3.1.2.2.1.1
        have h4n := q3.1.2.2.1.2.1
        have z6 := h.2.2.2.2.2.1
        have z7 := h.2.2.2.2.2.2.1
        have ll : ((cur ++ add) ++ add2).length = (cur ++ add).length + add2.length := List.length_append
        have ee : (encL ((cur ++ add) ++ add2)).length = (encL (cur ++ add)).length + (encL add2).length := by rw [encL_app, List.length_append]
        obtain ⟨t3, u3, g1, g2, g3, g4, g5⟩ := q3.op (x := 5) (code := -22) rfl (by omega) (by omega)
        have q2 : F_X12_all kr u1 = some u2 := q2
        rw [q1, q2, Option.bind_some, Option.bind_some, if_neg i32_n10, if_pos hk2, q3.2.2.1, Option.bind_some, if_pos q3.2.1.1, g1, Option.bind_some, g2, Option.bind_some]
        have ea : ((cur ++ add) ++ add2) ++ [((5 : Int32), (0 : Int32), (0 : Int32))] = cur ++ (add ++ (add2 ++ [(5, 0, 0)])) := by rw [List.append_assoc, List.append_assoc]
        rw [ea] at g3
        refine any_l hO h1 (n - st2) (i + 1) k k' t3 u3 st2 en2 _ (by omega) (by omega) (by omega) (by omega) g3 (hC.tr (n5.ck.tr (q4.tr g4))) (hR.tr (n6.f.tr (q5.tr g5))) (by omega) ?_ ?_ (hP.op q9 h1 (Or.inr rfl))
        · rw [List.length_append, List.length_append]; show st0 + 2 * (add.length + (add2.length + 1)) ≤ st2; omega
        · rw [encL_app, encL_app, List.length_append, List.length_append]; show st0 + ((encL add).length + ((encL add2).length + 1)) ≤ st2; omega
      · obtain ⟨k2, rfl⟩ : ∃ k2, k' = k2 + 1 := ⟨k' - 1, by omega⟩
        rw [q1, q2, Option.bind_some, Option.bind_some, if_pos rfl, write_f q3.1, Option.bind_some, f_any_l q3]
        exact Or.inr ⟨t2, u2, st2, en2, rfl, rfl, q3, q4, hC.tr (n5.ck.tr q5), hR.tr (n6.f.tr q6)⟩
    · have ec : F_X3_readAnyOf_l12 kc (k + 1) t N (nI o) (nI i) = some (1, t) := by
        conv => lhs; unfold F_X3_readAnyOf_l12 F_X3_readAnyOf_j58
        by_cases d : (200 : Int32) ≤ nI i
        · rw [if_pos d]
        · rw [if_neg d, if_pos hkk, e7, bI_f c, Option.bind_some, if_pos rfl]
      have er : F_X12_condition_l12 kr (k' + 1) u = some u := by
        conv => lhs; unfold F_X12_condition_l12
        rw [w1, Option.bind_some, if_neg (fun e => c ((lg_cmp_eq _ _).1 e))]
      rw [ec, er]
      exact Or.inl ⟨t, u, st, en, add, rfl, rfl, h, hC, hR, b1, b2, b3, hP⟩
theorem any {kc : xT → Nat → Int32 → Option (Int32 × xT)} {kr : xS → Option xS} {N q a n f0 c0 o hh : Nat} {T : Nat → Int32} (hO : krO (F_X3_readAllOf kc) (F_X12_all kr) N q a T n f0 c0 o hh) (h1 : 1 ≤ hh) : krO (F_X3_readAnyOfB kc) (F_X12_conditionB kr) N q a T n f0 c0 o (hh + 1) := fun t u st en cur h => by
  have hk := h.1.1.1
  have hn : n ≤ 200 := h.1.1.2.2.2.2.2.2.1
  have s4 := h.2.2.2.1
  have ec : F_X3_readAnyOfB kc t N (nI o) = (F_X3_readAllOf kc t N (nI o)).bind (fun r23 => if r23.1 = 0 then some ((0 : Int32), r23.2) else F_X3_readAnyOf_l12 kc xFuel r23.2 N (nI o) 0) := by
    unfold F_X3_readAnyOfB
    rw [if_pos hk]
  have er : F_X12_conditionB kr u = (F_X12_all kr u).bind (fun r10 => F_X12_condition_l12 kr xFuel r10) := by
    unfold F_X12_conditionB
    rw [if_pos s4]
  rw [ec, er]
  rcases hO t u st en cur h with ⟨t2, u2, st2, en2, add, q1, q2, q3, q4, q5, q6, q7, q8, q9⟩ | ⟨t2, u2, st2, en2, q1, q2, q3, q4, q5, q6⟩
  · have h3n := q3.1.2.2.1.1
    have h4n := q3.1.2.2.1.2.1
    rw [q1, q2, Option.bind_some, Option.bind_some, if_neg i32_n10]
    exact any_l hO h1 (n - st2) 0 xFuel xFuel t2 u2 st2 en2 add (by omega) (xF_big (by omega)) (xF_big (by omega)) (Nat.zero_le _) q3 q4 q5 q6 q7 q8 (q9.up (by omega))
  · rw [q1, q2, Option.bind_some, Option.bind_some, if_pos rfl, show xFuel = 999999 + 1 from rfl, f_any_l q3]
    exact Or.inr ⟨t2, u2, st2, en2, rfl, rfl, q3, q4, q5, q6⟩
/-- conditions, with so many "(" open -/
theorem anyOf {N q a n f0 c0 : Nat} {T : Nat → Int32} : ∀ r o k k', o + r = 3 → r + 2 ≤ k → r + 2 ≤ k' → krO (F_X3_readAnyOf k) (F_X12_condition k') N q a T n f0 c0 o (9 - 2 * o)
  | r, o, k, k', hr, hk, hk' => by
    obtain ⟨k1, rfl⟩ : ∃ k1, k = k1 + 1 := ⟨k - 1, by omega⟩
    obtain ⟨k2, rfl⟩ : ∃ k2, k' = k2 + 1 := ⟨k' - 1, by omega⟩
    have hF : krF (F_X12_condition k2) := by
      obtain ⟨k3, rfl⟩ : ∃ k3, k2 = k3 + 1 := ⟨k2 - 1, by omega⟩
      exact fun u h => f_any h
    have hO : o < 3 → krO (F_X3_readAnyOf k1) (F_X12_condition k2) N q a T n f0 c0 (o + 1) (7 - 2 * o) := fun ho => by
      have e : 7 - 2 * o = 9 - 2 * (o + 1) := by omega
      rw [e]
      exact anyOf (r - 1) (o + 1) k1 k2 (by omega) (by omega) (by omega)
    have h1 := one (by omega) hF hO (by omega)
    have h2 := all h1 (by omega)
    have h3 := any h2 (by omega)
    have e : 7 - 2 * o + 1 + 1 = 9 - 2 * o := by omega
    rw [e] at h3
    exact h3
  termination_by r => r
