/-! ===== pure mathematics 37: a clause ===== -/
theorem LwK.mono {T : Nat → Nat → Int32} {ls : yLS} {s : Nat → Int32} {n : Nat} {fs cs : Nat → Nat} (h : LwK T ls s n fs cs) : ∀ j i, i + j = n → fs i ≤ fs n ∧ cs i ≤ cs n
  | 0, i, e => by
    have : i = n := by omega
    subst this; exact ⟨Nat.le_refl _, Nat.le_refl _⟩
  | j + 1, i, e => by
    have ih := LwK.mono h j (i + 1) (by omega)
    obtain ⟨-, -, -, g1, -, g2, -⟩ := h.2.2 i (by omega)
    omega
theorem LwK.ext {T T' : Nat → Nat → Int32} {ls : yLS} {s s' : Nat → Int32} {k : Nat} {fs cs : Nat → Nat} {cur : List yX} (h : LwK T ls s k fs cs)
    (hT : ∀ i, i < k → T' 1 i = T 1 i ∧ T' 2 i = T 2 i ∧ T' 3 i = T 3 i ∧ T' 4 i = T 4 i ∧ T' 5 i = T 5 i)
    (hT6 : ∀ j, j < fs k → T' 6 j = T 6 j ∧ T' 7 j = T 7 j ∧ T' 8 j = T 8 j)
    (hs : ∀ i, i < k → s' (71 + 4 * i) = s (71 + 4 * i) ∧ s' (72 + 4 * i) = s (72 + 4 * i) ∧ s' (73 + 4 * i) = s (73 + 4 * i) ∧ s' (74 + 4 * i) = s (74 + 4 * i))
    (hs' : ∀ j, j < cs k → s' (103 + j) = s (103 + j))
    (n1 : T' 1 k = s' (71 + 4 * k)) (n2 : T' 2 k = s' (72 + 4 * k)) (n3 : T' 3 k = s' (73 + 4 * k)) (n4 : T' 4 k = nI (fs k)) (n5 : T' 5 k = nI (fs k + cur.length)) (n6 : s' (74 + 4 * k) = nI (cs k + (encL cur).length)) (n7 : Ri (s' (73 + 4 * k)) 0 999) (n8 : s' (72 + 4 * k) ≠ 1 → s' (73 + 4 * k) = 0) (n9 : fs k + cur.length ≤ 100) (n10 : cs k + (encL cur).length ≤ 200)
    (n11 : ∀ j x, cur[j]? = some x → T' 6 (fs k + j) = x.1 ∧ T' 7 (fs k + j) = x.2.1 ∧ T' 8 (fs k + j) = x.2.2) (n12 : ∀ j c, (encL cur)[j]? = some c → s' (103 + (cs k + j)) = c) (n13 : cur = [] ∨ okS cur 0) :
    LwK T' (fun i => if i = k then cur else ls i) s' (k + 1) (fun i => if i = k + 1 then fs k + cur.length else fs i) (fun i => if i = k + 1 then cs k + (encL cur).length else cs i) := by
  have mono := h.mono
  obtain ⟨h1, h2, h3⟩ := h
  refine ⟨?_, ?_, fun i hi => ?_⟩
  · show (if 0 = k + 1 then _ else fs 0) = 0
    rw [if_neg (by omega)]; exact h1
  · show (if 0 = k + 1 then _ else cs 0) = 0
    rw [if_neg (by omega)]; exact h2
  · show (T' 1 i = _ ∧ T' 2 i = _ ∧ T' 3 i = _ ∧ T' 4 i = nI (if i = k + 1 then fs k + cur.length else fs i) ∧ T' 5 i = nI (if i + 1 = k + 1 then fs k + cur.length else fs (i + 1)) ∧ s' (74 + 4 * i) = nI (if i + 1 = k + 1 then cs k + (encL cur).length else cs (i + 1))) ∧ _ ∧ _ ∧ (if i + 1 = k + 1 then fs k + cur.length else fs (i + 1)) = (if i = k + 1 then fs k + cur.length else fs i) + (if i = k then cur else ls i).length ∧ (if i + 1 = k + 1 then fs k + cur.length else fs (i + 1)) ≤ 100 ∧ (if i + 1 = k + 1 then cs k + (encL cur).length else cs (i + 1)) = (if i = k + 1 then cs k + (encL cur).length else cs i) + (encL (if i = k then cur else ls i)).length ∧ (if i + 1 = k + 1 then cs k + (encL cur).length else cs (i + 1)) ≤ 200 ∧ (∀ j x, (if i = k then cur else ls i)[j]? = some x → T' 6 ((if i = k + 1 then fs k + cur.length else fs i) + j) = x.1 ∧ T' 7 ((if i = k + 1 then fs k + cur.length else fs i) + j) = x.2.1 ∧ T' 8 ((if i = k + 1 then fs k + cur.length else fs i) + j) = x.2.2) ∧ (∀ j c, (encL (if i = k then cur else ls i))[j]? = some c → s' (103 + ((if i = k + 1 then cs k + (encL cur).length else cs i) + j)) = c) ∧ ((if i = k then cur else ls i) = [] ∨ okS (if i = k then cur else ls i) 0)
    have e1 : ¬ i = k + 1 := by omega
    by_cases c : i = k
    · have c1 : i + 1 = k + 1 := by omega
      simp only [if_neg e1, if_pos c1, if_pos c]
      rw [c]
      exact ⟨⟨n1, n2, n3, n4, n5, n6⟩, n7, n8, rfl, n9, rfl, n10, n11, n12, n13⟩
    · have c1 : ¬ i + 1 = k + 1 := by omega
      simp only [if_neg e1, if_neg c1, if_neg c]
      obtain ⟨⟨g1, g2, g3, g4, g5, g6⟩, g7, g8, g9, g10, g11, g12, g13, g14, g15⟩ := h3 i (by omega)
      obtain ⟨t1, t2, t3, t4, t5⟩ := hT i (by omega)
      obtain ⟨s1, s2, s3, s4⟩ := hs i (by omega)
      have m1 := mono (k - (i + 1)) (i + 1) (by omega)
      rw [t1, t2, t3, t4, t5, s1, s2, s3, s4]
      refine ⟨⟨g1, g2, g3, g4, g5, g6⟩, g7, g8, g9, g10, g11, g12, fun j x hj => ?_, fun j x hj => ?_, g15⟩
      · have lt := (List.getElem?_eq_some_iff.1 hj).1
        obtain ⟨w1, w2, w3⟩ := hT6 (fs i + j) (by omega)
        rw [w1, w2, w3]; exact g13 j x hj
      · have lt := (List.getElem?_eq_some_iff.1 hj).1
        rw [hs' (cs i + j) (by omega)]; exact g14 j x hj
theorem c_addCl {t : xT} {a L k : Nat} (hL : LwO t a L) (h0 : tI t L 0 = nI k) (hk : k < 8) (x1 x2 x3 x4 : Int32) : ∃ t', F_X2_addClause t L x1 x2 x3 x4 = some t' ∧ t'.1 = t.1 ∧ t'.2.1 = t.2.1 ∧ t'.2.2.1 = t.2.2.1 ∧ t'.2.2.2.2 = t.2.2.2.2 ∧ tI t' L 0 = nI (k + 1) ∧ (∀ j, j ≠ 0 → tI t' L j = tI t L j) ∧ tI t' (L + 1) = upd (tI t (L + 1)) k x1 ∧ tI t' (L + 2) = upd (tI t (L + 2)) k x2 ∧ tI t' (L + 3) = upd (tI t (L + 3)) k x3 ∧ tI t' (L + 4) = upd (tI t (L + 4)) k x4 ∧ tI t' (L + 5) = upd (tI t (L + 5)) k (tI t L 9) ∧ ∀ q, q ≠ L → q ≠ L + 1 → q ≠ L + 2 → q ≠ L + 3 → q ≠ L + 4 → q ≠ L + 5 → tI t' q = tI t q := by
  obtain ⟨h1, h2, h3, h4, h5⟩ := hL
  obtain ⟨p1, k1, n1⟩ := h2 1 (by omega) (by omega)
  obtain ⟨p2, k2, n2⟩ := h2 2 (by omega) (by omega)
  obtain ⟨p3, k3, n3⟩ := h2 3 (by omega) (by omega)
  obtain ⟨p4, k4, n4⟩ := h2 4 (by omega) (by omega)
  obtain ⟨p5, k5, n5⟩ := h2 5 (by omega) (by omega)
  have ix : xIn (nI k) 8 := n_xIn hk (by omega)
  have ec : (nI k).toNatClampNeg = k := n_cl (by omega)
  have isc : F_X2_isClause (nI k) 8 = some 1 := by
    unfold F_X2_isClause F_X2_isClause_j20
    rw [if_neg (nI_pos (by omega)), if_neg (show ¬ (8 : Int32) ≤ nI k from nI_ge (b := 8) hk (by decide)), if_neg (show ¬ (8 : Int32) ≤ nI k from nI_ge (b := 8) hk (by decide)), if_pos (Or.inr rfl)]
  let t1 := tSI t (L + 1) k x1
  let t2 := tSI t1 (L + 2) k x2
  let t3 := tSI t2 (L + 3) k x3
  let t4 := tSI t3 (L + 4) k x4
  let t5 := tSI t4 (L + 5) k (tI t L 9)
  have f1 : ∀ q, q ≠ L + 1 → tI t1 q = tI t q := fun q h => tI_SIn _ _ _ _ h
  have f2 : ∀ q, q ≠ L + 2 → tI t2 q = tI t1 q := fun q h => tI_SIn _ _ _ _ h
  have f3 : ∀ q, q ≠ L + 3 → tI t3 q = tI t2 q := fun q h => tI_SIn _ _ _ _ h
  have f4 : ∀ q, q ≠ L + 4 → tI t4 q = tI t3 q := fun q h => tI_SIn _ _ _ _ h
  have f5 : ∀ q, q ≠ L + 5 → tI t5 q = tI t4 q := fun q h => tI_SIn _ _ _ _ h
  have l1 : tI t1 L = tI t L := f1 L (by omega)
  have l2 : tI t2 L = tI t L := (f2 L (by omega)).trans l1
  have l3 : tI t3 L = tI t L := (f3 L (by omega)).trans l2
  have l4 : tI t4 L = tI t L := (f4 L (by omega)).trans l3
  have l5 : tI t5 L = tI t L := (f5 L (by omega)).trans l4
  refine ⟨tSI t5 L 0 (nI k + 1), ?_, rfl, rfl, rfl, rfl, by rw [tI_SI, upd_s, nI_1], fun j hj => by rw [tI_SI, upd_n _ _ hj, l5], ?_, ?_, ?_, ?_, ?_, fun q q0 q1 q2 q3 q4 q5 => ?_⟩
  · unfold F_X2_addClause F_X2_addClause_j76
    simp only [xlet]
    rw [if_pos h1, h0, isc, Option.bind_some, if_neg i32_n10, p1, Option.bind_some, if_pos k1, n1, if_pos ix, ec]
    show (tP t L 2).bind _ = _
    rw [p2, Option.bind_some]
    show (if tK t (L + 2) = 20 then if xIn (tI t1 L 0) (tN t (L + 2)) then _ else none else none) = _
    rw [if_pos k2, l1, h0, n2, if_pos ix, ec]
    show (tP t L 3).bind _ = _
    rw [p3, Option.bind_some]
    show (if tK t (L + 3) = 20 then if xIn (tI t2 L 0) (tN t (L + 3)) then _ else none else none) = _
    rw [if_pos k3, l2, h0, n3, if_pos ix, ec]
    show (tP t L 4).bind _ = _
    rw [p4, Option.bind_some]
    show (if tK t (L + 4) = 20 then if xIn (tI t3 L 0) (tN t (L + 4)) then _ else none else none) = _
    rw [if_pos k4, l3, h0, n4, if_pos ix, ec]
    show (tP t L 5).bind _ = _
    rw [p5, Option.bind_some]
    show (if tK t (L + 5) = 20 then if xIn (tI t4 L 0) (tN t (L + 5)) then some (tSI (tSI t4 (L + 5) (tI t4 L 0).toNatClampNeg (tI t4 L 9)) L 0 (tI (tSI t4 (L + 5) (tI t4 L 0).toNatClampNeg (tI t4 L 9)) L 0 + 1)) else none else none) = _
    rw [if_pos k5, l4, h0, n5, if_pos ix, ec]
    show some (tSI t5 L 0 (tI t5 L 0 + 1)) = _
    rw [l5, h0]
  · rw [tI_SIn _ _ _ _ (by omega), f5 _ (by omega), f4 _ (by omega), f3 _ (by omega), f2 _ (by omega)]
    exact tI_SI _ _ _ _
  · rw [tI_SIn _ _ _ _ (by omega), f5 _ (by omega), f4 _ (by omega), f3 _ (by omega)]
    refine (tI_SI _ _ _ _).trans ?_
    rw [f1 _ (by omega)]
  · rw [tI_SIn _ _ _ _ (by omega), f5 _ (by omega), f4 _ (by omega)]
    refine (tI_SI _ _ _ _).trans ?_
    rw [f2 _ (by omega), f1 _ (by omega)]
  · rw [tI_SIn _ _ _ _ (by omega), f5 _ (by omega)]
    refine (tI_SI _ _ _ _).trans ?_
    rw [f3 _ (by omega), f2 _ (by omega), f1 _ (by omega)]
  · rw [tI_SIn _ _ _ _ (by omega)]
    refine (tI_SI _ _ _ _).trans ?_
    rw [f4 _ (by omega), f3 _ (by omega), f2 _ (by omega), f1 _ (by omega)]
  · rw [tI_SIn _ _ _ _ q0, f5 _ q5, f4 _ q4, f3 _ q3, f2 _ q2, f1 _ q1]
/-- the reference's clause -/
def wC (u : xS) (k : Nat) (kd dd mm : Int32) : xS := mA (mA (mA (mA (mA u 0 (71 + 4 * k) kd) 0 (71 + 4 * k + 1) dd) 0 (71 + 4 * k + 2) mm) 0 (71 + 4 * k + 3) (u.1 23)) 0 4 (nI (k + 1))
/-! after a fault -/
theorem f_j176 {u : xS} (h : u.1 24 ≠ 0) (a b c s1 : Int32) : F_X12_clause_j176 u a b c s1 = some (mS u 24 1) := by
  unfold F_X12_clause_j176 F_X12_clause_j254
  rw [need_f h, Option.bind_some, if_neg (show ¬ (mS u 24 1).1 24 = 0 by rw [mS_1]; decide)]
theorem f_j144 {u : xS} (h : u.1 24 ≠ 0) (a b : Int32) : F_X12_clause_j144 u a b = some (mS u 24 1) := by
  unfold F_X12_clause_j144 F_X12_clause_j175
  simp only [xlet]
  rw [if_neg h]
  exact f_j176 h _ _ _ _
theorem f_j116t {u : xS} (h : u.1 24 ≠ 0) (a b : Int32) : (xlet (mS u 21 (0 : Int32)) (fun u24 => if b = (1 : Int32) then if (u24.1 24) = 0 then (F_X12_number u24 (999 : Int32)).bind (fun r27 => F_X12_clause_j144 r27 a b) else F_X12_clause_j144 u24 a b else F_X12_clause_j144 u24 a b)) = some (mS (mS u 21 0) 24 1) := by
  have h' : (mS u 21 0).1 24 ≠ 0 := by rw [mS_n _ _ (by decide)]; exact h
  simp only [xlet]
  rw [if_neg h', f_j144 h']
  by_cases c : b = 1
  · rw [if_pos c]
  · rw [if_neg c]
theorem f_j116 {u : xS} (a b s1 : Int32) (h : u.1 24 ≠ 0 ∨ s1 = 0) : ∃ u', F_X12_clause_j116 u a b s1 = some u' ∧ Fk u u' := by
  have hn : F_X12_needs u s1 = some (mS u 24 1) := by
    rcases h with h | h
    · exact need_f h s1
    · rw [h]; exact need_0 u
  have F1 := Fk.S24 u
  have F2 := F1.tr (Fk.S F1.2.1 (j := 21) 0 (by omega))
  refine ⟨_, ?_, F2.tr (Fk.S24 _)⟩
  unfold F_X12_clause_j116
  rw [hn, Option.bind_some]
  exact f_j116t F1.2.1 a b
theorem f_j49 {u : xS} {T : Nat → Int32} {n st en : Nat} (h : Fp u T n st en) (a : Int32) : ∃ u', F_X12_clause_j49 u a = some u' ∧ Fk u u' := by
  obtain ⟨u', h1, h2⟩ := f_j116 (u := u) a (-1) 0 (Or.inr rfl)
  refine ⟨u', ?_, h2⟩
  unfold F_X12_clause_j49
  rw [h.word, Option.bind_some, if_neg (lgc _ (by decide)), if_neg (lgc _ (by decide)), if_neg (lgc _ (by decide)), if_neg (lgc _ (by decide))]
  unfold F_X12_clause_j103
  rw [if_pos (by decide)]
  exact h1
theorem Si.S21 {t : xT} {u : xS} {N q a n st en f0 c0 o : Nat} {T : Nat → Int32} {cur : List yX} (h : Si t u N q a T n st en f0 c0 o cur) (v : Int32) : Si t (mS u 21 v) N q a T n st en f0 c0 o cur := by
  obtain ⟨z1, z2, z3, z4, z5, z6, z7, z8, z9⟩ := h
  exact ⟨z1.S21 v, z2, z3, (mS_n _ _ (by decide)).trans z4, ⟨z5.1, z5.2.u rfl (mS_n _ _ (by decide))⟩, z6, z7, (mS_n _ _ (by decide)).trans z8, z9⟩
/-- the end of a clause, from its ";" -/
def OutT (c : Option (Int32 × xT)) (r : Option xS) (t : xT) (u : xS) (N q a : Nat) (T : Nat → Int32) (n st f0 c0 k : Nat) (cur : List yX) (kd f : Int32) : Prop :=
  (∃ t1 u1 st1 en1 dd mm, c = (F_X2_addClause t1 (N + 1) kd dd mm f).bind (fun r12 => some ((1 : Int32), r12)) ∧ r = some (wC u1 k kd dd mm) ∧ Si t1 u1 N q a T n st1 en1 f0 c0 0 cur ∧ Ck N f0 t t1 ∧ Rf c0 u u1 ∧ st ≤ st1 ∧ Ri mm 0 999 ∧ (dd ≠ 1 → mm = 0)) ∨
  (∃ t' u' st' en', c = some (0, t') ∧ r = some u' ∧ Fp u' T n st' en' ∧ tI t' N 1 = nI st' ∧ Ck N f0 t t' ∧ Rf c0 u u')
theorem semi {t : xT} {u : xS} {N q a n st en f0 c0 k : Nat} {T : Nat → Int32} {cur : List yX} (h : Si t u N q a T n st en f0 c0 0 cur) (hk : k < 8) (h4 : u.2.1 0 4 = nI k) (kd dd f : Int32) (hm : Ri (u.1 21) 0 999) (hd : dd ≠ 1 → u.1 21 = 0) : OutT (F_X3_readClause_j111 t N kd f dd (u.1 21)) (F_X12_clause_j144 u kd dd) t u N q a T n st f0 c0 k cur kd f := by
  have s1 := h.1
  have hkk := s1.1.1
  have s4 := h.2.2.2.1
  have kst := s1.2.2.1.1
  obtain ⟨xx, x1, x2⟩ := byte s1 59 (by decide) (by decide)
  have hr : F_X12_clause_j144 u kd dd = if xx = 59 then F_X12_clause_j176 u kd dd (u.1 21) 1 else F_X12_clause_j176 u kd dd (u.1 21) 0 := by
    unfold F_X12_clause_j144 F_X12_clause_j175
    simp only [xlet]
    rw [if_pos s4, x1, Option.bind_some]
  by_cases c : xx = 59
  · left
    obtain ⟨t1, u1, st1, en1, n1, n2, n3, n4, n5, n6⟩ := h.next
    have e21 : u1.1 21 = u.1 21 := n6.2 21 (by decide) (by decide)
    have u4 : u1.2.1 0 4 = nI k := by rw [n6.1]; exact h4
    refine ⟨t1, u1, st1, en1, dd, u.1 21, ?_, ?_, n4, n5.ck, n6.f, by omega, hm, hd⟩
    · unfold F_X3_readClause_j111
      rw [if_pos hkk, x2, Option.bind_some, bI_t c, if_neg i32_n10, n1, Option.bind_some, if_pos n4.1.1.1, n4.2.2.1, Option.bind_some, if_pos n4.2.1.1]
    · rw [hr, if_pos c]
      have m : (4 : Int32) * nI k = nI (4 * k) := pk_mul 4 k
      have p0 : (71 : Int32) + nI (4 * k) = nI (71 + 4 * k) := nI_add 71 (4 * k)
      have e0 : nI (71 + 4 * k) + (0 : Int32) = nI (71 + 4 * k) := Int32.add_zero _
      have e1 : nI (71 + 4 * k) + (1 : Int32) = nI (71 + 4 * k + 1) := nI_add (71 + 4 * k) 1
      have e2 : nI (71 + 4 * k) + (2 : Int32) = nI (71 + 4 * k + 2) := nI_add (71 + 4 * k) 2
      have e3 : nI (71 + 4 * k) + (3 : Int32) = nI (71 + 4 * k + 3) := nI_add (71 + 4 * k) 3
      have i4 : xIn (4 : Int32) 303 := by decide
      have c4 : (4 : Int32).toNatClampNeg = 4 := rfl
      have d0 : (nI (71 + 4 * k)).toNatClampNeg = 71 + 4 * k := n_cl (by omega)
      have d1 : (nI (71 + 4 * k + 1)).toNatClampNeg = 71 + 4 * k + 1 := n_cl (by omega)
      have d2 : (nI (71 + 4 * k + 2)).toNatClampNeg = 71 + 4 * k + 2 := n_cl (by omega)
      have d3 : (nI (71 + 4 * k + 3)).toNatClampNeg = 71 + 4 * k + 3 := n_cl (by omega)
      have x0 : xIn (nI (71 + 4 * k)) 303 := n_xIn (by omega) (by omega)
      have x1' : xIn (nI (71 + 4 * k + 1)) 303 := n_xIn (by omega) (by omega)
      have x2' : xIn (nI (71 + 4 * k + 2)) 303 := n_xIn (by omega) (by omega)
      have x3' : xIn (nI (71 + 4 * k + 3)) 303 := n_xIn (by omega) (by omega)
      have v4 : ∀ x y, (mA (mA (mA (mA u1 0 (71 + 4 * k) kd) 0 (71 + 4 * k + 1) dd) 0 (71 + 4 * k + 2) x) 0 (71 + 4 * k + 3) y).2.1 0 4 = nI k := fun x y => by
        rw [mA_s, upd_n _ _ (by omega), mA_s, upd_n _ _ (by omega), mA_s, upd_n _ _ (by omega), mA_s, upd_n _ _ (by omega), u4]
      unfold F_X12_clause_j176 F_X12_clause_j254
      simp only [xlet]
      rw [need_1 s4, n2, Option.bind_some, if_pos n4.2.2.2.1, if_pos i4]
      simp only [c4, u4, m, p0, e0, e1, e2, e3, d0, d1, d2, d3, if_pos x0, if_pos x1', if_pos x2', if_pos x3', if_pos i4, v4, nI_1]
      rfl
  · right
    have tk3 : Tk t (mS u 24 1) N q T n st en := s1.u rfl (fun j hj => mS_n _ _ (by omega))
    have fp3 := tk3.fp (by rw [mS_1]; decide)
    refine ⟨tSI t N 1 (nI st), mS u 24 1, st, en, ?_, ?_, fp3, by rw [tI_SI, upd_s], (Rk.SI N t _ (by omega)).ck, (Fk.S24 u).f⟩
    · unfold F_X3_readClause_j111
      rw [if_pos hkk, x2, Option.bind_some, bI_f c, if_pos rfl, refu s1, Option.bind_some]
    · rw [hr, if_neg c]
      unfold F_X12_clause_j176 F_X12_clause_j254
      rw [need_0, Option.bind_some, if_neg fp3.1]
theorem OutT.tr {c : Option (Int32 × xT)} {r : Option xS} {t t0 : xT} {u u0 : xS} {N q a n st st0 f0 c0 k : Nat} {T : Nat → Int32} {cur : List yX} {kd f : Int32} (h : OutT c r t u N q a T n st f0 c0 k cur kd f) (hC : Ck N f0 t0 t) (hR : Rf c0 u0 u) (hs : st0 ≤ st) : OutT c r t0 u0 N q a T n st0 f0 c0 k cur kd f := by
  rcases h with ⟨t1, u1, st1, en1, dd, mm, h1, h2, h3, h4, h5, h6, h7⟩ | ⟨t1, u1, st1, en1, h1, h2, h3, h4, h5, h6⟩
  · exact Or.inl ⟨t1, u1, st1, en1, dd, mm, h1, h2, h3, hC.tr h4, hR.tr h5, by omega, h7⟩
  · exact Or.inr ⟨t1, u1, st1, en1, h1, h2, h3, h4, hC.tr h5, hR.tr h6⟩
/-- what follows the condition -/
theorem ends {t : xT} {u : xS} {N q a n st en f0 c0 k : Nat} {T : Nat → Int32} {cur : List yX} (h : Si t u N q a T n st en f0 c0 0 cur) (hk : k < 8) (h4 : u.2.1 0 4 = nI k) (kd f : Int32) : OutT (F_X3_readClause_j61 t N kd f) (F_X12_clause_j49 u kd) t u N q a T n st f0 c0 k cur kd f := by
  have s1 := h.1
  have hkk := s1.1.1
  have s4 := h.2.2.2.1
  have kst := s1.2.2.1.1
  have kn := s1.2.2.1.2.1
  have hn : n ≤ 200 := s1.1.2.2.2.2.2.2.1
  obtain ⟨w, w1, w2, w3⟩ := word s1 s4
  have e15 := w3 15 (by decide)
  have e16 := w3 16 (by decide)
  have e17 := w3 17 (by decide)
  have e18 := w3 18 (by decide)
  rw [hN_15] at e15
  rw [hN_16] at e16
  rw [hN_17] at e17
  rw [hN_18] at e18
  have hd : F_X3_deedHere t N = if w = 215205 then some (0, t) else if w = 136242 then some (1, t) else if w = 150636933 then some (2, t) else if w = 631476 then some (3, t) else some (-1, t) := by
    unfold F_X3_deedHere F_X3_deedHere_j47
    simp only [e15, e16, e17, e18, Option.bind_some, if_pos hkk]
    by_cases d1 : w = 215205
    · rw [bI_t d1, if_neg i32_n10, if_pos d1]
    · rw [bI_f d1, if_pos rfl, if_neg d1]
      by_cases d2 : w = 136242
      · rw [bI_t d2, if_neg i32_n10, if_pos d2]
      · rw [bI_f d2, if_pos rfl, if_neg d2]
        by_cases d3 : w = 150636933
        · rw [bI_t d3, if_neg i32_n10, if_pos d3]
        · rw [bI_f d3, if_pos rfl, if_neg d3]
          by_cases d4 : w = 631476
          · rw [bI_t d4, if_neg i32_n10, if_pos d4]
          · rw [bI_f d4, if_pos rfl, if_neg d4]
  have hr : F_X12_clause_j49 u kd = if w = 215205 then F_X12_clause_j116 u kd 0 1 else if w = 136242 then F_X12_clause_j116 u kd 1 1 else if w = 150636933 then F_X12_clause_j116 u kd 2 1 else if w = 631476 then F_X12_clause_j116 u kd 3 1 else F_X12_clause_j116 u kd (-1) 0 := by
    unfold F_X12_clause_j49
    rw [w1, Option.bind_some]
    simp only [lg_cmp_eq]
    rfl
  -- a deed
  have go : ∀ dd : Int32, (dd = 0 ∨ dd = 1 ∨ dd = 2 ∨ dd = 3) → F_X3_deedHere t N = some (dd, t) → F_X12_clause_j49 u kd = F_X12_clause_j116 u kd dd 1 → OutT (F_X3_readClause_j61 t N kd f) (F_X12_clause_j49 u kd) t u N q a T n st f0 c0 k cur kd f := by
    intro dd hdd e1 e2
    have nd : ¬ dd = -1 := by rcases hdd with x | x | x | x <;> rw [x] <;> decide
    obtain ⟨t1, u1, st1, en1, n1, n2, n3, n4, n5, n6⟩ := h.next
    have hk1 := n4.1.1.1
    have n40 := n4.S21 0
    have u4 : ∀ v, (mS u1 21 v).2.1 0 4 = nI k := fun v => by show u1.2.1 0 4 = nI k; rw [n6.1]; exact h4
    have ec : F_X3_readClause_j61 t N kd f = if dd = 1 then (F_X3_numberHere t1 N).bind (fun r26 => (F_X11_isToll r26).bind (fun r28 => if r28 = 0 then (F_X3_refuse t1 N).bind (fun r34 => some (r34.1, r34.2)) else (F_X3_next t1 N).bind (fun r32 => F_X3_readClause_j111 r32 N kd f dd r26))) else F_X3_readClause_j111 t1 N kd f dd 0 := by
      unfold F_X3_readClause_j61
      rw [if_pos hkk, e1, Option.bind_some]
      show (if dd = -1 then _ else if tK t N = 3 then (F_X3_next t N).bind _ else none) = _
      rw [if_neg nd, if_pos hkk, n1, Option.bind_some, if_pos hk1]
    have er : F_X12_clause_j49 u kd = if dd = 1 then (F_X12_number (mS u1 21 0) 999).bind (fun r27 => F_X12_clause_j144 r27 kd dd) else F_X12_clause_j144 (mS u1 21 0) kd dd := by
      rw [e2]
      unfold F_X12_clause_j116
      simp only [xlet]
      rw [need_1 s4, n2, Option.bind_some, if_pos n40.2.2.2.1]
    have R0 : Rf c0 u (mS u1 21 0) := n6.f.tr (Rf.S c0 u1 _ (by omega) (by omega))
    rw [ec, er]
    by_cases d : dd = 1
    · rw [if_pos d, if_pos d]
      rcases number n40.1 999 with ⟨v, x1, x2, x3, x4, x5⟩ | ⟨x4, v, x5⟩
      · rw [x4, x5, Option.bind_some, n_isToll, Option.bind_some, mS_S]
        by_cases e : (999 : Int32) < v
        · have nt : ¬ ((0 : Int32) ≤ v ∧ v ≤ 999) := fun z => by rw [fa_le, fa_le] at z; rw [fa_lt] at e; omega
          have F1 := Fk.S24 (mS u1 21 v)
          have tk3 : Tk t1 (mS (mS u1 21 v) 24 1) N q T n st1 en1 := (n4.S21 v).1.u rfl (fun j hj => mS_n _ _ (by omega))
          have fp3 := tk3.fp F1.2.1
          rw [bI_f nt, if_pos rfl, if_pos e, refu n4.1, need_0, Option.bind_some, Option.bind_some, f_j144 F1.2.1]
          exact Or.inr ⟨_, _, st1, en1, rfl, rfl, fp3.k (Fk.S24 _), by rw [tI_SI, upd_s], n5.ck.tr (Rk.SI N t1 _ (by omega)).ck, n6.f.tr ((Rf.S c0 u1 _ (by omega) (by omega)).tr (F1.tr (Fk.S24 _)).f)⟩
        · have tt : (0 : Int32) ≤ v ∧ v ≤ 999 := by
            rw [fa_lt] at e
            rw [fa_le, fa_le]
            exact ⟨x2, by omega⟩
          obtain ⟨t2, u2, st2, en2, m1, m2, m3, m4, m5, m6⟩ := (n4.S21 v).next
          have e21 : u2.1 21 = v := (m6.2 21 (by decide) (by decide)).trans (mS_1 _ _ _)
          have v4 : u2.2.1 0 4 = nI k := by rw [m6.1]; exact u4 v
          have h1n := n4.1.2.2.1.1
          rw [bI_t tt, if_neg i32_n10, if_neg e, m1, need_1 (n4.S21 v).2.2.2.1, m2, Option.bind_some, Option.bind_some]
          rw [fa_le, fa_le] at tt
          have := semi m4 hk v4 kd dd f (by rw [e21]; exact tt) (fun z => absurd d z)
          rw [e21] at this
          exact this.tr (n5.ck.tr m5.ck) (n6.f.tr ((Rf.S c0 u1 _ (by omega) (by omega)).tr m6.f)) (by omega)
      · have F1 := Fk.S24 (mS u1 21 v)
        have tk3 : Tk t1 (mS (mS u1 21 v) 24 1) N q T n st1 en1 := (n4.S21 v).1.u rfl (fun j hj => mS_n _ _ (by omega))
        have fp3 := tk3.fp F1.2.1
        rw [x4, x5, Option.bind_some, n_isToll, Option.bind_some, bI_f (by decide), if_pos rfl, refu n4.1, mS_S, need_0, Option.bind_some, Option.bind_some, f_j144 F1.2.1]
        exact Or.inr ⟨_, _, st1, en1, rfl, rfl, fp3.k (Fk.S24 _), by rw [tI_SI, upd_s], n5.ck.tr (Rk.SI N t1 _ (by omega)).ck, n6.f.tr ((Rf.S c0 u1 _ (by omega) (by omega)).tr (F1.tr (Fk.S24 _)).f)⟩
    · rw [if_neg d, if_neg d]
      have := semi n40 hk (u4 0) kd dd f (by rw [mS_1]; exact ⟨by decide, by decide⟩) (fun _ => mS_1 _ _ _)
      rw [mS_1] at this
      exact this.tr n5.ck R0 (by omega)
  by_cases d1 : w = 215205
  · rw [if_pos d1] at hd hr; exact go 0 (Or.inl rfl) hd hr
  · rw [if_neg d1] at hd hr
    by_cases d2 : w = 136242
    · rw [if_pos d2] at hd hr; exact go 1 (Or.inr (Or.inl rfl)) hd hr
    · rw [if_neg d2] at hd hr
      by_cases d3 : w = 150636933
      · rw [if_pos d3] at hd hr; exact go 2 (Or.inr (Or.inr (Or.inl rfl))) hd hr
      · rw [if_neg d3] at hd hr
        by_cases d4 : w = 631476
        · rw [if_pos d4] at hd hr; exact go 3 (Or.inr (Or.inr (Or.inr rfl))) hd hr
        · rw [if_neg d4] at hd hr
          right
          obtain ⟨u', f1, f2⟩ := f_j116 (u := u) kd (-1) 0 (Or.inr rfl)
          have tk3 : Tk t u' N q T n st en := s1.u (by rw [f2.1]) (fun j hj => f2.2.2 j (by omega) (by omega) (by omega))
          refine ⟨tSI t N 1 (nI st), u', st, en, ?_, hr.trans f1, tk3.fp f2.2.1, by rw [tI_SI, upd_s], (Rk.SI N t _ (by omega)).ck, f2.f⟩
          unfold F_X3_readClause_j61
          rw [if_pos hkk, hd, Option.bind_some]
          show (if (-1 : Int32) = -1 then if tK t N = 3 then (F_X3_refuse t N).bind (fun r38 => some (r38.1, r38.2)) else none else _) = _
          rw [if_pos rfl, if_pos hkk, refu s1, Option.bind_some]
