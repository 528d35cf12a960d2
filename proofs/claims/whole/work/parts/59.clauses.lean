/-! ===== pure mathematics 38: a whole clause ===== -/
def Sc (t : xT) (u : xS) (N q a : Nat) (T : Nat → Int32) (n st en k : Nat) (ls : yLS) (fs cs : Nat → Nat) : Prop := Tk t u N q T n st en ∧ LwO t a (N + 1) ∧ tP t N 0 = some (N + 1) ∧ u.1 24 = 0 ∧ LwK (fun j => tI t (N + 1 + j)) ls (u.2.1 0) k fs cs ∧ tI t (N + 1) 0 = nI k ∧ u.2.1 0 4 = nI k ∧ k ≤ 8 ∧ tI t (N + 1) 9 = nI (fs k) ∧ u.1 23 = nI (cs k) ∧ 2 * fs k ≤ st ∧ cs k ≤ st ∧ u.1 22 = nI 0 ∧ q < N
def Cb (N : Nat) (t t' : xT) : Prop := t'.1 = t.1 ∧ t'.2.1 = t.2.1 ∧ t'.2.2.1 = t.2.2.1 ∧ t'.2.2.2.2 = t.2.2.2.2 ∧ ∀ q, q < N → tI t' q = tI t q
theorem Cb.rf (N : Nat) (t : xT) : Cb N t t := ⟨rfl, rfl, rfl, rfl, fun _ _ => rfl⟩
theorem Cb.tr {N : Nat} {t t' t'' : xT} (h : Cb N t t') (h' : Cb N t' t'') : Cb N t t'' := ⟨h'.1.trans h.1, h'.2.1.trans h.2.1, h'.2.2.1.trans h.2.2.1, h'.2.2.2.1.trans h.2.2.2.1, fun q hq => (h'.2.2.2.2 q hq).trans (h.2.2.2.2 q hq)⟩
theorem Ck.b {N f0 : Nat} {t t' : xT} (h : Ck N f0 t t') : Cb N t t' := ⟨h.1, h.2.1, h.2.2.1, h.2.2.2.1, fun q hq => h.2.2.2.2.1 q (by omega) (by omega) (by omega) (by omega) (by omega)⟩
def Rb (u u' : xS) : Prop := (∀ k, k ≠ 0 → u'.2.1 k = u.2.1 k) ∧ u'.2.2 = u.2.2 ∧ (∀ i, i < 71 → i ≠ 4 → u'.2.1 0 i = u.2.1 0 i) ∧ ∀ j, j < 19 ∨ 24 < j → u'.1 j = u.1 j
theorem Rb.rf (u : xS) : Rb u u := ⟨fun _ _ => rfl, rfl, fun _ _ _ => rfl, fun _ _ => rfl⟩
theorem Rb.tr {u u' u'' : xS} (h : Rb u u') (h' : Rb u' u'') : Rb u u'' := ⟨fun k a => (h'.1 k a).trans (h.1 k a), h'.2.1.trans h.2.1, fun i a b => (h'.2.2.1 i a b).trans (h.2.2.1 i a b), fun j a => (h'.2.2.2 j a).trans (h.2.2.2 j a)⟩
theorem Rf.b {c0 : Nat} {u u' : xS} (h : Rf c0 u u') : Rb u u' := ⟨h.1, h.2.1, fun i a _ => h.2.2.1 i (by omega), h.2.2.2⟩
def OutC (c : Option (Int32 × xT)) (r : Option xS) (t : xT) (u : xS) (N q a : Nat) (T : Nat → Int32) (n k : Nat) : Prop :=
  (∃ t' u' st' en' ls' fs' cs', c = some (1, t') ∧ r = some u' ∧ Sc t' u' N q a T n st' en' (k + 1) ls' fs' cs' ∧ Cb N t t' ∧ Rb u u') ∨
  (∃ t' u' st' en', c = some (0, t') ∧ r = some u' ∧ Fp u' T n st' en' ∧ tI t' N 1 = nI st' ∧ Cb N t t' ∧ Rb u u')
theorem wC_at (u : xS) (k i : Nat) (kd dd mm : Int32) : (wC u k kd dd mm).2.1 0 i = if i = 4 then nI (k + 1) else if i = 71 + 4 * k + 3 then u.1 23 else if i = 71 + 4 * k + 2 then mm else if i = 71 + 4 * k + 1 then dd else if i = 71 + 4 * k then kd else u.2.1 0 i := by
  unfold wC
  rw [mA_s, upd2, mA_s, upd2, mA_s, upd2, mA_s, upd2, mA_s, upd2]
theorem wC_n (u : xS) {k j : Nat} (kd dd mm : Int32) (h : j ≠ 0) : (wC u k kd dd mm).2.1 j = u.2.1 j := by
  unfold wC
  rw [mA_0 _ _ _ h, mA_0 _ _ _ h, mA_0 _ _ _ h, mA_0 _ _ _ h, mA_0 _ _ _ h]
theorem okS_of {l : List yX} {h : Nat} (p : Ph h l) (hh : h ≤ 40) : okS l 0 := by
  have := p 0 [] (by omega) rfl
  rw [List.append_nil] at this
  exact this
/-- the clause is written -/
theorem Sc.add {t t1 : xT} {u u1 : xS} {N q a n st en st1 en1 k : Nat} {T : Nat → Int32} {ls : yLS} {fs cs : Nat → Nat} {cur : List yX} {kd dd mm : Int32} (h : Sc t u N q a T n st en k ls fs cs) (hk : k < 8) (hS : Si t1 u1 N q a T n st1 en1 (fs k) (cs k) 0 cur) (hC : Ck N (fs k) t t1) (hR : Rf (cs k) u u1) (hm : Ri mm 0 999) (hd : dd ≠ 1 → mm = 0) (hc : cur = [] ∨ okS cur 0) : ∃ t', F_X2_addClause t1 (N + 1) kd dd mm (nI (fs k)) = some t' ∧ Cb N t1 t' ∧ Rb u1 (wC u1 k kd dd mm) ∧ ∃ ls' fs' cs', Sc t' (wC u1 k kd dd mm) N q a T n st1 en1 (k + 1) ls' fs' cs' := by
  obtain ⟨s1, s2, s3, s4, s5, s6, s7, s8, s9, s10, s11, s12, s13, s14⟩ := h
  obtain ⟨z1, z2, z3, z4, z5, z6, z7, z8, z9⟩ := hS
  have hn : n ≤ 200 := z1.1.2.2.2.2.2.2.1
  have kst := z1.2.2.1.1
  have kn := z1.2.2.1.2.1
  have t0 : tI t1 (N + 1) 0 = nI k := by rw [hC.2.2.2.2.2.2.1 0 (by decide)]; exact s6
  obtain ⟨t', r0, r1, r2, r3, r4, r5, r6, r7, r8, r9, r10, r11, r12⟩ := c_addCl z2 t0 hk kd dd mm (nI (fs k))
  have eK : ∀ x, tK t' x = tK t1 x := fun x => congrFun r2 x
  have eN : ∀ x, tN t' x = tN t1 x := fun x => congrFun r3 x
  have eP : ∀ x, tP t' x = tP t1 x := fun x => congrFun r4 x
  have low : ∀ x, x ≤ N → tI t' x = tI t1 x := fun x hx => r12 x (by omega) (by omega) (by omega) (by omega) (by omega) (by omega)
  have hq := s14
  have f1 : ∀ j, 1 ≤ j → j ≤ 5 → tI t1 (N + 1 + j) = tI t (N + 1 + j) := fun j a b => hC.2.2.2.2.1 _ (by omega) (by omega) (by omega) (by omega) (by omega)
  refine ⟨t', r0, ⟨r1, r2, r3, r4, fun x hx => low x (by omega)⟩, ⟨fun j hj => wC_n _ _ _ _ hj, rfl, fun i a b => ?_, fun _ _ => rfl⟩, (fun i => if i = k then cur else ls i), (fun i => if i = k + 1 then fs k + cur.length else fs i), (fun i => if i = k + 1 then cs k + (encL cur).length else cs i), ?_, ?_, ?_, z4, ?_, r5, ?_, by omega, ?_, ?_, ?_, ?_, z8, s14⟩
  · rw [wC_at, if_neg b, if_neg (by omega), if_neg (by omega), if_neg (by omega), if_neg (by omega)]
  · obtain ⟨⟨g1, g2, g3, g4, g5, g6, g7, g8⟩, g9, g10, g11, g12, g13, g14, g15⟩ := z1
    refine ⟨⟨(eK N).trans g1, ?_, (eK q).trans g3, (eN q).trans g4, ?_, ?_, g7, g8⟩, ⟨g9.1, (wC_n _ _ _ _ (by decide)).trans g9.2⟩, g10, ?_, ?_, ?_, g14, g15⟩
    · rw [eP]; exact g2
    · rw [low q (by omega)]; exact g5
    · rw [low N (by omega)]; exact g6
    · rw [low N (by omega)]; exact g11
    · rw [low N (by omega)]; exact g12
    · rw [low N (by omega)]; exact g13
  · obtain ⟨g1, g2, g3, g4, g5⟩ := z2
    refine ⟨(eK _).trans g1, fun j j1 j2 => ?_, fun j j1 j2 => ?_, by rw [r1]; exact g4, g5⟩
    · unfold ArO; rw [eP, eK, eN]; exact g2 j j1 j2
    · unfold ArO; rw [eP, eK, eN]; exact g3 j j1 j2
  · rw [eP]; exact z3
  · refine s5.ext (fun i hi => ?_) (fun j hj => ?_) (fun i hi => ?_) (fun j hj => ?_) ?_ ?_ ?_ ?_ ?_ ?_ ?_ ?_ ?_ ?_ (fun j x hj => ?_) (fun j c hj => ?_) hc
    · show tI t' (N + 1 + 1) i = tI t (N + 1 + 1) i ∧ tI t' (N + 1 + 2) i = tI t (N + 1 + 2) i ∧ tI t' (N + 1 + 3) i = tI t (N + 1 + 3) i ∧ tI t' (N + 1 + 4) i = tI t (N + 1 + 4) i ∧ tI t' (N + 1 + 5) i = tI t (N + 1 + 5) i
      have ne : i ≠ k := by omega
      rw [r7, r8, r9, r10, r11, upd_n _ _ ne, upd_n _ _ ne, upd_n _ _ ne, upd_n _ _ ne, upd_n _ _ ne, f1 1 (by omega) (by omega), f1 2 (by omega) (by omega), f1 3 (by omega) (by omega), f1 4 (by omega) (by omega), f1 5 (by omega) (by omega)]
      exact ⟨rfl, rfl, rfl, rfl, rfl⟩
    · show tI t' (N + 1 + 6) j = tI t (N + 1 + 6) j ∧ tI t' (N + 1 + 7) j = tI t (N + 1 + 7) j ∧ tI t' (N + 1 + 8) j = tI t (N + 1 + 8) j
      rw [r12 (N + 1 + 6) (by omega) (by omega) (by omega) (by omega) (by omega) (by omega), r12 (N + 1 + 7) (by omega) (by omega) (by omega) (by omega) (by omega) (by omega), r12 (N + 1 + 8) (by omega) (by omega) (by omega) (by omega) (by omega) (by omega)]
      exact hC.2.2.2.2.2.2.2 j hj
    · have e : ∀ w, w < 4 → (wC u1 k kd dd mm).2.1 0 (71 + w + 4 * i) = u.2.1 0 (71 + w + 4 * i) := fun w hw => by
        rw [wC_at, if_neg (by omega), if_neg (by omega), if_neg (by omega), if_neg (by omega), if_neg (by omega)]
        exact hR.2.2.1 _ (by omega)
      exact ⟨e 0 (by omega), e 1 (by omega), e 2 (by omega), e 3 (by omega)⟩
    · rw [wC_at, if_neg (by omega), if_neg (by omega), if_neg (by omega), if_neg (by omega), if_neg (by omega)]
      exact hR.2.2.1 _ (by omega)
    · show tI t' (N + 1 + 1) k = _
      rw [r7, upd_s, wC_at, if_neg (by omega), if_neg (by omega), if_neg (by omega), if_neg (by omega), if_pos rfl]
    · show tI t' (N + 1 + 2) k = _
      rw [r8, upd_s, wC_at, if_neg (by omega), if_neg (by omega), if_neg (by omega), if_pos (by omega)]
    · show tI t' (N + 1 + 3) k = _
      rw [r9, upd_s, wC_at, if_neg (by omega), if_neg (by omega), if_pos (by omega)]
    · show tI t' (N + 1 + 4) k = _
      rw [r10, upd_s]
    · show tI t' (N + 1 + 5) k = _
      rw [r11, upd_s, z5.1.1]
    · rw [wC_at, if_neg (by omega), if_pos (by omega), z5.2.1]
    · rw [wC_at, if_neg (by omega), if_neg (by omega), if_pos (by omega)]; exact hm
    · rw [wC_at, if_neg (by omega), if_neg (by omega), if_neg (by omega), if_pos (by omega), wC_at, if_neg (by omega), if_neg (by omega), if_pos (by omega)]; exact hd
    · omega
    · omega
    · show tI t' (N + 1 + 6) (fs k + j) = _ ∧ tI t' (N + 1 + 7) (fs k + j) = _ ∧ tI t' (N + 1 + 8) (fs k + j) = _
      rw [r12 (N + 1 + 6) (by omega) (by omega) (by omega) (by omega) (by omega) (by omega), r12 (N + 1 + 7) (by omega) (by omega) (by omega) (by omega) (by omega) (by omega), r12 (N + 1 + 8) (by omega) (by omega) (by omega) (by omega) (by omega) (by omega)]
      exact z5.1.2 j x hj
    · rw [wC_at, if_neg (by omega), if_neg (by omega), if_neg (by omega), if_neg (by omega), if_neg (by omega)]
      exact z5.2.2 j c hj
  · rw [wC_at, if_pos rfl]
  · show tI t' (N + 1) 9 = nI (if k + 1 = k + 1 then fs k + cur.length else fs (k + 1))
    rw [if_pos rfl, r6 9 (by decide), z5.1.1]
  · show u1.1 23 = nI (if k + 1 = k + 1 then cs k + (encL cur).length else cs (k + 1))
    rw [if_pos rfl, z5.2.1]
  · show 2 * (if k + 1 = k + 1 then fs k + cur.length else fs (k + 1)) ≤ st1
    rw [if_pos rfl]; exact z6
  · show (if k + 1 = k + 1 then cs k + (encL cur).length else cs (k + 1)) ≤ st1
    rw [if_pos rfl]; exact z7
theorem clause {t : xT} {u : xS} {N q a n st en k : Nat} {T : Nat → Int32} {ls : yLS} {fs cs : Nat → Nat} (h : Sc t u N q a T n st en k ls fs cs) : OutC (F_X3_readClause t N) (F_X12_clause u) t u N q a T n k := by
  have h0 := h
  obtain ⟨s1, s2, s3, s4, s5, s6, s7, s8, s9, s10, s11, s12, s13, s14⟩ := h
  have hS : Si t u N q a T n st en (fs k) (cs k) 0 [] := ⟨s1, s2, s3, s4, ⟨⟨s9, fun j x hj => by simp at hj⟩, ⟨s10, fun j x hj => by simp [encL] at hj⟩⟩, s11, s12, s13, s14⟩
  have hkk := s1.1.1
  obtain ⟨w, w1, w2, w3⟩ := word s1 s4
  have e0 := w3 0 (by decide)
  have e1 := w3 1 (by decide)
  have e2 := w3 2 (by decide)
  have e3 := w3 3 (by decide)
  have e4 := w3 4 (by decide)
  have e5 := w3 5 (by decide)
  rw [hN_0] at e0
  rw [hN_1] at e1
  rw [hN_2] at e2
  rw [hN_3] at e3
  rw [hN_4] at e4
  rw [hN_5] at e5
  have kd : ∃ kd : Int32, F_X3_kindHere t N = some (kd, t) ∧ F_X12_kindHere u = some kd := by
    unfold F_X3_kindHere F_X3_kindHere_j69 F_X12_kindHere F_X12_kindHere_j78
    simp only [e0, e1, e2, e3, e4, e5, w1, Option.bind_some, if_pos hkk, lg_cmp_eq]
    by_cases d0 : w = 86282469
    · rw [bI_t d0, if_neg i32_n10, if_pos d0]; exact ⟨_, rfl, rfl⟩
    · rw [bI_f d0, if_pos rfl, if_neg d0]
      by_cases d1 : w = 17171758
      · rw [bI_t d1, if_neg i32_n10, if_pos d1]; exact ⟨_, rfl, rfl⟩
      · rw [bI_f d1, if_pos rfl, if_neg d1]
        by_cases d2 : w = 659100717
        · rw [bI_t d2, if_neg i32_n10, if_pos d2]; exact ⟨_, rfl, rfl⟩
        · rw [bI_f d2, if_pos rfl, if_neg d2]
          by_cases d3 : w = 435596
          · rw [bI_t d3, if_neg i32_n10, if_pos d3]; exact ⟨_, rfl, rfl⟩
          · rw [bI_f d3, if_pos rfl, if_neg d3]
            by_cases d4 : w = 5351
            · rw [bI_t d4, if_neg i32_n10, if_pos d4]; exact ⟨_, rfl, rfl⟩
            · rw [bI_f d4, if_pos rfl, if_neg d4]
              by_cases d5 : w = 437857460
              · rw [bI_t d5, if_neg i32_n10, if_pos d5]; exact ⟨_, rfl, rfl⟩
              · rw [bI_f d5, if_pos rfl, if_neg d5]; exact ⟨_, rfl, rfl⟩
  obtain ⟨kd, kc, kr⟩ := kd
  have i4 : xIn (4 : Int32) 303 := by decide
  have c4 : (4 : Int32).toNatClampNeg = 4 := rfl
  -- refused at once
  have no : F_X3_readClause t N = F_X3_readClause_j21 t N → F_X12_clause u = F_X12_clause_j25 u kd → OutC (F_X3_readClause t N) (F_X12_clause u) t u N q a T n k := fun hc hr => by
    right
    have F1 := Fk.S24 u
    have tk3 : Tk t (mS u 24 1) N q T n st en := s1.u rfl (fun j hj => mS_n _ _ (by omega))
    have fp3 := tk3.fp F1.2.1
    obtain ⟨u', f1, f2⟩ := f_j49 fp3 kd
    refine ⟨tSI t N 1 (nI st), u', st, en, ?_, ?_, fp3.k f2, by rw [tI_SI, upd_s], (Rk.SI N t _ (by omega)).ck (f0 := 0) |>.b, ((F1.tr f2).f (c0 := 0)).b⟩
    · rw [hc]
      unfold F_X3_readClause_j21
      rw [if_pos hkk, refu s1, Option.bind_some]
    · rw [hr]
      unfold F_X12_clause_j25 F_X12_clause_j26
      rw [need_0, Option.bind_some, fp3.word, Option.bind_some, if_neg (lgc _ (by decide))]
      exact f1
  by_cases c1 : kd < 0
  · refine no ?_ ?_
    · unfold F_X3_readClause
      rw [if_pos hkk, kc, Option.bind_some]
      show (if kd < 0 then F_X3_readClause_j21 t N else _) = _
      rw [if_pos c1]
    · unfold F_X12_clause
      rw [kr, Option.bind_some, if_pos c1]
  by_cases c2 : k < 8
  rotate_left
  · have l1 : ¬ nI k < 8 := nI_nlt (b := 8) (by omega) (by omega)
    have l2 : (8 : Int32) ≤ nI k := nI_le (a := 8) (by omega) (by omega)
    refine no ?_ ?_
    · unfold F_X3_readClause
      rw [if_pos hkk, kc, Option.bind_some]
      show (if kd < 0 then _ else if tK t N = 3 then (tP t N 0).bind _ else none) = _
      rw [if_neg c1, if_pos hkk, s3, Option.bind_some, if_pos s2.1, s6, if_neg l1]
    · unfold F_X12_clause
      rw [kr, Option.bind_some, if_neg c1, if_pos i4, c4, s7, if_pos l2]
  have l1 : nI k < 8 := nI_lt (b := 8) c2 (by decide)
  have l2 : ¬ (8 : Int32) ≤ nI k := nI_ge (b := 8) c2 (by decide)
  obtain ⟨t1, u1, st1, en1, n1, n2, n3, n4, n5, n6⟩ := hS.next
  have hk1 := n4.1.1.1
  have u14 : u1.2.1 0 4 = nI k := by rw [n6.1]; exact s7
  obtain ⟨w', x1, x2, x3⟩ := word n4.1 n4.2.2.2.1
  have e6 := x3 6 (by decide)
  rw [hN_6] at e6
  have f9 : tI t1 (N + 1) 9 = nI (fs k) := n4.2.2.2.2.1.1.1
  have ec : F_X3_readClause t N = if w' = 294 then (F_X3_next t1 N).bind (fun r66 => if tK r66 N = 3 then (F_X3_readAnyOf 6 r66 N (0 : Int32)).bind (fun r69 => if r69.1 = 0 then some ((0 : Int32), r69.2) else F_X3_readClause_j61 r69.2 N kd (nI (fs k))) else none) else F_X3_readClause_j61 t1 N kd (nI (fs k)) := by
    unfold F_X3_readClause
    rw [if_pos hkk, kc, Option.bind_some]
    show (if kd < 0 then _ else if tK t N = 3 then (tP t N 0).bind _ else none) = _
    rw [if_neg c1, if_pos hkk, s3, Option.bind_some, if_pos s2.1, s6, if_pos l1, n1, Option.bind_some, if_pos hk1, n4.2.2.1, Option.bind_some, if_pos n4.2.1.1]
    simp only [xlet]
    rw [f9, e6, Option.bind_some]
    by_cases d : w' = 294
    · rw [bI_t d, if_neg i32_n10, if_pos hk1, if_pos d]
    · rw [bI_f d, if_pos rfl, if_neg d]
  have er : F_X12_clause u = if w' = 294 then (F_X12_needs u1 1).bind (fun r41 => (F_X12_condition 6 r41).bind (fun r43 => F_X12_clause_j49 r43 kd)) else F_X12_clause_j49 u1 kd := by
    unfold F_X12_clause
    rw [kr, Option.bind_some, if_neg c1, if_pos i4, c4, s7, if_neg l2]
    unfold F_X12_clause_j26
    rw [need_1 s4, n2, Option.bind_some, x1, Option.bind_some]
    simp only [lg_cmp_eq]
  -- the end
  have fin : ∀ t2 u2 st2 en2 cur, Si t2 u2 N q a T n st2 en2 (fs k) (cs k) 0 cur → Ck N (fs k) t t2 → Rf (cs k) u u2 → (cur = [] ∨ okS cur 0) → OutC (F_X3_readClause_j61 t2 N kd (nI (fs k))) (F_X12_clause_j49 u2 kd) t u N q a T n k := by
    intro t2 u2 st2 en2 cur hS2 hC2 hR2 hc
    have u24 : u2.2.1 0 4 = nI k := (hR2.2.2.1 4 (by omega)).trans s7
    rcases ends hS2 c2 u24 kd (nI (fs k)) with ⟨t3, u3, st3, en3, dd, mm, p1, p2, p3, p4, p5, p6, p7, p8⟩ | ⟨t3, u3, st3, en3, p1, p2, p3, p4, p5, p6⟩
    · left
      obtain ⟨t4, g1, g2, g3, ls', fs', cs', g4⟩ := h0.add (kd := kd) (dd := dd) (mm := mm) c2 p3 (hC2.tr p4) (hR2.tr p5) p7 p8 hc
      refine ⟨t4, _, st3, en3, ls', fs', cs', ?_, p2, g4, (hC2.tr p4).b.tr g2, (hR2.tr p5).b.tr g3⟩
      rw [p1, g1, Option.bind_some]
    · exact Or.inr ⟨t3, u3, st3, en3, p1, p2, p3, p4, (hC2.tr p5).b, (hR2.tr p6).b⟩
  rw [ec, er]
  by_cases d : w' = 294
  · rw [if_pos d, if_pos d]
    obtain ⟨t2, u2, st2, en2, m1, m2, m3, m4, m5, m6⟩ := n4.next
    have hk2 := m4.1.1.1
    rw [need_1 n4.2.2.2.1, m1, m2, Option.bind_some, Option.bind_some, if_pos hk2]
    rcases anyOf 3 0 6 6 (by omega) (by omega) (by omega) t2 u2 st2 en2 [] m4 with ⟨t3, u3, st3, en3, add, q1, q2, q3, q4, q5, q6, q7, q8, q9⟩ | ⟨t3, u3, st3, en3, q1, q2, q3, q4, q5, q6⟩
    · have q1 : F_X3_readAnyOf 6 t2 N (0 : Int32) = some (1, t3) := q1
      rw [q1, q2, Option.bind_some, Option.bind_some, if_neg i32_n10]
      exact fin t3 u3 st3 en3 add q3 (n5.ck.tr (m5.ck.tr q4)) (n6.f.tr (m6.f.tr q5)) (Or.inr (okS_of q9 (by omega)))
    · have q1 : F_X3_readAnyOf 6 t2 N (0 : Int32) = some (0, t3) := q1
      obtain ⟨u', f1, f2⟩ := f_j49 q3 kd
      rw [q1, q2, Option.bind_some, Option.bind_some, if_pos rfl, f1]
      exact Or.inr ⟨t3, u', st3, en3, rfl, rfl, q3.k f2, q4, (n5.ck.tr (m5.ck.tr q5)).b, (n6.f.tr (m6.f.tr (q6.tr f2.f))).b⟩
  · rw [if_neg d, if_neg d]
    exact fin t1 u1 st1 en1 [] n4 n5.ck n6.f (Or.inl rfl)
