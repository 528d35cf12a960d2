/-! ===== pure mathematics 39: the clauses of a law ===== -/
theorem j60_0 {u : xS} (h : u.1 24 = 0) : F_X12_law_j60 u = some (u.2.1 0 4, mS u 18 0) := by
  have i4 : xIn (4 : Int32) 303 := by decide
  unfold F_X12_law_j60
  simp only [xlet]
  rw [mS_n _ _ (by decide), if_pos h, if_pos i4]
  rfl
def LawE (c : Option (Int32 × xT)) (r : Option (Int32 × xS)) (t0 : xT) (u0 : xS) (N q a : Nat) (T : Nat → Int32) (n : Nat) : Prop :=
  (∃ t u st en k ls fs cs, c = F_X11_law_j61 t a N ∧ r = some (u.2.1 0 4, mS u 18 0) ∧ Sc t u N q a T n st en k ls fs cs ∧ Cb N t0 t ∧ Rb u0 u) ∨
  (∃ t u st, c = some ((-100 : Int32) - nI st, t) ∧ r = F_X12_law_j60 u ∧ u.1 24 ≠ 0 ∧ u.1 19 = nI st ∧ Cb N t0 t ∧ Rb u0 u)
theorem law_l {N q a n : Nat} {T : Nat → Int32} {t0 : xT} {u0 : xS} : ∀ m k f f' t u st en ls fs cs, k + m = 9 → m < f → m < f' → Sc t u N q a T n st en k ls fs cs → Cb N t0 t → Rb u0 u → LawE (F_X11_law_l27 f t a N (nI k)) (F_X12_law_l35 f' u) t0 u0 N q a T n
  | _, _, 0, _, _, _, _, _, _, _, _, _, h, _, _, _, _ => absurd h (Nat.not_lt_zero _)
  | _, _, _, 0, _, _, _, _, _, _, _, _, _, h, _, _, _ => absurd h (Nat.not_lt_zero _)
  | m, k, f + 1, f' + 1, t, u, st, en, ls, fs, cs, hm, hf, hf', h, hC, hR => by
    have h0 := h
    obtain ⟨s1, s2, s3, s4, s5, s6, s7, s8, s9, s10, s11, s12, s13, s14⟩ := h
    have hn : n ≤ 200 := s1.1.2.2.2.2.2.2.1
    have kst := s1.2.2.1.1
    have kn := s1.2.2.1.2.1
    have l8 : ¬ (8 : Int32) < nI k := nI_nlt (a := 8) (b := k) (by omega) (by omega) |> fun z => z
    have ec : F_X11_law_l27 (f + 1) t a N (nI k) = if so T n st = 0 then F_X11_law_j61 t a N else (F_X3_readClause t N).bind (fun r27 => if r27.1 = 0 then if tK r27.2 N = 3 then some ((-100 : Int32) - (tI r27.2 N 1), r27.2) else none else F_X11_law_l27 f r27.2 a N (nI (k + 1))) := by
      conv => lhs; unfold F_X11_law_l27
      simp only [xlet]
      rw [if_neg l8, if_pos s1.1.1, s1.2.2.2.2.2.1, nI_1]
    have er : F_X12_law_l35 (f' + 1) u = if so T n st = 0 then F_X12_law_j60 u else (F_X12_clause u).bind (fun r8 => F_X12_law_l35 f' r8) := by
      conv => lhs; unfold F_X12_law_l35
      rw [if_pos s4, s1.2.1.1, s1.2.2.2.2.2.2.1]
      by_cases d : n ≤ st
      · rw [if_pos (nI_le d (by omega)), if_pos ((so_0 T n st).2 d)]
      · rw [if_neg (nI_ge (show st < n by omega) (by omega)), if_neg (fun e => d ((so_0 T n st).1 e))]
    rw [ec, er]
    by_cases c : so T n st = 0
    · rw [if_pos c, if_pos c, j60_0 s4]
      exact Or.inl ⟨t, u, st, en, k, ls, fs, cs, rfl, rfl, h0, hC, hR⟩
    · rw [if_neg c, if_neg c]
      rcases clause h0 with ⟨t1, u1, st1, en1, ls1, fs1, cs1, p1, p2, p3, p4, p5⟩ | ⟨t1, u1, st1, en1, p1, p2, p3, p4, p5, p6⟩
      · have k9 : k + 1 ≤ 8 := p3.2.2.2.2.2.2.2.1
        rw [p1, p2, Option.bind_some, Option.bind_some, if_neg i32_n10]
        exact law_l (m - 1) (k + 1) f f' t1 u1 st1 en1 ls1 fs1 cs1 (by omega) (by omega) (by omega) p3 (hC.tr p4) (hR.tr p5)
      · have k1 : tK t1 N = 3 := by rw [show tK t1 N = tK t N from congrFun p5.2.1 N]; exact s1.1.1
        obtain ⟨f2, rfl⟩ : ∃ f2, f' = f2 + 1 := ⟨f' - 1, by omega⟩
        rw [p1, p2, Option.bind_some, Option.bind_some, if_pos rfl, if_pos k1, p4]
        refine Or.inr ⟨t1, u1, st1, rfl, ?_, p3.1, p3.2.2.2.2.2.1, hC.tr p5, hR.tr p6⟩
        unfold F_X12_law_l35
        rw [if_neg p3.1]
/-! the copy -/
theorem puts_l : ∀ m i f u, i + m = 303 → m < f → ∃ u', F_X12_puts_l2 f u (nI i) = some u' ∧ u'.1 = u.1 ∧ (∀ k, k ≠ 2 → u'.2.1 k = u.2.1 k) ∧ u'.2.2 = u.2.2 ∧ (∀ j, i ≤ j → j < 303 → u'.2.1 2 j = u.2.1 0 j) ∧ ∀ j, j < i → u'.2.1 2 j = u.2.1 2 j
  | _, _, 0, _, _, h => absurd h (Nat.not_lt_zero _)
  | 0, i, f + 1, u, hi, _ => by
    refine ⟨u, ?_, rfl, fun _ _ => rfl, rfl, fun j a b => by omega, fun _ _ => rfl⟩
    unfold F_X12_puts_l2
    rw [if_pos (show (303 : Int32) ≤ nI i from nI_le (a := 303) (by omega) (by omega))]
  | m + 1, i, f + 1, u, hi, hm => by
    have ix : xIn (nI i) 303 := n_xIn (by omega) (by omega)
    have ec : (nI i).toNatClampNeg = i := n_cl (by omega)
    obtain ⟨u', r1, r2, r3, r4, r5, r6⟩ := puts_l m (i + 1) f (mA u 2 i (u.2.1 0 i)) (by omega) (by omega)
    refine ⟨u', ?_, r2, fun k hk => (r3 k hk).trans (mA_0 _ _ _ hk), r4, fun j a b => ?_, fun j a => ?_⟩
    · rw [← r1]
      conv => lhs; unfold F_X12_puts_l2
      simp only [xlet]
      rw [if_neg (show ¬ (303 : Int32) ≤ nI i from nI_ge (b := 303) (by omega) (by omega)), if_pos ix, if_pos ix, ec, nI_1]
    · by_cases d : j = i
      · rw [r6 j (by omega), mA_s, d, upd_s]
      · rw [r5 j (by omega) b, mA_0 _ _ _ (by decide)]
    · rw [r6 j (by omega), mA_s, upd_n _ _ (by omega)]
theorem back_l : ∀ m i f u, i + m = 303 → m < f → ∃ u', F_X12_putsBack_l2 f u (nI i) = some u' ∧ u'.1 = u.1 ∧ (∀ k, k ≠ 0 → u'.2.1 k = u.2.1 k) ∧ u'.2.2 = u.2.2 ∧ (∀ j, i ≤ j → j < 303 → u'.2.1 0 j = u.2.1 2 j) ∧ ∀ j, j < i → u'.2.1 0 j = u.2.1 0 j
  | _, _, 0, _, _, h => absurd h (Nat.not_lt_zero _)
  | 0, i, f + 1, u, hi, _ => by
    refine ⟨u, ?_, rfl, fun _ _ => rfl, rfl, fun j a b => by omega, fun _ _ => rfl⟩
    unfold F_X12_putsBack_l2
    rw [if_pos (show (303 : Int32) ≤ nI i from nI_le (a := 303) (by omega) (by omega))]
  | m + 1, i, f + 1, u, hi, hm => by
    have ix : xIn (nI i) 303 := n_xIn (by omega) (by omega)
    have ec : (nI i).toNatClampNeg = i := n_cl (by omega)
    obtain ⟨u', r1, r2, r3, r4, r5, r6⟩ := back_l m (i + 1) f (mA u 0 i (u.2.1 2 i)) (by omega) (by omega)
    refine ⟨u', ?_, r2, fun k hk => (r3 k hk).trans (mA_0 _ _ _ hk), r4, fun j a b => ?_, fun j a => ?_⟩
    · rw [← r1]
      conv => lhs; unfold F_X12_putsBack_l2
      simp only [xlet]
      rw [if_neg (show ¬ (303 : Int32) ≤ nI i from nI_ge (b := 303) (by omega) (by omega)), if_pos ix, if_pos ix, ec, nI_1]
    · by_cases d : j = i
      · rw [r6 j (by omega), mA_s, d, upd_s]
      · rw [r5 j (by omega) b, mA_0 _ _ _ (by decide)]
    · rw [r6 j (by omega), mA_s, upd_n _ _ (by omega)]
/-! a new law -/
def An (t0 t : xT) (L i : Nat) : Prop := t.1 = L + 1 + i ∧ tK t L = 2 ∧ tI t L 0 = 0 ∧ (∀ j, 1 ≤ j → j ≤ i → tP t L j = some (L + j) ∧ ArO t (L + j) (if j ≤ 5 then 8 else 100)) ∧ ∀ q, q < L → tK t q = tK t0 q ∧ tN t q = tN t0 q ∧ tI t q = tI t0 q ∧ tP t q = tP t0 q
theorem arr {t0 t : xT} {L : Nat} (P : Option xT → Prop) (i n : Nat) (h : An t0 t L i) (hn : n = if i + 1 ≤ 5 then 8 else 100) (k : xT → Option xT) (hk : ∀ t', An t0 t' L (i + 1) → P (k t')) : P (xlet (tNew t 20 n) (fun t4 => if tK t4 L = 2 then xlet (tSP t4 L (i + 1) (some t.1)) k else none)) := by
  obtain ⟨h1, h2, h3, h4, h5⟩ := h
  have e2 : tK (tNew t 20 n) L = 2 := (tK_Nn _ _ _ (by omega)).trans h2
  show P (if tK (tNew t 20 n) L = 2 then k (tSP (tNew t 20 n) L (i + 1) (some t.1)) else none)
  rw [if_pos e2]
  refine hk _ ⟨?_, e2, ?_, fun j j1 j2 => ?_, fun q hq => ?_⟩
  · show t.1 + 1 = _; omega
  · show tI (tNew t 20 n) L 0 = 0
    rw [tI_Nn _ _ _ (by omega)]; exact h3
  · rw [tP_SP]
    by_cases d : j = i + 1
    · subst d
      refine ⟨?_, ?_, ?_⟩
      · rw [va_up_self, h1]; congr 1; omega
      · show tK (tNew t 20 n) (L + (i + 1)) = 20
        rw [show L + (i + 1) = t.1 by omega, tK_N]
      · show tN (tNew t 20 n) (L + (i + 1)) = _
        rw [show L + (i + 1) = t.1 by omega, tN_N]; exact hn
    · obtain ⟨g1, g2, g3⟩ := h4 j j1 (by omega)
      refine ⟨?_, ?_, ?_⟩
      · rw [va_up_ne _ _ d, tP_Nn _ _ _ (by omega)]; exact g1
      · exact (tK_Nn t 20 n (by omega)).trans g2
      · exact (tN_Nn t 20 n (by omega)).trans g3
  · obtain ⟨g1, g2, g3, g4⟩ := h5 q hq
    exact ⟨(tK_Nn t 20 n (by omega)).trans g1, (tN_Nn t 20 n (by omega)).trans g2, (tI_Nn t 20 n (by omega)).trans g3, (tP_SPn (tNew t 20 n) L (i + 1) (some t.1) (by omega)).trans ((tP_Nn t 20 n (by omega)).trans g4)⟩
theorem c_law0 {t : xT} {L : Nat} (h1 : t.1 = L + 1) (hK : tK t L = 2) : ∃ t', F_X2_init t L = some t' ∧ An t t' L 8 ∧ tI t' L 9 = 0 := by
  let P : Option xT → Prop := fun o => ∃ t', o = some t' ∧ An t t' L 8 ∧ tI t' L 9 = 0
  have h0 : An t (tSI t L 0 0) L 0 := ⟨h1, hK, by rw [tI_SI, upd_s], fun j a b => by omega, fun q hq => ⟨rfl, rfl, tI_SIn _ _ _ _ (by omega), rfl⟩⟩
  show P (F_X2_init t L)
  unfold F_X2_init
  rw [if_pos hK]
  refine arr P 0 8 h0 rfl _ (fun t1 a1 => ?_)
  refine arr P 1 8 a1 rfl _ (fun t2 a2 => ?_)
  refine arr P 2 8 a2 rfl _ (fun t3 a3 => ?_)
  refine arr P 3 8 a3 rfl _ (fun t4 a4 => ?_)
  refine arr P 4 8 a4 rfl _ (fun t5 a5 => ?_)
  refine arr P 5 100 a5 rfl _ (fun t6 a6 => ?_)
  refine arr P 6 100 a6 rfl _ (fun t7 a7 => ?_)
  refine arr P 7 100 a7 rfl _ (fun t8 a8 => ?_)
  refine ⟨tSI t8 L 9 0, rfl, ?_, by rw [tI_SI, upd_s]⟩
  obtain ⟨g1, g2, g3, g4, g5⟩ := a8
  exact ⟨g1, g2, by rw [tI_SI, upd_n _ _ (by decide)]; exact g3, g4, fun q hq => ⟨(g5 q hq).1, (g5 q hq).2.1, (tI_SIn _ _ _ _ (by omega)).trans (g5 q hq).2.2.1, (g5 q hq).2.2.2⟩⟩
theorem c_reader {t : xT} {q : Nat} {x : Int32} (hq : q < t.1) : ∃ t', F_X3_init (tNew t 3 0) t.1 q x = some t' ∧ t'.1 = t.1 + 10 ∧ (∀ p, p < t.1 → tK t' p = tK t p ∧ tN t' p = tN t p ∧ tI t' p = tI t p ∧ tP t' p = tP t p) ∧ tK t' t.1 = 3 ∧ tP t' t.1 0 = some (t.1 + 1) ∧ tP t' t.1 3 = some q ∧ tI t' t.1 4 = x ∧ tI t' t.1 6 = 0 ∧ tK t' (t.1 + 1) = 2 ∧ (∀ j, 1 ≤ j → j ≤ 8 → tP t' (t.1 + 1) j = some (t.1 + 1 + j) ∧ ArO t' (t.1 + 1 + j) (if j ≤ 5 then 8 else 100)) ∧ tI t' (t.1 + 1) 0 = 0 ∧ tI t' (t.1 + 1) 9 = 0 := by
  let t1 := tNew (tNew t 3 0) 2 0
  have e1 : t1.1 = (t.1 + 1) + 1 := rfl
  have k1 : tK t1 (t.1 + 1) = 2 := tK_N (tNew t 3 0) 2 0
  obtain ⟨t3, r1, ⟨a1, a2, a3, a4, a5⟩, r2⟩ := c_law0 (t := t1) (L := t.1 + 1) e1 k1
  have kN : tK t3 t.1 = 3 := by
    rw [(a5 t.1 (by omega)).1]
    exact (tK_Nn (tNew t 3 0) 2 0 (show t.1 ≠ t.1 + 1 by omega)).trans (tK_N t 3 0)
  have low : ∀ p, p < t.1 → tK t3 p = tK t p ∧ tN t3 p = tN t p ∧ tI t3 p = tI t p ∧ tP t3 p = tP t p := fun p hp => by
    obtain ⟨g1, g2, g3, g4⟩ := a5 p (by omega)
    have n1 : p ≠ (tNew t 3 0).1 := by show p ≠ t.1 + 1; omega
    have n2 : p ≠ t.1 := by omega
    exact ⟨g1.trans ((tK_Nn (tNew t 3 0) 2 0 n1).trans (tK_Nn t 3 0 n2)), g2.trans ((tN_Nn (tNew t 3 0) 2 0 n1).trans (tN_Nn t 3 0 n2)), g3.trans ((tI_Nn (tNew t 3 0) 2 0 n1).trans (tI_Nn t 3 0 n2)), g4.trans ((tP_Nn (tNew t 3 0) 2 0 n1).trans (tP_Nn t 3 0 n2))⟩
  let t6 := tSP t3 t.1 0 (some (t.1 + 1))
  let t8 := tSI t6 t.1 1 0
  let t10 := tSI t8 t.1 2 0
  let t12 := tSI t10 t.1 5 0
  let t14 := tSI t12 t.1 6 0
  let t16 := tSP t14 t.1 3 (some q)
  have eI : ∀ p, p ≠ t.1 → tI (tSI t16 t.1 4 x) p = tI t3 p := fun p hp => by
    rw [tI_SIn _ _ _ _ hp]
    show tI t14 p = _
    rw [show tI t14 p = tI t12 p from tI_SIn _ _ _ _ hp, show tI t12 p = tI t10 p from tI_SIn _ _ _ _ hp, show tI t10 p = tI t8 p from tI_SIn _ _ _ _ hp, show tI t8 p = tI t6 p from tI_SIn _ _ _ _ hp]
    rfl
  have eP : ∀ p, p ≠ t.1 → tP (tSI t16 t.1 4 x) p = tP t3 p := fun p hp => (tP_SPn _ _ _ _ hp).trans (tP_SPn _ _ _ _ hp)
  refine ⟨tSI t16 t.1 4 x, ?_, ?_, fun p hp => ?_, kN, ?_, ?_, by rw [tI_SI, upd_s], ?_, a2, fun j j1 j2 => ?_, ?_, ?_⟩
  · unfold F_X3_init
    show (F_X2_init t1 (t.1 + 1)).bind _ = _
    rw [r1, Option.bind_some, if_pos kN]
    rfl
  · show t3.1 = _
    omega
  · obtain ⟨g1, g2, g3, g4⟩ := low p hp
    exact ⟨g1, g2, (eI p (by omega)).trans g3, (eP p (by omega)).trans g4⟩
  · show tP t16 t.1 0 = _
    rw [show tP t16 t.1 = va_up (tP t14 t.1) 3 (some q) from tP_SP _ _ _ _, va_up_ne _ _ (by decide)]
    show tP t6 t.1 0 = _
    rw [show tP t6 t.1 = va_up (tP t3 t.1) 0 (some (t.1 + 1)) from tP_SP _ _ _ _, va_up_self]
  · show tP t16 t.1 3 = _
    rw [show tP t16 t.1 = va_up (tP t14 t.1) 3 (some q) from tP_SP _ _ _ _, va_up_self]
  · rw [tI_SI, upd_n _ _ (by decide)]
    show tI t14 t.1 6 = 0
    rw [show tI t14 t.1 = upd (tI t12 t.1) 6 0 from tI_SI _ _ _ _, upd_s]
  · rw [eP _ (by omega)]
    exact a4 j j1 j2
  · rw [eI _ (by omega)]; exact a3
  · rw [eI _ (by omega)]; exact r2
