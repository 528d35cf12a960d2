/-! ===== pure mathematics 27: kept, again ===== -/
def E3 (s s' : Nat → Int32) : Prop := ∀ j, j < 303 → s' j = s j
theorem E3.n {s s' : Nat → Int32} (h : E3 s s') : nB s' = nB s ∧ nP s' = nP s ∧ nT s' = nT s ∧ nC s' = nC s := by
  unfold nB nP nT nC
  rw [h 0 (by decide), h 1 (by decide), h 2 (by decide), h 4 (by decide)]
  exact ⟨rfl, rfl, rfl, rfl⟩
theorem E3.iv {s s' : Nat → Int32} (h : E3 s s') (hI : Iv s) : Iv s' := by
  obtain ⟨n1, n2, n3, n4⟩ := h.n
  obtain ⟨q0, q1, q2, q3, q4, q5, q6⟩ := hI
  have b9 := q0.1
  have p6 := q1.1
  unfold Iv
  rw [n1, n2, n3, n4, h 0 (by decide), h 1 (by decide), h 2 (by decide), h 3 (by decide), h 4 (by decide)]
  refine ⟨q0, q1, q2, q3, q4, fun k hk => ?_, fun p hp => ?_⟩
  · rw [h _ (by omega), h _ (by omega), h _ (by omega), h _ (by omega)]; exact q5 k hk
  · rw [h _ (by omega)]; exact q6 p hp
theorem E3.rd {t : xT} {r : Nat} {s s' : Nat → Int32} (h : E3 s s') (hR : RdC t r s) : RdC t r s' := by
  unfold RdC at hR ⊢
  rw [h 0 (by decide), h 1 (by decide), h 2 (by decide), h 3 (by decide)]
  refine ⟨hR.1, hR.2.1, hR.2.2.1, hR.2.2.2.1, fun p hp => ?_, fun j hj => ?_⟩
  · rw [h _ (by omega), h _ (by omega), h _ (by omega)]; exact hR.2.2.2.2.1 p hp
  · rw [h _ (by omega), h _ (by omega)]; exact hR.2.2.2.2.2 j hj
theorem E3.law {t : xT} {a r L : Nat} {ls : yLS} {s s' : Nat → Int32} (h : E3 s s') (hn : nC s ≤ 8) (hL : LawC t a r L ls s) : LawC t a r L ls s' := by
  obtain ⟨h1, h2, h3, fs, cs, hW⟩ := hL
  refine ⟨h1, h2, by rw [h 4 (by decide)]; exact h3, fs, cs, ?_⟩
  rw [h.n.2.2.2]
  refine ⟨hW.1, hW.2.1, fun i hi => ?_⟩
  obtain ⟨g1, g2, g3, g4, g5, g6, g7, g8, g9, g10⟩ := hW.2.2 i hi
  rw [h (71 + 4 * i) (by omega), h (72 + 4 * i) (by omega), h (73 + 4 * i) (by omega), h (74 + 4 * i) (by omega)]
  refine ⟨g1, g2, g3, g4, g5, g6, g7, g8, fun j c hc => ?_, g10⟩
  have hj : j < (encL (ls i)).length := by
    rw [List.getElem?_eq_some_iff] at hc; exact hc.1
  rw [h _ (by omega)]; exact g9 j c hc
theorem E3.bk {t : xT} {p k : Nat} {s s' : Nat → Int32} (h : E3 s s') (hk : k < 9) (hB : BkC t p k s) : BkC t p k s' := by
  unfold BkC at hB ⊢
  rw [h _ (by omega), h _ (by omega), h _ (by omega), h _ (by omega)]; exact hB
theorem E3.bg {t : xT} {a r : Nat} {B : Nat → Nat} {s s' : Nat → Int32} (h : E3 s s') (h9 : nB s ≤ 9) (hB : BgC t a r B s) : BgC t a r B s' := by
  intro k hk
  rw [h.n.1] at hk
  obtain ⟨g1, g2, g3, g4⟩ := hB k hk
  exact ⟨g1, g2, g3, h.bk (by omega) g4⟩
theorem E3.st {t : xT} {B : Nat → Nat} {ls : yLS} {s s' : Nat → Int32} (h : E3 s s') (hn : nC s ≤ 8) (h9 : nB s ≤ 9) (hS : StC t B ls s) : StC t B ls s' := by
  intro k hk
  rw [h.n.1] at hk
  have b : ∀ w, w < 4 → s' (5 + 4 * k + w) = s (5 + 4 * k + w) := fun w hw => h _ (by omega)
  have b0 : s' (5 + 4 * k) = s (5 + 4 * k) := b 0 (by decide)
  have hf : fct s' k = fct s k := by
    funext c
    unfold fct
    rw [h 3 (by decide), b 1 (by decide), b 2 (by decide), b 3 (by decide)]
  have hh : ∀ i, hold ls s' k i = hold ls s k i := fun i => by unfold hold; rw [hf]
  have hF : ∀ m i, i + m ≤ 8 → clF ls s' k m i = clF ls s k m i := by
    intro m
    induction m with
    | zero => intro i _; rfl
    | succ m ih => intro i hi; unfold clF; rw [hh, ih (i + 1) (by omega), b0, h (71 + 4 * i) (by omega)]
  have hC : clS ls s' k = clS ls s k := by
    unfold clS
    rw [h.n.2.2.2]; exact hF _ 0 (by omega)
  have hd : ddS ls s' k = ddS ls s k ∧ mmS ls s' k = mmS ls s k := by
    unfold ddS mmS
    rw [hC]
    cases e : clS ls s k with
    | none => exact ⟨rfl, rfl⟩
    | some i =>
      have := clF_lt ls s k (nC s) 0 i e
      exact ⟨h _ (by omega), h _ (by omega)⟩
  unfold tmS tlS tbS opS
  rw [hd.1, hd.2, b0, b 1 (by decide), b 2 (by decide), b 3 (by decide), h 3 (by decide)]
  exact hS k hk
/-! the class's copy -/
theorem lp_copyB {t0 : xT} {a r r' L : Nat} {B : Nat → Nat} {ls : yLS} {s : Nat → Int32} (hr : (r = a + 17 ∧ r' = a + 1) ∨ (r = a + 1 ∧ r' = a + 17)) (hS : SkC t0 a) (hI : Iv s) (hR1 : tI t0 r' 1 = s 0) (hL : LawC t0 a r' L ls s) (hB : BgC t0 a r' B s) : ∀ (m i n : Nat) (t : xT) (B2 : Nat → Nat), i + m = nB s → m < n → Ol t0 t (fun q => q = r) (fun q => q = r ∨ q = r + 1) → (∀ j, j ≠ 3 → tP t r j = tP t0 r j) → tI t r 1 = nI i → tI t r 2 = s 3 → tP t r 3 = some L → (∀ k, k < i → tP t (r + 1) k = some (B2 k) ∧ t0.1 ≤ B2 k ∧ B2 k < t.1 ∧ BkC t (B2 k) k s ∧ (tI t (B2 k) 5 = tmS ls s k ∧ tI t (B2 k) 6 = tlS ls s k ∧ tI t (B2 k) 7 = opS ls s k)) → ∃ (n' : Nat) (t' : xT) (B2 : Nat → Nat), F_X7_copyFrom_l23 n t r r' (nI i) = F_X7_copyFrom_l23 (n' + 1) t' r r' (nI (nB s)) ∧ Ol t0 t' (fun q => q = r) (fun q => q = r ∨ q = r + 1) ∧ (∀ j, j ≠ 3 → tP t' r j = tP t0 r j) ∧ tI t' r 1 = s 0 ∧ tI t' r 2 = s 3 ∧ tP t' r 3 = some L ∧ (∀ k, k < nB s → tP t' (r + 1) k = some (B2 k) ∧ t0.1 ≤ B2 k ∧ B2 k < t'.1 ∧ BkC t' (B2 k) k s ∧ (tI t' (B2 k) 5 = tmS ls s k ∧ tI t' (B2 k) 6 = tlS ls s k ∧ tI t' (B2 k) 7 = opS ls s k)) := by
  have hl := hS.lt
  have h9 := hI.1.1
  have hLx := hL.2.1.2.2.2
  intro m
  induction m with
  | zero =>
    intro i n t B2 hi hm o hP e1 e2 e3 hb
    have hi : i = nB s := by omega
    subst hi
    obtain ⟨n', rfl⟩ : ∃ n', n = n' + 1 := ⟨n - 1, by omega⟩
    exact ⟨n', t, B2, rfl, o, hP, e1.trans hI.1.2.symm, e2, e3, hb⟩
  | succ m ih =>
    intro i n t B2 hi hm o hP e1 e2 e3 hb
    obtain ⟨n, rfl⟩ : ∃ n', n = n' + 1 := ⟨n - 1, by omega⟩
    have hib : i < nB s := by omega
    obtain ⟨bi1, bi2, bi3, bi4⟩ := hB i hib
    have rd0 : Rd0 t0 r' := by
      rcases hr with ⟨-, h⟩ | ⟨-, h⟩ <;> rw [h]
      · exact hS.2.2.2.2.2.2.2.2.2.2.2.2.1
      · exact hS.2.2.2.2.2.2.2.2.2.2.2.2.2.1
    have rdd : Rd0 t0 r := by
      rcases hr with ⟨h, -⟩ | ⟨h, -⟩ <;> rw [h]
      · exact hS.2.2.2.2.2.2.2.2.2.2.2.2.2.1
      · exact hS.2.2.2.2.2.2.2.2.2.2.2.2.1
    have rdt : Rd0 t r' := rd0.ol o (by omega) (fun j _ => by rw [o.2.2.2 r' (by omega) (by omega)])
    have rdr : Rd0 t r := rdd.ol o (by omega) hP
    have e1' : tI t r' 1 = nI (nB s) := by rw [o.2.2.1 r' (by omega) (by omega), hR1]; exact hI.1.2
    have by1 := ba_yes rdt e1' h9 hib (show tP t (r' + 1) i = some (B i) by rw [o.2.2.2 (r' + 1) (by omega) (by omega)]; exact bi1)
    have bkt : BkC t (B i) i s := bi4.ol o bi3 (by omega)
    have hbk : isBk (tK t (B i)) := by rw [bkt.1]; exact kK_bk _
    obtain ⟨g0, g1, g2, g3, g4, g5⟩ := bkt
    -- the count goes up, the bridge is made
    have oA : Ol t (tSI t r 1 (nI (i + 1))) (fun q => q = r) (fun _ => False) := Ol.SI _ _ _ rfl
    have oB := md_ol (tSI t r 1 (nI (i + 1))) (s (5 + 4 * i)) (nI i) (s (5 + 4 * i + 1)) (s (5 + 4 * i + 2)) (s (5 + 4 * i + 3))
    have o1 : Ol t (md (tSI t r 1 (nI (i + 1))) (s (5 + 4 * i)) (nI i) (s (5 + 4 * i + 1)) (s (5 + 4 * i + 2)) (s (5 + 4 * i + 3))) (fun q => q = r) (fun _ => False) := oA.tr2 oB (fun _ _ h => h.elim) (fun _ _ h => h)
    have t01 := o.1
    have mk := c_made (t := tSI t r 1 (nI (i + 1))) (n := nI i) (tm := s (5 + 4 * i + 1)) (tl := s (5 + 4 * i + 2)) (ft := s (5 + 4 * i + 3)) (kd5 hI hib)
    have m1 : (tSI t r 1 (nI (i + 1))).1 = t.1 := rfl
    rw [m1] at mk
    have bkm := md_bk (tSI t r 1 (nI (i + 1))) (k := i) (s := s) rfl rfl rfl rfl
    rw [m1] at bkm
    generalize hM : md (tSI t r 1 (nI (i + 1))) (s (5 + 4 * i)) (nI i) (s (5 + 4 * i + 1)) (s (5 + 4 * i + 2)) (s (5 + 4 * i + 3)) = tm at *
    have tm1 : tm.1 = t.1 + 1 := by rw [← hM]; rfl
    have rdm : Rd0 tm r := rdr.ol o1 (by omega) (fun j _ => by rw [o1.2.2.2 r (by omega) id])
    have em1 : tI tm r 1 = nI (i + 1) := by rw [oB.2.2.1 r (by show r < t.1; omega) id, tI_SI, upd_s]
    have em2 : tI tm r 2 = s 3 := by rw [oB.2.2.1 r (by show r < t.1; omega) id, tI_SI, upd_n _ _ (by decide)]; exact e2
    have em3 : tP tm r 3 = some L := by rw [o1.2.2.2 r (by omega) id]; exact e3
    have hbm : isBk (tK tm t.1) := by rw [bkm.1]; exact kK_bk _
    have o2 : Ol tm (tSP tm (r + 1) i (some t.1)) (fun _ => False) (fun q => q = r + 1) := Ol.SP _ _ _ rfl
    have o02 : Ol t0 (tSP tm (r + 1) i (some t.1)) (fun q => q = r) (fun q => q = r ∨ q = r + 1) := (o.tr2 o1 (fun _ _ h => h) (fun _ _ h => h.elim)).tr2 o2 (fun _ _ h => h.elim) (fun _ _ h => Or.inr h)
    have lawn : ∀ q, L ≤ q → q ≤ L + 8 → ¬ q = r := fun q q1 q2 => by omega
    have hL2 : LawC (tSP tm (r + 1) i (some t.1)) a r L ls s := by
      have h := (hL.ol3 (Ol.rf t0 (fun _ => False) (fun _ => False)) rfl id (fun _ _ _ => id))
      obtain ⟨l1, l2, l3, fs, cs, l4⟩ := hL
      refine ⟨by rw [tP_SPn _ _ _ _ (by omega)]; exact em3, l2.ol o02 (by omega), ?_, fs, cs, l4.congr fun j j1 j2 => ?_⟩
      · rw [o02.2.2.1 L (by omega) (by omega)]; exact l3
      · rw [o02.2.2.1 (L + j) (by omega) (by omega)]
    obtain ⟨t', s1, s2⟩ := c_settle hL2 hI (bkm.ol o2 (by omega) id) (show t.1 ≠ L by omega)
    have rep := c_replace rdm (show i < 9 by omega) hbm em3 em2 s1
    have o3 : Ol t0 t' (fun q => q = r) (fun q => q = r ∨ q = r + 1) := o02.tr2 s2.ol (fun q q1 q2 => by omega) (fun _ _ h => h.elim)
    have hP3 : tP t' r = tP tm r := by rw [(s2.1 r (by omega)).2.2.2, tP_SPn _ _ _ _ (by omega)]
    have hI3 : tI t' r = tI tm r := (s2.1 r (by omega)).2.2.1
    have pslot : tP t' (r + 1) = va_up (tP t (r + 1)) i (some t.1) := by
      rw [(s2.1 (r + 1) (by omega)).2.2.2, tP_SP, o1.2.2.2 (r + 1) (by omega) id]
    have t'1 : t'.1 = t.1 + 1 := by rw [s2.2.1]; exact tm1
    obtain ⟨n', t'', B3, w1, w⟩ := ih (i + 1) n t' (fun k => if k = i then t.1 else B2 k) (by omega) (by omega) o3 (fun j hj => by rw [hP3, o1.2.2.2 r (by omega) id]; exact hP j hj) (by rw [hI3]; exact em1) (by rw [hI3]; exact em2) (by rw [hP3]; exact em3) (fun k hk => by
      by_cases c : k = i
      · subst c
        show tP t' (r + 1) k = some (if k = k then t.1 else B2 k) ∧ t0.1 ≤ (if k = k then t.1 else B2 k) ∧ (if k = k then t.1 else B2 k) < t'.1 ∧ BkC t' (if k = k then t.1 else B2 k) k s ∧ (tI t' (if k = k then t.1 else B2 k) 5 = _ ∧ tI t' (if k = k then t.1 else B2 k) 6 = _ ∧ tI t' (if k = k then t.1 else B2 k) 7 = _)
        rw [if_pos rfl, pslot, va_up_self]
        exact ⟨rfl, o.1, by omega, s2.bk (bkm.ol o2 (by omega) id), s2.2.2.2.2.2.2⟩
      · obtain ⟨q1, q2, q3, q4, q5⟩ := hb k (by omega)
        show tP t' (r + 1) k = some (if k = i then t.1 else B2 k) ∧ t0.1 ≤ (if k = i then t.1 else B2 k) ∧ (if k = i then t.1 else B2 k) < t'.1 ∧ BkC t' (if k = i then t.1 else B2 k) k s ∧ (tI t' (if k = i then t.1 else B2 k) 5 = _ ∧ tI t' (if k = i then t.1 else B2 k) 6 = _ ∧ tI t' (if k = i then t.1 else B2 k) 7 = _)
        have oo : Ol t t' (fun q => q = r) (fun q => q = r + 1) := (o1.tr2 (X := fun q => q = r) (Y := fun _ => False) (Ol.rf tm (fun q => q = r) (fun _ => False)) (fun _ _ h => h) (fun _ _ h => h)).w (fun _ _ h => h) (fun _ _ h => h.elim) |>.tr2 o2 (fun _ _ h => h.elim) (fun _ _ h => h) |>.tr2 s2.ol (fun q x1 x2 => by omega) (fun _ _ h => h.elim)
        rw [if_neg c, pslot, va_up_ne _ _ c, oo.2.2.1 (B2 k) q3 (by omega)]
        exact ⟨q1, q2, by omega, q4.ol oo q3 (by omega), q5⟩)
    refine ⟨n', t'', B3, ?_, w⟩
    rw [← w1]
    have c9 : nI i < nI 9 := nI_lt (by omega) (by decide)
    obtain ⟨rk, r1, -, -, -, -, -, r22, -⟩ := rdr
    have km : tK tm r = 7 := rdm.1
    have bld : F_X7_build t r (s (5 + 4 * i)) (s (5 + 4 * i + 1)) (s (5 + 4 * i + 2)) (s (5 + 4 * i + 3)) = some (nI i, t') := by
      simp only [F_X7_build, rk, if_true, r1, Option.bind_some, r22.1, r22.2, e1, if_pos c9, xlet, nI_1, mk, xopt, km, rep]
    conv => lhs; unfold F_X7_copyFrom_l23
    rw [if_pos rdt.1, e1', if_neg (nI_ge hib (by omega)), by1, Option.bind_some]
    simp only [xopt]
    rw [if_pos hbk, if_pos rk, g1, g3, g4, g5, bld, Option.bind_some]
    unfold F_X7_copyFrom_j62
    simp only [xlet, nI_1]
/-- the whole copy -/
theorem c_copy {t : xT} {a r r' L : Nat} {B : Nat → Nat} {ls : yLS} {s : Nat → Int32} (hr : (r = a + 17 ∧ r' = a + 1) ∨ (r = a + 1 ∧ r' = a + 17)) (hS : SkC t a) (hI : Iv s) (hR : RdC t r' s) (hL : LawC t a r' L ls s) (hB : BgC t a r' B s) : ∃ (t' : xT) (B2 : Nat → Nat), F_X7_copyFrom t r r' = some t' ∧ Ol t t' (fun q => q = r ∨ (r + 11 ≤ q ∧ q ≤ r + 15)) (fun q => q = r ∨ q = r + 1) ∧ (∀ j, j ≠ 3 → tP t' r j = tP t r j) ∧ RdC t' r s ∧ LawC t' a r L ls s ∧ BgC t' a r B2 s ∧ StC t' B2 ls s ∧ ∀ k, k < nB s → t.1 ≤ B2 k := by
  have hl := hS.lt
  have h9 := hI.1.1
  have hLx := hL.2.1.2.2.2
  have rd0 : Rd0 t r' := by
    rcases hr with ⟨-, h⟩ | ⟨-, h⟩ <;> rw [h]
    · exact hS.2.2.2.2.2.2.2.2.2.2.2.2.1
    · exact hS.2.2.2.2.2.2.2.2.2.2.2.2.2.1
  have rdd : Rd0 t r := by
    rcases hr with ⟨h, -⟩ | ⟨h, -⟩ <;> rw [h]
    · exact hS.2.2.2.2.2.2.2.2.2.2.2.2.2.1
    · exact hS.2.2.2.2.2.2.2.2.2.2.2.2.1
  have oA : Ol t (tSP (tSI (tSI t r 1 0) r 2 (s 3)) r 3 (some L)) (fun q => q = r) (fun q => q = r ∨ q = r + 1) := Ol.tr (Ol.tr (Ol.SI _ _ _ rfl) (Ol.SI _ _ _ rfl)) (Ol.SP _ _ _ (Or.inl rfl))
  obtain ⟨n', t1, B2, w1, o1, hP1, e1, e2, e3, hb⟩ := lp_copyB hr hS hI hR.1 hL hB (nB s) 0 10 (tSP (tSI (tSI t r 1 0) r 2 (s 3)) r 3 (some L)) (fun _ => 0) (by omega) (by omega) oA (fun j hj => by rw [tP_SP, va_up_ne _ _ hj]; rfl) (by rw [tI_SP, tI_SI, upd_n _ _ (by decide), tI_SI, upd_s]; rfl) (by rw [tI_SP, tI_SI, upd_s]) (by rw [tP_SP, va_up_self]) (fun k hk => by omega)
  have rdt : Rd0 t1 r' := rd0.ol o1 (by omega) (fun j _ => by rw [o1.2.2.2 r' (by omega) (by omega)])
  have rdr : Rd0 t1 r := rdd.ol o1 (by omega) hP1
  have hR1 : RdC t1 r' s := hR.ol o1 (by omega) (fun q hq => by omega)
  have hl1 := o1.1
  obtain ⟨rk, -, f4, f5, f6, f8, f9, -, k4, k5, k6, k8, k9⟩ := rdr
  obtain ⟨sk, -, s4, s5, s6, s8, s9, -, l4, l5, l6, l8, l9⟩ := rdt
  unfold ArO at k4 k5 k6 k8 k9 l4 l5 l6 l8 l9
  obtain ⟨v1, v2, v7, v10, vp, vt⟩ := hR1
  have hrr : r ≠ r' ∧ (r + 15 < r' ∨ r' + 15 < r) := by omega
  -- the last state
  have le66 : 6 ≤ 6 ∧ 6 ≤ 6 := ⟨Nat.le_refl _, Nat.le_refl _⟩
  generalize hT1 : tSI t1 r 7 (s 1) = ta
  generalize hT2 : tSA ta (r + 11) (va_cpy (tI t1 (r' + 11)) (tI t1 (r + 11)) 0 0 6) = tb
  generalize hT3 : tSA tb (r + 12) (va_cpy (tI t1 (r' + 12)) (tI t1 (r + 12)) 0 0 6) = tc
  generalize hT4 : tSA tc (r + 13) (va_cpy (tI t1 (r' + 13)) (tI t1 (r + 13)) 0 0 6) = td
  generalize hT5 : tSI td r 10 (s 2) = te
  generalize hT6 : tSA te (r + 14) (va_cpy (tI t1 (r' + 14)) (tI t1 (r + 14)) 0 0 6) = tf
  generalize hT7 : tSA tf (r + 15) (va_cpy (tI t1 (r' + 15)) (tI t1 (r + 15)) 0 0 6) = tg
  have Ka : (∀ q, tK ta q = tK t1 q) ∧ (∀ q, tN ta q = tN t1 q) ∧ (∀ q, tP ta q = tP t1 q) ∧ (∀ q, q ≠ r → tI ta q = tI t1 q) := by rw [← hT1]; exact ⟨fun _ => rfl, fun _ => rfl, fun _ => rfl, fun q hq => tI_SIn _ _ _ _ hq⟩
  have Kb : (∀ q, tK tb q = tK t1 q) ∧ (∀ q, tN tb q = tN t1 q) ∧ (∀ q, tP tb q = tP t1 q) ∧ (∀ q, q ≠ r → q ≠ r + 11 → tI tb q = tI t1 q) := by rw [← hT2]; exact ⟨fun q => Ka.1 q, fun q => Ka.2.1 q, fun q => Ka.2.2.1 q, fun q hq h1 => (tI_SAn _ _ _ h1).trans (Ka.2.2.2 q hq)⟩
  have Kc : (∀ q, tK tc q = tK t1 q) ∧ (∀ q, tN tc q = tN t1 q) ∧ (∀ q, tP tc q = tP t1 q) ∧ (∀ q, q ≠ r → q ≠ r + 11 → q ≠ r + 12 → tI tc q = tI t1 q) := by rw [← hT3]; exact ⟨fun q => Kb.1 q, fun q => Kb.2.1 q, fun q => Kb.2.2.1 q, fun q hq h1 h2 => (tI_SAn _ _ _ h2).trans (Kb.2.2.2 q hq h1)⟩
  have Kd : (∀ q, tK td q = tK t1 q) ∧ (∀ q, tN td q = tN t1 q) ∧ (∀ q, tP td q = tP t1 q) ∧ (∀ q, q ≠ r → q ≠ r + 11 → q ≠ r + 12 → q ≠ r + 13 → tI td q = tI t1 q) := by rw [← hT4]; exact ⟨fun q => Kc.1 q, fun q => Kc.2.1 q, fun q => Kc.2.2.1 q, fun q hq h1 h2 h3 => (tI_SAn _ _ _ h3).trans (Kc.2.2.2 q hq h1 h2)⟩
  have Ke : (∀ q, tK te q = tK t1 q) ∧ (∀ q, tN te q = tN t1 q) ∧ (∀ q, tP te q = tP t1 q) ∧ (∀ q, q ≠ r → q ≠ r + 11 → q ≠ r + 12 → q ≠ r + 13 → tI te q = tI t1 q) := by rw [← hT5]; exact ⟨fun q => Kd.1 q, fun q => Kd.2.1 q, fun q => Kd.2.2.1 q, fun q hq h1 h2 h3 => (tI_SIn _ _ _ _ hq).trans (Kd.2.2.2 q hq h1 h2 h3)⟩
  have Kf : (∀ q, tK tf q = tK t1 q) ∧ (∀ q, tN tf q = tN t1 q) ∧ (∀ q, tP tf q = tP t1 q) ∧ (∀ q, q ≠ r → q ≠ r + 11 → q ≠ r + 12 → q ≠ r + 13 → q ≠ r + 14 → tI tf q = tI t1 q) := by rw [← hT6]; exact ⟨fun q => Ke.1 q, fun q => Ke.2.1 q, fun q => Ke.2.2.1 q, fun q hq h1 h2 h3 h4 => (tI_SAn _ _ _ h4).trans (Ke.2.2.2 q hq h1 h2 h3)⟩
  have run : F_X7_copyFrom_l23 (n' + 1) t1 r r' (nI (nB s)) = some tg := by
    have e1' : tI t1 r' 1 = nI (nB s) := v1.trans hI.1.2
    unfold F_X7_copyFrom_l23
    rw [if_pos sk, e1', if_pos (nI_le (Nat.le_refl _) (by omega)), if_pos rk]
    simp only [xlet, v7, hT1, Ka.2.2.1, Ka.1, Ka.2.1, s4, f4, Option.bind_some, l4.1, k4.1, l4.2, k4.2, if_true, if_pos le66, Ka.2.2.2 (r' + 11) (by omega), Ka.2.2.2 (r + 11) (by omega), hT2, Kb.2.2.1, Kb.1, Kb.2.1, s5, f5, l5.1, k5.1, l5.2, k5.2, Kb.2.2.2 (r' + 12) (by omega) (by omega), Kb.2.2.2 (r + 12) (by omega) (by omega), hT3, Kc.2.2.1, Kc.1, Kc.2.1, s6, f6, l6.1, k6.1, l6.2, k6.2, Kc.2.2.2 (r' + 13) (by omega) (by omega) (by omega), Kc.2.2.2 (r + 13) (by omega) (by omega) (by omega), hT4, Kd.2.2.2 r' (by omega) (by omega) (by omega) (by omega), v10, hT5, Ke.2.2.1, Ke.1, Ke.2.1, s8, f8, l8.1, k8.1, l8.2, k8.2, Ke.2.2.2 (r' + 14) (by omega) (by omega) (by omega) (by omega), Ke.2.2.2 (r + 14) (by omega) (by omega) (by omega) (by omega), hT6, Kf.2.2.1, Kf.1, Kf.2.1, s9, f9, l9.1, k9.1, l9.2, k9.2, Kf.2.2.2 (r' + 15) (by omega) (by omega) (by omega) (by omega) (by omega), Kf.2.2.2 (r + 15) (by omega) (by omega) (by omega) (by omega) (by omega), hT7]
  have o2 : Ol t1 tg (fun q => q = r ∨ (r + 11 ≤ q ∧ q ≤ r + 15)) (fun _ => False) := by
    rw [← hT7, ← hT6, ← hT5, ← hT4, ← hT3, ← hT2, ← hT1]
    exact Ol.tr (Ol.tr (Ol.tr (Ol.tr (Ol.tr (Ol.tr (Ol.SI _ _ _ (by omega)) (Ol.SA _ _ (by omega))) (Ol.SA _ _ (by omega))) (Ol.SA _ _ (by omega))) (Ol.SI _ _ _ (by omega))) (Ol.SA _ _ (by omega))) (Ol.SA _ _ (by omega))
  have o3 : Ol t tg (fun q => q = r ∨ (r + 11 ≤ q ∧ q ≤ r + 15)) (fun q => q = r ∨ q = r + 1) := (o1.w (fun _ _ h => Or.inl h) (fun _ _ h => h)).tr2 o2 (fun _ _ h => h) (fun _ _ h => h.elim)
  have Pg : ∀ q, tP tg q = tP t1 q := fun q => by rw [← hT7]; exact Kf.2.2.1 q
  refine ⟨tg, B2, ?_, o3, fun j hj => by rw [Pg]; exact hP1 j hj, ?_, ?_, ?_, ?_, fun k hk => (hb k hk).2.1⟩
  · have a1 : tK (tSI t r 1 0) r' = 7 := rd0.1
    have a2 : tI (tSI t r 1 0) r' 2 = s 3 := by rw [tI_SIn _ _ _ _ (by omega)]; exact hR.2.1
    have a3 : tP (tSI (tSI t r 1 0) r 2 (s 3)) r' 3 = some L := hL.1
    unfold F_X7_copyFrom
    simp only [xlet]
    rw [if_pos rdd.1, if_pos a1, a2, a3, Option.bind_some]
    show F_X7_copyFrom_l23 10 _ r r' (nI 0) = _
    rw [w1, run]
  · have gr : tI tg r = upd (upd (tI t1 r) 7 (s 1)) 10 (s 2) := by
      rw [← hT7, tI_SAn _ _ _ (by omega), ← hT6, tI_SAn _ _ _ (by omega), ← hT5, tI_SI, ← hT4, tI_SAn _ _ _ (by omega), ← hT3, tI_SAn _ _ _ (by omega), ← hT2, tI_SAn _ _ _ (by omega), ← hT1, tI_SI]
    have g11 : tI tg (r + 11) = va_cpy (tI t1 (r' + 11)) (tI t1 (r + 11)) 0 0 6 := by
      rw [← hT7, tI_SAn _ _ _ (by omega), ← hT6, tI_SAn _ _ _ (by omega), ← hT5, tI_SIn _ _ _ _ (by omega), ← hT4, tI_SAn _ _ _ (by omega), ← hT3, tI_SAn _ _ _ (by omega), ← hT2, tI_SA]
    have g12 : tI tg (r + 12) = va_cpy (tI t1 (r' + 12)) (tI t1 (r + 12)) 0 0 6 := by
      rw [← hT7, tI_SAn _ _ _ (by omega), ← hT6, tI_SAn _ _ _ (by omega), ← hT5, tI_SIn _ _ _ _ (by omega), ← hT4, tI_SAn _ _ _ (by omega), ← hT3, tI_SA]
    have g13 : tI tg (r + 13) = va_cpy (tI t1 (r' + 13)) (tI t1 (r + 13)) 0 0 6 := by
      rw [← hT7, tI_SAn _ _ _ (by omega), ← hT6, tI_SAn _ _ _ (by omega), ← hT5, tI_SIn _ _ _ _ (by omega), ← hT4, tI_SA]
    have g14 : tI tg (r + 14) = va_cpy (tI t1 (r' + 14)) (tI t1 (r + 14)) 0 0 6 := by
      rw [← hT7, tI_SAn _ _ _ (by omega), ← hT6, tI_SA]
    have g15 : tI tg (r + 15) = va_cpy (tI t1 (r' + 15)) (tI t1 (r + 15)) 0 0 6 := by rw [← hT7, tI_SA]
    have cp : ∀ (f g : Nat → Int32) (j : Nat), j < 6 → va_cpy f g 0 0 6 j = f j := fun f g j hj => by
      unfold va_cpy
      rw [if_pos ⟨Nat.zero_le _, by omega⟩, Nat.sub_zero, Nat.zero_add]
    unfold RdC
    rw [gr, g11, g12, g13, g14, g15]
    refine ⟨?_, ?_, ?_, upd_s _ _ _, fun p hp => ?_, fun j hj => ?_⟩
    · rw [upd_n _ _ (by decide), upd_n _ _ (by decide)]; exact e1
    · rw [upd_n _ _ (by decide), upd_n _ _ (by decide)]; exact e2
    · rw [upd_n _ _ (by decide), upd_s]
    · rw [cp _ _ p hp, cp _ _ p hp, cp _ _ p hp]; exact vp p hp
    · rw [cp _ _ j hj, cp _ _ j hj]; exact vt j hj
  · obtain ⟨m1, m2, m3, fs, cs, m4⟩ := hL
    refine ⟨by rw [Pg]; exact e3, m2.ol o3 (by omega), ?_, fs, cs, m4.congr fun j j1 j2 => ?_⟩
    · rw [o3.2.2.1 L (by omega) (by omega)]; exact m3
    · rw [o3.2.2.1 (L + j) (by omega) (by omega)]
  · intro k hk
    obtain ⟨q1, q2, q3, q4, -⟩ := hb k hk
    exact ⟨by rw [Pg]; exact q1, by omega, Nat.lt_of_lt_of_le q3 o2.1, q4.ol o2 q3 (by omega)⟩
  · intro k hk
    obtain ⟨q1, q2, q3, q4, q5⟩ := hb k hk
    rw [o2.2.2.1 (B2 k) q3 (by omega)]; exact q5
theorem lp_keep : ∀ m i n u, i + m = 303 → m < n → ∃ u', F_X12_keep_l2 n u (nI i) = some (1, u') ∧ (∀ j, j < 303 → u'.2.1 1 j = if i ≤ j then u.2.1 0 j else u.2.1 1 j) ∧ Cr u' = Cr (fun j => if j = 3 then 1 else u.1 j, fun j => if j = 1 then u'.2.1 1 else u.2.1 j, u.2.2)
  | _, _, 0, _, _, h => absurd h (Nat.not_lt_zero _)
  | 0, i, n + 1, u, hi, _ => by
    have hi : i = 303 := by omega
    subst hi
    refine ⟨mS u 3 1, ?_, fun j hj => by rw [if_neg (by omega)]; rfl, rfl⟩
    unfold F_X12_keep_l2
    simp only [xlet]
    rw [if_pos (show (303 : Int32) ≤ nI 303 by decide)]
  | m + 1, i, n + 1, u, hi, hm => by
    have ix : xIn (nI i) 303 := n_xIn (by omega) (by decide)
    have ec : (nI i).toNatClampNeg = i := n_cl (by omega)
    obtain ⟨u', h1, h2, h3⟩ := lp_keep m (i + 1) n (mA u 1 i (u.2.1 0 i)) (by omega) (by omega)
    have e1 : ∀ j, (mA u 1 i (u.2.1 0 i)).2.1 1 j = upd (u.2.1 1) i (u.2.1 0 i) j := fun _ => rfl
    refine ⟨u', ?_, fun j hj => ?_, h3.trans rfl⟩
    · unfold F_X12_keep_l2
      simp only [xlet]
      rw [if_neg (show ¬ (303 : Int32) ≤ nI i from nI_ge (a := i) (b := 303) (by omega) (by decide)), if_pos ix, if_pos ix, nI_1, ec]
      exact h1
    · rw [h2 j hj, e1, upd2]
      show (if i + 1 ≤ j then u.2.1 0 j else _) = _
      by_cases c : j = i
      · subst c; rw [if_neg (by omega), if_pos rfl, if_pos (Nat.le_refl _)]
      · by_cases d : i + 1 ≤ j
        · rw [if_pos d, if_pos (by omega)]
        · rw [if_neg d, if_neg c, if_neg (by omega)]
theorem lp_again : ∀ m i n u, i + m = 303 → m < n → ∃ u', F_X12_again_l12 n u (nI i) = some (u'.2.1 0 0, u') ∧ (∀ j, j < 303 → u'.2.1 0 j = if i ≤ j then u.2.1 1 j else u.2.1 0 j) ∧ Cr u' = Cr (u.1, fun j => if j = 0 then u'.2.1 0 else u.2.1 j, u.2.2)
  | _, _, 0, _, _, h => absurd h (Nat.not_lt_zero _)
  | 0, i, n + 1, u, hi, _ => by
    have hi : i = 303 := by omega
    subst hi
    refine ⟨u, ?_, fun j hj => by rw [if_neg (by omega)], rfl⟩
    unfold F_X12_again_l12
    rw [if_pos (show (303 : Int32) ≤ nI 303 by decide), if_pos xi0, cl0]
  | m + 1, i, n + 1, u, hi, hm => by
    have ix : xIn (nI i) 303 := n_xIn (by omega) (by decide)
    have ec : (nI i).toNatClampNeg = i := n_cl (by omega)
    obtain ⟨u', h1, h2, h3⟩ := lp_again m (i + 1) n (mA u 0 i (u.2.1 1 i)) (by omega) (by omega)
    have e1 : ∀ j, (mA u 0 i (u.2.1 1 i)).2.1 0 j = upd (u.2.1 0) i (u.2.1 1 i) j := fun _ => rfl
    refine ⟨u', ?_, fun j hj => ?_, h3.trans rfl⟩
    · unfold F_X12_again_l12
      simp only [xlet]
      rw [if_neg (show ¬ (303 : Int32) ≤ nI i from nI_ge (a := i) (b := 303) (by omega) (by decide)), if_pos ix, if_pos ix, nI_1, ec]
      exact h1
    · rw [h2 j hj, e1, upd2]
      show (if i + 1 ≤ j then u.2.1 1 j else _) = _
      by_cases c : j = i
      · subst c; rw [if_neg (by omega), if_pos rfl, if_pos (Nat.le_refl _)]
      · by_cases d : i + 1 ≤ j
        · rw [if_pos d, if_pos (by omega)]
        · rw [if_neg d, if_neg c, if_neg (by omega)]
theorem st_again : sT_again RR := by
  intro t a u hR0
  have hR := hR0
  obtain ⟨B, B', L, L', ls, ls', hS, hN, hkp, hK, hTp, hRw, hSh, hSf, hTr⟩ := hR0
  obtain ⟨hI, hRd, hLw, hBg, hSt⟩ := hN
  have hl := hS.lt
  by_cases c : u.1 3 = 0
  · exact ⟨-3, t, u, by simp only [F_X11_again, hS.1, if_true, hkp, if_pos c], by simp only [F_X12_again, if_pos c], hR⟩
  obtain ⟨kI, kR, kL, kB, kD⟩ := hK c
  obtain ⟨t', B2, h1, o, hP, r1, r2, r3, r4, r5⟩ := c_copy (r := a + 1) (Or.inr ⟨rfl, rfl⟩) hS kI kR kL kB
  obtain ⟨u', g1, g2, g3⟩ := lp_again 303 0 xFuel u rfl (xF_big (by omega))
  have e3 : E3 (u.2.1 1) (u'.2.1 0) := fun j hj => by rw [g2 j hj, if_pos (Nat.zero_le _)]
  have n8 := kI.2.2.2.1.1
  have b9 := kI.1.1
  have k1' : tK t' (a + 1) = 7 := by rw [(o.2.1 (a + 1) (by omega)).1]; exact hS.2.2.2.2.2.2.2.2.2.2.2.2.1.1
  have R' : RR t' a u' := RR.nowE (B := B) (B' := B') (B2 := B2) (L' := L') (L2 := L') (ls' := ls') (ls2 := ls') hS hkp hTp hRw hSh hSf hTr hBg o (fun q _ hq => by omega) (fun q _ hq => by omega) hP ⟨e3.iv kI, e3.rd r1, e3.law n8 r2, e3.bg b9 r3, e3.st n8 b9 r4⟩ hK (fun _ j k hj hk => by
    rw [e3.n.1] at hj
    have := r5 j hj
    have := (kB k hk).2.2.1
    omega) g3
  refine ⟨u'.2.1 0 0, t', u', ?_, ?_, R'⟩
  · have hS' := R'.more.1
    have e1 : tI t' (a + 1) 1 = u'.2.1 0 0 := (e3.rd r1).1
    simp only [F_X11_again, hS.1, if_true, hkp, if_neg c, hS.2.1, hS.2.2.1, Option.bind_some, hS.2.2.2.2.2.2.2.2.2.2.2.2.1.1, h1, hS'.1, hS'.2.1, k1', e1]
  · unfold F_X12_again
    rw [if_neg c]; exact g1
theorem st_keep : sT_keep RR := by
  intro t a u hR0
  obtain ⟨B, B', L, L', ls, ls', hS, hN, hkp, hK, hTp, hRw, hSh, hSf, hTr⟩ := hR0
  obtain ⟨hI, hRd, hLw, hBg, hSt⟩ := hN
  have hl := hS.lt
  obtain ⟨t1, B2, h1, o, hP, r1, r2, r3, r4, r5⟩ := c_copy (r := a + 17) (Or.inl ⟨rfl, rfl⟩) hS hI hRd hLw hBg
  obtain ⟨u', g1, g2, g3⟩ := lp_keep 303 0 xFuel u rfl (xF_big (by omega))
  have e3 : E3 (u.2.1 0) (u'.2.1 1) := fun j hj => by rw [g2 j hj, if_pos (Nat.zero_le _)]
  obtain ⟨e0, -, e15, e17, e25, e26, e27, e28, e29, e30, e31, f3, f16, f18, f32⟩ := Cr_e g3
  have f3 : u'.1 3 = 1 := f3
  have n8 := hI.2.2.2.1.1
  have b9 := hI.1.1
  have o2 : Ol t (tSI t1 a 2 1) (fun q => q = a ∨ q = a + 17 ∨ (a + 28 ≤ q ∧ q ≤ a + 32)) (fun q => q = a + 17 ∨ q = a + 18) := (o.w (fun q _ h => by omega) (fun q _ h => by omega)).tr2 (Ol.SI (X := fun q => q = a) (Y := fun _ => False) _ _ _ rfl) (fun q _ h => Or.inl h) (fun _ _ h => h.elim)
  have o3 : Ol t1 (tSI t1 a 2 1) (fun q => q = a) (fun _ => False) := Ol.SI _ _ _ rfl
  have t1l := o.1
  have ea : ∀ i, i ≠ 2 → tI (tSI t1 a 2 1) a i = tI t a i := fun i hi => by rw [tI_SI, upd_n _ _ hi, o.2.2.1 a (by omega) (by omega)]
  have hLx := hLw.2.1.at
  have hLy := hLw.2.1.2.2.2.2
  refine ⟨1, tSI t1 a 2 1, u', ?_, g1, B, B2, L, L, ls, ls, hS.ol3 o2 (o2.2.2.2 a (by omega) (by omega)) (o2.2.2.2 _ (by omega) (by omega)) (fun j _ => by rw [o2.2.2.2 (a + 1) (by omega) (by omega)]) (fun j hj => by show tP t1 (a + 17) j = _; exact hP j hj), ?_, ?_, ?_, ?_, ?_, ?_, ?_, ?_⟩
  · have k1' : tK t1 a = 11 := by rw [(o.2.1 a (by omega)).1]; exact hS.1
    simp only [F_X11_keep, hS.1, if_true, hS.2.1, hS.2.2.1, Option.bind_some, hS.2.2.2.2.2.2.2.2.2.2.2.2.2.1.1, h1, k1', xlet]
  · rw [e0]
    refine ⟨hI, hRd.ol o2 (by omega) (fun q hq => by omega), hLw.ol3 o2 (by rw [o2.2.2.2 (a + 1) (by omega) (by omega)]) (by omega) (fun q q1 q2 => by omega), hBg.ol o2 (by omega) (by omega) (fun k hk => by have := (hBg k hk).2.1; omega), hSt.ol o2 (fun k hk => (hBg k hk).2.2.1) (fun k hk => by have := (hBg k hk).2.1; omega)⟩
  · rw [tI_SI, upd_s, f3]
  · intro _
    rw [e0]
    have R1 := r1.ol o3 (by omega) (fun q hq => by omega)
    have L1 := r2.ol3 o3 rfl id (fun q q1 q2 => by omega)
    have B1 := r3.ol o3 (by omega) id (fun k hk => by have := (r3 k hk).2.1; omega)
    refine ⟨e3.iv hI, e3.rd R1, e3.law n8 L1, e3.bg b9 B1, fun j k hj hk => ?_⟩
    rw [e3.n.1] at hk
    have := r5 k hk
    have := (hBg j hj).2.2.1
    omega
  · exact hTp.ol o2 hl (ea 4 (by decide)) (by omega) e17 f18
  · exact hRw.ol o2 hl (ea 6 (by decide)) (by omega) e15 f16
  · exact hSh.ol o2 hl (by omega) (fun r hr => by have := hr.1; exact ⟨by omega, by omega, by omega⟩) e25 e26 e27
  · exact hSf.ol o2 hl (by omega) (by omega) (fun r hr => by have := hr.1; exact ⟨by omega, by omega⟩) e28 e29 e30
  · exact hTr.ol o2 hl (by omega) (by omega) e31 f32
