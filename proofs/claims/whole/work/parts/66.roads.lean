/-! ===== pure mathematics 45: a new road's constructor ===== -/
def Ro (t0 t : xT) (r : Nat) : Prop := t.1 = r + 16 ∧ (∀ q, q < r → tK t q = tK t0 q ∧ tN t q = tN t0 q ∧ tI t q = tI t0 q ∧ tP t q = tP t0 q) ∧ Rd0 t r ∧ tP t r 3 = some (r + 2) ∧ (tI t r 1 = 0 ∧ tI t r 2 = 0 ∧ tI t r 7 = 0 ∧ tI t r 10 = 0) ∧ (∀ x, 11 ≤ x → x ≤ 15 → ∀ j, tI t (r + x) j = 0) ∧ tK t (r + 2) = 2 ∧ tI t (r + 2) 0 = 0 ∧ ∀ j, 1 ≤ j → j ≤ 8 → tP t (r + 2) j = some (r + 2 + j) ∧ ArO t (r + 2 + j) (if j ≤ 5 then 8 else 100)
theorem xletP {α : Type} (P : Option xT → Prop) (e : α) (k : α → Option xT) (h : P (k e)) : P (xlet e k) := h
theorem c_road0 {t : xT} {r : Nat} (h1 : t.1 = r + 1) (hk : tK t r = 7) : ∃ t', F_X7_init t r = some t' ∧ Ro t t' r := by
  let P : Option xT → Prop := fun o => ∃ t', o = some t' ∧ Ro t t' r
  show P (F_X7_init t r)
  unfold F_X7_init
  have b0 : Bo t t r 0 := ⟨by omega, fun _ _ => ⟨rfl, rfl, rfl, rfl⟩, rfl⟩
  refine arrG P 22 9 0 (by omega) hk _ (fun ta wa => ?_)
  have ba := (b0.nw wa).si 1 0 |>.si 2 0
  have o1 : Ob (tSI (tSI ta r 1 0) r 2 0) (r + 1) 22 9 := ((h1 ▸ Ob.new wa).si (by omega)).si (by omega)
  have p0 : tP (tSI (tSI ta r 1 0) r 2 0) r 0 = some (r + 1) := wa.f h1
  have i1 : tI (tSI (tSI ta r 1 0) r 2 0) r 1 = 0 := by rw [tI_SI, upd_n _ _ (by decide), tI_SI, upd_s]
  have i2 : tI (tSI (tSI ta r 1 0) r 2 0) r 2 = 0 := by rw [tI_SI, upd_s]
  refine setG P r 1 0 _ ?_
  refine setG P r 2 0 _ ?_
  generalize tSI (tSI ta r 1 0) r 2 0 = tb at *
  obtain ⟨bb1, bb2, bb3⟩ := ba
  have eb : tb.1 = r + 2 := by omega
  obtain ⟨tc, l1, ⟨a1, a2, a3, a4, a5⟩, -⟩ := c_law0 (t := tNew tb 2 0) (L := tb.1) rfl (tK_N tb 2 0)
  have lowc : ∀ q, q < tb.1 → tK tc q = tK tb q ∧ tN tc q = tN tb q ∧ tI tc q = tI tb q ∧ tP tc q = tP tb q := fun q hq => by
    obtain ⟨g1, g2, g3, g4⟩ := a5 q hq
    have nq : q ≠ tb.1 := by omega
    exact ⟨g1.trans (tK_Nn tb 2 0 nq), g2.trans (tN_Nn tb 2 0 nq), g3.trans (tI_Nn tb 2 0 nq), g4.trans (tP_Nn tb 2 0 nq)⟩
  rw [eb] at a1 a2 a3 a4 lowc
  have kc : tK tc r = 7 := (lowc r (by omega)).1.trans (bb3.trans hk)
  show P ((F_X2_init (tNew tb 2 0) tb.1).bind _)
  rw [l1, Option.bind_some, if_pos kc, eb]
  have P3 : tP (tSP tc r 3 (some (r + 2))) r 3 = some (r + 2) := by rw [tP_SP, va_up_self]
  have P0 : tP (tSP tc r 3 (some (r + 2))) r 0 = some (r + 1) := by rw [tP_SP, va_up_ne _ _ (by decide), (lowc r (by omega)).2.2.2]; exact p0
  have I1 : tI (tSP tc r 3 (some (r + 2))) r 1 = 0 := by show tI tc r 1 = 0; rw [(lowc r (by omega)).2.2.1]; exact i1
  have I2 : tI (tSP tc r 3 (some (r + 2))) r 2 = 0 := by show tI tc r 2 = 0; rw [(lowc r (by omega)).2.2.1]; exact i2
  have O1 : Ob (tSP tc r 3 (some (r + 2))) (r + 1) 22 9 := by
    obtain ⟨g1, g2, g3, -⟩ := lowc (r + 1) (by omega)
    exact ⟨g1.trans o1.1, g2.trans o1.2.1, fun j => by show tI tc (r + 1) j = 0; rw [g3]; exact o1.2.2 j⟩
  have Lw : ∀ j, 1 ≤ j → j ≤ 8 → tP (tSP tc r 3 (some (r + 2))) (r + 2) j = some (r + 2 + j) ∧ ArO (tSP tc r 3 (some (r + 2))) (r + 2 + j) (if j ≤ 5 then 8 else 100) := fun j j1 j2 => by
    rw [tP_SPn _ _ _ _ (by omega)]; exact a4 j j1 j2
  have low : ∀ q, q < r → tK (tSP tc r 3 (some (r + 2))) q = tK t q ∧ tN (tSP tc r 3 (some (r + 2))) q = tN t q ∧ tI (tSP tc r 3 (some (r + 2))) q = tI t q ∧ tP (tSP tc r 3 (some (r + 2))) q = tP t q := fun q hq => by
    obtain ⟨g1, g2, g3, g4⟩ := lowc q (by omega)
    obtain ⟨v1, v2, v3, v4⟩ := bb2 q hq
    exact ⟨g1.trans v1, g2.trans v2, g3.trans v3, (tP_SPn _ _ _ _ (by omega)).trans (g4.trans v4)⟩
  have T1 : (tSP tc r 3 (some (r + 2))).1 = r + 1 + 10 := by show tc.1 = _; omega
  have K2 : tK (tSP tc r 3 (some (r + 2))) (r + 2) = 2 := a2
  have Z2 : tI (tSP tc r 3 (some (r + 2))) (r + 2) 0 = 0 := a3
  have Kr : tK (tSP tc r 3 (some (r + 2))) r = 7 := kc
  refine xletP P (tSP tc r 3 (some (r + 2))) _ ?_
  generalize tSP tc r 3 (some (r + 2)) = td at *
  refine arrG P 20 6 4 (by omega) Kr _ (fun te we => ?_)
  have e1 : te.1 = r + 12 := by have := we.1; omega
  refine arrG P 20 6 5 (by omega) ((we.2.1 r (by omega)).1.trans Kr) _ (fun tf wf => ?_)
  have f1 : tf.1 = r + 13 := by have := wf.1; omega
  have Kf : tK tf r = 7 := (wf.2.1 r (by omega)).1.trans ((we.2.1 r (by omega)).1.trans Kr)
  refine arrG P 20 6 6 (by omega) Kf _ (fun tg wg => ?_)
  have g1 : tg.1 = r + 14 := by have := wg.1; omega
  have Kg : tK tg r = 7 := (wg.2.1 r (by omega)).1.trans Kf
  refine setG P r 7 0 _ ?_
  have hi7 : tI (tSI tg r 7 0) r 7 = 0 := by rw [tI_SI, upd_s]
  refine arrG (t := tSI tg r 7 0) P 20 6 8 (show r < tg.1 by omega) Kg _ (fun th wh => ?_)
  have h1' : th.1 = r + 15 := by have := wh.1; show _ = _; have e : (tSI tg r 7 0).1 = tg.1 := rfl; omega
  have Kh : tK th r = 7 := (wh.2.1 r (by show r ≠ tg.1; omega)).1.trans Kg
  refine arrG P 20 6 9 (by omega) Kh _ (fun ti wi => ?_)
  have i1' : ti.1 = r + 16 := by have := wi.1; omega
  have e11 : td.1 = r + 11 := by omega
  have tg7 : (tSI tg r 7 0).1 = r + 14 := g1
  refine setG P r 10 0 _ ?_
  have chain : ∀ j v, j ≠ 4 → j ≠ 5 → j ≠ 6 → j ≠ 8 → j ≠ 9 → tP td r j = v → tP ti r j = v := fun j v a b c d e h => wi.p (wh.p (wg.p (wf.p (we.p h a) b) c) d) e
  have q4 : tP ti r 4 = some (r + 11) := wi.p (wh.p (wg.p (wf.p (we.f e11) (by decide)) (by decide)) (by decide)) (by decide)
  have q5 : tP ti r 5 = some (r + 12) := wi.p (wh.p (wg.p (wf.f e1) (by decide)) (by decide)) (by decide)
  have q6 : tP ti r 6 = some (r + 13) := wi.p (wh.p (wg.f f1) (by decide)) (by decide)
  have q8 : tP ti r 8 = some (r + 14) := wi.p (wh.f tg7) (by decide)
  have q9 : tP ti r 9 = some (r + 15) := wi.f h1'
  -- what lies there stays
  have keep : ∀ q, q ≠ r → q < r + 11 → tK ti q = tK td q ∧ tN ti q = tN td q ∧ tI ti q = tI td q ∧ tP ti q = tP td q := fun q hr hq => by
    obtain ⟨x1, x2, x3⟩ := we.2.1 q (by omega)
    obtain ⟨y1, y2, y3⟩ := wf.2.1 q (by omega)
    obtain ⟨z1, z2, z3⟩ := wg.2.1 q (by omega)
    obtain ⟨v1, v2, v3⟩ := wh.2.1 q (by omega)
    obtain ⟨w1, w2, w3⟩ := wi.2.1 q (by omega)
    have p1 := we.2.2.2.2.2.2.1 q (by omega) hr
    have p2 := wf.2.2.2.2.2.2.1 q (by omega) hr
    have p3 := wg.2.2.2.2.2.2.1 q (by omega) hr
    have p4 := wh.2.2.2.2.2.2.1 q (by omega) hr
    have p5 := wi.2.2.2.2.2.2.1 q (by omega) hr
    exact ⟨w1.trans (v1.trans (z1.trans (y1.trans x1))), w2.trans (v2.trans (z2.trans (y2.trans x2))), w3.trans (v3.trans ((tI_SIn _ _ _ _ hr).trans (z3.trans (y3.trans x3)))), p5.trans (p4.trans (p3.trans (p2.trans p1)))⟩
  have b11 : Ob ti (r + 11) 20 6 := (((((e11 ▸ Ob.new we).nw wf (by omega)).nw wg (by omega)).si (by omega)).nw wh (by omega)).nw wi (by omega)
  have b12 : Ob ti (r + 12) 20 6 := ((((e1 ▸ Ob.new wf).nw wg (by omega)).si (by omega)).nw wh (by omega)).nw wi (by omega)
  have b13 : Ob ti (r + 13) 20 6 := (((f1 ▸ Ob.new wg).si (by omega)).nw wh (by omega)).nw wi (by omega)
  have b14 : Ob ti (r + 14) 20 6 := (tg7 ▸ Ob.new wh).nw wi (by omega)
  have b15 : Ob ti (r + 15) 20 6 := h1' ▸ Ob.new wi
  have ri : ∀ j, j ≠ 7 → tI td r j = 0 → tI ti r j = 0 := fun j hj h => wi.i (by omega) (wh.i (by omega) (by rw [tI_SI, upd_n _ _ hj]; exact wg.i (by omega) (wf.i (by omega) (we.i (by omega) h))))
  have r7 : tI ti r 7 = 0 := wi.i (by omega) (wh.i (by omega) hi7)
  have kt : tK ti r = 7 := ((wi.2.1 r (by omega)).1.trans Kh)
  have N1 := keep (r + 1) (by omega) (by omega)
  have N2 := keep (r + 2) (by omega) (by omega)
  have sI : ∀ q, q ≠ r → tI (tSI ti r 10 0) q = tI ti q := fun q hq => tI_SIn _ _ _ _ hq
  refine ⟨tSI ti r 10 0, rfl, i1', fun q hq => ?_, ⟨kt, chain 0 _ (by decide) (by decide) (by decide) (by decide) (by decide) P0, q4, q5, q6, q8, q9, ⟨N1.1.trans O1.1, N1.2.1.trans O1.2.1⟩, ⟨b11.1, b11.2.1⟩, ⟨b12.1, b12.2.1⟩, ⟨b13.1, b13.2.1⟩, ⟨b14.1, b14.2.1⟩, ⟨b15.1, b15.2.1⟩⟩, chain 3 _ (by decide) (by decide) (by decide) (by decide) (by decide) P3, ⟨?_, ?_, ?_, ?_⟩, fun x x1 x2 j => ?_, N2.1.trans K2, ?_, fun j j1 j2 => ?_⟩
  · obtain ⟨v1, v2, v3, v4⟩ := keep q (by omega) (by omega)
    obtain ⟨u1, u2, u3, u4⟩ := low q hq
    exact ⟨v1.trans u1, v2.trans u2, (sI q (by omega)).trans (v3.trans u3), v4.trans u4⟩
  · rw [tI_SI, upd_n _ _ (by decide)]; exact ri 1 (by decide) I1
  · rw [tI_SI, upd_n _ _ (by decide)]; exact ri 2 (by decide) I2
  · rw [tI_SI, upd_n _ _ (by decide)]; exact r7
  · rw [tI_SI, upd_s]
  · rw [sI _ (by omega)]
    rcases (show x = 11 ∨ x = 12 ∨ x = 13 ∨ x = 14 ∨ x = 15 by omega) with e | e | e | e | e <;> subst e
    · exact b11.2.2 j
    · exact b12.2.2 j
    · exact b13.2.2 j
    · exact b14.2.2 j
    · exact b15.2.2 j
  · rw [sI _ (by omega), N2.2.2.1]; exact Z2
  · obtain ⟨g1, g2⟩ := Lw j j1 j2
    have K := keep (r + 2 + j) (by omega) (by omega)
    exact ⟨(congrFun N2.2.2.2 j).trans g1, K.1.trans g2.1, K.2.1.trans g2.2⟩
