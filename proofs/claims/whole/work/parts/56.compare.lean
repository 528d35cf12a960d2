/-! ===== pure mathematics 35: a comparison ===== -/
theorem Tk.u {t : xT} {u u' : xS} {N q n st en : Nat} {T : Nat → Int32} (h : Tk t u N q T n st en) (h17 : u'.2.1 17 = u.2.1 17) (h1 : ∀ j, j = 18 ∨ j = 19 ∨ j = 20 → u'.1 j = u.1 j) : Tk t u' N q T n st en := by
  obtain ⟨g1, g2, g3, g4, g5, g6, g7, g8⟩ := h
  exact ⟨g1, ⟨(h1 18 (by omega)).trans g2.1, h17.trans g2.2⟩, g3, g4, g5, g6, (h1 19 (by omega)).trans g7, (h1 20 (by omega)).trans g8⟩
theorem Tk.t {t t' : xT} {u : xS} {N q n st en f0 : Nat} {T : Nat → Int32} (h : Tk t u N q T n st en) (k : Ck N f0 t t') (hq : q < N) (hN : tI t' N = tI t N) : Tk t' u N q T n st en := by
  obtain ⟨⟨g1, g2, g3, g4, g5, g6, g7, g8⟩, a2, a3, a4, a5, a6, a7, a8⟩ := h
  obtain ⟨k1, k2, k3, k4, k5, -⟩ := k
  have eK : ∀ x, tK t' x = tK t x := fun x => congrFun k2 x
  have eN : ∀ x, tN t' x = tN t x := fun x => congrFun k3 x
  have eP : ∀ x, tP t' x = tP t x := fun x => congrFun k4 x
  refine ⟨⟨(eK N).trans g1, ?_, (eK q).trans g3, (eN q).trans g4, ?_, ?_, g7, g8⟩, a2, a3, ?_, ?_, ?_, a7, a8⟩
  · rw [eP]; exact g2
  · rw [k5 q (by omega) (by omega) (by omega) (by omega) (by omega)]; exact g5
  · rw [hN]; exact g6
  · rw [hN]; exact a4
  · rw [hN]; exact a5
  · rw [hN]; exact a6
theorem Tk.fp {t : xT} {u : xS} {N q n st en : Nat} {T : Nat → Int32} (h : Tk t u N q T n st en) (h0 : u.1 24 ≠ 0) : Fp u T n st en := by
  obtain ⟨g1, g2, ⟨g3, g3', -⟩, g4, g5, g6, g7, g8⟩ := h
  have hn : n ≤ 200 := g1.2.2.2.2.2.2.1
  exact ⟨h0, g2, hn, g3, by omega, g7, g8⟩
theorem BdC.rk {t t' : xT} {N f0 : Nat} {cur : List yX} (h : BdC t (N + 1) f0 cur) (k : Rk N t t') : BdC t' (N + 1) f0 cur := by
  obtain ⟨-, -, -, -, k5, -⟩ := k
  unfold BdC at h ⊢
  rw [k5 (N + 1) (by omega), k5 (N + 1 + 6) (by omega), k5 (N + 1 + 7) (by omega), k5 (N + 1 + 8) (by omega)]
  exact h
theorem BdR.u {u u' : xS} {c0 : Nat} {cs : List Int32} (h : BdR u c0 cs) (h0 : u'.2.1 0 = u.2.1 0) (h23 : u'.1 23 = u.1 23) : BdR u' c0 cs := by
  unfold BdR at h ⊢
  rw [h0, h23]; exact h
theorem Si.next {t : xT} {u : xS} {N q a n st en f0 c0 o : Nat} {T : Nat → Int32} {cur : List yX} (h : Si t u N q a T n st en f0 c0 o cur) : ∃ t' u' st' en', F_X3_next t N = some t' ∧ F_X12_token u = some u' ∧ en ≤ st' ∧ Si t' u' N q a T n st' en' f0 c0 o cur ∧ Rk N t t' ∧ Uk u u' := by
  obtain ⟨⟨g1, g2, g3, g4, g5, g6, g7, g8⟩, s2, s3, s4, s5, s6, s7, s8, s9⟩ := h
  obtain ⟨t', u', st', en', r1, r2, r3, r4, r5, r6⟩ := tk g1 g2 g5 g8 g3.2.1
  have := g3.1
  refine ⟨t', u', st', en', r1, r2, r3, ⟨r4, s2.ck (f0 := f0) r5.ck, ?_, (r6.2 24 (by decide) (by decide)).trans s4, ⟨s5.1.rk r5, s5.2.u (by rw [r6.1]) (r6.2 23 (by decide) (by decide))⟩, by omega, by omega, (r6.2 22 (by decide) (by decide)).trans s8, s9⟩, r5, r6⟩
  rw [show tP t' N = tP t N from congrFun r5.2.2.2.1 N]; exact s3
theorem Si.refuse {t : xT} {u : xS} {N q a n st en f0 c0 o : Nat} {T : Nat → Int32} {cur : List yX} (h : Si t u N q a T n st en f0 c0 o cur) : F_X3_refuse t N = some (0, tSI t N 1 (nI st)) := by
  unfold F_X3_refuse
  simp only [xlet]
  rw [if_pos h.1.1.1, h.1.2.2.2.1]
/-- one code more -/
def Wk (c0 : Nat) (u u' : xS) : Prop := Rf c0 u u' ∧ ∀ j, j ≠ 23 → u'.1 j = u.1 j
theorem Wk.tk {t : xT} {u u' : xS} {N q n st en c0 : Nat} {T : Nat → Int32} (h : Tk t u N q T n st en) (k : Wk c0 u u') : Tk t u' N q T n st en := h.u (k.1.1 17 (by decide)) (fun j hj => k.2 j (by omega))
theorem wr {u : xS} {c0 : Nat} {cs : List Int32} (h0 : u.1 24 = 0) (hB : BdR u c0 cs) (hc : c0 + cs.length < 200) (x : Int32) : ∃ u', F_X12_writes u x = some u' ∧ BdR u' c0 (cs ++ [x]) ∧ Wk c0 u u' := by
  obtain ⟨b1, b2⟩ := hB
  refine ⟨_, write_1 h0 b1 hc x, ⟨?_, fun j c hj => ?_⟩, (Rf.A u x (by omega)).tr (Rf.S c0 _ _ (by omega) (by omega)), fun j hj => ?_⟩
  · rw [mS_1, List.length_append]; rfl
  · show (mA u 0 (103 + (c0 + cs.length)) x).2.1 0 (103 + (c0 + j)) = c
    rw [mA_s]
    by_cases d : j < cs.length
    · rw [upd_n _ _ (by omega)]
      rw [List.getElem?_append_left d] at hj
      exact b2 j c hj
    · by_cases e : j = cs.length
      · subst e
        rw [List.getElem?_append_right (Nat.le_refl _), Nat.sub_self] at hj
        rw [upd_s]; exact Option.some.inj hj
      · rw [List.getElem?_eq_none (by rw [List.length_append]; show cs.length + 1 ≤ j; omega)] at hj
        exact absurd hj (by simp)
  · exact mS_n _ _ hj
theorem BdC.app {t t' : xT} {L f0 : Nat} {cur : List yX} {x y z : Int32} (h : BdC t L f0 cur) (h9 : tI t' L 9 = nI (f0 + cur.length + 1)) (h6 : tI t' (L + 6) = upd (tI t (L + 6)) (f0 + cur.length) x) (h7 : tI t' (L + 7) = upd (tI t (L + 7)) (f0 + cur.length) y) (h8 : tI t' (L + 8) = upd (tI t (L + 8)) (f0 + cur.length) z) : BdC t' L f0 (cur ++ [(x, y, z)]) := by
  obtain ⟨b1, b2⟩ := h
  refine ⟨?_, fun j w hj => ?_⟩
  · rw [h9, List.length_append]; rfl
  · rw [h6, h7, h8]
    by_cases d : j < cur.length
    · rw [upd_n _ _ (by omega), upd_n _ _ (by omega), upd_n _ _ (by omega)]
      rw [List.getElem?_append_left d] at hj
      exact b2 j w hj
    · by_cases e : j = cur.length
      · subst e
        rw [List.getElem?_append_right (Nat.le_refl _), Nat.sub_self] at hj
        rw [upd_s, upd_s, upd_s, ← Option.some.inj hj]
        exact ⟨rfl, rfl, rfl⟩
      · rw [List.getElem?_eq_none (by rw [List.length_append]; show cur.length + 1 ≤ j; omega)] at hj
        exact absurd hj (by simp)
/-- the class's step together with codes that the reference wrote -/
theorem Si.step {t : xT} {u : xS} {N q a n st en f0 c0 o : Nat} {T : Nat → Int32} {cur : List yX} {x y z : Int32} (hT : Tk t u N q T n st en) (hL : LwO t a (N + 1)) (hP : tP t N 0 = some (N + 1)) (h0 : u.1 24 = 0) (hC : BdC t (N + 1) f0 cur) (hR : BdR u c0 (encL cur ++ enc (x, y, z))) (hb : 2 * (f0 + cur.length + 1) ≤ st) (hb' : c0 + (encL cur).length + (enc (x, y, z)).length ≤ st) (h22 : u.1 22 = nI o) (hq : q < N) : ∃ t', F_X2_addStep t (N + 1) x y z = some t' ∧ Si t' u N q a T n st en f0 c0 o (cur ++ [(x, y, z)]) ∧ Ck N f0 t t' := by
  have hn : n ≤ 200 := hT.1.2.2.2.2.2.2.1
  have hst := hT.2.2.1.1
  have hen := hT.2.2.1.2.1
  obtain ⟨t', r1, r2, r3, r4, r5, r6, r7, r8, r9, r10, r11⟩ := c_step hL hC.1 (by omega) x y z
  have k : Ck N f0 t t' := ⟨r2, r3, r4, r5, fun q' a b c d e => r11 q' b (by omega) (by omega) (by omega), fun j _ _ _ _ => by rw [r11 N (by omega) (by omega) (by omega) (by omega)], r7, fun j hj => ⟨by rw [show N + 7 = N + 1 + 6 by omega, r8, upd_n _ _ (by omega)], by rw [show N + 8 = N + 1 + 7 by omega, r9, upd_n _ _ (by omega)], by rw [show N + 9 = N + 1 + 8 by omega, r10, upd_n _ _ (by omega)]⟩⟩
  have ee : encL (cur ++ [(x, y, z)]) = encL cur ++ enc (x, y, z) := by
    rw [encL_app]
    show encL cur ++ (enc (x, y, z) ++ []) = _
    rw [List.append_nil]
  refine ⟨t', r1, ⟨hT.t k hq (r11 N (by omega) (by omega) (by omega) (by omega)), hL.ck k, ?_, h0, ⟨hC.app r6 r8 r9 r10, ee ▸ hR⟩, ?_, ?_, h22, hq⟩, k⟩
  · rw [show tP t' N = tP t N from congrFun r5 N]; exact hP
  · rw [List.length_append]; show 2 * (f0 + (cur.length + 1)) ≤ st; omega
  · rw [ee, List.length_append]; omega
/-! values -/
def Vk (u u' : xS) : Prop := u'.2 = u.2 ∧ ∀ j, j ≠ 19 → j ≠ 20 → j ≠ 21 → u'.1 j = u.1 j
theorem Tk.S21 {t : xT} {u : xS} {N q n st en : Nat} {T : Nat → Int32} (h : Tk t u N q T n st en) (v : Int32) : Tk t (mS u 21 v) N q T n st en := h.u rfl (fun j hj => mS_n _ _ (by omega))
theorem val {t : xT} {u : xS} {N q n st en : Nat} {T : Nat → Int32} (h : Tk t u N q T n st en) (h0 : u.1 24 = 0) : (∃ v t' u1 st' en', F_X3_valueHere t N = some (v, t) ∧ (-10 : Int32) < v ∧ v ≠ -9 ∧ st < en ∧ F_X3_next t N = some t' ∧ F_X12_valueHere u = F_X12_writes u1 v ∧ Tk t' u1 N q T n st' en' ∧ en ≤ st' ∧ Rk N t t' ∧ Vk u u1) ∨ (F_X3_valueHere t N = some (-9, t) ∧ ∃ u', F_X12_valueHere u = some u' ∧ Fk u u') := by
  obtain ⟨w, w1, w2, w3⟩ := word h h0
  have idb : ∀ (o : Option xS), o.bind (fun r1 => some r1) = o := fun o => by cases o <;> rfl
  have k4 := h.2.2.1.2.2.2.1
  have tok : ∀ x : Int32, ∃ t' u1 st' en', F_X3_next t N = some t' ∧ F_X12_token (mS u 21 x) = some u1 ∧ en ≤ st' ∧ Tk t' u1 N q T n st' en' ∧ Rk N t t' ∧ Uk (mS u 21 x) u1 := fun x => by
    have h' := h.S21 x
    exact tk h.1 h'.2.1 h.2.2.2.2.1 h'.2.2.2.2.2.2.2 h.2.2.1.2.1
  have fact : F_X12_factHere u = if w = 4153 then some (-1) else if w = 21279923 then some (-2) else if w = 671116 then some (-3) else if w = 6456948 then some (-4) else if w = 492210354 then some (-5) else some 0 := by
    unfold F_X12_factHere F_X12_factHere_j70
    rw [w1, Option.bind_some]
    simp only [lg_cmp_eq]
  -- a fact
  have fc : ∀ v : Int32, so T n st ≠ 2 → so T n st ≠ 0 → F_X12_factHere u = some v → F_X3_valueHere t N = some (v, t) → (-10 : Int32) < v → v ≠ -9 → ¬ 0 ≤ v → (∃ v t' u1 st' en', F_X3_valueHere t N = some (v, t) ∧ (-10 : Int32) < v ∧ v ≠ -9 ∧ st < en ∧ F_X3_next t N = some t' ∧ F_X12_valueHere u = F_X12_writes u1 v ∧ Tk t' u1 N q T n st' en' ∧ en ≤ st' ∧ Rk N t t' ∧ Vk u u1) := fun v s2 s0 hf hv l1 l2 l3 => by
    obtain ⟨t', u1, st', en', r1, r2, r3, r4, r5, r6⟩ := tok (u.1 21)
    rw [mS_me u 21 rfl] at r2 r6
    refine ⟨v, t', u1, st', en', hv, l1, l2, k4 s0, r1, ?_, r4, r3, r5, r6.1, fun j a b _ => r6.2 j a b⟩
    unfold F_X12_valueHere F_X12_valueHere_j44
    rw [hf, Option.bind_some, if_neg l3, need_1 h0, r2, Option.bind_some, idb]
  by_cases c2 : so T n st = 2
  · have ew : w = 0 := w2 (by rw [c2]; decide)
    have f0 : F_X12_factHere u = some 0 := by
      rw [fact, ew, if_neg (by decide), if_neg (by decide), if_neg (by decide), if_neg (by decide), if_neg (by decide)]
    have rv : F_X12_valueHere u = (F_X12_number u 9999).bind (fun r5 => F_X12_writes r5 (r5.1 21)) := by
      unfold F_X12_valueHere F_X12_valueHere_j44
      rw [f0, Option.bind_some, if_pos (show (0 : Int32) ≤ 0 by decide), if_pos h0]
      congr 1
      funext r5
      exact idb _
    rcases number h 9999 with ⟨v, n1, n2, n3, n4, n5⟩ | ⟨n4, v, n5⟩
    · left
      obtain ⟨t', u1, st', en', r1, r2, r3, r4, r5, r6⟩ := tok v
      have nl : ¬ (9999 : Int32) < v := by rw [fa_lt]; show ¬ (9999 : Int) < _; omega
      have a24 : (mS u 21 v).1 24 = 0 := (mS_n _ _ (by decide)).trans h0
      rw [if_neg nl, need_1 a24, r2] at n5
      have e21 : u1.1 21 = v := (r6.2 21 (by decide) (by decide)).trans (mS_1 _ _ _)
      refine ⟨v, t', u1, st', en', ?_, by rw [fa_lt]; show (-10 : Int) < _; omega, fun e => by rw [e] at n2; exact absurd n2 (by decide), k4 (by rw [c2]; decide), r1, ?_, r4, r3, r5, r6.1, fun j a b c => (r6.2 j a b).trans (mS_n _ _ c)⟩
      · unfold F_X3_valueHere F_X3_valueHere_j23
        rw [if_pos h.1.1, h.2.2.2.2.2.1, if_pos c2, n4, Option.bind_some, if_pos (by rw [n_le0]; exact n2)]
      · rw [rv, n5, Option.bind_some, e21]
    · right
      rw [need_0] at n5
      have f24 : (mS (mS u 21 v) 24 1).1 24 ≠ 0 := by rw [mS_1]; decide
      refine ⟨?_, mS (mS u 21 v) 24 1, ?_, rfl, f24, fun j a b c => (mS_n _ _ c).trans (mS_n _ _ a)⟩
      · unfold F_X3_valueHere F_X3_valueHere_j23
        rw [if_pos h.1.1, h.2.2.2.2.2.1, if_pos c2, n4, Option.bind_some, if_neg (by decide)]
      · rw [rv, n5, Option.bind_some, write_f f24]
  · have v0 : F_X3_valueHere t N = if w = 4153 then some (-1, t) else if w = 21279923 then some (-2, t) else if w = 671116 then some (-3, t) else if w = 6456948 then some (-4, t) else if w = 492210354 then some (-5, t) else some (-9, t) := by
      unfold F_X3_valueHere F_X3_valueHere_j87
      rw [if_pos h.1.1, h.2.2.2.2.2.1, if_neg c2]
      have e8 := w3 8 (by decide)
      have e9 := w3 9 (by decide)
      have e10 := w3 10 (by decide)
      have e11 := w3 11 (by decide)
      have e12 := w3 12 (by decide)
      rw [hN_8] at e8
      rw [hN_9] at e9
      rw [hN_10] at e10
      rw [hN_11] at e11
      rw [hN_12] at e12
      simp only [e8, e9, e10, e11, e12, Option.bind_some, if_pos h.1.1]
      by_cases d1 : w = 4153
      · rw [bI_t d1, if_neg i32_n10, if_pos d1]
      · rw [bI_f d1, if_pos rfl, if_neg d1]
        by_cases d2 : w = 21279923
        · rw [bI_t d2, if_neg i32_n10, if_pos d2]
        · rw [bI_f d2, if_pos rfl, if_neg d2]
          by_cases d3 : w = 671116
          · rw [bI_t d3, if_neg i32_n10, if_pos d3]
          · rw [bI_f d3, if_pos rfl, if_neg d3]
            by_cases d4 : w = 6456948
            · rw [bI_t d4, if_neg i32_n10, if_pos d4]
            · rw [bI_f d4, if_pos rfl, if_neg d4]
              by_cases d5 : w = 492210354
              · rw [bI_t d5, if_neg i32_n10, if_pos d5]
              · rw [bI_f d5, if_pos rfl, if_neg d5]
    have s0 : w ≠ 0 → so T n st ≠ 0 := fun hw e => hw (w2 (by rw [e]; decide))
    by_cases d1 : w = 4153
    · rw [if_pos d1] at fact v0; exact Or.inl (fc (-1) c2 (s0 (by rw [d1]; decide)) fact v0 (by decide) (by decide) (by decide))
    · rw [if_neg d1] at fact v0
      by_cases d2 : w = 21279923
      · rw [if_pos d2] at fact v0; exact Or.inl (fc (-2) c2 (s0 (by rw [d2]; decide)) fact v0 (by decide) (by decide) (by decide))
      · rw [if_neg d2] at fact v0
        by_cases d3 : w = 671116
        · rw [if_pos d3] at fact v0; exact Or.inl (fc (-3) c2 (s0 (by rw [d3]; decide)) fact v0 (by decide) (by decide) (by decide))
        · rw [if_neg d3] at fact v0
          by_cases d4 : w = 6456948
          · rw [if_pos d4] at fact v0; exact Or.inl (fc (-4) c2 (s0 (by rw [d4]; decide)) fact v0 (by decide) (by decide) (by decide))
          · rw [if_neg d4] at fact v0
            by_cases d5 : w = 492210354
            · rw [if_pos d5] at fact v0; exact Or.inl (fc (-5) c2 (s0 (by rw [d5]; decide)) fact v0 (by decide) (by decide) (by decide))
            · rw [if_neg d5] at fact v0
              right
              refine ⟨v0, ?_⟩
              rcases number h 9999 with ⟨v, n1, -⟩ | ⟨-, v, n5⟩
              · exact absurd n1 c2
              · rw [need_0] at n5
                have f24 : (mS (mS u 21 v) 24 1).1 24 ≠ 0 := by rw [mS_1]; decide
                refine ⟨mS (mS u 21 v) 24 1, ?_, rfl, f24, fun j a b c => (mS_n _ _ c).trans (mS_n _ _ a)⟩
                unfold F_X12_valueHere F_X12_valueHere_j44
                rw [fact, Option.bind_some, if_pos (show (0 : Int32) ≤ 0 by decide), if_pos h0, n5, Option.bind_some, write_f f24, Option.bind_some]
/-- a list of steps leaves one answer more, and needs so much room -/
def Ph (h : Nat) (l : List yX) : Prop := ∀ d rest, d + h ≤ 40 → okS rest (d + 1) → okS (l ++ rest) d
def Out (c : Option (Int32 × xT)) (r : Option xS) (t : xT) (u : xS) (N q a : Nat) (T : Nat → Int32) (n st f0 c0 o : Nat) (cur : List yX) (hh : Nat) : Prop :=
  (∃ t' u' st' en' add, c = some (1, t') ∧ r = some u' ∧ Si t' u' N q a T n st' en' f0 c0 o (cur ++ add) ∧ Ck N f0 t t' ∧ Rf c0 u u' ∧ st + 1 ≤ st' ∧ st + 2 * add.length ≤ st' ∧ st + (encL add).length ≤ st' ∧ Ph hh add) ∨
  (∃ t' u' st' en', c = some (0, t') ∧ r = some u' ∧ Fp u' T n st' en' ∧ tI t' N 1 = nI st' ∧ Ck N f0 t t' ∧ Rf c0 u u')
theorem Vk.f {c0 : Nat} {u u' : xS} (h : Vk u u') : Rf c0 u u' := ⟨fun k _ => by rw [h.1], by rw [h.1], fun i _ => by rw [h.1], fun j a => h.2 j (by omega) (by omega) (by omega)⟩
theorem BdR.r {u u' : xS} {c0 : Nat} {cs : List Int32} (h : BdR u c0 cs) (k : Vk u u') : BdR u' c0 cs := h.u (by rw [k.1]) (k.2 23 (by decide) (by decide) (by decide))
theorem byN {u : xS} {T : Nat → Int32} {n st : Nat} (hR : TsR u T n) (hn : n ≤ 200) (hs : st ≤ 200) (h19 : u.1 19 = nI st) : F_X12_byteAt u (u.1 19) = some (LB T n st) := by rw [h19]; exact r_byteAt hR hn hs
theorem comparison {t : xT} {u : xS} {N q a n st en f0 c0 o : Nat} {T : Nat → Int32} {cur : List yX} (h : Si t u N q a T n st en f0 c0 o cur) : Out (F_X3_readComparison t N) (F_X12_comparison u) t u N q a T n st f0 c0 o cur 1 := by
  have ref := h.refuse
  obtain ⟨s1, s2, s3, s4, s5, s6, s7, s8, s9⟩ := h
  have hn : n ≤ 200 := s1.1.2.2.2.2.2.2.1
  have hen := s1.2.2.1.2.1
  have hk := s1.1.1
  rcases val s1 s4 with ⟨v, t1, u1, st1, en1, v1, v2, v3, v4, v5, v6, v7, v8, v9, v10⟩ | ⟨v1, u', v2, v3⟩
  rotate_left
  · -- no left value
    right
    have hF := (s1.u (u' := u') (by rw [v3.1]) (fun j hj => v3.2.2 j (by omega) (by omega) (by omega))).fp v3.2.1
    refine ⟨tSI t N 1 (nI st), mS u' 24 1, st, en, ?_, ?_, hF.k (Fk.S24 u'), by rw [tI_SI, upd_s], (Rk.SI N t _ (by omega)).ck, (v3.tr (Fk.S24 u')).f⟩
    · unfold F_X3_readComparison
      rw [if_pos hk, v1, Option.bind_some, if_pos rfl, if_pos hk, ref, Option.bind_some]
    · unfold F_X12_comparison
      rw [v2, Option.bind_some, if_neg v3.2.1]
      unfold F_X12_comparison_j23
      rw [if_neg (by decide), if_neg (by decide), if_neg (by decide)]
      exact f_j48 hF _ _
  have a24 : u1.1 24 = 0 := (v10.2 24 (by decide) (by decide) (by decide)).trans s4
  have h1n := v7.2.2.1.2.1
  obtain ⟨u2, w1, w2, w3⟩ := wr a24 (s5.2.r v10) (by omega) v
  have b24 : u2.1 24 = 0 := (w3.2 24 (by decide)).trans a24
  have tk2 : Tk t1 u2 N q T n st1 en1 := w3.tk v7
  have hk1 := tk2.1.1
  have kst := tk2.2.2.1.1
  -- the sign
  obtain ⟨xx, x1, x2⟩ := byte tk2 60 (by decide) (by decide)
  obtain ⟨xy, y1, y2⟩ := byte tk2 61 (by decide) (by decide)
  obtain ⟨xz, z1, z2⟩ := byte tk2 62 (by decide) (by decide)
  have exy : xy = xx := Option.some.inj (y1.symm.trans x1)
  have exz : xz = xx := Option.some.inj (z1.symm.trans x1)
  rw [exy] at y2
  rw [exz] at z2
  have refHead : F_X12_comparison u = F_X12_comparison_j23 u2 xx := by
    unfold F_X12_comparison
    rw [v6, w1, Option.bind_some, if_pos b24, x1, Option.bind_some]
  have clsHead : F_X3_readComparison t N = F_X3_readComparison_j61 t1 N v (if xx = 60 then 0 else if xx = 61 then 1 else if xx = 62 then 2 else -9) := by
    unfold F_X3_readComparison
    rw [if_pos hk, v1, Option.bind_some, if_neg v3, if_pos hk, v5, Option.bind_some, if_pos hk1, x2, Option.bind_some, y2, Option.bind_some, z2, Option.bind_some]
    by_cases d1 : xx = 60
    · rw [bI_t d1, if_neg i32_n10, if_pos d1]
    · rw [bI_f d1, if_pos rfl, if_neg d1]
      by_cases d2 : xx = 61
      · rw [bI_t d2, if_neg i32_n10, if_pos d2]
      · rw [bI_f d2, if_pos rfl, if_neg d2]
        by_cases d3 : xx = 62
        · rw [bI_t d3, if_neg i32_n10, if_pos d3]
        · rw [bI_f d3, if_pos rfl, if_neg d3]
  have r01 : Rf c0 u u2 := (v10.f).tr w3.1
  have refu1 : ∀ {tt : xT} {uu : xS} {s e : Nat}, Tk tt uu N q T n s e → F_X3_refuse tt N = some (0, tSI tt N 1 (nI s)) := fun {tt uu s e} hh => by
    unfold F_X3_refuse
    simp only [xlet]
    rw [if_pos hh.1.1, hh.2.2.2.1]
  -- with a sign
  have go : ∀ sg : Int32, (sg = 0 ∨ sg = 1 ∨ sg = 2) → F_X3_readComparison t N = F_X3_readComparison_j61 t1 N v sg → (∃ y : Int32, (F_X12_comparison u = F_X12_comparison_j48 u2 y 1) ∧ (∀ uu, (if y = 60 then F_X12_comparison_j80 uu (-11) else if y = 61 then F_X12_comparison_j80 uu (-12) else F_X12_comparison_j80 uu (-13)) = F_X12_comparison_j80 uu (-11 - sg))) → st1 < en1 → Out (F_X3_readComparison t N) (F_X12_comparison u) t u N q a T n st f0 c0 o cur 1 := by
    intro sg hsg hc ⟨y, hr, hy⟩ lt1
    obtain ⟨t2, u3, st2, en2, n1, n2, n3, n4, n5, n6⟩ := tk tk2.1 tk2.2.1 tk2.2.2.2.2.1 tk2.2.2.2.2.2.2.2 tk2.2.2.1.2.1
    have c24 : u3.1 24 = 0 := (n6.2 24 (by decide) (by decide)).trans b24
    have sg9 : ¬ sg = -9 := by rcases hsg with e | e | e <;> rw [e] <;> decide
    have hk2 := n4.1.1
    have r02 : Rf c0 u u3 := r01.tr n6.f
    have w2' : BdR u3 c0 (encL cur ++ [v]) := w2.u (by rw [n6.1]) (n6.2 23 (by decide) (by decide))
    have h2n := n4.2.2.1.2.1
    have kst2 := n4.2.2.1.1
    rcases val n4 c24 with ⟨z, t3, u4, st3, en3, p1, p2, p3, p4, p5, p6, p7, p8, p9, p10⟩ | ⟨p1, u', p2, p3⟩
    · left
      have d24 : u4.1 24 = 0 := (p10.2 24 (by decide) (by decide) (by decide)).trans c24
      have h3n := p7.2.2.1.2.1
      have kst3 := p7.2.2.1.1
      obtain ⟨u5, f1, f2, f3⟩ := wr d24 (w2'.r p10) (by rw [List.length_append]; show c0 + ((encL cur).length + 1) < 200; omega) z
      have e24 : u5.1 24 = 0 := (f3.2 24 (by decide)).trans d24
      obtain ⟨u6, g1, g2, g3⟩ := wr e24 f2 (by rw [List.length_append, List.length_append]; show c0 + ((encL cur).length + 1 + 1) < 200; omega) (-11 - sg)
      have g24 : u6.1 24 = 0 := (g3.2 24 (by decide)).trans e24
      have tk6 : Tk t3 u6 N q T n st3 en3 := g3.tk (f3.tk p7)
      have R13 : Rk N t t3 := v9.tr (n5.tr p9)
      have en' : enc (sg, v, z) = [v, z, -11 - sg] := by
        unfold enc
        rcases hsg with e | e | e <;> subst e <;> rfl
      have eqc : encL cur ++ enc (sg, v, z) = ((encL cur ++ [v]) ++ [z]) ++ [-11 - sg] := by rw [en', List.append_assoc, List.append_assoc]; rfl
      have L3 : LwO t3 a (N + 1) := s2.ck (f0 := f0) R13.ck
      have P3 : tP t3 N 0 = some (N + 1) := by rw [show tP t3 N = tP t N from congrFun R13.2.2.2.1 N]; exact s3
      have o22 : u6.1 22 = nI o := (g3.2 22 (by decide)).trans ((f3.2 22 (by decide)).trans ((p10.2 22 (by decide) (by decide) (by decide)).trans ((n6.2 22 (by decide) (by decide)).trans ((w3.2 22 (by decide)).trans ((v10.2 22 (by decide) (by decide) (by decide)).trans s8)))))
      obtain ⟨t4, m1, m2, m3⟩ := Si.step (x := sg) (y := v) (z := z) tk6 L3 P3 g24 (s5.1.rk R13) (by rw [eqc]; exact g2) (by omega) (by rw [en']; show _ + 3 ≤ st3; omega) o22 s9
      refine ⟨t4, u6, st3, en3, [(sg, v, z)], ?_, ?_, m2, R13.ck.tr m3, r02.tr (p10.f.tr (f3.1.tr g3.1)), by omega, by show st + 2 * 1 ≤ st3; omega, ?_, fun d rest hd hr => ?_⟩
      · rw [hc]
        unfold F_X3_readComparison_j61
        rw [if_neg sg9, if_pos hk1, n1, Option.bind_some, if_pos hk2, p1, Option.bind_some, if_neg p3, if_pos hk2, p5, Option.bind_some, if_pos p7.1.1, P3, Option.bind_some, if_pos L3.1, m1, Option.bind_some]
      · rw [hr]
        unfold F_X12_comparison_j48
        rw [need_1 b24, n2, Option.bind_some, p6, f1, Option.bind_some, hy]
        unfold F_X12_comparison_j80
        rw [g1, Option.bind_some]
      · show st + (enc (sg, v, z) ++ []).length ≤ st3
        rw [List.append_nil, en']; show st + 3 ≤ st3; omega
      · refine ⟨by omega, Or.inr (Or.inr ⟨?_, v2, p2, hr⟩)⟩
        rcases hsg with e | e | e
        · exact Or.inl e
        · exact Or.inr (Or.inl e)
        · exact Or.inr (Or.inr e)
    · right
      have tkF := (n4.u (u' := u') (by rw [p3.1]) (fun j hj => p3.2.2 j (by omega) (by omega) (by omega)))
      have hF := tkF.fp p3.2.1
      refine ⟨tSI t2 N 1 (nI st2), u', st2, en2, ?_, ?_, hF, by rw [tI_SI, upd_s], (v9.tr (n5.tr (Rk.SI N t2 _ (by omega)))).ck, r02.tr p3.f⟩
      · rw [hc]
        unfold F_X3_readComparison_j61
        rw [if_neg sg9, if_pos hk1, n1, Option.bind_some, if_pos hk2, p1, Option.bind_some, if_pos rfl, if_pos hk2, refu1 n4, Option.bind_some]
      · rw [hr]
        unfold F_X12_comparison_j48
        rw [need_1 b24, n2, Option.bind_some, p2, Option.bind_some, hy]
        exact f_j80 hF.1 _
  have lt1 : xx = 60 ∨ xx = 61 ∨ xx = 62 → st1 < en1 := fun hx => tk2.2.2.1.2.2.2.1 (fun e => by
    have := (so_0 T n st1).1 e
    have eL := byN tk2.2.1 hn (show st1 ≤ 200 by omega) tk2.2.2.2.2.2.2.1
    rw [x1] at eL
    have eL := Option.some.inj eL
    unfold LB at eL
    rw [if_pos this] at eL
    rw [eL] at hx
    exact absurd hx (by decide))
  by_cases d1 : xx = 60
  · rw [if_pos d1] at clsHead
    refine go 0 (Or.inl rfl) clsHead ⟨xx, ?_, fun uu => ?_⟩ (lt1 (Or.inl d1))
    · rw [refHead]; unfold F_X12_comparison_j23 F_X12_comparison_j43; rw [if_pos d1]
    · rw [if_pos d1]; rfl
  · by_cases d2 : xx = 61
    · rw [if_neg d1, if_pos d2] at clsHead
      refine go 1 (Or.inr (Or.inl rfl)) clsHead ⟨xx, ?_, fun uu => ?_⟩ (lt1 (Or.inr (Or.inl d2)))
      · rw [refHead]; unfold F_X12_comparison_j23 F_X12_comparison_j43; rw [if_neg d1, if_pos d2]
      · rw [if_neg d1, if_pos d2]; rfl
    · by_cases d3 : xx = 62
      · rw [if_neg d1, if_neg d2, if_pos d3] at clsHead
        refine go 2 (Or.inr (Or.inr rfl)) clsHead ⟨xx, ?_, fun uu => ?_⟩ (lt1 (Or.inr (Or.inr d3)))
        · rw [refHead]; unfold F_X12_comparison_j23 F_X12_comparison_j43; rw [if_neg d1, if_neg d2, if_pos d3]
        · rw [if_neg d1, if_neg d2]; rfl
      · rw [if_neg d1, if_neg d2, if_neg d3] at clsHead
        right
        have hF : Fp (mS u2 24 1) T n st1 en1 := (tk2.u (u' := mS u2 24 1) rfl (fun j hj => mS_n _ _ (by omega))).fp (by rw [mS_1]; decide)
        refine ⟨tSI t1 N 1 (nI st1), mS u2 24 1, st1, en1, ?_, ?_, hF, by rw [tI_SI, upd_s], (v9.tr (Rk.SI N t1 _ (by omega))).ck, r01.tr (Rf.S c0 u2 _ (by omega) (by omega))⟩
        · rw [clsHead]
          unfold F_X3_readComparison_j61
          rw [if_pos rfl, if_pos hk1, refu1 tk2, Option.bind_some]
        · rw [refHead]
          unfold F_X12_comparison_j23
          rw [if_neg d1, if_neg d2, if_neg d3]
          unfold F_X12_comparison_j48
          rw [need_0, Option.bind_some, f_valueHere hF, Option.bind_some, if_neg d1, if_neg d2]
          exact f_j80 hF.1 _
