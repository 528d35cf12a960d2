/-! ===== pure mathematics 34: steps of a law, faults ===== -/
theorem mS_me (u : xS) (j : Nat) {v : Int32} (h : u.1 j = v) : mS u j v = u := by
  unfold mS
  refine Prod.ext (funext fun i => ?_) rfl
  show (if i = j then v else u.1 i) = u.1 i
  by_cases c : i = j
  · rw [if_pos c, c, h]
  · rw [if_neg c]
theorem i32_n10 : ¬ (1 : Int32) = 0 := by decide
theorem need_1 {u : xS} (h : u.1 24 = 0) : F_X12_needs u 1 = F_X12_token u := by
  have idb : ∀ (o : Option xS), o.bind (fun r1 => some r1) = o := fun o => by cases o <;> rfl
  unfold F_X12_needs F_X12_needs_j17 F_X12_needs_j31
  simp only [xlet]
  rw [if_pos h, if_neg i32_n10, if_pos (Or.inl trivial), mS_me u 24 h, if_pos h, idb]
theorem need_j12 (u : xS) : F_X12_needs_j12 u = some (mS u 24 1) := by
  unfold F_X12_needs_j12 F_X12_needs_j17 F_X12_needs_j31
  simp only [xlet]
  rw [if_pos (Or.inr trivial), mS_1, if_neg i32_n10]
theorem need_0 (u : xS) : F_X12_needs u 0 = some (mS u 24 1) := by
  unfold F_X12_needs
  rw [need_j12, if_pos rfl]
  by_cases h : u.1 24 = 0
  · rw [if_pos h]
  · rw [if_neg h]
theorem need_f {u : xS} (h : u.1 24 ≠ 0) (x : Int32) : F_X12_needs u x = some (mS u 24 1) := by
  unfold F_X12_needs
  rw [need_j12, if_neg h]
theorem write_f {u : xS} (h : u.1 24 ≠ 0) (x : Int32) : F_X12_writes u x = some u := by
  unfold F_X12_writes F_X12_writes_j30
  rw [if_neg h]
theorem write_1 {u : xS} {c : Nat} (h : u.1 24 = 0) (h23 : u.1 23 = nI c) (hc : c < 200) (x : Int32) : F_X12_writes u x = some (mS (mA u 0 (103 + c) x) 23 (nI (c + 1))) := by
  have e : (103 : Int32) + nI c = nI (103 + c) := nI_add 103 c
  have e23 : (mA u 0 (103 + c) x).1 23 = nI c := h23
  unfold F_X12_writes F_X12_writes_j30
  simp only [xlet]
  rw [if_pos h, h23, e, if_pos (n_xIn (show 103 + c < 303 by omega) (by omega)), n_cl (by omega), e23, nI_1]
/-! after a fault -/
def Fp (u : xS) (T : Nat → Int32) (n st en : Nat) : Prop := u.1 24 ≠ 0 ∧ TsR u T n ∧ n ≤ 200 ∧ st ≤ en ∧ en ≤ 200 ∧ u.1 19 = nI st ∧ u.1 20 = nI en
def Fk (u u' : xS) : Prop := u'.2 = u.2 ∧ u'.1 24 ≠ 0 ∧ ∀ j, j ≠ 21 → j ≠ 22 → j ≠ 24 → u'.1 j = u.1 j
theorem Fk.tr {u u' u'' : xS} (h : Fk u u') (h' : Fk u' u'') : Fk u u'' := ⟨h'.1.trans h.1, h'.2.1, fun j a b c => (h'.2.2 j a b c).trans (h.2.2 j a b c)⟩
theorem Fk.rf {u : xS} (h : u.1 24 ≠ 0) : Fk u u := ⟨rfl, h, fun _ _ _ _ => rfl⟩
theorem Fk.S24 (u : xS) : Fk u (mS u 24 1) := ⟨rfl, by rw [mS_1]; decide, fun j _ _ c => mS_n _ _ c⟩
theorem Fk.S {u : xS} (h : u.1 24 ≠ 0) {j : Nat} (v : Int32) (hj : j = 21 ∨ j = 22) : Fk u (mS u j v) := ⟨rfl, by rw [mS_n _ _ (by omega)]; exact h, fun i a b _ => mS_n _ _ (by omega)⟩
theorem Fp.k {u u' : xS} {T : Nat → Int32} {n st en : Nat} (h : Fp u T n st en) (k : Fk u u') : Fp u' T n st en := by
  obtain ⟨-, h2, h3, h4, h5, h6, h7⟩ := h
  obtain ⟨k1, k2, k3⟩ := k
  exact ⟨k2, ⟨(k3 18 (by decide) (by decide) (by decide)).trans h2.1, by rw [k1]; exact h2.2⟩, h3, h4, h5, (k3 19 (by decide) (by decide) (by decide)).trans h6, (k3 20 (by decide) (by decide) (by decide)).trans h7⟩
theorem Fp.word {u : xS} {T : Nat → Int32} {n st en : Nat} (h : Fp u T n st en) : F_X12_word u = some 0 := word_f h.2.1 h.2.2.1 h.2.2.2.1 h.2.2.2.2.1 h.2.2.2.2.2.1 h.2.2.2.2.2.2 h.1
theorem lgc (c : Int64) (h : (0 : Int64) ≠ c) : ¬ lg_cmp 0 c = 0 := by rw [lg_cmp_eq]; exact h
theorem f_valueHere {u : xS} {T : Nat → Int32} {n st en : Nat} (h : Fp u T n st en) : F_X12_valueHere u = some u := by
  unfold F_X12_valueHere F_X12_valueHere_j44 F_X12_factHere F_X12_factHere_j70
  rw [h.word]
  simp only [Option.bind_some]
  rw [if_neg (lgc _ (by decide)), if_neg (lgc _ (by decide)), if_neg (lgc _ (by decide)), if_neg (lgc _ (by decide)), if_neg (lgc _ (by decide))]
  simp only [Option.bind_some]
  rw [if_pos (show (0 : Int32) ≤ 0 by decide), if_neg h.1]
theorem f_j80 {u : xS} (h : u.1 24 ≠ 0) (x : Int32) : F_X12_comparison_j80 u x = some u := by
  unfold F_X12_comparison_j80
  rw [write_f h]; rfl
theorem f_j48 {u : xS} {T : Nat → Int32} {n st en : Nat} (h : Fp u T n st en) (y s1 : Int32) : F_X12_comparison_j48 u y s1 = some (mS u 24 1) := by
  have h' := h.k (Fk.S24 u)
  unfold F_X12_comparison_j48
  rw [need_f h.1, Option.bind_some, f_valueHere h', Option.bind_some, f_j80 h'.1, f_j80 h'.1, f_j80 h'.1]
  by_cases a : y = 60
  · rw [if_pos a]
  · rw [if_neg a]
    by_cases b : y = 61
    · rw [if_pos b]
    · rw [if_neg b]
theorem f_comparison {u : xS} {T : Nat → Int32} {n st en : Nat} (h : Fp u T n st en) : F_X12_comparison u = some (mS u 24 1) := by
  unfold F_X12_comparison
  rw [f_valueHere h, Option.bind_some, if_neg h.1]
  unfold F_X12_comparison_j23
  rw [if_neg (by decide), if_neg (by decide), if_neg (by decide)]
  exact f_j48 h _ _
theorem f_j128 {kr : xS → Option xS} {u : xS} (h : u.1 24 ≠ 0) (y : Int32) : F_X12_one_j128 kr u y = some u := by
  unfold F_X12_one_j128 F_X12_one_j138
  rw [write_f h, Option.bind_some]
  by_cases a : y = 0
  · rw [if_pos a]
  · rw [if_neg a]
theorem f_one {kr : xS → Option xS} {u : xS} {T : Nat → Int32} {n st en : Nat} (h : Fp u T n st en) : F_X12_one kr u = some (mS u 24 1) := by
  unfold F_X12_one
  rw [show xFuel = 999999 + 1 from rfl]
  unfold F_X12_one_l2
  rw [h.word, Option.bind_some, if_neg (lgc _ (by decide)), if_neg h.1]
  unfold F_X12_one_j124
  rw [f_comparison h, Option.bind_some]
  exact f_j128 (h.k (Fk.S24 u)).1 0
theorem f_all_l {kr : xS → Option xS} {u : xS} {T : Nat → Int32} {n st en : Nat} (h : Fp u T n st en) (k : Nat) : F_X12_all_l4 kr (k + 1) u = some u := by
  unfold F_X12_all_l4
  rw [h.word, Option.bind_some, if_neg (lgc _ (by decide))]
theorem f_all {kr : xS → Option xS} {u : xS} {T : Nat → Int32} {n st en : Nat} (h : Fp u T n st en) : F_X12_all kr u = some (mS u 24 1) := by
  unfold F_X12_all
  rw [f_one h, Option.bind_some, show xFuel = 999999 + 1 from rfl]
  exact f_all_l (h.k (Fk.S24 u)) _
theorem f_any_l {kr : xS → Option xS} {u : xS} {T : Nat → Int32} {n st en : Nat} (h : Fp u T n st en) (k : Nat) : F_X12_condition_l12 kr (k + 1) u = some u := by
  unfold F_X12_condition_l12
  rw [h.word, Option.bind_some, if_neg (lgc _ (by decide))]
theorem f_any {k : Nat} {u : xS} (h : u.1 24 ≠ 0) : F_X12_condition (k + 1) u = some u := by
  show F_X12_conditionB (F_X12_condition k) u = some u
  unfold F_X12_conditionB
  rw [if_neg h]
theorem f_j118 {kr : xS → Option xS} {u : xS} {T : Nat → Int32} {n st en : Nat} (h : Fp u T n st en) (y s1 : Int32) : F_X12_one_j118 kr u y s1 = some (mS u 24 1) := by
  unfold F_X12_one_j118
  rw [need_f h.1, Option.bind_some]
  exact f_j128 (h.k (Fk.S24 u)).1 y
/-! steps -/
abbrev yX : Type := Int32 × Int32 × Int32
/-- the steps of the clause under way -/
def BdC (t : xT) (L f0 : Nat) (cur : List yX) : Prop := tI t L 9 = nI (f0 + cur.length) ∧ ∀ j x, cur[j]? = some x → tI t (L + 6) (f0 + j) = x.1 ∧ tI t (L + 7) (f0 + j) = x.2.1 ∧ tI t (L + 8) (f0 + j) = x.2.2
def BdR (u : xS) (c0 : Nat) (cs : List Int32) : Prop := u.1 23 = nI (c0 + cs.length) ∧ ∀ j c, cs[j]? = some c → u.2.1 0 (103 + (c0 + j)) = c
def Bd (t : xT) (u : xS) (L f0 c0 : Nat) (cur : List yX) : Prop := BdC t L f0 cur ∧ BdR u c0 (encL cur)
/-- what the class's reading of a condition may change -/
def Ck (N f0 : Nat) (t t' : xT) : Prop := t'.1 = t.1 ∧ t'.2.1 = t.2.1 ∧ t'.2.2.1 = t.2.2.1 ∧ t'.2.2.2.2 = t.2.2.2.2 ∧ (∀ q, q ≠ N → q ≠ N + 1 → q ≠ N + 7 → q ≠ N + 8 → q ≠ N + 9 → tI t' q = tI t q) ∧ (∀ j, j ≠ 1 → j ≠ 2 → j ≠ 5 → j ≠ 6 → tI t' N j = tI t N j) ∧ (∀ j, j ≠ 9 → tI t' (N + 1) j = tI t (N + 1) j) ∧ ∀ j, j < f0 → tI t' (N + 7) j = tI t (N + 7) j ∧ tI t' (N + 8) j = tI t (N + 8) j ∧ tI t' (N + 9) j = tI t (N + 9) j
theorem Ck.rf (N f0 : Nat) (t : xT) : Ck N f0 t t := ⟨rfl, rfl, rfl, rfl, fun _ _ _ _ _ _ => rfl, fun _ _ _ _ _ => rfl, fun _ _ => rfl, fun _ _ => ⟨rfl, rfl, rfl⟩⟩
theorem Ck.tr {N f0 : Nat} {t t' t'' : xT} (h : Ck N f0 t t') (h' : Ck N f0 t' t'') : Ck N f0 t t'' := ⟨h'.1.trans h.1, h'.2.1.trans h.2.1, h'.2.2.1.trans h.2.2.1, h'.2.2.2.1.trans h.2.2.2.1, fun q a b c d e => (h'.2.2.2.2.1 q a b c d e).trans (h.2.2.2.2.1 q a b c d e), fun j a b c d => (h'.2.2.2.2.2.1 j a b c d).trans (h.2.2.2.2.2.1 j a b c d), fun j a => (h'.2.2.2.2.2.2.1 j a).trans (h.2.2.2.2.2.2.1 j a), fun j a => ⟨(h'.2.2.2.2.2.2.2 j a).1.trans (h.2.2.2.2.2.2.2 j a).1, (h'.2.2.2.2.2.2.2 j a).2.1.trans (h.2.2.2.2.2.2.2 j a).2.1, (h'.2.2.2.2.2.2.2 j a).2.2.trans (h.2.2.2.2.2.2.2 j a).2.2⟩⟩
theorem Rk.ck {N f0 : Nat} {t t' : xT} (h : Rk N t t') : Ck N f0 t t' := ⟨h.1, h.2.1, h.2.2.1, h.2.2.2.1, fun q a _ _ _ _ => h.2.2.2.2.1 q a, h.2.2.2.2.2, fun j _ => by rw [h.2.2.2.2.1 (N + 1) (by omega)], fun j _ => by rw [h.2.2.2.2.1 (N + 7) (by omega), h.2.2.2.2.1 (N + 8) (by omega), h.2.2.2.2.1 (N + 9) (by omega)]; exact ⟨rfl, rfl, rfl⟩⟩
/-- what the reference's reading of a condition may change -/
def Rf (c0 : Nat) (u u' : xS) : Prop := (∀ k, k ≠ 0 → u'.2.1 k = u.2.1 k) ∧ u'.2.2 = u.2.2 ∧ (∀ i, i < 103 + c0 → u'.2.1 0 i = u.2.1 0 i) ∧ ∀ j, j < 19 ∨ 24 < j → u'.1 j = u.1 j
theorem Rf.rf (c0 : Nat) (u : xS) : Rf c0 u u := ⟨fun _ _ => rfl, rfl, fun _ _ => rfl, fun _ _ => rfl⟩
theorem Rf.tr {c0 : Nat} {u u' u'' : xS} (h : Rf c0 u u') (h' : Rf c0 u' u'') : Rf c0 u u'' := ⟨fun k a => (h'.1 k a).trans (h.1 k a), h'.2.1.trans h.2.1, fun i a => (h'.2.2.1 i a).trans (h.2.2.1 i a), fun j a => (h'.2.2.2 j a).trans (h.2.2.2 j a)⟩
theorem Uk.f {c0 : Nat} {u u' : xS} (h : Uk u u') : Rf c0 u u' := ⟨fun k _ => by rw [h.1], by rw [h.1], fun i _ => by rw [h.1], fun j a => h.2 j (by omega) (by omega)⟩
theorem Fk.f {c0 : Nat} {u u' : xS} (h : Fk u u') : Rf c0 u u' := ⟨fun k _ => by rw [h.1], by rw [h.1], fun i _ => by rw [h.1], fun j a => h.2.2 j (by omega) (by omega) (by omega)⟩
theorem Rf.S (c0 : Nat) (u : xS) {j : Nat} (v : Int32) (h : 19 ≤ j) (h' : j ≤ 24) : Rf c0 u (mS u j v) := ⟨fun _ _ => rfl, rfl, fun _ _ => rfl, fun i a => mS_n _ _ (by omega)⟩
theorem Rf.A {c0 : Nat} (u : xS) {i : Nat} (v : Int32) (h : 103 + c0 ≤ i) : Rf c0 u (mA u 0 i v) := ⟨fun k a => mA_0 _ _ _ a, rfl, fun j a => by rw [mA_s, upd_n _ _ (by omega)], fun _ _ => rfl⟩
def Si (t : xT) (u : xS) (N q a : Nat) (T : Nat → Int32) (n st en f0 c0 o : Nat) (cur : List yX) : Prop := Tk t u N q T n st en ∧ LwO t a (N + 1) ∧ tP t N 0 = some (N + 1) ∧ u.1 24 = 0 ∧ Bd t u (N + 1) f0 c0 cur ∧ 2 * (f0 + cur.length) ≤ st ∧ c0 + (encL cur).length ≤ st ∧ u.1 22 = nI o ∧ q < N
theorem encL_app : ∀ l l' : List yX, encL (l ++ l') = encL l ++ encL l'
  | [], _ => rfl
  | x :: l, l' => by
    show enc x ++ encL (l ++ l') = (enc x ++ encL l) ++ encL l'
    rw [encL_app l l', List.append_assoc]
theorem LwO.ck {t t' : xT} {N f0 a L : Nat} (h : LwO t a L) (k : Ck N f0 t t') : LwO t' a L := by
  obtain ⟨k1, k2, k3, k4, -⟩ := k
  have eK : ∀ x, tK t' x = tK t x := fun x => congrFun k2 x
  have eN : ∀ x, tN t' x = tN t x := fun x => congrFun k3 x
  have eP : ∀ x, tP t' x = tP t x := fun x => congrFun k4 x
  obtain ⟨h1, h2, h3, h4, h5⟩ := h
  refine ⟨(eK L).trans h1, fun j j1 j2 => ?_, fun j j1 j2 => ?_, by rw [k1]; exact h4, h5⟩
  · unfold ArO; rw [eP, eK, eN]; exact h2 j j1 j2
  · unfold ArO; rw [eP, eK, eN]; exact h3 j j1 j2
/-- one more step in the class -/
theorem c_step {t : xT} {a L c : Nat} (hL : LwO t a L) (h9 : tI t L 9 = nI c) (hc : c < 100) (x y z : Int32) : ∃ t', F_X2_addStep t L x y z = some t' ∧ t'.1 = t.1 ∧ t'.2.1 = t.2.1 ∧ t'.2.2.1 = t.2.2.1 ∧ t'.2.2.2.2 = t.2.2.2.2 ∧ tI t' L 9 = nI (c + 1) ∧ (∀ j, j ≠ 9 → tI t' L j = tI t L j) ∧ tI t' (L + 6) = upd (tI t (L + 6)) c x ∧ tI t' (L + 7) = upd (tI t (L + 7)) c y ∧ tI t' (L + 8) = upd (tI t (L + 8)) c z ∧ ∀ q, q ≠ L → q ≠ L + 6 → q ≠ L + 7 → q ≠ L + 8 → tI t' q = tI t q := by
  obtain ⟨h1, h2, h3, h4, h5⟩ := hL
  obtain ⟨p6, k6, n6⟩ := h3 6 (by omega) (by omega)
  obtain ⟨p7, k7, n7⟩ := h3 7 (by omega) (by omega)
  obtain ⟨p8, k8, n8⟩ := h3 8 (by omega) (by omega)
  have ge : ¬ nI 100 ≤ nI c := nI_ge (by omega) (by omega)
  have ix : xIn (nI c) 100 := n_xIn hc (by omega)
  have ec : (nI c).toNatClampNeg = c := n_cl (by omega)
  let t1 := tSI t (L + 6) c x
  let t2 := tSI t1 (L + 7) c y
  let t3 := tSI t2 (L + 8) c z
  have a1 : tI t1 L 9 = nI c := by rw [show tI t1 L = tI t L from tI_SIn _ _ _ _ (by omega)]; exact h9
  have a2 : tI t2 L 9 = nI c := by rw [show tI t2 L = tI t1 L from tI_SIn _ _ _ _ (by omega)]; exact a1
  have a3 : tI t3 L 9 = nI c := by rw [show tI t3 L = tI t2 L from tI_SIn _ _ _ _ (by omega)]; exact a2
  refine ⟨tSI t3 L 9 (nI c + 1), ?_, rfl, rfl, rfl, rfl, by rw [tI_SI, upd_s, nI_1], fun j hj => ?_, ?_, ?_, ?_, fun q q1 q2 q3 q4 => ?_⟩
  · unfold F_X2_addStep F_X2_addStep_j76
    simp only [xlet]
    rw [if_pos h1, p6, Option.bind_some, if_pos k6, n6, h9, if_neg ge, p7, Option.bind_some, if_pos k7, n7, if_neg ge, p8, Option.bind_some, if_pos k8, n8, if_neg ge, Option.bind_some, if_pos k6, n6, if_pos ix, ec]
    show (tP t L 7).bind _ = _
    rw [p7, Option.bind_some]
    show (if tK t (L + 7) = 20 then if xIn (tI t1 L 9) (tN t (L + 7)) then _ else none else none) = _
    rw [if_pos k7, a1, n7, if_pos ix, ec]
    show (tP t L 8).bind _ = _
    rw [p8, Option.bind_some]
    show (if tK t (L + 8) = 20 then if xIn (tI t2 L 9) (tN t (L + 8)) then _ else none else none) = _
    rw [if_pos k8, a2, n8, if_pos ix, ec]
    show some (tSI t3 L 9 (tI t3 L 9 + 1)) = _
    rw [a3]
  · rw [tI_SI, upd_n _ _ hj, show tI t3 L = tI t2 L from tI_SIn _ _ _ _ (by omega), show tI t2 L = tI t1 L from tI_SIn _ _ _ _ (by omega), show tI t1 L = tI t L from tI_SIn _ _ _ _ (by omega)]
  · rw [tI_SIn _ _ _ _ (by omega), show tI t3 (L + 6) = tI t2 (L + 6) from tI_SIn _ _ _ _ (by omega), show tI t2 (L + 6) = tI t1 (L + 6) from tI_SIn _ _ _ _ (by omega)]
    exact tI_SI _ _ _ _
  · rw [tI_SIn _ _ _ _ (by omega), show tI t3 (L + 7) = tI t2 (L + 7) from tI_SIn _ _ _ _ (by omega)]
    refine (tI_SI _ _ _ _).trans ?_
    rw [show tI t1 (L + 7) = tI t (L + 7) from tI_SIn _ _ _ _ (by omega)]
  · rw [tI_SIn _ _ _ _ (by omega)]
    refine (tI_SI _ _ _ _).trans ?_
    rw [show tI t2 (L + 8) = tI t1 (L + 8) from tI_SIn _ _ _ _ (by omega), show tI t1 (L + 8) = tI t (L + 8) from tI_SIn _ _ _ _ (by omega)]
  · rw [tI_SIn _ _ _ _ q1, show tI t3 q = tI t2 q from tI_SIn _ _ _ _ q4, show tI t2 q = tI t1 q from tI_SIn _ _ _ _ q3, show tI t1 q = tI t q from tI_SIn _ _ _ _ q2]
