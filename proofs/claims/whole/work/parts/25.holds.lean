/-! ===== pure mathematics 4: conditions hold alike in class and reference ===== -/
def bB (b : Bool) : Int32 := if b = true then 1 else 0
theorem bB_01 (b : Bool) : bB b = 0 ∨ bB b = 1 := by cases b <;> simp [bB]
def mG (u : xS) (g : Nat → Int32) : xS := (u.1, fun j => if j = 4 then g else u.2.1 j, u.2.2)
theorem mG_mA (u : xS) (i : Nat) (v : Int32) (g : Nat → Int32) : mG (mA u 4 i v) g = mG u g := by
  unfold mG mA
  congr 1
  congr 1
  funext j
  by_cases h : j = 4
  · simp [h]
  · simp [h]
theorem mG_self (u : xS) : mG u (u.2.1 4) = u := by
  obtain ⟨u1, u2, u3⟩ := u
  unfold mG
  congr 1
  congr 1
  funext j
  by_cases h : j = 4
  · simp [h]
  · simp [h]
theorem mA_0 (u : xS) (i : Nat) (v : Int32) {k j : Nat} (h : j ≠ k) : (mA u k i v).2.1 j = u.2.1 j := by
  unfold mA; simp [h]
theorem mA_s (u : xS) (i k : Nat) (v : Int32) : (mA u k i v).2.1 k = upd (u.2.1 k) i v := by
  unfold mA; simp
def stk (g : Nat → Int32) : List Bool → Prop
  | [] => True
  | b :: q => g q.length = bB b ∧ stk g q
theorem stk_upd {g : Nat → Int32} {v : Int32} : ∀ {st : List Bool} {j : Nat}, stk g st → st.length ≤ j → stk (upd g j v) st
  | [], _, _, _ => trivial
  | b :: q, j, h, hj => by
    have hj : q.length + 1 ≤ j := hj
    refine ⟨?_, stk_upd h.2 (by omega)⟩
    show (if q.length = j then v else g q.length) = bB b
    rw [if_neg (by omega)]
    exact h.1
theorem upd_s (g : Nat → Int32) (j : Nat) (v : Int32) : upd g j v j = v := by unfold upd; rw [if_pos rfl]
theorem upd_n (g : Nat → Int32) {i j : Nat} (v : Int32) (h : i ≠ j) : upd g j v i = g i := by unfold upd; rw [if_neg h]
theorem r_fact (u : xS) {k : Nat} (hk : k < 60) (c : Int32) : F_X12_fact u c (nI k) = some (fct (u.2.1 0) k c) := by
  unfold F_X12_fact fct
  have e3 := n_its u (k := k) (w := 3) (by omega)
  have e2 := n_its u (k := k) (w := 2) (by omega)
  have e1 := n_its u (k := k) (w := 1) (by omega)
  change F_X12_its u (nI k) 3 = _ at e3
  change F_X12_its u (nI k) 2 = _ at e2
  change F_X12_its u (nI k) 1 = _ at e1
  rw [e1, e2, e3]
  by_cases h5 : c = -5
  · rw [if_pos h5, if_pos h5]
  rw [if_neg h5, if_neg h5]
  by_cases h4 : c = -4
  · rw [if_pos h4, if_pos h4]; rfl
  rw [if_neg h4, if_neg h4]
  by_cases h3 : c = -3
  · rw [if_pos h3, if_pos h3]; rfl
  rw [if_neg h3, if_neg h3]
  by_cases h2 : c = -2
  · rw [if_pos h2, if_pos h2]; rfl
  rw [if_neg h2, if_neg h2]
  by_cases h1 : c = -1
  · rw [if_pos h1, if_pos h1]; rfl
  rw [if_neg h1, if_neg h1]
theorem r_h_go {u : xS} {c1 k c d n : Nat} (hc : c < c1) (h1 : c1 ≤ 200) : F_X12_holds_l6 (n + 1) u (nI c1) (nI k) (nI d) (nI c) = (if (u.2.1 0 (103 + c)) ≤ (-10 : Int32) then if (u.2.1 0 (103 + c)) = (-20 : Int32) then if xIn (nI d - (1 : Int32)) 200 then if xIn (nI d - (1 : Int32)) 200 then xlet (mA u 4 (nI d - (1 : Int32)).toNatClampNeg ((1 : Int32) - (u.2.1 4 (nI d - (1 : Int32)).toNatClampNeg))) (fun u22 => F_X12_holds_l6 n u22 (nI c1) (nI k) (nI d) (nI (c + 1))) else none else none else xlet (nI d + (-1 : Int32)) (fun x13 => if xIn (x13 - (1 : Int32)) 200 then if xIn x13 200 then (F_X12_isHolding (u.2.1 0 (103 + c)) (u.2.1 4 (x13 - (1 : Int32)).toNatClampNeg) (u.2.1 4 x13.toNatClampNeg)).bind (fun r16 => if r16 = 0 then F_X12_holds_j121 (F_X12_holds_l6 n) u (nI c1) (nI k) x13 (nI c) (x13 - (1 : Int32)) (0 : Int32) else F_X12_holds_j121 (F_X12_holds_l6 n) u (nI c1) (nI k) x13 (nI c) (x13 - (1 : Int32)) (1 : Int32)) else none else none) else (F_X12_fact u (u.2.1 0 (103 + c)) (nI k)).bind (fun r23 => if xIn (nI d) 200 then xlet (mA u 4 (nI d).toNatClampNeg r23) (fun u26 => F_X12_holds_l6 n u26 (nI c1) (nI k) (nI d + (1 : Int32)) (nI (c + 1))) else none)) := by
  have e1 : ¬ nI c1 ≤ nI c := nI_ge hc (by omega)
  have e2 : (103 : Int32) + nI c = nI (103 + c) := nI_add 103 c
  have e3 : nI c + (1 : Int32) = nI (c + 1) := nI_1 c
  conv => lhs; unfold F_X12_holds_l6
  rw [if_neg e1, e2, if_pos (n_xIn (by omega) (by omega)), n_cl (by omega)]
  unfold F_X12_holds_j122
  rw [e3]
  rfl
theorem r_h_push {u : xS} {c1 k c d n : Nat} (hc : c < c1) (h1 : c1 ≤ 200) (hk : k < 60) (hd : d < 200) (hx : (-10 : Int32) < u.2.1 0 (103 + c)) : F_X12_holds_l6 (n + 1) u (nI c1) (nI k) (nI d) (nI c) = F_X12_holds_l6 n (mA u 4 d (fct (u.2.1 0) k (u.2.1 0 (103 + c)))) (nI c1) (nI k) (nI (d + 1)) (nI (c + 1)) := by
  rw [r_h_go hc h1, if_neg (by rw [fa_le]; rw [fa_lt] at hx; omega), r_fact u hk, Option.bind_some, if_pos (n_xIn hd (by omega)), n_cl (by omega), nI_1]
  rfl
theorem r_h_not {u : xS} {c1 k c d n : Nat} (hc : c < c1) (h1 : c1 ≤ 200) (hd : d < 200) (hx : u.2.1 0 (103 + c) = -20) : F_X12_holds_l6 (n + 1) u (nI c1) (nI k) (nI (d + 1)) (nI c) = F_X12_holds_l6 n (mA u 4 d (1 - u.2.1 4 d)) (nI c1) (nI k) (nI (d + 1)) (nI (c + 1)) := by
  have e : nI (d + 1) - (1 : Int32) = nI d := nI_pred d
  rw [r_h_go hc h1, hx, if_pos (by decide), if_pos rfl, e, if_pos (n_xIn hd (by omega)), if_pos (n_xIn hd (by omega)), n_cl (by omega)]
  rfl
theorem r_h_bin {u : xS} {c1 k c d n : Nat} {v : Int32} (hc : c < c1) (h1 : c1 ≤ 200) (hd : d + 1 < 200) (hx : u.2.1 0 (103 + c) ≤ -10) (hx2 : u.2.1 0 (103 + c) ≠ -20) (hv : F_X12_isHolding (u.2.1 0 (103 + c)) (u.2.1 4 d) (u.2.1 4 (d + 1)) = some v) (hv1 : v = 0 ∨ v = 1) : F_X12_holds_l6 (n + 1) u (nI c1) (nI k) (nI (d + 2)) (nI c) = F_X12_holds_l6 n (mA u 4 d v) (nI c1) (nI k) (nI (d + 1)) (nI (c + 1)) := by
  have e : nI (d + 2) + (-1 : Int32) = nI (d + 1) := pk_m1 (d + 1)
  have e2 : nI (d + 1) - (1 : Int32) = nI d := nI_pred d
  rw [r_h_go hc h1, if_pos hx, if_neg hx2, e]
  show (if xIn (nI (d + 1) - (1 : Int32)) 200 then _ else _) = _
  rw [e2, if_pos (n_xIn (by omega) (by omega)), if_pos (n_xIn hd (by omega)), n_cl (by omega), n_cl (by omega), hv, Option.bind_some]
  unfold F_X12_holds_j121 F_X12_holds_j122
  rw [if_pos (n_xIn (by omega) (by omega)), if_pos (n_xIn (by omega) (by omega)), n_cl (by omega), nI_1]
  rcases hv1 with h | h
  · subst h; rw [if_pos rfl]; rfl
  · subst h; rw [if_neg (by decide)]; rfl
theorem bB_d (p : Prop) [Decidable p] : bB (decide p) = if p then 1 else 0 := by
  unfold bB
  by_cases h : p
  · rw [if_pos h]; simp [h]
  · rw [if_neg h]; simp [h]
theorem r_cmp (o x y : Int32) (h : o = 0 ∨ o = 1 ∨ o = 2) : F_X12_isHolding (-11 - o) x y = some (bB (if o = 0 then decide (x < y) else if o = 1 then decide (x = y) else decide (y < x))) := by
  unfold F_X12_isHolding F_X12_isHolding_j54 F_X12_isHolding_j65 F_X12_isHolding_j76
  rcases h with h | h | h
  · subst h
    rw [if_neg (by decide), if_neg (by decide), if_neg (by decide), if_pos (by decide), if_pos rfl, bB_d]
    by_cases c : x < y
    · rw [if_neg (by rw [fa_le]; rw [fa_lt] at c; omega), if_pos c]; rfl
    · rw [if_pos (by rw [fa_le]; rw [fa_lt] at c; omega), if_neg c]; rfl
  · subst h
    rw [if_neg (by decide), if_neg (by decide), if_pos (by decide), if_neg (show ¬ (1 : Int32) = 0 by decide), if_pos (show (1 : Int32) = 1 from rfl), bB_d]
    by_cases c : x = y
    · rw [if_pos c, if_pos c]; rfl
    · rw [if_neg c, if_neg c]; rfl
  · subst h
    rw [if_neg (by decide), if_pos (by decide), if_neg (show ¬ (2 : Int32) = 0 by decide), if_neg (show ¬ (2 : Int32) = 1 by decide), bB_d]
    by_cases c : y < x
    · rw [if_neg (by rw [fa_le]; rw [fa_lt] at c; omega), if_pos c]; rfl
    · rw [if_pos (by rw [fa_le]; rw [fa_lt] at c; omega), if_neg c]; rfl
theorem r_and (b c : Bool) : F_X12_isHolding (-21) (bB b) (bB c) = some (bB (b && c)) := by
  cases b <;> cases c <;> rfl
theorem r_or (b c : Bool) : F_X12_isHolding (-22) (bB b) (bB c) = some (bB (b || c)) := by
  cases b <;> cases c <;> rfl
theorem r_holds (s : Nat → Int32) (k c1 : Nat) (hk : k < 60) (h1 : c1 ≤ 200) : ∀ (l : List (Int32 × Int32 × Int32)) (st : List Bool) (u : xS) (c n : Nat), u.2.1 0 = s → (okS l st.length ∨ (l = [] ∧ st = [])) → (∀ j x, (encL l)[j]? = some x → s (103 + (c + j)) = x) → c + (encL l).length = c1 → (encL l).length < n → stk (u.2.1 4) st → ∃ g, F_X12_holds_l6 n u (nI c1) (nI k) (nI st.length) (nI c) = some (bB ((evS (fct s k) l st).headD true), mG u g)
  | [], st, u, c, 0, _, _, _, _, hn, _ => absurd hn (Nat.not_lt_zero _)
  | [], st, u, c, n + 1, hs, ho, _, hc, _, hst => by
    have hc : c = c1 := by simpa [encL] using hc
    subst hc
    refine ⟨u.2.1 4, ?_⟩
    rw [mG_self]
    unfold F_X12_holds_l6 F_X12_holds_j143 F_X12_holds_j148
    rw [if_pos (nI_le (Nat.le_refl _) (by omega))]
    rcases ho with h | ⟨_, h⟩
    · have h : st.length = 1 := h
      match st, h, hst with
      | [b], _, hst =>
        rw [if_neg (show ¬ nI [b].length = 0 from nI_ne0 (Nat.zero_lt_one) (show (1 : Nat) < 2 ^ 31 by decide)), if_pos (by decide)]
        have e : u.2.1 4 (0 : Int32).toNatClampNeg = bB b := hst.1
        rw [e]
        cases b <;> rfl
    · subst h
      rw [if_pos (by decide)]; rfl
  | x :: l, st, u, c, n, hs, ho, hcode, hc, hn, hst => by
    have ho : okS (x :: l) st.length := by
      rcases ho with h | ⟨h, _⟩
      · exact h
      · cases h
    obtain ⟨hd, ho⟩ := ho
    have hL : (encL (x :: l)) = enc x ++ encL l := rfl
    rw [hL] at hcode hc hn
    rw [List.length_append] at hc hn
    have tail : ∀ m, (enc x).length = m → ∀ j y, (encL l)[j]? = some y → s (103 + (c + m + j)) = y := by
      intro m hm j y hy
      have := hcode (m + j) y (by rw [List.getElem?_append_right (by omega), hm, Nat.add_sub_cancel_left]; exact hy)
      rw [← this]
      congr 1
      omega
    rcases ho with ⟨o3, d1, ho⟩ | ⟨o45, d2, ho⟩ | ⟨oc, v1, v2, ho⟩
    · have en : enc x = [-20] := by unfold enc; rw [if_pos o3]
      rw [en] at hcode hc hn tail
      have q1 := hcode 0 (-20) rfl
      match st, d1, hst, hd, ho with
      | b :: q, _, hst, hd, ho =>
        match n, hn with
        | n + 1, hn =>
          have hc : c + (1 + (encL l).length) = c1 := hc
          have hn : 1 + (encL l).length < n + 1 := hn
          have hq : q.length + 1 ≤ 40 := hd
          have ih := r_holds s k c1 hk h1 l ((!b) :: q) (mA u 4 q.length (1 - u.2.1 4 q.length)) (c + 1) n (by rw [mA_0 _ _ _ (by decide)]; exact hs) (Or.inl ho) (tail 1 rfl) (by omega) (by omega) ⟨by rw [mA_s, upd_s, hst.1]; cases b <;> rfl, by rw [mA_s]; exact stk_upd hst.2 (Nat.le_refl _)⟩
          obtain ⟨g, ih⟩ := ih
          rw [mG_mA] at ih
          refine ⟨g, ?_⟩
          show F_X12_holds_l6 (n + 1) u (nI c1) (nI k) (nI (q.length + 1)) (nI c) = _
          rw [r_h_not (by omega) h1 (by omega) (by rw [hs]; exact q1)]
          have ev : evS (fct s k) (x :: l) (b :: q) = evS (fct s k) l ((!b) :: q) := by
            show evS (fct s k) l (stp (fct s k) x (b :: q)) = _
            unfold stp
            rw [if_pos o3]
          rw [ev]
          exact ih
    · have n3 : x.1 ≠ 3 := by rcases o45 with h | h <;> rw [h] <;> decide
      match st, d2, hst, hd, ho with
      | b :: b2 :: q, _, hst, hd, ho =>
        match n, hn with
        | n + 1, hn =>
          have hq : q.length + 2 ≤ 40 := hd
          have hlen : (enc x).length = 1 := by
            unfold enc
            rcases o45 with h | h
            · rw [if_neg n3, if_pos h]; rfl
            · rw [if_neg n3, if_neg (by rw [h]; decide), if_pos h]; rfl
          rw [hlen] at hc hn
          have q1 : s (103 + c) = if x.1 = 4 then -21 else -22 := by
            have := hcode 0 (if x.1 = 4 then -21 else -22) (by
              unfold enc
              rcases o45 with h | h
              · rw [if_neg n3, if_pos h, if_pos h]; rfl
              · rw [if_neg n3, if_neg (by rw [h]; decide), if_pos h, if_neg (by rw [h]; decide)]; rfl)
            exact this
          have hv : F_X12_isHolding (u.2.1 0 (103 + c)) (u.2.1 4 q.length) (u.2.1 4 (q.length + 1)) = some (bB (if x.1 = 4 then (b2 && b) else (b2 || b))) := by
            have w1 : u.2.1 4 q.length = bB b2 := hst.2.1
            have w2 : u.2.1 4 (q.length + 1) = bB b := hst.1
            rw [hs, q1, w1, w2]
            by_cases h : x.1 = 4
            · rw [if_pos h, if_pos h]; exact r_and b2 b
            · rw [if_neg h, if_neg h]; exact r_or b2 b
          have ih := r_holds s k c1 hk h1 l ((if x.1 = 4 then (b2 && b) else (b2 || b)) :: q) (mA u 4 q.length (bB (if x.1 = 4 then (b2 && b) else (b2 || b)))) (c + 1) n (by rw [mA_0 _ _ _ (by decide)]; exact hs) (Or.inl ho) (tail 1 hlen) (by omega) (by omega) ⟨by rw [mA_s, upd_s], by rw [mA_s]; exact stk_upd hst.2.2 (Nat.le_refl _)⟩
          obtain ⟨g, ih⟩ := ih
          rw [mG_mA] at ih
          refine ⟨g, ?_⟩
          show F_X12_holds_l6 (n + 1) u (nI c1) (nI k) (nI (q.length + 2)) (nI c) = _
          rw [r_h_bin (by omega) h1 (by omega) (by rw [hs, q1]; by_cases h : x.1 = 4 <;> simp [h] <;> decide) (by rw [hs, q1]; by_cases h : x.1 = 4 <;> simp [h] <;> decide) hv (bB_01 _)]
          have ev : evS (fct s k) (x :: l) (b :: b2 :: q) = evS (fct s k) l ((if x.1 = 4 then (b2 && b) else (b2 || b)) :: q) := by
            show evS (fct s k) l (stp (fct s k) x (b :: b2 :: q)) = _
            unfold stp
            rw [if_neg n3]
            rcases o45 with h | h
            · rw [if_pos h, if_pos h]
            · have e4 : ¬ x.1 = 4 := by rw [h]; decide
              rw [if_neg e4, if_pos h, if_neg e4]
          rw [ev]
          exact ih
    · have n3 : x.1 ≠ 3 := by rcases oc with h | h | h <;> rw [h] <;> decide
      have n4 : x.1 ≠ 4 := by rcases oc with h | h | h <;> rw [h] <;> decide
      have n5 : x.1 ≠ 5 := by rcases oc with h | h | h <;> rw [h] <;> decide
      have en : enc x = [x.2.1, x.2.2, -11 - x.1] := by unfold enc; rw [if_neg n3, if_neg n4, if_neg n5]
      rw [en] at hcode hc hn tail
      have q0 : s (103 + c) = x.2.1 := hcode 0 _ rfl
      have q1 : s (103 + (c + 1)) = x.2.2 := hcode 1 _ rfl
      have q2 : s (103 + (c + 2)) = -11 - x.1 := hcode 2 _ rfl
      obtain ⟨n, rfl⟩ : ∃ m, n = m + 3 := ⟨n - 3, by have : (3 : Nat) ≤ [x.2.1, x.2.2, -11 - x.1].length + (encL l).length := Nat.le_add_right 3 _; omega⟩
      have hc : c + (3 + (encL l).length) = c1 := hc
      have hn : 3 + (encL l).length < n + 3 := hn
      rw [r_h_push (n := n + 2) (by omega) h1 hk (by omega) (by rw [hs, q0]; exact v1)]
      rw [r_h_push (n := n + 1) (by omega) h1 hk (by omega) (by rw [mA_0 _ _ _ (by decide), hs, q1]; exact v2)]
      rw [mA_0 _ _ _ (by decide), hs, q0, q1]
      have hs2 : (mA (mA u 4 st.length (fct s k x.2.1)) 4 (st.length + 1) (fct s k x.2.2)).2.1 0 = s := by rw [mA_0 _ _ _ (by decide), mA_0 _ _ _ (by decide), hs]
      have w0 : (mA (mA u 4 st.length (fct s k x.2.1)) 4 (st.length + 1) (fct s k x.2.2)).2.1 4 st.length = fct s k x.2.1 := by rw [mA_s, upd_n _ _ (by omega), mA_s, upd_s]
      have w1 : (mA (mA u 4 st.length (fct s k x.2.1)) 4 (st.length + 1) (fct s k x.2.2)).2.1 4 (st.length + 1) = fct s k x.2.2 := by rw [mA_s, upd_s]
      have hle : -11 - x.1 ≤ -10 ∧ -11 - x.1 ≠ -20 := by rcases oc with h | h | h <;> rw [h] <;> decide
      rw [r_h_bin (n := n) (v := bB (if x.1 = 0 then decide (fct s k x.2.1 < fct s k x.2.2) else if x.1 = 1 then decide (fct s k x.2.1 = fct s k x.2.2) else decide (fct s k x.2.2 < fct s k x.2.1))) (by omega) h1 (by omega) (by rw [hs2, q2]; exact hle.1) (by rw [hs2, q2]; exact hle.2) (by rw [hs2, q2, w0, w1]; exact r_cmp _ _ _ oc) (bB_01 _)]
      have hs3 : stk ((mA (mA u 4 st.length (fct s k x.2.1)) 4 (st.length + 1) (fct s k x.2.2)).2.1 4) st := by rw [mA_s]; exact stk_upd (by rw [mA_s]; exact stk_upd hst (Nat.le_refl _)) (by omega)
      have ih := r_holds s k c1 hk h1 l ((if x.1 = 0 then decide (fct s k x.2.1 < fct s k x.2.2) else if x.1 = 1 then decide (fct s k x.2.1 = fct s k x.2.2) else decide (fct s k x.2.2 < fct s k x.2.1)) :: st) (mA (mA (mA u 4 st.length (fct s k x.2.1)) 4 (st.length + 1) (fct s k x.2.2)) 4 st.length (bB (if x.1 = 0 then decide (fct s k x.2.1 < fct s k x.2.2) else if x.1 = 1 then decide (fct s k x.2.1 = fct s k x.2.2) else decide (fct s k x.2.2 < fct s k x.2.1)))) (c + 3) n (by rw [mA_0 _ _ _ (by decide)]; exact hs2) (Or.inl ho) (tail 3 rfl) (by omega) (by omega) ⟨by rw [mA_s, upd_s], by rw [mA_s]; exact stk_upd hs3 (Nat.le_refl _)⟩
      obtain ⟨g, ih⟩ := ih
      rw [mG_mA, mG_mA, mG_mA] at ih
      refine ⟨g, ?_⟩
      have ev : evS (fct s k) (x :: l) st = evS (fct s k) l ((if x.1 = 0 then decide (fct s k x.2.1 < fct s k x.2.2) else if x.1 = 1 then decide (fct s k x.2.1 = fct s k x.2.2) else decide (fct s k x.2.2 < fct s k x.2.1)) :: st) := by
        show evS (fct s k) l (stp (fct s k) x st) = _
        unfold stp
        rw [if_neg n3, if_neg n4, if_neg n5]
      rw [ev]
      exact ih
