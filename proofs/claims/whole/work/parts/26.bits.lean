/-! ===== pure mathematics 5: the class's conditions on bits ===== -/
def bt (st : List Bool) (i : Nat) : Bool := ((st ++ [true])[i]?).getD false
theorem bt_0 (b : Bool) (q : List Bool) : bt (b :: q) 0 = b := rfl
theorem bt_s (b : Bool) (q : List Bool) (i : Nat) : bt (b :: q) (i + 1) = bt q i := rfl
theorem bt_big {st : List Bool} {i : Nat} (h : st.length < i) : bt st i = false := by
  unfold bt
  rw [List.getElem?_eq_none (by rw [List.length_append]; show st.length + 1 ≤ i; omega)]
  rfl
def Hb (y : Int64) (st : List Bool) : Prop := ∀ i, i < 64 → y.toBitVec.getLsbD i = bt st i
theorem Hb_1 : Hb 1 [] := by
  intro i hi
  show (1#64).getLsbD i = _
  rw [BitVec.getLsbD_one]
  match i with
  | 0 => rfl
  | i + 1 => simp [bt]
theorem b_one (i : Nat) : ((1 : Int64).toBitVec).getLsbD i = decide (i = 0) := by
  show (1#64).getLsbD i = _
  rw [BitVec.getLsbD_one]
  by_cases h : i = 0 <;> simp [h]
theorem b_m2 : ∀ i, i < 64 → ((-2 : Int64).toBitVec).getLsbD i = !decide (i = 0) := by decide
theorem b_shr1 (y : Int64) : (y >>> ((1 : Int32).toInt64 &&& 63)).toBitVec = y.toBitVec.sshiftRight 1 := rfl
theorem b_shl1 (y : Int64) : (y <<< ((1 : Int32).toInt64 &&& 63)).toBitVec = y.toBitVec <<< 1 := rfl
theorem Hb_not {y : Int64} {b : Bool} {q : List Bool} (h : Hb y (b :: q)) : Hb (y ^^^ (1 : Int64)) ((!b) :: q) := by
  intro i hi
  have e : (y ^^^ (1 : Int64)).toBitVec = y.toBitVec ^^^ (1 : Int64).toBitVec := rfl
  rw [e, BitVec.getLsbD_xor, b_one, h i hi]
  match i with
  | 0 => rw [bt_0, bt_0]; simp
  | i + 1 => rw [bt_s, bt_s]; simp
theorem Hb_shr {y : Int64} {b : Bool} {q : List Bool} (h : Hb y (b :: q)) (hq : q.length ≤ 60) {i : Nat} (hi : i < 64) : (y >>> ((1 : Int32).toInt64 &&& 63)).toBitVec.getLsbD i = bt q i := by
  rw [b_shr1, BitVec.getLsbD_sshiftRight]
  have e1 : decide (64 ≤ i) = false := by simp; omega
  rw [e1]
  by_cases c : 1 + i < 64
  · rw [if_pos c, h _ c, Nat.add_comm 1 i, bt_s]; rfl
  · rw [if_neg c, BitVec.msb_eq_getLsbD_last, h _ (by decide), bt_big (show q.length < i by omega)]
    show (!false && bt (b :: q) (62 + 1)) = false
    rw [bt_s, bt_big (by omega)]; rfl
theorem Hb_and {y : Int64} {b c : Bool} {q : List Bool} (h : Hb y (b :: c :: q)) (hq : q.length ≤ 50) : Hb ((y >>> ((1 : Int32).toInt64 &&& 63)) &&& ((y &&& (1 : Int64)) ||| (-2 : Int64))) ((c && b) :: q) := by
  intro i hi
  have e : ((y >>> ((1 : Int32).toInt64 &&& 63)) &&& ((y &&& (1 : Int64)) ||| (-2 : Int64))).toBitVec = (y >>> ((1 : Int32).toInt64 &&& 63)).toBitVec &&& ((y.toBitVec &&& (1 : Int64).toBitVec) ||| (-2 : Int64).toBitVec) := rfl
  rw [e, BitVec.getLsbD_and, BitVec.getLsbD_or, BitVec.getLsbD_and, Hb_shr h (by show q.length + 1 ≤ 60; omega) hi, b_one, b_m2 i hi, h i hi]
  match i with
  | 0 => rw [bt_0, bt_0, bt_0]; simp
  | i + 1 => rw [bt_s, bt_s, bt_s]; simp
theorem Hb_or {y : Int64} {b c : Bool} {q : List Bool} (h : Hb y (b :: c :: q)) (hq : q.length ≤ 50) : Hb ((y >>> ((1 : Int32).toInt64 &&& 63)) ||| (y &&& (1 : Int64))) ((c || b) :: q) := by
  intro i hi
  have e : ((y >>> ((1 : Int32).toInt64 &&& 63)) ||| (y &&& (1 : Int64))).toBitVec = (y >>> ((1 : Int32).toInt64 &&& 63)).toBitVec ||| (y.toBitVec &&& (1 : Int64).toBitVec) := rfl
  rw [e, BitVec.getLsbD_or, BitVec.getLsbD_and, Hb_shr h (by show q.length + 1 ≤ 60; omega) hi, b_one, h i hi]
  match i with
  | 0 => rw [bt_0, bt_0, bt_0]; simp
  | i + 1 => rw [bt_s, bt_s, bt_s]; simp
theorem Hb_push {y : Int64} {q : List Bool} (h : Hb y q) (v : Bool) : Hb ((y <<< ((1 : Int32).toInt64 &&& 63)) ||| (bB v).toInt64) (v :: q) := by
  intro i hi
  have e : ((y <<< ((1 : Int32).toInt64 &&& 63)) ||| (bB v).toInt64).toBitVec = (y.toBitVec <<< 1) ||| (bB v).toInt64.toBitVec := rfl
  have e2 : (bB v).toInt64.toBitVec.getLsbD i = (v && decide (i = 0)) := by
    cases v
    · show (0#64).getLsbD i = _
      simp
    · show (1#64).getLsbD i = _
      have := b_one i
      rw [show ((1 : Int64).toBitVec) = 1#64 from rfl] at this
      rw [this]; simp
  rw [e, BitVec.getLsbD_or, BitVec.getLsbD_shiftLeft, e2]
  match i with
  | 0 => rw [bt_0]; simp
  | i + 1 =>
    rw [bt_s, Nat.add_sub_cancel, h i (by omega)]
    have : decide (i + 1 < 64) = true := by simpa using hi
    rw [this]; simp
theorem Hb_end {y : Int64} {st : List Bool} (h : Hb y st) : ((y &&& (1 : Int64)) = 0) = (st.headD true = false) := by
  have h0 := h 0 (by decide)
  have hb : bt st 0 = st.headD true := by cases st <;> rfl
  rw [hb] at h0
  rw [← h0]
  apply propext
  have e : (y &&& (1 : Int64)).toInt = y.toInt % 2 := n_and1 y
  have e2 : y.toInt = y.toBitVec.toInt := rfl
  have e3 := BitVec.toInt_eq_toNat_cond y.toBitVec
  have e4 := y.toBitVec.isLt
  have e5 : y.toBitVec.getLsbD 0 = decide (y.toBitVec.toNat % 2 = 1) := by
    show y.toBitVec.toNat.testBit 0 = _
    rw [Nat.testBit_zero]
  rw [e5, fa_eq64, e, e2, e3]
  show _ = (0 : Int) ↔ _
  by_cases c : 2 * y.toBitVec.toNat < 2 ^ 64
  · rw [if_pos c]; simp; omega
  · rw [if_neg c]; simp; omega
theorem c_end {t : xT} {L : Nat} {y : Int64} {st : List Bool} (h : Hb y st) : F_X2_holds_j163 t L y = some (bB (st.headD true)) := by
  unfold F_X2_holds_j163 F_X2_holds_j177
  simp only [lg_cmp_eq, Hb_end h]
  cases hb : st.headD true
  · simp [bB]
  · simp [bB]
theorem c_cmp (o x y : Int32) (h : o = 0 ∨ o = 1 ∨ o = 2) : F_X2_compares o x y = some (bB (if o = 0 then decide (x < y) else if o = 1 then decide (x = y) else decide (y < x))) := by
  unfold F_X2_compares F_X2_compares_j38 F_X2_compares_j49 F_X2_compares_j60
  rcases h with h | h | h
  · subst h
    rw [if_pos rfl, if_pos rfl, bB_d]
    by_cases c : x < y
    · rw [if_neg (by rw [fa_le]; rw [fa_lt] at c; omega), if_pos c]; rfl
    · rw [if_pos (by rw [fa_le]; rw [fa_lt] at c; omega), if_neg c]; rfl
  · subst h
    rw [if_neg (show ¬ (1 : Int32) = 0 by decide), if_pos rfl, if_neg (show ¬ (1 : Int32) = 0 by decide), if_pos (show (1 : Int32) = 1 from rfl), bB_d]
    by_cases c : x = y
    · rw [if_pos c, if_pos c]; rfl
    · rw [if_neg c, if_neg c]; rfl
  · subst h
    rw [if_neg (show ¬ (2 : Int32) = 0 by decide), if_neg (show ¬ (2 : Int32) = 1 by decide), if_neg (show ¬ (2 : Int32) = 0 by decide), if_neg (show ¬ (2 : Int32) = 1 by decide), bB_d]
    by_cases c : y < x
    · rw [if_neg (by rw [fa_le]; rw [fa_lt] at c; omega), if_pos c]; rfl
    · rw [if_pos (by rw [fa_le]; rw [fa_lt] at c; omega), if_neg c]; rfl
theorem c_holds {t : xT} {a L p e : Nat} {day : Int32} (f : Int32 → Int32) (hL : LwO t a L) (he : e ≤ 100) (hf : ∀ c, F_X2_factOf t c p day = some (f c)) : ∀ (l : List (Int32 × Int32 × Int32)) (st : List Bool) (y : Int64) (i n : Nat), (okS l st.length ∨ (l = [] ∧ st = [])) → (∀ j x, l[j]? = some x → tI t (L + 6) (i + j) = x.1 ∧ tI t (L + 7) (i + j) = x.2.1 ∧ tI t (L + 8) (i + j) = x.2.2) → i + l.length = e → l.length < n → Hb y st → F_X2_holds_l6 n t L (nI e) p day y (nI i) = some (bB ((evS f l st).headD true))
  | [], st, y, i, 0, _, _, _, hn, _ => absurd hn (Nat.not_lt_zero _)
  | [], st, y, i, n + 1, ho, _, hi, _, hb => by
    have hi : i = e := by simpa using hi
    subst hi
    unfold F_X2_holds_l6
    rw [if_neg (nI_pos (by omega)), if_pos (nI_le (Nat.le_refl _) (by omega)), c_end hb]
    rfl
  | x :: l, st, y, i, 0, _, _, _, hn, _ => absurd hn (Nat.not_lt_zero _)
  | x :: l, st, y, i, n + 1, ho, hc, hi, hn, hb => by
    have ho : okS (x :: l) st.length := by
      rcases ho with h | ⟨h, _⟩
      · exact h
      · cases h
    obtain ⟨hd, ho⟩ := ho
    have hi : i + (l.length + 1) = e := hi
    have hn : l.length + 1 < n + 1 := hn
    have q0 := hc 0 x rfl
    rw [Nat.add_zero] at q0
    have ecl : (nI i).toNatClampNeg = i := n_cl (by omega)
    have q0 : tI t (L + 6) (nI i).toNatClampNeg = x.1 ∧ tI t (L + 7) (nI i).toNatClampNeg = x.2.1 ∧ tI t (L + 8) (nI i).toNatClampNeg = x.2.2 := by rw [ecl]; exact q0
    have tail : ∀ j z, l[j]? = some z → tI t (L + 6) (i + 1 + j) = z.1 ∧ tI t (L + 7) (i + 1 + j) = z.2.1 ∧ tI t (L + 8) (i + 1 + j) = z.2.2 := by
      intro j z hz
      have := hc (j + 1) z hz
      rw [show i + 1 + j = i + (j + 1) by omega]
      exact this
    have h6 := hL.2.2.1 6 (by decide) (by decide)
    have h7 := hL.2.2.1 7 (by decide) (by decide)
    have h8 := hL.2.2.1 8 (by decide) (by decide)
    have ev : evS f (x :: l) st = evS f l (stp f x st) := rfl
    conv => lhs; unfold F_X2_holds_l6
    rw [if_neg (nI_pos (by omega)), if_neg (nI_ge (by omega) (by omega)), if_neg (show ¬ (100 : Int32) ≤ nI i from nI_ge (a := i) (b := 100) (by omega) (by decide))]
    show (if tK t L = 2 then _ else _) = _
    rw [if_pos hL.1, h6.1, Option.bind_some, if_pos h6.2.1, h6.2.2, if_pos (n_xIn (by omega) (by decide)), q0.1, ev]
    simp only [F_X2_holds_j157, F_X2_holds_j153, nI_1, xlet]
    rcases ho with ⟨o3, d1, ho⟩ | ⟨o45, d2, ho⟩ | ⟨oc, v1, v2, ho⟩
    · match st, d1, hb, hd, ho with
      | b :: q, _, hb, hd, ho =>
        have es : stp f x (b :: q) = (!b) :: q := by unfold stp; rw [if_pos o3]
        rw [if_pos o3, es]
        exact c_holds f hL he hf l ((!b) :: q) _ (i + 1) n (Or.inl ho) tail (by omega) (by omega) (Hb_not hb)
    · have n3 : ¬ x.1 = 3 := by rcases o45 with h | h <;> rw [h] <;> decide
      match st, d2, hb, hd, ho with
      | b :: b2 :: q, _, hb, hd, ho =>
        have hq : q.length + 2 ≤ 40 := hd
        rw [if_neg n3]
        by_cases h4 : x.1 = 4
        · have es : stp f x (b :: b2 :: q) = (b2 && b) :: q := by unfold stp; rw [if_neg n3, if_pos h4]
          rw [if_pos h4, es]
          exact c_holds f hL he hf l ((b2 && b) :: q) _ (i + 1) n (Or.inl ho) tail (by omega) (by omega) (Hb_and hb (by omega))
        · have h5 : x.1 = 5 := by rcases o45 with h | h; exact absurd h h4; exact h
          have es : stp f x (b :: b2 :: q) = (b2 || b) :: q := by unfold stp; rw [if_neg n3, if_neg h4, if_pos h5]
          rw [if_neg h4, if_pos h5, es]
          exact c_holds f hL he hf l ((b2 || b) :: q) _ (i + 1) n (Or.inl ho) tail (by omega) (by omega) (Hb_or hb (by omega))
    · have n3 : ¬ x.1 = 3 := by rcases oc with h | h | h <;> rw [h] <;> decide
      have n4 : ¬ x.1 = 4 := by rcases oc with h | h | h <;> rw [h] <;> decide
      have n5 : ¬ x.1 = 5 := by rcases oc with h | h | h <;> rw [h] <;> decide
      have es : stp f x st = (if x.1 = 0 then decide (f x.2.1 < f x.2.2) else if x.1 = 1 then decide (f x.2.1 = f x.2.2) else decide (f x.2.2 < f x.2.1)) :: st := by unfold stp; rw [if_neg n3, if_neg n4, if_neg n5]
      rw [if_neg n3, if_neg n4, if_neg n5, Option.bind_some, if_pos h6.2.1, h6.2.2, if_pos (n_xIn (by omega) (by decide)), h7.1, Option.bind_some, if_pos h7.2.1, h7.2.2, if_pos (n_xIn (by omega) (by decide)), q0.2.1, hf, Option.bind_some, h8.1, Option.bind_some, if_pos h8.2.1, h8.2.2, if_pos (n_xIn (by omega) (by decide)), q0.2.2, hf, Option.bind_some, q0.1, c_cmp _ _ _ oc, Option.bind_some, es]
      have fin := fun v => c_holds f hL he hf l (v :: st) ((y <<< ((1 : Int32).toInt64 &&& 63)) ||| (bB v).toInt64) (i + 1) n (Or.inl ho) tail (by omega) (by omega) (Hb_push hb v)
      generalize (if x.1 = 0 then decide (f x.2.1 < f x.2.2) else if x.1 = 1 then decide (f x.2.1 = f x.2.2) else decide (f x.2.2 < f x.2.1)) = v
      cases v
      · exact fin false
      · exact fin true
