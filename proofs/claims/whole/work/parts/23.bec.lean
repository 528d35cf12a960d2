/-! ===== pure mathematics 2: what a purse becomes by a bridge, and the least that becomes a goal ===== -/
def kK (x : Int32) : Nat := if x = 2 then 9 else if x = 3 then 5 else if x = 4 then 1 else if x = 5 then 4 else 6
def zr (kd : Int32) (tm tl p : Int) : Int := if kd = 2 ∨ kd = 3 then tm * (p - tl) else if kd = 4 ∨ kd = 5 then (tm * p - tl) - (tm * p - tl) % 2 else tm * p - tl
def zc (v : Int) : Int := if v < 0 then -1 else if 1000000000 < v then 1000000000 else v
def zb (kd : Int32) (tm tl : Int) (op : Int32) (p : Int) : Int := if op = 0 ∨ p < 0 then -1 else zc (zr kd tm tl p)
def zq (kd : Int32) (tm tl g : Int) : Int := if kd = 2 ∨ kd = 3 then (g + tm - 1) / tm + tl else if kd = 4 ∨ kd = 5 then (g + g % 2 + tl + tm - 1) / tm else (g + tl + tm - 1) / tm
def zl (kd : Int32) (tm tl : Int) (op : Int32) (g : Int) : Int := if op = 0 ∨ g < 0 then -1 else if 1000000000 < zq kd tm tl g then -1 else zq kd tm tl g
theorem zc_rng (v : Int) : -1 ≤ zc v ∧ zc v ≤ 1000000000 := by
  unfold zc
  by_cases h1 : v < 0
  · rw [if_pos h1]; omega
  · rw [if_neg h1]
    by_cases h2 : 1000000000 < v
    · rw [if_pos h2]; omega
    · rw [if_neg h2]; omega
theorem zb_rng (kd : Int32) (tm tl : Int) (op : Int32) (p : Int) : -1 ≤ zb kd tm tl op p ∧ zb kd tm tl op p ≤ 1000000000 := by
  unfold zb
  by_cases h : op = 0 ∨ p < 0
  · rw [if_pos h]; omega
  · rw [if_neg h]; exact zc_rng _
def gI (kd tm tl op : Int32) (p : Int) : Int32 := Int32.ofInt (zb kd tm.toInt tl.toInt op p)
def gB (kd tm tl op x : Int32) : Int32 := gI kd tm tl op x.toInt
def gL (kd : Int32) (tm tl op x : Int32) : Int32 := Int32.ofInt (zl kd tm.toInt tl.toInt op x.toInt)
theorem gB_I (kd tm tl op x : Int32) : (gB kd tm tl op x).toInt = zb kd tm.toInt tl.toInt op x.toInt := by
  have := zb_rng kd tm.toInt tl.toInt op x.toInt
  exact fb_ofI (by omega) (by omega)
theorem gB_rng (kd tm tl op x : Int32) : -1 ≤ (gB kd tm tl op x).toInt ∧ (gB kd tm tl op x).toInt ≤ 1000000000 := by
  rw [gB_I]; exact zb_rng _ _ _ _ _
theorem zdiv_le {x t p : Int} (ht : 0 < t) : (x + t - 1) / t ≤ p ↔ x ≤ t * p := by
  have h1 := Int.emod_add_mul_ediv (x + t - 1) t
  have h2 := Int.emod_nonneg (x + t - 1) (Int.ne_of_gt ht)
  have h3 := Int.emod_lt_of_pos (x + t - 1) ht
  generalize (x + t - 1) / t = q at *
  generalize (x + t - 1) % t = r at *
  constructor
  · intro h
    have := Int.mul_le_mul_of_nonneg_left h (Int.le_of_lt ht)
    omega
  · intro h
    refine Int.not_lt.mp fun hc => ?_
    have hc : p + 1 ≤ q := hc
    have := Int.mul_le_mul_of_nonneg_left hc (Int.le_of_lt ht)
    rw [Int.mul_add] at this
    omega
theorem zr_le {kd : Int32} {tm tl p g : Int} (ht : 0 < tm) : g ≤ zr kd tm tl p ↔ zq kd tm tl g ≤ p := by
  unfold zr zq
  by_cases h1 : kd = 2 ∨ kd = 3
  · rw [if_pos h1, if_pos h1]
    have := zdiv_le (x := g) (t := tm) (p := p - tl) ht
    omega
  · rw [if_neg h1, if_neg h1]
    by_cases h2 : kd = 4 ∨ kd = 5
    · rw [if_pos h2, if_pos h2, zdiv_le ht]
      generalize tm * p = m
      omega
    · rw [if_neg h2, if_neg h2, zdiv_le ht]
      generalize tm * p = m
      omega
theorem zq_nn {kd : Int32} {tm tl g : Int} (ht : 0 < tm) (hl : 0 ≤ tl) (hg : 0 ≤ g) : 0 ≤ zq kd tm tl g := by
  unfold zq
  have e : ∀ x : Int, 0 ≤ x → 0 ≤ (x + tm - 1) / tm := fun x hx => Int.ediv_nonneg (by omega) (by omega)
  by_cases h1 : kd = 2 ∨ kd = 3
  · rw [if_pos h1]; have := e g hg; omega
  · rw [if_neg h1]
    by_cases h2 : kd = 4 ∨ kd = 5
    · rw [if_pos h2]; exact e _ (by omega)
    · rw [if_neg h2]; exact e _ (by omega)
/-- what becomes a goal or more: all from the least on -/
theorem zgal {kd : Int32} {tm tl : Int} {op : Int32} {p g : Int} (ht : 0 < tm) (hl : 0 ≤ tl) (hp : 0 ≤ p) (hp2 : p ≤ 1000000000) (hg : 0 ≤ g) (hg2 : g ≤ 1000000000) : g ≤ zb kd tm tl op p ↔ (0 ≤ zl kd tm tl op g ∧ zl kd tm tl op g ≤ p) := by
  unfold zb zl
  by_cases h : op = 0
  · rw [if_pos (Or.inl h), if_pos (Or.inl h)]; omega
  · rw [if_neg (not_or.mpr ⟨h, by omega⟩), if_neg (not_or.mpr ⟨h, by omega⟩)]
    have h1 := zr_le (kd := kd) (tm := tm) (tl := tl) (p := p) (g := g) ht
    have h2 := zq_nn (kd := kd) (tm := tm) (tl := tl) (g := g) ht hl hg
    unfold zc
    generalize zr kd tm tl p = v at *
    generalize zq kd tm tl g = q at *
    by_cases c1 : v < 0 <;> by_cases c2 : 1000000000 < v <;> by_cases c3 : 1000000000 < q <;> simp only [c1, c2, c3, if_true, if_false] <;> omega
theorem zr_mono {kd : Int32} {tm tl p q : Int} (ht : 0 < tm) (h : p ≤ q) : zr kd tm tl p ≤ zr kd tm tl q := by
  have h1 := (zr_le (kd := kd) (tl := tl) (p := p) (g := zr kd tm tl p) ht).mp (Int.le_refl _)
  exact (zr_le ht).mpr (Int.le_trans h1 h)
theorem zc_mono {a b : Int} (h : a ≤ b) : zc a ≤ zc b := by
  unfold zc
  by_cases c1 : a < 0 <;> by_cases c2 : 1000000000 < a <;> by_cases c3 : b < 0 <;> by_cases c4 : 1000000000 < b <;> simp only [c1, c2, c3, c4, if_true, if_false] <;> omega
theorem zb_mono {kd : Int32} {tm tl : Int} {op : Int32} {p q : Int} (ht : 0 < tm) (h : p ≤ q) : zb kd tm tl op p ≤ zb kd tm tl op q := by
  unfold zb
  by_cases h1 : op = 0
  · rw [if_pos (Or.inl h1), if_pos (Or.inl h1)]; omega
  · by_cases h2 : p < 0
    · rw [if_pos (Or.inr h2)]
      by_cases h3 : q < 0
      · rw [if_pos (Or.inr h3)]; omega
      · rw [if_neg (not_or.mpr ⟨h1, h3⟩)]; exact (zc_rng _).1
    · rw [if_neg (not_or.mpr ⟨h1, h2⟩), if_neg (not_or.mpr ⟨h1, by omega⟩)]; exact zc_mono (zr_mono ht h)
theorem zl_rng {kd : Int32} {tm tl : Int} {op : Int32} {g : Int} (ht : 0 < tm) (hl : 0 ≤ tl) : -1 ≤ zl kd tm tl op g ∧ zl kd tm tl op g ≤ 1000000000 := by
  unfold zl
  by_cases h : op = 0 ∨ g < 0
  · rw [if_pos h]; omega
  · rw [if_neg h]
    have := zq_nn (kd := kd) (tm := tm) (tl := tl) (g := g) ht hl (by omega)
    by_cases c : 1000000000 < zq kd tm tl g
    · rw [if_pos c]; omega
    · rw [if_neg c]; omega
theorem gL_I {kd tm tl op x : Int32} (ht : 0 < tm.toInt) (hl : 0 ≤ tl.toInt) : (gL kd tm tl op x).toInt = zl kd tm.toInt tl.toInt op x.toInt := by
  have := zl_rng (kd := kd) (op := op) (g := x.toInt) ht hl
  exact fb_ofI (by omega) (by omega)
/-! the class's and the reference's arithmetic -/
theorem n_and1 (x : Int64) : (x &&& (1 : Int64)).toInt = x.toInt % 2 := by
  have e : (x &&& (1 : Int64)).toBitVec = x.toBitVec &&& 1#64 := rfl
  have h1 : (x &&& (1 : Int64)).toInt = ((x.toBitVec &&& 1#64).toInt) := by rw [← e]; rfl
  have h2 : x.toInt = x.toBitVec.toInt := rfl
  rw [h1, h2, BitVec.toInt_eq_toNat_cond, BitVec.toInt_eq_toNat_cond]
  have h3 : (x.toBitVec &&& 1#64).toNat = x.toBitVec.toNat % 2 := by
    rw [BitVec.toNat_and]
    show x.toBitVec.toNat &&& 1 = _
    exact Nat.and_one_is_mod _
  rw [h3]
  have h4 := x.toBitVec.isLt
  by_cases c : 2 * x.toBitVec.toNat < 2 ^ 64
  · rw [if_pos c, if_pos (by omega)]; omega
  · rw [if_neg c, if_pos (by omega)]; omega
theorem n_div {x y : Int64} (h1 : 0 ≤ x.toInt) (h2 : 0 < y.toInt) : (x / y).toInt = x.toInt / y.toInt := by
  have hx := fb_rngL x
  have e : x.toInt.tdiv y.toInt = x.toInt / y.toInt := Int.tdiv_eq_ediv_of_nonneg h1
  have h3 : 0 ≤ x.toInt / y.toInt := Int.ediv_nonneg h1 (by omega)
  have h4 : x.toInt / y.toInt ≤ x.toInt := Int.ediv_le_self _ h1
  rw [Int64.toInt_div, e, fb_bmodL (by omega) (by omega)]
theorem n_mulb {a b : Int} (h1 : 0 ≤ a) (h2 : a ≤ 100) (h3 : -2147483648 ≤ b) (h4 : b < 2147483648) : -214748364800 ≤ a * b ∧ a * b ≤ 214748364800 := by
  have p1 := Int.mul_le_mul_of_nonneg_left h3 h1
  have p2 := Int.mul_le_mul_of_nonneg_left (Int.le_of_lt h4) h1
  omega

theorem kK_bk (kd : Int32) : isBk (kK kd) := by
  unfold kK isBk
  by_cases h2 : kd = 2
  · simp [h2]
  · by_cases h3 : kd = 3
    · simp [h3]
    · by_cases h4 : kd = 4
      · simp [h4]
      · by_cases h5 : kd = 5
        · simp [h5]
        · simp [h2, h3, h4, h5]
theorem n_lin {tm x tl : Int32} (h1 : 0 ≤ tm.toInt) (h2 : tm.toInt ≤ 100) (h5 : 0 ≤ tl.toInt) (h6 : tl.toInt ≤ 3000) : ((tm.toInt64 * x.toInt64) - tl.toInt64).toInt = tm.toInt * x.toInt - tl.toInt := by
  have hx := fb_rng x
  have hm := n_mulb h1 h2 hx.1 hx.2
  have e1 : (tm.toInt64 * x.toInt64).toInt = tm.toInt * x.toInt := by
    rw [fb_mulL (by rw [Int32.toInt_toInt64, Int32.toInt_toInt64]; omega) (by rw [Int32.toInt_toInt64, Int32.toInt_toInt64]; omega), Int32.toInt_toInt64, Int32.toInt_toInt64]
  rw [fb_subL (by rw [e1, Int32.toInt_toInt64]; omega) (by rw [e1, Int32.toInt_toInt64]; omega), e1, Int32.toInt_toInt64]
theorem n_str {tm x tl : Int32} (h1 : 0 ≤ tm.toInt) (h2 : tm.toInt ≤ 100) (h5 : 0 ≤ tl.toInt) (h6 : tl.toInt ≤ 3000) (h7 : 0 ≤ x.toInt) : (tm.toInt64 * (x.toInt64 - tl.toInt64)).toInt = tm.toInt * (x.toInt - tl.toInt) := by
  have hx := fb_rng x
  have e1 : (x.toInt64 - tl.toInt64).toInt = x.toInt - tl.toInt := by
    rw [fb_subL (by rw [Int32.toInt_toInt64, Int32.toInt_toInt64]; omega) (by rw [Int32.toInt_toInt64, Int32.toInt_toInt64]; omega), Int32.toInt_toInt64, Int32.toInt_toInt64]
  have hm := n_mulb (a := tm.toInt) (b := x.toInt - tl.toInt) h1 h2 (by omega) (by omega)
  rw [fb_mulL (by rw [e1, Int32.toInt_toInt64]; omega) (by rw [e1, Int32.toInt_toInt64]; omega), e1, Int32.toInt_toInt64]
theorem c_coins {t : xT} {p : Nat} {kd tm tl x : Int32} (hK : tK t p = kK kd) (hl : tI t p 6 = tl) (h1 : 0 ≤ tm.toInt) (h2 : tm.toInt ≤ 100) (h5 : 0 ≤ tl.toInt) (h6 : tl.toInt ≤ 3000) (h7 : 0 ≤ x.toInt) : ∃ r, F_V_coins t p tm x.toInt64 = some r ∧ r.toInt = zr kd tm.toInt tl.toInt x.toInt := by
  have hx := fb_rng x
  have hm := n_mulb h1 h2 hx.1 hx.2
  have eL := n_lin (x := x) h1 h2 h5 h6
  have eS := n_str h1 h2 h5 h6 h7
  have eG : ((tm.toInt64 * x.toInt64 - tl.toInt64) - ((tm.toInt64 * x.toInt64 - tl.toInt64) &&& (1 : Int64))).toInt = (tm.toInt * x.toInt - tl.toInt) - (tm.toInt * x.toInt - tl.toInt) % 2 := by
    rw [fb_subL (by rw [n_and1, eL]; omega) (by rw [n_and1, eL]; omega), n_and1, eL]
  unfold zr
  by_cases k2 : kd = 2
  · subst k2; exact ⟨_, by simp [F_V_coins, F_X9_coins, hK, kK, hl]; rfl, by rw [if_pos (Or.inl rfl)]; exact eS⟩
  by_cases k3 : kd = 3
  · subst k3; exact ⟨_, by simp [F_V_coins, F_X9_coins, hK, kK, hl]; rfl, by rw [if_pos (Or.inr rfl)]; exact eS⟩
  by_cases k4 : kd = 4
  · subst k4; exact ⟨_, by simp [F_V_coins, F_X1_coins, F_X0_coins, isBk, hK, kK, hl]; rfl, by rw [if_neg (by decide), if_pos (Or.inl rfl)]; exact eG⟩
  by_cases k5 : kd = 5
  · subst k5; exact ⟨_, by simp [F_V_coins, F_X1_coins, F_X0_coins, isBk, hK, kK, hl]; rfl, by rw [if_neg (by decide), if_pos (Or.inr rfl)]; exact eG⟩
  refine ⟨_, by simp [F_V_coins, F_X0_coins, isBk, hK, kK, hl, k2, k3, k4, k5]; rfl, ?_⟩
  rw [if_neg (not_or.mpr ⟨k2, k3⟩), if_neg (not_or.mpr ⟨k4, k5⟩)]
  exact eL
theorem zr_rng {kd : Int32} {tm tl p : Int} (h1 : 0 ≤ tm) (h2 : tm ≤ 100) (h5 : 0 ≤ tl) (h6 : tl ≤ 3000) (h7 : -2147483648 ≤ p) (h8 : p < 2147483648) : -300000000000 ≤ zr kd tm tl p ∧ zr kd tm tl p ≤ 300000000000 := by
  unfold zr
  have hm := n_mulb h1 h2 h7 h8
  by_cases k : kd = 2 ∨ kd = 3
  · rw [if_pos k, Int.mul_sub]
    have hl := n_mulb (a := tm) (b := tl) h1 h2 (by omega) (by omega)
    have hl2 : tm * tl ≤ 100 * 3000 := Int.mul_le_mul h2 h6 h5 (by omega)
    have hl3 : 0 ≤ tm * tl := Int.mul_nonneg h1 h5
    omega
  · rw [if_neg k]
    by_cases k : kd = 4 ∨ kd = 5
    · rw [if_pos k]; omega
    · rw [if_neg k]; omega
theorem c_bb {t : xT} {p : Nat} {kd tm tl op x : Int32} (hK : tK t p = kK kd) (hl : tI t p 6 = tl) (ho : tI t p 7 = op) (h1 : 0 ≤ tm.toInt) (h2 : tm.toInt ≤ 100) (h5 : 0 ≤ tl.toInt) (h6 : tl.toInt ≤ 3000) : F_X0_becomesBy t p tm x = some (gB kd tm tl op x) := by
  unfold F_X0_becomesBy
  rw [if_pos (by rw [hK]; exact kK_bk kd), ho]
  unfold gB gI zb
  by_cases c : op = 0
  · rw [if_pos c, if_pos (Or.inl c)]; rfl
  · rw [if_neg c]
    by_cases d : 0 ≤ x
    · rw [if_pos d]
      rw [fa_le] at d
      have d : 0 ≤ x.toInt := d
      obtain ⟨r, hr, hz⟩ := c_coins (x := x) hK hl h1 h2 h5 h6 d
      rw [hr, Option.bind_some, if_neg (not_or.mpr ⟨c, by omega⟩), ← hz]
      have hz2 := zr_rng (kd := kd) h1 h2 h5 h6 (fb_rng x).1 (fb_rng x).2
      rw [← hz] at hz2
      unfold zc
      simp only [lg_cmp_ge]
      by_cases e : (0 : Int64) ≤ r
      · rw [if_pos e]
        rw [fa_le64] at e
        have e : 0 ≤ r.toInt := e
        rw [if_neg (show ¬ r.toInt < 0 by omega)]
        show some (Int64.toInt32 (if _ then _ else _)) = _
        by_cases g : (1000000000 : Int64) < r
        · rw [if_pos g]
          rw [fa_lt64] at g
          have g : 1000000000 < r.toInt := g
          rw [if_pos g]; rfl
        · rw [if_neg g]
          rw [fa_lt64] at g
          have g : ¬ 1000000000 < r.toInt := g
          rw [if_neg g]
          rfl
      · rw [if_neg e]
        rw [fa_le64] at e
        have e : ¬ 0 ≤ r.toInt := e
        rw [if_pos (by omega)]; rfl
    · rw [if_neg d]
      rw [fa_le] at d
      have d : ¬ 0 ≤ x.toInt := d
      rw [if_pos (Or.inr (by omega))]; rfl
theorem c_b {t : xT} {p : Nat} {kd tm tl op x : Int32} (hK : tK t p = kK kd) (hm : tI t p 5 = tm) (hl : tI t p 6 = tl) (ho : tI t p 7 = op) (h1 : 0 ≤ tm.toInt) (h2 : tm.toInt ≤ 100) (h5 : 0 ≤ tl.toInt) (h6 : tl.toInt ≤ 3000) : F_X0_becomes t p x = some (gB kd tm tl op x) := by
  unfold F_X0_becomes
  rw [if_pos (by rw [hK]; exact kK_bk kd), hm, c_bb hK hl ho h1 h2 h5 h6]; rfl
theorem c_lc {t : xT} {p : Nat} {kd tm tl g : Int32} (hK : tK t p = kK kd) (hm : tI t p 5 = tm) (hl : tI t p 6 = tl) (h1 : 1 ≤ tm.toInt) (h2 : tm.toInt ≤ 100) (h5 : 0 ≤ tl.toInt) (h6 : tl.toInt ≤ 3000) (h7 : 0 ≤ g.toInt) : ∃ r, F_V_leastCoins t p g.toInt64 = some r ∧ r.toInt = zq kd tm.toInt tl.toInt g.toInt := by
  have hg := fb_rng g
  have q : ∀ (y : Int64), 0 ≤ y.toInt → y.toInt ≤ 3000000000 → F_X0_quotientUp t p y = some (((y + tm.toInt64) - (1 : Int64)) / tm.toInt64) ∧ (((y + tm.toInt64) - (1 : Int64)) / tm.toInt64).toInt = (y.toInt + tm.toInt - 1) / tm.toInt := by
    intro y y1 y2
    have e1 : ((y + tm.toInt64) - (1 : Int64)).toInt = y.toInt + tm.toInt - 1 := by
      have e0 : (y + tm.toInt64).toInt = y.toInt + tm.toInt := by
        rw [fb_addL (by rw [Int32.toInt_toInt64]; omega) (by rw [Int32.toInt_toInt64]; omega), Int32.toInt_toInt64]
      rw [fb_subL (by rw [e0]; show _ ≤ _ - (1 : Int); omega) (by rw [e0]; show _ - (1 : Int) < _; omega), e0]; rfl
    refine ⟨?_, ?_⟩
    · unfold F_X0_quotientUp F_X0_quotientUp_j27
      rw [if_pos (by rw [hK]; exact kK_bk kd), hm, if_pos (by rw [fa_le]; exact h1), if_pos]
      intro hc
      have := congrArg Int64.toInt hc
      rw [Int32.toInt_toInt64] at this
      have : tm.toInt = 0 := this
      omega
    · rw [n_div (by rw [e1]; omega) (by rw [Int32.toInt_toInt64]; omega), e1, Int32.toInt_toInt64]
  have a1 : (g.toInt64 + tl.toInt64).toInt = g.toInt + tl.toInt := by
    rw [fb_addL (by rw [Int32.toInt_toInt64, Int32.toInt_toInt64]; omega) (by rw [Int32.toInt_toInt64, Int32.toInt_toInt64]; omega), Int32.toInt_toInt64, Int32.toInt_toInt64]
  have a2 : (g.toInt64 + (g.toInt64 &&& (1 : Int64))).toInt = g.toInt + g.toInt % 2 := by
    rw [fb_addL (by rw [n_and1, Int32.toInt_toInt64]; omega) (by rw [n_and1, Int32.toInt_toInt64]; omega), n_and1, Int32.toInt_toInt64]
  have a3 : (g.toInt64 + (g.toInt64 &&& (1 : Int64)) + tl.toInt64).toInt = g.toInt + g.toInt % 2 + tl.toInt := by
    rw [fb_addL (by rw [a2, Int32.toInt_toInt64]; omega) (by rw [a2, Int32.toInt_toInt64]; omega), a2, Int32.toInt_toInt64]
  have q1 := q g.toInt64 (by rw [Int32.toInt_toInt64]; omega) (by rw [Int32.toInt_toInt64]; omega)
  have q2 := q (g.toInt64 + tl.toInt64) (by rw [a1]; omega) (by rw [a1]; omega)
  have q3 := q (g.toInt64 + (g.toInt64 &&& (1 : Int64)) + tl.toInt64) (by rw [a3]; omega) (by rw [a3]; omega)
  rw [Int32.toInt_toInt64] at q1
  rw [a1] at q2
  rw [a3] at q3
  have b1 : ((g.toInt64 + tm.toInt64 - (1 : Int64)) / tm.toInt64 + tl.toInt64).toInt = (g.toInt + tm.toInt - 1) / tm.toInt + tl.toInt := by
    have w1 : 0 ≤ (g.toInt + tm.toInt - 1) / tm.toInt := Int.ediv_nonneg (by omega) (by omega)
    have w2 : (g.toInt + tm.toInt - 1) / tm.toInt ≤ g.toInt + tm.toInt - 1 := Int.ediv_le_self _ (by omega)
    rw [fb_addL (by rw [q1.2, Int32.toInt_toInt64]; omega) (by rw [q1.2, Int32.toInt_toInt64]; omega), q1.2, Int32.toInt_toInt64]
  unfold zq
  by_cases k2 : kd = 2
  · subst k2; exact ⟨_, by simp [F_V_leastCoins, F_X9_leastCoins, hK, kK, hl, q1.1]; rfl, by rw [if_pos (Or.inl rfl)]; exact b1⟩
  by_cases k3 : kd = 3
  · subst k3; exact ⟨_, by simp [F_V_leastCoins, F_X9_leastCoins, hK, kK, hl, q1.1]; rfl, by rw [if_pos (Or.inr rfl)]; exact b1⟩
  by_cases k4 : kd = 4
  · subst k4; exact ⟨_, by simp [F_V_leastCoins, F_X1_leastCoins, F_X0_leastCoins, isBk, hK, kK, hl, q3.1]; rfl, by rw [if_neg (by decide), if_pos (Or.inl rfl)]; exact q3.2⟩
  by_cases k5 : kd = 5
  · subst k5; exact ⟨_, by simp [F_V_leastCoins, F_X1_leastCoins, F_X0_leastCoins, isBk, hK, kK, hl, q3.1]; rfl, by rw [if_neg (by decide), if_pos (Or.inr rfl)]; exact q3.2⟩
  refine ⟨_, by simp [F_V_leastCoins, F_X0_leastCoins, isBk, hK, kK, hl, k2, k3, k4, k5, q2.1]; rfl, ?_⟩
  rw [if_neg (not_or.mpr ⟨k2, k3⟩), if_neg (not_or.mpr ⟨k4, k5⟩)]
  exact q2.2
theorem zq_le {kd : Int32} {tm tl g : Int} (h1 : 1 ≤ tm) (h5 : 0 ≤ tl) (h6 : tl ≤ 3000) (h7 : 0 ≤ g) (h8 : g < 2147483648) (h2 : tm ≤ 100) : zq kd tm tl g ≤ 3000000000 := by
  unfold zq
  have e : ∀ x : Int, 0 ≤ x → (x + tm - 1) / tm ≤ x + tm - 1 := fun x hx => Int.ediv_le_self _ (by omega)
  by_cases k : kd = 2 ∨ kd = 3
  · rw [if_pos k]; have := e g h7; omega
  · rw [if_neg k]
    by_cases k : kd = 4 ∨ kd = 5
    · rw [if_pos k]; have := e (g + g % 2 + tl) (by omega); omega
    · rw [if_neg k]; have := e (g + tl) (by omega); omega
theorem c_la {t : xT} {p : Nat} {kd tm tl op g : Int32} (hK : tK t p = kK kd) (hm : tI t p 5 = tm) (hl : tI t p 6 = tl) (ho : tI t p 7 = op) (h1 : 1 ≤ tm.toInt) (h2 : tm.toInt ≤ 100) (h5 : 0 ≤ tl.toInt) (h6 : tl.toInt ≤ 3000) : F_X0_leastAhead t p g = some (gL kd tm tl op g) := by
  unfold F_X0_leastAhead
  rw [if_pos (by rw [hK]; exact kK_bk kd), ho]
  unfold gL zl
  by_cases c : op = 0
  · rw [if_pos c, if_pos (Or.inl c)]; rfl
  · rw [if_neg c]
    by_cases d : 0 ≤ g
    · rw [if_pos d]
      rw [fa_le] at d
      have d : 0 ≤ g.toInt := d
      obtain ⟨r, hr, hz⟩ := c_lc hK hm hl h1 h2 h5 h6 d
      rw [hr, Option.bind_some, if_neg (not_or.mpr ⟨c, by omega⟩), ← hz]
      have z1 := zq_nn (kd := kd) (tm := tm.toInt) (tl := tl.toInt) (g := g.toInt) (by omega) h5 d
      have z2 := zq_le (kd := kd) h1 h5 h6 d (fb_rng g).2 h2
      rw [← hz] at z1 z2
      simp only [lg_cmp_le]
      by_cases e : r ≤ (1000000000 : Int64)
      · rw [if_pos e]
        rw [fa_le64] at e
        have e : r.toInt ≤ 1000000000 := e
        rw [if_neg (by omega)]
        rfl
      · rw [if_neg e]
        rw [fa_le64] at e
        have e : ¬ r.toInt ≤ 1000000000 := e
        rw [if_pos (by omega)]; rfl
    · rw [if_neg d]
      rw [fa_le] at d
      have d : ¬ 0 ≤ g.toInt := d
      rw [if_pos (Or.inr (by omega))]; rfl
/-- the reference's arithmetic -/
theorem r_made {kd tm tl op : Int32} {P : Int64} (hk : 1 ≤ kd.toInt ∧ kd.toInt ≤ 5) (hop : op ≠ 0) (h1 : 1 ≤ tm.toInt) (h2 : tm.toInt ≤ 100) (h5 : 0 ≤ tl.toInt) (h6 : tl.toInt ≤ 3000) (h7 : -2147483648 ≤ P.toInt) (h8 : P.toInt < 2147483648) : F_X12_made kd P tm tl = some (gI kd tm tl op P.toInt) := by
  have hm := n_mulb (a := tm.toInt) (b := P.toInt) (by omega) h2 h7 h8
  have e1 : (tm.toInt64 * P).toInt = tm.toInt * P.toInt := by
    rw [fb_mulL (by rw [Int32.toInt_toInt64]; omega) (by rw [Int32.toInt_toInt64]; omega), Int32.toInt_toInt64]
  have e2 : ((tm.toInt64 * P) - tl.toInt64).toInt = tm.toInt * P.toInt - tl.toInt := by
    rw [fb_subL (by rw [e1, Int32.toInt_toInt64]; omega) (by rw [e1, Int32.toInt_toInt64]; omega), e1, Int32.toInt_toInt64]
  have e3 : (P - tl.toInt64).toInt = P.toInt - tl.toInt := by
    rw [fb_subL (by rw [Int32.toInt_toInt64]; omega) (by rw [Int32.toInt_toInt64]; omega), Int32.toInt_toInt64]
  have hm2 := n_mulb (a := tm.toInt) (b := P.toInt - tl.toInt) (by omega) h2
  have j : ∀ (r : Int64), -300000000000 ≤ r.toInt → r.toInt ≤ 300000000000 → F_X12_made_j70 r = some (Int32.ofInt (zc r.toInt)) := by
    intro r r1 r2
    unfold F_X12_made_j70 F_X12_made_j98 zc
    simp only [lg_cmp_ge, lg_cmp_le]
    by_cases e : (0 : Int64) ≤ r
    · rw [if_pos e]
      rw [fa_le64] at e
      have e : 0 ≤ r.toInt := e
      rw [if_neg (show ¬ r.toInt < 0 by omega)]
      by_cases g : r ≤ (1000000000 : Int64)
      · rw [if_pos g]
        rw [fa_le64] at g
        have g : r.toInt ≤ 1000000000 := g
        rw [if_neg (show ¬ 1000000000 < r.toInt by omega)]
        rfl
      · rw [if_neg g]
        rw [fa_le64] at g
        have g : ¬ r.toInt ≤ 1000000000 := g
        rw [if_pos (show 1000000000 < r.toInt by omega)]; rfl
    · rw [if_neg e]
      rw [fa_le64] at e
      have e : ¬ 0 ≤ r.toInt := e
      rw [if_pos (show r.toInt < 0 by omega)]; rfl
  have z := zr_rng (kd := kd) (tm := tm.toInt) (tl := tl.toInt) (p := P.toInt) (by omega) h2 h5 h6 h7 h8
  have s20 : kd = 2 ∨ kd = 3 → F_X12_made_j20 P tm tl = some (gI kd tm tl op P.toInt) := by
    intro k
    unfold F_X12_made_j20 F_X12_made_j42
    simp only [lg_cmp_ge]
    unfold gI zb
    unfold zr at z ⊢
    rw [if_pos k] at z ⊢
    by_cases c : tl.toInt64 ≤ P
    · rw [if_pos c]
      rw [fa_le64, Int32.toInt_toInt64] at c
      have e4 : (tm.toInt64 * (P - tl.toInt64)).toInt = tm.toInt * (P.toInt - tl.toInt) := by
        rw [fb_mulL (by rw [e3, Int32.toInt_toInt64]; omega) (by rw [e3, Int32.toInt_toInt64]; omega), e3, Int32.toInt_toInt64]
      rw [j _ (by rw [e4]; omega) (by rw [e4]; omega), e4, if_neg (not_or.mpr ⟨hop, by omega⟩)]
    · rw [if_neg c]
      rw [fa_le64, Int32.toInt_toInt64] at c
      show some (-1 : Int32) = _
      by_cases d : P.toInt < 0
      · rw [if_pos (Or.inr d)]; rfl
      · rw [if_neg (not_or.mpr ⟨hop, d⟩)]
        have : tm.toInt * (P.toInt - tl.toInt) < 0 := by
          have h : P.toInt - tl.toInt ≤ -1 := by omega
          have := Int.mul_le_mul_of_nonneg_left h (show 0 ≤ tm.toInt by omega)
          omega
        unfold zc
        rw [if_pos this]; rfl
  unfold F_X12_made
  show (if kd = 2 then _ else _) = _
  by_cases k2 : kd = 2
  · rw [if_pos k2]; exact s20 (Or.inl k2)
  rw [if_neg k2]
  by_cases k3 : kd = 3
  · rw [if_pos k3]; exact s20 (Or.inr k3)
  rw [if_neg k3]
  have zz : zr kd tm.toInt tl.toInt P.toInt = if kd = 4 ∨ kd = 5 then (tm.toInt * P.toInt - tl.toInt) - (tm.toInt * P.toInt - tl.toInt) % 2 else tm.toInt * P.toInt - tl.toInt := by
    unfold zr; rw [if_neg (not_or.mpr ⟨k2, k3⟩)]
  have neg : P.toInt < 0 → tm.toInt * P.toInt - tl.toInt < 0 := by
    intro h
    have := Int.mul_le_mul_of_nonneg_left (show P.toInt ≤ -1 by omega) (show 0 ≤ tm.toInt by omega)
    omega
  unfold gI zb
  rw [zz]
  rw [zz] at z
  have ezc : ∀ v : Int, v < 0 → zc v = -1 := fun v h => by unfold zc; rw [if_pos h]
  by_cases k45 : kd = 4 ∨ kd = 5
  · rw [if_pos k45] at z ⊢
    have k3' : ¬ kd ≤ 3 := by
      rw [fa_le]
      rcases k45 with k | k <;> subst k <;> decide
    rw [if_neg k3']
    simp only [lg_cmp_le]
    by_cases c : tm.toInt64 * P - tl.toInt64 ≤ 0
    · rw [if_pos c, j _ (by rw [e2]; omega) (by rw [e2]; omega), e2]
      rw [fa_le64, e2] at c
      have c : tm.toInt * P.toInt - tl.toInt ≤ 0 := c
      by_cases d : P.toInt < 0
      · rw [if_pos (Or.inr d), ezc _ (neg d)]
      · rw [if_neg (not_or.mpr ⟨hop, d⟩)]
        by_cases c0 : tm.toInt * P.toInt - tl.toInt = 0
        · rw [c0]; rfl
        · rw [ezc _ (by omega), ezc _ (by omega)]
    · rw [if_neg c]
      rw [fa_le64, e2] at c
      have c : ¬ tm.toInt * P.toInt - tl.toInt ≤ 0 := c
      rw [if_neg (not_or.mpr ⟨hop, fun h => by have := neg h; omega⟩)]
      have d1 : ((tm.toInt64 * P - tl.toInt64) / (2 : Int64)).toInt = (tm.toInt * P.toInt - tl.toInt) / 2 := by
        rw [n_div (by rw [e2]; omega) (by decide), e2]; rfl
      have d2 : ((tm.toInt64 * P - tl.toInt64) / (2 : Int64) * (2 : Int64)).toInt = (tm.toInt * P.toInt - tl.toInt) / 2 * 2 := by
        rw [fb_mulL (by rw [d1]; show _ ≤ _ * (2 : Int); omega) (by rw [d1]; show _ * (2 : Int) < _; omega), d1]; rfl
      have d3 : ((tm.toInt64 * P - tl.toInt64) - (tm.toInt64 * P - tl.toInt64) / (2 : Int64) * (2 : Int64)).toInt = (tm.toInt * P.toInt - tl.toInt) % 2 := by
        rw [fb_subL (by rw [d2, e2]; omega) (by rw [d2, e2]; omega), d2, e2]; omega
      have d4 : ((tm.toInt64 * P - tl.toInt64) - ((tm.toInt64 * P - tl.toInt64) - (tm.toInt64 * P - tl.toInt64) / (2 : Int64) * (2 : Int64))).toInt = (tm.toInt * P.toInt - tl.toInt) - (tm.toInt * P.toInt - tl.toInt) % 2 := by
        rw [fb_subL (by rw [d3, e2]; omega) (by rw [d3, e2]; omega), d3, e2]
      show F_X12_made_j70 _ = _
      rw [j _ (by rw [d4]; omega) (by rw [d4]; omega), d4]
  · rw [if_neg k45] at z ⊢
    have k3' : kd ≤ 3 := by
      rw [fa_le]
      show kd.toInt ≤ 3
      have k4 : kd.toInt ≠ 4 := fun h => k45 (Or.inl ((fa_eq kd 4).mpr h))
      have k5 : kd.toInt ≠ 5 := fun h => k45 (Or.inr ((fa_eq kd 5).mpr h))
      omega
    rw [if_pos k3', j _ (by rw [e2]; omega) (by rw [e2]; omega), e2]
    by_cases d : P.toInt < 0
    · rw [if_pos (Or.inr d), ezc _ (neg d)]
    · rw [if_neg (not_or.mpr ⟨hop, d⟩)]
