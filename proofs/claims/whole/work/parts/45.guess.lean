/-! ===== pure mathematics 24: guesses ===== -/
def agr (kd tm tl : Int32) (s : Nat → Int32) (j : Nat) : Bool := decide (gB kd tm tl 1 (s (59 + 2 * j)) = s (59 + 2 * j + 1))
def allB (P : Nat → Bool) : Nat → Nat → Bool
  | 0, _ => true
  | m + 1, i => P i && allB P m (i + 1)
def lieF (P : Nat → Bool) : Nat → Nat → Int32 → Int32
  | 0, _, y => y
  | m + 1, i, y => if P i = true then lieF P m (i + 1) y else if y = -1 then lieF P m (i + 1) (nI i) else -2
def exc (P : Nat → Bool) (t j : Nat) : Bool := decide (j = t) || P j
theorem lie_s (P : Nat → Bool) (m i : Nat) (y : Int32) : lieF P (m + 1) i y = if P i = true then lieF P m (i + 1) y else if y = -1 then lieF P m (i + 1) (nI i) else -2 := rfl
theorem allB_eq {P Q : Nat → Bool} : ∀ m i, (∀ j, i ≤ j → j < i + m → P j = Q j) → allB P m i = allB Q m i
  | 0, _, _ => rfl
  | m + 1, i, h => by
    show (P i && allB P m (i + 1)) = (Q i && allB Q m (i + 1))
    rw [h i (Nat.le_refl _) (by omega), allB_eq m (i + 1) (fun j h1 h2 => h j (by omega) (by omega))]
theorem lie_B {P : Nat → Bool} : ∀ m i y, y ≠ -1 → lieF P m i y = if allB P m i = true then y else -2
  | 0, _, _, _ => by unfold lieF allB; rw [if_pos rfl]
  | m + 1, i, y, h => by
    unfold lieF allB
    by_cases c : P i = true
    · rw [if_pos c, lie_B m (i + 1) y h, c, Bool.true_and]
    · have c' : P i = false := by simpa using c
      rw [if_neg c, if_neg h, c', Bool.false_and, if_neg (by decide)]
theorem lie_A {P : Nat → Bool} : ∀ m i, i + m < 1000 → (lieF P m i (-1) = -1 ↔ allB P m i = true)
  | 0, _, _ => by unfold lieF allB; simp
  | m + 1, i, h => by
    unfold lieF allB
    by_cases c : P i = true
    · rw [if_pos c, c, Bool.true_and]; exact lie_A m (i + 1) (by omega)
    · have c' : P i = false := by simpa using c
      have n1 : nI i ≠ -1 := fun e => by
        have := congrArg Int32.toInt e
        rw [nI_toInt (by omega)] at this
        change (i : Int) = -1 at this
        omega
      rw [if_neg c, if_pos rfl, c', Bool.false_and, lie_B m (i + 1) _ n1]
      by_cases d : allB P m (i + 1) = true
      · rw [if_pos d]; simp [n1]
      · rw [if_neg d]; decide
theorem nI_m1 {t : Nat} (h : t < 1000) : nI t ≠ -1 := fun e => by
  have := congrArg Int32.toInt e
  rw [nI_toInt (by omega)] at this
  change (t : Int) = -1 at this
  omega
theorem nI_m2 {t : Nat} (h : t < 1000) : nI t ≠ -2 := fun e => by
  have := congrArg Int32.toInt e
  rw [nI_toInt (by omega)] at this
  change (t : Int) = -2 at this
  omega
theorem exc_far {P : Nat → Bool} {t : Nat} (m i : Nat) (h : t < i) : allB (exc P t) m i = allB P m i := allB_eq m i (fun j h1 _ => by unfold exc; rw [show decide (j = t) = false by simp; omega, Bool.false_or])
theorem lie_C {P : Nat → Bool} {t : Nat} (ht : t < 1000) : ∀ m i, i + m < 1000 → (lieF P m i (-1) = nI t ↔ allB P m i = false ∧ i ≤ t ∧ t < i + m ∧ allB (exc P t) m i = true)
  | 0, i, _ => by
    unfold lieF allB
    constructor
    · intro h; exact absurd h.symm (nI_m1 ht)
    · intro h; exact absurd h.1 (by decide)
  | m + 1, i, h => by
    unfold lieF allB
    by_cases c : P i = true
    · rw [if_pos c, c, Bool.true_and, lie_C ht m (i + 1) (by omega)]
      have e : exc P t i = true := by unfold exc; rw [c, Bool.or_true]
      rw [e, Bool.true_and]
      by_cases d : t = i
      · subst d
        rw [exc_far m (t + 1) (by omega)]
        constructor
        · intro h; omega
        · intro h; rw [h.1] at h; exact absurd h.2.2.2 (by decide)
      · constructor
        · intro h; exact ⟨h.1, by omega, by omega, h.2.2.2⟩
        · intro h; exact ⟨h.1, by omega, by omega, h.2.2.2⟩
    · have c' : P i = false := by simpa using c
      rw [if_neg c, if_pos rfl, c', Bool.false_and, lie_B m (i + 1) _ (nI_m1 (by omega))]
      by_cases d : t = i
      · subst d
        have e : exc P t t = true := by unfold exc; simp
        rw [e, Bool.true_and, exc_far m (t + 1) (by omega)]
        by_cases g : allB P m (t + 1) = true
        · rw [if_pos g]; exact ⟨fun _ => ⟨rfl, Nat.le_refl _, by omega, g⟩, fun _ => rfl⟩
        · rw [if_neg g]
          constructor
          · intro h; exact absurd h.symm (nI_m2 ht)
          · intro h; exact absurd h.2.2.2 g
      · have e : exc P t i = false := by unfold exc; rw [c', Bool.or_false]; simp; omega
        rw [e, Bool.false_and]
        constructor
        · intro h
          by_cases g : allB P m (i + 1) = true
          · rw [if_pos g] at h; exact absurd ((nI_eq (by omega) (by omega)).1 h).symm d
          · rw [if_neg g] at h; exact absurd h.symm (nI_m2 ht)
        · intro h; exact absurd h.2.2.2 (by decide)
theorem lie_D {P : Nat → Bool} : ∀ m i, i + m < 1000 → lieF P m i (-1) = -1 ∨ lieF P m i (-1) = -2 ∨ ∃ t, t < i + m ∧ lieF P m i (-1) = nI t
  | 0, i, _ => Or.inl rfl
  | m + 1, i, h => by
    unfold lieF
    by_cases c : P i = true
    · rw [if_pos c]
      rcases lie_D (P := P) m (i + 1) (by omega) with h | h | ⟨t, h1, h2⟩
      · exact Or.inl h
      · exact Or.inr (Or.inl h)
      · exact Or.inr (Or.inr ⟨t, by omega, h2⟩)
    · rw [if_neg c, if_pos rfl, lie_B m (i + 1) _ (nI_m1 (by omega))]
      by_cases g : allB P m (i + 1) = true
      · rw [if_pos g]; exact Or.inr (Or.inr ⟨i, by omega, rfl⟩)
      · rw [if_neg g]; exact Or.inr (Or.inl rfl)
theorem c_lies {t : xT} {a p N : Nat} {kd tm tl : Int32} {s : Nat → Int32} (hS : SkC t a) (hN : N ≤ 6) (h10 : tI t (a + 1) 10 = nI N) (hv : ∀ j, j < 6 → tI t (a + 15) j = s (59 + 2 * j) ∧ tI t (a + 16) j = s (59 + 2 * j + 1)) (hb : isBk (tK t p)) (hc : ∀ x, F_X0_becomes t p x = some (gB kd tm tl 1 x)) : ∀ m i y n, i + m = N → m < n → F_X7_lies_l4 n t (a + 1) p y (nI i) = some (lieF (agr kd tm tl s) m i y)
  | _, _, _, 0, _, h => absurd h (Nat.not_lt_zero _)
  | 0, i, y, n + 1, hi, _ => by
    have hi : i = N := by omega
    subst hi
    have k7 : tK t (a + 1) = 7 := hS.2.2.2.2.2.2.2.2.2.2.2.2.1.1
    unfold F_X7_lies_l4 F_X7_lies_j56
    rw [if_pos k7, h10, if_pos (nI_le (Nat.le_refl i) (by omega))]; rfl
  | m + 1, i, y, n + 1, hi, hm => by
    have k7 : tK t (a + 1) = 7 := hS.2.2.2.2.2.2.2.2.2.2.2.2.1.1
    obtain ⟨-, -, -, q8, q9, -, -, -, o8, o9⟩ := pe_f hS
    have ix : xIn (nI i) 6 := n_xIn (by omega) (by decide)
    have ec : (nI i).toNatClampNeg = i := n_cl (by omega)
    obtain ⟨v1, v2⟩ := hv i (by omega)
    unfold F_X7_lies_l4
    simp only [if_pos k7, h10, if_neg (nI_ge (show i < N by omega) (show N < 2 ^ 31 by omega)), if_neg (show ¬ (6 : Int32) ≤ nI i from nI_ge (a := i) (b := 6) (by omega) (by decide)), q8, q9, o8.1, o8.2, o9.1, o9.2, if_true, Option.bind_some, if_pos ix, ec, if_pos hb, hc, v1, v2]
    unfold F_X7_lies_j50
    simp only [xlet, nI_1]
    rw [lie_s]
    have e : (agr kd tm tl s i = true) = (gB kd tm tl 1 (s (59 + 2 * i)) = s (59 + 2 * i + 1)) := by unfold agr; simp
    by_cases c : gB kd tm tl 1 (s (59 + 2 * i)) = s (59 + 2 * i + 1)
    · rw [if_pos c, if_pos (show agr kd tm tl s i = true by rw [e]; exact c)]
      exact c_lies hS hN h10 hv hb hc m (i + 1) y n (by omega) (by omega)
    · rw [if_neg c, if_neg (show ¬ agr kd tm tl s i = true by rw [e]; exact c)]
      by_cases d : y = -1
      · rw [if_pos d, if_pos d]
        exact c_lies hS hN h10 hv hb hc m (i + 1) (nI i) n (by omega) (by omega)
      · rw [if_neg d, if_neg d]
theorem r_agr {u : xS} {N : Nat} {kd tm tl but : Int32} {s : Nat → Int32} (hu : u.2.1 0 = s) (hN : N ≤ 6) (h2 : s 2 = nI N) (hkd : 1 ≤ kd.toInt ∧ kd.toInt ≤ 5) (h3 : 1 ≤ tm.toInt) (h4 : tm.toInt ≤ 100) (h5 : 0 ≤ tl.toInt) (h6 : tl.toInt ≤ 3000) : ∀ m i n, i + m = N → m + 1 < n → F_X12_isAgreed_l6 n u kd tm tl but 1 (nI i) = some (bB (allB (fun j => decide (nI j = but) || agr kd tm tl s j) m i))
  | _, _, 0, _, h => absurd h (Nat.not_lt_zero _)
  | 0, i, n + 1, hi, _ => by
    have hi : i = N := by omega
    subst hi
    unfold F_X12_isAgreed_l6 F_X12_isAgreed_j78
    rw [if_pos xi2, cl2, hu, h2, if_pos (nI_le (Nat.le_refl i) (by omega)), if_pos (Or.inr rfl)]; rfl
  | m + 1, i, n + 1, hi, hm => by
    have w0 : (59 : Int32) + (2 : Int32) * nI i = nI (59 + 2 * i) := by show nI 59 + nI 2 * nI i = _; rw [pk_mul, nI_add]
    have i0 : xIn (nI (59 + 2 * i)) 303 := n_xIn (by omega) (by decide)
    have i1 : xIn (nI (59 + 2 * i + 1)) 303 := n_xIn (by omega) (by decide)
    have d0 : (nI (59 + 2 * i)).toNatClampNeg = 59 + 2 * i := n_cl (by omega)
    have d1 : (nI (59 + 2 * i + 1)).toNatClampNeg = 59 + 2 * i + 1 := n_cl (by omega)
    have mk : F_X12_made kd (s (59 + 2 * i)).toInt64 tm tl = some (gB kd tm tl 1 (s (59 + 2 * i))) := by
      have hr := fb_rng (s (59 + 2 * i))
      rw [r_made (op := 1) hkd (by decide) h3 h4 h5 h6 (by rw [Int32.toInt_toInt64]; exact hr.1) (by rw [Int32.toInt_toInt64]; exact hr.2), Int32.toInt_toInt64]; rfl
    have e : (agr kd tm tl s i = true) = (gB kd tm tl 1 (s (59 + 2 * i)) = s (59 + 2 * i + 1)) := by unfold agr; simp
    have nxt := r_agr (but := but) hu hN h2 hkd h3 h4 h5 h6 m (i + 1) n (by omega) (by omega)
    have g0 : ¬ nI N ≤ nI i := nI_ge (by omega) (by omega)
    unfold F_X12_isAgreed_l6 F_X12_isAgreed_j65 F_X12_isAgreed_j70 allB
    simp only [xlet]
    rw [if_pos xi2, cl2, hu, h2, if_neg g0, if_neg (show ¬ (1 : Int32) = 0 by decide)]
    by_cases c : nI i = but
    · rw [if_pos c, nI_1, nxt]
      show _ = some (bB ((decide (nI i = but) || _) && _))
      rw [show decide (nI i = but) = true by simp [c], Bool.true_or, Bool.true_and]
    · rw [if_neg c, w0, if_pos i0, d0, mk, Option.bind_some, nI_1, if_pos i1, d1]
      show _ = some (bB ((decide (nI i = but) || _) && _))
      rw [show decide (nI i = but) = false by simp [c], Bool.false_or]
      by_cases d : gB kd tm tl 1 (s (59 + 2 * i)) = s (59 + 2 * i + 1)
      · rw [if_pos d, nI_1, nxt, show agr kd tm tl s i = true by rw [e]; exact d, Bool.true_and]
      · rw [if_neg d, show agr kd tm tl s i = false by rw [← Bool.not_eq_true, e]; exact d, Bool.false_and]
        cases n with
        | zero => omega
        | succ n =>
          unfold F_X12_isAgreed_l6 F_X12_isAgreed_j78
          rw [if_pos xi2]
          by_cases q : u.2.1 0 (2 : Int32).toNatClampNeg ≤ nI i + 1
          · rw [if_pos q, if_pos (Or.inl rfl)]; rfl
          · rw [if_neg q, if_pos rfl, if_pos (Or.inl rfl)]; rfl
theorem n_div1000 {k : Nat} (h : k < 2147483648) : nI k / (1000 : Int32) = nI (k / 1000) ∧ nI k - nI k / (1000 : Int32) * (1000 : Int32) = nI (k % 1000) := by
  have e1 : (nI k / (1000 : Int32)).toInt = ((k / 1000 : Nat) : Int) := by
    rw [Int32.toInt_div, nI_toInt (by omega)]
    show ((k : Int).tdiv 1000).bmod (2 ^ 32) = _
    rw [Int.tdiv_eq_ediv_of_nonneg (by omega), fb_bmod (by omega) (by omega)]; omega
  have e2 : nI k / (1000 : Int32) = nI (k / 1000) := Int32.toInt_inj.1 (by rw [e1, nI_toInt (by omega)])
  refine ⟨e2, ?_⟩
  rw [e2]
  have e3 : nI (k / 1000) * (1000 : Int32) = nI (k / 1000 * 1000) := by show nI (k / 1000) * nI 1000 = _; rw [pk_mul]
  rw [e3]
  apply Int32.toInt_inj.1
  rw [fb_subI] <;> rw [nI_toInt (by omega), nI_toInt (by omega)] <;> (try rw [nI_toInt (by omega)]) <;> omega
def cntF (P : Nat → Bool) : Nat → Nat → Nat
  | 0, _ => 0
  | m + 1, k => if P k = true then cntF P m (k + 1) + 1 else cntF P m (k + 1)
def fstF (P : Nat → Bool) : Nat → Nat → Option Nat
  | 0, _ => none
  | m + 1, k => if P k = true then some k else fstF P m (k + 1)
theorem cnt_s (P : Nat → Bool) (m k : Nat) : cntF P (m + 1) k = if P k = true then cntF P m (k + 1) + 1 else cntF P m (k + 1) := rfl
theorem fst_s (P : Nat → Bool) (m k : Nat) : fstF P (m + 1) k = if P k = true then some k else fstF P m (k + 1) := rfl
theorem cnt_le (P : Nat → Bool) : ∀ m k, cntF P m k ≤ m
  | 0, _ => Nat.le_refl _
  | m + 1, k => by
    have := cnt_le P m (k + 1)
    unfold cntF
    by_cases c : P k = true
    · rw [if_pos c]; omega
    · rw [if_neg c]; omega
theorem cnt_0 (P : Nat → Bool) : ∀ m k, (0 < cntF P m k ↔ ∃ q, k ≤ q ∧ q < k + m ∧ P q = true)
  | 0, k => by
    unfold cntF
    constructor
    · intro h; omega
    · intro ⟨q, h1, h2, _⟩; omega
  | m + 1, k => by
    have ih := cnt_0 P m (k + 1)
    unfold cntF
    by_cases c : P k = true
    · rw [if_pos c]
      exact ⟨fun _ => ⟨k, Nat.le_refl _, by omega, c⟩, fun _ => by omega⟩
    · rw [if_neg c, ih]
      constructor
      · intro ⟨q, h1, h2, h3⟩; exact ⟨q, by omega, by omega, h3⟩
      · intro ⟨q, h1, h2, h3⟩
        have : q ≠ k := fun e => c (e ▸ h3)
        exact ⟨q, by omega, by omega, h3⟩
theorem fst_0 (P : Nat → Bool) : ∀ m k, (fstF P m k = none ↔ cntF P m k = 0)
  | 0, k => by unfold fstF cntF; simp
  | m + 1, k => by
    unfold fstF cntF
    by_cases c : P k = true
    · rw [if_pos c, if_pos c]; simp
    · rw [if_neg c, if_neg c]; exact fst_0 P m (k + 1)
theorem fst_r (P : Nat → Bool) : ∀ m k q, fstF P m k = some q → k ≤ q ∧ q < k + m
  | 0, k, q, h => by cases h
  | m + 1, k, q, h => by
    unfold fstF at h
    by_cases c : P k = true
    · rw [if_pos c] at h; cases h; omega
    · rw [if_neg c] at h; have := fst_r P m (k + 1) q h; omega
/-- a guess, by its number -/
def gue (kd but : Int32) (s : Nat → Int32) (N k : Nat) : Bool := allB (fun j => decide (nI j = but) || agr kd (nI (k / 1000)) (nI (k % 1000)) s j) N 0
theorem lp_gue {N : Nat} {kd but : Int32} {s : Nat → Int32} (hN : N ≤ 6) (h2 : s 2 = nI N) (hkd : 1 ≤ kd.toInt ∧ kd.toInt ≤ 5) : ∀ M k c n u, 1000 ≤ k → k + M = 10000 → M < n → c ≤ 9000 → c + M ≤ 9000 → u.2.1 0 = s → ∃ u', F_X12_guesses_l12 n u kd but (nI c) (nI k) = some (nI (c + cntF (gue kd but s N) M k), u') ∧ Cr u' = Cr u ∧ u'.2.1 0 = s ∧ (c ≠ 0 → u'.1 14 = u.1 14) ∧ (c = 0 → ∀ q, fstF (gue kd but s N) M k = some q → u'.1 14 = nI q)
  | _, _, _, 0, _, _, _, h, _, _, _ => absurd h (Nat.not_lt_zero _)
  | 0, k, c, n + 1, u, _, hk, _, _, _, hu => by
    have hk : k = 10000 := by omega
    subst hk
    refine ⟨u, ?_, rfl, hu, fun _ => rfl, fun _ q hq => by cases hq⟩
    unfold F_X12_guesses_l12
    rw [if_pos (show (10000 : Int32) ≤ nI 10000 from nI_le (a := 10000) (b := 10000) (by omega) (by omega))]; rfl
  | M + 1, k, c, n + 1, u, h1000, hk, hM, hc, hcM, hu => by
    obtain ⟨d1, d2⟩ := n_div1000 (k := k) (by omega)
    have tmI : (nI (k / 1000)).toInt = ((k / 1000 : Nat) : Int) := nI_toInt (by omega)
    have tlI : (nI (k % 1000)).toInt = ((k % 1000 : Nat) : Int) := nI_toInt (by omega)
    have ag : F_X12_isAgreed u kd (nI (k / 1000)) (nI (k % 1000)) but = some (bB (gue kd but s N k)) := r_agr hu hN h2 hkd (by omega) (by omega) (by omega) (by omega) N 0 xFuel (by omega) (xF_big (by omega))
    have g0 : ¬ (10000 : Int32) ≤ nI k := nI_ge (a := k) (b := 10000) (by omega) (by omega)
    by_cases g : gue kd but s N k = true
    · have b1 : ¬ bB (gue kd but s N k) = 0 := by rw [g]; decide
      by_cases c0 : c = 0
      · subst c0
        obtain ⟨u', r1, r2, r3, r4, r5⟩ := lp_gue hN h2 hkd M (k + 1) 1 n (mS u 14 (nI k)) (by omega) (by omega) (by omega) (by omega) (by omega) hu
        refine ⟨u', ?_, r2, r3, fun h => absurd rfl h, fun _ q hq => ?_⟩
        · unfold F_X12_guesses_l12 F_X12_guesses_j55 F_X12_guesses_j61
          simp only [xlet]
          rw [if_neg g0, d1, show nI k - nI (k / 1000) * 1000 = nI (k % 1000) by rw [← d1]; exact d2, ag, Option.bind_some, if_neg b1, if_pos (show nI 0 = 0 from rfl), nI_1, nI_1, r1]
          rw [cnt_s, if_pos g, show 1 + cntF (gue kd but s N) M (k + 1) = 0 + (cntF (gue kd but s N) M (k + 1) + 1) by omega]
        · unfold fstF at hq
          rw [if_pos g] at hq
          cases hq
          rw [r4 (by decide), mS_1]
      · have c0' : ¬ nI c = 0 := fun e => c0 ((nI_eq (a := c) (b := 0) (by omega) (by omega)).1 e)
        obtain ⟨u', r1, r2, r3, r4, r5⟩ := lp_gue hN h2 hkd M (k + 1) (c + 1) n (mS u 14 (u.1 14)) (by omega) (by omega) (by omega) (by omega) (by omega) hu
        refine ⟨u', ?_, r2, r3, fun _ => by rw [r4 (by omega), mS_1], fun h => absurd h c0⟩
        unfold F_X12_guesses_l12 F_X12_guesses_j55 F_X12_guesses_j61
        simp only [xlet]
        rw [if_neg g0, d1, show nI k - nI (k / 1000) * 1000 = nI (k % 1000) by rw [← d1]; exact d2, ag, Option.bind_some, if_neg b1, if_neg c0', nI_1, nI_1, r1]
        rw [cnt_s, if_pos g, show c + 1 + cntF (gue kd but s N) M (k + 1) = c + (cntF (gue kd but s N) M (k + 1) + 1) by omega]
    · have b0 : bB (gue kd but s N k) = 0 := by rw [show gue kd but s N k = false by simpa using g]; rfl
      obtain ⟨u', r1, r2, r3, r4, r5⟩ := lp_gue hN h2 hkd M (k + 1) c n u (by omega) (by omega) (by omega) hc (by omega) hu
      refine ⟨u', ?_, r2, r3, r4, fun h q hq => ?_⟩
      · unfold F_X12_guesses_l12 F_X12_guesses_j61
        simp only [xlet]
        rw [if_neg g0, d1, show nI k - nI (k / 1000) * 1000 = nI (k % 1000) by rw [← d1]; exact d2, ag, Option.bind_some, if_pos b0, nI_1, r1]
        rw [cnt_s, if_neg g]
      · unfold fstF at hq
        rw [if_neg g] at hq
        exact r5 h q hq
theorem r_gue {N : Nat} {kd but : Int32} {s : Nat → Int32} {u : xS} (hN : N ≤ 6) (h2 : s 2 = nI N) (hkd : 1 ≤ kd.toInt ∧ kd.toInt ≤ 5) (hu : u.2.1 0 = s) : ∃ u', F_X12_guesses u kd but = some (nI (cntF (gue kd but s N) 9000 1000), u') ∧ Cr u' = Cr u ∧ u'.2.1 0 = s ∧ ∀ q, fstF (gue kd but s N) 9000 1000 = some q → u'.1 14 = nI q := by
  obtain ⟨u', r1, r2, r3, r4, r5⟩ := lp_gue (but := but) hN h2 hkd 9000 1000 0 xFuel (mS u 14 (-1)) (by omega) (by omega) (xF_big (by omega)) (by omega) (by omega) hu
  refine ⟨u', ?_, r2, r3, r5 rfl⟩
  unfold F_X12_guesses
  simp only [xlet]
  have e : (0 + cntF (gue kd but s N) 9000 1000) = cntF (gue kd but s N) 9000 1000 := Nat.zero_add _
  rw [e] at r1
  exact r1
