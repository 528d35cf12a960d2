/-! ===== pure mathematics 33: the words and numbers of a law ===== -/
def hq (f : Nat → Nat) : Nat → Nat
  | 0 => 0
  | i + 1 => if hq f i ≤ 36028797018963967 then 32 * hq f i + f i else hq f i
theorem hq_pos {f : Nat → Nat} : ∀ i, (∀ k, k < i + 1 → 1 ≤ f k ∧ f k ≤ 26) → 1 ≤ hq f (i + 1)
  | i, h => by
    have := (h i (by omega)).1
    unfold hq
    by_cases c : hq f i ≤ 36028797018963967
    · rw [if_pos c]; omega
    · rw [if_neg c]; omega
theorem hq_big {f : Nat → Nat} : ∀ i, (∀ k, k < i → 1 ≤ f k ∧ f k ≤ 26) → hq f i ≤ 1152921504606846970
  | 0, _ => Nat.zero_le _
  | i + 1, h => by
    have := (h i (by omega)).2
    have := hq_big i (fun k hk => h k (by omega))
    unfold hq
    by_cases c : hq f i ≤ 36028797018963967
    · rw [if_pos c]; omega
    · rw [if_neg c]; omega
theorem hq_inj {f g : Nat → Nat} : ∀ i j, (∀ k, k < i → 1 ≤ f k ∧ f k ≤ 26) → (∀ k, k < j → 1 ≤ g k ∧ g k ≤ 26) → hq g j ≤ 36028797018963967 → hq f i = hq g j → i = j ∧ ∀ k, k < i → f k = g k
  | 0, 0, _, _, _, _ => ⟨rfl, fun k hk => absurd hk (Nat.not_lt_zero _)⟩
  | 0, j + 1, _, hg, _, h => by
    have := hq_pos j hg
    have e : hq f 0 = 0 := rfl
    omega
  | i + 1, 0, hf, _, _, h => by
    have := hq_pos i hf
    have e : hq g 0 = 0 := rfl
    omega
  | i + 1, j + 1, hf, hg, hb, h => by
    have f1 := hf i (by omega)
    have g1 := hg j (by omega)
    have ef : hq f (i + 1) = if hq f i ≤ 36028797018963967 then 32 * hq f i + f i else hq f i := rfl
    have eg : hq g (j + 1) = if hq g j ≤ 36028797018963967 then 32 * hq g j + g j else hq g j := rfl
    have cg : hq g j ≤ 36028797018963967 := by
      by_cases c : hq g j ≤ 36028797018963967
      · exact c
      · rw [if_neg c] at eg; omega
    have cf : hq f i ≤ 36028797018963967 := by
      by_cases c : hq f i ≤ 36028797018963967
      · exact c
      · rw [if_neg c] at ef; omega
    rw [if_pos cg] at eg
    rw [if_pos cf] at ef
    have ih := hq_inj i j (fun k hk => hf k (by omega)) (fun k hk => hg k (by omega)) cg (by omega)
    refine ⟨by omega, fun k hk => ?_⟩
    obtain ⟨e, ih⟩ := ih
    by_cases d : k = i
    · subst d; subst e; omega
    · exact ih k (by omega)
theorem hq_ext {f g : Nat → Nat} : ∀ i, (∀ k, k < i → f k = g k) → hq f i = hq g i
  | 0, _ => rfl
  | i + 1, h => by
    unfold hq
    rw [hq_ext i (fun k hk => h k (by omega)), h i (by omega)]
def fT (T : Nat → Int32) (st k : Nat) : Nat := ((T (st + k)).toInt - 96).toNat
def fB (j k : Nat) : Nat := ((sB j k).toInt - 96).toNat
theorem so_1 {T : Nat → Int32} {n i : Nat} (h : so T n i = 1) : 97 ≤ (T i).toInt ∧ (T i).toInt ≤ 122 := by
  unfold so at h
  by_cases c : n ≤ i
  · rw [if_pos c] at h; exact absurd h (by decide)
  · rw [if_neg c] at h
    by_cases a : 97 ≤ T i ∧ T i ≤ 122
    · rw [fa_le, fa_le] at a; exact a
    · rw [if_neg a] at h
      by_cases b : 48 ≤ T i ∧ T i ≤ 57
      · rw [if_pos b] at h; exact absurd h (by decide)
      · rw [if_neg b] at h
        by_cases d : T i = 32
        · rw [if_pos d] at h; exact absurd h (by decide)
        · rw [if_neg d] at h; exact absurd h (by decide)
theorem so_2 {T : Nat → Int32} {n i : Nat} (h : so T n i = 2) : 48 ≤ (T i).toInt ∧ (T i).toInt ≤ 57 := by
  unfold so at h
  by_cases c : n ≤ i
  · rw [if_pos c] at h; exact absurd h (by decide)
  · rw [if_neg c] at h
    by_cases a : 97 ≤ T i ∧ T i ≤ 122
    · rw [if_pos a] at h; exact absurd h (by decide)
    · rw [if_neg a] at h
      by_cases b : 48 ≤ T i ∧ T i ≤ 57
      · rw [fa_le, fa_le] at b; exact b
      · rw [if_neg b] at h
        by_cases d : T i = 32
        · rw [if_pos d] at h; exact absurd h (by decide)
        · rw [if_neg d] at h; exact absurd h (by decide)
theorem nI_nat {x : Int32} {d : Nat} (h : x.toInt = (d : Int)) : x = nI d := by
  have := fb_rng x
  apply Int32.toInt_inj.1
  rw [nI_toInt (by omega), h]
theorem fT_1 {T : Nat → Int32} {n st k : Nat} (h : so T n (st + k) = 1) : (1 ≤ fT T st k ∧ fT T st k ≤ 26) ∧ ((T (st + k)) - 96).toInt64 = lN (fT T st k) := by
  have a := so_1 h
  unfold fT
  refine ⟨by omega, ?_⟩
  have e : T (st + k) - 96 = nI ((T (st + k)).toInt - 96).toNat := by
    have e96 : (96 : Int32).toInt = 96 := rfl
    apply nI_nat
    rw [fb_subI (by rw [e96]; omega) (by rw [e96]; omega), e96]
    omega
  rw [e, nI_l (by omega)]
/-- no word stands here -/
theorem wd_0 {u : xS} {T : Nat → Int32} {n st en : Nat} (hR : TsR u T n) (hn : n ≤ 200) (hs : st ≤ 200) (he : en ≤ 200) (h19 : u.1 19 = nI st) (h20 : u.1 20 = nI en) (hc : u.1 24 ≠ 0 ∨ so T n st ≠ 1) : ∀ m i k y, i + m = en → m < k → F_X12_word_l7 k u y (nI i) = some 0
  | _, _, 0, _, _, h => absurd h (Nat.not_lt_zero _)
  | 0, i, k + 1, y, hi, _ => by
    have hi : i = en := by omega
    subst hi
    unfold F_X12_word_l7 F_X12_word_j71 F_X12_word_j76
    rw [h20, if_pos (nI_le (Nat.le_refl _) (by omega)), h19, r_byteAt hR hn hs]
    simp only [Option.bind_some, r_isLetter]
    rcases hc with hc | hc
    · rw [if_neg hc]
    · rw [bI_f hc, if_pos rfl]
      by_cases d : u.1 24 = 0
      · rw [if_pos d]
      · rw [if_neg d]
  | m + 1, i, k + 1, y, hi, hm => by
    unfold F_X12_word_l7 F_X12_word_j43
    simp only [xlet]
    rw [h20, if_neg (nI_ge (show i < en by omega) (by omega)), if_pos (n_xIn (show i < 200 by omega) (by omega)), nI_1, wd_0 hR hn hs he h19 h20 hc m (i + 1) k _ (by omega) (by omega), wd_0 hR hn hs he h19 h20 hc m (i + 1) k _ (by omega) (by omega)]
    by_cases d : lg_cmp y 36028797018963967 ≤ 0
    · rw [if_pos d]
    · rw [if_neg d]
theorem wd_1 {u : xS} {T : Nat → Int32} {n st en : Nat} (hR : TsR u T n) (hn : n ≤ 200) (he : en ≤ 200) (h19 : u.1 19 = nI st) (h20 : u.1 20 = nI en) (hc : u.1 24 = 0) (hs : st < en) (hl : ∀ j, st ≤ j → j < en → so T n j = 1) : ∀ m i k, st + i + m = en → m < k → F_X12_word_l7 k u (lN (hq (fT T st) i)) (nI (st + i)) = some (lN (hq (fT T st) (en - st)))
  | _, _, 0, _, h => absurd h (Nat.not_lt_zero _)
  | 0, i, k + 1, hi, _ => by
    have e : en - st = i := by omega
    have e2 : st + i = en := by omega
    unfold F_X12_word_l7 F_X12_word_j71 F_X12_word_j76
    rw [h20, e, e2, if_pos (nI_le (Nat.le_refl _) (by omega)), h19, r_byteAt hR hn (by omega)]
    simp only [Option.bind_some, r_isLetter]
    rw [if_pos hc, bI_t (hl st (by omega) hs), if_neg (show ¬ (1 : Int32) = 0 by decide)]
  | m + 1, i, k + 1, hi, hm => by
    have dg : ∀ k, k < i → 1 ≤ fT T st k ∧ fT T st k ≤ 26 := fun k hk => (fT_1 (hl (st + k) (by omega) (by omega))).1
    have big := hq_big i dg
    have d1 := fT_1 (hl (st + i) (by omega) (by omega))
    have ih := wd_1 hR hn he h19 h20 hc hs hl m (i + 1) k (by omega) (by omega)
    unfold F_X12_word_l7 F_X12_word_j43
    simp only [xlet]
    rw [h20, if_neg (nI_ge (show st + i < en by omega) (by omega)), if_pos (n_xIn (show st + i < 200 by omega) (by omega)), nI_1, n_cl (by omega), hR.2, d1.2]
    have le : lg_cmp (lN (hq (fT T st) i)) 36028797018963967 ≤ 0 ↔ hq (fT T st) i ≤ 36028797018963967 := by
      rw [lg_cmp_le]
      exact pk_lLE (a := hq (fT T st) i) (b := 36028797018963967) (by omega) (by omega)
    have eh : hq (fT T st) (i + 1) = if hq (fT T st) i ≤ 36028797018963967 then 32 * hq (fT T st) i + fT T st i else hq (fT T st) i := rfl
    by_cases d : hq (fT T st) i ≤ 36028797018963967
    · rw [if_pos d] at eh
      rw [if_pos (le.2 d), show (32 : Int64) = lN 32 from rfl, lN_mul, lN_add, ← eh]
      exact ih
    · rw [if_neg d] at eh
      rw [if_neg (fun h => d (le.1 h)), ← eh]
      exact ih
/-- the words as numbers -/
def hN (j : Nat) : Int64 := lN (hq (fB j) (sN j))
theorem wB (j : Nat) (h : j < 19) : (∀ k, k < sN j → 1 ≤ fB j k ∧ fB j k ≤ 26 ∧ sB j k = nI (96 + fB j k)) ∧ hq (fB j) (sN j) ≤ 36028797018963967 ∧ 1 ≤ hq (fB j) (sN j) ∧ sN j ≤ 6 := by
  revert h; revert j; decide
theorem isN {t : xT} {N q n st en j : Nat} {T : Nat → Int32} (hC : TsC t N q T n) (h5 : tI t N 5 = nI st) (hj : j < 19) (hn : n ≤ 200) (he : st + sN j ≤ n) : ∀ m i k, i + m = sN j → m < k → ∃ b : Bool, F_X3_isName_l28 k t N j (nI i) = some (if b then 1 else 0, t) ∧ (b = true ↔ ∀ x, i ≤ x → x < sN j → T (st + x) = sB j x)
  | _, _, 0, _, h => absurd h (Nat.not_lt_zero _)
  | 0, i, k + 1, hi, _ => by
    have hw := (wB j hj).2.2.2
    refine ⟨true, ?_, ⟨fun _ x x1 x2 => by omega, fun _ => rfl⟩⟩
    unfold F_X3_isName_l28
    rw [if_pos hj, if_pos (nI_le (show sN j ≤ i by omega) (by omega))]
    rfl
  | m + 1, i, k + 1, hi, hm => by
    have hw := (wB j hj).2.2.2
    obtain ⟨g1, g2, g3, g4, g5, g6, g7, g8⟩ := hC
    have body : F_X3_isName_l28 (k + 1) t N j (nI i) = if T (st + i) = sB j i then F_X3_isName_l28 k t N j (nI (i + 1)) else some ((0 : Int32), t) := by
      conv => lhs; unfold F_X3_isName_l28
      unfold F_X3_isName_j70
      simp only [xlet]
      rw [if_pos hj, if_neg (nI_ge (show i < sN j by omega) (by omega)), if_pos g1, h5, nI_add, if_neg (nI_pos (by omega)), g2, Option.bind_some, if_pos g3, g4, if_neg (nI_ge (show st + i < 200 by omega) (by omega)), Option.bind_some, if_pos g3, g4, if_pos (n_xIn (show st + i < 200 by omega) (by omega)), if_pos hj, if_pos (n_xIn (show i < sN j by omega) (by omega)), n_cl (by omega), n_cl (by omega), g5 _ (by omega), nI_1]
    by_cases c : T (st + i) = sB j i
    · obtain ⟨b, b1, b2⟩ := isN (en := en) ⟨g1, g2, g3, g4, g5, g6, g7, g8⟩ h5 hj hn he m (i + 1) k (by omega) (by omega)
      refine ⟨b, by rw [body, if_pos c]; exact b1, b2.trans ⟨fun h x x1 x2 => ?_, fun h x x1 x2 => h x (by omega) x2⟩⟩
      by_cases d : x = i
      · rw [d]; exact c
      · exact h x (by omega) x2
    · refine ⟨false, by rw [body, if_neg c]; rfl, ⟨fun h => (by cases h), fun h => absurd (h i (Nat.le_refl _) (by omega)) c⟩⟩
theorem lN_0 : lN 0 = 0 := rfl
/-- a word is the same word on both sides -/
theorem word {t : xT} {u : xS} {N q n st en : Nat} {T : Nat → Int32} (h : Tk t u N q T n st en) (h0 : u.1 24 = 0) : ∃ w, F_X12_word u = some w ∧ (so T n st ≠ 1 → w = 0) ∧ ∀ j, j < 19 → F_X3_isName t N j = some (bI (w = hN j), t) := by
  obtain ⟨hC, hR, ⟨k1, k2, k3, k4, k5⟩, h5, h6, h2, h19, h20⟩ := h
  have hn : n ≤ 200 := hC.2.2.2.2.2.2.1
  have e19 : F_X12_word u = F_X12_word_l7 xFuel u 0 (nI st) := by
    unfold F_X12_word
    simp only [xlet]
    rw [h19]
  by_cases c : so T n st = 1
  · have lt : st < en := k4 (by rw [c]; decide)
    have hl : ∀ j, st ≤ j → j < en → so T n j = 1 := fun j j1 j2 => (k5 j j1 j2).trans c
    have w1 : F_X12_word u = some (lN (hq (fT T st) (en - st))) := by
      rw [e19]
      exact wd_1 hR hn (by omega) h19 h20 h0 lt hl (en - st) 0 xFuel (by omega) (xF_big (by omega))
    refine ⟨_, w1, fun h => absurd c h, fun j hj => ?_⟩
    obtain ⟨v1, v2, v3, v4⟩ := wB j hj
    have dg : ∀ k, k < en - st → 1 ≤ fT T st k ∧ fT T st k ≤ 26 := fun k hk => (fT_1 (hl (st + k) (by omega) (by omega))).1
    have big := hq_big _ dg
    have sub : nI en - nI st = nI (en - st) := by
      have : nI en = nI (en - st) + nI st := by rw [nI_add, Nat.sub_add_cancel (by omega)]
      rw [this, Int32.add_sub_cancel]
    have head : F_X3_isName t N j = if nI (en - st) = nI (sN j) then F_X3_isName_l28 xFuel t N j 0 else some ((0 : Int32), t) := by
      unfold F_X3_isName F_X3_isName_j24
      rw [if_pos hC.1, h2, if_pos c, if_pos hj, h5, h6, sub]
    have eqv : lN (hq (fT T st) (en - st)) = hN j ↔ hq (fT T st) (en - st) = hq (fB j) (sN j) := pk_lEQ (by omega) (by omega)
    rw [head]
    by_cases d : en - st = sN j
    · rw [if_pos (congrArg nI d)]
      obtain ⟨b, b1, b2⟩ := isN (en := en) hC h5 hj hn (show st + sN j ≤ n by omega) (sN j) 0 xFuel (by omega) (xF_big (by omega))
      have b1 : F_X3_isName_l28 xFuel t N j 0 = some (if b then 1 else 0, t) := b1
      have key : b = true ↔ lN (hq (fT T st) (en - st)) = hN j := by
        rw [b2, eqv]
        constructor
        · intro h
          rw [d]
          refine hq_ext _ (fun k hk => ?_)
          unfold fT fB
          rw [h k (Nat.zero_le _) hk]
        · intro h x _ hx
          have := (hq_inj _ _ dg (fun k hk => ⟨(v1 k hk).1, (v1 k hk).2.1⟩) v2 h).2 x (by omega)
          rw [(v1 x hx).2.2, ← this]
          have := so_1 (hl (st + x) (by omega) (by omega))
          apply nI_nat
          unfold fT
          omega
      rw [b1]
      cases b with
      | true => rw [bI_t (key.1 rfl)]; rfl
      | false => rw [bI_f (fun h => by have := key.2 h; cases this)]; rfl
    · rw [if_neg (fun h => d ((nI_eq (by omega) (by omega)).1 h)), bI_f]
      intro h
      exact d (hq_inj _ _ dg (fun k hk => ⟨(v1 k hk).1, (v1 k hk).2.1⟩) v2 (eqv.1 h)).1
  · refine ⟨0, ?_, fun _ => rfl, fun j hj => ?_⟩
    · rw [e19]
      exact wd_0 hR hn (by omega) (by omega) h19 h20 (Or.inr c) (en - st) st xFuel 0 (by omega) (xF_big (by omega))
    · obtain ⟨v1, v2, v3, v4⟩ := wB j hj
      unfold F_X3_isName F_X3_isName_j24
      rw [if_pos hC.1, h2, if_neg c, bI_f]
      intro h
      have : lN 0 = lN (hq (fB j) (sN j)) := h
      have := (pk_lEQ (by omega) (by omega)).1 this
      omega
theorem word_f {u : xS} {T : Nat → Int32} {n st en : Nat} (hR : TsR u T n) (hn : n ≤ 200) (hs : st ≤ en) (he : en ≤ 200) (h19 : u.1 19 = nI st) (h20 : u.1 20 = nI en) (hc : u.1 24 ≠ 0) : F_X12_word u = some 0 := by
  unfold F_X12_word
  simp only [xlet]
  rw [h19]
  exact wd_0 hR hn (by omega) he h19 h20 (Or.inl hc) (en - st) st xFuel 0 (by omega) (xF_big (by omega))
theorem hN_0 : hN 0 = 86282469 := by decide
theorem hN_1 : hN 1 = 17171758 := by decide
theorem hN_2 : hN 2 = 659100717 := by decide
theorem hN_3 : hN 3 = 435596 := by decide
theorem hN_4 : hN 4 = 5351 := by decide
theorem hN_5 : hN 5 = 437857460 := by decide
theorem hN_6 : hN 6 = 294 := by decide
theorem hN_7 : hN 7 = 14836 := by decide
theorem hN_8 : hN 8 = 4153 := by decide
theorem hN_9 : hN 9 = 21279923 := by decide
theorem hN_10 : hN 10 = 671116 := by decide
theorem hN_11 : hN 11 = 6456948 := by decide
theorem hN_12 : hN 12 = 492210354 := by decide
theorem hN_13 : hN 13 = 1476 := by decide
theorem hN_14 : hN 14 = 498 := by decide
theorem hN_15 : hN 15 = 215205 := by decide
theorem hN_16 : hN 16 = 136242 := by decide
theorem hN_17 : hN 17 = 150636933 := by decide
theorem hN_18 : hN 18 = 631476 := by decide
/-! numbers -/
def vI (T : Nat → Int32) (st : Nat) : Nat → Int32
  | 0 => 0
  | i + 1 => ((vI T st i * 10) + T (st + i)) - 48
theorem vI_rng {T : Nat → Int32} {st : Nat} : ∀ i, i ≤ 4 → (∀ j, j < i → 48 ≤ (T (st + j)).toInt ∧ (T (st + j)).toInt ≤ 57) → 0 ≤ (vI T st i).toInt ∧ (vI T st i).toInt < ((10 ^ i : Nat) : Int)
  | 0, _, _ => ⟨by show (0 : Int) ≤ (0 : Int32).toInt; decide, by show (0 : Int32).toInt < ((1 : Nat) : Int); decide⟩
  | i + 1, hi, h => by
    obtain ⟨a1, a2⟩ := vI_rng i (by omega) (fun j hj => h j (by omega))
    have d := h i (by omega)
    have p : 10 ^ (i + 1) = 10 * 10 ^ i := by rw [Nat.pow_succ, Nat.mul_comm]
    have b : 10 ^ i ≤ 1000 := by
      have := Nat.pow_le_pow_right (show 0 < 10 by decide) (show i ≤ 3 by omega)
      exact this
    rw [p]
    generalize 10 ^ i = P at *
    have e10 : (10 : Int32).toInt = 10 := rfl
    have e48 : (48 : Int32).toInt = 48 := rfl
    have ev : vI T st (i + 1) = ((vI T st i * 10) + T (st + i)) - 48 := rfl
    generalize vI T st i = v at *
    have m1 : (v * 10).toInt = v.toInt * 10 := by rw [fb_mulI] <;> rw [e10] <;> omega
    have m2 : ((v * 10) + T (st + i)).toInt = v.toInt * 10 + (T (st + i)).toInt := by rw [fb_addI] <;> rw [m1] <;> omega
    have m3 : (((v * 10) + T (st + i)) - 48).toInt = v.toInt * 10 + (T (st + i)).toInt - 48 := by rw [fb_subI] <;> rw [m2, e48] <;> omega
    rw [ev, m3]
    omega
theorem mS_S (u : xS) (j : Nat) (v w : Int32) : mS (mS u j v) j w = mS u j w := by
  unfold mS
  refine Prod.ext (funext fun i => ?_) rfl
  show (if i = j then w else if i = j then v else u.1 i) = if i = j then w else u.1 i
  by_cases c : i = j
  · rw [if_pos c, if_pos c]
  · rw [if_neg c, if_neg c, if_neg c]
theorem c_num {t : xT} {N q n st en : Nat} {T : Nat → Int32} (hC : TsC t N q T n) (h6 : tI t N 6 = nI en) (he : en ≤ n) (hn : n ≤ 200) : ∀ m i k, st + i + m = en → m < k → F_X3_numberHere_l30 k t N (vI T st i) (nI (st + i)) = some (vI T st (en - st))
  | _, _, 0, _, h => absurd h (Nat.not_lt_zero _)
  | 0, i, k + 1, hi, _ => by
    have e : en - st = i := by omega
    have e2 : st + i = en := by omega
    unfold F_X3_numberHere_l30 F_X3_numberHere_j72
    rw [e, e2, if_neg (nI_pos (by omega)), if_pos hC.1, h6, if_pos (nI_le (Nat.le_refl _) (by omega))]
  | m + 1, i, k + 1, hi, hm => by
    have ih := c_num (st := st) hC h6 he hn m (i + 1) k (by omega) (by omega)
    obtain ⟨g1, g2, g3, g4, g5, g6, g7, g8⟩ := hC
    unfold F_X3_numberHere_l30
    simp only [xlet]
    rw [if_neg (nI_pos (by omega)), if_pos g1, h6, if_neg (nI_ge (show st + i < en by omega) (by omega)), g2, Option.bind_some, if_pos g3, g4, if_neg (nI_ge (show st + i < 200 by omega) (by omega)), Option.bind_some, if_pos g3, g4, if_pos (n_xIn (show st + i < 200 by omega) (by omega)), n_cl (by omega), g5 _ (by omega), nI_1]
    exact ih
theorem r_num {u : xS} {T : Nat → Int32} {n st en : Nat} {M : Int32} (hR : TsR u T n) (hn : n ≤ 200) (he : en ≤ 200) (h20 : u.1 20 = nI en) : ∀ m i k, st + i + m = en → m < k → F_X12_number_l43 k (mS u 21 (vI T st i)) M 1 (nI (st + i)) = if M < vI T st (en - st) then F_X12_number_j99 (mS u 21 (vI T st (en - st))) else F_X12_number_j100 (mS u 21 (vI T st (en - st))) 1
  | _, _, 0, _, h => absurd h (Nat.not_lt_zero _)
  | 0, i, k + 1, hi, _ => by
    have e : en - st = i := by omega
    have e2 : st + i = en := by omega
    have a20 : (mS u 21 (vI T st i)).1 20 = nI en := (mS_n _ _ (by decide)).trans h20
    unfold F_X12_number_l43 F_X12_number_j82
    rw [a20, e, e2, if_pos (nI_le (Nat.le_refl _) (by omega)), if_neg (show ¬ (1 : Int32) = 0 by decide), mS_1]
  | m + 1, i, k + 1, hi, hm => by
    have ih := r_num (st := st) (M := M) hR hn he h20 m (i + 1) k (by omega) (by omega)
    have a20 : (mS u 21 (vI T st i)).1 20 = nI en := (mS_n _ _ (by decide)).trans h20
    have a17 : (mS u 21 (vI T st i)).2.1 17 = T := hR.2
    have ev : vI T st (i + 1) = ((10 * vI T st i) + T (st + i)) - 48 := by rw [Int32.mul_comm]; rfl
    conv => lhs; unfold F_X12_number_l43
    simp only [xlet]
    rw [a20, if_neg (nI_ge (show st + i < en by omega) (by omega)), if_neg (show ¬ (1 : Int32) = 0 by decide), if_pos (n_xIn (show st + i < 200 by omega) (by omega)), n_cl (by omega), mS_1, a17, mS_S, nI_1, ← ev]
    exact ih
theorem number {t : xT} {u : xS} {N q n st en : Nat} {T : Nat → Int32} (h : Tk t u N q T n st en) (M : Int32) : (∃ v, so T n st = 2 ∧ 0 ≤ v.toInt ∧ v.toInt ≤ 9999 ∧ F_X3_numberHere t N = some v ∧ F_X12_number u M = F_X12_needs (mS u 21 v) (if M < v then 0 else 1)) ∨ (F_X3_numberHere t N = some (-1) ∧ ∃ v, F_X12_number u M = F_X12_needs (mS u 21 v) 0) := by
  obtain ⟨hC, hR, ⟨k1, k2, k3, k4, k5⟩, h5, h6, h2, h19, h20⟩ := h
  have hn : n ≤ 200 := hC.2.2.2.2.2.2.1
  have sub : nI en - nI st = nI (en - st) := by
    have : nI en = nI (en - st) + nI st := by rw [nI_add, Nat.sub_add_cancel (by omega)]
    rw [this, Int32.add_sub_cancel]
  have idb : ∀ (o : Option xS), o.bind (fun r1 => some r1) = o := fun o => by cases o <;> rfl
  have j32 : ∀ s0 : Int32, s0 = 0 → F_X12_number_j32 u M s0 = F_X12_needs (mS u 21 0) 0 := fun s0 hs => by
    subst hs
    have a19 : (mS u 21 0).1 19 = nI st := (mS_n _ _ (by decide)).trans h19
    have a20 : (mS u 21 0).1 20 = nI en := (mS_n _ _ (by decide)).trans h20
    unfold F_X12_number_j32
    simp only [xlet]
    rw [a19, show xFuel = 999999 + 1 from rfl]
    unfold F_X12_number_l43 F_X12_number_j82 F_X12_number_j99 F_X12_number_j100
    rw [a20, if_pos rfl, if_pos rfl, idb]
    by_cases c : nI en ≤ nI st
    · rw [if_pos c]
    · rw [if_neg c]
  by_cases c : so T n st = 2
  · have lt : st < en := k4 (by rw [c]; decide)
    by_cases d : en - st ≤ 4
    · left
      have dg : ∀ j, j < en - st → 48 ≤ (T (st + j)).toInt ∧ (T (st + j)).toInt ≤ 57 := fun j hj => so_2 ((k5 (st + j) (by omega) (by omega)).trans c)
      have rg := vI_rng (en - st) d dg
      have b : ((10 ^ (en - st) : Nat) : Int) ≤ 10000 := by
        have := Nat.pow_le_pow_right (show 0 < 10 by decide) d
        have : 10 ^ (en - st) ≤ 10000 := this
        omega
      refine ⟨vI T st (en - st), c, rg.1, by omega, ?_, ?_⟩
      · unfold F_X3_numberHere
        simp only [xlet]
        rw [if_pos hC.1, h2, if_pos c, h5, h6, sub, if_pos (show nI (en - st) ≤ 4 from nI_le (b := 4) d (by omega))]
        exact c_num (st := st) hC h6 k2 hn (en - st) 0 xFuel (by omega) (xF_big (by omega))
      · have a19 : (mS u 21 0).1 19 = nI st := (mS_n _ _ (by decide)).trans h19
        have := r_num (st := st) (M := M) hR hn (by omega) h20 (en - st) 0 xFuel (by omega) (xF_big (by omega))
        unfold F_X12_number
        rw [h19, r_byteAt hR hn (by omega)]
        simp only [Option.bind_some, r_isDigit]
        rw [bI_t c, if_neg (show ¬ (1 : Int32) = 0 by decide), h20, sub, if_neg (show ¬ 5 ≤ nI (en - st) from nI_ge (b := 5) (by omega) (by decide))]
        unfold F_X12_number_j32
        simp only [xlet]
        rw [a19]
        refine Eq.trans this ?_
        unfold F_X12_number_j99 F_X12_number_j100
        rw [idb, idb]
        by_cases e : M < vI T st (en - st)
        · rw [if_pos e, if_pos e]
        · rw [if_neg e, if_neg e]
    · right
      refine ⟨?_, 0, ?_⟩
      · unfold F_X3_numberHere F_X3_numberHere_j21
        rw [if_pos hC.1, h2, if_pos c, h5, h6, sub, if_neg (show ¬ nI (en - st) ≤ 4 from nI_ge (a := 4) (by omega) (by omega))]
      · unfold F_X12_number
        rw [h19, r_byteAt hR hn (by omega)]
        simp only [Option.bind_some, r_isDigit]
        rw [bI_t c, if_neg (show ¬ (1 : Int32) = 0 by decide), h20, sub, if_pos (show 5 ≤ nI (en - st) from nI_le (a := 5) (by omega) (by omega))]
        unfold F_X12_number_j31
        exact j32 0 rfl
  · right
    refine ⟨?_, 0, ?_⟩
    · unfold F_X3_numberHere F_X3_numberHere_j21
      rw [if_pos hC.1, h2, if_neg c]
    · unfold F_X12_number
      rw [h19, r_byteAt hR hn (by omega)]
      simp only [Option.bind_some, r_isDigit]
      rw [bI_f c, if_pos rfl]
      unfold F_X12_number_j31
      exact j32 0 rfl
/-! single bytes -/
theorem byte {t : xT} {u : xS} {N q n st en : Nat} {T : Nat → Int32} (h : Tk t u N q T n st en) (c : Int32) (hc : so (fun _ => c) 1 0 = 3) (hm : c ≠ -1) : ∃ x, F_X12_byteAt u (u.1 19) = some x ∧ F_X3_isByte t N c = some (bI (x = c)) := by
  obtain ⟨hC, hR, ⟨k1, k2, k3, k4, k5⟩, h5, h6, h2, h19, h20⟩ := h
  have hn : n ≤ 200 := hC.2.2.2.2.2.2.1
  refine ⟨LB T n st, by rw [h19]; exact r_byteAt hR hn (by omega), ?_⟩
  obtain ⟨g1, g2, g3, g4, g5, g6, g7, g8⟩ := hC
  have eq3 : ∀ {m : Nat}, m ≤ 200 → so T n m ≠ 3 → LB T n m ≠ c := fun {m} _ h3 e => by
    unfold LB at e
    unfold so at h3 hc
    by_cases d : n ≤ m
    · rw [if_pos d] at e; exact hm e.symm
    · rw [if_neg d] at e h3
      rw [e] at h3
      rw [if_neg (show ¬ 1 ≤ 0 by decide)] at hc
      exact h3 hc
  unfold F_X3_isByte F_X3_isByte_j44 F_X3_isByte_j45
  rw [if_pos g1, h2]
  by_cases d : so T n st = 3
  · have lt : st < n := by
      by_cases e : n ≤ st
      · rw [(so_0 T n st).2 e] at d; exact absurd d (by decide)
      · omega
    have eL : LB T n st = T st := by unfold LB; rw [if_neg (by omega)]
    rw [if_pos d, h5, if_neg (nI_pos (by omega)), g2, Option.bind_some, if_pos g3, g4, if_neg (nI_ge (show st < 200 by omega) (by omega)), Option.bind_some, if_pos g3, g4, if_pos (n_xIn (show st < 200 by omega) (by omega)), n_cl (by omega), g5 _ (by omega), eL]
    by_cases e : T st = c
    · rw [if_pos e, bI_t e]; rfl
    · rw [if_neg e, bI_f e]; rfl
  · rw [if_neg d, bI_f (eq3 (by omega) d)]; rfl
