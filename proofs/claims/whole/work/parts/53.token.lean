/-! ===== pure mathematics 32: the tokens of a law ===== -/
theorem mS_n (u : xS) {i j : Nat} (v : Int32) (h : i ≠ j) : (mS u j v).1 i = u.1 i := by
  show (if i = j then v else u.1 i) = _
  rw [if_neg h]
def LB (T : Nat → Int32) (n i : Nat) : Int32 := if n ≤ i then -1 else T i
def so (T : Nat → Int32) (n i : Nat) : Int32 := if n ≤ i then 0 else if 97 ≤ T i ∧ T i ≤ 122 then 1 else if 48 ≤ T i ∧ T i ≤ 57 then 2 else if T i = 32 then 4 else 3
def TsC (t : xT) (N q : Nat) (T : Nat → Int32) (n : Nat) : Prop := tK t N = 3 ∧ tP t N 3 = some q ∧ tK t q = 20 ∧ tN t q = 200 ∧ (∀ i, i < 200 → tI t q i = T i) ∧ tI t N 4 = nI n ∧ n ≤ 200 ∧ q ≠ N
def TsR (u : xS) (T : Nat → Int32) (n : Nat) : Prop := u.1 18 = nI n ∧ u.2.1 17 = T
/-- only the reader's own ints may change -/
def Rk (N : Nat) (t t' : xT) : Prop := t'.1 = t.1 ∧ t'.2.1 = t.2.1 ∧ t'.2.2.1 = t.2.2.1 ∧ t'.2.2.2.2 = t.2.2.2.2 ∧ (∀ q, q ≠ N → tI t' q = tI t q) ∧ ∀ j, j ≠ 1 → j ≠ 2 → j ≠ 5 → j ≠ 6 → tI t' N j = tI t N j
theorem Rk.rf (N : Nat) (t : xT) : Rk N t t := ⟨rfl, rfl, rfl, rfl, fun _ _ => rfl, fun _ _ _ _ _ => rfl⟩
theorem Rk.tr {N : Nat} {t t' t'' : xT} (h : Rk N t t') (h' : Rk N t' t'') : Rk N t t'' := ⟨h'.1.trans h.1, h'.2.1.trans h.2.1, h'.2.2.1.trans h.2.2.1, h'.2.2.2.1.trans h.2.2.2.1, fun q hq => (h'.2.2.2.2.1 q hq).trans (h.2.2.2.2.1 q hq), fun j a b c d => (h'.2.2.2.2.2 j a b c d).trans (h.2.2.2.2.2 j a b c d)⟩
theorem Rk.SI (N : Nat) (t : xT) {j : Nat} (v : Int32) (h : j = 1 ∨ j = 2 ∨ j = 5 ∨ j = 6) : Rk N t (tSI t N j v) := ⟨rfl, rfl, rfl, rfl, fun q hq => tI_SIn _ _ _ _ hq, fun i a b c d => by
  rw [tI_SI, upd_n _ _ (by omega)]⟩
theorem TsC.rk {t t' : xT} {N q n : Nat} {T : Nat → Int32} (h : TsC t N q T n) (r : Rk N t t') : TsC t' N q T n := by
  obtain ⟨r1, r2, r3, r4, r5, r6⟩ := r
  have eK : ∀ x, tK t' x = tK t x := fun x => congrFun r2 x
  have eN : ∀ x, tN t' x = tN t x := fun x => congrFun r3 x
  have eP : ∀ x, tP t' x = tP t x := fun x => congrFun r4 x
  obtain ⟨h1, h2, h3, h4, h5, h6, h7, h8⟩ := h
  refine ⟨(eK N).trans h1, ?_, (eK q).trans h3, (eN q).trans h4, ?_, ?_, h7, h8⟩
  · rw [eP]; exact h2
  · rw [r5 q h8]; exact h5
  · rw [r6 4 (by decide) (by decide) (by decide) (by decide)]; exact h6
def Uk (u u' : xS) : Prop := u'.2 = u.2 ∧ ∀ j, j ≠ 19 → j ≠ 20 → u'.1 j = u.1 j
theorem Uk.rf (u : xS) : Uk u u := ⟨rfl, fun _ _ _ => rfl⟩
theorem Uk.tr {u u' u'' : xS} (h : Uk u u') (h' : Uk u' u'') : Uk u u'' := ⟨h'.1.trans h.1, fun j a b => (h'.2 j a b).trans (h.2 j a b)⟩
theorem Uk.S (u : xS) {j : Nat} (v : Int32) (h : j = 19 ∨ j = 20) : Uk u (mS u j v) := ⟨rfl, fun i a b => mS_n _ _ (by omega)⟩
theorem TsR.uk {u u' : xS} {T : Nat → Int32} {n : Nat} (h : TsR u T n) (k : Uk u u') : TsR u' T n := ⟨(k.2 18 (by decide) (by decide)).trans h.1, by rw [k.1]; exact h.2⟩
theorem so_ife {α : Type} (x : Int32) {X Y : α} {a b : Int32} (h : ¬ (a ≤ x ∧ x ≤ b)) : (if x < a then X else if b < x then X else Y) = X := by
  by_cases c : x < a
  · rw [if_pos c]
  · rw [if_neg c, if_pos]
    rw [fa_lt] at c ⊢
    rw [fa_le, fa_le] at h
    omega
theorem so_ifp {α : Type} (x : Int32) {X Y : α} {a b : Int32} (h : a ≤ x ∧ x ≤ b) : (if x < a then X else if b < x then X else Y) = Y := by
  rw [fa_le, fa_le] at h
  rw [if_neg (by rw [fa_lt]; omega), if_neg (by rw [fa_lt]; omega)]
theorem c_sortAt {t : xT} {N q n i : Nat} {T : Nat → Int32} (h : TsC t N q T n) (hi : i ≤ 200) : F_X3_sortAt t N (nI i) = some (so T n i) := by
  obtain ⟨h1, h2, h3, h4, h5, h6, h7, -⟩ := h
  unfold F_X3_sortAt F_X3_sortAt_j21
  rw [if_neg (nI_pos (by omega)), if_pos h1, h6]
  by_cases c : n ≤ i
  · rw [if_pos (nI_le c (by omega))]; unfold so; rw [if_pos c]
  · rw [if_neg (nI_ge (show i < n by omega) (by omega)), h2, Option.bind_some, if_pos h3, h4, if_pos (nI_lt (show i < 200 by omega) (by omega)), Option.bind_some, if_pos h3, h4, if_pos (n_xIn (show i < 200 by omega) (by omega))]
    simp only [xlet]
    rw [n_cl (by omega), h5 i (by omega)]
    unfold so F_X3_sortAt_j44 F_X3_sortAt_j58 F_X3_sortAt_j69
    rw [if_neg c]
    generalize T i = x
    by_cases a : 97 ≤ x ∧ x ≤ 122
    · rw [so_ifp x a, if_pos a]
    · rw [so_ife x a, if_neg a]
      by_cases b : 48 ≤ x ∧ x ≤ 57
      · rw [so_ifp x b, if_pos b]
      · rw [so_ife x b, if_neg b]
        by_cases d : x = 32
        · rw [if_pos d, if_pos d]
        · rw [if_neg d, if_neg d]
theorem r_byteAt {u : xS} {T : Nat → Int32} {n i : Nat} (h : TsR u T n) (hn : n ≤ 200) (hi : i ≤ 200) : F_X12_byteAt u (nI i) = some (LB T n i) := by
  unfold F_X12_byteAt F_X12_byteAt_j18 LB
  rw [h.1, h.2]
  by_cases c : n ≤ i
  · rw [if_pos (nI_le c (by omega)), if_pos c]
  · rw [if_neg (nI_ge (show i < n by omega) (by omega)), if_neg c, if_pos (n_xIn (show i < 200 by omega) (by omega)), n_cl (by omega)]
theorem r_isLetter (T : Nat → Int32) (n i : Nat) : F_X12_isLetter (LB T n i) = some (bI (so T n i = 1)) := by
  unfold F_X12_isLetter
  rw [n_in_97_122, Option.bind_some]
  unfold LB so
  by_cases c : n ≤ i
  · simp only [if_pos c]; rfl
  · simp only [if_neg c]
    by_cases a : 97 ≤ T i ∧ T i ≤ 122
    · rw [bI_t a, if_pos a]; rfl
    · rw [bI_f a, if_neg a, bI_f]
      by_cases b : 48 ≤ T i ∧ T i ≤ 57
      · rw [if_pos b]; decide
      · rw [if_neg b]
        by_cases d : T i = 32
        · rw [if_pos d]; decide
        · rw [if_neg d]; decide
theorem r_isDigit (T : Nat → Int32) (n i : Nat) : F_X12_isDigit (LB T n i) = some (bI (so T n i = 2)) := by
  unfold F_X12_isDigit
  rw [n_in_48_57, Option.bind_some]
  unfold LB so
  by_cases c : n ≤ i
  · simp only [if_pos c]; rfl
  · simp only [if_neg c]
    by_cases a : 97 ≤ T i ∧ T i ≤ 122
    · rw [if_pos a, bI_f (fun h => by rw [fa_le, fa_le] at a h; have e1 : (97 : Int32).toInt = 97 := rfl; have e2 : (57 : Int32).toInt = 57 := rfl; omega)]; rfl
    · rw [if_neg a]
      by_cases b : 48 ≤ T i ∧ T i ≤ 57
      · rw [if_pos b, bI_t b]; rfl
      · rw [if_neg b, bI_f b, bI_f]
        by_cases d : T i = 32
        · rw [if_pos d]; decide
        · rw [if_neg d]; decide
theorem so_bl (T : Nat → Int32) (n i : Nat) : LB T n i = 32 ↔ so T n i = 4 := by
  unfold LB so
  by_cases c : n ≤ i
  · simp only [if_pos c]; decide
  · simp only [if_neg c]
    by_cases a : 97 ≤ T i ∧ T i ≤ 122
    · rw [if_pos a]
      refine ⟨fun h => ?_, fun h => absurd h (by decide)⟩
      rw [h] at a; exact absurd a (by decide)
    · rw [if_neg a]
      by_cases b : 48 ≤ T i ∧ T i ≤ 57
      · rw [if_pos b]
        refine ⟨fun h => ?_, fun h => absurd h (by decide)⟩
        rw [h] at b; exact absurd b (by decide)
      · rw [if_neg b]
        by_cases d : T i = 32
        · rw [if_pos d]; exact ⟨fun _ => rfl, fun _ => d⟩
        · rw [if_neg d]; exact ⟨fun h => absurd h d, fun h => absurd h (by decide)⟩
theorem so_0 (T : Nat → Int32) (n i : Nat) : so T n i = 0 ↔ n ≤ i := by
  unfold so
  by_cases c : n ≤ i
  · rw [if_pos c]; exact ⟨fun _ => c, fun _ => rfl⟩
  · rw [if_neg c]
    refine ⟨fun h => absurd h ?_, fun h => absurd h c⟩
    by_cases a : 97 ≤ T i ∧ T i ≤ 122
    · rw [if_pos a]; decide
    · rw [if_neg a]
      by_cases b : 48 ≤ T i ∧ T i ≤ 57
      · rw [if_pos b]; decide
      · rw [if_neg b]
        by_cases d : T i = 32
        · rw [if_pos d]; decide
        · rw [if_neg d]; decide
/-! blanks -/
theorem tk_l8 {N q n : Nat} {T : Nat → Int32} : ∀ m i k k' t u, i + m = n → m < k → m < k' → TsC t N q T n → TsR u T n → tI t N 5 = nI i → u.1 19 = nI i → ∃ st t' u', i ≤ st ∧ st ≤ n ∧ so T n st ≠ 4 ∧ F_X3_next_l8 k t N = F_X3_next_j44 t' N ∧ tI t' N 5 = nI st ∧ Rk N t t' ∧ u'.1 19 = nI st ∧ Uk u u' ∧ F_X12_token_l8 k' u = F_X12_token_j83 u' (bI (so T n st = 1)) (bI (so T n st = 2)) (if so T n st = 0 then nI st else nI (st + 1))
  | _, _, 0, _, _, _, _, h, _, _, _, _, _ => absurd h (Nat.not_lt_zero _)
  | _, _, _, 0, _, _, _, _, h, _, _, _, _ => absurd h (Nat.not_lt_zero _)
  | m, i, k + 1, k' + 1, t, u, hi, hk, hk', hC, hR, h5, h19 => by
    have hn : n ≤ 200 := hC.2.2.2.2.2.2.1
    have so' := c_sortAt hC (show i ≤ 200 by omega)
    have by' := r_byteAt hR hn (show i ≤ 200 by omega)
    by_cases c : so T n i = 4
    · have lt : i < n := by
        by_cases d : n ≤ i
        · rw [(so_0 T n i).2 d] at c; exact absurd c (by decide)
        · omega
      have hC' := hC.rk (Rk.SI N t (j := 5) (nI (i + 1)) (by omega))
      have hR' := hR.uk (Uk.S u (j := 19) (nI (i + 1)) (by omega))
      obtain ⟨st, t', u', g1, g2, g3, g4, g5, g6, g7, g8, g9⟩ := tk_l8 (m - 1) (i + 1) k k' (tSI t N 5 (nI (i + 1))) (mS u 19 (nI (i + 1))) (by omega) (by omega) (by omega) hC' hR' (by rw [tI_SI, upd_s]) (mS_1 _ _ _)
      refine ⟨st, t', u', by omega, g2, g3, ?_, g5, (Rk.SI N t _ (by omega)).tr g6, g7, (Uk.S u _ (by omega)).tr g8, ?_⟩
      · rw [← g4]
        conv => lhs; unfold F_X3_next_l8
        rw [if_pos hC.1, hC.2.2.2.2.2.1, h5, if_neg (nI_ge lt (by omega)), so', Option.bind_some, if_pos c]
        simp only [xlet]
        rw [nI_1]
      · rw [← g9]
        conv => lhs; unfold F_X12_token_l8
        rw [h19, by', Option.bind_some, if_pos ((so_bl T n i).2 c)]
        simp only [xlet]
        rw [nI_1]
    · refine ⟨i, t, u, Nat.le_refl _, by omega, c, ?_, h5, Rk.rf _ _, h19, Uk.rf _, ?_⟩
      · unfold F_X3_next_l8
        rw [if_pos hC.1, hC.2.2.2.2.2.1, h5]
        by_cases d : n ≤ i
        · rw [if_pos (nI_le d (by omega))]
        · rw [if_neg (nI_ge (show i < n by omega) (by omega)), so', Option.bind_some, if_neg c]
      · unfold F_X12_token_l8
        rw [h19, by', Option.bind_some, if_neg (fun h => c ((so_bl T n i).1 h)), Option.bind_some, r_isLetter, Option.bind_some, Option.bind_some, r_isDigit, Option.bind_some, hR.1, nI_1]
        by_cases d : n ≤ i
        · rw [if_pos (nI_le d (by omega)), if_pos ((so_0 T n i).2 d)]
        · rw [if_neg (nI_ge (show i < n by omega) (by omega)), if_neg (fun h => d ((so_0 T n i).1 h))]
/-! the end of a token -/
theorem tk_l80 {N q n : Nat} {T : Nat → Int32} {c : Int32} : ∀ m i k k' t u, i + m = n → m < k → m < k' → TsC t N q T n → TsR u T n → tI t N 2 = c → tI t N 6 = nI i → u.1 20 = nI i → ∃ en t' u', i ≤ en ∧ en ≤ n ∧ (∀ j, i ≤ j → j < en → so T n j = c) ∧ F_X3_next_l80 k t N = some t' ∧ tI t' N 6 = nI en ∧ tI t' N 2 = c ∧ tI t' N 5 = tI t N 5 ∧ Rk N t t' ∧ u'.1 20 = nI en ∧ u'.1 19 = u.1 19 ∧ Uk u u' ∧ F_X12_token_l86 k' u (bI (c = 1)) (bI (c = 2)) = some u'
  | _, _, 0, _, _, _, _, h, _, _, _, _, _, _ => absurd h (Nat.not_lt_zero _)
  | _, _, _, 0, _, _, _, _, h, _, _, _, _, _ => absurd h (Nat.not_lt_zero _)
  | m, i, k + 1, k' + 1, t, u, hi, hk, hk', hC, hR, h2, h6, h20 => by
    have hn : n ≤ 200 := hC.2.2.2.2.2.2.1
    have so' := c_sortAt hC (show i ≤ 200 by omega)
    have by' := r_byteAt hR hn (show i ≤ 200 by omega)
    have n12 : ¬ (2 : Int32) = 1 := by decide
    have n21 : ¬ (1 : Int32) = 2 := by decide
    have go : (c = 1 ∨ c = 2) → so T n i = c → ∃ en t' u', i ≤ en ∧ en ≤ n ∧ (∀ j, i ≤ j → j < en → so T n j = c) ∧ F_X3_next_l80 (k + 1) t N = some t' ∧ tI t' N 6 = nI en ∧ tI t' N 2 = c ∧ tI t' N 5 = tI t N 5 ∧ Rk N t t' ∧ u'.1 20 = nI en ∧ u'.1 19 = u.1 19 ∧ Uk u u' ∧ F_X12_token_l86 (k' + 1) u (bI (c = 1)) (bI (c = 2)) = some u' := by
      intro hc e
      have lt : i < n := by
        by_cases d : n ≤ i
        · rw [(so_0 T n i).2 d] at e; rw [← e] at hc; exact absurd hc (by decide)
        · omega
      have hC' := hC.rk (Rk.SI N t (j := 6) (nI (i + 1)) (by omega))
      have hR' := hR.uk (Uk.S u (j := 20) (nI (i + 1)) (by omega))
      obtain ⟨en, t', u', g1, g2, g3, g4, g5, g6, g7, g8, g9, g10, g11, g12⟩ := tk_l80 (c := c) (m - 1) (i + 1) k k' (tSI t N 6 (nI (i + 1))) (mS u 20 (nI (i + 1))) (by omega) (by omega) (by omega) hC' hR' (by rw [tI_SI, upd_n _ _ (by decide)]; exact h2) (by rw [tI_SI, upd_s]) (mS_1 _ _ _)
      refine ⟨en, t', u', by omega, g2, fun j j1 j2 => ?_, ?_, g5, g6, ?_, (Rk.SI N t _ (by omega)).tr g8, g9, ?_, (Uk.S u _ (by omega)).tr g11, ?_⟩
      · by_cases d : j = i
        · rw [d]; exact e
        · exact g3 j (by omega) j2
      · rw [← g4]
        have body : F_X3_next_j107 (F_X3_next_l80 k) t N = F_X3_next_l80 k (tSI t N 6 (nI (i + 1))) N := by
          unfold F_X3_next_j107
          rw [if_pos hC.1, h6, so', Option.bind_some, h2, if_pos e]
          simp only [xlet]
          rw [nI_1]
        conv => lhs; unfold F_X3_next_l80
        rw [if_pos hC.1, hC.2.2.2.2.2.1, h6, if_neg (nI_ge lt (by omega)), h2, body]
        rcases hc with hc | hc
        · rw [if_pos hc]
        · rw [if_neg (by rw [hc]; exact n12), if_pos hc]
      · rw [g7, tI_SI, upd_n _ _ (by decide)]
      · rw [g10, mS_n _ _ (by decide)]
      · rw [← g12]
        have body : F_X12_token_j122 (F_X12_token_l86 k') u (bI (c = 1)) (bI (c = 2)) = F_X12_token_l86 k' (mS u 20 (nI (i + 1))) (bI (c = 1)) (bI (c = 2)) := by
          unfold F_X12_token_j122
          simp only [xlet]
          rw [h20, nI_1]
        conv => lhs; unfold F_X12_token_l86
        rw [h20, by', Option.bind_some, r_isLetter, Option.bind_some]
        unfold F_X12_token_j104
        rw [h20, by', Option.bind_some, r_isDigit, Option.bind_some, body, e]
        rcases hc with hc | hc
        · rw [hc]; rfl
        · rw [hc]; rfl
    have stop : ¬ ((c = 1 ∨ c = 2) ∧ so T n i = c) → ∃ en t' u', i ≤ en ∧ en ≤ n ∧ (∀ j, i ≤ j → j < en → so T n j = c) ∧ F_X3_next_l80 (k + 1) t N = some t' ∧ tI t' N 6 = nI en ∧ tI t' N 2 = c ∧ tI t' N 5 = tI t N 5 ∧ Rk N t t' ∧ u'.1 20 = nI en ∧ u'.1 19 = u.1 19 ∧ Uk u u' ∧ F_X12_token_l86 (k' + 1) u (bI (c = 1)) (bI (c = 2)) = some u' := by
      intro hs
      refine ⟨i, t, u, Nat.le_refl _, by omega, fun j j1 j2 => absurd j1 (by omega), ?_, h6, h2, rfl, Rk.rf _ _, h20, rfl, Uk.rf _, ?_⟩
      · unfold F_X3_next_l80 F_X3_next_j135
        rw [if_pos hC.1, hC.2.2.2.2.2.1, h6, h2]
        have body : (c = 1 ∨ c = 2) → F_X3_next_j107 (F_X3_next_l80 k) t N = some t := fun hc => by
          unfold F_X3_next_j107 F_X3_next_j135
          rw [if_pos hC.1, h6, so', Option.bind_some, h2, if_neg (fun h => hs ⟨hc, h⟩)]
        by_cases d : n ≤ i
        · rw [if_pos (nI_le d (by omega))]
        · rw [if_neg (nI_ge (show i < n by omega) (by omega))]
          by_cases d1 : c = 1
          · rw [if_pos d1, body (Or.inl d1)]
          · rw [if_neg d1]
            by_cases d2 : c = 2
            · rw [if_pos d2, body (Or.inr d2)]
            · rw [if_neg d2]
      · unfold F_X12_token_l86 F_X12_token_j104 F_X12_token_j135
        rw [h20, by']
        simp only [Option.bind_some, r_isLetter, r_isDigit]
        by_cases d1 : c = 1
        · have : ¬ so T n i = 1 := fun h => hs ⟨Or.inl d1, h.trans d1.symm⟩
          rw [bI_t d1, if_neg (show ¬ (1 : Int32) = 0 by decide), bI_f this, if_pos rfl, bI_f (show ¬ c = 2 by rw [d1]; exact n21), if_pos rfl]
        · rw [bI_f d1, if_pos rfl]
          by_cases d2 : c = 2
          · have : ¬ so T n i = 2 := fun h => hs ⟨Or.inr d2, h.trans d2.symm⟩
            rw [bI_t d2, if_neg (show ¬ (1 : Int32) = 0 by decide), bI_f this, if_pos rfl]
          · rw [bI_f d2, if_pos rfl]
    by_cases a : (c = 1 ∨ c = 2) ∧ so T n i = c
    · exact go a.1 a.2
    · exact stop a
/-- the token that stands here -/
def TkO (T : Nat → Int32) (n st en : Nat) : Prop := st ≤ en ∧ en ≤ n ∧ so T n st ≠ 4 ∧ (so T n st ≠ 0 → st < en) ∧ ∀ j, st ≤ j → j < en → so T n j = so T n st
def Tk (t : xT) (u : xS) (N q : Nat) (T : Nat → Int32) (n st en : Nat) : Prop := TsC t N q T n ∧ TsR u T n ∧ TkO T n st en ∧ tI t N 5 = nI st ∧ tI t N 6 = nI en ∧ tI t N 2 = so T n st ∧ u.1 19 = nI st ∧ u.1 20 = nI en
theorem tk {t : xT} {u : xS} {N q n en : Nat} {T : Nat → Int32} (hC : TsC t N q T n) (hR : TsR u T n) (h6 : tI t N 6 = nI en) (h20 : u.1 20 = nI en) (hen : en ≤ n) : ∃ t' u' st' en', F_X3_next t N = some t' ∧ F_X12_token u = some u' ∧ en ≤ st' ∧ Tk t' u' N q T n st' en' ∧ Rk N t t' ∧ Uk u u' := by
  have hn : n ≤ 200 := hC.2.2.2.2.2.2.1
  have hC' := hC.rk (Rk.SI N t (j := 5) (nI en) (by omega))
  have hR' := hR.uk (Uk.S u (j := 19) (nI en) (by omega))
  obtain ⟨st, t1, u1, g1, g2, g3, g4, g5, g6, g7, g8, g9⟩ := tk_l8 (n - en) en xFuel xFuel (tSI t N 5 (nI en)) (mS u 19 (nI en)) (by omega) (xF_big (by omega)) (xF_big (by omega)) hC' hR' (by rw [tI_SI, upd_s]) (mS_1 _ _ _)
  have hC1 := hC'.rk g6
  have hR1 := hR'.uk g8
  have hC2 := hC1.rk (Rk.SI N t1 (j := 2) (so T n st) (by omega))
  have so' := c_sortAt hC1 (show st ≤ 200 by omega)
  have ex : ∃ e0, st ≤ e0 ∧ e0 ≤ n ∧ (so T n st ≠ 0 → e0 = st + 1) ∧ (so T n st = 0 → e0 = st) ∧ (if so T n st = 0 then nI st else nI (st + 1)) = nI e0 := by
    by_cases c : so T n st = 0
    · exact ⟨st, Nat.le_refl _, g2, fun h => absurd c h, fun _ => rfl, if_pos c⟩
    · have : ¬ n ≤ st := fun h => c ((so_0 T n st).2 h)
      exact ⟨st + 1, by omega, by omega, fun _ => rfl, fun h => absurd h c, if_neg c⟩
  obtain ⟨e0, x1, x2, x3, x4, x5⟩ := ex
  have hC3 := hC2.rk (Rk.SI N (tSI t1 N 2 (so T n st)) (j := 6) (nI e0) (by omega))
  have hR3 := hR1.uk (Uk.S u1 (j := 20) (nI e0) (by omega))
  obtain ⟨en', t', u', w1, w2, w3, w4, w5, w6, w7, w8, w9, w10, w11, w12⟩ := tk_l80 (c := so T n st) (n - e0) e0 xFuel xFuel (tSI (tSI t1 N 2 (so T n st)) N 6 (nI e0)) (mS u1 20 (nI e0)) (by omega) (xF_big (by omega)) (xF_big (by omega)) hC3 hR3 (by rw [tI_SI, upd_n _ _ (by decide), tI_SI, upd_s]) (by rw [tI_SI, upd_s]) (mS_1 _ _ _)
  refine ⟨t', u', st, en', ?_, ?_, g1, ⟨hC3.rk w8, hR3.uk w11, ⟨by omega, w2, g3, fun h => ?_, fun j j1 j2 => ?_⟩, ?_, w5, w6, ?_, w9⟩, (Rk.SI N t _ (by omega)).tr (g6.tr ((Rk.SI N t1 _ (by omega)).tr ((Rk.SI N _ _ (by omega)).tr w8))), (Uk.S u _ (by omega)).tr (g8.tr ((Uk.S u1 _ (by omega)).tr w11))⟩
  · unfold F_X3_next
    rw [if_pos hC.1]
    simp only [xlet]
    rw [h6, g4]
    unfold F_X3_next_j44
    rw [if_pos hC1.1, g5, so', Option.bind_some]
    simp only [xlet]
    have e2 : tI (tSI t1 N 2 (so T n st)) N 2 = so T n st := by rw [tI_SI, upd_s]
    have e5 : tI (tSI t1 N 2 (so T n st)) N 5 = nI st := by rw [tI_SI, upd_n _ _ (by decide), g5]
    rw [e2, e5, nI_1, ← w4]
    have j77 : ∀ s1, s1 = nI e0 → F_X3_next_j77 (tSI t1 N 2 (so T n st)) N N s1 = F_X3_next_l80 xFuel (tSI (tSI t1 N 2 (so T n st)) N 6 (nI e0)) N := fun s1 h => by
      unfold F_X3_next_j77
      rw [if_pos hC2.1, h]
      rfl
    by_cases c : so T n st = 0
    · rw [if_pos c]; rw [if_pos c] at x5; exact j77 _ x5
    · rw [if_neg c]; rw [if_neg c] at x5; exact j77 _ x5
  · unfold F_X12_token
    simp only [xlet]
    rw [h20, g9, x5]
    unfold F_X12_token_j83
    simp only [xlet]
    exact w12
  · have := x3 h; omega
  · by_cases d : j < e0
    · have : j = st := by
        by_cases c : so T n st = 0
        · have := x4 c; omega
        · have := x3 c; omega
      rw [this]
    · exact w3 j (by omega) j2
  · rw [w7, tI_SI, upd_n _ _ (by decide), tI_SI, upd_n _ _ (by decide), g5]
  · rw [w10, mS_n _ _ (by decide), g7]
