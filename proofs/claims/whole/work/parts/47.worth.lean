/-! ===== pure mathematics 26: worth, stops ===== -/
def hp : Nat → Int64
  | 0 => 1
  | n + 1 => hp n * 100
def mxL (x y : Int64) : Int64 := if y < x then x else y
def Wv (f g : Int32 → Int32) (h : Int32) : Nat → Int32 → Int64
  | 0, p => mxL (p.toInt64 * hp 0) (-1)
  | n + 1, p => mxL (p.toInt64 * hp (n + 1)) (if 0 ≤ f p then h.toInt64 * Wv f g h n (g p) + ((100 : Int32) - h).toInt64 * Wv f g h n (f p) else -1)
def Wc (f g : Int32 → Int32) (h : Int32) : Nat → Int32 → Int64
  | 0, _ => -1
  | n + 1, p => if 0 ≤ f p then h.toInt64 * Wv f g h n (g p) + ((100 : Int32) - h).toInt64 * Wv f g h n (f p) else -1
theorem Wc_s (f g : Int32 → Int32) (h : Int32) (n : Nat) (p : Int32) : Wc f g h (n + 1) p = if 0 ≤ f p then h.toInt64 * Wv f g h n (g p) + ((100 : Int32) - h).toInt64 * Wv f g h n (f p) else -1 := rfl
theorem Wv_c (f g : Int32 → Int32) (h : Int32) (n : Nat) (p : Int32) : Wv f g h n p = mxL (p.toInt64 * hp n) (Wc f g h n p) := by
  cases n with
  | zero => rfl
  | succ n => rfl
theorem c_hund {N : Nat} (hN : N < 100) : ∀ m i n, i + m = N → m < n → F_X11_hundredTo_l4 n (nI N) (hp i) (nI i) = some (hp N)
  | _, _, 0, _, h => absurd h (Nat.not_lt_zero _)
  | 0, i, n + 1, hi, _ => by
    have hi : i = N := by omega
    subst hi
    unfold F_X11_hundredTo_l4
    rw [if_pos (nI_le (Nat.le_refl i) (by omega))]
  | m + 1, i, n + 1, hi, hm => by
    unfold F_X11_hundredTo_l4
    simp only [xlet, nI_1]
    rw [if_neg (nI_ge (show i < N by omega) (by omega))]
    exact c_hund hN m (i + 1) n (by omega) (by omega)
theorem c_hundred {N : Nat} (hN : N < 100) : F_X11_hundredTo (nI N) = some (hp N) := c_hund hN N 0 xFuel (by omega) (xF_big (by omega))
theorem c_Wc {t : xT} {q : Nat} {f g : Int32 → Int32} {h : Int32} {kr : xT → Nat → Int32 → Int32 → Int32 → Option Int64} (hb : isBk (tK t q)) (hf : ∀ x, F_X0_becomes t q x = some (f x)) (hg : ∀ x, F_X0_becomesBy t q (tI t q 5 + 1) x = some (g x)) {N : Nat} (hN : N < 100) (hk : ∀ n, n + 1 = N → ∀ x, kr t q x h (nI n) = some (Wv f g h n x)) (p : Int32) : F_X11_worthOfCrossing kr t q p h (nI N) = some (Wc f g h N p) := by
  unfold F_X11_worthOfCrossing F_X11_worthOfCrossing_j17
  rw [if_pos hb, hf, Option.bind_some]
  cases N with
  | zero => rw [if_pos (show nI 0 < (1 : Int32) by decide)]; rfl
  | succ n =>
    rw [if_neg (show ¬ nI (n + 1) < (1 : Int32) from nI_nlt (a := n + 1) (b := 1) (by omega) (by omega)), nI_pred, Wc_s]
    by_cases c : 0 ≤ f p
    · rw [if_pos c, if_pos c, hg, Option.bind_some, hk n rfl, Option.bind_some, hk n rfl, Option.bind_some]
    · rw [if_neg c, if_neg c]
theorem c_Wv {t : xT} {q : Nat} {f g : Int32 → Int32} {h : Int32} (hb : isBk (tK t q)) (hf : ∀ x, F_X0_becomes t q x = some (f x)) (hg : ∀ x, F_X0_becomesBy t q (tI t q 5 + 1) x = some (g x)) : ∀ fu N, N < fu → N < 100 → ∀ p, F_X11_worthOf fu t q p h (nI N) = some (Wv f g h N p)
  | 0, _, h, _, _ => absurd h (Nat.not_lt_zero _)
  | fu + 1, N, hN, h100, p => by
    have hc := c_Wc (h := h) (kr := F_X11_worthOf fu) hb hf hg (N := N) h100 (fun n hn x => c_Wv (h := h) hb hf hg fu n (by omega) (by omega) x) p
    unfold F_X11_worthOf F_X11_worthOfB
    rw [c_hundred h100, Option.bind_some, hc, Option.bind_some, Wv_c]
    simp only [xlet]
    rfl
/-! the reference's tree -/
theorem sh1 {n : Nat} (h : n ≤ 4) : (1 : Int32) <<< (nI n &&& 31) = nI (2 ^ n) ∧ (2 : Int32) <<< (nI n &&& 31) = nI (2 ^ (n + 1)) := by
  rcases (show n = 0 ∨ n = 1 ∨ n = 2 ∨ n = 3 ∨ n = 4 by omega) with h | h | h | h | h <;> subst h <;> decide
theorem pw {n : Nat} (h : n ≤ 4) : 2 ^ n ≤ 16 := by
  rcases (show n = 0 ∨ n = 1 ∨ n = 2 ∨ n = 3 ∨ n = 4 by omega) with h | h | h | h | h <;> subst h <;> decide
theorem pw2 (n : Nat) : 2 ^ (n + 1) = 2 * 2 ^ n := by rw [Nat.pow_succ, Nat.mul_comm]
def Tr2 (f g : Int32 → Int32) (A : Nat → Int32) (k : Nat) : Prop := A (2 * k) = (if 0 ≤ f (A k) then g (A k) else -1) ∧ A (2 * k + 1) = f (A k)
theorem lp_tree {s : Nat → Int32} {kd tm tl op h purse : Int32} {N : Nat} (hkd : 1 ≤ kd.toInt ∧ kd.toInt ≤ 5) (h1 : 1 ≤ tm.toInt) (h2 : tm.toInt ≤ 50) (h5 : 0 ≤ tl.toInt) (h6 : tl.toInt ≤ 3000) (hN : N ≤ 4) : ∀ m k n u, k + m = 2 ^ N → 1 ≤ k → m < n → u.2.1 0 = s → u.1 5 = tm → u.1 6 = tl → u.1 7 = op → u.2.1 12 1 = purse → (∀ j, 1 ≤ j → j < k → Tr2 (gB kd tm tl op) (gB kd (tm + 1) tl op) (u.2.1 12) j) → ∃ u', F_X12_findWorth_l23 n u h (nI N) kd (nI k) = F_X12_findWorth_l146 xFuel u' h (nI N) 1 1 (nI N) ∧ Cr u' = Cr u ∧ u'.2.1 0 = s ∧ u'.2.1 12 1 = purse ∧ ∀ j, 1 ≤ j → j < 2 ^ N → Tr2 (gB kd tm tl op) (gB kd (tm + 1) tl op) (u'.2.1 12) j
  | _, _, 0, _, _, _, h, _, _, _, _, _, _ => absurd h (Nat.not_lt_zero _)
  | 0, k, n + 1, u, hk, _, _, hu, _, _, _, hA, hT => by
    have hp16 := pw hN
    have hk : k = 2 ^ N := by omega
    subst hk
    refine ⟨u, ?_, rfl, hu, hA, hT⟩
    conv => lhs; unfold F_X12_findWorth_l23
    rw [(sh1 hN).1, if_pos (nI_le (Nat.le_refl _) (by omega))]
  | m + 1, k, n + 1, u, hk, hk1, hm, hu, e5, e6, e7, hA, hT => by
    have hp16 := pw hN
    have ik : xIn (nI k) 32 := n_xIn (by omega) (by decide)
    have ek : (nI k).toNatClampNeg = k := n_cl (by omega)
    have w2 : (2 : Int32) * nI k = nI (2 * k) := by show nI 2 * nI k = _; rw [pk_mul]
    have i2 : xIn (nI (2 * k)) 32 := n_xIn (by omega) (by decide)
    have i3 : xIn (nI (2 * k + 1)) 32 := n_xIn (by omega) (by decide)
    have d2 : (nI (2 * k)).toNatClampNeg = 2 * k := n_cl (by omega)
    have d3 : (nI (2 * k + 1)).toNatClampNeg = 2 * k + 1 := n_cl (by omega)
    have hpk := fb_rng (u.2.1 12 k)
    -- the plain crossing
    have fin : ∀ x y, x = gB kd tm tl op (u.2.1 12 k) → y = (if 0 ≤ x then gB kd (tm + 1) tl op (u.2.1 12 k) else -1) → ∃ u', F_X12_findWorth_j116 (F_X12_findWorth_l23 n) u h (nI N) kd (nI k) x (nI (2 * k)) y = F_X12_findWorth_l146 xFuel u' h (nI N) 1 1 (nI N) ∧ Cr u' = Cr u ∧ u'.2.1 0 = s ∧ u'.2.1 12 1 = purse ∧ ∀ j, 1 ≤ j → j < 2 ^ N → Tr2 (gB kd tm tl op) (gB kd (tm + 1) tl op) (u'.2.1 12) j := by
      intro x y hx hy
      have eA : (mA (mA u 12 (2 * k) y) 12 (2 * k + 1) x).2.1 12 = upd (upd (u.2.1 12) (2 * k) y) (2 * k + 1) x := rfl
      obtain ⟨u', g1, g2, g3, g4, g5⟩ := lp_tree (h := h) (purse := purse) hkd h1 h2 h5 h6 hN m (k + 1) n (mA (mA u 12 (2 * k) y) 12 (2 * k + 1) x) (by omega) (by omega) (by omega) hu e5 e6 e7 (by rw [eA, upd_n _ _ (by omega), upd_n _ _ (by omega)]; exact hA) (fun j j1 j2 => by
        rw [eA]
        unfold Tr2
        rw [upd_n _ _ (show j ≠ 2 * k + 1 by omega), upd_n _ _ (show j ≠ 2 * k by omega)]
        by_cases c : j = k
        · subst c
          rw [upd_n _ _ (show 2 * j ≠ 2 * j + 1 by omega), upd_s, upd_s, hy, hx]; exact ⟨rfl, rfl⟩
        · rw [upd_n _ _ (show 2 * j ≠ 2 * k + 1 by omega), upd_n _ _ (show 2 * j ≠ 2 * k by omega), upd_n _ _ (show 2 * j + 1 ≠ 2 * k + 1 by omega), upd_n _ _ (show 2 * j + 1 ≠ 2 * k by omega)]
          exact hT j j1 (by omega))
      refine ⟨u', ?_, g2, g3, g4, g5⟩
      unfold F_X12_findWorth_j116
      simp only [xlet]
      rw [if_pos i2, d2, w2, nI_1, if_pos i3, d3, nI_1]
      exact g1
    have neg : gB kd tm tl op (u.2.1 12 k) = -1 → ∃ u', F_X12_findWorth_j49 (F_X12_findWorth_l23 n) u h (nI N) kd (nI k) = F_X12_findWorth_l146 xFuel u' h (nI N) 1 1 (nI N) ∧ Cr u' = Cr u ∧ u'.2.1 0 = s ∧ u'.2.1 12 1 = purse ∧ ∀ j, 1 ≤ j → j < 2 ^ N → Tr2 (gB kd tm tl op) (gB kd (tm + 1) tl op) (u'.2.1 12) j := by
      intro e
      unfold F_X12_findWorth_j49 F_X12_findWorth_j74
      rw [if_neg (show ¬ (0 : Int32) ≤ -1 by decide), w2]
      exact fin (-1) (-1) e.symm (by rw [if_neg (show ¬ (0 : Int32) ≤ -1 by decide)])
    conv => enter [1, u', 1]; lhs; unfold F_X12_findWorth_l23
    rw [(sh1 hN).1, if_neg (nI_ge (show k < 2 ^ N by omega) (by omega)), if_pos ik]
    simp only [ek]
    by_cases c : u.2.1 12 k < 0
    · rw [if_pos c]
      refine neg ?_
      unfold gB gI zb
      rw [if_pos (Or.inr (by rw [lt0] at c; exact c))]; rfl
    · rw [if_neg c, e7]
      by_cases d : op = 0
      · rw [if_pos d]
        refine neg ?_
        unfold gB gI zb
        rw [if_pos (Or.inl d)]; rfl
      · rw [if_neg d, if_pos ik, e5, e6]
        have tm1 : (tm + 1).toInt = tm.toInt + 1 := by rw [fb_addI] <;> (try (show _ ≤ tm.toInt + 1; omega)) <;> (try (show tm.toInt + 1 < _; omega)); rfl
        have m1 : F_X12_made kd (u.2.1 12 k).toInt64 tm tl = some (gB kd tm tl op (u.2.1 12 k)) := by
          rw [r_made (op := op) hkd d h1 (by omega) h5 h6 (by rw [Int32.toInt_toInt64]; exact hpk.1) (by rw [Int32.toInt_toInt64]; exact hpk.2), Int32.toInt_toInt64]; rfl
        have m2 : F_X12_made kd (u.2.1 12 k).toInt64 (tm + 1) tl = some (gB kd (tm + 1) tl op (u.2.1 12 k)) := by
          rw [r_made (op := op) hkd d (by omega) (by omega) h5 h6 (by rw [Int32.toInt_toInt64]; exact hpk.1) (by rw [Int32.toInt_toInt64]; exact hpk.2), Int32.toInt_toInt64]; rfl
        rw [m1, Option.bind_some]
        unfold F_X12_findWorth_j74
        by_cases e : 0 ≤ gB kd tm tl op (u.2.1 12 k)
        · rw [if_pos e, if_pos ik, ek, e5, e6, m2, Option.bind_some, w2]
          exact fin _ _ rfl (by rw [if_pos e])
        · rw [if_neg e, w2]
          exact fin _ _ rfl (by rw [if_neg e])
theorem zb_lucky {kd : Int32} {tm tl : Int} {op : Int32} {p : Int} (ht : 0 < tm) (hp : 0 ≤ p) (h : 0 ≤ zb kd tm tl op p) : 0 ≤ zb kd (tm + 1) tl op p := by
  unfold zb at h ⊢
  by_cases c : op = 0 ∨ p < 0
  · rw [if_pos c] at h; omega
  · rw [if_neg c] at h ⊢
    have zc0 : ∀ v : Int, 0 ≤ zc v ↔ 0 ≤ v := by
      intro v; unfold zc
      by_cases c1 : v < 0
      · rw [if_pos c1]; omega
      · rw [if_neg c1]
        by_cases c2 : 1000000000 < v
        · rw [if_pos c2]; omega
        · rw [if_neg c2]
    rw [zc0] at h ⊢
    unfold zr at h ⊢
    have e1 : (tm + 1) * p = tm * p + p := by rw [Int.add_mul, Int.one_mul]
    have e2 : (tm + 1) * (p - tl) = tm * (p - tl) + (p - tl) := by rw [Int.add_mul, Int.one_mul]
    by_cases k1 : kd = 2 ∨ kd = 3
    · rw [if_pos k1] at h ⊢
      rw [e2]
      have : 0 ≤ p - tl := by
        by_cases d : 0 ≤ p - tl
        · exact d
        · have := Int.mul_neg_of_pos_of_neg ht (show p - tl < 0 by omega)
          omega
      omega
    · rw [if_neg k1] at h ⊢
      rw [e1]
      by_cases k2 : kd = 4 ∨ kd = 5
      · rw [if_pos k2] at h ⊢; omega
      · rw [if_neg k2] at h ⊢; omega
theorem gB_lucky {kd tm tl op p : Int32} (h1 : 1 ≤ tm.toInt) (h2 : tm.toInt ≤ 50) (hp : 0 ≤ p) (h : 0 ≤ gB kd tm tl op p) : 0 ≤ gB kd (tm + 1) tl op p := by
  rw [n_le0] at *
  rw [gB_I] at *
  have tm1 : (tm + 1).toInt = tm.toInt + 1 := by rw [fb_addI] <;> (try (show _ ≤ tm.toInt + 1; omega)) <;> (try (show tm.toInt + 1 < _; omega)); rfl
  rw [tm1]
  exact zb_lucky (by omega) hp h
theorem vpL_s (f : Nat → Int64) (k : Nat) (x : Int64) : vp_updL f k x k = x := by unfold vp_updL; rw [if_pos rfl]
theorem vpL_n (f : Nat → Int64) {j k : Nat} (x : Int64) (h : j ≠ k) : vp_updL f k x j = f j := by unfold vp_updL; rw [if_neg h]
theorem mL_2 (u : xS) (k : Nat) (x : Int64) : (mL u k x).2.2 = vp_updL u.2.2 k x := rfl
theorem mxL_e {x y : Int64} : (if x < y then y else x) = mxL x y := by
  unfold mxL
  by_cases c : x < y
  · rw [if_pos c, if_neg (by rw [fa_lt64] at *; omega)]
  · rw [if_neg c]
    by_cases d : y < x
    · rw [if_pos d]
    · rw [if_neg d]; rw [fa_lt64] at *; rw [fa_eq64]; omega
theorem lg_neg (x y : Int64) : (lg_cmp x y < 0) = (x < y) := propext (lg_cmp_lt x y)
def SV (f g : Int32 → Int32) (h : Int32) (N : Nat) (p y : Int32) : Prop := (N = 0 → y = 1) ∧ (0 < N → 0 ≤ p → y = if p.toInt64 * hp N < Wc f g h N p then 0 else 1)
theorem lp_in {f g : Int32 → Int32} {A : Nat → Int32} {h : Int32} {N L : Nat} {k146 : xS → Int32 → Int32 → Int32 → Int64 → Int32 → Option (Int32 × xS)} (hN : N ≤ 4) (hL : L ≤ N) (hl : ∀ x, 0 ≤ x → 0 ≤ f x → 0 ≤ g x) (hT : ∀ j, 1 ≤ j → j < 2 ^ N → Tr2 f g A j) : ∀ m k n u y, k + m = 2 ^ (L + 1) → 2 ^ L ≤ k → m < n → u.2.1 12 = A → (y = 0 ∨ y = 1) → (N = 0 → y = 1) → (L < N → ∀ j, 2 ^ (L + 1) ≤ j → j < 2 ^ (L + 2) → 0 ≤ A j → u.2.2 j = Wv f g h (N - L - 1) (A j)) → (∀ j, 2 ^ L ≤ j → j < k → 0 ≤ A j → u.2.2 j = Wv f g h (N - L) (A j)) → (L = 0 → 2 ≤ k → SV f g h N (A 1) y) → ∃ u' y', F_X12_findWorth_l157 k146 n u h (nI N) y (hp (N - L)) (nI L) (nI k) = k146 u' h (nI N) y' (hp (N - L + 1)) (nI L + (-1)) ∧ Cr u' = Cr u ∧ u'.2.1 12 = A ∧ (y' = 0 ∨ y' = 1) ∧ (N = 0 → y' = 1) ∧ (∀ j, 2 ^ L ≤ j → j < 2 ^ (L + 1) → 0 ≤ A j → u'.2.2 j = Wv f g h (N - L) (A j)) ∧ (L = 0 → SV f g h N (A 1) y')
  | _, _, 0, _, _, _, _, h, _, _, _, _, _, _ => absurd h (Nat.not_lt_zero _)
  | 0, k, n + 1, u, y, hk, hk1, _, hA, hy, hy0, hch, hpr, hsv => by
    have p16 := pw (n := L) (by omega)
    have p2 := pw2 L
    have hk : k = 2 ^ (L + 1) := by omega
    subst hk
    refine ⟨u, y, ?_, rfl, hA, hy, hy0, fun j j1 j2 => hpr j j1 j2, fun h0 => hsv h0 (by rw [h0]; decide)⟩
    conv => lhs; unfold F_X12_findWorth_l157
    rw [(sh1 (n := L) (by omega)).2, if_pos (nI_le (Nat.le_refl _) (by omega))]
    rfl
  | m + 1, k, n + 1, u, y, hk, hk1, hm, hA, hy, hy0, hch, hpr, hsv => by
    have p16 := pw (n := L) (by omega)
    have pN := pw hN
    have p2 := pw2 L
    have p3 : 2 ^ (L + 2) = 2 * 2 ^ (L + 1) := pw2 (L + 1)
    have k1 : 1 ≤ k := Nat.le_trans (Nat.one_le_two_pow) hk1
    have ik : xIn (nI k) 32 := n_xIn (by omega) (by decide)
    have ek : (nI k).toNatClampNeg = k := n_cl (by omega)
    have eA : u.2.1 12 k = A k := by rw [hA]
    have g0 : ¬ nI (2 ^ (L + 1)) ≤ nI k := nI_ge (by omega) (by omega)
    -- on with the next
    have nxt : ∀ u1 y1, u1.2.1 12 = A → Cr u1 = Cr u → (y1 = 0 ∨ y1 = 1) → (N = 0 → y1 = 1) → (∀ j, j ≠ k → u1.2.2 j = u.2.2 j) → (0 ≤ A k → u1.2.2 k = Wv f g h (N - L) (A k)) → (L = 0 → SV f g h N (A 1) y1) → F_X12_findWorth_l157 k146 (n + 1) u h (nI N) y (hp (N - L)) (nI L) (nI k) = F_X12_findWorth_l157 k146 n u1 h (nI N) y1 (hp (N - L)) (nI L) (nI (k + 1)) → ∃ u' y', F_X12_findWorth_l157 k146 (n + 1) u h (nI N) y (hp (N - L)) (nI L) (nI k) = k146 u' h (nI N) y' (hp (N - L + 1)) (nI L + (-1)) ∧ Cr u' = Cr u ∧ u'.2.1 12 = A ∧ (y' = 0 ∨ y' = 1) ∧ (N = 0 → y' = 1) ∧ (∀ j, 2 ^ L ≤ j → j < 2 ^ (L + 1) → 0 ≤ A j → u'.2.2 j = Wv f g h (N - L) (A j)) ∧ (L = 0 → SV f g h N (A 1) y') := by
      intro u1 y1 hA1 hC1 hy1 hy10 hj hkv hsv1 he
      obtain ⟨u', y', r1, r2, r3, r4, r5, r6, r7⟩ := lp_in (k146 := k146) hN hL hl hT m (k + 1) n u1 y1 (by omega) (by omega) (by omega) hA1 hy1 hy10 (fun hLN j j1 j2 j3 => by rw [hj j (by omega)]; exact hch hLN j j1 j2 j3) (fun j j1 j2 j3 => by
        by_cases c : j = k
        · subst c; exact hkv j3
        · rw [hj j c]; exact hpr j j1 (by omega) j3) (fun h0 _ => hsv1 h0)
      exact ⟨u', y', by rw [he]; exact r1, r2.trans hC1, r3, r4, r5, r6, r7⟩
    by_cases cL : N ≤ L
    · have eL : L = N := by omega
      refine nxt (mL u k (hp (N - L) * (A k).toInt64)) y hA rfl hy hy0 (fun j hj => by rw [mL_2, vpL_n _ _ hj]) (fun h0 => ?_) (fun h0 => ⟨hy0, fun hp0 => by omega⟩) ?_
      · rw [mL_2, vpL_s, show N - L = 0 by omega, Wv_c]
        unfold Wc hp mxL
        rw [Int64.one_mul, Int64.mul_one]
        rw [if_pos]
        rw [fa_lt64, Int32.toInt_toInt64]; rw [n_le0] at h0; show (-1 : Int) < _; omega
      · conv => lhs; unfold F_X12_findWorth_l157
        rw [(sh1 (n := L) (by omega)).2, if_neg g0, if_pos ik, if_pos ik]
        simp only [xlet, ek, eA]
        rw [if_pos (show nI N ≤ nI L from nI_le cL (by omega))]
        unfold F_X12_findWorth_j285
        simp only [xlet, nI_1]
    · have cL' : L < N := by omega
      have pLN : 2 ^ (L + 1) ≤ 2 ^ N := Nat.pow_le_pow_right (by decide) (by omega)
      obtain ⟨t1, t2⟩ := hT k k1 (by omega)
      have w2 : (2 : Int32) * nI k = nI (2 * k) := by show nI 2 * nI k = _; rw [pk_mul]
      have i2 : xIn (nI (2 * k)) 32 := n_xIn (by omega) (by decide)
      have i3 : xIn (nI (2 * k + 1)) 32 := n_xIn (by omega) (by decide)
      have d2 : (nI (2 * k)).toNatClampNeg = 2 * k := n_cl (by omega)
      have d3 : (nI (2 * k + 1)).toNatClampNeg = 2 * k + 1 := n_cl (by omega)
      have eN : N - L = (N - L - 1) + 1 := by omega
      have A2 : u.2.1 12 (2 * k) = A (2 * k) := by rw [hA]
      -- j239 with what going is worth
      have j239 : ∀ G : Int64, (0 ≤ A k → G = Wc f g h (N - L) (A k)) → ∃ u1 y1, F_X12_findWorth_j239 k146 (F_X12_findWorth_l157 k146 n) (mL u k (hp (N - L) * (A k).toInt64)) h (nI N) (hp (N - L)) (nI L) (nI k) G = F_X12_findWorth_l157 k146 n u1 h (nI N) y1 (hp (N - L)) (nI L) (nI (k + 1)) ∧ u1.2.1 12 = A ∧ Cr u1 = Cr u ∧ (y1 = 0 ∨ y1 = 1) ∧ (∀ j, j ≠ k → u1.2.2 j = u.2.2 j) ∧ (0 ≤ A k → u1.2.2 k = Wv f g h (N - L) (A k)) ∧ (L = 0 → SV f g h N (A 1) y1) := by
        intro G hG
        have eW : (mL u k (hp (N - L) * (A k).toInt64)).2.2 k = (A k).toInt64 * hp (N - L) := by rw [mL_2, vpL_s, Int64.mul_comm]
        have sv : ∀ y1 : Int32, y1 = (if (A k).toInt64 * hp (N - L) < G then 0 else 1) → L = 0 → SV f g h N (A 1) y1 := by
          intro y1 hy1 h0
          subst h0
          have hk2 : k = 1 := by
            have e1 : (2 : Nat) ^ 0 = 1 := rfl
            have e2 : (2 : Nat) ^ (0 + 1) = 2 := rfl
            omega
          subst hk2
          refine ⟨fun h => by omega, fun _ h0 => ?_⟩
          rw [hy1, hG h0]; rfl
        unfold F_X12_findWorth_j239
        rw [if_pos ik]
        simp only [ek, lg_neg, eW]
        by_cases c : (A k).toInt64 * hp (N - L) < G
        · rw [if_pos c]
          refine ⟨mL (mL u k (hp (N - L) * (A k).toInt64)) k G, 0, ?_, hA, rfl, Or.inl rfl, fun j hj => by rw [mL_2, vpL_n _ _ hj, mL_2, vpL_n _ _ hj], fun h0 => ?_, sv 0 (by rw [if_pos c])⟩
          · unfold F_X12_findWorth_j259 F_X12_findWorth_j284 F_X12_findWorth_j285
            rw [if_pos rfl, if_pos ik]
            simp only [xlet, ek, nI_1]
          · rw [mL_2, vpL_s, Wv_c, ← mxL_e, ← hG h0, if_pos c]
        · rw [if_neg c]
          refine ⟨mL (mL u k (hp (N - L) * (A k).toInt64)) k ((A k).toInt64 * hp (N - L)), 1, ?_, hA, rfl, Or.inr rfl, fun j hj => by rw [mL_2, vpL_n _ _ hj, mL_2, vpL_n _ _ hj], fun h0 => ?_, sv 1 (by rw [if_neg c])⟩
          · unfold F_X12_findWorth_j259 F_X12_findWorth_j284 F_X12_findWorth_j285
            rw [if_neg (show ¬ (1 : Int32) = 0 by decide), if_pos ik, if_pos ik]
            simp only [xlet, ek, nI_1, eW]
          · rw [mL_2, vpL_s, Wv_c, ← mxL_e, ← hG h0, if_neg c]
      have head : F_X12_findWorth_l157 k146 (n + 1) u h (nI N) y (hp (N - L)) (nI L) (nI k) = if 0 ≤ A (2 * k) then F_X12_findWorth_j239 k146 (F_X12_findWorth_l157 k146 n) (mL u k (hp (N - L) * (A k).toInt64)) h (nI N) (hp (N - L)) (nI L) (nI k) (h.toInt64 * u.2.2 (2 * k) + ((100 : Int32) - h).toInt64 * u.2.2 (2 * k + 1)) else F_X12_findWorth_j239 k146 (F_X12_findWorth_l157 k146 n) (mL u k (hp (N - L) * (A k).toInt64)) h (nI N) (hp (N - L)) (nI L) (nI k) (-1) := by
        conv => lhs; unfold F_X12_findWorth_l157
        rw [(sh1 (n := L) (by omega)).2, if_neg g0, if_pos ik, if_pos ik]
        simp only [xlet, ek, eA]
        rw [if_neg (show ¬ nI N ≤ nI L from nI_ge cL' (by omega)), w2, if_pos i2, if_pos i2, nI_1, if_pos i3]
        have m12 : ∀ x, (mL u k x).2.1 12 = A := fun _ => hA
        simp only [d2, d3, m12, mL_2, vpL_n _ _ (show 2 * k ≠ k by omega), vpL_n _ _ (show 2 * k + 1 ≠ k by omega)]
      by_cases c : 0 ≤ A (2 * k)
      · rw [if_pos c] at head
        obtain ⟨u1, y1, r1, r2, r3, r4, r5, r6, r7⟩ := j239 (h.toInt64 * u.2.2 (2 * k) + ((100 : Int32) - h).toInt64 * u.2.2 (2 * k + 1)) (fun h0 => by
          have f0 : 0 ≤ f (A k) := by
            by_cases d : 0 ≤ f (A k)
            · exact d
            · rw [t1, if_neg d] at c; exact absurd c (by decide)
          rw [if_pos f0] at t1
          rw [eN, Wc_s, if_pos f0, hch cL' (2 * k) (by omega) (by omega) c, hch cL' (2 * k + 1) (by omega) (by omega) (by rw [t2]; exact f0), t1, t2])
        exact nxt u1 y1 r2 r3 r4 (fun h => by omega) r5 r6 r7 (head.trans r1)
      · rw [if_neg c] at head
        obtain ⟨u1, y1, r1, r2, r3, r4, r5, r6, r7⟩ := j239 (-1) (fun h0 => by
          have f0 : ¬ 0 ≤ f (A k) := fun d => c (by rw [t1, if_pos d]; exact hl _ h0 d)
          rw [eN, Wc_s, if_neg f0])
        exact nxt u1 y1 r2 r3 r4 (fun h => by omega) r5 r6 r7 (head.trans r1)
theorem lp_out {f g : Int32 → Int32} {A : Nat → Int32} {h : Int32} {N : Nat} (hN : N ≤ 4) (hl : ∀ x, 0 ≤ x → 0 ≤ f x → 0 ≤ g x) (hT : ∀ j, 1 ≤ j → j < 2 ^ N → Tr2 f g A j) : ∀ L n u y, L ≤ N → L + 1 < n → u.2.1 12 = A → (y = 0 ∨ y = 1) → (N = 0 → y = 1) → (L < N → ∀ j, 2 ^ (L + 1) ≤ j → j < 2 ^ (L + 2) → 0 ≤ A j → u.2.2 j = Wv f g h (N - L - 1) (A j)) → ∃ u' y', F_X12_findWorth_l146 n u h (nI N) y (hp (N - L)) (nI L) = some (y', u') ∧ Cr u' = Cr u ∧ (0 ≤ A 1 → u'.2.2 1 = Wv f g h N (A 1)) ∧ SV f g h N (A 1) y' := by
  intro L
  induction L with
  | zero =>
    intro n u y hL hn hA hy hy0 hch
    obtain ⟨n, rfl⟩ : ∃ n', n = n' + 1 + 1 := ⟨n - 2, by omega⟩
    obtain ⟨u', y', r1, r2, r3, r4, r5, r6, r7⟩ := lp_in (h := h) (L := 0) (k146 := F_X12_findWorth_l146 (n + 1)) hN hL hl hT 1 1 xFuel u y rfl (Nat.le_refl _) (xF_big (by omega)) hA hy hy0 hch (fun j j1 j2 => by have : (2 : Nat) ^ 0 = 1 := rfl; omega) (fun _ h => by omega)
    refine ⟨u', y', ?_, r2, fun h0 => r6 1 (Nat.le_refl _) (by decide) h0, r7 rfl⟩
    conv => lhs; unfold F_X12_findWorth_l146
    rw [if_neg (nI_pos (by omega)), (sh1 (n := 0) (by omega)).1]
    simp only [xlet]
    have r1 : F_X12_findWorth_l157 (F_X12_findWorth_l146 (n + 1)) xFuel u h (nI N) y (hp (N - 0)) (nI 0) (nI (2 ^ 0)) = _ := r1
    rw [r1]
    unfold F_X12_findWorth_l146
    rw [if_pos (show nI 0 + (-1 : Int32) < 0 by decide), if_pos r4]
  | succ L ih =>
    intro n u y hL hn hA hy hy0 hch
    obtain ⟨n, rfl⟩ : ∃ n', n = n' + 1 := ⟨n - 1, by omega⟩
    have p2 := pw2 (L + 1)
    have p1 : 1 ≤ 2 ^ (L + 1) := Nat.one_le_two_pow
    have pN := pw hN
    have pLN : 2 ^ (L + 1) ≤ 2 ^ N := Nat.pow_le_pow_right (by decide) (by omega)
    obtain ⟨u', y', r1, r2, r3, r4, r5, r6, r7⟩ := lp_in (h := h) (L := L + 1) (k146 := F_X12_findWorth_l146 n) hN hL hl hT (2 ^ (L + 1)) (2 ^ (L + 1)) xFuel u y (by omega) (Nat.le_refl _) (xF_big (by omega)) hA hy hy0 hch (fun j j1 j2 => by omega) (fun h => by omega)
    obtain ⟨u2, y2, q1, q2, q3, q4⟩ := ih n u' y' (by omega) (by omega) r3 r4 r5 (fun _ j j1 j2 j3 => by
      rw [r6 j j1 j2 j3, show N - L - 1 = N - (L + 1) by omega])
    refine ⟨u2, y2, ?_, q2.trans r2, q3, q4⟩
    conv => lhs; unfold F_X12_findWorth_l146
    rw [if_neg (nI_pos (by omega)), (sh1 (n := L + 1) (by omega)).1]
    simp only [xlet]
    rw [r1, show nI (L + 1) + (-1 : Int32) = nI L from (Int32.sub_eq_add_neg _ _).symm.trans (nI_pred L), show N - (L + 1) + 1 = N - L by omega]
    exact q1
theorem r_find {u : xS} {k N : Nat} {s : Nat → Int32} {ls : yLS} {purse h : Int32} (hu : u.2.1 0 = s) (hI : Iv s) (hL : LwS ls s) (hk : k < nB s) (hN : N ≤ 4) (hp : 0 ≤ purse) : ∃ u' y', F_X12_findWorth u (nI k) purse h (nI N) = some (y', u') ∧ Cr u' = Cr u ∧ u'.2.2 1 = Wv (gS ls s k) (gB (s (5 + 4 * k)) (tmS ls s k + 1) (tlS ls s k) (opS ls s k)) h N purse ∧ SV (gS ls s k) (gB (s (5 + 4 * k)) (tmS ls s k + 1) (tlS ls s k) (opS ls s k)) h N purse y' := by
  have h9 := hI.1.1
  obtain ⟨g, ha⟩ := r_asks (ls := ls) hu hI hL (show k < 9 by omega)
  have hm := tm_rng (ls := ls) hI hk
  have htl := tl_rng hI hL hk
  have hkd := (hI.2.2.2.2.2.1 k hk).1
  unfold Ri at hm htl hkd
  have it : F_X12_its (sc u g (tmS ls s k) (tlS ls s k) (opS ls s k)) (nI k) 0 = some (s (5 + 4 * k)) := by
    have := n_its (sc u g (tmS ls s k) (tlS ls s k) (opS ls s k)) (k := k) (w := 0) (by omega)
    change F_X12_its _ (nI k) 0 = some (u.2.1 0 (5 + 4 * k)) at this
    rw [hu] at this; exact this
  have x32 : xIn (1 : Int32) 32 := by decide
  have pN := pw hN
  have p1 : 1 ≤ 2 ^ N := Nat.one_le_two_pow
  obtain ⟨u1, q1, q2, q3, q4, q5⟩ := lp_tree (h := h) (purse := purse) (s := s) (op := opS ls s k) hkd hm.1 (by omega) htl.1 (by omega) hN (2 ^ N - 1) 1 xFuel (mA (sc u g (tmS ls s k) (tlS ls s k) (opS ls s k)) 12 1 purse) (by omega) (Nat.le_refl _) (xF_big (by omega)) hu rfl rfl rfl (by rw [mA_s, upd_s]) (fun j j1 j2 => by omega)
  obtain ⟨u2, y2, r1, r2, r3, r4⟩ := lp_out (f := gS ls s k) (g := gB (s (5 + 4 * k)) (tmS ls s k + 1) (tlS ls s k) (opS ls s k)) (A := u1.2.1 12) (h := h) hN (fun x h0 h1 => gB_lucky hm.1 (by omega) h0 h1) q5 N xFuel u1 1 (Nat.le_refl _) (xF_big (by omega)) rfl (Or.inr rfl) (fun _ => rfl) (fun h => by omega)
  rw [q4] at r3 r4
  rw [Nat.sub_self] at r1
  refine ⟨u2, y2, ?_, r2.trans q2, r3 hp, r4⟩
  unfold F_X12_findWorth
  simp only [xlet]
  rw [ha, Option.bind_some, it, Option.bind_some, if_pos x32]
  show F_X12_findWorth_l23 xFuel (mA (sc u g (tmS ls s k) (tlS ls s k) (opS ls s k)) 12 1 purse) h (nI N) (s (5 + 4 * k)) (nI 1) = _
  rw [q1]
  exact r1
theorem d_luck (u : xS) (b : Int32) (hb : F_X12_isBridge u b = some 1) (z1 z2 z3 : Int32) : (F_X11_isLuck z1 z2 z3 = some 0 ∧ F_X12_isLuck u b z1 z2 z3 = some 0) ∨ (F_X11_isLuck z1 z2 z3 = some 1 ∧ F_X12_isLuck u b z1 z2 z3 = some 1 ∧ 0 ≤ z1.toInt ∧ ∃ N, N ≤ 4 ∧ z3 = nI N) := by
  have n0 : ¬ (1 : Int32) = 0 := by decide
  have o1 : (if (1 : Int32) = 0 ∨ (1 : Int32) = 1 then some (1 : Int32) else none) = some 1 := rfl
  have o0 : (if (0 : Int32) = 0 ∨ (0 : Int32) = 1 then some (0 : Int32) else none) = some 0 := rfl
  unfold F_X11_isLuck F_X12_isLuck F_X11_isLuck_j34 F_X11_isLuck_j35 F_X12_isLuck_j49 F_X12_isLuck_j50
  rw [hb, Option.bind_some, if_neg n0]
  rcases d_in z1 0 9999 (A := 0) (B := 9999) rfl rfl with ⟨a1, a2, -⟩ | ⟨a1, a2, a3, -⟩
  · left; rw [a1, a2]; exact ⟨rfl, rfl⟩
  rw [a1, a2, Option.bind_some, Option.bind_some, if_neg n0, if_neg n0]
  rcases d_in z2 0 100 (A := 0) (B := 100) rfl rfl with ⟨b1, b2, -⟩ | ⟨b1, b2, -, -⟩
  · left; rw [b1, b2]; exact ⟨rfl, rfl⟩
  rw [b1, b2, Option.bind_some, Option.bind_some, if_neg n0, if_neg n0]
  rcases d_in z3 0 4 (A := 0) (B := 4) rfl rfl with ⟨c1, c2, -⟩ | ⟨c1, c2, c3, c4⟩
  · left; rw [c1, c2]; exact ⟨rfl, rfl⟩
  right
  rw [c1, c2]
  obtain ⟨N, hN, e⟩ := nI_of2 (x := z3) (M := 4) (n := 4) rfl (by rw [fa_lt]; exact Int.not_lt.mpr c3) (by rw [fa_le]; exact c4)
  exact ⟨rfl, rfl, a3, N, hN, e⟩
theorem c_by1 {t : xT} {k : Nat} {B : Nat → Nat} {s : Nat → Int32} {ls : yLS} (hI : Iv s) (hL : LwS ls s) (hB : BkC t (B k) k s) (hS : StC t B ls s) (hk : k < nB s) (x : Int32) : F_X0_becomesBy t (B k) (tI t (B k) 5 + 1) x = some (gB (s (5 + 4 * k)) (tmS ls s k + 1) (tlS ls s k) (opS ls s k) x) := by
  obtain ⟨s5, s6, s7⟩ := hS k hk
  have hm := tm_rng (ls := ls) hI hk
  have hl := tl_rng hI hL hk
  unfold Ri at *
  rw [s5]
  have tm1 : (tmS ls s k + 1).toInt = (tmS ls s k).toInt + 1 := by rw [fb_addI] <;> (try (show _ ≤ (tmS ls s k).toInt + 1; omega)) <;> (try (show (tmS ls s k).toInt + 1 < _; omega)); rfl
  exact c_bb hB.1 s6 s7 (by omega) (by omega) hl.1 (by omega)
theorem st_worth : sT_worth RR := by
  intro t a u z0 z1 z2 z3 hR
  obtain ⟨B, ls, hk, hp, hk1, hS, hI, hRd, hL, hBg, hSt⟩ := hR.rd
  rcases d_br hS hI hRd hBg z0 with ⟨b1, b2⟩ | ⟨k, hk9, k9, rfl, b1, b2, hBk, hbk⟩
  · refine ⟨-1, u, by simp only [F_X11_worth, F_X11_worth_j25, hk, hp, hk1, b1, xopt, if_true, Option.bind_some], ?_, hR⟩
    have : F_X12_isLuck u z0 z1 z2 z3 = some 0 := by unfold F_X12_isLuck F_X12_isLuck_j49 F_X12_isLuck_j50; rw [b2]; rfl
    simp only [F_X12_worth, this, if_true, Option.bind_some]
  rcases d_luck u (nI k) b2 z1 z2 z3 with ⟨l1, l2⟩ | ⟨l1, l2, l3, N, hN, rfl⟩
  · exact ⟨-1, u, by simp only [F_X11_worth, F_X11_worth_j25, hk, hp, hk1, b1, xopt, if_true, Option.bind_some, l1], by simp only [F_X12_worth, l2, if_true, Option.bind_some], hR⟩
  have cW := c_Wv (f := gS ls (u.2.1 0) k) (g := (gB (u.2.1 0 (5 + 4 * k)) (tmS ls (u.2.1 0) k + 1) (tlS ls (u.2.1 0) k) (opS ls (u.2.1 0) k))) (h := z2) hbk (fun x => c_bS (x := x) hI hL hBk hSt hk9) (fun x => c_by1 hI hL hBk hSt hk9 x) 6 N (by omega) (by omega) z1
  obtain ⟨u', y', r1, r2, r3, -⟩ := r_find (u := u) (h := z2) rfl hI hL hk9 hN (show 0 ≤ z1 by rw [fa_le]; exact l3)
  have x32 : xIn (1 : Int32) 32 := by decide
  refine ⟨Wv (gS ls (u.2.1 0) k) (gB (u.2.1 0 (5 + 4 * k)) (tmS ls (u.2.1 0) k + 1) (tlS ls (u.2.1 0) k) (opS ls (u.2.1 0) k)) z2 N z1, u', ?_, ?_, hR.scr r2⟩
  · simp only [F_X11_worth, hk, hp, hk1, b1, xopt, if_true, Option.bind_some, l1, n10, if_false, cW]
  · simp only [F_X12_worth, l2, Option.bind_some, n10, if_false, r1, if_pos x32, cl1, r3]
theorem st_stops : sT_stops RR := by
  intro t a u z0 z1 z2 z3 hR
  obtain ⟨B, ls, hk, hpp, hk1, hS, hI, hRd, hL, hBg, hSt⟩ := hR.rd
  rcases d_br hS hI hRd hBg z0 with ⟨b1, b2⟩ | ⟨k, hk9, k9, rfl, b1, b2, hBk, hbk⟩
  · refine ⟨-1, u, by simp only [F_X11_stops, F_X11_stops_j25, hk, hpp, hk1, b1, xopt, if_true, Option.bind_some], ?_, hR⟩
    have : F_X12_isLuck u z0 z1 z2 z3 = some 0 := by unfold F_X12_isLuck F_X12_isLuck_j49 F_X12_isLuck_j50; rw [b2]; rfl
    simp only [F_X12_stops, this, if_true, Option.bind_some]
  rcases d_luck u (nI k) b2 z1 z2 z3 with ⟨l1, l2⟩ | ⟨l1, l2, l3, N, hN, rfl⟩
  · exact ⟨-1, u, by simp only [F_X11_stops, F_X11_stops_j25, hk, hpp, hk1, b1, xopt, if_true, Option.bind_some, l1], by simp only [F_X12_stops, l2, if_true, Option.bind_some], hR⟩
  have h0 : 0 ≤ z1 := by rw [fa_le]; exact l3
  have cW := c_Wc (f := gS ls (u.2.1 0) k) (g := (gB (u.2.1 0 (5 + 4 * k)) (tmS ls (u.2.1 0) k + 1) (tlS ls (u.2.1 0) k) (opS ls (u.2.1 0) k))) (h := z2) (kr := F_X11_worthOf 6) hbk (fun x => c_bS (x := x) hI hL hBk hSt hk9) (fun x => c_by1 hI hL hBk hSt hk9 x) (N := N) (by omega) (fun n hn x => c_Wv hbk (fun x => c_bS (x := x) hI hL hBk hSt hk9) (fun x => c_by1 hI hL hBk hSt hk9 x) 6 n (by omega) (by omega) x) z1
  obtain ⟨u', y', r1, r2, -, r4, r5⟩ := r_find (u := u) (h := z2) rfl hI hL hk9 hN h0
  have cls : ∀ v, (if z1.toInt64 * hp N < Wc (gS ls (u.2.1 0) k) (gB (u.2.1 0 (5 + 4 * k)) (tmS ls (u.2.1 0) k + 1) (tlS ls (u.2.1 0) k) (opS ls (u.2.1 0) k)) z2 N z1 then some (0 : Int32) else some 1) = some v → F_X11_stops t a (nI k) z1 z2 (nI N) = some v := by
    intro v hv
    simp only [F_X11_stops, F_X11_stops_j53, hk, hpp, hk1, b1, xopt, if_true, Option.bind_some, l1, n10, if_false, c_hundred (show N < 100 by omega), cW, lg_neg]
    exact hv
  have rfe : ∀ v, (if y' = 0 then some ((0 : Int32), u') else some (1, u')) = some (v, u') → F_X12_stops u (nI k) z1 z2 (nI N) = some (v, u') := by
    intro v hv
    simp only [F_X12_stops, F_X12_stops_j31, l2, Option.bind_some, n10, if_false, r1]
    exact hv
  by_cases cN : N = 0
  · subst cN
    have : ¬ z1.toInt64 * hp 0 < Wc (gS ls (u.2.1 0) k) (gB (u.2.1 0 (5 + 4 * k)) (tmS ls (u.2.1 0) k + 1) (tlS ls (u.2.1 0) k) (opS ls (u.2.1 0) k)) z2 0 z1 := by
      unfold Wc hp
      rw [Int64.mul_one, fa_lt64, Int32.toInt_toInt64]; show ¬ _ < (-1 : Int); omega
    exact ⟨1, u', cls _ (by rw [if_neg this]), rfe _ (by rw [r4 rfl, if_neg (by decide)]), hR.scr r2⟩
  · have e := r5 (by omega) h0
    by_cases c : z1.toInt64 * hp N < Wc (gS ls (u.2.1 0) k) (gB (u.2.1 0 (5 + 4 * k)) (tmS ls (u.2.1 0) k + 1) (tlS ls (u.2.1 0) k) (opS ls (u.2.1 0) k)) z2 N z1
    · rw [if_pos c] at e
      exact ⟨0, u', cls _ (by rw [if_pos c]), rfe _ (by rw [e, if_pos rfl]), hR.scr r2⟩
    · rw [if_neg c] at e
      exact ⟨1, u', cls _ (by rw [if_neg c]), rfe _ (by rw [e, if_neg (by decide)]), hR.scr r2⟩
