/-! ===== pure mathematics 1: numbers (begun with rows of the kit's laws COUNTS and NUMBERS) ===== -/
theorem fb_rng (x : Int32) : -2147483648 ≤ x.toInt ∧ x.toInt < 2147483648 := by
  have h1 := Int32.le_toInt x
  have h2 := Int32.toInt_lt x
  omega
theorem fb_bmod {z : Int} (h1 : -2147483648 ≤ z) (h2 : z < 2147483648) : z.bmod (2 ^ 32) = z := by
  rw [Int.bmod_eq_of_le (by omega) (by omega)]
theorem fb_addI {x y : Int32} (h1 : -2147483648 ≤ x.toInt + y.toInt) (h2 : x.toInt + y.toInt < 2147483648) : (x + y).toInt = x.toInt + y.toInt := by
  rw [Int32.toInt_add, fb_bmod h1 h2]
theorem fb_subI {x y : Int32} (h1 : -2147483648 ≤ x.toInt - y.toInt) (h2 : x.toInt - y.toInt < 2147483648) : (x - y).toInt = x.toInt - y.toInt := by
  rw [Int32.toInt_sub, fb_bmod h1 h2]
theorem fb_mulI {x y : Int32} (h1 : -2147483648 ≤ x.toInt * y.toInt) (h2 : x.toInt * y.toInt < 2147483648) : (x * y).toInt = x.toInt * y.toInt := by
  rw [Int32.toInt_mul, fb_bmod h1 h2]
theorem fb_negI {x : Int32} (h : x.toInt ≠ -2147483648) : (-x).toInt = -x.toInt := by
  have := fb_rng x
  rw [Int32.toInt_neg, fb_bmod (by omega) (by omega)]
theorem fb_ofI {z : Int} (h1 : -2147483648 ≤ z) (h2 : z < 2147483648) : (Int32.ofInt z).toInt = z := by
  rw [Int32.toInt_ofInt, fb_bmod h1 h2]
theorem fb_asI (x : Int32) : Int32.ofInt x.toInt = x := Int32.ofInt_toInt x
theorem fb_rngL (x : Int64) : -9223372036854775808 ≤ x.toInt ∧ x.toInt < 9223372036854775808 := by
  have h1 := Int64.le_toInt x
  have h2 := Int64.toInt_lt x
  omega
theorem fb_bmodL {z : Int} (h1 : -9223372036854775808 ≤ z) (h2 : z < 9223372036854775808) : z.bmod (2 ^ 64) = z := by
  rw [Int.bmod_eq_of_le (by omega) (by omega)]
theorem fb_addL {x y : Int64} (h1 : -9223372036854775808 ≤ x.toInt + y.toInt) (h2 : x.toInt + y.toInt < 9223372036854775808) : (x + y).toInt = x.toInt + y.toInt := by
  rw [Int64.toInt_add, fb_bmodL h1 h2]
theorem fb_subL {x y : Int64} (h1 : -9223372036854775808 ≤ x.toInt - y.toInt) (h2 : x.toInt - y.toInt < 9223372036854775808) : (x - y).toInt = x.toInt - y.toInt := by
  rw [Int64.toInt_sub, fb_bmodL h1 h2]
theorem fb_mulL {x y : Int64} (h1 : -9223372036854775808 ≤ x.toInt * y.toInt) (h2 : x.toInt * y.toInt < 9223372036854775808) : (x * y).toInt = x.toInt * y.toInt := by
  rw [Int64.toInt_mul, fb_bmodL h1 h2]
/-! ===== cuts of what is narrow already ===== -/
theorem fb_byte {x : Int32} (h1 : -128 ≤ x.toInt) (h2 : x.toInt < 128) : x.toInt8.toInt32 = x := by
  apply Int32.toInt_inj.1
  rw [Int8.toInt_toInt32, Int32.toInt_toInt8, Int.bmod_eq_of_le (by omega) (by omega)]
theorem fb_short {x : Int32} (h1 : -32768 ≤ x.toInt) (h2 : x.toInt < 32768) : x.toInt16.toInt32 = x := by
  apply Int32.toInt_inj.1
  rw [Int16.toInt_toInt32, Int32.toInt_toInt16, Int.bmod_eq_of_le (by omega) (by omega)]
theorem fb_byte_rng (x : Int32) : -128 ≤ x.toInt8.toInt32.toInt ∧ x.toInt8.toInt32.toInt < 128 := by
  rw [Int8.toInt_toInt32]
  have h1 := Int8.le_toInt x.toInt8
  have h2 := Int8.toInt_lt x.toInt8
  omega
theorem fb_short_rng (x : Int32) : -32768 ≤ x.toInt16.toInt32.toInt ∧ x.toInt16.toInt32.toInt < 32768 := by
  rw [Int16.toInt_toInt32]
  have h1 := Int16.le_toInt x.toInt16
  have h2 := Int16.toInt_lt x.toInt16
  omega
theorem fa_lt (a b : Int32) : a < b ↔ a.toInt < b.toInt := Int32.lt_iff_toInt_lt
theorem fa_le (a b : Int32) : a ≤ b ↔ a.toInt ≤ b.toInt := Int32.le_iff_toInt_le
theorem fa_eq (a b : Int32) : a = b ↔ a.toInt = b.toInt := Int32.toInt_inj.symm
theorem fa_lt64 (a b : Int64) : a < b ↔ a.toInt < b.toInt := Int64.lt_iff_toInt_lt
theorem fa_le64 (a b : Int64) : a ≤ b ↔ a.toInt ≤ b.toInt := Int64.le_iff_toInt_le
theorem fa_eq64 (a b : Int64) : a = b ↔ a.toInt = b.toInt := Int64.toInt_inj.symm
/-- a comparison of two ints taken as longs -/
theorem fa_wide_lt (a b : Int32) : a.toInt64 < b.toInt64 ↔ a < b := by rw [fa_lt64, fa_lt, Int32.toInt_toInt64, Int32.toInt_toInt64]
theorem fa_wide_le (a b : Int32) : a.toInt64 ≤ b.toInt64 ↔ a ≤ b := by rw [fa_le64, fa_le, Int32.toInt_toInt64, Int32.toInt_toInt64]
theorem fa_wide_eq (a b : Int32) : a.toInt64 = b.toInt64 ↔ a = b := by rw [fa_eq64, fa_eq, Int32.toInt_toInt64, Int32.toInt_toInt64]

theorem n_toI {a : Int64} (h1 : -2147483648 ≤ a.toInt) (h2 : a.toInt < 2147483648) : a.toInt32.toInt = a.toInt := by
  rw [Int64.toInt_toInt32, fb_bmod h1 h2]
theorem n_le0 (x : Int32) : (0 ≤ x) = (0 ≤ x.toInt) := propext (fa_le 0 x)
theorem n_lt0 (x : Int32) : (x < 0) = (x.toInt < 0) := propext (fa_lt x 0)
def bI (p : Prop) [Decidable p] : Int32 := if p then 1 else 0
theorem bI_0 (p : Prop) [Decidable p] : (bI p = 0) = ¬ p := by
  unfold bI
  by_cases h : p
  · simp [h]
  · simp [h]
theorem bI_1 (p : Prop) [Decidable p] : (bI p = 1) = p := by
  unfold bI
  by_cases h : p
  · simp [h]
  · simp [h]
theorem bI_01 (p : Prop) [Decidable p] : bI p = 0 ∨ bI p = 1 := by
  unfold bI
  by_cases h : p
  · simp [h]
  · simp [h]
theorem bI_t {p : Prop} [Decidable p] (h : p) : bI p = 1 := by unfold bI; rw [if_pos h]
theorem bI_f {p : Prop} [Decidable p] (h : ¬ p) : bI p = 0 := by unfold bI; rw [if_neg h]
theorem n_in (x a b : Int64) : F_X12_in x a b = some (bI (a ≤ x ∧ x ≤ b)) := by
  unfold F_X12_in F_X12_in_j17 F_X12_in_j18
  simp only [lg_cmp_lt, lg_cmp_gt]
  by_cases h1 : x < a
  · rw [if_pos h1, bI_f (fun h => by rw [fa_lt64] at h1; rw [fa_le64, fa_le64] at h; omega)]; rfl
  · rw [if_neg h1]
    by_cases h2 : b < x
    · rw [if_pos h2, bI_f (fun h => by rw [fa_lt64] at h2; rw [fa_le64, fa_le64] at h; omega)]; rfl
    · rw [if_neg h2, bI_t (by rw [fa_lt64] at h1 h2; rw [fa_le64, fa_le64]; omega)]; rfl
theorem n_in32 (x a b : Int32) {A B : Int64} (hA : A.toInt = a.toInt) (hB : B.toInt = b.toInt) : F_X12_in x.toInt64 A B = some (bI (a ≤ x ∧ x ≤ b)) := by
  rw [n_in]
  have : (A ≤ x.toInt64 ∧ x.toInt64 ≤ B) = (a ≤ x ∧ x ≤ b) := by
    rw [fa_le64, fa_le64, hA, hB, Int32.toInt_toInt64, fa_le, fa_le]
  simp only [this]
theorem n_isIn (x a b : Int32) : F_X11_isIn x a b = some (bI (a ≤ x ∧ x ≤ b)) := by
  unfold F_X11_isIn F_X11_isIn_j14 F_X11_isIn_j15
  by_cases h1 : x < a
  · rw [if_pos h1, bI_f (fun h => by rw [fa_lt] at h1; rw [fa_le, fa_le] at h; omega)]; rfl
  · rw [if_neg h1]
    by_cases h2 : b < x
    · rw [if_pos h2, bI_f (fun h => by rw [fa_lt] at h2; rw [fa_le, fa_le] at h; omega)]; rfl
    · rw [if_neg h2, bI_t (by rw [fa_lt] at h1 h2; rw [fa_le, fa_le]; omega)]; rfl
theorem n_in_0_6 (x : Int32) : F_X12_in x.toInt64 (0 : Int64) (6 : Int64) = some (bI ((0 : Int32) ≤ x ∧ x ≤ (6 : Int32))) := n_in32 x (0) 6 rfl rfl
theorem n_in_1_5 (x : Int32) : F_X12_in x.toInt64 (1 : Int64) (5 : Int64) = some (bI ((1 : Int32) ≤ x ∧ x ≤ (5 : Int32))) := n_in32 x (1) 5 rfl rfl
theorem n_in_1_9 (x : Int32) : F_X12_in x.toInt64 (1 : Int64) (9 : Int64) = some (bI ((1 : Int32) ≤ x ∧ x ≤ (9 : Int32))) := n_in32 x (1) 9 rfl rfl
theorem n_in_0_999 (x : Int32) : F_X12_in x.toInt64 (0 : Int64) (999 : Int64) = some (bI ((0 : Int32) ≤ x ∧ x ≤ (999 : Int32))) := n_in32 x (0) 999 rfl rfl
theorem n_in_0_1000000000 (x : Int32) : F_X12_in x.toInt64 (0 : Int64) (1000000000 : Int64) = some (bI ((0 : Int32) ≤ x ∧ x ≤ (1000000000 : Int32))) := n_in32 x (0) 1000000000 rfl rfl
theorem n_in_0_60 (x : Int32) : F_X12_in x.toInt64 (0 : Int64) (60 : Int64) = some (bI ((0 : Int32) ≤ x ∧ x ≤ (60 : Int32))) := n_in32 x (0) 60 rfl rfl
theorem n_in_0_99999 (x : Int32) : F_X12_in x.toInt64 (0 : Int64) (99999 : Int64) = some (bI ((0 : Int32) ≤ x ∧ x ≤ (99999 : Int32))) := n_in32 x (0) 99999 rfl rfl
theorem n_in_1_6 (x : Int32) : F_X12_in x.toInt64 (1 : Int64) (6 : Int64) = some (bI ((1 : Int32) ≤ x ∧ x ≤ (6 : Int32))) := n_in32 x (1) 6 rfl rfl
theorem n_in_1_20 (x : Int32) : F_X12_in x.toInt64 (1 : Int64) (20 : Int64) = some (bI ((1 : Int32) ≤ x ∧ x ≤ (20 : Int32))) := n_in32 x (1) 20 rfl rfl
theorem n_in_0_8 (x : Int32) : F_X12_in x.toInt64 (0 : Int64) (8 : Int64) = some (bI ((0 : Int32) ≤ x ∧ x ≤ (8 : Int32))) := n_in32 x (0) 8 rfl rfl
theorem n_in_0_59 (x : Int32) : F_X12_in x.toInt64 (0 : Int64) (59 : Int64) = some (bI ((0 : Int32) ≤ x ∧ x ≤ (59 : Int32))) := n_in32 x (0) 59 rfl rfl
theorem n_in_1_99999 (x : Int32) : F_X12_in x.toInt64 (1 : Int64) (99999 : Int64) = some (bI ((1 : Int32) ≤ x ∧ x ≤ (99999 : Int32))) := n_in32 x (1) 99999 rfl rfl
theorem n_in_0_9999 (x : Int32) : F_X12_in x.toInt64 (0 : Int64) (9999 : Int64) = some (bI ((0 : Int32) ≤ x ∧ x ≤ (9999 : Int32))) := n_in32 x (0) 9999 rfl rfl
theorem n_in_0_100 (x : Int32) : F_X12_in x.toInt64 (0 : Int64) (100 : Int64) = some (bI ((0 : Int32) ≤ x ∧ x ≤ (100 : Int32))) := n_in32 x (0) 100 rfl rfl
theorem n_in_0_4 (x : Int32) : F_X12_in x.toInt64 (0 : Int64) (4 : Int64) = some (bI ((0 : Int32) ≤ x ∧ x ≤ (4 : Int32))) := n_in32 x (0) 4 rfl rfl
theorem n_in_0_2 (x : Int32) : F_X12_in x.toInt64 (0 : Int64) (2 : Int64) = some (bI ((0 : Int32) ≤ x ∧ x ≤ (2 : Int32))) := n_in32 x (0) 2 rfl rfl
theorem n_in_0_3 (x : Int32) : F_X12_in x.toInt64 (0 : Int64) (3 : Int64) = some (bI ((0 : Int32) ≤ x ∧ x ≤ (3 : Int32))) := n_in32 x (0) 3 rfl rfl
theorem n_in_m1_4 (x : Int32) : F_X12_in x.toInt64 (-1 : Int64) (4 : Int64) = some (bI ((-1 : Int32) ≤ x ∧ x ≤ (4 : Int32))) := n_in32 x (-1) 4 rfl rfl
theorem n_in_10_14 (x : Int32) : F_X12_in x.toInt64 (10 : Int64) (14 : Int64) = some (bI ((10 : Int32) ≤ x ∧ x ≤ (14 : Int32))) := n_in32 x (10) 14 rfl rfl
theorem n_in_0_5 (x : Int32) : F_X12_in x.toInt64 (0 : Int64) (5 : Int64) = some (bI ((0 : Int32) ≤ x ∧ x ≤ (5 : Int32))) := n_in32 x (0) 5 rfl rfl
theorem n_in_1_1000000000 (x : Int32) : F_X12_in x.toInt64 (1 : Int64) (1000000000 : Int64) = some (bI ((1 : Int32) ≤ x ∧ x ≤ (1000000000 : Int32))) := n_in32 x (1) 1000000000 rfl rfl
theorem n_in_97_122 (x : Int32) : F_X12_in x.toInt64 (97 : Int64) (122 : Int64) = some (bI ((97 : Int32) ≤ x ∧ x ≤ (122 : Int32))) := n_in32 x (97) 122 rfl rfl
theorem n_in_48_57 (x : Int32) : F_X12_in x.toInt64 (48 : Int64) (57 : Int64) = some (bI ((48 : Int32) ≤ x ∧ x ≤ (57 : Int32))) := n_in32 x (48) 57 rfl rfl
theorem n_in_1_8 (x : Int32) : F_X12_in x.toInt64 (1 : Int64) (8 : Int64) = some (bI ((1 : Int32) ≤ x ∧ x ≤ (8 : Int32))) := n_in32 x (1) 8 rfl rfl
theorem n_isPurse (x : Int32) : F_X12_isPurse x.toInt64 = some (bI ((0 : Int32) ≤ x ∧ x ≤ (1000000000 : Int32))) := by unfold F_X12_isPurse; rw [n_in_0_1000000000]; rfl
theorem n_isPurse1 (x : Int32) : F_X11_isPurse x = some (bI ((0 : Int32) ≤ x ∧ x ≤ (1000000000 : Int32))) := by unfold F_X11_isPurse; rw [n_isIn]; rfl
theorem n_isBuilt (x : Int32) : F_X11_isBuilt x = some (bI ((1 : Int32) ≤ x ∧ x ≤ (5 : Int32))) := by unfold F_X11_isBuilt; rw [n_isIn]; rfl
theorem n_isDay (x : Int32) : F_X11_isDay x = some (bI ((0 : Int32) ≤ x ∧ x ≤ (6 : Int32))) := by unfold F_X11_isDay; rw [n_isIn]; rfl
theorem n_isTimes (x : Int32) : F_X11_isTimes x = some (bI ((1 : Int32) ≤ x ∧ x ≤ (9 : Int32))) := by unfold F_X11_isTimes; rw [n_isIn]; rfl
theorem n_isToll (x : Int32) : F_X11_isToll x = some (bI ((0 : Int32) ≤ x ∧ x ≤ (999 : Int32))) := by unfold F_X11_isToll; rw [n_isIn]; rfl
theorem n_isOne (x : Int32) : F_X12_isOne x = some (bI ((0 : Int32) ≤ x ∧ x ≤ (3 : Int32))) := by unfold F_X12_isOne; rw [n_in_0_3]; rfl
theorem n_isPart1 (x : Int32) : F_X12_isPart 1 x = some (bI ((1 : Int32) ≤ x ∧ x ≤ (9 : Int32))) := by unfold F_X12_isPart; rw [if_pos rfl, n_in_1_9]; rfl
theorem n_isPart2 (x : Int32) : F_X12_isPart 2 x = some (bI ((0 : Int32) ≤ x ∧ x ≤ (999 : Int32))) := by unfold F_X12_isPart; rw [if_neg (by decide), if_pos rfl, n_in_0_999]; rfl
theorem n_isPart3 (x : Int32) : F_X12_isPart 3 x = some (bI ((0 : Int32) ≤ x ∧ x ≤ (6 : Int32))) := by
  unfold F_X12_isPart
  rw [if_neg (by decide), if_neg (by decide), if_pos rfl, n_in_0_6]
  show (if bI _ = 0 then _ else _) = _
  by_cases h : (0 : Int32) ≤ x ∧ x ≤ (6 : Int32)
  · rw [bI_t h]; rfl
  · rw [bI_f h]; rfl
theorem n_isPartX {w : Int32} (h1 : w ≠ 1) (h2 : w ≠ 2) (h3 : w ≠ 3) (x : Int32) : F_X12_isPart w x = some 0 := by
  unfold F_X12_isPart
  rw [if_neg h1, if_neg h2, if_neg h3]; rfl
/-! indices -/
theorem n_xIn {k n : Nat} (h : k < n) (hn : n < 2147483648) : xIn (nI k) n := nI_in h (by omega)
theorem n_cl {k : Nat} (h : k < 2147483648) : (nI k).toNatClampNeg = k := nI_clamp (by omega)
theorem n_lit (k : Nat) : (OfNat.ofNat k : Int32) = nI k := rfl
theorem n_at (k w : Nat) : F_X12_at (nI k) (nI w) = some (nI (5 + 4 * k + w)) := by
  show some (((nI 5) + ((nI 4) * nI k)) + nI w) = _
  rw [pk_mul, nI_add, nI_add]
theorem n_where (k w : Nat) : F_X12_where (nI k) (nI w) = some (nI (41 + 3 * k + w)) := by
  show some (((nI 41) + ((nI 3) * nI k)) + nI w) = _
  rw [pk_mul, nI_add, nI_add]
theorem n_its (u : xS) {k w : Nat} (h : 5 + 4 * k + w < 303) : F_X12_its u (nI k) (nI w) = some (u.2.1 0 (5 + 4 * k + w)) := by
  unfold F_X12_its
  rw [n_at, Option.bind_some, if_pos (n_xIn h (by omega)), n_cl (by omega)]
theorem n_told (u : xS) {k w : Nat} (h : 41 + 3 * k + w < 303) : F_X12_told u (nI k) (nI w) = some (u.2.1 0 (41 + 3 * k + w)) := by
  unfold F_X12_told
  rw [n_where, Option.bind_some, if_pos (n_xIn h (by omega)), n_cl (by omega)]
theorem n_isBridge_no (u : xS) {n : Nat} (hn : n < 2147483648) (hs : u.2.1 0 0 = nI n) {b : Int32} (h : b < 0 ∨ nI n ≤ b) : F_X12_isBridge u b = some 0 := by
  unfold F_X12_isBridge
  rw [if_pos (by decide), show (0 : Int32).toNatClampNeg = 0 from rfl, hs, n_in32 b 0 (nI n - 1) rfl (by rw [Int32.toInt_toInt64]), Option.bind_some, bI_f]
  intro ⟨h1, h2⟩
  have e : (nI n - 1).toInt = (n : Int) - 1 := by
    have := nI_toInt (n := n) (by omega)
    rw [fb_subI (by rw [this]; show _ ≤ (n : Int) - 1; omega) (by rw [this]; show (n : Int) - 1 < _; omega), this]; rfl
  rw [fa_le, e] at h2
  rcases h with h | h
  · rw [fa_lt] at h; rw [fa_le] at h1; omega
  · rw [fa_le, nI_toInt (by omega)] at h; omega
theorem n_isBridge (u : xS) {n k : Nat} (hn : n < 2147483648) (hs : u.2.1 0 0 = nI n) (h : k < n) : F_X12_isBridge u (nI k) = some 1 := by
  unfold F_X12_isBridge
  rw [if_pos (by decide), show (0 : Int32).toNatClampNeg = 0 from rfl, hs, n_in32 (nI k) 0 (nI n - 1) rfl (by rw [Int32.toInt_toInt64]), Option.bind_some, bI_t]
  have e : (nI n - 1).toInt = (n : Int) - 1 := by
    have := nI_toInt (n := n) (by omega)
    rw [fb_subI (by rw [this]; show _ ≤ (n : Int) - 1; omega) (by rw [this]; show (n : Int) - 1 < _; omega), this]; rfl
  refine ⟨nI_pos' (by omega), ?_⟩
  rw [fa_le, e, nI_toInt (by omega)]
  omega
theorem n_isPerson_no (u : xS) {n : Nat} (hn : n < 2147483648) (hs : u.2.1 0 1 = nI n) {b : Int32} (h : b < 0 ∨ nI n ≤ b) : F_X12_isPerson u b = some 0 := by
  unfold F_X12_isPerson
  rw [if_pos (by decide), show (1 : Int32).toNatClampNeg = 1 from rfl, hs, n_in32 b 0 (nI n - 1) rfl (by rw [Int32.toInt_toInt64]), Option.bind_some, bI_f]
  intro ⟨h1, h2⟩
  have e : (nI n - 1).toInt = (n : Int) - 1 := by
    have := nI_toInt (n := n) (by omega)
    rw [fb_subI (by rw [this]; show _ ≤ (n : Int) - 1; omega) (by rw [this]; show (n : Int) - 1 < _; omega), this]; rfl
  rw [fa_le, e] at h2
  rcases h with h | h
  · rw [fa_lt] at h; rw [fa_le] at h1; omega
  · rw [fa_le, nI_toInt (by omega)] at h; omega
theorem n_isPerson (u : xS) {n k : Nat} (hn : n < 2147483648) (hs : u.2.1 0 1 = nI n) (h : k < n) : F_X12_isPerson u (nI k) = some 1 := by
  unfold F_X12_isPerson
  rw [if_pos (by decide), show (1 : Int32).toNatClampNeg = 1 from rfl, hs, n_in32 (nI k) 0 (nI n - 1) rfl (by rw [Int32.toInt_toInt64]), Option.bind_some, bI_t]
  have e : (nI n - 1).toInt = (n : Int) - 1 := by
    have := nI_toInt (n := n) (by omega)
    rw [fb_subI (by rw [this]; show _ ≤ (n : Int) - 1; omega) (by rw [this]; show (n : Int) - 1 < _; omega), this]; rfl
  refine ⟨nI_pos' (by omega), ?_⟩
  rw [fa_le, e, nI_toInt (by omega)]
  omega
