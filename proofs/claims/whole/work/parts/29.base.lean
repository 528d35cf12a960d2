/-! ===== pure mathematics 8: bounds, becomes and many crossings on both sides ===== -/
theorem Ri_add {x y : Int32} {a b c d : Int} (h : Ri x a b) (h' : Ri y c d) (h1 : -2147483648 ≤ a + c) (h2 : b + d < 2147483648) : Ri (x + y) (a + c) (b + d) := by
  unfold Ri at *
  rw [fb_addI (by omega) (by omega)]; omega
theorem Ri_w {x : Int32} {a b c d : Int} (h : Ri x a b) (h1 : c ≤ a) (h2 : b ≤ d) : Ri x c d := by
  unfold Ri at *; omega
theorem Ri_01 (p : Prop) [Decidable p] : Ri (if p then (1 : Int32) else 0) 0 1 := by
  by_cases h : p
  · rw [if_pos h]; unfold Ri; decide
  · rw [if_neg h]; unfold Ri; decide
theorem mm_rng {ls : yLS} {s : Nat → Int32} (hL : LwS ls s) (k : Nat) : Ri (mmS ls s k) 0 999 := by
  obtain ⟨T, fs, cs, hW⟩ := hL
  unfold mmS
  cases hc : clS ls s k with
  | none => show Ri 0 0 999; unfold Ri; decide
  | some j =>
    have hj := clF_lt ls s k _ _ j hc
    exact (hW.2.2 j (by omega)).2.1
theorem tm_rng {ls : yLS} {s : Nat → Int32} {k : Nat} (hI : Iv s) (hk : k < nB s) : Ri (tmS ls s k) 1 11 := by
  obtain ⟨-, -, -, -, -, h, -⟩ := hI
  have h1 := (h k hk).2.1
  unfold tmS
  exact Ri_w (Ri_add (Ri_add h1 (Ri_01 (ddS ls s k = 2)) (by decide) (by decide)) (Ri_01 (s (5 + 4 * k) = 3 ∧ s 3 = s (5 + 4 * k + 3))) (by decide) (by decide)) (by decide) (by decide)
theorem tb_rng {ls : yLS} {s : Nat → Int32} {k : Nat} (hI : Iv s) (hL : LwS ls s) (hk : k < nB s) : Ri (tbS ls s k) 0 1998 := by
  obtain ⟨-, -, -, -, -, h, -⟩ := hI
  have h1 := (h k hk).2.2.1
  unfold tbS
  by_cases c : ddS ls s k = 0
  · rw [if_pos c]; unfold Ri; decide
  · rw [if_neg c]; exact Ri_w (Ri_add h1 (mm_rng hL k) (by decide) (by decide)) (by decide) (by decide)
theorem n_div2 {x : Int32} (h : 0 ≤ x.toInt) : (x / 2).toInt = x.toInt / 2 := by
  have hx := fb_rng x
  have e : x.toInt.tdiv 2 = x.toInt / 2 := Int.tdiv_eq_ediv_of_nonneg h
  rw [Int32.toInt_div]
  show (x.toInt.tdiv 2).bmod _ = _
  rw [e, fb_bmod (by omega) (by omega)]
theorem tl_rng {ls : yLS} {s : Nat → Int32} {k : Nat} (hI : Iv s) (hL : LwS ls s) (hk : k < nB s) : Ri (tlS ls s k) 0 1998 := by
  have h := tb_rng hI hL hk
  unfold tlS
  by_cases c : s (5 + 4 * k) = 5 ∧ s 3 = s (5 + 4 * k + 3)
  · rw [if_pos c]
    unfold Ri at *
    rw [n_div2 h.1]; omega
  · rw [if_neg c]; exact h
def gS (ls : yLS) (s : Nat → Int32) (k : Nat) (x : Int32) : Int32 := gB (s (5 + 4 * k)) (tmS ls s k) (tlS ls s k) (opS ls s k) x
def lS (ls : yLS) (s : Nat → Int32) (k : Nat) (x : Int32) : Int32 := gL (s (5 + 4 * k)) (tmS ls s k) (tlS ls s k) (opS ls s k) x
theorem gI_0 (kd tm tl : Int32) (p : Int) : gI kd tm tl 0 p = -1 := by
  unfold gI zb; rw [if_pos (Or.inl rfl)]; rfl
theorem sc_5 (u : xS) (g : Nat → Int32) (x y z : Int32) : (sc u g x y z).1 5 = x ∧ (sc u g x y z).1 6 = y ∧ (sc u g x y z).1 7 = z ∧ (sc u g x y z).2.1 0 = u.2.1 0 := ⟨rfl, rfl, rfl, rfl⟩
theorem r_bec {u : xS} {k : Nat} {s : Nat → Int32} {ls : yLS} {P : Int64} (hu : u.2.1 0 = s) (hI : Iv s) (hL : LwS ls s) (hk : k < nB s) (h7 : -2147483648 ≤ P.toInt) (h8 : P.toInt < 2147483648) : ∃ g, F_X12_becomes u (nI k) P = some (gI (s (5 + 4 * k)) (tmS ls s k) (tlS ls s k) (opS ls s k) P.toInt, sc u g (tmS ls s k) (tlS ls s k) (opS ls s k)) := by
  have h9 : nB s ≤ 9 := hI.1.1
  obtain ⟨g, ha⟩ := r_asks (ls := ls) hu hI hL (show k < 9 by omega)
  refine ⟨g, ?_⟩
  unfold F_X12_becomes F_X12_becomes_j34
  rw [ha, Option.bind_some]
  have e0 := n_its (sc u g (tmS ls s k) (tlS ls s k) (opS ls s k)) (k := k) (w := 0) (by omega)
  change F_X12_its _ (nI k) 0 = some (u.2.1 0 (5 + 4 * k)) at e0
  rw [hu] at e0
  show (if opS ls s k = 0 then _ else _) = _
  by_cases c : opS ls s k = 0
  · rw [if_pos c, c, gI_0]
  · rw [if_neg c, e0, Option.bind_some]
    have hm := tm_rng (ls := ls) hI hk
    have hl := tl_rng hI hL hk
    have hkd := (hI.2.2.2.2.2.1 k hk).1
    show (F_X12_made _ P (tmS ls s k) (tlS ls s k)).bind _ = _
    unfold Ri at *
    rw [r_made hkd c hm.1 (by omega) hl.1 (by omega) h7 h8]; rfl
theorem r_b32 {u : xS} {k : Nat} {s : Nat → Int32} {ls : yLS} {x : Int32} (hu : u.2.1 0 = s) (hI : Iv s) (hL : LwS ls s) (hk : k < nB s) : ∃ g, F_X12_becomes u (nI k) x.toInt64 = some (gS ls s k x, sc u g (tmS ls s k) (tlS ls s k) (opS ls s k)) := by
  obtain ⟨g, h⟩ := r_bec (P := x.toInt64) hu hI hL hk (by rw [Int32.toInt_toInt64]; exact (fb_rng x).1) (by rw [Int32.toInt_toInt64]; exact (fb_rng x).2)
  refine ⟨g, ?_⟩
  rw [h, Int32.toInt_toInt64]; rfl
theorem c_bS {t : xT} {k : Nat} {B : Nat → Nat} {s : Nat → Int32} {ls : yLS} {x : Int32} (hI : Iv s) (hL : LwS ls s) (hB : BkC t (B k) k s) (hS : StC t B ls s) (hk : k < nB s) : F_X0_becomes t (B k) x = some (gS ls s k x) := by
  obtain ⟨s5, s6, s7⟩ := hS k hk
  have hm := tm_rng (ls := ls) hI hk
  have hl := tl_rng hI hL hk
  unfold Ri at *
  exact c_b hB.1 s5 s6 s7 (by omega) (by omega) hl.1 (by omega)
theorem c_lS {t : xT} {k : Nat} {B : Nat → Nat} {s : Nat → Int32} {ls : yLS} {x : Int32} (hI : Iv s) (hL : LwS ls s) (hB : BkC t (B k) k s) (hS : StC t B ls s) (hk : k < nB s) : F_X0_leastAhead t (B k) x = some (lS ls s k x) := by
  obtain ⟨s5, s6, s7⟩ := hS k hk
  have hm := tm_rng (ls := ls) hI hk
  have hl := tl_rng hI hL hk
  unfold Ri at *
  exact c_la hB.1 s5 s6 s7 hm.1 (by omega) hl.1 (by omega)
/-- a function again and again, to the first value below 0 -/
def itB (f : Int32 → Int32) : Nat → Int32 → Int32
  | 0, v => v
  | n + 1, v => if v < 0 then v else itB f n (f v)
theorem itB_neg (f : Int32 → Int32) {v : Int32} (h : v < 0) : ∀ n, itB f n v = v
  | 0 => rfl
  | n + 1 => by unfold itB; rw [if_pos h]
theorem c_ba {t : xT} {p N : Nat} {f : Int32 → Int32} (hb : isBk (tK t p)) (hf : ∀ x, F_X0_becomes t p x = some (f x)) (hN : N < 1000) : ∀ m i v n, i + m = N → m < n → F_X11_behindAll_l5 n t p (nI N) v (nI i) = some (itB f m v)
  | _, _, _, 0, _, h => absurd h (Nat.not_lt_zero _)
  | 0, i, v, n + 1, hi, _ => by
    unfold F_X11_behindAll_l5 F_X11_behindAll_j27
    rw [if_pos (nI_le (by omega) (by omega))]; rfl
  | m + 1, i, v, n + 1, hi, hm => by
    unfold F_X11_behindAll_l5 F_X11_behindAll_j27 itB
    rw [if_neg (nI_ge (by omega) (by omega)), if_pos hb, hf, Option.bind_some]
    by_cases c : v < 0
    · rw [if_pos c, if_pos c]
    · rw [if_neg c, if_neg c]
      show F_X11_behindAll_l5 n t p (nI N) (f v) (nI i + 1) = _
      rw [nI_1]
      exact c_ba hb hf hN m (i + 1) (f v) n (by omega) (by omega)
theorem c_bA {t : xT} {p N : Nat} {f : Int32 → Int32} (hb : isBk (tK t p)) (hf : ∀ x, F_X0_becomes t p x = some (f x)) (hN : N < 1000) (v : Int32) : F_X11_behindAll t p v (nI N) = some (itB f N v) := c_ba hb hf hN N 0 v xFuel (by omega) (xF_big (by omega))
theorem c_la2 {t : xT} {p N : Nat} {f : Int32 → Int32} (hb : isBk (tK t p)) (hf : ∀ x, F_X0_leastAhead t p x = some (f x)) (hN : N < 1000) : ∀ m i v n, i + m = N → m < n → F_X11_leastAheadAll_l5 n t p (nI N) v (nI i) = some (itB f m v)
  | _, _, _, 0, _, h => absurd h (Nat.not_lt_zero _)
  | 0, i, v, n + 1, hi, _ => by
    unfold F_X11_leastAheadAll_l5 F_X11_leastAheadAll_j27
    rw [if_pos (nI_le (by omega) (by omega))]; rfl
  | m + 1, i, v, n + 1, hi, hm => by
    unfold F_X11_leastAheadAll_l5 F_X11_leastAheadAll_j27 itB
    rw [if_neg (nI_ge (by omega) (by omega)), if_pos hb, hf, Option.bind_some]
    by_cases c : v < 0
    · rw [if_pos c, if_pos c]
    · rw [if_neg c, if_neg c]
      show F_X11_leastAheadAll_l5 n t p (nI N) (f v) (nI i + 1) = _
      rw [nI_1]
      exact c_la2 hb hf hN m (i + 1) (f v) n (by omega) (by omega)
theorem c_lA {t : xT} {p N : Nat} {f : Int32 → Int32} (hb : isBk (tK t p)) (hf : ∀ x, F_X0_leastAhead t p x = some (f x)) (hN : N < 1000) (v : Int32) : F_X11_leastAheadAll t p v (nI N) = some (itB f N v) := c_la2 hb hf hN N 0 v xFuel (by omega) (xF_big (by omega))
theorem r_am {u : xS} {k N : Nat} {s : Nat → Int32} {f : Int32 → Int32} (hu : u.2.1 0 = s) (hk : k < 9) (hf : ∀ x : Int32, ¬ x < 0 → F_X12_made (s (5 + 4 * k)) x.toInt64 (u.1 5) (u.1 6) = some (f x)) (hN : N < 1000) : ∀ m i v n, i + m = N → m < n → F_X12_afterMany_l26 n u (nI k) (nI N) v (nI i) = some (itB f m v, u)
  | _, _, _, 0, _, h => absurd h (Nat.not_lt_zero _)
  | 0, i, v, n + 1, hi, _ => by
    unfold F_X12_afterMany_l26 F_X12_afterMany_j65
    rw [if_pos (nI_le (by omega) (by omega))]; rfl
  | m + 1, i, v, n + 1, hi, hm => by
    have e0 := n_its u (k := k) (w := 0) (by omega)
    change F_X12_its _ (nI k) 0 = some (u.2.1 0 (5 + 4 * k)) at e0
    rw [hu] at e0
    unfold F_X12_afterMany_l26 F_X12_afterMany_j65 itB
    rw [if_neg (nI_ge (by omega) (by omega)), e0, Option.bind_some]
    by_cases c : v < 0
    · rw [if_pos c, if_pos c]
    · rw [if_neg c, if_neg c, hf v c, Option.bind_some]
      show F_X12_afterMany_l26 n u (nI k) (nI N) (f v) (nI i + 1) = _
      rw [nI_1]
      exact r_am hu hk hf hN m (i + 1) (f v) n (by omega) (by omega)
theorem r_aM {u : xS} {k N : Nat} {s : Nat → Int32} {ls : yLS} {v : Int32} (hu : u.2.1 0 = s) (hI : Iv s) (hL : LwS ls s) (hk : k < nB s) (hN : N < 1000) (hv : ¬ v < 0) : ∃ g, F_X12_afterMany u (nI k) v (nI N) = some (itB (gS ls s k) N v, sc u g (tmS ls s k) (tlS ls s k) (opS ls s k)) := by
  have h9 : nB s ≤ 9 := hI.1.1
  obtain ⟨g, ha⟩ := r_asks (ls := ls) hu hI hL (show k < 9 by omega)
  have hm := tm_rng (ls := ls) hI hk
  have hl := tl_rng hI hL hk
  have hkd := (hI.2.2.2.2.2.1 k hk).1
  refine ⟨g, ?_⟩
  unfold F_X12_afterMany F_X12_afterMany_j16 F_X12_afterMany_j21
  rw [ha, Option.bind_some]
  show (if opS ls s k = 0 then _ else _) = _
  by_cases c : opS ls s k = 0
  · rw [if_pos c]
    match N, hN with
    | 0, _ =>
      rw [if_pos (show nI 0 = 0 from rfl)]
      unfold xFuel
      unfold F_X12_afterMany_l26 F_X12_afterMany_j65
      rw [if_pos (by decide)]; rfl
    | N + 1, hN =>
      rw [if_neg (nI_ne0 (by omega) (by omega))]
      have e : itB (gS ls s k) (N + 1) v = -1 := by
        unfold itB
        rw [if_neg hv]
        have : gS ls s k v = -1 := by unfold gS gB; rw [c]; exact gI_0 _ _ _ _
        rw [this]; exact itB_neg _ (by decide) N
      rw [e]
      unfold xFuel
      unfold F_X12_afterMany_l26 F_X12_afterMany_j65
      rw [if_neg (show ¬ nI (N + 1) ≤ 0 from nI_nle (by omega) (by omega)), if_pos (by decide)]
  · rw [if_neg c]
    refine r_am (u := sc u g (tmS ls s k) (tlS ls s k) (opS ls s k)) (s := s) (f := gS ls s k) hu (show k < 9 by omega) (fun x hx => ?_) hN N 0 v xFuel (by omega) (xF_big (by omega))
    show F_X12_made _ x.toInt64 (tmS ls s k) (tlS ls s k) = _
    unfold Ri at *
    rw [r_made hkd c hm.1 (by omega) hl.1 (by omega) (by rw [Int32.toInt_toInt64]; exact (fb_rng x).1) (by rw [Int32.toInt_toInt64]; exact (fb_rng x).2), Int32.toInt_toInt64]; rfl
