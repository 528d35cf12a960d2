/-! ===== pure mathematics 7: the reference's asks, becomes, afterMany ===== -/
def sc (u : xS) (g : Nat → Int32) (x y z : Int32) : xS := (fun j => if j = 7 then z else if j = 6 then y else if j = 5 then x else u.1 j, fun j => if j = 4 then g else u.2.1 j, u.2.2)
theorem sc_Cr (u : xS) (g : Nat → Int32) (x y z : Int32) : Cr (sc u g x y z) = Cr u := rfl
theorem sc_of (u : xS) (g : Nat → Int32) (x y z : Int32) : mS (mS (mS (mG u g) 5 x) 6 y) 7 z = sc u g x y z := rfl
theorem sc_of2 (u : xS) (g : Nat → Int32) (x y y2 z : Int32) : mS (mS (mS (mS (mG u g) 5 x) 6 y2) 6 y) 7 z = sc u g x y z := by
  unfold sc mS mG
  congr 1
  funext j
  by_cases h7 : j = 7
  · simp [h7]
  · by_cases h6 : j = 6
    · simp [h6]
    · simp [h7, h6]
theorem mS_s (u : xS) (j : Nat) (v : Int32) : (mS u j v).1 j = v := by unfold mS; simp
theorem mG_0 (u : xS) (g : Nat → Int32) : (mG u g).2.1 0 = u.2.1 0 := rfl
theorem r_ends {u : xS} {g : Nat → Int32} {k : Nat} {s : Nat → Int32} {ls : yLS} {fs cs : Nat → Nat} {T : Nat → Nat → Int32} (hu : u.2.1 0 = s) (hk : k < 9) (hn : nC s ≤ 8) (hW : LwK T ls s (nC s) fs cs) {ft : Int32} (hft : ft = bI (s 3 = s (5 + 4 * k + 3))) : F_X12_asks_j122 (mG u g) (nI k) (s (5 + 4 * k)) ft (match clS ls s k with | none => -1 | some j => nI (71 + 4 * j)) = some (sc u g (tmS ls s k) (tlS ls s k) (opS ls s k)) := by
  have its : ∀ (v : xS) w, w < 4 → v.2.1 0 = s → F_X12_its v (nI k) (nI w) = some (s (5 + 4 * k + w)) := fun v w hw hv => by rw [n_its v (by omega), hv]
  have j241 : ∀ y y2, y = tlS ls s k → F_X12_asks_j241 (mS (mS (mG u g) 5 (tmS ls s k)) 6 y2) (ddS ls s k) y = some (sc u g (tmS ls s k) (tlS ls s k) (opS ls s k)) := by
    intro y y2 hy
    unfold F_X12_asks_j241 opS
    show (if ddS ls s k = 3 then F_X12_asks_j256 (mS (mS (mS (mG u g) 5 (tmS ls s k)) 6 y2) 6 y) 0 else F_X12_asks_j256 (mS (mS (mS (mG u g) 5 (tmS ls s k)) 6 y2) 6 y) 1) = _
    rw [← hy]
    by_cases c : ddS ls s k = 3
    · rw [if_pos c, if_pos c, ← sc_of2 u g _ _ y2]; rfl
    · rw [if_neg c, if_neg c, ← sc_of2 u g _ _ y2]; rfl
  have j215 : ∀ y, y = tbS ls s k → F_X12_asks_j215 (mS (mG u g) 5 (tmS ls s k)) (s (5 + 4 * k)) ft (ddS ls s k) y = some (sc u g (tmS ls s k) (tlS ls s k) (opS ls s k)) := by
    intro y hy
    unfold F_X12_asks_j215 F_X12_asks_j237
    show (if s (5 + 4 * k) = 5 then if ft = 0 then F_X12_asks_j241 (mS (mS (mG u g) 5 (tmS ls s k)) 6 y) (ddS ls s k) ((mS (mS (mG u g) 5 (tmS ls s k)) 6 y).1 6) else F_X12_asks_j241 (mS (mS (mG u g) 5 (tmS ls s k)) 6 y) (ddS ls s k) ((mS (mS (mG u g) 5 (tmS ls s k)) 6 y).1 6 / (2 : Int32)) else F_X12_asks_j241 (mS (mS (mG u g) 5 (tmS ls s k)) 6 y) (ddS ls s k) ((mS (mS (mG u g) 5 (tmS ls s k)) 6 y).1 6)) = _
    rw [mS_s]
    by_cases c5 : s (5 + 4 * k) = 5
    · rw [if_pos c5]
      by_cases cf : s 3 = s (5 + 4 * k + 3)
      · rw [hft, bI_t cf, if_neg (by decide)]
        exact j241 _ _ (by unfold tlS; rw [if_pos ⟨c5, cf⟩, hy])
      · rw [hft, bI_f cf, if_pos rfl]
        exact j241 _ _ (by unfold tlS; rw [if_neg (fun h => cf h.2), hy])
    · rw [if_neg c5]
      exact j241 _ _ (by unfold tlS; rw [if_neg (fun h => c5 h.1), hy])
  have mm0 : ddS ls s k ≠ 1 → mmS ls s k = 0 := by
    unfold ddS mmS
    cases hc : clS ls s k with
    | none => intro _; rfl
    | some j =>
      have hj := clF_lt ls s k _ _ j hc
      exact (hW.2.2 j (by omega)).2.2.1
  have j175 : ∀ x y, x + y = tmS ls s k → F_X12_asks_j175 (mG u g) (nI k) (s (5 + 4 * k)) ft (match clS ls s k with | none => -1 | some j => nI (71 + 4 * j)) (ddS ls s k) x y = some (sc u g (tmS ls s k) (tlS ls s k) (opS ls s k)) := by
    intro x y hxy
    unfold F_X12_asks_j175 F_X12_asks_j214
    rw [hxy]
    show (if ddS ls s k = 0 then F_X12_asks_j215 (mS (mG u g) 5 (tmS ls s k)) (s (5 + 4 * k)) ft (ddS ls s k) 0 else (F_X12_its (mS (mG u g) 5 (tmS ls s k)) (nI k) 2).bind _) = _
    by_cases c0 : ddS ls s k = 0
    · rw [if_pos c0]; exact j215 _ (by unfold tbS; rw [if_pos c0])
    · rw [if_neg c0]
      have e2 := its (mS (mG u g) 5 (tmS ls s k)) 2 (by decide) hu
      change F_X12_its _ _ 2 = _ at e2
      rw [e2, Option.bind_some]
      by_cases c1 : ddS ls s k = 1
      · rw [if_pos c1]
        have : ∃ j, clS ls s k = some j ∧ j < 8 := by
          cases hc : clS ls s k with
          | none => unfold ddS at c1; rw [hc] at c1; exact absurd (show (-1 : Int32) = 1 from c1) (by decide)
          | some j => exact ⟨j, rfl, by have := clF_lt ls s k _ _ j hc; omega⟩
        obtain ⟨j, hj, hj8⟩ := this
        rw [hj]
        show (if xIn (nI (71 + 4 * j) + nI 2) 303 then _ else none) = _
        have e : nI (71 + 4 * j) + (2 : Int32) = nI (73 + 4 * j) := by
          have := nI_add (71 + 4 * j) 2
          rw [show 71 + 4 * j + 2 = 73 + 4 * j by omega] at this
          exact this
        show (if xIn (nI (71 + 4 * j) + (2 : Int32)) 303 then F_X12_asks_j215 (mS (mG u g) 5 (tmS ls s k)) (s (5 + 4 * k)) ft (ddS ls s k) (s (5 + 4 * k + 2) + (u.2.1 0 (nI (71 + 4 * j) + (2 : Int32)).toNatClampNeg)) else none) = _
        rw [e, if_pos (n_xIn (by omega) (by decide)), n_cl (by omega), hu]
        exact j215 _ (by unfold tbS mmS; rw [if_neg c0, hj])
      · rw [if_neg c1]
        exact j215 _ (by unfold tbS; rw [if_neg c0, mm0 c1])
  have j140 : F_X12_asks_j140 (mG u g) (nI k) (s (5 + 4 * k)) ft (match clS ls s k with | none => -1 | some j => nI (71 + 4 * j)) (ddS ls s k) = some (sc u g (tmS ls s k) (tlS ls s k) (opS ls s k)) := by
    unfold F_X12_asks_j140
    have e1 := its (mG u g) 1 (by decide) hu
    change F_X12_its _ _ 1 = _ at e1
    rw [e1, Option.bind_some]
    have j160 : ∀ d, d = (if ddS ls s k = 2 then 1 else 0) → F_X12_asks_j160 (mG u g) (nI k) (s (5 + 4 * k)) ft (match clS ls s k with | none => -1 | some j => nI (71 + 4 * j)) (ddS ls s k) (s (5 + 4 * k + 1)) d = some (sc u g (tmS ls s k) (tlS ls s k) (opS ls s k)) := by
      intro d hd
      unfold F_X12_asks_j160 F_X12_asks_j174
      by_cases c3 : s (5 + 4 * k) = 3
      · rw [if_pos c3]
        by_cases cf : s 3 = s (5 + 4 * k + 3)
        · have hf1 : ¬ ft = 0 := by rw [hft, bI_t cf]; decide
          rw [if_neg hf1]
          refine j175 (s (5 + 4 * k + 1) + d) 1 ?_
          unfold tmS
          rw [if_pos (show s (5 + 4 * k) = 3 ∧ s 3 = s (5 + 4 * k + 3) from ⟨c3, cf⟩), hd]
        · have hf0 : ft = 0 := by rw [hft, bI_f cf]
          rw [if_pos hf0]
          refine j175 (s (5 + 4 * k + 1) + d) 0 ?_
          unfold tmS
          rw [if_neg (show ¬ (s (5 + 4 * k) = 3 ∧ s 3 = s (5 + 4 * k + 3)) from fun h => cf h.2), hd]
      · rw [if_neg c3]
        refine j175 (s (5 + 4 * k + 1) + d) 0 ?_
        unfold tmS
        rw [if_neg (show ¬ (s (5 + 4 * k) = 3 ∧ s 3 = s (5 + 4 * k + 3)) from fun h => c3 h.1), hd]
    by_cases c2 : ddS ls s k = 2
    · rw [if_pos c2]; exact j160 _ (by rw [if_pos c2])
    · rw [if_neg c2]; exact j160 _ (by rw [if_neg c2])
  unfold F_X12_asks_j122
  cases hc : clS ls s k with
  | none =>
    have : ddS ls s k = -1 := by unfold ddS; rw [hc]
    rw [hc, this] at j140
    exact j140
  | some j =>
    have hj := clF_lt ls s k _ _ j hc
    have e : nI (71 + 4 * j) + (1 : Int32) = nI (72 + 4 * j) := by rw [nI_1, show 71 + 4 * j + 1 = 72 + 4 * j by omega]
    have : ddS ls s k = s (72 + 4 * j) := by unfold ddS; rw [hc]
    rw [hc, this] at j140
    show (if 0 ≤ nI (71 + 4 * j) then if xIn (nI (71 + 4 * j) + (1 : Int32)) 303 then F_X12_asks_j140 (mG u g) (nI k) (s (5 + 4 * k)) ft (nI (71 + 4 * j)) (u.2.1 0 (nI (71 + 4 * j) + (1 : Int32)).toNatClampNeg) else none else _) = _
    rw [if_pos (nI_pos' (by omega)), e, if_pos (n_xIn (by omega) (by decide)), n_cl (by omega), hu]
    exact j140
theorem mG_mG (u : xS) (g h : Nat → Int32) : mG (mG u g) h = mG u h := by
  unfold mG
  congr 1
  congr 1
  funext j
  by_cases c : j = 4
  · simp [c]
  · simp [c]
theorem r_loop {u0 : xS} {k : Nat} {s : Nat → Int32} {ls : yLS} {fs cs : Nat → Nat} {T : Nat → Nat → Int32} {ft : Int32} (hk : k < 9) (hn : nC s ≤ 8) (hs : s 4 = nI (nC s)) (hW : LwK T ls s (nC s) fs cs) (h0 : u0.2.1 0 = s) : ∀ m i n g, i + m = nC s → m + 1 < n → ∃ g', F_X12_asks_l37 n (mG u0 g) (nI k) (s (5 + 4 * k)) ft (-1) (nI (cs i)) (nI i) = F_X12_asks_j122 (mG u0 g') (nI k) (s (5 + 4 * k)) ft (match clF ls s k m i with | none => -1 | some j => nI (71 + 4 * j))
  | m, i, 0, _, _, hm => absurd hm (Nat.not_lt_zero _)
  | 0, i, n + 1, g, hi, _ => by
    refine ⟨g, ?_⟩
    conv => lhs; unfold F_X12_asks_l37
    show (if xIn (4 : Int32) 303 then if (u0.2.1 0 4) ≤ nI i then _ else _ else _) = _
    rw [if_pos (by decide), h0, hs, if_pos (nI_le (by omega) (by omega))]; rfl
  | m + 1, i, n + 1, g, hi, hm => by
    obtain ⟨⟨w1, w2, w3, w4, w5, w6⟩, _, _, f1, f2, c1, c2, hst, hcd, hok⟩ := hW.2.2 i (by omega)
    have e71 : (71 : Int32) + ((4 : Int32) * nI i) = nI (71 + 4 * i) := by
      show nI 71 + nI 4 * nI i = _
      rw [pk_mul, nI_add]
    have e0 : nI (71 + 4 * i) + (0 : Int32) = nI (71 + 4 * i) := nI_add (71 + 4 * i) 0
    have e3 : nI (71 + 4 * i) + (3 : Int32) = nI (74 + 4 * i) := by
      have := nI_add (71 + 4 * i) 3
      rw [show 71 + 4 * i + 3 = 74 + 4 * i by omega] at this
      exact this
    have hh : ∀ g, ∃ g', F_X12_holds (mG u0 g) (nI (cs i)) (nI (cs (i + 1))) (nI k) = some (bB (hold ls s k i), mG u0 g') := by
      intro g
      have hlen : (encL (ls i)).length ≤ 200 := by omega
      obtain ⟨g', h⟩ := r_holds s k (cs (i + 1)) (by omega) c2 (ls i) [] (mG u0 g) (cs i) xFuel h0 (by rcases hok with h | h; exact Or.inr ⟨h, rfl⟩; exact Or.inl h) hcd c1.symm (xF_big (by omega)) trivial
      refine ⟨g', ?_⟩
      unfold F_X12_holds
      rw [mG_mG] at h
      exact h
    have cl3 : (nI (74 + 4 * i)).toNatClampNeg = 74 + 4 * i := n_cl (by omega)
    have cl1 : (nI (71 + 4 * i)).toNatClampNeg = 71 + 4 * i := n_cl (by omega)
    have s74 : s (nI (74 + 4 * i)).toNatClampNeg = nI (cs (i + 1)) := by rw [cl3]; exact w6
    have step : F_X12_asks_l37 (n + 1) (mG u0 g) (nI k) (s (5 + 4 * k)) ft (-1) (nI (cs i)) (nI i) = if bB (un (s (5 + 4 * k)) (s (71 + 4 * i))) = 0 then F_X12_asks_l37 n (mG u0 g) (nI k) (s (5 + 4 * k)) ft (-1) (nI (cs (i + 1))) (nI (i + 1)) else (F_X12_holds (mG u0 g) (nI (cs i)) (nI (cs (i + 1))) (nI k)).bind (fun r34 => if r34.1 = 0 then F_X12_asks_j102 (F_X12_asks_l37 n) r34.2 (nI k) (s (5 + 4 * k)) ft (nI i) (nI (71 + 4 * i)) else F_X12_asks_j103 (F_X12_asks_l37 n) r34.2 (nI k) (s (5 + 4 * k)) ft (nI i) (nI (71 + 4 * i)) (nI (71 + 4 * i))) := by
      conv => lhs; unfold F_X12_asks_l37
      show (if xIn (4 : Int32) 303 then if (u0.2.1 0 4) ≤ nI i then _ else if 0 ≤ (-1 : Int32) then _ else _ else _) = _
      rw [if_pos (by decide), h0, hs, if_neg (nI_ge (by omega) (by omega)), if_neg (by decide), e71]
      simp only [xlet]
      rw [e0, if_pos (n_xIn (by omega) (by decide)), e3, if_pos (n_xIn (by omega) (by decide))]
      show (F_X12_isUnder (s (5 + 4 * k)) (u0.2.1 0 (nI (71 + 4 * i)).toNatClampNeg)).bind _ = _
      rw [h0, cl1, un_r, Option.bind_some]
      unfold F_X12_asks_j102 F_X12_asks_j103
      rw [e3, if_pos (n_xIn (by omega) (by decide))]
      show (if _ = 0 then xlet (u0.2.1 0 (nI (74 + 4 * i)).toNatClampNeg) _ else (F_X12_holds (mG u0 g) (nI (cs i)) (u0.2.1 0 (nI (74 + 4 * i)).toNatClampNeg) _).bind _) = _
      rw [h0, s74]
      simp only [xlet, nI_1]
    have j103 : ∀ g' v, F_X12_asks_j103 (F_X12_asks_l37 n) (mG u0 g') (nI k) (s (5 + 4 * k)) ft (nI i) (nI (71 + 4 * i)) v = F_X12_asks_l37 n (mG u0 g') (nI k) (s (5 + 4 * k)) ft v (nI (cs (i + 1))) (nI (i + 1)) := by
      intro g' v
      unfold F_X12_asks_j103
      rw [e3, if_pos (n_xIn (by omega) (by decide))]
      show xlet (u0.2.1 0 (nI (74 + 4 * i)).toNatClampNeg) _ = _
      rw [h0, s74, nI_1]; rfl
    rw [step]
    by_cases cu : un (s (5 + 4 * k)) (s (71 + 4 * i)) = false
    · rw [if_pos ((bB_0 _).mpr cu)]
      obtain ⟨g', ih⟩ := r_loop hk hn hs hW h0 m (i + 1) n g (by omega) (by omega)
      refine ⟨g', ?_⟩
      rw [ih]
      conv => rhs; unfold clF
      rw [if_neg (by rw [cu]; intro h; cases h.1)]
    · rw [if_neg (fun h => cu ((bB_0 _).mp h))]
      obtain ⟨g1, hg1⟩ := hh g
      rw [hg1, Option.bind_some]
      by_cases ch : hold ls s k i = false
      · rw [if_pos ((bB_0 _).mpr ch)]
        unfold F_X12_asks_j102
        rw [j103]
        obtain ⟨g', ih⟩ := r_loop hk hn hs hW h0 m (i + 1) n g1 (by omega) (by omega)
        refine ⟨g', ?_⟩
        rw [ih]
        conv => rhs; unfold clF
        rw [if_neg (by rw [ch]; intro h; cases h.2)]
      · rw [if_neg (fun h => ch ((bB_0 _).mp h)), j103]
        refine ⟨g1, ?_⟩
        conv => rhs; unfold clF
        rw [if_pos ⟨by simpa using cu, by simpa using ch⟩]
        obtain ⟨n, rfl⟩ : ∃ n', n = n' + 1 := ⟨n - 1, by omega⟩
        conv => lhs; unfold F_X12_asks_l37
        show (if xIn (4 : Int32) 303 then if (u0.2.1 0 4) ≤ nI (i + 1) then _ else if 0 ≤ nI (71 + 4 * i) then _ else _ else _) = _
        rw [if_pos (by decide)]
        by_cases c : u0.2.1 0 4 ≤ nI (i + 1)
        · rw [if_pos c]
        · rw [if_neg c, if_pos (nI_pos' (by omega))]
/-- a law's content, whatever holds it on the class's side -/
def LwS (ls : yLS) (s : Nat → Int32) : Prop := ∃ T fs cs, LwK T ls s (nC s) fs cs
theorem LawC.S {t : xT} {a r L : Nat} {ls : yLS} {s : Nat → Int32} (h : LawC t a r L ls s) : LwS ls s := by
  obtain ⟨-, -, -, fs, cs, hW⟩ := h
  exact ⟨_, fs, cs, hW⟩
theorem r_asks {u : xS} {k : Nat} {s : Nat → Int32} {ls : yLS} (hu : u.2.1 0 = s) (hI : Iv s) (hL : LwS ls s) (hk : k < 9) : ∃ g, F_X12_asks u (nI k) = some (sc u g (tmS ls s k) (tlS ls s k) (opS ls s k)) := by
  obtain ⟨T, fs, cs, hW⟩ := hL
  obtain ⟨-, -, -, ⟨hn, hs⟩, -⟩ := hI
  have e0 := n_its u (k := k) (w := 0) (by omega)
  have e3 := n_its u (k := k) (w := 3) (by omega)
  change F_X12_its u (nI k) 0 = _ at e0
  change F_X12_its u (nI k) 3 = _ at e3
  have hc0 : nI (cs 0) = 0 := by rw [hW.2.1]; rfl
  have go : ∀ ft, ft = bI (s 3 = s (5 + 4 * k + 3)) → ∃ g, F_X12_asks_j27 u (nI k) (s (5 + 4 * k)) ft = some (sc u g (tmS ls s k) (tlS ls s k) (opS ls s k)) := by
    intro ft hft
    obtain ⟨g', h⟩ := r_loop (u0 := u) (ft := ft) hk hn hs hW hu (nC s) 0 xFuel (u.2.1 4) (by omega) (xF_big (by omega))
    rw [mG_self, hc0] at h
    refine ⟨g', ?_⟩
    unfold F_X12_asks_j27
    exact h.trans (r_ends hu hk hn hW hft)
  unfold F_X12_asks
  rw [e0, Option.bind_some, if_pos (by decide), e3, Option.bind_some]
  show ∃ g, (if u.2.1 0 3 = _ then _ else _) = _
  rw [hu]
  by_cases c : s 3 = s (5 + 4 * k + 3)
  · rw [if_pos c]; exact go 1 (bI_t c).symm
  · rw [if_neg c]; exact go 0 (bI_f c).symm
