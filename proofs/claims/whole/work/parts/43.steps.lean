/-! ===== pure mathematics 22: any bridges, again and again: fast, by ===== -/
def mxF (f : Nat → Int32 → Int32) (x : Int32) : Nat → Nat → Int32 → Int32
  | 0, _, y => y
  | m + 1, i, y => mxF f x m (i + 1) (if y < f i x then f i x else y)
def lsr (x y : Int32) : Int32 := if x < 0 then (if x < y then y else x) else if 0 ≤ y then (if y < x then y else x) else (if x < y then y else x)
def mnF (l : Nat → Int32 → Int32) (g : Int32) : Nat → Nat → Int32 → Int32
  | 0, _, z => z
  | m + 1, i, z => mnF l g m (i + 1) (lsr z (l i g))
def sF (f : Nat → Int32 → Int32) (N : Nat) (x : Int32) : Int32 := mxF f x N 0 (-1)
def lF (l : Nat → Int32 → Int32) (N : Nat) (g : Int32) : Int32 := mnF l g N 0 (-1)
theorem mx_I (x y : Int32) : (if x < y then y else x).toInt = if x.toInt < y.toInt then y.toInt else x.toInt := by
  by_cases c : x < y
  · rw [if_pos c, if_pos (by rw [fa_lt] at c; exact c)]
  · rw [if_neg c, if_neg (by rw [fa_lt] at c; exact c)]
theorem lsr_I (x y : Int32) : (lsr x y).toInt = if x.toInt < 0 ∨ y.toInt < 0 then (if x.toInt < y.toInt then y.toInt else x.toInt) else if y.toInt < x.toInt then y.toInt else x.toInt := by
  unfold lsr
  by_cases c : x < 0
  · rw [if_pos c, mx_I]
    rw [lt0] at c
    rw [if_pos (show x.toInt < 0 ∨ y.toInt < 0 from Or.inl c)]
  · rw [if_neg c]
    rw [lt0] at c
    by_cases d : 0 ≤ y
    · rw [if_pos d]
      rw [n_le0] at d
      rw [if_neg (show ¬ (x.toInt < 0 ∨ y.toInt < 0) by omega)]
      by_cases e : y < x
      · rw [if_pos e]
        rw [fa_lt] at e
        rw [if_pos e]
      · rw [if_neg e]
        rw [fa_lt] at e
        rw [if_neg e]
    · rw [if_neg d, mx_I]
      rw [n_le0] at d
      rw [if_pos (show x.toInt < 0 ∨ y.toInt < 0 by omega)]
theorem mxF_Rg {f : Nat → Int32 → Int32} {x : Int32} {N : Nat} (h : ∀ i, i < N → Rg (f i x)) : ∀ m i y, i + m ≤ N → Rg y → Rg (mxF f x m i y)
  | 0, _, y, _, hy => hy
  | m + 1, i, y, hi, hy => by
    refine mxF_Rg h m (i + 1) _ (by omega) ?_
    have := h i (by omega)
    by_cases c : y < f i x
    · rw [if_pos c]; exact this
    · rw [if_neg c]; exact hy
theorem mnF_Rg {l : Nat → Int32 → Int32} {g : Int32} {N : Nat} (h : ∀ i, i < N → Rg (l i g)) : ∀ m i z, i + m ≤ N → Rg z → Rg (mnF l g m i z)
  | 0, _, z, _, hz => hz
  | m + 1, i, z, hi, hz => by
    refine mnF_Rg h m (i + 1) _ (by omega) ?_
    have h1 := h i (by omega)
    unfold Rg at *
    rw [lsr_I]
    by_cases c : z.toInt < 0 ∨ (l i g).toInt < 0
    · rw [if_pos c]; by_cases d : z.toInt < (l i g).toInt
      · rw [if_pos d]; exact h1
      · rw [if_neg d]; exact hz
    · rw [if_neg c]; by_cases d : (l i g).toInt < z.toInt
      · rw [if_pos d]; exact h1
      · rw [if_neg d]; exact hz
theorem mxF_neg {f : Nat → Int32 → Int32} {x : Int32} {N : Nat} (h : ∀ i, i < N → (f i x).toInt < 0) : ∀ m i y, i + m ≤ N → y.toInt < 0 → (mxF f x m i y).toInt < 0
  | 0, _, y, _, hy => hy
  | m + 1, i, y, hi, hy => by
    refine mxF_neg h m (i + 1) _ (by omega) ?_
    have := h i (by omega)
    by_cases c : y < f i x
    · rw [if_pos c]; exact this
    · rw [if_neg c]; exact hy
theorem mxF_mem (f : Nat → Int32 → Int32) (x : Int32) : ∀ m i y, mxF f x m i y = y ∨ ∃ b, i ≤ b ∧ b < i + m ∧ mxF f x m i y = f b x
  | 0, _, _ => Or.inl rfl
  | m + 1, i, y => by
    show mxF f x m (i + 1) (if y < f i x then f i x else y) = y ∨ ∃ b, _ ∧ _ ∧ mxF f x m (i + 1) (if y < f i x then f i x else y) = f b x
    rcases mxF_mem f x m (i + 1) (if y < f i x then f i x else y) with h | ⟨b, h1, h2, h3⟩
    · by_cases c : y < f i x
      · right; refine ⟨i, by omega, by omega, ?_⟩; rw [h, if_pos c]
      · left; rw [h, if_neg c]
    · right; exact ⟨b, by omega, by omega, h3⟩
theorem gal_fold {f l : Nat → Int32 → Int32} {N : Nat} {p g : Int32} (hG : ∀ i, i < N → Gal (f i) (l i)) (hp : Pu p) (hg : Pu g) : ∀ m i y z, i + m ≤ N → Rg y → Rg z → (g.toInt ≤ y.toInt ↔ 0 ≤ z.toInt ∧ z.toInt ≤ p.toInt) → (g.toInt ≤ (mxF f p m i y).toInt ↔ 0 ≤ (mnF l g m i z).toInt ∧ (mnF l g m i z).toInt ≤ p.toInt)
  | 0, _, _, _, _, _, _, h => h
  | m + 1, i, y, z, hi, hy, hz, h => by
    have G := hG i (by omega)
    have h1 := G.1 p
    have h2 := G.2.1 g
    have h3 := G.2.2.2 p g hp hg
    refine gal_fold hG hp hg m (i + 1) _ _ (by omega) ?_ ?_ ?_
    · by_cases c : y < f i p
      · rw [if_pos c]; exact h1
      · rw [if_neg c]; exact hy
    · unfold Rg at *
      rw [lsr_I]
      by_cases c : z.toInt < 0 ∨ (l i g).toInt < 0
      · rw [if_pos c]; by_cases d : z.toInt < (l i g).toInt
        · rw [if_pos d]; exact h2
        · rw [if_neg d]; exact hz
      · rw [if_neg c]; by_cases d : (l i g).toInt < z.toInt
        · rw [if_pos d]; exact h2
        · rw [if_neg d]; exact hz
    · rw [mx_I, lsr_I]
      unfold Rg at *
      have := hp.1
      by_cases c : z.toInt < 0 ∨ (l i g).toInt < 0
      · rw [if_pos c]
        by_cases d : z.toInt < (l i g).toInt
        · rw [if_pos d]
          by_cases e : y.toInt < (f i p).toInt
          · rw [if_pos e]; omega
          · rw [if_neg e]; omega
        · rw [if_neg d]
          by_cases e : y.toInt < (f i p).toInt
          · rw [if_pos e]; omega
          · rw [if_neg e]; omega
      · rw [if_neg c]
        by_cases d : (l i g).toInt < z.toInt
        · rw [if_pos d]
          by_cases e : y.toInt < (f i p).toInt
          · rw [if_pos e]; omega
          · rw [if_neg e]; omega
        · rw [if_neg d]
          by_cases e : y.toInt < (f i p).toInt
          · rw [if_pos e]; omega
          · rw [if_neg e]; omega
theorem Rg.m1 : Rg (-1) := ⟨by decide, by decide⟩
theorem gal_sF {f l : Nat → Int32 → Int32} {N : Nat} (hG : ∀ i, i < N → Gal (f i) (l i)) : Gal (sF f N) (lF l N) := by
  refine ⟨fun x => mxF_Rg (N := N) (fun i hi => (hG i hi).1 x) N 0 _ (by omega) Rg.m1, fun x => mnF_Rg (N := N) (fun i hi => (hG i hi).2.1 x) N 0 _ (by omega) Rg.m1, fun x hx => mxF_neg (N := N) (fun i hi => (hG i hi).2.2.1 x hx) N 0 _ (by omega) (by decide), fun p g hp hg => ?_⟩
  refine gal_fold hG hp hg N 0 _ _ (by omega) Rg.m1 Rg.m1 ?_
  have := hg.1
  show g.toInt ≤ -1 ↔ 0 ≤ (-1 : Int) ∧ _
  omega
/-! the class's -/
theorem c_bO {t : xT} {a : Nat} {s : Nat → Int32} {ls : yLS} {B : Nat → Nat} (hS : SkC t a) (hI : Iv s) (hR1 : tI t (a + 1) 1 = s 0) (hL : LwS ls s) (hB : BgC t a (a + 1) B s) (hSt : StC t B ls s) {b : Nat} (hb : b < nB s) (x : Int32) : F_X11_behindOf t a (nI b) x = some (gS ls s b x) ∧ F_X11_leastAheadOf t a (nI b) x = some (lS ls s b x) := by
  have g := hB b hb
  have hbk : isBk (tK t (B b)) := by rw [g.2.2.2.1]; exact kK_bk _
  have by1 := ba_yes hS.2.2.2.2.2.2.2.2.2.2.2.2.1 (hR1.trans hI.1.2) hI.1.1 hb g.1
  have c1 := c_bS (x := x) hI hL g.2.2.2 hSt hb
  have c2 := c_lS (x := x) hI hL g.2.2.2 hSt hb
  exact ⟨by simp only [F_X11_behindOf, F_X11_behindOf_j22, hS.1, hS.2.1, if_true, Option.bind_some, hS.2.2.2.2.2.2.2.2.2.2.2.2.1.1, by1, xopt, if_pos hbk, c1], by simp only [F_X11_leastAheadOf, F_X11_leastAheadOf_j22, hS.1, hS.2.1, if_true, Option.bind_some, hS.2.2.2.2.2.2.2.2.2.2.2.2.1.1, by1, xopt, if_pos hbk, c2]⟩
theorem c_bOn {t : xT} {a : Nat} {s : Nat → Int32} (hS : SkC t a) (hI : Iv s) (hR1 : tI t (a + 1) 1 = s 0) {b : Nat} (hb : nB s ≤ b) (h9 : b < 100) (x : Int32) : F_X11_behindOf t a (nI b) x = some (-1) ∧ F_X11_leastAheadOf t a (nI b) x = some (-1) := by
  have by1 := ba_no (b := nI b) hS.2.2.2.2.2.2.2.2.2.2.2.2.1 (hR1.trans hI.1.2) (Or.inr (nI_le hb (by omega)))
  exact ⟨by simp only [F_X11_behindOf, F_X11_behindOf_j22, hS.1, hS.2.1, if_true, Option.bind_some, hS.2.2.2.2.2.2.2.2.2.2.2.2.1.1, by1, xopt], by simp only [F_X11_leastAheadOf, F_X11_leastAheadOf_j22, hS.1, hS.2.1, if_true, Option.bind_some, hS.2.2.2.2.2.2.2.2.2.2.2.2.1.1, by1, xopt]⟩
theorem c_any {t : xT} {a N : Nat} {f : Nat → Int32 → Int32} {x : Int32} (hS : SkC t a) (h9 : N ≤ 9) (h1 : tI t (a + 1) 1 = nI N) (hf : ∀ b, b < N → F_X11_behindOf t a (nI b) x = some (f b x)) : ∀ m i y n, i + m = N → m < n → F_X11_bestByAny_l4 n t a x y (nI i) = some (mxF f x m i y)
  | _, _, _, 0, _, h => absurd h (Nat.not_lt_zero _)
  | 0, i, y, n + 1, hi, _ => by
    have hi : i = N := by omega
    subst hi
    unfold F_X11_bestByAny_l4
    simp only [hS.1, hS.2.1, if_true, Option.bind_some, hS.2.2.2.2.2.2.2.2.2.2.2.2.1.1, h1, if_pos (nI_le (Nat.le_refl i) (show i < 2 ^ 31 by omega))]
    rfl
  | m + 1, i, y, n + 1, hi, hm => by
    unfold F_X11_bestByAny_l4
    simp only [hS.1, hS.2.1, if_true, Option.bind_some, hS.2.2.2.2.2.2.2.2.2.2.2.2.1.1, h1, if_neg (nI_ge (show i < N by omega) (show N < 2 ^ 31 by omega)), hf i (by omega), xlet, nI_1]
    exact c_any hS h9 h1 hf m (i + 1) _ n (by omega) (by omega)
theorem r_step1 {s : Nat → Int32} {ls : yLS} {x : Int32} (hI : Iv s) (hL : LwS ls s) (hx : ¬ x < 0) : ∀ m i y n u, i + m = nB s → m < n → u.2.1 0 = s → ∃ u', F_X12_stepped_l4 n u x y (nI i) = some (mxF (gS ls s) x m i y, u') ∧ Cr u' = Cr u ∧ u'.2.1 0 = s
  | _, _, _, 0, _, _, h, _ => absurd h (Nat.not_lt_zero _)
  | 0, i, y, n + 1, u, hi, _, hu => by
    have h9 := hI.1.1
    have hi : i = nB s := by omega
    subst hi
    refine ⟨u, ?_, rfl, hu⟩
    unfold F_X12_stepped_l4 F_X12_stepped_j46
    rw [if_pos xi0, cl0, hu, hI.1.2, if_pos (nI_le (Nat.le_refl _) (by omega))]; rfl
  | m + 1, i, y, n + 1, u, hi, hm, hu => by
    have h9 := hI.1.1
    obtain ⟨u1, a1, e1, f1⟩ := r_b x hu hI hL (k := i) (by omega)
    have g0 : ¬ nI (nB s) ≤ nI i := nI_ge (by omega) (by omega)
    have fin : ∀ y', y' = (if y < gS ls s i x then gS ls s i x else y) → F_X12_stepped_l4 (n + 1) u x y (nI i) = F_X12_stepped_l4 n u1 x y' (nI (i + 1)) → ∃ u', F_X12_stepped_l4 (n + 1) u x y (nI i) = some (mxF (gS ls s) x (m + 1) i y, u') ∧ Cr u' = Cr u ∧ u'.2.1 0 = s := by
      intro y' hy' he
      obtain ⟨u', h1, h2, h3⟩ := r_step1 hI hL hx m (i + 1) y' n u1 (by omega) (by omega) f1
      refine ⟨u', ?_, h2.trans e1, h3⟩
      rw [he, h1, hy']; rfl
    by_cases c : gS ls s i x ≤ y
    · refine fin y ?_ ?_
      · rw [if_neg]; rw [fa_le] at c; rw [fa_lt]; omega
      · conv => lhs; unfold F_X12_stepped_l4
        rw [if_pos xi0, cl0, hu, hI.1.2, if_neg g0, if_neg hx, a1, Option.bind_some, if_pos c]
        unfold F_X12_stepped_j39
        simp only [xlet]
        rw [nI_1]
    · refine fin (gS ls s i x) ?_ ?_
      · rw [if_pos]; rw [fa_le] at c; rw [fa_lt]; omega
      · conv => lhs; unfold F_X12_stepped_l4
        rw [if_pos xi0, cl0, hu, hI.1.2, if_neg g0, if_neg hx, a1, Option.bind_some, if_neg c]
        unfold F_X12_stepped_j39
        simp only [xlet]
        rw [nI_1]
theorem mxF_m1 {f : Nat → Int32 → Int32} {x : Int32} (h : ∀ i, f i x = -1) : ∀ m i, mxF f x m i (-1) = -1
  | 0, _ => rfl
  | m + 1, i => by
    show mxF f x m (i + 1) (if (-1 : Int32) < f i x then f i x else -1) = -1
    rw [h i, if_neg (by decide)]; exact mxF_m1 h m (i + 1)
theorem r_step {s : Nat → Int32} {ls : yLS} {u : xS} (x : Int32) (hI : Iv s) (hL : LwS ls s) (hu : u.2.1 0 = s) : ∃ u', F_X12_stepped u x = some (sF (gS ls s) (nB s) x, u') ∧ Cr u' = Cr u ∧ u'.2.1 0 = s := by
  by_cases hx : x < 0
  · refine ⟨u, ?_, rfl, hu⟩
    have e : sF (gS ls s) (nB s) x = -1 := mxF_m1 (fun i => gS_neg (by rw [fa_le]; rw [lt0] at hx; show ¬ (0 : Int) ≤ _; omega)) _ _
    rw [e]
    unfold F_X12_stepped
    show F_X12_stepped_l4 1000000 u x (-1) 0 = _
    unfold F_X12_stepped_l4 F_X12_stepped_j46
    rw [if_pos xi0]
    by_cases c : u.2.1 0 (0 : Int32).toNatClampNeg ≤ 0
    · rw [if_pos c]
    · rw [if_neg c, if_pos hx]
  · exact r_step1 hI hL hx (nB s) 0 (-1) xFuel u (by omega) (xF_big (by have := hI.1.1; omega)) hu
theorem lp_fast {t : xT} {a : Nat} {goal : Int32} {s : Nat → Int32} {ls : yLS} (hS : SkC t a) (hI : Iv s) (hL : LwS ls s) (hc : ∀ x, F_X11_bestByAny t a x = some (sF (gS ls s) (nB s) x)) : ∀ m i n u x, i + m = 61 → m < n → u.2.1 0 = s → ∃ v u', F_X11_fewest_l5 n t a goal x (nI i) = some v ∧ F_X12_fastest_l5 n u goal (nI i) x = some (v, u') ∧ Cr u' = Cr u ∧ u'.2.1 0 = s ∧ (v = -1 ∨ ∃ j, i ≤ j ∧ j ≤ 60 ∧ v = nI j ∧ goal.toInt ≤ (itB (sF (gS ls s) (nB s)) (j - i) x).toInt)
  | _, _, 0, _, _, _, h, _ => absurd h (Nat.not_lt_zero _)
  | 0, i, n + 1, u, x, hi, _, hu => by
    have hi : i = 61 := by omega
    subst hi
    refine ⟨-1, u, ?_, ?_, rfl, hu, Or.inl rfl⟩
    · unfold F_X11_fewest_l5 F_X11_fewest_j36; rw [if_pos (by decide)]
    · unfold F_X12_fastest_l5 F_X12_fastest_j36 F_X12_fastest_j47 F_X12_fastest_j52; rw [if_pos (by decide), if_pos (by decide)]
  | m + 1, i, n + 1, u, x, hi, hm, hu => by
    have g1 : ¬ (60 : Int32) < nI i := nI_nlt (a := 60) (b := i) (by omega) (by decide)
    have g2 : ¬ (61 : Int32) ≤ nI i := nI_ge (a := i) (b := 61) (by omega) (by decide)
    by_cases c0 : x < 0
    · have c0' : ¬ 0 ≤ x := by rw [fa_lt] at c0; rw [fa_le]; omega
      refine ⟨-1, u, ?_, ?_, rfl, hu, Or.inl rfl⟩
      · unfold F_X11_fewest_l5 F_X11_fewest_j36; rw [if_neg g1, if_pos c0]
      · unfold F_X12_fastest_l5 F_X12_fastest_j36 F_X12_fastest_j47 F_X12_fastest_j52; rw [if_neg g2, if_pos c0, if_neg g1, if_neg c0']
    · have c0' : 0 ≤ x := by rw [fa_lt] at c0; rw [fa_le]; omega
      by_cases c : x < goal
      · have c' : ¬ goal ≤ x := by rw [fa_lt] at c; rw [fa_le]; omega
        obtain ⟨u1, a1, e1, f1⟩ := r_step (ls := ls) x hI hL hu
        obtain ⟨v, u', h1, h2, h3, h4, h5⟩ := lp_fast hS hI hL hc m (i + 1) n u1 (sF (gS ls s) (nB s) x) (by omega) (by omega) f1
        refine ⟨v, u', ?_, ?_, h3.trans e1, h4, ?_⟩
        · unfold F_X11_fewest_l5
          rw [if_neg g1, if_neg c0, if_pos c, if_pos hS.1, hc]; show F_X11_fewest_l5 n t a goal _ (nI i + 1) = _; rw [nI_1]; exact h1
        · unfold F_X12_fastest_l5
          rw [if_neg g2, if_neg c0, if_neg c', a1]; show F_X12_fastest_l5 n u1 goal (nI i + 1) _ = _; rw [nI_1]; exact h2
        · rcases h5 with h5 | ⟨j, j1, j2, j3, j4⟩
          · exact Or.inl h5
          · refine Or.inr ⟨j, by omega, j2, j3, ?_⟩
            have : j - i = (j - (i + 1)) + 1 := by omega
            rw [this]
            show goal.toInt ≤ (if x < 0 then x else itB _ _ _).toInt
            rw [if_neg c0]; exact j4
      · have c' : goal ≤ x := by rw [fa_lt] at c; rw [fa_le]; omega
        refine ⟨nI i, u, ?_, ?_, rfl, hu, Or.inr ⟨i, Nat.le_refl _, by omega, rfl, ?_⟩⟩
        · unfold F_X11_fewest_l5; rw [if_neg g1, if_neg c0, if_neg c]
        · unfold F_X12_fastest_l5 F_X12_fastest_j36 F_X12_fastest_j52; rw [if_neg g2, if_neg c0, if_pos c', if_neg g1, if_pos c0']
        · rw [Nat.sub_self]; rw [fa_le] at c'; exact c'
theorem c_anyF {t : xT} {a : Nat} {s : Nat → Int32} {ls : yLS} {B : Nat → Nat} (hS : SkC t a) (hI : Iv s) (hR1 : tI t (a + 1) 1 = s 0) (hL : LwS ls s) (hB : BgC t a (a + 1) B s) (hSt : StC t B ls s) (x : Int32) : F_X11_bestByAny t a x = some (sF (gS ls s) (nB s) x) :=
  c_any hS hI.1.1 (hR1.trans hI.1.2) (fun b hb => (c_bO hS hI hR1 hL hB hSt hb x).1) (nB s) 0 (-1) xFuel (by omega) (xF_big (by have := hI.1.1; omega))
theorem st_fast : sT_fast RR := by
  intro t a u z0 z1 hR
  obtain ⟨B, ls, hk, hp, hk1, hS, hI, hRd, hL, hBg, hSt⟩ := hR.rd
  rcases d_purse z0 with ⟨p1, p2⟩ | ⟨p1, p2, p3, p4⟩
  · exact ⟨-1, u, by simp only [F_X11_fast, F_X11_fast_j14, p1, Option.bind_some, if_true], by simp only [F_X12_fast, F_X12_fast_j28, F_X12_fast_j29, p2, Option.bind_some, if_true], hR⟩
  rcases d_purse z1 with ⟨n1, n2⟩ | ⟨n1, n2, n3, n4⟩
  · exact ⟨-1, u, by simp only [F_X11_fast, F_X11_fast_j14, p1, n1, Option.bind_some, n10, if_false, if_true], by simp only [F_X12_fast, F_X12_fast_j28, F_X12_fast_j29, p2, n2, Option.bind_some, n10, if_false, if_true], hR⟩
  obtain ⟨v, u', h1, h2, h3, -, -⟩ := lp_fast (goal := z1) hS hI hL (c_anyF hS hI hRd.1 hL hBg hSt) 61 0 xFuel u z0 (by omega) (xF_big (by omega)) rfl
  have h1 : F_X11_fewest t a z0 z1 = some v := h1
  have h2 : F_X12_fastest u z0 z1 = some (v, u') := h2
  refine ⟨if 0 ≤ v then v else -3, u', ?_, ?_, hR.scr h3⟩
  · simp only [F_X11_fast, F_X11_fast_j33, p1, n1, Option.bind_some, n10, if_false, hk, if_true, h1]
    by_cases c : 0 ≤ v
    · rw [if_pos c, if_pos c]
    · rw [if_neg c, if_neg c]
  · simp only [F_X12_fast, F_X12_fast_j29, p2, n2, Option.bind_some, n10, if_false, h2, n_none]
/-! by -/
theorem lS_neg {ls : yLS} {s : Nat → Int32} {k : Nat} : lS ls s k (-1) = -1 := by
  unfold lS gL zl
  rw [if_pos (Or.inr (by decide))]; rfl
theorem mnF_m1 {l : Nat → Int32 → Int32} {g : Int32} (h : ∀ i, l i g = -1) : ∀ m i, mnF l g m i (-1) = -1
  | 0, _ => rfl
  | m + 1, i => by
    show mnF l g m (i + 1) (lsr (-1) (l i g)) = -1
    rw [h i, show lsr (-1) (-1) = -1 by decide]; exact mnF_m1 h m (i + 1)
theorem Rg.neg {x : Int32} (h : Rg x) (c : x < 0) : x = -1 := by
  rw [lt0] at c
  have := h.1
  exact Int32.toInt_inj.1 (by show x.toInt = (-1 : Int); omega)
theorem itB_lF {l : Nat → Int32 → Int32} {N : Nat} (hR : ∀ x, Rg (lF l N x)) (hm : lF l N (-1) = -1) {g : Int32} (hg : Pu g) (j : Nat) : lF l N (itB (lF l N) j g) = itB (lF l N) (j + 1) g := by
  rw [itB_s]
  by_cases c : itB (lF l N) j g < 0
  · rw [if_pos c, (itB_Rg hR hg.rg j).neg c, hm]
  · rw [if_neg c]
theorem c_lesser (x y : Int32) : F_X11_lesser x y = some (lsr x y) := by
  unfold F_X11_lesser F_X11_lesser_j8 lsr
  simp only [xlet]
  by_cases c : x < 0
  · rw [if_pos c, if_pos c]
  · rw [if_neg c, if_neg c]
    by_cases d : 0 ≤ y
    · rw [if_pos d, if_pos d]
    · rw [if_neg d, if_neg d]
theorem sk_42 {t : xT} {a : Nat} (hS : SkC t a) : tP t a 11 = some (a + 40) ∧ ArO t (a + 40) 512 ∧ tP t a 12 = some (a + 41) ∧ ArO t (a + 41) 512 ∧ tP t a 13 = some (a + 42) ∧ ArO t (a + 42) 61 := by
  obtain ⟨k0, p0, p1, p3, p5, p7, p8, p9, p10, p11, p12, p13, r1, r17, o33, o34, o35, o36, o37, o38, o39, o40, o41, o42, lt⟩ := hS
  exact ⟨p11, o40, p12, o41, p13, o42⟩
theorem lp_fill1 {t : xT} {a N i : Nat} {l : Nat → Int32 → Int32} {g y2 : Int32} {kc : xT → Nat → Int32 → Int32 → Option xT} (hS : SkC t a) (h9 : N ≤ 9) (h1 : tI t (a + 1) 1 = nI N) (hf : ∀ b, b < N → F_X11_leastAheadOf t a (nI b) g = some (l b g)) (hi : i < 60) (hg : tI t (a + 42) i = g) : ∀ m b z n, b + m = N → m < n → F_X11_fillLeastSteps_l29 kc n t a y2 (nI (i + 1)) z (nI b) = kc (tSI t (a + 42) (i + 1) (mnF l g m b z)) a y2 (nI (i + 2))
  | _, _, _, 0, _, h => absurd h (Nat.not_lt_zero _)
  | 0, b, z, n + 1, hb, _ => by
    have hb : b = N := by omega
    subst hb
    obtain ⟨-, -, -, -, p13, o42⟩ := sk_42 hS
    have ix : xIn (nI (i + 1)) 61 := n_xIn (by omega) (by decide)
    have ec : (nI (i + 1)).toNatClampNeg = i + 1 := n_cl (by omega)
    unfold F_X11_fillLeastSteps_l29
    simp only [hS.1, hS.2.1, if_true, Option.bind_some, hS.2.2.2.2.2.2.2.2.2.2.2.2.1.1, h1, if_pos (nI_le (Nat.le_refl b) (show b < 2 ^ 31 by omega)), p13, o42.1, o42.2, if_pos ix, ec, xlet, nI_1]
    rfl
  | m + 1, b, z, n + 1, hb, hm => by
    obtain ⟨-, -, -, -, p13, o42⟩ := sk_42 hS
    have e1 : nI (i + 1) - (1 : Int32) = nI i := nI_pred i
    have ix : xIn (nI i) 61 := n_xIn (by omega) (by decide)
    have ec : (nI i).toNatClampNeg = i := n_cl (by omega)
    unfold F_X11_fillLeastSteps_l29
    simp only [hS.1, hS.2.1, if_true, Option.bind_some, hS.2.2.2.2.2.2.2.2.2.2.2.2.1.1, h1, if_neg (nI_ge (show b < N by omega) (show N < 2 ^ 31 by omega)), p13, o42.1, o42.2, e1, if_pos ix, ec, hg, hf b (by omega), c_lesser, xlet, nI_1]
    exact lp_fill1 hS h9 h1 hf hi hg m (b + 1) _ n (by omega) (by omega)
theorem lp_fill {t0 : xT} {a : Nat} {s : Nat → Int32} {ls : yLS} {B : Nat → Nat} {goal : Int32} {M : Nat} (hS0 : SkC t0 a) (hI : Iv s) (hR1 : tI t0 (a + 1) 1 = s 0) (hL : LwS ls s) (hB : BgC t0 a (a + 1) B s) (hSt : StC t0 B ls s) (hg : Pu goal) (hM : M ≤ 60) : ∀ m i n t, i + m = M → m < n → Ol t0 t (fun q => q = a + 42) (fun _ => False) → (∀ j, j ≤ i → tI t (a + 42) j = itB (lF (lS ls s) (nB s)) j goal) → ∃ t', F_X11_fillLeastSteps_l9 n t a (nI M) (nI (i + 1)) = some t' ∧ Ol t0 t' (fun q => q = a + 42) (fun _ => False) ∧ ∀ j, j ≤ M → tI t' (a + 42) j = itB (lF (lS ls s) (nB s)) j goal
  | _, _, 0, _, _, h, _, _ => absurd h (Nat.not_lt_zero _)
  | 0, i, n + 1, t, hi, _, o, hv => by
    have hi : i = M := by omega
    subst hi
    refine ⟨t, ?_, o, hv⟩
    unfold F_X11_fillLeastSteps_l9 F_X11_fillLeastSteps_j82
    rw [if_pos (nI_lt (by omega) (by omega))]
  | m + 1, i, n + 1, t, hi, hm, o, hv => by
    have hl := hS0.lt
    have hS := hS0.ol o id id id id
    obtain ⟨-, -, -, -, p13, o42⟩ := sk_42 hS
    have hB' := hB.ol o (by omega) id (fun k hk => by have := (hB k hk).2.1; omega)
    have hSt' := hSt.ol o (fun k hk => (hB k hk).2.2.1) (fun k hk => by have := (hB k hk).2.1; omega)
    have hR1' : tI t (a + 1) 1 = s 0 := by rw [o.2.2.1 (a + 1) (by omega) (by omega)]; exact hR1
    have G := gal_sF (N := nB s) (fun i hi => gal_S hI hL hi)
    have in1 := lp_fill1 (kc := F_X11_fillLeastSteps_l9 n) (y2 := nI M) (g := itB (lF (lS ls s) (nB s)) i goal) (l := lS ls s) hS hI.1.1 (hR1'.trans hI.1.2) (fun b hb => (c_bO hS hI hR1' hL hB' hSt' hb _).2) (show i < 60 by omega) (hv i (Nat.le_refl _)) (nB s) 0 (-1) xFuel (by omega) (xF_big (by have := hI.1.1; omega))
    have e1 : mnF (lS ls s) (itB (lF (lS ls s) (nB s)) i goal) (nB s) 0 (-1) = itB (lF (lS ls s) (nB s)) (i + 1) goal := itB_lF G.2.1 (mnF_m1 (fun i => lS_neg) _ _) hg i
    rw [e1] at in1
    obtain ⟨t', h1, h2, h3⟩ := lp_fill hS0 hI hR1 hL hB hSt hg hM m (i + 1) n (tSI t (a + 42) (i + 1) (itB (lF (lS ls s) (nB s)) (i + 1) goal)) (by omega) (by omega) (o.tr (Ol.SI _ _ _ rfl)) (fun j hj => by
      rw [tI_SI, upd2]
      by_cases c : j = i + 1
      · rw [if_pos c, c]
      · rw [if_neg c]; exact hv j (by omega))
    refine ⟨t', ?_, h2, h3⟩
    unfold F_X11_fillLeastSteps_l9
    rw [if_neg (nI_nlt (a := M) (b := i + 1) (by omega) (by omega)), if_pos hS.1, p13, Option.bind_some, if_pos o42.1, o42.2, if_neg (show ¬ nI 61 ≤ nI (i + 1) from nI_ge (by omega) (by decide))]
    exact in1.trans h1
def fnd (P : Nat → Bool) : Nat → Nat → Int32
  | 0, _ => -1
  | m + 1, i => if P i = true then nI i else fnd P m (i + 1)
theorem fnd_s {P : Nat → Bool} : ∀ m i, (∃ b, i ≤ b ∧ b < i + m ∧ P b = true) → ∃ b, i ≤ b ∧ b < i + m ∧ P b = true ∧ fnd P m i = nI b
  | 0, i, ⟨b, h1, h2, _⟩ => by omega
  | m + 1, i, ⟨b, h1, h2, h3⟩ => by
    by_cases c : P i = true
    · exact ⟨i, Nat.le_refl _, by omega, c, by unfold fnd; rw [if_pos c]⟩
    · have : b ≠ i := fun e => c (e ▸ h3)
      obtain ⟨b', g1, g2, g3, g4⟩ := fnd_s m (i + 1) ⟨b, by omega, by omega, h3⟩
      exact ⟨b', by omega, by omega, g3, by unfold fnd; rw [if_neg c]; exact g4⟩
def okB (f : Nat → Int32 → Int32) (w x : Int32) (b : Nat) : Bool := decide (0 ≤ w.toInt ∧ w.toInt ≤ (f b x).toInt)
theorem c_suf (x w : Int32) : F_X11_suffices x w = some (if 0 ≤ w.toInt ∧ w.toInt ≤ x.toInt then 1 else 0) := by
  unfold F_X11_suffices F_X11_suffices_j13 F_X11_suffices_j14
  by_cases c : w < 0
  · rw [if_pos c]
    rw [lt0] at c
    rw [if_neg (show ¬ (0 ≤ w.toInt ∧ w.toInt ≤ x.toInt) by omega)]; rfl
  · rw [if_neg c]
    rw [lt0] at c
    by_cases d : x < w
    · rw [if_pos d]
      rw [fa_lt] at d
      rw [if_neg (show ¬ (0 ≤ w.toInt ∧ w.toInt ≤ x.toInt) by omega)]; rfl
    · rw [if_neg d]
      rw [fa_lt] at d
      rw [if_pos (show 0 ≤ w.toInt ∧ w.toInt ≤ x.toInt by omega)]; rfl
theorem lp_row1 {t : xT} {a N c : Nat} {f : Nat → Int32 → Int32} {x w : Int32} (hS : SkC t a) (h9 : N ≤ 9) (h1 : tI t (a + 1) 1 = nI N) (hf : ∀ b, b < N → F_X11_behindOf t a (nI b) x = some (f b x)) (hc : c < 61) (hw : tI t (a + 42) c = w) : ∀ m i n, i + m = N → m < n → F_X11_firstInRow_l2 n t a x (nI c) (nI i) = some (fnd (okB f w x) m i)
  | _, _, 0, _, h => absurd h (Nat.not_lt_zero _)
  | 0, i, n + 1, hi, _ => by
    have hi : i = N := by omega
    subst hi
    unfold F_X11_firstInRow_l2
    simp only [hS.1, hS.2.1, if_true, Option.bind_some, hS.2.2.2.2.2.2.2.2.2.2.2.2.1.1, h1, if_pos (nI_le (Nat.le_refl i) (show i < 2 ^ 31 by omega))]
    rfl
  | m + 1, i, n + 1, hi, hm => by
    obtain ⟨-, -, -, -, p13, o42⟩ := sk_42 hS
    unfold F_X11_firstInRow_l2
    simp only [hS.1, hS.2.1, if_true, Option.bind_some, hS.2.2.2.2.2.2.2.2.2.2.2.2.1.1, h1, if_neg (nI_ge (show i < N by omega) (show N < 2 ^ 31 by omega)), hf i (by omega), p13, c_entry o42.1 o42.2 hc (by decide), hw, c_suf, xlet, nI_1]
    unfold fnd okB
    by_cases d : 0 ≤ w.toInt ∧ w.toInt ≤ (f i x).toInt
    · rw [if_pos d, if_neg (by decide), if_pos (by simpa using d)]
    · rw [if_neg d, if_pos rfl, if_neg (by simpa using d)]
      exact lp_row1 hS h9 h1 hf hc hw m (i + 1) n (by omega) (by omega)
theorem lp_reach {s : Nat → Int32} {ls : yLS} {goal : Int32} {C : Nat} (hI : Iv s) (hL : LwS ls s) (hg : Pu goal) (hC : C < 1000) : ∀ m i n u x, i + m = C → m < n → u.2.1 0 = s → Rg x → ∃ u', F_X12_isReached_l6 n u goal (nI C) x (nI i) = some (if goal.toInt ≤ (itB (sF (gS ls s) (nB s)) m x).toInt then 1 else 0, u') ∧ Cr u' = Cr u ∧ u'.2.1 0 = s
  | _, _, 0, _, _, _, h, _, _ => absurd h (Nat.not_lt_zero _)
  | 0, i, n + 1, u, x, hi, _, hu, hx => by
    have hi : i = C := by omega
    subst hi
    refine ⟨u, ?_, rfl, hu⟩
    unfold F_X12_isReached_l6 F_X12_isReached_j37
    rw [if_pos (nI_le (Nat.le_refl _) (by omega))]
    show _ = some (if goal.toInt ≤ x.toInt then 1 else 0, u)
    by_cases c : x < goal
    · rw [if_pos c]
      rw [fa_lt] at c
      rw [if_neg (show ¬ goal.toInt ≤ x.toInt by omega)]; rfl
    · rw [if_neg c]
      rw [fa_lt] at c
      rw [if_pos (show goal.toInt ≤ x.toInt by omega)]; rfl
  | m + 1, i, n + 1, u, x, hi, hm, hu, hx => by
    have G := gal_sF (N := nB s) (fun i hi => gal_S (ls := ls) hI hL hi)
    obtain ⟨u1, a1, e1, f1⟩ := r_step (ls := ls) x hI hL hu
    obtain ⟨u', h1, h2, h3⟩ := lp_reach hI hL hg hC m (i + 1) n u1 (sF (gS ls s) (nB s) x) (by omega) (by omega) f1 (G.1 x)
    refine ⟨u', ?_, h2.trans e1, h3⟩
    unfold F_X12_isReached_l6
    rw [if_neg (nI_ge (show i < C by omega) (by omega)), a1, Option.bind_some]
    show F_X12_isReached_l6 n u1 goal (nI C) _ (nI i + 1) = _
    rw [nI_1, h1]
    show _ = some (if goal.toInt ≤ (if x < 0 then x else itB _ m _).toInt then 1 else 0, u')
    by_cases c : x < 0
    · have n1 : sF (gS ls s) (nB s) x < 0 := by rw [lt0]; rw [lt0] at c; exact G.2.2.1 x c
      rw [if_pos c, itB_neg _ n1]
      rw [lt0] at c n1
      have := hg.1
      rw [if_neg (by omega), if_neg (by omega)]
    · rw [if_neg c]
theorem lp_row2 {s : Nat → Int32} {ls : yLS} {goal x w : Int32} {M k C : Nat} {y3 : Int32} {k47 : xS → Int32 → Int32 → Int32 → Int32 → Int32 → Int32 → Option (Int32 × xS)} (hI : Iv s) (hL : LwS ls s) (hg : Pu goal) (hx : Rg x) (hC : C < 100) (hM : C + k + 1 = M) (hM6 : M ≤ 60) (hw : w = itB (lF (lS ls s) (nB s)) C goal) : ∀ m i n u, i + m = nB s → m + 1 < n → u.2.1 0 = s → ∃ u', F_X12_by_l65 k47 n u goal y3 (nI M) x (-1) (nI k) (nI i) = F_X12_by_j128 k47 u' goal y3 (nI M) x (fnd (okB (gS ls s) w x) m i) (nI k) ∧ Cr u' = Cr u ∧ u'.2.1 0 = s
  | _, _, 0, _, _, h, _ => absurd h (Nat.not_lt_zero _)
  | 0, i, n + 1, u, hi, _, hu => by
    have h9 := hI.1.1
    have hi : i = nB s := by omega
    subst hi
    refine ⟨u, ?_, rfl, hu⟩
    conv => lhs; unfold F_X12_by_l65
    rw [if_pos xi0, cl0, hu, hI.1.2, if_pos (nI_le (Nat.le_refl _) (by omega))]; rfl
  | m + 1, i, n + 1, u, hi, hm, hu => by
    have h9 := hI.1.1
    have hib : i < nB s := by omega
    have G := gal_sF (N := nB s) (fun i hi => gal_S (ls := ls) hI hL hi)
    have hfx := gS_rng ls s i x
    obtain ⟨u1, a1, e1, f1⟩ := r_b x hu hI hL (k := i) hib
    have ec : (nI M - nI k) - (1 : Int32) = nI C := by
      have : nI M = nI (C + 1) + nI k := by rw [nI_add]; congr 1; omega
      rw [this, Int32.add_sub_cancel, nI_pred]
    obtain ⟨u2, a2, e2, f2⟩ := lp_reach hI hL hg (show C < 1000 by omega) C 0 xFuel u1 (gS ls s i x) (by omega) (xF_big (by omega)) f1 ⟨hfx.1, hfx.2⟩
    have head : F_X12_by_l65 k47 (n + 1) u goal y3 (nI M) x (-1) (nI k) (nI i) = (F_X12_becomes u (nI i) x.toInt64).bind (fun r10 => if r10.1 < 0 then F_X12_by_j119 k47 (F_X12_by_l65 k47 n) r10.2 goal y3 (nI M) x (nI k) (nI i) else (F_X12_isReached r10.2 r10.1 goal ((nI M - nI k) - (1 : Int32))).bind (fun r13 => if r13.1 = 0 then F_X12_by_j119 k47 (F_X12_by_l65 k47 n) r13.2 goal y3 (nI M) x (nI k) (nI i) else F_X12_by_j120 k47 (F_X12_by_l65 k47 n) r13.2 goal y3 (nI M) x (nI k) (nI i) (nI i))) := by
      conv => lhs; unfold F_X12_by_l65
      rw [if_pos xi0, cl0, hu, hI.1.2, if_neg (nI_ge hib (by omega)), if_neg (by decide)]
    have nxt : ∀ u1, u1.2.1 0 = s → Cr u1 = Cr u → fnd (okB (gS ls s) w x) (m + 1) i = fnd (okB (gS ls s) w x) m (i + 1) → F_X12_by_l65 k47 (n + 1) u goal y3 (nI M) x (-1) (nI k) (nI i) = F_X12_by_j119 k47 (F_X12_by_l65 k47 n) u1 goal y3 (nI M) x (nI k) (nI i) → ∃ u', F_X12_by_l65 k47 (n + 1) u goal y3 (nI M) x (-1) (nI k) (nI i) = F_X12_by_j128 k47 u' goal y3 (nI M) x (fnd (okB (gS ls s) w x) (m + 1) i) (nI k) ∧ Cr u' = Cr u ∧ u'.2.1 0 = s := by
      intro u1 hu1 hc1 hf he
      obtain ⟨u', h1, h2, h3⟩ := lp_row2 (k47 := k47) (y3 := y3) hI hL hg hx hC hM hM6 hw m (i + 1) n u1 (by omega) (by omega) hu1
      refine ⟨u', ?_, h2.trans hc1, h3⟩
      rw [he, hf]
      show F_X12_by_l65 k47 n u1 goal y3 (nI M) x (-1) (nI k) (nI i + 1) = _
      rw [nI_1]; exact h1
    by_cases c : gS ls s i x < 0
    · refine nxt u1 f1 e1 ?_ ?_
      · have : ¬ okB (gS ls s) w x i = true := by unfold okB; rw [lt0] at c; simp; omega
        conv => lhs; unfold fnd
        rw [if_neg this]
      · rw [head, a1, Option.bind_some, if_pos c]
    · rw [lt0] at c
      have gi := gal_it G C (gS ls s i x) goal ⟨by omega, hfx.2⟩ hg
      rw [← hw] at gi
      by_cases d : goal.toInt ≤ (itB (sF (gS ls s) (nB s)) C (gS ls s i x)).toInt
      · rw [if_pos d] at a2
        have a2 : F_X12_isReached u1 (gS ls s i x) goal (nI C) = some (1, u2) := a2
        have ok : okB (gS ls s) w x i = true := by unfold okB; simpa using gi.1 d
        refine ⟨u2, ?_, e2.trans e1, f2⟩
        conv => rhs; unfold fnd
        rw [if_pos ok, head, a1, Option.bind_some, if_neg (by rw [lt0]; exact c), ec, a2, Option.bind_some, if_neg (show ¬ (1 : Int32) = 0 by decide)]
        unfold F_X12_by_j120
        simp only [xlet]
        cases n with
        | zero => omega
        | succ n =>
          conv => lhs; unfold F_X12_by_l65
          rw [if_pos xi0, cl0]
          by_cases q : (u2.2.1 0 0) ≤ nI i + 1
          · rw [if_pos q]
          · rw [if_neg q, if_pos (nI_pos' (by omega))]
      · rw [if_neg d] at a2
        have a2 : F_X12_isReached u1 (gS ls s i x) goal (nI C) = some (0, u2) := a2
        refine nxt u2 f2 (e2.trans e1) ?_ ?_
        · have : ¬ okB (gS ls s) w x i = true := by unfold okB; simp only [decide_eq_true_eq]; exact fun h => d (gi.2 h)
          conv => lhs; unfold fnd
          rw [if_neg this]
        · rw [head, a1, Option.bind_some, if_neg (by rw [lt0]; exact c), ec, a2, Option.bind_some, if_pos rfl]
theorem lp_by {t : xT} {a : Nat} {s : Nat → Int32} {ls : yLS} {goal : Int32} {M I : Nat} (hS : SkC t a) (hI : Iv s) (hL : LwS ls s) (h1 : tI t (a + 1) 1 = s 0) (hf : ∀ b x, b < nB s → F_X11_behindOf t a (nI b) x = some (gS ls s b x)) (hv : ∀ j, j ≤ M → tI t (a + 42) j = itB (lF (lS ls s) (nB s)) j goal) (hg : Pu goal) (hM : M ≤ 60) (hIM : I < M) : ∀ m k n u x, k + m = I → m + 1 < n → u.2.1 0 = s → Pu x → goal.toInt ≤ (itB (sF (gS ls s) (nB s)) (M - k) x).toInt → ∃ b u', b < 9 ∧ F_X11_by_l56 n t a (nI I) (nI M) x (nI k) = some (nI b, t) ∧ (∀ f0, F_X12_by_l47 n u goal (nI I) (nI M) x f0 (nI k) = some (nI b, u')) ∧ Cr u' = Cr u
  | _, _, 0, _, _, _, h, _, _, _ => absurd h (Nat.not_lt_zero _)
  | m, k, n + 1, u, x, hk, hm, hu, hx, hgo => by
    have h9 := hI.1.1
    have G := gal_sF (N := nB s) (fun i hi => gal_S (ls := ls) hI hL hi)
    have hr := hv (M - k - 1) (by omega)
    have nx : ¬ x < 0 := by rw [lt0]; have := hx.1; omega
    have hgo2 : goal.toInt ≤ (itB (sF (gS ls s) (nB s)) (M - k - 1) (sF (gS ls s) (nB s) x)).toInt := by
      have e : M - k = (M - k - 1) + 1 := by omega
      rw [e] at hgo
      change goal.toInt ≤ (if x < 0 then x else itB _ _ _).toInt at hgo
      rw [if_neg nx] at hgo; exact hgo
    have sx := G.1 x
    have sx0 : ¬ sF (gS ls s) (nB s) x < 0 := by
      intro c
      rw [itB_neg _ c] at hgo2
      rw [lt0] at c
      have := hg.1
      omega
    have sx0' : 0 ≤ (sF (gS ls s) (nB s) x).toInt := by rw [lt0] at sx0; omega
    have gi := (gal_it G (M - k - 1) (sF (gS ls s) (nB s) x) goal ⟨sx0', sx.2⟩ hg).1 hgo2
    have ex : ∃ b, 0 ≤ b ∧ b < 0 + nB s ∧ okB (gS ls s) (itB (lF (lS ls s) (nB s)) (M - k - 1) goal) x b = true := by
      rcases mxF_mem (gS ls s) x (nB s) 0 (-1) with h | ⟨b, b1, b2, b3⟩
      · exfalso; change sF (gS ls s) (nB s) x = -1 at h; rw [h] at sx0; exact sx0 (by decide)
      · refine ⟨b, b1, b2, ?_⟩
        change sF (gS ls s) (nB s) x = gS ls s b x at b3
        unfold okB
        rw [← b3]; simpa using gi
    obtain ⟨b, b1, b2, b3, b4⟩ := fnd_s _ _ ex
    have b3' : 0 ≤ (itB (lF (lS ls s) (nB s)) (M - k - 1) goal).toInt ∧ (itB (lF (lS ls s) (nB s)) (M - k - 1) goal).toInt ≤ (gS ls s b x).toInt := by unfold okB at b3; simpa using b3
    have fx := gS_rng ls s b x
    have px : Pu (gS ls s b x) := ⟨by omega, fx.2⟩
    have go' : goal.toInt ≤ (itB (sF (gS ls s) (nB s)) (M - (k + 1)) (gS ls s b x)).toInt := by
      have := (gal_it G (M - k - 1) (gS ls s b x) goal px hg).2 b3'
      rw [show M - (k + 1) = M - k - 1 by omega]; exact this
    have ec : (nI M - nI k) - (1 : Int32) = nI (M - k - 1) := by
      have : nI M = nI (M - k - 1 + 1) + nI k := by rw [nI_add]; congr 1; omega
      rw [this, Int32.add_sub_cancel, nI_pred]
    have cR : F_X11_firstInRow t a x (nI (M - k - 1)) = some (nI b) := by
      have := lp_row1 (f := gS ls s) (x := x) (c := M - k - 1) hS h9 (h1.trans hI.1.2) (fun b hb => hf b x hb) (by omega) hr (nB s) 0 xFuel (by omega) (xF_big (by omega))
      rw [b4] at this; exact this
    obtain ⟨u1, r1, r2, r3⟩ := lp_row2 (k47 := F_X12_by_l47 n) (y3 := nI I) (goal := goal) (x := x) (M := M) (k := k) (C := M - k - 1) hI hL hg hx.rg (by omega) (by omega) hM rfl (nB s) 0 xFuel u (by omega) (xF_big (by omega)) hu
    rw [b4] at r1
    obtain ⟨u2, q1, q2, q3⟩ := r_b x r3 hI hL (k := b) (by omega)
    have ref : ∀ f0, F_X12_by_l47 (n + 1) u goal (nI I) (nI M) x f0 (nI k) = F_X12_by_l47 n u2 goal (nI I) (nI M) (gS ls s b x) (nI b) (nI (k + 1)) := by
      intro f0
      conv => lhs; unfold F_X12_by_l47
      rw [if_neg (nI_nlt (a := I) (b := k) (by omega) (by omega)), if_neg (nI_ge hIM (by omega))]
      have r1 : F_X12_by_l65 (F_X12_by_l47 n) xFuel u goal (nI I) (nI M) x (-1) (nI k) 0 = _ := r1
      rw [r1]
      unfold F_X12_by_j128
      simp only [xlet]
      rw [q1, Option.bind_some, nI_1]
    cases m with
    | zero =>
      have hk : k = I := by omega
      subst hk
      refine ⟨b, u2, by omega, ?_, fun f0 => ?_, q2.trans r2⟩
      · unfold F_X11_by_l56 F_X11_by_j115
        rw [if_pos (nI_le (Nat.le_refl _) (by omega)), if_pos hS.1, ec, cR, Option.bind_some, if_pos (nI_pos' (by omega))]
      · rw [ref f0]
        cases n with
        | zero => omega
        | succ n =>
        unfold F_X12_by_l47 F_X12_by_j145
        rw [if_pos (nI_lt (by omega) (by omega)), n_none, if_pos (nI_pos' (by omega))]; rfl
    | succ m =>
      obtain ⟨b', u', w1, w2, w3, w4⟩ := lp_by hS hI hL h1 hf hv hg hM hIM m (k + 1) n u2 (gS ls s b x) (by omega) (by omega) q3 px go'
      refine ⟨b', u', w1, ?_, fun f0 => ?_, w4.trans (q2.trans r2)⟩
      · unfold F_X11_by_l56
        rw [if_neg (nI_ge (show k < I by omega) (by omega)), if_pos hS.1, ec, cR, Option.bind_some, hf b x (by omega), Option.bind_some]
        show F_X11_by_l56 n t a (nI I) (nI M) (gS ls s b x) (nI k + 1) = _
        rw [nI_1]; exact w2
      · rw [ref f0]; exact w3 (nI b)
theorem st_by : sT_by RR := by
  intro t a u z0 z1 z2 hR
  obtain ⟨B, ls, hk, hp, hk1, hS, hI, hRd, hL, hBg, hSt⟩ := hR.rd
  have hl := hS.lt
  rcases d_purse z0 with ⟨p1, p2⟩ | ⟨p1, p2, p3, p4⟩
  · exact ⟨-1, t, u, by simp only [F_X11_by, F_X11_by_j24, p1, Option.bind_some, if_true], by simp only [F_X12_by, F_X12_by_j28, p2, Option.bind_some, if_true], hR⟩
  rcases d_purse z1 with ⟨n1, n2⟩ | ⟨n1, n2, n3, n4⟩
  · exact ⟨-1, t, u, by simp only [F_X11_by, F_X11_by_j24, p1, n1, Option.bind_some, n10, if_false, if_true], by simp only [F_X12_by, F_X12_by_j28, p2, n2, Option.bind_some, n10, if_false, if_true], hR⟩
  rcases d_in z2 0 59 (A := 0) (B := 59) rfl rfl with ⟨m1, m2, -⟩ | ⟨m1, m2, m3, m4⟩
  · exact ⟨-1, t, u, by simp only [F_X11_by, F_X11_by_j24, p1, n1, m1, Option.bind_some, n10, if_false, if_true], by simp only [F_X12_by, F_X12_by_j28, p2, n2, m2, Option.bind_some, n10, if_false, if_true], hR⟩
  obtain ⟨I, hIn, rfl⟩ := nI_of2 (x := z2) (M := 59) (n := 59) rfl (by rw [fa_lt]; exact Int.not_lt.mpr m3) (by rw [fa_le]; exact m4)
  obtain ⟨v, u1, h1, h2, h3, h4, h5⟩ := lp_fast (goal := z1) hS hI hL (c_anyF hS hI hRd.1 hL hBg hSt) 61 0 xFuel u z0 (by omega) (xF_big (by omega)) rfl
  have h1 : F_X11_fewest t a z0 z1 = some v := h1
  have h2 : F_X12_fastest u z0 z1 = some (v, u1) := h2
  have none' : ¬ nI I < v → v ≤ nI I → ∃ (v : Int32) (t' : xT) (u' : xS), F_X11_by t a z0 z1 (nI I) = some (v, t') ∧ F_X12_by u z0 z1 (nI I) = some (v, u') ∧ RR t' a u' := by
    intro c c'
    refine ⟨-3, t, u1, ?_, ?_, hR.scr h3⟩
    · simp only [F_X11_by, p1, n1, m1, Option.bind_some, n10, if_false, hk, if_true, h1, if_neg c]
    · simp only [F_X12_by, p2, n2, m2, Option.bind_some, n10, if_false, h2]
      show F_X12_by_l47 (999999 + 1) u1 z1 (nI I) v z0 (-1) 0 = _
      unfold F_X12_by_l47 F_X12_by_j145
      rw [if_neg (show ¬ nI I < (0 : Int32) from nI_pos (by omega)), if_pos c', n_none, if_neg (by decide)]; rfl
  rcases h5 with h5 | ⟨M, -, hM, rfl, h5⟩
  · subst h5
    exact none' (by rw [fa_lt]; have := nI_toInt (n := I) (by omega); show ¬ _ < (-1 : Int); omega) (by rw [fa_le]; have := nI_toInt (n := I) (by omega); show (-1 : Int) ≤ _; omega)
  by_cases c : I < M
  rotate_left
  · exact none' (nI_nlt (by omega) (by omega)) (nI_le (by omega) (by omega))
  have hg : Pu z1 := ⟨n3, n4⟩
  obtain ⟨-, -, -, -, p13, o42⟩ := sk_42 hS
  obtain ⟨t', f1, f2, f3⟩ := lp_fill (goal := z1) hS hI hRd.1 hL hBg hSt hg hM M 0 xFuel (tSI t (a + 42) 0 z1) (by omega) (xF_big (by omega)) (Ol.SI _ _ _ rfl) (fun j hj => by
    have : j = 0 := by omega
    subst this
    rw [tI_SI, upd_s]; rfl)
  have fill : F_X11_fillLeastSteps t a z1 (nI M) = some t' := by
    have x61 : xIn (0 : Int32) 61 := by decide
    unfold F_X11_fillLeastSteps
    simp only [xlet]
    rw [if_pos hS.1, p13, Option.bind_some, if_pos o42.1, o42.2, if_pos x61]
    exact f1
  have hS' := hS.ol f2 id id id id
  have hB' := hBg.ol f2 (by omega) id (fun k hk => by have := (hBg k hk).2.1; omega)
  have hSt' := hSt.ol f2 (fun k hk => (hBg k hk).2.2.1) (fun k hk => by have := (hBg k hk).2.1; omega)
  have hR1' : tI t' (a + 1) 1 = u.2.1 0 0 := by rw [f2.2.2.1 (a + 1) (by omega) (by omega)]; exact hRd.1
  obtain ⟨b, u', w1, w2, w3, w4⟩ := lp_by (goal := z1) (M := M) (I := I) hS' hI hL hR1' (fun b x hb => (c_bO hS' hI hR1' hL hB' hSt' hb x).1) f3 hg hM c I 0 xFuel u1 z0 (by omega) (xF_big (by omega)) h4 ⟨p3, p4⟩ h5
  refine ⟨nI b, t', u', ?_, ?_, (hR.scratch (f2.w (fun q _ h => by omega) (fun _ _ h => h))).scr (w4.trans h3)⟩
  · simp only [F_X11_by, p1, n1, m1, Option.bind_some, n10, if_false, hk, if_true, h1, if_pos (nI_lt c (show M < 2 ^ 31 by omega)), fill]
    exact w2
  · simp only [F_X12_by, p2, n2, m2, Option.bind_some, n10, if_false, h2]
    exact w3 (-1)
