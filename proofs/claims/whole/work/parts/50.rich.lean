/-! ===== pure mathematics 29: rich, poor ===== -/
theorem c_best {t : xT} {a q N : Nat} {f : Nat → Int32 → Int32} (hS : SkC t a) (hq : q < 512) (hN : N ≤ 9) (hb : ∀ b, b < 9 → q.testBit b = true → b < N) (hf : ∀ b x, b < N → F_X11_behindOf t a (nI b) x = some (f b x)) : ∀ m i y n, i + m = 9 → m < n → F_X11_bestByLast_l4 n t a (nI q) y (nI i) = some (mxB f (tI t (a + 40)) q m i y)
  | _, _, _, 0, _, h => absurd h (Nat.not_lt_zero _)
  | 0, i, y, n + 1, hi, _ => by
    have hi : i = 9 := by omega
    subst hi
    unfold F_X11_bestByLast_l4
    rw [if_pos (show (9 : Int32) ≤ nI 9 by decide)]; rfl
  | m + 1, i, y, n + 1, hi, hm => by
    obtain ⟨p11, o40, -, -, -, -⟩ := sk_42 hS
    have b1 := bt1 q hq i (by omega)
    have b2 := bt2 q hq i (by omega)
    have cl := clr_le q i
    unfold F_X11_bestByLast_l4 F_X11_bestByLast_j42 mxB
    simp only [xlet, nI_1]
    rw [if_neg (show ¬ (9 : Int32) ≤ nI i from nI_ge (a := i) (b := 9) (by omega) (by decide)), b1, b2]
    by_cases c : q.testBit i = true
    · rw [if_pos c, if_pos c, if_neg (show ¬ (1 : Int32) = 0 by decide), if_pos hS.1, p11, Option.bind_some, c_entry o40.1 o40.2 (show clr q i < 512 by omega) (by decide), Option.bind_some, hf i _ (hb i (by omega) c), Option.bind_some]
      exact c_best hS hq hN hb hf m (i + 1) _ n (by omega) (by omega)
    · rw [if_neg c, if_neg c, if_pos rfl]
      exact c_best hS hq hN hb hf m (i + 1) y n (by omega) (by omega)
theorem c_least {t : xT} {a q N : Nat} {l : Nat → Int32 → Int32} (hS : SkC t a) (hq : q < 512) (hN : N ≤ 9) (hb : ∀ b, b < 9 → q.testBit b = true → b < N) (hf : ∀ b x, b < N → F_X11_leastAheadOf t a (nI b) x = some (l b x)) : ∀ m i y n, i + m = 9 → m < n → F_X11_leastByFirst_l4 n t a (nI q) y (nI i) = some (mnB l (tI t (a + 41)) q m i y)
  | _, _, _, 0, _, h => absurd h (Nat.not_lt_zero _)
  | 0, i, y, n + 1, hi, _ => by
    have hi : i = 9 := by omega
    subst hi
    unfold F_X11_leastByFirst_l4
    rw [if_pos (show (9 : Int32) ≤ nI 9 by decide)]; rfl
  | m + 1, i, y, n + 1, hi, hm => by
    obtain ⟨-, -, p12, o41, -, -⟩ := sk_42 hS
    have b1 := bt1 q hq i (by omega)
    have b2 := bt2 q hq i (by omega)
    have cl := clr_le q i
    unfold F_X11_leastByFirst_l4 F_X11_leastByFirst_j42 mnB
    simp only [xlet, nI_1]
    rw [if_neg (show ¬ (9 : Int32) ≤ nI i from nI_ge (a := i) (b := 9) (by omega) (by decide)), b1, b2]
    by_cases c : q.testBit i = true
    · rw [if_pos c, if_pos c, if_neg (show ¬ (1 : Int32) = 0 by decide), if_pos hS.1, p12, Option.bind_some, c_entry o41.1 o41.2 (show clr q i < 512 by omega) (by decide), Option.bind_some, hf i _ (hb i (by omega) c), Option.bind_some, c_lesser, Option.bind_some]
      exact c_least hS hq hN hb hf m (i + 1) _ n (by omega) (by omega)
    · rw [if_neg c, if_neg c, if_pos rfl]
      exact c_least hS hq hN hb hf m (i + 1) y n (by omega) (by omega)
/-- what the walks over sets need of a state, kept over scratch -/
def Hw (t : xT) (a : Nat) (f l : Nat → Int32 → Int32) (N : Nat) : Prop := SkC t a ∧ ∀ b x, b < N → F_X11_behindOf t a (nI b) x = some (f b x) ∧ F_X11_leastAheadOf t a (nI b) x = some (l b x)
theorem hw_of {t : xT} {a : Nat} {u : xS} (hR : RR t a u) : ∃ ls, LwS ls (u.2.1 0) ∧ ∀ t', Ol t t' (fun q => a + 40 ≤ q ∧ q ≤ a + 42) (fun _ => False) → Hw t' a (gS ls (u.2.1 0)) (lS ls (u.2.1 0)) (nB (u.2.1 0)) := by
  obtain ⟨B, ls, hk, hp, hk1, hS, hI, hRd, hL, hBg, hSt⟩ := hR.rd
  have hl := hS.lt
  refine ⟨ls, hL, fun t' o => ⟨hS.ol o id id id id, fun b x hb => ?_⟩⟩
  exact c_bO (hS.ol o id id id id) hI (by rw [o.2.2.1 (a + 1) (by omega) (by omega)]; exact hRd.1) hL (hBg.ol o (by omega) id (fun k hk => by have := (hBg k hk).2.1; omega)) (hSt.ol o (fun k hk => (hBg k hk).2.2.1) (fun k hk => by have := (hBg k hk).2.1; omega)) hb x
theorem lp_rich {t0 : xT} {a s N : Nat} {f l : Nat → Int32 → Int32} {p : Int32} (hs : s < 2 ^ N) (hN : N ≤ 9) (hl0 : a + 43 ≤ t0.1) (hw : ∀ t', Ol t0 t' (fun q => a + 40 ≤ q ∧ q ≤ a + 42) (fun _ => False) → Hw t' a f l N) : ∀ m q n t, q + m = s + 1 → 1 ≤ q → m < n → Ol t0 t (fun q => a + 40 ≤ q ∧ q ≤ a + 42) (fun _ => False) → tI t (a + 40) 0 = p → (∀ q', 1 ≤ q' → q' < q → Sub q' s → tI t (a + 40) q' = mxB f (tI t (a + 40)) q' 9 0 (-1)) → ∃ t', F_X11_richest_l9 n t a (nI s) (nI q) = some (tI t' (a + 40) s, t') ∧ Ol t0 t' (fun q => a + 40 ≤ q ∧ q ≤ a + 42) (fun _ => False) ∧ IsT f p s (tI t' (a + 40)) ∧ tI t' (a + 41) = tI t (a + 41)
  | _, _, 0, _, _, _, h, _, _, _ => absurd h (Nat.not_lt_zero _)
  | 0, q, n + 1, t, hq, hq1, _, o, h0, hT => by
    have p9 := pow9 N hN
    have hq : q = s + 1 := by omega
    subst hq
    obtain ⟨hS, -⟩ := hw t o
    obtain ⟨p11, o40, -, -, -, -⟩ := sk_42 hS
    refine ⟨t, ?_, o, ⟨h0, fun q' g1 g2 g3 => hT q' g1 (by omega) g3⟩, rfl⟩
    unfold F_X11_richest_l9 F_X11_richest_j48
    rw [if_pos (nI_lt (show s < s + 1 by omega) (by omega)), if_pos hS.1, p11, Option.bind_some, c_entry o40.1 o40.2 (show s < 512 by omega) (by decide)]; rfl
  | m + 1, q, n + 1, t, hq, hq1, hm, o, h0, hT => by
    have p9 := pow9 N hN
    obtain ⟨hS, hf⟩ := hw t o
    obtain ⟨p11, o40, -, -, -, -⟩ := sk_42 hS
    have ix : xIn (nI q) 512 := n_xIn (by omega) (by decide)
    have ec : (nI q).toNatClampNeg = q := n_cl (by omega)
    have bs := bt_sub (q := q) (s := s) (by omega) (by omega)
    have bN : ∀ b, b < 9 → q.testBit b = true → b < N := fun b hb h1 => by
      by_cases d : b < N
      · exact d
      · rw [tb_N (N := N) (q := q) (by omega) (by omega)] at h1; exact absurd h1 (by decide)
    have head : ∀ r, (if (nI q &&& (nI s ^^^ (-1 : Int32))) = 0 then (F_X11_bestByLast t a (nI q)).bind (fun r16 => F_X11_richest_l9 n (tSI t (a + 40) q r16) a (nI s) (nI (q + 1))) else F_X11_richest_l9 n t a (nI s) (nI (q + 1))) = some r → F_X11_richest_l9 (n + 1) t a (nI s) (nI q) = some r := by
      intro r hr
      conv => lhs; unfold F_X11_richest_l9
      unfold F_X11_richest_j42
      simp only [xlet, if_neg (nI_nlt (show q ≤ s by omega) (show s < 2 ^ 31 by omega)), if_pos hS.1, p11, Option.bind_some, if_pos o40.1, o40.2, if_neg (nI_ge (show q < 512 by omega) (show 512 < 2 ^ 31 by decide)), if_pos ix, ec, nI_1]
      exact hr
    by_cases c : Sub q s
    · have cb : F_X11_bestByLast t a (nI q) = some (mxB f (tI t (a + 40)) q 9 0 (-1)) := c_best hS (by omega) hN bN (fun b x hb => (hf b x hb).1) 9 0 (-1) xFuel rfl (xF_big (by omega))
      have rd : ∀ q', q' < q + 1 → q' < 512 → ∀ m i y, i + m ≤ 9 → mxB f (tI (tSI t (a + 40) q (mxB f (tI t (a + 40)) q 9 0 (-1))) (a + 40)) q' m i y = mxB f (tI t (a + 40)) q' m i y := fun q' hq' h5 m i y hm => mxB_eq (fun i hi hb => by
        rw [tI_SI, upd_n _ _ (by have := bt3 q' h5 i hi hb; omega)]) m i y hm
      obtain ⟨t', r1, r2, r3, r4⟩ := lp_rich (p := p) hs hN hl0 hw m (q + 1) n (tSI t (a + 40) q (mxB f (tI t (a + 40)) q 9 0 (-1))) (by omega) (by omega) (by omega) (o.tr (Ol.SI _ _ _ (by omega))) (by rw [tI_SI, upd_n _ _ (by omega)]; exact h0) (fun q' g1 g2 g3 => by
        rw [rd q' g2 (by omega) 9 0 (-1) (by omega), tI_SI, upd2]
        by_cases d : q' = q
        · rw [if_pos d, d]
        · rw [if_neg d]; exact hT q' g1 (by omega) g3)
      refine ⟨t', head _ ?_, r2, r3, by rw [r4, tI_SIn _ _ _ _ (by omega)]⟩
      rw [if_pos (bs.2 c), cb]; exact r1
    · obtain ⟨t', r1, r2, r3, r4⟩ := lp_rich (p := p) hs hN hl0 hw m (q + 1) n t (by omega) (by omega) (by omega) o h0 (fun q' g1 g2 g3 => by
        by_cases d : q' = q
        · exact absurd (d ▸ g3) c
        · exact hT q' g1 (by omega) g3)
      exact ⟨t', head _ (by rw [if_neg (fun e => c (bs.1 e))]; exact r1), r2, r3, r4⟩
theorem lp_poor {t0 : xT} {a s N : Nat} {f l : Nat → Int32 → Int32} {p : Int32} (hs : s < 2 ^ N) (hN : N ≤ 9) (hl0 : a + 43 ≤ t0.1) (hw : ∀ t', Ol t0 t' (fun q => a + 40 ≤ q ∧ q ≤ a + 42) (fun _ => False) → Hw t' a f l N) : ∀ m q n t, q + m = s + 1 → 1 ≤ q → m < n → Ol t0 t (fun q => a + 40 ≤ q ∧ q ≤ a + 42) (fun _ => False) → tI t (a + 41) 0 = p → (∀ q', 1 ≤ q' → q' < q → Sub q' s → tI t (a + 41) q' = mnB l (tI t (a + 41)) q' 9 0 (-1)) → ∃ t', F_X11_poorest_l9 n t a (nI s) (nI q) = some (tI t' (a + 41) s, t') ∧ Ol t0 t' (fun q => a + 40 ≤ q ∧ q ≤ a + 42) (fun _ => False) ∧ IsL l p s (tI t' (a + 41))
  | _, _, 0, _, _, _, h, _, _, _ => absurd h (Nat.not_lt_zero _)
  | 0, q, n + 1, t, hq, hq1, _, o, h0, hT => by
    have p9 := pow9 N hN
    have hq : q = s + 1 := by omega
    subst hq
    obtain ⟨hS, -⟩ := hw t o
    obtain ⟨-, -, p12, o41, -, -⟩ := sk_42 hS
    refine ⟨t, ?_, o, ⟨h0, fun q' g1 g2 g3 => hT q' g1 (by omega) g3⟩⟩
    unfold F_X11_poorest_l9 F_X11_poorest_j48
    rw [if_pos (nI_lt (show s < s + 1 by omega) (by omega)), if_pos hS.1, p12, Option.bind_some, c_entry o41.1 o41.2 (show s < 512 by omega) (by decide)]; rfl
  | m + 1, q, n + 1, t, hq, hq1, hm, o, h0, hT => by
    have p9 := pow9 N hN
    obtain ⟨hS, hf⟩ := hw t o
    obtain ⟨-, -, p12, o41, -, -⟩ := sk_42 hS
    have ix : xIn (nI q) 512 := n_xIn (by omega) (by decide)
    have ec : (nI q).toNatClampNeg = q := n_cl (by omega)
    have bs := bt_sub (q := q) (s := s) (by omega) (by omega)
    have bN : ∀ b, b < 9 → q.testBit b = true → b < N := fun b hb h1 => by
      by_cases d : b < N
      · exact d
      · rw [tb_N (N := N) (q := q) (by omega) (by omega)] at h1; exact absurd h1 (by decide)
    have head : ∀ r, (if (nI q &&& (nI s ^^^ (-1 : Int32))) = 0 then (F_X11_leastByFirst t a (nI q)).bind (fun r16 => F_X11_poorest_l9 n (tSI t (a + 41) q r16) a (nI s) (nI (q + 1))) else F_X11_poorest_l9 n t a (nI s) (nI (q + 1))) = some r → F_X11_poorest_l9 (n + 1) t a (nI s) (nI q) = some r := by
      intro r hr
      conv => lhs; unfold F_X11_poorest_l9
      unfold F_X11_poorest_j42
      simp only [xlet, if_neg (nI_nlt (show q ≤ s by omega) (show s < 2 ^ 31 by omega)), if_pos hS.1, p12, Option.bind_some, if_pos o41.1, o41.2, if_neg (nI_ge (show q < 512 by omega) (show 512 < 2 ^ 31 by decide)), if_pos ix, ec, nI_1]
      exact hr
    by_cases c : Sub q s
    · have cb : F_X11_leastByFirst t a (nI q) = some (mnB l (tI t (a + 41)) q 9 0 (-1)) := c_least hS (by omega) hN bN (fun b x hb => (hf b x hb).2) 9 0 (-1) xFuel rfl (xF_big (by omega))
      have rd : ∀ q', q' < q + 1 → q' < 512 → ∀ m i y, i + m ≤ 9 → mnB l (tI (tSI t (a + 41) q (mnB l (tI t (a + 41)) q 9 0 (-1))) (a + 41)) q' m i y = mnB l (tI t (a + 41)) q' m i y := fun q' hq' h5 m i y hm => mnB_eq (fun i hi hb => by
        rw [tI_SI, upd_n _ _ (by have := bt3 q' h5 i hi hb; omega)]) m i y hm
      obtain ⟨t', r1, r2, r3⟩ := lp_poor (p := p) hs hN hl0 hw m (q + 1) n (tSI t (a + 41) q (mnB l (tI t (a + 41)) q 9 0 (-1))) (by omega) (by omega) (by omega) (o.tr (Ol.SI _ _ _ (by omega))) (by rw [tI_SI, upd_n _ _ (by omega)]; exact h0) (fun q' g1 g2 g3 => by
        rw [rd q' g2 (by omega) 9 0 (-1) (by omega), tI_SI, upd2]
        by_cases d : q' = q
        · rw [if_pos d, d]
        · rw [if_neg d]; exact hT q' g1 (by omega) g3)
      refine ⟨t', head _ ?_, r2, r3⟩
      rw [if_pos (bs.2 c), cb]; exact r1
    · obtain ⟨t', r1, r2, r3⟩ := lp_poor (p := p) hs hN hl0 hw m (q + 1) n t (by omega) (by omega) (by omega) o h0 (fun q' g1 g2 g3 => by
        by_cases d : q' = q
        · exact absurd (d ▸ g3) c
        · exact hT q' g1 (by omega) g3)
      exact ⟨t', head _ (by rw [if_neg (fun e => c (bs.1 e))]; exact r1), r2, r3⟩
theorem c_rich {t0 t : xT} {a s N : Nat} {f l : Nat → Int32 → Int32} (p : Int32) (hs : s < 2 ^ N) (hN : N ≤ 9) (hl0 : a + 43 ≤ t0.1) (hw : ∀ t', Ol t0 t' (fun q => a + 40 ≤ q ∧ q ≤ a + 42) (fun _ => False) → Hw t' a f l N) (o : Ol t0 t (fun q => a + 40 ≤ q ∧ q ≤ a + 42) (fun _ => False)) : ∃ t' T, F_X11_richest t a p (nI s) = some (T s, t') ∧ Ol t0 t' (fun q => a + 40 ≤ q ∧ q ≤ a + 42) (fun _ => False) ∧ IsT f p s T := by
  have p9 := pow9 N hN
  obtain ⟨hS, -⟩ := hw t o
  obtain ⟨p11, o40, -, -, -, -⟩ := sk_42 hS
  have x512 : xIn (0 : Int32) 512 := by decide
  obtain ⟨t', r1, r2, r3, -⟩ := lp_rich (p := p) hs hN hl0 hw s 1 xFuel (tSI t (a + 40) 0 p) (by omega) (Nat.le_refl _) (xF_big (by omega)) (o.tr (Ol.SI _ _ _ (by omega))) (by rw [tI_SI, upd_s]) (fun q' g1 g2 => by omega)
  refine ⟨t', tI t' (a + 40), ?_, r2, r3⟩
  unfold F_X11_richest
  simp only [xlet]
  rw [if_pos hS.1, p11, Option.bind_some, if_pos o40.1, o40.2, if_pos x512]
  exact r1
theorem c_poor {t0 t : xT} {a s N : Nat} {f l : Nat → Int32 → Int32} (p : Int32) (hs : s < 2 ^ N) (hN : N ≤ 9) (hl0 : a + 43 ≤ t0.1) (hw : ∀ t', Ol t0 t' (fun q => a + 40 ≤ q ∧ q ≤ a + 42) (fun _ => False) → Hw t' a f l N) (o : Ol t0 t (fun q => a + 40 ≤ q ∧ q ≤ a + 42) (fun _ => False)) : ∃ t', F_X11_poorest t a p (nI s) = some (tI t' (a + 41) s, t') ∧ Ol t0 t' (fun q => a + 40 ≤ q ∧ q ≤ a + 42) (fun _ => False) ∧ IsL l p s (tI t' (a + 41)) := by
  have p9 := pow9 N hN
  obtain ⟨hS, -⟩ := hw t o
  obtain ⟨-, -, p12, o41, -, -⟩ := sk_42 hS
  have x512 : xIn (0 : Int32) 512 := by decide
  obtain ⟨t', r1, r2, r3⟩ := lp_poor (p := p) hs hN hl0 hw s 1 xFuel (tSI t (a + 41) 0 p) (by omega) (Nat.le_refl _) (xF_big (by omega)) (o.tr (Ol.SI _ _ _ (by omega))) (by rw [tI_SI, upd_s]) (fun q' g1 g2 => by omega)
  refine ⟨t', ?_, r2, r3⟩
  unfold F_X11_poorest
  simp only [xlet]
  rw [if_pos hS.1, p12, Option.bind_some, if_pos o41.1, o41.2, if_pos x512]
  exact r1
/-! the reference's -/
theorem lp_in2 {s q : Nat} {S : Nat → Int32} {ls : yLS} {k9 : xS → Int32 → Int32 → Option (Int32 × xS)} (hI : Iv S) (hL : LwS ls S) (hq : q < 512) (hs : s < 512) (hsub : Sub q s) : ∀ m i n u, i + m = nB S → m < n → u.2.1 0 = S → Rg (u.2.1 11 q) → ∃ u', F_X12_richest_l24 k9 n u (nI s) (nI q) (nI i) = k9 u' (nI s) (nI (q + 1)) ∧ Cr u' = Cr u ∧ u'.2.1 0 = S ∧ u'.2.1 11 = upd (u.2.1 11) q (mxB (gS ls S) (u.2.1 11) q m i (u.2.1 11 q))
  | _, _, 0, _, _, h, _, _ => absurd h (Nat.not_lt_zero _)
  | 0, i, n + 1, u, hi, _, hu, hr => by
    have h9 := hI.1.1
    have hi : i = nB S := by omega
    subst hi
    refine ⟨u, ?_, rfl, hu, (upd_same _ _).symm⟩
    conv => lhs; unfold F_X12_richest_l24
    rw [if_pos xi0, cl0, hu, hI.1.2, if_pos (nI_le (Nat.le_refl _) (by omega))]
    unfold F_X12_richest_j125
    simp only [xlet, nI_1]
  | m + 1, i, n + 1, u, hi, hm, hu, hr => by
    have h9 := hI.1.1
    have hib : i < nB S := by omega
    have b1 := bt1 q hq i (by omega)
    have b2 := bt2 q hq i (by omega)
    have cl := clr_le q i
    have iq : xIn (nI q) 512 := n_xIn (by omega) (by decide)
    have eq' : (nI q).toNatClampNeg = q := n_cl (by omega)
    have ic : xIn (nI (clr q i)) 512 := n_xIn (by omega) (by decide)
    have ecl : (nI (clr q i)).toNatClampNeg = clr q i := n_cl (by omega)
    have bs := (bt_sub (q := q) (s := s) hq hs).2 hsub
    -- the entry is written, on with the next
    have nxt : ∀ u1 v, u1.2.1 0 = S → Cr u1 = Cr u → u1.2.1 11 = u.2.1 11 → Rg v → v = (if q.testBit i = true then (if u.2.1 11 q < gS ls S i (u.2.1 11 (clr q i)) then gS ls S i (u.2.1 11 (clr q i)) else u.2.1 11 q) else u.2.1 11 q) → F_X12_richest_l24 k9 (n + 1) u (nI s) (nI q) (nI i) = F_X12_richest_l24 k9 n (mA u1 11 q v) (nI s) (nI q) (nI (i + 1)) → ∃ u', F_X12_richest_l24 k9 (n + 1) u (nI s) (nI q) (nI i) = k9 u' (nI s) (nI (q + 1)) ∧ Cr u' = Cr u ∧ u'.2.1 0 = S ∧ u'.2.1 11 = upd (u.2.1 11) q (mxB (gS ls S) (u.2.1 11) q (m + 1) i (u.2.1 11 q)) := by
      intro u1 v h0 hc h11 hv hve he
      have e11 : (mA u1 11 q v).2.1 11 = upd (u.2.1 11) q v := by rw [mA_s, h11]
      obtain ⟨u', r1, r2, r3, r4⟩ := lp_in2 (k9 := k9) hI hL hq hs hsub m (i + 1) n (mA u1 11 q v) (by omega) (by omega) h0 (by rw [e11, upd_s]; exact hv)
      refine ⟨u', by rw [he]; exact r1, r2.trans hc, r3, ?_⟩
      rw [r4, e11, upd_upd, upd_s]
      congr 1
      rw [mxB_eq (T := u.2.1 11) (fun j hj hb => by rw [upd_n _ _ (by have := bt3 q hq j hj hb; omega)]) m (i + 1) v (by omega), hve]
      rfl
    have j89 : ∀ u1 v, u1.2.1 11 = u.2.1 11 → F_X12_richest_j89 k9 (F_X12_richest_l24 k9 n) u1 (nI s) (nI q) (nI i) v = F_X12_richest_l24 k9 n (mA u1 11 q (if u.2.1 11 q < v then v else u.2.1 11 q)) (nI s) (nI q) (nI (i + 1)) := by
      intro u1 v h11
      unfold F_X12_richest_j89 F_X12_richest_j118
      simp only [xlet, if_pos iq, eq', nI_1, h11]
      by_cases c : v ≤ u.2.1 11 q
      · rw [if_pos c, if_neg (by rw [fa_le] at c; rw [fa_lt]; omega)]
      · rw [if_neg c, if_pos (by rw [fa_le] at c; rw [fa_lt]; omega)]
    have head : F_X12_richest_l24 k9 (n + 1) u (nI s) (nI q) (nI i) = if q.testBit i = true then F_X12_richest_j69 k9 (F_X12_richest_l24 k9 n) u (nI s) (nI q) (nI i) (u.2.1 11 (clr q i)) else F_X12_richest_j69 k9 (F_X12_richest_l24 k9 n) u (nI s) (nI q) (nI i) (-1) := by
      conv => lhs; unfold F_X12_richest_l24
      rw [if_pos xi0, cl0, hu, hI.1.2, if_neg (nI_ge hib (by omega)), if_pos bs]
      unfold F_X12_has F_X12_has_j14
      rw [b1, b2]
      by_cases c : q.testBit i = true
      · rw [if_pos c, if_pos rfl, if_pos (Or.inr rfl), Option.bind_some, if_neg (show ¬ (1 : Int32) = 0 by decide), if_pos ic, ecl, if_pos c]
      · rw [if_neg c, if_neg (show ¬ (0 : Int32) = 1 by decide), if_pos (Or.inl rfl), Option.bind_some, if_pos rfl, if_neg c]
    have no : (if u.2.1 11 q < -1 then (-1 : Int32) else u.2.1 11 q) = u.2.1 11 q := by
      rw [if_neg]; rw [fa_lt]; have := hr.1; show ¬ _ < (-1 : Int); omega
    by_cases c : q.testBit i = true
    · rw [if_pos c] at head
      unfold F_X12_richest_j69 at head
      by_cases d : 0 ≤ u.2.1 11 (clr q i)
      · obtain ⟨u1, a1, e1, f1⟩ := r_b (u.2.1 11 (clr q i)) hu hI hL (k := i) hib
        have h11 : u1.2.1 11 = u.2.1 11 := by
          obtain ⟨g, hg⟩ := r_b32 (x := u.2.1 11 (clr q i)) hu hI hL (k := i) hib
          rw [hg] at a1
          have := congrArg (fun z => z.map Prod.snd) a1
          simp only [Option.map_some, Option.some.injEq] at this
          rw [← this]; rfl
        rw [if_pos d, a1, Option.bind_some, j89 u1 _ h11] at head
        refine nxt u1 _ f1 e1 h11 ?_ (by rw [if_pos c]) head
        by_cases g : u.2.1 11 q < gS ls S i (u.2.1 11 (clr q i))
        · rw [if_pos g]; exact gS_rng _ _ _ _
        · rw [if_neg g]; exact hr
      · rw [if_neg d, j89 u _ rfl, no] at head
        refine nxt u _ hu rfl rfl hr ?_ head
        rw [if_pos c, gS_neg d, no]
    · rw [if_neg c] at head
      unfold F_X12_richest_j69 at head
      rw [if_neg (show ¬ (0 : Int32) ≤ -1 by decide), j89 u _ rfl, no] at head
      exact nxt u _ hu rfl rfl hr (by rw [if_neg c]) head
theorem lp_rich2 {s : Nat} {S : Nat → Int32} {ls : yLS} {p : Int32} (hI : Iv S) (hL : LwS ls S) (hs : s < 2 ^ nB S) : ∀ m q n u, q + m = s + 1 → 1 ≤ q → m < n → u.2.1 0 = S → u.2.1 11 0 = p → (∀ q', 1 ≤ q' → q' < q → Sub q' s → u.2.1 11 q' = mxB (gS ls S) (u.2.1 11) q' 9 0 (-1)) → ∃ u', F_X12_richest_l9 n u (nI s) (nI q) = some (u'.2.1 11 s, u') ∧ Cr u' = Cr u ∧ u'.2.1 0 = S ∧ IsT (gS ls S) p s (u'.2.1 11)
  | _, _, 0, _, _, _, h, _, _, _ => absurd h (Nat.not_lt_zero _)
  | 0, q, n + 1, u, hq, hq1, _, hu, h0, hT => by
    have p9 := pow9 _ hI.1.1
    have hq : q = s + 1 := by omega
    subst hq
    have is : xIn (nI s) 512 := n_xIn (by omega) (by decide)
    have es : (nI s).toNatClampNeg = s := n_cl (by omega)
    refine ⟨u, ?_, rfl, hu, ⟨h0, fun q' g1 g2 g3 => hT q' g1 (by omega) g3⟩⟩
    unfold F_X12_richest_l9
    rw [if_pos (nI_lt (show s < s + 1 by omega) (by omega)), if_pos is, es]
  | m + 1, q, n + 1, u, hq, hq1, hm, hu, h0, hT => by
    have p9 := pow9 _ hI.1.1
    have h9 := hI.1.1
    have iq : xIn (nI q) 512 := n_xIn (by omega) (by decide)
    have eq' : (nI q).toNatClampNeg = q := n_cl (by omega)
    have bs := bt_sub (q := q) (s := s) (by omega) (by omega)
    have head : F_X12_richest_l9 (n + 1) u (nI s) (nI q) = F_X12_richest_l24 (F_X12_richest_l9 n) xFuel (mA u 11 q (-1)) (nI s) (nI q) (nI 0) := by
      conv => lhs; unfold F_X12_richest_l9
      simp only [xlet]
      rw [if_neg (nI_nlt (show q ≤ s by omega) (by omega)), if_pos iq, eq']
      rfl
    have e11 : (mA u 11 q (-1)).2.1 11 = upd (u.2.1 11) q (-1) := rfl
    have go : ∀ u1, Cr u1 = Cr u → u1.2.1 0 = S → (∀ q', q' ≠ q → u1.2.1 11 q' = u.2.1 11 q') → (Sub q s → u1.2.1 11 q = mxB (gS ls S) (u.2.1 11) q 9 0 (-1)) → F_X12_richest_l9 (n + 1) u (nI s) (nI q) = F_X12_richest_l9 n u1 (nI s) (nI (q + 1)) → ∃ u', F_X12_richest_l9 (n + 1) u (nI s) (nI q) = some (u'.2.1 11 s, u') ∧ Cr u' = Cr u ∧ u'.2.1 0 = S ∧ IsT (gS ls S) p s (u'.2.1 11) := by
      intro u1 hc h1 hne heq he
      have rd : ∀ q', q' < q + 1 → q' < 512 → mxB (gS ls S) (u1.2.1 11) q' 9 0 (-1) = mxB (gS ls S) (u.2.1 11) q' 9 0 (-1) := fun q' hq' h5 => mxB_eq (fun i hi hb => hne _ (by have := bt3 q' h5 i hi hb; omega)) 9 0 _ (by omega)
      obtain ⟨u', r1, r2, r3, r4⟩ := lp_rich2 (p := p) hI hL hs m (q + 1) n u1 (by omega) (by omega) (by omega) h1 (by rw [hne 0 (by omega)]; exact h0) (fun q' g1 g2 g3 => by
        rw [rd q' g2 (by omega)]
        by_cases d : q' = q
        · rw [d]; exact heq (d ▸ g3)
        · rw [hne q' d]; exact hT q' g1 (by omega) g3)
      exact ⟨u', by rw [he]; exact r1, r2.trans hc, r3, r4⟩
    by_cases c : Sub q s
    · obtain ⟨u1, r1, r2, r3, r4⟩ := lp_in2 (k9 := F_X12_richest_l9 n) hI hL (show q < 512 by omega) (show s < 512 by omega) c (nB S) 0 xFuel (mA u 11 q (-1)) (by omega) (xF_big (by omega)) hu (by rw [e11, upd_s]; exact Rg.m1)
      refine go u1 r2 r3 (fun q' hq' => by rw [r4, upd_n _ _ hq', e11, upd_n _ _ hq']) (fun _ => ?_) (head.trans r1)
      rw [r4, upd_s, e11, upd_s, mxB_eq (T := u.2.1 11) (fun j hj hb => by rw [upd_n _ _ (by have := bt3 q (by omega) j hj hb; omega)]) (nB S) 0 (-1) (by omega)]
      have := mxB_cut (f := gS ls S) (T := u.2.1 11) (q := q) (9 - nB S) (nB S) 0 (-1) (fun b b1 b2 => tb_N (N := nB S) (by omega) (by omega))
      rw [show nB S + (9 - nB S) = 9 by omega] at this
      exact this.symm
    · refine go (mA u 11 q (-1)) rfl hu (fun q' hq' => by rw [e11, upd_n _ _ hq']) (fun h => absurd h c) ?_
      rw [head]
      show F_X12_richest_l24 (F_X12_richest_l9 n) (999999 + 1) (mA u 11 q (-1)) (nI s) (nI q) (nI 0) = _
      conv => lhs; unfold F_X12_richest_l24
      have n0 : ¬ (nI q &&& (nI s ^^^ (-1 : Int32))) = 0 := fun e => c (bs.1 e)
      rw [if_pos xi0, if_neg n0]
      unfold F_X12_richest_j125
      simp only [xlet, nI_1]
      by_cases d : (mA u 11 q (-1)).2.1 0 (0 : Int32).toNatClampNeg ≤ nI 0
      · rw [if_pos d]
      · rw [if_neg d]
theorem r_rich {s : Nat} {S : Nat → Int32} {ls : yLS} {u : xS} (p : Int32) (hI : Iv S) (hL : LwS ls S) (hs : s < 2 ^ nB S) (hu : u.2.1 0 = S) : ∃ u' T, F_X12_richest u p (nI s) = some (T s, u') ∧ Cr u' = Cr u ∧ u'.2.1 0 = S ∧ IsT (gS ls S) p s T := by
  have p9 := pow9 _ hI.1.1
  have x512 : xIn (0 : Int32) 512 := by decide
  have e11 : (mA u 11 0 p).2.1 11 = upd (u.2.1 11) 0 p := rfl
  obtain ⟨u', r1, r2, r3, r4⟩ := lp_rich2 (p := p) hI hL hs s 1 xFuel (mA u 11 0 p) (by omega) (Nat.le_refl _) (xF_big (by omega)) hu (by rw [e11, upd_s]) (fun q' g1 g2 => by omega)
  refine ⟨u', u'.2.1 11, ?_, r2, r3, r4⟩
  unfold F_X12_richest
  simp only [xlet]
  rw [if_pos x512]
  exact r1
theorem d_set {t : xT} {a : Nat} {u : xS} (hS : SkC t a) (hI : Iv (u.2.1 0)) (hR : RdC t (a + 1) (u.2.1 0)) (z : Int32) : (F_X7_isSet t (a + 1) z = some 0 ∧ F_X12_isSet u z = some 0) ∨ ∃ s, s < 2 ^ nB (u.2.1 0) ∧ z = nI s ∧ F_X7_isSet t (a + 1) z = some 1 ∧ F_X12_isSet u z = some 1 := by
  have p9 := pow9 _ hI.1.1
  have e0 := bt0 _ hI.1.1
  have k7 : tK t (a + 1) = 7 := hS.2.2.2.2.2.2.2.2.2.2.2.2.1.1
  have e1 : tI t (a + 1) 1 = nI (nB (u.2.1 0)) := hR.1.trans hI.1.2
  have ref : ∀ x, F_X12_in z.toInt64 0 ((nI (2 ^ nB (u.2.1 0)) - 1).toInt64) = some x → F_X12_isSet u z = some x := by
    intro x hx
    unfold F_X12_isSet
    rw [if_pos xi0, cl0, hI.1.2, e0, hx]; rfl
  rcases pk_ix z (n := 2 ^ nB (u.2.1 0)) (by omega) with c | c | ⟨s, hs, rfl⟩
  · refine Or.inl ⟨?_, ref _ (n_inN _ (by omega) (Or.inl c))⟩
    unfold F_X7_isSet F_X7_isSet_j18 F_X7_isSet_j19
    rw [if_pos c, if_pos (Or.inl rfl)]
  · refine Or.inl ⟨?_, ref _ (n_inN _ (by omega) (Or.inr c))⟩
    unfold F_X7_isSet F_X7_isSet_j18 F_X7_isSet_j19
    by_cases d : z < 0
    · rw [if_pos d, if_pos (Or.inl rfl)]
    · rw [if_neg d, if_pos k7, e1, e0, if_pos c, if_pos (Or.inl rfl)]
  · refine Or.inr ⟨s, hs, rfl, ?_, ref _ (n_inY (by omega) hs)⟩
    unfold F_X7_isSet F_X7_isSet_j19
    rw [if_neg (nI_pos (by omega)), if_pos k7, e1, e0, if_neg (nI_ge hs (by omega)), if_pos (Or.inr rfl)]
theorem Sub.rf (s : Nat) : Sub s s := fun _ _ h => h
theorem st_rich : sT_rich RR := by
  intro t a u z0 z1 hR
  obtain ⟨B, ls0, hk, hp, hk1, hS, hI, hRd, hL0, hBg, hSt⟩ := hR.rd
  obtain ⟨ls, hL, hw⟩ := hw_of hR
  have p9 := pow9 _ hI.1.1
  rcases d_purse z0 with ⟨p1, p2⟩ | ⟨p1, p2, p3, p4⟩
  · exact ⟨-1, t, u, by simp only [F_X11_rich, F_X11_rich_j18, p1, Option.bind_some, if_true], by simp only [F_X12_rich, F_X12_rich_j28, F_X12_rich_j29, p2, Option.bind_some, if_true], hR⟩
  rcases d_set hS hI hRd z1 with ⟨s1, s2⟩ | ⟨s, hs, rfl, s1, s2⟩
  · exact ⟨-1, t, u, by simp only [F_X11_rich, F_X11_rich_j18, p1, Option.bind_some, n10, if_false, hk, hp, hk1, if_true, s1], by simp only [F_X12_rich, F_X12_rich_j28, F_X12_rich_j29, p2, s2, Option.bind_some, n10, if_false, if_true], hR⟩
  obtain ⟨t', T, r1, r2, r3⟩ := c_rich z0 hs hI.1.1 hS.lt hw (Ol.rf _ _ _)
  obtain ⟨u', T', q1, q2, -, q4⟩ := r_rich (u := u) z0 hI hL hs rfl
  have e := T_uniq (by omega) r3 q4 (s + 1) s (by omega) (Nat.le_refl _) (Sub.rf s)
  rw [e] at q1
  refine ⟨if 0 ≤ T s then T s else -3, t', u', ?_, ?_, (hR.scratch r2).scr q2⟩
  · simp only [F_X11_rich, F_X11_rich_j37, p1, Option.bind_some, n10, if_false, hk, hp, hk1, if_true, s1, r1]
    by_cases c : 0 ≤ T s
    · rw [if_pos c, if_pos c]
    · rw [if_neg c, if_neg c]
  · simp only [F_X12_rich, F_X12_rich_j29, p2, s2, Option.bind_some, n10, if_false, q1, n_none]
theorem lp_poor2 {s : Nat} {S : Nat → Int32} {ls : yLS} {T : Int32} (hI : Iv S) (hL : LwS ls S) (hs : s < 2 ^ nB S) (hT : ∀ v, Pu v → ∀ Tb, IsT (gS ls S) v s Tb → ((Tb s).toInt < 0 ↔ v.toInt < T.toInt)) : ∀ K lo hi n u, hi.toInt - lo.toInt ≤ (2 : Int) ^ K → K < n → -1 ≤ lo.toInt → lo.toInt < T.toInt → T.toInt ≤ hi.toInt → hi.toInt ≤ 1000000000 → u.2.1 0 = S → ∃ u', F_X12_poor_l28 n u (nI s) lo hi = some (T, u') ∧ Cr u' = Cr u
  | _, _, _, 0, _, _, h, _, _, _, _, _ => absurd h (Nat.not_lt_zero _)
  | K, lo, hi, n + 1, u, hd, hK, h1, h2, h3, h4, hu => by
    have es : (hi - lo).toInt = hi.toInt - lo.toInt := by rw [fb_subI] <;> omega
    by_cases c : hi.toInt - lo.toInt ≤ 1
    · have : hi = T := Int32.toInt_inj.1 (by omega)
      refine ⟨u, ?_, rfl⟩
      unfold F_X12_poor_l28
      rw [if_pos (by rw [fa_le, es]; exact c), this]
    · have hm := n_mid (lo := lo) (hi := hi) h1 (by omega) h4
      generalize hV : (lo + hi) / 2 = V at hm
      have hV2 : lo.toInt < V.toInt ∧ V.toInt < hi.toInt := by omega
      obtain ⟨u1, Tb, q1, q2, q3, q4⟩ := r_rich (u := u) V hI hL hs hu
      cases K with
      | zero => simp at hd; omega
      | succ K =>
        have hp : (2 : Int) ^ (K + 1) = 2 * 2 ^ K := by rw [Int.pow_succ, Int.mul_comm]
        rw [hp] at hd
        have hT' := hT V ⟨by omega, by omega⟩ Tb q4
        by_cases d : (Tb s).toInt < 0
        · obtain ⟨u', g1, g2⟩ := lp_poor2 hI hL hs hT K V hi n u1 (by omega) (by omega) (by omega) (hT'.1 d) h3 h4 q3
          refine ⟨u', ?_, g2.trans q2⟩
          unfold F_X12_poor_l28 F_X12_poor_j61
          simp only [xlet]
          rw [if_neg (by rw [fa_le, es]; exact c), hV, q1, Option.bind_some, if_neg (show ¬ 0 ≤ Tb s by rw [n_le0]; omega)]
          exact g1
        · obtain ⟨u', g1, g2⟩ := lp_poor2 hI hL hs hT K lo V n u1 (by omega) (by omega) h1 h2 (by have := mt hT'.2 d; omega) (by omega) q3
          refine ⟨u', ?_, g2.trans q2⟩
          unfold F_X12_poor_l28 F_X12_poor_j61
          simp only [xlet]
          rw [if_neg (by rw [fa_le, es]; exact c), hV, q1, Option.bind_some, if_pos (show 0 ≤ Tb s by rw [n_le0]; omega)]
          exact g1
/-- from the richest to the least purse, and back -/
theorem rich_least {ls : yLS} {S : Nat → Int32} {s q : Nat} {g p : Int32} {T L : Nat → Int32} (hI : Iv S) (hL : LwS ls S) (hs : s < 2 ^ nB S) (hg : Pu g) (hp : Pu p) {s' : Nat} (hs' : s' < 2 ^ nB S) (hT : IsT (gS ls S) p s' T) (hLs : IsL (lS ls S) g s L) (hq : q ≤ s) (hqs : Sub q s) (hq' : q ≤ s') (hqs' : Sub q s') : g.toInt ≤ (T q).toInt ↔ 0 ≤ (L q).toInt ∧ (L q).toInt ≤ p.toInt := by
  have G : GalN (gS ls S) (lS ls S) (nB S) := fun b hb => gal_S hI hL hb
  obtain ⟨a1, a2, a3⟩ := best_1 G hs' hI.1.1 hp hT (q + 1) q (by omega) hq' hqs'
  obtain ⟨b1, b2⟩ := least_1 G (fun b => lS_neg) hs hI.1.1 hg hLs (q + 1) q (by omega) hq hqs
  rw [b2 p hp]
  constructor
  · intro h
    rcases a3 with a3 | ⟨o, o1, o2⟩
    · have := hg.1; omega
    · exact ⟨o, o1, by rw [o2]; exact h⟩
  · intro ⟨o, o1, o2⟩
    have := (a2 o o1).1
    omega
theorem st_poor : sT_poor RR := by
  intro t a u z0 hR
  obtain ⟨B, ls0, hk, hp, hk1, hS, hI, hRd, hL0, hBg, hSt⟩ := hR.rd
  obtain ⟨ls, hL, hw⟩ := hw_of hR
  have p9 := pow9 _ hI.1.1
  rcases d_set hS hI hRd z0 with ⟨s1, s2⟩ | ⟨s, hs, rfl, s1, s2⟩
  · exact ⟨-1, t, u, by simp only [F_X11_poor, hk, hp, hk1, if_true, s1, Option.bind_some], by simp only [F_X12_poor, s2, Option.bind_some, if_true], hR⟩
  have z : Pu 0 := ⟨by decide, by decide⟩
  obtain ⟨t', r1, r2, r3⟩ := c_poor 0 hs hI.1.1 hS.lt hw (Ol.rf _ _ _)
  obtain ⟨u1, T1, q1, q2, q3, q4⟩ := r_rich (u := u) 1000000000 hI hL hs rfl
  have G : GalN (gS ls (u.2.1 0)) (lS ls (u.2.1 0)) (nB (u.2.1 0)) := fun b hb => gal_S hI hL hb
  have rgL := (least_1 G (fun b => lS_neg) hs hI.1.1 z r3 (s + 1) s (by omega) (Nat.le_refl _) (Sub.rf s)).1
  generalize hTT : tI t' (a + 41) s = T at *
  have key : ∀ v, Pu v → ∀ Tb, IsT (gS ls (u.2.1 0)) v s Tb → (0 ≤ (Tb s).toInt ↔ 0 ≤ T.toInt ∧ T.toInt ≤ v.toInt) := fun v hv Tb hTb => by
    have := rich_least hI hL hs z hv hs hTb r3 (Nat.le_refl s) (Sub.rf s) (Nat.le_refl s) (Sub.rf s)
    rw [hTT] at this
    exact this
  have e9 : (1000000000 : Int32).toInt = 1000000000 := rfl
  have top := key 1000000000 ⟨by decide, by decide⟩ T1 q4
  rw [e9] at top
  have cls : ∀ v, (if 0 ≤ T then some (T, t') else some ((-3 : Int32), t')) = some (v, t') → F_X11_poor t a (nI s) = some (v, t') := by
    intro v hv
    simp only [F_X11_poor, F_X11_poor_j30, hk, hp, hk1, if_true, s1, Option.bind_some, n10, if_false, r1]
    exact hv
  by_cases c : (T1 s).toInt < 0
  · have T0 : T.toInt < 0 := by have := rgL.2; omega
    refine ⟨-3, t', u1, cls _ (by rw [if_neg (show ¬ 0 ≤ T by rw [n_le0]; omega)]), ?_, (hR.scratch r2).scr q2⟩
    unfold F_X12_poor
    rw [s2, Option.bind_some, if_neg (show ¬ (1 : Int32) = 0 by decide), q1, Option.bind_some, if_neg (show ¬ 0 ≤ T1 s by rw [n_le0]; omega)]
  · have T0 := (top.1 (by omega)).1
    obtain ⟨u', g1, g2⟩ := lp_poor2 (T := T) hI hL hs (fun v hv Tb hTb => by have := key v hv Tb hTb; omega) 30 (-1) 1000000000 xFuel u1 (by decide) (xF_big (by omega)) (by decide) (by show (-1 : Int) < _; omega) (by rw [e9]; exact rgL.2) (by decide) q3
    refine ⟨T, t', u', cls _ (by rw [if_pos (show 0 ≤ T by rw [n_le0]; exact T0)]), ?_, (hR.scratch r2).scr (g2.trans q2)⟩
    unfold F_X12_poor
    rw [s2, Option.bind_some, if_neg (show ¬ (1 : Int32) = 0 by decide), q1, Option.bind_some, if_pos (show 0 ≤ T1 s by rw [n_le0]; omega)]
    exact g1
