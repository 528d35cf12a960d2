/-! ===== pure mathematics 30: order ===== -/
def okO (f : Nat → Int32 → Int32) (L : Nat → Int32) (q : Nat) (x : Int32) (b : Nat) : Bool := q.testBit b && decide (0 ≤ (L (clr q b)).toInt ∧ (L (clr q b)).toInt ≤ (f b x).toInt)
theorem okO_t {f : Nat → Int32 → Int32} {L : Nat → Int32} {q : Nat} {x : Int32} {b : Nat} : okO f L q x b = true ↔ q.testBit b = true ∧ 0 ≤ (L (clr q b)).toInt ∧ (L (clr q b)).toInt ≤ (f b x).toInt := by
  unfold okO
  rw [Bool.and_eq_true, decide_eq_true_eq]
theorem fnd_cut {P : Nat → Bool} (m' : Nat) : ∀ m i, (∀ b, i + m ≤ b → b < i + m + m' → P b = false) → fnd P (m + m') i = fnd P m i
  | 0, i, h => by
    rw [Nat.zero_add]
    have : ∀ m' i, (∀ b, i ≤ b → b < i + m' → P b = false) → fnd P m' i = -1 := by
      intro m'
      induction m' with
      | zero => intro i _; rfl
      | succ m' ih => intro i h; unfold fnd; rw [if_neg (by rw [h i (Nat.le_refl _) (by omega)]; decide)]; exact ih (i + 1) (fun b b1 b2 => h b (by omega) (by omega))
    exact this m' i (fun b b1 b2 => h b (by omega) (by omega))
  | m + 1, i, h => by
    rw [show m + 1 + m' = (m + m') + 1 by omega]
    unfold fnd
    by_cases c : P i = true
    · rw [if_pos c, if_pos c]
    · rw [if_neg c, if_neg c]; exact fnd_cut m' m (i + 1) (fun b b1 b2 => h b (by omega) (by omega))
theorem lp_fio {t : xT} {a q N : Nat} {f : Nat → Int32 → Int32} {x : Int32} (hS : SkC t a) (hq : q < 512) (hb : ∀ b, b < 9 → q.testBit b = true → b < N) (hf : ∀ b x, b < N → F_X11_behindOf t a (nI b) x = some (f b x)) : ∀ m i n, i + m = 9 → m < n → F_X11_firstInOrder_l2 n t a x (nI q) (nI i) = some (fnd (okO f (tI t (a + 41)) q x) m i)
  | _, _, 0, _, h => absurd h (Nat.not_lt_zero _)
  | 0, i, n + 1, hi, _ => by
    have hi : i = 9 := by omega
    subst hi
    unfold F_X11_firstInOrder_l2
    rw [if_pos (show (9 : Int32) ≤ nI 9 by decide)]; rfl
  | m + 1, i, n + 1, hi, hm => by
    obtain ⟨-, -, p12, o41, -, -⟩ := sk_42 hS
    have b1 := bt1 q hq i (by omega)
    have b2 := bt2 q hq i (by omega)
    have cl := clr_le q i
    have nxt := lp_fio (x := x) hS hq hb hf m (i + 1) n (by omega) (by omega)
    unfold F_X11_firstInOrder_l2 F_X11_firstInOrder_j44 fnd
    simp only [xlet, nI_1]
    rw [if_neg (show ¬ (9 : Int32) ≤ nI i from nI_ge (a := i) (b := 9) (by omega) (by decide)), b1, b2]
    by_cases c : q.testBit i = true
    · rw [if_pos c, if_neg (show ¬ (1 : Int32) = 0 by decide), if_pos hS.1, hf i _ (hb i (by omega) c), Option.bind_some, p12, Option.bind_some, c_entry o41.1 o41.2 (show clr q i < 512 by omega) (by decide), Option.bind_some, c_suf, Option.bind_some]
      by_cases d : 0 ≤ (tI t (a + 41) (clr q i)).toInt ∧ (tI t (a + 41) (clr q i)).toInt ≤ (f i x).toInt
      · rw [if_pos d, if_neg (show ¬ (1 : Int32) = 0 by decide), if_pos (okO_t.2 ⟨c, d⟩)]
      · rw [if_neg d, if_pos rfl, if_neg (fun h => d (okO_t.1 h).2)]; exact nxt
    · rw [if_neg c, if_pos rfl, if_neg (fun h => c (okO_t.1 h).1)]; exact nxt
/-- where an order stands -/
def InO (f : Nat → Int32 → Int32) (s q : Nat) (M x : Int32) : Prop := q ≤ s ∧ Sub q s ∧ Pu x ∧ (∀ o, Ord q o → (run f o x).toInt ≤ M.toInt) ∧ ∃ o, Ord q o ∧ M.toInt ≤ (run f o x).toInt
theorem in_step {ls : yLS} {S : Nat → Int32} {s q : Nat} {M x : Int32} {L : Nat → Int32} (hI : Iv S) (hL : LwS ls S) (hs : s < 2 ^ nB S) (hM : Pu M) (hLs : IsL (lS ls S) M s L) (hi : InO (gS ls S) s q M x) {b : Nat} (hb9 : b < 9) (hb : okO (gS ls S) L q x b = true) : InO (gS ls S) s (clr q b) M (gS ls S b x) := by
  have p9 := pow9 _ hI.1.1
  obtain ⟨h1, h2, h3, h4, h5⟩ := hi
  obtain ⟨t1, t2, t3⟩ := okO_t.1 hb
  have G : GalN (gS ls S) (lS ls S) (nB S) := fun b hb => gal_S hI hL hb
  have cl := clr_le q b
  have sb := h2.clr (by omega) hb9
  have fx := gS_rng ls S b x
  have px : Pu (gS ls S b x) := ⟨by omega, fx.2⟩
  obtain ⟨-, l2⟩ := least_1 G (fun b => lS_neg) hs hI.1.1 hM hLs (clr q b + 1) (clr q b) (by omega) (by omega) sb
  exact ⟨by omega, sb, px, fun o ho => h4 (b :: o) ⟨hb9, t1, ho⟩, (l2 _ px).1 ⟨t2, t3⟩⟩
theorem in_ex {ls : yLS} {S : Nat → Int32} {s q : Nat} {M x : Int32} {L : Nat → Int32} (hI : Iv S) (hL : LwS ls S) (hs : s < 2 ^ nB S) (hM : Pu M) (hLs : IsL (lS ls S) M s L) (hi : InO (gS ls S) s q M x) (hq : q ≠ 0) : ∃ b, b < nB S ∧ okO (gS ls S) L q x b = true := by
  have p9 := pow9 _ hI.1.1
  have h9 := hI.1.1
  obtain ⟨h1, h2, h3, h4, o, ho, h5⟩ := hi
  have G : GalN (gS ls S) (lS ls S) (nB S) := fun b hb => gal_S hI hL hb
  cases o with
  | nil => exact absurd ho hq
  | cons b o =>
    obtain ⟨b9, t1, ho'⟩ := ho
    have cl := clr_le q b
    have bN : b < nB S := by
      by_cases d : b < nB S
      · exact d
      · rw [tb_N (N := nB S) (q := q) (by omega) (by omega)] at t1; exact absurd t1 (by decide)
    have fx := gS_rng ls S b x
    have f0 : 0 ≤ (gS ls S b x).toInt := by
      by_cases d : (gS ls S b x).toInt < 0
      · have := run_neg G o (gS ls S b x) (ord_N o (clr q b) (by omega) (by omega) ho') d
        have h5 : M.toInt ≤ (run (gS ls S) o (gS ls S b x)).toInt := h5
        have := hM.1
        omega
      · omega
    obtain ⟨-, l2⟩ := least_1 G (fun b => lS_neg) hs hI.1.1 hM hLs (clr q b + 1) (clr q b) (by omega) (by omega) (h2.clr (by omega) b9)
    exact ⟨b, bN, okO_t.2 ⟨t1, (l2 _ ⟨f0, fx.2⟩).2 ⟨o, ho', h5⟩⟩⟩
theorem lp_ord2 {ls : yLS} {S : Nat → Int32} {s q : Nat} {M x I k : Int32} {L : Nat → Int32} {k50 : xS → Int32 → Int32 → Int32 → Int32 → Int32 → Int32 → Option (Int32 × xS)} (hI : Iv S) (hL : LwS ls S) (hs : s < 2 ^ nB S) (hM : Pu M) (hLs : IsL (lS ls S) M s L) (hi0 : InO (gS ls S) s q M x) : ∀ m i n u, i + m = nB S → m + 1 < n → u.2.1 0 = S → ∃ u', F_X12_order_l67 k50 n u I M (nI q) x (-1) k (nI i) = F_X12_order_j147 k50 u' I M (nI q) x (fnd (okO (gS ls S) L q x) m i) k ∧ Cr u' = Cr u ∧ u'.2.1 0 = S
  | _, _, 0, _, _, h, _ => absurd h (Nat.not_lt_zero _)
  | 0, i, n + 1, u, hi, _, hu => by
    have h9 := hI.1.1
    have hi : i = nB S := by omega
    subst hi
    refine ⟨u, ?_, rfl, hu⟩
    conv => lhs; unfold F_X12_order_l67
    rw [if_pos xi0, cl0, hu, hI.1.2, if_pos (nI_le (Nat.le_refl _) (by omega))]; rfl
  | m + 1, i, n + 1, u, hi, hm, hu => by
    have h9 := hI.1.1
    have p9 := pow9 _ hI.1.1
    have hib : i < nB S := by omega
    obtain ⟨h1, h2, h3, h4, h5⟩ := hi0
    have hi0 : InO (gS ls S) s q M x := ⟨h1, h2, h3, h4, h5⟩
    have b1 := bt1 q (by omega) i (by omega)
    have b2 := bt2 q (by omega) i (by omega)
    have cl := clr_le q i
    have G : GalN (gS ls S) (lS ls S) (nB S) := fun b hb => gal_S hI hL hb
    have n10' : ¬ (1 : Int32) = 0 := by decide
    have nxt : ∀ u1, u1.2.1 0 = S → Cr u1 = Cr u → fnd (okO (gS ls S) L q x) (m + 1) i = fnd (okO (gS ls S) L q x) m (i + 1) → F_X12_order_l67 k50 (n + 1) u I M (nI q) x (-1) k (nI i) = F_X12_order_l67 k50 n u1 I M (nI q) x (-1) k (nI (i + 1)) → ∃ u', F_X12_order_l67 k50 (n + 1) u I M (nI q) x (-1) k (nI i) = F_X12_order_j147 k50 u' I M (nI q) x (fnd (okO (gS ls S) L q x) (m + 1) i) k ∧ Cr u' = Cr u ∧ u'.2.1 0 = S := by
      intro u1 hu1 hc1 hf he
      obtain ⟨u', r1, r2, r3⟩ := lp_ord2 (I := I) (k := k) (k50 := k50) hI hL hs hM hLs hi0 m (i + 1) n u1 (by omega) (by omega) hu1
      exact ⟨u', by rw [he, hf]; exact r1, r2.trans hc1, r3⟩
    have j138 : ∀ u1, F_X12_order_j138 k50 (F_X12_order_l67 k50 n) u1 I M (nI q) x k (nI i) = F_X12_order_l67 k50 n u1 I M (nI q) x (-1) k (nI (i + 1)) := fun u1 => by
      unfold F_X12_order_j138 F_X12_order_j139
      simp only [xlet, nI_1]
    have fno : okO (gS ls S) L q x i = false → fnd (okO (gS ls S) L q x) (m + 1) i = fnd (okO (gS ls S) L q x) m (i + 1) := fun h => by
      conv => lhs; unfold fnd
      rw [if_neg (by rw [h]; decide)]
    have head : F_X12_order_l67 k50 (n + 1) u I M (nI q) x (-1) k (nI i) = if q.testBit i = true then (F_X12_becomes u (nI i) x.toInt64).bind (fun r20 => F_X12_order_j106 k50 (F_X12_order_l67 k50 n) r20.2 I M (nI q) x k (nI i) r20.1) else F_X12_order_j106 k50 (F_X12_order_l67 k50 n) u I M (nI q) x k (nI i) (-1) := by
      conv => lhs; unfold F_X12_order_l67
      rw [if_pos xi0, cl0, hu, hI.1.2, if_neg (nI_ge hib (by omega)), if_neg (show ¬ (0 : Int32) ≤ -1 by decide)]
      unfold F_X12_has F_X12_has_j14
      rw [b1]
      by_cases c : q.testBit i = true
      · rw [if_pos c, if_pos rfl, if_pos (Or.inr rfl), Option.bind_some, if_neg n10', if_pos c]
      · rw [if_neg c, if_neg (show ¬ (0 : Int32) = 1 by decide), if_pos (Or.inl rfl), Option.bind_some, if_pos rfl, if_neg c]
    by_cases c : q.testBit i = true
    · rw [if_pos c] at head
      obtain ⟨u1, a1, e1, f1⟩ := r_b x hu hI hL (k := i) hib
      rw [a1, Option.bind_some] at head
      have fx := gS_rng ls S i x
      by_cases d : gS ls S i x < 0
      · refine nxt u1 f1 e1 (fno ?_) ?_
        · rw [← Bool.not_eq_true, okO_t]; rw [lt0] at d; omega
        · rw [head]
          unfold F_X12_order_j106
          rw [if_pos d, j138]
      · rw [lt0] at d
        have px : Pu (gS ls S i x) := ⟨by omega, fx.2⟩
        obtain ⟨u2, T, q1, q2, q3, q4⟩ := r_rich (s := clr q i) (u := u1) (gS ls S i x) hI hL (by omega) f1
        have rl := rich_least (q := clr q i) hI hL hs hM px (s' := clr q i) (by omega) q4 hLs (by omega) (h2.clr (by omega) (by omega)) (Nat.le_refl _) (Sub.rf _)
        have up : (T (clr q i)).toInt ≤ M.toInt := by
          obtain ⟨-, -, b3⟩ := best_1 G (show clr q i < 2 ^ nB S by omega) hI.1.1 px q4 (clr q i + 1) (clr q i) (by omega) (Nat.le_refl _) (Sub.rf _)
          rcases b3 with b3 | ⟨o, o1, o2⟩
          · have := hM.1; omega
          · rw [← o2]; exact h4 (i :: o) ⟨by omega, c, o1⟩
        have head2 : F_X12_order_l67 k50 (n + 1) u I M (nI q) x (-1) k (nI i) = if T (clr q i) = M then F_X12_order_j139 k50 (F_X12_order_l67 k50 n) u2 I M (nI q) x k (nI i) (nI i) else F_X12_order_j138 k50 (F_X12_order_l67 k50 n) u2 I M (nI q) x k (nI i) := by
          rw [head]
          unfold F_X12_order_j106
          rw [if_neg (show ¬ gS ls S i x < 0 by rw [lt0]; exact d), b2, q1]; rfl
        by_cases g : T (clr q i) = M
        · have ok : okO (gS ls S) L q x i = true := okO_t.2 ⟨c, rl.1 (by rw [g]; omega)⟩
          refine ⟨u2, ?_, q2.trans e1, q3⟩
          conv => rhs; unfold fnd
          rw [if_pos ok, head2, if_pos g]
          unfold F_X12_order_j139
          simp only [xlet]
          obtain ⟨n, rfl⟩ : ∃ n', n = n' + 1 := ⟨n - 1, by omega⟩
          conv => lhs; unfold F_X12_order_l67
          rw [if_pos xi0]
          by_cases w : u2.2.1 0 (0 : Int32).toNatClampNeg ≤ nI i + 1
          · rw [if_pos w]
          · rw [if_neg w, if_pos (nI_pos' (by omega))]
        · refine nxt u2 q3 (q2.trans e1) (fno ?_) ?_
          · rw [← Bool.not_eq_true, okO_t]
            intro h
            exact g (Int32.toInt_inj.1 (Int.le_antisymm up (rl.2 h.2)))
          · rw [head2, if_neg g, j138]
    · rw [if_neg c] at head
      refine nxt u hu rfl (fno ?_) ?_
      · rw [← Bool.not_eq_true, okO_t]; exact fun h => c h.1
      · rw [head]
        unfold F_X12_order_j106
        rw [if_pos (show (-1 : Int32) < 0 by decide), j138]
/-- one bridge of the order, on both sides -/
theorem ord_stepB {t : xT} {a : Nat} {ls : yLS} {S : Nat → Int32} {s q : Nat} {M x I k : Int32} {u : xS} {k50 : xS → Int32 → Int32 → Int32 → Int32 → Int32 → Int32 → Option (Int32 × xS)} (hH : Hw t a (gS ls S) (lS ls S) (nB S)) (hI : Iv S) (hL : LwS ls S) (hs : s < 2 ^ nB S) (hM : Pu M) (hLs : IsL (lS ls S) M s (tI t (a + 41))) (hi : InO (gS ls S) s q M x) (hq : q ≠ 0) (hu : u.2.1 0 = S) : ∃ b u' u2, b < nB S ∧ F_X11_firstInOrder t a x (nI q) = some (nI b) ∧ F_X12_order_l67 k50 xFuel u I M (nI q) x (-1) k 0 = F_X12_order_j147 k50 u' I M (nI q) x (nI b) k ∧ Cr u' = Cr u ∧ InO (gS ls S) s (clr q b) M (gS ls S b x) ∧ pc (clr q b) + 1 = pc q ∧ F_X12_becomes u' (nI b) x.toInt64 = some (gS ls S b x, u2) ∧ Cr u2 = Cr u' ∧ u2.2.1 0 = S := by
  have h9 := hI.1.1
  have p9 := pow9 _ hI.1.1
  have h1 := hi.1
  obtain ⟨b, b1, b2⟩ := in_ex hI hL hs hM hLs hi hq
  obtain ⟨b', c1, c2, c3, c4⟩ := fnd_s (P := okO (gS ls S) (tI t (a + 41)) q x) (nB S) 0 ⟨b, Nat.zero_le _, by omega, b2⟩
  obtain ⟨u', r1, r2, r3⟩ := lp_ord2 (I := I) (k := k) (k50 := k50) hI hL hs hM hLs hi (nB S) 0 xFuel u (by omega) (xF_big (by omega)) hu
  have cf := lp_fio (q := q) (x := x) (N := nB S) hH.1 (by omega) (fun b hb h1 => by
    by_cases d : b < nB S
    · exact d
    · rw [tb_N (N := nB S) (q := q) (by omega) (by omega)] at h1; exact absurd h1 (by decide)) (fun b x hb => (hH.2 b x hb).1) 9 0 xFuel rfl (xF_big (by omega))
  have cut := fnd_cut (P := okO (gS ls S) (tI t (a + 41)) q x) (9 - nB S) (nB S) 0 (fun b b1 b2 => by
    rw [← Bool.not_eq_true, okO_t]
    intro h
    rw [tb_N (N := nB S) (q := q) (by omega) (by omega)] at h; exact absurd h.1 (by decide))
  rw [show nB S + (9 - nB S) = 9 by omega] at cut
  rw [cut, c4] at cf
  rw [c4] at r1
  obtain ⟨u2, w1, w2, w3⟩ := r_b x r3 hI hL (k := b') (by omega)
  exact ⟨b', u', u2, by omega, cf, r1, r2, in_step hI hL hs hM hLs hi (by omega) c3, bt7 q (by omega) b' (by omega) (okO_t.1 c3).1, w1, w2, w3⟩
theorem lp_order {t : xT} {a : Nat} {ls : yLS} {S : Nat → Int32} {s I : Nat} {M : Int32} (hH : Hw t a (gS ls S) (lS ls S) (nB S)) (hI : Iv S) (hL : LwS ls S) (hs : s < 2 ^ nB S) (hM : Pu M) (hLs : IsL (lS ls S) M s (tI t (a + 41))) (hIp : I < pc s) (hI8 : I ≤ 8) : ∀ m k q n u x, k + m = I → m + 1 < n → u.2.1 0 = S → InO (gS ls S) s q M x → pc q + k = pc s → ∃ b u', b < 9 ∧ F_X11_order_l71 n t a (nI I) x (nI q) (nI k) = some (nI b, t) ∧ (∀ f0, F_X12_order_l50 n u (nI I) M (nI q) x f0 (nI k) = some (nI b, u')) ∧ Cr u' = Cr u
  | _, _, _, 0, _, _, _, h, _, _, _ => absurd h (Nat.not_lt_zero _)
  | m, k, q, n + 1, u, x, hk, hm, hu, hi, hpc => by
    have h9 := hI.1.1
    have p9 := pow9 _ hI.1.1
    have h1 := hi.1
    have hq : q ≠ 0 := fun e => by
      subst e
      have : pc 0 = 0 := by decide
      omega
    obtain ⟨b, u1, u2, b1, b2, b3, b4, b5, b6, b7, b8, b9⟩ := ord_stepB (I := nI I) (k := nI k) (k50 := F_X12_order_l50 n) hH hI hL hs hM hLs hi hq hu
    have nM : ¬ M < 0 := by rw [lt0]; have := hM.1; omega
    have b2c := bt2 q (by omega) b (by omega)
    have ref : ∀ f0, F_X12_order_l50 (n + 1) u (nI I) M (nI q) x f0 (nI k) = F_X12_order_l50 n u2 (nI I) M (nI (clr q b)) (gS ls S b x) (nI b) (nI (k + 1)) := by
      intro f0
      conv => lhs; unfold F_X12_order_l50
      rw [if_neg (nI_nlt (a := I) (b := k) (by omega) (by omega)), if_neg nM, b3]
      unfold F_X12_order_j147
      simp only [xlet, nI_1]
      rw [if_pos (nI_pos' (by omega)), b7, Option.bind_some, b2c]
    cases m with
    | zero =>
      have hk : k = I := by omega
      subst hk
      refine ⟨b, u2, by omega, ?_, fun f0 => ?_, b8.trans b4⟩
      · unfold F_X11_order_l71 F_X11_order_j136
        rw [if_pos (nI_le (Nat.le_refl _) (by omega)), if_pos hH.1.1, b2, Option.bind_some, if_pos (nI_pos' (by omega))]
      · rw [ref f0]
        obtain ⟨n, rfl⟩ : ∃ n', n = n' + 1 := ⟨n - 1, by omega⟩
        unfold F_X12_order_l50 F_X12_order_j183
        rw [if_pos (nI_lt (by omega) (by omega)), n_none, if_pos (nI_pos' (by omega))]; rfl
    | succ m =>
      obtain ⟨b', u', w1, w2, w3, w4⟩ := lp_order hH hI hL hs hM hLs hIp hI8 m (k + 1) (clr q b) n u2 (gS ls S b x) (by omega) (by omega) b9 b5 (by omega)
      refine ⟨b', u', w1, ?_, fun f0 => ?_, w4.trans (b8.trans b4)⟩
      · unfold F_X11_order_l71
        simp only [xlet]
        rw [if_neg (nI_ge (show k < I by omega) (by omega)), if_pos hH.1.1, b2, Option.bind_some, (hH.2 b x b1).1, Option.bind_some, b2c, nI_1]
        exact w2
      · rw [ref f0]; exact w3 (nI b)
/-- no so many -/
theorem lp_order0 {t : xT} {a : Nat} {ls : yLS} {S : Nat → Int32} {s I : Nat} {M : Int32} (hH : Hw t a (gS ls S) (lS ls S) (nB S)) (hI : Iv S) (hL : LwS ls S) (hs : s < 2 ^ nB S) (hM : Pu M) (hLs : IsL (lS ls S) M s (tI t (a + 41))) (hIp : pc s ≤ I) (hI8 : I ≤ 8) : ∀ m k q n u x f0, k + m = pc s → m + 1 < n → u.2.1 0 = S → InO (gS ls S) s q M x → pc q = m → ∃ u', F_X12_order_l50 n u (nI I) M (nI q) x f0 (nI k) = some (-3, u') ∧ Cr u' = Cr u
  | _, _, _, 0, _, _, _, _, h, _, _, _ => absurd h (Nat.not_lt_zero _)
  | 0, k, q, n + 1, u, x, f0, hk, hm, hu, hi, hpc => by
    have h9 := hI.1.1
    have p9 := pow9 _ hI.1.1
    have h1 := hi.1
    have nM : ¬ M < 0 := by rw [lt0]; have := hM.1; omega
    have hq : q = 0 := bt8 q (by omega) hpc
    subst hq
    obtain ⟨u', r1, r2, r3⟩ := lp_ord2 (I := nI I) (k := nI k) (k50 := F_X12_order_l50 n) hI hL hs hM hLs hi (nB S) 0 xFuel u (by omega) (xF_big (by omega)) hu
    have e : fnd (okO (gS ls S) (tI t (a + 41)) 0 x) (nB S) 0 = -1 := by
      rcases fnd_n (P := okO (gS ls S) (tI t (a + 41)) 0 x) (nB S) 0 with h | ⟨b, -, -, h, -⟩
      · exact h.1
      · have := (okO_t.1 h).1
        rw [Nat.zero_testBit] at this; exact absurd this (by decide)
    rw [e] at r1
    refine ⟨u', ?_, r2⟩
    unfold F_X12_order_l50
    rw [if_neg (nI_nlt (a := I) (b := k) (by omega) (by omega)), if_neg nM]
    have r1 : F_X12_order_l67 (F_X12_order_l50 n) xFuel u (nI I) M (nI 0) x (-1) (nI k) 0 = _ := r1
    rw [r1]
    unfold F_X12_order_j147
    rw [if_neg (show ¬ (0 : Int32) ≤ -1 by decide)]
  | m + 1, k, q, n + 1, u, x, f0, hk, hm, hu, hi, hpc => by
    have h9 := hI.1.1
    have p9 := pow9 _ hI.1.1
    have h1 := hi.1
    have hq : q ≠ 0 := fun e => by
      subst e
      have : pc 0 = 0 := by decide
      omega
    have nM : ¬ M < 0 := by rw [lt0]; have := hM.1; omega
    obtain ⟨b, u1, u2, b1, b2, b3, b4, b5, b6, b7, b8, b9⟩ := ord_stepB (I := nI I) (k := nI k) (k50 := F_X12_order_l50 n) hH hI hL hs hM hLs hi hq hu
    have b2c := bt2 q (by omega) b (by omega)
    obtain ⟨u', r1, r2⟩ := lp_order0 hH hI hL hs hM hLs hIp hI8 m (k + 1) (clr q b) n u2 (gS ls S b x) (nI b) (by omega) (by omega) b9 b5 (by omega)
    refine ⟨u', ?_, r2.trans (b8.trans b4)⟩
    unfold F_X12_order_l50
    rw [if_neg (nI_nlt (a := I) (b := k) (by omega) (by omega)), if_neg nM, b3]
    unfold F_X12_order_j147
    simp only [xlet, nI_1]
    rw [if_pos (nI_pos' (by omega)), b7, Option.bind_some, b2c]
    exact r1
theorem st_order : sT_order RR := by
  intro t a u z0 z1 z2 hR
  obtain ⟨B, ls0, hk, hp, hk1, hS, hI, hRd, hL0, hBg, hSt⟩ := hR.rd
  obtain ⟨ls, hL, hw⟩ := hw_of hR
  have p9 := pow9 _ hI.1.1
  have hl := hS.lt
  rcases d_purse z0 with ⟨p1, p2⟩ | ⟨p1, p2, p3, p4⟩
  · exact ⟨-1, t, u, by simp only [F_X11_order, F_X11_order_j28, p1, Option.bind_some, if_true], by simp only [F_X12_order, F_X12_order_j28, p2, Option.bind_some, if_true], hR⟩
  rcases d_set hS hI hRd z1 with ⟨s1, s2⟩ | ⟨s, hs, rfl, s1, s2⟩
  · exact ⟨-1, t, u, by simp only [F_X11_order, F_X11_order_j28, p1, Option.bind_some, n10, if_false, hk, hp, hk1, if_true, s1], by simp only [F_X12_order, F_X12_order_j28, p2, s2, Option.bind_some, n10, if_false, if_true], hR⟩
  rcases d_in z2 0 8 (A := 0) (B := 8) rfl rfl with ⟨m1, m2, -⟩ | ⟨m1, m2, m3, m4⟩
  · exact ⟨-1, t, u, by simp only [F_X11_order, F_X11_order_j28, p1, Option.bind_some, n10, if_false, hk, hp, hk1, if_true, s1, m1], by simp only [F_X12_order, F_X12_order_j28, p2, s2, m2, Option.bind_some, n10, if_false, if_true], hR⟩
  obtain ⟨I, hI8, rfl⟩ := nI_of2 (x := z2) (M := 8) (n := 8) rfl (by rw [fa_lt]; exact Int.not_lt.mpr m3) (by rw [fa_le]; exact m4)
  have hp0 : Pu z0 := ⟨p3, p4⟩
  have n1 : ¬ (1 : Int32) = 0 := by decide
  obtain ⟨t1, T, r1, r2, r3⟩ := c_rich z0 hs hI.1.1 hl hw (Ol.rf _ _ _)
  obtain ⟨u1, T', q1, q2, q3, q4⟩ := r_rich (u := u) z0 hI hL hs rfl
  have e := T_uniq (by omega) r3 q4 (s + 1) s (by omega) (Nat.le_refl _) (Sub.rf s)
  rw [e] at q1
  have G : GalN (gS ls (u.2.1 0)) (lS ls (u.2.1 0)) (nB (u.2.1 0)) := fun b hb => gal_S hI hL hb
  obtain ⟨g1, g2, g3⟩ := best_1 G hs hI.1.1 hp0 r3 (s + 1) s (by omega) (Nat.le_refl _) (Sub.rf s)
  have refH : F_X12_order u z0 (nI s) (nI I) = F_X12_order_l50 xFuel u1 (nI I) (T s) (nI s) z0 (-1) (nI 0) := by
    unfold F_X12_order
    rw [p2, Option.bind_some, if_neg n1, s2, Option.bind_some, if_neg n1, m2, Option.bind_some, if_neg n1, q1, Option.bind_some]; rfl
  have clsH : F_X11_order t a z0 (nI s) (nI I) = if T s < 0 then some ((-3 : Int32), t1) else if nI I < nI (pc s) then (if tK t1 a = 11 then (F_X11_poorest t1 a (T s) (nI s)).bind (fun r36 => F_X11_order_l71 xFuel r36.2 a (nI I) z0 (nI s) 0) else none) else some ((-3 : Int32), t1) := by
    unfold F_X11_order F_X11_order_j51
    rw [p1, Option.bind_some, if_neg n1, if_pos hk, hp, Option.bind_some, if_pos hk1, s1, Option.bind_some, if_neg n1, m1, Option.bind_some, if_neg n1, r1, Option.bind_some, bt6 s (by omega), Option.bind_some]
  have pc9 := bt9 s (by omega)
  by_cases c : T s < 0
  · refine ⟨-3, t1, u1, by rw [clsH, if_pos c], ?_, (hR.scratch r2).scr q2⟩
    rw [refH]
    show F_X12_order_l50 (999999 + 1) u1 (nI I) (T s) (nI s) z0 (-1) (nI 0) = _
    unfold F_X12_order_l50 F_X12_order_j183
    rw [if_neg (nI_nlt (a := I) (b := 0) (by omega) (by omega)), if_pos c, n_none, if_neg (show ¬ (0 : Int32) ≤ -1 by decide)]; rfl
  · rw [if_neg c] at clsH
    rw [lt0] at c
    have hM : Pu (T s) := ⟨by omega, g1.2⟩
    have in0 : InO (gS ls (u.2.1 0)) s s (T s) z0 := by
      refine ⟨Nat.le_refl _, Sub.rf s, hp0, fun o ho => (g2 o ho).1, ?_⟩
      rcases g3 with g3 | ⟨o, o1, o2⟩
      · omega
      · exact ⟨o, o1, by rw [o2]; exact Int.le_refl _⟩
    obtain ⟨t2, w1, w2, w3⟩ := c_poor (T s) hs hI.1.1 hl hw r2
    have hH := hw t2 w2
    have k1 : tK t1 a = 11 := (hw t1 r2).1.1
    by_cases d : I < pc s
    · obtain ⟨b, u', v1, v2, v3, v4⟩ := lp_order (I := I) hH hI hL hs hM w3 d hI8 I 0 s xFuel u1 z0 (by omega) (xF_big (by omega)) q3 in0 (by omega)
      refine ⟨nI b, t2, u', ?_, by rw [refH]; exact v3 (-1), (hR.scratch w2).scr (v4.trans q2)⟩
      rw [clsH, if_pos (nI_lt d (by omega)), if_pos k1, w1, Option.bind_some]
      exact v2
    · obtain ⟨u', v1, v2⟩ := lp_order0 (I := I) hH hI hL hs hM w3 (by omega) hI8 (pc s) 0 s xFuel u1 z0 (-1) (by omega) (xF_big (by omega)) q3 in0 rfl
      refine ⟨-3, t1, u', ?_, by rw [refH]; exact v1, (hR.scratch r2).scr (v2.trans q2)⟩
      rw [clsH, if_neg (nI_nlt (by omega) (by omega))]
