/-! ===== pure mathematics 31: back ===== -/
theorem n_divI {x y : Int32} (h1 : 0 ≤ x.toInt) (h2 : 0 < y.toInt) : (x / y).toInt = x.toInt / y.toInt := by
  have hx := fb_rng x
  have hd := Int.ediv_le_self y.toInt h1
  have hn := Int.ediv_nonneg h1 (Int.le_of_lt h2)
  rw [Int32.toInt_div, Int.tdiv_eq_ediv_of_nonneg h1]
  exact fb_bmod (by omega) (by omega)
theorem ab0 {u : xS} {p y5 : Int32} {M : Nat} (h10 : u.1 10 = nI M) (hM : M < 100) : ∀ m i n, i + m = M → m < n → F_X12_addsBack_l35 n u p 0 y5 (nI i) = some u
  | _, _, 0, _, h => absurd h (Nat.not_lt_zero _)
  | 0, i, n + 1, hi, _ => by
    have hi : i = M := by omega
    subst hi
    unfold F_X12_addsBack_l35 F_X12_addsBack_j136
    rw [h10, if_pos (nI_le (Nat.le_refl _) (by omega)), if_pos rfl]
  | m + 1, i, n + 1, hi, hm => by
    unfold F_X12_addsBack_l35 F_X12_addsBack_j64 F_X12_addsBack_j65
    simp only [xlet, nI_1, if_true]
    rw [h10, if_neg (nI_ge (show i < M by omega) (by omega))]
    exact ab0 h10 hM m (i + 1) n (by omega) (by omega)
theorem ab1 {u : xS} {p : Int32} {M : Nat} (h10 : u.1 10 = nI M) (hM : M < 100) : ∀ m i n, i + m = M → m < n → (∀ j, i ≤ j → j < M → u.2.1 8 j ≠ p) → F_X12_addsBack_l35 n u p 1 (nI M) (nI i) = F_X12_addsBack_l78 xFuel u p (nI M)
  | _, _, 0, _, h, _ => absurd h (Nat.not_lt_zero _)
  | 0, i, n + 1, hi, _, _ => by
    have hi : i = M := by omega
    subst hi
    conv => lhs; unfold F_X12_addsBack_l35
    rw [h10, if_pos (nI_le (Nat.le_refl _) (by omega)), if_neg (show ¬ (1 : Int32) = 0 by decide)]
  | m + 1, i, n + 1, hi, hm, hj => by
    have ix : xIn (nI i) 200 := n_xIn (by omega) (by decide)
    have ec : (nI i).toNatClampNeg = i := n_cl (by omega)
    conv => lhs; unfold F_X12_addsBack_l35
    unfold F_X12_addsBack_j65
    simp only [xlet, nI_1]
    rw [h10, if_neg (nI_ge (show i < M by omega) (by omega)), if_neg (show ¬ (1 : Int32) = 0 by decide), if_pos ix, ec, if_neg (hj i (Nat.le_refl _) (by omega))]
    exact ab1 h10 hM m (i + 1) n (by omega) (by omega) (fun j j1 j2 => hj j (by omega) j2)
theorem ab2 {u : xS} {p y5 : Int32} {M : Nat} (h10 : u.1 10 = nI M) (hM : M < 100) : ∀ m i n, i + m = M → m < n → (∃ j, i ≤ j ∧ j < M ∧ u.2.1 8 j = p) → F_X12_addsBack_l35 n u p 1 y5 (nI i) = some u
  | _, _, 0, _, h, _ => absurd h (Nat.not_lt_zero _)
  | 0, i, n + 1, hi, _, ⟨j, j1, j2, _⟩ => by omega
  | m + 1, i, n + 1, hi, hm, ⟨j, j1, j2, j3⟩ => by
    have ix : xIn (nI i) 200 := n_xIn (by omega) (by decide)
    have ec : (nI i).toNatClampNeg = i := n_cl (by omega)
    conv => lhs; unfold F_X12_addsBack_l35
    unfold F_X12_addsBack_j64 F_X12_addsBack_j65
    simp only [xlet, nI_1]
    rw [h10, if_neg (nI_ge (show i < M by omega) (by omega)), if_neg (show ¬ (1 : Int32) = 0 by decide), if_pos ix, ec]
    by_cases c : u.2.1 8 i = p
    · rw [if_pos c]; exact ab0 h10 hM m (i + 1) n (by omega) (by omega)
    · rw [if_neg c]
      have : j ≠ i := fun e => c (e ▸ j3)
      exact ab2 h10 hM m (i + 1) n (by omega) (by omega) ⟨j, by omega, j2, j3⟩
theorem ins0 (n : Nat) (u : xS) (p : Int32) : F_X12_addsBack_l78 (n + 1) u p (nI 0) = some (mS (mA u 8 0 p) 10 (u.1 10 + 1)) := by
  have ix : xIn (nI 0) 200 := n_xIn (by omega) (by decide)
  unfold F_X12_addsBack_l78 F_X12_addsBack_j118 F_X12_addsBack_j136
  simp only [xlet]
  rw [if_pos (show nI 0 ≤ 0 by decide), if_pos ix]
  rfl
theorem ins1 (n : Nat) (u : xS) (p : Int32) : F_X12_addsBack_l78 (n + 2) u p (nI 1) = if u.2.1 8 0 ≤ p then some (mS (mA u 8 1 p) 10 (u.1 10 + 1)) else some (mS (mA (mA u 8 1 (u.2.1 8 0)) 8 0 p) 10 (u.1 10 + 1)) := by
  have i0 : xIn (nI 0) 200 := n_xIn (by omega) (by decide)
  have i1 : xIn (nI 1) 200 := n_xIn (by omega) (by decide)
  have e0 : nI 1 - (1 : Int32) = nI 0 := nI_pred 0
  have e1 : nI 1 + (-1 : Int32) = nI 0 := by decide
  have c0 : (nI 0).toNatClampNeg = 0 := n_cl (by omega)
  have c1 : (nI 1).toNatClampNeg = 1 := n_cl (by omega)
  conv => lhs; unfold F_X12_addsBack_l78
  simp only [xlet]
  rw [if_neg (show ¬ nI 1 ≤ 0 by decide), e0, if_pos i0]
  simp only [c0, c1, e1]
  by_cases c : u.2.1 8 0 ≤ p
  · rw [if_pos c, if_pos c]
    unfold F_X12_addsBack_j118 F_X12_addsBack_j136
    simp only [xlet]
    rw [if_pos i1, c1]; rfl
  · rw [if_neg c, if_neg c, if_pos i0, if_pos i1, ins0]; rfl
/-- what of a set has come -/
def BP (u : xS) (e : Nat) (b0 b1 : Bool) : Prop := u.1 10 = nI (b0.toNat + b1.toNat) ∧ (b0 = true → u.2.1 8 0 = nI e) ∧ (b1 = true → u.2.1 8 b0.toNat = nI (e + 1))
/-- what adding leaves -/
def Kp (u u' : xS) : Prop := Cr u' = Cr u ∧ u'.2.1 9 = u.2.1 9
theorem Kp.tr {u u' u'' : xS} (h : Kp u u') (h' : Kp u' u'') : Kp u u'' := ⟨h'.1.trans h.1, h'.2.trans h.2⟩
theorem Kp.rf (u : xS) : Kp u u := ⟨rfl, rfl⟩
theorem r_adds {u : xS} {e k : Nat} {b0 b1 : Bool} {s : Nat → Int32} {ls : yLS} {v p : Int32} (hu : u.2.1 0 = s) (hI : Iv s) (hL : LwS ls s) (hk : k < nB s) (he : e < 1000000) (hB : BP u e b0 b1) (hv : Pu p → gS ls s k p = v → p = nI e ∨ p = nI (e + 1)) : ∃ u', F_X12_addsBack u p (nI k) v = some u' ∧ Kp u u' ∧ u'.2.1 0 = s ∧ BP u' e (b0 || decide ((0 ≤ p.toInt ∧ p.toInt ≤ 1000000000) ∧ gS ls s k p = v ∧ p = nI e)) (b1 || decide ((0 ≤ p.toInt ∧ p.toInt ≤ 1000000000) ∧ gS ls s k p = v ∧ p = nI (e + 1))) := by
  have n0 : ¬ (1 : Int32) = 0 := by decide
  have M2 : b0.toNat + b1.toNat < 100 := by have := Bool.toNat_le b0; have := Bool.toNat_le b1; omega
  have off : ∀ u1, Kp u u1 → u1.2.1 0 = s → u1.1 10 = u.1 10 → u1.2.1 8 = u.2.1 8 → ¬ (Pu p ∧ gS ls s k p = v) → F_X12_addsBack_j23 u1 p = some u1 ∧ BP u1 e (b0 || decide ((0 ≤ p.toInt ∧ p.toInt ≤ 1000000000) ∧ gS ls s k p = v ∧ p = nI e)) (b1 || decide ((0 ≤ p.toInt ∧ p.toInt ≤ 1000000000) ∧ gS ls s k p = v ∧ p = nI (e + 1))) := by
    intro u1 hK h0 h10 h8 hn
    have d1 : decide ((0 ≤ p.toInt ∧ p.toInt ≤ 1000000000) ∧ gS ls s k p = v ∧ p = nI e) = false := by rw [decide_eq_false_iff_not]; exact fun h => hn ⟨h.1, h.2.1⟩
    have d2 : decide ((0 ≤ p.toInt ∧ p.toInt ≤ 1000000000) ∧ gS ls s k p = v ∧ p = nI (e + 1)) = false := by rw [decide_eq_false_iff_not]; exact fun h => hn ⟨h.1, h.2.1⟩
    rw [d1, d2, Bool.or_false, Bool.or_false]
    refine ⟨?_, ?_⟩
    · unfold F_X12_addsBack_j23 F_X12_addsBack_j24
      simp only [xlet]
      exact ab0 (h10.trans hB.1) M2 _ 0 xFuel (Nat.zero_add _) (xF_big (by omega))
    · unfold BP
      rw [h10, h8]; exact hB
  rcases d_purse p with ⟨-, p2⟩ | ⟨-, p2, p3, p4⟩
  · have np : ¬ (Pu p ∧ gS ls s k p = v) := by
      intro h
      have := d_in p 0 1000000000 (A := 0) (B := 1000000000) rfl rfl
      rcases this with ⟨-, q2, q3⟩ | ⟨-, q2, -⟩
      · have := h.1.1; have := h.1.2; change p.toInt < 0 ∨ 1000000000 < p.toInt at q3; omega
      · unfold F_X12_isPurse at p2; rw [q2] at p2; exact absurd p2 (by decide)
    obtain ⟨f1, f2⟩ := off u (Kp.rf u) hu rfl rfl np
    refine ⟨u, ?_, Kp.rf u, hu, f2⟩
    unfold F_X12_addsBack
    rw [p2, Option.bind_some, if_pos rfl]; exact f1
  · have hp : Pu p := ⟨p3, p4⟩
    obtain ⟨g, ha⟩ := r_b32 (x := p) hu hI hL hk
    have hK : Kp u (sc u g (tmS ls s k) (tlS ls s k) (opS ls s k)) := ⟨rfl, rfl⟩
    have h0 : (sc u g (tmS ls s k) (tlS ls s k) (opS ls s k)).2.1 0 = s := hu
    have h10 : (sc u g (tmS ls s k) (tlS ls s k) (opS ls s k)).1 10 = u.1 10 := rfl
    have h8 : (sc u g (tmS ls s k) (tlS ls s k) (opS ls s k)).2.1 8 = u.2.1 8 := rfl
    have head : F_X12_addsBack u p (nI k) v = if gS ls s k p = v then F_X12_addsBack_j24 (sc u g (tmS ls s k) (tlS ls s k) (opS ls s k)) p 1 else F_X12_addsBack_j23 (sc u g (tmS ls s k) (tlS ls s k) (opS ls s k)) p := by
      unfold F_X12_addsBack
      rw [p2, Option.bind_some, if_neg n0, ha, Option.bind_some]
    generalize sc u g (tmS ls s k) (tlS ls s k) (opS ls s k) = u1 at *
    by_cases c : gS ls s k p = v
    · rw [if_pos c] at head
      have hB1 : BP u1 e b0 b1 := by unfold BP; rw [h10, h8]; exact hB
      have j24 : F_X12_addsBack_j24 u1 p 1 = F_X12_addsBack_l35 xFuel u1 p 1 (nI (b0.toNat + b1.toNat)) (nI 0) := by
        unfold F_X12_addsBack_j24
        simp only [xlet]
        rw [hB1.1]; rfl
      have dup : (∃ j, 0 ≤ j ∧ j < b0.toNat + b1.toNat ∧ u1.2.1 8 j = p) → F_X12_addsBack u p (nI k) v = some u1 := fun h => by
        rw [head, j24]; exact ab2 hB1.1 M2 _ 0 xFuel (Nat.zero_add _) (xF_big (by omega)) h
      have new : (∀ j, 0 ≤ j → j < b0.toNat + b1.toNat → u1.2.1 8 j ≠ p) → F_X12_addsBack u p (nI k) v = F_X12_addsBack_l78 (999998 + 2) u1 p (nI (b0.toNat + b1.toNat)) := fun h => by
        rw [head, j24]; exact ab1 hB1.1 M2 _ 0 xFuel (Nat.zero_add _) (xF_big (by omega)) h
      obtain ⟨w1, w2, w3⟩ := hB1
      have ne : nI e ≠ nI (e + 1) := fun h => by have := (nI_eq (by omega) (by omega)).1 h; omega
      have lt : ¬ nI (e + 1) ≤ nI e := nI_ge (by omega) (by omega)
      have le : nI e ≤ nI (e + 1) := nI_le (by omega) (by omega)
      rcases hv hp c with h | h
      · have d1 : decide ((0 ≤ p.toInt ∧ p.toInt ≤ 1000000000) ∧ gS ls s k p = v ∧ p = nI e) = true := by rw [decide_eq_true_eq]; exact ⟨hp, c, h⟩
        have d2 : decide ((0 ≤ p.toInt ∧ p.toInt ≤ 1000000000) ∧ gS ls s k p = v ∧ p = nI (e + 1)) = false := by rw [decide_eq_false_iff_not]; exact fun q => ne (h.symm.trans q.2.2)
        rw [d1, d2, Bool.or_true, Bool.or_false]
        cases b0 with
        | true =>
          exact ⟨u1, dup ⟨0, Nat.le_refl _, by show 0 < 1 + _; omega, by rw [w2 rfl, h]⟩, hK, h0, w1, w2, w3⟩
        | false =>
          cases b1 with
          | false =>
            refine ⟨mS (mA u1 8 0 p) 10 (u1.1 10 + 1), (new (fun j _ hj => absurd hj (Nat.not_lt_zero _))).trans (ins0 999999 u1 p), ⟨hK.1, hK.2⟩, h0, ?_, fun _ => ?_, fun h => by cases h⟩
            · rw [mS_1, w1]; exact nI_1 0
            · show upd (u1.2.1 8) 0 p 0 = _; rw [upd_s, h]
          | true =>
            have e0 : u1.2.1 8 0 = nI (e + 1) := w3 rfl
            refine ⟨mS (mA (mA u1 8 1 (u1.2.1 8 0)) 8 0 p) 10 (u1.1 10 + 1), ?_, ⟨hK.1, hK.2⟩, h0, ?_, fun _ => ?_, fun _ => ?_⟩
            · rw [new (fun j _ hj => by
                have : j = 0 := by change j < 0 + 1 at hj; omega
                rw [this, e0, h]; exact fun q => ne q.symm)]
              have := ins1 999998 u1 p
              rw [if_neg (show ¬ u1.2.1 8 0 ≤ p by rw [e0, h]; exact lt)] at this
              exact this
            · rw [mS_1, w1]; exact nI_1 1
            · show upd (upd (u1.2.1 8) 1 (u1.2.1 8 0)) 0 p 0 = _; rw [upd_s, h]
            · show upd (upd (u1.2.1 8) 1 (u1.2.1 8 0)) 0 p 1 = _; rw [upd_n _ _ (by decide), upd_s, e0]
      · have d1 : decide ((0 ≤ p.toInt ∧ p.toInt ≤ 1000000000) ∧ gS ls s k p = v ∧ p = nI e) = false := by rw [decide_eq_false_iff_not]; exact fun q => ne (q.2.2.symm.trans h)
        have d2 : decide ((0 ≤ p.toInt ∧ p.toInt ≤ 1000000000) ∧ gS ls s k p = v ∧ p = nI (e + 1)) = true := by rw [decide_eq_true_eq]; exact ⟨hp, c, h⟩
        rw [d1, d2, Bool.or_true, Bool.or_false]
        cases b1 with
        | true =>
          exact ⟨u1, dup ⟨b0.toNat, Nat.zero_le _, by show b0.toNat < b0.toNat + 1; omega, by rw [w3 rfl, h]⟩, hK, h0, w1, w2, w3⟩
        | false =>
          cases b0 with
          | false =>
            refine ⟨mS (mA u1 8 0 p) 10 (u1.1 10 + 1), (new (fun j _ hj => absurd hj (Nat.not_lt_zero _))).trans (ins0 999999 u1 p), ⟨hK.1, hK.2⟩, h0, ?_, fun h => (by cases h), fun _ => ?_⟩
            · rw [mS_1, w1]; exact nI_1 0
            · show upd (u1.2.1 8) 0 p 0 = _; rw [upd_s, h]
          | true =>
            have e0 : u1.2.1 8 0 = nI e := w2 rfl
            refine ⟨mS (mA u1 8 1 p) 10 (u1.1 10 + 1), ?_, ⟨hK.1, hK.2⟩, h0, ?_, fun _ => ?_, fun _ => ?_⟩
            · rw [new (fun j _ hj => by
                have : j = 0 := by change j < 1 + 0 at hj; omega
                rw [this, e0, h]; exact ne)]
              have := ins1 999998 u1 p
              rw [if_pos (show u1.2.1 8 0 ≤ p by rw [e0, h]; exact le)] at this
              exact this
            · rw [mS_1, w1]; exact nI_1 1
            · show upd (u1.2.1 8) 1 p 0 = _; rw [upd_n _ _ (by decide), e0]
            · show upd (u1.2.1 8) 1 p 1 = _; rw [upd_s, h]
    · rw [if_neg c] at head
      obtain ⟨f1, f2⟩ := off u1 hK h0 h10 h8 (fun h => c h.2)
      exact ⟨u1, head.trans f1, hK, h0, f2⟩
/-! where it can come from -/
theorem zc_v {z v : Int} (h : zc z = v) (h0 : 0 ≤ v) (h9 : v < 1000000000) : z = v := by
  unfold zc at h
  by_cases c1 : z < 0
  · rw [if_pos c1] at h; omega
  · rw [if_neg c1] at h
    by_cases c2 : 1000000000 < z
    · rw [if_pos c2] at h; omega
    · rw [if_neg c2] at h; exact h
theorem cand {ls : yLS} {s : Nat → Int32} {k v : Nat} {p : Int32} (hI : Iv s) (hL : LwS ls s) (hk : k < nB s) (hv : v < 1000000) (h : gS ls s k p = nI v) : p = nI v / tmS ls s k + tlS ls s k ∨ p = (nI v + tlS ls s k) / tmS ls s k ∨ p = (nI v + tlS ls s k + 1) / tmS ls s k := by
  have hm := tm_rng (ls := ls) hI hk
  have hl := tl_rng hI hL hk
  unfold Ri at hm hl
  have vI : (nI v).toInt = v := nI_toInt (by omega)
  have hz : zb (s (5 + 4 * k)) (tmS ls s k).toInt (tlS ls s k).toInt (opS ls s k) p.toInt = v := by
    have := gB_I (s (5 + 4 * k)) (tmS ls s k) (tlS ls s k) (opS ls s k) p
    have h' : gB (s (5 + 4 * k)) (tmS ls s k) (tlS ls s k) (opS ls s k) p = nI v := h
    rw [h', vI] at this; exact this.symm
  generalize tmS ls s k = tm at *
  generalize tlS ls s k = tl at *
  unfold zb at hz
  by_cases c : opS ls s k = 0 ∨ p.toInt < 0
  · rw [if_pos c] at hz; omega
  · rw [if_neg c] at hz
    have z := zc_v hz (by omega) (by omega)
    have p0 : 0 ≤ p.toInt := by omega
    have prg := fb_rng p
    have a1 : (nI v + tl).toInt = v + tl.toInt := by rw [fb_addI] <;> rw [vI] <;> omega
    have a2 : (nI v + tl + 1).toInt = v + tl.toInt + 1 := by rw [fb_addI] <;> (try rw [a1]) <;> (try (show _ ≤ (v : Int) + tl.toInt + 1; omega)) <;> (try (show (v : Int) + tl.toInt + 1 < _; omega)); rfl
    have tpos : 0 < tm.toInt := by omega
    have tne : tm.toInt ≠ 0 := by omega
    unfold zr at z
    by_cases k1 : s (5 + 4 * k) = 2 ∨ s (5 + 4 * k) = 3
    · rw [if_pos k1] at z
      left
      apply Int32.toInt_inj.1
      have d1 : (nI v / tm).toInt = p.toInt - tl.toInt := by
        rw [n_divI (by omega) tpos, vI, ← z, Int.mul_ediv_cancel_left _ tne]
      rw [fb_addI] <;> rw [d1] <;> omega
    · rw [if_neg k1] at z
      right
      by_cases k2 : s (5 + 4 * k) = 4 ∨ s (5 + 4 * k) = 5
      · rw [if_pos k2] at z
        rcases Int.emod_two_eq (tm.toInt * p.toInt - tl.toInt) with e | e
        · left
          apply Int32.toInt_inj.1
          rw [n_divI (by omega) tpos, a1, show (v : Int) + tl.toInt = tm.toInt * p.toInt by omega, Int.mul_ediv_cancel_left _ tne]
        · right
          apply Int32.toInt_inj.1
          rw [n_divI (by omega) tpos, a2, show (v : Int) + tl.toInt + 1 = tm.toInt * p.toInt by omega, Int.mul_ediv_cancel_left _ tne]
      · rw [if_neg k2] at z
        left
        apply Int32.toInt_inj.1
        rw [n_divI (by omega) tpos, a1, show (v : Int) + tl.toInt = tm.toInt * p.toInt by omega, Int.mul_ediv_cancel_left _ tne]
/-- the next set -/
theorem zdiv1 {x y t : Int} (ht : 0 < t) (h0 : 0 ≤ x) (h : x ≤ y) : x / t ≤ y / t ∧ y / t ≤ x / t + (y - x) := by
  refine ⟨Int.ediv_le_ediv ht h, ?_⟩
  have h1 : y ≤ x + (y - x) * t := by
    have : (y - x) * 1 ≤ (y - x) * t := Int.mul_le_mul_of_nonneg_left (by omega) (by omega)
    omega
  calc y / t ≤ (x + (y - x) * t) / t := Int.ediv_le_ediv ht h1
    _ = x / t + (y - x) := by rw [Int.add_mul_ediv_right _ _ (by omega)]
theorem zq_2 {kd : Int32} {tm tl c d : Int} (ht : 0 < tm) (hl : 0 ≤ tl) (hc : 0 ≤ c) (hd : 0 ≤ d) (hd2 : d ≤ 2) : zq kd tm tl c ≤ zq kd tm tl (c + d) ∧ zq kd tm tl (c + d) ≤ zq kd tm tl c + 2 := by
  unfold zq
  by_cases k1 : kd = 2 ∨ kd = 3
  · rw [if_pos k1, if_pos k1]
    have := zdiv1 (x := c + tm - 1) (y := c + d + tm - 1) ht (by omega) (by omega)
    omega
  · rw [if_neg k1, if_neg k1]
    by_cases k2 : kd = 4 ∨ kd = 5
    · rw [if_pos k2, if_pos k2]
      have := zdiv1 (x := c + c % 2 + tl + tm - 1) (y := c + d + (c + d) % 2 + tl + tm - 1) ht (by omega) (by omega)
      omega
    · rw [if_neg k2, if_neg k2]
      have := zdiv1 (x := c + tl + tm - 1) (y := c + d + tl + tm - 1) ht (by omega) (by omega)
      omega
theorem zq_up {kd : Int32} {tm tl g : Int} (ht : 1 ≤ tm) (hl : 0 ≤ tl) (hg : 0 ≤ g) : zq kd tm tl g ≤ g + 1 + tl := by
  have e : ∀ x : Int, 0 ≤ x → (x + tm - 1) / tm ≤ x := fun x hx => by
    rw [zdiv_le (by omega)]
    have : 1 * x ≤ tm * x := Int.mul_le_mul_of_nonneg_right ht hx
    omega
  unfold zq
  by_cases k1 : kd = 2 ∨ kd = 3
  · rw [if_pos k1]; have := e g hg; omega
  · rw [if_neg k1]
    by_cases k2 : kd = 4 ∨ kd = 5
    · rw [if_pos k2]; have := e (g + g % 2 + tl) (by omega); omega
    · rw [if_neg k2]; have := e (g + tl) (by omega); omega
theorem bk_next {ls : yLS} {s : Nat → Int32} {k : Nat} (hI : Iv s) (hL : LwS ls s) (hk : k < nB s) (c D : Nat) (hD : D ≤ 2) (hc : c + D < 900000) : ∃ e D', D' ≤ 2 ∧ e + D' ≤ c + D + 2000 ∧ (∀ p, Pu p → (((c : Int) ≤ (gS ls s k p).toInt ∧ (gS ls s k p).toInt < c + D) ↔ ((e : Int) ≤ p.toInt ∧ p.toInt < e + D'))) ∧ ((lS ls s k (nI c) = nI e ∧ lS ls s k (nI (c + D)) = nI (e + D')) ∨ (D' = 0 ∧ lS ls s k (nI c) < 0)) := by
  have hm := tm_rng (ls := ls) hI hk
  have hl := tl_rng hI hL hk
  unfold Ri at hm hl
  have G := gal_S hI hL hk
  have cI : (nI c).toInt = c := nI_toInt (by omega)
  have dI : (nI (c + D)).toInt = ((c + D : Nat) : Int) := nI_toInt (by omega)
  have zI : ∀ x, (lS ls s k x).toInt = zl (s (5 + 4 * k)) (tmS ls s k).toInt (tlS ls s k).toInt (opS ls s k) x.toInt := fun x => by
    unfold lS; exact gL_I (by omega) hl.1
  by_cases o : opS ls s k = 0
  · refine ⟨0, 0, by omega, by omega, fun p hp => ?_, Or.inr ⟨rfl, ?_⟩⟩
    · have : gS ls s k p = -1 := by unfold gS gB gI zb; rw [if_pos (Or.inl o)]; rfl
      rw [this]
      show ((c : Int) ≤ -1 ∧ _) ↔ _
      omega
    · rw [lt0, zI]; unfold zl; rw [if_pos (Or.inl o)]; decide
  · have z1 : ∀ g : Int, 0 ≤ g → g < 900000 → zl (s (5 + 4 * k)) (tmS ls s k).toInt (tlS ls s k).toInt (opS ls s k) g = zq (s (5 + 4 * k)) (tmS ls s k).toInt (tlS ls s k).toInt g := fun g h0 h9 => by
      have := zq_up (kd := s (5 + 4 * k)) (tm := (tmS ls s k).toInt) (tl := (tlS ls s k).toInt) hm.1 hl.1 h0
      unfold zl
      rw [if_neg (fun q => q.elim o (fun q => by omega)), if_neg (show ¬ 1000000000 < zq (s (5 + 4 * k)) (tmS ls s k).toInt (tlS ls s k).toInt g by omega)]
    have q0 := zq_nn (kd := s (5 + 4 * k)) (tm := (tmS ls s k).toInt) (tl := (tlS ls s k).toInt) (g := c) (by omega) hl.1 (by omega)
    have q1 := zq_up (kd := s (5 + 4 * k)) (tm := (tmS ls s k).toInt) (tl := (tlS ls s k).toInt) (g := ((c + D : Nat) : Int)) hm.1 hl.1 (by omega)
    have q2 := zq_2 (kd := s (5 + 4 * k)) (tm := (tmS ls s k).toInt) (tl := (tlS ls s k).toInt) (c := c) (d := D) (by omega) hl.1 (by omega) (by omega) (by omega)
    have e1 := zI (nI c)
    have e2 := zI (nI (c + D))
    rw [cI, z1 _ (by omega) (by omega)] at e1
    rw [dI, z1 _ (by omega) (by omega)] at e2
    have ed : ((c : Int) + (D : Int)) = ((c + D : Nat) : Int) := by omega
    rw [ed] at q2
    generalize zq (s (5 + 4 * k)) (tmS ls s k).toInt (tlS ls s k).toInt (c : Int) = x at *
    generalize zq (s (5 + 4 * k)) (tmS ls s k).toInt (tlS ls s k).toInt ((c + D : Nat) : Int) = y at *
    obtain ⟨e, he⟩ : ∃ e : Nat, (e : Int) = x := ⟨x.toNat, by omega⟩
    obtain ⟨d, hd⟩ : ∃ d : Nat, (d : Int) = y - x := ⟨(y - x).toNat, by omega⟩
    refine ⟨e, d, by omega, by omega, fun p hp => ?_, Or.inl ⟨Int32.toInt_inj.1 ?_, Int32.toInt_inj.1 ?_⟩⟩
    · have g1 := G.2.2.2 p (nI c) hp ⟨by omega, by omega⟩
      have g2 := G.2.2.2 p (nI (c + D)) hp ⟨by omega, by omega⟩
      rw [cI, e1] at g1
      rw [dI, e2] at g2
      omega
    · rw [e1, nI_toInt (by omega)]; omega
    · rw [e2, nI_toInt (by omega)]; omega
def BK (u : xS) (c D : Nat) : Prop := u.1 10 = nI D ∧ (1 ≤ D → u.2.1 8 0 = nI c) ∧ (D = 2 → u.2.1 8 1 = nI (c + 1))
theorem lp_bk1 {ls : yLS} {s : Nat → Int32} {k c D e D' : Nat} {N I : Int32} {kk : xS → Int32 → Int32 → Int32 → Int32 → Int32 → Int32 → Option (Int32 × xS)} {y7 : Int32} (hI : Iv s) (hL : LwS ls s) (hk : k < nB s) (hD : D ≤ 2) (hc : c + D < 900000) (hD' : D' ≤ 2) (he : e + D' < 910000) (hEq : ∀ p, Pu p → (((c : Int) ≤ (gS ls s k p).toInt ∧ (gS ls s k p).toInt < c + D) ↔ ((e : Int) ≤ p.toInt ∧ p.toInt < e + D'))) : ∀ m j n u b0 b1, j + m = D → m < n → u.2.1 0 = s → (∀ i, i < D → u.2.1 9 i = nI (c + i)) → BP u e b0 b1 → (b0 = true → 1 ≤ D') → (b1 = true → D' = 2) → (1 ≤ D' → (gS ls s k (nI e)).toInt < c + j → b0 = true) → (D' = 2 → (gS ls s k (nI (e + 1))).toInt < c + j → b1 = true) → ∃ u', F_X12_back_l122 kk n u (nI k) N I (tmS ls s k) (tlS ls s k) y7 (nI D) (nI j) = kk u' (nI k) N I (tmS ls s k) (tlS ls s k) (y7 + 1) ∧ Cr u' = Cr u ∧ u'.2.1 0 = s ∧ BK u' e D'
  | _, _, 0, _, _, _, _, h, _, _, _, _, _, _, _ => absurd h (Nat.not_lt_zero _)
  | 0, j, n + 1, u, b0, b1, hj, _, hu, h9, hB, hb0, hb1, hc0, hc1 => by
    have hj : j = D := by omega
    subst hj
    have pe : ∀ i, i < D' → Pu (nI (e + i)) ∧ (gS ls s k (nI (e + i))).toInt < c + j := fun i hi => by
      have eI : (nI (e + i)).toInt = ((e + i : Nat) : Int) := nI_toInt (by omega)
      have pp : Pu (nI (e + i)) := ⟨by omega, by omega⟩
      exact ⟨pp, ((hEq _ pp).2 ⟨by omega, by omega⟩).2⟩
    have e0 : b0 = decide (1 ≤ D') := by
      by_cases d : 1 ≤ D'
      · rw [decide_eq_true d]; exact hc0 d (by have := (pe 0 (by omega)).2; rw [Nat.add_zero] at this; exact this)
      · rw [decide_eq_false d]
        cases b0 with
        | false => rfl
        | true => exact absurd (hb0 rfl) d
    have e1 : b1 = decide (D' = 2) := by
      by_cases d : D' = 2
      · rw [decide_eq_true d]; exact hc1 d (pe 1 (by omega)).2
      · rw [decide_eq_false d]
        cases b1 with
        | false => rfl
        | true => exact absurd (hb1 rfl) d
    refine ⟨u, ?_, rfl, hu, ?_⟩
    · conv => lhs; unfold F_X12_back_l122
      simp only [xlet]
      rw [if_pos (nI_le (Nat.le_refl _) (by omega))]
    · obtain ⟨w1, w2, w3⟩ := hB
      subst e0
      subst e1
      rcases (show D' = 0 ∨ D' = 1 ∨ D' = 2 by omega) with d | d | d <;> subst d
      · exact ⟨w1, fun h => by omega, fun h => by omega⟩
      · exact ⟨w1, fun _ => w2 rfl, fun h => by omega⟩
      · exact ⟨w1, fun _ => w2 rfl, fun _ => w3 rfl⟩
  | m + 1, j, n + 1, u, b0, b1, hj, hm, hu, h9, hB, hb0, hb1, hc0, hc1 => by
    have hm' := tm_rng (ls := ls) hI hk
    unfold Ri at hm'
    have ij : xIn (nI j) 200 := n_xIn (by omega) (by decide)
    have ej : (nI j).toNatClampNeg = j := n_cl (by omega)
    have vI : (nI (c + j)).toInt = ((c + j : Nat) : Int) := nI_toInt (by omega)
    have tne : ¬ tmS ls s k = 0 := fun h => by rw [h] at hm'; exact absurd hm'.1 (by decide)
    have eI0 : (nI e).toInt = (e : Int) := nI_toInt (by omega)
    have eI1 : (nI (e + 1)).toInt = ((e + 1 : Nat) : Int) := nI_toInt (by omega)
    -- what gives this value lies in the set
    have hv : ∀ p, Pu p → gS ls s k p = nI (c + j) → p = nI e ∨ p = nI (e + 1) := fun p hp h => by
      have := (hEq p hp).1 ⟨by rw [h, vI]; omega, by rw [h, vI]; omega⟩
      by_cases d : p.toInt = e
      · left; exact Int32.toInt_inj.1 (by rw [eI0]; exact d)
      · right; exact Int32.toInt_inj.1 (by rw [eI1]; omega)
    have hin : ∀ p, Pu p → gS ls s k p = nI (c + j) → (p = nI e → 1 ≤ D') ∧ (p = nI (e + 1) → D' = 2) := fun p hp h => by
      have := (hEq p hp).1 ⟨by rw [h, vI]; omega, by rw [h, vI]; omega⟩
      exact ⟨fun q => by rw [q, eI0] at this; omega, fun q => by rw [q, eI1] at this; omega⟩
    have x4 : u.2.1 9 j = nI (c + j) := h9 j (by omega)
    obtain ⟨u1, a1, K1, f1, B1⟩ := r_adds (k := k) (v := nI (c + j)) (p := nI (c + j) / tmS ls s k + tlS ls s k) hu hI hL hk (by omega) hB (hv _)
    obtain ⟨u2, a2, K2, f2, B2⟩ := r_adds (k := k) (v := nI (c + j)) (p := (nI (c + j) + tlS ls s k) / tmS ls s k) f1 hI hL hk (by omega) B1 (hv _)
    obtain ⟨u3, a3, K3, f3, B3⟩ := r_adds (k := k) (v := nI (c + j)) (p := (nI (c + j) + tlS ls s k + 1) / tmS ls s k) f2 hI hL hk (by omega) B2 (hv _)
    have K := (K1.tr K2).tr K3
    generalize hq1 : nI (c + j) / tmS ls s k + tlS ls s k = q1 at *
    generalize hq2 : (nI (c + j) + tlS ls s k) / tmS ls s k = q2 at *
    generalize hq3 : (nI (c + j) + tlS ls s k + 1) / tmS ls s k = q3 at *
    have cd : ∀ p, gS ls s k p = nI (c + j) → p = q1 ∨ p = q2 ∨ p = q3 := fun p h => by
      have := cand (v := c + j) hI hL hk (by omega) h
      rw [hq1, hq2, hq3] at this; exact this
    obtain ⟨u', r1, r2, r3, r4⟩ := lp_bk1 (N := N) (I := I) (kk := kk) (y7 := y7) hI hL hk hD hc hD' he hEq m (j + 1) n u3 _ _ (by omega) (by omega) f3 (fun i hi => by rw [K.2]; exact h9 i hi) B3 (fun h => by
      simp only [Bool.or_eq_true, decide_eq_true_eq] at h
      rcases h with ((h | h) | h) | h
      · exact hb0 h
      · exact (hin _ h.1 h.2.1).1 h.2.2
      · exact (hin _ h.1 h.2.1).1 h.2.2
      · exact (hin _ h.1 h.2.1).1 h.2.2) (fun h => by
      simp only [Bool.or_eq_true, decide_eq_true_eq] at h
      rcases h with ((h | h) | h) | h
      · exact hb1 h
      · exact (hin _ h.1 h.2.1).2 h.2.2
      · exact (hin _ h.1 h.2.1).2 h.2.2
      · exact (hin _ h.1 h.2.1).2 h.2.2) (fun hD1 hlt => by
      have pe : Pu (nI e) := ⟨by omega, by omega⟩
      have lo := ((hEq _ pe).2 ⟨by omega, by omega⟩).1
      simp only [Bool.or_eq_true, decide_eq_true_eq]
      by_cases d : (gS ls s k (nI e)).toInt < c + j
      · exact Or.inl (Or.inl (Or.inl (hc0 hD1 d)))
      · have ev : gS ls s k (nI e) = nI (c + j) := Int32.toInt_inj.1 (by rw [vI]; omega)
        rcases cd _ ev with h | h | h
        · exact Or.inl (Or.inl (Or.inr ⟨h ▸ pe, h ▸ ev, h.symm⟩))
        · exact Or.inl (Or.inr ⟨h ▸ pe, h ▸ ev, h.symm⟩)
        · exact Or.inr ⟨h ▸ pe, h ▸ ev, h.symm⟩) (fun hD2 hlt => by
      have pe : Pu (nI (e + 1)) := ⟨by omega, by omega⟩
      have lo := ((hEq _ pe).2 ⟨by omega, by omega⟩).1
      simp only [Bool.or_eq_true, decide_eq_true_eq]
      by_cases d : (gS ls s k (nI (e + 1))).toInt < c + j
      · exact Or.inl (Or.inl (Or.inl (hc1 hD2 d)))
      · have ev : gS ls s k (nI (e + 1)) = nI (c + j) := Int32.toInt_inj.1 (by rw [vI]; omega)
        rcases cd _ ev with h | h | h
        · exact Or.inl (Or.inl (Or.inr ⟨h ▸ pe, h ▸ ev, h.symm⟩))
        · exact Or.inl (Or.inr ⟨h ▸ pe, h ▸ ev, h.symm⟩)
        · exact Or.inr ⟨h ▸ pe, h ▸ ev, h.symm⟩)
    refine ⟨u', ?_, r2.trans K.1, r3, r4⟩
    conv => lhs; unfold F_X12_back_l122
    simp only [xlet]
    rw [if_neg (nI_ge (show j < D by omega) (by omega)), if_pos ij, ej, x4, if_pos tne, hq1, a1, Option.bind_some, if_pos tne, hq2, a2, Option.bind_some, if_pos tne, hq3, a3, Option.bind_some, nI_1]
    exact r1
theorem lp_bk2 {c D : Nat} {K N I tm tl : Int32} {kk : xS → Int32 → Int32 → Int32 → Int32 → Int32 → Int32 → Option (Int32 × xS)} {y7 : Int32} (hD : D ≤ 2) : ∀ m j n u, j + m = D → m < n → BK u c D → (∀ i, i < j → u.2.1 9 i = nI (c + i)) → ∃ u', F_X12_back_l87 kk n u K N I tm tl y7 (nI D) (nI j) = F_X12_back_l122 kk xFuel u' K N I tm tl y7 (nI D) 0 ∧ Cr u' = Cr u ∧ u'.2.1 0 = u.2.1 0 ∧ u'.1 10 = 0 ∧ ∀ i, i < D → u'.2.1 9 i = nI (c + i)
  | _, _, 0, _, _, h, _, _ => absurd h (Nat.not_lt_zero _)
  | 0, j, n + 1, u, hj, _, hB, h9 => by
    have hj : j = D := by omega
    subst hj
    refine ⟨mS u 10 0, ?_, rfl, rfl, mS_1 _ _ _, fun i hi => h9 i hi⟩
    conv => lhs; unfold F_X12_back_l87
    simp only [xlet]
    rw [if_pos (nI_le (Nat.le_refl _) (by omega))]
  | m + 1, j, n + 1, u, hj, hm, hB, h9 => by
    have ij : xIn (nI j) 200 := n_xIn (by omega) (by decide)
    have ej : (nI j).toNatClampNeg = j := n_cl (by omega)
    have e8 : u.2.1 8 j = nI (c + j) := by
      rcases (show j = 0 ∨ j = 1 by omega) with h | h <;> subst h
      · exact hB.2.1 (by omega)
      · exact hB.2.2 (by omega)
    obtain ⟨u', r1, r2, r3, r4, r5⟩ := lp_bk2 (K := K) (N := N) (I := I) (tm := tm) (tl := tl) (kk := kk) (y7 := y7) hD m (j + 1) n (mA u 9 j (u.2.1 8 j)) (by omega) (by omega) hB (fun i hi => by
      show upd (u.2.1 9) j (u.2.1 8 j) i = _
      rw [upd2]
      by_cases d : i = j
      · rw [if_pos d, d, e8]
      · rw [if_neg d]; exact h9 i (by omega))
    refine ⟨u', ?_, r2, r3, r4, r5⟩
    conv => lhs; unfold F_X12_back_l87
    simp only [xlet]
    rw [if_neg (nI_ge (show j < D by omega) (by omega)), if_pos ij, if_pos ij, ej, nI_1]
    exact r1
theorem ar_s {a b i x d : Nat} (h1 : a ≤ x + d * i) (h2 : b ≤ a + d) : b ≤ x + d * (i + 1) := by
  rw [Nat.mul_succ, ← Nat.add_assoc]; omega
theorem lp_bk3 {ls : yLS} {s : Nat → Int32} {k N : Nat} {I : Int32} {purse : Int32} (hI : Iv s) (hL : LwS ls s) (hk : k < nB s) (hN : N ≤ 6) : ∀ m i n u c D, i + m = N → m < n → u.2.1 0 = s → BK u c D → D ≤ 2 → c + D ≤ 100000 + 2000 * i → ((itB (lS ls s k) i purse = nI c ∧ itB (lS ls s k) i (purse + 1) = nI (c + D)) ∨ (D = 0 ∧ itB (lS ls s k) i purse < 0)) → ∃ n' u' c D, F_X12_back_l72 n u (nI k) (nI N) I (tmS ls s k) (tlS ls s k) (nI i) = F_X12_back_l72 (n' + 1) u' (nI k) (nI N) I (tmS ls s k) (tlS ls s k) (nI N) ∧ Cr u' = Cr u ∧ BK u' c D ∧ D ≤ 2 ∧ c + D ≤ 900000 ∧ ((itB (lS ls s k) N purse = nI c ∧ itB (lS ls s k) N (purse + 1) = nI (c + D)) ∨ (D = 0 ∧ itB (lS ls s k) N purse < 0))
  | _, _, 0, _, _, _, _, h, _, _, _, _, _ => absurd h (Nat.not_lt_zero _)
  | 0, i, n + 1, u, c, D, hi, _, hu, hB, hD, hc, hJ => by
    have hi : i = N := by omega
    subst hi
    exact ⟨n, u, c, D, rfl, rfl, hB, hD, by omega, hJ⟩
  | m + 1, i, n + 1, u, c, D, hi, hm, hu, hB, hD, hc, hJ => by
    -- the next set
    have ex : ∃ e D', D' ≤ 2 ∧ e + D' ≤ c + D + 2000 ∧ (∀ p, Pu p → (((c : Int) ≤ (gS ls s k p).toInt ∧ (gS ls s k p).toInt < c + D) ↔ ((e : Int) ≤ p.toInt ∧ p.toInt < e + D'))) ∧ ((itB (lS ls s k) (i + 1) purse = nI e ∧ itB (lS ls s k) (i + 1) (purse + 1) = nI (e + D')) ∨ (D' = 0 ∧ itB (lS ls s k) (i + 1) purse < 0)) := by
      rcases hJ with ⟨j1, j2⟩ | ⟨j1, j2⟩
      · obtain ⟨e, D', g1, g2, g3, g4⟩ := bk_next hI hL hk c D hD (by omega)
        have n1 : ¬ nI c < 0 := nI_pos (by omega)
        have n2 : ¬ nI (c + D) < 0 := nI_pos (by omega)
        refine ⟨e, D', g1, g2, g3, ?_⟩
        rw [itB_s, itB_s, j1, j2, if_neg n1, if_neg n2]; exact g4
      · subst j1
        refine ⟨0, 0, by omega, by omega, fun p _ => by omega, Or.inr ⟨rfl, ?_⟩⟩
        rw [itB_s, if_pos j2]; exact j2
    obtain ⟨e, D', g1, g2, g3, g4⟩ := ex
    have hc' : e + D' ≤ 100000 + 2000 * (i + 1) := ar_s hc g2
    obtain ⟨u1, r1, r2, r3, r4, r5⟩ := lp_bk2 (c := c) (K := nI k) (N := nI N) (I := I) (tm := tmS ls s k) (tl := tlS ls s k) (kk := F_X12_back_l72 n) (y7 := nI i) hD D 0 xFuel u (by omega) (xF_big (by omega)) hB (fun i hi => by omega)
    obtain ⟨u2, q1, q2, q3, q4⟩ := lp_bk1 (N := nI N) (I := I) (kk := F_X12_back_l72 n) (y7 := nI i) hI hL hk hD (show c + D < 900000 by omega) g1 (show e + D' < 910000 by omega) g3 D 0 xFuel u1 false false (by omega) (xF_big (by omega)) (r3.trans hu) r5 ⟨r4, fun h => (by cases h), fun h => (by cases h)⟩ (fun h => by cases h) (fun h => by cases h) (fun hD1 hlt => by
      have pe : Pu (nI e) := ⟨by rw [nI_toInt (by omega)]; omega, by rw [nI_toInt (by omega)]; omega⟩
      have eI : (nI e).toInt = (e : Int) := nI_toInt (by omega)
      have := ((g3 _ pe).2 ⟨by omega, by omega⟩).1
      omega) (fun hD2 hlt => by
      have eI : (nI (e + 1)).toInt = ((e + 1 : Nat) : Int) := nI_toInt (by omega)
      have pe : Pu (nI (e + 1)) := ⟨by omega, by omega⟩
      have := ((g3 _ pe).2 ⟨by omega, by omega⟩).1
      omega)
    obtain ⟨n', u', c', D'', w1, w2, w⟩ := lp_bk3 (I := I) (purse := purse) hI hL hk hN m (i + 1) n u2 e D' (by omega) (by omega) q3 q4 g1 hc' g4
    refine ⟨n', u', c', D'', ?_, w2.trans (q2.trans r2), w⟩
    rw [← w1]
    conv => lhs; unfold F_X12_back_l72
    simp only [xlet]
    rw [if_neg (nI_ge (show i < N by omega) (by omega)), hB.1]
    have r1 : F_X12_back_l87 (F_X12_back_l72 n) xFuel u (nI k) (nI N) I (tmS ls s k) (tlS ls s k) (nI i) (nI D) 0 = _ := r1
    rw [r1]
    have q1 : F_X12_back_l122 (F_X12_back_l72 n) xFuel u1 (nI k) (nI N) I (tmS ls s k) (tlS ls s k) (nI i) (nI D) 0 = _ := q1
    rw [q1, nI_1]
theorem st_back : sT_back RR := by
  intro t a u z0 z1 z2 z3 hR
  obtain ⟨B, ls, hk, hp, hk1, hS, hI, hRd, hL, hBg, hSt⟩ := hR.rd
  have n1' : ¬ (1 : Int32) = 0 := by decide
  rcases d_br hS hI hRd hBg z0 with ⟨b1, b2⟩ | ⟨k, hk9, k9, rfl, b1, b2, hBk, hbk⟩
  · exact ⟨-1, u, by simp only [F_X11_back, F_X11_back_j41, hk, hp, hk1, b1, xopt, if_true, Option.bind_some], by simp only [F_X12_back, F_X12_back_j38, b2, if_true, Option.bind_some], hR⟩
  rcases d_in z1 0 99999 (A := 0) (B := 99999) rfl rfl with ⟨p1, p2, -⟩ | ⟨p1, p2, p3, p4⟩
  · exact ⟨-1, u, by simp only [F_X11_back, F_X11_back_j41, hk, hp, hk1, b1, xopt, p1, if_true, Option.bind_some], by simp only [F_X12_back, F_X12_back_j38, b2, p2, if_true, Option.bind_some, n10, if_false], hR⟩
  rcases d_in z2 1 6 (A := 1) (B := 6) rfl rfl with ⟨m1, m2, -⟩ | ⟨m1, m2, m3, m4⟩
  · exact ⟨-1, u, by simp only [F_X11_back, F_X11_back_j41, hk, hp, hk1, b1, xopt, p1, m1, if_true, Option.bind_some, n10, if_false], by simp only [F_X12_back, F_X12_back_j38, b2, p2, m2, if_true, Option.bind_some, n10, if_false], hR⟩
  by_cases ci : (-1 : Int32) ≤ z3
  rotate_left
  · exact ⟨-1, u, by simp only [F_X11_back, F_X11_back_j41, hk, hp, hk1, b1, xopt, p1, m1, if_true, Option.bind_some, n10, if_false, if_neg ci], by simp only [F_X12_back, F_X12_back_j38, b2, p2, m2, Option.bind_some, n10, if_false, if_neg ci], hR⟩
  obtain ⟨N, hN, rfl⟩ := nI_of2 (x := z2) (M := 6) (n := 6) rfl (by rw [fa_lt]; change (1 : Int) ≤ _ at m3; show ¬ _ < (0 : Int); omega) (by rw [fa_le]; exact m4)
  have p4 : z1.toInt ≤ 99999 := p4
  have p3 : 0 ≤ z1.toInt := p3
  obtain ⟨P, hP, eP⟩ := nI_of2 (x := z1) (M := 99999) (n := 99999) rfl (by rw [fa_lt]; show ¬ _ < (0 : Int); omega) (by rw [fa_le]; exact p4)
  have x200 : xIn (0 : Int32) 200 := by decide
  obtain ⟨g, ha⟩ := r_asks (u := mS (mA u 8 0 z1) 10 1) (ls := ls) rfl hI hL k9
  have cF := c_lA (N := N) hbk (fun x => c_lS hI hL hBk hSt hk9) (by omega) z1
  have cT := c_lA (N := N) hbk (fun x => c_lS hI hL hBk hSt hk9) (by omega) (z1 + 1)
  obtain ⟨n', u', c, D, w1, w2, w3, w4, w5, w6⟩ := lp_bk3 (I := z3) (purse := z1) hI hL hk9 hN N 0 xFuel (sc (mS (mA u 8 0 z1) 10 1) g (tmS ls (u.2.1 0) k) (tlS ls (u.2.1 0) k) (opS ls (u.2.1 0) k)) P 1 (by omega) (xF_big (by omega)) rfl ⟨rfl, fun _ => by show upd (u.2.1 8) 0 z1 0 = _; rw [upd_s, eP], fun h => by omega⟩ (by omega) (by omega) (Or.inl ⟨eP, by show z1 + 1 = _; rw [eP, nI_1]⟩)
  have head : F_X12_back u (nI k) z1 (nI N) z3 = F_X12_back_l72 (n' + 1) u' (nI k) (nI N) z3 (tmS ls (u.2.1 0) k) (tlS ls (u.2.1 0) k) (nI N) := by
    rw [← w1]
    unfold F_X12_back
    simp only [xlet]
    rw [b2, Option.bind_some, if_neg n1', p2, Option.bind_some, if_neg n1', m2, Option.bind_some, if_neg n1', if_pos ci, if_pos x200]
    show (F_X12_asks (mS (mA u 8 0 z1) 10 1) (nI k)).bind _ = _
    rw [ha, Option.bind_some]
    rfl
  have last : F_X12_back u (nI k) z1 (nI N) z3 = if 0 ≤ z3 then (if nI D ≤ z3 then some ((-3 : Int32), u') else if xIn z3 200 then some (u'.2.1 8 z3.toNatClampNeg, u') else none) else some (nI D, u') := by
    rw [head]
    unfold F_X12_back_l72 F_X12_back_j230
    rw [if_pos (nI_le (Nat.le_refl _) (by omega)), w3.1]
  have RR' : RR t a u' := hR.scr (w2.trans rfl)
  have clsH : F_X11_back t a (nI k) z1 (nI N) z3 = if itB (lS ls (u.2.1 0) k) N z1 < 0 then F_X11_back_j75 t a z3 (itB (lS ls (u.2.1 0) k) N z1) else if itB (lS ls (u.2.1 0) k) N z1 ≤ itB (lS ls (u.2.1 0) k) N (z1 + 1) then F_X11_back_j84 t a z3 (itB (lS ls (u.2.1 0) k) N z1) (itB (lS ls (u.2.1 0) k) N (z1 + 1) - itB (lS ls (u.2.1 0) k) N z1) else F_X11_back_j75 t a z3 (itB (lS ls (u.2.1 0) k) N z1) := by
    unfold F_X11_back
    rw [if_pos hk, hp, Option.bind_some, if_pos hk1, b1, Option.bind_some]
    simp only [xopt]
    rw [p1, Option.bind_some, if_neg n1', m1, Option.bind_some, if_neg n1', if_pos ci, cF, Option.bind_some, cT, Option.bind_some]
  have zm : ¬ 0 ≤ z3 → z3 = -1 := fun h => by
    rw [n_le0] at h
    rw [fa_le] at ci
    exact Int32.toInt_inj.1 (by show z3.toInt = (-1 : Int); change (-1 : Int) ≤ _ at ci; omega)
  rcases w6 with ⟨v1, v2⟩ | ⟨v1, v2⟩
  · have ns : ¬ nI c < 0 := nI_pos (by omega)
    have le : nI c ≤ nI (c + D) := nI_le (by omega) (by omega)
    have sb : nI (c + D) - nI c = nI D := by rw [Nat.add_comm, ← nI_add, Int32.add_sub_cancel]
    rw [v1, v2, if_neg ns, if_pos le, sb] at clsH
    unfold F_X11_back_j84 F_X11_back_j112 at clsH
    by_cases z : 0 ≤ z3
    · have nm : ¬ z3 = -1 := fun h => by rw [h] at z; exact absurd z (by decide)
      rw [if_pos z] at last
      rw [if_neg nm] at clsH
      by_cases d : nI D ≤ z3
      · rw [if_pos d] at last clsH
        exact ⟨-3, u', clsH, last, RR'⟩
      · rw [if_neg d] at last clsH
        rcases pk_ix z3 (n := D) (by omega) with h | h | ⟨i, hi, rfl⟩
        · rw [lt0] at h; rw [n_le0] at z; omega
        · exact absurd h d
        · have ii : xIn (nI i) 200 := n_xIn (by omega) (by decide)
          have ei : (nI i).toNatClampNeg = i := n_cl (by omega)
          have e8 : u'.2.1 8 i = nI (c + i) := by
            rcases (show i = 0 ∨ i = 1 by omega) with h | h <;> subst h
            · exact w3.2.1 (by omega)
            · exact w3.2.2 (by omega)
          rw [if_pos ii, ei, e8] at last
          rw [nI_add] at clsH
          exact ⟨_, u', clsH, last, RR'⟩
    · rw [if_neg z] at last
      rw [if_pos (zm z)] at clsH
      exact ⟨_, u', clsH, last, RR'⟩
  · subst v1
    rw [if_pos v2] at clsH
    unfold F_X11_back_j75 F_X11_back_j84 F_X11_back_j112 at clsH
    by_cases z : 0 ≤ z3
    · have nm : ¬ z3 = -1 := fun h => by rw [h] at z; exact absurd z (by decide)
      rw [if_pos z, if_pos (show nI 0 ≤ z3 from z)] at last
      rw [if_neg nm, if_pos z] at clsH
      exact ⟨-3, u', clsH, last, RR'⟩
    · rw [if_neg z] at last
      rw [if_pos (zm z)] at clsH
      exact ⟨0, u', clsH, last, RR'⟩
