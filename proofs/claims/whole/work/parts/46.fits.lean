/-! ===== pure mathematics 25: fits, liar ===== -/
theorem d_gue (z : Int32) : (F_X11_isGuessed z = some 0 ∧ F_X12_isGuessed z = some 0) ∨ (F_X11_isGuessed z = some 1 ∧ F_X12_isGuessed z = some 1 ∧ (z = 1 ∨ z = 2 ∨ z = 4)) := by
  unfold F_X11_isGuessed F_X12_isGuessed F_X11_isGuessed_j15 F_X12_isGuessed_j15 F_X11_isGuessed_j20 F_X12_isGuessed_j20
  by_cases c1 : z = 1
  · right; rw [if_pos c1, if_pos (Or.inr rfl)]; exact ⟨rfl, rfl, Or.inl c1⟩
  rw [if_neg c1]
  by_cases c2 : z = 2
  · right; rw [if_pos c2, if_pos (Or.inr rfl)]; exact ⟨rfl, rfl, Or.inr (Or.inl c2)⟩
  rw [if_neg c2]
  by_cases c4 : z = 4
  · right; rw [if_pos c4, if_pos (Or.inr rfl)]; exact ⟨rfl, rfl, Or.inr (Or.inr c4)⟩
  rw [if_neg c4]
  left; rw [if_pos (Or.inl rfl)]; exact ⟨rfl, rfl⟩
/-- one guess of the class's -/
def liN (kd : Int32) (s : Nat → Int32) (N k : Nat) : Int32 := lieF (agr kd (nI (k / 1000)) (nI (k % 1000)) s) N 0 (-1)
theorem gue_m1 (kd : Int32) (s : Nat → Int32) {N : Nat} (hN : N ≤ 6) (k : Nat) : gue kd (-1) s N k = allB (agr kd (nI (k / 1000)) (nI (k % 1000)) s) N 0 := by
  unfold gue
  refine allB_eq N 0 (fun j _ hj => ?_)
  have : decide (nI j = -1) = false := by simp; exact nI_m1 (by omega)
  rw [this, Bool.false_or]
theorem gue_t (kd : Int32) (s : Nat → Int32) {N t : Nat} (hN : N ≤ 6) (ht : t < 1000) (k : Nat) : gue kd (nI t) s N k = allB (exc (agr kd (nI (k / 1000)) (nI (k % 1000)) s) t) N 0 := by
  unfold gue
  refine allB_eq N 0 (fun j _ hj => ?_)
  unfold exc
  by_cases c : j = t
  · rw [show decide (nI j = nI t) = true by rw [c]; simp, show decide (j = t) = true by simp [c]]
  · have : nI j ≠ nI t := fun e => c ((nI_eq (by omega) (by omega)).1 e)
    rw [show decide (nI j = nI t) = false by simp [this], show decide (j = t) = false by simp [c]]
theorem gStep {t0 t : xT} {a N : Nat} {kd : Int32} {s : Nat → Int32} (hS : SkC t0 a) (hN : N ≤ 6) (h10 : tI t0 (a + 1) 10 = nI N) (hv : ∀ j, j < 6 → tI t0 (a + 15) j = s (59 + 2 * j) ∧ tI t0 (a + 16) j = s (59 + 2 * j + 1)) (o : Ol t0 t (fun _ => False) (fun _ => False)) (hp : t0.1 < t.1) (hk : tK t t0.1 = kK kd) {k T c : Nat} (hk1 : k = 1000 * T + c) (hc : c < 1000) (hT : 1 ≤ T) (hT9 : T ≤ 9) : ∃ t', F_X0_suppose t t0.1 (nI T) (nI c) = some t' ∧ tK t' a = 11 ∧ tP t' a 0 = some (a + 1) ∧ tK t' (a + 1) = 7 ∧ F_X7_lies t' (a + 1) t0.1 = some (liN kd s N k) ∧ Ol t0 t' (fun _ => False) (fun _ => False) ∧ t0.1 < t'.1 ∧ tK t' t0.1 = kK kd := by
  have hl := hS.lt
  have hb : isBk (tK t t0.1) := by rw [hk]; exact kK_bk _
  have eT : k / 1000 = T := by omega
  have ec : k % 1000 = c := by omega
  have o1 : Ol t0 (tSI (tSI (tSI t t0.1 5 (nI T)) t0.1 6 (nI c)) t0.1 7 1) (fun _ => False) (fun _ => False) :=
    ((o.tr2 (Ol.SI (X := fun q => q = t0.1) (Y := fun _ => False) _ _ _ rfl) (fun q q1 q2 => by omega) (fun _ _ h => h)).tr2 (Ol.SI (X := fun q => q = t0.1) (Y := fun _ => False) _ _ _ rfl) (fun q q1 q2 => by omega) (fun _ _ h => h)).tr2 (Ol.SI (X := fun q => q = t0.1) (Y := fun _ => False) _ _ _ rfl) (fun q q1 q2 => by omega) (fun _ _ h => h)
  have hS1 := hS.ol o1 id id id id
  have bec : ∀ x, F_X0_becomes (tSI (tSI (tSI t t0.1 5 (nI T)) t0.1 6 (nI c)) t0.1 7 1) t0.1 x = some (gB kd (nI T) (nI c) 1 x) := fun x => c_b (kd := kd) hk (by rw [tI_SI, upd_n _ _ (by decide), tI_SI, upd_n _ _ (by decide), tI_SI, upd_s]) (by rw [tI_SI, upd_n _ _ (by decide), tI_SI, upd_s]) (by rw [tI_SI, upd_s]) (by rw [nI_toInt (by omega)]; omega) (by rw [nI_toInt (by omega)]; omega) (by rw [nI_toInt (by omega)]; omega) (by rw [nI_toInt (by omega)]; omega)
  have ly := c_lies (kd := kd) (tm := nI T) (tl := nI c) (s := s) hS1 hN (by rw [o1.2.2.1 (a + 1) (by omega) id]; exact h10) (fun j hj => by rw [o1.2.2.1 (a + 15) (by omega) id, o1.2.2.1 (a + 16) (by omega) id]; exact hv j hj) (p := t0.1) hb bec N 0 (-1) xFuel (by omega) (xF_big (by omega))
  refine ⟨_, ?_, hS1.1, hS1.2.1, hS1.2.2.2.2.2.2.2.2.2.2.2.2.1.1, ?_, o1, hp, hk⟩
  · unfold F_X0_suppose
    simp only [xlet]
    rw [if_pos hb]
  · unfold liN
    rw [eT, ec]; exact ly
def fitR (P : Nat → Bool) (w found M k : Nat) : Int32 := if w = 0 then nI (found + cntF P M k) else match fstF P M k with | none => -3 | some q => if w = 1 then nI (q / 1000) else nI (q % 1000)
theorem lp_fits {t0 : xT} {a N w : Nat} {kd : Int32} {s : Nat → Int32} (hw : w ≤ 2) (hS : SkC t0 a) (hN : N ≤ 6) (h10 : tI t0 (a + 1) 10 = nI N) (hv : ∀ j, j < 6 → tI t0 (a + 15) j = s (59 + 2 * j) ∧ tI t0 (a + 16) j = s (59 + 2 * j + 1)) : ∀ M T c nin nout t found, 1000 * T + c + M = 10000 → c < 1000 → 1 ≤ T → T ≤ 9 → 1000 - c < nin → 10 - T < nout → Ol t0 t (fun _ => False) (fun _ => False) → t0.1 < t.1 → tK t t0.1 = kK kd → ∃ t', F_X11_fits_l43 (F_X11_fits_l33 nout) nin t a (nI w) (some t0.1) (nI found) (nI T) (nI c) = some (fitR (gue kd (-1) s N) w found M (1000 * T + c), t') ∧ Ol t0 t' (fun _ => False) (fun _ => False) := by
  intro M
  induction M with
  | zero => intro T c nin nout t found h1 h2 h3 h4; omega
  | succ M ih =>
    intro T c nin nout t found h1 h2 h3 h4 h5 h6 o hp hk
    cases nin with
    | zero => omega
    | succ nin =>
      obtain ⟨t1, g1, g2, g3, g4, g5, g6, g7, g8⟩ := gStep (kd := kd) (s := s) hS hN h10 hv o hp hk (k := 1000 * T + c) rfl h2 h3 h4
      have hb : isBk (tK t t0.1) := by rw [hk]; exact kK_bk _
      have nxt : ∀ fo, ∃ t', F_X11_fits_j94 (F_X11_fits_l33 nout) (F_X11_fits_l43 (F_X11_fits_l33 nout) nin) t1 a (nI w) (some t0.1) (nI fo) (nI T) (nI c) = some (fitR (gue kd (-1) s N) w fo M (1000 * T + c + 1), t') ∧ Ol t0 t' (fun _ => False) (fun _ => False) := by
        intro fo
        by_cases c9 : c + 1 < 1000
        · obtain ⟨t', r1, r2⟩ := ih T (c + 1) nin nout t1 fo (by omega) c9 h3 h4 (by omega) h6 g6 g7 g8
          refine ⟨t', ?_, r2⟩
          show F_X11_fits_l43 (F_X11_fits_l33 nout) nin t1 a (nI w) (some t0.1) (nI fo) (nI T) (nI c + 1) = _
          rw [nI_1]; exact r1
        · have hc : c = 999 := by omega
          subst hc
          cases nin with
          | zero => omega
          | succ nin =>
            cases nout with
            | zero => omega
            | succ nout =>
              have e1 : F_X11_fits_j94 (F_X11_fits_l33 (nout + 1)) (F_X11_fits_l43 (F_X11_fits_l33 (nout + 1)) (nin + 1)) t1 a (nI w) (some t0.1) (nI fo) (nI T) (nI 999) = F_X11_fits_l33 (nout + 1) t1 a (nI w) (some t0.1) (nI fo) (nI (T + 1)) := by
                show F_X11_fits_l43 (F_X11_fits_l33 (nout + 1)) (nin + 1) t1 a (nI w) (some t0.1) (nI fo) (nI T) (nI 999 + 1) = _
                rw [nI_1, show nI (999 + 1) = nI 1000 from rfl]
                conv => lhs; unfold F_X11_fits_l43
                simp only [xopt, xlet]
                rw [if_pos (show (999 : Int32) < nI 1000 from nI_lt (a := 999) (b := 1000) (by omega) (by omega)), nI_1]
              rw [e1]
              conv => enter [1, t', 1]; lhs; unfold F_X11_fits_l33
              show ∃ t', (if (9 : Int32) < nI (T + 1) then (if nI w = 0 then F_X11_fits_j117 t1 a (nI fo) else F_X11_fits_j117 t1 a (-3)) else F_X11_fits_l43 (F_X11_fits_l33 nout) xFuel t1 a (nI w) (some t0.1) (nI fo) (nI (T + 1)) (nI 0)) = _ ∧ _
              by_cases cT : T = 9
              · subst cT
                have hM : M = 0 := by omega
                subst hM
                rw [if_pos (show (9 : Int32) < nI (9 + 1) from nI_lt (a := 9) (b := 10) (by omega) (by omega))]
                refine ⟨t1, ?_, g6⟩
                unfold fitR F_X11_fits_j117
                by_cases cw : w = 0
                · subst cw; rw [if_pos (show nI 0 = (0 : Int32) from rfl), if_pos rfl]; rfl
                · rw [if_neg cw, if_neg (show ¬ nI w = (0 : Int32) from fun e => cw ((nI_eq (a := w) (b := 0) (by omega) (by omega)).1 e))]; rfl
              · rw [if_neg (show ¬ (9 : Int32) < nI (T + 1) from nI_nlt (a := 9) (b := T + 1) (by omega) (by omega))]
                obtain ⟨t', r1, r2⟩ := ih (T + 1) 0 xFuel nout t1 fo (by omega) (by omega) (by omega) (by omega) (xF_big (by omega)) (by omega) g6 g7 g8
                refine ⟨t', ?_, r2⟩
                rw [show 1000 * T + 999 + 1 = 1000 * (T + 1) + 0 by omega]
                exact r1
      have ng : ¬ (999 : Int32) < nI c := nI_nlt (a := 999) (b := c) (by omega) (by omega)
      have body : ∀ r, (if liN kd s N (1000 * T + c) = (-1 : Int32) then if nI w = 0 then F_X11_fits_j94 (F_X11_fits_l33 nout) (F_X11_fits_l43 (F_X11_fits_l33 nout) nin) t1 a (nI w) (some t0.1) (nI (found + 1)) (nI T) (nI c) else if nI w = (1 : Int32) then F_X11_fits_j90 t1 a (nI T) else F_X11_fits_j90 t1 a (nI c) else F_X11_fits_j94 (F_X11_fits_l33 nout) (F_X11_fits_l43 (F_X11_fits_l33 nout) nin) t1 a (nI w) (some t0.1) (nI found) (nI T) (nI c)) = some r → F_X11_fits_l43 (F_X11_fits_l33 nout) (nin + 1) t a (nI w) (some t0.1) (nI found) (nI T) (nI c) = some r := by
        intro r hr
        conv => lhs; unfold F_X11_fits_l43
        simp only [xopt]
        rw [if_neg ng, if_pos hb, g1, Option.bind_some, if_pos g2, g3, Option.bind_some, if_pos g4, g5, Option.bind_some]
        simp only [xlet, nI_1]
        exact hr
      have eq1 : (liN kd s N (1000 * T + c) = -1) = (gue kd (-1) s N (1000 * T + c) = true) := by
        rw [gue_m1 kd s hN]; exact propext (lie_A N 0 (by omega))
      by_cases g : gue kd (-1) s N (1000 * T + c) = true
      · have eL : liN kd s N (1000 * T + c) = -1 := by rw [eq1]; exact g
        by_cases cw : w = 0
        · subst cw
          obtain ⟨t', r1, r2⟩ := nxt (found + 1)
          refine ⟨t', body _ ?_, r2⟩
          rw [if_pos eL, if_pos (show nI 0 = 0 from rfl), r1]
          unfold fitR
          rw [if_pos rfl, if_pos rfl, cnt_s, if_pos g, show found + 1 + cntF (gue kd (-1) s N) M (1000 * T + c + 1) = found + (cntF (gue kd (-1) s N) M (1000 * T + c + 1) + 1) by omega]
        · have cw' : ¬ nI w = 0 := fun e => cw ((nI_eq (a := w) (b := 0) (by omega) (by omega)).1 e)
          by_cases cw1 : w = 1
          · subst cw1
            refine ⟨t1, body _ ?_, g6⟩
            rw [if_pos eL, if_neg cw', if_pos (show nI 1 = 1 from rfl)]
            unfold fitR F_X11_fits_j90
            rw [if_neg (by decide), fst_s, if_pos g]
            show _ = some (if 1 = 1 then nI ((1000 * T + c) / 1000) else _, t1)
            rw [if_pos rfl, show (1000 * T + c) / 1000 = T by omega]
          · have cw1' : ¬ nI w = (1 : Int32) := fun e => cw1 ((nI_eq (a := w) (b := 1) (by omega) (by omega)).1 e)
            refine ⟨t1, body _ ?_, g6⟩
            rw [if_pos eL, if_neg cw', if_neg cw1']
            unfold fitR F_X11_fits_j90
            rw [if_neg cw, fst_s, if_pos g]
            show _ = some (if w = 1 then nI ((1000 * T + c) / 1000) else nI ((1000 * T + c) % 1000), t1)
            rw [if_neg cw1, show (1000 * T + c) % 1000 = c by omega]
      · have eL : ¬ liN kd s N (1000 * T + c) = -1 := by rw [eq1]; exact g
        obtain ⟨t', r1, r2⟩ := nxt found
        refine ⟨t', body _ ?_, r2⟩
        rw [if_neg eL, r1]
        unfold fitR
        rw [cnt_s, if_neg g, fst_s, if_neg g]
theorem Ri15 {z : Int32} (h : z = 1 ∨ z = 2 ∨ z = 4) : (z = 1 ∨ z = 2 ∨ z = 3 ∨ z = 4 ∨ z = 5) ∧ 1 ≤ z.toInt ∧ z.toInt ≤ 5 := by
  rcases h with h | h | h <;> subst h
  · exact ⟨Or.inl rfl, by decide, by decide⟩
  · exact ⟨Or.inr (Or.inl rfl), by decide, by decide⟩
  · exact ⟨Or.inr (Or.inr (Or.inr (Or.inl rfl))), by decide, by decide⟩
theorem st_fits : sT_fits RR := by
  intro t a u z0 z1 hR
  obtain ⟨B, ls, hk, hp, hk1, hS, hI, hRd, hL, hBg, hSt⟩ := hR.rd
  have hl := hS.lt
  rcases d_gue z0 with ⟨b1, b2⟩ | ⟨b1, b2, b3⟩
  · exact ⟨-1, t, u, by simp only [F_X11_fits, F_X11_fits_j16, b1, Option.bind_some, if_true], by simp only [F_X12_fits, F_X12_fits_j19, b2, Option.bind_some, if_true], hR⟩
  rcases d_in z1 0 2 (A := 0) (B := 2) rfl rfl with ⟨n1, n2, -⟩ | ⟨n1, n2, n3, n4⟩
  · exact ⟨-1, t, u, by simp only [F_X11_fits, F_X11_fits_j16, b1, n1, Option.bind_some, n10, if_false, if_true], by simp only [F_X12_fits, F_X12_fits_j19, b2, n2, Option.bind_some, n10, if_false, if_true], hR⟩
  obtain ⟨w, hw, rfl⟩ := nI_of2 (x := z1) (M := 2) (n := 2) rfl (by rw [fa_lt]; exact Int.not_lt.mpr n3) (by rw [fa_le]; exact n4)
  obtain ⟨kd5, kdr⟩ := Ri15 b3
  obtain ⟨hN, h2⟩ := hI.2.2.1
  have h10 := hRd.2.2.2.1.trans h2
  obtain ⟨t', r1, r2⟩ := lp_fits (kd := z0) (s := u.2.1 0) hw hS hN h10 hRd.2.2.2.2.2 9000 1 0 xFuel 999999 (md t z0 0 1 0 0) 0 (by omega) (by omega) (by omega) (by omega) (xF_big (by omega)) (by omega) (md_ol _ _ _ _ _ _) (by rw [md_1]; omega) (md_K _ _ _ _ _ _)
  obtain ⟨u', q1, q2, -, q4⟩ := r_gue (u := u) (but := -1) hN h2 kdr rfl
  have e1000 : 1000 * 1 + 0 = 1000 := rfl
  rw [e1000] at r1
  refine ⟨fitR (gue z0 (-1) (u.2.1 0) (nT (u.2.1 0))) w 0 9000 1000, t', u', ?_, ?_, (hR.scratch (r2.w (fun _ _ h => h.elim) (fun _ _ h => h))).scr q2⟩
  · unfold F_X11_fits
    rw [b1, Option.bind_some, if_neg (show ¬ (1 : Int32) = 0 by decide), n1, Option.bind_some, if_neg (show ¬ (1 : Int32) = 0 by decide), c_made kd5, Option.bind_some]
    show F_X11_fits_l33 (999999 + 1) (md t z0 0 1 0 0) a (nI w) (some t.1) 0 1 = _
    unfold F_X11_fits_l33
    simp only [xopt]
    rw [if_neg (show ¬ (9 : Int32) < 1 by decide)]
    exact r1
  · unfold F_X12_fits F_X12_fits_j69
    rw [b2, Option.bind_some, if_neg (show ¬ (1 : Int32) = 0 by decide), n2, Option.bind_some, if_neg (show ¬ (1 : Int32) = 0 by decide), q1, Option.bind_some]
    have cl := cnt_le (gue z0 (-1) (u.2.1 0) (nT (u.2.1 0))) 9000 1000
    have c0 := fst_0 (gue z0 (-1) (u.2.1 0) (nT (u.2.1 0))) 9000 1000
    have fr := fst_r (gue z0 (-1) (u.2.1 0) (nT (u.2.1 0))) 9000 1000
    unfold fitR
    generalize cntF (gue z0 (-1) (u.2.1 0) (nT (u.2.1 0))) 9000 1000 = C at *
    generalize fstF (gue z0 (-1) (u.2.1 0) (nT (u.2.1 0))) 9000 1000 = F at *
    by_cases cw : w = 0
    · subst cw
      rw [if_pos rfl, if_pos (show nI 0 = 0 from rfl), Nat.zero_add]
    · have cw' : ¬ nI w = 0 := fun e => cw ((nI_eq (a := w) (b := 0) (by omega) (by omega)).1 e)
      rw [if_neg cw, if_neg cw']
      cases F with
      | none =>
        have : C = 0 := c0.1 rfl
        subst this
        rw [if_pos (show nI 0 = 0 from rfl)]
      | some q =>
        have hC : ¬ C = 0 := fun e => by have := c0.2 e; cases this
        have hC' : ¬ nI C = 0 := fun e => hC ((nI_eq (a := C) (b := 0) (by omega) (by omega)).1 e)
        have := fr q rfl
        obtain ⟨d1, d2⟩ := n_div1000 (k := q) (by omega)
        rw [if_neg hC']
        show (if nI w = 1 then some (u'.1 14 / 1000, u') else some (u'.1 14 - u'.1 14 / 1000 * 1000, u')) = some (if w = 1 then nI (q / 1000) else nI (q % 1000), u')
        rw [q4 q rfl, d2, d1]
        by_cases cw1 : w = 1
        · subst cw1; rw [if_pos (show nI 1 = 1 from rfl), if_pos rfl]
        · have cw1' : ¬ nI w = (1 : Int32) := fun e => cw1 ((nI_eq (a := w) (b := 1) (by omega) (by omega)).1 e)
          rw [if_neg cw1', if_neg cw1]
/-! liar -/
def liaR (L : Nat → Int32) : Nat → Nat → Int32 → Int32
  | 0, _, y => if 6 ≤ y then -3 else y
  | M + 1, k, y => if L k = -1 then -3 else if L k = -2 then liaR L M (k + 1) y else liaR L M (k + 1) (if L k < y then L k else y)
theorem liaR_s (L : Nat → Int32) (M k : Nat) (y : Int32) : liaR L (M + 1) k y = if L k = -1 then -3 else if L k = -2 then liaR L M (k + 1) y else liaR L M (k + 1) (if L k < y then L k else y) := rfl
theorem liaR_1 {L : Nat → Int32} : ∀ M k y, (∃ q, k ≤ q ∧ q < k + M ∧ L q = -1) → liaR L M k y = -3
  | 0, k, y, ⟨q, h1, h2, _⟩ => by omega
  | M + 1, k, y, ⟨q, h1, h2, h3⟩ => by
    rw [liaR_s]
    by_cases c : L k = -1
    · rw [if_pos c]
    · have : q ≠ k := fun e => c (e ▸ h3)
      rw [if_neg c, liaR_1 M (k + 1) y ⟨q, by omega, by omega, h3⟩, liaR_1 M (k + 1) _ ⟨q, by omega, by omega, h3⟩]
      by_cases d : L k = -2
      · rw [if_pos d]
      · rw [if_neg d]
theorem liaR_2 {L : Nat → Int32} : ∀ M k c, c ≤ 6 → (∀ q, k ≤ q → q < k + M → L q = -2 ∨ ∃ t, t < 6 ∧ L q = nI t) → (liaR L M k (nI c) = -3 ∧ c = 6 ∧ ∀ q, k ≤ q → q < k + M → ∀ t, t < 6 → L q ≠ nI t) ∨ ∃ t, t < 6 ∧ liaR L M k (nI c) = nI t ∧ (t = c ∨ ∃ q, k ≤ q ∧ q < k + M ∧ L q = nI t) ∧ t ≤ c ∧ ∀ t', t' < t → ∀ q, k ≤ q → q < k + M → L q ≠ nI t'
  | 0, k, c, hc, _ => by
    unfold liaR
    by_cases h : c = 6
    · subst h
      left; exact ⟨by rw [if_pos (show (6 : Int32) ≤ nI 6 by decide)], rfl, fun q h1 h2 => by omega⟩
    · right
      refine ⟨c, by omega, ?_, Or.inl rfl, Nat.le_refl _, fun t' _ q h1 h2 => by omega⟩
      rw [if_neg (show ¬ (6 : Int32) ≤ nI c from nI_ge (a := c) (b := 6) (by omega) (by decide))]
  | M + 1, k, c, hc, hL => by
    have hk := hL k (Nat.le_refl _) (by omega)
    have hL' : ∀ q, k + 1 ≤ q → q < k + 1 + M → L q = -2 ∨ ∃ t, t < 6 ∧ L q = nI t := fun q h1 h2 => hL q (by omega) (by omega)
    rw [liaR_s]
    rcases hk with hk | ⟨t, ht, hk⟩
    · rw [if_neg (show ¬ L k = -1 by rw [hk]; decide), if_pos hk]
      have nk : ∀ t, t < 6 → L k ≠ nI t := fun t ht e => nI_m2 (by omega) (e.symm.trans hk)
      rcases liaR_2 M (k + 1) c hc hL' with ⟨h1, h2, h3⟩ | ⟨t, h1, h2, h3, h4, h5⟩
      · left; refine ⟨h1, h2, fun q q1 q2 t ht => ?_⟩
        by_cases e : q = k
        · rw [e]; exact nk t ht
        · exact h3 q (by omega) (by omega) t ht
      · right
        refine ⟨t, h1, h2, ?_, h4, fun t' ht' q q1 q2 => ?_⟩
        · rcases h3 with h3 | ⟨q, q1, q2, q3⟩
          · exact Or.inl h3
          · exact Or.inr ⟨q, by omega, by omega, q3⟩
        · by_cases e : q = k
          · rw [e]; exact nk t' (by omega)
          · exact h5 t' ht' q (by omega) (by omega)
    · rw [if_neg (show ¬ L k = -1 by rw [hk]; exact nI_m1 (by omega)), if_neg (show ¬ L k = -2 by rw [hk]; exact nI_m2 (by omega))]
      by_cases d : t < c
      · rw [if_pos (show L k < nI c by rw [hk]; exact nI_lt d (by omega)), hk]
        rcases liaR_2 M (k + 1) t (by omega) hL' with ⟨h1, h2, h3⟩ | ⟨r, h1, h2, h3, h4, h5⟩
        · omega
        · right
          refine ⟨r, h1, h2, ?_, by omega, fun t' ht' q q1 q2 => ?_⟩
          · rcases h3 with h3 | ⟨q, q1, q2, q3⟩
            · exact Or.inr ⟨k, Nat.le_refl _, by omega, by rw [h3]; exact hk⟩
            · exact Or.inr ⟨q, by omega, by omega, q3⟩
          · by_cases e : q = k
            · rw [e, hk]; intro e2
              have := (nI_eq (by omega) (by omega)).1 e2
              omega
            · exact h5 t' ht' q (by omega) (by omega)
      · rw [if_neg (show ¬ L k < nI c by rw [hk]; exact nI_nlt (by omega) (by omega))]
        rcases liaR_2 M (k + 1) c hc hL' with ⟨h1, h2, h3⟩ | ⟨r, h1, h2, h3, h4, h5⟩
        · omega
        · right
          refine ⟨r, h1, h2, ?_, h4, fun t' ht' q q1 q2 => ?_⟩
          · rcases h3 with h3 | ⟨q, q1, q2, q3⟩
            · exact Or.inl h3
            · exact Or.inr ⟨q, by omega, by omega, q3⟩
          · by_cases e : q = k
            · rw [e, hk]; intro e2
              have := (nI_eq (by omega) (by omega)).1 e2
              omega
            · exact h5 t' ht' q (by omega) (by omega)
theorem l24_s (n : Nat) (t : xT) (a p : Nat) (y T : Int32) : F_X11_liar_l24 (n + 1) t a (some p) y T = if (9 : Int32) < T then (if (6 : Int32) ≤ y then some ((-3 : Int32), t) else some (y, t)) else F_X11_liar_l34 (F_X11_liar_l24 n) xFuel t a (some p) y T 0 := by
  conv => lhs; unfold F_X11_liar_l24
  simp only [xopt, F_X11_liar_j107]
theorem j83_s (kc24 : xT → Nat → (Option Nat) → Int32 → Int32 → Option (Int32 × xT)) (kc34 : xT → Nat → (Option Nat) → Int32 → Int32 → Int32 → Option (Int32 × xT)) (t : xT) (a p : Nat) (y T : Int32) (c : Nat) : F_X11_liar_j83 kc24 kc34 t a (some p) y T (nI c) = kc34 t a (some p) y T (nI (c + 1)) := by
  unfold F_X11_liar_j83
  simp only [xopt, xlet, nI_1]
theorem l34_e (kc : xT → Nat → (Option Nat) → Int32 → Int32 → Option (Int32 × xT)) (n : Nat) (t : xT) (a p : Nat) (y : Int32) (T : Nat) : F_X11_liar_l34 kc (n + 1) t a (some p) y (nI T) (nI 1000) = kc t a (some p) y (nI (T + 1)) := by
  conv => lhs; unfold F_X11_liar_l34
  simp only [xopt, xlet]
  rw [if_pos (show (999 : Int32) < nI 1000 from nI_lt (a := 999) (b := 1000) (by omega) (by omega)), nI_1]
theorem lp_liar {t0 : xT} {a N : Nat} {kd : Int32} {s : Nat → Int32} (hS : SkC t0 a) (hN : N ≤ 6) (h10 : tI t0 (a + 1) 10 = nI N) (hv : ∀ j, j < 6 → tI t0 (a + 15) j = s (59 + 2 * j) ∧ tI t0 (a + 16) j = s (59 + 2 * j + 1)) : ∀ M T c nin nout t y, 1000 * T + c + M = 10000 → c < 1000 → 1 ≤ T → T ≤ 9 → 1000 - c < nin → 10 - T < nout → Ol t0 t (fun _ => False) (fun _ => False) → t0.1 < t.1 → tK t t0.1 = kK kd → ∃ t', F_X11_liar_l34 (F_X11_liar_l24 nout) nin t a (some t0.1) y (nI T) (nI c) = some (liaR (liN kd s N) M (1000 * T + c) y, t') ∧ Ol t0 t' (fun _ => False) (fun _ => False) := by
  intro M
  induction M with
  | zero => intro T c nin nout t y h1 h2 h3 h4; omega
  | succ M ih =>
    intro T c nin nout t y h1 h2 h3 h4 h5 h6 o hp hk
    cases nin with
    | zero => omega
    | succ nin =>
      obtain ⟨t1, g1, g2, g3, g4, g5, g6, g7, g8⟩ := gStep (kd := kd) (s := s) hS hN h10 hv o hp hk (k := 1000 * T + c) rfl h2 h3 h4
      have hb : isBk (tK t t0.1) := by rw [hk]; exact kK_bk _
      have nxt : ∀ y, ∃ t', F_X11_liar_j83 (F_X11_liar_l24 nout) (F_X11_liar_l34 (F_X11_liar_l24 nout) nin) t1 a (some t0.1) y (nI T) (nI c) = some (liaR (liN kd s N) M (1000 * T + c + 1) y, t') ∧ Ol t0 t' (fun _ => False) (fun _ => False) := by
        intro y
        by_cases c9 : c + 1 < 1000
        · obtain ⟨t', r1, r2⟩ := ih T (c + 1) nin nout t1 y (by omega) c9 h3 h4 (by omega) h6 g6 g7 g8
          exact ⟨t', by rw [j83_s]; exact r1, r2⟩
        · have hc : c = 999 := by omega
          subst hc
          cases nin with
          | zero => omega
          | succ nin =>
            cases nout with
            | zero => omega
            | succ nout =>
              rw [j83_s, show nI (999 + 1) = nI 1000 from rfl, l34_e, l24_s]
              by_cases cT : T = 9
              · subst cT
                have hM : M = 0 := by omega
                subst hM
                rw [if_pos (show (9 : Int32) < nI (9 + 1) from nI_lt (a := 9) (b := 10) (by omega) (by omega))]
                refine ⟨t1, ?_, g6⟩
                unfold liaR
                by_cases cw : (6 : Int32) ≤ y
                · rw [if_pos cw, if_pos cw]
                · rw [if_neg cw, if_neg cw]
              · rw [if_neg (show ¬ (9 : Int32) < nI (T + 1) from nI_nlt (a := 9) (b := T + 1) (by omega) (by omega))]
                obtain ⟨t', r1, r2⟩ := ih (T + 1) 0 xFuel nout t1 y (by omega) (by omega) (by omega) (by omega) (xF_big (by omega)) (by omega) g6 g7 g8
                refine ⟨t', ?_, r2⟩
                rw [show 1000 * T + 999 + 1 = 1000 * (T + 1) + 0 by omega]
                exact r1
      have ng : ¬ (999 : Int32) < nI c := nI_nlt (a := 999) (b := c) (by omega) (by omega)
      have body : ∀ r, (if liN kd s N (1000 * T + c) = (-1 : Int32) then some ((-3 : Int32), t1) else if liN kd s N (1000 * T + c) = (-2 : Int32) then F_X11_liar_j83 (F_X11_liar_l24 nout) (F_X11_liar_l34 (F_X11_liar_l24 nout) nin) t1 a (some t0.1) y (nI T) (nI c) else F_X11_liar_j83 (F_X11_liar_l24 nout) (F_X11_liar_l34 (F_X11_liar_l24 nout) nin) t1 a (some t0.1) (if liN kd s N (1000 * T + c) < y then liN kd s N (1000 * T + c) else y) (nI T) (nI c)) = some r → F_X11_liar_l34 (F_X11_liar_l24 nout) (nin + 1) t a (some t0.1) y (nI T) (nI c) = some r := by
        intro r hr
        conv => lhs; unfold F_X11_liar_l34
        simp only [xopt]
        rw [if_neg ng, if_pos hb, g1, Option.bind_some, if_pos g2, g3, Option.bind_some, if_pos g4, g5, Option.bind_some]
        simp only [xlet]
        exact hr
      rw [liaR_s]
      by_cases c1 : liN kd s N (1000 * T + c) = -1
      · rw [if_pos c1]
        exact ⟨t1, body _ (by rw [if_pos c1]), g6⟩
      · rw [if_neg c1]
        by_cases c2 : liN kd s N (1000 * T + c) = -2
        · rw [if_pos c2]
          obtain ⟨t', r1, r2⟩ := nxt y
          exact ⟨t', body _ (by rw [if_neg c1, if_pos c2]; exact r1), r2⟩
        · rw [if_neg c2]
          obtain ⟨t', r1, r2⟩ := nxt (if liN kd s N (1000 * T + c) < y then liN kd s N (1000 * T + c) else y)
          exact ⟨t', body _ (by rw [if_neg c1, if_neg c2]; exact r1), r2⟩
theorem fnd_n {P : Nat → Bool} : ∀ m i, fnd P m i = -1 ∧ (∀ b, i ≤ b → b < i + m → P b = false) ∨ ∃ b, i ≤ b ∧ b < i + m ∧ P b = true ∧ fnd P m i = nI b ∧ ∀ b', i ≤ b' → b' < b → P b' = false
  | 0, i => Or.inl ⟨rfl, fun b h1 h2 => by omega⟩
  | m + 1, i => by
    unfold fnd
    by_cases c : P i = true
    · rw [if_pos c]; exact Or.inr ⟨i, Nat.le_refl _, by omega, c, rfl, fun b' h1 h2 => by omega⟩
    · rw [if_neg c]
      have c' : P i = false := by simpa using c
      rcases fnd_n (P := P) m (i + 1) with ⟨h1, h2⟩ | ⟨b, h1, h2, h3, h4, h5⟩
      · refine Or.inl ⟨h1, fun b b1 b2 => ?_⟩
        by_cases e : b = i
        · rw [e]; exact c'
        · exact h2 b (by omega) (by omega)
      · refine Or.inr ⟨b, by omega, by omega, h3, h4, fun b' b1 b2 => ?_⟩
        by_cases e : b' = i
        · rw [e]; exact c'
        · exact h5 b' (by omega) (by omega)
def liaQ (kd : Int32) (s : Nat → Int32) (N t : Nat) : Bool := decide (0 < cntF (gue kd (nI t) s N) 9000 1000)
theorem lp_liar2 {N : Nat} {kd : Int32} {s : Nat → Int32} (hN : N ≤ 6) (h2 : s 2 = nI N) (hkd : 1 ≤ kd.toInt ∧ kd.toInt ≤ 5) : ∀ m i n u, i + m = N → m + 1 < n → u.2.1 0 = s → ∃ u', F_X12_liar_l29 n u kd (-1) 1 (nI i) = some (if 0 ≤ fnd (liaQ kd s N) m i then fnd (liaQ kd s N) m i else -3, u') ∧ Cr u' = Cr u
  | _, _, 0, _, _, h, _ => absurd h (Nat.not_lt_zero _)
  | 0, i, n + 1, u, hi, _, hu => by
    have hi : i = N := by omega
    subst hi
    refine ⟨u, ?_, rfl⟩
    unfold F_X12_liar_l29 F_X12_liar_j71
    rw [if_pos xi2, cl2, hu, h2, if_pos (nI_le (Nat.le_refl i) (by omega)), n_none]; rfl
  | m + 1, i, n + 1, u, hi, hm, hu => by
    obtain ⟨u1, q1, q2, q3, -⟩ := r_gue (u := u) (but := nI i) hN h2 hkd hu
    have cl := cnt_le (gue kd (nI i) s N) 9000 1000
    have head : F_X12_liar_l29 (n + 1) u kd (-1) 1 (nI i) = if nI (cntF (gue kd (nI i) s N) 9000 1000) ≤ 0 then F_X12_liar_j64 (F_X12_liar_l29 n) u1 kd 1 (nI i) (-1) else F_X12_liar_j64 (F_X12_liar_l29 n) u1 kd 1 (nI i) (nI i) := by
      conv => lhs; unfold F_X12_liar_l29
      rw [if_pos xi2, cl2, hu, h2, if_neg (nI_ge (show i < N by omega) (by omega)), if_neg (show ¬ (1 : Int32) = 0 by decide), if_neg (show ¬ (0 : Int32) ≤ -1 by decide), q1]; rfl
    rw [head]
    by_cases c : 0 < cntF (gue kd (nI i) s N) 9000 1000
    · have e : fnd (liaQ kd s N) (m + 1) i = nI i := by
        unfold fnd
        rw [if_pos (show liaQ kd s N i = true by unfold liaQ; simpa using c)]
      rw [if_neg (nI_nle c (by omega)), e, if_pos (nI_pos' (by omega))]
      refine ⟨u1, ?_, q2⟩
      show F_X12_liar_l29 n u1 kd (nI i) 1 (nI i + 1) = _
      cases n with
      | zero => omega
      | succ n =>
        have j : F_X12_liar_j71 u1 (nI i) = some (nI i, u1) := by unfold F_X12_liar_j71; rw [n_none, if_pos (nI_pos' (by omega))]; rfl
        unfold F_X12_liar_l29
        rw [if_pos xi2, if_neg (show ¬ (1 : Int32) = 0 by decide), if_pos (nI_pos' (by omega)), j]
        by_cases q : u1.2.1 0 (2 : Int32).toNatClampNeg ≤ nI i + 1
        · rw [if_pos q]
        · rw [if_neg q]
    · have e : fnd (liaQ kd s N) (m + 1) i = fnd (liaQ kd s N) m (i + 1) := by
        conv => lhs; unfold fnd
        rw [if_neg (show ¬ liaQ kd s N i = true by unfold liaQ; simpa using c)]
      have c0 : cntF (gue kd (nI i) s N) 9000 1000 = 0 := by omega
      obtain ⟨u', r1, r2⟩ := lp_liar2 hN h2 hkd m (i + 1) n u1 (by omega) (by omega) q3
      refine ⟨u', ?_, r2.trans q2⟩
      rw [c0, if_pos (show nI 0 ≤ 0 by decide), e]
      show F_X12_liar_l29 n u1 kd (-1) 1 (nI i + 1) = _
      rw [nI_1]; exact r1
theorem st_liar : sT_liar RR := by
  intro t a u z0 hR
  obtain ⟨B, ls, hk, hp, hk1, hS, hI, hRd, hL, hBg, hSt⟩ := hR.rd
  have hl := hS.lt
  rcases d_gue z0 with ⟨b1, b2⟩ | ⟨b1, b2, b3⟩
  · exact ⟨-1, t, u, by simp only [F_X11_liar, b1, Option.bind_some, if_true], by simp only [F_X12_liar, b2, Option.bind_some, if_true], hR⟩
  obtain ⟨kd5, kdr⟩ := Ri15 b3
  obtain ⟨hN, h2⟩ := hI.2.2.1
  have h10 := hRd.2.2.2.1.trans h2
  obtain ⟨t', r1, r2⟩ := lp_liar (kd := z0) (s := u.2.1 0) hS hN h10 hRd.2.2.2.2.2 9000 1 0 xFuel 999999 (md t z0 0 1 0 0) 6 (by omega) (by omega) (by omega) (by omega) (xF_big (by omega)) (by omega) (md_ol _ _ _ _ _ _) (by rw [md_1]; omega) (md_K _ _ _ _ _ _)
  have e1000 : 1000 * 1 + 0 = 1000 := rfl
  rw [e1000] at r1
  have cls : F_X11_liar t a z0 = some (liaR (liN z0 (u.2.1 0) (nT (u.2.1 0))) 9000 1000 6, t') := by
    unfold F_X11_liar
    rw [b1, Option.bind_some, if_neg (show ¬ (1 : Int32) = 0 by decide), c_made kd5, Option.bind_some]
    show F_X11_liar_l24 (999999 + 1) (md t z0 0 1 0 0) a (some t.1) 6 1 = _
    unfold F_X11_liar_l24
    simp only [xopt]
    rw [if_neg (show ¬ (9 : Int32) < 1 by decide)]
    exact r1
  obtain ⟨u1, q1, q2, q3, -⟩ := r_gue (u := u) (but := -1) hN h2 kdr rfl
  have RRt := hR.scratch (r2.w (X' := fun q => a + 40 ≤ q ∧ q ≤ a + 42) (fun _ _ h => h.elim) (fun _ _ h => h))
  have cl := cnt_le (gue z0 (-1) (u.2.1 0) (nT (u.2.1 0))) 9000 1000
  have lin : ∀ k, (liN z0 (u.2.1 0) (nT (u.2.1 0)) k = -1) = (gue z0 (-1) (u.2.1 0) (nT (u.2.1 0)) k = true) := fun k => by
    rw [gue_m1 z0 _ hN]; exact propext (lie_A _ 0 (by omega))
  by_cases c : 0 < cntF (gue z0 (-1) (u.2.1 0) (nT (u.2.1 0))) 9000 1000
  · obtain ⟨q, h1, h2', h3⟩ := (cnt_0 _ _ _).1 c
    have e := liaR_1 (L := liN z0 (u.2.1 0) (nT (u.2.1 0))) 9000 1000 6 ⟨q, h1, h2', by rw [lin]; exact h3⟩
    refine ⟨-3, t', u1, by rw [cls, e], ?_, RRt.scr q2⟩
    unfold F_X12_liar F_X12_liar_j25
    rw [b2, Option.bind_some, if_neg (show ¬ (1 : Int32) = 0 by decide), q1, Option.bind_some]
    show (if nI (cntF _ 9000 1000) = 0 then _ else _) = _
    rw [if_neg (nI_ne0 c (by omega))]
    show F_X12_liar_l29 (999999 + 1) u1 z0 (-1) 0 0 = _
    unfold F_X12_liar_l29 F_X12_liar_j71
    rw [if_pos xi2, n_none, if_neg (show ¬ (0 : Int32) ≤ -1 by decide)]
    by_cases d : u1.2.1 0 (2 : Int32).toNatClampNeg ≤ 0
    · rw [if_pos d]; rfl
    · rw [if_neg d, if_pos rfl]; rfl
  · have c0 : cntF (gue z0 (-1) (u.2.1 0) (nT (u.2.1 0))) 9000 1000 = 0 := by omega
    obtain ⟨u', w1, w2⟩ := lp_liar2 (kd := z0) hN h2 kdr (nT (u.2.1 0)) 0 xFuel u1 (by omega) (xF_big (by omega)) q3
    have ref : F_X12_liar u z0 = some (if 0 ≤ fnd (liaQ z0 (u.2.1 0) (nT (u.2.1 0))) (nT (u.2.1 0)) 0 then fnd (liaQ z0 (u.2.1 0) (nT (u.2.1 0))) (nT (u.2.1 0)) 0 else -3, u') := by
      unfold F_X12_liar F_X12_liar_j25
      rw [b2, Option.bind_some, if_neg (show ¬ (1 : Int32) = 0 by decide), q1, Option.bind_some]
      show (if nI (cntF _ 9000 1000) = 0 then _ else _) = _
      rw [c0, if_pos (show nI 0 = 0 from rfl)]
      exact w1
    have nofull : ∀ q, 1000 ≤ q → q < 1000 + 9000 → ¬ gue z0 (-1) (u.2.1 0) (nT (u.2.1 0)) q = true := fun q h1 h2 h3 => c ((cnt_0 _ _ _).2 ⟨q, h1, h2, h3⟩)
    -- a tale t is the only lie of some guess
    have only : ∀ t q, t < nT (u.2.1 0) → 1000 ≤ q → q < 1000 + 9000 → (liN z0 (u.2.1 0) (nT (u.2.1 0)) q = nI t ↔ gue z0 (nI t) (u.2.1 0) (nT (u.2.1 0)) q = true) := fun t q ht h1 h2 => by
      have nf := nofull q h1 h2
      rw [gue_m1 z0 _ hN] at nf
      rw [gue_t z0 _ hN (by omega)]
      unfold liN
      rw [lie_C (by omega) _ 0 (by omega)]
      constructor
      · intro h; exact h.2.2.2
      · intro h; exact ⟨by simpa using nf, Nat.zero_le _, by omega, h⟩
    have ran : ∀ q, 1000 ≤ q → q < 1000 + 9000 → liN z0 (u.2.1 0) (nT (u.2.1 0)) q = -2 ∨ ∃ t, t < 6 ∧ liN z0 (u.2.1 0) (nT (u.2.1 0)) q = nI t := fun q h1 h2 => by
      rcases lie_D (P := agr z0 (nI (q / 1000)) (nI (q % 1000)) (u.2.1 0)) (nT (u.2.1 0)) 0 (by omega) with h | h | ⟨t, ht, h⟩
      · exact absurd ((lin q).mp h) (nofull q h1 h2)
      · exact Or.inl h
      · exact Or.inr ⟨t, by omega, h⟩
    have less : ∀ t q, 1000 ≤ q → q < 1000 + 9000 → t < 6 → liN z0 (u.2.1 0) (nT (u.2.1 0)) q = nI t → t < nT (u.2.1 0) := fun t q h1 h2 ht h => by
      have := (lie_C (P := agr z0 (nI (q / 1000)) (nI (q % 1000)) (u.2.1 0)) (t := t) (by omega) (nT (u.2.1 0)) 0 (by omega)).1 h
      omega
    have Q : ∀ t, t < nT (u.2.1 0) → (liaQ z0 (u.2.1 0) (nT (u.2.1 0)) t = true ↔ ∃ q, 1000 ≤ q ∧ q < 1000 + 9000 ∧ liN z0 (u.2.1 0) (nT (u.2.1 0)) q = nI t) := fun t ht => by
      unfold liaQ
      rw [decide_eq_true_eq, cnt_0]
      constructor
      · intro ⟨q, h1, h2, h3⟩; exact ⟨q, h1, h2, (only t q ht h1 h2).2 h3⟩
      · intro ⟨q, h1, h2, h3⟩; exact ⟨q, h1, h2, (only t q ht h1 h2).1 h3⟩
    have e6 : liaR (liN z0 (u.2.1 0) (nT (u.2.1 0))) 9000 1000 6 = if 0 ≤ fnd (liaQ z0 (u.2.1 0) (nT (u.2.1 0))) (nT (u.2.1 0)) 0 then fnd (liaQ z0 (u.2.1 0) (nT (u.2.1 0))) (nT (u.2.1 0)) 0 else -3 := by
      have L2 : (liaR (liN z0 (u.2.1 0) (nT (u.2.1 0))) 9000 1000 6 = -3 ∧ _ ∧ _) ∨ _ := liaR_2 (L := liN z0 (u.2.1 0) (nT (u.2.1 0))) 9000 1000 6 (by omega) ran
      rcases fnd_n (P := liaQ z0 (u.2.1 0) (nT (u.2.1 0))) (nT (u.2.1 0)) 0 with ⟨f1, f2⟩ | ⟨b, f1, f2, f3, f4, f5⟩
      · rw [f1, if_neg (by decide)]
        rcases L2 with ⟨h1, -, -⟩ | ⟨t, h1, h2, h3, h4, h5⟩
        · exact h1
        · exfalso
          rcases h3 with h3 | ⟨q, q1, q2, q3⟩
          · omega
          · have ht := less t q q1 q2 h1 q3
            have := (Q t ht).2 ⟨q, q1, q2, q3⟩
            rw [f2 t (Nat.zero_le _) (by omega)] at this
            exact absurd this (by decide)
      · rw [f4, if_pos (nI_pos' (by omega))]
        obtain ⟨q, q1, q2, q3⟩ := (Q b (by omega)).1 f3
        rcases L2 with ⟨-, -, h3⟩ | ⟨t, h1, h2, h3, h4, h5⟩
        · exact absurd q3 (h3 q q1 q2 b (by omega))
        · show liaR _ 9000 1000 (nI 6) = _
          rw [h2]
          have hb : ¬ b < t := fun hlt => h5 b hlt q q1 q2 q3
          have ht : ¬ t < b := fun hlt => by
            rcases h3 with h3 | ⟨q', p1, p2, p3⟩
            · omega
            · have := (Q t (by omega)).2 ⟨q', p1, p2, p3⟩
              rw [f5 t (Nat.zero_le _) hlt] at this
              exact absurd this (by decide)
          have : t = b := by omega
          rw [this]
    exact ⟨_, t', u', by rw [cls, e6], ref, RRt.scr (w2.trans q2)⟩
