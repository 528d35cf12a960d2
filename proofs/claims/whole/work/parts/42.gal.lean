/-! ===== pure mathematics 21: more ahead is never less behind; need ===== -/
def Pu (x : Int32) : Prop := 0 ≤ x.toInt ∧ x.toInt ≤ 1000000000
def Rg (x : Int32) : Prop := -1 ≤ x.toInt ∧ x.toInt ≤ 1000000000
def Gal (f l : Int32 → Int32) : Prop := (∀ x, Rg (f x)) ∧ (∀ x, Rg (l x)) ∧ (∀ x, x.toInt < 0 → (f x).toInt < 0) ∧ ∀ p g, Pu p → Pu g → (g.toInt ≤ (f p).toInt ↔ 0 ≤ (l g).toInt ∧ (l g).toInt ≤ p.toInt)
theorem gal_S {ls : yLS} {s : Nat → Int32} {k : Nat} (hI : Iv s) (hL : LwS ls s) (hk : k < nB s) : Gal (gS ls s k) (lS ls s k) := by
  have hm := tm_rng (ls := ls) hI hk
  have hl := tl_rng hI hL hk
  unfold Ri at hm hl
  refine ⟨fun x => gS_rng ls s k x, fun x => ?_, fun x hx => ?_, fun p g hp hg => ?_⟩
  · unfold lS Rg
    rw [gL_I (by omega) hl.1]; exact zl_rng (by omega) hl.1
  · rw [gS_neg (by rw [fa_le]; show ¬ (0 : Int) ≤ _; omega)]; decide
  · unfold gS lS
    rw [gB_I, gL_I (by omega) hl.1]
    exact zgal (by omega) hl.1 hp.1 hp.2 hg.1 hg.2
theorem lt0 (x : Int32) : (x < 0) = (x.toInt < 0) := n_lt0 x
theorem itB_s (f : Int32 → Int32) : ∀ n v, itB f (n + 1) v = if itB f n v < 0 then itB f n v else f (itB f n v)
  | 0, v => rfl
  | n + 1, v => by
    have ih := itB_s f n (f v)
    show (if v < 0 then v else itB f (n + 1) (f v)) = _
    show _ = if (if v < 0 then v else itB f n (f v)) < 0 then (if v < 0 then v else itB f n (f v)) else f (if v < 0 then v else itB f n (f v))
    by_cases c : v < 0
    · rw [if_pos c, if_pos c, if_pos c]
    · rw [if_neg c, if_neg c]; exact ih
theorem itB_Rg {f : Int32 → Int32} (hf : ∀ x, Rg (f x)) {v : Int32} (hv : Rg v) : ∀ n, Rg (itB f n v)
  | 0 => hv
  | n + 1 => by
    rw [itB_s]
    by_cases c : itB f n v < 0
    · rw [if_pos c]; exact itB_Rg hf hv n
    · rw [if_neg c]; exact hf _
theorem Pu.rg {x : Int32} (h : Pu x) : Rg x := ⟨by have := h.1; omega, h.2⟩
theorem gal_it {f l : Int32 → Int32} (G : Gal f l) : ∀ n p g, Pu p → Pu g → (g.toInt ≤ (itB f n p).toInt ↔ 0 ≤ (itB l n g).toInt ∧ (itB l n g).toInt ≤ p.toInt)
  | 0, p, g, hp, hg => by
    show g.toInt ≤ p.toInt ↔ 0 ≤ g.toInt ∧ g.toInt ≤ p.toInt
    have := hg.1
    omega
  | n + 1, p, g, hp, hg => by
    have hy := itB_Rg G.2.1 hg.rg n
    rw [itB_s l]
    show g.toInt ≤ (if p < 0 then p else itB f n (f p)).toInt ↔ _
    have np : ¬ p < 0 := by rw [lt0]; have := hp.1; omega
    rw [if_neg np]
    have hfp := G.1 p
    by_cases c : f p < 0
    · rw [itB_neg f c n]
      rw [lt0] at c
      by_cases d : itB l n g < 0
      · rw [if_pos d]; rw [lt0] at d; have := hg.1; omega
      · rw [if_neg d]
        rw [lt0] at d
        have h2 := G.2.2.2 p (itB l n g) hp ⟨by omega, hy.2⟩
        have := hg.1
        omega
    · rw [lt0] at c
      have ih := gal_it G n (f p) g ⟨by omega, hfp.2⟩ hg
      rw [ih]
      by_cases d : itB l n g < 0
      · rw [if_pos d]; rw [lt0] at d; omega
      · rw [if_neg d]
        rw [lt0] at d
        have h2 := G.2.2.2 p (itB l n g) hp ⟨by omega, hy.2⟩
        omega
theorem gal_mono {f l : Int32 → Int32} (G : Gal f l) {p q : Int32} (hp : Rg p) (hq : Rg q) (h : p.toInt ≤ q.toInt) : (f p).toInt ≤ (f q).toInt := by
  have r1 := G.1 p
  have r2 := G.1 q
  by_cases c : p.toInt < 0
  · have := G.2.2.1 p c
    have := r2.1
    omega
  · by_cases d : (f p).toInt < 0
    · have := r2.1; omega
    · have h1 := (G.2.2.2 p (f p) ⟨by omega, hp.2⟩ ⟨by omega, r1.2⟩).1 (Int.le_refl _)
      exact (G.2.2.2 q (f p) ⟨by omega, hq.2⟩ ⟨by omega, r1.2⟩).2 ⟨h1.1, by omega⟩
/-- the middle of two -/
theorem n_mid {lo hi : Int32} (h1 : -1 ≤ lo.toInt) (h2 : lo.toInt + 2 ≤ hi.toInt) (h3 : hi.toInt ≤ 1000000000) : ((lo + hi) / 2).toInt = (lo.toInt + hi.toInt) / 2 := by
  have e : (lo + hi).toInt = lo.toInt + hi.toInt := by rw [fb_addI] <;> omega
  rw [n_div2 (by rw [e]; omega), e]
theorem lp_need {k N : Nat} {s : Nat → Int32} {ls : yLS} {T : Int32} (hI : Iv s) (hL : LwS ls s) (hk : k < nB s) (hN : N < 1000) (hT : ∀ v, Pu v → ((itB (gS ls s k) N v).toInt < 0 ↔ v.toInt < T.toInt)) : ∀ K lo hi n u, hi.toInt - lo.toInt ≤ (2 : Int) ^ K → K < n → -1 ≤ lo.toInt → lo.toInt < T.toInt → T.toInt ≤ hi.toInt → hi.toInt ≤ 1000000000 → u.2.1 0 = s → ∃ u', F_X12_need_l42 n u (nI k) (nI N) lo hi = some (T, u') ∧ Cr u' = Cr u
  | _, _, _, 0, _, _, h, _, _, _, _, _ => absurd h (Nat.not_lt_zero _)
  | K, lo, hi, n + 1, u, hd, hK, h1, h2, h3, h4, hu => by
    have es : (hi - lo).toInt = hi.toInt - lo.toInt := by rw [fb_subI] <;> omega
    by_cases c : hi.toInt - lo.toInt ≤ 1
    · have : hi = T := Int32.toInt_inj.1 (by omega)
      refine ⟨u, ?_, rfl⟩
      unfold F_X12_need_l42
      rw [if_pos (by rw [fa_le, es]; exact c), this]
    · have hm := n_mid (lo := lo) (hi := hi) h1 (by omega) h4
      generalize hV : (lo + hi) / 2 = V at hm
      have hV2 : lo.toInt < V.toInt ∧ V.toInt < hi.toInt := by omega
      obtain ⟨g, ha⟩ := r_aM (N := N) (v := V) hu hI hL hk hN (by rw [lt0]; omega)
      cases K with
      | zero => simp at hd; omega
      | succ K =>
        have hp : (2 : Int) ^ (K + 1) = 2 * 2 ^ K := by rw [Int.pow_succ, Int.mul_comm]
        rw [hp] at hd
        have hT' := hT V ⟨by omega, by omega⟩
        by_cases d : (itB (gS ls s k) N V).toInt < 0
        · obtain ⟨u', g1, g2⟩ := lp_need hI hL hk hN hT K V hi n (sc u g (tmS ls s k) (tlS ls s k) (opS ls s k)) (by omega) (by omega) (by omega) (hT'.1 d) h3 h4 hu
          refine ⟨u', ?_, g2⟩
          unfold F_X12_need_l42 F_X12_need_j79
          simp only [xlet]
          rw [if_neg (by rw [fa_le, es]; exact c), hV, ha, Option.bind_some, if_neg (by rw [fa_le]; show ¬ (0 : Int) ≤ (itB (gS ls s k) N V).toInt; omega)]
          exact g1
        · obtain ⟨u', g1, g2⟩ := lp_need hI hL hk hN hT K lo V n (sc u g (tmS ls s k) (tlS ls s k) (opS ls s k)) (by omega) (by omega) h1 h2 (by have := mt hT'.2 d; omega) (by omega) hu
          refine ⟨u', ?_, g2⟩
          unfold F_X12_need_l42 F_X12_need_j79
          simp only [xlet]
          rw [if_neg (by rw [fa_le, es]; exact c), hV, ha, Option.bind_some, if_pos (by rw [fa_le]; show (0 : Int) ≤ (itB (gS ls s k) N V).toInt; omega)]
          exact g1
theorem st_need : sT_need RR := by
  intro t a u z0 z1 hR
  obtain ⟨B, ls, hk, hp, hk1, hS, hI, hRd, hL, hBg, hSt⟩ := hR.rd
  rcases d_br hS hI hRd hBg z0 with ⟨b1, b2⟩ | ⟨k, hk9, k9, rfl, b1, b2, hBk, hbk⟩
  · exact ⟨-1, u, by simp only [F_X11_need, F_X11_need_j23, hk, hp, hk1, b1, xopt, if_true, Option.bind_some], by simp only [F_X12_need, F_X12_need_j20, b2, if_true, Option.bind_some], hR⟩
  rcases d_in z1 0 60 (A := 0) (B := 60) rfl rfl with ⟨n1, n2, -⟩ | ⟨n1, n2, n3, n4⟩
  · exact ⟨-1, u, by simp only [F_X11_need, F_X11_need_j23, hk, hp, hk1, b1, xopt, n1, if_true, Option.bind_some], by simp only [F_X12_need, F_X12_need_j20, b2, n2, if_true, Option.bind_some, n10, if_false], hR⟩
  obtain ⟨N, hN, rfl⟩ := nI_of2 (x := z1) (M := 60) (n := 60) rfl (by rw [fa_lt]; exact Int.not_lt.mpr n3) (by rw [fa_le]; exact n4)
  have G := gal_S hI hL hk9
  have gi := fun p hp => gal_it G N p 0 hp ⟨by decide, by decide⟩
  obtain ⟨g, ha⟩ := r_aM (N := N) (v := 1000000000) rfl hI hL hk9 (by omega) (by decide)
  have hc := c_lA (N := N) hbk (fun x => c_lS hI hL hBk hSt hk9) (by omega) 0
  have hT := itB_Rg G.2.1 (v := 0) ⟨by decide, by decide⟩ N
  generalize hTT : itB (lS ls (u.2.1 0) k) N 0 = T at *
  have top := gi 1000000000 ⟨by decide, by decide⟩
  have e9 : (1000000000 : Int32).toInt = 1000000000 := rfl
  have e0 : (0 : Int32).toInt = 0 := rfl
  rw [e9, e0] at top
  have cls : ∀ v, (if 0 ≤ T then some T else some (-3 : Int32)) = some v → F_X11_need t a (nI k) (nI N) = some v := by
    intro v hv
    simp only [F_X11_need, F_X11_need_j45, hk, hp, hk1, b1, xopt, if_true, Option.bind_some, n1, n10, if_false, hc]
    exact hv
  by_cases c : (itB (gS ls (u.2.1 0) k) N 1000000000).toInt < 0
  · refine ⟨-3, _, cls _ ?_, ?_, hR.scr (u' := sc u g (tmS ls (u.2.1 0) k) (tlS ls (u.2.1 0) k) (opS ls (u.2.1 0) k)) rfl⟩
    · rw [if_neg]; rw [fa_le]; show ¬ (0 : Int) ≤ _; have := hT.2; omega
    · simp only [F_X12_need, b2, n2, Option.bind_some, n10, if_false, ha]
      rw [if_neg]; rw [fa_le]; show ¬ (0 : Int) ≤ _; omega
  · have c0 : 0 ≤ (itB (gS ls (u.2.1 0) k) N 1000000000).toInt := by omega
    have T0 := (top.1 c0).1
    obtain ⟨u', g1, g2⟩ := lp_need (T := T) (N := N) hI hL hk9 (by omega) (fun v hv => by
      have := gi v hv
      rw [e0] at this
      omega) 30 (-1) 1000000000 xFuel (sc u g (tmS ls (u.2.1 0) k) (tlS ls (u.2.1 0) k) (opS ls (u.2.1 0) k)) (by decide) (xF_big (by decide)) (by decide) (by show (-1 : Int) < _; omega) (by rw [e9]; exact hT.2) (by decide) rfl
    refine ⟨T, u', cls _ ?_, ?_, hR.scr (g2.trans rfl)⟩
    · rw [if_pos]; rw [fa_le]; exact T0
    · simp only [F_X12_need, b2, n2, Option.bind_some, n10, if_false, ha]
      rw [if_pos (by rw [fa_le]; exact c0)]
      exact g1
