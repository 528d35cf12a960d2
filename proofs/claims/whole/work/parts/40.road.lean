/-! ===== pure mathematics 19: bridges change, the day ===== -/
def Sk (s s' : Nat → Int32) (k : Nat) : Prop := s' 3 = s 3 ∧ s' 4 = s 4 ∧ (∀ w, w < 4 → s' (5 + 4 * k + w) = s (5 + 4 * k + w)) ∧ ∀ j, 71 ≤ j → s' j = s j
theorem Sk.clE {ls : yLS} {s s' : Nat → Int32} {k : Nat} (h : Sk s s' k) : clS ls s' k = clS ls s k := by
  obtain ⟨h3, h4, hb, hc⟩ := h
  have b0 : s' (5 + 4 * k) = s (5 + 4 * k) := hb 0 (by decide)
  have hf : fct s' k = fct s k := by
    funext c
    unfold fct
    rw [h3, hb 1 (by decide), hb 2 (by decide), hb 3 (by decide)]
  have hh : ∀ i, hold ls s' k i = hold ls s k i := fun i => by unfold hold; rw [hf]
  have hF : ∀ m i, clF ls s' k m i = clF ls s k m i := by
    intro m
    induction m with
    | zero => intro i; rfl
    | succ m ih => intro i; unfold clF; rw [hh, ih, b0, hc (71 + 4 * i) (by omega)]
  unfold clS nC
  rw [h4, hF]
theorem Sk.ddE {ls : yLS} {s s' : Nat → Int32} {k : Nat} (h : Sk s s' k) : ddS ls s' k = ddS ls s k ∧ mmS ls s' k = mmS ls s k := by
  unfold ddS mmS
  rw [h.clE]
  cases clS ls s k with
  | none => exact ⟨rfl, rfl⟩
  | some i => exact ⟨h.2.2.2 _ (by omega), h.2.2.2 _ (by omega)⟩
theorem Sk.nowE {ls : yLS} {s s' : Nat → Int32} {k : Nat} (h : Sk s s' k) : tmS ls s' k = tmS ls s k ∧ tlS ls s' k = tlS ls s k ∧ opS ls s' k = opS ls s k := by
  obtain ⟨d1, d2⟩ := h.ddE (ls := ls)
  obtain ⟨h3, h4, hb, hc⟩ := h
  have b0 : s' (5 + 4 * k) = s (5 + 4 * k) := hb 0 (by decide)
  unfold tmS tlS tbS opS
  rw [d1, d2, b0, hb 1 (by decide), hb 2 (by decide), hb 3 (by decide), h3]
  exact ⟨rfl, rfl, rfl⟩
theorem Sk.bkE {t : xT} {p k : Nat} {s s' : Nat → Int32} (h : Sk s s' k) (hB : BkC t p k s) : BkC t p k s' := by
  obtain ⟨h3, h4, hb, hc⟩ := h
  have b0 : s' (5 + 4 * k) = s (5 + 4 * k) := hb 0 (by decide)
  unfold BkC at hB ⊢
  rw [b0, hb 1 (by decide), hb 2 (by decide), hb 3 (by decide)]; exact hB
def Lq (s s' : Nat → Int32) : Prop := s' 4 = s 4 ∧ ∀ j, 71 ≤ j → s' j = s j
theorem Lq.lawE {t : xT} {a r L : Nat} {ls : yLS} {s s' : Nat → Int32} (h : Lq s s') (hL : LawC t a r L ls s) : LawC t a r L ls s' := by
  obtain ⟨h1, h2, h3, fs, cs, hW⟩ := hL
  obtain ⟨h4, e⟩ := h
  have en : nC s' = nC s := by unfold nC; rw [h4]
  refine ⟨h1, h2, by rw [h4]; exact h3, fs, cs, ?_⟩
  rw [en]
  refine ⟨hW.1, hW.2.1, fun i hi => ?_⟩
  obtain ⟨g1, g2, g3, g4, g5, g6, g7, g8, g9, g10⟩ := hW.2.2 i hi
  rw [e (71 + 4 * i) (by omega), e (72 + 4 * i) (by omega), e (73 + 4 * i) (by omega), e (74 + 4 * i) (by omega)]
  exact ⟨g1, g2, g3, g4, g5, g6, g7, g8, fun j c hc => by rw [e _ (by omega)]; exact g9 j c hc, g10⟩
theorem Std.ol {t t' : xT} {p : Nat} {x y z : Int32} (h : Std t t' p x y z) : Ol t t' (fun q => q = p) (fun _ => False) := by
  obtain ⟨h1, h2, h3, h4, h5, -⟩ := h
  refine ⟨by omega, fun q _ => ?_, fun q _ hq => (h1 q hq).2.2.1, fun q _ _ => ?_⟩
  · by_cases c : q = p
    · subst c; exact ⟨h3, h4⟩
    · exact ⟨(h1 q c).1, (h1 q c).2.1⟩
  · by_cases c : q = p
    · subst c; exact h5
    · exact (h1 q c).2.2.2
theorem Std.bk {t t' : xT} {p k : Nat} {x y z : Int32} {s : Nat → Int32} (h : Std t t' p x y z) (hB : BkC t p k s) : BkC t' p k s := by
  obtain ⟨h1, h2, h3, h4, h5, h6, -⟩ := h
  unfold BkC at hB ⊢
  rw [h3, h6 0 (by decide), h6 1 (by decide), h6 2 (by decide), h6 3 (by decide), h6 4 (by decide)]
  exact hB
/-- road, bridges, law change; the class's own things and what is kept stand -/
theorem RR.nowE {t t' : xT} {X Y : Nat → Prop} {a : Nat} {u u' : xS} {B B' B2 : Nat → Nat} {L' L2 : Nat} {ls' ls2 : yLS} (hS : SkC t a) (hk : tI t a 2 = u.1 3) (hTp : TpC t a u) (hRw : RwC t a u) (hSh : ShC t a u) (hSf : SfC t a u) (hTr : TrC t a u) (hB : BgC t a (a + 1) B (u.2.1 0)) (o : Ol t t' X Y) (hX : ∀ q, q < t.1 → X q → q = a + 1 ∨ (a + 12 ≤ q ∧ q ≤ a + 16) ∨ ∃ k, k < nB (u.2.1 0) ∧ q = B k) (hY : ∀ q, q < t.1 → Y q → q = a + 1 ∨ q = a + 2) (hP : ∀ j, j ≠ 3 → tP t' (a + 1) j = tP t (a + 1) j) (hN' : NwC t' a B2 L2 ls2 (u'.2.1 0)) (hK : u.1 3 ≠ 0 → KpC t a B B' L' ls' (u.2.1 0) (u.2.1 1)) (hdis : u.1 3 ≠ 0 → ∀ j k, j < nB (u'.2.1 0) → k < nB (u.2.1 1) → B2 j ≠ B' k) (e : Cr u' = Cr (u.1, fun j => if j = 0 then u'.2.1 0 else u.2.1 j, u.2.2)) : RR t' a u' := by
  have hl := hS.lt
  obtain ⟨-, e1, e15, e17, e25, e26, e27, e28, e29, e30, e31, f3, f16, f18, f32⟩ := Cr_e e
  have bk : ∀ k, k < nB (u.2.1 0) → isBk (tK t (B k)) ∧ a + 43 ≤ B k := fun k hk => ⟨by rw [(hB k hk).2.2.2.1]; exact kK_bk _, (hB k hk).2.1⟩
  have nx : ∀ q, q < t.1 → (q < a + 12 ∧ q ≠ a + 1) ∨ (a + 17 ≤ q ∧ q < a + 43) → ¬ X q := by
    intro q hq hc hx
    rcases hX q hq hx with g | g | ⟨k, hk, g⟩
    · omega
    · omega
    · have := (bk k hk).2; omega
  have nxk : ∀ q, q < t.1 → a + 43 ≤ q → ¬ isBk (tK t q) → ¬ X q := by
    intro q hq hc hb hx
    rcases hX q hq hx with g | g | ⟨k, hk, g⟩
    · omega
    · omega
    · subst g; exact hb (bk k hk).1
  have ny : ∀ q, q < t.1 → q ≠ a + 1 → q ≠ a + 2 → ¬ Y q := fun q hq h1 h2 hy => by have := hY q hq hy; omega
  have ea : tI t' a = tI t a := o.2.2.1 a (by omega) (nx _ (by omega) (by omega))
  have hr : ∀ r, RoO t a r → ¬ X r ∧ ¬ X (r + 1) ∧ ¬ Y r := by
    intro r hr
    have h1 := hr.1
    have h2 := hr.2.1
    refine ⟨nxk r (by omega) h1 ?_, nxk (r + 1) h2 (by omega) ?_, ny _ (by omega) (by omega) (by omega)⟩
    · rw [hr.2.2.1]; decide
    · rw [hr.2.2.2.2]; decide
  refine ⟨B2, B', L2, L', ls2, ls', hS.ol3 o (o.2.2.2 a (by omega) (ny _ (by omega) (by omega) (by omega))) (o.2.2.2 _ (by omega) (ny _ (by omega) (by omega) (by omega))) hP (fun j _ => by rw [o.2.2.2 (a + 17) (by omega) (ny _ (by omega) (by omega) (by omega))]), hN', ?_, ?_, ?_, ?_, ?_, ?_, ?_⟩
  · rw [ea, f3]; exact hk
  · rw [f3, e1]
    intro g
    have K := hK g
    have Lk : ∀ q, q = L' ∨ (L' + 1 ≤ q ∧ q ≤ L' + 8) → ¬ isBk (tK t q) := fun q hq hb => K.2.2.1.2.1.nb hb q (by omega) (by omega) rfl
    have K' := K.ol o hl (fun q q1 q2 => nx q (by omega) (by omega)) (fun q q1 q2 => nx q (by omega) (by omega)) (fun q q1 q2 => ny q (by omega) (by omega) (by omega)) (fun q q1 q2 => ny q (by omega) (by omega) (by omega)) (fun q q1 q2 q3 => by
      rcases q3 with q3 | ⟨-, k, hk', q3⟩ | q3
      · exact nxk q q2 q1 (Lk q (Or.inl q3))
      · intro hx
        rcases hX q q2 hx with g | g | ⟨j, hj, g⟩
        · omega
        · omega
        · exact K.2.2.2.2 j k hj hk' (by rw [← g, ← q3])
      · exact nxk q q2 q1 (Lk q (Or.inr q3))) (fun c => ny _ (by have := K.2.2.1.2.1.2.2.2.1; omega) (by omega) (by omega))
    exact ⟨K'.1, K'.2.1, K'.2.2.1, K'.2.2.2.1, hdis g⟩
  · exact hTp.ol o hl (by rw [ea]) (nx _ (by omega) (by omega)) e17 f18
  · exact hRw.ol o hl (by rw [ea]) (nx _ (by omega) (by omega)) e15 f16
  · exact hSh.ol o hl (ny _ (by omega) (by omega) (by omega)) hr e25 e26 e27
  · exact hSf.ol o hl (nx _ (by omega) (by omega)) (ny _ (by omega) (by omega) (by omega)) (fun r h => ⟨(hr r h).1, (hr r h).2.2⟩) e28 e29 e30
  · exact hTr.ol o hl (nx _ (by omega) (by omega)) (nx _ (by omega) (by omega)) e31 f32
/-- one bridge is told anew and settled -/
theorem RR.one {t t1 : xT} {a k : Nat} {u u' : xS} {B B' : Nat → Nat} {L L' : Nat} {ls ls' : yLS} (hS : SkC t a) (hN : NwC t a B L ls (u.2.1 0)) (hkp : tI t a 2 = u.1 3) (hK : u.1 3 ≠ 0 → KpC t a B B' L' ls' (u.2.1 0) (u.2.1 1)) (hTp : TpC t a u) (hRw : RwC t a u) (hSh : ShC t a u) (hSf : SfC t a u) (hTr : TrC t a u) (hk : k < nB (u.2.1 0)) (o1 : Ol t t1 (fun q => q = B k) (fun _ => False)) (e3 : (u'.2.1 0) 3 = (u.2.1 0) 3) (e0 : ∀ j, j < 5 ∨ 41 ≤ j → (u'.2.1 0) j = (u.2.1 0) j) (hI' : Iv (u'.2.1 0)) (hBk : BkC t1 (B k) k (u'.2.1 0)) (ho : ∀ j, j < nB (u.2.1 0) → j ≠ k → Sk (u.2.1 0) (u'.2.1 0) j) (e : Cr u' = Cr (u.1, fun j => if j = 0 then u'.2.1 0 else u.2.1 j, u.2.2)) : ∃ t', F_X0_settle t1 (B k) L ((u.2.1 0) 3) = some t' ∧ RR t' a u' ∧ Ol t t' (fun q => q = B k) (fun _ => False) := by
  have hl := hS.lt
  obtain ⟨hI, hR, hLw, hBg, hSt⟩ := hN
  have lq : Lq (u.2.1 0) (u'.2.1 0) := ⟨e0 4 (by omega), fun j hj => e0 j (by omega)⟩
  have hBk0 := hBg k hk
  have hb : isBk (tK t (B k)) := by rw [hBk0.2.2.2.1]; exact kK_bk _
  have hL1 : LawC t1 a (a + 1) L ls (u'.2.1 0) := lq.lawE (hLw.ol3 o1 (by rw [o1.2.2.2 (a + 1) (by omega) id]) id (fun q q1 q2 => hLw.2.1.nb hb q q1 q2))
  have hpL : B k ≠ L := fun h => hLw.2.1.nb hb L (Nat.le_refl _) (by omega) h.symm
  obtain ⟨t', h1, h2⟩ := c_settle hL1 hI' hBk hpL
  rw [e3] at h1
  have o2 : Ol t t' (fun q => q = B k) (fun _ => False) := o1.tr h2.ol
  have en : nB (u'.2.1 0) = nB (u.2.1 0) := by unfold nB; rw [e0 0 (by omega)]
  have inj : ∀ j, j < nB (u.2.1 0) → j ≠ k → ¬ B j = B k := by
    intro j hj hjk hh
    have g1 := (hBg j hj).2.2.2.2.2.1
    have g2 := hBk0.2.2.2.2.2.1
    rw [hh] at g1
    have h9 := hI.1.1
    exact hjk ((nI_eq (by omega) (by omega)).1 (g1.symm.trans g2))
  refine ⟨t', h1, RR.nowE (B := B) (B' := B') (B2 := B) (L' := L') (L2 := L) (ls' := ls') (ls2 := ls) hS hkp hTp hRw hSh hSf hTr hBg o2 (fun q _ hq => Or.inr (Or.inr ⟨k, hk, hq⟩)) (fun q _ h => h.elim) (fun j _ => by rw [o2.2.2.2 (a + 1) (by omega) id]) ⟨hI', ?_, ?_, ?_, ?_⟩ hK (fun g j k' hj hk' => (hK g).2.2.2.2 j k' (by rw [en] at hj; exact hj) hk') e, o2⟩
  · have r := hR.ol o2 (by omega) (fun q hq => by have := hBk0.2.1; omega)
    unfold RdC at r ⊢
    rw [e0 0 (by omega), e0 1 (by omega), e0 2 (by omega), e0 3 (by omega)]
    refine ⟨r.1, r.2.1, r.2.2.1, r.2.2.2.1, fun p hp => ?_, fun j hj => ?_⟩
    · rw [e0 _ (by omega), e0 _ (by omega), e0 _ (by omega)]; exact r.2.2.2.2.1 p hp
    · rw [e0 _ (by omega), e0 _ (by omega)]; exact r.2.2.2.2.2 j hj
  · exact lq.lawE (hLw.ol3 o2 (by rw [o2.2.2.2 (a + 1) (by omega) id]) id (fun q q1 q2 => hLw.2.1.nb hb q q1 q2))
  · intro j hj
    rw [en] at hj
    obtain ⟨g1, g2, g3, g4⟩ := hBg j hj
    refine ⟨by rw [o2.2.2.2 (a + 1 + 1) (by omega) id]; exact g1, g2, Nat.lt_of_lt_of_le g3 o2.1, ?_⟩
    by_cases c : j = k
    · subst c; exact h2.bk hBk
    · exact (ho j hj c).bkE (g4.ol o2 g3 (inj j hj c))
  · intro j hj
    rw [en] at hj
    by_cases c : j = k
    · subst c; exact h2.2.2.2.2.2.2
    · obtain ⟨w1, w2, w3⟩ := (ho j hj c).nowE (ls := ls)
      rw [w1, w2, w3, o2.2.2.1 (B j) (hBg j hj).2.2.1 (inj j hj c)]
      exact hSt j hj
theorem Iv.br {s : Nat → Int32} {k w : Nat} {v : Int32} (h : Iv s) (hk : k < 9) (hw : w < 4) (hv : (w = 0 → Ri v 1 5) ∧ (w = 1 → Ri v 1 9) ∧ (w = 2 → Ri v 0 999) ∧ (w = 3 → Ri v 0 6)) : Iv (upd s (5 + 4 * k + w) v) := by
  obtain ⟨⟨a1, a2⟩, ⟨b1, b2⟩, ⟨c1, c2⟩, ⟨d1, d2⟩, e, f, g⟩ := h
  unfold Iv
  rw [nB_u _ _ (by omega), nP_u _ _ (by omega), nT_u _ _ (by omega), nC_u _ _ (by omega), upd_n _ _ (by omega), upd_n _ _ (by omega), upd_n _ _ (by omega), upd_n _ _ (by omega), upd_n _ _ (by omega)]
  have key : ∀ j x, x < 4 → j < nB s → upd s (5 + 4 * k + w) v (5 + 4 * j + x) = if j = k ∧ x = w then v else s (5 + 4 * j + x) := by
    intro j x hx hj
    rw [upd2]
    by_cases c : j = k ∧ x = w
    · rw [if_pos c, if_pos (by omega)]
    · rw [if_neg c, if_neg (by omega)]
  refine ⟨⟨a1, a2⟩, ⟨b1, b2⟩, ⟨c1, c2⟩, ⟨d1, d2⟩, e, fun j hj => ?_, fun p hp => ?_⟩
  · obtain ⟨f0, f1, f2, f3⟩ := f j hj
    have k0 := key j 0 (by decide) hj
    rw [Nat.add_zero] at k0
    rw [k0, key j 1 (by decide) hj, key j 2 (by decide) hj, key j 3 (by decide) hj]
    obtain ⟨v0, v1, v2, v3⟩ := hv
    refine ⟨?_, ?_, ?_, ?_⟩
    · by_cases c : j = k ∧ 0 = w
      · rw [if_pos c]; exact v0 c.2.symm
      · rw [if_neg c]; exact f0
    · by_cases c : j = k ∧ 1 = w
      · rw [if_pos c]; exact v1 c.2.symm
      · rw [if_neg c]; exact f1
    · by_cases c : j = k ∧ 2 = w
      · rw [if_pos c]; exact v2 c.2.symm
      · rw [if_neg c]; exact f2
    · by_cases c : j = k ∧ 3 = w
      · rw [if_pos c]; exact v3 c.2.symm
      · rw [if_neg c]; exact f3
  · rw [upd_n _ _ (by omega)]; exact g p hp
theorem Sk.rf (s : Nat → Int32) (k : Nat) : Sk s s k := ⟨rfl, rfl, fun _ _ => rfl, fun _ _ => rfl⟩
theorem Sk.upd9 (s : Nat → Int32) {j k w : Nat} (v : Int32) (hk : k < 9) (hj : j < 9) (hw : w < 4) (h : j ≠ k) : Sk s (upd s (5 + 4 * k + w) v) j :=
  ⟨upd_n _ _ (by omega), upd_n _ _ (by omega), fun x hx => upd_n _ _ (by omega), fun x hx => upd_n _ _ (by omega)⟩
theorem d_isPart (w v : Int32) : (F_X12_isPart w v = some 0 ∧ ¬ ((w = 1 ∧ F_X11_isTimes v = some 1) ∨ (w = 2 ∧ F_X11_isToll v = some 1) ∨ (w = 3 ∧ F_X11_isDay v = some 1)) ∧ (F_X11_isTimes v = some 1 ∨ F_X11_isTimes v = some 0) ∧ (F_X11_isToll v = some 1 ∨ F_X11_isToll v = some 0) ∧ (F_X11_isDay v = some 1 ∨ F_X11_isDay v = some 0)) ∨ (F_X12_isPart w v = some 1 ∧ ((w = 1 ∧ F_X11_isTimes v = some 1 ∧ Ri v 1 9) ∨ (w = 2 ∧ F_X11_isToll v = some 1 ∧ Ri v 0 999) ∨ (w = 3 ∧ F_X11_isDay v = some 1 ∧ Ri v 0 6))) := by
  have s0 : (some (0 : Int32) = some 1) = False := by simp
  have b : ∀ (p : Prop) [Decidable p], some (bI p) = some 1 ∨ some (bI p) = some 0 := fun p _ => by
    by_cases h : p
    · rw [bI_t h]; exact Or.inl rfl
    · rw [bI_f h]; exact Or.inr rfl
  rw [n_isTimes, n_isToll, n_isDay]
  by_cases w1 : w = 1
  · subst w1
    rw [n_isPart1]
    by_cases h : (1 : Int32) ≤ v ∧ v ≤ 9
    · right; rw [bI_t h]; exact ⟨rfl, Or.inl ⟨rfl, rfl, by rw [fa_le] at h; exact ⟨h.1, by have := h.2; rw [fa_le] at this; exact this⟩⟩⟩
    · left; rw [bI_f h]; refine ⟨rfl, ?_, Or.inr rfl, b _, b _⟩
      simp
  by_cases w2 : w = 2
  · subst w2
    rw [n_isPart2]
    by_cases h : (0 : Int32) ≤ v ∧ v ≤ 999
    · right; rw [bI_t h]; exact ⟨rfl, Or.inr (Or.inl ⟨rfl, rfl, by rw [fa_le] at h; exact ⟨h.1, by have := h.2; rw [fa_le] at this; exact this⟩⟩)⟩
    · left; rw [bI_f h]; refine ⟨rfl, ?_, b _, Or.inr rfl, b _⟩
      simp
  by_cases w3 : w = 3
  · subst w3
    rw [n_isPart3]
    by_cases h : (0 : Int32) ≤ v ∧ v ≤ 6
    · right; rw [bI_t h]; exact ⟨rfl, Or.inr (Or.inr ⟨rfl, rfl, by rw [fa_le] at h; exact ⟨h.1, by have := h.2; rw [fa_le] at this; exact this⟩⟩)⟩
    · left; rw [bI_f h]; refine ⟨rfl, ?_, b _, b _, Or.inr rfl⟩
      simp
  left
  rw [n_isPartX w1 w2 w3]
  refine ⟨rfl, ?_, b _, b _, b _⟩
  simp [w1, w2, w3]
theorem st_change : sT_change RR := by
  intro t a u z0 z1 z2 hR0
  have hR := hR0
  obtain ⟨B, B', L, L', ls, ls', hS, hN, hkp, hK, hTp, hRw, hSh, hSf, hTr⟩ := hR0
  have hN' := hN
  obtain ⟨hI, hRd, hLw, hBg, hSt⟩ := hN
  have hl := hS.lt
  have hk : tK t a = 11 := hS.1
  have hp : tP t a 0 = some (a + 1) := hS.2.1
  have hk1 : tK t (a + 1) = 7 := hS.2.2.2.2.2.2.2.2.2.2.2.2.1.1
  rcases d_br hS hI hRd hBg z0 with ⟨b1, b2⟩ | ⟨k, hk9, k9, rfl, b1, b2, hBk, hbk⟩
  · exact ⟨-1, t, u, by simp only [F_X11_change, hk, hp, hk1, b1, xopt, if_true, Option.bind_some], by simp only [F_X12_change, F_X12_change_j16, b2, Option.bind_some, if_true], hR⟩
  have k43 := (hBg k hk9).2.1
  have j101 : ∀ t1 v, Ol t t1 (fun q => q = B k) (fun _ => False) → ∀ t', F_X0_settle t1 (B k) L (u.2.1 0 3) = some t' → F_X11_change_j101 t1 a (B k) v = some (v, t') := by
    intro t1 v o1 t' h
    have hS1 := hS.ol o1 id id id id
    have hd : tI t1 (a + 1) 2 = u.2.1 0 3 := by rw [o1.2.2.1 (a + 1) (by omega) (by omega)]; exact hRd.2.1
    have hL : tP t1 (a + 1) 3 = some L := by rw [o1.2.2.2 (a + 1) (by omega) id]; exact hLw.1
    have hb : isBk (tK t1 (B k)) := by rw [(o1.2.1 (B k) (hBg k hk9).2.2.1).1]; exact hbk
    simp only [F_X11_change_j101, hS1.1, hS1.2.1, if_true, Option.bind_some, hS1.2.2.2.2.2.2.2.2.2.2.2.2.1.1, hL, if_pos hb, hd, h]
  rcases d_isPart z1 z2 with ⟨p0, pn, pt, pl, pd⟩ | ⟨p1, py⟩
  · obtain ⟨t', g1, g2, -⟩ := RR.one (u' := u) hS hN' hkp hK hTp hRw hSh hSf hTr hk9 (Ol.rf t _ _) rfl (fun _ _ => rfl) hI hBk (fun j _ _ => Sk.rf _ j) rfl
    have fin := j101 t (-1) (Ol.rf t _ _) t' g1
    refine ⟨-1, t', u, ?_, by simp only [F_X12_change, F_X12_change_j16, b2, p0, Option.bind_some, n10, if_false, if_true], g2⟩
    have j76 : F_X11_change_j76 t a z1 z2 (B k) (-1) = some (-1, t') := by
      unfold F_X11_change_j76
      by_cases c : z1 = 3
      · rw [if_pos c]
        rcases pd with h | h
        · exact absurd (Or.inr (Or.inr ⟨c, h⟩)) pn
        · rw [h, Option.bind_some, if_pos rfl]; exact fin
      · rw [if_neg c]; exact fin
    have j48 : F_X11_change_j48 t a z1 z2 (B k) (-1) = some (-1, t') := by
      unfold F_X11_change_j48
      by_cases c : z1 = 2
      · rw [if_pos c]
        rcases pl with h | h
        · exact absurd (Or.inr (Or.inl ⟨c, h⟩)) pn
        · rw [h, Option.bind_some, if_pos rfl]; exact j76
      · rw [if_neg c]; exact j76
    simp only [F_X11_change, hk, hp, hk1, b1, xopt, if_true, Option.bind_some]
    by_cases c : z1 = 1
    · rw [if_pos c]
      rcases pt with h | h
      · exact absurd (Or.inl ⟨c, h⟩) pn
      · rw [h, Option.bind_some, if_pos rfl]; exact j48
    · rw [if_neg c]; exact j48
  · -- a good part
    have gen : ∀ w, 1 ≤ w → w < 4 → z1 = nI w → ((w = 0 → Ri z2 1 5) ∧ (w = 1 → Ri z2 1 9) ∧ (w = 2 → Ri z2 0 999) ∧ (w = 3 → Ri z2 0 6)) → (∀ t', F_X11_change_j101 (tSI t (B k) (w + 1) z2) a (B k) (tI t (B k) (w + 1)) = some (tI t (B k) (w + 1), t') → F_X11_change t a (nI k) z1 z2 = some (tI t (B k) (w + 1), t')) → ∃ (v : Int32) (t' : xT) (u' : xS), F_X11_change t a (nI k) z1 z2 = some (v, t') ∧ F_X12_change u (nI k) z1 z2 = some (v, u') ∧ RR t' a u' := by
      intro w w1 w4 ez hv hc
      have e0 : (mA u 0 (5 + 4 * k + w) z2).2.1 0 = upd (u.2.1 0) (5 + 4 * k + w) z2 := rfl
      have told : tI t (B k) (w + 1) = u.2.1 0 (5 + 4 * k + w) := by
        obtain ⟨g0, g1, g2, g3, g4, g5⟩ := hBk
        rcases (show w = 1 ∨ w = 2 ∨ w = 3 by omega) with h | h | h <;> subst h
        · exact g3
        · exact g4
        · exact g5
      obtain ⟨t', g1, g2, -⟩ := RR.one (u' := mA u 0 (5 + 4 * k + w) z2) hS hN' hkp hK hTp hRw hSh hSf hTr hk9 (Ol.SI t (X := fun q => q = B k) (Y := fun _ => False) (w + 1) z2 rfl) (by rw [e0, upd_n _ _ (by omega)]) (fun j hj => by rw [e0, upd_n _ _ (by omega)]) (by rw [e0]; exact hI.br k9 w4 hv) (by
        rw [e0]
        obtain ⟨g0, g1, g2, g3, g4, g5⟩ := hBk
        unfold BkC
        rw [tI_SI]
        have b0 : upd (u.2.1 0) (5 + 4 * k + w) z2 (5 + 4 * k) = u.2.1 0 (5 + 4 * k) := upd_n _ _ (by omega)
        rw [b0, upd_n _ _ (by omega), upd_n _ _ (by omega)]
        refine ⟨g0, g1, g2, ?_, ?_, ?_⟩
        · rw [upd2, upd2]
          by_cases c : w = 1
          · rw [if_pos (by omega), if_pos (by omega)]
          · rw [if_neg (by omega), if_neg (by omega)]; exact g3
        · rw [upd2, upd2]
          by_cases c : w = 2
          · rw [if_pos (by omega), if_pos (by omega)]
          · rw [if_neg (by omega), if_neg (by omega)]; exact g4
        · rw [upd2, upd2]
          by_cases c : w = 3
          · rw [if_pos (by omega), if_pos (by omega)]
          · rw [if_neg (by omega), if_neg (by omega)]; exact g5) (fun j hj hjk => by rw [e0]; exact Sk.upd9 _ _ k9 (by have := hI.1.1; omega) w4 hjk) rfl
      refine ⟨tI t (B k) (w + 1), t', _, hc t' (j101 _ _ (Ol.SI t _ _ rfl) t' g1), ?_, g2⟩
      have at1 := n_at k w
      have it1 := n_its u (k := k) (w := w) (by omega)
      rw [← ez] at at1 it1
      have i0 : xIn (nI (5 + 4 * k + w)) 303 := n_xIn (by omega) (by decide)
      have d0 : (nI (5 + 4 * k + w)).toNatClampNeg = 5 + 4 * k + w := n_cl (by omega)
      simp only [F_X12_change, b2, p1, Option.bind_some, n10, if_false, it1, at1, if_pos i0, d0, xlet, told]
    rcases py with ⟨ez, h1, h2⟩ | ⟨ez, h1, h2⟩ | ⟨ez, h1, h2⟩
    · exact gen 1 (by decide) (by decide) ez ⟨fun h => by omega, fun _ => h2, fun h => by omega, fun h => by omega⟩ (fun t' h => by
        simp only [F_X11_change, hk, hp, hk1, b1, xopt, if_true, Option.bind_some, if_pos ez, h1, n10, if_false, if_pos hbk, xlet]; exact h)
    · have n1 : ¬ z1 = 1 := by rw [ez]; decide
      exact gen 2 (by decide) (by decide) ez ⟨fun h => by omega, fun h => by omega, fun _ => h2, fun h => by omega⟩ (fun t' h => by
        simp only [F_X11_change, F_X11_change_j48, hk, hp, hk1, b1, xopt, if_true, Option.bind_some, if_neg n1, if_pos ez, h1, n10, if_false, if_pos hbk, xlet]; exact h)
    · have n1 : ¬ z1 = 1 := by rw [ez]; decide
      have n2 : ¬ z1 = 2 := by rw [ez]; decide
      exact gen 3 (by decide) (by decide) ez ⟨fun h => by omega, fun h => by omega, fun h => by omega, fun _ => h2⟩ (fun t' h => by
        simp only [F_X11_change, F_X11_change_j48, F_X11_change_j76, hk, hp, hk1, b1, xopt, if_true, Option.bind_some, if_neg n1, if_neg n2, if_pos ez, h1, n10, if_false, if_pos hbk, xlet]; exact h)
