/-! ===== pure mathematics 18: acts ===== -/
def Ac (t0 : xT) (u0 : xS) (s : Nat → Int32) (a k m : Nat) (t : xT) (u : xS) : Prop :=
  Ol t0 t (fun q => q = a + 38 ∨ q = a + 39) (fun _ => False) ∧ (∀ i, i < 30 → tI t (a + 39) i = u.2.1 31 i) ∧ (∃ c, c ≤ m ∧ tI t (a + 38) 1 = nI c ∧ u.1 32 = nI c) ∧ (tI t (a + 38) 2 = u.1 36 ∧ (u.1 36 = 0 ∨ u.1 36 = 1)) ∧ u.1 33 = nI k ∧ u.1 34 = s (5 + 4 * k + 3) ∧ u.1 35 = s (5 + 4 * k) ∧ (∀ j, j < 32 → u.1 j = u0.1 j) ∧ (∀ j, j ≠ 31 → u.2.1 j = u0.2.1 j)
theorem Ac.w {t0 : xT} {u0 : xS} {s : Nat → Int32} {a k m m' : Nat} {t : xT} {u : xS} (h : Ac t0 u0 s a k m t u) (hm : m ≤ m') : Ac t0 u0 s a k m' t u := by
  obtain ⟨o, hv, ⟨c, hc, e1, e2⟩, r⟩ := h
  exact ⟨o, hv, ⟨c, by omega, e1, e2⟩, r⟩
theorem Ac.k38 {t0 : xT} {u0 : xS} {s : Nat → Int32} {a k m : Nat} {t : xT} {u : xS} (hS0 : SkC t0 a) (h : Ac t0 u0 s a k m t u) : tK t (a + 38) = 10 := by
  have hl := hS0.lt
  rw [(h.1.2.1 (a + 38) (by omega)).1]
  exact hS0.2.2.2.2.2.2.2.2.2.2.2.2.2.2.2.2.2.2.2.1.1
theorem Ac.p {t0 : xT} {u0 : xS} {s : Nat → Int32} {a k m p : Nat} {t : xT} {u : xS} (hB : BkC t0 p k s) (hp : a + 43 ≤ p) (hp2 : p < t0.1) (h : Ac t0 u0 s a k m t u) : tK t p = kK (s (5 + 4 * k)) ∧ tI t p 1 = nI k ∧ tI t p 4 = s (5 + 4 * k + 3) ∧ isBk (tK t p) := by
  have hb := hB.ol h.1 hp2 (by omega)
  exact ⟨hb.1, hb.2.2.1, hb.2.2.2.2.2, by rw [hb.1]; exact kK_bk _⟩
theorem ac_run {t0 : xT} {u0 : xS} {s : Nat → Int32} {a k m : Nat} {t : xT} {u : xS} (hS0 : SkC t0 a) (h : Ac t0 u0 s a k m t u) (hm : m < 30) (b : Int32) : ∃ t' u', F_X10_begin t (a + 38) b = some t' ∧ F_X12_runs u b = some u' ∧ Ac t0 u0 s a k (m + 1) t' u' ∧ u'.1 36 = u.1 36 ∧ (u.1 36 = 1 → t' = t) := by
  have k38 := h.k38 hS0
  have hl := hS0.lt
  have hh := h
  obtain ⟨o, hv, ⟨c, hc, e1, e2⟩, ⟨p1, p2⟩, f33, f34, f35, g1, g2⟩ := h
  have hS := hS0.ol o id id id id
  have p38 : tP t (a + 38) 0 = some (a + 39) := hS.2.2.2.2.2.2.2.2.2.2.2.2.2.2.2.2.2.2.2.1.2
  have o39 : ArO t (a + 39) 30 := hS.2.2.2.2.2.2.2.2.2.2.2.2.2.2.2.2.2.2.2.2.1
  rcases p2 with z | z
  · have ix : xIn (nI c) 30 := n_xIn (by omega) (by decide)
    have ec : (nI c).toNatClampNeg = c := n_cl (by omega)
    have l1 : ¬ (30 : Int32) ≤ nI c := nI_ge (a := c) (b := 30) (by omega) (by decide)
    have l2 : ¬ nI 30 ≤ nI c := l1
    have e3 : tI (tSI t (a + 39) c b) (a + 38) 1 = nI c := by rw [tI_SIn _ _ _ _ (by omega)]; exact e1
    refine ⟨tSI (tSI t (a + 39) c b) (a + 38) 1 (nI (c + 1)), mS (mA u 31 c b) 32 (nI (c + 1)), ?_, ?_, ⟨?_, fun i hi => ?_, ⟨c + 1, by omega, ?_, mS_1 _ _ _⟩, ⟨?_, Or.inl z⟩, f33, f34, f35, fun j hj => ?_, fun j hj => ?_⟩, rfl, fun h => by rw [z] at h; exact absurd h (by decide)⟩
    · simp only [F_X10_begin, F_X10_begin_j39, k38, if_true, p1, z, p38, Option.bind_some, o39.1, o39.2, e1, if_neg l2, if_pos ix, ec, xlet, e3, nI_1]
    · have e4 : (mA u 31 c b).1 32 = nI c := e2
      simp only [F_X12_runs, F_X12_runs_j26, F_X12_runs_j36, z, if_true, e2, if_neg l1, if_pos ix, ec, xlet, e4, nI_1]
    · exact (o.tr (Ol.SI _ _ _ (Or.inr rfl))).tr (Ol.SI _ _ _ (Or.inl rfl))
    · rw [tI_SIn _ _ _ _ (by omega), tI_SI]
      show upd _ _ _ _ = upd (u.2.1 31) c b i
      rw [upd2, upd2, hv i hi]
    · rw [tI_SI, upd_s]
    · rw [tI_SI, upd_n _ _ (by decide), tI_SIn _ _ _ _ (by omega)]; exact p1
    · show (if j = 32 then _ else u.1 j) = _
      rw [if_neg (by omega)]; exact g1 j hj
    · show (if j = 31 then _ else u.2.1 j) = _
      rw [if_neg hj]; exact g2 j hj
  · have nz : ¬ u.1 36 = 0 := by rw [z]; decide
    refine ⟨t, u, ?_, ?_, hh.w (by omega), rfl, fun _ => rfl⟩
    · simp only [F_X10_begin, F_X10_begin_j39, k38, if_true, p1, if_neg nz]
    · simp only [F_X12_runs, F_X12_runs_j36, if_neg nz]
theorem ac_m0 {t0 : xT} {u0 : xS} {s : Nat → Int32} {a k m p : Nat} {t : xT} {u : xS} (hS0 : SkC t0 a) (hB : BkC t0 p k s) (hp : a + 43 ≤ p) (hp2 : p < t0.1) (h : Ac t0 u0 s a k m t u) (hm : m < 30) (x : Int32) : ∃ t' u', F_X0_makes t p x (a + 38) = some (x + nI k, t') ∧ F_X12_runs u 10 = some u' ∧ Ac t0 u0 s a k (m + 1) t' u' ∧ u'.1 36 = u.1 36 ∧ (u.1 36 = 1 → t' = t) := by
  obtain ⟨t1, u1, b1, r1, A1, z1, w1⟩ := ac_run hS0 h hm 10
  obtain ⟨-, q1, -, q3⟩ := A1.p hB hp hp2
  exact ⟨t1, u1, by simp only [F_X0_makes, h.k38 hS0, if_true, b1, Option.bind_some, if_pos q3, q1], r1, A1, z1, w1⟩
theorem kd5 {s : Nat → Int32} {k : Nat} (hI : Iv s) (hk : k < nB s) : s (5 + 4 * k) = 1 ∨ s (5 + 4 * k) = 2 ∨ s (5 + 4 * k) = 3 ∨ s (5 + 4 * k) = 4 ∨ s (5 + 4 * k) = 5 := by
  have h := (hI.2.2.2.2.2.1 k hk).1
  unfold Ri at h
  have e : ∀ x : Int32, s (5 + 4 * k) = x ↔ (s (5 + 4 * k)).toInt = x.toInt := fun x => fa_eq _ _
  rw [e, e, e, e, e]
  show _ = (1 : Int) ∨ _ = (2 : Int) ∨ _ = (3 : Int) ∨ _ = (4 : Int) ∨ _ = (5 : Int)
  omega
theorem ac_makes {t0 : xT} {u0 : xS} {s : Nat → Int32} {a k m p : Nat} {t : xT} {u : xS} (hS0 : SkC t0 a) (hI : Iv s) (hk : k < nB s) (hB : BkC t0 p k s) (hp : a + 43 ≤ p) (hp2 : p < t0.1) (h : Ac t0 u0 s a k m t u) (hm : m + 1 < 30) (x : Int32) : ∃ v t' u', F_V_makes t p x (a + 38) = some (v, t') ∧ F_X12_makes u x = some (v, u') ∧ Ac t0 u0 s a k (m + 2) t' u' ∧ u'.1 36 = u.1 36 := by
  obtain ⟨q0, -, -, -⟩ := h.p hB hp hp2
  have k38 := h.k38 hS0
  have e35 : u.1 35 = s (5 + 4 * k) := h.2.2.2.2.2.2.1
  have plain : ∃ t' u', F_X0_makes t p x (a + 38) = some (x + nI k, t') ∧ (F_X12_runs u (10 : Int32)).bind (fun r3 => some (x + (r3.1 33), r3)) = some (x + nI k, u') ∧ Ac t0 u0 s a k (m + 2) t' u' ∧ u'.1 36 = u.1 36 := by
    obtain ⟨t1, u1, b1, r1, A1, z1, -⟩ := ac_m0 hS0 hB hp hp2 h (by omega) x
    have e33 : u1.1 33 = nI k := A1.2.2.2.2.1
    exact ⟨t1, u1, b1, by rw [r1, Option.bind_some, e33], A1.w (by omega), z1⟩
  rcases kd5 hI hk with c | c | c | c | c
  · rw [c] at q0 e35
    have q0 : tK t p = 6 := q0
    obtain ⟨t1, u1, b1, r1, A1, z1, -⟩ := ac_run hS0 h (by omega) 20
    obtain ⟨t2, u2, b2, r2, A2, z2, -⟩ := ac_m0 hS0 hB hp hp2 A1 (by omega) x
    have q1 := (A1.p hB hp hp2).1
    rw [c] at q1
    have q1 : tK t1 p = 6 := q1
    have e33 : u2.1 33 = nI k := A2.2.2.2.2.1
    refine ⟨(x + nI k) * 3, t2, u2, ?_, ?_, A2, z2.trans z1⟩
    · unfold F_V_makes F_X6_makes
      rw [q0, if_neg (by decide), if_neg (by decide), if_neg (by decide), if_pos rfl, if_pos k38, b1, Option.bind_some, if_pos q1, b2]; rfl
    · unfold F_X12_makes
      rw [if_pos e35, r1, Option.bind_some, r2, Option.bind_some, e33]
  · rw [c] at q0 e35
    have q0 : tK t p = 9 := q0
    obtain ⟨t1, u1, b1, r1, A1, z1⟩ := plain
    refine ⟨x + nI k, t1, u1, ?_, ?_, A1, z1⟩
    · unfold F_V_makes
      rw [q0, if_neg (by decide), if_neg (by decide), if_neg (by decide), if_neg (by decide), if_pos rfl]; exact b1
    · unfold F_X12_makes
      rw [e35, if_neg (by decide), if_neg (by decide)]; exact r1
  · rw [c] at q0 e35
    have q0 : tK t p = 5 := q0
    obtain ⟨t1, u1, b1, r1, A1, z1, -⟩ := ac_run hS0 h (by omega) 50
    obtain ⟨t2, u2, b2, r2, A2, z2, -⟩ := ac_m0 hS0 hB hp hp2 A1 (by omega) x
    have q1 := (A1.p hB hp hp2).1
    have q2 := A2.p hB hp hp2
    have q3 := q2.1
    rw [c] at q1 q3
    have q1 : tK t1 p = 5 := q1
    have q3 : tK t2 p = 5 := q3
    have e33 : u2.1 33 = nI k := A2.2.2.2.2.1
    refine ⟨(x + nI k) ^^^ nI k, t2, u2, ?_, ?_, A2, z2.trans z1⟩
    · unfold F_V_makes F_X5_makes
      rw [q0, if_neg (by decide), if_neg (by decide), if_pos rfl, if_pos k38, b1, Option.bind_some, if_pos q1, b2, Option.bind_some, if_pos q3, q2.2.1]
    · unfold F_X12_makes
      rw [e35, if_neg (by decide), if_pos rfl, r1, Option.bind_some, r2, Option.bind_some, e33]
  · rw [c] at q0 e35
    have q0 : tK t p = 1 := q0
    obtain ⟨t1, u1, b1, r1, A1, z1⟩ := plain
    refine ⟨x + nI k, t1, u1, ?_, ?_, A1, z1⟩
    · unfold F_V_makes
      rw [q0, if_pos rfl]; exact b1
    · unfold F_X12_makes
      rw [e35, if_neg (by decide), if_neg (by decide)]; exact r1
  · rw [c] at q0 e35
    have q0 : tK t p = 4 := q0
    obtain ⟨t1, u1, b1, r1, A1, z1⟩ := plain
    refine ⟨x + nI k, t1, u1, ?_, ?_, A1, z1⟩
    · unfold F_V_makes
      rw [q0, if_neg (by decide), if_pos rfl]; exact b1
    · unfold F_X12_makes
      rw [e35, if_neg (by decide), if_neg (by decide)]; exact r1
theorem ac_takes {t0 : xT} {u0 : xS} {s : Nat → Int32} {a k m p : Nat} {t : xT} {u : xS} (hS0 : SkC t0 a) (hI : Iv s) (hk : k < nB s) (hB : BkC t0 p k s) (hp : a + 43 ≤ p) (hp2 : p < t0.1) (h : Ac t0 u0 s a k m t u) (hm : m + 4 < 30) (x : Int32) : ∃ v t' u', F_V_takes t p x (a + 38) = some (v, t') ∧ F_X12_takes u x = some (v, u') ∧ Ac t0 u0 s a k (m + 4) t' u' ∧ u'.1 36 = u.1 36 := by
  obtain ⟨q0, -, -, -⟩ := h.p hB hp hp2
  have k38 := h.k38 hS0
  have e35 : u.1 35 = s (5 + 4 * k) := h.2.2.2.2.2.2.1
  -- the body that all have
  have base : ∀ m t u, Ac t0 u0 s a k m t u → m + 3 < 30 → ∃ v t' u' r1, F_X0_takes t p x (a + 38) = some (v * 2, t') ∧ F_X12_runs u 11 = some r1 ∧ F_X12_makes r1 x = some (v, u') ∧ Ac t0 u0 s a k (m + 3) t' u' ∧ u'.1 36 = u.1 36 := by
    intro m t u h hm
    obtain ⟨t1, u1, b1, r1, A1, z1, -⟩ := ac_run hS0 h (by omega) 11
    obtain ⟨v, t2, u2, b2, r2, A2, z2⟩ := ac_makes hS0 hI hk hB hp hp2 A1 (by omega) x
    have q1 := (A1.p hB hp hp2).2.2.2
    exact ⟨v, t2, u2, u1, by simp only [F_X0_takes, h.k38 hS0, if_true, b1, Option.bind_some, if_pos q1, b2], r1, r2, A2.w (by omega), z2.trans z1⟩
  have str : (s (5 + 4 * k) = 2 ∨ s (5 + 4 * k) = 3) → ∃ v t' u', F_X9_takes t p x (a + 38) = some (v, t') ∧ (F_X12_runs u (30 : Int32)).bind (fun r12 => F_X12_takes_j32 r12 x 1) = some (v, u') ∧ Ac t0 u0 s a k (m + 4) t' u' ∧ u'.1 36 = u.1 36 := by
    intro c
    obtain ⟨t1, u1, b1, r1, A1, z1, -⟩ := ac_run hS0 h (by omega) 30
    obtain ⟨v, t2, u2, w, b2, r2, r3, A2, z2⟩ := base _ _ _ A1 (by omega)
    have q1 := (A1.p hB hp hp2).1
    obtain ⟨q2, -, q4, -⟩ := A2.p hB hp hp2
    have kk : kK (s (5 + 4 * k)) = 9 ∨ kK (s (5 + 4 * k)) = 5 := by rcases c with c | c <;> rw [c] <;> decide
    have e35' : u1.1 35 = s (5 + 4 * k) := A1.2.2.2.2.2.2.1
    have e34 : u2.1 34 = s (5 + 4 * k + 3) := A2.2.2.2.2.2.1
    have n5 : ¬ u1.1 35 = 5 := by rw [e35']; rcases c with c | c <;> rw [c] <;> decide
    refine ⟨v * 2 - s (5 + 4 * k + 3), t2, u2, ?_, ?_, A2, z2.trans z1⟩
    · simp only [F_X9_takes, k38, if_true, b1, Option.bind_some, q1, if_pos kk, b2, q2, q4]
    · rw [r1, Option.bind_some]
      unfold F_X12_takes_j32 F_X12_takes_j46 F_X12_takes_j88
      simp only [xlet]
      rw [if_neg n5, r2, Option.bind_some, r3, Option.bind_some, if_neg (by decide), e34]
  have pln : (u.1 35 = 1 ∨ u.1 35 = 4) → ∃ v t' u', F_X0_takes t p x (a + 38) = some (v, t') ∧ F_X12_takes_j21 u x 0 = some (v, u') ∧ Ac t0 u0 s a k (m + 4) t' u' ∧ u'.1 36 = u.1 36 := by
    intro c
    obtain ⟨v, t2, u2, w, b2, r2, r3, A2, z2⟩ := base _ _ _ h (by omega)
    have e35' : u2.1 35 = s (5 + 4 * k) := A2.2.2.2.2.2.2.1
    have n5 : ¬ u.1 35 = 5 := by rcases c with c | c <;> rw [c] <;> decide
    have n5' : ¬ u2.1 35 = 5 := by rw [e35', ← e35]; exact n5
    refine ⟨v * 2, t2, u2, b2, ?_, A2.w (by omega), z2⟩
    unfold F_X12_takes_j21 F_X12_takes_j32 F_X12_takes_j46 F_X12_takes_j88
    simp only [xlet, if_true]
    rw [if_neg n5, r2, Option.bind_some, r3, Option.bind_some, if_neg n5']
  rcases kd5 hI hk with c | c | c | c | c
  · rw [c] at q0 e35
    have q0 : tK t p = 6 := q0
    obtain ⟨v, t1, u1, b1, r1, A1, z1⟩ := pln (Or.inl e35)
    refine ⟨v, t1, u1, ?_, ?_, A1, z1⟩
    · unfold F_V_takes
      rw [q0, if_neg (by decide), if_neg (by decide), if_neg (by decide), if_pos rfl]; exact b1
    · unfold F_X12_takes
      rw [e35, if_neg (by decide), if_neg (by decide)]; exact r1
  · obtain ⟨v, t1, u1, b1, r1, A1, z1⟩ := str (Or.inl c)
    rw [c] at q0 e35
    have q0 : tK t p = 9 := q0
    refine ⟨v, t1, u1, ?_, ?_, A1, z1⟩
    · unfold F_V_takes
      rw [q0, if_neg (by decide), if_neg (by decide), if_neg (by decide), if_neg (by decide), if_pos rfl]; exact b1
    · unfold F_X12_takes F_X12_takes_j16 F_X12_takes_j21
      rw [e35, if_pos rfl, if_neg (by decide)]; exact r1
  · obtain ⟨v, t1, u1, b1, r1, A1, z1⟩ := str (Or.inr c)
    rw [c] at q0 e35
    have q0 : tK t p = 5 := q0
    refine ⟨v, t1, u1, ?_, ?_, A1, z1⟩
    · unfold F_V_takes
      rw [q0, if_neg (by decide), if_neg (by decide), if_pos rfl]; exact b1
    · unfold F_X12_takes F_X12_takes_j16 F_X12_takes_j21
      rw [e35, if_neg (by decide), if_pos rfl, if_neg (by decide)]; exact r1
  · rw [c] at q0 e35
    have q0 : tK t p = 1 := q0
    obtain ⟨v, t1, u1, b1, r1, A1, z1⟩ := pln (Or.inr e35)
    refine ⟨v, t1, u1, ?_, ?_, A1, z1⟩
    · unfold F_V_takes
      rw [q0, if_pos rfl]; exact b1
    · unfold F_X12_takes
      rw [e35, if_neg (by decide), if_neg (by decide)]; exact r1
  · rw [c] at q0 e35
    have q0 : tK t p = 4 := q0
    obtain ⟨t1, u1, b1, r1, A1, z1, -⟩ := ac_run hS0 h (by omega) 60
    obtain ⟨v, t2, u2, w, b2, r2, r3, A2, z2⟩ := base _ _ _ A1 (by omega)
    have q1 := (A1.p hB hp hp2).1
    rw [c] at q1
    have q1 : tK t1 p = 4 := q1
    have e35' : u2.1 35 = s (5 + 4 * k) := A2.2.2.2.2.2.2.1
    rw [c] at e35'
    refine ⟨0 - v * 2, t2, u2, ?_, ?_, A2, z2.trans z1⟩
    · unfold F_V_takes F_X4_takes
      rw [q0, if_neg (by decide), if_pos rfl, if_pos k38, b1, Option.bind_some, if_pos q1, b2]; rfl
    · unfold F_X12_takes F_X12_takes_j21 F_X12_takes_j32 F_X12_takes_j46 F_X12_takes_j88
      simp only [xlet, if_true]
      rw [e35, if_neg (by decide), if_neg (by decide), if_pos rfl, r1, Option.bind_some, r2, Option.bind_some, r3, Option.bind_some, if_pos e35']
theorem n_sub0 (x y : Int32) : (x - y = 0) = (x = y) := by
  apply propext
  constructor
  · intro h
    have h2 : x - y + y = 0 + y := by rw [h]
    rw [Int32.sub_add_cancel, Int32.zero_add] at h2; exact h2
  · intro h; rw [h, Int32.sub_self]
theorem ac_parts {t0 : xT} {u0 : xS} {s : Nat → Int32} {a k m p : Nat} {t : xT} {u : xS} (hS0 : SkC t0 a) (hB : BkC t0 p k s) (hp : a + 43 ≤ p) (hp2 : p < t0.1) (h : Ac t0 u0 s a k m t u) (hm : m < 30) (x : Int32) : ∃ v t' u', F_X0_shares t p x (a + 38) = some (v, t') ∧ F_X12_parts u x = some (v, u') ∧ Ac t0 u0 s a k (m + 1) t' u' := by
  have hl := hS0.lt
  obtain ⟨t1, u1, b1, r1, A1, z1, -⟩ := ac_run hS0 h hm 12
  obtain ⟨-, q1, q4, q3⟩ := A1.p hB hp hp2
  have k38' := A1.k38 hS0
  have AA := A1
  obtain ⟨o, hv, hc, ⟨p1, p2⟩, f33, f34, f35, g1, g2⟩ := A1
  by_cases e : s (5 + 4 * k + 3) = nI k
  · have e' : s (5 + 4 * k + 3) - nI k = 0 := by rw [n_sub0]; exact e
    refine ⟨0, tSI t1 (a + 38) 2 1, mS u1 36 1, ?_, ?_, ⟨o.tr (Ol.SI _ _ _ (Or.inl rfl)), fun i hi => ?_, ?_, ⟨?_, Or.inr (mS_1 _ _ _)⟩, f33, f34, f35, fun j hj => ?_, g2⟩⟩
    · simp only [F_X0_shares, h.k38 hS0, if_true, b1, Option.bind_some, if_pos q3, q4, q1, e', xlet, k38', F_X10_part]
    · simp only [F_X12_parts, r1, Option.bind_some, f34, f33, if_pos e, xlet]
    · rw [tI_SIn _ _ _ _ (by omega)]; exact hv i hi
    · obtain ⟨c, c1, c2, c3⟩ := hc
      exact ⟨c, c1, by rw [tI_SI, upd_n _ _ (by decide)]; exact c2, c3⟩
    · rw [tI_SI, upd_s, mS_1]
    · show (if j = 36 then _ else u1.1 j) = _
      rw [if_neg (by omega)]; exact g1 j hj
  · have e' : ¬ s (5 + 4 * k + 3) - nI k = 0 := by rw [n_sub0]; exact e
    refine ⟨x / (s (5 + 4 * k + 3) - nI k), t1, u1, ?_, ?_, AA⟩
    · simp only [F_X0_shares, h.k38 hS0, if_true, b1, Option.bind_some, if_pos q3, q4, q1, xlet, if_neg e', if_pos e']
    · simp only [F_X12_parts, r1, Option.bind_some, f34, f33, if_neg e, if_pos e']
theorem ac_shares {t0 : xT} {u0 : xS} {s : Nat → Int32} {a k m p : Nat} {t : xT} {u : xS} (hS0 : SkC t0 a) (hI : Iv s) (hk : k < nB s) (hB : BkC t0 p k s) (hp : a + 43 ≤ p) (hp2 : p < t0.1) (h : Ac t0 u0 s a k m t u) (hm : m + 4 < 30) (x : Int32) : ∃ v w t' u', F_V_shares t p x (a + 38) = some (v, t') ∧ F_X12_shares u x = some (w, u') ∧ Ac t0 u0 s a k (m + 4) t' u' ∧ (u'.1 36 = 0 → v = w) := by
  obtain ⟨q0, -, -, -⟩ := h.p hB hp hp2
  have k38 := h.k38 hS0
  have e35 : u.1 35 = s (5 + 4 * k) := h.2.2.2.2.2.2.1
  have egg : ∀ m t u, Ac t0 u0 s a k m t u → m + 1 < 30 → (s (5 + 4 * k) = 4 ∨ s (5 + 4 * k) = 5) → ∃ v t' u' w, F_X1_shares t p x (a + 38) = some (v, t') ∧ F_X12_runs u 40 = some w ∧ F_X12_parts w (x + 1) = some (v, u') ∧ Ac t0 u0 s a k (m + 2) t' u' := by
    intro m t u h hm c
    obtain ⟨t1, u1, b1, r1, A1, z1, -⟩ := ac_run hS0 h (by omega) 40
    obtain ⟨v, t2, u2, b2, r2, A2⟩ := ac_parts hS0 hB hp hp2 A1 (by omega) (x + 1)
    have q1 := (A1.p hB hp hp2).1
    have kk : kK (s (5 + 4 * k)) = 1 ∨ kK (s (5 + 4 * k)) = 4 := by rcases c with c | c <;> rw [c] <;> decide
    exact ⟨v, t2, u2, u1, by simp only [F_X1_shares, h.k38 hS0, if_true, b1, Option.bind_some, q1, if_pos kk, b2], r1, r2, A2⟩
  rcases kd5 hI hk with c | c | c | c | c
  · rw [c] at q0 e35
    have q0 : tK t p = 6 := q0
    obtain ⟨v, t2, u2, b2, r2, A2⟩ := ac_parts hS0 hB hp hp2 h (by omega) x
    refine ⟨v, v, t2, u2, ?_, ?_, A2.w (by omega), fun _ => rfl⟩
    · unfold F_V_shares
      rw [q0, if_neg (by decide), if_neg (by decide), if_neg (by decide), if_pos rfl]; exact b2
    · unfold F_X12_shares
      rw [e35, if_neg (by decide), if_neg (by decide), r2]; rfl
  · rw [c] at q0 e35
    have q0 : tK t p = 9 := q0
    obtain ⟨v, t2, u2, b2, r2, A2⟩ := ac_parts hS0 hB hp hp2 h (by omega) x
    refine ⟨v, v, t2, u2, ?_, ?_, A2.w (by omega), fun _ => rfl⟩
    · unfold F_V_shares
      rw [q0, if_neg (by decide), if_neg (by decide), if_neg (by decide), if_neg (by decide), if_pos rfl]; exact b2
    · unfold F_X12_shares
      rw [e35, if_neg (by decide), if_neg (by decide), r2]; rfl
  · rw [c] at q0 e35
    have q0 : tK t p = 5 := q0
    obtain ⟨v, t2, u2, b2, r2, A2⟩ := ac_parts hS0 hB hp hp2 h (by omega) x
    refine ⟨v, v, t2, u2, ?_, ?_, A2.w (by omega), fun _ => rfl⟩
    · unfold F_V_shares
      rw [q0, if_neg (by decide), if_neg (by decide), if_pos rfl]; exact b2
    · unfold F_X12_shares
      rw [e35, if_neg (by decide), if_neg (by decide), r2]; rfl
  · obtain ⟨v, t2, u2, w, b2, r2, r3, A2⟩ := egg m t u h (by omega) (Or.inl c)
    rw [c] at q0 e35
    have q0 : tK t p = 1 := q0
    refine ⟨v, v, t2, u2, ?_, ?_, A2.w (by omega), fun _ => rfl⟩
    · unfold F_V_shares
      rw [q0, if_pos rfl]; exact b2
    · unfold F_X12_shares
      rw [e35, if_pos rfl, r2, Option.bind_some, r3]; rfl
  · obtain ⟨t1, u1, b1, r1, A1, z1, -⟩ := ac_run hS0 h (by omega) 61
    obtain ⟨v, t2, u2, w, b2, r2, r3, A2⟩ := egg (m + 1) t1 u1 A1 (by omega) (Or.inr c)
    obtain ⟨t3, u3, b3, r4, A3, z3, w3⟩ := ac_m0 hS0 hB hp hp2 A2 (by omega) (s (5 + 4 * k + 3))
    have q1 := (A1.p hB hp hp2).1
    obtain ⟨q2, -, q4, -⟩ := A2.p hB hp hp2
    rw [c] at q0 e35 q1 q2
    have q0 : tK t p = 4 := q0
    have q1 : tK t1 p = 4 := q1
    have q2 : tK t2 p = 4 := q2
    have e35' : u2.1 35 = s (5 + 4 * k) := A2.2.2.2.2.2.2.1
    rw [c] at e35'
    have e34 : u2.1 34 = s (5 + 4 * k + 3) := A2.2.2.2.2.2.1
    have e33 : u3.1 33 = nI k := A3.2.2.2.2.1
    have cls : F_V_shares t p x (a + 38) = some (v + (s (5 + 4 * k + 3) + nI k), t3) := by
      unfold F_V_shares F_X4_shares
      rw [q0, if_neg (by decide), if_pos rfl, if_pos k38, b1, Option.bind_some, if_pos q1, b2, Option.bind_some, if_pos q2, q4, b3]; rfl
    rcases A2.2.2.2.1.2 with z | z
    · refine ⟨_, v + (s (5 + 4 * k + 3) + nI k), t3, u3, cls, ?_, A3.w (by omega), fun _ => rfl⟩
      unfold F_X12_shares F_X12_shares_j71
      rw [e35, if_neg (by decide), if_pos rfl, r1, Option.bind_some, r2, Option.bind_some, r3, Option.bind_some]
      show (if u2.1 36 = 0 then _ else _) = _
      rw [if_pos z, e34]
      unfold F_X12_makes
      rw [if_neg (show ¬ u2.1 35 = 1 by rw [e35']; decide), if_neg (show ¬ u2.1 35 = 3 by rw [e35']; decide), r4, Option.bind_some, Option.bind_some, e33]
    · have e3 := w3 z
      subst e3
      refine ⟨_, 0, t3, u2, cls, ?_, A2.w (by omega), fun h => by rw [z] at h; exact absurd h (by decide)⟩
      unfold F_X12_shares F_X12_shares_j71
      rw [e35, if_neg (by decide), if_pos rfl, r1, Option.bind_some, r2, Option.bind_some, r3, Option.bind_some]
      show (if u2.1 36 = 0 then _ else _) = _
      rw [if_neg (by rw [z]; decide)]
theorem ac_tells {t0 : xT} {u0 : xS} {s : Nat → Int32} {a k m p : Nat} {t : xT} {u : xS} (hS0 : SkC t0 a) (hI : Iv s) (hk : k < nB s) (hB : BkC t0 p k s) (hp : a + 43 ≤ p) (hp2 : p < t0.1) (h : Ac t0 u0 s a k m t u) (hm : m + 10 < 30) (x : Int32) : ∃ v w t' u', F_V_tells t p x (a + 38) = some (v, t') ∧ F_X12_tells u x = some (w, u') ∧ Ac t0 u0 s a k (m + 10) t' u' ∧ (u'.1 36 = 0 → v = w) := by
  obtain ⟨q0, -, -, -⟩ := h.p hB hp hp2
  have k38 := h.k38 hS0
  have e35 : u.1 35 = s (5 + 4 * k) := h.2.2.2.2.2.2.1
  have base : ∀ m t u, Ac t0 u0 s a k m t u → m + 5 < 30 → ∃ v t' u' w, F_X0_tells t p x (a + 38) = some (v ^^^ s (5 + 4 * k + 3), t') ∧ F_X12_runs u 13 = some w ∧ F_X12_takes w x = some (v, u') ∧ Ac t0 u0 s a k (m + 5) t' u' := by
    intro m t u h hm
    obtain ⟨t1, u1, b1, r1, A1, z1, -⟩ := ac_run hS0 h (by omega) 13
    obtain ⟨v, t2, u2, b2, r2, A2, z2⟩ := ac_takes hS0 hI hk hB hp hp2 A1 (by omega) x
    have q1 := (A1.p hB hp hp2).2.2.2
    obtain ⟨-, -, q4, q2⟩ := A2.p hB hp hp2
    exact ⟨v, t2, u2, u1, by simp only [F_X0_tells, h.k38 hS0, if_true, b1, Option.bind_some, if_pos q1, b2, if_pos q2, q4], r1, r2, A2⟩
  have pln : ¬ s (5 + 4 * k) = 3 → ∃ v t' u', F_X0_tells t p x (a + 38) = some (v, t') ∧ F_X12_tells u x = some (v, u') ∧ Ac t0 u0 s a k (m + 10) t' u' := by
    intro c
    obtain ⟨v, t2, u2, w, b2, r2, r3, A2⟩ := base _ _ _ h (by omega)
    have e35' : u2.1 35 = s (5 + 4 * k) := A2.2.2.2.2.2.2.1
    have e34 : u2.1 34 = s (5 + 4 * k + 3) := A2.2.2.2.2.2.1
    refine ⟨_, t2, u2, b2, ?_, A2.w (by omega)⟩
    unfold F_X12_tells F_X12_tells_j14 F_X12_tells_j53
    simp only [xlet]
    rw [if_neg (by rw [e35]; exact c), r2, Option.bind_some, r3, Option.bind_some, if_neg (by rw [e35']; exact c), e34]
  rcases kd5 hI hk with c | c | c | c | c
  · obtain ⟨v, t1, u1, b1, r1, A1⟩ := pln (by rw [c]; decide)
    rw [c] at q0
    have q0 : tK t p = 6 := q0
    refine ⟨v, v, t1, u1, ?_, r1, A1, fun _ => rfl⟩
    unfold F_V_tells
    rw [q0, if_neg (by decide), if_neg (by decide), if_neg (by decide), if_pos rfl]; exact b1
  · obtain ⟨v, t1, u1, b1, r1, A1⟩ := pln (by rw [c]; decide)
    rw [c] at q0
    have q0 : tK t p = 9 := q0
    refine ⟨v, v, t1, u1, ?_, r1, A1, fun _ => rfl⟩
    unfold F_V_tells
    rw [q0, if_neg (by decide), if_neg (by decide), if_neg (by decide), if_neg (by decide), if_pos rfl]; exact b1
  · obtain ⟨t1, u1, b1, r1, A1, z1, -⟩ := ac_run hS0 h (by omega) 51
    obtain ⟨v, t2, u2, w, b2, r2, r3, A2⟩ := base _ _ _ A1 (by omega)
    obtain ⟨v3, t3, u3, b3, r4, A3⟩ := ac_parts hS0 hB hp hp2 A2 (by omega) (nI k)
    have q1 := (A1.p hB hp hp2).1
    obtain ⟨q2, q5, q4, -⟩ := A2.p hB hp hp2
    rw [c] at q0 e35 q1 q2
    have q0 : tK t p = 5 := q0
    have q1 : tK t1 p = 5 := q1
    have q2 : tK t2 p = 5 := q2
    have e35' : u2.1 35 = s (5 + 4 * k) := A2.2.2.2.2.2.2.1
    rw [c] at e35'
    have e34 : u2.1 34 = s (5 + 4 * k + 3) := A2.2.2.2.2.2.1
    have e33 : u2.1 33 = nI k := A2.2.2.2.2.1
    refine ⟨(v ^^^ s (5 + 4 * k + 3)) + v3, (v ^^^ s (5 + 4 * k + 3)) + v3, t3, u3, ?_, ?_, A3.w (by omega), fun _ => rfl⟩
    · unfold F_V_tells F_X5_tells
      rw [q0, if_neg (by decide), if_neg (by decide), if_pos rfl, if_pos k38, b1, Option.bind_some, if_pos q1, b2, Option.bind_some, if_pos q2, q5, b3]; rfl
    · unfold F_X12_tells F_X12_tells_j14 F_X12_tells_j53
      simp only [xlet]
      rw [if_pos e35, r1, Option.bind_some, r2, Option.bind_some, r3, Option.bind_some, if_pos e35', e34, e33]
      unfold F_X12_shares
      rw [if_neg (show ¬ u2.1 35 = 4 by rw [e35']; decide), if_neg (show ¬ u2.1 35 = 5 by rw [e35']; decide), r4]; rfl
  · obtain ⟨v, t1, u1, b1, r1, A1⟩ := pln (by rw [c]; decide)
    rw [c] at q0
    have q0 : tK t p = 1 := q0
    refine ⟨v, v, t1, u1, ?_, r1, A1, fun _ => rfl⟩
    unfold F_V_tells
    rw [q0, if_pos rfl]; exact b1
  · obtain ⟨v, t1, u1, b1, r1, A1⟩ := pln (by rw [c]; decide)
    rw [c] at q0
    have q0 : tK t p = 4 := q0
    refine ⟨v, v, t1, u1, ?_, r1, A1, fun _ => rfl⟩
    unfold F_V_tells
    rw [q0, if_neg (by decide), if_pos rfl]; exact b1
/-- the relation behind an act -/
theorem RR.act {t t' : xT} {a : Nat} {u u' : xS} (h : RR t a u) (o : Ol t t' (fun q => q = a + 38 ∨ q = a + 39) (fun _ => False)) (hTr : TrC t' a u') (g1 : ∀ j, j < 32 → u'.1 j = u.1 j) (g2 : ∀ j, j ≠ 31 → u'.2.1 j = u.2.1 j) : RR t' a u' := by
  obtain ⟨hS, hTp, hRw, hSh, hSf, -, -⟩ := h.more
  have hl := hS.lt
  have ea : tI t' a = tI t a := o.2.2.1 a (by omega) (by omega)
  exact h.own o (fun q hq => by omega) (fun _ h => h.elim) (by rw [ea]) (g2 0 (by decide)) (g2 1 (by decide)) (g1 3 (by decide)) (hTp.ol o hl (by rw [ea]) (by omega) (g2 17 (by decide)) (g1 18 (by decide))) (hRw.ol o hl (by rw [ea]) (by omega) (g2 15 (by decide)) (g1 16 (by decide))) (hSh.ol o hl id (fun r hr => by have := hr.1; exact ⟨by omega, by omega, id⟩) (g2 25 (by decide)) (g2 26 (by decide)) (g2 27 (by decide))) (hSf.ol o hl (by omega) id (fun r hr => by have := hr.1; exact ⟨by omega, id⟩) (g2 28 (by decide)) (g2 29 (by decide)) (g2 30 (by decide))) hTr
theorem st_act : sT_act RR := by
  intro t a u z0 z1 z2 hR
  obtain ⟨B, ls, hk, hp, hk1, hS, hI, hRd, hL, hBg, hSt⟩ := hR.rd
  obtain ⟨-, -, -, hSh, hSf, hTr, -⟩ := hR.more
  have hl := hS.lt
  obtain ⟨p7, k35, n35, p8, o36, p9, k37, n37⟩ := sk_sh hS
  have p10 : tP t a 10 = some (a + 38) := hS.2.2.2.2.2.2.2.2.1
  have k38 : tK t (a + 38) = 10 := hS.2.2.2.2.2.2.2.2.2.2.2.2.2.2.2.2.2.2.2.1.1
  have o1 : Ol t (tSI (tSI t (a + 38) 1 0) (a + 38) 2 0) (fun q => q = a + 38 ∨ q = a + 39) (fun _ => False) := (Ol.SI _ _ _ (Or.inl rfl)).tr (Ol.SI _ _ _ (Or.inl rfl))
  have clr : F_X10_clear t (a + 38) = some (tSI (tSI t (a + 38) 1 0) (a + 38) 2 0) := by simp only [F_X10_clear, k38, if_true, xlet]
  generalize hT : tSI (tSI t (a + 38) 1 0) (a + 38) 2 0 = t1 at *
  have hS1 := hS.ol o1 id id id id
  have v39 : ∀ i, i < 30 → tI t1 (a + 39) i = u.2.1 31 i := fun i hi => by rw [← hT, tI_SIn _ _ _ _ (by omega), tI_SIn _ _ _ _ (by omega)]; exact hTr.1 i hi
  have v1 : tI t1 (a + 38) 1 = 0 := by rw [← hT, tI_SI, upd_n _ _ (by decide), tI_SI, upd_s]
  have v2 : tI t1 (a + 38) 2 = 0 := by rw [← hT, tI_SI, upd_s]
  have hB1 : BgC t1 a (a + 1) B (u.2.1 0) := hBg.ol o1 (by omega) id (fun k hk => by have := (hBg k hk).2.1; omega)
  have hR1 : RdC t1 (a + 1) (u.2.1 0) := hRd.ol o1 (by omega) (fun q hq => by omega)
  have e36 : tI t1 (a + 36) = tI t (a + 36) := o1.2.2.1 _ (by omega) (by omega)
  have k1 : tK t1 a = 11 := hS1.1
  obtain ⟨-, -, -, q8, q36, -⟩ := sk_sh hS1
  have q10 : tP t1 a 10 = some (a + 38) := hS1.2.2.2.2.2.2.2.2.1
  have q0 : tP t1 a 0 = some (a + 1) := hS1.2.1
  have kr : tK t1 (a + 1) = 7 := hS1.2.2.2.2.2.2.2.2.2.2.2.2.1.1
  -- nothing held
  have none' : ∀ w : Int32, w < 0 → F_X11_act t a z0 z1 z2 = some (0, t1) → F_X12_onShelf (mS (mS u 32 0) 36 0) z0 = some w → ∃ v t' u', F_X11_act t a z0 z1 z2 = some (v, t') ∧ F_X12_act u z0 z1 z2 = some (v, u') ∧ RR t' a u' := by
    intro w hw h1 h2
    refine ⟨0, t1, mS (mS (mS u 32 0) 36 0) 33 w, h1, ?_, hR.act o1 ⟨v39, v1, 0, by decide, rfl⟩ (fun j hj => ?_) (fun _ _ => rfl)⟩
    · unfold F_X12_act
      simp only [xlet]
      rw [h2, Option.bind_some, if_pos (show (mS (mS (mS u 32 0) 36 0) 33 w).1 33 < 0 by rw [mS_1]; exact hw)]; rfl
    · show (if j = 33 then _ else if j = 36 then _ else if j = 32 then _ else u.1 j) = _
      rw [if_neg (by omega), if_neg (by omega), if_neg (by omega)]
  rcases d_one z0 with ⟨b1, b2⟩ | ⟨j, hj, rfl, b1, b2⟩
  · refine none' (-1) (by decide) ?_ ?_
    · simp only [F_X11_act, hk, if_true, p10, Option.bind_some, k38, clr, b1, F_X11_act_j33, xopt]
    · simp only [F_X12_onShelf, F_X12_onShelf_j39, F_X12_onShelf_j40, b2, Option.bind_some, if_true]
  have ij : xIn (nI j) 4 := n_xIn hj (by decide)
  have ej : (nI j).toNatClampNeg = j := n_cl (by omega)
  have neg1 : F_X7_bridgeAt t1 (a + 1) (-1) = some none := by unfold F_X7_bridgeAt F_X7_bridgeAt_j30 F_X7_bridgeAt_j31; rw [if_pos (by decide)]; rfl
  have noc : F_X7_bridgeAt t1 (a + 1) (tI t (a + 36) j) = some none → F_X11_act t a (nI j) z1 z2 = some (0, t1) := by
    intro h
    simp only [F_X11_act, hk, if_true, p10, Option.bind_some, k38, clr, b1, n10, if_false, k1, q0, q8, q36.1, q36.2, if_pos ij, ej, kr, e36, h, xopt, F_X11_act_j33]
  rcases hSf j hj with ⟨s1, s2, s3⟩ | ⟨s1, s2, s3⟩ | ⟨s1, s2, -⟩
  · rcases d_br (u := u) hS1 hI hR1 hB1 (u.2.1 29 j) with ⟨c1, c2⟩ | ⟨k, hk9, k9, ek, c1, c2, hBk, hbk⟩
    · refine none' (-1) (by decide) (noc (by rw [s2]; exact c1)) ?_
      have c2' : F_X12_isBridge (mS (mS u 32 0) 36 0) (u.2.1 29 j) = some 0 := c2
      have s1' : (mS (mS u 32 0) 36 0).2.1 28 j = 1 := s1
      have s29 : (mS (mS u 32 0) 36 0).2.1 29 j = u.2.1 29 j := rfl
      simp only [F_X12_onShelf, F_X12_onShelf_j39, F_X12_onShelf_j40, b2, Option.bind_some, n10, if_false, if_pos ij, ej, s1', if_true, s29, c2']
    · have c2' : F_X12_isBridge (mS (mS u 32 0) 36 0) (nI k) = some 1 := by rw [ek] at c2; exact c2
      have s1' : (mS (mS u 32 0) 36 0).2.1 28 j = 1 := s1
      have s29 : (mS (mS u 32 0) 36 0).2.1 29 j = nI k := ek
      have ons : F_X12_onShelf (mS (mS u 32 0) 36 0) (nI j) = some (nI k) := by
        simp only [F_X12_onShelf, F_X12_onShelf_j39, F_X12_onShelf_j40, b2, Option.bind_some, n10, if_false, if_pos ij, ej, s1', if_true, s29, c2']
      have e36' : tI t1 (a + 36) j = u.2.1 29 j := by rw [e36]; exact s2
      have cls : ∀ v, F_X11_act_j33 t1 a z1 z2 (some (B k)) = some v → F_X11_act t a (nI j) z1 z2 = some v := by
        intro v hv
        simp only [F_X11_act, hk, if_true, p10, Option.bind_some, k38, clr, b1, n10, if_false, k1, q0, q8, q36.1, q36.2, if_pos ij, ej, kr, e36', c1, xopt]
        exact hv
      obtain ⟨bg1, bg2, bg3, bg4⟩ := hB1 k hk9
      have its3 : F_X12_its (mS (mS (mS u 32 0) 36 0) 33 (nI k)) (nI k) 3 = some (u.2.1 0 (5 + 4 * k + 3)) := n_its _ (w := 3) (by omega)
      have its0 : F_X12_its (mS (mS (mS (mS u 32 0) 36 0) 33 (nI k)) 34 (u.2.1 0 (5 + 4 * k + 3))) (nI k) 0 = some (u.2.1 0 (5 + 4 * k)) := n_its _ (w := 0) (by omega)
      have m33 : (mS (mS (mS u 32 0) 36 0) 33 (nI k)).1 33 = nI k := mS_1 _ _ _
      have m33' : (mS (mS (mS (mS u 32 0) 36 0) 33 (nI k)) 34 (u.2.1 0 (5 + 4 * k + 3))).1 33 = nI k := rfl
      have kn : ¬ nI k < 0 := nI_pos (by omega)
      rcases d_in z1 0 3 (A := 0) (B := 3) rfl rfl with ⟨-, n2, n3⟩ | ⟨-, n2, n3, n4⟩
      · have e : ∀ w : Int32, 0 ≤ w.toInt → w.toInt ≤ 3 → ¬ z1 = w := fun w h1 h2 => ne_of_toInt (by intro h; change z1.toInt < 0 ∨ 3 < z1.toInt at n3; omega)
        refine ⟨0, t1, mS (mS (mS u 32 0) 36 0) 33 (nI k), cls _ ?_, ?_, hR.act o1 ⟨v39, v1, 0, by decide, rfl⟩ (fun j hj => ?_) (fun _ _ => rfl)⟩
        · unfold F_X11_act_j33 F_X11_act_j136 F_X11_act_j153
          simp only [xopt, if_neg (e 0 (by decide) (by decide)), if_neg (e 1 (by decide) (by decide)), if_neg (e 2 (by decide) (by decide)), if_neg (e 3 (by decide) (by decide)), if_pos k1, q10, Option.bind_some, hS1.2.2.2.2.2.2.2.2.2.2.2.2.2.2.2.2.2.2.2.1.1, if_true, v2]
        · unfold F_X12_act
          simp only [xlet]
          rw [ons, Option.bind_some, m33, if_neg kn, n2]; rfl
        · show (if j = 33 then _ else if j = 36 then _ else if j = 32 then _ else u.1 j) = _
          rw [if_neg (by omega), if_neg (by omega), if_neg (by omega)]
      · obtain ⟨N, hN, rfl⟩ := nI_of2 (x := z1) (M := 3) (n := 3) rfl (by rw [fa_lt]; exact Int.not_lt.mpr n3) (by rw [fa_le]; exact n4)
        have A0 : Ac t1 u (u.2.1 0) a k 0 t1 (mS (mS (mS (mS (mS u 32 0) 36 0) 33 (nI k)) 34 (u.2.1 0 (5 + 4 * k + 3))) 35 (u.2.1 0 (5 + 4 * k))) := by
          refine ⟨Ol.rf _ _ _, v39, ⟨0, by decide, v1, rfl⟩, ⟨v2, Or.inl rfl⟩, rfl, rfl, rfl, fun j hj => ?_, fun _ _ => rfl⟩
          show (if j = 35 then _ else if j = 34 then _ else if j = 33 then _ else if j = 36 then _ else if j = 32 then _ else u.1 j) = _
          rw [if_neg (by omega), if_neg (by omega), if_neg (by omega), if_neg (by omega), if_neg (by omega)]
        generalize hU : mS (mS (mS (mS (mS u 32 0) 36 0) 33 (nI k)) 34 (u.2.1 0 (5 + 4 * k + 3))) 35 (u.2.1 0 (5 + 4 * k)) = u1 at A0
        have refe : ∀ r, (if nI N = 0 then (F_X12_makes u1 z2).bind (fun r27 => F_X12_act_j109 r27.2 r27.1) else if nI N = (1 : Int32) then (F_X12_takes u1 z2).bind (fun r25 => F_X12_act_j109 r25.2 r25.1) else if nI N = (2 : Int32) then (F_X12_shares u1 z2).bind (fun r23 => F_X12_act_j109 r23.2 r23.1) else (F_X12_tells u1 z2).bind (fun r21 => F_X12_act_j109 r21.2 r21.1)) = some r → F_X12_act u (nI j) (nI N) z2 = some r := by
          intro r hr
          unfold F_X12_act
          simp only [xlet]
          rw [ons, Option.bind_some, m33, if_neg kn, n2, Option.bind_some, if_neg (by decide), its3, Option.bind_some, m33', its0, Option.bind_some, hU]
          exact hr
        have fin : ∀ m v w t' u', Ac t1 u (u.2.1 0) a k m t' u' → m ≤ 30 → (u'.1 36 = 0 → v = w) → ∃ x, F_X11_act_j136 t' a v = some (x, t') ∧ F_X12_act_j109 u' w = some (x, u') ∧ RR t' a u' := by
          intro m v w t' u' A hm hvw
          have kA := A.k38 hS1
          obtain ⟨o, hv, ⟨c, hc, w1, w2⟩, ⟨p1, p2⟩, -, -, -, g1, g2⟩ := A
          have hS' := hS1.ol o id id id id
          have R' : RR t' a u' := hR.act (o1.tr o) ⟨hv, w1.trans w2.symm, c, by omega, w2⟩ g1 g2
          have q10' : tP t' a 10 = some (a + 38) := hS'.2.2.2.2.2.2.2.2.1
          rcases p2 with z | z
          · refine ⟨v, ?_, ?_, R'⟩
            · simp only [F_X11_act_j136, F_X11_act_j153, hS'.1, if_true, q10', Option.bind_some, kA, p1, z]
            · simp only [F_X12_act_j109, F_X12_act_j125, z, if_true, hvw z]
          · have nz : ¬ u'.1 36 = 0 := by rw [z]; decide
            refine ⟨-15, ?_, ?_, R'⟩
            · simp only [F_X11_act_j136, F_X11_act_j153, hS'.1, if_true, q10', Option.bind_some, kA, p1, if_neg nz]
            · simp only [F_X12_act_j109, F_X12_act_j125, if_neg nz]
        rcases (show N = 0 ∨ N = 1 ∨ N = 2 ∨ N = 3 by omega) with h | h | h | h <;> subst h
        · obtain ⟨v, t', u', h1, h2, A, -⟩ := ac_makes hS1 hI hk9 bg4 bg2 bg3 A0 (by decide) z2
          obtain ⟨x, f1, f2, f3⟩ := fin 2 v v t' u' A (by decide) (fun _ => rfl)
          refine ⟨x, t', u', cls _ ?_, refe _ ?_, f3⟩
          · unfold F_X11_act_j33
            simp only [xopt, if_pos (show nI 0 = (0 : Int32) from rfl), if_pos k1, q10, Option.bind_some, if_pos hbk, h1]; exact f1
          · rw [if_pos (show nI 0 = (0 : Int32) from rfl), h2]; exact f2
        · obtain ⟨v, t', u', h1, h2, A, -⟩ := ac_takes hS1 hI hk9 bg4 bg2 bg3 A0 (by decide) z2
          obtain ⟨x, f1, f2, f3⟩ := fin 4 v v t' u' A (by decide) (fun _ => rfl)
          refine ⟨x, t', u', cls _ ?_, refe _ ?_, f3⟩
          · unfold F_X11_act_j33
            simp only [xopt, if_neg (show ¬ nI 1 = (0 : Int32) by decide), if_pos (show nI 1 = (1 : Int32) from rfl), if_pos k1, q10, Option.bind_some, if_pos hbk, h1]; exact f1
          · rw [if_neg (show ¬ nI 1 = (0 : Int32) by decide), if_pos (show nI 1 = (1 : Int32) from rfl), h2]; exact f2
        · obtain ⟨v, w, t', u', h1, h2, A, hvw⟩ := ac_shares hS1 hI hk9 bg4 bg2 bg3 A0 (by decide) z2
          obtain ⟨x, f1, f2, f3⟩ := fin 4 v w t' u' A (by decide) hvw
          refine ⟨x, t', u', cls _ ?_, refe _ ?_, f3⟩
          · unfold F_X11_act_j33
            simp only [xopt, if_neg (show ¬ nI 2 = (0 : Int32) by decide), if_neg (show ¬ nI 2 = (1 : Int32) by decide), if_pos (show nI 2 = (2 : Int32) from rfl), if_pos k1, q10, Option.bind_some, if_pos hbk, h1]; exact f1
          · rw [if_neg (show ¬ nI 2 = (0 : Int32) by decide), if_neg (show ¬ nI 2 = (1 : Int32) by decide), if_pos (show nI 2 = (2 : Int32) from rfl), h2]; exact f2
        · obtain ⟨v, w, t', u', h1, h2, A, hvw⟩ := ac_tells hS1 hI hk9 bg4 bg2 bg3 A0 (by decide) z2
          obtain ⟨x, f1, f2, f3⟩ := fin 10 v w t' u' A (by decide) hvw
          refine ⟨x, t', u', cls _ ?_, refe _ ?_, f3⟩
          · unfold F_X11_act_j33
            simp only [xopt, if_neg (show ¬ nI 3 = (0 : Int32) by decide), if_neg (show ¬ nI 3 = (1 : Int32) by decide), if_neg (show ¬ nI 3 = (2 : Int32) by decide), if_pos (show nI 3 = (3 : Int32) from rfl), if_pos k1, q10, Option.bind_some, if_pos hbk, h1]; exact f1
          · rw [if_neg (show ¬ nI 3 = (0 : Int32) by decide), if_neg (show ¬ nI 3 = (1 : Int32) by decide), if_neg (show ¬ nI 3 = (2 : Int32) by decide), h2]; exact f2
  · refine none' (-1) (by decide) (noc (by rw [s2]; exact neg1)) ?_
    have s1' : (mS (mS u 32 0) 36 0).2.1 28 j = 0 := s1
    simp only [F_X12_onShelf, F_X12_onShelf_j39, F_X12_onShelf_j40, b2, Option.bind_some, n10, if_false, if_pos ij, ej, s1', if_neg (show ¬ (0 : Int32) = 1 by decide)]
  · refine none' (-1) (by decide) (noc (by rw [s2]; exact neg1)) ?_
    have s1' : (mS (mS u 32 0) 36 0).2.1 28 j = 2 := s1
    simp only [F_X12_onShelf, F_X12_onShelf_j39, F_X12_onShelf_j40, b2, Option.bind_some, n10, if_false, if_pos ij, ej, s1', if_neg (show ¬ (2 : Int32) = 1 by decide)]
