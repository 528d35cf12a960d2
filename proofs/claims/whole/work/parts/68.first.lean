/-! ===== pure mathematics 47: the class's constructor ===== -/
/-- a step of the constructor: m cells from the next address on, the first hung into field f of a -/
def Gx (t t' : xT) (a f m : Nat) : Prop := t'.1 = t.1 + m ∧ (∀ q, q < t.1 → q ≠ a → Sm t t' q) ∧ tK t' a = tK t a ∧ ((∀ j, tI t a j = 0) → ∀ j, tI t' a j = 0) ∧ tP t' a = va_up (tP t a) f (some t.1)
theorem Gx.si {t t' : xT} {a f m : Nat} (h : Gx t t' a f m) (k : Nat) : Gx t (tSI t' a k 0) a f m := by
  obtain ⟨h1, h2, h3, h4, h5⟩ := h
  refine ⟨h1, fun q hq hn => (h2 q hq hn).tr (Sm.SI k 0 hn), h3, fun hz j => ?_, h5⟩
  rw [tI_SI, upd2]
  by_cases c : j = k
  · rw [if_pos c]
  · rw [if_neg c]; exact h4 hz j
theorem gArr {t : xT} (P : Option xT → Prop) {a : Nat} (kk n f : Nat) (h : a < t.1) (hk : tK t a = 11) (k : xT → Option xT) (hkk : ∀ t', Gx t t' a f 1 → Ob t' t.1 kk n → (∀ j, tP t' t.1 j = none) → P (k t')) : P (xlet (tNew t kk n) (fun t4 => if tK t4 a = 11 then xlet (tSP t4 a f (some t.1)) k else none)) := by
  refine arrG P kk n f h hk k (fun t' w => ?_)
  obtain ⟨w1, w2, w3, w4, w5, w6, w7, w8, w9⟩ := w
  have na : a ≠ t.1 := by omega
  refine hkk t' ⟨w1, fun q hq hn => ?_, (w2 a na).1, fun hz j => ?_, ?_⟩ ⟨w3, w4, w5⟩ w6
  · obtain ⟨v1, v2, v3⟩ := w2 q (by omega)
    exact ⟨v1, v2, v3, w7 q (by omega) hn⟩
  · rw [(w2 a na).2.2]; exact hz j
  · funext j
    by_cases c : j = f
    · subst c; rw [w8, va_up_self]
    · rw [w9 j c, va_up_ne _ _ c]
/-- what a road holds when it is made -/
def RoF (t : xT) (r : Nat) : Prop := Rd0 t r ∧ tP t r 3 = some (r + 2) ∧ (tI t r 1 = 0 ∧ tI t r 2 = 0 ∧ tI t r 7 = 0 ∧ tI t r 10 = 0) ∧ (∀ x, 11 ≤ x → x ≤ 15 → ∀ j, tI t (r + x) j = 0) ∧ tK t (r + 2) = 2 ∧ tI t (r + 2) 0 = 0 ∧ ∀ j, 1 ≤ j → j ≤ 8 → tP t (r + 2) j = some (r + 2 + j) ∧ ArO t (r + 2 + j) (if j ≤ 5 then 8 else 100)
theorem ArO.sm {t t' : xT} {q n : Nat} (h : ArO t q n) (s : Sm t t' q) : ArO t' q n := ⟨s.1.trans h.1, s.2.1.trans h.2⟩
theorem RoF.sm {t t' : xT} {r : Nat} (h : RoF t r) (s : ∀ q, r ≤ q → q < r + 16 → Sm t t' q) : RoF t' r := by
  obtain ⟨⟨k, p0, p4, p5, p6, p8, p9, ⟨k1, n1⟩, b11, b12, b13, b14, b15⟩, p3, ⟨i1, i2, i7, i10⟩, z, k2, z2, w⟩ := h
  obtain ⟨sk, sn, si, sp⟩ := s r (Nat.le_refl _) (by omega)
  have s1 := s (r + 1) (by omega) (by omega)
  have s2 := s (r + 2) (by omega) (by omega)
  refine ⟨⟨sk.trans k, ?_, ?_, ?_, ?_, ?_, ?_, ⟨s1.1.trans k1, s1.2.1.trans n1⟩, b11.sm (s _ (by omega) (by omega)), b12.sm (s _ (by omega) (by omega)), b13.sm (s _ (by omega) (by omega)), b14.sm (s _ (by omega) (by omega)), b15.sm (s _ (by omega) (by omega))⟩, ?_, ⟨?_, ?_, ?_, ?_⟩, fun x x1 x2 j => ?_, s2.1.trans k2, ?_, fun j j1 j2 => ?_⟩
  · rw [sp]; exact p0
  · rw [sp]; exact p4
  · rw [sp]; exact p5
  · rw [sp]; exact p6
  · rw [sp]; exact p8
  · rw [sp]; exact p9
  · rw [sp]; exact p3
  · rw [si]; exact i1
  · rw [si]; exact i2
  · rw [si]; exact i7
  · rw [si]; exact i10
  · rw [(s (r + x) (by omega) (by omega)).2.2.1]; exact z x x1 x2 j
  · rw [s2.2.2.1]; exact z2
  · obtain ⟨w1, w2⟩ := w j j1 j2
    refine ⟨?_, w2.sm (s _ (by omega) (by omega))⟩
    rw [s2.2.2.2]; exact w1
theorem gRoad {t : xT} (P : Option xT → Prop) {a : Nat} (f : Nat) (h : a < t.1) (hk : tK t a = 11) (k : xT → Option xT) (hkk : ∀ t', Gx t t' a f 16 → RoF t' t.1 → P (k t')) : P (xlet (tNew t 7 0) (fun t1 => (F_X7_init t1 t.1).bind (fun r3 => if tK r3 a = 11 then xlet (tSP r3 a f (some t.1)) k else none))) := by
  have na : a ≠ t.1 := by omega
  obtain ⟨t', e, r1, r2, r3⟩ := c_road0 (t := tNew t 7 0) (r := t.1) rfl (tK_N t 7 0)
  obtain ⟨a1, a2, a3, a4⟩ := r2 a h
  have ka : tK t' a = 11 := a1.trans ((tK_Nn t 7 0 na).trans hk)
  show P ((F_X7_init (tNew t 7 0) t.1).bind (fun r3 => if tK r3 a = 11 then xlet (tSP r3 a f (some t.1)) k else none))
  rw [e]
  show P (if tK t' a = 11 then k (tSP t' a f (some t.1)) else none)
  rw [if_pos ka]
  have r3' : RoF t' t.1 := r3
  refine hkk _ ⟨r1, fun q hq hn => ?_, ka.trans hk.symm, fun hz j => ?_, ?_⟩ (r3'.sm (fun q h1 h2 => Sm.SP f _ (by omega)))
  · obtain ⟨b1, b2, b3, b4⟩ := r2 q hq
    have nq : q ≠ t.1 := by omega
    exact (show Sm t t' q from ⟨b1.trans (tK_Nn t 7 0 nq), b2.trans (tN_Nn t 7 0 nq), b3.trans (tI_Nn t 7 0 nq), b4.trans (tP_Nn t 7 0 nq)⟩).tr (Sm.SP f _ hn)
  · show tI t' a j = 0
    rw [a3, tI_Nn t 7 0 na]; exact hz j
  · rw [tP_SP, a4, tP_Nn t 7 0 na]
theorem gTrace {t : xT} (P : Option xT → Prop) {a : Nat} (f : Nat) (h : a < t.1) (hk : tK t a = 11) (k : xT → Option xT) (hkk : ∀ t', Gx t t' a f 2 → (tK t' t.1 = 10 ∧ tP t' t.1 0 = some (t.1 + 1)) → tI t' t.1 1 = 0 → Ob t' (t.1 + 1) 20 30 → P (k t')) : P (xlet (tNew t 10 0) (fun t1 => (F_X10_init t1 t.1).bind (fun r3 => if tK r3 a = 11 then xlet (tSP r3 a f (some t.1)) k else none))) := by
  have na : a ≠ t.1 := by omega
  obtain ⟨t4, w, e⟩ := c_trace0 (t := tNew t 10 0) (r := t.1) (Nat.lt_succ_self _) (tK_N t 10 0)
  have e1 : (tNew t 10 0).1 = t.1 + 1 := rfl
  obtain ⟨w1, w2, w3, w4, w5, w6, w7, w8, w9⟩ := w
  rw [e1] at w1 w2 w3 w4 w5 w6 w7 w8
  have ka : tK t4 a = 11 := (w2 a (by omega)).1.trans ((tK_Nn t 10 0 na).trans hk)
  show P ((F_X10_init (tNew t 10 0) t.1).bind (fun r3 => if tK r3 a = 11 then xlet (tSP r3 a f (some t.1)) k else none))
  rw [e]
  show P (if tK t4 a = 11 then k (tSP (tSI (tSI t4 t.1 1 0) t.1 2 0) a f (some t.1)) else none)
  rw [if_pos ka]
  refine hkk _ ⟨w1, fun q hq hn => ?_, ka.trans hk.symm, fun hz j => ?_, ?_⟩ ⟨?_, ?_⟩ ?_ ⟨w3, w4, fun j => ?_⟩
  · obtain ⟨b1, b2, b3⟩ := w2 q (by omega)
    have b4 := w7 q (by omega) (by omega)
    have nq : q ≠ t.1 := by omega
    have s1 : Sm t t4 q := ⟨b1.trans (tK_Nn t 10 0 nq), b2.trans (tN_Nn t 10 0 nq), b3.trans (tI_Nn t 10 0 nq), b4.trans (tP_Nn t 10 0 nq)⟩
    exact ((s1.tr (Sm.SI 1 0 nq)).tr (Sm.SI 2 0 nq)).tr (Sm.SP f _ hn)
  · show tI (tSI (tSI t4 t.1 1 0) t.1 2 0) a j = 0
    rw [tI_SIn _ _ _ _ na, tI_SIn _ _ _ _ na, (w2 a (by omega)).2.2, tI_Nn t 10 0 na]; exact hz j
  · rw [tP_SP]
    show va_up (tP t4 a) f (some t.1) = _
    rw [w7 a (by omega) na, tP_Nn t 10 0 na]
  · show tK t4 t.1 = 10
    rw [(w2 t.1 (by omega)).1]; exact tK_N t 10 0
  · rw [tP_SPn _ _ _ _ (show t.1 ≠ a by omega)]; exact w8
  · show tI (tSI (tSI t4 t.1 1 0) t.1 2 0) t.1 1 = 0
    rw [tI_SI, upd_n _ _ (by decide), tI_SI, upd_s]
  · show tI (tSI (tSI t4 t.1 1 0) t.1 2 0) (t.1 + 1) j = 0
    rw [tI_SIn _ _ _ _ (by omega), tI_SIn _ _ _ _ (by omega)]; exact w5 j
theorem gFour {t : xT} (P : Option xT → Prop) {a : Nat} (f : Nat) (h : a < t.1) (hk : tK t a = 11) (k : xT → Option xT) (hkk : ∀ t', Gx t t' a f 1 → ArO t' t.1 4 → (∀ j, j < 4 → tI t' t.1 j = -1) → P (k t')) : P (xlet (tNew t 20 4) (fun t41 => if xIn (0 : Int32) (tN t41 t.1) then xlet (tSI t41 t.1 (0 : Int32).toNatClampNeg (-1 : Int32)) (fun t44 => if xIn (1 : Int32) (tN t44 t.1) then xlet (tSI t44 t.1 (1 : Int32).toNatClampNeg (-1 : Int32)) (fun t47 => if xIn (2 : Int32) (tN t47 t.1) then xlet (tSI t47 t.1 (2 : Int32).toNatClampNeg (-1 : Int32)) (fun t50 => if xIn (3 : Int32) (tN t50 t.1) then xlet (tSI t50 t.1 (3 : Int32).toNatClampNeg (-1 : Int32)) (fun t53 => if tK t53 a = 11 then xlet (tSP t53 a f (some t.1)) k else none) else none) else none) else none) else none)) := by
  have na : a ≠ t.1 := by omega
  have n4 : tN (tNew t 20 4) t.1 = 4 := tN_N t 20 4
  have ka : tK (tNew t 20 4) a = 11 := (tK_Nn t 20 4 na).trans hk
  show P (if xIn (0 : Int32) (tN (tNew t 20 4) t.1) then (if xIn (1 : Int32) (tN (tNew t 20 4) t.1) then (if xIn (2 : Int32) (tN (tNew t 20 4) t.1) then (if xIn (3 : Int32) (tN (tNew t 20 4) t.1) then (if tK (tNew t 20 4) a = 11 then k (tSP (tSI (tSI (tSI (tSI (tNew t 20 4) t.1 0 (-1)) t.1 1 (-1)) t.1 2 (-1)) t.1 3 (-1)) a f (some t.1)) else none) else none) else none) else none) else none)
  rw [n4, if_pos (by decide), if_pos (by decide), if_pos (by decide), if_pos (by decide), if_pos ka]
  refine hkk _ ⟨rfl, fun q hq hn => ?_, ka.trans hk.symm, fun hz j => ?_, ?_⟩ ⟨tK_N t 20 4, n4⟩ (fun j hj => ?_)
  · have nq : q ≠ t.1 := by omega
    exact (((((Sm.N 20 4 nq).tr (Sm.SI 0 (-1) nq)).tr (Sm.SI 1 (-1) nq)).tr (Sm.SI 2 (-1) nq)).tr (Sm.SI 3 (-1) nq)).tr (Sm.SP f _ hn)
  · show tI (tSI (tSI (tSI (tSI (tNew t 20 4) t.1 0 (-1)) t.1 1 (-1)) t.1 2 (-1)) t.1 3 (-1)) a j = 0
    rw [tI_SIn _ _ _ _ na, tI_SIn _ _ _ _ na, tI_SIn _ _ _ _ na, tI_SIn _ _ _ _ na, tI_Nn t 20 4 na]; exact hz j
  · rw [tP_SP]
    show va_up (tP (tNew t 20 4) a) f (some t.1) = _
    rw [tP_Nn t 20 4 na]
  · show tI (tSI (tSI (tSI (tSI (tNew t 20 4) t.1 0 (-1)) t.1 1 (-1)) t.1 2 (-1)) t.1 3 (-1)) t.1 j = -1
    rw [tI_SI, tI_SI, tI_SI, tI_SI, upd2, upd2, upd2, upd2]
    by_cases c3 : j = 3
    · rw [if_pos c3]
    · rw [if_neg c3]
      by_cases c2 : j = 2
      · rw [if_pos c2]
      · rw [if_neg c2]
        by_cases c1 : j = 1
        · rw [if_pos c1]
        · rw [if_neg c1, if_pos (by omega)]
/-- what lies below the next address, and isn't a, stays -/
def Kx (t t' : xT) (a : Nat) : Prop := t.1 ≤ t'.1 ∧ ∀ q, q < t.1 → q ≠ a → Sm t t' q
theorem Gx.kx {t t' : xT} {a f m : Nat} (h : Gx t t' a f m) : Kx t t' a := ⟨by have := h.1; omega, h.2.1⟩
theorem Kx.tr {t t' t'' : xT} {a : Nat} (h : Kx t t' a) (h' : Kx t' t'' a) : Kx t t'' a := ⟨Nat.le_trans h.1 h'.1, fun q hq hn => (h.2 q hq hn).tr (h'.2 q (Nat.lt_of_lt_of_le hq h.1) hn)⟩
