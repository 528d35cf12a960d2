/-! ===== pure mathematics 44: a new road ===== -/
/-- objects above r so far: m of them, all ints zero -/
def Bo (t0 t : xT) (r m : Nat) : Prop := t.1 = r + 1 + m ∧ (∀ q, q < r → tK t q = tK t0 q ∧ tN t q = tN t0 q ∧ tI t q = tI t0 q ∧ tP t q = tP t0 q) ∧ tK t r = tK t0 r
theorem Bo.nw {t0 t t' : xT} {r m kk n f : Nat} (h : Bo t0 t r m) (w : Nw t t' r kk n f) : Bo t0 t' r (m + 1) := by
  obtain ⟨h1, h2, h3⟩ := h
  obtain ⟨w1, w2, -, -, -, -, w7, -, -⟩ := w
  refine ⟨by omega, fun q hq => ?_, ((w2 r (by omega)).1).trans h3⟩
  obtain ⟨g1, g2, g3, g4⟩ := h2 q hq
  obtain ⟨v1, v2, v3⟩ := w2 q (by omega)
  exact ⟨v1.trans g1, v2.trans g2, v3.trans g3, (w7 q (by omega) (by omega)).trans g4⟩
theorem Bo.si {t0 t : xT} {r m : Nat} (h : Bo t0 t r m) (j : Nat) (v : Int32) : Bo t0 (tSI t r j v) r m := by
  obtain ⟨h1, h2, h3⟩ := h
  refine ⟨h1, fun q hq => ?_, h3⟩
  obtain ⟨g1, g2, g3, g4⟩ := h2 q hq
  exact ⟨g1, g2, (tI_SIn _ _ _ _ (by omega)).trans g3, g4⟩
/-- an object as it was made -/
def Ob (t : xT) (q kk n : Nat) : Prop := tK t q = kk ∧ tN t q = n ∧ ∀ j, tI t q j = 0
theorem Ob.nw {t t' : xT} {r kk n f q k l : Nat} (h : Ob t q k l) (w : Nw t t' r kk n f) (hq : q ≠ t.1) : Ob t' q k l := by
  obtain ⟨h1, h2, h3⟩ := h
  obtain ⟨v1, v2, v3⟩ := w.2.1 q hq
  exact ⟨v1.trans h1, v2.trans h2, fun j => by rw [v3]; exact h3 j⟩
theorem Ob.si {t : xT} {q k l r j : Nat} {v : Int32} (h : Ob t q k l) (hq : q ≠ r) : Ob (tSI t r j v) q k l := ⟨h.1, h.2.1, fun i => by rw [tI_SIn _ _ _ _ hq]; exact h.2.2 i⟩
theorem Ob.new {t t' : xT} {r kk n f : Nat} (w : Nw t t' r kk n f) : Ob t' t.1 kk n := ⟨w.2.2.1, w.2.2.2.1, w.2.2.2.2.1⟩
theorem Nw.p {t t' : xT} {r kk n f j : Nat} {v : Option Nat} (w : Nw t t' r kk n f) (h : tP t r j = v) (hj : j ≠ f) : tP t' r j = v := (w.2.2.2.2.2.2.2.2 j hj).trans h
theorem Nw.f {t t' : xT} {r kk n f m : Nat} (w : Nw t t' r kk n f) (h : t.1 = m) : tP t' r f = some m := by rw [← h]; exact w.2.2.2.2.2.2.2.1
theorem Nw.i {t t' : xT} {r kk n f j : Nat} {v : Int32} (w : Nw t t' r kk n f) (hr : r ≠ t.1) (h : tI t r j = v) : tI t' r j = v := by rw [(w.2.1 r hr).2.2]; exact h
