/-! ===== pure mathematics 44: a new road ===== -/
/-- objects above r so far: m of them, all ints zero -/
def Bo (t0 t : xT) (r m : Nat) : Prop := t.1 = r + 1 + m ∧ (∀ q, q < r → tK t q = tK t0 q ∧ tN t q = tN t0 q ∧ tI t q = tI t0 q ∧ tP t q = tP t0 q) ∧ tK t r = tK t0 r
theorem Bo.nw {t0 t t' : xT} {r m kk n f : Nat} (h : Bo t0 t r m) (w : Nw t t' r kk n f) : Bo t0 t' r (m + 1) := by
  obtain ⟨h1, h2, h3⟩ := h
  obtain ⟨w1, w2, -, -, -, -, w7, -, -⟩ := w
  refine ⟨by omega, fun q hq => ?_, ((w2 r (by omega)).1).trans h3⟩
  obtain ⟨g1, g2, g3, g4⟩ := h2 q hq
  obtain ⟨v1, v2, v3⟩ := w2 q (by omega)
  exact ⟨v1.trans g1, v2.trans g2, v3.trans g3, (w7 q (by omega) (by omega)).trans g4⟩
theorem Bo.si {t0 t : xT} {r m : Nat} (h : Bo t0 t r m) (j : Nat) (v : Int32) : Bo t0 (tSI t r j v) r m := by
  obtain ⟨h1, h2, h3⟩ := h
  refine ⟨h1, fun q hq => ?_, h3⟩
  obtain ⟨g1, g2, g3, g4⟩ := h2 q hq
  exact ⟨g1, g2, (tI_SIn _ _ _ _ (by omega)).trans g3, g4⟩
