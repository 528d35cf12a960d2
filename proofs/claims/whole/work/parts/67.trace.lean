/-! ===== pure mathematics 46: a new trace ===== -/
theorem c_trace0 {t : xT} {r : Nat} (h : r < t.1) (hk : tK t r = 10) : ∃ t4, Nw t t4 r 20 30 0 ∧ F_X10_init t r = some (tSI (tSI t4 r 1 0) r 2 0) := by
  have w := Nw.mk (t := t) (r := r) 20 30 0 h
  refine ⟨_, w, ?_⟩
  have e2 : tK (tNew t 20 30) r = 10 := (tK_Nn t 20 30 (show r ≠ t.1 by omega)).trans hk
  unfold F_X10_init
  simp only [xlet]
  rw [if_pos e2]
