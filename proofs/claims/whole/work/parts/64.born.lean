/-! ===== pure mathematics 43: what the class's constructor makes ===== -/
/-- a new object hung into a field -/
def Nw (t t' : xT) (r kk n f : Nat) : Prop := t'.1 = t.1 + 1 ∧ (∀ q, q ≠ t.1 → tK t' q = tK t q ∧ tN t' q = tN t q ∧ tI t' q = tI t q) ∧ tK t' t.1 = kk ∧ tN t' t.1 = n ∧ (∀ j, tI t' t.1 j = 0) ∧ (∀ j, tP t' t.1 j = none) ∧ (∀ q, q ≠ t.1 → q ≠ r → tP t' q = tP t q) ∧ tP t' r f = some t.1 ∧ ∀ j, j ≠ f → tP t' r j = tP t r j
theorem Nw.mk {t : xT} {r : Nat} (kk n f : Nat) (h : r < t.1) : Nw t (tSP (tNew t kk n) r f (some t.1)) r kk n f := by
  have nr : t.1 ≠ r := by omega
  have rn : r ≠ t.1 := by omega
  refine ⟨rfl, fun q hq => ⟨tK_Nn t kk n hq, tN_Nn t kk n hq, tI_Nn t kk n hq⟩, tK_N t kk n, tN_N t kk n, fun j => ?_, fun j => ?_, fun q h1 h2 => ?_, ?_, fun j hj => ?_⟩
  · show tI (tNew t kk n) t.1 j = 0
    rw [tI_N]
  · rw [tP_SPn _ _ _ _ nr, tP_N]
  · rw [tP_SPn _ _ _ _ h2, tP_Nn t kk n h1]
  · rw [tP_SP, va_up_self]
  · rw [tP_SP, va_up_ne _ _ hj, tP_Nn t kk n rn]
theorem arrG {t : xT} (P : Option xT → Prop) {r c : Nat} (kk n f : Nat) (h : r < t.1) (hk : tK t r = c) (k : xT → Option xT) (hkk : ∀ t', Nw t t' r kk n f → P (k t')) : P (xlet (tNew t kk n) (fun t4 => if tK t4 r = c then xlet (tSP t4 r f (some t.1)) k else none)) := by
  have rn : r ≠ t.1 := by omega
  have e2 : tK (tNew t kk n) r = c := (tK_Nn t kk n rn).trans hk
  show P (if tK (tNew t kk n) r = c then k (tSP (tNew t kk n) r f (some t.1)) else none)
  rw [if_pos e2]
  exact hkk _ (Nw.mk kk n f h)
/-- an int set -/
theorem setG {t : xT} (P : Option xT → Prop) (r f : Nat) (v : Int32) (k : xT → Option xT) (hkk : P (k (tSI t r f v))) : P (xlet (tSI t r f v) k) := hkk
