/-! ===== pure mathematics 42: the first states ===== -/
def mFst : xS := mA (mA (mA (mA mZ 25 0 (-1)) 25 1 (-1)) 25 2 (-1)) 25 3 (-1)
theorem r_init : F_X12_init_l154 xFuel mZ (0 : Int32) = some mFst := by
  have st : ∀ k (u : xS) (y : Nat), y < 4 → F_X12_init_l154 (k + 1) u (nI y) = F_X12_init_l154 k (mA u 25 y (-1)) (nI (y + 1)) := fun k u y hy => by
    conv => lhs; unfold F_X12_init_l154
    simp only [xlet]
    rw [if_neg (show ¬ (4 : Int32) ≤ nI y from nI_ge (b := 4) hy (by decide)), if_pos (n_xIn hy (by decide)), n_cl (by omega), nI_1]
  have en : ∀ k (u : xS), F_X12_init_l154 (k + 1) u (nI 4) = some u := fun k u => by
    unfold F_X12_init_l154
    rw [if_pos (by decide)]
  have h := st 999999 mZ 0 (by decide)
  rw [st 999998 _ 1 (by decide), st 999997 _ 2 (by decide), st 999996 _ 3 (by decide), en 999995] at h
  exact h
theorem mFst_n {j : Nat} (h : j ≠ 25) : mFst.2.1 j = fun _ => 0 := by
  unfold mFst
  rw [mA_0 _ _ _ h, mA_0 _ _ _ h, mA_0 _ _ _ h, mA_0 _ _ _ h]
  rfl
theorem mFst_25 {j : Nat} (h : j < 4) : mFst.2.1 25 j = -1 := by
  unfold mFst
  rw [mA_s, upd2, mA_s, upd2, mA_s, upd2, mA_s, upd2]
  by_cases c3 : j = 3
  · rw [if_pos c3]
  · rw [if_neg c3]
    by_cases c2 : j = 2
    · rw [if_pos c2]
    · rw [if_neg c2]
      by_cases c1 : j = 1
      · rw [if_pos c1]
      · rw [if_neg c1, if_pos (by omega)]
theorem mFst_1 (j : Nat) : mFst.1 j = 0 := rfl
/-- the class's first state -/
def Fst (t : xT) (a : Nat) : Prop := SkC t a ∧ tI t a 2 = 0 ∧ tI t a 4 = 0 ∧ tI t a 6 = 0 ∧ (tI t (a + 1) 1 = 0 ∧ tI t (a + 1) 2 = 0 ∧ tI t (a + 1) 7 = 0 ∧ tI t (a + 1) 10 = 0) ∧ (∀ x, 12 ≤ x → x ≤ 16 → ∀ j, tI t (a + x) j = 0) ∧ tP t (a + 1) 3 = some (a + 3) ∧ LwO t a (a + 3) ∧ tI t (a + 3) 0 = 0 ∧ (∀ j, tI t (a + 33) j = 0) ∧ (∀ j, tI t (a + 34) j = 0) ∧ (∀ j, tP t (a + 35) j = none) ∧ (∀ j, j < 4 → tI t (a + 36) j = -1) ∧ (∀ j, tP t (a + 37) j = none) ∧ tI t (a + 38) 1 = 0 ∧ ∀ j, tI t (a + 39) j = 0
theorem RR_first {t : xT} {a : Nat} (h : Fst t a) : RR t a mFst := by
  obtain ⟨hS, h2, h4, h6, ⟨r1, r2, r7, r10⟩, rz, p3, hL, l0, z33, z34, z35, z36, z37, z38, z39⟩ := h
  have s0 : mFst.2.1 0 = fun _ => 0 := mFst_n (by decide)
  refine ⟨fun _ => 0, fun _ => 0, a + 3, a + 3, fun _ => [], fun _ => [], hS, ?_, h2, fun h => absurd rfl h, ?_, ?_, ?_, ?_, ?_⟩
  · rw [s0]
    refine ⟨?_, ?_, ⟨p3, hL, l0, fun _ => 0, fun _ => 0, rfl, rfl, fun i hi => absurd hi (Nat.not_lt_zero _)⟩, fun k hk => absurd hk (Nat.not_lt_zero _), fun k hk => absurd hk (Nat.not_lt_zero _)⟩
    · exact ⟨⟨by decide, by decide⟩, ⟨by decide, by decide⟩, ⟨by decide, by decide⟩, ⟨by decide, by decide⟩, ⟨by decide, by decide⟩, fun k hk => absurd hk (Nat.not_lt_zero _), fun k hk => absurd hk (Nat.not_lt_zero _)⟩
    · exact ⟨r1, r2, r7, r10, fun p _ => ⟨rz 12 (by omega) (by omega) p, rz 13 (by omega) (by omega) p, rz 14 (by omega) (by omega) p⟩, fun j _ => ⟨rz 15 (by omega) (by omega) j, rz 16 (by omega) (by omega) j⟩⟩
  · unfold TpC
    rw [mFst_n (by decide)]
    exact ⟨fun i _ => z33 i, h4, 0, Nat.zero_le _, rfl⟩
  · unfold RwC
    rw [mFst_n (by decide)]
    exact ⟨fun i _ => z34 i, h6, 0, Nat.zero_le _, rfl⟩
  · refine ⟨fun j hj => Or.inl ⟨z35 j, mFst_25 hj⟩, fun i j r _ _ _ e => ?_⟩
    rw [z35] at e; cases e
  · intro j hj
    unfold SfO
    rw [mFst_n (by decide)]
    exact Or.inr (Or.inl ⟨rfl, z36 j hj, z37 j⟩)
  · unfold TrC
    rw [mFst_n (by decide)]
    exact ⟨fun i _ => z39 i, z38, 0, Nat.zero_le _, rfl⟩
/-- a farther next address -/
theorem RR.far {t : xT} {a m : Nat} {u : xS} (h : RR t a u) (hm : t.1 ≤ m) : RR (m, t.2) a u := by
  have o : Ol t (m, t.2) (fun _ => False) (fun _ => False) := ⟨hm, fun _ _ => ⟨rfl, rfl⟩, fun _ _ _ => rfl, fun _ _ _ => rfl⟩
  exact h.scratch (o.w (fun _ _ h => h.elim) (fun _ _ h => h))
