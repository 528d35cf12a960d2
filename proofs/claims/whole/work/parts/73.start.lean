/-! ===== the law, from its entry ===== -/
def tZ (a : Nat) : xT := (a, fun _ => 0, fun _ => 0, fun _ _ => 0, fun _ _ => none)
theorem tE_Z (G : xG) (a : Nat) : tE G (tZ a) = fun _ => none := by
  funext q
  unfold tE
  rfl
theorem tE_far (G : xG) (t : xT) (m : Nat) : tE G (m, t.2) = tE G t := by
  funext q
  exact tE_congr rfl rfl rfl rfl
theorem mPW_new (G : xG) (b : Nat) : va_up (fun _ => (none : Option va_E)) b (some (.inr (11, mPF b 0))) = mPW G b 0 := by
  funext q
  unfold mPW
  by_cases h : q = b
  · subst h; rw [va_up_self, if_pos rfl]
  · rw [va_up_ne _ _ h, if_neg h, if_neg (by omega)]
theorem ki_L_9 : xLI RL 9 yX11_init cX11_init 1 0 := ⟨⟨kw1_24, kw1_1, kw1_25⟩, Or.inl kw1_23, rfl, by decide, by decide, by decide +kernel⟩
theorem ki_L_12 : xLI RL 12 yX12_init cX12_init 2 0 := ⟨⟨kw5_170, kw1_5, kw5_171⟩, Or.inl kw5_169, rfl, by decide, by decide, by decide +kernel⟩
theorem w_fs11 : ∀ j, j < 14 → defaultValue (tyX11 j) = vp_V ([.null, .null, .int 0, .null, .int 0, .null, .int 0, .null, .null, .null, .null, .null, .null, .null] : List Value) j := (fun j hj => by rcases (show j = 0 ∨ j = 1 ∨ j = 2 ∨ j = 3 ∨ j = 4 ∨ j = 5 ∨ j = 6 ∨ j = 7 ∨ j = 8 ∨ j = 9 ∨ j = 10 ∨ j = 11 ∨ j = 12 ∨ j = 13 by omega) with rfl | rfl | rfl | rfl | rfl | rfl | rfl | rfl | rfl | rfl | rfl | rfl | rfl | rfl <;> rfl)
theorem w_fs12 (b : Nat) : ∀ j, j < 37 → defaultValue (tyX12 j) = vp_V (mPF b 0) j := (fun j hj => by rcases (show j = 0 ∨ j = 1 ∨ j = 2 ∨ j = 3 ∨ j = 4 ∨ j = 5 ∨ j = 6 ∨ j = 7 ∨ j = 8 ∨ j = 9 ∨ j = 10 ∨ j = 11 ∨ j = 12 ∨ j = 13 ∨ j = 14 ∨ j = 15 ∨ j = 16 ∨ j = 17 ∨ j = 18 ∨ j = 19 ∨ j = 20 ∨ j = 21 ∨ j = 22 ∨ j = 23 ∨ j = 24 ∨ j = 25 ∨ j = 26 ∨ j = 27 ∨ j = 28 ∨ j = 29 ∨ j = 30 ∨ j = 31 ∨ j = 32 ∨ j = 33 ∨ j = 34 ∨ j = 35 ∨ j = 36 by omega) with rfl | rfl | rfl | rfl | rfl | rfl | rfl | rfl | rfl | rfl | rfl | rfl | rfl | rfl | rfl | rfl | rfl | rfl | rfl | rfl | rfl | rfl | rfl | rfl | rfl | rfl | rfl | rfl | rfl | rfl | rfl | rfl | rfl | rfl | rfl | rfl | rfl <;> rfl)
set_option maxHeartbeats 4000000 in
set_option maxRecDepth 100000 in
/-- THE LAW, from its entry -/
theorem whole_start {p : Program} {e : Env} {s : State} {m : MethodId} {below : List Frame} {meth : Method} {c : Code} (l : Launch) (hflags : l.flags = flags0) {b L : Nat} {xs : Nat → Int32} (hL : L ≤ 320) (C0 : lw_At p s m meth c b L xs) : W p l e room_1 s m #[Value.ref b] below meth c s.heap [] 0 0 (lw_Z below #[Value.ref b] s) (entryFrame m ([Value.ref b] : List Value).toArray 4) := by
  obtain ⟨hx, hb, hr, hml, hown, hts, hX, hbl, hlocks, hgv⟩ := id C0
  obtain ⟨G, hK, hG⟩ := w_start hts hgv
  have hE : xE p s m #[Value.ref b] meth c cL_law RL G 4 ret := ⟨hx, hb, hown, fun w h => hts w (x_tbl h), hK, hlocks, hml, hr⟩
  have hbA : ¬ (fun q : Nat => s.heap.size ≤ q) b := Nat.not_le.mpr hbl
  have hl := lv_entry ([.ref b]) (n := 4) (Nat.le_of_ble_eq_true rfl)
  rw [lg_entry_eq]
  generalize (lg_sl ([.ref b]) ++ List.replicate (4 - (lg_sl ([.ref b])).length) Slot.unset).toArray = ls at hl ⊢
  have hl : lv_has ls 4 [(0, .ref b)] := hl
  obtain ⟨a, ha⟩ : ∃ a : Nat, a = s.heap.size := ⟨_, rfl⟩
  have hD : xD G (fun q : Nat => s.heap.size ≤ q) s.heap (fun _ => none) a s.heap [] := ⟨⟨(fun q e h => by cases h), (fun q _ => by rw [hG]), by show (xHz G).size ≤ _; rw [hG]; exact Nat.le_refl _⟩, fun q h => absurd rfl h, va_S.rf, fun q h => h, ha.symm⟩
  refine x_new (ci := 10) hE hD tyX11 tyX11_ok inX11u kw1_21 kw1_22 kw1_1 rfl (fs := [.null, .null, .int 0, .null, .int 0, .null, .int 0, .null, .null, .null, .null, .null, .null, .null]) w_fs11 (Nat.le_of_ble_eq_true rfl) (Nat.le_of_ble_eq_true rfl) dL_law_0 (fun H1 hD => ?_)
  have hD : xD G (fun q : Nat => s.heap.size ≤ q) s.heap (tE G (tNew (tZ a) 11 0)) (a + 1) H1 [] := by
    have e : va_up (tE G (tZ a)) a (some (.inr (10, [.null, .null, .int 0, .null, .int 0, .null, .int 0, .null, .null, .null, .null, .null, .null, .null]))) = tE G (tNew (tZ a) 11 0) := tE_upN (t := tZ a) (k := 11) (n := 0) (e := .inr (10, [.null, .null, .int 0, .null, .int 0, .null, .int 0, .null, .null, .null, .null, .null, .null, .null])) (by rw [tE_11 (tK_N (tZ a) 11 0), tI_N, tP_N]; try rfl)
    rw [← e, tE_Z]
    exact hD
  have hz : ∀ j, tI (tNew (tZ a) 11 0) a j = 0 := fun j => congrFun (tI_N (tZ a) 11 0) j
  obtain ⟨t1, hF, e43, hFst⟩ := c_first (t := tNew (tZ a) 11 0) (a := a) rfl (tK_N (tZ a) 11 0) hz
  refine lv_dup hx hb dL_law_3 rfl ?_
  refine kIvA (As := []) (rest := [.ref a]) hE hl hD (c_X11_init hF) ki_L_9 rfl rfl (Nat.le_of_ble_eq_true rfl) dL_law_4 ⟨Nat.le_of_ble_eq_true rfl, Nat.le_of_ble_eq_true rfl⟩ ⟨Nat.le_of_ble_eq_true rfl, Nat.le_of_ble_eq_true rfl⟩ (fun H2 locs2 hD => ?_)
  have hD : xD G (fun q : Nat => s.heap.size ≤ q) s.heap (tE G t1) t1.1 H2 locs2 := hD
  refine lv_astore_n (lv' := [(1, .ref a), (0, .ref b)]) hx hb dL_law_7 rfl hl (by decide) rfl (fun ls hl => ?_)
  have hE0 : xD G (fun q : Nat => s.heap.size ≤ q) s.heap (fun _ => none) t1.1 H2 locs2 := ⟨⟨(fun q e h => by cases h), hD.1.2.1, hD.1.2.2⟩, fun q h => absurd rfl h, hD.2.2.1, hD.2.2.2.1, hD.2.2.2.2⟩
  have hdj : ∀ q, mPW G t1.1 0 q = none ∨ tE G t1 q = none := fun q => by
    by_cases h : q = t1.1
    · right
      cases hq : tE G t1 q with
      | none => rfl
      | some x => exact absurd ((hD.1.1 q x hq).2.lt) (by rw [h, hD.2.2.2.2]; exact Nat.lt_irrefl _)
    · left
      unfold mPW
      rw [if_neg h, if_neg (by omega)]
  refine x_newF (ci := 11) hE hE0 hD tyX12 tyX12_ok inX12u kw5_167 kw5_168 kw1_5 rfl (fs := mPF t1.1 0) (w_fs12 t1.1) (Nat.le_of_ble_eq_true rfl) (Nat.le_of_ble_eq_true rfl) dL_law_8 (fun H3 hM hD => ?_)
  rw [mPW_new] at hM
  refine lv_dup hx hb dL_law_11 rfl ?_
  refine kFIv (As := []) (rest := [.ref t1.1]) hE hl hM hD hdj (c_X12_init r_init) ki_L_12 rfl rfl (Nat.le_of_ble_eq_true rfl) dL_law_12 ⟨Nat.le_of_ble_eq_true rfl, Nat.le_of_ble_eq_true rfl⟩ ⟨Nat.le_of_ble_eq_true rfl, Nat.le_of_ble_eq_true rfl⟩ (fun H4 locs4 hM hD hdj => ?_)
  refine lv_astore_n (lv' := [(2, .ref t1.1), (1, .ref a), (0, .ref b)]) hx hb dL_law_15 rfl hl (by decide) rfl (fun ls hl => ?_)
  refine lv_iconst (v := (0 : Int32)) hx hb dL_law_16 (by decide) ?_
  refine lv_istore_n (lv' := [(3, .int 0), (2, .ref t1.1), (1, .ref a), (0, .ref b)]) hx hb dL_law_17 rfl hl (by decide) rfl (fun ls hl => ?_)
  have hl : lv_has ls 4 [(3, .int (nI 0)), (2, .ref t1.1), (1, .ref a), (0, .ref b)] := by rw [nI_0]; exact hl
  have hRR : RR (t1.1 + 19, t1.2) a mFst := (RR_first hFst).far (Nat.le_add_right _ _)
  have hD : xD G (fun q : Nat => s.heap.size ≤ q) s.heap (tE G (t1.1 + 19, t1.2)) (t1.1 + 19) H4 locs4 := by rw [tE_far]; exact hD
  have hM : xD G (fun q : Nat => s.heap.size ≤ q) s.heap (mW G t1.1 mFst) (t1.1 + 19) H4 locs4 := hM
  have hdj : ∀ q, tE G (t1.1 + 19, t1.2) q = none ∨ mW G t1.1 mFst q = none := fun q => by
    rw [tE_far]
    exact (hdj q).symm
  exact w_loop hE hX hbl hbA (fun _ => Iff.rfl) hL rfl (L + 1) 0 (t1.1 + 19, t1.2) mFst H4 locs4 ls _ _ (by omega) (Nat.zero_le _) (Nat.le_of_ble_eq_true rfl) (Nat.le_of_ble_eq_true rfl) hD hM hdj hRR (lv_sub hl [3, 2, 1, 0] rfl)
