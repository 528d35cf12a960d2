/-! ===== the class: walks 1 (printed by wip/whole/gen) ===== -/
def F_X0_init (u : xT) (a0 : Nat) (xa : Int32) (xb : Int32) (xc : Int32) (xd : Int32) (xe : Int32) : Option (xT) := if isBk (tK u a0) then xlet (tSI u a0 0 xa) (fun t2 => xlet (tSI t2 a0 1 xb) (fun t4 => xlet (tSI t4 a0 2 xc) (fun t6 => xlet (tSI t6 a0 3 xd) (fun t8 => xlet (tSI t8 a0 4 xe) (fun t10 => some t10))))) else none
theorem c_X0_init {l : Launch} {G : xG} {rr : (xT)} {u : xT} {a0 : Nat} {xa : Int32} {xb : Int32} {xc : Int32} {xd : Int32} {xe : Int32} (hF : F_X0_init u a0 xa xb xc xd xe = some rr) : xMv l G yX0_init cX0_init 6 (Option.none : Option Jvm.ClassFile.FieldType) 2 0 0 [.ref a0, .int xa, .int xb, .int xc, .int xd, .int xe] (tE G u) u.1 (fun z => z = ((tE G rr), rr.1)) := by
  unfold F_X0_init at hF
  refine x_startV rfl (Nat.le_of_ble_eq_true rfl) (fun p e s m args below meth cd ls hE hnm hl hD => ?_)
  have hx := hE.1; have hb := hE.2.1
  have hl : lv_has ls 6 [(0, .ref a0), (1, .int xa), (2, .int xb), (3, .int xc), (4, .int xd), (5, .int xe)] := hl
  have hD : tD G (xA (tE G u) s.heap.size) s.heap u s.heap [] := hD
  refine lv_aload_n hx hb dX0_init_0 rfl (lv_at hl 0 rfl) ?_
  refine x_objI (rest := []) hE hl kw1_217 (Nat.le_of_ble_eq_true rfl) (Nat.le_of_ble_eq_true rfl) dX0_init_1 ?_
  refine lv_aload_n hx hb dX0_init_4 rfl (lv_at hl 0 rfl) ?_
  refine lv_iload_n hx hb dX0_init_5 rfl (lv_at hl 1 rfl) ?_
  obtain ⟨h1, hF⟩ := ite_s hF
  refine pf_X0_9 hE hnm hD h1 dX0_init_6 (fun t2 H locs et2 hD => ?_)
  have hF := xlet_e hF et2
  have h3 : isBk (tK t2 a0) := by rw [et2]; exact h1
  refine lv_aload_n hx hb dX0_init_9 rfl (lv_at hl 0 rfl) ?_
  refine lv_iload_n hx hb dX0_init_10 rfl (lv_at hl 2 rfl) ?_
  refine pf_X0_15 hE hnm hD h3 dX0_init_11 (fun t4 H locs et4 hD => ?_)
  have hF := xlet_e hF et4
  have h5 : isBk (tK t4 a0) := by rw [et4]; exact h3
  refine lv_aload_n hx hb dX0_init_14 rfl (lv_at hl 0 rfl) ?_
  refine lv_iload_n hx hb dX0_init_15 rfl (lv_at hl 3 rfl) ?_
  refine pf_X0_18 hE hD h5 dX0_init_16 (fun t6 H locs et6 hD => ?_)
  have hF := xlet_e hF et6
  have h7 : isBk (tK t6 a0) := by rw [et6]; exact h5
  refine lv_aload_n hx hb dX0_init_19 rfl (lv_at hl 0 rfl) ?_
  refine lv_iload hx hb dX0_init_20 (lv_at hl 4 rfl) ?_
  refine pf_X0_21 hE hD h7 dX0_init_22 (fun t8 H locs et8 hD => ?_)
  have hF := xlet_e hF et8
  have h9 : isBk (tK t8 a0) := by rw [et8]; exact h7
  refine lv_aload_n hx hb dX0_init_25 rfl (lv_at hl 0 rfl) ?_
  refine lv_iload hx hb dX0_init_26 (lv_at hl 5 rfl) ?_
  refine pf_X0_24 hE hD h9 dX0_init_28 (fun t10 H locs et10 hD => ?_)
  have hF := xlet_e hF et10
  have h11 : isBk (tK t10 a0) := by rw [et10]; exact h9
  obtain rfl := Option.some.inj hF
  exact x_vret hE hD rfl (by omega) (by omega) dX0_init_31
theorem ki_X1_1 : xLI RX1 1 yX0_init cX0_init 6 5 := ⟨⟨kw1_215, kw1_6, kw1_216⟩, Or.inl kw2_52, rfl, by decide, by decide, by decide +kernel⟩
def F_X1_init (u : xT) (a0 : Nat) (xa : Int32) (xb : Int32) (xc : Int32) (xd : Int32) (xe : Int32) : Option (xT) := (F_X0_init u a0 xa xb xc xd xe).bind (fun r1 => some r1)
theorem c_X1_init {l : Launch} {G : xG} {rr : (xT)} {u : xT} {a0 : Nat} {xa : Int32} {xb : Int32} {xc : Int32} {xd : Int32} {xe : Int32} (hF : F_X1_init u a0 xa xb xc xd xe = some rr) : xMv l G yX1_init cX1_init 6 (Option.none : Option Jvm.ClassFile.FieldType) 3 0 0 [.ref a0, .int xa, .int xb, .int xc, .int xd, .int xe] (tE G u) u.1 (fun z => z = ((tE G rr), rr.1)) := by
  unfold F_X1_init at hF
  refine x_startV rfl (Nat.le_of_ble_eq_true rfl) (fun p e s m args below meth cd ls hE hnm hl hD => ?_)
  have hx := hE.1; have hb := hE.2.1
  have hl : lv_has ls 6 [(0, .ref a0), (1, .int xa), (2, .int xb), (3, .int xc), (4, .int xd), (5, .int xe)] := hl
  have hD : tD G (xA (tE G u) s.heap.size) s.heap u s.heap [] := hD
  refine lv_aload_n hx hb dX1_init_0 rfl (lv_at hl 0 rfl) ?_
  refine lv_iload_n hx hb dX1_init_1 rfl (lv_at hl 1 rfl) ?_
  refine lv_iload_n hx hb dX1_init_2 rfl (lv_at hl 2 rfl) ?_
  refine lv_iload_n hx hb dX1_init_3 rfl (lv_at hl 3 rfl) ?_
  refine lv_iload hx hb dX1_init_4 (lv_at hl 4 rfl) ?_
  refine lv_iload hx hb dX1_init_6 (lv_at hl 5 rfl) ?_
  obtain ⟨r1, k2, hF⟩ := xb_s hF
  refine kIv (As := [.int xa, .int xb, .int xc, .int xd, .int xe]) (rest := []) hE hl hD (c_X0_init k2) ki_X1_1 rfl rfl (Nat.le_of_ble_eq_true rfl) dX1_init_8 ⟨Nat.le_of_ble_eq_true rfl, Nat.le_of_ble_eq_true rfl⟩ ⟨Nat.le_of_ble_eq_true rfl, Nat.le_of_ble_eq_true rfl⟩ (fun H locs (hD : tD G _ _ r1 H locs) => ?_)
  obtain rfl := Option.some.inj hF
  exact x_vret hE hD rfl (by omega) (by omega) dX1_init_11
theorem ki_X4_3 : xLI RX4 3 yX1_init cX1_init 6 5 := ⟨⟨kw2_50, kw1_9, kw2_51⟩, Or.inl kw2_67, rfl, by decide, by decide, by decide +kernel⟩
def F_X4_init (u : xT) (a0 : Nat) (xa : Int32) (xb : Int32) (xc : Int32) (xd : Int32) : Option (xT) := (F_X1_init u a0 (5 : Int32) xa xb xc xd).bind (fun r1 => some r1)
theorem c_X4_init {l : Launch} {G : xG} {rr : (xT)} {u : xT} {a0 : Nat} {xa : Int32} {xb : Int32} {xc : Int32} {xd : Int32} (hF : F_X4_init u a0 xa xb xc xd = some rr) : xMv l G yX4_init cX4_init 5 (Option.none : Option Jvm.ClassFile.FieldType) 4 0 0 [.ref a0, .int xa, .int xb, .int xc, .int xd] (tE G u) u.1 (fun z => z = ((tE G rr), rr.1)) := by
  unfold F_X4_init at hF
  refine x_startV rfl (Nat.le_of_ble_eq_true rfl) (fun p e s m args below meth cd ls hE hnm hl hD => ?_)
  have hx := hE.1; have hb := hE.2.1
  have hl : lv_has ls 5 [(0, .ref a0), (1, .int xa), (2, .int xb), (3, .int xc), (4, .int xd)] := hl
  have hD : tD G (xA (tE G u) s.heap.size) s.heap u s.heap [] := hD
  refine lv_aload_n hx hb dX4_init_0 rfl (lv_at hl 0 rfl) ?_
  refine lv_iconst (v := (5 : Int32)) hx hb dX4_init_1 (by decide) ?_
  refine lv_iload_n hx hb dX4_init_2 rfl (lv_at hl 1 rfl) ?_
  refine lv_iload_n hx hb dX4_init_3 rfl (lv_at hl 2 rfl) ?_
  refine lv_iload_n hx hb dX4_init_4 rfl (lv_at hl 3 rfl) ?_
  refine lv_iload hx hb dX4_init_5 (lv_at hl 4 rfl) ?_
  obtain ⟨r1, k2, hF⟩ := xb_s hF
  refine kIv (As := [.int (5 : Int32), .int xa, .int xb, .int xc, .int xd]) (rest := []) hE hl hD (c_X1_init k2) ki_X4_3 rfl rfl (Nat.le_of_ble_eq_true rfl) dX4_init_7 ⟨Nat.le_of_ble_eq_true rfl, Nat.le_of_ble_eq_true rfl⟩ ⟨Nat.le_of_ble_eq_true rfl, Nat.le_of_ble_eq_true rfl⟩ (fun H locs (hD : tD G _ _ r1 H locs) => ?_)
  obtain rfl := Option.some.inj hF
  exact x_vret hE hD rfl (by omega) (by omega) dX4_init_10
theorem ki_X9_1 : xLI RX9 1 yX0_init cX0_init 6 5 := ⟨⟨kw1_215, kw1_6, kw1_216⟩, Or.inl kw1_214, rfl, by decide, by decide, by decide +kernel⟩
def F_X9_init (u : xT) (a0 : Nat) (xa : Int32) (xb : Int32) (xc : Int32) (xd : Int32) (xe : Int32) : Option (xT) := (F_X0_init u a0 xa xb xc xd xe).bind (fun r1 => some r1)
theorem c_X9_init {l : Launch} {G : xG} {rr : (xT)} {u : xT} {a0 : Nat} {xa : Int32} {xb : Int32} {xc : Int32} {xd : Int32} {xe : Int32} (hF : F_X9_init u a0 xa xb xc xd xe = some rr) : xMv l G yX9_init cX9_init 6 (Option.none : Option Jvm.ClassFile.FieldType) 3 0 0 [.ref a0, .int xa, .int xb, .int xc, .int xd, .int xe] (tE G u) u.1 (fun z => z = ((tE G rr), rr.1)) := by
  unfold F_X9_init at hF
  refine x_startV rfl (Nat.le_of_ble_eq_true rfl) (fun p e s m args below meth cd ls hE hnm hl hD => ?_)
  have hx := hE.1; have hb := hE.2.1
  have hl : lv_has ls 6 [(0, .ref a0), (1, .int xa), (2, .int xb), (3, .int xc), (4, .int xd), (5, .int xe)] := hl
  have hD : tD G (xA (tE G u) s.heap.size) s.heap u s.heap [] := hD
  refine lv_aload_n hx hb dX9_init_0 rfl (lv_at hl 0 rfl) ?_
  refine lv_iload_n hx hb dX9_init_1 rfl (lv_at hl 1 rfl) ?_
  refine lv_iload_n hx hb dX9_init_2 rfl (lv_at hl 2 rfl) ?_
  refine lv_iload_n hx hb dX9_init_3 rfl (lv_at hl 3 rfl) ?_
  refine lv_iload hx hb dX9_init_4 (lv_at hl 4 rfl) ?_
  refine lv_iload hx hb dX9_init_6 (lv_at hl 5 rfl) ?_
  obtain ⟨r1, k2, hF⟩ := xb_s hF
  refine kIv (As := [.int xa, .int xb, .int xc, .int xd, .int xe]) (rest := []) hE hl hD (c_X0_init k2) ki_X9_1 rfl rfl (Nat.le_of_ble_eq_true rfl) dX9_init_8 ⟨Nat.le_of_ble_eq_true rfl, Nat.le_of_ble_eq_true rfl⟩ ⟨Nat.le_of_ble_eq_true rfl, Nat.le_of_ble_eq_true rfl⟩ (fun H locs (hD : tD G _ _ r1 H locs) => ?_)
  obtain rfl := Option.some.inj hF
  exact x_vret hE hD rfl (by omega) (by omega) dX9_init_11
theorem ki_X5_3 : xLI RX5 3 yX9_init cX9_init 6 5 := ⟨⟨kw1_212, kw1_7, kw1_213⟩, Or.inl kw2_37, rfl, by decide, by decide, by decide +kernel⟩
def F_X5_init (u : xT) (a0 : Nat) (xa : Int32) (xb : Int32) (xc : Int32) (xd : Int32) : Option (xT) := (F_X9_init u a0 (3 : Int32) xa xb xc xd).bind (fun r1 => some r1)
theorem c_X5_init {l : Launch} {G : xG} {rr : (xT)} {u : xT} {a0 : Nat} {xa : Int32} {xb : Int32} {xc : Int32} {xd : Int32} (hF : F_X5_init u a0 xa xb xc xd = some rr) : xMv l G yX5_init cX5_init 5 (Option.none : Option Jvm.ClassFile.FieldType) 4 0 0 [.ref a0, .int xa, .int xb, .int xc, .int xd] (tE G u) u.1 (fun z => z = ((tE G rr), rr.1)) := by
  unfold F_X5_init at hF
  refine x_startV rfl (Nat.le_of_ble_eq_true rfl) (fun p e s m args below meth cd ls hE hnm hl hD => ?_)
  have hx := hE.1; have hb := hE.2.1
  have hl : lv_has ls 5 [(0, .ref a0), (1, .int xa), (2, .int xb), (3, .int xc), (4, .int xd)] := hl
  have hD : tD G (xA (tE G u) s.heap.size) s.heap u s.heap [] := hD
  refine lv_aload_n hx hb dX5_init_0 rfl (lv_at hl 0 rfl) ?_
  refine lv_iconst (v := (3 : Int32)) hx hb dX5_init_1 (by decide) ?_
  refine lv_iload_n hx hb dX5_init_2 rfl (lv_at hl 1 rfl) ?_
  refine lv_iload_n hx hb dX5_init_3 rfl (lv_at hl 2 rfl) ?_
  refine lv_iload_n hx hb dX5_init_4 rfl (lv_at hl 3 rfl) ?_
  refine lv_iload hx hb dX5_init_5 (lv_at hl 4 rfl) ?_
  obtain ⟨r1, k2, hF⟩ := xb_s hF
  refine kIv (As := [.int (3 : Int32), .int xa, .int xb, .int xc, .int xd]) (rest := []) hE hl hD (c_X9_init k2) ki_X5_3 rfl rfl (Nat.le_of_ble_eq_true rfl) dX5_init_7 ⟨Nat.le_of_ble_eq_true rfl, Nat.le_of_ble_eq_true rfl⟩ ⟨Nat.le_of_ble_eq_true rfl, Nat.le_of_ble_eq_true rfl⟩ (fun H locs (hD : tD G _ _ r1 H locs) => ?_)
  obtain rfl := Option.some.inj hF
  exact x_vret hE hD rfl (by omega) (by omega) dX5_init_10
theorem ki_X6_3 : xLI RX6 3 yX0_init cX0_init 6 5 := ⟨⟨kw1_215, kw1_6, kw1_216⟩, Or.inl kw2_82, rfl, by decide, by decide, by decide +kernel⟩
def F_X6_init (u : xT) (a0 : Nat) (xa : Int32) (xb : Int32) (xc : Int32) (xd : Int32) : Option (xT) := (F_X0_init u a0 (1 : Int32) xa xb xc xd).bind (fun r1 => some r1)
theorem c_X6_init {l : Launch} {G : xG} {rr : (xT)} {u : xT} {a0 : Nat} {xa : Int32} {xb : Int32} {xc : Int32} {xd : Int32} (hF : F_X6_init u a0 xa xb xc xd = some rr) : xMv l G yX6_init cX6_init 5 (Option.none : Option Jvm.ClassFile.FieldType) 3 0 0 [.ref a0, .int xa, .int xb, .int xc, .int xd] (tE G u) u.1 (fun z => z = ((tE G rr), rr.1)) := by
  unfold F_X6_init at hF
  refine x_startV rfl (Nat.le_of_ble_eq_true rfl) (fun p e s m args below meth cd ls hE hnm hl hD => ?_)
  have hx := hE.1; have hb := hE.2.1
  have hl : lv_has ls 5 [(0, .ref a0), (1, .int xa), (2, .int xb), (3, .int xc), (4, .int xd)] := hl
  have hD : tD G (xA (tE G u) s.heap.size) s.heap u s.heap [] := hD
  refine lv_aload_n hx hb dX6_init_0 rfl (lv_at hl 0 rfl) ?_
  refine lv_iconst (v := (1 : Int32)) hx hb dX6_init_1 (by decide) ?_
  refine lv_iload_n hx hb dX6_init_2 rfl (lv_at hl 1 rfl) ?_
  refine lv_iload_n hx hb dX6_init_3 rfl (lv_at hl 2 rfl) ?_
  refine lv_iload_n hx hb dX6_init_4 rfl (lv_at hl 3 rfl) ?_
  refine lv_iload hx hb dX6_init_5 (lv_at hl 4 rfl) ?_
  obtain ⟨r1, k2, hF⟩ := xb_s hF
  refine kIv (As := [.int (1 : Int32), .int xa, .int xb, .int xc, .int xd]) (rest := []) hE hl hD (c_X0_init k2) ki_X6_3 rfl rfl (Nat.le_of_ble_eq_true rfl) dX6_init_7 ⟨Nat.le_of_ble_eq_true rfl, Nat.le_of_ble_eq_true rfl⟩ ⟨Nat.le_of_ble_eq_true rfl, Nat.le_of_ble_eq_true rfl⟩ (fun H locs (hD : tD G _ _ r1 H locs) => ?_)
  obtain rfl := Option.some.inj hF
  exact x_vret hE hD rfl (by omega) (by omega) dX6_init_10
theorem ki_X11_377 : xLI RX11 377 yX9_init cX9_init 6 5 := ⟨⟨kw1_212, kw1_7, kw1_213⟩, Or.inl kw1_211, rfl, by decide, by decide, by decide +kernel⟩
theorem ki_X11_382 : xLI RX11 382 yX5_init cX5_init 5 4 := ⟨⟨kw2_35, kw1_8, kw2_36⟩, Or.inl kw2_34, rfl, by decide, by decide, by decide +kernel⟩
theorem ki_X11_387 : xLI RX11 387 yX1_init cX1_init 6 5 := ⟨⟨kw2_50, kw1_9, kw2_51⟩, Or.inl kw2_49, rfl, by decide, by decide, by decide +kernel⟩
theorem ki_X11_390 : xLI RX11 390 yX4_init cX4_init 5 4 := ⟨⟨kw2_65, kw1_10, kw2_66⟩, Or.inl kw2_64, rfl, by decide, by decide, by decide +kernel⟩
theorem ki_X11_393 : xLI RX11 393 yX6_init cX6_init 5 4 := ⟨⟨kw2_80, kw1_11, kw2_81⟩, Or.inl kw2_79, rfl, by decide, by decide, by decide +kernel⟩
def F_X11_made (u : xT) (xa : Int32) (xb : Int32) (xc : Int32) (xd : Int32) (xe : Int32) : Option ((Option Nat) × xT) := (if xa = (2 : Int32) then xlet (tNew u 9 0) (fun t2 => (F_X9_init t2 u.1 (2 : Int32) xb xc xd xe).bind (fun r4 => some (some u.1, r4))) else (if xa = (3 : Int32) then xlet (tNew u 5 0) (fun t7 => (F_X5_init t7 u.1 xb xc xd xe).bind (fun r9 => some (some u.1, r9))) else (if xa = (4 : Int32) then xlet (tNew u 1 0) (fun t12 => (F_X1_init t12 u.1 (4 : Int32) xb xc xd xe).bind (fun r14 => some (some u.1, r14))) else (if xa = (5 : Int32) then xlet (tNew u 4 0) (fun t17 => (F_X4_init t17 u.1 xb xc xd xe).bind (fun r19 => some (some u.1, r19))) else xlet (tNew u 6 0) (fun t21 => (F_X6_init t21 u.1 xb xc xd xe).bind (fun r23 => some (some u.1, r23)))))))
theorem c_X11_made {l : Launch} {G : xG} {rr : ((Option Nat) × xT)} {u : xT} {xa : Int32} {xb : Int32} {xc : Int32} {xd : Int32} {xe : Int32} (hF : F_X11_made u xa xb xc xd xe = some rr) : xMq l G yX11_made cX11_made 5 (Option.some (Jvm.ClassFile.FieldType.object "DoubledBridge$Bridge")) 5 1 8 [.int xa, .int xb, .int xc, .int xd, .int xe] (tE G u) u.1 (fun r z => r = rr.1 ∧ z = ((tE G rr.2), rr.2.1)) := by
  unfold F_X11_made at hF
  refine x_startQ rfl (Nat.le_of_ble_eq_true rfl) (fun p e s m args below meth cd ls hE hnm hl hD => ?_)
  have hx := hE.1; have hb := hE.2.1
  have hl : lv_has ls 5 [(0, .int xa), (1, .int xb), (2, .int xc), (3, .int xd), (4, .int xe)] := hl
  have hD : tD G (xA (tE G u) s.heap.size) s.heap u s.heap [] := hD
  refine lv_iload_n hx hb dX11_made_0 rfl (lv_at hl 0 rfl) ?_
  by_cases c1 : xa = (2 : Int32)
  · have hF := ite_p hF c1
    refine lv_tableIn (off := 31) (tgt := 32) hx hb dX11_made_1 (by rw [c1]; decide) (by rw [c1]; decide) (by rw [c1]; rfl) (by decide) ?_
    refine tn_X11_375 hE hD (by show 0 + 1 ≤ 1; omega) (by show 0 + 8 ≤ 8; omega) dX11_made_32 (fun t2 H et2 hD => ?_)
    have hF := xlet_e hF et2
    have h3 : tK t2 u.1 = 9 := by rw [et2]; exact tK_N _ _ _
    refine lv_dup hx hb dX11_made_35 rfl ?_
    refine lv_iconst (v := (2 : Int32)) hx hb dX11_made_36 (by decide) ?_
    refine lv_iload_n hx hb dX11_made_37 rfl (lv_at hl 1 rfl) ?_
    refine lv_iload_n hx hb dX11_made_38 rfl (lv_at hl 2 rfl) ?_
    refine lv_iload_n hx hb dX11_made_39 rfl (lv_at hl 3 rfl) ?_
    refine lv_iload hx hb dX11_made_40 (lv_at hl 4 rfl) ?_
    obtain ⟨r4, k5, hF⟩ := xb_s hF
    refine kIv (As := [.int (2 : Int32), .int xb, .int xc, .int xd, .int xe]) (rest := [.ref u.1]) hE hl hD (c_X9_init k5) ki_X11_377 rfl rfl (Nat.le_of_ble_eq_true rfl) dX11_made_42 ⟨Nat.le_of_ble_eq_true rfl, Nat.le_of_ble_eq_true rfl⟩ ⟨(by show 0 + 1 ≤ 1; omega), (by show 0 + 8 ≤ 8; omega)⟩ (fun H locs (hD : tD G _ _ r4 H locs) => ?_)
    obtain rfl := Option.some.inj hF
    exact x_qret (v := some u.1) hE hD ⟨rfl, rfl⟩ (by omega) (by omega) dX11_made_45
  · have hF := ite_n hF c1
    by_cases c6 : xa = (3 : Int32)
    · have hF := ite_p hF c6
      refine lv_tableIn (off := 45) (tgt := 46) hx hb dX11_made_1 (by rw [c6]; decide) (by rw [c6]; decide) (by rw [c6]; rfl) (by decide) ?_
      refine tn_X11_380 hE hD (by show 0 + 1 ≤ 1; omega) (by show 0 + 8 ≤ 8; omega) dX11_made_46 (fun t7 H et7 hD => ?_)
      have hF := xlet_e hF et7
      have h8 : tK t7 u.1 = 5 := by rw [et7]; exact tK_N _ _ _
      refine lv_dup hx hb dX11_made_49 rfl ?_
      refine lv_iload_n hx hb dX11_made_50 rfl (lv_at hl 1 rfl) ?_
      refine lv_iload_n hx hb dX11_made_51 rfl (lv_at hl 2 rfl) ?_
      refine lv_iload_n hx hb dX11_made_52 rfl (lv_at hl 3 rfl) ?_
      refine lv_iload hx hb dX11_made_53 (lv_at hl 4 rfl) ?_
      obtain ⟨r9, k10, hF⟩ := xb_s hF
      refine kIv (As := [.int xb, .int xc, .int xd, .int xe]) (rest := [.ref u.1]) hE hl hD (c_X5_init k10) ki_X11_382 rfl rfl (Nat.le_of_ble_eq_true rfl) dX11_made_55 ⟨Nat.le_of_ble_eq_true rfl, Nat.le_of_ble_eq_true rfl⟩ ⟨(by show 0 + 1 ≤ 1; omega), (by show 0 + 8 ≤ 8; omega)⟩ (fun H locs (hD : tD G _ _ r9 H locs) => ?_)
      obtain rfl := Option.some.inj hF
      exact x_qret (v := some u.1) hE hD ⟨rfl, rfl⟩ (by omega) (by omega) dX11_made_58
    · have hF := ite_n hF c6
      by_cases c11 : xa = (4 : Int32)
      · have hF := ite_p hF c11
        refine lv_tableIn (off := 58) (tgt := 59) hx hb dX11_made_1 (by rw [c11]; decide) (by rw [c11]; decide) (by rw [c11]; rfl) (by decide) ?_
        refine tn_X11_385 hE hD (by show 0 + 1 ≤ 1; omega) (by show 0 + 8 ≤ 8; omega) dX11_made_59 (fun t12 H et12 hD => ?_)
        have hF := xlet_e hF et12
        have h13 : tK t12 u.1 = 1 := by rw [et12]; exact tK_N _ _ _
        refine lv_dup hx hb dX11_made_62 rfl ?_
        refine lv_iconst (v := (4 : Int32)) hx hb dX11_made_63 (by decide) ?_
        refine lv_iload_n hx hb dX11_made_64 rfl (lv_at hl 1 rfl) ?_
        refine lv_iload_n hx hb dX11_made_65 rfl (lv_at hl 2 rfl) ?_
        refine lv_iload_n hx hb dX11_made_66 rfl (lv_at hl 3 rfl) ?_
        refine lv_iload hx hb dX11_made_67 (lv_at hl 4 rfl) ?_
        obtain ⟨r14, k15, hF⟩ := xb_s hF
        refine kIv (As := [.int (4 : Int32), .int xb, .int xc, .int xd, .int xe]) (rest := [.ref u.1]) hE hl hD (c_X1_init k15) ki_X11_387 rfl rfl (Nat.le_of_ble_eq_true rfl) dX11_made_69 ⟨Nat.le_of_ble_eq_true rfl, Nat.le_of_ble_eq_true rfl⟩ ⟨(by show 0 + 1 ≤ 1; omega), (by show 0 + 8 ≤ 8; omega)⟩ (fun H locs (hD : tD G _ _ r14 H locs) => ?_)
        obtain rfl := Option.some.inj hF
        exact x_qret (v := some u.1) hE hD ⟨rfl, rfl⟩ (by omega) (by omega) dX11_made_72
      · have hF := ite_n hF c11
        by_cases c16 : xa = (5 : Int32)
        · have hF := ite_p hF c16
          refine lv_tableIn (off := 72) (tgt := 73) hx hb dX11_made_1 (by rw [c16]; decide) (by rw [c16]; decide) (by rw [c16]; rfl) (by decide) ?_
          refine tn_X11_388 hE hD (by show 0 + 1 ≤ 1; omega) (by show 0 + 8 ≤ 8; omega) dX11_made_73 (fun t17 H et17 hD => ?_)
          have hF := xlet_e hF et17
          have h18 : tK t17 u.1 = 4 := by rw [et17]; exact tK_N _ _ _
          refine lv_dup hx hb dX11_made_76 rfl ?_
          refine lv_iload_n hx hb dX11_made_77 rfl (lv_at hl 1 rfl) ?_
          refine lv_iload_n hx hb dX11_made_78 rfl (lv_at hl 2 rfl) ?_
          refine lv_iload_n hx hb dX11_made_79 rfl (lv_at hl 3 rfl) ?_
          refine lv_iload hx hb dX11_made_80 (lv_at hl 4 rfl) ?_
          obtain ⟨r19, k20, hF⟩ := xb_s hF
          refine kIv (As := [.int xb, .int xc, .int xd, .int xe]) (rest := [.ref u.1]) hE hl hD (c_X4_init k20) ki_X11_390 rfl rfl (Nat.le_of_ble_eq_true rfl) dX11_made_82 ⟨Nat.le_of_ble_eq_true rfl, Nat.le_of_ble_eq_true rfl⟩ ⟨(by show 0 + 1 ≤ 1; omega), (by show 0 + 8 ≤ 8; omega)⟩ (fun H locs (hD : tD G _ _ r19 H locs) => ?_)
          obtain rfl := Option.some.inj hF
          exact x_qret (v := some u.1) hE hD ⟨rfl, rfl⟩ (by omega) (by omega) dX11_made_85
        · have hF := ite_n hF c16
          refine lv_tableOut (tgt := 86) hx hb dX11_made_1 (by have hc1 := lv_neT (a := 2) c1 rfl; have hc6 := lv_neT (a := 3) c6 rfl; have hc11 := lv_neT (a := 4) c11 rfl; have hc16 := lv_neT (a := 5) c16 rfl; omega) (by decide) ?_
          refine tn_X11_391 hE hD (by show 0 + 1 ≤ 1; omega) (by show 0 + 8 ≤ 8; omega) dX11_made_86 (fun t21 H et21 hD => ?_)
          have hF := xlet_e hF et21
          have h22 : tK t21 u.1 = 6 := by rw [et21]; exact tK_N _ _ _
          refine lv_dup hx hb dX11_made_89 rfl ?_
          refine lv_iload_n hx hb dX11_made_90 rfl (lv_at hl 1 rfl) ?_
          refine lv_iload_n hx hb dX11_made_91 rfl (lv_at hl 2 rfl) ?_
          refine lv_iload_n hx hb dX11_made_92 rfl (lv_at hl 3 rfl) ?_
          refine lv_iload hx hb dX11_made_93 (lv_at hl 4 rfl) ?_
          obtain ⟨r23, k24, hF⟩ := xb_s hF
          refine kIv (As := [.int xb, .int xc, .int xd, .int xe]) (rest := [.ref u.1]) hE hl hD (c_X6_init k24) ki_X11_393 rfl rfl (Nat.le_of_ble_eq_true rfl) dX11_made_95 ⟨Nat.le_of_ble_eq_true rfl, Nat.le_of_ble_eq_true rfl⟩ ⟨(by show 0 + 1 ≤ 1; omega), (by show 0 + 8 ≤ 8; omega)⟩ (fun H locs (hD : tD G _ _ r23 H locs) => ?_)
          obtain rfl := Option.some.inj hF
          exact x_qret (v := some u.1) hE hD ⟨rfl, rfl⟩ (by omega) (by omega) dX11_made_98
theorem kn_X0_27 : xLN RX0 27 yX11_made cX11_made 5 (Option.some (Jvm.ClassFile.FieldType.object "DoubledBridge$Bridge")) 5 := ⟨⟨kw1_207, kw1_1, kw1_208⟩, by decide, by decide, by decide, by decide +kernel⟩
def F_X0_twin (u : xT) (a0 : Nat) : Option ((Option Nat) × xT) := if isBk (tK u a0) then (F_X11_made u (tI u a0 0) (tI u a0 1) (tI u a0 2) (tI u a0 3) (tI u a0 4)).bind (fun r2 => xopt (r2.1) (some (none, r2.2)) (fun q4 => some (some q4, r2.2))) else none
theorem c_X0_twin {l : Launch} {G : xG} {rr : ((Option Nat) × xT)} {u : xT} {a0 : Nat} (hF : F_X0_twin u a0 = some rr) : xMq l G yX0_twin cX0_twin 1 (Option.some (Jvm.ClassFile.FieldType.object "DoubledBridge$Bridge")) 6 1 8 [.ref a0] (tE G u) u.1 (fun r z => r = rr.1 ∧ z = ((tE G rr.2), rr.2.1)) := by
  unfold F_X0_twin at hF
  refine x_startQ rfl (Nat.le_of_ble_eq_true rfl) (fun p e s m args below meth cd ls hE hnm hl hD => ?_)
  have hx := hE.1; have hb := hE.2.1
  have hl : lv_has ls 1 [(0, .ref a0)] := hl
  have hD : tD G (xA (tE G u) s.heap.size) s.heap u s.heap [] := hD
  refine lv_aload_n hx hb dX0_twin_0 rfl (lv_at hl 0 rfl) ?_
  obtain ⟨h1, hF⟩ := ite_s hF
  refine gf_X0_9 hE hD h1 dX0_twin_1 ?_
  refine lv_aload_n hx hb dX0_twin_4 rfl (lv_at hl 0 rfl) ?_
  refine gf_X0_15 hE hD h1 dX0_twin_5 ?_
  refine lv_aload_n hx hb dX0_twin_8 rfl (lv_at hl 0 rfl) ?_
  refine gf_X0_18 hE hD h1 dX0_twin_9 ?_
  refine lv_aload_n hx hb dX0_twin_12 rfl (lv_at hl 0 rfl) ?_
  refine gf_X0_21 hE hD h1 dX0_twin_13 ?_
  refine lv_aload_n hx hb dX0_twin_16 rfl (lv_at hl 0 rfl) ?_
  refine gf_X0_24 hE hD h1 dX0_twin_17 ?_
  obtain ⟨r2, k3, hF⟩ := xb_s hF
  refine kNqA (As := [.int (tI u a0 0), .int (tI u a0 1), .int (tI u a0 2), .int (tI u a0 3), .int (tI u a0 4)]) (rest := []) hE hl hD (c_X11_made k3) kn_X0_27 rfl rfl (Nat.le_of_ble_eq_true rfl) dX0_twin_20 ⟨Nat.le_of_ble_eq_true rfl, Nat.le_of_ble_eq_true rfl⟩ ⟨(by show 0 + 1 ≤ 1; omega), (by show 0 + 8 ≤ 8; omega)⟩ (fun H locs (hD : tD G _ _ r2.2 H locs) => ?_)
  refine t_split hF (fun h5 hF => ?_) (fun q4 h5 hF => ?_)
  · obtain rfl := Option.some.inj hF
    exact x_qret (v := none) hE hD ⟨rfl, rfl⟩ (by omega) (by omega) dX0_twin_23
  · obtain rfl := Option.some.inj hF
    exact x_qret (v := some q4) hE hD ⟨rfl, rfl⟩ (by omega) (by omega) dX0_twin_23
def F_X0_feasts (a0 : Nat) : Option Unit := some ()
theorem c_X0_feasts {l : Launch} {G : xG} {w : xW} {sz : Nat} {rr : Unit} {a0 : Nat} (hF : F_X0_feasts a0 = some rr) : xMv l G yX0_feasts cX0_feasts 1 (Option.none : Option Jvm.ClassFile.FieldType) 2 0 0 [.ref a0] w sz (fun z => z = (w, sz)) := by
  unfold F_X0_feasts at hF
  refine x_startV rfl (Nat.le_of_ble_eq_true rfl) (fun p e s m args below meth cd ls hE hnm hl hD => ?_)
  have hx := hE.1; have hb := hE.2.1
  have hl : lv_has ls 1 [(0, .ref a0)] := hl
  skip
  exact x_vret hE hD rfl (by omega) (by omega) dX0_feasts_0
def F_X11_isUnder_j34 (s0 : Int32) : Option Int32 := if s0 = 0 ∨ s0 = 1 then some s0 else none
theorem B_X11_isUnder_j34 {p : Program} {l : Launch} {e : Env} {s : State} {m : MethodId} {args : Array Value} {below : List Frame} {meth : Method} {cd : Code} {G : xG} {w0 : xW} {w : xW} {sz : Nat} {rr : Int32} (hE : xE p s m args meth cd cX11_isUnder RX11 G 2 (Option.some Jvm.ClassFile.FieldType.boolean)) {s0 : Int32} {H : Heap} {locs : List Loc} {ls : Array Slot} (hD : xD G (xA w0 s.heap.size) s.heap w sz H locs) (hl : lv_has ls 2 []) (hF : F_X11_isUnder_j34 s0 = some rr) : W p l e (xR 2 0 0) s m args below meth cd H locs 0 0 (xQi G w0 (fun r z => r = rr ∧ (rr = 0 ∨ rr = 1) ∧ z = (w, sz)) below args s 0 0) (F0 m 34 ls [.int s0]) := by
  have hx := hE.1; have hb := hE.2.1
  unfold F_X11_isUnder_j34 at hF
  obtain ⟨h1, hF⟩ := ite_s hF
  obtain rfl := Option.some.inj hF
  exact x_zret hE hD h1 ⟨rfl, h1, rfl⟩ (by omega) (by omega) dX11_isUnder_34
def F_X11_isUnder_j33  : Option Int32 := F_X11_isUnder_j34 (0 : Int32)
theorem B_X11_isUnder_j33 {p : Program} {l : Launch} {e : Env} {s : State} {m : MethodId} {args : Array Value} {below : List Frame} {meth : Method} {cd : Code} {G : xG} {w0 : xW} {w : xW} {sz : Nat} {rr : Int32} (hE : xE p s m args meth cd cX11_isUnder RX11 G 2 (Option.some Jvm.ClassFile.FieldType.boolean))  {H : Heap} {locs : List Loc} {ls : Array Slot} (hD : xD G (xA w0 s.heap.size) s.heap w sz H locs) (hl : lv_has ls 2 []) (hF : F_X11_isUnder_j33  = some rr) : W p l e (xR 2 0 0) s m args below meth cd H locs 0 0 (xQi G w0 (fun r z => r = rr ∧ (rr = 0 ∨ rr = 1) ∧ z = (w, sz)) below args s 0 0) (F0 m 33 ls []) := by
  have hx := hE.1; have hb := hE.2.1
  unfold F_X11_isUnder_j33 at hF
  refine lv_iconst (v := (0 : Int32)) hx hb dX11_isUnder_33 (by decide) ?_
  exact B_X11_isUnder_j34 hE hD (lv_sub hl [] rfl) hF
def F_X11_isUnder_j29  : Option Int32 := F_X11_isUnder_j34 (1 : Int32)
theorem B_X11_isUnder_j29 {p : Program} {l : Launch} {e : Env} {s : State} {m : MethodId} {args : Array Value} {below : List Frame} {meth : Method} {cd : Code} {G : xG} {w0 : xW} {w : xW} {sz : Nat} {rr : Int32} (hE : xE p s m args meth cd cX11_isUnder RX11 G 2 (Option.some Jvm.ClassFile.FieldType.boolean))  {H : Heap} {locs : List Loc} {ls : Array Slot} (hD : xD G (xA w0 s.heap.size) s.heap w sz H locs) (hl : lv_has ls 2 []) (hF : F_X11_isUnder_j29  = some rr) : W p l e (xR 2 0 0) s m args below meth cd H locs 0 0 (xQi G w0 (fun r z => r = rr ∧ (rr = 0 ∨ rr = 1) ∧ z = (w, sz)) below args s 0 0) (F0 m 29 ls []) := by
  have hx := hE.1; have hb := hE.2.1
  unfold F_X11_isUnder_j29 at hF
  refine lv_iconst (v := (1 : Int32)) hx hb dX11_isUnder_29 (by decide) ?_
  refine lv_goto (tgt := 34) hx hb dX11_isUnder_30 (by decide) ?_
  exact B_X11_isUnder_j34 hE hD (lv_sub hl [] rfl) hF
def F_X11_isUnder_j19 (y0 : Int32) (y1 : Int32) : Option Int32 := if y1 = (4 : Int32) then if y0 = (5 : Int32) then F_X11_isUnder_j29 else F_X11_isUnder_j33 else F_X11_isUnder_j33
theorem B_X11_isUnder_j19 {p : Program} {l : Launch} {e : Env} {s : State} {m : MethodId} {args : Array Value} {below : List Frame} {meth : Method} {cd : Code} {G : xG} {w0 : xW} {w : xW} {sz : Nat} {rr : Int32} (hE : xE p s m args meth cd cX11_isUnder RX11 G 2 (Option.some Jvm.ClassFile.FieldType.boolean)) {y0 : Int32} {y1 : Int32} {H : Heap} {locs : List Loc} {ls : Array Slot} (hD : xD G (xA w0 s.heap.size) s.heap w sz H locs) (hl : lv_has ls 2 [(0, .int y0), (1, .int y1)]) (hF : F_X11_isUnder_j19 y0 y1 = some rr) : W p l e (xR 2 0 0) s m args below meth cd H locs 0 0 (xQi G w0 (fun r z => r = rr ∧ (rr = 0 ∨ rr = 1) ∧ z = (w, sz)) below args s 0 0) (F0 m 19 ls []) := by
  have hx := hE.1; have hb := hE.2.1
  unfold F_X11_isUnder_j19 at hF
  refine lv_iload_n hx hb dX11_isUnder_19 rfl (lv_at hl 1 rfl) ?_
  refine lv_iconst (v := (4 : Int32)) hx hb dX11_isUnder_20 (by decide) ?_
  refine lv_icmp_ne (tgt := 33) hx hb dX11_isUnder_21 (by decide) (fun c2 => ?_) (fun c2 => ?_)
  · have hF := ite_n hF c2
    exact B_X11_isUnder_j33 hE hD (lv_sub hl [] rfl) hF
  · have hF := ite_p hF c2
    refine lv_iload_n hx hb dX11_isUnder_24 rfl (lv_at hl 0 rfl) ?_
    refine lv_iconst (v := (5 : Int32)) hx hb dX11_isUnder_25 (by decide) ?_
    refine lv_icmp_ne (tgt := 33) hx hb dX11_isUnder_26 (by decide) (fun c3 => ?_) (fun c3 => ?_)
    · have hF := ite_n hF c3
      exact B_X11_isUnder_j33 hE hD (lv_sub hl [] rfl) hF
    · have hF := ite_p hF c3
      exact B_X11_isUnder_j29 hE hD (lv_sub hl [] rfl) hF
def F_X11_isUnder (xa : Int32) (xb : Int32) : Option Int32 := if xb = 0 then F_X11_isUnder_j29 else if xb = xa then F_X11_isUnder_j29 else if xb = (2 : Int32) then if xa = (3 : Int32) then F_X11_isUnder_j29 else F_X11_isUnder_j19 xa xb else F_X11_isUnder_j19 xa xb
theorem c_X11_isUnder {l : Launch} {G : xG} {w : xW} {sz : Nat} {rr : Int32} {xa : Int32} {xb : Int32} (hF : F_X11_isUnder xa xb = some rr) : xMi l G yX11_isUnder cX11_isUnder 2 (Option.some Jvm.ClassFile.FieldType.boolean) 2 0 0 [.int xa, .int xb] w sz (fun r z => r = rr ∧ (rr = 0 ∨ rr = 1) ∧ z = (w, sz)) := by
  unfold F_X11_isUnder at hF
  refine x_startI rfl (Nat.le_of_ble_eq_true rfl) (fun p e s m args below meth cd ls hE hnm hl hD => ?_)
  have hx := hE.1; have hb := hE.2.1
  have hl : lv_has ls 2 [(0, .int xa), (1, .int xb)] := hl
  refine lv_iload_n hx hb dX11_isUnder_0 rfl (lv_at hl 1 rfl) ?_
  refine lv_if_eq (tgt := 29) hx hb dX11_isUnder_1 (by decide) (fun c4 => ?_) (fun c4 => ?_)
  · have hF := ite_p hF c4
    exact B_X11_isUnder_j29 hE hD (lv_sub hl [] rfl) hF
  · have hF := ite_n hF c4
    refine lv_iload_n hx hb dX11_isUnder_4 rfl (lv_at hl 1 rfl) ?_
    refine lv_iload_n hx hb dX11_isUnder_5 rfl (lv_at hl 0 rfl) ?_
    refine lv_icmp_eq (tgt := 29) hx hb dX11_isUnder_6 (by decide) (fun c5 => ?_) (fun c5 => ?_)
    · have hF := ite_p hF c5
      exact B_X11_isUnder_j29 hE hD (lv_sub hl [] rfl) hF
    · have hF := ite_n hF c5
      refine lv_iload_n hx hb dX11_isUnder_9 rfl (lv_at hl 1 rfl) ?_
      refine lv_iconst (v := (2 : Int32)) hx hb dX11_isUnder_10 (by decide) ?_
      refine lv_icmp_ne (tgt := 19) hx hb dX11_isUnder_11 (by decide) (fun c6 => ?_) (fun c6 => ?_)
      · have hF := ite_n hF c6
        exact B_X11_isUnder_j19 hE hD (lv_sub hl [0, 1] rfl) hF
      · have hF := ite_p hF c6
        refine lv_iload_n hx hb dX11_isUnder_14 rfl (lv_at hl 0 rfl) ?_
        refine lv_iconst (v := (3 : Int32)) hx hb dX11_isUnder_15 (by decide) ?_
        refine lv_icmp_eq (tgt := 29) hx hb dX11_isUnder_16 (by decide) (fun c7 => ?_) (fun c7 => ?_)
        · have hF := ite_p hF c7
          exact B_X11_isUnder_j29 hE hD (lv_sub hl [] rfl) hF
        · have hF := ite_n hF c7
          exact B_X11_isUnder_j19 hE hD (lv_sub hl [0, 1] rfl) hF
def F_X2_compares_j60 (s0 : Int32) : Option Int32 := if s0 = 0 ∨ s0 = 1 then some s0 else none
theorem B_X2_compares_j60 {p : Program} {l : Launch} {e : Env} {s : State} {m : MethodId} {args : Array Value} {below : List Frame} {meth : Method} {cd : Code} {G : xG} {w0 : xW} {w : xW} {sz : Nat} {rr : Int32} (hE : xE p s m args meth cd cX2_compares RX2 G 3 (Option.some Jvm.ClassFile.FieldType.boolean)) {s0 : Int32} {H : Heap} {locs : List Loc} {ls : Array Slot} (hD : xD G (xA w0 s.heap.size) s.heap w sz H locs) (hl : lv_has ls 3 []) (hF : F_X2_compares_j60 s0 = some rr) : W p l e (xR 2 0 0) s m args below meth cd H locs 0 0 (xQi G w0 (fun r z => r = rr ∧ (rr = 0 ∨ rr = 1) ∧ z = (w, sz)) below args s 0 0) (F0 m 60 ls [.int s0]) := by
  have hx := hE.1; have hb := hE.2.1
  unfold F_X2_compares_j60 at hF
  obtain ⟨h1, hF⟩ := ite_s hF
  obtain rfl := Option.some.inj hF
  exact x_zret hE hD h1 ⟨rfl, h1, rfl⟩ (by omega) (by omega) dX2_compares_60
def F_X2_compares_j49 (s0 : Int32) : Option Int32 := if s0 = 0 ∨ s0 = 1 then some s0 else none
theorem B_X2_compares_j49 {p : Program} {l : Launch} {e : Env} {s : State} {m : MethodId} {args : Array Value} {below : List Frame} {meth : Method} {cd : Code} {G : xG} {w0 : xW} {w : xW} {sz : Nat} {rr : Int32} (hE : xE p s m args meth cd cX2_compares RX2 G 3 (Option.some Jvm.ClassFile.FieldType.boolean)) {s0 : Int32} {H : Heap} {locs : List Loc} {ls : Array Slot} (hD : xD G (xA w0 s.heap.size) s.heap w sz H locs) (hl : lv_has ls 3 []) (hF : F_X2_compares_j49 s0 = some rr) : W p l e (xR 2 0 0) s m args below meth cd H locs 0 0 (xQi G w0 (fun r z => r = rr ∧ (rr = 0 ∨ rr = 1) ∧ z = (w, sz)) below args s 0 0) (F0 m 49 ls [.int s0]) := by
  have hx := hE.1; have hb := hE.2.1
  unfold F_X2_compares_j49 at hF
  obtain ⟨h2, hF⟩ := ite_s hF
  obtain rfl := Option.some.inj hF
  exact x_zret hE hD h2 ⟨rfl, h2, rfl⟩ (by omega) (by omega) dX2_compares_49
def F_X2_compares_j38 (s0 : Int32) : Option Int32 := if s0 = 0 ∨ s0 = 1 then some s0 else none
theorem B_X2_compares_j38 {p : Program} {l : Launch} {e : Env} {s : State} {m : MethodId} {args : Array Value} {below : List Frame} {meth : Method} {cd : Code} {G : xG} {w0 : xW} {w : xW} {sz : Nat} {rr : Int32} (hE : xE p s m args meth cd cX2_compares RX2 G 3 (Option.some Jvm.ClassFile.FieldType.boolean)) {s0 : Int32} {H : Heap} {locs : List Loc} {ls : Array Slot} (hD : xD G (xA w0 s.heap.size) s.heap w sz H locs) (hl : lv_has ls 3 []) (hF : F_X2_compares_j38 s0 = some rr) : W p l e (xR 2 0 0) s m args below meth cd H locs 0 0 (xQi G w0 (fun r z => r = rr ∧ (rr = 0 ∨ rr = 1) ∧ z = (w, sz)) below args s 0 0) (F0 m 38 ls [.int s0]) := by
  have hx := hE.1; have hb := hE.2.1
  unfold F_X2_compares_j38 at hF
  obtain ⟨h3, hF⟩ := ite_s hF
  obtain rfl := Option.some.inj hF
  exact x_zret hE hD h3 ⟨rfl, h3, rfl⟩ (by omega) (by omega) dX2_compares_38
def F_X2_compares (xa : Int32) (xb : Int32) (xc : Int32) : Option Int32 := (if xa = (0 : Int32) then if xc ≤ xb then F_X2_compares_j38 (0 : Int32) else F_X2_compares_j38 (1 : Int32) else (if xa = (1 : Int32) then if xb = xc then F_X2_compares_j49 (1 : Int32) else F_X2_compares_j49 (0 : Int32) else if xb ≤ xc then F_X2_compares_j60 (0 : Int32) else F_X2_compares_j60 (1 : Int32)))
theorem c_X2_compares {l : Launch} {G : xG} {w : xW} {sz : Nat} {rr : Int32} {xa : Int32} {xb : Int32} {xc : Int32} (hF : F_X2_compares xa xb xc = some rr) : xMi l G yX2_compares cX2_compares 3 (Option.some Jvm.ClassFile.FieldType.boolean) 2 0 0 [.int xa, .int xb, .int xc] w sz (fun r z => r = rr ∧ (rr = 0 ∨ rr = 1) ∧ z = (w, sz)) := by
  unfold F_X2_compares at hF
  refine x_startI rfl (Nat.le_of_ble_eq_true rfl) (fun p e s m args below meth cd ls hE hnm hl hD => ?_)
  have hx := hE.1; have hb := hE.2.1
  have hl : lv_has ls 3 [(0, .int xa), (1, .int xb), (2, .int xc)] := hl
  refine lv_iload_n hx hb dX2_compares_0 rfl (lv_at hl 0 rfl) ?_
  by_cases c4 : xa = (0 : Int32)
  · have hF := ite_p hF c4
    refine lv_lookup (off := 27) (tgt := 28) hx hb dX2_compares_1 (by decide) (by rw [c4]; rfl) (by decide) ?_
    refine lv_iload_n hx hb dX2_compares_28 rfl (lv_at hl 1 rfl) ?_
    refine lv_iload_n hx hb dX2_compares_29 rfl (lv_at hl 2 rfl) ?_
    refine lv_icmp_ge (tgt := 37) hx hb dX2_compares_30 (by decide) (fun c5 => ?_) (fun c5 => ?_)
    · have hF := ite_p hF c5
      refine lv_iconst (v := (0 : Int32)) hx hb dX2_compares_37 (by decide) ?_
      exact B_X2_compares_j38 hE hD (lv_sub hl [] rfl) hF
    · have hF := ite_n hF c5
      refine lv_iconst (v := (1 : Int32)) hx hb dX2_compares_33 (by decide) ?_
      refine lv_goto (tgt := 38) hx hb dX2_compares_34 (by decide) ?_
      exact B_X2_compares_j38 hE hD (lv_sub hl [] rfl) hF
  · have hF := ite_n hF c4
    by_cases c6 : xa = (1 : Int32)
    · have hF := ite_p hF c6
      refine lv_lookup (off := 38) (tgt := 39) hx hb dX2_compares_1 (by decide) (by rw [c6]; rfl) (by decide) ?_
      refine lv_iload_n hx hb dX2_compares_39 rfl (lv_at hl 1 rfl) ?_
      refine lv_iload_n hx hb dX2_compares_40 rfl (lv_at hl 2 rfl) ?_
      refine lv_icmp_ne (tgt := 48) hx hb dX2_compares_41 (by decide) (fun c7 => ?_) (fun c7 => ?_)
      · have hF := ite_n hF c7
        refine lv_iconst (v := (0 : Int32)) hx hb dX2_compares_48 (by decide) ?_
        exact B_X2_compares_j49 hE hD (lv_sub hl [] rfl) hF
      · have hF := ite_p hF c7
        refine lv_iconst (v := (1 : Int32)) hx hb dX2_compares_44 (by decide) ?_
        refine lv_goto (tgt := 49) hx hb dX2_compares_45 (by decide) ?_
        exact B_X2_compares_j49 hE hD (lv_sub hl [] rfl) hF
    · have hF := ite_n hF c6
      refine lv_lookup (off := 49) (tgt := 50) hx hb dX2_compares_1 (by decide) (by show Op.lookupswitch.offset [(0, 27), (1, 38)] 49 _ = _; rw [lv_osw (a := 0) c4 rfl, lv_osw (a := 1) c6 rfl]; rfl) (by decide) ?_
      refine lv_iload_n hx hb dX2_compares_50 rfl (lv_at hl 1 rfl) ?_
      refine lv_iload_n hx hb dX2_compares_51 rfl (lv_at hl 2 rfl) ?_
      refine lv_icmp_le (tgt := 59) hx hb dX2_compares_52 (by decide) (fun c8 => ?_) (fun c8 => ?_)
      · have hF := ite_p hF c8
        refine lv_iconst (v := (0 : Int32)) hx hb dX2_compares_59 (by decide) ?_
        exact B_X2_compares_j60 hE hD (lv_sub hl [] rfl) hF
      · have hF := ite_n hF c8
        refine lv_iconst (v := (1 : Int32)) hx hb dX2_compares_55 (by decide) ?_
        refine lv_goto (tgt := 60) hx hb dX2_compares_56 (by decide) ?_
        exact B_X2_compares_j60 hE hD (lv_sub hl [] rfl) hF
def F_X2_factOf (u : xT) (xa : Int32) (xb : Nat) (xc : Int32) : Option Int32 := (if xa = (-5 : Int32) then if isBk (tK u xb) then some (tI u xb 1) else none else (if xa = (-4 : Int32) then if isBk (tK u xb) then some (tI u xb 4) else none else (if xa = (-3 : Int32) then if isBk (tK u xb) then some (tI u xb 3) else none else (if xa = (-2 : Int32) then if isBk (tK u xb) then some (tI u xb 2) else none else (if xa = (-1 : Int32) then some xc else some xa)))))
theorem c_X2_factOf {l : Launch} {G : xG} {rr : Int32} {u : xT} {xa : Int32} {xb : Nat} {xc : Int32} (hF : F_X2_factOf u xa xb xc = some rr) : xMi l G yX2_factOf cX2_factOf 3 (Option.some Jvm.ClassFile.FieldType.int) 2 0 0 [.int xa, .ref xb, .int xc] (tE G u) u.1 (fun r z => r = rr ∧ z = ((tE G u), u.1)) := by
  unfold F_X2_factOf at hF
  refine x_startI rfl (Nat.le_of_ble_eq_true rfl) (fun p e s m args below meth cd ls hE hnm hl hD => ?_)
  have hx := hE.1; have hb := hE.2.1
  have hl : lv_has ls 3 [(0, .int xa), (1, .ref xb), (2, .int xc)] := hl
  have hD : tD G (xA (tE G u) s.heap.size) s.heap u s.heap [] := hD
  refine lv_iload_n hx hb dX2_factOf_0 rfl (lv_at hl 0 rfl) ?_
  by_cases c1 : xa = (-5 : Int32)
  · have hF := ite_p hF c1
    refine lv_tableIn (off := 52) (tgt := 53) hx hb dX2_factOf_1 (by rw [c1]; decide) (by rw [c1]; decide) (by rw [c1]; rfl) (by decide) ?_
    refine lv_aload_n hx hb dX2_factOf_53 rfl (lv_at hl 1 rfl) ?_
    obtain ⟨h2, hF⟩ := ite_s hF
    refine gf_X2_78 hE hD h2 dX2_factOf_54 ?_
    obtain rfl := Option.some.inj hF
    exact x_iret hE hD ⟨rfl, rfl⟩ (by omega) (by omega) dX2_factOf_57
  · have hF := ite_n hF c1
    by_cases c3 : xa = (-4 : Int32)
    · have hF := ite_p hF c3
      refine lv_tableIn (off := 47) (tgt := 48) hx hb dX2_factOf_1 (by rw [c3]; decide) (by rw [c3]; decide) (by rw [c3]; rfl) (by decide) ?_
      refine lv_aload_n hx hb dX2_factOf_48 rfl (lv_at hl 1 rfl) ?_
      obtain ⟨h4, hF⟩ := ite_s hF
      refine gf_X2_75 hE hD h4 dX2_factOf_49 ?_
      obtain rfl := Option.some.inj hF
      exact x_iret hE hD ⟨rfl, rfl⟩ (by omega) (by omega) dX2_factOf_52
    · have hF := ite_n hF c3
      by_cases c5 : xa = (-3 : Int32)
      · have hF := ite_p hF c5
        refine lv_tableIn (off := 42) (tgt := 43) hx hb dX2_factOf_1 (by rw [c5]; decide) (by rw [c5]; decide) (by rw [c5]; rfl) (by decide) ?_
        refine lv_aload_n hx hb dX2_factOf_43 rfl (lv_at hl 1 rfl) ?_
        obtain ⟨h6, hF⟩ := ite_s hF
        refine gf_X2_72 hE hD h6 dX2_factOf_44 ?_
        obtain rfl := Option.some.inj hF
        exact x_iret hE hD ⟨rfl, rfl⟩ (by omega) (by omega) dX2_factOf_47
      · have hF := ite_n hF c5
        by_cases c7 : xa = (-2 : Int32)
        · have hF := ite_p hF c7
          refine lv_tableIn (off := 37) (tgt := 38) hx hb dX2_factOf_1 (by rw [c7]; decide) (by rw [c7]; decide) (by rw [c7]; rfl) (by decide) ?_
          refine lv_aload_n hx hb dX2_factOf_38 rfl (lv_at hl 1 rfl) ?_
          obtain ⟨h8, hF⟩ := ite_s hF
          refine gf_X2_69 hE hD h8 dX2_factOf_39 ?_
          obtain rfl := Option.some.inj hF
          exact x_iret hE hD ⟨rfl, rfl⟩ (by omega) (by omega) dX2_factOf_42
        · have hF := ite_n hF c7
          by_cases c9 : xa = (-1 : Int32)
          · have hF := ite_p hF c9
            refine lv_tableIn (off := 35) (tgt := 36) hx hb dX2_factOf_1 (by rw [c9]; decide) (by rw [c9]; decide) (by rw [c9]; rfl) (by decide) ?_
            refine lv_iload_n hx hb dX2_factOf_36 rfl (lv_at hl 2 rfl) ?_
            obtain rfl := Option.some.inj hF
            exact x_iret hE hD ⟨rfl, rfl⟩ (by omega) (by omega) dX2_factOf_37
          · have hF := ite_n hF c9
            refine lv_tableOut (tgt := 58) hx hb dX2_factOf_1 (by have hc1 := lv_neT (a := (-5)) c1 rfl; have hc3 := lv_neT (a := (-4)) c3 rfl; have hc5 := lv_neT (a := (-3)) c5 rfl; have hc7 := lv_neT (a := (-2)) c7 rfl; have hc9 := lv_neT (a := (-1)) c9 rfl; omega) (by decide) ?_
            refine lv_iload_n hx hb dX2_factOf_58 rfl (lv_at hl 0 rfl) ?_
            obtain rfl := Option.some.inj hF
            exact x_iret hE hD ⟨rfl, rfl⟩ (by omega) (by omega) dX2_factOf_59
def F_X2_holds_j177 (u : xT) (a0 : Nat) (s0 : Int32) : Option Int32 := if s0 = 0 ∨ s0 = 1 then some s0 else none
theorem B_X2_holds_j177 {p : Program} {l : Launch} {e : Env} {s : State} {m : MethodId} {args : Array Value} {below : List Frame} {meth : Method} {cd : Code} {G : xG} {w0 : xW} {rr : Int32} (hE : xE p s m args meth cd cX2_holds RX2 G 11 (Option.some Jvm.ClassFile.FieldType.boolean)) {u : xT} {a0 : Nat} {s0 : Int32} {H : Heap} {locs : List Loc} {ls : Array Slot} (hD : tD G (xA w0 s.heap.size) s.heap u H locs) (hl : lv_has ls 11 [(0, .ref a0)]) (hF : F_X2_holds_j177 u a0 s0 = some rr) : W p l e (xR 3 0 0) s m args below meth cd H locs 0 0 (xQi G w0 (fun r z => r = rr ∧ (rr = 0 ∨ rr = 1) ∧ z = ((tE G u), u.1)) below args s 0 0) (F0 m 177 ls [.int s0]) := by
  have hx := hE.1; have hb := hE.2.1
  unfold F_X2_holds_j177 at hF
  obtain ⟨h1, hF⟩ := ite_s hF
  obtain rfl := Option.some.inj hF
  exact x_zret hE hD h1 ⟨rfl, h1, rfl⟩ (by omega) (by omega) dX2_holds_177
def F_X2_holds_j163 (u : xT) (a0 : Nat) (y5 : Int64) : Option Int32 := if (lg_cmp (y5 &&& (1 : Int64)) (0 : Int64)) = 0 then F_X2_holds_j177 u a0 (0 : Int32) else F_X2_holds_j177 u a0 (1 : Int32)
theorem B_X2_holds_j163 {p : Program} {l : Launch} {e : Env} {s : State} {m : MethodId} {args : Array Value} {below : List Frame} {meth : Method} {cd : Code} {G : xG} {w0 : xW} {rr : Int32} (hE : xE p s m args meth cd cX2_holds RX2 G 11 (Option.some Jvm.ClassFile.FieldType.boolean)) {u : xT} {a0 : Nat} {y5 : Int64} {H : Heap} {locs : List Loc} {ls : Array Slot} (hD : tD G (xA w0 s.heap.size) s.heap u H locs) (hl : lv_has ls 11 [(0, .ref a0), (5, .long y5)]) (hF : F_X2_holds_j163 u a0 y5 = some rr) : W p l e (xR 3 0 0) s m args below meth cd H locs 0 0 (xQi G w0 (fun r z => r = rr ∧ (rr = 0 ∨ rr = 1) ∧ z = ((tE G u), u.1)) below args s 0 0) (F0 m 163 ls []) := by
  have hx := hE.1; have hb := hE.2.1
  unfold F_X2_holds_j163 at hF
  refine lv_lload hx hb dX2_holds_163 (lv_at hl 1 rfl) ?_
  refine lv_lconst (v := (1 : Int64)) hx hb dX2_holds_165 (by decide) ?_
  refine lv_land hx hb dX2_holds_166 ?_
  refine lv_lconst (v := (0 : Int64)) hx hb dX2_holds_167 (by decide) ?_
  refine W.lcmp hx hb dX2_holds_168 ?_
  refine lv_if_eq (tgt := 176) hx hb dX2_holds_169 (by decide) (fun c2 => ?_) (fun c2 => ?_)
  · have hF := ite_p hF c2
    refine lv_iconst (v := (0 : Int32)) hx hb dX2_holds_176 (by decide) ?_
    exact B_X2_holds_j177 hE hD (lv_sub hl [0] rfl) hF
  · have hF := ite_n hF c2
    refine lv_iconst (v := (1 : Int32)) hx hb dX2_holds_172 (by decide) ?_
    refine lv_goto (tgt := 177) hx hb dX2_holds_173 (by decide) ?_
    exact B_X2_holds_j177 hE hD (lv_sub hl [0] rfl) hF
def F_X2_holds_j157 (kc6 : xT → Nat → Int32 → Nat → Int32 → Int64 → Int32 → Option Int32) (u : xT) (a0 : Nat) (y2 : Int32) (y3 : Nat) (y4 : Int32) (y5 : Int64) (y7 : Int32) : Option Int32 := xlet (y7 + (1 : Int32)) (fun x3 => kc6 u a0 y2 y3 y4 y5 x3)
theorem B_X2_holds_j157 {p : Program} {l : Launch} {e : Env} {s : State} {m : MethodId} {args : Array Value} {below : List Frame} {meth : Method} {cd : Code} {G : xG} {w0 : xW} {rr : Int32} (hE : xE p s m args meth cd cX2_holds RX2 G 11 (Option.some Jvm.ClassFile.FieldType.boolean)) {u : xT} (kc6 : xT → Nat → Int32 → Nat → Int32 → Int64 → Int32 → Option Int32) (hc6 : ∀ {a0 : Nat} {y2 : Int32} {y3 : Nat} {y4 : Int32} {y5 : Int64} {y7 : Int32} {H : Heap} {locs : List Loc} {ls : Array Slot} , tD G (xA w0 s.heap.size) s.heap u H locs → lv_has ls 11 [(0, .ref a0), (2, .int y2), (3, .ref y3), (4, .int y4), (5, .long y5), (7, .int y7)] → kc6 u a0 y2 y3 y4 y5 y7 = some rr → W p l e (xR 3 0 0) s m args below meth cd H locs 0 0 (xQi G w0 (fun r z => r = rr ∧ (rr = 0 ∨ rr = 1) ∧ z = ((tE G u), u.1)) below args s 0 0) (F0 m 6 ls [])) {a0 : Nat} {y2 : Int32} {y3 : Nat} {y4 : Int32} {y5 : Int64} {y7 : Int32} {H : Heap} {locs : List Loc} {ls : Array Slot} (hD : tD G (xA w0 s.heap.size) s.heap u H locs) (hl : lv_has ls 11 [(0, .ref a0), (2, .int y2), (3, .ref y3), (4, .int y4), (5, .long y5), (7, .int y7)]) (hF : F_X2_holds_j157 kc6 u a0 y2 y3 y4 y5 y7 = some rr) : W p l e (xR 3 0 0) s m args below meth cd H locs 0 0 (xQi G w0 (fun r z => r = rr ∧ (rr = 0 ∨ rr = 1) ∧ z = ((tE G u), u.1)) below args s 0 0) (F0 m 157 ls []) := by
  have hx := hE.1; have hb := hE.2.1
  unfold F_X2_holds_j157 at hF
  obtain ⟨x3, ex3⟩ : ∃ y : Int32, y = y7 + (1 : Int32) := ⟨_, rfl⟩
  have hF := xlet_e hF ex3
  refine lv_iinc (v := x3) (lv' := [(7, .int x3), (0, .ref a0), (2, .int y2), (3, .ref y3), (4, .int y4), (5, .long y5)]) hx hb dX2_holds_157 hl (k := 5) rfl (by rw [ex3]; rfl) (by decide) rfl (fun ls hl => ?_)
  refine lv_goto (tgt := 6) hx hb dX2_holds_160 (by decide) ?_
  exact hc6 hD (lv_sub hl [1, 2, 3, 4, 5, 0] rfl) hF
def F_X2_holds_j153 (kc6 : xT → Nat → Int32 → Nat → Int32 → Int64 → Int32 → Option Int32) (u : xT) (a0 : Nat) (y2 : Int32) (y3 : Nat) (y4 : Int32) (y7 : Int32) (s0 : Int64) (s1 : Int32) : Option Int32 := xlet (s0 ||| s1.toInt64) (fun x4 => F_X2_holds_j157 kc6 u a0 y2 y3 y4 x4 y7)
theorem B_X2_holds_j153 {p : Program} {l : Launch} {e : Env} {s : State} {m : MethodId} {args : Array Value} {below : List Frame} {meth : Method} {cd : Code} {G : xG} {w0 : xW} {rr : Int32} (hE : xE p s m args meth cd cX2_holds RX2 G 11 (Option.some Jvm.ClassFile.FieldType.boolean)) {u : xT} (kc6 : xT → Nat → Int32 → Nat → Int32 → Int64 → Int32 → Option Int32) (hc6 : ∀ {a0 : Nat} {y2 : Int32} {y3 : Nat} {y4 : Int32} {y5 : Int64} {y7 : Int32} {H : Heap} {locs : List Loc} {ls : Array Slot} , tD G (xA w0 s.heap.size) s.heap u H locs → lv_has ls 11 [(0, .ref a0), (2, .int y2), (3, .ref y3), (4, .int y4), (5, .long y5), (7, .int y7)] → kc6 u a0 y2 y3 y4 y5 y7 = some rr → W p l e (xR 3 0 0) s m args below meth cd H locs 0 0 (xQi G w0 (fun r z => r = rr ∧ (rr = 0 ∨ rr = 1) ∧ z = ((tE G u), u.1)) below args s 0 0) (F0 m 6 ls [])) {a0 : Nat} {y2 : Int32} {y3 : Nat} {y4 : Int32} {y7 : Int32} {s0 : Int64} {s1 : Int32} {H : Heap} {locs : List Loc} {ls : Array Slot} (hD : tD G (xA w0 s.heap.size) s.heap u H locs) (hl : lv_has ls 11 [(0, .ref a0), (2, .int y2), (3, .ref y3), (4, .int y4), (7, .int y7)]) (hF : F_X2_holds_j153 kc6 u a0 y2 y3 y4 y7 s0 s1 = some rr) : W p l e (xR 3 0 0) s m args below meth cd H locs 0 0 (xQi G w0 (fun r z => r = rr ∧ (rr = 0 ∨ rr = 1) ∧ z = ((tE G u), u.1)) below args s 0 0) (F0 m 153 ls [.int s1, .long s0]) := by
  have hx := hE.1; have hb := hE.2.1
  unfold F_X2_holds_j153 at hF
  refine lv_i2l (v := s1.toInt64) hx hb dX2_holds_153 rfl ?_
  refine lv_lor hx hb dX2_holds_154 ?_
  refine lv_topl (fun x4 ex4 => ?_)
  have hF := xlet_e hF ex4
  refine lv_lstore (lv' := [(5, .long x4), (0, .ref a0), (2, .int y2), (3, .ref y3), (4, .int y4), (7, .int y7)]) hx hb dX2_holds_155 hl (by decide) rfl (fun ls hl => ?_)
  exact B_X2_holds_j157 hE kc6 hc6 hD (lv_sub hl [1, 2, 3, 4, 0, 5] rfl) hF
def F_X2_holds_l6 : Nat → xT → Nat → Int32 → Nat → Int32 → Int64 → Int32 → Option Int32
  | 0, _, _, _, _, _, _, _ => none
  | nn + 1, u, a0, y2, y3, y4, y5, y7 => if y7 < 0 then F_X2_holds_j163 u a0 y5 else if y2 ≤ y7 then F_X2_holds_j163 u a0 y5 else if (100 : Int32) ≤ y7 then F_X2_holds_j163 u a0 y5 else xlet (y5 &&& (1 : Int64)) (fun x8 => if tK u a0 = 2 then (tP u a0 6).bind (fun q10 => if tK u q10 = 20 then if xIn y7 (tN u q10) then xlet (tI u q10 y7.toNatClampNeg) (fun x14 => (if x14 = (3 : Int32) then xlet (y5 ^^^ (1 : Int64)) (fun x16 => F_X2_holds_j157 (F_X2_holds_l6 nn) u a0 y2 y3 y4 x16 y7) else (if x14 = (4 : Int32) then xlet ((y5 >>> ((1 : Int32).toInt64 &&& 63)) &&& (x8 ||| (-2 : Int64))) (fun x18 => F_X2_holds_j157 (F_X2_holds_l6 nn) u a0 y2 y3 y4 x18 y7) else (if x14 = (5 : Int32) then xlet ((y5 >>> ((1 : Int32).toInt64 &&& 63)) ||| x8) (fun x20 => F_X2_holds_j157 (F_X2_holds_l6 nn) u a0 y2 y3 y4 x20 y7) else (tP u a0 6).bind (fun q21 => if tK u q21 = 20 then if xIn y7 (tN u q21) then (tP u a0 7).bind (fun q25 => if tK u q25 = 20 then if xIn y7 (tN u q25) then (F_X2_factOf u (tI u q25 y7.toNatClampNeg) y3 y4).bind (fun r29 => (tP u a0 8).bind (fun q31 => if tK u q31 = 20 then if xIn y7 (tN u q31) then (F_X2_factOf u (tI u q31 y7.toNatClampNeg) y3 y4).bind (fun r35 => (F_X2_compares (tI u q21 y7.toNatClampNeg) r29 r35).bind (fun r37 => if r37 = 0 then F_X2_holds_j153 (F_X2_holds_l6 nn) u a0 y2 y3 y4 y7 (y5 <<< ((1 : Int32).toInt64 &&& 63)) (0 : Int32) else F_X2_holds_j153 (F_X2_holds_l6 nn) u a0 y2 y3 y4 y7 (y5 <<< ((1 : Int32).toInt64 &&& 63)) (1 : Int32))) else none else none)) else none else none) else none else none))))) else none else none) else none)
theorem L_X2_holds_l6 {p : Program} {l : Launch} {e : Env} {s : State} {m : MethodId} {args : Array Value} {below : List Frame} {meth : Method} {cd : Code} {G : xG} {w0 : xW} {rr : Int32} (hE : xE p s m args meth cd cX2_holds RX2 G 11 (Option.some Jvm.ClassFile.FieldType.boolean)) : ∀ (nn : Nat) {u : xT} {a0 : Nat} {y2 : Int32} {y3 : Nat} {y4 : Int32} {y5 : Int64} {y7 : Int32} {H : Heap} {locs : List Loc} {ls : Array Slot} , tD G (xA w0 s.heap.size) s.heap u H locs → lv_has ls 11 [(0, .ref a0), (2, .int y2), (3, .ref y3), (4, .int y4), (5, .long y5), (7, .int y7)] → F_X2_holds_l6 nn u a0 y2 y3 y4 y5 y7 = some rr → W p l e (xR 3 0 0) s m args below meth cd H locs 0 0 (xQi G w0 (fun r z => r = rr ∧ (rr = 0 ∨ rr = 1) ∧ z = ((tE G u), u.1)) below args s 0 0) (F0 m 6 ls []) := by
  have hx := hE.1; have hb := hE.2.1
  intro nn
  induction nn with
  | zero => intro u a0 y2 y3 y4 y5 y7 H locs ls hD hl hF; rw [F_X2_holds_l6] at hF; cases hF
  | succ nn ih =>
    intro u a0 y2 y3 y4 y5 y7 H locs ls hD hl hF
    rw [F_X2_holds_l6] at hF
    refine lv_iload hx hb dX2_holds_6 (lv_at hl 5 rfl) ?_
    refine lv_if_lt (tgt := 163) hx hb dX2_holds_8 (by decide) (fun c5 => ?_) (fun c5 => ?_)
    · have hF := ite_p hF c5
      exact B_X2_holds_j163 hE hD (lv_sub hl [0, 4] rfl) hF
    · have hF := ite_n hF c5
      refine lv_iload hx hb dX2_holds_11 (lv_at hl 5 rfl) ?_
      refine lv_iload_n hx hb dX2_holds_13 rfl (lv_at hl 1 rfl) ?_
      refine lv_icmp_ge (tgt := 163) hx hb dX2_holds_14 (by decide) (fun c6 => ?_) (fun c6 => ?_)
      · have hF := ite_p hF c6
        exact B_X2_holds_j163 hE hD (lv_sub hl [0, 4] rfl) hF
      · have hF := ite_n hF c6
        refine lv_iload hx hb dX2_holds_17 (lv_at hl 5 rfl) ?_
        refine lv_bipush (v := (100 : Int32)) hx hb dX2_holds_19 (by decide) ?_
        refine lv_icmp_ge (tgt := 163) hx hb dX2_holds_21 (by decide) (fun c7 => ?_) (fun c7 => ?_)
        · have hF := ite_p hF c7
          exact B_X2_holds_j163 hE hD (lv_sub hl [0, 4] rfl) hF
        · have hF := ite_n hF c7
          refine lv_lload hx hb dX2_holds_24 (lv_at hl 4 rfl) ?_
          refine lv_lconst (v := (1 : Int64)) hx hb dX2_holds_26 (by decide) ?_
          refine lv_land hx hb dX2_holds_27 ?_
          refine lv_topl (fun x8 ex8 => ?_)
          have hF := xlet_e hF ex8
          refine lv_lstore (lv' := [(8, .long x8), (0, .ref a0), (2, .int y2), (3, .ref y3), (4, .int y4), (5, .long y5), (7, .int y7)]) hx hb dX2_holds_28 hl (by decide) rfl (fun ls hl => ?_)
          refine lv_aload_n hx hb dX2_holds_30 rfl (lv_at hl 1 rfl) ?_
          obtain ⟨h9, hF⟩ := ite_s hF
          obtain ⟨q10, h11, hF⟩ := xb_s hF
          refine gr_X2_31 hE hD h9 h11 dX2_holds_31 ?_
          refine lv_iload hx hb dX2_holds_34 (lv_at hl 6 rfl) ?_
          obtain ⟨h12, hF⟩ := ite_s hF
          obtain ⟨h13, hF⟩ := ite_s hF
          refine t_iald hE hD h12 h13 dX2_holds_36 ?_
          refine lv_topi (fun x14 ex14 => ?_)
          have hF := xlet_e hF ex14
          by_cases c15 : x14 = (3 : Int32)
          · have hF := ite_p hF c15
            refine lv_tableIn (off := 27) (tgt := 64) hx hb dX2_holds_37 (by rw [c15]; decide) (by rw [c15]; decide) (by rw [c15]; rfl) (by decide) ?_
            refine lv_lload hx hb dX2_holds_64 (lv_at hl 5 rfl) ?_
            refine lv_lconst (v := (1 : Int64)) hx hb dX2_holds_66 (by decide) ?_
            refine lv_lxor hx hb dX2_holds_67 ?_
            refine lv_topl (fun x16 ex16 => ?_)
            have hF := xlet_e hF ex16
            refine lv_lstore (lv' := [(5, .long x16), (8, .long x8), (0, .ref a0), (2, .int y2), (3, .ref y3), (4, .int y4), (7, .int y7)]) hx hb dX2_holds_68 hl (by decide) rfl (fun ls hl => ?_)
            refine lv_goto (tgt := 157) hx hb dX2_holds_70 (by decide) ?_
            exact B_X2_holds_j157 hE (F_X2_holds_l6 nn) ih hD (lv_sub hl [2, 3, 4, 5, 0, 6] rfl) hF
          · have hF := ite_n hF c15
            by_cases c17 : x14 = (4 : Int32)
            · have hF := ite_p hF c17
              refine lv_tableIn (off := 36) (tgt := 73) hx hb dX2_holds_37 (by rw [c17]; decide) (by rw [c17]; decide) (by rw [c17]; rfl) (by decide) ?_
              refine lv_lload hx hb dX2_holds_73 (lv_at hl 5 rfl) ?_
              refine lv_iconst (v := (1 : Int32)) hx hb dX2_holds_75 (by decide) ?_
              refine lv_lshr (v := y5 >>> ((1 : Int32).toInt64 &&& 63)) hx hb dX2_holds_76 rfl ?_
              refine lv_lload hx hb dX2_holds_77 (lv_at hl 0 rfl) ?_
              refine lv_ldc2 (v := (-2 : Int64)) hx hb hE.2.2.1 (hE.2.2.2.1 _ kw2_116) dX2_holds_79 ?_
              refine lv_lor hx hb dX2_holds_82 ?_
              refine lv_land hx hb dX2_holds_83 ?_
              refine lv_topl (fun x18 ex18 => ?_)
              have hF := xlet_e hF ex18
              refine lv_lstore (lv' := [(5, .long x18), (8, .long x8), (0, .ref a0), (2, .int y2), (3, .ref y3), (4, .int y4), (7, .int y7)]) hx hb dX2_holds_84 hl (by decide) rfl (fun ls hl => ?_)
              refine lv_goto (tgt := 157) hx hb dX2_holds_86 (by decide) ?_
              exact B_X2_holds_j157 hE (F_X2_holds_l6 nn) ih hD (lv_sub hl [2, 3, 4, 5, 0, 6] rfl) hF
            · have hF := ite_n hF c17
              by_cases c19 : x14 = (5 : Int32)
              · have hF := ite_p hF c19
                refine lv_tableIn (off := 52) (tgt := 89) hx hb dX2_holds_37 (by rw [c19]; decide) (by rw [c19]; decide) (by rw [c19]; rfl) (by decide) ?_
                refine lv_lload hx hb dX2_holds_89 (lv_at hl 5 rfl) ?_
                refine lv_iconst (v := (1 : Int32)) hx hb dX2_holds_91 (by decide) ?_
                refine lv_lshr (v := y5 >>> ((1 : Int32).toInt64 &&& 63)) hx hb dX2_holds_92 rfl ?_
                refine lv_lload hx hb dX2_holds_93 (lv_at hl 0 rfl) ?_
                refine lv_lor hx hb dX2_holds_95 ?_
                refine lv_topl (fun x20 ex20 => ?_)
                have hF := xlet_e hF ex20
                refine lv_lstore (lv' := [(5, .long x20), (8, .long x8), (0, .ref a0), (2, .int y2), (3, .ref y3), (4, .int y4), (7, .int y7)]) hx hb dX2_holds_96 hl (by decide) rfl (fun ls hl => ?_)
                refine lv_goto (tgt := 157) hx hb dX2_holds_98 (by decide) ?_
                exact B_X2_holds_j157 hE (F_X2_holds_l6 nn) ih hD (lv_sub hl [2, 3, 4, 5, 0, 6] rfl) hF
              · have hF := ite_n hF c19
                refine lv_tableOut (tgt := 101) hx hb dX2_holds_37 (by have hc15 := lv_neT (a := 3) c15 rfl; have hc17 := lv_neT (a := 4) c17 rfl; have hc19 := lv_neT (a := 5) c19 rfl; omega) (by decide) ?_
                refine lv_aload_n hx hb dX2_holds_101 rfl (lv_at hl 1 rfl) ?_
                obtain ⟨q21, h22, hF⟩ := xb_s hF
                refine gr_X2_31 hE hD h9 h22 dX2_holds_102 ?_
                refine lv_iload hx hb dX2_holds_105 (lv_at hl 6 rfl) ?_
                obtain ⟨h23, hF⟩ := ite_s hF
                obtain ⟨h24, hF⟩ := ite_s hF
                refine t_iald hE hD h23 h24 dX2_holds_107 ?_
                refine lv_aload_n hx hb dX2_holds_108 rfl (lv_at hl 1 rfl) ?_
                obtain ⟨q25, h26, hF⟩ := xb_s hF
                refine gr_X2_34 hE hD h9 h26 dX2_holds_109 ?_
                refine lv_iload hx hb dX2_holds_112 (lv_at hl 6 rfl) ?_
                obtain ⟨h27, hF⟩ := ite_s hF
                obtain ⟨h28, hF⟩ := ite_s hF
                refine t_iald hE hD h27 h28 dX2_holds_114 ?_
                refine lv_aload_n hx hb dX2_holds_115 rfl (lv_at hl 3 rfl) ?_
                refine lv_iload hx hb dX2_holds_116 (lv_at hl 4 rfl) ?_
                obtain ⟨r29, k30, hF⟩ := xb_s hF
                refine kSi (As := [.int (tI u q25 y7.toNatClampNeg), .ref y3, .int y4]) (rest := [.int (tI u q21 y7.toNatClampNeg)]) hE hl hD (c_X2_factOf k30) kl_X2_61 rfl rfl (Nat.le_of_ble_eq_true rfl) dX2_holds_118 ⟨Nat.le_of_ble_eq_true rfl, Nat.le_of_ble_eq_true rfl⟩ ⟨Nat.le_of_ble_eq_true rfl, Nat.le_of_ble_eq_true rfl⟩ (fun H locs (hD : tD G _ _ u H locs) => ?_)
                refine lv_aload_n hx hb dX2_holds_121 rfl (lv_at hl 1 rfl) ?_
                obtain ⟨q31, h32, hF⟩ := xb_s hF
                refine gr_X2_37 hE hD h9 h32 dX2_holds_122 ?_
                refine lv_iload hx hb dX2_holds_125 (lv_at hl 6 rfl) ?_
                obtain ⟨h33, hF⟩ := ite_s hF
                obtain ⟨h34, hF⟩ := ite_s hF
                refine t_iald hE hD h33 h34 dX2_holds_127 ?_
                refine lv_aload_n hx hb dX2_holds_128 rfl (lv_at hl 3 rfl) ?_
                refine lv_iload hx hb dX2_holds_129 (lv_at hl 4 rfl) ?_
                obtain ⟨r35, k36, hF⟩ := xb_s hF
                refine kSi (As := [.int (tI u q31 y7.toNatClampNeg), .ref y3, .int y4]) (rest := [.int r29, .int (tI u q21 y7.toNatClampNeg)]) hE hl hD (c_X2_factOf k36) kl_X2_61 rfl rfl (Nat.le_of_ble_eq_true rfl) dX2_holds_131 ⟨Nat.le_of_ble_eq_true rfl, Nat.le_of_ble_eq_true rfl⟩ ⟨Nat.le_of_ble_eq_true rfl, Nat.le_of_ble_eq_true rfl⟩ (fun H locs (hD : tD G _ _ u H locs) => ?_)
                obtain ⟨r37, k38, hF⟩ := xb_s hF
                refine kSz (As := [.int (tI u q21 y7.toNatClampNeg), .int r29, .int r35]) (rest := []) hE hl hD (c_X2_compares k38) kl_X2_65 rfl rfl (Nat.le_of_ble_eq_true rfl) dX2_holds_134 ⟨Nat.le_of_ble_eq_true rfl, Nat.le_of_ble_eq_true rfl⟩ ⟨Nat.le_of_ble_eq_true rfl, Nat.le_of_ble_eq_true rfl⟩ (fun H locs z39 (hD : tD G _ _ u H locs) => ?_)
                refine lv_istore (lv' := [(10, .int r37), (8, .long x8), (0, .ref a0), (2, .int y2), (3, .ref y3), (4, .int y4), (5, .long y5), (7, .int y7)]) hx hb dX2_holds_137 hl (by decide) rfl (fun ls hl => ?_)
                refine lv_lload hx hb dX2_holds_139 (lv_at hl 6 rfl) ?_
                refine lv_iconst (v := (1 : Int32)) hx hb dX2_holds_141 (by decide) ?_
                refine lv_lshl (v := y5 <<< ((1 : Int32).toInt64 &&& 63)) hx hb dX2_holds_142 rfl ?_
                refine lv_iload hx hb dX2_holds_143 (lv_at hl 0 rfl) ?_
                refine lv_if_eq (tgt := 152) hx hb dX2_holds_145 (by decide) (fun c40 => ?_) (fun c40 => ?_)
                · have hF := ite_p hF c40
                  refine lv_iconst (v := (0 : Int32)) hx hb dX2_holds_152 (by decide) ?_
                  exact B_X2_holds_j153 hE (F_X2_holds_l6 nn) ih hD (lv_sub hl [2, 3, 4, 5, 7] rfl) hF
                · have hF := ite_n hF c40
                  refine lv_iconst (v := (1 : Int32)) hx hb dX2_holds_148 (by decide) ?_
                  refine lv_goto (tgt := 153) hx hb dX2_holds_149 (by decide) ?_
                  exact B_X2_holds_j153 hE (F_X2_holds_l6 nn) ih hD (lv_sub hl [2, 3, 4, 5, 7] rfl) hF
def F_X2_holds (u : xT) (a0 : Nat) (xa : Int32) (xb : Int32) (xc : Nat) (xd : Int32) : Option Int32 := F_X2_holds_l6 xFuel u a0 xb xc xd (1 : Int64) xa
theorem c_X2_holds {l : Launch} {G : xG} {rr : Int32} {u : xT} {a0 : Nat} {xa : Int32} {xb : Int32} {xc : Nat} {xd : Int32} (hF : F_X2_holds u a0 xa xb xc xd = some rr) : xMi l G yX2_holds cX2_holds 11 (Option.some Jvm.ClassFile.FieldType.boolean) 3 0 0 [.ref a0, .int xa, .int xb, .ref xc, .int xd] (tE G u) u.1 (fun r z => r = rr ∧ (rr = 0 ∨ rr = 1) ∧ z = ((tE G u), u.1)) := by
  unfold F_X2_holds at hF
  refine x_startI rfl (Nat.le_of_ble_eq_true rfl) (fun p e s m args below meth cd ls hE hnm hl hD => ?_)
  have hx := hE.1; have hb := hE.2.1
  have hl : lv_has ls 11 [(0, .ref a0), (1, .int xa), (2, .int xb), (3, .ref xc), (4, .int xd)] := hl
  have hD : tD G (xA (tE G u) s.heap.size) s.heap u s.heap [] := hD
  refine lv_lconst (v := (1 : Int64)) hx hb dX2_holds_0 (by decide) ?_
  refine lv_lstore (lv' := [(5, .long (1 : Int64)), (0, .ref a0), (1, .int xa), (2, .int xb), (3, .ref xc), (4, .int xd)]) hx hb dX2_holds_1 hl (by decide) rfl (fun ls hl => ?_)
  refine lv_iload_n hx hb dX2_holds_3 rfl (lv_at hl 2 rfl) ?_
  refine lv_istore (lv' := [(7, .int xa), (5, .long (1 : Int64)), (0, .ref a0), (1, .int xa), (2, .int xb), (3, .ref xc), (4, .int xd)]) hx hb dX2_holds_4 hl (by decide) rfl (fun ls hl => ?_)
  exact L_X2_holds_l6 hE _ hD (lv_sub hl [2, 4, 5, 6, 1, 0] rfl) hF
theorem kn_X2_52 : xLN RX2 52 yX11_isUnder cX11_isUnder 2 (Option.some Jvm.ClassFile.FieldType.boolean) 2 := ⟨⟨kw2_110, kw1_1, kw2_111⟩, by decide, by decide, by decide, by decide +kernel⟩
def F_X2_clauseFor_j61 (u : xT) (a0 : Nat) : Option Int32 := some (-1 : Int32)
theorem B_X2_clauseFor_j61 {p : Program} {l : Launch} {e : Env} {s : State} {m : MethodId} {args : Array Value} {below : List Frame} {meth : Method} {cd : Code} {G : xG} {w0 : xW} {rr : Int32} (hE : xE p s m args meth cd cX2_clauseFor RX2 G 4 (Option.some Jvm.ClassFile.FieldType.int)) {u : xT} {a0 : Nat} {H : Heap} {locs : List Loc} {ls : Array Slot} (hD : tD G (xA w0 s.heap.size) s.heap u H locs) (hl : lv_has ls 4 [(0, .ref a0)]) (hF : F_X2_clauseFor_j61 u a0 = some rr) : W p l e (xR 4 0 0) s m args below meth cd H locs 0 0 (xQi G w0 (fun r z => r = rr ∧ z = ((tE G u), u.1)) below args s 0 0) (F0 m 61 ls []) := by
  have hx := hE.1; have hb := hE.2.1
  unfold F_X2_clauseFor_j61 at hF
  refine lv_iconst (v := (-1 : Int32)) hx hb dX2_clauseFor_61 (by decide) ?_
  obtain rfl := Option.some.inj hF
  exact x_iret hE hD ⟨rfl, rfl⟩ (by omega) (by omega) dX2_clauseFor_62
def F_X2_clauseFor_j55 (kc2 : xT → Nat → Nat → Int32 → Int32 → Option Int32) (u : xT) (a0 : Nat) (y1 : Nat) (y2 : Int32) (y3 : Int32) : Option Int32 := xlet (y3 + (1 : Int32)) (fun x1 => kc2 u a0 y1 y2 x1)
theorem B_X2_clauseFor_j55 {p : Program} {l : Launch} {e : Env} {s : State} {m : MethodId} {args : Array Value} {below : List Frame} {meth : Method} {cd : Code} {G : xG} {w0 : xW} {rr : Int32} (hE : xE p s m args meth cd cX2_clauseFor RX2 G 4 (Option.some Jvm.ClassFile.FieldType.int)) {u : xT} (kc2 : xT → Nat → Nat → Int32 → Int32 → Option Int32) (hc2 : ∀ {a0 : Nat} {y1 : Nat} {y2 : Int32} {y3 : Int32} {H : Heap} {locs : List Loc} {ls : Array Slot} , tD G (xA w0 s.heap.size) s.heap u H locs → lv_has ls 4 [(0, .ref a0), (1, .ref y1), (2, .int y2), (3, .int y3)] → kc2 u a0 y1 y2 y3 = some rr → W p l e (xR 4 0 0) s m args below meth cd H locs 0 0 (xQi G w0 (fun r z => r = rr ∧ z = ((tE G u), u.1)) below args s 0 0) (F0 m 2 ls [])) {a0 : Nat} {y1 : Nat} {y2 : Int32} {y3 : Int32} {H : Heap} {locs : List Loc} {ls : Array Slot} (hD : tD G (xA w0 s.heap.size) s.heap u H locs) (hl : lv_has ls 4 [(0, .ref a0), (1, .ref y1), (2, .int y2), (3, .int y3)]) (hF : F_X2_clauseFor_j55 kc2 u a0 y1 y2 y3 = some rr) : W p l e (xR 4 0 0) s m args below meth cd H locs 0 0 (xQi G w0 (fun r z => r = rr ∧ z = ((tE G u), u.1)) below args s 0 0) (F0 m 55 ls []) := by
  have hx := hE.1; have hb := hE.2.1
  unfold F_X2_clauseFor_j55 at hF
  obtain ⟨x1, ex1⟩ : ∃ y : Int32, y = y3 + (1 : Int32) := ⟨_, rfl⟩
  have hF := xlet_e hF ex1
  refine lv_iinc (v := x1) (lv' := [(3, .int x1), (0, .ref a0), (1, .ref y1), (2, .int y2)]) hx hb dX2_clauseFor_55 hl (k := 3) rfl (by rw [ex1]; rfl) (by decide) rfl (fun ls hl => ?_)
  refine lv_goto (tgt := 2) hx hb dX2_clauseFor_58 (by decide) ?_
  exact hc2 hD (lv_sub hl [1, 2, 3, 0] rfl) hF
def F_X2_clauseFor_l2 : Nat → xT → Nat → Nat → Int32 → Int32 → Option Int32
  | 0, _, _, _, _, _ => none
  | nn + 1, u, a0, y1, y2, y3 => if tK u a0 = 2 then if (tI u a0 0) ≤ y3 then F_X2_clauseFor_j61 u a0 else if (8 : Int32) ≤ y3 then F_X2_clauseFor_j61 u a0 else if isBk (tK u y1) then (tP u a0 1).bind (fun q6 => if tK u q6 = 20 then if xIn y3 (tN u q6) then (F_X11_isUnder (tI u y1 0) (tI u q6 y3.toNatClampNeg)).bind (fun r10 => if r10 = 0 then F_X2_clauseFor_j55 (F_X2_clauseFor_l2 nn) u a0 y1 y2 y3 else (tP u a0 4).bind (fun q14 => if tK u q14 = 20 then if xIn y3 (tN u q14) then (tP u a0 5).bind (fun q18 => if tK u q18 = 20 then if xIn y3 (tN u q18) then (F_X2_holds u a0 (tI u q14 y3.toNatClampNeg) (tI u q18 y3.toNatClampNeg) y1 y2).bind (fun r22 => if r22 = 0 then F_X2_clauseFor_j55 (F_X2_clauseFor_l2 nn) u a0 y1 y2 y3 else some y3) else none else none) else none else none)) else none else none) else none else none
theorem L_X2_clauseFor_l2 {p : Program} {l : Launch} {e : Env} {s : State} {m : MethodId} {args : Array Value} {below : List Frame} {meth : Method} {cd : Code} {G : xG} {w0 : xW} {rr : Int32} (hE : xE p s m args meth cd cX2_clauseFor RX2 G 4 (Option.some Jvm.ClassFile.FieldType.int)) : ∀ (nn : Nat) {u : xT} {a0 : Nat} {y1 : Nat} {y2 : Int32} {y3 : Int32} {H : Heap} {locs : List Loc} {ls : Array Slot} , tD G (xA w0 s.heap.size) s.heap u H locs → lv_has ls 4 [(0, .ref a0), (1, .ref y1), (2, .int y2), (3, .int y3)] → F_X2_clauseFor_l2 nn u a0 y1 y2 y3 = some rr → W p l e (xR 4 0 0) s m args below meth cd H locs 0 0 (xQi G w0 (fun r z => r = rr ∧ z = ((tE G u), u.1)) below args s 0 0) (F0 m 2 ls []) := by
  have hx := hE.1; have hb := hE.2.1
  intro nn
  induction nn with
  | zero => intro u a0 y1 y2 y3 H locs ls hD hl hF; rw [F_X2_clauseFor_l2] at hF; cases hF
  | succ nn ih =>
    intro u a0 y1 y2 y3 H locs ls hD hl hF
    rw [F_X2_clauseFor_l2] at hF
    refine lv_iload_n hx hb dX2_clauseFor_2 rfl (lv_at hl 3 rfl) ?_
    refine lv_aload_n hx hb dX2_clauseFor_3 rfl (lv_at hl 0 rfl) ?_
    obtain ⟨h2, hF⟩ := ite_s hF
    refine gf_X2_9 hE hD h2 dX2_clauseFor_4 ?_
    refine lv_icmp_ge (tgt := 61) hx hb dX2_clauseFor_7 (by decide) (fun c3 => ?_) (fun c3 => ?_)
    · have hF := ite_p hF c3
      exact B_X2_clauseFor_j61 hE hD (lv_sub hl [0] rfl) hF
    · have hF := ite_n hF c3
      refine lv_iload_n hx hb dX2_clauseFor_10 rfl (lv_at hl 3 rfl) ?_
      refine lv_bipush (v := (8 : Int32)) hx hb dX2_clauseFor_11 (by decide) ?_
      refine lv_icmp_ge (tgt := 61) hx hb dX2_clauseFor_13 (by decide) (fun c4 => ?_) (fun c4 => ?_)
      · have hF := ite_p hF c4
        exact B_X2_clauseFor_j61 hE hD (lv_sub hl [0] rfl) hF
      · have hF := ite_n hF c4
        refine lv_aload_n hx hb dX2_clauseFor_16 rfl (lv_at hl 1 rfl) ?_
        obtain ⟨h5, hF⟩ := ite_s hF
        refine gf_X2_47 hE hD h5 dX2_clauseFor_17 ?_
        refine lv_aload_n hx hb dX2_clauseFor_20 rfl (lv_at hl 0 rfl) ?_
        obtain ⟨q6, h7, hF⟩ := xb_s hF
        refine gr_X2_15 hE hD h2 h7 dX2_clauseFor_21 ?_
        refine lv_iload_n hx hb dX2_clauseFor_24 rfl (lv_at hl 3 rfl) ?_
        obtain ⟨h8, hF⟩ := ite_s hF
        obtain ⟨h9, hF⟩ := ite_s hF
        refine t_iald hE hD h8 h9 dX2_clauseFor_25 ?_
        obtain ⟨r10, k11, hF⟩ := xb_s hF
        refine kNz (As := [.int (tI u y1 0), .int (tI u q6 y3.toNatClampNeg)]) (rest := []) hE hl hD (c_X11_isUnder k11) kn_X2_52 rfl rfl (Nat.le_of_ble_eq_true rfl) dX2_clauseFor_26 ⟨Nat.le_of_ble_eq_true rfl, Nat.le_of_ble_eq_true rfl⟩ ⟨Nat.le_of_ble_eq_true rfl, Nat.le_of_ble_eq_true rfl⟩ (fun H locs z12 (hD : tD G _ _ u H locs) => ?_)
        refine lv_if_eq (tgt := 55) hx hb dX2_clauseFor_29 (by decide) (fun c13 => ?_) (fun c13 => ?_)
        · have hF := ite_p hF c13
          exact B_X2_clauseFor_j55 hE (F_X2_clauseFor_l2 nn) ih hD (lv_sub hl [0, 1, 2, 3] rfl) hF
        · have hF := ite_n hF c13
          refine lv_aload_n hx hb dX2_clauseFor_32 rfl (lv_at hl 0 rfl) ?_
          refine lv_aload_n hx hb dX2_clauseFor_33 rfl (lv_at hl 0 rfl) ?_
          obtain ⟨q14, h15, hF⟩ := xb_s hF
          refine gr_X2_25 hE hD h2 h15 dX2_clauseFor_34 ?_
          refine lv_iload_n hx hb dX2_clauseFor_37 rfl (lv_at hl 3 rfl) ?_
          obtain ⟨h16, hF⟩ := ite_s hF
          obtain ⟨h17, hF⟩ := ite_s hF
          refine t_iald hE hD h16 h17 dX2_clauseFor_38 ?_
          refine lv_aload_n hx hb dX2_clauseFor_39 rfl (lv_at hl 0 rfl) ?_
          obtain ⟨q18, h19, hF⟩ := xb_s hF
          refine gr_X2_28 hE hD h2 h19 dX2_clauseFor_40 ?_
          refine lv_iload_n hx hb dX2_clauseFor_43 rfl (lv_at hl 3 rfl) ?_
          obtain ⟨h20, hF⟩ := ite_s hF
          obtain ⟨h21, hF⟩ := ite_s hF
          refine t_iald hE hD h20 h21 dX2_clauseFor_44 ?_
          refine lv_aload_n hx hb dX2_clauseFor_45 rfl (lv_at hl 1 rfl) ?_
          refine lv_iload_n hx hb dX2_clauseFor_46 rfl (lv_at hl 2 rfl) ?_
          obtain ⟨r22, k23, hF⟩ := xb_s hF
          refine kVz (As := [.int (tI u q14 y3.toNatClampNeg), .int (tI u q18 y3.toNatClampNeg), .ref y1, .int y2]) (rest := []) hE hl hD (c_X2_holds k23) kl_X2_55 (tE_2 h2) rfl rfl rfl rfl (Nat.le_of_ble_eq_true rfl) dX2_clauseFor_47 ⟨Nat.le_of_ble_eq_true rfl, Nat.le_of_ble_eq_true rfl⟩ ⟨Nat.le_of_ble_eq_true rfl, Nat.le_of_ble_eq_true rfl⟩ (fun H locs z24 (hD : tD G _ _ u H locs) => ?_)
          refine lv_if_eq (tgt := 55) hx hb dX2_clauseFor_50 (by decide) (fun c25 => ?_) (fun c25 => ?_)
          · have hF := ite_p hF c25
            exact B_X2_clauseFor_j55 hE (F_X2_clauseFor_l2 nn) ih hD (lv_sub hl [0, 1, 2, 3] rfl) hF
          · have hF := ite_n hF c25
            refine lv_iload_n hx hb dX2_clauseFor_53 rfl (lv_at hl 3 rfl) ?_
            obtain rfl := Option.some.inj hF
            exact x_iret hE hD ⟨rfl, rfl⟩ (by omega) (by omega) dX2_clauseFor_54
def F_X2_clauseFor (u : xT) (a0 : Nat) (xa : Nat) (xb : Int32) : Option Int32 := F_X2_clauseFor_l2 xFuel u a0 xa xb (0 : Int32)
theorem c_X2_clauseFor {l : Launch} {G : xG} {rr : Int32} {u : xT} {a0 : Nat} {xa : Nat} {xb : Int32} (hF : F_X2_clauseFor u a0 xa xb = some rr) : xMi l G yX2_clauseFor cX2_clauseFor 4 (Option.some Jvm.ClassFile.FieldType.int) 4 0 0 [.ref a0, .ref xa, .int xb] (tE G u) u.1 (fun r z => r = rr ∧ z = ((tE G u), u.1)) := by
  unfold F_X2_clauseFor at hF
  refine x_startI rfl (Nat.le_of_ble_eq_true rfl) (fun p e s m args below meth cd ls hE hnm hl hD => ?_)
  have hx := hE.1; have hb := hE.2.1
  have hl : lv_has ls 4 [(0, .ref a0), (1, .ref xa), (2, .int xb)] := hl
  have hD : tD G (xA (tE G u) s.heap.size) s.heap u s.heap [] := hD
  refine lv_iconst (v := (0 : Int32)) hx hb dX2_clauseFor_0 (by decide) ?_
  refine lv_istore_n (lv' := [(3, .int (0 : Int32)), (0, .ref a0), (1, .ref xa), (2, .int xb)]) hx hb dX2_clauseFor_1 rfl hl (by decide) rfl (fun ls hl => ?_)
  exact L_X2_clauseFor_l2 hE _ hD (lv_sub hl [1, 2, 3, 0] rfl) hF
def F_X2_isClause_j20 (s0 : Int32) : Option Int32 := if s0 = 0 ∨ s0 = 1 then some s0 else none
theorem B_X2_isClause_j20 {p : Program} {l : Launch} {e : Env} {s : State} {m : MethodId} {args : Array Value} {below : List Frame} {meth : Method} {cd : Code} {G : xG} {w0 : xW} {w : xW} {sz : Nat} {rr : Int32} (hE : xE p s m args meth cd cX2_isClause RX2 G 2 (Option.some Jvm.ClassFile.FieldType.boolean)) {s0 : Int32} {H : Heap} {locs : List Loc} {ls : Array Slot} (hD : xD G (xA w0 s.heap.size) s.heap w sz H locs) (hl : lv_has ls 2 []) (hF : F_X2_isClause_j20 s0 = some rr) : W p l e (xR 2 0 0) s m args below meth cd H locs 0 0 (xQi G w0 (fun r z => r = rr ∧ (rr = 0 ∨ rr = 1) ∧ z = (w, sz)) below args s 0 0) (F0 m 20 ls [.int s0]) := by
  have hx := hE.1; have hb := hE.2.1
  unfold F_X2_isClause_j20 at hF
  obtain ⟨h1, hF⟩ := ite_s hF
  obtain rfl := Option.some.inj hF
  exact x_zret hE hD h1 ⟨rfl, h1, rfl⟩ (by omega) (by omega) dX2_isClause_20
def F_X2_isClause_j19  : Option Int32 := F_X2_isClause_j20 (0 : Int32)
theorem B_X2_isClause_j19 {p : Program} {l : Launch} {e : Env} {s : State} {m : MethodId} {args : Array Value} {below : List Frame} {meth : Method} {cd : Code} {G : xG} {w0 : xW} {w : xW} {sz : Nat} {rr : Int32} (hE : xE p s m args meth cd cX2_isClause RX2 G 2 (Option.some Jvm.ClassFile.FieldType.boolean))  {H : Heap} {locs : List Loc} {ls : Array Slot} (hD : xD G (xA w0 s.heap.size) s.heap w sz H locs) (hl : lv_has ls 2 []) (hF : F_X2_isClause_j19  = some rr) : W p l e (xR 2 0 0) s m args below meth cd H locs 0 0 (xQi G w0 (fun r z => r = rr ∧ (rr = 0 ∨ rr = 1) ∧ z = (w, sz)) below args s 0 0) (F0 m 19 ls []) := by
  have hx := hE.1; have hb := hE.2.1
  unfold F_X2_isClause_j19 at hF
  refine lv_iconst (v := (0 : Int32)) hx hb dX2_isClause_19 (by decide) ?_
  exact B_X2_isClause_j20 hE hD (lv_sub hl [] rfl) hF
def F_X2_isClause (xa : Int32) (xb : Int32) : Option Int32 := if xa < 0 then F_X2_isClause_j19 else if xb ≤ xa then F_X2_isClause_j19 else if (8 : Int32) ≤ xa then F_X2_isClause_j19 else F_X2_isClause_j20 (1 : Int32)
theorem c_X2_isClause {l : Launch} {G : xG} {w : xW} {sz : Nat} {rr : Int32} {xa : Int32} {xb : Int32} (hF : F_X2_isClause xa xb = some rr) : xMi l G yX2_isClause cX2_isClause 2 (Option.some Jvm.ClassFile.FieldType.boolean) 2 0 0 [.int xa, .int xb] w sz (fun r z => r = rr ∧ (rr = 0 ∨ rr = 1) ∧ z = (w, sz)) := by
  unfold F_X2_isClause at hF
  refine x_startI rfl (Nat.le_of_ble_eq_true rfl) (fun p e s m args below meth cd ls hE hnm hl hD => ?_)
  have hx := hE.1; have hb := hE.2.1
  have hl : lv_has ls 2 [(0, .int xa), (1, .int xb)] := hl
  refine lv_iload_n hx hb dX2_isClause_0 rfl (lv_at hl 0 rfl) ?_
  refine lv_if_lt (tgt := 19) hx hb dX2_isClause_1 (by decide) (fun c2 => ?_) (fun c2 => ?_)
  · have hF := ite_p hF c2
    exact B_X2_isClause_j19 hE hD (lv_sub hl [] rfl) hF
  · have hF := ite_n hF c2
    refine lv_iload_n hx hb dX2_isClause_4 rfl (lv_at hl 0 rfl) ?_
    refine lv_iload_n hx hb dX2_isClause_5 rfl (lv_at hl 1 rfl) ?_
    refine lv_icmp_ge (tgt := 19) hx hb dX2_isClause_6 (by decide) (fun c3 => ?_) (fun c3 => ?_)
    · have hF := ite_p hF c3
      exact B_X2_isClause_j19 hE hD (lv_sub hl [] rfl) hF
    · have hF := ite_n hF c3
      refine lv_iload_n hx hb dX2_isClause_9 rfl (lv_at hl 0 rfl) ?_
      refine lv_bipush (v := (8 : Int32)) hx hb dX2_isClause_10 (by decide) ?_
      refine lv_icmp_ge (tgt := 19) hx hb dX2_isClause_12 (by decide) (fun c4 => ?_) (fun c4 => ?_)
      · have hF := ite_p hF c4
        exact B_X2_isClause_j19 hE hD (lv_sub hl [] rfl) hF
      · have hF := ite_n hF c4
        refine lv_iconst (v := (1 : Int32)) hx hb dX2_isClause_15 (by decide) ?_
        refine lv_goto (tgt := 20) hx hb dX2_isClause_16 (by decide) ?_
        exact B_X2_isClause_j20 hE hD (lv_sub hl [] rfl) hF
def F_X2_dearerBy_j21 (u : xT) (a0 : Nat) (s0 : Int32) : Option Int32 := some s0
theorem B_X2_dearerBy_j21 {p : Program} {l : Launch} {e : Env} {s : State} {m : MethodId} {args : Array Value} {below : List Frame} {meth : Method} {cd : Code} {G : xG} {w0 : xW} {rr : Int32} (hE : xE p s m args meth cd cX2_dearerBy RX2 G 2 (Option.some Jvm.ClassFile.FieldType.int)) {u : xT} {a0 : Nat} {s0 : Int32} {H : Heap} {locs : List Loc} {ls : Array Slot} (hD : tD G (xA w0 s.heap.size) s.heap u H locs) (hl : lv_has ls 2 [(0, .ref a0)]) (hF : F_X2_dearerBy_j21 u a0 s0 = some rr) : W p l e (xR 3 0 0) s m args below meth cd H locs 0 0 (xQi G w0 (fun r z => r = rr ∧ z = ((tE G u), u.1)) below args s 0 0) (F0 m 21 ls [.int s0]) := by
  have hx := hE.1; have hb := hE.2.1
  unfold F_X2_dearerBy_j21 at hF
  obtain rfl := Option.some.inj hF
  exact x_iret hE hD ⟨rfl, rfl⟩ (by omega) (by omega) dX2_dearerBy_21
def F_X2_dearerBy (u : xT) (a0 : Nat) (xa : Int32) : Option Int32 := if tK u a0 = 2 then (F_X2_isClause xa (tI u a0 0)).bind (fun r2 => if r2 = 0 then F_X2_dearerBy_j21 u a0 (0 : Int32) else (tP u a0 3).bind (fun q6 => if tK u q6 = 20 then if xIn xa (tN u q6) then F_X2_dearerBy_j21 u a0 (tI u q6 xa.toNatClampNeg) else none else none)) else none
theorem c_X2_dearerBy {l : Launch} {G : xG} {rr : Int32} {u : xT} {a0 : Nat} {xa : Int32} (hF : F_X2_dearerBy u a0 xa = some rr) : xMi l G yX2_dearerBy cX2_dearerBy 2 (Option.some Jvm.ClassFile.FieldType.int) 3 0 0 [.ref a0, .int xa] (tE G u) u.1 (fun r z => r = rr ∧ z = ((tE G u), u.1)) := by
  unfold F_X2_dearerBy at hF
  refine x_startI rfl (Nat.le_of_ble_eq_true rfl) (fun p e s m args below meth cd ls hE hnm hl hD => ?_)
  have hx := hE.1; have hb := hE.2.1
  have hl : lv_has ls 2 [(0, .ref a0), (1, .int xa)] := hl
  have hD : tD G (xA (tE G u) s.heap.size) s.heap u s.heap [] := hD
  refine lv_iload_n hx hb dX2_dearerBy_0 rfl (lv_at hl 1 rfl) ?_
  refine lv_aload_n hx hb dX2_dearerBy_1 rfl (lv_at hl 0 rfl) ?_
  obtain ⟨h1, hF⟩ := ite_s hF
  refine gf_X2_9 hE hD h1 dX2_dearerBy_2 ?_
  obtain ⟨r2, k3, hF⟩ := xb_s hF
  refine kSz (As := [.int xa, .int (tI u a0 0)]) (rest := []) hE hl hD (c_X2_isClause k3) kl_X2_43 rfl rfl (Nat.le_of_ble_eq_true rfl) dX2_dearerBy_5 ⟨Nat.le_of_ble_eq_true rfl, Nat.le_of_ble_eq_true rfl⟩ ⟨Nat.le_of_ble_eq_true rfl, Nat.le_of_ble_eq_true rfl⟩ (fun H locs z4 (hD : tD G _ _ u H locs) => ?_)
  refine lv_if_eq (tgt := 20) hx hb dX2_dearerBy_8 (by decide) (fun c5 => ?_) (fun c5 => ?_)
  · have hF := ite_p hF c5
    refine lv_iconst (v := (0 : Int32)) hx hb dX2_dearerBy_20 (by decide) ?_
    exact B_X2_dearerBy_j21 hE hD (lv_sub hl [0] rfl) hF
  · have hF := ite_n hF c5
    refine lv_aload_n hx hb dX2_dearerBy_11 rfl (lv_at hl 0 rfl) ?_
    obtain ⟨q6, h7, hF⟩ := xb_s hF
    refine gr_X2_22 hE hD h1 h7 dX2_dearerBy_12 ?_
    refine lv_iload_n hx hb dX2_dearerBy_15 rfl (lv_at hl 1 rfl) ?_
    obtain ⟨h8, hF⟩ := ite_s hF
    obtain ⟨h9, hF⟩ := ite_s hF
    refine t_iald hE hD h8 h9 dX2_dearerBy_16 ?_
    refine lv_goto (tgt := 21) hx hb dX2_dearerBy_17 (by decide) ?_
    exact B_X2_dearerBy_j21 hE hD (lv_sub hl [0] rfl) hF
def F_X2_deedOf_j21 (u : xT) (a0 : Nat) (s0 : Int32) : Option Int32 := some s0
theorem B_X2_deedOf_j21 {p : Program} {l : Launch} {e : Env} {s : State} {m : MethodId} {args : Array Value} {below : List Frame} {meth : Method} {cd : Code} {G : xG} {w0 : xW} {rr : Int32} (hE : xE p s m args meth cd cX2_deedOf RX2 G 2 (Option.some Jvm.ClassFile.FieldType.int)) {u : xT} {a0 : Nat} {s0 : Int32} {H : Heap} {locs : List Loc} {ls : Array Slot} (hD : tD G (xA w0 s.heap.size) s.heap u H locs) (hl : lv_has ls 2 [(0, .ref a0)]) (hF : F_X2_deedOf_j21 u a0 s0 = some rr) : W p l e (xR 3 0 0) s m args below meth cd H locs 0 0 (xQi G w0 (fun r z => r = rr ∧ z = ((tE G u), u.1)) below args s 0 0) (F0 m 21 ls [.int s0]) := by
  have hx := hE.1; have hb := hE.2.1
  unfold F_X2_deedOf_j21 at hF
  obtain rfl := Option.some.inj hF
  exact x_iret hE hD ⟨rfl, rfl⟩ (by omega) (by omega) dX2_deedOf_21
def F_X2_deedOf (u : xT) (a0 : Nat) (xa : Int32) : Option Int32 := if tK u a0 = 2 then (F_X2_isClause xa (tI u a0 0)).bind (fun r2 => if r2 = 0 then F_X2_deedOf_j21 u a0 (-1 : Int32) else (tP u a0 2).bind (fun q6 => if tK u q6 = 20 then if xIn xa (tN u q6) then F_X2_deedOf_j21 u a0 (tI u q6 xa.toNatClampNeg) else none else none)) else none
theorem c_X2_deedOf {l : Launch} {G : xG} {rr : Int32} {u : xT} {a0 : Nat} {xa : Int32} (hF : F_X2_deedOf u a0 xa = some rr) : xMi l G yX2_deedOf cX2_deedOf 2 (Option.some Jvm.ClassFile.FieldType.int) 3 0 0 [.ref a0, .int xa] (tE G u) u.1 (fun r z => r = rr ∧ z = ((tE G u), u.1)) := by
  unfold F_X2_deedOf at hF
  refine x_startI rfl (Nat.le_of_ble_eq_true rfl) (fun p e s m args below meth cd ls hE hnm hl hD => ?_)
  have hx := hE.1; have hb := hE.2.1
  have hl : lv_has ls 2 [(0, .ref a0), (1, .int xa)] := hl
  have hD : tD G (xA (tE G u) s.heap.size) s.heap u s.heap [] := hD
  refine lv_iload_n hx hb dX2_deedOf_0 rfl (lv_at hl 1 rfl) ?_
  refine lv_aload_n hx hb dX2_deedOf_1 rfl (lv_at hl 0 rfl) ?_
  obtain ⟨h1, hF⟩ := ite_s hF
  refine gf_X2_9 hE hD h1 dX2_deedOf_2 ?_
  obtain ⟨r2, k3, hF⟩ := xb_s hF
  refine kSz (As := [.int xa, .int (tI u a0 0)]) (rest := []) hE hl hD (c_X2_isClause k3) kl_X2_43 rfl rfl (Nat.le_of_ble_eq_true rfl) dX2_deedOf_5 ⟨Nat.le_of_ble_eq_true rfl, Nat.le_of_ble_eq_true rfl⟩ ⟨Nat.le_of_ble_eq_true rfl, Nat.le_of_ble_eq_true rfl⟩ (fun H locs z4 (hD : tD G _ _ u H locs) => ?_)
  refine lv_if_eq (tgt := 20) hx hb dX2_deedOf_8 (by decide) (fun c5 => ?_) (fun c5 => ?_)
  · have hF := ite_p hF c5
    refine lv_iconst (v := (-1 : Int32)) hx hb dX2_deedOf_20 (by decide) ?_
    exact B_X2_deedOf_j21 hE hD (lv_sub hl [0] rfl) hF
  · have hF := ite_n hF c5
    refine lv_aload_n hx hb dX2_deedOf_11 rfl (lv_at hl 0 rfl) ?_
    obtain ⟨q6, h7, hF⟩ := xb_s hF
    refine gr_X2_19 hE hD h1 h7 dX2_deedOf_12 ?_
    refine lv_iload_n hx hb dX2_deedOf_15 rfl (lv_at hl 1 rfl) ?_
    obtain ⟨h8, hF⟩ := ite_s hF
    obtain ⟨h9, hF⟩ := ite_s hF
    refine t_iald hE hD h8 h9 dX2_deedOf_16 ?_
    refine lv_goto (tgt := 21) hx hb dX2_deedOf_17 (by decide) ?_
    exact B_X2_deedOf_j21 hE hD (lv_sub hl [0] rfl) hF
def F_X4_feasts (u : xT) (a0 : Nat) : Option (xT) := if tK u a0 = 4 then xlet (tSI u a0 6 ((tI u a0 6) / (2 : Int32))) (fun t2 => some t2) else none
theorem c_X4_feasts {l : Launch} {G : xG} {rr : (xT)} {u : xT} {a0 : Nat} (hF : F_X4_feasts u a0 = some rr) : xMv l G yX4_feasts cX4_feasts 1 (Option.none : Option Jvm.ClassFile.FieldType) 2 0 0 [.ref a0] (tE G u) u.1 (fun z => z = ((tE G rr), rr.1)) := by
  unfold F_X4_feasts at hF
  refine x_startV rfl (Nat.le_of_ble_eq_true rfl) (fun p e s m args below meth cd ls hE hnm hl hD => ?_)
  have hx := hE.1; have hb := hE.2.1
  have hl : lv_has ls 1 [(0, .ref a0)] := hl
  have hD : tD G (xA (tE G u) s.heap.size) s.heap u s.heap [] := hD
  refine lv_aload_n hx hb dX4_feasts_0 rfl (lv_at hl 0 rfl) ?_
  refine lv_dup hx hb dX4_feasts_1 rfl ?_
  obtain ⟨h1, hF⟩ := ite_s hF
  refine gf_X4_9 hE hD h1 dX4_feasts_2 ?_
  refine lv_iconst (v := (2 : Int32)) hx hb dX4_feasts_5 (by decide) ?_
  refine lv_idiv hx hb dX4_feasts_6 (by decide) ?_
  refine pf_X4_9 hE hD h1 dX4_feasts_7 (fun t2 H locs et2 hD => ?_)
  have hF := xlet_e hF et2
  have h3 : tK t2 a0 = 4 := by rw [et2]; exact h1
  obtain rfl := Option.some.inj hF
  exact x_vret hE hD rfl (by omega) (by omega) dX4_feasts_10
def F_X5_feasts (u : xT) (a0 : Nat) : Option (xT) := if tK u a0 = 5 then xlet (tSI u a0 5 ((tI u a0 5) + (1 : Int32))) (fun t2 => some t2) else none
theorem c_X5_feasts {l : Launch} {G : xG} {rr : (xT)} {u : xT} {a0 : Nat} (hF : F_X5_feasts u a0 = some rr) : xMv l G yX5_feasts cX5_feasts 1 (Option.none : Option Jvm.ClassFile.FieldType) 2 0 0 [.ref a0] (tE G u) u.1 (fun z => z = ((tE G rr), rr.1)) := by
  unfold F_X5_feasts at hF
  refine x_startV rfl (Nat.le_of_ble_eq_true rfl) (fun p e s m args below meth cd ls hE hnm hl hD => ?_)
  have hx := hE.1; have hb := hE.2.1
  have hl : lv_has ls 1 [(0, .ref a0)] := hl
  have hD : tD G (xA (tE G u) s.heap.size) s.heap u s.heap [] := hD
  refine lv_aload_n hx hb dX5_feasts_0 rfl (lv_at hl 0 rfl) ?_
  refine lv_dup hx hb dX5_feasts_1 rfl ?_
  obtain ⟨h1, hF⟩ := ite_s hF
  refine gf_X5_9 hE hD h1 dX5_feasts_2 ?_
  refine lv_iconst (v := (1 : Int32)) hx hb dX5_feasts_5 (by decide) ?_
  refine lv_iadd hx hb dX5_feasts_6 ?_
  refine pf_X5_9 hE hD h1 dX5_feasts_7 (fun t2 H locs et2 hD => ?_)
  have hF := xlet_e hF et2
  have h3 : tK t2 a0 = 5 := by rw [et2]; exact h1
  obtain rfl := Option.some.inj hF
  exact x_vret hE hD rfl (by omega) (by omega) dX5_feasts_10
theorem ku_X0_54_1 : xLU RX0 RX1 "DoubledBridge$Bridge" 54 ⟨"DoubledBridge$Bridge", "feasts", "()V"⟩ yX0_feasts cX0_feasts 1 (Option.none : Option Jvm.ClassFile.FieldType) 0 := ⟨List.forall_mem_cons.mpr ⟨kw2_134, List.forall_mem_cons.mpr ⟨kw2_136, List.forall_mem_cons.mpr ⟨kw2_137, List.forall_mem_cons.mpr ⟨kw2_135, List.forall_mem_cons.mpr ⟨kw1_6, List.forall_mem_cons.mpr ⟨kw2_146, fun _ h => absurd h List.not_mem_nil⟩⟩⟩⟩⟩⟩, Or.inl rfl, by decide, by decide, by decide +kernel⟩
theorem ku_X0_54_4 : xLU RX0 RX4 "DoubledBridge$Bridge" 54 ⟨"DoubledBridge$Bridge", "feasts", "()V"⟩ yX4_feasts cX4_feasts 1 (Option.none : Option Jvm.ClassFile.FieldType) 0 := ⟨List.forall_mem_cons.mpr ⟨kw2_134, List.forall_mem_cons.mpr ⟨kw2_136, List.forall_mem_cons.mpr ⟨kw2_138, List.forall_mem_cons.mpr ⟨kw2_139, List.forall_mem_cons.mpr ⟨kw1_10, List.forall_mem_cons.mpr ⟨kw2_140, fun _ h => absurd h List.not_mem_nil⟩⟩⟩⟩⟩⟩, Or.inr ⟨kw2_135, _, _, _, kw2_146⟩, by decide, by decide, by decide +kernel⟩
theorem ku_X0_54_5 : xLU RX0 RX5 "DoubledBridge$Bridge" 54 ⟨"DoubledBridge$Bridge", "feasts", "()V"⟩ yX5_feasts cX5_feasts 1 (Option.none : Option Jvm.ClassFile.FieldType) 0 := ⟨List.forall_mem_cons.mpr ⟨kw2_134, List.forall_mem_cons.mpr ⟨kw2_136, List.forall_mem_cons.mpr ⟨kw2_141, List.forall_mem_cons.mpr ⟨kw2_142, List.forall_mem_cons.mpr ⟨kw1_8, List.forall_mem_cons.mpr ⟨kw2_143, fun _ h => absurd h List.not_mem_nil⟩⟩⟩⟩⟩⟩, Or.inr ⟨kw2_135, _, _, _, kw2_146⟩, by decide, by decide, by decide +kernel⟩
theorem ku_X0_54_6 : xLU RX0 RX6 "DoubledBridge$Bridge" 54 ⟨"DoubledBridge$Bridge", "feasts", "()V"⟩ yX0_feasts cX0_feasts 1 (Option.none : Option Jvm.ClassFile.FieldType) 0 := ⟨List.forall_mem_cons.mpr ⟨kw2_134, List.forall_mem_cons.mpr ⟨kw2_136, List.forall_mem_cons.mpr ⟨kw2_144, List.forall_mem_cons.mpr ⟨kw2_135, List.forall_mem_cons.mpr ⟨kw1_6, List.forall_mem_cons.mpr ⟨kw2_146, fun _ h => absurd h List.not_mem_nil⟩⟩⟩⟩⟩⟩, Or.inl rfl, by decide, by decide, by decide +kernel⟩
theorem ku_X0_54_9 : xLU RX0 RX9 "DoubledBridge$Bridge" 54 ⟨"DoubledBridge$Bridge", "feasts", "()V"⟩ yX0_feasts cX0_feasts 1 (Option.none : Option Jvm.ClassFile.FieldType) 0 := ⟨List.forall_mem_cons.mpr ⟨kw2_134, List.forall_mem_cons.mpr ⟨kw2_136, List.forall_mem_cons.mpr ⟨kw2_145, List.forall_mem_cons.mpr ⟨kw2_135, List.forall_mem_cons.mpr ⟨kw1_6, List.forall_mem_cons.mpr ⟨kw2_146, fun _ h => absurd h List.not_mem_nil⟩⟩⟩⟩⟩⟩, Or.inl rfl, by decide, by decide, by decide +kernel⟩
def F_V_feasts (t : xT) (a : Nat)  : Option xT := if tK t a = 1 then (F_X0_feasts a).bind (fun _ => some t) else (if tK t a = 4 then F_X4_feasts t a else (if tK t a = 5 then F_X5_feasts t a else (if tK t a = 6 then (F_X0_feasts a).bind (fun _ => some t) else (if tK t a = 9 then (F_X0_feasts a).bind (fun _ => some t) else (none)))))
theorem kB_X0_54 {p : Program} {l : Launch} {e : Env} {R : Room} {s : State} {m : MethodId} {args : Array Value} {below : List Frame} {meth : Method} {c : Code} {H : Heap} {locs : List Loc} {cells slots : Nat} {Q : State → Prop} {cc : ByteArray} {pc : Nat} {ls : Array Slot} {rest : List Value} {G : xG} {A : Nat → Prop} {a nL : Nat} {H0 : Heap} {ret : Option FieldType} {t : xT} {lv : List (Nat × Value)} (hE : xE p s m args meth c cc RX0 G nL ret) (hl : lv_has ls nL lv) (hD : tD G A H0 t H locs) (hk : isBk (tK t a))  {v : xT} (hF : F_V_feasts t a  = some v) (hr : (rest.map fun v => v.category).sum ≤ 8) (hdg : decode cc pc = .ok (.invokevirtual 54, 3)) (hR : 2 + 1 ≤ R.frames ∧ 8 + (1 + 11) + 40 * 2 ≤ R.locals) (hR2 : cells ≤ R.cells ∧ slots ≤ R.slots) (kk : ∀ (H1 : Heap) (locs1 : List Loc), tD G A H0 v H1 locs1 → W p l e R s m args below meth c H1 locs1 cells slots Q (F0 m (pc + 3) ls (rest))) : W p l e R s m args below meth c H locs cells slots Q (F0 m pc ls (.ref a :: rest)) := by
  unfold F_V_feasts at hF
  rcases hk with h | h | h | h | h
  · have hF := ite_p hF h
    obtain ⟨r1, hF1, hg⟩ := xb_s hF
    obtain rfl := Option.some.inj hg
    exact kUv (As := []) (rest := rest) hE hl hD (c_X0_feasts hF1) ku_X0_54_1 (tE_1 h) rfl rfl rfl rfl hr hdg ⟨by have := hR.1; omega, by have := hR.2; omega⟩ hR2 kk
  · have hF := ite_n hF (by rw [h]; decide)
    have hF := ite_p hF h
    exact kUv (As := []) (rest := rest) hE hl hD (c_X4_feasts hF) ku_X0_54_4 (tE_4 h) rfl rfl rfl rfl hr hdg ⟨by have := hR.1; omega, by have := hR.2; omega⟩ hR2 kk
  · have hF := ite_n hF (by rw [h]; decide)
    have hF := ite_n hF (by rw [h]; decide)
    have hF := ite_p hF h
    exact kUv (As := []) (rest := rest) hE hl hD (c_X5_feasts hF) ku_X0_54_5 (tE_5 h) rfl rfl rfl rfl hr hdg ⟨by have := hR.1; omega, by have := hR.2; omega⟩ hR2 kk
  · have hF := ite_n hF (by rw [h]; decide)
    have hF := ite_n hF (by rw [h]; decide)
    have hF := ite_n hF (by rw [h]; decide)
    have hF := ite_p hF h
    obtain ⟨r1, hF1, hg⟩ := xb_s hF
    obtain rfl := Option.some.inj hg
    exact kUv (As := []) (rest := rest) hE hl hD (c_X0_feasts hF1) ku_X0_54_6 (tE_6 h) rfl rfl rfl rfl hr hdg ⟨by have := hR.1; omega, by have := hR.2; omega⟩ hR2 kk
  · have hF := ite_n hF (by rw [h]; decide)
    have hF := ite_n hF (by rw [h]; decide)
    have hF := ite_n hF (by rw [h]; decide)
    have hF := ite_n hF (by rw [h]; decide)
    have hF := ite_p hF h
    obtain ⟨r1, hF1, hg⟩ := xb_s hF
    obtain rfl := Option.some.inj hg
    exact kUv (As := []) (rest := rest) hE hl hD (c_X0_feasts hF1) ku_X0_54_9 (tE_9 h) rfl rfl rfl rfl hr hdg ⟨by have := hR.1; omega, by have := hR.2; omega⟩ hR2 kk
def F_X0_settle_j87 (u : xT) (a0 : Nat) : Option (xT) := some u
theorem B_X0_settle_j87 {p : Program} {l : Launch} {e : Env} {s : State} {m : MethodId} {args : Array Value} {below : List Frame} {meth : Method} {cd : Code} {G : xG} {w0 : xW} {rr : (xT)} (hE : xE p s m args meth cd cX0_settle RX0 G 5 (Option.none : Option Jvm.ClassFile.FieldType)) {u : xT} {a0 : Nat} {H : Heap} {locs : List Loc} {ls : Array Slot} (hD : tD G (xA w0 s.heap.size) s.heap u H locs) (hl : lv_has ls 5 [(0, .ref a0)]) (hF : F_X0_settle_j87 u a0 = some rr) : W p l e (xR 5 0 0) s m args below meth cd H locs 0 0 (xQv G w0 (fun z => z = ((tE G rr), rr.1)) below args s 0 0) (F0 m 87 ls []) := by
  have hx := hE.1; have hb := hE.2.1
  unfold F_X0_settle_j87 at hF
  obtain rfl := Option.some.inj hF
  exact x_vret hE hD rfl (by omega) (by omega) dX0_settle_87
def F_X0_settle_j72 (u : xT) (a0 : Nat) (y2 : Int32) (s0 : Nat) (s1 : Int32) : Option (xT) := if isBk (tK u s0) then xlet (tSI u s0 6 s1) (fun t2 => if isBk (tK t2 a0) then if y2 = (tI t2 a0 4) then (F_V_feasts t2 a0).bind (fun r6 => F_X0_settle_j87 r6 a0) else F_X0_settle_j87 t2 a0 else none) else none
theorem B_X0_settle_j72 {p : Program} {l : Launch} {e : Env} {s : State} {m : MethodId} {args : Array Value} {below : List Frame} {meth : Method} {cd : Code} {G : xG} {w0 : xW} {rr : (xT)} (hE : xE p s m args meth cd cX0_settle RX0 G 5 (Option.none : Option Jvm.ClassFile.FieldType)) {u : xT} {a0 : Nat} {y2 : Int32} {s0 : Nat} {s1 : Int32} {H : Heap} {locs : List Loc} {ls : Array Slot} (hD : tD G (xA w0 s.heap.size) s.heap u H locs) (hl : lv_has ls 5 [(0, .ref a0), (2, .int y2)]) (hF : F_X0_settle_j72 u a0 y2 s0 s1 = some rr) : W p l e (xR 5 0 0) s m args below meth cd H locs 0 0 (xQv G w0 (fun z => z = ((tE G rr), rr.1)) below args s 0 0) (F0 m 72 ls [.int s1, .ref s0]) := by
  have hx := hE.1; have hb := hE.2.1
  unfold F_X0_settle_j72 at hF
  obtain ⟨h1, hF⟩ := ite_s hF
  refine pf_X0_51 hE hD h1 dX0_settle_72 (fun t2 H locs et2 hD => ?_)
  have hF := xlet_e hF et2
  have h3 : isBk (tK t2 s0) := by rw [et2]; exact h1
  refine lv_iload_n hx hb dX0_settle_75 rfl (lv_at hl 1 rfl) ?_
  refine lv_aload_n hx hb dX0_settle_76 rfl (lv_at hl 0 rfl) ?_
  obtain ⟨h4, hF⟩ := ite_s hF
  refine gf_X0_24 hE hD h4 dX0_settle_77 ?_
  refine lv_icmp_ne (tgt := 87) hx hb dX0_settle_80 (by decide) (fun c5 => ?_) (fun c5 => ?_)
  · have hF := ite_n hF c5
    exact B_X0_settle_j87 hE hD (lv_sub hl [0] rfl) hF
  · have hF := ite_p hF c5
    refine lv_aload_n hx hb dX0_settle_83 rfl (lv_at hl 0 rfl) ?_
    obtain ⟨r6, k7, hF⟩ := xb_s hF
    refine kB_X0_54 (rest := []) hE hl hD h4 k7 (Nat.le_of_ble_eq_true rfl) dX0_settle_84 ⟨Nat.le_of_ble_eq_true rfl, Nat.le_of_ble_eq_true rfl⟩ ⟨Nat.le_of_ble_eq_true rfl, Nat.le_of_ble_eq_true rfl⟩ (fun H locs (hD : tD G _ _ r6 H locs) => ?_)
    exact B_X0_settle_j87 hE hD (lv_sub hl [0] rfl) hF
def F_X0_settle_j49 (u : xT) (a0 : Nat) (y1 : Nat) (y2 : Int32) (y3 : Int32) (y4 : Int32) (s0 : Nat) (s1 : Int32) : Option (xT) := if isBk (tK u s0) then xlet (tSI u s0 5 s1) (fun t9 => if y4 = 0 then F_X0_settle_j72 t9 a0 y2 a0 (0 : Int32) else if isBk (tK t9 a0) then if tK t9 y1 = 2 then (F_X2_dearerBy t9 y1 y3).bind (fun r14 => F_X0_settle_j72 t9 a0 y2 a0 ((tI t9 a0 3) + r14)) else none else none) else none
theorem B_X0_settle_j49 {p : Program} {l : Launch} {e : Env} {s : State} {m : MethodId} {args : Array Value} {below : List Frame} {meth : Method} {cd : Code} {G : xG} {w0 : xW} {rr : (xT)} (hE : xE p s m args meth cd cX0_settle RX0 G 5 (Option.none : Option Jvm.ClassFile.FieldType)) {u : xT} {a0 : Nat} {y1 : Nat} {y2 : Int32} {y3 : Int32} {y4 : Int32} {s0 : Nat} {s1 : Int32} {H : Heap} {locs : List Loc} {ls : Array Slot} (hD : tD G (xA w0 s.heap.size) s.heap u H locs) (hl : lv_has ls 5 [(0, .ref a0), (1, .ref y1), (2, .int y2), (3, .int y3), (4, .int y4)]) (hF : F_X0_settle_j49 u a0 y1 y2 y3 y4 s0 s1 = some rr) : W p l e (xR 5 0 0) s m args below meth cd H locs 0 0 (xQv G w0 (fun z => z = ((tE G rr), rr.1)) below args s 0 0) (F0 m 49 ls [.int s1, .ref s0]) := by
  have hx := hE.1; have hb := hE.2.1
  unfold F_X0_settle_j49 at hF
  obtain ⟨h8, hF⟩ := ite_s hF
  refine pf_X0_45 hE hD h8 dX0_settle_49 (fun t9 H locs et9 hD => ?_)
  have hF := xlet_e hF et9
  have h10 : isBk (tK t9 s0) := by rw [et9]; exact h8
  refine lv_aload_n hx hb dX0_settle_52 rfl (lv_at hl 0 rfl) ?_
  refine lv_iload hx hb dX0_settle_53 (lv_at hl 4 rfl) ?_
  refine lv_if_ne (tgt := 62) hx hb dX0_settle_55 (by decide) (fun c11 => ?_) (fun c11 => ?_)
  · have hF := ite_n hF c11
    refine lv_aload_n hx hb dX0_settle_62 rfl (lv_at hl 0 rfl) ?_
    obtain ⟨h12, hF⟩ := ite_s hF
    refine gf_X0_21 hE hD h12 dX0_settle_63 ?_
    refine lv_aload_n hx hb dX0_settle_66 rfl (lv_at hl 1 rfl) ?_
    refine lv_iload_n hx hb dX0_settle_67 rfl (lv_at hl 3 rfl) ?_
    obtain ⟨h13, hF⟩ := ite_s hF
    obtain ⟨r14, k15, hF⟩ := xb_s hF
    refine kVi (As := [.int y3]) (rest := [.int (tI t9 a0 3), .ref a0]) hE hl hD (c_X2_dearerBy k15) kl_X0_48 (tE_2 h13) rfl rfl rfl rfl (Nat.le_of_ble_eq_true rfl) dX0_settle_68 ⟨Nat.le_of_ble_eq_true rfl, Nat.le_of_ble_eq_true rfl⟩ ⟨Nat.le_of_ble_eq_true rfl, Nat.le_of_ble_eq_true rfl⟩ (fun H locs (hD : tD G _ _ t9 H locs) => ?_)
    refine lv_iadd hx hb dX0_settle_71 ?_
    exact B_X0_settle_j72 hE hD (lv_sub hl [0, 2] rfl) hF
  · have hF := ite_p hF c11
    refine lv_iconst (v := (0 : Int32)) hx hb dX0_settle_58 (by decide) ?_
    refine lv_goto (tgt := 72) hx hb dX0_settle_59 (by decide) ?_
    exact B_X0_settle_j72 hE hD (lv_sub hl [0, 2] rfl) hF
def F_X0_settle_j26 (u : xT) (a0 : Nat) (y1 : Nat) (y2 : Int32) (y3 : Int32) (y4 : Int32) (s0 : Nat) (s1 : Int32) : Option (xT) := if isBk (tK u s0) then if s1 = 0 ∨ s1 = 1 then xlet (tSI u s0 7 s1) (fun t17 => if y4 = (2 : Int32) then if isBk (tK t17 a0) then F_X0_settle_j49 t17 a0 y1 y2 y3 y4 a0 ((tI t17 a0 2) + (1 : Int32)) else none else if isBk (tK t17 a0) then F_X0_settle_j49 t17 a0 y1 y2 y3 y4 a0 (tI t17 a0 2) else none) else none else none
theorem B_X0_settle_j26 {p : Program} {l : Launch} {e : Env} {s : State} {m : MethodId} {args : Array Value} {below : List Frame} {meth : Method} {cd : Code} {G : xG} {w0 : xW} {rr : (xT)} (hE : xE p s m args meth cd cX0_settle RX0 G 5 (Option.none : Option Jvm.ClassFile.FieldType)) {u : xT} {a0 : Nat} {y1 : Nat} {y2 : Int32} {y3 : Int32} {y4 : Int32} {s0 : Nat} {s1 : Int32} {H : Heap} {locs : List Loc} {ls : Array Slot} (hD : tD G (xA w0 s.heap.size) s.heap u H locs) (hl : lv_has ls 5 [(0, .ref a0), (1, .ref y1), (2, .int y2), (3, .int y3), (4, .int y4)]) (hF : F_X0_settle_j26 u a0 y1 y2 y3 y4 s0 s1 = some rr) : W p l e (xR 5 0 0) s m args below meth cd H locs 0 0 (xQv G w0 (fun z => z = ((tE G rr), rr.1)) below args s 0 0) (F0 m 26 ls [.int s1, .ref s0]) := by
  have hx := hE.1; have hb := hE.2.1
  unfold F_X0_settle_j26 at hF
  obtain ⟨h16, hF⟩ := ite_s hF
  obtain ⟨h18, hF⟩ := ite_s hF
  refine pf_X0_41 hE hD h16 h18 dX0_settle_26 (fun t17 H locs et17 hD => ?_)
  have hF := xlet_e hF et17
  have h19 : isBk (tK t17 s0) := by rw [et17]; exact h16
  refine lv_aload_n hx hb dX0_settle_29 rfl (lv_at hl 0 rfl) ?_
  refine lv_iload hx hb dX0_settle_30 (lv_at hl 4 rfl) ?_
  refine lv_iconst (v := (2 : Int32)) hx hb dX0_settle_32 (by decide) ?_
  refine lv_icmp_ne (tgt := 45) hx hb dX0_settle_33 (by decide) (fun c20 => ?_) (fun c20 => ?_)
  · have hF := ite_n hF c20
    refine lv_aload_n hx hb dX0_settle_45 rfl (lv_at hl 0 rfl) ?_
    obtain ⟨h21, hF⟩ := ite_s hF
    refine gf_X0_18 hE hD h21 dX0_settle_46 ?_
    exact B_X0_settle_j49 hE hD (lv_sub hl [0, 1, 2, 3, 4] rfl) hF
  · have hF := ite_p hF c20
    refine lv_aload_n hx hb dX0_settle_36 rfl (lv_at hl 0 rfl) ?_
    obtain ⟨h22, hF⟩ := ite_s hF
    refine gf_X0_18 hE hD h22 dX0_settle_37 ?_
    refine lv_iconst (v := (1 : Int32)) hx hb dX0_settle_40 (by decide) ?_
    refine lv_iadd hx hb dX0_settle_41 ?_
    refine lv_goto (tgt := 49) hx hb dX0_settle_42 (by decide) ?_
    exact B_X0_settle_j49 hE hD (lv_sub hl [0, 1, 2, 3, 4] rfl) hF
def F_X0_settle (u : xT) (a0 : Nat) (xa : Nat) (xb : Int32) : Option (xT) := if tK u xa = 2 then (F_X2_clauseFor u xa a0 xb).bind (fun r24 => (F_X2_deedOf u xa r24).bind (fun r26 => if r26 = (3 : Int32) then F_X0_settle_j26 u a0 xa xb r24 r26 a0 (0 : Int32) else F_X0_settle_j26 u a0 xa xb r24 r26 a0 (1 : Int32))) else none
theorem c_X0_settle {l : Launch} {G : xG} {rr : (xT)} {u : xT} {a0 : Nat} {xa : Nat} {xb : Int32} (hF : F_X0_settle u a0 xa xb = some rr) : xMv l G yX0_settle cX0_settle 5 (Option.none : Option Jvm.ClassFile.FieldType) 5 0 0 [.ref a0, .ref xa, .int xb] (tE G u) u.1 (fun z => z = ((tE G rr), rr.1)) := by
  unfold F_X0_settle at hF
  refine x_startV rfl (Nat.le_of_ble_eq_true rfl) (fun p e s m args below meth cd ls hE hnm hl hD => ?_)
  have hx := hE.1; have hb := hE.2.1
  have hl : lv_has ls 5 [(0, .ref a0), (1, .ref xa), (2, .int xb)] := hl
  have hD : tD G (xA (tE G u) s.heap.size) s.heap u s.heap [] := hD
  refine lv_aload_n hx hb dX0_settle_0 rfl (lv_at hl 1 rfl) ?_
  refine lv_aload_n hx hb dX0_settle_1 rfl (lv_at hl 0 rfl) ?_
  refine lv_iload_n hx hb dX0_settle_2 rfl (lv_at hl 2 rfl) ?_
  obtain ⟨h23, hF⟩ := ite_s hF
  obtain ⟨r24, k25, hF⟩ := xb_s hF
  refine kVi (As := [.ref a0, .int xb]) (rest := []) hE hl hD (c_X2_clauseFor k25) kl_X0_31 (tE_2 h23) rfl rfl rfl rfl (Nat.le_of_ble_eq_true rfl) dX0_settle_3 ⟨Nat.le_of_ble_eq_true rfl, Nat.le_of_ble_eq_true rfl⟩ ⟨Nat.le_of_ble_eq_true rfl, Nat.le_of_ble_eq_true rfl⟩ (fun H locs (hD : tD G _ _ u H locs) => ?_)
  refine lv_istore_n (lv' := [(3, .int r24), (0, .ref a0), (1, .ref xa), (2, .int xb)]) hx hb dX0_settle_6 rfl hl (by decide) rfl (fun ls hl => ?_)
  refine lv_aload_n hx hb dX0_settle_7 rfl (lv_at hl 2 rfl) ?_
  refine lv_iload_n hx hb dX0_settle_8 rfl (lv_at hl 0 rfl) ?_
  obtain ⟨r26, k27, hF⟩ := xb_s hF
  refine kVi (As := [.int r24]) (rest := []) hE hl hD (c_X2_deedOf k27) kl_X0_37 (tE_2 h23) rfl rfl rfl rfl (Nat.le_of_ble_eq_true rfl) dX0_settle_9 ⟨Nat.le_of_ble_eq_true rfl, Nat.le_of_ble_eq_true rfl⟩ ⟨Nat.le_of_ble_eq_true rfl, Nat.le_of_ble_eq_true rfl⟩ (fun H locs (hD : tD G _ _ u H locs) => ?_)
  refine lv_istore (lv' := [(4, .int r26), (3, .int r24), (0, .ref a0), (1, .ref xa), (2, .int xb)]) hx hb dX0_settle_12 hl (by decide) rfl (fun ls hl => ?_)
  refine lv_aload_n hx hb dX0_settle_14 rfl (lv_at hl 2 rfl) ?_
  refine lv_iload hx hb dX0_settle_15 (lv_at hl 0 rfl) ?_
  refine lv_iconst (v := (3 : Int32)) hx hb dX0_settle_17 (by decide) ?_
  refine lv_icmp_eq (tgt := 25) hx hb dX0_settle_18 (by decide) (fun c28 => ?_) (fun c28 => ?_)
  · have hF := ite_p hF c28
    refine lv_iconst (v := (0 : Int32)) hx hb dX0_settle_25 (by decide) ?_
    exact B_X0_settle_j26 hE hD (lv_sub hl [2, 3, 4, 1, 0] rfl) hF
  · have hF := ite_n hF c28
    refine lv_iconst (v := (1 : Int32)) hx hb dX0_settle_21 (by decide) ?_
    refine lv_goto (tgt := 26) hx hb dX0_settle_22 (by decide) ?_
    exact B_X0_settle_j26 hE hD (lv_sub hl [2, 3, 4, 1, 0] rfl) hF
