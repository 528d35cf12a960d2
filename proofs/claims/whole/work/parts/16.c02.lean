/-! ===== the class: walks 2 (printed by wip/whole/gen) ===== -/
def F_X0_suppose (u : xT) (a0 : Nat) (xa : Int32) (xb : Int32) : Option (xT) := if isBk (tK u a0) then xlet (tSI u a0 5 xa) (fun t2 => xlet (tSI t2 a0 6 xb) (fun t4 => xlet (tSI t4 a0 7 (1 : Int32)) (fun t6 => some t6))) else none
theorem c_X0_suppose {l : Launch} {G : xG} {rr : (xT)} {u : xT} {a0 : Nat} {xa : Int32} {xb : Int32} (hF : F_X0_suppose u a0 xa xb = some rr) : xMv l G yX0_suppose cX0_suppose 3 (Option.none : Option Jvm.ClassFile.FieldType) 2 0 0 [.ref a0, .int xa, .int xb] (tE G u) u.1 (fun z => z = ((tE G rr), rr.1)) := by
  unfold F_X0_suppose at hF
  refine x_startV rfl (Nat.le_of_ble_eq_true rfl) (fun p e s m args below meth cd ls hE hnm hl hD => ?_)
  have hx := hE.1; have hb := hE.2.1
  have hl : lv_has ls 3 [(0, .ref a0), (1, .int xa), (2, .int xb)] := hl
  have hD : tD G (xA (tE G u) s.heap.size) s.heap u s.heap [] := hD
  refine lv_aload_n hx hb dX0_suppose_0 rfl (lv_at hl 0 rfl) ?_
  refine lv_iload_n hx hb dX0_suppose_1 rfl (lv_at hl 1 rfl) ?_
  obtain ⟨h1, hF⟩ := ite_s hF
  refine pf_X0_45 hE hD h1 dX0_suppose_2 (fun t2 H locs et2 hD => ?_)
  have hF := xlet_e hF et2
  have h3 : isBk (tK t2 a0) := by rw [et2]; exact h1
  refine lv_aload_n hx hb dX0_suppose_5 rfl (lv_at hl 0 rfl) ?_
  refine lv_iload_n hx hb dX0_suppose_6 rfl (lv_at hl 2 rfl) ?_
  refine pf_X0_51 hE hD h3 dX0_suppose_7 (fun t4 H locs et4 hD => ?_)
  have hF := xlet_e hF et4
  have h5 : isBk (tK t4 a0) := by rw [et4]; exact h3
  refine lv_aload_n hx hb dX0_suppose_10 rfl (lv_at hl 0 rfl) ?_
  refine lv_iconst (v := (1 : Int32)) hx hb dX0_suppose_11 (by decide) ?_
  refine pf_X0_41 hE hD h5 (by decide) dX0_suppose_12 (fun t6 H locs et6 hD => ?_)
  have hF := xlet_e hF et6
  have h7 : isBk (tK t6 a0) := by rw [et6]; exact h5
  obtain rfl := Option.some.inj hF
  exact x_vret hE hD rfl (by omega) (by omega) dX0_suppose_15
def F_X0_coins (u : xT) (a0 : Nat) (xa : Int32) (xb : Int64) : Option Int64 := if isBk (tK u a0) then some ((xa.toInt64 * xb) - ((tI u a0 6).toInt64)) else none
theorem c_X0_coins {l : Launch} {G : xG} {rr : Int64} {u : xT} {a0 : Nat} {xa : Int32} {xb : Int64} (hF : F_X0_coins u a0 xa xb = some rr) : xMl l G yX0_coins cX0_coins 4 (Option.some Jvm.ClassFile.FieldType.long) 2 0 0 [.ref a0, .int xa, .long xb] (tE G u) u.1 (fun r z => r = rr ∧ z = ((tE G u), u.1)) := by
  unfold F_X0_coins at hF
  refine x_startL rfl (Nat.le_of_ble_eq_true rfl) (fun p e s m args below meth cd ls hE hnm hl hD => ?_)
  have hx := hE.1; have hb := hE.2.1
  have hl : lv_has ls 4 [(0, .ref a0), (1, .int xa), (2, .long xb)] := hl
  have hD : tD G (xA (tE G u) s.heap.size) s.heap u s.heap [] := hD
  refine lv_iload_n hx hb dX0_coins_0 rfl (lv_at hl 1 rfl) ?_
  refine lv_i2l (v := xa.toInt64) hx hb dX0_coins_1 rfl ?_
  refine lv_lload_n hx hb dX0_coins_2 rfl (lv_at hl 2 rfl) ?_
  refine lv_lmul hx hb dX0_coins_3 ?_
  refine lv_aload_n hx hb dX0_coins_4 rfl (lv_at hl 0 rfl) ?_
  obtain ⟨h1, hF⟩ := ite_s hF
  refine gf_X0_51 hE hD h1 dX0_coins_5 ?_
  refine lv_i2l (v := (tI u a0 6).toInt64) hx hb dX0_coins_8 rfl ?_
  refine lv_lsub hx hb dX0_coins_9 ?_
  obtain rfl := Option.some.inj hF
  exact x_lret hE hD ⟨rfl, rfl⟩ (by omega) (by omega) dX0_coins_10
theorem kp_X1_7 : xLP RX1 7 ⟨"DoubledBridge$Bridge", "coins", "(IJ)J"⟩ yX0_coins cX0_coins 4 (Option.some Jvm.ClassFile.FieldType.long) 2 := ⟨List.forall_mem_cons.mpr ⟨kw3_166, List.forall_mem_cons.mpr ⟨kw3_162, List.forall_mem_cons.mpr ⟨kw2_61, List.forall_mem_cons.mpr ⟨kw3_161, List.forall_mem_cons.mpr ⟨kw1_6, List.forall_mem_cons.mpr ⟨kw3_173, fun _ h => absurd h List.not_mem_nil⟩⟩⟩⟩⟩⟩, rfl, rfl, Or.inl rfl, by decide, by decide +kernel⟩
theorem kQ_X1_7 {p : Program} {l : Launch} {e : Env} {R : Room} {s : State} {m : MethodId} {args : Array Value} {below : List Frame} {meth : Method} {c : Code} {H : Heap} {locs : List Loc} {cells slots : Nat} {Q : State → Prop} {cc : ByteArray} {pc : Nat} {ls : Array Slot} {rest : List Value} {G : xG} {A : Nat → Prop} {a nL : Nat} {H0 : Heap} {ret : Option FieldType} {t : xT} {lv : List (Nat × Value)} (hE : xE p s m args meth c cc RX1 G nL ret) (hl : lv_has ls nL lv) (hD : tD G A H0 t H locs) (hk : (tK t a = 1 ∨ tK t a = 4)) {xa : Int32} {xb : Int64} {v : Int64} (hF : F_X0_coins t a xa xb = some v) (hr : (rest.map fun v => v.category).sum ≤ 8) (hdg : decode cc pc = .ok (.invokespecial 7, 3)) (hR : 2 + 1 ≤ R.frames ∧ 8 + (4 + 11) + 40 * 2 ≤ R.locals) (hR2 : cells ≤ R.cells ∧ slots ≤ R.slots) (kk : ∀ (H1 : Heap) (locs1 : List Loc), tD G A H0 t H1 locs1 → W p l e R s m args below meth c H1 locs1 cells slots Q (F0 m (pc + 3) ls (.long v :: rest))) : W p l e R s m args below meth c H locs cells slots Q (F0 m pc ls (.long xb :: .int xa :: .ref a :: rest)) := by
  rcases hk with h | h
  · exact kPl (As := [.int xa, .long xb]) (rest := rest) hE hl hD (c_X0_coins hF) kp_X1_7 (tE_1 h) rfl rfl rfl hr hdg hR hR2 kk
  · exact kPl (As := [.int xa, .long xb]) (rest := rest) hE hl hD (c_X0_coins hF) kp_X1_7 (tE_4 h) rfl rfl rfl hr hdg hR hR2 kk
def F_X1_coins (u : xT) (a0 : Nat) (xa : Int32) (xb : Int64) : Option Int64 := if (tK u a0 = 1 ∨ tK u a0 = 4) then (F_X0_coins u a0 xa xb).bind (fun r2 => some (r2 - (r2 &&& (1 : Int64)))) else none
theorem c_X1_coins {l : Launch} {G : xG} {rr : Int64} {u : xT} {a0 : Nat} {xa : Int32} {xb : Int64} (hF : F_X1_coins u a0 xa xb = some rr) : xMl l G yX1_coins cX1_coins 6 (Option.some Jvm.ClassFile.FieldType.long) 3 0 0 [.ref a0, .int xa, .long xb] (tE G u) u.1 (fun r z => r = rr ∧ z = ((tE G u), u.1)) := by
  unfold F_X1_coins at hF
  refine x_startL rfl (Nat.le_of_ble_eq_true rfl) (fun p e s m args below meth cd ls hE hnm hl hD => ?_)
  have hx := hE.1; have hb := hE.2.1
  have hl : lv_has ls 6 [(0, .ref a0), (1, .int xa), (2, .long xb)] := hl
  have hD : tD G (xA (tE G u) s.heap.size) s.heap u s.heap [] := hD
  refine lv_aload_n hx hb dX1_coins_0 rfl (lv_at hl 0 rfl) ?_
  refine lv_iload_n hx hb dX1_coins_1 rfl (lv_at hl 1 rfl) ?_
  refine lv_lload_n hx hb dX1_coins_2 rfl (lv_at hl 2 rfl) ?_
  obtain ⟨h1, hF⟩ := ite_s hF
  obtain ⟨r2, k3, hF⟩ := xb_s hF
  refine kQ_X1_7 (rest := []) hE hl hD h1 k3 (Nat.le_of_ble_eq_true rfl) dX1_coins_3 ⟨Nat.le_of_ble_eq_true rfl, Nat.le_of_ble_eq_true rfl⟩ ⟨Nat.le_of_ble_eq_true rfl, Nat.le_of_ble_eq_true rfl⟩ (fun H locs (hD : tD G _ _ u H locs) => ?_)
  refine lv_lstore (lv' := [(4, .long r2), (0, .ref a0), (1, .int xa), (2, .long xb)]) hx hb dX1_coins_6 hl (by decide) rfl (fun ls hl => ?_)
  refine lv_lload hx hb dX1_coins_8 (lv_at hl 0 rfl) ?_
  refine lv_lload hx hb dX1_coins_10 (lv_at hl 0 rfl) ?_
  refine lv_lconst (v := (1 : Int64)) hx hb dX1_coins_12 (by decide) ?_
  refine lv_land hx hb dX1_coins_13 ?_
  refine lv_lsub hx hb dX1_coins_14 ?_
  obtain rfl := Option.some.inj hF
  exact x_lret hE hD ⟨rfl, rfl⟩ (by omega) (by omega) dX1_coins_15
def F_X9_coins (u : xT) (a0 : Nat) (xa : Int32) (xb : Int64) : Option Int64 := if (tK u a0 = 9 ∨ tK u a0 = 5) then some (xa.toInt64 * (xb - ((tI u a0 6).toInt64))) else none
theorem c_X9_coins {l : Launch} {G : xG} {rr : Int64} {u : xT} {a0 : Nat} {xa : Int32} {xb : Int64} (hF : F_X9_coins u a0 xa xb = some rr) : xMl l G yX9_coins cX9_coins 4 (Option.some Jvm.ClassFile.FieldType.long) 2 0 0 [.ref a0, .int xa, .long xb] (tE G u) u.1 (fun r z => r = rr ∧ z = ((tE G u), u.1)) := by
  unfold F_X9_coins at hF
  refine x_startL rfl (Nat.le_of_ble_eq_true rfl) (fun p e s m args below meth cd ls hE hnm hl hD => ?_)
  have hx := hE.1; have hb := hE.2.1
  have hl : lv_has ls 4 [(0, .ref a0), (1, .int xa), (2, .long xb)] := hl
  have hD : tD G (xA (tE G u) s.heap.size) s.heap u s.heap [] := hD
  refine lv_iload_n hx hb dX9_coins_0 rfl (lv_at hl 1 rfl) ?_
  refine lv_i2l (v := xa.toInt64) hx hb dX9_coins_1 rfl ?_
  refine lv_lload_n hx hb dX9_coins_2 rfl (lv_at hl 2 rfl) ?_
  refine lv_aload_n hx hb dX9_coins_3 rfl (lv_at hl 0 rfl) ?_
  obtain ⟨h1, hF⟩ := ite_s hF
  refine gf_X9_7 hE hD h1 dX9_coins_4 ?_
  refine lv_i2l (v := (tI u a0 6).toInt64) hx hb dX9_coins_7 rfl ?_
  refine lv_lsub hx hb dX9_coins_8 ?_
  refine lv_lmul hx hb dX9_coins_9 ?_
  obtain rfl := Option.some.inj hF
  exact x_lret hE hD ⟨rfl, rfl⟩ (by omega) (by omega) dX9_coins_10
theorem ku_X0_61_1 : xLU RX0 RX1 "DoubledBridge$Bridge" 61 ⟨"DoubledBridge$Bridge", "coins", "(IJ)J"⟩ yX1_coins cX1_coins 6 (Option.some Jvm.ClassFile.FieldType.long) 2 := ⟨List.forall_mem_cons.mpr ⟨kw3_160, List.forall_mem_cons.mpr ⟨kw3_162, List.forall_mem_cons.mpr ⟨kw3_163, List.forall_mem_cons.mpr ⟨kw3_164, List.forall_mem_cons.mpr ⟨kw1_9, List.forall_mem_cons.mpr ⟨kw3_165, fun _ h => absurd h List.not_mem_nil⟩⟩⟩⟩⟩⟩, Or.inr ⟨kw3_161, _, _, _, kw3_173⟩, by decide, by decide, by decide +kernel⟩
theorem ku_X0_61_4 : xLU RX0 RX4 "DoubledBridge$Bridge" 61 ⟨"DoubledBridge$Bridge", "coins", "(IJ)J"⟩ yX1_coins cX1_coins 6 (Option.some Jvm.ClassFile.FieldType.long) 2 := ⟨List.forall_mem_cons.mpr ⟨kw3_160, List.forall_mem_cons.mpr ⟨kw3_162, List.forall_mem_cons.mpr ⟨kw3_167, List.forall_mem_cons.mpr ⟨kw3_164, List.forall_mem_cons.mpr ⟨kw1_9, List.forall_mem_cons.mpr ⟨kw3_165, fun _ h => absurd h List.not_mem_nil⟩⟩⟩⟩⟩⟩, Or.inr ⟨kw3_161, _, _, _, kw3_173⟩, by decide, by decide, by decide +kernel⟩
theorem ku_X0_61_5 : xLU RX0 RX5 "DoubledBridge$Bridge" 61 ⟨"DoubledBridge$Bridge", "coins", "(IJ)J"⟩ yX9_coins cX9_coins 4 (Option.some Jvm.ClassFile.FieldType.long) 2 := ⟨List.forall_mem_cons.mpr ⟨kw3_160, List.forall_mem_cons.mpr ⟨kw3_162, List.forall_mem_cons.mpr ⟨kw3_168, List.forall_mem_cons.mpr ⟨kw3_169, List.forall_mem_cons.mpr ⟨kw1_7, List.forall_mem_cons.mpr ⟨kw3_170, fun _ h => absurd h List.not_mem_nil⟩⟩⟩⟩⟩⟩, Or.inr ⟨kw3_161, _, _, _, kw3_173⟩, by decide, by decide, by decide +kernel⟩
theorem ku_X0_61_6 : xLU RX0 RX6 "DoubledBridge$Bridge" 61 ⟨"DoubledBridge$Bridge", "coins", "(IJ)J"⟩ yX0_coins cX0_coins 4 (Option.some Jvm.ClassFile.FieldType.long) 2 := ⟨List.forall_mem_cons.mpr ⟨kw3_160, List.forall_mem_cons.mpr ⟨kw3_162, List.forall_mem_cons.mpr ⟨kw3_171, List.forall_mem_cons.mpr ⟨kw3_161, List.forall_mem_cons.mpr ⟨kw1_6, List.forall_mem_cons.mpr ⟨kw3_173, fun _ h => absurd h List.not_mem_nil⟩⟩⟩⟩⟩⟩, Or.inl rfl, by decide, by decide, by decide +kernel⟩
theorem ku_X0_61_9 : xLU RX0 RX9 "DoubledBridge$Bridge" 61 ⟨"DoubledBridge$Bridge", "coins", "(IJ)J"⟩ yX9_coins cX9_coins 4 (Option.some Jvm.ClassFile.FieldType.long) 2 := ⟨List.forall_mem_cons.mpr ⟨kw3_160, List.forall_mem_cons.mpr ⟨kw3_162, List.forall_mem_cons.mpr ⟨kw3_172, List.forall_mem_cons.mpr ⟨kw3_169, List.forall_mem_cons.mpr ⟨kw1_7, List.forall_mem_cons.mpr ⟨kw3_170, fun _ h => absurd h List.not_mem_nil⟩⟩⟩⟩⟩⟩, Or.inr ⟨kw3_161, _, _, _, kw3_173⟩, by decide, by decide, by decide +kernel⟩
def F_V_coins (t : xT) (a : Nat) (xa : Int32) (xb : Int64) : Option Int64 := if tK t a = 1 then F_X1_coins t a xa xb else (if tK t a = 4 then F_X1_coins t a xa xb else (if tK t a = 5 then F_X9_coins t a xa xb else (if tK t a = 6 then F_X0_coins t a xa xb else (if tK t a = 9 then F_X9_coins t a xa xb else (none)))))
theorem kB_X0_61 {p : Program} {l : Launch} {e : Env} {R : Room} {s : State} {m : MethodId} {args : Array Value} {below : List Frame} {meth : Method} {c : Code} {H : Heap} {locs : List Loc} {cells slots : Nat} {Q : State → Prop} {cc : ByteArray} {pc : Nat} {ls : Array Slot} {rest : List Value} {G : xG} {A : Nat → Prop} {a nL : Nat} {H0 : Heap} {ret : Option FieldType} {t : xT} {lv : List (Nat × Value)} (hE : xE p s m args meth c cc RX0 G nL ret) (hl : lv_has ls nL lv) (hD : tD G A H0 t H locs) (hk : isBk (tK t a)) {xa : Int32} {xb : Int64} {v : Int64} (hF : F_V_coins t a xa xb = some v) (hr : (rest.map fun v => v.category).sum ≤ 8) (hdg : decode cc pc = .ok (.invokevirtual 61, 3)) (hR : 3 + 1 ≤ R.frames ∧ 8 + (6 + 11) + 40 * 3 ≤ R.locals) (hR2 : cells ≤ R.cells ∧ slots ≤ R.slots) (kk : ∀ (H1 : Heap) (locs1 : List Loc), tD G A H0 t H1 locs1 → W p l e R s m args below meth c H1 locs1 cells slots Q (F0 m (pc + 3) ls (.long v :: rest))) : W p l e R s m args below meth c H locs cells slots Q (F0 m pc ls (.long xb :: .int xa :: .ref a :: rest)) := by
  unfold F_V_coins at hF
  rcases hk with h | h | h | h | h
  · have hF := ite_p hF h
    exact kUl (As := [.int xa, .long xb]) (rest := rest) hE hl hD (c_X1_coins hF) ku_X0_61_1 (tE_1 h) rfl rfl rfl rfl hr hdg ⟨by have := hR.1; omega, by have := hR.2; omega⟩ hR2 kk
  · have hF := ite_n hF (by rw [h]; decide)
    have hF := ite_p hF h
    exact kUl (As := [.int xa, .long xb]) (rest := rest) hE hl hD (c_X1_coins hF) ku_X0_61_4 (tE_4 h) rfl rfl rfl rfl hr hdg ⟨by have := hR.1; omega, by have := hR.2; omega⟩ hR2 kk
  · have hF := ite_n hF (by rw [h]; decide)
    have hF := ite_n hF (by rw [h]; decide)
    have hF := ite_p hF h
    exact kUl (As := [.int xa, .long xb]) (rest := rest) hE hl hD (c_X9_coins hF) ku_X0_61_5 (tE_5 h) rfl rfl rfl rfl hr hdg ⟨by have := hR.1; omega, by have := hR.2; omega⟩ hR2 kk
  · have hF := ite_n hF (by rw [h]; decide)
    have hF := ite_n hF (by rw [h]; decide)
    have hF := ite_n hF (by rw [h]; decide)
    have hF := ite_p hF h
    exact kUl (As := [.int xa, .long xb]) (rest := rest) hE hl hD (c_X0_coins hF) ku_X0_61_6 (tE_6 h) rfl rfl rfl rfl hr hdg ⟨by have := hR.1; omega, by have := hR.2; omega⟩ hR2 kk
  · have hF := ite_n hF (by rw [h]; decide)
    have hF := ite_n hF (by rw [h]; decide)
    have hF := ite_n hF (by rw [h]; decide)
    have hF := ite_n hF (by rw [h]; decide)
    have hF := ite_p hF h
    exact kUl (As := [.int xa, .long xb]) (rest := rest) hE hl hD (c_X9_coins hF) ku_X0_61_9 (tE_9 h) rfl rfl rfl rfl hr hdg ⟨by have := hR.1; omega, by have := hR.2; omega⟩ hR2 kk
def F_X0_becomesBy_j39 (u : xT) (a0 : Nat) (s0 : Int32) : Option Int32 := some s0
theorem B_X0_becomesBy_j39 {p : Program} {l : Launch} {e : Env} {s : State} {m : MethodId} {args : Array Value} {below : List Frame} {meth : Method} {cd : Code} {G : xG} {w0 : xW} {rr : Int32} (hE : xE p s m args meth cd cX0_becomesBy RX0 G 5 (Option.some Jvm.ClassFile.FieldType.int)) {u : xT} {a0 : Nat} {s0 : Int32} {H : Heap} {locs : List Loc} {ls : Array Slot} (hD : tD G (xA w0 s.heap.size) s.heap u H locs) (hl : lv_has ls 5 [(0, .ref a0)]) (hF : F_X0_becomesBy_j39 u a0 s0 = some rr) : W p l e (xR 4 0 0) s m args below meth cd H locs 0 0 (xQi G w0 (fun r z => r = rr ∧ z = ((tE G u), u.1)) below args s 0 0) (F0 m 39 ls [.int s0]) := by
  have hx := hE.1; have hb := hE.2.1
  unfold F_X0_becomesBy_j39 at hF
  obtain rfl := Option.some.inj hF
  exact x_iret hE hD ⟨rfl, rfl⟩ (by omega) (by omega) dX0_becomesBy_39
def F_X0_becomesBy_j11 (u : xT) (a0 : Nat) : Option Int32 := some (-1 : Int32)
theorem B_X0_becomesBy_j11 {p : Program} {l : Launch} {e : Env} {s : State} {m : MethodId} {args : Array Value} {below : List Frame} {meth : Method} {cd : Code} {G : xG} {w0 : xW} {rr : Int32} (hE : xE p s m args meth cd cX0_becomesBy RX0 G 5 (Option.some Jvm.ClassFile.FieldType.int)) {u : xT} {a0 : Nat} {H : Heap} {locs : List Loc} {ls : Array Slot} (hD : tD G (xA w0 s.heap.size) s.heap u H locs) (hl : lv_has ls 5 [(0, .ref a0)]) (hF : F_X0_becomesBy_j11 u a0 = some rr) : W p l e (xR 4 0 0) s m args below meth cd H locs 0 0 (xQi G w0 (fun r z => r = rr ∧ z = ((tE G u), u.1)) below args s 0 0) (F0 m 11 ls []) := by
  have hx := hE.1; have hb := hE.2.1
  unfold F_X0_becomesBy_j11 at hF
  refine lv_iconst (v := (-1 : Int32)) hx hb dX0_becomesBy_11 (by decide) ?_
  obtain rfl := Option.some.inj hF
  exact x_iret hE hD ⟨rfl, rfl⟩ (by omega) (by omega) dX0_becomesBy_12
def F_X0_becomesBy (u : xT) (a0 : Nat) (xa : Int32) (xb : Int32) : Option Int32 := if isBk (tK u a0) then if (tI u a0 7) = 0 then F_X0_becomesBy_j11 u a0 else if 0 ≤ xb then (F_V_coins u a0 xa xb.toInt64).bind (fun r4 => if 0 ≤ (lg_cmp r4 (0 : Int64)) then xlet (if (1000000000 : Int64) < r4 then (1000000000 : Int64) else r4) (fun x7 => F_X0_becomesBy_j39 u a0 x7.toInt32) else F_X0_becomesBy_j39 u a0 (-1 : Int32)) else F_X0_becomesBy_j11 u a0 else none
theorem c_X0_becomesBy {l : Launch} {G : xG} {rr : Int32} {u : xT} {a0 : Nat} {xa : Int32} {xb : Int32} (hF : F_X0_becomesBy u a0 xa xb = some rr) : xMi l G yX0_becomesBy cX0_becomesBy 5 (Option.some Jvm.ClassFile.FieldType.int) 4 0 0 [.ref a0, .int xa, .int xb] (tE G u) u.1 (fun r z => r = rr ∧ z = ((tE G u), u.1)) := by
  unfold F_X0_becomesBy at hF
  refine x_startI rfl (Nat.le_of_ble_eq_true rfl) (fun p e s m args below meth cd ls hE hnm hl hD => ?_)
  have hx := hE.1; have hb := hE.2.1
  have hl : lv_has ls 5 [(0, .ref a0), (1, .int xa), (2, .int xb)] := hl
  have hD : tD G (xA (tE G u) s.heap.size) s.heap u s.heap [] := hD
  refine lv_aload_n hx hb dX0_becomesBy_0 rfl (lv_at hl 0 rfl) ?_
  obtain ⟨h1, hF⟩ := ite_s hF
  refine gf_X0_41 hE hD h1 dX0_becomesBy_1 ?_
  refine lv_if_eq (tgt := 11) hx hb dX0_becomesBy_4 (by decide) (fun c2 => ?_) (fun c2 => ?_)
  · have hF := ite_p hF c2
    exact B_X0_becomesBy_j11 hE hD (lv_sub hl [0] rfl) hF
  · have hF := ite_n hF c2
    refine lv_iload_n hx hb dX0_becomesBy_7 rfl (lv_at hl 2 rfl) ?_
    refine lv_if_ge (tgt := 13) hx hb dX0_becomesBy_8 (by decide) (fun c3 => ?_) (fun c3 => ?_)
    · have hF := ite_p hF c3
      refine lv_aload_n hx hb dX0_becomesBy_13 rfl (lv_at hl 0 rfl) ?_
      refine lv_iload_n hx hb dX0_becomesBy_14 rfl (lv_at hl 1 rfl) ?_
      refine lv_iload_n hx hb dX0_becomesBy_15 rfl (lv_at hl 2 rfl) ?_
      refine lv_i2l (v := xb.toInt64) hx hb dX0_becomesBy_16 rfl ?_
      obtain ⟨r4, k5, hF⟩ := xb_s hF
      refine kB_X0_61 (rest := []) hE hl hD h1 k5 (Nat.le_of_ble_eq_true rfl) dX0_becomesBy_17 ⟨Nat.le_of_ble_eq_true rfl, Nat.le_of_ble_eq_true rfl⟩ ⟨Nat.le_of_ble_eq_true rfl, Nat.le_of_ble_eq_true rfl⟩ (fun H locs (hD : tD G _ _ u H locs) => ?_)
      refine lv_lstore_n (lv' := [(3, .long r4), (0, .ref a0), (1, .int xa), (2, .int xb)]) hx hb dX0_becomesBy_20 rfl hl (by decide) rfl (fun ls hl => ?_)
      refine lv_lload_n hx hb dX0_becomesBy_21 rfl (lv_at hl 0 rfl) ?_
      refine lv_lconst (v := (0 : Int64)) hx hb dX0_becomesBy_22 (by decide) ?_
      refine W.lcmp hx hb dX0_becomesBy_23 ?_
      refine lv_if_ge (tgt := 31) hx hb dX0_becomesBy_24 (by decide) (fun c6 => ?_) (fun c6 => ?_)
      · have hF := ite_p hF c6
        refine lv_lload_n hx hb dX0_becomesBy_31 rfl (lv_at hl 0 rfl) ?_
        refine lv_ldc2 (v := (1000000000 : Int64)) hx hb hE.2.2.1 (hE.2.2.2.1 _ kw3_174) dX0_becomesBy_32 ?_
        refine x_mminL (rest := []) hE hl kw3_175 (Nat.le_of_ble_eq_true rfl) (Nat.le_of_ble_eq_true rfl) (Nat.le_of_ble_eq_true rfl) (Nat.le_of_ble_eq_true rfl) dX0_becomesBy_35 ?_
        refine lv_topl (fun x7 ex7 => ?_)
        have hF := xlet_e hF ex7
        refine lv_l2i (v := x7.toInt32) hx hb dX0_becomesBy_38 rfl ?_
        exact B_X0_becomesBy_j39 hE hD (lv_sub hl [1] rfl) hF
      · have hF := ite_n hF c6
        refine lv_iconst (v := (-1 : Int32)) hx hb dX0_becomesBy_27 (by decide) ?_
        refine lv_goto (tgt := 39) hx hb dX0_becomesBy_28 (by decide) ?_
        exact B_X0_becomesBy_j39 hE hD (lv_sub hl [1] rfl) hF
    · have hF := ite_n hF c3
      exact B_X0_becomesBy_j11 hE hD (lv_sub hl [0] rfl) hF
theorem ku_X0_57_1 : xLU RX0 RX1 "DoubledBridge$Bridge" 57 ⟨"DoubledBridge$Bridge", "becomesBy", "(II)I"⟩ yX0_becomesBy cX0_becomesBy 5 (Option.some Jvm.ClassFile.FieldType.int) 2 := ⟨List.forall_mem_cons.mpr ⟨kw3_151, List.forall_mem_cons.mpr ⟨kw3_153, List.forall_mem_cons.mpr ⟨kw3_154, List.forall_mem_cons.mpr ⟨kw3_152, List.forall_mem_cons.mpr ⟨kw1_6, List.forall_mem_cons.mpr ⟨kw3_159, fun _ h => absurd h List.not_mem_nil⟩⟩⟩⟩⟩⟩, Or.inl rfl, by decide, by decide, by decide +kernel⟩
theorem ku_X0_57_4 : xLU RX0 RX4 "DoubledBridge$Bridge" 57 ⟨"DoubledBridge$Bridge", "becomesBy", "(II)I"⟩ yX0_becomesBy cX0_becomesBy 5 (Option.some Jvm.ClassFile.FieldType.int) 2 := ⟨List.forall_mem_cons.mpr ⟨kw3_151, List.forall_mem_cons.mpr ⟨kw3_153, List.forall_mem_cons.mpr ⟨kw3_155, List.forall_mem_cons.mpr ⟨kw3_152, List.forall_mem_cons.mpr ⟨kw1_6, List.forall_mem_cons.mpr ⟨kw3_159, fun _ h => absurd h List.not_mem_nil⟩⟩⟩⟩⟩⟩, Or.inl rfl, by decide, by decide, by decide +kernel⟩
theorem ku_X0_57_5 : xLU RX0 RX5 "DoubledBridge$Bridge" 57 ⟨"DoubledBridge$Bridge", "becomesBy", "(II)I"⟩ yX0_becomesBy cX0_becomesBy 5 (Option.some Jvm.ClassFile.FieldType.int) 2 := ⟨List.forall_mem_cons.mpr ⟨kw3_151, List.forall_mem_cons.mpr ⟨kw3_153, List.forall_mem_cons.mpr ⟨kw3_156, List.forall_mem_cons.mpr ⟨kw3_152, List.forall_mem_cons.mpr ⟨kw1_6, List.forall_mem_cons.mpr ⟨kw3_159, fun _ h => absurd h List.not_mem_nil⟩⟩⟩⟩⟩⟩, Or.inl rfl, by decide, by decide, by decide +kernel⟩
theorem ku_X0_57_6 : xLU RX0 RX6 "DoubledBridge$Bridge" 57 ⟨"DoubledBridge$Bridge", "becomesBy", "(II)I"⟩ yX0_becomesBy cX0_becomesBy 5 (Option.some Jvm.ClassFile.FieldType.int) 2 := ⟨List.forall_mem_cons.mpr ⟨kw3_151, List.forall_mem_cons.mpr ⟨kw3_153, List.forall_mem_cons.mpr ⟨kw3_157, List.forall_mem_cons.mpr ⟨kw3_152, List.forall_mem_cons.mpr ⟨kw1_6, List.forall_mem_cons.mpr ⟨kw3_159, fun _ h => absurd h List.not_mem_nil⟩⟩⟩⟩⟩⟩, Or.inl rfl, by decide, by decide, by decide +kernel⟩
theorem ku_X0_57_9 : xLU RX0 RX9 "DoubledBridge$Bridge" 57 ⟨"DoubledBridge$Bridge", "becomesBy", "(II)I"⟩ yX0_becomesBy cX0_becomesBy 5 (Option.some Jvm.ClassFile.FieldType.int) 2 := ⟨List.forall_mem_cons.mpr ⟨kw3_151, List.forall_mem_cons.mpr ⟨kw3_153, List.forall_mem_cons.mpr ⟨kw3_158, List.forall_mem_cons.mpr ⟨kw3_152, List.forall_mem_cons.mpr ⟨kw1_6, List.forall_mem_cons.mpr ⟨kw3_159, fun _ h => absurd h List.not_mem_nil⟩⟩⟩⟩⟩⟩, Or.inl rfl, by decide, by decide, by decide +kernel⟩
theorem kB_X0_57 {p : Program} {l : Launch} {e : Env} {R : Room} {s : State} {m : MethodId} {args : Array Value} {below : List Frame} {meth : Method} {c : Code} {H : Heap} {locs : List Loc} {cells slots : Nat} {Q : State → Prop} {cc : ByteArray} {pc : Nat} {ls : Array Slot} {rest : List Value} {G : xG} {A : Nat → Prop} {a nL : Nat} {H0 : Heap} {ret : Option FieldType} {t : xT} {lv : List (Nat × Value)} (hE : xE p s m args meth c cc RX0 G nL ret) (hl : lv_has ls nL lv) (hD : tD G A H0 t H locs) (hk : isBk (tK t a)) {xa : Int32} {xb : Int32} {v : Int32} (hF : F_X0_becomesBy t a xa xb = some v) (hr : (rest.map fun v => v.category).sum ≤ 8) (hdg : decode cc pc = .ok (.invokevirtual 57, 3)) (hR : 4 + 1 ≤ R.frames ∧ 8 + (5 + 11) + 40 * 4 ≤ R.locals) (hR2 : cells ≤ R.cells ∧ slots ≤ R.slots) (kk : ∀ (H1 : Heap) (locs1 : List Loc), tD G A H0 t H1 locs1 → W p l e R s m args below meth c H1 locs1 cells slots Q (F0 m (pc + 3) ls (.int v :: rest))) : W p l e R s m args below meth c H locs cells slots Q (F0 m pc ls (.int xb :: .int xa :: .ref a :: rest)) := by
  rcases hk with h | h | h | h | h
  · exact kUi (As := [.int xa, .int xb]) (rest := rest) hE hl hD (c_X0_becomesBy hF) ku_X0_57_1 (tE_1 h) rfl rfl rfl rfl hr hdg ⟨by have := hR.1; omega, by have := hR.2; omega⟩ hR2 kk
  · exact kUi (As := [.int xa, .int xb]) (rest := rest) hE hl hD (c_X0_becomesBy hF) ku_X0_57_4 (tE_4 h) rfl rfl rfl rfl hr hdg ⟨by have := hR.1; omega, by have := hR.2; omega⟩ hR2 kk
  · exact kUi (As := [.int xa, .int xb]) (rest := rest) hE hl hD (c_X0_becomesBy hF) ku_X0_57_5 (tE_5 h) rfl rfl rfl rfl hr hdg ⟨by have := hR.1; omega, by have := hR.2; omega⟩ hR2 kk
  · exact kUi (As := [.int xa, .int xb]) (rest := rest) hE hl hD (c_X0_becomesBy hF) ku_X0_57_6 (tE_6 h) rfl rfl rfl rfl hr hdg ⟨by have := hR.1; omega, by have := hR.2; omega⟩ hR2 kk
  · exact kUi (As := [.int xa, .int xb]) (rest := rest) hE hl hD (c_X0_becomesBy hF) ku_X0_57_9 (tE_9 h) rfl rfl rfl rfl hr hdg ⟨by have := hR.1; omega, by have := hR.2; omega⟩ hR2 kk
def F_X0_becomes (u : xT) (a0 : Nat) (xa : Int32) : Option Int32 := if isBk (tK u a0) then (F_X0_becomesBy u a0 (tI u a0 5) xa).bind (fun r2 => some r2) else none
theorem c_X0_becomes {l : Launch} {G : xG} {rr : Int32} {u : xT} {a0 : Nat} {xa : Int32} (hF : F_X0_becomes u a0 xa = some rr) : xMi l G yX0_becomes cX0_becomes 2 (Option.some Jvm.ClassFile.FieldType.int) 5 0 0 [.ref a0, .int xa] (tE G u) u.1 (fun r z => r = rr ∧ z = ((tE G u), u.1)) := by
  unfold F_X0_becomes at hF
  refine x_startI rfl (Nat.le_of_ble_eq_true rfl) (fun p e s m args below meth cd ls hE hnm hl hD => ?_)
  have hx := hE.1; have hb := hE.2.1
  have hl : lv_has ls 2 [(0, .ref a0), (1, .int xa)] := hl
  have hD : tD G (xA (tE G u) s.heap.size) s.heap u s.heap [] := hD
  refine lv_aload_n hx hb dX0_becomes_0 rfl (lv_at hl 0 rfl) ?_
  refine lv_aload_n hx hb dX0_becomes_1 rfl (lv_at hl 0 rfl) ?_
  obtain ⟨h1, hF⟩ := ite_s hF
  refine gf_X0_45 hE hD h1 dX0_becomes_2 ?_
  refine lv_iload_n hx hb dX0_becomes_5 rfl (lv_at hl 1 rfl) ?_
  obtain ⟨r2, k3, hF⟩ := xb_s hF
  refine kB_X0_57 (rest := []) hE hl hD h1 k3 (Nat.le_of_ble_eq_true rfl) dX0_becomes_6 ⟨Nat.le_of_ble_eq_true rfl, Nat.le_of_ble_eq_true rfl⟩ ⟨Nat.le_of_ble_eq_true rfl, Nat.le_of_ble_eq_true rfl⟩ (fun H locs (hD : tD G _ _ u H locs) => ?_)
  obtain rfl := Option.some.inj hF
  exact x_iret hE hD ⟨rfl, rfl⟩ (by omega) (by omega) dX0_becomes_9
def F_X0_quotientUp_j27 (u : xT) (a0 : Nat) (s0 : Int64) : Option Int64 := some s0
theorem B_X0_quotientUp_j27 {p : Program} {l : Launch} {e : Env} {s : State} {m : MethodId} {args : Array Value} {below : List Frame} {meth : Method} {cd : Code} {G : xG} {w0 : xW} {rr : Int64} (hE : xE p s m args meth cd cX0_quotientUp RX0 G 3 (Option.some Jvm.ClassFile.FieldType.long)) {u : xT} {a0 : Nat} {s0 : Int64} {H : Heap} {locs : List Loc} {ls : Array Slot} (hD : tD G (xA w0 s.heap.size) s.heap u H locs) (hl : lv_has ls 3 [(0, .ref a0)]) (hF : F_X0_quotientUp_j27 u a0 s0 = some rr) : W p l e (xR 2 0 0) s m args below meth cd H locs 0 0 (xQl G w0 (fun r z => r = rr ∧ z = ((tE G u), u.1)) below args s 0 0) (F0 m 27 ls [.long s0]) := by
  have hx := hE.1; have hb := hE.2.1
  unfold F_X0_quotientUp_j27 at hF
  obtain rfl := Option.some.inj hF
  exact x_lret hE hD ⟨rfl, rfl⟩ (by omega) (by omega) dX0_quotientUp_27
def F_X0_quotientUp (u : xT) (a0 : Nat) (xa : Int64) : Option Int64 := if isBk (tK u a0) then if (1 : Int32) ≤ (tI u a0 5) then if ¬ ((tI u a0 5).toInt64) = 0 then F_X0_quotientUp_j27 u a0 (((xa + ((tI u a0 5).toInt64)) - (1 : Int64)) / ((tI u a0 5).toInt64)) else none else F_X0_quotientUp_j27 u a0 xa else none
theorem c_X0_quotientUp {l : Launch} {G : xG} {rr : Int64} {u : xT} {a0 : Nat} {xa : Int64} (hF : F_X0_quotientUp u a0 xa = some rr) : xMl l G yX0_quotientUp cX0_quotientUp 3 (Option.some Jvm.ClassFile.FieldType.long) 2 0 0 [.ref a0, .long xa] (tE G u) u.1 (fun r z => r = rr ∧ z = ((tE G u), u.1)) := by
  unfold F_X0_quotientUp at hF
  refine x_startL rfl (Nat.le_of_ble_eq_true rfl) (fun p e s m args below meth cd ls hE hnm hl hD => ?_)
  have hx := hE.1; have hb := hE.2.1
  have hl : lv_has ls 3 [(0, .ref a0), (1, .long xa)] := hl
  have hD : tD G (xA (tE G u) s.heap.size) s.heap u s.heap [] := hD
  refine lv_aload_n hx hb dX0_quotientUp_0 rfl (lv_at hl 0 rfl) ?_
  obtain ⟨h1, hF⟩ := ite_s hF
  refine gf_X0_45 hE hD h1 dX0_quotientUp_1 ?_
  refine lv_iconst (v := (1 : Int32)) hx hb dX0_quotientUp_4 (by decide) ?_
  refine lv_icmp_ge (tgt := 12) hx hb dX0_quotientUp_5 (by decide) (fun c2 => ?_) (fun c2 => ?_)
  · have hF := ite_p hF c2
    refine lv_lload_n hx hb dX0_quotientUp_12 rfl (lv_at hl 1 rfl) ?_
    refine lv_aload_n hx hb dX0_quotientUp_13 rfl (lv_at hl 0 rfl) ?_
    refine gf_X0_45 hE hD h1 dX0_quotientUp_14 ?_
    refine lv_i2l (v := (tI u a0 5).toInt64) hx hb dX0_quotientUp_17 rfl ?_
    refine lv_ladd hx hb dX0_quotientUp_18 ?_
    refine lv_lconst (v := (1 : Int64)) hx hb dX0_quotientUp_19 (by decide) ?_
    refine lv_lsub hx hb dX0_quotientUp_20 ?_
    refine lv_aload_n hx hb dX0_quotientUp_21 rfl (lv_at hl 0 rfl) ?_
    refine gf_X0_45 hE hD h1 dX0_quotientUp_22 ?_
    refine lv_i2l (v := (tI u a0 5).toInt64) hx hb dX0_quotientUp_25 rfl ?_
    obtain ⟨h3, hF⟩ := ite_s hF
    refine lv_ldiv hx hb dX0_quotientUp_26 h3 ?_
    exact B_X0_quotientUp_j27 hE hD (lv_sub hl [0] rfl) hF
  · have hF := ite_n hF c2
    refine lv_lload_n hx hb dX0_quotientUp_8 rfl (lv_at hl 1 rfl) ?_
    refine lv_goto (tgt := 27) hx hb dX0_quotientUp_9 (by decide) ?_
    exact B_X0_quotientUp_j27 hE hD (lv_sub hl [0] rfl) hF
theorem ku_X0_77_1 : xLU RX0 RX1 "DoubledBridge$Bridge" 77 ⟨"DoubledBridge$Bridge", "quotientUp", "(J)J"⟩ yX0_quotientUp cX0_quotientUp 3 (Option.some Jvm.ClassFile.FieldType.long) 1 := ⟨List.forall_mem_cons.mpr ⟨kw3_236, List.forall_mem_cons.mpr ⟨kw8_42, List.forall_mem_cons.mpr ⟨kw8_43, List.forall_mem_cons.mpr ⟨kw3_231, List.forall_mem_cons.mpr ⟨kw1_6, List.forall_mem_cons.mpr ⟨kw3_232, fun _ h => absurd h List.not_mem_nil⟩⟩⟩⟩⟩⟩, Or.inl rfl, by decide, by decide, by decide +kernel⟩
theorem ku_X0_77_4 : xLU RX0 RX4 "DoubledBridge$Bridge" 77 ⟨"DoubledBridge$Bridge", "quotientUp", "(J)J"⟩ yX0_quotientUp cX0_quotientUp 3 (Option.some Jvm.ClassFile.FieldType.long) 1 := ⟨List.forall_mem_cons.mpr ⟨kw3_236, List.forall_mem_cons.mpr ⟨kw8_42, List.forall_mem_cons.mpr ⟨kw8_44, List.forall_mem_cons.mpr ⟨kw3_231, List.forall_mem_cons.mpr ⟨kw1_6, List.forall_mem_cons.mpr ⟨kw3_232, fun _ h => absurd h List.not_mem_nil⟩⟩⟩⟩⟩⟩, Or.inl rfl, by decide, by decide, by decide +kernel⟩
theorem ku_X0_77_5 : xLU RX0 RX5 "DoubledBridge$Bridge" 77 ⟨"DoubledBridge$Bridge", "quotientUp", "(J)J"⟩ yX0_quotientUp cX0_quotientUp 3 (Option.some Jvm.ClassFile.FieldType.long) 1 := ⟨List.forall_mem_cons.mpr ⟨kw3_236, List.forall_mem_cons.mpr ⟨kw8_42, List.forall_mem_cons.mpr ⟨kw8_45, List.forall_mem_cons.mpr ⟨kw3_231, List.forall_mem_cons.mpr ⟨kw1_6, List.forall_mem_cons.mpr ⟨kw3_232, fun _ h => absurd h List.not_mem_nil⟩⟩⟩⟩⟩⟩, Or.inl rfl, by decide, by decide, by decide +kernel⟩
theorem ku_X0_77_6 : xLU RX0 RX6 "DoubledBridge$Bridge" 77 ⟨"DoubledBridge$Bridge", "quotientUp", "(J)J"⟩ yX0_quotientUp cX0_quotientUp 3 (Option.some Jvm.ClassFile.FieldType.long) 1 := ⟨List.forall_mem_cons.mpr ⟨kw3_236, List.forall_mem_cons.mpr ⟨kw8_42, List.forall_mem_cons.mpr ⟨kw8_46, List.forall_mem_cons.mpr ⟨kw3_231, List.forall_mem_cons.mpr ⟨kw1_6, List.forall_mem_cons.mpr ⟨kw3_232, fun _ h => absurd h List.not_mem_nil⟩⟩⟩⟩⟩⟩, Or.inl rfl, by decide, by decide, by decide +kernel⟩
theorem ku_X0_77_9 : xLU RX0 RX9 "DoubledBridge$Bridge" 77 ⟨"DoubledBridge$Bridge", "quotientUp", "(J)J"⟩ yX0_quotientUp cX0_quotientUp 3 (Option.some Jvm.ClassFile.FieldType.long) 1 := ⟨List.forall_mem_cons.mpr ⟨kw3_236, List.forall_mem_cons.mpr ⟨kw8_42, List.forall_mem_cons.mpr ⟨kw8_47, List.forall_mem_cons.mpr ⟨kw3_231, List.forall_mem_cons.mpr ⟨kw1_6, List.forall_mem_cons.mpr ⟨kw3_232, fun _ h => absurd h List.not_mem_nil⟩⟩⟩⟩⟩⟩, Or.inl rfl, by decide, by decide, by decide +kernel⟩
theorem kB_X0_77 {p : Program} {l : Launch} {e : Env} {R : Room} {s : State} {m : MethodId} {args : Array Value} {below : List Frame} {meth : Method} {c : Code} {H : Heap} {locs : List Loc} {cells slots : Nat} {Q : State → Prop} {cc : ByteArray} {pc : Nat} {ls : Array Slot} {rest : List Value} {G : xG} {A : Nat → Prop} {a nL : Nat} {H0 : Heap} {ret : Option FieldType} {t : xT} {lv : List (Nat × Value)} (hE : xE p s m args meth c cc RX0 G nL ret) (hl : lv_has ls nL lv) (hD : tD G A H0 t H locs) (hk : isBk (tK t a)) {xa : Int64} {v : Int64} (hF : F_X0_quotientUp t a xa = some v) (hr : (rest.map fun v => v.category).sum ≤ 8) (hdg : decode cc pc = .ok (.invokevirtual 77, 3)) (hR : 2 + 1 ≤ R.frames ∧ 8 + (3 + 11) + 40 * 2 ≤ R.locals) (hR2 : cells ≤ R.cells ∧ slots ≤ R.slots) (kk : ∀ (H1 : Heap) (locs1 : List Loc), tD G A H0 t H1 locs1 → W p l e R s m args below meth c H1 locs1 cells slots Q (F0 m (pc + 3) ls (.long v :: rest))) : W p l e R s m args below meth c H locs cells slots Q (F0 m pc ls (.long xa :: .ref a :: rest)) := by
  rcases hk with h | h | h | h | h
  · exact kUl (As := [.long xa]) (rest := rest) hE hl hD (c_X0_quotientUp hF) ku_X0_77_1 (tE_1 h) rfl rfl rfl rfl hr hdg ⟨by have := hR.1; omega, by have := hR.2; omega⟩ hR2 kk
  · exact kUl (As := [.long xa]) (rest := rest) hE hl hD (c_X0_quotientUp hF) ku_X0_77_4 (tE_4 h) rfl rfl rfl rfl hr hdg ⟨by have := hR.1; omega, by have := hR.2; omega⟩ hR2 kk
  · exact kUl (As := [.long xa]) (rest := rest) hE hl hD (c_X0_quotientUp hF) ku_X0_77_5 (tE_5 h) rfl rfl rfl rfl hr hdg ⟨by have := hR.1; omega, by have := hR.2; omega⟩ hR2 kk
  · exact kUl (As := [.long xa]) (rest := rest) hE hl hD (c_X0_quotientUp hF) ku_X0_77_6 (tE_6 h) rfl rfl rfl rfl hr hdg ⟨by have := hR.1; omega, by have := hR.2; omega⟩ hR2 kk
  · exact kUl (As := [.long xa]) (rest := rest) hE hl hD (c_X0_quotientUp hF) ku_X0_77_9 (tE_9 h) rfl rfl rfl rfl hr hdg ⟨by have := hR.1; omega, by have := hR.2; omega⟩ hR2 kk
def F_X0_leastCoins (u : xT) (a0 : Nat) (xa : Int64) : Option Int64 := if isBk (tK u a0) then (F_X0_quotientUp u a0 (xa + ((tI u a0 6).toInt64))).bind (fun r2 => some r2) else none
theorem c_X0_leastCoins {l : Launch} {G : xG} {rr : Int64} {u : xT} {a0 : Nat} {xa : Int64} (hF : F_X0_leastCoins u a0 xa = some rr) : xMl l G yX0_leastCoins cX0_leastCoins 3 (Option.some Jvm.ClassFile.FieldType.long) 3 0 0 [.ref a0, .long xa] (tE G u) u.1 (fun r z => r = rr ∧ z = ((tE G u), u.1)) := by
  unfold F_X0_leastCoins at hF
  refine x_startL rfl (Nat.le_of_ble_eq_true rfl) (fun p e s m args below meth cd ls hE hnm hl hD => ?_)
  have hx := hE.1; have hb := hE.2.1
  have hl : lv_has ls 3 [(0, .ref a0), (1, .long xa)] := hl
  have hD : tD G (xA (tE G u) s.heap.size) s.heap u s.heap [] := hD
  refine lv_aload_n hx hb dX0_leastCoins_0 rfl (lv_at hl 0 rfl) ?_
  refine lv_lload_n hx hb dX0_leastCoins_1 rfl (lv_at hl 1 rfl) ?_
  refine lv_aload_n hx hb dX0_leastCoins_2 rfl (lv_at hl 0 rfl) ?_
  obtain ⟨h1, hF⟩ := ite_s hF
  refine gf_X0_51 hE hD h1 dX0_leastCoins_3 ?_
  refine lv_i2l (v := (tI u a0 6).toInt64) hx hb dX0_leastCoins_6 rfl ?_
  refine lv_ladd hx hb dX0_leastCoins_7 ?_
  obtain ⟨r2, k3, hF⟩ := xb_s hF
  refine kB_X0_77 (rest := []) hE hl hD h1 k3 (Nat.le_of_ble_eq_true rfl) dX0_leastCoins_8 ⟨Nat.le_of_ble_eq_true rfl, Nat.le_of_ble_eq_true rfl⟩ ⟨Nat.le_of_ble_eq_true rfl, Nat.le_of_ble_eq_true rfl⟩ (fun H locs (hD : tD G _ _ u H locs) => ?_)
  obtain rfl := Option.some.inj hF
  exact x_lret hE hD ⟨rfl, rfl⟩ (by omega) (by omega) dX0_leastCoins_11
theorem kp_X1_11 : xLP RX1 11 ⟨"DoubledBridge$Bridge", "leastCoins", "(J)J"⟩ yX0_leastCoins cX0_leastCoins 3 (Option.some Jvm.ClassFile.FieldType.long) 1 := ⟨List.forall_mem_cons.mpr ⟨kw3_221, List.forall_mem_cons.mpr ⟨kw3_217, List.forall_mem_cons.mpr ⟨kw2_61, List.forall_mem_cons.mpr ⟨kw3_216, List.forall_mem_cons.mpr ⟨kw1_6, List.forall_mem_cons.mpr ⟨kw3_235, fun _ h => absurd h List.not_mem_nil⟩⟩⟩⟩⟩⟩, rfl, rfl, Or.inl rfl, by decide, by decide +kernel⟩
theorem kQ_X1_11 {p : Program} {l : Launch} {e : Env} {R : Room} {s : State} {m : MethodId} {args : Array Value} {below : List Frame} {meth : Method} {c : Code} {H : Heap} {locs : List Loc} {cells slots : Nat} {Q : State → Prop} {cc : ByteArray} {pc : Nat} {ls : Array Slot} {rest : List Value} {G : xG} {A : Nat → Prop} {a nL : Nat} {H0 : Heap} {ret : Option FieldType} {t : xT} {lv : List (Nat × Value)} (hE : xE p s m args meth c cc RX1 G nL ret) (hl : lv_has ls nL lv) (hD : tD G A H0 t H locs) (hk : (tK t a = 1 ∨ tK t a = 4)) {xa : Int64} {v : Int64} (hF : F_X0_leastCoins t a xa = some v) (hr : (rest.map fun v => v.category).sum ≤ 8) (hdg : decode cc pc = .ok (.invokespecial 11, 3)) (hR : 3 + 1 ≤ R.frames ∧ 8 + (3 + 11) + 40 * 3 ≤ R.locals) (hR2 : cells ≤ R.cells ∧ slots ≤ R.slots) (kk : ∀ (H1 : Heap) (locs1 : List Loc), tD G A H0 t H1 locs1 → W p l e R s m args below meth c H1 locs1 cells slots Q (F0 m (pc + 3) ls (.long v :: rest))) : W p l e R s m args below meth c H locs cells slots Q (F0 m pc ls (.long xa :: .ref a :: rest)) := by
  rcases hk with h | h
  · exact kPl (As := [.long xa]) (rest := rest) hE hl hD (c_X0_leastCoins hF) kp_X1_11 (tE_1 h) rfl rfl rfl hr hdg hR hR2 kk
  · exact kPl (As := [.long xa]) (rest := rest) hE hl hD (c_X0_leastCoins hF) kp_X1_11 (tE_4 h) rfl rfl rfl hr hdg hR hR2 kk
def F_X1_leastCoins (u : xT) (a0 : Nat) (xa : Int64) : Option Int64 := if (tK u a0 = 1 ∨ tK u a0 = 4) then (F_X0_leastCoins u a0 (xa + (xa &&& (1 : Int64)))).bind (fun r2 => some r2) else none
theorem c_X1_leastCoins {l : Launch} {G : xG} {rr : Int64} {u : xT} {a0 : Nat} {xa : Int64} (hF : F_X1_leastCoins u a0 xa = some rr) : xMl l G yX1_leastCoins cX1_leastCoins 3 (Option.some Jvm.ClassFile.FieldType.long) 4 0 0 [.ref a0, .long xa] (tE G u) u.1 (fun r z => r = rr ∧ z = ((tE G u), u.1)) := by
  unfold F_X1_leastCoins at hF
  refine x_startL rfl (Nat.le_of_ble_eq_true rfl) (fun p e s m args below meth cd ls hE hnm hl hD => ?_)
  have hx := hE.1; have hb := hE.2.1
  have hl : lv_has ls 3 [(0, .ref a0), (1, .long xa)] := hl
  have hD : tD G (xA (tE G u) s.heap.size) s.heap u s.heap [] := hD
  refine lv_aload_n hx hb dX1_leastCoins_0 rfl (lv_at hl 0 rfl) ?_
  refine lv_lload_n hx hb dX1_leastCoins_1 rfl (lv_at hl 1 rfl) ?_
  refine lv_lload_n hx hb dX1_leastCoins_2 rfl (lv_at hl 1 rfl) ?_
  refine lv_lconst (v := (1 : Int64)) hx hb dX1_leastCoins_3 (by decide) ?_
  refine lv_land hx hb dX1_leastCoins_4 ?_
  refine lv_ladd hx hb dX1_leastCoins_5 ?_
  obtain ⟨h1, hF⟩ := ite_s hF
  obtain ⟨r2, k3, hF⟩ := xb_s hF
  refine kQ_X1_11 (rest := []) hE hl hD h1 k3 (Nat.le_of_ble_eq_true rfl) dX1_leastCoins_6 ⟨Nat.le_of_ble_eq_true rfl, Nat.le_of_ble_eq_true rfl⟩ ⟨Nat.le_of_ble_eq_true rfl, Nat.le_of_ble_eq_true rfl⟩ (fun H locs (hD : tD G _ _ u H locs) => ?_)
  obtain rfl := Option.some.inj hF
  exact x_lret hE hD ⟨rfl, rfl⟩ (by omega) (by omega) dX1_leastCoins_9
theorem ku_X9_13_9 : xLU RX9 RX9 "DoubledBridge$Bridge" 13 ⟨"DoubledBridge$Stream", "quotientUp", "(J)J"⟩ yX0_quotientUp cX0_quotientUp 3 (Option.some Jvm.ClassFile.FieldType.long) 1 := ⟨List.forall_mem_cons.mpr ⟨kw3_226, List.forall_mem_cons.mpr ⟨kw3_227, List.forall_mem_cons.mpr ⟨kw3_230, List.forall_mem_cons.mpr ⟨kw3_231, List.forall_mem_cons.mpr ⟨kw1_6, List.forall_mem_cons.mpr ⟨kw3_232, fun _ h => absurd h List.not_mem_nil⟩⟩⟩⟩⟩⟩, Or.inl rfl, by decide, by decide, by decide +kernel⟩
theorem ku_X9_13_5 : xLU RX9 RX5 "DoubledBridge$Bridge" 13 ⟨"DoubledBridge$Stream", "quotientUp", "(J)J"⟩ yX0_quotientUp cX0_quotientUp 3 (Option.some Jvm.ClassFile.FieldType.long) 1 := ⟨List.forall_mem_cons.mpr ⟨kw3_226, List.forall_mem_cons.mpr ⟨kw3_227, List.forall_mem_cons.mpr ⟨kw3_229, List.forall_mem_cons.mpr ⟨kw3_231, List.forall_mem_cons.mpr ⟨kw1_6, List.forall_mem_cons.mpr ⟨kw3_232, fun _ h => absurd h List.not_mem_nil⟩⟩⟩⟩⟩⟩, Or.inl rfl, by decide, by decide, by decide +kernel⟩
theorem kB_X9_13 {p : Program} {l : Launch} {e : Env} {R : Room} {s : State} {m : MethodId} {args : Array Value} {below : List Frame} {meth : Method} {c : Code} {H : Heap} {locs : List Loc} {cells slots : Nat} {Q : State → Prop} {cc : ByteArray} {pc : Nat} {ls : Array Slot} {rest : List Value} {G : xG} {A : Nat → Prop} {a nL : Nat} {H0 : Heap} {ret : Option FieldType} {t : xT} {lv : List (Nat × Value)} (hE : xE p s m args meth c cc RX9 G nL ret) (hl : lv_has ls nL lv) (hD : tD G A H0 t H locs) (hk : (tK t a = 9 ∨ tK t a = 5)) {xa : Int64} {v : Int64} (hF : F_X0_quotientUp t a xa = some v) (hr : (rest.map fun v => v.category).sum ≤ 8) (hdg : decode cc pc = .ok (.invokevirtual 13, 3)) (hR : 2 + 1 ≤ R.frames ∧ 8 + (3 + 11) + 40 * 2 ≤ R.locals) (hR2 : cells ≤ R.cells ∧ slots ≤ R.slots) (kk : ∀ (H1 : Heap) (locs1 : List Loc), tD G A H0 t H1 locs1 → W p l e R s m args below meth c H1 locs1 cells slots Q (F0 m (pc + 3) ls (.long v :: rest))) : W p l e R s m args below meth c H locs cells slots Q (F0 m pc ls (.long xa :: .ref a :: rest)) := by
  rcases hk with h | h
  · exact kUl (As := [.long xa]) (rest := rest) hE hl hD (c_X0_quotientUp hF) ku_X9_13_9 (tE_9 h) rfl rfl rfl rfl hr hdg ⟨by have := hR.1; omega, by have := hR.2; omega⟩ hR2 kk
  · exact kUl (As := [.long xa]) (rest := rest) hE hl hD (c_X0_quotientUp hF) ku_X9_13_5 (tE_5 h) rfl rfl rfl rfl hr hdg ⟨by have := hR.1; omega, by have := hR.2; omega⟩ hR2 kk
def F_X9_leastCoins (u : xT) (a0 : Nat) (xa : Int64) : Option Int64 := if (tK u a0 = 9 ∨ tK u a0 = 5) then (F_X0_quotientUp u a0 xa).bind (fun r2 => some (r2 + ((tI u a0 6).toInt64))) else none
theorem c_X9_leastCoins {l : Launch} {G : xG} {rr : Int64} {u : xT} {a0 : Nat} {xa : Int64} (hF : F_X9_leastCoins u a0 xa = some rr) : xMl l G yX9_leastCoins cX9_leastCoins 3 (Option.some Jvm.ClassFile.FieldType.long) 3 0 0 [.ref a0, .long xa] (tE G u) u.1 (fun r z => r = rr ∧ z = ((tE G u), u.1)) := by
  unfold F_X9_leastCoins at hF
  refine x_startL rfl (Nat.le_of_ble_eq_true rfl) (fun p e s m args below meth cd ls hE hnm hl hD => ?_)
  have hx := hE.1; have hb := hE.2.1
  have hl : lv_has ls 3 [(0, .ref a0), (1, .long xa)] := hl
  have hD : tD G (xA (tE G u) s.heap.size) s.heap u s.heap [] := hD
  refine lv_aload_n hx hb dX9_leastCoins_0 rfl (lv_at hl 0 rfl) ?_
  refine lv_lload_n hx hb dX9_leastCoins_1 rfl (lv_at hl 1 rfl) ?_
  obtain ⟨h1, hF⟩ := ite_s hF
  obtain ⟨r2, k3, hF⟩ := xb_s hF
  refine kB_X9_13 (rest := []) hE hl hD h1 k3 (Nat.le_of_ble_eq_true rfl) dX9_leastCoins_2 ⟨Nat.le_of_ble_eq_true rfl, Nat.le_of_ble_eq_true rfl⟩ ⟨Nat.le_of_ble_eq_true rfl, Nat.le_of_ble_eq_true rfl⟩ (fun H locs (hD : tD G _ _ u H locs) => ?_)
  refine lv_aload_n hx hb dX9_leastCoins_5 rfl (lv_at hl 0 rfl) ?_
  refine gf_X9_7 hE hD h1 dX9_leastCoins_6 ?_
  refine lv_i2l (v := (tI u a0 6).toInt64) hx hb dX9_leastCoins_9 rfl ?_
  refine lv_ladd hx hb dX9_leastCoins_10 ?_
  obtain rfl := Option.some.inj hF
  exact x_lret hE hD ⟨rfl, rfl⟩ (by omega) (by omega) dX9_leastCoins_11
theorem ku_X0_73_1 : xLU RX0 RX1 "DoubledBridge$Bridge" 73 ⟨"DoubledBridge$Bridge", "leastCoins", "(J)J"⟩ yX1_leastCoins cX1_leastCoins 3 (Option.some Jvm.ClassFile.FieldType.long) 1 := ⟨List.forall_mem_cons.mpr ⟨kw3_215, List.forall_mem_cons.mpr ⟨kw3_217, List.forall_mem_cons.mpr ⟨kw3_218, List.forall_mem_cons.mpr ⟨kw3_219, List.forall_mem_cons.mpr ⟨kw1_9, List.forall_mem_cons.mpr ⟨kw3_220, fun _ h => absurd h List.not_mem_nil⟩⟩⟩⟩⟩⟩, Or.inr ⟨kw3_216, _, _, _, kw3_235⟩, by decide, by decide, by decide +kernel⟩
theorem ku_X0_73_4 : xLU RX0 RX4 "DoubledBridge$Bridge" 73 ⟨"DoubledBridge$Bridge", "leastCoins", "(J)J"⟩ yX1_leastCoins cX1_leastCoins 3 (Option.some Jvm.ClassFile.FieldType.long) 1 := ⟨List.forall_mem_cons.mpr ⟨kw3_215, List.forall_mem_cons.mpr ⟨kw3_217, List.forall_mem_cons.mpr ⟨kw3_222, List.forall_mem_cons.mpr ⟨kw3_219, List.forall_mem_cons.mpr ⟨kw1_9, List.forall_mem_cons.mpr ⟨kw3_220, fun _ h => absurd h List.not_mem_nil⟩⟩⟩⟩⟩⟩, Or.inr ⟨kw3_216, _, _, _, kw3_235⟩, by decide, by decide, by decide +kernel⟩
theorem ku_X0_73_5 : xLU RX0 RX5 "DoubledBridge$Bridge" 73 ⟨"DoubledBridge$Bridge", "leastCoins", "(J)J"⟩ yX9_leastCoins cX9_leastCoins 3 (Option.some Jvm.ClassFile.FieldType.long) 1 := ⟨List.forall_mem_cons.mpr ⟨kw3_215, List.forall_mem_cons.mpr ⟨kw3_217, List.forall_mem_cons.mpr ⟨kw3_223, List.forall_mem_cons.mpr ⟨kw3_224, List.forall_mem_cons.mpr ⟨kw1_7, List.forall_mem_cons.mpr ⟨kw3_225, fun _ h => absurd h List.not_mem_nil⟩⟩⟩⟩⟩⟩, Or.inr ⟨kw3_216, _, _, _, kw3_235⟩, by decide, by decide, by decide +kernel⟩
theorem ku_X0_73_6 : xLU RX0 RX6 "DoubledBridge$Bridge" 73 ⟨"DoubledBridge$Bridge", "leastCoins", "(J)J"⟩ yX0_leastCoins cX0_leastCoins 3 (Option.some Jvm.ClassFile.FieldType.long) 1 := ⟨List.forall_mem_cons.mpr ⟨kw3_215, List.forall_mem_cons.mpr ⟨kw3_217, List.forall_mem_cons.mpr ⟨kw3_233, List.forall_mem_cons.mpr ⟨kw3_216, List.forall_mem_cons.mpr ⟨kw1_6, List.forall_mem_cons.mpr ⟨kw3_235, fun _ h => absurd h List.not_mem_nil⟩⟩⟩⟩⟩⟩, Or.inl rfl, by decide, by decide, by decide +kernel⟩
theorem ku_X0_73_9 : xLU RX0 RX9 "DoubledBridge$Bridge" 73 ⟨"DoubledBridge$Bridge", "leastCoins", "(J)J"⟩ yX9_leastCoins cX9_leastCoins 3 (Option.some Jvm.ClassFile.FieldType.long) 1 := ⟨List.forall_mem_cons.mpr ⟨kw3_215, List.forall_mem_cons.mpr ⟨kw3_217, List.forall_mem_cons.mpr ⟨kw3_234, List.forall_mem_cons.mpr ⟨kw3_224, List.forall_mem_cons.mpr ⟨kw1_7, List.forall_mem_cons.mpr ⟨kw3_225, fun _ h => absurd h List.not_mem_nil⟩⟩⟩⟩⟩⟩, Or.inr ⟨kw3_216, _, _, _, kw3_235⟩, by decide, by decide, by decide +kernel⟩
def F_V_leastCoins (t : xT) (a : Nat) (xa : Int64) : Option Int64 := if tK t a = 1 then F_X1_leastCoins t a xa else (if tK t a = 4 then F_X1_leastCoins t a xa else (if tK t a = 5 then F_X9_leastCoins t a xa else (if tK t a = 6 then F_X0_leastCoins t a xa else (if tK t a = 9 then F_X9_leastCoins t a xa else (none)))))
theorem kB_X0_73 {p : Program} {l : Launch} {e : Env} {R : Room} {s : State} {m : MethodId} {args : Array Value} {below : List Frame} {meth : Method} {c : Code} {H : Heap} {locs : List Loc} {cells slots : Nat} {Q : State → Prop} {cc : ByteArray} {pc : Nat} {ls : Array Slot} {rest : List Value} {G : xG} {A : Nat → Prop} {a nL : Nat} {H0 : Heap} {ret : Option FieldType} {t : xT} {lv : List (Nat × Value)} (hE : xE p s m args meth c cc RX0 G nL ret) (hl : lv_has ls nL lv) (hD : tD G A H0 t H locs) (hk : isBk (tK t a)) {xa : Int64} {v : Int64} (hF : F_V_leastCoins t a xa = some v) (hr : (rest.map fun v => v.category).sum ≤ 8) (hdg : decode cc pc = .ok (.invokevirtual 73, 3)) (hR : 4 + 1 ≤ R.frames ∧ 8 + (3 + 11) + 40 * 4 ≤ R.locals) (hR2 : cells ≤ R.cells ∧ slots ≤ R.slots) (kk : ∀ (H1 : Heap) (locs1 : List Loc), tD G A H0 t H1 locs1 → W p l e R s m args below meth c H1 locs1 cells slots Q (F0 m (pc + 3) ls (.long v :: rest))) : W p l e R s m args below meth c H locs cells slots Q (F0 m pc ls (.long xa :: .ref a :: rest)) := by
  unfold F_V_leastCoins at hF
  rcases hk with h | h | h | h | h
  · have hF := ite_p hF h
    exact kUl (As := [.long xa]) (rest := rest) hE hl hD (c_X1_leastCoins hF) ku_X0_73_1 (tE_1 h) rfl rfl rfl rfl hr hdg ⟨by have := hR.1; omega, by have := hR.2; omega⟩ hR2 kk
  · have hF := ite_n hF (by rw [h]; decide)
    have hF := ite_p hF h
    exact kUl (As := [.long xa]) (rest := rest) hE hl hD (c_X1_leastCoins hF) ku_X0_73_4 (tE_4 h) rfl rfl rfl rfl hr hdg ⟨by have := hR.1; omega, by have := hR.2; omega⟩ hR2 kk
  · have hF := ite_n hF (by rw [h]; decide)
    have hF := ite_n hF (by rw [h]; decide)
    have hF := ite_p hF h
    exact kUl (As := [.long xa]) (rest := rest) hE hl hD (c_X9_leastCoins hF) ku_X0_73_5 (tE_5 h) rfl rfl rfl rfl hr hdg ⟨by have := hR.1; omega, by have := hR.2; omega⟩ hR2 kk
  · have hF := ite_n hF (by rw [h]; decide)
    have hF := ite_n hF (by rw [h]; decide)
    have hF := ite_n hF (by rw [h]; decide)
    have hF := ite_p hF h
    exact kUl (As := [.long xa]) (rest := rest) hE hl hD (c_X0_leastCoins hF) ku_X0_73_6 (tE_6 h) rfl rfl rfl rfl hr hdg ⟨by have := hR.1; omega, by have := hR.2; omega⟩ hR2 kk
  · have hF := ite_n hF (by rw [h]; decide)
    have hF := ite_n hF (by rw [h]; decide)
    have hF := ite_n hF (by rw [h]; decide)
    have hF := ite_n hF (by rw [h]; decide)
    have hF := ite_p hF h
    exact kUl (As := [.long xa]) (rest := rest) hE hl hD (c_X9_leastCoins hF) ku_X0_73_9 (tE_9 h) rfl rfl rfl rfl hr hdg ⟨by have := hR.1; omega, by have := hR.2; omega⟩ hR2 kk
def F_X0_leastAhead_j34 (u : xT) (a0 : Nat) (s0 : Int32) : Option Int32 := some s0
theorem B_X0_leastAhead_j34 {p : Program} {l : Launch} {e : Env} {s : State} {m : MethodId} {args : Array Value} {below : List Frame} {meth : Method} {cd : Code} {G : xG} {w0 : xW} {rr : Int32} (hE : xE p s m args meth cd cX0_leastAhead RX0 G 4 (Option.some Jvm.ClassFile.FieldType.int)) {u : xT} {a0 : Nat} {s0 : Int32} {H : Heap} {locs : List Loc} {ls : Array Slot} (hD : tD G (xA w0 s.heap.size) s.heap u H locs) (hl : lv_has ls 4 [(0, .ref a0)]) (hF : F_X0_leastAhead_j34 u a0 s0 = some rr) : W p l e (xR 5 0 0) s m args below meth cd H locs 0 0 (xQi G w0 (fun r z => r = rr ∧ z = ((tE G u), u.1)) below args s 0 0) (F0 m 34 ls [.int s0]) := by
  have hx := hE.1; have hb := hE.2.1
  unfold F_X0_leastAhead_j34 at hF
  obtain rfl := Option.some.inj hF
  exact x_iret hE hD ⟨rfl, rfl⟩ (by omega) (by omega) dX0_leastAhead_34
def F_X0_leastAhead_j11 (u : xT) (a0 : Nat) : Option Int32 := some (-1 : Int32)
theorem B_X0_leastAhead_j11 {p : Program} {l : Launch} {e : Env} {s : State} {m : MethodId} {args : Array Value} {below : List Frame} {meth : Method} {cd : Code} {G : xG} {w0 : xW} {rr : Int32} (hE : xE p s m args meth cd cX0_leastAhead RX0 G 4 (Option.some Jvm.ClassFile.FieldType.int)) {u : xT} {a0 : Nat} {H : Heap} {locs : List Loc} {ls : Array Slot} (hD : tD G (xA w0 s.heap.size) s.heap u H locs) (hl : lv_has ls 4 [(0, .ref a0)]) (hF : F_X0_leastAhead_j11 u a0 = some rr) : W p l e (xR 5 0 0) s m args below meth cd H locs 0 0 (xQi G w0 (fun r z => r = rr ∧ z = ((tE G u), u.1)) below args s 0 0) (F0 m 11 ls []) := by
  have hx := hE.1; have hb := hE.2.1
  unfold F_X0_leastAhead_j11 at hF
  refine lv_iconst (v := (-1 : Int32)) hx hb dX0_leastAhead_11 (by decide) ?_
  obtain rfl := Option.some.inj hF
  exact x_iret hE hD ⟨rfl, rfl⟩ (by omega) (by omega) dX0_leastAhead_12
def F_X0_leastAhead (u : xT) (a0 : Nat) (xa : Int32) : Option Int32 := if isBk (tK u a0) then if (tI u a0 7) = 0 then F_X0_leastAhead_j11 u a0 else if 0 ≤ xa then (F_V_leastCoins u a0 xa.toInt64).bind (fun r4 => if (lg_cmp r4 (1000000000 : Int64)) ≤ 0 then F_X0_leastAhead_j34 u a0 r4.toInt32 else F_X0_leastAhead_j34 u a0 (-1 : Int32)) else F_X0_leastAhead_j11 u a0 else none
theorem c_X0_leastAhead {l : Launch} {G : xG} {rr : Int32} {u : xT} {a0 : Nat} {xa : Int32} (hF : F_X0_leastAhead u a0 xa = some rr) : xMi l G yX0_leastAhead cX0_leastAhead 4 (Option.some Jvm.ClassFile.FieldType.int) 5 0 0 [.ref a0, .int xa] (tE G u) u.1 (fun r z => r = rr ∧ z = ((tE G u), u.1)) := by
  unfold F_X0_leastAhead at hF
  refine x_startI rfl (Nat.le_of_ble_eq_true rfl) (fun p e s m args below meth cd ls hE hnm hl hD => ?_)
  have hx := hE.1; have hb := hE.2.1
  have hl : lv_has ls 4 [(0, .ref a0), (1, .int xa)] := hl
  have hD : tD G (xA (tE G u) s.heap.size) s.heap u s.heap [] := hD
  refine lv_aload_n hx hb dX0_leastAhead_0 rfl (lv_at hl 0 rfl) ?_
  obtain ⟨h1, hF⟩ := ite_s hF
  refine gf_X0_41 hE hD h1 dX0_leastAhead_1 ?_
  refine lv_if_eq (tgt := 11) hx hb dX0_leastAhead_4 (by decide) (fun c2 => ?_) (fun c2 => ?_)
  · have hF := ite_p hF c2
    exact B_X0_leastAhead_j11 hE hD (lv_sub hl [0] rfl) hF
  · have hF := ite_n hF c2
    refine lv_iload_n hx hb dX0_leastAhead_7 rfl (lv_at hl 1 rfl) ?_
    refine lv_if_ge (tgt := 13) hx hb dX0_leastAhead_8 (by decide) (fun c3 => ?_) (fun c3 => ?_)
    · have hF := ite_p hF c3
      refine lv_aload_n hx hb dX0_leastAhead_13 rfl (lv_at hl 0 rfl) ?_
      refine lv_iload_n hx hb dX0_leastAhead_14 rfl (lv_at hl 1 rfl) ?_
      refine lv_i2l (v := xa.toInt64) hx hb dX0_leastAhead_15 rfl ?_
      obtain ⟨r4, k5, hF⟩ := xb_s hF
      refine kB_X0_73 (rest := []) hE hl hD h1 k5 (Nat.le_of_ble_eq_true rfl) dX0_leastAhead_16 ⟨Nat.le_of_ble_eq_true rfl, Nat.le_of_ble_eq_true rfl⟩ ⟨Nat.le_of_ble_eq_true rfl, Nat.le_of_ble_eq_true rfl⟩ (fun H locs (hD : tD G _ _ u H locs) => ?_)
      refine lv_lstore_n (lv' := [(2, .long r4), (0, .ref a0), (1, .int xa)]) hx hb dX0_leastAhead_19 rfl hl (by decide) rfl (fun ls hl => ?_)
      refine lv_lload_n hx hb dX0_leastAhead_20 rfl (lv_at hl 0 rfl) ?_
      refine lv_ldc2 (v := (1000000000 : Int64)) hx hb hE.2.2.1 (hE.2.2.2.1 _ kw3_174) dX0_leastAhead_21 ?_
      refine W.lcmp hx hb dX0_leastAhead_24 ?_
      refine lv_if_le (tgt := 32) hx hb dX0_leastAhead_25 (by decide) (fun c6 => ?_) (fun c6 => ?_)
      · have hF := ite_p hF c6
        refine lv_lload_n hx hb dX0_leastAhead_32 rfl (lv_at hl 0 rfl) ?_
        refine lv_l2i (v := r4.toInt32) hx hb dX0_leastAhead_33 rfl ?_
        exact B_X0_leastAhead_j34 hE hD (lv_sub hl [1] rfl) hF
      · have hF := ite_n hF c6
        refine lv_iconst (v := (-1 : Int32)) hx hb dX0_leastAhead_28 (by decide) ?_
        refine lv_goto (tgt := 34) hx hb dX0_leastAhead_29 (by decide) ?_
        exact B_X0_leastAhead_j34 hE hD (lv_sub hl [1] rfl) hF
    · have hF := ite_n hF c3
      exact B_X0_leastAhead_j11 hE hD (lv_sub hl [0] rfl) hF
def F_X10_begin_j39 (u : xT) (a0 : Nat) : Option (xT) := some u
theorem B_X10_begin_j39 {p : Program} {l : Launch} {e : Env} {s : State} {m : MethodId} {args : Array Value} {below : List Frame} {meth : Method} {cd : Code} {G : xG} {w0 : xW} {rr : (xT)} (hE : xE p s m args meth cd cX10_begin RX10 G 2 (Option.none : Option Jvm.ClassFile.FieldType)) {u : xT} {a0 : Nat} {H : Heap} {locs : List Loc} {ls : Array Slot} (hD : tD G (xA w0 s.heap.size) s.heap u H locs) (hl : lv_has ls 2 [(0, .ref a0)]) (hF : F_X10_begin_j39 u a0 = some rr) : W p l e (xR 2 0 0) s m args below meth cd H locs 0 0 (xQv G w0 (fun z => z = ((tE G rr), rr.1)) below args s 0 0) (F0 m 39 ls []) := by
  have hx := hE.1; have hb := hE.2.1
  unfold F_X10_begin_j39 at hF
  obtain rfl := Option.some.inj hF
  exact x_vret hE hD rfl (by omega) (by omega) dX10_begin_39
def F_X10_begin (u : xT) (a0 : Nat) (xa : Int32) : Option (xT) := if tK u a0 = 10 then if (tI u a0 2) = 0 then (tP u a0 0).bind (fun q3 => if tK u q3 = 20 then if (nI (tN u q3)) ≤ (tI u a0 1) then F_X10_begin_j39 u a0 else (tP u a0 0).bind (fun q7 => if tK u q7 = 20 then if xIn (tI u a0 1) (tN u q7) then xlet (tSI u q7 (tI u a0 1).toNatClampNeg xa) (fun t11 => xlet (tSI t11 a0 1 ((tI t11 a0 1) + (1 : Int32))) (fun t15 => F_X10_begin_j39 t15 a0)) else none else none) else none) else F_X10_begin_j39 u a0 else none
theorem c_X10_begin {l : Launch} {G : xG} {rr : (xT)} {u : xT} {a0 : Nat} {xa : Int32} (hF : F_X10_begin u a0 xa = some rr) : xMv l G yX10_begin cX10_begin 2 (Option.none : Option Jvm.ClassFile.FieldType) 2 0 0 [.ref a0, .int xa] (tE G u) u.1 (fun z => z = ((tE G rr), rr.1)) := by
  unfold F_X10_begin at hF
  refine x_startV rfl (Nat.le_of_ble_eq_true rfl) (fun p e s m args below meth cd ls hE hnm hl hD => ?_)
  have hx := hE.1; have hb := hE.2.1
  have hl : lv_has ls 2 [(0, .ref a0), (1, .int xa)] := hl
  have hD : tD G (xA (tE G u) s.heap.size) s.heap u s.heap [] := hD
  refine lv_aload_n hx hb dX10_begin_0 rfl (lv_at hl 0 rfl) ?_
  obtain ⟨h1, hF⟩ := ite_s hF
  refine gf_X10_19 hE hD h1 dX10_begin_1 ?_
  refine lv_if_ne (tgt := 39) hx hb dX10_begin_4 (by decide) (fun c2 => ?_) (fun c2 => ?_)
  · have hF := ite_n hF c2
    exact B_X10_begin_j39 hE hD (lv_sub hl [0] rfl) hF
  · have hF := ite_p hF c2
    refine lv_aload_n hx hb dX10_begin_7 rfl (lv_at hl 0 rfl) ?_
    refine gf_X10_15 hE hD h1 dX10_begin_8 ?_
    refine lv_aload_n hx hb dX10_begin_11 rfl (lv_at hl 0 rfl) ?_
    obtain ⟨q3, h4, hF⟩ := xb_s hF
    refine gr_X10_9 hE hD h1 h4 dX10_begin_12 ?_
    obtain ⟨h5, hF⟩ := ite_s hF
    refine t_alen hE hD h5 dX10_begin_15 ?_
    refine lv_icmp_ge (tgt := 39) hx hb dX10_begin_16 (by decide) (fun c6 => ?_) (fun c6 => ?_)
    · have hF := ite_p hF c6
      exact B_X10_begin_j39 hE hD (lv_sub hl [0] rfl) hF
    · have hF := ite_n hF c6
      refine lv_aload_n hx hb dX10_begin_19 rfl (lv_at hl 0 rfl) ?_
      obtain ⟨q7, h8, hF⟩ := xb_s hF
      refine gr_X10_9 hE hD h1 h8 dX10_begin_20 ?_
      refine lv_aload_n hx hb dX10_begin_23 rfl (lv_at hl 0 rfl) ?_
      refine gf_X10_15 hE hD h1 dX10_begin_24 ?_
      refine lv_iload_n hx hb dX10_begin_27 rfl (lv_at hl 1 rfl) ?_
      obtain ⟨h9, hF⟩ := ite_s hF
      obtain ⟨h10, hF⟩ := ite_s hF
      refine t_iast hE hD h9 h10 dX10_begin_28 (fun t11 H locs et11 hD => ?_)
      have hF := xlet_e hF et11
      have h12 : tK t11 a0 = 10 := by rw [et11]; exact h1
      have h13 : tK t11 q3 = 20 := by rw [et11]; exact h5
      have h14 : tK t11 q7 = 20 := by rw [et11]; exact h9
      refine lv_aload_n hx hb dX10_begin_29 rfl (lv_at hl 0 rfl) ?_
      refine lv_dup hx hb dX10_begin_30 rfl ?_
      refine gf_X10_15 hE hD h12 dX10_begin_31 ?_
      refine lv_iconst (v := (1 : Int32)) hx hb dX10_begin_34 (by decide) ?_
      refine lv_iadd hx hb dX10_begin_35 ?_
      refine pf_X10_15 hE hD h12 dX10_begin_36 (fun t15 H locs et15 hD => ?_)
      have hF := xlet_e hF et15
      have h16 : tK t15 a0 = 10 := by rw [et15]; exact h12
      have h17 : tK t15 q3 = 20 := by rw [et15]; exact h13
      have h18 : tK t15 q7 = 20 := by rw [et15]; exact h14
      exact B_X10_begin_j39 hE hD (lv_sub hl [0] rfl) hF
def F_X0_makes (u : xT) (a0 : Nat) (xa : Int32) (xb : Nat) : Option (Int32 × xT) := if tK u xb = 10 then (F_X10_begin u xb (10 : Int32)).bind (fun r2 => if isBk (tK r2 a0) then some (xa + (tI r2 a0 1), r2) else none) else none
theorem c_X0_makes {l : Launch} {G : xG} {rr : (Int32 × xT)} {u : xT} {a0 : Nat} {xa : Int32} {xb : Nat} (hF : F_X0_makes u a0 xa xb = some rr) : xMi l G yX0_makes cX0_makes 3 (Option.some Jvm.ClassFile.FieldType.int) 3 0 0 [.ref a0, .int xa, .ref xb] (tE G u) u.1 (fun r z => r = rr.1 ∧ z = ((tE G rr.2), rr.2.1)) := by
  unfold F_X0_makes at hF
  refine x_startI rfl (Nat.le_of_ble_eq_true rfl) (fun p e s m args below meth cd ls hE hnm hl hD => ?_)
  have hx := hE.1; have hb := hE.2.1
  have hl : lv_has ls 3 [(0, .ref a0), (1, .int xa), (2, .ref xb)] := hl
  have hD : tD G (xA (tE G u) s.heap.size) s.heap u s.heap [] := hD
  refine lv_aload_n hx hb dX0_makes_0 rfl (lv_at hl 2 rfl) ?_
  refine lv_bipush (v := (10 : Int32)) hx hb dX0_makes_1 (by decide) ?_
  obtain ⟨h1, hF⟩ := ite_s hF
  obtain ⟨r2, k3, hF⟩ := xb_s hF
  refine kVv (As := [.int (10 : Int32)]) (rest := []) hE hl hD (c_X10_begin k3) kl_X0_80 (tE_10 h1) rfl rfl rfl rfl (Nat.le_of_ble_eq_true rfl) dX0_makes_3 ⟨Nat.le_of_ble_eq_true rfl, Nat.le_of_ble_eq_true rfl⟩ ⟨Nat.le_of_ble_eq_true rfl, Nat.le_of_ble_eq_true rfl⟩ (fun H locs (hD : tD G _ _ r2 H locs) => ?_)
  refine lv_iload_n hx hb dX0_makes_6 rfl (lv_at hl 1 rfl) ?_
  refine lv_aload_n hx hb dX0_makes_7 rfl (lv_at hl 0 rfl) ?_
  obtain ⟨h4, hF⟩ := ite_s hF
  refine gf_X0_15 hE hD h4 dX0_makes_8 ?_
  refine lv_iadd hx hb dX0_makes_11 ?_
  obtain rfl := Option.some.inj hF
  exact x_iret hE hD ⟨rfl, rfl⟩ (by omega) (by omega) dX0_makes_12
theorem kp_X5_21 : xLP RX5 21 ⟨"DoubledBridge$Stream", "makes", "(ILDoubledBridge$Trace;)I"⟩ yX0_makes cX0_makes 3 (Option.some Jvm.ClassFile.FieldType.int) 2 := ⟨List.forall_mem_cons.mpr ⟨kw5_66, List.forall_mem_cons.mpr ⟨kw5_67, List.forall_mem_cons.mpr ⟨kw2_46, List.forall_mem_cons.mpr ⟨kw5_55, List.forall_mem_cons.mpr ⟨kw1_6, List.forall_mem_cons.mpr ⟨kw5_75, fun _ h => absurd h List.not_mem_nil⟩⟩⟩⟩⟩⟩, rfl, rfl, Or.inr kw2_31, by decide, by decide +kernel⟩
theorem kQ_X5_21 {p : Program} {l : Launch} {e : Env} {R : Room} {s : State} {m : MethodId} {args : Array Value} {below : List Frame} {meth : Method} {c : Code} {H : Heap} {locs : List Loc} {cells slots : Nat} {Q : State → Prop} {cc : ByteArray} {pc : Nat} {ls : Array Slot} {rest : List Value} {G : xG} {A : Nat → Prop} {a nL : Nat} {H0 : Heap} {ret : Option FieldType} {t : xT} {lv : List (Nat × Value)} (hE : xE p s m args meth c cc RX5 G nL ret) (hl : lv_has ls nL lv) (hD : tD G A H0 t H locs) (hk : tK t a = 5) {xa : Int32} {xb : Nat} {v : (Int32) × xT} (hF : F_X0_makes t a xa xb = some v) (hr : (rest.map fun v => v.category).sum ≤ 8) (hdg : decode cc pc = .ok (.invokespecial 21, 3)) (hR : 3 + 1 ≤ R.frames ∧ 8 + (3 + 11) + 40 * 3 ≤ R.locals) (hR2 : cells ≤ R.cells ∧ slots ≤ R.slots) (kk : ∀ (H1 : Heap) (locs1 : List Loc), tD G A H0 v.2 H1 locs1 → W p l e R s m args below meth c H1 locs1 cells slots Q (F0 m (pc + 3) ls (.int v.1 :: rest))) : W p l e R s m args below meth c H locs cells slots Q (F0 m pc ls (.ref xb :: .int xa :: .ref a :: rest)) := by
  have h := hk
  exact kPi (As := [.int xa, .ref xb]) (rest := rest) hE hl hD (c_X0_makes hF) kp_X5_21 (tE_5 h) rfl rfl rfl hr hdg hR hR2 kk
def F_X5_makes (u : xT) (a0 : Nat) (xa : Int32) (xb : Nat) : Option (Int32 × xT) := if tK u xb = 10 then (F_X10_begin u xb (50 : Int32)).bind (fun r2 => if tK r2 a0 = 5 then (F_X0_makes r2 a0 xa xb).bind (fun r5 => if tK r5.2 a0 = 5 then some (r5.1 ^^^ (tI r5.2 a0 1), r5.2) else none) else none) else none
theorem c_X5_makes {l : Launch} {G : xG} {rr : (Int32 × xT)} {u : xT} {a0 : Nat} {xa : Int32} {xb : Nat} (hF : F_X5_makes u a0 xa xb = some rr) : xMi l G yX5_makes cX5_makes 3 (Option.some Jvm.ClassFile.FieldType.int) 4 0 0 [.ref a0, .int xa, .ref xb] (tE G u) u.1 (fun r z => r = rr.1 ∧ z = ((tE G rr.2), rr.2.1)) := by
  unfold F_X5_makes at hF
  refine x_startI rfl (Nat.le_of_ble_eq_true rfl) (fun p e s m args below meth cd ls hE hnm hl hD => ?_)
  have hx := hE.1; have hb := hE.2.1
  have hl : lv_has ls 3 [(0, .ref a0), (1, .int xa), (2, .ref xb)] := hl
  have hD : tD G (xA (tE G u) s.heap.size) s.heap u s.heap [] := hD
  refine lv_aload_n hx hb dX5_makes_0 rfl (lv_at hl 2 rfl) ?_
  refine lv_bipush (v := (50 : Int32)) hx hb dX5_makes_1 (by decide) ?_
  obtain ⟨h1, hF⟩ := ite_s hF
  obtain ⟨r2, k3, hF⟩ := xb_s hF
  refine kVv (As := [.int (50 : Int32)]) (rest := []) hE hl hD (c_X10_begin k3) kl_X5_15 (tE_10 h1) rfl rfl rfl rfl (Nat.le_of_ble_eq_true rfl) dX5_makes_3 ⟨Nat.le_of_ble_eq_true rfl, Nat.le_of_ble_eq_true rfl⟩ ⟨Nat.le_of_ble_eq_true rfl, Nat.le_of_ble_eq_true rfl⟩ (fun H locs (hD : tD G _ _ r2 H locs) => ?_)
  refine lv_aload_n hx hb dX5_makes_6 rfl (lv_at hl 0 rfl) ?_
  refine lv_iload_n hx hb dX5_makes_7 rfl (lv_at hl 1 rfl) ?_
  refine lv_aload_n hx hb dX5_makes_8 rfl (lv_at hl 2 rfl) ?_
  obtain ⟨h4, hF⟩ := ite_s hF
  obtain ⟨r5, k6, hF⟩ := xb_s hF
  refine kQ_X5_21 (rest := []) hE hl hD h4 k6 (Nat.le_of_ble_eq_true rfl) dX5_makes_9 ⟨Nat.le_of_ble_eq_true rfl, Nat.le_of_ble_eq_true rfl⟩ ⟨Nat.le_of_ble_eq_true rfl, Nat.le_of_ble_eq_true rfl⟩ (fun H locs (hD : tD G _ _ r5.2 H locs) => ?_)
  refine lv_aload_n hx hb dX5_makes_12 rfl (lv_at hl 0 rfl) ?_
  obtain ⟨h7, hF⟩ := ite_s hF
  refine gf_X5_25 hE hD h7 dX5_makes_13 ?_
  refine lv_ixor hx hb dX5_makes_16 ?_
  obtain rfl := Option.some.inj hF
  exact x_iret hE hD ⟨rfl, rfl⟩ (by omega) (by omega) dX5_makes_17
theorem kp_X6_15 : xLP RX6 15 ⟨"DoubledBridge$Bridge", "makes", "(ILDoubledBridge$Trace;)I"⟩ yX0_makes cX0_makes 3 (Option.some Jvm.ClassFile.FieldType.int) 2 := ⟨List.forall_mem_cons.mpr ⟨kw5_73, List.forall_mem_cons.mpr ⟨kw5_56, List.forall_mem_cons.mpr ⟨kw2_91, List.forall_mem_cons.mpr ⟨kw5_55, List.forall_mem_cons.mpr ⟨kw1_6, List.forall_mem_cons.mpr ⟨kw5_75, fun _ h => absurd h List.not_mem_nil⟩⟩⟩⟩⟩⟩, rfl, rfl, Or.inl rfl, by decide, by decide +kernel⟩
theorem kQ_X6_15 {p : Program} {l : Launch} {e : Env} {R : Room} {s : State} {m : MethodId} {args : Array Value} {below : List Frame} {meth : Method} {c : Code} {H : Heap} {locs : List Loc} {cells slots : Nat} {Q : State → Prop} {cc : ByteArray} {pc : Nat} {ls : Array Slot} {rest : List Value} {G : xG} {A : Nat → Prop} {a nL : Nat} {H0 : Heap} {ret : Option FieldType} {t : xT} {lv : List (Nat × Value)} (hE : xE p s m args meth c cc RX6 G nL ret) (hl : lv_has ls nL lv) (hD : tD G A H0 t H locs) (hk : tK t a = 6) {xa : Int32} {xb : Nat} {v : (Int32) × xT} (hF : F_X0_makes t a xa xb = some v) (hr : (rest.map fun v => v.category).sum ≤ 8) (hdg : decode cc pc = .ok (.invokespecial 15, 3)) (hR : 3 + 1 ≤ R.frames ∧ 8 + (3 + 11) + 40 * 3 ≤ R.locals) (hR2 : cells ≤ R.cells ∧ slots ≤ R.slots) (kk : ∀ (H1 : Heap) (locs1 : List Loc), tD G A H0 v.2 H1 locs1 → W p l e R s m args below meth c H1 locs1 cells slots Q (F0 m (pc + 3) ls (.int v.1 :: rest))) : W p l e R s m args below meth c H locs cells slots Q (F0 m pc ls (.ref xb :: .int xa :: .ref a :: rest)) := by
  have h := hk
  exact kPi (As := [.int xa, .ref xb]) (rest := rest) hE hl hD (c_X0_makes hF) kp_X6_15 (tE_6 h) rfl rfl rfl hr hdg hR hR2 kk
def F_X6_makes (u : xT) (a0 : Nat) (xa : Int32) (xb : Nat) : Option (Int32 × xT) := if tK u xb = 10 then (F_X10_begin u xb (20 : Int32)).bind (fun r2 => if tK r2 a0 = 6 then (F_X0_makes r2 a0 xa xb).bind (fun r5 => some (r5.1 * (3 : Int32), r5.2)) else none) else none
theorem c_X6_makes {l : Launch} {G : xG} {rr : (Int32 × xT)} {u : xT} {a0 : Nat} {xa : Int32} {xb : Nat} (hF : F_X6_makes u a0 xa xb = some rr) : xMi l G yX6_makes cX6_makes 3 (Option.some Jvm.ClassFile.FieldType.int) 4 0 0 [.ref a0, .int xa, .ref xb] (tE G u) u.1 (fun r z => r = rr.1 ∧ z = ((tE G rr.2), rr.2.1)) := by
  unfold F_X6_makes at hF
  refine x_startI rfl (Nat.le_of_ble_eq_true rfl) (fun p e s m args below meth cd ls hE hnm hl hD => ?_)
  have hx := hE.1; have hb := hE.2.1
  have hl : lv_has ls 3 [(0, .ref a0), (1, .int xa), (2, .ref xb)] := hl
  have hD : tD G (xA (tE G u) s.heap.size) s.heap u s.heap [] := hD
  refine lv_aload_n hx hb dX6_makes_0 rfl (lv_at hl 2 rfl) ?_
  refine lv_bipush (v := (20 : Int32)) hx hb dX6_makes_1 (by decide) ?_
  obtain ⟨h1, hF⟩ := ite_s hF
  obtain ⟨r2, k3, hF⟩ := xb_s hF
  refine kVv (As := [.int (20 : Int32)]) (rest := []) hE hl hD (c_X10_begin k3) kl_X6_9 (tE_10 h1) rfl rfl rfl rfl (Nat.le_of_ble_eq_true rfl) dX6_makes_3 ⟨Nat.le_of_ble_eq_true rfl, Nat.le_of_ble_eq_true rfl⟩ ⟨Nat.le_of_ble_eq_true rfl, Nat.le_of_ble_eq_true rfl⟩ (fun H locs (hD : tD G _ _ r2 H locs) => ?_)
  refine lv_aload_n hx hb dX6_makes_6 rfl (lv_at hl 0 rfl) ?_
  refine lv_iload_n hx hb dX6_makes_7 rfl (lv_at hl 1 rfl) ?_
  refine lv_aload_n hx hb dX6_makes_8 rfl (lv_at hl 2 rfl) ?_
  obtain ⟨h4, hF⟩ := ite_s hF
  obtain ⟨r5, k6, hF⟩ := xb_s hF
  refine kQ_X6_15 (rest := []) hE hl hD h4 k6 (Nat.le_of_ble_eq_true rfl) dX6_makes_9 ⟨Nat.le_of_ble_eq_true rfl, Nat.le_of_ble_eq_true rfl⟩ ⟨Nat.le_of_ble_eq_true rfl, Nat.le_of_ble_eq_true rfl⟩ (fun H locs (hD : tD G _ _ r5.2 H locs) => ?_)
  refine lv_iconst (v := (3 : Int32)) hx hb dX6_makes_12 (by decide) ?_
  refine lv_imul hx hb dX6_makes_13 ?_
  obtain rfl := Option.some.inj hF
  exact x_iret hE hD ⟨rfl, rfl⟩ (by omega) (by omega) dX6_makes_14
theorem ku_X0_86_1 : xLU RX0 RX1 "DoubledBridge$Bridge" 86 ⟨"DoubledBridge$Bridge", "makes", "(ILDoubledBridge$Trace;)I"⟩ yX0_makes cX0_makes 3 (Option.some Jvm.ClassFile.FieldType.int) 2 := ⟨List.forall_mem_cons.mpr ⟨kw5_96, List.forall_mem_cons.mpr ⟨kw5_56, List.forall_mem_cons.mpr ⟨kw5_57, List.forall_mem_cons.mpr ⟨kw5_55, List.forall_mem_cons.mpr ⟨kw1_6, List.forall_mem_cons.mpr ⟨kw5_75, fun _ h => absurd h List.not_mem_nil⟩⟩⟩⟩⟩⟩, Or.inl rfl, by decide, by decide, by decide +kernel⟩
theorem ku_X0_86_4 : xLU RX0 RX4 "DoubledBridge$Bridge" 86 ⟨"DoubledBridge$Bridge", "makes", "(ILDoubledBridge$Trace;)I"⟩ yX0_makes cX0_makes 3 (Option.some Jvm.ClassFile.FieldType.int) 2 := ⟨List.forall_mem_cons.mpr ⟨kw5_96, List.forall_mem_cons.mpr ⟨kw5_56, List.forall_mem_cons.mpr ⟨kw5_58, List.forall_mem_cons.mpr ⟨kw5_55, List.forall_mem_cons.mpr ⟨kw1_6, List.forall_mem_cons.mpr ⟨kw5_75, fun _ h => absurd h List.not_mem_nil⟩⟩⟩⟩⟩⟩, Or.inl rfl, by decide, by decide, by decide +kernel⟩
theorem ku_X0_86_5 : xLU RX0 RX5 "DoubledBridge$Bridge" 86 ⟨"DoubledBridge$Bridge", "makes", "(ILDoubledBridge$Trace;)I"⟩ yX5_makes cX5_makes 3 (Option.some Jvm.ClassFile.FieldType.int) 2 := ⟨List.forall_mem_cons.mpr ⟨kw5_96, List.forall_mem_cons.mpr ⟨kw5_56, List.forall_mem_cons.mpr ⟨kw5_59, List.forall_mem_cons.mpr ⟨kw5_60, List.forall_mem_cons.mpr ⟨kw1_8, List.forall_mem_cons.mpr ⟨kw5_61, fun _ h => absurd h List.not_mem_nil⟩⟩⟩⟩⟩⟩, Or.inr ⟨kw5_55, _, _, _, kw5_75⟩, by decide, by decide, by decide +kernel⟩
theorem ku_X0_86_6 : xLU RX0 RX6 "DoubledBridge$Bridge" 86 ⟨"DoubledBridge$Bridge", "makes", "(ILDoubledBridge$Trace;)I"⟩ yX6_makes cX6_makes 3 (Option.some Jvm.ClassFile.FieldType.int) 2 := ⟨List.forall_mem_cons.mpr ⟨kw5_96, List.forall_mem_cons.mpr ⟨kw5_56, List.forall_mem_cons.mpr ⟨kw5_69, List.forall_mem_cons.mpr ⟨kw5_70, List.forall_mem_cons.mpr ⟨kw1_11, List.forall_mem_cons.mpr ⟨kw5_71, fun _ h => absurd h List.not_mem_nil⟩⟩⟩⟩⟩⟩, Or.inr ⟨kw5_55, _, _, _, kw5_75⟩, by decide, by decide, by decide +kernel⟩
theorem ku_X0_86_9 : xLU RX0 RX9 "DoubledBridge$Bridge" 86 ⟨"DoubledBridge$Bridge", "makes", "(ILDoubledBridge$Trace;)I"⟩ yX0_makes cX0_makes 3 (Option.some Jvm.ClassFile.FieldType.int) 2 := ⟨List.forall_mem_cons.mpr ⟨kw5_96, List.forall_mem_cons.mpr ⟨kw5_56, List.forall_mem_cons.mpr ⟨kw5_74, List.forall_mem_cons.mpr ⟨kw5_55, List.forall_mem_cons.mpr ⟨kw1_6, List.forall_mem_cons.mpr ⟨kw5_75, fun _ h => absurd h List.not_mem_nil⟩⟩⟩⟩⟩⟩, Or.inl rfl, by decide, by decide, by decide +kernel⟩
def F_V_makes (t : xT) (a : Nat) (xa : Int32) (xb : Nat) : Option ((Int32) × xT) := if tK t a = 1 then F_X0_makes t a xa xb else (if tK t a = 4 then F_X0_makes t a xa xb else (if tK t a = 5 then F_X5_makes t a xa xb else (if tK t a = 6 then F_X6_makes t a xa xb else (if tK t a = 9 then F_X0_makes t a xa xb else (none)))))
theorem kB_X0_86 {p : Program} {l : Launch} {e : Env} {R : Room} {s : State} {m : MethodId} {args : Array Value} {below : List Frame} {meth : Method} {c : Code} {H : Heap} {locs : List Loc} {cells slots : Nat} {Q : State → Prop} {cc : ByteArray} {pc : Nat} {ls : Array Slot} {rest : List Value} {G : xG} {A : Nat → Prop} {a nL : Nat} {H0 : Heap} {ret : Option FieldType} {t : xT} {lv : List (Nat × Value)} (hE : xE p s m args meth c cc RX0 G nL ret) (hl : lv_has ls nL lv) (hD : tD G A H0 t H locs) (hk : isBk (tK t a)) {xa : Int32} {xb : Nat} {v : (Int32) × xT} (hF : F_V_makes t a xa xb = some v) (hr : (rest.map fun v => v.category).sum ≤ 8) (hdg : decode cc pc = .ok (.invokevirtual 86, 3)) (hR : 4 + 1 ≤ R.frames ∧ 8 + (3 + 11) + 40 * 4 ≤ R.locals) (hR2 : cells ≤ R.cells ∧ slots ≤ R.slots) (kk : ∀ (H1 : Heap) (locs1 : List Loc), tD G A H0 v.2 H1 locs1 → W p l e R s m args below meth c H1 locs1 cells slots Q (F0 m (pc + 3) ls (.int v.1 :: rest))) : W p l e R s m args below meth c H locs cells slots Q (F0 m pc ls (.ref xb :: .int xa :: .ref a :: rest)) := by
  unfold F_V_makes at hF
  rcases hk with h | h | h | h | h
  · have hF := ite_p hF h
    exact kUi (As := [.int xa, .ref xb]) (rest := rest) hE hl hD (c_X0_makes hF) ku_X0_86_1 (tE_1 h) rfl rfl rfl rfl hr hdg ⟨by have := hR.1; omega, by have := hR.2; omega⟩ hR2 kk
  · have hF := ite_n hF (by rw [h]; decide)
    have hF := ite_p hF h
    exact kUi (As := [.int xa, .ref xb]) (rest := rest) hE hl hD (c_X0_makes hF) ku_X0_86_4 (tE_4 h) rfl rfl rfl rfl hr hdg ⟨by have := hR.1; omega, by have := hR.2; omega⟩ hR2 kk
  · have hF := ite_n hF (by rw [h]; decide)
    have hF := ite_n hF (by rw [h]; decide)
    have hF := ite_p hF h
    exact kUi (As := [.int xa, .ref xb]) (rest := rest) hE hl hD (c_X5_makes hF) ku_X0_86_5 (tE_5 h) rfl rfl rfl rfl hr hdg ⟨by have := hR.1; omega, by have := hR.2; omega⟩ hR2 kk
  · have hF := ite_n hF (by rw [h]; decide)
    have hF := ite_n hF (by rw [h]; decide)
    have hF := ite_n hF (by rw [h]; decide)
    have hF := ite_p hF h
    exact kUi (As := [.int xa, .ref xb]) (rest := rest) hE hl hD (c_X6_makes hF) ku_X0_86_6 (tE_6 h) rfl rfl rfl rfl hr hdg ⟨by have := hR.1; omega, by have := hR.2; omega⟩ hR2 kk
  · have hF := ite_n hF (by rw [h]; decide)
    have hF := ite_n hF (by rw [h]; decide)
    have hF := ite_n hF (by rw [h]; decide)
    have hF := ite_n hF (by rw [h]; decide)
    have hF := ite_p hF h
    exact kUi (As := [.int xa, .ref xb]) (rest := rest) hE hl hD (c_X0_makes hF) ku_X0_86_9 (tE_9 h) rfl rfl rfl rfl hr hdg ⟨by have := hR.1; omega, by have := hR.2; omega⟩ hR2 kk
def F_X0_takes (u : xT) (a0 : Nat) (xa : Int32) (xb : Nat) : Option (Int32 × xT) := if tK u xb = 10 then (F_X10_begin u xb (11 : Int32)).bind (fun r2 => if isBk (tK r2 a0) then (F_V_makes r2 a0 xa xb).bind (fun r5 => some (r5.1 * (2 : Int32), r5.2)) else none) else none
theorem c_X0_takes {l : Launch} {G : xG} {rr : (Int32 × xT)} {u : xT} {a0 : Nat} {xa : Int32} {xb : Nat} (hF : F_X0_takes u a0 xa xb = some rr) : xMi l G yX0_takes cX0_takes 3 (Option.some Jvm.ClassFile.FieldType.int) 5 0 0 [.ref a0, .int xa, .ref xb] (tE G u) u.1 (fun r z => r = rr.1 ∧ z = ((tE G rr.2), rr.2.1)) := by
  unfold F_X0_takes at hF
  refine x_startI rfl (Nat.le_of_ble_eq_true rfl) (fun p e s m args below meth cd ls hE hnm hl hD => ?_)
  have hx := hE.1; have hb := hE.2.1
  have hl : lv_has ls 3 [(0, .ref a0), (1, .int xa), (2, .ref xb)] := hl
  have hD : tD G (xA (tE G u) s.heap.size) s.heap u s.heap [] := hD
  refine lv_aload_n hx hb dX0_takes_0 rfl (lv_at hl 2 rfl) ?_
  refine lv_bipush (v := (11 : Int32)) hx hb dX0_takes_1 (by decide) ?_
  obtain ⟨h1, hF⟩ := ite_s hF
  obtain ⟨r2, k3, hF⟩ := xb_s hF
  refine kVv (As := [.int (11 : Int32)]) (rest := []) hE hl hD (c_X10_begin k3) kl_X0_80 (tE_10 h1) rfl rfl rfl rfl (Nat.le_of_ble_eq_true rfl) dX0_takes_3 ⟨Nat.le_of_ble_eq_true rfl, Nat.le_of_ble_eq_true rfl⟩ ⟨Nat.le_of_ble_eq_true rfl, Nat.le_of_ble_eq_true rfl⟩ (fun H locs (hD : tD G _ _ r2 H locs) => ?_)
  refine lv_aload_n hx hb dX0_takes_6 rfl (lv_at hl 0 rfl) ?_
  refine lv_iload_n hx hb dX0_takes_7 rfl (lv_at hl 1 rfl) ?_
  refine lv_aload_n hx hb dX0_takes_8 rfl (lv_at hl 2 rfl) ?_
  obtain ⟨h4, hF⟩ := ite_s hF
  obtain ⟨r5, k6, hF⟩ := xb_s hF
  refine kB_X0_86 (rest := []) hE hl hD h4 k6 (Nat.le_of_ble_eq_true rfl) dX0_takes_9 ⟨Nat.le_of_ble_eq_true rfl, Nat.le_of_ble_eq_true rfl⟩ ⟨Nat.le_of_ble_eq_true rfl, Nat.le_of_ble_eq_true rfl⟩ (fun H locs (hD : tD G _ _ r5.2 H locs) => ?_)
  refine lv_iconst (v := (2 : Int32)) hx hb dX0_takes_12 (by decide) ?_
  refine lv_imul hx hb dX0_takes_13 ?_
  obtain rfl := Option.some.inj hF
  exact x_iret hE hD ⟨rfl, rfl⟩ (by omega) (by omega) dX0_takes_14
def F_X10_part (u : xT) (a0 : Nat) : Option (xT) := if tK u a0 = 10 then xlet (tSI u a0 2 (1 : Int32)) (fun t2 => some t2) else none
theorem c_X10_part {l : Launch} {G : xG} {rr : (xT)} {u : xT} {a0 : Nat} (hF : F_X10_part u a0 = some rr) : xMv l G yX10_part cX10_part 1 (Option.none : Option Jvm.ClassFile.FieldType) 2 0 0 [.ref a0] (tE G u) u.1 (fun z => z = ((tE G rr), rr.1)) := by
  unfold F_X10_part at hF
  refine x_startV rfl (Nat.le_of_ble_eq_true rfl) (fun p e s m args below meth cd ls hE hnm hl hD => ?_)
  have hx := hE.1; have hb := hE.2.1
  have hl : lv_has ls 1 [(0, .ref a0)] := hl
  have hD : tD G (xA (tE G u) s.heap.size) s.heap u s.heap [] := hD
  refine lv_aload_n hx hb dX10_part_0 rfl (lv_at hl 0 rfl) ?_
  refine lv_iconst (v := (1 : Int32)) hx hb dX10_part_1 (by decide) ?_
  obtain ⟨h1, hF⟩ := ite_s hF
  refine pf_X10_19 hE hD h1 (by decide) dX10_part_2 (fun t2 H locs et2 hD => ?_)
  have hF := xlet_e hF et2
  have h3 : tK t2 a0 = 10 := by rw [et2]; exact h1
  obtain rfl := Option.some.inj hF
  exact x_vret hE hD rfl (by omega) (by omega) dX10_part_5
def F_X0_shares (u : xT) (a0 : Nat) (xa : Int32) (xb : Nat) : Option (Int32 × xT) := if tK u xb = 10 then (F_X10_begin u xb (12 : Int32)).bind (fun r2 => if isBk (tK r2 a0) then xlet ((tI r2 a0 4) - (tI r2 a0 1)) (fun x5 => if x5 = 0 then if tK r2 xb = 10 then (F_X10_part r2 xb).bind (fun r9 => some ((0 : Int32), r9)) else none else if ¬ x5 = 0 then some (xa / x5, r2) else none) else none) else none
theorem c_X0_shares {l : Launch} {G : xG} {rr : (Int32 × xT)} {u : xT} {a0 : Nat} {xa : Int32} {xb : Nat} (hF : F_X0_shares u a0 xa xb = some rr) : xMi l G yX0_shares cX0_shares 4 (Option.some Jvm.ClassFile.FieldType.int) 3 0 0 [.ref a0, .int xa, .ref xb] (tE G u) u.1 (fun r z => r = rr.1 ∧ z = ((tE G rr.2), rr.2.1)) := by
  unfold F_X0_shares at hF
  refine x_startI rfl (Nat.le_of_ble_eq_true rfl) (fun p e s m args below meth cd ls hE hnm hl hD => ?_)
  have hx := hE.1; have hb := hE.2.1
  have hl : lv_has ls 4 [(0, .ref a0), (1, .int xa), (2, .ref xb)] := hl
  have hD : tD G (xA (tE G u) s.heap.size) s.heap u s.heap [] := hD
  refine lv_aload_n hx hb dX0_shares_0 rfl (lv_at hl 2 rfl) ?_
  refine lv_bipush (v := (12 : Int32)) hx hb dX0_shares_1 (by decide) ?_
  obtain ⟨h1, hF⟩ := ite_s hF
  obtain ⟨r2, k3, hF⟩ := xb_s hF
  refine kVv (As := [.int (12 : Int32)]) (rest := []) hE hl hD (c_X10_begin k3) kl_X0_80 (tE_10 h1) rfl rfl rfl rfl (Nat.le_of_ble_eq_true rfl) dX0_shares_3 ⟨Nat.le_of_ble_eq_true rfl, Nat.le_of_ble_eq_true rfl⟩ ⟨Nat.le_of_ble_eq_true rfl, Nat.le_of_ble_eq_true rfl⟩ (fun H locs (hD : tD G _ _ r2 H locs) => ?_)
  refine lv_aload_n hx hb dX0_shares_6 rfl (lv_at hl 0 rfl) ?_
  obtain ⟨h4, hF⟩ := ite_s hF
  refine gf_X0_24 hE hD h4 dX0_shares_7 ?_
  refine lv_aload_n hx hb dX0_shares_10 rfl (lv_at hl 0 rfl) ?_
  refine gf_X0_15 hE hD h4 dX0_shares_11 ?_
  refine lv_isub hx hb dX0_shares_14 ?_
  refine lv_topi (fun x5 ex5 => ?_)
  have hF := xlet_e hF ex5
  refine lv_istore_n (lv' := [(3, .int x5), (0, .ref a0), (1, .int xa), (2, .ref xb)]) hx hb dX0_shares_15 rfl hl (by decide) rfl (fun ls hl => ?_)
  refine lv_iload_n hx hb dX0_shares_16 rfl (lv_at hl 0 rfl) ?_
  refine lv_if_ne (tgt := 26) hx hb dX0_shares_17 (by decide) (fun c6 => ?_) (fun c6 => ?_)
  · have hF := ite_n hF c6
    refine lv_iload_n hx hb dX0_shares_26 rfl (lv_at hl 2 rfl) ?_
    refine lv_iload_n hx hb dX0_shares_27 rfl (lv_at hl 0 rfl) ?_
    obtain ⟨h7, hF⟩ := ite_s hF
    refine lv_idiv hx hb dX0_shares_28 h7 ?_
    obtain rfl := Option.some.inj hF
    exact x_iret hE hD ⟨rfl, rfl⟩ (by omega) (by omega) dX0_shares_29
  · have hF := ite_p hF c6
    refine lv_aload_n hx hb dX0_shares_20 rfl (lv_at hl 3 rfl) ?_
    obtain ⟨h8, hF⟩ := ite_s hF
    obtain ⟨r9, k10, hF⟩ := xb_s hF
    refine kVv (As := []) (rest := []) hE hl hD (c_X10_part k10) kl_X0_90 (tE_10 h8) rfl rfl rfl rfl (Nat.le_of_ble_eq_true rfl) dX0_shares_21 ⟨Nat.le_of_ble_eq_true rfl, Nat.le_of_ble_eq_true rfl⟩ ⟨Nat.le_of_ble_eq_true rfl, Nat.le_of_ble_eq_true rfl⟩ (fun H locs (hD : tD G _ _ r9 H locs) => ?_)
    refine lv_iconst (v := (0 : Int32)) hx hb dX0_shares_24 (by decide) ?_
    obtain rfl := Option.some.inj hF
    exact x_iret hE hD ⟨rfl, rfl⟩ (by omega) (by omega) dX0_shares_25
theorem kp_X4_21 : xLP RX4 21 ⟨"DoubledBridge$Egg", "takes", "(ILDoubledBridge$Trace;)I"⟩ yX0_takes cX0_takes 3 (Option.some Jvm.ClassFile.FieldType.int) 2 := ⟨List.forall_mem_cons.mpr ⟨kw5_85, List.forall_mem_cons.mpr ⟨kw5_86, List.forall_mem_cons.mpr ⟨kw2_76, List.forall_mem_cons.mpr ⟨kw5_78, List.forall_mem_cons.mpr ⟨kw1_6, List.forall_mem_cons.mpr ⟨kw5_95, fun _ h => absurd h List.not_mem_nil⟩⟩⟩⟩⟩⟩, rfl, rfl, Or.inr kw2_61, by decide, by decide +kernel⟩
theorem kQ_X4_21 {p : Program} {l : Launch} {e : Env} {R : Room} {s : State} {m : MethodId} {args : Array Value} {below : List Frame} {meth : Method} {c : Code} {H : Heap} {locs : List Loc} {cells slots : Nat} {Q : State → Prop} {cc : ByteArray} {pc : Nat} {ls : Array Slot} {rest : List Value} {G : xG} {A : Nat → Prop} {a nL : Nat} {H0 : Heap} {ret : Option FieldType} {t : xT} {lv : List (Nat × Value)} (hE : xE p s m args meth c cc RX4 G nL ret) (hl : lv_has ls nL lv) (hD : tD G A H0 t H locs) (hk : tK t a = 4) {xa : Int32} {xb : Nat} {v : (Int32) × xT} (hF : F_X0_takes t a xa xb = some v) (hr : (rest.map fun v => v.category).sum ≤ 8) (hdg : decode cc pc = .ok (.invokespecial 21, 3)) (hR : 5 + 1 ≤ R.frames ∧ 8 + (3 + 11) + 40 * 5 ≤ R.locals) (hR2 : cells ≤ R.cells ∧ slots ≤ R.slots) (kk : ∀ (H1 : Heap) (locs1 : List Loc), tD G A H0 v.2 H1 locs1 → W p l e R s m args below meth c H1 locs1 cells slots Q (F0 m (pc + 3) ls (.int v.1 :: rest))) : W p l e R s m args below meth c H locs cells slots Q (F0 m pc ls (.ref xb :: .int xa :: .ref a :: rest)) := by
  have h := hk
  exact kPi (As := [.int xa, .ref xb]) (rest := rest) hE hl hD (c_X0_takes hF) kp_X4_21 (tE_4 h) rfl rfl rfl hr hdg hR hR2 kk
def F_X4_takes (u : xT) (a0 : Nat) (xa : Int32) (xb : Nat) : Option (Int32 × xT) := if tK u xb = 10 then (F_X10_begin u xb (60 : Int32)).bind (fun r2 => if tK r2 a0 = 4 then (F_X0_takes r2 a0 xa xb).bind (fun r5 => some ((0 : Int32) - r5.1, r5.2)) else none) else none
theorem c_X4_takes {l : Launch} {G : xG} {rr : (Int32 × xT)} {u : xT} {a0 : Nat} {xa : Int32} {xb : Nat} (hF : F_X4_takes u a0 xa xb = some rr) : xMi l G yX4_takes cX4_takes 3 (Option.some Jvm.ClassFile.FieldType.int) 6 0 0 [.ref a0, .int xa, .ref xb] (tE G u) u.1 (fun r z => r = rr.1 ∧ z = ((tE G rr.2), rr.2.1)) := by
  unfold F_X4_takes at hF
  refine x_startI rfl (Nat.le_of_ble_eq_true rfl) (fun p e s m args below meth cd ls hE hnm hl hD => ?_)
  have hx := hE.1; have hb := hE.2.1
  have hl : lv_has ls 3 [(0, .ref a0), (1, .int xa), (2, .ref xb)] := hl
  have hD : tD G (xA (tE G u) s.heap.size) s.heap u s.heap [] := hD
  refine lv_aload_n hx hb dX4_takes_0 rfl (lv_at hl 2 rfl) ?_
  refine lv_bipush (v := (60 : Int32)) hx hb dX4_takes_1 (by decide) ?_
  obtain ⟨h1, hF⟩ := ite_s hF
  obtain ⟨r2, k3, hF⟩ := xb_s hF
  refine kVv (As := [.int (60 : Int32)]) (rest := []) hE hl hD (c_X10_begin k3) kl_X4_15 (tE_10 h1) rfl rfl rfl rfl (Nat.le_of_ble_eq_true rfl) dX4_takes_3 ⟨Nat.le_of_ble_eq_true rfl, Nat.le_of_ble_eq_true rfl⟩ ⟨Nat.le_of_ble_eq_true rfl, Nat.le_of_ble_eq_true rfl⟩ (fun H locs (hD : tD G _ _ r2 H locs) => ?_)
  refine lv_iconst (v := (0 : Int32)) hx hb dX4_takes_6 (by decide) ?_
  refine lv_aload_n hx hb dX4_takes_7 rfl (lv_at hl 0 rfl) ?_
  refine lv_iload_n hx hb dX4_takes_8 rfl (lv_at hl 1 rfl) ?_
  refine lv_aload_n hx hb dX4_takes_9 rfl (lv_at hl 2 rfl) ?_
  obtain ⟨h4, hF⟩ := ite_s hF
  obtain ⟨r5, k6, hF⟩ := xb_s hF
  refine kQ_X4_21 (rest := [.int (0 : Int32)]) hE hl hD h4 k6 (Nat.le_of_ble_eq_true rfl) dX4_takes_10 ⟨Nat.le_of_ble_eq_true rfl, Nat.le_of_ble_eq_true rfl⟩ ⟨Nat.le_of_ble_eq_true rfl, Nat.le_of_ble_eq_true rfl⟩ (fun H locs (hD : tD G _ _ r5.2 H locs) => ?_)
  refine lv_isub hx hb dX4_takes_13 ?_
  obtain rfl := Option.some.inj hF
  exact x_iret hE hD ⟨rfl, rfl⟩ (by omega) (by omega) dX4_takes_14
theorem kp_X9_23 : xLP RX9 23 ⟨"DoubledBridge$Bridge", "takes", "(ILDoubledBridge$Trace;)I"⟩ yX0_takes cX0_takes 3 (Option.some Jvm.ClassFile.FieldType.int) 2 := ⟨List.forall_mem_cons.mpr ⟨kw5_92, List.forall_mem_cons.mpr ⟨kw5_79, List.forall_mem_cons.mpr ⟨kw2_31, List.forall_mem_cons.mpr ⟨kw5_78, List.forall_mem_cons.mpr ⟨kw1_6, List.forall_mem_cons.mpr ⟨kw5_95, fun _ h => absurd h List.not_mem_nil⟩⟩⟩⟩⟩⟩, rfl, rfl, Or.inl rfl, by decide, by decide +kernel⟩
theorem kQ_X9_23 {p : Program} {l : Launch} {e : Env} {R : Room} {s : State} {m : MethodId} {args : Array Value} {below : List Frame} {meth : Method} {c : Code} {H : Heap} {locs : List Loc} {cells slots : Nat} {Q : State → Prop} {cc : ByteArray} {pc : Nat} {ls : Array Slot} {rest : List Value} {G : xG} {A : Nat → Prop} {a nL : Nat} {H0 : Heap} {ret : Option FieldType} {t : xT} {lv : List (Nat × Value)} (hE : xE p s m args meth c cc RX9 G nL ret) (hl : lv_has ls nL lv) (hD : tD G A H0 t H locs) (hk : (tK t a = 9 ∨ tK t a = 5)) {xa : Int32} {xb : Nat} {v : (Int32) × xT} (hF : F_X0_takes t a xa xb = some v) (hr : (rest.map fun v => v.category).sum ≤ 8) (hdg : decode cc pc = .ok (.invokespecial 23, 3)) (hR : 5 + 1 ≤ R.frames ∧ 8 + (3 + 11) + 40 * 5 ≤ R.locals) (hR2 : cells ≤ R.cells ∧ slots ≤ R.slots) (kk : ∀ (H1 : Heap) (locs1 : List Loc), tD G A H0 v.2 H1 locs1 → W p l e R s m args below meth c H1 locs1 cells slots Q (F0 m (pc + 3) ls (.int v.1 :: rest))) : W p l e R s m args below meth c H locs cells slots Q (F0 m pc ls (.ref xb :: .int xa :: .ref a :: rest)) := by
  rcases hk with h | h
  · exact kPi (As := [.int xa, .ref xb]) (rest := rest) hE hl hD (c_X0_takes hF) kp_X9_23 (tE_9 h) rfl rfl rfl hr hdg hR hR2 kk
  · exact kPi (As := [.int xa, .ref xb]) (rest := rest) hE hl hD (c_X0_takes hF) kp_X9_23 (tE_5 h) rfl rfl rfl hr hdg hR hR2 kk
def F_X9_takes (u : xT) (a0 : Nat) (xa : Int32) (xb : Nat) : Option (Int32 × xT) := if tK u xb = 10 then (F_X10_begin u xb (30 : Int32)).bind (fun r2 => if (tK r2 a0 = 9 ∨ tK r2 a0 = 5) then (F_X0_takes r2 a0 xa xb).bind (fun r5 => if (tK r5.2 a0 = 9 ∨ tK r5.2 a0 = 5) then some (r5.1 - (tI r5.2 a0 4), r5.2) else none) else none) else none
theorem c_X9_takes {l : Launch} {G : xG} {rr : (Int32 × xT)} {u : xT} {a0 : Nat} {xa : Int32} {xb : Nat} (hF : F_X9_takes u a0 xa xb = some rr) : xMi l G yX9_takes cX9_takes 3 (Option.some Jvm.ClassFile.FieldType.int) 6 0 0 [.ref a0, .int xa, .ref xb] (tE G u) u.1 (fun r z => r = rr.1 ∧ z = ((tE G rr.2), rr.2.1)) := by
  unfold F_X9_takes at hF
  refine x_startI rfl (Nat.le_of_ble_eq_true rfl) (fun p e s m args below meth cd ls hE hnm hl hD => ?_)
  have hx := hE.1; have hb := hE.2.1
  have hl : lv_has ls 3 [(0, .ref a0), (1, .int xa), (2, .ref xb)] := hl
  have hD : tD G (xA (tE G u) s.heap.size) s.heap u s.heap [] := hD
  refine lv_aload_n hx hb dX9_takes_0 rfl (lv_at hl 2 rfl) ?_
  refine lv_bipush (v := (30 : Int32)) hx hb dX9_takes_1 (by decide) ?_
  obtain ⟨h1, hF⟩ := ite_s hF
  obtain ⟨r2, k3, hF⟩ := xb_s hF
  refine kVv (As := [.int (30 : Int32)]) (rest := []) hE hl hD (c_X10_begin k3) kl_X9_17 (tE_10 h1) rfl rfl rfl rfl (Nat.le_of_ble_eq_true rfl) dX9_takes_3 ⟨Nat.le_of_ble_eq_true rfl, Nat.le_of_ble_eq_true rfl⟩ ⟨Nat.le_of_ble_eq_true rfl, Nat.le_of_ble_eq_true rfl⟩ (fun H locs (hD : tD G _ _ r2 H locs) => ?_)
  refine lv_aload_n hx hb dX9_takes_6 rfl (lv_at hl 0 rfl) ?_
  refine lv_iload_n hx hb dX9_takes_7 rfl (lv_at hl 1 rfl) ?_
  refine lv_aload_n hx hb dX9_takes_8 rfl (lv_at hl 2 rfl) ?_
  obtain ⟨h4, hF⟩ := ite_s hF
  obtain ⟨r5, k6, hF⟩ := xb_s hF
  refine kQ_X9_23 (rest := []) hE hl hD h4 k6 (Nat.le_of_ble_eq_true rfl) dX9_takes_9 ⟨Nat.le_of_ble_eq_true rfl, Nat.le_of_ble_eq_true rfl⟩ ⟨Nat.le_of_ble_eq_true rfl, Nat.le_of_ble_eq_true rfl⟩ (fun H locs (hD : tD G _ _ r5.2 H locs) => ?_)
  refine lv_aload_n hx hb dX9_takes_12 rfl (lv_at hl 0 rfl) ?_
  obtain ⟨h7, hF⟩ := ite_s hF
  refine gf_X9_27 hE hD h7 dX9_takes_13 ?_
  refine lv_isub hx hb dX9_takes_16 ?_
  obtain rfl := Option.some.inj hF
  exact x_iret hE hD ⟨rfl, rfl⟩ (by omega) (by omega) dX9_takes_17
