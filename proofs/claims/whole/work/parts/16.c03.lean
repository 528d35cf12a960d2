/-! ===== the class: walks 3 (printed by wip/whole/gen) ===== -/
theorem ku_X0_93_1 : xLU RX0 RX1 "DoubledBridge$Bridge" 93 ⟨"DoubledBridge$Bridge", "takes", "(ILDoubledBridge$Trace;)I"⟩ yX0_takes cX0_takes 3 (Option.some Jvm.ClassFile.FieldType.int) 2 := ⟨List.forall_mem_cons.mpr ⟨kw5_138, List.forall_mem_cons.mpr ⟨kw5_79, List.forall_mem_cons.mpr ⟨kw5_80, List.forall_mem_cons.mpr ⟨kw5_78, List.forall_mem_cons.mpr ⟨kw1_6, List.forall_mem_cons.mpr ⟨kw5_95, fun _ h => absurd h List.not_mem_nil⟩⟩⟩⟩⟩⟩, Or.inl rfl, by decide, by decide, by decide +kernel⟩
theorem ku_X0_93_4 : xLU RX0 RX4 "DoubledBridge$Bridge" 93 ⟨"DoubledBridge$Bridge", "takes", "(ILDoubledBridge$Trace;)I"⟩ yX4_takes cX4_takes 3 (Option.some Jvm.ClassFile.FieldType.int) 2 := ⟨List.forall_mem_cons.mpr ⟨kw5_138, List.forall_mem_cons.mpr ⟨kw5_79, List.forall_mem_cons.mpr ⟨kw5_81, List.forall_mem_cons.mpr ⟨kw5_82, List.forall_mem_cons.mpr ⟨kw1_10, List.forall_mem_cons.mpr ⟨kw5_83, fun _ h => absurd h List.not_mem_nil⟩⟩⟩⟩⟩⟩, Or.inr ⟨kw5_78, _, _, _, kw5_95⟩, by decide, by decide, by decide +kernel⟩
theorem ku_X0_93_5 : xLU RX0 RX5 "DoubledBridge$Bridge" 93 ⟨"DoubledBridge$Bridge", "takes", "(ILDoubledBridge$Trace;)I"⟩ yX9_takes cX9_takes 3 (Option.some Jvm.ClassFile.FieldType.int) 2 := ⟨List.forall_mem_cons.mpr ⟨kw5_138, List.forall_mem_cons.mpr ⟨kw5_79, List.forall_mem_cons.mpr ⟨kw5_88, List.forall_mem_cons.mpr ⟨kw5_89, List.forall_mem_cons.mpr ⟨kw1_7, List.forall_mem_cons.mpr ⟨kw5_90, fun _ h => absurd h List.not_mem_nil⟩⟩⟩⟩⟩⟩, Or.inr ⟨kw5_78, _, _, _, kw5_95⟩, by decide, by decide, by decide +kernel⟩
theorem ku_X0_93_6 : xLU RX0 RX6 "DoubledBridge$Bridge" 93 ⟨"DoubledBridge$Bridge", "takes", "(ILDoubledBridge$Trace;)I"⟩ yX0_takes cX0_takes 3 (Option.some Jvm.ClassFile.FieldType.int) 2 := ⟨List.forall_mem_cons.mpr ⟨kw5_138, List.forall_mem_cons.mpr ⟨kw5_79, List.forall_mem_cons.mpr ⟨kw5_93, List.forall_mem_cons.mpr ⟨kw5_78, List.forall_mem_cons.mpr ⟨kw1_6, List.forall_mem_cons.mpr ⟨kw5_95, fun _ h => absurd h List.not_mem_nil⟩⟩⟩⟩⟩⟩, Or.inl rfl, by decide, by decide, by decide +kernel⟩
theorem ku_X0_93_9 : xLU RX0 RX9 "DoubledBridge$Bridge" 93 ⟨"DoubledBridge$Bridge", "takes", "(ILDoubledBridge$Trace;)I"⟩ yX9_takes cX9_takes 3 (Option.some Jvm.ClassFile.FieldType.int) 2 := ⟨List.forall_mem_cons.mpr ⟨kw5_138, List.forall_mem_cons.mpr ⟨kw5_79, List.forall_mem_cons.mpr ⟨kw5_94, List.forall_mem_cons.mpr ⟨kw5_89, List.forall_mem_cons.mpr ⟨kw1_7, List.forall_mem_cons.mpr ⟨kw5_90, fun _ h => absurd h List.not_mem_nil⟩⟩⟩⟩⟩⟩, Or.inr ⟨kw5_78, _, _, _, kw5_95⟩, by decide, by decide, by decide +kernel⟩
def F_V_takes (t : xT) (a : Nat) (xa : Int32) (xb : Nat) : Option ((Int32) × xT) := if tK t a = 1 then F_X0_takes t a xa xb else (if tK t a = 4 then F_X4_takes t a xa xb else (if tK t a = 5 then F_X9_takes t a xa xb else (if tK t a = 6 then F_X0_takes t a xa xb else (if tK t a = 9 then F_X9_takes t a xa xb else (none)))))
theorem kB_X0_93 {p : Program} {l : Launch} {e : Env} {R : Room} {s : State} {m : MethodId} {args : Array Value} {below : List Frame} {meth : Method} {c : Code} {H : Heap} {locs : List Loc} {cells slots : Nat} {Q : State → Prop} {cc : ByteArray} {pc : Nat} {ls : Array Slot} {rest : List Value} {G : xG} {A : Nat → Prop} {a nL : Nat} {H0 : Heap} {ret : Option FieldType} {t : xT} {lv : List (Nat × Value)} (hE : xE p s m args meth c cc RX0 G nL ret) (hl : lv_has ls nL lv) (hD : tD G A H0 t H locs) (hk : isBk (tK t a)) {xa : Int32} {xb : Nat} {v : (Int32) × xT} (hF : F_V_takes t a xa xb = some v) (hr : (rest.map fun v => v.category).sum ≤ 8) (hdg : decode cc pc = .ok (.invokevirtual 93, 3)) (hR : 6 + 1 ≤ R.frames ∧ 8 + (3 + 11) + 40 * 6 ≤ R.locals) (hR2 : cells ≤ R.cells ∧ slots ≤ R.slots) (kk : ∀ (H1 : Heap) (locs1 : List Loc), tD G A H0 v.2 H1 locs1 → W p l e R s m args below meth c H1 locs1 cells slots Q (F0 m (pc + 3) ls (.int v.1 :: rest))) : W p l e R s m args below meth c H locs cells slots Q (F0 m pc ls (.ref xb :: .int xa :: .ref a :: rest)) := by
  unfold F_V_takes at hF
  rcases hk with h | h | h | h | h
  · have hF := ite_p hF h
    exact kUi (As := [.int xa, .ref xb]) (rest := rest) hE hl hD (c_X0_takes hF) ku_X0_93_1 (tE_1 h) rfl rfl rfl rfl hr hdg ⟨by have := hR.1; omega, by have := hR.2; omega⟩ hR2 kk
  · have hF := ite_n hF (by rw [h]; decide)
    have hF := ite_p hF h
    exact kUi (As := [.int xa, .ref xb]) (rest := rest) hE hl hD (c_X4_takes hF) ku_X0_93_4 (tE_4 h) rfl rfl rfl rfl hr hdg ⟨by have := hR.1; omega, by have := hR.2; omega⟩ hR2 kk
  · have hF := ite_n hF (by rw [h]; decide)
    have hF := ite_n hF (by rw [h]; decide)
    have hF := ite_p hF h
    exact kUi (As := [.int xa, .ref xb]) (rest := rest) hE hl hD (c_X9_takes hF) ku_X0_93_5 (tE_5 h) rfl rfl rfl rfl hr hdg ⟨by have := hR.1; omega, by have := hR.2; omega⟩ hR2 kk
  · have hF := ite_n hF (by rw [h]; decide)
    have hF := ite_n hF (by rw [h]; decide)
    have hF := ite_n hF (by rw [h]; decide)
    have hF := ite_p hF h
    exact kUi (As := [.int xa, .ref xb]) (rest := rest) hE hl hD (c_X0_takes hF) ku_X0_93_6 (tE_6 h) rfl rfl rfl rfl hr hdg ⟨by have := hR.1; omega, by have := hR.2; omega⟩ hR2 kk
  · have hF := ite_n hF (by rw [h]; decide)
    have hF := ite_n hF (by rw [h]; decide)
    have hF := ite_n hF (by rw [h]; decide)
    have hF := ite_n hF (by rw [h]; decide)
    have hF := ite_p hF h
    exact kUi (As := [.int xa, .ref xb]) (rest := rest) hE hl hD (c_X9_takes hF) ku_X0_93_9 (tE_9 h) rfl rfl rfl rfl hr hdg ⟨by have := hR.1; omega, by have := hR.2; omega⟩ hR2 kk
def F_X0_tells (u : xT) (a0 : Nat) (xa : Int32) (xb : Nat) : Option (Int32 × xT) := if tK u xb = 10 then (F_X10_begin u xb (13 : Int32)).bind (fun r2 => if isBk (tK r2 a0) then (F_V_takes r2 a0 xa xb).bind (fun r5 => if isBk (tK r5.2 a0) then some (r5.1 ^^^ (tI r5.2 a0 4), r5.2) else none) else none) else none
theorem c_X0_tells {l : Launch} {G : xG} {rr : (Int32 × xT)} {u : xT} {a0 : Nat} {xa : Int32} {xb : Nat} (hF : F_X0_tells u a0 xa xb = some rr) : xMi l G yX0_tells cX0_tells 3 (Option.some Jvm.ClassFile.FieldType.int) 7 0 0 [.ref a0, .int xa, .ref xb] (tE G u) u.1 (fun r z => r = rr.1 ∧ z = ((tE G rr.2), rr.2.1)) := by
  unfold F_X0_tells at hF
  refine x_startI rfl (Nat.le_of_ble_eq_true rfl) (fun p e s m args below meth cd ls hE hnm hl hD => ?_)
  have hx := hE.1; have hb := hE.2.1
  have hl : lv_has ls 3 [(0, .ref a0), (1, .int xa), (2, .ref xb)] := hl
  have hD : tD G (xA (tE G u) s.heap.size) s.heap u s.heap [] := hD
  refine lv_aload_n hx hb dX0_tells_0 rfl (lv_at hl 2 rfl) ?_
  refine lv_bipush (v := (13 : Int32)) hx hb dX0_tells_1 (by decide) ?_
  obtain ⟨h1, hF⟩ := ite_s hF
  obtain ⟨r2, k3, hF⟩ := xb_s hF
  refine kVv (As := [.int (13 : Int32)]) (rest := []) hE hl hD (c_X10_begin k3) kl_X0_80 (tE_10 h1) rfl rfl rfl rfl (Nat.le_of_ble_eq_true rfl) dX0_tells_3 ⟨Nat.le_of_ble_eq_true rfl, Nat.le_of_ble_eq_true rfl⟩ ⟨Nat.le_of_ble_eq_true rfl, Nat.le_of_ble_eq_true rfl⟩ (fun H locs (hD : tD G _ _ r2 H locs) => ?_)
  refine lv_aload_n hx hb dX0_tells_6 rfl (lv_at hl 0 rfl) ?_
  refine lv_iload_n hx hb dX0_tells_7 rfl (lv_at hl 1 rfl) ?_
  refine lv_aload_n hx hb dX0_tells_8 rfl (lv_at hl 2 rfl) ?_
  obtain ⟨h4, hF⟩ := ite_s hF
  obtain ⟨r5, k6, hF⟩ := xb_s hF
  refine kB_X0_93 (rest := []) hE hl hD h4 k6 (Nat.le_of_ble_eq_true rfl) dX0_tells_9 ⟨Nat.le_of_ble_eq_true rfl, Nat.le_of_ble_eq_true rfl⟩ ⟨Nat.le_of_ble_eq_true rfl, Nat.le_of_ble_eq_true rfl⟩ (fun H locs (hD : tD G _ _ r5.2 H locs) => ?_)
  refine lv_aload_n hx hb dX0_tells_12 rfl (lv_at hl 0 rfl) ?_
  obtain ⟨h7, hF⟩ := ite_s hF
  refine gf_X0_24 hE hD h7 dX0_tells_13 ?_
  refine lv_ixor hx hb dX0_tells_16 ?_
  obtain rfl := Option.some.inj hF
  exact x_iret hE hD ⟨rfl, rfl⟩ (by omega) (by omega) dX0_tells_17
theorem kp_X1_21 : xLP RX1 21 ⟨"DoubledBridge$Bridge", "shares", "(ILDoubledBridge$Trace;)I"⟩ yX0_shares cX0_shares 4 (Option.some Jvm.ClassFile.FieldType.int) 2 := ⟨List.forall_mem_cons.mpr ⟨kw5_104, List.forall_mem_cons.mpr ⟨kw5_99, List.forall_mem_cons.mpr ⟨kw2_61, List.forall_mem_cons.mpr ⟨kw5_98, List.forall_mem_cons.mpr ⟨kw1_6, List.forall_mem_cons.mpr ⟨kw5_115, fun _ h => absurd h List.not_mem_nil⟩⟩⟩⟩⟩⟩, rfl, rfl, Or.inl rfl, by decide, by decide +kernel⟩
theorem kQ_X1_21 {p : Program} {l : Launch} {e : Env} {R : Room} {s : State} {m : MethodId} {args : Array Value} {below : List Frame} {meth : Method} {c : Code} {H : Heap} {locs : List Loc} {cells slots : Nat} {Q : State → Prop} {cc : ByteArray} {pc : Nat} {ls : Array Slot} {rest : List Value} {G : xG} {A : Nat → Prop} {a nL : Nat} {H0 : Heap} {ret : Option FieldType} {t : xT} {lv : List (Nat × Value)} (hE : xE p s m args meth c cc RX1 G nL ret) (hl : lv_has ls nL lv) (hD : tD G A H0 t H locs) (hk : (tK t a = 1 ∨ tK t a = 4)) {xa : Int32} {xb : Nat} {v : (Int32) × xT} (hF : F_X0_shares t a xa xb = some v) (hr : (rest.map fun v => v.category).sum ≤ 8) (hdg : decode cc pc = .ok (.invokespecial 21, 3)) (hR : 3 + 1 ≤ R.frames ∧ 8 + (4 + 11) + 40 * 3 ≤ R.locals) (hR2 : cells ≤ R.cells ∧ slots ≤ R.slots) (kk : ∀ (H1 : Heap) (locs1 : List Loc), tD G A H0 v.2 H1 locs1 → W p l e R s m args below meth c H1 locs1 cells slots Q (F0 m (pc + 3) ls (.int v.1 :: rest))) : W p l e R s m args below meth c H locs cells slots Q (F0 m pc ls (.ref xb :: .int xa :: .ref a :: rest)) := by
  rcases hk with h | h
  · exact kPi (As := [.int xa, .ref xb]) (rest := rest) hE hl hD (c_X0_shares hF) kp_X1_21 (tE_1 h) rfl rfl rfl hr hdg hR hR2 kk
  · exact kPi (As := [.int xa, .ref xb]) (rest := rest) hE hl hD (c_X0_shares hF) kp_X1_21 (tE_4 h) rfl rfl rfl hr hdg hR hR2 kk
def F_X1_shares (u : xT) (a0 : Nat) (xa : Int32) (xb : Nat) : Option (Int32 × xT) := if tK u xb = 10 then (F_X10_begin u xb (40 : Int32)).bind (fun r2 => if (tK r2 a0 = 1 ∨ tK r2 a0 = 4) then (F_X0_shares r2 a0 (xa + (1 : Int32)) xb).bind (fun r5 => some (r5.1, r5.2)) else none) else none
theorem c_X1_shares {l : Launch} {G : xG} {rr : (Int32 × xT)} {u : xT} {a0 : Nat} {xa : Int32} {xb : Nat} (hF : F_X1_shares u a0 xa xb = some rr) : xMi l G yX1_shares cX1_shares 3 (Option.some Jvm.ClassFile.FieldType.int) 4 0 0 [.ref a0, .int xa, .ref xb] (tE G u) u.1 (fun r z => r = rr.1 ∧ z = ((tE G rr.2), rr.2.1)) := by
  unfold F_X1_shares at hF
  refine x_startI rfl (Nat.le_of_ble_eq_true rfl) (fun p e s m args below meth cd ls hE hnm hl hD => ?_)
  have hx := hE.1; have hb := hE.2.1
  have hl : lv_has ls 3 [(0, .ref a0), (1, .int xa), (2, .ref xb)] := hl
  have hD : tD G (xA (tE G u) s.heap.size) s.heap u s.heap [] := hD
  refine lv_aload_n hx hb dX1_shares_0 rfl (lv_at hl 2 rfl) ?_
  refine lv_bipush (v := (40 : Int32)) hx hb dX1_shares_1 (by decide) ?_
  obtain ⟨h1, hF⟩ := ite_s hF
  obtain ⟨r2, k3, hF⟩ := xb_s hF
  refine kVv (As := [.int (40 : Int32)]) (rest := []) hE hl hD (c_X10_begin k3) kl_X1_15 (tE_10 h1) rfl rfl rfl rfl (Nat.le_of_ble_eq_true rfl) dX1_shares_3 ⟨Nat.le_of_ble_eq_true rfl, Nat.le_of_ble_eq_true rfl⟩ ⟨Nat.le_of_ble_eq_true rfl, Nat.le_of_ble_eq_true rfl⟩ (fun H locs (hD : tD G _ _ r2 H locs) => ?_)
  refine lv_aload_n hx hb dX1_shares_6 rfl (lv_at hl 0 rfl) ?_
  refine lv_iload_n hx hb dX1_shares_7 rfl (lv_at hl 1 rfl) ?_
  refine lv_iconst (v := (1 : Int32)) hx hb dX1_shares_8 (by decide) ?_
  refine lv_iadd hx hb dX1_shares_9 ?_
  refine lv_aload_n hx hb dX1_shares_10 rfl (lv_at hl 2 rfl) ?_
  obtain ⟨h4, hF⟩ := ite_s hF
  obtain ⟨r5, k6, hF⟩ := xb_s hF
  refine kQ_X1_21 (rest := []) hE hl hD h4 k6 (Nat.le_of_ble_eq_true rfl) dX1_shares_11 ⟨Nat.le_of_ble_eq_true rfl, Nat.le_of_ble_eq_true rfl⟩ ⟨Nat.le_of_ble_eq_true rfl, Nat.le_of_ble_eq_true rfl⟩ (fun H locs (hD : tD G _ _ r5.2 H locs) => ?_)
  obtain rfl := Option.some.inj hF
  exact x_iret hE hD ⟨rfl, rfl⟩ (by omega) (by omega) dX1_shares_14
def F_X2_init (u : xT) (a0 : Nat) : Option (xT) := if tK u a0 = 2 then xlet (tSI u a0 0 (0 : Int32)) (fun t2 => xlet (tNew t2 20 8) (fun t4 => if tK t4 a0 = 2 then xlet (tSP t4 a0 1 (some t2.1)) (fun t7 => xlet (tNew t7 20 8) (fun t10 => if tK t10 a0 = 2 then xlet (tSP t10 a0 2 (some t7.1)) (fun t13 => xlet (tNew t13 20 8) (fun t16 => if tK t16 a0 = 2 then xlet (tSP t16 a0 3 (some t13.1)) (fun t19 => xlet (tNew t19 20 8) (fun t22 => if tK t22 a0 = 2 then xlet (tSP t22 a0 4 (some t19.1)) (fun t25 => xlet (tNew t25 20 8) (fun t28 => if tK t28 a0 = 2 then xlet (tSP t28 a0 5 (some t25.1)) (fun t31 => xlet (tNew t31 20 100) (fun t34 => if tK t34 a0 = 2 then xlet (tSP t34 a0 6 (some t31.1)) (fun t37 => xlet (tNew t37 20 100) (fun t40 => if tK t40 a0 = 2 then xlet (tSP t40 a0 7 (some t37.1)) (fun t43 => xlet (tNew t43 20 100) (fun t46 => if tK t46 a0 = 2 then xlet (tSP t46 a0 8 (some t43.1)) (fun t49 => xlet (tSI t49 a0 9 (0 : Int32)) (fun t52 => some t52)) else none)) else none)) else none)) else none)) else none)) else none)) else none)) else none)) else none
theorem c_X2_init {l : Launch} {G : xG} {rr : (xT)} {u : xT} {a0 : Nat} (hF : F_X2_init u a0 = some rr) : xMv l G yX2_init cX2_init 1 (Option.none : Option Jvm.ClassFile.FieldType) 2 8 340 [.ref a0] (tE G u) u.1 (fun z => z = ((tE G rr), rr.1)) := by
  unfold F_X2_init at hF
  refine x_startV rfl (Nat.le_of_ble_eq_true rfl) (fun p e s m args below meth cd ls hE hnm hl hD => ?_)
  have hx := hE.1; have hb := hE.2.1
  have hl : lv_has ls 1 [(0, .ref a0)] := hl
  have hD : tD G (xA (tE G u) s.heap.size) s.heap u s.heap [] := hD
  refine lv_aload_n hx hb dX2_init_0 rfl (lv_at hl 0 rfl) ?_
  refine x_objI (rest := []) hE hl kw1_42 (Nat.le_of_ble_eq_true rfl) (Nat.le_of_ble_eq_true rfl) dX2_init_1 ?_
  refine lv_aload_n hx hb dX2_init_4 rfl (lv_at hl 0 rfl) ?_
  refine lv_iconst (v := (0 : Int32)) hx hb dX2_init_5 (by decide) ?_
  obtain ⟨h1, hF⟩ := ite_s hF
  refine pf_X2_9 hE hD h1 dX2_init_6 (fun t2 H locs et2 hD => ?_)
  have hF := xlet_e hF et2
  have h3 : tK t2 a0 = 2 := by rw [et2]; exact h1
  refine lv_aload_n hx hb dX2_init_9 rfl (lv_at hl 0 rfl) ?_
  refine lv_bipush (v := (8 : Int32)) hx hb dX2_init_10 (by decide) ?_
  refine t_newI (N := 8) hE hD (by decide) (by decide) (Nat.le_of_ble_eq_true rfl) (by show 0 + 1 ≤ 8; omega) (by show 0 + 8 ≤ 340; omega) dX2_init_12 (fun t4 H et4 hD => ?_)
  have hF := xlet_e hF et4
  have h5 : tK t4 t2.1 = 20 := by rw [et4]; exact tK_N _ _ _
  obtain ⟨h6, hF⟩ := ite_s hF
  refine pf_X2_15 (v := (some t2.1)) hE hnm hD h6 dX2_init_14 (fun t7 H locs et7 hD => ?_)
  have hF := xlet_e hF et7
  have h8 : tK t7 t2.1 = 20 := by rw [et7]; exact h5
  have h9 : tK t7 a0 = 2 := by rw [et7]; exact h6
  refine lv_aload_n hx hb dX2_init_17 rfl (lv_at hl 0 rfl) ?_
  refine lv_bipush (v := (8 : Int32)) hx hb dX2_init_18 (by decide) ?_
  refine t_newI (N := 8) hE hD (by decide) (by decide) (Nat.le_of_ble_eq_true rfl) (by show 0 + 1 + 1 ≤ 8; omega) (by show 0 + 8 + 8 ≤ 340; omega) dX2_init_20 (fun t10 H et10 hD => ?_)
  have hF := xlet_e hF et10
  have h11 : tK t10 t7.1 = 20 := by rw [et10]; exact tK_N _ _ _
  obtain ⟨h12, hF⟩ := ite_s hF
  refine pf_X2_19 (v := (some t7.1)) hE hnm hD h12 dX2_init_22 (fun t13 H locs et13 hD => ?_)
  have hF := xlet_e hF et13
  have h14 : tK t13 t7.1 = 20 := by rw [et13]; exact h11
  have h15 : tK t13 a0 = 2 := by rw [et13]; exact h12
  refine lv_aload_n hx hb dX2_init_25 rfl (lv_at hl 0 rfl) ?_
  refine lv_bipush (v := (8 : Int32)) hx hb dX2_init_26 (by decide) ?_
  refine t_newI (N := 8) hE hD (by decide) (by decide) (Nat.le_of_ble_eq_true rfl) (by show 0 + 1 + 1 + 1 ≤ 8; omega) (by show 0 + 8 + 8 + 8 ≤ 340; omega) dX2_init_28 (fun t16 H et16 hD => ?_)
  have hF := xlet_e hF et16
  have h17 : tK t16 t13.1 = 20 := by rw [et16]; exact tK_N _ _ _
  obtain ⟨h18, hF⟩ := ite_s hF
  refine pf_X2_22 (v := (some t13.1)) hE hnm hD h18 dX2_init_30 (fun t19 H locs et19 hD => ?_)
  have hF := xlet_e hF et19
  have h20 : tK t19 t13.1 = 20 := by rw [et19]; exact h17
  have h21 : tK t19 a0 = 2 := by rw [et19]; exact h18
  refine lv_aload_n hx hb dX2_init_33 rfl (lv_at hl 0 rfl) ?_
  refine lv_bipush (v := (8 : Int32)) hx hb dX2_init_34 (by decide) ?_
  refine t_newI (N := 8) hE hD (by decide) (by decide) (Nat.le_of_ble_eq_true rfl) (by show 0 + 1 + 1 + 1 + 1 ≤ 8; omega) (by show 0 + 8 + 8 + 8 + 8 ≤ 340; omega) dX2_init_36 (fun t22 H et22 hD => ?_)
  have hF := xlet_e hF et22
  have h23 : tK t22 t19.1 = 20 := by rw [et22]; exact tK_N _ _ _
  obtain ⟨h24, hF⟩ := ite_s hF
  refine pf_X2_25 (v := (some t19.1)) hE hnm hD h24 dX2_init_38 (fun t25 H locs et25 hD => ?_)
  have hF := xlet_e hF et25
  have h26 : tK t25 t19.1 = 20 := by rw [et25]; exact h23
  have h27 : tK t25 a0 = 2 := by rw [et25]; exact h24
  refine lv_aload_n hx hb dX2_init_41 rfl (lv_at hl 0 rfl) ?_
  refine lv_bipush (v := (8 : Int32)) hx hb dX2_init_42 (by decide) ?_
  refine t_newI (N := 8) hE hD (by decide) (by decide) (Nat.le_of_ble_eq_true rfl) (by show 0 + 1 + 1 + 1 + 1 + 1 ≤ 8; omega) (by show 0 + 8 + 8 + 8 + 8 + 8 ≤ 340; omega) dX2_init_44 (fun t28 H et28 hD => ?_)
  have hF := xlet_e hF et28
  have h29 : tK t28 t25.1 = 20 := by rw [et28]; exact tK_N _ _ _
  obtain ⟨h30, hF⟩ := ite_s hF
  refine pf_X2_28 (v := (some t25.1)) hE hnm hD h30 dX2_init_46 (fun t31 H locs et31 hD => ?_)
  have hF := xlet_e hF et31
  have h32 : tK t31 t25.1 = 20 := by rw [et31]; exact h29
  have h33 : tK t31 a0 = 2 := by rw [et31]; exact h30
  refine lv_aload_n hx hb dX2_init_49 rfl (lv_at hl 0 rfl) ?_
  refine lv_bipush (v := (100 : Int32)) hx hb dX2_init_50 (by decide) ?_
  refine t_newI (N := 100) hE hD (by decide) (by decide) (Nat.le_of_ble_eq_true rfl) (by show 0 + 1 + 1 + 1 + 1 + 1 + 1 ≤ 8; omega) (by show 0 + 8 + 8 + 8 + 8 + 8 + 100 ≤ 340; omega) dX2_init_52 (fun t34 H et34 hD => ?_)
  have hF := xlet_e hF et34
  have h35 : tK t34 t31.1 = 20 := by rw [et34]; exact tK_N _ _ _
  obtain ⟨h36, hF⟩ := ite_s hF
  refine pf_X2_31 (v := (some t31.1)) hE hnm hD h36 dX2_init_54 (fun t37 H locs et37 hD => ?_)
  have hF := xlet_e hF et37
  have h38 : tK t37 t31.1 = 20 := by rw [et37]; exact h35
  have h39 : tK t37 a0 = 2 := by rw [et37]; exact h36
  refine lv_aload_n hx hb dX2_init_57 rfl (lv_at hl 0 rfl) ?_
  refine lv_bipush (v := (100 : Int32)) hx hb dX2_init_58 (by decide) ?_
  refine t_newI (N := 100) hE hD (by decide) (by decide) (Nat.le_of_ble_eq_true rfl) (by show 0 + 1 + 1 + 1 + 1 + 1 + 1 + 1 ≤ 8; omega) (by show 0 + 8 + 8 + 8 + 8 + 8 + 100 + 100 ≤ 340; omega) dX2_init_60 (fun t40 H et40 hD => ?_)
  have hF := xlet_e hF et40
  have h41 : tK t40 t37.1 = 20 := by rw [et40]; exact tK_N _ _ _
  obtain ⟨h42, hF⟩ := ite_s hF
  refine pf_X2_34 (v := (some t37.1)) hE hnm hD h42 dX2_init_62 (fun t43 H locs et43 hD => ?_)
  have hF := xlet_e hF et43
  have h44 : tK t43 t37.1 = 20 := by rw [et43]; exact h41
  have h45 : tK t43 a0 = 2 := by rw [et43]; exact h42
  refine lv_aload_n hx hb dX2_init_65 rfl (lv_at hl 0 rfl) ?_
  refine lv_bipush (v := (100 : Int32)) hx hb dX2_init_66 (by decide) ?_
  refine t_newI (N := 100) hE hD (by decide) (by decide) (Nat.le_of_ble_eq_true rfl) (by show 0 + 1 + 1 + 1 + 1 + 1 + 1 + 1 + 1 ≤ 8; omega) (by show 0 + 8 + 8 + 8 + 8 + 8 + 100 + 100 + 100 ≤ 340; omega) dX2_init_68 (fun t46 H et46 hD => ?_)
  have hF := xlet_e hF et46
  have h47 : tK t46 t43.1 = 20 := by rw [et46]; exact tK_N _ _ _
  obtain ⟨h48, hF⟩ := ite_s hF
  refine pf_X2_37 (v := (some t43.1)) hE hnm hD h48 dX2_init_70 (fun t49 H locs et49 hD => ?_)
  have hF := xlet_e hF et49
  have h50 : tK t49 t43.1 = 20 := by rw [et49]; exact h47
  have h51 : tK t49 a0 = 2 := by rw [et49]; exact h48
  refine lv_aload_n hx hb dX2_init_73 rfl (lv_at hl 0 rfl) ?_
  refine lv_iconst (v := (0 : Int32)) hx hb dX2_init_74 (by decide) ?_
  refine pf_X2_40 hE hD h51 dX2_init_75 (fun t52 H locs et52 hD => ?_)
  have hF := xlet_e hF et52
  have h53 : tK t52 t43.1 = 20 := by rw [et52]; exact h50
  have h54 : tK t52 a0 = 2 := by rw [et52]; exact h51
  obtain rfl := Option.some.inj hF
  exact x_vret hE hD rfl (by omega) (by omega) dX2_init_78
def F_X2_addStep_j76 (u : xT) (a0 : Nat) : Option (xT) := some u
theorem B_X2_addStep_j76 {p : Program} {l : Launch} {e : Env} {s : State} {m : MethodId} {args : Array Value} {below : List Frame} {meth : Method} {cd : Code} {G : xG} {w0 : xW} {rr : (xT)} (hE : xE p s m args meth cd cX2_addStep RX2 G 4 (Option.none : Option Jvm.ClassFile.FieldType)) {u : xT} {a0 : Nat} {H : Heap} {locs : List Loc} {ls : Array Slot} (hD : tD G (xA w0 s.heap.size) s.heap u H locs) (hl : lv_has ls 4 [(0, .ref a0)]) (hF : F_X2_addStep_j76 u a0 = some rr) : W p l e (xR 2 0 0) s m args below meth cd H locs 0 0 (xQv G w0 (fun z => z = ((tE G rr), rr.1)) below args s 0 0) (F0 m 76 ls []) := by
  have hx := hE.1; have hb := hE.2.1
  unfold F_X2_addStep_j76 at hF
  obtain rfl := Option.some.inj hF
  exact x_vret hE hD rfl (by omega) (by omega) dX2_addStep_76
def F_X2_addStep (u : xT) (a0 : Nat) (xa : Int32) (xb : Int32) (xc : Int32) : Option (xT) := if tK u a0 = 2 then (tP u a0 6).bind (fun q2 => if tK u q2 = 20 then if (nI (tN u q2)) ≤ (tI u a0 9) then F_X2_addStep_j76 u a0 else (tP u a0 7).bind (fun q6 => if tK u q6 = 20 then if (nI (tN u q6)) ≤ (tI u a0 9) then F_X2_addStep_j76 u a0 else (tP u a0 8).bind (fun q10 => if tK u q10 = 20 then if (nI (tN u q10)) ≤ (tI u a0 9) then F_X2_addStep_j76 u a0 else (tP u a0 6).bind (fun q14 => if tK u q14 = 20 then if xIn (tI u a0 9) (tN u q14) then xlet (tSI u q14 (tI u a0 9).toNatClampNeg xa) (fun t18 => (tP t18 a0 7).bind (fun q24 => if tK t18 q24 = 20 then if xIn (tI t18 a0 9) (tN t18 q24) then xlet (tSI t18 q24 (tI t18 a0 9).toNatClampNeg xb) (fun t28 => (tP t28 a0 8).bind (fun q35 => if tK t28 q35 = 20 then if xIn (tI t28 a0 9) (tN t28 q35) then xlet (tSI t28 q35 (tI t28 a0 9).toNatClampNeg xc) (fun t39 => xlet (tSI t39 a0 9 ((tI t39 a0 9) + (1 : Int32))) (fun t47 => F_X2_addStep_j76 t47 a0)) else none else none)) else none else none)) else none else none) else none) else none) else none) else none
theorem c_X2_addStep {l : Launch} {G : xG} {rr : (xT)} {u : xT} {a0 : Nat} {xa : Int32} {xb : Int32} {xc : Int32} (hF : F_X2_addStep u a0 xa xb xc = some rr) : xMv l G yX2_addStep cX2_addStep 4 (Option.none : Option Jvm.ClassFile.FieldType) 2 0 0 [.ref a0, .int xa, .int xb, .int xc] (tE G u) u.1 (fun z => z = ((tE G rr), rr.1)) := by
  unfold F_X2_addStep at hF
  refine x_startV rfl (Nat.le_of_ble_eq_true rfl) (fun p e s m args below meth cd ls hE hnm hl hD => ?_)
  have hx := hE.1; have hb := hE.2.1
  have hl : lv_has ls 4 [(0, .ref a0), (1, .int xa), (2, .int xb), (3, .int xc)] := hl
  have hD : tD G (xA (tE G u) s.heap.size) s.heap u s.heap [] := hD
  refine lv_aload_n hx hb dX2_addStep_0 rfl (lv_at hl 0 rfl) ?_
  obtain ⟨h1, hF⟩ := ite_s hF
  refine gf_X2_40 hE hD h1 dX2_addStep_1 ?_
  refine lv_aload_n hx hb dX2_addStep_4 rfl (lv_at hl 0 rfl) ?_
  obtain ⟨q2, h3, hF⟩ := xb_s hF
  refine gr_X2_31 hE hD h1 h3 dX2_addStep_5 ?_
  obtain ⟨h4, hF⟩ := ite_s hF
  refine t_alen hE hD h4 dX2_addStep_8 ?_
  refine lv_icmp_ge (tgt := 76) hx hb dX2_addStep_9 (by decide) (fun c5 => ?_) (fun c5 => ?_)
  · have hF := ite_p hF c5
    exact B_X2_addStep_j76 hE hD (lv_sub hl [0] rfl) hF
  · have hF := ite_n hF c5
    refine lv_aload_n hx hb dX2_addStep_12 rfl (lv_at hl 0 rfl) ?_
    refine gf_X2_40 hE hD h1 dX2_addStep_13 ?_
    refine lv_aload_n hx hb dX2_addStep_16 rfl (lv_at hl 0 rfl) ?_
    obtain ⟨q6, h7, hF⟩ := xb_s hF
    refine gr_X2_34 hE hD h1 h7 dX2_addStep_17 ?_
    obtain ⟨h8, hF⟩ := ite_s hF
    refine t_alen hE hD h8 dX2_addStep_20 ?_
    refine lv_icmp_ge (tgt := 76) hx hb dX2_addStep_21 (by decide) (fun c9 => ?_) (fun c9 => ?_)
    · have hF := ite_p hF c9
      exact B_X2_addStep_j76 hE hD (lv_sub hl [0] rfl) hF
    · have hF := ite_n hF c9
      refine lv_aload_n hx hb dX2_addStep_24 rfl (lv_at hl 0 rfl) ?_
      refine gf_X2_40 hE hD h1 dX2_addStep_25 ?_
      refine lv_aload_n hx hb dX2_addStep_28 rfl (lv_at hl 0 rfl) ?_
      obtain ⟨q10, h11, hF⟩ := xb_s hF
      refine gr_X2_37 hE hD h1 h11 dX2_addStep_29 ?_
      obtain ⟨h12, hF⟩ := ite_s hF
      refine t_alen hE hD h12 dX2_addStep_32 ?_
      refine lv_icmp_ge (tgt := 76) hx hb dX2_addStep_33 (by decide) (fun c13 => ?_) (fun c13 => ?_)
      · have hF := ite_p hF c13
        exact B_X2_addStep_j76 hE hD (lv_sub hl [0] rfl) hF
      · have hF := ite_n hF c13
        refine lv_aload_n hx hb dX2_addStep_36 rfl (lv_at hl 0 rfl) ?_
        obtain ⟨q14, h15, hF⟩ := xb_s hF
        refine gr_X2_31 hE hD h1 h15 dX2_addStep_37 ?_
        refine lv_aload_n hx hb dX2_addStep_40 rfl (lv_at hl 0 rfl) ?_
        refine gf_X2_40 hE hD h1 dX2_addStep_41 ?_
        refine lv_iload_n hx hb dX2_addStep_44 rfl (lv_at hl 1 rfl) ?_
        obtain ⟨h16, hF⟩ := ite_s hF
        obtain ⟨h17, hF⟩ := ite_s hF
        refine t_iast hE hD h16 h17 dX2_addStep_45 (fun t18 H locs et18 hD => ?_)
        have hF := xlet_e hF et18
        have h19 : tK t18 a0 = 2 := by rw [et18]; exact h1
        have h20 : tK t18 q2 = 20 := by rw [et18]; exact h4
        have h21 : tK t18 q6 = 20 := by rw [et18]; exact h8
        have h22 : tK t18 q10 = 20 := by rw [et18]; exact h12
        have h23 : tK t18 q14 = 20 := by rw [et18]; exact h16
        refine lv_aload_n hx hb dX2_addStep_46 rfl (lv_at hl 0 rfl) ?_
        obtain ⟨q24, h25, hF⟩ := xb_s hF
        refine gr_X2_34 hE hD h19 h25 dX2_addStep_47 ?_
        refine lv_aload_n hx hb dX2_addStep_50 rfl (lv_at hl 0 rfl) ?_
        refine gf_X2_40 hE hD h19 dX2_addStep_51 ?_
        refine lv_iload_n hx hb dX2_addStep_54 rfl (lv_at hl 2 rfl) ?_
        obtain ⟨h26, hF⟩ := ite_s hF
        obtain ⟨h27, hF⟩ := ite_s hF
        refine t_iast hE hD h26 h27 dX2_addStep_55 (fun t28 H locs et28 hD => ?_)
        have hF := xlet_e hF et28
        have h29 : tK t28 a0 = 2 := by rw [et28]; exact h19
        have h30 : tK t28 q2 = 20 := by rw [et28]; exact h20
        have h31 : tK t28 q6 = 20 := by rw [et28]; exact h21
        have h32 : tK t28 q10 = 20 := by rw [et28]; exact h22
        have h33 : tK t28 q14 = 20 := by rw [et28]; exact h23
        have h34 : tK t28 q24 = 20 := by rw [et28]; exact h26
        refine lv_aload_n hx hb dX2_addStep_56 rfl (lv_at hl 0 rfl) ?_
        obtain ⟨q35, h36, hF⟩ := xb_s hF
        refine gr_X2_37 hE hD h29 h36 dX2_addStep_57 ?_
        refine lv_aload_n hx hb dX2_addStep_60 rfl (lv_at hl 0 rfl) ?_
        refine gf_X2_40 hE hD h29 dX2_addStep_61 ?_
        refine lv_iload_n hx hb dX2_addStep_64 rfl (lv_at hl 3 rfl) ?_
        obtain ⟨h37, hF⟩ := ite_s hF
        obtain ⟨h38, hF⟩ := ite_s hF
        refine t_iast hE hD h37 h38 dX2_addStep_65 (fun t39 H locs et39 hD => ?_)
        have hF := xlet_e hF et39
        have h40 : tK t39 a0 = 2 := by rw [et39]; exact h29
        have h41 : tK t39 q2 = 20 := by rw [et39]; exact h30
        have h42 : tK t39 q6 = 20 := by rw [et39]; exact h31
        have h43 : tK t39 q10 = 20 := by rw [et39]; exact h32
        have h44 : tK t39 q14 = 20 := by rw [et39]; exact h33
        have h45 : tK t39 q24 = 20 := by rw [et39]; exact h34
        have h46 : tK t39 q35 = 20 := by rw [et39]; exact h37
        refine lv_aload_n hx hb dX2_addStep_66 rfl (lv_at hl 0 rfl) ?_
        refine lv_dup hx hb dX2_addStep_67 rfl ?_
        refine gf_X2_40 hE hD h40 dX2_addStep_68 ?_
        refine lv_iconst (v := (1 : Int32)) hx hb dX2_addStep_71 (by decide) ?_
        refine lv_iadd hx hb dX2_addStep_72 ?_
        refine pf_X2_40 hE hD h40 dX2_addStep_73 (fun t47 H locs et47 hD => ?_)
        have hF := xlet_e hF et47
        have h48 : tK t47 a0 = 2 := by rw [et47]; exact h40
        have h49 : tK t47 q2 = 20 := by rw [et47]; exact h41
        have h50 : tK t47 q6 = 20 := by rw [et47]; exact h42
        have h51 : tK t47 q10 = 20 := by rw [et47]; exact h43
        have h52 : tK t47 q14 = 20 := by rw [et47]; exact h44
        have h53 : tK t47 q24 = 20 := by rw [et47]; exact h45
        have h54 : tK t47 q35 = 20 := by rw [et47]; exact h46
        exact B_X2_addStep_j76 hE hD (lv_sub hl [0] rfl) hF
def F_X2_addClause_j76 (u : xT) (a0 : Nat) : Option (xT) := some u
theorem B_X2_addClause_j76 {p : Program} {l : Launch} {e : Env} {s : State} {m : MethodId} {args : Array Value} {below : List Frame} {meth : Method} {cd : Code} {G : xG} {w0 : xW} {rr : (xT)} (hE : xE p s m args meth cd cX2_addClause RX2 G 5 (Option.none : Option Jvm.ClassFile.FieldType)) {u : xT} {a0 : Nat} {H : Heap} {locs : List Loc} {ls : Array Slot} (hD : tD G (xA w0 s.heap.size) s.heap u H locs) (hl : lv_has ls 5 [(0, .ref a0)]) (hF : F_X2_addClause_j76 u a0 = some rr) : W p l e (xR 3 0 0) s m args below meth cd H locs 0 0 (xQv G w0 (fun z => z = ((tE G rr), rr.1)) below args s 0 0) (F0 m 76 ls []) := by
  have hx := hE.1; have hb := hE.2.1
  unfold F_X2_addClause_j76 at hF
  obtain rfl := Option.some.inj hF
  exact x_vret hE hD rfl (by omega) (by omega) dX2_addClause_76
def F_X2_addClause (u : xT) (a0 : Nat) (xa : Int32) (xb : Int32) (xc : Int32) (xd : Int32) : Option (xT) := if tK u a0 = 2 then (F_X2_isClause (tI u a0 0) (8 : Int32)).bind (fun r2 => if r2 = 0 then F_X2_addClause_j76 u a0 else (tP u a0 1).bind (fun q6 => if tK u q6 = 20 then if xIn (tI u a0 0) (tN u q6) then xlet (tSI u q6 (tI u a0 0).toNatClampNeg xa) (fun t10 => (tP t10 a0 2).bind (fun q13 => if tK t10 q13 = 20 then if xIn (tI t10 a0 0) (tN t10 q13) then xlet (tSI t10 q13 (tI t10 a0 0).toNatClampNeg xb) (fun t17 => (tP t17 a0 3).bind (fun q21 => if tK t17 q21 = 20 then if xIn (tI t17 a0 0) (tN t17 q21) then xlet (tSI t17 q21 (tI t17 a0 0).toNatClampNeg xc) (fun t25 => (tP t25 a0 4).bind (fun q30 => if tK t25 q30 = 20 then if xIn (tI t25 a0 0) (tN t25 q30) then xlet (tSI t25 q30 (tI t25 a0 0).toNatClampNeg xd) (fun t34 => (tP t34 a0 5).bind (fun q40 => if tK t34 q40 = 20 then if xIn (tI t34 a0 0) (tN t34 q40) then xlet (tSI t34 q40 (tI t34 a0 0).toNatClampNeg (tI t34 a0 9)) (fun t44 => xlet (tSI t44 a0 0 ((tI t44 a0 0) + (1 : Int32))) (fun t51 => F_X2_addClause_j76 t51 a0)) else none else none)) else none else none)) else none else none)) else none else none)) else none else none)) else none
theorem c_X2_addClause {l : Launch} {G : xG} {rr : (xT)} {u : xT} {a0 : Nat} {xa : Int32} {xb : Int32} {xc : Int32} {xd : Int32} (hF : F_X2_addClause u a0 xa xb xc xd = some rr) : xMv l G yX2_addClause cX2_addClause 5 (Option.none : Option Jvm.ClassFile.FieldType) 3 0 0 [.ref a0, .int xa, .int xb, .int xc, .int xd] (tE G u) u.1 (fun z => z = ((tE G rr), rr.1)) := by
  unfold F_X2_addClause at hF
  refine x_startV rfl (Nat.le_of_ble_eq_true rfl) (fun p e s m args below meth cd ls hE hnm hl hD => ?_)
  have hx := hE.1; have hb := hE.2.1
  have hl : lv_has ls 5 [(0, .ref a0), (1, .int xa), (2, .int xb), (3, .int xc), (4, .int xd)] := hl
  have hD : tD G (xA (tE G u) s.heap.size) s.heap u s.heap [] := hD
  refine lv_aload_n hx hb dX2_addClause_0 rfl (lv_at hl 0 rfl) ?_
  obtain ⟨h1, hF⟩ := ite_s hF
  refine gf_X2_9 hE hD h1 dX2_addClause_1 ?_
  refine lv_bipush (v := (8 : Int32)) hx hb dX2_addClause_4 (by decide) ?_
  obtain ⟨r2, k3, hF⟩ := xb_s hF
  refine kSz (As := [.int (tI u a0 0), .int (8 : Int32)]) (rest := []) hE hl hD (c_X2_isClause k3) kl_X2_43 rfl rfl (Nat.le_of_ble_eq_true rfl) dX2_addClause_6 ⟨Nat.le_of_ble_eq_true rfl, Nat.le_of_ble_eq_true rfl⟩ ⟨Nat.le_of_ble_eq_true rfl, Nat.le_of_ble_eq_true rfl⟩ (fun H locs z4 (hD : tD G _ _ u H locs) => ?_)
  refine lv_if_eq (tgt := 76) hx hb dX2_addClause_9 (by decide) (fun c5 => ?_) (fun c5 => ?_)
  · have hF := ite_p hF c5
    exact B_X2_addClause_j76 hE hD (lv_sub hl [0] rfl) hF
  · have hF := ite_n hF c5
    refine lv_aload_n hx hb dX2_addClause_12 rfl (lv_at hl 0 rfl) ?_
    obtain ⟨q6, h7, hF⟩ := xb_s hF
    refine gr_X2_15 hE hD h1 h7 dX2_addClause_13 ?_
    refine lv_aload_n hx hb dX2_addClause_16 rfl (lv_at hl 0 rfl) ?_
    refine gf_X2_9 hE hD h1 dX2_addClause_17 ?_
    refine lv_iload_n hx hb dX2_addClause_20 rfl (lv_at hl 1 rfl) ?_
    obtain ⟨h8, hF⟩ := ite_s hF
    obtain ⟨h9, hF⟩ := ite_s hF
    refine t_iast hE hD h8 h9 dX2_addClause_21 (fun t10 H locs et10 hD => ?_)
    have hF := xlet_e hF et10
    have h11 : tK t10 a0 = 2 := by rw [et10]; exact h1
    have h12 : tK t10 q6 = 20 := by rw [et10]; exact h8
    refine lv_aload_n hx hb dX2_addClause_22 rfl (lv_at hl 0 rfl) ?_
    obtain ⟨q13, h14, hF⟩ := xb_s hF
    refine gr_X2_19 hE hD h11 h14 dX2_addClause_23 ?_
    refine lv_aload_n hx hb dX2_addClause_26 rfl (lv_at hl 0 rfl) ?_
    refine gf_X2_9 hE hD h11 dX2_addClause_27 ?_
    refine lv_iload_n hx hb dX2_addClause_30 rfl (lv_at hl 2 rfl) ?_
    obtain ⟨h15, hF⟩ := ite_s hF
    obtain ⟨h16, hF⟩ := ite_s hF
    refine t_iast hE hD h15 h16 dX2_addClause_31 (fun t17 H locs et17 hD => ?_)
    have hF := xlet_e hF et17
    have h18 : tK t17 a0 = 2 := by rw [et17]; exact h11
    have h19 : tK t17 q6 = 20 := by rw [et17]; exact h12
    have h20 : tK t17 q13 = 20 := by rw [et17]; exact h15
    refine lv_aload_n hx hb dX2_addClause_32 rfl (lv_at hl 0 rfl) ?_
    obtain ⟨q21, h22, hF⟩ := xb_s hF
    refine gr_X2_22 hE hD h18 h22 dX2_addClause_33 ?_
    refine lv_aload_n hx hb dX2_addClause_36 rfl (lv_at hl 0 rfl) ?_
    refine gf_X2_9 hE hD h18 dX2_addClause_37 ?_
    refine lv_iload_n hx hb dX2_addClause_40 rfl (lv_at hl 3 rfl) ?_
    obtain ⟨h23, hF⟩ := ite_s hF
    obtain ⟨h24, hF⟩ := ite_s hF
    refine t_iast hE hD h23 h24 dX2_addClause_41 (fun t25 H locs et25 hD => ?_)
    have hF := xlet_e hF et25
    have h26 : tK t25 a0 = 2 := by rw [et25]; exact h18
    have h27 : tK t25 q6 = 20 := by rw [et25]; exact h19
    have h28 : tK t25 q13 = 20 := by rw [et25]; exact h20
    have h29 : tK t25 q21 = 20 := by rw [et25]; exact h23
    refine lv_aload_n hx hb dX2_addClause_42 rfl (lv_at hl 0 rfl) ?_
    obtain ⟨q30, h31, hF⟩ := xb_s hF
    refine gr_X2_25 hE hD h26 h31 dX2_addClause_43 ?_
    refine lv_aload_n hx hb dX2_addClause_46 rfl (lv_at hl 0 rfl) ?_
    refine gf_X2_9 hE hD h26 dX2_addClause_47 ?_
    refine lv_iload hx hb dX2_addClause_50 (lv_at hl 4 rfl) ?_
    obtain ⟨h32, hF⟩ := ite_s hF
    obtain ⟨h33, hF⟩ := ite_s hF
    refine t_iast hE hD h32 h33 dX2_addClause_52 (fun t34 H locs et34 hD => ?_)
    have hF := xlet_e hF et34
    have h35 : tK t34 a0 = 2 := by rw [et34]; exact h26
    have h36 : tK t34 q6 = 20 := by rw [et34]; exact h27
    have h37 : tK t34 q13 = 20 := by rw [et34]; exact h28
    have h38 : tK t34 q21 = 20 := by rw [et34]; exact h29
    have h39 : tK t34 q30 = 20 := by rw [et34]; exact h32
    refine lv_aload_n hx hb dX2_addClause_53 rfl (lv_at hl 0 rfl) ?_
    obtain ⟨q40, h41, hF⟩ := xb_s hF
    refine gr_X2_28 hE hD h35 h41 dX2_addClause_54 ?_
    refine lv_aload_n hx hb dX2_addClause_57 rfl (lv_at hl 0 rfl) ?_
    refine gf_X2_9 hE hD h35 dX2_addClause_58 ?_
    refine lv_aload_n hx hb dX2_addClause_61 rfl (lv_at hl 0 rfl) ?_
    refine gf_X2_40 hE hD h35 dX2_addClause_62 ?_
    obtain ⟨h42, hF⟩ := ite_s hF
    obtain ⟨h43, hF⟩ := ite_s hF
    refine t_iast hE hD h42 h43 dX2_addClause_65 (fun t44 H locs et44 hD => ?_)
    have hF := xlet_e hF et44
    have h45 : tK t44 a0 = 2 := by rw [et44]; exact h35
    have h46 : tK t44 q6 = 20 := by rw [et44]; exact h36
    have h47 : tK t44 q13 = 20 := by rw [et44]; exact h37
    have h48 : tK t44 q21 = 20 := by rw [et44]; exact h38
    have h49 : tK t44 q30 = 20 := by rw [et44]; exact h39
    have h50 : tK t44 q40 = 20 := by rw [et44]; exact h42
    refine lv_aload_n hx hb dX2_addClause_66 rfl (lv_at hl 0 rfl) ?_
    refine lv_dup hx hb dX2_addClause_67 rfl ?_
    refine gf_X2_9 hE hD h45 dX2_addClause_68 ?_
    refine lv_iconst (v := (1 : Int32)) hx hb dX2_addClause_71 (by decide) ?_
    refine lv_iadd hx hb dX2_addClause_72 ?_
    refine pf_X2_9 hE hD h45 dX2_addClause_73 (fun t51 H locs et51 hD => ?_)
    have hF := xlet_e hF et51
    have h52 : tK t51 a0 = 2 := by rw [et51]; exact h45
    have h53 : tK t51 q6 = 20 := by rw [et51]; exact h46
    have h54 : tK t51 q13 = 20 := by rw [et51]; exact h47
    have h55 : tK t51 q21 = 20 := by rw [et51]; exact h48
    have h56 : tK t51 q30 = 20 := by rw [et51]; exact h49
    have h57 : tK t51 q40 = 20 := by rw [et51]; exact h50
    exact B_X2_addClause_j76 hE hD (lv_sub hl [0] rfl) hF
theorem ki_X3_11 : xLI RX3 11 yX2_init cX2_init 1 0 := ⟨⟨kw1_40, kw1_3, kw1_41⟩, Or.inr (by decide), rfl, by decide, by decide, by decide +kernel⟩
def F_X3_init (u : xT) (a0 : Nat) (xa : Nat) (xb : Int32) : Option (xT) := xlet (tNew u 2 0) (fun t1 => (F_X2_init t1 u.1).bind (fun r3 => if tK r3 a0 = 3 then xlet (tSP r3 a0 0 (some u.1)) (fun t6 => xlet (tSI t6 a0 1 (0 : Int32)) (fun t8 => xlet (tSI t8 a0 2 (0 : Int32)) (fun t10 => xlet (tSI t10 a0 5 (0 : Int32)) (fun t12 => xlet (tSI t12 a0 6 (0 : Int32)) (fun t14 => xlet (tSP t14 a0 3 (some xa)) (fun t16 => xlet (tSI t16 a0 4 xb) (fun t18 => some t18))))))) else none))
theorem c_X3_init {l : Launch} {G : xG} {rr : (xT)} {u : xT} {a0 : Nat} {xa : Nat} {xb : Int32} (hF : F_X3_init u a0 xa xb = some rr) : xMv l G yX3_init cX3_init 3 (Option.none : Option Jvm.ClassFile.FieldType) 3 9 350 [.ref a0, .ref xa, .int xb] (tE G u) u.1 (fun z => z = ((tE G rr), rr.1)) := by
  unfold F_X3_init at hF
  refine x_startV rfl (Nat.le_of_ble_eq_true rfl) (fun p e s m args below meth cd ls hE hnm hl hD => ?_)
  have hx := hE.1; have hb := hE.2.1
  have hl : lv_has ls 3 [(0, .ref a0), (1, .ref xa), (2, .int xb)] := hl
  have hD : tD G (xA (tE G u) s.heap.size) s.heap u s.heap [] := hD
  refine lv_aload_n hx hb dX3_init_0 rfl (lv_at hl 0 rfl) ?_
  refine x_objI (rest := []) hE hl kw2_188 (Nat.le_of_ble_eq_true rfl) (Nat.le_of_ble_eq_true rfl) dX3_init_1 ?_
  refine lv_aload_n hx hb dX3_init_4 rfl (lv_at hl 0 rfl) ?_
  refine tn_X3_9 hE hD (by show 0 + 1 ≤ 9; omega) (by show 0 + 10 ≤ 350; omega) dX3_init_5 (fun t1 H et1 hD => ?_)
  have hF := xlet_e hF et1
  have h2 : tK t1 u.1 = 2 := by rw [et1]; exact tK_N _ _ _
  refine lv_dup hx hb dX3_init_8 rfl ?_
  obtain ⟨r3, k4, hF⟩ := xb_s hF
  refine kIvA (As := []) (rest := [.ref u.1, .ref a0]) hE hl hD (c_X2_init k4) ki_X3_11 rfl rfl (Nat.le_of_ble_eq_true rfl) dX3_init_9 ⟨Nat.le_of_ble_eq_true rfl, Nat.le_of_ble_eq_true rfl⟩ ⟨(by show 0 + 1 + 8 ≤ 9; omega), (by show 0 + 10 + 340 ≤ 350; omega)⟩ (fun H locs (hD : tD G _ _ r3 H locs) => ?_)
  obtain ⟨h5, hF⟩ := ite_s hF
  refine pf_X3_12 (v := (some u.1)) hE hnm hD h5 dX3_init_12 (fun t6 H locs et6 hD => ?_)
  have hF := xlet_e hF et6
  have h7 : tK t6 a0 = 3 := by rw [et6]; exact h5
  refine lv_aload_n hx hb dX3_init_15 rfl (lv_at hl 0 rfl) ?_
  refine lv_iconst (v := (0 : Int32)) hx hb dX3_init_16 (by decide) ?_
  refine pf_X3_18 hE hD h7 dX3_init_17 (fun t8 H locs et8 hD => ?_)
  have hF := xlet_e hF et8
  have h9 : tK t8 a0 = 3 := by rw [et8]; exact h7
  refine lv_aload_n hx hb dX3_init_20 rfl (lv_at hl 0 rfl) ?_
  refine lv_iconst (v := (0 : Int32)) hx hb dX3_init_21 (by decide) ?_
  refine pf_X3_22 hE hD h9 dX3_init_22 (fun t10 H locs et10 hD => ?_)
  have hF := xlet_e hF et10
  have h11 : tK t10 a0 = 3 := by rw [et10]; exact h9
  refine lv_aload_n hx hb dX3_init_25 rfl (lv_at hl 0 rfl) ?_
  refine lv_iconst (v := (0 : Int32)) hx hb dX3_init_26 (by decide) ?_
  refine pf_X3_25 hE hD h11 dX3_init_27 (fun t12 H locs et12 hD => ?_)
  have hF := xlet_e hF et12
  have h13 : tK t12 a0 = 3 := by rw [et12]; exact h11
  refine lv_aload_n hx hb dX3_init_30 rfl (lv_at hl 0 rfl) ?_
  refine lv_iconst (v := (0 : Int32)) hx hb dX3_init_31 (by decide) ?_
  refine pf_X3_28 hE hD h13 dX3_init_32 (fun t14 H locs et14 hD => ?_)
  have hF := xlet_e hF et14
  have h15 : tK t14 a0 = 3 := by rw [et14]; exact h13
  refine lv_aload_n hx hb dX3_init_35 rfl (lv_at hl 0 rfl) ?_
  refine lv_aload_n hx hb dX3_init_36 rfl (lv_at hl 1 rfl) ?_
  refine pf_X3_31 (v := (some xa)) hE hnm hD h15 dX3_init_37 (fun t16 H locs et16 hD => ?_)
  have hF := xlet_e hF et16
  have h17 : tK t16 a0 = 3 := by rw [et16]; exact h15
  refine lv_aload_n hx hb dX3_init_40 rfl (lv_at hl 0 rfl) ?_
  refine lv_iload_n hx hb dX3_init_41 rfl (lv_at hl 2 rfl) ?_
  refine pf_X3_35 hE hnm hD h17 dX3_init_42 (fun t18 H locs et18 hD => ?_)
  have hF := xlet_e hF et18
  have h19 : tK t18 a0 = 3 := by rw [et18]; exact h17
  obtain rfl := Option.some.inj hF
  exact x_vret hE hD rfl (by omega) (by omega) dX3_init_45
def F_X3_sortAt_j69 (u : xT) (a0 : Nat) (s0 : Int32) : Option Int32 := some s0
theorem B_X3_sortAt_j69 {p : Program} {l : Launch} {e : Env} {s : State} {m : MethodId} {args : Array Value} {below : List Frame} {meth : Method} {cd : Code} {G : xG} {w0 : xW} {rr : Int32} (hE : xE p s m args meth cd cX3_sortAt RX3 G 3 (Option.some Jvm.ClassFile.FieldType.int)) {u : xT} {a0 : Nat} {s0 : Int32} {H : Heap} {locs : List Loc} {ls : Array Slot} (hD : tD G (xA w0 s.heap.size) s.heap u H locs) (hl : lv_has ls 3 [(0, .ref a0)]) (hF : F_X3_sortAt_j69 u a0 s0 = some rr) : W p l e (xR 2 0 0) s m args below meth cd H locs 0 0 (xQi G w0 (fun r z => r = rr ∧ z = ((tE G u), u.1)) below args s 0 0) (F0 m 69 ls [.int s0]) := by
  have hx := hE.1; have hb := hE.2.1
  unfold F_X3_sortAt_j69 at hF
  obtain rfl := Option.some.inj hF
  exact x_iret hE hD ⟨rfl, rfl⟩ (by omega) (by omega) dX3_sortAt_69
def F_X3_sortAt_j58 (u : xT) (a0 : Nat) (y2 : Int32) : Option Int32 := if y2 = (32 : Int32) then F_X3_sortAt_j69 u a0 (4 : Int32) else F_X3_sortAt_j69 u a0 (3 : Int32)
theorem B_X3_sortAt_j58 {p : Program} {l : Launch} {e : Env} {s : State} {m : MethodId} {args : Array Value} {below : List Frame} {meth : Method} {cd : Code} {G : xG} {w0 : xW} {rr : Int32} (hE : xE p s m args meth cd cX3_sortAt RX3 G 3 (Option.some Jvm.ClassFile.FieldType.int)) {u : xT} {a0 : Nat} {y2 : Int32} {H : Heap} {locs : List Loc} {ls : Array Slot} (hD : tD G (xA w0 s.heap.size) s.heap u H locs) (hl : lv_has ls 3 [(0, .ref a0), (2, .int y2)]) (hF : F_X3_sortAt_j58 u a0 y2 = some rr) : W p l e (xR 2 0 0) s m args below meth cd H locs 0 0 (xQi G w0 (fun r z => r = rr ∧ z = ((tE G u), u.1)) below args s 0 0) (F0 m 58 ls []) := by
  have hx := hE.1; have hb := hE.2.1
  unfold F_X3_sortAt_j58 at hF
  refine lv_iload_n hx hb dX3_sortAt_58 rfl (lv_at hl 1 rfl) ?_
  refine lv_bipush (v := (32 : Int32)) hx hb dX3_sortAt_59 (by decide) ?_
  refine lv_icmp_ne (tgt := 68) hx hb dX3_sortAt_61 (by decide) (fun c1 => ?_) (fun c1 => ?_)
  · have hF := ite_n hF c1
    refine lv_iconst (v := (3 : Int32)) hx hb dX3_sortAt_68 (by decide) ?_
    exact B_X3_sortAt_j69 hE hD (lv_sub hl [0] rfl) hF
  · have hF := ite_p hF c1
    refine lv_iconst (v := (4 : Int32)) hx hb dX3_sortAt_64 (by decide) ?_
    refine lv_goto (tgt := 69) hx hb dX3_sortAt_65 (by decide) ?_
    exact B_X3_sortAt_j69 hE hD (lv_sub hl [0] rfl) hF
def F_X3_sortAt_j44 (u : xT) (a0 : Nat) (y2 : Int32) : Option Int32 := if y2 < (48 : Int32) then F_X3_sortAt_j58 u a0 y2 else if (57 : Int32) < y2 then F_X3_sortAt_j58 u a0 y2 else some (2 : Int32)
theorem B_X3_sortAt_j44 {p : Program} {l : Launch} {e : Env} {s : State} {m : MethodId} {args : Array Value} {below : List Frame} {meth : Method} {cd : Code} {G : xG} {w0 : xW} {rr : Int32} (hE : xE p s m args meth cd cX3_sortAt RX3 G 3 (Option.some Jvm.ClassFile.FieldType.int)) {u : xT} {a0 : Nat} {y2 : Int32} {H : Heap} {locs : List Loc} {ls : Array Slot} (hD : tD G (xA w0 s.heap.size) s.heap u H locs) (hl : lv_has ls 3 [(0, .ref a0), (2, .int y2)]) (hF : F_X3_sortAt_j44 u a0 y2 = some rr) : W p l e (xR 2 0 0) s m args below meth cd H locs 0 0 (xQi G w0 (fun r z => r = rr ∧ z = ((tE G u), u.1)) below args s 0 0) (F0 m 44 ls []) := by
  have hx := hE.1; have hb := hE.2.1
  unfold F_X3_sortAt_j44 at hF
  refine lv_iload_n hx hb dX3_sortAt_44 rfl (lv_at hl 1 rfl) ?_
  refine lv_bipush (v := (48 : Int32)) hx hb dX3_sortAt_45 (by decide) ?_
  refine lv_icmp_lt (tgt := 58) hx hb dX3_sortAt_47 (by decide) (fun c2 => ?_) (fun c2 => ?_)
  · have hF := ite_p hF c2
    exact B_X3_sortAt_j58 hE hD (lv_sub hl [0, 1] rfl) hF
  · have hF := ite_n hF c2
    refine lv_iload_n hx hb dX3_sortAt_50 rfl (lv_at hl 1 rfl) ?_
    refine lv_bipush (v := (57 : Int32)) hx hb dX3_sortAt_51 (by decide) ?_
    refine lv_icmp_gt (tgt := 58) hx hb dX3_sortAt_53 (by decide) (fun c3 => ?_) (fun c3 => ?_)
    · have hF := ite_p hF c3
      exact B_X3_sortAt_j58 hE hD (lv_sub hl [0, 1] rfl) hF
    · have hF := ite_n hF c3
      refine lv_iconst (v := (2 : Int32)) hx hb dX3_sortAt_56 (by decide) ?_
      obtain rfl := Option.some.inj hF
      exact x_iret hE hD ⟨rfl, rfl⟩ (by omega) (by omega) dX3_sortAt_57
def F_X3_sortAt_j21 (u : xT) (a0 : Nat) : Option Int32 := some (0 : Int32)
theorem B_X3_sortAt_j21 {p : Program} {l : Launch} {e : Env} {s : State} {m : MethodId} {args : Array Value} {below : List Frame} {meth : Method} {cd : Code} {G : xG} {w0 : xW} {rr : Int32} (hE : xE p s m args meth cd cX3_sortAt RX3 G 3 (Option.some Jvm.ClassFile.FieldType.int)) {u : xT} {a0 : Nat} {H : Heap} {locs : List Loc} {ls : Array Slot} (hD : tD G (xA w0 s.heap.size) s.heap u H locs) (hl : lv_has ls 3 [(0, .ref a0)]) (hF : F_X3_sortAt_j21 u a0 = some rr) : W p l e (xR 2 0 0) s m args below meth cd H locs 0 0 (xQi G w0 (fun r z => r = rr ∧ z = ((tE G u), u.1)) below args s 0 0) (F0 m 21 ls []) := by
  have hx := hE.1; have hb := hE.2.1
  unfold F_X3_sortAt_j21 at hF
  refine lv_iconst (v := (0 : Int32)) hx hb dX3_sortAt_21 (by decide) ?_
  obtain rfl := Option.some.inj hF
  exact x_iret hE hD ⟨rfl, rfl⟩ (by omega) (by omega) dX3_sortAt_22
def F_X3_sortAt (u : xT) (a0 : Nat) (xa : Int32) : Option Int32 := if xa < 0 then F_X3_sortAt_j21 u a0 else if tK u a0 = 3 then if (tI u a0 4) ≤ xa then F_X3_sortAt_j21 u a0 else (tP u a0 3).bind (fun q7 => if tK u q7 = 20 then if xa < (nI (tN u q7)) then (tP u a0 3).bind (fun q11 => if tK u q11 = 20 then if xIn xa (tN u q11) then xlet (tI u q11 xa.toNatClampNeg) (fun x15 => if x15 < (97 : Int32) then F_X3_sortAt_j44 u a0 x15 else if (122 : Int32) < x15 then F_X3_sortAt_j44 u a0 x15 else some (1 : Int32)) else none else none) else F_X3_sortAt_j21 u a0 else none) else none
theorem c_X3_sortAt {l : Launch} {G : xG} {rr : Int32} {u : xT} {a0 : Nat} {xa : Int32} (hF : F_X3_sortAt u a0 xa = some rr) : xMi l G yX3_sortAt cX3_sortAt 3 (Option.some Jvm.ClassFile.FieldType.int) 2 0 0 [.ref a0, .int xa] (tE G u) u.1 (fun r z => r = rr ∧ z = ((tE G u), u.1)) := by
  unfold F_X3_sortAt at hF
  refine x_startI rfl (Nat.le_of_ble_eq_true rfl) (fun p e s m args below meth cd ls hE hnm hl hD => ?_)
  have hx := hE.1; have hb := hE.2.1
  have hl : lv_has ls 3 [(0, .ref a0), (1, .int xa)] := hl
  have hD : tD G (xA (tE G u) s.heap.size) s.heap u s.heap [] := hD
  refine lv_iload_n hx hb dX3_sortAt_0 rfl (lv_at hl 1 rfl) ?_
  refine lv_if_lt (tgt := 21) hx hb dX3_sortAt_1 (by decide) (fun c4 => ?_) (fun c4 => ?_)
  · have hF := ite_p hF c4
    exact B_X3_sortAt_j21 hE hD (lv_sub hl [0] rfl) hF
  · have hF := ite_n hF c4
    refine lv_iload_n hx hb dX3_sortAt_4 rfl (lv_at hl 1 rfl) ?_
    refine lv_aload_n hx hb dX3_sortAt_5 rfl (lv_at hl 0 rfl) ?_
    obtain ⟨h5, hF⟩ := ite_s hF
    refine gf_X3_35 hE hD h5 dX3_sortAt_6 ?_
    refine lv_icmp_ge (tgt := 21) hx hb dX3_sortAt_9 (by decide) (fun c6 => ?_) (fun c6 => ?_)
    · have hF := ite_p hF c6
      exact B_X3_sortAt_j21 hE hD (lv_sub hl [0] rfl) hF
    · have hF := ite_n hF c6
      refine lv_iload_n hx hb dX3_sortAt_12 rfl (lv_at hl 1 rfl) ?_
      refine lv_aload_n hx hb dX3_sortAt_13 rfl (lv_at hl 0 rfl) ?_
      obtain ⟨q7, h8, hF⟩ := xb_s hF
      refine gr_X3_31 hE hD h5 h8 dX3_sortAt_14 ?_
      obtain ⟨h9, hF⟩ := ite_s hF
      refine t_alen hE hD h9 dX3_sortAt_17 ?_
      refine lv_icmp_lt (tgt := 23) hx hb dX3_sortAt_18 (by decide) (fun c10 => ?_) (fun c10 => ?_)
      · have hF := ite_p hF c10
        refine lv_aload_n hx hb dX3_sortAt_23 rfl (lv_at hl 0 rfl) ?_
        obtain ⟨q11, h12, hF⟩ := xb_s hF
        refine gr_X3_31 hE hD h5 h12 dX3_sortAt_24 ?_
        refine lv_iload_n hx hb dX3_sortAt_27 rfl (lv_at hl 1 rfl) ?_
        obtain ⟨h13, hF⟩ := ite_s hF
        obtain ⟨h14, hF⟩ := ite_s hF
        refine t_iald hE hD h13 h14 dX3_sortAt_28 ?_
        refine lv_topi (fun x15 ex15 => ?_)
        have hF := xlet_e hF ex15
        refine lv_istore_n (lv' := [(2, .int x15), (0, .ref a0), (1, .int xa)]) hx hb dX3_sortAt_29 rfl hl (by decide) rfl (fun ls hl => ?_)
        refine lv_iload_n hx hb dX3_sortAt_30 rfl (lv_at hl 0 rfl) ?_
        refine lv_bipush (v := (97 : Int32)) hx hb dX3_sortAt_31 (by decide) ?_
        refine lv_icmp_lt (tgt := 44) hx hb dX3_sortAt_33 (by decide) (fun c16 => ?_) (fun c16 => ?_)
        · have hF := ite_p hF c16
          exact B_X3_sortAt_j44 hE hD (lv_sub hl [1, 0] rfl) hF
        · have hF := ite_n hF c16
          refine lv_iload_n hx hb dX3_sortAt_36 rfl (lv_at hl 0 rfl) ?_
          refine lv_bipush (v := (122 : Int32)) hx hb dX3_sortAt_37 (by decide) ?_
          refine lv_icmp_gt (tgt := 44) hx hb dX3_sortAt_39 (by decide) (fun c17 => ?_) (fun c17 => ?_)
          · have hF := ite_p hF c17
            exact B_X3_sortAt_j44 hE hD (lv_sub hl [1, 0] rfl) hF
          · have hF := ite_n hF c17
            refine lv_iconst (v := (1 : Int32)) hx hb dX3_sortAt_42 (by decide) ?_
            obtain rfl := Option.some.inj hF
            exact x_iret hE hD ⟨rfl, rfl⟩ (by omega) (by omega) dX3_sortAt_43
      · have hF := ite_n hF c10
        exact B_X3_sortAt_j21 hE hD (lv_sub hl [0] rfl) hF
def F_X3_next_j135 (u : xT) (a0 : Nat) : Option (xT) := some u
theorem B_X3_next_j135 {p : Program} {l : Launch} {e : Env} {s : State} {m : MethodId} {args : Array Value} {below : List Frame} {meth : Method} {cd : Code} {G : xG} {w0 : xW} {rr : (xT)} (hE : xE p s m args meth cd cX3_next RX3 G 1 (Option.none : Option Jvm.ClassFile.FieldType)) {u : xT} {a0 : Nat} {H : Heap} {locs : List Loc} {ls : Array Slot} (hD : tD G (xA w0 s.heap.size) s.heap u H locs) (hl : lv_has ls 1 [(0, .ref a0)]) (hF : F_X3_next_j135 u a0 = some rr) : W p l e (xR 3 0 0) s m args below meth cd H locs 0 0 (xQv G w0 (fun z => z = ((tE G rr), rr.1)) below args s 0 0) (F0 m 135 ls []) := by
  have hx := hE.1; have hb := hE.2.1
  unfold F_X3_next_j135 at hF
  obtain rfl := Option.some.inj hF
  exact x_vret hE hD rfl (by omega) (by omega) dX3_next_135
def F_X3_next_j107 (kc80 : xT → Nat → Option (xT)) (u : xT) (a0 : Nat) : Option (xT) := if tK u a0 = 3 then (F_X3_sortAt u a0 (tI u a0 6)).bind (fun r2 => if r2 = (tI u a0 2) then xlet (tSI u a0 6 ((tI u a0 6) + (1 : Int32))) (fun t5 => kc80 t5 a0) else F_X3_next_j135 u a0) else none
theorem B_X3_next_j107 {p : Program} {l : Launch} {e : Env} {s : State} {m : MethodId} {args : Array Value} {below : List Frame} {meth : Method} {cd : Code} {G : xG} {w0 : xW} {rr : (xT)} (hE : xE p s m args meth cd cX3_next RX3 G 1 (Option.none : Option Jvm.ClassFile.FieldType)) {u : xT} (kc80 : xT → Nat → Option (xT)) (hc80 : ∀ {u1 : xT} {a0 : Nat} {H : Heap} {locs : List Loc} {ls : Array Slot} , tD G (xA w0 s.heap.size) s.heap u1 H locs → lv_has ls 1 [(0, .ref a0)] → kc80 u1 a0 = some rr → W p l e (xR 3 0 0) s m args below meth cd H locs 0 0 (xQv G w0 (fun z => z = ((tE G rr), rr.1)) below args s 0 0) (F0 m 80 ls [])) {a0 : Nat} {H : Heap} {locs : List Loc} {ls : Array Slot} (hD : tD G (xA w0 s.heap.size) s.heap u H locs) (hl : lv_has ls 1 [(0, .ref a0)]) (hF : F_X3_next_j107 kc80 u a0 = some rr) : W p l e (xR 3 0 0) s m args below meth cd H locs 0 0 (xQv G w0 (fun z => z = ((tE G rr), rr.1)) below args s 0 0) (F0 m 107 ls []) := by
  have hx := hE.1; have hb := hE.2.1
  unfold F_X3_next_j107 at hF
  refine lv_aload_n hx hb dX3_next_107 rfl (lv_at hl 0 rfl) ?_
  refine lv_aload_n hx hb dX3_next_108 rfl (lv_at hl 0 rfl) ?_
  obtain ⟨h1, hF⟩ := ite_s hF
  refine gf_X3_28 hE hD h1 dX3_next_109 ?_
  obtain ⟨r2, k3, hF⟩ := xb_s hF
  refine kVi (As := [.int (tI u a0 6)]) (rest := []) hE hl hD (c_X3_sortAt k3) kl_X3_38 (tE_3 h1) rfl rfl rfl rfl (Nat.le_of_ble_eq_true rfl) dX3_next_112 ⟨Nat.le_of_ble_eq_true rfl, Nat.le_of_ble_eq_true rfl⟩ ⟨Nat.le_of_ble_eq_true rfl, Nat.le_of_ble_eq_true rfl⟩ (fun H locs (hD : tD G _ _ u H locs) => ?_)
  refine lv_aload_n hx hb dX3_next_115 rfl (lv_at hl 0 rfl) ?_
  refine gf_X3_22 hE hD h1 dX3_next_116 ?_
  refine lv_icmp_ne (tgt := 135) hx hb dX3_next_119 (by decide) (fun c4 => ?_) (fun c4 => ?_)
  · have hF := ite_n hF c4
    exact B_X3_next_j135 hE hD (lv_sub hl [0] rfl) hF
  · have hF := ite_p hF c4
    refine lv_aload_n hx hb dX3_next_122 rfl (lv_at hl 0 rfl) ?_
    refine lv_dup hx hb dX3_next_123 rfl ?_
    refine gf_X3_28 hE hD h1 dX3_next_124 ?_
    refine lv_iconst (v := (1 : Int32)) hx hb dX3_next_127 (by decide) ?_
    refine lv_iadd hx hb dX3_next_128 ?_
    refine pf_X3_28 hE hD h1 dX3_next_129 (fun t5 H locs et5 hD => ?_)
    have hF := xlet_e hF et5
    have h6 : tK t5 a0 = 3 := by rw [et5]; exact h1
    refine lv_goto (tgt := 80) hx hb dX3_next_132 (by decide) ?_
    exact hc80 hD (lv_sub hl [0] rfl) hF
def F_X3_next_l80 : Nat → xT → Nat → Option (xT)
  | 0, _, _ => none
  | nn + 1, u, a0 => if tK u a0 = 3 then if (tI u a0 4) ≤ (tI u a0 6) then F_X3_next_j135 u a0 else if (tI u a0 2) = (1 : Int32) then F_X3_next_j107 (F_X3_next_l80 nn) u a0 else if (tI u a0 2) = (2 : Int32) then F_X3_next_j107 (F_X3_next_l80 nn) u a0 else F_X3_next_j135 u a0 else none
theorem L_X3_next_l80 {p : Program} {l : Launch} {e : Env} {s : State} {m : MethodId} {args : Array Value} {below : List Frame} {meth : Method} {cd : Code} {G : xG} {w0 : xW} {rr : (xT)} (hE : xE p s m args meth cd cX3_next RX3 G 1 (Option.none : Option Jvm.ClassFile.FieldType)) : ∀ (nn : Nat) {u : xT} {a0 : Nat} {H : Heap} {locs : List Loc} {ls : Array Slot} , tD G (xA w0 s.heap.size) s.heap u H locs → lv_has ls 1 [(0, .ref a0)] → F_X3_next_l80 nn u a0 = some rr → W p l e (xR 3 0 0) s m args below meth cd H locs 0 0 (xQv G w0 (fun z => z = ((tE G rr), rr.1)) below args s 0 0) (F0 m 80 ls []) := by
  have hx := hE.1; have hb := hE.2.1
  intro nn
  induction nn with
  | zero => intro u a0 H locs ls hD hl hF; rw [F_X3_next_l80] at hF; cases hF
  | succ nn ih =>
    intro u a0 H locs ls hD hl hF
    rw [F_X3_next_l80] at hF
    refine lv_aload_n hx hb dX3_next_80 rfl (lv_at hl 0 rfl) ?_
    obtain ⟨h7, hF⟩ := ite_s hF
    refine gf_X3_28 hE hD h7 dX3_next_81 ?_
    refine lv_aload_n hx hb dX3_next_84 rfl (lv_at hl 0 rfl) ?_
    refine gf_X3_35 hE hD h7 dX3_next_85 ?_
    refine lv_icmp_ge (tgt := 135) hx hb dX3_next_88 (by decide) (fun c8 => ?_) (fun c8 => ?_)
    · have hF := ite_p hF c8
      exact B_X3_next_j135 hE hD (lv_sub hl [0] rfl) hF
    · have hF := ite_n hF c8
      refine lv_aload_n hx hb dX3_next_91 rfl (lv_at hl 0 rfl) ?_
      refine gf_X3_22 hE hD h7 dX3_next_92 ?_
      refine lv_iconst (v := (1 : Int32)) hx hb dX3_next_95 (by decide) ?_
      refine lv_icmp_eq (tgt := 107) hx hb dX3_next_96 (by decide) (fun c9 => ?_) (fun c9 => ?_)
      · have hF := ite_p hF c9
        exact B_X3_next_j107 hE (F_X3_next_l80 nn) ih hD (lv_sub hl [0] rfl) hF
      · have hF := ite_n hF c9
        refine lv_aload_n hx hb dX3_next_99 rfl (lv_at hl 0 rfl) ?_
        refine gf_X3_22 hE hD h7 dX3_next_100 ?_
        refine lv_iconst (v := (2 : Int32)) hx hb dX3_next_103 (by decide) ?_
        refine lv_icmp_ne (tgt := 135) hx hb dX3_next_104 (by decide) (fun c10 => ?_) (fun c10 => ?_)
        · have hF := ite_n hF c10
          exact B_X3_next_j135 hE hD (lv_sub hl [0] rfl) hF
        · have hF := ite_p hF c10
          exact B_X3_next_j107 hE (F_X3_next_l80 nn) ih hD (lv_sub hl [0] rfl) hF
def F_X3_next_j77 (u : xT) (a0 : Nat) (s0 : Nat) (s1 : Int32) : Option (xT) := if tK u s0 = 3 then xlet (tSI u s0 6 s1) (fun t12 => F_X3_next_l80 xFuel t12 a0) else none
theorem B_X3_next_j77 {p : Program} {l : Launch} {e : Env} {s : State} {m : MethodId} {args : Array Value} {below : List Frame} {meth : Method} {cd : Code} {G : xG} {w0 : xW} {rr : (xT)} (hE : xE p s m args meth cd cX3_next RX3 G 1 (Option.none : Option Jvm.ClassFile.FieldType)) {u : xT} {a0 : Nat} {s0 : Nat} {s1 : Int32} {H : Heap} {locs : List Loc} {ls : Array Slot} (hD : tD G (xA w0 s.heap.size) s.heap u H locs) (hl : lv_has ls 1 [(0, .ref a0)]) (hF : F_X3_next_j77 u a0 s0 s1 = some rr) : W p l e (xR 3 0 0) s m args below meth cd H locs 0 0 (xQv G w0 (fun z => z = ((tE G rr), rr.1)) below args s 0 0) (F0 m 77 ls [.int s1, .ref s0]) := by
  have hx := hE.1; have hb := hE.2.1
  unfold F_X3_next_j77 at hF
  obtain ⟨h11, hF⟩ := ite_s hF
  refine pf_X3_28 hE hD h11 dX3_next_77 (fun t12 H locs et12 hD => ?_)
  have hF := xlet_e hF et12
  have h13 : tK t12 s0 = 3 := by rw [et12]; exact h11
  exact L_X3_next_l80 hE _ hD (lv_sub hl [0] rfl) hF
def F_X3_next_j44 (u : xT) (a0 : Nat) : Option (xT) := if tK u a0 = 3 then (F_X3_sortAt u a0 (tI u a0 5)).bind (fun r15 => xlet (tSI u a0 2 r15) (fun t17 => if (tI t17 a0 2) = 0 then F_X3_next_j77 t17 a0 a0 (tI t17 a0 5) else F_X3_next_j77 t17 a0 a0 ((tI t17 a0 5) + (1 : Int32)))) else none
theorem B_X3_next_j44 {p : Program} {l : Launch} {e : Env} {s : State} {m : MethodId} {args : Array Value} {below : List Frame} {meth : Method} {cd : Code} {G : xG} {w0 : xW} {rr : (xT)} (hE : xE p s m args meth cd cX3_next RX3 G 1 (Option.none : Option Jvm.ClassFile.FieldType)) {u : xT} {a0 : Nat} {H : Heap} {locs : List Loc} {ls : Array Slot} (hD : tD G (xA w0 s.heap.size) s.heap u H locs) (hl : lv_has ls 1 [(0, .ref a0)]) (hF : F_X3_next_j44 u a0 = some rr) : W p l e (xR 3 0 0) s m args below meth cd H locs 0 0 (xQv G w0 (fun z => z = ((tE G rr), rr.1)) below args s 0 0) (F0 m 44 ls []) := by
  have hx := hE.1; have hb := hE.2.1
  unfold F_X3_next_j44 at hF
  refine lv_aload_n hx hb dX3_next_44 rfl (lv_at hl 0 rfl) ?_
  refine lv_aload_n hx hb dX3_next_45 rfl (lv_at hl 0 rfl) ?_
  refine lv_aload_n hx hb dX3_next_46 rfl (lv_at hl 0 rfl) ?_
  obtain ⟨h14, hF⟩ := ite_s hF
  refine gf_X3_25 hE hD h14 dX3_next_47 ?_
  obtain ⟨r15, k16, hF⟩ := xb_s hF
  refine kVi (As := [.int (tI u a0 5)]) (rest := [.ref a0]) hE hl hD (c_X3_sortAt k16) kl_X3_38 (tE_3 h14) rfl rfl rfl rfl (Nat.le_of_ble_eq_true rfl) dX3_next_50 ⟨Nat.le_of_ble_eq_true rfl, Nat.le_of_ble_eq_true rfl⟩ ⟨Nat.le_of_ble_eq_true rfl, Nat.le_of_ble_eq_true rfl⟩ (fun H locs (hD : tD G _ _ u H locs) => ?_)
  refine pf_X3_22 hE hD h14 dX3_next_53 (fun t17 H locs et17 hD => ?_)
  have hF := xlet_e hF et17
  have h18 : tK t17 a0 = 3 := by rw [et17]; exact h14
  refine lv_aload_n hx hb dX3_next_56 rfl (lv_at hl 0 rfl) ?_
  refine lv_aload_n hx hb dX3_next_57 rfl (lv_at hl 0 rfl) ?_
  refine gf_X3_22 hE hD h18 dX3_next_58 ?_
  refine lv_if_ne (tgt := 71) hx hb dX3_next_61 (by decide) (fun c19 => ?_) (fun c19 => ?_)
  · have hF := ite_n hF c19
    refine lv_aload_n hx hb dX3_next_71 rfl (lv_at hl 0 rfl) ?_
    refine gf_X3_25 hE hD h18 dX3_next_72 ?_
    refine lv_iconst (v := (1 : Int32)) hx hb dX3_next_75 (by decide) ?_
    refine lv_iadd hx hb dX3_next_76 ?_
    exact B_X3_next_j77 hE hD (lv_sub hl [0] rfl) hF
  · have hF := ite_p hF c19
    refine lv_aload_n hx hb dX3_next_64 rfl (lv_at hl 0 rfl) ?_
    refine gf_X3_25 hE hD h18 dX3_next_65 ?_
    refine lv_goto (tgt := 77) hx hb dX3_next_68 (by decide) ?_
    exact B_X3_next_j77 hE hD (lv_sub hl [0] rfl) hF
def F_X3_next_l8 : Nat → xT → Nat → Option (xT)
  | 0, _, _ => none
  | nn + 1, u, a0 => if tK u a0 = 3 then if (tI u a0 4) ≤ (tI u a0 5) then F_X3_next_j44 u a0 else (F_X3_sortAt u a0 (tI u a0 5)).bind (fun r22 => if r22 = (4 : Int32) then xlet (tSI u a0 5 ((tI u a0 5) + (1 : Int32))) (fun t25 => F_X3_next_l8 nn t25 a0) else F_X3_next_j44 u a0) else none
theorem L_X3_next_l8 {p : Program} {l : Launch} {e : Env} {s : State} {m : MethodId} {args : Array Value} {below : List Frame} {meth : Method} {cd : Code} {G : xG} {w0 : xW} {rr : (xT)} (hE : xE p s m args meth cd cX3_next RX3 G 1 (Option.none : Option Jvm.ClassFile.FieldType)) : ∀ (nn : Nat) {u : xT} {a0 : Nat} {H : Heap} {locs : List Loc} {ls : Array Slot} , tD G (xA w0 s.heap.size) s.heap u H locs → lv_has ls 1 [(0, .ref a0)] → F_X3_next_l8 nn u a0 = some rr → W p l e (xR 3 0 0) s m args below meth cd H locs 0 0 (xQv G w0 (fun z => z = ((tE G rr), rr.1)) below args s 0 0) (F0 m 8 ls []) := by
  have hx := hE.1; have hb := hE.2.1
  intro nn
  induction nn with
  | zero => intro u a0 H locs ls hD hl hF; rw [F_X3_next_l8] at hF; cases hF
  | succ nn ih =>
    intro u a0 H locs ls hD hl hF
    rw [F_X3_next_l8] at hF
    refine lv_aload_n hx hb dX3_next_8 rfl (lv_at hl 0 rfl) ?_
    obtain ⟨h20, hF⟩ := ite_s hF
    refine gf_X3_25 hE hD h20 dX3_next_9 ?_
    refine lv_aload_n hx hb dX3_next_12 rfl (lv_at hl 0 rfl) ?_
    refine gf_X3_35 hE hD h20 dX3_next_13 ?_
    refine lv_icmp_ge (tgt := 44) hx hb dX3_next_16 (by decide) (fun c21 => ?_) (fun c21 => ?_)
    · have hF := ite_p hF c21
      exact B_X3_next_j44 hE hD (lv_sub hl [0] rfl) hF
    · have hF := ite_n hF c21
      refine lv_aload_n hx hb dX3_next_19 rfl (lv_at hl 0 rfl) ?_
      refine lv_aload_n hx hb dX3_next_20 rfl (lv_at hl 0 rfl) ?_
      refine gf_X3_25 hE hD h20 dX3_next_21 ?_
      obtain ⟨r22, k23, hF⟩ := xb_s hF
      refine kVi (As := [.int (tI u a0 5)]) (rest := []) hE hl hD (c_X3_sortAt k23) kl_X3_38 (tE_3 h20) rfl rfl rfl rfl (Nat.le_of_ble_eq_true rfl) dX3_next_24 ⟨Nat.le_of_ble_eq_true rfl, Nat.le_of_ble_eq_true rfl⟩ ⟨Nat.le_of_ble_eq_true rfl, Nat.le_of_ble_eq_true rfl⟩ (fun H locs (hD : tD G _ _ u H locs) => ?_)
      refine lv_iconst (v := (4 : Int32)) hx hb dX3_next_27 (by decide) ?_
      refine lv_icmp_ne (tgt := 44) hx hb dX3_next_28 (by decide) (fun c24 => ?_) (fun c24 => ?_)
      · have hF := ite_n hF c24
        exact B_X3_next_j44 hE hD (lv_sub hl [0] rfl) hF
      · have hF := ite_p hF c24
        refine lv_aload_n hx hb dX3_next_31 rfl (lv_at hl 0 rfl) ?_
        refine lv_dup hx hb dX3_next_32 rfl ?_
        refine gf_X3_25 hE hD h20 dX3_next_33 ?_
        refine lv_iconst (v := (1 : Int32)) hx hb dX3_next_36 (by decide) ?_
        refine lv_iadd hx hb dX3_next_37 ?_
        refine pf_X3_25 hE hD h20 dX3_next_38 (fun t25 H locs et25 hD => ?_)
        have hF := xlet_e hF et25
        have h26 : tK t25 a0 = 3 := by rw [et25]; exact h20
        refine lv_goto (tgt := 8) hx hb dX3_next_41 (by decide) ?_
        exact ih hD (lv_sub hl [0] rfl) hF
def F_X3_next (u : xT) (a0 : Nat) : Option (xT) := if tK u a0 = 3 then xlet (tSI u a0 5 (tI u a0 6)) (fun t28 => F_X3_next_l8 xFuel t28 a0) else none
theorem c_X3_next {l : Launch} {G : xG} {rr : (xT)} {u : xT} {a0 : Nat} (hF : F_X3_next u a0 = some rr) : xMv l G yX3_next cX3_next 1 (Option.none : Option Jvm.ClassFile.FieldType) 3 0 0 [.ref a0] (tE G u) u.1 (fun z => z = ((tE G rr), rr.1)) := by
  unfold F_X3_next at hF
  refine x_startV rfl (Nat.le_of_ble_eq_true rfl) (fun p e s m args below meth cd ls hE hnm hl hD => ?_)
  have hx := hE.1; have hb := hE.2.1
  have hl : lv_has ls 1 [(0, .ref a0)] := hl
  have hD : tD G (xA (tE G u) s.heap.size) s.heap u s.heap [] := hD
  refine lv_aload_n hx hb dX3_next_0 rfl (lv_at hl 0 rfl) ?_
  refine lv_aload_n hx hb dX3_next_1 rfl (lv_at hl 0 rfl) ?_
  obtain ⟨h27, hF⟩ := ite_s hF
  refine gf_X3_28 hE hD h27 dX3_next_2 ?_
  refine pf_X3_25 hE hD h27 dX3_next_5 (fun t28 H locs et28 hD => ?_)
  have hF := xlet_e hF et28
  have h29 : tK t28 a0 = 3 := by rw [et28]; exact h27
  exact L_X3_next_l8 hE _ hD (lv_sub hl [0] rfl) hF
def F_X3_refuse (u : xT) (a0 : Nat) : Option (Int32 × xT) := if tK u a0 = 3 then xlet (tSI u a0 1 (tI u a0 5)) (fun t2 => some ((0 : Int32), t2)) else none
theorem c_X3_refuse {l : Launch} {G : xG} {rr : (Int32 × xT)} {u : xT} {a0 : Nat} (hF : F_X3_refuse u a0 = some rr) : xMi l G yX3_refuse cX3_refuse 1 (Option.some Jvm.ClassFile.FieldType.boolean) 2 0 0 [.ref a0] (tE G u) u.1 (fun r z => r = rr.1 ∧ (rr.1 = 0 ∨ rr.1 = 1) ∧ z = ((tE G rr.2), rr.2.1)) := by
  unfold F_X3_refuse at hF
  refine x_startI rfl (Nat.le_of_ble_eq_true rfl) (fun p e s m args below meth cd ls hE hnm hl hD => ?_)
  have hx := hE.1; have hb := hE.2.1
  have hl : lv_has ls 1 [(0, .ref a0)] := hl
  have hD : tD G (xA (tE G u) s.heap.size) s.heap u s.heap [] := hD
  refine lv_aload_n hx hb dX3_refuse_0 rfl (lv_at hl 0 rfl) ?_
  refine lv_aload_n hx hb dX3_refuse_1 rfl (lv_at hl 0 rfl) ?_
  obtain ⟨h1, hF⟩ := ite_s hF
  refine gf_X3_25 hE hD h1 dX3_refuse_2 ?_
  refine pf_X3_18 hE hD h1 dX3_refuse_5 (fun t2 H locs et2 hD => ?_)
  have hF := xlet_e hF et2
  have h3 : tK t2 a0 = 3 := by rw [et2]; exact h1
  refine lv_iconst (v := (0 : Int32)) hx hb dX3_refuse_8 (by decide) ?_
  obtain rfl := Option.some.inj hF
  exact x_zret hE hD (show (0 : Int32) = 0 ∨ (0 : Int32) = 1 by decide) ⟨rfl, (show (0 : Int32) = 0 ∨ (0 : Int32) = 1 by decide), rfl⟩ (by omega) (by omega) dX3_refuse_9
def F_X3_numberHere_j72 (u : xT) (a0 : Nat) (y1 : Int32) : Option Int32 := some y1
theorem B_X3_numberHere_j72 {p : Program} {l : Launch} {e : Env} {s : State} {m : MethodId} {args : Array Value} {below : List Frame} {meth : Method} {cd : Code} {G : xG} {w0 : xW} {rr : Int32} (hE : xE p s m args meth cd cX3_numberHere RX3 G 3 (Option.some Jvm.ClassFile.FieldType.int)) {u : xT} {a0 : Nat} {y1 : Int32} {H : Heap} {locs : List Loc} {ls : Array Slot} (hD : tD G (xA w0 s.heap.size) s.heap u H locs) (hl : lv_has ls 3 [(0, .ref a0), (1, .int y1)]) (hF : F_X3_numberHere_j72 u a0 y1 = some rr) : W p l e (xR 2 0 0) s m args below meth cd H locs 0 0 (xQi G w0 (fun r z => r = rr ∧ z = ((tE G u), u.1)) below args s 0 0) (F0 m 72 ls []) := by
  have hx := hE.1; have hb := hE.2.1
  unfold F_X3_numberHere_j72 at hF
  refine lv_iload_n hx hb dX3_numberHere_72 rfl (lv_at hl 1 rfl) ?_
  obtain rfl := Option.some.inj hF
  exact x_iret hE hD ⟨rfl, rfl⟩ (by omega) (by omega) dX3_numberHere_73
def F_X3_numberHere_l30 : Nat → xT → Nat → Int32 → Int32 → Option Int32
  | 0, _, _, _, _ => none
  | nn + 1, u, a0, y1, y2 => if y2 < 0 then F_X3_numberHere_j72 u a0 y1 else if tK u a0 = 3 then if (tI u a0 6) ≤ y2 then F_X3_numberHere_j72 u a0 y1 else (tP u a0 3).bind (fun q4 => if tK u q4 = 20 then if (nI (tN u q4)) ≤ y2 then F_X3_numberHere_j72 u a0 y1 else (tP u a0 3).bind (fun q8 => if tK u q8 = 20 then if xIn y2 (tN u q8) then xlet (((y1 * (10 : Int32)) + (tI u q8 y2.toNatClampNeg)) - (48 : Int32)) (fun x12 => xlet (y2 + (1 : Int32)) (fun x13 => F_X3_numberHere_l30 nn u a0 x12 x13)) else none else none) else none) else none
theorem L_X3_numberHere_l30 {p : Program} {l : Launch} {e : Env} {s : State} {m : MethodId} {args : Array Value} {below : List Frame} {meth : Method} {cd : Code} {G : xG} {w0 : xW} {rr : Int32} (hE : xE p s m args meth cd cX3_numberHere RX3 G 3 (Option.some Jvm.ClassFile.FieldType.int)) : ∀ (nn : Nat) {u : xT} {a0 : Nat} {y1 : Int32} {y2 : Int32} {H : Heap} {locs : List Loc} {ls : Array Slot} , tD G (xA w0 s.heap.size) s.heap u H locs → lv_has ls 3 [(0, .ref a0), (1, .int y1), (2, .int y2)] → F_X3_numberHere_l30 nn u a0 y1 y2 = some rr → W p l e (xR 2 0 0) s m args below meth cd H locs 0 0 (xQi G w0 (fun r z => r = rr ∧ z = ((tE G u), u.1)) below args s 0 0) (F0 m 30 ls []) := by
  have hx := hE.1; have hb := hE.2.1
  intro nn
  induction nn with
  | zero => intro u a0 y1 y2 H locs ls hD hl hF; rw [F_X3_numberHere_l30] at hF; cases hF
  | succ nn ih =>
    intro u a0 y1 y2 H locs ls hD hl hF
    rw [F_X3_numberHere_l30] at hF
    refine lv_iload_n hx hb dX3_numberHere_30 rfl (lv_at hl 2 rfl) ?_
    refine lv_if_lt (tgt := 72) hx hb dX3_numberHere_31 (by decide) (fun c1 => ?_) (fun c1 => ?_)
    · have hF := ite_p hF c1
      exact B_X3_numberHere_j72 hE hD (lv_sub hl [0, 1] rfl) hF
    · have hF := ite_n hF c1
      refine lv_iload_n hx hb dX3_numberHere_34 rfl (lv_at hl 2 rfl) ?_
      refine lv_aload_n hx hb dX3_numberHere_35 rfl (lv_at hl 0 rfl) ?_
      obtain ⟨h2, hF⟩ := ite_s hF
      refine gf_X3_28 hE hD h2 dX3_numberHere_36 ?_
      refine lv_icmp_ge (tgt := 72) hx hb dX3_numberHere_39 (by decide) (fun c3 => ?_) (fun c3 => ?_)
      · have hF := ite_p hF c3
        exact B_X3_numberHere_j72 hE hD (lv_sub hl [0, 1] rfl) hF
      · have hF := ite_n hF c3
        refine lv_iload_n hx hb dX3_numberHere_42 rfl (lv_at hl 2 rfl) ?_
        refine lv_aload_n hx hb dX3_numberHere_43 rfl (lv_at hl 0 rfl) ?_
        obtain ⟨q4, h5, hF⟩ := xb_s hF
        refine gr_X3_31 hE hD h2 h5 dX3_numberHere_44 ?_
        obtain ⟨h6, hF⟩ := ite_s hF
        refine t_alen hE hD h6 dX3_numberHere_47 ?_
        refine lv_icmp_ge (tgt := 72) hx hb dX3_numberHere_48 (by decide) (fun c7 => ?_) (fun c7 => ?_)
        · have hF := ite_p hF c7
          exact B_X3_numberHere_j72 hE hD (lv_sub hl [0, 1] rfl) hF
        · have hF := ite_n hF c7
          refine lv_iload_n hx hb dX3_numberHere_51 rfl (lv_at hl 1 rfl) ?_
          refine lv_bipush (v := (10 : Int32)) hx hb dX3_numberHere_52 (by decide) ?_
          refine lv_imul hx hb dX3_numberHere_54 ?_
          refine lv_aload_n hx hb dX3_numberHere_55 rfl (lv_at hl 0 rfl) ?_
          obtain ⟨q8, h9, hF⟩ := xb_s hF
          refine gr_X3_31 hE hD h2 h9 dX3_numberHere_56 ?_
          refine lv_iload_n hx hb dX3_numberHere_59 rfl (lv_at hl 2 rfl) ?_
          obtain ⟨h10, hF⟩ := ite_s hF
          obtain ⟨h11, hF⟩ := ite_s hF
          refine t_iald hE hD h10 h11 dX3_numberHere_60 ?_
          refine lv_iadd hx hb dX3_numberHere_61 ?_
          refine lv_bipush (v := (48 : Int32)) hx hb dX3_numberHere_62 (by decide) ?_
          refine lv_isub hx hb dX3_numberHere_64 ?_
          refine lv_topi (fun x12 ex12 => ?_)
          have hF := xlet_e hF ex12
          refine lv_istore_n (lv' := [(1, .int x12), (0, .ref a0), (2, .int y2)]) hx hb dX3_numberHere_65 rfl hl (by decide) rfl (fun ls hl => ?_)
          obtain ⟨x13, ex13⟩ : ∃ y : Int32, y = y2 + (1 : Int32) := ⟨_, rfl⟩
          have hF := xlet_e hF ex13
          refine lv_iinc (v := x13) (lv' := [(2, .int x13), (1, .int x12), (0, .ref a0)]) hx hb dX3_numberHere_66 hl (k := 2) rfl (by rw [ex13]; rfl) (by decide) rfl (fun ls hl => ?_)
          refine lv_goto (tgt := 30) hx hb dX3_numberHere_69 (by decide) ?_
          exact ih hD (lv_sub hl [2, 1, 0] rfl) hF
def F_X3_numberHere_j21 (u : xT) (a0 : Nat) : Option Int32 := some (-1 : Int32)
theorem B_X3_numberHere_j21 {p : Program} {l : Launch} {e : Env} {s : State} {m : MethodId} {args : Array Value} {below : List Frame} {meth : Method} {cd : Code} {G : xG} {w0 : xW} {rr : Int32} (hE : xE p s m args meth cd cX3_numberHere RX3 G 3 (Option.some Jvm.ClassFile.FieldType.int)) {u : xT} {a0 : Nat} {H : Heap} {locs : List Loc} {ls : Array Slot} (hD : tD G (xA w0 s.heap.size) s.heap u H locs) (hl : lv_has ls 3 [(0, .ref a0)]) (hF : F_X3_numberHere_j21 u a0 = some rr) : W p l e (xR 2 0 0) s m args below meth cd H locs 0 0 (xQi G w0 (fun r z => r = rr ∧ z = ((tE G u), u.1)) below args s 0 0) (F0 m 21 ls []) := by
  have hx := hE.1; have hb := hE.2.1
  unfold F_X3_numberHere_j21 at hF
  refine lv_iconst (v := (-1 : Int32)) hx hb dX3_numberHere_21 (by decide) ?_
  obtain rfl := Option.some.inj hF
  exact x_iret hE hD ⟨rfl, rfl⟩ (by omega) (by omega) dX3_numberHere_22
def F_X3_numberHere (u : xT) (a0 : Nat) : Option Int32 := if tK u a0 = 3 then if (tI u a0 2) = (2 : Int32) then if ((tI u a0 6) - (tI u a0 5)) ≤ (4 : Int32) then xlet (tI u a0 5) (fun x17 => F_X3_numberHere_l30 xFuel u a0 (0 : Int32) x17) else F_X3_numberHere_j21 u a0 else F_X3_numberHere_j21 u a0 else none
theorem c_X3_numberHere {l : Launch} {G : xG} {rr : Int32} {u : xT} {a0 : Nat} (hF : F_X3_numberHere u a0 = some rr) : xMi l G yX3_numberHere cX3_numberHere 3 (Option.some Jvm.ClassFile.FieldType.int) 2 0 0 [.ref a0] (tE G u) u.1 (fun r z => r = rr ∧ z = ((tE G u), u.1)) := by
  unfold F_X3_numberHere at hF
  refine x_startI rfl (Nat.le_of_ble_eq_true rfl) (fun p e s m args below meth cd ls hE hnm hl hD => ?_)
  have hx := hE.1; have hb := hE.2.1
  have hl : lv_has ls 3 [(0, .ref a0)] := hl
  have hD : tD G (xA (tE G u) s.heap.size) s.heap u s.heap [] := hD
  refine lv_aload_n hx hb dX3_numberHere_0 rfl (lv_at hl 0 rfl) ?_
  obtain ⟨h14, hF⟩ := ite_s hF
  refine gf_X3_22 hE hD h14 dX3_numberHere_1 ?_
  refine lv_iconst (v := (2 : Int32)) hx hb dX3_numberHere_4 (by decide) ?_
  refine lv_icmp_ne (tgt := 21) hx hb dX3_numberHere_5 (by decide) (fun c15 => ?_) (fun c15 => ?_)
  · have hF := ite_n hF c15
    exact B_X3_numberHere_j21 hE hD (lv_sub hl [0] rfl) hF
  · have hF := ite_p hF c15
    refine lv_aload_n hx hb dX3_numberHere_8 rfl (lv_at hl 0 rfl) ?_
    refine gf_X3_28 hE hD h14 dX3_numberHere_9 ?_
    refine lv_aload_n hx hb dX3_numberHere_12 rfl (lv_at hl 0 rfl) ?_
    refine gf_X3_25 hE hD h14 dX3_numberHere_13 ?_
    refine lv_isub hx hb dX3_numberHere_16 ?_
    refine lv_iconst (v := (4 : Int32)) hx hb dX3_numberHere_17 (by decide) ?_
    refine lv_icmp_le (tgt := 23) hx hb dX3_numberHere_18 (by decide) (fun c16 => ?_) (fun c16 => ?_)
    · have hF := ite_p hF c16
      refine lv_iconst (v := (0 : Int32)) hx hb dX3_numberHere_23 (by decide) ?_
      refine lv_istore_n (lv' := [(1, .int (0 : Int32)), (0, .ref a0)]) hx hb dX3_numberHere_24 rfl hl (by decide) rfl (fun ls hl => ?_)
      refine lv_aload_n hx hb dX3_numberHere_25 rfl (lv_at hl 1 rfl) ?_
      refine gf_X3_25 hE hD h14 dX3_numberHere_26 ?_
      refine lv_topi (fun x17 ex17 => ?_)
      have hF := xlet_e hF ex17
      refine lv_istore_n (lv' := [(2, .int x17), (1, .int (0 : Int32)), (0, .ref a0)]) hx hb dX3_numberHere_29 rfl hl (by decide) rfl (fun ls hl => ?_)
      exact L_X3_numberHere_l30 hE _ hD (lv_sub hl [2, 1, 0] rfl) hF
    · have hF := ite_n hF c16
      exact B_X3_numberHere_j21 hE hD (lv_sub hl [0] rfl) hF
def F_X3_isByte_j45 (u : xT) (a0 : Nat) (s0 : Int32) : Option Int32 := if s0 = 0 ∨ s0 = 1 then some s0 else none
theorem B_X3_isByte_j45 {p : Program} {l : Launch} {e : Env} {s : State} {m : MethodId} {args : Array Value} {below : List Frame} {meth : Method} {cd : Code} {G : xG} {w0 : xW} {rr : Int32} (hE : xE p s m args meth cd cX3_isByte RX3 G 2 (Option.some Jvm.ClassFile.FieldType.boolean)) {u : xT} {a0 : Nat} {s0 : Int32} {H : Heap} {locs : List Loc} {ls : Array Slot} (hD : tD G (xA w0 s.heap.size) s.heap u H locs) (hl : lv_has ls 2 [(0, .ref a0)]) (hF : F_X3_isByte_j45 u a0 s0 = some rr) : W p l e (xR 2 0 0) s m args below meth cd H locs 0 0 (xQi G w0 (fun r z => r = rr ∧ (rr = 0 ∨ rr = 1) ∧ z = ((tE G u), u.1)) below args s 0 0) (F0 m 45 ls [.int s0]) := by
  have hx := hE.1; have hb := hE.2.1
  unfold F_X3_isByte_j45 at hF
  obtain ⟨h1, hF⟩ := ite_s hF
  obtain rfl := Option.some.inj hF
  exact x_zret hE hD h1 ⟨rfl, h1, rfl⟩ (by omega) (by omega) dX3_isByte_45
def F_X3_isByte_j44 (u : xT) (a0 : Nat) : Option Int32 := F_X3_isByte_j45 u a0 (0 : Int32)
theorem B_X3_isByte_j44 {p : Program} {l : Launch} {e : Env} {s : State} {m : MethodId} {args : Array Value} {below : List Frame} {meth : Method} {cd : Code} {G : xG} {w0 : xW} {rr : Int32} (hE : xE p s m args meth cd cX3_isByte RX3 G 2 (Option.some Jvm.ClassFile.FieldType.boolean)) {u : xT} {a0 : Nat} {H : Heap} {locs : List Loc} {ls : Array Slot} (hD : tD G (xA w0 s.heap.size) s.heap u H locs) (hl : lv_has ls 2 [(0, .ref a0)]) (hF : F_X3_isByte_j44 u a0 = some rr) : W p l e (xR 2 0 0) s m args below meth cd H locs 0 0 (xQi G w0 (fun r z => r = rr ∧ (rr = 0 ∨ rr = 1) ∧ z = ((tE G u), u.1)) below args s 0 0) (F0 m 44 ls []) := by
  have hx := hE.1; have hb := hE.2.1
  unfold F_X3_isByte_j44 at hF
  refine lv_iconst (v := (0 : Int32)) hx hb dX3_isByte_44 (by decide) ?_
  exact B_X3_isByte_j45 hE hD (lv_sub hl [0] rfl) hF
def F_X3_isByte (u : xT) (a0 : Nat) (xa : Int32) : Option Int32 := if tK u a0 = 3 then if (tI u a0 2) = (3 : Int32) then if (tI u a0 5) < 0 then F_X3_isByte_j44 u a0 else (tP u a0 3).bind (fun q5 => if tK u q5 = 20 then if (nI (tN u q5)) ≤ (tI u a0 5) then F_X3_isByte_j44 u a0 else (tP u a0 3).bind (fun q9 => if tK u q9 = 20 then if xIn (tI u a0 5) (tN u q9) then if (tI u q9 (tI u a0 5).toNatClampNeg) = xa then F_X3_isByte_j45 u a0 (1 : Int32) else F_X3_isByte_j44 u a0 else none else none) else none) else F_X3_isByte_j44 u a0 else none
theorem c_X3_isByte {l : Launch} {G : xG} {rr : Int32} {u : xT} {a0 : Nat} {xa : Int32} (hF : F_X3_isByte u a0 xa = some rr) : xMi l G yX3_isByte cX3_isByte 2 (Option.some Jvm.ClassFile.FieldType.boolean) 2 0 0 [.ref a0, .int xa] (tE G u) u.1 (fun r z => r = rr ∧ (rr = 0 ∨ rr = 1) ∧ z = ((tE G u), u.1)) := by
  unfold F_X3_isByte at hF
  refine x_startI rfl (Nat.le_of_ble_eq_true rfl) (fun p e s m args below meth cd ls hE hnm hl hD => ?_)
  have hx := hE.1; have hb := hE.2.1
  have hl : lv_has ls 2 [(0, .ref a0), (1, .int xa)] := hl
  have hD : tD G (xA (tE G u) s.heap.size) s.heap u s.heap [] := hD
  refine lv_aload_n hx hb dX3_isByte_0 rfl (lv_at hl 0 rfl) ?_
  obtain ⟨h2, hF⟩ := ite_s hF
  refine gf_X3_22 hE hD h2 dX3_isByte_1 ?_
  refine lv_iconst (v := (3 : Int32)) hx hb dX3_isByte_4 (by decide) ?_
  refine lv_icmp_ne (tgt := 44) hx hb dX3_isByte_5 (by decide) (fun c3 => ?_) (fun c3 => ?_)
  · have hF := ite_n hF c3
    exact B_X3_isByte_j44 hE hD (lv_sub hl [0] rfl) hF
  · have hF := ite_p hF c3
    refine lv_aload_n hx hb dX3_isByte_8 rfl (lv_at hl 0 rfl) ?_
    refine gf_X3_25 hE hD h2 dX3_isByte_9 ?_
    refine lv_if_lt (tgt := 44) hx hb dX3_isByte_12 (by decide) (fun c4 => ?_) (fun c4 => ?_)
    · have hF := ite_p hF c4
      exact B_X3_isByte_j44 hE hD (lv_sub hl [0] rfl) hF
    · have hF := ite_n hF c4
      refine lv_aload_n hx hb dX3_isByte_15 rfl (lv_at hl 0 rfl) ?_
      refine gf_X3_25 hE hD h2 dX3_isByte_16 ?_
      refine lv_aload_n hx hb dX3_isByte_19 rfl (lv_at hl 0 rfl) ?_
      obtain ⟨q5, h6, hF⟩ := xb_s hF
      refine gr_X3_31 hE hD h2 h6 dX3_isByte_20 ?_
      obtain ⟨h7, hF⟩ := ite_s hF
      refine t_alen hE hD h7 dX3_isByte_23 ?_
      refine lv_icmp_ge (tgt := 44) hx hb dX3_isByte_24 (by decide) (fun c8 => ?_) (fun c8 => ?_)
      · have hF := ite_p hF c8
        exact B_X3_isByte_j44 hE hD (lv_sub hl [0] rfl) hF
      · have hF := ite_n hF c8
        refine lv_aload_n hx hb dX3_isByte_27 rfl (lv_at hl 0 rfl) ?_
        obtain ⟨q9, h10, hF⟩ := xb_s hF
        refine gr_X3_31 hE hD h2 h10 dX3_isByte_28 ?_
        refine lv_aload_n hx hb dX3_isByte_31 rfl (lv_at hl 0 rfl) ?_
        refine gf_X3_25 hE hD h2 dX3_isByte_32 ?_
        obtain ⟨h11, hF⟩ := ite_s hF
        obtain ⟨h12, hF⟩ := ite_s hF
        refine t_iald hE hD h11 h12 dX3_isByte_35 ?_
        refine lv_iload_n hx hb dX3_isByte_36 rfl (lv_at hl 1 rfl) ?_
        refine lv_icmp_ne (tgt := 44) hx hb dX3_isByte_37 (by decide) (fun c13 => ?_) (fun c13 => ?_)
        · have hF := ite_n hF c13
          exact B_X3_isByte_j44 hE hD (lv_sub hl [0] rfl) hF
        · have hF := ite_p hF c13
          refine lv_iconst (v := (1 : Int32)) hx hb dX3_isByte_40 (by decide) ?_
          refine lv_goto (tgt := 45) hx hb dX3_isByte_41 (by decide) ?_
          exact B_X3_isByte_j45 hE hD (lv_sub hl [0] rfl) hF
theorem kp_X4_25 : xLP RX4 25 ⟨"DoubledBridge$Egg", "shares", "(ILDoubledBridge$Trace;)I"⟩ yX1_shares cX1_shares 3 (Option.some Jvm.ClassFile.FieldType.int) 2 := ⟨List.forall_mem_cons.mpr ⟨kw5_108, List.forall_mem_cons.mpr ⟨kw8_48, List.forall_mem_cons.mpr ⟨kw2_76, List.forall_mem_cons.mpr ⟨kw5_101, List.forall_mem_cons.mpr ⟨kw1_9, List.forall_mem_cons.mpr ⟨kw5_102, fun _ h => absurd h List.not_mem_nil⟩⟩⟩⟩⟩⟩, rfl, rfl, Or.inl rfl, by decide, by decide +kernel⟩
theorem kQ_X4_25 {p : Program} {l : Launch} {e : Env} {R : Room} {s : State} {m : MethodId} {args : Array Value} {below : List Frame} {meth : Method} {c : Code} {H : Heap} {locs : List Loc} {cells slots : Nat} {Q : State → Prop} {cc : ByteArray} {pc : Nat} {ls : Array Slot} {rest : List Value} {G : xG} {A : Nat → Prop} {a nL : Nat} {H0 : Heap} {ret : Option FieldType} {t : xT} {lv : List (Nat × Value)} (hE : xE p s m args meth c cc RX4 G nL ret) (hl : lv_has ls nL lv) (hD : tD G A H0 t H locs) (hk : tK t a = 4) {xa : Int32} {xb : Nat} {v : (Int32) × xT} (hF : F_X1_shares t a xa xb = some v) (hr : (rest.map fun v => v.category).sum ≤ 8) (hdg : decode cc pc = .ok (.invokespecial 25, 3)) (hR : 4 + 1 ≤ R.frames ∧ 8 + (3 + 11) + 40 * 4 ≤ R.locals) (hR2 : cells ≤ R.cells ∧ slots ≤ R.slots) (kk : ∀ (H1 : Heap) (locs1 : List Loc), tD G A H0 v.2 H1 locs1 → W p l e R s m args below meth c H1 locs1 cells slots Q (F0 m (pc + 3) ls (.int v.1 :: rest))) : W p l e R s m args below meth c H locs cells slots Q (F0 m pc ls (.ref xb :: .int xa :: .ref a :: rest)) := by
  have h := hk
  exact kPi (As := [.int xa, .ref xb]) (rest := rest) hE hl hD (c_X1_shares hF) kp_X4_25 (tE_4 h) rfl rfl rfl hr hdg hR hR2 kk
theorem ku_X4_31_4 : xLU RX4 RX4 "DoubledBridge$Bridge" 31 ⟨"DoubledBridge$Market", "makes", "(ILDoubledBridge$Trace;)I"⟩ yX0_makes cX0_makes 3 (Option.some Jvm.ClassFile.FieldType.int) 2 := ⟨List.forall_mem_cons.mpr ⟨kw5_109, List.forall_mem_cons.mpr ⟨kw5_110, List.forall_mem_cons.mpr ⟨kw5_111, List.forall_mem_cons.mpr ⟨kw5_55, List.forall_mem_cons.mpr ⟨kw1_6, List.forall_mem_cons.mpr ⟨kw5_75, fun _ h => absurd h List.not_mem_nil⟩⟩⟩⟩⟩⟩, Or.inl rfl, by decide, by decide, by decide +kernel⟩
theorem kB_X4_31 {p : Program} {l : Launch} {e : Env} {R : Room} {s : State} {m : MethodId} {args : Array Value} {below : List Frame} {meth : Method} {c : Code} {H : Heap} {locs : List Loc} {cells slots : Nat} {Q : State → Prop} {cc : ByteArray} {pc : Nat} {ls : Array Slot} {rest : List Value} {G : xG} {A : Nat → Prop} {a nL : Nat} {H0 : Heap} {ret : Option FieldType} {t : xT} {lv : List (Nat × Value)} (hE : xE p s m args meth c cc RX4 G nL ret) (hl : lv_has ls nL lv) (hD : tD G A H0 t H locs) (hk : tK t a = 4) {xa : Int32} {xb : Nat} {v : (Int32) × xT} (hF : F_X0_makes t a xa xb = some v) (hr : (rest.map fun v => v.category).sum ≤ 8) (hdg : decode cc pc = .ok (.invokevirtual 31, 3)) (hR : 3 + 1 ≤ R.frames ∧ 8 + (3 + 11) + 40 * 3 ≤ R.locals) (hR2 : cells ≤ R.cells ∧ slots ≤ R.slots) (kk : ∀ (H1 : Heap) (locs1 : List Loc), tD G A H0 v.2 H1 locs1 → W p l e R s m args below meth c H1 locs1 cells slots Q (F0 m (pc + 3) ls (.int v.1 :: rest))) : W p l e R s m args below meth c H locs cells slots Q (F0 m pc ls (.ref xb :: .int xa :: .ref a :: rest)) := by
  have h := hk
  exact kUi (As := [.int xa, .ref xb]) (rest := rest) hE hl hD (c_X0_makes hF) ku_X4_31_4 (tE_4 h) rfl rfl rfl rfl hr hdg ⟨by have := hR.1; omega, by have := hR.2; omega⟩ hR2 kk
def F_X4_shares (u : xT) (a0 : Nat) (xa : Int32) (xb : Nat) : Option (Int32 × xT) := if tK u xb = 10 then (F_X10_begin u xb (61 : Int32)).bind (fun r2 => if tK r2 a0 = 4 then (F_X1_shares r2 a0 xa xb).bind (fun r5 => if tK r5.2 a0 = 4 then (F_X0_makes r5.2 a0 (tI r5.2 a0 4) xb).bind (fun r8 => some (r5.1 + r8.1, r8.2)) else none) else none) else none
theorem c_X4_shares {l : Launch} {G : xG} {rr : (Int32 × xT)} {u : xT} {a0 : Nat} {xa : Int32} {xb : Nat} (hF : F_X4_shares u a0 xa xb = some rr) : xMi l G yX4_shares cX4_shares 3 (Option.some Jvm.ClassFile.FieldType.int) 5 0 0 [.ref a0, .int xa, .ref xb] (tE G u) u.1 (fun r z => r = rr.1 ∧ z = ((tE G rr.2), rr.2.1)) := by
  unfold F_X4_shares at hF
  refine x_startI rfl (Nat.le_of_ble_eq_true rfl) (fun p e s m args below meth cd ls hE hnm hl hD => ?_)
  have hx := hE.1; have hb := hE.2.1
  have hl : lv_has ls 3 [(0, .ref a0), (1, .int xa), (2, .ref xb)] := hl
  have hD : tD G (xA (tE G u) s.heap.size) s.heap u s.heap [] := hD
  refine lv_aload_n hx hb dX4_shares_0 rfl (lv_at hl 2 rfl) ?_
  refine lv_bipush (v := (61 : Int32)) hx hb dX4_shares_1 (by decide) ?_
  obtain ⟨h1, hF⟩ := ite_s hF
  obtain ⟨r2, k3, hF⟩ := xb_s hF
  refine kVv (As := [.int (61 : Int32)]) (rest := []) hE hl hD (c_X10_begin k3) kl_X4_15 (tE_10 h1) rfl rfl rfl rfl (Nat.le_of_ble_eq_true rfl) dX4_shares_3 ⟨Nat.le_of_ble_eq_true rfl, Nat.le_of_ble_eq_true rfl⟩ ⟨Nat.le_of_ble_eq_true rfl, Nat.le_of_ble_eq_true rfl⟩ (fun H locs (hD : tD G _ _ r2 H locs) => ?_)
  refine lv_aload_n hx hb dX4_shares_6 rfl (lv_at hl 0 rfl) ?_
  refine lv_iload_n hx hb dX4_shares_7 rfl (lv_at hl 1 rfl) ?_
  refine lv_aload_n hx hb dX4_shares_8 rfl (lv_at hl 2 rfl) ?_
  obtain ⟨h4, hF⟩ := ite_s hF
  obtain ⟨r5, k6, hF⟩ := xb_s hF
  refine kQ_X4_25 (rest := []) hE hl hD h4 k6 (Nat.le_of_ble_eq_true rfl) dX4_shares_9 ⟨Nat.le_of_ble_eq_true rfl, Nat.le_of_ble_eq_true rfl⟩ ⟨Nat.le_of_ble_eq_true rfl, Nat.le_of_ble_eq_true rfl⟩ (fun H locs (hD : tD G _ _ r5.2 H locs) => ?_)
  refine lv_aload_n hx hb dX4_shares_12 rfl (lv_at hl 0 rfl) ?_
  refine lv_aload_n hx hb dX4_shares_13 rfl (lv_at hl 0 rfl) ?_
  obtain ⟨h7, hF⟩ := ite_s hF
  refine gf_X4_28 hE hD h7 dX4_shares_14 ?_
  refine lv_aload_n hx hb dX4_shares_17 rfl (lv_at hl 2 rfl) ?_
  obtain ⟨r8, k9, hF⟩ := xb_s hF
  refine kB_X4_31 (rest := [.int r5.1]) hE hl hD h7 k9 (Nat.le_of_ble_eq_true rfl) dX4_shares_18 ⟨Nat.le_of_ble_eq_true rfl, Nat.le_of_ble_eq_true rfl⟩ ⟨Nat.le_of_ble_eq_true rfl, Nat.le_of_ble_eq_true rfl⟩ (fun H locs (hD : tD G _ _ r8.2 H locs) => ?_)
  refine lv_iadd hx hb dX4_shares_21 ?_
  obtain rfl := Option.some.inj hF
  exact x_iret hE hD ⟨rfl, rfl⟩ (by omega) (by omega) dX4_shares_22
theorem kp_X5_28 : xLP RX5 28 ⟨"DoubledBridge$Stream", "tells", "(ILDoubledBridge$Trace;)I"⟩ yX0_tells cX0_tells 3 (Option.some Jvm.ClassFile.FieldType.int) 2 := ⟨List.forall_mem_cons.mpr ⟨kw5_128, List.forall_mem_cons.mpr ⟨kw5_129, List.forall_mem_cons.mpr ⟨kw2_46, List.forall_mem_cons.mpr ⟨kw5_121, List.forall_mem_cons.mpr ⟨kw1_6, List.forall_mem_cons.mpr ⟨kw5_137, fun _ h => absurd h List.not_mem_nil⟩⟩⟩⟩⟩⟩, rfl, rfl, Or.inr kw2_31, by decide, by decide +kernel⟩
theorem kQ_X5_28 {p : Program} {l : Launch} {e : Env} {R : Room} {s : State} {m : MethodId} {args : Array Value} {below : List Frame} {meth : Method} {c : Code} {H : Heap} {locs : List Loc} {cells slots : Nat} {Q : State → Prop} {cc : ByteArray} {pc : Nat} {ls : Array Slot} {rest : List Value} {G : xG} {A : Nat → Prop} {a nL : Nat} {H0 : Heap} {ret : Option FieldType} {t : xT} {lv : List (Nat × Value)} (hE : xE p s m args meth c cc RX5 G nL ret) (hl : lv_has ls nL lv) (hD : tD G A H0 t H locs) (hk : tK t a = 5) {xa : Int32} {xb : Nat} {v : (Int32) × xT} (hF : F_X0_tells t a xa xb = some v) (hr : (rest.map fun v => v.category).sum ≤ 8) (hdg : decode cc pc = .ok (.invokespecial 28, 3)) (hR : 7 + 1 ≤ R.frames ∧ 8 + (3 + 11) + 40 * 7 ≤ R.locals) (hR2 : cells ≤ R.cells ∧ slots ≤ R.slots) (kk : ∀ (H1 : Heap) (locs1 : List Loc), tD G A H0 v.2 H1 locs1 → W p l e R s m args below meth c H1 locs1 cells slots Q (F0 m (pc + 3) ls (.int v.1 :: rest))) : W p l e R s m args below meth c H locs cells slots Q (F0 m pc ls (.ref xb :: .int xa :: .ref a :: rest)) := by
  have h := hk
  exact kPi (As := [.int xa, .ref xb]) (rest := rest) hE hl hD (c_X0_tells hF) kp_X5_28 (tE_5 h) rfl rfl rfl hr hdg hR hR2 kk
theorem ku_X5_31_5 : xLU RX5 RX5 "DoubledBridge$Bridge" 31 ⟨"DoubledBridge$Mill", "shares", "(ILDoubledBridge$Trace;)I"⟩ yX0_shares cX0_shares 4 (Option.some Jvm.ClassFile.FieldType.int) 2 := ⟨List.forall_mem_cons.mpr ⟨kw5_131, List.forall_mem_cons.mpr ⟨kw5_132, List.forall_mem_cons.mpr ⟨kw5_134, List.forall_mem_cons.mpr ⟨kw5_98, List.forall_mem_cons.mpr ⟨kw1_6, List.forall_mem_cons.mpr ⟨kw5_115, fun _ h => absurd h List.not_mem_nil⟩⟩⟩⟩⟩⟩, Or.inl rfl, by decide, by decide, by decide +kernel⟩
theorem kB_X5_31 {p : Program} {l : Launch} {e : Env} {R : Room} {s : State} {m : MethodId} {args : Array Value} {below : List Frame} {meth : Method} {c : Code} {H : Heap} {locs : List Loc} {cells slots : Nat} {Q : State → Prop} {cc : ByteArray} {pc : Nat} {ls : Array Slot} {rest : List Value} {G : xG} {A : Nat → Prop} {a nL : Nat} {H0 : Heap} {ret : Option FieldType} {t : xT} {lv : List (Nat × Value)} (hE : xE p s m args meth c cc RX5 G nL ret) (hl : lv_has ls nL lv) (hD : tD G A H0 t H locs) (hk : tK t a = 5) {xa : Int32} {xb : Nat} {v : (Int32) × xT} (hF : F_X0_shares t a xa xb = some v) (hr : (rest.map fun v => v.category).sum ≤ 8) (hdg : decode cc pc = .ok (.invokevirtual 31, 3)) (hR : 3 + 1 ≤ R.frames ∧ 8 + (4 + 11) + 40 * 3 ≤ R.locals) (hR2 : cells ≤ R.cells ∧ slots ≤ R.slots) (kk : ∀ (H1 : Heap) (locs1 : List Loc), tD G A H0 v.2 H1 locs1 → W p l e R s m args below meth c H1 locs1 cells slots Q (F0 m (pc + 3) ls (.int v.1 :: rest))) : W p l e R s m args below meth c H locs cells slots Q (F0 m pc ls (.ref xb :: .int xa :: .ref a :: rest)) := by
  have h := hk
  exact kUi (As := [.int xa, .ref xb]) (rest := rest) hE hl hD (c_X0_shares hF) ku_X5_31_5 (tE_5 h) rfl rfl rfl rfl hr hdg ⟨by have := hR.1; omega, by have := hR.2; omega⟩ hR2 kk
def F_X5_tells (u : xT) (a0 : Nat) (xa : Int32) (xb : Nat) : Option (Int32 × xT) := if tK u xb = 10 then (F_X10_begin u xb (51 : Int32)).bind (fun r2 => if tK r2 a0 = 5 then (F_X0_tells r2 a0 xa xb).bind (fun r5 => if tK r5.2 a0 = 5 then (F_X0_shares r5.2 a0 (tI r5.2 a0 1) xb).bind (fun r8 => some (r5.1 + r8.1, r8.2)) else none) else none) else none
theorem c_X5_tells {l : Launch} {G : xG} {rr : (Int32 × xT)} {u : xT} {a0 : Nat} {xa : Int32} {xb : Nat} (hF : F_X5_tells u a0 xa xb = some rr) : xMi l G yX5_tells cX5_tells 3 (Option.some Jvm.ClassFile.FieldType.int) 8 0 0 [.ref a0, .int xa, .ref xb] (tE G u) u.1 (fun r z => r = rr.1 ∧ z = ((tE G rr.2), rr.2.1)) := by
  unfold F_X5_tells at hF
  refine x_startI rfl (Nat.le_of_ble_eq_true rfl) (fun p e s m args below meth cd ls hE hnm hl hD => ?_)
  have hx := hE.1; have hb := hE.2.1
  have hl : lv_has ls 3 [(0, .ref a0), (1, .int xa), (2, .ref xb)] := hl
  have hD : tD G (xA (tE G u) s.heap.size) s.heap u s.heap [] := hD
  refine lv_aload_n hx hb dX5_tells_0 rfl (lv_at hl 2 rfl) ?_
  refine lv_bipush (v := (51 : Int32)) hx hb dX5_tells_1 (by decide) ?_
  obtain ⟨h1, hF⟩ := ite_s hF
  obtain ⟨r2, k3, hF⟩ := xb_s hF
  refine kVv (As := [.int (51 : Int32)]) (rest := []) hE hl hD (c_X10_begin k3) kl_X5_15 (tE_10 h1) rfl rfl rfl rfl (Nat.le_of_ble_eq_true rfl) dX5_tells_3 ⟨Nat.le_of_ble_eq_true rfl, Nat.le_of_ble_eq_true rfl⟩ ⟨Nat.le_of_ble_eq_true rfl, Nat.le_of_ble_eq_true rfl⟩ (fun H locs (hD : tD G _ _ r2 H locs) => ?_)
  refine lv_aload_n hx hb dX5_tells_6 rfl (lv_at hl 0 rfl) ?_
  refine lv_iload_n hx hb dX5_tells_7 rfl (lv_at hl 1 rfl) ?_
  refine lv_aload_n hx hb dX5_tells_8 rfl (lv_at hl 2 rfl) ?_
  obtain ⟨h4, hF⟩ := ite_s hF
  obtain ⟨r5, k6, hF⟩ := xb_s hF
  refine kQ_X5_28 (rest := []) hE hl hD h4 k6 (Nat.le_of_ble_eq_true rfl) dX5_tells_9 ⟨Nat.le_of_ble_eq_true rfl, Nat.le_of_ble_eq_true rfl⟩ ⟨Nat.le_of_ble_eq_true rfl, Nat.le_of_ble_eq_true rfl⟩ (fun H locs (hD : tD G _ _ r5.2 H locs) => ?_)
  refine lv_aload_n hx hb dX5_tells_12 rfl (lv_at hl 0 rfl) ?_
  refine lv_aload_n hx hb dX5_tells_13 rfl (lv_at hl 0 rfl) ?_
  obtain ⟨h7, hF⟩ := ite_s hF
  refine gf_X5_25 hE hD h7 dX5_tells_14 ?_
  refine lv_aload_n hx hb dX5_tells_17 rfl (lv_at hl 2 rfl) ?_
  obtain ⟨r8, k9, hF⟩ := xb_s hF
  refine kB_X5_31 (rest := [.int r5.1]) hE hl hD h7 k9 (Nat.le_of_ble_eq_true rfl) dX5_tells_18 ⟨Nat.le_of_ble_eq_true rfl, Nat.le_of_ble_eq_true rfl⟩ ⟨Nat.le_of_ble_eq_true rfl, Nat.le_of_ble_eq_true rfl⟩ (fun H locs (hD : tD G _ _ r8.2 H locs) => ?_)
  refine lv_iadd hx hb dX5_tells_21 ?_
  obtain rfl := Option.some.inj hF
  exact x_iret hE hD ⟨rfl, rfl⟩ (by omega) (by omega) dX5_tells_22
theorem ki_X7_26 : xLI RX7 26 yX2_init cX2_init 1 0 := ⟨⟨kw1_40, kw1_3, kw1_41⟩, Or.inr (by decide), rfl, by decide, by decide, by decide +kernel⟩
def F_X7_init (u : xT) (a0 : Nat) : Option (xT) := xlet (tNew u 22 9) (fun t1 => if tK t1 a0 = 7 then xlet (tSP t1 a0 0 (some u.1)) (fun t4 => xlet (tSI t4 a0 1 (0 : Int32)) (fun t7 => xlet (tSI t7 a0 2 (0 : Int32)) (fun t10 => xlet (tNew t10 2 0) (fun t13 => (F_X2_init t13 t10.1).bind (fun r15 => if tK r15 a0 = 7 then xlet (tSP r15 a0 3 (some t10.1)) (fun t18 => xlet (tNew t18 20 6) (fun t20 => if tK t20 a0 = 7 then xlet (tSP t20 a0 4 (some t18.1)) (fun t23 => xlet (tNew t23 20 6) (fun t26 => if tK t26 a0 = 7 then xlet (tSP t26 a0 5 (some t23.1)) (fun t29 => xlet (tNew t29 20 6) (fun t32 => if tK t32 a0 = 7 then xlet (tSP t32 a0 6 (some t29.1)) (fun t35 => xlet (tSI t35 a0 7 (0 : Int32)) (fun t38 => xlet (tNew t38 20 6) (fun t41 => if tK t41 a0 = 7 then xlet (tSP t41 a0 8 (some t38.1)) (fun t44 => xlet (tNew t44 20 6) (fun t47 => if tK t47 a0 = 7 then xlet (tSP t47 a0 9 (some t44.1)) (fun t50 => xlet (tSI t50 a0 10 (0 : Int32)) (fun t53 => some t53)) else none)) else none))) else none)) else none)) else none)) else none))))) else none)
theorem c_X7_init {l : Launch} {G : xG} {rr : (xT)} {u : xT} {a0 : Nat} (hF : F_X7_init u a0 = some rr) : xMv l G yX7_init cX7_init 1 (Option.none : Option Jvm.ClassFile.FieldType) 3 15 389 [.ref a0] (tE G u) u.1 (fun z => z = ((tE G rr), rr.1)) := by
  unfold F_X7_init at hF
  refine x_startV rfl (Nat.le_of_ble_eq_true rfl) (fun p e s m args below meth cd ls hE hnm hl hD => ?_)
  have hx := hE.1; have hb := hE.2.1
  have hl : lv_has ls 1 [(0, .ref a0)] := hl
  have hD : tD G (xA (tE G u) s.heap.size) s.heap u s.heap [] := hD
  refine lv_aload_n hx hb dX7_init_0 rfl (lv_at hl 0 rfl) ?_
  refine x_objI (rest := []) hE hl kw1_34 (Nat.le_of_ble_eq_true rfl) (Nat.le_of_ble_eq_true rfl) dX7_init_1 ?_
  refine lv_aload_n hx hb dX7_init_4 rfl (lv_at hl 0 rfl) ?_
  refine lv_bipush (v := (9 : Int32)) hx hb dX7_init_5 (by decide) ?_
  refine t_newQB (N := 9) hE hD kw1_35 (by decide) (by decide) (Nat.le_of_ble_eq_true rfl) (by show 0 + 1 ≤ 15; omega) (by show 0 + 9 ≤ 389; omega) dX7_init_7 (fun t1 H et1 hD => ?_)
  have hF := xlet_e hF et1
  have h2 : tK t1 u.1 = 22 := by rw [et1]; exact tK_N _ _ _
  obtain ⟨h3, hF⟩ := ite_s hF
  refine pf_X7_11 (v := (some u.1)) hE hnm hD h3 dX7_init_10 (fun t4 H locs et4 hD => ?_)
  have hF := xlet_e hF et4
  have h5 : tK t4 u.1 = 22 := by rw [et4]; exact h2
  have h6 : tK t4 a0 = 7 := by rw [et4]; exact h3
  refine lv_aload_n hx hb dX7_init_13 rfl (lv_at hl 0 rfl) ?_
  refine lv_iconst (v := (0 : Int32)) hx hb dX7_init_14 (by decide) ?_
  refine pf_X7_17 hE hD h6 dX7_init_15 (fun t7 H locs et7 hD => ?_)
  have hF := xlet_e hF et7
  have h8 : tK t7 u.1 = 22 := by rw [et7]; exact h5
  have h9 : tK t7 a0 = 7 := by rw [et7]; exact h6
  refine lv_aload_n hx hb dX7_init_18 rfl (lv_at hl 0 rfl) ?_
  refine lv_iconst (v := (0 : Int32)) hx hb dX7_init_19 (by decide) ?_
  refine pf_X7_21 hE hD h9 dX7_init_20 (fun t10 H locs et10 hD => ?_)
  have hF := xlet_e hF et10
  have h11 : tK t10 u.1 = 22 := by rw [et10]; exact h8
  have h12 : tK t10 a0 = 7 := by rw [et10]; exact h9
  refine lv_aload_n hx hb dX7_init_23 rfl (lv_at hl 0 rfl) ?_
  refine tn_X7_24 hE hD (by show 0 + 1 + 1 ≤ 15; omega) (by show 0 + 9 + 10 ≤ 389; omega) dX7_init_24 (fun t13 H et13 hD => ?_)
  have hF := xlet_e hF et13
  have h14 : tK t13 t10.1 = 2 := by rw [et13]; exact tK_N _ _ _
  refine lv_dup hx hb dX7_init_27 rfl ?_
  obtain ⟨r15, k16, hF⟩ := xb_s hF
  refine kIvA (As := []) (rest := [.ref t10.1, .ref a0]) hE hl hD (c_X2_init k16) ki_X7_26 rfl rfl (Nat.le_of_ble_eq_true rfl) dX7_init_28 ⟨Nat.le_of_ble_eq_true rfl, Nat.le_of_ble_eq_true rfl⟩ ⟨(by show 0 + 1 + 1 + 8 ≤ 15; omega), (by show 0 + 9 + 10 + 340 ≤ 389; omega)⟩ (fun H locs (hD : tD G _ _ r15 H locs) => ?_)
  obtain ⟨h17, hF⟩ := ite_s hF
  refine pf_X7_27 (v := (some t10.1)) hE hD h17 dX7_init_31 (fun t18 H locs et18 hD => ?_)
  have hF := xlet_e hF et18
  have h19 : tK t18 a0 = 7 := by rw [et18]; exact h17
  refine lv_aload_n hx hb dX7_init_34 rfl (lv_at hl 0 rfl) ?_
  refine lv_bipush (v := (6 : Int32)) hx hb dX7_init_35 (by decide) ?_
  refine t_newI (N := 6) hE hD (by decide) (by decide) (Nat.le_of_ble_eq_true rfl) (by show 0 + 1 + 1 + 8 + 1 ≤ 15; omega) (by show 0 + 9 + 10 + 340 + 6 ≤ 389; omega) dX7_init_37 (fun t20 H et20 hD => ?_)
  have hF := xlet_e hF et20
  have h21 : tK t20 t18.1 = 20 := by rw [et20]; exact tK_N _ _ _
  obtain ⟨h22, hF⟩ := ite_s hF
  refine pf_X7_31 (v := (some t18.1)) hE hnm hD h22 dX7_init_39 (fun t23 H locs et23 hD => ?_)
  have hF := xlet_e hF et23
  have h24 : tK t23 t18.1 = 20 := by rw [et23]; exact h21
  have h25 : tK t23 a0 = 7 := by rw [et23]; exact h22
  refine lv_aload_n hx hb dX7_init_42 rfl (lv_at hl 0 rfl) ?_
  refine lv_bipush (v := (6 : Int32)) hx hb dX7_init_43 (by decide) ?_
  refine t_newI (N := 6) hE hD (by decide) (by decide) (Nat.le_of_ble_eq_true rfl) (by show 0 + 1 + 1 + 8 + 1 + 1 ≤ 15; omega) (by show 0 + 9 + 10 + 340 + 6 + 6 ≤ 389; omega) dX7_init_45 (fun t26 H et26 hD => ?_)
  have hF := xlet_e hF et26
  have h27 : tK t26 t23.1 = 20 := by rw [et26]; exact tK_N _ _ _
  obtain ⟨h28, hF⟩ := ite_s hF
  refine pf_X7_35 (v := (some t23.1)) hE hnm hD h28 dX7_init_47 (fun t29 H locs et29 hD => ?_)
  have hF := xlet_e hF et29
  have h30 : tK t29 t23.1 = 20 := by rw [et29]; exact h27
  have h31 : tK t29 a0 = 7 := by rw [et29]; exact h28
  refine lv_aload_n hx hb dX7_init_50 rfl (lv_at hl 0 rfl) ?_
  refine lv_bipush (v := (6 : Int32)) hx hb dX7_init_51 (by decide) ?_
  refine t_newI (N := 6) hE hD (by decide) (by decide) (Nat.le_of_ble_eq_true rfl) (by show 0 + 1 + 1 + 8 + 1 + 1 + 1 ≤ 15; omega) (by show 0 + 9 + 10 + 340 + 6 + 6 + 6 ≤ 389; omega) dX7_init_53 (fun t32 H et32 hD => ?_)
  have hF := xlet_e hF et32
  have h33 : tK t32 t29.1 = 20 := by rw [et32]; exact tK_N _ _ _
  obtain ⟨h34, hF⟩ := ite_s hF
  refine pf_X7_38 (v := (some t29.1)) hE hnm hD h34 dX7_init_55 (fun t35 H locs et35 hD => ?_)
  have hF := xlet_e hF et35
  have h36 : tK t35 t29.1 = 20 := by rw [et35]; exact h33
  have h37 : tK t35 a0 = 7 := by rw [et35]; exact h34
  refine lv_aload_n hx hb dX7_init_58 rfl (lv_at hl 0 rfl) ?_
  refine lv_iconst (v := (0 : Int32)) hx hb dX7_init_59 (by decide) ?_
  refine pf_X7_41 hE hD h37 dX7_init_60 (fun t38 H locs et38 hD => ?_)
  have hF := xlet_e hF et38
  have h39 : tK t38 t29.1 = 20 := by rw [et38]; exact h36
  have h40 : tK t38 a0 = 7 := by rw [et38]; exact h37
  refine lv_aload_n hx hb dX7_init_63 rfl (lv_at hl 0 rfl) ?_
  refine lv_bipush (v := (6 : Int32)) hx hb dX7_init_64 (by decide) ?_
  refine t_newI (N := 6) hE hD (by decide) (by decide) (Nat.le_of_ble_eq_true rfl) (by show 0 + 1 + 1 + 8 + 1 + 1 + 1 + 1 ≤ 15; omega) (by show 0 + 9 + 10 + 340 + 6 + 6 + 6 + 6 ≤ 389; omega) dX7_init_66 (fun t41 H et41 hD => ?_)
  have hF := xlet_e hF et41
  have h42 : tK t41 t38.1 = 20 := by rw [et41]; exact tK_N _ _ _
  obtain ⟨h43, hF⟩ := ite_s hF
  refine pf_X7_44 (v := (some t38.1)) hE hnm hD h43 dX7_init_68 (fun t44 H locs et44 hD => ?_)
  have hF := xlet_e hF et44
  have h45 : tK t44 t38.1 = 20 := by rw [et44]; exact h42
  have h46 : tK t44 a0 = 7 := by rw [et44]; exact h43
  refine lv_aload_n hx hb dX7_init_71 rfl (lv_at hl 0 rfl) ?_
  refine lv_bipush (v := (6 : Int32)) hx hb dX7_init_72 (by decide) ?_
  refine t_newI (N := 6) hE hD (by decide) (by decide) (Nat.le_of_ble_eq_true rfl) (by show 0 + 1 + 1 + 8 + 1 + 1 + 1 + 1 + 1 ≤ 15; omega) (by show 0 + 9 + 10 + 340 + 6 + 6 + 6 + 6 + 6 ≤ 389; omega) dX7_init_74 (fun t47 H et47 hD => ?_)
  have hF := xlet_e hF et47
  have h48 : tK t47 t44.1 = 20 := by rw [et47]; exact tK_N _ _ _
  obtain ⟨h49, hF⟩ := ite_s hF
  refine pf_X7_47 (v := (some t44.1)) hE hnm hD h49 dX7_init_76 (fun t50 H locs et50 hD => ?_)
  have hF := xlet_e hF et50
  have h51 : tK t50 t44.1 = 20 := by rw [et50]; exact h48
  have h52 : tK t50 a0 = 7 := by rw [et50]; exact h49
  refine lv_aload_n hx hb dX7_init_79 rfl (lv_at hl 0 rfl) ?_
  refine lv_iconst (v := (0 : Int32)) hx hb dX7_init_80 (by decide) ?_
  refine pf_X7_50 hE hD h52 dX7_init_81 (fun t53 H locs et53 hD => ?_)
  have hF := xlet_e hF et53
  have h54 : tK t53 t44.1 = 20 := by rw [et53]; exact h51
  have h55 : tK t53 a0 = 7 := by rw [et53]; exact h52
  obtain rfl := Option.some.inj hF
  exact x_vret hE hD rfl (by omega) (by omega) dX7_init_84
def F_X7_bridgeAt_j31 (u : xT) (a0 : Nat) (p0 : Option Nat) : Option (Option Nat) := xopt p0 (some (none)) (fun q1 => some (some q1))
theorem B_X7_bridgeAt_j31 {p : Program} {l : Launch} {e : Env} {s : State} {m : MethodId} {args : Array Value} {below : List Frame} {meth : Method} {cd : Code} {G : xG} {w0 : xW} {rr : (Option Nat)} (hE : xE p s m args meth cd cX7_bridgeAt RX7 G 2 (Option.some (Jvm.ClassFile.FieldType.object "DoubledBridge$Bridge"))) {u : xT} {a0 : Nat} {p0 : Option Nat} {H : Heap} {locs : List Loc} {ls : Array Slot} (hD : tD G (xA w0 s.heap.size) s.heap u H locs) (hl : lv_has ls 2 [(0, .ref a0)]) (hF : F_X7_bridgeAt_j31 u a0 p0 = some rr) : W p l e (xR 2 0 0) s m args below meth cd H locs 0 0 (xQq G w0 (fun r z => r = rr ∧ z = ((tE G u), u.1)) below args s 0 0) (F0 m 31 ls [va_rf p0]) := by
  have hx := hE.1; have hb := hE.2.1
  unfold F_X7_bridgeAt_j31 at hF
  refine t_splitL hF (fun h2 hF9 => ?_) (fun q1 h2 hF9 => ?_)
  · subst h2
    have hF := hF9
    have hl : lv_has ls 2 [(0, .ref a0)] := hl
    refine W.eq (g2 := F0 m 31 ls [.null]) rfl ?_
    obtain rfl := Option.some.inj hF
    exact x_qret (v := none) hE hD ⟨rfl, rfl⟩ (by omega) (by omega) dX7_bridgeAt_31
  · subst h2
    have hF := hF9
    have hl : lv_has ls 2 [(0, .ref a0)] := hl
    refine W.eq (g2 := F0 m 31 ls [.ref q1]) rfl ?_
    obtain rfl := Option.some.inj hF
    exact x_qret (v := some q1) hE hD ⟨rfl, rfl⟩ (by omega) (by omega) dX7_bridgeAt_31
def F_X7_bridgeAt_j30 (u : xT) (a0 : Nat) : Option (Option Nat) := F_X7_bridgeAt_j31 u a0 none
theorem B_X7_bridgeAt_j30 {p : Program} {l : Launch} {e : Env} {s : State} {m : MethodId} {args : Array Value} {below : List Frame} {meth : Method} {cd : Code} {G : xG} {w0 : xW} {rr : (Option Nat)} (hE : xE p s m args meth cd cX7_bridgeAt RX7 G 2 (Option.some (Jvm.ClassFile.FieldType.object "DoubledBridge$Bridge"))) {u : xT} {a0 : Nat} {H : Heap} {locs : List Loc} {ls : Array Slot} (hD : tD G (xA w0 s.heap.size) s.heap u H locs) (hl : lv_has ls 2 [(0, .ref a0)]) (hF : F_X7_bridgeAt_j30 u a0 = some rr) : W p l e (xR 2 0 0) s m args below meth cd H locs 0 0 (xQq G w0 (fun r z => r = rr ∧ z = ((tE G u), u.1)) below args s 0 0) (F0 m 30 ls []) := by
  have hx := hE.1; have hb := hE.2.1
  unfold F_X7_bridgeAt_j30 at hF
  refine lv_null hx hb dX7_bridgeAt_30 ?_
  exact B_X7_bridgeAt_j31 hE hD (lv_sub hl [0] rfl) hF
def F_X7_bridgeAt (u : xT) (a0 : Nat) (xa : Int32) : Option (Option Nat) := if xa < 0 then F_X7_bridgeAt_j30 u a0 else if tK u a0 = 7 then if (tI u a0 1) ≤ xa then F_X7_bridgeAt_j30 u a0 else (tP u a0 0).bind (fun q6 => if tK u q6 = 22 then if (nI (tN u q6)) ≤ xa then F_X7_bridgeAt_j30 u a0 else (tP u a0 0).bind (fun q10 => if tK u q10 = 22 then if xIn xa (tN u q10) then xopt (tP u q10 xa.toNatClampNeg) (F_X7_bridgeAt_j31 u a0 none) (fun q14 => F_X7_bridgeAt_j31 u a0 (some q14)) else none else none) else none) else none
theorem c_X7_bridgeAt {l : Launch} {G : xG} {rr : (Option Nat)} {u : xT} {a0 : Nat} {xa : Int32} (hF : F_X7_bridgeAt u a0 xa = some rr) : xMq l G yX7_bridgeAt cX7_bridgeAt 2 (Option.some (Jvm.ClassFile.FieldType.object "DoubledBridge$Bridge")) 2 0 0 [.ref a0, .int xa] (tE G u) u.1 (fun r z => r = rr ∧ z = ((tE G u), u.1)) := by
  unfold F_X7_bridgeAt at hF
  refine x_startQ rfl (Nat.le_of_ble_eq_true rfl) (fun p e s m args below meth cd ls hE hnm hl hD => ?_)
  have hx := hE.1; have hb := hE.2.1
  have hl : lv_has ls 2 [(0, .ref a0), (1, .int xa)] := hl
  have hD : tD G (xA (tE G u) s.heap.size) s.heap u s.heap [] := hD
  refine lv_iload_n hx hb dX7_bridgeAt_0 rfl (lv_at hl 1 rfl) ?_
  refine lv_if_lt (tgt := 30) hx hb dX7_bridgeAt_1 (by decide) (fun c3 => ?_) (fun c3 => ?_)
  · have hF := ite_p hF c3
    exact B_X7_bridgeAt_j30 hE hD (lv_sub hl [0] rfl) hF
  · have hF := ite_n hF c3
    refine lv_iload_n hx hb dX7_bridgeAt_4 rfl (lv_at hl 1 rfl) ?_
    refine lv_aload_n hx hb dX7_bridgeAt_5 rfl (lv_at hl 0 rfl) ?_
    obtain ⟨h4, hF⟩ := ite_s hF
    refine gf_X7_17 hE hD h4 dX7_bridgeAt_6 ?_
    refine lv_icmp_ge (tgt := 30) hx hb dX7_bridgeAt_9 (by decide) (fun c5 => ?_) (fun c5 => ?_)
    · have hF := ite_p hF c5
      exact B_X7_bridgeAt_j30 hE hD (lv_sub hl [0] rfl) hF
    · have hF := ite_n hF c5
      refine lv_iload_n hx hb dX7_bridgeAt_12 rfl (lv_at hl 1 rfl) ?_
      refine lv_aload_n hx hb dX7_bridgeAt_13 rfl (lv_at hl 0 rfl) ?_
      obtain ⟨q6, h7, hF⟩ := xb_s hF
      refine gr_X7_11 hE hD h4 h7 dX7_bridgeAt_14 ?_
      obtain ⟨h8, hF⟩ := ite_s hF
      refine t_alenB hE hD h8 dX7_bridgeAt_17 ?_
      refine lv_icmp_ge (tgt := 30) hx hb dX7_bridgeAt_18 (by decide) (fun c9 => ?_) (fun c9 => ?_)
      · have hF := ite_p hF c9
        exact B_X7_bridgeAt_j30 hE hD (lv_sub hl [0] rfl) hF
      · have hF := ite_n hF c9
        refine lv_aload_n hx hb dX7_bridgeAt_21 rfl (lv_at hl 0 rfl) ?_
        obtain ⟨q10, h11, hF⟩ := xb_s hF
        refine gr_X7_11 hE hD h4 h11 dX7_bridgeAt_22 ?_
        refine lv_iload_n hx hb dX7_bridgeAt_25 rfl (lv_at hl 1 rfl) ?_
        obtain ⟨h12, hF⟩ := ite_s hF
        obtain ⟨h13, hF⟩ := ite_s hF
        refine t_aldB hE hD h12 h13 dX7_bridgeAt_26 ?_
        refine t_split hF (fun h15 hF => ?_) (fun q14 h15 hF => ?_)
        · refine lv_goto (tgt := 31) hx hb dX7_bridgeAt_27 (by decide) ?_
          exact B_X7_bridgeAt_j31 hE hD (lv_sub hl [0] rfl) hF
        · refine lv_goto (tgt := 31) hx hb dX7_bridgeAt_27 (by decide) ?_
          exact B_X7_bridgeAt_j31 hE hD (lv_sub hl [0] rfl) hF
def F_X7_isPerson_j23 (u : xT) (a0 : Nat) (s0 : Int32) : Option Int32 := if s0 = 0 ∨ s0 = 1 then some s0 else none
theorem B_X7_isPerson_j23 {p : Program} {l : Launch} {e : Env} {s : State} {m : MethodId} {args : Array Value} {below : List Frame} {meth : Method} {cd : Code} {G : xG} {w0 : xW} {rr : Int32} (hE : xE p s m args meth cd cX7_isPerson RX7 G 2 (Option.some Jvm.ClassFile.FieldType.boolean)) {u : xT} {a0 : Nat} {s0 : Int32} {H : Heap} {locs : List Loc} {ls : Array Slot} (hD : tD G (xA w0 s.heap.size) s.heap u H locs) (hl : lv_has ls 2 [(0, .ref a0)]) (hF : F_X7_isPerson_j23 u a0 s0 = some rr) : W p l e (xR 2 0 0) s m args below meth cd H locs 0 0 (xQi G w0 (fun r z => r = rr ∧ (rr = 0 ∨ rr = 1) ∧ z = ((tE G u), u.1)) below args s 0 0) (F0 m 23 ls [.int s0]) := by
  have hx := hE.1; have hb := hE.2.1
  unfold F_X7_isPerson_j23 at hF
  obtain ⟨h1, hF⟩ := ite_s hF
  obtain rfl := Option.some.inj hF
  exact x_zret hE hD h1 ⟨rfl, h1, rfl⟩ (by omega) (by omega) dX7_isPerson_23
def F_X7_isPerson_j22 (u : xT) (a0 : Nat) : Option Int32 := F_X7_isPerson_j23 u a0 (0 : Int32)
theorem B_X7_isPerson_j22 {p : Program} {l : Launch} {e : Env} {s : State} {m : MethodId} {args : Array Value} {below : List Frame} {meth : Method} {cd : Code} {G : xG} {w0 : xW} {rr : Int32} (hE : xE p s m args meth cd cX7_isPerson RX7 G 2 (Option.some Jvm.ClassFile.FieldType.boolean)) {u : xT} {a0 : Nat} {H : Heap} {locs : List Loc} {ls : Array Slot} (hD : tD G (xA w0 s.heap.size) s.heap u H locs) (hl : lv_has ls 2 [(0, .ref a0)]) (hF : F_X7_isPerson_j22 u a0 = some rr) : W p l e (xR 2 0 0) s m args below meth cd H locs 0 0 (xQi G w0 (fun r z => r = rr ∧ (rr = 0 ∨ rr = 1) ∧ z = ((tE G u), u.1)) below args s 0 0) (F0 m 22 ls []) := by
  have hx := hE.1; have hb := hE.2.1
  unfold F_X7_isPerson_j22 at hF
  refine lv_iconst (v := (0 : Int32)) hx hb dX7_isPerson_22 (by decide) ?_
  exact B_X7_isPerson_j23 hE hD (lv_sub hl [0] rfl) hF
def F_X7_isPerson (u : xT) (a0 : Nat) (xa : Int32) : Option Int32 := if xa < 0 then F_X7_isPerson_j22 u a0 else if tK u a0 = 7 then if (tI u a0 7) ≤ xa then F_X7_isPerson_j22 u a0 else if (6 : Int32) ≤ xa then F_X7_isPerson_j22 u a0 else F_X7_isPerson_j23 u a0 (1 : Int32) else none
theorem c_X7_isPerson {l : Launch} {G : xG} {rr : Int32} {u : xT} {a0 : Nat} {xa : Int32} (hF : F_X7_isPerson u a0 xa = some rr) : xMi l G yX7_isPerson cX7_isPerson 2 (Option.some Jvm.ClassFile.FieldType.boolean) 2 0 0 [.ref a0, .int xa] (tE G u) u.1 (fun r z => r = rr ∧ (rr = 0 ∨ rr = 1) ∧ z = ((tE G u), u.1)) := by
  unfold F_X7_isPerson at hF
  refine x_startI rfl (Nat.le_of_ble_eq_true rfl) (fun p e s m args below meth cd ls hE hnm hl hD => ?_)
  have hx := hE.1; have hb := hE.2.1
  have hl : lv_has ls 2 [(0, .ref a0), (1, .int xa)] := hl
  have hD : tD G (xA (tE G u) s.heap.size) s.heap u s.heap [] := hD
  refine lv_iload_n hx hb dX7_isPerson_0 rfl (lv_at hl 1 rfl) ?_
  refine lv_if_lt (tgt := 22) hx hb dX7_isPerson_1 (by decide) (fun c2 => ?_) (fun c2 => ?_)
  · have hF := ite_p hF c2
    exact B_X7_isPerson_j22 hE hD (lv_sub hl [0] rfl) hF
  · have hF := ite_n hF c2
    refine lv_iload_n hx hb dX7_isPerson_4 rfl (lv_at hl 1 rfl) ?_
    refine lv_aload_n hx hb dX7_isPerson_5 rfl (lv_at hl 0 rfl) ?_
    obtain ⟨h3, hF⟩ := ite_s hF
    refine gf_X7_41 hE hD h3 dX7_isPerson_6 ?_
    refine lv_icmp_ge (tgt := 22) hx hb dX7_isPerson_9 (by decide) (fun c4 => ?_) (fun c4 => ?_)
    · have hF := ite_p hF c4
      exact B_X7_isPerson_j22 hE hD (lv_sub hl [0] rfl) hF
    · have hF := ite_n hF c4
      refine lv_iload_n hx hb dX7_isPerson_12 rfl (lv_at hl 1 rfl) ?_
      refine lv_bipush (v := (6 : Int32)) hx hb dX7_isPerson_13 (by decide) ?_
      refine lv_icmp_ge (tgt := 22) hx hb dX7_isPerson_15 (by decide) (fun c5 => ?_) (fun c5 => ?_)
      · have hF := ite_p hF c5
        exact B_X7_isPerson_j22 hE hD (lv_sub hl [0] rfl) hF
      · have hF := ite_n hF c5
        refine lv_iconst (v := (1 : Int32)) hx hb dX7_isPerson_18 (by decide) ?_
        refine lv_goto (tgt := 23) hx hb dX7_isPerson_19 (by decide) ?_
        exact B_X7_isPerson_j23 hE hD (lv_sub hl [0] rfl) hF
def F_X7_isSet_j19 (u : xT) (a0 : Nat) (s0 : Int32) : Option Int32 := if s0 = 0 ∨ s0 = 1 then some s0 else none
theorem B_X7_isSet_j19 {p : Program} {l : Launch} {e : Env} {s : State} {m : MethodId} {args : Array Value} {below : List Frame} {meth : Method} {cd : Code} {G : xG} {w0 : xW} {rr : Int32} (hE : xE p s m args meth cd cX7_isSet RX7 G 2 (Option.some Jvm.ClassFile.FieldType.boolean)) {u : xT} {a0 : Nat} {s0 : Int32} {H : Heap} {locs : List Loc} {ls : Array Slot} (hD : tD G (xA w0 s.heap.size) s.heap u H locs) (hl : lv_has ls 2 [(0, .ref a0)]) (hF : F_X7_isSet_j19 u a0 s0 = some rr) : W p l e (xR 2 0 0) s m args below meth cd H locs 0 0 (xQi G w0 (fun r z => r = rr ∧ (rr = 0 ∨ rr = 1) ∧ z = ((tE G u), u.1)) below args s 0 0) (F0 m 19 ls [.int s0]) := by
  have hx := hE.1; have hb := hE.2.1
  unfold F_X7_isSet_j19 at hF
  obtain ⟨h1, hF⟩ := ite_s hF
  obtain rfl := Option.some.inj hF
  exact x_zret hE hD h1 ⟨rfl, h1, rfl⟩ (by omega) (by omega) dX7_isSet_19
def F_X7_isSet_j18 (u : xT) (a0 : Nat) : Option Int32 := F_X7_isSet_j19 u a0 (0 : Int32)
theorem B_X7_isSet_j18 {p : Program} {l : Launch} {e : Env} {s : State} {m : MethodId} {args : Array Value} {below : List Frame} {meth : Method} {cd : Code} {G : xG} {w0 : xW} {rr : Int32} (hE : xE p s m args meth cd cX7_isSet RX7 G 2 (Option.some Jvm.ClassFile.FieldType.boolean)) {u : xT} {a0 : Nat} {H : Heap} {locs : List Loc} {ls : Array Slot} (hD : tD G (xA w0 s.heap.size) s.heap u H locs) (hl : lv_has ls 2 [(0, .ref a0)]) (hF : F_X7_isSet_j18 u a0 = some rr) : W p l e (xR 2 0 0) s m args below meth cd H locs 0 0 (xQi G w0 (fun r z => r = rr ∧ (rr = 0 ∨ rr = 1) ∧ z = ((tE G u), u.1)) below args s 0 0) (F0 m 18 ls []) := by
  have hx := hE.1; have hb := hE.2.1
  unfold F_X7_isSet_j18 at hF
  refine lv_iconst (v := (0 : Int32)) hx hb dX7_isSet_18 (by decide) ?_
  exact B_X7_isSet_j19 hE hD (lv_sub hl [0] rfl) hF
def F_X7_isSet (u : xT) (a0 : Nat) (xa : Int32) : Option Int32 := if xa < 0 then F_X7_isSet_j18 u a0 else if tK u a0 = 7 then if ((1 : Int32) <<< ((tI u a0 1) &&& 31)) ≤ xa then F_X7_isSet_j18 u a0 else F_X7_isSet_j19 u a0 (1 : Int32) else none
theorem c_X7_isSet {l : Launch} {G : xG} {rr : Int32} {u : xT} {a0 : Nat} {xa : Int32} (hF : F_X7_isSet u a0 xa = some rr) : xMi l G yX7_isSet cX7_isSet 2 (Option.some Jvm.ClassFile.FieldType.boolean) 2 0 0 [.ref a0, .int xa] (tE G u) u.1 (fun r z => r = rr ∧ (rr = 0 ∨ rr = 1) ∧ z = ((tE G u), u.1)) := by
  unfold F_X7_isSet at hF
  refine x_startI rfl (Nat.le_of_ble_eq_true rfl) (fun p e s m args below meth cd ls hE hnm hl hD => ?_)
  have hx := hE.1; have hb := hE.2.1
  have hl : lv_has ls 2 [(0, .ref a0), (1, .int xa)] := hl
  have hD : tD G (xA (tE G u) s.heap.size) s.heap u s.heap [] := hD
  refine lv_iload_n hx hb dX7_isSet_0 rfl (lv_at hl 1 rfl) ?_
  refine lv_if_lt (tgt := 18) hx hb dX7_isSet_1 (by decide) (fun c2 => ?_) (fun c2 => ?_)
  · have hF := ite_p hF c2
    exact B_X7_isSet_j18 hE hD (lv_sub hl [0] rfl) hF
  · have hF := ite_n hF c2
    refine lv_iload_n hx hb dX7_isSet_4 rfl (lv_at hl 1 rfl) ?_
    refine lv_iconst (v := (1 : Int32)) hx hb dX7_isSet_5 (by decide) ?_
    refine lv_aload_n hx hb dX7_isSet_6 rfl (lv_at hl 0 rfl) ?_
    obtain ⟨h3, hF⟩ := ite_s hF
    refine gf_X7_17 hE hD h3 dX7_isSet_7 ?_
    refine lv_ishl hx hb dX7_isSet_10 ?_
    refine lv_icmp_ge (tgt := 18) hx hb dX7_isSet_11 (by decide) (fun c4 => ?_) (fun c4 => ?_)
    · have hF := ite_p hF c4
      exact B_X7_isSet_j18 hE hD (lv_sub hl [0] rfl) hF
    · have hF := ite_n hF c4
      refine lv_iconst (v := (1 : Int32)) hx hb dX7_isSet_14 (by decide) ?_
      refine lv_goto (tgt := 19) hx hb dX7_isSet_15 (by decide) ?_
      exact B_X7_isSet_j19 hE hD (lv_sub hl [0] rfl) hF
theorem ku_X7_61_1 : xLU RX7 RX1 "DoubledBridge$Bridge" 61 ⟨"DoubledBridge$Bridge", "settle", "(LDoubledBridge$Law;I)V"⟩ yX0_settle cX0_settle 5 (Option.none : Option Jvm.ClassFile.FieldType) 2 := ⟨List.forall_mem_cons.mpr ⟨kw2_96, List.forall_mem_cons.mpr ⟨kw2_98, List.forall_mem_cons.mpr ⟨kw2_99, List.forall_mem_cons.mpr ⟨kw2_97, List.forall_mem_cons.mpr ⟨kw1_6, List.forall_mem_cons.mpr ⟨kw2_104, fun _ h => absurd h List.not_mem_nil⟩⟩⟩⟩⟩⟩, Or.inl rfl, by decide, by decide, by decide +kernel⟩
theorem ku_X7_61_4 : xLU RX7 RX4 "DoubledBridge$Bridge" 61 ⟨"DoubledBridge$Bridge", "settle", "(LDoubledBridge$Law;I)V"⟩ yX0_settle cX0_settle 5 (Option.none : Option Jvm.ClassFile.FieldType) 2 := ⟨List.forall_mem_cons.mpr ⟨kw2_96, List.forall_mem_cons.mpr ⟨kw2_98, List.forall_mem_cons.mpr ⟨kw2_100, List.forall_mem_cons.mpr ⟨kw2_97, List.forall_mem_cons.mpr ⟨kw1_6, List.forall_mem_cons.mpr ⟨kw2_104, fun _ h => absurd h List.not_mem_nil⟩⟩⟩⟩⟩⟩, Or.inl rfl, by decide, by decide, by decide +kernel⟩
theorem ku_X7_61_5 : xLU RX7 RX5 "DoubledBridge$Bridge" 61 ⟨"DoubledBridge$Bridge", "settle", "(LDoubledBridge$Law;I)V"⟩ yX0_settle cX0_settle 5 (Option.none : Option Jvm.ClassFile.FieldType) 2 := ⟨List.forall_mem_cons.mpr ⟨kw2_96, List.forall_mem_cons.mpr ⟨kw2_98, List.forall_mem_cons.mpr ⟨kw2_101, List.forall_mem_cons.mpr ⟨kw2_97, List.forall_mem_cons.mpr ⟨kw1_6, List.forall_mem_cons.mpr ⟨kw2_104, fun _ h => absurd h List.not_mem_nil⟩⟩⟩⟩⟩⟩, Or.inl rfl, by decide, by decide, by decide +kernel⟩
theorem ku_X7_61_6 : xLU RX7 RX6 "DoubledBridge$Bridge" 61 ⟨"DoubledBridge$Bridge", "settle", "(LDoubledBridge$Law;I)V"⟩ yX0_settle cX0_settle 5 (Option.none : Option Jvm.ClassFile.FieldType) 2 := ⟨List.forall_mem_cons.mpr ⟨kw2_96, List.forall_mem_cons.mpr ⟨kw2_98, List.forall_mem_cons.mpr ⟨kw2_102, List.forall_mem_cons.mpr ⟨kw2_97, List.forall_mem_cons.mpr ⟨kw1_6, List.forall_mem_cons.mpr ⟨kw2_104, fun _ h => absurd h List.not_mem_nil⟩⟩⟩⟩⟩⟩, Or.inl rfl, by decide, by decide, by decide +kernel⟩
theorem ku_X7_61_9 : xLU RX7 RX9 "DoubledBridge$Bridge" 61 ⟨"DoubledBridge$Bridge", "settle", "(LDoubledBridge$Law;I)V"⟩ yX0_settle cX0_settle 5 (Option.none : Option Jvm.ClassFile.FieldType) 2 := ⟨List.forall_mem_cons.mpr ⟨kw2_96, List.forall_mem_cons.mpr ⟨kw2_98, List.forall_mem_cons.mpr ⟨kw2_103, List.forall_mem_cons.mpr ⟨kw2_97, List.forall_mem_cons.mpr ⟨kw1_6, List.forall_mem_cons.mpr ⟨kw2_104, fun _ h => absurd h List.not_mem_nil⟩⟩⟩⟩⟩⟩, Or.inl rfl, by decide, by decide, by decide +kernel⟩
theorem kB_X7_61 {p : Program} {l : Launch} {e : Env} {R : Room} {s : State} {m : MethodId} {args : Array Value} {below : List Frame} {meth : Method} {c : Code} {H : Heap} {locs : List Loc} {cells slots : Nat} {Q : State → Prop} {cc : ByteArray} {pc : Nat} {ls : Array Slot} {rest : List Value} {G : xG} {A : Nat → Prop} {a nL : Nat} {H0 : Heap} {ret : Option FieldType} {t : xT} {lv : List (Nat × Value)} (hE : xE p s m args meth c cc RX7 G nL ret) (hl : lv_has ls nL lv) (hD : tD G A H0 t H locs) (hk : isBk (tK t a)) {xa : Nat} {xb : Int32} {v : xT} (hF : F_X0_settle t a xa xb = some v) (hr : (rest.map fun v => v.category).sum ≤ 8) (hdg : decode cc pc = .ok (.invokevirtual 61, 3)) (hR : 5 + 1 ≤ R.frames ∧ 8 + (5 + 11) + 40 * 5 ≤ R.locals) (hR2 : cells ≤ R.cells ∧ slots ≤ R.slots) (kk : ∀ (H1 : Heap) (locs1 : List Loc), tD G A H0 v H1 locs1 → W p l e R s m args below meth c H1 locs1 cells slots Q (F0 m (pc + 3) ls (rest))) : W p l e R s m args below meth c H locs cells slots Q (F0 m pc ls (.int xb :: .ref xa :: .ref a :: rest)) := by
  rcases hk with h | h | h | h | h
  · exact kUv (As := [.ref xa, .int xb]) (rest := rest) hE hl hD (c_X0_settle hF) ku_X7_61_1 (tE_1 h) rfl rfl rfl rfl hr hdg ⟨by have := hR.1; omega, by have := hR.2; omega⟩ hR2 kk
  · exact kUv (As := [.ref xa, .int xb]) (rest := rest) hE hl hD (c_X0_settle hF) ku_X7_61_4 (tE_4 h) rfl rfl rfl rfl hr hdg ⟨by have := hR.1; omega, by have := hR.2; omega⟩ hR2 kk
  · exact kUv (As := [.ref xa, .int xb]) (rest := rest) hE hl hD (c_X0_settle hF) ku_X7_61_5 (tE_5 h) rfl rfl rfl rfl hr hdg ⟨by have := hR.1; omega, by have := hR.2; omega⟩ hR2 kk
  · exact kUv (As := [.ref xa, .int xb]) (rest := rest) hE hl hD (c_X0_settle hF) ku_X7_61_6 (tE_6 h) rfl rfl rfl rfl hr hdg ⟨by have := hR.1; omega, by have := hR.2; omega⟩ hR2 kk
  · exact kUv (As := [.ref xa, .int xb]) (rest := rest) hE hl hD (c_X0_settle hF) ku_X7_61_9 (tE_9 h) rfl rfl rfl rfl hr hdg ⟨by have := hR.1; omega, by have := hR.2; omega⟩ hR2 kk
def F_X7_replace_j32 (u : xT) (a0 : Nat) : Option (xT) := some u
theorem B_X7_replace_j32 {p : Program} {l : Launch} {e : Env} {s : State} {m : MethodId} {args : Array Value} {below : List Frame} {meth : Method} {cd : Code} {G : xG} {w0 : xW} {rr : (xT)} (hE : xE p s m args meth cd cX7_replace RX7 G 3 (Option.none : Option Jvm.ClassFile.FieldType)) {u : xT} {a0 : Nat} {H : Heap} {locs : List Loc} {ls : Array Slot} (hD : tD G (xA w0 s.heap.size) s.heap u H locs) (hl : lv_has ls 3 [(0, .ref a0)]) (hF : F_X7_replace_j32 u a0 = some rr) : W p l e (xR 6 0 0) s m args below meth cd H locs 0 0 (xQv G w0 (fun z => z = ((tE G rr), rr.1)) below args s 0 0) (F0 m 32 ls []) := by
  have hx := hE.1; have hb := hE.2.1
  unfold F_X7_replace_j32 at hF
  obtain rfl := Option.some.inj hF
  exact x_vret hE hD rfl (by omega) (by omega) dX7_replace_32
def F_X7_replace (u : xT) (a0 : Nat) (xa : Int32) (xb : Nat) : Option (xT) := if xa < 0 then F_X7_replace_j32 u a0 else if tK u a0 = 7 then (tP u a0 0).bind (fun q3 => if tK u q3 = 22 then if (nI (tN u q3)) ≤ xa then F_X7_replace_j32 u a0 else (tP u a0 0).bind (fun q7 => if tK u q7 = 22 then if isBk (tK u xb) then if xIn xa (tN u q7) then xlet (tSP u q7 xa.toNatClampNeg (some xb)) (fun t10 => (tP t10 a0 3).bind (fun q17 => (F_X0_settle t10 xb q17 (tI t10 a0 2)).bind (fun r19 => F_X7_replace_j32 r19 a0))) else none else none else none) else none) else none
theorem c_X7_replace {l : Launch} {G : xG} {rr : (xT)} {u : xT} {a0 : Nat} {xa : Int32} {xb : Nat} (hF : F_X7_replace u a0 xa xb = some rr) : xMv l G yX7_replace cX7_replace 3 (Option.none : Option Jvm.ClassFile.FieldType) 6 0 0 [.ref a0, .int xa, .ref xb] (tE G u) u.1 (fun z => z = ((tE G rr), rr.1)) := by
  unfold F_X7_replace at hF
  refine x_startV rfl (Nat.le_of_ble_eq_true rfl) (fun p e s m args below meth cd ls hE hnm hl hD => ?_)
  have hx := hE.1; have hb := hE.2.1
  have hl : lv_has ls 3 [(0, .ref a0), (1, .int xa), (2, .ref xb)] := hl
  have hD : tD G (xA (tE G u) s.heap.size) s.heap u s.heap [] := hD
  refine lv_iload_n hx hb dX7_replace_0 rfl (lv_at hl 1 rfl) ?_
  refine lv_if_lt (tgt := 32) hx hb dX7_replace_1 (by decide) (fun c1 => ?_) (fun c1 => ?_)
  · have hF := ite_p hF c1
    exact B_X7_replace_j32 hE hD (lv_sub hl [0] rfl) hF
  · have hF := ite_n hF c1
    refine lv_iload_n hx hb dX7_replace_4 rfl (lv_at hl 1 rfl) ?_
    refine lv_aload_n hx hb dX7_replace_5 rfl (lv_at hl 0 rfl) ?_
    obtain ⟨h2, hF⟩ := ite_s hF
    obtain ⟨q3, h4, hF⟩ := xb_s hF
    refine gr_X7_11 hE hD h2 h4 dX7_replace_6 ?_
    obtain ⟨h5, hF⟩ := ite_s hF
    refine t_alenB hE hD h5 dX7_replace_9 ?_
    refine lv_icmp_ge (tgt := 32) hx hb dX7_replace_10 (by decide) (fun c6 => ?_) (fun c6 => ?_)
    · have hF := ite_p hF c6
      exact B_X7_replace_j32 hE hD (lv_sub hl [0] rfl) hF
    · have hF := ite_n hF c6
      refine lv_aload_n hx hb dX7_replace_13 rfl (lv_at hl 0 rfl) ?_
      obtain ⟨q7, h8, hF⟩ := xb_s hF
      refine gr_X7_11 hE hD h2 h8 dX7_replace_14 ?_
      refine lv_iload_n hx hb dX7_replace_17 rfl (lv_at hl 1 rfl) ?_
      refine lv_aload_n hx hb dX7_replace_18 rfl (lv_at hl 2 rfl) ?_
      obtain ⟨h9, hF⟩ := ite_s hF
      obtain ⟨h11, hF⟩ := ite_s hF
      obtain ⟨h12, hF⟩ := ite_s hF
      refine t_astB hE hD h9 h11 h12 dX7_replace_19 (fun t10 H locs et10 hD => ?_)
      have hF := xlet_e hF et10
      have h13 : tK t10 a0 = 7 := by rw [et10]; exact h2
      have h14 : tK t10 q3 = 22 := by rw [et10]; exact h5
      have h15 : tK t10 q7 = 22 := by rw [et10]; exact h9
      have h16 : isBk (tK t10 xb) := by rw [et10]; exact h11
      refine lv_aload_n hx hb dX7_replace_20 rfl (lv_at hl 2 rfl) ?_
      refine lv_aload_n hx hb dX7_replace_21 rfl (lv_at hl 0 rfl) ?_
      obtain ⟨q17, h18, hF⟩ := xb_s hF
      refine gr_X7_27 hE hD h13 h18 dX7_replace_22 ?_
      refine lv_aload_n hx hb dX7_replace_25 rfl (lv_at hl 0 rfl) ?_
      refine gf_X7_21 hE hD h13 dX7_replace_26 ?_
      obtain ⟨r19, k20, hF⟩ := xb_s hF
      refine kB_X7_61 (rest := []) hE hl hD h16 k20 (Nat.le_of_ble_eq_true rfl) dX7_replace_29 ⟨Nat.le_of_ble_eq_true rfl, Nat.le_of_ble_eq_true rfl⟩ ⟨Nat.le_of_ble_eq_true rfl, Nat.le_of_ble_eq_true rfl⟩ (fun H locs (hD : tD G _ _ r19 H locs) => ?_)
      exact B_X7_replace_j32 hE hD (lv_sub hl [0] rfl) hF
theorem kn_X7_53 : xLN RX7 53 yX11_made cX11_made 5 (Option.some (Jvm.ClassFile.FieldType.object "DoubledBridge$Bridge")) 5 := ⟨⟨kw1_207, kw1_1, kw1_208⟩, by decide, by decide, by decide, by decide +kernel⟩
def F_X7_build (u : xT) (a0 : Nat) (xa : Int32) (xb : Int32) (xc : Int32) (xd : Int32) : Option (Int32 × xT) := if tK u a0 = 7 then (tP u a0 0).bind (fun q2 => if tK u q2 = 22 then if (tI u a0 1) < (nI (tN u q2)) then xlet (tI u a0 1) (fun x6 => xlet (tSI u a0 1 ((tI u a0 1) + (1 : Int32))) (fun t7 => (F_X11_made t7 xa x6 xb xc xd).bind (fun r10 => xopt (r10.1) (none) (fun q12 => if tK r10.2 a0 = 7 then (F_X7_replace r10.2 a0 x6 q12).bind (fun r15 => some (x6, r15)) else none)))) else some ((-2 : Int32), u) else none) else none
theorem c_X7_build {l : Launch} {G : xG} {rr : (Int32 × xT)} {u : xT} {a0 : Nat} {xa : Int32} {xb : Int32} {xc : Int32} {xd : Int32} (hF : F_X7_build u a0 xa xb xc xd = some rr) : xMi l G yX7_build cX7_build 6 (Option.some Jvm.ClassFile.FieldType.int) 7 1 8 [.ref a0, .int xa, .int xb, .int xc, .int xd] (tE G u) u.1 (fun r z => r = rr.1 ∧ z = ((tE G rr.2), rr.2.1)) := by
  unfold F_X7_build at hF
  refine x_startI rfl (Nat.le_of_ble_eq_true rfl) (fun p e s m args below meth cd ls hE hnm hl hD => ?_)
  have hx := hE.1; have hb := hE.2.1
  have hl : lv_has ls 6 [(0, .ref a0), (1, .int xa), (2, .int xb), (3, .int xc), (4, .int xd)] := hl
  have hD : tD G (xA (tE G u) s.heap.size) s.heap u s.heap [] := hD
  refine lv_aload_n hx hb dX7_build_0 rfl (lv_at hl 0 rfl) ?_
  obtain ⟨h1, hF⟩ := ite_s hF
  refine gf_X7_17 hE hD h1 dX7_build_1 ?_
  refine lv_aload_n hx hb dX7_build_4 rfl (lv_at hl 0 rfl) ?_
  obtain ⟨q2, h3, hF⟩ := xb_s hF
  refine gr_X7_11 hE hD h1 h3 dX7_build_5 ?_
  obtain ⟨h4, hF⟩ := ite_s hF
  refine t_alenB hE hD h4 dX7_build_8 ?_
  refine lv_icmp_lt (tgt := 15) hx hb dX7_build_9 (by decide) (fun c5 => ?_) (fun c5 => ?_)
  · have hF := ite_p hF c5
    refine lv_aload_n hx hb dX7_build_15 rfl (lv_at hl 0 rfl) ?_
    refine gf_X7_17 hE hD h1 dX7_build_16 ?_
    refine lv_topi (fun x6 ex6 => ?_)
    have hF := xlet_e hF ex6
    refine lv_istore (lv' := [(5, .int x6), (0, .ref a0), (1, .int xa), (2, .int xb), (3, .int xc), (4, .int xd)]) hx hb dX7_build_19 hl (by decide) rfl (fun ls hl => ?_)
    refine lv_aload_n hx hb dX7_build_21 rfl (lv_at hl 1 rfl) ?_
    refine lv_dup hx hb dX7_build_22 rfl ?_
    refine gf_X7_17 hE hD h1 dX7_build_23 ?_
    refine lv_iconst (v := (1 : Int32)) hx hb dX7_build_26 (by decide) ?_
    refine lv_iadd hx hb dX7_build_27 ?_
    refine pf_X7_17 hE hD h1 dX7_build_28 (fun t7 H locs et7 hD => ?_)
    have hF := xlet_e hF et7
    have h8 : tK t7 a0 = 7 := by rw [et7]; exact h1
    have h9 : tK t7 q2 = 22 := by rw [et7]; exact h4
    refine lv_aload_n hx hb dX7_build_31 rfl (lv_at hl 1 rfl) ?_
    refine lv_iload hx hb dX7_build_32 (lv_at hl 0 rfl) ?_
    refine lv_iload_n hx hb dX7_build_34 rfl (lv_at hl 2 rfl) ?_
    refine lv_iload hx hb dX7_build_35 (lv_at hl 0 rfl) ?_
    refine lv_iload_n hx hb dX7_build_37 rfl (lv_at hl 3 rfl) ?_
    refine lv_iload_n hx hb dX7_build_38 rfl (lv_at hl 4 rfl) ?_
    refine lv_iload hx hb dX7_build_39 (lv_at hl 5 rfl) ?_
    obtain ⟨r10, k11, hF⟩ := xb_s hF
    refine kNqA (As := [.int xa, .int x6, .int xb, .int xc, .int xd]) (rest := [.int x6, .ref a0]) hE hl hD (c_X11_made k11) kn_X7_53 rfl rfl (Nat.le_of_ble_eq_true rfl) dX7_build_41 ⟨Nat.le_of_ble_eq_true rfl, Nat.le_of_ble_eq_true rfl⟩ ⟨(by show 0 + 1 ≤ 1; omega), (by show 0 + 8 ≤ 8; omega)⟩ (fun H locs (hD : tD G _ _ r10.2 H locs) => ?_)
    refine t_split hF (fun h13 hF => ?_) (fun q12 h13 hF => ?_)
    · cases hF
    · obtain ⟨h14, hF⟩ := ite_s hF
      obtain ⟨r15, k16, hF⟩ := xb_s hF
      refine kVv (As := [.int x6, .ref q12]) (rest := []) hE hl hD (c_X7_replace k16) kl_X7_57 (tE_7 h14) rfl rfl rfl rfl (Nat.le_of_ble_eq_true rfl) dX7_build_44 ⟨Nat.le_of_ble_eq_true rfl, Nat.le_of_ble_eq_true rfl⟩ ⟨(by show 0 + 1 ≤ 1; omega), (by show 0 + 8 ≤ 8; omega)⟩ (fun H locs (hD : tD G _ _ r15 H locs) => ?_)
      refine lv_iload hx hb dX7_build_47 (lv_at hl 0 rfl) ?_
      obtain rfl := Option.some.inj hF
      exact x_iret hE hD ⟨rfl, rfl⟩ (by omega) (by omega) dX7_build_49
  · have hF := ite_n hF c5
    refine lv_bipush (v := (-2 : Int32)) hx hb dX7_build_12 (by decide) ?_
    obtain rfl := Option.some.inj hF
    exact x_iret hE hD ⟨rfl, rfl⟩ (by omega) (by omega) dX7_build_14
def F_X7_settle_j32 (kc2 : xT → Nat → Int32 → Option (xT)) (u : xT) (a0 : Nat) (y1 : Int32) : Option (xT) := xlet (y1 + (1 : Int32)) (fun x1 => kc2 u a0 x1)
theorem B_X7_settle_j32 {p : Program} {l : Launch} {e : Env} {s : State} {m : MethodId} {args : Array Value} {below : List Frame} {meth : Method} {cd : Code} {G : xG} {w0 : xW} {rr : (xT)} (hE : xE p s m args meth cd cX7_settle RX7 G 3 (Option.none : Option Jvm.ClassFile.FieldType)) {u : xT} (kc2 : xT → Nat → Int32 → Option (xT)) (hc2 : ∀ {u1 : xT} {a0 : Nat} {y1 : Int32} {H : Heap} {locs : List Loc} {ls : Array Slot} , tD G (xA w0 s.heap.size) s.heap u1 H locs → lv_has ls 3 [(0, .ref a0), (1, .int y1)] → kc2 u1 a0 y1 = some rr → W p l e (xR 6 0 0) s m args below meth cd H locs 0 0 (xQv G w0 (fun z => z = ((tE G rr), rr.1)) below args s 0 0) (F0 m 2 ls [])) {a0 : Nat} {y1 : Int32} {H : Heap} {locs : List Loc} {ls : Array Slot} (hD : tD G (xA w0 s.heap.size) s.heap u H locs) (hl : lv_has ls 3 [(0, .ref a0), (1, .int y1)]) (hF : F_X7_settle_j32 kc2 u a0 y1 = some rr) : W p l e (xR 6 0 0) s m args below meth cd H locs 0 0 (xQv G w0 (fun z => z = ((tE G rr), rr.1)) below args s 0 0) (F0 m 32 ls []) := by
  have hx := hE.1; have hb := hE.2.1
  unfold F_X7_settle_j32 at hF
  obtain ⟨x1, ex1⟩ : ∃ y : Int32, y = y1 + (1 : Int32) := ⟨_, rfl⟩
  have hF := xlet_e hF ex1
  refine lv_iinc (v := x1) (lv' := [(1, .int x1), (0, .ref a0)]) hx hb dX7_settle_32 hl (k := 1) rfl (by rw [ex1]; rfl) (by decide) rfl (fun ls hl => ?_)
  refine lv_goto (tgt := 2) hx hb dX7_settle_35 (by decide) ?_
  exact hc2 hD (lv_sub hl [1, 0] rfl) hF
def F_X7_settle_l2 : Nat → xT → Nat → Int32 → Option (xT)
  | 0, _, _, _ => none
  | nn + 1, u, a0, y1 => if tK u a0 = 7 then if (tI u a0 1) ≤ y1 then some u else (F_X7_bridgeAt u a0 y1).bind (fun r4 => xopt (r4) (F_X7_settle_j32 (F_X7_settle_l2 nn) u a0 y1) (fun q6 => (tP u a0 3).bind (fun q8 => if isBk (tK u q6) then (F_X0_settle u q6 q8 (tI u a0 2)).bind (fun r11 => F_X7_settle_j32 (F_X7_settle_l2 nn) r11 a0 y1) else none))) else none
theorem L_X7_settle_l2 {p : Program} {l : Launch} {e : Env} {s : State} {m : MethodId} {args : Array Value} {below : List Frame} {meth : Method} {cd : Code} {G : xG} {w0 : xW} {rr : (xT)} (hE : xE p s m args meth cd cX7_settle RX7 G 3 (Option.none : Option Jvm.ClassFile.FieldType)) : ∀ (nn : Nat) {u : xT} {a0 : Nat} {y1 : Int32} {H : Heap} {locs : List Loc} {ls : Array Slot} , tD G (xA w0 s.heap.size) s.heap u H locs → lv_has ls 3 [(0, .ref a0), (1, .int y1)] → F_X7_settle_l2 nn u a0 y1 = some rr → W p l e (xR 6 0 0) s m args below meth cd H locs 0 0 (xQv G w0 (fun z => z = ((tE G rr), rr.1)) below args s 0 0) (F0 m 2 ls []) := by
  have hx := hE.1; have hb := hE.2.1
  intro nn
  induction nn with
  | zero => intro u a0 y1 H locs ls hD hl hF; rw [F_X7_settle_l2] at hF; cases hF
  | succ nn ih =>
    intro u a0 y1 H locs ls hD hl hF
    rw [F_X7_settle_l2] at hF
    refine lv_iload_n hx hb dX7_settle_2 rfl (lv_at hl 1 rfl) ?_
    refine lv_aload_n hx hb dX7_settle_3 rfl (lv_at hl 0 rfl) ?_
    obtain ⟨h2, hF⟩ := ite_s hF
    refine gf_X7_17 hE hD h2 dX7_settle_4 ?_
    refine lv_icmp_ge (tgt := 38) hx hb dX7_settle_7 (by decide) (fun c3 => ?_) (fun c3 => ?_)
    · have hF := ite_p hF c3
      obtain rfl := Option.some.inj hF
      exact x_vret hE hD rfl (by omega) (by omega) dX7_settle_38
    · have hF := ite_n hF c3
      refine lv_aload_n hx hb dX7_settle_10 rfl (lv_at hl 0 rfl) ?_
      refine lv_iload_n hx hb dX7_settle_11 rfl (lv_at hl 1 rfl) ?_
      obtain ⟨r4, k5, hF⟩ := xb_s hF
      refine kVq (As := [.int y1]) (rest := []) hE hl hD (c_X7_bridgeAt k5) kl_X7_65 (tE_7 h2) rfl rfl rfl rfl (Nat.le_of_ble_eq_true rfl) dX7_settle_12 ⟨Nat.le_of_ble_eq_true rfl, Nat.le_of_ble_eq_true rfl⟩ ⟨Nat.le_of_ble_eq_true rfl, Nat.le_of_ble_eq_true rfl⟩ (fun H locs (hD : tD G _ _ u H locs) => ?_)
      refine t_split hF (fun h7 hF => ?_) (fun q6 h7 hF => ?_)
      · refine lv_astore_nN (lv' := [(2, .null), (0, .ref a0), (1, .int y1)]) hx hb dX7_settle_15 rfl hl (by decide) rfl (fun ls hl => ?_)
        refine lv_aload_nN hx hb dX7_settle_16 rfl (lv_at hl 0 rfl) ?_
        refine lv_ifnullN (tgt := 32) hx hb dX7_settle_17 (by decide) ?_
        exact B_X7_settle_j32 hE (F_X7_settle_l2 nn) ih hD (lv_sub hl [1, 2] rfl) hF
      · refine lv_astore_n (lv' := [(2, .ref q6), (0, .ref a0), (1, .int y1)]) hx hb dX7_settle_15 rfl hl (by decide) rfl (fun ls hl => ?_)
        refine lv_aload_n hx hb dX7_settle_16 rfl (lv_at hl 0 rfl) ?_
        refine lv_ifnull hx hb dX7_settle_17 ?_
        refine lv_aload_n hx hb dX7_settle_20 rfl (lv_at hl 0 rfl) ?_
        refine lv_aload_n hx hb dX7_settle_21 rfl (lv_at hl 1 rfl) ?_
        obtain ⟨q8, h9, hF⟩ := xb_s hF
        refine gr_X7_27 hE hD h2 h9 dX7_settle_22 ?_
        refine lv_aload_n hx hb dX7_settle_25 rfl (lv_at hl 1 rfl) ?_
        refine gf_X7_21 hE hD h2 dX7_settle_26 ?_
        obtain ⟨h10, hF⟩ := ite_s hF
        obtain ⟨r11, k12, hF⟩ := xb_s hF
        refine kB_X7_61 (rest := []) hE hl hD h10 k12 (Nat.le_of_ble_eq_true rfl) dX7_settle_29 ⟨Nat.le_of_ble_eq_true rfl, Nat.le_of_ble_eq_true rfl⟩ ⟨Nat.le_of_ble_eq_true rfl, Nat.le_of_ble_eq_true rfl⟩ (fun H locs (hD : tD G _ _ r11 H locs) => ?_)
        exact B_X7_settle_j32 hE (F_X7_settle_l2 nn) ih hD (lv_sub hl [1, 2] rfl) hF
def F_X7_settle (u : xT) (a0 : Nat) : Option (xT) := F_X7_settle_l2 xFuel u a0 (0 : Int32)
theorem c_X7_settle {l : Launch} {G : xG} {rr : (xT)} {u : xT} {a0 : Nat} (hF : F_X7_settle u a0 = some rr) : xMv l G yX7_settle cX7_settle 3 (Option.none : Option Jvm.ClassFile.FieldType) 6 0 0 [.ref a0] (tE G u) u.1 (fun z => z = ((tE G rr), rr.1)) := by
  unfold F_X7_settle at hF
  refine x_startV rfl (Nat.le_of_ble_eq_true rfl) (fun p e s m args below meth cd ls hE hnm hl hD => ?_)
  have hx := hE.1; have hb := hE.2.1
  have hl : lv_has ls 3 [(0, .ref a0)] := hl
  have hD : tD G (xA (tE G u) s.heap.size) s.heap u s.heap [] := hD
  refine lv_iconst (v := (0 : Int32)) hx hb dX7_settle_0 (by decide) ?_
  refine lv_istore_n (lv' := [(1, .int (0 : Int32)), (0, .ref a0)]) hx hb dX7_settle_1 rfl hl (by decide) rfl (fun ls hl => ?_)
  exact L_X7_settle_l2 hE _ hD (lv_sub hl [1, 0] rfl) hF
