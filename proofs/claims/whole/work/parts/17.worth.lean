/-! ===== the class: worth (printed by wip/whole/gen/run3.py) ===== -/
theorem ku_X11_372_1 : xLU RX11 RX1 "DoubledBridge$Bridge" 372 ⟨"DoubledBridge$Bridge", "becomesBy", "(II)I"⟩ yX0_becomesBy cX0_becomesBy 5 (Option.some Jvm.ClassFile.FieldType.int) 2 := ⟨List.forall_mem_cons.mpr ⟨kw4_143, List.forall_mem_cons.mpr ⟨kw3_153, List.forall_mem_cons.mpr ⟨kw3_154, List.forall_mem_cons.mpr ⟨kw3_152, List.forall_mem_cons.mpr ⟨kw1_6, List.forall_mem_cons.mpr ⟨kw3_159, fun _ h => absurd h List.not_mem_nil⟩⟩⟩⟩⟩⟩, Or.inl rfl, by decide, by decide, by decide +kernel⟩
theorem ku_X11_372_4 : xLU RX11 RX4 "DoubledBridge$Bridge" 372 ⟨"DoubledBridge$Bridge", "becomesBy", "(II)I"⟩ yX0_becomesBy cX0_becomesBy 5 (Option.some Jvm.ClassFile.FieldType.int) 2 := ⟨List.forall_mem_cons.mpr ⟨kw4_143, List.forall_mem_cons.mpr ⟨kw3_153, List.forall_mem_cons.mpr ⟨kw3_155, List.forall_mem_cons.mpr ⟨kw3_152, List.forall_mem_cons.mpr ⟨kw1_6, List.forall_mem_cons.mpr ⟨kw3_159, fun _ h => absurd h List.not_mem_nil⟩⟩⟩⟩⟩⟩, Or.inl rfl, by decide, by decide, by decide +kernel⟩
theorem ku_X11_372_5 : xLU RX11 RX5 "DoubledBridge$Bridge" 372 ⟨"DoubledBridge$Bridge", "becomesBy", "(II)I"⟩ yX0_becomesBy cX0_becomesBy 5 (Option.some Jvm.ClassFile.FieldType.int) 2 := ⟨List.forall_mem_cons.mpr ⟨kw4_143, List.forall_mem_cons.mpr ⟨kw3_153, List.forall_mem_cons.mpr ⟨kw3_156, List.forall_mem_cons.mpr ⟨kw3_152, List.forall_mem_cons.mpr ⟨kw1_6, List.forall_mem_cons.mpr ⟨kw3_159, fun _ h => absurd h List.not_mem_nil⟩⟩⟩⟩⟩⟩, Or.inl rfl, by decide, by decide, by decide +kernel⟩
theorem ku_X11_372_6 : xLU RX11 RX6 "DoubledBridge$Bridge" 372 ⟨"DoubledBridge$Bridge", "becomesBy", "(II)I"⟩ yX0_becomesBy cX0_becomesBy 5 (Option.some Jvm.ClassFile.FieldType.int) 2 := ⟨List.forall_mem_cons.mpr ⟨kw4_143, List.forall_mem_cons.mpr ⟨kw3_153, List.forall_mem_cons.mpr ⟨kw3_157, List.forall_mem_cons.mpr ⟨kw3_152, List.forall_mem_cons.mpr ⟨kw1_6, List.forall_mem_cons.mpr ⟨kw3_159, fun _ h => absurd h List.not_mem_nil⟩⟩⟩⟩⟩⟩, Or.inl rfl, by decide, by decide, by decide +kernel⟩
theorem ku_X11_372_9 : xLU RX11 RX9 "DoubledBridge$Bridge" 372 ⟨"DoubledBridge$Bridge", "becomesBy", "(II)I"⟩ yX0_becomesBy cX0_becomesBy 5 (Option.some Jvm.ClassFile.FieldType.int) 2 := ⟨List.forall_mem_cons.mpr ⟨kw4_143, List.forall_mem_cons.mpr ⟨kw3_153, List.forall_mem_cons.mpr ⟨kw3_158, List.forall_mem_cons.mpr ⟨kw3_152, List.forall_mem_cons.mpr ⟨kw1_6, List.forall_mem_cons.mpr ⟨kw3_159, fun _ h => absurd h List.not_mem_nil⟩⟩⟩⟩⟩⟩, Or.inl rfl, by decide, by decide, by decide +kernel⟩
theorem kB_X11_372 {p : Program} {l : Launch} {e : Env} {R : Room} {s : State} {m : MethodId} {args : Array Value} {below : List Frame} {meth : Method} {c : Code} {H : Heap} {locs : List Loc} {cells slots : Nat} {Q : State → Prop} {cc : ByteArray} {pc : Nat} {ls : Array Slot} {rest : List Value} {G : xG} {A : Nat → Prop} {a nL : Nat} {H0 : Heap} {ret : Option FieldType} {t : xT} {lv : List (Nat × Value)} (hE : xE p s m args meth c cc RX11 G nL ret) (hl : lv_has ls nL lv) (hD : tD G A H0 t H locs) (hk : isBk (tK t a)) {xa : Int32} {xb : Int32} {v : Int32} (hF : F_X0_becomesBy t a xa xb = some v) (hr : (rest.map fun v => v.category).sum ≤ 8) (hdg : decode cc pc = .ok (.invokevirtual 372, 3)) (hR : 4 + 1 ≤ R.frames ∧ 8 + (5 + 11) + 40 * 4 ≤ R.locals) (hR2 : cells ≤ R.cells ∧ slots ≤ R.slots) (kk : ∀ (H1 : Heap) (locs1 : List Loc), tD G A H0 t H1 locs1 → W p l e R s m args below meth c H1 locs1 cells slots Q (F0 m (pc + 3) ls (.int v :: rest))) : W p l e R s m args below meth c H locs cells slots Q (F0 m pc ls (.int xb :: .int xa :: .ref a :: rest)) := by
  rcases hk with h | h | h | h | h
  · exact kUi (As := [.int xa, .int xb]) (rest := rest) hE hl hD (c_X0_becomesBy hF) ku_X11_372_1 (tE_1 h) rfl rfl rfl rfl hr hdg ⟨by have := hR.1; omega, by have := hR.2; omega⟩ hR2 kk
  · exact kUi (As := [.int xa, .int xb]) (rest := rest) hE hl hD (c_X0_becomesBy hF) ku_X11_372_4 (tE_4 h) rfl rfl rfl rfl hr hdg ⟨by have := hR.1; omega, by have := hR.2; omega⟩ hR2 kk
  · exact kUi (As := [.int xa, .int xb]) (rest := rest) hE hl hD (c_X0_becomesBy hF) ku_X11_372_5 (tE_5 h) rfl rfl rfl rfl hr hdg ⟨by have := hR.1; omega, by have := hR.2; omega⟩ hR2 kk
  · exact kUi (As := [.int xa, .int xb]) (rest := rest) hE hl hD (c_X0_becomesBy hF) ku_X11_372_6 (tE_6 h) rfl rfl rfl rfl hr hdg ⟨by have := hR.1; omega, by have := hR.2; omega⟩ hR2 kk
  · exact kUi (As := [.int xa, .int xb]) (rest := rest) hE hl hD (c_X0_becomesBy hF) ku_X11_372_9 (tE_9 h) rfl rfl rfl rfl hr hdg ⟨by have := hR.1; omega, by have := hR.2; omega⟩ hR2 kk
def F_X11_worthOfCrossing_j17 (kr : xT → Nat → Int32 → Int32 → Int32 → Option Int64) (u : xT)  : Option Int64 := some (-1 : Int64)
theorem B_X11_worthOfCrossing_j17 {p : Program} {l : Launch} {e : Env} {s : State} {m : MethodId} {args : Array Value} {below : List Frame} {meth : Method} {cd : Code} {G : xG} {w0 : xW} {rr : Int64} (hE : xE p s m args meth cd cX11_worthOfCrossing RX11 G 6 (Option.some Jvm.ClassFile.FieldType.long)) {kr : xT → Nat → Int32 → Int32 → Int32 → Option Int64} {dd : Nat} (hkr : ∀ {u : xT} {xa : Nat} {xb xc xd : Int32} {rr : Int64}, kr u xa xb xc xd = some rr → xMl l G yX11_worthOf cX11_worthOf 4 (Option.some Jvm.ClassFile.FieldType.long) dd 0 0 [.ref xa, .int xb, .int xc, .int xd] (tE G u) u.1 (fun r z => r = rr ∧ z = (tE G u, u.1))) {u : xT}  {H : Heap} {locs : List Loc} {ls : Array Slot} (hD : tD G (xA w0 s.heap.size) s.heap u H locs) (hl : lv_has ls 6 []) (hF : F_X11_worthOfCrossing_j17 kr u  = some rr) : W p l e (xR (dd + 20) 0 0) s m args below meth cd H locs 0 0 (xQl G w0 (fun r z => r = rr ∧ z = ((tE G u), u.1)) below args s 0 0) (F0 m 17 ls []) := by
  have hx := hE.1; have hb := hE.2.1
  unfold F_X11_worthOfCrossing_j17 at hF
  refine lv_ldc2 (v := (-1 : Int64)) hx hb hE.2.2.1 (hE.2.2.2.1 _ kw4_133) dX11_worthOfCrossing_17 ?_
  obtain rfl := Option.some.inj hF
  exact x_lret hE hD ⟨rfl, rfl⟩ (by omega) (by omega) dX11_worthOfCrossing_20
def F_X11_worthOfCrossing (kr : xT → Nat → Int32 → Int32 → Int32 → Option Int64) (u : xT) (xa : Nat) (xb : Int32) (xc : Int32) (xd : Int32) : Option Int64 := if isBk (tK u xa) then (F_X0_becomes u xa xb).bind (fun r2 => if xd < (1 : Int32) then F_X11_worthOfCrossing_j17 kr u else if 0 ≤ r2 then (F_X0_becomesBy u xa ((tI u xa 5) + (1 : Int32)) xb).bind (fun r6 => (kr u xa r6 xc (xd - (1 : Int32))).bind (fun r8 => (kr u xa r2 xc (xd - (1 : Int32))).bind (fun r10 => some ((xc.toInt64 * r8) + ((((100 : Int32) - xc).toInt64) * r10))))) else F_X11_worthOfCrossing_j17 kr u) else none
theorem c_X11_worthOfCrossing {l : Launch} {G : xG} {rr : Int64} {kr : xT → Nat → Int32 → Int32 → Int32 → Option Int64} {dd : Nat} (hkr : ∀ {u : xT} {xa : Nat} {xb xc xd : Int32} {rr : Int64}, kr u xa xb xc xd = some rr → xMl l G yX11_worthOf cX11_worthOf 4 (Option.some Jvm.ClassFile.FieldType.long) dd 0 0 [.ref xa, .int xb, .int xc, .int xd] (tE G u) u.1 (fun r z => r = rr ∧ z = (tE G u, u.1))) {u : xT} {xa : Nat} {xb : Int32} {xc : Int32} {xd : Int32} (hF : F_X11_worthOfCrossing kr u xa xb xc xd = some rr) : xMl l G yX11_worthOfCrossing cX11_worthOfCrossing 6 (Option.some Jvm.ClassFile.FieldType.long) (dd + 20) 0 0 [.ref xa, .int xb, .int xc, .int xd] (tE G u) u.1 (fun r z => r = rr ∧ z = ((tE G u), u.1)) := by
  unfold F_X11_worthOfCrossing at hF
  refine x_startL rfl (Nat.le_of_ble_eq_true rfl) (fun p e s m args below meth cd ls hE hnm hl hD => ?_)
  have hx := hE.1; have hb := hE.2.1
  have hl : lv_has ls 6 [(0, .ref xa), (1, .int xb), (2, .int xc), (3, .int xd)] := hl
  have hD : tD G (xA (tE G u) s.heap.size) s.heap u s.heap [] := hD
  refine lv_aload_n hx hb dX11_worthOfCrossing_0 rfl (lv_at hl 0 rfl) ?_
  refine lv_iload_n hx hb dX11_worthOfCrossing_1 rfl (lv_at hl 1 rfl) ?_
  obtain ⟨h1, hF⟩ := ite_s hF
  obtain ⟨r2, k3, hF⟩ := xb_s hF
  refine kB_X11_173 (rest := []) hE hl hD h1 k3 (Nat.le_of_ble_eq_true rfl) dX11_worthOfCrossing_2 ⟨by show _ + 1 ≤ dd + 20; omega, by show 8 + (_ + 11) + 40 * _ ≤ 40 * (dd + 20); omega⟩ ⟨Nat.le_of_ble_eq_true rfl, Nat.le_of_ble_eq_true rfl⟩ (fun H locs (hD : tD G _ _ u H locs) => ?_)
  refine lv_istore (lv' := [(4, .int r2), (0, .ref xa), (1, .int xb), (2, .int xc), (3, .int xd)]) hx hb dX11_worthOfCrossing_5 hl (by decide) rfl (fun ls hl => ?_)
  refine lv_iload_n hx hb dX11_worthOfCrossing_7 rfl (lv_at hl 4 rfl) ?_
  refine lv_iconst (v := (1 : Int32)) hx hb dX11_worthOfCrossing_8 (by decide) ?_
  refine lv_icmp_lt (tgt := 17) hx hb dX11_worthOfCrossing_9 (by decide) (fun c4 => ?_) (fun c4 => ?_)
  · have hF := ite_p hF c4
    exact B_X11_worthOfCrossing_j17 hE hkr hD (lv_sub hl [] rfl) hF
  · have hF := ite_n hF c4
    refine lv_iload hx hb dX11_worthOfCrossing_12 (lv_at hl 0 rfl) ?_
    refine lv_if_ge (tgt := 21) hx hb dX11_worthOfCrossing_14 (by decide) (fun c5 => ?_) (fun c5 => ?_)
    · have hF := ite_p hF c5
      refine lv_aload_n hx hb dX11_worthOfCrossing_21 rfl (lv_at hl 1 rfl) ?_
      refine lv_aload_n hx hb dX11_worthOfCrossing_22 rfl (lv_at hl 1 rfl) ?_
      refine gf_X11_100 hE hD h1 dX11_worthOfCrossing_23 ?_
      refine lv_iconst (v := (1 : Int32)) hx hb dX11_worthOfCrossing_26 (by decide) ?_
      refine lv_iadd hx hb dX11_worthOfCrossing_27 ?_
      refine lv_iload_n hx hb dX11_worthOfCrossing_28 rfl (lv_at hl 2 rfl) ?_
      obtain ⟨r6, k7, hF⟩ := xb_s hF
      refine kB_X11_372 (rest := []) hE hl hD h1 k7 (Nat.le_of_ble_eq_true rfl) dX11_worthOfCrossing_29 ⟨by show _ + 1 ≤ dd + 20; omega, by show 8 + (_ + 11) + 40 * _ ≤ 40 * (dd + 20); omega⟩ ⟨Nat.le_of_ble_eq_true rfl, Nat.le_of_ble_eq_true rfl⟩ (fun H locs (hD : tD G _ _ u H locs) => ?_)
      refine lv_istore (lv' := [(5, .int r6), (4, .int r2), (0, .ref xa), (1, .int xb), (2, .int xc), (3, .int xd)]) hx hb dX11_worthOfCrossing_32 hl (by decide) rfl (fun ls hl => ?_)
      refine lv_iload_n hx hb dX11_worthOfCrossing_34 rfl (lv_at hl 4 rfl) ?_
      refine lv_i2l (v := xc.toInt64) hx hb dX11_worthOfCrossing_35 rfl ?_
      refine lv_aload_n hx hb dX11_worthOfCrossing_36 rfl (lv_at hl 2 rfl) ?_
      refine lv_iload hx hb dX11_worthOfCrossing_37 (lv_at hl 0 rfl) ?_
      refine lv_iload_n hx hb dX11_worthOfCrossing_39 rfl (lv_at hl 4 rfl) ?_
      refine lv_iload_n hx hb dX11_worthOfCrossing_40 rfl (lv_at hl 5 rfl) ?_
      refine lv_iconst (v := (1 : Int32)) hx hb dX11_worthOfCrossing_41 (by decide) ?_
      refine lv_isub hx hb dX11_worthOfCrossing_42 ?_
      obtain ⟨r8, k9, hF⟩ := xb_s hF
      refine kSl (As := [.ref xa, .int r6, .int xc, .int (xd - (1 : Int32))]) (rest := [.long xc.toInt64]) hE hl hD (hkr k9) kl_X11_237 rfl rfl (Nat.le_of_ble_eq_true rfl) dX11_worthOfCrossing_43 ⟨by show _ + 1 ≤ dd + 20; omega, by show 8 + (_ + 11) + 40 * _ ≤ 40 * (dd + 20); omega⟩ ⟨Nat.le_of_ble_eq_true rfl, Nat.le_of_ble_eq_true rfl⟩ (fun H locs (hD : tD G _ _ u H locs) => ?_)
      refine lv_lmul hx hb dX11_worthOfCrossing_46 ?_
      refine lv_bipush (v := (100 : Int32)) hx hb dX11_worthOfCrossing_47 (by decide) ?_
      refine lv_iload_n hx hb dX11_worthOfCrossing_49 rfl (lv_at hl 4 rfl) ?_
      refine lv_isub hx hb dX11_worthOfCrossing_50 ?_
      refine lv_i2l (v := ((100 : Int32) - xc).toInt64) hx hb dX11_worthOfCrossing_51 rfl ?_
      refine lv_aload_n hx hb dX11_worthOfCrossing_52 rfl (lv_at hl 2 rfl) ?_
      refine lv_iload hx hb dX11_worthOfCrossing_53 (lv_at hl 1 rfl) ?_
      refine lv_iload_n hx hb dX11_worthOfCrossing_55 rfl (lv_at hl 4 rfl) ?_
      refine lv_iload_n hx hb dX11_worthOfCrossing_56 rfl (lv_at hl 5 rfl) ?_
      refine lv_iconst (v := (1 : Int32)) hx hb dX11_worthOfCrossing_57 (by decide) ?_
      refine lv_isub hx hb dX11_worthOfCrossing_58 ?_
      obtain ⟨r10, k11, hF⟩ := xb_s hF
      refine kSl (As := [.ref xa, .int r2, .int xc, .int (xd - (1 : Int32))]) (rest := [.long (((100 : Int32) - xc).toInt64), .long (xc.toInt64 * r8)]) hE hl hD (hkr k11) kl_X11_237 rfl rfl (Nat.le_of_ble_eq_true rfl) dX11_worthOfCrossing_59 ⟨by show _ + 1 ≤ dd + 20; omega, by show 8 + (_ + 11) + 40 * _ ≤ 40 * (dd + 20); omega⟩ ⟨Nat.le_of_ble_eq_true rfl, Nat.le_of_ble_eq_true rfl⟩ (fun H locs (hD : tD G _ _ u H locs) => ?_)
      refine lv_lmul hx hb dX11_worthOfCrossing_62 ?_
      refine lv_ladd hx hb dX11_worthOfCrossing_63 ?_
      obtain rfl := Option.some.inj hF
      exact x_lret hE hD ⟨rfl, rfl⟩ (by omega) (by omega) dX11_worthOfCrossing_64
    · have hF := ite_n hF c5
      exact B_X11_worthOfCrossing_j17 hE hkr hD (lv_sub hl [] rfl) hF
def F_X11_worthOfB (kr : xT → Nat → Int32 → Int32 → Int32 → Option Int64) (u : xT) (xa : Nat) (xb : Int32) (xc : Int32) (xd : Int32) : Option Int64 := (F_X11_hundredTo xd).bind (fun r1 => (F_X11_worthOfCrossing kr u xa xb xc xd).bind (fun r3 => xlet (if r3 < (xb.toInt64 * r1) then (xb.toInt64 * r1) else r3) (fun x5 => some x5)))
theorem c_X11_worthOfB {l : Launch} {G : xG} {rr : Int64} {kr : xT → Nat → Int32 → Int32 → Int32 → Option Int64} {dd : Nat} (hkr : ∀ {u : xT} {xa : Nat} {xb xc xd : Int32} {rr : Int64}, kr u xa xb xc xd = some rr → xMl l G yX11_worthOf cX11_worthOf 4 (Option.some Jvm.ClassFile.FieldType.long) dd 0 0 [.ref xa, .int xb, .int xc, .int xd] (tE G u) u.1 (fun r z => r = rr ∧ z = (tE G u, u.1))) {u : xT} {xa : Nat} {xb : Int32} {xc : Int32} {xd : Int32} (hF : F_X11_worthOfB kr u xa xb xc xd = some rr) : xMl l G yX11_worthOf cX11_worthOf 4 (Option.some Jvm.ClassFile.FieldType.long) (dd + 21) 0 0 [.ref xa, .int xb, .int xc, .int xd] (tE G u) u.1 (fun r z => r = rr ∧ z = ((tE G u), u.1)) := by
  unfold F_X11_worthOfB at hF
  refine x_startL rfl (Nat.le_of_ble_eq_true rfl) (fun p e s m args below meth cd ls hE hnm hl hD => ?_)
  have hx := hE.1; have hb := hE.2.1
  have hl : lv_has ls 4 [(0, .ref xa), (1, .int xb), (2, .int xc), (3, .int xd)] := hl
  have hD : tD G (xA (tE G u) s.heap.size) s.heap u s.heap [] := hD
  refine lv_iload_n hx hb dX11_worthOf_0 rfl (lv_at hl 1 rfl) ?_
  refine lv_i2l (v := xb.toInt64) hx hb dX11_worthOf_1 rfl ?_
  refine lv_iload_n hx hb dX11_worthOf_2 rfl (lv_at hl 3 rfl) ?_
  obtain ⟨r1, k2, hF⟩ := xb_s hF
  refine kSl (As := [.int xd]) (rest := [.long xb.toInt64]) hE hl hD (c_X11_hundredTo k2) kl_X11_241 rfl rfl (Nat.le_of_ble_eq_true rfl) dX11_worthOf_3 ⟨by show _ + 1 ≤ dd + 21; omega, by show 8 + (_ + 11) + 40 * _ ≤ 40 * (dd + 21); omega⟩ ⟨Nat.le_of_ble_eq_true rfl, Nat.le_of_ble_eq_true rfl⟩ (fun H locs (hD : tD G _ _ u H locs) => ?_)
  refine lv_lmul hx hb dX11_worthOf_6 ?_
  refine lv_aload_n hx hb dX11_worthOf_7 rfl (lv_at hl 0 rfl) ?_
  refine lv_iload_n hx hb dX11_worthOf_8 rfl (lv_at hl 1 rfl) ?_
  refine lv_iload_n hx hb dX11_worthOf_9 rfl (lv_at hl 2 rfl) ?_
  refine lv_iload_n hx hb dX11_worthOf_10 rfl (lv_at hl 3 rfl) ?_
  obtain ⟨r3, k4, hF⟩ := xb_s hF
  refine kSl (As := [.ref xa, .int xb, .int xc, .int xd]) (rest := [.long (xb.toInt64 * r1)]) hE hl hD (c_X11_worthOfCrossing hkr k4) kl_X11_245 rfl rfl (Nat.le_of_ble_eq_true rfl) dX11_worthOf_11 ⟨by show _ + 1 ≤ dd + 21; omega, by show 8 + (_ + 11) + 40 * _ ≤ 40 * (dd + 21); omega⟩ ⟨Nat.le_of_ble_eq_true rfl, Nat.le_of_ble_eq_true rfl⟩ (fun H locs (hD : tD G _ _ u H locs) => ?_)
  refine x_mmaxL (rest := []) hE hl kw4_144 (by show 1 ≤ dd + 21; omega) (by show _ ≤ 40 * (dd + 21); simp [Value.category]; omega) (Nat.le_of_ble_eq_true rfl) (Nat.le_of_ble_eq_true rfl) dX11_worthOf_14 ?_
  refine lv_topl (fun x5 ex5 => ?_)
  have hF := xlet_e hF ex5
  obtain rfl := Option.some.inj hF
  exact x_lret hE hD ⟨rfl, rfl⟩ (by omega) (by omega) dX11_worthOf_17
def F_X11_worthOf : Nat → xT → Nat → Int32 → Int32 → Int32 → Option Int64
  | 0, _, _, _, _, _ => none
  | n + 1, u, xa, xb, xc, xd => F_X11_worthOfB (F_X11_worthOf n) u xa xb xc xd
theorem c_X11_worthOf {l : Launch} {G : xG} : ∀ (n : Nat) {u : xT} {xa : Nat} {xb xc xd : Int32} {rr : Int64}, F_X11_worthOf n u xa xb xc xd = some rr → xMl l G yX11_worthOf cX11_worthOf 4 (Option.some Jvm.ClassFile.FieldType.long) (21 * n + 1) 0 0 [.ref xa, .int xb, .int xc, .int xd] (tE G u) u.1 (fun r z => r = rr ∧ z = (tE G u, u.1)) := by
  intro n
  induction n with
  | zero => intro u xa xb xc xd rr hF; rw [F_X11_worthOf] at hF; cases hF
  | succ n ih => intro u xa xb xc xd rr hF; rw [F_X11_worthOf] at hF; exact c_X11_worthOfB (dd := 21 * n + 1) (fun h => ih h) hF
def F_X11_worth_j25 (u : xT) (a0 : Nat) : Option Int64 := some (-1 : Int64)
theorem B_X11_worth_j25 {p : Program} {l : Launch} {e : Env} {s : State} {m : MethodId} {args : Array Value} {below : List Frame} {meth : Method} {cd : Code} {G : xG} {w0 : xW} {rr : Int64} (hE : xE p s m args meth cd cX11_worth RX11 G 6 (Option.some Jvm.ClassFile.FieldType.long)) {u : xT} {a0 : Nat} {H : Heap} {locs : List Loc} {ls : Array Slot} (hD : tD G (xA w0 s.heap.size) s.heap u H locs) (hl : lv_has ls 6 [(0, .ref a0)]) (hF : F_X11_worth_j25 u a0 = some rr) : W p l e (xR 150 0 0) s m args below meth cd H locs 0 0 (xQl G w0 (fun r z => r = rr ∧ z = ((tE G u), u.1)) below args s 0 0) (F0 m 25 ls []) := by
  have hx := hE.1; have hb := hE.2.1
  unfold F_X11_worth_j25 at hF
  refine lv_ldc2 (v := (-1 : Int64)) hx hb hE.2.2.1 (hE.2.2.2.1 _ kw4_133) dX11_worth_25 ?_
  obtain rfl := Option.some.inj hF
  exact x_lret hE hD ⟨rfl, rfl⟩ (by omega) (by omega) dX11_worth_28
def F_X11_worth (u : xT) (a0 : Nat) (xa : Int32) (xb : Int32) (xc : Int32) (xd : Int32) : Option Int64 := if tK u a0 = 11 then (tP u a0 0).bind (fun q2 => if tK u q2 = 7 then (F_X7_bridgeAt u q2 xa).bind (fun r5 => xopt (r5) (F_X11_worth_j25 u a0) (fun q7 => (F_X11_isLuck xb xc xd).bind (fun r9 => if r9 = 0 then F_X11_worth_j25 u a0 else (F_X11_worthOf 6 u q7 xb xc xd).bind (fun r13 => some r13)))) else none) else none
theorem c_X11_worth {l : Launch} {G : xG} {rr : Int64} {u : xT} {a0 : Nat} {xa : Int32} {xb : Int32} {xc : Int32} {xd : Int32} (hF : F_X11_worth u a0 xa xb xc xd = some rr) : xMl l G yX11_worth cX11_worth 6 (Option.some Jvm.ClassFile.FieldType.long) 150 0 0 [.ref a0, .int xa, .int xb, .int xc, .int xd] (tE G u) u.1 (fun r z => r = rr ∧ z = ((tE G u), u.1)) := by
  unfold F_X11_worth at hF
  refine x_startL rfl (Nat.le_of_ble_eq_true rfl) (fun p e s m args below meth cd ls hE hnm hl hD => ?_)
  have hx := hE.1; have hb := hE.2.1
  have hl : lv_has ls 6 [(0, .ref a0), (1, .int xa), (2, .int xb), (3, .int xc), (4, .int xd)] := hl
  have hD : tD G (xA (tE G u) s.heap.size) s.heap u s.heap [] := hD
  refine lv_aload_n hx hb dX11_worth_0 rfl (lv_at hl 0 rfl) ?_
  obtain ⟨h1, hF⟩ := ite_s hF
  obtain ⟨q2, h3, hF⟩ := xb_s hF
  refine gr_X11_10 hE hD h1 h3 dX11_worth_1 ?_
  refine lv_iload_n hx hb dX11_worth_4 rfl (lv_at hl 1 rfl) ?_
  obtain ⟨h4, hF⟩ := ite_s hF
  obtain ⟨r5, k6, hF⟩ := xb_s hF
  refine kVq (As := [.int xa]) (rest := []) hE hl hD (c_X7_bridgeAt k6) kl_X11_82 (tE_7 h4) rfl rfl rfl rfl (Nat.le_of_ble_eq_true rfl) dX11_worth_5 ⟨Nat.le_of_ble_eq_true rfl, Nat.le_of_ble_eq_true rfl⟩ ⟨Nat.le_of_ble_eq_true rfl, Nat.le_of_ble_eq_true rfl⟩ (fun H locs (hD : tD G _ _ u H locs) => ?_)
  refine t_split hF (fun h8 hF => ?_) (fun q7 h8 hF => ?_)
  · refine lv_astoreN (lv' := [(5, .null), (0, .ref a0), (1, .int xa), (2, .int xb), (3, .int xc), (4, .int xd)]) hx hb dX11_worth_8 hl (by decide) rfl (fun ls hl => ?_)
    refine lv_aloadN hx hb dX11_worth_10 (lv_at hl 0 rfl) ?_
    refine lv_ifnullN (tgt := 25) hx hb dX11_worth_12 (by decide) ?_
    exact B_X11_worth_j25 hE hD (lv_sub hl [1] rfl) hF
  · refine lv_astore (lv' := [(5, .ref q7), (0, .ref a0), (1, .int xa), (2, .int xb), (3, .int xc), (4, .int xd)]) hx hb dX11_worth_8 hl (by decide) rfl (fun ls hl => ?_)
    refine lv_aload hx hb dX11_worth_10 (lv_at hl 0 rfl) ?_
    refine lv_ifnull hx hb dX11_worth_12 ?_
    refine lv_iload_n hx hb dX11_worth_15 rfl (lv_at hl 3 rfl) ?_
    refine lv_iload_n hx hb dX11_worth_16 rfl (lv_at hl 4 rfl) ?_
    refine lv_iload hx hb dX11_worth_17 (lv_at hl 5 rfl) ?_
    obtain ⟨r9, k10, hF⟩ := xb_s hF
    refine kSz (As := [.int xb, .int xc, .int xd]) (rest := []) hE hl hD (c_X11_isLuck k10) kl_X11_232 rfl rfl (Nat.le_of_ble_eq_true rfl) dX11_worth_19 ⟨Nat.le_of_ble_eq_true rfl, Nat.le_of_ble_eq_true rfl⟩ ⟨Nat.le_of_ble_eq_true rfl, Nat.le_of_ble_eq_true rfl⟩ (fun H locs z11 (hD : tD G _ _ u H locs) => ?_)
    refine lv_if_ne (tgt := 29) hx hb dX11_worth_22 (by decide) (fun c12 => ?_) (fun c12 => ?_)
    · have hF := ite_n hF c12
      refine lv_aload hx hb dX11_worth_29 (lv_at hl 0 rfl) ?_
      refine lv_iload_n hx hb dX11_worth_31 rfl (lv_at hl 3 rfl) ?_
      refine lv_iload_n hx hb dX11_worth_32 rfl (lv_at hl 4 rfl) ?_
      refine lv_iload hx hb dX11_worth_33 (lv_at hl 5 rfl) ?_
      obtain ⟨r13, k14, hF⟩ := xb_s hF
      refine kSl (As := [.ref q7, .int xb, .int xc, .int xd]) (rest := []) hE hl hD (c_X11_worthOf 6 k14) kl_X11_237 rfl rfl (Nat.le_of_ble_eq_true rfl) dX11_worth_35 ⟨Nat.le_of_ble_eq_true rfl, Nat.le_of_ble_eq_true rfl⟩ ⟨Nat.le_of_ble_eq_true rfl, Nat.le_of_ble_eq_true rfl⟩ (fun H locs (hD : tD G _ _ u H locs) => ?_)
      obtain rfl := Option.some.inj hF
      exact x_lret hE hD ⟨rfl, rfl⟩ (by omega) (by omega) dX11_worth_38
    · have hF := ite_p hF c12
      exact B_X11_worth_j25 hE hD (lv_sub hl [1] rfl) hF
def F_X11_stops_j53 (u : xT) (a0 : Nat) (s0 : Int32) : Option Int32 := some s0
theorem B_X11_stops_j53 {p : Program} {l : Launch} {e : Env} {s : State} {m : MethodId} {args : Array Value} {below : List Frame} {meth : Method} {cd : Code} {G : xG} {w0 : xW} {rr : Int32} (hE : xE p s m args meth cd cX11_stops RX11 G 6 (Option.some Jvm.ClassFile.FieldType.int)) {u : xT} {a0 : Nat} {s0 : Int32} {H : Heap} {locs : List Loc} {ls : Array Slot} (hD : tD G (xA w0 s.heap.size) s.heap u H locs) (hl : lv_has ls 6 [(0, .ref a0)]) (hF : F_X11_stops_j53 u a0 s0 = some rr) : W p l e (xR 150 0 0) s m args below meth cd H locs 0 0 (xQi G w0 (fun r z => r = rr ∧ z = ((tE G u), u.1)) below args s 0 0) (F0 m 53 ls [.int s0]) := by
  have hx := hE.1; have hb := hE.2.1
  unfold F_X11_stops_j53 at hF
  obtain rfl := Option.some.inj hF
  exact x_iret hE hD ⟨rfl, rfl⟩ (by omega) (by omega) dX11_stops_53
def F_X11_stops_j25 (u : xT) (a0 : Nat) : Option Int32 := some (-1 : Int32)
theorem B_X11_stops_j25 {p : Program} {l : Launch} {e : Env} {s : State} {m : MethodId} {args : Array Value} {below : List Frame} {meth : Method} {cd : Code} {G : xG} {w0 : xW} {rr : Int32} (hE : xE p s m args meth cd cX11_stops RX11 G 6 (Option.some Jvm.ClassFile.FieldType.int)) {u : xT} {a0 : Nat} {H : Heap} {locs : List Loc} {ls : Array Slot} (hD : tD G (xA w0 s.heap.size) s.heap u H locs) (hl : lv_has ls 6 [(0, .ref a0)]) (hF : F_X11_stops_j25 u a0 = some rr) : W p l e (xR 150 0 0) s m args below meth cd H locs 0 0 (xQi G w0 (fun r z => r = rr ∧ z = ((tE G u), u.1)) below args s 0 0) (F0 m 25 ls []) := by
  have hx := hE.1; have hb := hE.2.1
  unfold F_X11_stops_j25 at hF
  refine lv_iconst (v := (-1 : Int32)) hx hb dX11_stops_25 (by decide) ?_
  obtain rfl := Option.some.inj hF
  exact x_iret hE hD ⟨rfl, rfl⟩ (by omega) (by omega) dX11_stops_26
def F_X11_stops (u : xT) (a0 : Nat) (xa : Int32) (xb : Int32) (xc : Int32) (xd : Int32) : Option Int32 := if tK u a0 = 11 then (tP u a0 0).bind (fun q2 => if tK u q2 = 7 then (F_X7_bridgeAt u q2 xa).bind (fun r5 => xopt (r5) (F_X11_stops_j25 u a0) (fun q7 => (F_X11_isLuck xb xc xd).bind (fun r9 => if r9 = 0 then F_X11_stops_j25 u a0 else (F_X11_hundredTo xd).bind (fun r13 => (F_X11_worthOfCrossing (F_X11_worthOf 6) u q7 xb xc xd).bind (fun r15 => if (lg_cmp (xb.toInt64 * r13) r15) < 0 then F_X11_stops_j53 u a0 (0 : Int32) else F_X11_stops_j53 u a0 (1 : Int32)))))) else none) else none
theorem c_X11_stops {l : Launch} {G : xG} {rr : Int32} {u : xT} {a0 : Nat} {xa : Int32} {xb : Int32} {xc : Int32} {xd : Int32} (hF : F_X11_stops u a0 xa xb xc xd = some rr) : xMi l G yX11_stops cX11_stops 6 (Option.some Jvm.ClassFile.FieldType.int) 150 0 0 [.ref a0, .int xa, .int xb, .int xc, .int xd] (tE G u) u.1 (fun r z => r = rr ∧ z = ((tE G u), u.1)) := by
  unfold F_X11_stops at hF
  refine x_startI rfl (Nat.le_of_ble_eq_true rfl) (fun p e s m args below meth cd ls hE hnm hl hD => ?_)
  have hx := hE.1; have hb := hE.2.1
  have hl : lv_has ls 6 [(0, .ref a0), (1, .int xa), (2, .int xb), (3, .int xc), (4, .int xd)] := hl
  have hD : tD G (xA (tE G u) s.heap.size) s.heap u s.heap [] := hD
  refine lv_aload_n hx hb dX11_stops_0 rfl (lv_at hl 0 rfl) ?_
  obtain ⟨h1, hF⟩ := ite_s hF
  obtain ⟨q2, h3, hF⟩ := xb_s hF
  refine gr_X11_10 hE hD h1 h3 dX11_stops_1 ?_
  refine lv_iload_n hx hb dX11_stops_4 rfl (lv_at hl 1 rfl) ?_
  obtain ⟨h4, hF⟩ := ite_s hF
  obtain ⟨r5, k6, hF⟩ := xb_s hF
  refine kVq (As := [.int xa]) (rest := []) hE hl hD (c_X7_bridgeAt k6) kl_X11_82 (tE_7 h4) rfl rfl rfl rfl (Nat.le_of_ble_eq_true rfl) dX11_stops_5 ⟨Nat.le_of_ble_eq_true rfl, Nat.le_of_ble_eq_true rfl⟩ ⟨Nat.le_of_ble_eq_true rfl, Nat.le_of_ble_eq_true rfl⟩ (fun H locs (hD : tD G _ _ u H locs) => ?_)
  refine t_split hF (fun h8 hF => ?_) (fun q7 h8 hF => ?_)
  · refine lv_astoreN (lv' := [(5, .null), (0, .ref a0), (1, .int xa), (2, .int xb), (3, .int xc), (4, .int xd)]) hx hb dX11_stops_8 hl (by decide) rfl (fun ls hl => ?_)
    refine lv_aloadN hx hb dX11_stops_10 (lv_at hl 0 rfl) ?_
    refine lv_ifnullN (tgt := 25) hx hb dX11_stops_12 (by decide) ?_
    exact B_X11_stops_j25 hE hD (lv_sub hl [1] rfl) hF
  · refine lv_astore (lv' := [(5, .ref q7), (0, .ref a0), (1, .int xa), (2, .int xb), (3, .int xc), (4, .int xd)]) hx hb dX11_stops_8 hl (by decide) rfl (fun ls hl => ?_)
    refine lv_aload hx hb dX11_stops_10 (lv_at hl 0 rfl) ?_
    refine lv_ifnull hx hb dX11_stops_12 ?_
    refine lv_iload_n hx hb dX11_stops_15 rfl (lv_at hl 3 rfl) ?_
    refine lv_iload_n hx hb dX11_stops_16 rfl (lv_at hl 4 rfl) ?_
    refine lv_iload hx hb dX11_stops_17 (lv_at hl 5 rfl) ?_
    obtain ⟨r9, k10, hF⟩ := xb_s hF
    refine kSz (As := [.int xb, .int xc, .int xd]) (rest := []) hE hl hD (c_X11_isLuck k10) kl_X11_232 rfl rfl (Nat.le_of_ble_eq_true rfl) dX11_stops_19 ⟨Nat.le_of_ble_eq_true rfl, Nat.le_of_ble_eq_true rfl⟩ ⟨Nat.le_of_ble_eq_true rfl, Nat.le_of_ble_eq_true rfl⟩ (fun H locs z11 (hD : tD G _ _ u H locs) => ?_)
    refine lv_if_ne (tgt := 27) hx hb dX11_stops_22 (by decide) (fun c12 => ?_) (fun c12 => ?_)
    · have hF := ite_n hF c12
      refine lv_iload_n hx hb dX11_stops_27 rfl (lv_at hl 3 rfl) ?_
      refine lv_i2l (v := xb.toInt64) hx hb dX11_stops_28 rfl ?_
      refine lv_iload hx hb dX11_stops_29 (lv_at hl 5 rfl) ?_
      obtain ⟨r13, k14, hF⟩ := xb_s hF
      refine kSl (As := [.int xd]) (rest := [.long xb.toInt64]) hE hl hD (c_X11_hundredTo k14) kl_X11_241 rfl rfl (Nat.le_of_ble_eq_true rfl) dX11_stops_31 ⟨Nat.le_of_ble_eq_true rfl, Nat.le_of_ble_eq_true rfl⟩ ⟨Nat.le_of_ble_eq_true rfl, Nat.le_of_ble_eq_true rfl⟩ (fun H locs (hD : tD G _ _ u H locs) => ?_)
      refine lv_lmul hx hb dX11_stops_34 ?_
      refine lv_aload hx hb dX11_stops_35 (lv_at hl 0 rfl) ?_
      refine lv_iload_n hx hb dX11_stops_37 rfl (lv_at hl 3 rfl) ?_
      refine lv_iload_n hx hb dX11_stops_38 rfl (lv_at hl 4 rfl) ?_
      refine lv_iload hx hb dX11_stops_39 (lv_at hl 5 rfl) ?_
      obtain ⟨r15, k16, hF⟩ := xb_s hF
      refine kSl (As := [.ref q7, .int xb, .int xc, .int xd]) (rest := [.long (xb.toInt64 * r13)]) hE hl hD (c_X11_worthOfCrossing (dd := 127) (fun h => c_X11_worthOf 6 h) k16) kl_X11_245 rfl rfl (Nat.le_of_ble_eq_true rfl) dX11_stops_41 ⟨Nat.le_of_ble_eq_true rfl, Nat.le_of_ble_eq_true rfl⟩ ⟨Nat.le_of_ble_eq_true rfl, Nat.le_of_ble_eq_true rfl⟩ (fun H locs (hD : tD G _ _ u H locs) => ?_)
      refine W.lcmp hx hb dX11_stops_44 ?_
      refine lv_if_lt (tgt := 52) hx hb dX11_stops_45 (by decide) (fun c17 => ?_) (fun c17 => ?_)
      · have hF := ite_p hF c17
        refine lv_iconst (v := (0 : Int32)) hx hb dX11_stops_52 (by decide) ?_
        exact B_X11_stops_j53 hE hD (lv_sub hl [1] rfl) hF
      · have hF := ite_n hF c17
        refine lv_iconst (v := (1 : Int32)) hx hb dX11_stops_48 (by decide) ?_
        refine lv_goto (tgt := 53) hx hb dX11_stops_49 (by decide) ?_
        exact B_X11_stops_j53 hE hD (lv_sub hl [1] rfl) hF
    · have hF := ite_p hF c12
      exact B_X11_stops_j25 hE hD (lv_sub hl [1] rfl) hF
