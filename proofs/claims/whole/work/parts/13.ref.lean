/-! ===== the reference: walks (printed by wip/whole/gen) ===== -/
def xFuel : Nat := 1000000
def F_X12_in_j18 (s0 : Int32) : Option Int32 := if s0 = 0 ∨ s0 = 1 then some s0 else none
theorem B_X12_in_j18 {p : Program} {l : Launch} {e : Env} {s : State} {m : MethodId} {args : Array Value} {below : List Frame} {meth : Method} {cd : Code} {G : xG} {w0 : xW} {w : xW} {sz : Nat} {rr : Int32} (hE : xE p s m args meth cd cX12_in RX12 G 6 (Option.some Jvm.ClassFile.FieldType.boolean)) {s0 : Int32} {H : Heap} {locs : List Loc} {ls : Array Slot} (hD : xD G (xA w0 s.heap.size) s.heap w sz H locs) (hl : lv_has ls 6 []) (hF : F_X12_in_j18 s0 = some rr) : W p l e (xR 1 0 0) s m args below meth cd H locs 0 0 (xQi G w0 (fun r z => r = rr ∧ (rr = 0 ∨ rr = 1) ∧ z = (w, sz)) below args s 0 0) (F0 m 18 ls [.int s0]) := by
  have hx := hE.1; have hb := hE.2.1
  unfold F_X12_in_j18 at hF
  obtain ⟨h1, hF⟩ := ite_s hF
  obtain rfl := Option.some.inj hF
  exact x_zret hE hD h1 ⟨rfl, h1, rfl⟩ (by omega) (by omega) dX12_in_18
def F_X12_in_j17  : Option Int32 := F_X12_in_j18 (0 : Int32)
theorem B_X12_in_j17 {p : Program} {l : Launch} {e : Env} {s : State} {m : MethodId} {args : Array Value} {below : List Frame} {meth : Method} {cd : Code} {G : xG} {w0 : xW} {w : xW} {sz : Nat} {rr : Int32} (hE : xE p s m args meth cd cX12_in RX12 G 6 (Option.some Jvm.ClassFile.FieldType.boolean))  {H : Heap} {locs : List Loc} {ls : Array Slot} (hD : xD G (xA w0 s.heap.size) s.heap w sz H locs) (hl : lv_has ls 6 []) (hF : F_X12_in_j17  = some rr) : W p l e (xR 1 0 0) s m args below meth cd H locs 0 0 (xQi G w0 (fun r z => r = rr ∧ (rr = 0 ∨ rr = 1) ∧ z = (w, sz)) below args s 0 0) (F0 m 17 ls []) := by
  have hx := hE.1; have hb := hE.2.1
  unfold F_X12_in_j17 at hF
  refine lv_iconst (v := (0 : Int32)) hx hb dX12_in_17 (by decide) ?_
  exact B_X12_in_j18 hE hD (lv_sub hl [] rfl) hF
def F_X12_in (xa : Int64) (xb : Int64) (xc : Int64) : Option Int32 := if (lg_cmp xa xb) < 0 then F_X12_in_j17 else if 0 < (lg_cmp xa xc) then F_X12_in_j17 else F_X12_in_j18 (1 : Int32)
theorem c_X12_in {l : Launch} {G : xG} {w : xW} {sz : Nat} {rr : Int32} {xa : Int64} {xb : Int64} {xc : Int64} (hF : F_X12_in xa xb xc = some rr) : xMi l G yX12_in cX12_in 6 (Option.some Jvm.ClassFile.FieldType.boolean) 1 0 0 [.long xa, .long xb, .long xc] w sz (fun r z => r = rr ∧ (rr = 0 ∨ rr = 1) ∧ z = (w, sz)) := by
  unfold F_X12_in at hF
  refine x_startI rfl (Nat.le_of_ble_eq_true rfl) (fun p e s m args below meth cd ls hE hnm hl hD => ?_)
  have hx := hE.1; have hb := hE.2.1
  have hl : lv_has ls 6 [(0, .long xa), (2, .long xb), (4, .long xc)] := hl
  refine lv_lload_n hx hb dX12_in_0 rfl (lv_at hl 0 rfl) ?_
  refine lv_lload_n hx hb dX12_in_1 rfl (lv_at hl 1 rfl) ?_
  refine W.lcmp hx hb dX12_in_2 ?_
  refine lv_if_lt (tgt := 17) hx hb dX12_in_3 (by decide) (fun c2 => ?_) (fun c2 => ?_)
  · have hF := ite_p hF c2
    exact B_X12_in_j17 hE hD (lv_sub hl [] rfl) hF
  · have hF := ite_n hF c2
    refine lv_lload_n hx hb dX12_in_6 rfl (lv_at hl 0 rfl) ?_
    refine lv_lload hx hb dX12_in_7 (lv_at hl 2 rfl) ?_
    refine W.lcmp hx hb dX12_in_9 ?_
    refine lv_if_gt (tgt := 17) hx hb dX12_in_10 (by decide) (fun c3 => ?_) (fun c3 => ?_)
    · have hF := ite_p hF c3
      exact B_X12_in_j17 hE hD (lv_sub hl [] rfl) hF
    · have hF := ite_n hF c3
      refine lv_iconst (v := (1 : Int32)) hx hb dX12_in_13 (by decide) ?_
      refine lv_goto (tgt := 18) hx hb dX12_in_14 (by decide) ?_
      exact B_X12_in_j18 hE hD (lv_sub hl [] rfl) hF
def F_X12_isPurse (xa : Int64) : Option Int32 := (F_X12_in xa (0 : Int64) (1000000000 : Int64)).bind (fun r1 => some r1)
theorem c_X12_isPurse {l : Launch} {G : xG} {w : xW} {sz : Nat} {rr : Int32} {xa : Int64} (hF : F_X12_isPurse xa = some rr) : xMi l G yX12_isPurse cX12_isPurse 2 (Option.some Jvm.ClassFile.FieldType.boolean) 2 0 0 [.long xa] w sz (fun r z => r = rr ∧ (rr = 0 ∨ rr = 1) ∧ z = (w, sz)) := by
  unfold F_X12_isPurse at hF
  refine x_startI rfl (Nat.le_of_ble_eq_true rfl) (fun p e s m args below meth cd ls hE hnm hl hD => ?_)
  have hx := hE.1; have hb := hE.2.1
  have hl : lv_has ls 2 [(0, .long xa)] := hl
  refine lv_lload_n hx hb dX12_isPurse_0 rfl (lv_at hl 0 rfl) ?_
  refine lv_lconst (v := (0 : Int64)) hx hb dX12_isPurse_1 (by decide) ?_
  refine lv_ldc2 (v := (1000000000 : Int64)) hx hb hE.2.2.1 (hE.2.2.2.1 _ kw6_112) dX12_isPurse_2 ?_
  obtain ⟨r1, k2, hF⟩ := xb_s hF
  refine kSz (As := [.long xa, .long (0 : Int64), .long (1000000000 : Int64)]) (rest := []) hE hl hD (c_X12_in k2) kl_X12_67 rfl rfl (Nat.le_of_ble_eq_true rfl) dX12_isPurse_5 ⟨Nat.le_of_ble_eq_true rfl, Nat.le_of_ble_eq_true rfl⟩ ⟨Nat.le_of_ble_eq_true rfl, Nat.le_of_ble_eq_true rfl⟩ (fun H locs z3 (hD : xD G _ _ w sz H locs) => ?_)
  obtain rfl := Option.some.inj hF
  exact x_zret hE hD z3 ⟨rfl, z3, rfl⟩ (by omega) (by omega) dX12_isPurse_8
def F_X12_isBridge (u : xS) (xa : Int32) : Option Int32 := if xIn (0 : Int32) 303 then (F_X12_in xa.toInt64 (0 : Int64) (((u.2.1 0 (0 : Int32).toNatClampNeg) - (1 : Int32)).toInt64)).bind (fun r2 => some r2) else none
theorem c_X12_isBridge {l : Launch} {G : xG} {b sz : Nat} {rr : Int32} {u : xS} {xa : Int32} (hF : F_X12_isBridge u xa = some rr) : xMi l G yX12_isBridge cX12_isBridge 2 (Option.some Jvm.ClassFile.FieldType.boolean) 2 0 0 [.ref b, .int xa] (mW G b u) sz (fun r z => r = rr ∧ (rr = 0 ∨ rr = 1) ∧ z = ((mW G b u), sz)) := by
  unfold F_X12_isBridge at hF
  refine x_startI rfl (Nat.le_of_ble_eq_true rfl) (fun p e s m args below meth cd ls hE hnm hl hD => ?_)
  have hx := hE.1; have hb := hE.2.1
  have hl : lv_has ls 2 [(0, .ref b), (1, .int xa)] := hl
  have hD : mD G (xA (mW G b u) s.heap.size) s.heap b u sz s.heap [] := hD
  refine lv_iload_n hx hb dX12_isBridge_0 rfl (lv_at hl 1 rfl) ?_
  refine lv_i2l (v := xa.toInt64) hx hb dX12_isBridge_1 rfl ?_
  refine lv_lconst (v := (0 : Int64)) hx hb dX12_isBridge_2 (by decide) ?_
  refine lv_aload_n hx hb dX12_isBridge_3 rfl (lv_at hl 0 rfl) ?_
  refine gf_X12_7 hE hD dX12_isBridge_4 ?_
  refine lv_iconst (v := (0 : Int32)) hx hb dX12_isBridge_7 (by decide) ?_
  obtain ⟨h1, hF⟩ := ite_s hF
  refine ma_ld_0 hE hD h1 dX12_isBridge_8 ?_
  refine lv_iconst (v := (1 : Int32)) hx hb dX12_isBridge_9 (by decide) ?_
  refine lv_isub hx hb dX12_isBridge_10 ?_
  refine lv_i2l (v := ((u.2.1 0 (0 : Int32).toNatClampNeg) - (1 : Int32)).toInt64) hx hb dX12_isBridge_11 rfl ?_
  obtain ⟨r2, k3, hF⟩ := xb_s hF
  refine kSz (As := [.long xa.toInt64, .long (0 : Int64), .long (((u.2.1 0 (0 : Int32).toNatClampNeg) - (1 : Int32)).toInt64)]) (rest := []) hE hl hD (c_X12_in k3) kl_X12_67 rfl rfl (Nat.le_of_ble_eq_true rfl) dX12_isBridge_12 ⟨Nat.le_of_ble_eq_true rfl, Nat.le_of_ble_eq_true rfl⟩ ⟨Nat.le_of_ble_eq_true rfl, Nat.le_of_ble_eq_true rfl⟩ (fun H locs z4 (hD : mD G _ _ b u sz H locs) => ?_)
  obtain rfl := Option.some.inj hF
  exact x_zret hE hD z4 ⟨rfl, z4, rfl⟩ (by omega) (by omega) dX12_isBridge_15
def F_X12_isPerson (u : xS) (xa : Int32) : Option Int32 := if xIn (1 : Int32) 303 then (F_X12_in xa.toInt64 (0 : Int64) (((u.2.1 0 (1 : Int32).toNatClampNeg) - (1 : Int32)).toInt64)).bind (fun r2 => some r2) else none
theorem c_X12_isPerson {l : Launch} {G : xG} {b sz : Nat} {rr : Int32} {u : xS} {xa : Int32} (hF : F_X12_isPerson u xa = some rr) : xMi l G yX12_isPerson cX12_isPerson 2 (Option.some Jvm.ClassFile.FieldType.boolean) 2 0 0 [.ref b, .int xa] (mW G b u) sz (fun r z => r = rr ∧ (rr = 0 ∨ rr = 1) ∧ z = ((mW G b u), sz)) := by
  unfold F_X12_isPerson at hF
  refine x_startI rfl (Nat.le_of_ble_eq_true rfl) (fun p e s m args below meth cd ls hE hnm hl hD => ?_)
  have hx := hE.1; have hb := hE.2.1
  have hl : lv_has ls 2 [(0, .ref b), (1, .int xa)] := hl
  have hD : mD G (xA (mW G b u) s.heap.size) s.heap b u sz s.heap [] := hD
  refine lv_iload_n hx hb dX12_isPerson_0 rfl (lv_at hl 1 rfl) ?_
  refine lv_i2l (v := xa.toInt64) hx hb dX12_isPerson_1 rfl ?_
  refine lv_lconst (v := (0 : Int64)) hx hb dX12_isPerson_2 (by decide) ?_
  refine lv_aload_n hx hb dX12_isPerson_3 rfl (lv_at hl 0 rfl) ?_
  refine gf_X12_7 hE hD dX12_isPerson_4 ?_
  refine lv_iconst (v := (1 : Int32)) hx hb dX12_isPerson_7 (by decide) ?_
  obtain ⟨h1, hF⟩ := ite_s hF
  refine ma_ld_0 hE hD h1 dX12_isPerson_8 ?_
  refine lv_iconst (v := (1 : Int32)) hx hb dX12_isPerson_9 (by decide) ?_
  refine lv_isub hx hb dX12_isPerson_10 ?_
  refine lv_i2l (v := ((u.2.1 0 (1 : Int32).toNatClampNeg) - (1 : Int32)).toInt64) hx hb dX12_isPerson_11 rfl ?_
  obtain ⟨r2, k3, hF⟩ := xb_s hF
  refine kSz (As := [.long xa.toInt64, .long (0 : Int64), .long (((u.2.1 0 (1 : Int32).toNatClampNeg) - (1 : Int32)).toInt64)]) (rest := []) hE hl hD (c_X12_in k3) kl_X12_67 rfl rfl (Nat.le_of_ble_eq_true rfl) dX12_isPerson_12 ⟨Nat.le_of_ble_eq_true rfl, Nat.le_of_ble_eq_true rfl⟩ ⟨Nat.le_of_ble_eq_true rfl, Nat.le_of_ble_eq_true rfl⟩ (fun H locs z4 (hD : mD G _ _ b u sz H locs) => ?_)
  obtain rfl := Option.some.inj hF
  exact x_zret hE hD z4 ⟨rfl, z4, rfl⟩ (by omega) (by omega) dX12_isPerson_15
def F_X12_has_j14 (s0 : Int32) : Option Int32 := if s0 = 0 ∨ s0 = 1 then some s0 else none
theorem B_X12_has_j14 {p : Program} {l : Launch} {e : Env} {s : State} {m : MethodId} {args : Array Value} {below : List Frame} {meth : Method} {cd : Code} {G : xG} {w0 : xW} {w : xW} {sz : Nat} {rr : Int32} (hE : xE p s m args meth cd cX12_has RX12 G 2 (Option.some Jvm.ClassFile.FieldType.boolean)) {s0 : Int32} {H : Heap} {locs : List Loc} {ls : Array Slot} (hD : xD G (xA w0 s.heap.size) s.heap w sz H locs) (hl : lv_has ls 2 []) (hF : F_X12_has_j14 s0 = some rr) : W p l e (xR 1 0 0) s m args below meth cd H locs 0 0 (xQi G w0 (fun r z => r = rr ∧ (rr = 0 ∨ rr = 1) ∧ z = (w, sz)) below args s 0 0) (F0 m 14 ls [.int s0]) := by
  have hx := hE.1; have hb := hE.2.1
  unfold F_X12_has_j14 at hF
  obtain ⟨h1, hF⟩ := ite_s hF
  obtain rfl := Option.some.inj hF
  exact x_zret hE hD h1 ⟨rfl, h1, rfl⟩ (by omega) (by omega) dX12_has_14
def F_X12_has (xa : Int32) (xb : Int32) : Option Int32 := if ((xa >>> (xb &&& 31)) &&& (1 : Int32)) = (1 : Int32) then F_X12_has_j14 (1 : Int32) else F_X12_has_j14 (0 : Int32)
theorem c_X12_has {l : Launch} {G : xG} {w : xW} {sz : Nat} {rr : Int32} {xa : Int32} {xb : Int32} (hF : F_X12_has xa xb = some rr) : xMi l G yX12_has cX12_has 2 (Option.some Jvm.ClassFile.FieldType.boolean) 1 0 0 [.int xa, .int xb] w sz (fun r z => r = rr ∧ (rr = 0 ∨ rr = 1) ∧ z = (w, sz)) := by
  unfold F_X12_has at hF
  refine x_startI rfl (Nat.le_of_ble_eq_true rfl) (fun p e s m args below meth cd ls hE hnm hl hD => ?_)
  have hx := hE.1; have hb := hE.2.1
  have hl : lv_has ls 2 [(0, .int xa), (1, .int xb)] := hl
  refine lv_iload_n hx hb dX12_has_0 rfl (lv_at hl 0 rfl) ?_
  refine lv_iload_n hx hb dX12_has_1 rfl (lv_at hl 1 rfl) ?_
  refine lv_ishr hx hb dX12_has_2 ?_
  refine lv_iconst (v := (1 : Int32)) hx hb dX12_has_3 (by decide) ?_
  refine lv_iand hx hb dX12_has_4 ?_
  refine lv_iconst (v := (1 : Int32)) hx hb dX12_has_5 (by decide) ?_
  refine lv_icmp_ne (tgt := 13) hx hb dX12_has_6 (by decide) (fun c2 => ?_) (fun c2 => ?_)
  · have hF := ite_n hF c2
    refine lv_iconst (v := (0 : Int32)) hx hb dX12_has_13 (by decide) ?_
    exact B_X12_has_j14 hE hD (lv_sub hl [] rfl) hF
  · have hF := ite_p hF c2
    refine lv_iconst (v := (1 : Int32)) hx hb dX12_has_9 (by decide) ?_
    refine lv_goto (tgt := 14) hx hb dX12_has_10 (by decide) ?_
    exact B_X12_has_j14 hE hD (lv_sub hl [] rfl) hF
def F_X12_puts_l2 : Nat → xS → Int32 → Option (xS)
  | 0, _, _ => none
  | nn + 1, u, y1 => if (303 : Int32) ≤ y1 then some u else if xIn y1 303 then if xIn y1 303 then xlet (mA u 2 y1.toNatClampNeg (u.2.1 0 y1.toNatClampNeg)) (fun u4 => xlet (y1 + (1 : Int32)) (fun x5 => F_X12_puts_l2 nn u4 x5)) else none else none
theorem L_X12_puts_l2 {p : Program} {l : Launch} {e : Env} {s : State} {m : MethodId} {args : Array Value} {below : List Frame} {meth : Method} {cd : Code} {G : xG} {w0 : xW} {b sz : Nat} {rr : (xS)} (hE : xE p s m args meth cd cX12_puts RX12 G 2 (Option.none : Option Jvm.ClassFile.FieldType)) : ∀ (nn : Nat) {u : xS} {y1 : Int32} {H : Heap} {locs : List Loc} {ls : Array Slot}, mD G (xA w0 s.heap.size) s.heap b u sz H locs → lv_has ls 2 [(0, .ref b), (1, .int y1)] → F_X12_puts_l2 nn u y1 = some rr → W p l e (xR 1 0 0) s m args below meth cd H locs 0 0 (xQv G w0 (fun z => z = ((mW G b rr), sz)) below args s 0 0) (F0 m 2 ls []) := by
  have hx := hE.1; have hb := hE.2.1
  intro nn
  induction nn with
  | zero => intro u y1 H locs ls hD hl hF; rw [F_X12_puts_l2] at hF; cases hF
  | succ nn ih =>
    intro u y1 H locs ls hD hl hF
    rw [F_X12_puts_l2] at hF
    refine lv_iload_n hx hb dX12_puts_2 rfl (lv_at hl 1 rfl) ?_
    refine lv_sipush (v := (303 : Int32)) hx hb dX12_puts_3 (by decide) ?_
    refine lv_icmp_ge (tgt := 27) hx hb dX12_puts_6 (by decide) (fun c1 => ?_) (fun c1 => ?_)
    · have hF := ite_p hF c1
      obtain rfl := Option.some.inj hF
      exact x_vret hE hD rfl (by omega) (by omega) dX12_puts_27
    · have hF := ite_n hF c1
      refine lv_aload_n hx hb dX12_puts_9 rfl (lv_at hl 0 rfl) ?_
      refine gf_X12_16 hE hD dX12_puts_10 ?_
      refine lv_iload_n hx hb dX12_puts_13 rfl (lv_at hl 1 rfl) ?_
      refine lv_aload_n hx hb dX12_puts_14 rfl (lv_at hl 0 rfl) ?_
      refine gf_X12_7 hE hD dX12_puts_15 ?_
      refine lv_iload_n hx hb dX12_puts_18 rfl (lv_at hl 1 rfl) ?_
      obtain ⟨h2, hF⟩ := ite_s hF
      refine ma_ld_0 hE hD h2 dX12_puts_19 ?_
      obtain ⟨h3, hF⟩ := ite_s hF
      refine ma_st_2 hE hD h3 dX12_puts_20 (fun u4 H locs eu4 hD => ?_)
      have hF := xlet_e hF eu4
      obtain ⟨x5, ex5⟩ : ∃ y : Int32, y = y1 + (1 : Int32) := ⟨_, rfl⟩
      have hF := xlet_e hF ex5
      refine lv_iinc (v := x5) (lv' := [(1, .int x5), (0, .ref b)]) hx hb dX12_puts_21 hl (k := 1) rfl (by rw [ex5]; rfl) (by decide) rfl (fun ls hl => ?_)
      refine lv_goto (tgt := 2) hx hb dX12_puts_24 (by decide) ?_
      exact ih hD (lv_sub hl [1, 0] rfl) hF
def F_X12_puts (u : xS)  : Option (xS) := F_X12_puts_l2 xFuel u (0 : Int32)
theorem c_X12_puts {l : Launch} {G : xG} {b sz : Nat} {rr : (xS)} {u : xS}  (hF : F_X12_puts u  = some rr) : xMv l G yX12_puts cX12_puts 2 (Option.none : Option Jvm.ClassFile.FieldType) 1 0 0 [.ref b] (mW G b u) sz (fun z => z = ((mW G b rr), sz)) := by
  unfold F_X12_puts at hF
  refine x_startV rfl (Nat.le_of_ble_eq_true rfl) (fun p e s m args below meth cd ls hE hnm hl hD => ?_)
  have hx := hE.1; have hb := hE.2.1
  have hl : lv_has ls 2 [(0, .ref b)] := hl
  have hD : mD G (xA (mW G b u) s.heap.size) s.heap b u sz s.heap [] := hD
  refine lv_iconst (v := (0 : Int32)) hx hb dX12_puts_0 (by decide) ?_
  refine lv_istore_n (lv' := [(1, .int (0 : Int32)), (0, .ref b)]) hx hb dX12_puts_1 rfl hl (by decide) rfl (fun ls hl => ?_)
  exact L_X12_puts_l2 hE _ hD (lv_sub hl [1, 0] rfl) hF
def F_X12_putsBack_l2 : Nat → xS → Int32 → Option (xS)
  | 0, _, _ => none
  | nn + 1, u, y1 => if (303 : Int32) ≤ y1 then some u else if xIn y1 303 then if xIn y1 303 then xlet (mA u 0 y1.toNatClampNeg (u.2.1 2 y1.toNatClampNeg)) (fun u4 => xlet (y1 + (1 : Int32)) (fun x5 => F_X12_putsBack_l2 nn u4 x5)) else none else none
theorem L_X12_putsBack_l2 {p : Program} {l : Launch} {e : Env} {s : State} {m : MethodId} {args : Array Value} {below : List Frame} {meth : Method} {cd : Code} {G : xG} {w0 : xW} {b sz : Nat} {rr : (xS)} (hE : xE p s m args meth cd cX12_putsBack RX12 G 2 (Option.none : Option Jvm.ClassFile.FieldType)) : ∀ (nn : Nat) {u : xS} {y1 : Int32} {H : Heap} {locs : List Loc} {ls : Array Slot}, mD G (xA w0 s.heap.size) s.heap b u sz H locs → lv_has ls 2 [(0, .ref b), (1, .int y1)] → F_X12_putsBack_l2 nn u y1 = some rr → W p l e (xR 1 0 0) s m args below meth cd H locs 0 0 (xQv G w0 (fun z => z = ((mW G b rr), sz)) below args s 0 0) (F0 m 2 ls []) := by
  have hx := hE.1; have hb := hE.2.1
  intro nn
  induction nn with
  | zero => intro u y1 H locs ls hD hl hF; rw [F_X12_putsBack_l2] at hF; cases hF
  | succ nn ih =>
    intro u y1 H locs ls hD hl hF
    rw [F_X12_putsBack_l2] at hF
    refine lv_iload_n hx hb dX12_putsBack_2 rfl (lv_at hl 1 rfl) ?_
    refine lv_sipush (v := (303 : Int32)) hx hb dX12_putsBack_3 (by decide) ?_
    refine lv_icmp_ge (tgt := 27) hx hb dX12_putsBack_6 (by decide) (fun c1 => ?_) (fun c1 => ?_)
    · have hF := ite_p hF c1
      obtain rfl := Option.some.inj hF
      exact x_vret hE hD rfl (by omega) (by omega) dX12_putsBack_27
    · have hF := ite_n hF c1
      refine lv_aload_n hx hb dX12_putsBack_9 rfl (lv_at hl 0 rfl) ?_
      refine gf_X12_7 hE hD dX12_putsBack_10 ?_
      refine lv_iload_n hx hb dX12_putsBack_13 rfl (lv_at hl 1 rfl) ?_
      refine lv_aload_n hx hb dX12_putsBack_14 rfl (lv_at hl 0 rfl) ?_
      refine gf_X12_16 hE hD dX12_putsBack_15 ?_
      refine lv_iload_n hx hb dX12_putsBack_18 rfl (lv_at hl 1 rfl) ?_
      obtain ⟨h2, hF⟩ := ite_s hF
      refine ma_ld_2 hE hD h2 dX12_putsBack_19 ?_
      obtain ⟨h3, hF⟩ := ite_s hF
      refine ma_st_0 hE hD h3 dX12_putsBack_20 (fun u4 H locs eu4 hD => ?_)
      have hF := xlet_e hF eu4
      obtain ⟨x5, ex5⟩ : ∃ y : Int32, y = y1 + (1 : Int32) := ⟨_, rfl⟩
      have hF := xlet_e hF ex5
      refine lv_iinc (v := x5) (lv' := [(1, .int x5), (0, .ref b)]) hx hb dX12_putsBack_21 hl (k := 1) rfl (by rw [ex5]; rfl) (by decide) rfl (fun ls hl => ?_)
      refine lv_goto (tgt := 2) hx hb dX12_putsBack_24 (by decide) ?_
      exact ih hD (lv_sub hl [1, 0] rfl) hF
def F_X12_putsBack (u : xS)  : Option (xS) := F_X12_putsBack_l2 xFuel u (0 : Int32)
theorem c_X12_putsBack {l : Launch} {G : xG} {b sz : Nat} {rr : (xS)} {u : xS}  (hF : F_X12_putsBack u  = some rr) : xMv l G yX12_putsBack cX12_putsBack 2 (Option.none : Option Jvm.ClassFile.FieldType) 1 0 0 [.ref b] (mW G b u) sz (fun z => z = ((mW G b rr), sz)) := by
  unfold F_X12_putsBack at hF
  refine x_startV rfl (Nat.le_of_ble_eq_true rfl) (fun p e s m args below meth cd ls hE hnm hl hD => ?_)
  have hx := hE.1; have hb := hE.2.1
  have hl : lv_has ls 2 [(0, .ref b)] := hl
  have hD : mD G (xA (mW G b u) s.heap.size) s.heap b u sz s.heap [] := hD
  refine lv_iconst (v := (0 : Int32)) hx hb dX12_putsBack_0 (by decide) ?_
  refine lv_istore_n (lv' := [(1, .int (0 : Int32)), (0, .ref b)]) hx hb dX12_putsBack_1 rfl hl (by decide) rfl (fun ls hl => ?_)
  exact L_X12_putsBack_l2 hE _ hD (lv_sub hl [1, 0] rfl) hF
def F_X12_at (xa : Int32) (xb : Int32) : Option Int32 := some (((5 : Int32) + ((4 : Int32) * xa)) + xb)
theorem c_X12_at {l : Launch} {G : xG} {w : xW} {sz : Nat} {rr : Int32} {xa : Int32} {xb : Int32} (hF : F_X12_at xa xb = some rr) : xMi l G yX12_at cX12_at 2 (Option.some Jvm.ClassFile.FieldType.int) 1 0 0 [.int xa, .int xb] w sz (fun r z => r = rr ∧ z = (w, sz)) := by
  unfold F_X12_at at hF
  refine x_startI rfl (Nat.le_of_ble_eq_true rfl) (fun p e s m args below meth cd ls hE hnm hl hD => ?_)
  have hx := hE.1; have hb := hE.2.1
  have hl : lv_has ls 2 [(0, .int xa), (1, .int xb)] := hl
  refine lv_iconst (v := (5 : Int32)) hx hb dX12_at_0 (by decide) ?_
  refine lv_iconst (v := (4 : Int32)) hx hb dX12_at_1 (by decide) ?_
  refine lv_iload_n hx hb dX12_at_2 rfl (lv_at hl 0 rfl) ?_
  refine lv_imul hx hb dX12_at_3 ?_
  refine lv_iadd hx hb dX12_at_4 ?_
  refine lv_iload_n hx hb dX12_at_5 rfl (lv_at hl 1 rfl) ?_
  refine lv_iadd hx hb dX12_at_6 ?_
  obtain rfl := Option.some.inj hF
  exact x_iret hE hD ⟨rfl, rfl⟩ (by omega) (by omega) dX12_at_7
def F_X12_its (u : xS) (xa : Int32) (xb : Int32) : Option Int32 := (F_X12_at xa xb).bind (fun r1 => if xIn r1 303 then some (u.2.1 0 r1.toNatClampNeg) else none)
theorem c_X12_its {l : Launch} {G : xG} {b sz : Nat} {rr : Int32} {u : xS} {xa : Int32} {xb : Int32} (hF : F_X12_its u xa xb = some rr) : xMi l G yX12_its cX12_its 3 (Option.some Jvm.ClassFile.FieldType.int) 2 0 0 [.ref b, .int xa, .int xb] (mW G b u) sz (fun r z => r = rr ∧ z = ((mW G b u), sz)) := by
  unfold F_X12_its at hF
  refine x_startI rfl (Nat.le_of_ble_eq_true rfl) (fun p e s m args below meth cd ls hE hnm hl hD => ?_)
  have hx := hE.1; have hb := hE.2.1
  have hl : lv_has ls 3 [(0, .ref b), (1, .int xa), (2, .int xb)] := hl
  have hD : mD G (xA (mW G b u) s.heap.size) s.heap b u sz s.heap [] := hD
  refine lv_aload_n hx hb dX12_its_0 rfl (lv_at hl 0 rfl) ?_
  refine gf_X12_7 hE hD dX12_its_1 ?_
  refine lv_iload_n hx hb dX12_its_4 rfl (lv_at hl 1 rfl) ?_
  refine lv_iload_n hx hb dX12_its_5 rfl (lv_at hl 2 rfl) ?_
  obtain ⟨r1, k2, hF⟩ := xb_s hF
  refine kSi (As := [.int xa, .int xb]) (rest := [.ref (b + 1)]) hE hl hD (c_X12_at k2) kl_X12_71 rfl rfl (Nat.le_of_ble_eq_true rfl) dX12_its_6 ⟨Nat.le_of_ble_eq_true rfl, Nat.le_of_ble_eq_true rfl⟩ ⟨Nat.le_of_ble_eq_true rfl, Nat.le_of_ble_eq_true rfl⟩ (fun H locs (hD : mD G _ _ b u sz H locs) => ?_)
  obtain ⟨h3, hF⟩ := ite_s hF
  refine ma_ld_0 hE hD h3 dX12_its_9 ?_
  obtain rfl := Option.some.inj hF
  exact x_iret hE hD ⟨rfl, rfl⟩ (by omega) (by omega) dX12_its_10
def F_X12_isPart_j70 (s0 : Int32) : Option Int32 := if s0 = 0 ∨ s0 = 1 then some s0 else none
theorem B_X12_isPart_j70 {p : Program} {l : Launch} {e : Env} {s : State} {m : MethodId} {args : Array Value} {below : List Frame} {meth : Method} {cd : Code} {G : xG} {w0 : xW} {w : xW} {sz : Nat} {rr : Int32} (hE : xE p s m args meth cd cX12_isPart RX12 G 2 (Option.some Jvm.ClassFile.FieldType.boolean)) {s0 : Int32} {H : Heap} {locs : List Loc} {ls : Array Slot} (hD : xD G (xA w0 s.heap.size) s.heap w sz H locs) (hl : lv_has ls 2 []) (hF : F_X12_isPart_j70 s0 = some rr) : W p l e (xR 2 0 0) s m args below meth cd H locs 0 0 (xQi G w0 (fun r z => r = rr ∧ (rr = 0 ∨ rr = 1) ∧ z = (w, sz)) below args s 0 0) (F0 m 70 ls [.int s0]) := by
  have hx := hE.1; have hb := hE.2.1
  unfold F_X12_isPart_j70 at hF
  obtain ⟨h1, hF⟩ := ite_s hF
  obtain rfl := Option.some.inj hF
  exact x_zret hE hD h1 ⟨rfl, h1, rfl⟩ (by omega) (by omega) dX12_isPart_70
def F_X12_isPart_j69  : Option Int32 := F_X12_isPart_j70 (0 : Int32)
theorem B_X12_isPart_j69 {p : Program} {l : Launch} {e : Env} {s : State} {m : MethodId} {args : Array Value} {below : List Frame} {meth : Method} {cd : Code} {G : xG} {w0 : xW} {w : xW} {sz : Nat} {rr : Int32} (hE : xE p s m args meth cd cX12_isPart RX12 G 2 (Option.some Jvm.ClassFile.FieldType.boolean))  {H : Heap} {locs : List Loc} {ls : Array Slot} (hD : xD G (xA w0 s.heap.size) s.heap w sz H locs) (hl : lv_has ls 2 []) (hF : F_X12_isPart_j69  = some rr) : W p l e (xR 2 0 0) s m args below meth cd H locs 0 0 (xQi G w0 (fun r z => r = rr ∧ (rr = 0 ∨ rr = 1) ∧ z = (w, sz)) below args s 0 0) (F0 m 69 ls []) := by
  have hx := hE.1; have hb := hE.2.1
  unfold F_X12_isPart_j69 at hF
  refine lv_iconst (v := (0 : Int32)) hx hb dX12_isPart_69 (by decide) ?_
  exact B_X12_isPart_j70 hE hD (lv_sub hl [] rfl) hF
def F_X12_isPart (xa : Int32) (xb : Int32) : Option Int32 := (if xa = (1 : Int32) then (F_X12_in xb.toInt64 (1 : Int64) (9 : Int64)).bind (fun r3 => some r3) else (if xa = (2 : Int32) then (F_X12_in xb.toInt64 (0 : Int64) (999 : Int64)).bind (fun r7 => some r7) else if xa = (3 : Int32) then (F_X12_in xb.toInt64 (0 : Int64) (6 : Int64)).bind (fun r11 => if r11 = 0 then F_X12_isPart_j69 else F_X12_isPart_j70 (1 : Int32)) else F_X12_isPart_j69))
theorem c_X12_isPart {l : Launch} {G : xG} {w : xW} {sz : Nat} {rr : Int32} {xa : Int32} {xb : Int32} (hF : F_X12_isPart xa xb = some rr) : xMi l G yX12_isPart cX12_isPart 2 (Option.some Jvm.ClassFile.FieldType.boolean) 2 0 0 [.int xa, .int xb] w sz (fun r z => r = rr ∧ (rr = 0 ∨ rr = 1) ∧ z = (w, sz)) := by
  unfold F_X12_isPart at hF
  refine x_startI rfl (Nat.le_of_ble_eq_true rfl) (fun p e s m args below meth cd ls hE hnm hl hD => ?_)
  have hx := hE.1; have hb := hE.2.1
  have hl : lv_has ls 2 [(0, .int xa), (1, .int xb)] := hl
  refine lv_iload_n hx hb dX12_isPart_0 rfl (lv_at hl 0 rfl) ?_
  by_cases c2 : xa = (1 : Int32)
  · have hF := ite_p hF c2
    refine lv_lookup (off := 27) (tgt := 28) hx hb dX12_isPart_1 (by decide) (by rw [c2]; rfl) (by decide) ?_
    refine lv_iload_n hx hb dX12_isPart_28 rfl (lv_at hl 1 rfl) ?_
    refine lv_i2l (v := xb.toInt64) hx hb dX12_isPart_29 rfl ?_
    refine lv_lconst (v := (1 : Int64)) hx hb dX12_isPart_30 (by decide) ?_
    refine lv_ldc2 (v := (9 : Int64)) hx hb hE.2.2.1 (hE.2.2.2.1 _ kw6_57) dX12_isPart_31 ?_
    obtain ⟨r3, k4, hF⟩ := xb_s hF
    refine kSz (As := [.long xb.toInt64, .long (1 : Int64), .long (9 : Int64)]) (rest := []) hE hl hD (c_X12_in k4) kl_X12_67 rfl rfl (Nat.le_of_ble_eq_true rfl) dX12_isPart_34 ⟨Nat.le_of_ble_eq_true rfl, Nat.le_of_ble_eq_true rfl⟩ ⟨Nat.le_of_ble_eq_true rfl, Nat.le_of_ble_eq_true rfl⟩ (fun H locs z5 (hD : xD G _ _ w sz H locs) => ?_)
    obtain rfl := Option.some.inj hF
    exact x_zret hE hD z5 ⟨rfl, z5, rfl⟩ (by omega) (by omega) dX12_isPart_37
  · have hF := ite_n hF c2
    by_cases c6 : xa = (2 : Int32)
    · have hF := ite_p hF c6
      refine lv_lookup (off := 37) (tgt := 38) hx hb dX12_isPart_1 (by decide) (by rw [c6]; rfl) (by decide) ?_
      refine lv_iload_n hx hb dX12_isPart_38 rfl (lv_at hl 1 rfl) ?_
      refine lv_i2l (v := xb.toInt64) hx hb dX12_isPart_39 rfl ?_
      refine lv_lconst (v := (0 : Int64)) hx hb dX12_isPart_40 (by decide) ?_
      refine lv_ldc2 (v := (999 : Int64)) hx hb hE.2.2.1 (hE.2.2.2.1 _ kw6_58) dX12_isPart_41 ?_
      obtain ⟨r7, k8, hF⟩ := xb_s hF
      refine kSz (As := [.long xb.toInt64, .long (0 : Int64), .long (999 : Int64)]) (rest := []) hE hl hD (c_X12_in k8) kl_X12_67 rfl rfl (Nat.le_of_ble_eq_true rfl) dX12_isPart_44 ⟨Nat.le_of_ble_eq_true rfl, Nat.le_of_ble_eq_true rfl⟩ ⟨Nat.le_of_ble_eq_true rfl, Nat.le_of_ble_eq_true rfl⟩ (fun H locs z9 (hD : xD G _ _ w sz H locs) => ?_)
      obtain rfl := Option.some.inj hF
      exact x_zret hE hD z9 ⟨rfl, z9, rfl⟩ (by omega) (by omega) dX12_isPart_47
    · have hF := ite_n hF c6
      refine lv_lookup (off := 47) (tgt := 48) hx hb dX12_isPart_1 (by decide) (by show Op.lookupswitch.offset [(1, 27), (2, 37)] 47 _ = _; rw [lv_osw (a := 1) c2 rfl, lv_osw (a := 2) c6 rfl]; rfl) (by decide) ?_
      refine lv_iload_n hx hb dX12_isPart_48 rfl (lv_at hl 0 rfl) ?_
      refine lv_iconst (v := (3 : Int32)) hx hb dX12_isPart_49 (by decide) ?_
      refine lv_icmp_ne (tgt := 69) hx hb dX12_isPart_50 (by decide) (fun c10 => ?_) (fun c10 => ?_)
      · have hF := ite_n hF c10
        exact B_X12_isPart_j69 hE hD (lv_sub hl [] rfl) hF
      · have hF := ite_p hF c10
        refine lv_iload_n hx hb dX12_isPart_53 rfl (lv_at hl 1 rfl) ?_
        refine lv_i2l (v := xb.toInt64) hx hb dX12_isPart_54 rfl ?_
        refine lv_lconst (v := (0 : Int64)) hx hb dX12_isPart_55 (by decide) ?_
        refine lv_ldc2 (v := (6 : Int64)) hx hb hE.2.2.1 (hE.2.2.2.1 _ kw6_59) dX12_isPart_56 ?_
        obtain ⟨r11, k12, hF⟩ := xb_s hF
        refine kSz (As := [.long xb.toInt64, .long (0 : Int64), .long (6 : Int64)]) (rest := []) hE hl hD (c_X12_in k12) kl_X12_67 rfl rfl (Nat.le_of_ble_eq_true rfl) dX12_isPart_59 ⟨Nat.le_of_ble_eq_true rfl, Nat.le_of_ble_eq_true rfl⟩ ⟨Nat.le_of_ble_eq_true rfl, Nat.le_of_ble_eq_true rfl⟩ (fun H locs z13 (hD : xD G _ _ w sz H locs) => ?_)
        refine lv_if_eq (tgt := 69) hx hb dX12_isPart_62 (by decide) (fun c14 => ?_) (fun c14 => ?_)
        · have hF := ite_p hF c14
          exact B_X12_isPart_j69 hE hD (lv_sub hl [] rfl) hF
        · have hF := ite_n hF c14
          refine lv_iconst (v := (1 : Int32)) hx hb dX12_isPart_65 (by decide) ?_
          refine lv_goto (tgt := 70) hx hb dX12_isPart_66 (by decide) ?_
          exact B_X12_isPart_j70 hE hD (lv_sub hl [] rfl) hF
def F_X12_bridge_j37 (u : xS)  : Option (Int32 × xS) := some ((-1 : Int32), u)
theorem B_X12_bridge_j37 {p : Program} {l : Launch} {e : Env} {s : State} {m : MethodId} {args : Array Value} {below : List Frame} {meth : Method} {cd : Code} {G : xG} {w0 : xW} {b sz : Nat} {rr : (Int32 × xS)} (hE : xE p s m args meth cd cX12_bridge RX12 G 6 (Option.some Jvm.ClassFile.FieldType.int)) {u : xS}  {H : Heap} {locs : List Loc} {ls : Array Slot} (hD : mD G (xA w0 s.heap.size) s.heap b u sz H locs) (hl : lv_has ls 6 [(0, .ref b)]) (hF : F_X12_bridge_j37 u  = some rr) : W p l e (xR 3 0 0) s m args below meth cd H locs 0 0 (xQi G w0 (fun r z => r = rr.1 ∧ z = ((mW G b rr.2), sz)) below args s 0 0) (F0 m 37 ls []) := by
  have hx := hE.1; have hb := hE.2.1
  unfold F_X12_bridge_j37 at hF
  refine lv_iconst (v := (-1 : Int32)) hx hb dX12_bridge_37 (by decide) ?_
  obtain rfl := Option.some.inj hF
  exact x_iret hE hD ⟨rfl, rfl⟩ (by omega) (by omega) dX12_bridge_38
def F_X12_bridge (u : xS) (xa : Int32) (xb : Int32) (xc : Int32) (xd : Int32) : Option (Int32 × xS) := (F_X12_in xa.toInt64 (1 : Int64) (5 : Int64)).bind (fun r1 => if r1 = 0 then F_X12_bridge_j37 u else (F_X12_isPart (1 : Int32) xb).bind (fun r5 => if r5 = 0 then F_X12_bridge_j37 u else (F_X12_isPart (2 : Int32) xc).bind (fun r9 => if r9 = 0 then F_X12_bridge_j37 u else (F_X12_isPart (3 : Int32) xd).bind (fun r13 => if r13 = 0 then F_X12_bridge_j37 u else if xIn (0 : Int32) 303 then if (u.2.1 0 (0 : Int32).toNatClampNeg) = (9 : Int32) then some ((-2 : Int32), u) else if xIn (0 : Int32) 303 then xlet (u.2.1 0 (0 : Int32).toNatClampNeg) (fun x20 => (F_X12_at x20 (0 : Int32)).bind (fun r21 => if xIn r21 303 then xlet (mA u 0 r21.toNatClampNeg xa) (fun u24 => (F_X12_at x20 (1 : Int32)).bind (fun r25 => if xIn r25 303 then xlet (mA u24 0 r25.toNatClampNeg xb) (fun u28 => (F_X12_at x20 (2 : Int32)).bind (fun r29 => if xIn r29 303 then xlet (mA u28 0 r29.toNatClampNeg xc) (fun u32 => (F_X12_at x20 (3 : Int32)).bind (fun r33 => if xIn r33 303 then xlet (mA u32 0 r33.toNatClampNeg xd) (fun u36 => if xIn (0 : Int32) 303 then if xIn (0 : Int32) 303 then xlet (mA u36 0 (0 : Int32).toNatClampNeg ((u36.2.1 0 (0 : Int32).toNatClampNeg) + (1 : Int32))) (fun u39 => some (x20, u39)) else none else none) else none)) else none)) else none)) else none)) else none else none))))
theorem c_X12_bridge {l : Launch} {G : xG} {b sz : Nat} {rr : (Int32 × xS)} {u : xS} {xa : Int32} {xb : Int32} {xc : Int32} {xd : Int32} (hF : F_X12_bridge u xa xb xc xd = some rr) : xMi l G yX12_bridge cX12_bridge 6 (Option.some Jvm.ClassFile.FieldType.int) 3 0 0 [.ref b, .int xa, .int xb, .int xc, .int xd] (mW G b u) sz (fun r z => r = rr.1 ∧ z = ((mW G b rr.2), sz)) := by
  unfold F_X12_bridge at hF
  refine x_startI rfl (Nat.le_of_ble_eq_true rfl) (fun p e s m args below meth cd ls hE hnm hl hD => ?_)
  have hx := hE.1; have hb := hE.2.1
  have hl : lv_has ls 6 [(0, .ref b), (1, .int xa), (2, .int xb), (3, .int xc), (4, .int xd)] := hl
  have hD : mD G (xA (mW G b u) s.heap.size) s.heap b u sz s.heap [] := hD
  refine lv_iload_n hx hb dX12_bridge_0 rfl (lv_at hl 1 rfl) ?_
  refine lv_i2l (v := xa.toInt64) hx hb dX12_bridge_1 rfl ?_
  refine lv_lconst (v := (1 : Int64)) hx hb dX12_bridge_2 (by decide) ?_
  refine lv_ldc2 (v := (5 : Int64)) hx hb hE.2.2.1 (hE.2.2.2.1 _ kw6_50) dX12_bridge_3 ?_
  obtain ⟨r1, k2, hF⟩ := xb_s hF
  refine kSz (As := [.long xa.toInt64, .long (1 : Int64), .long (5 : Int64)]) (rest := []) hE hl hD (c_X12_in k2) kl_X12_67 rfl rfl (Nat.le_of_ble_eq_true rfl) dX12_bridge_6 ⟨Nat.le_of_ble_eq_true rfl, Nat.le_of_ble_eq_true rfl⟩ ⟨Nat.le_of_ble_eq_true rfl, Nat.le_of_ble_eq_true rfl⟩ (fun H locs z3 (hD : mD G _ _ b u sz H locs) => ?_)
  refine lv_if_eq (tgt := 37) hx hb dX12_bridge_9 (by decide) (fun c4 => ?_) (fun c4 => ?_)
  · have hF := ite_p hF c4
    exact B_X12_bridge_j37 hE hD (lv_sub hl [0] rfl) hF
  · have hF := ite_n hF c4
    refine lv_iconst (v := (1 : Int32)) hx hb dX12_bridge_12 (by decide) ?_
    refine lv_iload_n hx hb dX12_bridge_13 rfl (lv_at hl 2 rfl) ?_
    obtain ⟨r5, k6, hF⟩ := xb_s hF
    refine kSz (As := [.int (1 : Int32), .int xb]) (rest := []) hE hl hD (c_X12_isPart k6) kl_X12_83 rfl rfl (Nat.le_of_ble_eq_true rfl) dX12_bridge_14 ⟨Nat.le_of_ble_eq_true rfl, Nat.le_of_ble_eq_true rfl⟩ ⟨Nat.le_of_ble_eq_true rfl, Nat.le_of_ble_eq_true rfl⟩ (fun H locs z7 (hD : mD G _ _ b u sz H locs) => ?_)
    refine lv_if_eq (tgt := 37) hx hb dX12_bridge_17 (by decide) (fun c8 => ?_) (fun c8 => ?_)
    · have hF := ite_p hF c8
      exact B_X12_bridge_j37 hE hD (lv_sub hl [0] rfl) hF
    · have hF := ite_n hF c8
      refine lv_iconst (v := (2 : Int32)) hx hb dX12_bridge_20 (by decide) ?_
      refine lv_iload_n hx hb dX12_bridge_21 rfl (lv_at hl 3 rfl) ?_
      obtain ⟨r9, k10, hF⟩ := xb_s hF
      refine kSz (As := [.int (2 : Int32), .int xc]) (rest := []) hE hl hD (c_X12_isPart k10) kl_X12_83 rfl rfl (Nat.le_of_ble_eq_true rfl) dX12_bridge_22 ⟨Nat.le_of_ble_eq_true rfl, Nat.le_of_ble_eq_true rfl⟩ ⟨Nat.le_of_ble_eq_true rfl, Nat.le_of_ble_eq_true rfl⟩ (fun H locs z11 (hD : mD G _ _ b u sz H locs) => ?_)
      refine lv_if_eq (tgt := 37) hx hb dX12_bridge_25 (by decide) (fun c12 => ?_) (fun c12 => ?_)
      · have hF := ite_p hF c12
        exact B_X12_bridge_j37 hE hD (lv_sub hl [0] rfl) hF
      · have hF := ite_n hF c12
        refine lv_iconst (v := (3 : Int32)) hx hb dX12_bridge_28 (by decide) ?_
        refine lv_iload hx hb dX12_bridge_29 (lv_at hl 4 rfl) ?_
        obtain ⟨r13, k14, hF⟩ := xb_s hF
        refine kSz (As := [.int (3 : Int32), .int xd]) (rest := []) hE hl hD (c_X12_isPart k14) kl_X12_83 rfl rfl (Nat.le_of_ble_eq_true rfl) dX12_bridge_31 ⟨Nat.le_of_ble_eq_true rfl, Nat.le_of_ble_eq_true rfl⟩ ⟨Nat.le_of_ble_eq_true rfl, Nat.le_of_ble_eq_true rfl⟩ (fun H locs z15 (hD : mD G _ _ b u sz H locs) => ?_)
        refine lv_if_ne (tgt := 39) hx hb dX12_bridge_34 (by decide) (fun c16 => ?_) (fun c16 => ?_)
        · have hF := ite_n hF c16
          refine lv_aload_n hx hb dX12_bridge_39 rfl (lv_at hl 0 rfl) ?_
          refine gf_X12_7 hE hD dX12_bridge_40 ?_
          refine lv_iconst (v := (0 : Int32)) hx hb dX12_bridge_43 (by decide) ?_
          obtain ⟨h17, hF⟩ := ite_s hF
          refine ma_ld_0 hE hD h17 dX12_bridge_44 ?_
          refine lv_bipush (v := (9 : Int32)) hx hb dX12_bridge_45 (by decide) ?_
          refine lv_icmp_ne (tgt := 53) hx hb dX12_bridge_47 (by decide) (fun c18 => ?_) (fun c18 => ?_)
          · have hF := ite_n hF c18
            refine lv_aload_n hx hb dX12_bridge_53 rfl (lv_at hl 0 rfl) ?_
            refine gf_X12_7 hE hD dX12_bridge_54 ?_
            refine lv_iconst (v := (0 : Int32)) hx hb dX12_bridge_57 (by decide) ?_
            obtain ⟨h19, hF⟩ := ite_s hF
            refine ma_ld_0 hE hD h19 dX12_bridge_58 ?_
            refine lv_topi (fun x20 ex20 => ?_)
            have hF := xlet_e hF ex20
            refine lv_istore (lv' := [(5, .int x20), (0, .ref b), (1, .int xa), (2, .int xb), (3, .int xc), (4, .int xd)]) hx hb dX12_bridge_59 hl (by decide) rfl (fun ls hl => ?_)
            refine lv_aload_n hx hb dX12_bridge_61 rfl (lv_at hl 1 rfl) ?_
            refine gf_X12_7 hE hD dX12_bridge_62 ?_
            refine lv_iload hx hb dX12_bridge_65 (lv_at hl 0 rfl) ?_
            refine lv_iconst (v := (0 : Int32)) hx hb dX12_bridge_67 (by decide) ?_
            obtain ⟨r21, k22, hF⟩ := xb_s hF
            refine kSi (As := [.int x20, .int (0 : Int32)]) (rest := [.ref (b + 1)]) hE hl hD (c_X12_at k22) kl_X12_71 rfl rfl (Nat.le_of_ble_eq_true rfl) dX12_bridge_68 ⟨Nat.le_of_ble_eq_true rfl, Nat.le_of_ble_eq_true rfl⟩ ⟨Nat.le_of_ble_eq_true rfl, Nat.le_of_ble_eq_true rfl⟩ (fun H locs (hD : mD G _ _ b u sz H locs) => ?_)
            refine lv_iload_n hx hb dX12_bridge_71 rfl (lv_at hl 2 rfl) ?_
            obtain ⟨h23, hF⟩ := ite_s hF
            refine ma_st_0 hE hD h23 dX12_bridge_72 (fun u24 H locs eu24 hD => ?_)
            have hF := xlet_e hF eu24
            refine lv_aload_n hx hb dX12_bridge_73 rfl (lv_at hl 1 rfl) ?_
            refine gf_X12_7 hE hD dX12_bridge_74 ?_
            refine lv_iload hx hb dX12_bridge_77 (lv_at hl 0 rfl) ?_
            refine lv_iconst (v := (1 : Int32)) hx hb dX12_bridge_79 (by decide) ?_
            obtain ⟨r25, k26, hF⟩ := xb_s hF
            refine kSi (As := [.int x20, .int (1 : Int32)]) (rest := [.ref (b + 1)]) hE hl hD (c_X12_at k26) kl_X12_71 rfl rfl (Nat.le_of_ble_eq_true rfl) dX12_bridge_80 ⟨Nat.le_of_ble_eq_true rfl, Nat.le_of_ble_eq_true rfl⟩ ⟨Nat.le_of_ble_eq_true rfl, Nat.le_of_ble_eq_true rfl⟩ (fun H locs (hD : mD G _ _ b u24 sz H locs) => ?_)
            refine lv_iload_n hx hb dX12_bridge_83 rfl (lv_at hl 3 rfl) ?_
            obtain ⟨h27, hF⟩ := ite_s hF
            refine ma_st_0 hE hD h27 dX12_bridge_84 (fun u28 H locs eu28 hD => ?_)
            have hF := xlet_e hF eu28
            refine lv_aload_n hx hb dX12_bridge_85 rfl (lv_at hl 1 rfl) ?_
            refine gf_X12_7 hE hD dX12_bridge_86 ?_
            refine lv_iload hx hb dX12_bridge_89 (lv_at hl 0 rfl) ?_
            refine lv_iconst (v := (2 : Int32)) hx hb dX12_bridge_91 (by decide) ?_
            obtain ⟨r29, k30, hF⟩ := xb_s hF
            refine kSi (As := [.int x20, .int (2 : Int32)]) (rest := [.ref (b + 1)]) hE hl hD (c_X12_at k30) kl_X12_71 rfl rfl (Nat.le_of_ble_eq_true rfl) dX12_bridge_92 ⟨Nat.le_of_ble_eq_true rfl, Nat.le_of_ble_eq_true rfl⟩ ⟨Nat.le_of_ble_eq_true rfl, Nat.le_of_ble_eq_true rfl⟩ (fun H locs (hD : mD G _ _ b u28 sz H locs) => ?_)
            refine lv_iload_n hx hb dX12_bridge_95 rfl (lv_at hl 4 rfl) ?_
            obtain ⟨h31, hF⟩ := ite_s hF
            refine ma_st_0 hE hD h31 dX12_bridge_96 (fun u32 H locs eu32 hD => ?_)
            have hF := xlet_e hF eu32
            refine lv_aload_n hx hb dX12_bridge_97 rfl (lv_at hl 1 rfl) ?_
            refine gf_X12_7 hE hD dX12_bridge_98 ?_
            refine lv_iload hx hb dX12_bridge_101 (lv_at hl 0 rfl) ?_
            refine lv_iconst (v := (3 : Int32)) hx hb dX12_bridge_103 (by decide) ?_
            obtain ⟨r33, k34, hF⟩ := xb_s hF
            refine kSi (As := [.int x20, .int (3 : Int32)]) (rest := [.ref (b + 1)]) hE hl hD (c_X12_at k34) kl_X12_71 rfl rfl (Nat.le_of_ble_eq_true rfl) dX12_bridge_104 ⟨Nat.le_of_ble_eq_true rfl, Nat.le_of_ble_eq_true rfl⟩ ⟨Nat.le_of_ble_eq_true rfl, Nat.le_of_ble_eq_true rfl⟩ (fun H locs (hD : mD G _ _ b u32 sz H locs) => ?_)
            refine lv_iload hx hb dX12_bridge_107 (lv_at hl 5 rfl) ?_
            obtain ⟨h35, hF⟩ := ite_s hF
            refine ma_st_0 hE hD h35 dX12_bridge_109 (fun u36 H locs eu36 hD => ?_)
            have hF := xlet_e hF eu36
            refine lv_aload_n hx hb dX12_bridge_110 rfl (lv_at hl 1 rfl) ?_
            refine gf_X12_7 hE hD dX12_bridge_111 ?_
            refine lv_iconst (v := (0 : Int32)) hx hb dX12_bridge_114 (by decide) ?_
            refine lv_dup2_11 hx hb dX12_bridge_115 rfl rfl ?_
            obtain ⟨h37, hF⟩ := ite_s hF
            refine ma_ld_0 hE hD h37 dX12_bridge_116 ?_
            refine lv_iconst (v := (1 : Int32)) hx hb dX12_bridge_117 (by decide) ?_
            refine lv_iadd hx hb dX12_bridge_118 ?_
            obtain ⟨h38, hF⟩ := ite_s hF
            refine ma_st_0 hE hD h38 dX12_bridge_119 (fun u39 H locs eu39 hD => ?_)
            have hF := xlet_e hF eu39
            refine lv_iload hx hb dX12_bridge_120 (lv_at hl 0 rfl) ?_
            obtain rfl := Option.some.inj hF
            exact x_iret hE hD ⟨rfl, rfl⟩ (by omega) (by omega) dX12_bridge_122
          · have hF := ite_p hF c18
            refine lv_bipush (v := (-2 : Int32)) hx hb dX12_bridge_50 (by decide) ?_
            obtain rfl := Option.some.inj hF
            exact x_iret hE hD ⟨rfl, rfl⟩ (by omega) (by omega) dX12_bridge_52
        · have hF := ite_p hF c16
          exact B_X12_bridge_j37 hE hD (lv_sub hl [0] rfl) hF
def F_X12_isUnder_j34 (s0 : Int32) : Option Int32 := if s0 = 0 ∨ s0 = 1 then some s0 else none
theorem B_X12_isUnder_j34 {p : Program} {l : Launch} {e : Env} {s : State} {m : MethodId} {args : Array Value} {below : List Frame} {meth : Method} {cd : Code} {G : xG} {w0 : xW} {w : xW} {sz : Nat} {rr : Int32} (hE : xE p s m args meth cd cX12_isUnder RX12 G 2 (Option.some Jvm.ClassFile.FieldType.boolean)) {s0 : Int32} {H : Heap} {locs : List Loc} {ls : Array Slot} (hD : xD G (xA w0 s.heap.size) s.heap w sz H locs) (hl : lv_has ls 2 []) (hF : F_X12_isUnder_j34 s0 = some rr) : W p l e (xR 1 0 0) s m args below meth cd H locs 0 0 (xQi G w0 (fun r z => r = rr ∧ (rr = 0 ∨ rr = 1) ∧ z = (w, sz)) below args s 0 0) (F0 m 34 ls [.int s0]) := by
  have hx := hE.1; have hb := hE.2.1
  unfold F_X12_isUnder_j34 at hF
  obtain ⟨h1, hF⟩ := ite_s hF
  obtain rfl := Option.some.inj hF
  exact x_zret hE hD h1 ⟨rfl, h1, rfl⟩ (by omega) (by omega) dX12_isUnder_34
def F_X12_isUnder_j33  : Option Int32 := F_X12_isUnder_j34 (0 : Int32)
theorem B_X12_isUnder_j33 {p : Program} {l : Launch} {e : Env} {s : State} {m : MethodId} {args : Array Value} {below : List Frame} {meth : Method} {cd : Code} {G : xG} {w0 : xW} {w : xW} {sz : Nat} {rr : Int32} (hE : xE p s m args meth cd cX12_isUnder RX12 G 2 (Option.some Jvm.ClassFile.FieldType.boolean))  {H : Heap} {locs : List Loc} {ls : Array Slot} (hD : xD G (xA w0 s.heap.size) s.heap w sz H locs) (hl : lv_has ls 2 []) (hF : F_X12_isUnder_j33  = some rr) : W p l e (xR 1 0 0) s m args below meth cd H locs 0 0 (xQi G w0 (fun r z => r = rr ∧ (rr = 0 ∨ rr = 1) ∧ z = (w, sz)) below args s 0 0) (F0 m 33 ls []) := by
  have hx := hE.1; have hb := hE.2.1
  unfold F_X12_isUnder_j33 at hF
  refine lv_iconst (v := (0 : Int32)) hx hb dX12_isUnder_33 (by decide) ?_
  exact B_X12_isUnder_j34 hE hD (lv_sub hl [] rfl) hF
def F_X12_isUnder_j29  : Option Int32 := F_X12_isUnder_j34 (1 : Int32)
theorem B_X12_isUnder_j29 {p : Program} {l : Launch} {e : Env} {s : State} {m : MethodId} {args : Array Value} {below : List Frame} {meth : Method} {cd : Code} {G : xG} {w0 : xW} {w : xW} {sz : Nat} {rr : Int32} (hE : xE p s m args meth cd cX12_isUnder RX12 G 2 (Option.some Jvm.ClassFile.FieldType.boolean))  {H : Heap} {locs : List Loc} {ls : Array Slot} (hD : xD G (xA w0 s.heap.size) s.heap w sz H locs) (hl : lv_has ls 2 []) (hF : F_X12_isUnder_j29  = some rr) : W p l e (xR 1 0 0) s m args below meth cd H locs 0 0 (xQi G w0 (fun r z => r = rr ∧ (rr = 0 ∨ rr = 1) ∧ z = (w, sz)) below args s 0 0) (F0 m 29 ls []) := by
  have hx := hE.1; have hb := hE.2.1
  unfold F_X12_isUnder_j29 at hF
  refine lv_iconst (v := (1 : Int32)) hx hb dX12_isUnder_29 (by decide) ?_
  refine lv_goto (tgt := 34) hx hb dX12_isUnder_30 (by decide) ?_
  exact B_X12_isUnder_j34 hE hD (lv_sub hl [] rfl) hF
def F_X12_isUnder_j19 (y0 : Int32) (y1 : Int32) : Option Int32 := if y1 = (4 : Int32) then if y0 = (5 : Int32) then F_X12_isUnder_j29 else F_X12_isUnder_j33 else F_X12_isUnder_j33
theorem B_X12_isUnder_j19 {p : Program} {l : Launch} {e : Env} {s : State} {m : MethodId} {args : Array Value} {below : List Frame} {meth : Method} {cd : Code} {G : xG} {w0 : xW} {w : xW} {sz : Nat} {rr : Int32} (hE : xE p s m args meth cd cX12_isUnder RX12 G 2 (Option.some Jvm.ClassFile.FieldType.boolean)) {y0 : Int32} {y1 : Int32} {H : Heap} {locs : List Loc} {ls : Array Slot} (hD : xD G (xA w0 s.heap.size) s.heap w sz H locs) (hl : lv_has ls 2 [(0, .int y0), (1, .int y1)]) (hF : F_X12_isUnder_j19 y0 y1 = some rr) : W p l e (xR 1 0 0) s m args below meth cd H locs 0 0 (xQi G w0 (fun r z => r = rr ∧ (rr = 0 ∨ rr = 1) ∧ z = (w, sz)) below args s 0 0) (F0 m 19 ls []) := by
  have hx := hE.1; have hb := hE.2.1
  unfold F_X12_isUnder_j19 at hF
  refine lv_iload_n hx hb dX12_isUnder_19 rfl (lv_at hl 1 rfl) ?_
  refine lv_iconst (v := (4 : Int32)) hx hb dX12_isUnder_20 (by decide) ?_
  refine lv_icmp_ne (tgt := 33) hx hb dX12_isUnder_21 (by decide) (fun c2 => ?_) (fun c2 => ?_)
  · have hF := ite_n hF c2
    exact B_X12_isUnder_j33 hE hD (lv_sub hl [] rfl) hF
  · have hF := ite_p hF c2
    refine lv_iload_n hx hb dX12_isUnder_24 rfl (lv_at hl 0 rfl) ?_
    refine lv_iconst (v := (5 : Int32)) hx hb dX12_isUnder_25 (by decide) ?_
    refine lv_icmp_ne (tgt := 33) hx hb dX12_isUnder_26 (by decide) (fun c3 => ?_) (fun c3 => ?_)
    · have hF := ite_n hF c3
      exact B_X12_isUnder_j33 hE hD (lv_sub hl [] rfl) hF
    · have hF := ite_p hF c3
      exact B_X12_isUnder_j29 hE hD (lv_sub hl [] rfl) hF
def F_X12_isUnder (xa : Int32) (xb : Int32) : Option Int32 := if xb = 0 then F_X12_isUnder_j29 else if xa = xb then F_X12_isUnder_j29 else if xb = (2 : Int32) then if xa = (3 : Int32) then F_X12_isUnder_j29 else F_X12_isUnder_j19 xa xb else F_X12_isUnder_j19 xa xb
theorem c_X12_isUnder {l : Launch} {G : xG} {w : xW} {sz : Nat} {rr : Int32} {xa : Int32} {xb : Int32} (hF : F_X12_isUnder xa xb = some rr) : xMi l G yX12_isUnder cX12_isUnder 2 (Option.some Jvm.ClassFile.FieldType.boolean) 1 0 0 [.int xa, .int xb] w sz (fun r z => r = rr ∧ (rr = 0 ∨ rr = 1) ∧ z = (w, sz)) := by
  unfold F_X12_isUnder at hF
  refine x_startI rfl (Nat.le_of_ble_eq_true rfl) (fun p e s m args below meth cd ls hE hnm hl hD => ?_)
  have hx := hE.1; have hb := hE.2.1
  have hl : lv_has ls 2 [(0, .int xa), (1, .int xb)] := hl
  refine lv_iload_n hx hb dX12_isUnder_0 rfl (lv_at hl 1 rfl) ?_
  refine lv_if_eq (tgt := 29) hx hb dX12_isUnder_1 (by decide) (fun c4 => ?_) (fun c4 => ?_)
  · have hF := ite_p hF c4
    exact B_X12_isUnder_j29 hE hD (lv_sub hl [] rfl) hF
  · have hF := ite_n hF c4
    refine lv_iload_n hx hb dX12_isUnder_4 rfl (lv_at hl 0 rfl) ?_
    refine lv_iload_n hx hb dX12_isUnder_5 rfl (lv_at hl 1 rfl) ?_
    refine lv_icmp_eq (tgt := 29) hx hb dX12_isUnder_6 (by decide) (fun c5 => ?_) (fun c5 => ?_)
    · have hF := ite_p hF c5
      exact B_X12_isUnder_j29 hE hD (lv_sub hl [] rfl) hF
    · have hF := ite_n hF c5
      refine lv_iload_n hx hb dX12_isUnder_9 rfl (lv_at hl 1 rfl) ?_
      refine lv_iconst (v := (2 : Int32)) hx hb dX12_isUnder_10 (by decide) ?_
      refine lv_icmp_ne (tgt := 19) hx hb dX12_isUnder_11 (by decide) (fun c6 => ?_) (fun c6 => ?_)
      · have hF := ite_n hF c6
        exact B_X12_isUnder_j19 hE hD (lv_sub hl [0, 1] rfl) hF
      · have hF := ite_p hF c6
        refine lv_iload_n hx hb dX12_isUnder_14 rfl (lv_at hl 0 rfl) ?_
        refine lv_iconst (v := (3 : Int32)) hx hb dX12_isUnder_15 (by decide) ?_
        refine lv_icmp_eq (tgt := 29) hx hb dX12_isUnder_16 (by decide) (fun c7 => ?_) (fun c7 => ?_)
        · have hF := ite_p hF c7
          exact B_X12_isUnder_j29 hE hD (lv_sub hl [] rfl) hF
        · have hF := ite_n hF c7
          exact B_X12_isUnder_j19 hE hD (lv_sub hl [0, 1] rfl) hF
def F_X12_fact (u : xS) (xa : Int32) (xb : Int32) : Option Int32 := (if xa = (-5 : Int32) then some xb else (if xa = (-4 : Int32) then (F_X12_its u xb (3 : Int32)).bind (fun r3 => some r3) else (if xa = (-3 : Int32) then (F_X12_its u xb (2 : Int32)).bind (fun r6 => some r6) else (if xa = (-2 : Int32) then (F_X12_its u xb (1 : Int32)).bind (fun r9 => some r9) else (if xa = (-1 : Int32) then if xIn (3 : Int32) 303 then some (u.2.1 0 (3 : Int32).toNatClampNeg) else none else some xa)))))
theorem c_X12_fact {l : Launch} {G : xG} {b sz : Nat} {rr : Int32} {u : xS} {xa : Int32} {xb : Int32} (hF : F_X12_fact u xa xb = some rr) : xMi l G yX12_fact cX12_fact 3 (Option.some Jvm.ClassFile.FieldType.int) 3 0 0 [.ref b, .int xa, .int xb] (mW G b u) sz (fun r z => r = rr ∧ z = ((mW G b u), sz)) := by
  unfold F_X12_fact at hF
  refine x_startI rfl (Nat.le_of_ble_eq_true rfl) (fun p e s m args below meth cd ls hE hnm hl hD => ?_)
  have hx := hE.1; have hb := hE.2.1
  have hl : lv_has ls 3 [(0, .ref b), (1, .int xa), (2, .int xb)] := hl
  have hD : mD G (xA (mW G b u) s.heap.size) s.heap b u sz s.heap [] := hD
  refine lv_iload_n hx hb dX12_fact_0 rfl (lv_at hl 1 rfl) ?_
  by_cases c1 : xa = (-5 : Int32)
  · have hF := ite_p hF c1
    refine lv_tableIn (off := 63) (tgt := 64) hx hb dX12_fact_1 (by rw [c1]; decide) (by rw [c1]; decide) (by rw [c1]; rfl) (by decide) ?_
    refine lv_iload_n hx hb dX12_fact_64 rfl (lv_at hl 2 rfl) ?_
    obtain rfl := Option.some.inj hF
    exact x_iret hE hD ⟨rfl, rfl⟩ (by omega) (by omega) dX12_fact_65
  · have hF := ite_n hF c1
    by_cases c2 : xa = (-4 : Int32)
    · have hF := ite_p hF c2
      refine lv_tableIn (off := 56) (tgt := 57) hx hb dX12_fact_1 (by rw [c2]; decide) (by rw [c2]; decide) (by rw [c2]; rfl) (by decide) ?_
      refine lv_aload_n hx hb dX12_fact_57 rfl (lv_at hl 0 rfl) ?_
      refine lv_iload_n hx hb dX12_fact_58 rfl (lv_at hl 2 rfl) ?_
      refine lv_iconst (v := (3 : Int32)) hx hb dX12_fact_59 (by decide) ?_
      obtain ⟨r3, k4, hF⟩ := xb_s hF
      refine kVi (As := [.int xb, .int (3 : Int32)]) (rest := []) hE hl hD (c_X12_its (b := b) k4) kl_X12_87 (mW_0 _ _ _) rfl rfl rfl rfl (Nat.le_of_ble_eq_true rfl) dX12_fact_60 ⟨Nat.le_of_ble_eq_true rfl, Nat.le_of_ble_eq_true rfl⟩ ⟨Nat.le_of_ble_eq_true rfl, Nat.le_of_ble_eq_true rfl⟩ (fun H locs (hD : mD G _ _ b u sz H locs) => ?_)
      obtain rfl := Option.some.inj hF
      exact x_iret hE hD ⟨rfl, rfl⟩ (by omega) (by omega) dX12_fact_63
    · have hF := ite_n hF c2
      by_cases c5 : xa = (-3 : Int32)
      · have hF := ite_p hF c5
        refine lv_tableIn (off := 49) (tgt := 50) hx hb dX12_fact_1 (by rw [c5]; decide) (by rw [c5]; decide) (by rw [c5]; rfl) (by decide) ?_
        refine lv_aload_n hx hb dX12_fact_50 rfl (lv_at hl 0 rfl) ?_
        refine lv_iload_n hx hb dX12_fact_51 rfl (lv_at hl 2 rfl) ?_
        refine lv_iconst (v := (2 : Int32)) hx hb dX12_fact_52 (by decide) ?_
        obtain ⟨r6, k7, hF⟩ := xb_s hF
        refine kVi (As := [.int xb, .int (2 : Int32)]) (rest := []) hE hl hD (c_X12_its (b := b) k7) kl_X12_87 (mW_0 _ _ _) rfl rfl rfl rfl (Nat.le_of_ble_eq_true rfl) dX12_fact_53 ⟨Nat.le_of_ble_eq_true rfl, Nat.le_of_ble_eq_true rfl⟩ ⟨Nat.le_of_ble_eq_true rfl, Nat.le_of_ble_eq_true rfl⟩ (fun H locs (hD : mD G _ _ b u sz H locs) => ?_)
        obtain rfl := Option.some.inj hF
        exact x_iret hE hD ⟨rfl, rfl⟩ (by omega) (by omega) dX12_fact_56
      · have hF := ite_n hF c5
        by_cases c8 : xa = (-2 : Int32)
        · have hF := ite_p hF c8
          refine lv_tableIn (off := 42) (tgt := 43) hx hb dX12_fact_1 (by rw [c8]; decide) (by rw [c8]; decide) (by rw [c8]; rfl) (by decide) ?_
          refine lv_aload_n hx hb dX12_fact_43 rfl (lv_at hl 0 rfl) ?_
          refine lv_iload_n hx hb dX12_fact_44 rfl (lv_at hl 2 rfl) ?_
          refine lv_iconst (v := (1 : Int32)) hx hb dX12_fact_45 (by decide) ?_
          obtain ⟨r9, k10, hF⟩ := xb_s hF
          refine kVi (As := [.int xb, .int (1 : Int32)]) (rest := []) hE hl hD (c_X12_its (b := b) k10) kl_X12_87 (mW_0 _ _ _) rfl rfl rfl rfl (Nat.le_of_ble_eq_true rfl) dX12_fact_46 ⟨Nat.le_of_ble_eq_true rfl, Nat.le_of_ble_eq_true rfl⟩ ⟨Nat.le_of_ble_eq_true rfl, Nat.le_of_ble_eq_true rfl⟩ (fun H locs (hD : mD G _ _ b u sz H locs) => ?_)
          obtain rfl := Option.some.inj hF
          exact x_iret hE hD ⟨rfl, rfl⟩ (by omega) (by omega) dX12_fact_49
        · have hF := ite_n hF c8
          by_cases c11 : xa = (-1 : Int32)
          · have hF := ite_p hF c11
            refine lv_tableIn (off := 35) (tgt := 36) hx hb dX12_fact_1 (by rw [c11]; decide) (by rw [c11]; decide) (by rw [c11]; rfl) (by decide) ?_
            refine lv_aload_n hx hb dX12_fact_36 rfl (lv_at hl 0 rfl) ?_
            refine gf_X12_7 hE hD dX12_fact_37 ?_
            refine lv_iconst (v := (3 : Int32)) hx hb dX12_fact_40 (by decide) ?_
            obtain ⟨h12, hF⟩ := ite_s hF
            refine ma_ld_0 hE hD h12 dX12_fact_41 ?_
            obtain rfl := Option.some.inj hF
            exact x_iret hE hD ⟨rfl, rfl⟩ (by omega) (by omega) dX12_fact_42
          · have hF := ite_n hF c11
            refine lv_tableOut (tgt := 66) hx hb dX12_fact_1 (by have hc1 := lv_neT (a := (-5)) c1 rfl; have hc2 := lv_neT (a := (-4)) c2 rfl; have hc5 := lv_neT (a := (-3)) c5 rfl; have hc8 := lv_neT (a := (-2)) c8 rfl; have hc11 := lv_neT (a := (-1)) c11 rfl; omega) (by decide) ?_
            refine lv_iload_n hx hb dX12_fact_66 rfl (lv_at hl 1 rfl) ?_
            obtain rfl := Option.some.inj hF
            exact x_iret hE hD ⟨rfl, rfl⟩ (by omega) (by omega) dX12_fact_67
def F_X12_isHolding_j108 (s0 : Int32) : Option Int32 := if s0 = 0 ∨ s0 = 1 then some s0 else none
theorem B_X12_isHolding_j108 {p : Program} {l : Launch} {e : Env} {s : State} {m : MethodId} {args : Array Value} {below : List Frame} {meth : Method} {cd : Code} {G : xG} {w0 : xW} {w : xW} {sz : Nat} {rr : Int32} (hE : xE p s m args meth cd cX12_isHolding RX12 G 3 (Option.some Jvm.ClassFile.FieldType.boolean)) {s0 : Int32} {H : Heap} {locs : List Loc} {ls : Array Slot} (hD : xD G (xA w0 s.heap.size) s.heap w sz H locs) (hl : lv_has ls 3 []) (hF : F_X12_isHolding_j108 s0 = some rr) : W p l e (xR 1 0 0) s m args below meth cd H locs 0 0 (xQi G w0 (fun r z => r = rr ∧ (rr = 0 ∨ rr = 1) ∧ z = (w, sz)) below args s 0 0) (F0 m 108 ls [.int s0]) := by
  have hx := hE.1; have hb := hE.2.1
  unfold F_X12_isHolding_j108 at hF
  obtain ⟨h1, hF⟩ := ite_s hF
  obtain rfl := Option.some.inj hF
  exact x_zret hE hD h1 ⟨rfl, h1, rfl⟩ (by omega) (by omega) dX12_isHolding_108
def F_X12_isHolding_j103  : Option Int32 := F_X12_isHolding_j108 (1 : Int32)
theorem B_X12_isHolding_j103 {p : Program} {l : Launch} {e : Env} {s : State} {m : MethodId} {args : Array Value} {below : List Frame} {meth : Method} {cd : Code} {G : xG} {w0 : xW} {w : xW} {sz : Nat} {rr : Int32} (hE : xE p s m args meth cd cX12_isHolding RX12 G 3 (Option.some Jvm.ClassFile.FieldType.boolean))  {H : Heap} {locs : List Loc} {ls : Array Slot} (hD : xD G (xA w0 s.heap.size) s.heap w sz H locs) (hl : lv_has ls 3 []) (hF : F_X12_isHolding_j103  = some rr) : W p l e (xR 1 0 0) s m args below meth cd H locs 0 0 (xQi G w0 (fun r z => r = rr ∧ (rr = 0 ∨ rr = 1) ∧ z = (w, sz)) below args s 0 0) (F0 m 103 ls []) := by
  have hx := hE.1; have hb := hE.2.1
  unfold F_X12_isHolding_j103 at hF
  refine lv_iconst (v := (1 : Int32)) hx hb dX12_isHolding_103 (by decide) ?_
  refine lv_goto (tgt := 108) hx hb dX12_isHolding_104 (by decide) ?_
  exact B_X12_isHolding_j108 hE hD (lv_sub hl [] rfl) hF
def F_X12_isHolding_j92 (s0 : Int32) : Option Int32 := if s0 = 0 ∨ s0 = 1 then some s0 else none
theorem B_X12_isHolding_j92 {p : Program} {l : Launch} {e : Env} {s : State} {m : MethodId} {args : Array Value} {below : List Frame} {meth : Method} {cd : Code} {G : xG} {w0 : xW} {w : xW} {sz : Nat} {rr : Int32} (hE : xE p s m args meth cd cX12_isHolding RX12 G 3 (Option.some Jvm.ClassFile.FieldType.boolean)) {s0 : Int32} {H : Heap} {locs : List Loc} {ls : Array Slot} (hD : xD G (xA w0 s.heap.size) s.heap w sz H locs) (hl : lv_has ls 3 []) (hF : F_X12_isHolding_j92 s0 = some rr) : W p l e (xR 1 0 0) s m args below meth cd H locs 0 0 (xQi G w0 (fun r z => r = rr ∧ (rr = 0 ∨ rr = 1) ∧ z = (w, sz)) below args s 0 0) (F0 m 92 ls [.int s0]) := by
  have hx := hE.1; have hb := hE.2.1
  unfold F_X12_isHolding_j92 at hF
  obtain ⟨h2, hF⟩ := ite_s hF
  obtain rfl := Option.some.inj hF
  exact x_zret hE hD h2 ⟨rfl, h2, rfl⟩ (by omega) (by omega) dX12_isHolding_92
def F_X12_isHolding_j91  : Option Int32 := F_X12_isHolding_j92 (0 : Int32)
theorem B_X12_isHolding_j91 {p : Program} {l : Launch} {e : Env} {s : State} {m : MethodId} {args : Array Value} {below : List Frame} {meth : Method} {cd : Code} {G : xG} {w0 : xW} {w : xW} {sz : Nat} {rr : Int32} (hE : xE p s m args meth cd cX12_isHolding RX12 G 3 (Option.some Jvm.ClassFile.FieldType.boolean))  {H : Heap} {locs : List Loc} {ls : Array Slot} (hD : xD G (xA w0 s.heap.size) s.heap w sz H locs) (hl : lv_has ls 3 []) (hF : F_X12_isHolding_j91  = some rr) : W p l e (xR 1 0 0) s m args below meth cd H locs 0 0 (xQi G w0 (fun r z => r = rr ∧ (rr = 0 ∨ rr = 1) ∧ z = (w, sz)) below args s 0 0) (F0 m 91 ls []) := by
  have hx := hE.1; have hb := hE.2.1
  unfold F_X12_isHolding_j91 at hF
  refine lv_iconst (v := (0 : Int32)) hx hb dX12_isHolding_91 (by decide) ?_
  exact B_X12_isHolding_j92 hE hD (lv_sub hl [] rfl) hF
def F_X12_isHolding_j76 (s0 : Int32) : Option Int32 := if s0 = 0 ∨ s0 = 1 then some s0 else none
theorem B_X12_isHolding_j76 {p : Program} {l : Launch} {e : Env} {s : State} {m : MethodId} {args : Array Value} {below : List Frame} {meth : Method} {cd : Code} {G : xG} {w0 : xW} {w : xW} {sz : Nat} {rr : Int32} (hE : xE p s m args meth cd cX12_isHolding RX12 G 3 (Option.some Jvm.ClassFile.FieldType.boolean)) {s0 : Int32} {H : Heap} {locs : List Loc} {ls : Array Slot} (hD : xD G (xA w0 s.heap.size) s.heap w sz H locs) (hl : lv_has ls 3 []) (hF : F_X12_isHolding_j76 s0 = some rr) : W p l e (xR 1 0 0) s m args below meth cd H locs 0 0 (xQi G w0 (fun r z => r = rr ∧ (rr = 0 ∨ rr = 1) ∧ z = (w, sz)) below args s 0 0) (F0 m 76 ls [.int s0]) := by
  have hx := hE.1; have hb := hE.2.1
  unfold F_X12_isHolding_j76 at hF
  obtain ⟨h3, hF⟩ := ite_s hF
  obtain rfl := Option.some.inj hF
  exact x_zret hE hD h3 ⟨rfl, h3, rfl⟩ (by omega) (by omega) dX12_isHolding_76
def F_X12_isHolding_j65 (s0 : Int32) : Option Int32 := if s0 = 0 ∨ s0 = 1 then some s0 else none
theorem B_X12_isHolding_j65 {p : Program} {l : Launch} {e : Env} {s : State} {m : MethodId} {args : Array Value} {below : List Frame} {meth : Method} {cd : Code} {G : xG} {w0 : xW} {w : xW} {sz : Nat} {rr : Int32} (hE : xE p s m args meth cd cX12_isHolding RX12 G 3 (Option.some Jvm.ClassFile.FieldType.boolean)) {s0 : Int32} {H : Heap} {locs : List Loc} {ls : Array Slot} (hD : xD G (xA w0 s.heap.size) s.heap w sz H locs) (hl : lv_has ls 3 []) (hF : F_X12_isHolding_j65 s0 = some rr) : W p l e (xR 1 0 0) s m args below meth cd H locs 0 0 (xQi G w0 (fun r z => r = rr ∧ (rr = 0 ∨ rr = 1) ∧ z = (w, sz)) below args s 0 0) (F0 m 65 ls [.int s0]) := by
  have hx := hE.1; have hb := hE.2.1
  unfold F_X12_isHolding_j65 at hF
  obtain ⟨h4, hF⟩ := ite_s hF
  obtain rfl := Option.some.inj hF
  exact x_zret hE hD h4 ⟨rfl, h4, rfl⟩ (by omega) (by omega) dX12_isHolding_65
def F_X12_isHolding_j54 (s0 : Int32) : Option Int32 := if s0 = 0 ∨ s0 = 1 then some s0 else none
theorem B_X12_isHolding_j54 {p : Program} {l : Launch} {e : Env} {s : State} {m : MethodId} {args : Array Value} {below : List Frame} {meth : Method} {cd : Code} {G : xG} {w0 : xW} {w : xW} {sz : Nat} {rr : Int32} (hE : xE p s m args meth cd cX12_isHolding RX12 G 3 (Option.some Jvm.ClassFile.FieldType.boolean)) {s0 : Int32} {H : Heap} {locs : List Loc} {ls : Array Slot} (hD : xD G (xA w0 s.heap.size) s.heap w sz H locs) (hl : lv_has ls 3 []) (hF : F_X12_isHolding_j54 s0 = some rr) : W p l e (xR 1 0 0) s m args below meth cd H locs 0 0 (xQi G w0 (fun r z => r = rr ∧ (rr = 0 ∨ rr = 1) ∧ z = (w, sz)) below args s 0 0) (F0 m 54 ls [.int s0]) := by
  have hx := hE.1; have hb := hE.2.1
  unfold F_X12_isHolding_j54 at hF
  obtain ⟨h5, hF⟩ := ite_s hF
  obtain rfl := Option.some.inj hF
  exact x_zret hE hD h5 ⟨rfl, h5, rfl⟩ (by omega) (by omega) dX12_isHolding_54
def F_X12_isHolding (xa : Int32) (xb : Int32) (xc : Int32) : Option Int32 := (if xa = (-21 : Int32) then if xb = (1 : Int32) then if xc = (1 : Int32) then F_X12_isHolding_j92 (1 : Int32) else F_X12_isHolding_j91 else F_X12_isHolding_j91 else (if xa = (-13 : Int32) then if xb ≤ xc then F_X12_isHolding_j76 (0 : Int32) else F_X12_isHolding_j76 (1 : Int32) else (if xa = (-12 : Int32) then if xb = xc then F_X12_isHolding_j65 (1 : Int32) else F_X12_isHolding_j65 (0 : Int32) else (if xa = (-11 : Int32) then if xc ≤ xb then F_X12_isHolding_j54 (0 : Int32) else F_X12_isHolding_j54 (1 : Int32) else if xb = (1 : Int32) then F_X12_isHolding_j103 else if xc = (1 : Int32) then F_X12_isHolding_j103 else F_X12_isHolding_j108 (0 : Int32)))))
theorem c_X12_isHolding {l : Launch} {G : xG} {w : xW} {sz : Nat} {rr : Int32} {xa : Int32} {xb : Int32} {xc : Int32} (hF : F_X12_isHolding xa xb xc = some rr) : xMi l G yX12_isHolding cX12_isHolding 3 (Option.some Jvm.ClassFile.FieldType.boolean) 1 0 0 [.int xa, .int xb, .int xc] w sz (fun r z => r = rr ∧ (rr = 0 ∨ rr = 1) ∧ z = (w, sz)) := by
  unfold F_X12_isHolding at hF
  refine x_startI rfl (Nat.le_of_ble_eq_true rfl) (fun p e s m args below meth cd ls hE hnm hl hD => ?_)
  have hx := hE.1; have hb := hE.2.1
  have hl : lv_has ls 3 [(0, .int xa), (1, .int xb), (2, .int xc)] := hl
  refine lv_iload_n hx hb dX12_isHolding_0 rfl (lv_at hl 0 rfl) ?_
  by_cases c6 : xa = (-21 : Int32)
  · have hF := ite_p hF c6
    refine lv_lookup (off := 76) (tgt := 77) hx hb dX12_isHolding_1 (by decide) (by rw [c6]; rfl) (by decide) ?_
    refine lv_iload_n hx hb dX12_isHolding_77 rfl (lv_at hl 1 rfl) ?_
    refine lv_iconst (v := (1 : Int32)) hx hb dX12_isHolding_78 (by decide) ?_
    refine lv_icmp_ne (tgt := 91) hx hb dX12_isHolding_79 (by decide) (fun c7 => ?_) (fun c7 => ?_)
    · have hF := ite_n hF c7
      exact B_X12_isHolding_j91 hE hD (lv_sub hl [] rfl) hF
    · have hF := ite_p hF c7
      refine lv_iload_n hx hb dX12_isHolding_82 rfl (lv_at hl 2 rfl) ?_
      refine lv_iconst (v := (1 : Int32)) hx hb dX12_isHolding_83 (by decide) ?_
      refine lv_icmp_ne (tgt := 91) hx hb dX12_isHolding_84 (by decide) (fun c8 => ?_) (fun c8 => ?_)
      · have hF := ite_n hF c8
        exact B_X12_isHolding_j91 hE hD (lv_sub hl [] rfl) hF
      · have hF := ite_p hF c8
        refine lv_iconst (v := (1 : Int32)) hx hb dX12_isHolding_87 (by decide) ?_
        refine lv_goto (tgt := 92) hx hb dX12_isHolding_88 (by decide) ?_
        exact B_X12_isHolding_j92 hE hD (lv_sub hl [] rfl) hF
  · have hF := ite_n hF c6
    by_cases c9 : xa = (-13 : Int32)
    · have hF := ite_p hF c9
      refine lv_lookup (off := 65) (tgt := 66) hx hb dX12_isHolding_1 (by decide) (by rw [c9]; rfl) (by decide) ?_
      refine lv_iload_n hx hb dX12_isHolding_66 rfl (lv_at hl 1 rfl) ?_
      refine lv_iload_n hx hb dX12_isHolding_67 rfl (lv_at hl 2 rfl) ?_
      refine lv_icmp_le (tgt := 75) hx hb dX12_isHolding_68 (by decide) (fun c10 => ?_) (fun c10 => ?_)
      · have hF := ite_p hF c10
        refine lv_iconst (v := (0 : Int32)) hx hb dX12_isHolding_75 (by decide) ?_
        exact B_X12_isHolding_j76 hE hD (lv_sub hl [] rfl) hF
      · have hF := ite_n hF c10
        refine lv_iconst (v := (1 : Int32)) hx hb dX12_isHolding_71 (by decide) ?_
        refine lv_goto (tgt := 76) hx hb dX12_isHolding_72 (by decide) ?_
        exact B_X12_isHolding_j76 hE hD (lv_sub hl [] rfl) hF
    · have hF := ite_n hF c9
      by_cases c11 : xa = (-12 : Int32)
      · have hF := ite_p hF c11
        refine lv_lookup (off := 54) (tgt := 55) hx hb dX12_isHolding_1 (by decide) (by rw [c11]; rfl) (by decide) ?_
        refine lv_iload_n hx hb dX12_isHolding_55 rfl (lv_at hl 1 rfl) ?_
        refine lv_iload_n hx hb dX12_isHolding_56 rfl (lv_at hl 2 rfl) ?_
        refine lv_icmp_ne (tgt := 64) hx hb dX12_isHolding_57 (by decide) (fun c12 => ?_) (fun c12 => ?_)
        · have hF := ite_n hF c12
          refine lv_iconst (v := (0 : Int32)) hx hb dX12_isHolding_64 (by decide) ?_
          exact B_X12_isHolding_j65 hE hD (lv_sub hl [] rfl) hF
        · have hF := ite_p hF c12
          refine lv_iconst (v := (1 : Int32)) hx hb dX12_isHolding_60 (by decide) ?_
          refine lv_goto (tgt := 65) hx hb dX12_isHolding_61 (by decide) ?_
          exact B_X12_isHolding_j65 hE hD (lv_sub hl [] rfl) hF
      · have hF := ite_n hF c11
        by_cases c13 : xa = (-11 : Int32)
        · have hF := ite_p hF c13
          refine lv_lookup (off := 43) (tgt := 44) hx hb dX12_isHolding_1 (by decide) (by rw [c13]; rfl) (by decide) ?_
          refine lv_iload_n hx hb dX12_isHolding_44 rfl (lv_at hl 1 rfl) ?_
          refine lv_iload_n hx hb dX12_isHolding_45 rfl (lv_at hl 2 rfl) ?_
          refine lv_icmp_ge (tgt := 53) hx hb dX12_isHolding_46 (by decide) (fun c14 => ?_) (fun c14 => ?_)
          · have hF := ite_p hF c14
            refine lv_iconst (v := (0 : Int32)) hx hb dX12_isHolding_53 (by decide) ?_
            exact B_X12_isHolding_j54 hE hD (lv_sub hl [] rfl) hF
          · have hF := ite_n hF c14
            refine lv_iconst (v := (1 : Int32)) hx hb dX12_isHolding_49 (by decide) ?_
            refine lv_goto (tgt := 54) hx hb dX12_isHolding_50 (by decide) ?_
            exact B_X12_isHolding_j54 hE hD (lv_sub hl [] rfl) hF
        · have hF := ite_n hF c13
          refine lv_lookup (off := 92) (tgt := 93) hx hb dX12_isHolding_1 (by decide) (by show Op.lookupswitch.offset [((-21), 76), ((-13), 65), ((-12), 54), ((-11), 43)] 92 _ = _; rw [lv_osw (a := (-21)) c6 rfl, lv_osw (a := (-13)) c9 rfl, lv_osw (a := (-12)) c11 rfl, lv_osw (a := (-11)) c13 rfl]; rfl) (by decide) ?_
          refine lv_iload_n hx hb dX12_isHolding_93 rfl (lv_at hl 1 rfl) ?_
          refine lv_iconst (v := (1 : Int32)) hx hb dX12_isHolding_94 (by decide) ?_
          refine lv_icmp_eq (tgt := 103) hx hb dX12_isHolding_95 (by decide) (fun c15 => ?_) (fun c15 => ?_)
          · have hF := ite_p hF c15
            exact B_X12_isHolding_j103 hE hD (lv_sub hl [] rfl) hF
          · have hF := ite_n hF c15
            refine lv_iload_n hx hb dX12_isHolding_98 rfl (lv_at hl 2 rfl) ?_
            refine lv_iconst (v := (1 : Int32)) hx hb dX12_isHolding_99 (by decide) ?_
            refine lv_icmp_ne (tgt := 107) hx hb dX12_isHolding_100 (by decide) (fun c16 => ?_) (fun c16 => ?_)
            · have hF := ite_n hF c16
              refine lv_iconst (v := (0 : Int32)) hx hb dX12_isHolding_107 (by decide) ?_
              exact B_X12_isHolding_j108 hE hD (lv_sub hl [] rfl) hF
            · have hF := ite_p hF c16
              exact B_X12_isHolding_j103 hE hD (lv_sub hl [] rfl) hF
def F_X12_holds_j148 (u : xS) (s0 : Int32) : Option (Int32 × xS) := if s0 = 0 ∨ s0 = 1 then some (s0, u) else none
theorem B_X12_holds_j148 {p : Program} {l : Launch} {e : Env} {s : State} {m : MethodId} {args : Array Value} {below : List Frame} {meth : Method} {cd : Code} {G : xG} {w0 : xW} {b sz : Nat} {rr : (Int32 × xS)} (hE : xE p s m args meth cd cX12_holds RX12 G 7 (Option.some Jvm.ClassFile.FieldType.boolean)) {u : xS} {s0 : Int32} {H : Heap} {locs : List Loc} {ls : Array Slot} (hD : mD G (xA w0 s.heap.size) s.heap b u sz H locs) (hl : lv_has ls 7 [(0, .ref b)]) (hF : F_X12_holds_j148 u s0 = some rr) : W p l e (xR 4 0 0) s m args below meth cd H locs 0 0 (xQi G w0 (fun r z => r = rr.1 ∧ (rr.1 = 0 ∨ rr.1 = 1) ∧ z = ((mW G b rr.2), sz)) below args s 0 0) (F0 m 148 ls [.int s0]) := by
  have hx := hE.1; have hb := hE.2.1
  unfold F_X12_holds_j148 at hF
  obtain ⟨h1, hF⟩ := ite_s hF
  obtain rfl := Option.some.inj hF
  exact x_zret hE hD h1 ⟨rfl, h1, rfl⟩ (by omega) (by omega) dX12_holds_148
def F_X12_holds_j143 (u : xS)  : Option (Int32 × xS) := F_X12_holds_j148 u (1 : Int32)
theorem B_X12_holds_j143 {p : Program} {l : Launch} {e : Env} {s : State} {m : MethodId} {args : Array Value} {below : List Frame} {meth : Method} {cd : Code} {G : xG} {w0 : xW} {b sz : Nat} {rr : (Int32 × xS)} (hE : xE p s m args meth cd cX12_holds RX12 G 7 (Option.some Jvm.ClassFile.FieldType.boolean)) {u : xS}  {H : Heap} {locs : List Loc} {ls : Array Slot} (hD : mD G (xA w0 s.heap.size) s.heap b u sz H locs) (hl : lv_has ls 7 [(0, .ref b)]) (hF : F_X12_holds_j143 u  = some rr) : W p l e (xR 4 0 0) s m args below meth cd H locs 0 0 (xQi G w0 (fun r z => r = rr.1 ∧ (rr.1 = 0 ∨ rr.1 = 1) ∧ z = ((mW G b rr.2), sz)) below args s 0 0) (F0 m 143 ls []) := by
  have hx := hE.1; have hb := hE.2.1
  unfold F_X12_holds_j143 at hF
  refine lv_iconst (v := (1 : Int32)) hx hb dX12_holds_143 (by decide) ?_
  refine lv_goto (tgt := 148) hx hb dX12_holds_144 (by decide) ?_
  exact B_X12_holds_j148 hE hD (lv_sub hl [0] rfl) hF
def F_X12_holds_j122 (k6 : xS → Int32 → Int32 → Int32 → Int32 → Option (Int32 × xS)) (u : xS) (y2 : Int32) (y3 : Int32) (y4 : Int32) (y5 : Int32) : Option (Int32 × xS) := xlet (y5 + (1 : Int32)) (fun x2 => k6 u y2 y3 y4 x2)
theorem B_X12_holds_j122 {p : Program} {l : Launch} {e : Env} {s : State} {m : MethodId} {args : Array Value} {below : List Frame} {meth : Method} {cd : Code} {G : xG} {w0 : xW} {b sz : Nat} {rr : (Int32 × xS)} (hE : xE p s m args meth cd cX12_holds RX12 G 7 (Option.some Jvm.ClassFile.FieldType.boolean)) {u : xS} (k6 : xS → Int32 → Int32 → Int32 → Int32 → Option (Int32 × xS)) (h6 : ∀ {u1 : xS} {y2 : Int32} {y3 : Int32} {y4 : Int32} {y5 : Int32} {H : Heap} {locs : List Loc} {ls : Array Slot}, mD G (xA w0 s.heap.size) s.heap b u1 sz H locs → lv_has ls 7 [(0, .ref b), (2, .int y2), (3, .int y3), (4, .int y4), (5, .int y5)] → k6 u1 y2 y3 y4 y5 = some rr → W p l e (xR 4 0 0) s m args below meth cd H locs 0 0 (xQi G w0 (fun r z => r = rr.1 ∧ (rr.1 = 0 ∨ rr.1 = 1) ∧ z = ((mW G b rr.2), sz)) below args s 0 0) (F0 m 6 ls [])) {y2 : Int32} {y3 : Int32} {y4 : Int32} {y5 : Int32} {H : Heap} {locs : List Loc} {ls : Array Slot} (hD : mD G (xA w0 s.heap.size) s.heap b u sz H locs) (hl : lv_has ls 7 [(0, .ref b), (2, .int y2), (3, .int y3), (4, .int y4), (5, .int y5)]) (hF : F_X12_holds_j122 k6 u y2 y3 y4 y5 = some rr) : W p l e (xR 4 0 0) s m args below meth cd H locs 0 0 (xQi G w0 (fun r z => r = rr.1 ∧ (rr.1 = 0 ∨ rr.1 = 1) ∧ z = ((mW G b rr.2), sz)) below args s 0 0) (F0 m 122 ls []) := by
  have hx := hE.1; have hb := hE.2.1
  unfold F_X12_holds_j122 at hF
  obtain ⟨x2, ex2⟩ : ∃ y : Int32, y = y5 + (1 : Int32) := ⟨_, rfl⟩
  have hF := xlet_e hF ex2
  refine lv_iinc (v := x2) (lv' := [(5, .int x2), (0, .ref b), (2, .int y2), (3, .int y3), (4, .int y4)]) hx hb dX12_holds_122 hl (k := 4) rfl (by rw [ex2]; rfl) (by decide) rfl (fun ls hl => ?_)
  refine lv_goto (tgt := 6) hx hb dX12_holds_125 (by decide) ?_
  exact h6 hD (lv_sub hl [1, 2, 3, 4, 0] rfl) hF
def F_X12_holds_j121 (k6 : xS → Int32 → Int32 → Int32 → Int32 → Option (Int32 × xS)) (u : xS) (y2 : Int32) (y3 : Int32) (y4 : Int32) (y5 : Int32) (s1 : Int32) (s2 : Int32) : Option (Int32 × xS) := if xIn s1 200 then xlet (mA u 4 s1.toNatClampNeg s2) (fun u4 => F_X12_holds_j122 k6 u4 y2 y3 y4 y5) else none
theorem B_X12_holds_j121 {p : Program} {l : Launch} {e : Env} {s : State} {m : MethodId} {args : Array Value} {below : List Frame} {meth : Method} {cd : Code} {G : xG} {w0 : xW} {b sz : Nat} {rr : (Int32 × xS)} (hE : xE p s m args meth cd cX12_holds RX12 G 7 (Option.some Jvm.ClassFile.FieldType.boolean)) {u : xS} (k6 : xS → Int32 → Int32 → Int32 → Int32 → Option (Int32 × xS)) (h6 : ∀ {u1 : xS} {y2 : Int32} {y3 : Int32} {y4 : Int32} {y5 : Int32} {H : Heap} {locs : List Loc} {ls : Array Slot}, mD G (xA w0 s.heap.size) s.heap b u1 sz H locs → lv_has ls 7 [(0, .ref b), (2, .int y2), (3, .int y3), (4, .int y4), (5, .int y5)] → k6 u1 y2 y3 y4 y5 = some rr → W p l e (xR 4 0 0) s m args below meth cd H locs 0 0 (xQi G w0 (fun r z => r = rr.1 ∧ (rr.1 = 0 ∨ rr.1 = 1) ∧ z = ((mW G b rr.2), sz)) below args s 0 0) (F0 m 6 ls [])) {y2 : Int32} {y3 : Int32} {y4 : Int32} {y5 : Int32} {s1 : Int32} {s2 : Int32} {H : Heap} {locs : List Loc} {ls : Array Slot} (hD : mD G (xA w0 s.heap.size) s.heap b u sz H locs) (hl : lv_has ls 7 [(0, .ref b), (2, .int y2), (3, .int y3), (4, .int y4), (5, .int y5)]) (hF : F_X12_holds_j121 k6 u y2 y3 y4 y5 s1 s2 = some rr) : W p l e (xR 4 0 0) s m args below meth cd H locs 0 0 (xQi G w0 (fun r z => r = rr.1 ∧ (rr.1 = 0 ∨ rr.1 = 1) ∧ z = ((mW G b rr.2), sz)) below args s 0 0) (F0 m 121 ls [.int s2, .int s1, .ref (b + 4)]) := by
  have hx := hE.1; have hb := hE.2.1
  unfold F_X12_holds_j121 at hF
  obtain ⟨h3, hF⟩ := ite_s hF
  refine ma_st_4 hE hD h3 dX12_holds_121 (fun u4 H locs eu4 hD => ?_)
  have hF := xlet_e hF eu4
  exact B_X12_holds_j122 hE k6 h6 hD (lv_sub hl [0, 1, 2, 3, 4] rfl) hF
def F_X12_holds_l6 : Nat → xS → Int32 → Int32 → Int32 → Int32 → Option (Int32 × xS)
  | 0, _, _, _, _, _ => none
  | nn + 1, u, y2, y3, y4, y5 => if y2 ≤ y5 then if y4 = 0 then F_X12_holds_j143 u else if xIn (0 : Int32) 200 then if (u.2.1 4 (0 : Int32).toNatClampNeg) = (1 : Int32) then F_X12_holds_j143 u else F_X12_holds_j148 u (0 : Int32) else none else if xIn ((103 : Int32) + y5) 303 then xlet (u.2.1 0 ((103 : Int32) + y5).toNatClampNeg) (fun x10 => if x10 ≤ (-10 : Int32) then if x10 = (-20 : Int32) then if xIn (y4 - (1 : Int32)) 200 then if xIn (y4 - (1 : Int32)) 200 then xlet (mA u 4 (y4 - (1 : Int32)).toNatClampNeg ((1 : Int32) - (u.2.1 4 (y4 - (1 : Int32)).toNatClampNeg))) (fun u22 => F_X12_holds_j122 (F_X12_holds_l6 nn) u22 y2 y3 y4 y5) else none else none else xlet (y4 + (-1 : Int32)) (fun x13 => if xIn (x13 - (1 : Int32)) 200 then if xIn x13 200 then (F_X12_isHolding x10 (u.2.1 4 (x13 - (1 : Int32)).toNatClampNeg) (u.2.1 4 x13.toNatClampNeg)).bind (fun r16 => if r16 = 0 then F_X12_holds_j121 (F_X12_holds_l6 nn) u y2 y3 x13 y5 (x13 - (1 : Int32)) (0 : Int32) else F_X12_holds_j121 (F_X12_holds_l6 nn) u y2 y3 x13 y5 (x13 - (1 : Int32)) (1 : Int32)) else none else none) else (F_X12_fact u x10 y3).bind (fun r23 => if xIn y4 200 then xlet (mA u 4 y4.toNatClampNeg r23) (fun u26 => xlet (y4 + (1 : Int32)) (fun x27 => F_X12_holds_j122 (F_X12_holds_l6 nn) u26 y2 y3 x27 y5)) else none)) else none
theorem L_X12_holds_l6 {p : Program} {l : Launch} {e : Env} {s : State} {m : MethodId} {args : Array Value} {below : List Frame} {meth : Method} {cd : Code} {G : xG} {w0 : xW} {b sz : Nat} {rr : (Int32 × xS)} (hE : xE p s m args meth cd cX12_holds RX12 G 7 (Option.some Jvm.ClassFile.FieldType.boolean)) : ∀ (nn : Nat) {u : xS} {y2 : Int32} {y3 : Int32} {y4 : Int32} {y5 : Int32} {H : Heap} {locs : List Loc} {ls : Array Slot}, mD G (xA w0 s.heap.size) s.heap b u sz H locs → lv_has ls 7 [(0, .ref b), (2, .int y2), (3, .int y3), (4, .int y4), (5, .int y5)] → F_X12_holds_l6 nn u y2 y3 y4 y5 = some rr → W p l e (xR 4 0 0) s m args below meth cd H locs 0 0 (xQi G w0 (fun r z => r = rr.1 ∧ (rr.1 = 0 ∨ rr.1 = 1) ∧ z = ((mW G b rr.2), sz)) below args s 0 0) (F0 m 6 ls []) := by
  have hx := hE.1; have hb := hE.2.1
  intro nn
  induction nn with
  | zero => intro u y2 y3 y4 y5 H locs ls hD hl hF; rw [F_X12_holds_l6] at hF; cases hF
  | succ nn ih =>
    intro u y2 y3 y4 y5 H locs ls hD hl hF
    rw [F_X12_holds_l6] at hF
    refine lv_iload hx hb dX12_holds_6 (lv_at hl 4 rfl) ?_
    refine lv_iload_n hx hb dX12_holds_8 rfl (lv_at hl 1 rfl) ?_
    refine lv_icmp_ge (tgt := 128) hx hb dX12_holds_9 (by decide) (fun c5 => ?_) (fun c5 => ?_)
    · have hF := ite_p hF c5
      refine lv_iload hx hb dX12_holds_128 (lv_at hl 3 rfl) ?_
      refine lv_if_eq (tgt := 143) hx hb dX12_holds_130 (by decide) (fun c6 => ?_) (fun c6 => ?_)
      · have hF := ite_p hF c6
        exact B_X12_holds_j143 hE hD (lv_sub hl [0] rfl) hF
      · have hF := ite_n hF c6
        refine lv_aload_n hx hb dX12_holds_133 rfl (lv_at hl 0 rfl) ?_
        refine gf_X12_19 hE hD dX12_holds_134 ?_
        refine lv_iconst (v := (0 : Int32)) hx hb dX12_holds_137 (by decide) ?_
        obtain ⟨h7, hF⟩ := ite_s hF
        refine ma_ld_4 hE hD h7 dX12_holds_138 ?_
        refine lv_iconst (v := (1 : Int32)) hx hb dX12_holds_139 (by decide) ?_
        refine lv_icmp_ne (tgt := 147) hx hb dX12_holds_140 (by decide) (fun c8 => ?_) (fun c8 => ?_)
        · have hF := ite_n hF c8
          refine lv_iconst (v := (0 : Int32)) hx hb dX12_holds_147 (by decide) ?_
          exact B_X12_holds_j148 hE hD (lv_sub hl [0] rfl) hF
        · have hF := ite_p hF c8
          exact B_X12_holds_j143 hE hD (lv_sub hl [0] rfl) hF
    · have hF := ite_n hF c5
      refine lv_aload_n hx hb dX12_holds_12 rfl (lv_at hl 0 rfl) ?_
      refine gf_X12_7 hE hD dX12_holds_13 ?_
      refine lv_bipush (v := (103 : Int32)) hx hb dX12_holds_16 (by decide) ?_
      refine lv_iload hx hb dX12_holds_18 (lv_at hl 4 rfl) ?_
      refine lv_iadd hx hb dX12_holds_20 ?_
      obtain ⟨h9, hF⟩ := ite_s hF
      refine ma_ld_0 hE hD h9 dX12_holds_21 ?_
      refine lv_topi (fun x10 ex10 => ?_)
      have hF := xlet_e hF ex10
      refine lv_istore (lv' := [(6, .int x10), (0, .ref b), (2, .int y2), (3, .int y3), (4, .int y4), (5, .int y5)]) hx hb dX12_holds_22 hl (by decide) rfl (fun ls hl => ?_)
      refine lv_iload hx hb dX12_holds_24 (lv_at hl 0 rfl) ?_
      refine lv_bipush (v := (-10 : Int32)) hx hb dX12_holds_26 (by decide) ?_
      refine lv_icmp_le (tgt := 51) hx hb dX12_holds_28 (by decide) (fun c11 => ?_) (fun c11 => ?_)
      · have hF := ite_p hF c11
        refine lv_iload hx hb dX12_holds_51 (lv_at hl 0 rfl) ?_
        refine lv_bipush (v := (-20 : Int32)) hx hb dX12_holds_53 (by decide) ?_
        refine lv_icmp_ne (tgt := 81) hx hb dX12_holds_55 (by decide) (fun c12 => ?_) (fun c12 => ?_)
        · have hF := ite_n hF c12
          obtain ⟨x13, ex13⟩ : ∃ y : Int32, y = y4 + (-1 : Int32) := ⟨_, rfl⟩
          have hF := xlet_e hF ex13
          refine lv_iinc (v := x13) (lv' := [(4, .int x13), (6, .int x10), (0, .ref b), (2, .int y2), (3, .int y3), (5, .int y5)]) hx hb dX12_holds_81 hl (k := 4) rfl (by rw [ex13]; rfl) (by decide) rfl (fun ls hl => ?_)
          refine lv_aload_n hx hb dX12_holds_84 rfl (lv_at hl 2 rfl) ?_
          refine gf_X12_19 hE hD dX12_holds_85 ?_
          refine lv_iload hx hb dX12_holds_88 (lv_at hl 0 rfl) ?_
          refine lv_iconst (v := (1 : Int32)) hx hb dX12_holds_90 (by decide) ?_
          refine lv_isub hx hb dX12_holds_91 ?_
          refine lv_iload hx hb dX12_holds_92 (lv_at hl 1 rfl) ?_
          refine lv_aload_n hx hb dX12_holds_94 rfl (lv_at hl 2 rfl) ?_
          refine gf_X12_19 hE hD dX12_holds_95 ?_
          refine lv_iload hx hb dX12_holds_98 (lv_at hl 0 rfl) ?_
          refine lv_iconst (v := (1 : Int32)) hx hb dX12_holds_100 (by decide) ?_
          refine lv_isub hx hb dX12_holds_101 ?_
          obtain ⟨h14, hF⟩ := ite_s hF
          refine ma_ld_4 hE hD h14 dX12_holds_102 ?_
          refine lv_aload_n hx hb dX12_holds_103 rfl (lv_at hl 2 rfl) ?_
          refine gf_X12_19 hE hD dX12_holds_104 ?_
          refine lv_iload hx hb dX12_holds_107 (lv_at hl 0 rfl) ?_
          obtain ⟨h15, hF⟩ := ite_s hF
          refine ma_ld_4 hE hD h15 dX12_holds_109 ?_
          obtain ⟨r16, k17, hF⟩ := xb_s hF
          refine kSz (As := [.int x10, .int (u.2.1 4 (x13 - (1 : Int32)).toNatClampNeg), .int (u.2.1 4 x13.toNatClampNeg)]) (rest := [.int (x13 - (1 : Int32)), .ref (b + 4)]) hE hl hD (c_X12_isHolding k17) kl_X12_93 rfl rfl (Nat.le_of_ble_eq_true rfl) dX12_holds_110 ⟨Nat.le_of_ble_eq_true rfl, Nat.le_of_ble_eq_true rfl⟩ ⟨Nat.le_of_ble_eq_true rfl, Nat.le_of_ble_eq_true rfl⟩ (fun H locs z18 (hD : mD G _ _ b u sz H locs) => ?_)
          refine lv_if_eq (tgt := 120) hx hb dX12_holds_113 (by decide) (fun c19 => ?_) (fun c19 => ?_)
          · have hF := ite_p hF c19
            refine lv_iconst (v := (0 : Int32)) hx hb dX12_holds_120 (by decide) ?_
            exact B_X12_holds_j121 hE (F_X12_holds_l6 nn) ih hD (lv_sub hl [2, 3, 4, 0, 5] rfl) hF
          · have hF := ite_n hF c19
            refine lv_iconst (v := (1 : Int32)) hx hb dX12_holds_116 (by decide) ?_
            refine lv_goto (tgt := 121) hx hb dX12_holds_117 (by decide) ?_
            exact B_X12_holds_j121 hE (F_X12_holds_l6 nn) ih hD (lv_sub hl [2, 3, 4, 0, 5] rfl) hF
        · have hF := ite_p hF c12
          refine lv_aload_n hx hb dX12_holds_58 rfl (lv_at hl 1 rfl) ?_
          refine gf_X12_19 hE hD dX12_holds_59 ?_
          refine lv_iload hx hb dX12_holds_62 (lv_at hl 4 rfl) ?_
          refine lv_iconst (v := (1 : Int32)) hx hb dX12_holds_64 (by decide) ?_
          refine lv_isub hx hb dX12_holds_65 ?_
          refine lv_iconst (v := (1 : Int32)) hx hb dX12_holds_66 (by decide) ?_
          refine lv_aload_n hx hb dX12_holds_67 rfl (lv_at hl 1 rfl) ?_
          refine gf_X12_19 hE hD dX12_holds_68 ?_
          refine lv_iload hx hb dX12_holds_71 (lv_at hl 4 rfl) ?_
          refine lv_iconst (v := (1 : Int32)) hx hb dX12_holds_73 (by decide) ?_
          refine lv_isub hx hb dX12_holds_74 ?_
          obtain ⟨h20, hF⟩ := ite_s hF
          refine ma_ld_4 hE hD h20 dX12_holds_75 ?_
          refine lv_isub hx hb dX12_holds_76 ?_
          obtain ⟨h21, hF⟩ := ite_s hF
          refine ma_st_4 hE hD h21 dX12_holds_77 (fun u22 H locs eu22 hD => ?_)
          have hF := xlet_e hF eu22
          refine lv_goto (tgt := 122) hx hb dX12_holds_78 (by decide) ?_
          exact B_X12_holds_j122 hE (F_X12_holds_l6 nn) ih hD (lv_sub hl [1, 2, 3, 4, 5] rfl) hF
      · have hF := ite_n hF c11
        refine lv_aload_n hx hb dX12_holds_31 rfl (lv_at hl 1 rfl) ?_
        refine gf_X12_19 hE hD dX12_holds_32 ?_
        refine lv_iload hx hb dX12_holds_35 (lv_at hl 4 rfl) ?_
        refine lv_aload_n hx hb dX12_holds_37 rfl (lv_at hl 1 rfl) ?_
        refine lv_iload hx hb dX12_holds_38 (lv_at hl 0 rfl) ?_
        refine lv_iload_n hx hb dX12_holds_40 rfl (lv_at hl 3 rfl) ?_
        obtain ⟨r23, k24, hF⟩ := xb_s hF
        refine kVi (As := [.int x10, .int y3]) (rest := [.int y4, .ref (b + 4)]) hE hl hD (c_X12_fact (b := b) k24) kl_X12_90 (mW_0 _ _ _) rfl rfl rfl rfl (Nat.le_of_ble_eq_true rfl) dX12_holds_41 ⟨Nat.le_of_ble_eq_true rfl, Nat.le_of_ble_eq_true rfl⟩ ⟨Nat.le_of_ble_eq_true rfl, Nat.le_of_ble_eq_true rfl⟩ (fun H locs (hD : mD G _ _ b u sz H locs) => ?_)
        obtain ⟨h25, hF⟩ := ite_s hF
        refine ma_st_4 hE hD h25 dX12_holds_44 (fun u26 H locs eu26 hD => ?_)
        have hF := xlet_e hF eu26
        obtain ⟨x27, ex27⟩ : ∃ y : Int32, y = y4 + (1 : Int32) := ⟨_, rfl⟩
        have hF := xlet_e hF ex27
        refine lv_iinc (v := x27) (lv' := [(4, .int x27), (6, .int x10), (0, .ref b), (2, .int y2), (3, .int y3), (5, .int y5)]) hx hb dX12_holds_45 hl (k := 4) rfl (by rw [ex27]; rfl) (by decide) rfl (fun ls hl => ?_)
        refine lv_goto (tgt := 122) hx hb dX12_holds_48 (by decide) ?_
        exact B_X12_holds_j122 hE (F_X12_holds_l6 nn) ih hD (lv_sub hl [2, 3, 4, 0, 5] rfl) hF
def F_X12_holds (u : xS) (xa : Int32) (xb : Int32) (xc : Int32) : Option (Int32 × xS) := F_X12_holds_l6 xFuel u xb xc (0 : Int32) xa
theorem c_X12_holds {l : Launch} {G : xG} {b sz : Nat} {rr : (Int32 × xS)} {u : xS} {xa : Int32} {xb : Int32} {xc : Int32} (hF : F_X12_holds u xa xb xc = some rr) : xMi l G yX12_holds cX12_holds 7 (Option.some Jvm.ClassFile.FieldType.boolean) 4 0 0 [.ref b, .int xa, .int xb, .int xc] (mW G b u) sz (fun r z => r = rr.1 ∧ (rr.1 = 0 ∨ rr.1 = 1) ∧ z = ((mW G b rr.2), sz)) := by
  unfold F_X12_holds at hF
  refine x_startI rfl (Nat.le_of_ble_eq_true rfl) (fun p e s m args below meth cd ls hE hnm hl hD => ?_)
  have hx := hE.1; have hb := hE.2.1
  have hl : lv_has ls 7 [(0, .ref b), (1, .int xa), (2, .int xb), (3, .int xc)] := hl
  have hD : mD G (xA (mW G b u) s.heap.size) s.heap b u sz s.heap [] := hD
  refine lv_iconst (v := (0 : Int32)) hx hb dX12_holds_0 (by decide) ?_
  refine lv_istore (lv' := [(4, .int (0 : Int32)), (0, .ref b), (1, .int xa), (2, .int xb), (3, .int xc)]) hx hb dX12_holds_1 hl (by decide) rfl (fun ls hl => ?_)
  refine lv_iload_n hx hb dX12_holds_3 rfl (lv_at hl 2 rfl) ?_
  refine lv_istore (lv' := [(5, .int xa), (4, .int (0 : Int32)), (0, .ref b), (1, .int xa), (2, .int xb), (3, .int xc)]) hx hb dX12_holds_4 hl (by decide) rfl (fun ls hl => ?_)
  exact L_X12_holds_l6 hE _ hD (lv_sub hl [2, 4, 5, 1, 0] rfl) hF
def F_X12_asks_j256 (u : xS) (s1 : Int32) : Option (xS) := if s1 = 0 ∨ s1 = 1 then xlet (mS u 7 s1) (fun u1 => some u1) else none
theorem B_X12_asks_j256 {p : Program} {l : Launch} {e : Env} {s : State} {m : MethodId} {args : Array Value} {below : List Frame} {meth : Method} {cd : Code} {G : xG} {w0 : xW} {b sz : Nat} {rr : (xS)} (hE : xE p s m args meth cd cX12_asks RX12 G 8 (Option.none : Option Jvm.ClassFile.FieldType)) {u : xS} {s1 : Int32} {H : Heap} {locs : List Loc} {ls : Array Slot} (hD : mD G (xA w0 s.heap.size) s.heap b u sz H locs) (hl : lv_has ls 8 [(0, .ref b)]) (hF : F_X12_asks_j256 u s1 = some rr) : W p l e (xR 5 0 0) s m args below meth cd H locs 0 0 (xQv G w0 (fun z => z = ((mW G b rr), sz)) below args s 0 0) (F0 m 256 ls [.int s1, .ref b]) := by
  have hx := hE.1; have hb := hE.2.1
  unfold F_X12_asks_j256 at hF
  obtain ⟨h2, hF⟩ := ite_s hF
  refine pf_X12_110 hE hD h2 dX12_asks_256 (fun u1 H locs eu1 hD => ?_)
  have hF := xlet_e hF eu1
  obtain rfl := Option.some.inj hF
  exact x_vret hE hD rfl (by omega) (by omega) dX12_asks_259
def F_X12_asks_j241 (u : xS) (y6 : Int32) (s1 : Int32) : Option (xS) := xlet (mS u 6 s1) (fun u3 => if y6 = (3 : Int32) then F_X12_asks_j256 u3 (0 : Int32) else F_X12_asks_j256 u3 (1 : Int32))
theorem B_X12_asks_j241 {p : Program} {l : Launch} {e : Env} {s : State} {m : MethodId} {args : Array Value} {below : List Frame} {meth : Method} {cd : Code} {G : xG} {w0 : xW} {b sz : Nat} {rr : (xS)} (hE : xE p s m args meth cd cX12_asks RX12 G 8 (Option.none : Option Jvm.ClassFile.FieldType)) {u : xS} {y6 : Int32} {s1 : Int32} {H : Heap} {locs : List Loc} {ls : Array Slot} (hD : mD G (xA w0 s.heap.size) s.heap b u sz H locs) (hl : lv_has ls 8 [(0, .ref b), (6, .int y6)]) (hF : F_X12_asks_j241 u y6 s1 = some rr) : W p l e (xR 5 0 0) s m args below meth cd H locs 0 0 (xQv G w0 (fun z => z = ((mW G b rr), sz)) below args s 0 0) (F0 m 241 ls [.int s1, .ref b]) := by
  have hx := hE.1; have hb := hE.2.1
  unfold F_X12_asks_j241 at hF
  refine pf_X12_107 hE hD dX12_asks_241 (fun u3 H locs eu3 hD => ?_)
  have hF := xlet_e hF eu3
  refine lv_aload_n hx hb dX12_asks_244 rfl (lv_at hl 0 rfl) ?_
  refine lv_iload hx hb dX12_asks_245 (lv_at hl 1 rfl) ?_
  refine lv_iconst (v := (3 : Int32)) hx hb dX12_asks_247 (by decide) ?_
  refine lv_icmp_eq (tgt := 255) hx hb dX12_asks_248 (by decide) (fun c4 => ?_) (fun c4 => ?_)
  · have hF := ite_p hF c4
    refine lv_iconst (v := (0 : Int32)) hx hb dX12_asks_255 (by decide) ?_
    exact B_X12_asks_j256 hE hD (lv_sub hl [0] rfl) hF
  · have hF := ite_n hF c4
    refine lv_iconst (v := (1 : Int32)) hx hb dX12_asks_251 (by decide) ?_
    refine lv_goto (tgt := 256) hx hb dX12_asks_252 (by decide) ?_
    exact B_X12_asks_j256 hE hD (lv_sub hl [0] rfl) hF
def F_X12_asks_j237 (u : xS) (y6 : Int32) : Option (xS) := F_X12_asks_j241 u y6 (u.1 6)
theorem B_X12_asks_j237 {p : Program} {l : Launch} {e : Env} {s : State} {m : MethodId} {args : Array Value} {below : List Frame} {meth : Method} {cd : Code} {G : xG} {w0 : xW} {b sz : Nat} {rr : (xS)} (hE : xE p s m args meth cd cX12_asks RX12 G 8 (Option.none : Option Jvm.ClassFile.FieldType)) {u : xS} {y6 : Int32} {H : Heap} {locs : List Loc} {ls : Array Slot} (hD : mD G (xA w0 s.heap.size) s.heap b u sz H locs) (hl : lv_has ls 8 [(0, .ref b), (6, .int y6)]) (hF : F_X12_asks_j237 u y6 = some rr) : W p l e (xR 5 0 0) s m args below meth cd H locs 0 0 (xQv G w0 (fun z => z = ((mW G b rr), sz)) below args s 0 0) (F0 m 237 ls [.ref b]) := by
  have hx := hE.1; have hb := hE.2.1
  unfold F_X12_asks_j237 at hF
  refine lv_aload_n hx hb dX12_asks_237 rfl (lv_at hl 0 rfl) ?_
  refine gf_X12_107 hE hD dX12_asks_238 ?_
  exact B_X12_asks_j241 hE hD (lv_sub hl [0, 1] rfl) hF
def F_X12_asks_j215 (u : xS) (y2 : Int32) (y3 : Int32) (y6 : Int32) (s1 : Int32) : Option (xS) := xlet (mS u 6 s1) (fun u5 => if y2 = (5 : Int32) then if y3 = 0 then F_X12_asks_j237 u5 y6 else F_X12_asks_j241 u5 y6 ((u5.1 6) / (2 : Int32)) else F_X12_asks_j237 u5 y6)
theorem B_X12_asks_j215 {p : Program} {l : Launch} {e : Env} {s : State} {m : MethodId} {args : Array Value} {below : List Frame} {meth : Method} {cd : Code} {G : xG} {w0 : xW} {b sz : Nat} {rr : (xS)} (hE : xE p s m args meth cd cX12_asks RX12 G 8 (Option.none : Option Jvm.ClassFile.FieldType)) {u : xS} {y2 : Int32} {y3 : Int32} {y6 : Int32} {s1 : Int32} {H : Heap} {locs : List Loc} {ls : Array Slot} (hD : mD G (xA w0 s.heap.size) s.heap b u sz H locs) (hl : lv_has ls 8 [(0, .ref b), (2, .int y2), (3, .int y3), (6, .int y6)]) (hF : F_X12_asks_j215 u y2 y3 y6 s1 = some rr) : W p l e (xR 5 0 0) s m args below meth cd H locs 0 0 (xQv G w0 (fun z => z = ((mW G b rr), sz)) below args s 0 0) (F0 m 215 ls [.int s1, .ref b]) := by
  have hx := hE.1; have hb := hE.2.1
  unfold F_X12_asks_j215 at hF
  refine pf_X12_107 hE hD dX12_asks_215 (fun u5 H locs eu5 hD => ?_)
  have hF := xlet_e hF eu5
  refine lv_aload_n hx hb dX12_asks_218 rfl (lv_at hl 0 rfl) ?_
  refine lv_iload_n hx hb dX12_asks_219 rfl (lv_at hl 1 rfl) ?_
  refine lv_iconst (v := (5 : Int32)) hx hb dX12_asks_220 (by decide) ?_
  refine lv_icmp_ne (tgt := 237) hx hb dX12_asks_221 (by decide) (fun c6 => ?_) (fun c6 => ?_)
  · have hF := ite_n hF c6
    exact B_X12_asks_j237 hE hD (lv_sub hl [0, 3] rfl) hF
  · have hF := ite_p hF c6
    refine lv_iload_n hx hb dX12_asks_224 rfl (lv_at hl 2 rfl) ?_
    refine lv_if_eq (tgt := 237) hx hb dX12_asks_225 (by decide) (fun c7 => ?_) (fun c7 => ?_)
    · have hF := ite_p hF c7
      exact B_X12_asks_j237 hE hD (lv_sub hl [0, 3] rfl) hF
    · have hF := ite_n hF c7
      refine lv_aload_n hx hb dX12_asks_228 rfl (lv_at hl 0 rfl) ?_
      refine gf_X12_107 hE hD dX12_asks_229 ?_
      refine lv_iconst (v := (2 : Int32)) hx hb dX12_asks_232 (by decide) ?_
      refine lv_idiv hx hb dX12_asks_233 (by decide) ?_
      refine lv_goto (tgt := 241) hx hb dX12_asks_234 (by decide) ?_
      exact B_X12_asks_j241 hE hD (lv_sub hl [0, 3] rfl) hF
def F_X12_asks_j214 (u : xS) (y2 : Int32) (y3 : Int32) (y6 : Int32) (s1 : Int32) (s2 : Int32) : Option (xS) := F_X12_asks_j215 u y2 y3 y6 (s1 + s2)
theorem B_X12_asks_j214 {p : Program} {l : Launch} {e : Env} {s : State} {m : MethodId} {args : Array Value} {below : List Frame} {meth : Method} {cd : Code} {G : xG} {w0 : xW} {b sz : Nat} {rr : (xS)} (hE : xE p s m args meth cd cX12_asks RX12 G 8 (Option.none : Option Jvm.ClassFile.FieldType)) {u : xS} {y2 : Int32} {y3 : Int32} {y6 : Int32} {s1 : Int32} {s2 : Int32} {H : Heap} {locs : List Loc} {ls : Array Slot} (hD : mD G (xA w0 s.heap.size) s.heap b u sz H locs) (hl : lv_has ls 8 [(0, .ref b), (2, .int y2), (3, .int y3), (6, .int y6)]) (hF : F_X12_asks_j214 u y2 y3 y6 s1 s2 = some rr) : W p l e (xR 5 0 0) s m args below meth cd H locs 0 0 (xQv G w0 (fun z => z = ((mW G b rr), sz)) below args s 0 0) (F0 m 214 ls [.int s2, .int s1, .ref b]) := by
  have hx := hE.1; have hb := hE.2.1
  unfold F_X12_asks_j214 at hF
  refine lv_iadd hx hb dX12_asks_214 ?_
  exact B_X12_asks_j215 hE hD (lv_sub hl [0, 1, 2, 3] rfl) hF
def F_X12_asks_j175 (u : xS) (y1 : Int32) (y2 : Int32) (y3 : Int32) (y4 : Int32) (y6 : Int32) (s1 : Int32) (s2 : Int32) : Option (xS) := xlet (mS u 5 (s1 + s2)) (fun u8 => if y6 = 0 then F_X12_asks_j215 u8 y2 y3 y6 (0 : Int32) else (F_X12_its u8 y1 (2 : Int32)).bind (fun r10 => if y6 = (1 : Int32) then if xIn (y4 + (2 : Int32)) 303 then F_X12_asks_j214 u8 y2 y3 y6 r10 (u8.2.1 0 (y4 + (2 : Int32)).toNatClampNeg) else none else F_X12_asks_j214 u8 y2 y3 y6 r10 (0 : Int32)))
theorem B_X12_asks_j175 {p : Program} {l : Launch} {e : Env} {s : State} {m : MethodId} {args : Array Value} {below : List Frame} {meth : Method} {cd : Code} {G : xG} {w0 : xW} {b sz : Nat} {rr : (xS)} (hE : xE p s m args meth cd cX12_asks RX12 G 8 (Option.none : Option Jvm.ClassFile.FieldType)) {u : xS} {y1 : Int32} {y2 : Int32} {y3 : Int32} {y4 : Int32} {y6 : Int32} {s1 : Int32} {s2 : Int32} {H : Heap} {locs : List Loc} {ls : Array Slot} (hD : mD G (xA w0 s.heap.size) s.heap b u sz H locs) (hl : lv_has ls 8 [(0, .ref b), (1, .int y1), (2, .int y2), (3, .int y3), (4, .int y4), (6, .int y6)]) (hF : F_X12_asks_j175 u y1 y2 y3 y4 y6 s1 s2 = some rr) : W p l e (xR 5 0 0) s m args below meth cd H locs 0 0 (xQv G w0 (fun z => z = ((mW G b rr), sz)) below args s 0 0) (F0 m 175 ls [.int s2, .int s1, .ref b]) := by
  have hx := hE.1; have hb := hE.2.1
  unfold F_X12_asks_j175 at hF
  refine lv_iadd hx hb dX12_asks_175 ?_
  refine pf_X12_103 hE hD dX12_asks_176 (fun u8 H locs eu8 hD => ?_)
  have hF := xlet_e hF eu8
  refine lv_aload_n hx hb dX12_asks_179 rfl (lv_at hl 0 rfl) ?_
  refine lv_iload hx hb dX12_asks_180 (lv_at hl 5 rfl) ?_
  refine lv_if_ne (tgt := 189) hx hb dX12_asks_182 (by decide) (fun c9 => ?_) (fun c9 => ?_)
  · have hF := ite_n hF c9
    refine lv_aload_n hx hb dX12_asks_189 rfl (lv_at hl 0 rfl) ?_
    refine lv_iload_n hx hb dX12_asks_190 rfl (lv_at hl 1 rfl) ?_
    refine lv_iconst (v := (2 : Int32)) hx hb dX12_asks_191 (by decide) ?_
    obtain ⟨r10, k11, hF⟩ := xb_s hF
    refine kVi (As := [.int y1, .int (2 : Int32)]) (rest := [.ref b]) hE hl hD (c_X12_its (b := b) k11) kl_X12_87 (mW_0 _ _ _) rfl rfl rfl rfl (Nat.le_of_ble_eq_true rfl) dX12_asks_192 ⟨Nat.le_of_ble_eq_true rfl, Nat.le_of_ble_eq_true rfl⟩ ⟨Nat.le_of_ble_eq_true rfl, Nat.le_of_ble_eq_true rfl⟩ (fun H locs (hD : mD G _ _ b u8 sz H locs) => ?_)
    refine lv_iload hx hb dX12_asks_195 (lv_at hl 5 rfl) ?_
    refine lv_iconst (v := (1 : Int32)) hx hb dX12_asks_197 (by decide) ?_
    refine lv_icmp_ne (tgt := 213) hx hb dX12_asks_198 (by decide) (fun c12 => ?_) (fun c12 => ?_)
    · have hF := ite_n hF c12
      refine lv_iconst (v := (0 : Int32)) hx hb dX12_asks_213 (by decide) ?_
      exact B_X12_asks_j214 hE hD (lv_sub hl [0, 2, 3, 5] rfl) hF
    · have hF := ite_p hF c12
      refine lv_aload_n hx hb dX12_asks_201 rfl (lv_at hl 0 rfl) ?_
      refine gf_X12_7 hE hD dX12_asks_202 ?_
      refine lv_iload hx hb dX12_asks_205 (lv_at hl 4 rfl) ?_
      refine lv_iconst (v := (2 : Int32)) hx hb dX12_asks_207 (by decide) ?_
      refine lv_iadd hx hb dX12_asks_208 ?_
      obtain ⟨h13, hF⟩ := ite_s hF
      refine ma_ld_0 hE hD h13 dX12_asks_209 ?_
      refine lv_goto (tgt := 214) hx hb dX12_asks_210 (by decide) ?_
      exact B_X12_asks_j214 hE hD (lv_sub hl [0, 2, 3, 5] rfl) hF
  · have hF := ite_p hF c9
    refine lv_iconst (v := (0 : Int32)) hx hb dX12_asks_185 (by decide) ?_
    refine lv_goto (tgt := 215) hx hb dX12_asks_186 (by decide) ?_
    exact B_X12_asks_j215 hE hD (lv_sub hl [0, 2, 3, 5] rfl) hF
def F_X12_asks_j174 (u : xS) (y1 : Int32) (y2 : Int32) (y3 : Int32) (y4 : Int32) (y6 : Int32) (s1 : Int32) : Option (xS) := F_X12_asks_j175 u y1 y2 y3 y4 y6 s1 (0 : Int32)
theorem B_X12_asks_j174 {p : Program} {l : Launch} {e : Env} {s : State} {m : MethodId} {args : Array Value} {below : List Frame} {meth : Method} {cd : Code} {G : xG} {w0 : xW} {b sz : Nat} {rr : (xS)} (hE : xE p s m args meth cd cX12_asks RX12 G 8 (Option.none : Option Jvm.ClassFile.FieldType)) {u : xS} {y1 : Int32} {y2 : Int32} {y3 : Int32} {y4 : Int32} {y6 : Int32} {s1 : Int32} {H : Heap} {locs : List Loc} {ls : Array Slot} (hD : mD G (xA w0 s.heap.size) s.heap b u sz H locs) (hl : lv_has ls 8 [(0, .ref b), (1, .int y1), (2, .int y2), (3, .int y3), (4, .int y4), (6, .int y6)]) (hF : F_X12_asks_j174 u y1 y2 y3 y4 y6 s1 = some rr) : W p l e (xR 5 0 0) s m args below meth cd H locs 0 0 (xQv G w0 (fun z => z = ((mW G b rr), sz)) below args s 0 0) (F0 m 174 ls [.int s1, .ref b]) := by
  have hx := hE.1; have hb := hE.2.1
  unfold F_X12_asks_j174 at hF
  refine lv_iconst (v := (0 : Int32)) hx hb dX12_asks_174 (by decide) ?_
  exact B_X12_asks_j175 hE hD (lv_sub hl [0, 1, 2, 3, 4, 5] rfl) hF
def F_X12_asks_j160 (u : xS) (y1 : Int32) (y2 : Int32) (y3 : Int32) (y4 : Int32) (y6 : Int32) (s1 : Int32) (s2 : Int32) : Option (xS) := if y2 = (3 : Int32) then if y3 = 0 then F_X12_asks_j174 u y1 y2 y3 y4 y6 (s1 + s2) else F_X12_asks_j175 u y1 y2 y3 y4 y6 (s1 + s2) (1 : Int32) else F_X12_asks_j174 u y1 y2 y3 y4 y6 (s1 + s2)
theorem B_X12_asks_j160 {p : Program} {l : Launch} {e : Env} {s : State} {m : MethodId} {args : Array Value} {below : List Frame} {meth : Method} {cd : Code} {G : xG} {w0 : xW} {b sz : Nat} {rr : (xS)} (hE : xE p s m args meth cd cX12_asks RX12 G 8 (Option.none : Option Jvm.ClassFile.FieldType)) {u : xS} {y1 : Int32} {y2 : Int32} {y3 : Int32} {y4 : Int32} {y6 : Int32} {s1 : Int32} {s2 : Int32} {H : Heap} {locs : List Loc} {ls : Array Slot} (hD : mD G (xA w0 s.heap.size) s.heap b u sz H locs) (hl : lv_has ls 8 [(0, .ref b), (1, .int y1), (2, .int y2), (3, .int y3), (4, .int y4), (6, .int y6)]) (hF : F_X12_asks_j160 u y1 y2 y3 y4 y6 s1 s2 = some rr) : W p l e (xR 5 0 0) s m args below meth cd H locs 0 0 (xQv G w0 (fun z => z = ((mW G b rr), sz)) below args s 0 0) (F0 m 160 ls [.int s2, .int s1, .ref b]) := by
  have hx := hE.1; have hb := hE.2.1
  unfold F_X12_asks_j160 at hF
  refine lv_iadd hx hb dX12_asks_160 ?_
  refine lv_iload_n hx hb dX12_asks_161 rfl (lv_at hl 2 rfl) ?_
  refine lv_iconst (v := (3 : Int32)) hx hb dX12_asks_162 (by decide) ?_
  refine lv_icmp_ne (tgt := 174) hx hb dX12_asks_163 (by decide) (fun c14 => ?_) (fun c14 => ?_)
  · have hF := ite_n hF c14
    exact B_X12_asks_j174 hE hD (lv_sub hl [0, 1, 2, 3, 4, 5] rfl) hF
  · have hF := ite_p hF c14
    refine lv_iload_n hx hb dX12_asks_166 rfl (lv_at hl 3 rfl) ?_
    refine lv_if_eq (tgt := 174) hx hb dX12_asks_167 (by decide) (fun c15 => ?_) (fun c15 => ?_)
    · have hF := ite_p hF c15
      exact B_X12_asks_j174 hE hD (lv_sub hl [0, 1, 2, 3, 4, 5] rfl) hF
    · have hF := ite_n hF c15
      refine lv_iconst (v := (1 : Int32)) hx hb dX12_asks_170 (by decide) ?_
      refine lv_goto (tgt := 175) hx hb dX12_asks_171 (by decide) ?_
      exact B_X12_asks_j175 hE hD (lv_sub hl [0, 1, 2, 3, 4, 5] rfl) hF
def F_X12_asks_j140 (u : xS) (y1 : Int32) (y2 : Int32) (y3 : Int32) (y4 : Int32) (s0 : Int32) : Option (xS) := (F_X12_its u y1 (1 : Int32)).bind (fun r16 => if s0 = (2 : Int32) then F_X12_asks_j160 u y1 y2 y3 y4 s0 r16 (1 : Int32) else F_X12_asks_j160 u y1 y2 y3 y4 s0 r16 (0 : Int32))
theorem B_X12_asks_j140 {p : Program} {l : Launch} {e : Env} {s : State} {m : MethodId} {args : Array Value} {below : List Frame} {meth : Method} {cd : Code} {G : xG} {w0 : xW} {b sz : Nat} {rr : (xS)} (hE : xE p s m args meth cd cX12_asks RX12 G 8 (Option.none : Option Jvm.ClassFile.FieldType)) {u : xS} {y1 : Int32} {y2 : Int32} {y3 : Int32} {y4 : Int32} {s0 : Int32} {H : Heap} {locs : List Loc} {ls : Array Slot} (hD : mD G (xA w0 s.heap.size) s.heap b u sz H locs) (hl : lv_has ls 8 [(0, .ref b), (1, .int y1), (2, .int y2), (3, .int y3), (4, .int y4)]) (hF : F_X12_asks_j140 u y1 y2 y3 y4 s0 = some rr) : W p l e (xR 5 0 0) s m args below meth cd H locs 0 0 (xQv G w0 (fun z => z = ((mW G b rr), sz)) below args s 0 0) (F0 m 140 ls [.int s0]) := by
  have hx := hE.1; have hb := hE.2.1
  unfold F_X12_asks_j140 at hF
  refine lv_istore (lv' := [(6, .int s0), (0, .ref b), (1, .int y1), (2, .int y2), (3, .int y3), (4, .int y4)]) hx hb dX12_asks_140 hl (by decide) rfl (fun ls hl => ?_)
  refine lv_aload_n hx hb dX12_asks_142 rfl (lv_at hl 1 rfl) ?_
  refine lv_aload_n hx hb dX12_asks_143 rfl (lv_at hl 1 rfl) ?_
  refine lv_iload_n hx hb dX12_asks_144 rfl (lv_at hl 2 rfl) ?_
  refine lv_iconst (v := (1 : Int32)) hx hb dX12_asks_145 (by decide) ?_
  obtain ⟨r16, k17, hF⟩ := xb_s hF
  refine kVi (As := [.int y1, .int (1 : Int32)]) (rest := [.ref b]) hE hl hD (c_X12_its (b := b) k17) kl_X12_87 (mW_0 _ _ _) rfl rfl rfl rfl (Nat.le_of_ble_eq_true rfl) dX12_asks_146 ⟨Nat.le_of_ble_eq_true rfl, Nat.le_of_ble_eq_true rfl⟩ ⟨Nat.le_of_ble_eq_true rfl, Nat.le_of_ble_eq_true rfl⟩ (fun H locs (hD : mD G _ _ b u sz H locs) => ?_)
  refine lv_iload hx hb dX12_asks_149 (lv_at hl 0 rfl) ?_
  refine lv_iconst (v := (2 : Int32)) hx hb dX12_asks_151 (by decide) ?_
  refine lv_icmp_ne (tgt := 159) hx hb dX12_asks_152 (by decide) (fun c18 => ?_) (fun c18 => ?_)
  · have hF := ite_n hF c18
    refine lv_iconst (v := (0 : Int32)) hx hb dX12_asks_159 (by decide) ?_
    exact B_X12_asks_j160 hE hD (lv_sub hl [1, 2, 3, 4, 5, 0] rfl) hF
  · have hF := ite_p hF c18
    refine lv_iconst (v := (1 : Int32)) hx hb dX12_asks_155 (by decide) ?_
    refine lv_goto (tgt := 160) hx hb dX12_asks_156 (by decide) ?_
    exact B_X12_asks_j160 hE hD (lv_sub hl [1, 2, 3, 4, 5, 0] rfl) hF
def F_X12_asks_j122 (u : xS) (y1 : Int32) (y2 : Int32) (y3 : Int32) (y4 : Int32) : Option (xS) := if 0 ≤ y4 then if xIn (y4 + (1 : Int32)) 303 then F_X12_asks_j140 u y1 y2 y3 y4 (u.2.1 0 (y4 + (1 : Int32)).toNatClampNeg) else none else F_X12_asks_j140 u y1 y2 y3 y4 (-1 : Int32)
theorem B_X12_asks_j122 {p : Program} {l : Launch} {e : Env} {s : State} {m : MethodId} {args : Array Value} {below : List Frame} {meth : Method} {cd : Code} {G : xG} {w0 : xW} {b sz : Nat} {rr : (xS)} (hE : xE p s m args meth cd cX12_asks RX12 G 8 (Option.none : Option Jvm.ClassFile.FieldType)) {u : xS} {y1 : Int32} {y2 : Int32} {y3 : Int32} {y4 : Int32} {H : Heap} {locs : List Loc} {ls : Array Slot} (hD : mD G (xA w0 s.heap.size) s.heap b u sz H locs) (hl : lv_has ls 8 [(0, .ref b), (1, .int y1), (2, .int y2), (3, .int y3), (4, .int y4)]) (hF : F_X12_asks_j122 u y1 y2 y3 y4 = some rr) : W p l e (xR 5 0 0) s m args below meth cd H locs 0 0 (xQv G w0 (fun z => z = ((mW G b rr), sz)) below args s 0 0) (F0 m 122 ls []) := by
  have hx := hE.1; have hb := hE.2.1
  unfold F_X12_asks_j122 at hF
  refine lv_iload hx hb dX12_asks_122 (lv_at hl 4 rfl) ?_
  refine lv_if_ge (tgt := 131) hx hb dX12_asks_124 (by decide) (fun c19 => ?_) (fun c19 => ?_)
  · have hF := ite_p hF c19
    refine lv_aload_n hx hb dX12_asks_131 rfl (lv_at hl 0 rfl) ?_
    refine gf_X12_7 hE hD dX12_asks_132 ?_
    refine lv_iload hx hb dX12_asks_135 (lv_at hl 4 rfl) ?_
    refine lv_iconst (v := (1 : Int32)) hx hb dX12_asks_137 (by decide) ?_
    refine lv_iadd hx hb dX12_asks_138 ?_
    obtain ⟨h20, hF⟩ := ite_s hF
    refine ma_ld_0 hE hD h20 dX12_asks_139 ?_
    exact B_X12_asks_j140 hE hD (lv_sub hl [0, 1, 2, 3, 4] rfl) hF
  · have hF := ite_n hF c19
    refine lv_iconst (v := (-1 : Int32)) hx hb dX12_asks_127 (by decide) ?_
    refine lv_goto (tgt := 140) hx hb dX12_asks_128 (by decide) ?_
    exact B_X12_asks_j140 hE hD (lv_sub hl [0, 1, 2, 3, 4] rfl) hF
def F_X12_asks_j103 (k37 : xS → Int32 → Int32 → Int32 → Int32 → Int32 → Int32 → Option (xS)) (u : xS) (y1 : Int32) (y2 : Int32) (y3 : Int32) (y6 : Int32) (y7 : Int32) (s0 : Int32) : Option (xS) := if xIn (y7 + (3 : Int32)) 303 then xlet (u.2.1 0 (y7 + (3 : Int32)).toNatClampNeg) (fun x22 => xlet (y6 + (1 : Int32)) (fun x23 => k37 u y1 y2 y3 s0 x22 x23)) else none
theorem B_X12_asks_j103 {p : Program} {l : Launch} {e : Env} {s : State} {m : MethodId} {args : Array Value} {below : List Frame} {meth : Method} {cd : Code} {G : xG} {w0 : xW} {b sz : Nat} {rr : (xS)} (hE : xE p s m args meth cd cX12_asks RX12 G 8 (Option.none : Option Jvm.ClassFile.FieldType)) {u : xS} (k37 : xS → Int32 → Int32 → Int32 → Int32 → Int32 → Int32 → Option (xS)) (h37 : ∀ {u1 : xS} {y1 : Int32} {y2 : Int32} {y3 : Int32} {y4 : Int32} {y5 : Int32} {y6 : Int32} {H : Heap} {locs : List Loc} {ls : Array Slot}, mD G (xA w0 s.heap.size) s.heap b u1 sz H locs → lv_has ls 8 [(0, .ref b), (1, .int y1), (2, .int y2), (3, .int y3), (4, .int y4), (5, .int y5), (6, .int y6)] → k37 u1 y1 y2 y3 y4 y5 y6 = some rr → W p l e (xR 5 0 0) s m args below meth cd H locs 0 0 (xQv G w0 (fun z => z = ((mW G b rr), sz)) below args s 0 0) (F0 m 37 ls [])) {y1 : Int32} {y2 : Int32} {y3 : Int32} {y6 : Int32} {y7 : Int32} {s0 : Int32} {H : Heap} {locs : List Loc} {ls : Array Slot} (hD : mD G (xA w0 s.heap.size) s.heap b u sz H locs) (hl : lv_has ls 8 [(0, .ref b), (1, .int y1), (2, .int y2), (3, .int y3), (6, .int y6), (7, .int y7)]) (hF : F_X12_asks_j103 k37 u y1 y2 y3 y6 y7 s0 = some rr) : W p l e (xR 5 0 0) s m args below meth cd H locs 0 0 (xQv G w0 (fun z => z = ((mW G b rr), sz)) below args s 0 0) (F0 m 103 ls [.int s0]) := by
  have hx := hE.1; have hb := hE.2.1
  unfold F_X12_asks_j103 at hF
  refine lv_istore (lv' := [(4, .int s0), (0, .ref b), (1, .int y1), (2, .int y2), (3, .int y3), (6, .int y6), (7, .int y7)]) hx hb dX12_asks_103 hl (by decide) rfl (fun ls hl => ?_)
  refine lv_aload_n hx hb dX12_asks_105 rfl (lv_at hl 1 rfl) ?_
  refine gf_X12_7 hE hD dX12_asks_106 ?_
  refine lv_iload hx hb dX12_asks_109 (lv_at hl 6 rfl) ?_
  refine lv_iconst (v := (3 : Int32)) hx hb dX12_asks_111 (by decide) ?_
  refine lv_iadd hx hb dX12_asks_112 ?_
  obtain ⟨h21, hF⟩ := ite_s hF
  refine ma_ld_0 hE hD h21 dX12_asks_113 ?_
  refine lv_topi (fun x22 ex22 => ?_)
  have hF := xlet_e hF ex22
  refine lv_istore (lv' := [(5, .int x22), (4, .int s0), (0, .ref b), (1, .int y1), (2, .int y2), (3, .int y3), (6, .int y6), (7, .int y7)]) hx hb dX12_asks_114 hl (by decide) rfl (fun ls hl => ?_)
  obtain ⟨x23, ex23⟩ : ∃ y : Int32, y = y6 + (1 : Int32) := ⟨_, rfl⟩
  have hF := xlet_e hF ex23
  refine lv_iinc (v := x23) (lv' := [(6, .int x23), (5, .int x22), (4, .int s0), (0, .ref b), (1, .int y1), (2, .int y2), (3, .int y3), (7, .int y7)]) hx hb dX12_asks_116 hl (k := 6) rfl (by rw [ex23]; rfl) (by decide) rfl (fun ls hl => ?_)
  refine lv_goto (tgt := 37) hx hb dX12_asks_119 (by decide) ?_
  exact h37 hD (lv_sub hl [3, 4, 5, 6, 2, 1, 0] rfl) hF
def F_X12_asks_j102 (k37 : xS → Int32 → Int32 → Int32 → Int32 → Int32 → Int32 → Option (xS)) (u : xS) (y1 : Int32) (y2 : Int32) (y3 : Int32) (y6 : Int32) (y7 : Int32) : Option (xS) := F_X12_asks_j103 k37 u y1 y2 y3 y6 y7 (-1 : Int32)
theorem B_X12_asks_j102 {p : Program} {l : Launch} {e : Env} {s : State} {m : MethodId} {args : Array Value} {below : List Frame} {meth : Method} {cd : Code} {G : xG} {w0 : xW} {b sz : Nat} {rr : (xS)} (hE : xE p s m args meth cd cX12_asks RX12 G 8 (Option.none : Option Jvm.ClassFile.FieldType)) {u : xS} (k37 : xS → Int32 → Int32 → Int32 → Int32 → Int32 → Int32 → Option (xS)) (h37 : ∀ {u1 : xS} {y1 : Int32} {y2 : Int32} {y3 : Int32} {y4 : Int32} {y5 : Int32} {y6 : Int32} {H : Heap} {locs : List Loc} {ls : Array Slot}, mD G (xA w0 s.heap.size) s.heap b u1 sz H locs → lv_has ls 8 [(0, .ref b), (1, .int y1), (2, .int y2), (3, .int y3), (4, .int y4), (5, .int y5), (6, .int y6)] → k37 u1 y1 y2 y3 y4 y5 y6 = some rr → W p l e (xR 5 0 0) s m args below meth cd H locs 0 0 (xQv G w0 (fun z => z = ((mW G b rr), sz)) below args s 0 0) (F0 m 37 ls [])) {y1 : Int32} {y2 : Int32} {y3 : Int32} {y6 : Int32} {y7 : Int32} {H : Heap} {locs : List Loc} {ls : Array Slot} (hD : mD G (xA w0 s.heap.size) s.heap b u sz H locs) (hl : lv_has ls 8 [(0, .ref b), (1, .int y1), (2, .int y2), (3, .int y3), (6, .int y6), (7, .int y7)]) (hF : F_X12_asks_j102 k37 u y1 y2 y3 y6 y7 = some rr) : W p l e (xR 5 0 0) s m args below meth cd H locs 0 0 (xQv G w0 (fun z => z = ((mW G b rr), sz)) below args s 0 0) (F0 m 102 ls []) := by
  have hx := hE.1; have hb := hE.2.1
  unfold F_X12_asks_j102 at hF
  refine lv_iconst (v := (-1 : Int32)) hx hb dX12_asks_102 (by decide) ?_
  exact B_X12_asks_j103 hE k37 h37 hD (lv_sub hl [0, 1, 2, 3, 4, 5] rfl) hF
def F_X12_asks_l37 : Nat → xS → Int32 → Int32 → Int32 → Int32 → Int32 → Int32 → Option (xS)
  | 0, _, _, _, _, _, _, _ => none
  | nn + 1, u, y1, y2, y3, y4, y5, y6 => if xIn (4 : Int32) 303 then if (u.2.1 0 (4 : Int32).toNatClampNeg) ≤ y6 then F_X12_asks_j122 u y1 y2 y3 y4 else if 0 ≤ y4 then F_X12_asks_j122 u y1 y2 y3 y4 else xlet ((71 : Int32) + ((4 : Int32) * y6)) (fun x27 => if xIn (x27 + (0 : Int32)) 303 then (F_X12_isUnder y2 (u.2.1 0 (x27 + (0 : Int32)).toNatClampNeg)).bind (fun r29 => if r29 = 0 then F_X12_asks_j102 (F_X12_asks_l37 nn) u y1 y2 y3 y6 x27 else if xIn (x27 + (3 : Int32)) 303 then (F_X12_holds u y5 (u.2.1 0 (x27 + (3 : Int32)).toNatClampNeg) y1).bind (fun r34 => if r34.1 = 0 then F_X12_asks_j102 (F_X12_asks_l37 nn) r34.2 y1 y2 y3 y6 x27 else F_X12_asks_j103 (F_X12_asks_l37 nn) r34.2 y1 y2 y3 y6 x27 x27) else none) else none) else none
theorem L_X12_asks_l37 {p : Program} {l : Launch} {e : Env} {s : State} {m : MethodId} {args : Array Value} {below : List Frame} {meth : Method} {cd : Code} {G : xG} {w0 : xW} {b sz : Nat} {rr : (xS)} (hE : xE p s m args meth cd cX12_asks RX12 G 8 (Option.none : Option Jvm.ClassFile.FieldType)) : ∀ (nn : Nat) {u : xS} {y1 : Int32} {y2 : Int32} {y3 : Int32} {y4 : Int32} {y5 : Int32} {y6 : Int32} {H : Heap} {locs : List Loc} {ls : Array Slot}, mD G (xA w0 s.heap.size) s.heap b u sz H locs → lv_has ls 8 [(0, .ref b), (1, .int y1), (2, .int y2), (3, .int y3), (4, .int y4), (5, .int y5), (6, .int y6)] → F_X12_asks_l37 nn u y1 y2 y3 y4 y5 y6 = some rr → W p l e (xR 5 0 0) s m args below meth cd H locs 0 0 (xQv G w0 (fun z => z = ((mW G b rr), sz)) below args s 0 0) (F0 m 37 ls []) := by
  have hx := hE.1; have hb := hE.2.1
  intro nn
  induction nn with
  | zero => intro u y1 y2 y3 y4 y5 y6 H locs ls hD hl hF; rw [F_X12_asks_l37] at hF; cases hF
  | succ nn ih =>
    intro u y1 y2 y3 y4 y5 y6 H locs ls hD hl hF
    rw [F_X12_asks_l37] at hF
    refine lv_iload hx hb dX12_asks_37 (lv_at hl 6 rfl) ?_
    refine lv_aload_n hx hb dX12_asks_39 rfl (lv_at hl 0 rfl) ?_
    refine gf_X12_7 hE hD dX12_asks_40 ?_
    refine lv_iconst (v := (4 : Int32)) hx hb dX12_asks_43 (by decide) ?_
    obtain ⟨h24, hF⟩ := ite_s hF
    refine ma_ld_0 hE hD h24 dX12_asks_44 ?_
    refine lv_icmp_ge (tgt := 122) hx hb dX12_asks_45 (by decide) (fun c25 => ?_) (fun c25 => ?_)
    · have hF := ite_p hF c25
      exact B_X12_asks_j122 hE hD (lv_sub hl [0, 1, 2, 3, 4] rfl) hF
    · have hF := ite_n hF c25
      refine lv_iload hx hb dX12_asks_48 (lv_at hl 4 rfl) ?_
      refine lv_if_ge (tgt := 122) hx hb dX12_asks_50 (by decide) (fun c26 => ?_) (fun c26 => ?_)
      · have hF := ite_p hF c26
        exact B_X12_asks_j122 hE hD (lv_sub hl [0, 1, 2, 3, 4] rfl) hF
      · have hF := ite_n hF c26
        refine lv_bipush (v := (71 : Int32)) hx hb dX12_asks_53 (by decide) ?_
        refine lv_iconst (v := (4 : Int32)) hx hb dX12_asks_55 (by decide) ?_
        refine lv_iload hx hb dX12_asks_56 (lv_at hl 6 rfl) ?_
        refine lv_imul hx hb dX12_asks_58 ?_
        refine lv_iadd hx hb dX12_asks_59 ?_
        refine lv_topi (fun x27 ex27 => ?_)
        have hF := xlet_e hF ex27
        refine lv_istore (lv' := [(7, .int x27), (0, .ref b), (1, .int y1), (2, .int y2), (3, .int y3), (4, .int y4), (5, .int y5), (6, .int y6)]) hx hb dX12_asks_60 hl (by decide) rfl (fun ls hl => ?_)
        refine lv_iload_n hx hb dX12_asks_62 rfl (lv_at hl 3 rfl) ?_
        refine lv_aload_n hx hb dX12_asks_63 rfl (lv_at hl 1 rfl) ?_
        refine gf_X12_7 hE hD dX12_asks_64 ?_
        refine lv_iload hx hb dX12_asks_67 (lv_at hl 0 rfl) ?_
        refine lv_iconst (v := (0 : Int32)) hx hb dX12_asks_69 (by decide) ?_
        refine lv_iadd hx hb dX12_asks_70 ?_
        obtain ⟨h28, hF⟩ := ite_s hF
        refine ma_ld_0 hE hD h28 dX12_asks_71 ?_
        obtain ⟨r29, k30, hF⟩ := xb_s hF
        refine kSz (As := [.int y2, .int (u.2.1 0 (x27 + (0 : Int32)).toNatClampNeg)]) (rest := []) hE hl hD (c_X12_isUnder k30) kl_X12_97 rfl rfl (Nat.le_of_ble_eq_true rfl) dX12_asks_72 ⟨Nat.le_of_ble_eq_true rfl, Nat.le_of_ble_eq_true rfl⟩ ⟨Nat.le_of_ble_eq_true rfl, Nat.le_of_ble_eq_true rfl⟩ (fun H locs z31 (hD : mD G _ _ b u sz H locs) => ?_)
        refine lv_if_eq (tgt := 102) hx hb dX12_asks_75 (by decide) (fun c32 => ?_) (fun c32 => ?_)
        · have hF := ite_p hF c32
          exact B_X12_asks_j102 hE (F_X12_asks_l37 nn) ih hD (lv_sub hl [1, 2, 3, 4, 7, 0] rfl) hF
        · have hF := ite_n hF c32
          refine lv_aload_n hx hb dX12_asks_78 rfl (lv_at hl 1 rfl) ?_
          refine lv_iload hx hb dX12_asks_79 (lv_at hl 6 rfl) ?_
          refine lv_aload_n hx hb dX12_asks_81 rfl (lv_at hl 1 rfl) ?_
          refine gf_X12_7 hE hD dX12_asks_82 ?_
          refine lv_iload hx hb dX12_asks_85 (lv_at hl 0 rfl) ?_
          refine lv_iconst (v := (3 : Int32)) hx hb dX12_asks_87 (by decide) ?_
          refine lv_iadd hx hb dX12_asks_88 ?_
          obtain ⟨h33, hF⟩ := ite_s hF
          refine ma_ld_0 hE hD h33 dX12_asks_89 ?_
          refine lv_iload_n hx hb dX12_asks_90 rfl (lv_at hl 2 rfl) ?_
          obtain ⟨r34, k35, hF⟩ := xb_s hF
          refine kVz (As := [.int y5, .int (u.2.1 0 (x27 + (3 : Int32)).toNatClampNeg), .int y1]) (rest := []) hE hl hD (c_X12_holds (b := b) k35) kl_X12_100 (mW_0 _ _ _) rfl rfl rfl rfl (Nat.le_of_ble_eq_true rfl) dX12_asks_91 ⟨Nat.le_of_ble_eq_true rfl, Nat.le_of_ble_eq_true rfl⟩ ⟨Nat.le_of_ble_eq_true rfl, Nat.le_of_ble_eq_true rfl⟩ (fun H locs z36 (hD : mD G _ _ b r34.2 sz H locs) => ?_)
          refine lv_if_eq (tgt := 102) hx hb dX12_asks_94 (by decide) (fun c37 => ?_) (fun c37 => ?_)
          · have hF := ite_p hF c37
            exact B_X12_asks_j102 hE (F_X12_asks_l37 nn) ih hD (lv_sub hl [1, 2, 3, 4, 7, 0] rfl) hF
          · have hF := ite_n hF c37
            refine lv_iload hx hb dX12_asks_97 (lv_at hl 0 rfl) ?_
            refine lv_goto (tgt := 103) hx hb dX12_asks_99 (by decide) ?_
            exact B_X12_asks_j103 hE (F_X12_asks_l37 nn) ih hD (lv_sub hl [1, 2, 3, 4, 7, 0] rfl) hF
def F_X12_asks_j27 (u : xS) (y1 : Int32) (y2 : Int32) (s0 : Int32) : Option (xS) := F_X12_asks_l37 xFuel u y1 y2 s0 (-1 : Int32) (0 : Int32) (0 : Int32)
theorem B_X12_asks_j27 {p : Program} {l : Launch} {e : Env} {s : State} {m : MethodId} {args : Array Value} {below : List Frame} {meth : Method} {cd : Code} {G : xG} {w0 : xW} {b sz : Nat} {rr : (xS)} (hE : xE p s m args meth cd cX12_asks RX12 G 8 (Option.none : Option Jvm.ClassFile.FieldType)) {u : xS} {y1 : Int32} {y2 : Int32} {s0 : Int32} {H : Heap} {locs : List Loc} {ls : Array Slot} (hD : mD G (xA w0 s.heap.size) s.heap b u sz H locs) (hl : lv_has ls 8 [(0, .ref b), (1, .int y1), (2, .int y2)]) (hF : F_X12_asks_j27 u y1 y2 s0 = some rr) : W p l e (xR 5 0 0) s m args below meth cd H locs 0 0 (xQv G w0 (fun z => z = ((mW G b rr), sz)) below args s 0 0) (F0 m 27 ls [.int s0]) := by
  have hx := hE.1; have hb := hE.2.1
  unfold F_X12_asks_j27 at hF
  refine lv_istore_n (lv' := [(3, .int s0), (0, .ref b), (1, .int y1), (2, .int y2)]) hx hb dX12_asks_27 rfl hl (by decide) rfl (fun ls hl => ?_)
  refine lv_iconst (v := (-1 : Int32)) hx hb dX12_asks_28 (by decide) ?_
  refine lv_istore (lv' := [(4, .int (-1 : Int32)), (3, .int s0), (0, .ref b), (1, .int y1), (2, .int y2)]) hx hb dX12_asks_29 hl (by decide) rfl (fun ls hl => ?_)
  refine lv_iconst (v := (0 : Int32)) hx hb dX12_asks_31 (by decide) ?_
  refine lv_istore (lv' := [(5, .int (0 : Int32)), (4, .int (-1 : Int32)), (3, .int s0), (0, .ref b), (1, .int y1), (2, .int y2)]) hx hb dX12_asks_32 hl (by decide) rfl (fun ls hl => ?_)
  refine lv_iconst (v := (0 : Int32)) hx hb dX12_asks_34 (by decide) ?_
  refine lv_istore (lv' := [(6, .int (0 : Int32)), (5, .int (0 : Int32)), (4, .int (-1 : Int32)), (3, .int s0), (0, .ref b), (1, .int y1), (2, .int y2)]) hx hb dX12_asks_35 hl (by decide) rfl (fun ls hl => ?_)
  exact L_X12_asks_l37 hE _ hD (lv_sub hl [4, 5, 6, 3, 2, 1, 0] rfl) hF
def F_X12_asks (u : xS) (xa : Int32) : Option (xS) := (F_X12_its u xa (0 : Int32)).bind (fun r38 => if xIn (3 : Int32) 303 then (F_X12_its u xa (3 : Int32)).bind (fun r41 => if (u.2.1 0 (3 : Int32).toNatClampNeg) = r41 then F_X12_asks_j27 u xa r38 (1 : Int32) else F_X12_asks_j27 u xa r38 (0 : Int32)) else none)
theorem c_X12_asks {l : Launch} {G : xG} {b sz : Nat} {rr : (xS)} {u : xS} {xa : Int32} (hF : F_X12_asks u xa = some rr) : xMv l G yX12_asks cX12_asks 8 (Option.none : Option Jvm.ClassFile.FieldType) 5 0 0 [.ref b, .int xa] (mW G b u) sz (fun z => z = ((mW G b rr), sz)) := by
  unfold F_X12_asks at hF
  refine x_startV rfl (Nat.le_of_ble_eq_true rfl) (fun p e s m args below meth cd ls hE hnm hl hD => ?_)
  have hx := hE.1; have hb := hE.2.1
  have hl : lv_has ls 8 [(0, .ref b), (1, .int xa)] := hl
  have hD : mD G (xA (mW G b u) s.heap.size) s.heap b u sz s.heap [] := hD
  refine lv_aload_n hx hb dX12_asks_0 rfl (lv_at hl 0 rfl) ?_
  refine lv_iload_n hx hb dX12_asks_1 rfl (lv_at hl 1 rfl) ?_
  refine lv_iconst (v := (0 : Int32)) hx hb dX12_asks_2 (by decide) ?_
  obtain ⟨r38, k39, hF⟩ := xb_s hF
  refine kVi (As := [.int xa, .int (0 : Int32)]) (rest := []) hE hl hD (c_X12_its (b := b) k39) kl_X12_87 (mW_0 _ _ _) rfl rfl rfl rfl (Nat.le_of_ble_eq_true rfl) dX12_asks_3 ⟨Nat.le_of_ble_eq_true rfl, Nat.le_of_ble_eq_true rfl⟩ ⟨Nat.le_of_ble_eq_true rfl, Nat.le_of_ble_eq_true rfl⟩ (fun H locs (hD : mD G _ _ b u sz H locs) => ?_)
  refine lv_istore_n (lv' := [(2, .int r38), (0, .ref b), (1, .int xa)]) hx hb dX12_asks_6 rfl hl (by decide) rfl (fun ls hl => ?_)
  refine lv_aload_n hx hb dX12_asks_7 rfl (lv_at hl 1 rfl) ?_
  refine gf_X12_7 hE hD dX12_asks_8 ?_
  refine lv_iconst (v := (3 : Int32)) hx hb dX12_asks_11 (by decide) ?_
  obtain ⟨h40, hF⟩ := ite_s hF
  refine ma_ld_0 hE hD h40 dX12_asks_12 ?_
  refine lv_aload_n hx hb dX12_asks_13 rfl (lv_at hl 1 rfl) ?_
  refine lv_iload_n hx hb dX12_asks_14 rfl (lv_at hl 2 rfl) ?_
  refine lv_iconst (v := (3 : Int32)) hx hb dX12_asks_15 (by decide) ?_
  obtain ⟨r41, k42, hF⟩ := xb_s hF
  refine kVi (As := [.int xa, .int (3 : Int32)]) (rest := [.int (u.2.1 0 (3 : Int32).toNatClampNeg)]) hE hl hD (c_X12_its (b := b) k42) kl_X12_87 (mW_0 _ _ _) rfl rfl rfl rfl (Nat.le_of_ble_eq_true rfl) dX12_asks_16 ⟨Nat.le_of_ble_eq_true rfl, Nat.le_of_ble_eq_true rfl⟩ ⟨Nat.le_of_ble_eq_true rfl, Nat.le_of_ble_eq_true rfl⟩ (fun H locs (hD : mD G _ _ b u sz H locs) => ?_)
  refine lv_icmp_ne (tgt := 26) hx hb dX12_asks_19 (by decide) (fun c43 => ?_) (fun c43 => ?_)
  · have hF := ite_n hF c43
    refine lv_iconst (v := (0 : Int32)) hx hb dX12_asks_26 (by decide) ?_
    exact B_X12_asks_j27 hE hD (lv_sub hl [1, 2, 0] rfl) hF
  · have hF := ite_p hF c43
    refine lv_iconst (v := (1 : Int32)) hx hb dX12_asks_22 (by decide) ?_
    refine lv_goto (tgt := 27) hx hb dX12_asks_23 (by decide) ?_
    exact B_X12_asks_j27 hE hD (lv_sub hl [1, 2, 0] rfl) hF
def F_X12_bridgeOf_j77 (u : xS) (s0 : Int32) : Option (Int32 × xS) := some (s0, u)
theorem B_X12_bridgeOf_j77 {p : Program} {l : Launch} {e : Env} {s : State} {m : MethodId} {args : Array Value} {below : List Frame} {meth : Method} {cd : Code} {G : xG} {w0 : xW} {b sz : Nat} {rr : (Int32 × xS)} (hE : xE p s m args meth cd cX12_bridgeOf RX12 G 3 (Option.some Jvm.ClassFile.FieldType.int)) {u : xS} {s0 : Int32} {H : Heap} {locs : List Loc} {ls : Array Slot} (hD : mD G (xA w0 s.heap.size) s.heap b u sz H locs) (hl : lv_has ls 3 [(0, .ref b)]) (hF : F_X12_bridgeOf_j77 u s0 = some rr) : W p l e (xR 6 0 0) s m args below meth cd H locs 0 0 (xQi G w0 (fun r z => r = rr.1 ∧ z = ((mW G b rr.2), sz)) below args s 0 0) (F0 m 77 ls [.int s0]) := by
  have hx := hE.1; have hb := hE.2.1
  unfold F_X12_bridgeOf_j77 at hF
  obtain rfl := Option.some.inj hF
  exact x_iret hE hD ⟨rfl, rfl⟩ (by omega) (by omega) dX12_bridgeOf_77
def F_X12_bridgeOf_j20 (u : xS)  : Option (Int32 × xS) := some ((-1 : Int32), u)
theorem B_X12_bridgeOf_j20 {p : Program} {l : Launch} {e : Env} {s : State} {m : MethodId} {args : Array Value} {below : List Frame} {meth : Method} {cd : Code} {G : xG} {w0 : xW} {b sz : Nat} {rr : (Int32 × xS)} (hE : xE p s m args meth cd cX12_bridgeOf RX12 G 3 (Option.some Jvm.ClassFile.FieldType.int)) {u : xS}  {H : Heap} {locs : List Loc} {ls : Array Slot} (hD : mD G (xA w0 s.heap.size) s.heap b u sz H locs) (hl : lv_has ls 3 [(0, .ref b)]) (hF : F_X12_bridgeOf_j20 u  = some rr) : W p l e (xR 6 0 0) s m args below meth cd H locs 0 0 (xQi G w0 (fun r z => r = rr.1 ∧ z = ((mW G b rr.2), sz)) below args s 0 0) (F0 m 20 ls []) := by
  have hx := hE.1; have hb := hE.2.1
  unfold F_X12_bridgeOf_j20 at hF
  refine lv_iconst (v := (-1 : Int32)) hx hb dX12_bridgeOf_20 (by decide) ?_
  obtain rfl := Option.some.inj hF
  exact x_iret hE hD ⟨rfl, rfl⟩ (by omega) (by omega) dX12_bridgeOf_21
def F_X12_bridgeOf (u : xS) (xa : Int32) (xb : Int32) : Option (Int32 × xS) := (F_X12_isBridge u xa).bind (fun r1 => if r1 = 0 then F_X12_bridgeOf_j20 u else (F_X12_in xb.toInt64 (0 : Int64) (6 : Int64)).bind (fun r5 => if r5 = 0 then F_X12_bridgeOf_j20 u else (F_X12_asks u xa).bind (fun r9 => if (4 : Int32) ≤ xb then if xb = (4 : Int32) then F_X12_bridgeOf_j77 r9 (r9.1 5) else if xb = (5 : Int32) then F_X12_bridgeOf_j77 r9 (r9.1 6) else if (r9.1 7) = 0 then F_X12_bridgeOf_j77 r9 (0 : Int32) else F_X12_bridgeOf_j77 r9 (1 : Int32) else (F_X12_its r9 xa xb).bind (fun r15 => F_X12_bridgeOf_j77 r9 r15))))
theorem c_X12_bridgeOf {l : Launch} {G : xG} {b sz : Nat} {rr : (Int32 × xS)} {u : xS} {xa : Int32} {xb : Int32} (hF : F_X12_bridgeOf u xa xb = some rr) : xMi l G yX12_bridgeOf cX12_bridgeOf 3 (Option.some Jvm.ClassFile.FieldType.int) 6 0 0 [.ref b, .int xa, .int xb] (mW G b u) sz (fun r z => r = rr.1 ∧ z = ((mW G b rr.2), sz)) := by
  unfold F_X12_bridgeOf at hF
  refine x_startI rfl (Nat.le_of_ble_eq_true rfl) (fun p e s m args below meth cd ls hE hnm hl hD => ?_)
  have hx := hE.1; have hb := hE.2.1
  have hl : lv_has ls 3 [(0, .ref b), (1, .int xa), (2, .int xb)] := hl
  have hD : mD G (xA (mW G b u) s.heap.size) s.heap b u sz s.heap [] := hD
  refine lv_aload_n hx hb dX12_bridgeOf_0 rfl (lv_at hl 0 rfl) ?_
  refine lv_iload_n hx hb dX12_bridgeOf_1 rfl (lv_at hl 1 rfl) ?_
  obtain ⟨r1, k2, hF⟩ := xb_s hF
  refine kVz (As := [.int xa]) (rest := []) hE hl hD (c_X12_isBridge (b := b) k2) kl_X12_114 (mW_0 _ _ _) rfl rfl rfl rfl (Nat.le_of_ble_eq_true rfl) dX12_bridgeOf_2 ⟨Nat.le_of_ble_eq_true rfl, Nat.le_of_ble_eq_true rfl⟩ ⟨Nat.le_of_ble_eq_true rfl, Nat.le_of_ble_eq_true rfl⟩ (fun H locs z3 (hD : mD G _ _ b u sz H locs) => ?_)
  refine lv_if_eq (tgt := 20) hx hb dX12_bridgeOf_5 (by decide) (fun c4 => ?_) (fun c4 => ?_)
  · have hF := ite_p hF c4
    exact B_X12_bridgeOf_j20 hE hD (lv_sub hl [0] rfl) hF
  · have hF := ite_n hF c4
    refine lv_iload_n hx hb dX12_bridgeOf_8 rfl (lv_at hl 2 rfl) ?_
    refine lv_i2l (v := xb.toInt64) hx hb dX12_bridgeOf_9 rfl ?_
    refine lv_lconst (v := (0 : Int64)) hx hb dX12_bridgeOf_10 (by decide) ?_
    refine lv_ldc2 (v := (6 : Int64)) hx hb hE.2.2.1 (hE.2.2.2.1 _ kw6_59) dX12_bridgeOf_11 ?_
    obtain ⟨r5, k6, hF⟩ := xb_s hF
    refine kSz (As := [.long xb.toInt64, .long (0 : Int64), .long (6 : Int64)]) (rest := []) hE hl hD (c_X12_in k6) kl_X12_67 rfl rfl (Nat.le_of_ble_eq_true rfl) dX12_bridgeOf_14 ⟨Nat.le_of_ble_eq_true rfl, Nat.le_of_ble_eq_true rfl⟩ ⟨Nat.le_of_ble_eq_true rfl, Nat.le_of_ble_eq_true rfl⟩ (fun H locs z7 (hD : mD G _ _ b u sz H locs) => ?_)
    refine lv_if_ne (tgt := 22) hx hb dX12_bridgeOf_17 (by decide) (fun c8 => ?_) (fun c8 => ?_)
    · have hF := ite_n hF c8
      refine lv_aload_n hx hb dX12_bridgeOf_22 rfl (lv_at hl 0 rfl) ?_
      refine lv_iload_n hx hb dX12_bridgeOf_23 rfl (lv_at hl 1 rfl) ?_
      obtain ⟨r9, k10, hF⟩ := xb_s hF
      refine kVv (As := [.int xa]) (rest := []) hE hl hD (c_X12_asks (b := b) k10) kl_X12_118 (mW_0 _ _ _) rfl rfl rfl rfl (Nat.le_of_ble_eq_true rfl) dX12_bridgeOf_24 ⟨Nat.le_of_ble_eq_true rfl, Nat.le_of_ble_eq_true rfl⟩ ⟨Nat.le_of_ble_eq_true rfl, Nat.le_of_ble_eq_true rfl⟩ (fun H locs (hD : mD G _ _ b r9 sz H locs) => ?_)
      refine lv_iload_n hx hb dX12_bridgeOf_27 rfl (lv_at hl 2 rfl) ?_
      refine lv_iconst (v := (4 : Int32)) hx hb dX12_bridgeOf_28 (by decide) ?_
      refine lv_icmp_ge (tgt := 41) hx hb dX12_bridgeOf_29 (by decide) (fun c11 => ?_) (fun c11 => ?_)
      · have hF := ite_p hF c11
        refine lv_iload_n hx hb dX12_bridgeOf_41 rfl (lv_at hl 2 rfl) ?_
        refine lv_iconst (v := (4 : Int32)) hx hb dX12_bridgeOf_42 (by decide) ?_
        refine lv_icmp_ne (tgt := 53) hx hb dX12_bridgeOf_43 (by decide) (fun c12 => ?_) (fun c12 => ?_)
        · have hF := ite_n hF c12
          refine lv_iload_n hx hb dX12_bridgeOf_53 rfl (lv_at hl 2 rfl) ?_
          refine lv_iconst (v := (5 : Int32)) hx hb dX12_bridgeOf_54 (by decide) ?_
          refine lv_icmp_ne (tgt := 65) hx hb dX12_bridgeOf_55 (by decide) (fun c13 => ?_) (fun c13 => ?_)
          · have hF := ite_n hF c13
            refine lv_aload_n hx hb dX12_bridgeOf_65 rfl (lv_at hl 0 rfl) ?_
            refine gf_X12_110 hE hD dX12_bridgeOf_66 ?_
            refine lv_if_eq (tgt := 76) hx hb dX12_bridgeOf_69 (by decide) (fun c14 => ?_) (fun c14 => ?_)
            · have hF := ite_p hF c14
              refine lv_iconst (v := (0 : Int32)) hx hb dX12_bridgeOf_76 (by decide) ?_
              exact B_X12_bridgeOf_j77 hE hD (lv_sub hl [0] rfl) hF
            · have hF := ite_n hF c14
              refine lv_iconst (v := (1 : Int32)) hx hb dX12_bridgeOf_72 (by decide) ?_
              refine lv_goto (tgt := 77) hx hb dX12_bridgeOf_73 (by decide) ?_
              exact B_X12_bridgeOf_j77 hE hD (lv_sub hl [0] rfl) hF
          · have hF := ite_p hF c13
            refine lv_aload_n hx hb dX12_bridgeOf_58 rfl (lv_at hl 0 rfl) ?_
            refine gf_X12_107 hE hD dX12_bridgeOf_59 ?_
            refine lv_goto (tgt := 77) hx hb dX12_bridgeOf_62 (by decide) ?_
            exact B_X12_bridgeOf_j77 hE hD (lv_sub hl [0] rfl) hF
        · have hF := ite_p hF c12
          refine lv_aload_n hx hb dX12_bridgeOf_46 rfl (lv_at hl 0 rfl) ?_
          refine gf_X12_103 hE hD dX12_bridgeOf_47 ?_
          refine lv_goto (tgt := 77) hx hb dX12_bridgeOf_50 (by decide) ?_
          exact B_X12_bridgeOf_j77 hE hD (lv_sub hl [0] rfl) hF
      · have hF := ite_n hF c11
        refine lv_aload_n hx hb dX12_bridgeOf_32 rfl (lv_at hl 0 rfl) ?_
        refine lv_iload_n hx hb dX12_bridgeOf_33 rfl (lv_at hl 1 rfl) ?_
        refine lv_iload_n hx hb dX12_bridgeOf_34 rfl (lv_at hl 2 rfl) ?_
        obtain ⟨r15, k16, hF⟩ := xb_s hF
        refine kVi (As := [.int xa, .int xb]) (rest := []) hE hl hD (c_X12_its (b := b) k16) kl_X12_87 (mW_0 _ _ _) rfl rfl rfl rfl (Nat.le_of_ble_eq_true rfl) dX12_bridgeOf_35 ⟨Nat.le_of_ble_eq_true rfl, Nat.le_of_ble_eq_true rfl⟩ ⟨Nat.le_of_ble_eq_true rfl, Nat.le_of_ble_eq_true rfl⟩ (fun H locs (hD : mD G _ _ b r9 sz H locs) => ?_)
        refine lv_goto (tgt := 77) hx hb dX12_bridgeOf_38 (by decide) ?_
        exact B_X12_bridgeOf_j77 hE hD (lv_sub hl [0] rfl) hF
    · have hF := ite_p hF c8
      exact B_X12_bridgeOf_j20 hE hD (lv_sub hl [0] rfl) hF
def F_X12_change_j16 (u : xS)  : Option (Int32 × xS) := some ((-1 : Int32), u)
theorem B_X12_change_j16 {p : Program} {l : Launch} {e : Env} {s : State} {m : MethodId} {args : Array Value} {below : List Frame} {meth : Method} {cd : Code} {G : xG} {w0 : xW} {b sz : Nat} {rr : (Int32 × xS)} (hE : xE p s m args meth cd cX12_change RX12 G 5 (Option.some Jvm.ClassFile.FieldType.int)) {u : xS}  {H : Heap} {locs : List Loc} {ls : Array Slot} (hD : mD G (xA w0 s.heap.size) s.heap b u sz H locs) (hl : lv_has ls 5 [(0, .ref b)]) (hF : F_X12_change_j16 u  = some rr) : W p l e (xR 3 0 0) s m args below meth cd H locs 0 0 (xQi G w0 (fun r z => r = rr.1 ∧ z = ((mW G b rr.2), sz)) below args s 0 0) (F0 m 16 ls []) := by
  have hx := hE.1; have hb := hE.2.1
  unfold F_X12_change_j16 at hF
  refine lv_iconst (v := (-1 : Int32)) hx hb dX12_change_16 (by decide) ?_
  obtain rfl := Option.some.inj hF
  exact x_iret hE hD ⟨rfl, rfl⟩ (by omega) (by omega) dX12_change_17
def F_X12_change (u : xS) (xa : Int32) (xb : Int32) (xc : Int32) : Option (Int32 × xS) := (F_X12_isBridge u xa).bind (fun r1 => if r1 = 0 then F_X12_change_j16 u else (F_X12_isPart xb xc).bind (fun r5 => if r5 = 0 then F_X12_change_j16 u else (F_X12_its u xa xb).bind (fun r9 => (F_X12_at xa xb).bind (fun r11 => if xIn r11 303 then xlet (mA u 0 r11.toNatClampNeg xc) (fun u14 => some (r9, u14)) else none))))
theorem c_X12_change {l : Launch} {G : xG} {b sz : Nat} {rr : (Int32 × xS)} {u : xS} {xa : Int32} {xb : Int32} {xc : Int32} (hF : F_X12_change u xa xb xc = some rr) : xMi l G yX12_change cX12_change 5 (Option.some Jvm.ClassFile.FieldType.int) 3 0 0 [.ref b, .int xa, .int xb, .int xc] (mW G b u) sz (fun r z => r = rr.1 ∧ z = ((mW G b rr.2), sz)) := by
  unfold F_X12_change at hF
  refine x_startI rfl (Nat.le_of_ble_eq_true rfl) (fun p e s m args below meth cd ls hE hnm hl hD => ?_)
  have hx := hE.1; have hb := hE.2.1
  have hl : lv_has ls 5 [(0, .ref b), (1, .int xa), (2, .int xb), (3, .int xc)] := hl
  have hD : mD G (xA (mW G b u) s.heap.size) s.heap b u sz s.heap [] := hD
  refine lv_aload_n hx hb dX12_change_0 rfl (lv_at hl 0 rfl) ?_
  refine lv_iload_n hx hb dX12_change_1 rfl (lv_at hl 1 rfl) ?_
  obtain ⟨r1, k2, hF⟩ := xb_s hF
  refine kVz (As := [.int xa]) (rest := []) hE hl hD (c_X12_isBridge (b := b) k2) kl_X12_114 (mW_0 _ _ _) rfl rfl rfl rfl (Nat.le_of_ble_eq_true rfl) dX12_change_2 ⟨Nat.le_of_ble_eq_true rfl, Nat.le_of_ble_eq_true rfl⟩ ⟨Nat.le_of_ble_eq_true rfl, Nat.le_of_ble_eq_true rfl⟩ (fun H locs z3 (hD : mD G _ _ b u sz H locs) => ?_)
  refine lv_if_eq (tgt := 16) hx hb dX12_change_5 (by decide) (fun c4 => ?_) (fun c4 => ?_)
  · have hF := ite_p hF c4
    exact B_X12_change_j16 hE hD (lv_sub hl [0] rfl) hF
  · have hF := ite_n hF c4
    refine lv_iload_n hx hb dX12_change_8 rfl (lv_at hl 2 rfl) ?_
    refine lv_iload_n hx hb dX12_change_9 rfl (lv_at hl 3 rfl) ?_
    obtain ⟨r5, k6, hF⟩ := xb_s hF
    refine kSz (As := [.int xb, .int xc]) (rest := []) hE hl hD (c_X12_isPart k6) kl_X12_83 rfl rfl (Nat.le_of_ble_eq_true rfl) dX12_change_10 ⟨Nat.le_of_ble_eq_true rfl, Nat.le_of_ble_eq_true rfl⟩ ⟨Nat.le_of_ble_eq_true rfl, Nat.le_of_ble_eq_true rfl⟩ (fun H locs z7 (hD : mD G _ _ b u sz H locs) => ?_)
    refine lv_if_ne (tgt := 18) hx hb dX12_change_13 (by decide) (fun c8 => ?_) (fun c8 => ?_)
    · have hF := ite_n hF c8
      refine lv_aload_n hx hb dX12_change_18 rfl (lv_at hl 0 rfl) ?_
      refine lv_iload_n hx hb dX12_change_19 rfl (lv_at hl 1 rfl) ?_
      refine lv_iload_n hx hb dX12_change_20 rfl (lv_at hl 2 rfl) ?_
      obtain ⟨r9, k10, hF⟩ := xb_s hF
      refine kVi (As := [.int xa, .int xb]) (rest := []) hE hl hD (c_X12_its (b := b) k10) kl_X12_87 (mW_0 _ _ _) rfl rfl rfl rfl (Nat.le_of_ble_eq_true rfl) dX12_change_21 ⟨Nat.le_of_ble_eq_true rfl, Nat.le_of_ble_eq_true rfl⟩ ⟨Nat.le_of_ble_eq_true rfl, Nat.le_of_ble_eq_true rfl⟩ (fun H locs (hD : mD G _ _ b u sz H locs) => ?_)
      refine lv_istore (lv' := [(4, .int r9), (0, .ref b), (1, .int xa), (2, .int xb), (3, .int xc)]) hx hb dX12_change_24 hl (by decide) rfl (fun ls hl => ?_)
      refine lv_aload_n hx hb dX12_change_26 rfl (lv_at hl 1 rfl) ?_
      refine gf_X12_7 hE hD dX12_change_27 ?_
      refine lv_iload_n hx hb dX12_change_30 rfl (lv_at hl 2 rfl) ?_
      refine lv_iload_n hx hb dX12_change_31 rfl (lv_at hl 3 rfl) ?_
      obtain ⟨r11, k12, hF⟩ := xb_s hF
      refine kSi (As := [.int xa, .int xb]) (rest := [.ref (b + 1)]) hE hl hD (c_X12_at k12) kl_X12_71 rfl rfl (Nat.le_of_ble_eq_true rfl) dX12_change_32 ⟨Nat.le_of_ble_eq_true rfl, Nat.le_of_ble_eq_true rfl⟩ ⟨Nat.le_of_ble_eq_true rfl, Nat.le_of_ble_eq_true rfl⟩ (fun H locs (hD : mD G _ _ b u sz H locs) => ?_)
      refine lv_iload_n hx hb dX12_change_35 rfl (lv_at hl 4 rfl) ?_
      obtain ⟨h13, hF⟩ := ite_s hF
      refine ma_st_0 hE hD h13 dX12_change_36 (fun u14 H locs eu14 hD => ?_)
      have hF := xlet_e hF eu14
      refine lv_iload hx hb dX12_change_37 (lv_at hl 0 rfl) ?_
      obtain rfl := Option.some.inj hF
      exact x_iret hE hD ⟨rfl, rfl⟩ (by omega) (by omega) dX12_change_39
    · have hF := ite_p hF c8
      exact B_X12_change_j16 hE hD (lv_sub hl [0] rfl) hF
def F_X12_mend_j20 (u : xS)  : Option (Int32 × xS) := some ((-1 : Int32), u)
theorem B_X12_mend_j20 {p : Program} {l : Launch} {e : Env} {s : State} {m : MethodId} {args : Array Value} {below : List Frame} {meth : Method} {cd : Code} {G : xG} {w0 : xW} {b sz : Nat} {rr : (Int32 × xS)} (hE : xE p s m args meth cd cX12_mend RX12 G 4 (Option.some Jvm.ClassFile.FieldType.int)) {u : xS}  {H : Heap} {locs : List Loc} {ls : Array Slot} (hD : mD G (xA w0 s.heap.size) s.heap b u sz H locs) (hl : lv_has ls 4 [(0, .ref b)]) (hF : F_X12_mend_j20 u  = some rr) : W p l e (xR 3 0 0) s m args below meth cd H locs 0 0 (xQi G w0 (fun r z => r = rr.1 ∧ z = ((mW G b rr.2), sz)) below args s 0 0) (F0 m 20 ls []) := by
  have hx := hE.1; have hb := hE.2.1
  unfold F_X12_mend_j20 at hF
  refine lv_iconst (v := (-1 : Int32)) hx hb dX12_mend_20 (by decide) ?_
  obtain rfl := Option.some.inj hF
  exact x_iret hE hD ⟨rfl, rfl⟩ (by omega) (by omega) dX12_mend_21
def F_X12_mend (u : xS) (xa : Int32) (xb : Int32) : Option (Int32 × xS) := (F_X12_isBridge u xa).bind (fun r1 => if r1 = 0 then F_X12_mend_j20 u else (F_X12_in xb.toInt64 (1 : Int64) (5 : Int64)).bind (fun r5 => if r5 = 0 then F_X12_mend_j20 u else (F_X12_its u xa (0 : Int32)).bind (fun r9 => (F_X12_at xa (0 : Int32)).bind (fun r11 => if xIn r11 303 then xlet (mA u 0 r11.toNatClampNeg xb) (fun u14 => some (r9, u14)) else none))))
theorem c_X12_mend {l : Launch} {G : xG} {b sz : Nat} {rr : (Int32 × xS)} {u : xS} {xa : Int32} {xb : Int32} (hF : F_X12_mend u xa xb = some rr) : xMi l G yX12_mend cX12_mend 4 (Option.some Jvm.ClassFile.FieldType.int) 3 0 0 [.ref b, .int xa, .int xb] (mW G b u) sz (fun r z => r = rr.1 ∧ z = ((mW G b rr.2), sz)) := by
  unfold F_X12_mend at hF
  refine x_startI rfl (Nat.le_of_ble_eq_true rfl) (fun p e s m args below meth cd ls hE hnm hl hD => ?_)
  have hx := hE.1; have hb := hE.2.1
  have hl : lv_has ls 4 [(0, .ref b), (1, .int xa), (2, .int xb)] := hl
  have hD : mD G (xA (mW G b u) s.heap.size) s.heap b u sz s.heap [] := hD
  refine lv_aload_n hx hb dX12_mend_0 rfl (lv_at hl 0 rfl) ?_
  refine lv_iload_n hx hb dX12_mend_1 rfl (lv_at hl 1 rfl) ?_
  obtain ⟨r1, k2, hF⟩ := xb_s hF
  refine kVz (As := [.int xa]) (rest := []) hE hl hD (c_X12_isBridge (b := b) k2) kl_X12_114 (mW_0 _ _ _) rfl rfl rfl rfl (Nat.le_of_ble_eq_true rfl) dX12_mend_2 ⟨Nat.le_of_ble_eq_true rfl, Nat.le_of_ble_eq_true rfl⟩ ⟨Nat.le_of_ble_eq_true rfl, Nat.le_of_ble_eq_true rfl⟩ (fun H locs z3 (hD : mD G _ _ b u sz H locs) => ?_)
  refine lv_if_eq (tgt := 20) hx hb dX12_mend_5 (by decide) (fun c4 => ?_) (fun c4 => ?_)
  · have hF := ite_p hF c4
    exact B_X12_mend_j20 hE hD (lv_sub hl [0] rfl) hF
  · have hF := ite_n hF c4
    refine lv_iload_n hx hb dX12_mend_8 rfl (lv_at hl 2 rfl) ?_
    refine lv_i2l (v := xb.toInt64) hx hb dX12_mend_9 rfl ?_
    refine lv_lconst (v := (1 : Int64)) hx hb dX12_mend_10 (by decide) ?_
    refine lv_ldc2 (v := (5 : Int64)) hx hb hE.2.2.1 (hE.2.2.2.1 _ kw6_50) dX12_mend_11 ?_
    obtain ⟨r5, k6, hF⟩ := xb_s hF
    refine kSz (As := [.long xb.toInt64, .long (1 : Int64), .long (5 : Int64)]) (rest := []) hE hl hD (c_X12_in k6) kl_X12_67 rfl rfl (Nat.le_of_ble_eq_true rfl) dX12_mend_14 ⟨Nat.le_of_ble_eq_true rfl, Nat.le_of_ble_eq_true rfl⟩ ⟨Nat.le_of_ble_eq_true rfl, Nat.le_of_ble_eq_true rfl⟩ (fun H locs z7 (hD : mD G _ _ b u sz H locs) => ?_)
    refine lv_if_ne (tgt := 22) hx hb dX12_mend_17 (by decide) (fun c8 => ?_) (fun c8 => ?_)
    · have hF := ite_n hF c8
      refine lv_aload_n hx hb dX12_mend_22 rfl (lv_at hl 0 rfl) ?_
      refine lv_iload_n hx hb dX12_mend_23 rfl (lv_at hl 1 rfl) ?_
      refine lv_iconst (v := (0 : Int32)) hx hb dX12_mend_24 (by decide) ?_
      obtain ⟨r9, k10, hF⟩ := xb_s hF
      refine kVi (As := [.int xa, .int (0 : Int32)]) (rest := []) hE hl hD (c_X12_its (b := b) k10) kl_X12_87 (mW_0 _ _ _) rfl rfl rfl rfl (Nat.le_of_ble_eq_true rfl) dX12_mend_25 ⟨Nat.le_of_ble_eq_true rfl, Nat.le_of_ble_eq_true rfl⟩ ⟨Nat.le_of_ble_eq_true rfl, Nat.le_of_ble_eq_true rfl⟩ (fun H locs (hD : mD G _ _ b u sz H locs) => ?_)
      refine lv_istore_n (lv' := [(3, .int r9), (0, .ref b), (1, .int xa), (2, .int xb)]) hx hb dX12_mend_28 rfl hl (by decide) rfl (fun ls hl => ?_)
      refine lv_aload_n hx hb dX12_mend_29 rfl (lv_at hl 1 rfl) ?_
      refine gf_X12_7 hE hD dX12_mend_30 ?_
      refine lv_iload_n hx hb dX12_mend_33 rfl (lv_at hl 2 rfl) ?_
      refine lv_iconst (v := (0 : Int32)) hx hb dX12_mend_34 (by decide) ?_
      obtain ⟨r11, k12, hF⟩ := xb_s hF
      refine kSi (As := [.int xa, .int (0 : Int32)]) (rest := [.ref (b + 1)]) hE hl hD (c_X12_at k12) kl_X12_71 rfl rfl (Nat.le_of_ble_eq_true rfl) dX12_mend_35 ⟨Nat.le_of_ble_eq_true rfl, Nat.le_of_ble_eq_true rfl⟩ ⟨Nat.le_of_ble_eq_true rfl, Nat.le_of_ble_eq_true rfl⟩ (fun H locs (hD : mD G _ _ b u sz H locs) => ?_)
      refine lv_iload_n hx hb dX12_mend_38 rfl (lv_at hl 3 rfl) ?_
      obtain ⟨h13, hF⟩ := ite_s hF
      refine ma_st_0 hE hD h13 dX12_mend_39 (fun u14 H locs eu14 hD => ?_)
      have hF := xlet_e hF eu14
      refine lv_iload_n hx hb dX12_mend_40 rfl (lv_at hl 0 rfl) ?_
      obtain rfl := Option.some.inj hF
      exact x_iret hE hD ⟨rfl, rfl⟩ (by omega) (by omega) dX12_mend_41
    · have hF := ite_p hF c8
      exact B_X12_mend_j20 hE hD (lv_sub hl [0] rfl) hF
def F_X12_day (u : xS) (xa : Int32) : Option (Int32 × xS) := (F_X12_in xa.toInt64 (0 : Int64) (6 : Int64)).bind (fun r1 => if r1 = 0 then some ((-1 : Int32), u) else if xIn (3 : Int32) 303 then xlet (u.2.1 0 (3 : Int32).toNatClampNeg) (fun x6 => if xIn (3 : Int32) 303 then xlet (mA u 0 (3 : Int32).toNatClampNeg xa) (fun u8 => some (x6, u8)) else none) else none)
theorem c_X12_day {l : Launch} {G : xG} {b sz : Nat} {rr : (Int32 × xS)} {u : xS} {xa : Int32} (hF : F_X12_day u xa = some rr) : xMi l G yX12_day cX12_day 3 (Option.some Jvm.ClassFile.FieldType.int) 2 0 0 [.ref b, .int xa] (mW G b u) sz (fun r z => r = rr.1 ∧ z = ((mW G b rr.2), sz)) := by
  unfold F_X12_day at hF
  refine x_startI rfl (Nat.le_of_ble_eq_true rfl) (fun p e s m args below meth cd ls hE hnm hl hD => ?_)
  have hx := hE.1; have hb := hE.2.1
  have hl : lv_has ls 3 [(0, .ref b), (1, .int xa)] := hl
  have hD : mD G (xA (mW G b u) s.heap.size) s.heap b u sz s.heap [] := hD
  refine lv_iload_n hx hb dX12_day_0 rfl (lv_at hl 1 rfl) ?_
  refine lv_i2l (v := xa.toInt64) hx hb dX12_day_1 rfl ?_
  refine lv_lconst (v := (0 : Int64)) hx hb dX12_day_2 (by decide) ?_
  refine lv_ldc2 (v := (6 : Int64)) hx hb hE.2.2.1 (hE.2.2.2.1 _ kw6_59) dX12_day_3 ?_
  obtain ⟨r1, k2, hF⟩ := xb_s hF
  refine kSz (As := [.long xa.toInt64, .long (0 : Int64), .long (6 : Int64)]) (rest := []) hE hl hD (c_X12_in k2) kl_X12_67 rfl rfl (Nat.le_of_ble_eq_true rfl) dX12_day_6 ⟨Nat.le_of_ble_eq_true rfl, Nat.le_of_ble_eq_true rfl⟩ ⟨Nat.le_of_ble_eq_true rfl, Nat.le_of_ble_eq_true rfl⟩ (fun H locs z3 (hD : mD G _ _ b u sz H locs) => ?_)
  refine lv_if_ne (tgt := 14) hx hb dX12_day_9 (by decide) (fun c4 => ?_) (fun c4 => ?_)
  · have hF := ite_n hF c4
    refine lv_aload_n hx hb dX12_day_14 rfl (lv_at hl 0 rfl) ?_
    refine gf_X12_7 hE hD dX12_day_15 ?_
    refine lv_iconst (v := (3 : Int32)) hx hb dX12_day_18 (by decide) ?_
    obtain ⟨h5, hF⟩ := ite_s hF
    refine ma_ld_0 hE hD h5 dX12_day_19 ?_
    refine lv_topi (fun x6 ex6 => ?_)
    have hF := xlet_e hF ex6
    refine lv_istore_n (lv' := [(2, .int x6), (0, .ref b), (1, .int xa)]) hx hb dX12_day_20 rfl hl (by decide) rfl (fun ls hl => ?_)
    refine lv_aload_n hx hb dX12_day_21 rfl (lv_at hl 1 rfl) ?_
    refine gf_X12_7 hE hD dX12_day_22 ?_
    refine lv_iconst (v := (3 : Int32)) hx hb dX12_day_25 (by decide) ?_
    refine lv_iload_n hx hb dX12_day_26 rfl (lv_at hl 2 rfl) ?_
    obtain ⟨h7, hF⟩ := ite_s hF
    refine ma_st_0 hE hD h7 dX12_day_27 (fun u8 H locs eu8 hD => ?_)
    have hF := xlet_e hF eu8
    refine lv_iload_n hx hb dX12_day_28 rfl (lv_at hl 0 rfl) ?_
    obtain rfl := Option.some.inj hF
    exact x_iret hE hD ⟨rfl, rfl⟩ (by omega) (by omega) dX12_day_29
  · have hF := ite_p hF c4
    refine lv_iconst (v := (-1 : Int32)) hx hb dX12_day_12 (by decide) ?_
    obtain rfl := Option.some.inj hF
    exact x_iret hE hD ⟨rfl, rfl⟩ (by omega) (by omega) dX12_day_13
def F_X12_made_j98 (s0 : Int32) : Option Int32 := some s0
theorem B_X12_made_j98 {p : Program} {l : Launch} {e : Env} {s : State} {m : MethodId} {args : Array Value} {below : List Frame} {meth : Method} {cd : Code} {G : xG} {w0 : xW} {w : xW} {sz : Nat} {rr : Int32} (hE : xE p s m args meth cd cX12_made RX12 G 7 (Option.some Jvm.ClassFile.FieldType.int)) {s0 : Int32} {H : Heap} {locs : List Loc} {ls : Array Slot} (hD : xD G (xA w0 s.heap.size) s.heap w sz H locs) (hl : lv_has ls 7 []) (hF : F_X12_made_j98 s0 = some rr) : W p l e (xR 1 0 0) s m args below meth cd H locs 0 0 (xQi G w0 (fun r z => r = rr ∧ z = (w, sz)) below args s 0 0) (F0 m 98 ls [.int s0]) := by
  have hx := hE.1; have hb := hE.2.1
  unfold F_X12_made_j98 at hF
  obtain rfl := Option.some.inj hF
  exact x_iret hE hD ⟨rfl, rfl⟩ (by omega) (by omega) dX12_made_98
def F_X12_made_j70 (y5 : Int64) : Option Int32 := if 0 ≤ (lg_cmp y5 (0 : Int64)) then if (lg_cmp y5 (1000000000 : Int64)) ≤ 0 then F_X12_made_j98 y5.toInt32 else F_X12_made_j98 (1000000000 : Int32) else F_X12_made_j98 (-1 : Int32)
theorem B_X12_made_j70 {p : Program} {l : Launch} {e : Env} {s : State} {m : MethodId} {args : Array Value} {below : List Frame} {meth : Method} {cd : Code} {G : xG} {w0 : xW} {w : xW} {sz : Nat} {rr : Int32} (hE : xE p s m args meth cd cX12_made RX12 G 7 (Option.some Jvm.ClassFile.FieldType.int)) {y5 : Int64} {H : Heap} {locs : List Loc} {ls : Array Slot} (hD : xD G (xA w0 s.heap.size) s.heap w sz H locs) (hl : lv_has ls 7 [(5, .long y5)]) (hF : F_X12_made_j70 y5 = some rr) : W p l e (xR 1 0 0) s m args below meth cd H locs 0 0 (xQi G w0 (fun r z => r = rr ∧ z = (w, sz)) below args s 0 0) (F0 m 70 ls []) := by
  have hx := hE.1; have hb := hE.2.1
  unfold F_X12_made_j70 at hF
  refine lv_lload hx hb dX12_made_70 (lv_at hl 0 rfl) ?_
  refine lv_lconst (v := (0 : Int64)) hx hb dX12_made_72 (by decide) ?_
  refine W.lcmp hx hb dX12_made_73 ?_
  refine lv_if_ge (tgt := 81) hx hb dX12_made_74 (by decide) (fun c1 => ?_) (fun c1 => ?_)
  · have hF := ite_p hF c1
    refine lv_lload hx hb dX12_made_81 (lv_at hl 0 rfl) ?_
    refine lv_ldc2 (v := (1000000000 : Int64)) hx hb hE.2.2.1 (hE.2.2.2.1 _ kw6_112) dX12_made_83 ?_
    refine W.lcmp hx hb dX12_made_86 ?_
    refine lv_if_le (tgt := 95) hx hb dX12_made_87 (by decide) (fun c2 => ?_) (fun c2 => ?_)
    · have hF := ite_p hF c2
      refine lv_lload hx hb dX12_made_95 (lv_at hl 0 rfl) ?_
      refine lv_l2i (v := y5.toInt32) hx hb dX12_made_97 rfl ?_
      exact B_X12_made_j98 hE hD (lv_sub hl [] rfl) hF
    · have hF := ite_n hF c2
      refine lv_ldc (v := (1000000000 : Int32)) hx hb hE.2.2.1 (hE.2.2.2.1 _ kw6_145) dX12_made_90 ?_
      refine lv_goto (tgt := 98) hx hb dX12_made_92 (by decide) ?_
      exact B_X12_made_j98 hE hD (lv_sub hl [] rfl) hF
  · have hF := ite_n hF c1
    refine lv_iconst (v := (-1 : Int32)) hx hb dX12_made_77 (by decide) ?_
    refine lv_goto (tgt := 98) hx hb dX12_made_78 (by decide) ?_
    exact B_X12_made_j98 hE hD (lv_sub hl [] rfl) hF
def F_X12_made_j42 (s0 : Int64) : Option Int32 := F_X12_made_j70 s0
theorem B_X12_made_j42 {p : Program} {l : Launch} {e : Env} {s : State} {m : MethodId} {args : Array Value} {below : List Frame} {meth : Method} {cd : Code} {G : xG} {w0 : xW} {w : xW} {sz : Nat} {rr : Int32} (hE : xE p s m args meth cd cX12_made RX12 G 7 (Option.some Jvm.ClassFile.FieldType.int)) {s0 : Int64} {H : Heap} {locs : List Loc} {ls : Array Slot} (hD : xD G (xA w0 s.heap.size) s.heap w sz H locs) (hl : lv_has ls 7 []) (hF : F_X12_made_j42 s0 = some rr) : W p l e (xR 1 0 0) s m args below meth cd H locs 0 0 (xQi G w0 (fun r z => r = rr ∧ z = (w, sz)) below args s 0 0) (F0 m 42 ls [.long s0]) := by
  have hx := hE.1; have hb := hE.2.1
  unfold F_X12_made_j42 at hF
  refine lv_lstore (lv' := [(5, .long s0)]) hx hb dX12_made_42 hl (by decide) rfl (fun ls hl => ?_)
  refine lv_goto (tgt := 70) hx hb dX12_made_44 (by decide) ?_
  exact B_X12_made_j70 hE hD (lv_sub hl [0] rfl) hF
def F_X12_made_j20 (y1 : Int64) (y3 : Int32) (y4 : Int32) : Option Int32 := if 0 ≤ (lg_cmp y1 y4.toInt64) then F_X12_made_j42 (y3.toInt64 * (y1 - y4.toInt64)) else F_X12_made_j42 (-1 : Int64)
theorem B_X12_made_j20 {p : Program} {l : Launch} {e : Env} {s : State} {m : MethodId} {args : Array Value} {below : List Frame} {meth : Method} {cd : Code} {G : xG} {w0 : xW} {w : xW} {sz : Nat} {rr : Int32} (hE : xE p s m args meth cd cX12_made RX12 G 7 (Option.some Jvm.ClassFile.FieldType.int)) {y1 : Int64} {y3 : Int32} {y4 : Int32} {H : Heap} {locs : List Loc} {ls : Array Slot} (hD : xD G (xA w0 s.heap.size) s.heap w sz H locs) (hl : lv_has ls 7 [(1, .long y1), (3, .int y3), (4, .int y4)]) (hF : F_X12_made_j20 y1 y3 y4 = some rr) : W p l e (xR 1 0 0) s m args below meth cd H locs 0 0 (xQi G w0 (fun r z => r = rr ∧ z = (w, sz)) below args s 0 0) (F0 m 20 ls []) := by
  have hx := hE.1; have hb := hE.2.1
  unfold F_X12_made_j20 at hF
  refine lv_lload_n hx hb dX12_made_20 rfl (lv_at hl 0 rfl) ?_
  refine lv_iload hx hb dX12_made_21 (lv_at hl 2 rfl) ?_
  refine lv_i2l (v := y4.toInt64) hx hb dX12_made_23 rfl ?_
  refine W.lcmp hx hb dX12_made_24 ?_
  refine lv_if_ge (tgt := 34) hx hb dX12_made_25 (by decide) (fun c3 => ?_) (fun c3 => ?_)
  · have hF := ite_p hF c3
    refine lv_iload_n hx hb dX12_made_34 rfl (lv_at hl 1 rfl) ?_
    refine lv_i2l (v := y3.toInt64) hx hb dX12_made_35 rfl ?_
    refine lv_lload_n hx hb dX12_made_36 rfl (lv_at hl 0 rfl) ?_
    refine lv_iload hx hb dX12_made_37 (lv_at hl 2 rfl) ?_
    refine lv_i2l (v := y4.toInt64) hx hb dX12_made_39 rfl ?_
    refine lv_lsub hx hb dX12_made_40 ?_
    refine lv_lmul hx hb dX12_made_41 ?_
    exact B_X12_made_j42 hE hD (lv_sub hl [] rfl) hF
  · have hF := ite_n hF c3
    refine lv_ldc2 (v := (-1 : Int64)) hx hb hE.2.2.1 (hE.2.2.2.1 _ kw6_144) dX12_made_28 ?_
    refine lv_goto (tgt := 42) hx hb dX12_made_31 (by decide) ?_
    exact B_X12_made_j42 hE hD (lv_sub hl [] rfl) hF
def F_X12_made (xa : Int32) (xb : Int64) (xc : Int32) (xd : Int32) : Option Int32 := xlet ((xc.toInt64 * xb) - xd.toInt64) (fun x4 => if xa = (2 : Int32) then F_X12_made_j20 xb xc xd else if xa = (3 : Int32) then F_X12_made_j20 xb xc xd else if xa ≤ (3 : Int32) then F_X12_made_j70 x4 else if (lg_cmp x4 (0 : Int64)) ≤ 0 then F_X12_made_j70 x4 else xlet (x4 - (x4 - x4 / (2 : Int64) * (2 : Int64))) (fun x9 => F_X12_made_j70 x9))
theorem c_X12_made {l : Launch} {G : xG} {w : xW} {sz : Nat} {rr : Int32} {xa : Int32} {xb : Int64} {xc : Int32} {xd : Int32} (hF : F_X12_made xa xb xc xd = some rr) : xMi l G yX12_made cX12_made 7 (Option.some Jvm.ClassFile.FieldType.int) 1 0 0 [.int xa, .long xb, .int xc, .int xd] w sz (fun r z => r = rr ∧ z = (w, sz)) := by
  unfold F_X12_made at hF
  refine x_startI rfl (Nat.le_of_ble_eq_true rfl) (fun p e s m args below meth cd ls hE hnm hl hD => ?_)
  have hx := hE.1; have hb := hE.2.1
  have hl : lv_has ls 7 [(0, .int xa), (1, .long xb), (3, .int xc), (4, .int xd)] := hl
  refine lv_iload_n hx hb dX12_made_0 rfl (lv_at hl 2 rfl) ?_
  refine lv_i2l (v := xc.toInt64) hx hb dX12_made_1 rfl ?_
  refine lv_lload_n hx hb dX12_made_2 rfl (lv_at hl 1 rfl) ?_
  refine lv_lmul hx hb dX12_made_3 ?_
  refine lv_iload hx hb dX12_made_4 (lv_at hl 3 rfl) ?_
  refine lv_i2l (v := xd.toInt64) hx hb dX12_made_6 rfl ?_
  refine lv_lsub hx hb dX12_made_7 ?_
  refine lv_topl (fun x4 ex4 => ?_)
  have hF := xlet_e hF ex4
  refine lv_lstore (lv' := [(5, .long x4), (0, .int xa), (1, .long xb), (3, .int xc), (4, .int xd)]) hx hb dX12_made_8 hl (by decide) rfl (fun ls hl => ?_)
  refine lv_iload_n hx hb dX12_made_10 rfl (lv_at hl 1 rfl) ?_
  refine lv_iconst (v := (2 : Int32)) hx hb dX12_made_11 (by decide) ?_
  refine lv_icmp_eq (tgt := 20) hx hb dX12_made_12 (by decide) (fun c5 => ?_) (fun c5 => ?_)
  · have hF := ite_p hF c5
    exact B_X12_made_j20 hE hD (lv_sub hl [2, 3, 4] rfl) hF
  · have hF := ite_n hF c5
    refine lv_iload_n hx hb dX12_made_15 rfl (lv_at hl 1 rfl) ?_
    refine lv_iconst (v := (3 : Int32)) hx hb dX12_made_16 (by decide) ?_
    refine lv_icmp_ne (tgt := 47) hx hb dX12_made_17 (by decide) (fun c6 => ?_) (fun c6 => ?_)
    · have hF := ite_n hF c6
      refine lv_iload_n hx hb dX12_made_47 rfl (lv_at hl 1 rfl) ?_
      refine lv_iconst (v := (3 : Int32)) hx hb dX12_made_48 (by decide) ?_
      refine lv_icmp_le (tgt := 70) hx hb dX12_made_49 (by decide) (fun c7 => ?_) (fun c7 => ?_)
      · have hF := ite_p hF c7
        exact B_X12_made_j70 hE hD (lv_sub hl [0] rfl) hF
      · have hF := ite_n hF c7
        refine lv_lload hx hb dX12_made_52 (lv_at hl 0 rfl) ?_
        refine lv_lconst (v := (0 : Int64)) hx hb dX12_made_54 (by decide) ?_
        refine W.lcmp hx hb dX12_made_55 ?_
        refine lv_if_le (tgt := 70) hx hb dX12_made_56 (by decide) (fun c8 => ?_) (fun c8 => ?_)
        · have hF := ite_p hF c8
          exact B_X12_made_j70 hE hD (lv_sub hl [0] rfl) hF
        · have hF := ite_n hF c8
          refine lv_lload hx hb dX12_made_59 (lv_at hl 0 rfl) ?_
          refine lv_lload hx hb dX12_made_61 (lv_at hl 0 rfl) ?_
          refine lv_ldc2 (v := (2 : Int64)) hx hb hE.2.2.1 (hE.2.2.2.1 _ kw6_124) dX12_made_63 ?_
          refine lv_lrem hx hb dX12_made_66 (by decide) ?_
          refine lv_lsub hx hb dX12_made_67 ?_
          refine lv_topl (fun x9 ex9 => ?_)
          have hF := xlet_e hF ex9
          refine lv_lstore (lv' := [(5, .long x9), (0, .int xa), (1, .long xb), (3, .int xc), (4, .int xd)]) hx hb dX12_made_68 hl (by decide) rfl (fun ls hl => ?_)
          exact B_X12_made_j70 hE hD (lv_sub hl [0] rfl) hF
    · have hF := ite_p hF c6
      exact B_X12_made_j20 hE hD (lv_sub hl [2, 3, 4] rfl) hF
def F_X12_becomes_j34 (u : xS) (s0 : Int32) : Option (Int32 × xS) := some (s0, u)
theorem B_X12_becomes_j34 {p : Program} {l : Launch} {e : Env} {s : State} {m : MethodId} {args : Array Value} {below : List Frame} {meth : Method} {cd : Code} {G : xG} {w0 : xW} {b sz : Nat} {rr : (Int32 × xS)} (hE : xE p s m args meth cd cX12_becomes RX12 G 4 (Option.some Jvm.ClassFile.FieldType.int)) {u : xS} {s0 : Int32} {H : Heap} {locs : List Loc} {ls : Array Slot} (hD : mD G (xA w0 s.heap.size) s.heap b u sz H locs) (hl : lv_has ls 4 [(0, .ref b)]) (hF : F_X12_becomes_j34 u s0 = some rr) : W p l e (xR 6 0 0) s m args below meth cd H locs 0 0 (xQi G w0 (fun r z => r = rr.1 ∧ z = ((mW G b rr.2), sz)) below args s 0 0) (F0 m 34 ls [.int s0]) := by
  have hx := hE.1; have hb := hE.2.1
  unfold F_X12_becomes_j34 at hF
  obtain rfl := Option.some.inj hF
  exact x_iret hE hD ⟨rfl, rfl⟩ (by omega) (by omega) dX12_becomes_34
def F_X12_becomes (u : xS) (xa : Int32) (xb : Int64) : Option (Int32 × xS) := (F_X12_asks u xa).bind (fun r1 => if (r1.1 7) = 0 then F_X12_becomes_j34 r1 (-1 : Int32) else (F_X12_its r1 xa (0 : Int32)).bind (fun r4 => (F_X12_made r4 xb (r1.1 5) (r1.1 6)).bind (fun r6 => F_X12_becomes_j34 r1 r6)))
theorem c_X12_becomes {l : Launch} {G : xG} {b sz : Nat} {rr : (Int32 × xS)} {u : xS} {xa : Int32} {xb : Int64} (hF : F_X12_becomes u xa xb = some rr) : xMi l G yX12_becomes cX12_becomes 4 (Option.some Jvm.ClassFile.FieldType.int) 6 0 0 [.ref b, .int xa, .long xb] (mW G b u) sz (fun r z => r = rr.1 ∧ z = ((mW G b rr.2), sz)) := by
  unfold F_X12_becomes at hF
  refine x_startI rfl (Nat.le_of_ble_eq_true rfl) (fun p e s m args below meth cd ls hE hnm hl hD => ?_)
  have hx := hE.1; have hb := hE.2.1
  have hl : lv_has ls 4 [(0, .ref b), (1, .int xa), (2, .long xb)] := hl
  have hD : mD G (xA (mW G b u) s.heap.size) s.heap b u sz s.heap [] := hD
  refine lv_aload_n hx hb dX12_becomes_0 rfl (lv_at hl 0 rfl) ?_
  refine lv_iload_n hx hb dX12_becomes_1 rfl (lv_at hl 1 rfl) ?_
  obtain ⟨r1, k2, hF⟩ := xb_s hF
  refine kVv (As := [.int xa]) (rest := []) hE hl hD (c_X12_asks (b := b) k2) kl_X12_118 (mW_0 _ _ _) rfl rfl rfl rfl (Nat.le_of_ble_eq_true rfl) dX12_becomes_2 ⟨Nat.le_of_ble_eq_true rfl, Nat.le_of_ble_eq_true rfl⟩ ⟨Nat.le_of_ble_eq_true rfl, Nat.le_of_ble_eq_true rfl⟩ (fun H locs (hD : mD G _ _ b r1 sz H locs) => ?_)
  refine lv_aload_n hx hb dX12_becomes_5 rfl (lv_at hl 0 rfl) ?_
  refine gf_X12_110 hE hD dX12_becomes_6 ?_
  refine lv_if_eq (tgt := 33) hx hb dX12_becomes_9 (by decide) (fun c3 => ?_) (fun c3 => ?_)
  · have hF := ite_p hF c3
    refine lv_iconst (v := (-1 : Int32)) hx hb dX12_becomes_33 (by decide) ?_
    exact B_X12_becomes_j34 hE hD (lv_sub hl [0] rfl) hF
  · have hF := ite_n hF c3
    refine lv_aload_n hx hb dX12_becomes_12 rfl (lv_at hl 0 rfl) ?_
    refine lv_iload_n hx hb dX12_becomes_13 rfl (lv_at hl 1 rfl) ?_
    refine lv_iconst (v := (0 : Int32)) hx hb dX12_becomes_14 (by decide) ?_
    obtain ⟨r4, k5, hF⟩ := xb_s hF
    refine kVi (As := [.int xa, .int (0 : Int32)]) (rest := []) hE hl hD (c_X12_its (b := b) k5) kl_X12_87 (mW_0 _ _ _) rfl rfl rfl rfl (Nat.le_of_ble_eq_true rfl) dX12_becomes_15 ⟨Nat.le_of_ble_eq_true rfl, Nat.le_of_ble_eq_true rfl⟩ ⟨Nat.le_of_ble_eq_true rfl, Nat.le_of_ble_eq_true rfl⟩ (fun H locs (hD : mD G _ _ b r1 sz H locs) => ?_)
    refine lv_lload_n hx hb dX12_becomes_18 rfl (lv_at hl 2 rfl) ?_
    refine lv_aload_n hx hb dX12_becomes_19 rfl (lv_at hl 0 rfl) ?_
    refine gf_X12_103 hE hD dX12_becomes_20 ?_
    refine lv_aload_n hx hb dX12_becomes_23 rfl (lv_at hl 0 rfl) ?_
    refine gf_X12_107 hE hD dX12_becomes_24 ?_
    obtain ⟨r6, k7, hF⟩ := xb_s hF
    refine kSi (As := [.int r4, .long xb, .int (r1.1 5), .int (r1.1 6)]) (rest := []) hE hl hD (c_X12_made k7) kl_X12_127 rfl rfl (Nat.le_of_ble_eq_true rfl) dX12_becomes_27 ⟨Nat.le_of_ble_eq_true rfl, Nat.le_of_ble_eq_true rfl⟩ ⟨Nat.le_of_ble_eq_true rfl, Nat.le_of_ble_eq_true rfl⟩ (fun H locs (hD : mD G _ _ b r1 sz H locs) => ?_)
    refine lv_goto (tgt := 34) hx hb dX12_becomes_30 (by decide) ?_
    exact B_X12_becomes_j34 hE hD (lv_sub hl [0] rfl) hF
def F_X12_afterMany_j65 (u : xS) (y4 : Int32) : Option (Int32 × xS) := some (y4, u)
theorem B_X12_afterMany_j65 {p : Program} {l : Launch} {e : Env} {s : State} {m : MethodId} {args : Array Value} {below : List Frame} {meth : Method} {cd : Code} {G : xG} {w0 : xW} {b sz : Nat} {rr : (Int32 × xS)} (hE : xE p s m args meth cd cX12_afterMany RX12 G 6 (Option.some Jvm.ClassFile.FieldType.int)) {u : xS} {y4 : Int32} {H : Heap} {locs : List Loc} {ls : Array Slot} (hD : mD G (xA w0 s.heap.size) s.heap b u sz H locs) (hl : lv_has ls 6 [(0, .ref b), (4, .int y4)]) (hF : F_X12_afterMany_j65 u y4 = some rr) : W p l e (xR 6 0 0) s m args below meth cd H locs 0 0 (xQi G w0 (fun r z => r = rr.1 ∧ z = ((mW G b rr.2), sz)) below args s 0 0) (F0 m 65 ls []) := by
  have hx := hE.1; have hb := hE.2.1
  unfold F_X12_afterMany_j65 at hF
  refine lv_iload hx hb dX12_afterMany_65 (lv_at hl 1 rfl) ?_
  obtain rfl := Option.some.inj hF
  exact x_iret hE hD ⟨rfl, rfl⟩ (by omega) (by omega) dX12_afterMany_67
def F_X12_afterMany_l26 : Nat → xS → Int32 → Int32 → Int32 → Int32 → Option (Int32 × xS)
  | 0, _, _, _, _, _ => none
  | nn + 1, u, y1, y3, y4, y5 => if y3 ≤ y5 then F_X12_afterMany_j65 u y4 else if y4 < 0 then F_X12_afterMany_j65 u y4 else (F_X12_its u y1 (0 : Int32)).bind (fun r3 => (F_X12_made r3 y4.toInt64 (u.1 5) (u.1 6)).bind (fun r5 => xlet (y5 + (1 : Int32)) (fun x7 => F_X12_afterMany_l26 nn u y1 y3 r5 x7)))
theorem L_X12_afterMany_l26 {p : Program} {l : Launch} {e : Env} {s : State} {m : MethodId} {args : Array Value} {below : List Frame} {meth : Method} {cd : Code} {G : xG} {w0 : xW} {b sz : Nat} {rr : (Int32 × xS)} (hE : xE p s m args meth cd cX12_afterMany RX12 G 6 (Option.some Jvm.ClassFile.FieldType.int)) : ∀ (nn : Nat) {u : xS} {y1 : Int32} {y3 : Int32} {y4 : Int32} {y5 : Int32} {H : Heap} {locs : List Loc} {ls : Array Slot}, mD G (xA w0 s.heap.size) s.heap b u sz H locs → lv_has ls 6 [(0, .ref b), (1, .int y1), (3, .int y3), (4, .int y4), (5, .int y5)] → F_X12_afterMany_l26 nn u y1 y3 y4 y5 = some rr → W p l e (xR 6 0 0) s m args below meth cd H locs 0 0 (xQi G w0 (fun r z => r = rr.1 ∧ z = ((mW G b rr.2), sz)) below args s 0 0) (F0 m 26 ls []) := by
  have hx := hE.1; have hb := hE.2.1
  intro nn
  induction nn with
  | zero => intro u y1 y3 y4 y5 H locs ls hD hl hF; rw [F_X12_afterMany_l26] at hF; cases hF
  | succ nn ih =>
    intro u y1 y3 y4 y5 H locs ls hD hl hF
    rw [F_X12_afterMany_l26] at hF
    refine lv_iload hx hb dX12_afterMany_26 (lv_at hl 4 rfl) ?_
    refine lv_iload_n hx hb dX12_afterMany_28 rfl (lv_at hl 2 rfl) ?_
    refine lv_icmp_ge (tgt := 65) hx hb dX12_afterMany_29 (by decide) (fun c1 => ?_) (fun c1 => ?_)
    · have hF := ite_p hF c1
      exact B_X12_afterMany_j65 hE hD (lv_sub hl [0, 3] rfl) hF
    · have hF := ite_n hF c1
      refine lv_iload hx hb dX12_afterMany_32 (lv_at hl 3 rfl) ?_
      refine lv_if_lt (tgt := 65) hx hb dX12_afterMany_34 (by decide) (fun c2 => ?_) (fun c2 => ?_)
      · have hF := ite_p hF c2
        exact B_X12_afterMany_j65 hE hD (lv_sub hl [0, 3] rfl) hF
      · have hF := ite_n hF c2
        refine lv_aload_n hx hb dX12_afterMany_37 rfl (lv_at hl 0 rfl) ?_
        refine lv_iload_n hx hb dX12_afterMany_38 rfl (lv_at hl 1 rfl) ?_
        refine lv_iconst (v := (0 : Int32)) hx hb dX12_afterMany_39 (by decide) ?_
        obtain ⟨r3, k4, hF⟩ := xb_s hF
        refine kVi (As := [.int y1, .int (0 : Int32)]) (rest := []) hE hl hD (c_X12_its (b := b) k4) kl_X12_87 (mW_0 _ _ _) rfl rfl rfl rfl (Nat.le_of_ble_eq_true rfl) dX12_afterMany_40 ⟨Nat.le_of_ble_eq_true rfl, Nat.le_of_ble_eq_true rfl⟩ ⟨Nat.le_of_ble_eq_true rfl, Nat.le_of_ble_eq_true rfl⟩ (fun H locs (hD : mD G _ _ b u sz H locs) => ?_)
        refine lv_iload hx hb dX12_afterMany_43 (lv_at hl 3 rfl) ?_
        refine lv_i2l (v := y4.toInt64) hx hb dX12_afterMany_45 rfl ?_
        refine lv_aload_n hx hb dX12_afterMany_46 rfl (lv_at hl 0 rfl) ?_
        refine gf_X12_103 hE hD dX12_afterMany_47 ?_
        refine lv_aload_n hx hb dX12_afterMany_50 rfl (lv_at hl 0 rfl) ?_
        refine gf_X12_107 hE hD dX12_afterMany_51 ?_
        obtain ⟨r5, k6, hF⟩ := xb_s hF
        refine kSi (As := [.int r3, .long y4.toInt64, .int (u.1 5), .int (u.1 6)]) (rest := []) hE hl hD (c_X12_made k6) kl_X12_127 rfl rfl (Nat.le_of_ble_eq_true rfl) dX12_afterMany_54 ⟨Nat.le_of_ble_eq_true rfl, Nat.le_of_ble_eq_true rfl⟩ ⟨Nat.le_of_ble_eq_true rfl, Nat.le_of_ble_eq_true rfl⟩ (fun H locs (hD : mD G _ _ b u sz H locs) => ?_)
        refine lv_istore (lv' := [(4, .int r5), (0, .ref b), (1, .int y1), (3, .int y3), (5, .int y5)]) hx hb dX12_afterMany_57 hl (by decide) rfl (fun ls hl => ?_)
        obtain ⟨x7, ex7⟩ : ∃ y : Int32, y = y5 + (1 : Int32) := ⟨_, rfl⟩
        have hF := xlet_e hF ex7
        refine lv_iinc (v := x7) (lv' := [(5, .int x7), (4, .int r5), (0, .ref b), (1, .int y1), (3, .int y3)]) hx hb dX12_afterMany_59 hl (k := 4) rfl (by rw [ex7]; rfl) (by decide) rfl (fun ls hl => ?_)
        refine lv_goto (tgt := 26) hx hb dX12_afterMany_62 (by decide) ?_
        exact ih hD (lv_sub hl [2, 3, 4, 1, 0] rfl) hF
def F_X12_afterMany_j21 (u : xS) (y1 : Int32) (y3 : Int32) (s0 : Int32) : Option (Int32 × xS) := F_X12_afterMany_l26 xFuel u y1 y3 s0 (0 : Int32)
theorem B_X12_afterMany_j21 {p : Program} {l : Launch} {e : Env} {s : State} {m : MethodId} {args : Array Value} {below : List Frame} {meth : Method} {cd : Code} {G : xG} {w0 : xW} {b sz : Nat} {rr : (Int32 × xS)} (hE : xE p s m args meth cd cX12_afterMany RX12 G 6 (Option.some Jvm.ClassFile.FieldType.int)) {u : xS} {y1 : Int32} {y3 : Int32} {s0 : Int32} {H : Heap} {locs : List Loc} {ls : Array Slot} (hD : mD G (xA w0 s.heap.size) s.heap b u sz H locs) (hl : lv_has ls 6 [(0, .ref b), (1, .int y1), (3, .int y3)]) (hF : F_X12_afterMany_j21 u y1 y3 s0 = some rr) : W p l e (xR 6 0 0) s m args below meth cd H locs 0 0 (xQi G w0 (fun r z => r = rr.1 ∧ z = ((mW G b rr.2), sz)) below args s 0 0) (F0 m 21 ls [.int s0]) := by
  have hx := hE.1; have hb := hE.2.1
  unfold F_X12_afterMany_j21 at hF
  refine lv_istore (lv' := [(4, .int s0), (0, .ref b), (1, .int y1), (3, .int y3)]) hx hb dX12_afterMany_21 hl (by decide) rfl (fun ls hl => ?_)
  refine lv_iconst (v := (0 : Int32)) hx hb dX12_afterMany_23 (by decide) ?_
  refine lv_istore (lv' := [(5, .int (0 : Int32)), (4, .int s0), (0, .ref b), (1, .int y1), (3, .int y3)]) hx hb dX12_afterMany_24 hl (by decide) rfl (fun ls hl => ?_)
  exact L_X12_afterMany_l26 hE _ hD (lv_sub hl [2, 3, 4, 1, 0] rfl) hF
def F_X12_afterMany_j16 (u : xS) (y1 : Int32) (y2 : Int32) (y3 : Int32) : Option (Int32 × xS) := F_X12_afterMany_j21 u y1 y3 y2
theorem B_X12_afterMany_j16 {p : Program} {l : Launch} {e : Env} {s : State} {m : MethodId} {args : Array Value} {below : List Frame} {meth : Method} {cd : Code} {G : xG} {w0 : xW} {b sz : Nat} {rr : (Int32 × xS)} (hE : xE p s m args meth cd cX12_afterMany RX12 G 6 (Option.some Jvm.ClassFile.FieldType.int)) {u : xS} {y1 : Int32} {y2 : Int32} {y3 : Int32} {H : Heap} {locs : List Loc} {ls : Array Slot} (hD : mD G (xA w0 s.heap.size) s.heap b u sz H locs) (hl : lv_has ls 6 [(0, .ref b), (1, .int y1), (2, .int y2), (3, .int y3)]) (hF : F_X12_afterMany_j16 u y1 y2 y3 = some rr) : W p l e (xR 6 0 0) s m args below meth cd H locs 0 0 (xQi G w0 (fun r z => r = rr.1 ∧ z = ((mW G b rr.2), sz)) below args s 0 0) (F0 m 16 ls []) := by
  have hx := hE.1; have hb := hE.2.1
  unfold F_X12_afterMany_j16 at hF
  refine lv_iload_n hx hb dX12_afterMany_16 rfl (lv_at hl 2 rfl) ?_
  refine lv_goto (tgt := 21) hx hb dX12_afterMany_17 (by decide) ?_
  exact B_X12_afterMany_j21 hE hD (lv_sub hl [0, 1, 3] rfl) hF
def F_X12_afterMany (u : xS) (xa : Int32) (xb : Int32) (xc : Int32) : Option (Int32 × xS) := (F_X12_asks u xa).bind (fun r8 => if (r8.1 7) = 0 then if xc = 0 then F_X12_afterMany_j16 r8 xa xb xc else F_X12_afterMany_j21 r8 xa xc (-1 : Int32) else F_X12_afterMany_j16 r8 xa xb xc)
theorem c_X12_afterMany {l : Launch} {G : xG} {b sz : Nat} {rr : (Int32 × xS)} {u : xS} {xa : Int32} {xb : Int32} {xc : Int32} (hF : F_X12_afterMany u xa xb xc = some rr) : xMi l G yX12_afterMany cX12_afterMany 6 (Option.some Jvm.ClassFile.FieldType.int) 6 0 0 [.ref b, .int xa, .int xb, .int xc] (mW G b u) sz (fun r z => r = rr.1 ∧ z = ((mW G b rr.2), sz)) := by
  unfold F_X12_afterMany at hF
  refine x_startI rfl (Nat.le_of_ble_eq_true rfl) (fun p e s m args below meth cd ls hE hnm hl hD => ?_)
  have hx := hE.1; have hb := hE.2.1
  have hl : lv_has ls 6 [(0, .ref b), (1, .int xa), (2, .int xb), (3, .int xc)] := hl
  have hD : mD G (xA (mW G b u) s.heap.size) s.heap b u sz s.heap [] := hD
  refine lv_aload_n hx hb dX12_afterMany_0 rfl (lv_at hl 0 rfl) ?_
  refine lv_iload_n hx hb dX12_afterMany_1 rfl (lv_at hl 1 rfl) ?_
  obtain ⟨r8, k9, hF⟩ := xb_s hF
  refine kVv (As := [.int xa]) (rest := []) hE hl hD (c_X12_asks (b := b) k9) kl_X12_118 (mW_0 _ _ _) rfl rfl rfl rfl (Nat.le_of_ble_eq_true rfl) dX12_afterMany_2 ⟨Nat.le_of_ble_eq_true rfl, Nat.le_of_ble_eq_true rfl⟩ ⟨Nat.le_of_ble_eq_true rfl, Nat.le_of_ble_eq_true rfl⟩ (fun H locs (hD : mD G _ _ b r8 sz H locs) => ?_)
  refine lv_aload_n hx hb dX12_afterMany_5 rfl (lv_at hl 0 rfl) ?_
  refine gf_X12_110 hE hD dX12_afterMany_6 ?_
  refine lv_if_ne (tgt := 16) hx hb dX12_afterMany_9 (by decide) (fun c10 => ?_) (fun c10 => ?_)
  · have hF := ite_n hF c10
    exact B_X12_afterMany_j16 hE hD (lv_sub hl [0, 1, 2, 3] rfl) hF
  · have hF := ite_p hF c10
    refine lv_iload_n hx hb dX12_afterMany_12 rfl (lv_at hl 3 rfl) ?_
    refine lv_if_ne (tgt := 20) hx hb dX12_afterMany_13 (by decide) (fun c11 => ?_) (fun c11 => ?_)
    · have hF := ite_n hF c11
      refine lv_iconst (v := (-1 : Int32)) hx hb dX12_afterMany_20 (by decide) ?_
      exact B_X12_afterMany_j21 hE hD (lv_sub hl [0, 1, 3] rfl) hF
    · have hF := ite_p hF c11
      exact B_X12_afterMany_j16 hE hD (lv_sub hl [0, 1, 2, 3] rfl) hF
def F_X12_where (xa : Int32) (xb : Int32) : Option Int32 := some (((41 : Int32) + ((3 : Int32) * xa)) + xb)
theorem c_X12_where {l : Launch} {G : xG} {w : xW} {sz : Nat} {rr : Int32} {xa : Int32} {xb : Int32} (hF : F_X12_where xa xb = some rr) : xMi l G yX12_where cX12_where 2 (Option.some Jvm.ClassFile.FieldType.int) 1 0 0 [.int xa, .int xb] w sz (fun r z => r = rr ∧ z = (w, sz)) := by
  unfold F_X12_where at hF
  refine x_startI rfl (Nat.le_of_ble_eq_true rfl) (fun p e s m args below meth cd ls hE hnm hl hD => ?_)
  have hx := hE.1; have hb := hE.2.1
  have hl : lv_has ls 2 [(0, .int xa), (1, .int xb)] := hl
  refine lv_bipush (v := (41 : Int32)) hx hb dX12_where_0 (by decide) ?_
  refine lv_iconst (v := (3 : Int32)) hx hb dX12_where_2 (by decide) ?_
  refine lv_iload_n hx hb dX12_where_3 rfl (lv_at hl 0 rfl) ?_
  refine lv_imul hx hb dX12_where_4 ?_
  refine lv_iadd hx hb dX12_where_5 ?_
  refine lv_iload_n hx hb dX12_where_6 rfl (lv_at hl 1 rfl) ?_
  refine lv_iadd hx hb dX12_where_7 ?_
  obtain rfl := Option.some.inj hF
  exact x_iret hE hD ⟨rfl, rfl⟩ (by omega) (by omega) dX12_where_8
def F_X12_told (u : xS) (xa : Int32) (xb : Int32) : Option Int32 := (F_X12_where xa xb).bind (fun r1 => if xIn r1 303 then some (u.2.1 0 r1.toNatClampNeg) else none)
theorem c_X12_told {l : Launch} {G : xG} {b sz : Nat} {rr : Int32} {u : xS} {xa : Int32} {xb : Int32} (hF : F_X12_told u xa xb = some rr) : xMi l G yX12_told cX12_told 3 (Option.some Jvm.ClassFile.FieldType.int) 2 0 0 [.ref b, .int xa, .int xb] (mW G b u) sz (fun r z => r = rr ∧ z = ((mW G b u), sz)) := by
  unfold F_X12_told at hF
  refine x_startI rfl (Nat.le_of_ble_eq_true rfl) (fun p e s m args below meth cd ls hE hnm hl hD => ?_)
  have hx := hE.1; have hb := hE.2.1
  have hl : lv_has ls 3 [(0, .ref b), (1, .int xa), (2, .int xb)] := hl
  have hD : mD G (xA (mW G b u) s.heap.size) s.heap b u sz s.heap [] := hD
  refine lv_aload_n hx hb dX12_told_0 rfl (lv_at hl 0 rfl) ?_
  refine gf_X12_7 hE hD dX12_told_1 ?_
  refine lv_iload_n hx hb dX12_told_4 rfl (lv_at hl 1 rfl) ?_
  refine lv_iload_n hx hb dX12_told_5 rfl (lv_at hl 2 rfl) ?_
  obtain ⟨r1, k2, hF⟩ := xb_s hF
  refine kSi (As := [.int xa, .int xb]) (rest := [.ref (b + 1)]) hE hl hD (c_X12_where k2) kl_X12_131 rfl rfl (Nat.le_of_ble_eq_true rfl) dX12_told_6 ⟨Nat.le_of_ble_eq_true rfl, Nat.le_of_ble_eq_true rfl⟩ ⟨Nat.le_of_ble_eq_true rfl, Nat.le_of_ble_eq_true rfl⟩ (fun H locs (hD : mD G _ _ b u sz H locs) => ?_)
  obtain ⟨h3, hF⟩ := ite_s hF
  refine ma_ld_0 hE hD h3 dX12_told_9 ?_
  obtain rfl := Option.some.inj hF
  exact x_iret hE hD ⟨rfl, rfl⟩ (by omega) (by omega) dX12_told_10
def F_X12_person (u : xS) (xa : Int32) : Option (Int32 × xS) := (F_X12_isPurse xa.toInt64).bind (fun r1 => if r1 = 0 then some ((-1 : Int32), u) else if xIn (1 : Int32) 303 then if (u.2.1 0 (1 : Int32).toNatClampNeg) = (6 : Int32) then some ((-2 : Int32), u) else if xIn (1 : Int32) 303 then xlet (u.2.1 0 (1 : Int32).toNatClampNeg) (fun x8 => (F_X12_where x8 (0 : Int32)).bind (fun r9 => if xIn r9 303 then xlet (mA u 0 r9.toNatClampNeg xa) (fun u12 => (F_X12_where x8 (1 : Int32)).bind (fun r13 => if xIn r13 303 then xlet (mA u12 0 r13.toNatClampNeg (0 : Int32)) (fun u16 => (F_X12_where x8 (2 : Int32)).bind (fun r17 => if xIn r17 303 then xlet (mA u16 0 r17.toNatClampNeg (-9 : Int32)) (fun u20 => if xIn (1 : Int32) 303 then if xIn (1 : Int32) 303 then xlet (mA u20 0 (1 : Int32).toNatClampNeg ((u20.2.1 0 (1 : Int32).toNatClampNeg) + (1 : Int32))) (fun u23 => some (x8, u23)) else none else none) else none)) else none)) else none)) else none else none)
theorem c_X12_person {l : Launch} {G : xG} {b sz : Nat} {rr : (Int32 × xS)} {u : xS} {xa : Int32} (hF : F_X12_person u xa = some rr) : xMi l G yX12_person cX12_person 3 (Option.some Jvm.ClassFile.FieldType.int) 3 0 0 [.ref b, .int xa] (mW G b u) sz (fun r z => r = rr.1 ∧ z = ((mW G b rr.2), sz)) := by
  unfold F_X12_person at hF
  refine x_startI rfl (Nat.le_of_ble_eq_true rfl) (fun p e s m args below meth cd ls hE hnm hl hD => ?_)
  have hx := hE.1; have hb := hE.2.1
  have hl : lv_has ls 3 [(0, .ref b), (1, .int xa)] := hl
  have hD : mD G (xA (mW G b u) s.heap.size) s.heap b u sz s.heap [] := hD
  refine lv_iload_n hx hb dX12_person_0 rfl (lv_at hl 1 rfl) ?_
  refine lv_i2l (v := xa.toInt64) hx hb dX12_person_1 rfl ?_
  obtain ⟨r1, k2, hF⟩ := xb_s hF
  refine kSz (As := [.long xa.toInt64]) (rest := []) hE hl hD (c_X12_isPurse k2) kl_X12_134 rfl rfl (Nat.le_of_ble_eq_true rfl) dX12_person_2 ⟨Nat.le_of_ble_eq_true rfl, Nat.le_of_ble_eq_true rfl⟩ ⟨Nat.le_of_ble_eq_true rfl, Nat.le_of_ble_eq_true rfl⟩ (fun H locs z3 (hD : mD G _ _ b u sz H locs) => ?_)
  refine lv_if_ne (tgt := 10) hx hb dX12_person_5 (by decide) (fun c4 => ?_) (fun c4 => ?_)
  · have hF := ite_n hF c4
    refine lv_aload_n hx hb dX12_person_10 rfl (lv_at hl 0 rfl) ?_
    refine gf_X12_7 hE hD dX12_person_11 ?_
    refine lv_iconst (v := (1 : Int32)) hx hb dX12_person_14 (by decide) ?_
    obtain ⟨h5, hF⟩ := ite_s hF
    refine ma_ld_0 hE hD h5 dX12_person_15 ?_
    refine lv_bipush (v := (6 : Int32)) hx hb dX12_person_16 (by decide) ?_
    refine lv_icmp_ne (tgt := 24) hx hb dX12_person_18 (by decide) (fun c6 => ?_) (fun c6 => ?_)
    · have hF := ite_n hF c6
      refine lv_aload_n hx hb dX12_person_24 rfl (lv_at hl 0 rfl) ?_
      refine gf_X12_7 hE hD dX12_person_25 ?_
      refine lv_iconst (v := (1 : Int32)) hx hb dX12_person_28 (by decide) ?_
      obtain ⟨h7, hF⟩ := ite_s hF
      refine ma_ld_0 hE hD h7 dX12_person_29 ?_
      refine lv_topi (fun x8 ex8 => ?_)
      have hF := xlet_e hF ex8
      refine lv_istore_n (lv' := [(2, .int x8), (0, .ref b), (1, .int xa)]) hx hb dX12_person_30 rfl hl (by decide) rfl (fun ls hl => ?_)
      refine lv_aload_n hx hb dX12_person_31 rfl (lv_at hl 1 rfl) ?_
      refine gf_X12_7 hE hD dX12_person_32 ?_
      refine lv_iload_n hx hb dX12_person_35 rfl (lv_at hl 0 rfl) ?_
      refine lv_iconst (v := (0 : Int32)) hx hb dX12_person_36 (by decide) ?_
      obtain ⟨r9, k10, hF⟩ := xb_s hF
      refine kSi (As := [.int x8, .int (0 : Int32)]) (rest := [.ref (b + 1)]) hE hl hD (c_X12_where k10) kl_X12_131 rfl rfl (Nat.le_of_ble_eq_true rfl) dX12_person_37 ⟨Nat.le_of_ble_eq_true rfl, Nat.le_of_ble_eq_true rfl⟩ ⟨Nat.le_of_ble_eq_true rfl, Nat.le_of_ble_eq_true rfl⟩ (fun H locs (hD : mD G _ _ b u sz H locs) => ?_)
      refine lv_iload_n hx hb dX12_person_40 rfl (lv_at hl 2 rfl) ?_
      obtain ⟨h11, hF⟩ := ite_s hF
      refine ma_st_0 hE hD h11 dX12_person_41 (fun u12 H locs eu12 hD => ?_)
      have hF := xlet_e hF eu12
      refine lv_aload_n hx hb dX12_person_42 rfl (lv_at hl 1 rfl) ?_
      refine gf_X12_7 hE hD dX12_person_43 ?_
      refine lv_iload_n hx hb dX12_person_46 rfl (lv_at hl 0 rfl) ?_
      refine lv_iconst (v := (1 : Int32)) hx hb dX12_person_47 (by decide) ?_
      obtain ⟨r13, k14, hF⟩ := xb_s hF
      refine kSi (As := [.int x8, .int (1 : Int32)]) (rest := [.ref (b + 1)]) hE hl hD (c_X12_where k14) kl_X12_131 rfl rfl (Nat.le_of_ble_eq_true rfl) dX12_person_48 ⟨Nat.le_of_ble_eq_true rfl, Nat.le_of_ble_eq_true rfl⟩ ⟨Nat.le_of_ble_eq_true rfl, Nat.le_of_ble_eq_true rfl⟩ (fun H locs (hD : mD G _ _ b u12 sz H locs) => ?_)
      refine lv_iconst (v := (0 : Int32)) hx hb dX12_person_51 (by decide) ?_
      obtain ⟨h15, hF⟩ := ite_s hF
      refine ma_st_0 hE hD h15 dX12_person_52 (fun u16 H locs eu16 hD => ?_)
      have hF := xlet_e hF eu16
      refine lv_aload_n hx hb dX12_person_53 rfl (lv_at hl 1 rfl) ?_
      refine gf_X12_7 hE hD dX12_person_54 ?_
      refine lv_iload_n hx hb dX12_person_57 rfl (lv_at hl 0 rfl) ?_
      refine lv_iconst (v := (2 : Int32)) hx hb dX12_person_58 (by decide) ?_
      obtain ⟨r17, k18, hF⟩ := xb_s hF
      refine kSi (As := [.int x8, .int (2 : Int32)]) (rest := [.ref (b + 1)]) hE hl hD (c_X12_where k18) kl_X12_131 rfl rfl (Nat.le_of_ble_eq_true rfl) dX12_person_59 ⟨Nat.le_of_ble_eq_true rfl, Nat.le_of_ble_eq_true rfl⟩ ⟨Nat.le_of_ble_eq_true rfl, Nat.le_of_ble_eq_true rfl⟩ (fun H locs (hD : mD G _ _ b u16 sz H locs) => ?_)
      refine lv_bipush (v := (-9 : Int32)) hx hb dX12_person_62 (by decide) ?_
      obtain ⟨h19, hF⟩ := ite_s hF
      refine ma_st_0 hE hD h19 dX12_person_64 (fun u20 H locs eu20 hD => ?_)
      have hF := xlet_e hF eu20
      refine lv_aload_n hx hb dX12_person_65 rfl (lv_at hl 1 rfl) ?_
      refine gf_X12_7 hE hD dX12_person_66 ?_
      refine lv_iconst (v := (1 : Int32)) hx hb dX12_person_69 (by decide) ?_
      refine lv_dup2_11 hx hb dX12_person_70 rfl rfl ?_
      obtain ⟨h21, hF⟩ := ite_s hF
      refine ma_ld_0 hE hD h21 dX12_person_71 ?_
      refine lv_iconst (v := (1 : Int32)) hx hb dX12_person_72 (by decide) ?_
      refine lv_iadd hx hb dX12_person_73 ?_
      obtain ⟨h22, hF⟩ := ite_s hF
      refine ma_st_0 hE hD h22 dX12_person_74 (fun u23 H locs eu23 hD => ?_)
      have hF := xlet_e hF eu23
      refine lv_iload_n hx hb dX12_person_75 rfl (lv_at hl 0 rfl) ?_
      obtain rfl := Option.some.inj hF
      exact x_iret hE hD ⟨rfl, rfl⟩ (by omega) (by omega) dX12_person_76
    · have hF := ite_p hF c6
      refine lv_bipush (v := (-2 : Int32)) hx hb dX12_person_21 (by decide) ?_
      obtain rfl := Option.some.inj hF
      exact x_iret hE hD ⟨rfl, rfl⟩ (by omega) (by omega) dX12_person_23
  · have hF := ite_p hF c4
    refine lv_iconst (v := (-1 : Int32)) hx hb dX12_person_8 (by decide) ?_
    obtain rfl := Option.some.inj hF
    exact x_iret hE hD ⟨rfl, rfl⟩ (by omega) (by omega) dX12_person_9
def F_X12_personOf_j30 (u : xS) (s0 : Int32) : Option Int32 := some s0
theorem B_X12_personOf_j30 {p : Program} {l : Launch} {e : Env} {s : State} {m : MethodId} {args : Array Value} {below : List Frame} {meth : Method} {cd : Code} {G : xG} {w0 : xW} {b sz : Nat} {rr : Int32} (hE : xE p s m args meth cd cX12_personOf RX12 G 3 (Option.some Jvm.ClassFile.FieldType.int)) {u : xS} {s0 : Int32} {H : Heap} {locs : List Loc} {ls : Array Slot} (hD : mD G (xA w0 s.heap.size) s.heap b u sz H locs) (hl : lv_has ls 3 [(0, .ref b)]) (hF : F_X12_personOf_j30 u s0 = some rr) : W p l e (xR 3 0 0) s m args below meth cd H locs 0 0 (xQi G w0 (fun r z => r = rr ∧ z = ((mW G b u), sz)) below args s 0 0) (F0 m 30 ls [.int s0]) := by
  have hx := hE.1; have hb := hE.2.1
  unfold F_X12_personOf_j30 at hF
  obtain rfl := Option.some.inj hF
  exact x_iret hE hD ⟨rfl, rfl⟩ (by omega) (by omega) dX12_personOf_30
def F_X12_personOf_j29 (u : xS)  : Option Int32 := F_X12_personOf_j30 u (-1 : Int32)
theorem B_X12_personOf_j29 {p : Program} {l : Launch} {e : Env} {s : State} {m : MethodId} {args : Array Value} {below : List Frame} {meth : Method} {cd : Code} {G : xG} {w0 : xW} {b sz : Nat} {rr : Int32} (hE : xE p s m args meth cd cX12_personOf RX12 G 3 (Option.some Jvm.ClassFile.FieldType.int)) {u : xS}  {H : Heap} {locs : List Loc} {ls : Array Slot} (hD : mD G (xA w0 s.heap.size) s.heap b u sz H locs) (hl : lv_has ls 3 [(0, .ref b)]) (hF : F_X12_personOf_j29 u  = some rr) : W p l e (xR 3 0 0) s m args below meth cd H locs 0 0 (xQi G w0 (fun r z => r = rr ∧ z = ((mW G b u), sz)) below args s 0 0) (F0 m 29 ls []) := by
  have hx := hE.1; have hb := hE.2.1
  unfold F_X12_personOf_j29 at hF
  refine lv_iconst (v := (-1 : Int32)) hx hb dX12_personOf_29 (by decide) ?_
  exact B_X12_personOf_j30 hE hD (lv_sub hl [0] rfl) hF
def F_X12_personOf (u : xS) (xa : Int32) (xb : Int32) : Option Int32 := (F_X12_isPerson u xa).bind (fun r1 => if r1 = 0 then F_X12_personOf_j29 u else (F_X12_in xb.toInt64 (0 : Int64) (2 : Int64)).bind (fun r5 => if r5 = 0 then F_X12_personOf_j29 u else (F_X12_told u xa xb).bind (fun r9 => F_X12_personOf_j30 u r9)))
theorem c_X12_personOf {l : Launch} {G : xG} {b sz : Nat} {rr : Int32} {u : xS} {xa : Int32} {xb : Int32} (hF : F_X12_personOf u xa xb = some rr) : xMi l G yX12_personOf cX12_personOf 3 (Option.some Jvm.ClassFile.FieldType.int) 3 0 0 [.ref b, .int xa, .int xb] (mW G b u) sz (fun r z => r = rr ∧ z = ((mW G b u), sz)) := by
  unfold F_X12_personOf at hF
  refine x_startI rfl (Nat.le_of_ble_eq_true rfl) (fun p e s m args below meth cd ls hE hnm hl hD => ?_)
  have hx := hE.1; have hb := hE.2.1
  have hl : lv_has ls 3 [(0, .ref b), (1, .int xa), (2, .int xb)] := hl
  have hD : mD G (xA (mW G b u) s.heap.size) s.heap b u sz s.heap [] := hD
  refine lv_aload_n hx hb dX12_personOf_0 rfl (lv_at hl 0 rfl) ?_
  refine lv_iload_n hx hb dX12_personOf_1 rfl (lv_at hl 1 rfl) ?_
  obtain ⟨r1, k2, hF⟩ := xb_s hF
  refine kVz (As := [.int xa]) (rest := []) hE hl hD (c_X12_isPerson (b := b) k2) kl_X12_138 (mW_0 _ _ _) rfl rfl rfl rfl (Nat.le_of_ble_eq_true rfl) dX12_personOf_2 ⟨Nat.le_of_ble_eq_true rfl, Nat.le_of_ble_eq_true rfl⟩ ⟨Nat.le_of_ble_eq_true rfl, Nat.le_of_ble_eq_true rfl⟩ (fun H locs z3 (hD : mD G _ _ b u sz H locs) => ?_)
  refine lv_if_eq (tgt := 29) hx hb dX12_personOf_5 (by decide) (fun c4 => ?_) (fun c4 => ?_)
  · have hF := ite_p hF c4
    exact B_X12_personOf_j29 hE hD (lv_sub hl [0] rfl) hF
  · have hF := ite_n hF c4
    refine lv_iload_n hx hb dX12_personOf_8 rfl (lv_at hl 2 rfl) ?_
    refine lv_i2l (v := xb.toInt64) hx hb dX12_personOf_9 rfl ?_
    refine lv_lconst (v := (0 : Int64)) hx hb dX12_personOf_10 (by decide) ?_
    refine lv_ldc2 (v := (2 : Int64)) hx hb hE.2.2.1 (hE.2.2.2.1 _ kw6_124) dX12_personOf_11 ?_
    obtain ⟨r5, k6, hF⟩ := xb_s hF
    refine kSz (As := [.long xb.toInt64, .long (0 : Int64), .long (2 : Int64)]) (rest := []) hE hl hD (c_X12_in k6) kl_X12_67 rfl rfl (Nat.le_of_ble_eq_true rfl) dX12_personOf_14 ⟨Nat.le_of_ble_eq_true rfl, Nat.le_of_ble_eq_true rfl⟩ ⟨Nat.le_of_ble_eq_true rfl, Nat.le_of_ble_eq_true rfl⟩ (fun H locs z7 (hD : mD G _ _ b u sz H locs) => ?_)
    refine lv_if_eq (tgt := 29) hx hb dX12_personOf_17 (by decide) (fun c8 => ?_) (fun c8 => ?_)
    · have hF := ite_p hF c8
      exact B_X12_personOf_j29 hE hD (lv_sub hl [0] rfl) hF
    · have hF := ite_n hF c8
      refine lv_aload_n hx hb dX12_personOf_20 rfl (lv_at hl 0 rfl) ?_
      refine lv_iload_n hx hb dX12_personOf_21 rfl (lv_at hl 1 rfl) ?_
      refine lv_iload_n hx hb dX12_personOf_22 rfl (lv_at hl 2 rfl) ?_
      obtain ⟨r9, k10, hF⟩ := xb_s hF
      refine kVi (As := [.int xa, .int xb]) (rest := []) hE hl hD (c_X12_told (b := b) k10) kl_X12_141 (mW_0 _ _ _) rfl rfl rfl rfl (Nat.le_of_ble_eq_true rfl) dX12_personOf_23 ⟨Nat.le_of_ble_eq_true rfl, Nat.le_of_ble_eq_true rfl⟩ ⟨Nat.le_of_ble_eq_true rfl, Nat.le_of_ble_eq_true rfl⟩ (fun H locs (hD : mD G _ _ b u sz H locs) => ?_)
      refine lv_goto (tgt := 30) hx hb dX12_personOf_26 (by decide) ?_
      exact B_X12_personOf_j30 hE hD (lv_sub hl [0] rfl) hF
def F_X12_purse_j16 (u : xS)  : Option (Int32 × xS) := some ((-1 : Int32), u)
theorem B_X12_purse_j16 {p : Program} {l : Launch} {e : Env} {s : State} {m : MethodId} {args : Array Value} {below : List Frame} {meth : Method} {cd : Code} {G : xG} {w0 : xW} {b sz : Nat} {rr : (Int32 × xS)} (hE : xE p s m args meth cd cX12_purse RX12 G 4 (Option.some Jvm.ClassFile.FieldType.int)) {u : xS}  {H : Heap} {locs : List Loc} {ls : Array Slot} (hD : mD G (xA w0 s.heap.size) s.heap b u sz H locs) (hl : lv_has ls 4 [(0, .ref b)]) (hF : F_X12_purse_j16 u  = some rr) : W p l e (xR 3 0 0) s m args below meth cd H locs 0 0 (xQi G w0 (fun r z => r = rr.1 ∧ z = ((mW G b rr.2), sz)) below args s 0 0) (F0 m 16 ls []) := by
  have hx := hE.1; have hb := hE.2.1
  unfold F_X12_purse_j16 at hF
  refine lv_iconst (v := (-1 : Int32)) hx hb dX12_purse_16 (by decide) ?_
  obtain rfl := Option.some.inj hF
  exact x_iret hE hD ⟨rfl, rfl⟩ (by omega) (by omega) dX12_purse_17
def F_X12_purse (u : xS) (xa : Int32) (xb : Int32) : Option (Int32 × xS) := (F_X12_isPerson u xa).bind (fun r1 => if r1 = 0 then F_X12_purse_j16 u else (F_X12_isPurse xb.toInt64).bind (fun r5 => if r5 = 0 then F_X12_purse_j16 u else (F_X12_told u xa (0 : Int32)).bind (fun r9 => (F_X12_where xa (0 : Int32)).bind (fun r11 => if xIn r11 303 then xlet (mA u 0 r11.toNatClampNeg xb) (fun u14 => some (r9, u14)) else none))))
theorem c_X12_purse {l : Launch} {G : xG} {b sz : Nat} {rr : (Int32 × xS)} {u : xS} {xa : Int32} {xb : Int32} (hF : F_X12_purse u xa xb = some rr) : xMi l G yX12_purse cX12_purse 4 (Option.some Jvm.ClassFile.FieldType.int) 3 0 0 [.ref b, .int xa, .int xb] (mW G b u) sz (fun r z => r = rr.1 ∧ z = ((mW G b rr.2), sz)) := by
  unfold F_X12_purse at hF
  refine x_startI rfl (Nat.le_of_ble_eq_true rfl) (fun p e s m args below meth cd ls hE hnm hl hD => ?_)
  have hx := hE.1; have hb := hE.2.1
  have hl : lv_has ls 4 [(0, .ref b), (1, .int xa), (2, .int xb)] := hl
  have hD : mD G (xA (mW G b u) s.heap.size) s.heap b u sz s.heap [] := hD
  refine lv_aload_n hx hb dX12_purse_0 rfl (lv_at hl 0 rfl) ?_
  refine lv_iload_n hx hb dX12_purse_1 rfl (lv_at hl 1 rfl) ?_
  obtain ⟨r1, k2, hF⟩ := xb_s hF
  refine kVz (As := [.int xa]) (rest := []) hE hl hD (c_X12_isPerson (b := b) k2) kl_X12_138 (mW_0 _ _ _) rfl rfl rfl rfl (Nat.le_of_ble_eq_true rfl) dX12_purse_2 ⟨Nat.le_of_ble_eq_true rfl, Nat.le_of_ble_eq_true rfl⟩ ⟨Nat.le_of_ble_eq_true rfl, Nat.le_of_ble_eq_true rfl⟩ (fun H locs z3 (hD : mD G _ _ b u sz H locs) => ?_)
  refine lv_if_eq (tgt := 16) hx hb dX12_purse_5 (by decide) (fun c4 => ?_) (fun c4 => ?_)
  · have hF := ite_p hF c4
    exact B_X12_purse_j16 hE hD (lv_sub hl [0] rfl) hF
  · have hF := ite_n hF c4
    refine lv_iload_n hx hb dX12_purse_8 rfl (lv_at hl 2 rfl) ?_
    refine lv_i2l (v := xb.toInt64) hx hb dX12_purse_9 rfl ?_
    obtain ⟨r5, k6, hF⟩ := xb_s hF
    refine kSz (As := [.long xb.toInt64]) (rest := []) hE hl hD (c_X12_isPurse k6) kl_X12_134 rfl rfl (Nat.le_of_ble_eq_true rfl) dX12_purse_10 ⟨Nat.le_of_ble_eq_true rfl, Nat.le_of_ble_eq_true rfl⟩ ⟨Nat.le_of_ble_eq_true rfl, Nat.le_of_ble_eq_true rfl⟩ (fun H locs z7 (hD : mD G _ _ b u sz H locs) => ?_)
    refine lv_if_ne (tgt := 18) hx hb dX12_purse_13 (by decide) (fun c8 => ?_) (fun c8 => ?_)
    · have hF := ite_n hF c8
      refine lv_aload_n hx hb dX12_purse_18 rfl (lv_at hl 0 rfl) ?_
      refine lv_iload_n hx hb dX12_purse_19 rfl (lv_at hl 1 rfl) ?_
      refine lv_iconst (v := (0 : Int32)) hx hb dX12_purse_20 (by decide) ?_
      obtain ⟨r9, k10, hF⟩ := xb_s hF
      refine kVi (As := [.int xa, .int (0 : Int32)]) (rest := []) hE hl hD (c_X12_told (b := b) k10) kl_X12_141 (mW_0 _ _ _) rfl rfl rfl rfl (Nat.le_of_ble_eq_true rfl) dX12_purse_21 ⟨Nat.le_of_ble_eq_true rfl, Nat.le_of_ble_eq_true rfl⟩ ⟨Nat.le_of_ble_eq_true rfl, Nat.le_of_ble_eq_true rfl⟩ (fun H locs (hD : mD G _ _ b u sz H locs) => ?_)
      refine lv_istore_n (lv' := [(3, .int r9), (0, .ref b), (1, .int xa), (2, .int xb)]) hx hb dX12_purse_24 rfl hl (by decide) rfl (fun ls hl => ?_)
      refine lv_aload_n hx hb dX12_purse_25 rfl (lv_at hl 1 rfl) ?_
      refine gf_X12_7 hE hD dX12_purse_26 ?_
      refine lv_iload_n hx hb dX12_purse_29 rfl (lv_at hl 2 rfl) ?_
      refine lv_iconst (v := (0 : Int32)) hx hb dX12_purse_30 (by decide) ?_
      obtain ⟨r11, k12, hF⟩ := xb_s hF
      refine kSi (As := [.int xa, .int (0 : Int32)]) (rest := [.ref (b + 1)]) hE hl hD (c_X12_where k12) kl_X12_131 rfl rfl (Nat.le_of_ble_eq_true rfl) dX12_purse_31 ⟨Nat.le_of_ble_eq_true rfl, Nat.le_of_ble_eq_true rfl⟩ ⟨Nat.le_of_ble_eq_true rfl, Nat.le_of_ble_eq_true rfl⟩ (fun H locs (hD : mD G _ _ b u sz H locs) => ?_)
      refine lv_iload_n hx hb dX12_purse_34 rfl (lv_at hl 3 rfl) ?_
      obtain ⟨h13, hF⟩ := ite_s hF
      refine ma_st_0 hE hD h13 dX12_purse_35 (fun u14 H locs eu14 hD => ?_)
      have hF := xlet_e hF eu14
      refine lv_iload_n hx hb dX12_purse_36 rfl (lv_at hl 0 rfl) ?_
      obtain rfl := Option.some.inj hF
      exact x_iret hE hD ⟨rfl, rfl⟩ (by omega) (by omega) dX12_purse_37
    · have hF := ite_p hF c8
      exact B_X12_purse_j16 hE hD (lv_sub hl [0] rfl) hF
def F_X12_crossed (u : xS) (xa : Int32) (xb : Int32) (xc : Int32) : Option (xS) := (F_X12_where xa (0 : Int32)).bind (fun r1 => if xIn r1 303 then xlet (mA u 0 r1.toNatClampNeg xc) (fun u4 => (F_X12_where xa (1 : Int32)).bind (fun r5 => if xIn r5 303 then if xIn r5 303 then xlet (mA u4 0 r5.toNatClampNeg ((u4.2.1 0 r5.toNatClampNeg) + (1 : Int32))) (fun u9 => (F_X12_where xa (2 : Int32)).bind (fun r10 => if xIn r10 303 then xlet (mA u9 0 r10.toNatClampNeg xb) (fun u13 => some u13) else none)) else none else none)) else none)
theorem c_X12_crossed {l : Launch} {G : xG} {b sz : Nat} {rr : (xS)} {u : xS} {xa : Int32} {xb : Int32} {xc : Int32} (hF : F_X12_crossed u xa xb xc = some rr) : xMv l G yX12_crossed cX12_crossed 4 (Option.none : Option Jvm.ClassFile.FieldType) 2 0 0 [.ref b, .int xa, .int xb, .int xc] (mW G b u) sz (fun z => z = ((mW G b rr), sz)) := by
  unfold F_X12_crossed at hF
  refine x_startV rfl (Nat.le_of_ble_eq_true rfl) (fun p e s m args below meth cd ls hE hnm hl hD => ?_)
  have hx := hE.1; have hb := hE.2.1
  have hl : lv_has ls 4 [(0, .ref b), (1, .int xa), (2, .int xb), (3, .int xc)] := hl
  have hD : mD G (xA (mW G b u) s.heap.size) s.heap b u sz s.heap [] := hD
  refine lv_aload_n hx hb dX12_crossed_0 rfl (lv_at hl 0 rfl) ?_
  refine gf_X12_7 hE hD dX12_crossed_1 ?_
  refine lv_iload_n hx hb dX12_crossed_4 rfl (lv_at hl 1 rfl) ?_
  refine lv_iconst (v := (0 : Int32)) hx hb dX12_crossed_5 (by decide) ?_
  obtain ⟨r1, k2, hF⟩ := xb_s hF
  refine kSi (As := [.int xa, .int (0 : Int32)]) (rest := [.ref (b + 1)]) hE hl hD (c_X12_where k2) kl_X12_131 rfl rfl (Nat.le_of_ble_eq_true rfl) dX12_crossed_6 ⟨Nat.le_of_ble_eq_true rfl, Nat.le_of_ble_eq_true rfl⟩ ⟨Nat.le_of_ble_eq_true rfl, Nat.le_of_ble_eq_true rfl⟩ (fun H locs (hD : mD G _ _ b u sz H locs) => ?_)
  refine lv_iload_n hx hb dX12_crossed_9 rfl (lv_at hl 3 rfl) ?_
  obtain ⟨h3, hF⟩ := ite_s hF
  refine ma_st_0 hE hD h3 dX12_crossed_10 (fun u4 H locs eu4 hD => ?_)
  have hF := xlet_e hF eu4
  refine lv_aload_n hx hb dX12_crossed_11 rfl (lv_at hl 0 rfl) ?_
  refine gf_X12_7 hE hD dX12_crossed_12 ?_
  refine lv_iload_n hx hb dX12_crossed_15 rfl (lv_at hl 1 rfl) ?_
  refine lv_iconst (v := (1 : Int32)) hx hb dX12_crossed_16 (by decide) ?_
  obtain ⟨r5, k6, hF⟩ := xb_s hF
  refine kSi (As := [.int xa, .int (1 : Int32)]) (rest := [.ref (b + 1)]) hE hl hD (c_X12_where k6) kl_X12_131 rfl rfl (Nat.le_of_ble_eq_true rfl) dX12_crossed_17 ⟨Nat.le_of_ble_eq_true rfl, Nat.le_of_ble_eq_true rfl⟩ ⟨Nat.le_of_ble_eq_true rfl, Nat.le_of_ble_eq_true rfl⟩ (fun H locs (hD : mD G _ _ b u4 sz H locs) => ?_)
  refine lv_dup2_11 hx hb dX12_crossed_20 rfl rfl ?_
  obtain ⟨h7, hF⟩ := ite_s hF
  refine ma_ld_0 hE hD h7 dX12_crossed_21 ?_
  refine lv_iconst (v := (1 : Int32)) hx hb dX12_crossed_22 (by decide) ?_
  refine lv_iadd hx hb dX12_crossed_23 ?_
  obtain ⟨h8, hF⟩ := ite_s hF
  refine ma_st_0 hE hD h8 dX12_crossed_24 (fun u9 H locs eu9 hD => ?_)
  have hF := xlet_e hF eu9
  refine lv_aload_n hx hb dX12_crossed_25 rfl (lv_at hl 0 rfl) ?_
  refine gf_X12_7 hE hD dX12_crossed_26 ?_
  refine lv_iload_n hx hb dX12_crossed_29 rfl (lv_at hl 1 rfl) ?_
  refine lv_iconst (v := (2 : Int32)) hx hb dX12_crossed_30 (by decide) ?_
  obtain ⟨r10, k11, hF⟩ := xb_s hF
  refine kSi (As := [.int xa, .int (2 : Int32)]) (rest := [.ref (b + 1)]) hE hl hD (c_X12_where k11) kl_X12_131 rfl rfl (Nat.le_of_ble_eq_true rfl) dX12_crossed_31 ⟨Nat.le_of_ble_eq_true rfl, Nat.le_of_ble_eq_true rfl⟩ ⟨Nat.le_of_ble_eq_true rfl, Nat.le_of_ble_eq_true rfl⟩ (fun H locs (hD : mD G _ _ b u9 sz H locs) => ?_)
  refine lv_iload_n hx hb dX12_crossed_34 rfl (lv_at hl 2 rfl) ?_
  obtain ⟨h12, hF⟩ := ite_s hF
  refine ma_st_0 hE hD h12 dX12_crossed_35 (fun u13 H locs eu13 hD => ?_)
  have hF := xlet_e hF eu13
  obtain rfl := Option.some.inj hF
  exact x_vret hE hD rfl (by omega) (by omega) dX12_crossed_36
def F_X12_cross_j16 (u : xS)  : Option (Int32 × xS) := some ((-1 : Int32), u)
theorem B_X12_cross_j16 {p : Program} {l : Launch} {e : Env} {s : State} {m : MethodId} {args : Array Value} {below : List Frame} {meth : Method} {cd : Code} {G : xG} {w0 : xW} {b sz : Nat} {rr : (Int32 × xS)} (hE : xE p s m args meth cd cX12_cross RX12 G 4 (Option.some Jvm.ClassFile.FieldType.int)) {u : xS}  {H : Heap} {locs : List Loc} {ls : Array Slot} (hD : mD G (xA w0 s.heap.size) s.heap b u sz H locs) (hl : lv_has ls 4 [(0, .ref b)]) (hF : F_X12_cross_j16 u  = some rr) : W p l e (xR 7 0 0) s m args below meth cd H locs 0 0 (xQi G w0 (fun r z => r = rr.1 ∧ z = ((mW G b rr.2), sz)) below args s 0 0) (F0 m 16 ls []) := by
  have hx := hE.1; have hb := hE.2.1
  unfold F_X12_cross_j16 at hF
  refine lv_iconst (v := (-1 : Int32)) hx hb dX12_cross_16 (by decide) ?_
  obtain rfl := Option.some.inj hF
  exact x_iret hE hD ⟨rfl, rfl⟩ (by omega) (by omega) dX12_cross_17
def F_X12_cross (u : xS) (xa : Int32) (xb : Int32) : Option (Int32 × xS) := (F_X12_isPerson u xa).bind (fun r1 => if r1 = 0 then F_X12_cross_j16 u else (F_X12_isBridge u xb).bind (fun r5 => if r5 = 0 then F_X12_cross_j16 u else (F_X12_told u xa (0 : Int32)).bind (fun r9 => (F_X12_becomes u xb r9.toInt64).bind (fun r11 => if 0 ≤ r11.1 then (F_X12_crossed r11.2 xa xb r11.1).bind (fun r14 => some (r11.1, r14)) else some ((-4 : Int32), r11.2)))))
theorem c_X12_cross {l : Launch} {G : xG} {b sz : Nat} {rr : (Int32 × xS)} {u : xS} {xa : Int32} {xb : Int32} (hF : F_X12_cross u xa xb = some rr) : xMi l G yX12_cross cX12_cross 4 (Option.some Jvm.ClassFile.FieldType.int) 7 0 0 [.ref b, .int xa, .int xb] (mW G b u) sz (fun r z => r = rr.1 ∧ z = ((mW G b rr.2), sz)) := by
  unfold F_X12_cross at hF
  refine x_startI rfl (Nat.le_of_ble_eq_true rfl) (fun p e s m args below meth cd ls hE hnm hl hD => ?_)
  have hx := hE.1; have hb := hE.2.1
  have hl : lv_has ls 4 [(0, .ref b), (1, .int xa), (2, .int xb)] := hl
  have hD : mD G (xA (mW G b u) s.heap.size) s.heap b u sz s.heap [] := hD
  refine lv_aload_n hx hb dX12_cross_0 rfl (lv_at hl 0 rfl) ?_
  refine lv_iload_n hx hb dX12_cross_1 rfl (lv_at hl 1 rfl) ?_
  obtain ⟨r1, k2, hF⟩ := xb_s hF
  refine kVz (As := [.int xa]) (rest := []) hE hl hD (c_X12_isPerson (b := b) k2) kl_X12_138 (mW_0 _ _ _) rfl rfl rfl rfl (Nat.le_of_ble_eq_true rfl) dX12_cross_2 ⟨Nat.le_of_ble_eq_true rfl, Nat.le_of_ble_eq_true rfl⟩ ⟨Nat.le_of_ble_eq_true rfl, Nat.le_of_ble_eq_true rfl⟩ (fun H locs z3 (hD : mD G _ _ b u sz H locs) => ?_)
  refine lv_if_eq (tgt := 16) hx hb dX12_cross_5 (by decide) (fun c4 => ?_) (fun c4 => ?_)
  · have hF := ite_p hF c4
    exact B_X12_cross_j16 hE hD (lv_sub hl [0] rfl) hF
  · have hF := ite_n hF c4
    refine lv_aload_n hx hb dX12_cross_8 rfl (lv_at hl 0 rfl) ?_
    refine lv_iload_n hx hb dX12_cross_9 rfl (lv_at hl 2 rfl) ?_
    obtain ⟨r5, k6, hF⟩ := xb_s hF
    refine kVz (As := [.int xb]) (rest := []) hE hl hD (c_X12_isBridge (b := b) k6) kl_X12_114 (mW_0 _ _ _) rfl rfl rfl rfl (Nat.le_of_ble_eq_true rfl) dX12_cross_10 ⟨Nat.le_of_ble_eq_true rfl, Nat.le_of_ble_eq_true rfl⟩ ⟨Nat.le_of_ble_eq_true rfl, Nat.le_of_ble_eq_true rfl⟩ (fun H locs z7 (hD : mD G _ _ b u sz H locs) => ?_)
    refine lv_if_ne (tgt := 18) hx hb dX12_cross_13 (by decide) (fun c8 => ?_) (fun c8 => ?_)
    · have hF := ite_n hF c8
      refine lv_aload_n hx hb dX12_cross_18 rfl (lv_at hl 0 rfl) ?_
      refine lv_iload_n hx hb dX12_cross_19 rfl (lv_at hl 2 rfl) ?_
      refine lv_aload_n hx hb dX12_cross_20 rfl (lv_at hl 0 rfl) ?_
      refine lv_iload_n hx hb dX12_cross_21 rfl (lv_at hl 1 rfl) ?_
      refine lv_iconst (v := (0 : Int32)) hx hb dX12_cross_22 (by decide) ?_
      obtain ⟨r9, k10, hF⟩ := xb_s hF
      refine kVi (As := [.int xa, .int (0 : Int32)]) (rest := [.int xb, .ref b]) hE hl hD (c_X12_told (b := b) k10) kl_X12_141 (mW_0 _ _ _) rfl rfl rfl rfl (Nat.le_of_ble_eq_true rfl) dX12_cross_23 ⟨Nat.le_of_ble_eq_true rfl, Nat.le_of_ble_eq_true rfl⟩ ⟨Nat.le_of_ble_eq_true rfl, Nat.le_of_ble_eq_true rfl⟩ (fun H locs (hD : mD G _ _ b u sz H locs) => ?_)
      refine lv_i2l (v := r9.toInt64) hx hb dX12_cross_26 rfl ?_
      obtain ⟨r11, k12, hF⟩ := xb_s hF
      refine kVi (As := [.int xb, .long r9.toInt64]) (rest := []) hE hl hD (c_X12_becomes (b := b) k12) kl_X12_144 (mW_0 _ _ _) rfl rfl rfl rfl (Nat.le_of_ble_eq_true rfl) dX12_cross_27 ⟨Nat.le_of_ble_eq_true rfl, Nat.le_of_ble_eq_true rfl⟩ ⟨Nat.le_of_ble_eq_true rfl, Nat.le_of_ble_eq_true rfl⟩ (fun H locs (hD : mD G _ _ b r11.2 sz H locs) => ?_)
      refine lv_istore_n (lv' := [(3, .int r11.1), (0, .ref b), (1, .int xa), (2, .int xb)]) hx hb dX12_cross_30 rfl hl (by decide) rfl (fun ls hl => ?_)
      refine lv_iload_n hx hb dX12_cross_31 rfl (lv_at hl 0 rfl) ?_
      refine lv_if_ge (tgt := 38) hx hb dX12_cross_32 (by decide) (fun c13 => ?_) (fun c13 => ?_)
      · have hF := ite_p hF c13
        refine lv_aload_n hx hb dX12_cross_38 rfl (lv_at hl 1 rfl) ?_
        refine lv_iload_n hx hb dX12_cross_39 rfl (lv_at hl 2 rfl) ?_
        refine lv_iload_n hx hb dX12_cross_40 rfl (lv_at hl 3 rfl) ?_
        refine lv_iload_n hx hb dX12_cross_41 rfl (lv_at hl 0 rfl) ?_
        obtain ⟨r14, k15, hF⟩ := xb_s hF
        refine kVv (As := [.int xa, .int xb, .int r11.1]) (rest := []) hE hl hD (c_X12_crossed (b := b) k15) kl_X12_148 (mW_0 _ _ _) rfl rfl rfl rfl (Nat.le_of_ble_eq_true rfl) dX12_cross_42 ⟨Nat.le_of_ble_eq_true rfl, Nat.le_of_ble_eq_true rfl⟩ ⟨Nat.le_of_ble_eq_true rfl, Nat.le_of_ble_eq_true rfl⟩ (fun H locs (hD : mD G _ _ b r14 sz H locs) => ?_)
        refine lv_iload_n hx hb dX12_cross_45 rfl (lv_at hl 0 rfl) ?_
        obtain rfl := Option.some.inj hF
        exact x_iret hE hD ⟨rfl, rfl⟩ (by omega) (by omega) dX12_cross_46
      · have hF := ite_n hF c13
        refine lv_bipush (v := (-4 : Int32)) hx hb dX12_cross_35 (by decide) ?_
        obtain rfl := Option.some.inj hF
        exact x_iret hE hD ⟨rfl, rfl⟩ (by omega) (by omega) dX12_cross_37
    · have hF := ite_p hF c8
      exact B_X12_cross_j16 hE hD (lv_sub hl [0] rfl) hF
def F_X12_pool_j71 (u : xS) (y1 : Int32) (y2 : Int32) (y3 : Int32) (y4 : Int64) (s0 : Int32) : Option (Int32 × xS) := if 0 ≤ s0 then (F_X12_told u y1 (0 : Int32)).bind (fun r2 => if ¬ y4 = 0 then xlet (((s0.toInt64 * r2.toInt64) / y4).toInt32) (fun x5 => (F_X12_crossed u y1 y3 x5).bind (fun r6 => (F_X12_crossed r6 y2 y3 (s0 - x5)).bind (fun r8 => some (x5, r8)))) else none) else some ((-4 : Int32), u)
theorem B_X12_pool_j71 {p : Program} {l : Launch} {e : Env} {s : State} {m : MethodId} {args : Array Value} {below : List Frame} {meth : Method} {cd : Code} {G : xG} {w0 : xW} {b sz : Nat} {rr : (Int32 × xS)} (hE : xE p s m args meth cd cX12_pool RX12 G 8 (Option.some Jvm.ClassFile.FieldType.int)) {u : xS} {y1 : Int32} {y2 : Int32} {y3 : Int32} {y4 : Int64} {s0 : Int32} {H : Heap} {locs : List Loc} {ls : Array Slot} (hD : mD G (xA w0 s.heap.size) s.heap b u sz H locs) (hl : lv_has ls 8 [(0, .ref b), (1, .int y1), (2, .int y2), (3, .int y3), (4, .long y4)]) (hF : F_X12_pool_j71 u y1 y2 y3 y4 s0 = some rr) : W p l e (xR 7 0 0) s m args below meth cd H locs 0 0 (xQi G w0 (fun r z => r = rr.1 ∧ z = ((mW G b rr.2), sz)) below args s 0 0) (F0 m 71 ls [.int s0]) := by
  have hx := hE.1; have hb := hE.2.1
  unfold F_X12_pool_j71 at hF
  refine lv_istore (lv' := [(6, .int s0), (0, .ref b), (1, .int y1), (2, .int y2), (3, .int y3), (4, .long y4)]) hx hb dX12_pool_71 hl (by decide) rfl (fun ls hl => ?_)
  refine lv_iload hx hb dX12_pool_73 (lv_at hl 0 rfl) ?_
  refine lv_if_ge (tgt := 81) hx hb dX12_pool_75 (by decide) (fun c1 => ?_) (fun c1 => ?_)
  · have hF := ite_p hF c1
    refine lv_iload hx hb dX12_pool_81 (lv_at hl 0 rfl) ?_
    refine lv_i2l (v := s0.toInt64) hx hb dX12_pool_83 rfl ?_
    refine lv_aload_n hx hb dX12_pool_84 rfl (lv_at hl 1 rfl) ?_
    refine lv_iload_n hx hb dX12_pool_85 rfl (lv_at hl 2 rfl) ?_
    refine lv_iconst (v := (0 : Int32)) hx hb dX12_pool_86 (by decide) ?_
    obtain ⟨r2, k3, hF⟩ := xb_s hF
    refine kVi (As := [.int y1, .int (0 : Int32)]) (rest := [.long s0.toInt64]) hE hl hD (c_X12_told (b := b) k3) kl_X12_141 (mW_0 _ _ _) rfl rfl rfl rfl (Nat.le_of_ble_eq_true rfl) dX12_pool_87 ⟨Nat.le_of_ble_eq_true rfl, Nat.le_of_ble_eq_true rfl⟩ ⟨Nat.le_of_ble_eq_true rfl, Nat.le_of_ble_eq_true rfl⟩ (fun H locs (hD : mD G _ _ b u sz H locs) => ?_)
    refine lv_i2l (v := r2.toInt64) hx hb dX12_pool_90 rfl ?_
    refine lv_lmul hx hb dX12_pool_91 ?_
    refine lv_lload hx hb dX12_pool_92 (lv_at hl 5 rfl) ?_
    obtain ⟨h4, hF⟩ := ite_s hF
    refine lv_ldiv hx hb dX12_pool_94 h4 ?_
    refine lv_l2i (v := ((s0.toInt64 * r2.toInt64) / y4).toInt32) hx hb dX12_pool_95 rfl ?_
    refine lv_topi (fun x5 ex5 => ?_)
    have hF := xlet_e hF ex5
    refine lv_istore (lv' := [(7, .int x5), (6, .int s0), (0, .ref b), (1, .int y1), (2, .int y2), (3, .int y3), (4, .long y4)]) hx hb dX12_pool_96 hl (by decide) rfl (fun ls hl => ?_)
    refine lv_aload_n hx hb dX12_pool_98 rfl (lv_at hl 2 rfl) ?_
    refine lv_iload_n hx hb dX12_pool_99 rfl (lv_at hl 3 rfl) ?_
    refine lv_iload_n hx hb dX12_pool_100 rfl (lv_at hl 5 rfl) ?_
    refine lv_iload hx hb dX12_pool_101 (lv_at hl 0 rfl) ?_
    obtain ⟨r6, k7, hF⟩ := xb_s hF
    refine kVv (As := [.int y1, .int y3, .int x5]) (rest := []) hE hl hD (c_X12_crossed (b := b) k7) kl_X12_148 (mW_0 _ _ _) rfl rfl rfl rfl (Nat.le_of_ble_eq_true rfl) dX12_pool_103 ⟨Nat.le_of_ble_eq_true rfl, Nat.le_of_ble_eq_true rfl⟩ ⟨Nat.le_of_ble_eq_true rfl, Nat.le_of_ble_eq_true rfl⟩ (fun H locs (hD : mD G _ _ b r6 sz H locs) => ?_)
    refine lv_aload_n hx hb dX12_pool_106 rfl (lv_at hl 2 rfl) ?_
    refine lv_iload_n hx hb dX12_pool_107 rfl (lv_at hl 4 rfl) ?_
    refine lv_iload_n hx hb dX12_pool_108 rfl (lv_at hl 5 rfl) ?_
    refine lv_iload hx hb dX12_pool_109 (lv_at hl 1 rfl) ?_
    refine lv_iload hx hb dX12_pool_111 (lv_at hl 0 rfl) ?_
    refine lv_isub hx hb dX12_pool_113 ?_
    obtain ⟨r8, k9, hF⟩ := xb_s hF
    refine kVv (As := [.int y2, .int y3, .int (s0 - x5)]) (rest := []) hE hl hD (c_X12_crossed (b := b) k9) kl_X12_148 (mW_0 _ _ _) rfl rfl rfl rfl (Nat.le_of_ble_eq_true rfl) dX12_pool_114 ⟨Nat.le_of_ble_eq_true rfl, Nat.le_of_ble_eq_true rfl⟩ ⟨Nat.le_of_ble_eq_true rfl, Nat.le_of_ble_eq_true rfl⟩ (fun H locs (hD : mD G _ _ b r8 sz H locs) => ?_)
    refine lv_iload hx hb dX12_pool_117 (lv_at hl 0 rfl) ?_
    obtain rfl := Option.some.inj hF
    exact x_iret hE hD ⟨rfl, rfl⟩ (by omega) (by omega) dX12_pool_119
  · have hF := ite_n hF c1
    refine lv_bipush (v := (-4 : Int32)) hx hb dX12_pool_78 (by decide) ?_
    obtain rfl := Option.some.inj hF
    exact x_iret hE hD ⟨rfl, rfl⟩ (by omega) (by omega) dX12_pool_80
def F_X12_pool_j29 (u : xS)  : Option (Int32 × xS) := some ((-1 : Int32), u)
theorem B_X12_pool_j29 {p : Program} {l : Launch} {e : Env} {s : State} {m : MethodId} {args : Array Value} {below : List Frame} {meth : Method} {cd : Code} {G : xG} {w0 : xW} {b sz : Nat} {rr : (Int32 × xS)} (hE : xE p s m args meth cd cX12_pool RX12 G 8 (Option.some Jvm.ClassFile.FieldType.int)) {u : xS}  {H : Heap} {locs : List Loc} {ls : Array Slot} (hD : mD G (xA w0 s.heap.size) s.heap b u sz H locs) (hl : lv_has ls 8 [(0, .ref b)]) (hF : F_X12_pool_j29 u  = some rr) : W p l e (xR 7 0 0) s m args below meth cd H locs 0 0 (xQi G w0 (fun r z => r = rr.1 ∧ z = ((mW G b rr.2), sz)) below args s 0 0) (F0 m 29 ls []) := by
  have hx := hE.1; have hb := hE.2.1
  unfold F_X12_pool_j29 at hF
  refine lv_iconst (v := (-1 : Int32)) hx hb dX12_pool_29 (by decide) ?_
  obtain rfl := Option.some.inj hF
  exact x_iret hE hD ⟨rfl, rfl⟩ (by omega) (by omega) dX12_pool_30
def F_X12_pool (u : xS) (xa : Int32) (xb : Int32) (xc : Int32) : Option (Int32 × xS) := (F_X12_isPerson u xa).bind (fun r10 => if r10 = 0 then F_X12_pool_j29 u else (F_X12_isPerson u xb).bind (fun r14 => if r14 = 0 then F_X12_pool_j29 u else if xa = xb then F_X12_pool_j29 u else (F_X12_isBridge u xc).bind (fun r19 => if r19 = 0 then F_X12_pool_j29 u else (F_X12_told u xa (0 : Int32)).bind (fun r23 => (F_X12_told u xb (0 : Int32)).bind (fun r25 => xlet (r23.toInt64 + r25.toInt64) (fun x27 => (F_X12_in x27 (1 : Int64) (1000000000 : Int64)).bind (fun r28 => if r28 = 0 then F_X12_pool_j71 u xa xb xc x27 (-1 : Int32) else (F_X12_becomes u xc x27).bind (fun r32 => F_X12_pool_j71 r32.2 xa xb xc x27 r32.1))))))))
theorem c_X12_pool {l : Launch} {G : xG} {b sz : Nat} {rr : (Int32 × xS)} {u : xS} {xa : Int32} {xb : Int32} {xc : Int32} (hF : F_X12_pool u xa xb xc = some rr) : xMi l G yX12_pool cX12_pool 8 (Option.some Jvm.ClassFile.FieldType.int) 7 0 0 [.ref b, .int xa, .int xb, .int xc] (mW G b u) sz (fun r z => r = rr.1 ∧ z = ((mW G b rr.2), sz)) := by
  unfold F_X12_pool at hF
  refine x_startI rfl (Nat.le_of_ble_eq_true rfl) (fun p e s m args below meth cd ls hE hnm hl hD => ?_)
  have hx := hE.1; have hb := hE.2.1
  have hl : lv_has ls 8 [(0, .ref b), (1, .int xa), (2, .int xb), (3, .int xc)] := hl
  have hD : mD G (xA (mW G b u) s.heap.size) s.heap b u sz s.heap [] := hD
  refine lv_aload_n hx hb dX12_pool_0 rfl (lv_at hl 0 rfl) ?_
  refine lv_iload_n hx hb dX12_pool_1 rfl (lv_at hl 1 rfl) ?_
  obtain ⟨r10, k11, hF⟩ := xb_s hF
  refine kVz (As := [.int xa]) (rest := []) hE hl hD (c_X12_isPerson (b := b) k11) kl_X12_138 (mW_0 _ _ _) rfl rfl rfl rfl (Nat.le_of_ble_eq_true rfl) dX12_pool_2 ⟨Nat.le_of_ble_eq_true rfl, Nat.le_of_ble_eq_true rfl⟩ ⟨Nat.le_of_ble_eq_true rfl, Nat.le_of_ble_eq_true rfl⟩ (fun H locs z12 (hD : mD G _ _ b u sz H locs) => ?_)
  refine lv_if_eq (tgt := 29) hx hb dX12_pool_5 (by decide) (fun c13 => ?_) (fun c13 => ?_)
  · have hF := ite_p hF c13
    exact B_X12_pool_j29 hE hD (lv_sub hl [0] rfl) hF
  · have hF := ite_n hF c13
    refine lv_aload_n hx hb dX12_pool_8 rfl (lv_at hl 0 rfl) ?_
    refine lv_iload_n hx hb dX12_pool_9 rfl (lv_at hl 2 rfl) ?_
    obtain ⟨r14, k15, hF⟩ := xb_s hF
    refine kVz (As := [.int xb]) (rest := []) hE hl hD (c_X12_isPerson (b := b) k15) kl_X12_138 (mW_0 _ _ _) rfl rfl rfl rfl (Nat.le_of_ble_eq_true rfl) dX12_pool_10 ⟨Nat.le_of_ble_eq_true rfl, Nat.le_of_ble_eq_true rfl⟩ ⟨Nat.le_of_ble_eq_true rfl, Nat.le_of_ble_eq_true rfl⟩ (fun H locs z16 (hD : mD G _ _ b u sz H locs) => ?_)
    refine lv_if_eq (tgt := 29) hx hb dX12_pool_13 (by decide) (fun c17 => ?_) (fun c17 => ?_)
    · have hF := ite_p hF c17
      exact B_X12_pool_j29 hE hD (lv_sub hl [0] rfl) hF
    · have hF := ite_n hF c17
      refine lv_iload_n hx hb dX12_pool_16 rfl (lv_at hl 1 rfl) ?_
      refine lv_iload_n hx hb dX12_pool_17 rfl (lv_at hl 2 rfl) ?_
      refine lv_icmp_eq (tgt := 29) hx hb dX12_pool_18 (by decide) (fun c18 => ?_) (fun c18 => ?_)
      · have hF := ite_p hF c18
        exact B_X12_pool_j29 hE hD (lv_sub hl [0] rfl) hF
      · have hF := ite_n hF c18
        refine lv_aload_n hx hb dX12_pool_21 rfl (lv_at hl 0 rfl) ?_
        refine lv_iload_n hx hb dX12_pool_22 rfl (lv_at hl 3 rfl) ?_
        obtain ⟨r19, k20, hF⟩ := xb_s hF
        refine kVz (As := [.int xc]) (rest := []) hE hl hD (c_X12_isBridge (b := b) k20) kl_X12_114 (mW_0 _ _ _) rfl rfl rfl rfl (Nat.le_of_ble_eq_true rfl) dX12_pool_23 ⟨Nat.le_of_ble_eq_true rfl, Nat.le_of_ble_eq_true rfl⟩ ⟨Nat.le_of_ble_eq_true rfl, Nat.le_of_ble_eq_true rfl⟩ (fun H locs z21 (hD : mD G _ _ b u sz H locs) => ?_)
        refine lv_if_ne (tgt := 31) hx hb dX12_pool_26 (by decide) (fun c22 => ?_) (fun c22 => ?_)
        · have hF := ite_n hF c22
          refine lv_aload_n hx hb dX12_pool_31 rfl (lv_at hl 0 rfl) ?_
          refine lv_iload_n hx hb dX12_pool_32 rfl (lv_at hl 1 rfl) ?_
          refine lv_iconst (v := (0 : Int32)) hx hb dX12_pool_33 (by decide) ?_
          obtain ⟨r23, k24, hF⟩ := xb_s hF
          refine kVi (As := [.int xa, .int (0 : Int32)]) (rest := []) hE hl hD (c_X12_told (b := b) k24) kl_X12_141 (mW_0 _ _ _) rfl rfl rfl rfl (Nat.le_of_ble_eq_true rfl) dX12_pool_34 ⟨Nat.le_of_ble_eq_true rfl, Nat.le_of_ble_eq_true rfl⟩ ⟨Nat.le_of_ble_eq_true rfl, Nat.le_of_ble_eq_true rfl⟩ (fun H locs (hD : mD G _ _ b u sz H locs) => ?_)
          refine lv_i2l (v := r23.toInt64) hx hb dX12_pool_37 rfl ?_
          refine lv_aload_n hx hb dX12_pool_38 rfl (lv_at hl 0 rfl) ?_
          refine lv_iload_n hx hb dX12_pool_39 rfl (lv_at hl 2 rfl) ?_
          refine lv_iconst (v := (0 : Int32)) hx hb dX12_pool_40 (by decide) ?_
          obtain ⟨r25, k26, hF⟩ := xb_s hF
          refine kVi (As := [.int xb, .int (0 : Int32)]) (rest := [.long r23.toInt64]) hE hl hD (c_X12_told (b := b) k26) kl_X12_141 (mW_0 _ _ _) rfl rfl rfl rfl (Nat.le_of_ble_eq_true rfl) dX12_pool_41 ⟨Nat.le_of_ble_eq_true rfl, Nat.le_of_ble_eq_true rfl⟩ ⟨Nat.le_of_ble_eq_true rfl, Nat.le_of_ble_eq_true rfl⟩ (fun H locs (hD : mD G _ _ b u sz H locs) => ?_)
          refine lv_i2l (v := r25.toInt64) hx hb dX12_pool_44 rfl ?_
          refine lv_ladd hx hb dX12_pool_45 ?_
          refine lv_topl (fun x27 ex27 => ?_)
          have hF := xlet_e hF ex27
          refine lv_lstore (lv' := [(4, .long x27), (0, .ref b), (1, .int xa), (2, .int xb), (3, .int xc)]) hx hb dX12_pool_46 hl (by decide) rfl (fun ls hl => ?_)
          refine lv_lload hx hb dX12_pool_48 (lv_at hl 0 rfl) ?_
          refine lv_lconst (v := (1 : Int64)) hx hb dX12_pool_50 (by decide) ?_
          refine lv_ldc2 (v := (1000000000 : Int64)) hx hb hE.2.2.1 (hE.2.2.2.1 _ kw6_112) dX12_pool_51 ?_
          obtain ⟨r28, k29, hF⟩ := xb_s hF
          refine kSz (As := [.long x27, .long (1 : Int64), .long (1000000000 : Int64)]) (rest := []) hE hl hD (c_X12_in k29) kl_X12_67 rfl rfl (Nat.le_of_ble_eq_true rfl) dX12_pool_54 ⟨Nat.le_of_ble_eq_true rfl, Nat.le_of_ble_eq_true rfl⟩ ⟨Nat.le_of_ble_eq_true rfl, Nat.le_of_ble_eq_true rfl⟩ (fun H locs z30 (hD : mD G _ _ b u sz H locs) => ?_)
          refine lv_if_ne (tgt := 64) hx hb dX12_pool_57 (by decide) (fun c31 => ?_) (fun c31 => ?_)
          · have hF := ite_n hF c31
            refine lv_aload_n hx hb dX12_pool_64 rfl (lv_at hl 1 rfl) ?_
            refine lv_iload_n hx hb dX12_pool_65 rfl (lv_at hl 4 rfl) ?_
            refine lv_lload hx hb dX12_pool_66 (lv_at hl 0 rfl) ?_
            obtain ⟨r32, k33, hF⟩ := xb_s hF
            refine kVi (As := [.int xc, .long x27]) (rest := []) hE hl hD (c_X12_becomes (b := b) k33) kl_X12_144 (mW_0 _ _ _) rfl rfl rfl rfl (Nat.le_of_ble_eq_true rfl) dX12_pool_68 ⟨Nat.le_of_ble_eq_true rfl, Nat.le_of_ble_eq_true rfl⟩ ⟨Nat.le_of_ble_eq_true rfl, Nat.le_of_ble_eq_true rfl⟩ (fun H locs (hD : mD G _ _ b r32.2 sz H locs) => ?_)
            exact B_X12_pool_j71 hE hD (lv_sub hl [1, 2, 3, 4, 0] rfl) hF
          · have hF := ite_p hF c31
            refine lv_iconst (v := (-1 : Int32)) hx hb dX12_pool_60 (by decide) ?_
            refine lv_goto (tgt := 71) hx hb dX12_pool_61 (by decide) ?_
            exact B_X12_pool_j71 hE hD (lv_sub hl [1, 2, 3, 4, 0] rfl) hF
        · have hF := ite_p hF c22
          exact B_X12_pool_j29 hE hD (lv_sub hl [0] rfl) hF
def F_X12_gives_j61 (u : xS)  : Option (Int32 × xS) := some ((-4 : Int32), u)
theorem B_X12_gives_j61 {p : Program} {l : Launch} {e : Env} {s : State} {m : MethodId} {args : Array Value} {below : List Frame} {meth : Method} {cd : Code} {G : xG} {w0 : xW} {b sz : Nat} {rr : (Int32 × xS)} (hE : xE p s m args meth cd cX12_gives RX12 G 4 (Option.some Jvm.ClassFile.FieldType.int)) {u : xS}  {H : Heap} {locs : List Loc} {ls : Array Slot} (hD : mD G (xA w0 s.heap.size) s.heap b u sz H locs) (hl : lv_has ls 4 [(0, .ref b)]) (hF : F_X12_gives_j61 u  = some rr) : W p l e (xR 3 0 0) s m args below meth cd H locs 0 0 (xQi G w0 (fun r z => r = rr.1 ∧ z = ((mW G b rr.2), sz)) below args s 0 0) (F0 m 61 ls []) := by
  have hx := hE.1; have hb := hE.2.1
  unfold F_X12_gives_j61 at hF
  refine lv_bipush (v := (-4 : Int32)) hx hb dX12_gives_61 (by decide) ?_
  obtain rfl := Option.some.inj hF
  exact x_iret hE hD ⟨rfl, rfl⟩ (by omega) (by omega) dX12_gives_63
def F_X12_gives_j33 (u : xS)  : Option (Int32 × xS) := some ((-1 : Int32), u)
theorem B_X12_gives_j33 {p : Program} {l : Launch} {e : Env} {s : State} {m : MethodId} {args : Array Value} {below : List Frame} {meth : Method} {cd : Code} {G : xG} {w0 : xW} {b sz : Nat} {rr : (Int32 × xS)} (hE : xE p s m args meth cd cX12_gives RX12 G 4 (Option.some Jvm.ClassFile.FieldType.int)) {u : xS}  {H : Heap} {locs : List Loc} {ls : Array Slot} (hD : mD G (xA w0 s.heap.size) s.heap b u sz H locs) (hl : lv_has ls 4 [(0, .ref b)]) (hF : F_X12_gives_j33 u  = some rr) : W p l e (xR 3 0 0) s m args below meth cd H locs 0 0 (xQi G w0 (fun r z => r = rr.1 ∧ z = ((mW G b rr.2), sz)) below args s 0 0) (F0 m 33 ls []) := by
  have hx := hE.1; have hb := hE.2.1
  unfold F_X12_gives_j33 at hF
  refine lv_iconst (v := (-1 : Int32)) hx hb dX12_gives_33 (by decide) ?_
  obtain rfl := Option.some.inj hF
  exact x_iret hE hD ⟨rfl, rfl⟩ (by omega) (by omega) dX12_gives_34
def F_X12_gives (u : xS) (xa : Int32) (xb : Int32) (xc : Int32) : Option (Int32 × xS) := (F_X12_isPerson u xa).bind (fun r1 => if r1 = 0 then F_X12_gives_j33 u else (F_X12_isPerson u xb).bind (fun r5 => if r5 = 0 then F_X12_gives_j33 u else if xa = xb then F_X12_gives_j33 u else (F_X12_in xc.toInt64 (1 : Int64) (1000000000 : Int64)).bind (fun r10 => if r10 = 0 then F_X12_gives_j33 u else (F_X12_told u xa (0 : Int32)).bind (fun r14 => if r14 < xc then F_X12_gives_j61 u else (F_X12_told u xb (0 : Int32)).bind (fun r17 => (F_X12_isPurse (r17.toInt64 + xc.toInt64)).bind (fun r19 => if r19 = 0 then F_X12_gives_j61 u else (F_X12_where xa (0 : Int32)).bind (fun r23 => if xIn r23 303 then if xIn r23 303 then xlet (mA u 0 r23.toNatClampNeg ((u.2.1 0 r23.toNatClampNeg) - xc)) (fun u27 => (F_X12_where xb (0 : Int32)).bind (fun r28 => if xIn r28 303 then if xIn r28 303 then xlet (mA u27 0 r28.toNatClampNeg ((u27.2.1 0 r28.toNatClampNeg) + xc)) (fun u32 => (F_X12_told u32 xb (0 : Int32)).bind (fun r33 => some (r33, u32))) else none else none)) else none else none)))))))
theorem c_X12_gives {l : Launch} {G : xG} {b sz : Nat} {rr : (Int32 × xS)} {u : xS} {xa : Int32} {xb : Int32} {xc : Int32} (hF : F_X12_gives u xa xb xc = some rr) : xMi l G yX12_gives cX12_gives 4 (Option.some Jvm.ClassFile.FieldType.int) 3 0 0 [.ref b, .int xa, .int xb, .int xc] (mW G b u) sz (fun r z => r = rr.1 ∧ z = ((mW G b rr.2), sz)) := by
  unfold F_X12_gives at hF
  refine x_startI rfl (Nat.le_of_ble_eq_true rfl) (fun p e s m args below meth cd ls hE hnm hl hD => ?_)
  have hx := hE.1; have hb := hE.2.1
  have hl : lv_has ls 4 [(0, .ref b), (1, .int xa), (2, .int xb), (3, .int xc)] := hl
  have hD : mD G (xA (mW G b u) s.heap.size) s.heap b u sz s.heap [] := hD
  refine lv_aload_n hx hb dX12_gives_0 rfl (lv_at hl 0 rfl) ?_
  refine lv_iload_n hx hb dX12_gives_1 rfl (lv_at hl 1 rfl) ?_
  obtain ⟨r1, k2, hF⟩ := xb_s hF
  refine kVz (As := [.int xa]) (rest := []) hE hl hD (c_X12_isPerson (b := b) k2) kl_X12_138 (mW_0 _ _ _) rfl rfl rfl rfl (Nat.le_of_ble_eq_true rfl) dX12_gives_2 ⟨Nat.le_of_ble_eq_true rfl, Nat.le_of_ble_eq_true rfl⟩ ⟨Nat.le_of_ble_eq_true rfl, Nat.le_of_ble_eq_true rfl⟩ (fun H locs z3 (hD : mD G _ _ b u sz H locs) => ?_)
  refine lv_if_eq (tgt := 33) hx hb dX12_gives_5 (by decide) (fun c4 => ?_) (fun c4 => ?_)
  · have hF := ite_p hF c4
    exact B_X12_gives_j33 hE hD (lv_sub hl [0] rfl) hF
  · have hF := ite_n hF c4
    refine lv_aload_n hx hb dX12_gives_8 rfl (lv_at hl 0 rfl) ?_
    refine lv_iload_n hx hb dX12_gives_9 rfl (lv_at hl 2 rfl) ?_
    obtain ⟨r5, k6, hF⟩ := xb_s hF
    refine kVz (As := [.int xb]) (rest := []) hE hl hD (c_X12_isPerson (b := b) k6) kl_X12_138 (mW_0 _ _ _) rfl rfl rfl rfl (Nat.le_of_ble_eq_true rfl) dX12_gives_10 ⟨Nat.le_of_ble_eq_true rfl, Nat.le_of_ble_eq_true rfl⟩ ⟨Nat.le_of_ble_eq_true rfl, Nat.le_of_ble_eq_true rfl⟩ (fun H locs z7 (hD : mD G _ _ b u sz H locs) => ?_)
    refine lv_if_eq (tgt := 33) hx hb dX12_gives_13 (by decide) (fun c8 => ?_) (fun c8 => ?_)
    · have hF := ite_p hF c8
      exact B_X12_gives_j33 hE hD (lv_sub hl [0] rfl) hF
    · have hF := ite_n hF c8
      refine lv_iload_n hx hb dX12_gives_16 rfl (lv_at hl 1 rfl) ?_
      refine lv_iload_n hx hb dX12_gives_17 rfl (lv_at hl 2 rfl) ?_
      refine lv_icmp_eq (tgt := 33) hx hb dX12_gives_18 (by decide) (fun c9 => ?_) (fun c9 => ?_)
      · have hF := ite_p hF c9
        exact B_X12_gives_j33 hE hD (lv_sub hl [0] rfl) hF
      · have hF := ite_n hF c9
        refine lv_iload_n hx hb dX12_gives_21 rfl (lv_at hl 3 rfl) ?_
        refine lv_i2l (v := xc.toInt64) hx hb dX12_gives_22 rfl ?_
        refine lv_lconst (v := (1 : Int64)) hx hb dX12_gives_23 (by decide) ?_
        refine lv_ldc2 (v := (1000000000 : Int64)) hx hb hE.2.2.1 (hE.2.2.2.1 _ kw6_112) dX12_gives_24 ?_
        obtain ⟨r10, k11, hF⟩ := xb_s hF
        refine kSz (As := [.long xc.toInt64, .long (1 : Int64), .long (1000000000 : Int64)]) (rest := []) hE hl hD (c_X12_in k11) kl_X12_67 rfl rfl (Nat.le_of_ble_eq_true rfl) dX12_gives_27 ⟨Nat.le_of_ble_eq_true rfl, Nat.le_of_ble_eq_true rfl⟩ ⟨Nat.le_of_ble_eq_true rfl, Nat.le_of_ble_eq_true rfl⟩ (fun H locs z12 (hD : mD G _ _ b u sz H locs) => ?_)
        refine lv_if_ne (tgt := 35) hx hb dX12_gives_30 (by decide) (fun c13 => ?_) (fun c13 => ?_)
        · have hF := ite_n hF c13
          refine lv_aload_n hx hb dX12_gives_35 rfl (lv_at hl 0 rfl) ?_
          refine lv_iload_n hx hb dX12_gives_36 rfl (lv_at hl 1 rfl) ?_
          refine lv_iconst (v := (0 : Int32)) hx hb dX12_gives_37 (by decide) ?_
          obtain ⟨r14, k15, hF⟩ := xb_s hF
          refine kVi (As := [.int xa, .int (0 : Int32)]) (rest := []) hE hl hD (c_X12_told (b := b) k15) kl_X12_141 (mW_0 _ _ _) rfl rfl rfl rfl (Nat.le_of_ble_eq_true rfl) dX12_gives_38 ⟨Nat.le_of_ble_eq_true rfl, Nat.le_of_ble_eq_true rfl⟩ ⟨Nat.le_of_ble_eq_true rfl, Nat.le_of_ble_eq_true rfl⟩ (fun H locs (hD : mD G _ _ b u sz H locs) => ?_)
          refine lv_iload_n hx hb dX12_gives_41 rfl (lv_at hl 3 rfl) ?_
          refine lv_icmp_lt (tgt := 61) hx hb dX12_gives_42 (by decide) (fun c16 => ?_) (fun c16 => ?_)
          · have hF := ite_p hF c16
            exact B_X12_gives_j61 hE hD (lv_sub hl [0] rfl) hF
          · have hF := ite_n hF c16
            refine lv_aload_n hx hb dX12_gives_45 rfl (lv_at hl 0 rfl) ?_
            refine lv_iload_n hx hb dX12_gives_46 rfl (lv_at hl 2 rfl) ?_
            refine lv_iconst (v := (0 : Int32)) hx hb dX12_gives_47 (by decide) ?_
            obtain ⟨r17, k18, hF⟩ := xb_s hF
            refine kVi (As := [.int xb, .int (0 : Int32)]) (rest := []) hE hl hD (c_X12_told (b := b) k18) kl_X12_141 (mW_0 _ _ _) rfl rfl rfl rfl (Nat.le_of_ble_eq_true rfl) dX12_gives_48 ⟨Nat.le_of_ble_eq_true rfl, Nat.le_of_ble_eq_true rfl⟩ ⟨Nat.le_of_ble_eq_true rfl, Nat.le_of_ble_eq_true rfl⟩ (fun H locs (hD : mD G _ _ b u sz H locs) => ?_)
            refine lv_i2l (v := r17.toInt64) hx hb dX12_gives_51 rfl ?_
            refine lv_iload_n hx hb dX12_gives_52 rfl (lv_at hl 3 rfl) ?_
            refine lv_i2l (v := xc.toInt64) hx hb dX12_gives_53 rfl ?_
            refine lv_ladd hx hb dX12_gives_54 ?_
            obtain ⟨r19, k20, hF⟩ := xb_s hF
            refine kSz (As := [.long (r17.toInt64 + xc.toInt64)]) (rest := []) hE hl hD (c_X12_isPurse k20) kl_X12_134 rfl rfl (Nat.le_of_ble_eq_true rfl) dX12_gives_55 ⟨Nat.le_of_ble_eq_true rfl, Nat.le_of_ble_eq_true rfl⟩ ⟨Nat.le_of_ble_eq_true rfl, Nat.le_of_ble_eq_true rfl⟩ (fun H locs z21 (hD : mD G _ _ b u sz H locs) => ?_)
            refine lv_if_ne (tgt := 64) hx hb dX12_gives_58 (by decide) (fun c22 => ?_) (fun c22 => ?_)
            · have hF := ite_n hF c22
              refine lv_aload_n hx hb dX12_gives_64 rfl (lv_at hl 0 rfl) ?_
              refine gf_X12_7 hE hD dX12_gives_65 ?_
              refine lv_iload_n hx hb dX12_gives_68 rfl (lv_at hl 1 rfl) ?_
              refine lv_iconst (v := (0 : Int32)) hx hb dX12_gives_69 (by decide) ?_
              obtain ⟨r23, k24, hF⟩ := xb_s hF
              refine kSi (As := [.int xa, .int (0 : Int32)]) (rest := [.ref (b + 1)]) hE hl hD (c_X12_where k24) kl_X12_131 rfl rfl (Nat.le_of_ble_eq_true rfl) dX12_gives_70 ⟨Nat.le_of_ble_eq_true rfl, Nat.le_of_ble_eq_true rfl⟩ ⟨Nat.le_of_ble_eq_true rfl, Nat.le_of_ble_eq_true rfl⟩ (fun H locs (hD : mD G _ _ b u sz H locs) => ?_)
              refine lv_dup2_11 hx hb dX12_gives_73 rfl rfl ?_
              obtain ⟨h25, hF⟩ := ite_s hF
              refine ma_ld_0 hE hD h25 dX12_gives_74 ?_
              refine lv_iload_n hx hb dX12_gives_75 rfl (lv_at hl 3 rfl) ?_
              refine lv_isub hx hb dX12_gives_76 ?_
              obtain ⟨h26, hF⟩ := ite_s hF
              refine ma_st_0 hE hD h26 dX12_gives_77 (fun u27 H locs eu27 hD => ?_)
              have hF := xlet_e hF eu27
              refine lv_aload_n hx hb dX12_gives_78 rfl (lv_at hl 0 rfl) ?_
              refine gf_X12_7 hE hD dX12_gives_79 ?_
              refine lv_iload_n hx hb dX12_gives_82 rfl (lv_at hl 2 rfl) ?_
              refine lv_iconst (v := (0 : Int32)) hx hb dX12_gives_83 (by decide) ?_
              obtain ⟨r28, k29, hF⟩ := xb_s hF
              refine kSi (As := [.int xb, .int (0 : Int32)]) (rest := [.ref (b + 1)]) hE hl hD (c_X12_where k29) kl_X12_131 rfl rfl (Nat.le_of_ble_eq_true rfl) dX12_gives_84 ⟨Nat.le_of_ble_eq_true rfl, Nat.le_of_ble_eq_true rfl⟩ ⟨Nat.le_of_ble_eq_true rfl, Nat.le_of_ble_eq_true rfl⟩ (fun H locs (hD : mD G _ _ b u27 sz H locs) => ?_)
              refine lv_dup2_11 hx hb dX12_gives_87 rfl rfl ?_
              obtain ⟨h30, hF⟩ := ite_s hF
              refine ma_ld_0 hE hD h30 dX12_gives_88 ?_
              refine lv_iload_n hx hb dX12_gives_89 rfl (lv_at hl 3 rfl) ?_
              refine lv_iadd hx hb dX12_gives_90 ?_
              obtain ⟨h31, hF⟩ := ite_s hF
              refine ma_st_0 hE hD h31 dX12_gives_91 (fun u32 H locs eu32 hD => ?_)
              have hF := xlet_e hF eu32
              refine lv_aload_n hx hb dX12_gives_92 rfl (lv_at hl 0 rfl) ?_
              refine lv_iload_n hx hb dX12_gives_93 rfl (lv_at hl 2 rfl) ?_
              refine lv_iconst (v := (0 : Int32)) hx hb dX12_gives_94 (by decide) ?_
              obtain ⟨r33, k34, hF⟩ := xb_s hF
              refine kVi (As := [.int xb, .int (0 : Int32)]) (rest := []) hE hl hD (c_X12_told (b := b) k34) kl_X12_141 (mW_0 _ _ _) rfl rfl rfl rfl (Nat.le_of_ble_eq_true rfl) dX12_gives_95 ⟨Nat.le_of_ble_eq_true rfl, Nat.le_of_ble_eq_true rfl⟩ ⟨Nat.le_of_ble_eq_true rfl, Nat.le_of_ble_eq_true rfl⟩ (fun H locs (hD : mD G _ _ b u32 sz H locs) => ?_)
              obtain rfl := Option.some.inj hF
              exact x_iret hE hD ⟨rfl, rfl⟩ (by omega) (by omega) dX12_gives_98
            · have hF := ite_p hF c22
              exact B_X12_gives_j61 hE hD (lv_sub hl [0] rfl) hF
        · have hF := ite_p hF c13
          exact B_X12_gives_j33 hE hD (lv_sub hl [0] rfl) hF
def F_X12_noneOf_j10 (s0 : Int32) : Option Int32 := some s0
theorem B_X12_noneOf_j10 {p : Program} {l : Launch} {e : Env} {s : State} {m : MethodId} {args : Array Value} {below : List Frame} {meth : Method} {cd : Code} {G : xG} {w0 : xW} {w : xW} {sz : Nat} {rr : Int32} (hE : xE p s m args meth cd cX12_noneOf RX12 G 1 (Option.some Jvm.ClassFile.FieldType.int)) {s0 : Int32} {H : Heap} {locs : List Loc} {ls : Array Slot} (hD : xD G (xA w0 s.heap.size) s.heap w sz H locs) (hl : lv_has ls 1 []) (hF : F_X12_noneOf_j10 s0 = some rr) : W p l e (xR 1 0 0) s m args below meth cd H locs 0 0 (xQi G w0 (fun r z => r = rr ∧ z = (w, sz)) below args s 0 0) (F0 m 10 ls [.int s0]) := by
  have hx := hE.1; have hb := hE.2.1
  unfold F_X12_noneOf_j10 at hF
  obtain rfl := Option.some.inj hF
  exact x_iret hE hD ⟨rfl, rfl⟩ (by omega) (by omega) dX12_noneOf_10
def F_X12_noneOf (xa : Int32) : Option Int32 := if 0 ≤ xa then F_X12_noneOf_j10 xa else F_X12_noneOf_j10 (-3 : Int32)
theorem c_X12_noneOf {l : Launch} {G : xG} {w : xW} {sz : Nat} {rr : Int32} {xa : Int32} (hF : F_X12_noneOf xa = some rr) : xMi l G yX12_noneOf cX12_noneOf 1 (Option.some Jvm.ClassFile.FieldType.int) 1 0 0 [.int xa] w sz (fun r z => r = rr ∧ z = (w, sz)) := by
  unfold F_X12_noneOf at hF
  refine x_startI rfl (Nat.le_of_ble_eq_true rfl) (fun p e s m args below meth cd ls hE hnm hl hD => ?_)
  have hx := hE.1; have hb := hE.2.1
  have hl : lv_has ls 1 [(0, .int xa)] := hl
  refine lv_iload_n hx hb dX12_noneOf_0 rfl (lv_at hl 0 rfl) ?_
  refine lv_if_ge (tgt := 9) hx hb dX12_noneOf_1 (by decide) (fun c1 => ?_) (fun c1 => ?_)
  · have hF := ite_p hF c1
    refine lv_iload_n hx hb dX12_noneOf_9 rfl (lv_at hl 0 rfl) ?_
    exact B_X12_noneOf_j10 hE hD (lv_sub hl [] rfl) hF
  · have hF := ite_n hF c1
    refine lv_bipush (v := (-3 : Int32)) hx hb dX12_noneOf_4 (by decide) ?_
    refine lv_goto (tgt := 10) hx hb dX12_noneOf_6 (by decide) ?_
    exact B_X12_noneOf_j10 hE hD (lv_sub hl [] rfl) hF
def F_X12_after_j42 (u : xS) (s0 : Int32) : Option (Int32 × xS) := some (s0, u)
theorem B_X12_after_j42 {p : Program} {l : Launch} {e : Env} {s : State} {m : MethodId} {args : Array Value} {below : List Frame} {meth : Method} {cd : Code} {G : xG} {w0 : xW} {b sz : Nat} {rr : (Int32 × xS)} (hE : xE p s m args meth cd cX12_after RX12 G 4 (Option.some Jvm.ClassFile.FieldType.int)) {u : xS} {s0 : Int32} {H : Heap} {locs : List Loc} {ls : Array Slot} (hD : mD G (xA w0 s.heap.size) s.heap b u sz H locs) (hl : lv_has ls 4 [(0, .ref b)]) (hF : F_X12_after_j42 u s0 = some rr) : W p l e (xR 7 0 0) s m args below meth cd H locs 0 0 (xQi G w0 (fun r z => r = rr.1 ∧ z = ((mW G b rr.2), sz)) below args s 0 0) (F0 m 42 ls [.int s0]) := by
  have hx := hE.1; have hb := hE.2.1
  unfold F_X12_after_j42 at hF
  obtain rfl := Option.some.inj hF
  exact x_iret hE hD ⟨rfl, rfl⟩ (by omega) (by omega) dX12_after_42
def F_X12_after_j41 (u : xS)  : Option (Int32 × xS) := F_X12_after_j42 u (-1 : Int32)
theorem B_X12_after_j41 {p : Program} {l : Launch} {e : Env} {s : State} {m : MethodId} {args : Array Value} {below : List Frame} {meth : Method} {cd : Code} {G : xG} {w0 : xW} {b sz : Nat} {rr : (Int32 × xS)} (hE : xE p s m args meth cd cX12_after RX12 G 4 (Option.some Jvm.ClassFile.FieldType.int)) {u : xS}  {H : Heap} {locs : List Loc} {ls : Array Slot} (hD : mD G (xA w0 s.heap.size) s.heap b u sz H locs) (hl : lv_has ls 4 [(0, .ref b)]) (hF : F_X12_after_j41 u  = some rr) : W p l e (xR 7 0 0) s m args below meth cd H locs 0 0 (xQi G w0 (fun r z => r = rr.1 ∧ z = ((mW G b rr.2), sz)) below args s 0 0) (F0 m 41 ls []) := by
  have hx := hE.1; have hb := hE.2.1
  unfold F_X12_after_j41 at hF
  refine lv_iconst (v := (-1 : Int32)) hx hb dX12_after_41 (by decide) ?_
  exact B_X12_after_j42 hE hD (lv_sub hl [0] rfl) hF
def F_X12_after (u : xS) (xa : Int32) (xb : Int32) (xc : Int32) : Option (Int32 × xS) := (F_X12_isBridge u xa).bind (fun r1 => if r1 = 0 then F_X12_after_j41 u else (F_X12_isPurse xb.toInt64).bind (fun r5 => if r5 = 0 then F_X12_after_j41 u else (F_X12_in xc.toInt64 (0 : Int64) (60 : Int64)).bind (fun r9 => if r9 = 0 then F_X12_after_j41 u else (F_X12_afterMany u xa xb xc).bind (fun r13 => (F_X12_noneOf r13.1).bind (fun r15 => F_X12_after_j42 r13.2 r15)))))
theorem c_X12_after {l : Launch} {G : xG} {b sz : Nat} {rr : (Int32 × xS)} {u : xS} {xa : Int32} {xb : Int32} {xc : Int32} (hF : F_X12_after u xa xb xc = some rr) : xMi l G yX12_after cX12_after 4 (Option.some Jvm.ClassFile.FieldType.int) 7 0 0 [.ref b, .int xa, .int xb, .int xc] (mW G b u) sz (fun r z => r = rr.1 ∧ z = ((mW G b rr.2), sz)) := by
  unfold F_X12_after at hF
  refine x_startI rfl (Nat.le_of_ble_eq_true rfl) (fun p e s m args below meth cd ls hE hnm hl hD => ?_)
  have hx := hE.1; have hb := hE.2.1
  have hl : lv_has ls 4 [(0, .ref b), (1, .int xa), (2, .int xb), (3, .int xc)] := hl
  have hD : mD G (xA (mW G b u) s.heap.size) s.heap b u sz s.heap [] := hD
  refine lv_aload_n hx hb dX12_after_0 rfl (lv_at hl 0 rfl) ?_
  refine lv_iload_n hx hb dX12_after_1 rfl (lv_at hl 1 rfl) ?_
  obtain ⟨r1, k2, hF⟩ := xb_s hF
  refine kVz (As := [.int xa]) (rest := []) hE hl hD (c_X12_isBridge (b := b) k2) kl_X12_114 (mW_0 _ _ _) rfl rfl rfl rfl (Nat.le_of_ble_eq_true rfl) dX12_after_2 ⟨Nat.le_of_ble_eq_true rfl, Nat.le_of_ble_eq_true rfl⟩ ⟨Nat.le_of_ble_eq_true rfl, Nat.le_of_ble_eq_true rfl⟩ (fun H locs z3 (hD : mD G _ _ b u sz H locs) => ?_)
  refine lv_if_eq (tgt := 41) hx hb dX12_after_5 (by decide) (fun c4 => ?_) (fun c4 => ?_)
  · have hF := ite_p hF c4
    exact B_X12_after_j41 hE hD (lv_sub hl [0] rfl) hF
  · have hF := ite_n hF c4
    refine lv_iload_n hx hb dX12_after_8 rfl (lv_at hl 2 rfl) ?_
    refine lv_i2l (v := xb.toInt64) hx hb dX12_after_9 rfl ?_
    obtain ⟨r5, k6, hF⟩ := xb_s hF
    refine kSz (As := [.long xb.toInt64]) (rest := []) hE hl hD (c_X12_isPurse k6) kl_X12_134 rfl rfl (Nat.le_of_ble_eq_true rfl) dX12_after_10 ⟨Nat.le_of_ble_eq_true rfl, Nat.le_of_ble_eq_true rfl⟩ ⟨Nat.le_of_ble_eq_true rfl, Nat.le_of_ble_eq_true rfl⟩ (fun H locs z7 (hD : mD G _ _ b u sz H locs) => ?_)
    refine lv_if_eq (tgt := 41) hx hb dX12_after_13 (by decide) (fun c8 => ?_) (fun c8 => ?_)
    · have hF := ite_p hF c8
      exact B_X12_after_j41 hE hD (lv_sub hl [0] rfl) hF
    · have hF := ite_n hF c8
      refine lv_iload_n hx hb dX12_after_16 rfl (lv_at hl 3 rfl) ?_
      refine lv_i2l (v := xc.toInt64) hx hb dX12_after_17 rfl ?_
      refine lv_lconst (v := (0 : Int64)) hx hb dX12_after_18 (by decide) ?_
      refine lv_ldc2 (v := (60 : Int64)) hx hb hE.2.2.1 (hE.2.2.2.1 _ kw6_162) dX12_after_19 ?_
      obtain ⟨r9, k10, hF⟩ := xb_s hF
      refine kSz (As := [.long xc.toInt64, .long (0 : Int64), .long (60 : Int64)]) (rest := []) hE hl hD (c_X12_in k10) kl_X12_67 rfl rfl (Nat.le_of_ble_eq_true rfl) dX12_after_22 ⟨Nat.le_of_ble_eq_true rfl, Nat.le_of_ble_eq_true rfl⟩ ⟨Nat.le_of_ble_eq_true rfl, Nat.le_of_ble_eq_true rfl⟩ (fun H locs z11 (hD : mD G _ _ b u sz H locs) => ?_)
      refine lv_if_eq (tgt := 41) hx hb dX12_after_25 (by decide) (fun c12 => ?_) (fun c12 => ?_)
      · have hF := ite_p hF c12
        exact B_X12_after_j41 hE hD (lv_sub hl [0] rfl) hF
      · have hF := ite_n hF c12
        refine lv_aload_n hx hb dX12_after_28 rfl (lv_at hl 0 rfl) ?_
        refine lv_iload_n hx hb dX12_after_29 rfl (lv_at hl 1 rfl) ?_
        refine lv_iload_n hx hb dX12_after_30 rfl (lv_at hl 2 rfl) ?_
        refine lv_iload_n hx hb dX12_after_31 rfl (lv_at hl 3 rfl) ?_
        obtain ⟨r13, k14, hF⟩ := xb_s hF
        refine kVi (As := [.int xa, .int xb, .int xc]) (rest := []) hE hl hD (c_X12_afterMany (b := b) k14) kl_X12_154 (mW_0 _ _ _) rfl rfl rfl rfl (Nat.le_of_ble_eq_true rfl) dX12_after_32 ⟨Nat.le_of_ble_eq_true rfl, Nat.le_of_ble_eq_true rfl⟩ ⟨Nat.le_of_ble_eq_true rfl, Nat.le_of_ble_eq_true rfl⟩ (fun H locs (hD : mD G _ _ b r13.2 sz H locs) => ?_)
        obtain ⟨r15, k16, hF⟩ := xb_s hF
        refine kSi (As := [.int r13.1]) (rest := []) hE hl hD (c_X12_noneOf k16) kl_X12_158 rfl rfl (Nat.le_of_ble_eq_true rfl) dX12_after_35 ⟨Nat.le_of_ble_eq_true rfl, Nat.le_of_ble_eq_true rfl⟩ ⟨Nat.le_of_ble_eq_true rfl, Nat.le_of_ble_eq_true rfl⟩ (fun H locs (hD : mD G _ _ b r13.2 sz H locs) => ?_)
        refine lv_goto (tgt := 42) hx hb dX12_after_38 (by decide) ?_
        exact B_X12_after_j42 hE hD (lv_sub hl [0] rfl) hF
def F_X12_need_j79 (k42 : xS → Int32 → Int32 → Int32 → Int32 → Option (Int32 × xS)) (u : xS) (y1 : Int32) (y2 : Int32) (y3 : Int32) (y4 : Int32) : Option (Int32 × xS) := k42 u y1 y2 y3 y4
theorem B_X12_need_j79 {p : Program} {l : Launch} {e : Env} {s : State} {m : MethodId} {args : Array Value} {below : List Frame} {meth : Method} {cd : Code} {G : xG} {w0 : xW} {b sz : Nat} {rr : (Int32 × xS)} (hE : xE p s m args meth cd cX12_need RX12 G 6 (Option.some Jvm.ClassFile.FieldType.int)) {u : xS} (k42 : xS → Int32 → Int32 → Int32 → Int32 → Option (Int32 × xS)) (h42 : ∀ {u1 : xS} {y1 : Int32} {y2 : Int32} {y3 : Int32} {y4 : Int32} {H : Heap} {locs : List Loc} {ls : Array Slot}, mD G (xA w0 s.heap.size) s.heap b u1 sz H locs → lv_has ls 6 [(0, .ref b), (1, .int y1), (2, .int y2), (3, .int y3), (4, .int y4)] → k42 u1 y1 y2 y3 y4 = some rr → W p l e (xR 7 0 0) s m args below meth cd H locs 0 0 (xQi G w0 (fun r z => r = rr.1 ∧ z = ((mW G b rr.2), sz)) below args s 0 0) (F0 m 42 ls [])) {y1 : Int32} {y2 : Int32} {y3 : Int32} {y4 : Int32} {H : Heap} {locs : List Loc} {ls : Array Slot} (hD : mD G (xA w0 s.heap.size) s.heap b u sz H locs) (hl : lv_has ls 6 [(0, .ref b), (1, .int y1), (2, .int y2), (3, .int y3), (4, .int y4)]) (hF : F_X12_need_j79 k42 u y1 y2 y3 y4 = some rr) : W p l e (xR 7 0 0) s m args below meth cd H locs 0 0 (xQi G w0 (fun r z => r = rr.1 ∧ z = ((mW G b rr.2), sz)) below args s 0 0) (F0 m 79 ls []) := by
  have hx := hE.1; have hb := hE.2.1
  unfold F_X12_need_j79 at hF
  refine lv_goto (tgt := 42) hx hb dX12_need_79 (by decide) ?_
  exact h42 hD (lv_sub hl [0, 1, 2, 3, 4] rfl) hF
def F_X12_need_l42 : Nat → xS → Int32 → Int32 → Int32 → Int32 → Option (Int32 × xS)
  | 0, _, _, _, _, _ => none
  | nn + 1, u, y1, y2, y3, y4 => if (y4 - y3) ≤ (1 : Int32) then some (y4, u) else xlet ((y3 + y4) / (2 : Int32)) (fun x2 => (F_X12_afterMany u y1 x2 y2).bind (fun r3 => if 0 ≤ r3.1 then F_X12_need_j79 (F_X12_need_l42 nn) r3.2 y1 y2 y3 x2 else F_X12_need_j79 (F_X12_need_l42 nn) r3.2 y1 y2 x2 y4))
theorem L_X12_need_l42 {p : Program} {l : Launch} {e : Env} {s : State} {m : MethodId} {args : Array Value} {below : List Frame} {meth : Method} {cd : Code} {G : xG} {w0 : xW} {b sz : Nat} {rr : (Int32 × xS)} (hE : xE p s m args meth cd cX12_need RX12 G 6 (Option.some Jvm.ClassFile.FieldType.int)) : ∀ (nn : Nat) {u : xS} {y1 : Int32} {y2 : Int32} {y3 : Int32} {y4 : Int32} {H : Heap} {locs : List Loc} {ls : Array Slot}, mD G (xA w0 s.heap.size) s.heap b u sz H locs → lv_has ls 6 [(0, .ref b), (1, .int y1), (2, .int y2), (3, .int y3), (4, .int y4)] → F_X12_need_l42 nn u y1 y2 y3 y4 = some rr → W p l e (xR 7 0 0) s m args below meth cd H locs 0 0 (xQi G w0 (fun r z => r = rr.1 ∧ z = ((mW G b rr.2), sz)) below args s 0 0) (F0 m 42 ls []) := by
  have hx := hE.1; have hb := hE.2.1
  intro nn
  induction nn with
  | zero => intro u y1 y2 y3 y4 H locs ls hD hl hF; rw [F_X12_need_l42] at hF; cases hF
  | succ nn ih =>
    intro u y1 y2 y3 y4 H locs ls hD hl hF
    rw [F_X12_need_l42] at hF
    refine lv_iload hx hb dX12_need_42 (lv_at hl 4 rfl) ?_
    refine lv_iload_n hx hb dX12_need_44 rfl (lv_at hl 3 rfl) ?_
    refine lv_isub hx hb dX12_need_45 ?_
    refine lv_iconst (v := (1 : Int32)) hx hb dX12_need_46 (by decide) ?_
    refine lv_icmp_le (tgt := 82) hx hb dX12_need_47 (by decide) (fun c1 => ?_) (fun c1 => ?_)
    · have hF := ite_p hF c1
      refine lv_iload hx hb dX12_need_82 (lv_at hl 4 rfl) ?_
      obtain rfl := Option.some.inj hF
      exact x_iret hE hD ⟨rfl, rfl⟩ (by omega) (by omega) dX12_need_84
    · have hF := ite_n hF c1
      refine lv_iload_n hx hb dX12_need_50 rfl (lv_at hl 3 rfl) ?_
      refine lv_iload hx hb dX12_need_51 (lv_at hl 4 rfl) ?_
      refine lv_iadd hx hb dX12_need_53 ?_
      refine lv_iconst (v := (2 : Int32)) hx hb dX12_need_54 (by decide) ?_
      refine lv_idiv hx hb dX12_need_55 (by decide) ?_
      refine lv_topi (fun x2 ex2 => ?_)
      have hF := xlet_e hF ex2
      refine lv_istore (lv' := [(5, .int x2), (0, .ref b), (1, .int y1), (2, .int y2), (3, .int y3), (4, .int y4)]) hx hb dX12_need_56 hl (by decide) rfl (fun ls hl => ?_)
      refine lv_aload_n hx hb dX12_need_58 rfl (lv_at hl 1 rfl) ?_
      refine lv_iload_n hx hb dX12_need_59 rfl (lv_at hl 2 rfl) ?_
      refine lv_iload hx hb dX12_need_60 (lv_at hl 0 rfl) ?_
      refine lv_iload_n hx hb dX12_need_62 rfl (lv_at hl 3 rfl) ?_
      obtain ⟨r3, k4, hF⟩ := xb_s hF
      refine kVi (As := [.int y1, .int x2, .int y2]) (rest := []) hE hl hD (c_X12_afterMany (b := b) k4) kl_X12_154 (mW_0 _ _ _) rfl rfl rfl rfl (Nat.le_of_ble_eq_true rfl) dX12_need_63 ⟨Nat.le_of_ble_eq_true rfl, Nat.le_of_ble_eq_true rfl⟩ ⟨Nat.le_of_ble_eq_true rfl, Nat.le_of_ble_eq_true rfl⟩ (fun H locs (hD : mD G _ _ b r3.2 sz H locs) => ?_)
      refine lv_if_ge (tgt := 75) hx hb dX12_need_66 (by decide) (fun c5 => ?_) (fun c5 => ?_)
      · have hF := ite_p hF c5
        refine lv_iload hx hb dX12_need_75 (lv_at hl 0 rfl) ?_
        refine lv_istore (lv' := [(4, .int x2), (5, .int x2), (0, .ref b), (1, .int y1), (2, .int y2), (3, .int y3)]) hx hb dX12_need_77 hl (by decide) rfl (fun ls hl => ?_)
        exact B_X12_need_j79 hE (F_X12_need_l42 nn) ih hD (lv_sub hl [2, 3, 4, 5, 0] rfl) hF
      · have hF := ite_n hF c5
        refine lv_iload hx hb dX12_need_69 (lv_at hl 0 rfl) ?_
        refine lv_istore_n (lv' := [(3, .int x2), (5, .int x2), (0, .ref b), (1, .int y1), (2, .int y2), (4, .int y4)]) hx hb dX12_need_71 rfl hl (by decide) rfl (fun ls hl => ?_)
        refine lv_goto (tgt := 79) hx hb dX12_need_72 (by decide) ?_
        exact B_X12_need_j79 hE (F_X12_need_l42 nn) ih hD (lv_sub hl [2, 3, 4, 0, 5] rfl) hF
def F_X12_need_j20 (u : xS)  : Option (Int32 × xS) := some ((-1 : Int32), u)
theorem B_X12_need_j20 {p : Program} {l : Launch} {e : Env} {s : State} {m : MethodId} {args : Array Value} {below : List Frame} {meth : Method} {cd : Code} {G : xG} {w0 : xW} {b sz : Nat} {rr : (Int32 × xS)} (hE : xE p s m args meth cd cX12_need RX12 G 6 (Option.some Jvm.ClassFile.FieldType.int)) {u : xS}  {H : Heap} {locs : List Loc} {ls : Array Slot} (hD : mD G (xA w0 s.heap.size) s.heap b u sz H locs) (hl : lv_has ls 6 [(0, .ref b)]) (hF : F_X12_need_j20 u  = some rr) : W p l e (xR 7 0 0) s m args below meth cd H locs 0 0 (xQi G w0 (fun r z => r = rr.1 ∧ z = ((mW G b rr.2), sz)) below args s 0 0) (F0 m 20 ls []) := by
  have hx := hE.1; have hb := hE.2.1
  unfold F_X12_need_j20 at hF
  refine lv_iconst (v := (-1 : Int32)) hx hb dX12_need_20 (by decide) ?_
  obtain rfl := Option.some.inj hF
  exact x_iret hE hD ⟨rfl, rfl⟩ (by omega) (by omega) dX12_need_21
def F_X12_need (u : xS) (xa : Int32) (xb : Int32) : Option (Int32 × xS) := (F_X12_isBridge u xa).bind (fun r6 => if r6 = 0 then F_X12_need_j20 u else (F_X12_in xb.toInt64 (0 : Int64) (60 : Int64)).bind (fun r10 => if r10 = 0 then F_X12_need_j20 u else (F_X12_afterMany u xa (1000000000 : Int32) xb).bind (fun r14 => if 0 ≤ r14.1 then F_X12_need_l42 xFuel r14.2 xa xb (-1 : Int32) (1000000000 : Int32) else some ((-3 : Int32), r14.2))))
theorem c_X12_need {l : Launch} {G : xG} {b sz : Nat} {rr : (Int32 × xS)} {u : xS} {xa : Int32} {xb : Int32} (hF : F_X12_need u xa xb = some rr) : xMi l G yX12_need cX12_need 6 (Option.some Jvm.ClassFile.FieldType.int) 7 0 0 [.ref b, .int xa, .int xb] (mW G b u) sz (fun r z => r = rr.1 ∧ z = ((mW G b rr.2), sz)) := by
  unfold F_X12_need at hF
  refine x_startI rfl (Nat.le_of_ble_eq_true rfl) (fun p e s m args below meth cd ls hE hnm hl hD => ?_)
  have hx := hE.1; have hb := hE.2.1
  have hl : lv_has ls 6 [(0, .ref b), (1, .int xa), (2, .int xb)] := hl
  have hD : mD G (xA (mW G b u) s.heap.size) s.heap b u sz s.heap [] := hD
  refine lv_aload_n hx hb dX12_need_0 rfl (lv_at hl 0 rfl) ?_
  refine lv_iload_n hx hb dX12_need_1 rfl (lv_at hl 1 rfl) ?_
  obtain ⟨r6, k7, hF⟩ := xb_s hF
  refine kVz (As := [.int xa]) (rest := []) hE hl hD (c_X12_isBridge (b := b) k7) kl_X12_114 (mW_0 _ _ _) rfl rfl rfl rfl (Nat.le_of_ble_eq_true rfl) dX12_need_2 ⟨Nat.le_of_ble_eq_true rfl, Nat.le_of_ble_eq_true rfl⟩ ⟨Nat.le_of_ble_eq_true rfl, Nat.le_of_ble_eq_true rfl⟩ (fun H locs z8 (hD : mD G _ _ b u sz H locs) => ?_)
  refine lv_if_eq (tgt := 20) hx hb dX12_need_5 (by decide) (fun c9 => ?_) (fun c9 => ?_)
  · have hF := ite_p hF c9
    exact B_X12_need_j20 hE hD (lv_sub hl [0] rfl) hF
  · have hF := ite_n hF c9
    refine lv_iload_n hx hb dX12_need_8 rfl (lv_at hl 2 rfl) ?_
    refine lv_i2l (v := xb.toInt64) hx hb dX12_need_9 rfl ?_
    refine lv_lconst (v := (0 : Int64)) hx hb dX12_need_10 (by decide) ?_
    refine lv_ldc2 (v := (60 : Int64)) hx hb hE.2.2.1 (hE.2.2.2.1 _ kw6_162) dX12_need_11 ?_
    obtain ⟨r10, k11, hF⟩ := xb_s hF
    refine kSz (As := [.long xb.toInt64, .long (0 : Int64), .long (60 : Int64)]) (rest := []) hE hl hD (c_X12_in k11) kl_X12_67 rfl rfl (Nat.le_of_ble_eq_true rfl) dX12_need_14 ⟨Nat.le_of_ble_eq_true rfl, Nat.le_of_ble_eq_true rfl⟩ ⟨Nat.le_of_ble_eq_true rfl, Nat.le_of_ble_eq_true rfl⟩ (fun H locs z12 (hD : mD G _ _ b u sz H locs) => ?_)
    refine lv_if_ne (tgt := 22) hx hb dX12_need_17 (by decide) (fun c13 => ?_) (fun c13 => ?_)
    · have hF := ite_n hF c13
      refine lv_aload_n hx hb dX12_need_22 rfl (lv_at hl 0 rfl) ?_
      refine lv_iload_n hx hb dX12_need_23 rfl (lv_at hl 1 rfl) ?_
      refine lv_ldc (v := (1000000000 : Int32)) hx hb hE.2.2.1 (hE.2.2.2.1 _ kw6_145) dX12_need_24 ?_
      refine lv_iload_n hx hb dX12_need_26 rfl (lv_at hl 2 rfl) ?_
      obtain ⟨r14, k15, hF⟩ := xb_s hF
      refine kVi (As := [.int xa, .int (1000000000 : Int32), .int xb]) (rest := []) hE hl hD (c_X12_afterMany (b := b) k15) kl_X12_154 (mW_0 _ _ _) rfl rfl rfl rfl (Nat.le_of_ble_eq_true rfl) dX12_need_27 ⟨Nat.le_of_ble_eq_true rfl, Nat.le_of_ble_eq_true rfl⟩ ⟨Nat.le_of_ble_eq_true rfl, Nat.le_of_ble_eq_true rfl⟩ (fun H locs (hD : mD G _ _ b r14.2 sz H locs) => ?_)
      refine lv_if_ge (tgt := 36) hx hb dX12_need_30 (by decide) (fun c16 => ?_) (fun c16 => ?_)
      · have hF := ite_p hF c16
        refine lv_iconst (v := (-1 : Int32)) hx hb dX12_need_36 (by decide) ?_
        refine lv_istore_n (lv' := [(3, .int (-1 : Int32)), (0, .ref b), (1, .int xa), (2, .int xb)]) hx hb dX12_need_37 rfl hl (by decide) rfl (fun ls hl => ?_)
        refine lv_ldc (v := (1000000000 : Int32)) hx hb hE.2.2.1 (hE.2.2.2.1 _ kw6_145) dX12_need_38 ?_
        refine lv_istore (lv' := [(4, .int (1000000000 : Int32)), (3, .int (-1 : Int32)), (0, .ref b), (1, .int xa), (2, .int xb)]) hx hb dX12_need_40 hl (by decide) rfl (fun ls hl => ?_)
        exact L_X12_need_l42 hE _ hD (lv_sub hl [2, 3, 4, 1, 0] rfl) hF
      · have hF := ite_n hF c16
        refine lv_bipush (v := (-3 : Int32)) hx hb dX12_need_33 (by decide) ?_
        obtain rfl := Option.some.inj hF
        exact x_iret hE hD ⟨rfl, rfl⟩ (by omega) (by omega) dX12_need_35
    · have hF := ite_p hF c13
      exact B_X12_need_j20 hE hD (lv_sub hl [0] rfl) hF
def F_X12_ever_j49 (u : xS) (s0 : Int32) : Option (Int32 × xS) := some (s0, u)
theorem B_X12_ever_j49 {p : Program} {l : Launch} {e : Env} {s : State} {m : MethodId} {args : Array Value} {below : List Frame} {meth : Method} {cd : Code} {G : xG} {w0 : xW} {b sz : Nat} {rr : (Int32 × xS)} (hE : xE p s m args meth cd cX12_ever RX12 G 3 (Option.some Jvm.ClassFile.FieldType.int)) {u : xS} {s0 : Int32} {H : Heap} {locs : List Loc} {ls : Array Slot} (hD : mD G (xA w0 s.heap.size) s.heap b u sz H locs) (hl : lv_has ls 3 [(0, .ref b)]) (hF : F_X12_ever_j49 u s0 = some rr) : W p l e (xR 7 0 0) s m args below meth cd H locs 0 0 (xQi G w0 (fun r z => r = rr.1 ∧ z = ((mW G b rr.2), sz)) below args s 0 0) (F0 m 49 ls [.int s0]) := by
  have hx := hE.1; have hb := hE.2.1
  unfold F_X12_ever_j49 at hF
  obtain rfl := Option.some.inj hF
  exact x_iret hE hD ⟨rfl, rfl⟩ (by omega) (by omega) dX12_ever_49
def F_X12_ever_j36 (u : xS) (y2 : Int32) : Option (Int32 × xS) := if y2 ≤ (9999 : Int32) then F_X12_ever_j49 u y2 else F_X12_ever_j49 u (-3 : Int32)
theorem B_X12_ever_j36 {p : Program} {l : Launch} {e : Env} {s : State} {m : MethodId} {args : Array Value} {below : List Frame} {meth : Method} {cd : Code} {G : xG} {w0 : xW} {b sz : Nat} {rr : (Int32 × xS)} (hE : xE p s m args meth cd cX12_ever RX12 G 3 (Option.some Jvm.ClassFile.FieldType.int)) {u : xS} {y2 : Int32} {H : Heap} {locs : List Loc} {ls : Array Slot} (hD : mD G (xA w0 s.heap.size) s.heap b u sz H locs) (hl : lv_has ls 3 [(0, .ref b), (2, .int y2)]) (hF : F_X12_ever_j36 u y2 = some rr) : W p l e (xR 7 0 0) s m args below meth cd H locs 0 0 (xQi G w0 (fun r z => r = rr.1 ∧ z = ((mW G b rr.2), sz)) below args s 0 0) (F0 m 36 ls []) := by
  have hx := hE.1; have hb := hE.2.1
  unfold F_X12_ever_j36 at hF
  refine lv_iload_n hx hb dX12_ever_36 rfl (lv_at hl 1 rfl) ?_
  refine lv_sipush (v := (9999 : Int32)) hx hb dX12_ever_37 (by decide) ?_
  refine lv_icmp_le (tgt := 48) hx hb dX12_ever_40 (by decide) (fun c1 => ?_) (fun c1 => ?_)
  · have hF := ite_p hF c1
    refine lv_iload_n hx hb dX12_ever_48 rfl (lv_at hl 1 rfl) ?_
    exact B_X12_ever_j49 hE hD (lv_sub hl [0] rfl) hF
  · have hF := ite_n hF c1
    refine lv_bipush (v := (-3 : Int32)) hx hb dX12_ever_43 (by decide) ?_
    refine lv_goto (tgt := 49) hx hb dX12_ever_45 (by decide) ?_
    exact B_X12_ever_j49 hE hD (lv_sub hl [0] rfl) hF
def F_X12_ever_l12 : Nat → xS → Int32 → Int32 → Option (Int32 × xS)
  | 0, _, _, _ => none
  | nn + 1, u, y1, y2 => if (10000 : Int32) ≤ y2 then F_X12_ever_j36 u y2 else (F_X12_becomes u y1 y2.toInt64).bind (fun r3 => if y2 ≤ r3.1 then F_X12_ever_j36 r3.2 y2 else xlet (y2 + (1 : Int32)) (fun x6 => F_X12_ever_l12 nn r3.2 y1 x6))
theorem L_X12_ever_l12 {p : Program} {l : Launch} {e : Env} {s : State} {m : MethodId} {args : Array Value} {below : List Frame} {meth : Method} {cd : Code} {G : xG} {w0 : xW} {b sz : Nat} {rr : (Int32 × xS)} (hE : xE p s m args meth cd cX12_ever RX12 G 3 (Option.some Jvm.ClassFile.FieldType.int)) : ∀ (nn : Nat) {u : xS} {y1 : Int32} {y2 : Int32} {H : Heap} {locs : List Loc} {ls : Array Slot}, mD G (xA w0 s.heap.size) s.heap b u sz H locs → lv_has ls 3 [(0, .ref b), (1, .int y1), (2, .int y2)] → F_X12_ever_l12 nn u y1 y2 = some rr → W p l e (xR 7 0 0) s m args below meth cd H locs 0 0 (xQi G w0 (fun r z => r = rr.1 ∧ z = ((mW G b rr.2), sz)) below args s 0 0) (F0 m 12 ls []) := by
  have hx := hE.1; have hb := hE.2.1
  intro nn
  induction nn with
  | zero => intro u y1 y2 H locs ls hD hl hF; rw [F_X12_ever_l12] at hF; cases hF
  | succ nn ih =>
    intro u y1 y2 H locs ls hD hl hF
    rw [F_X12_ever_l12] at hF
    refine lv_iload_n hx hb dX12_ever_12 rfl (lv_at hl 2 rfl) ?_
    refine lv_sipush (v := (10000 : Int32)) hx hb dX12_ever_13 (by decide) ?_
    refine lv_icmp_ge (tgt := 36) hx hb dX12_ever_16 (by decide) (fun c2 => ?_) (fun c2 => ?_)
    · have hF := ite_p hF c2
      exact B_X12_ever_j36 hE hD (lv_sub hl [0, 2] rfl) hF
    · have hF := ite_n hF c2
      refine lv_aload_n hx hb dX12_ever_19 rfl (lv_at hl 0 rfl) ?_
      refine lv_iload_n hx hb dX12_ever_20 rfl (lv_at hl 1 rfl) ?_
      refine lv_iload_n hx hb dX12_ever_21 rfl (lv_at hl 2 rfl) ?_
      refine lv_i2l (v := y2.toInt64) hx hb dX12_ever_22 rfl ?_
      obtain ⟨r3, k4, hF⟩ := xb_s hF
      refine kVi (As := [.int y1, .long y2.toInt64]) (rest := []) hE hl hD (c_X12_becomes (b := b) k4) kl_X12_144 (mW_0 _ _ _) rfl rfl rfl rfl (Nat.le_of_ble_eq_true rfl) dX12_ever_23 ⟨Nat.le_of_ble_eq_true rfl, Nat.le_of_ble_eq_true rfl⟩ ⟨Nat.le_of_ble_eq_true rfl, Nat.le_of_ble_eq_true rfl⟩ (fun H locs (hD : mD G _ _ b r3.2 sz H locs) => ?_)
      refine lv_iload_n hx hb dX12_ever_26 rfl (lv_at hl 2 rfl) ?_
      refine lv_icmp_ge (tgt := 36) hx hb dX12_ever_27 (by decide) (fun c5 => ?_) (fun c5 => ?_)
      · have hF := ite_p hF c5
        exact B_X12_ever_j36 hE hD (lv_sub hl [0, 2] rfl) hF
      · have hF := ite_n hF c5
        obtain ⟨x6, ex6⟩ : ∃ y : Int32, y = y2 + (1 : Int32) := ⟨_, rfl⟩
        have hF := xlet_e hF ex6
        refine lv_iinc (v := x6) (lv' := [(2, .int x6), (0, .ref b), (1, .int y1)]) hx hb dX12_ever_30 hl (k := 2) rfl (by rw [ex6]; rfl) (by decide) rfl (fun ls hl => ?_)
        refine lv_goto (tgt := 12) hx hb dX12_ever_33 (by decide) ?_
        exact ih hD (lv_sub hl [1, 2, 0] rfl) hF
def F_X12_ever (u : xS) (xa : Int32) : Option (Int32 × xS) := (F_X12_isBridge u xa).bind (fun r7 => if r7 = 0 then some ((-1 : Int32), u) else F_X12_ever_l12 xFuel u xa (0 : Int32))
theorem c_X12_ever {l : Launch} {G : xG} {b sz : Nat} {rr : (Int32 × xS)} {u : xS} {xa : Int32} (hF : F_X12_ever u xa = some rr) : xMi l G yX12_ever cX12_ever 3 (Option.some Jvm.ClassFile.FieldType.int) 7 0 0 [.ref b, .int xa] (mW G b u) sz (fun r z => r = rr.1 ∧ z = ((mW G b rr.2), sz)) := by
  unfold F_X12_ever at hF
  refine x_startI rfl (Nat.le_of_ble_eq_true rfl) (fun p e s m args below meth cd ls hE hnm hl hD => ?_)
  have hx := hE.1; have hb := hE.2.1
  have hl : lv_has ls 3 [(0, .ref b), (1, .int xa)] := hl
  have hD : mD G (xA (mW G b u) s.heap.size) s.heap b u sz s.heap [] := hD
  refine lv_aload_n hx hb dX12_ever_0 rfl (lv_at hl 0 rfl) ?_
  refine lv_iload_n hx hb dX12_ever_1 rfl (lv_at hl 1 rfl) ?_
  obtain ⟨r7, k8, hF⟩ := xb_s hF
  refine kVz (As := [.int xa]) (rest := []) hE hl hD (c_X12_isBridge (b := b) k8) kl_X12_114 (mW_0 _ _ _) rfl rfl rfl rfl (Nat.le_of_ble_eq_true rfl) dX12_ever_2 ⟨Nat.le_of_ble_eq_true rfl, Nat.le_of_ble_eq_true rfl⟩ ⟨Nat.le_of_ble_eq_true rfl, Nat.le_of_ble_eq_true rfl⟩ (fun H locs z9 (hD : mD G _ _ b u sz H locs) => ?_)
  refine lv_if_ne (tgt := 10) hx hb dX12_ever_5 (by decide) (fun c10 => ?_) (fun c10 => ?_)
  · have hF := ite_n hF c10
    refine lv_iconst (v := (0 : Int32)) hx hb dX12_ever_10 (by decide) ?_
    refine lv_istore_n (lv' := [(2, .int (0 : Int32)), (0, .ref b), (1, .int xa)]) hx hb dX12_ever_11 rfl hl (by decide) rfl (fun ls hl => ?_)
    exact L_X12_ever_l12 hE _ hD (lv_sub hl [1, 2, 0] rfl) hF
  · have hF := ite_p hF c10
    refine lv_iconst (v := (-1 : Int32)) hx hb dX12_ever_8 (by decide) ?_
    obtain rfl := Option.some.inj hF
    exact x_iret hE hD ⟨rfl, rfl⟩ (by omega) (by omega) dX12_ever_9
def F_X12_same_j49 (u : xS) (s0 : Int32) : Option (Int32 × xS) := some (s0, u)
theorem B_X12_same_j49 {p : Program} {l : Launch} {e : Env} {s : State} {m : MethodId} {args : Array Value} {below : List Frame} {meth : Method} {cd : Code} {G : xG} {w0 : xW} {b sz : Nat} {rr : (Int32 × xS)} (hE : xE p s m args meth cd cX12_same RX12 G 3 (Option.some Jvm.ClassFile.FieldType.int)) {u : xS} {s0 : Int32} {H : Heap} {locs : List Loc} {ls : Array Slot} (hD : mD G (xA w0 s.heap.size) s.heap b u sz H locs) (hl : lv_has ls 3 [(0, .ref b)]) (hF : F_X12_same_j49 u s0 = some rr) : W p l e (xR 7 0 0) s m args below meth cd H locs 0 0 (xQi G w0 (fun r z => r = rr.1 ∧ z = ((mW G b rr.2), sz)) below args s 0 0) (F0 m 49 ls [.int s0]) := by
  have hx := hE.1; have hb := hE.2.1
  unfold F_X12_same_j49 at hF
  obtain rfl := Option.some.inj hF
  exact x_iret hE hD ⟨rfl, rfl⟩ (by omega) (by omega) dX12_same_49
def F_X12_same_j36 (u : xS) (y2 : Int32) : Option (Int32 × xS) := if y2 ≤ (9999 : Int32) then F_X12_same_j49 u y2 else F_X12_same_j49 u (-3 : Int32)
theorem B_X12_same_j36 {p : Program} {l : Launch} {e : Env} {s : State} {m : MethodId} {args : Array Value} {below : List Frame} {meth : Method} {cd : Code} {G : xG} {w0 : xW} {b sz : Nat} {rr : (Int32 × xS)} (hE : xE p s m args meth cd cX12_same RX12 G 3 (Option.some Jvm.ClassFile.FieldType.int)) {u : xS} {y2 : Int32} {H : Heap} {locs : List Loc} {ls : Array Slot} (hD : mD G (xA w0 s.heap.size) s.heap b u sz H locs) (hl : lv_has ls 3 [(0, .ref b), (2, .int y2)]) (hF : F_X12_same_j36 u y2 = some rr) : W p l e (xR 7 0 0) s m args below meth cd H locs 0 0 (xQi G w0 (fun r z => r = rr.1 ∧ z = ((mW G b rr.2), sz)) below args s 0 0) (F0 m 36 ls []) := by
  have hx := hE.1; have hb := hE.2.1
  unfold F_X12_same_j36 at hF
  refine lv_iload_n hx hb dX12_same_36 rfl (lv_at hl 1 rfl) ?_
  refine lv_sipush (v := (9999 : Int32)) hx hb dX12_same_37 (by decide) ?_
  refine lv_icmp_le (tgt := 48) hx hb dX12_same_40 (by decide) (fun c1 => ?_) (fun c1 => ?_)
  · have hF := ite_p hF c1
    refine lv_iload_n hx hb dX12_same_48 rfl (lv_at hl 1 rfl) ?_
    exact B_X12_same_j49 hE hD (lv_sub hl [0] rfl) hF
  · have hF := ite_n hF c1
    refine lv_bipush (v := (-3 : Int32)) hx hb dX12_same_43 (by decide) ?_
    refine lv_goto (tgt := 49) hx hb dX12_same_45 (by decide) ?_
    exact B_X12_same_j49 hE hD (lv_sub hl [0] rfl) hF
def F_X12_same_l12 : Nat → xS → Int32 → Int32 → Option (Int32 × xS)
  | 0, _, _, _ => none
  | nn + 1, u, y1, y2 => if (10000 : Int32) ≤ y2 then F_X12_same_j36 u y2 else (F_X12_becomes u y1 y2.toInt64).bind (fun r3 => if r3.1 = y2 then F_X12_same_j36 r3.2 y2 else xlet (y2 + (1 : Int32)) (fun x6 => F_X12_same_l12 nn r3.2 y1 x6))
theorem L_X12_same_l12 {p : Program} {l : Launch} {e : Env} {s : State} {m : MethodId} {args : Array Value} {below : List Frame} {meth : Method} {cd : Code} {G : xG} {w0 : xW} {b sz : Nat} {rr : (Int32 × xS)} (hE : xE p s m args meth cd cX12_same RX12 G 3 (Option.some Jvm.ClassFile.FieldType.int)) : ∀ (nn : Nat) {u : xS} {y1 : Int32} {y2 : Int32} {H : Heap} {locs : List Loc} {ls : Array Slot}, mD G (xA w0 s.heap.size) s.heap b u sz H locs → lv_has ls 3 [(0, .ref b), (1, .int y1), (2, .int y2)] → F_X12_same_l12 nn u y1 y2 = some rr → W p l e (xR 7 0 0) s m args below meth cd H locs 0 0 (xQi G w0 (fun r z => r = rr.1 ∧ z = ((mW G b rr.2), sz)) below args s 0 0) (F0 m 12 ls []) := by
  have hx := hE.1; have hb := hE.2.1
  intro nn
  induction nn with
  | zero => intro u y1 y2 H locs ls hD hl hF; rw [F_X12_same_l12] at hF; cases hF
  | succ nn ih =>
    intro u y1 y2 H locs ls hD hl hF
    rw [F_X12_same_l12] at hF
    refine lv_iload_n hx hb dX12_same_12 rfl (lv_at hl 2 rfl) ?_
    refine lv_sipush (v := (10000 : Int32)) hx hb dX12_same_13 (by decide) ?_
    refine lv_icmp_ge (tgt := 36) hx hb dX12_same_16 (by decide) (fun c2 => ?_) (fun c2 => ?_)
    · have hF := ite_p hF c2
      exact B_X12_same_j36 hE hD (lv_sub hl [0, 2] rfl) hF
    · have hF := ite_n hF c2
      refine lv_aload_n hx hb dX12_same_19 rfl (lv_at hl 0 rfl) ?_
      refine lv_iload_n hx hb dX12_same_20 rfl (lv_at hl 1 rfl) ?_
      refine lv_iload_n hx hb dX12_same_21 rfl (lv_at hl 2 rfl) ?_
      refine lv_i2l (v := y2.toInt64) hx hb dX12_same_22 rfl ?_
      obtain ⟨r3, k4, hF⟩ := xb_s hF
      refine kVi (As := [.int y1, .long y2.toInt64]) (rest := []) hE hl hD (c_X12_becomes (b := b) k4) kl_X12_144 (mW_0 _ _ _) rfl rfl rfl rfl (Nat.le_of_ble_eq_true rfl) dX12_same_23 ⟨Nat.le_of_ble_eq_true rfl, Nat.le_of_ble_eq_true rfl⟩ ⟨Nat.le_of_ble_eq_true rfl, Nat.le_of_ble_eq_true rfl⟩ (fun H locs (hD : mD G _ _ b r3.2 sz H locs) => ?_)
      refine lv_iload_n hx hb dX12_same_26 rfl (lv_at hl 2 rfl) ?_
      refine lv_icmp_eq (tgt := 36) hx hb dX12_same_27 (by decide) (fun c5 => ?_) (fun c5 => ?_)
      · have hF := ite_p hF c5
        exact B_X12_same_j36 hE hD (lv_sub hl [0, 2] rfl) hF
      · have hF := ite_n hF c5
        obtain ⟨x6, ex6⟩ : ∃ y : Int32, y = y2 + (1 : Int32) := ⟨_, rfl⟩
        have hF := xlet_e hF ex6
        refine lv_iinc (v := x6) (lv' := [(2, .int x6), (0, .ref b), (1, .int y1)]) hx hb dX12_same_30 hl (k := 2) rfl (by rw [ex6]; rfl) (by decide) rfl (fun ls hl => ?_)
        refine lv_goto (tgt := 12) hx hb dX12_same_33 (by decide) ?_
        exact ih hD (lv_sub hl [1, 2, 0] rfl) hF
def F_X12_same (u : xS) (xa : Int32) : Option (Int32 × xS) := (F_X12_isBridge u xa).bind (fun r7 => if r7 = 0 then some ((-1 : Int32), u) else F_X12_same_l12 xFuel u xa (0 : Int32))
theorem c_X12_same {l : Launch} {G : xG} {b sz : Nat} {rr : (Int32 × xS)} {u : xS} {xa : Int32} (hF : F_X12_same u xa = some rr) : xMi l G yX12_same cX12_same 3 (Option.some Jvm.ClassFile.FieldType.int) 7 0 0 [.ref b, .int xa] (mW G b u) sz (fun r z => r = rr.1 ∧ z = ((mW G b rr.2), sz)) := by
  unfold F_X12_same at hF
  refine x_startI rfl (Nat.le_of_ble_eq_true rfl) (fun p e s m args below meth cd ls hE hnm hl hD => ?_)
  have hx := hE.1; have hb := hE.2.1
  have hl : lv_has ls 3 [(0, .ref b), (1, .int xa)] := hl
  have hD : mD G (xA (mW G b u) s.heap.size) s.heap b u sz s.heap [] := hD
  refine lv_aload_n hx hb dX12_same_0 rfl (lv_at hl 0 rfl) ?_
  refine lv_iload_n hx hb dX12_same_1 rfl (lv_at hl 1 rfl) ?_
  obtain ⟨r7, k8, hF⟩ := xb_s hF
  refine kVz (As := [.int xa]) (rest := []) hE hl hD (c_X12_isBridge (b := b) k8) kl_X12_114 (mW_0 _ _ _) rfl rfl rfl rfl (Nat.le_of_ble_eq_true rfl) dX12_same_2 ⟨Nat.le_of_ble_eq_true rfl, Nat.le_of_ble_eq_true rfl⟩ ⟨Nat.le_of_ble_eq_true rfl, Nat.le_of_ble_eq_true rfl⟩ (fun H locs z9 (hD : mD G _ _ b u sz H locs) => ?_)
  refine lv_if_ne (tgt := 10) hx hb dX12_same_5 (by decide) (fun c10 => ?_) (fun c10 => ?_)
  · have hF := ite_n hF c10
    refine lv_iconst (v := (0 : Int32)) hx hb dX12_same_10 (by decide) ?_
    refine lv_istore_n (lv' := [(2, .int (0 : Int32)), (0, .ref b), (1, .int xa)]) hx hb dX12_same_11 rfl hl (by decide) rfl (fun ls hl => ?_)
    exact L_X12_same_l12 hE _ hD (lv_sub hl [1, 2, 0] rfl) hF
  · have hF := ite_p hF c10
    refine lv_iconst (v := (-1 : Int32)) hx hb dX12_same_8 (by decide) ?_
    obtain rfl := Option.some.inj hF
    exact x_iret hE hD ⟨rfl, rfl⟩ (by omega) (by omega) dX12_same_9
def F_X12_few_j85 (u : xS) (s0 : Int32) : Option (Int32 × xS) := some (s0, u)
theorem B_X12_few_j85 {p : Program} {l : Launch} {e : Env} {s : State} {m : MethodId} {args : Array Value} {below : List Frame} {meth : Method} {cd : Code} {G : xG} {w0 : xW} {b sz : Nat} {rr : (Int32 × xS)} (hE : xE p s m args meth cd cX12_few RX12 G 6 (Option.some Jvm.ClassFile.FieldType.int)) {u : xS} {s0 : Int32} {H : Heap} {locs : List Loc} {ls : Array Slot} (hD : mD G (xA w0 s.heap.size) s.heap b u sz H locs) (hl : lv_has ls 6 [(0, .ref b)]) (hF : F_X12_few_j85 u s0 = some rr) : W p l e (xR 7 0 0) s m args below meth cd H locs 0 0 (xQi G w0 (fun r z => r = rr.1 ∧ z = ((mW G b rr.2), sz)) below args s 0 0) (F0 m 85 ls [.int s0]) := by
  have hx := hE.1; have hb := hE.2.1
  unfold F_X12_few_j85 at hF
  obtain rfl := Option.some.inj hF
  exact x_iret hE hD ⟨rfl, rfl⟩ (by omega) (by omega) dX12_few_85
def F_X12_few_j78 (u : xS)  : Option (Int32 × xS) := F_X12_few_j85 u (-3 : Int32)
theorem B_X12_few_j78 {p : Program} {l : Launch} {e : Env} {s : State} {m : MethodId} {args : Array Value} {below : List Frame} {meth : Method} {cd : Code} {G : xG} {w0 : xW} {b sz : Nat} {rr : (Int32 × xS)} (hE : xE p s m args meth cd cX12_few RX12 G 6 (Option.some Jvm.ClassFile.FieldType.int)) {u : xS}  {H : Heap} {locs : List Loc} {ls : Array Slot} (hD : mD G (xA w0 s.heap.size) s.heap b u sz H locs) (hl : lv_has ls 6 [(0, .ref b)]) (hF : F_X12_few_j78 u  = some rr) : W p l e (xR 7 0 0) s m args below meth cd H locs 0 0 (xQi G w0 (fun r z => r = rr.1 ∧ z = ((mW G b rr.2), sz)) below args s 0 0) (F0 m 78 ls []) := by
  have hx := hE.1; have hb := hE.2.1
  unfold F_X12_few_j78 at hF
  refine lv_bipush (v := (-3 : Int32)) hx hb dX12_few_78 (by decide) ?_
  refine lv_goto (tgt := 85) hx hb dX12_few_80 (by decide) ?_
  exact B_X12_few_j85 hE hD (lv_sub hl [0] rfl) hF
def F_X12_few_j66 (u : xS) (y4 : Int32) (y5 : Int32) : Option (Int32 × xS) := if (60 : Int32) < y4 then F_X12_few_j78 u else if 0 ≤ y5 then F_X12_few_j85 u y4 else F_X12_few_j78 u
theorem B_X12_few_j66 {p : Program} {l : Launch} {e : Env} {s : State} {m : MethodId} {args : Array Value} {below : List Frame} {meth : Method} {cd : Code} {G : xG} {w0 : xW} {b sz : Nat} {rr : (Int32 × xS)} (hE : xE p s m args meth cd cX12_few RX12 G 6 (Option.some Jvm.ClassFile.FieldType.int)) {u : xS} {y4 : Int32} {y5 : Int32} {H : Heap} {locs : List Loc} {ls : Array Slot} (hD : mD G (xA w0 s.heap.size) s.heap b u sz H locs) (hl : lv_has ls 6 [(0, .ref b), (4, .int y4), (5, .int y5)]) (hF : F_X12_few_j66 u y4 y5 = some rr) : W p l e (xR 7 0 0) s m args below meth cd H locs 0 0 (xQi G w0 (fun r z => r = rr.1 ∧ z = ((mW G b rr.2), sz)) below args s 0 0) (F0 m 66 ls []) := by
  have hx := hE.1; have hb := hE.2.1
  unfold F_X12_few_j66 at hF
  refine lv_iload hx hb dX12_few_66 (lv_at hl 1 rfl) ?_
  refine lv_bipush (v := (60 : Int32)) hx hb dX12_few_68 (by decide) ?_
  refine lv_icmp_gt (tgt := 78) hx hb dX12_few_70 (by decide) (fun c1 => ?_) (fun c1 => ?_)
  · have hF := ite_p hF c1
    exact B_X12_few_j78 hE hD (lv_sub hl [0] rfl) hF
  · have hF := ite_n hF c1
    refine lv_iload hx hb dX12_few_73 (lv_at hl 2 rfl) ?_
    refine lv_if_ge (tgt := 83) hx hb dX12_few_75 (by decide) (fun c2 => ?_) (fun c2 => ?_)
    · have hF := ite_p hF c2
      refine lv_iload hx hb dX12_few_83 (lv_at hl 1 rfl) ?_
      exact B_X12_few_j85 hE hD (lv_sub hl [0] rfl) hF
    · have hF := ite_n hF c2
      exact B_X12_few_j78 hE hD (lv_sub hl [0] rfl) hF
def F_X12_few_l32 : Nat → xS → Int32 → Int32 → Int32 → Int32 → Option (Int32 × xS)
  | 0, _, _, _, _, _ => none
  | nn + 1, u, y1, y3, y4, y5 => if (61 : Int32) ≤ y4 then F_X12_few_j66 u y4 y5 else if y5 < 0 then F_X12_few_j66 u y4 y5 else if y3 ≤ y5 then F_X12_few_j66 u y4 y5 else (F_X12_becomes u y1 y5.toInt64).bind (fun r6 => xlet (y4 + (1 : Int32)) (fun x8 => F_X12_few_l32 nn r6.2 y1 y3 x8 r6.1))
theorem L_X12_few_l32 {p : Program} {l : Launch} {e : Env} {s : State} {m : MethodId} {args : Array Value} {below : List Frame} {meth : Method} {cd : Code} {G : xG} {w0 : xW} {b sz : Nat} {rr : (Int32 × xS)} (hE : xE p s m args meth cd cX12_few RX12 G 6 (Option.some Jvm.ClassFile.FieldType.int)) : ∀ (nn : Nat) {u : xS} {y1 : Int32} {y3 : Int32} {y4 : Int32} {y5 : Int32} {H : Heap} {locs : List Loc} {ls : Array Slot}, mD G (xA w0 s.heap.size) s.heap b u sz H locs → lv_has ls 6 [(0, .ref b), (1, .int y1), (3, .int y3), (4, .int y4), (5, .int y5)] → F_X12_few_l32 nn u y1 y3 y4 y5 = some rr → W p l e (xR 7 0 0) s m args below meth cd H locs 0 0 (xQi G w0 (fun r z => r = rr.1 ∧ z = ((mW G b rr.2), sz)) below args s 0 0) (F0 m 32 ls []) := by
  have hx := hE.1; have hb := hE.2.1
  intro nn
  induction nn with
  | zero => intro u y1 y3 y4 y5 H locs ls hD hl hF; rw [F_X12_few_l32] at hF; cases hF
  | succ nn ih =>
    intro u y1 y3 y4 y5 H locs ls hD hl hF
    rw [F_X12_few_l32] at hF
    refine lv_iload hx hb dX12_few_32 (lv_at hl 3 rfl) ?_
    refine lv_bipush (v := (61 : Int32)) hx hb dX12_few_34 (by decide) ?_
    refine lv_icmp_ge (tgt := 66) hx hb dX12_few_36 (by decide) (fun c3 => ?_) (fun c3 => ?_)
    · have hF := ite_p hF c3
      exact B_X12_few_j66 hE hD (lv_sub hl [0, 3, 4] rfl) hF
    · have hF := ite_n hF c3
      refine lv_iload hx hb dX12_few_39 (lv_at hl 4 rfl) ?_
      refine lv_if_lt (tgt := 66) hx hb dX12_few_41 (by decide) (fun c4 => ?_) (fun c4 => ?_)
      · have hF := ite_p hF c4
        exact B_X12_few_j66 hE hD (lv_sub hl [0, 3, 4] rfl) hF
      · have hF := ite_n hF c4
        refine lv_iload hx hb dX12_few_44 (lv_at hl 4 rfl) ?_
        refine lv_iload_n hx hb dX12_few_46 rfl (lv_at hl 2 rfl) ?_
        refine lv_icmp_ge (tgt := 66) hx hb dX12_few_47 (by decide) (fun c5 => ?_) (fun c5 => ?_)
        · have hF := ite_p hF c5
          exact B_X12_few_j66 hE hD (lv_sub hl [0, 3, 4] rfl) hF
        · have hF := ite_n hF c5
          refine lv_aload_n hx hb dX12_few_50 rfl (lv_at hl 0 rfl) ?_
          refine lv_iload_n hx hb dX12_few_51 rfl (lv_at hl 1 rfl) ?_
          refine lv_iload hx hb dX12_few_52 (lv_at hl 4 rfl) ?_
          refine lv_i2l (v := y5.toInt64) hx hb dX12_few_54 rfl ?_
          obtain ⟨r6, k7, hF⟩ := xb_s hF
          refine kVi (As := [.int y1, .long y5.toInt64]) (rest := []) hE hl hD (c_X12_becomes (b := b) k7) kl_X12_144 (mW_0 _ _ _) rfl rfl rfl rfl (Nat.le_of_ble_eq_true rfl) dX12_few_55 ⟨Nat.le_of_ble_eq_true rfl, Nat.le_of_ble_eq_true rfl⟩ ⟨Nat.le_of_ble_eq_true rfl, Nat.le_of_ble_eq_true rfl⟩ (fun H locs (hD : mD G _ _ b r6.2 sz H locs) => ?_)
          refine lv_istore (lv' := [(5, .int r6.1), (0, .ref b), (1, .int y1), (3, .int y3), (4, .int y4)]) hx hb dX12_few_58 hl (by decide) rfl (fun ls hl => ?_)
          obtain ⟨x8, ex8⟩ : ∃ y : Int32, y = y4 + (1 : Int32) := ⟨_, rfl⟩
          have hF := xlet_e hF ex8
          refine lv_iinc (v := x8) (lv' := [(4, .int x8), (5, .int r6.1), (0, .ref b), (1, .int y1), (3, .int y3)]) hx hb dX12_few_60 hl (k := 4) rfl (by rw [ex8]; rfl) (by decide) rfl (fun ls hl => ?_)
          refine lv_goto (tgt := 32) hx hb dX12_few_63 (by decide) ?_
          exact ih hD (lv_sub hl [2, 3, 4, 0, 1] rfl) hF
def F_X12_few_j24 (u : xS)  : Option (Int32 × xS) := some ((-1 : Int32), u)
theorem B_X12_few_j24 {p : Program} {l : Launch} {e : Env} {s : State} {m : MethodId} {args : Array Value} {below : List Frame} {meth : Method} {cd : Code} {G : xG} {w0 : xW} {b sz : Nat} {rr : (Int32 × xS)} (hE : xE p s m args meth cd cX12_few RX12 G 6 (Option.some Jvm.ClassFile.FieldType.int)) {u : xS}  {H : Heap} {locs : List Loc} {ls : Array Slot} (hD : mD G (xA w0 s.heap.size) s.heap b u sz H locs) (hl : lv_has ls 6 [(0, .ref b)]) (hF : F_X12_few_j24 u  = some rr) : W p l e (xR 7 0 0) s m args below meth cd H locs 0 0 (xQi G w0 (fun r z => r = rr.1 ∧ z = ((mW G b rr.2), sz)) below args s 0 0) (F0 m 24 ls []) := by
  have hx := hE.1; have hb := hE.2.1
  unfold F_X12_few_j24 at hF
  refine lv_iconst (v := (-1 : Int32)) hx hb dX12_few_24 (by decide) ?_
  obtain rfl := Option.some.inj hF
  exact x_iret hE hD ⟨rfl, rfl⟩ (by omega) (by omega) dX12_few_25
def F_X12_few (u : xS) (xa : Int32) (xb : Int32) (xc : Int32) : Option (Int32 × xS) := (F_X12_isBridge u xa).bind (fun r9 => if r9 = 0 then F_X12_few_j24 u else (F_X12_isPurse xb.toInt64).bind (fun r13 => if r13 = 0 then F_X12_few_j24 u else (F_X12_isPurse xc.toInt64).bind (fun r17 => if r17 = 0 then F_X12_few_j24 u else F_X12_few_l32 xFuel u xa xc (0 : Int32) xb)))
theorem c_X12_few {l : Launch} {G : xG} {b sz : Nat} {rr : (Int32 × xS)} {u : xS} {xa : Int32} {xb : Int32} {xc : Int32} (hF : F_X12_few u xa xb xc = some rr) : xMi l G yX12_few cX12_few 6 (Option.some Jvm.ClassFile.FieldType.int) 7 0 0 [.ref b, .int xa, .int xb, .int xc] (mW G b u) sz (fun r z => r = rr.1 ∧ z = ((mW G b rr.2), sz)) := by
  unfold F_X12_few at hF
  refine x_startI rfl (Nat.le_of_ble_eq_true rfl) (fun p e s m args below meth cd ls hE hnm hl hD => ?_)
  have hx := hE.1; have hb := hE.2.1
  have hl : lv_has ls 6 [(0, .ref b), (1, .int xa), (2, .int xb), (3, .int xc)] := hl
  have hD : mD G (xA (mW G b u) s.heap.size) s.heap b u sz s.heap [] := hD
  refine lv_aload_n hx hb dX12_few_0 rfl (lv_at hl 0 rfl) ?_
  refine lv_iload_n hx hb dX12_few_1 rfl (lv_at hl 1 rfl) ?_
  obtain ⟨r9, k10, hF⟩ := xb_s hF
  refine kVz (As := [.int xa]) (rest := []) hE hl hD (c_X12_isBridge (b := b) k10) kl_X12_114 (mW_0 _ _ _) rfl rfl rfl rfl (Nat.le_of_ble_eq_true rfl) dX12_few_2 ⟨Nat.le_of_ble_eq_true rfl, Nat.le_of_ble_eq_true rfl⟩ ⟨Nat.le_of_ble_eq_true rfl, Nat.le_of_ble_eq_true rfl⟩ (fun H locs z11 (hD : mD G _ _ b u sz H locs) => ?_)
  refine lv_if_eq (tgt := 24) hx hb dX12_few_5 (by decide) (fun c12 => ?_) (fun c12 => ?_)
  · have hF := ite_p hF c12
    exact B_X12_few_j24 hE hD (lv_sub hl [0] rfl) hF
  · have hF := ite_n hF c12
    refine lv_iload_n hx hb dX12_few_8 rfl (lv_at hl 2 rfl) ?_
    refine lv_i2l (v := xb.toInt64) hx hb dX12_few_9 rfl ?_
    obtain ⟨r13, k14, hF⟩ := xb_s hF
    refine kSz (As := [.long xb.toInt64]) (rest := []) hE hl hD (c_X12_isPurse k14) kl_X12_134 rfl rfl (Nat.le_of_ble_eq_true rfl) dX12_few_10 ⟨Nat.le_of_ble_eq_true rfl, Nat.le_of_ble_eq_true rfl⟩ ⟨Nat.le_of_ble_eq_true rfl, Nat.le_of_ble_eq_true rfl⟩ (fun H locs z15 (hD : mD G _ _ b u sz H locs) => ?_)
    refine lv_if_eq (tgt := 24) hx hb dX12_few_13 (by decide) (fun c16 => ?_) (fun c16 => ?_)
    · have hF := ite_p hF c16
      exact B_X12_few_j24 hE hD (lv_sub hl [0] rfl) hF
    · have hF := ite_n hF c16
      refine lv_iload_n hx hb dX12_few_16 rfl (lv_at hl 3 rfl) ?_
      refine lv_i2l (v := xc.toInt64) hx hb dX12_few_17 rfl ?_
      obtain ⟨r17, k18, hF⟩ := xb_s hF
      refine kSz (As := [.long xc.toInt64]) (rest := []) hE hl hD (c_X12_isPurse k18) kl_X12_134 rfl rfl (Nat.le_of_ble_eq_true rfl) dX12_few_18 ⟨Nat.le_of_ble_eq_true rfl, Nat.le_of_ble_eq_true rfl⟩ ⟨Nat.le_of_ble_eq_true rfl, Nat.le_of_ble_eq_true rfl⟩ (fun H locs z19 (hD : mD G _ _ b u sz H locs) => ?_)
      refine lv_if_ne (tgt := 26) hx hb dX12_few_21 (by decide) (fun c20 => ?_) (fun c20 => ?_)
      · have hF := ite_n hF c20
        refine lv_iconst (v := (0 : Int32)) hx hb dX12_few_26 (by decide) ?_
        refine lv_istore (lv' := [(4, .int (0 : Int32)), (0, .ref b), (1, .int xa), (2, .int xb), (3, .int xc)]) hx hb dX12_few_27 hl (by decide) rfl (fun ls hl => ?_)
        refine lv_iload_n hx hb dX12_few_29 rfl (lv_at hl 3 rfl) ?_
        refine lv_istore (lv' := [(5, .int xb), (4, .int (0 : Int32)), (0, .ref b), (1, .int xa), (2, .int xb), (3, .int xc)]) hx hb dX12_few_30 hl (by decide) rfl (fun ls hl => ?_)
        exact L_X12_few_l32 hE _ hD (lv_sub hl [2, 3, 5, 1, 0] rfl) hF
      · have hF := ite_p hF c20
        exact B_X12_few_j24 hE hD (lv_sub hl [0] rfl) hF
def F_X12_addsBack_j136 (u : xS)  : Option (xS) := some u
theorem B_X12_addsBack_j136 {p : Program} {l : Launch} {e : Env} {s : State} {m : MethodId} {args : Array Value} {below : List Frame} {meth : Method} {cd : Code} {G : xG} {w0 : xW} {b sz : Nat} {rr : (xS)} (hE : xE p s m args meth cd cX12_addsBack RX12 G 7 (Option.none : Option Jvm.ClassFile.FieldType)) {u : xS}  {H : Heap} {locs : List Loc} {ls : Array Slot} (hD : mD G (xA w0 s.heap.size) s.heap b u sz H locs) (hl : lv_has ls 7 [(0, .ref b)]) (hF : F_X12_addsBack_j136 u  = some rr) : W p l e (xR 7 0 0) s m args below meth cd H locs 0 0 (xQv G w0 (fun z => z = ((mW G b rr), sz)) below args s 0 0) (F0 m 136 ls []) := by
  have hx := hE.1; have hb := hE.2.1
  unfold F_X12_addsBack_j136 at hF
  obtain rfl := Option.some.inj hF
  exact x_vret hE hD rfl (by omega) (by omega) dX12_addsBack_136
def F_X12_addsBack_j118 (u : xS) (y1 : Int32) (y5 : Int32) : Option (xS) := if xIn y5 200 then xlet (mA u 8 y5.toNatClampNeg y1) (fun u2 => xlet (mS u2 10 ((u2.1 10) + (1 : Int32))) (fun u3 => F_X12_addsBack_j136 u3)) else none
theorem B_X12_addsBack_j118 {p : Program} {l : Launch} {e : Env} {s : State} {m : MethodId} {args : Array Value} {below : List Frame} {meth : Method} {cd : Code} {G : xG} {w0 : xW} {b sz : Nat} {rr : (xS)} (hE : xE p s m args meth cd cX12_addsBack RX12 G 7 (Option.none : Option Jvm.ClassFile.FieldType)) {u : xS} {y1 : Int32} {y5 : Int32} {H : Heap} {locs : List Loc} {ls : Array Slot} (hD : mD G (xA w0 s.heap.size) s.heap b u sz H locs) (hl : lv_has ls 7 [(0, .ref b), (1, .int y1), (5, .int y5)]) (hF : F_X12_addsBack_j118 u y1 y5 = some rr) : W p l e (xR 7 0 0) s m args below meth cd H locs 0 0 (xQv G w0 (fun z => z = ((mW G b rr), sz)) below args s 0 0) (F0 m 118 ls []) := by
  have hx := hE.1; have hb := hE.2.1
  unfold F_X12_addsBack_j118 at hF
  refine lv_aload_n hx hb dX12_addsBack_118 rfl (lv_at hl 0 rfl) ?_
  refine gf_X12_22 hE hD dX12_addsBack_119 ?_
  refine lv_iload hx hb dX12_addsBack_122 (lv_at hl 2 rfl) ?_
  refine lv_iload_n hx hb dX12_addsBack_124 rfl (lv_at hl 1 rfl) ?_
  obtain ⟨h1, hF⟩ := ite_s hF
  refine ma_st_8 hE hD h1 dX12_addsBack_125 (fun u2 H locs eu2 hD => ?_)
  have hF := xlet_e hF eu2
  refine lv_aload_n hx hb dX12_addsBack_126 rfl (lv_at hl 0 rfl) ?_
  refine lv_dup hx hb dX12_addsBack_127 rfl ?_
  refine gf_X12_162 hE hD dX12_addsBack_128 ?_
  refine lv_iconst (v := (1 : Int32)) hx hb dX12_addsBack_131 (by decide) ?_
  refine lv_iadd hx hb dX12_addsBack_132 ?_
  refine pf_X12_162 hE hD dX12_addsBack_133 (fun u3 H locs eu3 hD => ?_)
  have hF := xlet_e hF eu3
  exact B_X12_addsBack_j136 hE hD (lv_sub hl [0] rfl) hF
def F_X12_addsBack_l78 : Nat → xS → Int32 → Int32 → Option (xS)
  | 0, _, _, _ => none
  | nn + 1, u, y1, y5 => if y5 ≤ 0 then F_X12_addsBack_j118 u y1 y5 else if xIn (y5 - (1 : Int32)) 200 then if (u.2.1 8 (y5 - (1 : Int32)).toNatClampNeg) ≤ y1 then F_X12_addsBack_j118 u y1 y5 else if xIn (y5 - (1 : Int32)) 200 then if xIn y5 200 then xlet (mA u 8 y5.toNatClampNeg (u.2.1 8 (y5 - (1 : Int32)).toNatClampNeg)) (fun u9 => xlet (y5 + (-1 : Int32)) (fun x10 => F_X12_addsBack_l78 nn u9 y1 x10)) else none else none else none
theorem L_X12_addsBack_l78 {p : Program} {l : Launch} {e : Env} {s : State} {m : MethodId} {args : Array Value} {below : List Frame} {meth : Method} {cd : Code} {G : xG} {w0 : xW} {b sz : Nat} {rr : (xS)} (hE : xE p s m args meth cd cX12_addsBack RX12 G 7 (Option.none : Option Jvm.ClassFile.FieldType)) : ∀ (nn : Nat) {u : xS} {y1 : Int32} {y5 : Int32} {H : Heap} {locs : List Loc} {ls : Array Slot}, mD G (xA w0 s.heap.size) s.heap b u sz H locs → lv_has ls 7 [(0, .ref b), (1, .int y1), (5, .int y5)] → F_X12_addsBack_l78 nn u y1 y5 = some rr → W p l e (xR 7 0 0) s m args below meth cd H locs 0 0 (xQv G w0 (fun z => z = ((mW G b rr), sz)) below args s 0 0) (F0 m 78 ls []) := by
  have hx := hE.1; have hb := hE.2.1
  intro nn
  induction nn with
  | zero => intro u y1 y5 H locs ls hD hl hF; rw [F_X12_addsBack_l78] at hF; cases hF
  | succ nn ih =>
    intro u y1 y5 H locs ls hD hl hF
    rw [F_X12_addsBack_l78] at hF
    refine lv_iload hx hb dX12_addsBack_78 (lv_at hl 2 rfl) ?_
    refine lv_if_le (tgt := 118) hx hb dX12_addsBack_80 (by decide) (fun c4 => ?_) (fun c4 => ?_)
    · have hF := ite_p hF c4
      exact B_X12_addsBack_j118 hE hD (lv_sub hl [0, 1, 2] rfl) hF
    · have hF := ite_n hF c4
      refine lv_aload_n hx hb dX12_addsBack_83 rfl (lv_at hl 0 rfl) ?_
      refine gf_X12_22 hE hD dX12_addsBack_84 ?_
      refine lv_iload hx hb dX12_addsBack_87 (lv_at hl 2 rfl) ?_
      refine lv_iconst (v := (1 : Int32)) hx hb dX12_addsBack_89 (by decide) ?_
      refine lv_isub hx hb dX12_addsBack_90 ?_
      obtain ⟨h5, hF⟩ := ite_s hF
      refine ma_ld_8 hE hD h5 dX12_addsBack_91 ?_
      refine lv_iload_n hx hb dX12_addsBack_92 rfl (lv_at hl 1 rfl) ?_
      refine lv_icmp_le (tgt := 118) hx hb dX12_addsBack_93 (by decide) (fun c6 => ?_) (fun c6 => ?_)
      · have hF := ite_p hF c6
        exact B_X12_addsBack_j118 hE hD (lv_sub hl [0, 1, 2] rfl) hF
      · have hF := ite_n hF c6
        refine lv_aload_n hx hb dX12_addsBack_96 rfl (lv_at hl 0 rfl) ?_
        refine gf_X12_22 hE hD dX12_addsBack_97 ?_
        refine lv_iload hx hb dX12_addsBack_100 (lv_at hl 2 rfl) ?_
        refine lv_aload_n hx hb dX12_addsBack_102 rfl (lv_at hl 0 rfl) ?_
        refine gf_X12_22 hE hD dX12_addsBack_103 ?_
        refine lv_iload hx hb dX12_addsBack_106 (lv_at hl 2 rfl) ?_
        refine lv_iconst (v := (1 : Int32)) hx hb dX12_addsBack_108 (by decide) ?_
        refine lv_isub hx hb dX12_addsBack_109 ?_
        obtain ⟨h7, hF⟩ := ite_s hF
        refine ma_ld_8 hE hD h7 dX12_addsBack_110 ?_
        obtain ⟨h8, hF⟩ := ite_s hF
        refine ma_st_8 hE hD h8 dX12_addsBack_111 (fun u9 H locs eu9 hD => ?_)
        have hF := xlet_e hF eu9
        obtain ⟨x10, ex10⟩ : ∃ y : Int32, y = y5 + (-1 : Int32) := ⟨_, rfl⟩
        have hF := xlet_e hF ex10
        refine lv_iinc (v := x10) (lv' := [(5, .int x10), (0, .ref b), (1, .int y1)]) hx hb dX12_addsBack_112 hl (k := 2) rfl (by rw [ex10]; rfl) (by decide) rfl (fun ls hl => ?_)
        refine lv_goto (tgt := 78) hx hb dX12_addsBack_115 (by decide) ?_
        exact ih hD (lv_sub hl [1, 2, 0] rfl) hF
def F_X12_addsBack_j65 (k35 : xS → Int32 → Int32 → Int32 → Int32 → Option (xS)) (u : xS) (y1 : Int32) (y5 : Int32) (y6 : Int32) (s0 : Int32) : Option (xS) := xlet (y6 + (1 : Int32)) (fun x11 => k35 u y1 s0 y5 x11)
theorem B_X12_addsBack_j65 {p : Program} {l : Launch} {e : Env} {s : State} {m : MethodId} {args : Array Value} {below : List Frame} {meth : Method} {cd : Code} {G : xG} {w0 : xW} {b sz : Nat} {rr : (xS)} (hE : xE p s m args meth cd cX12_addsBack RX12 G 7 (Option.none : Option Jvm.ClassFile.FieldType)) {u : xS} (k35 : xS → Int32 → Int32 → Int32 → Int32 → Option (xS)) (h35 : ∀ {u1 : xS} {y1 : Int32} {y4 : Int32} {y5 : Int32} {y6 : Int32} {H : Heap} {locs : List Loc} {ls : Array Slot}, mD G (xA w0 s.heap.size) s.heap b u1 sz H locs → lv_has ls 7 [(0, .ref b), (1, .int y1), (4, .int y4), (5, .int y5), (6, .int y6)] → k35 u1 y1 y4 y5 y6 = some rr → W p l e (xR 7 0 0) s m args below meth cd H locs 0 0 (xQv G w0 (fun z => z = ((mW G b rr), sz)) below args s 0 0) (F0 m 35 ls [])) {y1 : Int32} {y5 : Int32} {y6 : Int32} {s0 : Int32} {H : Heap} {locs : List Loc} {ls : Array Slot} (hD : mD G (xA w0 s.heap.size) s.heap b u sz H locs) (hl : lv_has ls 7 [(0, .ref b), (1, .int y1), (5, .int y5), (6, .int y6)]) (hF : F_X12_addsBack_j65 k35 u y1 y5 y6 s0 = some rr) : W p l e (xR 7 0 0) s m args below meth cd H locs 0 0 (xQv G w0 (fun z => z = ((mW G b rr), sz)) below args s 0 0) (F0 m 65 ls [.int s0]) := by
  have hx := hE.1; have hb := hE.2.1
  unfold F_X12_addsBack_j65 at hF
  refine lv_istore (lv' := [(4, .int s0), (0, .ref b), (1, .int y1), (5, .int y5), (6, .int y6)]) hx hb dX12_addsBack_65 hl (by decide) rfl (fun ls hl => ?_)
  obtain ⟨x11, ex11⟩ : ∃ y : Int32, y = y6 + (1 : Int32) := ⟨_, rfl⟩
  have hF := xlet_e hF ex11
  refine lv_iinc (v := x11) (lv' := [(6, .int x11), (4, .int s0), (0, .ref b), (1, .int y1), (5, .int y5)]) hx hb dX12_addsBack_67 hl (k := 4) rfl (by rw [ex11]; rfl) (by decide) rfl (fun ls hl => ?_)
  refine lv_goto (tgt := 35) hx hb dX12_addsBack_70 (by decide) ?_
  exact h35 hD (lv_sub hl [2, 3, 1, 4, 0] rfl) hF
def F_X12_addsBack_j64 (k35 : xS → Int32 → Int32 → Int32 → Int32 → Option (xS)) (u : xS) (y1 : Int32) (y5 : Int32) (y6 : Int32) : Option (xS) := F_X12_addsBack_j65 k35 u y1 y5 y6 (0 : Int32)
theorem B_X12_addsBack_j64 {p : Program} {l : Launch} {e : Env} {s : State} {m : MethodId} {args : Array Value} {below : List Frame} {meth : Method} {cd : Code} {G : xG} {w0 : xW} {b sz : Nat} {rr : (xS)} (hE : xE p s m args meth cd cX12_addsBack RX12 G 7 (Option.none : Option Jvm.ClassFile.FieldType)) {u : xS} (k35 : xS → Int32 → Int32 → Int32 → Int32 → Option (xS)) (h35 : ∀ {u1 : xS} {y1 : Int32} {y4 : Int32} {y5 : Int32} {y6 : Int32} {H : Heap} {locs : List Loc} {ls : Array Slot}, mD G (xA w0 s.heap.size) s.heap b u1 sz H locs → lv_has ls 7 [(0, .ref b), (1, .int y1), (4, .int y4), (5, .int y5), (6, .int y6)] → k35 u1 y1 y4 y5 y6 = some rr → W p l e (xR 7 0 0) s m args below meth cd H locs 0 0 (xQv G w0 (fun z => z = ((mW G b rr), sz)) below args s 0 0) (F0 m 35 ls [])) {y1 : Int32} {y5 : Int32} {y6 : Int32} {H : Heap} {locs : List Loc} {ls : Array Slot} (hD : mD G (xA w0 s.heap.size) s.heap b u sz H locs) (hl : lv_has ls 7 [(0, .ref b), (1, .int y1), (5, .int y5), (6, .int y6)]) (hF : F_X12_addsBack_j64 k35 u y1 y5 y6 = some rr) : W p l e (xR 7 0 0) s m args below meth cd H locs 0 0 (xQv G w0 (fun z => z = ((mW G b rr), sz)) below args s 0 0) (F0 m 64 ls []) := by
  have hx := hE.1; have hb := hE.2.1
  unfold F_X12_addsBack_j64 at hF
  refine lv_iconst (v := (0 : Int32)) hx hb dX12_addsBack_64 (by decide) ?_
  exact B_X12_addsBack_j65 hE k35 h35 hD (lv_sub hl [0, 1, 2, 3] rfl) hF
def F_X12_addsBack_l35 : Nat → xS → Int32 → Int32 → Int32 → Int32 → Option (xS)
  | 0, _, _, _, _, _ => none
  | nn + 1, u, y1, y4, y5, y6 => if (u.1 10) ≤ y6 then if y4 = 0 then F_X12_addsBack_j136 u else F_X12_addsBack_l78 xFuel u y1 y5 else if y4 = 0 then F_X12_addsBack_j64 (F_X12_addsBack_l35 nn) u y1 y5 y6 else if xIn y6 200 then if (u.2.1 8 y6.toNatClampNeg) = y1 then F_X12_addsBack_j64 (F_X12_addsBack_l35 nn) u y1 y5 y6 else F_X12_addsBack_j65 (F_X12_addsBack_l35 nn) u y1 y5 y6 (1 : Int32) else none
theorem L_X12_addsBack_l35 {p : Program} {l : Launch} {e : Env} {s : State} {m : MethodId} {args : Array Value} {below : List Frame} {meth : Method} {cd : Code} {G : xG} {w0 : xW} {b sz : Nat} {rr : (xS)} (hE : xE p s m args meth cd cX12_addsBack RX12 G 7 (Option.none : Option Jvm.ClassFile.FieldType)) : ∀ (nn : Nat) {u : xS} {y1 : Int32} {y4 : Int32} {y5 : Int32} {y6 : Int32} {H : Heap} {locs : List Loc} {ls : Array Slot}, mD G (xA w0 s.heap.size) s.heap b u sz H locs → lv_has ls 7 [(0, .ref b), (1, .int y1), (4, .int y4), (5, .int y5), (6, .int y6)] → F_X12_addsBack_l35 nn u y1 y4 y5 y6 = some rr → W p l e (xR 7 0 0) s m args below meth cd H locs 0 0 (xQv G w0 (fun z => z = ((mW G b rr), sz)) below args s 0 0) (F0 m 35 ls []) := by
  have hx := hE.1; have hb := hE.2.1
  intro nn
  induction nn with
  | zero => intro u y1 y4 y5 y6 H locs ls hD hl hF; rw [F_X12_addsBack_l35] at hF; cases hF
  | succ nn ih =>
    intro u y1 y4 y5 y6 H locs ls hD hl hF
    rw [F_X12_addsBack_l35] at hF
    refine lv_iload hx hb dX12_addsBack_35 (lv_at hl 4 rfl) ?_
    refine lv_aload_n hx hb dX12_addsBack_37 rfl (lv_at hl 0 rfl) ?_
    refine gf_X12_162 hE hD dX12_addsBack_38 ?_
    refine lv_icmp_ge (tgt := 73) hx hb dX12_addsBack_41 (by decide) (fun c12 => ?_) (fun c12 => ?_)
    · have hF := ite_p hF c12
      refine lv_iload hx hb dX12_addsBack_73 (lv_at hl 2 rfl) ?_
      refine lv_if_eq (tgt := 136) hx hb dX12_addsBack_75 (by decide) (fun c13 => ?_) (fun c13 => ?_)
      · have hF := ite_p hF c13
        exact B_X12_addsBack_j136 hE hD (lv_sub hl [0] rfl) hF
      · have hF := ite_n hF c13
        exact L_X12_addsBack_l78 hE _ hD (lv_sub hl [0, 1, 3] rfl) hF
    · have hF := ite_n hF c12
      refine lv_iload hx hb dX12_addsBack_44 (lv_at hl 2 rfl) ?_
      refine lv_if_eq (tgt := 64) hx hb dX12_addsBack_46 (by decide) (fun c14 => ?_) (fun c14 => ?_)
      · have hF := ite_p hF c14
        exact B_X12_addsBack_j64 hE (F_X12_addsBack_l35 nn) ih hD (lv_sub hl [0, 1, 3, 4] rfl) hF
      · have hF := ite_n hF c14
        refine lv_aload_n hx hb dX12_addsBack_49 rfl (lv_at hl 0 rfl) ?_
        refine gf_X12_22 hE hD dX12_addsBack_50 ?_
        refine lv_iload hx hb dX12_addsBack_53 (lv_at hl 4 rfl) ?_
        obtain ⟨h15, hF⟩ := ite_s hF
        refine ma_ld_8 hE hD h15 dX12_addsBack_55 ?_
        refine lv_iload_n hx hb dX12_addsBack_56 rfl (lv_at hl 1 rfl) ?_
        refine lv_icmp_eq (tgt := 64) hx hb dX12_addsBack_57 (by decide) (fun c16 => ?_) (fun c16 => ?_)
        · have hF := ite_p hF c16
          exact B_X12_addsBack_j64 hE (F_X12_addsBack_l35 nn) ih hD (lv_sub hl [0, 1, 3, 4] rfl) hF
        · have hF := ite_n hF c16
          refine lv_iconst (v := (1 : Int32)) hx hb dX12_addsBack_60 (by decide) ?_
          refine lv_goto (tgt := 65) hx hb dX12_addsBack_61 (by decide) ?_
          exact B_X12_addsBack_j65 hE (F_X12_addsBack_l35 nn) ih hD (lv_sub hl [0, 1, 3, 4] rfl) hF
def F_X12_addsBack_j24 (u : xS) (y1 : Int32) (s0 : Int32) : Option (xS) := xlet (u.1 10) (fun x17 => F_X12_addsBack_l35 xFuel u y1 s0 x17 (0 : Int32))
theorem B_X12_addsBack_j24 {p : Program} {l : Launch} {e : Env} {s : State} {m : MethodId} {args : Array Value} {below : List Frame} {meth : Method} {cd : Code} {G : xG} {w0 : xW} {b sz : Nat} {rr : (xS)} (hE : xE p s m args meth cd cX12_addsBack RX12 G 7 (Option.none : Option Jvm.ClassFile.FieldType)) {u : xS} {y1 : Int32} {s0 : Int32} {H : Heap} {locs : List Loc} {ls : Array Slot} (hD : mD G (xA w0 s.heap.size) s.heap b u sz H locs) (hl : lv_has ls 7 [(0, .ref b), (1, .int y1)]) (hF : F_X12_addsBack_j24 u y1 s0 = some rr) : W p l e (xR 7 0 0) s m args below meth cd H locs 0 0 (xQv G w0 (fun z => z = ((mW G b rr), sz)) below args s 0 0) (F0 m 24 ls [.int s0]) := by
  have hx := hE.1; have hb := hE.2.1
  unfold F_X12_addsBack_j24 at hF
  refine lv_istore (lv' := [(4, .int s0), (0, .ref b), (1, .int y1)]) hx hb dX12_addsBack_24 hl (by decide) rfl (fun ls hl => ?_)
  refine lv_aload_n hx hb dX12_addsBack_26 rfl (lv_at hl 1 rfl) ?_
  refine gf_X12_162 hE hD dX12_addsBack_27 ?_
  refine lv_topi (fun x17 ex17 => ?_)
  have hF := xlet_e hF ex17
  refine lv_istore (lv' := [(5, .int x17), (4, .int s0), (0, .ref b), (1, .int y1)]) hx hb dX12_addsBack_30 hl (by decide) rfl (fun ls hl => ?_)
  refine lv_iconst (v := (0 : Int32)) hx hb dX12_addsBack_32 (by decide) ?_
  refine lv_istore (lv' := [(6, .int (0 : Int32)), (5, .int x17), (4, .int s0), (0, .ref b), (1, .int y1)]) hx hb dX12_addsBack_33 hl (by decide) rfl (fun ls hl => ?_)
  exact L_X12_addsBack_l35 hE _ hD (lv_sub hl [3, 4, 2, 1, 0] rfl) hF
def F_X12_addsBack_j23 (u : xS) (y1 : Int32) : Option (xS) := F_X12_addsBack_j24 u y1 (0 : Int32)
theorem B_X12_addsBack_j23 {p : Program} {l : Launch} {e : Env} {s : State} {m : MethodId} {args : Array Value} {below : List Frame} {meth : Method} {cd : Code} {G : xG} {w0 : xW} {b sz : Nat} {rr : (xS)} (hE : xE p s m args meth cd cX12_addsBack RX12 G 7 (Option.none : Option Jvm.ClassFile.FieldType)) {u : xS} {y1 : Int32} {H : Heap} {locs : List Loc} {ls : Array Slot} (hD : mD G (xA w0 s.heap.size) s.heap b u sz H locs) (hl : lv_has ls 7 [(0, .ref b), (1, .int y1)]) (hF : F_X12_addsBack_j23 u y1 = some rr) : W p l e (xR 7 0 0) s m args below meth cd H locs 0 0 (xQv G w0 (fun z => z = ((mW G b rr), sz)) below args s 0 0) (F0 m 23 ls []) := by
  have hx := hE.1; have hb := hE.2.1
  unfold F_X12_addsBack_j23 at hF
  refine lv_iconst (v := (0 : Int32)) hx hb dX12_addsBack_23 (by decide) ?_
  exact B_X12_addsBack_j24 hE hD (lv_sub hl [0, 1] rfl) hF
def F_X12_addsBack (u : xS) (xa : Int32) (xb : Int32) (xc : Int32) : Option (xS) := (F_X12_isPurse xa.toInt64).bind (fun r18 => if r18 = 0 then F_X12_addsBack_j23 u xa else (F_X12_becomes u xb xa.toInt64).bind (fun r22 => if r22.1 = xc then F_X12_addsBack_j24 r22.2 xa (1 : Int32) else F_X12_addsBack_j23 r22.2 xa))
theorem c_X12_addsBack {l : Launch} {G : xG} {b sz : Nat} {rr : (xS)} {u : xS} {xa : Int32} {xb : Int32} {xc : Int32} (hF : F_X12_addsBack u xa xb xc = some rr) : xMv l G yX12_addsBack cX12_addsBack 7 (Option.none : Option Jvm.ClassFile.FieldType) 7 0 0 [.ref b, .int xa, .int xb, .int xc] (mW G b u) sz (fun z => z = ((mW G b rr), sz)) := by
  unfold F_X12_addsBack at hF
  refine x_startV rfl (Nat.le_of_ble_eq_true rfl) (fun p e s m args below meth cd ls hE hnm hl hD => ?_)
  have hx := hE.1; have hb := hE.2.1
  have hl : lv_has ls 7 [(0, .ref b), (1, .int xa), (2, .int xb), (3, .int xc)] := hl
  have hD : mD G (xA (mW G b u) s.heap.size) s.heap b u sz s.heap [] := hD
  refine lv_iload_n hx hb dX12_addsBack_0 rfl (lv_at hl 1 rfl) ?_
  refine lv_i2l (v := xa.toInt64) hx hb dX12_addsBack_1 rfl ?_
  obtain ⟨r18, k19, hF⟩ := xb_s hF
  refine kSz (As := [.long xa.toInt64]) (rest := []) hE hl hD (c_X12_isPurse k19) kl_X12_134 rfl rfl (Nat.le_of_ble_eq_true rfl) dX12_addsBack_2 ⟨Nat.le_of_ble_eq_true rfl, Nat.le_of_ble_eq_true rfl⟩ ⟨Nat.le_of_ble_eq_true rfl, Nat.le_of_ble_eq_true rfl⟩ (fun H locs z20 (hD : mD G _ _ b u sz H locs) => ?_)
  refine lv_if_eq (tgt := 23) hx hb dX12_addsBack_5 (by decide) (fun c21 => ?_) (fun c21 => ?_)
  · have hF := ite_p hF c21
    exact B_X12_addsBack_j23 hE hD (lv_sub hl [0, 1] rfl) hF
  · have hF := ite_n hF c21
    refine lv_aload_n hx hb dX12_addsBack_8 rfl (lv_at hl 0 rfl) ?_
    refine lv_iload_n hx hb dX12_addsBack_9 rfl (lv_at hl 2 rfl) ?_
    refine lv_iload_n hx hb dX12_addsBack_10 rfl (lv_at hl 1 rfl) ?_
    refine lv_i2l (v := xa.toInt64) hx hb dX12_addsBack_11 rfl ?_
    obtain ⟨r22, k23, hF⟩ := xb_s hF
    refine kVi (As := [.int xb, .long xa.toInt64]) (rest := []) hE hl hD (c_X12_becomes (b := b) k23) kl_X12_144 (mW_0 _ _ _) rfl rfl rfl rfl (Nat.le_of_ble_eq_true rfl) dX12_addsBack_12 ⟨Nat.le_of_ble_eq_true rfl, Nat.le_of_ble_eq_true rfl⟩ ⟨Nat.le_of_ble_eq_true rfl, Nat.le_of_ble_eq_true rfl⟩ (fun H locs (hD : mD G _ _ b r22.2 sz H locs) => ?_)
    refine lv_iload_n hx hb dX12_addsBack_15 rfl (lv_at hl 3 rfl) ?_
    refine lv_icmp_ne (tgt := 23) hx hb dX12_addsBack_16 (by decide) (fun c24 => ?_) (fun c24 => ?_)
    · have hF := ite_n hF c24
      exact B_X12_addsBack_j23 hE hD (lv_sub hl [0, 1] rfl) hF
    · have hF := ite_p hF c24
      refine lv_iconst (v := (1 : Int32)) hx hb dX12_addsBack_19 (by decide) ?_
      refine lv_goto (tgt := 24) hx hb dX12_addsBack_20 (by decide) ?_
      exact B_X12_addsBack_j24 hE hD (lv_sub hl [0, 1] rfl) hF
def F_X12_back_j230 (u : xS) (s0 : Int32) : Option (Int32 × xS) := some (s0, u)
theorem B_X12_back_j230 {p : Program} {l : Launch} {e : Env} {s : State} {m : MethodId} {args : Array Value} {below : List Frame} {meth : Method} {cd : Code} {G : xG} {w0 : xW} {b sz : Nat} {rr : (Int32 × xS)} (hE : xE p s m args meth cd cX12_back RX12 G 11 (Option.some Jvm.ClassFile.FieldType.int)) {u : xS} {s0 : Int32} {H : Heap} {locs : List Loc} {ls : Array Slot} (hD : mD G (xA w0 s.heap.size) s.heap b u sz H locs) (hl : lv_has ls 11 [(0, .ref b)]) (hF : F_X12_back_j230 u s0 = some rr) : W p l e (xR 8 0 0) s m args below meth cd H locs 0 0 (xQi G w0 (fun r z => r = rr.1 ∧ z = ((mW G b rr.2), sz)) below args s 0 0) (F0 m 230 ls [.int s0]) := by
  have hx := hE.1; have hb := hE.2.1
  unfold F_X12_back_j230 at hF
  obtain rfl := Option.some.inj hF
  exact x_iret hE hD ⟨rfl, rfl⟩ (by omega) (by omega) dX12_back_230
def F_X12_back_l122 (k72 : xS → Int32 → Int32 → Int32 → Int32 → Int32 → Int32 → Option (Int32 × xS)) : Nat → xS → Int32 → Int32 → Int32 → Int32 → Int32 → Int32 → Int32 → Int32 → Option (Int32 × xS)
  | 0, _, _, _, _, _, _, _, _, _ => none
  | nn + 1, u, y1, y3, y4, y5, y6, y7, y8, y9 => if y8 ≤ y9 then xlet (y7 + (1 : Int32)) (fun x2 => k72 u y1 y3 y4 y5 y6 x2) else if xIn y9 200 then xlet (u.2.1 9 y9.toNatClampNeg) (fun x4 => if ¬ y5 = 0 then (F_X12_addsBack u ((x4 / y5) + y6) y1 x4).bind (fun r6 => if ¬ y5 = 0 then (F_X12_addsBack r6 ((x4 + y6) / y5) y1 x4).bind (fun r9 => if ¬ y5 = 0 then (F_X12_addsBack r9 (((x4 + y6) + (1 : Int32)) / y5) y1 x4).bind (fun r12 => xlet (y9 + (1 : Int32)) (fun x14 => F_X12_back_l122 k72 nn r12 y1 y3 y4 y5 y6 y7 y8 x14)) else none) else none) else none) else none
theorem L_X12_back_l122 {p : Program} {l : Launch} {e : Env} {s : State} {m : MethodId} {args : Array Value} {below : List Frame} {meth : Method} {cd : Code} {G : xG} {w0 : xW} {b sz : Nat} {rr : (Int32 × xS)} (hE : xE p s m args meth cd cX12_back RX12 G 11 (Option.some Jvm.ClassFile.FieldType.int)) (k72 : xS → Int32 → Int32 → Int32 → Int32 → Int32 → Int32 → Option (Int32 × xS)) (h72 : ∀ {u1 : xS} {y1 : Int32} {y3 : Int32} {y4 : Int32} {y5 : Int32} {y6 : Int32} {y7 : Int32} {H : Heap} {locs : List Loc} {ls : Array Slot}, mD G (xA w0 s.heap.size) s.heap b u1 sz H locs → lv_has ls 11 [(0, .ref b), (1, .int y1), (3, .int y3), (4, .int y4), (5, .int y5), (6, .int y6), (7, .int y7)] → k72 u1 y1 y3 y4 y5 y6 y7 = some rr → W p l e (xR 8 0 0) s m args below meth cd H locs 0 0 (xQi G w0 (fun r z => r = rr.1 ∧ z = ((mW G b rr.2), sz)) below args s 0 0) (F0 m 72 ls [])) : ∀ (nn : Nat) {u : xS} {y1 : Int32} {y3 : Int32} {y4 : Int32} {y5 : Int32} {y6 : Int32} {y7 : Int32} {y8 : Int32} {y9 : Int32} {H : Heap} {locs : List Loc} {ls : Array Slot}, mD G (xA w0 s.heap.size) s.heap b u sz H locs → lv_has ls 11 [(0, .ref b), (1, .int y1), (3, .int y3), (4, .int y4), (5, .int y5), (6, .int y6), (7, .int y7), (8, .int y8), (9, .int y9)] → F_X12_back_l122 k72 nn u y1 y3 y4 y5 y6 y7 y8 y9 = some rr → W p l e (xR 8 0 0) s m args below meth cd H locs 0 0 (xQi G w0 (fun r z => r = rr.1 ∧ z = ((mW G b rr.2), sz)) below args s 0 0) (F0 m 122 ls []) := by
  have hx := hE.1; have hb := hE.2.1
  intro nn
  induction nn with
  | zero => intro u y1 y3 y4 y5 y6 y7 y8 y9 H locs ls hD hl hF; rw [F_X12_back_l122] at hF; cases hF
  | succ nn ih =>
    intro u y1 y3 y4 y5 y6 y7 y8 y9 H locs ls hD hl hF
    rw [F_X12_back_l122] at hF
    refine lv_iload hx hb dX12_back_122 (lv_at hl 8 rfl) ?_
    refine lv_iload hx hb dX12_back_124 (lv_at hl 7 rfl) ?_
    refine lv_icmp_ge (tgt := 191) hx hb dX12_back_126 (by decide) (fun c1 => ?_) (fun c1 => ?_)
    · have hF := ite_p hF c1
      obtain ⟨x2, ex2⟩ : ∃ y : Int32, y = y7 + (1 : Int32) := ⟨_, rfl⟩
      have hF := xlet_e hF ex2
      refine lv_iinc (v := x2) (lv' := [(7, .int x2), (0, .ref b), (1, .int y1), (3, .int y3), (4, .int y4), (5, .int y5), (6, .int y6), (8, .int y8), (9, .int y9)]) hx hb dX12_back_191 hl (k := 6) rfl (by rw [ex2]; rfl) (by decide) rfl (fun ls hl => ?_)
      refine lv_goto (tgt := 72) hx hb dX12_back_194 (by decide) ?_
      exact h72 hD (lv_sub hl [1, 2, 3, 4, 5, 6, 0] rfl) hF
    · have hF := ite_n hF c1
      refine lv_aload_n hx hb dX12_back_129 rfl (lv_at hl 0 rfl) ?_
      refine gf_X12_25 hE hD dX12_back_130 ?_
      refine lv_iload hx hb dX12_back_133 (lv_at hl 8 rfl) ?_
      obtain ⟨h3, hF⟩ := ite_s hF
      refine ma_ld_9 hE hD h3 dX12_back_135 ?_
      refine lv_topi (fun x4 ex4 => ?_)
      have hF := xlet_e hF ex4
      refine lv_istore (lv' := [(10, .int x4), (0, .ref b), (1, .int y1), (3, .int y3), (4, .int y4), (5, .int y5), (6, .int y6), (7, .int y7), (8, .int y8), (9, .int y9)]) hx hb dX12_back_136 hl (by decide) rfl (fun ls hl => ?_)
      refine lv_aload_n hx hb dX12_back_138 rfl (lv_at hl 1 rfl) ?_
      refine lv_iload hx hb dX12_back_139 (lv_at hl 0 rfl) ?_
      refine lv_iload hx hb dX12_back_141 (lv_at hl 5 rfl) ?_
      obtain ⟨h5, hF⟩ := ite_s hF
      refine lv_idiv hx hb dX12_back_143 h5 ?_
      refine lv_iload hx hb dX12_back_144 (lv_at hl 6 rfl) ?_
      refine lv_iadd hx hb dX12_back_146 ?_
      refine lv_iload_n hx hb dX12_back_147 rfl (lv_at hl 2 rfl) ?_
      refine lv_iload hx hb dX12_back_148 (lv_at hl 0 rfl) ?_
      obtain ⟨r6, k7, hF⟩ := xb_s hF
      refine kVv (As := [.int ((x4 / y5) + y6), .int y1, .int x4]) (rest := []) hE hl hD (c_X12_addsBack (b := b) k7) kl_X12_167 (mW_0 _ _ _) rfl rfl rfl rfl (Nat.le_of_ble_eq_true rfl) dX12_back_150 ⟨Nat.le_of_ble_eq_true rfl, Nat.le_of_ble_eq_true rfl⟩ ⟨Nat.le_of_ble_eq_true rfl, Nat.le_of_ble_eq_true rfl⟩ (fun H locs (hD : mD G _ _ b r6 sz H locs) => ?_)
      refine lv_aload_n hx hb dX12_back_153 rfl (lv_at hl 1 rfl) ?_
      refine lv_iload hx hb dX12_back_154 (lv_at hl 0 rfl) ?_
      refine lv_iload hx hb dX12_back_156 (lv_at hl 6 rfl) ?_
      refine lv_iadd hx hb dX12_back_158 ?_
      refine lv_iload hx hb dX12_back_159 (lv_at hl 5 rfl) ?_
      obtain ⟨h8, hF⟩ := ite_s hF
      refine lv_idiv hx hb dX12_back_161 h8 ?_
      refine lv_iload_n hx hb dX12_back_162 rfl (lv_at hl 2 rfl) ?_
      refine lv_iload hx hb dX12_back_163 (lv_at hl 0 rfl) ?_
      obtain ⟨r9, k10, hF⟩ := xb_s hF
      refine kVv (As := [.int ((x4 + y6) / y5), .int y1, .int x4]) (rest := []) hE hl hD (c_X12_addsBack (b := b) k10) kl_X12_167 (mW_0 _ _ _) rfl rfl rfl rfl (Nat.le_of_ble_eq_true rfl) dX12_back_165 ⟨Nat.le_of_ble_eq_true rfl, Nat.le_of_ble_eq_true rfl⟩ ⟨Nat.le_of_ble_eq_true rfl, Nat.le_of_ble_eq_true rfl⟩ (fun H locs (hD : mD G _ _ b r9 sz H locs) => ?_)
      refine lv_aload_n hx hb dX12_back_168 rfl (lv_at hl 1 rfl) ?_
      refine lv_iload hx hb dX12_back_169 (lv_at hl 0 rfl) ?_
      refine lv_iload hx hb dX12_back_171 (lv_at hl 6 rfl) ?_
      refine lv_iadd hx hb dX12_back_173 ?_
      refine lv_iconst (v := (1 : Int32)) hx hb dX12_back_174 (by decide) ?_
      refine lv_iadd hx hb dX12_back_175 ?_
      refine lv_iload hx hb dX12_back_176 (lv_at hl 5 rfl) ?_
      obtain ⟨h11, hF⟩ := ite_s hF
      refine lv_idiv hx hb dX12_back_178 h11 ?_
      refine lv_iload_n hx hb dX12_back_179 rfl (lv_at hl 2 rfl) ?_
      refine lv_iload hx hb dX12_back_180 (lv_at hl 0 rfl) ?_
      obtain ⟨r12, k13, hF⟩ := xb_s hF
      refine kVv (As := [.int (((x4 + y6) + (1 : Int32)) / y5), .int y1, .int x4]) (rest := []) hE hl hD (c_X12_addsBack (b := b) k13) kl_X12_167 (mW_0 _ _ _) rfl rfl rfl rfl (Nat.le_of_ble_eq_true rfl) dX12_back_182 ⟨Nat.le_of_ble_eq_true rfl, Nat.le_of_ble_eq_true rfl⟩ ⟨Nat.le_of_ble_eq_true rfl, Nat.le_of_ble_eq_true rfl⟩ (fun H locs (hD : mD G _ _ b r12 sz H locs) => ?_)
      obtain ⟨x14, ex14⟩ : ∃ y : Int32, y = y9 + (1 : Int32) := ⟨_, rfl⟩
      have hF := xlet_e hF ex14
      refine lv_iinc (v := x14) (lv' := [(9, .int x14), (10, .int x4), (0, .ref b), (1, .int y1), (3, .int y3), (4, .int y4), (5, .int y5), (6, .int y6), (7, .int y7), (8, .int y8)]) hx hb dX12_back_185 hl (k := 9) rfl (by rw [ex14]; rfl) (by decide) rfl (fun ls hl => ?_)
      refine lv_goto (tgt := 122) hx hb dX12_back_188 (by decide) ?_
      exact ih hD (lv_sub hl [2, 3, 4, 5, 6, 7, 8, 9, 0] rfl) hF
def F_X12_back_l87 (k72 : xS → Int32 → Int32 → Int32 → Int32 → Int32 → Int32 → Option (Int32 × xS)) : Nat → xS → Int32 → Int32 → Int32 → Int32 → Int32 → Int32 → Int32 → Int32 → Option (Int32 × xS)
  | 0, _, _, _, _, _, _, _, _, _ => none
  | nn + 1, u, y1, y3, y4, y5, y6, y7, y8, y9 => if y8 ≤ y9 then xlet (mS u 10 (0 : Int32)) (fun u16 => F_X12_back_l122 k72 xFuel u16 y1 y3 y4 y5 y6 y7 y8 (0 : Int32)) else if xIn y9 200 then if xIn y9 200 then xlet (mA u 9 y9.toNatClampNeg (u.2.1 8 y9.toNatClampNeg)) (fun u19 => xlet (y9 + (1 : Int32)) (fun x20 => F_X12_back_l87 k72 nn u19 y1 y3 y4 y5 y6 y7 y8 x20)) else none else none
theorem L_X12_back_l87 {p : Program} {l : Launch} {e : Env} {s : State} {m : MethodId} {args : Array Value} {below : List Frame} {meth : Method} {cd : Code} {G : xG} {w0 : xW} {b sz : Nat} {rr : (Int32 × xS)} (hE : xE p s m args meth cd cX12_back RX12 G 11 (Option.some Jvm.ClassFile.FieldType.int)) (k72 : xS → Int32 → Int32 → Int32 → Int32 → Int32 → Int32 → Option (Int32 × xS)) (h72 : ∀ {u1 : xS} {y1 : Int32} {y3 : Int32} {y4 : Int32} {y5 : Int32} {y6 : Int32} {y7 : Int32} {H : Heap} {locs : List Loc} {ls : Array Slot}, mD G (xA w0 s.heap.size) s.heap b u1 sz H locs → lv_has ls 11 [(0, .ref b), (1, .int y1), (3, .int y3), (4, .int y4), (5, .int y5), (6, .int y6), (7, .int y7)] → k72 u1 y1 y3 y4 y5 y6 y7 = some rr → W p l e (xR 8 0 0) s m args below meth cd H locs 0 0 (xQi G w0 (fun r z => r = rr.1 ∧ z = ((mW G b rr.2), sz)) below args s 0 0) (F0 m 72 ls [])) : ∀ (nn : Nat) {u : xS} {y1 : Int32} {y3 : Int32} {y4 : Int32} {y5 : Int32} {y6 : Int32} {y7 : Int32} {y8 : Int32} {y9 : Int32} {H : Heap} {locs : List Loc} {ls : Array Slot}, mD G (xA w0 s.heap.size) s.heap b u sz H locs → lv_has ls 11 [(0, .ref b), (1, .int y1), (3, .int y3), (4, .int y4), (5, .int y5), (6, .int y6), (7, .int y7), (8, .int y8), (9, .int y9)] → F_X12_back_l87 k72 nn u y1 y3 y4 y5 y6 y7 y8 y9 = some rr → W p l e (xR 8 0 0) s m args below meth cd H locs 0 0 (xQi G w0 (fun r z => r = rr.1 ∧ z = ((mW G b rr.2), sz)) below args s 0 0) (F0 m 87 ls []) := by
  have hx := hE.1; have hb := hE.2.1
  intro nn
  induction nn with
  | zero => intro u y1 y3 y4 y5 y6 y7 y8 y9 H locs ls hD hl hF; rw [F_X12_back_l87] at hF; cases hF
  | succ nn ih =>
    intro u y1 y3 y4 y5 y6 y7 y8 y9 H locs ls hD hl hF
    rw [F_X12_back_l87] at hF
    refine lv_iload hx hb dX12_back_87 (lv_at hl 8 rfl) ?_
    refine lv_iload hx hb dX12_back_89 (lv_at hl 7 rfl) ?_
    refine lv_icmp_ge (tgt := 114) hx hb dX12_back_91 (by decide) (fun c15 => ?_) (fun c15 => ?_)
    · have hF := ite_p hF c15
      refine lv_aload_n hx hb dX12_back_114 rfl (lv_at hl 0 rfl) ?_
      refine lv_iconst (v := (0 : Int32)) hx hb dX12_back_115 (by decide) ?_
      refine pf_X12_162 hE hD dX12_back_116 (fun u16 H locs eu16 hD => ?_)
      have hF := xlet_e hF eu16
      refine lv_iconst (v := (0 : Int32)) hx hb dX12_back_119 (by decide) ?_
      refine lv_istore (lv' := [(9, .int (0 : Int32)), (0, .ref b), (1, .int y1), (3, .int y3), (4, .int y4), (5, .int y5), (6, .int y6), (7, .int y7), (8, .int y8)]) hx hb dX12_back_120 hl (by decide) rfl (fun ls hl => ?_)
      exact L_X12_back_l122 hE k72 h72 _ hD (lv_sub hl [1, 2, 3, 4, 5, 6, 7, 8, 0] rfl) hF
    · have hF := ite_n hF c15
      refine lv_aload_n hx hb dX12_back_94 rfl (lv_at hl 0 rfl) ?_
      refine gf_X12_25 hE hD dX12_back_95 ?_
      refine lv_iload hx hb dX12_back_98 (lv_at hl 8 rfl) ?_
      refine lv_aload_n hx hb dX12_back_100 rfl (lv_at hl 0 rfl) ?_
      refine gf_X12_22 hE hD dX12_back_101 ?_
      refine lv_iload hx hb dX12_back_104 (lv_at hl 8 rfl) ?_
      obtain ⟨h17, hF⟩ := ite_s hF
      refine ma_ld_8 hE hD h17 dX12_back_106 ?_
      obtain ⟨h18, hF⟩ := ite_s hF
      refine ma_st_9 hE hD h18 dX12_back_107 (fun u19 H locs eu19 hD => ?_)
      have hF := xlet_e hF eu19
      obtain ⟨x20, ex20⟩ : ∃ y : Int32, y = y9 + (1 : Int32) := ⟨_, rfl⟩
      have hF := xlet_e hF ex20
      refine lv_iinc (v := x20) (lv' := [(9, .int x20), (0, .ref b), (1, .int y1), (3, .int y3), (4, .int y4), (5, .int y5), (6, .int y6), (7, .int y7), (8, .int y8)]) hx hb dX12_back_108 hl (k := 8) rfl (by rw [ex20]; rfl) (by decide) rfl (fun ls hl => ?_)
      refine lv_goto (tgt := 87) hx hb dX12_back_111 (by decide) ?_
      exact ih hD (lv_sub hl [1, 2, 3, 4, 5, 6, 7, 8, 0] rfl) hF
def F_X12_back_l72 : Nat → xS → Int32 → Int32 → Int32 → Int32 → Int32 → Int32 → Option (Int32 × xS)
  | 0, _, _, _, _, _, _, _ => none
  | nn + 1, u, y1, y3, y4, y5, y6, y7 => if y3 ≤ y7 then if 0 ≤ y4 then if (u.1 10) ≤ y4 then F_X12_back_j230 u (-3 : Int32) else if xIn y4 200 then F_X12_back_j230 u (u.2.1 8 y4.toNatClampNeg) else none else F_X12_back_j230 u (u.1 10) else xlet (u.1 10) (fun x25 => F_X12_back_l87 (F_X12_back_l72 nn) xFuel u y1 y3 y4 y5 y6 y7 x25 (0 : Int32))
theorem L_X12_back_l72 {p : Program} {l : Launch} {e : Env} {s : State} {m : MethodId} {args : Array Value} {below : List Frame} {meth : Method} {cd : Code} {G : xG} {w0 : xW} {b sz : Nat} {rr : (Int32 × xS)} (hE : xE p s m args meth cd cX12_back RX12 G 11 (Option.some Jvm.ClassFile.FieldType.int)) : ∀ (nn : Nat) {u : xS} {y1 : Int32} {y3 : Int32} {y4 : Int32} {y5 : Int32} {y6 : Int32} {y7 : Int32} {H : Heap} {locs : List Loc} {ls : Array Slot}, mD G (xA w0 s.heap.size) s.heap b u sz H locs → lv_has ls 11 [(0, .ref b), (1, .int y1), (3, .int y3), (4, .int y4), (5, .int y5), (6, .int y6), (7, .int y7)] → F_X12_back_l72 nn u y1 y3 y4 y5 y6 y7 = some rr → W p l e (xR 8 0 0) s m args below meth cd H locs 0 0 (xQi G w0 (fun r z => r = rr.1 ∧ z = ((mW G b rr.2), sz)) below args s 0 0) (F0 m 72 ls []) := by
  have hx := hE.1; have hb := hE.2.1
  intro nn
  induction nn with
  | zero => intro u y1 y3 y4 y5 y6 y7 H locs ls hD hl hF; rw [F_X12_back_l72] at hF; cases hF
  | succ nn ih =>
    intro u y1 y3 y4 y5 y6 y7 H locs ls hD hl hF
    rw [F_X12_back_l72] at hF
    refine lv_iload hx hb dX12_back_72 (lv_at hl 6 rfl) ?_
    refine lv_iload_n hx hb dX12_back_74 rfl (lv_at hl 2 rfl) ?_
    refine lv_icmp_ge (tgt := 197) hx hb dX12_back_75 (by decide) (fun c21 => ?_) (fun c21 => ?_)
    · have hF := ite_p hF c21
      refine lv_iload hx hb dX12_back_197 (lv_at hl 3 rfl) ?_
      refine lv_if_ge (tgt := 209) hx hb dX12_back_199 (by decide) (fun c22 => ?_) (fun c22 => ?_)
      · have hF := ite_p hF c22
        refine lv_iload hx hb dX12_back_209 (lv_at hl 3 rfl) ?_
        refine lv_aload_n hx hb dX12_back_211 rfl (lv_at hl 0 rfl) ?_
        refine gf_X12_162 hE hD dX12_back_212 ?_
        refine lv_icmp_ge (tgt := 228) hx hb dX12_back_215 (by decide) (fun c23 => ?_) (fun c23 => ?_)
        · have hF := ite_p hF c23
          refine lv_bipush (v := (-3 : Int32)) hx hb dX12_back_228 (by decide) ?_
          exact B_X12_back_j230 hE hD (lv_sub hl [0] rfl) hF
        · have hF := ite_n hF c23
          refine lv_aload_n hx hb dX12_back_218 rfl (lv_at hl 0 rfl) ?_
          refine gf_X12_22 hE hD dX12_back_219 ?_
          refine lv_iload hx hb dX12_back_222 (lv_at hl 3 rfl) ?_
          obtain ⟨h24, hF⟩ := ite_s hF
          refine ma_ld_8 hE hD h24 dX12_back_224 ?_
          refine lv_goto (tgt := 230) hx hb dX12_back_225 (by decide) ?_
          exact B_X12_back_j230 hE hD (lv_sub hl [0] rfl) hF
      · have hF := ite_n hF c22
        refine lv_aload_n hx hb dX12_back_202 rfl (lv_at hl 0 rfl) ?_
        refine gf_X12_162 hE hD dX12_back_203 ?_
        refine lv_goto (tgt := 230) hx hb dX12_back_206 (by decide) ?_
        exact B_X12_back_j230 hE hD (lv_sub hl [0] rfl) hF
    · have hF := ite_n hF c21
      refine lv_aload_n hx hb dX12_back_78 rfl (lv_at hl 0 rfl) ?_
      refine gf_X12_162 hE hD dX12_back_79 ?_
      refine lv_topi (fun x25 ex25 => ?_)
      have hF := xlet_e hF ex25
      refine lv_istore (lv' := [(8, .int x25), (0, .ref b), (1, .int y1), (3, .int y3), (4, .int y4), (5, .int y5), (6, .int y6), (7, .int y7)]) hx hb dX12_back_82 hl (by decide) rfl (fun ls hl => ?_)
      refine lv_iconst (v := (0 : Int32)) hx hb dX12_back_84 (by decide) ?_
      refine lv_istore (lv' := [(9, .int (0 : Int32)), (8, .int x25), (0, .ref b), (1, .int y1), (3, .int y3), (4, .int y4), (5, .int y5), (6, .int y6), (7, .int y7)]) hx hb dX12_back_85 hl (by decide) rfl (fun ls hl => ?_)
      exact L_X12_back_l87 hE (F_X12_back_l72 nn) ih _ hD (lv_sub hl [2, 3, 4, 5, 6, 7, 8, 1, 0] rfl) hF
def F_X12_back_j38 (u : xS)  : Option (Int32 × xS) := some ((-1 : Int32), u)
theorem B_X12_back_j38 {p : Program} {l : Launch} {e : Env} {s : State} {m : MethodId} {args : Array Value} {below : List Frame} {meth : Method} {cd : Code} {G : xG} {w0 : xW} {b sz : Nat} {rr : (Int32 × xS)} (hE : xE p s m args meth cd cX12_back RX12 G 11 (Option.some Jvm.ClassFile.FieldType.int)) {u : xS}  {H : Heap} {locs : List Loc} {ls : Array Slot} (hD : mD G (xA w0 s.heap.size) s.heap b u sz H locs) (hl : lv_has ls 11 [(0, .ref b)]) (hF : F_X12_back_j38 u  = some rr) : W p l e (xR 8 0 0) s m args below meth cd H locs 0 0 (xQi G w0 (fun r z => r = rr.1 ∧ z = ((mW G b rr.2), sz)) below args s 0 0) (F0 m 38 ls []) := by
  have hx := hE.1; have hb := hE.2.1
  unfold F_X12_back_j38 at hF
  refine lv_iconst (v := (-1 : Int32)) hx hb dX12_back_38 (by decide) ?_
  obtain rfl := Option.some.inj hF
  exact x_iret hE hD ⟨rfl, rfl⟩ (by omega) (by omega) dX12_back_39
def F_X12_back (u : xS) (xa : Int32) (xb : Int32) (xc : Int32) (xd : Int32) : Option (Int32 × xS) := (F_X12_isBridge u xa).bind (fun r26 => if r26 = 0 then F_X12_back_j38 u else (F_X12_in xb.toInt64 (0 : Int64) (99999 : Int64)).bind (fun r30 => if r30 = 0 then F_X12_back_j38 u else (F_X12_in xc.toInt64 (1 : Int64) (6 : Int64)).bind (fun r34 => if r34 = 0 then F_X12_back_j38 u else if (-1 : Int32) ≤ xd then if xIn (0 : Int32) 200 then xlet (mA u 8 (0 : Int32).toNatClampNeg xb) (fun u40 => xlet (mS u40 10 (1 : Int32)) (fun u41 => (F_X12_asks u41 xa).bind (fun r42 => xlet (r42.1 5) (fun x44 => xlet (r42.1 6) (fun x45 => F_X12_back_l72 xFuel r42 xa xc xd x44 x45 (0 : Int32)))))) else none else F_X12_back_j38 u)))
theorem c_X12_back {l : Launch} {G : xG} {b sz : Nat} {rr : (Int32 × xS)} {u : xS} {xa : Int32} {xb : Int32} {xc : Int32} {xd : Int32} (hF : F_X12_back u xa xb xc xd = some rr) : xMi l G yX12_back cX12_back 11 (Option.some Jvm.ClassFile.FieldType.int) 8 0 0 [.ref b, .int xa, .int xb, .int xc, .int xd] (mW G b u) sz (fun r z => r = rr.1 ∧ z = ((mW G b rr.2), sz)) := by
  unfold F_X12_back at hF
  refine x_startI rfl (Nat.le_of_ble_eq_true rfl) (fun p e s m args below meth cd ls hE hnm hl hD => ?_)
  have hx := hE.1; have hb := hE.2.1
  have hl : lv_has ls 11 [(0, .ref b), (1, .int xa), (2, .int xb), (3, .int xc), (4, .int xd)] := hl
  have hD : mD G (xA (mW G b u) s.heap.size) s.heap b u sz s.heap [] := hD
  refine lv_aload_n hx hb dX12_back_0 rfl (lv_at hl 0 rfl) ?_
  refine lv_iload_n hx hb dX12_back_1 rfl (lv_at hl 1 rfl) ?_
  obtain ⟨r26, k27, hF⟩ := xb_s hF
  refine kVz (As := [.int xa]) (rest := []) hE hl hD (c_X12_isBridge (b := b) k27) kl_X12_114 (mW_0 _ _ _) rfl rfl rfl rfl (Nat.le_of_ble_eq_true rfl) dX12_back_2 ⟨Nat.le_of_ble_eq_true rfl, Nat.le_of_ble_eq_true rfl⟩ ⟨Nat.le_of_ble_eq_true rfl, Nat.le_of_ble_eq_true rfl⟩ (fun H locs z28 (hD : mD G _ _ b u sz H locs) => ?_)
  refine lv_if_eq (tgt := 38) hx hb dX12_back_5 (by decide) (fun c29 => ?_) (fun c29 => ?_)
  · have hF := ite_p hF c29
    exact B_X12_back_j38 hE hD (lv_sub hl [0] rfl) hF
  · have hF := ite_n hF c29
    refine lv_iload_n hx hb dX12_back_8 rfl (lv_at hl 2 rfl) ?_
    refine lv_i2l (v := xb.toInt64) hx hb dX12_back_9 rfl ?_
    refine lv_lconst (v := (0 : Int64)) hx hb dX12_back_10 (by decide) ?_
    refine lv_ldc2 (v := (99999 : Int64)) hx hb hE.2.2.1 (hE.2.2.2.1 _ kw6_190) dX12_back_11 ?_
    obtain ⟨r30, k31, hF⟩ := xb_s hF
    refine kSz (As := [.long xb.toInt64, .long (0 : Int64), .long (99999 : Int64)]) (rest := []) hE hl hD (c_X12_in k31) kl_X12_67 rfl rfl (Nat.le_of_ble_eq_true rfl) dX12_back_14 ⟨Nat.le_of_ble_eq_true rfl, Nat.le_of_ble_eq_true rfl⟩ ⟨Nat.le_of_ble_eq_true rfl, Nat.le_of_ble_eq_true rfl⟩ (fun H locs z32 (hD : mD G _ _ b u sz H locs) => ?_)
    refine lv_if_eq (tgt := 38) hx hb dX12_back_17 (by decide) (fun c33 => ?_) (fun c33 => ?_)
    · have hF := ite_p hF c33
      exact B_X12_back_j38 hE hD (lv_sub hl [0] rfl) hF
    · have hF := ite_n hF c33
      refine lv_iload_n hx hb dX12_back_20 rfl (lv_at hl 3 rfl) ?_
      refine lv_i2l (v := xc.toInt64) hx hb dX12_back_21 rfl ?_
      refine lv_lconst (v := (1 : Int64)) hx hb dX12_back_22 (by decide) ?_
      refine lv_ldc2 (v := (6 : Int64)) hx hb hE.2.2.1 (hE.2.2.2.1 _ kw6_59) dX12_back_23 ?_
      obtain ⟨r34, k35, hF⟩ := xb_s hF
      refine kSz (As := [.long xc.toInt64, .long (1 : Int64), .long (6 : Int64)]) (rest := []) hE hl hD (c_X12_in k35) kl_X12_67 rfl rfl (Nat.le_of_ble_eq_true rfl) dX12_back_26 ⟨Nat.le_of_ble_eq_true rfl, Nat.le_of_ble_eq_true rfl⟩ ⟨Nat.le_of_ble_eq_true rfl, Nat.le_of_ble_eq_true rfl⟩ (fun H locs z36 (hD : mD G _ _ b u sz H locs) => ?_)
      refine lv_if_eq (tgt := 38) hx hb dX12_back_29 (by decide) (fun c37 => ?_) (fun c37 => ?_)
      · have hF := ite_p hF c37
        exact B_X12_back_j38 hE hD (lv_sub hl [0] rfl) hF
      · have hF := ite_n hF c37
        refine lv_iload hx hb dX12_back_32 (lv_at hl 4 rfl) ?_
        refine lv_iconst (v := (-1 : Int32)) hx hb dX12_back_34 (by decide) ?_
        refine lv_icmp_ge (tgt := 40) hx hb dX12_back_35 (by decide) (fun c38 => ?_) (fun c38 => ?_)
        · have hF := ite_p hF c38
          refine lv_aload_n hx hb dX12_back_40 rfl (lv_at hl 0 rfl) ?_
          refine gf_X12_22 hE hD dX12_back_41 ?_
          refine lv_iconst (v := (0 : Int32)) hx hb dX12_back_44 (by decide) ?_
          refine lv_iload_n hx hb dX12_back_45 rfl (lv_at hl 2 rfl) ?_
          obtain ⟨h39, hF⟩ := ite_s hF
          refine ma_st_8 hE hD h39 dX12_back_46 (fun u40 H locs eu40 hD => ?_)
          have hF := xlet_e hF eu40
          refine lv_aload_n hx hb dX12_back_47 rfl (lv_at hl 0 rfl) ?_
          refine lv_iconst (v := (1 : Int32)) hx hb dX12_back_48 (by decide) ?_
          refine pf_X12_162 hE hD dX12_back_49 (fun u41 H locs eu41 hD => ?_)
          have hF := xlet_e hF eu41
          refine lv_aload_n hx hb dX12_back_52 rfl (lv_at hl 0 rfl) ?_
          refine lv_iload_n hx hb dX12_back_53 rfl (lv_at hl 1 rfl) ?_
          obtain ⟨r42, k43, hF⟩ := xb_s hF
          refine kVv (As := [.int xa]) (rest := []) hE hl hD (c_X12_asks (b := b) k43) kl_X12_118 (mW_0 _ _ _) rfl rfl rfl rfl (Nat.le_of_ble_eq_true rfl) dX12_back_54 ⟨Nat.le_of_ble_eq_true rfl, Nat.le_of_ble_eq_true rfl⟩ ⟨Nat.le_of_ble_eq_true rfl, Nat.le_of_ble_eq_true rfl⟩ (fun H locs (hD : mD G _ _ b r42 sz H locs) => ?_)
          refine lv_aload_n hx hb dX12_back_57 rfl (lv_at hl 0 rfl) ?_
          refine gf_X12_103 hE hD dX12_back_58 ?_
          refine lv_topi (fun x44 ex44 => ?_)
          have hF := xlet_e hF ex44
          refine lv_istore (lv' := [(5, .int x44), (0, .ref b), (1, .int xa), (2, .int xb), (3, .int xc), (4, .int xd)]) hx hb dX12_back_61 hl (by decide) rfl (fun ls hl => ?_)
          refine lv_aload_n hx hb dX12_back_63 rfl (lv_at hl 1 rfl) ?_
          refine gf_X12_107 hE hD dX12_back_64 ?_
          refine lv_topi (fun x45 ex45 => ?_)
          have hF := xlet_e hF ex45
          refine lv_istore (lv' := [(6, .int x45), (5, .int x44), (0, .ref b), (1, .int xa), (2, .int xb), (3, .int xc), (4, .int xd)]) hx hb dX12_back_67 hl (by decide) rfl (fun ls hl => ?_)
          refine lv_iconst (v := (0 : Int32)) hx hb dX12_back_69 (by decide) ?_
          refine lv_istore (lv' := [(7, .int (0 : Int32)), (6, .int x45), (5, .int x44), (0, .ref b), (1, .int xa), (2, .int xb), (3, .int xc), (4, .int xd)]) hx hb dX12_back_70 hl (by decide) rfl (fun ls hl => ?_)
          exact L_X12_back_l72 hE _ hD (lv_sub hl [3, 4, 6, 7, 2, 1, 0] rfl) hF
        · have hF := ite_n hF c38
          exact B_X12_back_j38 hE hD (lv_sub hl [0] rfl) hF
def F_X12_richest_j125 (k9 : xS → Int32 → Int32 → Option (Int32 × xS)) (u : xS) (y2 : Int32) (y3 : Int32) : Option (Int32 × xS) := xlet (y3 + (1 : Int32)) (fun x1 => k9 u y2 x1)
theorem B_X12_richest_j125 {p : Program} {l : Launch} {e : Env} {s : State} {m : MethodId} {args : Array Value} {below : List Frame} {meth : Method} {cd : Code} {G : xG} {w0 : xW} {b sz : Nat} {rr : (Int32 × xS)} (hE : xE p s m args meth cd cX12_richest RX12 G 7 (Option.some Jvm.ClassFile.FieldType.int)) {u : xS} (k9 : xS → Int32 → Int32 → Option (Int32 × xS)) (h9 : ∀ {u1 : xS} {y2 : Int32} {y3 : Int32} {H : Heap} {locs : List Loc} {ls : Array Slot}, mD G (xA w0 s.heap.size) s.heap b u1 sz H locs → lv_has ls 7 [(0, .ref b), (2, .int y2), (3, .int y3)] → k9 u1 y2 y3 = some rr → W p l e (xR 7 0 0) s m args below meth cd H locs 0 0 (xQi G w0 (fun r z => r = rr.1 ∧ z = ((mW G b rr.2), sz)) below args s 0 0) (F0 m 9 ls [])) {y2 : Int32} {y3 : Int32} {H : Heap} {locs : List Loc} {ls : Array Slot} (hD : mD G (xA w0 s.heap.size) s.heap b u sz H locs) (hl : lv_has ls 7 [(0, .ref b), (2, .int y2), (3, .int y3)]) (hF : F_X12_richest_j125 k9 u y2 y3 = some rr) : W p l e (xR 7 0 0) s m args below meth cd H locs 0 0 (xQi G w0 (fun r z => r = rr.1 ∧ z = ((mW G b rr.2), sz)) below args s 0 0) (F0 m 125 ls []) := by
  have hx := hE.1; have hb := hE.2.1
  unfold F_X12_richest_j125 at hF
  obtain ⟨x1, ex1⟩ : ∃ y : Int32, y = y3 + (1 : Int32) := ⟨_, rfl⟩
  have hF := xlet_e hF ex1
  refine lv_iinc (v := x1) (lv' := [(3, .int x1), (0, .ref b), (2, .int y2)]) hx hb dX12_richest_125 hl (k := 2) rfl (by rw [ex1]; rfl) (by decide) rfl (fun ls hl => ?_)
  refine lv_goto (tgt := 9) hx hb dX12_richest_128 (by decide) ?_
  exact h9 hD (lv_sub hl [1, 2, 0] rfl) hF
def F_X12_richest_j118 (k9 : xS → Int32 → Int32 → Option (Int32 × xS)) (k24 : xS → Int32 → Int32 → Int32 → Option (Int32 × xS)) (u : xS) (y2 : Int32) (y3 : Int32) (y4 : Int32) (s1 : Int32) (s2 : Int32) : Option (Int32 × xS) := if xIn s1 512 then xlet (mA u 11 s1.toNatClampNeg s2) (fun u3 => xlet (y4 + (1 : Int32)) (fun x4 => k24 u3 y2 y3 x4)) else none
theorem B_X12_richest_j118 {p : Program} {l : Launch} {e : Env} {s : State} {m : MethodId} {args : Array Value} {below : List Frame} {meth : Method} {cd : Code} {G : xG} {w0 : xW} {b sz : Nat} {rr : (Int32 × xS)} (hE : xE p s m args meth cd cX12_richest RX12 G 7 (Option.some Jvm.ClassFile.FieldType.int)) {u : xS} (k9 : xS → Int32 → Int32 → Option (Int32 × xS)) (h9 : ∀ {u1 : xS} {y2 : Int32} {y3 : Int32} {H : Heap} {locs : List Loc} {ls : Array Slot}, mD G (xA w0 s.heap.size) s.heap b u1 sz H locs → lv_has ls 7 [(0, .ref b), (2, .int y2), (3, .int y3)] → k9 u1 y2 y3 = some rr → W p l e (xR 7 0 0) s m args below meth cd H locs 0 0 (xQi G w0 (fun r z => r = rr.1 ∧ z = ((mW G b rr.2), sz)) below args s 0 0) (F0 m 9 ls [])) (k24 : xS → Int32 → Int32 → Int32 → Option (Int32 × xS)) (h24 : ∀ {u1 : xS} {y2 : Int32} {y3 : Int32} {y4 : Int32} {H : Heap} {locs : List Loc} {ls : Array Slot}, mD G (xA w0 s.heap.size) s.heap b u1 sz H locs → lv_has ls 7 [(0, .ref b), (2, .int y2), (3, .int y3), (4, .int y4)] → k24 u1 y2 y3 y4 = some rr → W p l e (xR 7 0 0) s m args below meth cd H locs 0 0 (xQi G w0 (fun r z => r = rr.1 ∧ z = ((mW G b rr.2), sz)) below args s 0 0) (F0 m 24 ls [])) {y2 : Int32} {y3 : Int32} {y4 : Int32} {s1 : Int32} {s2 : Int32} {H : Heap} {locs : List Loc} {ls : Array Slot} (hD : mD G (xA w0 s.heap.size) s.heap b u sz H locs) (hl : lv_has ls 7 [(0, .ref b), (2, .int y2), (3, .int y3), (4, .int y4)]) (hF : F_X12_richest_j118 k9 k24 u y2 y3 y4 s1 s2 = some rr) : W p l e (xR 7 0 0) s m args below meth cd H locs 0 0 (xQi G w0 (fun r z => r = rr.1 ∧ z = ((mW G b rr.2), sz)) below args s 0 0) (F0 m 118 ls [.int s2, .int s1, .ref (b + 7)]) := by
  have hx := hE.1; have hb := hE.2.1
  unfold F_X12_richest_j118 at hF
  obtain ⟨h2, hF⟩ := ite_s hF
  refine ma_st_11 hE hD h2 dX12_richest_118 (fun u3 H locs eu3 hD => ?_)
  have hF := xlet_e hF eu3
  obtain ⟨x4, ex4⟩ : ∃ y : Int32, y = y4 + (1 : Int32) := ⟨_, rfl⟩
  have hF := xlet_e hF ex4
  refine lv_iinc (v := x4) (lv' := [(4, .int x4), (0, .ref b), (2, .int y2), (3, .int y3)]) hx hb dX12_richest_119 hl (k := 3) rfl (by rw [ex4]; rfl) (by decide) rfl (fun ls hl => ?_)
  refine lv_goto (tgt := 24) hx hb dX12_richest_122 (by decide) ?_
  exact h24 hD (lv_sub hl [1, 2, 3, 0] rfl) hF
def F_X12_richest_j89 (k9 : xS → Int32 → Int32 → Option (Int32 × xS)) (k24 : xS → Int32 → Int32 → Int32 → Option (Int32 × xS)) (u : xS) (y2 : Int32) (y3 : Int32) (y4 : Int32) (s0 : Int32) : Option (Int32 × xS) := if xIn y3 512 then if s0 ≤ (u.2.1 11 y3.toNatClampNeg) then if xIn y3 512 then F_X12_richest_j118 k9 k24 u y2 y3 y4 y3 (u.2.1 11 y3.toNatClampNeg) else none else F_X12_richest_j118 k9 k24 u y2 y3 y4 y3 s0 else none
theorem B_X12_richest_j89 {p : Program} {l : Launch} {e : Env} {s : State} {m : MethodId} {args : Array Value} {below : List Frame} {meth : Method} {cd : Code} {G : xG} {w0 : xW} {b sz : Nat} {rr : (Int32 × xS)} (hE : xE p s m args meth cd cX12_richest RX12 G 7 (Option.some Jvm.ClassFile.FieldType.int)) {u : xS} (k9 : xS → Int32 → Int32 → Option (Int32 × xS)) (h9 : ∀ {u1 : xS} {y2 : Int32} {y3 : Int32} {H : Heap} {locs : List Loc} {ls : Array Slot}, mD G (xA w0 s.heap.size) s.heap b u1 sz H locs → lv_has ls 7 [(0, .ref b), (2, .int y2), (3, .int y3)] → k9 u1 y2 y3 = some rr → W p l e (xR 7 0 0) s m args below meth cd H locs 0 0 (xQi G w0 (fun r z => r = rr.1 ∧ z = ((mW G b rr.2), sz)) below args s 0 0) (F0 m 9 ls [])) (k24 : xS → Int32 → Int32 → Int32 → Option (Int32 × xS)) (h24 : ∀ {u1 : xS} {y2 : Int32} {y3 : Int32} {y4 : Int32} {H : Heap} {locs : List Loc} {ls : Array Slot}, mD G (xA w0 s.heap.size) s.heap b u1 sz H locs → lv_has ls 7 [(0, .ref b), (2, .int y2), (3, .int y3), (4, .int y4)] → k24 u1 y2 y3 y4 = some rr → W p l e (xR 7 0 0) s m args below meth cd H locs 0 0 (xQi G w0 (fun r z => r = rr.1 ∧ z = ((mW G b rr.2), sz)) below args s 0 0) (F0 m 24 ls [])) {y2 : Int32} {y3 : Int32} {y4 : Int32} {s0 : Int32} {H : Heap} {locs : List Loc} {ls : Array Slot} (hD : mD G (xA w0 s.heap.size) s.heap b u sz H locs) (hl : lv_has ls 7 [(0, .ref b), (2, .int y2), (3, .int y3), (4, .int y4)]) (hF : F_X12_richest_j89 k9 k24 u y2 y3 y4 s0 = some rr) : W p l e (xR 7 0 0) s m args below meth cd H locs 0 0 (xQi G w0 (fun r z => r = rr.1 ∧ z = ((mW G b rr.2), sz)) below args s 0 0) (F0 m 89 ls [.int s0]) := by
  have hx := hE.1; have hb := hE.2.1
  unfold F_X12_richest_j89 at hF
  refine lv_istore (lv' := [(6, .int s0), (0, .ref b), (2, .int y2), (3, .int y3), (4, .int y4)]) hx hb dX12_richest_89 hl (by decide) rfl (fun ls hl => ?_)
  refine lv_aload_n hx hb dX12_richest_91 rfl (lv_at hl 1 rfl) ?_
  refine gf_X12_28 hE hD dX12_richest_92 ?_
  refine lv_iload_n hx hb dX12_richest_95 rfl (lv_at hl 3 rfl) ?_
  refine lv_iload hx hb dX12_richest_96 (lv_at hl 0 rfl) ?_
  refine lv_aload_n hx hb dX12_richest_98 rfl (lv_at hl 1 rfl) ?_
  refine gf_X12_28 hE hD dX12_richest_99 ?_
  refine lv_iload_n hx hb dX12_richest_102 rfl (lv_at hl 3 rfl) ?_
  obtain ⟨h5, hF⟩ := ite_s hF
  refine ma_ld_11 hE hD h5 dX12_richest_103 ?_
  refine lv_icmp_le (tgt := 112) hx hb dX12_richest_104 (by decide) (fun c6 => ?_) (fun c6 => ?_)
  · have hF := ite_p hF c6
    refine lv_aload_n hx hb dX12_richest_112 rfl (lv_at hl 1 rfl) ?_
    refine gf_X12_28 hE hD dX12_richest_113 ?_
    refine lv_iload_n hx hb dX12_richest_116 rfl (lv_at hl 3 rfl) ?_
    obtain ⟨h7, hF⟩ := ite_s hF
    refine ma_ld_11 hE hD h7 dX12_richest_117 ?_
    exact B_X12_richest_j118 hE k9 h9 k24 h24 hD (lv_sub hl [1, 2, 3, 4] rfl) hF
  · have hF := ite_n hF c6
    refine lv_iload hx hb dX12_richest_107 (lv_at hl 0 rfl) ?_
    refine lv_goto (tgt := 118) hx hb dX12_richest_109 (by decide) ?_
    exact B_X12_richest_j118 hE k9 h9 k24 h24 hD (lv_sub hl [1, 2, 3, 4] rfl) hF
def F_X12_richest_j69 (k9 : xS → Int32 → Int32 → Option (Int32 × xS)) (k24 : xS → Int32 → Int32 → Int32 → Option (Int32 × xS)) (u : xS) (y2 : Int32) (y3 : Int32) (y4 : Int32) (s0 : Int32) : Option (Int32 × xS) := if 0 ≤ s0 then (F_X12_becomes u y4 s0.toInt64).bind (fun r9 => F_X12_richest_j89 k9 k24 r9.2 y2 y3 y4 r9.1) else F_X12_richest_j89 k9 k24 u y2 y3 y4 (-1 : Int32)
theorem B_X12_richest_j69 {p : Program} {l : Launch} {e : Env} {s : State} {m : MethodId} {args : Array Value} {below : List Frame} {meth : Method} {cd : Code} {G : xG} {w0 : xW} {b sz : Nat} {rr : (Int32 × xS)} (hE : xE p s m args meth cd cX12_richest RX12 G 7 (Option.some Jvm.ClassFile.FieldType.int)) {u : xS} (k9 : xS → Int32 → Int32 → Option (Int32 × xS)) (h9 : ∀ {u1 : xS} {y2 : Int32} {y3 : Int32} {H : Heap} {locs : List Loc} {ls : Array Slot}, mD G (xA w0 s.heap.size) s.heap b u1 sz H locs → lv_has ls 7 [(0, .ref b), (2, .int y2), (3, .int y3)] → k9 u1 y2 y3 = some rr → W p l e (xR 7 0 0) s m args below meth cd H locs 0 0 (xQi G w0 (fun r z => r = rr.1 ∧ z = ((mW G b rr.2), sz)) below args s 0 0) (F0 m 9 ls [])) (k24 : xS → Int32 → Int32 → Int32 → Option (Int32 × xS)) (h24 : ∀ {u1 : xS} {y2 : Int32} {y3 : Int32} {y4 : Int32} {H : Heap} {locs : List Loc} {ls : Array Slot}, mD G (xA w0 s.heap.size) s.heap b u1 sz H locs → lv_has ls 7 [(0, .ref b), (2, .int y2), (3, .int y3), (4, .int y4)] → k24 u1 y2 y3 y4 = some rr → W p l e (xR 7 0 0) s m args below meth cd H locs 0 0 (xQi G w0 (fun r z => r = rr.1 ∧ z = ((mW G b rr.2), sz)) below args s 0 0) (F0 m 24 ls [])) {y2 : Int32} {y3 : Int32} {y4 : Int32} {s0 : Int32} {H : Heap} {locs : List Loc} {ls : Array Slot} (hD : mD G (xA w0 s.heap.size) s.heap b u sz H locs) (hl : lv_has ls 7 [(0, .ref b), (2, .int y2), (3, .int y3), (4, .int y4)]) (hF : F_X12_richest_j69 k9 k24 u y2 y3 y4 s0 = some rr) : W p l e (xR 7 0 0) s m args below meth cd H locs 0 0 (xQi G w0 (fun r z => r = rr.1 ∧ z = ((mW G b rr.2), sz)) below args s 0 0) (F0 m 69 ls [.int s0]) := by
  have hx := hE.1; have hb := hE.2.1
  unfold F_X12_richest_j69 at hF
  refine lv_istore (lv' := [(5, .int s0), (0, .ref b), (2, .int y2), (3, .int y3), (4, .int y4)]) hx hb dX12_richest_69 hl (by decide) rfl (fun ls hl => ?_)
  refine lv_iload hx hb dX12_richest_71 (lv_at hl 0 rfl) ?_
  refine lv_if_ge (tgt := 80) hx hb dX12_richest_73 (by decide) (fun c8 => ?_) (fun c8 => ?_)
  · have hF := ite_p hF c8
    refine lv_aload_n hx hb dX12_richest_80 rfl (lv_at hl 1 rfl) ?_
    refine lv_iload hx hb dX12_richest_81 (lv_at hl 4 rfl) ?_
    refine lv_iload hx hb dX12_richest_83 (lv_at hl 0 rfl) ?_
    refine lv_i2l (v := s0.toInt64) hx hb dX12_richest_85 rfl ?_
    obtain ⟨r9, k10, hF⟩ := xb_s hF
    refine kVi (As := [.int y4, .long s0.toInt64]) (rest := []) hE hl hD (c_X12_becomes (b := b) k10) kl_X12_144 (mW_0 _ _ _) rfl rfl rfl rfl (Nat.le_of_ble_eq_true rfl) dX12_richest_86 ⟨Nat.le_of_ble_eq_true rfl, Nat.le_of_ble_eq_true rfl⟩ ⟨Nat.le_of_ble_eq_true rfl, Nat.le_of_ble_eq_true rfl⟩ (fun H locs (hD : mD G _ _ b r9.2 sz H locs) => ?_)
    exact B_X12_richest_j89 hE k9 h9 k24 h24 hD (lv_sub hl [1, 2, 3, 4] rfl) hF
  · have hF := ite_n hF c8
    refine lv_iconst (v := (-1 : Int32)) hx hb dX12_richest_76 (by decide) ?_
    refine lv_goto (tgt := 89) hx hb dX12_richest_77 (by decide) ?_
    exact B_X12_richest_j89 hE k9 h9 k24 h24 hD (lv_sub hl [1, 2, 3, 4] rfl) hF
def F_X12_richest_l24 (k9 : xS → Int32 → Int32 → Option (Int32 × xS)) : Nat → xS → Int32 → Int32 → Int32 → Option (Int32 × xS)
  | 0, _, _, _, _ => none
  | nn + 1, u, y2, y3, y4 => if xIn (0 : Int32) 303 then if (u.2.1 0 (0 : Int32).toNatClampNeg) ≤ y4 then F_X12_richest_j125 k9 u y2 y3 else if (y3 &&& (y2 ^^^ (-1 : Int32))) = 0 then (F_X12_has y3 y4).bind (fun r14 => if r14 = 0 then F_X12_richest_j69 k9 (F_X12_richest_l24 k9 nn) u y2 y3 y4 (-1 : Int32) else if xIn (y3 &&& (((1 : Int32) <<< (y4 &&& 31)) ^^^ (-1 : Int32))) 512 then F_X12_richest_j69 k9 (F_X12_richest_l24 k9 nn) u y2 y3 y4 (u.2.1 11 (y3 &&& (((1 : Int32) <<< (y4 &&& 31)) ^^^ (-1 : Int32))).toNatClampNeg) else none) else F_X12_richest_j125 k9 u y2 y3 else none
theorem L_X12_richest_l24 {p : Program} {l : Launch} {e : Env} {s : State} {m : MethodId} {args : Array Value} {below : List Frame} {meth : Method} {cd : Code} {G : xG} {w0 : xW} {b sz : Nat} {rr : (Int32 × xS)} (hE : xE p s m args meth cd cX12_richest RX12 G 7 (Option.some Jvm.ClassFile.FieldType.int)) (k9 : xS → Int32 → Int32 → Option (Int32 × xS)) (h9 : ∀ {u1 : xS} {y2 : Int32} {y3 : Int32} {H : Heap} {locs : List Loc} {ls : Array Slot}, mD G (xA w0 s.heap.size) s.heap b u1 sz H locs → lv_has ls 7 [(0, .ref b), (2, .int y2), (3, .int y3)] → k9 u1 y2 y3 = some rr → W p l e (xR 7 0 0) s m args below meth cd H locs 0 0 (xQi G w0 (fun r z => r = rr.1 ∧ z = ((mW G b rr.2), sz)) below args s 0 0) (F0 m 9 ls [])) : ∀ (nn : Nat) {u : xS} {y2 : Int32} {y3 : Int32} {y4 : Int32} {H : Heap} {locs : List Loc} {ls : Array Slot}, mD G (xA w0 s.heap.size) s.heap b u sz H locs → lv_has ls 7 [(0, .ref b), (2, .int y2), (3, .int y3), (4, .int y4)] → F_X12_richest_l24 k9 nn u y2 y3 y4 = some rr → W p l e (xR 7 0 0) s m args below meth cd H locs 0 0 (xQi G w0 (fun r z => r = rr.1 ∧ z = ((mW G b rr.2), sz)) below args s 0 0) (F0 m 24 ls []) := by
  have hx := hE.1; have hb := hE.2.1
  intro nn
  induction nn with
  | zero => intro u y2 y3 y4 H locs ls hD hl hF; rw [F_X12_richest_l24] at hF; cases hF
  | succ nn ih =>
    intro u y2 y3 y4 H locs ls hD hl hF
    rw [F_X12_richest_l24] at hF
    refine lv_iload hx hb dX12_richest_24 (lv_at hl 3 rfl) ?_
    refine lv_aload_n hx hb dX12_richest_26 rfl (lv_at hl 0 rfl) ?_
    refine gf_X12_7 hE hD dX12_richest_27 ?_
    refine lv_iconst (v := (0 : Int32)) hx hb dX12_richest_30 (by decide) ?_
    obtain ⟨h11, hF⟩ := ite_s hF
    refine ma_ld_0 hE hD h11 dX12_richest_31 ?_
    refine lv_icmp_ge (tgt := 125) hx hb dX12_richest_32 (by decide) (fun c12 => ?_) (fun c12 => ?_)
    · have hF := ite_p hF c12
      exact B_X12_richest_j125 hE k9 h9 hD (lv_sub hl [0, 1, 2] rfl) hF
    · have hF := ite_n hF c12
      refine lv_iload_n hx hb dX12_richest_35 rfl (lv_at hl 2 rfl) ?_
      refine lv_iload_n hx hb dX12_richest_36 rfl (lv_at hl 1 rfl) ?_
      refine lv_iconst (v := (-1 : Int32)) hx hb dX12_richest_37 (by decide) ?_
      refine lv_ixor hx hb dX12_richest_38 ?_
      refine lv_iand hx hb dX12_richest_39 ?_
      refine lv_if_ne (tgt := 125) hx hb dX12_richest_40 (by decide) (fun c13 => ?_) (fun c13 => ?_)
      · have hF := ite_n hF c13
        exact B_X12_richest_j125 hE k9 h9 hD (lv_sub hl [0, 1, 2] rfl) hF
      · have hF := ite_p hF c13
        refine lv_iload_n hx hb dX12_richest_43 rfl (lv_at hl 2 rfl) ?_
        refine lv_iload hx hb dX12_richest_44 (lv_at hl 3 rfl) ?_
        obtain ⟨r14, k15, hF⟩ := xb_s hF
        refine kSz (As := [.int y3, .int y4]) (rest := []) hE hl hD (c_X12_has k15) kl_X12_170 rfl rfl (Nat.le_of_ble_eq_true rfl) dX12_richest_46 ⟨Nat.le_of_ble_eq_true rfl, Nat.le_of_ble_eq_true rfl⟩ ⟨Nat.le_of_ble_eq_true rfl, Nat.le_of_ble_eq_true rfl⟩ (fun H locs z16 (hD : mD G _ _ b u sz H locs) => ?_)
        refine lv_if_eq (tgt := 68) hx hb dX12_richest_49 (by decide) (fun c17 => ?_) (fun c17 => ?_)
        · have hF := ite_p hF c17
          refine lv_iconst (v := (-1 : Int32)) hx hb dX12_richest_68 (by decide) ?_
          exact B_X12_richest_j69 hE k9 h9 (F_X12_richest_l24 k9 nn) ih hD (lv_sub hl [0, 1, 2, 3] rfl) hF
        · have hF := ite_n hF c17
          refine lv_aload_n hx hb dX12_richest_52 rfl (lv_at hl 0 rfl) ?_
          refine gf_X12_28 hE hD dX12_richest_53 ?_
          refine lv_iload_n hx hb dX12_richest_56 rfl (lv_at hl 2 rfl) ?_
          refine lv_iconst (v := (1 : Int32)) hx hb dX12_richest_57 (by decide) ?_
          refine lv_iload hx hb dX12_richest_58 (lv_at hl 3 rfl) ?_
          refine lv_ishl hx hb dX12_richest_60 ?_
          refine lv_iconst (v := (-1 : Int32)) hx hb dX12_richest_61 (by decide) ?_
          refine lv_ixor hx hb dX12_richest_62 ?_
          refine lv_iand hx hb dX12_richest_63 ?_
          obtain ⟨h18, hF⟩ := ite_s hF
          refine ma_ld_11 hE hD h18 dX12_richest_64 ?_
          refine lv_goto (tgt := 69) hx hb dX12_richest_65 (by decide) ?_
          exact B_X12_richest_j69 hE k9 h9 (F_X12_richest_l24 k9 nn) ih hD (lv_sub hl [0, 1, 2, 3] rfl) hF
def F_X12_richest_l9 : Nat → xS → Int32 → Int32 → Option (Int32 × xS)
  | 0, _, _, _ => none
  | nn + 1, u, y2, y3 => if y2 < y3 then if xIn y2 512 then some (u.2.1 11 y2.toNatClampNeg, u) else none else if xIn y3 512 then xlet (mA u 11 y3.toNatClampNeg (-1 : Int32)) (fun u22 => F_X12_richest_l24 (F_X12_richest_l9 nn) xFuel u22 y2 y3 (0 : Int32)) else none
theorem L_X12_richest_l9 {p : Program} {l : Launch} {e : Env} {s : State} {m : MethodId} {args : Array Value} {below : List Frame} {meth : Method} {cd : Code} {G : xG} {w0 : xW} {b sz : Nat} {rr : (Int32 × xS)} (hE : xE p s m args meth cd cX12_richest RX12 G 7 (Option.some Jvm.ClassFile.FieldType.int)) : ∀ (nn : Nat) {u : xS} {y2 : Int32} {y3 : Int32} {H : Heap} {locs : List Loc} {ls : Array Slot}, mD G (xA w0 s.heap.size) s.heap b u sz H locs → lv_has ls 7 [(0, .ref b), (2, .int y2), (3, .int y3)] → F_X12_richest_l9 nn u y2 y3 = some rr → W p l e (xR 7 0 0) s m args below meth cd H locs 0 0 (xQi G w0 (fun r z => r = rr.1 ∧ z = ((mW G b rr.2), sz)) below args s 0 0) (F0 m 9 ls []) := by
  have hx := hE.1; have hb := hE.2.1
  intro nn
  induction nn with
  | zero => intro u y2 y3 H locs ls hD hl hF; rw [F_X12_richest_l9] at hF; cases hF
  | succ nn ih =>
    intro u y2 y3 H locs ls hD hl hF
    rw [F_X12_richest_l9] at hF
    refine lv_iload_n hx hb dX12_richest_9 rfl (lv_at hl 2 rfl) ?_
    refine lv_iload_n hx hb dX12_richest_10 rfl (lv_at hl 1 rfl) ?_
    refine lv_icmp_gt (tgt := 131) hx hb dX12_richest_11 (by decide) (fun c19 => ?_) (fun c19 => ?_)
    · have hF := ite_p hF c19
      refine lv_aload_n hx hb dX12_richest_131 rfl (lv_at hl 0 rfl) ?_
      refine gf_X12_28 hE hD dX12_richest_132 ?_
      refine lv_iload_n hx hb dX12_richest_135 rfl (lv_at hl 1 rfl) ?_
      obtain ⟨h20, hF⟩ := ite_s hF
      refine ma_ld_11 hE hD h20 dX12_richest_136 ?_
      obtain rfl := Option.some.inj hF
      exact x_iret hE hD ⟨rfl, rfl⟩ (by omega) (by omega) dX12_richest_137
    · have hF := ite_n hF c19
      refine lv_aload_n hx hb dX12_richest_14 rfl (lv_at hl 0 rfl) ?_
      refine gf_X12_28 hE hD dX12_richest_15 ?_
      refine lv_iload_n hx hb dX12_richest_18 rfl (lv_at hl 2 rfl) ?_
      refine lv_iconst (v := (-1 : Int32)) hx hb dX12_richest_19 (by decide) ?_
      obtain ⟨h21, hF⟩ := ite_s hF
      refine ma_st_11 hE hD h21 dX12_richest_20 (fun u22 H locs eu22 hD => ?_)
      have hF := xlet_e hF eu22
      refine lv_iconst (v := (0 : Int32)) hx hb dX12_richest_21 (by decide) ?_
      refine lv_istore (lv' := [(4, .int (0 : Int32)), (0, .ref b), (2, .int y2), (3, .int y3)]) hx hb dX12_richest_22 hl (by decide) rfl (fun ls hl => ?_)
      exact L_X12_richest_l24 hE (F_X12_richest_l9 nn) ih _ hD (lv_sub hl [1, 2, 3, 0] rfl) hF
def F_X12_richest (u : xS) (xa : Int32) (xb : Int32) : Option (Int32 × xS) := if xIn (0 : Int32) 512 then xlet (mA u 11 (0 : Int32).toNatClampNeg xa) (fun u24 => F_X12_richest_l9 xFuel u24 xb (1 : Int32)) else none
theorem c_X12_richest {l : Launch} {G : xG} {b sz : Nat} {rr : (Int32 × xS)} {u : xS} {xa : Int32} {xb : Int32} (hF : F_X12_richest u xa xb = some rr) : xMi l G yX12_richest cX12_richest 7 (Option.some Jvm.ClassFile.FieldType.int) 7 0 0 [.ref b, .int xa, .int xb] (mW G b u) sz (fun r z => r = rr.1 ∧ z = ((mW G b rr.2), sz)) := by
  unfold F_X12_richest at hF
  refine x_startI rfl (Nat.le_of_ble_eq_true rfl) (fun p e s m args below meth cd ls hE hnm hl hD => ?_)
  have hx := hE.1; have hb := hE.2.1
  have hl : lv_has ls 7 [(0, .ref b), (1, .int xa), (2, .int xb)] := hl
  have hD : mD G (xA (mW G b u) s.heap.size) s.heap b u sz s.heap [] := hD
  refine lv_aload_n hx hb dX12_richest_0 rfl (lv_at hl 0 rfl) ?_
  refine gf_X12_28 hE hD dX12_richest_1 ?_
  refine lv_iconst (v := (0 : Int32)) hx hb dX12_richest_4 (by decide) ?_
  refine lv_iload_n hx hb dX12_richest_5 rfl (lv_at hl 1 rfl) ?_
  obtain ⟨h23, hF⟩ := ite_s hF
  refine ma_st_11 hE hD h23 dX12_richest_6 (fun u24 H locs eu24 hD => ?_)
  have hF := xlet_e hF eu24
  refine lv_iconst (v := (1 : Int32)) hx hb dX12_richest_7 (by decide) ?_
  refine lv_istore_n (lv' := [(3, .int (1 : Int32)), (0, .ref b), (1, .int xa), (2, .int xb)]) hx hb dX12_richest_8 rfl hl (by decide) rfl (fun ls hl => ?_)
  exact L_X12_richest_l9 hE _ hD (lv_sub hl [1, 3, 0] rfl) hF
def F_X12_isSet (u : xS) (xa : Int32) : Option Int32 := if xIn (0 : Int32) 303 then (F_X12_in xa.toInt64 (0 : Int64) ((((1 : Int32) <<< ((u.2.1 0 (0 : Int32).toNatClampNeg) &&& 31)) - (1 : Int32)).toInt64)).bind (fun r2 => some r2) else none
theorem c_X12_isSet {l : Launch} {G : xG} {b sz : Nat} {rr : Int32} {u : xS} {xa : Int32} (hF : F_X12_isSet u xa = some rr) : xMi l G yX12_isSet cX12_isSet 2 (Option.some Jvm.ClassFile.FieldType.boolean) 2 0 0 [.ref b, .int xa] (mW G b u) sz (fun r z => r = rr ∧ (rr = 0 ∨ rr = 1) ∧ z = ((mW G b u), sz)) := by
  unfold F_X12_isSet at hF
  refine x_startI rfl (Nat.le_of_ble_eq_true rfl) (fun p e s m args below meth cd ls hE hnm hl hD => ?_)
  have hx := hE.1; have hb := hE.2.1
  have hl : lv_has ls 2 [(0, .ref b), (1, .int xa)] := hl
  have hD : mD G (xA (mW G b u) s.heap.size) s.heap b u sz s.heap [] := hD
  refine lv_iload_n hx hb dX12_isSet_0 rfl (lv_at hl 1 rfl) ?_
  refine lv_i2l (v := xa.toInt64) hx hb dX12_isSet_1 rfl ?_
  refine lv_lconst (v := (0 : Int64)) hx hb dX12_isSet_2 (by decide) ?_
  refine lv_iconst (v := (1 : Int32)) hx hb dX12_isSet_3 (by decide) ?_
  refine lv_aload_n hx hb dX12_isSet_4 rfl (lv_at hl 0 rfl) ?_
  refine gf_X12_7 hE hD dX12_isSet_5 ?_
  refine lv_iconst (v := (0 : Int32)) hx hb dX12_isSet_8 (by decide) ?_
  obtain ⟨h1, hF⟩ := ite_s hF
  refine ma_ld_0 hE hD h1 dX12_isSet_9 ?_
  refine lv_ishl hx hb dX12_isSet_10 ?_
  refine lv_iconst (v := (1 : Int32)) hx hb dX12_isSet_11 (by decide) ?_
  refine lv_isub hx hb dX12_isSet_12 ?_
  refine lv_i2l (v := (((1 : Int32) <<< ((u.2.1 0 (0 : Int32).toNatClampNeg) &&& 31)) - (1 : Int32)).toInt64) hx hb dX12_isSet_13 rfl ?_
  obtain ⟨r2, k3, hF⟩ := xb_s hF
  refine kSz (As := [.long xa.toInt64, .long (0 : Int64), .long ((((1 : Int32) <<< ((u.2.1 0 (0 : Int32).toNatClampNeg) &&& 31)) - (1 : Int32)).toInt64)]) (rest := []) hE hl hD (c_X12_in k3) kl_X12_67 rfl rfl (Nat.le_of_ble_eq_true rfl) dX12_isSet_14 ⟨Nat.le_of_ble_eq_true rfl, Nat.le_of_ble_eq_true rfl⟩ ⟨Nat.le_of_ble_eq_true rfl, Nat.le_of_ble_eq_true rfl⟩ (fun H locs z4 (hD : mD G _ _ b u sz H locs) => ?_)
  obtain rfl := Option.some.inj hF
  exact x_zret hE hD z4 ⟨rfl, z4, rfl⟩ (by omega) (by omega) dX12_isSet_17
def F_X12_rich_j29 (u : xS) (s0 : Int32) : Option (Int32 × xS) := some (s0, u)
theorem B_X12_rich_j29 {p : Program} {l : Launch} {e : Env} {s : State} {m : MethodId} {args : Array Value} {below : List Frame} {meth : Method} {cd : Code} {G : xG} {w0 : xW} {b sz : Nat} {rr : (Int32 × xS)} (hE : xE p s m args meth cd cX12_rich RX12 G 3 (Option.some Jvm.ClassFile.FieldType.int)) {u : xS} {s0 : Int32} {H : Heap} {locs : List Loc} {ls : Array Slot} (hD : mD G (xA w0 s.heap.size) s.heap b u sz H locs) (hl : lv_has ls 3 [(0, .ref b)]) (hF : F_X12_rich_j29 u s0 = some rr) : W p l e (xR 8 0 0) s m args below meth cd H locs 0 0 (xQi G w0 (fun r z => r = rr.1 ∧ z = ((mW G b rr.2), sz)) below args s 0 0) (F0 m 29 ls [.int s0]) := by
  have hx := hE.1; have hb := hE.2.1
  unfold F_X12_rich_j29 at hF
  obtain rfl := Option.some.inj hF
  exact x_iret hE hD ⟨rfl, rfl⟩ (by omega) (by omega) dX12_rich_29
def F_X12_rich_j28 (u : xS)  : Option (Int32 × xS) := F_X12_rich_j29 u (-1 : Int32)
theorem B_X12_rich_j28 {p : Program} {l : Launch} {e : Env} {s : State} {m : MethodId} {args : Array Value} {below : List Frame} {meth : Method} {cd : Code} {G : xG} {w0 : xW} {b sz : Nat} {rr : (Int32 × xS)} (hE : xE p s m args meth cd cX12_rich RX12 G 3 (Option.some Jvm.ClassFile.FieldType.int)) {u : xS}  {H : Heap} {locs : List Loc} {ls : Array Slot} (hD : mD G (xA w0 s.heap.size) s.heap b u sz H locs) (hl : lv_has ls 3 [(0, .ref b)]) (hF : F_X12_rich_j28 u  = some rr) : W p l e (xR 8 0 0) s m args below meth cd H locs 0 0 (xQi G w0 (fun r z => r = rr.1 ∧ z = ((mW G b rr.2), sz)) below args s 0 0) (F0 m 28 ls []) := by
  have hx := hE.1; have hb := hE.2.1
  unfold F_X12_rich_j28 at hF
  refine lv_iconst (v := (-1 : Int32)) hx hb dX12_rich_28 (by decide) ?_
  exact B_X12_rich_j29 hE hD (lv_sub hl [0] rfl) hF
def F_X12_rich (u : xS) (xa : Int32) (xb : Int32) : Option (Int32 × xS) := (F_X12_isPurse xa.toInt64).bind (fun r1 => if r1 = 0 then F_X12_rich_j28 u else (F_X12_isSet u xb).bind (fun r5 => if r5 = 0 then F_X12_rich_j28 u else (F_X12_richest u xa xb).bind (fun r9 => (F_X12_noneOf r9.1).bind (fun r11 => F_X12_rich_j29 r9.2 r11))))
theorem c_X12_rich {l : Launch} {G : xG} {b sz : Nat} {rr : (Int32 × xS)} {u : xS} {xa : Int32} {xb : Int32} (hF : F_X12_rich u xa xb = some rr) : xMi l G yX12_rich cX12_rich 3 (Option.some Jvm.ClassFile.FieldType.int) 8 0 0 [.ref b, .int xa, .int xb] (mW G b u) sz (fun r z => r = rr.1 ∧ z = ((mW G b rr.2), sz)) := by
  unfold F_X12_rich at hF
  refine x_startI rfl (Nat.le_of_ble_eq_true rfl) (fun p e s m args below meth cd ls hE hnm hl hD => ?_)
  have hx := hE.1; have hb := hE.2.1
  have hl : lv_has ls 3 [(0, .ref b), (1, .int xa), (2, .int xb)] := hl
  have hD : mD G (xA (mW G b u) s.heap.size) s.heap b u sz s.heap [] := hD
  refine lv_iload_n hx hb dX12_rich_0 rfl (lv_at hl 1 rfl) ?_
  refine lv_i2l (v := xa.toInt64) hx hb dX12_rich_1 rfl ?_
  obtain ⟨r1, k2, hF⟩ := xb_s hF
  refine kSz (As := [.long xa.toInt64]) (rest := []) hE hl hD (c_X12_isPurse k2) kl_X12_134 rfl rfl (Nat.le_of_ble_eq_true rfl) dX12_rich_2 ⟨Nat.le_of_ble_eq_true rfl, Nat.le_of_ble_eq_true rfl⟩ ⟨Nat.le_of_ble_eq_true rfl, Nat.le_of_ble_eq_true rfl⟩ (fun H locs z3 (hD : mD G _ _ b u sz H locs) => ?_)
  refine lv_if_eq (tgt := 28) hx hb dX12_rich_5 (by decide) (fun c4 => ?_) (fun c4 => ?_)
  · have hF := ite_p hF c4
    exact B_X12_rich_j28 hE hD (lv_sub hl [0] rfl) hF
  · have hF := ite_n hF c4
    refine lv_aload_n hx hb dX12_rich_8 rfl (lv_at hl 0 rfl) ?_
    refine lv_iload_n hx hb dX12_rich_9 rfl (lv_at hl 2 rfl) ?_
    obtain ⟨r5, k6, hF⟩ := xb_s hF
    refine kVz (As := [.int xb]) (rest := []) hE hl hD (c_X12_isSet (b := b) k6) kl_X12_173 (mW_0 _ _ _) rfl rfl rfl rfl (Nat.le_of_ble_eq_true rfl) dX12_rich_10 ⟨Nat.le_of_ble_eq_true rfl, Nat.le_of_ble_eq_true rfl⟩ ⟨Nat.le_of_ble_eq_true rfl, Nat.le_of_ble_eq_true rfl⟩ (fun H locs z7 (hD : mD G _ _ b u sz H locs) => ?_)
    refine lv_if_eq (tgt := 28) hx hb dX12_rich_13 (by decide) (fun c8 => ?_) (fun c8 => ?_)
    · have hF := ite_p hF c8
      exact B_X12_rich_j28 hE hD (lv_sub hl [0] rfl) hF
    · have hF := ite_n hF c8
      refine lv_aload_n hx hb dX12_rich_16 rfl (lv_at hl 0 rfl) ?_
      refine lv_iload_n hx hb dX12_rich_17 rfl (lv_at hl 1 rfl) ?_
      refine lv_iload_n hx hb dX12_rich_18 rfl (lv_at hl 2 rfl) ?_
      obtain ⟨r9, k10, hF⟩ := xb_s hF
      refine kVi (As := [.int xa, .int xb]) (rest := []) hE hl hD (c_X12_richest (b := b) k10) kl_X12_176 (mW_0 _ _ _) rfl rfl rfl rfl (Nat.le_of_ble_eq_true rfl) dX12_rich_19 ⟨Nat.le_of_ble_eq_true rfl, Nat.le_of_ble_eq_true rfl⟩ ⟨Nat.le_of_ble_eq_true rfl, Nat.le_of_ble_eq_true rfl⟩ (fun H locs (hD : mD G _ _ b r9.2 sz H locs) => ?_)
      obtain ⟨r11, k12, hF⟩ := xb_s hF
      refine kSi (As := [.int r9.1]) (rest := []) hE hl hD (c_X12_noneOf k12) kl_X12_158 rfl rfl (Nat.le_of_ble_eq_true rfl) dX12_rich_22 ⟨Nat.le_of_ble_eq_true rfl, Nat.le_of_ble_eq_true rfl⟩ ⟨Nat.le_of_ble_eq_true rfl, Nat.le_of_ble_eq_true rfl⟩ (fun H locs (hD : mD G _ _ b r9.2 sz H locs) => ?_)
      refine lv_goto (tgt := 29) hx hb dX12_rich_25 (by decide) ?_
      exact B_X12_rich_j29 hE hD (lv_sub hl [0] rfl) hF
def F_X12_order_j183 (u : xS) (y7 : Int32) : Option (Int32 × xS) := (F_X12_noneOf y7).bind (fun r1 => some (r1, u))
theorem B_X12_order_j183 {p : Program} {l : Launch} {e : Env} {s : State} {m : MethodId} {args : Array Value} {below : List Frame} {meth : Method} {cd : Code} {G : xG} {w0 : xW} {b sz : Nat} {rr : (Int32 × xS)} (hE : xE p s m args meth cd cX12_order RX12 G 11 (Option.some Jvm.ClassFile.FieldType.int)) {u : xS} {y7 : Int32} {H : Heap} {locs : List Loc} {ls : Array Slot} (hD : mD G (xA w0 s.heap.size) s.heap b u sz H locs) (hl : lv_has ls 11 [(0, .ref b), (7, .int y7)]) (hF : F_X12_order_j183 u y7 = some rr) : W p l e (xR 8 0 0) s m args below meth cd H locs 0 0 (xQi G w0 (fun r z => r = rr.1 ∧ z = ((mW G b rr.2), sz)) below args s 0 0) (F0 m 183 ls []) := by
  have hx := hE.1; have hb := hE.2.1
  unfold F_X12_order_j183 at hF
  refine lv_iload hx hb dX12_order_183 (lv_at hl 1 rfl) ?_
  obtain ⟨r1, k2, hF⟩ := xb_s hF
  refine kSi (As := [.int y7]) (rest := []) hE hl hD (c_X12_noneOf k2) kl_X12_158 rfl rfl (Nat.le_of_ble_eq_true rfl) dX12_order_185 ⟨Nat.le_of_ble_eq_true rfl, Nat.le_of_ble_eq_true rfl⟩ ⟨Nat.le_of_ble_eq_true rfl, Nat.le_of_ble_eq_true rfl⟩ (fun H locs (hD : mD G _ _ b u sz H locs) => ?_)
  obtain rfl := Option.some.inj hF
  exact x_iret hE hD ⟨rfl, rfl⟩ (by omega) (by omega) dX12_order_188
def F_X12_order_j147 (k50 : xS → Int32 → Int32 → Int32 → Int32 → Int32 → Int32 → Option (Int32 × xS)) (u : xS) (y3 : Int32) (y4 : Int32) (y5 : Int32) (y6 : Int32) (y7 : Int32) (y8 : Int32) : Option (Int32 × xS) := if 0 ≤ y7 then (F_X12_becomes u y7 y6.toInt64).bind (fun r4 => xlet (y5 &&& (((1 : Int32) <<< (y7 &&& 31)) ^^^ (-1 : Int32))) (fun x6 => xlet (y8 + (1 : Int32)) (fun x7 => k50 r4.2 y3 y4 x6 r4.1 y7 x7))) else some ((-3 : Int32), u)
theorem B_X12_order_j147 {p : Program} {l : Launch} {e : Env} {s : State} {m : MethodId} {args : Array Value} {below : List Frame} {meth : Method} {cd : Code} {G : xG} {w0 : xW} {b sz : Nat} {rr : (Int32 × xS)} (hE : xE p s m args meth cd cX12_order RX12 G 11 (Option.some Jvm.ClassFile.FieldType.int)) {u : xS} (k50 : xS → Int32 → Int32 → Int32 → Int32 → Int32 → Int32 → Option (Int32 × xS)) (h50 : ∀ {u1 : xS} {y3 : Int32} {y4 : Int32} {y5 : Int32} {y6 : Int32} {y7 : Int32} {y8 : Int32} {H : Heap} {locs : List Loc} {ls : Array Slot}, mD G (xA w0 s.heap.size) s.heap b u1 sz H locs → lv_has ls 11 [(0, .ref b), (3, .int y3), (4, .int y4), (5, .int y5), (6, .int y6), (7, .int y7), (8, .int y8)] → k50 u1 y3 y4 y5 y6 y7 y8 = some rr → W p l e (xR 8 0 0) s m args below meth cd H locs 0 0 (xQi G w0 (fun r z => r = rr.1 ∧ z = ((mW G b rr.2), sz)) below args s 0 0) (F0 m 50 ls [])) {y3 : Int32} {y4 : Int32} {y5 : Int32} {y6 : Int32} {y7 : Int32} {y8 : Int32} {H : Heap} {locs : List Loc} {ls : Array Slot} (hD : mD G (xA w0 s.heap.size) s.heap b u sz H locs) (hl : lv_has ls 11 [(0, .ref b), (3, .int y3), (4, .int y4), (5, .int y5), (6, .int y6), (7, .int y7), (8, .int y8)]) (hF : F_X12_order_j147 k50 u y3 y4 y5 y6 y7 y8 = some rr) : W p l e (xR 8 0 0) s m args below meth cd H locs 0 0 (xQi G w0 (fun r z => r = rr.1 ∧ z = ((mW G b rr.2), sz)) below args s 0 0) (F0 m 147 ls []) := by
  have hx := hE.1; have hb := hE.2.1
  unfold F_X12_order_j147 at hF
  refine lv_iload hx hb dX12_order_147 (lv_at hl 5 rfl) ?_
  refine lv_if_ge (tgt := 155) hx hb dX12_order_149 (by decide) (fun c3 => ?_) (fun c3 => ?_)
  · have hF := ite_p hF c3
    refine lv_aload_n hx hb dX12_order_155 rfl (lv_at hl 0 rfl) ?_
    refine lv_iload hx hb dX12_order_156 (lv_at hl 5 rfl) ?_
    refine lv_iload hx hb dX12_order_158 (lv_at hl 4 rfl) ?_
    refine lv_i2l (v := y6.toInt64) hx hb dX12_order_160 rfl ?_
    obtain ⟨r4, k5, hF⟩ := xb_s hF
    refine kVi (As := [.int y7, .long y6.toInt64]) (rest := []) hE hl hD (c_X12_becomes (b := b) k5) kl_X12_144 (mW_0 _ _ _) rfl rfl rfl rfl (Nat.le_of_ble_eq_true rfl) dX12_order_161 ⟨Nat.le_of_ble_eq_true rfl, Nat.le_of_ble_eq_true rfl⟩ ⟨Nat.le_of_ble_eq_true rfl, Nat.le_of_ble_eq_true rfl⟩ (fun H locs (hD : mD G _ _ b r4.2 sz H locs) => ?_)
    refine lv_istore (lv' := [(6, .int r4.1), (0, .ref b), (3, .int y3), (4, .int y4), (5, .int y5), (7, .int y7), (8, .int y8)]) hx hb dX12_order_164 hl (by decide) rfl (fun ls hl => ?_)
    refine lv_iload hx hb dX12_order_166 (lv_at hl 4 rfl) ?_
    refine lv_iconst (v := (1 : Int32)) hx hb dX12_order_168 (by decide) ?_
    refine lv_iload hx hb dX12_order_169 (lv_at hl 5 rfl) ?_
    refine lv_ishl hx hb dX12_order_171 ?_
    refine lv_iconst (v := (-1 : Int32)) hx hb dX12_order_172 (by decide) ?_
    refine lv_ixor hx hb dX12_order_173 ?_
    refine lv_iand hx hb dX12_order_174 ?_
    refine lv_topi (fun x6 ex6 => ?_)
    have hF := xlet_e hF ex6
    refine lv_istore (lv' := [(5, .int x6), (6, .int r4.1), (0, .ref b), (3, .int y3), (4, .int y4), (7, .int y7), (8, .int y8)]) hx hb dX12_order_175 hl (by decide) rfl (fun ls hl => ?_)
    obtain ⟨x7, ex7⟩ : ∃ y : Int32, y = y8 + (1 : Int32) := ⟨_, rfl⟩
    have hF := xlet_e hF ex7
    refine lv_iinc (v := x7) (lv' := [(8, .int x7), (5, .int x6), (6, .int r4.1), (0, .ref b), (3, .int y3), (4, .int y4), (7, .int y7)]) hx hb dX12_order_177 hl (k := 6) rfl (by rw [ex7]; rfl) (by decide) rfl (fun ls hl => ?_)
    refine lv_goto (tgt := 50) hx hb dX12_order_180 (by decide) ?_
    exact h50 hD (lv_sub hl [3, 4, 5, 1, 2, 6, 0] rfl) hF
  · have hF := ite_n hF c3
    refine lv_bipush (v := (-3 : Int32)) hx hb dX12_order_152 (by decide) ?_
    obtain rfl := Option.some.inj hF
    exact x_iret hE hD ⟨rfl, rfl⟩ (by omega) (by omega) dX12_order_154
def F_X12_order_j139 (k50 : xS → Int32 → Int32 → Int32 → Int32 → Int32 → Int32 → Option (Int32 × xS)) (k67 : xS → Int32 → Int32 → Int32 → Int32 → Int32 → Int32 → Int32 → Option (Int32 × xS)) (u : xS) (y3 : Int32) (y4 : Int32) (y5 : Int32) (y6 : Int32) (y8 : Int32) (y9 : Int32) (s0 : Int32) : Option (Int32 × xS) := xlet (y9 + (1 : Int32)) (fun x8 => k67 u y3 y4 y5 y6 s0 y8 x8)
theorem B_X12_order_j139 {p : Program} {l : Launch} {e : Env} {s : State} {m : MethodId} {args : Array Value} {below : List Frame} {meth : Method} {cd : Code} {G : xG} {w0 : xW} {b sz : Nat} {rr : (Int32 × xS)} (hE : xE p s m args meth cd cX12_order RX12 G 11 (Option.some Jvm.ClassFile.FieldType.int)) {u : xS} (k50 : xS → Int32 → Int32 → Int32 → Int32 → Int32 → Int32 → Option (Int32 × xS)) (h50 : ∀ {u1 : xS} {y3 : Int32} {y4 : Int32} {y5 : Int32} {y6 : Int32} {y7 : Int32} {y8 : Int32} {H : Heap} {locs : List Loc} {ls : Array Slot}, mD G (xA w0 s.heap.size) s.heap b u1 sz H locs → lv_has ls 11 [(0, .ref b), (3, .int y3), (4, .int y4), (5, .int y5), (6, .int y6), (7, .int y7), (8, .int y8)] → k50 u1 y3 y4 y5 y6 y7 y8 = some rr → W p l e (xR 8 0 0) s m args below meth cd H locs 0 0 (xQi G w0 (fun r z => r = rr.1 ∧ z = ((mW G b rr.2), sz)) below args s 0 0) (F0 m 50 ls [])) (k67 : xS → Int32 → Int32 → Int32 → Int32 → Int32 → Int32 → Int32 → Option (Int32 × xS)) (h67 : ∀ {u1 : xS} {y3 : Int32} {y4 : Int32} {y5 : Int32} {y6 : Int32} {y7 : Int32} {y8 : Int32} {y9 : Int32} {H : Heap} {locs : List Loc} {ls : Array Slot}, mD G (xA w0 s.heap.size) s.heap b u1 sz H locs → lv_has ls 11 [(0, .ref b), (3, .int y3), (4, .int y4), (5, .int y5), (6, .int y6), (7, .int y7), (8, .int y8), (9, .int y9)] → k67 u1 y3 y4 y5 y6 y7 y8 y9 = some rr → W p l e (xR 8 0 0) s m args below meth cd H locs 0 0 (xQi G w0 (fun r z => r = rr.1 ∧ z = ((mW G b rr.2), sz)) below args s 0 0) (F0 m 67 ls [])) {y3 : Int32} {y4 : Int32} {y5 : Int32} {y6 : Int32} {y8 : Int32} {y9 : Int32} {s0 : Int32} {H : Heap} {locs : List Loc} {ls : Array Slot} (hD : mD G (xA w0 s.heap.size) s.heap b u sz H locs) (hl : lv_has ls 11 [(0, .ref b), (3, .int y3), (4, .int y4), (5, .int y5), (6, .int y6), (8, .int y8), (9, .int y9)]) (hF : F_X12_order_j139 k50 k67 u y3 y4 y5 y6 y8 y9 s0 = some rr) : W p l e (xR 8 0 0) s m args below meth cd H locs 0 0 (xQi G w0 (fun r z => r = rr.1 ∧ z = ((mW G b rr.2), sz)) below args s 0 0) (F0 m 139 ls [.int s0]) := by
  have hx := hE.1; have hb := hE.2.1
  unfold F_X12_order_j139 at hF
  refine lv_istore (lv' := [(7, .int s0), (0, .ref b), (3, .int y3), (4, .int y4), (5, .int y5), (6, .int y6), (8, .int y8), (9, .int y9)]) hx hb dX12_order_139 hl (by decide) rfl (fun ls hl => ?_)
  obtain ⟨x8, ex8⟩ : ∃ y : Int32, y = y9 + (1 : Int32) := ⟨_, rfl⟩
  have hF := xlet_e hF ex8
  refine lv_iinc (v := x8) (lv' := [(9, .int x8), (7, .int s0), (0, .ref b), (3, .int y3), (4, .int y4), (5, .int y5), (6, .int y6), (8, .int y8)]) hx hb dX12_order_141 hl (k := 7) rfl (by rw [ex8]; rfl) (by decide) rfl (fun ls hl => ?_)
  refine lv_goto (tgt := 67) hx hb dX12_order_144 (by decide) ?_
  exact h67 hD (lv_sub hl [2, 3, 4, 5, 6, 1, 7, 0] rfl) hF
def F_X12_order_j138 (k50 : xS → Int32 → Int32 → Int32 → Int32 → Int32 → Int32 → Option (Int32 × xS)) (k67 : xS → Int32 → Int32 → Int32 → Int32 → Int32 → Int32 → Int32 → Option (Int32 × xS)) (u : xS) (y3 : Int32) (y4 : Int32) (y5 : Int32) (y6 : Int32) (y8 : Int32) (y9 : Int32) : Option (Int32 × xS) := F_X12_order_j139 k50 k67 u y3 y4 y5 y6 y8 y9 (-1 : Int32)
theorem B_X12_order_j138 {p : Program} {l : Launch} {e : Env} {s : State} {m : MethodId} {args : Array Value} {below : List Frame} {meth : Method} {cd : Code} {G : xG} {w0 : xW} {b sz : Nat} {rr : (Int32 × xS)} (hE : xE p s m args meth cd cX12_order RX12 G 11 (Option.some Jvm.ClassFile.FieldType.int)) {u : xS} (k50 : xS → Int32 → Int32 → Int32 → Int32 → Int32 → Int32 → Option (Int32 × xS)) (h50 : ∀ {u1 : xS} {y3 : Int32} {y4 : Int32} {y5 : Int32} {y6 : Int32} {y7 : Int32} {y8 : Int32} {H : Heap} {locs : List Loc} {ls : Array Slot}, mD G (xA w0 s.heap.size) s.heap b u1 sz H locs → lv_has ls 11 [(0, .ref b), (3, .int y3), (4, .int y4), (5, .int y5), (6, .int y6), (7, .int y7), (8, .int y8)] → k50 u1 y3 y4 y5 y6 y7 y8 = some rr → W p l e (xR 8 0 0) s m args below meth cd H locs 0 0 (xQi G w0 (fun r z => r = rr.1 ∧ z = ((mW G b rr.2), sz)) below args s 0 0) (F0 m 50 ls [])) (k67 : xS → Int32 → Int32 → Int32 → Int32 → Int32 → Int32 → Int32 → Option (Int32 × xS)) (h67 : ∀ {u1 : xS} {y3 : Int32} {y4 : Int32} {y5 : Int32} {y6 : Int32} {y7 : Int32} {y8 : Int32} {y9 : Int32} {H : Heap} {locs : List Loc} {ls : Array Slot}, mD G (xA w0 s.heap.size) s.heap b u1 sz H locs → lv_has ls 11 [(0, .ref b), (3, .int y3), (4, .int y4), (5, .int y5), (6, .int y6), (7, .int y7), (8, .int y8), (9, .int y9)] → k67 u1 y3 y4 y5 y6 y7 y8 y9 = some rr → W p l e (xR 8 0 0) s m args below meth cd H locs 0 0 (xQi G w0 (fun r z => r = rr.1 ∧ z = ((mW G b rr.2), sz)) below args s 0 0) (F0 m 67 ls [])) {y3 : Int32} {y4 : Int32} {y5 : Int32} {y6 : Int32} {y8 : Int32} {y9 : Int32} {H : Heap} {locs : List Loc} {ls : Array Slot} (hD : mD G (xA w0 s.heap.size) s.heap b u sz H locs) (hl : lv_has ls 11 [(0, .ref b), (3, .int y3), (4, .int y4), (5, .int y5), (6, .int y6), (8, .int y8), (9, .int y9)]) (hF : F_X12_order_j138 k50 k67 u y3 y4 y5 y6 y8 y9 = some rr) : W p l e (xR 8 0 0) s m args below meth cd H locs 0 0 (xQi G w0 (fun r z => r = rr.1 ∧ z = ((mW G b rr.2), sz)) below args s 0 0) (F0 m 138 ls []) := by
  have hx := hE.1; have hb := hE.2.1
  unfold F_X12_order_j138 at hF
  refine lv_iconst (v := (-1 : Int32)) hx hb dX12_order_138 (by decide) ?_
  exact B_X12_order_j139 hE k50 h50 k67 h67 hD (lv_sub hl [0, 1, 2, 3, 4, 5, 6] rfl) hF
def F_X12_order_j106 (k50 : xS → Int32 → Int32 → Int32 → Int32 → Int32 → Int32 → Option (Int32 × xS)) (k67 : xS → Int32 → Int32 → Int32 → Int32 → Int32 → Int32 → Int32 → Option (Int32 × xS)) (u : xS) (y3 : Int32) (y4 : Int32) (y5 : Int32) (y6 : Int32) (y8 : Int32) (y9 : Int32) (s0 : Int32) : Option (Int32 × xS) := if s0 < 0 then F_X12_order_j138 k50 k67 u y3 y4 y5 y6 y8 y9 else (F_X12_richest u s0 (y5 &&& (((1 : Int32) <<< (y9 &&& 31)) ^^^ (-1 : Int32)))).bind (fun r10 => if r10.1 = y4 then F_X12_order_j139 k50 k67 r10.2 y3 y4 y5 y6 y8 y9 y9 else F_X12_order_j138 k50 k67 r10.2 y3 y4 y5 y6 y8 y9)
theorem B_X12_order_j106 {p : Program} {l : Launch} {e : Env} {s : State} {m : MethodId} {args : Array Value} {below : List Frame} {meth : Method} {cd : Code} {G : xG} {w0 : xW} {b sz : Nat} {rr : (Int32 × xS)} (hE : xE p s m args meth cd cX12_order RX12 G 11 (Option.some Jvm.ClassFile.FieldType.int)) {u : xS} (k50 : xS → Int32 → Int32 → Int32 → Int32 → Int32 → Int32 → Option (Int32 × xS)) (h50 : ∀ {u1 : xS} {y3 : Int32} {y4 : Int32} {y5 : Int32} {y6 : Int32} {y7 : Int32} {y8 : Int32} {H : Heap} {locs : List Loc} {ls : Array Slot}, mD G (xA w0 s.heap.size) s.heap b u1 sz H locs → lv_has ls 11 [(0, .ref b), (3, .int y3), (4, .int y4), (5, .int y5), (6, .int y6), (7, .int y7), (8, .int y8)] → k50 u1 y3 y4 y5 y6 y7 y8 = some rr → W p l e (xR 8 0 0) s m args below meth cd H locs 0 0 (xQi G w0 (fun r z => r = rr.1 ∧ z = ((mW G b rr.2), sz)) below args s 0 0) (F0 m 50 ls [])) (k67 : xS → Int32 → Int32 → Int32 → Int32 → Int32 → Int32 → Int32 → Option (Int32 × xS)) (h67 : ∀ {u1 : xS} {y3 : Int32} {y4 : Int32} {y5 : Int32} {y6 : Int32} {y7 : Int32} {y8 : Int32} {y9 : Int32} {H : Heap} {locs : List Loc} {ls : Array Slot}, mD G (xA w0 s.heap.size) s.heap b u1 sz H locs → lv_has ls 11 [(0, .ref b), (3, .int y3), (4, .int y4), (5, .int y5), (6, .int y6), (7, .int y7), (8, .int y8), (9, .int y9)] → k67 u1 y3 y4 y5 y6 y7 y8 y9 = some rr → W p l e (xR 8 0 0) s m args below meth cd H locs 0 0 (xQi G w0 (fun r z => r = rr.1 ∧ z = ((mW G b rr.2), sz)) below args s 0 0) (F0 m 67 ls [])) {y3 : Int32} {y4 : Int32} {y5 : Int32} {y6 : Int32} {y8 : Int32} {y9 : Int32} {s0 : Int32} {H : Heap} {locs : List Loc} {ls : Array Slot} (hD : mD G (xA w0 s.heap.size) s.heap b u sz H locs) (hl : lv_has ls 11 [(0, .ref b), (3, .int y3), (4, .int y4), (5, .int y5), (6, .int y6), (8, .int y8), (9, .int y9)]) (hF : F_X12_order_j106 k50 k67 u y3 y4 y5 y6 y8 y9 s0 = some rr) : W p l e (xR 8 0 0) s m args below meth cd H locs 0 0 (xQi G w0 (fun r z => r = rr.1 ∧ z = ((mW G b rr.2), sz)) below args s 0 0) (F0 m 106 ls [.int s0]) := by
  have hx := hE.1; have hb := hE.2.1
  unfold F_X12_order_j106 at hF
  refine lv_istore (lv' := [(10, .int s0), (0, .ref b), (3, .int y3), (4, .int y4), (5, .int y5), (6, .int y6), (8, .int y8), (9, .int y9)]) hx hb dX12_order_106 hl (by decide) rfl (fun ls hl => ?_)
  refine lv_iload hx hb dX12_order_108 (lv_at hl 0 rfl) ?_
  refine lv_if_lt (tgt := 138) hx hb dX12_order_110 (by decide) (fun c9 => ?_) (fun c9 => ?_)
  · have hF := ite_p hF c9
    exact B_X12_order_j138 hE k50 h50 k67 h67 hD (lv_sub hl [1, 2, 3, 4, 5, 6, 7] rfl) hF
  · have hF := ite_n hF c9
    refine lv_aload_n hx hb dX12_order_113 rfl (lv_at hl 1 rfl) ?_
    refine lv_iload hx hb dX12_order_114 (lv_at hl 0 rfl) ?_
    refine lv_iload hx hb dX12_order_116 (lv_at hl 4 rfl) ?_
    refine lv_iconst (v := (1 : Int32)) hx hb dX12_order_118 (by decide) ?_
    refine lv_iload hx hb dX12_order_119 (lv_at hl 7 rfl) ?_
    refine lv_ishl hx hb dX12_order_121 ?_
    refine lv_iconst (v := (-1 : Int32)) hx hb dX12_order_122 (by decide) ?_
    refine lv_ixor hx hb dX12_order_123 ?_
    refine lv_iand hx hb dX12_order_124 ?_
    obtain ⟨r10, k11, hF⟩ := xb_s hF
    refine kVi (As := [.int s0, .int (y5 &&& (((1 : Int32) <<< (y9 &&& 31)) ^^^ (-1 : Int32)))]) (rest := []) hE hl hD (c_X12_richest (b := b) k11) kl_X12_176 (mW_0 _ _ _) rfl rfl rfl rfl (Nat.le_of_ble_eq_true rfl) dX12_order_125 ⟨Nat.le_of_ble_eq_true rfl, Nat.le_of_ble_eq_true rfl⟩ ⟨Nat.le_of_ble_eq_true rfl, Nat.le_of_ble_eq_true rfl⟩ (fun H locs (hD : mD G _ _ b r10.2 sz H locs) => ?_)
    refine lv_iload hx hb dX12_order_128 (lv_at hl 3 rfl) ?_
    refine lv_icmp_ne (tgt := 138) hx hb dX12_order_130 (by decide) (fun c12 => ?_) (fun c12 => ?_)
    · have hF := ite_n hF c12
      exact B_X12_order_j138 hE k50 h50 k67 h67 hD (lv_sub hl [1, 2, 3, 4, 5, 6, 7] rfl) hF
    · have hF := ite_p hF c12
      refine lv_iload hx hb dX12_order_133 (lv_at hl 7 rfl) ?_
      refine lv_goto (tgt := 139) hx hb dX12_order_135 (by decide) ?_
      exact B_X12_order_j139 hE k50 h50 k67 h67 hD (lv_sub hl [1, 2, 3, 4, 5, 6, 7] rfl) hF
def F_X12_order_l67 (k50 : xS → Int32 → Int32 → Int32 → Int32 → Int32 → Int32 → Option (Int32 × xS)) : Nat → xS → Int32 → Int32 → Int32 → Int32 → Int32 → Int32 → Int32 → Option (Int32 × xS)
  | 0, _, _, _, _, _, _, _, _ => none
  | nn + 1, u, y3, y4, y5, y6, y7, y8, y9 => if xIn (0 : Int32) 303 then if (u.2.1 0 (0 : Int32).toNatClampNeg) ≤ y9 then F_X12_order_j147 k50 u y3 y4 y5 y6 y7 y8 else if 0 ≤ y7 then F_X12_order_j147 k50 u y3 y4 y5 y6 y7 y8 else (F_X12_has y5 y9).bind (fun r16 => if r16 = 0 then F_X12_order_j106 k50 (F_X12_order_l67 k50 nn) u y3 y4 y5 y6 y8 y9 (-1 : Int32) else (F_X12_becomes u y9 y6.toInt64).bind (fun r20 => F_X12_order_j106 k50 (F_X12_order_l67 k50 nn) r20.2 y3 y4 y5 y6 y8 y9 r20.1)) else none
theorem L_X12_order_l67 {p : Program} {l : Launch} {e : Env} {s : State} {m : MethodId} {args : Array Value} {below : List Frame} {meth : Method} {cd : Code} {G : xG} {w0 : xW} {b sz : Nat} {rr : (Int32 × xS)} (hE : xE p s m args meth cd cX12_order RX12 G 11 (Option.some Jvm.ClassFile.FieldType.int)) (k50 : xS → Int32 → Int32 → Int32 → Int32 → Int32 → Int32 → Option (Int32 × xS)) (h50 : ∀ {u1 : xS} {y3 : Int32} {y4 : Int32} {y5 : Int32} {y6 : Int32} {y7 : Int32} {y8 : Int32} {H : Heap} {locs : List Loc} {ls : Array Slot}, mD G (xA w0 s.heap.size) s.heap b u1 sz H locs → lv_has ls 11 [(0, .ref b), (3, .int y3), (4, .int y4), (5, .int y5), (6, .int y6), (7, .int y7), (8, .int y8)] → k50 u1 y3 y4 y5 y6 y7 y8 = some rr → W p l e (xR 8 0 0) s m args below meth cd H locs 0 0 (xQi G w0 (fun r z => r = rr.1 ∧ z = ((mW G b rr.2), sz)) below args s 0 0) (F0 m 50 ls [])) : ∀ (nn : Nat) {u : xS} {y3 : Int32} {y4 : Int32} {y5 : Int32} {y6 : Int32} {y7 : Int32} {y8 : Int32} {y9 : Int32} {H : Heap} {locs : List Loc} {ls : Array Slot}, mD G (xA w0 s.heap.size) s.heap b u sz H locs → lv_has ls 11 [(0, .ref b), (3, .int y3), (4, .int y4), (5, .int y5), (6, .int y6), (7, .int y7), (8, .int y8), (9, .int y9)] → F_X12_order_l67 k50 nn u y3 y4 y5 y6 y7 y8 y9 = some rr → W p l e (xR 8 0 0) s m args below meth cd H locs 0 0 (xQi G w0 (fun r z => r = rr.1 ∧ z = ((mW G b rr.2), sz)) below args s 0 0) (F0 m 67 ls []) := by
  have hx := hE.1; have hb := hE.2.1
  intro nn
  induction nn with
  | zero => intro u y3 y4 y5 y6 y7 y8 y9 H locs ls hD hl hF; rw [F_X12_order_l67] at hF; cases hF
  | succ nn ih =>
    intro u y3 y4 y5 y6 y7 y8 y9 H locs ls hD hl hF
    rw [F_X12_order_l67] at hF
    refine lv_iload hx hb dX12_order_67 (lv_at hl 7 rfl) ?_
    refine lv_aload_n hx hb dX12_order_69 rfl (lv_at hl 0 rfl) ?_
    refine gf_X12_7 hE hD dX12_order_70 ?_
    refine lv_iconst (v := (0 : Int32)) hx hb dX12_order_73 (by decide) ?_
    obtain ⟨h13, hF⟩ := ite_s hF
    refine ma_ld_0 hE hD h13 dX12_order_74 ?_
    refine lv_icmp_ge (tgt := 147) hx hb dX12_order_75 (by decide) (fun c14 => ?_) (fun c14 => ?_)
    · have hF := ite_p hF c14
      exact B_X12_order_j147 hE k50 h50 hD (lv_sub hl [0, 1, 2, 3, 4, 5, 6] rfl) hF
    · have hF := ite_n hF c14
      refine lv_iload hx hb dX12_order_78 (lv_at hl 5 rfl) ?_
      refine lv_if_ge (tgt := 147) hx hb dX12_order_80 (by decide) (fun c15 => ?_) (fun c15 => ?_)
      · have hF := ite_p hF c15
        exact B_X12_order_j147 hE k50 h50 hD (lv_sub hl [0, 1, 2, 3, 4, 5, 6] rfl) hF
      · have hF := ite_n hF c15
        refine lv_iload hx hb dX12_order_83 (lv_at hl 3 rfl) ?_
        refine lv_iload hx hb dX12_order_85 (lv_at hl 7 rfl) ?_
        obtain ⟨r16, k17, hF⟩ := xb_s hF
        refine kSz (As := [.int y5, .int y9]) (rest := []) hE hl hD (c_X12_has k17) kl_X12_170 rfl rfl (Nat.le_of_ble_eq_true rfl) dX12_order_87 ⟨Nat.le_of_ble_eq_true rfl, Nat.le_of_ble_eq_true rfl⟩ ⟨Nat.le_of_ble_eq_true rfl, Nat.le_of_ble_eq_true rfl⟩ (fun H locs z18 (hD : mD G _ _ b u sz H locs) => ?_)
        refine lv_if_eq (tgt := 105) hx hb dX12_order_90 (by decide) (fun c19 => ?_) (fun c19 => ?_)
        · have hF := ite_p hF c19
          refine lv_iconst (v := (-1 : Int32)) hx hb dX12_order_105 (by decide) ?_
          exact B_X12_order_j106 hE k50 h50 (F_X12_order_l67 k50 nn) ih hD (lv_sub hl [0, 1, 2, 3, 4, 6, 7] rfl) hF
        · have hF := ite_n hF c19
          refine lv_aload_n hx hb dX12_order_93 rfl (lv_at hl 0 rfl) ?_
          refine lv_iload hx hb dX12_order_94 (lv_at hl 7 rfl) ?_
          refine lv_iload hx hb dX12_order_96 (lv_at hl 4 rfl) ?_
          refine lv_i2l (v := y6.toInt64) hx hb dX12_order_98 rfl ?_
          obtain ⟨r20, k21, hF⟩ := xb_s hF
          refine kVi (As := [.int y9, .long y6.toInt64]) (rest := []) hE hl hD (c_X12_becomes (b := b) k21) kl_X12_144 (mW_0 _ _ _) rfl rfl rfl rfl (Nat.le_of_ble_eq_true rfl) dX12_order_99 ⟨Nat.le_of_ble_eq_true rfl, Nat.le_of_ble_eq_true rfl⟩ ⟨Nat.le_of_ble_eq_true rfl, Nat.le_of_ble_eq_true rfl⟩ (fun H locs (hD : mD G _ _ b r20.2 sz H locs) => ?_)
          refine lv_goto (tgt := 106) hx hb dX12_order_102 (by decide) ?_
          exact B_X12_order_j106 hE k50 h50 (F_X12_order_l67 k50 nn) ih hD (lv_sub hl [0, 1, 2, 3, 4, 6, 7] rfl) hF
def F_X12_order_l50 : Nat → xS → Int32 → Int32 → Int32 → Int32 → Int32 → Int32 → Option (Int32 × xS)
  | 0, _, _, _, _, _, _, _ => none
  | nn + 1, u, y3, y4, y5, y6, y7, y8 => if y3 < y8 then F_X12_order_j183 u y7 else if y4 < 0 then F_X12_order_j183 u y7 else F_X12_order_l67 (F_X12_order_l50 nn) xFuel u y3 y4 y5 y6 (-1 : Int32) y8 (0 : Int32)
theorem L_X12_order_l50 {p : Program} {l : Launch} {e : Env} {s : State} {m : MethodId} {args : Array Value} {below : List Frame} {meth : Method} {cd : Code} {G : xG} {w0 : xW} {b sz : Nat} {rr : (Int32 × xS)} (hE : xE p s m args meth cd cX12_order RX12 G 11 (Option.some Jvm.ClassFile.FieldType.int)) : ∀ (nn : Nat) {u : xS} {y3 : Int32} {y4 : Int32} {y5 : Int32} {y6 : Int32} {y7 : Int32} {y8 : Int32} {H : Heap} {locs : List Loc} {ls : Array Slot}, mD G (xA w0 s.heap.size) s.heap b u sz H locs → lv_has ls 11 [(0, .ref b), (3, .int y3), (4, .int y4), (5, .int y5), (6, .int y6), (7, .int y7), (8, .int y8)] → F_X12_order_l50 nn u y3 y4 y5 y6 y7 y8 = some rr → W p l e (xR 8 0 0) s m args below meth cd H locs 0 0 (xQi G w0 (fun r z => r = rr.1 ∧ z = ((mW G b rr.2), sz)) below args s 0 0) (F0 m 50 ls []) := by
  have hx := hE.1; have hb := hE.2.1
  intro nn
  induction nn with
  | zero => intro u y3 y4 y5 y6 y7 y8 H locs ls hD hl hF; rw [F_X12_order_l50] at hF; cases hF
  | succ nn ih =>
    intro u y3 y4 y5 y6 y7 y8 H locs ls hD hl hF
    rw [F_X12_order_l50] at hF
    refine lv_iload hx hb dX12_order_50 (lv_at hl 6 rfl) ?_
    refine lv_iload_n hx hb dX12_order_52 rfl (lv_at hl 1 rfl) ?_
    refine lv_icmp_gt (tgt := 183) hx hb dX12_order_53 (by decide) (fun c22 => ?_) (fun c22 => ?_)
    · have hF := ite_p hF c22
      exact B_X12_order_j183 hE hD (lv_sub hl [0, 5] rfl) hF
    · have hF := ite_n hF c22
      refine lv_iload hx hb dX12_order_56 (lv_at hl 2 rfl) ?_
      refine lv_if_lt (tgt := 183) hx hb dX12_order_58 (by decide) (fun c23 => ?_) (fun c23 => ?_)
      · have hF := ite_p hF c23
        exact B_X12_order_j183 hE hD (lv_sub hl [0, 5] rfl) hF
      · have hF := ite_n hF c23
        refine lv_iconst (v := (-1 : Int32)) hx hb dX12_order_61 (by decide) ?_
        refine lv_istore (lv' := [(7, .int (-1 : Int32)), (0, .ref b), (3, .int y3), (4, .int y4), (5, .int y5), (6, .int y6), (8, .int y8)]) hx hb dX12_order_62 hl (by decide) rfl (fun ls hl => ?_)
        refine lv_iconst (v := (0 : Int32)) hx hb dX12_order_64 (by decide) ?_
        refine lv_istore (lv' := [(9, .int (0 : Int32)), (7, .int (-1 : Int32)), (0, .ref b), (3, .int y3), (4, .int y4), (5, .int y5), (6, .int y6), (8, .int y8)]) hx hb dX12_order_65 hl (by decide) rfl (fun ls hl => ?_)
        exact L_X12_order_l67 hE (F_X12_order_l50 nn) ih _ hD (lv_sub hl [2, 3, 4, 5, 6, 1, 7, 0] rfl) hF
def F_X12_order_j28 (u : xS)  : Option (Int32 × xS) := some ((-1 : Int32), u)
theorem B_X12_order_j28 {p : Program} {l : Launch} {e : Env} {s : State} {m : MethodId} {args : Array Value} {below : List Frame} {meth : Method} {cd : Code} {G : xG} {w0 : xW} {b sz : Nat} {rr : (Int32 × xS)} (hE : xE p s m args meth cd cX12_order RX12 G 11 (Option.some Jvm.ClassFile.FieldType.int)) {u : xS}  {H : Heap} {locs : List Loc} {ls : Array Slot} (hD : mD G (xA w0 s.heap.size) s.heap b u sz H locs) (hl : lv_has ls 11 [(0, .ref b)]) (hF : F_X12_order_j28 u  = some rr) : W p l e (xR 8 0 0) s m args below meth cd H locs 0 0 (xQi G w0 (fun r z => r = rr.1 ∧ z = ((mW G b rr.2), sz)) below args s 0 0) (F0 m 28 ls []) := by
  have hx := hE.1; have hb := hE.2.1
  unfold F_X12_order_j28 at hF
  refine lv_iconst (v := (-1 : Int32)) hx hb dX12_order_28 (by decide) ?_
  obtain rfl := Option.some.inj hF
  exact x_iret hE hD ⟨rfl, rfl⟩ (by omega) (by omega) dX12_order_29
def F_X12_order (u : xS) (xa : Int32) (xb : Int32) (xc : Int32) : Option (Int32 × xS) := (F_X12_isPurse xa.toInt64).bind (fun r24 => if r24 = 0 then F_X12_order_j28 u else (F_X12_isSet u xb).bind (fun r28 => if r28 = 0 then F_X12_order_j28 u else (F_X12_in xc.toInt64 (0 : Int64) (8 : Int64)).bind (fun r32 => if r32 = 0 then F_X12_order_j28 u else (F_X12_richest u xa xb).bind (fun r36 => F_X12_order_l50 xFuel r36.2 xc r36.1 xb xa (-1 : Int32) (0 : Int32)))))
theorem c_X12_order {l : Launch} {G : xG} {b sz : Nat} {rr : (Int32 × xS)} {u : xS} {xa : Int32} {xb : Int32} {xc : Int32} (hF : F_X12_order u xa xb xc = some rr) : xMi l G yX12_order cX12_order 11 (Option.some Jvm.ClassFile.FieldType.int) 8 0 0 [.ref b, .int xa, .int xb, .int xc] (mW G b u) sz (fun r z => r = rr.1 ∧ z = ((mW G b rr.2), sz)) := by
  unfold F_X12_order at hF
  refine x_startI rfl (Nat.le_of_ble_eq_true rfl) (fun p e s m args below meth cd ls hE hnm hl hD => ?_)
  have hx := hE.1; have hb := hE.2.1
  have hl : lv_has ls 11 [(0, .ref b), (1, .int xa), (2, .int xb), (3, .int xc)] := hl
  have hD : mD G (xA (mW G b u) s.heap.size) s.heap b u sz s.heap [] := hD
  refine lv_iload_n hx hb dX12_order_0 rfl (lv_at hl 1 rfl) ?_
  refine lv_i2l (v := xa.toInt64) hx hb dX12_order_1 rfl ?_
  obtain ⟨r24, k25, hF⟩ := xb_s hF
  refine kSz (As := [.long xa.toInt64]) (rest := []) hE hl hD (c_X12_isPurse k25) kl_X12_134 rfl rfl (Nat.le_of_ble_eq_true rfl) dX12_order_2 ⟨Nat.le_of_ble_eq_true rfl, Nat.le_of_ble_eq_true rfl⟩ ⟨Nat.le_of_ble_eq_true rfl, Nat.le_of_ble_eq_true rfl⟩ (fun H locs z26 (hD : mD G _ _ b u sz H locs) => ?_)
  refine lv_if_eq (tgt := 28) hx hb dX12_order_5 (by decide) (fun c27 => ?_) (fun c27 => ?_)
  · have hF := ite_p hF c27
    exact B_X12_order_j28 hE hD (lv_sub hl [0] rfl) hF
  · have hF := ite_n hF c27
    refine lv_aload_n hx hb dX12_order_8 rfl (lv_at hl 0 rfl) ?_
    refine lv_iload_n hx hb dX12_order_9 rfl (lv_at hl 2 rfl) ?_
    obtain ⟨r28, k29, hF⟩ := xb_s hF
    refine kVz (As := [.int xb]) (rest := []) hE hl hD (c_X12_isSet (b := b) k29) kl_X12_173 (mW_0 _ _ _) rfl rfl rfl rfl (Nat.le_of_ble_eq_true rfl) dX12_order_10 ⟨Nat.le_of_ble_eq_true rfl, Nat.le_of_ble_eq_true rfl⟩ ⟨Nat.le_of_ble_eq_true rfl, Nat.le_of_ble_eq_true rfl⟩ (fun H locs z30 (hD : mD G _ _ b u sz H locs) => ?_)
    refine lv_if_eq (tgt := 28) hx hb dX12_order_13 (by decide) (fun c31 => ?_) (fun c31 => ?_)
    · have hF := ite_p hF c31
      exact B_X12_order_j28 hE hD (lv_sub hl [0] rfl) hF
    · have hF := ite_n hF c31
      refine lv_iload_n hx hb dX12_order_16 rfl (lv_at hl 3 rfl) ?_
      refine lv_i2l (v := xc.toInt64) hx hb dX12_order_17 rfl ?_
      refine lv_lconst (v := (0 : Int64)) hx hb dX12_order_18 (by decide) ?_
      refine lv_ldc2 (v := (8 : Int64)) hx hb hE.2.2.1 (hE.2.2.2.1 _ kw6_214) dX12_order_19 ?_
      obtain ⟨r32, k33, hF⟩ := xb_s hF
      refine kSz (As := [.long xc.toInt64, .long (0 : Int64), .long (8 : Int64)]) (rest := []) hE hl hD (c_X12_in k33) kl_X12_67 rfl rfl (Nat.le_of_ble_eq_true rfl) dX12_order_22 ⟨Nat.le_of_ble_eq_true rfl, Nat.le_of_ble_eq_true rfl⟩ ⟨Nat.le_of_ble_eq_true rfl, Nat.le_of_ble_eq_true rfl⟩ (fun H locs z34 (hD : mD G _ _ b u sz H locs) => ?_)
      refine lv_if_ne (tgt := 30) hx hb dX12_order_25 (by decide) (fun c35 => ?_) (fun c35 => ?_)
      · have hF := ite_n hF c35
        refine lv_aload_n hx hb dX12_order_30 rfl (lv_at hl 0 rfl) ?_
        refine lv_iload_n hx hb dX12_order_31 rfl (lv_at hl 1 rfl) ?_
        refine lv_iload_n hx hb dX12_order_32 rfl (lv_at hl 2 rfl) ?_
        obtain ⟨r36, k37, hF⟩ := xb_s hF
        refine kVi (As := [.int xa, .int xb]) (rest := []) hE hl hD (c_X12_richest (b := b) k37) kl_X12_176 (mW_0 _ _ _) rfl rfl rfl rfl (Nat.le_of_ble_eq_true rfl) dX12_order_33 ⟨Nat.le_of_ble_eq_true rfl, Nat.le_of_ble_eq_true rfl⟩ ⟨Nat.le_of_ble_eq_true rfl, Nat.le_of_ble_eq_true rfl⟩ (fun H locs (hD : mD G _ _ b r36.2 sz H locs) => ?_)
        refine lv_istore (lv' := [(4, .int r36.1), (0, .ref b), (1, .int xa), (2, .int xb), (3, .int xc)]) hx hb dX12_order_36 hl (by decide) rfl (fun ls hl => ?_)
        refine lv_iload_n hx hb dX12_order_38 rfl (lv_at hl 3 rfl) ?_
        refine lv_istore (lv' := [(5, .int xb), (4, .int r36.1), (0, .ref b), (1, .int xa), (2, .int xb), (3, .int xc)]) hx hb dX12_order_39 hl (by decide) rfl (fun ls hl => ?_)
        refine lv_iload_n hx hb dX12_order_41 rfl (lv_at hl 3 rfl) ?_
        refine lv_istore (lv' := [(6, .int xa), (5, .int xb), (4, .int r36.1), (0, .ref b), (1, .int xa), (2, .int xb), (3, .int xc)]) hx hb dX12_order_42 hl (by decide) rfl (fun ls hl => ?_)
        refine lv_iconst (v := (-1 : Int32)) hx hb dX12_order_44 (by decide) ?_
        refine lv_istore (lv' := [(7, .int (-1 : Int32)), (6, .int xa), (5, .int xb), (4, .int r36.1), (0, .ref b), (1, .int xa), (2, .int xb), (3, .int xc)]) hx hb dX12_order_45 hl (by decide) rfl (fun ls hl => ?_)
        refine lv_iconst (v := (0 : Int32)) hx hb dX12_order_47 (by decide) ?_
        refine lv_istore (lv' := [(8, .int (0 : Int32)), (7, .int (-1 : Int32)), (6, .int xa), (5, .int xb), (4, .int r36.1), (0, .ref b), (1, .int xa), (2, .int xb), (3, .int xc)]) hx hb dX12_order_48 hl (by decide) rfl (fun ls hl => ?_)
        exact L_X12_order_l50 hE _ hD (lv_sub hl [5, 8, 4, 3, 2, 1, 0] rfl) hF
      · have hF := ite_p hF c35
        exact B_X12_order_j28 hE hD (lv_sub hl [0] rfl) hF
def F_X12_poor_j61 (k28 : xS → Int32 → Int32 → Int32 → Option (Int32 × xS)) (u : xS) (y1 : Int32) (y2 : Int32) (y3 : Int32) : Option (Int32 × xS) := k28 u y1 y2 y3
theorem B_X12_poor_j61 {p : Program} {l : Launch} {e : Env} {s : State} {m : MethodId} {args : Array Value} {below : List Frame} {meth : Method} {cd : Code} {G : xG} {w0 : xW} {b sz : Nat} {rr : (Int32 × xS)} (hE : xE p s m args meth cd cX12_poor RX12 G 5 (Option.some Jvm.ClassFile.FieldType.int)) {u : xS} (k28 : xS → Int32 → Int32 → Int32 → Option (Int32 × xS)) (h28 : ∀ {u1 : xS} {y1 : Int32} {y2 : Int32} {y3 : Int32} {H : Heap} {locs : List Loc} {ls : Array Slot}, mD G (xA w0 s.heap.size) s.heap b u1 sz H locs → lv_has ls 5 [(0, .ref b), (1, .int y1), (2, .int y2), (3, .int y3)] → k28 u1 y1 y2 y3 = some rr → W p l e (xR 8 0 0) s m args below meth cd H locs 0 0 (xQi G w0 (fun r z => r = rr.1 ∧ z = ((mW G b rr.2), sz)) below args s 0 0) (F0 m 28 ls [])) {y1 : Int32} {y2 : Int32} {y3 : Int32} {H : Heap} {locs : List Loc} {ls : Array Slot} (hD : mD G (xA w0 s.heap.size) s.heap b u sz H locs) (hl : lv_has ls 5 [(0, .ref b), (1, .int y1), (2, .int y2), (3, .int y3)]) (hF : F_X12_poor_j61 k28 u y1 y2 y3 = some rr) : W p l e (xR 8 0 0) s m args below meth cd H locs 0 0 (xQi G w0 (fun r z => r = rr.1 ∧ z = ((mW G b rr.2), sz)) below args s 0 0) (F0 m 61 ls []) := by
  have hx := hE.1; have hb := hE.2.1
  unfold F_X12_poor_j61 at hF
  refine lv_goto (tgt := 28) hx hb dX12_poor_61 (by decide) ?_
  exact h28 hD (lv_sub hl [0, 1, 2, 3] rfl) hF
def F_X12_poor_l28 : Nat → xS → Int32 → Int32 → Int32 → Option (Int32 × xS)
  | 0, _, _, _, _ => none
  | nn + 1, u, y1, y2, y3 => if (y3 - y2) ≤ (1 : Int32) then some (y3, u) else xlet ((y2 + y3) / (2 : Int32)) (fun x2 => (F_X12_richest u x2 y1).bind (fun r3 => if 0 ≤ r3.1 then F_X12_poor_j61 (F_X12_poor_l28 nn) r3.2 y1 y2 x2 else F_X12_poor_j61 (F_X12_poor_l28 nn) r3.2 y1 x2 y3))
theorem L_X12_poor_l28 {p : Program} {l : Launch} {e : Env} {s : State} {m : MethodId} {args : Array Value} {below : List Frame} {meth : Method} {cd : Code} {G : xG} {w0 : xW} {b sz : Nat} {rr : (Int32 × xS)} (hE : xE p s m args meth cd cX12_poor RX12 G 5 (Option.some Jvm.ClassFile.FieldType.int)) : ∀ (nn : Nat) {u : xS} {y1 : Int32} {y2 : Int32} {y3 : Int32} {H : Heap} {locs : List Loc} {ls : Array Slot}, mD G (xA w0 s.heap.size) s.heap b u sz H locs → lv_has ls 5 [(0, .ref b), (1, .int y1), (2, .int y2), (3, .int y3)] → F_X12_poor_l28 nn u y1 y2 y3 = some rr → W p l e (xR 8 0 0) s m args below meth cd H locs 0 0 (xQi G w0 (fun r z => r = rr.1 ∧ z = ((mW G b rr.2), sz)) below args s 0 0) (F0 m 28 ls []) := by
  have hx := hE.1; have hb := hE.2.1
  intro nn
  induction nn with
  | zero => intro u y1 y2 y3 H locs ls hD hl hF; rw [F_X12_poor_l28] at hF; cases hF
  | succ nn ih =>
    intro u y1 y2 y3 H locs ls hD hl hF
    rw [F_X12_poor_l28] at hF
    refine lv_iload_n hx hb dX12_poor_28 rfl (lv_at hl 3 rfl) ?_
    refine lv_iload_n hx hb dX12_poor_29 rfl (lv_at hl 2 rfl) ?_
    refine lv_isub hx hb dX12_poor_30 ?_
    refine lv_iconst (v := (1 : Int32)) hx hb dX12_poor_31 (by decide) ?_
    refine lv_icmp_le (tgt := 64) hx hb dX12_poor_32 (by decide) (fun c1 => ?_) (fun c1 => ?_)
    · have hF := ite_p hF c1
      refine lv_iload_n hx hb dX12_poor_64 rfl (lv_at hl 3 rfl) ?_
      obtain rfl := Option.some.inj hF
      exact x_iret hE hD ⟨rfl, rfl⟩ (by omega) (by omega) dX12_poor_65
    · have hF := ite_n hF c1
      refine lv_iload_n hx hb dX12_poor_35 rfl (lv_at hl 2 rfl) ?_
      refine lv_iload_n hx hb dX12_poor_36 rfl (lv_at hl 3 rfl) ?_
      refine lv_iadd hx hb dX12_poor_37 ?_
      refine lv_iconst (v := (2 : Int32)) hx hb dX12_poor_38 (by decide) ?_
      refine lv_idiv hx hb dX12_poor_39 (by decide) ?_
      refine lv_topi (fun x2 ex2 => ?_)
      have hF := xlet_e hF ex2
      refine lv_istore (lv' := [(4, .int x2), (0, .ref b), (1, .int y1), (2, .int y2), (3, .int y3)]) hx hb dX12_poor_40 hl (by decide) rfl (fun ls hl => ?_)
      refine lv_aload_n hx hb dX12_poor_42 rfl (lv_at hl 1 rfl) ?_
      refine lv_iload hx hb dX12_poor_43 (lv_at hl 0 rfl) ?_
      refine lv_iload_n hx hb dX12_poor_45 rfl (lv_at hl 2 rfl) ?_
      obtain ⟨r3, k4, hF⟩ := xb_s hF
      refine kVi (As := [.int x2, .int y1]) (rest := []) hE hl hD (c_X12_richest (b := b) k4) kl_X12_176 (mW_0 _ _ _) rfl rfl rfl rfl (Nat.le_of_ble_eq_true rfl) dX12_poor_46 ⟨Nat.le_of_ble_eq_true rfl, Nat.le_of_ble_eq_true rfl⟩ ⟨Nat.le_of_ble_eq_true rfl, Nat.le_of_ble_eq_true rfl⟩ (fun H locs (hD : mD G _ _ b r3.2 sz H locs) => ?_)
      refine lv_if_ge (tgt := 58) hx hb dX12_poor_49 (by decide) (fun c5 => ?_) (fun c5 => ?_)
      · have hF := ite_p hF c5
        refine lv_iload hx hb dX12_poor_58 (lv_at hl 0 rfl) ?_
        refine lv_istore_n (lv' := [(3, .int x2), (4, .int x2), (0, .ref b), (1, .int y1), (2, .int y2)]) hx hb dX12_poor_60 rfl hl (by decide) rfl (fun ls hl => ?_)
        exact B_X12_poor_j61 hE (F_X12_poor_l28 nn) ih hD (lv_sub hl [2, 3, 4, 0] rfl) hF
      · have hF := ite_n hF c5
        refine lv_iload hx hb dX12_poor_52 (lv_at hl 0 rfl) ?_
        refine lv_istore_n (lv' := [(2, .int x2), (4, .int x2), (0, .ref b), (1, .int y1), (3, .int y3)]) hx hb dX12_poor_54 rfl hl (by decide) rfl (fun ls hl => ?_)
        refine lv_goto (tgt := 61) hx hb dX12_poor_55 (by decide) ?_
        exact B_X12_poor_j61 hE (F_X12_poor_l28 nn) ih hD (lv_sub hl [2, 3, 0, 4] rfl) hF
def F_X12_poor (u : xS) (xa : Int32) : Option (Int32 × xS) := (F_X12_isSet u xa).bind (fun r6 => if r6 = 0 then some ((-1 : Int32), u) else (F_X12_richest u (1000000000 : Int32) xa).bind (fun r10 => if 0 ≤ r10.1 then F_X12_poor_l28 xFuel r10.2 xa (-1 : Int32) (1000000000 : Int32) else some ((-3 : Int32), r10.2)))
theorem c_X12_poor {l : Launch} {G : xG} {b sz : Nat} {rr : (Int32 × xS)} {u : xS} {xa : Int32} (hF : F_X12_poor u xa = some rr) : xMi l G yX12_poor cX12_poor 5 (Option.some Jvm.ClassFile.FieldType.int) 8 0 0 [.ref b, .int xa] (mW G b u) sz (fun r z => r = rr.1 ∧ z = ((mW G b rr.2), sz)) := by
  unfold F_X12_poor at hF
  refine x_startI rfl (Nat.le_of_ble_eq_true rfl) (fun p e s m args below meth cd ls hE hnm hl hD => ?_)
  have hx := hE.1; have hb := hE.2.1
  have hl : lv_has ls 5 [(0, .ref b), (1, .int xa)] := hl
  have hD : mD G (xA (mW G b u) s.heap.size) s.heap b u sz s.heap [] := hD
  refine lv_aload_n hx hb dX12_poor_0 rfl (lv_at hl 0 rfl) ?_
  refine lv_iload_n hx hb dX12_poor_1 rfl (lv_at hl 1 rfl) ?_
  obtain ⟨r6, k7, hF⟩ := xb_s hF
  refine kVz (As := [.int xa]) (rest := []) hE hl hD (c_X12_isSet (b := b) k7) kl_X12_173 (mW_0 _ _ _) rfl rfl rfl rfl (Nat.le_of_ble_eq_true rfl) dX12_poor_2 ⟨Nat.le_of_ble_eq_true rfl, Nat.le_of_ble_eq_true rfl⟩ ⟨Nat.le_of_ble_eq_true rfl, Nat.le_of_ble_eq_true rfl⟩ (fun H locs z8 (hD : mD G _ _ b u sz H locs) => ?_)
  refine lv_if_ne (tgt := 10) hx hb dX12_poor_5 (by decide) (fun c9 => ?_) (fun c9 => ?_)
  · have hF := ite_n hF c9
    refine lv_aload_n hx hb dX12_poor_10 rfl (lv_at hl 0 rfl) ?_
    refine lv_ldc (v := (1000000000 : Int32)) hx hb hE.2.2.1 (hE.2.2.2.1 _ kw6_145) dX12_poor_11 ?_
    refine lv_iload_n hx hb dX12_poor_13 rfl (lv_at hl 1 rfl) ?_
    obtain ⟨r10, k11, hF⟩ := xb_s hF
    refine kVi (As := [.int (1000000000 : Int32), .int xa]) (rest := []) hE hl hD (c_X12_richest (b := b) k11) kl_X12_176 (mW_0 _ _ _) rfl rfl rfl rfl (Nat.le_of_ble_eq_true rfl) dX12_poor_14 ⟨Nat.le_of_ble_eq_true rfl, Nat.le_of_ble_eq_true rfl⟩ ⟨Nat.le_of_ble_eq_true rfl, Nat.le_of_ble_eq_true rfl⟩ (fun H locs (hD : mD G _ _ b r10.2 sz H locs) => ?_)
    refine lv_if_ge (tgt := 23) hx hb dX12_poor_17 (by decide) (fun c12 => ?_) (fun c12 => ?_)
    · have hF := ite_p hF c12
      refine lv_iconst (v := (-1 : Int32)) hx hb dX12_poor_23 (by decide) ?_
      refine lv_istore_n (lv' := [(2, .int (-1 : Int32)), (0, .ref b), (1, .int xa)]) hx hb dX12_poor_24 rfl hl (by decide) rfl (fun ls hl => ?_)
      refine lv_ldc (v := (1000000000 : Int32)) hx hb hE.2.2.1 (hE.2.2.2.1 _ kw6_145) dX12_poor_25 ?_
      refine lv_istore_n (lv' := [(3, .int (1000000000 : Int32)), (2, .int (-1 : Int32)), (0, .ref b), (1, .int xa)]) hx hb dX12_poor_27 rfl hl (by decide) rfl (fun ls hl => ?_)
      exact L_X12_poor_l28 hE _ hD (lv_sub hl [2, 3, 1, 0] rfl) hF
    · have hF := ite_n hF c12
      refine lv_bipush (v := (-3 : Int32)) hx hb dX12_poor_20 (by decide) ?_
      obtain rfl := Option.some.inj hF
      exact x_iret hE hD ⟨rfl, rfl⟩ (by omega) (by omega) dX12_poor_22
  · have hF := ite_p hF c9
    refine lv_iconst (v := (-1 : Int32)) hx hb dX12_poor_8 (by decide) ?_
    obtain rfl := Option.some.inj hF
    exact x_iret hE hD ⟨rfl, rfl⟩ (by omega) (by omega) dX12_poor_9
def F_X12_stepped_j46 (u : xS) (y2 : Int32) : Option (Int32 × xS) := some (y2, u)
theorem B_X12_stepped_j46 {p : Program} {l : Launch} {e : Env} {s : State} {m : MethodId} {args : Array Value} {below : List Frame} {meth : Method} {cd : Code} {G : xG} {w0 : xW} {b sz : Nat} {rr : (Int32 × xS)} (hE : xE p s m args meth cd cX12_stepped RX12 G 5 (Option.some Jvm.ClassFile.FieldType.int)) {u : xS} {y2 : Int32} {H : Heap} {locs : List Loc} {ls : Array Slot} (hD : mD G (xA w0 s.heap.size) s.heap b u sz H locs) (hl : lv_has ls 5 [(0, .ref b), (2, .int y2)]) (hF : F_X12_stepped_j46 u y2 = some rr) : W p l e (xR 7 0 0) s m args below meth cd H locs 0 0 (xQi G w0 (fun r z => r = rr.1 ∧ z = ((mW G b rr.2), sz)) below args s 0 0) (F0 m 46 ls []) := by
  have hx := hE.1; have hb := hE.2.1
  unfold F_X12_stepped_j46 at hF
  refine lv_iload_n hx hb dX12_stepped_46 rfl (lv_at hl 1 rfl) ?_
  obtain rfl := Option.some.inj hF
  exact x_iret hE hD ⟨rfl, rfl⟩ (by omega) (by omega) dX12_stepped_47
def F_X12_stepped_j39 (k4 : xS → Int32 → Int32 → Int32 → Option (Int32 × xS)) (u : xS) (y1 : Int32) (y3 : Int32) (s0 : Int32) : Option (Int32 × xS) := xlet (y3 + (1 : Int32)) (fun x1 => k4 u y1 s0 x1)
theorem B_X12_stepped_j39 {p : Program} {l : Launch} {e : Env} {s : State} {m : MethodId} {args : Array Value} {below : List Frame} {meth : Method} {cd : Code} {G : xG} {w0 : xW} {b sz : Nat} {rr : (Int32 × xS)} (hE : xE p s m args meth cd cX12_stepped RX12 G 5 (Option.some Jvm.ClassFile.FieldType.int)) {u : xS} (k4 : xS → Int32 → Int32 → Int32 → Option (Int32 × xS)) (h4 : ∀ {u1 : xS} {y1 : Int32} {y2 : Int32} {y3 : Int32} {H : Heap} {locs : List Loc} {ls : Array Slot}, mD G (xA w0 s.heap.size) s.heap b u1 sz H locs → lv_has ls 5 [(0, .ref b), (1, .int y1), (2, .int y2), (3, .int y3)] → k4 u1 y1 y2 y3 = some rr → W p l e (xR 7 0 0) s m args below meth cd H locs 0 0 (xQi G w0 (fun r z => r = rr.1 ∧ z = ((mW G b rr.2), sz)) below args s 0 0) (F0 m 4 ls [])) {y1 : Int32} {y3 : Int32} {s0 : Int32} {H : Heap} {locs : List Loc} {ls : Array Slot} (hD : mD G (xA w0 s.heap.size) s.heap b u sz H locs) (hl : lv_has ls 5 [(0, .ref b), (1, .int y1), (3, .int y3)]) (hF : F_X12_stepped_j39 k4 u y1 y3 s0 = some rr) : W p l e (xR 7 0 0) s m args below meth cd H locs 0 0 (xQi G w0 (fun r z => r = rr.1 ∧ z = ((mW G b rr.2), sz)) below args s 0 0) (F0 m 39 ls [.int s0]) := by
  have hx := hE.1; have hb := hE.2.1
  unfold F_X12_stepped_j39 at hF
  refine lv_istore_n (lv' := [(2, .int s0), (0, .ref b), (1, .int y1), (3, .int y3)]) hx hb dX12_stepped_39 rfl hl (by decide) rfl (fun ls hl => ?_)
  obtain ⟨x1, ex1⟩ : ∃ y : Int32, y = y3 + (1 : Int32) := ⟨_, rfl⟩
  have hF := xlet_e hF ex1
  refine lv_iinc (v := x1) (lv' := [(3, .int x1), (2, .int s0), (0, .ref b), (1, .int y1)]) hx hb dX12_stepped_40 hl (k := 3) rfl (by rw [ex1]; rfl) (by decide) rfl (fun ls hl => ?_)
  refine lv_goto (tgt := 4) hx hb dX12_stepped_43 (by decide) ?_
  exact h4 hD (lv_sub hl [2, 3, 1, 0] rfl) hF
def F_X12_stepped_l4 : Nat → xS → Int32 → Int32 → Int32 → Option (Int32 × xS)
  | 0, _, _, _, _ => none
  | nn + 1, u, y1, y2, y3 => if xIn (0 : Int32) 303 then if (u.2.1 0 (0 : Int32).toNatClampNeg) ≤ y3 then F_X12_stepped_j46 u y2 else if y1 < 0 then F_X12_stepped_j46 u y2 else (F_X12_becomes u y3 y1.toInt64).bind (fun r5 => if r5.1 ≤ y2 then F_X12_stepped_j39 (F_X12_stepped_l4 nn) r5.2 y1 y3 y2 else F_X12_stepped_j39 (F_X12_stepped_l4 nn) r5.2 y1 y3 r5.1) else none
theorem L_X12_stepped_l4 {p : Program} {l : Launch} {e : Env} {s : State} {m : MethodId} {args : Array Value} {below : List Frame} {meth : Method} {cd : Code} {G : xG} {w0 : xW} {b sz : Nat} {rr : (Int32 × xS)} (hE : xE p s m args meth cd cX12_stepped RX12 G 5 (Option.some Jvm.ClassFile.FieldType.int)) : ∀ (nn : Nat) {u : xS} {y1 : Int32} {y2 : Int32} {y3 : Int32} {H : Heap} {locs : List Loc} {ls : Array Slot}, mD G (xA w0 s.heap.size) s.heap b u sz H locs → lv_has ls 5 [(0, .ref b), (1, .int y1), (2, .int y2), (3, .int y3)] → F_X12_stepped_l4 nn u y1 y2 y3 = some rr → W p l e (xR 7 0 0) s m args below meth cd H locs 0 0 (xQi G w0 (fun r z => r = rr.1 ∧ z = ((mW G b rr.2), sz)) below args s 0 0) (F0 m 4 ls []) := by
  have hx := hE.1; have hb := hE.2.1
  intro nn
  induction nn with
  | zero => intro u y1 y2 y3 H locs ls hD hl hF; rw [F_X12_stepped_l4] at hF; cases hF
  | succ nn ih =>
    intro u y1 y2 y3 H locs ls hD hl hF
    rw [F_X12_stepped_l4] at hF
    refine lv_iload_n hx hb dX12_stepped_4 rfl (lv_at hl 3 rfl) ?_
    refine lv_aload_n hx hb dX12_stepped_5 rfl (lv_at hl 0 rfl) ?_
    refine gf_X12_7 hE hD dX12_stepped_6 ?_
    refine lv_iconst (v := (0 : Int32)) hx hb dX12_stepped_9 (by decide) ?_
    obtain ⟨h2, hF⟩ := ite_s hF
    refine ma_ld_0 hE hD h2 dX12_stepped_10 ?_
    refine lv_icmp_ge (tgt := 46) hx hb dX12_stepped_11 (by decide) (fun c3 => ?_) (fun c3 => ?_)
    · have hF := ite_p hF c3
      exact B_X12_stepped_j46 hE hD (lv_sub hl [0, 2] rfl) hF
    · have hF := ite_n hF c3
      refine lv_iload_n hx hb dX12_stepped_14 rfl (lv_at hl 1 rfl) ?_
      refine lv_if_lt (tgt := 46) hx hb dX12_stepped_15 (by decide) (fun c4 => ?_) (fun c4 => ?_)
      · have hF := ite_p hF c4
        exact B_X12_stepped_j46 hE hD (lv_sub hl [0, 2] rfl) hF
      · have hF := ite_n hF c4
        refine lv_aload_n hx hb dX12_stepped_18 rfl (lv_at hl 0 rfl) ?_
        refine lv_iload_n hx hb dX12_stepped_19 rfl (lv_at hl 3 rfl) ?_
        refine lv_iload_n hx hb dX12_stepped_20 rfl (lv_at hl 1 rfl) ?_
        refine lv_i2l (v := y1.toInt64) hx hb dX12_stepped_21 rfl ?_
        obtain ⟨r5, k6, hF⟩ := xb_s hF
        refine kVi (As := [.int y3, .long y1.toInt64]) (rest := []) hE hl hD (c_X12_becomes (b := b) k6) kl_X12_144 (mW_0 _ _ _) rfl rfl rfl rfl (Nat.le_of_ble_eq_true rfl) dX12_stepped_22 ⟨Nat.le_of_ble_eq_true rfl, Nat.le_of_ble_eq_true rfl⟩ ⟨Nat.le_of_ble_eq_true rfl, Nat.le_of_ble_eq_true rfl⟩ (fun H locs (hD : mD G _ _ b r5.2 sz H locs) => ?_)
        refine lv_istore (lv' := [(4, .int r5.1), (0, .ref b), (1, .int y1), (2, .int y2), (3, .int y3)]) hx hb dX12_stepped_25 hl (by decide) rfl (fun ls hl => ?_)
        refine lv_iload hx hb dX12_stepped_27 (lv_at hl 0 rfl) ?_
        refine lv_iload_n hx hb dX12_stepped_29 rfl (lv_at hl 3 rfl) ?_
        refine lv_icmp_le (tgt := 38) hx hb dX12_stepped_30 (by decide) (fun c7 => ?_) (fun c7 => ?_)
        · have hF := ite_p hF c7
          refine lv_iload_n hx hb dX12_stepped_38 rfl (lv_at hl 3 rfl) ?_
          exact B_X12_stepped_j39 hE (F_X12_stepped_l4 nn) ih hD (lv_sub hl [1, 2, 4] rfl) hF
        · have hF := ite_n hF c7
          refine lv_iload hx hb dX12_stepped_33 (lv_at hl 0 rfl) ?_
          refine lv_goto (tgt := 39) hx hb dX12_stepped_35 (by decide) ?_
          exact B_X12_stepped_j39 hE (F_X12_stepped_l4 nn) ih hD (lv_sub hl [1, 2, 4] rfl) hF
def F_X12_stepped (u : xS) (xa : Int32) : Option (Int32 × xS) := F_X12_stepped_l4 xFuel u xa (-1 : Int32) (0 : Int32)
theorem c_X12_stepped {l : Launch} {G : xG} {b sz : Nat} {rr : (Int32 × xS)} {u : xS} {xa : Int32} (hF : F_X12_stepped u xa = some rr) : xMi l G yX12_stepped cX12_stepped 5 (Option.some Jvm.ClassFile.FieldType.int) 7 0 0 [.ref b, .int xa] (mW G b u) sz (fun r z => r = rr.1 ∧ z = ((mW G b rr.2), sz)) := by
  unfold F_X12_stepped at hF
  refine x_startI rfl (Nat.le_of_ble_eq_true rfl) (fun p e s m args below meth cd ls hE hnm hl hD => ?_)
  have hx := hE.1; have hb := hE.2.1
  have hl : lv_has ls 5 [(0, .ref b), (1, .int xa)] := hl
  have hD : mD G (xA (mW G b u) s.heap.size) s.heap b u sz s.heap [] := hD
  refine lv_iconst (v := (-1 : Int32)) hx hb dX12_stepped_0 (by decide) ?_
  refine lv_istore_n (lv' := [(2, .int (-1 : Int32)), (0, .ref b), (1, .int xa)]) hx hb dX12_stepped_1 rfl hl (by decide) rfl (fun ls hl => ?_)
  refine lv_iconst (v := (0 : Int32)) hx hb dX12_stepped_2 (by decide) ?_
  refine lv_istore_n (lv' := [(3, .int (0 : Int32)), (2, .int (-1 : Int32)), (0, .ref b), (1, .int xa)]) hx hb dX12_stepped_3 rfl hl (by decide) rfl (fun ls hl => ?_)
  exact L_X12_stepped_l4 hE _ hD (lv_sub hl [2, 3, 1, 0] rfl) hF
def F_X12_fastest_j52 (u : xS) (s0 : Int32) : Option (Int32 × xS) := some (s0, u)
theorem B_X12_fastest_j52 {p : Program} {l : Launch} {e : Env} {s : State} {m : MethodId} {args : Array Value} {below : List Frame} {meth : Method} {cd : Code} {G : xG} {w0 : xW} {b sz : Nat} {rr : (Int32 × xS)} (hE : xE p s m args meth cd cX12_fastest RX12 G 5 (Option.some Jvm.ClassFile.FieldType.int)) {u : xS} {s0 : Int32} {H : Heap} {locs : List Loc} {ls : Array Slot} (hD : mD G (xA w0 s.heap.size) s.heap b u sz H locs) (hl : lv_has ls 5 [(0, .ref b)]) (hF : F_X12_fastest_j52 u s0 = some rr) : W p l e (xR 8 0 0) s m args below meth cd H locs 0 0 (xQi G w0 (fun r z => r = rr.1 ∧ z = ((mW G b rr.2), sz)) below args s 0 0) (F0 m 52 ls [.int s0]) := by
  have hx := hE.1; have hb := hE.2.1
  unfold F_X12_fastest_j52 at hF
  obtain rfl := Option.some.inj hF
  exact x_iret hE hD ⟨rfl, rfl⟩ (by omega) (by omega) dX12_fastest_52
def F_X12_fastest_j47 (u : xS)  : Option (Int32 × xS) := F_X12_fastest_j52 u (-1 : Int32)
theorem B_X12_fastest_j47 {p : Program} {l : Launch} {e : Env} {s : State} {m : MethodId} {args : Array Value} {below : List Frame} {meth : Method} {cd : Code} {G : xG} {w0 : xW} {b sz : Nat} {rr : (Int32 × xS)} (hE : xE p s m args meth cd cX12_fastest RX12 G 5 (Option.some Jvm.ClassFile.FieldType.int)) {u : xS}  {H : Heap} {locs : List Loc} {ls : Array Slot} (hD : mD G (xA w0 s.heap.size) s.heap b u sz H locs) (hl : lv_has ls 5 [(0, .ref b)]) (hF : F_X12_fastest_j47 u  = some rr) : W p l e (xR 8 0 0) s m args below meth cd H locs 0 0 (xQi G w0 (fun r z => r = rr.1 ∧ z = ((mW G b rr.2), sz)) below args s 0 0) (F0 m 47 ls []) := by
  have hx := hE.1; have hb := hE.2.1
  unfold F_X12_fastest_j47 at hF
  refine lv_iconst (v := (-1 : Int32)) hx hb dX12_fastest_47 (by decide) ?_
  refine lv_goto (tgt := 52) hx hb dX12_fastest_48 (by decide) ?_
  exact B_X12_fastest_j52 hE hD (lv_sub hl [0] rfl) hF
def F_X12_fastest_j36 (u : xS) (y3 : Int32) (y4 : Int32) : Option (Int32 × xS) := if (60 : Int32) < y3 then F_X12_fastest_j47 u else if 0 ≤ y4 then F_X12_fastest_j52 u y3 else F_X12_fastest_j47 u
theorem B_X12_fastest_j36 {p : Program} {l : Launch} {e : Env} {s : State} {m : MethodId} {args : Array Value} {below : List Frame} {meth : Method} {cd : Code} {G : xG} {w0 : xW} {b sz : Nat} {rr : (Int32 × xS)} (hE : xE p s m args meth cd cX12_fastest RX12 G 5 (Option.some Jvm.ClassFile.FieldType.int)) {u : xS} {y3 : Int32} {y4 : Int32} {H : Heap} {locs : List Loc} {ls : Array Slot} (hD : mD G (xA w0 s.heap.size) s.heap b u sz H locs) (hl : lv_has ls 5 [(0, .ref b), (3, .int y3), (4, .int y4)]) (hF : F_X12_fastest_j36 u y3 y4 = some rr) : W p l e (xR 8 0 0) s m args below meth cd H locs 0 0 (xQi G w0 (fun r z => r = rr.1 ∧ z = ((mW G b rr.2), sz)) below args s 0 0) (F0 m 36 ls []) := by
  have hx := hE.1; have hb := hE.2.1
  unfold F_X12_fastest_j36 at hF
  refine lv_iload_n hx hb dX12_fastest_36 rfl (lv_at hl 1 rfl) ?_
  refine lv_bipush (v := (60 : Int32)) hx hb dX12_fastest_37 (by decide) ?_
  refine lv_icmp_gt (tgt := 47) hx hb dX12_fastest_39 (by decide) (fun c1 => ?_) (fun c1 => ?_)
  · have hF := ite_p hF c1
    exact B_X12_fastest_j47 hE hD (lv_sub hl [0] rfl) hF
  · have hF := ite_n hF c1
    refine lv_iload hx hb dX12_fastest_42 (lv_at hl 2 rfl) ?_
    refine lv_if_ge (tgt := 51) hx hb dX12_fastest_44 (by decide) (fun c2 => ?_) (fun c2 => ?_)
    · have hF := ite_p hF c2
      refine lv_iload_n hx hb dX12_fastest_51 rfl (lv_at hl 1 rfl) ?_
      exact B_X12_fastest_j52 hE hD (lv_sub hl [0] rfl) hF
    · have hF := ite_n hF c2
      exact B_X12_fastest_j47 hE hD (lv_sub hl [0] rfl) hF
def F_X12_fastest_l5 : Nat → xS → Int32 → Int32 → Int32 → Option (Int32 × xS)
  | 0, _, _, _, _ => none
  | nn + 1, u, y2, y3, y4 => if (61 : Int32) ≤ y3 then F_X12_fastest_j36 u y3 y4 else if y4 < 0 then F_X12_fastest_j36 u y3 y4 else if y2 ≤ y4 then F_X12_fastest_j36 u y3 y4 else (F_X12_stepped u y4).bind (fun r6 => xlet (y3 + (1 : Int32)) (fun x8 => F_X12_fastest_l5 nn r6.2 y2 x8 r6.1))
theorem L_X12_fastest_l5 {p : Program} {l : Launch} {e : Env} {s : State} {m : MethodId} {args : Array Value} {below : List Frame} {meth : Method} {cd : Code} {G : xG} {w0 : xW} {b sz : Nat} {rr : (Int32 × xS)} (hE : xE p s m args meth cd cX12_fastest RX12 G 5 (Option.some Jvm.ClassFile.FieldType.int)) : ∀ (nn : Nat) {u : xS} {y2 : Int32} {y3 : Int32} {y4 : Int32} {H : Heap} {locs : List Loc} {ls : Array Slot}, mD G (xA w0 s.heap.size) s.heap b u sz H locs → lv_has ls 5 [(0, .ref b), (2, .int y2), (3, .int y3), (4, .int y4)] → F_X12_fastest_l5 nn u y2 y3 y4 = some rr → W p l e (xR 8 0 0) s m args below meth cd H locs 0 0 (xQi G w0 (fun r z => r = rr.1 ∧ z = ((mW G b rr.2), sz)) below args s 0 0) (F0 m 5 ls []) := by
  have hx := hE.1; have hb := hE.2.1
  intro nn
  induction nn with
  | zero => intro u y2 y3 y4 H locs ls hD hl hF; rw [F_X12_fastest_l5] at hF; cases hF
  | succ nn ih =>
    intro u y2 y3 y4 H locs ls hD hl hF
    rw [F_X12_fastest_l5] at hF
    refine lv_iload_n hx hb dX12_fastest_5 rfl (lv_at hl 2 rfl) ?_
    refine lv_bipush (v := (61 : Int32)) hx hb dX12_fastest_6 (by decide) ?_
    refine lv_icmp_ge (tgt := 36) hx hb dX12_fastest_8 (by decide) (fun c3 => ?_) (fun c3 => ?_)
    · have hF := ite_p hF c3
      exact B_X12_fastest_j36 hE hD (lv_sub hl [0, 2, 3] rfl) hF
    · have hF := ite_n hF c3
      refine lv_iload hx hb dX12_fastest_11 (lv_at hl 3 rfl) ?_
      refine lv_if_lt (tgt := 36) hx hb dX12_fastest_13 (by decide) (fun c4 => ?_) (fun c4 => ?_)
      · have hF := ite_p hF c4
        exact B_X12_fastest_j36 hE hD (lv_sub hl [0, 2, 3] rfl) hF
      · have hF := ite_n hF c4
        refine lv_iload hx hb dX12_fastest_16 (lv_at hl 3 rfl) ?_
        refine lv_iload_n hx hb dX12_fastest_18 rfl (lv_at hl 1 rfl) ?_
        refine lv_icmp_ge (tgt := 36) hx hb dX12_fastest_19 (by decide) (fun c5 => ?_) (fun c5 => ?_)
        · have hF := ite_p hF c5
          exact B_X12_fastest_j36 hE hD (lv_sub hl [0, 2, 3] rfl) hF
        · have hF := ite_n hF c5
          refine lv_aload_n hx hb dX12_fastest_22 rfl (lv_at hl 0 rfl) ?_
          refine lv_iload hx hb dX12_fastest_23 (lv_at hl 3 rfl) ?_
          obtain ⟨r6, k7, hF⟩ := xb_s hF
          refine kVi (As := [.int y4]) (rest := []) hE hl hD (c_X12_stepped (b := b) k7) kl_X12_181 (mW_0 _ _ _) rfl rfl rfl rfl (Nat.le_of_ble_eq_true rfl) dX12_fastest_25 ⟨Nat.le_of_ble_eq_true rfl, Nat.le_of_ble_eq_true rfl⟩ ⟨Nat.le_of_ble_eq_true rfl, Nat.le_of_ble_eq_true rfl⟩ (fun H locs (hD : mD G _ _ b r6.2 sz H locs) => ?_)
          refine lv_istore (lv' := [(4, .int r6.1), (0, .ref b), (2, .int y2), (3, .int y3)]) hx hb dX12_fastest_28 hl (by decide) rfl (fun ls hl => ?_)
          obtain ⟨x8, ex8⟩ : ∃ y : Int32, y = y3 + (1 : Int32) := ⟨_, rfl⟩
          have hF := xlet_e hF ex8
          refine lv_iinc (v := x8) (lv' := [(3, .int x8), (4, .int r6.1), (0, .ref b), (2, .int y2)]) hx hb dX12_fastest_30 hl (k := 3) rfl (by rw [ex8]; rfl) (by decide) rfl (fun ls hl => ?_)
          refine lv_goto (tgt := 5) hx hb dX12_fastest_33 (by decide) ?_
          exact ih hD (lv_sub hl [2, 3, 0, 1] rfl) hF
def F_X12_fastest (u : xS) (xa : Int32) (xb : Int32) : Option (Int32 × xS) := F_X12_fastest_l5 xFuel u xb (0 : Int32) xa
theorem c_X12_fastest {l : Launch} {G : xG} {b sz : Nat} {rr : (Int32 × xS)} {u : xS} {xa : Int32} {xb : Int32} (hF : F_X12_fastest u xa xb = some rr) : xMi l G yX12_fastest cX12_fastest 5 (Option.some Jvm.ClassFile.FieldType.int) 8 0 0 [.ref b, .int xa, .int xb] (mW G b u) sz (fun r z => r = rr.1 ∧ z = ((mW G b rr.2), sz)) := by
  unfold F_X12_fastest at hF
  refine x_startI rfl (Nat.le_of_ble_eq_true rfl) (fun p e s m args below meth cd ls hE hnm hl hD => ?_)
  have hx := hE.1; have hb := hE.2.1
  have hl : lv_has ls 5 [(0, .ref b), (1, .int xa), (2, .int xb)] := hl
  have hD : mD G (xA (mW G b u) s.heap.size) s.heap b u sz s.heap [] := hD
  refine lv_iconst (v := (0 : Int32)) hx hb dX12_fastest_0 (by decide) ?_
  refine lv_istore_n (lv' := [(3, .int (0 : Int32)), (0, .ref b), (1, .int xa), (2, .int xb)]) hx hb dX12_fastest_1 rfl hl (by decide) rfl (fun ls hl => ?_)
  refine lv_iload_n hx hb dX12_fastest_2 rfl (lv_at hl 2 rfl) ?_
  refine lv_istore (lv' := [(4, .int xa), (3, .int (0 : Int32)), (0, .ref b), (1, .int xa), (2, .int xb)]) hx hb dX12_fastest_3 hl (by decide) rfl (fun ls hl => ?_)
  exact L_X12_fastest_l5 hE _ hD (lv_sub hl [2, 4, 1, 0] rfl) hF
def F_X12_fast_j29 (u : xS) (s0 : Int32) : Option (Int32 × xS) := some (s0, u)
theorem B_X12_fast_j29 {p : Program} {l : Launch} {e : Env} {s : State} {m : MethodId} {args : Array Value} {below : List Frame} {meth : Method} {cd : Code} {G : xG} {w0 : xW} {b sz : Nat} {rr : (Int32 × xS)} (hE : xE p s m args meth cd cX12_fast RX12 G 3 (Option.some Jvm.ClassFile.FieldType.int)) {u : xS} {s0 : Int32} {H : Heap} {locs : List Loc} {ls : Array Slot} (hD : mD G (xA w0 s.heap.size) s.heap b u sz H locs) (hl : lv_has ls 3 [(0, .ref b)]) (hF : F_X12_fast_j29 u s0 = some rr) : W p l e (xR 9 0 0) s m args below meth cd H locs 0 0 (xQi G w0 (fun r z => r = rr.1 ∧ z = ((mW G b rr.2), sz)) below args s 0 0) (F0 m 29 ls [.int s0]) := by
  have hx := hE.1; have hb := hE.2.1
  unfold F_X12_fast_j29 at hF
  obtain rfl := Option.some.inj hF
  exact x_iret hE hD ⟨rfl, rfl⟩ (by omega) (by omega) dX12_fast_29
def F_X12_fast_j28 (u : xS)  : Option (Int32 × xS) := F_X12_fast_j29 u (-1 : Int32)
theorem B_X12_fast_j28 {p : Program} {l : Launch} {e : Env} {s : State} {m : MethodId} {args : Array Value} {below : List Frame} {meth : Method} {cd : Code} {G : xG} {w0 : xW} {b sz : Nat} {rr : (Int32 × xS)} (hE : xE p s m args meth cd cX12_fast RX12 G 3 (Option.some Jvm.ClassFile.FieldType.int)) {u : xS}  {H : Heap} {locs : List Loc} {ls : Array Slot} (hD : mD G (xA w0 s.heap.size) s.heap b u sz H locs) (hl : lv_has ls 3 [(0, .ref b)]) (hF : F_X12_fast_j28 u  = some rr) : W p l e (xR 9 0 0) s m args below meth cd H locs 0 0 (xQi G w0 (fun r z => r = rr.1 ∧ z = ((mW G b rr.2), sz)) below args s 0 0) (F0 m 28 ls []) := by
  have hx := hE.1; have hb := hE.2.1
  unfold F_X12_fast_j28 at hF
  refine lv_iconst (v := (-1 : Int32)) hx hb dX12_fast_28 (by decide) ?_
  exact B_X12_fast_j29 hE hD (lv_sub hl [0] rfl) hF
def F_X12_fast (u : xS) (xa : Int32) (xb : Int32) : Option (Int32 × xS) := (F_X12_isPurse xa.toInt64).bind (fun r1 => if r1 = 0 then F_X12_fast_j28 u else (F_X12_isPurse xb.toInt64).bind (fun r5 => if r5 = 0 then F_X12_fast_j28 u else (F_X12_fastest u xa xb).bind (fun r9 => (F_X12_noneOf r9.1).bind (fun r11 => F_X12_fast_j29 r9.2 r11))))
theorem c_X12_fast {l : Launch} {G : xG} {b sz : Nat} {rr : (Int32 × xS)} {u : xS} {xa : Int32} {xb : Int32} (hF : F_X12_fast u xa xb = some rr) : xMi l G yX12_fast cX12_fast 3 (Option.some Jvm.ClassFile.FieldType.int) 9 0 0 [.ref b, .int xa, .int xb] (mW G b u) sz (fun r z => r = rr.1 ∧ z = ((mW G b rr.2), sz)) := by
  unfold F_X12_fast at hF
  refine x_startI rfl (Nat.le_of_ble_eq_true rfl) (fun p e s m args below meth cd ls hE hnm hl hD => ?_)
  have hx := hE.1; have hb := hE.2.1
  have hl : lv_has ls 3 [(0, .ref b), (1, .int xa), (2, .int xb)] := hl
  have hD : mD G (xA (mW G b u) s.heap.size) s.heap b u sz s.heap [] := hD
  refine lv_iload_n hx hb dX12_fast_0 rfl (lv_at hl 1 rfl) ?_
  refine lv_i2l (v := xa.toInt64) hx hb dX12_fast_1 rfl ?_
  obtain ⟨r1, k2, hF⟩ := xb_s hF
  refine kSz (As := [.long xa.toInt64]) (rest := []) hE hl hD (c_X12_isPurse k2) kl_X12_134 rfl rfl (Nat.le_of_ble_eq_true rfl) dX12_fast_2 ⟨Nat.le_of_ble_eq_true rfl, Nat.le_of_ble_eq_true rfl⟩ ⟨Nat.le_of_ble_eq_true rfl, Nat.le_of_ble_eq_true rfl⟩ (fun H locs z3 (hD : mD G _ _ b u sz H locs) => ?_)
  refine lv_if_eq (tgt := 28) hx hb dX12_fast_5 (by decide) (fun c4 => ?_) (fun c4 => ?_)
  · have hF := ite_p hF c4
    exact B_X12_fast_j28 hE hD (lv_sub hl [0] rfl) hF
  · have hF := ite_n hF c4
    refine lv_iload_n hx hb dX12_fast_8 rfl (lv_at hl 2 rfl) ?_
    refine lv_i2l (v := xb.toInt64) hx hb dX12_fast_9 rfl ?_
    obtain ⟨r5, k6, hF⟩ := xb_s hF
    refine kSz (As := [.long xb.toInt64]) (rest := []) hE hl hD (c_X12_isPurse k6) kl_X12_134 rfl rfl (Nat.le_of_ble_eq_true rfl) dX12_fast_10 ⟨Nat.le_of_ble_eq_true rfl, Nat.le_of_ble_eq_true rfl⟩ ⟨Nat.le_of_ble_eq_true rfl, Nat.le_of_ble_eq_true rfl⟩ (fun H locs z7 (hD : mD G _ _ b u sz H locs) => ?_)
    refine lv_if_eq (tgt := 28) hx hb dX12_fast_13 (by decide) (fun c8 => ?_) (fun c8 => ?_)
    · have hF := ite_p hF c8
      exact B_X12_fast_j28 hE hD (lv_sub hl [0] rfl) hF
    · have hF := ite_n hF c8
      refine lv_aload_n hx hb dX12_fast_16 rfl (lv_at hl 0 rfl) ?_
      refine lv_iload_n hx hb dX12_fast_17 rfl (lv_at hl 1 rfl) ?_
      refine lv_iload_n hx hb dX12_fast_18 rfl (lv_at hl 2 rfl) ?_
      obtain ⟨r9, k10, hF⟩ := xb_s hF
      refine kVi (As := [.int xa, .int xb]) (rest := []) hE hl hD (c_X12_fastest (b := b) k10) kl_X12_184 (mW_0 _ _ _) rfl rfl rfl rfl (Nat.le_of_ble_eq_true rfl) dX12_fast_19 ⟨Nat.le_of_ble_eq_true rfl, Nat.le_of_ble_eq_true rfl⟩ ⟨Nat.le_of_ble_eq_true rfl, Nat.le_of_ble_eq_true rfl⟩ (fun H locs (hD : mD G _ _ b r9.2 sz H locs) => ?_)
      obtain ⟨r11, k12, hF⟩ := xb_s hF
      refine kSi (As := [.int r9.1]) (rest := []) hE hl hD (c_X12_noneOf k12) kl_X12_158 rfl rfl (Nat.le_of_ble_eq_true rfl) dX12_fast_22 ⟨Nat.le_of_ble_eq_true rfl, Nat.le_of_ble_eq_true rfl⟩ ⟨Nat.le_of_ble_eq_true rfl, Nat.le_of_ble_eq_true rfl⟩ (fun H locs (hD : mD G _ _ b r9.2 sz H locs) => ?_)
      refine lv_goto (tgt := 29) hx hb dX12_fast_25 (by decide) ?_
      exact B_X12_fast_j29 hE hD (lv_sub hl [0] rfl) hF
def F_X12_isReached_j37 (u : xS) (s0 : Int32) : Option (Int32 × xS) := if s0 = 0 ∨ s0 = 1 then some (s0, u) else none
theorem B_X12_isReached_j37 {p : Program} {l : Launch} {e : Env} {s : State} {m : MethodId} {args : Array Value} {below : List Frame} {meth : Method} {cd : Code} {G : xG} {w0 : xW} {b sz : Nat} {rr : (Int32 × xS)} (hE : xE p s m args meth cd cX12_isReached RX12 G 6 (Option.some Jvm.ClassFile.FieldType.boolean)) {u : xS} {s0 : Int32} {H : Heap} {locs : List Loc} {ls : Array Slot} (hD : mD G (xA w0 s.heap.size) s.heap b u sz H locs) (hl : lv_has ls 6 [(0, .ref b)]) (hF : F_X12_isReached_j37 u s0 = some rr) : W p l e (xR 8 0 0) s m args below meth cd H locs 0 0 (xQi G w0 (fun r z => r = rr.1 ∧ (rr.1 = 0 ∨ rr.1 = 1) ∧ z = ((mW G b rr.2), sz)) below args s 0 0) (F0 m 37 ls [.int s0]) := by
  have hx := hE.1; have hb := hE.2.1
  unfold F_X12_isReached_j37 at hF
  obtain ⟨h1, hF⟩ := ite_s hF
  obtain rfl := Option.some.inj hF
  exact x_zret hE hD h1 ⟨rfl, h1, rfl⟩ (by omega) (by omega) dX12_isReached_37
def F_X12_isReached_l6 : Nat → xS → Int32 → Int32 → Int32 → Int32 → Option (Int32 × xS)
  | 0, _, _, _, _, _ => none
  | nn + 1, u, y2, y3, y4, y5 => if y3 ≤ y5 then if y4 < y2 then F_X12_isReached_j37 u (0 : Int32) else F_X12_isReached_j37 u (1 : Int32) else (F_X12_stepped u y4).bind (fun r4 => xlet (y5 + (1 : Int32)) (fun x6 => F_X12_isReached_l6 nn r4.2 y2 y3 r4.1 x6))
theorem L_X12_isReached_l6 {p : Program} {l : Launch} {e : Env} {s : State} {m : MethodId} {args : Array Value} {below : List Frame} {meth : Method} {cd : Code} {G : xG} {w0 : xW} {b sz : Nat} {rr : (Int32 × xS)} (hE : xE p s m args meth cd cX12_isReached RX12 G 6 (Option.some Jvm.ClassFile.FieldType.boolean)) : ∀ (nn : Nat) {u : xS} {y2 : Int32} {y3 : Int32} {y4 : Int32} {y5 : Int32} {H : Heap} {locs : List Loc} {ls : Array Slot}, mD G (xA w0 s.heap.size) s.heap b u sz H locs → lv_has ls 6 [(0, .ref b), (2, .int y2), (3, .int y3), (4, .int y4), (5, .int y5)] → F_X12_isReached_l6 nn u y2 y3 y4 y5 = some rr → W p l e (xR 8 0 0) s m args below meth cd H locs 0 0 (xQi G w0 (fun r z => r = rr.1 ∧ (rr.1 = 0 ∨ rr.1 = 1) ∧ z = ((mW G b rr.2), sz)) below args s 0 0) (F0 m 6 ls []) := by
  have hx := hE.1; have hb := hE.2.1
  intro nn
  induction nn with
  | zero => intro u y2 y3 y4 y5 H locs ls hD hl hF; rw [F_X12_isReached_l6] at hF; cases hF
  | succ nn ih =>
    intro u y2 y3 y4 y5 H locs ls hD hl hF
    rw [F_X12_isReached_l6] at hF
    refine lv_iload hx hb dX12_isReached_6 (lv_at hl 4 rfl) ?_
    refine lv_iload_n hx hb dX12_isReached_8 rfl (lv_at hl 2 rfl) ?_
    refine lv_icmp_ge (tgt := 26) hx hb dX12_isReached_9 (by decide) (fun c2 => ?_) (fun c2 => ?_)
    · have hF := ite_p hF c2
      refine lv_iload hx hb dX12_isReached_26 (lv_at hl 3 rfl) ?_
      refine lv_iload_n hx hb dX12_isReached_28 rfl (lv_at hl 1 rfl) ?_
      refine lv_icmp_lt (tgt := 36) hx hb dX12_isReached_29 (by decide) (fun c3 => ?_) (fun c3 => ?_)
      · have hF := ite_p hF c3
        refine lv_iconst (v := (0 : Int32)) hx hb dX12_isReached_36 (by decide) ?_
        exact B_X12_isReached_j37 hE hD (lv_sub hl [0] rfl) hF
      · have hF := ite_n hF c3
        refine lv_iconst (v := (1 : Int32)) hx hb dX12_isReached_32 (by decide) ?_
        refine lv_goto (tgt := 37) hx hb dX12_isReached_33 (by decide) ?_
        exact B_X12_isReached_j37 hE hD (lv_sub hl [0] rfl) hF
    · have hF := ite_n hF c2
      refine lv_aload_n hx hb dX12_isReached_12 rfl (lv_at hl 0 rfl) ?_
      refine lv_iload hx hb dX12_isReached_13 (lv_at hl 3 rfl) ?_
      obtain ⟨r4, k5, hF⟩ := xb_s hF
      refine kVi (As := [.int y4]) (rest := []) hE hl hD (c_X12_stepped (b := b) k5) kl_X12_181 (mW_0 _ _ _) rfl rfl rfl rfl (Nat.le_of_ble_eq_true rfl) dX12_isReached_15 ⟨Nat.le_of_ble_eq_true rfl, Nat.le_of_ble_eq_true rfl⟩ ⟨Nat.le_of_ble_eq_true rfl, Nat.le_of_ble_eq_true rfl⟩ (fun H locs (hD : mD G _ _ b r4.2 sz H locs) => ?_)
      refine lv_istore (lv' := [(4, .int r4.1), (0, .ref b), (2, .int y2), (3, .int y3), (5, .int y5)]) hx hb dX12_isReached_18 hl (by decide) rfl (fun ls hl => ?_)
      obtain ⟨x6, ex6⟩ : ∃ y : Int32, y = y5 + (1 : Int32) := ⟨_, rfl⟩
      have hF := xlet_e hF ex6
      refine lv_iinc (v := x6) (lv' := [(5, .int x6), (4, .int r4.1), (0, .ref b), (2, .int y2), (3, .int y3)]) hx hb dX12_isReached_20 hl (k := 4) rfl (by rw [ex6]; rfl) (by decide) rfl (fun ls hl => ?_)
      refine lv_goto (tgt := 6) hx hb dX12_isReached_23 (by decide) ?_
      exact ih hD (lv_sub hl [2, 3, 4, 1, 0] rfl) hF
def F_X12_isReached (u : xS) (xa : Int32) (xb : Int32) (xc : Int32) : Option (Int32 × xS) := F_X12_isReached_l6 xFuel u xb xc xa (0 : Int32)
theorem c_X12_isReached {l : Launch} {G : xG} {b sz : Nat} {rr : (Int32 × xS)} {u : xS} {xa : Int32} {xb : Int32} {xc : Int32} (hF : F_X12_isReached u xa xb xc = some rr) : xMi l G yX12_isReached cX12_isReached 6 (Option.some Jvm.ClassFile.FieldType.boolean) 8 0 0 [.ref b, .int xa, .int xb, .int xc] (mW G b u) sz (fun r z => r = rr.1 ∧ (rr.1 = 0 ∨ rr.1 = 1) ∧ z = ((mW G b rr.2), sz)) := by
  unfold F_X12_isReached at hF
  refine x_startI rfl (Nat.le_of_ble_eq_true rfl) (fun p e s m args below meth cd ls hE hnm hl hD => ?_)
  have hx := hE.1; have hb := hE.2.1
  have hl : lv_has ls 6 [(0, .ref b), (1, .int xa), (2, .int xb), (3, .int xc)] := hl
  have hD : mD G (xA (mW G b u) s.heap.size) s.heap b u sz s.heap [] := hD
  refine lv_iload_n hx hb dX12_isReached_0 rfl (lv_at hl 1 rfl) ?_
  refine lv_istore (lv' := [(4, .int xa), (0, .ref b), (1, .int xa), (2, .int xb), (3, .int xc)]) hx hb dX12_isReached_1 hl (by decide) rfl (fun ls hl => ?_)
  refine lv_iconst (v := (0 : Int32)) hx hb dX12_isReached_3 (by decide) ?_
  refine lv_istore (lv' := [(5, .int (0 : Int32)), (4, .int xa), (0, .ref b), (1, .int xa), (2, .int xb), (3, .int xc)]) hx hb dX12_isReached_4 hl (by decide) rfl (fun ls hl => ?_)
  exact L_X12_isReached_l6 hE _ hD (lv_sub hl [2, 4, 5, 1, 0] rfl) hF
def F_X12_by_j145 (u : xS) (y6 : Int32) : Option (Int32 × xS) := (F_X12_noneOf y6).bind (fun r1 => some (r1, u))
theorem B_X12_by_j145 {p : Program} {l : Launch} {e : Env} {s : State} {m : MethodId} {args : Array Value} {below : List Frame} {meth : Method} {cd : Code} {G : xG} {w0 : xW} {b sz : Nat} {rr : (Int32 × xS)} (hE : xE p s m args meth cd cX12_by RX12 G 10 (Option.some Jvm.ClassFile.FieldType.int)) {u : xS} {y6 : Int32} {H : Heap} {locs : List Loc} {ls : Array Slot} (hD : mD G (xA w0 s.heap.size) s.heap b u sz H locs) (hl : lv_has ls 10 [(0, .ref b), (6, .int y6)]) (hF : F_X12_by_j145 u y6 = some rr) : W p l e (xR 9 0 0) s m args below meth cd H locs 0 0 (xQi G w0 (fun r z => r = rr.1 ∧ z = ((mW G b rr.2), sz)) below args s 0 0) (F0 m 145 ls []) := by
  have hx := hE.1; have hb := hE.2.1
  unfold F_X12_by_j145 at hF
  refine lv_iload hx hb dX12_by_145 (lv_at hl 1 rfl) ?_
  obtain ⟨r1, k2, hF⟩ := xb_s hF
  refine kSi (As := [.int y6]) (rest := []) hE hl hD (c_X12_noneOf k2) kl_X12_158 rfl rfl (Nat.le_of_ble_eq_true rfl) dX12_by_147 ⟨Nat.le_of_ble_eq_true rfl, Nat.le_of_ble_eq_true rfl⟩ ⟨Nat.le_of_ble_eq_true rfl, Nat.le_of_ble_eq_true rfl⟩ (fun H locs (hD : mD G _ _ b u sz H locs) => ?_)
  obtain rfl := Option.some.inj hF
  exact x_iret hE hD ⟨rfl, rfl⟩ (by omega) (by omega) dX12_by_150
def F_X12_by_j128 (k47 : xS → Int32 → Int32 → Int32 → Int32 → Int32 → Int32 → Option (Int32 × xS)) (u : xS) (y2 : Int32) (y3 : Int32) (y4 : Int32) (y5 : Int32) (y6 : Int32) (y7 : Int32) : Option (Int32 × xS) := (F_X12_becomes u y6 y5.toInt64).bind (fun r3 => xlet (y7 + (1 : Int32)) (fun x5 => k47 r3.2 y2 y3 y4 r3.1 y6 x5))
theorem B_X12_by_j128 {p : Program} {l : Launch} {e : Env} {s : State} {m : MethodId} {args : Array Value} {below : List Frame} {meth : Method} {cd : Code} {G : xG} {w0 : xW} {b sz : Nat} {rr : (Int32 × xS)} (hE : xE p s m args meth cd cX12_by RX12 G 10 (Option.some Jvm.ClassFile.FieldType.int)) {u : xS} (k47 : xS → Int32 → Int32 → Int32 → Int32 → Int32 → Int32 → Option (Int32 × xS)) (h47 : ∀ {u1 : xS} {y2 : Int32} {y3 : Int32} {y4 : Int32} {y5 : Int32} {y6 : Int32} {y7 : Int32} {H : Heap} {locs : List Loc} {ls : Array Slot}, mD G (xA w0 s.heap.size) s.heap b u1 sz H locs → lv_has ls 10 [(0, .ref b), (2, .int y2), (3, .int y3), (4, .int y4), (5, .int y5), (6, .int y6), (7, .int y7)] → k47 u1 y2 y3 y4 y5 y6 y7 = some rr → W p l e (xR 9 0 0) s m args below meth cd H locs 0 0 (xQi G w0 (fun r z => r = rr.1 ∧ z = ((mW G b rr.2), sz)) below args s 0 0) (F0 m 47 ls [])) {y2 : Int32} {y3 : Int32} {y4 : Int32} {y5 : Int32} {y6 : Int32} {y7 : Int32} {H : Heap} {locs : List Loc} {ls : Array Slot} (hD : mD G (xA w0 s.heap.size) s.heap b u sz H locs) (hl : lv_has ls 10 [(0, .ref b), (2, .int y2), (3, .int y3), (4, .int y4), (5, .int y5), (6, .int y6), (7, .int y7)]) (hF : F_X12_by_j128 k47 u y2 y3 y4 y5 y6 y7 = some rr) : W p l e (xR 9 0 0) s m args below meth cd H locs 0 0 (xQi G w0 (fun r z => r = rr.1 ∧ z = ((mW G b rr.2), sz)) below args s 0 0) (F0 m 128 ls []) := by
  have hx := hE.1; have hb := hE.2.1
  unfold F_X12_by_j128 at hF
  refine lv_aload_n hx hb dX12_by_128 rfl (lv_at hl 0 rfl) ?_
  refine lv_iload hx hb dX12_by_129 (lv_at hl 5 rfl) ?_
  refine lv_iload hx hb dX12_by_131 (lv_at hl 4 rfl) ?_
  refine lv_i2l (v := y5.toInt64) hx hb dX12_by_133 rfl ?_
  obtain ⟨r3, k4, hF⟩ := xb_s hF
  refine kVi (As := [.int y6, .long y5.toInt64]) (rest := []) hE hl hD (c_X12_becomes (b := b) k4) kl_X12_144 (mW_0 _ _ _) rfl rfl rfl rfl (Nat.le_of_ble_eq_true rfl) dX12_by_134 ⟨Nat.le_of_ble_eq_true rfl, Nat.le_of_ble_eq_true rfl⟩ ⟨Nat.le_of_ble_eq_true rfl, Nat.le_of_ble_eq_true rfl⟩ (fun H locs (hD : mD G _ _ b r3.2 sz H locs) => ?_)
  refine lv_istore (lv' := [(5, .int r3.1), (0, .ref b), (2, .int y2), (3, .int y3), (4, .int y4), (6, .int y6), (7, .int y7)]) hx hb dX12_by_137 hl (by decide) rfl (fun ls hl => ?_)
  obtain ⟨x5, ex5⟩ : ∃ y : Int32, y = y7 + (1 : Int32) := ⟨_, rfl⟩
  have hF := xlet_e hF ex5
  refine lv_iinc (v := x5) (lv' := [(7, .int x5), (5, .int r3.1), (0, .ref b), (2, .int y2), (3, .int y3), (4, .int y4), (6, .int y6)]) hx hb dX12_by_139 hl (k := 6) rfl (by rw [ex5]; rfl) (by decide) rfl (fun ls hl => ?_)
  refine lv_goto (tgt := 47) hx hb dX12_by_142 (by decide) ?_
  exact h47 hD (lv_sub hl [2, 3, 4, 5, 1, 6, 0] rfl) hF
def F_X12_by_j120 (k47 : xS → Int32 → Int32 → Int32 → Int32 → Int32 → Int32 → Option (Int32 × xS)) (k65 : xS → Int32 → Int32 → Int32 → Int32 → Int32 → Int32 → Int32 → Option (Int32 × xS)) (u : xS) (y2 : Int32) (y3 : Int32) (y4 : Int32) (y5 : Int32) (y7 : Int32) (y8 : Int32) (s0 : Int32) : Option (Int32 × xS) := xlet (y8 + (1 : Int32)) (fun x6 => k65 u y2 y3 y4 y5 s0 y7 x6)
theorem B_X12_by_j120 {p : Program} {l : Launch} {e : Env} {s : State} {m : MethodId} {args : Array Value} {below : List Frame} {meth : Method} {cd : Code} {G : xG} {w0 : xW} {b sz : Nat} {rr : (Int32 × xS)} (hE : xE p s m args meth cd cX12_by RX12 G 10 (Option.some Jvm.ClassFile.FieldType.int)) {u : xS} (k47 : xS → Int32 → Int32 → Int32 → Int32 → Int32 → Int32 → Option (Int32 × xS)) (h47 : ∀ {u1 : xS} {y2 : Int32} {y3 : Int32} {y4 : Int32} {y5 : Int32} {y6 : Int32} {y7 : Int32} {H : Heap} {locs : List Loc} {ls : Array Slot}, mD G (xA w0 s.heap.size) s.heap b u1 sz H locs → lv_has ls 10 [(0, .ref b), (2, .int y2), (3, .int y3), (4, .int y4), (5, .int y5), (6, .int y6), (7, .int y7)] → k47 u1 y2 y3 y4 y5 y6 y7 = some rr → W p l e (xR 9 0 0) s m args below meth cd H locs 0 0 (xQi G w0 (fun r z => r = rr.1 ∧ z = ((mW G b rr.2), sz)) below args s 0 0) (F0 m 47 ls [])) (k65 : xS → Int32 → Int32 → Int32 → Int32 → Int32 → Int32 → Int32 → Option (Int32 × xS)) (h65 : ∀ {u1 : xS} {y2 : Int32} {y3 : Int32} {y4 : Int32} {y5 : Int32} {y6 : Int32} {y7 : Int32} {y8 : Int32} {H : Heap} {locs : List Loc} {ls : Array Slot}, mD G (xA w0 s.heap.size) s.heap b u1 sz H locs → lv_has ls 10 [(0, .ref b), (2, .int y2), (3, .int y3), (4, .int y4), (5, .int y5), (6, .int y6), (7, .int y7), (8, .int y8)] → k65 u1 y2 y3 y4 y5 y6 y7 y8 = some rr → W p l e (xR 9 0 0) s m args below meth cd H locs 0 0 (xQi G w0 (fun r z => r = rr.1 ∧ z = ((mW G b rr.2), sz)) below args s 0 0) (F0 m 65 ls [])) {y2 : Int32} {y3 : Int32} {y4 : Int32} {y5 : Int32} {y7 : Int32} {y8 : Int32} {s0 : Int32} {H : Heap} {locs : List Loc} {ls : Array Slot} (hD : mD G (xA w0 s.heap.size) s.heap b u sz H locs) (hl : lv_has ls 10 [(0, .ref b), (2, .int y2), (3, .int y3), (4, .int y4), (5, .int y5), (7, .int y7), (8, .int y8)]) (hF : F_X12_by_j120 k47 k65 u y2 y3 y4 y5 y7 y8 s0 = some rr) : W p l e (xR 9 0 0) s m args below meth cd H locs 0 0 (xQi G w0 (fun r z => r = rr.1 ∧ z = ((mW G b rr.2), sz)) below args s 0 0) (F0 m 120 ls [.int s0]) := by
  have hx := hE.1; have hb := hE.2.1
  unfold F_X12_by_j120 at hF
  refine lv_istore (lv' := [(6, .int s0), (0, .ref b), (2, .int y2), (3, .int y3), (4, .int y4), (5, .int y5), (7, .int y7), (8, .int y8)]) hx hb dX12_by_120 hl (by decide) rfl (fun ls hl => ?_)
  obtain ⟨x6, ex6⟩ : ∃ y : Int32, y = y8 + (1 : Int32) := ⟨_, rfl⟩
  have hF := xlet_e hF ex6
  refine lv_iinc (v := x6) (lv' := [(8, .int x6), (6, .int s0), (0, .ref b), (2, .int y2), (3, .int y3), (4, .int y4), (5, .int y5), (7, .int y7)]) hx hb dX12_by_122 hl (k := 7) rfl (by rw [ex6]; rfl) (by decide) rfl (fun ls hl => ?_)
  refine lv_goto (tgt := 65) hx hb dX12_by_125 (by decide) ?_
  exact h65 hD (lv_sub hl [2, 3, 4, 5, 6, 1, 7, 0] rfl) hF
def F_X12_by_j119 (k47 : xS → Int32 → Int32 → Int32 → Int32 → Int32 → Int32 → Option (Int32 × xS)) (k65 : xS → Int32 → Int32 → Int32 → Int32 → Int32 → Int32 → Int32 → Option (Int32 × xS)) (u : xS) (y2 : Int32) (y3 : Int32) (y4 : Int32) (y5 : Int32) (y7 : Int32) (y8 : Int32) : Option (Int32 × xS) := F_X12_by_j120 k47 k65 u y2 y3 y4 y5 y7 y8 (-1 : Int32)
theorem B_X12_by_j119 {p : Program} {l : Launch} {e : Env} {s : State} {m : MethodId} {args : Array Value} {below : List Frame} {meth : Method} {cd : Code} {G : xG} {w0 : xW} {b sz : Nat} {rr : (Int32 × xS)} (hE : xE p s m args meth cd cX12_by RX12 G 10 (Option.some Jvm.ClassFile.FieldType.int)) {u : xS} (k47 : xS → Int32 → Int32 → Int32 → Int32 → Int32 → Int32 → Option (Int32 × xS)) (h47 : ∀ {u1 : xS} {y2 : Int32} {y3 : Int32} {y4 : Int32} {y5 : Int32} {y6 : Int32} {y7 : Int32} {H : Heap} {locs : List Loc} {ls : Array Slot}, mD G (xA w0 s.heap.size) s.heap b u1 sz H locs → lv_has ls 10 [(0, .ref b), (2, .int y2), (3, .int y3), (4, .int y4), (5, .int y5), (6, .int y6), (7, .int y7)] → k47 u1 y2 y3 y4 y5 y6 y7 = some rr → W p l e (xR 9 0 0) s m args below meth cd H locs 0 0 (xQi G w0 (fun r z => r = rr.1 ∧ z = ((mW G b rr.2), sz)) below args s 0 0) (F0 m 47 ls [])) (k65 : xS → Int32 → Int32 → Int32 → Int32 → Int32 → Int32 → Int32 → Option (Int32 × xS)) (h65 : ∀ {u1 : xS} {y2 : Int32} {y3 : Int32} {y4 : Int32} {y5 : Int32} {y6 : Int32} {y7 : Int32} {y8 : Int32} {H : Heap} {locs : List Loc} {ls : Array Slot}, mD G (xA w0 s.heap.size) s.heap b u1 sz H locs → lv_has ls 10 [(0, .ref b), (2, .int y2), (3, .int y3), (4, .int y4), (5, .int y5), (6, .int y6), (7, .int y7), (8, .int y8)] → k65 u1 y2 y3 y4 y5 y6 y7 y8 = some rr → W p l e (xR 9 0 0) s m args below meth cd H locs 0 0 (xQi G w0 (fun r z => r = rr.1 ∧ z = ((mW G b rr.2), sz)) below args s 0 0) (F0 m 65 ls [])) {y2 : Int32} {y3 : Int32} {y4 : Int32} {y5 : Int32} {y7 : Int32} {y8 : Int32} {H : Heap} {locs : List Loc} {ls : Array Slot} (hD : mD G (xA w0 s.heap.size) s.heap b u sz H locs) (hl : lv_has ls 10 [(0, .ref b), (2, .int y2), (3, .int y3), (4, .int y4), (5, .int y5), (7, .int y7), (8, .int y8)]) (hF : F_X12_by_j119 k47 k65 u y2 y3 y4 y5 y7 y8 = some rr) : W p l e (xR 9 0 0) s m args below meth cd H locs 0 0 (xQi G w0 (fun r z => r = rr.1 ∧ z = ((mW G b rr.2), sz)) below args s 0 0) (F0 m 119 ls []) := by
  have hx := hE.1; have hb := hE.2.1
  unfold F_X12_by_j119 at hF
  refine lv_iconst (v := (-1 : Int32)) hx hb dX12_by_119 (by decide) ?_
  exact B_X12_by_j120 hE k47 h47 k65 h65 hD (lv_sub hl [0, 1, 2, 3, 4, 5, 6] rfl) hF
def F_X12_by_l65 (k47 : xS → Int32 → Int32 → Int32 → Int32 → Int32 → Int32 → Option (Int32 × xS)) : Nat → xS → Int32 → Int32 → Int32 → Int32 → Int32 → Int32 → Int32 → Option (Int32 × xS)
  | 0, _, _, _, _, _, _, _, _ => none
  | nn + 1, u, y2, y3, y4, y5, y6, y7, y8 => if xIn (0 : Int32) 303 then if (u.2.1 0 (0 : Int32).toNatClampNeg) ≤ y8 then F_X12_by_j128 k47 u y2 y3 y4 y5 y6 y7 else if 0 ≤ y6 then F_X12_by_j128 k47 u y2 y3 y4 y5 y6 y7 else (F_X12_becomes u y8 y5.toInt64).bind (fun r10 => if r10.1 < 0 then F_X12_by_j119 k47 (F_X12_by_l65 k47 nn) r10.2 y2 y3 y4 y5 y7 y8 else (F_X12_isReached r10.2 r10.1 y2 ((y4 - y7) - (1 : Int32))).bind (fun r13 => if r13.1 = 0 then F_X12_by_j119 k47 (F_X12_by_l65 k47 nn) r13.2 y2 y3 y4 y5 y7 y8 else F_X12_by_j120 k47 (F_X12_by_l65 k47 nn) r13.2 y2 y3 y4 y5 y7 y8 y8)) else none
theorem L_X12_by_l65 {p : Program} {l : Launch} {e : Env} {s : State} {m : MethodId} {args : Array Value} {below : List Frame} {meth : Method} {cd : Code} {G : xG} {w0 : xW} {b sz : Nat} {rr : (Int32 × xS)} (hE : xE p s m args meth cd cX12_by RX12 G 10 (Option.some Jvm.ClassFile.FieldType.int)) (k47 : xS → Int32 → Int32 → Int32 → Int32 → Int32 → Int32 → Option (Int32 × xS)) (h47 : ∀ {u1 : xS} {y2 : Int32} {y3 : Int32} {y4 : Int32} {y5 : Int32} {y6 : Int32} {y7 : Int32} {H : Heap} {locs : List Loc} {ls : Array Slot}, mD G (xA w0 s.heap.size) s.heap b u1 sz H locs → lv_has ls 10 [(0, .ref b), (2, .int y2), (3, .int y3), (4, .int y4), (5, .int y5), (6, .int y6), (7, .int y7)] → k47 u1 y2 y3 y4 y5 y6 y7 = some rr → W p l e (xR 9 0 0) s m args below meth cd H locs 0 0 (xQi G w0 (fun r z => r = rr.1 ∧ z = ((mW G b rr.2), sz)) below args s 0 0) (F0 m 47 ls [])) : ∀ (nn : Nat) {u : xS} {y2 : Int32} {y3 : Int32} {y4 : Int32} {y5 : Int32} {y6 : Int32} {y7 : Int32} {y8 : Int32} {H : Heap} {locs : List Loc} {ls : Array Slot}, mD G (xA w0 s.heap.size) s.heap b u sz H locs → lv_has ls 10 [(0, .ref b), (2, .int y2), (3, .int y3), (4, .int y4), (5, .int y5), (6, .int y6), (7, .int y7), (8, .int y8)] → F_X12_by_l65 k47 nn u y2 y3 y4 y5 y6 y7 y8 = some rr → W p l e (xR 9 0 0) s m args below meth cd H locs 0 0 (xQi G w0 (fun r z => r = rr.1 ∧ z = ((mW G b rr.2), sz)) below args s 0 0) (F0 m 65 ls []) := by
  have hx := hE.1; have hb := hE.2.1
  intro nn
  induction nn with
  | zero => intro u y2 y3 y4 y5 y6 y7 y8 H locs ls hD hl hF; rw [F_X12_by_l65] at hF; cases hF
  | succ nn ih =>
    intro u y2 y3 y4 y5 y6 y7 y8 H locs ls hD hl hF
    rw [F_X12_by_l65] at hF
    refine lv_iload hx hb dX12_by_65 (lv_at hl 7 rfl) ?_
    refine lv_aload_n hx hb dX12_by_67 rfl (lv_at hl 0 rfl) ?_
    refine gf_X12_7 hE hD dX12_by_68 ?_
    refine lv_iconst (v := (0 : Int32)) hx hb dX12_by_71 (by decide) ?_
    obtain ⟨h7, hF⟩ := ite_s hF
    refine ma_ld_0 hE hD h7 dX12_by_72 ?_
    refine lv_icmp_ge (tgt := 128) hx hb dX12_by_73 (by decide) (fun c8 => ?_) (fun c8 => ?_)
    · have hF := ite_p hF c8
      exact B_X12_by_j128 hE k47 h47 hD (lv_sub hl [0, 1, 2, 3, 4, 5, 6] rfl) hF
    · have hF := ite_n hF c8
      refine lv_iload hx hb dX12_by_76 (lv_at hl 5 rfl) ?_
      refine lv_if_ge (tgt := 128) hx hb dX12_by_78 (by decide) (fun c9 => ?_) (fun c9 => ?_)
      · have hF := ite_p hF c9
        exact B_X12_by_j128 hE k47 h47 hD (lv_sub hl [0, 1, 2, 3, 4, 5, 6] rfl) hF
      · have hF := ite_n hF c9
        refine lv_aload_n hx hb dX12_by_81 rfl (lv_at hl 0 rfl) ?_
        refine lv_iload hx hb dX12_by_82 (lv_at hl 7 rfl) ?_
        refine lv_iload hx hb dX12_by_84 (lv_at hl 4 rfl) ?_
        refine lv_i2l (v := y5.toInt64) hx hb dX12_by_86 rfl ?_
        obtain ⟨r10, k11, hF⟩ := xb_s hF
        refine kVi (As := [.int y8, .long y5.toInt64]) (rest := []) hE hl hD (c_X12_becomes (b := b) k11) kl_X12_144 (mW_0 _ _ _) rfl rfl rfl rfl (Nat.le_of_ble_eq_true rfl) dX12_by_87 ⟨Nat.le_of_ble_eq_true rfl, Nat.le_of_ble_eq_true rfl⟩ ⟨Nat.le_of_ble_eq_true rfl, Nat.le_of_ble_eq_true rfl⟩ (fun H locs (hD : mD G _ _ b r10.2 sz H locs) => ?_)
        refine lv_istore (lv' := [(9, .int r10.1), (0, .ref b), (2, .int y2), (3, .int y3), (4, .int y4), (5, .int y5), (6, .int y6), (7, .int y7), (8, .int y8)]) hx hb dX12_by_90 hl (by decide) rfl (fun ls hl => ?_)
        refine lv_iload hx hb dX12_by_92 (lv_at hl 0 rfl) ?_
        refine lv_if_lt (tgt := 119) hx hb dX12_by_94 (by decide) (fun c12 => ?_) (fun c12 => ?_)
        · have hF := ite_p hF c12
          exact B_X12_by_j119 hE k47 h47 (F_X12_by_l65 k47 nn) ih hD (lv_sub hl [1, 2, 3, 4, 5, 7, 8] rfl) hF
        · have hF := ite_n hF c12
          refine lv_aload_n hx hb dX12_by_97 rfl (lv_at hl 1 rfl) ?_
          refine lv_iload hx hb dX12_by_98 (lv_at hl 0 rfl) ?_
          refine lv_iload_n hx hb dX12_by_100 rfl (lv_at hl 2 rfl) ?_
          refine lv_iload hx hb dX12_by_101 (lv_at hl 4 rfl) ?_
          refine lv_iload hx hb dX12_by_103 (lv_at hl 7 rfl) ?_
          refine lv_isub hx hb dX12_by_105 ?_
          refine lv_iconst (v := (1 : Int32)) hx hb dX12_by_106 (by decide) ?_
          refine lv_isub hx hb dX12_by_107 ?_
          obtain ⟨r13, k14, hF⟩ := xb_s hF
          refine kVz (As := [.int r10.1, .int y2, .int ((y4 - y7) - (1 : Int32))]) (rest := []) hE hl hD (c_X12_isReached (b := b) k14) kl_X12_189 (mW_0 _ _ _) rfl rfl rfl rfl (Nat.le_of_ble_eq_true rfl) dX12_by_108 ⟨Nat.le_of_ble_eq_true rfl, Nat.le_of_ble_eq_true rfl⟩ ⟨Nat.le_of_ble_eq_true rfl, Nat.le_of_ble_eq_true rfl⟩ (fun H locs z15 (hD : mD G _ _ b r13.2 sz H locs) => ?_)
          refine lv_if_eq (tgt := 119) hx hb dX12_by_111 (by decide) (fun c16 => ?_) (fun c16 => ?_)
          · have hF := ite_p hF c16
            exact B_X12_by_j119 hE k47 h47 (F_X12_by_l65 k47 nn) ih hD (lv_sub hl [1, 2, 3, 4, 5, 7, 8] rfl) hF
          · have hF := ite_n hF c16
            refine lv_iload hx hb dX12_by_114 (lv_at hl 8 rfl) ?_
            refine lv_goto (tgt := 120) hx hb dX12_by_116 (by decide) ?_
            exact B_X12_by_j120 hE k47 h47 (F_X12_by_l65 k47 nn) ih hD (lv_sub hl [1, 2, 3, 4, 5, 7, 8] rfl) hF
def F_X12_by_l47 : Nat → xS → Int32 → Int32 → Int32 → Int32 → Int32 → Int32 → Option (Int32 × xS)
  | 0, _, _, _, _, _, _, _ => none
  | nn + 1, u, y2, y3, y4, y5, y6, y7 => if y3 < y7 then F_X12_by_j145 u y6 else if y4 ≤ y3 then F_X12_by_j145 u y6 else F_X12_by_l65 (F_X12_by_l47 nn) xFuel u y2 y3 y4 y5 (-1 : Int32) y7 (0 : Int32)
theorem L_X12_by_l47 {p : Program} {l : Launch} {e : Env} {s : State} {m : MethodId} {args : Array Value} {below : List Frame} {meth : Method} {cd : Code} {G : xG} {w0 : xW} {b sz : Nat} {rr : (Int32 × xS)} (hE : xE p s m args meth cd cX12_by RX12 G 10 (Option.some Jvm.ClassFile.FieldType.int)) : ∀ (nn : Nat) {u : xS} {y2 : Int32} {y3 : Int32} {y4 : Int32} {y5 : Int32} {y6 : Int32} {y7 : Int32} {H : Heap} {locs : List Loc} {ls : Array Slot}, mD G (xA w0 s.heap.size) s.heap b u sz H locs → lv_has ls 10 [(0, .ref b), (2, .int y2), (3, .int y3), (4, .int y4), (5, .int y5), (6, .int y6), (7, .int y7)] → F_X12_by_l47 nn u y2 y3 y4 y5 y6 y7 = some rr → W p l e (xR 9 0 0) s m args below meth cd H locs 0 0 (xQi G w0 (fun r z => r = rr.1 ∧ z = ((mW G b rr.2), sz)) below args s 0 0) (F0 m 47 ls []) := by
  have hx := hE.1; have hb := hE.2.1
  intro nn
  induction nn with
  | zero => intro u y2 y3 y4 y5 y6 y7 H locs ls hD hl hF; rw [F_X12_by_l47] at hF; cases hF
  | succ nn ih =>
    intro u y2 y3 y4 y5 y6 y7 H locs ls hD hl hF
    rw [F_X12_by_l47] at hF
    refine lv_iload hx hb dX12_by_47 (lv_at hl 6 rfl) ?_
    refine lv_iload_n hx hb dX12_by_49 rfl (lv_at hl 2 rfl) ?_
    refine lv_icmp_gt (tgt := 145) hx hb dX12_by_50 (by decide) (fun c17 => ?_) (fun c17 => ?_)
    · have hF := ite_p hF c17
      exact B_X12_by_j145 hE hD (lv_sub hl [0, 5] rfl) hF
    · have hF := ite_n hF c17
      refine lv_iload_n hx hb dX12_by_53 rfl (lv_at hl 2 rfl) ?_
      refine lv_iload hx hb dX12_by_54 (lv_at hl 3 rfl) ?_
      refine lv_icmp_ge (tgt := 145) hx hb dX12_by_56 (by decide) (fun c18 => ?_) (fun c18 => ?_)
      · have hF := ite_p hF c18
        exact B_X12_by_j145 hE hD (lv_sub hl [0, 5] rfl) hF
      · have hF := ite_n hF c18
        refine lv_iconst (v := (-1 : Int32)) hx hb dX12_by_59 (by decide) ?_
        refine lv_istore (lv' := [(6, .int (-1 : Int32)), (0, .ref b), (2, .int y2), (3, .int y3), (4, .int y4), (5, .int y5), (7, .int y7)]) hx hb dX12_by_60 hl (by decide) rfl (fun ls hl => ?_)
        refine lv_iconst (v := (0 : Int32)) hx hb dX12_by_62 (by decide) ?_
        refine lv_istore (lv' := [(8, .int (0 : Int32)), (6, .int (-1 : Int32)), (0, .ref b), (2, .int y2), (3, .int y3), (4, .int y4), (5, .int y5), (7, .int y7)]) hx hb dX12_by_63 hl (by decide) rfl (fun ls hl => ?_)
        exact L_X12_by_l65 hE (F_X12_by_l47 nn) ih _ hD (lv_sub hl [2, 3, 4, 5, 6, 1, 7, 0] rfl) hF
def F_X12_by_j28 (u : xS)  : Option (Int32 × xS) := some ((-1 : Int32), u)
theorem B_X12_by_j28 {p : Program} {l : Launch} {e : Env} {s : State} {m : MethodId} {args : Array Value} {below : List Frame} {meth : Method} {cd : Code} {G : xG} {w0 : xW} {b sz : Nat} {rr : (Int32 × xS)} (hE : xE p s m args meth cd cX12_by RX12 G 10 (Option.some Jvm.ClassFile.FieldType.int)) {u : xS}  {H : Heap} {locs : List Loc} {ls : Array Slot} (hD : mD G (xA w0 s.heap.size) s.heap b u sz H locs) (hl : lv_has ls 10 [(0, .ref b)]) (hF : F_X12_by_j28 u  = some rr) : W p l e (xR 9 0 0) s m args below meth cd H locs 0 0 (xQi G w0 (fun r z => r = rr.1 ∧ z = ((mW G b rr.2), sz)) below args s 0 0) (F0 m 28 ls []) := by
  have hx := hE.1; have hb := hE.2.1
  unfold F_X12_by_j28 at hF
  refine lv_iconst (v := (-1 : Int32)) hx hb dX12_by_28 (by decide) ?_
  obtain rfl := Option.some.inj hF
  exact x_iret hE hD ⟨rfl, rfl⟩ (by omega) (by omega) dX12_by_29
def F_X12_by (u : xS) (xa : Int32) (xb : Int32) (xc : Int32) : Option (Int32 × xS) := (F_X12_isPurse xa.toInt64).bind (fun r19 => if r19 = 0 then F_X12_by_j28 u else (F_X12_isPurse xb.toInt64).bind (fun r23 => if r23 = 0 then F_X12_by_j28 u else (F_X12_in xc.toInt64 (0 : Int64) (59 : Int64)).bind (fun r27 => if r27 = 0 then F_X12_by_j28 u else (F_X12_fastest u xa xb).bind (fun r31 => F_X12_by_l47 xFuel r31.2 xb xc r31.1 xa (-1 : Int32) (0 : Int32)))))
theorem c_X12_by {l : Launch} {G : xG} {b sz : Nat} {rr : (Int32 × xS)} {u : xS} {xa : Int32} {xb : Int32} {xc : Int32} (hF : F_X12_by u xa xb xc = some rr) : xMi l G yX12_by cX12_by 10 (Option.some Jvm.ClassFile.FieldType.int) 9 0 0 [.ref b, .int xa, .int xb, .int xc] (mW G b u) sz (fun r z => r = rr.1 ∧ z = ((mW G b rr.2), sz)) := by
  unfold F_X12_by at hF
  refine x_startI rfl (Nat.le_of_ble_eq_true rfl) (fun p e s m args below meth cd ls hE hnm hl hD => ?_)
  have hx := hE.1; have hb := hE.2.1
  have hl : lv_has ls 10 [(0, .ref b), (1, .int xa), (2, .int xb), (3, .int xc)] := hl
  have hD : mD G (xA (mW G b u) s.heap.size) s.heap b u sz s.heap [] := hD
  refine lv_iload_n hx hb dX12_by_0 rfl (lv_at hl 1 rfl) ?_
  refine lv_i2l (v := xa.toInt64) hx hb dX12_by_1 rfl ?_
  obtain ⟨r19, k20, hF⟩ := xb_s hF
  refine kSz (As := [.long xa.toInt64]) (rest := []) hE hl hD (c_X12_isPurse k20) kl_X12_134 rfl rfl (Nat.le_of_ble_eq_true rfl) dX12_by_2 ⟨Nat.le_of_ble_eq_true rfl, Nat.le_of_ble_eq_true rfl⟩ ⟨Nat.le_of_ble_eq_true rfl, Nat.le_of_ble_eq_true rfl⟩ (fun H locs z21 (hD : mD G _ _ b u sz H locs) => ?_)
  refine lv_if_eq (tgt := 28) hx hb dX12_by_5 (by decide) (fun c22 => ?_) (fun c22 => ?_)
  · have hF := ite_p hF c22
    exact B_X12_by_j28 hE hD (lv_sub hl [0] rfl) hF
  · have hF := ite_n hF c22
    refine lv_iload_n hx hb dX12_by_8 rfl (lv_at hl 2 rfl) ?_
    refine lv_i2l (v := xb.toInt64) hx hb dX12_by_9 rfl ?_
    obtain ⟨r23, k24, hF⟩ := xb_s hF
    refine kSz (As := [.long xb.toInt64]) (rest := []) hE hl hD (c_X12_isPurse k24) kl_X12_134 rfl rfl (Nat.le_of_ble_eq_true rfl) dX12_by_10 ⟨Nat.le_of_ble_eq_true rfl, Nat.le_of_ble_eq_true rfl⟩ ⟨Nat.le_of_ble_eq_true rfl, Nat.le_of_ble_eq_true rfl⟩ (fun H locs z25 (hD : mD G _ _ b u sz H locs) => ?_)
    refine lv_if_eq (tgt := 28) hx hb dX12_by_13 (by decide) (fun c26 => ?_) (fun c26 => ?_)
    · have hF := ite_p hF c26
      exact B_X12_by_j28 hE hD (lv_sub hl [0] rfl) hF
    · have hF := ite_n hF c26
      refine lv_iload_n hx hb dX12_by_16 rfl (lv_at hl 3 rfl) ?_
      refine lv_i2l (v := xc.toInt64) hx hb dX12_by_17 rfl ?_
      refine lv_lconst (v := (0 : Int64)) hx hb dX12_by_18 (by decide) ?_
      refine lv_ldc2 (v := (59 : Int64)) hx hb hE.2.2.1 (hE.2.2.2.1 _ kw6_235) dX12_by_19 ?_
      obtain ⟨r27, k28, hF⟩ := xb_s hF
      refine kSz (As := [.long xc.toInt64, .long (0 : Int64), .long (59 : Int64)]) (rest := []) hE hl hD (c_X12_in k28) kl_X12_67 rfl rfl (Nat.le_of_ble_eq_true rfl) dX12_by_22 ⟨Nat.le_of_ble_eq_true rfl, Nat.le_of_ble_eq_true rfl⟩ ⟨Nat.le_of_ble_eq_true rfl, Nat.le_of_ble_eq_true rfl⟩ (fun H locs z29 (hD : mD G _ _ b u sz H locs) => ?_)
      refine lv_if_ne (tgt := 30) hx hb dX12_by_25 (by decide) (fun c30 => ?_) (fun c30 => ?_)
      · have hF := ite_n hF c30
        refine lv_aload_n hx hb dX12_by_30 rfl (lv_at hl 0 rfl) ?_
        refine lv_iload_n hx hb dX12_by_31 rfl (lv_at hl 1 rfl) ?_
        refine lv_iload_n hx hb dX12_by_32 rfl (lv_at hl 2 rfl) ?_
        obtain ⟨r31, k32, hF⟩ := xb_s hF
        refine kVi (As := [.int xa, .int xb]) (rest := []) hE hl hD (c_X12_fastest (b := b) k32) kl_X12_184 (mW_0 _ _ _) rfl rfl rfl rfl (Nat.le_of_ble_eq_true rfl) dX12_by_33 ⟨Nat.le_of_ble_eq_true rfl, Nat.le_of_ble_eq_true rfl⟩ ⟨Nat.le_of_ble_eq_true rfl, Nat.le_of_ble_eq_true rfl⟩ (fun H locs (hD : mD G _ _ b r31.2 sz H locs) => ?_)
        refine lv_istore (lv' := [(4, .int r31.1), (0, .ref b), (1, .int xa), (2, .int xb), (3, .int xc)]) hx hb dX12_by_36 hl (by decide) rfl (fun ls hl => ?_)
        refine lv_iload_n hx hb dX12_by_38 rfl (lv_at hl 2 rfl) ?_
        refine lv_istore (lv' := [(5, .int xa), (4, .int r31.1), (0, .ref b), (1, .int xa), (2, .int xb), (3, .int xc)]) hx hb dX12_by_39 hl (by decide) rfl (fun ls hl => ?_)
        refine lv_iconst (v := (-1 : Int32)) hx hb dX12_by_41 (by decide) ?_
        refine lv_istore (lv' := [(6, .int (-1 : Int32)), (5, .int xa), (4, .int r31.1), (0, .ref b), (1, .int xa), (2, .int xb), (3, .int xc)]) hx hb dX12_by_42 hl (by decide) rfl (fun ls hl => ?_)
        refine lv_iconst (v := (0 : Int32)) hx hb dX12_by_44 (by decide) ?_
        refine lv_istore (lv' := [(7, .int (0 : Int32)), (6, .int (-1 : Int32)), (5, .int xa), (4, .int r31.1), (0, .ref b), (1, .int xa), (2, .int xb), (3, .int xc)]) hx hb dX12_by_45 hl (by decide) rfl (fun ls hl => ?_)
        exact L_X12_by_l47 hE _ hD (lv_sub hl [4, 6, 7, 3, 2, 1, 0] rfl) hF
      · have hF := ite_p hF c30
        exact B_X12_by_j28 hE hD (lv_sub hl [0] rfl) hF
def F_X12_both_j26 (u : xS) (s0 : Int32) : Option (Int32 × xS) := some (s0, u)
theorem B_X12_both_j26 {p : Program} {l : Launch} {e : Env} {s : State} {m : MethodId} {args : Array Value} {below : List Frame} {meth : Method} {cd : Code} {G : xG} {w0 : xW} {b sz : Nat} {rr : (Int32 × xS)} (hE : xE p s m args meth cd cX12_both RX12 G 5 (Option.some Jvm.ClassFile.FieldType.int)) {u : xS} {s0 : Int32} {H : Heap} {locs : List Loc} {ls : Array Slot} (hD : mD G (xA w0 s.heap.size) s.heap b u sz H locs) (hl : lv_has ls 5 [(0, .ref b)]) (hF : F_X12_both_j26 u s0 = some rr) : W p l e (xR 7 0 0) s m args below meth cd H locs 0 0 (xQi G w0 (fun r z => r = rr.1 ∧ z = ((mW G b rr.2), sz)) below args s 0 0) (F0 m 26 ls [.int s0]) := by
  have hx := hE.1; have hb := hE.2.1
  unfold F_X12_both_j26 at hF
  obtain rfl := Option.some.inj hF
  exact x_iret hE hD ⟨rfl, rfl⟩ (by omega) (by omega) dX12_both_26
def F_X12_both (u : xS) (xa : Int32) (xb : Int32) (xc : Int32) : Option (Int32 × xS) := (F_X12_becomes u xa xc.toInt64).bind (fun r1 => if 0 ≤ r1.1 then (F_X12_becomes r1.2 xb r1.1.toInt64).bind (fun r4 => F_X12_both_j26 r4.2 r4.1) else F_X12_both_j26 r1.2 (-1 : Int32))
theorem c_X12_both {l : Launch} {G : xG} {b sz : Nat} {rr : (Int32 × xS)} {u : xS} {xa : Int32} {xb : Int32} {xc : Int32} (hF : F_X12_both u xa xb xc = some rr) : xMi l G yX12_both cX12_both 5 (Option.some Jvm.ClassFile.FieldType.int) 7 0 0 [.ref b, .int xa, .int xb, .int xc] (mW G b u) sz (fun r z => r = rr.1 ∧ z = ((mW G b rr.2), sz)) := by
  unfold F_X12_both at hF
  refine x_startI rfl (Nat.le_of_ble_eq_true rfl) (fun p e s m args below meth cd ls hE hnm hl hD => ?_)
  have hx := hE.1; have hb := hE.2.1
  have hl : lv_has ls 5 [(0, .ref b), (1, .int xa), (2, .int xb), (3, .int xc)] := hl
  have hD : mD G (xA (mW G b u) s.heap.size) s.heap b u sz s.heap [] := hD
  refine lv_aload_n hx hb dX12_both_0 rfl (lv_at hl 0 rfl) ?_
  refine lv_iload_n hx hb dX12_both_1 rfl (lv_at hl 1 rfl) ?_
  refine lv_iload_n hx hb dX12_both_2 rfl (lv_at hl 3 rfl) ?_
  refine lv_i2l (v := xc.toInt64) hx hb dX12_both_3 rfl ?_
  obtain ⟨r1, k2, hF⟩ := xb_s hF
  refine kVi (As := [.int xa, .long xc.toInt64]) (rest := []) hE hl hD (c_X12_becomes (b := b) k2) kl_X12_144 (mW_0 _ _ _) rfl rfl rfl rfl (Nat.le_of_ble_eq_true rfl) dX12_both_4 ⟨Nat.le_of_ble_eq_true rfl, Nat.le_of_ble_eq_true rfl⟩ ⟨Nat.le_of_ble_eq_true rfl, Nat.le_of_ble_eq_true rfl⟩ (fun H locs (hD : mD G _ _ b r1.2 sz H locs) => ?_)
  refine lv_istore (lv' := [(4, .int r1.1), (0, .ref b), (1, .int xa), (2, .int xb), (3, .int xc)]) hx hb dX12_both_7 hl (by decide) rfl (fun ls hl => ?_)
  refine lv_iload hx hb dX12_both_9 (lv_at hl 0 rfl) ?_
  refine lv_if_ge (tgt := 18) hx hb dX12_both_11 (by decide) (fun c3 => ?_) (fun c3 => ?_)
  · have hF := ite_p hF c3
    refine lv_aload_n hx hb dX12_both_18 rfl (lv_at hl 1 rfl) ?_
    refine lv_iload_n hx hb dX12_both_19 rfl (lv_at hl 3 rfl) ?_
    refine lv_iload hx hb dX12_both_20 (lv_at hl 0 rfl) ?_
    refine lv_i2l (v := r1.1.toInt64) hx hb dX12_both_22 rfl ?_
    obtain ⟨r4, k5, hF⟩ := xb_s hF
    refine kVi (As := [.int xb, .long r1.1.toInt64]) (rest := []) hE hl hD (c_X12_becomes (b := b) k5) kl_X12_144 (mW_0 _ _ _) rfl rfl rfl rfl (Nat.le_of_ble_eq_true rfl) dX12_both_23 ⟨Nat.le_of_ble_eq_true rfl, Nat.le_of_ble_eq_true rfl⟩ ⟨Nat.le_of_ble_eq_true rfl, Nat.le_of_ble_eq_true rfl⟩ (fun H locs (hD : mD G _ _ b r4.2 sz H locs) => ?_)
    exact B_X12_both_j26 hE hD (lv_sub hl [1] rfl) hF
  · have hF := ite_n hF c3
    refine lv_iconst (v := (-1 : Int32)) hx hb dX12_both_14 (by decide) ?_
    refine lv_goto (tgt := 26) hx hb dX12_both_15 (by decide) ?_
    exact B_X12_both_j26 hE hD (lv_sub hl [1] rfl) hF
def F_X12_swap_j72 (u : xS) (s0 : Int32) : Option (Int32 × xS) := some (s0, u)
theorem B_X12_swap_j72 {p : Program} {l : Launch} {e : Env} {s : State} {m : MethodId} {args : Array Value} {below : List Frame} {meth : Method} {cd : Code} {G : xG} {w0 : xW} {b sz : Nat} {rr : (Int32 × xS)} (hE : xE p s m args meth cd cX12_swap RX12 G 6 (Option.some Jvm.ClassFile.FieldType.int)) {u : xS} {s0 : Int32} {H : Heap} {locs : List Loc} {ls : Array Slot} (hD : mD G (xA w0 s.heap.size) s.heap b u sz H locs) (hl : lv_has ls 6 [(0, .ref b)]) (hF : F_X12_swap_j72 u s0 = some rr) : W p l e (xR 8 0 0) s m args below meth cd H locs 0 0 (xQi G w0 (fun r z => r = rr.1 ∧ z = ((mW G b rr.2), sz)) below args s 0 0) (F0 m 72 ls [.int s0]) := by
  have hx := hE.1; have hb := hE.2.1
  unfold F_X12_swap_j72 at hF
  obtain rfl := Option.some.inj hF
  exact x_iret hE hD ⟨rfl, rfl⟩ (by omega) (by omega) dX12_swap_72
def F_X12_swap_j29 (u : xS)  : Option (Int32 × xS) := some ((-1 : Int32), u)
theorem B_X12_swap_j29 {p : Program} {l : Launch} {e : Env} {s : State} {m : MethodId} {args : Array Value} {below : List Frame} {meth : Method} {cd : Code} {G : xG} {w0 : xW} {b sz : Nat} {rr : (Int32 × xS)} (hE : xE p s m args meth cd cX12_swap RX12 G 6 (Option.some Jvm.ClassFile.FieldType.int)) {u : xS}  {H : Heap} {locs : List Loc} {ls : Array Slot} (hD : mD G (xA w0 s.heap.size) s.heap b u sz H locs) (hl : lv_has ls 6 [(0, .ref b)]) (hF : F_X12_swap_j29 u  = some rr) : W p l e (xR 8 0 0) s m args below meth cd H locs 0 0 (xQi G w0 (fun r z => r = rr.1 ∧ z = ((mW G b rr.2), sz)) below args s 0 0) (F0 m 29 ls []) := by
  have hx := hE.1; have hb := hE.2.1
  unfold F_X12_swap_j29 at hF
  refine lv_iconst (v := (-1 : Int32)) hx hb dX12_swap_29 (by decide) ?_
  obtain rfl := Option.some.inj hF
  exact x_iret hE hD ⟨rfl, rfl⟩ (by omega) (by omega) dX12_swap_30
def F_X12_swap (u : xS) (xa : Int32) (xb : Int32) (xc : Int32) : Option (Int32 × xS) := (F_X12_isBridge u xa).bind (fun r1 => if r1 = 0 then F_X12_swap_j29 u else (F_X12_isBridge u xb).bind (fun r5 => if r5 = 0 then F_X12_swap_j29 u else if xa = xb then F_X12_swap_j29 u else (F_X12_isPurse xc.toInt64).bind (fun r10 => if r10 = 0 then F_X12_swap_j29 u else (F_X12_both u xa xb xc).bind (fun r14 => (F_X12_both r14.2 xb xa xc).bind (fun r16 => if r14.1 ≤ r16.1 then if r16.1 ≤ r14.1 then F_X12_swap_j72 r16.2 (0 : Int32) else F_X12_swap_j72 r16.2 (2 : Int32) else F_X12_swap_j72 r16.2 (1 : Int32))))))
theorem c_X12_swap {l : Launch} {G : xG} {b sz : Nat} {rr : (Int32 × xS)} {u : xS} {xa : Int32} {xb : Int32} {xc : Int32} (hF : F_X12_swap u xa xb xc = some rr) : xMi l G yX12_swap cX12_swap 6 (Option.some Jvm.ClassFile.FieldType.int) 8 0 0 [.ref b, .int xa, .int xb, .int xc] (mW G b u) sz (fun r z => r = rr.1 ∧ z = ((mW G b rr.2), sz)) := by
  unfold F_X12_swap at hF
  refine x_startI rfl (Nat.le_of_ble_eq_true rfl) (fun p e s m args below meth cd ls hE hnm hl hD => ?_)
  have hx := hE.1; have hb := hE.2.1
  have hl : lv_has ls 6 [(0, .ref b), (1, .int xa), (2, .int xb), (3, .int xc)] := hl
  have hD : mD G (xA (mW G b u) s.heap.size) s.heap b u sz s.heap [] := hD
  refine lv_aload_n hx hb dX12_swap_0 rfl (lv_at hl 0 rfl) ?_
  refine lv_iload_n hx hb dX12_swap_1 rfl (lv_at hl 1 rfl) ?_
  obtain ⟨r1, k2, hF⟩ := xb_s hF
  refine kVz (As := [.int xa]) (rest := []) hE hl hD (c_X12_isBridge (b := b) k2) kl_X12_114 (mW_0 _ _ _) rfl rfl rfl rfl (Nat.le_of_ble_eq_true rfl) dX12_swap_2 ⟨Nat.le_of_ble_eq_true rfl, Nat.le_of_ble_eq_true rfl⟩ ⟨Nat.le_of_ble_eq_true rfl, Nat.le_of_ble_eq_true rfl⟩ (fun H locs z3 (hD : mD G _ _ b u sz H locs) => ?_)
  refine lv_if_eq (tgt := 29) hx hb dX12_swap_5 (by decide) (fun c4 => ?_) (fun c4 => ?_)
  · have hF := ite_p hF c4
    exact B_X12_swap_j29 hE hD (lv_sub hl [0] rfl) hF
  · have hF := ite_n hF c4
    refine lv_aload_n hx hb dX12_swap_8 rfl (lv_at hl 0 rfl) ?_
    refine lv_iload_n hx hb dX12_swap_9 rfl (lv_at hl 2 rfl) ?_
    obtain ⟨r5, k6, hF⟩ := xb_s hF
    refine kVz (As := [.int xb]) (rest := []) hE hl hD (c_X12_isBridge (b := b) k6) kl_X12_114 (mW_0 _ _ _) rfl rfl rfl rfl (Nat.le_of_ble_eq_true rfl) dX12_swap_10 ⟨Nat.le_of_ble_eq_true rfl, Nat.le_of_ble_eq_true rfl⟩ ⟨Nat.le_of_ble_eq_true rfl, Nat.le_of_ble_eq_true rfl⟩ (fun H locs z7 (hD : mD G _ _ b u sz H locs) => ?_)
    refine lv_if_eq (tgt := 29) hx hb dX12_swap_13 (by decide) (fun c8 => ?_) (fun c8 => ?_)
    · have hF := ite_p hF c8
      exact B_X12_swap_j29 hE hD (lv_sub hl [0] rfl) hF
    · have hF := ite_n hF c8
      refine lv_iload_n hx hb dX12_swap_16 rfl (lv_at hl 1 rfl) ?_
      refine lv_iload_n hx hb dX12_swap_17 rfl (lv_at hl 2 rfl) ?_
      refine lv_icmp_eq (tgt := 29) hx hb dX12_swap_18 (by decide) (fun c9 => ?_) (fun c9 => ?_)
      · have hF := ite_p hF c9
        exact B_X12_swap_j29 hE hD (lv_sub hl [0] rfl) hF
      · have hF := ite_n hF c9
        refine lv_iload_n hx hb dX12_swap_21 rfl (lv_at hl 3 rfl) ?_
        refine lv_i2l (v := xc.toInt64) hx hb dX12_swap_22 rfl ?_
        obtain ⟨r10, k11, hF⟩ := xb_s hF
        refine kSz (As := [.long xc.toInt64]) (rest := []) hE hl hD (c_X12_isPurse k11) kl_X12_134 rfl rfl (Nat.le_of_ble_eq_true rfl) dX12_swap_23 ⟨Nat.le_of_ble_eq_true rfl, Nat.le_of_ble_eq_true rfl⟩ ⟨Nat.le_of_ble_eq_true rfl, Nat.le_of_ble_eq_true rfl⟩ (fun H locs z12 (hD : mD G _ _ b u sz H locs) => ?_)
        refine lv_if_ne (tgt := 31) hx hb dX12_swap_26 (by decide) (fun c13 => ?_) (fun c13 => ?_)
        · have hF := ite_n hF c13
          refine lv_aload_n hx hb dX12_swap_31 rfl (lv_at hl 0 rfl) ?_
          refine lv_iload_n hx hb dX12_swap_32 rfl (lv_at hl 1 rfl) ?_
          refine lv_iload_n hx hb dX12_swap_33 rfl (lv_at hl 2 rfl) ?_
          refine lv_iload_n hx hb dX12_swap_34 rfl (lv_at hl 3 rfl) ?_
          obtain ⟨r14, k15, hF⟩ := xb_s hF
          refine kVi (As := [.int xa, .int xb, .int xc]) (rest := []) hE hl hD (c_X12_both (b := b) k15) kl_X12_192 (mW_0 _ _ _) rfl rfl rfl rfl (Nat.le_of_ble_eq_true rfl) dX12_swap_35 ⟨Nat.le_of_ble_eq_true rfl, Nat.le_of_ble_eq_true rfl⟩ ⟨Nat.le_of_ble_eq_true rfl, Nat.le_of_ble_eq_true rfl⟩ (fun H locs (hD : mD G _ _ b r14.2 sz H locs) => ?_)
          refine lv_istore (lv' := [(4, .int r14.1), (0, .ref b), (1, .int xa), (2, .int xb), (3, .int xc)]) hx hb dX12_swap_38 hl (by decide) rfl (fun ls hl => ?_)
          refine lv_aload_n hx hb dX12_swap_40 rfl (lv_at hl 1 rfl) ?_
          refine lv_iload_n hx hb dX12_swap_41 rfl (lv_at hl 3 rfl) ?_
          refine lv_iload_n hx hb dX12_swap_42 rfl (lv_at hl 2 rfl) ?_
          refine lv_iload_n hx hb dX12_swap_43 rfl (lv_at hl 4 rfl) ?_
          obtain ⟨r16, k17, hF⟩ := xb_s hF
          refine kVi (As := [.int xb, .int xa, .int xc]) (rest := []) hE hl hD (c_X12_both (b := b) k17) kl_X12_192 (mW_0 _ _ _) rfl rfl rfl rfl (Nat.le_of_ble_eq_true rfl) dX12_swap_44 ⟨Nat.le_of_ble_eq_true rfl, Nat.le_of_ble_eq_true rfl⟩ ⟨Nat.le_of_ble_eq_true rfl, Nat.le_of_ble_eq_true rfl⟩ (fun H locs (hD : mD G _ _ b r16.2 sz H locs) => ?_)
          refine lv_istore (lv' := [(5, .int r16.1), (4, .int r14.1), (0, .ref b), (1, .int xa), (2, .int xb), (3, .int xc)]) hx hb dX12_swap_47 hl (by decide) rfl (fun ls hl => ?_)
          refine lv_iload hx hb dX12_swap_49 (lv_at hl 1 rfl) ?_
          refine lv_iload hx hb dX12_swap_51 (lv_at hl 0 rfl) ?_
          refine lv_icmp_le (tgt := 60) hx hb dX12_swap_53 (by decide) (fun c18 => ?_) (fun c18 => ?_)
          · have hF := ite_p hF c18
            refine lv_iload hx hb dX12_swap_60 (lv_at hl 1 rfl) ?_
            refine lv_iload hx hb dX12_swap_62 (lv_at hl 0 rfl) ?_
            refine lv_icmp_ge (tgt := 71) hx hb dX12_swap_64 (by decide) (fun c19 => ?_) (fun c19 => ?_)
            · have hF := ite_p hF c19
              refine lv_iconst (v := (0 : Int32)) hx hb dX12_swap_71 (by decide) ?_
              exact B_X12_swap_j72 hE hD (lv_sub hl [2] rfl) hF
            · have hF := ite_n hF c19
              refine lv_iconst (v := (2 : Int32)) hx hb dX12_swap_67 (by decide) ?_
              refine lv_goto (tgt := 72) hx hb dX12_swap_68 (by decide) ?_
              exact B_X12_swap_j72 hE hD (lv_sub hl [2] rfl) hF
          · have hF := ite_n hF c18
            refine lv_iconst (v := (1 : Int32)) hx hb dX12_swap_56 (by decide) ?_
            refine lv_goto (tgt := 72) hx hb dX12_swap_57 (by decide) ?_
            exact B_X12_swap_j72 hE hD (lv_sub hl [2] rfl) hF
        · have hF := ite_p hF c13
          exact B_X12_swap_j29 hE hD (lv_sub hl [0] rfl) hF
def F_X12_devil_j97 (u : xS) (y1 : Int32) (y4 : Int32) (y5 : Int32) : Option (Int32 × xS) := (F_X12_at y1 (2 : Int32)).bind (fun r1 => if xIn r1 303 then xlet (mA u 0 r1.toNatClampNeg y4) (fun u4 => (F_X12_noneOf y5).bind (fun r5 => some (r5, u4))) else none)
theorem B_X12_devil_j97 {p : Program} {l : Launch} {e : Env} {s : State} {m : MethodId} {args : Array Value} {below : List Frame} {meth : Method} {cd : Code} {G : xG} {w0 : xW} {b sz : Nat} {rr : (Int32 × xS)} (hE : xE p s m args meth cd cX12_devil RX12 G 7 (Option.some Jvm.ClassFile.FieldType.int)) {u : xS} {y1 : Int32} {y4 : Int32} {y5 : Int32} {H : Heap} {locs : List Loc} {ls : Array Slot} (hD : mD G (xA w0 s.heap.size) s.heap b u sz H locs) (hl : lv_has ls 7 [(0, .ref b), (1, .int y1), (4, .int y4), (5, .int y5)]) (hF : F_X12_devil_j97 u y1 y4 y5 = some rr) : W p l e (xR 7 0 0) s m args below meth cd H locs 0 0 (xQi G w0 (fun r z => r = rr.1 ∧ z = ((mW G b rr.2), sz)) below args s 0 0) (F0 m 97 ls []) := by
  have hx := hE.1; have hb := hE.2.1
  unfold F_X12_devil_j97 at hF
  refine lv_aload_n hx hb dX12_devil_97 rfl (lv_at hl 0 rfl) ?_
  refine gf_X12_7 hE hD dX12_devil_98 ?_
  refine lv_iload_n hx hb dX12_devil_101 rfl (lv_at hl 1 rfl) ?_
  refine lv_iconst (v := (2 : Int32)) hx hb dX12_devil_102 (by decide) ?_
  obtain ⟨r1, k2, hF⟩ := xb_s hF
  refine kSi (As := [.int y1, .int (2 : Int32)]) (rest := [.ref (b + 1)]) hE hl hD (c_X12_at k2) kl_X12_71 rfl rfl (Nat.le_of_ble_eq_true rfl) dX12_devil_103 ⟨Nat.le_of_ble_eq_true rfl, Nat.le_of_ble_eq_true rfl⟩ ⟨Nat.le_of_ble_eq_true rfl, Nat.le_of_ble_eq_true rfl⟩ (fun H locs (hD : mD G _ _ b u sz H locs) => ?_)
  refine lv_iload hx hb dX12_devil_106 (lv_at hl 2 rfl) ?_
  obtain ⟨h3, hF⟩ := ite_s hF
  refine ma_st_0 hE hD h3 dX12_devil_108 (fun u4 H locs eu4 hD => ?_)
  have hF := xlet_e hF eu4
  refine lv_iload hx hb dX12_devil_109 (lv_at hl 3 rfl) ?_
  obtain ⟨r5, k6, hF⟩ := xb_s hF
  refine kSi (As := [.int y5]) (rest := []) hE hl hD (c_X12_noneOf k6) kl_X12_158 rfl rfl (Nat.le_of_ble_eq_true rfl) dX12_devil_111 ⟨Nat.le_of_ble_eq_true rfl, Nat.le_of_ble_eq_true rfl⟩ ⟨Nat.le_of_ble_eq_true rfl, Nat.le_of_ble_eq_true rfl⟩ (fun H locs (hD : mD G _ _ b u4 sz H locs) => ?_)
  obtain rfl := Option.some.inj hF
  exact x_iret hE hD ⟨rfl, rfl⟩ (by omega) (by omega) dX12_devil_114
def F_X12_devil_j89 (k50 : xS → Int32 → Int32 → Int32 → Int32 → Int32 → Int32 → Option (Int32 × xS)) (u : xS) (y1 : Int32) (y2 : Int32) (y3 : Int32) (y4 : Int32) (y6 : Int32) (s0 : Int32) : Option (Int32 × xS) := xlet (y6 + (-1 : Int32)) (fun x7 => k50 u y1 y2 y3 y4 s0 x7)
theorem B_X12_devil_j89 {p : Program} {l : Launch} {e : Env} {s : State} {m : MethodId} {args : Array Value} {below : List Frame} {meth : Method} {cd : Code} {G : xG} {w0 : xW} {b sz : Nat} {rr : (Int32 × xS)} (hE : xE p s m args meth cd cX12_devil RX12 G 7 (Option.some Jvm.ClassFile.FieldType.int)) {u : xS} (k50 : xS → Int32 → Int32 → Int32 → Int32 → Int32 → Int32 → Option (Int32 × xS)) (h50 : ∀ {u1 : xS} {y1 : Int32} {y2 : Int32} {y3 : Int32} {y4 : Int32} {y5 : Int32} {y6 : Int32} {H : Heap} {locs : List Loc} {ls : Array Slot}, mD G (xA w0 s.heap.size) s.heap b u1 sz H locs → lv_has ls 7 [(0, .ref b), (1, .int y1), (2, .int y2), (3, .int y3), (4, .int y4), (5, .int y5), (6, .int y6)] → k50 u1 y1 y2 y3 y4 y5 y6 = some rr → W p l e (xR 7 0 0) s m args below meth cd H locs 0 0 (xQi G w0 (fun r z => r = rr.1 ∧ z = ((mW G b rr.2), sz)) below args s 0 0) (F0 m 50 ls [])) {y1 : Int32} {y2 : Int32} {y3 : Int32} {y4 : Int32} {y6 : Int32} {s0 : Int32} {H : Heap} {locs : List Loc} {ls : Array Slot} (hD : mD G (xA w0 s.heap.size) s.heap b u sz H locs) (hl : lv_has ls 7 [(0, .ref b), (1, .int y1), (2, .int y2), (3, .int y3), (4, .int y4), (6, .int y6)]) (hF : F_X12_devil_j89 k50 u y1 y2 y3 y4 y6 s0 = some rr) : W p l e (xR 7 0 0) s m args below meth cd H locs 0 0 (xQi G w0 (fun r z => r = rr.1 ∧ z = ((mW G b rr.2), sz)) below args s 0 0) (F0 m 89 ls [.int s0]) := by
  have hx := hE.1; have hb := hE.2.1
  unfold F_X12_devil_j89 at hF
  refine lv_istore (lv' := [(5, .int s0), (0, .ref b), (1, .int y1), (2, .int y2), (3, .int y3), (4, .int y4), (6, .int y6)]) hx hb dX12_devil_89 hl (by decide) rfl (fun ls hl => ?_)
  obtain ⟨x7, ex7⟩ : ∃ y : Int32, y = y6 + (-1 : Int32) := ⟨_, rfl⟩
  have hF := xlet_e hF ex7
  refine lv_iinc (v := x7) (lv' := [(6, .int x7), (5, .int s0), (0, .ref b), (1, .int y1), (2, .int y2), (3, .int y3), (4, .int y4)]) hx hb dX12_devil_91 hl (k := 6) rfl (by rw [ex7]; rfl) (by decide) rfl (fun ls hl => ?_)
  refine lv_goto (tgt := 50) hx hb dX12_devil_94 (by decide) ?_
  exact h50 hD (lv_sub hl [2, 3, 4, 5, 6, 1, 0] rfl) hF
def F_X12_devil_l50 : Nat → xS → Int32 → Int32 → Int32 → Int32 → Int32 → Int32 → Option (Int32 × xS)
  | 0, _, _, _, _, _, _, _ => none
  | nn + 1, u, y1, y2, y3, y4, y5, y6 => if y6 < 0 then F_X12_devil_j97 u y1 y4 y5 else if 0 ≤ y5 then F_X12_devil_j97 u y1 y4 y5 else (F_X12_at y1 (2 : Int32)).bind (fun r10 => if xIn r10 303 then xlet (mA u 0 r10.toNatClampNeg y6) (fun u13 => (F_X12_afterMany u13 y1 y2 y3).bind (fun r14 => if r14.1 < y2 then F_X12_devil_j89 (F_X12_devil_l50 nn) r14.2 y1 y2 y3 y4 y6 (-1 : Int32) else F_X12_devil_j89 (F_X12_devil_l50 nn) r14.2 y1 y2 y3 y4 y6 y6)) else none)
theorem L_X12_devil_l50 {p : Program} {l : Launch} {e : Env} {s : State} {m : MethodId} {args : Array Value} {below : List Frame} {meth : Method} {cd : Code} {G : xG} {w0 : xW} {b sz : Nat} {rr : (Int32 × xS)} (hE : xE p s m args meth cd cX12_devil RX12 G 7 (Option.some Jvm.ClassFile.FieldType.int)) : ∀ (nn : Nat) {u : xS} {y1 : Int32} {y2 : Int32} {y3 : Int32} {y4 : Int32} {y5 : Int32} {y6 : Int32} {H : Heap} {locs : List Loc} {ls : Array Slot}, mD G (xA w0 s.heap.size) s.heap b u sz H locs → lv_has ls 7 [(0, .ref b), (1, .int y1), (2, .int y2), (3, .int y3), (4, .int y4), (5, .int y5), (6, .int y6)] → F_X12_devil_l50 nn u y1 y2 y3 y4 y5 y6 = some rr → W p l e (xR 7 0 0) s m args below meth cd H locs 0 0 (xQi G w0 (fun r z => r = rr.1 ∧ z = ((mW G b rr.2), sz)) below args s 0 0) (F0 m 50 ls []) := by
  have hx := hE.1; have hb := hE.2.1
  intro nn
  induction nn with
  | zero => intro u y1 y2 y3 y4 y5 y6 H locs ls hD hl hF; rw [F_X12_devil_l50] at hF; cases hF
  | succ nn ih =>
    intro u y1 y2 y3 y4 y5 y6 H locs ls hD hl hF
    rw [F_X12_devil_l50] at hF
    refine lv_iload hx hb dX12_devil_50 (lv_at hl 6 rfl) ?_
    refine lv_if_lt (tgt := 97) hx hb dX12_devil_52 (by decide) (fun c8 => ?_) (fun c8 => ?_)
    · have hF := ite_p hF c8
      exact B_X12_devil_j97 hE hD (lv_sub hl [0, 1, 4, 5] rfl) hF
    · have hF := ite_n hF c8
      refine lv_iload hx hb dX12_devil_55 (lv_at hl 5 rfl) ?_
      refine lv_if_ge (tgt := 97) hx hb dX12_devil_57 (by decide) (fun c9 => ?_) (fun c9 => ?_)
      · have hF := ite_p hF c9
        exact B_X12_devil_j97 hE hD (lv_sub hl [0, 1, 4, 5] rfl) hF
      · have hF := ite_n hF c9
        refine lv_aload_n hx hb dX12_devil_60 rfl (lv_at hl 0 rfl) ?_
        refine gf_X12_7 hE hD dX12_devil_61 ?_
        refine lv_iload_n hx hb dX12_devil_64 rfl (lv_at hl 1 rfl) ?_
        refine lv_iconst (v := (2 : Int32)) hx hb dX12_devil_65 (by decide) ?_
        obtain ⟨r10, k11, hF⟩ := xb_s hF
        refine kSi (As := [.int y1, .int (2 : Int32)]) (rest := [.ref (b + 1)]) hE hl hD (c_X12_at k11) kl_X12_71 rfl rfl (Nat.le_of_ble_eq_true rfl) dX12_devil_66 ⟨Nat.le_of_ble_eq_true rfl, Nat.le_of_ble_eq_true rfl⟩ ⟨Nat.le_of_ble_eq_true rfl, Nat.le_of_ble_eq_true rfl⟩ (fun H locs (hD : mD G _ _ b u sz H locs) => ?_)
        refine lv_iload hx hb dX12_devil_69 (lv_at hl 6 rfl) ?_
        obtain ⟨h12, hF⟩ := ite_s hF
        refine ma_st_0 hE hD h12 dX12_devil_71 (fun u13 H locs eu13 hD => ?_)
        have hF := xlet_e hF eu13
        refine lv_aload_n hx hb dX12_devil_72 rfl (lv_at hl 0 rfl) ?_
        refine lv_iload_n hx hb dX12_devil_73 rfl (lv_at hl 1 rfl) ?_
        refine lv_iload_n hx hb dX12_devil_74 rfl (lv_at hl 2 rfl) ?_
        refine lv_iload_n hx hb dX12_devil_75 rfl (lv_at hl 3 rfl) ?_
        obtain ⟨r14, k15, hF⟩ := xb_s hF
        refine kVi (As := [.int y1, .int y2, .int y3]) (rest := []) hE hl hD (c_X12_afterMany (b := b) k15) kl_X12_154 (mW_0 _ _ _) rfl rfl rfl rfl (Nat.le_of_ble_eq_true rfl) dX12_devil_76 ⟨Nat.le_of_ble_eq_true rfl, Nat.le_of_ble_eq_true rfl⟩ ⟨Nat.le_of_ble_eq_true rfl, Nat.le_of_ble_eq_true rfl⟩ (fun H locs (hD : mD G _ _ b r14.2 sz H locs) => ?_)
        refine lv_iload_n hx hb dX12_devil_79 rfl (lv_at hl 2 rfl) ?_
        refine lv_icmp_lt (tgt := 88) hx hb dX12_devil_80 (by decide) (fun c16 => ?_) (fun c16 => ?_)
        · have hF := ite_p hF c16
          refine lv_iconst (v := (-1 : Int32)) hx hb dX12_devil_88 (by decide) ?_
          exact B_X12_devil_j89 hE (F_X12_devil_l50 nn) ih hD (lv_sub hl [0, 1, 2, 3, 4, 6] rfl) hF
        · have hF := ite_n hF c16
          refine lv_iload hx hb dX12_devil_83 (lv_at hl 6 rfl) ?_
          refine lv_goto (tgt := 89) hx hb dX12_devil_85 (by decide) ?_
          exact B_X12_devil_j89 hE (F_X12_devil_l50 nn) ih hD (lv_sub hl [0, 1, 2, 3, 4, 6] rfl) hF
def F_X12_devil_j32 (u : xS)  : Option (Int32 × xS) := some ((-1 : Int32), u)
theorem B_X12_devil_j32 {p : Program} {l : Launch} {e : Env} {s : State} {m : MethodId} {args : Array Value} {below : List Frame} {meth : Method} {cd : Code} {G : xG} {w0 : xW} {b sz : Nat} {rr : (Int32 × xS)} (hE : xE p s m args meth cd cX12_devil RX12 G 7 (Option.some Jvm.ClassFile.FieldType.int)) {u : xS}  {H : Heap} {locs : List Loc} {ls : Array Slot} (hD : mD G (xA w0 s.heap.size) s.heap b u sz H locs) (hl : lv_has ls 7 [(0, .ref b)]) (hF : F_X12_devil_j32 u  = some rr) : W p l e (xR 7 0 0) s m args below meth cd H locs 0 0 (xQi G w0 (fun r z => r = rr.1 ∧ z = ((mW G b rr.2), sz)) below args s 0 0) (F0 m 32 ls []) := by
  have hx := hE.1; have hb := hE.2.1
  unfold F_X12_devil_j32 at hF
  refine lv_iconst (v := (-1 : Int32)) hx hb dX12_devil_32 (by decide) ?_
  obtain rfl := Option.some.inj hF
  exact x_iret hE hD ⟨rfl, rfl⟩ (by omega) (by omega) dX12_devil_33
def F_X12_devil (u : xS) (xa : Int32) (xb : Int32) (xc : Int32) : Option (Int32 × xS) := (F_X12_isBridge u xa).bind (fun r17 => if r17 = 0 then F_X12_devil_j32 u else (F_X12_in xb.toInt64 (0 : Int64) (99999 : Int64)).bind (fun r21 => if r21 = 0 then F_X12_devil_j32 u else (F_X12_in xc.toInt64 (1 : Int64) (20 : Int64)).bind (fun r25 => if r25 = 0 then F_X12_devil_j32 u else (F_X12_its u xa (2 : Int32)).bind (fun r29 => F_X12_devil_l50 xFuel u xa xb xc r29 (-1 : Int32) (999 : Int32)))))
theorem c_X12_devil {l : Launch} {G : xG} {b sz : Nat} {rr : (Int32 × xS)} {u : xS} {xa : Int32} {xb : Int32} {xc : Int32} (hF : F_X12_devil u xa xb xc = some rr) : xMi l G yX12_devil cX12_devil 7 (Option.some Jvm.ClassFile.FieldType.int) 7 0 0 [.ref b, .int xa, .int xb, .int xc] (mW G b u) sz (fun r z => r = rr.1 ∧ z = ((mW G b rr.2), sz)) := by
  unfold F_X12_devil at hF
  refine x_startI rfl (Nat.le_of_ble_eq_true rfl) (fun p e s m args below meth cd ls hE hnm hl hD => ?_)
  have hx := hE.1; have hb := hE.2.1
  have hl : lv_has ls 7 [(0, .ref b), (1, .int xa), (2, .int xb), (3, .int xc)] := hl
  have hD : mD G (xA (mW G b u) s.heap.size) s.heap b u sz s.heap [] := hD
  refine lv_aload_n hx hb dX12_devil_0 rfl (lv_at hl 0 rfl) ?_
  refine lv_iload_n hx hb dX12_devil_1 rfl (lv_at hl 1 rfl) ?_
  obtain ⟨r17, k18, hF⟩ := xb_s hF
  refine kVz (As := [.int xa]) (rest := []) hE hl hD (c_X12_isBridge (b := b) k18) kl_X12_114 (mW_0 _ _ _) rfl rfl rfl rfl (Nat.le_of_ble_eq_true rfl) dX12_devil_2 ⟨Nat.le_of_ble_eq_true rfl, Nat.le_of_ble_eq_true rfl⟩ ⟨Nat.le_of_ble_eq_true rfl, Nat.le_of_ble_eq_true rfl⟩ (fun H locs z19 (hD : mD G _ _ b u sz H locs) => ?_)
  refine lv_if_eq (tgt := 32) hx hb dX12_devil_5 (by decide) (fun c20 => ?_) (fun c20 => ?_)
  · have hF := ite_p hF c20
    exact B_X12_devil_j32 hE hD (lv_sub hl [0] rfl) hF
  · have hF := ite_n hF c20
    refine lv_iload_n hx hb dX12_devil_8 rfl (lv_at hl 2 rfl) ?_
    refine lv_i2l (v := xb.toInt64) hx hb dX12_devil_9 rfl ?_
    refine lv_lconst (v := (0 : Int64)) hx hb dX12_devil_10 (by decide) ?_
    refine lv_ldc2 (v := (99999 : Int64)) hx hb hE.2.2.1 (hE.2.2.2.1 _ kw6_190) dX12_devil_11 ?_
    obtain ⟨r21, k22, hF⟩ := xb_s hF
    refine kSz (As := [.long xb.toInt64, .long (0 : Int64), .long (99999 : Int64)]) (rest := []) hE hl hD (c_X12_in k22) kl_X12_67 rfl rfl (Nat.le_of_ble_eq_true rfl) dX12_devil_14 ⟨Nat.le_of_ble_eq_true rfl, Nat.le_of_ble_eq_true rfl⟩ ⟨Nat.le_of_ble_eq_true rfl, Nat.le_of_ble_eq_true rfl⟩ (fun H locs z23 (hD : mD G _ _ b u sz H locs) => ?_)
    refine lv_if_eq (tgt := 32) hx hb dX12_devil_17 (by decide) (fun c24 => ?_) (fun c24 => ?_)
    · have hF := ite_p hF c24
      exact B_X12_devil_j32 hE hD (lv_sub hl [0] rfl) hF
    · have hF := ite_n hF c24
      refine lv_iload_n hx hb dX12_devil_20 rfl (lv_at hl 3 rfl) ?_
      refine lv_i2l (v := xc.toInt64) hx hb dX12_devil_21 rfl ?_
      refine lv_lconst (v := (1 : Int64)) hx hb dX12_devil_22 (by decide) ?_
      refine lv_ldc2 (v := (20 : Int64)) hx hb hE.2.2.1 (hE.2.2.2.1 _ kw7_12) dX12_devil_23 ?_
      obtain ⟨r25, k26, hF⟩ := xb_s hF
      refine kSz (As := [.long xc.toInt64, .long (1 : Int64), .long (20 : Int64)]) (rest := []) hE hl hD (c_X12_in k26) kl_X12_67 rfl rfl (Nat.le_of_ble_eq_true rfl) dX12_devil_26 ⟨Nat.le_of_ble_eq_true rfl, Nat.le_of_ble_eq_true rfl⟩ ⟨Nat.le_of_ble_eq_true rfl, Nat.le_of_ble_eq_true rfl⟩ (fun H locs z27 (hD : mD G _ _ b u sz H locs) => ?_)
      refine lv_if_ne (tgt := 34) hx hb dX12_devil_29 (by decide) (fun c28 => ?_) (fun c28 => ?_)
      · have hF := ite_n hF c28
        refine lv_aload_n hx hb dX12_devil_34 rfl (lv_at hl 0 rfl) ?_
        refine lv_iload_n hx hb dX12_devil_35 rfl (lv_at hl 1 rfl) ?_
        refine lv_iconst (v := (2 : Int32)) hx hb dX12_devil_36 (by decide) ?_
        obtain ⟨r29, k30, hF⟩ := xb_s hF
        refine kVi (As := [.int xa, .int (2 : Int32)]) (rest := []) hE hl hD (c_X12_its (b := b) k30) kl_X12_87 (mW_0 _ _ _) rfl rfl rfl rfl (Nat.le_of_ble_eq_true rfl) dX12_devil_37 ⟨Nat.le_of_ble_eq_true rfl, Nat.le_of_ble_eq_true rfl⟩ ⟨Nat.le_of_ble_eq_true rfl, Nat.le_of_ble_eq_true rfl⟩ (fun H locs (hD : mD G _ _ b u sz H locs) => ?_)
        refine lv_istore (lv' := [(4, .int r29), (0, .ref b), (1, .int xa), (2, .int xb), (3, .int xc)]) hx hb dX12_devil_40 hl (by decide) rfl (fun ls hl => ?_)
        refine lv_iconst (v := (-1 : Int32)) hx hb dX12_devil_42 (by decide) ?_
        refine lv_istore (lv' := [(5, .int (-1 : Int32)), (4, .int r29), (0, .ref b), (1, .int xa), (2, .int xb), (3, .int xc)]) hx hb dX12_devil_43 hl (by decide) rfl (fun ls hl => ?_)
        refine lv_sipush (v := (999 : Int32)) hx hb dX12_devil_45 (by decide) ?_
        refine lv_istore (lv' := [(6, .int (999 : Int32)), (5, .int (-1 : Int32)), (4, .int r29), (0, .ref b), (1, .int xa), (2, .int xb), (3, .int xc)]) hx hb dX12_devil_48 hl (by decide) rfl (fun ls hl => ?_)
        exact L_X12_devil_l50 hE _ hD (lv_sub hl [3, 4, 5, 6, 2, 1, 0] rfl) hF
      · have hF := ite_p hF c28
        exact B_X12_devil_j32 hE hD (lv_sub hl [0] rfl) hF
def F_X12_rate_j32 (u : xS)  : Option (Int32 × xS) := some ((-1 : Int32), u)
theorem B_X12_rate_j32 {p : Program} {l : Launch} {e : Env} {s : State} {m : MethodId} {args : Array Value} {below : List Frame} {meth : Method} {cd : Code} {G : xG} {w0 : xW} {b sz : Nat} {rr : (Int32 × xS)} (hE : xE p s m args meth cd cX12_rate RX12 G 7 (Option.some Jvm.ClassFile.FieldType.int)) {u : xS}  {H : Heap} {locs : List Loc} {ls : Array Slot} (hD : mD G (xA w0 s.heap.size) s.heap b u sz H locs) (hl : lv_has ls 7 [(0, .ref b)]) (hF : F_X12_rate_j32 u  = some rr) : W p l e (xR 7 0 0) s m args below meth cd H locs 0 0 (xQi G w0 (fun r z => r = rr.1 ∧ z = ((mW G b rr.2), sz)) below args s 0 0) (F0 m 32 ls []) := by
  have hx := hE.1; have hb := hE.2.1
  unfold F_X12_rate_j32 at hF
  refine lv_iconst (v := (-1 : Int32)) hx hb dX12_rate_32 (by decide) ?_
  obtain rfl := Option.some.inj hF
  exact x_iret hE hD ⟨rfl, rfl⟩ (by omega) (by omega) dX12_rate_33
def F_X12_rate (u : xS) (xa : Int32) (xb : Int32) (xc : Int32) : Option (Int32 × xS) := (F_X12_isBridge u xa).bind (fun r1 => if r1 = 0 then F_X12_rate_j32 u else (F_X12_in xb.toInt64 (0 : Int64) (99999 : Int64)).bind (fun r5 => if r5 = 0 then F_X12_rate_j32 u else (F_X12_in xc.toInt64 (1 : Int64) (99999 : Int64)).bind (fun r9 => if r9 = 0 then F_X12_rate_j32 u else (F_X12_becomes u xa xb.toInt64).bind (fun r13 => if 0 ≤ r13.1 then (F_X12_becomes r13.2 xa ((xb + xc).toInt64)).bind (fun r16 => xlet ((r16.1.toInt64 - r13.1.toInt64) - xc.toInt64) (fun x18 => if ¬ xc.toInt64 = 0 then some ((((x18 * (100 : Int64)) / xc.toInt64).toInt32) + (1000 : Int32), r16.2) else none)) else some ((-3 : Int32), r13.2)))))
theorem c_X12_rate {l : Launch} {G : xG} {b sz : Nat} {rr : (Int32 × xS)} {u : xS} {xa : Int32} {xb : Int32} {xc : Int32} (hF : F_X12_rate u xa xb xc = some rr) : xMi l G yX12_rate cX12_rate 7 (Option.some Jvm.ClassFile.FieldType.int) 7 0 0 [.ref b, .int xa, .int xb, .int xc] (mW G b u) sz (fun r z => r = rr.1 ∧ z = ((mW G b rr.2), sz)) := by
  unfold F_X12_rate at hF
  refine x_startI rfl (Nat.le_of_ble_eq_true rfl) (fun p e s m args below meth cd ls hE hnm hl hD => ?_)
  have hx := hE.1; have hb := hE.2.1
  have hl : lv_has ls 7 [(0, .ref b), (1, .int xa), (2, .int xb), (3, .int xc)] := hl
  have hD : mD G (xA (mW G b u) s.heap.size) s.heap b u sz s.heap [] := hD
  refine lv_aload_n hx hb dX12_rate_0 rfl (lv_at hl 0 rfl) ?_
  refine lv_iload_n hx hb dX12_rate_1 rfl (lv_at hl 1 rfl) ?_
  obtain ⟨r1, k2, hF⟩ := xb_s hF
  refine kVz (As := [.int xa]) (rest := []) hE hl hD (c_X12_isBridge (b := b) k2) kl_X12_114 (mW_0 _ _ _) rfl rfl rfl rfl (Nat.le_of_ble_eq_true rfl) dX12_rate_2 ⟨Nat.le_of_ble_eq_true rfl, Nat.le_of_ble_eq_true rfl⟩ ⟨Nat.le_of_ble_eq_true rfl, Nat.le_of_ble_eq_true rfl⟩ (fun H locs z3 (hD : mD G _ _ b u sz H locs) => ?_)
  refine lv_if_eq (tgt := 32) hx hb dX12_rate_5 (by decide) (fun c4 => ?_) (fun c4 => ?_)
  · have hF := ite_p hF c4
    exact B_X12_rate_j32 hE hD (lv_sub hl [0] rfl) hF
  · have hF := ite_n hF c4
    refine lv_iload_n hx hb dX12_rate_8 rfl (lv_at hl 2 rfl) ?_
    refine lv_i2l (v := xb.toInt64) hx hb dX12_rate_9 rfl ?_
    refine lv_lconst (v := (0 : Int64)) hx hb dX12_rate_10 (by decide) ?_
    refine lv_ldc2 (v := (99999 : Int64)) hx hb hE.2.2.1 (hE.2.2.2.1 _ kw6_190) dX12_rate_11 ?_
    obtain ⟨r5, k6, hF⟩ := xb_s hF
    refine kSz (As := [.long xb.toInt64, .long (0 : Int64), .long (99999 : Int64)]) (rest := []) hE hl hD (c_X12_in k6) kl_X12_67 rfl rfl (Nat.le_of_ble_eq_true rfl) dX12_rate_14 ⟨Nat.le_of_ble_eq_true rfl, Nat.le_of_ble_eq_true rfl⟩ ⟨Nat.le_of_ble_eq_true rfl, Nat.le_of_ble_eq_true rfl⟩ (fun H locs z7 (hD : mD G _ _ b u sz H locs) => ?_)
    refine lv_if_eq (tgt := 32) hx hb dX12_rate_17 (by decide) (fun c8 => ?_) (fun c8 => ?_)
    · have hF := ite_p hF c8
      exact B_X12_rate_j32 hE hD (lv_sub hl [0] rfl) hF
    · have hF := ite_n hF c8
      refine lv_iload_n hx hb dX12_rate_20 rfl (lv_at hl 3 rfl) ?_
      refine lv_i2l (v := xc.toInt64) hx hb dX12_rate_21 rfl ?_
      refine lv_lconst (v := (1 : Int64)) hx hb dX12_rate_22 (by decide) ?_
      refine lv_ldc2 (v := (99999 : Int64)) hx hb hE.2.2.1 (hE.2.2.2.1 _ kw6_190) dX12_rate_23 ?_
      obtain ⟨r9, k10, hF⟩ := xb_s hF
      refine kSz (As := [.long xc.toInt64, .long (1 : Int64), .long (99999 : Int64)]) (rest := []) hE hl hD (c_X12_in k10) kl_X12_67 rfl rfl (Nat.le_of_ble_eq_true rfl) dX12_rate_26 ⟨Nat.le_of_ble_eq_true rfl, Nat.le_of_ble_eq_true rfl⟩ ⟨Nat.le_of_ble_eq_true rfl, Nat.le_of_ble_eq_true rfl⟩ (fun H locs z11 (hD : mD G _ _ b u sz H locs) => ?_)
      refine lv_if_ne (tgt := 34) hx hb dX12_rate_29 (by decide) (fun c12 => ?_) (fun c12 => ?_)
      · have hF := ite_n hF c12
        refine lv_aload_n hx hb dX12_rate_34 rfl (lv_at hl 0 rfl) ?_
        refine lv_iload_n hx hb dX12_rate_35 rfl (lv_at hl 1 rfl) ?_
        refine lv_iload_n hx hb dX12_rate_36 rfl (lv_at hl 2 rfl) ?_
        refine lv_i2l (v := xb.toInt64) hx hb dX12_rate_37 rfl ?_
        obtain ⟨r13, k14, hF⟩ := xb_s hF
        refine kVi (As := [.int xa, .long xb.toInt64]) (rest := []) hE hl hD (c_X12_becomes (b := b) k14) kl_X12_144 (mW_0 _ _ _) rfl rfl rfl rfl (Nat.le_of_ble_eq_true rfl) dX12_rate_38 ⟨Nat.le_of_ble_eq_true rfl, Nat.le_of_ble_eq_true rfl⟩ ⟨Nat.le_of_ble_eq_true rfl, Nat.le_of_ble_eq_true rfl⟩ (fun H locs (hD : mD G _ _ b r13.2 sz H locs) => ?_)
        refine lv_istore (lv' := [(4, .int r13.1), (0, .ref b), (1, .int xa), (2, .int xb), (3, .int xc)]) hx hb dX12_rate_41 hl (by decide) rfl (fun ls hl => ?_)
        refine lv_iload hx hb dX12_rate_43 (lv_at hl 0 rfl) ?_
        refine lv_if_ge (tgt := 51) hx hb dX12_rate_45 (by decide) (fun c15 => ?_) (fun c15 => ?_)
        · have hF := ite_p hF c15
          refine lv_aload_n hx hb dX12_rate_51 rfl (lv_at hl 1 rfl) ?_
          refine lv_iload_n hx hb dX12_rate_52 rfl (lv_at hl 2 rfl) ?_
          refine lv_iload_n hx hb dX12_rate_53 rfl (lv_at hl 3 rfl) ?_
          refine lv_iload_n hx hb dX12_rate_54 rfl (lv_at hl 4 rfl) ?_
          refine lv_iadd hx hb dX12_rate_55 ?_
          refine lv_i2l (v := (xb + xc).toInt64) hx hb dX12_rate_56 rfl ?_
          obtain ⟨r16, k17, hF⟩ := xb_s hF
          refine kVi (As := [.int xa, .long ((xb + xc).toInt64)]) (rest := []) hE hl hD (c_X12_becomes (b := b) k17) kl_X12_144 (mW_0 _ _ _) rfl rfl rfl rfl (Nat.le_of_ble_eq_true rfl) dX12_rate_57 ⟨Nat.le_of_ble_eq_true rfl, Nat.le_of_ble_eq_true rfl⟩ ⟨Nat.le_of_ble_eq_true rfl, Nat.le_of_ble_eq_true rfl⟩ (fun H locs (hD : mD G _ _ b r16.2 sz H locs) => ?_)
          refine lv_i2l (v := r16.1.toInt64) hx hb dX12_rate_60 rfl ?_
          refine lv_iload hx hb dX12_rate_61 (lv_at hl 0 rfl) ?_
          refine lv_i2l (v := r13.1.toInt64) hx hb dX12_rate_63 rfl ?_
          refine lv_lsub hx hb dX12_rate_64 ?_
          refine lv_iload_n hx hb dX12_rate_65 rfl (lv_at hl 4 rfl) ?_
          refine lv_i2l (v := xc.toInt64) hx hb dX12_rate_66 rfl ?_
          refine lv_lsub hx hb dX12_rate_67 ?_
          refine lv_topl (fun x18 ex18 => ?_)
          have hF := xlet_e hF ex18
          refine lv_lstore (lv' := [(5, .long x18), (4, .int r13.1), (0, .ref b), (1, .int xa), (2, .int xb), (3, .int xc)]) hx hb dX12_rate_68 hl (by decide) rfl (fun ls hl => ?_)
          refine lv_lload hx hb dX12_rate_70 (lv_at hl 0 rfl) ?_
          refine lv_ldc2 (v := (100 : Int64)) hx hb hE.2.2.1 (hE.2.2.2.1 _ kw7_17) dX12_rate_72 ?_
          refine lv_lmul hx hb dX12_rate_75 ?_
          refine lv_iload_n hx hb dX12_rate_76 rfl (lv_at hl 5 rfl) ?_
          refine lv_i2l (v := xc.toInt64) hx hb dX12_rate_77 rfl ?_
          obtain ⟨h19, hF⟩ := ite_s hF
          refine lv_ldiv hx hb dX12_rate_78 h19 ?_
          refine lv_l2i (v := ((x18 * (100 : Int64)) / xc.toInt64).toInt32) hx hb dX12_rate_79 rfl ?_
          refine lv_sipush (v := (1000 : Int32)) hx hb dX12_rate_80 (by decide) ?_
          refine lv_iadd hx hb dX12_rate_83 ?_
          obtain rfl := Option.some.inj hF
          exact x_iret hE hD ⟨rfl, rfl⟩ (by omega) (by omega) dX12_rate_84
        · have hF := ite_n hF c15
          refine lv_bipush (v := (-3 : Int32)) hx hb dX12_rate_48 (by decide) ?_
          obtain rfl := Option.some.inj hF
          exact x_iret hE hD ⟨rfl, rfl⟩ (by omega) (by omega) dX12_rate_50
      · have hF := ite_p hF c12
        exact B_X12_rate_j32 hE hD (lv_sub hl [0] rfl) hF
def F_X12_findWorth_j285 (k146 : xS → Int32 → Int32 → Int32 → Int64 → Int32 → Option (Int32 × xS)) (k157 : xS → Int32 → Int32 → Int32 → Int64 → Int32 → Int32 → Option (Int32 × xS)) (u : xS) (y3 : Int32) (y4 : Int32) (y6 : Int32) (y7 : Int64) (y9 : Int32) (y10 : Int32) : Option (Int32 × xS) := xlet (y10 + (1 : Int32)) (fun x1 => k157 u y3 y4 y6 y7 y9 x1)
theorem B_X12_findWorth_j285 {p : Program} {l : Launch} {e : Env} {s : State} {m : MethodId} {args : Array Value} {below : List Frame} {meth : Method} {cd : Code} {G : xG} {w0 : xW} {b sz : Nat} {rr : (Int32 × xS)} (hE : xE p s m args meth cd cX12_findWorth RX12 G 13 (Option.some Jvm.ClassFile.FieldType.boolean)) {u : xS} (k146 : xS → Int32 → Int32 → Int32 → Int64 → Int32 → Option (Int32 × xS)) (h146 : ∀ {u1 : xS} {y3 : Int32} {y4 : Int32} {y6 : Int32} {y7 : Int64} {y9 : Int32} {H : Heap} {locs : List Loc} {ls : Array Slot}, mD G (xA w0 s.heap.size) s.heap b u1 sz H locs → lv_has ls 13 [(0, .ref b), (3, .int y3), (4, .int y4), (6, .int y6), (7, .long y7), (9, .int y9)] → k146 u1 y3 y4 y6 y7 y9 = some rr → W p l e (xR 6 0 0) s m args below meth cd H locs 0 0 (xQi G w0 (fun r z => r = rr.1 ∧ (rr.1 = 0 ∨ rr.1 = 1) ∧ z = ((mW G b rr.2), sz)) below args s 0 0) (F0 m 146 ls [])) (k157 : xS → Int32 → Int32 → Int32 → Int64 → Int32 → Int32 → Option (Int32 × xS)) (h157 : ∀ {u1 : xS} {y3 : Int32} {y4 : Int32} {y6 : Int32} {y7 : Int64} {y9 : Int32} {y10 : Int32} {H : Heap} {locs : List Loc} {ls : Array Slot}, mD G (xA w0 s.heap.size) s.heap b u1 sz H locs → lv_has ls 13 [(0, .ref b), (3, .int y3), (4, .int y4), (6, .int y6), (7, .long y7), (9, .int y9), (10, .int y10)] → k157 u1 y3 y4 y6 y7 y9 y10 = some rr → W p l e (xR 6 0 0) s m args below meth cd H locs 0 0 (xQi G w0 (fun r z => r = rr.1 ∧ (rr.1 = 0 ∨ rr.1 = 1) ∧ z = ((mW G b rr.2), sz)) below args s 0 0) (F0 m 157 ls [])) {y3 : Int32} {y4 : Int32} {y6 : Int32} {y7 : Int64} {y9 : Int32} {y10 : Int32} {H : Heap} {locs : List Loc} {ls : Array Slot} (hD : mD G (xA w0 s.heap.size) s.heap b u sz H locs) (hl : lv_has ls 13 [(0, .ref b), (3, .int y3), (4, .int y4), (6, .int y6), (7, .long y7), (9, .int y9), (10, .int y10)]) (hF : F_X12_findWorth_j285 k146 k157 u y3 y4 y6 y7 y9 y10 = some rr) : W p l e (xR 6 0 0) s m args below meth cd H locs 0 0 (xQi G w0 (fun r z => r = rr.1 ∧ (rr.1 = 0 ∨ rr.1 = 1) ∧ z = ((mW G b rr.2), sz)) below args s 0 0) (F0 m 285 ls []) := by
  have hx := hE.1; have hb := hE.2.1
  unfold F_X12_findWorth_j285 at hF
  obtain ⟨x1, ex1⟩ : ∃ y : Int32, y = y10 + (1 : Int32) := ⟨_, rfl⟩
  have hF := xlet_e hF ex1
  refine lv_iinc (v := x1) (lv' := [(10, .int x1), (0, .ref b), (3, .int y3), (4, .int y4), (6, .int y6), (7, .long y7), (9, .int y9)]) hx hb dX12_findWorth_285 hl (k := 6) rfl (by rw [ex1]; rfl) (by decide) rfl (fun ls hl => ?_)
  refine lv_goto (tgt := 157) hx hb dX12_findWorth_288 (by decide) ?_
  exact h157 hD (lv_sub hl [1, 2, 3, 4, 5, 6, 0] rfl) hF
def F_X12_findWorth_j284 (k146 : xS → Int32 → Int32 → Int32 → Int64 → Int32 → Option (Int32 × xS)) (k157 : xS → Int32 → Int32 → Int32 → Int64 → Int32 → Int32 → Option (Int32 × xS)) (u : xS) (y3 : Int32) (y4 : Int32) (y6 : Int32) (y7 : Int64) (y9 : Int32) (y10 : Int32) (s1 : Int32) (s2 : Int64) : Option (Int32 × xS) := if xIn s1 32 then xlet (mL u s1.toNatClampNeg s2) (fun u3 => F_X12_findWorth_j285 k146 k157 u3 y3 y4 y6 y7 y9 y10) else none
theorem B_X12_findWorth_j284 {p : Program} {l : Launch} {e : Env} {s : State} {m : MethodId} {args : Array Value} {below : List Frame} {meth : Method} {cd : Code} {G : xG} {w0 : xW} {b sz : Nat} {rr : (Int32 × xS)} (hE : xE p s m args meth cd cX12_findWorth RX12 G 13 (Option.some Jvm.ClassFile.FieldType.boolean)) {u : xS} (k146 : xS → Int32 → Int32 → Int32 → Int64 → Int32 → Option (Int32 × xS)) (h146 : ∀ {u1 : xS} {y3 : Int32} {y4 : Int32} {y6 : Int32} {y7 : Int64} {y9 : Int32} {H : Heap} {locs : List Loc} {ls : Array Slot}, mD G (xA w0 s.heap.size) s.heap b u1 sz H locs → lv_has ls 13 [(0, .ref b), (3, .int y3), (4, .int y4), (6, .int y6), (7, .long y7), (9, .int y9)] → k146 u1 y3 y4 y6 y7 y9 = some rr → W p l e (xR 6 0 0) s m args below meth cd H locs 0 0 (xQi G w0 (fun r z => r = rr.1 ∧ (rr.1 = 0 ∨ rr.1 = 1) ∧ z = ((mW G b rr.2), sz)) below args s 0 0) (F0 m 146 ls [])) (k157 : xS → Int32 → Int32 → Int32 → Int64 → Int32 → Int32 → Option (Int32 × xS)) (h157 : ∀ {u1 : xS} {y3 : Int32} {y4 : Int32} {y6 : Int32} {y7 : Int64} {y9 : Int32} {y10 : Int32} {H : Heap} {locs : List Loc} {ls : Array Slot}, mD G (xA w0 s.heap.size) s.heap b u1 sz H locs → lv_has ls 13 [(0, .ref b), (3, .int y3), (4, .int y4), (6, .int y6), (7, .long y7), (9, .int y9), (10, .int y10)] → k157 u1 y3 y4 y6 y7 y9 y10 = some rr → W p l e (xR 6 0 0) s m args below meth cd H locs 0 0 (xQi G w0 (fun r z => r = rr.1 ∧ (rr.1 = 0 ∨ rr.1 = 1) ∧ z = ((mW G b rr.2), sz)) below args s 0 0) (F0 m 157 ls [])) {y3 : Int32} {y4 : Int32} {y6 : Int32} {y7 : Int64} {y9 : Int32} {y10 : Int32} {s1 : Int32} {s2 : Int64} {H : Heap} {locs : List Loc} {ls : Array Slot} (hD : mD G (xA w0 s.heap.size) s.heap b u sz H locs) (hl : lv_has ls 13 [(0, .ref b), (3, .int y3), (4, .int y4), (6, .int y6), (7, .long y7), (9, .int y9), (10, .int y10)]) (hF : F_X12_findWorth_j284 k146 k157 u y3 y4 y6 y7 y9 y10 s1 s2 = some rr) : W p l e (xR 6 0 0) s m args below meth cd H locs 0 0 (xQi G w0 (fun r z => r = rr.1 ∧ (rr.1 = 0 ∨ rr.1 = 1) ∧ z = ((mW G b rr.2), sz)) below args s 0 0) (F0 m 284 ls [.long s2, .int s1, .ref (b + 9)]) := by
  have hx := hE.1; have hb := hE.2.1
  unfold F_X12_findWorth_j284 at hF
  obtain ⟨h2, hF⟩ := ite_s hF
  refine ml_st hE hD h2 dX12_findWorth_284 (fun u3 H locs eu3 hD => ?_)
  have hF := xlet_e hF eu3
  exact B_X12_findWorth_j285 hE k146 h146 k157 h157 hD (lv_sub hl [0, 1, 2, 3, 4, 5, 6] rfl) hF
def F_X12_findWorth_j259 (k146 : xS → Int32 → Int32 → Int32 → Int64 → Int32 → Option (Int32 × xS)) (k157 : xS → Int32 → Int32 → Int32 → Int64 → Int32 → Int32 → Option (Int32 × xS)) (u : xS) (y3 : Int32) (y4 : Int32) (y7 : Int64) (y9 : Int32) (y10 : Int32) (y11 : Int64) (s0 : Int32) : Option (Int32 × xS) := if s0 = 0 then F_X12_findWorth_j284 k146 k157 u y3 y4 s0 y7 y9 y10 y10 y11 else if xIn y10 32 then F_X12_findWorth_j284 k146 k157 u y3 y4 s0 y7 y9 y10 y10 (u.2.2 y10.toNatClampNeg) else none
theorem B_X12_findWorth_j259 {p : Program} {l : Launch} {e : Env} {s : State} {m : MethodId} {args : Array Value} {below : List Frame} {meth : Method} {cd : Code} {G : xG} {w0 : xW} {b sz : Nat} {rr : (Int32 × xS)} (hE : xE p s m args meth cd cX12_findWorth RX12 G 13 (Option.some Jvm.ClassFile.FieldType.boolean)) {u : xS} (k146 : xS → Int32 → Int32 → Int32 → Int64 → Int32 → Option (Int32 × xS)) (h146 : ∀ {u1 : xS} {y3 : Int32} {y4 : Int32} {y6 : Int32} {y7 : Int64} {y9 : Int32} {H : Heap} {locs : List Loc} {ls : Array Slot}, mD G (xA w0 s.heap.size) s.heap b u1 sz H locs → lv_has ls 13 [(0, .ref b), (3, .int y3), (4, .int y4), (6, .int y6), (7, .long y7), (9, .int y9)] → k146 u1 y3 y4 y6 y7 y9 = some rr → W p l e (xR 6 0 0) s m args below meth cd H locs 0 0 (xQi G w0 (fun r z => r = rr.1 ∧ (rr.1 = 0 ∨ rr.1 = 1) ∧ z = ((mW G b rr.2), sz)) below args s 0 0) (F0 m 146 ls [])) (k157 : xS → Int32 → Int32 → Int32 → Int64 → Int32 → Int32 → Option (Int32 × xS)) (h157 : ∀ {u1 : xS} {y3 : Int32} {y4 : Int32} {y6 : Int32} {y7 : Int64} {y9 : Int32} {y10 : Int32} {H : Heap} {locs : List Loc} {ls : Array Slot}, mD G (xA w0 s.heap.size) s.heap b u1 sz H locs → lv_has ls 13 [(0, .ref b), (3, .int y3), (4, .int y4), (6, .int y6), (7, .long y7), (9, .int y9), (10, .int y10)] → k157 u1 y3 y4 y6 y7 y9 y10 = some rr → W p l e (xR 6 0 0) s m args below meth cd H locs 0 0 (xQi G w0 (fun r z => r = rr.1 ∧ (rr.1 = 0 ∨ rr.1 = 1) ∧ z = ((mW G b rr.2), sz)) below args s 0 0) (F0 m 157 ls [])) {y3 : Int32} {y4 : Int32} {y7 : Int64} {y9 : Int32} {y10 : Int32} {y11 : Int64} {s0 : Int32} {H : Heap} {locs : List Loc} {ls : Array Slot} (hD : mD G (xA w0 s.heap.size) s.heap b u sz H locs) (hl : lv_has ls 13 [(0, .ref b), (3, .int y3), (4, .int y4), (7, .long y7), (9, .int y9), (10, .int y10), (11, .long y11)]) (hF : F_X12_findWorth_j259 k146 k157 u y3 y4 y7 y9 y10 y11 s0 = some rr) : W p l e (xR 6 0 0) s m args below meth cd H locs 0 0 (xQi G w0 (fun r z => r = rr.1 ∧ (rr.1 = 0 ∨ rr.1 = 1) ∧ z = ((mW G b rr.2), sz)) below args s 0 0) (F0 m 259 ls [.int s0]) := by
  have hx := hE.1; have hb := hE.2.1
  unfold F_X12_findWorth_j259 at hF
  refine lv_istore (lv' := [(6, .int s0), (0, .ref b), (3, .int y3), (4, .int y4), (7, .long y7), (9, .int y9), (10, .int y10), (11, .long y11)]) hx hb dX12_findWorth_259 hl (by decide) rfl (fun ls hl => ?_)
  refine lv_aload_n hx hb dX12_findWorth_261 rfl (lv_at hl 1 rfl) ?_
  refine gf_X12_34 hE hD dX12_findWorth_262 ?_
  refine lv_iload hx hb dX12_findWorth_265 (lv_at hl 6 rfl) ?_
  refine lv_iload hx hb dX12_findWorth_267 (lv_at hl 0 rfl) ?_
  refine lv_if_eq (tgt := 282) hx hb dX12_findWorth_269 (by decide) (fun c4 => ?_) (fun c4 => ?_)
  · have hF := ite_p hF c4
    refine lv_lload hx hb dX12_findWorth_282 (lv_at hl 7 rfl) ?_
    exact B_X12_findWorth_j284 hE k146 h146 k157 h157 hD (lv_sub hl [1, 2, 3, 0, 4, 5, 6] rfl) hF
  · have hF := ite_n hF c4
    refine lv_aload_n hx hb dX12_findWorth_272 rfl (lv_at hl 1 rfl) ?_
    refine gf_X12_34 hE hD dX12_findWorth_273 ?_
    refine lv_iload hx hb dX12_findWorth_276 (lv_at hl 6 rfl) ?_
    obtain ⟨h5, hF⟩ := ite_s hF
    refine ml_ld hE hD h5 dX12_findWorth_278 ?_
    refine lv_goto (tgt := 284) hx hb dX12_findWorth_279 (by decide) ?_
    exact B_X12_findWorth_j284 hE k146 h146 k157 h157 hD (lv_sub hl [1, 2, 3, 0, 4, 5, 6] rfl) hF
def F_X12_findWorth_j239 (k146 : xS → Int32 → Int32 → Int32 → Int64 → Int32 → Option (Int32 × xS)) (k157 : xS → Int32 → Int32 → Int32 → Int64 → Int32 → Int32 → Option (Int32 × xS)) (u : xS) (y3 : Int32) (y4 : Int32) (y7 : Int64) (y9 : Int32) (y10 : Int32) (s0 : Int64) : Option (Int32 × xS) := if xIn y10 32 then if (lg_cmp (u.2.2 y10.toNatClampNeg) s0) < 0 then F_X12_findWorth_j259 k146 k157 u y3 y4 y7 y9 y10 s0 (0 : Int32) else F_X12_findWorth_j259 k146 k157 u y3 y4 y7 y9 y10 s0 (1 : Int32) else none
theorem B_X12_findWorth_j239 {p : Program} {l : Launch} {e : Env} {s : State} {m : MethodId} {args : Array Value} {below : List Frame} {meth : Method} {cd : Code} {G : xG} {w0 : xW} {b sz : Nat} {rr : (Int32 × xS)} (hE : xE p s m args meth cd cX12_findWorth RX12 G 13 (Option.some Jvm.ClassFile.FieldType.boolean)) {u : xS} (k146 : xS → Int32 → Int32 → Int32 → Int64 → Int32 → Option (Int32 × xS)) (h146 : ∀ {u1 : xS} {y3 : Int32} {y4 : Int32} {y6 : Int32} {y7 : Int64} {y9 : Int32} {H : Heap} {locs : List Loc} {ls : Array Slot}, mD G (xA w0 s.heap.size) s.heap b u1 sz H locs → lv_has ls 13 [(0, .ref b), (3, .int y3), (4, .int y4), (6, .int y6), (7, .long y7), (9, .int y9)] → k146 u1 y3 y4 y6 y7 y9 = some rr → W p l e (xR 6 0 0) s m args below meth cd H locs 0 0 (xQi G w0 (fun r z => r = rr.1 ∧ (rr.1 = 0 ∨ rr.1 = 1) ∧ z = ((mW G b rr.2), sz)) below args s 0 0) (F0 m 146 ls [])) (k157 : xS → Int32 → Int32 → Int32 → Int64 → Int32 → Int32 → Option (Int32 × xS)) (h157 : ∀ {u1 : xS} {y3 : Int32} {y4 : Int32} {y6 : Int32} {y7 : Int64} {y9 : Int32} {y10 : Int32} {H : Heap} {locs : List Loc} {ls : Array Slot}, mD G (xA w0 s.heap.size) s.heap b u1 sz H locs → lv_has ls 13 [(0, .ref b), (3, .int y3), (4, .int y4), (6, .int y6), (7, .long y7), (9, .int y9), (10, .int y10)] → k157 u1 y3 y4 y6 y7 y9 y10 = some rr → W p l e (xR 6 0 0) s m args below meth cd H locs 0 0 (xQi G w0 (fun r z => r = rr.1 ∧ (rr.1 = 0 ∨ rr.1 = 1) ∧ z = ((mW G b rr.2), sz)) below args s 0 0) (F0 m 157 ls [])) {y3 : Int32} {y4 : Int32} {y7 : Int64} {y9 : Int32} {y10 : Int32} {s0 : Int64} {H : Heap} {locs : List Loc} {ls : Array Slot} (hD : mD G (xA w0 s.heap.size) s.heap b u sz H locs) (hl : lv_has ls 13 [(0, .ref b), (3, .int y3), (4, .int y4), (7, .long y7), (9, .int y9), (10, .int y10)]) (hF : F_X12_findWorth_j239 k146 k157 u y3 y4 y7 y9 y10 s0 = some rr) : W p l e (xR 6 0 0) s m args below meth cd H locs 0 0 (xQi G w0 (fun r z => r = rr.1 ∧ (rr.1 = 0 ∨ rr.1 = 1) ∧ z = ((mW G b rr.2), sz)) below args s 0 0) (F0 m 239 ls [.long s0]) := by
  have hx := hE.1; have hb := hE.2.1
  unfold F_X12_findWorth_j239 at hF
  refine lv_lstore (lv' := [(11, .long s0), (0, .ref b), (3, .int y3), (4, .int y4), (7, .long y7), (9, .int y9), (10, .int y10)]) hx hb dX12_findWorth_239 hl (by decide) rfl (fun ls hl => ?_)
  refine lv_aload_n hx hb dX12_findWorth_241 rfl (lv_at hl 1 rfl) ?_
  refine gf_X12_34 hE hD dX12_findWorth_242 ?_
  refine lv_iload hx hb dX12_findWorth_245 (lv_at hl 6 rfl) ?_
  obtain ⟨h6, hF⟩ := ite_s hF
  refine ml_ld hE hD h6 dX12_findWorth_247 ?_
  refine lv_lload hx hb dX12_findWorth_248 (lv_at hl 0 rfl) ?_
  refine W.lcmp hx hb dX12_findWorth_250 ?_
  refine lv_if_lt (tgt := 258) hx hb dX12_findWorth_251 (by decide) (fun c7 => ?_) (fun c7 => ?_)
  · have hF := ite_p hF c7
    refine lv_iconst (v := (0 : Int32)) hx hb dX12_findWorth_258 (by decide) ?_
    exact B_X12_findWorth_j259 hE k146 h146 k157 h157 hD (lv_sub hl [1, 2, 3, 4, 5, 6, 0] rfl) hF
  · have hF := ite_n hF c7
    refine lv_iconst (v := (1 : Int32)) hx hb dX12_findWorth_254 (by decide) ?_
    refine lv_goto (tgt := 259) hx hb dX12_findWorth_255 (by decide) ?_
    exact B_X12_findWorth_j259 hE k146 h146 k157 h157 hD (lv_sub hl [1, 2, 3, 4, 5, 6, 0] rfl) hF
def F_X12_findWorth_l157 (k146 : xS → Int32 → Int32 → Int32 → Int64 → Int32 → Option (Int32 × xS)) : Nat → xS → Int32 → Int32 → Int32 → Int64 → Int32 → Int32 → Option (Int32 × xS)
  | 0, _, _, _, _, _, _, _ => none
  | nn + 1, u, y3, y4, y6, y7, y9, y10 => if ((2 : Int32) <<< (y9 &&& 31)) ≤ y10 then xlet (y7 * (100 : Int64)) (fun x9 => xlet (y9 + (-1 : Int32)) (fun x10 => k146 u y3 y4 y6 x9 x10)) else if xIn y10 32 then if xIn y10 32 then xlet (mL u y10.toNatClampNeg (y7 * ((u.2.1 12 y10.toNatClampNeg).toInt64))) (fun u13 => if y4 ≤ y9 then F_X12_findWorth_j285 k146 (F_X12_findWorth_l157 k146 nn) u13 y3 y4 y6 y7 y9 y10 else if xIn ((2 : Int32) * y10) 32 then if 0 ≤ (u13.2.1 12 ((2 : Int32) * y10).toNatClampNeg) then if xIn ((2 : Int32) * y10) 32 then if xIn (((2 : Int32) * y10) + (1 : Int32)) 32 then F_X12_findWorth_j239 k146 (F_X12_findWorth_l157 k146 nn) u13 y3 y4 y7 y9 y10 ((y3.toInt64 * (u13.2.2 ((2 : Int32) * y10).toNatClampNeg)) + ((((100 : Int32) - y3).toInt64) * (u13.2.2 (((2 : Int32) * y10) + (1 : Int32)).toNatClampNeg))) else none else none else F_X12_findWorth_j239 k146 (F_X12_findWorth_l157 k146 nn) u13 y3 y4 y7 y9 y10 (-1 : Int64) else none) else none else none
theorem L_X12_findWorth_l157 {p : Program} {l : Launch} {e : Env} {s : State} {m : MethodId} {args : Array Value} {below : List Frame} {meth : Method} {cd : Code} {G : xG} {w0 : xW} {b sz : Nat} {rr : (Int32 × xS)} (hE : xE p s m args meth cd cX12_findWorth RX12 G 13 (Option.some Jvm.ClassFile.FieldType.boolean)) (k146 : xS → Int32 → Int32 → Int32 → Int64 → Int32 → Option (Int32 × xS)) (h146 : ∀ {u1 : xS} {y3 : Int32} {y4 : Int32} {y6 : Int32} {y7 : Int64} {y9 : Int32} {H : Heap} {locs : List Loc} {ls : Array Slot}, mD G (xA w0 s.heap.size) s.heap b u1 sz H locs → lv_has ls 13 [(0, .ref b), (3, .int y3), (4, .int y4), (6, .int y6), (7, .long y7), (9, .int y9)] → k146 u1 y3 y4 y6 y7 y9 = some rr → W p l e (xR 6 0 0) s m args below meth cd H locs 0 0 (xQi G w0 (fun r z => r = rr.1 ∧ (rr.1 = 0 ∨ rr.1 = 1) ∧ z = ((mW G b rr.2), sz)) below args s 0 0) (F0 m 146 ls [])) : ∀ (nn : Nat) {u : xS} {y3 : Int32} {y4 : Int32} {y6 : Int32} {y7 : Int64} {y9 : Int32} {y10 : Int32} {H : Heap} {locs : List Loc} {ls : Array Slot}, mD G (xA w0 s.heap.size) s.heap b u sz H locs → lv_has ls 13 [(0, .ref b), (3, .int y3), (4, .int y4), (6, .int y6), (7, .long y7), (9, .int y9), (10, .int y10)] → F_X12_findWorth_l157 k146 nn u y3 y4 y6 y7 y9 y10 = some rr → W p l e (xR 6 0 0) s m args below meth cd H locs 0 0 (xQi G w0 (fun r z => r = rr.1 ∧ (rr.1 = 0 ∨ rr.1 = 1) ∧ z = ((mW G b rr.2), sz)) below args s 0 0) (F0 m 157 ls []) := by
  have hx := hE.1; have hb := hE.2.1
  intro nn
  induction nn with
  | zero => intro u y3 y4 y6 y7 y9 y10 H locs ls hD hl hF; rw [F_X12_findWorth_l157] at hF; cases hF
  | succ nn ih =>
    intro u y3 y4 y6 y7 y9 y10 H locs ls hD hl hF
    rw [F_X12_findWorth_l157] at hF
    refine lv_iload hx hb dX12_findWorth_157 (lv_at hl 6 rfl) ?_
    refine lv_iconst (v := (2 : Int32)) hx hb dX12_findWorth_159 (by decide) ?_
    refine lv_iload hx hb dX12_findWorth_160 (lv_at hl 5 rfl) ?_
    refine lv_ishl hx hb dX12_findWorth_162 ?_
    refine lv_icmp_ge (tgt := 291) hx hb dX12_findWorth_163 (by decide) (fun c8 => ?_) (fun c8 => ?_)
    · have hF := ite_p hF c8
      refine lv_lload hx hb dX12_findWorth_291 (lv_at hl 4 rfl) ?_
      refine lv_ldc2 (v := (100 : Int64)) hx hb hE.2.2.1 (hE.2.2.2.1 _ kw7_17) dX12_findWorth_293 ?_
      refine lv_lmul hx hb dX12_findWorth_296 ?_
      refine lv_topl (fun x9 ex9 => ?_)
      have hF := xlet_e hF ex9
      refine lv_lstore (lv' := [(7, .long x9), (0, .ref b), (3, .int y3), (4, .int y4), (6, .int y6), (9, .int y9), (10, .int y10)]) hx hb dX12_findWorth_297 hl (by decide) rfl (fun ls hl => ?_)
      obtain ⟨x10, ex10⟩ : ∃ y : Int32, y = y9 + (-1 : Int32) := ⟨_, rfl⟩
      have hF := xlet_e hF ex10
      refine lv_iinc (v := x10) (lv' := [(9, .int x10), (7, .long x9), (0, .ref b), (3, .int y3), (4, .int y4), (6, .int y6), (10, .int y10)]) hx hb dX12_findWorth_299 hl (k := 5) rfl (by rw [ex10]; rfl) (by decide) rfl (fun ls hl => ?_)
      refine lv_goto (tgt := 146) hx hb dX12_findWorth_302 (by decide) ?_
      exact h146 hD (lv_sub hl [2, 3, 4, 5, 1, 0] rfl) hF
    · have hF := ite_n hF c8
      refine lv_aload_n hx hb dX12_findWorth_166 rfl (lv_at hl 0 rfl) ?_
      refine gf_X12_34 hE hD dX12_findWorth_167 ?_
      refine lv_iload hx hb dX12_findWorth_170 (lv_at hl 6 rfl) ?_
      refine lv_lload hx hb dX12_findWorth_172 (lv_at hl 4 rfl) ?_
      refine lv_aload_n hx hb dX12_findWorth_174 rfl (lv_at hl 0 rfl) ?_
      refine gf_X12_31 hE hD dX12_findWorth_175 ?_
      refine lv_iload hx hb dX12_findWorth_178 (lv_at hl 6 rfl) ?_
      obtain ⟨h11, hF⟩ := ite_s hF
      refine ma_ld_12 hE hD h11 dX12_findWorth_180 ?_
      refine lv_i2l (v := (u.2.1 12 y10.toNatClampNeg).toInt64) hx hb dX12_findWorth_181 rfl ?_
      refine lv_lmul hx hb dX12_findWorth_182 ?_
      obtain ⟨h12, hF⟩ := ite_s hF
      refine ml_st hE hD h12 dX12_findWorth_183 (fun u13 H locs eu13 hD => ?_)
      have hF := xlet_e hF eu13
      refine lv_iload hx hb dX12_findWorth_184 (lv_at hl 5 rfl) ?_
      refine lv_iload hx hb dX12_findWorth_186 (lv_at hl 2 rfl) ?_
      refine lv_icmp_ge (tgt := 285) hx hb dX12_findWorth_188 (by decide) (fun c14 => ?_) (fun c14 => ?_)
      · have hF := ite_p hF c14
        exact B_X12_findWorth_j285 hE k146 h146 (F_X12_findWorth_l157 k146 nn) ih hD (lv_sub hl [0, 1, 2, 3, 4, 5, 6] rfl) hF
      · have hF := ite_n hF c14
        refine lv_aload_n hx hb dX12_findWorth_191 rfl (lv_at hl 0 rfl) ?_
        refine gf_X12_31 hE hD dX12_findWorth_192 ?_
        refine lv_iconst (v := (2 : Int32)) hx hb dX12_findWorth_195 (by decide) ?_
        refine lv_iload hx hb dX12_findWorth_196 (lv_at hl 6 rfl) ?_
        refine lv_imul hx hb dX12_findWorth_198 ?_
        obtain ⟨h15, hF⟩ := ite_s hF
        refine ma_ld_12 hE hD h15 dX12_findWorth_199 ?_
        refine lv_if_ge (tgt := 209) hx hb dX12_findWorth_200 (by decide) (fun c16 => ?_) (fun c16 => ?_)
        · have hF := ite_p hF c16
          refine lv_iload_n hx hb dX12_findWorth_209 rfl (lv_at hl 1 rfl) ?_
          refine lv_i2l (v := y3.toInt64) hx hb dX12_findWorth_210 rfl ?_
          refine lv_aload_n hx hb dX12_findWorth_211 rfl (lv_at hl 0 rfl) ?_
          refine gf_X12_34 hE hD dX12_findWorth_212 ?_
          refine lv_iconst (v := (2 : Int32)) hx hb dX12_findWorth_215 (by decide) ?_
          refine lv_iload hx hb dX12_findWorth_216 (lv_at hl 6 rfl) ?_
          refine lv_imul hx hb dX12_findWorth_218 ?_
          obtain ⟨h17, hF⟩ := ite_s hF
          refine ml_ld hE hD h17 dX12_findWorth_219 ?_
          refine lv_lmul hx hb dX12_findWorth_220 ?_
          refine lv_bipush (v := (100 : Int32)) hx hb dX12_findWorth_221 (by decide) ?_
          refine lv_iload_n hx hb dX12_findWorth_223 rfl (lv_at hl 1 rfl) ?_
          refine lv_isub hx hb dX12_findWorth_224 ?_
          refine lv_i2l (v := ((100 : Int32) - y3).toInt64) hx hb dX12_findWorth_225 rfl ?_
          refine lv_aload_n hx hb dX12_findWorth_226 rfl (lv_at hl 0 rfl) ?_
          refine gf_X12_34 hE hD dX12_findWorth_227 ?_
          refine lv_iconst (v := (2 : Int32)) hx hb dX12_findWorth_230 (by decide) ?_
          refine lv_iload hx hb dX12_findWorth_231 (lv_at hl 6 rfl) ?_
          refine lv_imul hx hb dX12_findWorth_233 ?_
          refine lv_iconst (v := (1 : Int32)) hx hb dX12_findWorth_234 (by decide) ?_
          refine lv_iadd hx hb dX12_findWorth_235 ?_
          obtain ⟨h18, hF⟩ := ite_s hF
          refine ml_ld hE hD h18 dX12_findWorth_236 ?_
          refine lv_lmul hx hb dX12_findWorth_237 ?_
          refine lv_ladd hx hb dX12_findWorth_238 ?_
          exact B_X12_findWorth_j239 hE k146 h146 (F_X12_findWorth_l157 k146 nn) ih hD (lv_sub hl [0, 1, 2, 4, 5, 6] rfl) hF
        · have hF := ite_n hF c16
          refine lv_ldc2 (v := (-1 : Int64)) hx hb hE.2.2.1 (hE.2.2.2.1 _ kw6_144) dX12_findWorth_203 ?_
          refine lv_goto (tgt := 239) hx hb dX12_findWorth_206 (by decide) ?_
          exact B_X12_findWorth_j239 hE k146 h146 (F_X12_findWorth_l157 k146 nn) ih hD (lv_sub hl [0, 1, 2, 4, 5, 6] rfl) hF
def F_X12_findWorth_l146 : Nat → xS → Int32 → Int32 → Int32 → Int64 → Int32 → Option (Int32 × xS)
  | 0, _, _, _, _, _, _ => none
  | nn + 1, u, y3, y4, y6, y7, y9 => if y9 < 0 then if y6 = 0 ∨ y6 = 1 then some (y6, u) else none else xlet ((1 : Int32) <<< (y9 &&& 31)) (fun x21 => F_X12_findWorth_l157 (F_X12_findWorth_l146 nn) xFuel u y3 y4 y6 y7 y9 x21)
theorem L_X12_findWorth_l146 {p : Program} {l : Launch} {e : Env} {s : State} {m : MethodId} {args : Array Value} {below : List Frame} {meth : Method} {cd : Code} {G : xG} {w0 : xW} {b sz : Nat} {rr : (Int32 × xS)} (hE : xE p s m args meth cd cX12_findWorth RX12 G 13 (Option.some Jvm.ClassFile.FieldType.boolean)) : ∀ (nn : Nat) {u : xS} {y3 : Int32} {y4 : Int32} {y6 : Int32} {y7 : Int64} {y9 : Int32} {H : Heap} {locs : List Loc} {ls : Array Slot}, mD G (xA w0 s.heap.size) s.heap b u sz H locs → lv_has ls 13 [(0, .ref b), (3, .int y3), (4, .int y4), (6, .int y6), (7, .long y7), (9, .int y9)] → F_X12_findWorth_l146 nn u y3 y4 y6 y7 y9 = some rr → W p l e (xR 6 0 0) s m args below meth cd H locs 0 0 (xQi G w0 (fun r z => r = rr.1 ∧ (rr.1 = 0 ∨ rr.1 = 1) ∧ z = ((mW G b rr.2), sz)) below args s 0 0) (F0 m 146 ls []) := by
  have hx := hE.1; have hb := hE.2.1
  intro nn
  induction nn with
  | zero => intro u y3 y4 y6 y7 y9 H locs ls hD hl hF; rw [F_X12_findWorth_l146] at hF; cases hF
  | succ nn ih =>
    intro u y3 y4 y6 y7 y9 H locs ls hD hl hF
    rw [F_X12_findWorth_l146] at hF
    refine lv_iload hx hb dX12_findWorth_146 (lv_at hl 5 rfl) ?_
    refine lv_if_lt (tgt := 305) hx hb dX12_findWorth_148 (by decide) (fun c19 => ?_) (fun c19 => ?_)
    · have hF := ite_p hF c19
      refine lv_iload hx hb dX12_findWorth_305 (lv_at hl 3 rfl) ?_
      obtain ⟨h20, hF⟩ := ite_s hF
      obtain rfl := Option.some.inj hF
      exact x_zret hE hD h20 ⟨rfl, h20, rfl⟩ (by omega) (by omega) dX12_findWorth_307
    · have hF := ite_n hF c19
      refine lv_iconst (v := (1 : Int32)) hx hb dX12_findWorth_151 (by decide) ?_
      refine lv_iload hx hb dX12_findWorth_152 (lv_at hl 5 rfl) ?_
      refine lv_ishl hx hb dX12_findWorth_154 ?_
      refine lv_topi (fun x21 ex21 => ?_)
      have hF := xlet_e hF ex21
      refine lv_istore (lv' := [(10, .int x21), (0, .ref b), (3, .int y3), (4, .int y4), (6, .int y6), (7, .long y7), (9, .int y9)]) hx hb dX12_findWorth_155 hl (by decide) rfl (fun ls hl => ?_)
      exact L_X12_findWorth_l157 hE (F_X12_findWorth_l146 nn) ih _ hD (lv_sub hl [1, 2, 3, 4, 5, 6, 0] rfl) hF
def F_X12_findWorth_j116 (k23 : xS → Int32 → Int32 → Int32 → Int32 → Option (Int32 × xS)) (u : xS) (y3 : Int32) (y4 : Int32) (y5 : Int32) (y6 : Int32) (y7 : Int32) (s1 : Int32) (s2 : Int32) : Option (Int32 × xS) := if xIn s1 32 then xlet (mA u 12 s1.toNatClampNeg s2) (fun u23 => if xIn (((2 : Int32) * y6) + (1 : Int32)) 32 then xlet (mA u23 12 (((2 : Int32) * y6) + (1 : Int32)).toNatClampNeg y7) (fun u25 => xlet (y6 + (1 : Int32)) (fun x26 => k23 u25 y3 y4 y5 x26)) else none) else none
theorem B_X12_findWorth_j116 {p : Program} {l : Launch} {e : Env} {s : State} {m : MethodId} {args : Array Value} {below : List Frame} {meth : Method} {cd : Code} {G : xG} {w0 : xW} {b sz : Nat} {rr : (Int32 × xS)} (hE : xE p s m args meth cd cX12_findWorth RX12 G 13 (Option.some Jvm.ClassFile.FieldType.boolean)) {u : xS} (k23 : xS → Int32 → Int32 → Int32 → Int32 → Option (Int32 × xS)) (h23 : ∀ {u1 : xS} {y3 : Int32} {y4 : Int32} {y5 : Int32} {y6 : Int32} {H : Heap} {locs : List Loc} {ls : Array Slot}, mD G (xA w0 s.heap.size) s.heap b u1 sz H locs → lv_has ls 13 [(0, .ref b), (3, .int y3), (4, .int y4), (5, .int y5), (6, .int y6)] → k23 u1 y3 y4 y5 y6 = some rr → W p l e (xR 6 0 0) s m args below meth cd H locs 0 0 (xQi G w0 (fun r z => r = rr.1 ∧ (rr.1 = 0 ∨ rr.1 = 1) ∧ z = ((mW G b rr.2), sz)) below args s 0 0) (F0 m 23 ls [])) {y3 : Int32} {y4 : Int32} {y5 : Int32} {y6 : Int32} {y7 : Int32} {s1 : Int32} {s2 : Int32} {H : Heap} {locs : List Loc} {ls : Array Slot} (hD : mD G (xA w0 s.heap.size) s.heap b u sz H locs) (hl : lv_has ls 13 [(0, .ref b), (3, .int y3), (4, .int y4), (5, .int y5), (6, .int y6), (7, .int y7)]) (hF : F_X12_findWorth_j116 k23 u y3 y4 y5 y6 y7 s1 s2 = some rr) : W p l e (xR 6 0 0) s m args below meth cd H locs 0 0 (xQi G w0 (fun r z => r = rr.1 ∧ (rr.1 = 0 ∨ rr.1 = 1) ∧ z = ((mW G b rr.2), sz)) below args s 0 0) (F0 m 116 ls [.int s2, .int s1, .ref (b + 8)]) := by
  have hx := hE.1; have hb := hE.2.1
  unfold F_X12_findWorth_j116 at hF
  obtain ⟨h22, hF⟩ := ite_s hF
  refine ma_st_12 hE hD h22 dX12_findWorth_116 (fun u23 H locs eu23 hD => ?_)
  have hF := xlet_e hF eu23
  refine lv_aload_n hx hb dX12_findWorth_117 rfl (lv_at hl 0 rfl) ?_
  refine gf_X12_31 hE hD dX12_findWorth_118 ?_
  refine lv_iconst (v := (2 : Int32)) hx hb dX12_findWorth_121 (by decide) ?_
  refine lv_iload hx hb dX12_findWorth_122 (lv_at hl 4 rfl) ?_
  refine lv_imul hx hb dX12_findWorth_124 ?_
  refine lv_iconst (v := (1 : Int32)) hx hb dX12_findWorth_125 (by decide) ?_
  refine lv_iadd hx hb dX12_findWorth_126 ?_
  refine lv_iload hx hb dX12_findWorth_127 (lv_at hl 5 rfl) ?_
  obtain ⟨h24, hF⟩ := ite_s hF
  refine ma_st_12 hE hD h24 dX12_findWorth_129 (fun u25 H locs eu25 hD => ?_)
  have hF := xlet_e hF eu25
  obtain ⟨x26, ex26⟩ : ∃ y : Int32, y = y6 + (1 : Int32) := ⟨_, rfl⟩
  have hF := xlet_e hF ex26
  refine lv_iinc (v := x26) (lv' := [(6, .int x26), (0, .ref b), (3, .int y3), (4, .int y4), (5, .int y5), (7, .int y7)]) hx hb dX12_findWorth_130 hl (k := 4) rfl (by rw [ex26]; rfl) (by decide) rfl (fun ls hl => ?_)
  refine lv_goto (tgt := 23) hx hb dX12_findWorth_133 (by decide) ?_
  exact h23 hD (lv_sub hl [1, 2, 3, 4, 0] rfl) hF
def F_X12_findWorth_j74 (k23 : xS → Int32 → Int32 → Int32 → Int32 → Option (Int32 × xS)) (u : xS) (y3 : Int32) (y4 : Int32) (y5 : Int32) (y6 : Int32) (s0 : Int32) : Option (Int32 × xS) := if 0 ≤ s0 then if xIn y6 32 then (F_X12_made y5 ((u.2.1 12 y6.toNatClampNeg).toInt64) ((u.1 5) + (1 : Int32)) (u.1 6)).bind (fun r29 => F_X12_findWorth_j116 k23 u y3 y4 y5 y6 s0 ((2 : Int32) * y6) r29) else none else F_X12_findWorth_j116 k23 u y3 y4 y5 y6 s0 ((2 : Int32) * y6) (-1 : Int32)
theorem B_X12_findWorth_j74 {p : Program} {l : Launch} {e : Env} {s : State} {m : MethodId} {args : Array Value} {below : List Frame} {meth : Method} {cd : Code} {G : xG} {w0 : xW} {b sz : Nat} {rr : (Int32 × xS)} (hE : xE p s m args meth cd cX12_findWorth RX12 G 13 (Option.some Jvm.ClassFile.FieldType.boolean)) {u : xS} (k23 : xS → Int32 → Int32 → Int32 → Int32 → Option (Int32 × xS)) (h23 : ∀ {u1 : xS} {y3 : Int32} {y4 : Int32} {y5 : Int32} {y6 : Int32} {H : Heap} {locs : List Loc} {ls : Array Slot}, mD G (xA w0 s.heap.size) s.heap b u1 sz H locs → lv_has ls 13 [(0, .ref b), (3, .int y3), (4, .int y4), (5, .int y5), (6, .int y6)] → k23 u1 y3 y4 y5 y6 = some rr → W p l e (xR 6 0 0) s m args below meth cd H locs 0 0 (xQi G w0 (fun r z => r = rr.1 ∧ (rr.1 = 0 ∨ rr.1 = 1) ∧ z = ((mW G b rr.2), sz)) below args s 0 0) (F0 m 23 ls [])) {y3 : Int32} {y4 : Int32} {y5 : Int32} {y6 : Int32} {s0 : Int32} {H : Heap} {locs : List Loc} {ls : Array Slot} (hD : mD G (xA w0 s.heap.size) s.heap b u sz H locs) (hl : lv_has ls 13 [(0, .ref b), (3, .int y3), (4, .int y4), (5, .int y5), (6, .int y6)]) (hF : F_X12_findWorth_j74 k23 u y3 y4 y5 y6 s0 = some rr) : W p l e (xR 6 0 0) s m args below meth cd H locs 0 0 (xQi G w0 (fun r z => r = rr.1 ∧ (rr.1 = 0 ∨ rr.1 = 1) ∧ z = ((mW G b rr.2), sz)) below args s 0 0) (F0 m 74 ls [.int s0]) := by
  have hx := hE.1; have hb := hE.2.1
  unfold F_X12_findWorth_j74 at hF
  refine lv_istore (lv' := [(7, .int s0), (0, .ref b), (3, .int y3), (4, .int y4), (5, .int y5), (6, .int y6)]) hx hb dX12_findWorth_74 hl (by decide) rfl (fun ls hl => ?_)
  refine lv_aload_n hx hb dX12_findWorth_76 rfl (lv_at hl 1 rfl) ?_
  refine gf_X12_31 hE hD dX12_findWorth_77 ?_
  refine lv_iconst (v := (2 : Int32)) hx hb dX12_findWorth_80 (by decide) ?_
  refine lv_iload hx hb dX12_findWorth_81 (lv_at hl 5 rfl) ?_
  refine lv_imul hx hb dX12_findWorth_83 ?_
  refine lv_iload hx hb dX12_findWorth_84 (lv_at hl 0 rfl) ?_
  refine lv_if_ge (tgt := 93) hx hb dX12_findWorth_86 (by decide) (fun c27 => ?_) (fun c27 => ?_)
  · have hF := ite_p hF c27
    refine lv_iload hx hb dX12_findWorth_93 (lv_at hl 4 rfl) ?_
    refine lv_aload_n hx hb dX12_findWorth_95 rfl (lv_at hl 1 rfl) ?_
    refine gf_X12_31 hE hD dX12_findWorth_96 ?_
    refine lv_iload hx hb dX12_findWorth_99 (lv_at hl 5 rfl) ?_
    obtain ⟨h28, hF⟩ := ite_s hF
    refine ma_ld_12 hE hD h28 dX12_findWorth_101 ?_
    refine lv_i2l (v := (u.2.1 12 y6.toNatClampNeg).toInt64) hx hb dX12_findWorth_102 rfl ?_
    refine lv_aload_n hx hb dX12_findWorth_103 rfl (lv_at hl 1 rfl) ?_
    refine gf_X12_103 hE hD dX12_findWorth_104 ?_
    refine lv_iconst (v := (1 : Int32)) hx hb dX12_findWorth_107 (by decide) ?_
    refine lv_iadd hx hb dX12_findWorth_108 ?_
    refine lv_aload_n hx hb dX12_findWorth_109 rfl (lv_at hl 1 rfl) ?_
    refine gf_X12_107 hE hD dX12_findWorth_110 ?_
    obtain ⟨r29, k30, hF⟩ := xb_s hF
    refine kSi (As := [.int y5, .long ((u.2.1 12 y6.toNatClampNeg).toInt64), .int ((u.1 5) + (1 : Int32)), .int (u.1 6)]) (rest := [.int ((2 : Int32) * y6), .ref (b + 8)]) hE hl hD (c_X12_made k30) kl_X12_127 rfl rfl (Nat.le_of_ble_eq_true rfl) dX12_findWorth_113 ⟨Nat.le_of_ble_eq_true rfl, Nat.le_of_ble_eq_true rfl⟩ ⟨Nat.le_of_ble_eq_true rfl, Nat.le_of_ble_eq_true rfl⟩ (fun H locs (hD : mD G _ _ b u sz H locs) => ?_)
    exact B_X12_findWorth_j116 hE k23 h23 hD (lv_sub hl [1, 2, 3, 4, 5, 0] rfl) hF
  · have hF := ite_n hF c27
    refine lv_iconst (v := (-1 : Int32)) hx hb dX12_findWorth_89 (by decide) ?_
    refine lv_goto (tgt := 116) hx hb dX12_findWorth_90 (by decide) ?_
    exact B_X12_findWorth_j116 hE k23 h23 hD (lv_sub hl [1, 2, 3, 4, 5, 0] rfl) hF
def F_X12_findWorth_j49 (k23 : xS → Int32 → Int32 → Int32 → Int32 → Option (Int32 × xS)) (u : xS) (y3 : Int32) (y4 : Int32) (y5 : Int32) (y6 : Int32) : Option (Int32 × xS) := F_X12_findWorth_j74 k23 u y3 y4 y5 y6 (-1 : Int32)
theorem B_X12_findWorth_j49 {p : Program} {l : Launch} {e : Env} {s : State} {m : MethodId} {args : Array Value} {below : List Frame} {meth : Method} {cd : Code} {G : xG} {w0 : xW} {b sz : Nat} {rr : (Int32 × xS)} (hE : xE p s m args meth cd cX12_findWorth RX12 G 13 (Option.some Jvm.ClassFile.FieldType.boolean)) {u : xS} (k23 : xS → Int32 → Int32 → Int32 → Int32 → Option (Int32 × xS)) (h23 : ∀ {u1 : xS} {y3 : Int32} {y4 : Int32} {y5 : Int32} {y6 : Int32} {H : Heap} {locs : List Loc} {ls : Array Slot}, mD G (xA w0 s.heap.size) s.heap b u1 sz H locs → lv_has ls 13 [(0, .ref b), (3, .int y3), (4, .int y4), (5, .int y5), (6, .int y6)] → k23 u1 y3 y4 y5 y6 = some rr → W p l e (xR 6 0 0) s m args below meth cd H locs 0 0 (xQi G w0 (fun r z => r = rr.1 ∧ (rr.1 = 0 ∨ rr.1 = 1) ∧ z = ((mW G b rr.2), sz)) below args s 0 0) (F0 m 23 ls [])) {y3 : Int32} {y4 : Int32} {y5 : Int32} {y6 : Int32} {H : Heap} {locs : List Loc} {ls : Array Slot} (hD : mD G (xA w0 s.heap.size) s.heap b u sz H locs) (hl : lv_has ls 13 [(0, .ref b), (3, .int y3), (4, .int y4), (5, .int y5), (6, .int y6)]) (hF : F_X12_findWorth_j49 k23 u y3 y4 y5 y6 = some rr) : W p l e (xR 6 0 0) s m args below meth cd H locs 0 0 (xQi G w0 (fun r z => r = rr.1 ∧ (rr.1 = 0 ∨ rr.1 = 1) ∧ z = ((mW G b rr.2), sz)) below args s 0 0) (F0 m 49 ls []) := by
  have hx := hE.1; have hb := hE.2.1
  unfold F_X12_findWorth_j49 at hF
  refine lv_iconst (v := (-1 : Int32)) hx hb dX12_findWorth_49 (by decide) ?_
  refine lv_goto (tgt := 74) hx hb dX12_findWorth_50 (by decide) ?_
  exact B_X12_findWorth_j74 hE k23 h23 hD (lv_sub hl [0, 1, 2, 3, 4] rfl) hF
def F_X12_findWorth_l23 : Nat → xS → Int32 → Int32 → Int32 → Int32 → Option (Int32 × xS)
  | 0, _, _, _, _, _ => none
  | nn + 1, u, y3, y4, y5, y6 => if ((1 : Int32) <<< (y4 &&& 31)) ≤ y6 then F_X12_findWorth_l146 xFuel u y3 y4 (1 : Int32) (1 : Int64) y4 else if xIn y6 32 then if (u.2.1 12 y6.toNatClampNeg) < 0 then F_X12_findWorth_j49 (F_X12_findWorth_l23 nn) u y3 y4 y5 y6 else if (u.1 7) = 0 then F_X12_findWorth_j49 (F_X12_findWorth_l23 nn) u y3 y4 y5 y6 else if xIn y6 32 then (F_X12_made y5 ((u.2.1 12 y6.toNatClampNeg).toInt64) (u.1 5) (u.1 6)).bind (fun r36 => F_X12_findWorth_j74 (F_X12_findWorth_l23 nn) u y3 y4 y5 y6 r36) else none else none
theorem L_X12_findWorth_l23 {p : Program} {l : Launch} {e : Env} {s : State} {m : MethodId} {args : Array Value} {below : List Frame} {meth : Method} {cd : Code} {G : xG} {w0 : xW} {b sz : Nat} {rr : (Int32 × xS)} (hE : xE p s m args meth cd cX12_findWorth RX12 G 13 (Option.some Jvm.ClassFile.FieldType.boolean)) : ∀ (nn : Nat) {u : xS} {y3 : Int32} {y4 : Int32} {y5 : Int32} {y6 : Int32} {H : Heap} {locs : List Loc} {ls : Array Slot}, mD G (xA w0 s.heap.size) s.heap b u sz H locs → lv_has ls 13 [(0, .ref b), (3, .int y3), (4, .int y4), (5, .int y5), (6, .int y6)] → F_X12_findWorth_l23 nn u y3 y4 y5 y6 = some rr → W p l e (xR 6 0 0) s m args below meth cd H locs 0 0 (xQi G w0 (fun r z => r = rr.1 ∧ (rr.1 = 0 ∨ rr.1 = 1) ∧ z = ((mW G b rr.2), sz)) below args s 0 0) (F0 m 23 ls []) := by
  have hx := hE.1; have hb := hE.2.1
  intro nn
  induction nn with
  | zero => intro u y3 y4 y5 y6 H locs ls hD hl hF; rw [F_X12_findWorth_l23] at hF; cases hF
  | succ nn ih =>
    intro u y3 y4 y5 y6 H locs ls hD hl hF
    rw [F_X12_findWorth_l23] at hF
    refine lv_iload hx hb dX12_findWorth_23 (lv_at hl 4 rfl) ?_
    refine lv_iconst (v := (1 : Int32)) hx hb dX12_findWorth_25 (by decide) ?_
    refine lv_iload hx hb dX12_findWorth_26 (lv_at hl 2 rfl) ?_
    refine lv_ishl hx hb dX12_findWorth_28 ?_
    refine lv_icmp_ge (tgt := 136) hx hb dX12_findWorth_29 (by decide) (fun c31 => ?_) (fun c31 => ?_)
    · have hF := ite_p hF c31
      refine lv_iconst (v := (1 : Int32)) hx hb dX12_findWorth_136 (by decide) ?_
      refine lv_istore (lv' := [(6, .int (1 : Int32)), (0, .ref b), (3, .int y3), (4, .int y4), (5, .int y5)]) hx hb dX12_findWorth_137 hl (by decide) rfl (fun ls hl => ?_)
      refine lv_lconst (v := (1 : Int64)) hx hb dX12_findWorth_139 (by decide) ?_
      refine lv_lstore (lv' := [(7, .long (1 : Int64)), (6, .int (1 : Int32)), (0, .ref b), (3, .int y3), (4, .int y4), (5, .int y5)]) hx hb dX12_findWorth_140 hl (by decide) rfl (fun ls hl => ?_)
      refine lv_iload hx hb dX12_findWorth_142 (lv_at hl 4 rfl) ?_
      refine lv_istore (lv' := [(9, .int y4), (7, .long (1 : Int64)), (6, .int (1 : Int32)), (0, .ref b), (3, .int y3), (4, .int y4), (5, .int y5)]) hx hb dX12_findWorth_144 hl (by decide) rfl (fun ls hl => ?_)
      exact L_X12_findWorth_l146 hE _ hD (lv_sub hl [3, 4, 5, 2, 1, 0] rfl) hF
    · have hF := ite_n hF c31
      refine lv_aload_n hx hb dX12_findWorth_32 rfl (lv_at hl 0 rfl) ?_
      refine gf_X12_31 hE hD dX12_findWorth_33 ?_
      refine lv_iload hx hb dX12_findWorth_36 (lv_at hl 4 rfl) ?_
      obtain ⟨h32, hF⟩ := ite_s hF
      refine ma_ld_12 hE hD h32 dX12_findWorth_38 ?_
      refine lv_if_lt (tgt := 49) hx hb dX12_findWorth_39 (by decide) (fun c33 => ?_) (fun c33 => ?_)
      · have hF := ite_p hF c33
        exact B_X12_findWorth_j49 hE (F_X12_findWorth_l23 nn) ih hD (lv_sub hl [0, 1, 2, 3, 4] rfl) hF
      · have hF := ite_n hF c33
        refine lv_aload_n hx hb dX12_findWorth_42 rfl (lv_at hl 0 rfl) ?_
        refine gf_X12_110 hE hD dX12_findWorth_43 ?_
        refine lv_if_ne (tgt := 53) hx hb dX12_findWorth_46 (by decide) (fun c34 => ?_) (fun c34 => ?_)
        · have hF := ite_n hF c34
          refine lv_iload hx hb dX12_findWorth_53 (lv_at hl 3 rfl) ?_
          refine lv_aload_n hx hb dX12_findWorth_55 rfl (lv_at hl 0 rfl) ?_
          refine gf_X12_31 hE hD dX12_findWorth_56 ?_
          refine lv_iload hx hb dX12_findWorth_59 (lv_at hl 4 rfl) ?_
          obtain ⟨h35, hF⟩ := ite_s hF
          refine ma_ld_12 hE hD h35 dX12_findWorth_61 ?_
          refine lv_i2l (v := (u.2.1 12 y6.toNatClampNeg).toInt64) hx hb dX12_findWorth_62 rfl ?_
          refine lv_aload_n hx hb dX12_findWorth_63 rfl (lv_at hl 0 rfl) ?_
          refine gf_X12_103 hE hD dX12_findWorth_64 ?_
          refine lv_aload_n hx hb dX12_findWorth_67 rfl (lv_at hl 0 rfl) ?_
          refine gf_X12_107 hE hD dX12_findWorth_68 ?_
          obtain ⟨r36, k37, hF⟩ := xb_s hF
          refine kSi (As := [.int y5, .long ((u.2.1 12 y6.toNatClampNeg).toInt64), .int (u.1 5), .int (u.1 6)]) (rest := []) hE hl hD (c_X12_made k37) kl_X12_127 rfl rfl (Nat.le_of_ble_eq_true rfl) dX12_findWorth_71 ⟨Nat.le_of_ble_eq_true rfl, Nat.le_of_ble_eq_true rfl⟩ ⟨Nat.le_of_ble_eq_true rfl, Nat.le_of_ble_eq_true rfl⟩ (fun H locs (hD : mD G _ _ b u sz H locs) => ?_)
          exact B_X12_findWorth_j74 hE (F_X12_findWorth_l23 nn) ih hD (lv_sub hl [0, 1, 2, 3, 4] rfl) hF
        · have hF := ite_p hF c34
          exact B_X12_findWorth_j49 hE (F_X12_findWorth_l23 nn) ih hD (lv_sub hl [0, 1, 2, 3, 4] rfl) hF
def F_X12_findWorth (u : xS) (xa : Int32) (xb : Int32) (xc : Int32) (xd : Int32) : Option (Int32 × xS) := (F_X12_asks u xa).bind (fun r38 => (F_X12_its r38 xa (0 : Int32)).bind (fun r40 => if xIn (1 : Int32) 32 then xlet (mA r38 12 (1 : Int32).toNatClampNeg xb) (fun u43 => F_X12_findWorth_l23 xFuel u43 xc xd r40 (1 : Int32)) else none))
theorem c_X12_findWorth {l : Launch} {G : xG} {b sz : Nat} {rr : (Int32 × xS)} {u : xS} {xa : Int32} {xb : Int32} {xc : Int32} {xd : Int32} (hF : F_X12_findWorth u xa xb xc xd = some rr) : xMi l G yX12_findWorth cX12_findWorth 13 (Option.some Jvm.ClassFile.FieldType.boolean) 6 0 0 [.ref b, .int xa, .int xb, .int xc, .int xd] (mW G b u) sz (fun r z => r = rr.1 ∧ (rr.1 = 0 ∨ rr.1 = 1) ∧ z = ((mW G b rr.2), sz)) := by
  unfold F_X12_findWorth at hF
  refine x_startI rfl (Nat.le_of_ble_eq_true rfl) (fun p e s m args below meth cd ls hE hnm hl hD => ?_)
  have hx := hE.1; have hb := hE.2.1
  have hl : lv_has ls 13 [(0, .ref b), (1, .int xa), (2, .int xb), (3, .int xc), (4, .int xd)] := hl
  have hD : mD G (xA (mW G b u) s.heap.size) s.heap b u sz s.heap [] := hD
  refine lv_aload_n hx hb dX12_findWorth_0 rfl (lv_at hl 0 rfl) ?_
  refine lv_iload_n hx hb dX12_findWorth_1 rfl (lv_at hl 1 rfl) ?_
  obtain ⟨r38, k39, hF⟩ := xb_s hF
  refine kVv (As := [.int xa]) (rest := []) hE hl hD (c_X12_asks (b := b) k39) kl_X12_118 (mW_0 _ _ _) rfl rfl rfl rfl (Nat.le_of_ble_eq_true rfl) dX12_findWorth_2 ⟨Nat.le_of_ble_eq_true rfl, Nat.le_of_ble_eq_true rfl⟩ ⟨Nat.le_of_ble_eq_true rfl, Nat.le_of_ble_eq_true rfl⟩ (fun H locs (hD : mD G _ _ b r38 sz H locs) => ?_)
  refine lv_aload_n hx hb dX12_findWorth_5 rfl (lv_at hl 0 rfl) ?_
  refine lv_iload_n hx hb dX12_findWorth_6 rfl (lv_at hl 1 rfl) ?_
  refine lv_iconst (v := (0 : Int32)) hx hb dX12_findWorth_7 (by decide) ?_
  obtain ⟨r40, k41, hF⟩ := xb_s hF
  refine kVi (As := [.int xa, .int (0 : Int32)]) (rest := []) hE hl hD (c_X12_its (b := b) k41) kl_X12_87 (mW_0 _ _ _) rfl rfl rfl rfl (Nat.le_of_ble_eq_true rfl) dX12_findWorth_8 ⟨Nat.le_of_ble_eq_true rfl, Nat.le_of_ble_eq_true rfl⟩ ⟨Nat.le_of_ble_eq_true rfl, Nat.le_of_ble_eq_true rfl⟩ (fun H locs (hD : mD G _ _ b r38 sz H locs) => ?_)
  refine lv_istore (lv' := [(5, .int r40), (0, .ref b), (1, .int xa), (2, .int xb), (3, .int xc), (4, .int xd)]) hx hb dX12_findWorth_11 hl (by decide) rfl (fun ls hl => ?_)
  refine lv_aload_n hx hb dX12_findWorth_13 rfl (lv_at hl 1 rfl) ?_
  refine gf_X12_31 hE hD dX12_findWorth_14 ?_
  refine lv_iconst (v := (1 : Int32)) hx hb dX12_findWorth_17 (by decide) ?_
  refine lv_iload_n hx hb dX12_findWorth_18 rfl (lv_at hl 3 rfl) ?_
  obtain ⟨h42, hF⟩ := ite_s hF
  refine ma_st_12 hE hD h42 dX12_findWorth_19 (fun u43 H locs eu43 hD => ?_)
  have hF := xlet_e hF eu43
  refine lv_iconst (v := (1 : Int32)) hx hb dX12_findWorth_20 (by decide) ?_
  refine lv_istore (lv' := [(6, .int (1 : Int32)), (5, .int r40), (0, .ref b), (1, .int xa), (2, .int xb), (3, .int xc), (4, .int xd)]) hx hb dX12_findWorth_21 hl (by decide) rfl (fun ls hl => ?_)
  exact L_X12_findWorth_l23 hE _ hD (lv_sub hl [2, 5, 6, 1, 0] rfl) hF
def F_X12_isLuck_j50 (u : xS) (s0 : Int32) : Option Int32 := if s0 = 0 ∨ s0 = 1 then some s0 else none
theorem B_X12_isLuck_j50 {p : Program} {l : Launch} {e : Env} {s : State} {m : MethodId} {args : Array Value} {below : List Frame} {meth : Method} {cd : Code} {G : xG} {w0 : xW} {b sz : Nat} {rr : Int32} (hE : xE p s m args meth cd cX12_isLuck RX12 G 5 (Option.some Jvm.ClassFile.FieldType.boolean)) {u : xS} {s0 : Int32} {H : Heap} {locs : List Loc} {ls : Array Slot} (hD : mD G (xA w0 s.heap.size) s.heap b u sz H locs) (hl : lv_has ls 5 [(0, .ref b)]) (hF : F_X12_isLuck_j50 u s0 = some rr) : W p l e (xR 3 0 0) s m args below meth cd H locs 0 0 (xQi G w0 (fun r z => r = rr ∧ (rr = 0 ∨ rr = 1) ∧ z = ((mW G b u), sz)) below args s 0 0) (F0 m 50 ls [.int s0]) := by
  have hx := hE.1; have hb := hE.2.1
  unfold F_X12_isLuck_j50 at hF
  obtain ⟨h1, hF⟩ := ite_s hF
  obtain rfl := Option.some.inj hF
  exact x_zret hE hD h1 ⟨rfl, h1, rfl⟩ (by omega) (by omega) dX12_isLuck_50
def F_X12_isLuck_j49 (u : xS)  : Option Int32 := F_X12_isLuck_j50 u (0 : Int32)
theorem B_X12_isLuck_j49 {p : Program} {l : Launch} {e : Env} {s : State} {m : MethodId} {args : Array Value} {below : List Frame} {meth : Method} {cd : Code} {G : xG} {w0 : xW} {b sz : Nat} {rr : Int32} (hE : xE p s m args meth cd cX12_isLuck RX12 G 5 (Option.some Jvm.ClassFile.FieldType.boolean)) {u : xS}  {H : Heap} {locs : List Loc} {ls : Array Slot} (hD : mD G (xA w0 s.heap.size) s.heap b u sz H locs) (hl : lv_has ls 5 [(0, .ref b)]) (hF : F_X12_isLuck_j49 u  = some rr) : W p l e (xR 3 0 0) s m args below meth cd H locs 0 0 (xQi G w0 (fun r z => r = rr ∧ (rr = 0 ∨ rr = 1) ∧ z = ((mW G b u), sz)) below args s 0 0) (F0 m 49 ls []) := by
  have hx := hE.1; have hb := hE.2.1
  unfold F_X12_isLuck_j49 at hF
  refine lv_iconst (v := (0 : Int32)) hx hb dX12_isLuck_49 (by decide) ?_
  exact B_X12_isLuck_j50 hE hD (lv_sub hl [0] rfl) hF
def F_X12_isLuck (u : xS) (xa : Int32) (xb : Int32) (xc : Int32) (xd : Int32) : Option Int32 := (F_X12_isBridge u xa).bind (fun r2 => if r2 = 0 then F_X12_isLuck_j49 u else (F_X12_in xb.toInt64 (0 : Int64) (9999 : Int64)).bind (fun r6 => if r6 = 0 then F_X12_isLuck_j49 u else (F_X12_in xc.toInt64 (0 : Int64) (100 : Int64)).bind (fun r10 => if r10 = 0 then F_X12_isLuck_j49 u else (F_X12_in xd.toInt64 (0 : Int64) (4 : Int64)).bind (fun r14 => if r14 = 0 then F_X12_isLuck_j49 u else F_X12_isLuck_j50 u (1 : Int32)))))
theorem c_X12_isLuck {l : Launch} {G : xG} {b sz : Nat} {rr : Int32} {u : xS} {xa : Int32} {xb : Int32} {xc : Int32} {xd : Int32} (hF : F_X12_isLuck u xa xb xc xd = some rr) : xMi l G yX12_isLuck cX12_isLuck 5 (Option.some Jvm.ClassFile.FieldType.boolean) 3 0 0 [.ref b, .int xa, .int xb, .int xc, .int xd] (mW G b u) sz (fun r z => r = rr ∧ (rr = 0 ∨ rr = 1) ∧ z = ((mW G b u), sz)) := by
  unfold F_X12_isLuck at hF
  refine x_startI rfl (Nat.le_of_ble_eq_true rfl) (fun p e s m args below meth cd ls hE hnm hl hD => ?_)
  have hx := hE.1; have hb := hE.2.1
  have hl : lv_has ls 5 [(0, .ref b), (1, .int xa), (2, .int xb), (3, .int xc), (4, .int xd)] := hl
  have hD : mD G (xA (mW G b u) s.heap.size) s.heap b u sz s.heap [] := hD
  refine lv_aload_n hx hb dX12_isLuck_0 rfl (lv_at hl 0 rfl) ?_
  refine lv_iload_n hx hb dX12_isLuck_1 rfl (lv_at hl 1 rfl) ?_
  obtain ⟨r2, k3, hF⟩ := xb_s hF
  refine kVz (As := [.int xa]) (rest := []) hE hl hD (c_X12_isBridge (b := b) k3) kl_X12_114 (mW_0 _ _ _) rfl rfl rfl rfl (Nat.le_of_ble_eq_true rfl) dX12_isLuck_2 ⟨Nat.le_of_ble_eq_true rfl, Nat.le_of_ble_eq_true rfl⟩ ⟨Nat.le_of_ble_eq_true rfl, Nat.le_of_ble_eq_true rfl⟩ (fun H locs z4 (hD : mD G _ _ b u sz H locs) => ?_)
  refine lv_if_eq (tgt := 49) hx hb dX12_isLuck_5 (by decide) (fun c5 => ?_) (fun c5 => ?_)
  · have hF := ite_p hF c5
    exact B_X12_isLuck_j49 hE hD (lv_sub hl [0] rfl) hF
  · have hF := ite_n hF c5
    refine lv_iload_n hx hb dX12_isLuck_8 rfl (lv_at hl 2 rfl) ?_
    refine lv_i2l (v := xb.toInt64) hx hb dX12_isLuck_9 rfl ?_
    refine lv_lconst (v := (0 : Int64)) hx hb dX12_isLuck_10 (by decide) ?_
    refine lv_ldc2 (v := (9999 : Int64)) hx hb hE.2.2.1 (hE.2.2.2.1 _ kw7_26) dX12_isLuck_11 ?_
    obtain ⟨r6, k7, hF⟩ := xb_s hF
    refine kSz (As := [.long xb.toInt64, .long (0 : Int64), .long (9999 : Int64)]) (rest := []) hE hl hD (c_X12_in k7) kl_X12_67 rfl rfl (Nat.le_of_ble_eq_true rfl) dX12_isLuck_14 ⟨Nat.le_of_ble_eq_true rfl, Nat.le_of_ble_eq_true rfl⟩ ⟨Nat.le_of_ble_eq_true rfl, Nat.le_of_ble_eq_true rfl⟩ (fun H locs z8 (hD : mD G _ _ b u sz H locs) => ?_)
    refine lv_if_eq (tgt := 49) hx hb dX12_isLuck_17 (by decide) (fun c9 => ?_) (fun c9 => ?_)
    · have hF := ite_p hF c9
      exact B_X12_isLuck_j49 hE hD (lv_sub hl [0] rfl) hF
    · have hF := ite_n hF c9
      refine lv_iload_n hx hb dX12_isLuck_20 rfl (lv_at hl 3 rfl) ?_
      refine lv_i2l (v := xc.toInt64) hx hb dX12_isLuck_21 rfl ?_
      refine lv_lconst (v := (0 : Int64)) hx hb dX12_isLuck_22 (by decide) ?_
      refine lv_ldc2 (v := (100 : Int64)) hx hb hE.2.2.1 (hE.2.2.2.1 _ kw7_17) dX12_isLuck_23 ?_
      obtain ⟨r10, k11, hF⟩ := xb_s hF
      refine kSz (As := [.long xc.toInt64, .long (0 : Int64), .long (100 : Int64)]) (rest := []) hE hl hD (c_X12_in k11) kl_X12_67 rfl rfl (Nat.le_of_ble_eq_true rfl) dX12_isLuck_26 ⟨Nat.le_of_ble_eq_true rfl, Nat.le_of_ble_eq_true rfl⟩ ⟨Nat.le_of_ble_eq_true rfl, Nat.le_of_ble_eq_true rfl⟩ (fun H locs z12 (hD : mD G _ _ b u sz H locs) => ?_)
      refine lv_if_eq (tgt := 49) hx hb dX12_isLuck_29 (by decide) (fun c13 => ?_) (fun c13 => ?_)
      · have hF := ite_p hF c13
        exact B_X12_isLuck_j49 hE hD (lv_sub hl [0] rfl) hF
      · have hF := ite_n hF c13
        refine lv_iload hx hb dX12_isLuck_32 (lv_at hl 4 rfl) ?_
        refine lv_i2l (v := xd.toInt64) hx hb dX12_isLuck_34 rfl ?_
        refine lv_lconst (v := (0 : Int64)) hx hb dX12_isLuck_35 (by decide) ?_
        refine lv_ldc2 (v := (4 : Int64)) hx hb hE.2.2.1 (hE.2.2.2.1 _ kw7_27) dX12_isLuck_36 ?_
        obtain ⟨r14, k15, hF⟩ := xb_s hF
        refine kSz (As := [.long xd.toInt64, .long (0 : Int64), .long (4 : Int64)]) (rest := []) hE hl hD (c_X12_in k15) kl_X12_67 rfl rfl (Nat.le_of_ble_eq_true rfl) dX12_isLuck_39 ⟨Nat.le_of_ble_eq_true rfl, Nat.le_of_ble_eq_true rfl⟩ ⟨Nat.le_of_ble_eq_true rfl, Nat.le_of_ble_eq_true rfl⟩ (fun H locs z16 (hD : mD G _ _ b u sz H locs) => ?_)
        refine lv_if_eq (tgt := 49) hx hb dX12_isLuck_42 (by decide) (fun c17 => ?_) (fun c17 => ?_)
        · have hF := ite_p hF c17
          exact B_X12_isLuck_j49 hE hD (lv_sub hl [0] rfl) hF
        · have hF := ite_n hF c17
          refine lv_iconst (v := (1 : Int32)) hx hb dX12_isLuck_45 (by decide) ?_
          refine lv_goto (tgt := 50) hx hb dX12_isLuck_46 (by decide) ?_
          exact B_X12_isLuck_j50 hE hD (lv_sub hl [0] rfl) hF
def F_X12_worth (u : xS) (xa : Int32) (xb : Int32) (xc : Int32) (xd : Int32) : Option (Int64 × xS) := (F_X12_isLuck u xa xb xc xd).bind (fun r1 => if r1 = 0 then some ((-1 : Int64), u) else (F_X12_findWorth u xa xb xc xd).bind (fun r5 => if xIn (1 : Int32) 32 then some (r5.2.2.2 (1 : Int32).toNatClampNeg, r5.2) else none))
theorem c_X12_worth {l : Launch} {G : xG} {b sz : Nat} {rr : (Int64 × xS)} {u : xS} {xa : Int32} {xb : Int32} {xc : Int32} {xd : Int32} (hF : F_X12_worth u xa xb xc xd = some rr) : xMl l G yX12_worth cX12_worth 6 (Option.some Jvm.ClassFile.FieldType.long) 7 0 0 [.ref b, .int xa, .int xb, .int xc, .int xd] (mW G b u) sz (fun r z => r = rr.1 ∧ z = ((mW G b rr.2), sz)) := by
  unfold F_X12_worth at hF
  refine x_startL rfl (Nat.le_of_ble_eq_true rfl) (fun p e s m args below meth cd ls hE hnm hl hD => ?_)
  have hx := hE.1; have hb := hE.2.1
  have hl : lv_has ls 6 [(0, .ref b), (1, .int xa), (2, .int xb), (3, .int xc), (4, .int xd)] := hl
  have hD : mD G (xA (mW G b u) s.heap.size) s.heap b u sz s.heap [] := hD
  refine lv_aload_n hx hb dX12_worth_0 rfl (lv_at hl 0 rfl) ?_
  refine lv_iload_n hx hb dX12_worth_1 rfl (lv_at hl 1 rfl) ?_
  refine lv_iload_n hx hb dX12_worth_2 rfl (lv_at hl 2 rfl) ?_
  refine lv_iload_n hx hb dX12_worth_3 rfl (lv_at hl 3 rfl) ?_
  refine lv_iload hx hb dX12_worth_4 (lv_at hl 4 rfl) ?_
  obtain ⟨r1, k2, hF⟩ := xb_s hF
  refine kVz (As := [.int xa, .int xb, .int xc, .int xd]) (rest := []) hE hl hD (c_X12_isLuck (b := b) k2) kl_X12_203 (mW_0 _ _ _) rfl rfl rfl rfl (Nat.le_of_ble_eq_true rfl) dX12_worth_6 ⟨Nat.le_of_ble_eq_true rfl, Nat.le_of_ble_eq_true rfl⟩ ⟨Nat.le_of_ble_eq_true rfl, Nat.le_of_ble_eq_true rfl⟩ (fun H locs z3 (hD : mD G _ _ b u sz H locs) => ?_)
  refine lv_if_ne (tgt := 16) hx hb dX12_worth_9 (by decide) (fun c4 => ?_) (fun c4 => ?_)
  · have hF := ite_n hF c4
    refine lv_aload_n hx hb dX12_worth_16 rfl (lv_at hl 0 rfl) ?_
    refine lv_iload_n hx hb dX12_worth_17 rfl (lv_at hl 1 rfl) ?_
    refine lv_iload_n hx hb dX12_worth_18 rfl (lv_at hl 2 rfl) ?_
    refine lv_iload_n hx hb dX12_worth_19 rfl (lv_at hl 3 rfl) ?_
    refine lv_iload hx hb dX12_worth_20 (lv_at hl 4 rfl) ?_
    obtain ⟨r5, k6, hF⟩ := xb_s hF
    refine kVz (As := [.int xa, .int xb, .int xc, .int xd]) (rest := []) hE hl hD (c_X12_findWorth (b := b) k6) kl_X12_207 (mW_0 _ _ _) rfl rfl rfl rfl (Nat.le_of_ble_eq_true rfl) dX12_worth_22 ⟨Nat.le_of_ble_eq_true rfl, Nat.le_of_ble_eq_true rfl⟩ ⟨Nat.le_of_ble_eq_true rfl, Nat.le_of_ble_eq_true rfl⟩ (fun H locs z7 (hD : mD G _ _ b r5.2 sz H locs) => ?_)
    refine lv_istore (lv' := [(5, .int r5.1), (0, .ref b), (1, .int xa), (2, .int xb), (3, .int xc), (4, .int xd)]) hx hb dX12_worth_25 hl (by decide) rfl (fun ls hl => ?_)
    refine lv_aload_n hx hb dX12_worth_27 rfl (lv_at hl 1 rfl) ?_
    refine gf_X12_34 hE hD dX12_worth_28 ?_
    refine lv_iconst (v := (1 : Int32)) hx hb dX12_worth_31 (by decide) ?_
    obtain ⟨h8, hF⟩ := ite_s hF
    refine ml_ld hE hD h8 dX12_worth_32 ?_
    obtain rfl := Option.some.inj hF
    exact x_lret hE hD ⟨rfl, rfl⟩ (by omega) (by omega) dX12_worth_33
  · have hF := ite_p hF c4
    refine lv_ldc2 (v := (-1 : Int64)) hx hb hE.2.2.1 (hE.2.2.2.1 _ kw6_144) dX12_worth_12 ?_
    obtain rfl := Option.some.inj hF
    exact x_lret hE hD ⟨rfl, rfl⟩ (by omega) (by omega) dX12_worth_15
def F_X12_stops_j31 (u : xS) (s0 : Int32) : Option (Int32 × xS) := some (s0, u)
theorem B_X12_stops_j31 {p : Program} {l : Launch} {e : Env} {s : State} {m : MethodId} {args : Array Value} {below : List Frame} {meth : Method} {cd : Code} {G : xG} {w0 : xW} {b sz : Nat} {rr : (Int32 × xS)} (hE : xE p s m args meth cd cX12_stops RX12 G 5 (Option.some Jvm.ClassFile.FieldType.int)) {u : xS} {s0 : Int32} {H : Heap} {locs : List Loc} {ls : Array Slot} (hD : mD G (xA w0 s.heap.size) s.heap b u sz H locs) (hl : lv_has ls 5 [(0, .ref b)]) (hF : F_X12_stops_j31 u s0 = some rr) : W p l e (xR 7 0 0) s m args below meth cd H locs 0 0 (xQi G w0 (fun r z => r = rr.1 ∧ z = ((mW G b rr.2), sz)) below args s 0 0) (F0 m 31 ls [.int s0]) := by
  have hx := hE.1; have hb := hE.2.1
  unfold F_X12_stops_j31 at hF
  obtain rfl := Option.some.inj hF
  exact x_iret hE hD ⟨rfl, rfl⟩ (by omega) (by omega) dX12_stops_31
def F_X12_stops (u : xS) (xa : Int32) (xb : Int32) (xc : Int32) (xd : Int32) : Option (Int32 × xS) := (F_X12_isLuck u xa xb xc xd).bind (fun r1 => if r1 = 0 then some ((-1 : Int32), u) else (F_X12_findWorth u xa xb xc xd).bind (fun r5 => if r5.1 = 0 then F_X12_stops_j31 r5.2 (0 : Int32) else F_X12_stops_j31 r5.2 (1 : Int32)))
theorem c_X12_stops {l : Launch} {G : xG} {b sz : Nat} {rr : (Int32 × xS)} {u : xS} {xa : Int32} {xb : Int32} {xc : Int32} {xd : Int32} (hF : F_X12_stops u xa xb xc xd = some rr) : xMi l G yX12_stops cX12_stops 5 (Option.some Jvm.ClassFile.FieldType.int) 7 0 0 [.ref b, .int xa, .int xb, .int xc, .int xd] (mW G b u) sz (fun r z => r = rr.1 ∧ z = ((mW G b rr.2), sz)) := by
  unfold F_X12_stops at hF
  refine x_startI rfl (Nat.le_of_ble_eq_true rfl) (fun p e s m args below meth cd ls hE hnm hl hD => ?_)
  have hx := hE.1; have hb := hE.2.1
  have hl : lv_has ls 5 [(0, .ref b), (1, .int xa), (2, .int xb), (3, .int xc), (4, .int xd)] := hl
  have hD : mD G (xA (mW G b u) s.heap.size) s.heap b u sz s.heap [] := hD
  refine lv_aload_n hx hb dX12_stops_0 rfl (lv_at hl 0 rfl) ?_
  refine lv_iload_n hx hb dX12_stops_1 rfl (lv_at hl 1 rfl) ?_
  refine lv_iload_n hx hb dX12_stops_2 rfl (lv_at hl 2 rfl) ?_
  refine lv_iload_n hx hb dX12_stops_3 rfl (lv_at hl 3 rfl) ?_
  refine lv_iload hx hb dX12_stops_4 (lv_at hl 4 rfl) ?_
  obtain ⟨r1, k2, hF⟩ := xb_s hF
  refine kVz (As := [.int xa, .int xb, .int xc, .int xd]) (rest := []) hE hl hD (c_X12_isLuck (b := b) k2) kl_X12_203 (mW_0 _ _ _) rfl rfl rfl rfl (Nat.le_of_ble_eq_true rfl) dX12_stops_6 ⟨Nat.le_of_ble_eq_true rfl, Nat.le_of_ble_eq_true rfl⟩ ⟨Nat.le_of_ble_eq_true rfl, Nat.le_of_ble_eq_true rfl⟩ (fun H locs z3 (hD : mD G _ _ b u sz H locs) => ?_)
  refine lv_if_ne (tgt := 14) hx hb dX12_stops_9 (by decide) (fun c4 => ?_) (fun c4 => ?_)
  · have hF := ite_n hF c4
    refine lv_aload_n hx hb dX12_stops_14 rfl (lv_at hl 0 rfl) ?_
    refine lv_iload_n hx hb dX12_stops_15 rfl (lv_at hl 1 rfl) ?_
    refine lv_iload_n hx hb dX12_stops_16 rfl (lv_at hl 2 rfl) ?_
    refine lv_iload_n hx hb dX12_stops_17 rfl (lv_at hl 3 rfl) ?_
    refine lv_iload hx hb dX12_stops_18 (lv_at hl 4 rfl) ?_
    obtain ⟨r5, k6, hF⟩ := xb_s hF
    refine kVz (As := [.int xa, .int xb, .int xc, .int xd]) (rest := []) hE hl hD (c_X12_findWorth (b := b) k6) kl_X12_207 (mW_0 _ _ _) rfl rfl rfl rfl (Nat.le_of_ble_eq_true rfl) dX12_stops_20 ⟨Nat.le_of_ble_eq_true rfl, Nat.le_of_ble_eq_true rfl⟩ ⟨Nat.le_of_ble_eq_true rfl, Nat.le_of_ble_eq_true rfl⟩ (fun H locs z7 (hD : mD G _ _ b r5.2 sz H locs) => ?_)
    refine lv_if_eq (tgt := 30) hx hb dX12_stops_23 (by decide) (fun c8 => ?_) (fun c8 => ?_)
    · have hF := ite_p hF c8
      refine lv_iconst (v := (0 : Int32)) hx hb dX12_stops_30 (by decide) ?_
      exact B_X12_stops_j31 hE hD (lv_sub hl [0] rfl) hF
    · have hF := ite_n hF c8
      refine lv_iconst (v := (1 : Int32)) hx hb dX12_stops_26 (by decide) ?_
      refine lv_goto (tgt := 31) hx hb dX12_stops_27 (by decide) ?_
      exact B_X12_stops_j31 hE hD (lv_sub hl [0] rfl) hF
  · have hF := ite_p hF c4
    refine lv_iconst (v := (-1 : Int32)) hx hb dX12_stops_12 (by decide) ?_
    obtain rfl := Option.some.inj hF
    exact x_iret hE hD ⟨rfl, rfl⟩ (by omega) (by omega) dX12_stops_13
def F_X12_meet_j163 (u : xS) (s0 : Int32) : Option (Int32 × xS) := some (s0, u)
theorem B_X12_meet_j163 {p : Program} {l : Launch} {e : Env} {s : State} {m : MethodId} {args : Array Value} {below : List Frame} {meth : Method} {cd : Code} {G : xG} {w0 : xW} {b sz : Nat} {rr : (Int32 × xS)} (hE : xE p s m args meth cd cX12_meet RX12 G 9 (Option.some Jvm.ClassFile.FieldType.int)) {u : xS} {s0 : Int32} {H : Heap} {locs : List Loc} {ls : Array Slot} (hD : mD G (xA w0 s.heap.size) s.heap b u sz H locs) (hl : lv_has ls 9 [(0, .ref b)]) (hF : F_X12_meet_j163 u s0 = some rr) : W p l e (xR 7 0 0) s m args below meth cd H locs 0 0 (xQi G w0 (fun r z => r = rr.1 ∧ z = ((mW G b rr.2), sz)) below args s 0 0) (F0 m 163 ls [.int s0]) := by
  have hx := hE.1; have hb := hE.2.1
  unfold F_X12_meet_j163 at hF
  obtain rfl := Option.some.inj hF
  exact x_iret hE hD ⟨rfl, rfl⟩ (by omega) (by omega) dX12_meet_163
def F_X12_meet_j156 (u : xS)  : Option (Int32 × xS) := F_X12_meet_j163 u (-3 : Int32)
theorem B_X12_meet_j156 {p : Program} {l : Launch} {e : Env} {s : State} {m : MethodId} {args : Array Value} {below : List Frame} {meth : Method} {cd : Code} {G : xG} {w0 : xW} {b sz : Nat} {rr : (Int32 × xS)} (hE : xE p s m args meth cd cX12_meet RX12 G 9 (Option.some Jvm.ClassFile.FieldType.int)) {u : xS}  {H : Heap} {locs : List Loc} {ls : Array Slot} (hD : mD G (xA w0 s.heap.size) s.heap b u sz H locs) (hl : lv_has ls 9 [(0, .ref b)]) (hF : F_X12_meet_j156 u  = some rr) : W p l e (xR 7 0 0) s m args below meth cd H locs 0 0 (xQi G w0 (fun r z => r = rr.1 ∧ z = ((mW G b rr.2), sz)) below args s 0 0) (F0 m 156 ls []) := by
  have hx := hE.1; have hb := hE.2.1
  unfold F_X12_meet_j156 at hF
  refine lv_bipush (v := (-3 : Int32)) hx hb dX12_meet_156 (by decide) ?_
  refine lv_goto (tgt := 163) hx hb dX12_meet_158 (by decide) ?_
  exact B_X12_meet_j163 hE hD (lv_sub hl [0] rfl) hF
def F_X12_meet_j139 (u : xS) (y5 : Int32) (y6 : Int32) (y8 : Int32) : Option (Int32 × xS) := if (60 : Int32) < y8 then F_X12_meet_j156 u else if y5 < 0 then F_X12_meet_j156 u else if 0 ≤ y6 then F_X12_meet_j163 u y8 else F_X12_meet_j156 u
theorem B_X12_meet_j139 {p : Program} {l : Launch} {e : Env} {s : State} {m : MethodId} {args : Array Value} {below : List Frame} {meth : Method} {cd : Code} {G : xG} {w0 : xW} {b sz : Nat} {rr : (Int32 × xS)} (hE : xE p s m args meth cd cX12_meet RX12 G 9 (Option.some Jvm.ClassFile.FieldType.int)) {u : xS} {y5 : Int32} {y6 : Int32} {y8 : Int32} {H : Heap} {locs : List Loc} {ls : Array Slot} (hD : mD G (xA w0 s.heap.size) s.heap b u sz H locs) (hl : lv_has ls 9 [(0, .ref b), (5, .int y5), (6, .int y6), (8, .int y8)]) (hF : F_X12_meet_j139 u y5 y6 y8 = some rr) : W p l e (xR 7 0 0) s m args below meth cd H locs 0 0 (xQi G w0 (fun r z => r = rr.1 ∧ z = ((mW G b rr.2), sz)) below args s 0 0) (F0 m 139 ls []) := by
  have hx := hE.1; have hb := hE.2.1
  unfold F_X12_meet_j139 at hF
  refine lv_iload hx hb dX12_meet_139 (lv_at hl 3 rfl) ?_
  refine lv_bipush (v := (60 : Int32)) hx hb dX12_meet_141 (by decide) ?_
  refine lv_icmp_gt (tgt := 156) hx hb dX12_meet_143 (by decide) (fun c1 => ?_) (fun c1 => ?_)
  · have hF := ite_p hF c1
    exact B_X12_meet_j156 hE hD (lv_sub hl [0] rfl) hF
  · have hF := ite_n hF c1
    refine lv_iload hx hb dX12_meet_146 (lv_at hl 1 rfl) ?_
    refine lv_if_lt (tgt := 156) hx hb dX12_meet_148 (by decide) (fun c2 => ?_) (fun c2 => ?_)
    · have hF := ite_p hF c2
      exact B_X12_meet_j156 hE hD (lv_sub hl [0] rfl) hF
    · have hF := ite_n hF c2
      refine lv_iload hx hb dX12_meet_151 (lv_at hl 2 rfl) ?_
      refine lv_if_ge (tgt := 161) hx hb dX12_meet_153 (by decide) (fun c3 => ?_) (fun c3 => ?_)
      · have hF := ite_p hF c3
        refine lv_iload hx hb dX12_meet_161 (lv_at hl 3 rfl) ?_
        exact B_X12_meet_j163 hE hD (lv_sub hl [0] rfl) hF
      · have hF := ite_n hF c3
        exact B_X12_meet_j156 hE hD (lv_sub hl [0] rfl) hF
def F_X12_meet_j112 (k73 : xS → Int32 → Int32 → Int32 → Int32 → Int32 → Int32 → Option (Int32 × xS)) (u : xS) (y3 : Int32) (y4 : Int32) (y5 : Int32) (y6 : Int32) (y7 : Int32) (y8 : Int32) : Option (Int32 × xS) := (F_X12_becomes u y3 y5.toInt64).bind (fun r4 => (F_X12_becomes r4.2 y4 y6.toInt64).bind (fun r6 => xlet (y8 + (1 : Int32)) (fun x8 => k73 r6.2 y3 y4 r4.1 r6.1 y7 x8)))
theorem B_X12_meet_j112 {p : Program} {l : Launch} {e : Env} {s : State} {m : MethodId} {args : Array Value} {below : List Frame} {meth : Method} {cd : Code} {G : xG} {w0 : xW} {b sz : Nat} {rr : (Int32 × xS)} (hE : xE p s m args meth cd cX12_meet RX12 G 9 (Option.some Jvm.ClassFile.FieldType.int)) {u : xS} (k73 : xS → Int32 → Int32 → Int32 → Int32 → Int32 → Int32 → Option (Int32 × xS)) (h73 : ∀ {u1 : xS} {y3 : Int32} {y4 : Int32} {y5 : Int32} {y6 : Int32} {y7 : Int32} {y8 : Int32} {H : Heap} {locs : List Loc} {ls : Array Slot}, mD G (xA w0 s.heap.size) s.heap b u1 sz H locs → lv_has ls 9 [(0, .ref b), (3, .int y3), (4, .int y4), (5, .int y5), (6, .int y6), (7, .int y7), (8, .int y8)] → k73 u1 y3 y4 y5 y6 y7 y8 = some rr → W p l e (xR 7 0 0) s m args below meth cd H locs 0 0 (xQi G w0 (fun r z => r = rr.1 ∧ z = ((mW G b rr.2), sz)) below args s 0 0) (F0 m 73 ls [])) {y3 : Int32} {y4 : Int32} {y5 : Int32} {y6 : Int32} {y7 : Int32} {y8 : Int32} {H : Heap} {locs : List Loc} {ls : Array Slot} (hD : mD G (xA w0 s.heap.size) s.heap b u sz H locs) (hl : lv_has ls 9 [(0, .ref b), (3, .int y3), (4, .int y4), (5, .int y5), (6, .int y6), (7, .int y7), (8, .int y8)]) (hF : F_X12_meet_j112 k73 u y3 y4 y5 y6 y7 y8 = some rr) : W p l e (xR 7 0 0) s m args below meth cd H locs 0 0 (xQi G w0 (fun r z => r = rr.1 ∧ z = ((mW G b rr.2), sz)) below args s 0 0) (F0 m 112 ls []) := by
  have hx := hE.1; have hb := hE.2.1
  unfold F_X12_meet_j112 at hF
  refine lv_aload_n hx hb dX12_meet_112 rfl (lv_at hl 0 rfl) ?_
  refine lv_iload_n hx hb dX12_meet_113 rfl (lv_at hl 1 rfl) ?_
  refine lv_iload hx hb dX12_meet_114 (lv_at hl 3 rfl) ?_
  refine lv_i2l (v := y5.toInt64) hx hb dX12_meet_116 rfl ?_
  obtain ⟨r4, k5, hF⟩ := xb_s hF
  refine kVi (As := [.int y3, .long y5.toInt64]) (rest := []) hE hl hD (c_X12_becomes (b := b) k5) kl_X12_144 (mW_0 _ _ _) rfl rfl rfl rfl (Nat.le_of_ble_eq_true rfl) dX12_meet_117 ⟨Nat.le_of_ble_eq_true rfl, Nat.le_of_ble_eq_true rfl⟩ ⟨Nat.le_of_ble_eq_true rfl, Nat.le_of_ble_eq_true rfl⟩ (fun H locs (hD : mD G _ _ b r4.2 sz H locs) => ?_)
  refine lv_istore (lv' := [(5, .int r4.1), (0, .ref b), (3, .int y3), (4, .int y4), (6, .int y6), (7, .int y7), (8, .int y8)]) hx hb dX12_meet_120 hl (by decide) rfl (fun ls hl => ?_)
  refine lv_aload_n hx hb dX12_meet_122 rfl (lv_at hl 1 rfl) ?_
  refine lv_iload hx hb dX12_meet_123 (lv_at hl 3 rfl) ?_
  refine lv_iload hx hb dX12_meet_125 (lv_at hl 4 rfl) ?_
  refine lv_i2l (v := y6.toInt64) hx hb dX12_meet_127 rfl ?_
  obtain ⟨r6, k7, hF⟩ := xb_s hF
  refine kVi (As := [.int y4, .long y6.toInt64]) (rest := []) hE hl hD (c_X12_becomes (b := b) k7) kl_X12_144 (mW_0 _ _ _) rfl rfl rfl rfl (Nat.le_of_ble_eq_true rfl) dX12_meet_128 ⟨Nat.le_of_ble_eq_true rfl, Nat.le_of_ble_eq_true rfl⟩ ⟨Nat.le_of_ble_eq_true rfl, Nat.le_of_ble_eq_true rfl⟩ (fun H locs (hD : mD G _ _ b r6.2 sz H locs) => ?_)
  refine lv_istore (lv' := [(6, .int r6.1), (5, .int r4.1), (0, .ref b), (3, .int y3), (4, .int y4), (7, .int y7), (8, .int y8)]) hx hb dX12_meet_131 hl (by decide) rfl (fun ls hl => ?_)
  obtain ⟨x8, ex8⟩ : ∃ y : Int32, y = y8 + (1 : Int32) := ⟨_, rfl⟩
  have hF := xlet_e hF ex8
  refine lv_iinc (v := x8) (lv' := [(8, .int x8), (6, .int r6.1), (5, .int r4.1), (0, .ref b), (3, .int y3), (4, .int y4), (7, .int y7)]) hx hb dX12_meet_133 hl (k := 6) rfl (by rw [ex8]; rfl) (by decide) rfl (fun ls hl => ?_)
  refine lv_goto (tgt := 73) hx hb dX12_meet_136 (by decide) ?_
  exact h73 hD (lv_sub hl [3, 4, 5, 2, 1, 6, 0] rfl) hF
def F_X12_meet_l73 : Nat → xS → Int32 → Int32 → Int32 → Int32 → Int32 → Int32 → Option (Int32 × xS)
  | 0, _, _, _, _, _, _, _ => none
  | nn + 1, u, y3, y4, y5, y6, y7, y8 => if (61 : Int32) ≤ y8 then F_X12_meet_j139 u y5 y6 y8 else if y5 < 0 then F_X12_meet_j139 u y5 y6 y8 else if y6 < 0 then F_X12_meet_j139 u y5 y6 y8 else if y7 = 0 then if y5 ≤ y6 then F_X12_meet_j139 u y5 y6 y8 else F_X12_meet_j112 (F_X12_meet_l73 nn) u y3 y4 y5 y6 y7 y8 else if y6 ≤ y5 then F_X12_meet_j139 u y5 y6 y8 else F_X12_meet_j112 (F_X12_meet_l73 nn) u y3 y4 y5 y6 y7 y8
theorem L_X12_meet_l73 {p : Program} {l : Launch} {e : Env} {s : State} {m : MethodId} {args : Array Value} {below : List Frame} {meth : Method} {cd : Code} {G : xG} {w0 : xW} {b sz : Nat} {rr : (Int32 × xS)} (hE : xE p s m args meth cd cX12_meet RX12 G 9 (Option.some Jvm.ClassFile.FieldType.int)) : ∀ (nn : Nat) {u : xS} {y3 : Int32} {y4 : Int32} {y5 : Int32} {y6 : Int32} {y7 : Int32} {y8 : Int32} {H : Heap} {locs : List Loc} {ls : Array Slot}, mD G (xA w0 s.heap.size) s.heap b u sz H locs → lv_has ls 9 [(0, .ref b), (3, .int y3), (4, .int y4), (5, .int y5), (6, .int y6), (7, .int y7), (8, .int y8)] → F_X12_meet_l73 nn u y3 y4 y5 y6 y7 y8 = some rr → W p l e (xR 7 0 0) s m args below meth cd H locs 0 0 (xQi G w0 (fun r z => r = rr.1 ∧ z = ((mW G b rr.2), sz)) below args s 0 0) (F0 m 73 ls []) := by
  have hx := hE.1; have hb := hE.2.1
  intro nn
  induction nn with
  | zero => intro u y3 y4 y5 y6 y7 y8 H locs ls hD hl hF; rw [F_X12_meet_l73] at hF; cases hF
  | succ nn ih =>
    intro u y3 y4 y5 y6 y7 y8 H locs ls hD hl hF
    rw [F_X12_meet_l73] at hF
    refine lv_iload hx hb dX12_meet_73 (lv_at hl 6 rfl) ?_
    refine lv_bipush (v := (61 : Int32)) hx hb dX12_meet_75 (by decide) ?_
    refine lv_icmp_ge (tgt := 139) hx hb dX12_meet_77 (by decide) (fun c9 => ?_) (fun c9 => ?_)
    · have hF := ite_p hF c9
      exact B_X12_meet_j139 hE hD (lv_sub hl [0, 3, 4, 6] rfl) hF
    · have hF := ite_n hF c9
      refine lv_iload hx hb dX12_meet_80 (lv_at hl 3 rfl) ?_
      refine lv_if_lt (tgt := 139) hx hb dX12_meet_82 (by decide) (fun c10 => ?_) (fun c10 => ?_)
      · have hF := ite_p hF c10
        exact B_X12_meet_j139 hE hD (lv_sub hl [0, 3, 4, 6] rfl) hF
      · have hF := ite_n hF c10
        refine lv_iload hx hb dX12_meet_85 (lv_at hl 4 rfl) ?_
        refine lv_if_lt (tgt := 139) hx hb dX12_meet_87 (by decide) (fun c11 => ?_) (fun c11 => ?_)
        · have hF := ite_p hF c11
          exact B_X12_meet_j139 hE hD (lv_sub hl [0, 3, 4, 6] rfl) hF
        · have hF := ite_n hF c11
          refine lv_iload hx hb dX12_meet_90 (lv_at hl 5 rfl) ?_
          refine lv_if_eq (tgt := 105) hx hb dX12_meet_92 (by decide) (fun c12 => ?_) (fun c12 => ?_)
          · have hF := ite_p hF c12
            refine lv_iload hx hb dX12_meet_105 (lv_at hl 4 rfl) ?_
            refine lv_iload hx hb dX12_meet_107 (lv_at hl 3 rfl) ?_
            refine lv_icmp_ge (tgt := 139) hx hb dX12_meet_109 (by decide) (fun c13 => ?_) (fun c13 => ?_)
            · have hF := ite_p hF c13
              exact B_X12_meet_j139 hE hD (lv_sub hl [0, 3, 4, 6] rfl) hF
            · have hF := ite_n hF c13
              exact B_X12_meet_j112 hE (F_X12_meet_l73 nn) ih hD (lv_sub hl [0, 1, 2, 3, 4, 5, 6] rfl) hF
          · have hF := ite_n hF c12
            refine lv_iload hx hb dX12_meet_95 (lv_at hl 3 rfl) ?_
            refine lv_iload hx hb dX12_meet_97 (lv_at hl 4 rfl) ?_
            refine lv_icmp_ge (tgt := 139) hx hb dX12_meet_99 (by decide) (fun c14 => ?_) (fun c14 => ?_)
            · have hF := ite_p hF c14
              exact B_X12_meet_j139 hE hD (lv_sub hl [0, 3, 4, 6] rfl) hF
            · have hF := ite_n hF c14
              refine lv_goto (tgt := 112) hx hb dX12_meet_102 (by decide) ?_
              exact B_X12_meet_j112 hE (F_X12_meet_l73 nn) ih hD (lv_sub hl [0, 1, 2, 3, 4, 5, 6] rfl) hF
def F_X12_meet_j68 (u : xS) (y3 : Int32) (y4 : Int32) (y5 : Int32) (y6 : Int32) (s0 : Int32) : Option (Int32 × xS) := F_X12_meet_l73 xFuel u y3 y4 y5 y6 s0 (0 : Int32)
theorem B_X12_meet_j68 {p : Program} {l : Launch} {e : Env} {s : State} {m : MethodId} {args : Array Value} {below : List Frame} {meth : Method} {cd : Code} {G : xG} {w0 : xW} {b sz : Nat} {rr : (Int32 × xS)} (hE : xE p s m args meth cd cX12_meet RX12 G 9 (Option.some Jvm.ClassFile.FieldType.int)) {u : xS} {y3 : Int32} {y4 : Int32} {y5 : Int32} {y6 : Int32} {s0 : Int32} {H : Heap} {locs : List Loc} {ls : Array Slot} (hD : mD G (xA w0 s.heap.size) s.heap b u sz H locs) (hl : lv_has ls 9 [(0, .ref b), (3, .int y3), (4, .int y4), (5, .int y5), (6, .int y6)]) (hF : F_X12_meet_j68 u y3 y4 y5 y6 s0 = some rr) : W p l e (xR 7 0 0) s m args below meth cd H locs 0 0 (xQi G w0 (fun r z => r = rr.1 ∧ z = ((mW G b rr.2), sz)) below args s 0 0) (F0 m 68 ls [.int s0]) := by
  have hx := hE.1; have hb := hE.2.1
  unfold F_X12_meet_j68 at hF
  refine lv_istore (lv' := [(7, .int s0), (0, .ref b), (3, .int y3), (4, .int y4), (5, .int y5), (6, .int y6)]) hx hb dX12_meet_68 hl (by decide) rfl (fun ls hl => ?_)
  refine lv_iconst (v := (0 : Int32)) hx hb dX12_meet_70 (by decide) ?_
  refine lv_istore (lv' := [(8, .int (0 : Int32)), (7, .int s0), (0, .ref b), (3, .int y3), (4, .int y4), (5, .int y5), (6, .int y6)]) hx hb dX12_meet_71 hl (by decide) rfl (fun ls hl => ?_)
  exact L_X12_meet_l73 hE _ hD (lv_sub hl [2, 3, 4, 5, 6, 1, 0] rfl) hF
def F_X12_meet_j38 (u : xS)  : Option (Int32 × xS) := some ((-1 : Int32), u)
theorem B_X12_meet_j38 {p : Program} {l : Launch} {e : Env} {s : State} {m : MethodId} {args : Array Value} {below : List Frame} {meth : Method} {cd : Code} {G : xG} {w0 : xW} {b sz : Nat} {rr : (Int32 × xS)} (hE : xE p s m args meth cd cX12_meet RX12 G 9 (Option.some Jvm.ClassFile.FieldType.int)) {u : xS}  {H : Heap} {locs : List Loc} {ls : Array Slot} (hD : mD G (xA w0 s.heap.size) s.heap b u sz H locs) (hl : lv_has ls 9 [(0, .ref b)]) (hF : F_X12_meet_j38 u  = some rr) : W p l e (xR 7 0 0) s m args below meth cd H locs 0 0 (xQi G w0 (fun r z => r = rr.1 ∧ z = ((mW G b rr.2), sz)) below args s 0 0) (F0 m 38 ls []) := by
  have hx := hE.1; have hb := hE.2.1
  unfold F_X12_meet_j38 at hF
  refine lv_iconst (v := (-1 : Int32)) hx hb dX12_meet_38 (by decide) ?_
  obtain rfl := Option.some.inj hF
  exact x_iret hE hD ⟨rfl, rfl⟩ (by omega) (by omega) dX12_meet_39
def F_X12_meet (u : xS) (xa : Int32) (xb : Int32) (xc : Int32) (xd : Int32) : Option (Int32 × xS) := (F_X12_isPerson u xa).bind (fun r15 => if r15 = 0 then F_X12_meet_j38 u else (F_X12_isPerson u xb).bind (fun r19 => if r19 = 0 then F_X12_meet_j38 u else if xa = xb then F_X12_meet_j38 u else (F_X12_isBridge u xc).bind (fun r24 => if r24 = 0 then F_X12_meet_j38 u else (F_X12_isBridge u xd).bind (fun r28 => if r28 = 0 then F_X12_meet_j38 u else (F_X12_told u xa (0 : Int32)).bind (fun r32 => (F_X12_told u xb (0 : Int32)).bind (fun r34 => if r34 < r32 then F_X12_meet_j68 u xc xd r32 r34 (0 : Int32) else F_X12_meet_j68 u xc xd r32 r34 (1 : Int32)))))))
theorem c_X12_meet {l : Launch} {G : xG} {b sz : Nat} {rr : (Int32 × xS)} {u : xS} {xa : Int32} {xb : Int32} {xc : Int32} {xd : Int32} (hF : F_X12_meet u xa xb xc xd = some rr) : xMi l G yX12_meet cX12_meet 9 (Option.some Jvm.ClassFile.FieldType.int) 7 0 0 [.ref b, .int xa, .int xb, .int xc, .int xd] (mW G b u) sz (fun r z => r = rr.1 ∧ z = ((mW G b rr.2), sz)) := by
  unfold F_X12_meet at hF
  refine x_startI rfl (Nat.le_of_ble_eq_true rfl) (fun p e s m args below meth cd ls hE hnm hl hD => ?_)
  have hx := hE.1; have hb := hE.2.1
  have hl : lv_has ls 9 [(0, .ref b), (1, .int xa), (2, .int xb), (3, .int xc), (4, .int xd)] := hl
  have hD : mD G (xA (mW G b u) s.heap.size) s.heap b u sz s.heap [] := hD
  refine lv_aload_n hx hb dX12_meet_0 rfl (lv_at hl 0 rfl) ?_
  refine lv_iload_n hx hb dX12_meet_1 rfl (lv_at hl 1 rfl) ?_
  obtain ⟨r15, k16, hF⟩ := xb_s hF
  refine kVz (As := [.int xa]) (rest := []) hE hl hD (c_X12_isPerson (b := b) k16) kl_X12_138 (mW_0 _ _ _) rfl rfl rfl rfl (Nat.le_of_ble_eq_true rfl) dX12_meet_2 ⟨Nat.le_of_ble_eq_true rfl, Nat.le_of_ble_eq_true rfl⟩ ⟨Nat.le_of_ble_eq_true rfl, Nat.le_of_ble_eq_true rfl⟩ (fun H locs z17 (hD : mD G _ _ b u sz H locs) => ?_)
  refine lv_if_eq (tgt := 38) hx hb dX12_meet_5 (by decide) (fun c18 => ?_) (fun c18 => ?_)
  · have hF := ite_p hF c18
    exact B_X12_meet_j38 hE hD (lv_sub hl [0] rfl) hF
  · have hF := ite_n hF c18
    refine lv_aload_n hx hb dX12_meet_8 rfl (lv_at hl 0 rfl) ?_
    refine lv_iload_n hx hb dX12_meet_9 rfl (lv_at hl 2 rfl) ?_
    obtain ⟨r19, k20, hF⟩ := xb_s hF
    refine kVz (As := [.int xb]) (rest := []) hE hl hD (c_X12_isPerson (b := b) k20) kl_X12_138 (mW_0 _ _ _) rfl rfl rfl rfl (Nat.le_of_ble_eq_true rfl) dX12_meet_10 ⟨Nat.le_of_ble_eq_true rfl, Nat.le_of_ble_eq_true rfl⟩ ⟨Nat.le_of_ble_eq_true rfl, Nat.le_of_ble_eq_true rfl⟩ (fun H locs z21 (hD : mD G _ _ b u sz H locs) => ?_)
    refine lv_if_eq (tgt := 38) hx hb dX12_meet_13 (by decide) (fun c22 => ?_) (fun c22 => ?_)
    · have hF := ite_p hF c22
      exact B_X12_meet_j38 hE hD (lv_sub hl [0] rfl) hF
    · have hF := ite_n hF c22
      refine lv_iload_n hx hb dX12_meet_16 rfl (lv_at hl 1 rfl) ?_
      refine lv_iload_n hx hb dX12_meet_17 rfl (lv_at hl 2 rfl) ?_
      refine lv_icmp_eq (tgt := 38) hx hb dX12_meet_18 (by decide) (fun c23 => ?_) (fun c23 => ?_)
      · have hF := ite_p hF c23
        exact B_X12_meet_j38 hE hD (lv_sub hl [0] rfl) hF
      · have hF := ite_n hF c23
        refine lv_aload_n hx hb dX12_meet_21 rfl (lv_at hl 0 rfl) ?_
        refine lv_iload_n hx hb dX12_meet_22 rfl (lv_at hl 3 rfl) ?_
        obtain ⟨r24, k25, hF⟩ := xb_s hF
        refine kVz (As := [.int xc]) (rest := []) hE hl hD (c_X12_isBridge (b := b) k25) kl_X12_114 (mW_0 _ _ _) rfl rfl rfl rfl (Nat.le_of_ble_eq_true rfl) dX12_meet_23 ⟨Nat.le_of_ble_eq_true rfl, Nat.le_of_ble_eq_true rfl⟩ ⟨Nat.le_of_ble_eq_true rfl, Nat.le_of_ble_eq_true rfl⟩ (fun H locs z26 (hD : mD G _ _ b u sz H locs) => ?_)
        refine lv_if_eq (tgt := 38) hx hb dX12_meet_26 (by decide) (fun c27 => ?_) (fun c27 => ?_)
        · have hF := ite_p hF c27
          exact B_X12_meet_j38 hE hD (lv_sub hl [0] rfl) hF
        · have hF := ite_n hF c27
          refine lv_aload_n hx hb dX12_meet_29 rfl (lv_at hl 0 rfl) ?_
          refine lv_iload hx hb dX12_meet_30 (lv_at hl 4 rfl) ?_
          obtain ⟨r28, k29, hF⟩ := xb_s hF
          refine kVz (As := [.int xd]) (rest := []) hE hl hD (c_X12_isBridge (b := b) k29) kl_X12_114 (mW_0 _ _ _) rfl rfl rfl rfl (Nat.le_of_ble_eq_true rfl) dX12_meet_32 ⟨Nat.le_of_ble_eq_true rfl, Nat.le_of_ble_eq_true rfl⟩ ⟨Nat.le_of_ble_eq_true rfl, Nat.le_of_ble_eq_true rfl⟩ (fun H locs z30 (hD : mD G _ _ b u sz H locs) => ?_)
          refine lv_if_ne (tgt := 40) hx hb dX12_meet_35 (by decide) (fun c31 => ?_) (fun c31 => ?_)
          · have hF := ite_n hF c31
            refine lv_aload_n hx hb dX12_meet_40 rfl (lv_at hl 0 rfl) ?_
            refine lv_iload_n hx hb dX12_meet_41 rfl (lv_at hl 1 rfl) ?_
            refine lv_iconst (v := (0 : Int32)) hx hb dX12_meet_42 (by decide) ?_
            obtain ⟨r32, k33, hF⟩ := xb_s hF
            refine kVi (As := [.int xa, .int (0 : Int32)]) (rest := []) hE hl hD (c_X12_told (b := b) k33) kl_X12_141 (mW_0 _ _ _) rfl rfl rfl rfl (Nat.le_of_ble_eq_true rfl) dX12_meet_43 ⟨Nat.le_of_ble_eq_true rfl, Nat.le_of_ble_eq_true rfl⟩ ⟨Nat.le_of_ble_eq_true rfl, Nat.le_of_ble_eq_true rfl⟩ (fun H locs (hD : mD G _ _ b u sz H locs) => ?_)
            refine lv_istore (lv' := [(5, .int r32), (0, .ref b), (1, .int xa), (2, .int xb), (3, .int xc), (4, .int xd)]) hx hb dX12_meet_46 hl (by decide) rfl (fun ls hl => ?_)
            refine lv_aload_n hx hb dX12_meet_48 rfl (lv_at hl 1 rfl) ?_
            refine lv_iload_n hx hb dX12_meet_49 rfl (lv_at hl 3 rfl) ?_
            refine lv_iconst (v := (0 : Int32)) hx hb dX12_meet_50 (by decide) ?_
            obtain ⟨r34, k35, hF⟩ := xb_s hF
            refine kVi (As := [.int xb, .int (0 : Int32)]) (rest := []) hE hl hD (c_X12_told (b := b) k35) kl_X12_141 (mW_0 _ _ _) rfl rfl rfl rfl (Nat.le_of_ble_eq_true rfl) dX12_meet_51 ⟨Nat.le_of_ble_eq_true rfl, Nat.le_of_ble_eq_true rfl⟩ ⟨Nat.le_of_ble_eq_true rfl, Nat.le_of_ble_eq_true rfl⟩ (fun H locs (hD : mD G _ _ b u sz H locs) => ?_)
            refine lv_istore (lv' := [(6, .int r34), (5, .int r32), (0, .ref b), (1, .int xa), (2, .int xb), (3, .int xc), (4, .int xd)]) hx hb dX12_meet_54 hl (by decide) rfl (fun ls hl => ?_)
            refine lv_iload hx hb dX12_meet_56 (lv_at hl 1 rfl) ?_
            refine lv_iload hx hb dX12_meet_58 (lv_at hl 0 rfl) ?_
            refine lv_icmp_gt (tgt := 67) hx hb dX12_meet_60 (by decide) (fun c36 => ?_) (fun c36 => ?_)
            · have hF := ite_p hF c36
              refine lv_iconst (v := (0 : Int32)) hx hb dX12_meet_67 (by decide) ?_
              exact B_X12_meet_j68 hE hD (lv_sub hl [2, 5, 6, 1, 0] rfl) hF
            · have hF := ite_n hF c36
              refine lv_iconst (v := (1 : Int32)) hx hb dX12_meet_63 (by decide) ?_
              refine lv_goto (tgt := 68) hx hb dX12_meet_64 (by decide) ?_
              exact B_X12_meet_j68 hE hD (lv_sub hl [2, 5, 6, 1, 0] rfl) hF
          · have hF := ite_p hF c31
            exact B_X12_meet_j38 hE hD (lv_sub hl [0] rfl) hF
def F_X12_tale_j24 (u : xS)  : Option (Int32 × xS) := some ((-1 : Int32), u)
theorem B_X12_tale_j24 {p : Program} {l : Launch} {e : Env} {s : State} {m : MethodId} {args : Array Value} {below : List Frame} {meth : Method} {cd : Code} {G : xG} {w0 : xW} {b sz : Nat} {rr : (Int32 × xS)} (hE : xE p s m args meth cd cX12_tale RX12 G 3 (Option.some Jvm.ClassFile.FieldType.int)) {u : xS}  {H : Heap} {locs : List Loc} {ls : Array Slot} (hD : mD G (xA w0 s.heap.size) s.heap b u sz H locs) (hl : lv_has ls 3 [(0, .ref b)]) (hF : F_X12_tale_j24 u  = some rr) : W p l e (xR 2 0 0) s m args below meth cd H locs 0 0 (xQi G w0 (fun r z => r = rr.1 ∧ z = ((mW G b rr.2), sz)) below args s 0 0) (F0 m 24 ls []) := by
  have hx := hE.1; have hb := hE.2.1
  unfold F_X12_tale_j24 at hF
  refine lv_iconst (v := (-1 : Int32)) hx hb dX12_tale_24 (by decide) ?_
  obtain rfl := Option.some.inj hF
  exact x_iret hE hD ⟨rfl, rfl⟩ (by omega) (by omega) dX12_tale_25
def F_X12_tale (u : xS) (xa : Int32) (xb : Int32) : Option (Int32 × xS) := (F_X12_in xa.toInt64 (0 : Int64) (99999 : Int64)).bind (fun r1 => if r1 = 0 then F_X12_tale_j24 u else (F_X12_in xb.toInt64 (0 : Int64) (99999 : Int64)).bind (fun r5 => if r5 = 0 then F_X12_tale_j24 u else if xIn (2 : Int32) 303 then if (u.2.1 0 (2 : Int32).toNatClampNeg) = (6 : Int32) then some ((-2 : Int32), u) else if xIn (2 : Int32) 303 then if xIn ((59 : Int32) + ((2 : Int32) * (u.2.1 0 (2 : Int32).toNatClampNeg))) 303 then xlet (mA u 0 ((59 : Int32) + ((2 : Int32) * (u.2.1 0 (2 : Int32).toNatClampNeg))).toNatClampNeg xa) (fun u13 => if xIn (2 : Int32) 303 then if xIn (((59 : Int32) + ((2 : Int32) * (u13.2.1 0 (2 : Int32).toNatClampNeg))) + (1 : Int32)) 303 then xlet (mA u13 0 (((59 : Int32) + ((2 : Int32) * (u13.2.1 0 (2 : Int32).toNatClampNeg))) + (1 : Int32)).toNatClampNeg xb) (fun u16 => if xIn (2 : Int32) 303 then if xIn (2 : Int32) 303 then xlet (mA u16 0 (2 : Int32).toNatClampNeg ((u16.2.1 0 (2 : Int32).toNatClampNeg) + (1 : Int32))) (fun u19 => if xIn (2 : Int32) 303 then some ((u19.2.1 0 (2 : Int32).toNatClampNeg) - (1 : Int32), u19) else none) else none else none) else none else none) else none else none else none))
theorem c_X12_tale {l : Launch} {G : xG} {b sz : Nat} {rr : (Int32 × xS)} {u : xS} {xa : Int32} {xb : Int32} (hF : F_X12_tale u xa xb = some rr) : xMi l G yX12_tale cX12_tale 3 (Option.some Jvm.ClassFile.FieldType.int) 2 0 0 [.ref b, .int xa, .int xb] (mW G b u) sz (fun r z => r = rr.1 ∧ z = ((mW G b rr.2), sz)) := by
  unfold F_X12_tale at hF
  refine x_startI rfl (Nat.le_of_ble_eq_true rfl) (fun p e s m args below meth cd ls hE hnm hl hD => ?_)
  have hx := hE.1; have hb := hE.2.1
  have hl : lv_has ls 3 [(0, .ref b), (1, .int xa), (2, .int xb)] := hl
  have hD : mD G (xA (mW G b u) s.heap.size) s.heap b u sz s.heap [] := hD
  refine lv_iload_n hx hb dX12_tale_0 rfl (lv_at hl 1 rfl) ?_
  refine lv_i2l (v := xa.toInt64) hx hb dX12_tale_1 rfl ?_
  refine lv_lconst (v := (0 : Int64)) hx hb dX12_tale_2 (by decide) ?_
  refine lv_ldc2 (v := (99999 : Int64)) hx hb hE.2.2.1 (hE.2.2.2.1 _ kw6_190) dX12_tale_3 ?_
  obtain ⟨r1, k2, hF⟩ := xb_s hF
  refine kSz (As := [.long xa.toInt64, .long (0 : Int64), .long (99999 : Int64)]) (rest := []) hE hl hD (c_X12_in k2) kl_X12_67 rfl rfl (Nat.le_of_ble_eq_true rfl) dX12_tale_6 ⟨Nat.le_of_ble_eq_true rfl, Nat.le_of_ble_eq_true rfl⟩ ⟨Nat.le_of_ble_eq_true rfl, Nat.le_of_ble_eq_true rfl⟩ (fun H locs z3 (hD : mD G _ _ b u sz H locs) => ?_)
  refine lv_if_eq (tgt := 24) hx hb dX12_tale_9 (by decide) (fun c4 => ?_) (fun c4 => ?_)
  · have hF := ite_p hF c4
    exact B_X12_tale_j24 hE hD (lv_sub hl [0] rfl) hF
  · have hF := ite_n hF c4
    refine lv_iload_n hx hb dX12_tale_12 rfl (lv_at hl 2 rfl) ?_
    refine lv_i2l (v := xb.toInt64) hx hb dX12_tale_13 rfl ?_
    refine lv_lconst (v := (0 : Int64)) hx hb dX12_tale_14 (by decide) ?_
    refine lv_ldc2 (v := (99999 : Int64)) hx hb hE.2.2.1 (hE.2.2.2.1 _ kw6_190) dX12_tale_15 ?_
    obtain ⟨r5, k6, hF⟩ := xb_s hF
    refine kSz (As := [.long xb.toInt64, .long (0 : Int64), .long (99999 : Int64)]) (rest := []) hE hl hD (c_X12_in k6) kl_X12_67 rfl rfl (Nat.le_of_ble_eq_true rfl) dX12_tale_18 ⟨Nat.le_of_ble_eq_true rfl, Nat.le_of_ble_eq_true rfl⟩ ⟨Nat.le_of_ble_eq_true rfl, Nat.le_of_ble_eq_true rfl⟩ (fun H locs z7 (hD : mD G _ _ b u sz H locs) => ?_)
    refine lv_if_ne (tgt := 26) hx hb dX12_tale_21 (by decide) (fun c8 => ?_) (fun c8 => ?_)
    · have hF := ite_n hF c8
      refine lv_aload_n hx hb dX12_tale_26 rfl (lv_at hl 0 rfl) ?_
      refine gf_X12_7 hE hD dX12_tale_27 ?_
      refine lv_iconst (v := (2 : Int32)) hx hb dX12_tale_30 (by decide) ?_
      obtain ⟨h9, hF⟩ := ite_s hF
      refine ma_ld_0 hE hD h9 dX12_tale_31 ?_
      refine lv_bipush (v := (6 : Int32)) hx hb dX12_tale_32 (by decide) ?_
      refine lv_icmp_ne (tgt := 40) hx hb dX12_tale_34 (by decide) (fun c10 => ?_) (fun c10 => ?_)
      · have hF := ite_n hF c10
        refine lv_aload_n hx hb dX12_tale_40 rfl (lv_at hl 0 rfl) ?_
        refine gf_X12_7 hE hD dX12_tale_41 ?_
        refine lv_bipush (v := (59 : Int32)) hx hb dX12_tale_44 (by decide) ?_
        refine lv_iconst (v := (2 : Int32)) hx hb dX12_tale_46 (by decide) ?_
        refine lv_aload_n hx hb dX12_tale_47 rfl (lv_at hl 0 rfl) ?_
        refine gf_X12_7 hE hD dX12_tale_48 ?_
        refine lv_iconst (v := (2 : Int32)) hx hb dX12_tale_51 (by decide) ?_
        obtain ⟨h11, hF⟩ := ite_s hF
        refine ma_ld_0 hE hD h11 dX12_tale_52 ?_
        refine lv_imul hx hb dX12_tale_53 ?_
        refine lv_iadd hx hb dX12_tale_54 ?_
        refine lv_iload_n hx hb dX12_tale_55 rfl (lv_at hl 1 rfl) ?_
        obtain ⟨h12, hF⟩ := ite_s hF
        refine ma_st_0 hE hD h12 dX12_tale_56 (fun u13 H locs eu13 hD => ?_)
        have hF := xlet_e hF eu13
        refine lv_aload_n hx hb dX12_tale_57 rfl (lv_at hl 0 rfl) ?_
        refine gf_X12_7 hE hD dX12_tale_58 ?_
        refine lv_bipush (v := (59 : Int32)) hx hb dX12_tale_61 (by decide) ?_
        refine lv_iconst (v := (2 : Int32)) hx hb dX12_tale_63 (by decide) ?_
        refine lv_aload_n hx hb dX12_tale_64 rfl (lv_at hl 0 rfl) ?_
        refine gf_X12_7 hE hD dX12_tale_65 ?_
        refine lv_iconst (v := (2 : Int32)) hx hb dX12_tale_68 (by decide) ?_
        obtain ⟨h14, hF⟩ := ite_s hF
        refine ma_ld_0 hE hD h14 dX12_tale_69 ?_
        refine lv_imul hx hb dX12_tale_70 ?_
        refine lv_iadd hx hb dX12_tale_71 ?_
        refine lv_iconst (v := (1 : Int32)) hx hb dX12_tale_72 (by decide) ?_
        refine lv_iadd hx hb dX12_tale_73 ?_
        refine lv_iload_n hx hb dX12_tale_74 rfl (lv_at hl 2 rfl) ?_
        obtain ⟨h15, hF⟩ := ite_s hF
        refine ma_st_0 hE hD h15 dX12_tale_75 (fun u16 H locs eu16 hD => ?_)
        have hF := xlet_e hF eu16
        refine lv_aload_n hx hb dX12_tale_76 rfl (lv_at hl 0 rfl) ?_
        refine gf_X12_7 hE hD dX12_tale_77 ?_
        refine lv_iconst (v := (2 : Int32)) hx hb dX12_tale_80 (by decide) ?_
        refine lv_dup2_11 hx hb dX12_tale_81 rfl rfl ?_
        obtain ⟨h17, hF⟩ := ite_s hF
        refine ma_ld_0 hE hD h17 dX12_tale_82 ?_
        refine lv_iconst (v := (1 : Int32)) hx hb dX12_tale_83 (by decide) ?_
        refine lv_iadd hx hb dX12_tale_84 ?_
        obtain ⟨h18, hF⟩ := ite_s hF
        refine ma_st_0 hE hD h18 dX12_tale_85 (fun u19 H locs eu19 hD => ?_)
        have hF := xlet_e hF eu19
        refine lv_aload_n hx hb dX12_tale_86 rfl (lv_at hl 0 rfl) ?_
        refine gf_X12_7 hE hD dX12_tale_87 ?_
        refine lv_iconst (v := (2 : Int32)) hx hb dX12_tale_90 (by decide) ?_
        obtain ⟨h20, hF⟩ := ite_s hF
        refine ma_ld_0 hE hD h20 dX12_tale_91 ?_
        refine lv_iconst (v := (1 : Int32)) hx hb dX12_tale_92 (by decide) ?_
        refine lv_isub hx hb dX12_tale_93 ?_
        obtain rfl := Option.some.inj hF
        exact x_iret hE hD ⟨rfl, rfl⟩ (by omega) (by omega) dX12_tale_94
      · have hF := ite_p hF c10
        refine lv_bipush (v := (-2 : Int32)) hx hb dX12_tale_37 (by decide) ?_
        obtain rfl := Option.some.inj hF
        exact x_iret hE hD ⟨rfl, rfl⟩ (by omega) (by omega) dX12_tale_39
    · have hF := ite_p hF c8
      exact B_X12_tale_j24 hE hD (lv_sub hl [0] rfl) hF
def F_X12_forget (u : xS)  : Option (Int32 × xS) := if xIn (2 : Int32) 303 then xlet (u.2.1 0 (2 : Int32).toNatClampNeg) (fun x2 => if xIn (2 : Int32) 303 then xlet (mA u 0 (2 : Int32).toNatClampNeg (0 : Int32)) (fun u4 => some (x2, u4)) else none) else none
theorem c_X12_forget {l : Launch} {G : xG} {b sz : Nat} {rr : (Int32 × xS)} {u : xS}  (hF : F_X12_forget u  = some rr) : xMi l G yX12_forget cX12_forget 2 (Option.some Jvm.ClassFile.FieldType.int) 1 0 0 [.ref b] (mW G b u) sz (fun r z => r = rr.1 ∧ z = ((mW G b rr.2), sz)) := by
  unfold F_X12_forget at hF
  refine x_startI rfl (Nat.le_of_ble_eq_true rfl) (fun p e s m args below meth cd ls hE hnm hl hD => ?_)
  have hx := hE.1; have hb := hE.2.1
  have hl : lv_has ls 2 [(0, .ref b)] := hl
  have hD : mD G (xA (mW G b u) s.heap.size) s.heap b u sz s.heap [] := hD
  refine lv_aload_n hx hb dX12_forget_0 rfl (lv_at hl 0 rfl) ?_
  refine gf_X12_7 hE hD dX12_forget_1 ?_
  refine lv_iconst (v := (2 : Int32)) hx hb dX12_forget_4 (by decide) ?_
  obtain ⟨h1, hF⟩ := ite_s hF
  refine ma_ld_0 hE hD h1 dX12_forget_5 ?_
  refine lv_topi (fun x2 ex2 => ?_)
  have hF := xlet_e hF ex2
  refine lv_istore_n (lv' := [(1, .int x2), (0, .ref b)]) hx hb dX12_forget_6 rfl hl (by decide) rfl (fun ls hl => ?_)
  refine lv_aload_n hx hb dX12_forget_7 rfl (lv_at hl 1 rfl) ?_
  refine gf_X12_7 hE hD dX12_forget_8 ?_
  refine lv_iconst (v := (2 : Int32)) hx hb dX12_forget_11 (by decide) ?_
  refine lv_iconst (v := (0 : Int32)) hx hb dX12_forget_12 (by decide) ?_
  obtain ⟨h3, hF⟩ := ite_s hF
  refine ma_st_0 hE hD h3 dX12_forget_13 (fun u4 H locs eu4 hD => ?_)
  have hF := xlet_e hF eu4
  refine lv_iload_n hx hb dX12_forget_14 rfl (lv_at hl 0 rfl) ?_
  obtain rfl := Option.some.inj hF
  exact x_iret hE hD ⟨rfl, rfl⟩ (by omega) (by omega) dX12_forget_15
def F_X12_isAgreed_j78 (u : xS) (y5 : Int32) : Option Int32 := if y5 = 0 ∨ y5 = 1 then some y5 else none
theorem B_X12_isAgreed_j78 {p : Program} {l : Launch} {e : Env} {s : State} {m : MethodId} {args : Array Value} {below : List Frame} {meth : Method} {cd : Code} {G : xG} {w0 : xW} {b sz : Nat} {rr : Int32} (hE : xE p s m args meth cd cX12_isAgreed RX12 G 7 (Option.some Jvm.ClassFile.FieldType.boolean)) {u : xS} {y5 : Int32} {H : Heap} {locs : List Loc} {ls : Array Slot} (hD : mD G (xA w0 s.heap.size) s.heap b u sz H locs) (hl : lv_has ls 7 [(0, .ref b), (5, .int y5)]) (hF : F_X12_isAgreed_j78 u y5 = some rr) : W p l e (xR 2 0 0) s m args below meth cd H locs 0 0 (xQi G w0 (fun r z => r = rr ∧ (rr = 0 ∨ rr = 1) ∧ z = ((mW G b u), sz)) below args s 0 0) (F0 m 78 ls []) := by
  have hx := hE.1; have hb := hE.2.1
  unfold F_X12_isAgreed_j78 at hF
  refine lv_iload hx hb dX12_isAgreed_78 (lv_at hl 1 rfl) ?_
  obtain ⟨h1, hF⟩ := ite_s hF
  obtain rfl := Option.some.inj hF
  exact x_zret hE hD h1 ⟨rfl, h1, rfl⟩ (by omega) (by omega) dX12_isAgreed_80
def F_X12_isAgreed_j70 (k6 : xS → Int32 → Int32 → Int32 → Int32 → Int32 → Int32 → Option Int32) (u : xS) (y1 : Int32) (y2 : Int32) (y3 : Int32) (y4 : Int32) (y6 : Int32) (s0 : Int32) : Option Int32 := xlet (y6 + (1 : Int32)) (fun x2 => k6 u y1 y2 y3 y4 s0 x2)
theorem B_X12_isAgreed_j70 {p : Program} {l : Launch} {e : Env} {s : State} {m : MethodId} {args : Array Value} {below : List Frame} {meth : Method} {cd : Code} {G : xG} {w0 : xW} {b sz : Nat} {rr : Int32} (hE : xE p s m args meth cd cX12_isAgreed RX12 G 7 (Option.some Jvm.ClassFile.FieldType.boolean)) {u : xS} (k6 : xS → Int32 → Int32 → Int32 → Int32 → Int32 → Int32 → Option Int32) (h6 : ∀ {y1 : Int32} {y2 : Int32} {y3 : Int32} {y4 : Int32} {y5 : Int32} {y6 : Int32} {H : Heap} {locs : List Loc} {ls : Array Slot}, mD G (xA w0 s.heap.size) s.heap b u sz H locs → lv_has ls 7 [(0, .ref b), (1, .int y1), (2, .int y2), (3, .int y3), (4, .int y4), (5, .int y5), (6, .int y6)] → k6 u y1 y2 y3 y4 y5 y6 = some rr → W p l e (xR 2 0 0) s m args below meth cd H locs 0 0 (xQi G w0 (fun r z => r = rr ∧ (rr = 0 ∨ rr = 1) ∧ z = ((mW G b u), sz)) below args s 0 0) (F0 m 6 ls [])) {y1 : Int32} {y2 : Int32} {y3 : Int32} {y4 : Int32} {y6 : Int32} {s0 : Int32} {H : Heap} {locs : List Loc} {ls : Array Slot} (hD : mD G (xA w0 s.heap.size) s.heap b u sz H locs) (hl : lv_has ls 7 [(0, .ref b), (1, .int y1), (2, .int y2), (3, .int y3), (4, .int y4), (6, .int y6)]) (hF : F_X12_isAgreed_j70 k6 u y1 y2 y3 y4 y6 s0 = some rr) : W p l e (xR 2 0 0) s m args below meth cd H locs 0 0 (xQi G w0 (fun r z => r = rr ∧ (rr = 0 ∨ rr = 1) ∧ z = ((mW G b u), sz)) below args s 0 0) (F0 m 70 ls [.int s0]) := by
  have hx := hE.1; have hb := hE.2.1
  unfold F_X12_isAgreed_j70 at hF
  refine lv_istore (lv' := [(5, .int s0), (0, .ref b), (1, .int y1), (2, .int y2), (3, .int y3), (4, .int y4), (6, .int y6)]) hx hb dX12_isAgreed_70 hl (by decide) rfl (fun ls hl => ?_)
  obtain ⟨x2, ex2⟩ : ∃ y : Int32, y = y6 + (1 : Int32) := ⟨_, rfl⟩
  have hF := xlet_e hF ex2
  refine lv_iinc (v := x2) (lv' := [(6, .int x2), (5, .int s0), (0, .ref b), (1, .int y1), (2, .int y2), (3, .int y3), (4, .int y4)]) hx hb dX12_isAgreed_72 hl (k := 6) rfl (by rw [ex2]; rfl) (by decide) rfl (fun ls hl => ?_)
  refine lv_goto (tgt := 6) hx hb dX12_isAgreed_75 (by decide) ?_
  exact h6 hD (lv_sub hl [2, 3, 4, 5, 6, 1, 0] rfl) hF
def F_X12_isAgreed_j65 (k6 : xS → Int32 → Int32 → Int32 → Int32 → Int32 → Int32 → Option Int32) (u : xS) (y1 : Int32) (y2 : Int32) (y3 : Int32) (y4 : Int32) (y6 : Int32) : Option Int32 := F_X12_isAgreed_j70 k6 u y1 y2 y3 y4 y6 (1 : Int32)
theorem B_X12_isAgreed_j65 {p : Program} {l : Launch} {e : Env} {s : State} {m : MethodId} {args : Array Value} {below : List Frame} {meth : Method} {cd : Code} {G : xG} {w0 : xW} {b sz : Nat} {rr : Int32} (hE : xE p s m args meth cd cX12_isAgreed RX12 G 7 (Option.some Jvm.ClassFile.FieldType.boolean)) {u : xS} (k6 : xS → Int32 → Int32 → Int32 → Int32 → Int32 → Int32 → Option Int32) (h6 : ∀ {y1 : Int32} {y2 : Int32} {y3 : Int32} {y4 : Int32} {y5 : Int32} {y6 : Int32} {H : Heap} {locs : List Loc} {ls : Array Slot}, mD G (xA w0 s.heap.size) s.heap b u sz H locs → lv_has ls 7 [(0, .ref b), (1, .int y1), (2, .int y2), (3, .int y3), (4, .int y4), (5, .int y5), (6, .int y6)] → k6 u y1 y2 y3 y4 y5 y6 = some rr → W p l e (xR 2 0 0) s m args below meth cd H locs 0 0 (xQi G w0 (fun r z => r = rr ∧ (rr = 0 ∨ rr = 1) ∧ z = ((mW G b u), sz)) below args s 0 0) (F0 m 6 ls [])) {y1 : Int32} {y2 : Int32} {y3 : Int32} {y4 : Int32} {y6 : Int32} {H : Heap} {locs : List Loc} {ls : Array Slot} (hD : mD G (xA w0 s.heap.size) s.heap b u sz H locs) (hl : lv_has ls 7 [(0, .ref b), (1, .int y1), (2, .int y2), (3, .int y3), (4, .int y4), (6, .int y6)]) (hF : F_X12_isAgreed_j65 k6 u y1 y2 y3 y4 y6 = some rr) : W p l e (xR 2 0 0) s m args below meth cd H locs 0 0 (xQi G w0 (fun r z => r = rr ∧ (rr = 0 ∨ rr = 1) ∧ z = ((mW G b u), sz)) below args s 0 0) (F0 m 65 ls []) := by
  have hx := hE.1; have hb := hE.2.1
  unfold F_X12_isAgreed_j65 at hF
  refine lv_iconst (v := (1 : Int32)) hx hb dX12_isAgreed_65 (by decide) ?_
  refine lv_goto (tgt := 70) hx hb dX12_isAgreed_66 (by decide) ?_
  exact B_X12_isAgreed_j70 hE k6 h6 hD (lv_sub hl [0, 1, 2, 3, 4, 5] rfl) hF
def F_X12_isAgreed_l6 : Nat → xS → Int32 → Int32 → Int32 → Int32 → Int32 → Int32 → Option Int32
  | 0, _, _, _, _, _, _, _ => none
  | nn + 1, u, y1, y2, y3, y4, y5, y6 => if xIn (2 : Int32) 303 then if (u.2.1 0 (2 : Int32).toNatClampNeg) ≤ y6 then F_X12_isAgreed_j78 u y5 else if y5 = 0 then F_X12_isAgreed_j78 u y5 else if y6 = y4 then F_X12_isAgreed_j65 (F_X12_isAgreed_l6 nn) u y1 y2 y3 y4 y6 else if xIn ((59 : Int32) + ((2 : Int32) * y6)) 303 then (F_X12_made y1 ((u.2.1 0 ((59 : Int32) + ((2 : Int32) * y6)).toNatClampNeg).toInt64) y2 y3).bind (fun r8 => if xIn (((59 : Int32) + ((2 : Int32) * y6)) + (1 : Int32)) 303 then if r8 = (u.2.1 0 (((59 : Int32) + ((2 : Int32) * y6)) + (1 : Int32)).toNatClampNeg) then F_X12_isAgreed_j65 (F_X12_isAgreed_l6 nn) u y1 y2 y3 y4 y6 else F_X12_isAgreed_j70 (F_X12_isAgreed_l6 nn) u y1 y2 y3 y4 y6 (0 : Int32) else none) else none else none
theorem L_X12_isAgreed_l6 {p : Program} {l : Launch} {e : Env} {s : State} {m : MethodId} {args : Array Value} {below : List Frame} {meth : Method} {cd : Code} {G : xG} {w0 : xW} {b sz : Nat} {rr : Int32} (hE : xE p s m args meth cd cX12_isAgreed RX12 G 7 (Option.some Jvm.ClassFile.FieldType.boolean)) : ∀ (nn : Nat) {u : xS} {y1 : Int32} {y2 : Int32} {y3 : Int32} {y4 : Int32} {y5 : Int32} {y6 : Int32} {H : Heap} {locs : List Loc} {ls : Array Slot}, mD G (xA w0 s.heap.size) s.heap b u sz H locs → lv_has ls 7 [(0, .ref b), (1, .int y1), (2, .int y2), (3, .int y3), (4, .int y4), (5, .int y5), (6, .int y6)] → F_X12_isAgreed_l6 nn u y1 y2 y3 y4 y5 y6 = some rr → W p l e (xR 2 0 0) s m args below meth cd H locs 0 0 (xQi G w0 (fun r z => r = rr ∧ (rr = 0 ∨ rr = 1) ∧ z = ((mW G b u), sz)) below args s 0 0) (F0 m 6 ls []) := by
  have hx := hE.1; have hb := hE.2.1
  intro nn
  induction nn with
  | zero => intro u y1 y2 y3 y4 y5 y6 H locs ls hD hl hF; rw [F_X12_isAgreed_l6] at hF; cases hF
  | succ nn ih =>
    intro u y1 y2 y3 y4 y5 y6 H locs ls hD hl hF
    rw [F_X12_isAgreed_l6] at hF
    refine lv_iload hx hb dX12_isAgreed_6 (lv_at hl 6 rfl) ?_
    refine lv_aload_n hx hb dX12_isAgreed_8 rfl (lv_at hl 0 rfl) ?_
    refine gf_X12_7 hE hD dX12_isAgreed_9 ?_
    refine lv_iconst (v := (2 : Int32)) hx hb dX12_isAgreed_12 (by decide) ?_
    obtain ⟨h3, hF⟩ := ite_s hF
    refine ma_ld_0 hE hD h3 dX12_isAgreed_13 ?_
    refine lv_icmp_ge (tgt := 78) hx hb dX12_isAgreed_14 (by decide) (fun c4 => ?_) (fun c4 => ?_)
    · have hF := ite_p hF c4
      exact B_X12_isAgreed_j78 hE hD (lv_sub hl [0, 5] rfl) hF
    · have hF := ite_n hF c4
      refine lv_iload hx hb dX12_isAgreed_17 (lv_at hl 5 rfl) ?_
      refine lv_if_eq (tgt := 78) hx hb dX12_isAgreed_19 (by decide) (fun c5 => ?_) (fun c5 => ?_)
      · have hF := ite_p hF c5
        exact B_X12_isAgreed_j78 hE hD (lv_sub hl [0, 5] rfl) hF
      · have hF := ite_n hF c5
        refine lv_iload hx hb dX12_isAgreed_22 (lv_at hl 6 rfl) ?_
        refine lv_iload hx hb dX12_isAgreed_24 (lv_at hl 4 rfl) ?_
        refine lv_icmp_eq (tgt := 65) hx hb dX12_isAgreed_26 (by decide) (fun c6 => ?_) (fun c6 => ?_)
        · have hF := ite_p hF c6
          exact B_X12_isAgreed_j65 hE (F_X12_isAgreed_l6 nn) ih hD (lv_sub hl [0, 1, 2, 3, 4, 6] rfl) hF
        · have hF := ite_n hF c6
          refine lv_iload_n hx hb dX12_isAgreed_29 rfl (lv_at hl 1 rfl) ?_
          refine lv_aload_n hx hb dX12_isAgreed_30 rfl (lv_at hl 0 rfl) ?_
          refine gf_X12_7 hE hD dX12_isAgreed_31 ?_
          refine lv_bipush (v := (59 : Int32)) hx hb dX12_isAgreed_34 (by decide) ?_
          refine lv_iconst (v := (2 : Int32)) hx hb dX12_isAgreed_36 (by decide) ?_
          refine lv_iload hx hb dX12_isAgreed_37 (lv_at hl 6 rfl) ?_
          refine lv_imul hx hb dX12_isAgreed_39 ?_
          refine lv_iadd hx hb dX12_isAgreed_40 ?_
          obtain ⟨h7, hF⟩ := ite_s hF
          refine ma_ld_0 hE hD h7 dX12_isAgreed_41 ?_
          refine lv_i2l (v := (u.2.1 0 ((59 : Int32) + ((2 : Int32) * y6)).toNatClampNeg).toInt64) hx hb dX12_isAgreed_42 rfl ?_
          refine lv_iload_n hx hb dX12_isAgreed_43 rfl (lv_at hl 2 rfl) ?_
          refine lv_iload_n hx hb dX12_isAgreed_44 rfl (lv_at hl 3 rfl) ?_
          obtain ⟨r8, k9, hF⟩ := xb_s hF
          refine kSi (As := [.int y1, .long ((u.2.1 0 ((59 : Int32) + ((2 : Int32) * y6)).toNatClampNeg).toInt64), .int y2, .int y3]) (rest := []) hE hl hD (c_X12_made k9) kl_X12_127 rfl rfl (Nat.le_of_ble_eq_true rfl) dX12_isAgreed_45 ⟨Nat.le_of_ble_eq_true rfl, Nat.le_of_ble_eq_true rfl⟩ ⟨Nat.le_of_ble_eq_true rfl, Nat.le_of_ble_eq_true rfl⟩ (fun H locs (hD : mD G _ _ b u sz H locs) => ?_)
          refine lv_aload_n hx hb dX12_isAgreed_48 rfl (lv_at hl 0 rfl) ?_
          refine gf_X12_7 hE hD dX12_isAgreed_49 ?_
          refine lv_bipush (v := (59 : Int32)) hx hb dX12_isAgreed_52 (by decide) ?_
          refine lv_iconst (v := (2 : Int32)) hx hb dX12_isAgreed_54 (by decide) ?_
          refine lv_iload hx hb dX12_isAgreed_55 (lv_at hl 6 rfl) ?_
          refine lv_imul hx hb dX12_isAgreed_57 ?_
          refine lv_iadd hx hb dX12_isAgreed_58 ?_
          refine lv_iconst (v := (1 : Int32)) hx hb dX12_isAgreed_59 (by decide) ?_
          refine lv_iadd hx hb dX12_isAgreed_60 ?_
          obtain ⟨h10, hF⟩ := ite_s hF
          refine ma_ld_0 hE hD h10 dX12_isAgreed_61 ?_
          refine lv_icmp_ne (tgt := 69) hx hb dX12_isAgreed_62 (by decide) (fun c11 => ?_) (fun c11 => ?_)
          · have hF := ite_n hF c11
            refine lv_iconst (v := (0 : Int32)) hx hb dX12_isAgreed_69 (by decide) ?_
            exact B_X12_isAgreed_j70 hE (F_X12_isAgreed_l6 nn) ih hD (lv_sub hl [0, 1, 2, 3, 4, 6] rfl) hF
          · have hF := ite_p hF c11
            exact B_X12_isAgreed_j65 hE (F_X12_isAgreed_l6 nn) ih hD (lv_sub hl [0, 1, 2, 3, 4, 6] rfl) hF
def F_X12_isAgreed (u : xS) (xa : Int32) (xb : Int32) (xc : Int32) (xd : Int32) : Option Int32 := F_X12_isAgreed_l6 xFuel u xa xb xc xd (1 : Int32) (0 : Int32)
theorem c_X12_isAgreed {l : Launch} {G : xG} {b sz : Nat} {rr : Int32} {u : xS} {xa : Int32} {xb : Int32} {xc : Int32} {xd : Int32} (hF : F_X12_isAgreed u xa xb xc xd = some rr) : xMi l G yX12_isAgreed cX12_isAgreed 7 (Option.some Jvm.ClassFile.FieldType.boolean) 2 0 0 [.ref b, .int xa, .int xb, .int xc, .int xd] (mW G b u) sz (fun r z => r = rr ∧ (rr = 0 ∨ rr = 1) ∧ z = ((mW G b u), sz)) := by
  unfold F_X12_isAgreed at hF
  refine x_startI rfl (Nat.le_of_ble_eq_true rfl) (fun p e s m args below meth cd ls hE hnm hl hD => ?_)
  have hx := hE.1; have hb := hE.2.1
  have hl : lv_has ls 7 [(0, .ref b), (1, .int xa), (2, .int xb), (3, .int xc), (4, .int xd)] := hl
  have hD : mD G (xA (mW G b u) s.heap.size) s.heap b u sz s.heap [] := hD
  refine lv_iconst (v := (1 : Int32)) hx hb dX12_isAgreed_0 (by decide) ?_
  refine lv_istore (lv' := [(5, .int (1 : Int32)), (0, .ref b), (1, .int xa), (2, .int xb), (3, .int xc), (4, .int xd)]) hx hb dX12_isAgreed_1 hl (by decide) rfl (fun ls hl => ?_)
  refine lv_iconst (v := (0 : Int32)) hx hb dX12_isAgreed_3 (by decide) ?_
  refine lv_istore (lv' := [(6, .int (0 : Int32)), (5, .int (1 : Int32)), (0, .ref b), (1, .int xa), (2, .int xb), (3, .int xc), (4, .int xd)]) hx hb dX12_isAgreed_4 hl (by decide) rfl (fun ls hl => ?_)
  exact L_X12_isAgreed_l6 hE _ hD (lv_sub hl [2, 3, 4, 5, 6, 1, 0] rfl) hF
def F_X12_guesses_j61 (k12 : xS → Int32 → Int32 → Int32 → Int32 → Option (Int32 × xS)) (u : xS) (y1 : Int32) (y2 : Int32) (y3 : Int32) (y4 : Int32) : Option (Int32 × xS) := xlet (y4 + (1 : Int32)) (fun x1 => k12 u y1 y2 y3 x1)
theorem B_X12_guesses_j61 {p : Program} {l : Launch} {e : Env} {s : State} {m : MethodId} {args : Array Value} {below : List Frame} {meth : Method} {cd : Code} {G : xG} {w0 : xW} {b sz : Nat} {rr : (Int32 × xS)} (hE : xE p s m args meth cd cX12_guesses RX12 G 5 (Option.some Jvm.ClassFile.FieldType.int)) {u : xS} (k12 : xS → Int32 → Int32 → Int32 → Int32 → Option (Int32 × xS)) (h12 : ∀ {u1 : xS} {y1 : Int32} {y2 : Int32} {y3 : Int32} {y4 : Int32} {H : Heap} {locs : List Loc} {ls : Array Slot}, mD G (xA w0 s.heap.size) s.heap b u1 sz H locs → lv_has ls 5 [(0, .ref b), (1, .int y1), (2, .int y2), (3, .int y3), (4, .int y4)] → k12 u1 y1 y2 y3 y4 = some rr → W p l e (xR 3 0 0) s m args below meth cd H locs 0 0 (xQi G w0 (fun r z => r = rr.1 ∧ z = ((mW G b rr.2), sz)) below args s 0 0) (F0 m 12 ls [])) {y1 : Int32} {y2 : Int32} {y3 : Int32} {y4 : Int32} {H : Heap} {locs : List Loc} {ls : Array Slot} (hD : mD G (xA w0 s.heap.size) s.heap b u sz H locs) (hl : lv_has ls 5 [(0, .ref b), (1, .int y1), (2, .int y2), (3, .int y3), (4, .int y4)]) (hF : F_X12_guesses_j61 k12 u y1 y2 y3 y4 = some rr) : W p l e (xR 3 0 0) s m args below meth cd H locs 0 0 (xQi G w0 (fun r z => r = rr.1 ∧ z = ((mW G b rr.2), sz)) below args s 0 0) (F0 m 61 ls []) := by
  have hx := hE.1; have hb := hE.2.1
  unfold F_X12_guesses_j61 at hF
  obtain ⟨x1, ex1⟩ : ∃ y : Int32, y = y4 + (1 : Int32) := ⟨_, rfl⟩
  have hF := xlet_e hF ex1
  refine lv_iinc (v := x1) (lv' := [(4, .int x1), (0, .ref b), (1, .int y1), (2, .int y2), (3, .int y3)]) hx hb dX12_guesses_61 hl (k := 4) rfl (by rw [ex1]; rfl) (by decide) rfl (fun ls hl => ?_)
  refine lv_goto (tgt := 12) hx hb dX12_guesses_64 (by decide) ?_
  exact h12 hD (lv_sub hl [1, 2, 3, 4, 0] rfl) hF
def F_X12_guesses_j55 (k12 : xS → Int32 → Int32 → Int32 → Int32 → Option (Int32 × xS)) (u : xS) (y1 : Int32) (y2 : Int32) (y3 : Int32) (y4 : Int32) (s1 : Int32) : Option (Int32 × xS) := xlet (mS u 14 s1) (fun u2 => xlet (y3 + (1 : Int32)) (fun x3 => F_X12_guesses_j61 k12 u2 y1 y2 x3 y4))
theorem B_X12_guesses_j55 {p : Program} {l : Launch} {e : Env} {s : State} {m : MethodId} {args : Array Value} {below : List Frame} {meth : Method} {cd : Code} {G : xG} {w0 : xW} {b sz : Nat} {rr : (Int32 × xS)} (hE : xE p s m args meth cd cX12_guesses RX12 G 5 (Option.some Jvm.ClassFile.FieldType.int)) {u : xS} (k12 : xS → Int32 → Int32 → Int32 → Int32 → Option (Int32 × xS)) (h12 : ∀ {u1 : xS} {y1 : Int32} {y2 : Int32} {y3 : Int32} {y4 : Int32} {H : Heap} {locs : List Loc} {ls : Array Slot}, mD G (xA w0 s.heap.size) s.heap b u1 sz H locs → lv_has ls 5 [(0, .ref b), (1, .int y1), (2, .int y2), (3, .int y3), (4, .int y4)] → k12 u1 y1 y2 y3 y4 = some rr → W p l e (xR 3 0 0) s m args below meth cd H locs 0 0 (xQi G w0 (fun r z => r = rr.1 ∧ z = ((mW G b rr.2), sz)) below args s 0 0) (F0 m 12 ls [])) {y1 : Int32} {y2 : Int32} {y3 : Int32} {y4 : Int32} {s1 : Int32} {H : Heap} {locs : List Loc} {ls : Array Slot} (hD : mD G (xA w0 s.heap.size) s.heap b u sz H locs) (hl : lv_has ls 5 [(0, .ref b), (1, .int y1), (2, .int y2), (3, .int y3), (4, .int y4)]) (hF : F_X12_guesses_j55 k12 u y1 y2 y3 y4 s1 = some rr) : W p l e (xR 3 0 0) s m args below meth cd H locs 0 0 (xQi G w0 (fun r z => r = rr.1 ∧ z = ((mW G b rr.2), sz)) below args s 0 0) (F0 m 55 ls [.int s1, .ref b]) := by
  have hx := hE.1; have hb := hE.2.1
  unfold F_X12_guesses_j55 at hF
  refine pf_X12_210 hE hD dX12_guesses_55 (fun u2 H locs eu2 hD => ?_)
  have hF := xlet_e hF eu2
  obtain ⟨x3, ex3⟩ : ∃ y : Int32, y = y3 + (1 : Int32) := ⟨_, rfl⟩
  have hF := xlet_e hF ex3
  refine lv_iinc (v := x3) (lv' := [(3, .int x3), (0, .ref b), (1, .int y1), (2, .int y2), (4, .int y4)]) hx hb dX12_guesses_58 hl (k := 3) rfl (by rw [ex3]; rfl) (by decide) rfl (fun ls hl => ?_)
  exact B_X12_guesses_j61 hE k12 h12 hD (lv_sub hl [1, 2, 3, 0, 4] rfl) hF
def F_X12_guesses_l12 : Nat → xS → Int32 → Int32 → Int32 → Int32 → Option (Int32 × xS)
  | 0, _, _, _, _, _ => none
  | nn + 1, u, y1, y2, y3, y4 => if (10000 : Int32) ≤ y4 then some (y3, u) else (F_X12_isAgreed u y1 (y4 / (1000 : Int32)) (y4 - y4 / (1000 : Int32) * (1000 : Int32)) y2).bind (fun r5 => if r5 = 0 then F_X12_guesses_j61 (F_X12_guesses_l12 nn) u y1 y2 y3 y4 else if y3 = 0 then F_X12_guesses_j55 (F_X12_guesses_l12 nn) u y1 y2 y3 y4 y4 else F_X12_guesses_j55 (F_X12_guesses_l12 nn) u y1 y2 y3 y4 (u.1 14))
theorem L_X12_guesses_l12 {p : Program} {l : Launch} {e : Env} {s : State} {m : MethodId} {args : Array Value} {below : List Frame} {meth : Method} {cd : Code} {G : xG} {w0 : xW} {b sz : Nat} {rr : (Int32 × xS)} (hE : xE p s m args meth cd cX12_guesses RX12 G 5 (Option.some Jvm.ClassFile.FieldType.int)) : ∀ (nn : Nat) {u : xS} {y1 : Int32} {y2 : Int32} {y3 : Int32} {y4 : Int32} {H : Heap} {locs : List Loc} {ls : Array Slot}, mD G (xA w0 s.heap.size) s.heap b u sz H locs → lv_has ls 5 [(0, .ref b), (1, .int y1), (2, .int y2), (3, .int y3), (4, .int y4)] → F_X12_guesses_l12 nn u y1 y2 y3 y4 = some rr → W p l e (xR 3 0 0) s m args below meth cd H locs 0 0 (xQi G w0 (fun r z => r = rr.1 ∧ z = ((mW G b rr.2), sz)) below args s 0 0) (F0 m 12 ls []) := by
  have hx := hE.1; have hb := hE.2.1
  intro nn
  induction nn with
  | zero => intro u y1 y2 y3 y4 H locs ls hD hl hF; rw [F_X12_guesses_l12] at hF; cases hF
  | succ nn ih =>
    intro u y1 y2 y3 y4 H locs ls hD hl hF
    rw [F_X12_guesses_l12] at hF
    refine lv_iload hx hb dX12_guesses_12 (lv_at hl 4 rfl) ?_
    refine lv_sipush (v := (10000 : Int32)) hx hb dX12_guesses_14 (by decide) ?_
    refine lv_icmp_ge (tgt := 67) hx hb dX12_guesses_17 (by decide) (fun c4 => ?_) (fun c4 => ?_)
    · have hF := ite_p hF c4
      refine lv_iload_n hx hb dX12_guesses_67 rfl (lv_at hl 3 rfl) ?_
      obtain rfl := Option.some.inj hF
      exact x_iret hE hD ⟨rfl, rfl⟩ (by omega) (by omega) dX12_guesses_68
    · have hF := ite_n hF c4
      refine lv_aload_n hx hb dX12_guesses_20 rfl (lv_at hl 0 rfl) ?_
      refine lv_iload_n hx hb dX12_guesses_21 rfl (lv_at hl 1 rfl) ?_
      refine lv_iload hx hb dX12_guesses_22 (lv_at hl 4 rfl) ?_
      refine lv_sipush (v := (1000 : Int32)) hx hb dX12_guesses_24 (by decide) ?_
      refine lv_idiv hx hb dX12_guesses_27 (by decide) ?_
      refine lv_iload hx hb dX12_guesses_28 (lv_at hl 4 rfl) ?_
      refine lv_sipush (v := (1000 : Int32)) hx hb dX12_guesses_30 (by decide) ?_
      refine lv_irem hx hb dX12_guesses_33 (by decide) ?_
      refine lv_iload_n hx hb dX12_guesses_34 rfl (lv_at hl 2 rfl) ?_
      obtain ⟨r5, k6, hF⟩ := xb_s hF
      refine kVz (As := [.int y1, .int (y4 / (1000 : Int32)), .int (y4 - y4 / (1000 : Int32) * (1000 : Int32)), .int y2]) (rest := []) hE hl hD (c_X12_isAgreed (b := b) k6) kl_X12_213 (mW_0 _ _ _) rfl rfl rfl rfl (Nat.le_of_ble_eq_true rfl) dX12_guesses_35 ⟨Nat.le_of_ble_eq_true rfl, Nat.le_of_ble_eq_true rfl⟩ ⟨Nat.le_of_ble_eq_true rfl, Nat.le_of_ble_eq_true rfl⟩ (fun H locs z7 (hD : mD G _ _ b u sz H locs) => ?_)
      refine lv_if_eq (tgt := 61) hx hb dX12_guesses_38 (by decide) (fun c8 => ?_) (fun c8 => ?_)
      · have hF := ite_p hF c8
        exact B_X12_guesses_j61 hE (F_X12_guesses_l12 nn) ih hD (lv_sub hl [0, 1, 2, 3, 4] rfl) hF
      · have hF := ite_n hF c8
        refine lv_aload_n hx hb dX12_guesses_41 rfl (lv_at hl 0 rfl) ?_
        refine lv_iload_n hx hb dX12_guesses_42 rfl (lv_at hl 3 rfl) ?_
        refine lv_if_ne (tgt := 51) hx hb dX12_guesses_43 (by decide) (fun c9 => ?_) (fun c9 => ?_)
        · have hF := ite_n hF c9
          refine lv_aload_n hx hb dX12_guesses_51 rfl (lv_at hl 0 rfl) ?_
          refine gf_X12_210 hE hD dX12_guesses_52 ?_
          exact B_X12_guesses_j55 hE (F_X12_guesses_l12 nn) ih hD (lv_sub hl [0, 1, 2, 3, 4] rfl) hF
        · have hF := ite_p hF c9
          refine lv_iload hx hb dX12_guesses_46 (lv_at hl 4 rfl) ?_
          refine lv_goto (tgt := 55) hx hb dX12_guesses_48 (by decide) ?_
          exact B_X12_guesses_j55 hE (F_X12_guesses_l12 nn) ih hD (lv_sub hl [0, 1, 2, 3, 4] rfl) hF
def F_X12_guesses (u : xS) (xa : Int32) (xb : Int32) : Option (Int32 × xS) := xlet (mS u 14 (-1 : Int32)) (fun u10 => F_X12_guesses_l12 xFuel u10 xa xb (0 : Int32) (1000 : Int32))
theorem c_X12_guesses {l : Launch} {G : xG} {b sz : Nat} {rr : (Int32 × xS)} {u : xS} {xa : Int32} {xb : Int32} (hF : F_X12_guesses u xa xb = some rr) : xMi l G yX12_guesses cX12_guesses 5 (Option.some Jvm.ClassFile.FieldType.int) 3 0 0 [.ref b, .int xa, .int xb] (mW G b u) sz (fun r z => r = rr.1 ∧ z = ((mW G b rr.2), sz)) := by
  unfold F_X12_guesses at hF
  refine x_startI rfl (Nat.le_of_ble_eq_true rfl) (fun p e s m args below meth cd ls hE hnm hl hD => ?_)
  have hx := hE.1; have hb := hE.2.1
  have hl : lv_has ls 5 [(0, .ref b), (1, .int xa), (2, .int xb)] := hl
  have hD : mD G (xA (mW G b u) s.heap.size) s.heap b u sz s.heap [] := hD
  refine lv_iconst (v := (0 : Int32)) hx hb dX12_guesses_0 (by decide) ?_
  refine lv_istore_n (lv' := [(3, .int (0 : Int32)), (0, .ref b), (1, .int xa), (2, .int xb)]) hx hb dX12_guesses_1 rfl hl (by decide) rfl (fun ls hl => ?_)
  refine lv_aload_n hx hb dX12_guesses_2 rfl (lv_at hl 1 rfl) ?_
  refine lv_iconst (v := (-1 : Int32)) hx hb dX12_guesses_3 (by decide) ?_
  refine pf_X12_210 hE hD dX12_guesses_4 (fun u10 H locs eu10 hD => ?_)
  have hF := xlet_e hF eu10
  refine lv_sipush (v := (1000 : Int32)) hx hb dX12_guesses_7 (by decide) ?_
  refine lv_istore (lv' := [(4, .int (1000 : Int32)), (3, .int (0 : Int32)), (0, .ref b), (1, .int xa), (2, .int xb)]) hx hb dX12_guesses_10 hl (by decide) rfl (fun ls hl => ?_)
  exact L_X12_guesses_l12 hE _ hD (lv_sub hl [2, 3, 4, 1, 0] rfl) hF
def F_X12_isGuessed_j20 (s0 : Int32) : Option Int32 := if s0 = 0 ∨ s0 = 1 then some s0 else none
theorem B_X12_isGuessed_j20 {p : Program} {l : Launch} {e : Env} {s : State} {m : MethodId} {args : Array Value} {below : List Frame} {meth : Method} {cd : Code} {G : xG} {w0 : xW} {w : xW} {sz : Nat} {rr : Int32} (hE : xE p s m args meth cd cX12_isGuessed RX12 G 1 (Option.some Jvm.ClassFile.FieldType.boolean)) {s0 : Int32} {H : Heap} {locs : List Loc} {ls : Array Slot} (hD : xD G (xA w0 s.heap.size) s.heap w sz H locs) (hl : lv_has ls 1 []) (hF : F_X12_isGuessed_j20 s0 = some rr) : W p l e (xR 1 0 0) s m args below meth cd H locs 0 0 (xQi G w0 (fun r z => r = rr ∧ (rr = 0 ∨ rr = 1) ∧ z = (w, sz)) below args s 0 0) (F0 m 20 ls [.int s0]) := by
  have hx := hE.1; have hb := hE.2.1
  unfold F_X12_isGuessed_j20 at hF
  obtain ⟨h1, hF⟩ := ite_s hF
  obtain rfl := Option.some.inj hF
  exact x_zret hE hD h1 ⟨rfl, h1, rfl⟩ (by omega) (by omega) dX12_isGuessed_20
def F_X12_isGuessed_j15  : Option Int32 := F_X12_isGuessed_j20 (1 : Int32)
theorem B_X12_isGuessed_j15 {p : Program} {l : Launch} {e : Env} {s : State} {m : MethodId} {args : Array Value} {below : List Frame} {meth : Method} {cd : Code} {G : xG} {w0 : xW} {w : xW} {sz : Nat} {rr : Int32} (hE : xE p s m args meth cd cX12_isGuessed RX12 G 1 (Option.some Jvm.ClassFile.FieldType.boolean))  {H : Heap} {locs : List Loc} {ls : Array Slot} (hD : xD G (xA w0 s.heap.size) s.heap w sz H locs) (hl : lv_has ls 1 []) (hF : F_X12_isGuessed_j15  = some rr) : W p l e (xR 1 0 0) s m args below meth cd H locs 0 0 (xQi G w0 (fun r z => r = rr ∧ (rr = 0 ∨ rr = 1) ∧ z = (w, sz)) below args s 0 0) (F0 m 15 ls []) := by
  have hx := hE.1; have hb := hE.2.1
  unfold F_X12_isGuessed_j15 at hF
  refine lv_iconst (v := (1 : Int32)) hx hb dX12_isGuessed_15 (by decide) ?_
  refine lv_goto (tgt := 20) hx hb dX12_isGuessed_16 (by decide) ?_
  exact B_X12_isGuessed_j20 hE hD (lv_sub hl [] rfl) hF
def F_X12_isGuessed (xa : Int32) : Option Int32 := if xa = (1 : Int32) then F_X12_isGuessed_j15 else if xa = (2 : Int32) then F_X12_isGuessed_j15 else if xa = (4 : Int32) then F_X12_isGuessed_j15 else F_X12_isGuessed_j20 (0 : Int32)
theorem c_X12_isGuessed {l : Launch} {G : xG} {w : xW} {sz : Nat} {rr : Int32} {xa : Int32} (hF : F_X12_isGuessed xa = some rr) : xMi l G yX12_isGuessed cX12_isGuessed 1 (Option.some Jvm.ClassFile.FieldType.boolean) 1 0 0 [.int xa] w sz (fun r z => r = rr ∧ (rr = 0 ∨ rr = 1) ∧ z = (w, sz)) := by
  unfold F_X12_isGuessed at hF
  refine x_startI rfl (Nat.le_of_ble_eq_true rfl) (fun p e s m args below meth cd ls hE hnm hl hD => ?_)
  have hx := hE.1; have hb := hE.2.1
  have hl : lv_has ls 1 [(0, .int xa)] := hl
  refine lv_iload_n hx hb dX12_isGuessed_0 rfl (lv_at hl 0 rfl) ?_
  refine lv_iconst (v := (1 : Int32)) hx hb dX12_isGuessed_1 (by decide) ?_
  refine lv_icmp_eq (tgt := 15) hx hb dX12_isGuessed_2 (by decide) (fun c2 => ?_) (fun c2 => ?_)
  · have hF := ite_p hF c2
    exact B_X12_isGuessed_j15 hE hD (lv_sub hl [] rfl) hF
  · have hF := ite_n hF c2
    refine lv_iload_n hx hb dX12_isGuessed_5 rfl (lv_at hl 0 rfl) ?_
    refine lv_iconst (v := (2 : Int32)) hx hb dX12_isGuessed_6 (by decide) ?_
    refine lv_icmp_eq (tgt := 15) hx hb dX12_isGuessed_7 (by decide) (fun c3 => ?_) (fun c3 => ?_)
    · have hF := ite_p hF c3
      exact B_X12_isGuessed_j15 hE hD (lv_sub hl [] rfl) hF
    · have hF := ite_n hF c3
      refine lv_iload_n hx hb dX12_isGuessed_10 rfl (lv_at hl 0 rfl) ?_
      refine lv_iconst (v := (4 : Int32)) hx hb dX12_isGuessed_11 (by decide) ?_
      refine lv_icmp_ne (tgt := 19) hx hb dX12_isGuessed_12 (by decide) (fun c4 => ?_) (fun c4 => ?_)
      · have hF := ite_n hF c4
        refine lv_iconst (v := (0 : Int32)) hx hb dX12_isGuessed_19 (by decide) ?_
        exact B_X12_isGuessed_j20 hE hD (lv_sub hl [] rfl) hF
      · have hF := ite_p hF c4
        exact B_X12_isGuessed_j15 hE hD (lv_sub hl [] rfl) hF
def F_X12_fits_j69 (u : xS) (s0 : Int32) : Option (Int32 × xS) := some (s0, u)
theorem B_X12_fits_j69 {p : Program} {l : Launch} {e : Env} {s : State} {m : MethodId} {args : Array Value} {below : List Frame} {meth : Method} {cd : Code} {G : xG} {w0 : xW} {b sz : Nat} {rr : (Int32 × xS)} (hE : xE p s m args meth cd cX12_fits RX12 G 4 (Option.some Jvm.ClassFile.FieldType.int)) {u : xS} {s0 : Int32} {H : Heap} {locs : List Loc} {ls : Array Slot} (hD : mD G (xA w0 s.heap.size) s.heap b u sz H locs) (hl : lv_has ls 4 [(0, .ref b)]) (hF : F_X12_fits_j69 u s0 = some rr) : W p l e (xR 4 0 0) s m args below meth cd H locs 0 0 (xQi G w0 (fun r z => r = rr.1 ∧ z = ((mW G b rr.2), sz)) below args s 0 0) (F0 m 69 ls [.int s0]) := by
  have hx := hE.1; have hb := hE.2.1
  unfold F_X12_fits_j69 at hF
  obtain rfl := Option.some.inj hF
  exact x_iret hE hD ⟨rfl, rfl⟩ (by omega) (by omega) dX12_fits_69
def F_X12_fits_j19 (u : xS)  : Option (Int32 × xS) := some ((-1 : Int32), u)
theorem B_X12_fits_j19 {p : Program} {l : Launch} {e : Env} {s : State} {m : MethodId} {args : Array Value} {below : List Frame} {meth : Method} {cd : Code} {G : xG} {w0 : xW} {b sz : Nat} {rr : (Int32 × xS)} (hE : xE p s m args meth cd cX12_fits RX12 G 4 (Option.some Jvm.ClassFile.FieldType.int)) {u : xS}  {H : Heap} {locs : List Loc} {ls : Array Slot} (hD : mD G (xA w0 s.heap.size) s.heap b u sz H locs) (hl : lv_has ls 4 [(0, .ref b)]) (hF : F_X12_fits_j19 u  = some rr) : W p l e (xR 4 0 0) s m args below meth cd H locs 0 0 (xQi G w0 (fun r z => r = rr.1 ∧ z = ((mW G b rr.2), sz)) below args s 0 0) (F0 m 19 ls []) := by
  have hx := hE.1; have hb := hE.2.1
  unfold F_X12_fits_j19 at hF
  refine lv_iconst (v := (-1 : Int32)) hx hb dX12_fits_19 (by decide) ?_
  obtain rfl := Option.some.inj hF
  exact x_iret hE hD ⟨rfl, rfl⟩ (by omega) (by omega) dX12_fits_20
def F_X12_fits (u : xS) (xa : Int32) (xb : Int32) : Option (Int32 × xS) := (F_X12_isGuessed xa).bind (fun r1 => if r1 = 0 then F_X12_fits_j19 u else (F_X12_in xb.toInt64 (0 : Int64) (2 : Int64)).bind (fun r5 => if r5 = 0 then F_X12_fits_j19 u else (F_X12_guesses u xa (-1 : Int32)).bind (fun r9 => if xb = 0 then F_X12_fits_j69 r9.2 r9.1 else if r9.1 = 0 then F_X12_fits_j69 r9.2 (-3 : Int32) else if xb = (1 : Int32) then F_X12_fits_j69 r9.2 ((r9.2.1 14) / (1000 : Int32)) else F_X12_fits_j69 r9.2 ((r9.2.1 14) - (r9.2.1 14) / (1000 : Int32) * (1000 : Int32)))))
theorem c_X12_fits {l : Launch} {G : xG} {b sz : Nat} {rr : (Int32 × xS)} {u : xS} {xa : Int32} {xb : Int32} (hF : F_X12_fits u xa xb = some rr) : xMi l G yX12_fits cX12_fits 4 (Option.some Jvm.ClassFile.FieldType.int) 4 0 0 [.ref b, .int xa, .int xb] (mW G b u) sz (fun r z => r = rr.1 ∧ z = ((mW G b rr.2), sz)) := by
  unfold F_X12_fits at hF
  refine x_startI rfl (Nat.le_of_ble_eq_true rfl) (fun p e s m args below meth cd ls hE hnm hl hD => ?_)
  have hx := hE.1; have hb := hE.2.1
  have hl : lv_has ls 4 [(0, .ref b), (1, .int xa), (2, .int xb)] := hl
  have hD : mD G (xA (mW G b u) s.heap.size) s.heap b u sz s.heap [] := hD
  refine lv_iload_n hx hb dX12_fits_0 rfl (lv_at hl 1 rfl) ?_
  obtain ⟨r1, k2, hF⟩ := xb_s hF
  refine kSz (As := [.int xa]) (rest := []) hE hl hD (c_X12_isGuessed k2) kl_X12_216 rfl rfl (Nat.le_of_ble_eq_true rfl) dX12_fits_1 ⟨Nat.le_of_ble_eq_true rfl, Nat.le_of_ble_eq_true rfl⟩ ⟨Nat.le_of_ble_eq_true rfl, Nat.le_of_ble_eq_true rfl⟩ (fun H locs z3 (hD : mD G _ _ b u sz H locs) => ?_)
  refine lv_if_eq (tgt := 19) hx hb dX12_fits_4 (by decide) (fun c4 => ?_) (fun c4 => ?_)
  · have hF := ite_p hF c4
    exact B_X12_fits_j19 hE hD (lv_sub hl [0] rfl) hF
  · have hF := ite_n hF c4
    refine lv_iload_n hx hb dX12_fits_7 rfl (lv_at hl 2 rfl) ?_
    refine lv_i2l (v := xb.toInt64) hx hb dX12_fits_8 rfl ?_
    refine lv_lconst (v := (0 : Int64)) hx hb dX12_fits_9 (by decide) ?_
    refine lv_ldc2 (v := (2 : Int64)) hx hb hE.2.2.1 (hE.2.2.2.1 _ kw6_124) dX12_fits_10 ?_
    obtain ⟨r5, k6, hF⟩ := xb_s hF
    refine kSz (As := [.long xb.toInt64, .long (0 : Int64), .long (2 : Int64)]) (rest := []) hE hl hD (c_X12_in k6) kl_X12_67 rfl rfl (Nat.le_of_ble_eq_true rfl) dX12_fits_13 ⟨Nat.le_of_ble_eq_true rfl, Nat.le_of_ble_eq_true rfl⟩ ⟨Nat.le_of_ble_eq_true rfl, Nat.le_of_ble_eq_true rfl⟩ (fun H locs z7 (hD : mD G _ _ b u sz H locs) => ?_)
    refine lv_if_ne (tgt := 21) hx hb dX12_fits_16 (by decide) (fun c8 => ?_) (fun c8 => ?_)
    · have hF := ite_n hF c8
      refine lv_aload_n hx hb dX12_fits_21 rfl (lv_at hl 0 rfl) ?_
      refine lv_iload_n hx hb dX12_fits_22 rfl (lv_at hl 1 rfl) ?_
      refine lv_iconst (v := (-1 : Int32)) hx hb dX12_fits_23 (by decide) ?_
      obtain ⟨r9, k10, hF⟩ := xb_s hF
      refine kVi (As := [.int xa, .int (-1 : Int32)]) (rest := []) hE hl hD (c_X12_guesses (b := b) k10) kl_X12_219 (mW_0 _ _ _) rfl rfl rfl rfl (Nat.le_of_ble_eq_true rfl) dX12_fits_24 ⟨Nat.le_of_ble_eq_true rfl, Nat.le_of_ble_eq_true rfl⟩ ⟨Nat.le_of_ble_eq_true rfl, Nat.le_of_ble_eq_true rfl⟩ (fun H locs (hD : mD G _ _ b r9.2 sz H locs) => ?_)
      refine lv_istore_n (lv' := [(3, .int r9.1), (0, .ref b), (1, .int xa), (2, .int xb)]) hx hb dX12_fits_27 rfl hl (by decide) rfl (fun ls hl => ?_)
      refine lv_iload_n hx hb dX12_fits_28 rfl (lv_at hl 3 rfl) ?_
      refine lv_if_ne (tgt := 36) hx hb dX12_fits_29 (by decide) (fun c11 => ?_) (fun c11 => ?_)
      · have hF := ite_n hF c11
        refine lv_iload_n hx hb dX12_fits_36 rfl (lv_at hl 0 rfl) ?_
        refine lv_if_ne (tgt := 45) hx hb dX12_fits_37 (by decide) (fun c12 => ?_) (fun c12 => ?_)
        · have hF := ite_n hF c12
          refine lv_iload_n hx hb dX12_fits_45 rfl (lv_at hl 3 rfl) ?_
          refine lv_iconst (v := (1 : Int32)) hx hb dX12_fits_46 (by decide) ?_
          refine lv_icmp_ne (tgt := 61) hx hb dX12_fits_47 (by decide) (fun c13 => ?_) (fun c13 => ?_)
          · have hF := ite_n hF c13
            refine lv_aload_n hx hb dX12_fits_61 rfl (lv_at hl 1 rfl) ?_
            refine gf_X12_210 hE hD dX12_fits_62 ?_
            refine lv_sipush (v := (1000 : Int32)) hx hb dX12_fits_65 (by decide) ?_
            refine lv_irem hx hb dX12_fits_68 (by decide) ?_
            exact B_X12_fits_j69 hE hD (lv_sub hl [1] rfl) hF
          · have hF := ite_p hF c13
            refine lv_aload_n hx hb dX12_fits_50 rfl (lv_at hl 1 rfl) ?_
            refine gf_X12_210 hE hD dX12_fits_51 ?_
            refine lv_sipush (v := (1000 : Int32)) hx hb dX12_fits_54 (by decide) ?_
            refine lv_idiv hx hb dX12_fits_57 (by decide) ?_
            refine lv_goto (tgt := 69) hx hb dX12_fits_58 (by decide) ?_
            exact B_X12_fits_j69 hE hD (lv_sub hl [1] rfl) hF
        · have hF := ite_p hF c12
          refine lv_bipush (v := (-3 : Int32)) hx hb dX12_fits_40 (by decide) ?_
          refine lv_goto (tgt := 69) hx hb dX12_fits_42 (by decide) ?_
          exact B_X12_fits_j69 hE hD (lv_sub hl [1] rfl) hF
      · have hF := ite_p hF c11
        refine lv_iload_n hx hb dX12_fits_32 rfl (lv_at hl 0 rfl) ?_
        refine lv_goto (tgt := 69) hx hb dX12_fits_33 (by decide) ?_
        exact B_X12_fits_j69 hE hD (lv_sub hl [1] rfl) hF
    · have hF := ite_p hF c8
      exact B_X12_fits_j19 hE hD (lv_sub hl [0] rfl) hF
def F_X12_liar_j71 (u : xS) (y2 : Int32) : Option (Int32 × xS) := (F_X12_noneOf y2).bind (fun r1 => some (r1, u))
theorem B_X12_liar_j71 {p : Program} {l : Launch} {e : Env} {s : State} {m : MethodId} {args : Array Value} {below : List Frame} {meth : Method} {cd : Code} {G : xG} {w0 : xW} {b sz : Nat} {rr : (Int32 × xS)} (hE : xE p s m args meth cd cX12_liar RX12 G 5 (Option.some Jvm.ClassFile.FieldType.int)) {u : xS} {y2 : Int32} {H : Heap} {locs : List Loc} {ls : Array Slot} (hD : mD G (xA w0 s.heap.size) s.heap b u sz H locs) (hl : lv_has ls 5 [(0, .ref b), (2, .int y2)]) (hF : F_X12_liar_j71 u y2 = some rr) : W p l e (xR 4 0 0) s m args below meth cd H locs 0 0 (xQi G w0 (fun r z => r = rr.1 ∧ z = ((mW G b rr.2), sz)) below args s 0 0) (F0 m 71 ls []) := by
  have hx := hE.1; have hb := hE.2.1
  unfold F_X12_liar_j71 at hF
  refine lv_iload_n hx hb dX12_liar_71 rfl (lv_at hl 1 rfl) ?_
  obtain ⟨r1, k2, hF⟩ := xb_s hF
  refine kSi (As := [.int y2]) (rest := []) hE hl hD (c_X12_noneOf k2) kl_X12_158 rfl rfl (Nat.le_of_ble_eq_true rfl) dX12_liar_72 ⟨Nat.le_of_ble_eq_true rfl, Nat.le_of_ble_eq_true rfl⟩ ⟨Nat.le_of_ble_eq_true rfl, Nat.le_of_ble_eq_true rfl⟩ (fun H locs (hD : mD G _ _ b u sz H locs) => ?_)
  obtain rfl := Option.some.inj hF
  exact x_iret hE hD ⟨rfl, rfl⟩ (by omega) (by omega) dX12_liar_75
def F_X12_liar_j64 (k29 : xS → Int32 → Int32 → Int32 → Int32 → Option (Int32 × xS)) (u : xS) (y1 : Int32) (y3 : Int32) (y4 : Int32) (s0 : Int32) : Option (Int32 × xS) := xlet (y4 + (1 : Int32)) (fun x3 => k29 u y1 s0 y3 x3)
theorem B_X12_liar_j64 {p : Program} {l : Launch} {e : Env} {s : State} {m : MethodId} {args : Array Value} {below : List Frame} {meth : Method} {cd : Code} {G : xG} {w0 : xW} {b sz : Nat} {rr : (Int32 × xS)} (hE : xE p s m args meth cd cX12_liar RX12 G 5 (Option.some Jvm.ClassFile.FieldType.int)) {u : xS} (k29 : xS → Int32 → Int32 → Int32 → Int32 → Option (Int32 × xS)) (h29 : ∀ {u1 : xS} {y1 : Int32} {y2 : Int32} {y3 : Int32} {y4 : Int32} {H : Heap} {locs : List Loc} {ls : Array Slot}, mD G (xA w0 s.heap.size) s.heap b u1 sz H locs → lv_has ls 5 [(0, .ref b), (1, .int y1), (2, .int y2), (3, .int y3), (4, .int y4)] → k29 u1 y1 y2 y3 y4 = some rr → W p l e (xR 4 0 0) s m args below meth cd H locs 0 0 (xQi G w0 (fun r z => r = rr.1 ∧ z = ((mW G b rr.2), sz)) below args s 0 0) (F0 m 29 ls [])) {y1 : Int32} {y3 : Int32} {y4 : Int32} {s0 : Int32} {H : Heap} {locs : List Loc} {ls : Array Slot} (hD : mD G (xA w0 s.heap.size) s.heap b u sz H locs) (hl : lv_has ls 5 [(0, .ref b), (1, .int y1), (3, .int y3), (4, .int y4)]) (hF : F_X12_liar_j64 k29 u y1 y3 y4 s0 = some rr) : W p l e (xR 4 0 0) s m args below meth cd H locs 0 0 (xQi G w0 (fun r z => r = rr.1 ∧ z = ((mW G b rr.2), sz)) below args s 0 0) (F0 m 64 ls [.int s0]) := by
  have hx := hE.1; have hb := hE.2.1
  unfold F_X12_liar_j64 at hF
  refine lv_istore_n (lv' := [(2, .int s0), (0, .ref b), (1, .int y1), (3, .int y3), (4, .int y4)]) hx hb dX12_liar_64 rfl hl (by decide) rfl (fun ls hl => ?_)
  obtain ⟨x3, ex3⟩ : ∃ y : Int32, y = y4 + (1 : Int32) := ⟨_, rfl⟩
  have hF := xlet_e hF ex3
  refine lv_iinc (v := x3) (lv' := [(4, .int x3), (2, .int s0), (0, .ref b), (1, .int y1), (3, .int y3)]) hx hb dX12_liar_65 hl (k := 4) rfl (by rw [ex3]; rfl) (by decide) rfl (fun ls hl => ?_)
  refine lv_goto (tgt := 29) hx hb dX12_liar_68 (by decide) ?_
  exact h29 hD (lv_sub hl [2, 3, 1, 4, 0] rfl) hF
def F_X12_liar_l29 : Nat → xS → Int32 → Int32 → Int32 → Int32 → Option (Int32 × xS)
  | 0, _, _, _, _, _ => none
  | nn + 1, u, y1, y2, y3, y4 => if xIn (2 : Int32) 303 then if (u.2.1 0 (2 : Int32).toNatClampNeg) ≤ y4 then F_X12_liar_j71 u y2 else if y3 = 0 then F_X12_liar_j71 u y2 else if 0 ≤ y2 then F_X12_liar_j71 u y2 else (F_X12_guesses u y1 y4).bind (fun r8 => if r8.1 ≤ 0 then F_X12_liar_j64 (F_X12_liar_l29 nn) r8.2 y1 y3 y4 (-1 : Int32) else F_X12_liar_j64 (F_X12_liar_l29 nn) r8.2 y1 y3 y4 y4) else none
theorem L_X12_liar_l29 {p : Program} {l : Launch} {e : Env} {s : State} {m : MethodId} {args : Array Value} {below : List Frame} {meth : Method} {cd : Code} {G : xG} {w0 : xW} {b sz : Nat} {rr : (Int32 × xS)} (hE : xE p s m args meth cd cX12_liar RX12 G 5 (Option.some Jvm.ClassFile.FieldType.int)) : ∀ (nn : Nat) {u : xS} {y1 : Int32} {y2 : Int32} {y3 : Int32} {y4 : Int32} {H : Heap} {locs : List Loc} {ls : Array Slot}, mD G (xA w0 s.heap.size) s.heap b u sz H locs → lv_has ls 5 [(0, .ref b), (1, .int y1), (2, .int y2), (3, .int y3), (4, .int y4)] → F_X12_liar_l29 nn u y1 y2 y3 y4 = some rr → W p l e (xR 4 0 0) s m args below meth cd H locs 0 0 (xQi G w0 (fun r z => r = rr.1 ∧ z = ((mW G b rr.2), sz)) below args s 0 0) (F0 m 29 ls []) := by
  have hx := hE.1; have hb := hE.2.1
  intro nn
  induction nn with
  | zero => intro u y1 y2 y3 y4 H locs ls hD hl hF; rw [F_X12_liar_l29] at hF; cases hF
  | succ nn ih =>
    intro u y1 y2 y3 y4 H locs ls hD hl hF
    rw [F_X12_liar_l29] at hF
    refine lv_iload hx hb dX12_liar_29 (lv_at hl 4 rfl) ?_
    refine lv_aload_n hx hb dX12_liar_31 rfl (lv_at hl 0 rfl) ?_
    refine gf_X12_7 hE hD dX12_liar_32 ?_
    refine lv_iconst (v := (2 : Int32)) hx hb dX12_liar_35 (by decide) ?_
    obtain ⟨h4, hF⟩ := ite_s hF
    refine ma_ld_0 hE hD h4 dX12_liar_36 ?_
    refine lv_icmp_ge (tgt := 71) hx hb dX12_liar_37 (by decide) (fun c5 => ?_) (fun c5 => ?_)
    · have hF := ite_p hF c5
      exact B_X12_liar_j71 hE hD (lv_sub hl [0, 2] rfl) hF
    · have hF := ite_n hF c5
      refine lv_iload_n hx hb dX12_liar_40 rfl (lv_at hl 3 rfl) ?_
      refine lv_if_eq (tgt := 71) hx hb dX12_liar_41 (by decide) (fun c6 => ?_) (fun c6 => ?_)
      · have hF := ite_p hF c6
        exact B_X12_liar_j71 hE hD (lv_sub hl [0, 2] rfl) hF
      · have hF := ite_n hF c6
        refine lv_iload_n hx hb dX12_liar_44 rfl (lv_at hl 2 rfl) ?_
        refine lv_if_ge (tgt := 71) hx hb dX12_liar_45 (by decide) (fun c7 => ?_) (fun c7 => ?_)
        · have hF := ite_p hF c7
          exact B_X12_liar_j71 hE hD (lv_sub hl [0, 2] rfl) hF
        · have hF := ite_n hF c7
          refine lv_aload_n hx hb dX12_liar_48 rfl (lv_at hl 0 rfl) ?_
          refine lv_iload_n hx hb dX12_liar_49 rfl (lv_at hl 1 rfl) ?_
          refine lv_iload hx hb dX12_liar_50 (lv_at hl 4 rfl) ?_
          obtain ⟨r8, k9, hF⟩ := xb_s hF
          refine kVi (As := [.int y1, .int y4]) (rest := []) hE hl hD (c_X12_guesses (b := b) k9) kl_X12_219 (mW_0 _ _ _) rfl rfl rfl rfl (Nat.le_of_ble_eq_true rfl) dX12_liar_52 ⟨Nat.le_of_ble_eq_true rfl, Nat.le_of_ble_eq_true rfl⟩ ⟨Nat.le_of_ble_eq_true rfl, Nat.le_of_ble_eq_true rfl⟩ (fun H locs (hD : mD G _ _ b r8.2 sz H locs) => ?_)
          refine lv_if_le (tgt := 63) hx hb dX12_liar_55 (by decide) (fun c10 => ?_) (fun c10 => ?_)
          · have hF := ite_p hF c10
            refine lv_iconst (v := (-1 : Int32)) hx hb dX12_liar_63 (by decide) ?_
            exact B_X12_liar_j64 hE (F_X12_liar_l29 nn) ih hD (lv_sub hl [0, 1, 3, 4] rfl) hF
          · have hF := ite_n hF c10
            refine lv_iload hx hb dX12_liar_58 (lv_at hl 4 rfl) ?_
            refine lv_goto (tgt := 64) hx hb dX12_liar_60 (by decide) ?_
            exact B_X12_liar_j64 hE (F_X12_liar_l29 nn) ih hD (lv_sub hl [0, 1, 3, 4] rfl) hF
def F_X12_liar_j25 (u : xS) (y1 : Int32) (y2 : Int32) (s0 : Int32) : Option (Int32 × xS) := F_X12_liar_l29 xFuel u y1 y2 s0 (0 : Int32)
theorem B_X12_liar_j25 {p : Program} {l : Launch} {e : Env} {s : State} {m : MethodId} {args : Array Value} {below : List Frame} {meth : Method} {cd : Code} {G : xG} {w0 : xW} {b sz : Nat} {rr : (Int32 × xS)} (hE : xE p s m args meth cd cX12_liar RX12 G 5 (Option.some Jvm.ClassFile.FieldType.int)) {u : xS} {y1 : Int32} {y2 : Int32} {s0 : Int32} {H : Heap} {locs : List Loc} {ls : Array Slot} (hD : mD G (xA w0 s.heap.size) s.heap b u sz H locs) (hl : lv_has ls 5 [(0, .ref b), (1, .int y1), (2, .int y2)]) (hF : F_X12_liar_j25 u y1 y2 s0 = some rr) : W p l e (xR 4 0 0) s m args below meth cd H locs 0 0 (xQi G w0 (fun r z => r = rr.1 ∧ z = ((mW G b rr.2), sz)) below args s 0 0) (F0 m 25 ls [.int s0]) := by
  have hx := hE.1; have hb := hE.2.1
  unfold F_X12_liar_j25 at hF
  refine lv_istore_n (lv' := [(3, .int s0), (0, .ref b), (1, .int y1), (2, .int y2)]) hx hb dX12_liar_25 rfl hl (by decide) rfl (fun ls hl => ?_)
  refine lv_iconst (v := (0 : Int32)) hx hb dX12_liar_26 (by decide) ?_
  refine lv_istore (lv' := [(4, .int (0 : Int32)), (3, .int s0), (0, .ref b), (1, .int y1), (2, .int y2)]) hx hb dX12_liar_27 hl (by decide) rfl (fun ls hl => ?_)
  exact L_X12_liar_l29 hE _ hD (lv_sub hl [2, 3, 4, 1, 0] rfl) hF
def F_X12_liar (u : xS) (xa : Int32) : Option (Int32 × xS) := (F_X12_isGuessed xa).bind (fun r11 => if r11 = 0 then some ((-1 : Int32), u) else (F_X12_guesses u xa (-1 : Int32)).bind (fun r15 => if r15.1 = 0 then F_X12_liar_j25 r15.2 xa (-1 : Int32) (1 : Int32) else F_X12_liar_j25 r15.2 xa (-1 : Int32) (0 : Int32)))
theorem c_X12_liar {l : Launch} {G : xG} {b sz : Nat} {rr : (Int32 × xS)} {u : xS} {xa : Int32} (hF : F_X12_liar u xa = some rr) : xMi l G yX12_liar cX12_liar 5 (Option.some Jvm.ClassFile.FieldType.int) 4 0 0 [.ref b, .int xa] (mW G b u) sz (fun r z => r = rr.1 ∧ z = ((mW G b rr.2), sz)) := by
  unfold F_X12_liar at hF
  refine x_startI rfl (Nat.le_of_ble_eq_true rfl) (fun p e s m args below meth cd ls hE hnm hl hD => ?_)
  have hx := hE.1; have hb := hE.2.1
  have hl : lv_has ls 5 [(0, .ref b), (1, .int xa)] := hl
  have hD : mD G (xA (mW G b u) s.heap.size) s.heap b u sz s.heap [] := hD
  refine lv_iload_n hx hb dX12_liar_0 rfl (lv_at hl 1 rfl) ?_
  obtain ⟨r11, k12, hF⟩ := xb_s hF
  refine kSz (As := [.int xa]) (rest := []) hE hl hD (c_X12_isGuessed k12) kl_X12_216 rfl rfl (Nat.le_of_ble_eq_true rfl) dX12_liar_1 ⟨Nat.le_of_ble_eq_true rfl, Nat.le_of_ble_eq_true rfl⟩ ⟨Nat.le_of_ble_eq_true rfl, Nat.le_of_ble_eq_true rfl⟩ (fun H locs z13 (hD : mD G _ _ b u sz H locs) => ?_)
  refine lv_if_ne (tgt := 9) hx hb dX12_liar_4 (by decide) (fun c14 => ?_) (fun c14 => ?_)
  · have hF := ite_n hF c14
    refine lv_iconst (v := (-1 : Int32)) hx hb dX12_liar_9 (by decide) ?_
    refine lv_istore_n (lv' := [(2, .int (-1 : Int32)), (0, .ref b), (1, .int xa)]) hx hb dX12_liar_10 rfl hl (by decide) rfl (fun ls hl => ?_)
    refine lv_aload_n hx hb dX12_liar_11 rfl (lv_at hl 1 rfl) ?_
    refine lv_iload_n hx hb dX12_liar_12 rfl (lv_at hl 2 rfl) ?_
    refine lv_iconst (v := (-1 : Int32)) hx hb dX12_liar_13 (by decide) ?_
    obtain ⟨r15, k16, hF⟩ := xb_s hF
    refine kVi (As := [.int xa, .int (-1 : Int32)]) (rest := []) hE hl hD (c_X12_guesses (b := b) k16) kl_X12_219 (mW_0 _ _ _) rfl rfl rfl rfl (Nat.le_of_ble_eq_true rfl) dX12_liar_14 ⟨Nat.le_of_ble_eq_true rfl, Nat.le_of_ble_eq_true rfl⟩ ⟨Nat.le_of_ble_eq_true rfl, Nat.le_of_ble_eq_true rfl⟩ (fun H locs (hD : mD G _ _ b r15.2 sz H locs) => ?_)
    refine lv_if_ne (tgt := 24) hx hb dX12_liar_17 (by decide) (fun c17 => ?_) (fun c17 => ?_)
    · have hF := ite_n hF c17
      refine lv_iconst (v := (0 : Int32)) hx hb dX12_liar_24 (by decide) ?_
      exact B_X12_liar_j25 hE hD (lv_sub hl [1, 2, 0] rfl) hF
    · have hF := ite_p hF c17
      refine lv_iconst (v := (1 : Int32)) hx hb dX12_liar_20 (by decide) ?_
      refine lv_goto (tgt := 25) hx hb dX12_liar_21 (by decide) ?_
      exact B_X12_liar_j25 hE hD (lv_sub hl [1, 2, 0] rfl) hF
  · have hF := ite_p hF c14
    refine lv_iconst (v := (-1 : Int32)) hx hb dX12_liar_7 (by decide) ?_
    obtain rfl := Option.some.inj hF
    exact x_iret hE hD ⟨rfl, rfl⟩ (by omega) (by omega) dX12_liar_8
def F_X12_prove_j135 (u : xS)  : Option (Int32 × xS) := some (u.1 16, u)
theorem B_X12_prove_j135 {p : Program} {l : Launch} {e : Env} {s : State} {m : MethodId} {args : Array Value} {below : List Frame} {meth : Method} {cd : Code} {G : xG} {w0 : xW} {b sz : Nat} {rr : (Int32 × xS)} (hE : xE p s m args meth cd cX12_prove RX12 G 6 (Option.some Jvm.ClassFile.FieldType.int)) {u : xS}  {H : Heap} {locs : List Loc} {ls : Array Slot} (hD : mD G (xA w0 s.heap.size) s.heap b u sz H locs) (hl : lv_has ls 6 [(0, .ref b)]) (hF : F_X12_prove_j135 u  = some rr) : W p l e (xR 7 0 0) s m args below meth cd H locs 0 0 (xQi G w0 (fun r z => r = rr.1 ∧ z = ((mW G b rr.2), sz)) below args s 0 0) (F0 m 135 ls []) := by
  have hx := hE.1; have hb := hE.2.1
  unfold F_X12_prove_j135 at hF
  refine lv_aload_n hx hb dX12_prove_135 rfl (lv_at hl 0 rfl) ?_
  refine gf_X12_222 hE hD dX12_prove_136 ?_
  obtain rfl := Option.some.inj hF
  exact x_iret hE hD ⟨rfl, rfl⟩ (by omega) (by omega) dX12_prove_139
def F_X12_prove_l48 : Nat → xS → Int32 → Int32 → Int32 → Int32 → Option (Int32 × xS)
  | 0, _, _, _, _, _ => none
  | nn + 1, u, y1, y3, y4, y5 => if y3 ≤ (u.1 16) then F_X12_prove_j135 u else if y5 < 0 then F_X12_prove_j135 u else if xIn ((3 : Int32) * (u.1 16)) 60 then xlet (mA u 15 ((3 : Int32) * (u.1 16)).toNatClampNeg ((u.1 16) + (1 : Int32))) (fun u4 => if xIn (((3 : Int32) * (u4.1 16)) + (1 : Int32)) 60 then xlet (mA u4 15 (((3 : Int32) * (u4.1 16)) + (1 : Int32)).toNatClampNeg y4) (fun u6 => if xIn (((3 : Int32) * (u6.1 16)) + (2 : Int32)) 60 then xlet (mA u6 15 (((3 : Int32) * (u6.1 16)) + (2 : Int32)).toNatClampNeg y5) (fun u8 => xlet (mS u8 16 ((u8.1 16) + (1 : Int32))) (fun u9 => (F_X12_becomes u9 y1 y5.toInt64).bind (fun r10 => F_X12_prove_l48 nn r10.2 y1 y3 y5 r10.1))) else none) else none) else none
theorem L_X12_prove_l48 {p : Program} {l : Launch} {e : Env} {s : State} {m : MethodId} {args : Array Value} {below : List Frame} {meth : Method} {cd : Code} {G : xG} {w0 : xW} {b sz : Nat} {rr : (Int32 × xS)} (hE : xE p s m args meth cd cX12_prove RX12 G 6 (Option.some Jvm.ClassFile.FieldType.int)) : ∀ (nn : Nat) {u : xS} {y1 : Int32} {y3 : Int32} {y4 : Int32} {y5 : Int32} {H : Heap} {locs : List Loc} {ls : Array Slot}, mD G (xA w0 s.heap.size) s.heap b u sz H locs → lv_has ls 6 [(0, .ref b), (1, .int y1), (3, .int y3), (4, .int y4), (5, .int y5)] → F_X12_prove_l48 nn u y1 y3 y4 y5 = some rr → W p l e (xR 7 0 0) s m args below meth cd H locs 0 0 (xQi G w0 (fun r z => r = rr.1 ∧ z = ((mW G b rr.2), sz)) below args s 0 0) (F0 m 48 ls []) := by
  have hx := hE.1; have hb := hE.2.1
  intro nn
  induction nn with
  | zero => intro u y1 y3 y4 y5 H locs ls hD hl hF; rw [F_X12_prove_l48] at hF; cases hF
  | succ nn ih =>
    intro u y1 y3 y4 y5 H locs ls hD hl hF
    rw [F_X12_prove_l48] at hF
    refine lv_aload_n hx hb dX12_prove_48 rfl (lv_at hl 0 rfl) ?_
    refine gf_X12_222 hE hD dX12_prove_49 ?_
    refine lv_iload_n hx hb dX12_prove_52 rfl (lv_at hl 2 rfl) ?_
    refine lv_icmp_ge (tgt := 135) hx hb dX12_prove_53 (by decide) (fun c1 => ?_) (fun c1 => ?_)
    · have hF := ite_p hF c1
      exact B_X12_prove_j135 hE hD (lv_sub hl [0] rfl) hF
    · have hF := ite_n hF c1
      refine lv_iload hx hb dX12_prove_56 (lv_at hl 4 rfl) ?_
      refine lv_if_lt (tgt := 135) hx hb dX12_prove_58 (by decide) (fun c2 => ?_) (fun c2 => ?_)
      · have hF := ite_p hF c2
        exact B_X12_prove_j135 hE hD (lv_sub hl [0] rfl) hF
      · have hF := ite_n hF c2
        refine lv_aload_n hx hb dX12_prove_61 rfl (lv_at hl 0 rfl) ?_
        refine gf_X12_38 hE hD dX12_prove_62 ?_
        refine lv_iconst (v := (3 : Int32)) hx hb dX12_prove_65 (by decide) ?_
        refine lv_aload_n hx hb dX12_prove_66 rfl (lv_at hl 0 rfl) ?_
        refine gf_X12_222 hE hD dX12_prove_67 ?_
        refine lv_imul hx hb dX12_prove_70 ?_
        refine lv_aload_n hx hb dX12_prove_71 rfl (lv_at hl 0 rfl) ?_
        refine gf_X12_222 hE hD dX12_prove_72 ?_
        refine lv_iconst (v := (1 : Int32)) hx hb dX12_prove_75 (by decide) ?_
        refine lv_iadd hx hb dX12_prove_76 ?_
        obtain ⟨h3, hF⟩ := ite_s hF
        refine ma_st_15 hE hD h3 dX12_prove_77 (fun u4 H locs eu4 hD => ?_)
        have hF := xlet_e hF eu4
        refine lv_aload_n hx hb dX12_prove_78 rfl (lv_at hl 0 rfl) ?_
        refine gf_X12_38 hE hD dX12_prove_79 ?_
        refine lv_iconst (v := (3 : Int32)) hx hb dX12_prove_82 (by decide) ?_
        refine lv_aload_n hx hb dX12_prove_83 rfl (lv_at hl 0 rfl) ?_
        refine gf_X12_222 hE hD dX12_prove_84 ?_
        refine lv_imul hx hb dX12_prove_87 ?_
        refine lv_iconst (v := (1 : Int32)) hx hb dX12_prove_88 (by decide) ?_
        refine lv_iadd hx hb dX12_prove_89 ?_
        refine lv_iload hx hb dX12_prove_90 (lv_at hl 3 rfl) ?_
        obtain ⟨h5, hF⟩ := ite_s hF
        refine ma_st_15 hE hD h5 dX12_prove_92 (fun u6 H locs eu6 hD => ?_)
        have hF := xlet_e hF eu6
        refine lv_aload_n hx hb dX12_prove_93 rfl (lv_at hl 0 rfl) ?_
        refine gf_X12_38 hE hD dX12_prove_94 ?_
        refine lv_iconst (v := (3 : Int32)) hx hb dX12_prove_97 (by decide) ?_
        refine lv_aload_n hx hb dX12_prove_98 rfl (lv_at hl 0 rfl) ?_
        refine gf_X12_222 hE hD dX12_prove_99 ?_
        refine lv_imul hx hb dX12_prove_102 ?_
        refine lv_iconst (v := (2 : Int32)) hx hb dX12_prove_103 (by decide) ?_
        refine lv_iadd hx hb dX12_prove_104 ?_
        refine lv_iload hx hb dX12_prove_105 (lv_at hl 4 rfl) ?_
        obtain ⟨h7, hF⟩ := ite_s hF
        refine ma_st_15 hE hD h7 dX12_prove_107 (fun u8 H locs eu8 hD => ?_)
        have hF := xlet_e hF eu8
        refine lv_aload_n hx hb dX12_prove_108 rfl (lv_at hl 0 rfl) ?_
        refine lv_dup hx hb dX12_prove_109 rfl ?_
        refine gf_X12_222 hE hD dX12_prove_110 ?_
        refine lv_iconst (v := (1 : Int32)) hx hb dX12_prove_113 (by decide) ?_
        refine lv_iadd hx hb dX12_prove_114 ?_
        refine pf_X12_222 hE hD dX12_prove_115 (fun u9 H locs eu9 hD => ?_)
        have hF := xlet_e hF eu9
        refine lv_iload hx hb dX12_prove_118 (lv_at hl 4 rfl) ?_
        refine lv_istore (lv' := [(4, .int y5), (0, .ref b), (1, .int y1), (3, .int y3), (5, .int y5)]) hx hb dX12_prove_120 hl (by decide) rfl (fun ls hl => ?_)
        refine lv_aload_n hx hb dX12_prove_122 rfl (lv_at hl 1 rfl) ?_
        refine lv_iload_n hx hb dX12_prove_123 rfl (lv_at hl 2 rfl) ?_
        refine lv_iload hx hb dX12_prove_124 (lv_at hl 0 rfl) ?_
        refine lv_i2l (v := y5.toInt64) hx hb dX12_prove_126 rfl ?_
        obtain ⟨r10, k11, hF⟩ := xb_s hF
        refine kVi (As := [.int y1, .long y5.toInt64]) (rest := []) hE hl hD (c_X12_becomes (b := b) k11) kl_X12_144 (mW_0 _ _ _) rfl rfl rfl rfl (Nat.le_of_ble_eq_true rfl) dX12_prove_127 ⟨Nat.le_of_ble_eq_true rfl, Nat.le_of_ble_eq_true rfl⟩ ⟨Nat.le_of_ble_eq_true rfl, Nat.le_of_ble_eq_true rfl⟩ (fun H locs (hD : mD G _ _ b r10.2 sz H locs) => ?_)
        refine lv_istore (lv' := [(5, .int r10.1), (4, .int y5), (0, .ref b), (1, .int y1), (3, .int y3)]) hx hb dX12_prove_130 hl (by decide) rfl (fun ls hl => ?_)
        refine lv_goto (tgt := 48) hx hb dX12_prove_132 (by decide) ?_
        exact ih hD (lv_sub hl [2, 3, 4, 1, 0] rfl) hF
def F_X12_prove_j28 (u : xS)  : Option (Int32 × xS) := some ((-1 : Int32), u)
theorem B_X12_prove_j28 {p : Program} {l : Launch} {e : Env} {s : State} {m : MethodId} {args : Array Value} {below : List Frame} {meth : Method} {cd : Code} {G : xG} {w0 : xW} {b sz : Nat} {rr : (Int32 × xS)} (hE : xE p s m args meth cd cX12_prove RX12 G 6 (Option.some Jvm.ClassFile.FieldType.int)) {u : xS}  {H : Heap} {locs : List Loc} {ls : Array Slot} (hD : mD G (xA w0 s.heap.size) s.heap b u sz H locs) (hl : lv_has ls 6 [(0, .ref b)]) (hF : F_X12_prove_j28 u  = some rr) : W p l e (xR 7 0 0) s m args below meth cd H locs 0 0 (xQi G w0 (fun r z => r = rr.1 ∧ z = ((mW G b rr.2), sz)) below args s 0 0) (F0 m 28 ls []) := by
  have hx := hE.1; have hb := hE.2.1
  unfold F_X12_prove_j28 at hF
  refine lv_iconst (v := (-1 : Int32)) hx hb dX12_prove_28 (by decide) ?_
  obtain rfl := Option.some.inj hF
  exact x_iret hE hD ⟨rfl, rfl⟩ (by omega) (by omega) dX12_prove_29
def F_X12_prove (u : xS) (xa : Int32) (xb : Int32) (xc : Int32) : Option (Int32 × xS) := (F_X12_isBridge u xa).bind (fun r12 => if r12 = 0 then F_X12_prove_j28 u else (F_X12_isPurse xb.toInt64).bind (fun r16 => if r16 = 0 then F_X12_prove_j28 u else (F_X12_in xc.toInt64 (1 : Int64) (20 : Int64)).bind (fun r20 => if r20 = 0 then F_X12_prove_j28 u else xlet (mS u 16 (0 : Int32)) (fun u24 => (F_X12_becomes u24 xa xb.toInt64).bind (fun r25 => F_X12_prove_l48 xFuel r25.2 xa xc xb r25.1)))))
theorem c_X12_prove {l : Launch} {G : xG} {b sz : Nat} {rr : (Int32 × xS)} {u : xS} {xa : Int32} {xb : Int32} {xc : Int32} (hF : F_X12_prove u xa xb xc = some rr) : xMi l G yX12_prove cX12_prove 6 (Option.some Jvm.ClassFile.FieldType.int) 7 0 0 [.ref b, .int xa, .int xb, .int xc] (mW G b u) sz (fun r z => r = rr.1 ∧ z = ((mW G b rr.2), sz)) := by
  unfold F_X12_prove at hF
  refine x_startI rfl (Nat.le_of_ble_eq_true rfl) (fun p e s m args below meth cd ls hE hnm hl hD => ?_)
  have hx := hE.1; have hb := hE.2.1
  have hl : lv_has ls 6 [(0, .ref b), (1, .int xa), (2, .int xb), (3, .int xc)] := hl
  have hD : mD G (xA (mW G b u) s.heap.size) s.heap b u sz s.heap [] := hD
  refine lv_aload_n hx hb dX12_prove_0 rfl (lv_at hl 0 rfl) ?_
  refine lv_iload_n hx hb dX12_prove_1 rfl (lv_at hl 1 rfl) ?_
  obtain ⟨r12, k13, hF⟩ := xb_s hF
  refine kVz (As := [.int xa]) (rest := []) hE hl hD (c_X12_isBridge (b := b) k13) kl_X12_114 (mW_0 _ _ _) rfl rfl rfl rfl (Nat.le_of_ble_eq_true rfl) dX12_prove_2 ⟨Nat.le_of_ble_eq_true rfl, Nat.le_of_ble_eq_true rfl⟩ ⟨Nat.le_of_ble_eq_true rfl, Nat.le_of_ble_eq_true rfl⟩ (fun H locs z14 (hD : mD G _ _ b u sz H locs) => ?_)
  refine lv_if_eq (tgt := 28) hx hb dX12_prove_5 (by decide) (fun c15 => ?_) (fun c15 => ?_)
  · have hF := ite_p hF c15
    exact B_X12_prove_j28 hE hD (lv_sub hl [0] rfl) hF
  · have hF := ite_n hF c15
    refine lv_iload_n hx hb dX12_prove_8 rfl (lv_at hl 2 rfl) ?_
    refine lv_i2l (v := xb.toInt64) hx hb dX12_prove_9 rfl ?_
    obtain ⟨r16, k17, hF⟩ := xb_s hF
    refine kSz (As := [.long xb.toInt64]) (rest := []) hE hl hD (c_X12_isPurse k17) kl_X12_134 rfl rfl (Nat.le_of_ble_eq_true rfl) dX12_prove_10 ⟨Nat.le_of_ble_eq_true rfl, Nat.le_of_ble_eq_true rfl⟩ ⟨Nat.le_of_ble_eq_true rfl, Nat.le_of_ble_eq_true rfl⟩ (fun H locs z18 (hD : mD G _ _ b u sz H locs) => ?_)
    refine lv_if_eq (tgt := 28) hx hb dX12_prove_13 (by decide) (fun c19 => ?_) (fun c19 => ?_)
    · have hF := ite_p hF c19
      exact B_X12_prove_j28 hE hD (lv_sub hl [0] rfl) hF
    · have hF := ite_n hF c19
      refine lv_iload_n hx hb dX12_prove_16 rfl (lv_at hl 3 rfl) ?_
      refine lv_i2l (v := xc.toInt64) hx hb dX12_prove_17 rfl ?_
      refine lv_lconst (v := (1 : Int64)) hx hb dX12_prove_18 (by decide) ?_
      refine lv_ldc2 (v := (20 : Int64)) hx hb hE.2.2.1 (hE.2.2.2.1 _ kw7_12) dX12_prove_19 ?_
      obtain ⟨r20, k21, hF⟩ := xb_s hF
      refine kSz (As := [.long xc.toInt64, .long (1 : Int64), .long (20 : Int64)]) (rest := []) hE hl hD (c_X12_in k21) kl_X12_67 rfl rfl (Nat.le_of_ble_eq_true rfl) dX12_prove_22 ⟨Nat.le_of_ble_eq_true rfl, Nat.le_of_ble_eq_true rfl⟩ ⟨Nat.le_of_ble_eq_true rfl, Nat.le_of_ble_eq_true rfl⟩ (fun H locs z22 (hD : mD G _ _ b u sz H locs) => ?_)
      refine lv_if_ne (tgt := 30) hx hb dX12_prove_25 (by decide) (fun c23 => ?_) (fun c23 => ?_)
      · have hF := ite_n hF c23
        refine lv_aload_n hx hb dX12_prove_30 rfl (lv_at hl 0 rfl) ?_
        refine lv_iconst (v := (0 : Int32)) hx hb dX12_prove_31 (by decide) ?_
        refine pf_X12_222 hE hD dX12_prove_32 (fun u24 H locs eu24 hD => ?_)
        have hF := xlet_e hF eu24
        refine lv_iload_n hx hb dX12_prove_35 rfl (lv_at hl 2 rfl) ?_
        refine lv_istore (lv' := [(4, .int xb), (0, .ref b), (1, .int xa), (2, .int xb), (3, .int xc)]) hx hb dX12_prove_36 hl (by decide) rfl (fun ls hl => ?_)
        refine lv_aload_n hx hb dX12_prove_38 rfl (lv_at hl 1 rfl) ?_
        refine lv_iload_n hx hb dX12_prove_39 rfl (lv_at hl 2 rfl) ?_
        refine lv_iload hx hb dX12_prove_40 (lv_at hl 0 rfl) ?_
        refine lv_i2l (v := xb.toInt64) hx hb dX12_prove_42 rfl ?_
        obtain ⟨r25, k26, hF⟩ := xb_s hF
        refine kVi (As := [.int xa, .long xb.toInt64]) (rest := []) hE hl hD (c_X12_becomes (b := b) k26) kl_X12_144 (mW_0 _ _ _) rfl rfl rfl rfl (Nat.le_of_ble_eq_true rfl) dX12_prove_43 ⟨Nat.le_of_ble_eq_true rfl, Nat.le_of_ble_eq_true rfl⟩ ⟨Nat.le_of_ble_eq_true rfl, Nat.le_of_ble_eq_true rfl⟩ (fun H locs (hD : mD G _ _ b r25.2 sz H locs) => ?_)
        refine lv_istore (lv' := [(5, .int r25.1), (4, .int xb), (0, .ref b), (1, .int xa), (2, .int xb), (3, .int xc)]) hx hb dX12_prove_46 hl (by decide) rfl (fun ls hl => ?_)
        exact L_X12_prove_l48 hE _ hD (lv_sub hl [2, 3, 5, 1, 0] rfl) hF
      · have hF := ite_p hF c23
        exact B_X12_prove_j28 hE hD (lv_sub hl [0] rfl) hF
def F_X12_isRow_j33 (u : xS) (s0 : Int32) : Option Int32 := if s0 = 0 ∨ s0 = 1 then some s0 else none
theorem B_X12_isRow_j33 {p : Program} {l : Launch} {e : Env} {s : State} {m : MethodId} {args : Array Value} {below : List Frame} {meth : Method} {cd : Code} {G : xG} {w0 : xW} {b sz : Nat} {rr : Int32} (hE : xE p s m args meth cd cX12_isRow RX12 G 3 (Option.some Jvm.ClassFile.FieldType.boolean)) {u : xS} {s0 : Int32} {H : Heap} {locs : List Loc} {ls : Array Slot} (hD : mD G (xA w0 s.heap.size) s.heap b u sz H locs) (hl : lv_has ls 3 [(0, .ref b)]) (hF : F_X12_isRow_j33 u s0 = some rr) : W p l e (xR 2 0 0) s m args below meth cd H locs 0 0 (xQi G w0 (fun r z => r = rr ∧ (rr = 0 ∨ rr = 1) ∧ z = ((mW G b u), sz)) below args s 0 0) (F0 m 33 ls [.int s0]) := by
  have hx := hE.1; have hb := hE.2.1
  unfold F_X12_isRow_j33 at hF
  obtain ⟨h1, hF⟩ := ite_s hF
  obtain rfl := Option.some.inj hF
  exact x_zret hE hD h1 ⟨rfl, h1, rfl⟩ (by omega) (by omega) dX12_isRow_33
def F_X12_isRow_j32 (u : xS)  : Option Int32 := F_X12_isRow_j33 u (0 : Int32)
theorem B_X12_isRow_j32 {p : Program} {l : Launch} {e : Env} {s : State} {m : MethodId} {args : Array Value} {below : List Frame} {meth : Method} {cd : Code} {G : xG} {w0 : xW} {b sz : Nat} {rr : Int32} (hE : xE p s m args meth cd cX12_isRow RX12 G 3 (Option.some Jvm.ClassFile.FieldType.boolean)) {u : xS}  {H : Heap} {locs : List Loc} {ls : Array Slot} (hD : mD G (xA w0 s.heap.size) s.heap b u sz H locs) (hl : lv_has ls 3 [(0, .ref b)]) (hF : F_X12_isRow_j32 u  = some rr) : W p l e (xR 2 0 0) s m args below meth cd H locs 0 0 (xQi G w0 (fun r z => r = rr ∧ (rr = 0 ∨ rr = 1) ∧ z = ((mW G b u), sz)) below args s 0 0) (F0 m 32 ls []) := by
  have hx := hE.1; have hb := hE.2.1
  unfold F_X12_isRow_j32 at hF
  refine lv_iconst (v := (0 : Int32)) hx hb dX12_isRow_32 (by decide) ?_
  exact B_X12_isRow_j33 hE hD (lv_sub hl [0] rfl) hF
def F_X12_isRow (u : xS) (xa : Int32) (xb : Int32) : Option Int32 := (F_X12_in xa.toInt64 (0 : Int64) (((u.1 16) - (1 : Int32)).toInt64)).bind (fun r2 => if r2 = 0 then F_X12_isRow_j32 u else (F_X12_in xb.toInt64 (0 : Int64) (2 : Int64)).bind (fun r6 => if r6 = 0 then F_X12_isRow_j32 u else F_X12_isRow_j33 u (1 : Int32)))
theorem c_X12_isRow {l : Launch} {G : xG} {b sz : Nat} {rr : Int32} {u : xS} {xa : Int32} {xb : Int32} (hF : F_X12_isRow u xa xb = some rr) : xMi l G yX12_isRow cX12_isRow 3 (Option.some Jvm.ClassFile.FieldType.boolean) 2 0 0 [.ref b, .int xa, .int xb] (mW G b u) sz (fun r z => r = rr ∧ (rr = 0 ∨ rr = 1) ∧ z = ((mW G b u), sz)) := by
  unfold F_X12_isRow at hF
  refine x_startI rfl (Nat.le_of_ble_eq_true rfl) (fun p e s m args below meth cd ls hE hnm hl hD => ?_)
  have hx := hE.1; have hb := hE.2.1
  have hl : lv_has ls 3 [(0, .ref b), (1, .int xa), (2, .int xb)] := hl
  have hD : mD G (xA (mW G b u) s.heap.size) s.heap b u sz s.heap [] := hD
  refine lv_iload_n hx hb dX12_isRow_0 rfl (lv_at hl 1 rfl) ?_
  refine lv_i2l (v := xa.toInt64) hx hb dX12_isRow_1 rfl ?_
  refine lv_lconst (v := (0 : Int64)) hx hb dX12_isRow_2 (by decide) ?_
  refine lv_aload_n hx hb dX12_isRow_3 rfl (lv_at hl 0 rfl) ?_
  refine gf_X12_222 hE hD dX12_isRow_4 ?_
  refine lv_iconst (v := (1 : Int32)) hx hb dX12_isRow_7 (by decide) ?_
  refine lv_isub hx hb dX12_isRow_8 ?_
  refine lv_i2l (v := ((u.1 16) - (1 : Int32)).toInt64) hx hb dX12_isRow_9 rfl ?_
  obtain ⟨r2, k3, hF⟩ := xb_s hF
  refine kSz (As := [.long xa.toInt64, .long (0 : Int64), .long (((u.1 16) - (1 : Int32)).toInt64)]) (rest := []) hE hl hD (c_X12_in k3) kl_X12_67 rfl rfl (Nat.le_of_ble_eq_true rfl) dX12_isRow_10 ⟨Nat.le_of_ble_eq_true rfl, Nat.le_of_ble_eq_true rfl⟩ ⟨Nat.le_of_ble_eq_true rfl, Nat.le_of_ble_eq_true rfl⟩ (fun H locs z4 (hD : mD G _ _ b u sz H locs) => ?_)
  refine lv_if_eq (tgt := 32) hx hb dX12_isRow_13 (by decide) (fun c5 => ?_) (fun c5 => ?_)
  · have hF := ite_p hF c5
    exact B_X12_isRow_j32 hE hD (lv_sub hl [0] rfl) hF
  · have hF := ite_n hF c5
    refine lv_iload_n hx hb dX12_isRow_16 rfl (lv_at hl 2 rfl) ?_
    refine lv_i2l (v := xb.toInt64) hx hb dX12_isRow_17 rfl ?_
    refine lv_lconst (v := (0 : Int64)) hx hb dX12_isRow_18 (by decide) ?_
    refine lv_ldc2 (v := (2 : Int64)) hx hb hE.2.2.1 (hE.2.2.2.1 _ kw6_124) dX12_isRow_19 ?_
    obtain ⟨r6, k7, hF⟩ := xb_s hF
    refine kSz (As := [.long xb.toInt64, .long (0 : Int64), .long (2 : Int64)]) (rest := []) hE hl hD (c_X12_in k7) kl_X12_67 rfl rfl (Nat.le_of_ble_eq_true rfl) dX12_isRow_22 ⟨Nat.le_of_ble_eq_true rfl, Nat.le_of_ble_eq_true rfl⟩ ⟨Nat.le_of_ble_eq_true rfl, Nat.le_of_ble_eq_true rfl⟩ (fun H locs z8 (hD : mD G _ _ b u sz H locs) => ?_)
    refine lv_if_eq (tgt := 32) hx hb dX12_isRow_25 (by decide) (fun c9 => ?_) (fun c9 => ?_)
    · have hF := ite_p hF c9
      exact B_X12_isRow_j32 hE hD (lv_sub hl [0] rfl) hF
    · have hF := ite_n hF c9
      refine lv_iconst (v := (1 : Int32)) hx hb dX12_isRow_28 (by decide) ?_
      refine lv_goto (tgt := 33) hx hb dX12_isRow_29 (by decide) ?_
      exact B_X12_isRow_j33 hE hD (lv_sub hl [0] rfl) hF
def F_X12_row_j24 (u : xS) (s0 : Int32) : Option Int32 := some s0
theorem B_X12_row_j24 {p : Program} {l : Launch} {e : Env} {s : State} {m : MethodId} {args : Array Value} {below : List Frame} {meth : Method} {cd : Code} {G : xG} {w0 : xW} {b sz : Nat} {rr : Int32} (hE : xE p s m args meth cd cX12_row RX12 G 3 (Option.some Jvm.ClassFile.FieldType.int)) {u : xS} {s0 : Int32} {H : Heap} {locs : List Loc} {ls : Array Slot} (hD : mD G (xA w0 s.heap.size) s.heap b u sz H locs) (hl : lv_has ls 3 [(0, .ref b)]) (hF : F_X12_row_j24 u s0 = some rr) : W p l e (xR 3 0 0) s m args below meth cd H locs 0 0 (xQi G w0 (fun r z => r = rr ∧ z = ((mW G b u), sz)) below args s 0 0) (F0 m 24 ls [.int s0]) := by
  have hx := hE.1; have hb := hE.2.1
  unfold F_X12_row_j24 at hF
  obtain rfl := Option.some.inj hF
  exact x_iret hE hD ⟨rfl, rfl⟩ (by omega) (by omega) dX12_row_24
def F_X12_row (u : xS) (xa : Int32) (xb : Int32) : Option Int32 := (F_X12_isRow u xa xb).bind (fun r1 => if r1 = 0 then F_X12_row_j24 u (-9 : Int32) else if xIn (((3 : Int32) * xa) + xb) 60 then F_X12_row_j24 u (u.2.1 15 (((3 : Int32) * xa) + xb).toNatClampNeg) else none)
theorem c_X12_row {l : Launch} {G : xG} {b sz : Nat} {rr : Int32} {u : xS} {xa : Int32} {xb : Int32} (hF : F_X12_row u xa xb = some rr) : xMi l G yX12_row cX12_row 3 (Option.some Jvm.ClassFile.FieldType.int) 3 0 0 [.ref b, .int xa, .int xb] (mW G b u) sz (fun r z => r = rr ∧ z = ((mW G b u), sz)) := by
  unfold F_X12_row at hF
  refine x_startI rfl (Nat.le_of_ble_eq_true rfl) (fun p e s m args below meth cd ls hE hnm hl hD => ?_)
  have hx := hE.1; have hb := hE.2.1
  have hl : lv_has ls 3 [(0, .ref b), (1, .int xa), (2, .int xb)] := hl
  have hD : mD G (xA (mW G b u) s.heap.size) s.heap b u sz s.heap [] := hD
  refine lv_aload_n hx hb dX12_row_0 rfl (lv_at hl 0 rfl) ?_
  refine lv_iload_n hx hb dX12_row_1 rfl (lv_at hl 1 rfl) ?_
  refine lv_iload_n hx hb dX12_row_2 rfl (lv_at hl 2 rfl) ?_
  obtain ⟨r1, k2, hF⟩ := xb_s hF
  refine kVz (As := [.int xa, .int xb]) (rest := []) hE hl hD (c_X12_isRow (b := b) k2) kl_X12_225 (mW_0 _ _ _) rfl rfl rfl rfl (Nat.le_of_ble_eq_true rfl) dX12_row_3 ⟨Nat.le_of_ble_eq_true rfl, Nat.le_of_ble_eq_true rfl⟩ ⟨Nat.le_of_ble_eq_true rfl, Nat.le_of_ble_eq_true rfl⟩ (fun H locs z3 (hD : mD G _ _ b u sz H locs) => ?_)
  refine lv_if_eq (tgt := 22) hx hb dX12_row_6 (by decide) (fun c4 => ?_) (fun c4 => ?_)
  · have hF := ite_p hF c4
    refine lv_bipush (v := (-9 : Int32)) hx hb dX12_row_22 (by decide) ?_
    exact B_X12_row_j24 hE hD (lv_sub hl [0] rfl) hF
  · have hF := ite_n hF c4
    refine lv_aload_n hx hb dX12_row_9 rfl (lv_at hl 0 rfl) ?_
    refine gf_X12_38 hE hD dX12_row_10 ?_
    refine lv_iconst (v := (3 : Int32)) hx hb dX12_row_13 (by decide) ?_
    refine lv_iload_n hx hb dX12_row_14 rfl (lv_at hl 1 rfl) ?_
    refine lv_imul hx hb dX12_row_15 ?_
    refine lv_iload_n hx hb dX12_row_16 rfl (lv_at hl 2 rfl) ?_
    refine lv_iadd hx hb dX12_row_17 ?_
    obtain ⟨h5, hF⟩ := ite_s hF
    refine ma_ld_15 hE hD h5 dX12_row_18 ?_
    refine lv_goto (tgt := 24) hx hb dX12_row_19 (by decide) ?_
    exact B_X12_row_j24 hE hD (lv_sub hl [0] rfl) hF
def F_X12_alterRow (u : xS) (xa : Int32) (xb : Int32) (xc : Int32) : Option (Int32 × xS) := (F_X12_isRow u xa xb).bind (fun r1 => if r1 = 0 then some ((-9 : Int32), u) else if xIn (((3 : Int32) * xa) + xb) 60 then xlet (u.2.1 15 (((3 : Int32) * xa) + xb).toNatClampNeg) (fun x6 => if xIn (((3 : Int32) * xa) + xb) 60 then xlet (mA u 15 (((3 : Int32) * xa) + xb).toNatClampNeg xc) (fun u8 => some (x6, u8)) else none) else none)
theorem c_X12_alterRow {l : Launch} {G : xG} {b sz : Nat} {rr : (Int32 × xS)} {u : xS} {xa : Int32} {xb : Int32} {xc : Int32} (hF : F_X12_alterRow u xa xb xc = some rr) : xMi l G yX12_alterRow cX12_alterRow 5 (Option.some Jvm.ClassFile.FieldType.int) 3 0 0 [.ref b, .int xa, .int xb, .int xc] (mW G b u) sz (fun r z => r = rr.1 ∧ z = ((mW G b rr.2), sz)) := by
  unfold F_X12_alterRow at hF
  refine x_startI rfl (Nat.le_of_ble_eq_true rfl) (fun p e s m args below meth cd ls hE hnm hl hD => ?_)
  have hx := hE.1; have hb := hE.2.1
  have hl : lv_has ls 5 [(0, .ref b), (1, .int xa), (2, .int xb), (3, .int xc)] := hl
  have hD : mD G (xA (mW G b u) s.heap.size) s.heap b u sz s.heap [] := hD
  refine lv_aload_n hx hb dX12_alterRow_0 rfl (lv_at hl 0 rfl) ?_
  refine lv_iload_n hx hb dX12_alterRow_1 rfl (lv_at hl 1 rfl) ?_
  refine lv_iload_n hx hb dX12_alterRow_2 rfl (lv_at hl 2 rfl) ?_
  obtain ⟨r1, k2, hF⟩ := xb_s hF
  refine kVz (As := [.int xa, .int xb]) (rest := []) hE hl hD (c_X12_isRow (b := b) k2) kl_X12_225 (mW_0 _ _ _) rfl rfl rfl rfl (Nat.le_of_ble_eq_true rfl) dX12_alterRow_3 ⟨Nat.le_of_ble_eq_true rfl, Nat.le_of_ble_eq_true rfl⟩ ⟨Nat.le_of_ble_eq_true rfl, Nat.le_of_ble_eq_true rfl⟩ (fun H locs z3 (hD : mD G _ _ b u sz H locs) => ?_)
  refine lv_if_ne (tgt := 12) hx hb dX12_alterRow_6 (by decide) (fun c4 => ?_) (fun c4 => ?_)
  · have hF := ite_n hF c4
    refine lv_aload_n hx hb dX12_alterRow_12 rfl (lv_at hl 0 rfl) ?_
    refine gf_X12_38 hE hD dX12_alterRow_13 ?_
    refine lv_iconst (v := (3 : Int32)) hx hb dX12_alterRow_16 (by decide) ?_
    refine lv_iload_n hx hb dX12_alterRow_17 rfl (lv_at hl 1 rfl) ?_
    refine lv_imul hx hb dX12_alterRow_18 ?_
    refine lv_iload_n hx hb dX12_alterRow_19 rfl (lv_at hl 2 rfl) ?_
    refine lv_iadd hx hb dX12_alterRow_20 ?_
    obtain ⟨h5, hF⟩ := ite_s hF
    refine ma_ld_15 hE hD h5 dX12_alterRow_21 ?_
    refine lv_topi (fun x6 ex6 => ?_)
    have hF := xlet_e hF ex6
    refine lv_istore (lv' := [(4, .int x6), (0, .ref b), (1, .int xa), (2, .int xb), (3, .int xc)]) hx hb dX12_alterRow_22 hl (by decide) rfl (fun ls hl => ?_)
    refine lv_aload_n hx hb dX12_alterRow_24 rfl (lv_at hl 1 rfl) ?_
    refine gf_X12_38 hE hD dX12_alterRow_25 ?_
    refine lv_iconst (v := (3 : Int32)) hx hb dX12_alterRow_28 (by decide) ?_
    refine lv_iload_n hx hb dX12_alterRow_29 rfl (lv_at hl 2 rfl) ?_
    refine lv_imul hx hb dX12_alterRow_30 ?_
    refine lv_iload_n hx hb dX12_alterRow_31 rfl (lv_at hl 3 rfl) ?_
    refine lv_iadd hx hb dX12_alterRow_32 ?_
    refine lv_iload_n hx hb dX12_alterRow_33 rfl (lv_at hl 4 rfl) ?_
    obtain ⟨h7, hF⟩ := ite_s hF
    refine ma_st_15 hE hD h7 dX12_alterRow_34 (fun u8 H locs eu8 hD => ?_)
    have hF := xlet_e hF eu8
    refine lv_iload hx hb dX12_alterRow_35 (lv_at hl 0 rfl) ?_
    obtain rfl := Option.some.inj hF
    exact x_iret hE hD ⟨rfl, rfl⟩ (by omega) (by omega) dX12_alterRow_37
  · have hF := ite_p hF c4
    refine lv_bipush (v := (-9 : Int32)) hx hb dX12_alterRow_9 (by decide) ?_
    obtain rfl := Option.some.inj hF
    exact x_iret hE hD ⟨rfl, rfl⟩ (by omega) (by omega) dX12_alterRow_11
def F_X12_judge_j116 (u : xS) (y2 : Int32) : Option (Int32 × xS) := some (y2 + (1 : Int32), u)
theorem B_X12_judge_j116 {p : Program} {l : Launch} {e : Env} {s : State} {m : MethodId} {args : Array Value} {below : List Frame} {meth : Method} {cd : Code} {G : xG} {w0 : xW} {b sz : Nat} {rr : (Int32 × xS)} (hE : xE p s m args meth cd cX12_judge RX12 G 5 (Option.some Jvm.ClassFile.FieldType.int)) {u : xS} {y2 : Int32} {H : Heap} {locs : List Loc} {ls : Array Slot} (hD : mD G (xA w0 s.heap.size) s.heap b u sz H locs) (hl : lv_has ls 5 [(0, .ref b), (2, .int y2)]) (hF : F_X12_judge_j116 u y2 = some rr) : W p l e (xR 7 0 0) s m args below meth cd H locs 0 0 (xQi G w0 (fun r z => r = rr.1 ∧ z = ((mW G b rr.2), sz)) below args s 0 0) (F0 m 116 ls []) := by
  have hx := hE.1; have hb := hE.2.1
  unfold F_X12_judge_j116 at hF
  refine lv_iload_n hx hb dX12_judge_116 rfl (lv_at hl 1 rfl) ?_
  refine lv_iconst (v := (1 : Int32)) hx hb dX12_judge_117 (by decide) ?_
  refine lv_iadd hx hb dX12_judge_118 ?_
  obtain rfl := Option.some.inj hF
  exact x_iret hE hD ⟨rfl, rfl⟩ (by omega) (by omega) dX12_judge_119
def F_X12_judge_j79 (k12 : xS → Int32 → Int32 → Option (Int32 × xS)) (u : xS) (y1 : Int32) (y2 : Int32) (y3 : Int32) (s0 : Int32) : Option (Int32 × xS) := if s0 = 0 then F_X12_judge_j116 u y2 else (F_X12_becomes u y1 y3.toInt64).bind (fun r2 => if r2.1 < 0 then F_X12_judge_j116 r2.2 y2 else (F_X12_becomes r2.2 y1 y3.toInt64).bind (fun r5 => if xIn (((3 : Int32) * y2) + (2 : Int32)) 60 then if r5.1 = (r5.2.2.1 15 (((3 : Int32) * y2) + (2 : Int32)).toNatClampNeg) then xlet (y2 + (1 : Int32)) (fun x9 => k12 r5.2 y1 x9) else F_X12_judge_j116 r5.2 y2 else none))
theorem B_X12_judge_j79 {p : Program} {l : Launch} {e : Env} {s : State} {m : MethodId} {args : Array Value} {below : List Frame} {meth : Method} {cd : Code} {G : xG} {w0 : xW} {b sz : Nat} {rr : (Int32 × xS)} (hE : xE p s m args meth cd cX12_judge RX12 G 5 (Option.some Jvm.ClassFile.FieldType.int)) {u : xS} (k12 : xS → Int32 → Int32 → Option (Int32 × xS)) (h12 : ∀ {u1 : xS} {y1 : Int32} {y2 : Int32} {H : Heap} {locs : List Loc} {ls : Array Slot}, mD G (xA w0 s.heap.size) s.heap b u1 sz H locs → lv_has ls 5 [(0, .ref b), (1, .int y1), (2, .int y2)] → k12 u1 y1 y2 = some rr → W p l e (xR 7 0 0) s m args below meth cd H locs 0 0 (xQi G w0 (fun r z => r = rr.1 ∧ z = ((mW G b rr.2), sz)) below args s 0 0) (F0 m 12 ls [])) {y1 : Int32} {y2 : Int32} {y3 : Int32} {s0 : Int32} {H : Heap} {locs : List Loc} {ls : Array Slot} (hD : mD G (xA w0 s.heap.size) s.heap b u sz H locs) (hl : lv_has ls 5 [(0, .ref b), (1, .int y1), (2, .int y2), (3, .int y3)]) (hF : F_X12_judge_j79 k12 u y1 y2 y3 s0 = some rr) : W p l e (xR 7 0 0) s m args below meth cd H locs 0 0 (xQi G w0 (fun r z => r = rr.1 ∧ z = ((mW G b rr.2), sz)) below args s 0 0) (F0 m 79 ls [.int s0]) := by
  have hx := hE.1; have hb := hE.2.1
  unfold F_X12_judge_j79 at hF
  refine lv_istore (lv' := [(4, .int s0), (0, .ref b), (1, .int y1), (2, .int y2), (3, .int y3)]) hx hb dX12_judge_79 hl (by decide) rfl (fun ls hl => ?_)
  refine lv_iload hx hb dX12_judge_81 (lv_at hl 0 rfl) ?_
  refine lv_if_eq (tgt := 116) hx hb dX12_judge_83 (by decide) (fun c1 => ?_) (fun c1 => ?_)
  · have hF := ite_p hF c1
    exact B_X12_judge_j116 hE hD (lv_sub hl [1, 3] rfl) hF
  · have hF := ite_n hF c1
    refine lv_aload_n hx hb dX12_judge_86 rfl (lv_at hl 1 rfl) ?_
    refine lv_iload_n hx hb dX12_judge_87 rfl (lv_at hl 2 rfl) ?_
    refine lv_iload_n hx hb dX12_judge_88 rfl (lv_at hl 4 rfl) ?_
    refine lv_i2l (v := y3.toInt64) hx hb dX12_judge_89 rfl ?_
    obtain ⟨r2, k3, hF⟩ := xb_s hF
    refine kVi (As := [.int y1, .long y3.toInt64]) (rest := []) hE hl hD (c_X12_becomes (b := b) k3) kl_X12_144 (mW_0 _ _ _) rfl rfl rfl rfl (Nat.le_of_ble_eq_true rfl) dX12_judge_90 ⟨Nat.le_of_ble_eq_true rfl, Nat.le_of_ble_eq_true rfl⟩ ⟨Nat.le_of_ble_eq_true rfl, Nat.le_of_ble_eq_true rfl⟩ (fun H locs (hD : mD G _ _ b r2.2 sz H locs) => ?_)
    refine lv_if_lt (tgt := 116) hx hb dX12_judge_93 (by decide) (fun c4 => ?_) (fun c4 => ?_)
    · have hF := ite_p hF c4
      exact B_X12_judge_j116 hE hD (lv_sub hl [1, 3] rfl) hF
    · have hF := ite_n hF c4
      refine lv_aload_n hx hb dX12_judge_96 rfl (lv_at hl 1 rfl) ?_
      refine lv_iload_n hx hb dX12_judge_97 rfl (lv_at hl 2 rfl) ?_
      refine lv_iload_n hx hb dX12_judge_98 rfl (lv_at hl 4 rfl) ?_
      refine lv_i2l (v := y3.toInt64) hx hb dX12_judge_99 rfl ?_
      obtain ⟨r5, k6, hF⟩ := xb_s hF
      refine kVi (As := [.int y1, .long y3.toInt64]) (rest := []) hE hl hD (c_X12_becomes (b := b) k6) kl_X12_144 (mW_0 _ _ _) rfl rfl rfl rfl (Nat.le_of_ble_eq_true rfl) dX12_judge_100 ⟨Nat.le_of_ble_eq_true rfl, Nat.le_of_ble_eq_true rfl⟩ ⟨Nat.le_of_ble_eq_true rfl, Nat.le_of_ble_eq_true rfl⟩ (fun H locs (hD : mD G _ _ b r5.2 sz H locs) => ?_)
      refine lv_aload_n hx hb dX12_judge_103 rfl (lv_at hl 1 rfl) ?_
      refine gf_X12_38 hE hD dX12_judge_104 ?_
      refine lv_iconst (v := (3 : Int32)) hx hb dX12_judge_107 (by decide) ?_
      refine lv_iload_n hx hb dX12_judge_108 rfl (lv_at hl 3 rfl) ?_
      refine lv_imul hx hb dX12_judge_109 ?_
      refine lv_iconst (v := (2 : Int32)) hx hb dX12_judge_110 (by decide) ?_
      refine lv_iadd hx hb dX12_judge_111 ?_
      obtain ⟨h7, hF⟩ := ite_s hF
      refine ma_ld_15 hE hD h7 dX12_judge_112 ?_
      refine lv_icmp_eq (tgt := 120) hx hb dX12_judge_113 (by decide) (fun c8 => ?_) (fun c8 => ?_)
      · have hF := ite_p hF c8
        obtain ⟨x9, ex9⟩ : ∃ y : Int32, y = y2 + (1 : Int32) := ⟨_, rfl⟩
        have hF := xlet_e hF ex9
        refine lv_iinc (v := x9) (lv' := [(2, .int x9), (4, .int s0), (0, .ref b), (1, .int y1), (3, .int y3)]) hx hb dX12_judge_120 hl (k := 3) rfl (by rw [ex9]; rfl) (by decide) rfl (fun ls hl => ?_)
        refine lv_goto (tgt := 12) hx hb dX12_judge_123 (by decide) ?_
        exact h12 hD (lv_sub hl [2, 3, 0] rfl) hF
      · have hF := ite_n hF c8
        exact B_X12_judge_j116 hE hD (lv_sub hl [1, 3] rfl) hF
def F_X12_judge_j78 (k12 : xS → Int32 → Int32 → Option (Int32 × xS)) (u : xS) (y1 : Int32) (y2 : Int32) (y3 : Int32) : Option (Int32 × xS) := F_X12_judge_j79 k12 u y1 y2 y3 (0 : Int32)
theorem B_X12_judge_j78 {p : Program} {l : Launch} {e : Env} {s : State} {m : MethodId} {args : Array Value} {below : List Frame} {meth : Method} {cd : Code} {G : xG} {w0 : xW} {b sz : Nat} {rr : (Int32 × xS)} (hE : xE p s m args meth cd cX12_judge RX12 G 5 (Option.some Jvm.ClassFile.FieldType.int)) {u : xS} (k12 : xS → Int32 → Int32 → Option (Int32 × xS)) (h12 : ∀ {u1 : xS} {y1 : Int32} {y2 : Int32} {H : Heap} {locs : List Loc} {ls : Array Slot}, mD G (xA w0 s.heap.size) s.heap b u1 sz H locs → lv_has ls 5 [(0, .ref b), (1, .int y1), (2, .int y2)] → k12 u1 y1 y2 = some rr → W p l e (xR 7 0 0) s m args below meth cd H locs 0 0 (xQi G w0 (fun r z => r = rr.1 ∧ z = ((mW G b rr.2), sz)) below args s 0 0) (F0 m 12 ls [])) {y1 : Int32} {y2 : Int32} {y3 : Int32} {H : Heap} {locs : List Loc} {ls : Array Slot} (hD : mD G (xA w0 s.heap.size) s.heap b u sz H locs) (hl : lv_has ls 5 [(0, .ref b), (1, .int y1), (2, .int y2), (3, .int y3)]) (hF : F_X12_judge_j78 k12 u y1 y2 y3 = some rr) : W p l e (xR 7 0 0) s m args below meth cd H locs 0 0 (xQi G w0 (fun r z => r = rr.1 ∧ z = ((mW G b rr.2), sz)) below args s 0 0) (F0 m 78 ls []) := by
  have hx := hE.1; have hb := hE.2.1
  unfold F_X12_judge_j78 at hF
  refine lv_iconst (v := (0 : Int32)) hx hb dX12_judge_78 (by decide) ?_
  exact B_X12_judge_j79 hE k12 h12 hD (lv_sub hl [0, 1, 2, 3] rfl) hF
def F_X12_judge_j74 (k12 : xS → Int32 → Int32 → Option (Int32 × xS)) (u : xS) (y1 : Int32) (y2 : Int32) (y3 : Int32) : Option (Int32 × xS) := F_X12_judge_j79 k12 u y1 y2 y3 (1 : Int32)
theorem B_X12_judge_j74 {p : Program} {l : Launch} {e : Env} {s : State} {m : MethodId} {args : Array Value} {below : List Frame} {meth : Method} {cd : Code} {G : xG} {w0 : xW} {b sz : Nat} {rr : (Int32 × xS)} (hE : xE p s m args meth cd cX12_judge RX12 G 5 (Option.some Jvm.ClassFile.FieldType.int)) {u : xS} (k12 : xS → Int32 → Int32 → Option (Int32 × xS)) (h12 : ∀ {u1 : xS} {y1 : Int32} {y2 : Int32} {H : Heap} {locs : List Loc} {ls : Array Slot}, mD G (xA w0 s.heap.size) s.heap b u1 sz H locs → lv_has ls 5 [(0, .ref b), (1, .int y1), (2, .int y2)] → k12 u1 y1 y2 = some rr → W p l e (xR 7 0 0) s m args below meth cd H locs 0 0 (xQi G w0 (fun r z => r = rr.1 ∧ z = ((mW G b rr.2), sz)) below args s 0 0) (F0 m 12 ls [])) {y1 : Int32} {y2 : Int32} {y3 : Int32} {H : Heap} {locs : List Loc} {ls : Array Slot} (hD : mD G (xA w0 s.heap.size) s.heap b u sz H locs) (hl : lv_has ls 5 [(0, .ref b), (1, .int y1), (2, .int y2), (3, .int y3)]) (hF : F_X12_judge_j74 k12 u y1 y2 y3 = some rr) : W p l e (xR 7 0 0) s m args below meth cd H locs 0 0 (xQi G w0 (fun r z => r = rr.1 ∧ z = ((mW G b rr.2), sz)) below args s 0 0) (F0 m 74 ls []) := by
  have hx := hE.1; have hb := hE.2.1
  unfold F_X12_judge_j74 at hF
  refine lv_iconst (v := (1 : Int32)) hx hb dX12_judge_74 (by decide) ?_
  refine lv_goto (tgt := 79) hx hb dX12_judge_75 (by decide) ?_
  exact B_X12_judge_j79 hE k12 h12 hD (lv_sub hl [0, 1, 2, 3] rfl) hF
def F_X12_judge_l12 : Nat → xS → Int32 → Int32 → Option (Int32 × xS)
  | 0, _, _, _ => none
  | nn + 1, u, y1, y2 => if (u.1 16) ≤ y2 then some ((0 : Int32), u) else if xIn (((3 : Int32) * y2) + (1 : Int32)) 60 then xlet (u.2.1 15 (((3 : Int32) * y2) + (1 : Int32)).toNatClampNeg) (fun x12 => if xIn ((3 : Int32) * y2) 60 then if (u.2.1 15 ((3 : Int32) * y2).toNatClampNeg) = (y2 + (1 : Int32)) then if y2 = 0 then (F_X12_isPurse x12.toInt64).bind (fun r18 => if r18 = 0 then F_X12_judge_j78 (F_X12_judge_l12 nn) u y1 y2 x12 else F_X12_judge_j74 (F_X12_judge_l12 nn) u y1 y2 x12) else if xIn (((3 : Int32) * y2) - (1 : Int32)) 60 then if x12 = (u.2.1 15 (((3 : Int32) * y2) - (1 : Int32)).toNatClampNeg) then F_X12_judge_j74 (F_X12_judge_l12 nn) u y1 y2 x12 else F_X12_judge_j78 (F_X12_judge_l12 nn) u y1 y2 x12 else none else F_X12_judge_j78 (F_X12_judge_l12 nn) u y1 y2 x12 else none) else none
theorem L_X12_judge_l12 {p : Program} {l : Launch} {e : Env} {s : State} {m : MethodId} {args : Array Value} {below : List Frame} {meth : Method} {cd : Code} {G : xG} {w0 : xW} {b sz : Nat} {rr : (Int32 × xS)} (hE : xE p s m args meth cd cX12_judge RX12 G 5 (Option.some Jvm.ClassFile.FieldType.int)) : ∀ (nn : Nat) {u : xS} {y1 : Int32} {y2 : Int32} {H : Heap} {locs : List Loc} {ls : Array Slot}, mD G (xA w0 s.heap.size) s.heap b u sz H locs → lv_has ls 5 [(0, .ref b), (1, .int y1), (2, .int y2)] → F_X12_judge_l12 nn u y1 y2 = some rr → W p l e (xR 7 0 0) s m args below meth cd H locs 0 0 (xQi G w0 (fun r z => r = rr.1 ∧ z = ((mW G b rr.2), sz)) below args s 0 0) (F0 m 12 ls []) := by
  have hx := hE.1; have hb := hE.2.1
  intro nn
  induction nn with
  | zero => intro u y1 y2 H locs ls hD hl hF; rw [F_X12_judge_l12] at hF; cases hF
  | succ nn ih =>
    intro u y1 y2 H locs ls hD hl hF
    rw [F_X12_judge_l12] at hF
    refine lv_iload_n hx hb dX12_judge_12 rfl (lv_at hl 2 rfl) ?_
    refine lv_aload_n hx hb dX12_judge_13 rfl (lv_at hl 0 rfl) ?_
    refine gf_X12_222 hE hD dX12_judge_14 ?_
    refine lv_icmp_ge (tgt := 126) hx hb dX12_judge_17 (by decide) (fun c10 => ?_) (fun c10 => ?_)
    · have hF := ite_p hF c10
      refine lv_iconst (v := (0 : Int32)) hx hb dX12_judge_126 (by decide) ?_
      obtain rfl := Option.some.inj hF
      exact x_iret hE hD ⟨rfl, rfl⟩ (by omega) (by omega) dX12_judge_127
    · have hF := ite_n hF c10
      refine lv_aload_n hx hb dX12_judge_20 rfl (lv_at hl 0 rfl) ?_
      refine gf_X12_38 hE hD dX12_judge_21 ?_
      refine lv_iconst (v := (3 : Int32)) hx hb dX12_judge_24 (by decide) ?_
      refine lv_iload_n hx hb dX12_judge_25 rfl (lv_at hl 2 rfl) ?_
      refine lv_imul hx hb dX12_judge_26 ?_
      refine lv_iconst (v := (1 : Int32)) hx hb dX12_judge_27 (by decide) ?_
      refine lv_iadd hx hb dX12_judge_28 ?_
      obtain ⟨h11, hF⟩ := ite_s hF
      refine ma_ld_15 hE hD h11 dX12_judge_29 ?_
      refine lv_topi (fun x12 ex12 => ?_)
      have hF := xlet_e hF ex12
      refine lv_istore_n (lv' := [(3, .int x12), (0, .ref b), (1, .int y1), (2, .int y2)]) hx hb dX12_judge_30 rfl hl (by decide) rfl (fun ls hl => ?_)
      refine lv_aload_n hx hb dX12_judge_31 rfl (lv_at hl 1 rfl) ?_
      refine gf_X12_38 hE hD dX12_judge_32 ?_
      refine lv_iconst (v := (3 : Int32)) hx hb dX12_judge_35 (by decide) ?_
      refine lv_iload_n hx hb dX12_judge_36 rfl (lv_at hl 3 rfl) ?_
      refine lv_imul hx hb dX12_judge_37 ?_
      obtain ⟨h13, hF⟩ := ite_s hF
      refine ma_ld_15 hE hD h13 dX12_judge_38 ?_
      refine lv_iload_n hx hb dX12_judge_39 rfl (lv_at hl 3 rfl) ?_
      refine lv_iconst (v := (1 : Int32)) hx hb dX12_judge_40 (by decide) ?_
      refine lv_iadd hx hb dX12_judge_41 ?_
      refine lv_icmp_ne (tgt := 78) hx hb dX12_judge_42 (by decide) (fun c14 => ?_) (fun c14 => ?_)
      · have hF := ite_n hF c14
        exact B_X12_judge_j78 hE (F_X12_judge_l12 nn) ih hD (lv_sub hl [1, 2, 3, 0] rfl) hF
      · have hF := ite_p hF c14
        refine lv_iload_n hx hb dX12_judge_45 rfl (lv_at hl 3 rfl) ?_
        refine lv_if_ne (tgt := 60) hx hb dX12_judge_46 (by decide) (fun c15 => ?_) (fun c15 => ?_)
        · have hF := ite_n hF c15
          refine lv_iload_n hx hb dX12_judge_60 rfl (lv_at hl 0 rfl) ?_
          refine lv_aload_n hx hb dX12_judge_61 rfl (lv_at hl 1 rfl) ?_
          refine gf_X12_38 hE hD dX12_judge_62 ?_
          refine lv_iconst (v := (3 : Int32)) hx hb dX12_judge_65 (by decide) ?_
          refine lv_iload_n hx hb dX12_judge_66 rfl (lv_at hl 3 rfl) ?_
          refine lv_imul hx hb dX12_judge_67 ?_
          refine lv_iconst (v := (1 : Int32)) hx hb dX12_judge_68 (by decide) ?_
          refine lv_isub hx hb dX12_judge_69 ?_
          obtain ⟨h16, hF⟩ := ite_s hF
          refine ma_ld_15 hE hD h16 dX12_judge_70 ?_
          refine lv_icmp_ne (tgt := 78) hx hb dX12_judge_71 (by decide) (fun c17 => ?_) (fun c17 => ?_)
          · have hF := ite_n hF c17
            exact B_X12_judge_j78 hE (F_X12_judge_l12 nn) ih hD (lv_sub hl [1, 2, 3, 0] rfl) hF
          · have hF := ite_p hF c17
            exact B_X12_judge_j74 hE (F_X12_judge_l12 nn) ih hD (lv_sub hl [1, 2, 3, 0] rfl) hF
        · have hF := ite_p hF c15
          refine lv_iload_n hx hb dX12_judge_49 rfl (lv_at hl 0 rfl) ?_
          refine lv_i2l (v := x12.toInt64) hx hb dX12_judge_50 rfl ?_
          obtain ⟨r18, k19, hF⟩ := xb_s hF
          refine kSz (As := [.long x12.toInt64]) (rest := []) hE hl hD (c_X12_isPurse k19) kl_X12_134 rfl rfl (Nat.le_of_ble_eq_true rfl) dX12_judge_51 ⟨Nat.le_of_ble_eq_true rfl, Nat.le_of_ble_eq_true rfl⟩ ⟨Nat.le_of_ble_eq_true rfl, Nat.le_of_ble_eq_true rfl⟩ (fun H locs z20 (hD : mD G _ _ b u sz H locs) => ?_)
          refine lv_if_eq (tgt := 78) hx hb dX12_judge_54 (by decide) (fun c21 => ?_) (fun c21 => ?_)
          · have hF := ite_p hF c21
            exact B_X12_judge_j78 hE (F_X12_judge_l12 nn) ih hD (lv_sub hl [1, 2, 3, 0] rfl) hF
          · have hF := ite_n hF c21
            refine lv_goto (tgt := 74) hx hb dX12_judge_57 (by decide) ?_
            exact B_X12_judge_j74 hE (F_X12_judge_l12 nn) ih hD (lv_sub hl [1, 2, 3, 0] rfl) hF
def F_X12_judge (u : xS) (xa : Int32) : Option (Int32 × xS) := (F_X12_isBridge u xa).bind (fun r22 => if r22 = 0 then some ((-1 : Int32), u) else F_X12_judge_l12 xFuel u xa (0 : Int32))
theorem c_X12_judge {l : Launch} {G : xG} {b sz : Nat} {rr : (Int32 × xS)} {u : xS} {xa : Int32} (hF : F_X12_judge u xa = some rr) : xMi l G yX12_judge cX12_judge 5 (Option.some Jvm.ClassFile.FieldType.int) 7 0 0 [.ref b, .int xa] (mW G b u) sz (fun r z => r = rr.1 ∧ z = ((mW G b rr.2), sz)) := by
  unfold F_X12_judge at hF
  refine x_startI rfl (Nat.le_of_ble_eq_true rfl) (fun p e s m args below meth cd ls hE hnm hl hD => ?_)
  have hx := hE.1; have hb := hE.2.1
  have hl : lv_has ls 5 [(0, .ref b), (1, .int xa)] := hl
  have hD : mD G (xA (mW G b u) s.heap.size) s.heap b u sz s.heap [] := hD
  refine lv_aload_n hx hb dX12_judge_0 rfl (lv_at hl 0 rfl) ?_
  refine lv_iload_n hx hb dX12_judge_1 rfl (lv_at hl 1 rfl) ?_
  obtain ⟨r22, k23, hF⟩ := xb_s hF
  refine kVz (As := [.int xa]) (rest := []) hE hl hD (c_X12_isBridge (b := b) k23) kl_X12_114 (mW_0 _ _ _) rfl rfl rfl rfl (Nat.le_of_ble_eq_true rfl) dX12_judge_2 ⟨Nat.le_of_ble_eq_true rfl, Nat.le_of_ble_eq_true rfl⟩ ⟨Nat.le_of_ble_eq_true rfl, Nat.le_of_ble_eq_true rfl⟩ (fun H locs z24 (hD : mD G _ _ b u sz H locs) => ?_)
  refine lv_if_ne (tgt := 10) hx hb dX12_judge_5 (by decide) (fun c25 => ?_) (fun c25 => ?_)
  · have hF := ite_n hF c25
    refine lv_iconst (v := (0 : Int32)) hx hb dX12_judge_10 (by decide) ?_
    refine lv_istore_n (lv' := [(2, .int (0 : Int32)), (0, .ref b), (1, .int xa)]) hx hb dX12_judge_11 rfl hl (by decide) rfl (fun ls hl => ?_)
    exact L_X12_judge_l12 hE _ hD (lv_sub hl [1, 2, 0] rfl) hF
  · have hF := ite_p hF c25
    refine lv_iconst (v := (-1 : Int32)) hx hb dX12_judge_8 (by decide) ?_
    obtain rfl := Option.some.inj hF
    exact x_iret hE hD ⟨rfl, rfl⟩ (by omega) (by omega) dX12_judge_9
def F_X12_feed_l32 : Nat → xS → Int64 → Int32 → Int32 → Option (Int32 × xS)
  | 0, _, _, _, _ => none
  | nn + 1, u, y1, y3, y4 => if y3 ≤ y4 then some (u.1 18, u) else if xIn (u.1 18) 200 then xlet (mA u 17 (u.1 18).toNatClampNeg (((y1 >>> (((8 : Int32) * y4).toInt64 &&& 63)) &&& (255 : Int64)).toInt32)) (fun u3 => xlet (mS u3 18 ((u3.1 18) + (1 : Int32))) (fun u4 => xlet (y4 + (1 : Int32)) (fun x5 => F_X12_feed_l32 nn u4 y1 y3 x5))) else none
theorem L_X12_feed_l32 {p : Program} {l : Launch} {e : Env} {s : State} {m : MethodId} {args : Array Value} {below : List Frame} {meth : Method} {cd : Code} {G : xG} {w0 : xW} {b sz : Nat} {rr : (Int32 × xS)} (hE : xE p s m args meth cd cX12_feed RX12 G 5 (Option.some Jvm.ClassFile.FieldType.int)) : ∀ (nn : Nat) {u : xS} {y1 : Int64} {y3 : Int32} {y4 : Int32} {H : Heap} {locs : List Loc} {ls : Array Slot}, mD G (xA w0 s.heap.size) s.heap b u sz H locs → lv_has ls 5 [(0, .ref b), (1, .long y1), (3, .int y3), (4, .int y4)] → F_X12_feed_l32 nn u y1 y3 y4 = some rr → W p l e (xR 2 0 0) s m args below meth cd H locs 0 0 (xQi G w0 (fun r z => r = rr.1 ∧ z = ((mW G b rr.2), sz)) below args s 0 0) (F0 m 32 ls []) := by
  have hx := hE.1; have hb := hE.2.1
  intro nn
  induction nn with
  | zero => intro u y1 y3 y4 H locs ls hD hl hF; rw [F_X12_feed_l32] at hF; cases hF
  | succ nn ih =>
    intro u y1 y3 y4 H locs ls hD hl hF
    rw [F_X12_feed_l32] at hF
    refine lv_iload hx hb dX12_feed_32 (lv_at hl 3 rfl) ?_
    refine lv_iload_n hx hb dX12_feed_34 rfl (lv_at hl 2 rfl) ?_
    refine lv_icmp_ge (tgt := 75) hx hb dX12_feed_35 (by decide) (fun c1 => ?_) (fun c1 => ?_)
    · have hF := ite_p hF c1
      refine lv_aload_n hx hb dX12_feed_75 rfl (lv_at hl 0 rfl) ?_
      refine gf_X12_228 hE hD dX12_feed_76 ?_
      obtain rfl := Option.some.inj hF
      exact x_iret hE hD ⟨rfl, rfl⟩ (by omega) (by omega) dX12_feed_79
    · have hF := ite_n hF c1
      refine lv_aload_n hx hb dX12_feed_38 rfl (lv_at hl 0 rfl) ?_
      refine gf_X12_41 hE hD dX12_feed_39 ?_
      refine lv_aload_n hx hb dX12_feed_42 rfl (lv_at hl 0 rfl) ?_
      refine gf_X12_228 hE hD dX12_feed_43 ?_
      refine lv_lload_n hx hb dX12_feed_46 rfl (lv_at hl 1 rfl) ?_
      refine lv_bipush (v := (8 : Int32)) hx hb dX12_feed_47 (by decide) ?_
      refine lv_iload hx hb dX12_feed_49 (lv_at hl 3 rfl) ?_
      refine lv_imul hx hb dX12_feed_51 ?_
      refine lv_lshr (v := y1 >>> (((8 : Int32) * y4).toInt64 &&& 63)) hx hb dX12_feed_52 rfl ?_
      refine lv_ldc2 (v := (255 : Int64)) hx hb hE.2.2.1 (hE.2.2.2.1 _ kw7_91) dX12_feed_53 ?_
      refine lv_land hx hb dX12_feed_56 ?_
      refine lv_l2i (v := ((y1 >>> (((8 : Int32) * y4).toInt64 &&& 63)) &&& (255 : Int64)).toInt32) hx hb dX12_feed_57 rfl ?_
      obtain ⟨h2, hF⟩ := ite_s hF
      refine ma_st_17 hE hD h2 dX12_feed_58 (fun u3 H locs eu3 hD => ?_)
      have hF := xlet_e hF eu3
      refine lv_aload_n hx hb dX12_feed_59 rfl (lv_at hl 0 rfl) ?_
      refine lv_dup hx hb dX12_feed_60 rfl ?_
      refine gf_X12_228 hE hD dX12_feed_61 ?_
      refine lv_iconst (v := (1 : Int32)) hx hb dX12_feed_64 (by decide) ?_
      refine lv_iadd hx hb dX12_feed_65 ?_
      refine pf_X12_228 hE hD dX12_feed_66 (fun u4 H locs eu4 hD => ?_)
      have hF := xlet_e hF eu4
      obtain ⟨x5, ex5⟩ : ∃ y : Int32, y = y4 + (1 : Int32) := ⟨_, rfl⟩
      have hF := xlet_e hF ex5
      refine lv_iinc (v := x5) (lv' := [(4, .int x5), (0, .ref b), (1, .long y1), (3, .int y3)]) hx hb dX12_feed_69 hl (k := 3) rfl (by rw [ex5]; rfl) (by decide) rfl (fun ls hl => ?_)
      refine lv_goto (tgt := 32) hx hb dX12_feed_72 (by decide) ?_
      exact ih hD (lv_sub hl [1, 2, 3, 0] rfl) hF
def F_X12_feed (u : xS) (xa : Int64) (xb : Int32) : Option (Int32 × xS) := (F_X12_in xb.toInt64 (1 : Int64) (8 : Int64)).bind (fun r6 => if r6 = 0 then some ((-1 : Int32), u) else if ((u.1 18) + xb) ≤ (200 : Int32) then F_X12_feed_l32 xFuel u xa xb (0 : Int32) else some ((-2 : Int32), u))
theorem c_X12_feed {l : Launch} {G : xG} {b sz : Nat} {rr : (Int32 × xS)} {u : xS} {xa : Int64} {xb : Int32} (hF : F_X12_feed u xa xb = some rr) : xMi l G yX12_feed cX12_feed 5 (Option.some Jvm.ClassFile.FieldType.int) 2 0 0 [.ref b, .long xa, .int xb] (mW G b u) sz (fun r z => r = rr.1 ∧ z = ((mW G b rr.2), sz)) := by
  unfold F_X12_feed at hF
  refine x_startI rfl (Nat.le_of_ble_eq_true rfl) (fun p e s m args below meth cd ls hE hnm hl hD => ?_)
  have hx := hE.1; have hb := hE.2.1
  have hl : lv_has ls 5 [(0, .ref b), (1, .long xa), (3, .int xb)] := hl
  have hD : mD G (xA (mW G b u) s.heap.size) s.heap b u sz s.heap [] := hD
  refine lv_iload_n hx hb dX12_feed_0 rfl (lv_at hl 2 rfl) ?_
  refine lv_i2l (v := xb.toInt64) hx hb dX12_feed_1 rfl ?_
  refine lv_lconst (v := (1 : Int64)) hx hb dX12_feed_2 (by decide) ?_
  refine lv_ldc2 (v := (8 : Int64)) hx hb hE.2.2.1 (hE.2.2.2.1 _ kw6_214) dX12_feed_3 ?_
  obtain ⟨r6, k7, hF⟩ := xb_s hF
  refine kSz (As := [.long xb.toInt64, .long (1 : Int64), .long (8 : Int64)]) (rest := []) hE hl hD (c_X12_in k7) kl_X12_67 rfl rfl (Nat.le_of_ble_eq_true rfl) dX12_feed_6 ⟨Nat.le_of_ble_eq_true rfl, Nat.le_of_ble_eq_true rfl⟩ ⟨Nat.le_of_ble_eq_true rfl, Nat.le_of_ble_eq_true rfl⟩ (fun H locs z8 (hD : mD G _ _ b u sz H locs) => ?_)
  refine lv_if_ne (tgt := 14) hx hb dX12_feed_9 (by decide) (fun c9 => ?_) (fun c9 => ?_)
  · have hF := ite_n hF c9
    refine lv_aload_n hx hb dX12_feed_14 rfl (lv_at hl 0 rfl) ?_
    refine gf_X12_228 hE hD dX12_feed_15 ?_
    refine lv_iload_n hx hb dX12_feed_18 rfl (lv_at hl 2 rfl) ?_
    refine lv_iadd hx hb dX12_feed_19 ?_
    refine lv_sipush (v := (200 : Int32)) hx hb dX12_feed_20 (by decide) ?_
    refine lv_icmp_le (tgt := 29) hx hb dX12_feed_23 (by decide) (fun c10 => ?_) (fun c10 => ?_)
    · have hF := ite_p hF c10
      refine lv_iconst (v := (0 : Int32)) hx hb dX12_feed_29 (by decide) ?_
      refine lv_istore (lv' := [(4, .int (0 : Int32)), (0, .ref b), (1, .long xa), (3, .int xb)]) hx hb dX12_feed_30 hl (by decide) rfl (fun ls hl => ?_)
      exact L_X12_feed_l32 hE _ hD (lv_sub hl [1, 2, 3, 0] rfl) hF
    · have hF := ite_n hF c10
      refine lv_bipush (v := (-2 : Int32)) hx hb dX12_feed_26 (by decide) ?_
      obtain rfl := Option.some.inj hF
      exact x_iret hE hD ⟨rfl, rfl⟩ (by omega) (by omega) dX12_feed_28
  · have hF := ite_p hF c9
    refine lv_iconst (v := (-1 : Int32)) hx hb dX12_feed_12 (by decide) ?_
    obtain rfl := Option.some.inj hF
    exact x_iret hE hD ⟨rfl, rfl⟩ (by omega) (by omega) dX12_feed_13
def F_X12_byteAt_j18 (u : xS) (s0 : Int32) : Option Int32 := some s0
theorem B_X12_byteAt_j18 {p : Program} {l : Launch} {e : Env} {s : State} {m : MethodId} {args : Array Value} {below : List Frame} {meth : Method} {cd : Code} {G : xG} {w0 : xW} {b sz : Nat} {rr : Int32} (hE : xE p s m args meth cd cX12_byteAt RX12 G 2 (Option.some Jvm.ClassFile.FieldType.int)) {u : xS} {s0 : Int32} {H : Heap} {locs : List Loc} {ls : Array Slot} (hD : mD G (xA w0 s.heap.size) s.heap b u sz H locs) (hl : lv_has ls 2 [(0, .ref b)]) (hF : F_X12_byteAt_j18 u s0 = some rr) : W p l e (xR 1 0 0) s m args below meth cd H locs 0 0 (xQi G w0 (fun r z => r = rr ∧ z = ((mW G b u), sz)) below args s 0 0) (F0 m 18 ls [.int s0]) := by
  have hx := hE.1; have hb := hE.2.1
  unfold F_X12_byteAt_j18 at hF
  obtain rfl := Option.some.inj hF
  exact x_iret hE hD ⟨rfl, rfl⟩ (by omega) (by omega) dX12_byteAt_18
def F_X12_byteAt (u : xS) (xa : Int32) : Option Int32 := if (u.1 18) ≤ xa then F_X12_byteAt_j18 u (-1 : Int32) else if xIn xa 200 then F_X12_byteAt_j18 u (u.2.1 17 xa.toNatClampNeg) else none
theorem c_X12_byteAt {l : Launch} {G : xG} {b sz : Nat} {rr : Int32} {u : xS} {xa : Int32} (hF : F_X12_byteAt u xa = some rr) : xMi l G yX12_byteAt cX12_byteAt 2 (Option.some Jvm.ClassFile.FieldType.int) 1 0 0 [.ref b, .int xa] (mW G b u) sz (fun r z => r = rr ∧ z = ((mW G b u), sz)) := by
  unfold F_X12_byteAt at hF
  refine x_startI rfl (Nat.le_of_ble_eq_true rfl) (fun p e s m args below meth cd ls hE hnm hl hD => ?_)
  have hx := hE.1; have hb := hE.2.1
  have hl : lv_has ls 2 [(0, .ref b), (1, .int xa)] := hl
  have hD : mD G (xA (mW G b u) s.heap.size) s.heap b u sz s.heap [] := hD
  refine lv_iload_n hx hb dX12_byteAt_0 rfl (lv_at hl 1 rfl) ?_
  refine lv_aload_n hx hb dX12_byteAt_1 rfl (lv_at hl 0 rfl) ?_
  refine gf_X12_228 hE hD dX12_byteAt_2 ?_
  refine lv_icmp_ge (tgt := 17) hx hb dX12_byteAt_5 (by decide) (fun c1 => ?_) (fun c1 => ?_)
  · have hF := ite_p hF c1
    refine lv_iconst (v := (-1 : Int32)) hx hb dX12_byteAt_17 (by decide) ?_
    exact B_X12_byteAt_j18 hE hD (lv_sub hl [0] rfl) hF
  · have hF := ite_n hF c1
    refine lv_aload_n hx hb dX12_byteAt_8 rfl (lv_at hl 0 rfl) ?_
    refine gf_X12_41 hE hD dX12_byteAt_9 ?_
    refine lv_iload_n hx hb dX12_byteAt_12 rfl (lv_at hl 1 rfl) ?_
    obtain ⟨h2, hF⟩ := ite_s hF
    refine ma_ld_17 hE hD h2 dX12_byteAt_13 ?_
    refine lv_goto (tgt := 18) hx hb dX12_byteAt_14 (by decide) ?_
    exact B_X12_byteAt_j18 hE hD (lv_sub hl [0] rfl) hF
def F_X12_isLetter (xa : Int32) : Option Int32 := (F_X12_in xa.toInt64 (97 : Int64) (122 : Int64)).bind (fun r1 => some r1)
theorem c_X12_isLetter {l : Launch} {G : xG} {w : xW} {sz : Nat} {rr : Int32} {xa : Int32} (hF : F_X12_isLetter xa = some rr) : xMi l G yX12_isLetter cX12_isLetter 1 (Option.some Jvm.ClassFile.FieldType.boolean) 2 0 0 [.int xa] w sz (fun r z => r = rr ∧ (rr = 0 ∨ rr = 1) ∧ z = (w, sz)) := by
  unfold F_X12_isLetter at hF
  refine x_startI rfl (Nat.le_of_ble_eq_true rfl) (fun p e s m args below meth cd ls hE hnm hl hD => ?_)
  have hx := hE.1; have hb := hE.2.1
  have hl : lv_has ls 1 [(0, .int xa)] := hl
  refine lv_iload_n hx hb dX12_isLetter_0 rfl (lv_at hl 0 rfl) ?_
  refine lv_i2l (v := xa.toInt64) hx hb dX12_isLetter_1 rfl ?_
  refine lv_ldc2 (v := (97 : Int64)) hx hb hE.2.2.1 (hE.2.2.2.1 _ kw7_111) dX12_isLetter_2 ?_
  refine lv_ldc2 (v := (122 : Int64)) hx hb hE.2.2.1 (hE.2.2.2.1 _ kw7_112) dX12_isLetter_5 ?_
  obtain ⟨r1, k2, hF⟩ := xb_s hF
  refine kSz (As := [.long xa.toInt64, .long (97 : Int64), .long (122 : Int64)]) (rest := []) hE hl hD (c_X12_in k2) kl_X12_67 rfl rfl (Nat.le_of_ble_eq_true rfl) dX12_isLetter_8 ⟨Nat.le_of_ble_eq_true rfl, Nat.le_of_ble_eq_true rfl⟩ ⟨Nat.le_of_ble_eq_true rfl, Nat.le_of_ble_eq_true rfl⟩ (fun H locs z3 (hD : xD G _ _ w sz H locs) => ?_)
  obtain rfl := Option.some.inj hF
  exact x_zret hE hD z3 ⟨rfl, z3, rfl⟩ (by omega) (by omega) dX12_isLetter_11
def F_X12_isDigit (xa : Int32) : Option Int32 := (F_X12_in xa.toInt64 (48 : Int64) (57 : Int64)).bind (fun r1 => some r1)
theorem c_X12_isDigit {l : Launch} {G : xG} {w : xW} {sz : Nat} {rr : Int32} {xa : Int32} (hF : F_X12_isDigit xa = some rr) : xMi l G yX12_isDigit cX12_isDigit 1 (Option.some Jvm.ClassFile.FieldType.boolean) 2 0 0 [.int xa] w sz (fun r z => r = rr ∧ (rr = 0 ∨ rr = 1) ∧ z = (w, sz)) := by
  unfold F_X12_isDigit at hF
  refine x_startI rfl (Nat.le_of_ble_eq_true rfl) (fun p e s m args below meth cd ls hE hnm hl hD => ?_)
  have hx := hE.1; have hb := hE.2.1
  have hl : lv_has ls 1 [(0, .int xa)] := hl
  refine lv_iload_n hx hb dX12_isDigit_0 rfl (lv_at hl 0 rfl) ?_
  refine lv_i2l (v := xa.toInt64) hx hb dX12_isDigit_1 rfl ?_
  refine lv_ldc2 (v := (48 : Int64)) hx hb hE.2.2.1 (hE.2.2.2.1 _ kw7_116) dX12_isDigit_2 ?_
  refine lv_ldc2 (v := (57 : Int64)) hx hb hE.2.2.1 (hE.2.2.2.1 _ kw7_117) dX12_isDigit_5 ?_
  obtain ⟨r1, k2, hF⟩ := xb_s hF
  refine kSz (As := [.long xa.toInt64, .long (48 : Int64), .long (57 : Int64)]) (rest := []) hE hl hD (c_X12_in k2) kl_X12_67 rfl rfl (Nat.le_of_ble_eq_true rfl) dX12_isDigit_8 ⟨Nat.le_of_ble_eq_true rfl, Nat.le_of_ble_eq_true rfl⟩ ⟨Nat.le_of_ble_eq_true rfl, Nat.le_of_ble_eq_true rfl⟩ (fun H locs z3 (hD : xD G _ _ w sz H locs) => ?_)
  obtain rfl := Option.some.inj hF
  exact x_zret hE hD z3 ⟨rfl, z3, rfl⟩ (by omega) (by omega) dX12_isDigit_11
def F_X12_token_j135 (u : xS)  : Option (xS) := some u
theorem B_X12_token_j135 {p : Program} {l : Launch} {e : Env} {s : State} {m : MethodId} {args : Array Value} {below : List Frame} {meth : Method} {cd : Code} {G : xG} {w0 : xW} {b sz : Nat} {rr : (xS)} (hE : xE p s m args meth cd cX12_token RX12 G 3 (Option.none : Option Jvm.ClassFile.FieldType)) {u : xS}  {H : Heap} {locs : List Loc} {ls : Array Slot} (hD : mD G (xA w0 s.heap.size) s.heap b u sz H locs) (hl : lv_has ls 3 [(0, .ref b)]) (hF : F_X12_token_j135 u  = some rr) : W p l e (xR 3 0 0) s m args below meth cd H locs 0 0 (xQv G w0 (fun z => z = ((mW G b rr), sz)) below args s 0 0) (F0 m 135 ls []) := by
  have hx := hE.1; have hb := hE.2.1
  unfold F_X12_token_j135 at hF
  obtain rfl := Option.some.inj hF
  exact x_vret hE hD rfl (by omega) (by omega) dX12_token_135
def F_X12_token_j122 (k86 : xS → Int32 → Int32 → Option (xS)) (u : xS) (y1 : Int32) (y2 : Int32) : Option (xS) := xlet (mS u 20 ((u.1 20) + (1 : Int32))) (fun u1 => k86 u1 y1 y2)
theorem B_X12_token_j122 {p : Program} {l : Launch} {e : Env} {s : State} {m : MethodId} {args : Array Value} {below : List Frame} {meth : Method} {cd : Code} {G : xG} {w0 : xW} {b sz : Nat} {rr : (xS)} (hE : xE p s m args meth cd cX12_token RX12 G 3 (Option.none : Option Jvm.ClassFile.FieldType)) {u : xS} (k86 : xS → Int32 → Int32 → Option (xS)) (h86 : ∀ {u1 : xS} {y1 : Int32} {y2 : Int32} {H : Heap} {locs : List Loc} {ls : Array Slot}, mD G (xA w0 s.heap.size) s.heap b u1 sz H locs → lv_has ls 3 [(0, .ref b), (1, .int y1), (2, .int y2)] → k86 u1 y1 y2 = some rr → W p l e (xR 3 0 0) s m args below meth cd H locs 0 0 (xQv G w0 (fun z => z = ((mW G b rr), sz)) below args s 0 0) (F0 m 86 ls [])) {y1 : Int32} {y2 : Int32} {H : Heap} {locs : List Loc} {ls : Array Slot} (hD : mD G (xA w0 s.heap.size) s.heap b u sz H locs) (hl : lv_has ls 3 [(0, .ref b), (1, .int y1), (2, .int y2)]) (hF : F_X12_token_j122 k86 u y1 y2 = some rr) : W p l e (xR 3 0 0) s m args below meth cd H locs 0 0 (xQv G w0 (fun z => z = ((mW G b rr), sz)) below args s 0 0) (F0 m 122 ls []) := by
  have hx := hE.1; have hb := hE.2.1
  unfold F_X12_token_j122 at hF
  refine lv_aload_n hx hb dX12_token_122 rfl (lv_at hl 0 rfl) ?_
  refine lv_dup hx hb dX12_token_123 rfl ?_
  refine gf_X12_241 hE hD dX12_token_124 ?_
  refine lv_iconst (v := (1 : Int32)) hx hb dX12_token_127 (by decide) ?_
  refine lv_iadd hx hb dX12_token_128 ?_
  refine pf_X12_241 hE hD dX12_token_129 (fun u1 H locs eu1 hD => ?_)
  have hF := xlet_e hF eu1
  refine lv_goto (tgt := 86) hx hb dX12_token_132 (by decide) ?_
  exact h86 hD (lv_sub hl [0, 1, 2] rfl) hF
def F_X12_token_j104 (k86 : xS → Int32 → Int32 → Option (xS)) (u : xS) (y1 : Int32) (y2 : Int32) : Option (xS) := if y2 = 0 then F_X12_token_j135 u else (F_X12_byteAt u (u.1 20)).bind (fun r3 => (F_X12_isDigit r3).bind (fun r5 => if r5 = 0 then F_X12_token_j135 u else F_X12_token_j122 k86 u y1 y2))
theorem B_X12_token_j104 {p : Program} {l : Launch} {e : Env} {s : State} {m : MethodId} {args : Array Value} {below : List Frame} {meth : Method} {cd : Code} {G : xG} {w0 : xW} {b sz : Nat} {rr : (xS)} (hE : xE p s m args meth cd cX12_token RX12 G 3 (Option.none : Option Jvm.ClassFile.FieldType)) {u : xS} (k86 : xS → Int32 → Int32 → Option (xS)) (h86 : ∀ {u1 : xS} {y1 : Int32} {y2 : Int32} {H : Heap} {locs : List Loc} {ls : Array Slot}, mD G (xA w0 s.heap.size) s.heap b u1 sz H locs → lv_has ls 3 [(0, .ref b), (1, .int y1), (2, .int y2)] → k86 u1 y1 y2 = some rr → W p l e (xR 3 0 0) s m args below meth cd H locs 0 0 (xQv G w0 (fun z => z = ((mW G b rr), sz)) below args s 0 0) (F0 m 86 ls [])) {y1 : Int32} {y2 : Int32} {H : Heap} {locs : List Loc} {ls : Array Slot} (hD : mD G (xA w0 s.heap.size) s.heap b u sz H locs) (hl : lv_has ls 3 [(0, .ref b), (1, .int y1), (2, .int y2)]) (hF : F_X12_token_j104 k86 u y1 y2 = some rr) : W p l e (xR 3 0 0) s m args below meth cd H locs 0 0 (xQv G w0 (fun z => z = ((mW G b rr), sz)) below args s 0 0) (F0 m 104 ls []) := by
  have hx := hE.1; have hb := hE.2.1
  unfold F_X12_token_j104 at hF
  refine lv_iload_n hx hb dX12_token_104 rfl (lv_at hl 2 rfl) ?_
  refine lv_if_eq (tgt := 135) hx hb dX12_token_105 (by decide) (fun c2 => ?_) (fun c2 => ?_)
  · have hF := ite_p hF c2
    exact B_X12_token_j135 hE hD (lv_sub hl [0] rfl) hF
  · have hF := ite_n hF c2
    refine lv_aload_n hx hb dX12_token_108 rfl (lv_at hl 0 rfl) ?_
    refine lv_aload_n hx hb dX12_token_109 rfl (lv_at hl 0 rfl) ?_
    refine gf_X12_241 hE hD dX12_token_110 ?_
    obtain ⟨r3, k4, hF⟩ := xb_s hF
    refine kVi (As := [.int (u.1 20)]) (rest := []) hE hl hD (c_X12_byteAt (b := b) k4) kl_X12_247 (mW_0 _ _ _) rfl rfl rfl rfl (Nat.le_of_ble_eq_true rfl) dX12_token_113 ⟨Nat.le_of_ble_eq_true rfl, Nat.le_of_ble_eq_true rfl⟩ ⟨Nat.le_of_ble_eq_true rfl, Nat.le_of_ble_eq_true rfl⟩ (fun H locs (hD : mD G _ _ b u sz H locs) => ?_)
    obtain ⟨r5, k6, hF⟩ := xb_s hF
    refine kSz (As := [.int r3]) (rest := []) hE hl hD (c_X12_isDigit k6) kl_X12_253 rfl rfl (Nat.le_of_ble_eq_true rfl) dX12_token_116 ⟨Nat.le_of_ble_eq_true rfl, Nat.le_of_ble_eq_true rfl⟩ ⟨Nat.le_of_ble_eq_true rfl, Nat.le_of_ble_eq_true rfl⟩ (fun H locs z7 (hD : mD G _ _ b u sz H locs) => ?_)
    refine lv_if_eq (tgt := 135) hx hb dX12_token_119 (by decide) (fun c8 => ?_) (fun c8 => ?_)
    · have hF := ite_p hF c8
      exact B_X12_token_j135 hE hD (lv_sub hl [0] rfl) hF
    · have hF := ite_n hF c8
      exact B_X12_token_j122 hE k86 h86 hD (lv_sub hl [0, 1, 2] rfl) hF
def F_X12_token_l86 : Nat → xS → Int32 → Int32 → Option (xS)
  | 0, _, _, _ => none
  | nn + 1, u, y1, y2 => if y1 = 0 then F_X12_token_j104 (F_X12_token_l86 nn) u y1 y2 else (F_X12_byteAt u (u.1 20)).bind (fun r10 => (F_X12_isLetter r10).bind (fun r12 => if r12 = 0 then F_X12_token_j104 (F_X12_token_l86 nn) u y1 y2 else F_X12_token_j122 (F_X12_token_l86 nn) u y1 y2))
theorem L_X12_token_l86 {p : Program} {l : Launch} {e : Env} {s : State} {m : MethodId} {args : Array Value} {below : List Frame} {meth : Method} {cd : Code} {G : xG} {w0 : xW} {b sz : Nat} {rr : (xS)} (hE : xE p s m args meth cd cX12_token RX12 G 3 (Option.none : Option Jvm.ClassFile.FieldType)) : ∀ (nn : Nat) {u : xS} {y1 : Int32} {y2 : Int32} {H : Heap} {locs : List Loc} {ls : Array Slot}, mD G (xA w0 s.heap.size) s.heap b u sz H locs → lv_has ls 3 [(0, .ref b), (1, .int y1), (2, .int y2)] → F_X12_token_l86 nn u y1 y2 = some rr → W p l e (xR 3 0 0) s m args below meth cd H locs 0 0 (xQv G w0 (fun z => z = ((mW G b rr), sz)) below args s 0 0) (F0 m 86 ls []) := by
  have hx := hE.1; have hb := hE.2.1
  intro nn
  induction nn with
  | zero => intro u y1 y2 H locs ls hD hl hF; rw [F_X12_token_l86] at hF; cases hF
  | succ nn ih =>
    intro u y1 y2 H locs ls hD hl hF
    rw [F_X12_token_l86] at hF
    refine lv_iload_n hx hb dX12_token_86 rfl (lv_at hl 1 rfl) ?_
    refine lv_if_eq (tgt := 104) hx hb dX12_token_87 (by decide) (fun c9 => ?_) (fun c9 => ?_)
    · have hF := ite_p hF c9
      exact B_X12_token_j104 hE (F_X12_token_l86 nn) ih hD (lv_sub hl [0, 1, 2] rfl) hF
    · have hF := ite_n hF c9
      refine lv_aload_n hx hb dX12_token_90 rfl (lv_at hl 0 rfl) ?_
      refine lv_aload_n hx hb dX12_token_91 rfl (lv_at hl 0 rfl) ?_
      refine gf_X12_241 hE hD dX12_token_92 ?_
      obtain ⟨r10, k11, hF⟩ := xb_s hF
      refine kVi (As := [.int (u.1 20)]) (rest := []) hE hl hD (c_X12_byteAt (b := b) k11) kl_X12_247 (mW_0 _ _ _) rfl rfl rfl rfl (Nat.le_of_ble_eq_true rfl) dX12_token_95 ⟨Nat.le_of_ble_eq_true rfl, Nat.le_of_ble_eq_true rfl⟩ ⟨Nat.le_of_ble_eq_true rfl, Nat.le_of_ble_eq_true rfl⟩ (fun H locs (hD : mD G _ _ b u sz H locs) => ?_)
      obtain ⟨r12, k13, hF⟩ := xb_s hF
      refine kSz (As := [.int r10]) (rest := []) hE hl hD (c_X12_isLetter k13) kl_X12_250 rfl rfl (Nat.le_of_ble_eq_true rfl) dX12_token_98 ⟨Nat.le_of_ble_eq_true rfl, Nat.le_of_ble_eq_true rfl⟩ ⟨Nat.le_of_ble_eq_true rfl, Nat.le_of_ble_eq_true rfl⟩ (fun H locs z14 (hD : mD G _ _ b u sz H locs) => ?_)
      refine lv_if_ne (tgt := 122) hx hb dX12_token_101 (by decide) (fun c15 => ?_) (fun c15 => ?_)
      · have hF := ite_n hF c15
        exact B_X12_token_j122 hE (F_X12_token_l86 nn) ih hD (lv_sub hl [0, 1, 2] rfl) hF
      · have hF := ite_p hF c15
        exact B_X12_token_j104 hE (F_X12_token_l86 nn) ih hD (lv_sub hl [0, 1, 2] rfl) hF
def F_X12_token_j83 (u : xS) (y1 : Int32) (y2 : Int32) (s1 : Int32) : Option (xS) := xlet (mS u 20 s1) (fun u16 => F_X12_token_l86 xFuel u16 y1 y2)
theorem B_X12_token_j83 {p : Program} {l : Launch} {e : Env} {s : State} {m : MethodId} {args : Array Value} {below : List Frame} {meth : Method} {cd : Code} {G : xG} {w0 : xW} {b sz : Nat} {rr : (xS)} (hE : xE p s m args meth cd cX12_token RX12 G 3 (Option.none : Option Jvm.ClassFile.FieldType)) {u : xS} {y1 : Int32} {y2 : Int32} {s1 : Int32} {H : Heap} {locs : List Loc} {ls : Array Slot} (hD : mD G (xA w0 s.heap.size) s.heap b u sz H locs) (hl : lv_has ls 3 [(0, .ref b), (1, .int y1), (2, .int y2)]) (hF : F_X12_token_j83 u y1 y2 s1 = some rr) : W p l e (xR 3 0 0) s m args below meth cd H locs 0 0 (xQv G w0 (fun z => z = ((mW G b rr), sz)) below args s 0 0) (F0 m 83 ls [.int s1, .ref b]) := by
  have hx := hE.1; have hb := hE.2.1
  unfold F_X12_token_j83 at hF
  refine pf_X12_241 hE hD dX12_token_83 (fun u16 H locs eu16 hD => ?_)
  have hF := xlet_e hF eu16
  exact L_X12_token_l86 hE _ hD (lv_sub hl [0, 1, 2] rfl) hF
def F_X12_token_l8 : Nat → xS → Option (xS)
  | 0, _ => none
  | nn + 1, u => (F_X12_byteAt u (u.1 19)).bind (fun r17 => if r17 = (32 : Int32) then xlet (mS u 19 ((u.1 19) + (1 : Int32))) (fun u31 => F_X12_token_l8 nn u31) else (F_X12_byteAt u (u.1 19)).bind (fun r20 => (F_X12_isLetter r20).bind (fun r22 => (F_X12_byteAt u (u.1 19)).bind (fun r25 => (F_X12_isDigit r25).bind (fun r27 => if (u.1 18) ≤ (u.1 19) then F_X12_token_j83 u r22 r27 (u.1 19) else F_X12_token_j83 u r22 r27 ((u.1 19) + (1 : Int32)))))))
theorem L_X12_token_l8 {p : Program} {l : Launch} {e : Env} {s : State} {m : MethodId} {args : Array Value} {below : List Frame} {meth : Method} {cd : Code} {G : xG} {w0 : xW} {b sz : Nat} {rr : (xS)} (hE : xE p s m args meth cd cX12_token RX12 G 3 (Option.none : Option Jvm.ClassFile.FieldType)) : ∀ (nn : Nat) {u : xS} {H : Heap} {locs : List Loc} {ls : Array Slot}, mD G (xA w0 s.heap.size) s.heap b u sz H locs → lv_has ls 3 [(0, .ref b)] → F_X12_token_l8 nn u  = some rr → W p l e (xR 3 0 0) s m args below meth cd H locs 0 0 (xQv G w0 (fun z => z = ((mW G b rr), sz)) below args s 0 0) (F0 m 8 ls []) := by
  have hx := hE.1; have hb := hE.2.1
  intro nn
  induction nn with
  | zero => intro u  H locs ls hD hl hF; rw [F_X12_token_l8] at hF; cases hF
  | succ nn ih =>
    intro u  H locs ls hD hl hF
    rw [F_X12_token_l8] at hF
    refine lv_aload_n hx hb dX12_token_8 rfl (lv_at hl 0 rfl) ?_
    refine lv_aload_n hx hb dX12_token_9 rfl (lv_at hl 0 rfl) ?_
    refine gf_X12_244 hE hD dX12_token_10 ?_
    obtain ⟨r17, k18, hF⟩ := xb_s hF
    refine kVi (As := [.int (u.1 19)]) (rest := []) hE hl hD (c_X12_byteAt (b := b) k18) kl_X12_247 (mW_0 _ _ _) rfl rfl rfl rfl (Nat.le_of_ble_eq_true rfl) dX12_token_13 ⟨Nat.le_of_ble_eq_true rfl, Nat.le_of_ble_eq_true rfl⟩ ⟨Nat.le_of_ble_eq_true rfl, Nat.le_of_ble_eq_true rfl⟩ (fun H locs (hD : mD G _ _ b u sz H locs) => ?_)
    refine lv_bipush (v := (32 : Int32)) hx hb dX12_token_16 (by decide) ?_
    refine lv_icmp_ne (tgt := 34) hx hb dX12_token_18 (by decide) (fun c19 => ?_) (fun c19 => ?_)
    · have hF := ite_n hF c19
      refine lv_aload_n hx hb dX12_token_34 rfl (lv_at hl 0 rfl) ?_
      refine lv_aload_n hx hb dX12_token_35 rfl (lv_at hl 0 rfl) ?_
      refine gf_X12_244 hE hD dX12_token_36 ?_
      obtain ⟨r20, k21, hF⟩ := xb_s hF
      refine kVi (As := [.int (u.1 19)]) (rest := []) hE hl hD (c_X12_byteAt (b := b) k21) kl_X12_247 (mW_0 _ _ _) rfl rfl rfl rfl (Nat.le_of_ble_eq_true rfl) dX12_token_39 ⟨Nat.le_of_ble_eq_true rfl, Nat.le_of_ble_eq_true rfl⟩ ⟨Nat.le_of_ble_eq_true rfl, Nat.le_of_ble_eq_true rfl⟩ (fun H locs (hD : mD G _ _ b u sz H locs) => ?_)
      obtain ⟨r22, k23, hF⟩ := xb_s hF
      refine kSz (As := [.int r20]) (rest := []) hE hl hD (c_X12_isLetter k23) kl_X12_250 rfl rfl (Nat.le_of_ble_eq_true rfl) dX12_token_42 ⟨Nat.le_of_ble_eq_true rfl, Nat.le_of_ble_eq_true rfl⟩ ⟨Nat.le_of_ble_eq_true rfl, Nat.le_of_ble_eq_true rfl⟩ (fun H locs z24 (hD : mD G _ _ b u sz H locs) => ?_)
      refine lv_istore_n (lv' := [(1, .int r22), (0, .ref b)]) hx hb dX12_token_45 rfl hl (by decide) rfl (fun ls hl => ?_)
      refine lv_aload_n hx hb dX12_token_46 rfl (lv_at hl 1 rfl) ?_
      refine lv_aload_n hx hb dX12_token_47 rfl (lv_at hl 1 rfl) ?_
      refine gf_X12_244 hE hD dX12_token_48 ?_
      obtain ⟨r25, k26, hF⟩ := xb_s hF
      refine kVi (As := [.int (u.1 19)]) (rest := []) hE hl hD (c_X12_byteAt (b := b) k26) kl_X12_247 (mW_0 _ _ _) rfl rfl rfl rfl (Nat.le_of_ble_eq_true rfl) dX12_token_51 ⟨Nat.le_of_ble_eq_true rfl, Nat.le_of_ble_eq_true rfl⟩ ⟨Nat.le_of_ble_eq_true rfl, Nat.le_of_ble_eq_true rfl⟩ (fun H locs (hD : mD G _ _ b u sz H locs) => ?_)
      obtain ⟨r27, k28, hF⟩ := xb_s hF
      refine kSz (As := [.int r25]) (rest := []) hE hl hD (c_X12_isDigit k28) kl_X12_253 rfl rfl (Nat.le_of_ble_eq_true rfl) dX12_token_54 ⟨Nat.le_of_ble_eq_true rfl, Nat.le_of_ble_eq_true rfl⟩ ⟨Nat.le_of_ble_eq_true rfl, Nat.le_of_ble_eq_true rfl⟩ (fun H locs z29 (hD : mD G _ _ b u sz H locs) => ?_)
      refine lv_istore_n (lv' := [(2, .int r27), (1, .int r22), (0, .ref b)]) hx hb dX12_token_57 rfl hl (by decide) rfl (fun ls hl => ?_)
      refine lv_aload_n hx hb dX12_token_58 rfl (lv_at hl 2 rfl) ?_
      refine lv_aload_n hx hb dX12_token_59 rfl (lv_at hl 2 rfl) ?_
      refine gf_X12_244 hE hD dX12_token_60 ?_
      refine lv_aload_n hx hb dX12_token_63 rfl (lv_at hl 2 rfl) ?_
      refine gf_X12_228 hE hD dX12_token_64 ?_
      refine lv_icmp_ge (tgt := 79) hx hb dX12_token_67 (by decide) (fun c30 => ?_) (fun c30 => ?_)
      · have hF := ite_p hF c30
        refine lv_aload_n hx hb dX12_token_79 rfl (lv_at hl 2 rfl) ?_
        refine gf_X12_244 hE hD dX12_token_80 ?_
        exact B_X12_token_j83 hE hD (lv_sub hl [2, 1, 0] rfl) hF
      · have hF := ite_n hF c30
        refine lv_aload_n hx hb dX12_token_70 rfl (lv_at hl 2 rfl) ?_
        refine gf_X12_244 hE hD dX12_token_71 ?_
        refine lv_iconst (v := (1 : Int32)) hx hb dX12_token_74 (by decide) ?_
        refine lv_iadd hx hb dX12_token_75 ?_
        refine lv_goto (tgt := 83) hx hb dX12_token_76 (by decide) ?_
        exact B_X12_token_j83 hE hD (lv_sub hl [2, 1, 0] rfl) hF
    · have hF := ite_p hF c19
      refine lv_aload_n hx hb dX12_token_21 rfl (lv_at hl 0 rfl) ?_
      refine lv_dup hx hb dX12_token_22 rfl ?_
      refine gf_X12_244 hE hD dX12_token_23 ?_
      refine lv_iconst (v := (1 : Int32)) hx hb dX12_token_26 (by decide) ?_
      refine lv_iadd hx hb dX12_token_27 ?_
      refine pf_X12_244 hE hD dX12_token_28 (fun u31 H locs eu31 hD => ?_)
      have hF := xlet_e hF eu31
      refine lv_goto (tgt := 8) hx hb dX12_token_31 (by decide) ?_
      exact ih hD (lv_sub hl [0] rfl) hF
def F_X12_token (u : xS)  : Option (xS) := xlet (mS u 19 (u.1 20)) (fun u32 => F_X12_token_l8 xFuel u32)
theorem c_X12_token {l : Launch} {G : xG} {b sz : Nat} {rr : (xS)} {u : xS}  (hF : F_X12_token u  = some rr) : xMv l G yX12_token cX12_token 3 (Option.none : Option Jvm.ClassFile.FieldType) 3 0 0 [.ref b] (mW G b u) sz (fun z => z = ((mW G b rr), sz)) := by
  unfold F_X12_token at hF
  refine x_startV rfl (Nat.le_of_ble_eq_true rfl) (fun p e s m args below meth cd ls hE hnm hl hD => ?_)
  have hx := hE.1; have hb := hE.2.1
  have hl : lv_has ls 3 [(0, .ref b)] := hl
  have hD : mD G (xA (mW G b u) s.heap.size) s.heap b u sz s.heap [] := hD
  refine lv_aload_n hx hb dX12_token_0 rfl (lv_at hl 0 rfl) ?_
  refine lv_aload_n hx hb dX12_token_1 rfl (lv_at hl 0 rfl) ?_
  refine gf_X12_241 hE hD dX12_token_2 ?_
  refine pf_X12_244 hE hD dX12_token_5 (fun u32 H locs eu32 hD => ?_)
  have hF := xlet_e hF eu32
  exact L_X12_token_l8 hE _ hD (lv_sub hl [0] rfl) hF
def F_X12_needs_j31 (u : xS)  : Option (xS) := some u
theorem B_X12_needs_j31 {p : Program} {l : Launch} {e : Env} {s : State} {m : MethodId} {args : Array Value} {below : List Frame} {meth : Method} {cd : Code} {G : xG} {w0 : xW} {b sz : Nat} {rr : (xS)} (hE : xE p s m args meth cd cX12_needs RX12 G 2 (Option.none : Option Jvm.ClassFile.FieldType)) {u : xS}  {H : Heap} {locs : List Loc} {ls : Array Slot} (hD : mD G (xA w0 s.heap.size) s.heap b u sz H locs) (hl : lv_has ls 2 [(0, .ref b)]) (hF : F_X12_needs_j31 u  = some rr) : W p l e (xR 4 0 0) s m args below meth cd H locs 0 0 (xQv G w0 (fun z => z = ((mW G b rr), sz)) below args s 0 0) (F0 m 31 ls []) := by
  have hx := hE.1; have hb := hE.2.1
  unfold F_X12_needs_j31 at hF
  obtain rfl := Option.some.inj hF
  exact x_vret hE hD rfl (by omega) (by omega) dX12_needs_31
def F_X12_needs_j17 (u : xS) (s1 : Int32) : Option (xS) := if s1 = 0 ∨ s1 = 1 then xlet (mS u 24 s1) (fun u1 => if (u1.1 24) = 0 then (F_X12_token u1).bind (fun r4 => F_X12_needs_j31 r4) else F_X12_needs_j31 u1) else none
theorem B_X12_needs_j17 {p : Program} {l : Launch} {e : Env} {s : State} {m : MethodId} {args : Array Value} {below : List Frame} {meth : Method} {cd : Code} {G : xG} {w0 : xW} {b sz : Nat} {rr : (xS)} (hE : xE p s m args meth cd cX12_needs RX12 G 2 (Option.none : Option Jvm.ClassFile.FieldType)) {u : xS} {s1 : Int32} {H : Heap} {locs : List Loc} {ls : Array Slot} (hD : mD G (xA w0 s.heap.size) s.heap b u sz H locs) (hl : lv_has ls 2 [(0, .ref b)]) (hF : F_X12_needs_j17 u s1 = some rr) : W p l e (xR 4 0 0) s m args below meth cd H locs 0 0 (xQv G w0 (fun z => z = ((mW G b rr), sz)) below args s 0 0) (F0 m 17 ls [.int s1, .ref b]) := by
  have hx := hE.1; have hb := hE.2.1
  unfold F_X12_needs_j17 at hF
  obtain ⟨h2, hF⟩ := ite_s hF
  refine pf_X12_256 hE hD h2 dX12_needs_17 (fun u1 H locs eu1 hD => ?_)
  have hF := xlet_e hF eu1
  refine lv_aload_n hx hb dX12_needs_20 rfl (lv_at hl 0 rfl) ?_
  refine gf_X12_256 hE hD dX12_needs_21 ?_
  refine lv_if_ne (tgt := 31) hx hb dX12_needs_24 (by decide) (fun c3 => ?_) (fun c3 => ?_)
  · have hF := ite_n hF c3
    exact B_X12_needs_j31 hE hD (lv_sub hl [0] rfl) hF
  · have hF := ite_p hF c3
    refine lv_aload_n hx hb dX12_needs_27 rfl (lv_at hl 0 rfl) ?_
    obtain ⟨r4, k5, hF⟩ := xb_s hF
    refine kVv (As := []) (rest := []) hE hl hD (c_X12_token (b := b) k5) kl_X12_259 (mW_0 _ _ _) rfl rfl rfl rfl (Nat.le_of_ble_eq_true rfl) dX12_needs_28 ⟨Nat.le_of_ble_eq_true rfl, Nat.le_of_ble_eq_true rfl⟩ ⟨Nat.le_of_ble_eq_true rfl, Nat.le_of_ble_eq_true rfl⟩ (fun H locs (hD : mD G _ _ b r4 sz H locs) => ?_)
    exact B_X12_needs_j31 hE hD (lv_sub hl [0] rfl) hF
def F_X12_needs_j12 (u : xS)  : Option (xS) := F_X12_needs_j17 u (1 : Int32)
theorem B_X12_needs_j12 {p : Program} {l : Launch} {e : Env} {s : State} {m : MethodId} {args : Array Value} {below : List Frame} {meth : Method} {cd : Code} {G : xG} {w0 : xW} {b sz : Nat} {rr : (xS)} (hE : xE p s m args meth cd cX12_needs RX12 G 2 (Option.none : Option Jvm.ClassFile.FieldType)) {u : xS}  {H : Heap} {locs : List Loc} {ls : Array Slot} (hD : mD G (xA w0 s.heap.size) s.heap b u sz H locs) (hl : lv_has ls 2 [(0, .ref b)]) (hF : F_X12_needs_j12 u  = some rr) : W p l e (xR 4 0 0) s m args below meth cd H locs 0 0 (xQv G w0 (fun z => z = ((mW G b rr), sz)) below args s 0 0) (F0 m 12 ls [.ref b]) := by
  have hx := hE.1; have hb := hE.2.1
  unfold F_X12_needs_j12 at hF
  refine lv_iconst (v := (1 : Int32)) hx hb dX12_needs_12 (by decide) ?_
  refine lv_goto (tgt := 17) hx hb dX12_needs_13 (by decide) ?_
  exact B_X12_needs_j17 hE hD (lv_sub hl [0] rfl) hF
def F_X12_needs (u : xS) (xa : Int32) : Option (xS) := if (u.1 24) = 0 then if xa = 0 then F_X12_needs_j12 u else F_X12_needs_j17 u (0 : Int32) else F_X12_needs_j12 u
theorem c_X12_needs {l : Launch} {G : xG} {b sz : Nat} {rr : (xS)} {u : xS} {xa : Int32} (hF : F_X12_needs u xa = some rr) : xMv l G yX12_needs cX12_needs 2 (Option.none : Option Jvm.ClassFile.FieldType) 4 0 0 [.ref b, .int xa] (mW G b u) sz (fun z => z = ((mW G b rr), sz)) := by
  unfold F_X12_needs at hF
  refine x_startV rfl (Nat.le_of_ble_eq_true rfl) (fun p e s m args below meth cd ls hE hnm hl hD => ?_)
  have hx := hE.1; have hb := hE.2.1
  have hl : lv_has ls 2 [(0, .ref b), (1, .int xa)] := hl
  have hD : mD G (xA (mW G b u) s.heap.size) s.heap b u sz s.heap [] := hD
  refine lv_aload_n hx hb dX12_needs_0 rfl (lv_at hl 0 rfl) ?_
  refine lv_aload_n hx hb dX12_needs_1 rfl (lv_at hl 0 rfl) ?_
  refine gf_X12_256 hE hD dX12_needs_2 ?_
  refine lv_if_ne (tgt := 12) hx hb dX12_needs_5 (by decide) (fun c6 => ?_) (fun c6 => ?_)
  · have hF := ite_n hF c6
    exact B_X12_needs_j12 hE hD (lv_sub hl [0] rfl) hF
  · have hF := ite_p hF c6
    refine lv_iload_n hx hb dX12_needs_8 rfl (lv_at hl 1 rfl) ?_
    refine lv_if_ne (tgt := 16) hx hb dX12_needs_9 (by decide) (fun c7 => ?_) (fun c7 => ?_)
    · have hF := ite_n hF c7
      refine lv_iconst (v := (0 : Int32)) hx hb dX12_needs_16 (by decide) ?_
      exact B_X12_needs_j17 hE hD (lv_sub hl [0] rfl) hF
    · have hF := ite_p hF c7
      exact B_X12_needs_j12 hE hD (lv_sub hl [0] rfl) hF
def F_X12_word_j76 (u : xS) (s0 : Int64) : Option Int64 := some s0
theorem B_X12_word_j76 {p : Program} {l : Launch} {e : Env} {s : State} {m : MethodId} {args : Array Value} {below : List Frame} {meth : Method} {cd : Code} {G : xG} {w0 : xW} {b sz : Nat} {rr : Int64} (hE : xE p s m args meth cd cX12_word RX12 G 4 (Option.some Jvm.ClassFile.FieldType.long)) {u : xS} {s0 : Int64} {H : Heap} {locs : List Loc} {ls : Array Slot} (hD : mD G (xA w0 s.heap.size) s.heap b u sz H locs) (hl : lv_has ls 4 [(0, .ref b)]) (hF : F_X12_word_j76 u s0 = some rr) : W p l e (xR 3 0 0) s m args below meth cd H locs 0 0 (xQl G w0 (fun r z => r = rr ∧ z = ((mW G b u), sz)) below args s 0 0) (F0 m 76 ls [.long s0]) := by
  have hx := hE.1; have hb := hE.2.1
  unfold F_X12_word_j76 at hF
  obtain rfl := Option.some.inj hF
  exact x_lret hE hD ⟨rfl, rfl⟩ (by omega) (by omega) dX12_word_76
def F_X12_word_j71 (u : xS)  : Option Int64 := F_X12_word_j76 u (0 : Int64)
theorem B_X12_word_j71 {p : Program} {l : Launch} {e : Env} {s : State} {m : MethodId} {args : Array Value} {below : List Frame} {meth : Method} {cd : Code} {G : xG} {w0 : xW} {b sz : Nat} {rr : Int64} (hE : xE p s m args meth cd cX12_word RX12 G 4 (Option.some Jvm.ClassFile.FieldType.long)) {u : xS}  {H : Heap} {locs : List Loc} {ls : Array Slot} (hD : mD G (xA w0 s.heap.size) s.heap b u sz H locs) (hl : lv_has ls 4 [(0, .ref b)]) (hF : F_X12_word_j71 u  = some rr) : W p l e (xR 3 0 0) s m args below meth cd H locs 0 0 (xQl G w0 (fun r z => r = rr ∧ z = ((mW G b u), sz)) below args s 0 0) (F0 m 71 ls []) := by
  have hx := hE.1; have hb := hE.2.1
  unfold F_X12_word_j71 at hF
  refine lv_lconst (v := (0 : Int64)) hx hb dX12_word_71 (by decide) ?_
  refine lv_goto (tgt := 76) hx hb dX12_word_72 (by decide) ?_
  exact B_X12_word_j76 hE hD (lv_sub hl [0] rfl) hF
def F_X12_word_j43 (k7 : xS → Int64 → Int32 → Option Int64) (u : xS) (y3 : Int32) (s0 : Int64) : Option Int64 := xlet (y3 + (1 : Int32)) (fun x1 => k7 u s0 x1)
theorem B_X12_word_j43 {p : Program} {l : Launch} {e : Env} {s : State} {m : MethodId} {args : Array Value} {below : List Frame} {meth : Method} {cd : Code} {G : xG} {w0 : xW} {b sz : Nat} {rr : Int64} (hE : xE p s m args meth cd cX12_word RX12 G 4 (Option.some Jvm.ClassFile.FieldType.long)) {u : xS} (k7 : xS → Int64 → Int32 → Option Int64) (h7 : ∀ {y1 : Int64} {y3 : Int32} {H : Heap} {locs : List Loc} {ls : Array Slot}, mD G (xA w0 s.heap.size) s.heap b u sz H locs → lv_has ls 4 [(0, .ref b), (1, .long y1), (3, .int y3)] → k7 u y1 y3 = some rr → W p l e (xR 3 0 0) s m args below meth cd H locs 0 0 (xQl G w0 (fun r z => r = rr ∧ z = ((mW G b u), sz)) below args s 0 0) (F0 m 7 ls [])) {y3 : Int32} {s0 : Int64} {H : Heap} {locs : List Loc} {ls : Array Slot} (hD : mD G (xA w0 s.heap.size) s.heap b u sz H locs) (hl : lv_has ls 4 [(0, .ref b), (3, .int y3)]) (hF : F_X12_word_j43 k7 u y3 s0 = some rr) : W p l e (xR 3 0 0) s m args below meth cd H locs 0 0 (xQl G w0 (fun r z => r = rr ∧ z = ((mW G b u), sz)) below args s 0 0) (F0 m 43 ls [.long s0]) := by
  have hx := hE.1; have hb := hE.2.1
  unfold F_X12_word_j43 at hF
  refine lv_lstore_n (lv' := [(1, .long s0), (0, .ref b), (3, .int y3)]) hx hb dX12_word_43 rfl hl (by decide) rfl (fun ls hl => ?_)
  obtain ⟨x1, ex1⟩ : ∃ y : Int32, y = y3 + (1 : Int32) := ⟨_, rfl⟩
  have hF := xlet_e hF ex1
  refine lv_iinc (v := x1) (lv' := [(3, .int x1), (1, .long s0), (0, .ref b)]) hx hb dX12_word_44 hl (k := 2) rfl (by rw [ex1]; rfl) (by decide) rfl (fun ls hl => ?_)
  refine lv_goto (tgt := 7) hx hb dX12_word_47 (by decide) ?_
  exact h7 hD (lv_sub hl [2, 1, 0] rfl) hF
def F_X12_word_l7 : Nat → xS → Int64 → Int32 → Option Int64
  | 0, _, _, _ => none
  | nn + 1, u, y1, y3 => if (u.1 20) ≤ y3 then if (u.1 24) = 0 then (F_X12_byteAt u (u.1 19)).bind (fun r4 => (F_X12_isLetter r4).bind (fun r6 => if r6 = 0 then F_X12_word_j71 u else F_X12_word_j76 u y1)) else F_X12_word_j71 u else if (lg_cmp y1 (36028797018963967 : Int64)) ≤ 0 then if xIn y3 200 then F_X12_word_j43 (F_X12_word_l7 nn) u y3 (((32 : Int64) * y1) + (((u.2.1 17 y3.toNatClampNeg) - (96 : Int32)).toInt64)) else none else F_X12_word_j43 (F_X12_word_l7 nn) u y3 y1
theorem L_X12_word_l7 {p : Program} {l : Launch} {e : Env} {s : State} {m : MethodId} {args : Array Value} {below : List Frame} {meth : Method} {cd : Code} {G : xG} {w0 : xW} {b sz : Nat} {rr : Int64} (hE : xE p s m args meth cd cX12_word RX12 G 4 (Option.some Jvm.ClassFile.FieldType.long)) : ∀ (nn : Nat) {u : xS} {y1 : Int64} {y3 : Int32} {H : Heap} {locs : List Loc} {ls : Array Slot}, mD G (xA w0 s.heap.size) s.heap b u sz H locs → lv_has ls 4 [(0, .ref b), (1, .long y1), (3, .int y3)] → F_X12_word_l7 nn u y1 y3 = some rr → W p l e (xR 3 0 0) s m args below meth cd H locs 0 0 (xQl G w0 (fun r z => r = rr ∧ z = ((mW G b u), sz)) below args s 0 0) (F0 m 7 ls []) := by
  have hx := hE.1; have hb := hE.2.1
  intro nn
  induction nn with
  | zero => intro u y1 y3 H locs ls hD hl hF; rw [F_X12_word_l7] at hF; cases hF
  | succ nn ih =>
    intro u y1 y3 H locs ls hD hl hF
    rw [F_X12_word_l7] at hF
    refine lv_iload_n hx hb dX12_word_7 rfl (lv_at hl 2 rfl) ?_
    refine lv_aload_n hx hb dX12_word_8 rfl (lv_at hl 0 rfl) ?_
    refine gf_X12_241 hE hD dX12_word_9 ?_
    refine lv_icmp_ge (tgt := 50) hx hb dX12_word_12 (by decide) (fun c2 => ?_) (fun c2 => ?_)
    · have hF := ite_p hF c2
      refine lv_aload_n hx hb dX12_word_50 rfl (lv_at hl 0 rfl) ?_
      refine gf_X12_256 hE hD dX12_word_51 ?_
      refine lv_if_ne (tgt := 71) hx hb dX12_word_54 (by decide) (fun c3 => ?_) (fun c3 => ?_)
      · have hF := ite_n hF c3
        exact B_X12_word_j71 hE hD (lv_sub hl [0] rfl) hF
      · have hF := ite_p hF c3
        refine lv_aload_n hx hb dX12_word_57 rfl (lv_at hl 0 rfl) ?_
        refine lv_aload_n hx hb dX12_word_58 rfl (lv_at hl 0 rfl) ?_
        refine gf_X12_244 hE hD dX12_word_59 ?_
        obtain ⟨r4, k5, hF⟩ := xb_s hF
        refine kVi (As := [.int (u.1 19)]) (rest := []) hE hl hD (c_X12_byteAt (b := b) k5) kl_X12_247 (mW_0 _ _ _) rfl rfl rfl rfl (Nat.le_of_ble_eq_true rfl) dX12_word_62 ⟨Nat.le_of_ble_eq_true rfl, Nat.le_of_ble_eq_true rfl⟩ ⟨Nat.le_of_ble_eq_true rfl, Nat.le_of_ble_eq_true rfl⟩ (fun H locs (hD : mD G _ _ b u sz H locs) => ?_)
        obtain ⟨r6, k7, hF⟩ := xb_s hF
        refine kSz (As := [.int r4]) (rest := []) hE hl hD (c_X12_isLetter k7) kl_X12_250 rfl rfl (Nat.le_of_ble_eq_true rfl) dX12_word_65 ⟨Nat.le_of_ble_eq_true rfl, Nat.le_of_ble_eq_true rfl⟩ ⟨Nat.le_of_ble_eq_true rfl, Nat.le_of_ble_eq_true rfl⟩ (fun H locs z8 (hD : mD G _ _ b u sz H locs) => ?_)
        refine lv_if_ne (tgt := 75) hx hb dX12_word_68 (by decide) (fun c9 => ?_) (fun c9 => ?_)
        · have hF := ite_n hF c9
          refine lv_lload_n hx hb dX12_word_75 rfl (lv_at hl 1 rfl) ?_
          exact B_X12_word_j76 hE hD (lv_sub hl [0] rfl) hF
        · have hF := ite_p hF c9
          exact B_X12_word_j71 hE hD (lv_sub hl [0] rfl) hF
    · have hF := ite_n hF c2
      refine lv_lload_n hx hb dX12_word_15 rfl (lv_at hl 1 rfl) ?_
      refine lv_ldc2 (v := (36028797018963967 : Int64)) hx hb hE.2.2.1 (hE.2.2.2.1 _ kw7_130) dX12_word_16 ?_
      refine W.lcmp hx hb dX12_word_19 ?_
      refine lv_if_le (tgt := 27) hx hb dX12_word_20 (by decide) (fun c10 => ?_) (fun c10 => ?_)
      · have hF := ite_p hF c10
        refine lv_ldc2 (v := (32 : Int64)) hx hb hE.2.2.1 (hE.2.2.2.1 _ kw7_131) dX12_word_27 ?_
        refine lv_lload_n hx hb dX12_word_30 rfl (lv_at hl 1 rfl) ?_
        refine lv_lmul hx hb dX12_word_31 ?_
        refine lv_aload_n hx hb dX12_word_32 rfl (lv_at hl 0 rfl) ?_
        refine gf_X12_41 hE hD dX12_word_33 ?_
        refine lv_iload_n hx hb dX12_word_36 rfl (lv_at hl 2 rfl) ?_
        obtain ⟨h11, hF⟩ := ite_s hF
        refine ma_ld_17 hE hD h11 dX12_word_37 ?_
        refine lv_bipush (v := (96 : Int32)) hx hb dX12_word_38 (by decide) ?_
        refine lv_isub hx hb dX12_word_40 ?_
        refine lv_i2l (v := ((u.2.1 17 y3.toNatClampNeg) - (96 : Int32)).toInt64) hx hb dX12_word_41 rfl ?_
        refine lv_ladd hx hb dX12_word_42 ?_
        exact B_X12_word_j43 hE (F_X12_word_l7 nn) ih hD (lv_sub hl [0, 2] rfl) hF
      · have hF := ite_n hF c10
        refine lv_lload_n hx hb dX12_word_23 rfl (lv_at hl 1 rfl) ?_
        refine lv_goto (tgt := 43) hx hb dX12_word_24 (by decide) ?_
        exact B_X12_word_j43 hE (F_X12_word_l7 nn) ih hD (lv_sub hl [0, 2] rfl) hF
def F_X12_word (u : xS)  : Option Int64 := xlet (u.1 19) (fun x12 => F_X12_word_l7 xFuel u (0 : Int64) x12)
theorem c_X12_word {l : Launch} {G : xG} {b sz : Nat} {rr : Int64} {u : xS}  (hF : F_X12_word u  = some rr) : xMl l G yX12_word cX12_word 4 (Option.some Jvm.ClassFile.FieldType.long) 3 0 0 [.ref b] (mW G b u) sz (fun r z => r = rr ∧ z = ((mW G b u), sz)) := by
  unfold F_X12_word at hF
  refine x_startL rfl (Nat.le_of_ble_eq_true rfl) (fun p e s m args below meth cd ls hE hnm hl hD => ?_)
  have hx := hE.1; have hb := hE.2.1
  have hl : lv_has ls 4 [(0, .ref b)] := hl
  have hD : mD G (xA (mW G b u) s.heap.size) s.heap b u sz s.heap [] := hD
  refine lv_lconst (v := (0 : Int64)) hx hb dX12_word_0 (by decide) ?_
  refine lv_lstore_n (lv' := [(1, .long (0 : Int64)), (0, .ref b)]) hx hb dX12_word_1 rfl hl (by decide) rfl (fun ls hl => ?_)
  refine lv_aload_n hx hb dX12_word_2 rfl (lv_at hl 1 rfl) ?_
  refine gf_X12_244 hE hD dX12_word_3 ?_
  refine lv_topi (fun x12 ex12 => ?_)
  have hF := xlet_e hF ex12
  refine lv_istore_n (lv' := [(3, .int x12), (1, .long (0 : Int64)), (0, .ref b)]) hx hb dX12_word_6 rfl hl (by decide) rfl (fun ls hl => ?_)
  exact L_X12_word_l7 hE _ hD (lv_sub hl [2, 1, 0] rfl) hF
def F_X12_number_j100 (u : xS) (s1 : Int32) : Option (xS) := (F_X12_needs u s1).bind (fun r1 => some r1)
theorem B_X12_number_j100 {p : Program} {l : Launch} {e : Env} {s : State} {m : MethodId} {args : Array Value} {below : List Frame} {meth : Method} {cd : Code} {G : xG} {w0 : xW} {b sz : Nat} {rr : (xS)} (hE : xE p s m args meth cd cX12_number RX12 G 4 (Option.none : Option Jvm.ClassFile.FieldType)) {u : xS} {s1 : Int32} {H : Heap} {locs : List Loc} {ls : Array Slot} (hD : mD G (xA w0 s.heap.size) s.heap b u sz H locs) (hl : lv_has ls 4 [(0, .ref b)]) (hF : F_X12_number_j100 u s1 = some rr) : W p l e (xR 5 0 0) s m args below meth cd H locs 0 0 (xQv G w0 (fun z => z = ((mW G b rr), sz)) below args s 0 0) (F0 m 100 ls [.int s1, .ref b]) := by
  have hx := hE.1; have hb := hE.2.1
  unfold F_X12_number_j100 at hF
  obtain ⟨r1, k2, hF⟩ := xb_s hF
  refine kVv (As := [.int s1]) (rest := []) hE hl hD (c_X12_needs (b := b) k2) kl_X12_269 (mW_0 _ _ _) rfl rfl rfl rfl (Nat.le_of_ble_eq_true rfl) dX12_number_100 ⟨Nat.le_of_ble_eq_true rfl, Nat.le_of_ble_eq_true rfl⟩ ⟨Nat.le_of_ble_eq_true rfl, Nat.le_of_ble_eq_true rfl⟩ (fun H locs (hD : mD G _ _ b r1 sz H locs) => ?_)
  obtain rfl := Option.some.inj hF
  exact x_vret hE hD rfl (by omega) (by omega) dX12_number_103
def F_X12_number_j99 (u : xS)  : Option (xS) := F_X12_number_j100 u (0 : Int32)
theorem B_X12_number_j99 {p : Program} {l : Launch} {e : Env} {s : State} {m : MethodId} {args : Array Value} {below : List Frame} {meth : Method} {cd : Code} {G : xG} {w0 : xW} {b sz : Nat} {rr : (xS)} (hE : xE p s m args meth cd cX12_number RX12 G 4 (Option.none : Option Jvm.ClassFile.FieldType)) {u : xS}  {H : Heap} {locs : List Loc} {ls : Array Slot} (hD : mD G (xA w0 s.heap.size) s.heap b u sz H locs) (hl : lv_has ls 4 [(0, .ref b)]) (hF : F_X12_number_j99 u  = some rr) : W p l e (xR 5 0 0) s m args below meth cd H locs 0 0 (xQv G w0 (fun z => z = ((mW G b rr), sz)) below args s 0 0) (F0 m 99 ls [.ref b]) := by
  have hx := hE.1; have hb := hE.2.1
  unfold F_X12_number_j99 at hF
  refine lv_iconst (v := (0 : Int32)) hx hb dX12_number_99 (by decide) ?_
  exact B_X12_number_j100 hE hD (lv_sub hl [0] rfl) hF
def F_X12_number_j82 (u : xS) (y1 : Int32) (y2 : Int32) : Option (xS) := if y2 = 0 then F_X12_number_j99 u else if y1 < (u.1 21) then F_X12_number_j99 u else F_X12_number_j100 u (1 : Int32)
theorem B_X12_number_j82 {p : Program} {l : Launch} {e : Env} {s : State} {m : MethodId} {args : Array Value} {below : List Frame} {meth : Method} {cd : Code} {G : xG} {w0 : xW} {b sz : Nat} {rr : (xS)} (hE : xE p s m args meth cd cX12_number RX12 G 4 (Option.none : Option Jvm.ClassFile.FieldType)) {u : xS} {y1 : Int32} {y2 : Int32} {H : Heap} {locs : List Loc} {ls : Array Slot} (hD : mD G (xA w0 s.heap.size) s.heap b u sz H locs) (hl : lv_has ls 4 [(0, .ref b), (1, .int y1), (2, .int y2)]) (hF : F_X12_number_j82 u y1 y2 = some rr) : W p l e (xR 5 0 0) s m args below meth cd H locs 0 0 (xQv G w0 (fun z => z = ((mW G b rr), sz)) below args s 0 0) (F0 m 82 ls []) := by
  have hx := hE.1; have hb := hE.2.1
  unfold F_X12_number_j82 at hF
  refine lv_aload_n hx hb dX12_number_82 rfl (lv_at hl 0 rfl) ?_
  refine lv_iload_n hx hb dX12_number_83 rfl (lv_at hl 2 rfl) ?_
  refine lv_if_eq (tgt := 99) hx hb dX12_number_84 (by decide) (fun c3 => ?_) (fun c3 => ?_)
  · have hF := ite_p hF c3
    exact B_X12_number_j99 hE hD (lv_sub hl [0] rfl) hF
  · have hF := ite_n hF c3
    refine lv_aload_n hx hb dX12_number_87 rfl (lv_at hl 0 rfl) ?_
    refine gf_X12_266 hE hD dX12_number_88 ?_
    refine lv_iload_n hx hb dX12_number_91 rfl (lv_at hl 1 rfl) ?_
    refine lv_icmp_gt (tgt := 99) hx hb dX12_number_92 (by decide) (fun c4 => ?_) (fun c4 => ?_)
    · have hF := ite_p hF c4
      exact B_X12_number_j99 hE hD (lv_sub hl [0] rfl) hF
    · have hF := ite_n hF c4
      refine lv_iconst (v := (1 : Int32)) hx hb dX12_number_95 (by decide) ?_
      refine lv_goto (tgt := 100) hx hb dX12_number_96 (by decide) ?_
      exact B_X12_number_j100 hE hD (lv_sub hl [0] rfl) hF
def F_X12_number_l43 : Nat → xS → Int32 → Int32 → Int32 → Option (xS)
  | 0, _, _, _, _ => none
  | nn + 1, u, y1, y2, y3 => if (u.1 20) ≤ y3 then F_X12_number_j82 u y1 y2 else if y2 = 0 then F_X12_number_j82 u y1 y2 else if xIn y3 200 then xlet (mS u 21 ((((10 : Int32) * (u.1 21)) + (u.2.1 17 y3.toNatClampNeg)) - (48 : Int32))) (fun u8 => xlet (y3 + (1 : Int32)) (fun x9 => F_X12_number_l43 nn u8 y1 y2 x9)) else none
theorem L_X12_number_l43 {p : Program} {l : Launch} {e : Env} {s : State} {m : MethodId} {args : Array Value} {below : List Frame} {meth : Method} {cd : Code} {G : xG} {w0 : xW} {b sz : Nat} {rr : (xS)} (hE : xE p s m args meth cd cX12_number RX12 G 4 (Option.none : Option Jvm.ClassFile.FieldType)) : ∀ (nn : Nat) {u : xS} {y1 : Int32} {y2 : Int32} {y3 : Int32} {H : Heap} {locs : List Loc} {ls : Array Slot}, mD G (xA w0 s.heap.size) s.heap b u sz H locs → lv_has ls 4 [(0, .ref b), (1, .int y1), (2, .int y2), (3, .int y3)] → F_X12_number_l43 nn u y1 y2 y3 = some rr → W p l e (xR 5 0 0) s m args below meth cd H locs 0 0 (xQv G w0 (fun z => z = ((mW G b rr), sz)) below args s 0 0) (F0 m 43 ls []) := by
  have hx := hE.1; have hb := hE.2.1
  intro nn
  induction nn with
  | zero => intro u y1 y2 y3 H locs ls hD hl hF; rw [F_X12_number_l43] at hF; cases hF
  | succ nn ih =>
    intro u y1 y2 y3 H locs ls hD hl hF
    rw [F_X12_number_l43] at hF
    refine lv_iload_n hx hb dX12_number_43 rfl (lv_at hl 3 rfl) ?_
    refine lv_aload_n hx hb dX12_number_44 rfl (lv_at hl 0 rfl) ?_
    refine gf_X12_241 hE hD dX12_number_45 ?_
    refine lv_icmp_ge (tgt := 82) hx hb dX12_number_48 (by decide) (fun c5 => ?_) (fun c5 => ?_)
    · have hF := ite_p hF c5
      exact B_X12_number_j82 hE hD (lv_sub hl [0, 1, 2] rfl) hF
    · have hF := ite_n hF c5
      refine lv_iload_n hx hb dX12_number_51 rfl (lv_at hl 2 rfl) ?_
      refine lv_if_eq (tgt := 82) hx hb dX12_number_52 (by decide) (fun c6 => ?_) (fun c6 => ?_)
      · have hF := ite_p hF c6
        exact B_X12_number_j82 hE hD (lv_sub hl [0, 1, 2] rfl) hF
      · have hF := ite_n hF c6
        refine lv_aload_n hx hb dX12_number_55 rfl (lv_at hl 0 rfl) ?_
        refine lv_bipush (v := (10 : Int32)) hx hb dX12_number_56 (by decide) ?_
        refine lv_aload_n hx hb dX12_number_58 rfl (lv_at hl 0 rfl) ?_
        refine gf_X12_266 hE hD dX12_number_59 ?_
        refine lv_imul hx hb dX12_number_62 ?_
        refine lv_aload_n hx hb dX12_number_63 rfl (lv_at hl 0 rfl) ?_
        refine gf_X12_41 hE hD dX12_number_64 ?_
        refine lv_iload_n hx hb dX12_number_67 rfl (lv_at hl 3 rfl) ?_
        obtain ⟨h7, hF⟩ := ite_s hF
        refine ma_ld_17 hE hD h7 dX12_number_68 ?_
        refine lv_iadd hx hb dX12_number_69 ?_
        refine lv_bipush (v := (48 : Int32)) hx hb dX12_number_70 (by decide) ?_
        refine lv_isub hx hb dX12_number_72 ?_
        refine pf_X12_266 hE hD dX12_number_73 (fun u8 H locs eu8 hD => ?_)
        have hF := xlet_e hF eu8
        obtain ⟨x9, ex9⟩ : ∃ y : Int32, y = y3 + (1 : Int32) := ⟨_, rfl⟩
        have hF := xlet_e hF ex9
        refine lv_iinc (v := x9) (lv' := [(3, .int x9), (0, .ref b), (1, .int y1), (2, .int y2)]) hx hb dX12_number_76 hl (k := 3) rfl (by rw [ex9]; rfl) (by decide) rfl (fun ls hl => ?_)
        refine lv_goto (tgt := 43) hx hb dX12_number_79 (by decide) ?_
        exact ih hD (lv_sub hl [1, 2, 3, 0] rfl) hF
def F_X12_number_j32 (u : xS) (y1 : Int32) (s0 : Int32) : Option (xS) := xlet (mS u 21 (0 : Int32)) (fun u10 => xlet (u10.1 19) (fun x11 => F_X12_number_l43 xFuel u10 y1 s0 x11))
theorem B_X12_number_j32 {p : Program} {l : Launch} {e : Env} {s : State} {m : MethodId} {args : Array Value} {below : List Frame} {meth : Method} {cd : Code} {G : xG} {w0 : xW} {b sz : Nat} {rr : (xS)} (hE : xE p s m args meth cd cX12_number RX12 G 4 (Option.none : Option Jvm.ClassFile.FieldType)) {u : xS} {y1 : Int32} {s0 : Int32} {H : Heap} {locs : List Loc} {ls : Array Slot} (hD : mD G (xA w0 s.heap.size) s.heap b u sz H locs) (hl : lv_has ls 4 [(0, .ref b), (1, .int y1)]) (hF : F_X12_number_j32 u y1 s0 = some rr) : W p l e (xR 5 0 0) s m args below meth cd H locs 0 0 (xQv G w0 (fun z => z = ((mW G b rr), sz)) below args s 0 0) (F0 m 32 ls [.int s0]) := by
  have hx := hE.1; have hb := hE.2.1
  unfold F_X12_number_j32 at hF
  refine lv_istore_n (lv' := [(2, .int s0), (0, .ref b), (1, .int y1)]) hx hb dX12_number_32 rfl hl (by decide) rfl (fun ls hl => ?_)
  refine lv_aload_n hx hb dX12_number_33 rfl (lv_at hl 1 rfl) ?_
  refine lv_iconst (v := (0 : Int32)) hx hb dX12_number_34 (by decide) ?_
  refine pf_X12_266 hE hD dX12_number_35 (fun u10 H locs eu10 hD => ?_)
  have hF := xlet_e hF eu10
  refine lv_aload_n hx hb dX12_number_38 rfl (lv_at hl 1 rfl) ?_
  refine gf_X12_244 hE hD dX12_number_39 ?_
  refine lv_topi (fun x11 ex11 => ?_)
  have hF := xlet_e hF ex11
  refine lv_istore_n (lv' := [(3, .int x11), (2, .int s0), (0, .ref b), (1, .int y1)]) hx hb dX12_number_42 rfl hl (by decide) rfl (fun ls hl => ?_)
  exact L_X12_number_l43 hE _ hD (lv_sub hl [2, 3, 1, 0] rfl) hF
def F_X12_number_j31 (u : xS) (y1 : Int32) : Option (xS) := F_X12_number_j32 u y1 (0 : Int32)
theorem B_X12_number_j31 {p : Program} {l : Launch} {e : Env} {s : State} {m : MethodId} {args : Array Value} {below : List Frame} {meth : Method} {cd : Code} {G : xG} {w0 : xW} {b sz : Nat} {rr : (xS)} (hE : xE p s m args meth cd cX12_number RX12 G 4 (Option.none : Option Jvm.ClassFile.FieldType)) {u : xS} {y1 : Int32} {H : Heap} {locs : List Loc} {ls : Array Slot} (hD : mD G (xA w0 s.heap.size) s.heap b u sz H locs) (hl : lv_has ls 4 [(0, .ref b), (1, .int y1)]) (hF : F_X12_number_j31 u y1 = some rr) : W p l e (xR 5 0 0) s m args below meth cd H locs 0 0 (xQv G w0 (fun z => z = ((mW G b rr), sz)) below args s 0 0) (F0 m 31 ls []) := by
  have hx := hE.1; have hb := hE.2.1
  unfold F_X12_number_j31 at hF
  refine lv_iconst (v := (0 : Int32)) hx hb dX12_number_31 (by decide) ?_
  exact B_X12_number_j32 hE hD (lv_sub hl [0, 1] rfl) hF
def F_X12_number (u : xS) (xa : Int32) : Option (xS) := (F_X12_byteAt u (u.1 19)).bind (fun r12 => (F_X12_isDigit r12).bind (fun r14 => if r14 = 0 then F_X12_number_j31 u xa else if (5 : Int32) ≤ ((u.1 20) - (u.1 19)) then F_X12_number_j31 u xa else F_X12_number_j32 u xa (1 : Int32)))
theorem c_X12_number {l : Launch} {G : xG} {b sz : Nat} {rr : (xS)} {u : xS} {xa : Int32} (hF : F_X12_number u xa = some rr) : xMv l G yX12_number cX12_number 4 (Option.none : Option Jvm.ClassFile.FieldType) 5 0 0 [.ref b, .int xa] (mW G b u) sz (fun z => z = ((mW G b rr), sz)) := by
  unfold F_X12_number at hF
  refine x_startV rfl (Nat.le_of_ble_eq_true rfl) (fun p e s m args below meth cd ls hE hnm hl hD => ?_)
  have hx := hE.1; have hb := hE.2.1
  have hl : lv_has ls 4 [(0, .ref b), (1, .int xa)] := hl
  have hD : mD G (xA (mW G b u) s.heap.size) s.heap b u sz s.heap [] := hD
  refine lv_aload_n hx hb dX12_number_0 rfl (lv_at hl 0 rfl) ?_
  refine lv_aload_n hx hb dX12_number_1 rfl (lv_at hl 0 rfl) ?_
  refine gf_X12_244 hE hD dX12_number_2 ?_
  obtain ⟨r12, k13, hF⟩ := xb_s hF
  refine kVi (As := [.int (u.1 19)]) (rest := []) hE hl hD (c_X12_byteAt (b := b) k13) kl_X12_247 (mW_0 _ _ _) rfl rfl rfl rfl (Nat.le_of_ble_eq_true rfl) dX12_number_5 ⟨Nat.le_of_ble_eq_true rfl, Nat.le_of_ble_eq_true rfl⟩ ⟨Nat.le_of_ble_eq_true rfl, Nat.le_of_ble_eq_true rfl⟩ (fun H locs (hD : mD G _ _ b u sz H locs) => ?_)
  obtain ⟨r14, k15, hF⟩ := xb_s hF
  refine kSz (As := [.int r12]) (rest := []) hE hl hD (c_X12_isDigit k15) kl_X12_253 rfl rfl (Nat.le_of_ble_eq_true rfl) dX12_number_8 ⟨Nat.le_of_ble_eq_true rfl, Nat.le_of_ble_eq_true rfl⟩ ⟨Nat.le_of_ble_eq_true rfl, Nat.le_of_ble_eq_true rfl⟩ (fun H locs z16 (hD : mD G _ _ b u sz H locs) => ?_)
  refine lv_if_eq (tgt := 31) hx hb dX12_number_11 (by decide) (fun c17 => ?_) (fun c17 => ?_)
  · have hF := ite_p hF c17
    exact B_X12_number_j31 hE hD (lv_sub hl [0, 1] rfl) hF
  · have hF := ite_n hF c17
    refine lv_aload_n hx hb dX12_number_14 rfl (lv_at hl 0 rfl) ?_
    refine gf_X12_241 hE hD dX12_number_15 ?_
    refine lv_aload_n hx hb dX12_number_18 rfl (lv_at hl 0 rfl) ?_
    refine gf_X12_244 hE hD dX12_number_19 ?_
    refine lv_isub hx hb dX12_number_22 ?_
    refine lv_iconst (v := (5 : Int32)) hx hb dX12_number_23 (by decide) ?_
    refine lv_icmp_ge (tgt := 31) hx hb dX12_number_24 (by decide) (fun c18 => ?_) (fun c18 => ?_)
    · have hF := ite_p hF c18
      exact B_X12_number_j31 hE hD (lv_sub hl [0, 1] rfl) hF
    · have hF := ite_n hF c18
      refine lv_iconst (v := (1 : Int32)) hx hb dX12_number_27 (by decide) ?_
      refine lv_goto (tgt := 32) hx hb dX12_number_28 (by decide) ?_
      exact B_X12_number_j32 hE hD (lv_sub hl [0, 1] rfl) hF
def F_X12_kindHere_j78 (u : xS) (s0 : Int32) : Option Int32 := some s0
theorem B_X12_kindHere_j78 {p : Program} {l : Launch} {e : Env} {s : State} {m : MethodId} {args : Array Value} {below : List Frame} {meth : Method} {cd : Code} {G : xG} {w0 : xW} {b sz : Nat} {rr : Int32} (hE : xE p s m args meth cd cX12_kindHere RX12 G 3 (Option.some Jvm.ClassFile.FieldType.int)) {u : xS} {s0 : Int32} {H : Heap} {locs : List Loc} {ls : Array Slot} (hD : mD G (xA w0 s.heap.size) s.heap b u sz H locs) (hl : lv_has ls 3 [(0, .ref b)]) (hF : F_X12_kindHere_j78 u s0 = some rr) : W p l e (xR 4 0 0) s m args below meth cd H locs 0 0 (xQi G w0 (fun r z => r = rr ∧ z = ((mW G b u), sz)) below args s 0 0) (F0 m 78 ls [.int s0]) := by
  have hx := hE.1; have hb := hE.2.1
  unfold F_X12_kindHere_j78 at hF
  obtain rfl := Option.some.inj hF
  exact x_iret hE hD ⟨rfl, rfl⟩ (by omega) (by omega) dX12_kindHere_78
def F_X12_kindHere (u : xS)  : Option Int32 := (F_X12_word u).bind (fun r1 => if (lg_cmp r1 (86282469 : Int64)) = 0 then F_X12_kindHere_j78 u (0 : Int32) else if (lg_cmp r1 (17171758 : Int64)) = 0 then F_X12_kindHere_j78 u (1 : Int32) else if (lg_cmp r1 (659100717 : Int64)) = 0 then F_X12_kindHere_j78 u (2 : Int32) else if (lg_cmp r1 (435596 : Int64)) = 0 then F_X12_kindHere_j78 u (3 : Int32) else if (lg_cmp r1 (5351 : Int64)) = 0 then F_X12_kindHere_j78 u (4 : Int32) else if (lg_cmp r1 (437857460 : Int64)) = 0 then F_X12_kindHere_j78 u (5 : Int32) else F_X12_kindHere_j78 u (-1 : Int32))
theorem c_X12_kindHere {l : Launch} {G : xG} {b sz : Nat} {rr : Int32} {u : xS}  (hF : F_X12_kindHere u  = some rr) : xMi l G yX12_kindHere cX12_kindHere 3 (Option.some Jvm.ClassFile.FieldType.int) 4 0 0 [.ref b] (mW G b u) sz (fun r z => r = rr ∧ z = ((mW G b u), sz)) := by
  unfold F_X12_kindHere at hF
  refine x_startI rfl (Nat.le_of_ble_eq_true rfl) (fun p e s m args below meth cd ls hE hnm hl hD => ?_)
  have hx := hE.1; have hb := hE.2.1
  have hl : lv_has ls 3 [(0, .ref b)] := hl
  have hD : mD G (xA (mW G b u) s.heap.size) s.heap b u sz s.heap [] := hD
  refine lv_aload_n hx hb dX12_kindHere_0 rfl (lv_at hl 0 rfl) ?_
  obtain ⟨r1, k2, hF⟩ := xb_s hF
  refine kVl (As := []) (rest := []) hE hl hD (c_X12_word (b := b) k2) kl_X12_273 (mW_0 _ _ _) rfl rfl rfl rfl (Nat.le_of_ble_eq_true rfl) dX12_kindHere_1 ⟨Nat.le_of_ble_eq_true rfl, Nat.le_of_ble_eq_true rfl⟩ ⟨Nat.le_of_ble_eq_true rfl, Nat.le_of_ble_eq_true rfl⟩ (fun H locs (hD : mD G _ _ b u sz H locs) => ?_)
  refine lv_lstore_n (lv' := [(1, .long r1), (0, .ref b)]) hx hb dX12_kindHere_4 rfl hl (by decide) rfl (fun ls hl => ?_)
  refine lv_lload_n hx hb dX12_kindHere_5 rfl (lv_at hl 0 rfl) ?_
  refine lv_ldc2 (v := (86282469 : Int64)) hx hb hE.2.2.1 (hE.2.2.2.1 _ kw7_132) dX12_kindHere_6 ?_
  refine W.lcmp hx hb dX12_kindHere_9 ?_
  refine lv_if_ne (tgt := 17) hx hb dX12_kindHere_10 (by decide) (fun c3 => ?_) (fun c3 => ?_)
  · have hF := ite_n hF c3
    refine lv_lload_n hx hb dX12_kindHere_17 rfl (lv_at hl 0 rfl) ?_
    refine lv_ldc2 (v := (17171758 : Int64)) hx hb hE.2.2.1 (hE.2.2.2.1 _ kw7_133) dX12_kindHere_18 ?_
    refine W.lcmp hx hb dX12_kindHere_21 ?_
    refine lv_if_ne (tgt := 29) hx hb dX12_kindHere_22 (by decide) (fun c4 => ?_) (fun c4 => ?_)
    · have hF := ite_n hF c4
      refine lv_lload_n hx hb dX12_kindHere_29 rfl (lv_at hl 0 rfl) ?_
      refine lv_ldc2 (v := (659100717 : Int64)) hx hb hE.2.2.1 (hE.2.2.2.1 _ kw7_134) dX12_kindHere_30 ?_
      refine W.lcmp hx hb dX12_kindHere_33 ?_
      refine lv_if_ne (tgt := 41) hx hb dX12_kindHere_34 (by decide) (fun c5 => ?_) (fun c5 => ?_)
      · have hF := ite_n hF c5
        refine lv_lload_n hx hb dX12_kindHere_41 rfl (lv_at hl 0 rfl) ?_
        refine lv_ldc2 (v := (435596 : Int64)) hx hb hE.2.2.1 (hE.2.2.2.1 _ kw7_135) dX12_kindHere_42 ?_
        refine W.lcmp hx hb dX12_kindHere_45 ?_
        refine lv_if_ne (tgt := 53) hx hb dX12_kindHere_46 (by decide) (fun c6 => ?_) (fun c6 => ?_)
        · have hF := ite_n hF c6
          refine lv_lload_n hx hb dX12_kindHere_53 rfl (lv_at hl 0 rfl) ?_
          refine lv_ldc2 (v := (5351 : Int64)) hx hb hE.2.2.1 (hE.2.2.2.1 _ kw7_136) dX12_kindHere_54 ?_
          refine W.lcmp hx hb dX12_kindHere_57 ?_
          refine lv_if_ne (tgt := 65) hx hb dX12_kindHere_58 (by decide) (fun c7 => ?_) (fun c7 => ?_)
          · have hF := ite_n hF c7
            refine lv_lload_n hx hb dX12_kindHere_65 rfl (lv_at hl 0 rfl) ?_
            refine lv_ldc2 (v := (437857460 : Int64)) hx hb hE.2.2.1 (hE.2.2.2.1 _ kw7_137) dX12_kindHere_66 ?_
            refine W.lcmp hx hb dX12_kindHere_69 ?_
            refine lv_if_ne (tgt := 77) hx hb dX12_kindHere_70 (by decide) (fun c8 => ?_) (fun c8 => ?_)
            · have hF := ite_n hF c8
              refine lv_iconst (v := (-1 : Int32)) hx hb dX12_kindHere_77 (by decide) ?_
              exact B_X12_kindHere_j78 hE hD (lv_sub hl [1] rfl) hF
            · have hF := ite_p hF c8
              refine lv_iconst (v := (5 : Int32)) hx hb dX12_kindHere_73 (by decide) ?_
              refine lv_goto (tgt := 78) hx hb dX12_kindHere_74 (by decide) ?_
              exact B_X12_kindHere_j78 hE hD (lv_sub hl [1] rfl) hF
          · have hF := ite_p hF c7
            refine lv_iconst (v := (4 : Int32)) hx hb dX12_kindHere_61 (by decide) ?_
            refine lv_goto (tgt := 78) hx hb dX12_kindHere_62 (by decide) ?_
            exact B_X12_kindHere_j78 hE hD (lv_sub hl [1] rfl) hF
        · have hF := ite_p hF c6
          refine lv_iconst (v := (3 : Int32)) hx hb dX12_kindHere_49 (by decide) ?_
          refine lv_goto (tgt := 78) hx hb dX12_kindHere_50 (by decide) ?_
          exact B_X12_kindHere_j78 hE hD (lv_sub hl [1] rfl) hF
      · have hF := ite_p hF c5
        refine lv_iconst (v := (2 : Int32)) hx hb dX12_kindHere_37 (by decide) ?_
        refine lv_goto (tgt := 78) hx hb dX12_kindHere_38 (by decide) ?_
        exact B_X12_kindHere_j78 hE hD (lv_sub hl [1] rfl) hF
    · have hF := ite_p hF c4
      refine lv_iconst (v := (1 : Int32)) hx hb dX12_kindHere_25 (by decide) ?_
      refine lv_goto (tgt := 78) hx hb dX12_kindHere_26 (by decide) ?_
      exact B_X12_kindHere_j78 hE hD (lv_sub hl [1] rfl) hF
  · have hF := ite_p hF c3
    refine lv_iconst (v := (0 : Int32)) hx hb dX12_kindHere_13 (by decide) ?_
    refine lv_goto (tgt := 78) hx hb dX12_kindHere_14 (by decide) ?_
    exact B_X12_kindHere_j78 hE hD (lv_sub hl [1] rfl) hF
def F_X12_factHere_j70 (u : xS) (s0 : Int32) : Option Int32 := some s0
theorem B_X12_factHere_j70 {p : Program} {l : Launch} {e : Env} {s : State} {m : MethodId} {args : Array Value} {below : List Frame} {meth : Method} {cd : Code} {G : xG} {w0 : xW} {b sz : Nat} {rr : Int32} (hE : xE p s m args meth cd cX12_factHere RX12 G 3 (Option.some Jvm.ClassFile.FieldType.int)) {u : xS} {s0 : Int32} {H : Heap} {locs : List Loc} {ls : Array Slot} (hD : mD G (xA w0 s.heap.size) s.heap b u sz H locs) (hl : lv_has ls 3 [(0, .ref b)]) (hF : F_X12_factHere_j70 u s0 = some rr) : W p l e (xR 4 0 0) s m args below meth cd H locs 0 0 (xQi G w0 (fun r z => r = rr ∧ z = ((mW G b u), sz)) below args s 0 0) (F0 m 70 ls [.int s0]) := by
  have hx := hE.1; have hb := hE.2.1
  unfold F_X12_factHere_j70 at hF
  obtain rfl := Option.some.inj hF
  exact x_iret hE hD ⟨rfl, rfl⟩ (by omega) (by omega) dX12_factHere_70
def F_X12_factHere (u : xS)  : Option Int32 := (F_X12_word u).bind (fun r1 => if (lg_cmp r1 (4153 : Int64)) = 0 then F_X12_factHere_j70 u (-1 : Int32) else if (lg_cmp r1 (21279923 : Int64)) = 0 then F_X12_factHere_j70 u (-2 : Int32) else if (lg_cmp r1 (671116 : Int64)) = 0 then F_X12_factHere_j70 u (-3 : Int32) else if (lg_cmp r1 (6456948 : Int64)) = 0 then F_X12_factHere_j70 u (-4 : Int32) else if (lg_cmp r1 (492210354 : Int64)) = 0 then F_X12_factHere_j70 u (-5 : Int32) else F_X12_factHere_j70 u (0 : Int32))
theorem c_X12_factHere {l : Launch} {G : xG} {b sz : Nat} {rr : Int32} {u : xS}  (hF : F_X12_factHere u  = some rr) : xMi l G yX12_factHere cX12_factHere 3 (Option.some Jvm.ClassFile.FieldType.int) 4 0 0 [.ref b] (mW G b u) sz (fun r z => r = rr ∧ z = ((mW G b u), sz)) := by
  unfold F_X12_factHere at hF
  refine x_startI rfl (Nat.le_of_ble_eq_true rfl) (fun p e s m args below meth cd ls hE hnm hl hD => ?_)
  have hx := hE.1; have hb := hE.2.1
  have hl : lv_has ls 3 [(0, .ref b)] := hl
  have hD : mD G (xA (mW G b u) s.heap.size) s.heap b u sz s.heap [] := hD
  refine lv_aload_n hx hb dX12_factHere_0 rfl (lv_at hl 0 rfl) ?_
  obtain ⟨r1, k2, hF⟩ := xb_s hF
  refine kVl (As := []) (rest := []) hE hl hD (c_X12_word (b := b) k2) kl_X12_273 (mW_0 _ _ _) rfl rfl rfl rfl (Nat.le_of_ble_eq_true rfl) dX12_factHere_1 ⟨Nat.le_of_ble_eq_true rfl, Nat.le_of_ble_eq_true rfl⟩ ⟨Nat.le_of_ble_eq_true rfl, Nat.le_of_ble_eq_true rfl⟩ (fun H locs (hD : mD G _ _ b u sz H locs) => ?_)
  refine lv_lstore_n (lv' := [(1, .long r1), (0, .ref b)]) hx hb dX12_factHere_4 rfl hl (by decide) rfl (fun ls hl => ?_)
  refine lv_lload_n hx hb dX12_factHere_5 rfl (lv_at hl 0 rfl) ?_
  refine lv_ldc2 (v := (4153 : Int64)) hx hb hE.2.2.1 (hE.2.2.2.1 _ kw7_168) dX12_factHere_6 ?_
  refine W.lcmp hx hb dX12_factHere_9 ?_
  refine lv_if_ne (tgt := 17) hx hb dX12_factHere_10 (by decide) (fun c3 => ?_) (fun c3 => ?_)
  · have hF := ite_n hF c3
    refine lv_lload_n hx hb dX12_factHere_17 rfl (lv_at hl 0 rfl) ?_
    refine lv_ldc2 (v := (21279923 : Int64)) hx hb hE.2.2.1 (hE.2.2.2.1 _ kw7_169) dX12_factHere_18 ?_
    refine W.lcmp hx hb dX12_factHere_21 ?_
    refine lv_if_ne (tgt := 30) hx hb dX12_factHere_22 (by decide) (fun c4 => ?_) (fun c4 => ?_)
    · have hF := ite_n hF c4
      refine lv_lload_n hx hb dX12_factHere_30 rfl (lv_at hl 0 rfl) ?_
      refine lv_ldc2 (v := (671116 : Int64)) hx hb hE.2.2.1 (hE.2.2.2.1 _ kw7_170) dX12_factHere_31 ?_
      refine W.lcmp hx hb dX12_factHere_34 ?_
      refine lv_if_ne (tgt := 43) hx hb dX12_factHere_35 (by decide) (fun c5 => ?_) (fun c5 => ?_)
      · have hF := ite_n hF c5
        refine lv_lload_n hx hb dX12_factHere_43 rfl (lv_at hl 0 rfl) ?_
        refine lv_ldc2 (v := (6456948 : Int64)) hx hb hE.2.2.1 (hE.2.2.2.1 _ kw7_171) dX12_factHere_44 ?_
        refine W.lcmp hx hb dX12_factHere_47 ?_
        refine lv_if_ne (tgt := 56) hx hb dX12_factHere_48 (by decide) (fun c6 => ?_) (fun c6 => ?_)
        · have hF := ite_n hF c6
          refine lv_lload_n hx hb dX12_factHere_56 rfl (lv_at hl 0 rfl) ?_
          refine lv_ldc2 (v := (492210354 : Int64)) hx hb hE.2.2.1 (hE.2.2.2.1 _ kw7_172) dX12_factHere_57 ?_
          refine W.lcmp hx hb dX12_factHere_60 ?_
          refine lv_if_ne (tgt := 69) hx hb dX12_factHere_61 (by decide) (fun c7 => ?_) (fun c7 => ?_)
          · have hF := ite_n hF c7
            refine lv_iconst (v := (0 : Int32)) hx hb dX12_factHere_69 (by decide) ?_
            exact B_X12_factHere_j70 hE hD (lv_sub hl [1] rfl) hF
          · have hF := ite_p hF c7
            refine lv_bipush (v := (-5 : Int32)) hx hb dX12_factHere_64 (by decide) ?_
            refine lv_goto (tgt := 70) hx hb dX12_factHere_66 (by decide) ?_
            exact B_X12_factHere_j70 hE hD (lv_sub hl [1] rfl) hF
        · have hF := ite_p hF c6
          refine lv_bipush (v := (-4 : Int32)) hx hb dX12_factHere_51 (by decide) ?_
          refine lv_goto (tgt := 70) hx hb dX12_factHere_53 (by decide) ?_
          exact B_X12_factHere_j70 hE hD (lv_sub hl [1] rfl) hF
      · have hF := ite_p hF c5
        refine lv_bipush (v := (-3 : Int32)) hx hb dX12_factHere_38 (by decide) ?_
        refine lv_goto (tgt := 70) hx hb dX12_factHere_40 (by decide) ?_
        exact B_X12_factHere_j70 hE hD (lv_sub hl [1] rfl) hF
    · have hF := ite_p hF c4
      refine lv_bipush (v := (-2 : Int32)) hx hb dX12_factHere_25 (by decide) ?_
      refine lv_goto (tgt := 70) hx hb dX12_factHere_27 (by decide) ?_
      exact B_X12_factHere_j70 hE hD (lv_sub hl [1] rfl) hF
  · have hF := ite_p hF c3
    refine lv_iconst (v := (-1 : Int32)) hx hb dX12_factHere_13 (by decide) ?_
    refine lv_goto (tgt := 70) hx hb dX12_factHere_14 (by decide) ?_
    exact B_X12_factHere_j70 hE hD (lv_sub hl [1] rfl) hF
def F_X12_writes_j30 (u : xS)  : Option (xS) := some u
theorem B_X12_writes_j30 {p : Program} {l : Launch} {e : Env} {s : State} {m : MethodId} {args : Array Value} {below : List Frame} {meth : Method} {cd : Code} {G : xG} {w0 : xW} {b sz : Nat} {rr : (xS)} (hE : xE p s m args meth cd cX12_writes RX12 G 2 (Option.none : Option Jvm.ClassFile.FieldType)) {u : xS}  {H : Heap} {locs : List Loc} {ls : Array Slot} (hD : mD G (xA w0 s.heap.size) s.heap b u sz H locs) (hl : lv_has ls 2 [(0, .ref b)]) (hF : F_X12_writes_j30 u  = some rr) : W p l e (xR 1 0 0) s m args below meth cd H locs 0 0 (xQv G w0 (fun z => z = ((mW G b rr), sz)) below args s 0 0) (F0 m 30 ls []) := by
  have hx := hE.1; have hb := hE.2.1
  unfold F_X12_writes_j30 at hF
  obtain rfl := Option.some.inj hF
  exact x_vret hE hD rfl (by omega) (by omega) dX12_writes_30
def F_X12_writes (u : xS) (xa : Int32) : Option (xS) := if (u.1 24) = 0 then if xIn ((103 : Int32) + (u.1 23)) 303 then xlet (mA u 0 ((103 : Int32) + (u.1 23)).toNatClampNeg xa) (fun u3 => xlet (mS u3 23 ((u3.1 23) + (1 : Int32))) (fun u4 => F_X12_writes_j30 u4)) else none else F_X12_writes_j30 u
theorem c_X12_writes {l : Launch} {G : xG} {b sz : Nat} {rr : (xS)} {u : xS} {xa : Int32} (hF : F_X12_writes u xa = some rr) : xMv l G yX12_writes cX12_writes 2 (Option.none : Option Jvm.ClassFile.FieldType) 1 0 0 [.ref b, .int xa] (mW G b u) sz (fun z => z = ((mW G b rr), sz)) := by
  unfold F_X12_writes at hF
  refine x_startV rfl (Nat.le_of_ble_eq_true rfl) (fun p e s m args below meth cd ls hE hnm hl hD => ?_)
  have hx := hE.1; have hb := hE.2.1
  have hl : lv_has ls 2 [(0, .ref b), (1, .int xa)] := hl
  have hD : mD G (xA (mW G b u) s.heap.size) s.heap b u sz s.heap [] := hD
  refine lv_aload_n hx hb dX12_writes_0 rfl (lv_at hl 0 rfl) ?_
  refine gf_X12_256 hE hD dX12_writes_1 ?_
  refine lv_if_ne (tgt := 30) hx hb dX12_writes_4 (by decide) (fun c1 => ?_) (fun c1 => ?_)
  · have hF := ite_n hF c1
    exact B_X12_writes_j30 hE hD (lv_sub hl [0] rfl) hF
  · have hF := ite_p hF c1
    refine lv_aload_n hx hb dX12_writes_7 rfl (lv_at hl 0 rfl) ?_
    refine gf_X12_7 hE hD dX12_writes_8 ?_
    refine lv_bipush (v := (103 : Int32)) hx hb dX12_writes_11 (by decide) ?_
    refine lv_aload_n hx hb dX12_writes_13 rfl (lv_at hl 0 rfl) ?_
    refine gf_X12_299 hE hD dX12_writes_14 ?_
    refine lv_iadd hx hb dX12_writes_17 ?_
    refine lv_iload_n hx hb dX12_writes_18 rfl (lv_at hl 1 rfl) ?_
    obtain ⟨h2, hF⟩ := ite_s hF
    refine ma_st_0 hE hD h2 dX12_writes_19 (fun u3 H locs eu3 hD => ?_)
    have hF := xlet_e hF eu3
    refine lv_aload_n hx hb dX12_writes_20 rfl (lv_at hl 0 rfl) ?_
    refine lv_dup hx hb dX12_writes_21 rfl ?_
    refine gf_X12_299 hE hD dX12_writes_22 ?_
    refine lv_iconst (v := (1 : Int32)) hx hb dX12_writes_25 (by decide) ?_
    refine lv_iadd hx hb dX12_writes_26 ?_
    refine pf_X12_299 hE hD dX12_writes_27 (fun u4 H locs eu4 hD => ?_)
    have hF := xlet_e hF eu4
    exact B_X12_writes_j30 hE hD (lv_sub hl [0] rfl) hF
def F_X12_valueHere_j44 (u : xS)  : Option (xS) := some u
theorem B_X12_valueHere_j44 {p : Program} {l : Launch} {e : Env} {s : State} {m : MethodId} {args : Array Value} {below : List Frame} {meth : Method} {cd : Code} {G : xG} {w0 : xW} {b sz : Nat} {rr : (xS)} (hE : xE p s m args meth cd cX12_valueHere RX12 G 2 (Option.none : Option Jvm.ClassFile.FieldType)) {u : xS}  {H : Heap} {locs : List Loc} {ls : Array Slot} (hD : mD G (xA w0 s.heap.size) s.heap b u sz H locs) (hl : lv_has ls 2 [(0, .ref b)]) (hF : F_X12_valueHere_j44 u  = some rr) : W p l e (xR 6 0 0) s m args below meth cd H locs 0 0 (xQv G w0 (fun z => z = ((mW G b rr), sz)) below args s 0 0) (F0 m 44 ls []) := by
  have hx := hE.1; have hb := hE.2.1
  unfold F_X12_valueHere_j44 at hF
  obtain rfl := Option.some.inj hF
  exact x_vret hE hD rfl (by omega) (by omega) dX12_valueHere_44
def F_X12_valueHere (u : xS)  : Option (xS) := (F_X12_factHere u).bind (fun r1 => if 0 ≤ r1 then if (u.1 24) = 0 then (F_X12_number u (9999 : Int32)).bind (fun r5 => (F_X12_writes r5 (r5.1 21)).bind (fun r7 => F_X12_valueHere_j44 r7)) else F_X12_valueHere_j44 u else (F_X12_needs u (1 : Int32)).bind (fun r9 => (F_X12_writes r9 r1).bind (fun r11 => F_X12_valueHere_j44 r11)))
theorem c_X12_valueHere {l : Launch} {G : xG} {b sz : Nat} {rr : (xS)} {u : xS}  (hF : F_X12_valueHere u  = some rr) : xMv l G yX12_valueHere cX12_valueHere 2 (Option.none : Option Jvm.ClassFile.FieldType) 6 0 0 [.ref b] (mW G b u) sz (fun z => z = ((mW G b rr), sz)) := by
  unfold F_X12_valueHere at hF
  refine x_startV rfl (Nat.le_of_ble_eq_true rfl) (fun p e s m args below meth cd ls hE hnm hl hD => ?_)
  have hx := hE.1; have hb := hE.2.1
  have hl : lv_has ls 2 [(0, .ref b)] := hl
  have hD : mD G (xA (mW G b u) s.heap.size) s.heap b u sz s.heap [] := hD
  refine lv_aload_n hx hb dX12_valueHere_0 rfl (lv_at hl 0 rfl) ?_
  obtain ⟨r1, k2, hF⟩ := xb_s hF
  refine kVi (As := []) (rest := []) hE hl hD (c_X12_factHere (b := b) k2) kl_X12_302 (mW_0 _ _ _) rfl rfl rfl rfl (Nat.le_of_ble_eq_true rfl) dX12_valueHere_1 ⟨Nat.le_of_ble_eq_true rfl, Nat.le_of_ble_eq_true rfl⟩ ⟨Nat.le_of_ble_eq_true rfl, Nat.le_of_ble_eq_true rfl⟩ (fun H locs (hD : mD G _ _ b u sz H locs) => ?_)
  refine lv_istore_n (lv' := [(1, .int r1), (0, .ref b)]) hx hb dX12_valueHere_4 rfl hl (by decide) rfl (fun ls hl => ?_)
  refine lv_iload_n hx hb dX12_valueHere_5 rfl (lv_at hl 0 rfl) ?_
  refine lv_if_ge (tgt := 22) hx hb dX12_valueHere_6 (by decide) (fun c3 => ?_) (fun c3 => ?_)
  · have hF := ite_p hF c3
    refine lv_aload_n hx hb dX12_valueHere_22 rfl (lv_at hl 1 rfl) ?_
    refine gf_X12_256 hE hD dX12_valueHere_23 ?_
    refine lv_if_ne (tgt := 44) hx hb dX12_valueHere_26 (by decide) (fun c4 => ?_) (fun c4 => ?_)
    · have hF := ite_n hF c4
      exact B_X12_valueHere_j44 hE hD (lv_sub hl [1] rfl) hF
    · have hF := ite_p hF c4
      refine lv_aload_n hx hb dX12_valueHere_29 rfl (lv_at hl 1 rfl) ?_
      refine lv_sipush (v := (9999 : Int32)) hx hb dX12_valueHere_30 (by decide) ?_
      obtain ⟨r5, k6, hF⟩ := xb_s hF
      refine kVv (As := [.int (9999 : Int32)]) (rest := []) hE hl hD (c_X12_number (b := b) k6) kl_X12_309 (mW_0 _ _ _) rfl rfl rfl rfl (Nat.le_of_ble_eq_true rfl) dX12_valueHere_33 ⟨Nat.le_of_ble_eq_true rfl, Nat.le_of_ble_eq_true rfl⟩ ⟨Nat.le_of_ble_eq_true rfl, Nat.le_of_ble_eq_true rfl⟩ (fun H locs (hD : mD G _ _ b r5 sz H locs) => ?_)
      refine lv_aload_n hx hb dX12_valueHere_36 rfl (lv_at hl 1 rfl) ?_
      refine lv_aload_n hx hb dX12_valueHere_37 rfl (lv_at hl 1 rfl) ?_
      refine gf_X12_266 hE hD dX12_valueHere_38 ?_
      obtain ⟨r7, k8, hF⟩ := xb_s hF
      refine kVv (As := [.int (r5.1 21)]) (rest := []) hE hl hD (c_X12_writes (b := b) k8) kl_X12_306 (mW_0 _ _ _) rfl rfl rfl rfl (Nat.le_of_ble_eq_true rfl) dX12_valueHere_41 ⟨Nat.le_of_ble_eq_true rfl, Nat.le_of_ble_eq_true rfl⟩ ⟨Nat.le_of_ble_eq_true rfl, Nat.le_of_ble_eq_true rfl⟩ (fun H locs (hD : mD G _ _ b r7 sz H locs) => ?_)
      exact B_X12_valueHere_j44 hE hD (lv_sub hl [1] rfl) hF
  · have hF := ite_n hF c3
    refine lv_aload_n hx hb dX12_valueHere_9 rfl (lv_at hl 1 rfl) ?_
    refine lv_iconst (v := (1 : Int32)) hx hb dX12_valueHere_10 (by decide) ?_
    obtain ⟨r9, k10, hF⟩ := xb_s hF
    refine kVv (As := [.int (1 : Int32)]) (rest := []) hE hl hD (c_X12_needs (b := b) k10) kl_X12_269 (mW_0 _ _ _) rfl rfl rfl rfl (Nat.le_of_ble_eq_true rfl) dX12_valueHere_11 ⟨Nat.le_of_ble_eq_true rfl, Nat.le_of_ble_eq_true rfl⟩ ⟨Nat.le_of_ble_eq_true rfl, Nat.le_of_ble_eq_true rfl⟩ (fun H locs (hD : mD G _ _ b r9 sz H locs) => ?_)
    refine lv_aload_n hx hb dX12_valueHere_14 rfl (lv_at hl 1 rfl) ?_
    refine lv_iload_n hx hb dX12_valueHere_15 rfl (lv_at hl 0 rfl) ?_
    obtain ⟨r11, k12, hF⟩ := xb_s hF
    refine kVv (As := [.int r1]) (rest := []) hE hl hD (c_X12_writes (b := b) k12) kl_X12_306 (mW_0 _ _ _) rfl rfl rfl rfl (Nat.le_of_ble_eq_true rfl) dX12_valueHere_16 ⟨Nat.le_of_ble_eq_true rfl, Nat.le_of_ble_eq_true rfl⟩ ⟨Nat.le_of_ble_eq_true rfl, Nat.le_of_ble_eq_true rfl⟩ (fun H locs (hD : mD G _ _ b r11 sz H locs) => ?_)
    refine lv_goto (tgt := 44) hx hb dX12_valueHere_19 (by decide) ?_
    exact B_X12_valueHere_j44 hE hD (lv_sub hl [1] rfl) hF
def F_X12_comparison_j80 (u : xS) (s1 : Int32) : Option (xS) := (F_X12_writes u s1).bind (fun r1 => some r1)
theorem B_X12_comparison_j80 {p : Program} {l : Launch} {e : Env} {s : State} {m : MethodId} {args : Array Value} {below : List Frame} {meth : Method} {cd : Code} {G : xG} {w0 : xW} {b sz : Nat} {rr : (xS)} (hE : xE p s m args meth cd cX12_comparison RX12 G 2 (Option.none : Option Jvm.ClassFile.FieldType)) {u : xS} {s1 : Int32} {H : Heap} {locs : List Loc} {ls : Array Slot} (hD : mD G (xA w0 s.heap.size) s.heap b u sz H locs) (hl : lv_has ls 2 [(0, .ref b)]) (hF : F_X12_comparison_j80 u s1 = some rr) : W p l e (xR 7 0 0) s m args below meth cd H locs 0 0 (xQv G w0 (fun z => z = ((mW G b rr), sz)) below args s 0 0) (F0 m 80 ls [.int s1, .ref b]) := by
  have hx := hE.1; have hb := hE.2.1
  unfold F_X12_comparison_j80 at hF
  obtain ⟨r1, k2, hF⟩ := xb_s hF
  refine kVv (As := [.int s1]) (rest := []) hE hl hD (c_X12_writes (b := b) k2) kl_X12_306 (mW_0 _ _ _) rfl rfl rfl rfl (Nat.le_of_ble_eq_true rfl) dX12_comparison_80 ⟨Nat.le_of_ble_eq_true rfl, Nat.le_of_ble_eq_true rfl⟩ ⟨Nat.le_of_ble_eq_true rfl, Nat.le_of_ble_eq_true rfl⟩ (fun H locs (hD : mD G _ _ b r1 sz H locs) => ?_)
  obtain rfl := Option.some.inj hF
  exact x_vret hE hD rfl (by omega) (by omega) dX12_comparison_83
def F_X12_comparison_j48 (u : xS) (y1 : Int32) (s1 : Int32) : Option (xS) := (F_X12_needs u s1).bind (fun r3 => (F_X12_valueHere r3).bind (fun r5 => if y1 = (60 : Int32) then F_X12_comparison_j80 r5 (-11 : Int32) else if y1 = (61 : Int32) then F_X12_comparison_j80 r5 (-12 : Int32) else F_X12_comparison_j80 r5 (-13 : Int32)))
theorem B_X12_comparison_j48 {p : Program} {l : Launch} {e : Env} {s : State} {m : MethodId} {args : Array Value} {below : List Frame} {meth : Method} {cd : Code} {G : xG} {w0 : xW} {b sz : Nat} {rr : (xS)} (hE : xE p s m args meth cd cX12_comparison RX12 G 2 (Option.none : Option Jvm.ClassFile.FieldType)) {u : xS} {y1 : Int32} {s1 : Int32} {H : Heap} {locs : List Loc} {ls : Array Slot} (hD : mD G (xA w0 s.heap.size) s.heap b u sz H locs) (hl : lv_has ls 2 [(0, .ref b), (1, .int y1)]) (hF : F_X12_comparison_j48 u y1 s1 = some rr) : W p l e (xR 7 0 0) s m args below meth cd H locs 0 0 (xQv G w0 (fun z => z = ((mW G b rr), sz)) below args s 0 0) (F0 m 48 ls [.int s1, .ref b]) := by
  have hx := hE.1; have hb := hE.2.1
  unfold F_X12_comparison_j48 at hF
  obtain ⟨r3, k4, hF⟩ := xb_s hF
  refine kVv (As := [.int s1]) (rest := []) hE hl hD (c_X12_needs (b := b) k4) kl_X12_269 (mW_0 _ _ _) rfl rfl rfl rfl (Nat.le_of_ble_eq_true rfl) dX12_comparison_48 ⟨Nat.le_of_ble_eq_true rfl, Nat.le_of_ble_eq_true rfl⟩ ⟨Nat.le_of_ble_eq_true rfl, Nat.le_of_ble_eq_true rfl⟩ (fun H locs (hD : mD G _ _ b r3 sz H locs) => ?_)
  refine lv_aload_n hx hb dX12_comparison_51 rfl (lv_at hl 0 rfl) ?_
  obtain ⟨r5, k6, hF⟩ := xb_s hF
  refine kVv (As := []) (rest := []) hE hl hD (c_X12_valueHere (b := b) k6) kl_X12_312 (mW_0 _ _ _) rfl rfl rfl rfl (Nat.le_of_ble_eq_true rfl) dX12_comparison_52 ⟨Nat.le_of_ble_eq_true rfl, Nat.le_of_ble_eq_true rfl⟩ ⟨Nat.le_of_ble_eq_true rfl, Nat.le_of_ble_eq_true rfl⟩ (fun H locs (hD : mD G _ _ b r5 sz H locs) => ?_)
  refine lv_aload_n hx hb dX12_comparison_55 rfl (lv_at hl 0 rfl) ?_
  refine lv_iload_n hx hb dX12_comparison_56 rfl (lv_at hl 1 rfl) ?_
  refine lv_bipush (v := (60 : Int32)) hx hb dX12_comparison_57 (by decide) ?_
  refine lv_icmp_ne (tgt := 67) hx hb dX12_comparison_59 (by decide) (fun c7 => ?_) (fun c7 => ?_)
  · have hF := ite_n hF c7
    refine lv_iload_n hx hb dX12_comparison_67 rfl (lv_at hl 1 rfl) ?_
    refine lv_bipush (v := (61 : Int32)) hx hb dX12_comparison_68 (by decide) ?_
    refine lv_icmp_ne (tgt := 78) hx hb dX12_comparison_70 (by decide) (fun c8 => ?_) (fun c8 => ?_)
    · have hF := ite_n hF c8
      refine lv_bipush (v := (-13 : Int32)) hx hb dX12_comparison_78 (by decide) ?_
      exact B_X12_comparison_j80 hE hD (lv_sub hl [0] rfl) hF
    · have hF := ite_p hF c8
      refine lv_bipush (v := (-12 : Int32)) hx hb dX12_comparison_73 (by decide) ?_
      refine lv_goto (tgt := 80) hx hb dX12_comparison_75 (by decide) ?_
      exact B_X12_comparison_j80 hE hD (lv_sub hl [0] rfl) hF
  · have hF := ite_p hF c7
    refine lv_bipush (v := (-11 : Int32)) hx hb dX12_comparison_62 (by decide) ?_
    refine lv_goto (tgt := 80) hx hb dX12_comparison_64 (by decide) ?_
    exact B_X12_comparison_j80 hE hD (lv_sub hl [0] rfl) hF
def F_X12_comparison_j43 (u : xS) (y1 : Int32) : Option (xS) := F_X12_comparison_j48 u y1 (1 : Int32)
theorem B_X12_comparison_j43 {p : Program} {l : Launch} {e : Env} {s : State} {m : MethodId} {args : Array Value} {below : List Frame} {meth : Method} {cd : Code} {G : xG} {w0 : xW} {b sz : Nat} {rr : (xS)} (hE : xE p s m args meth cd cX12_comparison RX12 G 2 (Option.none : Option Jvm.ClassFile.FieldType)) {u : xS} {y1 : Int32} {H : Heap} {locs : List Loc} {ls : Array Slot} (hD : mD G (xA w0 s.heap.size) s.heap b u sz H locs) (hl : lv_has ls 2 [(0, .ref b), (1, .int y1)]) (hF : F_X12_comparison_j43 u y1 = some rr) : W p l e (xR 7 0 0) s m args below meth cd H locs 0 0 (xQv G w0 (fun z => z = ((mW G b rr), sz)) below args s 0 0) (F0 m 43 ls [.ref b]) := by
  have hx := hE.1; have hb := hE.2.1
  unfold F_X12_comparison_j43 at hF
  refine lv_iconst (v := (1 : Int32)) hx hb dX12_comparison_43 (by decide) ?_
  refine lv_goto (tgt := 48) hx hb dX12_comparison_44 (by decide) ?_
  exact B_X12_comparison_j48 hE hD (lv_sub hl [0, 1] rfl) hF
def F_X12_comparison_j23 (u : xS) (s0 : Int32) : Option (xS) := if s0 = (60 : Int32) then F_X12_comparison_j43 u s0 else if s0 = (61 : Int32) then F_X12_comparison_j43 u s0 else if s0 = (62 : Int32) then F_X12_comparison_j43 u s0 else F_X12_comparison_j48 u s0 (0 : Int32)
theorem B_X12_comparison_j23 {p : Program} {l : Launch} {e : Env} {s : State} {m : MethodId} {args : Array Value} {below : List Frame} {meth : Method} {cd : Code} {G : xG} {w0 : xW} {b sz : Nat} {rr : (xS)} (hE : xE p s m args meth cd cX12_comparison RX12 G 2 (Option.none : Option Jvm.ClassFile.FieldType)) {u : xS} {s0 : Int32} {H : Heap} {locs : List Loc} {ls : Array Slot} (hD : mD G (xA w0 s.heap.size) s.heap b u sz H locs) (hl : lv_has ls 2 [(0, .ref b)]) (hF : F_X12_comparison_j23 u s0 = some rr) : W p l e (xR 7 0 0) s m args below meth cd H locs 0 0 (xQv G w0 (fun z => z = ((mW G b rr), sz)) below args s 0 0) (F0 m 23 ls [.int s0]) := by
  have hx := hE.1; have hb := hE.2.1
  unfold F_X12_comparison_j23 at hF
  refine lv_istore_n (lv' := [(1, .int s0), (0, .ref b)]) hx hb dX12_comparison_23 rfl hl (by decide) rfl (fun ls hl => ?_)
  refine lv_aload_n hx hb dX12_comparison_24 rfl (lv_at hl 1 rfl) ?_
  refine lv_iload_n hx hb dX12_comparison_25 rfl (lv_at hl 0 rfl) ?_
  refine lv_bipush (v := (60 : Int32)) hx hb dX12_comparison_26 (by decide) ?_
  refine lv_icmp_eq (tgt := 43) hx hb dX12_comparison_28 (by decide) (fun c9 => ?_) (fun c9 => ?_)
  · have hF := ite_p hF c9
    exact B_X12_comparison_j43 hE hD (lv_sub hl [1, 0] rfl) hF
  · have hF := ite_n hF c9
    refine lv_iload_n hx hb dX12_comparison_31 rfl (lv_at hl 0 rfl) ?_
    refine lv_bipush (v := (61 : Int32)) hx hb dX12_comparison_32 (by decide) ?_
    refine lv_icmp_eq (tgt := 43) hx hb dX12_comparison_34 (by decide) (fun c10 => ?_) (fun c10 => ?_)
    · have hF := ite_p hF c10
      exact B_X12_comparison_j43 hE hD (lv_sub hl [1, 0] rfl) hF
    · have hF := ite_n hF c10
      refine lv_iload_n hx hb dX12_comparison_37 rfl (lv_at hl 0 rfl) ?_
      refine lv_bipush (v := (62 : Int32)) hx hb dX12_comparison_38 (by decide) ?_
      refine lv_icmp_ne (tgt := 47) hx hb dX12_comparison_40 (by decide) (fun c11 => ?_) (fun c11 => ?_)
      · have hF := ite_n hF c11
        refine lv_iconst (v := (0 : Int32)) hx hb dX12_comparison_47 (by decide) ?_
        exact B_X12_comparison_j48 hE hD (lv_sub hl [1, 0] rfl) hF
      · have hF := ite_p hF c11
        exact B_X12_comparison_j43 hE hD (lv_sub hl [1, 0] rfl) hF
def F_X12_comparison (u : xS)  : Option (xS) := (F_X12_valueHere u).bind (fun r12 => if (r12.1 24) = 0 then (F_X12_byteAt r12 (r12.1 19)).bind (fun r15 => F_X12_comparison_j23 r12 r15) else F_X12_comparison_j23 r12 (-1 : Int32))
theorem c_X12_comparison {l : Launch} {G : xG} {b sz : Nat} {rr : (xS)} {u : xS}  (hF : F_X12_comparison u  = some rr) : xMv l G yX12_comparison cX12_comparison 2 (Option.none : Option Jvm.ClassFile.FieldType) 7 0 0 [.ref b] (mW G b u) sz (fun z => z = ((mW G b rr), sz)) := by
  unfold F_X12_comparison at hF
  refine x_startV rfl (Nat.le_of_ble_eq_true rfl) (fun p e s m args below meth cd ls hE hnm hl hD => ?_)
  have hx := hE.1; have hb := hE.2.1
  have hl : lv_has ls 2 [(0, .ref b)] := hl
  have hD : mD G (xA (mW G b u) s.heap.size) s.heap b u sz s.heap [] := hD
  refine lv_aload_n hx hb dX12_comparison_0 rfl (lv_at hl 0 rfl) ?_
  obtain ⟨r12, k13, hF⟩ := xb_s hF
  refine kVv (As := []) (rest := []) hE hl hD (c_X12_valueHere (b := b) k13) kl_X12_312 (mW_0 _ _ _) rfl rfl rfl rfl (Nat.le_of_ble_eq_true rfl) dX12_comparison_1 ⟨Nat.le_of_ble_eq_true rfl, Nat.le_of_ble_eq_true rfl⟩ ⟨Nat.le_of_ble_eq_true rfl, Nat.le_of_ble_eq_true rfl⟩ (fun H locs (hD : mD G _ _ b r12 sz H locs) => ?_)
  refine lv_aload_n hx hb dX12_comparison_4 rfl (lv_at hl 0 rfl) ?_
  refine gf_X12_256 hE hD dX12_comparison_5 ?_
  refine lv_if_eq (tgt := 15) hx hb dX12_comparison_8 (by decide) (fun c14 => ?_) (fun c14 => ?_)
  · have hF := ite_p hF c14
    refine lv_aload_n hx hb dX12_comparison_15 rfl (lv_at hl 0 rfl) ?_
    refine lv_aload_n hx hb dX12_comparison_16 rfl (lv_at hl 0 rfl) ?_
    refine gf_X12_244 hE hD dX12_comparison_17 ?_
    obtain ⟨r15, k16, hF⟩ := xb_s hF
    refine kVi (As := [.int (r12.1 19)]) (rest := []) hE hl hD (c_X12_byteAt (b := b) k16) kl_X12_247 (mW_0 _ _ _) rfl rfl rfl rfl (Nat.le_of_ble_eq_true rfl) dX12_comparison_20 ⟨Nat.le_of_ble_eq_true rfl, Nat.le_of_ble_eq_true rfl⟩ ⟨Nat.le_of_ble_eq_true rfl, Nat.le_of_ble_eq_true rfl⟩ (fun H locs (hD : mD G _ _ b r12 sz H locs) => ?_)
    exact B_X12_comparison_j23 hE hD (lv_sub hl [0] rfl) hF
  · have hF := ite_n hF c14
    refine lv_iconst (v := (-1 : Int32)) hx hb dX12_comparison_11 (by decide) ?_
    refine lv_goto (tgt := 23) hx hb dX12_comparison_12 (by decide) ?_
    exact B_X12_comparison_j23 hE hD (lv_sub hl [0] rfl) hF
def F_X12_isOne (xa : Int32) : Option Int32 := (F_X12_in xa.toInt64 (0 : Int64) (3 : Int64)).bind (fun r1 => some r1)
theorem c_X12_isOne {l : Launch} {G : xG} {w : xW} {sz : Nat} {rr : Int32} {xa : Int32} (hF : F_X12_isOne xa = some rr) : xMi l G yX12_isOne cX12_isOne 1 (Option.some Jvm.ClassFile.FieldType.boolean) 2 0 0 [.int xa] w sz (fun r z => r = rr ∧ (rr = 0 ∨ rr = 1) ∧ z = (w, sz)) := by
  unfold F_X12_isOne at hF
  refine x_startI rfl (Nat.le_of_ble_eq_true rfl) (fun p e s m args below meth cd ls hE hnm hl hD => ?_)
  have hx := hE.1; have hb := hE.2.1
  have hl : lv_has ls 1 [(0, .int xa)] := hl
  refine lv_iload_n hx hb dX12_isOne_0 rfl (lv_at hl 0 rfl) ?_
  refine lv_i2l (v := xa.toInt64) hx hb dX12_isOne_1 rfl ?_
  refine lv_lconst (v := (0 : Int64)) hx hb dX12_isOne_2 (by decide) ?_
  refine lv_ldc2 (v := (3 : Int64)) hx hb hE.2.2.1 (hE.2.2.2.1 _ kw7_198) dX12_isOne_3 ?_
  obtain ⟨r1, k2, hF⟩ := xb_s hF
  refine kSz (As := [.long xa.toInt64, .long (0 : Int64), .long (3 : Int64)]) (rest := []) hE hl hD (c_X12_in k2) kl_X12_67 rfl rfl (Nat.le_of_ble_eq_true rfl) dX12_isOne_6 ⟨Nat.le_of_ble_eq_true rfl, Nat.le_of_ble_eq_true rfl⟩ ⟨Nat.le_of_ble_eq_true rfl, Nat.le_of_ble_eq_true rfl⟩ (fun H locs z3 (hD : xD G _ _ w sz H locs) => ?_)
  obtain rfl := Option.some.inj hF
  exact x_zret hE hD z3 ⟨rfl, z3, rfl⟩ (by omega) (by omega) dX12_isOne_9
def F_X12_sheet_l69 : Nat → xS → Int32 → Int32 → Option (Int32 × xS)
  | 0, _, _, _ => none
  | nn + 1, u, y1, y4 => if (40 : Int32) ≤ y4 then some ((1 : Int32), u) else if xIn (((40 : Int32) * y1) + y4) 160 then xlet (mA u 27 (((40 : Int32) * y1) + y4).toNatClampNeg (0 : Int32)) (fun u3 => xlet (y4 + (1 : Int32)) (fun x4 => F_X12_sheet_l69 nn u3 y1 x4)) else none
theorem L_X12_sheet_l69 {p : Program} {l : Launch} {e : Env} {s : State} {m : MethodId} {args : Array Value} {below : List Frame} {meth : Method} {cd : Code} {G : xG} {w0 : xW} {b sz : Nat} {rr : (Int32 × xS)} (hE : xE p s m args meth cd cX12_sheet RX12 G 5 (Option.some Jvm.ClassFile.FieldType.int)) : ∀ (nn : Nat) {u : xS} {y1 : Int32} {y4 : Int32} {H : Heap} {locs : List Loc} {ls : Array Slot}, mD G (xA w0 s.heap.size) s.heap b u sz H locs → lv_has ls 5 [(0, .ref b), (1, .int y1), (4, .int y4)] → F_X12_sheet_l69 nn u y1 y4 = some rr → W p l e (xR 3 0 0) s m args below meth cd H locs 0 0 (xQi G w0 (fun r z => r = rr.1 ∧ z = ((mW G b rr.2), sz)) below args s 0 0) (F0 m 69 ls []) := by
  have hx := hE.1; have hb := hE.2.1
  intro nn
  induction nn with
  | zero => intro u y1 y4 H locs ls hD hl hF; rw [F_X12_sheet_l69] at hF; cases hF
  | succ nn ih =>
    intro u y1 y4 H locs ls hD hl hF
    rw [F_X12_sheet_l69] at hF
    refine lv_iload hx hb dX12_sheet_69 (lv_at hl 2 rfl) ?_
    refine lv_bipush (v := (40 : Int32)) hx hb dX12_sheet_71 (by decide) ?_
    refine lv_icmp_ge (tgt := 95) hx hb dX12_sheet_73 (by decide) (fun c1 => ?_) (fun c1 => ?_)
    · have hF := ite_p hF c1
      refine lv_iconst (v := (1 : Int32)) hx hb dX12_sheet_95 (by decide) ?_
      obtain rfl := Option.some.inj hF
      exact x_iret hE hD ⟨rfl, rfl⟩ (by omega) (by omega) dX12_sheet_96
    · have hF := ite_n hF c1
      refine lv_aload_n hx hb dX12_sheet_76 rfl (lv_at hl 0 rfl) ?_
      refine gf_X12_50 hE hD dX12_sheet_77 ?_
      refine lv_bipush (v := (40 : Int32)) hx hb dX12_sheet_80 (by decide) ?_
      refine lv_iload_n hx hb dX12_sheet_82 rfl (lv_at hl 1 rfl) ?_
      refine lv_imul hx hb dX12_sheet_83 ?_
      refine lv_iload hx hb dX12_sheet_84 (lv_at hl 2 rfl) ?_
      refine lv_iadd hx hb dX12_sheet_86 ?_
      refine lv_iconst (v := (0 : Int32)) hx hb dX12_sheet_87 (by decide) ?_
      obtain ⟨h2, hF⟩ := ite_s hF
      refine ma_st_27 hE hD h2 dX12_sheet_88 (fun u3 H locs eu3 hD => ?_)
      have hF := xlet_e hF eu3
      obtain ⟨x4, ex4⟩ : ∃ y : Int32, y = y4 + (1 : Int32) := ⟨_, rfl⟩
      have hF := xlet_e hF ex4
      refine lv_iinc (v := x4) (lv' := [(4, .int x4), (0, .ref b), (1, .int y1)]) hx hb dX12_sheet_89 hl (k := 2) rfl (by rw [ex4]; rfl) (by decide) rfl (fun ls hl => ?_)
      refine lv_goto (tgt := 69) hx hb dX12_sheet_92 (by decide) ?_
      exact ih hD (lv_sub hl [1, 2, 0] rfl) hF
def F_X12_sheet_j65 (u : xS) (y1 : Int32) (s1 : Int32) (s2 : Int32) : Option (Int32 × xS) := if xIn s1 4 then xlet (mA u 26 s1.toNatClampNeg s2) (fun u6 => F_X12_sheet_l69 xFuel u6 y1 (0 : Int32)) else none
theorem B_X12_sheet_j65 {p : Program} {l : Launch} {e : Env} {s : State} {m : MethodId} {args : Array Value} {below : List Frame} {meth : Method} {cd : Code} {G : xG} {w0 : xW} {b sz : Nat} {rr : (Int32 × xS)} (hE : xE p s m args meth cd cX12_sheet RX12 G 5 (Option.some Jvm.ClassFile.FieldType.int)) {u : xS} {y1 : Int32} {s1 : Int32} {s2 : Int32} {H : Heap} {locs : List Loc} {ls : Array Slot} (hD : mD G (xA w0 s.heap.size) s.heap b u sz H locs) (hl : lv_has ls 5 [(0, .ref b), (1, .int y1)]) (hF : F_X12_sheet_j65 u y1 s1 s2 = some rr) : W p l e (xR 3 0 0) s m args below meth cd H locs 0 0 (xQi G w0 (fun r z => r = rr.1 ∧ z = ((mW G b rr.2), sz)) below args s 0 0) (F0 m 65 ls [.int s2, .int s1, .ref (b + 13)]) := by
  have hx := hE.1; have hb := hE.2.1
  unfold F_X12_sheet_j65 at hF
  obtain ⟨h5, hF⟩ := ite_s hF
  refine ma_st_26 hE hD h5 dX12_sheet_65 (fun u6 H locs eu6 hD => ?_)
  have hF := xlet_e hF eu6
  refine lv_iconst (v := (0 : Int32)) hx hb dX12_sheet_66 (by decide) ?_
  refine lv_istore (lv' := [(4, .int (0 : Int32)), (0, .ref b), (1, .int y1)]) hx hb dX12_sheet_67 hl (by decide) rfl (fun ls hl => ?_)
  exact L_X12_sheet_l69 hE _ hD (lv_sub hl [1, 2, 0] rfl) hF
def F_X12_sheet_j44 (u : xS) (y1 : Int32) (y2 : Int32) (y3 : Int32) : Option (Int32 × xS) := if xIn y1 4 then xlet (mA u 25 y1.toNatClampNeg y2) (fun u8 => if 0 ≤ y2 then F_X12_sheet_j65 u8 y1 y1 y3 else F_X12_sheet_j65 u8 y1 y1 (0 : Int32)) else none
theorem B_X12_sheet_j44 {p : Program} {l : Launch} {e : Env} {s : State} {m : MethodId} {args : Array Value} {below : List Frame} {meth : Method} {cd : Code} {G : xG} {w0 : xW} {b sz : Nat} {rr : (Int32 × xS)} (hE : xE p s m args meth cd cX12_sheet RX12 G 5 (Option.some Jvm.ClassFile.FieldType.int)) {u : xS} {y1 : Int32} {y2 : Int32} {y3 : Int32} {H : Heap} {locs : List Loc} {ls : Array Slot} (hD : mD G (xA w0 s.heap.size) s.heap b u sz H locs) (hl : lv_has ls 5 [(0, .ref b), (1, .int y1), (2, .int y2), (3, .int y3)]) (hF : F_X12_sheet_j44 u y1 y2 y3 = some rr) : W p l e (xR 3 0 0) s m args below meth cd H locs 0 0 (xQi G w0 (fun r z => r = rr.1 ∧ z = ((mW G b rr.2), sz)) below args s 0 0) (F0 m 44 ls []) := by
  have hx := hE.1; have hb := hE.2.1
  unfold F_X12_sheet_j44 at hF
  refine lv_aload_n hx hb dX12_sheet_44 rfl (lv_at hl 0 rfl) ?_
  refine gf_X12_44 hE hD dX12_sheet_45 ?_
  refine lv_iload_n hx hb dX12_sheet_48 rfl (lv_at hl 1 rfl) ?_
  refine lv_iload_n hx hb dX12_sheet_49 rfl (lv_at hl 2 rfl) ?_
  obtain ⟨h7, hF⟩ := ite_s hF
  refine ma_st_25 hE hD h7 dX12_sheet_50 (fun u8 H locs eu8 hD => ?_)
  have hF := xlet_e hF eu8
  refine lv_aload_n hx hb dX12_sheet_51 rfl (lv_at hl 0 rfl) ?_
  refine gf_X12_47 hE hD dX12_sheet_52 ?_
  refine lv_iload_n hx hb dX12_sheet_55 rfl (lv_at hl 1 rfl) ?_
  refine lv_iload_n hx hb dX12_sheet_56 rfl (lv_at hl 2 rfl) ?_
  refine lv_if_ge (tgt := 64) hx hb dX12_sheet_57 (by decide) (fun c9 => ?_) (fun c9 => ?_)
  · have hF := ite_p hF c9
    refine lv_iload_n hx hb dX12_sheet_64 rfl (lv_at hl 3 rfl) ?_
    exact B_X12_sheet_j65 hE hD (lv_sub hl [0, 1] rfl) hF
  · have hF := ite_n hF c9
    refine lv_iconst (v := (0 : Int32)) hx hb dX12_sheet_60 (by decide) ?_
    refine lv_goto (tgt := 65) hx hb dX12_sheet_61 (by decide) ?_
    exact B_X12_sheet_j65 hE hD (lv_sub hl [0, 1] rfl) hF
def F_X12_sheet_j33 (u : xS) (y1 : Int32) (y2 : Int32) (y3 : Int32) : Option (Int32 × xS) := if y2 < 0 then F_X12_sheet_j44 u y1 y2 y3 else if 0 ≤ y3 then F_X12_sheet_j44 u y1 y2 y3 else some ((-14 : Int32), u)
theorem B_X12_sheet_j33 {p : Program} {l : Launch} {e : Env} {s : State} {m : MethodId} {args : Array Value} {below : List Frame} {meth : Method} {cd : Code} {G : xG} {w0 : xW} {b sz : Nat} {rr : (Int32 × xS)} (hE : xE p s m args meth cd cX12_sheet RX12 G 5 (Option.some Jvm.ClassFile.FieldType.int)) {u : xS} {y1 : Int32} {y2 : Int32} {y3 : Int32} {H : Heap} {locs : List Loc} {ls : Array Slot} (hD : mD G (xA w0 s.heap.size) s.heap b u sz H locs) (hl : lv_has ls 5 [(0, .ref b), (1, .int y1), (2, .int y2), (3, .int y3)]) (hF : F_X12_sheet_j33 u y1 y2 y3 = some rr) : W p l e (xR 3 0 0) s m args below meth cd H locs 0 0 (xQi G w0 (fun r z => r = rr.1 ∧ z = ((mW G b rr.2), sz)) below args s 0 0) (F0 m 33 ls []) := by
  have hx := hE.1; have hb := hE.2.1
  unfold F_X12_sheet_j33 at hF
  refine lv_iload_n hx hb dX12_sheet_33 rfl (lv_at hl 2 rfl) ?_
  refine lv_if_lt (tgt := 44) hx hb dX12_sheet_34 (by decide) (fun c10 => ?_) (fun c10 => ?_)
  · have hF := ite_p hF c10
    exact B_X12_sheet_j44 hE hD (lv_sub hl [0, 1, 2, 3] rfl) hF
  · have hF := ite_n hF c10
    refine lv_iload_n hx hb dX12_sheet_37 rfl (lv_at hl 3 rfl) ?_
    refine lv_if_ge (tgt := 44) hx hb dX12_sheet_38 (by decide) (fun c11 => ?_) (fun c11 => ?_)
    · have hF := ite_p hF c11
      exact B_X12_sheet_j44 hE hD (lv_sub hl [0, 1, 2, 3] rfl) hF
    · have hF := ite_n hF c11
      refine lv_bipush (v := (-14 : Int32)) hx hb dX12_sheet_41 (by decide) ?_
      obtain rfl := Option.some.inj hF
      exact x_iret hE hD ⟨rfl, rfl⟩ (by omega) (by omega) dX12_sheet_43
def F_X12_sheet_j31 (u : xS)  : Option (Int32 × xS) := some ((-1 : Int32), u)
theorem B_X12_sheet_j31 {p : Program} {l : Launch} {e : Env} {s : State} {m : MethodId} {args : Array Value} {below : List Frame} {meth : Method} {cd : Code} {G : xG} {w0 : xW} {b sz : Nat} {rr : (Int32 × xS)} (hE : xE p s m args meth cd cX12_sheet RX12 G 5 (Option.some Jvm.ClassFile.FieldType.int)) {u : xS}  {H : Heap} {locs : List Loc} {ls : Array Slot} (hD : mD G (xA w0 s.heap.size) s.heap b u sz H locs) (hl : lv_has ls 5 [(0, .ref b)]) (hF : F_X12_sheet_j31 u  = some rr) : W p l e (xR 3 0 0) s m args below meth cd H locs 0 0 (xQi G w0 (fun r z => r = rr.1 ∧ z = ((mW G b rr.2), sz)) below args s 0 0) (F0 m 31 ls []) := by
  have hx := hE.1; have hb := hE.2.1
  unfold F_X12_sheet_j31 at hF
  refine lv_iconst (v := (-1 : Int32)) hx hb dX12_sheet_31 (by decide) ?_
  obtain rfl := Option.some.inj hF
  exact x_iret hE hD ⟨rfl, rfl⟩ (by omega) (by omega) dX12_sheet_32
def F_X12_sheet (u : xS) (xa : Int32) (xb : Int32) (xc : Int32) : Option (Int32 × xS) := (F_X12_isOne xa).bind (fun r12 => if r12 = 0 then F_X12_sheet_j31 u else (F_X12_in xb.toInt64 (-1 : Int64) (4 : Int64)).bind (fun r16 => if r16 = 0 then F_X12_sheet_j31 u else if xb < 0 then F_X12_sheet_j33 u xa xb xc else if xc ≤ (40 : Int32) then F_X12_sheet_j33 u xa xb xc else F_X12_sheet_j31 u))
theorem c_X12_sheet {l : Launch} {G : xG} {b sz : Nat} {rr : (Int32 × xS)} {u : xS} {xa : Int32} {xb : Int32} {xc : Int32} (hF : F_X12_sheet u xa xb xc = some rr) : xMi l G yX12_sheet cX12_sheet 5 (Option.some Jvm.ClassFile.FieldType.int) 3 0 0 [.ref b, .int xa, .int xb, .int xc] (mW G b u) sz (fun r z => r = rr.1 ∧ z = ((mW G b rr.2), sz)) := by
  unfold F_X12_sheet at hF
  refine x_startI rfl (Nat.le_of_ble_eq_true rfl) (fun p e s m args below meth cd ls hE hnm hl hD => ?_)
  have hx := hE.1; have hb := hE.2.1
  have hl : lv_has ls 5 [(0, .ref b), (1, .int xa), (2, .int xb), (3, .int xc)] := hl
  have hD : mD G (xA (mW G b u) s.heap.size) s.heap b u sz s.heap [] := hD
  refine lv_iload_n hx hb dX12_sheet_0 rfl (lv_at hl 1 rfl) ?_
  obtain ⟨r12, k13, hF⟩ := xb_s hF
  refine kSz (As := [.int xa]) (rest := []) hE hl hD (c_X12_isOne k13) kl_X12_360 rfl rfl (Nat.le_of_ble_eq_true rfl) dX12_sheet_1 ⟨Nat.le_of_ble_eq_true rfl, Nat.le_of_ble_eq_true rfl⟩ ⟨Nat.le_of_ble_eq_true rfl, Nat.le_of_ble_eq_true rfl⟩ (fun H locs z14 (hD : mD G _ _ b u sz H locs) => ?_)
  refine lv_if_eq (tgt := 31) hx hb dX12_sheet_4 (by decide) (fun c15 => ?_) (fun c15 => ?_)
  · have hF := ite_p hF c15
    exact B_X12_sheet_j31 hE hD (lv_sub hl [0] rfl) hF
  · have hF := ite_n hF c15
    refine lv_iload_n hx hb dX12_sheet_7 rfl (lv_at hl 2 rfl) ?_
    refine lv_i2l (v := xb.toInt64) hx hb dX12_sheet_8 rfl ?_
    refine lv_ldc2 (v := (-1 : Int64)) hx hb hE.2.2.1 (hE.2.2.2.1 _ kw6_144) dX12_sheet_9 ?_
    refine lv_ldc2 (v := (4 : Int64)) hx hb hE.2.2.1 (hE.2.2.2.1 _ kw7_27) dX12_sheet_12 ?_
    obtain ⟨r16, k17, hF⟩ := xb_s hF
    refine kSz (As := [.long xb.toInt64, .long (-1 : Int64), .long (4 : Int64)]) (rest := []) hE hl hD (c_X12_in k17) kl_X12_67 rfl rfl (Nat.le_of_ble_eq_true rfl) dX12_sheet_15 ⟨Nat.le_of_ble_eq_true rfl, Nat.le_of_ble_eq_true rfl⟩ ⟨Nat.le_of_ble_eq_true rfl, Nat.le_of_ble_eq_true rfl⟩ (fun H locs z18 (hD : mD G _ _ b u sz H locs) => ?_)
    refine lv_if_eq (tgt := 31) hx hb dX12_sheet_18 (by decide) (fun c19 => ?_) (fun c19 => ?_)
    · have hF := ite_p hF c19
      exact B_X12_sheet_j31 hE hD (lv_sub hl [0] rfl) hF
    · have hF := ite_n hF c19
      refine lv_iload_n hx hb dX12_sheet_21 rfl (lv_at hl 2 rfl) ?_
      refine lv_if_lt (tgt := 33) hx hb dX12_sheet_22 (by decide) (fun c20 => ?_) (fun c20 => ?_)
      · have hF := ite_p hF c20
        exact B_X12_sheet_j33 hE hD (lv_sub hl [0, 1, 2, 3] rfl) hF
      · have hF := ite_n hF c20
        refine lv_iload_n hx hb dX12_sheet_25 rfl (lv_at hl 3 rfl) ?_
        refine lv_bipush (v := (40 : Int32)) hx hb dX12_sheet_26 (by decide) ?_
        refine lv_icmp_le (tgt := 33) hx hb dX12_sheet_28 (by decide) (fun c21 => ?_) (fun c21 => ?_)
        · have hF := ite_p hF c21
          exact B_X12_sheet_j33 hE hD (lv_sub hl [0, 1, 2, 3] rfl) hF
        · have hF := ite_n hF c21
          exact B_X12_sheet_j31 hE hD (lv_sub hl [0] rfl) hF
def F_X12_narrowed_j37 (s0 : Int32) : Option Int32 := some s0
theorem B_X12_narrowed_j37 {p : Program} {l : Launch} {e : Env} {s : State} {m : MethodId} {args : Array Value} {below : List Frame} {meth : Method} {cd : Code} {G : xG} {w0 : xW} {w : xW} {sz : Nat} {rr : Int32} (hE : xE p s m args meth cd cX12_narrowed RX12 G 2 (Option.some Jvm.ClassFile.FieldType.int)) {s0 : Int32} {H : Heap} {locs : List Loc} {ls : Array Slot} (hD : xD G (xA w0 s.heap.size) s.heap w sz H locs) (hl : lv_has ls 2 []) (hF : F_X12_narrowed_j37 s0 = some rr) : W p l e (xR 1 0 0) s m args below meth cd H locs 0 0 (xQi G w0 (fun r z => r = rr ∧ z = (w, sz)) below args s 0 0) (F0 m 37 ls [.int s0]) := by
  have hx := hE.1; have hb := hE.2.1
  unfold F_X12_narrowed_j37 at hF
  obtain rfl := Option.some.inj hF
  exact x_iret hE hD ⟨rfl, rfl⟩ (by omega) (by omega) dX12_narrowed_37
def F_X12_narrowed (xa : Int32) (xb : Int32) : Option Int32 := if xa = 0 then F_X12_narrowed_j37 xb.toInt8.toInt32 else if xa = (1 : Int32) then F_X12_narrowed_j37 xb.toInt16.toInt32 else if xa = (4 : Int32) then if xb = 0 then F_X12_narrowed_j37 (0 : Int32) else F_X12_narrowed_j37 (1 : Int32) else F_X12_narrowed_j37 xb
theorem c_X12_narrowed {l : Launch} {G : xG} {w : xW} {sz : Nat} {rr : Int32} {xa : Int32} {xb : Int32} (hF : F_X12_narrowed xa xb = some rr) : xMi l G yX12_narrowed cX12_narrowed 2 (Option.some Jvm.ClassFile.FieldType.int) 1 0 0 [.int xa, .int xb] w sz (fun r z => r = rr ∧ z = (w, sz)) := by
  unfold F_X12_narrowed at hF
  refine x_startI rfl (Nat.le_of_ble_eq_true rfl) (fun p e s m args below meth cd ls hE hnm hl hD => ?_)
  have hx := hE.1; have hb := hE.2.1
  have hl : lv_has ls 2 [(0, .int xa), (1, .int xb)] := hl
  refine lv_iload_n hx hb dX12_narrowed_0 rfl (lv_at hl 0 rfl) ?_
  refine lv_if_ne (tgt := 9) hx hb dX12_narrowed_1 (by decide) (fun c1 => ?_) (fun c1 => ?_)
  · have hF := ite_n hF c1
    refine lv_iload_n hx hb dX12_narrowed_9 rfl (lv_at hl 0 rfl) ?_
    refine lv_iconst (v := (1 : Int32)) hx hb dX12_narrowed_10 (by decide) ?_
    refine lv_icmp_ne (tgt := 19) hx hb dX12_narrowed_11 (by decide) (fun c2 => ?_) (fun c2 => ?_)
    · have hF := ite_n hF c2
      refine lv_iload_n hx hb dX12_narrowed_19 rfl (lv_at hl 0 rfl) ?_
      refine lv_iconst (v := (4 : Int32)) hx hb dX12_narrowed_20 (by decide) ?_
      refine lv_icmp_ne (tgt := 36) hx hb dX12_narrowed_21 (by decide) (fun c3 => ?_) (fun c3 => ?_)
      · have hF := ite_n hF c3
        refine lv_iload_n hx hb dX12_narrowed_36 rfl (lv_at hl 1 rfl) ?_
        exact B_X12_narrowed_j37 hE hD (lv_sub hl [] rfl) hF
      · have hF := ite_p hF c3
        refine lv_iload_n hx hb dX12_narrowed_24 rfl (lv_at hl 1 rfl) ?_
        refine lv_if_ne (tgt := 32) hx hb dX12_narrowed_25 (by decide) (fun c4 => ?_) (fun c4 => ?_)
        · have hF := ite_n hF c4
          refine lv_iconst (v := (1 : Int32)) hx hb dX12_narrowed_32 (by decide) ?_
          refine lv_goto (tgt := 37) hx hb dX12_narrowed_33 (by decide) ?_
          exact B_X12_narrowed_j37 hE hD (lv_sub hl [] rfl) hF
        · have hF := ite_p hF c4
          refine lv_iconst (v := (0 : Int32)) hx hb dX12_narrowed_28 (by decide) ?_
          refine lv_goto (tgt := 37) hx hb dX12_narrowed_29 (by decide) ?_
          exact B_X12_narrowed_j37 hE hD (lv_sub hl [] rfl) hF
    · have hF := ite_p hF c2
      refine lv_iload_n hx hb dX12_narrowed_14 rfl (lv_at hl 1 rfl) ?_
      refine lv_i2s (v := xb.toInt16.toInt32) hx hb dX12_narrowed_15 rfl ?_
      refine lv_goto (tgt := 37) hx hb dX12_narrowed_16 (by decide) ?_
      exact B_X12_narrowed_j37 hE hD (lv_sub hl [] rfl) hF
  · have hF := ite_p hF c1
    refine lv_iload_n hx hb dX12_narrowed_4 rfl (lv_at hl 1 rfl) ?_
    refine lv_i2b (v := xb.toInt8.toInt32) hx hb dX12_narrowed_5 rfl ?_
    refine lv_goto (tgt := 37) hx hb dX12_narrowed_6 (by decide) ?_
    exact B_X12_narrowed_j37 hE hD (lv_sub hl [] rfl) hF
def F_X12_write (u : xS) (xa : Int32) (xb : Int32) (xc : Int32) : Option (Int32 × xS) := (F_X12_isOne xa).bind (fun r1 => if r1 = 0 then some ((-1 : Int32), u) else if xIn xa 4 then if 0 ≤ (u.2.1 25 xa.toNatClampNeg) then if xIn xa 4 then (F_X12_in xb.toInt64 (0 : Int64) (((u.2.1 26 xa.toNatClampNeg) - (1 : Int32)).toInt64)).bind (fun r8 => if r8 = 0 then some ((-12 : Int32), u) else if xIn xa 4 then (F_X12_narrowed (u.2.1 25 xa.toNatClampNeg) xc).bind (fun r13 => if xIn (((40 : Int32) * xa) + xb) 160 then xlet (mA u 27 (((40 : Int32) * xa) + xb).toNatClampNeg r13) (fun u16 => some ((1 : Int32), u16)) else none) else none) else none else some ((-11 : Int32), u) else none)
theorem c_X12_write {l : Launch} {G : xG} {b sz : Nat} {rr : (Int32 × xS)} {u : xS} {xa : Int32} {xb : Int32} {xc : Int32} (hF : F_X12_write u xa xb xc = some rr) : xMi l G yX12_write cX12_write 4 (Option.some Jvm.ClassFile.FieldType.int) 3 0 0 [.ref b, .int xa, .int xb, .int xc] (mW G b u) sz (fun r z => r = rr.1 ∧ z = ((mW G b rr.2), sz)) := by
  unfold F_X12_write at hF
  refine x_startI rfl (Nat.le_of_ble_eq_true rfl) (fun p e s m args below meth cd ls hE hnm hl hD => ?_)
  have hx := hE.1; have hb := hE.2.1
  have hl : lv_has ls 4 [(0, .ref b), (1, .int xa), (2, .int xb), (3, .int xc)] := hl
  have hD : mD G (xA (mW G b u) s.heap.size) s.heap b u sz s.heap [] := hD
  refine lv_iload_n hx hb dX12_write_0 rfl (lv_at hl 1 rfl) ?_
  obtain ⟨r1, k2, hF⟩ := xb_s hF
  refine kSz (As := [.int xa]) (rest := []) hE hl hD (c_X12_isOne k2) kl_X12_360 rfl rfl (Nat.le_of_ble_eq_true rfl) dX12_write_1 ⟨Nat.le_of_ble_eq_true rfl, Nat.le_of_ble_eq_true rfl⟩ ⟨Nat.le_of_ble_eq_true rfl, Nat.le_of_ble_eq_true rfl⟩ (fun H locs z3 (hD : mD G _ _ b u sz H locs) => ?_)
  refine lv_if_ne (tgt := 9) hx hb dX12_write_4 (by decide) (fun c4 => ?_) (fun c4 => ?_)
  · have hF := ite_n hF c4
    refine lv_aload_n hx hb dX12_write_9 rfl (lv_at hl 0 rfl) ?_
    refine gf_X12_44 hE hD dX12_write_10 ?_
    refine lv_iload_n hx hb dX12_write_13 rfl (lv_at hl 1 rfl) ?_
    obtain ⟨h5, hF⟩ := ite_s hF
    refine ma_ld_25 hE hD h5 dX12_write_14 ?_
    refine lv_if_ge (tgt := 21) hx hb dX12_write_15 (by decide) (fun c6 => ?_) (fun c6 => ?_)
    · have hF := ite_p hF c6
      refine lv_iload_n hx hb dX12_write_21 rfl (lv_at hl 2 rfl) ?_
      refine lv_i2l (v := xb.toInt64) hx hb dX12_write_22 rfl ?_
      refine lv_lconst (v := (0 : Int64)) hx hb dX12_write_23 (by decide) ?_
      refine lv_aload_n hx hb dX12_write_24 rfl (lv_at hl 0 rfl) ?_
      refine gf_X12_47 hE hD dX12_write_25 ?_
      refine lv_iload_n hx hb dX12_write_28 rfl (lv_at hl 1 rfl) ?_
      obtain ⟨h7, hF⟩ := ite_s hF
      refine ma_ld_26 hE hD h7 dX12_write_29 ?_
      refine lv_iconst (v := (1 : Int32)) hx hb dX12_write_30 (by decide) ?_
      refine lv_isub hx hb dX12_write_31 ?_
      refine lv_i2l (v := ((u.2.1 26 xa.toNatClampNeg) - (1 : Int32)).toInt64) hx hb dX12_write_32 rfl ?_
      obtain ⟨r8, k9, hF⟩ := xb_s hF
      refine kSz (As := [.long xb.toInt64, .long (0 : Int64), .long (((u.2.1 26 xa.toNatClampNeg) - (1 : Int32)).toInt64)]) (rest := []) hE hl hD (c_X12_in k9) kl_X12_67 rfl rfl (Nat.le_of_ble_eq_true rfl) dX12_write_33 ⟨Nat.le_of_ble_eq_true rfl, Nat.le_of_ble_eq_true rfl⟩ ⟨Nat.le_of_ble_eq_true rfl, Nat.le_of_ble_eq_true rfl⟩ (fun H locs z10 (hD : mD G _ _ b u sz H locs) => ?_)
      refine lv_if_ne (tgt := 42) hx hb dX12_write_36 (by decide) (fun c11 => ?_) (fun c11 => ?_)
      · have hF := ite_n hF c11
        refine lv_aload_n hx hb dX12_write_42 rfl (lv_at hl 0 rfl) ?_
        refine gf_X12_50 hE hD dX12_write_43 ?_
        refine lv_bipush (v := (40 : Int32)) hx hb dX12_write_46 (by decide) ?_
        refine lv_iload_n hx hb dX12_write_48 rfl (lv_at hl 1 rfl) ?_
        refine lv_imul hx hb dX12_write_49 ?_
        refine lv_iload_n hx hb dX12_write_50 rfl (lv_at hl 2 rfl) ?_
        refine lv_iadd hx hb dX12_write_51 ?_
        refine lv_aload_n hx hb dX12_write_52 rfl (lv_at hl 0 rfl) ?_
        refine gf_X12_44 hE hD dX12_write_53 ?_
        refine lv_iload_n hx hb dX12_write_56 rfl (lv_at hl 1 rfl) ?_
        obtain ⟨h12, hF⟩ := ite_s hF
        refine ma_ld_25 hE hD h12 dX12_write_57 ?_
        refine lv_iload_n hx hb dX12_write_58 rfl (lv_at hl 3 rfl) ?_
        obtain ⟨r13, k14, hF⟩ := xb_s hF
        refine kSi (As := [.int (u.2.1 25 xa.toNatClampNeg), .int xc]) (rest := [.int (((40 : Int32) * xa) + xb), .ref (b + 14)]) hE hl hD (c_X12_narrowed k14) kl_X12_363 rfl rfl (Nat.le_of_ble_eq_true rfl) dX12_write_59 ⟨Nat.le_of_ble_eq_true rfl, Nat.le_of_ble_eq_true rfl⟩ ⟨Nat.le_of_ble_eq_true rfl, Nat.le_of_ble_eq_true rfl⟩ (fun H locs (hD : mD G _ _ b u sz H locs) => ?_)
        obtain ⟨h15, hF⟩ := ite_s hF
        refine ma_st_27 hE hD h15 dX12_write_62 (fun u16 H locs eu16 hD => ?_)
        have hF := xlet_e hF eu16
        refine lv_iconst (v := (1 : Int32)) hx hb dX12_write_63 (by decide) ?_
        obtain rfl := Option.some.inj hF
        exact x_iret hE hD ⟨rfl, rfl⟩ (by omega) (by omega) dX12_write_64
      · have hF := ite_p hF c11
        refine lv_bipush (v := (-12 : Int32)) hx hb dX12_write_39 (by decide) ?_
        obtain rfl := Option.some.inj hF
        exact x_iret hE hD ⟨rfl, rfl⟩ (by omega) (by omega) dX12_write_41
    · have hF := ite_n hF c6
      refine lv_bipush (v := (-11 : Int32)) hx hb dX12_write_18 (by decide) ?_
      obtain rfl := Option.some.inj hF
      exact x_iret hE hD ⟨rfl, rfl⟩ (by omega) (by omega) dX12_write_20
  · have hF := ite_p hF c4
    refine lv_iconst (v := (-1 : Int32)) hx hb dX12_write_7 (by decide) ?_
    obtain rfl := Option.some.inj hF
    exact x_iret hE hD ⟨rfl, rfl⟩ (by omega) (by omega) dX12_write_8
def F_X12_wrong_j30 (u : xS) (s0 : Int32) : Option Int32 := some s0
theorem B_X12_wrong_j30 {p : Program} {l : Launch} {e : Env} {s : State} {m : MethodId} {args : Array Value} {below : List Frame} {meth : Method} {cd : Code} {G : xG} {w0 : xW} {b sz : Nat} {rr : Int32} (hE : xE p s m args meth cd cX12_wrong RX12 G 3 (Option.some Jvm.ClassFile.FieldType.int)) {u : xS} {s0 : Int32} {H : Heap} {locs : List Loc} {ls : Array Slot} (hD : mD G (xA w0 s.heap.size) s.heap b u sz H locs) (hl : lv_has ls 3 [(0, .ref b)]) (hF : F_X12_wrong_j30 u s0 = some rr) : W p l e (xR 1 0 0) s m args below meth cd H locs 0 0 (xQi G w0 (fun r z => r = rr ∧ z = ((mW G b u), sz)) below args s 0 0) (F0 m 30 ls [.int s0]) := by
  have hx := hE.1; have hb := hE.2.1
  unfold F_X12_wrong_j30 at hF
  obtain rfl := Option.some.inj hF
  exact x_iret hE hD ⟨rfl, rfl⟩ (by omega) (by omega) dX12_wrong_30
def F_X12_wrong (u : xS) (xa : Int32) (xb : Int32) : Option Int32 := if xIn xa 4 then if 0 ≤ (u.2.1 25 xa.toNatClampNeg) then if xIn xa 4 then if (u.2.1 25 xa.toNatClampNeg) = xb then F_X12_wrong_j30 u (0 : Int32) else F_X12_wrong_j30 u (-13 : Int32) else none else F_X12_wrong_j30 u (-11 : Int32) else none
theorem c_X12_wrong {l : Launch} {G : xG} {b sz : Nat} {rr : Int32} {u : xS} {xa : Int32} {xb : Int32} (hF : F_X12_wrong u xa xb = some rr) : xMi l G yX12_wrong cX12_wrong 3 (Option.some Jvm.ClassFile.FieldType.int) 1 0 0 [.ref b, .int xa, .int xb] (mW G b u) sz (fun r z => r = rr ∧ z = ((mW G b u), sz)) := by
  unfold F_X12_wrong at hF
  refine x_startI rfl (Nat.le_of_ble_eq_true rfl) (fun p e s m args below meth cd ls hE hnm hl hD => ?_)
  have hx := hE.1; have hb := hE.2.1
  have hl : lv_has ls 3 [(0, .ref b), (1, .int xa), (2, .int xb)] := hl
  have hD : mD G (xA (mW G b u) s.heap.size) s.heap b u sz s.heap [] := hD
  refine lv_aload_n hx hb dX12_wrong_0 rfl (lv_at hl 0 rfl) ?_
  refine gf_X12_44 hE hD dX12_wrong_1 ?_
  refine lv_iload_n hx hb dX12_wrong_4 rfl (lv_at hl 1 rfl) ?_
  obtain ⟨h1, hF⟩ := ite_s hF
  refine ma_ld_25 hE hD h1 dX12_wrong_5 ?_
  refine lv_if_ge (tgt := 14) hx hb dX12_wrong_6 (by decide) (fun c2 => ?_) (fun c2 => ?_)
  · have hF := ite_p hF c2
    refine lv_aload_n hx hb dX12_wrong_14 rfl (lv_at hl 0 rfl) ?_
    refine gf_X12_44 hE hD dX12_wrong_15 ?_
    refine lv_iload_n hx hb dX12_wrong_18 rfl (lv_at hl 1 rfl) ?_
    obtain ⟨h3, hF⟩ := ite_s hF
    refine ma_ld_25 hE hD h3 dX12_wrong_19 ?_
    refine lv_iload_n hx hb dX12_wrong_20 rfl (lv_at hl 2 rfl) ?_
    refine lv_icmp_eq (tgt := 29) hx hb dX12_wrong_21 (by decide) (fun c4 => ?_) (fun c4 => ?_)
    · have hF := ite_p hF c4
      refine lv_iconst (v := (0 : Int32)) hx hb dX12_wrong_29 (by decide) ?_
      exact B_X12_wrong_j30 hE hD (lv_sub hl [0] rfl) hF
    · have hF := ite_n hF c4
      refine lv_bipush (v := (-13 : Int32)) hx hb dX12_wrong_24 (by decide) ?_
      refine lv_goto (tgt := 30) hx hb dX12_wrong_26 (by decide) ?_
      exact B_X12_wrong_j30 hE hD (lv_sub hl [0] rfl) hF
  · have hF := ite_n hF c2
    refine lv_bipush (v := (-11 : Int32)) hx hb dX12_wrong_9 (by decide) ?_
    refine lv_goto (tgt := 30) hx hb dX12_wrong_11 (by decide) ?_
    exact B_X12_wrong_j30 hE hD (lv_sub hl [0] rfl) hF
def F_X12_item_j73 (u : xS) (s0 : Int32) : Option Int32 := some s0
theorem B_X12_item_j73 {p : Program} {l : Launch} {e : Env} {s : State} {m : MethodId} {args : Array Value} {below : List Frame} {meth : Method} {cd : Code} {G : xG} {w0 : xW} {b sz : Nat} {rr : Int32} (hE : xE p s m args meth cd cX12_item RX12 G 5 (Option.some Jvm.ClassFile.FieldType.int)) {u : xS} {s0 : Int32} {H : Heap} {locs : List Loc} {ls : Array Slot} (hD : mD G (xA w0 s.heap.size) s.heap b u sz H locs) (hl : lv_has ls 5 [(0, .ref b)]) (hF : F_X12_item_j73 u s0 = some rr) : W p l e (xR 3 0 0) s m args below meth cd H locs 0 0 (xQi G w0 (fun r z => r = rr ∧ z = ((mW G b u), sz)) below args s 0 0) (F0 m 73 ls [.int s0]) := by
  have hx := hE.1; have hb := hE.2.1
  unfold F_X12_item_j73 at hF
  obtain rfl := Option.some.inj hF
  exact x_iret hE hD ⟨rfl, rfl⟩ (by omega) (by omega) dX12_item_73
def F_X12_item_j19 (u : xS)  : Option Int32 := some (-1 : Int32)
theorem B_X12_item_j19 {p : Program} {l : Launch} {e : Env} {s : State} {m : MethodId} {args : Array Value} {below : List Frame} {meth : Method} {cd : Code} {G : xG} {w0 : xW} {b sz : Nat} {rr : Int32} (hE : xE p s m args meth cd cX12_item RX12 G 5 (Option.some Jvm.ClassFile.FieldType.int)) {u : xS}  {H : Heap} {locs : List Loc} {ls : Array Slot} (hD : mD G (xA w0 s.heap.size) s.heap b u sz H locs) (hl : lv_has ls 5 [(0, .ref b)]) (hF : F_X12_item_j19 u  = some rr) : W p l e (xR 3 0 0) s m args below meth cd H locs 0 0 (xQi G w0 (fun r z => r = rr ∧ z = ((mW G b u), sz)) below args s 0 0) (F0 m 19 ls []) := by
  have hx := hE.1; have hb := hE.2.1
  unfold F_X12_item_j19 at hF
  refine lv_iconst (v := (-1 : Int32)) hx hb dX12_item_19 (by decide) ?_
  obtain rfl := Option.some.inj hF
  exact x_iret hE hD ⟨rfl, rfl⟩ (by omega) (by omega) dX12_item_20
def F_X12_item (u : xS) (xa : Int32) (xb : Int32) (xc : Int32) : Option Int32 := (F_X12_isOne xa).bind (fun r1 => if r1 = 0 then F_X12_item_j19 u else (F_X12_in xb.toInt64 (0 : Int64) (4 : Int64)).bind (fun r5 => if r5 = 0 then F_X12_item_j19 u else (F_X12_wrong u xa xb).bind (fun r9 => if r9 = 0 then if xIn xa 4 then (F_X12_in xc.toInt64 (0 : Int64) (((u.2.1 26 xa.toNatClampNeg) - (1 : Int32)).toInt64)).bind (fun r13 => if r13 = 0 then F_X12_item_j73 u (-12 : Int32) else if xIn (((40 : Int32) * xa) + xc) 160 then F_X12_item_j73 u (u.2.1 27 (((40 : Int32) * xa) + xc).toNatClampNeg) else none) else none else F_X12_item_j73 u r9)))
theorem c_X12_item {l : Launch} {G : xG} {b sz : Nat} {rr : Int32} {u : xS} {xa : Int32} {xb : Int32} {xc : Int32} (hF : F_X12_item u xa xb xc = some rr) : xMi l G yX12_item cX12_item 5 (Option.some Jvm.ClassFile.FieldType.int) 3 0 0 [.ref b, .int xa, .int xb, .int xc] (mW G b u) sz (fun r z => r = rr ∧ z = ((mW G b u), sz)) := by
  unfold F_X12_item at hF
  refine x_startI rfl (Nat.le_of_ble_eq_true rfl) (fun p e s m args below meth cd ls hE hnm hl hD => ?_)
  have hx := hE.1; have hb := hE.2.1
  have hl : lv_has ls 5 [(0, .ref b), (1, .int xa), (2, .int xb), (3, .int xc)] := hl
  have hD : mD G (xA (mW G b u) s.heap.size) s.heap b u sz s.heap [] := hD
  refine lv_iload_n hx hb dX12_item_0 rfl (lv_at hl 1 rfl) ?_
  obtain ⟨r1, k2, hF⟩ := xb_s hF
  refine kSz (As := [.int xa]) (rest := []) hE hl hD (c_X12_isOne k2) kl_X12_360 rfl rfl (Nat.le_of_ble_eq_true rfl) dX12_item_1 ⟨Nat.le_of_ble_eq_true rfl, Nat.le_of_ble_eq_true rfl⟩ ⟨Nat.le_of_ble_eq_true rfl, Nat.le_of_ble_eq_true rfl⟩ (fun H locs z3 (hD : mD G _ _ b u sz H locs) => ?_)
  refine lv_if_eq (tgt := 19) hx hb dX12_item_4 (by decide) (fun c4 => ?_) (fun c4 => ?_)
  · have hF := ite_p hF c4
    exact B_X12_item_j19 hE hD (lv_sub hl [0] rfl) hF
  · have hF := ite_n hF c4
    refine lv_iload_n hx hb dX12_item_7 rfl (lv_at hl 2 rfl) ?_
    refine lv_i2l (v := xb.toInt64) hx hb dX12_item_8 rfl ?_
    refine lv_lconst (v := (0 : Int64)) hx hb dX12_item_9 (by decide) ?_
    refine lv_ldc2 (v := (4 : Int64)) hx hb hE.2.2.1 (hE.2.2.2.1 _ kw7_27) dX12_item_10 ?_
    obtain ⟨r5, k6, hF⟩ := xb_s hF
    refine kSz (As := [.long xb.toInt64, .long (0 : Int64), .long (4 : Int64)]) (rest := []) hE hl hD (c_X12_in k6) kl_X12_67 rfl rfl (Nat.le_of_ble_eq_true rfl) dX12_item_13 ⟨Nat.le_of_ble_eq_true rfl, Nat.le_of_ble_eq_true rfl⟩ ⟨Nat.le_of_ble_eq_true rfl, Nat.le_of_ble_eq_true rfl⟩ (fun H locs z7 (hD : mD G _ _ b u sz H locs) => ?_)
    refine lv_if_ne (tgt := 21) hx hb dX12_item_16 (by decide) (fun c8 => ?_) (fun c8 => ?_)
    · have hF := ite_n hF c8
      refine lv_aload_n hx hb dX12_item_21 rfl (lv_at hl 0 rfl) ?_
      refine lv_iload_n hx hb dX12_item_22 rfl (lv_at hl 1 rfl) ?_
      refine lv_iload_n hx hb dX12_item_23 rfl (lv_at hl 2 rfl) ?_
      obtain ⟨r9, k10, hF⟩ := xb_s hF
      refine kVi (As := [.int xa, .int xb]) (rest := []) hE hl hD (c_X12_wrong (b := b) k10) kl_X12_366 (mW_0 _ _ _) rfl rfl rfl rfl (Nat.le_of_ble_eq_true rfl) dX12_item_24 ⟨Nat.le_of_ble_eq_true rfl, Nat.le_of_ble_eq_true rfl⟩ ⟨Nat.le_of_ble_eq_true rfl, Nat.le_of_ble_eq_true rfl⟩ (fun H locs (hD : mD G _ _ b u sz H locs) => ?_)
      refine lv_istore (lv' := [(4, .int r9), (0, .ref b), (1, .int xa), (2, .int xb), (3, .int xc)]) hx hb dX12_item_27 hl (by decide) rfl (fun ls hl => ?_)
      refine lv_iload hx hb dX12_item_29 (lv_at hl 0 rfl) ?_
      refine lv_if_eq (tgt := 39) hx hb dX12_item_31 (by decide) (fun c11 => ?_) (fun c11 => ?_)
      · have hF := ite_p hF c11
        refine lv_iload_n hx hb dX12_item_39 rfl (lv_at hl 4 rfl) ?_
        refine lv_i2l (v := xc.toInt64) hx hb dX12_item_40 rfl ?_
        refine lv_lconst (v := (0 : Int64)) hx hb dX12_item_41 (by decide) ?_
        refine lv_aload_n hx hb dX12_item_42 rfl (lv_at hl 1 rfl) ?_
        refine gf_X12_47 hE hD dX12_item_43 ?_
        refine lv_iload_n hx hb dX12_item_46 rfl (lv_at hl 2 rfl) ?_
        obtain ⟨h12, hF⟩ := ite_s hF
        refine ma_ld_26 hE hD h12 dX12_item_47 ?_
        refine lv_iconst (v := (1 : Int32)) hx hb dX12_item_48 (by decide) ?_
        refine lv_isub hx hb dX12_item_49 ?_
        refine lv_i2l (v := ((u.2.1 26 xa.toNatClampNeg) - (1 : Int32)).toInt64) hx hb dX12_item_50 rfl ?_
        obtain ⟨r13, k14, hF⟩ := xb_s hF
        refine kSz (As := [.long xc.toInt64, .long (0 : Int64), .long (((u.2.1 26 xa.toNatClampNeg) - (1 : Int32)).toInt64)]) (rest := []) hE hl hD (c_X12_in k14) kl_X12_67 rfl rfl (Nat.le_of_ble_eq_true rfl) dX12_item_51 ⟨Nat.le_of_ble_eq_true rfl, Nat.le_of_ble_eq_true rfl⟩ ⟨Nat.le_of_ble_eq_true rfl, Nat.le_of_ble_eq_true rfl⟩ (fun H locs z15 (hD : mD G _ _ b u sz H locs) => ?_)
        refine lv_if_eq (tgt := 71) hx hb dX12_item_54 (by decide) (fun c16 => ?_) (fun c16 => ?_)
        · have hF := ite_p hF c16
          refine lv_bipush (v := (-12 : Int32)) hx hb dX12_item_71 (by decide) ?_
          exact B_X12_item_j73 hE hD (lv_sub hl [1] rfl) hF
        · have hF := ite_n hF c16
          refine lv_aload_n hx hb dX12_item_57 rfl (lv_at hl 1 rfl) ?_
          refine gf_X12_50 hE hD dX12_item_58 ?_
          refine lv_bipush (v := (40 : Int32)) hx hb dX12_item_61 (by decide) ?_
          refine lv_iload_n hx hb dX12_item_63 rfl (lv_at hl 2 rfl) ?_
          refine lv_imul hx hb dX12_item_64 ?_
          refine lv_iload_n hx hb dX12_item_65 rfl (lv_at hl 4 rfl) ?_
          refine lv_iadd hx hb dX12_item_66 ?_
          obtain ⟨h17, hF⟩ := ite_s hF
          refine ma_ld_27 hE hD h17 dX12_item_67 ?_
          refine lv_goto (tgt := 73) hx hb dX12_item_68 (by decide) ?_
          exact B_X12_item_j73 hE hD (lv_sub hl [1] rfl) hF
      · have hF := ite_n hF c11
        refine lv_iload hx hb dX12_item_34 (lv_at hl 0 rfl) ?_
        refine lv_goto (tgt := 73) hx hb dX12_item_36 (by decide) ?_
        exact B_X12_item_j73 hE hD (lv_sub hl [1] rfl) hF
    · have hF := ite_p hF c8
      exact B_X12_item_j19 hE hD (lv_sub hl [0] rfl) hF
def F_X12_walks_j113 (k52 : xS → Int32 → Int32 → Int32 → Int32 → Int32 → Int32 → Option (Int32 × xS)) (u : xS) (y1 : Int32) (y2 : Int32) (y3 : Int32) (y4 : Int32) (y7 : Int32) (s0 : Int32) (s1 : Int32) : Option (Int32 × xS) := xlet (s0 + s1) (fun x1 => xlet (y7 + (1 : Int32)) (fun x2 => k52 u y1 y2 y3 y4 x1 x2))
theorem B_X12_walks_j113 {p : Program} {l : Launch} {e : Env} {s : State} {m : MethodId} {args : Array Value} {below : List Frame} {meth : Method} {cd : Code} {G : xG} {w0 : xW} {b sz : Nat} {rr : (Int32 × xS)} (hE : xE p s m args meth cd cX12_walks RX12 G 8 (Option.some Jvm.ClassFile.FieldType.int)) {u : xS} (k52 : xS → Int32 → Int32 → Int32 → Int32 → Int32 → Int32 → Option (Int32 × xS)) (h52 : ∀ {u1 : xS} {y1 : Int32} {y2 : Int32} {y3 : Int32} {y4 : Int32} {y6 : Int32} {y7 : Int32} {H : Heap} {locs : List Loc} {ls : Array Slot}, mD G (xA w0 s.heap.size) s.heap b u1 sz H locs → lv_has ls 8 [(0, .ref b), (1, .int y1), (2, .int y2), (3, .int y3), (4, .int y4), (6, .int y6), (7, .int y7)] → k52 u1 y1 y2 y3 y4 y6 y7 = some rr → W p l e (xR 8 0 0) s m args below meth cd H locs 0 0 (xQi G w0 (fun r z => r = rr.1 ∧ z = ((mW G b rr.2), sz)) below args s 0 0) (F0 m 52 ls [])) {y1 : Int32} {y2 : Int32} {y3 : Int32} {y4 : Int32} {y7 : Int32} {s0 : Int32} {s1 : Int32} {H : Heap} {locs : List Loc} {ls : Array Slot} (hD : mD G (xA w0 s.heap.size) s.heap b u sz H locs) (hl : lv_has ls 8 [(0, .ref b), (1, .int y1), (2, .int y2), (3, .int y3), (4, .int y4), (7, .int y7)]) (hF : F_X12_walks_j113 k52 u y1 y2 y3 y4 y7 s0 s1 = some rr) : W p l e (xR 8 0 0) s m args below meth cd H locs 0 0 (xQi G w0 (fun r z => r = rr.1 ∧ z = ((mW G b rr.2), sz)) below args s 0 0) (F0 m 113 ls [.int s1, .int s0]) := by
  have hx := hE.1; have hb := hE.2.1
  unfold F_X12_walks_j113 at hF
  refine lv_iadd hx hb dX12_walks_113 ?_
  refine lv_topi (fun x1 ex1 => ?_)
  have hF := xlet_e hF ex1
  refine lv_istore (lv' := [(6, .int x1), (0, .ref b), (1, .int y1), (2, .int y2), (3, .int y3), (4, .int y4), (7, .int y7)]) hx hb dX12_walks_114 hl (by decide) rfl (fun ls hl => ?_)
  obtain ⟨x2, ex2⟩ : ∃ y : Int32, y = y7 + (1 : Int32) := ⟨_, rfl⟩
  have hF := xlet_e hF ex2
  refine lv_iinc (v := x2) (lv' := [(7, .int x2), (6, .int x1), (0, .ref b), (1, .int y1), (2, .int y2), (3, .int y3), (4, .int y4)]) hx hb dX12_walks_116 hl (k := 6) rfl (by rw [ex2]; rfl) (by decide) rfl (fun ls hl => ?_)
  refine lv_goto (tgt := 52) hx hb dX12_walks_119 (by decide) ?_
  exact h52 hD (lv_sub hl [2, 3, 4, 5, 6, 1, 0] rfl) hF
def F_X12_walks_l52 : Nat → xS → Int32 → Int32 → Int32 → Int32 → Int32 → Int32 → Option (Int32 × xS)
  | 0, _, _, _, _, _, _, _ => none
  | nn + 1, u, y1, y2, y3, y4, y6, y7 => if y4 ≤ y7 then some (y6, u) else if xIn y2 4 then (F_X12_in (y3.toInt64 + y7.toInt64) (0 : Int64) (((u.2.1 26 y2.toNatClampNeg) - (1 : Int32)).toInt64)).bind (fun r5 => if r5 = 0 then some ((-12 : Int32), u) else if xIn ((((40 : Int32) * y2) + y3) + y7) 160 then (F_X12_cross u y1 (u.2.1 27 ((((40 : Int32) * y2) + y3) + y7).toNatClampNeg)).bind (fun r10 => if r10.1 < 0 then F_X12_walks_j113 (F_X12_walks_l52 nn) r10.2 y1 y2 y3 y4 y7 y6 (0 : Int32) else F_X12_walks_j113 (F_X12_walks_l52 nn) r10.2 y1 y2 y3 y4 y7 y6 (1 : Int32)) else none) else none
theorem L_X12_walks_l52 {p : Program} {l : Launch} {e : Env} {s : State} {m : MethodId} {args : Array Value} {below : List Frame} {meth : Method} {cd : Code} {G : xG} {w0 : xW} {b sz : Nat} {rr : (Int32 × xS)} (hE : xE p s m args meth cd cX12_walks RX12 G 8 (Option.some Jvm.ClassFile.FieldType.int)) : ∀ (nn : Nat) {u : xS} {y1 : Int32} {y2 : Int32} {y3 : Int32} {y4 : Int32} {y6 : Int32} {y7 : Int32} {H : Heap} {locs : List Loc} {ls : Array Slot}, mD G (xA w0 s.heap.size) s.heap b u sz H locs → lv_has ls 8 [(0, .ref b), (1, .int y1), (2, .int y2), (3, .int y3), (4, .int y4), (6, .int y6), (7, .int y7)] → F_X12_walks_l52 nn u y1 y2 y3 y4 y6 y7 = some rr → W p l e (xR 8 0 0) s m args below meth cd H locs 0 0 (xQi G w0 (fun r z => r = rr.1 ∧ z = ((mW G b rr.2), sz)) below args s 0 0) (F0 m 52 ls []) := by
  have hx := hE.1; have hb := hE.2.1
  intro nn
  induction nn with
  | zero => intro u y1 y2 y3 y4 y6 y7 H locs ls hD hl hF; rw [F_X12_walks_l52] at hF; cases hF
  | succ nn ih =>
    intro u y1 y2 y3 y4 y6 y7 H locs ls hD hl hF
    rw [F_X12_walks_l52] at hF
    refine lv_iload hx hb dX12_walks_52 (lv_at hl 6 rfl) ?_
    refine lv_iload hx hb dX12_walks_54 (lv_at hl 4 rfl) ?_
    refine lv_icmp_ge (tgt := 122) hx hb dX12_walks_56 (by decide) (fun c3 => ?_) (fun c3 => ?_)
    · have hF := ite_p hF c3
      refine lv_iload hx hb dX12_walks_122 (lv_at hl 5 rfl) ?_
      obtain rfl := Option.some.inj hF
      exact x_iret hE hD ⟨rfl, rfl⟩ (by omega) (by omega) dX12_walks_124
    · have hF := ite_n hF c3
      refine lv_iload_n hx hb dX12_walks_59 rfl (lv_at hl 3 rfl) ?_
      refine lv_i2l (v := y3.toInt64) hx hb dX12_walks_60 rfl ?_
      refine lv_iload hx hb dX12_walks_61 (lv_at hl 6 rfl) ?_
      refine lv_i2l (v := y7.toInt64) hx hb dX12_walks_63 rfl ?_
      refine lv_ladd hx hb dX12_walks_64 ?_
      refine lv_lconst (v := (0 : Int64)) hx hb dX12_walks_65 (by decide) ?_
      refine lv_aload_n hx hb dX12_walks_66 rfl (lv_at hl 0 rfl) ?_
      refine gf_X12_47 hE hD dX12_walks_67 ?_
      refine lv_iload_n hx hb dX12_walks_70 rfl (lv_at hl 2 rfl) ?_
      obtain ⟨h4, hF⟩ := ite_s hF
      refine ma_ld_26 hE hD h4 dX12_walks_71 ?_
      refine lv_iconst (v := (1 : Int32)) hx hb dX12_walks_72 (by decide) ?_
      refine lv_isub hx hb dX12_walks_73 ?_
      refine lv_i2l (v := ((u.2.1 26 y2.toNatClampNeg) - (1 : Int32)).toInt64) hx hb dX12_walks_74 rfl ?_
      obtain ⟨r5, k6, hF⟩ := xb_s hF
      refine kSz (As := [.long (y3.toInt64 + y7.toInt64), .long (0 : Int64), .long (((u.2.1 26 y2.toNatClampNeg) - (1 : Int32)).toInt64)]) (rest := []) hE hl hD (c_X12_in k6) kl_X12_67 rfl rfl (Nat.le_of_ble_eq_true rfl) dX12_walks_75 ⟨Nat.le_of_ble_eq_true rfl, Nat.le_of_ble_eq_true rfl⟩ ⟨Nat.le_of_ble_eq_true rfl, Nat.le_of_ble_eq_true rfl⟩ (fun H locs z7 (hD : mD G _ _ b u sz H locs) => ?_)
      refine lv_if_ne (tgt := 84) hx hb dX12_walks_78 (by decide) (fun c8 => ?_) (fun c8 => ?_)
      · have hF := ite_n hF c8
        refine lv_iload hx hb dX12_walks_84 (lv_at hl 5 rfl) ?_
        refine lv_aload_n hx hb dX12_walks_86 rfl (lv_at hl 0 rfl) ?_
        refine lv_iload_n hx hb dX12_walks_87 rfl (lv_at hl 1 rfl) ?_
        refine lv_aload_n hx hb dX12_walks_88 rfl (lv_at hl 0 rfl) ?_
        refine gf_X12_50 hE hD dX12_walks_89 ?_
        refine lv_bipush (v := (40 : Int32)) hx hb dX12_walks_92 (by decide) ?_
        refine lv_iload_n hx hb dX12_walks_94 rfl (lv_at hl 2 rfl) ?_
        refine lv_imul hx hb dX12_walks_95 ?_
        refine lv_iload_n hx hb dX12_walks_96 rfl (lv_at hl 3 rfl) ?_
        refine lv_iadd hx hb dX12_walks_97 ?_
        refine lv_iload hx hb dX12_walks_98 (lv_at hl 6 rfl) ?_
        refine lv_iadd hx hb dX12_walks_100 ?_
        obtain ⟨h9, hF⟩ := ite_s hF
        refine ma_ld_27 hE hD h9 dX12_walks_101 ?_
        obtain ⟨r10, k11, hF⟩ := xb_s hF
        refine kVi (As := [.int y1, .int (u.2.1 27 ((((40 : Int32) * y2) + y3) + y7).toNatClampNeg)]) (rest := [.int y6]) hE hl hD (c_X12_cross (b := b) k11) kl_X12_369 (mW_0 _ _ _) rfl rfl rfl rfl (Nat.le_of_ble_eq_true rfl) dX12_walks_102 ⟨Nat.le_of_ble_eq_true rfl, Nat.le_of_ble_eq_true rfl⟩ ⟨Nat.le_of_ble_eq_true rfl, Nat.le_of_ble_eq_true rfl⟩ (fun H locs (hD : mD G _ _ b r10.2 sz H locs) => ?_)
        refine lv_if_lt (tgt := 112) hx hb dX12_walks_105 (by decide) (fun c12 => ?_) (fun c12 => ?_)
        · have hF := ite_p hF c12
          refine lv_iconst (v := (0 : Int32)) hx hb dX12_walks_112 (by decide) ?_
          exact B_X12_walks_j113 hE (F_X12_walks_l52 nn) ih hD (lv_sub hl [0, 1, 2, 3, 4, 6] rfl) hF
        · have hF := ite_n hF c12
          refine lv_iconst (v := (1 : Int32)) hx hb dX12_walks_108 (by decide) ?_
          refine lv_goto (tgt := 113) hx hb dX12_walks_109 (by decide) ?_
          exact B_X12_walks_j113 hE (F_X12_walks_l52 nn) ih hD (lv_sub hl [0, 1, 2, 3, 4, 6] rfl) hF
      · have hF := ite_p hF c8
        refine lv_bipush (v := (-12 : Int32)) hx hb dX12_walks_81 (by decide) ?_
        obtain rfl := Option.some.inj hF
        exact x_iret hE hD ⟨rfl, rfl⟩ (by omega) (by omega) dX12_walks_83
def F_X12_walks_j28 (u : xS)  : Option (Int32 × xS) := some ((-1 : Int32), u)
theorem B_X12_walks_j28 {p : Program} {l : Launch} {e : Env} {s : State} {m : MethodId} {args : Array Value} {below : List Frame} {meth : Method} {cd : Code} {G : xG} {w0 : xW} {b sz : Nat} {rr : (Int32 × xS)} (hE : xE p s m args meth cd cX12_walks RX12 G 8 (Option.some Jvm.ClassFile.FieldType.int)) {u : xS}  {H : Heap} {locs : List Loc} {ls : Array Slot} (hD : mD G (xA w0 s.heap.size) s.heap b u sz H locs) (hl : lv_has ls 8 [(0, .ref b)]) (hF : F_X12_walks_j28 u  = some rr) : W p l e (xR 8 0 0) s m args below meth cd H locs 0 0 (xQi G w0 (fun r z => r = rr.1 ∧ z = ((mW G b rr.2), sz)) below args s 0 0) (F0 m 28 ls []) := by
  have hx := hE.1; have hb := hE.2.1
  unfold F_X12_walks_j28 at hF
  refine lv_iconst (v := (-1 : Int32)) hx hb dX12_walks_28 (by decide) ?_
  obtain rfl := Option.some.inj hF
  exact x_iret hE hD ⟨rfl, rfl⟩ (by omega) (by omega) dX12_walks_29
def F_X12_walks (u : xS) (xa : Int32) (xb : Int32) (xc : Int32) (xd : Int32) : Option (Int32 × xS) := (F_X12_isPerson u xa).bind (fun r13 => if r13 = 0 then F_X12_walks_j28 u else (F_X12_isOne xb).bind (fun r17 => if r17 = 0 then F_X12_walks_j28 u else (F_X12_in xd.toInt64 (0 : Int64) (20 : Int64)).bind (fun r21 => if r21 = 0 then F_X12_walks_j28 u else (F_X12_wrong u xb (0 : Int32)).bind (fun r25 => if r25 = 0 then F_X12_walks_l52 xFuel u xa xb xc xd (0 : Int32) (0 : Int32) else some (r25, u)))))
theorem c_X12_walks {l : Launch} {G : xG} {b sz : Nat} {rr : (Int32 × xS)} {u : xS} {xa : Int32} {xb : Int32} {xc : Int32} {xd : Int32} (hF : F_X12_walks u xa xb xc xd = some rr) : xMi l G yX12_walks cX12_walks 8 (Option.some Jvm.ClassFile.FieldType.int) 8 0 0 [.ref b, .int xa, .int xb, .int xc, .int xd] (mW G b u) sz (fun r z => r = rr.1 ∧ z = ((mW G b rr.2), sz)) := by
  unfold F_X12_walks at hF
  refine x_startI rfl (Nat.le_of_ble_eq_true rfl) (fun p e s m args below meth cd ls hE hnm hl hD => ?_)
  have hx := hE.1; have hb := hE.2.1
  have hl : lv_has ls 8 [(0, .ref b), (1, .int xa), (2, .int xb), (3, .int xc), (4, .int xd)] := hl
  have hD : mD G (xA (mW G b u) s.heap.size) s.heap b u sz s.heap [] := hD
  refine lv_aload_n hx hb dX12_walks_0 rfl (lv_at hl 0 rfl) ?_
  refine lv_iload_n hx hb dX12_walks_1 rfl (lv_at hl 1 rfl) ?_
  obtain ⟨r13, k14, hF⟩ := xb_s hF
  refine kVz (As := [.int xa]) (rest := []) hE hl hD (c_X12_isPerson (b := b) k14) kl_X12_138 (mW_0 _ _ _) rfl rfl rfl rfl (Nat.le_of_ble_eq_true rfl) dX12_walks_2 ⟨Nat.le_of_ble_eq_true rfl, Nat.le_of_ble_eq_true rfl⟩ ⟨Nat.le_of_ble_eq_true rfl, Nat.le_of_ble_eq_true rfl⟩ (fun H locs z15 (hD : mD G _ _ b u sz H locs) => ?_)
  refine lv_if_eq (tgt := 28) hx hb dX12_walks_5 (by decide) (fun c16 => ?_) (fun c16 => ?_)
  · have hF := ite_p hF c16
    exact B_X12_walks_j28 hE hD (lv_sub hl [0] rfl) hF
  · have hF := ite_n hF c16
    refine lv_iload_n hx hb dX12_walks_8 rfl (lv_at hl 2 rfl) ?_
    obtain ⟨r17, k18, hF⟩ := xb_s hF
    refine kSz (As := [.int xb]) (rest := []) hE hl hD (c_X12_isOne k18) kl_X12_360 rfl rfl (Nat.le_of_ble_eq_true rfl) dX12_walks_9 ⟨Nat.le_of_ble_eq_true rfl, Nat.le_of_ble_eq_true rfl⟩ ⟨Nat.le_of_ble_eq_true rfl, Nat.le_of_ble_eq_true rfl⟩ (fun H locs z19 (hD : mD G _ _ b u sz H locs) => ?_)
    refine lv_if_eq (tgt := 28) hx hb dX12_walks_12 (by decide) (fun c20 => ?_) (fun c20 => ?_)
    · have hF := ite_p hF c20
      exact B_X12_walks_j28 hE hD (lv_sub hl [0] rfl) hF
    · have hF := ite_n hF c20
      refine lv_iload hx hb dX12_walks_15 (lv_at hl 4 rfl) ?_
      refine lv_i2l (v := xd.toInt64) hx hb dX12_walks_17 rfl ?_
      refine lv_lconst (v := (0 : Int64)) hx hb dX12_walks_18 (by decide) ?_
      refine lv_ldc2 (v := (20 : Int64)) hx hb hE.2.2.1 (hE.2.2.2.1 _ kw7_12) dX12_walks_19 ?_
      obtain ⟨r21, k22, hF⟩ := xb_s hF
      refine kSz (As := [.long xd.toInt64, .long (0 : Int64), .long (20 : Int64)]) (rest := []) hE hl hD (c_X12_in k22) kl_X12_67 rfl rfl (Nat.le_of_ble_eq_true rfl) dX12_walks_22 ⟨Nat.le_of_ble_eq_true rfl, Nat.le_of_ble_eq_true rfl⟩ ⟨Nat.le_of_ble_eq_true rfl, Nat.le_of_ble_eq_true rfl⟩ (fun H locs z23 (hD : mD G _ _ b u sz H locs) => ?_)
      refine lv_if_ne (tgt := 30) hx hb dX12_walks_25 (by decide) (fun c24 => ?_) (fun c24 => ?_)
      · have hF := ite_n hF c24
        refine lv_aload_n hx hb dX12_walks_30 rfl (lv_at hl 0 rfl) ?_
        refine lv_iload_n hx hb dX12_walks_31 rfl (lv_at hl 2 rfl) ?_
        refine lv_iconst (v := (0 : Int32)) hx hb dX12_walks_32 (by decide) ?_
        obtain ⟨r25, k26, hF⟩ := xb_s hF
        refine kVi (As := [.int xb, .int (0 : Int32)]) (rest := []) hE hl hD (c_X12_wrong (b := b) k26) kl_X12_366 (mW_0 _ _ _) rfl rfl rfl rfl (Nat.le_of_ble_eq_true rfl) dX12_walks_33 ⟨Nat.le_of_ble_eq_true rfl, Nat.le_of_ble_eq_true rfl⟩ ⟨Nat.le_of_ble_eq_true rfl, Nat.le_of_ble_eq_true rfl⟩ (fun H locs (hD : mD G _ _ b u sz H locs) => ?_)
        refine lv_istore (lv' := [(5, .int r25), (0, .ref b), (1, .int xa), (2, .int xb), (3, .int xc), (4, .int xd)]) hx hb dX12_walks_36 hl (by decide) rfl (fun ls hl => ?_)
        refine lv_iload hx hb dX12_walks_38 (lv_at hl 0 rfl) ?_
        refine lv_if_eq (tgt := 46) hx hb dX12_walks_40 (by decide) (fun c27 => ?_) (fun c27 => ?_)
        · have hF := ite_p hF c27
          refine lv_iconst (v := (0 : Int32)) hx hb dX12_walks_46 (by decide) ?_
          refine lv_istore (lv' := [(6, .int (0 : Int32)), (5, .int r25), (0, .ref b), (1, .int xa), (2, .int xb), (3, .int xc), (4, .int xd)]) hx hb dX12_walks_47 hl (by decide) rfl (fun ls hl => ?_)
          refine lv_iconst (v := (0 : Int32)) hx hb dX12_walks_49 (by decide) ?_
          refine lv_istore (lv' := [(7, .int (0 : Int32)), (6, .int (0 : Int32)), (5, .int r25), (0, .ref b), (1, .int xa), (2, .int xb), (3, .int xc), (4, .int xd)]) hx hb dX12_walks_50 hl (by decide) rfl (fun ls hl => ?_)
          exact L_X12_walks_l52 hE _ hD (lv_sub hl [3, 4, 5, 6, 7, 1, 0] rfl) hF
        · have hF := ite_n hF c27
          refine lv_iload hx hb dX12_walks_43 (lv_at hl 0 rfl) ?_
          obtain rfl := Option.some.inj hF
          exact x_iret hE hD ⟨rfl, rfl⟩ (by omega) (by omega) dX12_walks_45
      · have hF := ite_p hF c24
        exact B_X12_walks_j28 hE hD (lv_sub hl [0] rfl) hF
def F_X12_shelf_j127 (u : xS) (s1 : Int32) (s2 : Int32) : Option (Int32 × xS) := if xIn s1 4 then xlet (mA u 30 s1.toNatClampNeg s2) (fun u2 => some ((1 : Int32), u2)) else none
theorem B_X12_shelf_j127 {p : Program} {l : Launch} {e : Env} {s : State} {m : MethodId} {args : Array Value} {below : List Frame} {meth : Method} {cd : Code} {G : xG} {w0 : xW} {b sz : Nat} {rr : (Int32 × xS)} (hE : xE p s m args meth cd cX12_shelf RX12 G 4 (Option.some Jvm.ClassFile.FieldType.int)) {u : xS} {s1 : Int32} {s2 : Int32} {H : Heap} {locs : List Loc} {ls : Array Slot} (hD : mD G (xA w0 s.heap.size) s.heap b u sz H locs) (hl : lv_has ls 4 [(0, .ref b)]) (hF : F_X12_shelf_j127 u s1 s2 = some rr) : W p l e (xR 3 0 0) s m args below meth cd H locs 0 0 (xQi G w0 (fun r z => r = rr.1 ∧ z = ((mW G b rr.2), sz)) below args s 0 0) (F0 m 127 ls [.int s2, .int s1, .ref (b + 17)]) := by
  have hx := hE.1; have hb := hE.2.1
  unfold F_X12_shelf_j127 at hF
  obtain ⟨h1, hF⟩ := ite_s hF
  refine ma_st_30 hE hD h1 dX12_shelf_127 (fun u2 H locs eu2 hD => ?_)
  have hF := xlet_e hF eu2
  refine lv_iconst (v := (1 : Int32)) hx hb dX12_shelf_128 (by decide) ?_
  obtain rfl := Option.some.inj hF
  exact x_iret hE hD ⟨rfl, rfl⟩ (by omega) (by omega) dX12_shelf_129
def F_X12_shelf_j106 (u : xS) (y1 : Int32) (y2 : Int32) (y3 : Int32) (s1 : Int32) (s2 : Int32) : Option (Int32 × xS) := if xIn s1 4 then xlet (mA u 29 s1.toNatClampNeg s2) (fun u4 => if y2 = (1 : Int32) then if xIn y3 4 then F_X12_shelf_j127 u4 y1 (u4.2.1 25 y3.toNatClampNeg) else none else F_X12_shelf_j127 u4 y1 (0 : Int32)) else none
theorem B_X12_shelf_j106 {p : Program} {l : Launch} {e : Env} {s : State} {m : MethodId} {args : Array Value} {below : List Frame} {meth : Method} {cd : Code} {G : xG} {w0 : xW} {b sz : Nat} {rr : (Int32 × xS)} (hE : xE p s m args meth cd cX12_shelf RX12 G 4 (Option.some Jvm.ClassFile.FieldType.int)) {u : xS} {y1 : Int32} {y2 : Int32} {y3 : Int32} {s1 : Int32} {s2 : Int32} {H : Heap} {locs : List Loc} {ls : Array Slot} (hD : mD G (xA w0 s.heap.size) s.heap b u sz H locs) (hl : lv_has ls 4 [(0, .ref b), (1, .int y1), (2, .int y2), (3, .int y3)]) (hF : F_X12_shelf_j106 u y1 y2 y3 s1 s2 = some rr) : W p l e (xR 3 0 0) s m args below meth cd H locs 0 0 (xQi G w0 (fun r z => r = rr.1 ∧ z = ((mW G b rr.2), sz)) below args s 0 0) (F0 m 106 ls [.int s2, .int s1, .ref (b + 16)]) := by
  have hx := hE.1; have hb := hE.2.1
  unfold F_X12_shelf_j106 at hF
  obtain ⟨h3, hF⟩ := ite_s hF
  refine ma_st_29 hE hD h3 dX12_shelf_106 (fun u4 H locs eu4 hD => ?_)
  have hF := xlet_e hF eu4
  refine lv_aload_n hx hb dX12_shelf_107 rfl (lv_at hl 0 rfl) ?_
  refine gf_X12_59 hE hD dX12_shelf_108 ?_
  refine lv_iload_n hx hb dX12_shelf_111 rfl (lv_at hl 1 rfl) ?_
  refine lv_iload_n hx hb dX12_shelf_112 rfl (lv_at hl 2 rfl) ?_
  refine lv_iconst (v := (1 : Int32)) hx hb dX12_shelf_113 (by decide) ?_
  refine lv_icmp_ne (tgt := 126) hx hb dX12_shelf_114 (by decide) (fun c5 => ?_) (fun c5 => ?_)
  · have hF := ite_n hF c5
    refine lv_iconst (v := (0 : Int32)) hx hb dX12_shelf_126 (by decide) ?_
    exact B_X12_shelf_j127 hE hD (lv_sub hl [0] rfl) hF
  · have hF := ite_p hF c5
    refine lv_aload_n hx hb dX12_shelf_117 rfl (lv_at hl 0 rfl) ?_
    refine gf_X12_44 hE hD dX12_shelf_118 ?_
    refine lv_iload_n hx hb dX12_shelf_121 rfl (lv_at hl 3 rfl) ?_
    obtain ⟨h6, hF⟩ := ite_s hF
    refine ma_ld_25 hE hD h6 dX12_shelf_122 ?_
    refine lv_goto (tgt := 127) hx hb dX12_shelf_123 (by decide) ?_
    exact B_X12_shelf_j127 hE hD (lv_sub hl [0] rfl) hF
def F_X12_shelf_j77 (u : xS) (y1 : Int32) (y2 : Int32) (y3 : Int32) (s1 : Int32) (s2 : Int32) : Option (Int32 × xS) := if xIn s1 4 then xlet (mA u 28 s1.toNatClampNeg s2) (fun u8 => if y2 = 0 then F_X12_shelf_j106 u8 y1 y2 y3 y1 y3 else if y2 = (1 : Int32) then if xIn y3 4 then F_X12_shelf_j106 u8 y1 y2 y3 y1 (u8.2.1 26 y3.toNatClampNeg) else none else F_X12_shelf_j106 u8 y1 y2 y3 y1 (0 : Int32)) else none
theorem B_X12_shelf_j77 {p : Program} {l : Launch} {e : Env} {s : State} {m : MethodId} {args : Array Value} {below : List Frame} {meth : Method} {cd : Code} {G : xG} {w0 : xW} {b sz : Nat} {rr : (Int32 × xS)} (hE : xE p s m args meth cd cX12_shelf RX12 G 4 (Option.some Jvm.ClassFile.FieldType.int)) {u : xS} {y1 : Int32} {y2 : Int32} {y3 : Int32} {s1 : Int32} {s2 : Int32} {H : Heap} {locs : List Loc} {ls : Array Slot} (hD : mD G (xA w0 s.heap.size) s.heap b u sz H locs) (hl : lv_has ls 4 [(0, .ref b), (1, .int y1), (2, .int y2), (3, .int y3)]) (hF : F_X12_shelf_j77 u y1 y2 y3 s1 s2 = some rr) : W p l e (xR 3 0 0) s m args below meth cd H locs 0 0 (xQi G w0 (fun r z => r = rr.1 ∧ z = ((mW G b rr.2), sz)) below args s 0 0) (F0 m 77 ls [.int s2, .int s1, .ref (b + 15)]) := by
  have hx := hE.1; have hb := hE.2.1
  unfold F_X12_shelf_j77 at hF
  obtain ⟨h7, hF⟩ := ite_s hF
  refine ma_st_28 hE hD h7 dX12_shelf_77 (fun u8 H locs eu8 hD => ?_)
  have hF := xlet_e hF eu8
  refine lv_aload_n hx hb dX12_shelf_78 rfl (lv_at hl 0 rfl) ?_
  refine gf_X12_56 hE hD dX12_shelf_79 ?_
  refine lv_iload_n hx hb dX12_shelf_82 rfl (lv_at hl 1 rfl) ?_
  refine lv_iload_n hx hb dX12_shelf_83 rfl (lv_at hl 2 rfl) ?_
  refine lv_if_ne (tgt := 91) hx hb dX12_shelf_84 (by decide) (fun c9 => ?_) (fun c9 => ?_)
  · have hF := ite_n hF c9
    refine lv_iload_n hx hb dX12_shelf_91 rfl (lv_at hl 2 rfl) ?_
    refine lv_iconst (v := (1 : Int32)) hx hb dX12_shelf_92 (by decide) ?_
    refine lv_icmp_ne (tgt := 105) hx hb dX12_shelf_93 (by decide) (fun c10 => ?_) (fun c10 => ?_)
    · have hF := ite_n hF c10
      refine lv_iconst (v := (0 : Int32)) hx hb dX12_shelf_105 (by decide) ?_
      exact B_X12_shelf_j106 hE hD (lv_sub hl [0, 1, 2, 3] rfl) hF
    · have hF := ite_p hF c10
      refine lv_aload_n hx hb dX12_shelf_96 rfl (lv_at hl 0 rfl) ?_
      refine gf_X12_47 hE hD dX12_shelf_97 ?_
      refine lv_iload_n hx hb dX12_shelf_100 rfl (lv_at hl 3 rfl) ?_
      obtain ⟨h11, hF⟩ := ite_s hF
      refine ma_ld_26 hE hD h11 dX12_shelf_101 ?_
      refine lv_goto (tgt := 106) hx hb dX12_shelf_102 (by decide) ?_
      exact B_X12_shelf_j106 hE hD (lv_sub hl [0, 1, 2, 3] rfl) hF
  · have hF := ite_p hF c9
    refine lv_iload_n hx hb dX12_shelf_87 rfl (lv_at hl 3 rfl) ?_
    refine lv_goto (tgt := 106) hx hb dX12_shelf_88 (by decide) ?_
    exact B_X12_shelf_j106 hE hD (lv_sub hl [0, 1, 2, 3] rfl) hF
def F_X12_shelf_j76 (u : xS) (y1 : Int32) (y2 : Int32) (y3 : Int32) (s1 : Int32) : Option (Int32 × xS) := F_X12_shelf_j77 u y1 y2 y3 s1 (0 : Int32)
theorem B_X12_shelf_j76 {p : Program} {l : Launch} {e : Env} {s : State} {m : MethodId} {args : Array Value} {below : List Frame} {meth : Method} {cd : Code} {G : xG} {w0 : xW} {b sz : Nat} {rr : (Int32 × xS)} (hE : xE p s m args meth cd cX12_shelf RX12 G 4 (Option.some Jvm.ClassFile.FieldType.int)) {u : xS} {y1 : Int32} {y2 : Int32} {y3 : Int32} {s1 : Int32} {H : Heap} {locs : List Loc} {ls : Array Slot} (hD : mD G (xA w0 s.heap.size) s.heap b u sz H locs) (hl : lv_has ls 4 [(0, .ref b), (1, .int y1), (2, .int y2), (3, .int y3)]) (hF : F_X12_shelf_j76 u y1 y2 y3 s1 = some rr) : W p l e (xR 3 0 0) s m args below meth cd H locs 0 0 (xQi G w0 (fun r z => r = rr.1 ∧ z = ((mW G b rr.2), sz)) below args s 0 0) (F0 m 76 ls [.int s1, .ref (b + 15)]) := by
  have hx := hE.1; have hb := hE.2.1
  unfold F_X12_shelf_j76 at hF
  refine lv_iconst (v := (0 : Int32)) hx hb dX12_shelf_76 (by decide) ?_
  exact B_X12_shelf_j77 hE hD (lv_sub hl [0, 1, 2, 3] rfl) hF
def F_X12_shelf_j45 (u : xS) (y1 : Int32) (y2 : Int32) (y3 : Int32) : Option (Int32 × xS) := if y2 = 0 then F_X12_shelf_j77 u y1 y2 y3 y1 (1 : Int32) else if y2 = (1 : Int32) then if xIn y3 4 then if (u.2.1 25 y3.toNatClampNeg) < 0 then F_X12_shelf_j76 u y1 y2 y3 y1 else F_X12_shelf_j77 u y1 y2 y3 y1 (2 : Int32) else none else F_X12_shelf_j76 u y1 y2 y3 y1
theorem B_X12_shelf_j45 {p : Program} {l : Launch} {e : Env} {s : State} {m : MethodId} {args : Array Value} {below : List Frame} {meth : Method} {cd : Code} {G : xG} {w0 : xW} {b sz : Nat} {rr : (Int32 × xS)} (hE : xE p s m args meth cd cX12_shelf RX12 G 4 (Option.some Jvm.ClassFile.FieldType.int)) {u : xS} {y1 : Int32} {y2 : Int32} {y3 : Int32} {H : Heap} {locs : List Loc} {ls : Array Slot} (hD : mD G (xA w0 s.heap.size) s.heap b u sz H locs) (hl : lv_has ls 4 [(0, .ref b), (1, .int y1), (2, .int y2), (3, .int y3)]) (hF : F_X12_shelf_j45 u y1 y2 y3 = some rr) : W p l e (xR 3 0 0) s m args below meth cd H locs 0 0 (xQi G w0 (fun r z => r = rr.1 ∧ z = ((mW G b rr.2), sz)) below args s 0 0) (F0 m 45 ls []) := by
  have hx := hE.1; have hb := hE.2.1
  unfold F_X12_shelf_j45 at hF
  refine lv_aload_n hx hb dX12_shelf_45 rfl (lv_at hl 0 rfl) ?_
  refine gf_X12_53 hE hD dX12_shelf_46 ?_
  refine lv_iload_n hx hb dX12_shelf_49 rfl (lv_at hl 1 rfl) ?_
  refine lv_iload_n hx hb dX12_shelf_50 rfl (lv_at hl 2 rfl) ?_
  refine lv_if_ne (tgt := 58) hx hb dX12_shelf_51 (by decide) (fun c12 => ?_) (fun c12 => ?_)
  · have hF := ite_n hF c12
    refine lv_iload_n hx hb dX12_shelf_58 rfl (lv_at hl 2 rfl) ?_
    refine lv_iconst (v := (1 : Int32)) hx hb dX12_shelf_59 (by decide) ?_
    refine lv_icmp_ne (tgt := 76) hx hb dX12_shelf_60 (by decide) (fun c13 => ?_) (fun c13 => ?_)
    · have hF := ite_n hF c13
      exact B_X12_shelf_j76 hE hD (lv_sub hl [0, 1, 2, 3] rfl) hF
    · have hF := ite_p hF c13
      refine lv_aload_n hx hb dX12_shelf_63 rfl (lv_at hl 0 rfl) ?_
      refine gf_X12_44 hE hD dX12_shelf_64 ?_
      refine lv_iload_n hx hb dX12_shelf_67 rfl (lv_at hl 3 rfl) ?_
      obtain ⟨h14, hF⟩ := ite_s hF
      refine ma_ld_25 hE hD h14 dX12_shelf_68 ?_
      refine lv_if_lt (tgt := 76) hx hb dX12_shelf_69 (by decide) (fun c15 => ?_) (fun c15 => ?_)
      · have hF := ite_p hF c15
        exact B_X12_shelf_j76 hE hD (lv_sub hl [0, 1, 2, 3] rfl) hF
      · have hF := ite_n hF c15
        refine lv_iconst (v := (2 : Int32)) hx hb dX12_shelf_72 (by decide) ?_
        refine lv_goto (tgt := 77) hx hb dX12_shelf_73 (by decide) ?_
        exact B_X12_shelf_j77 hE hD (lv_sub hl [0, 1, 2, 3] rfl) hF
  · have hF := ite_p hF c12
    refine lv_iconst (v := (1 : Int32)) hx hb dX12_shelf_54 (by decide) ?_
    refine lv_goto (tgt := 77) hx hb dX12_shelf_55 (by decide) ?_
    exact B_X12_shelf_j77 hE hD (lv_sub hl [0, 1, 2, 3] rfl) hF
def F_X12_shelf_j43 (u : xS)  : Option (Int32 × xS) := some ((-1 : Int32), u)
theorem B_X12_shelf_j43 {p : Program} {l : Launch} {e : Env} {s : State} {m : MethodId} {args : Array Value} {below : List Frame} {meth : Method} {cd : Code} {G : xG} {w0 : xW} {b sz : Nat} {rr : (Int32 × xS)} (hE : xE p s m args meth cd cX12_shelf RX12 G 4 (Option.some Jvm.ClassFile.FieldType.int)) {u : xS}  {H : Heap} {locs : List Loc} {ls : Array Slot} (hD : mD G (xA w0 s.heap.size) s.heap b u sz H locs) (hl : lv_has ls 4 [(0, .ref b)]) (hF : F_X12_shelf_j43 u  = some rr) : W p l e (xR 3 0 0) s m args below meth cd H locs 0 0 (xQi G w0 (fun r z => r = rr.1 ∧ z = ((mW G b rr.2), sz)) below args s 0 0) (F0 m 43 ls []) := by
  have hx := hE.1; have hb := hE.2.1
  unfold F_X12_shelf_j43 at hF
  refine lv_iconst (v := (-1 : Int32)) hx hb dX12_shelf_43 (by decide) ?_
  obtain rfl := Option.some.inj hF
  exact x_iret hE hD ⟨rfl, rfl⟩ (by omega) (by omega) dX12_shelf_44
def F_X12_shelf_j31 (u : xS) (y1 : Int32) (y2 : Int32) (y3 : Int32) : Option (Int32 × xS) := if y2 = (1 : Int32) then (F_X12_isOne y3).bind (fun r17 => if r17 = 0 then F_X12_shelf_j43 u else F_X12_shelf_j45 u y1 y2 y3) else F_X12_shelf_j45 u y1 y2 y3
theorem B_X12_shelf_j31 {p : Program} {l : Launch} {e : Env} {s : State} {m : MethodId} {args : Array Value} {below : List Frame} {meth : Method} {cd : Code} {G : xG} {w0 : xW} {b sz : Nat} {rr : (Int32 × xS)} (hE : xE p s m args meth cd cX12_shelf RX12 G 4 (Option.some Jvm.ClassFile.FieldType.int)) {u : xS} {y1 : Int32} {y2 : Int32} {y3 : Int32} {H : Heap} {locs : List Loc} {ls : Array Slot} (hD : mD G (xA w0 s.heap.size) s.heap b u sz H locs) (hl : lv_has ls 4 [(0, .ref b), (1, .int y1), (2, .int y2), (3, .int y3)]) (hF : F_X12_shelf_j31 u y1 y2 y3 = some rr) : W p l e (xR 3 0 0) s m args below meth cd H locs 0 0 (xQi G w0 (fun r z => r = rr.1 ∧ z = ((mW G b rr.2), sz)) below args s 0 0) (F0 m 31 ls []) := by
  have hx := hE.1; have hb := hE.2.1
  unfold F_X12_shelf_j31 at hF
  refine lv_iload_n hx hb dX12_shelf_31 rfl (lv_at hl 2 rfl) ?_
  refine lv_iconst (v := (1 : Int32)) hx hb dX12_shelf_32 (by decide) ?_
  refine lv_icmp_ne (tgt := 45) hx hb dX12_shelf_33 (by decide) (fun c16 => ?_) (fun c16 => ?_)
  · have hF := ite_n hF c16
    exact B_X12_shelf_j45 hE hD (lv_sub hl [0, 1, 2, 3] rfl) hF
  · have hF := ite_p hF c16
    refine lv_iload_n hx hb dX12_shelf_36 rfl (lv_at hl 3 rfl) ?_
    obtain ⟨r17, k18, hF⟩ := xb_s hF
    refine kSz (As := [.int y3]) (rest := []) hE hl hD (c_X12_isOne k18) kl_X12_360 rfl rfl (Nat.le_of_ble_eq_true rfl) dX12_shelf_37 ⟨Nat.le_of_ble_eq_true rfl, Nat.le_of_ble_eq_true rfl⟩ ⟨Nat.le_of_ble_eq_true rfl, Nat.le_of_ble_eq_true rfl⟩ (fun H locs z19 (hD : mD G _ _ b u sz H locs) => ?_)
    refine lv_if_ne (tgt := 45) hx hb dX12_shelf_40 (by decide) (fun c20 => ?_) (fun c20 => ?_)
    · have hF := ite_n hF c20
      exact B_X12_shelf_j45 hE hD (lv_sub hl [0, 1, 2, 3] rfl) hF
    · have hF := ite_p hF c20
      exact B_X12_shelf_j43 hE hD (lv_sub hl [0] rfl) hF
def F_X12_shelf (u : xS) (xa : Int32) (xb : Int32) (xc : Int32) : Option (Int32 × xS) := (F_X12_isOne xa).bind (fun r21 => if r21 = 0 then F_X12_shelf_j43 u else (F_X12_in xb.toInt64 (0 : Int64) (2 : Int64)).bind (fun r25 => if r25 = 0 then F_X12_shelf_j43 u else if xb = 0 then (F_X12_isBridge u xc).bind (fun r30 => if r30 = 0 then F_X12_shelf_j43 u else F_X12_shelf_j31 u xa xb xc) else F_X12_shelf_j31 u xa xb xc))
theorem c_X12_shelf {l : Launch} {G : xG} {b sz : Nat} {rr : (Int32 × xS)} {u : xS} {xa : Int32} {xb : Int32} {xc : Int32} (hF : F_X12_shelf u xa xb xc = some rr) : xMi l G yX12_shelf cX12_shelf 4 (Option.some Jvm.ClassFile.FieldType.int) 3 0 0 [.ref b, .int xa, .int xb, .int xc] (mW G b u) sz (fun r z => r = rr.1 ∧ z = ((mW G b rr.2), sz)) := by
  unfold F_X12_shelf at hF
  refine x_startI rfl (Nat.le_of_ble_eq_true rfl) (fun p e s m args below meth cd ls hE hnm hl hD => ?_)
  have hx := hE.1; have hb := hE.2.1
  have hl : lv_has ls 4 [(0, .ref b), (1, .int xa), (2, .int xb), (3, .int xc)] := hl
  have hD : mD G (xA (mW G b u) s.heap.size) s.heap b u sz s.heap [] := hD
  refine lv_iload_n hx hb dX12_shelf_0 rfl (lv_at hl 1 rfl) ?_
  obtain ⟨r21, k22, hF⟩ := xb_s hF
  refine kSz (As := [.int xa]) (rest := []) hE hl hD (c_X12_isOne k22) kl_X12_360 rfl rfl (Nat.le_of_ble_eq_true rfl) dX12_shelf_1 ⟨Nat.le_of_ble_eq_true rfl, Nat.le_of_ble_eq_true rfl⟩ ⟨Nat.le_of_ble_eq_true rfl, Nat.le_of_ble_eq_true rfl⟩ (fun H locs z23 (hD : mD G _ _ b u sz H locs) => ?_)
  refine lv_if_eq (tgt := 43) hx hb dX12_shelf_4 (by decide) (fun c24 => ?_) (fun c24 => ?_)
  · have hF := ite_p hF c24
    exact B_X12_shelf_j43 hE hD (lv_sub hl [0] rfl) hF
  · have hF := ite_n hF c24
    refine lv_iload_n hx hb dX12_shelf_7 rfl (lv_at hl 2 rfl) ?_
    refine lv_i2l (v := xb.toInt64) hx hb dX12_shelf_8 rfl ?_
    refine lv_lconst (v := (0 : Int64)) hx hb dX12_shelf_9 (by decide) ?_
    refine lv_ldc2 (v := (2 : Int64)) hx hb hE.2.2.1 (hE.2.2.2.1 _ kw6_124) dX12_shelf_10 ?_
    obtain ⟨r25, k26, hF⟩ := xb_s hF
    refine kSz (As := [.long xb.toInt64, .long (0 : Int64), .long (2 : Int64)]) (rest := []) hE hl hD (c_X12_in k26) kl_X12_67 rfl rfl (Nat.le_of_ble_eq_true rfl) dX12_shelf_13 ⟨Nat.le_of_ble_eq_true rfl, Nat.le_of_ble_eq_true rfl⟩ ⟨Nat.le_of_ble_eq_true rfl, Nat.le_of_ble_eq_true rfl⟩ (fun H locs z27 (hD : mD G _ _ b u sz H locs) => ?_)
    refine lv_if_eq (tgt := 43) hx hb dX12_shelf_16 (by decide) (fun c28 => ?_) (fun c28 => ?_)
    · have hF := ite_p hF c28
      exact B_X12_shelf_j43 hE hD (lv_sub hl [0] rfl) hF
    · have hF := ite_n hF c28
      refine lv_iload_n hx hb dX12_shelf_19 rfl (lv_at hl 2 rfl) ?_
      refine lv_if_ne (tgt := 31) hx hb dX12_shelf_20 (by decide) (fun c29 => ?_) (fun c29 => ?_)
      · have hF := ite_n hF c29
        exact B_X12_shelf_j31 hE hD (lv_sub hl [0, 1, 2, 3] rfl) hF
      · have hF := ite_p hF c29
        refine lv_aload_n hx hb dX12_shelf_23 rfl (lv_at hl 0 rfl) ?_
        refine lv_iload_n hx hb dX12_shelf_24 rfl (lv_at hl 3 rfl) ?_
        obtain ⟨r30, k31, hF⟩ := xb_s hF
        refine kVz (As := [.int xc]) (rest := []) hE hl hD (c_X12_isBridge (b := b) k31) kl_X12_114 (mW_0 _ _ _) rfl rfl rfl rfl (Nat.le_of_ble_eq_true rfl) dX12_shelf_25 ⟨Nat.le_of_ble_eq_true rfl, Nat.le_of_ble_eq_true rfl⟩ ⟨Nat.le_of_ble_eq_true rfl, Nat.le_of_ble_eq_true rfl⟩ (fun H locs z32 (hD : mD G _ _ b u sz H locs) => ?_)
        refine lv_if_eq (tgt := 43) hx hb dX12_shelf_28 (by decide) (fun c33 => ?_) (fun c33 => ?_)
        · have hF := ite_p hF c33
          exact B_X12_shelf_j43 hE hD (lv_sub hl [0] rfl) hF
        · have hF := ite_n hF c33
          exact B_X12_shelf_j31 hE hD (lv_sub hl [0, 1, 2, 3] rfl) hF
def F_X12_onShelf_j40 (u : xS) (s0 : Int32) : Option Int32 := some s0
theorem B_X12_onShelf_j40 {p : Program} {l : Launch} {e : Env} {s : State} {m : MethodId} {args : Array Value} {below : List Frame} {meth : Method} {cd : Code} {G : xG} {w0 : xW} {b sz : Nat} {rr : Int32} (hE : xE p s m args meth cd cX12_onShelf RX12 G 2 (Option.some Jvm.ClassFile.FieldType.int)) {u : xS} {s0 : Int32} {H : Heap} {locs : List Loc} {ls : Array Slot} (hD : mD G (xA w0 s.heap.size) s.heap b u sz H locs) (hl : lv_has ls 2 [(0, .ref b)]) (hF : F_X12_onShelf_j40 u s0 = some rr) : W p l e (xR 3 0 0) s m args below meth cd H locs 0 0 (xQi G w0 (fun r z => r = rr ∧ z = ((mW G b u), sz)) below args s 0 0) (F0 m 40 ls [.int s0]) := by
  have hx := hE.1; have hb := hE.2.1
  unfold F_X12_onShelf_j40 at hF
  obtain rfl := Option.some.inj hF
  exact x_iret hE hD ⟨rfl, rfl⟩ (by omega) (by omega) dX12_onShelf_40
def F_X12_onShelf_j39 (u : xS)  : Option Int32 := F_X12_onShelf_j40 u (-1 : Int32)
theorem B_X12_onShelf_j39 {p : Program} {l : Launch} {e : Env} {s : State} {m : MethodId} {args : Array Value} {below : List Frame} {meth : Method} {cd : Code} {G : xG} {w0 : xW} {b sz : Nat} {rr : Int32} (hE : xE p s m args meth cd cX12_onShelf RX12 G 2 (Option.some Jvm.ClassFile.FieldType.int)) {u : xS}  {H : Heap} {locs : List Loc} {ls : Array Slot} (hD : mD G (xA w0 s.heap.size) s.heap b u sz H locs) (hl : lv_has ls 2 [(0, .ref b)]) (hF : F_X12_onShelf_j39 u  = some rr) : W p l e (xR 3 0 0) s m args below meth cd H locs 0 0 (xQi G w0 (fun r z => r = rr ∧ z = ((mW G b u), sz)) below args s 0 0) (F0 m 39 ls []) := by
  have hx := hE.1; have hb := hE.2.1
  unfold F_X12_onShelf_j39 at hF
  refine lv_iconst (v := (-1 : Int32)) hx hb dX12_onShelf_39 (by decide) ?_
  exact B_X12_onShelf_j40 hE hD (lv_sub hl [0] rfl) hF
def F_X12_onShelf (u : xS) (xa : Int32) : Option Int32 := (F_X12_isOne xa).bind (fun r1 => if r1 = 0 then F_X12_onShelf_j39 u else if xIn xa 4 then if (u.2.1 28 xa.toNatClampNeg) = (1 : Int32) then if xIn xa 4 then (F_X12_isBridge u (u.2.1 29 xa.toNatClampNeg)).bind (fun r8 => if r8 = 0 then F_X12_onShelf_j39 u else if xIn xa 4 then F_X12_onShelf_j40 u (u.2.1 29 xa.toNatClampNeg) else none) else none else F_X12_onShelf_j39 u else none)
theorem c_X12_onShelf {l : Launch} {G : xG} {b sz : Nat} {rr : Int32} {u : xS} {xa : Int32} (hF : F_X12_onShelf u xa = some rr) : xMi l G yX12_onShelf cX12_onShelf 2 (Option.some Jvm.ClassFile.FieldType.int) 3 0 0 [.ref b, .int xa] (mW G b u) sz (fun r z => r = rr ∧ z = ((mW G b u), sz)) := by
  unfold F_X12_onShelf at hF
  refine x_startI rfl (Nat.le_of_ble_eq_true rfl) (fun p e s m args below meth cd ls hE hnm hl hD => ?_)
  have hx := hE.1; have hb := hE.2.1
  have hl : lv_has ls 2 [(0, .ref b), (1, .int xa)] := hl
  have hD : mD G (xA (mW G b u) s.heap.size) s.heap b u sz s.heap [] := hD
  refine lv_iload_n hx hb dX12_onShelf_0 rfl (lv_at hl 1 rfl) ?_
  obtain ⟨r1, k2, hF⟩ := xb_s hF
  refine kSz (As := [.int xa]) (rest := []) hE hl hD (c_X12_isOne k2) kl_X12_360 rfl rfl (Nat.le_of_ble_eq_true rfl) dX12_onShelf_1 ⟨Nat.le_of_ble_eq_true rfl, Nat.le_of_ble_eq_true rfl⟩ ⟨Nat.le_of_ble_eq_true rfl, Nat.le_of_ble_eq_true rfl⟩ (fun H locs z3 (hD : mD G _ _ b u sz H locs) => ?_)
  refine lv_if_eq (tgt := 39) hx hb dX12_onShelf_4 (by decide) (fun c4 => ?_) (fun c4 => ?_)
  · have hF := ite_p hF c4
    exact B_X12_onShelf_j39 hE hD (lv_sub hl [0] rfl) hF
  · have hF := ite_n hF c4
    refine lv_aload_n hx hb dX12_onShelf_7 rfl (lv_at hl 0 rfl) ?_
    refine gf_X12_53 hE hD dX12_onShelf_8 ?_
    refine lv_iload_n hx hb dX12_onShelf_11 rfl (lv_at hl 1 rfl) ?_
    obtain ⟨h5, hF⟩ := ite_s hF
    refine ma_ld_28 hE hD h5 dX12_onShelf_12 ?_
    refine lv_iconst (v := (1 : Int32)) hx hb dX12_onShelf_13 (by decide) ?_
    refine lv_icmp_ne (tgt := 39) hx hb dX12_onShelf_14 (by decide) (fun c6 => ?_) (fun c6 => ?_)
    · have hF := ite_n hF c6
      exact B_X12_onShelf_j39 hE hD (lv_sub hl [0] rfl) hF
    · have hF := ite_p hF c6
      refine lv_aload_n hx hb dX12_onShelf_17 rfl (lv_at hl 0 rfl) ?_
      refine lv_aload_n hx hb dX12_onShelf_18 rfl (lv_at hl 0 rfl) ?_
      refine gf_X12_56 hE hD dX12_onShelf_19 ?_
      refine lv_iload_n hx hb dX12_onShelf_22 rfl (lv_at hl 1 rfl) ?_
      obtain ⟨h7, hF⟩ := ite_s hF
      refine ma_ld_29 hE hD h7 dX12_onShelf_23 ?_
      obtain ⟨r8, k9, hF⟩ := xb_s hF
      refine kVz (As := [.int (u.2.1 29 xa.toNatClampNeg)]) (rest := []) hE hl hD (c_X12_isBridge (b := b) k9) kl_X12_114 (mW_0 _ _ _) rfl rfl rfl rfl (Nat.le_of_ble_eq_true rfl) dX12_onShelf_24 ⟨Nat.le_of_ble_eq_true rfl, Nat.le_of_ble_eq_true rfl⟩ ⟨Nat.le_of_ble_eq_true rfl, Nat.le_of_ble_eq_true rfl⟩ (fun H locs z10 (hD : mD G _ _ b u sz H locs) => ?_)
      refine lv_if_eq (tgt := 39) hx hb dX12_onShelf_27 (by decide) (fun c11 => ?_) (fun c11 => ?_)
      · have hF := ite_p hF c11
        exact B_X12_onShelf_j39 hE hD (lv_sub hl [0] rfl) hF
      · have hF := ite_n hF c11
        refine lv_aload_n hx hb dX12_onShelf_30 rfl (lv_at hl 0 rfl) ?_
        refine gf_X12_56 hE hD dX12_onShelf_31 ?_
        refine lv_iload_n hx hb dX12_onShelf_34 rfl (lv_at hl 1 rfl) ?_
        obtain ⟨h12, hF⟩ := ite_s hF
        refine ma_ld_29 hE hD h12 dX12_onShelf_35 ?_
        refine lv_goto (tgt := 40) hx hb dX12_onShelf_36 (by decide) ?_
        exact B_X12_onShelf_j40 hE hD (lv_sub hl [0] rfl) hF
def F_X12_taken_j125 (u : xS) (s0 : Int32) : Option Int32 := some s0
theorem B_X12_taken_j125 {p : Program} {l : Launch} {e : Env} {s : State} {m : MethodId} {args : Array Value} {below : List Frame} {meth : Method} {cd : Code} {G : xG} {w0 : xW} {b sz : Nat} {rr : Int32} (hE : xE p s m args meth cd cX12_taken RX12 G 5 (Option.some Jvm.ClassFile.FieldType.int)) {u : xS} {s0 : Int32} {H : Heap} {locs : List Loc} {ls : Array Slot} (hD : mD G (xA w0 s.heap.size) s.heap b u sz H locs) (hl : lv_has ls 5 [(0, .ref b)]) (hF : F_X12_taken_j125 u s0 = some rr) : W p l e (xR 4 0 0) s m args below meth cd H locs 0 0 (xQi G w0 (fun r z => r = rr ∧ z = ((mW G b u), sz)) below args s 0 0) (F0 m 125 ls [.int s0]) := by
  have hx := hE.1; have hb := hE.2.1
  unfold F_X12_taken_j125 at hF
  obtain rfl := Option.some.inj hF
  exact x_iret hE hD ⟨rfl, rfl⟩ (by omega) (by omega) dX12_taken_125
def F_X12_taken_j107 (u : xS) (y1 : Int32) (s0 : Int32) : Option Int32 := if s0 = 0 then F_X12_taken_j125 u (-13 : Int32) else if xIn y1 4 then F_X12_taken_j125 u (u.2.1 29 y1.toNatClampNeg) else none
theorem B_X12_taken_j107 {p : Program} {l : Launch} {e : Env} {s : State} {m : MethodId} {args : Array Value} {below : List Frame} {meth : Method} {cd : Code} {G : xG} {w0 : xW} {b sz : Nat} {rr : Int32} (hE : xE p s m args meth cd cX12_taken RX12 G 5 (Option.some Jvm.ClassFile.FieldType.int)) {u : xS} {y1 : Int32} {s0 : Int32} {H : Heap} {locs : List Loc} {ls : Array Slot} (hD : mD G (xA w0 s.heap.size) s.heap b u sz H locs) (hl : lv_has ls 5 [(0, .ref b), (1, .int y1)]) (hF : F_X12_taken_j107 u y1 s0 = some rr) : W p l e (xR 4 0 0) s m args below meth cd H locs 0 0 (xQi G w0 (fun r z => r = rr ∧ z = ((mW G b u), sz)) below args s 0 0) (F0 m 107 ls [.int s0]) := by
  have hx := hE.1; have hb := hE.2.1
  unfold F_X12_taken_j107 at hF
  refine lv_istore (lv' := [(4, .int s0), (0, .ref b), (1, .int y1)]) hx hb dX12_taken_107 hl (by decide) rfl (fun ls hl => ?_)
  refine lv_iload hx hb dX12_taken_109 (lv_at hl 0 rfl) ?_
  refine lv_if_eq (tgt := 123) hx hb dX12_taken_111 (by decide) (fun c1 => ?_) (fun c1 => ?_)
  · have hF := ite_p hF c1
    refine lv_bipush (v := (-13 : Int32)) hx hb dX12_taken_123 (by decide) ?_
    exact B_X12_taken_j125 hE hD (lv_sub hl [1] rfl) hF
  · have hF := ite_n hF c1
    refine lv_aload_n hx hb dX12_taken_114 rfl (lv_at hl 1 rfl) ?_
    refine gf_X12_56 hE hD dX12_taken_115 ?_
    refine lv_iload_n hx hb dX12_taken_118 rfl (lv_at hl 2 rfl) ?_
    obtain ⟨h2, hF⟩ := ite_s hF
    refine ma_ld_29 hE hD h2 dX12_taken_119 ?_
    refine lv_goto (tgt := 125) hx hb dX12_taken_120 (by decide) ?_
    exact B_X12_taken_j125 hE hD (lv_sub hl [1] rfl) hF
def F_X12_taken_j85 (u : xS) (y1 : Int32) : Option Int32 := F_X12_taken_j107 u y1 (0 : Int32)
theorem B_X12_taken_j85 {p : Program} {l : Launch} {e : Env} {s : State} {m : MethodId} {args : Array Value} {below : List Frame} {meth : Method} {cd : Code} {G : xG} {w0 : xW} {b sz : Nat} {rr : Int32} (hE : xE p s m args meth cd cX12_taken RX12 G 5 (Option.some Jvm.ClassFile.FieldType.int)) {u : xS} {y1 : Int32} {H : Heap} {locs : List Loc} {ls : Array Slot} (hD : mD G (xA w0 s.heap.size) s.heap b u sz H locs) (hl : lv_has ls 5 [(0, .ref b), (1, .int y1)]) (hF : F_X12_taken_j85 u y1 = some rr) : W p l e (xR 4 0 0) s m args below meth cd H locs 0 0 (xQi G w0 (fun r z => r = rr ∧ z = ((mW G b u), sz)) below args s 0 0) (F0 m 85 ls []) := by
  have hx := hE.1; have hb := hE.2.1
  unfold F_X12_taken_j85 at hF
  refine lv_iconst (v := (0 : Int32)) hx hb dX12_taken_85 (by decide) ?_
  refine lv_goto (tgt := 107) hx hb dX12_taken_86 (by decide) ?_
  exact B_X12_taken_j107 hE hD (lv_sub hl [0, 1] rfl) hF
def F_X12_taken_j58 (u : xS) (y1 : Int32) (y2 : Int32) (y3 : Int32) : Option Int32 := if y3 < 0 then if xIn y1 4 then if (y2 - (10 : Int32)) = (u.2.1 30 y1.toNatClampNeg) then F_X12_taken_j107 u y1 (1 : Int32) else F_X12_taken_j107 u y1 (0 : Int32) else none else if (6 : Int32) ≤ y2 then F_X12_taken_j85 u y1 else (F_X12_its u y3 (0 : Int32)).bind (fun r7 => (F_X12_isUnder r7 y2).bind (fun r9 => if r9 = 0 then F_X12_taken_j85 u y1 else F_X12_taken_j107 u y1 (1 : Int32)))
theorem B_X12_taken_j58 {p : Program} {l : Launch} {e : Env} {s : State} {m : MethodId} {args : Array Value} {below : List Frame} {meth : Method} {cd : Code} {G : xG} {w0 : xW} {b sz : Nat} {rr : Int32} (hE : xE p s m args meth cd cX12_taken RX12 G 5 (Option.some Jvm.ClassFile.FieldType.int)) {u : xS} {y1 : Int32} {y2 : Int32} {y3 : Int32} {H : Heap} {locs : List Loc} {ls : Array Slot} (hD : mD G (xA w0 s.heap.size) s.heap b u sz H locs) (hl : lv_has ls 5 [(0, .ref b), (1, .int y1), (2, .int y2), (3, .int y3)]) (hF : F_X12_taken_j58 u y1 y2 y3 = some rr) : W p l e (xR 4 0 0) s m args below meth cd H locs 0 0 (xQi G w0 (fun r z => r = rr ∧ z = ((mW G b u), sz)) below args s 0 0) (F0 m 58 ls []) := by
  have hx := hE.1; have hb := hE.2.1
  unfold F_X12_taken_j58 at hF
  refine lv_iload_n hx hb dX12_taken_58 rfl (lv_at hl 3 rfl) ?_
  refine lv_if_lt (tgt := 89) hx hb dX12_taken_59 (by decide) (fun c3 => ?_) (fun c3 => ?_)
  · have hF := ite_p hF c3
    refine lv_iload_n hx hb dX12_taken_89 rfl (lv_at hl 2 rfl) ?_
    refine lv_bipush (v := (10 : Int32)) hx hb dX12_taken_90 (by decide) ?_
    refine lv_isub hx hb dX12_taken_92 ?_
    refine lv_aload_n hx hb dX12_taken_93 rfl (lv_at hl 0 rfl) ?_
    refine gf_X12_59 hE hD dX12_taken_94 ?_
    refine lv_iload_n hx hb dX12_taken_97 rfl (lv_at hl 1 rfl) ?_
    obtain ⟨h4, hF⟩ := ite_s hF
    refine ma_ld_30 hE hD h4 dX12_taken_98 ?_
    refine lv_icmp_ne (tgt := 106) hx hb dX12_taken_99 (by decide) (fun c5 => ?_) (fun c5 => ?_)
    · have hF := ite_n hF c5
      refine lv_iconst (v := (0 : Int32)) hx hb dX12_taken_106 (by decide) ?_
      exact B_X12_taken_j107 hE hD (lv_sub hl [0, 1] rfl) hF
    · have hF := ite_p hF c5
      refine lv_iconst (v := (1 : Int32)) hx hb dX12_taken_102 (by decide) ?_
      refine lv_goto (tgt := 107) hx hb dX12_taken_103 (by decide) ?_
      exact B_X12_taken_j107 hE hD (lv_sub hl [0, 1] rfl) hF
  · have hF := ite_n hF c3
    refine lv_iload_n hx hb dX12_taken_62 rfl (lv_at hl 2 rfl) ?_
    refine lv_bipush (v := (6 : Int32)) hx hb dX12_taken_63 (by decide) ?_
    refine lv_icmp_ge (tgt := 85) hx hb dX12_taken_65 (by decide) (fun c6 => ?_) (fun c6 => ?_)
    · have hF := ite_p hF c6
      exact B_X12_taken_j85 hE hD (lv_sub hl [0, 1] rfl) hF
    · have hF := ite_n hF c6
      refine lv_aload_n hx hb dX12_taken_68 rfl (lv_at hl 0 rfl) ?_
      refine lv_iload_n hx hb dX12_taken_69 rfl (lv_at hl 3 rfl) ?_
      refine lv_iconst (v := (0 : Int32)) hx hb dX12_taken_70 (by decide) ?_
      obtain ⟨r7, k8, hF⟩ := xb_s hF
      refine kVi (As := [.int y3, .int (0 : Int32)]) (rest := []) hE hl hD (c_X12_its (b := b) k8) kl_X12_87 (mW_0 _ _ _) rfl rfl rfl rfl (Nat.le_of_ble_eq_true rfl) dX12_taken_71 ⟨Nat.le_of_ble_eq_true rfl, Nat.le_of_ble_eq_true rfl⟩ ⟨Nat.le_of_ble_eq_true rfl, Nat.le_of_ble_eq_true rfl⟩ (fun H locs (hD : mD G _ _ b u sz H locs) => ?_)
      refine lv_iload_n hx hb dX12_taken_74 rfl (lv_at hl 2 rfl) ?_
      obtain ⟨r9, k10, hF⟩ := xb_s hF
      refine kSz (As := [.int r7, .int y2]) (rest := []) hE hl hD (c_X12_isUnder k10) kl_X12_97 rfl rfl (Nat.le_of_ble_eq_true rfl) dX12_taken_75 ⟨Nat.le_of_ble_eq_true rfl, Nat.le_of_ble_eq_true rfl⟩ ⟨Nat.le_of_ble_eq_true rfl, Nat.le_of_ble_eq_true rfl⟩ (fun H locs z11 (hD : mD G _ _ b u sz H locs) => ?_)
      refine lv_if_eq (tgt := 85) hx hb dX12_taken_78 (by decide) (fun c12 => ?_) (fun c12 => ?_)
      · have hF := ite_p hF c12
        exact B_X12_taken_j85 hE hD (lv_sub hl [0, 1] rfl) hF
      · have hF := ite_n hF c12
        refine lv_iconst (v := (1 : Int32)) hx hb dX12_taken_81 (by decide) ?_
        refine lv_goto (tgt := 107) hx hb dX12_taken_82 (by decide) ?_
        exact B_X12_taken_j107 hE hD (lv_sub hl [0, 1] rfl) hF
def F_X12_taken_j35 (u : xS) (y1 : Int32) (y2 : Int32) : Option Int32 := (F_X12_onShelf u y1).bind (fun r13 => if 0 ≤ r13 then F_X12_taken_j58 u y1 y2 r13 else if xIn y1 4 then if (2 : Int32) ≤ (u.2.1 28 y1.toNatClampNeg) then F_X12_taken_j58 u y1 y2 r13 else some (-11 : Int32) else none)
theorem B_X12_taken_j35 {p : Program} {l : Launch} {e : Env} {s : State} {m : MethodId} {args : Array Value} {below : List Frame} {meth : Method} {cd : Code} {G : xG} {w0 : xW} {b sz : Nat} {rr : Int32} (hE : xE p s m args meth cd cX12_taken RX12 G 5 (Option.some Jvm.ClassFile.FieldType.int)) {u : xS} {y1 : Int32} {y2 : Int32} {H : Heap} {locs : List Loc} {ls : Array Slot} (hD : mD G (xA w0 s.heap.size) s.heap b u sz H locs) (hl : lv_has ls 5 [(0, .ref b), (1, .int y1), (2, .int y2)]) (hF : F_X12_taken_j35 u y1 y2 = some rr) : W p l e (xR 4 0 0) s m args below meth cd H locs 0 0 (xQi G w0 (fun r z => r = rr ∧ z = ((mW G b u), sz)) below args s 0 0) (F0 m 35 ls []) := by
  have hx := hE.1; have hb := hE.2.1
  unfold F_X12_taken_j35 at hF
  refine lv_aload_n hx hb dX12_taken_35 rfl (lv_at hl 0 rfl) ?_
  refine lv_iload_n hx hb dX12_taken_36 rfl (lv_at hl 1 rfl) ?_
  obtain ⟨r13, k14, hF⟩ := xb_s hF
  refine kVi (As := [.int y1]) (rest := []) hE hl hD (c_X12_onShelf (b := b) k14) kl_X12_376 (mW_0 _ _ _) rfl rfl rfl rfl (Nat.le_of_ble_eq_true rfl) dX12_taken_37 ⟨Nat.le_of_ble_eq_true rfl, Nat.le_of_ble_eq_true rfl⟩ ⟨Nat.le_of_ble_eq_true rfl, Nat.le_of_ble_eq_true rfl⟩ (fun H locs (hD : mD G _ _ b u sz H locs) => ?_)
  refine lv_istore_n (lv' := [(3, .int r13), (0, .ref b), (1, .int y1), (2, .int y2)]) hx hb dX12_taken_40 rfl hl (by decide) rfl (fun ls hl => ?_)
  refine lv_iload_n hx hb dX12_taken_41 rfl (lv_at hl 0 rfl) ?_
  refine lv_if_ge (tgt := 58) hx hb dX12_taken_42 (by decide) (fun c15 => ?_) (fun c15 => ?_)
  · have hF := ite_p hF c15
    exact B_X12_taken_j58 hE hD (lv_sub hl [1, 2, 3, 0] rfl) hF
  · have hF := ite_n hF c15
    refine lv_aload_n hx hb dX12_taken_45 rfl (lv_at hl 1 rfl) ?_
    refine gf_X12_53 hE hD dX12_taken_46 ?_
    refine lv_iload_n hx hb dX12_taken_49 rfl (lv_at hl 2 rfl) ?_
    obtain ⟨h16, hF⟩ := ite_s hF
    refine ma_ld_28 hE hD h16 dX12_taken_50 ?_
    refine lv_iconst (v := (2 : Int32)) hx hb dX12_taken_51 (by decide) ?_
    refine lv_icmp_ge (tgt := 58) hx hb dX12_taken_52 (by decide) (fun c17 => ?_) (fun c17 => ?_)
    · have hF := ite_p hF c17
      exact B_X12_taken_j58 hE hD (lv_sub hl [1, 2, 3, 0] rfl) hF
    · have hF := ite_n hF c17
      refine lv_bipush (v := (-11 : Int32)) hx hb dX12_taken_55 (by decide) ?_
      obtain rfl := Option.some.inj hF
      exact x_iret hE hD ⟨rfl, rfl⟩ (by omega) (by omega) dX12_taken_57
def F_X12_taken_j33 (u : xS)  : Option Int32 := some (-1 : Int32)
theorem B_X12_taken_j33 {p : Program} {l : Launch} {e : Env} {s : State} {m : MethodId} {args : Array Value} {below : List Frame} {meth : Method} {cd : Code} {G : xG} {w0 : xW} {b sz : Nat} {rr : Int32} (hE : xE p s m args meth cd cX12_taken RX12 G 5 (Option.some Jvm.ClassFile.FieldType.int)) {u : xS}  {H : Heap} {locs : List Loc} {ls : Array Slot} (hD : mD G (xA w0 s.heap.size) s.heap b u sz H locs) (hl : lv_has ls 5 [(0, .ref b)]) (hF : F_X12_taken_j33 u  = some rr) : W p l e (xR 4 0 0) s m args below meth cd H locs 0 0 (xQi G w0 (fun r z => r = rr ∧ z = ((mW G b u), sz)) below args s 0 0) (F0 m 33 ls []) := by
  have hx := hE.1; have hb := hE.2.1
  unfold F_X12_taken_j33 at hF
  refine lv_iconst (v := (-1 : Int32)) hx hb dX12_taken_33 (by decide) ?_
  obtain rfl := Option.some.inj hF
  exact x_iret hE hD ⟨rfl, rfl⟩ (by omega) (by omega) dX12_taken_34
def F_X12_taken (u : xS) (xa : Int32) (xb : Int32) : Option Int32 := (F_X12_isOne xa).bind (fun r18 => if r18 = 0 then F_X12_taken_j33 u else (F_X12_in xb.toInt64 (0 : Int64) (5 : Int64)).bind (fun r22 => if r22 = 0 then (F_X12_in xb.toInt64 (10 : Int64) (14 : Int64)).bind (fun r26 => if r26 = 0 then F_X12_taken_j33 u else F_X12_taken_j35 u xa xb) else F_X12_taken_j35 u xa xb))
theorem c_X12_taken {l : Launch} {G : xG} {b sz : Nat} {rr : Int32} {u : xS} {xa : Int32} {xb : Int32} (hF : F_X12_taken u xa xb = some rr) : xMi l G yX12_taken cX12_taken 5 (Option.some Jvm.ClassFile.FieldType.int) 4 0 0 [.ref b, .int xa, .int xb] (mW G b u) sz (fun r z => r = rr ∧ z = ((mW G b u), sz)) := by
  unfold F_X12_taken at hF
  refine x_startI rfl (Nat.le_of_ble_eq_true rfl) (fun p e s m args below meth cd ls hE hnm hl hD => ?_)
  have hx := hE.1; have hb := hE.2.1
  have hl : lv_has ls 5 [(0, .ref b), (1, .int xa), (2, .int xb)] := hl
  have hD : mD G (xA (mW G b u) s.heap.size) s.heap b u sz s.heap [] := hD
  refine lv_iload_n hx hb dX12_taken_0 rfl (lv_at hl 1 rfl) ?_
  obtain ⟨r18, k19, hF⟩ := xb_s hF
  refine kSz (As := [.int xa]) (rest := []) hE hl hD (c_X12_isOne k19) kl_X12_360 rfl rfl (Nat.le_of_ble_eq_true rfl) dX12_taken_1 ⟨Nat.le_of_ble_eq_true rfl, Nat.le_of_ble_eq_true rfl⟩ ⟨Nat.le_of_ble_eq_true rfl, Nat.le_of_ble_eq_true rfl⟩ (fun H locs z20 (hD : mD G _ _ b u sz H locs) => ?_)
  refine lv_if_eq (tgt := 33) hx hb dX12_taken_4 (by decide) (fun c21 => ?_) (fun c21 => ?_)
  · have hF := ite_p hF c21
    exact B_X12_taken_j33 hE hD (lv_sub hl [0] rfl) hF
  · have hF := ite_n hF c21
    refine lv_iload_n hx hb dX12_taken_7 rfl (lv_at hl 2 rfl) ?_
    refine lv_i2l (v := xb.toInt64) hx hb dX12_taken_8 rfl ?_
    refine lv_lconst (v := (0 : Int64)) hx hb dX12_taken_9 (by decide) ?_
    refine lv_ldc2 (v := (5 : Int64)) hx hb hE.2.2.1 (hE.2.2.2.1 _ kw6_50) dX12_taken_10 ?_
    obtain ⟨r22, k23, hF⟩ := xb_s hF
    refine kSz (As := [.long xb.toInt64, .long (0 : Int64), .long (5 : Int64)]) (rest := []) hE hl hD (c_X12_in k23) kl_X12_67 rfl rfl (Nat.le_of_ble_eq_true rfl) dX12_taken_13 ⟨Nat.le_of_ble_eq_true rfl, Nat.le_of_ble_eq_true rfl⟩ ⟨Nat.le_of_ble_eq_true rfl, Nat.le_of_ble_eq_true rfl⟩ (fun H locs z24 (hD : mD G _ _ b u sz H locs) => ?_)
    refine lv_if_ne (tgt := 35) hx hb dX12_taken_16 (by decide) (fun c25 => ?_) (fun c25 => ?_)
    · have hF := ite_n hF c25
      exact B_X12_taken_j35 hE hD (lv_sub hl [0, 1, 2] rfl) hF
    · have hF := ite_p hF c25
      refine lv_iload_n hx hb dX12_taken_19 rfl (lv_at hl 2 rfl) ?_
      refine lv_i2l (v := xb.toInt64) hx hb dX12_taken_20 rfl ?_
      refine lv_ldc2 (v := (10 : Int64)) hx hb hE.2.2.1 (hE.2.2.2.1 _ kw7_227) dX12_taken_21 ?_
      refine lv_ldc2 (v := (14 : Int64)) hx hb hE.2.2.1 (hE.2.2.2.1 _ kw7_228) dX12_taken_24 ?_
      obtain ⟨r26, k27, hF⟩ := xb_s hF
      refine kSz (As := [.long xb.toInt64, .long (10 : Int64), .long (14 : Int64)]) (rest := []) hE hl hD (c_X12_in k27) kl_X12_67 rfl rfl (Nat.le_of_ble_eq_true rfl) dX12_taken_27 ⟨Nat.le_of_ble_eq_true rfl, Nat.le_of_ble_eq_true rfl⟩ ⟨Nat.le_of_ble_eq_true rfl, Nat.le_of_ble_eq_true rfl⟩ (fun H locs z28 (hD : mD G _ _ b u sz H locs) => ?_)
      refine lv_if_ne (tgt := 35) hx hb dX12_taken_30 (by decide) (fun c29 => ?_) (fun c29 => ?_)
      · have hF := ite_n hF c29
        exact B_X12_taken_j35 hE hD (lv_sub hl [0, 1, 2] rfl) hF
      · have hF := ite_p hF c29
        exact B_X12_taken_j33 hE hD (lv_sub hl [0] rfl) hF
def F_X12_runs_j36 (u : xS)  : Option (xS) := some u
theorem B_X12_runs_j36 {p : Program} {l : Launch} {e : Env} {s : State} {m : MethodId} {args : Array Value} {below : List Frame} {meth : Method} {cd : Code} {G : xG} {w0 : xW} {b sz : Nat} {rr : (xS)} (hE : xE p s m args meth cd cX12_runs RX12 G 2 (Option.none : Option Jvm.ClassFile.FieldType)) {u : xS}  {H : Heap} {locs : List Loc} {ls : Array Slot} (hD : mD G (xA w0 s.heap.size) s.heap b u sz H locs) (hl : lv_has ls 2 [(0, .ref b)]) (hF : F_X12_runs_j36 u  = some rr) : W p l e (xR 1 0 0) s m args below meth cd H locs 0 0 (xQv G w0 (fun z => z = ((mW G b rr), sz)) below args s 0 0) (F0 m 36 ls []) := by
  have hx := hE.1; have hb := hE.2.1
  unfold F_X12_runs_j36 at hF
  obtain rfl := Option.some.inj hF
  exact x_vret hE hD rfl (by omega) (by omega) dX12_runs_36
def F_X12_runs_j26 (u : xS)  : Option (xS) := xlet (mS u 32 ((u.1 32) + (1 : Int32))) (fun u1 => F_X12_runs_j36 u1)
theorem B_X12_runs_j26 {p : Program} {l : Launch} {e : Env} {s : State} {m : MethodId} {args : Array Value} {below : List Frame} {meth : Method} {cd : Code} {G : xG} {w0 : xW} {b sz : Nat} {rr : (xS)} (hE : xE p s m args meth cd cX12_runs RX12 G 2 (Option.none : Option Jvm.ClassFile.FieldType)) {u : xS}  {H : Heap} {locs : List Loc} {ls : Array Slot} (hD : mD G (xA w0 s.heap.size) s.heap b u sz H locs) (hl : lv_has ls 2 [(0, .ref b)]) (hF : F_X12_runs_j26 u  = some rr) : W p l e (xR 1 0 0) s m args below meth cd H locs 0 0 (xQv G w0 (fun z => z = ((mW G b rr), sz)) below args s 0 0) (F0 m 26 ls []) := by
  have hx := hE.1; have hb := hE.2.1
  unfold F_X12_runs_j26 at hF
  refine lv_aload_n hx hb dX12_runs_26 rfl (lv_at hl 0 rfl) ?_
  refine lv_dup hx hb dX12_runs_27 rfl ?_
  refine gf_X12_382 hE hD dX12_runs_28 ?_
  refine lv_iconst (v := (1 : Int32)) hx hb dX12_runs_31 (by decide) ?_
  refine lv_iadd hx hb dX12_runs_32 ?_
  refine pf_X12_382 hE hD dX12_runs_33 (fun u1 H locs eu1 hD => ?_)
  have hF := xlet_e hF eu1
  exact B_X12_runs_j36 hE hD (lv_sub hl [0] rfl) hF
def F_X12_runs (u : xS) (xa : Int32) : Option (xS) := if (u.1 36) = 0 then if (30 : Int32) ≤ (u.1 32) then F_X12_runs_j26 u else if xIn (u.1 32) 30 then xlet (mA u 31 (u.1 32).toNatClampNeg xa) (fun u5 => F_X12_runs_j26 u5) else none else F_X12_runs_j36 u
theorem c_X12_runs {l : Launch} {G : xG} {b sz : Nat} {rr : (xS)} {u : xS} {xa : Int32} (hF : F_X12_runs u xa = some rr) : xMv l G yX12_runs cX12_runs 2 (Option.none : Option Jvm.ClassFile.FieldType) 1 0 0 [.ref b, .int xa] (mW G b u) sz (fun z => z = ((mW G b rr), sz)) := by
  unfold F_X12_runs at hF
  refine x_startV rfl (Nat.le_of_ble_eq_true rfl) (fun p e s m args below meth cd ls hE hnm hl hD => ?_)
  have hx := hE.1; have hb := hE.2.1
  have hl : lv_has ls 2 [(0, .ref b), (1, .int xa)] := hl
  have hD : mD G (xA (mW G b u) s.heap.size) s.heap b u sz s.heap [] := hD
  refine lv_aload_n hx hb dX12_runs_0 rfl (lv_at hl 0 rfl) ?_
  refine gf_X12_379 hE hD dX12_runs_1 ?_
  refine lv_if_ne (tgt := 36) hx hb dX12_runs_4 (by decide) (fun c2 => ?_) (fun c2 => ?_)
  · have hF := ite_n hF c2
    exact B_X12_runs_j36 hE hD (lv_sub hl [0] rfl) hF
  · have hF := ite_p hF c2
    refine lv_aload_n hx hb dX12_runs_7 rfl (lv_at hl 0 rfl) ?_
    refine gf_X12_382 hE hD dX12_runs_8 ?_
    refine lv_bipush (v := (30 : Int32)) hx hb dX12_runs_11 (by decide) ?_
    refine lv_icmp_ge (tgt := 26) hx hb dX12_runs_13 (by decide) (fun c3 => ?_) (fun c3 => ?_)
    · have hF := ite_p hF c3
      exact B_X12_runs_j26 hE hD (lv_sub hl [0] rfl) hF
    · have hF := ite_n hF c3
      refine lv_aload_n hx hb dX12_runs_16 rfl (lv_at hl 0 rfl) ?_
      refine gf_X12_62 hE hD dX12_runs_17 ?_
      refine lv_aload_n hx hb dX12_runs_20 rfl (lv_at hl 0 rfl) ?_
      refine gf_X12_382 hE hD dX12_runs_21 ?_
      refine lv_iload_n hx hb dX12_runs_24 rfl (lv_at hl 1 rfl) ?_
      obtain ⟨h4, hF⟩ := ite_s hF
      refine ma_st_31 hE hD h4 dX12_runs_25 (fun u5 H locs eu5 hD => ?_)
      have hF := xlet_e hF eu5
      exact B_X12_runs_j26 hE hD (lv_sub hl [0] rfl) hF
def F_X12_makes (u : xS) (xa : Int32) : Option (Int32 × xS) := if (u.1 35) = (1 : Int32) then (F_X12_runs u (20 : Int32)).bind (fun r9 => (F_X12_runs r9 (10 : Int32)).bind (fun r11 => some ((xa + (r11.1 33)) * (3 : Int32), r11))) else if (u.1 35) = (3 : Int32) then (F_X12_runs u (50 : Int32)).bind (fun r5 => (F_X12_runs r5 (10 : Int32)).bind (fun r7 => some ((xa + (r7.1 33)) ^^^ (r7.1 33), r7))) else (F_X12_runs u (10 : Int32)).bind (fun r3 => some (xa + (r3.1 33), r3))
theorem c_X12_makes {l : Launch} {G : xG} {b sz : Nat} {rr : (Int32 × xS)} {u : xS} {xa : Int32} (hF : F_X12_makes u xa = some rr) : xMi l G yX12_makes cX12_makes 2 (Option.some Jvm.ClassFile.FieldType.int) 2 0 0 [.ref b, .int xa] (mW G b u) sz (fun r z => r = rr.1 ∧ z = ((mW G b rr.2), sz)) := by
  unfold F_X12_makes at hF
  refine x_startI rfl (Nat.le_of_ble_eq_true rfl) (fun p e s m args below meth cd ls hE hnm hl hD => ?_)
  have hx := hE.1; have hb := hE.2.1
  have hl : lv_has ls 2 [(0, .ref b), (1, .int xa)] := hl
  have hD : mD G (xA (mW G b u) s.heap.size) s.heap b u sz s.heap [] := hD
  refine lv_aload_n hx hb dX12_makes_0 rfl (lv_at hl 0 rfl) ?_
  refine gf_X12_385 hE hD dX12_makes_1 ?_
  refine lv_iconst (v := (1 : Int32)) hx hb dX12_makes_4 (by decide) ?_
  refine lv_icmp_ne (tgt := 29) hx hb dX12_makes_5 (by decide) (fun c1 => ?_) (fun c1 => ?_)
  · have hF := ite_n hF c1
    refine lv_aload_n hx hb dX12_makes_29 rfl (lv_at hl 0 rfl) ?_
    refine gf_X12_385 hE hD dX12_makes_30 ?_
    refine lv_iconst (v := (3 : Int32)) hx hb dX12_makes_33 (by decide) ?_
    refine lv_icmp_ne (tgt := 61) hx hb dX12_makes_34 (by decide) (fun c2 => ?_) (fun c2 => ?_)
    · have hF := ite_n hF c2
      refine lv_aload_n hx hb dX12_makes_61 rfl (lv_at hl 0 rfl) ?_
      refine lv_bipush (v := (10 : Int32)) hx hb dX12_makes_62 (by decide) ?_
      obtain ⟨r3, k4, hF⟩ := xb_s hF
      refine kVv (As := [.int (10 : Int32)]) (rest := []) hE hl hD (c_X12_runs (b := b) k4) kl_X12_388 (mW_0 _ _ _) rfl rfl rfl rfl (Nat.le_of_ble_eq_true rfl) dX12_makes_64 ⟨Nat.le_of_ble_eq_true rfl, Nat.le_of_ble_eq_true rfl⟩ ⟨Nat.le_of_ble_eq_true rfl, Nat.le_of_ble_eq_true rfl⟩ (fun H locs (hD : mD G _ _ b r3 sz H locs) => ?_)
      refine lv_iload_n hx hb dX12_makes_67 rfl (lv_at hl 1 rfl) ?_
      refine lv_aload_n hx hb dX12_makes_68 rfl (lv_at hl 0 rfl) ?_
      refine gf_X12_391 hE hD dX12_makes_69 ?_
      refine lv_iadd hx hb dX12_makes_72 ?_
      obtain rfl := Option.some.inj hF
      exact x_iret hE hD ⟨rfl, rfl⟩ (by omega) (by omega) dX12_makes_73
    · have hF := ite_p hF c2
      refine lv_aload_n hx hb dX12_makes_37 rfl (lv_at hl 0 rfl) ?_
      refine lv_bipush (v := (50 : Int32)) hx hb dX12_makes_38 (by decide) ?_
      obtain ⟨r5, k6, hF⟩ := xb_s hF
      refine kVv (As := [.int (50 : Int32)]) (rest := []) hE hl hD (c_X12_runs (b := b) k6) kl_X12_388 (mW_0 _ _ _) rfl rfl rfl rfl (Nat.le_of_ble_eq_true rfl) dX12_makes_40 ⟨Nat.le_of_ble_eq_true rfl, Nat.le_of_ble_eq_true rfl⟩ ⟨Nat.le_of_ble_eq_true rfl, Nat.le_of_ble_eq_true rfl⟩ (fun H locs (hD : mD G _ _ b r5 sz H locs) => ?_)
      refine lv_aload_n hx hb dX12_makes_43 rfl (lv_at hl 0 rfl) ?_
      refine lv_bipush (v := (10 : Int32)) hx hb dX12_makes_44 (by decide) ?_
      obtain ⟨r7, k8, hF⟩ := xb_s hF
      refine kVv (As := [.int (10 : Int32)]) (rest := []) hE hl hD (c_X12_runs (b := b) k8) kl_X12_388 (mW_0 _ _ _) rfl rfl rfl rfl (Nat.le_of_ble_eq_true rfl) dX12_makes_46 ⟨Nat.le_of_ble_eq_true rfl, Nat.le_of_ble_eq_true rfl⟩ ⟨Nat.le_of_ble_eq_true rfl, Nat.le_of_ble_eq_true rfl⟩ (fun H locs (hD : mD G _ _ b r7 sz H locs) => ?_)
      refine lv_iload_n hx hb dX12_makes_49 rfl (lv_at hl 1 rfl) ?_
      refine lv_aload_n hx hb dX12_makes_50 rfl (lv_at hl 0 rfl) ?_
      refine gf_X12_391 hE hD dX12_makes_51 ?_
      refine lv_iadd hx hb dX12_makes_54 ?_
      refine lv_aload_n hx hb dX12_makes_55 rfl (lv_at hl 0 rfl) ?_
      refine gf_X12_391 hE hD dX12_makes_56 ?_
      refine lv_ixor hx hb dX12_makes_59 ?_
      obtain rfl := Option.some.inj hF
      exact x_iret hE hD ⟨rfl, rfl⟩ (by omega) (by omega) dX12_makes_60
  · have hF := ite_p hF c1
    refine lv_aload_n hx hb dX12_makes_8 rfl (lv_at hl 0 rfl) ?_
    refine lv_bipush (v := (20 : Int32)) hx hb dX12_makes_9 (by decide) ?_
    obtain ⟨r9, k10, hF⟩ := xb_s hF
    refine kVv (As := [.int (20 : Int32)]) (rest := []) hE hl hD (c_X12_runs (b := b) k10) kl_X12_388 (mW_0 _ _ _) rfl rfl rfl rfl (Nat.le_of_ble_eq_true rfl) dX12_makes_11 ⟨Nat.le_of_ble_eq_true rfl, Nat.le_of_ble_eq_true rfl⟩ ⟨Nat.le_of_ble_eq_true rfl, Nat.le_of_ble_eq_true rfl⟩ (fun H locs (hD : mD G _ _ b r9 sz H locs) => ?_)
    refine lv_aload_n hx hb dX12_makes_14 rfl (lv_at hl 0 rfl) ?_
    refine lv_bipush (v := (10 : Int32)) hx hb dX12_makes_15 (by decide) ?_
    obtain ⟨r11, k12, hF⟩ := xb_s hF
    refine kVv (As := [.int (10 : Int32)]) (rest := []) hE hl hD (c_X12_runs (b := b) k12) kl_X12_388 (mW_0 _ _ _) rfl rfl rfl rfl (Nat.le_of_ble_eq_true rfl) dX12_makes_17 ⟨Nat.le_of_ble_eq_true rfl, Nat.le_of_ble_eq_true rfl⟩ ⟨Nat.le_of_ble_eq_true rfl, Nat.le_of_ble_eq_true rfl⟩ (fun H locs (hD : mD G _ _ b r11 sz H locs) => ?_)
    refine lv_iload_n hx hb dX12_makes_20 rfl (lv_at hl 1 rfl) ?_
    refine lv_aload_n hx hb dX12_makes_21 rfl (lv_at hl 0 rfl) ?_
    refine gf_X12_391 hE hD dX12_makes_22 ?_
    refine lv_iadd hx hb dX12_makes_25 ?_
    refine lv_iconst (v := (3 : Int32)) hx hb dX12_makes_26 (by decide) ?_
    refine lv_imul hx hb dX12_makes_27 ?_
    obtain rfl := Option.some.inj hF
    exact x_iret hE hD ⟨rfl, rfl⟩ (by omega) (by omega) dX12_makes_28
def F_X12_takes_j88 (u : xS) (s0 : Int32) : Option (Int32 × xS) := some (s0, u)
theorem B_X12_takes_j88 {p : Program} {l : Launch} {e : Env} {s : State} {m : MethodId} {args : Array Value} {below : List Frame} {meth : Method} {cd : Code} {G : xG} {w0 : xW} {b sz : Nat} {rr : (Int32 × xS)} (hE : xE p s m args meth cd cX12_takes RX12 G 4 (Option.some Jvm.ClassFile.FieldType.int)) {u : xS} {s0 : Int32} {H : Heap} {locs : List Loc} {ls : Array Slot} (hD : mD G (xA w0 s.heap.size) s.heap b u sz H locs) (hl : lv_has ls 4 [(0, .ref b)]) (hF : F_X12_takes_j88 u s0 = some rr) : W p l e (xR 3 0 0) s m args below meth cd H locs 0 0 (xQi G w0 (fun r z => r = rr.1 ∧ z = ((mW G b rr.2), sz)) below args s 0 0) (F0 m 88 ls [.int s0]) := by
  have hx := hE.1; have hb := hE.2.1
  unfold F_X12_takes_j88 at hF
  obtain rfl := Option.some.inj hF
  exact x_iret hE hD ⟨rfl, rfl⟩ (by omega) (by omega) dX12_takes_88
def F_X12_takes_j46 (u : xS) (y1 : Int32) (y2 : Int32) : Option (Int32 × xS) := (F_X12_runs u (11 : Int32)).bind (fun r1 => (F_X12_makes r1 y1).bind (fun r3 => xlet (r3.1 * (2 : Int32)) (fun x5 => if y2 = 0 then if (r3.2.1 35) = (5 : Int32) then F_X12_takes_j88 r3.2 ((0 : Int32) - x5) else F_X12_takes_j88 r3.2 x5 else F_X12_takes_j88 r3.2 (x5 - (r3.2.1 34)))))
theorem B_X12_takes_j46 {p : Program} {l : Launch} {e : Env} {s : State} {m : MethodId} {args : Array Value} {below : List Frame} {meth : Method} {cd : Code} {G : xG} {w0 : xW} {b sz : Nat} {rr : (Int32 × xS)} (hE : xE p s m args meth cd cX12_takes RX12 G 4 (Option.some Jvm.ClassFile.FieldType.int)) {u : xS} {y1 : Int32} {y2 : Int32} {H : Heap} {locs : List Loc} {ls : Array Slot} (hD : mD G (xA w0 s.heap.size) s.heap b u sz H locs) (hl : lv_has ls 4 [(0, .ref b), (1, .int y1), (2, .int y2)]) (hF : F_X12_takes_j46 u y1 y2 = some rr) : W p l e (xR 3 0 0) s m args below meth cd H locs 0 0 (xQi G w0 (fun r z => r = rr.1 ∧ z = ((mW G b rr.2), sz)) below args s 0 0) (F0 m 46 ls []) := by
  have hx := hE.1; have hb := hE.2.1
  unfold F_X12_takes_j46 at hF
  refine lv_aload_n hx hb dX12_takes_46 rfl (lv_at hl 0 rfl) ?_
  refine lv_bipush (v := (11 : Int32)) hx hb dX12_takes_47 (by decide) ?_
  obtain ⟨r1, k2, hF⟩ := xb_s hF
  refine kVv (As := [.int (11 : Int32)]) (rest := []) hE hl hD (c_X12_runs (b := b) k2) kl_X12_388 (mW_0 _ _ _) rfl rfl rfl rfl (Nat.le_of_ble_eq_true rfl) dX12_takes_49 ⟨Nat.le_of_ble_eq_true rfl, Nat.le_of_ble_eq_true rfl⟩ ⟨Nat.le_of_ble_eq_true rfl, Nat.le_of_ble_eq_true rfl⟩ (fun H locs (hD : mD G _ _ b r1 sz H locs) => ?_)
  refine lv_aload_n hx hb dX12_takes_52 rfl (lv_at hl 0 rfl) ?_
  refine lv_iload_n hx hb dX12_takes_53 rfl (lv_at hl 1 rfl) ?_
  obtain ⟨r3, k4, hF⟩ := xb_s hF
  refine kVi (As := [.int y1]) (rest := []) hE hl hD (c_X12_makes (b := b) k4) kl_X12_394 (mW_0 _ _ _) rfl rfl rfl rfl (Nat.le_of_ble_eq_true rfl) dX12_takes_54 ⟨Nat.le_of_ble_eq_true rfl, Nat.le_of_ble_eq_true rfl⟩ ⟨Nat.le_of_ble_eq_true rfl, Nat.le_of_ble_eq_true rfl⟩ (fun H locs (hD : mD G _ _ b r3.2 sz H locs) => ?_)
  refine lv_iconst (v := (2 : Int32)) hx hb dX12_takes_57 (by decide) ?_
  refine lv_imul hx hb dX12_takes_58 ?_
  refine lv_topi (fun x5 ex5 => ?_)
  have hF := xlet_e hF ex5
  refine lv_istore_n (lv' := [(3, .int x5), (0, .ref b), (1, .int y1), (2, .int y2)]) hx hb dX12_takes_59 rfl hl (by decide) rfl (fun ls hl => ?_)
  refine lv_iload_n hx hb dX12_takes_60 rfl (lv_at hl 3 rfl) ?_
  refine lv_if_eq (tgt := 73) hx hb dX12_takes_61 (by decide) (fun c6 => ?_) (fun c6 => ?_)
  · have hF := ite_p hF c6
    refine lv_aload_n hx hb dX12_takes_73 rfl (lv_at hl 1 rfl) ?_
    refine gf_X12_385 hE hD dX12_takes_74 ?_
    refine lv_iconst (v := (5 : Int32)) hx hb dX12_takes_77 (by decide) ?_
    refine lv_icmp_ne (tgt := 87) hx hb dX12_takes_78 (by decide) (fun c7 => ?_) (fun c7 => ?_)
    · have hF := ite_n hF c7
      refine lv_iload_n hx hb dX12_takes_87 rfl (lv_at hl 0 rfl) ?_
      exact B_X12_takes_j88 hE hD (lv_sub hl [1] rfl) hF
    · have hF := ite_p hF c7
      refine lv_iconst (v := (0 : Int32)) hx hb dX12_takes_81 (by decide) ?_
      refine lv_iload_n hx hb dX12_takes_82 rfl (lv_at hl 0 rfl) ?_
      refine lv_isub hx hb dX12_takes_83 ?_
      refine lv_goto (tgt := 88) hx hb dX12_takes_84 (by decide) ?_
      exact B_X12_takes_j88 hE hD (lv_sub hl [1] rfl) hF
  · have hF := ite_n hF c6
    refine lv_iload_n hx hb dX12_takes_64 rfl (lv_at hl 0 rfl) ?_
    refine lv_aload_n hx hb dX12_takes_65 rfl (lv_at hl 1 rfl) ?_
    refine gf_X12_397 hE hD dX12_takes_66 ?_
    refine lv_isub hx hb dX12_takes_69 ?_
    refine lv_goto (tgt := 88) hx hb dX12_takes_70 (by decide) ?_
    exact B_X12_takes_j88 hE hD (lv_sub hl [1] rfl) hF
def F_X12_takes_j32 (u : xS) (y1 : Int32) (y2 : Int32) : Option (Int32 × xS) := if (u.1 35) = (5 : Int32) then (F_X12_runs u (60 : Int32)).bind (fun r9 => F_X12_takes_j46 r9 y1 y2) else F_X12_takes_j46 u y1 y2
theorem B_X12_takes_j32 {p : Program} {l : Launch} {e : Env} {s : State} {m : MethodId} {args : Array Value} {below : List Frame} {meth : Method} {cd : Code} {G : xG} {w0 : xW} {b sz : Nat} {rr : (Int32 × xS)} (hE : xE p s m args meth cd cX12_takes RX12 G 4 (Option.some Jvm.ClassFile.FieldType.int)) {u : xS} {y1 : Int32} {y2 : Int32} {H : Heap} {locs : List Loc} {ls : Array Slot} (hD : mD G (xA w0 s.heap.size) s.heap b u sz H locs) (hl : lv_has ls 4 [(0, .ref b), (1, .int y1), (2, .int y2)]) (hF : F_X12_takes_j32 u y1 y2 = some rr) : W p l e (xR 3 0 0) s m args below meth cd H locs 0 0 (xQi G w0 (fun r z => r = rr.1 ∧ z = ((mW G b rr.2), sz)) below args s 0 0) (F0 m 32 ls []) := by
  have hx := hE.1; have hb := hE.2.1
  unfold F_X12_takes_j32 at hF
  refine lv_aload_n hx hb dX12_takes_32 rfl (lv_at hl 0 rfl) ?_
  refine gf_X12_385 hE hD dX12_takes_33 ?_
  refine lv_iconst (v := (5 : Int32)) hx hb dX12_takes_36 (by decide) ?_
  refine lv_icmp_ne (tgt := 46) hx hb dX12_takes_37 (by decide) (fun c8 => ?_) (fun c8 => ?_)
  · have hF := ite_n hF c8
    exact B_X12_takes_j46 hE hD (lv_sub hl [0, 1, 2] rfl) hF
  · have hF := ite_p hF c8
    refine lv_aload_n hx hb dX12_takes_40 rfl (lv_at hl 0 rfl) ?_
    refine lv_bipush (v := (60 : Int32)) hx hb dX12_takes_41 (by decide) ?_
    obtain ⟨r9, k10, hF⟩ := xb_s hF
    refine kVv (As := [.int (60 : Int32)]) (rest := []) hE hl hD (c_X12_runs (b := b) k10) kl_X12_388 (mW_0 _ _ _) rfl rfl rfl rfl (Nat.le_of_ble_eq_true rfl) dX12_takes_43 ⟨Nat.le_of_ble_eq_true rfl, Nat.le_of_ble_eq_true rfl⟩ ⟨Nat.le_of_ble_eq_true rfl, Nat.le_of_ble_eq_true rfl⟩ (fun H locs (hD : mD G _ _ b r9 sz H locs) => ?_)
    exact B_X12_takes_j46 hE hD (lv_sub hl [0, 1, 2] rfl) hF
def F_X12_takes_j21 (u : xS) (y1 : Int32) (s0 : Int32) : Option (Int32 × xS) := if s0 = 0 then F_X12_takes_j32 u y1 s0 else (F_X12_runs u (30 : Int32)).bind (fun r12 => F_X12_takes_j32 r12 y1 s0)
theorem B_X12_takes_j21 {p : Program} {l : Launch} {e : Env} {s : State} {m : MethodId} {args : Array Value} {below : List Frame} {meth : Method} {cd : Code} {G : xG} {w0 : xW} {b sz : Nat} {rr : (Int32 × xS)} (hE : xE p s m args meth cd cX12_takes RX12 G 4 (Option.some Jvm.ClassFile.FieldType.int)) {u : xS} {y1 : Int32} {s0 : Int32} {H : Heap} {locs : List Loc} {ls : Array Slot} (hD : mD G (xA w0 s.heap.size) s.heap b u sz H locs) (hl : lv_has ls 4 [(0, .ref b), (1, .int y1)]) (hF : F_X12_takes_j21 u y1 s0 = some rr) : W p l e (xR 3 0 0) s m args below meth cd H locs 0 0 (xQi G w0 (fun r z => r = rr.1 ∧ z = ((mW G b rr.2), sz)) below args s 0 0) (F0 m 21 ls [.int s0]) := by
  have hx := hE.1; have hb := hE.2.1
  unfold F_X12_takes_j21 at hF
  refine lv_istore_n (lv' := [(2, .int s0), (0, .ref b), (1, .int y1)]) hx hb dX12_takes_21 rfl hl (by decide) rfl (fun ls hl => ?_)
  refine lv_iload_n hx hb dX12_takes_22 rfl (lv_at hl 0 rfl) ?_
  refine lv_if_eq (tgt := 32) hx hb dX12_takes_23 (by decide) (fun c11 => ?_) (fun c11 => ?_)
  · have hF := ite_p hF c11
    exact B_X12_takes_j32 hE hD (lv_sub hl [1, 2, 0] rfl) hF
  · have hF := ite_n hF c11
    refine lv_aload_n hx hb dX12_takes_26 rfl (lv_at hl 1 rfl) ?_
    refine lv_bipush (v := (30 : Int32)) hx hb dX12_takes_27 (by decide) ?_
    obtain ⟨r12, k13, hF⟩ := xb_s hF
    refine kVv (As := [.int (30 : Int32)]) (rest := []) hE hl hD (c_X12_runs (b := b) k13) kl_X12_388 (mW_0 _ _ _) rfl rfl rfl rfl (Nat.le_of_ble_eq_true rfl) dX12_takes_29 ⟨Nat.le_of_ble_eq_true rfl, Nat.le_of_ble_eq_true rfl⟩ ⟨Nat.le_of_ble_eq_true rfl, Nat.le_of_ble_eq_true rfl⟩ (fun H locs (hD : mD G _ _ b r12 sz H locs) => ?_)
    exact B_X12_takes_j32 hE hD (lv_sub hl [1, 2, 0] rfl) hF
def F_X12_takes_j16 (u : xS) (y1 : Int32) : Option (Int32 × xS) := F_X12_takes_j21 u y1 (1 : Int32)
theorem B_X12_takes_j16 {p : Program} {l : Launch} {e : Env} {s : State} {m : MethodId} {args : Array Value} {below : List Frame} {meth : Method} {cd : Code} {G : xG} {w0 : xW} {b sz : Nat} {rr : (Int32 × xS)} (hE : xE p s m args meth cd cX12_takes RX12 G 4 (Option.some Jvm.ClassFile.FieldType.int)) {u : xS} {y1 : Int32} {H : Heap} {locs : List Loc} {ls : Array Slot} (hD : mD G (xA w0 s.heap.size) s.heap b u sz H locs) (hl : lv_has ls 4 [(0, .ref b), (1, .int y1)]) (hF : F_X12_takes_j16 u y1 = some rr) : W p l e (xR 3 0 0) s m args below meth cd H locs 0 0 (xQi G w0 (fun r z => r = rr.1 ∧ z = ((mW G b rr.2), sz)) below args s 0 0) (F0 m 16 ls []) := by
  have hx := hE.1; have hb := hE.2.1
  unfold F_X12_takes_j16 at hF
  refine lv_iconst (v := (1 : Int32)) hx hb dX12_takes_16 (by decide) ?_
  refine lv_goto (tgt := 21) hx hb dX12_takes_17 (by decide) ?_
  exact B_X12_takes_j21 hE hD (lv_sub hl [0, 1] rfl) hF
def F_X12_takes (u : xS) (xa : Int32) : Option (Int32 × xS) := if (u.1 35) = (2 : Int32) then F_X12_takes_j16 u xa else if (u.1 35) = (3 : Int32) then F_X12_takes_j16 u xa else F_X12_takes_j21 u xa (0 : Int32)
theorem c_X12_takes {l : Launch} {G : xG} {b sz : Nat} {rr : (Int32 × xS)} {u : xS} {xa : Int32} (hF : F_X12_takes u xa = some rr) : xMi l G yX12_takes cX12_takes 4 (Option.some Jvm.ClassFile.FieldType.int) 3 0 0 [.ref b, .int xa] (mW G b u) sz (fun r z => r = rr.1 ∧ z = ((mW G b rr.2), sz)) := by
  unfold F_X12_takes at hF
  refine x_startI rfl (Nat.le_of_ble_eq_true rfl) (fun p e s m args below meth cd ls hE hnm hl hD => ?_)
  have hx := hE.1; have hb := hE.2.1
  have hl : lv_has ls 4 [(0, .ref b), (1, .int xa)] := hl
  have hD : mD G (xA (mW G b u) s.heap.size) s.heap b u sz s.heap [] := hD
  refine lv_aload_n hx hb dX12_takes_0 rfl (lv_at hl 0 rfl) ?_
  refine gf_X12_385 hE hD dX12_takes_1 ?_
  refine lv_iconst (v := (2 : Int32)) hx hb dX12_takes_4 (by decide) ?_
  refine lv_icmp_eq (tgt := 16) hx hb dX12_takes_5 (by decide) (fun c14 => ?_) (fun c14 => ?_)
  · have hF := ite_p hF c14
    exact B_X12_takes_j16 hE hD (lv_sub hl [0, 1] rfl) hF
  · have hF := ite_n hF c14
    refine lv_aload_n hx hb dX12_takes_8 rfl (lv_at hl 0 rfl) ?_
    refine gf_X12_385 hE hD dX12_takes_9 ?_
    refine lv_iconst (v := (3 : Int32)) hx hb dX12_takes_12 (by decide) ?_
    refine lv_icmp_ne (tgt := 20) hx hb dX12_takes_13 (by decide) (fun c15 => ?_) (fun c15 => ?_)
    · have hF := ite_n hF c15
      refine lv_iconst (v := (0 : Int32)) hx hb dX12_takes_20 (by decide) ?_
      exact B_X12_takes_j21 hE hD (lv_sub hl [0, 1] rfl) hF
    · have hF := ite_p hF c15
      exact B_X12_takes_j16 hE hD (lv_sub hl [0, 1] rfl) hF
def F_X12_parts (u : xS) (xa : Int32) : Option (Int32 × xS) := (F_X12_runs u (12 : Int32)).bind (fun r1 => if (r1.1 34) = (r1.1 33) then xlet (mS r1 36 (1 : Int32)) (fun u5 => some ((0 : Int32), u5)) else if ¬ ((r1.1 34) - (r1.1 33)) = 0 then some (xa / ((r1.1 34) - (r1.1 33)), r1) else none)
theorem c_X12_parts {l : Launch} {G : xG} {b sz : Nat} {rr : (Int32 × xS)} {u : xS} {xa : Int32} (hF : F_X12_parts u xa = some rr) : xMi l G yX12_parts cX12_parts 2 (Option.some Jvm.ClassFile.FieldType.int) 2 0 0 [.ref b, .int xa] (mW G b u) sz (fun r z => r = rr.1 ∧ z = ((mW G b rr.2), sz)) := by
  unfold F_X12_parts at hF
  refine x_startI rfl (Nat.le_of_ble_eq_true rfl) (fun p e s m args below meth cd ls hE hnm hl hD => ?_)
  have hx := hE.1; have hb := hE.2.1
  have hl : lv_has ls 2 [(0, .ref b), (1, .int xa)] := hl
  have hD : mD G (xA (mW G b u) s.heap.size) s.heap b u sz s.heap [] := hD
  refine lv_aload_n hx hb dX12_parts_0 rfl (lv_at hl 0 rfl) ?_
  refine lv_bipush (v := (12 : Int32)) hx hb dX12_parts_1 (by decide) ?_
  obtain ⟨r1, k2, hF⟩ := xb_s hF
  refine kVv (As := [.int (12 : Int32)]) (rest := []) hE hl hD (c_X12_runs (b := b) k2) kl_X12_388 (mW_0 _ _ _) rfl rfl rfl rfl (Nat.le_of_ble_eq_true rfl) dX12_parts_3 ⟨Nat.le_of_ble_eq_true rfl, Nat.le_of_ble_eq_true rfl⟩ ⟨Nat.le_of_ble_eq_true rfl, Nat.le_of_ble_eq_true rfl⟩ (fun H locs (hD : mD G _ _ b r1 sz H locs) => ?_)
  refine lv_aload_n hx hb dX12_parts_6 rfl (lv_at hl 0 rfl) ?_
  refine gf_X12_397 hE hD dX12_parts_7 ?_
  refine lv_aload_n hx hb dX12_parts_10 rfl (lv_at hl 0 rfl) ?_
  refine gf_X12_391 hE hD dX12_parts_11 ?_
  refine lv_icmp_ne (tgt := 24) hx hb dX12_parts_14 (by decide) (fun c3 => ?_) (fun c3 => ?_)
  · have hF := ite_n hF c3
    refine lv_iload_n hx hb dX12_parts_24 rfl (lv_at hl 1 rfl) ?_
    refine lv_aload_n hx hb dX12_parts_25 rfl (lv_at hl 0 rfl) ?_
    refine gf_X12_397 hE hD dX12_parts_26 ?_
    refine lv_aload_n hx hb dX12_parts_29 rfl (lv_at hl 0 rfl) ?_
    refine gf_X12_391 hE hD dX12_parts_30 ?_
    refine lv_isub hx hb dX12_parts_33 ?_
    obtain ⟨h4, hF⟩ := ite_s hF
    refine lv_idiv hx hb dX12_parts_34 h4 ?_
    obtain rfl := Option.some.inj hF
    exact x_iret hE hD ⟨rfl, rfl⟩ (by omega) (by omega) dX12_parts_35
  · have hF := ite_p hF c3
    refine lv_aload_n hx hb dX12_parts_17 rfl (lv_at hl 0 rfl) ?_
    refine lv_iconst (v := (1 : Int32)) hx hb dX12_parts_18 (by decide) ?_
    refine pf_X12_379 hE hD (by decide) dX12_parts_19 (fun u5 H locs eu5 hD => ?_)
    have hF := xlet_e hF eu5
    refine lv_iconst (v := (0 : Int32)) hx hb dX12_parts_22 (by decide) ?_
    obtain rfl := Option.some.inj hF
    exact x_iret hE hD ⟨rfl, rfl⟩ (by omega) (by omega) dX12_parts_23
def F_X12_shares_j71 (u : xS) (s0 : Int32) : Option (Int32 × xS) := some (s0, u)
theorem B_X12_shares_j71 {p : Program} {l : Launch} {e : Env} {s : State} {m : MethodId} {args : Array Value} {below : List Frame} {meth : Method} {cd : Code} {G : xG} {w0 : xW} {b sz : Nat} {rr : (Int32 × xS)} (hE : xE p s m args meth cd cX12_shares RX12 G 3 (Option.some Jvm.ClassFile.FieldType.int)) {u : xS} {s0 : Int32} {H : Heap} {locs : List Loc} {ls : Array Slot} (hD : mD G (xA w0 s.heap.size) s.heap b u sz H locs) (hl : lv_has ls 3 [(0, .ref b)]) (hF : F_X12_shares_j71 u s0 = some rr) : W p l e (xR 3 0 0) s m args below meth cd H locs 0 0 (xQi G w0 (fun r z => r = rr.1 ∧ z = ((mW G b rr.2), sz)) below args s 0 0) (F0 m 71 ls [.int s0]) := by
  have hx := hE.1; have hb := hE.2.1
  unfold F_X12_shares_j71 at hF
  obtain rfl := Option.some.inj hF
  exact x_iret hE hD ⟨rfl, rfl⟩ (by omega) (by omega) dX12_shares_71
def F_X12_shares (u : xS) (xa : Int32) : Option (Int32 × xS) := if (u.1 35) = (4 : Int32) then (F_X12_runs u (40 : Int32)).bind (fun r14 => (F_X12_parts r14 (xa + (1 : Int32))).bind (fun r16 => some (r16.1, r16.2))) else if (u.1 35) = (5 : Int32) then (F_X12_runs u (61 : Int32)).bind (fun r5 => (F_X12_runs r5 (40 : Int32)).bind (fun r7 => (F_X12_parts r7 (xa + (1 : Int32))).bind (fun r9 => if (r9.2.1 36) = 0 then (F_X12_makes r9.2 (r9.2.1 34)).bind (fun r12 => F_X12_shares_j71 r12.2 (r9.1 + r12.1)) else F_X12_shares_j71 r9.2 (0 : Int32)))) else (F_X12_parts u xa).bind (fun r3 => some (r3.1, r3.2))
theorem c_X12_shares {l : Launch} {G : xG} {b sz : Nat} {rr : (Int32 × xS)} {u : xS} {xa : Int32} (hF : F_X12_shares u xa = some rr) : xMi l G yX12_shares cX12_shares 3 (Option.some Jvm.ClassFile.FieldType.int) 3 0 0 [.ref b, .int xa] (mW G b u) sz (fun r z => r = rr.1 ∧ z = ((mW G b rr.2), sz)) := by
  unfold F_X12_shares at hF
  refine x_startI rfl (Nat.le_of_ble_eq_true rfl) (fun p e s m args below meth cd ls hE hnm hl hD => ?_)
  have hx := hE.1; have hb := hE.2.1
  have hl : lv_has ls 3 [(0, .ref b), (1, .int xa)] := hl
  have hD : mD G (xA (mW G b u) s.heap.size) s.heap b u sz s.heap [] := hD
  refine lv_aload_n hx hb dX12_shares_0 rfl (lv_at hl 0 rfl) ?_
  refine gf_X12_385 hE hD dX12_shares_1 ?_
  refine lv_iconst (v := (4 : Int32)) hx hb dX12_shares_4 (by decide) ?_
  refine lv_icmp_ne (tgt := 22) hx hb dX12_shares_5 (by decide) (fun c1 => ?_) (fun c1 => ?_)
  · have hF := ite_n hF c1
    refine lv_aload_n hx hb dX12_shares_22 rfl (lv_at hl 0 rfl) ?_
    refine gf_X12_385 hE hD dX12_shares_23 ?_
    refine lv_iconst (v := (5 : Int32)) hx hb dX12_shares_26 (by decide) ?_
    refine lv_icmp_ne (tgt := 72) hx hb dX12_shares_27 (by decide) (fun c2 => ?_) (fun c2 => ?_)
    · have hF := ite_n hF c2
      refine lv_aload_n hx hb dX12_shares_72 rfl (lv_at hl 0 rfl) ?_
      refine lv_iload_n hx hb dX12_shares_73 rfl (lv_at hl 1 rfl) ?_
      obtain ⟨r3, k4, hF⟩ := xb_s hF
      refine kVi (As := [.int xa]) (rest := []) hE hl hD (c_X12_parts (b := b) k4) kl_X12_400 (mW_0 _ _ _) rfl rfl rfl rfl (Nat.le_of_ble_eq_true rfl) dX12_shares_74 ⟨Nat.le_of_ble_eq_true rfl, Nat.le_of_ble_eq_true rfl⟩ ⟨Nat.le_of_ble_eq_true rfl, Nat.le_of_ble_eq_true rfl⟩ (fun H locs (hD : mD G _ _ b r3.2 sz H locs) => ?_)
      obtain rfl := Option.some.inj hF
      exact x_iret hE hD ⟨rfl, rfl⟩ (by omega) (by omega) dX12_shares_77
    · have hF := ite_p hF c2
      refine lv_aload_n hx hb dX12_shares_30 rfl (lv_at hl 0 rfl) ?_
      refine lv_bipush (v := (61 : Int32)) hx hb dX12_shares_31 (by decide) ?_
      obtain ⟨r5, k6, hF⟩ := xb_s hF
      refine kVv (As := [.int (61 : Int32)]) (rest := []) hE hl hD (c_X12_runs (b := b) k6) kl_X12_388 (mW_0 _ _ _) rfl rfl rfl rfl (Nat.le_of_ble_eq_true rfl) dX12_shares_33 ⟨Nat.le_of_ble_eq_true rfl, Nat.le_of_ble_eq_true rfl⟩ ⟨Nat.le_of_ble_eq_true rfl, Nat.le_of_ble_eq_true rfl⟩ (fun H locs (hD : mD G _ _ b r5 sz H locs) => ?_)
      refine lv_aload_n hx hb dX12_shares_36 rfl (lv_at hl 0 rfl) ?_
      refine lv_bipush (v := (40 : Int32)) hx hb dX12_shares_37 (by decide) ?_
      obtain ⟨r7, k8, hF⟩ := xb_s hF
      refine kVv (As := [.int (40 : Int32)]) (rest := []) hE hl hD (c_X12_runs (b := b) k8) kl_X12_388 (mW_0 _ _ _) rfl rfl rfl rfl (Nat.le_of_ble_eq_true rfl) dX12_shares_39 ⟨Nat.le_of_ble_eq_true rfl, Nat.le_of_ble_eq_true rfl⟩ ⟨Nat.le_of_ble_eq_true rfl, Nat.le_of_ble_eq_true rfl⟩ (fun H locs (hD : mD G _ _ b r7 sz H locs) => ?_)
      refine lv_aload_n hx hb dX12_shares_42 rfl (lv_at hl 0 rfl) ?_
      refine lv_iload_n hx hb dX12_shares_43 rfl (lv_at hl 1 rfl) ?_
      refine lv_iconst (v := (1 : Int32)) hx hb dX12_shares_44 (by decide) ?_
      refine lv_iadd hx hb dX12_shares_45 ?_
      obtain ⟨r9, k10, hF⟩ := xb_s hF
      refine kVi (As := [.int (xa + (1 : Int32))]) (rest := []) hE hl hD (c_X12_parts (b := b) k10) kl_X12_400 (mW_0 _ _ _) rfl rfl rfl rfl (Nat.le_of_ble_eq_true rfl) dX12_shares_46 ⟨Nat.le_of_ble_eq_true rfl, Nat.le_of_ble_eq_true rfl⟩ ⟨Nat.le_of_ble_eq_true rfl, Nat.le_of_ble_eq_true rfl⟩ (fun H locs (hD : mD G _ _ b r9.2 sz H locs) => ?_)
      refine lv_istore_n (lv' := [(2, .int r9.1), (0, .ref b), (1, .int xa)]) hx hb dX12_shares_49 rfl hl (by decide) rfl (fun ls hl => ?_)
      refine lv_aload_n hx hb dX12_shares_50 rfl (lv_at hl 1 rfl) ?_
      refine gf_X12_379 hE hD dX12_shares_51 ?_
      refine lv_if_eq (tgt := 61) hx hb dX12_shares_54 (by decide) (fun c11 => ?_) (fun c11 => ?_)
      · have hF := ite_p hF c11
        refine lv_iload_n hx hb dX12_shares_61 rfl (lv_at hl 0 rfl) ?_
        refine lv_aload_n hx hb dX12_shares_62 rfl (lv_at hl 1 rfl) ?_
        refine lv_aload_n hx hb dX12_shares_63 rfl (lv_at hl 1 rfl) ?_
        refine gf_X12_397 hE hD dX12_shares_64 ?_
        obtain ⟨r12, k13, hF⟩ := xb_s hF
        refine kVi (As := [.int (r9.2.1 34)]) (rest := [.int r9.1]) hE hl hD (c_X12_makes (b := b) k13) kl_X12_394 (mW_0 _ _ _) rfl rfl rfl rfl (Nat.le_of_ble_eq_true rfl) dX12_shares_67 ⟨Nat.le_of_ble_eq_true rfl, Nat.le_of_ble_eq_true rfl⟩ ⟨Nat.le_of_ble_eq_true rfl, Nat.le_of_ble_eq_true rfl⟩ (fun H locs (hD : mD G _ _ b r12.2 sz H locs) => ?_)
        refine lv_iadd hx hb dX12_shares_70 ?_
        exact B_X12_shares_j71 hE hD (lv_sub hl [1] rfl) hF
      · have hF := ite_n hF c11
        refine lv_iconst (v := (0 : Int32)) hx hb dX12_shares_57 (by decide) ?_
        refine lv_goto (tgt := 71) hx hb dX12_shares_58 (by decide) ?_
        exact B_X12_shares_j71 hE hD (lv_sub hl [1] rfl) hF
  · have hF := ite_p hF c1
    refine lv_aload_n hx hb dX12_shares_8 rfl (lv_at hl 0 rfl) ?_
    refine lv_bipush (v := (40 : Int32)) hx hb dX12_shares_9 (by decide) ?_
    obtain ⟨r14, k15, hF⟩ := xb_s hF
    refine kVv (As := [.int (40 : Int32)]) (rest := []) hE hl hD (c_X12_runs (b := b) k15) kl_X12_388 (mW_0 _ _ _) rfl rfl rfl rfl (Nat.le_of_ble_eq_true rfl) dX12_shares_11 ⟨Nat.le_of_ble_eq_true rfl, Nat.le_of_ble_eq_true rfl⟩ ⟨Nat.le_of_ble_eq_true rfl, Nat.le_of_ble_eq_true rfl⟩ (fun H locs (hD : mD G _ _ b r14 sz H locs) => ?_)
    refine lv_aload_n hx hb dX12_shares_14 rfl (lv_at hl 0 rfl) ?_
    refine lv_iload_n hx hb dX12_shares_15 rfl (lv_at hl 1 rfl) ?_
    refine lv_iconst (v := (1 : Int32)) hx hb dX12_shares_16 (by decide) ?_
    refine lv_iadd hx hb dX12_shares_17 ?_
    obtain ⟨r16, k17, hF⟩ := xb_s hF
    refine kVi (As := [.int (xa + (1 : Int32))]) (rest := []) hE hl hD (c_X12_parts (b := b) k17) kl_X12_400 (mW_0 _ _ _) rfl rfl rfl rfl (Nat.le_of_ble_eq_true rfl) dX12_shares_18 ⟨Nat.le_of_ble_eq_true rfl, Nat.le_of_ble_eq_true rfl⟩ ⟨Nat.le_of_ble_eq_true rfl, Nat.le_of_ble_eq_true rfl⟩ (fun H locs (hD : mD G _ _ b r16.2 sz H locs) => ?_)
    obtain rfl := Option.some.inj hF
    exact x_iret hE hD ⟨rfl, rfl⟩ (by omega) (by omega) dX12_shares_21
def F_X12_tells_j53 (u : xS) (s0 : Int32) : Option (Int32 × xS) := some (s0, u)
theorem B_X12_tells_j53 {p : Program} {l : Launch} {e : Env} {s : State} {m : MethodId} {args : Array Value} {below : List Frame} {meth : Method} {cd : Code} {G : xG} {w0 : xW} {b sz : Nat} {rr : (Int32 × xS)} (hE : xE p s m args meth cd cX12_tells RX12 G 3 (Option.some Jvm.ClassFile.FieldType.int)) {u : xS} {s0 : Int32} {H : Heap} {locs : List Loc} {ls : Array Slot} (hD : mD G (xA w0 s.heap.size) s.heap b u sz H locs) (hl : lv_has ls 3 [(0, .ref b)]) (hF : F_X12_tells_j53 u s0 = some rr) : W p l e (xR 4 0 0) s m args below meth cd H locs 0 0 (xQi G w0 (fun r z => r = rr.1 ∧ z = ((mW G b rr.2), sz)) below args s 0 0) (F0 m 53 ls [.int s0]) := by
  have hx := hE.1; have hb := hE.2.1
  unfold F_X12_tells_j53 at hF
  obtain rfl := Option.some.inj hF
  exact x_iret hE hD ⟨rfl, rfl⟩ (by omega) (by omega) dX12_tells_53
def F_X12_tells_j14 (u : xS) (y1 : Int32) : Option (Int32 × xS) := (F_X12_runs u (13 : Int32)).bind (fun r1 => (F_X12_takes r1 y1).bind (fun r3 => xlet (r3.1 ^^^ (r3.2.1 34)) (fun x5 => if (r3.2.1 35) = (3 : Int32) then (F_X12_shares r3.2 (r3.2.1 33)).bind (fun r7 => F_X12_tells_j53 r7.2 (x5 + r7.1)) else F_X12_tells_j53 r3.2 x5)))
theorem B_X12_tells_j14 {p : Program} {l : Launch} {e : Env} {s : State} {m : MethodId} {args : Array Value} {below : List Frame} {meth : Method} {cd : Code} {G : xG} {w0 : xW} {b sz : Nat} {rr : (Int32 × xS)} (hE : xE p s m args meth cd cX12_tells RX12 G 3 (Option.some Jvm.ClassFile.FieldType.int)) {u : xS} {y1 : Int32} {H : Heap} {locs : List Loc} {ls : Array Slot} (hD : mD G (xA w0 s.heap.size) s.heap b u sz H locs) (hl : lv_has ls 3 [(0, .ref b), (1, .int y1)]) (hF : F_X12_tells_j14 u y1 = some rr) : W p l e (xR 4 0 0) s m args below meth cd H locs 0 0 (xQi G w0 (fun r z => r = rr.1 ∧ z = ((mW G b rr.2), sz)) below args s 0 0) (F0 m 14 ls []) := by
  have hx := hE.1; have hb := hE.2.1
  unfold F_X12_tells_j14 at hF
  refine lv_aload_n hx hb dX12_tells_14 rfl (lv_at hl 0 rfl) ?_
  refine lv_bipush (v := (13 : Int32)) hx hb dX12_tells_15 (by decide) ?_
  obtain ⟨r1, k2, hF⟩ := xb_s hF
  refine kVv (As := [.int (13 : Int32)]) (rest := []) hE hl hD (c_X12_runs (b := b) k2) kl_X12_388 (mW_0 _ _ _) rfl rfl rfl rfl (Nat.le_of_ble_eq_true rfl) dX12_tells_17 ⟨Nat.le_of_ble_eq_true rfl, Nat.le_of_ble_eq_true rfl⟩ ⟨Nat.le_of_ble_eq_true rfl, Nat.le_of_ble_eq_true rfl⟩ (fun H locs (hD : mD G _ _ b r1 sz H locs) => ?_)
  refine lv_aload_n hx hb dX12_tells_20 rfl (lv_at hl 0 rfl) ?_
  refine lv_iload_n hx hb dX12_tells_21 rfl (lv_at hl 1 rfl) ?_
  obtain ⟨r3, k4, hF⟩ := xb_s hF
  refine kVi (As := [.int y1]) (rest := []) hE hl hD (c_X12_takes (b := b) k4) kl_X12_403 (mW_0 _ _ _) rfl rfl rfl rfl (Nat.le_of_ble_eq_true rfl) dX12_tells_22 ⟨Nat.le_of_ble_eq_true rfl, Nat.le_of_ble_eq_true rfl⟩ ⟨Nat.le_of_ble_eq_true rfl, Nat.le_of_ble_eq_true rfl⟩ (fun H locs (hD : mD G _ _ b r3.2 sz H locs) => ?_)
  refine lv_aload_n hx hb dX12_tells_25 rfl (lv_at hl 0 rfl) ?_
  refine gf_X12_397 hE hD dX12_tells_26 ?_
  refine lv_ixor hx hb dX12_tells_29 ?_
  refine lv_topi (fun x5 ex5 => ?_)
  have hF := xlet_e hF ex5
  refine lv_istore_n (lv' := [(2, .int x5), (0, .ref b), (1, .int y1)]) hx hb dX12_tells_30 rfl hl (by decide) rfl (fun ls hl => ?_)
  refine lv_aload_n hx hb dX12_tells_31 rfl (lv_at hl 1 rfl) ?_
  refine gf_X12_385 hE hD dX12_tells_32 ?_
  refine lv_iconst (v := (3 : Int32)) hx hb dX12_tells_35 (by decide) ?_
  refine lv_icmp_ne (tgt := 52) hx hb dX12_tells_36 (by decide) (fun c6 => ?_) (fun c6 => ?_)
  · have hF := ite_n hF c6
    refine lv_iload_n hx hb dX12_tells_52 rfl (lv_at hl 0 rfl) ?_
    exact B_X12_tells_j53 hE hD (lv_sub hl [1] rfl) hF
  · have hF := ite_p hF c6
    refine lv_iload_n hx hb dX12_tells_39 rfl (lv_at hl 0 rfl) ?_
    refine lv_aload_n hx hb dX12_tells_40 rfl (lv_at hl 1 rfl) ?_
    refine lv_aload_n hx hb dX12_tells_41 rfl (lv_at hl 1 rfl) ?_
    refine gf_X12_391 hE hD dX12_tells_42 ?_
    obtain ⟨r7, k8, hF⟩ := xb_s hF
    refine kVi (As := [.int (r3.2.1 33)]) (rest := [.int x5]) hE hl hD (c_X12_shares (b := b) k8) kl_X12_406 (mW_0 _ _ _) rfl rfl rfl rfl (Nat.le_of_ble_eq_true rfl) dX12_tells_45 ⟨Nat.le_of_ble_eq_true rfl, Nat.le_of_ble_eq_true rfl⟩ ⟨Nat.le_of_ble_eq_true rfl, Nat.le_of_ble_eq_true rfl⟩ (fun H locs (hD : mD G _ _ b r7.2 sz H locs) => ?_)
    refine lv_iadd hx hb dX12_tells_48 ?_
    refine lv_goto (tgt := 53) hx hb dX12_tells_49 (by decide) ?_
    exact B_X12_tells_j53 hE hD (lv_sub hl [1] rfl) hF
def F_X12_tells (u : xS) (xa : Int32) : Option (Int32 × xS) := if (u.1 35) = (3 : Int32) then (F_X12_runs u (51 : Int32)).bind (fun r10 => F_X12_tells_j14 r10 xa) else F_X12_tells_j14 u xa
theorem c_X12_tells {l : Launch} {G : xG} {b sz : Nat} {rr : (Int32 × xS)} {u : xS} {xa : Int32} (hF : F_X12_tells u xa = some rr) : xMi l G yX12_tells cX12_tells 3 (Option.some Jvm.ClassFile.FieldType.int) 4 0 0 [.ref b, .int xa] (mW G b u) sz (fun r z => r = rr.1 ∧ z = ((mW G b rr.2), sz)) := by
  unfold F_X12_tells at hF
  refine x_startI rfl (Nat.le_of_ble_eq_true rfl) (fun p e s m args below meth cd ls hE hnm hl hD => ?_)
  have hx := hE.1; have hb := hE.2.1
  have hl : lv_has ls 3 [(0, .ref b), (1, .int xa)] := hl
  have hD : mD G (xA (mW G b u) s.heap.size) s.heap b u sz s.heap [] := hD
  refine lv_aload_n hx hb dX12_tells_0 rfl (lv_at hl 0 rfl) ?_
  refine gf_X12_385 hE hD dX12_tells_1 ?_
  refine lv_iconst (v := (3 : Int32)) hx hb dX12_tells_4 (by decide) ?_
  refine lv_icmp_ne (tgt := 14) hx hb dX12_tells_5 (by decide) (fun c9 => ?_) (fun c9 => ?_)
  · have hF := ite_n hF c9
    exact B_X12_tells_j14 hE hD (lv_sub hl [0, 1] rfl) hF
  · have hF := ite_p hF c9
    refine lv_aload_n hx hb dX12_tells_8 rfl (lv_at hl 0 rfl) ?_
    refine lv_bipush (v := (51 : Int32)) hx hb dX12_tells_9 (by decide) ?_
    obtain ⟨r10, k11, hF⟩ := xb_s hF
    refine kVv (As := [.int (51 : Int32)]) (rest := []) hE hl hD (c_X12_runs (b := b) k11) kl_X12_388 (mW_0 _ _ _) rfl rfl rfl rfl (Nat.le_of_ble_eq_true rfl) dX12_tells_11 ⟨Nat.le_of_ble_eq_true rfl, Nat.le_of_ble_eq_true rfl⟩ ⟨Nat.le_of_ble_eq_true rfl, Nat.le_of_ble_eq_true rfl⟩ (fun H locs (hD : mD G _ _ b r10 sz H locs) => ?_)
    exact B_X12_tells_j14 hE hD (lv_sub hl [0, 1] rfl) hF
def F_X12_act_j125 (u : xS) (s0 : Int32) : Option (Int32 × xS) := some (s0, u)
theorem B_X12_act_j125 {p : Program} {l : Launch} {e : Env} {s : State} {m : MethodId} {args : Array Value} {below : List Frame} {meth : Method} {cd : Code} {G : xG} {w0 : xW} {b sz : Nat} {rr : (Int32 × xS)} (hE : xE p s m args meth cd cX12_act RX12 G 5 (Option.some Jvm.ClassFile.FieldType.int)) {u : xS} {s0 : Int32} {H : Heap} {locs : List Loc} {ls : Array Slot} (hD : mD G (xA w0 s.heap.size) s.heap b u sz H locs) (hl : lv_has ls 5 [(0, .ref b)]) (hF : F_X12_act_j125 u s0 = some rr) : W p l e (xR 5 0 0) s m args below meth cd H locs 0 0 (xQi G w0 (fun r z => r = rr.1 ∧ z = ((mW G b rr.2), sz)) below args s 0 0) (F0 m 125 ls [.int s0]) := by
  have hx := hE.1; have hb := hE.2.1
  unfold F_X12_act_j125 at hF
  obtain rfl := Option.some.inj hF
  exact x_iret hE hD ⟨rfl, rfl⟩ (by omega) (by omega) dX12_act_125
def F_X12_act_j109 (u : xS) (s0 : Int32) : Option (Int32 × xS) := if (u.1 36) = 0 then F_X12_act_j125 u s0 else F_X12_act_j125 u (-15 : Int32)
theorem B_X12_act_j109 {p : Program} {l : Launch} {e : Env} {s : State} {m : MethodId} {args : Array Value} {below : List Frame} {meth : Method} {cd : Code} {G : xG} {w0 : xW} {b sz : Nat} {rr : (Int32 × xS)} (hE : xE p s m args meth cd cX12_act RX12 G 5 (Option.some Jvm.ClassFile.FieldType.int)) {u : xS} {s0 : Int32} {H : Heap} {locs : List Loc} {ls : Array Slot} (hD : mD G (xA w0 s.heap.size) s.heap b u sz H locs) (hl : lv_has ls 5 [(0, .ref b)]) (hF : F_X12_act_j109 u s0 = some rr) : W p l e (xR 5 0 0) s m args below meth cd H locs 0 0 (xQi G w0 (fun r z => r = rr.1 ∧ z = ((mW G b rr.2), sz)) below args s 0 0) (F0 m 109 ls [.int s0]) := by
  have hx := hE.1; have hb := hE.2.1
  unfold F_X12_act_j109 at hF
  refine lv_istore (lv' := [(4, .int s0), (0, .ref b)]) hx hb dX12_act_109 hl (by decide) rfl (fun ls hl => ?_)
  refine lv_aload_n hx hb dX12_act_111 rfl (lv_at hl 1 rfl) ?_
  refine gf_X12_379 hE hD dX12_act_112 ?_
  refine lv_if_eq (tgt := 123) hx hb dX12_act_115 (by decide) (fun c1 => ?_) (fun c1 => ?_)
  · have hF := ite_p hF c1
    refine lv_iload hx hb dX12_act_123 (lv_at hl 0 rfl) ?_
    exact B_X12_act_j125 hE hD (lv_sub hl [1] rfl) hF
  · have hF := ite_n hF c1
    refine lv_bipush (v := (-15 : Int32)) hx hb dX12_act_118 (by decide) ?_
    refine lv_goto (tgt := 125) hx hb dX12_act_120 (by decide) ?_
    exact B_X12_act_j125 hE hD (lv_sub hl [1] rfl) hF
def F_X12_act_j38 (u : xS)  : Option (Int32 × xS) := some ((0 : Int32), u)
theorem B_X12_act_j38 {p : Program} {l : Launch} {e : Env} {s : State} {m : MethodId} {args : Array Value} {below : List Frame} {meth : Method} {cd : Code} {G : xG} {w0 : xW} {b sz : Nat} {rr : (Int32 × xS)} (hE : xE p s m args meth cd cX12_act RX12 G 5 (Option.some Jvm.ClassFile.FieldType.int)) {u : xS}  {H : Heap} {locs : List Loc} {ls : Array Slot} (hD : mD G (xA w0 s.heap.size) s.heap b u sz H locs) (hl : lv_has ls 5 [(0, .ref b)]) (hF : F_X12_act_j38 u  = some rr) : W p l e (xR 5 0 0) s m args below meth cd H locs 0 0 (xQi G w0 (fun r z => r = rr.1 ∧ z = ((mW G b rr.2), sz)) below args s 0 0) (F0 m 38 ls []) := by
  have hx := hE.1; have hb := hE.2.1
  unfold F_X12_act_j38 at hF
  refine lv_iconst (v := (0 : Int32)) hx hb dX12_act_38 (by decide) ?_
  obtain rfl := Option.some.inj hF
  exact x_iret hE hD ⟨rfl, rfl⟩ (by omega) (by omega) dX12_act_39
def F_X12_act (u : xS) (xa : Int32) (xb : Int32) (xc : Int32) : Option (Int32 × xS) := xlet (mS u 32 (0 : Int32)) (fun u2 => xlet (mS u2 36 (0 : Int32)) (fun u3 => (F_X12_onShelf u3 xa).bind (fun r4 => xlet (mS u3 33 r4) (fun u6 => if (u6.1 33) < 0 then F_X12_act_j38 u6 else (F_X12_in xb.toInt64 (0 : Int64) (3 : Int64)).bind (fun r8 => if r8 = 0 then F_X12_act_j38 u6 else (F_X12_its u6 (u6.1 33) (3 : Int32)).bind (fun r12 => xlet (mS u6 34 r12) (fun u14 => (F_X12_its u14 (u14.1 33) (0 : Int32)).bind (fun r15 => xlet (mS u14 35 r15) (fun u17 => if xb = 0 then (F_X12_makes u17 xc).bind (fun r27 => F_X12_act_j109 r27.2 r27.1) else if xb = (1 : Int32) then (F_X12_takes u17 xc).bind (fun r25 => F_X12_act_j109 r25.2 r25.1) else if xb = (2 : Int32) then (F_X12_shares u17 xc).bind (fun r23 => F_X12_act_j109 r23.2 r23.1) else (F_X12_tells u17 xc).bind (fun r21 => F_X12_act_j109 r21.2 r21.1))))))))))
theorem c_X12_act {l : Launch} {G : xG} {b sz : Nat} {rr : (Int32 × xS)} {u : xS} {xa : Int32} {xb : Int32} {xc : Int32} (hF : F_X12_act u xa xb xc = some rr) : xMi l G yX12_act cX12_act 5 (Option.some Jvm.ClassFile.FieldType.int) 5 0 0 [.ref b, .int xa, .int xb, .int xc] (mW G b u) sz (fun r z => r = rr.1 ∧ z = ((mW G b rr.2), sz)) := by
  unfold F_X12_act at hF
  refine x_startI rfl (Nat.le_of_ble_eq_true rfl) (fun p e s m args below meth cd ls hE hnm hl hD => ?_)
  have hx := hE.1; have hb := hE.2.1
  have hl : lv_has ls 5 [(0, .ref b), (1, .int xa), (2, .int xb), (3, .int xc)] := hl
  have hD : mD G (xA (mW G b u) s.heap.size) s.heap b u sz s.heap [] := hD
  refine lv_aload_n hx hb dX12_act_0 rfl (lv_at hl 0 rfl) ?_
  refine lv_iconst (v := (0 : Int32)) hx hb dX12_act_1 (by decide) ?_
  refine pf_X12_382 hE hD dX12_act_2 (fun u2 H locs eu2 hD => ?_)
  have hF := xlet_e hF eu2
  refine lv_aload_n hx hb dX12_act_5 rfl (lv_at hl 0 rfl) ?_
  refine lv_iconst (v := (0 : Int32)) hx hb dX12_act_6 (by decide) ?_
  refine pf_X12_379 hE hD (by decide) dX12_act_7 (fun u3 H locs eu3 hD => ?_)
  have hF := xlet_e hF eu3
  refine lv_aload_n hx hb dX12_act_10 rfl (lv_at hl 0 rfl) ?_
  refine lv_aload_n hx hb dX12_act_11 rfl (lv_at hl 0 rfl) ?_
  refine lv_iload_n hx hb dX12_act_12 rfl (lv_at hl 1 rfl) ?_
  obtain ⟨r4, k5, hF⟩ := xb_s hF
  refine kVi (As := [.int xa]) (rest := [.ref b]) hE hl hD (c_X12_onShelf (b := b) k5) kl_X12_376 (mW_0 _ _ _) rfl rfl rfl rfl (Nat.le_of_ble_eq_true rfl) dX12_act_13 ⟨Nat.le_of_ble_eq_true rfl, Nat.le_of_ble_eq_true rfl⟩ ⟨Nat.le_of_ble_eq_true rfl, Nat.le_of_ble_eq_true rfl⟩ (fun H locs (hD : mD G _ _ b u3 sz H locs) => ?_)
  refine pf_X12_391 hE hD dX12_act_16 (fun u6 H locs eu6 hD => ?_)
  have hF := xlet_e hF eu6
  refine lv_aload_n hx hb dX12_act_19 rfl (lv_at hl 0 rfl) ?_
  refine gf_X12_391 hE hD dX12_act_20 ?_
  refine lv_if_lt (tgt := 38) hx hb dX12_act_23 (by decide) (fun c7 => ?_) (fun c7 => ?_)
  · have hF := ite_p hF c7
    exact B_X12_act_j38 hE hD (lv_sub hl [0] rfl) hF
  · have hF := ite_n hF c7
    refine lv_iload_n hx hb dX12_act_26 rfl (lv_at hl 2 rfl) ?_
    refine lv_i2l (v := xb.toInt64) hx hb dX12_act_27 rfl ?_
    refine lv_lconst (v := (0 : Int64)) hx hb dX12_act_28 (by decide) ?_
    refine lv_ldc2 (v := (3 : Int64)) hx hb hE.2.2.1 (hE.2.2.2.1 _ kw7_198) dX12_act_29 ?_
    obtain ⟨r8, k9, hF⟩ := xb_s hF
    refine kSz (As := [.long xb.toInt64, .long (0 : Int64), .long (3 : Int64)]) (rest := []) hE hl hD (c_X12_in k9) kl_X12_67 rfl rfl (Nat.le_of_ble_eq_true rfl) dX12_act_32 ⟨Nat.le_of_ble_eq_true rfl, Nat.le_of_ble_eq_true rfl⟩ ⟨Nat.le_of_ble_eq_true rfl, Nat.le_of_ble_eq_true rfl⟩ (fun H locs z10 (hD : mD G _ _ b u6 sz H locs) => ?_)
    refine lv_if_ne (tgt := 40) hx hb dX12_act_35 (by decide) (fun c11 => ?_) (fun c11 => ?_)
    · have hF := ite_n hF c11
      refine lv_aload_n hx hb dX12_act_40 rfl (lv_at hl 0 rfl) ?_
      refine lv_aload_n hx hb dX12_act_41 rfl (lv_at hl 0 rfl) ?_
      refine lv_aload_n hx hb dX12_act_42 rfl (lv_at hl 0 rfl) ?_
      refine gf_X12_391 hE hD dX12_act_43 ?_
      refine lv_iconst (v := (3 : Int32)) hx hb dX12_act_46 (by decide) ?_
      obtain ⟨r12, k13, hF⟩ := xb_s hF
      refine kVi (As := [.int (u6.1 33), .int (3 : Int32)]) (rest := [.ref b]) hE hl hD (c_X12_its (b := b) k13) kl_X12_87 (mW_0 _ _ _) rfl rfl rfl rfl (Nat.le_of_ble_eq_true rfl) dX12_act_47 ⟨Nat.le_of_ble_eq_true rfl, Nat.le_of_ble_eq_true rfl⟩ ⟨Nat.le_of_ble_eq_true rfl, Nat.le_of_ble_eq_true rfl⟩ (fun H locs (hD : mD G _ _ b u6 sz H locs) => ?_)
      refine pf_X12_397 hE hD dX12_act_50 (fun u14 H locs eu14 hD => ?_)
      have hF := xlet_e hF eu14
      refine lv_aload_n hx hb dX12_act_53 rfl (lv_at hl 0 rfl) ?_
      refine lv_aload_n hx hb dX12_act_54 rfl (lv_at hl 0 rfl) ?_
      refine lv_aload_n hx hb dX12_act_55 rfl (lv_at hl 0 rfl) ?_
      refine gf_X12_391 hE hD dX12_act_56 ?_
      refine lv_iconst (v := (0 : Int32)) hx hb dX12_act_59 (by decide) ?_
      obtain ⟨r15, k16, hF⟩ := xb_s hF
      refine kVi (As := [.int (u14.1 33), .int (0 : Int32)]) (rest := [.ref b]) hE hl hD (c_X12_its (b := b) k16) kl_X12_87 (mW_0 _ _ _) rfl rfl rfl rfl (Nat.le_of_ble_eq_true rfl) dX12_act_60 ⟨Nat.le_of_ble_eq_true rfl, Nat.le_of_ble_eq_true rfl⟩ ⟨Nat.le_of_ble_eq_true rfl, Nat.le_of_ble_eq_true rfl⟩ (fun H locs (hD : mD G _ _ b u14 sz H locs) => ?_)
      refine pf_X12_385 hE hD dX12_act_63 (fun u17 H locs eu17 hD => ?_)
      have hF := xlet_e hF eu17
      refine lv_iload_n hx hb dX12_act_66 rfl (lv_at hl 2 rfl) ?_
      refine lv_if_ne (tgt := 78) hx hb dX12_act_67 (by decide) (fun c18 => ?_) (fun c18 => ?_)
      · have hF := ite_n hF c18
        refine lv_iload_n hx hb dX12_act_78 rfl (lv_at hl 2 rfl) ?_
        refine lv_iconst (v := (1 : Int32)) hx hb dX12_act_79 (by decide) ?_
        refine lv_icmp_ne (tgt := 91) hx hb dX12_act_80 (by decide) (fun c19 => ?_) (fun c19 => ?_)
        · have hF := ite_n hF c19
          refine lv_iload_n hx hb dX12_act_91 rfl (lv_at hl 2 rfl) ?_
          refine lv_iconst (v := (2 : Int32)) hx hb dX12_act_92 (by decide) ?_
          refine lv_icmp_ne (tgt := 104) hx hb dX12_act_93 (by decide) (fun c20 => ?_) (fun c20 => ?_)
          · have hF := ite_n hF c20
            refine lv_aload_n hx hb dX12_act_104 rfl (lv_at hl 0 rfl) ?_
            refine lv_iload_n hx hb dX12_act_105 rfl (lv_at hl 3 rfl) ?_
            obtain ⟨r21, k22, hF⟩ := xb_s hF
            refine kVi (As := [.int xc]) (rest := []) hE hl hD (c_X12_tells (b := b) k22) kl_X12_409 (mW_0 _ _ _) rfl rfl rfl rfl (Nat.le_of_ble_eq_true rfl) dX12_act_106 ⟨Nat.le_of_ble_eq_true rfl, Nat.le_of_ble_eq_true rfl⟩ ⟨Nat.le_of_ble_eq_true rfl, Nat.le_of_ble_eq_true rfl⟩ (fun H locs (hD : mD G _ _ b r21.2 sz H locs) => ?_)
            exact B_X12_act_j109 hE hD (lv_sub hl [0] rfl) hF
          · have hF := ite_p hF c20
            refine lv_aload_n hx hb dX12_act_96 rfl (lv_at hl 0 rfl) ?_
            refine lv_iload_n hx hb dX12_act_97 rfl (lv_at hl 3 rfl) ?_
            obtain ⟨r23, k24, hF⟩ := xb_s hF
            refine kVi (As := [.int xc]) (rest := []) hE hl hD (c_X12_shares (b := b) k24) kl_X12_406 (mW_0 _ _ _) rfl rfl rfl rfl (Nat.le_of_ble_eq_true rfl) dX12_act_98 ⟨Nat.le_of_ble_eq_true rfl, Nat.le_of_ble_eq_true rfl⟩ ⟨Nat.le_of_ble_eq_true rfl, Nat.le_of_ble_eq_true rfl⟩ (fun H locs (hD : mD G _ _ b r23.2 sz H locs) => ?_)
            refine lv_goto (tgt := 109) hx hb dX12_act_101 (by decide) ?_
            exact B_X12_act_j109 hE hD (lv_sub hl [0] rfl) hF
        · have hF := ite_p hF c19
          refine lv_aload_n hx hb dX12_act_83 rfl (lv_at hl 0 rfl) ?_
          refine lv_iload_n hx hb dX12_act_84 rfl (lv_at hl 3 rfl) ?_
          obtain ⟨r25, k26, hF⟩ := xb_s hF
          refine kVi (As := [.int xc]) (rest := []) hE hl hD (c_X12_takes (b := b) k26) kl_X12_403 (mW_0 _ _ _) rfl rfl rfl rfl (Nat.le_of_ble_eq_true rfl) dX12_act_85 ⟨Nat.le_of_ble_eq_true rfl, Nat.le_of_ble_eq_true rfl⟩ ⟨Nat.le_of_ble_eq_true rfl, Nat.le_of_ble_eq_true rfl⟩ (fun H locs (hD : mD G _ _ b r25.2 sz H locs) => ?_)
          refine lv_goto (tgt := 109) hx hb dX12_act_88 (by decide) ?_
          exact B_X12_act_j109 hE hD (lv_sub hl [0] rfl) hF
      · have hF := ite_p hF c18
        refine lv_aload_n hx hb dX12_act_70 rfl (lv_at hl 0 rfl) ?_
        refine lv_iload_n hx hb dX12_act_71 rfl (lv_at hl 3 rfl) ?_
        obtain ⟨r27, k28, hF⟩ := xb_s hF
        refine kVi (As := [.int xc]) (rest := []) hE hl hD (c_X12_makes (b := b) k28) kl_X12_394 (mW_0 _ _ _) rfl rfl rfl rfl (Nat.le_of_ble_eq_true rfl) dX12_act_72 ⟨Nat.le_of_ble_eq_true rfl, Nat.le_of_ble_eq_true rfl⟩ ⟨Nat.le_of_ble_eq_true rfl, Nat.le_of_ble_eq_true rfl⟩ (fun H locs (hD : mD G _ _ b r27.2 sz H locs) => ?_)
        refine lv_goto (tgt := 109) hx hb dX12_act_75 (by decide) ?_
        exact B_X12_act_j109 hE hD (lv_sub hl [0] rfl) hF
    · have hF := ite_p hF c11
      exact B_X12_act_j38 hE hD (lv_sub hl [0] rfl) hF
def F_X12_traced_j18 (u : xS) (s0 : Int32) : Option Int32 := some s0
theorem B_X12_traced_j18 {p : Program} {l : Launch} {e : Env} {s : State} {m : MethodId} {args : Array Value} {below : List Frame} {meth : Method} {cd : Code} {G : xG} {w0 : xW} {b sz : Nat} {rr : Int32} (hE : xE p s m args meth cd cX12_traced RX12 G 1 (Option.some Jvm.ClassFile.FieldType.int)) {u : xS} {s0 : Int32} {H : Heap} {locs : List Loc} {ls : Array Slot} (hD : mD G (xA w0 s.heap.size) s.heap b u sz H locs) (hl : lv_has ls 1 [(0, .ref b)]) (hF : F_X12_traced_j18 u s0 = some rr) : W p l e (xR 1 0 0) s m args below meth cd H locs 0 0 (xQi G w0 (fun r z => r = rr ∧ z = ((mW G b u), sz)) below args s 0 0) (F0 m 18 ls [.int s0]) := by
  have hx := hE.1; have hb := hE.2.1
  unfold F_X12_traced_j18 at hF
  obtain rfl := Option.some.inj hF
  exact x_iret hE hD ⟨rfl, rfl⟩ (by omega) (by omega) dX12_traced_18
def F_X12_traced (u : xS)  : Option Int32 := if (30 : Int32) ≤ (u.1 32) then F_X12_traced_j18 u (30 : Int32) else F_X12_traced_j18 u (u.1 32)
theorem c_X12_traced {l : Launch} {G : xG} {b sz : Nat} {rr : Int32} {u : xS}  (hF : F_X12_traced u  = some rr) : xMi l G yX12_traced cX12_traced 1 (Option.some Jvm.ClassFile.FieldType.int) 1 0 0 [.ref b] (mW G b u) sz (fun r z => r = rr ∧ z = ((mW G b u), sz)) := by
  unfold F_X12_traced at hF
  refine x_startI rfl (Nat.le_of_ble_eq_true rfl) (fun p e s m args below meth cd ls hE hnm hl hD => ?_)
  have hx := hE.1; have hb := hE.2.1
  have hl : lv_has ls 1 [(0, .ref b)] := hl
  have hD : mD G (xA (mW G b u) s.heap.size) s.heap b u sz s.heap [] := hD
  refine lv_aload_n hx hb dX12_traced_0 rfl (lv_at hl 0 rfl) ?_
  refine gf_X12_382 hE hD dX12_traced_1 ?_
  refine lv_bipush (v := (30 : Int32)) hx hb dX12_traced_4 (by decide) ?_
  refine lv_icmp_ge (tgt := 16) hx hb dX12_traced_6 (by decide) (fun c1 => ?_) (fun c1 => ?_)
  · have hF := ite_p hF c1
    refine lv_bipush (v := (30 : Int32)) hx hb dX12_traced_16 (by decide) ?_
    exact B_X12_traced_j18 hE hD (lv_sub hl [0] rfl) hF
  · have hF := ite_n hF c1
    refine lv_aload_n hx hb dX12_traced_9 rfl (lv_at hl 0 rfl) ?_
    refine gf_X12_382 hE hD dX12_traced_10 ?_
    refine lv_goto (tgt := 18) hx hb dX12_traced_13 (by decide) ?_
    exact B_X12_traced_j18 hE hD (lv_sub hl [0] rfl) hF
def F_X12_trace_j27 (u : xS) (s0 : Int32) : Option Int32 := some s0
theorem B_X12_trace_j27 {p : Program} {l : Launch} {e : Env} {s : State} {m : MethodId} {args : Array Value} {below : List Frame} {meth : Method} {cd : Code} {G : xG} {w0 : xW} {b sz : Nat} {rr : Int32} (hE : xE p s m args meth cd cX12_trace RX12 G 2 (Option.some Jvm.ClassFile.FieldType.int)) {u : xS} {s0 : Int32} {H : Heap} {locs : List Loc} {ls : Array Slot} (hD : mD G (xA w0 s.heap.size) s.heap b u sz H locs) (hl : lv_has ls 2 [(0, .ref b)]) (hF : F_X12_trace_j27 u s0 = some rr) : W p l e (xR 2 0 0) s m args below meth cd H locs 0 0 (xQi G w0 (fun r z => r = rr ∧ z = ((mW G b u), sz)) below args s 0 0) (F0 m 27 ls [.int s0]) := by
  have hx := hE.1; have hb := hE.2.1
  unfold F_X12_trace_j27 at hF
  obtain rfl := Option.some.inj hF
  exact x_iret hE hD ⟨rfl, rfl⟩ (by omega) (by omega) dX12_trace_27
def F_X12_trace (u : xS) (xa : Int32) : Option Int32 := (F_X12_traced u).bind (fun r1 => (F_X12_in xa.toInt64 (0 : Int64) ((r1 - (1 : Int32)).toInt64)).bind (fun r3 => if r3 = 0 then F_X12_trace_j27 u (-3 : Int32) else if xIn xa 30 then F_X12_trace_j27 u (u.2.1 31 xa.toNatClampNeg) else none))
theorem c_X12_trace {l : Launch} {G : xG} {b sz : Nat} {rr : Int32} {u : xS} {xa : Int32} (hF : F_X12_trace u xa = some rr) : xMi l G yX12_trace cX12_trace 2 (Option.some Jvm.ClassFile.FieldType.int) 2 0 0 [.ref b, .int xa] (mW G b u) sz (fun r z => r = rr ∧ z = ((mW G b u), sz)) := by
  unfold F_X12_trace at hF
  refine x_startI rfl (Nat.le_of_ble_eq_true rfl) (fun p e s m args below meth cd ls hE hnm hl hD => ?_)
  have hx := hE.1; have hb := hE.2.1
  have hl : lv_has ls 2 [(0, .ref b), (1, .int xa)] := hl
  have hD : mD G (xA (mW G b u) s.heap.size) s.heap b u sz s.heap [] := hD
  refine lv_iload_n hx hb dX12_trace_0 rfl (lv_at hl 1 rfl) ?_
  refine lv_i2l (v := xa.toInt64) hx hb dX12_trace_1 rfl ?_
  refine lv_lconst (v := (0 : Int64)) hx hb dX12_trace_2 (by decide) ?_
  refine lv_aload_n hx hb dX12_trace_3 rfl (lv_at hl 0 rfl) ?_
  obtain ⟨r1, k2, hF⟩ := xb_s hF
  refine kVi (As := []) (rest := [.long (0 : Int64), .long xa.toInt64]) hE hl hD (c_X12_traced (b := b) k2) kl_X12_412 (mW_0 _ _ _) rfl rfl rfl rfl (Nat.le_of_ble_eq_true rfl) dX12_trace_4 ⟨Nat.le_of_ble_eq_true rfl, Nat.le_of_ble_eq_true rfl⟩ ⟨Nat.le_of_ble_eq_true rfl, Nat.le_of_ble_eq_true rfl⟩ (fun H locs (hD : mD G _ _ b u sz H locs) => ?_)
  refine lv_iconst (v := (1 : Int32)) hx hb dX12_trace_7 (by decide) ?_
  refine lv_isub hx hb dX12_trace_8 ?_
  refine lv_i2l (v := (r1 - (1 : Int32)).toInt64) hx hb dX12_trace_9 rfl ?_
  obtain ⟨r3, k4, hF⟩ := xb_s hF
  refine kSz (As := [.long xa.toInt64, .long (0 : Int64), .long ((r1 - (1 : Int32)).toInt64)]) (rest := []) hE hl hD (c_X12_in k4) kl_X12_67 rfl rfl (Nat.le_of_ble_eq_true rfl) dX12_trace_10 ⟨Nat.le_of_ble_eq_true rfl, Nat.le_of_ble_eq_true rfl⟩ ⟨Nat.le_of_ble_eq_true rfl, Nat.le_of_ble_eq_true rfl⟩ (fun H locs z5 (hD : mD G _ _ b u sz H locs) => ?_)
  refine lv_if_eq (tgt := 25) hx hb dX12_trace_13 (by decide) (fun c6 => ?_) (fun c6 => ?_)
  · have hF := ite_p hF c6
    refine lv_bipush (v := (-3 : Int32)) hx hb dX12_trace_25 (by decide) ?_
    exact B_X12_trace_j27 hE hD (lv_sub hl [0] rfl) hF
  · have hF := ite_n hF c6
    refine lv_aload_n hx hb dX12_trace_16 rfl (lv_at hl 0 rfl) ?_
    refine gf_X12_62 hE hD dX12_trace_17 ?_
    refine lv_iload_n hx hb dX12_trace_20 rfl (lv_at hl 1 rfl) ?_
    obtain ⟨h7, hF⟩ := ite_s hF
    refine ma_ld_31 hE hD h7 dX12_trace_21 ?_
    refine lv_goto (tgt := 27) hx hb dX12_trace_22 (by decide) ?_
    exact B_X12_trace_j27 hE hD (lv_sub hl [0] rfl) hF
def F_X12_many (u : xS) (xa : Int32) : Option Int32 := (if xa = (0 : Int32) then if xIn (0 : Int32) 303 then some (u.2.1 0 (0 : Int32).toNatClampNeg) else none else (if xa = (1 : Int32) then if xIn (1 : Int32) 303 then some (u.2.1 0 (1 : Int32).toNatClampNeg) else none else (if xa = (2 : Int32) then if xIn (4 : Int32) 303 then some (u.2.1 0 (4 : Int32).toNatClampNeg) else none else (if xa = (3 : Int32) then if xIn (2 : Int32) 303 then some (u.2.1 0 (2 : Int32).toNatClampNeg) else none else (if xa = (4 : Int32) then some (u.1 16) else (if xa = (5 : Int32) then some (u.1 18) else (if xa = (6 : Int32) then (F_X12_traced u).bind (fun r12 => some r12) else some (-1 : Int32))))))))
theorem c_X12_many {l : Launch} {G : xG} {b sz : Nat} {rr : Int32} {u : xS} {xa : Int32} (hF : F_X12_many u xa = some rr) : xMi l G yX12_many cX12_many 2 (Option.some Jvm.ClassFile.FieldType.int) 2 0 0 [.ref b, .int xa] (mW G b u) sz (fun r z => r = rr ∧ z = ((mW G b u), sz)) := by
  unfold F_X12_many at hF
  refine x_startI rfl (Nat.le_of_ble_eq_true rfl) (fun p e s m args below meth cd ls hE hnm hl hD => ?_)
  have hx := hE.1; have hb := hE.2.1
  have hl : lv_has ls 2 [(0, .ref b), (1, .int xa)] := hl
  have hD : mD G (xA (mW G b u) s.heap.size) s.heap b u sz s.heap [] := hD
  refine lv_iload_n hx hb dX12_many_0 rfl (lv_at hl 1 rfl) ?_
  by_cases c1 : xa = (0 : Int32)
  · have hF := ite_p hF c1
    refine lv_tableIn (off := 43) (tgt := 44) hx hb dX12_many_1 (by rw [c1]; decide) (by rw [c1]; decide) (by rw [c1]; rfl) (by decide) ?_
    refine lv_aload_n hx hb dX12_many_44 rfl (lv_at hl 0 rfl) ?_
    refine gf_X12_7 hE hD dX12_many_45 ?_
    refine lv_iconst (v := (0 : Int32)) hx hb dX12_many_48 (by decide) ?_
    obtain ⟨h2, hF⟩ := ite_s hF
    refine ma_ld_0 hE hD h2 dX12_many_49 ?_
    obtain rfl := Option.some.inj hF
    exact x_iret hE hD ⟨rfl, rfl⟩ (by omega) (by omega) dX12_many_50
  · have hF := ite_n hF c1
    by_cases c3 : xa = (1 : Int32)
    · have hF := ite_p hF c3
      refine lv_tableIn (off := 50) (tgt := 51) hx hb dX12_many_1 (by rw [c3]; decide) (by rw [c3]; decide) (by rw [c3]; rfl) (by decide) ?_
      refine lv_aload_n hx hb dX12_many_51 rfl (lv_at hl 0 rfl) ?_
      refine gf_X12_7 hE hD dX12_many_52 ?_
      refine lv_iconst (v := (1 : Int32)) hx hb dX12_many_55 (by decide) ?_
      obtain ⟨h4, hF⟩ := ite_s hF
      refine ma_ld_0 hE hD h4 dX12_many_56 ?_
      obtain rfl := Option.some.inj hF
      exact x_iret hE hD ⟨rfl, rfl⟩ (by omega) (by omega) dX12_many_57
    · have hF := ite_n hF c3
      by_cases c5 : xa = (2 : Int32)
      · have hF := ite_p hF c5
        refine lv_tableIn (off := 57) (tgt := 58) hx hb dX12_many_1 (by rw [c5]; decide) (by rw [c5]; decide) (by rw [c5]; rfl) (by decide) ?_
        refine lv_aload_n hx hb dX12_many_58 rfl (lv_at hl 0 rfl) ?_
        refine gf_X12_7 hE hD dX12_many_59 ?_
        refine lv_iconst (v := (4 : Int32)) hx hb dX12_many_62 (by decide) ?_
        obtain ⟨h6, hF⟩ := ite_s hF
        refine ma_ld_0 hE hD h6 dX12_many_63 ?_
        obtain rfl := Option.some.inj hF
        exact x_iret hE hD ⟨rfl, rfl⟩ (by omega) (by omega) dX12_many_64
      · have hF := ite_n hF c5
        by_cases c7 : xa = (3 : Int32)
        · have hF := ite_p hF c7
          refine lv_tableIn (off := 64) (tgt := 65) hx hb dX12_many_1 (by rw [c7]; decide) (by rw [c7]; decide) (by rw [c7]; rfl) (by decide) ?_
          refine lv_aload_n hx hb dX12_many_65 rfl (lv_at hl 0 rfl) ?_
          refine gf_X12_7 hE hD dX12_many_66 ?_
          refine lv_iconst (v := (2 : Int32)) hx hb dX12_many_69 (by decide) ?_
          obtain ⟨h8, hF⟩ := ite_s hF
          refine ma_ld_0 hE hD h8 dX12_many_70 ?_
          obtain rfl := Option.some.inj hF
          exact x_iret hE hD ⟨rfl, rfl⟩ (by omega) (by omega) dX12_many_71
        · have hF := ite_n hF c7
          by_cases c9 : xa = (4 : Int32)
          · have hF := ite_p hF c9
            refine lv_tableIn (off := 71) (tgt := 72) hx hb dX12_many_1 (by rw [c9]; decide) (by rw [c9]; decide) (by rw [c9]; rfl) (by decide) ?_
            refine lv_aload_n hx hb dX12_many_72 rfl (lv_at hl 0 rfl) ?_
            refine gf_X12_222 hE hD dX12_many_73 ?_
            obtain rfl := Option.some.inj hF
            exact x_iret hE hD ⟨rfl, rfl⟩ (by omega) (by omega) dX12_many_76
          · have hF := ite_n hF c9
            by_cases c10 : xa = (5 : Int32)
            · have hF := ite_p hF c10
              refine lv_tableIn (off := 76) (tgt := 77) hx hb dX12_many_1 (by rw [c10]; decide) (by rw [c10]; decide) (by rw [c10]; rfl) (by decide) ?_
              refine lv_aload_n hx hb dX12_many_77 rfl (lv_at hl 0 rfl) ?_
              refine gf_X12_228 hE hD dX12_many_78 ?_
              obtain rfl := Option.some.inj hF
              exact x_iret hE hD ⟨rfl, rfl⟩ (by omega) (by omega) dX12_many_81
            · have hF := ite_n hF c10
              by_cases c11 : xa = (6 : Int32)
              · have hF := ite_p hF c11
                refine lv_tableIn (off := 81) (tgt := 82) hx hb dX12_many_1 (by rw [c11]; decide) (by rw [c11]; decide) (by rw [c11]; rfl) (by decide) ?_
                refine lv_aload_n hx hb dX12_many_82 rfl (lv_at hl 0 rfl) ?_
                obtain ⟨r12, k13, hF⟩ := xb_s hF
                refine kVi (As := []) (rest := []) hE hl hD (c_X12_traced (b := b) k13) kl_X12_412 (mW_0 _ _ _) rfl rfl rfl rfl (Nat.le_of_ble_eq_true rfl) dX12_many_83 ⟨Nat.le_of_ble_eq_true rfl, Nat.le_of_ble_eq_true rfl⟩ ⟨Nat.le_of_ble_eq_true rfl, Nat.le_of_ble_eq_true rfl⟩ (fun H locs (hD : mD G _ _ b u sz H locs) => ?_)
                obtain rfl := Option.some.inj hF
                exact x_iret hE hD ⟨rfl, rfl⟩ (by omega) (by omega) dX12_many_86
              · have hF := ite_n hF c11
                refine lv_tableOut (tgt := 87) hx hb dX12_many_1 (by have hc1 := lv_neT (a := 0) c1 rfl; have hc3 := lv_neT (a := 1) c3 rfl; have hc5 := lv_neT (a := 2) c5 rfl; have hc7 := lv_neT (a := 3) c7 rfl; have hc9 := lv_neT (a := 4) c9 rfl; have hc10 := lv_neT (a := 5) c10 rfl; have hc11 := lv_neT (a := 6) c11 rfl; omega) (by decide) ?_
                refine lv_iconst (v := (-1 : Int32)) hx hb dX12_many_87 (by decide) ?_
                obtain rfl := Option.some.inj hF
                exact x_iret hE hD ⟨rfl, rfl⟩ (by omega) (by omega) dX12_many_88
def F_X12_keep_l2 : Nat → xS → Int32 → Option (Int32 × xS)
  | 0, _, _ => none
  | nn + 1, u, y1 => if (303 : Int32) ≤ y1 then xlet (mS u 3 (1 : Int32)) (fun u2 => some ((1 : Int32), u2)) else if xIn y1 303 then if xIn y1 303 then xlet (mA u 1 y1.toNatClampNeg (u.2.1 0 y1.toNatClampNeg)) (fun u5 => xlet (y1 + (1 : Int32)) (fun x6 => F_X12_keep_l2 nn u5 x6)) else none else none
theorem L_X12_keep_l2 {p : Program} {l : Launch} {e : Env} {s : State} {m : MethodId} {args : Array Value} {below : List Frame} {meth : Method} {cd : Code} {G : xG} {w0 : xW} {b sz : Nat} {rr : (Int32 × xS)} (hE : xE p s m args meth cd cX12_keep RX12 G 2 (Option.some Jvm.ClassFile.FieldType.int)) : ∀ (nn : Nat) {u : xS} {y1 : Int32} {H : Heap} {locs : List Loc} {ls : Array Slot}, mD G (xA w0 s.heap.size) s.heap b u sz H locs → lv_has ls 2 [(0, .ref b), (1, .int y1)] → F_X12_keep_l2 nn u y1 = some rr → W p l e (xR 1 0 0) s m args below meth cd H locs 0 0 (xQi G w0 (fun r z => r = rr.1 ∧ z = ((mW G b rr.2), sz)) below args s 0 0) (F0 m 2 ls []) := by
  have hx := hE.1; have hb := hE.2.1
  intro nn
  induction nn with
  | zero => intro u y1 H locs ls hD hl hF; rw [F_X12_keep_l2] at hF; cases hF
  | succ nn ih =>
    intro u y1 H locs ls hD hl hF
    rw [F_X12_keep_l2] at hF
    refine lv_iload_n hx hb dX12_keep_2 rfl (lv_at hl 1 rfl) ?_
    refine lv_sipush (v := (303 : Int32)) hx hb dX12_keep_3 (by decide) ?_
    refine lv_icmp_ge (tgt := 27) hx hb dX12_keep_6 (by decide) (fun c1 => ?_) (fun c1 => ?_)
    · have hF := ite_p hF c1
      refine lv_aload_n hx hb dX12_keep_27 rfl (lv_at hl 0 rfl) ?_
      refine lv_iconst (v := (1 : Int32)) hx hb dX12_keep_28 (by decide) ?_
      refine pf_X12_415 hE hD (by decide) dX12_keep_29 (fun u2 H locs eu2 hD => ?_)
      have hF := xlet_e hF eu2
      refine lv_iconst (v := (1 : Int32)) hx hb dX12_keep_32 (by decide) ?_
      obtain rfl := Option.some.inj hF
      exact x_iret hE hD ⟨rfl, rfl⟩ (by omega) (by omega) dX12_keep_33
    · have hF := ite_n hF c1
      refine lv_aload_n hx hb dX12_keep_9 rfl (lv_at hl 0 rfl) ?_
      refine gf_X12_13 hE hD dX12_keep_10 ?_
      refine lv_iload_n hx hb dX12_keep_13 rfl (lv_at hl 1 rfl) ?_
      refine lv_aload_n hx hb dX12_keep_14 rfl (lv_at hl 0 rfl) ?_
      refine gf_X12_7 hE hD dX12_keep_15 ?_
      refine lv_iload_n hx hb dX12_keep_18 rfl (lv_at hl 1 rfl) ?_
      obtain ⟨h3, hF⟩ := ite_s hF
      refine ma_ld_0 hE hD h3 dX12_keep_19 ?_
      obtain ⟨h4, hF⟩ := ite_s hF
      refine ma_st_1 hE hD h4 dX12_keep_20 (fun u5 H locs eu5 hD => ?_)
      have hF := xlet_e hF eu5
      obtain ⟨x6, ex6⟩ : ∃ y : Int32, y = y1 + (1 : Int32) := ⟨_, rfl⟩
      have hF := xlet_e hF ex6
      refine lv_iinc (v := x6) (lv' := [(1, .int x6), (0, .ref b)]) hx hb dX12_keep_21 hl (k := 1) rfl (by rw [ex6]; rfl) (by decide) rfl (fun ls hl => ?_)
      refine lv_goto (tgt := 2) hx hb dX12_keep_24 (by decide) ?_
      exact ih hD (lv_sub hl [1, 0] rfl) hF
def F_X12_keep (u : xS)  : Option (Int32 × xS) := F_X12_keep_l2 xFuel u (0 : Int32)
theorem c_X12_keep {l : Launch} {G : xG} {b sz : Nat} {rr : (Int32 × xS)} {u : xS}  (hF : F_X12_keep u  = some rr) : xMi l G yX12_keep cX12_keep 2 (Option.some Jvm.ClassFile.FieldType.int) 1 0 0 [.ref b] (mW G b u) sz (fun r z => r = rr.1 ∧ z = ((mW G b rr.2), sz)) := by
  unfold F_X12_keep at hF
  refine x_startI rfl (Nat.le_of_ble_eq_true rfl) (fun p e s m args below meth cd ls hE hnm hl hD => ?_)
  have hx := hE.1; have hb := hE.2.1
  have hl : lv_has ls 2 [(0, .ref b)] := hl
  have hD : mD G (xA (mW G b u) s.heap.size) s.heap b u sz s.heap [] := hD
  refine lv_iconst (v := (0 : Int32)) hx hb dX12_keep_0 (by decide) ?_
  refine lv_istore_n (lv' := [(1, .int (0 : Int32)), (0, .ref b)]) hx hb dX12_keep_1 rfl hl (by decide) rfl (fun ls hl => ?_)
  exact L_X12_keep_l2 hE _ hD (lv_sub hl [1, 0] rfl) hF
def F_X12_again_l12 : Nat → xS → Int32 → Option (Int32 × xS)
  | 0, _, _ => none
  | nn + 1, u, y1 => if (303 : Int32) ≤ y1 then if xIn (0 : Int32) 303 then some (u.2.1 0 (0 : Int32).toNatClampNeg, u) else none else if xIn y1 303 then if xIn y1 303 then xlet (mA u 0 y1.toNatClampNeg (u.2.1 1 y1.toNatClampNeg)) (fun u5 => xlet (y1 + (1 : Int32)) (fun x6 => F_X12_again_l12 nn u5 x6)) else none else none
theorem L_X12_again_l12 {p : Program} {l : Launch} {e : Env} {s : State} {m : MethodId} {args : Array Value} {below : List Frame} {meth : Method} {cd : Code} {G : xG} {w0 : xW} {b sz : Nat} {rr : (Int32 × xS)} (hE : xE p s m args meth cd cX12_again RX12 G 2 (Option.some Jvm.ClassFile.FieldType.int)) : ∀ (nn : Nat) {u : xS} {y1 : Int32} {H : Heap} {locs : List Loc} {ls : Array Slot}, mD G (xA w0 s.heap.size) s.heap b u sz H locs → lv_has ls 2 [(0, .ref b), (1, .int y1)] → F_X12_again_l12 nn u y1 = some rr → W p l e (xR 1 0 0) s m args below meth cd H locs 0 0 (xQi G w0 (fun r z => r = rr.1 ∧ z = ((mW G b rr.2), sz)) below args s 0 0) (F0 m 12 ls []) := by
  have hx := hE.1; have hb := hE.2.1
  intro nn
  induction nn with
  | zero => intro u y1 H locs ls hD hl hF; rw [F_X12_again_l12] at hF; cases hF
  | succ nn ih =>
    intro u y1 H locs ls hD hl hF
    rw [F_X12_again_l12] at hF
    refine lv_iload_n hx hb dX12_again_12 rfl (lv_at hl 1 rfl) ?_
    refine lv_sipush (v := (303 : Int32)) hx hb dX12_again_13 (by decide) ?_
    refine lv_icmp_ge (tgt := 37) hx hb dX12_again_16 (by decide) (fun c1 => ?_) (fun c1 => ?_)
    · have hF := ite_p hF c1
      refine lv_aload_n hx hb dX12_again_37 rfl (lv_at hl 0 rfl) ?_
      refine gf_X12_7 hE hD dX12_again_38 ?_
      refine lv_iconst (v := (0 : Int32)) hx hb dX12_again_41 (by decide) ?_
      obtain ⟨h2, hF⟩ := ite_s hF
      refine ma_ld_0 hE hD h2 dX12_again_42 ?_
      obtain rfl := Option.some.inj hF
      exact x_iret hE hD ⟨rfl, rfl⟩ (by omega) (by omega) dX12_again_43
    · have hF := ite_n hF c1
      refine lv_aload_n hx hb dX12_again_19 rfl (lv_at hl 0 rfl) ?_
      refine gf_X12_7 hE hD dX12_again_20 ?_
      refine lv_iload_n hx hb dX12_again_23 rfl (lv_at hl 1 rfl) ?_
      refine lv_aload_n hx hb dX12_again_24 rfl (lv_at hl 0 rfl) ?_
      refine gf_X12_13 hE hD dX12_again_25 ?_
      refine lv_iload_n hx hb dX12_again_28 rfl (lv_at hl 1 rfl) ?_
      obtain ⟨h3, hF⟩ := ite_s hF
      refine ma_ld_1 hE hD h3 dX12_again_29 ?_
      obtain ⟨h4, hF⟩ := ite_s hF
      refine ma_st_0 hE hD h4 dX12_again_30 (fun u5 H locs eu5 hD => ?_)
      have hF := xlet_e hF eu5
      obtain ⟨x6, ex6⟩ : ∃ y : Int32, y = y1 + (1 : Int32) := ⟨_, rfl⟩
      have hF := xlet_e hF ex6
      refine lv_iinc (v := x6) (lv' := [(1, .int x6), (0, .ref b)]) hx hb dX12_again_31 hl (k := 1) rfl (by rw [ex6]; rfl) (by decide) rfl (fun ls hl => ?_)
      refine lv_goto (tgt := 12) hx hb dX12_again_34 (by decide) ?_
      exact ih hD (lv_sub hl [1, 0] rfl) hF
def F_X12_again (u : xS)  : Option (Int32 × xS) := if (u.1 3) = 0 then some ((-3 : Int32), u) else F_X12_again_l12 xFuel u (0 : Int32)
theorem c_X12_again {l : Launch} {G : xG} {b sz : Nat} {rr : (Int32 × xS)} {u : xS}  (hF : F_X12_again u  = some rr) : xMi l G yX12_again cX12_again 2 (Option.some Jvm.ClassFile.FieldType.int) 1 0 0 [.ref b] (mW G b u) sz (fun r z => r = rr.1 ∧ z = ((mW G b rr.2), sz)) := by
  unfold F_X12_again at hF
  refine x_startI rfl (Nat.le_of_ble_eq_true rfl) (fun p e s m args below meth cd ls hE hnm hl hD => ?_)
  have hx := hE.1; have hb := hE.2.1
  have hl : lv_has ls 2 [(0, .ref b)] := hl
  have hD : mD G (xA (mW G b u) s.heap.size) s.heap b u sz s.heap [] := hD
  refine lv_aload_n hx hb dX12_again_0 rfl (lv_at hl 0 rfl) ?_
  refine gf_X12_415 hE hD dX12_again_1 ?_
  refine lv_if_ne (tgt := 10) hx hb dX12_again_4 (by decide) (fun c7 => ?_) (fun c7 => ?_)
  · have hF := ite_n hF c7
    refine lv_iconst (v := (0 : Int32)) hx hb dX12_again_10 (by decide) ?_
    refine lv_istore_n (lv' := [(1, .int (0 : Int32)), (0, .ref b)]) hx hb dX12_again_11 rfl hl (by decide) rfl (fun ls hl => ?_)
    exact L_X12_again_l12 hE _ hD (lv_sub hl [1, 0] rfl) hF
  · have hF := ite_p hF c7
    refine lv_bipush (v := (-3 : Int32)) hx hb dX12_again_7 (by decide) ?_
    obtain rfl := Option.some.inj hF
    exact x_iret hE hD ⟨rfl, rfl⟩ (by omega) (by omega) dX12_again_9
