/-! ===== the class: walks 8 (printed by wip/whole/gen) ===== -/
def F_X11_item_j68 (u : xT) (a0 : Nat) (s0 : Int32) : Option Int32 := some s0
theorem B_X11_item_j68 {p : Program} {l : Launch} {e : Env} {s : State} {m : MethodId} {args : Array Value} {below : List Frame} {meth : Method} {cd : Code} {G : xG} {w0 : xW} {rr : Int32} (hE : xE p s m args meth cd cX11_item RX11 G 5 (Option.some Jvm.ClassFile.FieldType.int)) {u : xT} {a0 : Nat} {s0 : Int32} {H : Heap} {locs : List Loc} {ls : Array Slot} (hD : tD G (xA w0 s.heap.size) s.heap u H locs) (hl : lv_has ls 5 [(0, .ref a0)]) (hF : F_X11_item_j68 u a0 s0 = some rr) : W p l e (xR 4 0 0) s m args below meth cd H locs 0 0 (xQi G w0 (fun r z => r = rr ∧ z = ((tE G u), u.1)) below args s 0 0) (F0 m 68 ls [.int s0]) := by
  have hx := hE.1; have hb := hE.2.1
  unfold F_X11_item_j68 at hF
  obtain rfl := Option.some.inj hF
  exact x_iret hE hD ⟨rfl, rfl⟩ (by omega) (by omega) dX11_item_68
def F_X11_item_j18 (u : xT) (a0 : Nat) : Option Int32 := some (-1 : Int32)
theorem B_X11_item_j18 {p : Program} {l : Launch} {e : Env} {s : State} {m : MethodId} {args : Array Value} {below : List Frame} {meth : Method} {cd : Code} {G : xG} {w0 : xW} {rr : Int32} (hE : xE p s m args meth cd cX11_item RX11 G 5 (Option.some Jvm.ClassFile.FieldType.int)) {u : xT} {a0 : Nat} {H : Heap} {locs : List Loc} {ls : Array Slot} (hD : tD G (xA w0 s.heap.size) s.heap u H locs) (hl : lv_has ls 5 [(0, .ref a0)]) (hF : F_X11_item_j18 u a0 = some rr) : W p l e (xR 4 0 0) s m args below meth cd H locs 0 0 (xQi G w0 (fun r z => r = rr ∧ z = ((tE G u), u.1)) below args s 0 0) (F0 m 18 ls []) := by
  have hx := hE.1; have hb := hE.2.1
  unfold F_X11_item_j18 at hF
  refine lv_iconst (v := (-1 : Int32)) hx hb dX11_item_18 (by decide) ?_
  obtain rfl := Option.some.inj hF
  exact x_iret hE hD ⟨rfl, rfl⟩ (by omega) (by omega) dX11_item_19
def F_X11_item (u : xT) (a0 : Nat) (xa : Int32) (xb : Int32) (xc : Int32) : Option Int32 := (F_X11_isIn xa (0 : Int32) (3 : Int32)).bind (fun r1 => if r1 = 0 then F_X11_item_j18 u a0 else (F_X11_isIn xb (0 : Int32) (4 : Int32)).bind (fun r5 => if r5 = 0 then F_X11_item_j18 u a0 else if tK u a0 = 11 then (tP u a0 7).bind (fun q10 => if tK u q10 = 23 then if xIn xa (tN u q10) then xopt (tP u q10 xa.toNatClampNeg) (some (-11 : Int32)) (fun q14 => if tK u q14 = 8 then if (tI u q14 0) = xb then (F_X8_has u q14 xc).bind (fun r18 => if r18 = 0 then F_X11_item_j68 u a0 (-12 : Int32) else (F_X8_get u q14 xc).bind (fun r22 => F_X11_item_j68 u a0 r22)) else some (-13 : Int32) else none) else none else none) else none))
theorem c_X11_item {l : Launch} {G : xG} {rr : Int32} {u : xT} {a0 : Nat} {xa : Int32} {xb : Int32} {xc : Int32} (hF : F_X11_item u a0 xa xb xc = some rr) : xMi l G yX11_item cX11_item 5 (Option.some Jvm.ClassFile.FieldType.int) 4 0 0 [.ref a0, .int xa, .int xb, .int xc] (tE G u) u.1 (fun r z => r = rr ∧ z = ((tE G u), u.1)) := by
  unfold F_X11_item at hF
  refine x_startI rfl (Nat.le_of_ble_eq_true rfl) (fun p e s m args below meth cd ls hE hnm hl hD => ?_)
  have hx := hE.1; have hb := hE.2.1
  have hl : lv_has ls 5 [(0, .ref a0), (1, .int xa), (2, .int xb), (3, .int xc)] := hl
  have hD : tD G (xA (tE G u) s.heap.size) s.heap u s.heap [] := hD
  refine lv_iload_n hx hb dX11_item_0 rfl (lv_at hl 1 rfl) ?_
  refine lv_iconst (v := (0 : Int32)) hx hb dX11_item_1 (by decide) ?_
  refine lv_iconst (v := (3 : Int32)) hx hb dX11_item_2 (by decide) ?_
  obtain ⟨r1, k2, hF⟩ := xb_s hF
  refine kSz (As := [.int xa, .int (0 : Int32), .int (3 : Int32)]) (rest := []) hE hl hD (c_X11_isIn k2) kl_X11_183 rfl rfl (Nat.le_of_ble_eq_true rfl) dX11_item_3 ⟨Nat.le_of_ble_eq_true rfl, Nat.le_of_ble_eq_true rfl⟩ ⟨Nat.le_of_ble_eq_true rfl, Nat.le_of_ble_eq_true rfl⟩ (fun H locs z3 (hD : tD G _ _ u H locs) => ?_)
  refine lv_if_eq (tgt := 18) hx hb dX11_item_6 (by decide) (fun c4 => ?_) (fun c4 => ?_)
  · have hF := ite_p hF c4
    exact B_X11_item_j18 hE hD (lv_sub hl [0] rfl) hF
  · have hF := ite_n hF c4
    refine lv_iload_n hx hb dX11_item_9 rfl (lv_at hl 2 rfl) ?_
    refine lv_iconst (v := (0 : Int32)) hx hb dX11_item_10 (by decide) ?_
    refine lv_iconst (v := (4 : Int32)) hx hb dX11_item_11 (by decide) ?_
    obtain ⟨r5, k6, hF⟩ := xb_s hF
    refine kSz (As := [.int xb, .int (0 : Int32), .int (4 : Int32)]) (rest := []) hE hl hD (c_X11_isIn k6) kl_X11_183 rfl rfl (Nat.le_of_ble_eq_true rfl) dX11_item_12 ⟨Nat.le_of_ble_eq_true rfl, Nat.le_of_ble_eq_true rfl⟩ ⟨Nat.le_of_ble_eq_true rfl, Nat.le_of_ble_eq_true rfl⟩ (fun H locs z7 (hD : tD G _ _ u H locs) => ?_)
    refine lv_if_ne (tgt := 20) hx hb dX11_item_15 (by decide) (fun c8 => ?_) (fun c8 => ?_)
    · have hF := ite_n hF c8
      refine lv_aload_n hx hb dX11_item_20 rfl (lv_at hl 0 rfl) ?_
      obtain ⟨h9, hF⟩ := ite_s hF
      obtain ⟨q10, h11, hF⟩ := xb_s hF
      refine gr_X11_39 hE hD h9 h11 dX11_item_21 ?_
      refine lv_iload_n hx hb dX11_item_24 rfl (lv_at hl 1 rfl) ?_
      obtain ⟨h12, hF⟩ := ite_s hF
      obtain ⟨h13, hF⟩ := ite_s hF
      refine t_aldR hE hD h12 h13 dX11_item_25 ?_
      refine t_split hF (fun h15 hF => ?_) (fun q14 h15 hF => ?_)
      · refine lv_astoreN (lv' := [(4, .null), (0, .ref a0), (1, .int xa), (2, .int xb), (3, .int xc)]) hx hb dX11_item_26 hl (by decide) rfl (fun ls hl => ?_)
        refine lv_aloadN hx hb dX11_item_28 (lv_at hl 0 rfl) ?_
        refine lv_ifnonnullN hx hb dX11_item_30 ?_
        refine lv_bipush (v := (-11 : Int32)) hx hb dX11_item_33 (by decide) ?_
        obtain rfl := Option.some.inj hF
        exact x_iret hE hD ⟨rfl, rfl⟩ (by omega) (by omega) dX11_item_35
      · refine lv_astore (lv' := [(4, .ref q14), (0, .ref a0), (1, .int xa), (2, .int xb), (3, .int xc)]) hx hb dX11_item_26 hl (by decide) rfl (fun ls hl => ?_)
        refine lv_aload hx hb dX11_item_28 (lv_at hl 0 rfl) ?_
        refine lv_ifnonnull (tgt := 36) hx hb dX11_item_30 (by decide) ?_
        refine lv_aload hx hb dX11_item_36 (lv_at hl 0 rfl) ?_
        obtain ⟨h16, hF⟩ := ite_s hF
        refine gf_X11_291 hE hD h16 dX11_item_38 ?_
        refine lv_iload_n hx hb dX11_item_41 rfl (lv_at hl 3 rfl) ?_
        refine lv_icmp_eq (tgt := 48) hx hb dX11_item_42 (by decide) (fun c17 => ?_) (fun c17 => ?_)
        · have hF := ite_p hF c17
          refine lv_aload hx hb dX11_item_48 (lv_at hl 0 rfl) ?_
          refine lv_iload_n hx hb dX11_item_50 rfl (lv_at hl 4 rfl) ?_
          obtain ⟨r18, k19, hF⟩ := xb_s hF
          refine kVz (As := [.int xc]) (rest := []) hE hl hD (c_X8_has k19) kl_X11_285 (tE_8 h16) rfl rfl rfl rfl (Nat.le_of_ble_eq_true rfl) dX11_item_51 ⟨Nat.le_of_ble_eq_true rfl, Nat.le_of_ble_eq_true rfl⟩ ⟨Nat.le_of_ble_eq_true rfl, Nat.le_of_ble_eq_true rfl⟩ (fun H locs z20 (hD : tD G _ _ u H locs) => ?_)
          refine lv_if_eq (tgt := 66) hx hb dX11_item_54 (by decide) (fun c21 => ?_) (fun c21 => ?_)
          · have hF := ite_p hF c21
            refine lv_bipush (v := (-12 : Int32)) hx hb dX11_item_66 (by decide) ?_
            exact B_X11_item_j68 hE hD (lv_sub hl [1] rfl) hF
          · have hF := ite_n hF c21
            refine lv_aload hx hb dX11_item_57 (lv_at hl 0 rfl) ?_
            refine lv_iload_n hx hb dX11_item_59 rfl (lv_at hl 4 rfl) ?_
            obtain ⟨r22, k23, hF⟩ := xb_s hF
            refine kVi (As := [.int xc]) (rest := []) hE hl hD (c_X8_get k23) kl_X11_292 (tE_8 h16) rfl rfl rfl rfl (Nat.le_of_ble_eq_true rfl) dX11_item_60 ⟨Nat.le_of_ble_eq_true rfl, Nat.le_of_ble_eq_true rfl⟩ ⟨Nat.le_of_ble_eq_true rfl, Nat.le_of_ble_eq_true rfl⟩ (fun H locs (hD : tD G _ _ u H locs) => ?_)
            refine lv_goto (tgt := 68) hx hb dX11_item_63 (by decide) ?_
            exact B_X11_item_j68 hE hD (lv_sub hl [1] rfl) hF
        · have hF := ite_n hF c17
          refine lv_bipush (v := (-13 : Int32)) hx hb dX11_item_45 (by decide) ?_
          obtain rfl := Option.some.inj hF
          exact x_iret hE hD ⟨rfl, rfl⟩ (by omega) (by omega) dX11_item_47
    · have hF := ite_p hF c8
      exact B_X11_item_j18 hE hD (lv_sub hl [0] rfl) hF
def F_X11_walks_j108 (kc66 : xT → Nat → Int32 → Int32 → Int32 → Nat → Int32 → Int32 → Option (Int32 × xT)) (u : xT) (a0 : Nat) (y1 : Int32) (y3 : Int32) (y4 : Int32) (y5 : Nat) (y6 : Int32) (y7 : Int32) : Option (Int32 × xT) := xlet (y7 + (1 : Int32)) (fun x1 => kc66 u a0 y1 y3 y4 y5 y6 x1)
theorem B_X11_walks_j108 {p : Program} {l : Launch} {e : Env} {s : State} {m : MethodId} {args : Array Value} {below : List Frame} {meth : Method} {cd : Code} {G : xG} {w0 : xW} {rr : (Int32 × xT)} (hE : xE p s m args meth cd cX11_walks RX11 G 8 (Option.some Jvm.ClassFile.FieldType.int)) {u : xT} (kc66 : xT → Nat → Int32 → Int32 → Int32 → Nat → Int32 → Int32 → Option (Int32 × xT)) (hc66 : ∀ {u1 : xT} {a0 : Nat} {y1 : Int32} {y3 : Int32} {y4 : Int32} {y5 : Nat} {y6 : Int32} {y7 : Int32} {H : Heap} {locs : List Loc} {ls : Array Slot} , tD G (xA w0 s.heap.size) s.heap u1 H locs → lv_has ls 8 [(0, .ref a0), (1, .int y1), (3, .int y3), (4, .int y4), (5, .ref y5), (6, .int y6), (7, .int y7)] → kc66 u1 a0 y1 y3 y4 y5 y6 y7 = some rr → W p l e (xR 7 0 0) s m args below meth cd H locs 0 0 (xQi G w0 (fun r z => r = rr.1 ∧ z = ((tE G rr.2), rr.2.1)) below args s 0 0) (F0 m 66 ls [])) {a0 : Nat} {y1 : Int32} {y3 : Int32} {y4 : Int32} {y5 : Nat} {y6 : Int32} {y7 : Int32} {H : Heap} {locs : List Loc} {ls : Array Slot} (hD : tD G (xA w0 s.heap.size) s.heap u H locs) (hl : lv_has ls 8 [(0, .ref a0), (1, .int y1), (3, .int y3), (4, .int y4), (5, .ref y5), (6, .int y6), (7, .int y7)]) (hF : F_X11_walks_j108 kc66 u a0 y1 y3 y4 y5 y6 y7 = some rr) : W p l e (xR 7 0 0) s m args below meth cd H locs 0 0 (xQi G w0 (fun r z => r = rr.1 ∧ z = ((tE G rr.2), rr.2.1)) below args s 0 0) (F0 m 108 ls []) := by
  have hx := hE.1; have hb := hE.2.1
  unfold F_X11_walks_j108 at hF
  obtain ⟨x1, ex1⟩ : ∃ y : Int32, y = y7 + (1 : Int32) := ⟨_, rfl⟩
  have hF := xlet_e hF ex1
  refine lv_iinc (v := x1) (lv' := [(7, .int x1), (0, .ref a0), (1, .int y1), (3, .int y3), (4, .int y4), (5, .ref y5), (6, .int y6)]) hx hb dX11_walks_108 hl (k := 6) rfl (by rw [ex1]; rfl) (by decide) rfl (fun ls hl => ?_)
  refine lv_goto (tgt := 66) hx hb dX11_walks_111 (by decide) ?_
  exact hc66 hD (lv_sub hl [1, 2, 3, 4, 5, 6, 0] rfl) hF
def F_X11_walks_l66 : Nat → xT → Nat → Int32 → Int32 → Int32 → Nat → Int32 → Int32 → Option (Int32 × xT)
  | 0, _, _, _, _, _, _, _, _ => none
  | nn + 1, u, a0, y1, y3, y4, y5, y6, y7 => if y4 ≤ y7 then some (y6, u) else if tK u y5 = 8 then (F_X8_has u y5 (y3 + y7)).bind (fun r4 => if r4 = 0 then some ((-12 : Int32), u) else (F_X8_get u y5 (y3 + y7)).bind (fun r8 => if tK u a0 = 11 then (F_X11_cross u a0 y1 r8).bind (fun r11 => if r11.1 < 0 then F_X11_walks_j108 (F_X11_walks_l66 nn) r11.2 a0 y1 y3 y4 y5 y6 y7 else xlet (y6 + (1 : Int32)) (fun x14 => F_X11_walks_j108 (F_X11_walks_l66 nn) r11.2 a0 y1 y3 y4 y5 x14 y7)) else none)) else none
theorem L_X11_walks_l66 {p : Program} {l : Launch} {e : Env} {s : State} {m : MethodId} {args : Array Value} {below : List Frame} {meth : Method} {cd : Code} {G : xG} {w0 : xW} {rr : (Int32 × xT)} (hE : xE p s m args meth cd cX11_walks RX11 G 8 (Option.some Jvm.ClassFile.FieldType.int)) : ∀ (nn : Nat) {u : xT} {a0 : Nat} {y1 : Int32} {y3 : Int32} {y4 : Int32} {y5 : Nat} {y6 : Int32} {y7 : Int32} {H : Heap} {locs : List Loc} {ls : Array Slot} , tD G (xA w0 s.heap.size) s.heap u H locs → lv_has ls 8 [(0, .ref a0), (1, .int y1), (3, .int y3), (4, .int y4), (5, .ref y5), (6, .int y6), (7, .int y7)] → F_X11_walks_l66 nn u a0 y1 y3 y4 y5 y6 y7 = some rr → W p l e (xR 7 0 0) s m args below meth cd H locs 0 0 (xQi G w0 (fun r z => r = rr.1 ∧ z = ((tE G rr.2), rr.2.1)) below args s 0 0) (F0 m 66 ls []) := by
  have hx := hE.1; have hb := hE.2.1
  intro nn
  induction nn with
  | zero => intro u a0 y1 y3 y4 y5 y6 y7 H locs ls hD hl hF; rw [F_X11_walks_l66] at hF; cases hF
  | succ nn ih =>
    intro u a0 y1 y3 y4 y5 y6 y7 H locs ls hD hl hF
    rw [F_X11_walks_l66] at hF
    refine lv_iload hx hb dX11_walks_66 (lv_at hl 6 rfl) ?_
    refine lv_iload hx hb dX11_walks_68 (lv_at hl 3 rfl) ?_
    refine lv_icmp_ge (tgt := 114) hx hb dX11_walks_70 (by decide) (fun c2 => ?_) (fun c2 => ?_)
    · have hF := ite_p hF c2
      refine lv_iload hx hb dX11_walks_114 (lv_at hl 5 rfl) ?_
      obtain rfl := Option.some.inj hF
      exact x_iret hE hD ⟨rfl, rfl⟩ (by omega) (by omega) dX11_walks_116
    · have hF := ite_n hF c2
      refine lv_aload hx hb dX11_walks_73 (lv_at hl 4 rfl) ?_
      refine lv_iload_n hx hb dX11_walks_75 rfl (lv_at hl 2 rfl) ?_
      refine lv_iload hx hb dX11_walks_76 (lv_at hl 6 rfl) ?_
      refine lv_iadd hx hb dX11_walks_78 ?_
      obtain ⟨h3, hF⟩ := ite_s hF
      obtain ⟨r4, k5, hF⟩ := xb_s hF
      refine kVz (As := [.int (y3 + y7)]) (rest := []) hE hl hD (c_X8_has k5) kl_X11_285 (tE_8 h3) rfl rfl rfl rfl (Nat.le_of_ble_eq_true rfl) dX11_walks_79 ⟨Nat.le_of_ble_eq_true rfl, Nat.le_of_ble_eq_true rfl⟩ ⟨Nat.le_of_ble_eq_true rfl, Nat.le_of_ble_eq_true rfl⟩ (fun H locs z6 (hD : tD G _ _ u H locs) => ?_)
      refine lv_if_ne (tgt := 88) hx hb dX11_walks_82 (by decide) (fun c7 => ?_) (fun c7 => ?_)
      · have hF := ite_n hF c7
        refine lv_aload_n hx hb dX11_walks_88 rfl (lv_at hl 0 rfl) ?_
        refine lv_iload_n hx hb dX11_walks_89 rfl (lv_at hl 1 rfl) ?_
        refine lv_aload hx hb dX11_walks_90 (lv_at hl 4 rfl) ?_
        refine lv_iload_n hx hb dX11_walks_92 rfl (lv_at hl 2 rfl) ?_
        refine lv_iload hx hb dX11_walks_93 (lv_at hl 6 rfl) ?_
        refine lv_iadd hx hb dX11_walks_95 ?_
        obtain ⟨r8, k9, hF⟩ := xb_s hF
        refine kVi (As := [.int (y3 + y7)]) (rest := [.int y1, .ref a0]) hE hl hD (c_X8_get k9) kl_X11_292 (tE_8 h3) rfl rfl rfl rfl (Nat.le_of_ble_eq_true rfl) dX11_walks_96 ⟨Nat.le_of_ble_eq_true rfl, Nat.le_of_ble_eq_true rfl⟩ ⟨Nat.le_of_ble_eq_true rfl, Nat.le_of_ble_eq_true rfl⟩ (fun H locs (hD : tD G _ _ u H locs) => ?_)
        obtain ⟨h10, hF⟩ := ite_s hF
        obtain ⟨r11, k12, hF⟩ := xb_s hF
        refine kVi (As := [.int y1, .int r8]) (rest := []) hE hl hD (c_X11_cross k12) kl_X11_295 (tE_11 h10) rfl rfl rfl rfl (Nat.le_of_ble_eq_true rfl) dX11_walks_99 ⟨Nat.le_of_ble_eq_true rfl, Nat.le_of_ble_eq_true rfl⟩ ⟨Nat.le_of_ble_eq_true rfl, Nat.le_of_ble_eq_true rfl⟩ (fun H locs (hD : tD G _ _ r11.2 H locs) => ?_)
        refine lv_if_lt (tgt := 108) hx hb dX11_walks_102 (by decide) (fun c13 => ?_) (fun c13 => ?_)
        · have hF := ite_p hF c13
          exact B_X11_walks_j108 hE (F_X11_walks_l66 nn) ih hD (lv_sub hl [0, 1, 2, 3, 4, 5, 6] rfl) hF
        · have hF := ite_n hF c13
          obtain ⟨x14, ex14⟩ : ∃ y : Int32, y = y6 + (1 : Int32) := ⟨_, rfl⟩
          have hF := xlet_e hF ex14
          refine lv_iinc (v := x14) (lv' := [(6, .int x14), (0, .ref a0), (1, .int y1), (3, .int y3), (4, .int y4), (5, .ref y5), (7, .int y7)]) hx hb dX11_walks_105 hl (k := 5) rfl (by rw [ex14]; rfl) (by decide) rfl (fun ls hl => ?_)
          exact B_X11_walks_j108 hE (F_X11_walks_l66 nn) ih hD (lv_sub hl [1, 2, 3, 4, 5, 0, 6] rfl) hF
      · have hF := ite_p hF c7
        refine lv_bipush (v := (-12 : Int32)) hx hb dX11_walks_85 (by decide) ?_
        obtain rfl := Option.some.inj hF
        exact x_iret hE hD ⟨rfl, rfl⟩ (by omega) (by omega) dX11_walks_87
def F_X11_walks_j31 (u : xT) (a0 : Nat) : Option (Int32 × xT) := some ((-1 : Int32), u)
theorem B_X11_walks_j31 {p : Program} {l : Launch} {e : Env} {s : State} {m : MethodId} {args : Array Value} {below : List Frame} {meth : Method} {cd : Code} {G : xG} {w0 : xW} {rr : (Int32 × xT)} (hE : xE p s m args meth cd cX11_walks RX11 G 8 (Option.some Jvm.ClassFile.FieldType.int)) {u : xT} {a0 : Nat} {H : Heap} {locs : List Loc} {ls : Array Slot} (hD : tD G (xA w0 s.heap.size) s.heap u H locs) (hl : lv_has ls 8 [(0, .ref a0)]) (hF : F_X11_walks_j31 u a0 = some rr) : W p l e (xR 7 0 0) s m args below meth cd H locs 0 0 (xQi G w0 (fun r z => r = rr.1 ∧ z = ((tE G rr.2), rr.2.1)) below args s 0 0) (F0 m 31 ls []) := by
  have hx := hE.1; have hb := hE.2.1
  unfold F_X11_walks_j31 at hF
  refine lv_iconst (v := (-1 : Int32)) hx hb dX11_walks_31 (by decide) ?_
  obtain rfl := Option.some.inj hF
  exact x_iret hE hD ⟨rfl, rfl⟩ (by omega) (by omega) dX11_walks_32
def F_X11_walks (u : xT) (a0 : Nat) (xa : Int32) (xb : Int32) (xc : Int32) (xd : Int32) : Option (Int32 × xT) := if tK u a0 = 11 then (tP u a0 0).bind (fun q16 => if tK u q16 = 7 then (F_X7_isPerson u q16 xa).bind (fun r19 => if r19 = 0 then F_X11_walks_j31 u a0 else (F_X11_isIn xb (0 : Int32) (3 : Int32)).bind (fun r23 => if r23 = 0 then F_X11_walks_j31 u a0 else (F_X11_isIn xd (0 : Int32) (20 : Int32)).bind (fun r27 => if r27 = 0 then F_X11_walks_j31 u a0 else (tP u a0 7).bind (fun q31 => if tK u q31 = 23 then if xIn xb (tN u q31) then xopt (tP u q31 xb.toNatClampNeg) (some ((-11 : Int32), u)) (fun q35 => if tK u q35 = 8 then if (tI u q35 0) = 0 then F_X11_walks_l66 xFuel u a0 xa xc xd q35 (0 : Int32) (0 : Int32) else some ((-13 : Int32), u) else none) else none else none)))) else none) else none
theorem c_X11_walks {l : Launch} {G : xG} {rr : (Int32 × xT)} {u : xT} {a0 : Nat} {xa : Int32} {xb : Int32} {xc : Int32} {xd : Int32} (hF : F_X11_walks u a0 xa xb xc xd = some rr) : xMi l G yX11_walks cX11_walks 8 (Option.some Jvm.ClassFile.FieldType.int) 7 0 0 [.ref a0, .int xa, .int xb, .int xc, .int xd] (tE G u) u.1 (fun r z => r = rr.1 ∧ z = ((tE G rr.2), rr.2.1)) := by
  unfold F_X11_walks at hF
  refine x_startI rfl (Nat.le_of_ble_eq_true rfl) (fun p e s m args below meth cd ls hE hnm hl hD => ?_)
  have hx := hE.1; have hb := hE.2.1
  have hl : lv_has ls 8 [(0, .ref a0), (1, .int xa), (2, .int xb), (3, .int xc), (4, .int xd)] := hl
  have hD : tD G (xA (tE G u) s.heap.size) s.heap u s.heap [] := hD
  refine lv_aload_n hx hb dX11_walks_0 rfl (lv_at hl 0 rfl) ?_
  obtain ⟨h15, hF⟩ := ite_s hF
  obtain ⟨q16, h17, hF⟩ := xb_s hF
  refine gr_X11_10 hE hD h15 h17 dX11_walks_1 ?_
  refine lv_iload_n hx hb dX11_walks_4 rfl (lv_at hl 1 rfl) ?_
  obtain ⟨h18, hF⟩ := ite_s hF
  obtain ⟨r19, k20, hF⟩ := xb_s hF
  refine kVz (As := [.int xa]) (rest := []) hE hl hD (c_X7_isPerson k20) kl_X11_161 (tE_7 h18) rfl rfl rfl rfl (Nat.le_of_ble_eq_true rfl) dX11_walks_5 ⟨Nat.le_of_ble_eq_true rfl, Nat.le_of_ble_eq_true rfl⟩ ⟨Nat.le_of_ble_eq_true rfl, Nat.le_of_ble_eq_true rfl⟩ (fun H locs z21 (hD : tD G _ _ u H locs) => ?_)
  refine lv_if_eq (tgt := 31) hx hb dX11_walks_8 (by decide) (fun c22 => ?_) (fun c22 => ?_)
  · have hF := ite_p hF c22
    exact B_X11_walks_j31 hE hD (lv_sub hl [0] rfl) hF
  · have hF := ite_n hF c22
    refine lv_iload_n hx hb dX11_walks_11 rfl (lv_at hl 2 rfl) ?_
    refine lv_iconst (v := (0 : Int32)) hx hb dX11_walks_12 (by decide) ?_
    refine lv_iconst (v := (3 : Int32)) hx hb dX11_walks_13 (by decide) ?_
    obtain ⟨r23, k24, hF⟩ := xb_s hF
    refine kSz (As := [.int xb, .int (0 : Int32), .int (3 : Int32)]) (rest := []) hE hl hD (c_X11_isIn k24) kl_X11_183 rfl rfl (Nat.le_of_ble_eq_true rfl) dX11_walks_14 ⟨Nat.le_of_ble_eq_true rfl, Nat.le_of_ble_eq_true rfl⟩ ⟨Nat.le_of_ble_eq_true rfl, Nat.le_of_ble_eq_true rfl⟩ (fun H locs z25 (hD : tD G _ _ u H locs) => ?_)
    refine lv_if_eq (tgt := 31) hx hb dX11_walks_17 (by decide) (fun c26 => ?_) (fun c26 => ?_)
    · have hF := ite_p hF c26
      exact B_X11_walks_j31 hE hD (lv_sub hl [0] rfl) hF
    · have hF := ite_n hF c26
      refine lv_iload hx hb dX11_walks_20 (lv_at hl 4 rfl) ?_
      refine lv_iconst (v := (0 : Int32)) hx hb dX11_walks_22 (by decide) ?_
      refine lv_bipush (v := (20 : Int32)) hx hb dX11_walks_23 (by decide) ?_
      obtain ⟨r27, k28, hF⟩ := xb_s hF
      refine kSz (As := [.int xd, .int (0 : Int32), .int (20 : Int32)]) (rest := []) hE hl hD (c_X11_isIn k28) kl_X11_183 rfl rfl (Nat.le_of_ble_eq_true rfl) dX11_walks_25 ⟨Nat.le_of_ble_eq_true rfl, Nat.le_of_ble_eq_true rfl⟩ ⟨Nat.le_of_ble_eq_true rfl, Nat.le_of_ble_eq_true rfl⟩ (fun H locs z29 (hD : tD G _ _ u H locs) => ?_)
      refine lv_if_ne (tgt := 33) hx hb dX11_walks_28 (by decide) (fun c30 => ?_) (fun c30 => ?_)
      · have hF := ite_n hF c30
        refine lv_aload_n hx hb dX11_walks_33 rfl (lv_at hl 0 rfl) ?_
        obtain ⟨q31, h32, hF⟩ := xb_s hF
        refine gr_X11_39 hE hD h15 h32 dX11_walks_34 ?_
        refine lv_iload_n hx hb dX11_walks_37 rfl (lv_at hl 2 rfl) ?_
        obtain ⟨h33, hF⟩ := ite_s hF
        obtain ⟨h34, hF⟩ := ite_s hF
        refine t_aldR hE hD h33 h34 dX11_walks_38 ?_
        refine t_split hF (fun h36 hF => ?_) (fun q35 h36 hF => ?_)
        · refine lv_astoreN (lv' := [(5, .null), (0, .ref a0), (1, .int xa), (2, .int xb), (3, .int xc), (4, .int xd)]) hx hb dX11_walks_39 hl (by decide) rfl (fun ls hl => ?_)
          refine lv_aloadN hx hb dX11_walks_41 (lv_at hl 0 rfl) ?_
          refine lv_ifnonnullN hx hb dX11_walks_43 ?_
          refine lv_bipush (v := (-11 : Int32)) hx hb dX11_walks_46 (by decide) ?_
          obtain rfl := Option.some.inj hF
          exact x_iret hE hD ⟨rfl, rfl⟩ (by omega) (by omega) dX11_walks_48
        · refine lv_astore (lv' := [(5, .ref q35), (0, .ref a0), (1, .int xa), (2, .int xb), (3, .int xc), (4, .int xd)]) hx hb dX11_walks_39 hl (by decide) rfl (fun ls hl => ?_)
          refine lv_aload hx hb dX11_walks_41 (lv_at hl 0 rfl) ?_
          refine lv_ifnonnull (tgt := 49) hx hb dX11_walks_43 (by decide) ?_
          refine lv_aload hx hb dX11_walks_49 (lv_at hl 0 rfl) ?_
          obtain ⟨h37, hF⟩ := ite_s hF
          refine gf_X11_291 hE hD h37 dX11_walks_51 ?_
          refine lv_if_eq (tgt := 60) hx hb dX11_walks_54 (by decide) (fun c38 => ?_) (fun c38 => ?_)
          · have hF := ite_p hF c38
            refine lv_iconst (v := (0 : Int32)) hx hb dX11_walks_60 (by decide) ?_
            refine lv_istore (lv' := [(6, .int (0 : Int32)), (5, .ref q35), (0, .ref a0), (1, .int xa), (2, .int xb), (3, .int xc), (4, .int xd)]) hx hb dX11_walks_61 hl (by decide) rfl (fun ls hl => ?_)
            refine lv_iconst (v := (0 : Int32)) hx hb dX11_walks_63 (by decide) ?_
            refine lv_istore (lv' := [(7, .int (0 : Int32)), (6, .int (0 : Int32)), (5, .ref q35), (0, .ref a0), (1, .int xa), (2, .int xb), (3, .int xc), (4, .int xd)]) hx hb dX11_walks_64 hl (by decide) rfl (fun ls hl => ?_)
            exact L_X11_walks_l66 hE _ hD (lv_sub hl [3, 4, 6, 7, 2, 1, 0] rfl) hF
          · have hF := ite_n hF c38
            refine lv_bipush (v := (-13 : Int32)) hx hb dX11_walks_57 (by decide) ?_
            obtain rfl := Option.some.inj hF
            exact x_iret hE hD ⟨rfl, rfl⟩ (by omega) (by omega) dX11_walks_59
      · have hF := ite_p hF c30
        exact B_X11_walks_j31 hE hD (lv_sub hl [0] rfl) hF
def F_X11_shelf_j88 (u : xT) (a0 : Nat) (s0 : Nat) (s1 : Int32) (p2 : Option Nat) : Option (Int32 × xT) := xopt p2 (if tK u s0 = 23 then if xIn s1 (tN u s0) then xlet (tSP u s0 s1.toNatClampNeg none) (fun t4 => some ((1 : Int32), t4)) else none else none) (fun q1 => if tK u s0 = 23 then if tK u q1 = 8 then if xIn s1 (tN u s0) then xlet (tSP u s0 s1.toNatClampNeg (some q1)) (fun t8 => some ((1 : Int32), t8)) else none else none else none)
theorem B_X11_shelf_j88 {p : Program} {l : Launch} {e : Env} {s : State} {m : MethodId} {args : Array Value} {below : List Frame} {meth : Method} {cd : Code} {G : xG} {w0 : xW} {rr : (Int32 × xT)} (hE : xE p s m args meth cd cX11_shelf RX11 G 4 (Option.some Jvm.ClassFile.FieldType.int)) {u : xT} {a0 : Nat} {s0 : Nat} {s1 : Int32} {p2 : Option Nat} {H : Heap} {locs : List Loc} {ls : Array Slot} (hD : tD G (xA w0 s.heap.size) s.heap u H locs) (hl : lv_has ls 4 [(0, .ref a0)]) (hF : F_X11_shelf_j88 u a0 s0 s1 p2 = some rr) : W p l e (xR 3 0 0) s m args below meth cd H locs 0 0 (xQi G w0 (fun r z => r = rr.1 ∧ z = ((tE G rr.2), rr.2.1)) below args s 0 0) (F0 m 88 ls [va_rf p2, .int s1, .ref s0]) := by
  have hx := hE.1; have hb := hE.2.1
  unfold F_X11_shelf_j88 at hF
  refine t_splitL hF (fun h2 hF9 => ?_) (fun q1 h2 hF9 => ?_)
  · subst h2
    have hF := hF9
    have hl : lv_has ls 4 [(0, .ref a0)] := hl
    refine W.eq (g2 := F0 m 88 ls [.null, .int s1, .ref s0]) rfl ?_
    obtain ⟨h3, hF⟩ := ite_s hF
    obtain ⟨h5, hF⟩ := ite_s hF
    refine t_astRN hE hD h3 h5 dX11_shelf_88 (fun t4 H locs et4 hD => ?_)
    have hF := xlet_e hF et4
    have h6 : tK t4 s0 = 23 := by rw [et4]; exact h3
    refine lv_iconst (v := (1 : Int32)) hx hb dX11_shelf_89 (by decide) ?_
    obtain rfl := Option.some.inj hF
    exact x_iret hE hD ⟨rfl, rfl⟩ (by omega) (by omega) dX11_shelf_90
  · subst h2
    have hF := hF9
    have hl : lv_has ls 4 [(0, .ref a0)] := hl
    refine W.eq (g2 := F0 m 88 ls [.ref q1, .int s1, .ref s0]) rfl ?_
    obtain ⟨h7, hF⟩ := ite_s hF
    obtain ⟨h9, hF⟩ := ite_s hF
    obtain ⟨h10, hF⟩ := ite_s hF
    refine t_astR hE hD h7 h9 h10 dX11_shelf_88 (fun t8 H locs et8 hD => ?_)
    have hF := xlet_e hF et8
    have h11 : tK t8 s0 = 23 := by rw [et8]; exact h7
    have h12 : tK t8 q1 = 8 := by rw [et8]; exact h9
    refine lv_iconst (v := (1 : Int32)) hx hb dX11_shelf_89 (by decide) ?_
    obtain rfl := Option.some.inj hF
    exact x_iret hE hD ⟨rfl, rfl⟩ (by omega) (by omega) dX11_shelf_90
def F_X11_shelf_j67 (u : xT) (a0 : Nat) (y1 : Int32) (y2 : Int32) (y3 : Int32) (s0 : Nat) (s1 : Int32) (s2 : Int32) : Option (Int32 × xT) := if tK u s0 = 20 then if xIn s1 (tN u s0) then xlet (tSI u s0 s1.toNatClampNeg s2) (fun t15 => if tK t15 a0 = 11 then (tP t15 a0 9).bind (fun q18 => if y2 = (1 : Int32) then (tP t15 a0 7).bind (fun q21 => if tK t15 q21 = 23 then if xIn y3 (tN t15 q21) then xopt (tP t15 q21 y3.toNatClampNeg) (F_X11_shelf_j88 t15 a0 q18 y1 none) (fun q25 => F_X11_shelf_j88 t15 a0 q18 y1 (some q25)) else none else none) else F_X11_shelf_j88 t15 a0 q18 y1 none) else none) else none else none
theorem B_X11_shelf_j67 {p : Program} {l : Launch} {e : Env} {s : State} {m : MethodId} {args : Array Value} {below : List Frame} {meth : Method} {cd : Code} {G : xG} {w0 : xW} {rr : (Int32 × xT)} (hE : xE p s m args meth cd cX11_shelf RX11 G 4 (Option.some Jvm.ClassFile.FieldType.int)) {u : xT} {a0 : Nat} {y1 : Int32} {y2 : Int32} {y3 : Int32} {s0 : Nat} {s1 : Int32} {s2 : Int32} {H : Heap} {locs : List Loc} {ls : Array Slot} (hD : tD G (xA w0 s.heap.size) s.heap u H locs) (hl : lv_has ls 4 [(0, .ref a0), (1, .int y1), (2, .int y2), (3, .int y3)]) (hF : F_X11_shelf_j67 u a0 y1 y2 y3 s0 s1 s2 = some rr) : W p l e (xR 3 0 0) s m args below meth cd H locs 0 0 (xQi G w0 (fun r z => r = rr.1 ∧ z = ((tE G rr.2), rr.2.1)) below args s 0 0) (F0 m 67 ls [.int s2, .int s1, .ref s0]) := by
  have hx := hE.1; have hb := hE.2.1
  unfold F_X11_shelf_j67 at hF
  obtain ⟨h13, hF⟩ := ite_s hF
  obtain ⟨h14, hF⟩ := ite_s hF
  refine t_iast hE hD h13 h14 dX11_shelf_67 (fun t15 H locs et15 hD => ?_)
  have hF := xlet_e hF et15
  have h16 : tK t15 s0 = 20 := by rw [et15]; exact h13
  refine lv_aload_n hx hb dX11_shelf_68 rfl (lv_at hl 0 rfl) ?_
  obtain ⟨h17, hF⟩ := ite_s hF
  obtain ⟨q18, h19, hF⟩ := xb_s hF
  refine gr_X11_46 hE hD h17 h19 dX11_shelf_69 ?_
  refine lv_iload_n hx hb dX11_shelf_72 rfl (lv_at hl 1 rfl) ?_
  refine lv_iload_n hx hb dX11_shelf_73 rfl (lv_at hl 2 rfl) ?_
  refine lv_iconst (v := (1 : Int32)) hx hb dX11_shelf_74 (by decide) ?_
  refine lv_icmp_ne (tgt := 87) hx hb dX11_shelf_75 (by decide) (fun c20 => ?_) (fun c20 => ?_)
  · have hF := ite_n hF c20
    refine lv_null hx hb dX11_shelf_87 ?_
    exact B_X11_shelf_j88 hE hD (lv_sub hl [0] rfl) hF
  · have hF := ite_p hF c20
    refine lv_aload_n hx hb dX11_shelf_78 rfl (lv_at hl 0 rfl) ?_
    obtain ⟨q21, h22, hF⟩ := xb_s hF
    refine gr_X11_39 hE hD h17 h22 dX11_shelf_79 ?_
    refine lv_iload_n hx hb dX11_shelf_82 rfl (lv_at hl 3 rfl) ?_
    obtain ⟨h23, hF⟩ := ite_s hF
    obtain ⟨h24, hF⟩ := ite_s hF
    refine t_aldR hE hD h23 h24 dX11_shelf_83 ?_
    refine t_split hF (fun h26 hF => ?_) (fun q25 h26 hF => ?_)
    · refine lv_goto (tgt := 88) hx hb dX11_shelf_84 (by decide) ?_
      exact B_X11_shelf_j88 hE hD (lv_sub hl [0] rfl) hF
    · refine lv_goto (tgt := 88) hx hb dX11_shelf_84 (by decide) ?_
      exact B_X11_shelf_j88 hE hD (lv_sub hl [0] rfl) hF
def F_X11_shelf_j53 (u : xT) (a0 : Nat) (y1 : Int32) (y2 : Int32) (y3 : Int32) : Option (Int32 × xT) := if tK u a0 = 11 then (tP u a0 8).bind (fun q28 => if y2 = 0 then F_X11_shelf_j67 u a0 y1 y2 y3 q28 y1 y3 else F_X11_shelf_j67 u a0 y1 y2 y3 q28 y1 (-1 : Int32)) else none
theorem B_X11_shelf_j53 {p : Program} {l : Launch} {e : Env} {s : State} {m : MethodId} {args : Array Value} {below : List Frame} {meth : Method} {cd : Code} {G : xG} {w0 : xW} {rr : (Int32 × xT)} (hE : xE p s m args meth cd cX11_shelf RX11 G 4 (Option.some Jvm.ClassFile.FieldType.int)) {u : xT} {a0 : Nat} {y1 : Int32} {y2 : Int32} {y3 : Int32} {H : Heap} {locs : List Loc} {ls : Array Slot} (hD : tD G (xA w0 s.heap.size) s.heap u H locs) (hl : lv_has ls 4 [(0, .ref a0), (1, .int y1), (2, .int y2), (3, .int y3)]) (hF : F_X11_shelf_j53 u a0 y1 y2 y3 = some rr) : W p l e (xR 3 0 0) s m args below meth cd H locs 0 0 (xQi G w0 (fun r z => r = rr.1 ∧ z = ((tE G rr.2), rr.2.1)) below args s 0 0) (F0 m 53 ls []) := by
  have hx := hE.1; have hb := hE.2.1
  unfold F_X11_shelf_j53 at hF
  refine lv_aload_n hx hb dX11_shelf_53 rfl (lv_at hl 0 rfl) ?_
  obtain ⟨h27, hF⟩ := ite_s hF
  obtain ⟨q28, h29, hF⟩ := xb_s hF
  refine gr_X11_43 hE hD h27 h29 dX11_shelf_54 ?_
  refine lv_iload_n hx hb dX11_shelf_57 rfl (lv_at hl 1 rfl) ?_
  refine lv_iload_n hx hb dX11_shelf_58 rfl (lv_at hl 2 rfl) ?_
  refine lv_if_ne (tgt := 66) hx hb dX11_shelf_59 (by decide) (fun c30 => ?_) (fun c30 => ?_)
  · have hF := ite_n hF c30
    refine lv_iconst (v := (-1 : Int32)) hx hb dX11_shelf_66 (by decide) ?_
    exact B_X11_shelf_j67 hE hD (lv_sub hl [0, 1, 2, 3] rfl) hF
  · have hF := ite_p hF c30
    refine lv_iload_n hx hb dX11_shelf_62 rfl (lv_at hl 3 rfl) ?_
    refine lv_goto (tgt := 67) hx hb dX11_shelf_63 (by decide) ?_
    exact B_X11_shelf_j67 hE hD (lv_sub hl [0, 1, 2, 3] rfl) hF
def F_X11_shelf_j37 (u : xT) (a0 : Nat) (y1 : Int32) (y2 : Int32) (y3 : Int32) : Option (Int32 × xT) := if y2 = (1 : Int32) then (F_X11_isIn y3 (0 : Int32) (3 : Int32)).bind (fun r32 => if r32 = 0 then some ((-1 : Int32), u) else F_X11_shelf_j53 u a0 y1 y2 y3) else F_X11_shelf_j53 u a0 y1 y2 y3
theorem B_X11_shelf_j37 {p : Program} {l : Launch} {e : Env} {s : State} {m : MethodId} {args : Array Value} {below : List Frame} {meth : Method} {cd : Code} {G : xG} {w0 : xW} {rr : (Int32 × xT)} (hE : xE p s m args meth cd cX11_shelf RX11 G 4 (Option.some Jvm.ClassFile.FieldType.int)) {u : xT} {a0 : Nat} {y1 : Int32} {y2 : Int32} {y3 : Int32} {H : Heap} {locs : List Loc} {ls : Array Slot} (hD : tD G (xA w0 s.heap.size) s.heap u H locs) (hl : lv_has ls 4 [(0, .ref a0), (1, .int y1), (2, .int y2), (3, .int y3)]) (hF : F_X11_shelf_j37 u a0 y1 y2 y3 = some rr) : W p l e (xR 3 0 0) s m args below meth cd H locs 0 0 (xQi G w0 (fun r z => r = rr.1 ∧ z = ((tE G rr.2), rr.2.1)) below args s 0 0) (F0 m 37 ls []) := by
  have hx := hE.1; have hb := hE.2.1
  unfold F_X11_shelf_j37 at hF
  refine lv_iload_n hx hb dX11_shelf_37 rfl (lv_at hl 2 rfl) ?_
  refine lv_iconst (v := (1 : Int32)) hx hb dX11_shelf_38 (by decide) ?_
  refine lv_icmp_ne (tgt := 53) hx hb dX11_shelf_39 (by decide) (fun c31 => ?_) (fun c31 => ?_)
  · have hF := ite_n hF c31
    exact B_X11_shelf_j53 hE hD (lv_sub hl [0, 1, 2, 3] rfl) hF
  · have hF := ite_p hF c31
    refine lv_iload_n hx hb dX11_shelf_42 rfl (lv_at hl 3 rfl) ?_
    refine lv_iconst (v := (0 : Int32)) hx hb dX11_shelf_43 (by decide) ?_
    refine lv_iconst (v := (3 : Int32)) hx hb dX11_shelf_44 (by decide) ?_
    obtain ⟨r32, k33, hF⟩ := xb_s hF
    refine kSz (As := [.int y3, .int (0 : Int32), .int (3 : Int32)]) (rest := []) hE hl hD (c_X11_isIn k33) kl_X11_183 rfl rfl (Nat.le_of_ble_eq_true rfl) dX11_shelf_45 ⟨Nat.le_of_ble_eq_true rfl, Nat.le_of_ble_eq_true rfl⟩ ⟨Nat.le_of_ble_eq_true rfl, Nat.le_of_ble_eq_true rfl⟩ (fun H locs z34 (hD : tD G _ _ u H locs) => ?_)
    refine lv_if_ne (tgt := 53) hx hb dX11_shelf_48 (by decide) (fun c35 => ?_) (fun c35 => ?_)
    · have hF := ite_n hF c35
      exact B_X11_shelf_j53 hE hD (lv_sub hl [0, 1, 2, 3] rfl) hF
    · have hF := ite_p hF c35
      refine lv_iconst (v := (-1 : Int32)) hx hb dX11_shelf_51 (by decide) ?_
      obtain rfl := Option.some.inj hF
      exact x_iret hE hD ⟨rfl, rfl⟩ (by omega) (by omega) dX11_shelf_52
def F_X11_shelf_j18 (u : xT) (a0 : Nat) : Option (Int32 × xT) := some ((-1 : Int32), u)
theorem B_X11_shelf_j18 {p : Program} {l : Launch} {e : Env} {s : State} {m : MethodId} {args : Array Value} {below : List Frame} {meth : Method} {cd : Code} {G : xG} {w0 : xW} {rr : (Int32 × xT)} (hE : xE p s m args meth cd cX11_shelf RX11 G 4 (Option.some Jvm.ClassFile.FieldType.int)) {u : xT} {a0 : Nat} {H : Heap} {locs : List Loc} {ls : Array Slot} (hD : tD G (xA w0 s.heap.size) s.heap u H locs) (hl : lv_has ls 4 [(0, .ref a0)]) (hF : F_X11_shelf_j18 u a0 = some rr) : W p l e (xR 3 0 0) s m args below meth cd H locs 0 0 (xQi G w0 (fun r z => r = rr.1 ∧ z = ((tE G rr.2), rr.2.1)) below args s 0 0) (F0 m 18 ls []) := by
  have hx := hE.1; have hb := hE.2.1
  unfold F_X11_shelf_j18 at hF
  refine lv_iconst (v := (-1 : Int32)) hx hb dX11_shelf_18 (by decide) ?_
  obtain rfl := Option.some.inj hF
  exact x_iret hE hD ⟨rfl, rfl⟩ (by omega) (by omega) dX11_shelf_19
def F_X11_shelf (u : xT) (a0 : Nat) (xa : Int32) (xb : Int32) (xc : Int32) : Option (Int32 × xT) := (F_X11_isIn xa (0 : Int32) (3 : Int32)).bind (fun r36 => if r36 = 0 then F_X11_shelf_j18 u a0 else (F_X11_isIn xb (0 : Int32) (2 : Int32)).bind (fun r40 => if r40 = 0 then F_X11_shelf_j18 u a0 else if xb = 0 then if tK u a0 = 11 then (tP u a0 0).bind (fun q46 => if tK u q46 = 7 then (F_X7_bridgeAt u q46 xc).bind (fun r49 => xopt (r49) (some ((-1 : Int32), u)) (fun q51 => F_X11_shelf_j37 u a0 xa xb xc)) else none) else none else F_X11_shelf_j37 u a0 xa xb xc))
theorem c_X11_shelf {l : Launch} {G : xG} {rr : (Int32 × xT)} {u : xT} {a0 : Nat} {xa : Int32} {xb : Int32} {xc : Int32} (hF : F_X11_shelf u a0 xa xb xc = some rr) : xMi l G yX11_shelf cX11_shelf 4 (Option.some Jvm.ClassFile.FieldType.int) 3 0 0 [.ref a0, .int xa, .int xb, .int xc] (tE G u) u.1 (fun r z => r = rr.1 ∧ z = ((tE G rr.2), rr.2.1)) := by
  unfold F_X11_shelf at hF
  refine x_startI rfl (Nat.le_of_ble_eq_true rfl) (fun p e s m args below meth cd ls hE hnm hl hD => ?_)
  have hx := hE.1; have hb := hE.2.1
  have hl : lv_has ls 4 [(0, .ref a0), (1, .int xa), (2, .int xb), (3, .int xc)] := hl
  have hD : tD G (xA (tE G u) s.heap.size) s.heap u s.heap [] := hD
  refine lv_iload_n hx hb dX11_shelf_0 rfl (lv_at hl 1 rfl) ?_
  refine lv_iconst (v := (0 : Int32)) hx hb dX11_shelf_1 (by decide) ?_
  refine lv_iconst (v := (3 : Int32)) hx hb dX11_shelf_2 (by decide) ?_
  obtain ⟨r36, k37, hF⟩ := xb_s hF
  refine kSz (As := [.int xa, .int (0 : Int32), .int (3 : Int32)]) (rest := []) hE hl hD (c_X11_isIn k37) kl_X11_183 rfl rfl (Nat.le_of_ble_eq_true rfl) dX11_shelf_3 ⟨Nat.le_of_ble_eq_true rfl, Nat.le_of_ble_eq_true rfl⟩ ⟨Nat.le_of_ble_eq_true rfl, Nat.le_of_ble_eq_true rfl⟩ (fun H locs z38 (hD : tD G _ _ u H locs) => ?_)
  refine lv_if_eq (tgt := 18) hx hb dX11_shelf_6 (by decide) (fun c39 => ?_) (fun c39 => ?_)
  · have hF := ite_p hF c39
    exact B_X11_shelf_j18 hE hD (lv_sub hl [0] rfl) hF
  · have hF := ite_n hF c39
    refine lv_iload_n hx hb dX11_shelf_9 rfl (lv_at hl 2 rfl) ?_
    refine lv_iconst (v := (0 : Int32)) hx hb dX11_shelf_10 (by decide) ?_
    refine lv_iconst (v := (2 : Int32)) hx hb dX11_shelf_11 (by decide) ?_
    obtain ⟨r40, k41, hF⟩ := xb_s hF
    refine kSz (As := [.int xb, .int (0 : Int32), .int (2 : Int32)]) (rest := []) hE hl hD (c_X11_isIn k41) kl_X11_183 rfl rfl (Nat.le_of_ble_eq_true rfl) dX11_shelf_12 ⟨Nat.le_of_ble_eq_true rfl, Nat.le_of_ble_eq_true rfl⟩ ⟨Nat.le_of_ble_eq_true rfl, Nat.le_of_ble_eq_true rfl⟩ (fun H locs z42 (hD : tD G _ _ u H locs) => ?_)
    refine lv_if_ne (tgt := 20) hx hb dX11_shelf_15 (by decide) (fun c43 => ?_) (fun c43 => ?_)
    · have hF := ite_n hF c43
      refine lv_iload_n hx hb dX11_shelf_20 rfl (lv_at hl 2 rfl) ?_
      refine lv_if_ne (tgt := 37) hx hb dX11_shelf_21 (by decide) (fun c44 => ?_) (fun c44 => ?_)
      · have hF := ite_n hF c44
        exact B_X11_shelf_j37 hE hD (lv_sub hl [0, 1, 2, 3] rfl) hF
      · have hF := ite_p hF c44
        refine lv_aload_n hx hb dX11_shelf_24 rfl (lv_at hl 0 rfl) ?_
        obtain ⟨h45, hF⟩ := ite_s hF
        obtain ⟨q46, h47, hF⟩ := xb_s hF
        refine gr_X11_10 hE hD h45 h47 dX11_shelf_25 ?_
        refine lv_iload_n hx hb dX11_shelf_28 rfl (lv_at hl 3 rfl) ?_
        obtain ⟨h48, hF⟩ := ite_s hF
        obtain ⟨r49, k50, hF⟩ := xb_s hF
        refine kVq (As := [.int xc]) (rest := []) hE hl hD (c_X7_bridgeAt k50) kl_X11_82 (tE_7 h48) rfl rfl rfl rfl (Nat.le_of_ble_eq_true rfl) dX11_shelf_29 ⟨Nat.le_of_ble_eq_true rfl, Nat.le_of_ble_eq_true rfl⟩ ⟨Nat.le_of_ble_eq_true rfl, Nat.le_of_ble_eq_true rfl⟩ (fun H locs (hD : tD G _ _ u H locs) => ?_)
        refine t_split hF (fun h52 hF => ?_) (fun q51 h52 hF => ?_)
        · refine lv_ifnonnullN hx hb dX11_shelf_32 ?_
          refine lv_iconst (v := (-1 : Int32)) hx hb dX11_shelf_35 (by decide) ?_
          obtain rfl := Option.some.inj hF
          exact x_iret hE hD ⟨rfl, rfl⟩ (by omega) (by omega) dX11_shelf_36
        · refine lv_ifnonnull (tgt := 37) hx hb dX11_shelf_32 (by decide) ?_
          exact B_X11_shelf_j37 hE hD (lv_sub hl [0, 1, 2, 3] rfl) hF
    · have hF := ite_p hF c43
      exact B_X11_shelf_j18 hE hD (lv_sub hl [0] rfl) hF
def F_X11_taken_j124 (u : xT) (a0 : Nat) (s0 : Int32) : Option Int32 := some s0
theorem B_X11_taken_j124 {p : Program} {l : Launch} {e : Env} {s : State} {m : MethodId} {args : Array Value} {below : List Frame} {meth : Method} {cd : Code} {G : xG} {w0 : xW} {rr : Int32} (hE : xE p s m args meth cd cX11_taken RX11 G 7 (Option.some Jvm.ClassFile.FieldType.int)) {u : xT} {a0 : Nat} {s0 : Int32} {H : Heap} {locs : List Loc} {ls : Array Slot} (hD : tD G (xA w0 s.heap.size) s.heap u H locs) (hl : lv_has ls 7 [(0, .ref a0)]) (hF : F_X11_taken_j124 u a0 s0 = some rr) : W p l e (xR 3 0 0) s m args below meth cd H locs 0 0 (xQi G w0 (fun r z => r = rr ∧ z = ((tE G u), u.1)) below args s 0 0) (F0 m 124 ls [.int s0]) := by
  have hx := hE.1; have hb := hE.2.1
  unfold F_X11_taken_j124 at hF
  obtain rfl := Option.some.inj hF
  exact x_iret hE hD ⟨rfl, rfl⟩ (by omega) (by omega) dX11_taken_124
def F_X11_taken_j122 (u : xT) (a0 : Nat) : Option Int32 := F_X11_taken_j124 u a0 (-13 : Int32)
theorem B_X11_taken_j122 {p : Program} {l : Launch} {e : Env} {s : State} {m : MethodId} {args : Array Value} {below : List Frame} {meth : Method} {cd : Code} {G : xG} {w0 : xW} {rr : Int32} (hE : xE p s m args meth cd cX11_taken RX11 G 7 (Option.some Jvm.ClassFile.FieldType.int)) {u : xT} {a0 : Nat} {H : Heap} {locs : List Loc} {ls : Array Slot} (hD : tD G (xA w0 s.heap.size) s.heap u H locs) (hl : lv_has ls 7 [(0, .ref a0)]) (hF : F_X11_taken_j122 u a0 = some rr) : W p l e (xR 3 0 0) s m args below meth cd H locs 0 0 (xQi G w0 (fun r z => r = rr ∧ z = ((tE G u), u.1)) below args s 0 0) (F0 m 122 ls []) := by
  have hx := hE.1; have hb := hE.2.1
  unfold F_X11_taken_j122 at hF
  refine lv_bipush (v := (-13 : Int32)) hx hb dX11_taken_122 (by decide) ?_
  exact B_X11_taken_j124 hE hD (lv_sub hl [0] rfl) hF
def F_X11_taken_j83 (u : xT) (a0 : Nat) (s0 : Int32) : Option Int32 := some s0
theorem B_X11_taken_j83 {p : Program} {l : Launch} {e : Env} {s : State} {m : MethodId} {args : Array Value} {below : List Frame} {meth : Method} {cd : Code} {G : xG} {w0 : xW} {rr : Int32} (hE : xE p s m args meth cd cX11_taken RX11 G 7 (Option.some Jvm.ClassFile.FieldType.int)) {u : xT} {a0 : Nat} {s0 : Int32} {H : Heap} {locs : List Loc} {ls : Array Slot} (hD : tD G (xA w0 s.heap.size) s.heap u H locs) (hl : lv_has ls 7 [(0, .ref a0)]) (hF : F_X11_taken_j83 u a0 s0 = some rr) : W p l e (xR 3 0 0) s m args below meth cd H locs 0 0 (xQi G w0 (fun r z => r = rr ∧ z = ((tE G u), u.1)) below args s 0 0) (F0 m 83 ls [.int s0]) := by
  have hx := hE.1; have hb := hE.2.1
  unfold F_X11_taken_j83 at hF
  obtain rfl := Option.some.inj hF
  exact x_iret hE hD ⟨rfl, rfl⟩ (by omega) (by omega) dX11_taken_83
def F_X11_taken_j81 (u : xT) (a0 : Nat) : Option Int32 := F_X11_taken_j83 u a0 (-13 : Int32)
theorem B_X11_taken_j81 {p : Program} {l : Launch} {e : Env} {s : State} {m : MethodId} {args : Array Value} {below : List Frame} {meth : Method} {cd : Code} {G : xG} {w0 : xW} {rr : Int32} (hE : xE p s m args meth cd cX11_taken RX11 G 7 (Option.some Jvm.ClassFile.FieldType.int)) {u : xT} {a0 : Nat} {H : Heap} {locs : List Loc} {ls : Array Slot} (hD : tD G (xA w0 s.heap.size) s.heap u H locs) (hl : lv_has ls 7 [(0, .ref a0)]) (hF : F_X11_taken_j81 u a0 = some rr) : W p l e (xR 3 0 0) s m args below meth cd H locs 0 0 (xQi G w0 (fun r z => r = rr ∧ z = ((tE G u), u.1)) below args s 0 0) (F0 m 81 ls []) := by
  have hx := hE.1; have hb := hE.2.1
  unfold F_X11_taken_j81 at hF
  refine lv_bipush (v := (-13 : Int32)) hx hb dX11_taken_81 (by decide) ?_
  exact B_X11_taken_j83 hE hD (lv_sub hl [0] rfl) hF
def F_X11_taken_j37 (u : xT) (a0 : Nat) (y1 : Int32) (y2 : Int32) (y3 : Int32) (y4 : Int32) : Option Int32 := if tK u a0 = 11 then (tP u a0 0).bind (fun q2 => (tP u a0 8).bind (fun q4 => if tK u q4 = 20 then if xIn y1 (tN u q4) then if tK u q2 = 7 then (F_X7_bridgeAt u q2 (tI u q4 y1.toNatClampNeg)).bind (fun r9 => xopt (r9) ((tP u a0 9).bind (fun q13 => if tK u q13 = 23 then if xIn y1 (tN u q13) then xopt (tP u q13 y1.toNatClampNeg) (some (-11 : Int32)) (fun q17 => if y4 = 0 then F_X11_taken_j122 u a0 else if tK u q17 = 8 then if (tI u q17 0) = (y2 - (10 : Int32)) then (F_X8_size u q17).bind (fun r22 => F_X11_taken_j124 u a0 r22) else F_X11_taken_j122 u a0 else none) else none else none)) (fun q11 => if y3 = 0 then F_X11_taken_j81 u a0 else if isBk (tK u q11) then (F_X11_isUnder (tI u q11 0) y2).bind (fun r26 => if r26 = 0 then F_X11_taken_j81 u a0 else F_X11_taken_j83 u a0 (tI u q11 1)) else none)) else none else none else none)) else none
theorem B_X11_taken_j37 {p : Program} {l : Launch} {e : Env} {s : State} {m : MethodId} {args : Array Value} {below : List Frame} {meth : Method} {cd : Code} {G : xG} {w0 : xW} {rr : Int32} (hE : xE p s m args meth cd cX11_taken RX11 G 7 (Option.some Jvm.ClassFile.FieldType.int)) {u : xT} {a0 : Nat} {y1 : Int32} {y2 : Int32} {y3 : Int32} {y4 : Int32} {H : Heap} {locs : List Loc} {ls : Array Slot} (hD : tD G (xA w0 s.heap.size) s.heap u H locs) (hl : lv_has ls 7 [(0, .ref a0), (1, .int y1), (2, .int y2), (3, .int y3), (4, .int y4)]) (hF : F_X11_taken_j37 u a0 y1 y2 y3 y4 = some rr) : W p l e (xR 3 0 0) s m args below meth cd H locs 0 0 (xQi G w0 (fun r z => r = rr ∧ z = ((tE G u), u.1)) below args s 0 0) (F0 m 37 ls []) := by
  have hx := hE.1; have hb := hE.2.1
  unfold F_X11_taken_j37 at hF
  refine lv_aload_n hx hb dX11_taken_37 rfl (lv_at hl 0 rfl) ?_
  obtain ⟨h1, hF⟩ := ite_s hF
  obtain ⟨q2, h3, hF⟩ := xb_s hF
  refine gr_X11_10 hE hD h1 h3 dX11_taken_38 ?_
  refine lv_aload_n hx hb dX11_taken_41 rfl (lv_at hl 0 rfl) ?_
  obtain ⟨q4, h5, hF⟩ := xb_s hF
  refine gr_X11_43 hE hD h1 h5 dX11_taken_42 ?_
  refine lv_iload_n hx hb dX11_taken_45 rfl (lv_at hl 1 rfl) ?_
  obtain ⟨h6, hF⟩ := ite_s hF
  obtain ⟨h7, hF⟩ := ite_s hF
  refine t_iald hE hD h6 h7 dX11_taken_46 ?_
  obtain ⟨h8, hF⟩ := ite_s hF
  obtain ⟨r9, k10, hF⟩ := xb_s hF
  refine kVq (As := [.int (tI u q4 y1.toNatClampNeg)]) (rest := []) hE hl hD (c_X7_bridgeAt k10) kl_X11_82 (tE_7 h8) rfl rfl rfl rfl (Nat.le_of_ble_eq_true rfl) dX11_taken_47 ⟨Nat.le_of_ble_eq_true rfl, Nat.le_of_ble_eq_true rfl⟩ ⟨Nat.le_of_ble_eq_true rfl, Nat.le_of_ble_eq_true rfl⟩ (fun H locs (hD : tD G _ _ u H locs) => ?_)
  refine t_split hF (fun h12 hF => ?_) (fun q11 h12 hF => ?_)
  · refine lv_astoreN (lv' := [(5, .null), (0, .ref a0), (1, .int y1), (2, .int y2), (3, .int y3), (4, .int y4)]) hx hb dX11_taken_50 hl (by decide) rfl (fun ls hl => ?_)
    refine lv_aloadN hx hb dX11_taken_52 (lv_at hl 0 rfl) ?_
    refine lv_ifnullN (tgt := 84) hx hb dX11_taken_54 (by decide) ?_
    refine lv_aload_n hx hb dX11_taken_84 rfl (lv_at hl 1 rfl) ?_
    obtain ⟨q13, h14, hF⟩ := xb_s hF
    refine gr_X11_46 hE hD h1 h14 dX11_taken_85 ?_
    refine lv_iload_n hx hb dX11_taken_88 rfl (lv_at hl 2 rfl) ?_
    obtain ⟨h15, hF⟩ := ite_s hF
    obtain ⟨h16, hF⟩ := ite_s hF
    refine t_aldR hE hD h15 h16 dX11_taken_89 ?_
    refine t_split hF (fun h18 hF => ?_) (fun q17 h18 hF => ?_)
    · refine lv_astoreN (lv' := [(6, .null), (5, .null), (0, .ref a0), (1, .int y1), (2, .int y2), (3, .int y3), (4, .int y4)]) hx hb dX11_taken_90 hl (by decide) rfl (fun ls hl => ?_)
      refine lv_aloadN hx hb dX11_taken_92 (lv_at hl 0 rfl) ?_
      refine lv_ifnullN (tgt := 125) hx hb dX11_taken_94 (by decide) ?_
      refine lv_bipush (v := (-11 : Int32)) hx hb dX11_taken_125 (by decide) ?_
      obtain rfl := Option.some.inj hF
      exact x_iret hE hD ⟨rfl, rfl⟩ (by omega) (by omega) dX11_taken_127
    · refine lv_astore (lv' := [(6, .ref q17), (5, .null), (0, .ref a0), (1, .int y1), (2, .int y2), (3, .int y3), (4, .int y4)]) hx hb dX11_taken_90 hl (by decide) rfl (fun ls hl => ?_)
      refine lv_aload hx hb dX11_taken_92 (lv_at hl 0 rfl) ?_
      refine lv_ifnull hx hb dX11_taken_94 ?_
      refine lv_iload hx hb dX11_taken_97 (lv_at hl 6 rfl) ?_
      refine lv_if_eq (tgt := 122) hx hb dX11_taken_99 (by decide) (fun c19 => ?_) (fun c19 => ?_)
      · have hF := ite_p hF c19
        exact B_X11_taken_j122 hE hD (lv_sub hl [2] rfl) hF
      · have hF := ite_n hF c19
        refine lv_aload hx hb dX11_taken_102 (lv_at hl 0 rfl) ?_
        obtain ⟨h20, hF⟩ := ite_s hF
        refine gf_X11_291 hE hD h20 dX11_taken_104 ?_
        refine lv_iload_n hx hb dX11_taken_107 rfl (lv_at hl 4 rfl) ?_
        refine lv_bipush (v := (10 : Int32)) hx hb dX11_taken_108 (by decide) ?_
        refine lv_isub hx hb dX11_taken_110 ?_
        refine lv_icmp_ne (tgt := 122) hx hb dX11_taken_111 (by decide) (fun c21 => ?_) (fun c21 => ?_)
        · have hF := ite_n hF c21
          exact B_X11_taken_j122 hE hD (lv_sub hl [2] rfl) hF
        · have hF := ite_p hF c21
          refine lv_aload hx hb dX11_taken_114 (lv_at hl 0 rfl) ?_
          obtain ⟨r22, k23, hF⟩ := xb_s hF
          refine kVi (As := []) (rest := []) hE hl hD (c_X8_size k23) kl_X11_304 (tE_8 h20) rfl rfl rfl rfl (Nat.le_of_ble_eq_true rfl) dX11_taken_116 ⟨Nat.le_of_ble_eq_true rfl, Nat.le_of_ble_eq_true rfl⟩ ⟨Nat.le_of_ble_eq_true rfl, Nat.le_of_ble_eq_true rfl⟩ (fun H locs (hD : tD G _ _ u H locs) => ?_)
          refine lv_goto (tgt := 124) hx hb dX11_taken_119 (by decide) ?_
          exact B_X11_taken_j124 hE hD (lv_sub hl [2] rfl) hF
  · refine lv_astore (lv' := [(5, .ref q11), (0, .ref a0), (1, .int y1), (2, .int y2), (3, .int y3), (4, .int y4)]) hx hb dX11_taken_50 hl (by decide) rfl (fun ls hl => ?_)
    refine lv_aload hx hb dX11_taken_52 (lv_at hl 0 rfl) ?_
    refine lv_ifnull hx hb dX11_taken_54 ?_
    refine lv_iload_n hx hb dX11_taken_57 rfl (lv_at hl 4 rfl) ?_
    refine lv_if_eq (tgt := 81) hx hb dX11_taken_58 (by decide) (fun c24 => ?_) (fun c24 => ?_)
    · have hF := ite_p hF c24
      exact B_X11_taken_j81 hE hD (lv_sub hl [1] rfl) hF
    · have hF := ite_n hF c24
      refine lv_aload hx hb dX11_taken_61 (lv_at hl 0 rfl) ?_
      obtain ⟨h25, hF⟩ := ite_s hF
      refine gf_X11_86 hE hD h25 dX11_taken_63 ?_
      refine lv_iload_n hx hb dX11_taken_66 rfl (lv_at hl 3 rfl) ?_
      obtain ⟨r26, k27, hF⟩ := xb_s hF
      refine kSz (As := [.int (tI u q11 0), .int y2]) (rest := []) hE hl hD (c_X11_isUnder k27) kl_X11_298 rfl rfl (Nat.le_of_ble_eq_true rfl) dX11_taken_67 ⟨Nat.le_of_ble_eq_true rfl, Nat.le_of_ble_eq_true rfl⟩ ⟨Nat.le_of_ble_eq_true rfl, Nat.le_of_ble_eq_true rfl⟩ (fun H locs z28 (hD : tD G _ _ u H locs) => ?_)
      refine lv_if_eq (tgt := 81) hx hb dX11_taken_70 (by decide) (fun c29 => ?_) (fun c29 => ?_)
      · have hF := ite_p hF c29
        exact B_X11_taken_j81 hE hD (lv_sub hl [1] rfl) hF
      · have hF := ite_n hF c29
        refine lv_aload hx hb dX11_taken_73 (lv_at hl 0 rfl) ?_
        refine gf_X11_301 hE hD h25 dX11_taken_75 ?_
        refine lv_goto (tgt := 83) hx hb dX11_taken_78 (by decide) ?_
        exact B_X11_taken_j83 hE hD (lv_sub hl [1] rfl) hF
def F_X11_taken_j35 (u : xT) (a0 : Nat) : Option Int32 := some (-1 : Int32)
theorem B_X11_taken_j35 {p : Program} {l : Launch} {e : Env} {s : State} {m : MethodId} {args : Array Value} {below : List Frame} {meth : Method} {cd : Code} {G : xG} {w0 : xW} {rr : Int32} (hE : xE p s m args meth cd cX11_taken RX11 G 7 (Option.some Jvm.ClassFile.FieldType.int)) {u : xT} {a0 : Nat} {H : Heap} {locs : List Loc} {ls : Array Slot} (hD : tD G (xA w0 s.heap.size) s.heap u H locs) (hl : lv_has ls 7 [(0, .ref a0)]) (hF : F_X11_taken_j35 u a0 = some rr) : W p l e (xR 3 0 0) s m args below meth cd H locs 0 0 (xQi G w0 (fun r z => r = rr ∧ z = ((tE G u), u.1)) below args s 0 0) (F0 m 35 ls []) := by
  have hx := hE.1; have hb := hE.2.1
  unfold F_X11_taken_j35 at hF
  refine lv_iconst (v := (-1 : Int32)) hx hb dX11_taken_35 (by decide) ?_
  obtain rfl := Option.some.inj hF
  exact x_iret hE hD ⟨rfl, rfl⟩ (by omega) (by omega) dX11_taken_36
def F_X11_taken (u : xT) (a0 : Nat) (xa : Int32) (xb : Int32) : Option Int32 := (F_X11_isIn xb (0 : Int32) (5 : Int32)).bind (fun r30 => (F_X11_isIn xb (10 : Int32) (14 : Int32)).bind (fun r33 => (F_X11_isIn xa (0 : Int32) (3 : Int32)).bind (fun r36 => if r36 = 0 then F_X11_taken_j35 u a0 else if r30 = 0 then if r33 = 0 then F_X11_taken_j35 u a0 else F_X11_taken_j37 u a0 xa xb r30 r33 else F_X11_taken_j37 u a0 xa xb r30 r33)))
theorem c_X11_taken {l : Launch} {G : xG} {rr : Int32} {u : xT} {a0 : Nat} {xa : Int32} {xb : Int32} (hF : F_X11_taken u a0 xa xb = some rr) : xMi l G yX11_taken cX11_taken 7 (Option.some Jvm.ClassFile.FieldType.int) 3 0 0 [.ref a0, .int xa, .int xb] (tE G u) u.1 (fun r z => r = rr ∧ z = ((tE G u), u.1)) := by
  unfold F_X11_taken at hF
  refine x_startI rfl (Nat.le_of_ble_eq_true rfl) (fun p e s m args below meth cd ls hE hnm hl hD => ?_)
  have hx := hE.1; have hb := hE.2.1
  have hl : lv_has ls 7 [(0, .ref a0), (1, .int xa), (2, .int xb)] := hl
  have hD : tD G (xA (tE G u) s.heap.size) s.heap u s.heap [] := hD
  refine lv_iload_n hx hb dX11_taken_0 rfl (lv_at hl 2 rfl) ?_
  refine lv_iconst (v := (0 : Int32)) hx hb dX11_taken_1 (by decide) ?_
  refine lv_iconst (v := (5 : Int32)) hx hb dX11_taken_2 (by decide) ?_
  obtain ⟨r30, k31, hF⟩ := xb_s hF
  refine kSz (As := [.int xb, .int (0 : Int32), .int (5 : Int32)]) (rest := []) hE hl hD (c_X11_isIn k31) kl_X11_183 rfl rfl (Nat.le_of_ble_eq_true rfl) dX11_taken_3 ⟨Nat.le_of_ble_eq_true rfl, Nat.le_of_ble_eq_true rfl⟩ ⟨Nat.le_of_ble_eq_true rfl, Nat.le_of_ble_eq_true rfl⟩ (fun H locs z32 (hD : tD G _ _ u H locs) => ?_)
  refine lv_istore_n (lv' := [(3, .int r30), (0, .ref a0), (1, .int xa), (2, .int xb)]) hx hb dX11_taken_6 rfl hl (by decide) rfl (fun ls hl => ?_)
  refine lv_iload_n hx hb dX11_taken_7 rfl (lv_at hl 3 rfl) ?_
  refine lv_bipush (v := (10 : Int32)) hx hb dX11_taken_8 (by decide) ?_
  refine lv_bipush (v := (14 : Int32)) hx hb dX11_taken_10 (by decide) ?_
  obtain ⟨r33, k34, hF⟩ := xb_s hF
  refine kSz (As := [.int xb, .int (10 : Int32), .int (14 : Int32)]) (rest := []) hE hl hD (c_X11_isIn k34) kl_X11_183 rfl rfl (Nat.le_of_ble_eq_true rfl) dX11_taken_12 ⟨Nat.le_of_ble_eq_true rfl, Nat.le_of_ble_eq_true rfl⟩ ⟨Nat.le_of_ble_eq_true rfl, Nat.le_of_ble_eq_true rfl⟩ (fun H locs z35 (hD : tD G _ _ u H locs) => ?_)
  refine lv_istore (lv' := [(4, .int r33), (3, .int r30), (0, .ref a0), (1, .int xa), (2, .int xb)]) hx hb dX11_taken_15 hl (by decide) rfl (fun ls hl => ?_)
  refine lv_iload_n hx hb dX11_taken_17 rfl (lv_at hl 3 rfl) ?_
  refine lv_iconst (v := (0 : Int32)) hx hb dX11_taken_18 (by decide) ?_
  refine lv_iconst (v := (3 : Int32)) hx hb dX11_taken_19 (by decide) ?_
  obtain ⟨r36, k37, hF⟩ := xb_s hF
  refine kSz (As := [.int xa, .int (0 : Int32), .int (3 : Int32)]) (rest := []) hE hl hD (c_X11_isIn k37) kl_X11_183 rfl rfl (Nat.le_of_ble_eq_true rfl) dX11_taken_20 ⟨Nat.le_of_ble_eq_true rfl, Nat.le_of_ble_eq_true rfl⟩ ⟨Nat.le_of_ble_eq_true rfl, Nat.le_of_ble_eq_true rfl⟩ (fun H locs z38 (hD : tD G _ _ u H locs) => ?_)
  refine lv_if_eq (tgt := 35) hx hb dX11_taken_23 (by decide) (fun c39 => ?_) (fun c39 => ?_)
  · have hF := ite_p hF c39
    exact B_X11_taken_j35 hE hD (lv_sub hl [2] rfl) hF
  · have hF := ite_n hF c39
    refine lv_iload_n hx hb dX11_taken_26 rfl (lv_at hl 1 rfl) ?_
    refine lv_if_ne (tgt := 37) hx hb dX11_taken_27 (by decide) (fun c40 => ?_) (fun c40 => ?_)
    · have hF := ite_n hF c40
      exact B_X11_taken_j37 hE hD (lv_sub hl [2, 3, 4, 1, 0] rfl) hF
    · have hF := ite_p hF c40
      refine lv_iload hx hb dX11_taken_30 (lv_at hl 0 rfl) ?_
      refine lv_if_ne (tgt := 37) hx hb dX11_taken_32 (by decide) (fun c41 => ?_) (fun c41 => ?_)
      · have hF := ite_n hF c41
        exact B_X11_taken_j37 hE hD (lv_sub hl [2, 3, 4, 1, 0] rfl) hF
      · have hF := ite_p hF c41
        exact B_X11_taken_j35 hE hD (lv_sub hl [2] rfl) hF
theorem ku_X11_311_1 : xLU RX11 RX1 "DoubledBridge$Bridge" 311 ⟨"DoubledBridge$Bridge", "makes", "(ILDoubledBridge$Trace;)I"⟩ yX0_makes cX0_makes 3 (Option.some Jvm.ClassFile.FieldType.int) 2 := ⟨List.forall_mem_cons.mpr ⟨kw5_54, List.forall_mem_cons.mpr ⟨kw5_56, List.forall_mem_cons.mpr ⟨kw5_57, List.forall_mem_cons.mpr ⟨kw5_55, List.forall_mem_cons.mpr ⟨kw1_6, List.forall_mem_cons.mpr ⟨kw5_75, fun _ h => absurd h List.not_mem_nil⟩⟩⟩⟩⟩⟩, Or.inl rfl, by decide, by decide, by decide +kernel⟩
theorem ku_X11_311_4 : xLU RX11 RX4 "DoubledBridge$Bridge" 311 ⟨"DoubledBridge$Bridge", "makes", "(ILDoubledBridge$Trace;)I"⟩ yX0_makes cX0_makes 3 (Option.some Jvm.ClassFile.FieldType.int) 2 := ⟨List.forall_mem_cons.mpr ⟨kw5_54, List.forall_mem_cons.mpr ⟨kw5_56, List.forall_mem_cons.mpr ⟨kw5_58, List.forall_mem_cons.mpr ⟨kw5_55, List.forall_mem_cons.mpr ⟨kw1_6, List.forall_mem_cons.mpr ⟨kw5_75, fun _ h => absurd h List.not_mem_nil⟩⟩⟩⟩⟩⟩, Or.inl rfl, by decide, by decide, by decide +kernel⟩
theorem ku_X11_311_5 : xLU RX11 RX5 "DoubledBridge$Bridge" 311 ⟨"DoubledBridge$Bridge", "makes", "(ILDoubledBridge$Trace;)I"⟩ yX5_makes cX5_makes 3 (Option.some Jvm.ClassFile.FieldType.int) 2 := ⟨List.forall_mem_cons.mpr ⟨kw5_54, List.forall_mem_cons.mpr ⟨kw5_56, List.forall_mem_cons.mpr ⟨kw5_59, List.forall_mem_cons.mpr ⟨kw5_60, List.forall_mem_cons.mpr ⟨kw1_8, List.forall_mem_cons.mpr ⟨kw5_61, fun _ h => absurd h List.not_mem_nil⟩⟩⟩⟩⟩⟩, Or.inr ⟨kw5_55, _, _, _, kw5_75⟩, by decide, by decide, by decide +kernel⟩
theorem ku_X11_311_6 : xLU RX11 RX6 "DoubledBridge$Bridge" 311 ⟨"DoubledBridge$Bridge", "makes", "(ILDoubledBridge$Trace;)I"⟩ yX6_makes cX6_makes 3 (Option.some Jvm.ClassFile.FieldType.int) 2 := ⟨List.forall_mem_cons.mpr ⟨kw5_54, List.forall_mem_cons.mpr ⟨kw5_56, List.forall_mem_cons.mpr ⟨kw5_69, List.forall_mem_cons.mpr ⟨kw5_70, List.forall_mem_cons.mpr ⟨kw1_11, List.forall_mem_cons.mpr ⟨kw5_71, fun _ h => absurd h List.not_mem_nil⟩⟩⟩⟩⟩⟩, Or.inr ⟨kw5_55, _, _, _, kw5_75⟩, by decide, by decide, by decide +kernel⟩
theorem ku_X11_311_9 : xLU RX11 RX9 "DoubledBridge$Bridge" 311 ⟨"DoubledBridge$Bridge", "makes", "(ILDoubledBridge$Trace;)I"⟩ yX0_makes cX0_makes 3 (Option.some Jvm.ClassFile.FieldType.int) 2 := ⟨List.forall_mem_cons.mpr ⟨kw5_54, List.forall_mem_cons.mpr ⟨kw5_56, List.forall_mem_cons.mpr ⟨kw5_74, List.forall_mem_cons.mpr ⟨kw5_55, List.forall_mem_cons.mpr ⟨kw1_6, List.forall_mem_cons.mpr ⟨kw5_75, fun _ h => absurd h List.not_mem_nil⟩⟩⟩⟩⟩⟩, Or.inl rfl, by decide, by decide, by decide +kernel⟩
theorem kB_X11_311 {p : Program} {l : Launch} {e : Env} {R : Room} {s : State} {m : MethodId} {args : Array Value} {below : List Frame} {meth : Method} {c : Code} {H : Heap} {locs : List Loc} {cells slots : Nat} {Q : State → Prop} {cc : ByteArray} {pc : Nat} {ls : Array Slot} {rest : List Value} {G : xG} {A : Nat → Prop} {a nL : Nat} {H0 : Heap} {ret : Option FieldType} {t : xT} {lv : List (Nat × Value)} (hE : xE p s m args meth c cc RX11 G nL ret) (hl : lv_has ls nL lv) (hD : tD G A H0 t H locs) (hk : isBk (tK t a)) {xa : Int32} {xb : Nat} {v : (Int32) × xT} (hF : F_V_makes t a xa xb = some v) (hr : (rest.map fun v => v.category).sum ≤ 8) (hdg : decode cc pc = .ok (.invokevirtual 311, 3)) (hR : 4 + 1 ≤ R.frames ∧ 8 + (3 + 11) + 40 * 4 ≤ R.locals) (hR2 : cells ≤ R.cells ∧ slots ≤ R.slots) (kk : ∀ (H1 : Heap) (locs1 : List Loc), tD G A H0 v.2 H1 locs1 → W p l e R s m args below meth c H1 locs1 cells slots Q (F0 m (pc + 3) ls (.int v.1 :: rest))) : W p l e R s m args below meth c H locs cells slots Q (F0 m pc ls (.ref xb :: .int xa :: .ref a :: rest)) := by
  unfold F_V_makes at hF
  rcases hk with h | h | h | h | h
  · have hF := ite_p hF h
    exact kUi (As := [.int xa, .ref xb]) (rest := rest) hE hl hD (c_X0_makes hF) ku_X11_311_1 (tE_1 h) rfl rfl rfl rfl hr hdg ⟨by have := hR.1; omega, by have := hR.2; omega⟩ hR2 kk
  · have hF := ite_n hF (by rw [h]; decide)
    have hF := ite_p hF h
    exact kUi (As := [.int xa, .ref xb]) (rest := rest) hE hl hD (c_X0_makes hF) ku_X11_311_4 (tE_4 h) rfl rfl rfl rfl hr hdg ⟨by have := hR.1; omega, by have := hR.2; omega⟩ hR2 kk
  · have hF := ite_n hF (by rw [h]; decide)
    have hF := ite_n hF (by rw [h]; decide)
    have hF := ite_p hF h
    exact kUi (As := [.int xa, .ref xb]) (rest := rest) hE hl hD (c_X5_makes hF) ku_X11_311_5 (tE_5 h) rfl rfl rfl rfl hr hdg ⟨by have := hR.1; omega, by have := hR.2; omega⟩ hR2 kk
  · have hF := ite_n hF (by rw [h]; decide)
    have hF := ite_n hF (by rw [h]; decide)
    have hF := ite_n hF (by rw [h]; decide)
    have hF := ite_p hF h
    exact kUi (As := [.int xa, .ref xb]) (rest := rest) hE hl hD (c_X6_makes hF) ku_X11_311_6 (tE_6 h) rfl rfl rfl rfl hr hdg ⟨by have := hR.1; omega, by have := hR.2; omega⟩ hR2 kk
  · have hF := ite_n hF (by rw [h]; decide)
    have hF := ite_n hF (by rw [h]; decide)
    have hF := ite_n hF (by rw [h]; decide)
    have hF := ite_n hF (by rw [h]; decide)
    have hF := ite_p hF h
    exact kUi (As := [.int xa, .ref xb]) (rest := rest) hE hl hD (c_X0_makes hF) ku_X11_311_9 (tE_9 h) rfl rfl rfl rfl hr hdg ⟨by have := hR.1; omega, by have := hR.2; omega⟩ hR2 kk
theorem ku_X11_315_1 : xLU RX11 RX1 "DoubledBridge$Bridge" 315 ⟨"DoubledBridge$Bridge", "takes", "(ILDoubledBridge$Trace;)I"⟩ yX0_takes cX0_takes 3 (Option.some Jvm.ClassFile.FieldType.int) 2 := ⟨List.forall_mem_cons.mpr ⟨kw5_77, List.forall_mem_cons.mpr ⟨kw5_79, List.forall_mem_cons.mpr ⟨kw5_80, List.forall_mem_cons.mpr ⟨kw5_78, List.forall_mem_cons.mpr ⟨kw1_6, List.forall_mem_cons.mpr ⟨kw5_95, fun _ h => absurd h List.not_mem_nil⟩⟩⟩⟩⟩⟩, Or.inl rfl, by decide, by decide, by decide +kernel⟩
theorem ku_X11_315_4 : xLU RX11 RX4 "DoubledBridge$Bridge" 315 ⟨"DoubledBridge$Bridge", "takes", "(ILDoubledBridge$Trace;)I"⟩ yX4_takes cX4_takes 3 (Option.some Jvm.ClassFile.FieldType.int) 2 := ⟨List.forall_mem_cons.mpr ⟨kw5_77, List.forall_mem_cons.mpr ⟨kw5_79, List.forall_mem_cons.mpr ⟨kw5_81, List.forall_mem_cons.mpr ⟨kw5_82, List.forall_mem_cons.mpr ⟨kw1_10, List.forall_mem_cons.mpr ⟨kw5_83, fun _ h => absurd h List.not_mem_nil⟩⟩⟩⟩⟩⟩, Or.inr ⟨kw5_78, _, _, _, kw5_95⟩, by decide, by decide, by decide +kernel⟩
theorem ku_X11_315_5 : xLU RX11 RX5 "DoubledBridge$Bridge" 315 ⟨"DoubledBridge$Bridge", "takes", "(ILDoubledBridge$Trace;)I"⟩ yX9_takes cX9_takes 3 (Option.some Jvm.ClassFile.FieldType.int) 2 := ⟨List.forall_mem_cons.mpr ⟨kw5_77, List.forall_mem_cons.mpr ⟨kw5_79, List.forall_mem_cons.mpr ⟨kw5_88, List.forall_mem_cons.mpr ⟨kw5_89, List.forall_mem_cons.mpr ⟨kw1_7, List.forall_mem_cons.mpr ⟨kw5_90, fun _ h => absurd h List.not_mem_nil⟩⟩⟩⟩⟩⟩, Or.inr ⟨kw5_78, _, _, _, kw5_95⟩, by decide, by decide, by decide +kernel⟩
theorem ku_X11_315_6 : xLU RX11 RX6 "DoubledBridge$Bridge" 315 ⟨"DoubledBridge$Bridge", "takes", "(ILDoubledBridge$Trace;)I"⟩ yX0_takes cX0_takes 3 (Option.some Jvm.ClassFile.FieldType.int) 2 := ⟨List.forall_mem_cons.mpr ⟨kw5_77, List.forall_mem_cons.mpr ⟨kw5_79, List.forall_mem_cons.mpr ⟨kw5_93, List.forall_mem_cons.mpr ⟨kw5_78, List.forall_mem_cons.mpr ⟨kw1_6, List.forall_mem_cons.mpr ⟨kw5_95, fun _ h => absurd h List.not_mem_nil⟩⟩⟩⟩⟩⟩, Or.inl rfl, by decide, by decide, by decide +kernel⟩
theorem ku_X11_315_9 : xLU RX11 RX9 "DoubledBridge$Bridge" 315 ⟨"DoubledBridge$Bridge", "takes", "(ILDoubledBridge$Trace;)I"⟩ yX9_takes cX9_takes 3 (Option.some Jvm.ClassFile.FieldType.int) 2 := ⟨List.forall_mem_cons.mpr ⟨kw5_77, List.forall_mem_cons.mpr ⟨kw5_79, List.forall_mem_cons.mpr ⟨kw5_94, List.forall_mem_cons.mpr ⟨kw5_89, List.forall_mem_cons.mpr ⟨kw1_7, List.forall_mem_cons.mpr ⟨kw5_90, fun _ h => absurd h List.not_mem_nil⟩⟩⟩⟩⟩⟩, Or.inr ⟨kw5_78, _, _, _, kw5_95⟩, by decide, by decide, by decide +kernel⟩
theorem kB_X11_315 {p : Program} {l : Launch} {e : Env} {R : Room} {s : State} {m : MethodId} {args : Array Value} {below : List Frame} {meth : Method} {c : Code} {H : Heap} {locs : List Loc} {cells slots : Nat} {Q : State → Prop} {cc : ByteArray} {pc : Nat} {ls : Array Slot} {rest : List Value} {G : xG} {A : Nat → Prop} {a nL : Nat} {H0 : Heap} {ret : Option FieldType} {t : xT} {lv : List (Nat × Value)} (hE : xE p s m args meth c cc RX11 G nL ret) (hl : lv_has ls nL lv) (hD : tD G A H0 t H locs) (hk : isBk (tK t a)) {xa : Int32} {xb : Nat} {v : (Int32) × xT} (hF : F_V_takes t a xa xb = some v) (hr : (rest.map fun v => v.category).sum ≤ 8) (hdg : decode cc pc = .ok (.invokevirtual 315, 3)) (hR : 6 + 1 ≤ R.frames ∧ 8 + (3 + 11) + 40 * 6 ≤ R.locals) (hR2 : cells ≤ R.cells ∧ slots ≤ R.slots) (kk : ∀ (H1 : Heap) (locs1 : List Loc), tD G A H0 v.2 H1 locs1 → W p l e R s m args below meth c H1 locs1 cells slots Q (F0 m (pc + 3) ls (.int v.1 :: rest))) : W p l e R s m args below meth c H locs cells slots Q (F0 m pc ls (.ref xb :: .int xa :: .ref a :: rest)) := by
  unfold F_V_takes at hF
  rcases hk with h | h | h | h | h
  · have hF := ite_p hF h
    exact kUi (As := [.int xa, .ref xb]) (rest := rest) hE hl hD (c_X0_takes hF) ku_X11_315_1 (tE_1 h) rfl rfl rfl rfl hr hdg ⟨by have := hR.1; omega, by have := hR.2; omega⟩ hR2 kk
  · have hF := ite_n hF (by rw [h]; decide)
    have hF := ite_p hF h
    exact kUi (As := [.int xa, .ref xb]) (rest := rest) hE hl hD (c_X4_takes hF) ku_X11_315_4 (tE_4 h) rfl rfl rfl rfl hr hdg ⟨by have := hR.1; omega, by have := hR.2; omega⟩ hR2 kk
  · have hF := ite_n hF (by rw [h]; decide)
    have hF := ite_n hF (by rw [h]; decide)
    have hF := ite_p hF h
    exact kUi (As := [.int xa, .ref xb]) (rest := rest) hE hl hD (c_X9_takes hF) ku_X11_315_5 (tE_5 h) rfl rfl rfl rfl hr hdg ⟨by have := hR.1; omega, by have := hR.2; omega⟩ hR2 kk
  · have hF := ite_n hF (by rw [h]; decide)
    have hF := ite_n hF (by rw [h]; decide)
    have hF := ite_n hF (by rw [h]; decide)
    have hF := ite_p hF h
    exact kUi (As := [.int xa, .ref xb]) (rest := rest) hE hl hD (c_X0_takes hF) ku_X11_315_6 (tE_6 h) rfl rfl rfl rfl hr hdg ⟨by have := hR.1; omega, by have := hR.2; omega⟩ hR2 kk
  · have hF := ite_n hF (by rw [h]; decide)
    have hF := ite_n hF (by rw [h]; decide)
    have hF := ite_n hF (by rw [h]; decide)
    have hF := ite_n hF (by rw [h]; decide)
    have hF := ite_p hF h
    exact kUi (As := [.int xa, .ref xb]) (rest := rest) hE hl hD (c_X9_takes hF) ku_X11_315_9 (tE_9 h) rfl rfl rfl rfl hr hdg ⟨by have := hR.1; omega, by have := hR.2; omega⟩ hR2 kk
theorem ku_X11_318_1 : xLU RX11 RX1 "DoubledBridge$Bridge" 318 ⟨"DoubledBridge$Bridge", "shares", "(ILDoubledBridge$Trace;)I"⟩ yX1_shares cX1_shares 3 (Option.some Jvm.ClassFile.FieldType.int) 2 := ⟨List.forall_mem_cons.mpr ⟨kw5_97, List.forall_mem_cons.mpr ⟨kw5_99, List.forall_mem_cons.mpr ⟨kw5_100, List.forall_mem_cons.mpr ⟨kw5_101, List.forall_mem_cons.mpr ⟨kw1_9, List.forall_mem_cons.mpr ⟨kw5_102, fun _ h => absurd h List.not_mem_nil⟩⟩⟩⟩⟩⟩, Or.inr ⟨kw5_98, _, _, _, kw5_115⟩, by decide, by decide, by decide +kernel⟩
theorem ku_X11_318_4 : xLU RX11 RX4 "DoubledBridge$Bridge" 318 ⟨"DoubledBridge$Bridge", "shares", "(ILDoubledBridge$Trace;)I"⟩ yX4_shares cX4_shares 3 (Option.some Jvm.ClassFile.FieldType.int) 2 := ⟨List.forall_mem_cons.mpr ⟨kw5_97, List.forall_mem_cons.mpr ⟨kw5_99, List.forall_mem_cons.mpr ⟨kw5_105, List.forall_mem_cons.mpr ⟨kw5_106, List.forall_mem_cons.mpr ⟨kw1_10, List.forall_mem_cons.mpr ⟨kw5_107, fun _ h => absurd h List.not_mem_nil⟩⟩⟩⟩⟩⟩, Or.inr ⟨kw5_98, _, _, _, kw5_115⟩, by decide, by decide, by decide +kernel⟩
theorem ku_X11_318_5 : xLU RX11 RX5 "DoubledBridge$Bridge" 318 ⟨"DoubledBridge$Bridge", "shares", "(ILDoubledBridge$Trace;)I"⟩ yX0_shares cX0_shares 4 (Option.some Jvm.ClassFile.FieldType.int) 2 := ⟨List.forall_mem_cons.mpr ⟨kw5_97, List.forall_mem_cons.mpr ⟨kw5_99, List.forall_mem_cons.mpr ⟨kw5_112, List.forall_mem_cons.mpr ⟨kw5_98, List.forall_mem_cons.mpr ⟨kw1_6, List.forall_mem_cons.mpr ⟨kw5_115, fun _ h => absurd h List.not_mem_nil⟩⟩⟩⟩⟩⟩, Or.inl rfl, by decide, by decide, by decide +kernel⟩
theorem ku_X11_318_6 : xLU RX11 RX6 "DoubledBridge$Bridge" 318 ⟨"DoubledBridge$Bridge", "shares", "(ILDoubledBridge$Trace;)I"⟩ yX0_shares cX0_shares 4 (Option.some Jvm.ClassFile.FieldType.int) 2 := ⟨List.forall_mem_cons.mpr ⟨kw5_97, List.forall_mem_cons.mpr ⟨kw5_99, List.forall_mem_cons.mpr ⟨kw5_113, List.forall_mem_cons.mpr ⟨kw5_98, List.forall_mem_cons.mpr ⟨kw1_6, List.forall_mem_cons.mpr ⟨kw5_115, fun _ h => absurd h List.not_mem_nil⟩⟩⟩⟩⟩⟩, Or.inl rfl, by decide, by decide, by decide +kernel⟩
theorem ku_X11_318_9 : xLU RX11 RX9 "DoubledBridge$Bridge" 318 ⟨"DoubledBridge$Bridge", "shares", "(ILDoubledBridge$Trace;)I"⟩ yX0_shares cX0_shares 4 (Option.some Jvm.ClassFile.FieldType.int) 2 := ⟨List.forall_mem_cons.mpr ⟨kw5_97, List.forall_mem_cons.mpr ⟨kw5_99, List.forall_mem_cons.mpr ⟨kw5_114, List.forall_mem_cons.mpr ⟨kw5_98, List.forall_mem_cons.mpr ⟨kw1_6, List.forall_mem_cons.mpr ⟨kw5_115, fun _ h => absurd h List.not_mem_nil⟩⟩⟩⟩⟩⟩, Or.inl rfl, by decide, by decide, by decide +kernel⟩
def F_V_shares (t : xT) (a : Nat) (xa : Int32) (xb : Nat) : Option ((Int32) × xT) := if tK t a = 1 then F_X1_shares t a xa xb else (if tK t a = 4 then F_X4_shares t a xa xb else (if tK t a = 5 then F_X0_shares t a xa xb else (if tK t a = 6 then F_X0_shares t a xa xb else (if tK t a = 9 then F_X0_shares t a xa xb else (none)))))
theorem kB_X11_318 {p : Program} {l : Launch} {e : Env} {R : Room} {s : State} {m : MethodId} {args : Array Value} {below : List Frame} {meth : Method} {c : Code} {H : Heap} {locs : List Loc} {cells slots : Nat} {Q : State → Prop} {cc : ByteArray} {pc : Nat} {ls : Array Slot} {rest : List Value} {G : xG} {A : Nat → Prop} {a nL : Nat} {H0 : Heap} {ret : Option FieldType} {t : xT} {lv : List (Nat × Value)} (hE : xE p s m args meth c cc RX11 G nL ret) (hl : lv_has ls nL lv) (hD : tD G A H0 t H locs) (hk : isBk (tK t a)) {xa : Int32} {xb : Nat} {v : (Int32) × xT} (hF : F_V_shares t a xa xb = some v) (hr : (rest.map fun v => v.category).sum ≤ 8) (hdg : decode cc pc = .ok (.invokevirtual 318, 3)) (hR : 5 + 1 ≤ R.frames ∧ 8 + (4 + 11) + 40 * 5 ≤ R.locals) (hR2 : cells ≤ R.cells ∧ slots ≤ R.slots) (kk : ∀ (H1 : Heap) (locs1 : List Loc), tD G A H0 v.2 H1 locs1 → W p l e R s m args below meth c H1 locs1 cells slots Q (F0 m (pc + 3) ls (.int v.1 :: rest))) : W p l e R s m args below meth c H locs cells slots Q (F0 m pc ls (.ref xb :: .int xa :: .ref a :: rest)) := by
  unfold F_V_shares at hF
  rcases hk with h | h | h | h | h
  · have hF := ite_p hF h
    exact kUi (As := [.int xa, .ref xb]) (rest := rest) hE hl hD (c_X1_shares hF) ku_X11_318_1 (tE_1 h) rfl rfl rfl rfl hr hdg ⟨by have := hR.1; omega, by have := hR.2; omega⟩ hR2 kk
  · have hF := ite_n hF (by rw [h]; decide)
    have hF := ite_p hF h
    exact kUi (As := [.int xa, .ref xb]) (rest := rest) hE hl hD (c_X4_shares hF) ku_X11_318_4 (tE_4 h) rfl rfl rfl rfl hr hdg ⟨by have := hR.1; omega, by have := hR.2; omega⟩ hR2 kk
  · have hF := ite_n hF (by rw [h]; decide)
    have hF := ite_n hF (by rw [h]; decide)
    have hF := ite_p hF h
    exact kUi (As := [.int xa, .ref xb]) (rest := rest) hE hl hD (c_X0_shares hF) ku_X11_318_5 (tE_5 h) rfl rfl rfl rfl hr hdg ⟨by have := hR.1; omega, by have := hR.2; omega⟩ hR2 kk
  · have hF := ite_n hF (by rw [h]; decide)
    have hF := ite_n hF (by rw [h]; decide)
    have hF := ite_n hF (by rw [h]; decide)
    have hF := ite_p hF h
    exact kUi (As := [.int xa, .ref xb]) (rest := rest) hE hl hD (c_X0_shares hF) ku_X11_318_6 (tE_6 h) rfl rfl rfl rfl hr hdg ⟨by have := hR.1; omega, by have := hR.2; omega⟩ hR2 kk
  · have hF := ite_n hF (by rw [h]; decide)
    have hF := ite_n hF (by rw [h]; decide)
    have hF := ite_n hF (by rw [h]; decide)
    have hF := ite_n hF (by rw [h]; decide)
    have hF := ite_p hF h
    exact kUi (As := [.int xa, .ref xb]) (rest := rest) hE hl hD (c_X0_shares hF) ku_X11_318_9 (tE_9 h) rfl rfl rfl rfl hr hdg ⟨by have := hR.1; omega, by have := hR.2; omega⟩ hR2 kk
theorem ku_X11_321_1 : xLU RX11 RX1 "DoubledBridge$Bridge" 321 ⟨"DoubledBridge$Bridge", "tells", "(ILDoubledBridge$Trace;)I"⟩ yX0_tells cX0_tells 3 (Option.some Jvm.ClassFile.FieldType.int) 2 := ⟨List.forall_mem_cons.mpr ⟨kw5_120, List.forall_mem_cons.mpr ⟨kw5_122, List.forall_mem_cons.mpr ⟨kw5_123, List.forall_mem_cons.mpr ⟨kw5_121, List.forall_mem_cons.mpr ⟨kw1_6, List.forall_mem_cons.mpr ⟨kw5_137, fun _ h => absurd h List.not_mem_nil⟩⟩⟩⟩⟩⟩, Or.inl rfl, by decide, by decide, by decide +kernel⟩
theorem ku_X11_321_4 : xLU RX11 RX4 "DoubledBridge$Bridge" 321 ⟨"DoubledBridge$Bridge", "tells", "(ILDoubledBridge$Trace;)I"⟩ yX0_tells cX0_tells 3 (Option.some Jvm.ClassFile.FieldType.int) 2 := ⟨List.forall_mem_cons.mpr ⟨kw5_120, List.forall_mem_cons.mpr ⟨kw5_122, List.forall_mem_cons.mpr ⟨kw5_124, List.forall_mem_cons.mpr ⟨kw5_121, List.forall_mem_cons.mpr ⟨kw1_6, List.forall_mem_cons.mpr ⟨kw5_137, fun _ h => absurd h List.not_mem_nil⟩⟩⟩⟩⟩⟩, Or.inl rfl, by decide, by decide, by decide +kernel⟩
theorem ku_X11_321_5 : xLU RX11 RX5 "DoubledBridge$Bridge" 321 ⟨"DoubledBridge$Bridge", "tells", "(ILDoubledBridge$Trace;)I"⟩ yX5_tells cX5_tells 3 (Option.some Jvm.ClassFile.FieldType.int) 2 := ⟨List.forall_mem_cons.mpr ⟨kw5_120, List.forall_mem_cons.mpr ⟨kw5_122, List.forall_mem_cons.mpr ⟨kw5_125, List.forall_mem_cons.mpr ⟨kw5_126, List.forall_mem_cons.mpr ⟨kw1_8, List.forall_mem_cons.mpr ⟨kw5_127, fun _ h => absurd h List.not_mem_nil⟩⟩⟩⟩⟩⟩, Or.inr ⟨kw5_121, _, _, _, kw5_137⟩, by decide, by decide, by decide +kernel⟩
theorem ku_X11_321_6 : xLU RX11 RX6 "DoubledBridge$Bridge" 321 ⟨"DoubledBridge$Bridge", "tells", "(ILDoubledBridge$Trace;)I"⟩ yX0_tells cX0_tells 3 (Option.some Jvm.ClassFile.FieldType.int) 2 := ⟨List.forall_mem_cons.mpr ⟨kw5_120, List.forall_mem_cons.mpr ⟨kw5_122, List.forall_mem_cons.mpr ⟨kw5_135, List.forall_mem_cons.mpr ⟨kw5_121, List.forall_mem_cons.mpr ⟨kw1_6, List.forall_mem_cons.mpr ⟨kw5_137, fun _ h => absurd h List.not_mem_nil⟩⟩⟩⟩⟩⟩, Or.inl rfl, by decide, by decide, by decide +kernel⟩
theorem ku_X11_321_9 : xLU RX11 RX9 "DoubledBridge$Bridge" 321 ⟨"DoubledBridge$Bridge", "tells", "(ILDoubledBridge$Trace;)I"⟩ yX0_tells cX0_tells 3 (Option.some Jvm.ClassFile.FieldType.int) 2 := ⟨List.forall_mem_cons.mpr ⟨kw5_120, List.forall_mem_cons.mpr ⟨kw5_122, List.forall_mem_cons.mpr ⟨kw5_136, List.forall_mem_cons.mpr ⟨kw5_121, List.forall_mem_cons.mpr ⟨kw1_6, List.forall_mem_cons.mpr ⟨kw5_137, fun _ h => absurd h List.not_mem_nil⟩⟩⟩⟩⟩⟩, Or.inl rfl, by decide, by decide, by decide +kernel⟩
def F_V_tells (t : xT) (a : Nat) (xa : Int32) (xb : Nat) : Option ((Int32) × xT) := if tK t a = 1 then F_X0_tells t a xa xb else (if tK t a = 4 then F_X0_tells t a xa xb else (if tK t a = 5 then F_X5_tells t a xa xb else (if tK t a = 6 then F_X0_tells t a xa xb else (if tK t a = 9 then F_X0_tells t a xa xb else (none)))))
theorem kB_X11_321 {p : Program} {l : Launch} {e : Env} {R : Room} {s : State} {m : MethodId} {args : Array Value} {below : List Frame} {meth : Method} {c : Code} {H : Heap} {locs : List Loc} {cells slots : Nat} {Q : State → Prop} {cc : ByteArray} {pc : Nat} {ls : Array Slot} {rest : List Value} {G : xG} {A : Nat → Prop} {a nL : Nat} {H0 : Heap} {ret : Option FieldType} {t : xT} {lv : List (Nat × Value)} (hE : xE p s m args meth c cc RX11 G nL ret) (hl : lv_has ls nL lv) (hD : tD G A H0 t H locs) (hk : isBk (tK t a)) {xa : Int32} {xb : Nat} {v : (Int32) × xT} (hF : F_V_tells t a xa xb = some v) (hr : (rest.map fun v => v.category).sum ≤ 8) (hdg : decode cc pc = .ok (.invokevirtual 321, 3)) (hR : 8 + 1 ≤ R.frames ∧ 8 + (3 + 11) + 40 * 8 ≤ R.locals) (hR2 : cells ≤ R.cells ∧ slots ≤ R.slots) (kk : ∀ (H1 : Heap) (locs1 : List Loc), tD G A H0 v.2 H1 locs1 → W p l e R s m args below meth c H1 locs1 cells slots Q (F0 m (pc + 3) ls (.int v.1 :: rest))) : W p l e R s m args below meth c H locs cells slots Q (F0 m pc ls (.ref xb :: .int xa :: .ref a :: rest)) := by
  unfold F_V_tells at hF
  rcases hk with h | h | h | h | h
  · have hF := ite_p hF h
    exact kUi (As := [.int xa, .ref xb]) (rest := rest) hE hl hD (c_X0_tells hF) ku_X11_321_1 (tE_1 h) rfl rfl rfl rfl hr hdg ⟨by have := hR.1; omega, by have := hR.2; omega⟩ hR2 kk
  · have hF := ite_n hF (by rw [h]; decide)
    have hF := ite_p hF h
    exact kUi (As := [.int xa, .ref xb]) (rest := rest) hE hl hD (c_X0_tells hF) ku_X11_321_4 (tE_4 h) rfl rfl rfl rfl hr hdg ⟨by have := hR.1; omega, by have := hR.2; omega⟩ hR2 kk
  · have hF := ite_n hF (by rw [h]; decide)
    have hF := ite_n hF (by rw [h]; decide)
    have hF := ite_p hF h
    exact kUi (As := [.int xa, .ref xb]) (rest := rest) hE hl hD (c_X5_tells hF) ku_X11_321_5 (tE_5 h) rfl rfl rfl rfl hr hdg ⟨by have := hR.1; omega, by have := hR.2; omega⟩ hR2 kk
  · have hF := ite_n hF (by rw [h]; decide)
    have hF := ite_n hF (by rw [h]; decide)
    have hF := ite_n hF (by rw [h]; decide)
    have hF := ite_p hF h
    exact kUi (As := [.int xa, .ref xb]) (rest := rest) hE hl hD (c_X0_tells hF) ku_X11_321_6 (tE_6 h) rfl rfl rfl rfl hr hdg ⟨by have := hR.1; omega, by have := hR.2; omega⟩ hR2 kk
  · have hF := ite_n hF (by rw [h]; decide)
    have hF := ite_n hF (by rw [h]; decide)
    have hF := ite_n hF (by rw [h]; decide)
    have hF := ite_n hF (by rw [h]; decide)
    have hF := ite_p hF h
    exact kUi (As := [.int xa, .ref xb]) (rest := rest) hE hl hD (c_X0_tells hF) ku_X11_321_9 (tE_9 h) rfl rfl rfl rfl hr hdg ⟨by have := hR.1; omega, by have := hR.2; omega⟩ hR2 kk
def F_X11_act_j153 (u : xT) (a0 : Nat) (s0 : Int32) : Option (Int32 × xT) := some (s0, u)
theorem B_X11_act_j153 {p : Program} {l : Launch} {e : Env} {s : State} {m : MethodId} {args : Array Value} {below : List Frame} {meth : Method} {cd : Code} {G : xG} {w0 : xW} {rr : (Int32 × xT)} (hE : xE p s m args meth cd cX11_act RX11 G 6 (Option.some Jvm.ClassFile.FieldType.int)) {u : xT} {a0 : Nat} {s0 : Int32} {H : Heap} {locs : List Loc} {ls : Array Slot} (hD : tD G (xA w0 s.heap.size) s.heap u H locs) (hl : lv_has ls 6 [(0, .ref a0)]) (hF : F_X11_act_j153 u a0 s0 = some rr) : W p l e (xR 9 0 0) s m args below meth cd H locs 0 0 (xQi G w0 (fun r z => r = rr.1 ∧ z = ((tE G rr.2), rr.2.1)) below args s 0 0) (F0 m 153 ls [.int s0]) := by
  have hx := hE.1; have hb := hE.2.1
  unfold F_X11_act_j153 at hF
  obtain rfl := Option.some.inj hF
  exact x_iret hE hD ⟨rfl, rfl⟩ (by omega) (by omega) dX11_act_153
def F_X11_act_j136 (u : xT) (a0 : Nat) (y5 : Int32) : Option (Int32 × xT) := if tK u a0 = 11 then (tP u a0 10).bind (fun q2 => if tK u q2 = 10 then if (tI u q2 2) = 0 then F_X11_act_j153 u a0 y5 else F_X11_act_j153 u a0 (-15 : Int32) else none) else none
theorem B_X11_act_j136 {p : Program} {l : Launch} {e : Env} {s : State} {m : MethodId} {args : Array Value} {below : List Frame} {meth : Method} {cd : Code} {G : xG} {w0 : xW} {rr : (Int32 × xT)} (hE : xE p s m args meth cd cX11_act RX11 G 6 (Option.some Jvm.ClassFile.FieldType.int)) {u : xT} {a0 : Nat} {y5 : Int32} {H : Heap} {locs : List Loc} {ls : Array Slot} (hD : tD G (xA w0 s.heap.size) s.heap u H locs) (hl : lv_has ls 6 [(0, .ref a0), (5, .int y5)]) (hF : F_X11_act_j136 u a0 y5 = some rr) : W p l e (xR 9 0 0) s m args below meth cd H locs 0 0 (xQi G w0 (fun r z => r = rr.1 ∧ z = ((tE G rr.2), rr.2.1)) below args s 0 0) (F0 m 136 ls []) := by
  have hx := hE.1; have hb := hE.2.1
  unfold F_X11_act_j136 at hF
  refine lv_aload_n hx hb dX11_act_136 rfl (lv_at hl 0 rfl) ?_
  obtain ⟨h1, hF⟩ := ite_s hF
  obtain ⟨q2, h3, hF⟩ := xb_s hF
  refine gr_X11_52 hE hD h1 h3 dX11_act_137 ?_
  obtain ⟨h4, hF⟩ := ite_s hF
  refine gf_X11_324 hE hD h4 dX11_act_140 ?_
  refine lv_if_eq (tgt := 151) hx hb dX11_act_143 (by decide) (fun c5 => ?_) (fun c5 => ?_)
  · have hF := ite_p hF c5
    refine lv_iload hx hb dX11_act_151 (lv_at hl 1 rfl) ?_
    exact B_X11_act_j153 hE hD (lv_sub hl [0] rfl) hF
  · have hF := ite_n hF c5
    refine lv_bipush (v := (-15 : Int32)) hx hb dX11_act_146 (by decide) ?_
    refine lv_goto (tgt := 153) hx hb dX11_act_148 (by decide) ?_
    exact B_X11_act_j153 hE hD (lv_sub hl [0] rfl) hF
def F_X11_act_j33 (u : xT) (a0 : Nat) (y2 : Int32) (y3 : Int32) (p0 : Option Nat) : Option (Int32 × xT) := xopt p0 (some ((0 : Int32), u)) (fun q6 => (if y2 = (0 : Int32) then if tK u a0 = 11 then (tP u a0 10).bind (fun q10 => if isBk (tK u q6) then (F_V_makes u q6 y3 q10).bind (fun r13 => F_X11_act_j136 r13.2 a0 r13.1) else none) else none else (if y2 = (1 : Int32) then if tK u a0 = 11 then (tP u a0 10).bind (fun q17 => if isBk (tK u q6) then (F_V_takes u q6 y3 q17).bind (fun r20 => F_X11_act_j136 r20.2 a0 r20.1) else none) else none else (if y2 = (2 : Int32) then if tK u a0 = 11 then (tP u a0 10).bind (fun q24 => if isBk (tK u q6) then (F_V_shares u q6 y3 q24).bind (fun r27 => F_X11_act_j136 r27.2 a0 r27.1) else none) else none else (if y2 = (3 : Int32) then if tK u a0 = 11 then (tP u a0 10).bind (fun q31 => if isBk (tK u q6) then (F_V_tells u q6 y3 q31).bind (fun r34 => F_X11_act_j136 r34.2 a0 r34.1) else none) else none else F_X11_act_j136 u a0 (0 : Int32))))))
theorem B_X11_act_j33 {p : Program} {l : Launch} {e : Env} {s : State} {m : MethodId} {args : Array Value} {below : List Frame} {meth : Method} {cd : Code} {G : xG} {w0 : xW} {rr : (Int32 × xT)} (hE : xE p s m args meth cd cX11_act RX11 G 6 (Option.some Jvm.ClassFile.FieldType.int)) {u : xT} {a0 : Nat} {y2 : Int32} {y3 : Int32} {p0 : Option Nat} {H : Heap} {locs : List Loc} {ls : Array Slot} (hD : tD G (xA w0 s.heap.size) s.heap u H locs) (hl : lv_has ls 6 [(0, .ref a0), (2, .int y2), (3, .int y3)]) (hF : F_X11_act_j33 u a0 y2 y3 p0 = some rr) : W p l e (xR 9 0 0) s m args below meth cd H locs 0 0 (xQi G w0 (fun r z => r = rr.1 ∧ z = ((tE G rr.2), rr.2.1)) below args s 0 0) (F0 m 33 ls [va_rf p0]) := by
  have hx := hE.1; have hb := hE.2.1
  unfold F_X11_act_j33 at hF
  refine t_splitL hF (fun h7 hF9 => ?_) (fun q6 h7 hF9 => ?_)
  · subst h7
    have hF := hF9
    have hl : lv_has ls 6 [(0, .ref a0), (2, .int y2), (3, .int y3)] := hl
    refine W.eq (g2 := F0 m 33 ls [.null]) rfl ?_
    refine lv_astoreN (lv' := [(4, .null), (0, .ref a0), (2, .int y2), (3, .int y3)]) hx hb dX11_act_33 hl (by decide) rfl (fun ls hl => ?_)
    refine lv_aloadN hx hb dX11_act_35 (lv_at hl 0 rfl) ?_
    refine lv_ifnonnullN hx hb dX11_act_37 ?_
    refine lv_iconst (v := (0 : Int32)) hx hb dX11_act_40 (by decide) ?_
    obtain rfl := Option.some.inj hF
    exact x_iret hE hD ⟨rfl, rfl⟩ (by omega) (by omega) dX11_act_41
  · subst h7
    have hF := hF9
    have hl : lv_has ls 6 [(0, .ref a0), (2, .int y2), (3, .int y3)] := hl
    refine W.eq (g2 := F0 m 33 ls [.ref q6]) rfl ?_
    refine lv_astore (lv' := [(4, .ref q6), (0, .ref a0), (2, .int y2), (3, .int y3)]) hx hb dX11_act_33 hl (by decide) rfl (fun ls hl => ?_)
    refine lv_aload hx hb dX11_act_35 (lv_at hl 0 rfl) ?_
    refine lv_ifnonnull (tgt := 42) hx hb dX11_act_37 (by decide) ?_
    refine lv_iconst (v := (0 : Int32)) hx hb dX11_act_42 (by decide) ?_
    refine lv_istore (lv' := [(5, .int (0 : Int32)), (4, .ref q6), (0, .ref a0), (2, .int y2), (3, .int y3)]) hx hb dX11_act_43 hl (by decide) rfl (fun ls hl => ?_)
    refine lv_iload_n hx hb dX11_act_45 rfl (lv_at hl 3 rfl) ?_
    by_cases c8 : y2 = (0 : Int32)
    · have hF := ite_p hF c8
      refine lv_tableIn (off := 30) (tgt := 76) hx hb dX11_act_46 (by rw [c8]; decide) (by rw [c8]; decide) (by rw [c8]; rfl) (by decide) ?_
      refine lv_aload hx hb dX11_act_76 (lv_at hl 1 rfl) ?_
      refine lv_iload_n hx hb dX11_act_78 rfl (lv_at hl 4 rfl) ?_
      refine lv_aload_n hx hb dX11_act_79 rfl (lv_at hl 2 rfl) ?_
      obtain ⟨h9, hF⟩ := ite_s hF
      obtain ⟨q10, h11, hF⟩ := xb_s hF
      refine gr_X11_52 hE hD h9 h11 dX11_act_80 ?_
      obtain ⟨h12, hF⟩ := ite_s hF
      obtain ⟨r13, k14, hF⟩ := xb_s hF
      refine kB_X11_311 (rest := []) hE hl hD h12 k14 (Nat.le_of_ble_eq_true rfl) dX11_act_83 ⟨Nat.le_of_ble_eq_true rfl, Nat.le_of_ble_eq_true rfl⟩ ⟨Nat.le_of_ble_eq_true rfl, Nat.le_of_ble_eq_true rfl⟩ (fun H locs (hD : tD G _ _ r13.2 H locs) => ?_)
      refine lv_istore (lv' := [(5, .int r13.1), (4, .ref q6), (0, .ref a0), (2, .int y2), (3, .int y3)]) hx hb dX11_act_86 hl (by decide) rfl (fun ls hl => ?_)
      refine lv_goto (tgt := 136) hx hb dX11_act_88 (by decide) ?_
      exact B_X11_act_j136 hE hD (lv_sub hl [2, 0] rfl) hF
    · have hF := ite_n hF c8
      by_cases c15 : y2 = (1 : Int32)
      · have hF := ite_p hF c15
        refine lv_tableIn (off := 45) (tgt := 91) hx hb dX11_act_46 (by rw [c15]; decide) (by rw [c15]; decide) (by rw [c15]; rfl) (by decide) ?_
        refine lv_aload hx hb dX11_act_91 (lv_at hl 1 rfl) ?_
        refine lv_iload_n hx hb dX11_act_93 rfl (lv_at hl 4 rfl) ?_
        refine lv_aload_n hx hb dX11_act_94 rfl (lv_at hl 2 rfl) ?_
        obtain ⟨h16, hF⟩ := ite_s hF
        obtain ⟨q17, h18, hF⟩ := xb_s hF
        refine gr_X11_52 hE hD h16 h18 dX11_act_95 ?_
        obtain ⟨h19, hF⟩ := ite_s hF
        obtain ⟨r20, k21, hF⟩ := xb_s hF
        refine kB_X11_315 (rest := []) hE hl hD h19 k21 (Nat.le_of_ble_eq_true rfl) dX11_act_98 ⟨Nat.le_of_ble_eq_true rfl, Nat.le_of_ble_eq_true rfl⟩ ⟨Nat.le_of_ble_eq_true rfl, Nat.le_of_ble_eq_true rfl⟩ (fun H locs (hD : tD G _ _ r20.2 H locs) => ?_)
        refine lv_istore (lv' := [(5, .int r20.1), (4, .ref q6), (0, .ref a0), (2, .int y2), (3, .int y3)]) hx hb dX11_act_101 hl (by decide) rfl (fun ls hl => ?_)
        refine lv_goto (tgt := 136) hx hb dX11_act_103 (by decide) ?_
        exact B_X11_act_j136 hE hD (lv_sub hl [2, 0] rfl) hF
      · have hF := ite_n hF c15
        by_cases c22 : y2 = (2 : Int32)
        · have hF := ite_p hF c22
          refine lv_tableIn (off := 60) (tgt := 106) hx hb dX11_act_46 (by rw [c22]; decide) (by rw [c22]; decide) (by rw [c22]; rfl) (by decide) ?_
          refine lv_aload hx hb dX11_act_106 (lv_at hl 1 rfl) ?_
          refine lv_iload_n hx hb dX11_act_108 rfl (lv_at hl 4 rfl) ?_
          refine lv_aload_n hx hb dX11_act_109 rfl (lv_at hl 2 rfl) ?_
          obtain ⟨h23, hF⟩ := ite_s hF
          obtain ⟨q24, h25, hF⟩ := xb_s hF
          refine gr_X11_52 hE hD h23 h25 dX11_act_110 ?_
          obtain ⟨h26, hF⟩ := ite_s hF
          obtain ⟨r27, k28, hF⟩ := xb_s hF
          refine kB_X11_318 (rest := []) hE hl hD h26 k28 (Nat.le_of_ble_eq_true rfl) dX11_act_113 ⟨Nat.le_of_ble_eq_true rfl, Nat.le_of_ble_eq_true rfl⟩ ⟨Nat.le_of_ble_eq_true rfl, Nat.le_of_ble_eq_true rfl⟩ (fun H locs (hD : tD G _ _ r27.2 H locs) => ?_)
          refine lv_istore (lv' := [(5, .int r27.1), (4, .ref q6), (0, .ref a0), (2, .int y2), (3, .int y3)]) hx hb dX11_act_116 hl (by decide) rfl (fun ls hl => ?_)
          refine lv_goto (tgt := 136) hx hb dX11_act_118 (by decide) ?_
          exact B_X11_act_j136 hE hD (lv_sub hl [2, 0] rfl) hF
        · have hF := ite_n hF c22
          by_cases c29 : y2 = (3 : Int32)
          · have hF := ite_p hF c29
            refine lv_tableIn (off := 75) (tgt := 121) hx hb dX11_act_46 (by rw [c29]; decide) (by rw [c29]; decide) (by rw [c29]; rfl) (by decide) ?_
            refine lv_aload hx hb dX11_act_121 (lv_at hl 1 rfl) ?_
            refine lv_iload_n hx hb dX11_act_123 rfl (lv_at hl 4 rfl) ?_
            refine lv_aload_n hx hb dX11_act_124 rfl (lv_at hl 2 rfl) ?_
            obtain ⟨h30, hF⟩ := ite_s hF
            obtain ⟨q31, h32, hF⟩ := xb_s hF
            refine gr_X11_52 hE hD h30 h32 dX11_act_125 ?_
            obtain ⟨h33, hF⟩ := ite_s hF
            obtain ⟨r34, k35, hF⟩ := xb_s hF
            refine kB_X11_321 (rest := []) hE hl hD h33 k35 (Nat.le_of_ble_eq_true rfl) dX11_act_128 ⟨Nat.le_of_ble_eq_true rfl, Nat.le_of_ble_eq_true rfl⟩ ⟨Nat.le_of_ble_eq_true rfl, Nat.le_of_ble_eq_true rfl⟩ (fun H locs (hD : tD G _ _ r34.2 H locs) => ?_)
            refine lv_istore (lv' := [(5, .int r34.1), (4, .ref q6), (0, .ref a0), (2, .int y2), (3, .int y3)]) hx hb dX11_act_131 hl (by decide) rfl (fun ls hl => ?_)
            refine lv_goto (tgt := 136) hx hb dX11_act_133 (by decide) ?_
            exact B_X11_act_j136 hE hD (lv_sub hl [2, 0] rfl) hF
          · have hF := ite_n hF c29
            refine lv_tableOut (tgt := 136) hx hb dX11_act_46 (by have hc8 := lv_neT (a := 0) c8 rfl; have hc15 := lv_neT (a := 1) c15 rfl; have hc22 := lv_neT (a := 2) c22 rfl; have hc29 := lv_neT (a := 3) c29 rfl; omega) (by decide) ?_
            exact B_X11_act_j136 hE hD (lv_sub hl [2, 0] rfl) hF
def F_X11_act (u : xT) (a0 : Nat) (xa : Int32) (xb : Int32) (xc : Int32) : Option (Int32 × xT) := if tK u a0 = 11 then (tP u a0 10).bind (fun q37 => if tK u q37 = 10 then (F_X10_clear u q37).bind (fun r40 => (F_X11_isIn xa (0 : Int32) (3 : Int32)).bind (fun r42 => if r42 = 0 then F_X11_act_j33 r40 a0 xb xc none else if tK r40 a0 = 11 then (tP r40 a0 0).bind (fun q47 => (tP r40 a0 8).bind (fun q49 => if tK r40 q49 = 20 then if xIn xa (tN r40 q49) then if tK r40 q47 = 7 then (F_X7_bridgeAt r40 q47 (tI r40 q49 xa.toNatClampNeg)).bind (fun r54 => xopt (r54) (F_X11_act_j33 r40 a0 xb xc none) (fun q56 => F_X11_act_j33 r40 a0 xb xc (some q56))) else none else none else none)) else none)) else none) else none
theorem c_X11_act {l : Launch} {G : xG} {rr : (Int32 × xT)} {u : xT} {a0 : Nat} {xa : Int32} {xb : Int32} {xc : Int32} (hF : F_X11_act u a0 xa xb xc = some rr) : xMi l G yX11_act cX11_act 6 (Option.some Jvm.ClassFile.FieldType.int) 9 0 0 [.ref a0, .int xa, .int xb, .int xc] (tE G u) u.1 (fun r z => r = rr.1 ∧ z = ((tE G rr.2), rr.2.1)) := by
  unfold F_X11_act at hF
  refine x_startI rfl (Nat.le_of_ble_eq_true rfl) (fun p e s m args below meth cd ls hE hnm hl hD => ?_)
  have hx := hE.1; have hb := hE.2.1
  have hl : lv_has ls 6 [(0, .ref a0), (1, .int xa), (2, .int xb), (3, .int xc)] := hl
  have hD : tD G (xA (tE G u) s.heap.size) s.heap u s.heap [] := hD
  refine lv_aload_n hx hb dX11_act_0 rfl (lv_at hl 0 rfl) ?_
  obtain ⟨h36, hF⟩ := ite_s hF
  obtain ⟨q37, h38, hF⟩ := xb_s hF
  refine gr_X11_52 hE hD h36 h38 dX11_act_1 ?_
  obtain ⟨h39, hF⟩ := ite_s hF
  obtain ⟨r40, k41, hF⟩ := xb_s hF
  refine kVv (As := []) (rest := []) hE hl hD (c_X10_clear k41) kl_X11_308 (tE_10 h39) rfl rfl rfl rfl (Nat.le_of_ble_eq_true rfl) dX11_act_4 ⟨Nat.le_of_ble_eq_true rfl, Nat.le_of_ble_eq_true rfl⟩ ⟨Nat.le_of_ble_eq_true rfl, Nat.le_of_ble_eq_true rfl⟩ (fun H locs (hD : tD G _ _ r40 H locs) => ?_)
  refine lv_iload_n hx hb dX11_act_7 rfl (lv_at hl 1 rfl) ?_
  refine lv_iconst (v := (0 : Int32)) hx hb dX11_act_8 (by decide) ?_
  refine lv_iconst (v := (3 : Int32)) hx hb dX11_act_9 (by decide) ?_
  obtain ⟨r42, k43, hF⟩ := xb_s hF
  refine kSz (As := [.int xa, .int (0 : Int32), .int (3 : Int32)]) (rest := []) hE hl hD (c_X11_isIn k43) kl_X11_183 rfl rfl (Nat.le_of_ble_eq_true rfl) dX11_act_10 ⟨Nat.le_of_ble_eq_true rfl, Nat.le_of_ble_eq_true rfl⟩ ⟨Nat.le_of_ble_eq_true rfl, Nat.le_of_ble_eq_true rfl⟩ (fun H locs z44 (hD : tD G _ _ r40 H locs) => ?_)
  refine lv_if_eq (tgt := 32) hx hb dX11_act_13 (by decide) (fun c45 => ?_) (fun c45 => ?_)
  · have hF := ite_p hF c45
    refine lv_null hx hb dX11_act_32 ?_
    exact B_X11_act_j33 hE hD (lv_sub hl [0, 2, 3] rfl) hF
  · have hF := ite_n hF c45
    refine lv_aload_n hx hb dX11_act_16 rfl (lv_at hl 0 rfl) ?_
    obtain ⟨h46, hF⟩ := ite_s hF
    obtain ⟨q47, h48, hF⟩ := xb_s hF
    refine gr_X11_10 hE hD h46 h48 dX11_act_17 ?_
    refine lv_aload_n hx hb dX11_act_20 rfl (lv_at hl 0 rfl) ?_
    obtain ⟨q49, h50, hF⟩ := xb_s hF
    refine gr_X11_43 hE hD h46 h50 dX11_act_21 ?_
    refine lv_iload_n hx hb dX11_act_24 rfl (lv_at hl 1 rfl) ?_
    obtain ⟨h51, hF⟩ := ite_s hF
    obtain ⟨h52, hF⟩ := ite_s hF
    refine t_iald hE hD h51 h52 dX11_act_25 ?_
    obtain ⟨h53, hF⟩ := ite_s hF
    obtain ⟨r54, k55, hF⟩ := xb_s hF
    refine kVq (As := [.int (tI r40 q49 xa.toNatClampNeg)]) (rest := []) hE hl hD (c_X7_bridgeAt k55) kl_X11_82 (tE_7 h53) rfl rfl rfl rfl (Nat.le_of_ble_eq_true rfl) dX11_act_26 ⟨Nat.le_of_ble_eq_true rfl, Nat.le_of_ble_eq_true rfl⟩ ⟨Nat.le_of_ble_eq_true rfl, Nat.le_of_ble_eq_true rfl⟩ (fun H locs (hD : tD G _ _ r40 H locs) => ?_)
    refine t_split hF (fun h57 hF => ?_) (fun q56 h57 hF => ?_)
    · refine lv_goto (tgt := 33) hx hb dX11_act_29 (by decide) ?_
      exact B_X11_act_j33 hE hD (lv_sub hl [0, 2, 3] rfl) hF
    · refine lv_goto (tgt := 33) hx hb dX11_act_29 (by decide) ?_
      exact B_X11_act_j33 hE hD (lv_sub hl [0, 2, 3] rfl) hF
def F_X11_trace (u : xT) (a0 : Nat) (xa : Int32) : Option Int32 := if tK u a0 = 11 then (tP u a0 10).bind (fun q2 => if tK u q2 = 10 then (F_X10_bodyAt u q2 xa).bind (fun r5 => some r5) else none) else none
theorem c_X11_trace {l : Launch} {G : xG} {rr : Int32} {u : xT} {a0 : Nat} {xa : Int32} (hF : F_X11_trace u a0 xa = some rr) : xMi l G yX11_trace cX11_trace 2 (Option.some Jvm.ClassFile.FieldType.int) 3 0 0 [.ref a0, .int xa] (tE G u) u.1 (fun r z => r = rr ∧ z = ((tE G u), u.1)) := by
  unfold F_X11_trace at hF
  refine x_startI rfl (Nat.le_of_ble_eq_true rfl) (fun p e s m args below meth cd ls hE hnm hl hD => ?_)
  have hx := hE.1; have hb := hE.2.1
  have hl : lv_has ls 2 [(0, .ref a0), (1, .int xa)] := hl
  have hD : tD G (xA (tE G u) s.heap.size) s.heap u s.heap [] := hD
  refine lv_aload_n hx hb dX11_trace_0 rfl (lv_at hl 0 rfl) ?_
  obtain ⟨h1, hF⟩ := ite_s hF
  obtain ⟨q2, h3, hF⟩ := xb_s hF
  refine gr_X11_52 hE hD h1 h3 dX11_trace_1 ?_
  refine lv_iload_n hx hb dX11_trace_4 rfl (lv_at hl 1 rfl) ?_
  obtain ⟨h4, hF⟩ := ite_s hF
  obtain ⟨r5, k6, hF⟩ := xb_s hF
  refine kVi (As := [.int xa]) (rest := []) hE hl hD (c_X10_bodyAt k6) kl_X11_327 (tE_10 h4) rfl rfl rfl rfl (Nat.le_of_ble_eq_true rfl) dX11_trace_5 ⟨Nat.le_of_ble_eq_true rfl, Nat.le_of_ble_eq_true rfl⟩ ⟨Nat.le_of_ble_eq_true rfl, Nat.le_of_ble_eq_true rfl⟩ (fun H locs (hD : tD G _ _ u H locs) => ?_)
  obtain rfl := Option.some.inj hF
  exact x_iret hE hD ⟨rfl, rfl⟩ (by omega) (by omega) dX11_trace_8
def F_X11_many (u : xT) (a0 : Nat) (xa : Int32) : Option Int32 := (if xa = (0 : Int32) then if tK u a0 = 11 then (tP u a0 0).bind (fun q3 => if tK u q3 = 7 then some (tI u q3 1) else none) else none else (if xa = (1 : Int32) then if tK u a0 = 11 then (tP u a0 0).bind (fun q8 => if tK u q8 = 7 then some (tI u q8 7) else none) else none else (if xa = (2 : Int32) then if tK u a0 = 11 then (tP u a0 0).bind (fun q13 => if tK u q13 = 7 then (tP u q13 3).bind (fun q16 => if tK u q16 = 2 then some (tI u q16 0) else none) else none) else none else (if xa = (3 : Int32) then if tK u a0 = 11 then (tP u a0 0).bind (fun q21 => if tK u q21 = 7 then some (tI u q21 10) else none) else none else (if xa = (4 : Int32) then if tK u a0 = 11 then some (tI u a0 6) else none else (if xa = (5 : Int32) then if tK u a0 = 11 then some (tI u a0 4) else none else (if xa = (6 : Int32) then if tK u a0 = 11 then (tP u a0 10).bind (fun q30 => if tK u q30 = 10 then some (tI u q30 1) else none) else none else some (-1 : Int32))))))))
theorem c_X11_many {l : Launch} {G : xG} {rr : Int32} {u : xT} {a0 : Nat} {xa : Int32} (hF : F_X11_many u a0 xa = some rr) : xMi l G yX11_many cX11_many 2 (Option.some Jvm.ClassFile.FieldType.int) 2 0 0 [.ref a0, .int xa] (tE G u) u.1 (fun r z => r = rr ∧ z = ((tE G u), u.1)) := by
  unfold F_X11_many at hF
  refine x_startI rfl (Nat.le_of_ble_eq_true rfl) (fun p e s m args below meth cd ls hE hnm hl hD => ?_)
  have hx := hE.1; have hb := hE.2.1
  have hl : lv_has ls 2 [(0, .ref a0), (1, .int xa)] := hl
  have hD : tD G (xA (tE G u) s.heap.size) s.heap u s.heap [] := hD
  refine lv_iload_n hx hb dX11_many_0 rfl (lv_at hl 1 rfl) ?_
  by_cases c1 : xa = (0 : Int32)
  · have hF := ite_p hF c1
    refine lv_tableIn (off := 43) (tgt := 44) hx hb dX11_many_1 (by rw [c1]; decide) (by rw [c1]; decide) (by rw [c1]; rfl) (by decide) ?_
    refine lv_aload_n hx hb dX11_many_44 rfl (lv_at hl 0 rfl) ?_
    obtain ⟨h2, hF⟩ := ite_s hF
    obtain ⟨q3, h4, hF⟩ := xb_s hF
    refine gr_X11_10 hE hD h2 h4 dX11_many_45 ?_
    obtain ⟨h5, hF⟩ := ite_s hF
    refine gf_X11_330 hE hD h5 dX11_many_48 ?_
    obtain rfl := Option.some.inj hF
    exact x_iret hE hD ⟨rfl, rfl⟩ (by omega) (by omega) dX11_many_51
  · have hF := ite_n hF c1
    by_cases c6 : xa = (1 : Int32)
    · have hF := ite_p hF c6
      refine lv_tableIn (off := 51) (tgt := 52) hx hb dX11_many_1 (by rw [c6]; decide) (by rw [c6]; decide) (by rw [c6]; rfl) (by decide) ?_
      refine lv_aload_n hx hb dX11_many_52 rfl (lv_at hl 0 rfl) ?_
      obtain ⟨h7, hF⟩ := ite_s hF
      obtain ⟨q8, h9, hF⟩ := xb_s hF
      refine gr_X11_10 hE hD h7 h9 dX11_many_53 ?_
      obtain ⟨h10, hF⟩ := ite_s hF
      refine gf_X11_333 hE hD h10 dX11_many_56 ?_
      obtain rfl := Option.some.inj hF
      exact x_iret hE hD ⟨rfl, rfl⟩ (by omega) (by omega) dX11_many_59
    · have hF := ite_n hF c6
      by_cases c11 : xa = (2 : Int32)
      · have hF := ite_p hF c11
        refine lv_tableIn (off := 59) (tgt := 60) hx hb dX11_many_1 (by rw [c11]; decide) (by rw [c11]; decide) (by rw [c11]; rfl) (by decide) ?_
        refine lv_aload_n hx hb dX11_many_60 rfl (lv_at hl 0 rfl) ?_
        obtain ⟨h12, hF⟩ := ite_s hF
        obtain ⟨q13, h14, hF⟩ := xb_s hF
        refine gr_X11_10 hE hD h12 h14 dX11_many_61 ?_
        obtain ⟨h15, hF⟩ := ite_s hF
        obtain ⟨q16, h17, hF⟩ := xb_s hF
        refine gr_X11_109 hE hD h15 h17 dX11_many_64 ?_
        obtain ⟨h18, hF⟩ := ite_s hF
        refine gf_X11_149 hE hD h18 dX11_many_67 ?_
        obtain rfl := Option.some.inj hF
        exact x_iret hE hD ⟨rfl, rfl⟩ (by omega) (by omega) dX11_many_70
      · have hF := ite_n hF c11
        by_cases c19 : xa = (3 : Int32)
        · have hF := ite_p hF c19
          refine lv_tableIn (off := 70) (tgt := 71) hx hb dX11_many_1 (by rw [c19]; decide) (by rw [c19]; decide) (by rw [c19]; rfl) (by decide) ?_
          refine lv_aload_n hx hb dX11_many_71 rfl (lv_at hl 0 rfl) ?_
          obtain ⟨h20, hF⟩ := ite_s hF
          obtain ⟨q21, h22, hF⟩ := xb_s hF
          refine gr_X11_10 hE hD h20 h22 dX11_many_72 ?_
          obtain ⟨h23, hF⟩ := ite_s hF
          refine gf_X11_251 hE hD h23 dX11_many_75 ?_
          obtain rfl := Option.some.inj hF
          exact x_iret hE hD ⟨rfl, rfl⟩ (by omega) (by omega) dX11_many_78
        · have hF := ite_n hF c19
          by_cases c24 : xa = (4 : Int32)
          · have hF := ite_p hF c24
            refine lv_tableIn (off := 78) (tgt := 79) hx hb dX11_many_1 (by rw [c24]; decide) (by rw [c24]; decide) (by rw [c24]; rfl) (by decide) ?_
            refine lv_aload_n hx hb dX11_many_79 rfl (lv_at hl 0 rfl) ?_
            obtain ⟨h25, hF⟩ := ite_s hF
            refine gf_X11_34 hE hD h25 dX11_many_80 ?_
            obtain rfl := Option.some.inj hF
            exact x_iret hE hD ⟨rfl, rfl⟩ (by omega) (by omega) dX11_many_83
          · have hF := ite_n hF c24
            by_cases c26 : xa = (5 : Int32)
            · have hF := ite_p hF c26
              refine lv_tableIn (off := 83) (tgt := 84) hx hb dX11_many_1 (by rw [c26]; decide) (by rw [c26]; decide) (by rw [c26]; rfl) (by decide) ?_
              refine lv_aload_n hx hb dX11_many_84 rfl (lv_at hl 0 rfl) ?_
              obtain ⟨h27, hF⟩ := ite_s hF
              refine gf_X11_27 hE hD h27 dX11_many_85 ?_
              obtain rfl := Option.some.inj hF
              exact x_iret hE hD ⟨rfl, rfl⟩ (by omega) (by omega) dX11_many_88
            · have hF := ite_n hF c26
              by_cases c28 : xa = (6 : Int32)
              · have hF := ite_p hF c28
                refine lv_tableIn (off := 88) (tgt := 89) hx hb dX11_many_1 (by rw [c28]; decide) (by rw [c28]; decide) (by rw [c28]; rfl) (by decide) ?_
                refine lv_aload_n hx hb dX11_many_89 rfl (lv_at hl 0 rfl) ?_
                obtain ⟨h29, hF⟩ := ite_s hF
                obtain ⟨q30, h31, hF⟩ := xb_s hF
                refine gr_X11_52 hE hD h29 h31 dX11_many_90 ?_
                obtain ⟨h32, hF⟩ := ite_s hF
                refine gf_X11_336 hE hD h32 dX11_many_93 ?_
                obtain rfl := Option.some.inj hF
                exact x_iret hE hD ⟨rfl, rfl⟩ (by omega) (by omega) dX11_many_96
              · have hF := ite_n hF c28
                refine lv_tableOut (tgt := 97) hx hb dX11_many_1 (by have hc1 := lv_neT (a := 0) c1 rfl; have hc6 := lv_neT (a := 1) c6 rfl; have hc11 := lv_neT (a := 2) c11 rfl; have hc19 := lv_neT (a := 3) c19 rfl; have hc24 := lv_neT (a := 4) c24 rfl; have hc26 := lv_neT (a := 5) c26 rfl; have hc28 := lv_neT (a := 6) c28 rfl; omega) (by decide) ?_
                refine lv_iconst (v := (-1 : Int32)) hx hb dX11_many_97 (by decide) ?_
                obtain rfl := Option.some.inj hF
                exact x_iret hE hD ⟨rfl, rfl⟩ (by omega) (by omega) dX11_many_98
def F_X11_keep (u : xT) (a0 : Nat) : Option (Int32 × xT) := if tK u a0 = 11 then (tP u a0 1).bind (fun q2 => (tP u a0 0).bind (fun q4 => if tK u q2 = 7 then (F_X7_copyFrom u q2 q4).bind (fun r7 => if tK r7 a0 = 11 then xlet (tSI r7 a0 2 (1 : Int32)) (fun t10 => some ((1 : Int32), t10)) else none) else none)) else none
theorem c_X11_keep {l : Launch} {G : xG} {rr : (Int32 × xT)} {u : xT} {a0 : Nat} (hF : F_X11_keep u a0 = some rr) : xMi l G yX11_keep cX11_keep 1 (Option.some Jvm.ClassFile.FieldType.int) 9 10 80 [.ref a0] (tE G u) u.1 (fun r z => r = rr.1 ∧ z = ((tE G rr.2), rr.2.1)) := by
  unfold F_X11_keep at hF
  refine x_startI rfl (Nat.le_of_ble_eq_true rfl) (fun p e s m args below meth cd ls hE hnm hl hD => ?_)
  have hx := hE.1; have hb := hE.2.1
  have hl : lv_has ls 1 [(0, .ref a0)] := hl
  have hD : tD G (xA (tE G u) s.heap.size) s.heap u s.heap [] := hD
  refine lv_aload_n hx hb dX11_keep_0 rfl (lv_at hl 0 rfl) ?_
  obtain ⟨h1, hF⟩ := ite_s hF
  obtain ⟨q2, h3, hF⟩ := xb_s hF
  refine gr_X11_16 hE hD h1 h3 dX11_keep_1 ?_
  refine lv_aload_n hx hb dX11_keep_4 rfl (lv_at hl 0 rfl) ?_
  obtain ⟨q4, h5, hF⟩ := xb_s hF
  refine gr_X11_10 hE hD h1 h5 dX11_keep_5 ?_
  obtain ⟨h6, hF⟩ := ite_s hF
  obtain ⟨r7, k8, hF⟩ := xb_s hF
  refine kVvA (As := [.ref q4]) (rest := []) hE hl hD (c_X7_copyFrom k8) kl_X11_337 (tE_7 h6) rfl rfl rfl rfl (Nat.le_of_ble_eq_true rfl) dX11_keep_8 ⟨Nat.le_of_ble_eq_true rfl, Nat.le_of_ble_eq_true rfl⟩ ⟨(by show 0 + 10 ≤ 10; omega), (by show 0 + 80 ≤ 80; omega)⟩ (fun H locs (hD : tD G _ _ r7 H locs) => ?_)
  refine lv_aload_n hx hb dX11_keep_11 rfl (lv_at hl 0 rfl) ?_
  refine lv_iconst (v := (1 : Int32)) hx hb dX11_keep_12 (by decide) ?_
  obtain ⟨h9, hF⟩ := ite_s hF
  refine pf_X11_19 hE hD h9 (by decide) dX11_keep_13 (fun t10 H locs et10 hD => ?_)
  have hF := xlet_e hF et10
  have h11 : tK t10 a0 = 11 := by rw [et10]; exact h9
  refine lv_iconst (v := (1 : Int32)) hx hb dX11_keep_16 (by decide) ?_
  obtain rfl := Option.some.inj hF
  exact x_iret hE hD ⟨rfl, rfl⟩ (by omega) (by omega) dX11_keep_17
def F_X11_again (u : xT) (a0 : Nat) : Option (Int32 × xT) := if tK u a0 = 11 then if (tI u a0 2) = 0 then some ((-3 : Int32), u) else (tP u a0 0).bind (fun q3 => (tP u a0 1).bind (fun q5 => if tK u q3 = 7 then (F_X7_copyFrom u q3 q5).bind (fun r8 => if tK r8 a0 = 11 then (tP r8 a0 0).bind (fun q11 => if tK r8 q11 = 7 then some (tI r8 q11 1, r8) else none) else none) else none)) else none
theorem c_X11_again {l : Launch} {G : xG} {rr : (Int32 × xT)} {u : xT} {a0 : Nat} (hF : F_X11_again u a0 = some rr) : xMi l G yX11_again cX11_again 1 (Option.some Jvm.ClassFile.FieldType.int) 9 10 80 [.ref a0] (tE G u) u.1 (fun r z => r = rr.1 ∧ z = ((tE G rr.2), rr.2.1)) := by
  unfold F_X11_again at hF
  refine x_startI rfl (Nat.le_of_ble_eq_true rfl) (fun p e s m args below meth cd ls hE hnm hl hD => ?_)
  have hx := hE.1; have hb := hE.2.1
  have hl : lv_has ls 1 [(0, .ref a0)] := hl
  have hD : tD G (xA (tE G u) s.heap.size) s.heap u s.heap [] := hD
  refine lv_aload_n hx hb dX11_again_0 rfl (lv_at hl 0 rfl) ?_
  obtain ⟨h1, hF⟩ := ite_s hF
  refine gf_X11_19 hE hD h1 dX11_again_1 ?_
  refine lv_if_ne (tgt := 10) hx hb dX11_again_4 (by decide) (fun c2 => ?_) (fun c2 => ?_)
  · have hF := ite_n hF c2
    refine lv_aload_n hx hb dX11_again_10 rfl (lv_at hl 0 rfl) ?_
    obtain ⟨q3, h4, hF⟩ := xb_s hF
    refine gr_X11_10 hE hD h1 h4 dX11_again_11 ?_
    refine lv_aload_n hx hb dX11_again_14 rfl (lv_at hl 0 rfl) ?_
    obtain ⟨q5, h6, hF⟩ := xb_s hF
    refine gr_X11_16 hE hD h1 h6 dX11_again_15 ?_
    obtain ⟨h7, hF⟩ := ite_s hF
    obtain ⟨r8, k9, hF⟩ := xb_s hF
    refine kVvA (As := [.ref q5]) (rest := []) hE hl hD (c_X7_copyFrom k9) kl_X11_337 (tE_7 h7) rfl rfl rfl rfl (Nat.le_of_ble_eq_true rfl) dX11_again_18 ⟨Nat.le_of_ble_eq_true rfl, Nat.le_of_ble_eq_true rfl⟩ ⟨(by show 0 + 10 ≤ 10; omega), (by show 0 + 80 ≤ 80; omega)⟩ (fun H locs (hD : tD G _ _ r8 H locs) => ?_)
    refine lv_aload_n hx hb dX11_again_21 rfl (lv_at hl 0 rfl) ?_
    obtain ⟨h10, hF⟩ := ite_s hF
    obtain ⟨q11, h12, hF⟩ := xb_s hF
    refine gr_X11_10 hE hD h10 h12 dX11_again_22 ?_
    obtain ⟨h13, hF⟩ := ite_s hF
    refine gf_X11_330 hE hD h13 dX11_again_25 ?_
    obtain rfl := Option.some.inj hF
    exact x_iret hE hD ⟨rfl, rfl⟩ (by omega) (by omega) dX11_again_28
  · have hF := ite_p hF c2
    refine lv_bipush (v := (-3 : Int32)) hx hb dX11_again_7 (by decide) ?_
    obtain rfl := Option.some.inj hF
    exact x_iret hE hD ⟨rfl, rfl⟩ (by omega) (by omega) dX11_again_9
def F_X11_isLuck_j35 (s0 : Int32) : Option Int32 := if s0 = 0 ∨ s0 = 1 then some s0 else none
theorem B_X11_isLuck_j35 {p : Program} {l : Launch} {e : Env} {s : State} {m : MethodId} {args : Array Value} {below : List Frame} {meth : Method} {cd : Code} {G : xG} {w0 : xW} {w : xW} {sz : Nat} {rr : Int32} (hE : xE p s m args meth cd cX11_isLuck RX11 G 3 (Option.some Jvm.ClassFile.FieldType.boolean)) {s0 : Int32} {H : Heap} {locs : List Loc} {ls : Array Slot} (hD : xD G (xA w0 s.heap.size) s.heap w sz H locs) (hl : lv_has ls 3 []) (hF : F_X11_isLuck_j35 s0 = some rr) : W p l e (xR 3 0 0) s m args below meth cd H locs 0 0 (xQi G w0 (fun r z => r = rr ∧ (rr = 0 ∨ rr = 1) ∧ z = (w, sz)) below args s 0 0) (F0 m 35 ls [.int s0]) := by
  have hx := hE.1; have hb := hE.2.1
  unfold F_X11_isLuck_j35 at hF
  obtain ⟨h1, hF⟩ := ite_s hF
  obtain rfl := Option.some.inj hF
  exact x_zret hE hD h1 ⟨rfl, h1, rfl⟩ (by omega) (by omega) dX11_isLuck_35
def F_X11_isLuck_j34  : Option Int32 := F_X11_isLuck_j35 (0 : Int32)
theorem B_X11_isLuck_j34 {p : Program} {l : Launch} {e : Env} {s : State} {m : MethodId} {args : Array Value} {below : List Frame} {meth : Method} {cd : Code} {G : xG} {w0 : xW} {w : xW} {sz : Nat} {rr : Int32} (hE : xE p s m args meth cd cX11_isLuck RX11 G 3 (Option.some Jvm.ClassFile.FieldType.boolean))  {H : Heap} {locs : List Loc} {ls : Array Slot} (hD : xD G (xA w0 s.heap.size) s.heap w sz H locs) (hl : lv_has ls 3 []) (hF : F_X11_isLuck_j34  = some rr) : W p l e (xR 3 0 0) s m args below meth cd H locs 0 0 (xQi G w0 (fun r z => r = rr ∧ (rr = 0 ∨ rr = 1) ∧ z = (w, sz)) below args s 0 0) (F0 m 34 ls []) := by
  have hx := hE.1; have hb := hE.2.1
  unfold F_X11_isLuck_j34 at hF
  refine lv_iconst (v := (0 : Int32)) hx hb dX11_isLuck_34 (by decide) ?_
  exact B_X11_isLuck_j35 hE hD (lv_sub hl [] rfl) hF
def F_X11_isLuck (xa : Int32) (xb : Int32) (xc : Int32) : Option Int32 := (F_X11_isIn xa (0 : Int32) (9999 : Int32)).bind (fun r2 => if r2 = 0 then F_X11_isLuck_j34 else (F_X11_isIn xb (0 : Int32) (100 : Int32)).bind (fun r6 => if r6 = 0 then F_X11_isLuck_j34 else (F_X11_isIn xc (0 : Int32) (4 : Int32)).bind (fun r10 => if r10 = 0 then F_X11_isLuck_j34 else F_X11_isLuck_j35 (1 : Int32))))
theorem c_X11_isLuck {l : Launch} {G : xG} {w : xW} {sz : Nat} {rr : Int32} {xa : Int32} {xb : Int32} {xc : Int32} (hF : F_X11_isLuck xa xb xc = some rr) : xMi l G yX11_isLuck cX11_isLuck 3 (Option.some Jvm.ClassFile.FieldType.boolean) 3 0 0 [.int xa, .int xb, .int xc] w sz (fun r z => r = rr ∧ (rr = 0 ∨ rr = 1) ∧ z = (w, sz)) := by
  unfold F_X11_isLuck at hF
  refine x_startI rfl (Nat.le_of_ble_eq_true rfl) (fun p e s m args below meth cd ls hE hnm hl hD => ?_)
  have hx := hE.1; have hb := hE.2.1
  have hl : lv_has ls 3 [(0, .int xa), (1, .int xb), (2, .int xc)] := hl
  refine lv_iload_n hx hb dX11_isLuck_0 rfl (lv_at hl 0 rfl) ?_
  refine lv_iconst (v := (0 : Int32)) hx hb dX11_isLuck_1 (by decide) ?_
  refine lv_sipush (v := (9999 : Int32)) hx hb dX11_isLuck_2 (by decide) ?_
  obtain ⟨r2, k3, hF⟩ := xb_s hF
  refine kSz (As := [.int xa, .int (0 : Int32), .int (9999 : Int32)]) (rest := []) hE hl hD (c_X11_isIn k3) kl_X11_183 rfl rfl (Nat.le_of_ble_eq_true rfl) dX11_isLuck_5 ⟨Nat.le_of_ble_eq_true rfl, Nat.le_of_ble_eq_true rfl⟩ ⟨Nat.le_of_ble_eq_true rfl, Nat.le_of_ble_eq_true rfl⟩ (fun H locs z4 (hD : xD G _ _ w sz H locs) => ?_)
  refine lv_if_eq (tgt := 34) hx hb dX11_isLuck_8 (by decide) (fun c5 => ?_) (fun c5 => ?_)
  · have hF := ite_p hF c5
    exact B_X11_isLuck_j34 hE hD (lv_sub hl [] rfl) hF
  · have hF := ite_n hF c5
    refine lv_iload_n hx hb dX11_isLuck_11 rfl (lv_at hl 1 rfl) ?_
    refine lv_iconst (v := (0 : Int32)) hx hb dX11_isLuck_12 (by decide) ?_
    refine lv_bipush (v := (100 : Int32)) hx hb dX11_isLuck_13 (by decide) ?_
    obtain ⟨r6, k7, hF⟩ := xb_s hF
    refine kSz (As := [.int xb, .int (0 : Int32), .int (100 : Int32)]) (rest := []) hE hl hD (c_X11_isIn k7) kl_X11_183 rfl rfl (Nat.le_of_ble_eq_true rfl) dX11_isLuck_15 ⟨Nat.le_of_ble_eq_true rfl, Nat.le_of_ble_eq_true rfl⟩ ⟨Nat.le_of_ble_eq_true rfl, Nat.le_of_ble_eq_true rfl⟩ (fun H locs z8 (hD : xD G _ _ w sz H locs) => ?_)
    refine lv_if_eq (tgt := 34) hx hb dX11_isLuck_18 (by decide) (fun c9 => ?_) (fun c9 => ?_)
    · have hF := ite_p hF c9
      exact B_X11_isLuck_j34 hE hD (lv_sub hl [] rfl) hF
    · have hF := ite_n hF c9
      refine lv_iload_n hx hb dX11_isLuck_21 rfl (lv_at hl 2 rfl) ?_
      refine lv_iconst (v := (0 : Int32)) hx hb dX11_isLuck_22 (by decide) ?_
      refine lv_iconst (v := (4 : Int32)) hx hb dX11_isLuck_23 (by decide) ?_
      obtain ⟨r10, k11, hF⟩ := xb_s hF
      refine kSz (As := [.int xc, .int (0 : Int32), .int (4 : Int32)]) (rest := []) hE hl hD (c_X11_isIn k11) kl_X11_183 rfl rfl (Nat.le_of_ble_eq_true rfl) dX11_isLuck_24 ⟨Nat.le_of_ble_eq_true rfl, Nat.le_of_ble_eq_true rfl⟩ ⟨Nat.le_of_ble_eq_true rfl, Nat.le_of_ble_eq_true rfl⟩ (fun H locs z12 (hD : xD G _ _ w sz H locs) => ?_)
      refine lv_if_eq (tgt := 34) hx hb dX11_isLuck_27 (by decide) (fun c13 => ?_) (fun c13 => ?_)
      · have hF := ite_p hF c13
        exact B_X11_isLuck_j34 hE hD (lv_sub hl [] rfl) hF
      · have hF := ite_n hF c13
        refine lv_iconst (v := (1 : Int32)) hx hb dX11_isLuck_30 (by decide) ?_
        refine lv_goto (tgt := 35) hx hb dX11_isLuck_31 (by decide) ?_
        exact B_X11_isLuck_j35 hE hD (lv_sub hl [] rfl) hF
def F_X11_hundredTo_l4 : Nat → Int32 → Int64 → Int32 → Option Int64
  | 0, _, _, _ => none
  | nn + 1, y0, y1, y3 => if y0 ≤ y3 then some y1 else xlet (y1 * (100 : Int64)) (fun x2 => xlet (y3 + (1 : Int32)) (fun x3 => F_X11_hundredTo_l4 nn y0 x2 x3))
theorem L_X11_hundredTo_l4 {p : Program} {l : Launch} {e : Env} {s : State} {m : MethodId} {args : Array Value} {below : List Frame} {meth : Method} {cd : Code} {G : xG} {w0 : xW} {w : xW} {sz : Nat} {rr : Int64} (hE : xE p s m args meth cd cX11_hundredTo RX11 G 4 (Option.some Jvm.ClassFile.FieldType.long)) : ∀ (nn : Nat) {y0 : Int32} {y1 : Int64} {y3 : Int32} {H : Heap} {locs : List Loc} {ls : Array Slot} , xD G (xA w0 s.heap.size) s.heap w sz H locs → lv_has ls 4 [(0, .int y0), (1, .long y1), (3, .int y3)] → F_X11_hundredTo_l4 nn y0 y1 y3 = some rr → W p l e (xR 2 0 0) s m args below meth cd H locs 0 0 (xQl G w0 (fun r z => r = rr ∧ z = (w, sz)) below args s 0 0) (F0 m 4 ls []) := by
  have hx := hE.1; have hb := hE.2.1
  intro nn
  induction nn with
  | zero => intro y0 y1 y3 H locs ls hD hl hF; rw [F_X11_hundredTo_l4] at hF; cases hF
  | succ nn ih =>
    intro y0 y1 y3 H locs ls hD hl hF
    rw [F_X11_hundredTo_l4] at hF
    refine lv_iload_n hx hb dX11_hundredTo_4 rfl (lv_at hl 2 rfl) ?_
    refine lv_iload_n hx hb dX11_hundredTo_5 rfl (lv_at hl 0 rfl) ?_
    refine lv_icmp_ge (tgt := 21) hx hb dX11_hundredTo_6 (by decide) (fun c1 => ?_) (fun c1 => ?_)
    · have hF := ite_p hF c1
      refine lv_lload_n hx hb dX11_hundredTo_21 rfl (lv_at hl 1 rfl) ?_
      obtain rfl := Option.some.inj hF
      exact x_lret hE hD ⟨rfl, rfl⟩ (by omega) (by omega) dX11_hundredTo_22
    · have hF := ite_n hF c1
      refine lv_lload_n hx hb dX11_hundredTo_9 rfl (lv_at hl 1 rfl) ?_
      refine lv_ldc2 (v := (100 : Int64)) hx hb hE.2.2.1 (hE.2.2.2.1 _ kw4_125) dX11_hundredTo_10 ?_
      refine lv_lmul hx hb dX11_hundredTo_13 ?_
      refine lv_topl (fun x2 ex2 => ?_)
      have hF := xlet_e hF ex2
      refine lv_lstore_n (lv' := [(1, .long x2), (0, .int y0), (3, .int y3)]) hx hb dX11_hundredTo_14 rfl hl (by decide) rfl (fun ls hl => ?_)
      obtain ⟨x3, ex3⟩ : ∃ y : Int32, y = y3 + (1 : Int32) := ⟨_, rfl⟩
      have hF := xlet_e hF ex3
      refine lv_iinc (v := x3) (lv' := [(3, .int x3), (1, .long x2), (0, .int y0)]) hx hb dX11_hundredTo_15 hl (k := 2) rfl (by rw [ex3]; rfl) (by decide) rfl (fun ls hl => ?_)
      refine lv_goto (tgt := 4) hx hb dX11_hundredTo_18 (by decide) ?_
      exact ih hD (lv_sub hl [2, 1, 0] rfl) hF
def F_X11_hundredTo (xa : Int32) : Option Int64 := F_X11_hundredTo_l4 xFuel xa (1 : Int64) (0 : Int32)
theorem c_X11_hundredTo {l : Launch} {G : xG} {w : xW} {sz : Nat} {rr : Int64} {xa : Int32} (hF : F_X11_hundredTo xa = some rr) : xMl l G yX11_hundredTo cX11_hundredTo 4 (Option.some Jvm.ClassFile.FieldType.long) 2 0 0 [.int xa] w sz (fun r z => r = rr ∧ z = (w, sz)) := by
  unfold F_X11_hundredTo at hF
  refine x_startL rfl (Nat.le_of_ble_eq_true rfl) (fun p e s m args below meth cd ls hE hnm hl hD => ?_)
  have hx := hE.1; have hb := hE.2.1
  have hl : lv_has ls 4 [(0, .int xa)] := hl
  refine lv_lconst (v := (1 : Int64)) hx hb dX11_hundredTo_0 (by decide) ?_
  refine lv_lstore_n (lv' := [(1, .long (1 : Int64)), (0, .int xa)]) hx hb dX11_hundredTo_1 rfl hl (by decide) rfl (fun ls hl => ?_)
  refine lv_iconst (v := (0 : Int32)) hx hb dX11_hundredTo_2 (by decide) ?_
  refine lv_istore_n (lv' := [(3, .int (0 : Int32)), (1, .long (1 : Int64)), (0, .int xa)]) hx hb dX11_hundredTo_3 rfl hl (by decide) rfl (fun ls hl => ?_)
  exact L_X11_hundredTo_l4 hE _ hD (lv_sub hl [2, 1, 0] rfl) hF
