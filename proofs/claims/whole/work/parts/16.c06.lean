/-! ===== the class: walks 6 (printed by wip/whole/gen) ===== -/
def F_X11_back_j112 (u : xT) (a0 : Nat) (s0 : Int32) : Option Int32 := some s0
theorem B_X11_back_j112 {p : Program} {l : Launch} {e : Env} {s : State} {m : MethodId} {args : Array Value} {below : List Frame} {meth : Method} {cd : Code} {G : xG} {w0 : xW} {rr : Int32} (hE : xE p s m args meth cd cX11_back RX11 G 9 (Option.some Jvm.ClassFile.FieldType.int)) {u : xT} {a0 : Nat} {s0 : Int32} {H : Heap} {locs : List Loc} {ls : Array Slot} (hD : tD G (xA w0 s.heap.size) s.heap u H locs) (hl : lv_has ls 9 [(0, .ref a0)]) (hF : F_X11_back_j112 u a0 s0 = some rr) : W p l e (xR 7 0 0) s m args below meth cd H locs 0 0 (xQi G w0 (fun r z => r = rr ∧ z = ((tE G u), u.1)) below args s 0 0) (F0 m 112 ls [.int s0]) := by
  have hx := hE.1; have hb := hE.2.1
  unfold F_X11_back_j112 at hF
  obtain rfl := Option.some.inj hF
  exact x_iret hE hD ⟨rfl, rfl⟩ (by omega) (by omega) dX11_back_112
def F_X11_back_j84 (u : xT) (a0 : Nat) (y4 : Int32) (y6 : Int32) (s0 : Int32) : Option Int32 := if y4 = (-1 : Int32) then some s0 else if s0 ≤ y4 then F_X11_back_j112 u a0 (-3 : Int32) else F_X11_back_j112 u a0 (y6 + y4)
theorem B_X11_back_j84 {p : Program} {l : Launch} {e : Env} {s : State} {m : MethodId} {args : Array Value} {below : List Frame} {meth : Method} {cd : Code} {G : xG} {w0 : xW} {rr : Int32} (hE : xE p s m args meth cd cX11_back RX11 G 9 (Option.some Jvm.ClassFile.FieldType.int)) {u : xT} {a0 : Nat} {y4 : Int32} {y6 : Int32} {s0 : Int32} {H : Heap} {locs : List Loc} {ls : Array Slot} (hD : tD G (xA w0 s.heap.size) s.heap u H locs) (hl : lv_has ls 9 [(0, .ref a0), (4, .int y4), (6, .int y6)]) (hF : F_X11_back_j84 u a0 y4 y6 s0 = some rr) : W p l e (xR 7 0 0) s m args below meth cd H locs 0 0 (xQi G w0 (fun r z => r = rr ∧ z = ((tE G u), u.1)) below args s 0 0) (F0 m 84 ls [.int s0]) := by
  have hx := hE.1; have hb := hE.2.1
  unfold F_X11_back_j84 at hF
  refine lv_istore (lv' := [(8, .int s0), (0, .ref a0), (4, .int y4), (6, .int y6)]) hx hb dX11_back_84 hl (by decide) rfl (fun ls hl => ?_)
  refine lv_iload hx hb dX11_back_86 (lv_at hl 2 rfl) ?_
  refine lv_iconst (v := (-1 : Int32)) hx hb dX11_back_88 (by decide) ?_
  refine lv_icmp_ne (tgt := 95) hx hb dX11_back_89 (by decide) (fun c1 => ?_) (fun c1 => ?_)
  · have hF := ite_n hF c1
    refine lv_iload hx hb dX11_back_95 (lv_at hl 2 rfl) ?_
    refine lv_iload hx hb dX11_back_97 (lv_at hl 0 rfl) ?_
    refine lv_icmp_ge (tgt := 110) hx hb dX11_back_99 (by decide) (fun c2 => ?_) (fun c2 => ?_)
    · have hF := ite_p hF c2
      refine lv_bipush (v := (-3 : Int32)) hx hb dX11_back_110 (by decide) ?_
      exact B_X11_back_j112 hE hD (lv_sub hl [1] rfl) hF
    · have hF := ite_n hF c2
      refine lv_iload hx hb dX11_back_102 (lv_at hl 3 rfl) ?_
      refine lv_iload hx hb dX11_back_104 (lv_at hl 2 rfl) ?_
      refine lv_iadd hx hb dX11_back_106 ?_
      refine lv_goto (tgt := 112) hx hb dX11_back_107 (by decide) ?_
      exact B_X11_back_j112 hE hD (lv_sub hl [1] rfl) hF
  · have hF := ite_p hF c1
    refine lv_iload hx hb dX11_back_92 (lv_at hl 0 rfl) ?_
    obtain rfl := Option.some.inj hF
    exact x_iret hE hD ⟨rfl, rfl⟩ (by omega) (by omega) dX11_back_94
def F_X11_back_j75 (u : xT) (a0 : Nat) (y4 : Int32) (y6 : Int32) : Option Int32 := F_X11_back_j84 u a0 y4 y6 (0 : Int32)
theorem B_X11_back_j75 {p : Program} {l : Launch} {e : Env} {s : State} {m : MethodId} {args : Array Value} {below : List Frame} {meth : Method} {cd : Code} {G : xG} {w0 : xW} {rr : Int32} (hE : xE p s m args meth cd cX11_back RX11 G 9 (Option.some Jvm.ClassFile.FieldType.int)) {u : xT} {a0 : Nat} {y4 : Int32} {y6 : Int32} {H : Heap} {locs : List Loc} {ls : Array Slot} (hD : tD G (xA w0 s.heap.size) s.heap u H locs) (hl : lv_has ls 9 [(0, .ref a0), (4, .int y4), (6, .int y6)]) (hF : F_X11_back_j75 u a0 y4 y6 = some rr) : W p l e (xR 7 0 0) s m args below meth cd H locs 0 0 (xQi G w0 (fun r z => r = rr ∧ z = ((tE G u), u.1)) below args s 0 0) (F0 m 75 ls []) := by
  have hx := hE.1; have hb := hE.2.1
  unfold F_X11_back_j75 at hF
  refine lv_iconst (v := (0 : Int32)) hx hb dX11_back_75 (by decide) ?_
  refine lv_goto (tgt := 84) hx hb dX11_back_76 (by decide) ?_
  exact B_X11_back_j84 hE hD (lv_sub hl [0, 1, 2] rfl) hF
def F_X11_back_j41 (u : xT) (a0 : Nat) : Option Int32 := some (-1 : Int32)
theorem B_X11_back_j41 {p : Program} {l : Launch} {e : Env} {s : State} {m : MethodId} {args : Array Value} {below : List Frame} {meth : Method} {cd : Code} {G : xG} {w0 : xW} {rr : Int32} (hE : xE p s m args meth cd cX11_back RX11 G 9 (Option.some Jvm.ClassFile.FieldType.int)) {u : xT} {a0 : Nat} {H : Heap} {locs : List Loc} {ls : Array Slot} (hD : tD G (xA w0 s.heap.size) s.heap u H locs) (hl : lv_has ls 9 [(0, .ref a0)]) (hF : F_X11_back_j41 u a0 = some rr) : W p l e (xR 7 0 0) s m args below meth cd H locs 0 0 (xQi G w0 (fun r z => r = rr ∧ z = ((tE G u), u.1)) below args s 0 0) (F0 m 41 ls []) := by
  have hx := hE.1; have hb := hE.2.1
  unfold F_X11_back_j41 at hF
  refine lv_iconst (v := (-1 : Int32)) hx hb dX11_back_41 (by decide) ?_
  obtain rfl := Option.some.inj hF
  exact x_iret hE hD ⟨rfl, rfl⟩ (by omega) (by omega) dX11_back_42
def F_X11_back (u : xT) (a0 : Nat) (xa : Int32) (xb : Int32) (xc : Int32) (xd : Int32) : Option Int32 := if tK u a0 = 11 then (tP u a0 0).bind (fun q4 => if tK u q4 = 7 then (F_X7_bridgeAt u q4 xa).bind (fun r7 => xopt (r7) (F_X11_back_j41 u a0) (fun q9 => (F_X11_isIn xb (0 : Int32) (99999 : Int32)).bind (fun r11 => if r11 = 0 then F_X11_back_j41 u a0 else (F_X11_isIn xc (1 : Int32) (6 : Int32)).bind (fun r15 => if r15 = 0 then F_X11_back_j41 u a0 else if (-1 : Int32) ≤ xd then (F_X11_leastAheadAll u q9 xb xc).bind (fun r20 => (F_X11_leastAheadAll u q9 (xb + (1 : Int32)) xc).bind (fun r22 => if r20 < 0 then F_X11_back_j75 u a0 xd r20 else if r20 ≤ r22 then F_X11_back_j84 u a0 xd r20 (r22 - r20) else F_X11_back_j75 u a0 xd r20)) else F_X11_back_j41 u a0)))) else none) else none
theorem c_X11_back {l : Launch} {G : xG} {rr : Int32} {u : xT} {a0 : Nat} {xa : Int32} {xb : Int32} {xc : Int32} {xd : Int32} (hF : F_X11_back u a0 xa xb xc xd = some rr) : xMi l G yX11_back cX11_back 9 (Option.some Jvm.ClassFile.FieldType.int) 7 0 0 [.ref a0, .int xa, .int xb, .int xc, .int xd] (tE G u) u.1 (fun r z => r = rr ∧ z = ((tE G u), u.1)) := by
  unfold F_X11_back at hF
  refine x_startI rfl (Nat.le_of_ble_eq_true rfl) (fun p e s m args below meth cd ls hE hnm hl hD => ?_)
  have hx := hE.1; have hb := hE.2.1
  have hl : lv_has ls 9 [(0, .ref a0), (1, .int xa), (2, .int xb), (3, .int xc), (4, .int xd)] := hl
  have hD : tD G (xA (tE G u) s.heap.size) s.heap u s.heap [] := hD
  refine lv_aload_n hx hb dX11_back_0 rfl (lv_at hl 0 rfl) ?_
  obtain ⟨h3, hF⟩ := ite_s hF
  obtain ⟨q4, h5, hF⟩ := xb_s hF
  refine gr_X11_10 hE hD h3 h5 dX11_back_1 ?_
  refine lv_iload_n hx hb dX11_back_4 rfl (lv_at hl 1 rfl) ?_
  obtain ⟨h6, hF⟩ := ite_s hF
  obtain ⟨r7, k8, hF⟩ := xb_s hF
  refine kVq (As := [.int xa]) (rest := []) hE hl hD (c_X7_bridgeAt k8) kl_X11_82 (tE_7 h6) rfl rfl rfl rfl (Nat.le_of_ble_eq_true rfl) dX11_back_5 ⟨Nat.le_of_ble_eq_true rfl, Nat.le_of_ble_eq_true rfl⟩ ⟨Nat.le_of_ble_eq_true rfl, Nat.le_of_ble_eq_true rfl⟩ (fun H locs (hD : tD G _ _ u H locs) => ?_)
  refine t_split hF (fun h10 hF => ?_) (fun q9 h10 hF => ?_)
  · refine lv_astoreN (lv' := [(5, .null), (0, .ref a0), (1, .int xa), (2, .int xb), (3, .int xc), (4, .int xd)]) hx hb dX11_back_8 hl (by decide) rfl (fun ls hl => ?_)
    refine lv_aloadN hx hb dX11_back_10 (lv_at hl 0 rfl) ?_
    refine lv_ifnullN (tgt := 41) hx hb dX11_back_12 (by decide) ?_
    exact B_X11_back_j41 hE hD (lv_sub hl [1] rfl) hF
  · refine lv_astore (lv' := [(5, .ref q9), (0, .ref a0), (1, .int xa), (2, .int xb), (3, .int xc), (4, .int xd)]) hx hb dX11_back_8 hl (by decide) rfl (fun ls hl => ?_)
    refine lv_aload hx hb dX11_back_10 (lv_at hl 0 rfl) ?_
    refine lv_ifnull hx hb dX11_back_12 ?_
    refine lv_iload_n hx hb dX11_back_15 rfl (lv_at hl 3 rfl) ?_
    refine lv_iconst (v := (0 : Int32)) hx hb dX11_back_16 (by decide) ?_
    refine lv_ldc (v := (99999 : Int32)) hx hb hE.2.2.1 (hE.2.2.2.1 _ kw4_13) dX11_back_17 ?_
    obtain ⟨r11, k12, hF⟩ := xb_s hF
    refine kSz (As := [.int xb, .int (0 : Int32), .int (99999 : Int32)]) (rest := []) hE hl hD (c_X11_isIn k12) kl_X11_183 rfl rfl (Nat.le_of_ble_eq_true rfl) dX11_back_19 ⟨Nat.le_of_ble_eq_true rfl, Nat.le_of_ble_eq_true rfl⟩ ⟨Nat.le_of_ble_eq_true rfl, Nat.le_of_ble_eq_true rfl⟩ (fun H locs z13 (hD : tD G _ _ u H locs) => ?_)
    refine lv_if_eq (tgt := 41) hx hb dX11_back_22 (by decide) (fun c14 => ?_) (fun c14 => ?_)
    · have hF := ite_p hF c14
      exact B_X11_back_j41 hE hD (lv_sub hl [1] rfl) hF
    · have hF := ite_n hF c14
      refine lv_iload_n hx hb dX11_back_25 rfl (lv_at hl 4 rfl) ?_
      refine lv_iconst (v := (1 : Int32)) hx hb dX11_back_26 (by decide) ?_
      refine lv_bipush (v := (6 : Int32)) hx hb dX11_back_27 (by decide) ?_
      obtain ⟨r15, k16, hF⟩ := xb_s hF
      refine kSz (As := [.int xc, .int (1 : Int32), .int (6 : Int32)]) (rest := []) hE hl hD (c_X11_isIn k16) kl_X11_183 rfl rfl (Nat.le_of_ble_eq_true rfl) dX11_back_29 ⟨Nat.le_of_ble_eq_true rfl, Nat.le_of_ble_eq_true rfl⟩ ⟨Nat.le_of_ble_eq_true rfl, Nat.le_of_ble_eq_true rfl⟩ (fun H locs z17 (hD : tD G _ _ u H locs) => ?_)
      refine lv_if_eq (tgt := 41) hx hb dX11_back_32 (by decide) (fun c18 => ?_) (fun c18 => ?_)
      · have hF := ite_p hF c18
        exact B_X11_back_j41 hE hD (lv_sub hl [1] rfl) hF
      · have hF := ite_n hF c18
        refine lv_iload hx hb dX11_back_35 (lv_at hl 5 rfl) ?_
        refine lv_iconst (v := (-1 : Int32)) hx hb dX11_back_37 (by decide) ?_
        refine lv_icmp_ge (tgt := 43) hx hb dX11_back_38 (by decide) (fun c19 => ?_) (fun c19 => ?_)
        · have hF := ite_p hF c19
          refine lv_aload hx hb dX11_back_43 (lv_at hl 0 rfl) ?_
          refine lv_iload_n hx hb dX11_back_45 rfl (lv_at hl 3 rfl) ?_
          refine lv_iload_n hx hb dX11_back_46 rfl (lv_at hl 4 rfl) ?_
          obtain ⟨r20, k21, hF⟩ := xb_s hF
          refine kSi (As := [.ref q9, .int xb, .int xc]) (rest := []) hE hl hD (c_X11_leastAheadAll k21) kl_X11_191 rfl rfl (Nat.le_of_ble_eq_true rfl) dX11_back_47 ⟨Nat.le_of_ble_eq_true rfl, Nat.le_of_ble_eq_true rfl⟩ ⟨Nat.le_of_ble_eq_true rfl, Nat.le_of_ble_eq_true rfl⟩ (fun H locs (hD : tD G _ _ u H locs) => ?_)
          refine lv_istore (lv' := [(6, .int r20), (5, .ref q9), (0, .ref a0), (1, .int xa), (2, .int xb), (3, .int xc), (4, .int xd)]) hx hb dX11_back_50 hl (by decide) rfl (fun ls hl => ?_)
          refine lv_aload hx hb dX11_back_52 (lv_at hl 1 rfl) ?_
          refine lv_iload_n hx hb dX11_back_54 rfl (lv_at hl 4 rfl) ?_
          refine lv_iconst (v := (1 : Int32)) hx hb dX11_back_55 (by decide) ?_
          refine lv_iadd hx hb dX11_back_56 ?_
          refine lv_iload_n hx hb dX11_back_57 rfl (lv_at hl 5 rfl) ?_
          obtain ⟨r22, k23, hF⟩ := xb_s hF
          refine kSi (As := [.ref q9, .int (xb + (1 : Int32)), .int xc]) (rest := []) hE hl hD (c_X11_leastAheadAll k23) kl_X11_191 rfl rfl (Nat.le_of_ble_eq_true rfl) dX11_back_58 ⟨Nat.le_of_ble_eq_true rfl, Nat.le_of_ble_eq_true rfl⟩ ⟨Nat.le_of_ble_eq_true rfl, Nat.le_of_ble_eq_true rfl⟩ (fun H locs (hD : tD G _ _ u H locs) => ?_)
          refine lv_istore (lv' := [(7, .int r22), (6, .int r20), (5, .ref q9), (0, .ref a0), (1, .int xa), (2, .int xb), (3, .int xc), (4, .int xd)]) hx hb dX11_back_61 hl (by decide) rfl (fun ls hl => ?_)
          refine lv_iload hx hb dX11_back_63 (lv_at hl 1 rfl) ?_
          refine lv_if_lt (tgt := 75) hx hb dX11_back_65 (by decide) (fun c24 => ?_) (fun c24 => ?_)
          · have hF := ite_p hF c24
            exact B_X11_back_j75 hE hD (lv_sub hl [3, 7, 1] rfl) hF
          · have hF := ite_n hF c24
            refine lv_iload hx hb dX11_back_68 (lv_at hl 0 rfl) ?_
            refine lv_iload hx hb dX11_back_70 (lv_at hl 1 rfl) ?_
            refine lv_icmp_ge (tgt := 79) hx hb dX11_back_72 (by decide) (fun c25 => ?_) (fun c25 => ?_)
            · have hF := ite_p hF c25
              refine lv_iload hx hb dX11_back_79 (lv_at hl 0 rfl) ?_
              refine lv_iload hx hb dX11_back_81 (lv_at hl 1 rfl) ?_
              refine lv_isub hx hb dX11_back_83 ?_
              exact B_X11_back_j84 hE hD (lv_sub hl [3, 7, 1] rfl) hF
            · have hF := ite_n hF c25
              exact B_X11_back_j75 hE hD (lv_sub hl [3, 7, 1] rfl) hF
        · have hF := ite_n hF c19
          exact B_X11_back_j41 hE hD (lv_sub hl [1] rfl) hF
def F_X11_behindOf_j22 (u : xT) (a0 : Nat) (s0 : Int32) : Option Int32 := some s0
theorem B_X11_behindOf_j22 {p : Program} {l : Launch} {e : Env} {s : State} {m : MethodId} {args : Array Value} {below : List Frame} {meth : Method} {cd : Code} {G : xG} {w0 : xW} {rr : Int32} (hE : xE p s m args meth cd cX11_behindOf RX11 G 4 (Option.some Jvm.ClassFile.FieldType.int)) {u : xT} {a0 : Nat} {s0 : Int32} {H : Heap} {locs : List Loc} {ls : Array Slot} (hD : tD G (xA w0 s.heap.size) s.heap u H locs) (hl : lv_has ls 4 [(0, .ref a0)]) (hF : F_X11_behindOf_j22 u a0 s0 = some rr) : W p l e (xR 6 0 0) s m args below meth cd H locs 0 0 (xQi G w0 (fun r z => r = rr ∧ z = ((tE G u), u.1)) below args s 0 0) (F0 m 22 ls [.int s0]) := by
  have hx := hE.1; have hb := hE.2.1
  unfold F_X11_behindOf_j22 at hF
  obtain rfl := Option.some.inj hF
  exact x_iret hE hD ⟨rfl, rfl⟩ (by omega) (by omega) dX11_behindOf_22
def F_X11_behindOf (u : xT) (a0 : Nat) (xa : Int32) (xb : Int32) : Option Int32 := if tK u a0 = 11 then (tP u a0 0).bind (fun q2 => if tK u q2 = 7 then (F_X7_bridgeAt u q2 xa).bind (fun r5 => xopt (r5) (F_X11_behindOf_j22 u a0 (-1 : Int32)) (fun q7 => if isBk (tK u q7) then (F_X0_becomes u q7 xb).bind (fun r10 => F_X11_behindOf_j22 u a0 r10) else none)) else none) else none
theorem c_X11_behindOf {l : Launch} {G : xG} {rr : Int32} {u : xT} {a0 : Nat} {xa : Int32} {xb : Int32} (hF : F_X11_behindOf u a0 xa xb = some rr) : xMi l G yX11_behindOf cX11_behindOf 4 (Option.some Jvm.ClassFile.FieldType.int) 6 0 0 [.ref a0, .int xa, .int xb] (tE G u) u.1 (fun r z => r = rr ∧ z = ((tE G u), u.1)) := by
  unfold F_X11_behindOf at hF
  refine x_startI rfl (Nat.le_of_ble_eq_true rfl) (fun p e s m args below meth cd ls hE hnm hl hD => ?_)
  have hx := hE.1; have hb := hE.2.1
  have hl : lv_has ls 4 [(0, .ref a0), (1, .int xa), (2, .int xb)] := hl
  have hD : tD G (xA (tE G u) s.heap.size) s.heap u s.heap [] := hD
  refine lv_aload_n hx hb dX11_behindOf_0 rfl (lv_at hl 0 rfl) ?_
  obtain ⟨h1, hF⟩ := ite_s hF
  obtain ⟨q2, h3, hF⟩ := xb_s hF
  refine gr_X11_10 hE hD h1 h3 dX11_behindOf_1 ?_
  refine lv_iload_n hx hb dX11_behindOf_4 rfl (lv_at hl 1 rfl) ?_
  obtain ⟨h4, hF⟩ := ite_s hF
  obtain ⟨r5, k6, hF⟩ := xb_s hF
  refine kVq (As := [.int xa]) (rest := []) hE hl hD (c_X7_bridgeAt k6) kl_X11_82 (tE_7 h4) rfl rfl rfl rfl (Nat.le_of_ble_eq_true rfl) dX11_behindOf_5 ⟨Nat.le_of_ble_eq_true rfl, Nat.le_of_ble_eq_true rfl⟩ ⟨Nat.le_of_ble_eq_true rfl, Nat.le_of_ble_eq_true rfl⟩ (fun H locs (hD : tD G _ _ u H locs) => ?_)
  refine t_split hF (fun h8 hF => ?_) (fun q7 h8 hF => ?_)
  · refine lv_astore_nN (lv' := [(3, .null), (0, .ref a0), (1, .int xa), (2, .int xb)]) hx hb dX11_behindOf_8 rfl hl (by decide) rfl (fun ls hl => ?_)
    refine lv_aload_nN hx hb dX11_behindOf_9 rfl (lv_at hl 0 rfl) ?_
    refine lv_ifnonnullN hx hb dX11_behindOf_10 ?_
    refine lv_iconst (v := (-1 : Int32)) hx hb dX11_behindOf_13 (by decide) ?_
    refine lv_goto (tgt := 22) hx hb dX11_behindOf_14 (by decide) ?_
    exact B_X11_behindOf_j22 hE hD (lv_sub hl [1] rfl) hF
  · refine lv_astore_n (lv' := [(3, .ref q7), (0, .ref a0), (1, .int xa), (2, .int xb)]) hx hb dX11_behindOf_8 rfl hl (by decide) rfl (fun ls hl => ?_)
    refine lv_aload_n hx hb dX11_behindOf_9 rfl (lv_at hl 0 rfl) ?_
    refine lv_ifnonnull (tgt := 17) hx hb dX11_behindOf_10 (by decide) ?_
    refine lv_aload_n hx hb dX11_behindOf_17 rfl (lv_at hl 0 rfl) ?_
    refine lv_iload_n hx hb dX11_behindOf_18 rfl (lv_at hl 3 rfl) ?_
    obtain ⟨h9, hF⟩ := ite_s hF
    obtain ⟨r10, k11, hF⟩ := xb_s hF
    refine kB_X11_173 (rest := []) hE hl hD h9 k11 (Nat.le_of_ble_eq_true rfl) dX11_behindOf_19 ⟨Nat.le_of_ble_eq_true rfl, Nat.le_of_ble_eq_true rfl⟩ ⟨Nat.le_of_ble_eq_true rfl, Nat.le_of_ble_eq_true rfl⟩ (fun H locs (hD : tD G _ _ u H locs) => ?_)
    exact B_X11_behindOf_j22 hE hD (lv_sub hl [1] rfl) hF
def F_X11_entryOf_j17 (u : xT) (s0 : Int32) : Option Int32 := some s0
theorem B_X11_entryOf_j17 {p : Program} {l : Launch} {e : Env} {s : State} {m : MethodId} {args : Array Value} {below : List Frame} {meth : Method} {cd : Code} {G : xG} {w0 : xW} {rr : Int32} (hE : xE p s m args meth cd cX11_entryOf RX11 G 2 (Option.some Jvm.ClassFile.FieldType.int)) {u : xT} {s0 : Int32} {H : Heap} {locs : List Loc} {ls : Array Slot} (hD : tD G (xA w0 s.heap.size) s.heap u H locs) (hl : lv_has ls 2 []) (hF : F_X11_entryOf_j17 u s0 = some rr) : W p l e (xR 2 0 0) s m args below meth cd H locs 0 0 (xQi G w0 (fun r z => r = rr ∧ z = ((tE G u), u.1)) below args s 0 0) (F0 m 17 ls [.int s0]) := by
  have hx := hE.1; have hb := hE.2.1
  unfold F_X11_entryOf_j17 at hF
  obtain rfl := Option.some.inj hF
  exact x_iret hE hD ⟨rfl, rfl⟩ (by omega) (by omega) dX11_entryOf_17
def F_X11_entryOf_j16 (u : xT)  : Option Int32 := F_X11_entryOf_j17 u (-1 : Int32)
theorem B_X11_entryOf_j16 {p : Program} {l : Launch} {e : Env} {s : State} {m : MethodId} {args : Array Value} {below : List Frame} {meth : Method} {cd : Code} {G : xG} {w0 : xW} {rr : Int32} (hE : xE p s m args meth cd cX11_entryOf RX11 G 2 (Option.some Jvm.ClassFile.FieldType.int)) {u : xT}  {H : Heap} {locs : List Loc} {ls : Array Slot} (hD : tD G (xA w0 s.heap.size) s.heap u H locs) (hl : lv_has ls 2 []) (hF : F_X11_entryOf_j16 u  = some rr) : W p l e (xR 2 0 0) s m args below meth cd H locs 0 0 (xQi G w0 (fun r z => r = rr ∧ z = ((tE G u), u.1)) below args s 0 0) (F0 m 16 ls []) := by
  have hx := hE.1; have hb := hE.2.1
  unfold F_X11_entryOf_j16 at hF
  refine lv_iconst (v := (-1 : Int32)) hx hb dX11_entryOf_16 (by decide) ?_
  exact B_X11_entryOf_j17 hE hD (lv_sub hl [] rfl) hF
def F_X11_entryOf (u : xT) (xa : Nat) (xb : Int32) : Option Int32 := if xb < 0 then F_X11_entryOf_j16 u else if tK u xa = 20 then if (nI (tN u xa)) ≤ xb then F_X11_entryOf_j16 u else if xIn xb (tN u xa) then F_X11_entryOf_j17 u (tI u xa xb.toNatClampNeg) else none else none
theorem c_X11_entryOf {l : Launch} {G : xG} {rr : Int32} {u : xT} {xa : Nat} {xb : Int32} (hF : F_X11_entryOf u xa xb = some rr) : xMi l G yX11_entryOf cX11_entryOf 2 (Option.some Jvm.ClassFile.FieldType.int) 2 0 0 [.ref xa, .int xb] (tE G u) u.1 (fun r z => r = rr ∧ z = ((tE G u), u.1)) := by
  unfold F_X11_entryOf at hF
  refine x_startI rfl (Nat.le_of_ble_eq_true rfl) (fun p e s m args below meth cd ls hE hnm hl hD => ?_)
  have hx := hE.1; have hb := hE.2.1
  have hl : lv_has ls 2 [(0, .ref xa), (1, .int xb)] := hl
  have hD : tD G (xA (tE G u) s.heap.size) s.heap u s.heap [] := hD
  refine lv_iload_n hx hb dX11_entryOf_0 rfl (lv_at hl 1 rfl) ?_
  refine lv_if_lt (tgt := 16) hx hb dX11_entryOf_1 (by decide) (fun c1 => ?_) (fun c1 => ?_)
  · have hF := ite_p hF c1
    exact B_X11_entryOf_j16 hE hD (lv_sub hl [] rfl) hF
  · have hF := ite_n hF c1
    refine lv_iload_n hx hb dX11_entryOf_4 rfl (lv_at hl 1 rfl) ?_
    refine lv_aload_n hx hb dX11_entryOf_5 rfl (lv_at hl 0 rfl) ?_
    obtain ⟨h2, hF⟩ := ite_s hF
    refine t_alen hE hD h2 dX11_entryOf_6 ?_
    refine lv_icmp_ge (tgt := 16) hx hb dX11_entryOf_7 (by decide) (fun c3 => ?_) (fun c3 => ?_)
    · have hF := ite_p hF c3
      exact B_X11_entryOf_j16 hE hD (lv_sub hl [] rfl) hF
    · have hF := ite_n hF c3
      refine lv_aload_n hx hb dX11_entryOf_10 rfl (lv_at hl 0 rfl) ?_
      refine lv_iload_n hx hb dX11_entryOf_11 rfl (lv_at hl 1 rfl) ?_
      obtain ⟨h4, hF⟩ := ite_s hF
      refine t_iald hE hD h2 h4 dX11_entryOf_12 ?_
      refine lv_goto (tgt := 17) hx hb dX11_entryOf_13 (by decide) ?_
      exact B_X11_entryOf_j17 hE hD (lv_sub hl [] rfl) hF
def F_X11_bestByLast_j42 (kc4 : xT → Nat → Int32 → Int32 → Int32 → Option Int32) (u : xT) (a0 : Nat) (y1 : Int32) (y2 : Int32) (y3 : Int32) : Option Int32 := xlet (y3 + (1 : Int32)) (fun x1 => kc4 u a0 y1 y2 x1)
theorem B_X11_bestByLast_j42 {p : Program} {l : Launch} {e : Env} {s : State} {m : MethodId} {args : Array Value} {below : List Frame} {meth : Method} {cd : Code} {G : xG} {w0 : xW} {rr : Int32} (hE : xE p s m args meth cd cX11_bestByLast RX11 G 4 (Option.some Jvm.ClassFile.FieldType.int)) {u : xT} (kc4 : xT → Nat → Int32 → Int32 → Int32 → Option Int32) (hc4 : ∀ {a0 : Nat} {y1 : Int32} {y2 : Int32} {y3 : Int32} {H : Heap} {locs : List Loc} {ls : Array Slot} , tD G (xA w0 s.heap.size) s.heap u H locs → lv_has ls 4 [(0, .ref a0), (1, .int y1), (2, .int y2), (3, .int y3)] → kc4 u a0 y1 y2 y3 = some rr → W p l e (xR 7 0 0) s m args below meth cd H locs 0 0 (xQi G w0 (fun r z => r = rr ∧ z = ((tE G u), u.1)) below args s 0 0) (F0 m 4 ls [])) {a0 : Nat} {y1 : Int32} {y2 : Int32} {y3 : Int32} {H : Heap} {locs : List Loc} {ls : Array Slot} (hD : tD G (xA w0 s.heap.size) s.heap u H locs) (hl : lv_has ls 4 [(0, .ref a0), (1, .int y1), (2, .int y2), (3, .int y3)]) (hF : F_X11_bestByLast_j42 kc4 u a0 y1 y2 y3 = some rr) : W p l e (xR 7 0 0) s m args below meth cd H locs 0 0 (xQi G w0 (fun r z => r = rr ∧ z = ((tE G u), u.1)) below args s 0 0) (F0 m 42 ls []) := by
  have hx := hE.1; have hb := hE.2.1
  unfold F_X11_bestByLast_j42 at hF
  obtain ⟨x1, ex1⟩ : ∃ y : Int32, y = y3 + (1 : Int32) := ⟨_, rfl⟩
  have hF := xlet_e hF ex1
  refine lv_iinc (v := x1) (lv' := [(3, .int x1), (0, .ref a0), (1, .int y1), (2, .int y2)]) hx hb dX11_bestByLast_42 hl (k := 3) rfl (by rw [ex1]; rfl) (by decide) rfl (fun ls hl => ?_)
  refine lv_goto (tgt := 4) hx hb dX11_bestByLast_45 (by decide) ?_
  exact hc4 hD (lv_sub hl [1, 2, 3, 0] rfl) hF
def F_X11_bestByLast_l4 : Nat → xT → Nat → Int32 → Int32 → Int32 → Option Int32
  | 0, _, _, _, _, _ => none
  | nn + 1, u, a0, y1, y2, y3 => if (9 : Int32) ≤ y3 then some y2 else if ((y1 >>> (y3 &&& 31)) &&& (1 : Int32)) = 0 then F_X11_bestByLast_j42 (F_X11_bestByLast_l4 nn) u a0 y1 y2 y3 else if tK u a0 = 11 then (tP u a0 11).bind (fun q5 => (F_X11_entryOf u q5 (y1 &&& (((1 : Int32) <<< (y3 &&& 31)) ^^^ (-1 : Int32)))).bind (fun r7 => (F_X11_behindOf u a0 y3 r7).bind (fun r9 => xlet (if y2 < r9 then r9 else y2) (fun x11 => F_X11_bestByLast_j42 (F_X11_bestByLast_l4 nn) u a0 y1 x11 y3)))) else none
theorem L_X11_bestByLast_l4 {p : Program} {l : Launch} {e : Env} {s : State} {m : MethodId} {args : Array Value} {below : List Frame} {meth : Method} {cd : Code} {G : xG} {w0 : xW} {rr : Int32} (hE : xE p s m args meth cd cX11_bestByLast RX11 G 4 (Option.some Jvm.ClassFile.FieldType.int)) : ∀ (nn : Nat) {u : xT} {a0 : Nat} {y1 : Int32} {y2 : Int32} {y3 : Int32} {H : Heap} {locs : List Loc} {ls : Array Slot} , tD G (xA w0 s.heap.size) s.heap u H locs → lv_has ls 4 [(0, .ref a0), (1, .int y1), (2, .int y2), (3, .int y3)] → F_X11_bestByLast_l4 nn u a0 y1 y2 y3 = some rr → W p l e (xR 7 0 0) s m args below meth cd H locs 0 0 (xQi G w0 (fun r z => r = rr ∧ z = ((tE G u), u.1)) below args s 0 0) (F0 m 4 ls []) := by
  have hx := hE.1; have hb := hE.2.1
  intro nn
  induction nn with
  | zero => intro u a0 y1 y2 y3 H locs ls hD hl hF; rw [F_X11_bestByLast_l4] at hF; cases hF
  | succ nn ih =>
    intro u a0 y1 y2 y3 H locs ls hD hl hF
    rw [F_X11_bestByLast_l4] at hF
    refine lv_iload_n hx hb dX11_bestByLast_4 rfl (lv_at hl 3 rfl) ?_
    refine lv_bipush (v := (9 : Int32)) hx hb dX11_bestByLast_5 (by decide) ?_
    refine lv_icmp_ge (tgt := 48) hx hb dX11_bestByLast_7 (by decide) (fun c2 => ?_) (fun c2 => ?_)
    · have hF := ite_p hF c2
      refine lv_iload_n hx hb dX11_bestByLast_48 rfl (lv_at hl 2 rfl) ?_
      obtain rfl := Option.some.inj hF
      exact x_iret hE hD ⟨rfl, rfl⟩ (by omega) (by omega) dX11_bestByLast_49
    · have hF := ite_n hF c2
      refine lv_iload_n hx hb dX11_bestByLast_10 rfl (lv_at hl 1 rfl) ?_
      refine lv_iload_n hx hb dX11_bestByLast_11 rfl (lv_at hl 3 rfl) ?_
      refine lv_ishr hx hb dX11_bestByLast_12 ?_
      refine lv_iconst (v := (1 : Int32)) hx hb dX11_bestByLast_13 (by decide) ?_
      refine lv_iand hx hb dX11_bestByLast_14 ?_
      refine lv_if_eq (tgt := 42) hx hb dX11_bestByLast_15 (by decide) (fun c3 => ?_) (fun c3 => ?_)
      · have hF := ite_p hF c3
        exact B_X11_bestByLast_j42 hE (F_X11_bestByLast_l4 nn) ih hD (lv_sub hl [0, 1, 2, 3] rfl) hF
      · have hF := ite_n hF c3
        refine lv_iload_n hx hb dX11_bestByLast_18 rfl (lv_at hl 2 rfl) ?_
        refine lv_aload_n hx hb dX11_bestByLast_19 rfl (lv_at hl 0 rfl) ?_
        refine lv_iload_n hx hb dX11_bestByLast_20 rfl (lv_at hl 3 rfl) ?_
        refine lv_aload_n hx hb dX11_bestByLast_21 rfl (lv_at hl 0 rfl) ?_
        obtain ⟨h4, hF⟩ := ite_s hF
        obtain ⟨q5, h6, hF⟩ := xb_s hF
        refine gr_X11_56 hE hD h4 h6 dX11_bestByLast_22 ?_
        refine lv_iload_n hx hb dX11_bestByLast_25 rfl (lv_at hl 1 rfl) ?_
        refine lv_iconst (v := (1 : Int32)) hx hb dX11_bestByLast_26 (by decide) ?_
        refine lv_iload_n hx hb dX11_bestByLast_27 rfl (lv_at hl 3 rfl) ?_
        refine lv_ishl hx hb dX11_bestByLast_28 ?_
        refine lv_iconst (v := (-1 : Int32)) hx hb dX11_bestByLast_29 (by decide) ?_
        refine lv_ixor hx hb dX11_bestByLast_30 ?_
        refine lv_iand hx hb dX11_bestByLast_31 ?_
        obtain ⟨r7, k8, hF⟩ := xb_s hF
        refine kSi (As := [.ref q5, .int (y1 &&& (((1 : Int32) <<< (y3 &&& 31)) ^^^ (-1 : Int32)))]) (rest := [.int y3, .ref a0, .int y2]) hE hl hD (c_X11_entryOf k8) kl_X11_347 rfl rfl (Nat.le_of_ble_eq_true rfl) dX11_bestByLast_32 ⟨Nat.le_of_ble_eq_true rfl, Nat.le_of_ble_eq_true rfl⟩ ⟨Nat.le_of_ble_eq_true rfl, Nat.le_of_ble_eq_true rfl⟩ (fun H locs (hD : tD G _ _ u H locs) => ?_)
        obtain ⟨r9, k10, hF⟩ := xb_s hF
        refine kVi (As := [.int y3, .int r7]) (rest := [.int y2]) hE hl hD (c_X11_behindOf k10) kl_X11_213 (tE_11 h4) rfl rfl rfl rfl (Nat.le_of_ble_eq_true rfl) dX11_bestByLast_35 ⟨Nat.le_of_ble_eq_true rfl, Nat.le_of_ble_eq_true rfl⟩ ⟨Nat.le_of_ble_eq_true rfl, Nat.le_of_ble_eq_true rfl⟩ (fun H locs (hD : tD G _ _ u H locs) => ?_)
        refine x_mmaxI (rest := []) hE hl kw4_37 (Nat.le_of_ble_eq_true rfl) (Nat.le_of_ble_eq_true rfl) (Nat.le_of_ble_eq_true rfl) (Nat.le_of_ble_eq_true rfl) dX11_bestByLast_38 ?_
        refine lv_topi (fun x11 ex11 => ?_)
        have hF := xlet_e hF ex11
        refine lv_istore_n (lv' := [(2, .int x11), (0, .ref a0), (1, .int y1), (3, .int y3)]) hx hb dX11_bestByLast_41 rfl hl (by decide) rfl (fun ls hl => ?_)
        exact B_X11_bestByLast_j42 hE (F_X11_bestByLast_l4 nn) ih hD (lv_sub hl [1, 2, 0, 3] rfl) hF
def F_X11_bestByLast (u : xT) (a0 : Nat) (xa : Int32) : Option Int32 := F_X11_bestByLast_l4 xFuel u a0 xa (-1 : Int32) (0 : Int32)
theorem c_X11_bestByLast {l : Launch} {G : xG} {rr : Int32} {u : xT} {a0 : Nat} {xa : Int32} (hF : F_X11_bestByLast u a0 xa = some rr) : xMi l G yX11_bestByLast cX11_bestByLast 4 (Option.some Jvm.ClassFile.FieldType.int) 7 0 0 [.ref a0, .int xa] (tE G u) u.1 (fun r z => r = rr ∧ z = ((tE G u), u.1)) := by
  unfold F_X11_bestByLast at hF
  refine x_startI rfl (Nat.le_of_ble_eq_true rfl) (fun p e s m args below meth cd ls hE hnm hl hD => ?_)
  have hx := hE.1; have hb := hE.2.1
  have hl : lv_has ls 4 [(0, .ref a0), (1, .int xa)] := hl
  have hD : tD G (xA (tE G u) s.heap.size) s.heap u s.heap [] := hD
  refine lv_iconst (v := (-1 : Int32)) hx hb dX11_bestByLast_0 (by decide) ?_
  refine lv_istore_n (lv' := [(2, .int (-1 : Int32)), (0, .ref a0), (1, .int xa)]) hx hb dX11_bestByLast_1 rfl hl (by decide) rfl (fun ls hl => ?_)
  refine lv_iconst (v := (0 : Int32)) hx hb dX11_bestByLast_2 (by decide) ?_
  refine lv_istore_n (lv' := [(3, .int (0 : Int32)), (2, .int (-1 : Int32)), (0, .ref a0), (1, .int xa)]) hx hb dX11_bestByLast_3 rfl hl (by decide) rfl (fun ls hl => ?_)
  exact L_X11_bestByLast_l4 hE _ hD (lv_sub hl [2, 3, 1, 0] rfl) hF
def F_X11_richest_j48 (u : xT) (a0 : Nat) (y2 : Int32) : Option (Int32 × xT) := if tK u a0 = 11 then (tP u a0 11).bind (fun q2 => (F_X11_entryOf u q2 y2).bind (fun r4 => some (r4, u))) else none
theorem B_X11_richest_j48 {p : Program} {l : Launch} {e : Env} {s : State} {m : MethodId} {args : Array Value} {below : List Frame} {meth : Method} {cd : Code} {G : xG} {w0 : xW} {rr : (Int32 × xT)} (hE : xE p s m args meth cd cX11_richest RX11 G 4 (Option.some Jvm.ClassFile.FieldType.int)) {u : xT} {a0 : Nat} {y2 : Int32} {H : Heap} {locs : List Loc} {ls : Array Slot} (hD : tD G (xA w0 s.heap.size) s.heap u H locs) (hl : lv_has ls 4 [(0, .ref a0), (2, .int y2)]) (hF : F_X11_richest_j48 u a0 y2 = some rr) : W p l e (xR 8 0 0) s m args below meth cd H locs 0 0 (xQi G w0 (fun r z => r = rr.1 ∧ z = ((tE G rr.2), rr.2.1)) below args s 0 0) (F0 m 48 ls []) := by
  have hx := hE.1; have hb := hE.2.1
  unfold F_X11_richest_j48 at hF
  refine lv_aload_n hx hb dX11_richest_48 rfl (lv_at hl 0 rfl) ?_
  obtain ⟨h1, hF⟩ := ite_s hF
  obtain ⟨q2, h3, hF⟩ := xb_s hF
  refine gr_X11_56 hE hD h1 h3 dX11_richest_49 ?_
  refine lv_iload_n hx hb dX11_richest_52 rfl (lv_at hl 1 rfl) ?_
  obtain ⟨r4, k5, hF⟩ := xb_s hF
  refine kSi (As := [.ref q2, .int y2]) (rest := []) hE hl hD (c_X11_entryOf k5) kl_X11_347 rfl rfl (Nat.le_of_ble_eq_true rfl) dX11_richest_53 ⟨Nat.le_of_ble_eq_true rfl, Nat.le_of_ble_eq_true rfl⟩ ⟨Nat.le_of_ble_eq_true rfl, Nat.le_of_ble_eq_true rfl⟩ (fun H locs (hD : tD G _ _ u H locs) => ?_)
  obtain rfl := Option.some.inj hF
  exact x_iret hE hD ⟨rfl, rfl⟩ (by omega) (by omega) dX11_richest_56
def F_X11_richest_j42 (kc9 : xT → Nat → Int32 → Int32 → Option (Int32 × xT)) (u : xT) (a0 : Nat) (y2 : Int32) (y3 : Int32) : Option (Int32 × xT) := xlet (y3 + (1 : Int32)) (fun x6 => kc9 u a0 y2 x6)
theorem B_X11_richest_j42 {p : Program} {l : Launch} {e : Env} {s : State} {m : MethodId} {args : Array Value} {below : List Frame} {meth : Method} {cd : Code} {G : xG} {w0 : xW} {rr : (Int32 × xT)} (hE : xE p s m args meth cd cX11_richest RX11 G 4 (Option.some Jvm.ClassFile.FieldType.int)) {u : xT} (kc9 : xT → Nat → Int32 → Int32 → Option (Int32 × xT)) (hc9 : ∀ {u1 : xT} {a0 : Nat} {y2 : Int32} {y3 : Int32} {H : Heap} {locs : List Loc} {ls : Array Slot} , tD G (xA w0 s.heap.size) s.heap u1 H locs → lv_has ls 4 [(0, .ref a0), (2, .int y2), (3, .int y3)] → kc9 u1 a0 y2 y3 = some rr → W p l e (xR 8 0 0) s m args below meth cd H locs 0 0 (xQi G w0 (fun r z => r = rr.1 ∧ z = ((tE G rr.2), rr.2.1)) below args s 0 0) (F0 m 9 ls [])) {a0 : Nat} {y2 : Int32} {y3 : Int32} {H : Heap} {locs : List Loc} {ls : Array Slot} (hD : tD G (xA w0 s.heap.size) s.heap u H locs) (hl : lv_has ls 4 [(0, .ref a0), (2, .int y2), (3, .int y3)]) (hF : F_X11_richest_j42 kc9 u a0 y2 y3 = some rr) : W p l e (xR 8 0 0) s m args below meth cd H locs 0 0 (xQi G w0 (fun r z => r = rr.1 ∧ z = ((tE G rr.2), rr.2.1)) below args s 0 0) (F0 m 42 ls []) := by
  have hx := hE.1; have hb := hE.2.1
  unfold F_X11_richest_j42 at hF
  obtain ⟨x6, ex6⟩ : ∃ y : Int32, y = y3 + (1 : Int32) := ⟨_, rfl⟩
  have hF := xlet_e hF ex6
  refine lv_iinc (v := x6) (lv' := [(3, .int x6), (0, .ref a0), (2, .int y2)]) hx hb dX11_richest_42 hl (k := 2) rfl (by rw [ex6]; rfl) (by decide) rfl (fun ls hl => ?_)
  refine lv_goto (tgt := 9) hx hb dX11_richest_45 (by decide) ?_
  exact hc9 hD (lv_sub hl [1, 2, 0] rfl) hF
def F_X11_richest_l9 : Nat → xT → Nat → Int32 → Int32 → Option (Int32 × xT)
  | 0, _, _, _, _ => none
  | nn + 1, u, a0, y2, y3 => if y2 < y3 then F_X11_richest_j48 u a0 y2 else if tK u a0 = 11 then (tP u a0 11).bind (fun q9 => if tK u q9 = 20 then if (nI (tN u q9)) ≤ y3 then F_X11_richest_j48 u a0 y2 else if (y3 &&& (y2 ^^^ (-1 : Int32))) = 0 then (tP u a0 11).bind (fun q14 => (F_X11_bestByLast u a0 y3).bind (fun r16 => if tK u q14 = 20 then if xIn y3 (tN u q14) then xlet (tSI u q14 y3.toNatClampNeg r16) (fun t20 => F_X11_richest_j42 (F_X11_richest_l9 nn) t20 a0 y2 y3) else none else none)) else F_X11_richest_j42 (F_X11_richest_l9 nn) u a0 y2 y3 else none) else none
theorem L_X11_richest_l9 {p : Program} {l : Launch} {e : Env} {s : State} {m : MethodId} {args : Array Value} {below : List Frame} {meth : Method} {cd : Code} {G : xG} {w0 : xW} {rr : (Int32 × xT)} (hE : xE p s m args meth cd cX11_richest RX11 G 4 (Option.some Jvm.ClassFile.FieldType.int)) : ∀ (nn : Nat) {u : xT} {a0 : Nat} {y2 : Int32} {y3 : Int32} {H : Heap} {locs : List Loc} {ls : Array Slot} , tD G (xA w0 s.heap.size) s.heap u H locs → lv_has ls 4 [(0, .ref a0), (2, .int y2), (3, .int y3)] → F_X11_richest_l9 nn u a0 y2 y3 = some rr → W p l e (xR 8 0 0) s m args below meth cd H locs 0 0 (xQi G w0 (fun r z => r = rr.1 ∧ z = ((tE G rr.2), rr.2.1)) below args s 0 0) (F0 m 9 ls []) := by
  have hx := hE.1; have hb := hE.2.1
  intro nn
  induction nn with
  | zero => intro u a0 y2 y3 H locs ls hD hl hF; rw [F_X11_richest_l9] at hF; cases hF
  | succ nn ih =>
    intro u a0 y2 y3 H locs ls hD hl hF
    rw [F_X11_richest_l9] at hF
    refine lv_iload_n hx hb dX11_richest_9 rfl (lv_at hl 2 rfl) ?_
    refine lv_iload_n hx hb dX11_richest_10 rfl (lv_at hl 1 rfl) ?_
    refine lv_icmp_gt (tgt := 48) hx hb dX11_richest_11 (by decide) (fun c7 => ?_) (fun c7 => ?_)
    · have hF := ite_p hF c7
      exact B_X11_richest_j48 hE hD (lv_sub hl [0, 1] rfl) hF
    · have hF := ite_n hF c7
      refine lv_iload_n hx hb dX11_richest_14 rfl (lv_at hl 2 rfl) ?_
      refine lv_aload_n hx hb dX11_richest_15 rfl (lv_at hl 0 rfl) ?_
      obtain ⟨h8, hF⟩ := ite_s hF
      obtain ⟨q9, h10, hF⟩ := xb_s hF
      refine gr_X11_56 hE hD h8 h10 dX11_richest_16 ?_
      obtain ⟨h11, hF⟩ := ite_s hF
      refine t_alen hE hD h11 dX11_richest_19 ?_
      refine lv_icmp_ge (tgt := 48) hx hb dX11_richest_20 (by decide) (fun c12 => ?_) (fun c12 => ?_)
      · have hF := ite_p hF c12
        exact B_X11_richest_j48 hE hD (lv_sub hl [0, 1] rfl) hF
      · have hF := ite_n hF c12
        refine lv_iload_n hx hb dX11_richest_23 rfl (lv_at hl 2 rfl) ?_
        refine lv_iload_n hx hb dX11_richest_24 rfl (lv_at hl 1 rfl) ?_
        refine lv_iconst (v := (-1 : Int32)) hx hb dX11_richest_25 (by decide) ?_
        refine lv_ixor hx hb dX11_richest_26 ?_
        refine lv_iand hx hb dX11_richest_27 ?_
        refine lv_if_ne (tgt := 42) hx hb dX11_richest_28 (by decide) (fun c13 => ?_) (fun c13 => ?_)
        · have hF := ite_n hF c13
          exact B_X11_richest_j42 hE (F_X11_richest_l9 nn) ih hD (lv_sub hl [0, 1, 2] rfl) hF
        · have hF := ite_p hF c13
          refine lv_aload_n hx hb dX11_richest_31 rfl (lv_at hl 0 rfl) ?_
          obtain ⟨q14, h15, hF⟩ := xb_s hF
          refine gr_X11_56 hE hD h8 h15 dX11_richest_32 ?_
          refine lv_iload_n hx hb dX11_richest_35 rfl (lv_at hl 2 rfl) ?_
          refine lv_aload_n hx hb dX11_richest_36 rfl (lv_at hl 0 rfl) ?_
          refine lv_iload_n hx hb dX11_richest_37 rfl (lv_at hl 2 rfl) ?_
          obtain ⟨r16, k17, hF⟩ := xb_s hF
          refine kVi (As := [.int y3]) (rest := [.int y3, .ref q14]) hE hl hD (c_X11_bestByLast k17) kl_X11_344 (tE_11 h8) rfl rfl rfl rfl (Nat.le_of_ble_eq_true rfl) dX11_richest_38 ⟨Nat.le_of_ble_eq_true rfl, Nat.le_of_ble_eq_true rfl⟩ ⟨Nat.le_of_ble_eq_true rfl, Nat.le_of_ble_eq_true rfl⟩ (fun H locs (hD : tD G _ _ u H locs) => ?_)
          obtain ⟨h18, hF⟩ := ite_s hF
          obtain ⟨h19, hF⟩ := ite_s hF
          refine t_iast hE hD h18 h19 dX11_richest_41 (fun t20 H locs et20 hD => ?_)
          have hF := xlet_e hF et20
          have h21 : tK t20 a0 = 11 := by rw [et20]; exact h8
          have h22 : tK t20 q9 = 20 := by rw [et20]; exact h11
          have h23 : tK t20 q14 = 20 := by rw [et20]; exact h18
          exact B_X11_richest_j42 hE (F_X11_richest_l9 nn) ih hD (lv_sub hl [0, 1, 2] rfl) hF
def F_X11_richest (u : xT) (a0 : Nat) (xa : Int32) (xb : Int32) : Option (Int32 × xT) := if tK u a0 = 11 then (tP u a0 11).bind (fun q25 => if tK u q25 = 20 then if xIn (0 : Int32) (tN u q25) then xlet (tSI u q25 (0 : Int32).toNatClampNeg xa) (fun t29 => F_X11_richest_l9 xFuel t29 a0 xb (1 : Int32)) else none else none) else none
theorem c_X11_richest {l : Launch} {G : xG} {rr : (Int32 × xT)} {u : xT} {a0 : Nat} {xa : Int32} {xb : Int32} (hF : F_X11_richest u a0 xa xb = some rr) : xMi l G yX11_richest cX11_richest 4 (Option.some Jvm.ClassFile.FieldType.int) 8 0 0 [.ref a0, .int xa, .int xb] (tE G u) u.1 (fun r z => r = rr.1 ∧ z = ((tE G rr.2), rr.2.1)) := by
  unfold F_X11_richest at hF
  refine x_startI rfl (Nat.le_of_ble_eq_true rfl) (fun p e s m args below meth cd ls hE hnm hl hD => ?_)
  have hx := hE.1; have hb := hE.2.1
  have hl : lv_has ls 4 [(0, .ref a0), (1, .int xa), (2, .int xb)] := hl
  have hD : tD G (xA (tE G u) s.heap.size) s.heap u s.heap [] := hD
  refine lv_aload_n hx hb dX11_richest_0 rfl (lv_at hl 0 rfl) ?_
  obtain ⟨h24, hF⟩ := ite_s hF
  obtain ⟨q25, h26, hF⟩ := xb_s hF
  refine gr_X11_56 hE hD h24 h26 dX11_richest_1 ?_
  refine lv_iconst (v := (0 : Int32)) hx hb dX11_richest_4 (by decide) ?_
  refine lv_iload_n hx hb dX11_richest_5 rfl (lv_at hl 1 rfl) ?_
  obtain ⟨h27, hF⟩ := ite_s hF
  obtain ⟨h28, hF⟩ := ite_s hF
  refine t_iast hE hD h27 h28 dX11_richest_6 (fun t29 H locs et29 hD => ?_)
  have hF := xlet_e hF et29
  have h30 : tK t29 a0 = 11 := by rw [et29]; exact h24
  have h31 : tK t29 q25 = 20 := by rw [et29]; exact h27
  refine lv_iconst (v := (1 : Int32)) hx hb dX11_richest_7 (by decide) ?_
  refine lv_istore_n (lv' := [(3, .int (1 : Int32)), (0, .ref a0), (1, .int xa), (2, .int xb)]) hx hb dX11_richest_8 rfl hl (by decide) rfl (fun ls hl => ?_)
  exact L_X11_richest_l9 hE _ hD (lv_sub hl [1, 3, 0] rfl) hF
def F_X11_rich_j37 (u : xT) (a0 : Nat) (s0 : Int32) : Option (Int32 × xT) := some (s0, u)
theorem B_X11_rich_j37 {p : Program} {l : Launch} {e : Env} {s : State} {m : MethodId} {args : Array Value} {below : List Frame} {meth : Method} {cd : Code} {G : xG} {w0 : xW} {rr : (Int32 × xT)} (hE : xE p s m args meth cd cX11_rich RX11 G 4 (Option.some Jvm.ClassFile.FieldType.int)) {u : xT} {a0 : Nat} {s0 : Int32} {H : Heap} {locs : List Loc} {ls : Array Slot} (hD : tD G (xA w0 s.heap.size) s.heap u H locs) (hl : lv_has ls 4 [(0, .ref a0)]) (hF : F_X11_rich_j37 u a0 s0 = some rr) : W p l e (xR 9 0 0) s m args below meth cd H locs 0 0 (xQi G w0 (fun r z => r = rr.1 ∧ z = ((tE G rr.2), rr.2.1)) below args s 0 0) (F0 m 37 ls [.int s0]) := by
  have hx := hE.1; have hb := hE.2.1
  unfold F_X11_rich_j37 at hF
  obtain rfl := Option.some.inj hF
  exact x_iret hE hD ⟨rfl, rfl⟩ (by omega) (by omega) dX11_rich_37
def F_X11_rich_j18 (u : xT) (a0 : Nat) : Option (Int32 × xT) := some ((-1 : Int32), u)
theorem B_X11_rich_j18 {p : Program} {l : Launch} {e : Env} {s : State} {m : MethodId} {args : Array Value} {below : List Frame} {meth : Method} {cd : Code} {G : xG} {w0 : xW} {rr : (Int32 × xT)} (hE : xE p s m args meth cd cX11_rich RX11 G 4 (Option.some Jvm.ClassFile.FieldType.int)) {u : xT} {a0 : Nat} {H : Heap} {locs : List Loc} {ls : Array Slot} (hD : tD G (xA w0 s.heap.size) s.heap u H locs) (hl : lv_has ls 4 [(0, .ref a0)]) (hF : F_X11_rich_j18 u a0 = some rr) : W p l e (xR 9 0 0) s m args below meth cd H locs 0 0 (xQi G w0 (fun r z => r = rr.1 ∧ z = ((tE G rr.2), rr.2.1)) below args s 0 0) (F0 m 18 ls []) := by
  have hx := hE.1; have hb := hE.2.1
  unfold F_X11_rich_j18 at hF
  refine lv_iconst (v := (-1 : Int32)) hx hb dX11_rich_18 (by decide) ?_
  obtain rfl := Option.some.inj hF
  exact x_iret hE hD ⟨rfl, rfl⟩ (by omega) (by omega) dX11_rich_19
def F_X11_rich (u : xT) (a0 : Nat) (xa : Int32) (xb : Int32) : Option (Int32 × xT) := (F_X11_isPurse xa).bind (fun r1 => if r1 = 0 then F_X11_rich_j18 u a0 else if tK u a0 = 11 then (tP u a0 0).bind (fun q6 => if tK u q6 = 7 then (F_X7_isSet u q6 xb).bind (fun r9 => if r9 = 0 then F_X11_rich_j18 u a0 else (F_X11_richest u a0 xa xb).bind (fun r13 => if 0 ≤ r13.1 then F_X11_rich_j37 r13.2 a0 r13.1 else F_X11_rich_j37 r13.2 a0 (-3 : Int32))) else none) else none)
theorem c_X11_rich {l : Launch} {G : xG} {rr : (Int32 × xT)} {u : xT} {a0 : Nat} {xa : Int32} {xb : Int32} (hF : F_X11_rich u a0 xa xb = some rr) : xMi l G yX11_rich cX11_rich 4 (Option.some Jvm.ClassFile.FieldType.int) 9 0 0 [.ref a0, .int xa, .int xb] (tE G u) u.1 (fun r z => r = rr.1 ∧ z = ((tE G rr.2), rr.2.1)) := by
  unfold F_X11_rich at hF
  refine x_startI rfl (Nat.le_of_ble_eq_true rfl) (fun p e s m args below meth cd ls hE hnm hl hD => ?_)
  have hx := hE.1; have hb := hE.2.1
  have hl : lv_has ls 4 [(0, .ref a0), (1, .int xa), (2, .int xb)] := hl
  have hD : tD G (xA (tE G u) s.heap.size) s.heap u s.heap [] := hD
  refine lv_iload_n hx hb dX11_rich_0 rfl (lv_at hl 1 rfl) ?_
  obtain ⟨r1, k2, hF⟩ := xb_s hF
  refine kSz (As := [.int xa]) (rest := []) hE hl hD (c_X11_isPurse k2) kl_X11_154 rfl rfl (Nat.le_of_ble_eq_true rfl) dX11_rich_1 ⟨Nat.le_of_ble_eq_true rfl, Nat.le_of_ble_eq_true rfl⟩ ⟨Nat.le_of_ble_eq_true rfl, Nat.le_of_ble_eq_true rfl⟩ (fun H locs z3 (hD : tD G _ _ u H locs) => ?_)
  refine lv_if_eq (tgt := 18) hx hb dX11_rich_4 (by decide) (fun c4 => ?_) (fun c4 => ?_)
  · have hF := ite_p hF c4
    exact B_X11_rich_j18 hE hD (lv_sub hl [0] rfl) hF
  · have hF := ite_n hF c4
    refine lv_aload_n hx hb dX11_rich_7 rfl (lv_at hl 0 rfl) ?_
    obtain ⟨h5, hF⟩ := ite_s hF
    obtain ⟨q6, h7, hF⟩ := xb_s hF
    refine gr_X11_10 hE hD h5 h7 dX11_rich_8 ?_
    refine lv_iload_n hx hb dX11_rich_11 rfl (lv_at hl 2 rfl) ?_
    obtain ⟨h8, hF⟩ := ite_s hF
    obtain ⟨r9, k10, hF⟩ := xb_s hF
    refine kVz (As := [.int xb]) (rest := []) hE hl hD (c_X7_isSet k10) kl_X11_195 (tE_7 h8) rfl rfl rfl rfl (Nat.le_of_ble_eq_true rfl) dX11_rich_12 ⟨Nat.le_of_ble_eq_true rfl, Nat.le_of_ble_eq_true rfl⟩ ⟨Nat.le_of_ble_eq_true rfl, Nat.le_of_ble_eq_true rfl⟩ (fun H locs z11 (hD : tD G _ _ u H locs) => ?_)
    refine lv_if_ne (tgt := 20) hx hb dX11_rich_15 (by decide) (fun c12 => ?_) (fun c12 => ?_)
    · have hF := ite_n hF c12
      refine lv_aload_n hx hb dX11_rich_20 rfl (lv_at hl 0 rfl) ?_
      refine lv_iload_n hx hb dX11_rich_21 rfl (lv_at hl 1 rfl) ?_
      refine lv_iload_n hx hb dX11_rich_22 rfl (lv_at hl 2 rfl) ?_
      obtain ⟨r13, k14, hF⟩ := xb_s hF
      refine kVi (As := [.int xa, .int xb]) (rest := []) hE hl hD (c_X11_richest k14) kl_X11_198 (tE_11 h5) rfl rfl rfl rfl (Nat.le_of_ble_eq_true rfl) dX11_rich_23 ⟨Nat.le_of_ble_eq_true rfl, Nat.le_of_ble_eq_true rfl⟩ ⟨Nat.le_of_ble_eq_true rfl, Nat.le_of_ble_eq_true rfl⟩ (fun H locs (hD : tD G _ _ r13.2 H locs) => ?_)
      refine lv_istore_n (lv' := [(3, .int r13.1), (0, .ref a0), (1, .int xa), (2, .int xb)]) hx hb dX11_rich_26 rfl hl (by decide) rfl (fun ls hl => ?_)
      refine lv_iload_n hx hb dX11_rich_27 rfl (lv_at hl 0 rfl) ?_
      refine lv_if_ge (tgt := 36) hx hb dX11_rich_28 (by decide) (fun c15 => ?_) (fun c15 => ?_)
      · have hF := ite_p hF c15
        refine lv_iload_n hx hb dX11_rich_36 rfl (lv_at hl 0 rfl) ?_
        exact B_X11_rich_j37 hE hD (lv_sub hl [1] rfl) hF
      · have hF := ite_n hF c15
        refine lv_bipush (v := (-3 : Int32)) hx hb dX11_rich_31 (by decide) ?_
        refine lv_goto (tgt := 37) hx hb dX11_rich_33 (by decide) ?_
        exact B_X11_rich_j37 hE hD (lv_sub hl [1] rfl) hF
    · have hF := ite_p hF c12
      exact B_X11_rich_j18 hE hD (lv_sub hl [0] rfl) hF
def F_J6_bitCount_0f7a4 (xa : Int32) : Option Int32 := xlet (xa - (((xa.toUInt32 >>> ((1 : Int32).toUInt32 &&& Int32.toUInt32 31)).toInt32) &&& (1431655765 : Int32))) (fun x1 => xlet ((x1 &&& (858993459 : Int32)) + (((x1.toUInt32 >>> ((2 : Int32).toUInt32 &&& Int32.toUInt32 31)).toInt32) &&& (858993459 : Int32))) (fun x2 => xlet ((x2 + ((x2.toUInt32 >>> ((4 : Int32).toUInt32 &&& Int32.toUInt32 31)).toInt32)) &&& (252645135 : Int32)) (fun x3 => xlet (x3 + ((x3.toUInt32 >>> ((8 : Int32).toUInt32 &&& Int32.toUInt32 31)).toInt32)) (fun x4 => xlet (x4 + ((x4.toUInt32 >>> ((16 : Int32).toUInt32 &&& Int32.toUInt32 31)).toInt32)) (fun x5 => some (x5 &&& (63 : Int32)))))))
theorem c_J6_bitCount_0f7a4 {l : Launch} {G : xG} {w : xW} {sz : Nat} {rr : Int32} {xa : Int32} (hF : F_J6_bitCount_0f7a4 xa = some rr) : xMi l G yJ6_bitCount_0f7a4 cJ6_bitCount_0f7a4 1 (Option.some Jvm.ClassFile.FieldType.int) 2 0 0 [.int xa] w sz (fun r z => r = rr ∧ z = (w, sz)) := by
  unfold F_J6_bitCount_0f7a4 at hF
  refine x_startI rfl (Nat.le_of_ble_eq_true rfl) (fun p e s m args below meth cd ls hE hnm hl hD => ?_)
  have hx := hE.1; have hb := hE.2.1
  have hl : lv_has ls 1 [(0, .int xa)] := hl
  refine lv_iload_n hx hb dJ6_bitCount_0f7a4_0 rfl (lv_at hl 0 rfl) ?_
  refine lv_iload_n hx hb dJ6_bitCount_0f7a4_1 rfl (lv_at hl 0 rfl) ?_
  refine lv_iconst (v := (1 : Int32)) hx hb dJ6_bitCount_0f7a4_2 (by decide) ?_
  refine lv_iushr (v := (xa.toUInt32 >>> ((1 : Int32).toUInt32 &&& Int32.toUInt32 31)).toInt32) hx hb dJ6_bitCount_0f7a4_3 rfl ?_
  refine lv_ldcw (v := (1431655765 : Int32)) hx hb hE.2.2.1 (hE.2.2.2.1 _ kw4_47) dJ6_bitCount_0f7a4_4 ?_
  refine lv_iand hx hb dJ6_bitCount_0f7a4_7 ?_
  refine lv_isub hx hb dJ6_bitCount_0f7a4_8 ?_
  refine lv_topi (fun x1 ex1 => ?_)
  have hF := xlet_e hF ex1
  refine lv_istore_n (lv' := [(0, .int x1)]) hx hb dJ6_bitCount_0f7a4_9 rfl hl (by decide) rfl (fun ls hl => ?_)
  refine lv_iload_n hx hb dJ6_bitCount_0f7a4_10 rfl (lv_at hl 0 rfl) ?_
  refine lv_ldcw (v := (858993459 : Int32)) hx hb hE.2.2.1 (hE.2.2.2.1 _ kw4_48) dJ6_bitCount_0f7a4_11 ?_
  refine lv_iand hx hb dJ6_bitCount_0f7a4_14 ?_
  refine lv_iload_n hx hb dJ6_bitCount_0f7a4_15 rfl (lv_at hl 0 rfl) ?_
  refine lv_iconst (v := (2 : Int32)) hx hb dJ6_bitCount_0f7a4_16 (by decide) ?_
  refine lv_iushr (v := (x1.toUInt32 >>> ((2 : Int32).toUInt32 &&& Int32.toUInt32 31)).toInt32) hx hb dJ6_bitCount_0f7a4_17 rfl ?_
  refine lv_ldcw (v := (858993459 : Int32)) hx hb hE.2.2.1 (hE.2.2.2.1 _ kw4_48) dJ6_bitCount_0f7a4_18 ?_
  refine lv_iand hx hb dJ6_bitCount_0f7a4_21 ?_
  refine lv_iadd hx hb dJ6_bitCount_0f7a4_22 ?_
  refine lv_topi (fun x2 ex2 => ?_)
  have hF := xlet_e hF ex2
  refine lv_istore_n (lv' := [(0, .int x2)]) hx hb dJ6_bitCount_0f7a4_23 rfl hl (by decide) rfl (fun ls hl => ?_)
  refine lv_iload_n hx hb dJ6_bitCount_0f7a4_24 rfl (lv_at hl 0 rfl) ?_
  refine lv_iload_n hx hb dJ6_bitCount_0f7a4_25 rfl (lv_at hl 0 rfl) ?_
  refine lv_iconst (v := (4 : Int32)) hx hb dJ6_bitCount_0f7a4_26 (by decide) ?_
  refine lv_iushr (v := (x2.toUInt32 >>> ((4 : Int32).toUInt32 &&& Int32.toUInt32 31)).toInt32) hx hb dJ6_bitCount_0f7a4_27 rfl ?_
  refine lv_iadd hx hb dJ6_bitCount_0f7a4_28 ?_
  refine lv_ldcw (v := (252645135 : Int32)) hx hb hE.2.2.1 (hE.2.2.2.1 _ kw4_49) dJ6_bitCount_0f7a4_29 ?_
  refine lv_iand hx hb dJ6_bitCount_0f7a4_32 ?_
  refine lv_topi (fun x3 ex3 => ?_)
  have hF := xlet_e hF ex3
  refine lv_istore_n (lv' := [(0, .int x3)]) hx hb dJ6_bitCount_0f7a4_33 rfl hl (by decide) rfl (fun ls hl => ?_)
  refine lv_iload_n hx hb dJ6_bitCount_0f7a4_34 rfl (lv_at hl 0 rfl) ?_
  refine lv_iload_n hx hb dJ6_bitCount_0f7a4_35 rfl (lv_at hl 0 rfl) ?_
  refine lv_bipush (v := (8 : Int32)) hx hb dJ6_bitCount_0f7a4_36 (by decide) ?_
  refine lv_iushr (v := (x3.toUInt32 >>> ((8 : Int32).toUInt32 &&& Int32.toUInt32 31)).toInt32) hx hb dJ6_bitCount_0f7a4_38 rfl ?_
  refine lv_iadd hx hb dJ6_bitCount_0f7a4_39 ?_
  refine lv_topi (fun x4 ex4 => ?_)
  have hF := xlet_e hF ex4
  refine lv_istore_n (lv' := [(0, .int x4)]) hx hb dJ6_bitCount_0f7a4_40 rfl hl (by decide) rfl (fun ls hl => ?_)
  refine lv_iload_n hx hb dJ6_bitCount_0f7a4_41 rfl (lv_at hl 0 rfl) ?_
  refine lv_iload_n hx hb dJ6_bitCount_0f7a4_42 rfl (lv_at hl 0 rfl) ?_
  refine lv_bipush (v := (16 : Int32)) hx hb dJ6_bitCount_0f7a4_43 (by decide) ?_
  refine lv_iushr (v := (x4.toUInt32 >>> ((16 : Int32).toUInt32 &&& Int32.toUInt32 31)).toInt32) hx hb dJ6_bitCount_0f7a4_45 rfl ?_
  refine lv_iadd hx hb dJ6_bitCount_0f7a4_46 ?_
  refine lv_topi (fun x5 ex5 => ?_)
  have hF := xlet_e hF ex5
  refine lv_istore_n (lv' := [(0, .int x5)]) hx hb dJ6_bitCount_0f7a4_47 rfl hl (by decide) rfl (fun ls hl => ?_)
  refine lv_iload_n hx hb dJ6_bitCount_0f7a4_48 rfl (lv_at hl 0 rfl) ?_
  refine lv_bipush (v := (63 : Int32)) hx hb dJ6_bitCount_0f7a4_49 (by decide) ?_
  refine lv_iand hx hb dJ6_bitCount_0f7a4_51 ?_
  obtain rfl := Option.some.inj hF
  exact x_iret hE hD ⟨rfl, rfl⟩ (by omega) (by omega) dJ6_bitCount_0f7a4_52
def F_X11_suffices_j14 (s0 : Int32) : Option Int32 := if s0 = 0 ∨ s0 = 1 then some s0 else none
theorem B_X11_suffices_j14 {p : Program} {l : Launch} {e : Env} {s : State} {m : MethodId} {args : Array Value} {below : List Frame} {meth : Method} {cd : Code} {G : xG} {w0 : xW} {w : xW} {sz : Nat} {rr : Int32} (hE : xE p s m args meth cd cX11_suffices RX11 G 2 (Option.some Jvm.ClassFile.FieldType.boolean)) {s0 : Int32} {H : Heap} {locs : List Loc} {ls : Array Slot} (hD : xD G (xA w0 s.heap.size) s.heap w sz H locs) (hl : lv_has ls 2 []) (hF : F_X11_suffices_j14 s0 = some rr) : W p l e (xR 2 0 0) s m args below meth cd H locs 0 0 (xQi G w0 (fun r z => r = rr ∧ (rr = 0 ∨ rr = 1) ∧ z = (w, sz)) below args s 0 0) (F0 m 14 ls [.int s0]) := by
  have hx := hE.1; have hb := hE.2.1
  unfold F_X11_suffices_j14 at hF
  obtain ⟨h1, hF⟩ := ite_s hF
  obtain rfl := Option.some.inj hF
  exact x_zret hE hD h1 ⟨rfl, h1, rfl⟩ (by omega) (by omega) dX11_suffices_14
def F_X11_suffices_j13  : Option Int32 := F_X11_suffices_j14 (0 : Int32)
theorem B_X11_suffices_j13 {p : Program} {l : Launch} {e : Env} {s : State} {m : MethodId} {args : Array Value} {below : List Frame} {meth : Method} {cd : Code} {G : xG} {w0 : xW} {w : xW} {sz : Nat} {rr : Int32} (hE : xE p s m args meth cd cX11_suffices RX11 G 2 (Option.some Jvm.ClassFile.FieldType.boolean))  {H : Heap} {locs : List Loc} {ls : Array Slot} (hD : xD G (xA w0 s.heap.size) s.heap w sz H locs) (hl : lv_has ls 2 []) (hF : F_X11_suffices_j13  = some rr) : W p l e (xR 2 0 0) s m args below meth cd H locs 0 0 (xQi G w0 (fun r z => r = rr ∧ (rr = 0 ∨ rr = 1) ∧ z = (w, sz)) below args s 0 0) (F0 m 13 ls []) := by
  have hx := hE.1; have hb := hE.2.1
  unfold F_X11_suffices_j13 at hF
  refine lv_iconst (v := (0 : Int32)) hx hb dX11_suffices_13 (by decide) ?_
  exact B_X11_suffices_j14 hE hD (lv_sub hl [] rfl) hF
def F_X11_suffices (xa : Int32) (xb : Int32) : Option Int32 := if xb < 0 then F_X11_suffices_j13 else if xa < xb then F_X11_suffices_j13 else F_X11_suffices_j14 (1 : Int32)
theorem c_X11_suffices {l : Launch} {G : xG} {w : xW} {sz : Nat} {rr : Int32} {xa : Int32} {xb : Int32} (hF : F_X11_suffices xa xb = some rr) : xMi l G yX11_suffices cX11_suffices 2 (Option.some Jvm.ClassFile.FieldType.boolean) 2 0 0 [.int xa, .int xb] w sz (fun r z => r = rr ∧ (rr = 0 ∨ rr = 1) ∧ z = (w, sz)) := by
  unfold F_X11_suffices at hF
  refine x_startI rfl (Nat.le_of_ble_eq_true rfl) (fun p e s m args below meth cd ls hE hnm hl hD => ?_)
  have hx := hE.1; have hb := hE.2.1
  have hl : lv_has ls 2 [(0, .int xa), (1, .int xb)] := hl
  refine lv_iload_n hx hb dX11_suffices_0 rfl (lv_at hl 1 rfl) ?_
  refine lv_if_lt (tgt := 13) hx hb dX11_suffices_1 (by decide) (fun c2 => ?_) (fun c2 => ?_)
  · have hF := ite_p hF c2
    exact B_X11_suffices_j13 hE hD (lv_sub hl [] rfl) hF
  · have hF := ite_n hF c2
    refine lv_iload_n hx hb dX11_suffices_4 rfl (lv_at hl 0 rfl) ?_
    refine lv_iload_n hx hb dX11_suffices_5 rfl (lv_at hl 1 rfl) ?_
    refine lv_icmp_lt (tgt := 13) hx hb dX11_suffices_6 (by decide) (fun c3 => ?_) (fun c3 => ?_)
    · have hF := ite_p hF c3
      exact B_X11_suffices_j13 hE hD (lv_sub hl [] rfl) hF
    · have hF := ite_n hF c3
      refine lv_iconst (v := (1 : Int32)) hx hb dX11_suffices_9 (by decide) ?_
      refine lv_goto (tgt := 14) hx hb dX11_suffices_10 (by decide) ?_
      exact B_X11_suffices_j14 hE hD (lv_sub hl [] rfl) hF
def F_X11_firstInOrder_j44 (kc2 : xT → Nat → Int32 → Int32 → Int32 → Option Int32) (u : xT) (a0 : Nat) (y1 : Int32) (y2 : Int32) (y3 : Int32) : Option Int32 := xlet (y3 + (1 : Int32)) (fun x1 => kc2 u a0 y1 y2 x1)
theorem B_X11_firstInOrder_j44 {p : Program} {l : Launch} {e : Env} {s : State} {m : MethodId} {args : Array Value} {below : List Frame} {meth : Method} {cd : Code} {G : xG} {w0 : xW} {rr : Int32} (hE : xE p s m args meth cd cX11_firstInOrder RX11 G 4 (Option.some Jvm.ClassFile.FieldType.int)) {u : xT} (kc2 : xT → Nat → Int32 → Int32 → Int32 → Option Int32) (hc2 : ∀ {a0 : Nat} {y1 : Int32} {y2 : Int32} {y3 : Int32} {H : Heap} {locs : List Loc} {ls : Array Slot} , tD G (xA w0 s.heap.size) s.heap u H locs → lv_has ls 4 [(0, .ref a0), (1, .int y1), (2, .int y2), (3, .int y3)] → kc2 u a0 y1 y2 y3 = some rr → W p l e (xR 7 0 0) s m args below meth cd H locs 0 0 (xQi G w0 (fun r z => r = rr ∧ z = ((tE G u), u.1)) below args s 0 0) (F0 m 2 ls [])) {a0 : Nat} {y1 : Int32} {y2 : Int32} {y3 : Int32} {H : Heap} {locs : List Loc} {ls : Array Slot} (hD : tD G (xA w0 s.heap.size) s.heap u H locs) (hl : lv_has ls 4 [(0, .ref a0), (1, .int y1), (2, .int y2), (3, .int y3)]) (hF : F_X11_firstInOrder_j44 kc2 u a0 y1 y2 y3 = some rr) : W p l e (xR 7 0 0) s m args below meth cd H locs 0 0 (xQi G w0 (fun r z => r = rr ∧ z = ((tE G u), u.1)) below args s 0 0) (F0 m 44 ls []) := by
  have hx := hE.1; have hb := hE.2.1
  unfold F_X11_firstInOrder_j44 at hF
  obtain ⟨x1, ex1⟩ : ∃ y : Int32, y = y3 + (1 : Int32) := ⟨_, rfl⟩
  have hF := xlet_e hF ex1
  refine lv_iinc (v := x1) (lv' := [(3, .int x1), (0, .ref a0), (1, .int y1), (2, .int y2)]) hx hb dX11_firstInOrder_44 hl (k := 3) rfl (by rw [ex1]; rfl) (by decide) rfl (fun ls hl => ?_)
  refine lv_goto (tgt := 2) hx hb dX11_firstInOrder_47 (by decide) ?_
  exact hc2 hD (lv_sub hl [1, 2, 3, 0] rfl) hF
def F_X11_firstInOrder_l2 : Nat → xT → Nat → Int32 → Int32 → Int32 → Option Int32
  | 0, _, _, _, _, _ => none
  | nn + 1, u, a0, y1, y2, y3 => if (9 : Int32) ≤ y3 then some (-1 : Int32) else if ((y2 >>> (y3 &&& 31)) &&& (1 : Int32)) = 0 then F_X11_firstInOrder_j44 (F_X11_firstInOrder_l2 nn) u a0 y1 y2 y3 else if tK u a0 = 11 then (F_X11_behindOf u a0 y3 y1).bind (fun r5 => (tP u a0 12).bind (fun q7 => (F_X11_entryOf u q7 (y2 &&& (((1 : Int32) <<< (y3 &&& 31)) ^^^ (-1 : Int32)))).bind (fun r9 => (F_X11_suffices r5 r9).bind (fun r11 => if r11 = 0 then F_X11_firstInOrder_j44 (F_X11_firstInOrder_l2 nn) u a0 y1 y2 y3 else some y3)))) else none
theorem L_X11_firstInOrder_l2 {p : Program} {l : Launch} {e : Env} {s : State} {m : MethodId} {args : Array Value} {below : List Frame} {meth : Method} {cd : Code} {G : xG} {w0 : xW} {rr : Int32} (hE : xE p s m args meth cd cX11_firstInOrder RX11 G 4 (Option.some Jvm.ClassFile.FieldType.int)) : ∀ (nn : Nat) {u : xT} {a0 : Nat} {y1 : Int32} {y2 : Int32} {y3 : Int32} {H : Heap} {locs : List Loc} {ls : Array Slot} , tD G (xA w0 s.heap.size) s.heap u H locs → lv_has ls 4 [(0, .ref a0), (1, .int y1), (2, .int y2), (3, .int y3)] → F_X11_firstInOrder_l2 nn u a0 y1 y2 y3 = some rr → W p l e (xR 7 0 0) s m args below meth cd H locs 0 0 (xQi G w0 (fun r z => r = rr ∧ z = ((tE G u), u.1)) below args s 0 0) (F0 m 2 ls []) := by
  have hx := hE.1; have hb := hE.2.1
  intro nn
  induction nn with
  | zero => intro u a0 y1 y2 y3 H locs ls hD hl hF; rw [F_X11_firstInOrder_l2] at hF; cases hF
  | succ nn ih =>
    intro u a0 y1 y2 y3 H locs ls hD hl hF
    rw [F_X11_firstInOrder_l2] at hF
    refine lv_iload_n hx hb dX11_firstInOrder_2 rfl (lv_at hl 3 rfl) ?_
    refine lv_bipush (v := (9 : Int32)) hx hb dX11_firstInOrder_3 (by decide) ?_
    refine lv_icmp_ge (tgt := 50) hx hb dX11_firstInOrder_5 (by decide) (fun c2 => ?_) (fun c2 => ?_)
    · have hF := ite_p hF c2
      refine lv_iconst (v := (-1 : Int32)) hx hb dX11_firstInOrder_50 (by decide) ?_
      obtain rfl := Option.some.inj hF
      exact x_iret hE hD ⟨rfl, rfl⟩ (by omega) (by omega) dX11_firstInOrder_51
    · have hF := ite_n hF c2
      refine lv_iload_n hx hb dX11_firstInOrder_8 rfl (lv_at hl 2 rfl) ?_
      refine lv_iload_n hx hb dX11_firstInOrder_9 rfl (lv_at hl 3 rfl) ?_
      refine lv_ishr hx hb dX11_firstInOrder_10 ?_
      refine lv_iconst (v := (1 : Int32)) hx hb dX11_firstInOrder_11 (by decide) ?_
      refine lv_iand hx hb dX11_firstInOrder_12 ?_
      refine lv_if_eq (tgt := 44) hx hb dX11_firstInOrder_13 (by decide) (fun c3 => ?_) (fun c3 => ?_)
      · have hF := ite_p hF c3
        exact B_X11_firstInOrder_j44 hE (F_X11_firstInOrder_l2 nn) ih hD (lv_sub hl [0, 1, 2, 3] rfl) hF
      · have hF := ite_n hF c3
        refine lv_aload_n hx hb dX11_firstInOrder_16 rfl (lv_at hl 0 rfl) ?_
        refine lv_iload_n hx hb dX11_firstInOrder_17 rfl (lv_at hl 3 rfl) ?_
        refine lv_iload_n hx hb dX11_firstInOrder_18 rfl (lv_at hl 1 rfl) ?_
        obtain ⟨h4, hF⟩ := ite_s hF
        obtain ⟨r5, k6, hF⟩ := xb_s hF
        refine kVi (As := [.int y3, .int y1]) (rest := []) hE hl hD (c_X11_behindOf k6) kl_X11_213 (tE_11 h4) rfl rfl rfl rfl (Nat.le_of_ble_eq_true rfl) dX11_firstInOrder_19 ⟨Nat.le_of_ble_eq_true rfl, Nat.le_of_ble_eq_true rfl⟩ ⟨Nat.le_of_ble_eq_true rfl, Nat.le_of_ble_eq_true rfl⟩ (fun H locs (hD : tD G _ _ u H locs) => ?_)
        refine lv_aload_n hx hb dX11_firstInOrder_22 rfl (lv_at hl 0 rfl) ?_
        obtain ⟨q7, h8, hF⟩ := xb_s hF
        refine gr_X11_59 hE hD h4 h8 dX11_firstInOrder_23 ?_
        refine lv_iload_n hx hb dX11_firstInOrder_26 rfl (lv_at hl 2 rfl) ?_
        refine lv_iconst (v := (1 : Int32)) hx hb dX11_firstInOrder_27 (by decide) ?_
        refine lv_iload_n hx hb dX11_firstInOrder_28 rfl (lv_at hl 3 rfl) ?_
        refine lv_ishl hx hb dX11_firstInOrder_29 ?_
        refine lv_iconst (v := (-1 : Int32)) hx hb dX11_firstInOrder_30 (by decide) ?_
        refine lv_ixor hx hb dX11_firstInOrder_31 ?_
        refine lv_iand hx hb dX11_firstInOrder_32 ?_
        obtain ⟨r9, k10, hF⟩ := xb_s hF
        refine kSi (As := [.ref q7, .int (y2 &&& (((1 : Int32) <<< (y3 &&& 31)) ^^^ (-1 : Int32)))]) (rest := [.int r5]) hE hl hD (c_X11_entryOf k10) kl_X11_347 rfl rfl (Nat.le_of_ble_eq_true rfl) dX11_firstInOrder_33 ⟨Nat.le_of_ble_eq_true rfl, Nat.le_of_ble_eq_true rfl⟩ ⟨Nat.le_of_ble_eq_true rfl, Nat.le_of_ble_eq_true rfl⟩ (fun H locs (hD : tD G _ _ u H locs) => ?_)
        obtain ⟨r11, k12, hF⟩ := xb_s hF
        refine kSz (As := [.int r5, .int r9]) (rest := []) hE hl hD (c_X11_suffices k12) kl_X11_363 rfl rfl (Nat.le_of_ble_eq_true rfl) dX11_firstInOrder_36 ⟨Nat.le_of_ble_eq_true rfl, Nat.le_of_ble_eq_true rfl⟩ ⟨Nat.le_of_ble_eq_true rfl, Nat.le_of_ble_eq_true rfl⟩ (fun H locs z13 (hD : tD G _ _ u H locs) => ?_)
        refine lv_if_eq (tgt := 44) hx hb dX11_firstInOrder_39 (by decide) (fun c14 => ?_) (fun c14 => ?_)
        · have hF := ite_p hF c14
          exact B_X11_firstInOrder_j44 hE (F_X11_firstInOrder_l2 nn) ih hD (lv_sub hl [0, 1, 2, 3] rfl) hF
        · have hF := ite_n hF c14
          refine lv_iload_n hx hb dX11_firstInOrder_42 rfl (lv_at hl 3 rfl) ?_
          obtain rfl := Option.some.inj hF
          exact x_iret hE hD ⟨rfl, rfl⟩ (by omega) (by omega) dX11_firstInOrder_43
def F_X11_firstInOrder (u : xT) (a0 : Nat) (xa : Int32) (xb : Int32) : Option Int32 := F_X11_firstInOrder_l2 xFuel u a0 xa xb (0 : Int32)
theorem c_X11_firstInOrder {l : Launch} {G : xG} {rr : Int32} {u : xT} {a0 : Nat} {xa : Int32} {xb : Int32} (hF : F_X11_firstInOrder u a0 xa xb = some rr) : xMi l G yX11_firstInOrder cX11_firstInOrder 4 (Option.some Jvm.ClassFile.FieldType.int) 7 0 0 [.ref a0, .int xa, .int xb] (tE G u) u.1 (fun r z => r = rr ∧ z = ((tE G u), u.1)) := by
  unfold F_X11_firstInOrder at hF
  refine x_startI rfl (Nat.le_of_ble_eq_true rfl) (fun p e s m args below meth cd ls hE hnm hl hD => ?_)
  have hx := hE.1; have hb := hE.2.1
  have hl : lv_has ls 4 [(0, .ref a0), (1, .int xa), (2, .int xb)] := hl
  have hD : tD G (xA (tE G u) s.heap.size) s.heap u s.heap [] := hD
  refine lv_iconst (v := (0 : Int32)) hx hb dX11_firstInOrder_0 (by decide) ?_
  refine lv_istore_n (lv' := [(3, .int (0 : Int32)), (0, .ref a0), (1, .int xa), (2, .int xb)]) hx hb dX11_firstInOrder_1 rfl hl (by decide) rfl (fun ls hl => ?_)
  exact L_X11_firstInOrder_l2 hE _ hD (lv_sub hl [1, 2, 3, 0] rfl) hF
def F_X11_leastAheadOf_j22 (u : xT) (a0 : Nat) (s0 : Int32) : Option Int32 := some s0
theorem B_X11_leastAheadOf_j22 {p : Program} {l : Launch} {e : Env} {s : State} {m : MethodId} {args : Array Value} {below : List Frame} {meth : Method} {cd : Code} {G : xG} {w0 : xW} {rr : Int32} (hE : xE p s m args meth cd cX11_leastAheadOf RX11 G 4 (Option.some Jvm.ClassFile.FieldType.int)) {u : xT} {a0 : Nat} {s0 : Int32} {H : Heap} {locs : List Loc} {ls : Array Slot} (hD : tD G (xA w0 s.heap.size) s.heap u H locs) (hl : lv_has ls 4 [(0, .ref a0)]) (hF : F_X11_leastAheadOf_j22 u a0 s0 = some rr) : W p l e (xR 6 0 0) s m args below meth cd H locs 0 0 (xQi G w0 (fun r z => r = rr ∧ z = ((tE G u), u.1)) below args s 0 0) (F0 m 22 ls [.int s0]) := by
  have hx := hE.1; have hb := hE.2.1
  unfold F_X11_leastAheadOf_j22 at hF
  obtain rfl := Option.some.inj hF
  exact x_iret hE hD ⟨rfl, rfl⟩ (by omega) (by omega) dX11_leastAheadOf_22
def F_X11_leastAheadOf (u : xT) (a0 : Nat) (xa : Int32) (xb : Int32) : Option Int32 := if tK u a0 = 11 then (tP u a0 0).bind (fun q2 => if tK u q2 = 7 then (F_X7_bridgeAt u q2 xa).bind (fun r5 => xopt (r5) (F_X11_leastAheadOf_j22 u a0 (-1 : Int32)) (fun q7 => if isBk (tK u q7) then (F_X0_leastAhead u q7 xb).bind (fun r10 => F_X11_leastAheadOf_j22 u a0 r10) else none)) else none) else none
theorem c_X11_leastAheadOf {l : Launch} {G : xG} {rr : Int32} {u : xT} {a0 : Nat} {xa : Int32} {xb : Int32} (hF : F_X11_leastAheadOf u a0 xa xb = some rr) : xMi l G yX11_leastAheadOf cX11_leastAheadOf 4 (Option.some Jvm.ClassFile.FieldType.int) 6 0 0 [.ref a0, .int xa, .int xb] (tE G u) u.1 (fun r z => r = rr ∧ z = ((tE G u), u.1)) := by
  unfold F_X11_leastAheadOf at hF
  refine x_startI rfl (Nat.le_of_ble_eq_true rfl) (fun p e s m args below meth cd ls hE hnm hl hD => ?_)
  have hx := hE.1; have hb := hE.2.1
  have hl : lv_has ls 4 [(0, .ref a0), (1, .int xa), (2, .int xb)] := hl
  have hD : tD G (xA (tE G u) s.heap.size) s.heap u s.heap [] := hD
  refine lv_aload_n hx hb dX11_leastAheadOf_0 rfl (lv_at hl 0 rfl) ?_
  obtain ⟨h1, hF⟩ := ite_s hF
  obtain ⟨q2, h3, hF⟩ := xb_s hF
  refine gr_X11_10 hE hD h1 h3 dX11_leastAheadOf_1 ?_
  refine lv_iload_n hx hb dX11_leastAheadOf_4 rfl (lv_at hl 1 rfl) ?_
  obtain ⟨h4, hF⟩ := ite_s hF
  obtain ⟨r5, k6, hF⟩ := xb_s hF
  refine kVq (As := [.int xa]) (rest := []) hE hl hD (c_X7_bridgeAt k6) kl_X11_82 (tE_7 h4) rfl rfl rfl rfl (Nat.le_of_ble_eq_true rfl) dX11_leastAheadOf_5 ⟨Nat.le_of_ble_eq_true rfl, Nat.le_of_ble_eq_true rfl⟩ ⟨Nat.le_of_ble_eq_true rfl, Nat.le_of_ble_eq_true rfl⟩ (fun H locs (hD : tD G _ _ u H locs) => ?_)
  refine t_split hF (fun h8 hF => ?_) (fun q7 h8 hF => ?_)
  · refine lv_astore_nN (lv' := [(3, .null), (0, .ref a0), (1, .int xa), (2, .int xb)]) hx hb dX11_leastAheadOf_8 rfl hl (by decide) rfl (fun ls hl => ?_)
    refine lv_aload_nN hx hb dX11_leastAheadOf_9 rfl (lv_at hl 0 rfl) ?_
    refine lv_ifnonnullN hx hb dX11_leastAheadOf_10 ?_
    refine lv_iconst (v := (-1 : Int32)) hx hb dX11_leastAheadOf_13 (by decide) ?_
    refine lv_goto (tgt := 22) hx hb dX11_leastAheadOf_14 (by decide) ?_
    exact B_X11_leastAheadOf_j22 hE hD (lv_sub hl [1] rfl) hF
  · refine lv_astore_n (lv' := [(3, .ref q7), (0, .ref a0), (1, .int xa), (2, .int xb)]) hx hb dX11_leastAheadOf_8 rfl hl (by decide) rfl (fun ls hl => ?_)
    refine lv_aload_n hx hb dX11_leastAheadOf_9 rfl (lv_at hl 0 rfl) ?_
    refine lv_ifnonnull (tgt := 17) hx hb dX11_leastAheadOf_10 (by decide) ?_
    refine lv_aload_n hx hb dX11_leastAheadOf_17 rfl (lv_at hl 0 rfl) ?_
    refine lv_iload_n hx hb dX11_leastAheadOf_18 rfl (lv_at hl 3 rfl) ?_
    obtain ⟨h9, hF⟩ := ite_s hF
    obtain ⟨r10, k11, hF⟩ := xb_s hF
    refine kB_X11_341 (rest := []) hE hl hD h9 k11 (Nat.le_of_ble_eq_true rfl) dX11_leastAheadOf_19 ⟨Nat.le_of_ble_eq_true rfl, Nat.le_of_ble_eq_true rfl⟩ ⟨Nat.le_of_ble_eq_true rfl, Nat.le_of_ble_eq_true rfl⟩ (fun H locs (hD : tD G _ _ u H locs) => ?_)
    exact B_X11_leastAheadOf_j22 hE hD (lv_sub hl [1] rfl) hF
def F_X11_lesser_j8 (y0 : Int32) (y1 : Int32) : Option Int32 := xlet (if y0 < y1 then y1 else y0) (fun x1 => some x1)
theorem B_X11_lesser_j8 {p : Program} {l : Launch} {e : Env} {s : State} {m : MethodId} {args : Array Value} {below : List Frame} {meth : Method} {cd : Code} {G : xG} {w0 : xW} {w : xW} {sz : Nat} {rr : Int32} (hE : xE p s m args meth cd cX11_lesser RX11 G 2 (Option.some Jvm.ClassFile.FieldType.int)) {y0 : Int32} {y1 : Int32} {H : Heap} {locs : List Loc} {ls : Array Slot} (hD : xD G (xA w0 s.heap.size) s.heap w sz H locs) (hl : lv_has ls 2 [(0, .int y0), (1, .int y1)]) (hF : F_X11_lesser_j8 y0 y1 = some rr) : W p l e (xR 3 0 0) s m args below meth cd H locs 0 0 (xQi G w0 (fun r z => r = rr ∧ z = (w, sz)) below args s 0 0) (F0 m 8 ls []) := by
  have hx := hE.1; have hb := hE.2.1
  unfold F_X11_lesser_j8 at hF
  refine lv_iload_n hx hb dX11_lesser_8 rfl (lv_at hl 0 rfl) ?_
  refine lv_iload_n hx hb dX11_lesser_9 rfl (lv_at hl 1 rfl) ?_
  refine x_mmaxI (rest := []) hE hl kw4_37 (Nat.le_of_ble_eq_true rfl) (Nat.le_of_ble_eq_true rfl) (Nat.le_of_ble_eq_true rfl) (Nat.le_of_ble_eq_true rfl) dX11_lesser_10 ?_
  refine lv_topi (fun x1 ex1 => ?_)
  have hF := xlet_e hF ex1
  obtain rfl := Option.some.inj hF
  exact x_iret hE hD ⟨rfl, rfl⟩ (by omega) (by omega) dX11_lesser_13
def F_X11_lesser (xa : Int32) (xb : Int32) : Option Int32 := if xa < 0 then F_X11_lesser_j8 xa xb else if 0 ≤ xb then xlet (if xb < xa then xb else xa) (fun x4 => some x4) else F_X11_lesser_j8 xa xb
theorem c_X11_lesser {l : Launch} {G : xG} {w : xW} {sz : Nat} {rr : Int32} {xa : Int32} {xb : Int32} (hF : F_X11_lesser xa xb = some rr) : xMi l G yX11_lesser cX11_lesser 2 (Option.some Jvm.ClassFile.FieldType.int) 3 0 0 [.int xa, .int xb] w sz (fun r z => r = rr ∧ z = (w, sz)) := by
  unfold F_X11_lesser at hF
  refine x_startI rfl (Nat.le_of_ble_eq_true rfl) (fun p e s m args below meth cd ls hE hnm hl hD => ?_)
  have hx := hE.1; have hb := hE.2.1
  have hl : lv_has ls 2 [(0, .int xa), (1, .int xb)] := hl
  refine lv_iload_n hx hb dX11_lesser_0 rfl (lv_at hl 0 rfl) ?_
  refine lv_if_lt (tgt := 8) hx hb dX11_lesser_1 (by decide) (fun c2 => ?_) (fun c2 => ?_)
  · have hF := ite_p hF c2
    exact B_X11_lesser_j8 hE hD (lv_sub hl [0, 1] rfl) hF
  · have hF := ite_n hF c2
    refine lv_iload_n hx hb dX11_lesser_4 rfl (lv_at hl 1 rfl) ?_
    refine lv_if_ge (tgt := 14) hx hb dX11_lesser_5 (by decide) (fun c3 => ?_) (fun c3 => ?_)
    · have hF := ite_p hF c3
      refine lv_iload_n hx hb dX11_lesser_14 rfl (lv_at hl 0 rfl) ?_
      refine lv_iload_n hx hb dX11_lesser_15 rfl (lv_at hl 1 rfl) ?_
      refine x_mminI (rest := []) hE hl kw4_65 (Nat.le_of_ble_eq_true rfl) (Nat.le_of_ble_eq_true rfl) (Nat.le_of_ble_eq_true rfl) (Nat.le_of_ble_eq_true rfl) dX11_lesser_16 ?_
      refine lv_topi (fun x4 ex4 => ?_)
      have hF := xlet_e hF ex4
      obtain rfl := Option.some.inj hF
      exact x_iret hE hD ⟨rfl, rfl⟩ (by omega) (by omega) dX11_lesser_19
    · have hF := ite_n hF c3
      exact B_X11_lesser_j8 hE hD (lv_sub hl [0, 1] rfl) hF
def F_X11_leastByFirst_j42 (kc4 : xT → Nat → Int32 → Int32 → Int32 → Option Int32) (u : xT) (a0 : Nat) (y1 : Int32) (y2 : Int32) (y3 : Int32) : Option Int32 := xlet (y3 + (1 : Int32)) (fun x1 => kc4 u a0 y1 y2 x1)
theorem B_X11_leastByFirst_j42 {p : Program} {l : Launch} {e : Env} {s : State} {m : MethodId} {args : Array Value} {below : List Frame} {meth : Method} {cd : Code} {G : xG} {w0 : xW} {rr : Int32} (hE : xE p s m args meth cd cX11_leastByFirst RX11 G 4 (Option.some Jvm.ClassFile.FieldType.int)) {u : xT} (kc4 : xT → Nat → Int32 → Int32 → Int32 → Option Int32) (hc4 : ∀ {a0 : Nat} {y1 : Int32} {y2 : Int32} {y3 : Int32} {H : Heap} {locs : List Loc} {ls : Array Slot} , tD G (xA w0 s.heap.size) s.heap u H locs → lv_has ls 4 [(0, .ref a0), (1, .int y1), (2, .int y2), (3, .int y3)] → kc4 u a0 y1 y2 y3 = some rr → W p l e (xR 7 0 0) s m args below meth cd H locs 0 0 (xQi G w0 (fun r z => r = rr ∧ z = ((tE G u), u.1)) below args s 0 0) (F0 m 4 ls [])) {a0 : Nat} {y1 : Int32} {y2 : Int32} {y3 : Int32} {H : Heap} {locs : List Loc} {ls : Array Slot} (hD : tD G (xA w0 s.heap.size) s.heap u H locs) (hl : lv_has ls 4 [(0, .ref a0), (1, .int y1), (2, .int y2), (3, .int y3)]) (hF : F_X11_leastByFirst_j42 kc4 u a0 y1 y2 y3 = some rr) : W p l e (xR 7 0 0) s m args below meth cd H locs 0 0 (xQi G w0 (fun r z => r = rr ∧ z = ((tE G u), u.1)) below args s 0 0) (F0 m 42 ls []) := by
  have hx := hE.1; have hb := hE.2.1
  unfold F_X11_leastByFirst_j42 at hF
  obtain ⟨x1, ex1⟩ : ∃ y : Int32, y = y3 + (1 : Int32) := ⟨_, rfl⟩
  have hF := xlet_e hF ex1
  refine lv_iinc (v := x1) (lv' := [(3, .int x1), (0, .ref a0), (1, .int y1), (2, .int y2)]) hx hb dX11_leastByFirst_42 hl (k := 3) rfl (by rw [ex1]; rfl) (by decide) rfl (fun ls hl => ?_)
  refine lv_goto (tgt := 4) hx hb dX11_leastByFirst_45 (by decide) ?_
  exact hc4 hD (lv_sub hl [1, 2, 3, 0] rfl) hF
def F_X11_leastByFirst_l4 : Nat → xT → Nat → Int32 → Int32 → Int32 → Option Int32
  | 0, _, _, _, _, _ => none
  | nn + 1, u, a0, y1, y2, y3 => if (9 : Int32) ≤ y3 then some y2 else if ((y1 >>> (y3 &&& 31)) &&& (1 : Int32)) = 0 then F_X11_leastByFirst_j42 (F_X11_leastByFirst_l4 nn) u a0 y1 y2 y3 else if tK u a0 = 11 then (tP u a0 12).bind (fun q5 => (F_X11_entryOf u q5 (y1 &&& (((1 : Int32) <<< (y3 &&& 31)) ^^^ (-1 : Int32)))).bind (fun r7 => (F_X11_leastAheadOf u a0 y3 r7).bind (fun r9 => (F_X11_lesser y2 r9).bind (fun r11 => F_X11_leastByFirst_j42 (F_X11_leastByFirst_l4 nn) u a0 y1 r11 y3)))) else none
theorem L_X11_leastByFirst_l4 {p : Program} {l : Launch} {e : Env} {s : State} {m : MethodId} {args : Array Value} {below : List Frame} {meth : Method} {cd : Code} {G : xG} {w0 : xW} {rr : Int32} (hE : xE p s m args meth cd cX11_leastByFirst RX11 G 4 (Option.some Jvm.ClassFile.FieldType.int)) : ∀ (nn : Nat) {u : xT} {a0 : Nat} {y1 : Int32} {y2 : Int32} {y3 : Int32} {H : Heap} {locs : List Loc} {ls : Array Slot} , tD G (xA w0 s.heap.size) s.heap u H locs → lv_has ls 4 [(0, .ref a0), (1, .int y1), (2, .int y2), (3, .int y3)] → F_X11_leastByFirst_l4 nn u a0 y1 y2 y3 = some rr → W p l e (xR 7 0 0) s m args below meth cd H locs 0 0 (xQi G w0 (fun r z => r = rr ∧ z = ((tE G u), u.1)) below args s 0 0) (F0 m 4 ls []) := by
  have hx := hE.1; have hb := hE.2.1
  intro nn
  induction nn with
  | zero => intro u a0 y1 y2 y3 H locs ls hD hl hF; rw [F_X11_leastByFirst_l4] at hF; cases hF
  | succ nn ih =>
    intro u a0 y1 y2 y3 H locs ls hD hl hF
    rw [F_X11_leastByFirst_l4] at hF
    refine lv_iload_n hx hb dX11_leastByFirst_4 rfl (lv_at hl 3 rfl) ?_
    refine lv_bipush (v := (9 : Int32)) hx hb dX11_leastByFirst_5 (by decide) ?_
    refine lv_icmp_ge (tgt := 48) hx hb dX11_leastByFirst_7 (by decide) (fun c2 => ?_) (fun c2 => ?_)
    · have hF := ite_p hF c2
      refine lv_iload_n hx hb dX11_leastByFirst_48 rfl (lv_at hl 2 rfl) ?_
      obtain rfl := Option.some.inj hF
      exact x_iret hE hD ⟨rfl, rfl⟩ (by omega) (by omega) dX11_leastByFirst_49
    · have hF := ite_n hF c2
      refine lv_iload_n hx hb dX11_leastByFirst_10 rfl (lv_at hl 1 rfl) ?_
      refine lv_iload_n hx hb dX11_leastByFirst_11 rfl (lv_at hl 3 rfl) ?_
      refine lv_ishr hx hb dX11_leastByFirst_12 ?_
      refine lv_iconst (v := (1 : Int32)) hx hb dX11_leastByFirst_13 (by decide) ?_
      refine lv_iand hx hb dX11_leastByFirst_14 ?_
      refine lv_if_eq (tgt := 42) hx hb dX11_leastByFirst_15 (by decide) (fun c3 => ?_) (fun c3 => ?_)
      · have hF := ite_p hF c3
        exact B_X11_leastByFirst_j42 hE (F_X11_leastByFirst_l4 nn) ih hD (lv_sub hl [0, 1, 2, 3] rfl) hF
      · have hF := ite_n hF c3
        refine lv_iload_n hx hb dX11_leastByFirst_18 rfl (lv_at hl 2 rfl) ?_
        refine lv_aload_n hx hb dX11_leastByFirst_19 rfl (lv_at hl 0 rfl) ?_
        refine lv_iload_n hx hb dX11_leastByFirst_20 rfl (lv_at hl 3 rfl) ?_
        refine lv_aload_n hx hb dX11_leastByFirst_21 rfl (lv_at hl 0 rfl) ?_
        obtain ⟨h4, hF⟩ := ite_s hF
        obtain ⟨q5, h6, hF⟩ := xb_s hF
        refine gr_X11_59 hE hD h4 h6 dX11_leastByFirst_22 ?_
        refine lv_iload_n hx hb dX11_leastByFirst_25 rfl (lv_at hl 1 rfl) ?_
        refine lv_iconst (v := (1 : Int32)) hx hb dX11_leastByFirst_26 (by decide) ?_
        refine lv_iload_n hx hb dX11_leastByFirst_27 rfl (lv_at hl 3 rfl) ?_
        refine lv_ishl hx hb dX11_leastByFirst_28 ?_
        refine lv_iconst (v := (-1 : Int32)) hx hb dX11_leastByFirst_29 (by decide) ?_
        refine lv_ixor hx hb dX11_leastByFirst_30 ?_
        refine lv_iand hx hb dX11_leastByFirst_31 ?_
        obtain ⟨r7, k8, hF⟩ := xb_s hF
        refine kSi (As := [.ref q5, .int (y1 &&& (((1 : Int32) <<< (y3 &&& 31)) ^^^ (-1 : Int32)))]) (rest := [.int y3, .ref a0, .int y2]) hE hl hD (c_X11_entryOf k8) kl_X11_347 rfl rfl (Nat.le_of_ble_eq_true rfl) dX11_leastByFirst_32 ⟨Nat.le_of_ble_eq_true rfl, Nat.le_of_ble_eq_true rfl⟩ ⟨Nat.le_of_ble_eq_true rfl, Nat.le_of_ble_eq_true rfl⟩ (fun H locs (hD : tD G _ _ u H locs) => ?_)
        obtain ⟨r9, k10, hF⟩ := xb_s hF
        refine kVi (As := [.int y3, .int r7]) (rest := [.int y2]) hE hl hD (c_X11_leastAheadOf k10) kl_X11_357 (tE_11 h4) rfl rfl rfl rfl (Nat.le_of_ble_eq_true rfl) dX11_leastByFirst_35 ⟨Nat.le_of_ble_eq_true rfl, Nat.le_of_ble_eq_true rfl⟩ ⟨Nat.le_of_ble_eq_true rfl, Nat.le_of_ble_eq_true rfl⟩ (fun H locs (hD : tD G _ _ u H locs) => ?_)
        obtain ⟨r11, k12, hF⟩ := xb_s hF
        refine kSi (As := [.int y2, .int r9]) (rest := []) hE hl hD (c_X11_lesser k12) kl_X11_360 rfl rfl (Nat.le_of_ble_eq_true rfl) dX11_leastByFirst_38 ⟨Nat.le_of_ble_eq_true rfl, Nat.le_of_ble_eq_true rfl⟩ ⟨Nat.le_of_ble_eq_true rfl, Nat.le_of_ble_eq_true rfl⟩ (fun H locs (hD : tD G _ _ u H locs) => ?_)
        refine lv_istore_n (lv' := [(2, .int r11), (0, .ref a0), (1, .int y1), (3, .int y3)]) hx hb dX11_leastByFirst_41 rfl hl (by decide) rfl (fun ls hl => ?_)
        exact B_X11_leastByFirst_j42 hE (F_X11_leastByFirst_l4 nn) ih hD (lv_sub hl [1, 2, 0, 3] rfl) hF
def F_X11_leastByFirst (u : xT) (a0 : Nat) (xa : Int32) : Option Int32 := F_X11_leastByFirst_l4 xFuel u a0 xa (-1 : Int32) (0 : Int32)
theorem c_X11_leastByFirst {l : Launch} {G : xG} {rr : Int32} {u : xT} {a0 : Nat} {xa : Int32} (hF : F_X11_leastByFirst u a0 xa = some rr) : xMi l G yX11_leastByFirst cX11_leastByFirst 4 (Option.some Jvm.ClassFile.FieldType.int) 7 0 0 [.ref a0, .int xa] (tE G u) u.1 (fun r z => r = rr ∧ z = ((tE G u), u.1)) := by
  unfold F_X11_leastByFirst at hF
  refine x_startI rfl (Nat.le_of_ble_eq_true rfl) (fun p e s m args below meth cd ls hE hnm hl hD => ?_)
  have hx := hE.1; have hb := hE.2.1
  have hl : lv_has ls 4 [(0, .ref a0), (1, .int xa)] := hl
  have hD : tD G (xA (tE G u) s.heap.size) s.heap u s.heap [] := hD
  refine lv_iconst (v := (-1 : Int32)) hx hb dX11_leastByFirst_0 (by decide) ?_
  refine lv_istore_n (lv' := [(2, .int (-1 : Int32)), (0, .ref a0), (1, .int xa)]) hx hb dX11_leastByFirst_1 rfl hl (by decide) rfl (fun ls hl => ?_)
  refine lv_iconst (v := (0 : Int32)) hx hb dX11_leastByFirst_2 (by decide) ?_
  refine lv_istore_n (lv' := [(3, .int (0 : Int32)), (2, .int (-1 : Int32)), (0, .ref a0), (1, .int xa)]) hx hb dX11_leastByFirst_3 rfl hl (by decide) rfl (fun ls hl => ?_)
  exact L_X11_leastByFirst_l4 hE _ hD (lv_sub hl [2, 3, 1, 0] rfl) hF
def F_X11_poorest_j48 (u : xT) (a0 : Nat) (y2 : Int32) : Option (Int32 × xT) := if tK u a0 = 11 then (tP u a0 12).bind (fun q2 => (F_X11_entryOf u q2 y2).bind (fun r4 => some (r4, u))) else none
theorem B_X11_poorest_j48 {p : Program} {l : Launch} {e : Env} {s : State} {m : MethodId} {args : Array Value} {below : List Frame} {meth : Method} {cd : Code} {G : xG} {w0 : xW} {rr : (Int32 × xT)} (hE : xE p s m args meth cd cX11_poorest RX11 G 4 (Option.some Jvm.ClassFile.FieldType.int)) {u : xT} {a0 : Nat} {y2 : Int32} {H : Heap} {locs : List Loc} {ls : Array Slot} (hD : tD G (xA w0 s.heap.size) s.heap u H locs) (hl : lv_has ls 4 [(0, .ref a0), (2, .int y2)]) (hF : F_X11_poorest_j48 u a0 y2 = some rr) : W p l e (xR 8 0 0) s m args below meth cd H locs 0 0 (xQi G w0 (fun r z => r = rr.1 ∧ z = ((tE G rr.2), rr.2.1)) below args s 0 0) (F0 m 48 ls []) := by
  have hx := hE.1; have hb := hE.2.1
  unfold F_X11_poorest_j48 at hF
  refine lv_aload_n hx hb dX11_poorest_48 rfl (lv_at hl 0 rfl) ?_
  obtain ⟨h1, hF⟩ := ite_s hF
  obtain ⟨q2, h3, hF⟩ := xb_s hF
  refine gr_X11_59 hE hD h1 h3 dX11_poorest_49 ?_
  refine lv_iload_n hx hb dX11_poorest_52 rfl (lv_at hl 1 rfl) ?_
  obtain ⟨r4, k5, hF⟩ := xb_s hF
  refine kSi (As := [.ref q2, .int y2]) (rest := []) hE hl hD (c_X11_entryOf k5) kl_X11_347 rfl rfl (Nat.le_of_ble_eq_true rfl) dX11_poorest_53 ⟨Nat.le_of_ble_eq_true rfl, Nat.le_of_ble_eq_true rfl⟩ ⟨Nat.le_of_ble_eq_true rfl, Nat.le_of_ble_eq_true rfl⟩ (fun H locs (hD : tD G _ _ u H locs) => ?_)
  obtain rfl := Option.some.inj hF
  exact x_iret hE hD ⟨rfl, rfl⟩ (by omega) (by omega) dX11_poorest_56
def F_X11_poorest_j42 (kc9 : xT → Nat → Int32 → Int32 → Option (Int32 × xT)) (u : xT) (a0 : Nat) (y2 : Int32) (y3 : Int32) : Option (Int32 × xT) := xlet (y3 + (1 : Int32)) (fun x6 => kc9 u a0 y2 x6)
theorem B_X11_poorest_j42 {p : Program} {l : Launch} {e : Env} {s : State} {m : MethodId} {args : Array Value} {below : List Frame} {meth : Method} {cd : Code} {G : xG} {w0 : xW} {rr : (Int32 × xT)} (hE : xE p s m args meth cd cX11_poorest RX11 G 4 (Option.some Jvm.ClassFile.FieldType.int)) {u : xT} (kc9 : xT → Nat → Int32 → Int32 → Option (Int32 × xT)) (hc9 : ∀ {u1 : xT} {a0 : Nat} {y2 : Int32} {y3 : Int32} {H : Heap} {locs : List Loc} {ls : Array Slot} , tD G (xA w0 s.heap.size) s.heap u1 H locs → lv_has ls 4 [(0, .ref a0), (2, .int y2), (3, .int y3)] → kc9 u1 a0 y2 y3 = some rr → W p l e (xR 8 0 0) s m args below meth cd H locs 0 0 (xQi G w0 (fun r z => r = rr.1 ∧ z = ((tE G rr.2), rr.2.1)) below args s 0 0) (F0 m 9 ls [])) {a0 : Nat} {y2 : Int32} {y3 : Int32} {H : Heap} {locs : List Loc} {ls : Array Slot} (hD : tD G (xA w0 s.heap.size) s.heap u H locs) (hl : lv_has ls 4 [(0, .ref a0), (2, .int y2), (3, .int y3)]) (hF : F_X11_poorest_j42 kc9 u a0 y2 y3 = some rr) : W p l e (xR 8 0 0) s m args below meth cd H locs 0 0 (xQi G w0 (fun r z => r = rr.1 ∧ z = ((tE G rr.2), rr.2.1)) below args s 0 0) (F0 m 42 ls []) := by
  have hx := hE.1; have hb := hE.2.1
  unfold F_X11_poorest_j42 at hF
  obtain ⟨x6, ex6⟩ : ∃ y : Int32, y = y3 + (1 : Int32) := ⟨_, rfl⟩
  have hF := xlet_e hF ex6
  refine lv_iinc (v := x6) (lv' := [(3, .int x6), (0, .ref a0), (2, .int y2)]) hx hb dX11_poorest_42 hl (k := 2) rfl (by rw [ex6]; rfl) (by decide) rfl (fun ls hl => ?_)
  refine lv_goto (tgt := 9) hx hb dX11_poorest_45 (by decide) ?_
  exact hc9 hD (lv_sub hl [1, 2, 0] rfl) hF
def F_X11_poorest_l9 : Nat → xT → Nat → Int32 → Int32 → Option (Int32 × xT)
  | 0, _, _, _, _ => none
  | nn + 1, u, a0, y2, y3 => if y2 < y3 then F_X11_poorest_j48 u a0 y2 else if tK u a0 = 11 then (tP u a0 12).bind (fun q9 => if tK u q9 = 20 then if (nI (tN u q9)) ≤ y3 then F_X11_poorest_j48 u a0 y2 else if (y3 &&& (y2 ^^^ (-1 : Int32))) = 0 then (tP u a0 12).bind (fun q14 => (F_X11_leastByFirst u a0 y3).bind (fun r16 => if tK u q14 = 20 then if xIn y3 (tN u q14) then xlet (tSI u q14 y3.toNatClampNeg r16) (fun t20 => F_X11_poorest_j42 (F_X11_poorest_l9 nn) t20 a0 y2 y3) else none else none)) else F_X11_poorest_j42 (F_X11_poorest_l9 nn) u a0 y2 y3 else none) else none
theorem L_X11_poorest_l9 {p : Program} {l : Launch} {e : Env} {s : State} {m : MethodId} {args : Array Value} {below : List Frame} {meth : Method} {cd : Code} {G : xG} {w0 : xW} {rr : (Int32 × xT)} (hE : xE p s m args meth cd cX11_poorest RX11 G 4 (Option.some Jvm.ClassFile.FieldType.int)) : ∀ (nn : Nat) {u : xT} {a0 : Nat} {y2 : Int32} {y3 : Int32} {H : Heap} {locs : List Loc} {ls : Array Slot} , tD G (xA w0 s.heap.size) s.heap u H locs → lv_has ls 4 [(0, .ref a0), (2, .int y2), (3, .int y3)] → F_X11_poorest_l9 nn u a0 y2 y3 = some rr → W p l e (xR 8 0 0) s m args below meth cd H locs 0 0 (xQi G w0 (fun r z => r = rr.1 ∧ z = ((tE G rr.2), rr.2.1)) below args s 0 0) (F0 m 9 ls []) := by
  have hx := hE.1; have hb := hE.2.1
  intro nn
  induction nn with
  | zero => intro u a0 y2 y3 H locs ls hD hl hF; rw [F_X11_poorest_l9] at hF; cases hF
  | succ nn ih =>
    intro u a0 y2 y3 H locs ls hD hl hF
    rw [F_X11_poorest_l9] at hF
    refine lv_iload_n hx hb dX11_poorest_9 rfl (lv_at hl 2 rfl) ?_
    refine lv_iload_n hx hb dX11_poorest_10 rfl (lv_at hl 1 rfl) ?_
    refine lv_icmp_gt (tgt := 48) hx hb dX11_poorest_11 (by decide) (fun c7 => ?_) (fun c7 => ?_)
    · have hF := ite_p hF c7
      exact B_X11_poorest_j48 hE hD (lv_sub hl [0, 1] rfl) hF
    · have hF := ite_n hF c7
      refine lv_iload_n hx hb dX11_poorest_14 rfl (lv_at hl 2 rfl) ?_
      refine lv_aload_n hx hb dX11_poorest_15 rfl (lv_at hl 0 rfl) ?_
      obtain ⟨h8, hF⟩ := ite_s hF
      obtain ⟨q9, h10, hF⟩ := xb_s hF
      refine gr_X11_59 hE hD h8 h10 dX11_poorest_16 ?_
      obtain ⟨h11, hF⟩ := ite_s hF
      refine t_alen hE hD h11 dX11_poorest_19 ?_
      refine lv_icmp_ge (tgt := 48) hx hb dX11_poorest_20 (by decide) (fun c12 => ?_) (fun c12 => ?_)
      · have hF := ite_p hF c12
        exact B_X11_poorest_j48 hE hD (lv_sub hl [0, 1] rfl) hF
      · have hF := ite_n hF c12
        refine lv_iload_n hx hb dX11_poorest_23 rfl (lv_at hl 2 rfl) ?_
        refine lv_iload_n hx hb dX11_poorest_24 rfl (lv_at hl 1 rfl) ?_
        refine lv_iconst (v := (-1 : Int32)) hx hb dX11_poorest_25 (by decide) ?_
        refine lv_ixor hx hb dX11_poorest_26 ?_
        refine lv_iand hx hb dX11_poorest_27 ?_
        refine lv_if_ne (tgt := 42) hx hb dX11_poorest_28 (by decide) (fun c13 => ?_) (fun c13 => ?_)
        · have hF := ite_n hF c13
          exact B_X11_poorest_j42 hE (F_X11_poorest_l9 nn) ih hD (lv_sub hl [0, 1, 2] rfl) hF
        · have hF := ite_p hF c13
          refine lv_aload_n hx hb dX11_poorest_31 rfl (lv_at hl 0 rfl) ?_
          obtain ⟨q14, h15, hF⟩ := xb_s hF
          refine gr_X11_59 hE hD h8 h15 dX11_poorest_32 ?_
          refine lv_iload_n hx hb dX11_poorest_35 rfl (lv_at hl 2 rfl) ?_
          refine lv_aload_n hx hb dX11_poorest_36 rfl (lv_at hl 0 rfl) ?_
          refine lv_iload_n hx hb dX11_poorest_37 rfl (lv_at hl 2 rfl) ?_
          obtain ⟨r16, k17, hF⟩ := xb_s hF
          refine kVi (As := [.int y3]) (rest := [.int y3, .ref q14]) hE hl hD (c_X11_leastByFirst k17) kl_X11_354 (tE_11 h8) rfl rfl rfl rfl (Nat.le_of_ble_eq_true rfl) dX11_poorest_38 ⟨Nat.le_of_ble_eq_true rfl, Nat.le_of_ble_eq_true rfl⟩ ⟨Nat.le_of_ble_eq_true rfl, Nat.le_of_ble_eq_true rfl⟩ (fun H locs (hD : tD G _ _ u H locs) => ?_)
          obtain ⟨h18, hF⟩ := ite_s hF
          obtain ⟨h19, hF⟩ := ite_s hF
          refine t_iast hE hD h18 h19 dX11_poorest_41 (fun t20 H locs et20 hD => ?_)
          have hF := xlet_e hF et20
          have h21 : tK t20 a0 = 11 := by rw [et20]; exact h8
          have h22 : tK t20 q9 = 20 := by rw [et20]; exact h11
          have h23 : tK t20 q14 = 20 := by rw [et20]; exact h18
          exact B_X11_poorest_j42 hE (F_X11_poorest_l9 nn) ih hD (lv_sub hl [0, 1, 2] rfl) hF
def F_X11_poorest (u : xT) (a0 : Nat) (xa : Int32) (xb : Int32) : Option (Int32 × xT) := if tK u a0 = 11 then (tP u a0 12).bind (fun q25 => if tK u q25 = 20 then if xIn (0 : Int32) (tN u q25) then xlet (tSI u q25 (0 : Int32).toNatClampNeg xa) (fun t29 => F_X11_poorest_l9 xFuel t29 a0 xb (1 : Int32)) else none else none) else none
theorem c_X11_poorest {l : Launch} {G : xG} {rr : (Int32 × xT)} {u : xT} {a0 : Nat} {xa : Int32} {xb : Int32} (hF : F_X11_poorest u a0 xa xb = some rr) : xMi l G yX11_poorest cX11_poorest 4 (Option.some Jvm.ClassFile.FieldType.int) 8 0 0 [.ref a0, .int xa, .int xb] (tE G u) u.1 (fun r z => r = rr.1 ∧ z = ((tE G rr.2), rr.2.1)) := by
  unfold F_X11_poorest at hF
  refine x_startI rfl (Nat.le_of_ble_eq_true rfl) (fun p e s m args below meth cd ls hE hnm hl hD => ?_)
  have hx := hE.1; have hb := hE.2.1
  have hl : lv_has ls 4 [(0, .ref a0), (1, .int xa), (2, .int xb)] := hl
  have hD : tD G (xA (tE G u) s.heap.size) s.heap u s.heap [] := hD
  refine lv_aload_n hx hb dX11_poorest_0 rfl (lv_at hl 0 rfl) ?_
  obtain ⟨h24, hF⟩ := ite_s hF
  obtain ⟨q25, h26, hF⟩ := xb_s hF
  refine gr_X11_59 hE hD h24 h26 dX11_poorest_1 ?_
  refine lv_iconst (v := (0 : Int32)) hx hb dX11_poorest_4 (by decide) ?_
  refine lv_iload_n hx hb dX11_poorest_5 rfl (lv_at hl 1 rfl) ?_
  obtain ⟨h27, hF⟩ := ite_s hF
  obtain ⟨h28, hF⟩ := ite_s hF
  refine t_iast hE hD h27 h28 dX11_poorest_6 (fun t29 H locs et29 hD => ?_)
  have hF := xlet_e hF et29
  have h30 : tK t29 a0 = 11 := by rw [et29]; exact h24
  have h31 : tK t29 q25 = 20 := by rw [et29]; exact h27
  refine lv_iconst (v := (1 : Int32)) hx hb dX11_poorest_7 (by decide) ?_
  refine lv_istore_n (lv' := [(3, .int (1 : Int32)), (0, .ref a0), (1, .int xa), (2, .int xb)]) hx hb dX11_poorest_8 rfl hl (by decide) rfl (fun ls hl => ?_)
  exact L_X11_poorest_l9 hE _ hD (lv_sub hl [1, 3, 0] rfl) hF
def F_X11_order_j136 (u : xT) (a0 : Nat) (s0 : Int32) : Option (Int32 × xT) := some (s0, u)
theorem B_X11_order_j136 {p : Program} {l : Launch} {e : Env} {s : State} {m : MethodId} {args : Array Value} {below : List Frame} {meth : Method} {cd : Code} {G : xG} {w0 : xW} {rr : (Int32 × xT)} (hE : xE p s m args meth cd cX11_order RX11 G 9 (Option.some Jvm.ClassFile.FieldType.int)) {u : xT} {a0 : Nat} {s0 : Int32} {H : Heap} {locs : List Loc} {ls : Array Slot} (hD : tD G (xA w0 s.heap.size) s.heap u H locs) (hl : lv_has ls 9 [(0, .ref a0)]) (hF : F_X11_order_j136 u a0 s0 = some rr) : W p l e (xR 9 0 0) s m args below meth cd H locs 0 0 (xQi G w0 (fun r z => r = rr.1 ∧ z = ((tE G rr.2), rr.2.1)) below args s 0 0) (F0 m 136 ls [.int s0]) := by
  have hx := hE.1; have hb := hE.2.1
  unfold F_X11_order_j136 at hF
  obtain rfl := Option.some.inj hF
  exact x_iret hE hD ⟨rfl, rfl⟩ (by omega) (by omega) dX11_order_136
def F_X11_order_l71 : Nat → xT → Nat → Int32 → Int32 → Int32 → Int32 → Option (Int32 × xT)
  | 0, _, _, _, _, _, _ => none
  | nn + 1, u, a0, y3, y5, y6, y7 => if y3 ≤ y7 then if tK u a0 = 11 then (F_X11_firstInOrder u a0 y5 y6).bind (fun r3 => if 0 ≤ r3 then F_X11_order_j136 u a0 r3 else F_X11_order_j136 u a0 (-3 : Int32)) else none else if tK u a0 = 11 then (F_X11_firstInOrder u a0 y5 y6).bind (fun r7 => (F_X11_behindOf u a0 r7 y5).bind (fun r9 => xlet (y6 &&& (((1 : Int32) <<< (r7 &&& 31)) ^^^ (-1 : Int32))) (fun x11 => xlet (y7 + (1 : Int32)) (fun x12 => F_X11_order_l71 nn u a0 y3 r9 x11 x12)))) else none
theorem L_X11_order_l71 {p : Program} {l : Launch} {e : Env} {s : State} {m : MethodId} {args : Array Value} {below : List Frame} {meth : Method} {cd : Code} {G : xG} {w0 : xW} {rr : (Int32 × xT)} (hE : xE p s m args meth cd cX11_order RX11 G 9 (Option.some Jvm.ClassFile.FieldType.int)) : ∀ (nn : Nat) {u : xT} {a0 : Nat} {y3 : Int32} {y5 : Int32} {y6 : Int32} {y7 : Int32} {H : Heap} {locs : List Loc} {ls : Array Slot} , tD G (xA w0 s.heap.size) s.heap u H locs → lv_has ls 9 [(0, .ref a0), (3, .int y3), (5, .int y5), (6, .int y6), (7, .int y7)] → F_X11_order_l71 nn u a0 y3 y5 y6 y7 = some rr → W p l e (xR 9 0 0) s m args below meth cd H locs 0 0 (xQi G w0 (fun r z => r = rr.1 ∧ z = ((tE G rr.2), rr.2.1)) below args s 0 0) (F0 m 71 ls []) := by
  have hx := hE.1; have hb := hE.2.1
  intro nn
  induction nn with
  | zero => intro u a0 y3 y5 y6 y7 H locs ls hD hl hF; rw [F_X11_order_l71] at hF; cases hF
  | succ nn ih =>
    intro u a0 y3 y5 y6 y7 H locs ls hD hl hF
    rw [F_X11_order_l71] at hF
    refine lv_iload hx hb dX11_order_71 (lv_at hl 4 rfl) ?_
    refine lv_iload_n hx hb dX11_order_73 rfl (lv_at hl 1 rfl) ?_
    refine lv_icmp_ge (tgt := 114) hx hb dX11_order_74 (by decide) (fun c1 => ?_) (fun c1 => ?_)
    · have hF := ite_p hF c1
      refine lv_aload_n hx hb dX11_order_114 rfl (lv_at hl 0 rfl) ?_
      refine lv_iload hx hb dX11_order_115 (lv_at hl 2 rfl) ?_
      refine lv_iload hx hb dX11_order_117 (lv_at hl 3 rfl) ?_
      obtain ⟨h2, hF⟩ := ite_s hF
      obtain ⟨r3, k4, hF⟩ := xb_s hF
      refine kVi (As := [.int y5, .int y6]) (rest := []) hE hl hD (c_X11_firstInOrder k4) kl_X11_210 (tE_11 h2) rfl rfl rfl rfl (Nat.le_of_ble_eq_true rfl) dX11_order_119 ⟨Nat.le_of_ble_eq_true rfl, Nat.le_of_ble_eq_true rfl⟩ ⟨Nat.le_of_ble_eq_true rfl, Nat.le_of_ble_eq_true rfl⟩ (fun H locs (hD : tD G _ _ u H locs) => ?_)
      refine lv_istore (lv' := [(7, .int r3), (0, .ref a0), (3, .int y3), (5, .int y5), (6, .int y6)]) hx hb dX11_order_122 hl (by decide) rfl (fun ls hl => ?_)
      refine lv_iload hx hb dX11_order_124 (lv_at hl 0 rfl) ?_
      refine lv_if_ge (tgt := 134) hx hb dX11_order_126 (by decide) (fun c5 => ?_) (fun c5 => ?_)
      · have hF := ite_p hF c5
        refine lv_iload hx hb dX11_order_134 (lv_at hl 0 rfl) ?_
        exact B_X11_order_j136 hE hD (lv_sub hl [1] rfl) hF
      · have hF := ite_n hF c5
        refine lv_bipush (v := (-3 : Int32)) hx hb dX11_order_129 (by decide) ?_
        refine lv_goto (tgt := 136) hx hb dX11_order_131 (by decide) ?_
        exact B_X11_order_j136 hE hD (lv_sub hl [1] rfl) hF
    · have hF := ite_n hF c1
      refine lv_aload_n hx hb dX11_order_77 rfl (lv_at hl 0 rfl) ?_
      refine lv_iload hx hb dX11_order_78 (lv_at hl 2 rfl) ?_
      refine lv_iload hx hb dX11_order_80 (lv_at hl 3 rfl) ?_
      obtain ⟨h6, hF⟩ := ite_s hF
      obtain ⟨r7, k8, hF⟩ := xb_s hF
      refine kVi (As := [.int y5, .int y6]) (rest := []) hE hl hD (c_X11_firstInOrder k8) kl_X11_210 (tE_11 h6) rfl rfl rfl rfl (Nat.le_of_ble_eq_true rfl) dX11_order_82 ⟨Nat.le_of_ble_eq_true rfl, Nat.le_of_ble_eq_true rfl⟩ ⟨Nat.le_of_ble_eq_true rfl, Nat.le_of_ble_eq_true rfl⟩ (fun H locs (hD : tD G _ _ u H locs) => ?_)
      refine lv_istore (lv' := [(8, .int r7), (0, .ref a0), (3, .int y3), (5, .int y5), (6, .int y6), (7, .int y7)]) hx hb dX11_order_85 hl (by decide) rfl (fun ls hl => ?_)
      refine lv_aload_n hx hb dX11_order_87 rfl (lv_at hl 1 rfl) ?_
      refine lv_iload hx hb dX11_order_88 (lv_at hl 0 rfl) ?_
      refine lv_iload hx hb dX11_order_90 (lv_at hl 3 rfl) ?_
      obtain ⟨r9, k10, hF⟩ := xb_s hF
      refine kVi (As := [.int r7, .int y5]) (rest := []) hE hl hD (c_X11_behindOf k10) kl_X11_213 (tE_11 h6) rfl rfl rfl rfl (Nat.le_of_ble_eq_true rfl) dX11_order_92 ⟨Nat.le_of_ble_eq_true rfl, Nat.le_of_ble_eq_true rfl⟩ ⟨Nat.le_of_ble_eq_true rfl, Nat.le_of_ble_eq_true rfl⟩ (fun H locs (hD : tD G _ _ u H locs) => ?_)
      refine lv_istore (lv' := [(5, .int r9), (8, .int r7), (0, .ref a0), (3, .int y3), (6, .int y6), (7, .int y7)]) hx hb dX11_order_95 hl (by decide) rfl (fun ls hl => ?_)
      refine lv_iload hx hb dX11_order_97 (lv_at hl 4 rfl) ?_
      refine lv_iconst (v := (1 : Int32)) hx hb dX11_order_99 (by decide) ?_
      refine lv_iload hx hb dX11_order_100 (lv_at hl 1 rfl) ?_
      refine lv_ishl hx hb dX11_order_102 ?_
      refine lv_iconst (v := (-1 : Int32)) hx hb dX11_order_103 (by decide) ?_
      refine lv_ixor hx hb dX11_order_104 ?_
      refine lv_iand hx hb dX11_order_105 ?_
      refine lv_topi (fun x11 ex11 => ?_)
      have hF := xlet_e hF ex11
      refine lv_istore (lv' := [(6, .int x11), (5, .int r9), (8, .int r7), (0, .ref a0), (3, .int y3), (7, .int y7)]) hx hb dX11_order_106 hl (by decide) rfl (fun ls hl => ?_)
      obtain ⟨x12, ex12⟩ : ∃ y : Int32, y = y7 + (1 : Int32) := ⟨_, rfl⟩
      have hF := xlet_e hF ex12
      refine lv_iinc (v := x12) (lv' := [(7, .int x12), (6, .int x11), (5, .int r9), (8, .int r7), (0, .ref a0), (3, .int y3)]) hx hb dX11_order_108 hl (k := 5) rfl (by rw [ex12]; rfl) (by decide) rfl (fun ls hl => ?_)
      refine lv_goto (tgt := 71) hx hb dX11_order_111 (by decide) ?_
      exact ih hD (lv_sub hl [4, 5, 2, 1, 0] rfl) hF
def F_X11_order_j51 (u : xT) (a0 : Nat) : Option (Int32 × xT) := some ((-3 : Int32), u)
theorem B_X11_order_j51 {p : Program} {l : Launch} {e : Env} {s : State} {m : MethodId} {args : Array Value} {below : List Frame} {meth : Method} {cd : Code} {G : xG} {w0 : xW} {rr : (Int32 × xT)} (hE : xE p s m args meth cd cX11_order RX11 G 9 (Option.some Jvm.ClassFile.FieldType.int)) {u : xT} {a0 : Nat} {H : Heap} {locs : List Loc} {ls : Array Slot} (hD : tD G (xA w0 s.heap.size) s.heap u H locs) (hl : lv_has ls 9 [(0, .ref a0)]) (hF : F_X11_order_j51 u a0 = some rr) : W p l e (xR 9 0 0) s m args below meth cd H locs 0 0 (xQi G w0 (fun r z => r = rr.1 ∧ z = ((tE G rr.2), rr.2.1)) below args s 0 0) (F0 m 51 ls []) := by
  have hx := hE.1; have hb := hE.2.1
  unfold F_X11_order_j51 at hF
  refine lv_bipush (v := (-3 : Int32)) hx hb dX11_order_51 (by decide) ?_
  obtain rfl := Option.some.inj hF
  exact x_iret hE hD ⟨rfl, rfl⟩ (by omega) (by omega) dX11_order_53
def F_X11_order_j28 (u : xT) (a0 : Nat) : Option (Int32 × xT) := some ((-1 : Int32), u)
theorem B_X11_order_j28 {p : Program} {l : Launch} {e : Env} {s : State} {m : MethodId} {args : Array Value} {below : List Frame} {meth : Method} {cd : Code} {G : xG} {w0 : xW} {rr : (Int32 × xT)} (hE : xE p s m args meth cd cX11_order RX11 G 9 (Option.some Jvm.ClassFile.FieldType.int)) {u : xT} {a0 : Nat} {H : Heap} {locs : List Loc} {ls : Array Slot} (hD : tD G (xA w0 s.heap.size) s.heap u H locs) (hl : lv_has ls 9 [(0, .ref a0)]) (hF : F_X11_order_j28 u a0 = some rr) : W p l e (xR 9 0 0) s m args below meth cd H locs 0 0 (xQi G w0 (fun r z => r = rr.1 ∧ z = ((tE G rr.2), rr.2.1)) below args s 0 0) (F0 m 28 ls []) := by
  have hx := hE.1; have hb := hE.2.1
  unfold F_X11_order_j28 at hF
  refine lv_iconst (v := (-1 : Int32)) hx hb dX11_order_28 (by decide) ?_
  obtain rfl := Option.some.inj hF
  exact x_iret hE hD ⟨rfl, rfl⟩ (by omega) (by omega) dX11_order_29
def F_X11_order (u : xT) (a0 : Nat) (xa : Int32) (xb : Int32) (xc : Int32) : Option (Int32 × xT) := (F_X11_isPurse xa).bind (fun r13 => if r13 = 0 then F_X11_order_j28 u a0 else if tK u a0 = 11 then (tP u a0 0).bind (fun q18 => if tK u q18 = 7 then (F_X7_isSet u q18 xb).bind (fun r21 => if r21 = 0 then F_X11_order_j28 u a0 else (F_X11_isIn xc (0 : Int32) (8 : Int32)).bind (fun r25 => if r25 = 0 then F_X11_order_j28 u a0 else (F_X11_richest u a0 xa xb).bind (fun r29 => if r29.1 < 0 then F_X11_order_j51 r29.2 a0 else (F_J6_bitCount_0f7a4 xb).bind (fun r32 => if xc < r32 then if tK r29.2 a0 = 11 then (F_X11_poorest r29.2 a0 r29.1 xb).bind (fun r36 => F_X11_order_l71 xFuel r36.2 a0 xc xa xb (0 : Int32)) else none else F_X11_order_j51 r29.2 a0)))) else none) else none)
theorem c_X11_order {l : Launch} {G : xG} {rr : (Int32 × xT)} {u : xT} {a0 : Nat} {xa : Int32} {xb : Int32} {xc : Int32} (hF : F_X11_order u a0 xa xb xc = some rr) : xMi l G yX11_order cX11_order 9 (Option.some Jvm.ClassFile.FieldType.int) 9 0 0 [.ref a0, .int xa, .int xb, .int xc] (tE G u) u.1 (fun r z => r = rr.1 ∧ z = ((tE G rr.2), rr.2.1)) := by
  unfold F_X11_order at hF
  refine x_startI rfl (Nat.le_of_ble_eq_true rfl) (fun p e s m args below meth cd ls hE hnm hl hD => ?_)
  have hx := hE.1; have hb := hE.2.1
  have hl : lv_has ls 9 [(0, .ref a0), (1, .int xa), (2, .int xb), (3, .int xc)] := hl
  have hD : tD G (xA (tE G u) s.heap.size) s.heap u s.heap [] := hD
  refine lv_iload_n hx hb dX11_order_0 rfl (lv_at hl 1 rfl) ?_
  obtain ⟨r13, k14, hF⟩ := xb_s hF
  refine kSz (As := [.int xa]) (rest := []) hE hl hD (c_X11_isPurse k14) kl_X11_154 rfl rfl (Nat.le_of_ble_eq_true rfl) dX11_order_1 ⟨Nat.le_of_ble_eq_true rfl, Nat.le_of_ble_eq_true rfl⟩ ⟨Nat.le_of_ble_eq_true rfl, Nat.le_of_ble_eq_true rfl⟩ (fun H locs z15 (hD : tD G _ _ u H locs) => ?_)
  refine lv_if_eq (tgt := 28) hx hb dX11_order_4 (by decide) (fun c16 => ?_) (fun c16 => ?_)
  · have hF := ite_p hF c16
    exact B_X11_order_j28 hE hD (lv_sub hl [0] rfl) hF
  · have hF := ite_n hF c16
    refine lv_aload_n hx hb dX11_order_7 rfl (lv_at hl 0 rfl) ?_
    obtain ⟨h17, hF⟩ := ite_s hF
    obtain ⟨q18, h19, hF⟩ := xb_s hF
    refine gr_X11_10 hE hD h17 h19 dX11_order_8 ?_
    refine lv_iload_n hx hb dX11_order_11 rfl (lv_at hl 2 rfl) ?_
    obtain ⟨h20, hF⟩ := ite_s hF
    obtain ⟨r21, k22, hF⟩ := xb_s hF
    refine kVz (As := [.int xb]) (rest := []) hE hl hD (c_X7_isSet k22) kl_X11_195 (tE_7 h20) rfl rfl rfl rfl (Nat.le_of_ble_eq_true rfl) dX11_order_12 ⟨Nat.le_of_ble_eq_true rfl, Nat.le_of_ble_eq_true rfl⟩ ⟨Nat.le_of_ble_eq_true rfl, Nat.le_of_ble_eq_true rfl⟩ (fun H locs z23 (hD : tD G _ _ u H locs) => ?_)
    refine lv_if_eq (tgt := 28) hx hb dX11_order_15 (by decide) (fun c24 => ?_) (fun c24 => ?_)
    · have hF := ite_p hF c24
      exact B_X11_order_j28 hE hD (lv_sub hl [0] rfl) hF
    · have hF := ite_n hF c24
      refine lv_iload_n hx hb dX11_order_18 rfl (lv_at hl 3 rfl) ?_
      refine lv_iconst (v := (0 : Int32)) hx hb dX11_order_19 (by decide) ?_
      refine lv_bipush (v := (8 : Int32)) hx hb dX11_order_20 (by decide) ?_
      obtain ⟨r25, k26, hF⟩ := xb_s hF
      refine kSz (As := [.int xc, .int (0 : Int32), .int (8 : Int32)]) (rest := []) hE hl hD (c_X11_isIn k26) kl_X11_183 rfl rfl (Nat.le_of_ble_eq_true rfl) dX11_order_22 ⟨Nat.le_of_ble_eq_true rfl, Nat.le_of_ble_eq_true rfl⟩ ⟨Nat.le_of_ble_eq_true rfl, Nat.le_of_ble_eq_true rfl⟩ (fun H locs z27 (hD : tD G _ _ u H locs) => ?_)
      refine lv_if_ne (tgt := 30) hx hb dX11_order_25 (by decide) (fun c28 => ?_) (fun c28 => ?_)
      · have hF := ite_n hF c28
        refine lv_aload_n hx hb dX11_order_30 rfl (lv_at hl 0 rfl) ?_
        refine lv_iload_n hx hb dX11_order_31 rfl (lv_at hl 1 rfl) ?_
        refine lv_iload_n hx hb dX11_order_32 rfl (lv_at hl 2 rfl) ?_
        obtain ⟨r29, k30, hF⟩ := xb_s hF
        refine kVi (As := [.int xa, .int xb]) (rest := []) hE hl hD (c_X11_richest k30) kl_X11_198 (tE_11 h17) rfl rfl rfl rfl (Nat.le_of_ble_eq_true rfl) dX11_order_33 ⟨Nat.le_of_ble_eq_true rfl, Nat.le_of_ble_eq_true rfl⟩ ⟨Nat.le_of_ble_eq_true rfl, Nat.le_of_ble_eq_true rfl⟩ (fun H locs (hD : tD G _ _ r29.2 H locs) => ?_)
        refine lv_istore (lv' := [(4, .int r29.1), (0, .ref a0), (1, .int xa), (2, .int xb), (3, .int xc)]) hx hb dX11_order_36 hl (by decide) rfl (fun ls hl => ?_)
        refine lv_iload hx hb dX11_order_38 (lv_at hl 0 rfl) ?_
        refine lv_if_lt (tgt := 51) hx hb dX11_order_40 (by decide) (fun c31 => ?_) (fun c31 => ?_)
        · have hF := ite_p hF c31
          exact B_X11_order_j51 hE hD (lv_sub hl [1] rfl) hF
        · have hF := ite_n hF c31
          refine lv_iload_n hx hb dX11_order_43 rfl (lv_at hl 4 rfl) ?_
          refine lv_iload_n hx hb dX11_order_44 rfl (lv_at hl 3 rfl) ?_
          obtain ⟨r32, k33, hF⟩ := xb_s hF
          refine kSi (As := [.int xb]) (rest := [.int xc]) hE hl hD (c_J6_bitCount_0f7a4 k33) kl_X11_202 rfl rfl (Nat.le_of_ble_eq_true rfl) dX11_order_45 ⟨Nat.le_of_ble_eq_true rfl, Nat.le_of_ble_eq_true rfl⟩ ⟨Nat.le_of_ble_eq_true rfl, Nat.le_of_ble_eq_true rfl⟩ (fun H locs (hD : tD G _ _ r29.2 H locs) => ?_)
          refine lv_icmp_lt (tgt := 54) hx hb dX11_order_48 (by decide) (fun c34 => ?_) (fun c34 => ?_)
          · have hF := ite_p hF c34
            refine lv_aload_n hx hb dX11_order_54 rfl (lv_at hl 1 rfl) ?_
            refine lv_iload hx hb dX11_order_55 (lv_at hl 0 rfl) ?_
            refine lv_iload_n hx hb dX11_order_57 rfl (lv_at hl 3 rfl) ?_
            obtain ⟨h35, hF⟩ := ite_s hF
            obtain ⟨r36, k37, hF⟩ := xb_s hF
            refine kVi (As := [.int r29.1, .int xb]) (rest := []) hE hl hD (c_X11_poorest k37) kl_X11_207 (tE_11 h35) rfl rfl rfl rfl (Nat.le_of_ble_eq_true rfl) dX11_order_58 ⟨Nat.le_of_ble_eq_true rfl, Nat.le_of_ble_eq_true rfl⟩ ⟨Nat.le_of_ble_eq_true rfl, Nat.le_of_ble_eq_true rfl⟩ (fun H locs (hD : tD G _ _ r36.2 H locs) => ?_)
            refine lv_pop hx hb dX11_order_61 rfl ?_
            refine lv_iload_n hx hb dX11_order_62 rfl (lv_at hl 2 rfl) ?_
            refine lv_istore (lv' := [(5, .int xa), (4, .int r29.1), (0, .ref a0), (1, .int xa), (2, .int xb), (3, .int xc)]) hx hb dX11_order_63 hl (by decide) rfl (fun ls hl => ?_)
            refine lv_iload_n hx hb dX11_order_65 rfl (lv_at hl 4 rfl) ?_
            refine lv_istore (lv' := [(6, .int xb), (5, .int xa), (4, .int r29.1), (0, .ref a0), (1, .int xa), (2, .int xb), (3, .int xc)]) hx hb dX11_order_66 hl (by decide) rfl (fun ls hl => ?_)
            refine lv_iconst (v := (0 : Int32)) hx hb dX11_order_68 (by decide) ?_
            refine lv_istore (lv' := [(7, .int (0 : Int32)), (6, .int xb), (5, .int xa), (4, .int r29.1), (0, .ref a0), (1, .int xa), (2, .int xb), (3, .int xc)]) hx hb dX11_order_69 hl (by decide) rfl (fun ls hl => ?_)
            exact L_X11_order_l71 hE _ hD (lv_sub hl [4, 7, 2, 1, 0] rfl) hF
          · have hF := ite_n hF c34
            exact B_X11_order_j51 hE hD (lv_sub hl [1] rfl) hF
      · have hF := ite_p hF c28
        exact B_X11_order_j28 hE hD (lv_sub hl [0] rfl) hF
def F_X11_poor_j30 (u : xT) (a0 : Nat) (s0 : Int32) : Option (Int32 × xT) := some (s0, u)
theorem B_X11_poor_j30 {p : Program} {l : Launch} {e : Env} {s : State} {m : MethodId} {args : Array Value} {below : List Frame} {meth : Method} {cd : Code} {G : xG} {w0 : xW} {rr : (Int32 × xT)} (hE : xE p s m args meth cd cX11_poor RX11 G 3 (Option.some Jvm.ClassFile.FieldType.int)) {u : xT} {a0 : Nat} {s0 : Int32} {H : Heap} {locs : List Loc} {ls : Array Slot} (hD : tD G (xA w0 s.heap.size) s.heap u H locs) (hl : lv_has ls 3 [(0, .ref a0)]) (hF : F_X11_poor_j30 u a0 s0 = some rr) : W p l e (xR 9 0 0) s m args below meth cd H locs 0 0 (xQi G w0 (fun r z => r = rr.1 ∧ z = ((tE G rr.2), rr.2.1)) below args s 0 0) (F0 m 30 ls [.int s0]) := by
  have hx := hE.1; have hb := hE.2.1
  unfold F_X11_poor_j30 at hF
  obtain rfl := Option.some.inj hF
  exact x_iret hE hD ⟨rfl, rfl⟩ (by omega) (by omega) dX11_poor_30
def F_X11_poor (u : xT) (a0 : Nat) (xa : Int32) : Option (Int32 × xT) := if tK u a0 = 11 then (tP u a0 0).bind (fun q2 => if tK u q2 = 7 then (F_X7_isSet u q2 xa).bind (fun r5 => if r5 = 0 then some ((-1 : Int32), u) else (F_X11_poorest u a0 (0 : Int32) xa).bind (fun r9 => if 0 ≤ r9.1 then F_X11_poor_j30 r9.2 a0 r9.1 else F_X11_poor_j30 r9.2 a0 (-3 : Int32))) else none) else none
theorem c_X11_poor {l : Launch} {G : xG} {rr : (Int32 × xT)} {u : xT} {a0 : Nat} {xa : Int32} (hF : F_X11_poor u a0 xa = some rr) : xMi l G yX11_poor cX11_poor 3 (Option.some Jvm.ClassFile.FieldType.int) 9 0 0 [.ref a0, .int xa] (tE G u) u.1 (fun r z => r = rr.1 ∧ z = ((tE G rr.2), rr.2.1)) := by
  unfold F_X11_poor at hF
  refine x_startI rfl (Nat.le_of_ble_eq_true rfl) (fun p e s m args below meth cd ls hE hnm hl hD => ?_)
  have hx := hE.1; have hb := hE.2.1
  have hl : lv_has ls 3 [(0, .ref a0), (1, .int xa)] := hl
  have hD : tD G (xA (tE G u) s.heap.size) s.heap u s.heap [] := hD
  refine lv_aload_n hx hb dX11_poor_0 rfl (lv_at hl 0 rfl) ?_
  obtain ⟨h1, hF⟩ := ite_s hF
  obtain ⟨q2, h3, hF⟩ := xb_s hF
  refine gr_X11_10 hE hD h1 h3 dX11_poor_1 ?_
  refine lv_iload_n hx hb dX11_poor_4 rfl (lv_at hl 1 rfl) ?_
  obtain ⟨h4, hF⟩ := ite_s hF
  obtain ⟨r5, k6, hF⟩ := xb_s hF
  refine kVz (As := [.int xa]) (rest := []) hE hl hD (c_X7_isSet k6) kl_X11_195 (tE_7 h4) rfl rfl rfl rfl (Nat.le_of_ble_eq_true rfl) dX11_poor_5 ⟨Nat.le_of_ble_eq_true rfl, Nat.le_of_ble_eq_true rfl⟩ ⟨Nat.le_of_ble_eq_true rfl, Nat.le_of_ble_eq_true rfl⟩ (fun H locs z7 (hD : tD G _ _ u H locs) => ?_)
  refine lv_if_ne (tgt := 13) hx hb dX11_poor_8 (by decide) (fun c8 => ?_) (fun c8 => ?_)
  · have hF := ite_n hF c8
    refine lv_aload_n hx hb dX11_poor_13 rfl (lv_at hl 0 rfl) ?_
    refine lv_iconst (v := (0 : Int32)) hx hb dX11_poor_14 (by decide) ?_
    refine lv_iload_n hx hb dX11_poor_15 rfl (lv_at hl 1 rfl) ?_
    obtain ⟨r9, k10, hF⟩ := xb_s hF
    refine kVi (As := [.int (0 : Int32), .int xa]) (rest := []) hE hl hD (c_X11_poorest k10) kl_X11_207 (tE_11 h1) rfl rfl rfl rfl (Nat.le_of_ble_eq_true rfl) dX11_poor_16 ⟨Nat.le_of_ble_eq_true rfl, Nat.le_of_ble_eq_true rfl⟩ ⟨Nat.le_of_ble_eq_true rfl, Nat.le_of_ble_eq_true rfl⟩ (fun H locs (hD : tD G _ _ r9.2 H locs) => ?_)
    refine lv_istore_n (lv' := [(2, .int r9.1), (0, .ref a0), (1, .int xa)]) hx hb dX11_poor_19 rfl hl (by decide) rfl (fun ls hl => ?_)
    refine lv_iload_n hx hb dX11_poor_20 rfl (lv_at hl 0 rfl) ?_
    refine lv_if_ge (tgt := 29) hx hb dX11_poor_21 (by decide) (fun c11 => ?_) (fun c11 => ?_)
    · have hF := ite_p hF c11
      refine lv_iload_n hx hb dX11_poor_29 rfl (lv_at hl 0 rfl) ?_
      exact B_X11_poor_j30 hE hD (lv_sub hl [1] rfl) hF
    · have hF := ite_n hF c11
      refine lv_bipush (v := (-3 : Int32)) hx hb dX11_poor_24 (by decide) ?_
      refine lv_goto (tgt := 30) hx hb dX11_poor_26 (by decide) ?_
      exact B_X11_poor_j30 hE hD (lv_sub hl [1] rfl) hF
  · have hF := ite_p hF c8
    refine lv_iconst (v := (-1 : Int32)) hx hb dX11_poor_11 (by decide) ?_
    obtain rfl := Option.some.inj hF
    exact x_iret hE hD ⟨rfl, rfl⟩ (by omega) (by omega) dX11_poor_12
def F_X11_bestByAny_l4 : Nat → xT → Nat → Int32 → Int32 → Int32 → Option Int32
  | 0, _, _, _, _, _ => none
  | nn + 1, u, a0, y1, y2, y3 => if tK u a0 = 11 then (tP u a0 0).bind (fun q2 => if tK u q2 = 7 then if (tI u q2 1) ≤ y3 then some y2 else (F_X11_behindOf u a0 y3 y1).bind (fun r6 => xlet (if y2 < r6 then r6 else y2) (fun x8 => xlet (y3 + (1 : Int32)) (fun x9 => F_X11_bestByAny_l4 nn u a0 y1 x8 x9))) else none) else none
theorem L_X11_bestByAny_l4 {p : Program} {l : Launch} {e : Env} {s : State} {m : MethodId} {args : Array Value} {below : List Frame} {meth : Method} {cd : Code} {G : xG} {w0 : xW} {rr : Int32} (hE : xE p s m args meth cd cX11_bestByAny RX11 G 4 (Option.some Jvm.ClassFile.FieldType.int)) : ∀ (nn : Nat) {u : xT} {a0 : Nat} {y1 : Int32} {y2 : Int32} {y3 : Int32} {H : Heap} {locs : List Loc} {ls : Array Slot} , tD G (xA w0 s.heap.size) s.heap u H locs → lv_has ls 4 [(0, .ref a0), (1, .int y1), (2, .int y2), (3, .int y3)] → F_X11_bestByAny_l4 nn u a0 y1 y2 y3 = some rr → W p l e (xR 7 0 0) s m args below meth cd H locs 0 0 (xQi G w0 (fun r z => r = rr ∧ z = ((tE G u), u.1)) below args s 0 0) (F0 m 4 ls []) := by
  have hx := hE.1; have hb := hE.2.1
  intro nn
  induction nn with
  | zero => intro u a0 y1 y2 y3 H locs ls hD hl hF; rw [F_X11_bestByAny_l4] at hF; cases hF
  | succ nn ih =>
    intro u a0 y1 y2 y3 H locs ls hD hl hF
    rw [F_X11_bestByAny_l4] at hF
    refine lv_iload_n hx hb dX11_bestByAny_4 rfl (lv_at hl 3 rfl) ?_
    refine lv_aload_n hx hb dX11_bestByAny_5 rfl (lv_at hl 0 rfl) ?_
    obtain ⟨h1, hF⟩ := ite_s hF
    obtain ⟨q2, h3, hF⟩ := xb_s hF
    refine gr_X11_10 hE hD h1 h3 dX11_bestByAny_6 ?_
    obtain ⟨h4, hF⟩ := ite_s hF
    refine gf_X11_330 hE hD h4 dX11_bestByAny_9 ?_
    refine lv_icmp_ge (tgt := 32) hx hb dX11_bestByAny_12 (by decide) (fun c5 => ?_) (fun c5 => ?_)
    · have hF := ite_p hF c5
      refine lv_iload_n hx hb dX11_bestByAny_32 rfl (lv_at hl 2 rfl) ?_
      obtain rfl := Option.some.inj hF
      exact x_iret hE hD ⟨rfl, rfl⟩ (by omega) (by omega) dX11_bestByAny_33
    · have hF := ite_n hF c5
      refine lv_iload_n hx hb dX11_bestByAny_15 rfl (lv_at hl 2 rfl) ?_
      refine lv_aload_n hx hb dX11_bestByAny_16 rfl (lv_at hl 0 rfl) ?_
      refine lv_iload_n hx hb dX11_bestByAny_17 rfl (lv_at hl 3 rfl) ?_
      refine lv_iload_n hx hb dX11_bestByAny_18 rfl (lv_at hl 1 rfl) ?_
      obtain ⟨r6, k7, hF⟩ := xb_s hF
      refine kVi (As := [.int y3, .int y1]) (rest := [.int y2]) hE hl hD (c_X11_behindOf k7) kl_X11_213 (tE_11 h1) rfl rfl rfl rfl (Nat.le_of_ble_eq_true rfl) dX11_bestByAny_19 ⟨Nat.le_of_ble_eq_true rfl, Nat.le_of_ble_eq_true rfl⟩ ⟨Nat.le_of_ble_eq_true rfl, Nat.le_of_ble_eq_true rfl⟩ (fun H locs (hD : tD G _ _ u H locs) => ?_)
      refine x_mmaxI (rest := []) hE hl kw4_37 (Nat.le_of_ble_eq_true rfl) (Nat.le_of_ble_eq_true rfl) (Nat.le_of_ble_eq_true rfl) (Nat.le_of_ble_eq_true rfl) dX11_bestByAny_22 ?_
      refine lv_topi (fun x8 ex8 => ?_)
      have hF := xlet_e hF ex8
      refine lv_istore_n (lv' := [(2, .int x8), (0, .ref a0), (1, .int y1), (3, .int y3)]) hx hb dX11_bestByAny_25 rfl hl (by decide) rfl (fun ls hl => ?_)
      obtain ⟨x9, ex9⟩ : ∃ y : Int32, y = y3 + (1 : Int32) := ⟨_, rfl⟩
      have hF := xlet_e hF ex9
      refine lv_iinc (v := x9) (lv' := [(3, .int x9), (2, .int x8), (0, .ref a0), (1, .int y1)]) hx hb dX11_bestByAny_26 hl (k := 3) rfl (by rw [ex9]; rfl) (by decide) rfl (fun ls hl => ?_)
      refine lv_goto (tgt := 4) hx hb dX11_bestByAny_29 (by decide) ?_
      exact ih hD (lv_sub hl [2, 3, 1, 0] rfl) hF
def F_X11_bestByAny (u : xT) (a0 : Nat) (xa : Int32) : Option Int32 := F_X11_bestByAny_l4 xFuel u a0 xa (-1 : Int32) (0 : Int32)
theorem c_X11_bestByAny {l : Launch} {G : xG} {rr : Int32} {u : xT} {a0 : Nat} {xa : Int32} (hF : F_X11_bestByAny u a0 xa = some rr) : xMi l G yX11_bestByAny cX11_bestByAny 4 (Option.some Jvm.ClassFile.FieldType.int) 7 0 0 [.ref a0, .int xa] (tE G u) u.1 (fun r z => r = rr ∧ z = ((tE G u), u.1)) := by
  unfold F_X11_bestByAny at hF
  refine x_startI rfl (Nat.le_of_ble_eq_true rfl) (fun p e s m args below meth cd ls hE hnm hl hD => ?_)
  have hx := hE.1; have hb := hE.2.1
  have hl : lv_has ls 4 [(0, .ref a0), (1, .int xa)] := hl
  have hD : tD G (xA (tE G u) s.heap.size) s.heap u s.heap [] := hD
  refine lv_iconst (v := (-1 : Int32)) hx hb dX11_bestByAny_0 (by decide) ?_
  refine lv_istore_n (lv' := [(2, .int (-1 : Int32)), (0, .ref a0), (1, .int xa)]) hx hb dX11_bestByAny_1 rfl hl (by decide) rfl (fun ls hl => ?_)
  refine lv_iconst (v := (0 : Int32)) hx hb dX11_bestByAny_2 (by decide) ?_
  refine lv_istore_n (lv' := [(3, .int (0 : Int32)), (2, .int (-1 : Int32)), (0, .ref a0), (1, .int xa)]) hx hb dX11_bestByAny_3 rfl hl (by decide) rfl (fun ls hl => ?_)
  exact L_X11_bestByAny_l4 hE _ hD (lv_sub hl [2, 3, 1, 0] rfl) hF
def F_X11_fewest_j36 (u : xT) (a0 : Nat) : Option Int32 := some (-1 : Int32)
theorem B_X11_fewest_j36 {p : Program} {l : Launch} {e : Env} {s : State} {m : MethodId} {args : Array Value} {below : List Frame} {meth : Method} {cd : Code} {G : xG} {w0 : xW} {rr : Int32} (hE : xE p s m args meth cd cX11_fewest RX11 G 5 (Option.some Jvm.ClassFile.FieldType.int)) {u : xT} {a0 : Nat} {H : Heap} {locs : List Loc} {ls : Array Slot} (hD : tD G (xA w0 s.heap.size) s.heap u H locs) (hl : lv_has ls 5 [(0, .ref a0)]) (hF : F_X11_fewest_j36 u a0 = some rr) : W p l e (xR 8 0 0) s m args below meth cd H locs 0 0 (xQi G w0 (fun r z => r = rr ∧ z = ((tE G u), u.1)) below args s 0 0) (F0 m 36 ls []) := by
  have hx := hE.1; have hb := hE.2.1
  unfold F_X11_fewest_j36 at hF
  refine lv_iconst (v := (-1 : Int32)) hx hb dX11_fewest_36 (by decide) ?_
  obtain rfl := Option.some.inj hF
  exact x_iret hE hD ⟨rfl, rfl⟩ (by omega) (by omega) dX11_fewest_37
def F_X11_fewest_l5 : Nat → xT → Nat → Int32 → Int32 → Int32 → Option Int32
  | 0, _, _, _, _, _ => none
  | nn + 1, u, a0, y2, y3, y4 => if (60 : Int32) < y4 then F_X11_fewest_j36 u a0 else if y3 < 0 then F_X11_fewest_j36 u a0 else if y3 < y2 then if tK u a0 = 11 then (F_X11_bestByAny u a0 y3).bind (fun r5 => xlet (y4 + (1 : Int32)) (fun x7 => F_X11_fewest_l5 nn u a0 y2 r5 x7)) else none else some y4
theorem L_X11_fewest_l5 {p : Program} {l : Launch} {e : Env} {s : State} {m : MethodId} {args : Array Value} {below : List Frame} {meth : Method} {cd : Code} {G : xG} {w0 : xW} {rr : Int32} (hE : xE p s m args meth cd cX11_fewest RX11 G 5 (Option.some Jvm.ClassFile.FieldType.int)) : ∀ (nn : Nat) {u : xT} {a0 : Nat} {y2 : Int32} {y3 : Int32} {y4 : Int32} {H : Heap} {locs : List Loc} {ls : Array Slot} , tD G (xA w0 s.heap.size) s.heap u H locs → lv_has ls 5 [(0, .ref a0), (2, .int y2), (3, .int y3), (4, .int y4)] → F_X11_fewest_l5 nn u a0 y2 y3 y4 = some rr → W p l e (xR 8 0 0) s m args below meth cd H locs 0 0 (xQi G w0 (fun r z => r = rr ∧ z = ((tE G u), u.1)) below args s 0 0) (F0 m 5 ls []) := by
  have hx := hE.1; have hb := hE.2.1
  intro nn
  induction nn with
  | zero => intro u a0 y2 y3 y4 H locs ls hD hl hF; rw [F_X11_fewest_l5] at hF; cases hF
  | succ nn ih =>
    intro u a0 y2 y3 y4 H locs ls hD hl hF
    rw [F_X11_fewest_l5] at hF
    refine lv_iload hx hb dX11_fewest_5 (lv_at hl 3 rfl) ?_
    refine lv_bipush (v := (60 : Int32)) hx hb dX11_fewest_7 (by decide) ?_
    refine lv_icmp_gt (tgt := 36) hx hb dX11_fewest_9 (by decide) (fun c1 => ?_) (fun c1 => ?_)
    · have hF := ite_p hF c1
      exact B_X11_fewest_j36 hE hD (lv_sub hl [0] rfl) hF
    · have hF := ite_n hF c1
      refine lv_iload_n hx hb dX11_fewest_12 rfl (lv_at hl 2 rfl) ?_
      refine lv_if_lt (tgt := 36) hx hb dX11_fewest_13 (by decide) (fun c2 => ?_) (fun c2 => ?_)
      · have hF := ite_p hF c2
        exact B_X11_fewest_j36 hE hD (lv_sub hl [0] rfl) hF
      · have hF := ite_n hF c2
        refine lv_iload_n hx hb dX11_fewest_16 rfl (lv_at hl 2 rfl) ?_
        refine lv_iload_n hx hb dX11_fewest_17 rfl (lv_at hl 1 rfl) ?_
        refine lv_icmp_lt (tgt := 24) hx hb dX11_fewest_18 (by decide) (fun c3 => ?_) (fun c3 => ?_)
        · have hF := ite_p hF c3
          refine lv_aload_n hx hb dX11_fewest_24 rfl (lv_at hl 0 rfl) ?_
          refine lv_iload_n hx hb dX11_fewest_25 rfl (lv_at hl 2 rfl) ?_
          obtain ⟨h4, hF⟩ := ite_s hF
          obtain ⟨r5, k6, hF⟩ := xb_s hF
          refine kVi (As := [.int y3]) (rest := []) hE hl hD (c_X11_bestByAny k6) kl_X11_366 (tE_11 h4) rfl rfl rfl rfl (Nat.le_of_ble_eq_true rfl) dX11_fewest_26 ⟨Nat.le_of_ble_eq_true rfl, Nat.le_of_ble_eq_true rfl⟩ ⟨Nat.le_of_ble_eq_true rfl, Nat.le_of_ble_eq_true rfl⟩ (fun H locs (hD : tD G _ _ u H locs) => ?_)
          refine lv_istore_n (lv' := [(3, .int r5), (0, .ref a0), (2, .int y2), (4, .int y4)]) hx hb dX11_fewest_29 rfl hl (by decide) rfl (fun ls hl => ?_)
          obtain ⟨x7, ex7⟩ : ∃ y : Int32, y = y4 + (1 : Int32) := ⟨_, rfl⟩
          have hF := xlet_e hF ex7
          refine lv_iinc (v := x7) (lv' := [(4, .int x7), (3, .int r5), (0, .ref a0), (2, .int y2)]) hx hb dX11_fewest_30 hl (k := 3) rfl (by rw [ex7]; rfl) (by decide) rfl (fun ls hl => ?_)
          refine lv_goto (tgt := 5) hx hb dX11_fewest_33 (by decide) ?_
          exact ih hD (lv_sub hl [2, 3, 1, 0] rfl) hF
        · have hF := ite_n hF c3
          refine lv_iload hx hb dX11_fewest_21 (lv_at hl 3 rfl) ?_
          obtain rfl := Option.some.inj hF
          exact x_iret hE hD ⟨rfl, rfl⟩ (by omega) (by omega) dX11_fewest_23
def F_X11_fewest (u : xT) (a0 : Nat) (xa : Int32) (xb : Int32) : Option Int32 := F_X11_fewest_l5 xFuel u a0 xb xa (0 : Int32)
theorem c_X11_fewest {l : Launch} {G : xG} {rr : Int32} {u : xT} {a0 : Nat} {xa : Int32} {xb : Int32} (hF : F_X11_fewest u a0 xa xb = some rr) : xMi l G yX11_fewest cX11_fewest 5 (Option.some Jvm.ClassFile.FieldType.int) 8 0 0 [.ref a0, .int xa, .int xb] (tE G u) u.1 (fun r z => r = rr ∧ z = ((tE G u), u.1)) := by
  unfold F_X11_fewest at hF
  refine x_startI rfl (Nat.le_of_ble_eq_true rfl) (fun p e s m args below meth cd ls hE hnm hl hD => ?_)
  have hx := hE.1; have hb := hE.2.1
  have hl : lv_has ls 5 [(0, .ref a0), (1, .int xa), (2, .int xb)] := hl
  have hD : tD G (xA (tE G u) s.heap.size) s.heap u s.heap [] := hD
  refine lv_iload_n hx hb dX11_fewest_0 rfl (lv_at hl 1 rfl) ?_
  refine lv_istore_n (lv' := [(3, .int xa), (0, .ref a0), (1, .int xa), (2, .int xb)]) hx hb dX11_fewest_1 rfl hl (by decide) rfl (fun ls hl => ?_)
  refine lv_iconst (v := (0 : Int32)) hx hb dX11_fewest_2 (by decide) ?_
  refine lv_istore (lv' := [(4, .int (0 : Int32)), (3, .int xa), (0, .ref a0), (1, .int xa), (2, .int xb)]) hx hb dX11_fewest_3 hl (by decide) rfl (fun ls hl => ?_)
  exact L_X11_fewest_l5 hE _ hD (lv_sub hl [2, 4, 1, 0] rfl) hF
def F_X11_fast_j33 (u : xT) (a0 : Nat) (s0 : Int32) : Option Int32 := some s0
theorem B_X11_fast_j33 {p : Program} {l : Launch} {e : Env} {s : State} {m : MethodId} {args : Array Value} {below : List Frame} {meth : Method} {cd : Code} {G : xG} {w0 : xW} {rr : Int32} (hE : xE p s m args meth cd cX11_fast RX11 G 4 (Option.some Jvm.ClassFile.FieldType.int)) {u : xT} {a0 : Nat} {s0 : Int32} {H : Heap} {locs : List Loc} {ls : Array Slot} (hD : tD G (xA w0 s.heap.size) s.heap u H locs) (hl : lv_has ls 4 [(0, .ref a0)]) (hF : F_X11_fast_j33 u a0 s0 = some rr) : W p l e (xR 9 0 0) s m args below meth cd H locs 0 0 (xQi G w0 (fun r z => r = rr ∧ z = ((tE G u), u.1)) below args s 0 0) (F0 m 33 ls [.int s0]) := by
  have hx := hE.1; have hb := hE.2.1
  unfold F_X11_fast_j33 at hF
  obtain rfl := Option.some.inj hF
  exact x_iret hE hD ⟨rfl, rfl⟩ (by omega) (by omega) dX11_fast_33
def F_X11_fast_j14 (u : xT) (a0 : Nat) : Option Int32 := some (-1 : Int32)
theorem B_X11_fast_j14 {p : Program} {l : Launch} {e : Env} {s : State} {m : MethodId} {args : Array Value} {below : List Frame} {meth : Method} {cd : Code} {G : xG} {w0 : xW} {rr : Int32} (hE : xE p s m args meth cd cX11_fast RX11 G 4 (Option.some Jvm.ClassFile.FieldType.int)) {u : xT} {a0 : Nat} {H : Heap} {locs : List Loc} {ls : Array Slot} (hD : tD G (xA w0 s.heap.size) s.heap u H locs) (hl : lv_has ls 4 [(0, .ref a0)]) (hF : F_X11_fast_j14 u a0 = some rr) : W p l e (xR 9 0 0) s m args below meth cd H locs 0 0 (xQi G w0 (fun r z => r = rr ∧ z = ((tE G u), u.1)) below args s 0 0) (F0 m 14 ls []) := by
  have hx := hE.1; have hb := hE.2.1
  unfold F_X11_fast_j14 at hF
  refine lv_iconst (v := (-1 : Int32)) hx hb dX11_fast_14 (by decide) ?_
  obtain rfl := Option.some.inj hF
  exact x_iret hE hD ⟨rfl, rfl⟩ (by omega) (by omega) dX11_fast_15
def F_X11_fast (u : xT) (a0 : Nat) (xa : Int32) (xb : Int32) : Option Int32 := (F_X11_isPurse xa).bind (fun r1 => if r1 = 0 then F_X11_fast_j14 u a0 else (F_X11_isPurse xb).bind (fun r5 => if r5 = 0 then F_X11_fast_j14 u a0 else if tK u a0 = 11 then (F_X11_fewest u a0 xa xb).bind (fun r10 => if 0 ≤ r10 then F_X11_fast_j33 u a0 r10 else F_X11_fast_j33 u a0 (-3 : Int32)) else none))
theorem c_X11_fast {l : Launch} {G : xG} {rr : Int32} {u : xT} {a0 : Nat} {xa : Int32} {xb : Int32} (hF : F_X11_fast u a0 xa xb = some rr) : xMi l G yX11_fast cX11_fast 4 (Option.some Jvm.ClassFile.FieldType.int) 9 0 0 [.ref a0, .int xa, .int xb] (tE G u) u.1 (fun r z => r = rr ∧ z = ((tE G u), u.1)) := by
  unfold F_X11_fast at hF
  refine x_startI rfl (Nat.le_of_ble_eq_true rfl) (fun p e s m args below meth cd ls hE hnm hl hD => ?_)
  have hx := hE.1; have hb := hE.2.1
  have hl : lv_has ls 4 [(0, .ref a0), (1, .int xa), (2, .int xb)] := hl
  have hD : tD G (xA (tE G u) s.heap.size) s.heap u s.heap [] := hD
  refine lv_iload_n hx hb dX11_fast_0 rfl (lv_at hl 1 rfl) ?_
  obtain ⟨r1, k2, hF⟩ := xb_s hF
  refine kSz (As := [.int xa]) (rest := []) hE hl hD (c_X11_isPurse k2) kl_X11_154 rfl rfl (Nat.le_of_ble_eq_true rfl) dX11_fast_1 ⟨Nat.le_of_ble_eq_true rfl, Nat.le_of_ble_eq_true rfl⟩ ⟨Nat.le_of_ble_eq_true rfl, Nat.le_of_ble_eq_true rfl⟩ (fun H locs z3 (hD : tD G _ _ u H locs) => ?_)
  refine lv_if_eq (tgt := 14) hx hb dX11_fast_4 (by decide) (fun c4 => ?_) (fun c4 => ?_)
  · have hF := ite_p hF c4
    exact B_X11_fast_j14 hE hD (lv_sub hl [0] rfl) hF
  · have hF := ite_n hF c4
    refine lv_iload_n hx hb dX11_fast_7 rfl (lv_at hl 2 rfl) ?_
    obtain ⟨r5, k6, hF⟩ := xb_s hF
    refine kSz (As := [.int xb]) (rest := []) hE hl hD (c_X11_isPurse k6) kl_X11_154 rfl rfl (Nat.le_of_ble_eq_true rfl) dX11_fast_8 ⟨Nat.le_of_ble_eq_true rfl, Nat.le_of_ble_eq_true rfl⟩ ⟨Nat.le_of_ble_eq_true rfl, Nat.le_of_ble_eq_true rfl⟩ (fun H locs z7 (hD : tD G _ _ u H locs) => ?_)
    refine lv_if_ne (tgt := 16) hx hb dX11_fast_11 (by decide) (fun c8 => ?_) (fun c8 => ?_)
    · have hF := ite_n hF c8
      refine lv_aload_n hx hb dX11_fast_16 rfl (lv_at hl 0 rfl) ?_
      refine lv_iload_n hx hb dX11_fast_17 rfl (lv_at hl 1 rfl) ?_
      refine lv_iload_n hx hb dX11_fast_18 rfl (lv_at hl 2 rfl) ?_
      obtain ⟨h9, hF⟩ := ite_s hF
      obtain ⟨r10, k11, hF⟩ := xb_s hF
      refine kVi (As := [.int xa, .int xb]) (rest := []) hE hl hD (c_X11_fewest k11) kl_X11_216 (tE_11 h9) rfl rfl rfl rfl (Nat.le_of_ble_eq_true rfl) dX11_fast_19 ⟨Nat.le_of_ble_eq_true rfl, Nat.le_of_ble_eq_true rfl⟩ ⟨Nat.le_of_ble_eq_true rfl, Nat.le_of_ble_eq_true rfl⟩ (fun H locs (hD : tD G _ _ u H locs) => ?_)
      refine lv_istore_n (lv' := [(3, .int r10), (0, .ref a0), (1, .int xa), (2, .int xb)]) hx hb dX11_fast_22 rfl hl (by decide) rfl (fun ls hl => ?_)
      refine lv_iload_n hx hb dX11_fast_23 rfl (lv_at hl 0 rfl) ?_
      refine lv_if_ge (tgt := 32) hx hb dX11_fast_24 (by decide) (fun c12 => ?_) (fun c12 => ?_)
      · have hF := ite_p hF c12
        refine lv_iload_n hx hb dX11_fast_32 rfl (lv_at hl 0 rfl) ?_
        exact B_X11_fast_j33 hE hD (lv_sub hl [1] rfl) hF
      · have hF := ite_n hF c12
        refine lv_bipush (v := (-3 : Int32)) hx hb dX11_fast_27 (by decide) ?_
        refine lv_goto (tgt := 33) hx hb dX11_fast_29 (by decide) ?_
        exact B_X11_fast_j33 hE hD (lv_sub hl [1] rfl) hF
    · have hF := ite_p hF c8
      exact B_X11_fast_j14 hE hD (lv_sub hl [0] rfl) hF
def F_X11_fillLeastSteps_j82 (u : xT) (a0 : Nat) : Option (xT) := some u
theorem B_X11_fillLeastSteps_j82 {p : Program} {l : Launch} {e : Env} {s : State} {m : MethodId} {args : Array Value} {below : List Frame} {meth : Method} {cd : Code} {G : xG} {w0 : xW} {rr : (xT)} (hE : xE p s m args meth cd cX11_fillLeastSteps RX11 G 6 (Option.none : Option Jvm.ClassFile.FieldType)) {u : xT} {a0 : Nat} {H : Heap} {locs : List Loc} {ls : Array Slot} (hD : tD G (xA w0 s.heap.size) s.heap u H locs) (hl : lv_has ls 6 [(0, .ref a0)]) (hF : F_X11_fillLeastSteps_j82 u a0 = some rr) : W p l e (xR 7 0 0) s m args below meth cd H locs 0 0 (xQv G w0 (fun z => z = ((tE G rr), rr.1)) below args s 0 0) (F0 m 82 ls []) := by
  have hx := hE.1; have hb := hE.2.1
  unfold F_X11_fillLeastSteps_j82 at hF
  obtain rfl := Option.some.inj hF
  exact x_vret hE hD rfl (by omega) (by omega) dX11_fillLeastSteps_82
def F_X11_fillLeastSteps_l29 (kc9 : xT → Nat → Int32 → Int32 → Option (xT)) : Nat → xT → Nat → Int32 → Int32 → Int32 → Int32 → Option (xT)
  | 0, _, _, _, _, _, _ => none
  | nn + 1, u, a0, y2, y3, y4, y5 => if tK u a0 = 11 then (tP u a0 0).bind (fun q2 => if tK u q2 = 7 then if (tI u q2 1) ≤ y5 then (tP u a0 13).bind (fun q6 => if tK u q6 = 20 then if xIn y3 (tN u q6) then xlet (tSI u q6 y3.toNatClampNeg y4) (fun t10 => xlet (y3 + (1 : Int32)) (fun x14 => kc9 t10 a0 y2 x14)) else none else none) else (tP u a0 13).bind (fun q15 => if tK u q15 = 20 then if xIn (y3 - (1 : Int32)) (tN u q15) then (F_X11_leastAheadOf u a0 y5 (tI u q15 (y3 - (1 : Int32)).toNatClampNeg)).bind (fun r19 => (F_X11_lesser y4 r19).bind (fun r21 => xlet (y5 + (1 : Int32)) (fun x23 => F_X11_fillLeastSteps_l29 kc9 nn u a0 y2 y3 r21 x23))) else none else none) else none) else none
theorem L_X11_fillLeastSteps_l29 {p : Program} {l : Launch} {e : Env} {s : State} {m : MethodId} {args : Array Value} {below : List Frame} {meth : Method} {cd : Code} {G : xG} {w0 : xW} {rr : (xT)} (hE : xE p s m args meth cd cX11_fillLeastSteps RX11 G 6 (Option.none : Option Jvm.ClassFile.FieldType)) (kc9 : xT → Nat → Int32 → Int32 → Option (xT)) (hc9 : ∀ {u1 : xT} {a0 : Nat} {y2 : Int32} {y3 : Int32} {H : Heap} {locs : List Loc} {ls : Array Slot} , tD G (xA w0 s.heap.size) s.heap u1 H locs → lv_has ls 6 [(0, .ref a0), (2, .int y2), (3, .int y3)] → kc9 u1 a0 y2 y3 = some rr → W p l e (xR 7 0 0) s m args below meth cd H locs 0 0 (xQv G w0 (fun z => z = ((tE G rr), rr.1)) below args s 0 0) (F0 m 9 ls [])) : ∀ (nn : Nat) {u : xT} {a0 : Nat} {y2 : Int32} {y3 : Int32} {y4 : Int32} {y5 : Int32} {H : Heap} {locs : List Loc} {ls : Array Slot} , tD G (xA w0 s.heap.size) s.heap u H locs → lv_has ls 6 [(0, .ref a0), (2, .int y2), (3, .int y3), (4, .int y4), (5, .int y5)] → F_X11_fillLeastSteps_l29 kc9 nn u a0 y2 y3 y4 y5 = some rr → W p l e (xR 7 0 0) s m args below meth cd H locs 0 0 (xQv G w0 (fun z => z = ((tE G rr), rr.1)) below args s 0 0) (F0 m 29 ls []) := by
  have hx := hE.1; have hb := hE.2.1
  intro nn
  induction nn with
  | zero => intro u a0 y2 y3 y4 y5 H locs ls hD hl hF; rw [F_X11_fillLeastSteps_l29] at hF; cases hF
  | succ nn ih =>
    intro u a0 y2 y3 y4 y5 H locs ls hD hl hF
    rw [F_X11_fillLeastSteps_l29] at hF
    refine lv_iload hx hb dX11_fillLeastSteps_29 (lv_at hl 4 rfl) ?_
    refine lv_aload_n hx hb dX11_fillLeastSteps_31 rfl (lv_at hl 0 rfl) ?_
    obtain ⟨h1, hF⟩ := ite_s hF
    obtain ⟨q2, h3, hF⟩ := xb_s hF
    refine gr_X11_10 hE hD h1 h3 dX11_fillLeastSteps_32 ?_
    obtain ⟨h4, hF⟩ := ite_s hF
    refine gf_X11_330 hE hD h4 dX11_fillLeastSteps_35 ?_
    refine lv_icmp_ge (tgt := 68) hx hb dX11_fillLeastSteps_38 (by decide) (fun c5 => ?_) (fun c5 => ?_)
    · have hF := ite_p hF c5
      refine lv_aload_n hx hb dX11_fillLeastSteps_68 rfl (lv_at hl 0 rfl) ?_
      obtain ⟨q6, h7, hF⟩ := xb_s hF
      refine gr_X11_62 hE hD h1 h7 dX11_fillLeastSteps_69 ?_
      refine lv_iload_n hx hb dX11_fillLeastSteps_72 rfl (lv_at hl 2 rfl) ?_
      refine lv_iload hx hb dX11_fillLeastSteps_73 (lv_at hl 3 rfl) ?_
      obtain ⟨h8, hF⟩ := ite_s hF
      obtain ⟨h9, hF⟩ := ite_s hF
      refine t_iast hE hD h8 h9 dX11_fillLeastSteps_75 (fun t10 H locs et10 hD => ?_)
      have hF := xlet_e hF et10
      have h11 : tK t10 a0 = 11 := by rw [et10]; exact h1
      have h12 : tK t10 q2 = 7 := by rw [et10]; exact h4
      have h13 : tK t10 q6 = 20 := by rw [et10]; exact h8
      obtain ⟨x14, ex14⟩ : ∃ y : Int32, y = y3 + (1 : Int32) := ⟨_, rfl⟩
      have hF := xlet_e hF ex14
      refine lv_iinc (v := x14) (lv' := [(3, .int x14), (0, .ref a0), (2, .int y2), (4, .int y4), (5, .int y5)]) hx hb dX11_fillLeastSteps_76 hl (k := 2) rfl (by rw [ex14]; rfl) (by decide) rfl (fun ls hl => ?_)
      refine lv_goto (tgt := 9) hx hb dX11_fillLeastSteps_79 (by decide) ?_
      exact hc9 hD (lv_sub hl [1, 2, 0] rfl) hF
    · have hF := ite_n hF c5
      refine lv_iload hx hb dX11_fillLeastSteps_41 (lv_at hl 3 rfl) ?_
      refine lv_aload_n hx hb dX11_fillLeastSteps_43 rfl (lv_at hl 0 rfl) ?_
      refine lv_iload hx hb dX11_fillLeastSteps_44 (lv_at hl 4 rfl) ?_
      refine lv_aload_n hx hb dX11_fillLeastSteps_46 rfl (lv_at hl 0 rfl) ?_
      obtain ⟨q15, h16, hF⟩ := xb_s hF
      refine gr_X11_62 hE hD h1 h16 dX11_fillLeastSteps_47 ?_
      refine lv_iload_n hx hb dX11_fillLeastSteps_50 rfl (lv_at hl 2 rfl) ?_
      refine lv_iconst (v := (1 : Int32)) hx hb dX11_fillLeastSteps_51 (by decide) ?_
      refine lv_isub hx hb dX11_fillLeastSteps_52 ?_
      obtain ⟨h17, hF⟩ := ite_s hF
      obtain ⟨h18, hF⟩ := ite_s hF
      refine t_iald hE hD h17 h18 dX11_fillLeastSteps_53 ?_
      obtain ⟨r19, k20, hF⟩ := xb_s hF
      refine kVi (As := [.int y5, .int (tI u q15 (y3 - (1 : Int32)).toNatClampNeg)]) (rest := [.int y4]) hE hl hD (c_X11_leastAheadOf k20) kl_X11_357 (tE_11 h1) rfl rfl rfl rfl (Nat.le_of_ble_eq_true rfl) dX11_fillLeastSteps_54 ⟨Nat.le_of_ble_eq_true rfl, Nat.le_of_ble_eq_true rfl⟩ ⟨Nat.le_of_ble_eq_true rfl, Nat.le_of_ble_eq_true rfl⟩ (fun H locs (hD : tD G _ _ u H locs) => ?_)
      obtain ⟨r21, k22, hF⟩ := xb_s hF
      refine kSi (As := [.int y4, .int r19]) (rest := []) hE hl hD (c_X11_lesser k22) kl_X11_360 rfl rfl (Nat.le_of_ble_eq_true rfl) dX11_fillLeastSteps_57 ⟨Nat.le_of_ble_eq_true rfl, Nat.le_of_ble_eq_true rfl⟩ ⟨Nat.le_of_ble_eq_true rfl, Nat.le_of_ble_eq_true rfl⟩ (fun H locs (hD : tD G _ _ u H locs) => ?_)
      refine lv_istore (lv' := [(4, .int r21), (0, .ref a0), (2, .int y2), (3, .int y3), (5, .int y5)]) hx hb dX11_fillLeastSteps_60 hl (by decide) rfl (fun ls hl => ?_)
      obtain ⟨x23, ex23⟩ : ∃ y : Int32, y = y5 + (1 : Int32) := ⟨_, rfl⟩
      have hF := xlet_e hF ex23
      refine lv_iinc (v := x23) (lv' := [(5, .int x23), (4, .int r21), (0, .ref a0), (2, .int y2), (3, .int y3)]) hx hb dX11_fillLeastSteps_62 hl (k := 4) rfl (by rw [ex23]; rfl) (by decide) rfl (fun ls hl => ?_)
      refine lv_goto (tgt := 29) hx hb dX11_fillLeastSteps_65 (by decide) ?_
      exact ih hD (lv_sub hl [2, 3, 4, 1, 0] rfl) hF
def F_X11_fillLeastSteps_l9 : Nat → xT → Nat → Int32 → Int32 → Option (xT)
  | 0, _, _, _, _ => none
  | nn + 1, u, a0, y2, y3 => if y2 < y3 then F_X11_fillLeastSteps_j82 u a0 else if tK u a0 = 11 then (tP u a0 13).bind (fun q26 => if tK u q26 = 20 then if (nI (tN u q26)) ≤ y3 then F_X11_fillLeastSteps_j82 u a0 else F_X11_fillLeastSteps_l29 (F_X11_fillLeastSteps_l9 nn) xFuel u a0 y2 y3 (-1 : Int32) (0 : Int32) else none) else none
theorem L_X11_fillLeastSteps_l9 {p : Program} {l : Launch} {e : Env} {s : State} {m : MethodId} {args : Array Value} {below : List Frame} {meth : Method} {cd : Code} {G : xG} {w0 : xW} {rr : (xT)} (hE : xE p s m args meth cd cX11_fillLeastSteps RX11 G 6 (Option.none : Option Jvm.ClassFile.FieldType)) : ∀ (nn : Nat) {u : xT} {a0 : Nat} {y2 : Int32} {y3 : Int32} {H : Heap} {locs : List Loc} {ls : Array Slot} , tD G (xA w0 s.heap.size) s.heap u H locs → lv_has ls 6 [(0, .ref a0), (2, .int y2), (3, .int y3)] → F_X11_fillLeastSteps_l9 nn u a0 y2 y3 = some rr → W p l e (xR 7 0 0) s m args below meth cd H locs 0 0 (xQv G w0 (fun z => z = ((tE G rr), rr.1)) below args s 0 0) (F0 m 9 ls []) := by
  have hx := hE.1; have hb := hE.2.1
  intro nn
  induction nn with
  | zero => intro u a0 y2 y3 H locs ls hD hl hF; rw [F_X11_fillLeastSteps_l9] at hF; cases hF
  | succ nn ih =>
    intro u a0 y2 y3 H locs ls hD hl hF
    rw [F_X11_fillLeastSteps_l9] at hF
    refine lv_iload_n hx hb dX11_fillLeastSteps_9 rfl (lv_at hl 2 rfl) ?_
    refine lv_iload_n hx hb dX11_fillLeastSteps_10 rfl (lv_at hl 1 rfl) ?_
    refine lv_icmp_gt (tgt := 82) hx hb dX11_fillLeastSteps_11 (by decide) (fun c24 => ?_) (fun c24 => ?_)
    · have hF := ite_p hF c24
      exact B_X11_fillLeastSteps_j82 hE hD (lv_sub hl [0] rfl) hF
    · have hF := ite_n hF c24
      refine lv_iload_n hx hb dX11_fillLeastSteps_14 rfl (lv_at hl 2 rfl) ?_
      refine lv_aload_n hx hb dX11_fillLeastSteps_15 rfl (lv_at hl 0 rfl) ?_
      obtain ⟨h25, hF⟩ := ite_s hF
      obtain ⟨q26, h27, hF⟩ := xb_s hF
      refine gr_X11_62 hE hD h25 h27 dX11_fillLeastSteps_16 ?_
      obtain ⟨h28, hF⟩ := ite_s hF
      refine t_alen hE hD h28 dX11_fillLeastSteps_19 ?_
      refine lv_icmp_ge (tgt := 82) hx hb dX11_fillLeastSteps_20 (by decide) (fun c29 => ?_) (fun c29 => ?_)
      · have hF := ite_p hF c29
        exact B_X11_fillLeastSteps_j82 hE hD (lv_sub hl [0] rfl) hF
      · have hF := ite_n hF c29
        refine lv_iconst (v := (-1 : Int32)) hx hb dX11_fillLeastSteps_23 (by decide) ?_
        refine lv_istore (lv' := [(4, .int (-1 : Int32)), (0, .ref a0), (2, .int y2), (3, .int y3)]) hx hb dX11_fillLeastSteps_24 hl (by decide) rfl (fun ls hl => ?_)
        refine lv_iconst (v := (0 : Int32)) hx hb dX11_fillLeastSteps_26 (by decide) ?_
        refine lv_istore (lv' := [(5, .int (0 : Int32)), (4, .int (-1 : Int32)), (0, .ref a0), (2, .int y2), (3, .int y3)]) hx hb dX11_fillLeastSteps_27 hl (by decide) rfl (fun ls hl => ?_)
        exact L_X11_fillLeastSteps_l29 hE (F_X11_fillLeastSteps_l9 nn) ih _ hD (lv_sub hl [2, 3, 4, 1, 0] rfl) hF
def F_X11_fillLeastSteps (u : xT) (a0 : Nat) (xa : Int32) (xb : Int32) : Option (xT) := if tK u a0 = 11 then (tP u a0 13).bind (fun q31 => if tK u q31 = 20 then if xIn (0 : Int32) (tN u q31) then xlet (tSI u q31 (0 : Int32).toNatClampNeg xa) (fun t35 => F_X11_fillLeastSteps_l9 xFuel t35 a0 xb (1 : Int32)) else none else none) else none
theorem c_X11_fillLeastSteps {l : Launch} {G : xG} {rr : (xT)} {u : xT} {a0 : Nat} {xa : Int32} {xb : Int32} (hF : F_X11_fillLeastSteps u a0 xa xb = some rr) : xMv l G yX11_fillLeastSteps cX11_fillLeastSteps 6 (Option.none : Option Jvm.ClassFile.FieldType) 7 0 0 [.ref a0, .int xa, .int xb] (tE G u) u.1 (fun z => z = ((tE G rr), rr.1)) := by
  unfold F_X11_fillLeastSteps at hF
  refine x_startV rfl (Nat.le_of_ble_eq_true rfl) (fun p e s m args below meth cd ls hE hnm hl hD => ?_)
  have hx := hE.1; have hb := hE.2.1
  have hl : lv_has ls 6 [(0, .ref a0), (1, .int xa), (2, .int xb)] := hl
  have hD : tD G (xA (tE G u) s.heap.size) s.heap u s.heap [] := hD
  refine lv_aload_n hx hb dX11_fillLeastSteps_0 rfl (lv_at hl 0 rfl) ?_
  obtain ⟨h30, hF⟩ := ite_s hF
  obtain ⟨q31, h32, hF⟩ := xb_s hF
  refine gr_X11_62 hE hD h30 h32 dX11_fillLeastSteps_1 ?_
  refine lv_iconst (v := (0 : Int32)) hx hb dX11_fillLeastSteps_4 (by decide) ?_
  refine lv_iload_n hx hb dX11_fillLeastSteps_5 rfl (lv_at hl 1 rfl) ?_
  obtain ⟨h33, hF⟩ := ite_s hF
  obtain ⟨h34, hF⟩ := ite_s hF
  refine t_iast hE hD h33 h34 dX11_fillLeastSteps_6 (fun t35 H locs et35 hD => ?_)
  have hF := xlet_e hF et35
  have h36 : tK t35 a0 = 11 := by rw [et35]; exact h30
  have h37 : tK t35 q31 = 20 := by rw [et35]; exact h33
  refine lv_iconst (v := (1 : Int32)) hx hb dX11_fillLeastSteps_7 (by decide) ?_
  refine lv_istore_n (lv' := [(3, .int (1 : Int32)), (0, .ref a0), (1, .int xa), (2, .int xb)]) hx hb dX11_fillLeastSteps_8 rfl hl (by decide) rfl (fun ls hl => ?_)
  exact L_X11_fillLeastSteps_l9 hE _ hD (lv_sub hl [1, 3, 0] rfl) hF
def F_X11_firstInRow_l2 : Nat → xT → Nat → Int32 → Int32 → Int32 → Option Int32
  | 0, _, _, _, _, _ => none
  | nn + 1, u, a0, y1, y2, y3 => if tK u a0 = 11 then (tP u a0 0).bind (fun q2 => if tK u q2 = 7 then if (tI u q2 1) ≤ y3 then some (-1 : Int32) else (F_X11_behindOf u a0 y3 y1).bind (fun r6 => (tP u a0 13).bind (fun q8 => (F_X11_entryOf u q8 y2).bind (fun r10 => (F_X11_suffices r6 r10).bind (fun r12 => if r12 = 0 then xlet (y3 + (1 : Int32)) (fun x16 => F_X11_firstInRow_l2 nn u a0 y1 y2 x16) else some y3)))) else none) else none
theorem L_X11_firstInRow_l2 {p : Program} {l : Launch} {e : Env} {s : State} {m : MethodId} {args : Array Value} {below : List Frame} {meth : Method} {cd : Code} {G : xG} {w0 : xW} {rr : Int32} (hE : xE p s m args meth cd cX11_firstInRow RX11 G 4 (Option.some Jvm.ClassFile.FieldType.int)) : ∀ (nn : Nat) {u : xT} {a0 : Nat} {y1 : Int32} {y2 : Int32} {y3 : Int32} {H : Heap} {locs : List Loc} {ls : Array Slot} , tD G (xA w0 s.heap.size) s.heap u H locs → lv_has ls 4 [(0, .ref a0), (1, .int y1), (2, .int y2), (3, .int y3)] → F_X11_firstInRow_l2 nn u a0 y1 y2 y3 = some rr → W p l e (xR 7 0 0) s m args below meth cd H locs 0 0 (xQi G w0 (fun r z => r = rr ∧ z = ((tE G u), u.1)) below args s 0 0) (F0 m 2 ls []) := by
  have hx := hE.1; have hb := hE.2.1
  intro nn
  induction nn with
  | zero => intro u a0 y1 y2 y3 H locs ls hD hl hF; rw [F_X11_firstInRow_l2] at hF; cases hF
  | succ nn ih =>
    intro u a0 y1 y2 y3 H locs ls hD hl hF
    rw [F_X11_firstInRow_l2] at hF
    refine lv_iload_n hx hb dX11_firstInRow_2 rfl (lv_at hl 3 rfl) ?_
    refine lv_aload_n hx hb dX11_firstInRow_3 rfl (lv_at hl 0 rfl) ?_
    obtain ⟨h1, hF⟩ := ite_s hF
    obtain ⟨q2, h3, hF⟩ := xb_s hF
    refine gr_X11_10 hE hD h1 h3 dX11_firstInRow_4 ?_
    obtain ⟨h4, hF⟩ := ite_s hF
    refine gf_X11_330 hE hD h4 dX11_firstInRow_7 ?_
    refine lv_icmp_ge (tgt := 41) hx hb dX11_firstInRow_10 (by decide) (fun c5 => ?_) (fun c5 => ?_)
    · have hF := ite_p hF c5
      refine lv_iconst (v := (-1 : Int32)) hx hb dX11_firstInRow_41 (by decide) ?_
      obtain rfl := Option.some.inj hF
      exact x_iret hE hD ⟨rfl, rfl⟩ (by omega) (by omega) dX11_firstInRow_42
    · have hF := ite_n hF c5
      refine lv_aload_n hx hb dX11_firstInRow_13 rfl (lv_at hl 0 rfl) ?_
      refine lv_iload_n hx hb dX11_firstInRow_14 rfl (lv_at hl 3 rfl) ?_
      refine lv_iload_n hx hb dX11_firstInRow_15 rfl (lv_at hl 1 rfl) ?_
      obtain ⟨r6, k7, hF⟩ := xb_s hF
      refine kVi (As := [.int y3, .int y1]) (rest := []) hE hl hD (c_X11_behindOf k7) kl_X11_213 (tE_11 h1) rfl rfl rfl rfl (Nat.le_of_ble_eq_true rfl) dX11_firstInRow_16 ⟨Nat.le_of_ble_eq_true rfl, Nat.le_of_ble_eq_true rfl⟩ ⟨Nat.le_of_ble_eq_true rfl, Nat.le_of_ble_eq_true rfl⟩ (fun H locs (hD : tD G _ _ u H locs) => ?_)
      refine lv_aload_n hx hb dX11_firstInRow_19 rfl (lv_at hl 0 rfl) ?_
      obtain ⟨q8, h9, hF⟩ := xb_s hF
      refine gr_X11_62 hE hD h1 h9 dX11_firstInRow_20 ?_
      refine lv_iload_n hx hb dX11_firstInRow_23 rfl (lv_at hl 2 rfl) ?_
      obtain ⟨r10, k11, hF⟩ := xb_s hF
      refine kSi (As := [.ref q8, .int y2]) (rest := [.int r6]) hE hl hD (c_X11_entryOf k11) kl_X11_347 rfl rfl (Nat.le_of_ble_eq_true rfl) dX11_firstInRow_24 ⟨Nat.le_of_ble_eq_true rfl, Nat.le_of_ble_eq_true rfl⟩ ⟨Nat.le_of_ble_eq_true rfl, Nat.le_of_ble_eq_true rfl⟩ (fun H locs (hD : tD G _ _ u H locs) => ?_)
      obtain ⟨r12, k13, hF⟩ := xb_s hF
      refine kSz (As := [.int r6, .int r10]) (rest := []) hE hl hD (c_X11_suffices k13) kl_X11_363 rfl rfl (Nat.le_of_ble_eq_true rfl) dX11_firstInRow_27 ⟨Nat.le_of_ble_eq_true rfl, Nat.le_of_ble_eq_true rfl⟩ ⟨Nat.le_of_ble_eq_true rfl, Nat.le_of_ble_eq_true rfl⟩ (fun H locs z14 (hD : tD G _ _ u H locs) => ?_)
      refine lv_if_eq (tgt := 35) hx hb dX11_firstInRow_30 (by decide) (fun c15 => ?_) (fun c15 => ?_)
      · have hF := ite_p hF c15
        obtain ⟨x16, ex16⟩ : ∃ y : Int32, y = y3 + (1 : Int32) := ⟨_, rfl⟩
        have hF := xlet_e hF ex16
        refine lv_iinc (v := x16) (lv' := [(3, .int x16), (0, .ref a0), (1, .int y1), (2, .int y2)]) hx hb dX11_firstInRow_35 hl (k := 3) rfl (by rw [ex16]; rfl) (by decide) rfl (fun ls hl => ?_)
        refine lv_goto (tgt := 2) hx hb dX11_firstInRow_38 (by decide) ?_
        exact ih hD (lv_sub hl [1, 2, 3, 0] rfl) hF
      · have hF := ite_n hF c15
        refine lv_iload_n hx hb dX11_firstInRow_33 rfl (lv_at hl 3 rfl) ?_
        obtain rfl := Option.some.inj hF
        exact x_iret hE hD ⟨rfl, rfl⟩ (by omega) (by omega) dX11_firstInRow_34
def F_X11_firstInRow (u : xT) (a0 : Nat) (xa : Int32) (xb : Int32) : Option Int32 := F_X11_firstInRow_l2 xFuel u a0 xa xb (0 : Int32)
theorem c_X11_firstInRow {l : Launch} {G : xG} {rr : Int32} {u : xT} {a0 : Nat} {xa : Int32} {xb : Int32} (hF : F_X11_firstInRow u a0 xa xb = some rr) : xMi l G yX11_firstInRow cX11_firstInRow 4 (Option.some Jvm.ClassFile.FieldType.int) 7 0 0 [.ref a0, .int xa, .int xb] (tE G u) u.1 (fun r z => r = rr ∧ z = ((tE G u), u.1)) := by
  unfold F_X11_firstInRow at hF
  refine x_startI rfl (Nat.le_of_ble_eq_true rfl) (fun p e s m args below meth cd ls hE hnm hl hD => ?_)
  have hx := hE.1; have hb := hE.2.1
  have hl : lv_has ls 4 [(0, .ref a0), (1, .int xa), (2, .int xb)] := hl
  have hD : tD G (xA (tE G u) s.heap.size) s.heap u s.heap [] := hD
  refine lv_iconst (v := (0 : Int32)) hx hb dX11_firstInRow_0 (by decide) ?_
  refine lv_istore_n (lv' := [(3, .int (0 : Int32)), (0, .ref a0), (1, .int xa), (2, .int xb)]) hx hb dX11_firstInRow_1 rfl hl (by decide) rfl (fun ls hl => ?_)
  exact L_X11_firstInRow_l2 hE _ hD (lv_sub hl [1, 2, 3, 0] rfl) hF
